abbrev iX1_across : zI := (RX1, cX1_across, 4, (Option.some .int), false)
def tX1_across : List (Nat × Instr × Nat) := [(0, .aload_n 0, 1), (1, .iload_n 2, 1), (2, .invokevirtual 85, 3), (5, .istore_n 3, 1), (6, .iload_n 1, 1), (7, .iconst (-1), 1), (8, .if_icmp .eq 19, 3), (11, .iload_n 3, 1), (12, .iconst (-1), 1), (13, .if_icmp .eq 14, 3), (16, .iload_n 1, 1), (17, .invokestatic 89, 3), (20, .iload_n 3, 1), (21, .invokestatic 89, 3), (24, .if_icmp .ne 7, 3), (27, .iconst (-1), 1), (28, .goto 4, 3), (31, .iload_n 3, 1), (32, .ireturn, 1)]
set_option maxRecDepth 100000 in
theorem tkX1_across : ∀ q ∈ tX1_across, decode cX1_across q.1 = .ok q.2 := by decide +kernel
theorem vmX1_across : zVM yX1_across cX1_across 4 (Option.some .int) 2 1 := ⟨kX1_across, q_971, q_972, q_155, ⟨_, rfl, rfl⟩, by decide +kernel, by decide⟩
set_option maxHeartbeats 2000000 in
set_option maxRecDepth 20000 in
theorem coX1_across_J27 (l : Launch) (e : Nat) (he : 2 ≤ e)  : zCo l (e + 1) 0 0 iX1_across 27 [] [] (X1_across_J27 ) := by
  unfold X1_across_J27
  refine zco_p tkX1_across 15 2 (pc' := 32) (L' := []) (S' := [.int ((-1))]) rfl ?_
  exact zco_iret rfl rfl rfl (zdk (cc := cX1_across) (q := (32, .ireturn, 1)) tkX1_across 18 rfl)
set_option maxHeartbeats 2000000 in
set_option maxRecDepth 20000 in
theorem coX1_across (l : Launch) (e : Nat) (he : 2 ≤ e) (v0 : Nat) (v1 : Int32) (v2 : Int32) : zCo l (e + 1) 0 0 iX1_across 0 [(0, .ref v0), (1, .int v1), (2, .int v2)] [] (X1_across v0 v1 v2) := by
  unfold X1_across
  refine zco_p tkX1_across 0 2 (pc' := 2) (L' := [(0, .ref v0), (1, .int v1), (2, .int v2)]) (S' := [.int v2, .ref v0]) rfl ?_
  refine zco_Vi (rc := 0) (rs := 0) (mc := 0) (ms := 0) (As := [.int v2]) (S := []) vmX1_slot (mtX1_slot l e (by omega) v0 v2) q_974 rfl rfl (Nat.le_of_ble_eq_true rfl) (zdk (cc := cX1_across) (q := (2, .invokevirtual 85, 3)) tkX1_across 2 rfl) (fun y1 => ?_)
  refine zco_p tkX1_across 3 3 (pc' := 8) (L' := [(3, .int y1), (0, .ref v0), (1, .int v1), (2, .int v2)]) (S' := [.int ((-1)), .int v1]) rfl ?_
  refine zco_icmp_eq (tgt := 27) (zdk (cc := cX1_across) (q := (8, .if_icmp .eq 19, 3)) tkX1_across 6 rfl) rfl ?_ ?_
  · exact zco_sub [] rfl (coX1_across_J27 l e he )
  · refine zco_p tkX1_across 7 2 (pc' := 13) (L' := [(3, .int y1), (0, .ref v0), (1, .int v1), (2, .int v2)]) (S' := [.int ((-1)), .int y1]) rfl ?_
    refine zco_icmp_eq (tgt := 27) (zdk (cc := cX1_across) (q := (13, .if_icmp .eq 14, 3)) tkX1_across 9 rfl) rfl ?_ ?_
    · exact zco_sub [] rfl (coX1_across_J27 l e he )
    · refine zco_p tkX1_across 10 1 (pc' := 17) (L' := [(3, .int y1), (0, .ref v0), (1, .int v1), (2, .int v2)]) (S' := [.int v1]) rfl ?_
      refine zco_Ni (rc := 0) (rs := 0) (mc := 0) (ms := 0) (As := [.int v1]) (S := []) vmX11_sideOf (mtX11_sideOf l e (by omega) v1) (host := "ClothWedding") (by decide +kernel) rfl rfl (Nat.le_of_ble_eq_true rfl) (zdk (cc := cX1_across) (q := (17, .invokestatic 89, 3)) tkX1_across 11 rfl) (fun y2 => ?_)
      refine zco_p tkX1_across 12 1 (pc' := 21) (L' := [(3, .int y1), (0, .ref v0), (1, .int v1), (2, .int v2)]) (S' := [.int y1, .int y2]) rfl ?_
      refine zco_Ni (rc := 0) (rs := 0) (mc := 0) (ms := 0) (As := [.int y1]) (S := [.int y2]) vmX11_sideOf (mtX11_sideOf l e (by omega) y1) (host := "ClothWedding") (by decide +kernel) rfl rfl (Nat.le_of_ble_eq_true rfl) (zdk (cc := cX1_across) (q := (21, .invokestatic 89, 3)) tkX1_across 13 rfl) (fun y3 => ?_)
      refine zco_icmp_ne (tgt := 31) (zdk (cc := cX1_across) (q := (24, .if_icmp .ne 7, 3)) tkX1_across 14 rfl) rfl ?_ ?_
      · refine zco_p tkX1_across 17 1 (pc' := 32) (L' := [(3, .int y1), (0, .ref v0), (1, .int v1), (2, .int v2)]) (S' := [.int y1]) rfl ?_
        exact zco_iret rfl rfl rfl (zdk (cc := cX1_across) (q := (32, .ireturn, 1)) tkX1_across 18 rfl)
      · exact zco_sub [] rfl (coX1_across_J27 l e he )
theorem mtX1_across (l : Launch) (d : Nat) (hd : 3 ≤ d) (v0 : Nat) (v1 : Int32) (v2 : Int32) : zMet l d 0 0 yX1_across cX1_across 4 (Option.some .int) [.ref v0, .int v1, .int v2] (X1_across v0 v1 v2) := by
  obtain ⟨e, rfl⟩ : ∃ e, d = e + 1 := ⟨d - 1, by omega⟩
  exact zmet_of (own := RX1) (ini := false) (by decide +kernel) rfl (fun _ => by contradiction) (Nat.le_of_ble_eq_true rfl) (coX1_across l e (by omega) v0 v1 v2)
abbrev iX3_fact : zI := (RX3, cX3_fact, 2, (Option.some .int), false)
def tX3_fact : List (Nat × Instr × Nat) := [(0, .iload_n 1, 1), (1, .ifCond .lt 15, 3), (4, .iload_n 1, 1), (5, .aload_n 0, 1), (6, .arraylength, 1), (7, .if_icmp .ge 9, 3), (10, .aload_n 0, 1), (11, .iload_n 1, 1), (12, .iaload, 1), (13, .goto 4, 3), (16, .iconst 0, 1), (17, .ireturn, 1)]
set_option maxRecDepth 100000 in
theorem tkX3_fact : ∀ q ∈ tX3_fact, decode cX3_fact q.1 = .ok q.2 := by decide +kernel
theorem vmX3_fact : zSM yX3_fact cX3_fact 2 (Option.some .int) 2 := ⟨kX3_fact, q_988, q_152, by decide +kernel, by decide⟩
set_option maxHeartbeats 2000000 in
set_option maxRecDepth 20000 in
theorem coX3_fact (l : Launch) (e : Nat) (he : 0 ≤ e) (v0 : Nat) (v1 : Int32) : zCo l (e + 1) 0 0 iX3_fact 0 [(0, .ref v0), (1, .int v1)] [] (X3_fact v0 v1) := by
  unfold X3_fact
  refine zco_p tkX3_fact 0 1 (pc' := 1) (L' := [(0, .ref v0), (1, .int v1)]) (S' := [.int v1]) rfl ?_
  refine zco_if_lt (tgt := 16) (zdk (cc := cX3_fact) (q := (1, .ifCond .lt 15, 3)) tkX3_fact 1 rfl) rfl ?_ ?_
  · refine zco_p tkX3_fact 10 1 (pc' := 17) (L' := [(0, .ref v0), (1, .int v1)]) (S' := [.int 0]) rfl ?_
    exact zco_iret rfl rfl rfl (zdk (cc := cX3_fact) (q := (17, .ireturn, 1)) tkX3_fact 11 rfl)
  · refine zco_p tkX3_fact 2 2 (pc' := 6) (L' := [(0, .ref v0), (1, .int v1)]) (S' := [.ref v0, .int v1]) rfl ?_
    refine zco_alen (zdk (cc := cX3_fact) (q := (6, .arraylength, 1)) tkX3_fact 4 rfl) (fun x1 => ?_)
    refine zco_icmp_ge (tgt := 16) (zdk (cc := cX3_fact) (q := (7, .if_icmp .ge 9, 3)) tkX3_fact 5 rfl) rfl ?_ ?_
    · refine zco_p tkX3_fact 10 1 (pc' := 17) (L' := [(0, .ref v0), (1, .int v1)]) (S' := [.int 0]) rfl ?_
      exact zco_iret rfl rfl rfl (zdk (cc := cX3_fact) (q := (17, .ireturn, 1)) tkX3_fact 11 rfl)
    · refine zco_p tkX3_fact 6 2 (pc' := 12) (L' := [(0, .ref v0), (1, .int v1)]) (S' := [.int v1, .ref v0]) rfl ?_
      refine zco_iaload (zdk (cc := cX3_fact) (q := (12, .iaload, 1)) tkX3_fact 8 rfl) (fun x2 => ?_)
      refine zco_p tkX3_fact 9 1 (pc' := 17) (L' := [(0, .ref v0), (1, .int v1)]) (S' := [.int x2]) rfl ?_
      exact zco_iret rfl rfl rfl (zdk (cc := cX3_fact) (q := (17, .ireturn, 1)) tkX3_fact 11 rfl)
theorem mtX3_fact (l : Launch) (d : Nat) (hd : 1 ≤ d) (v0 : Nat) (v1 : Int32) : zMet l d 0 0 yX3_fact cX3_fact 2 (Option.some .int) [.ref v0, .int v1] (X3_fact v0 v1) := by
  obtain ⟨e, rfl⟩ : ∃ e, d = e + 1 := ⟨d - 1, by omega⟩
  exact zmet_of (own := RX3) (ini := false) (by decide +kernel) rfl (fun _ => by contradiction) (Nat.le_of_ble_eq_true rfl) (coX3_fact l e (by omega) v0 v1)
abbrev iX3_bounded : zI := (RX3, cX3_bounded, 2, (Option.some .int), false)
def tX3_bounded : List (Nat × Instr × Nat) := [(0, .lload_n 0, 1), (1, .ldc2_w 62, 3), (4, .lcmp, 1), (5, .ifCond .le 6, 3), (8, .ldc 64, 2), (10, .ireturn, 1), (11, .lload_n 0, 1), (12, .ldc2_w 65, 3), (15, .lcmp, 1), (16, .ifCond .ge 8, 3), (19, .ldc 67, 2), (21, .goto 5, 3), (24, .lload_n 0, 1), (25, .l2i, 1), (26, .ireturn, 1)]
set_option maxRecDepth 100000 in
theorem tkX3_bounded : ∀ q ∈ tX3_bounded, decode cX3_bounded q.1 = .ok q.2 := by decide +kernel
theorem vmX3_bounded : zSM yX3_bounded cX3_bounded 2 (Option.some .int) 1 := ⟨kX3_bounded, q_994, q_152, by decide +kernel, by decide⟩
set_option maxHeartbeats 2000000 in
set_option maxRecDepth 20000 in
theorem coX3_bounded (l : Launch) (e : Nat) (he : 0 ≤ e) (v0 : Int64) : zCo l (e + 1) 0 0 iX3_bounded 0 [(0, .long v0)] [] (X3_bounded v0) := by
  unfold X3_bounded
  refine zco_p tkX3_bounded 0 1 (pc' := 1) (L' := [(0, .long v0)]) (S' := [.long v0]) rfl ?_
  refine zco_ldc2 q_996 (zdk (cc := cX3_bounded) (q := (1, .ldc2_w 62, 3)) tkX3_bounded 1 rfl) ?_
  refine zco_lcmp_le (tgt := 11) (zdk (cc := cX3_bounded) (q := (4, .lcmp, 1)) tkX3_bounded 2 rfl) (zdk (cc := cX3_bounded) (q := (5, .ifCond .le 6, 3)) tkX3_bounded 3 rfl) rfl ?_ ?_
  · refine zco_p tkX3_bounded 6 1 (pc' := 12) (L' := [(0, .long v0)]) (S' := [.long v0]) rfl ?_
    refine zco_ldc2 q_998 (zdk (cc := cX3_bounded) (q := (12, .ldc2_w 65, 3)) tkX3_bounded 7 rfl) ?_
    refine zco_lcmp_ge (tgt := 24) (zdk (cc := cX3_bounded) (q := (15, .lcmp, 1)) tkX3_bounded 8 rfl) (zdk (cc := cX3_bounded) (q := (16, .ifCond .ge 8, 3)) tkX3_bounded 9 rfl) rfl ?_ ?_
    · refine zco_p tkX3_bounded 12 2 (pc' := 26) (L' := [(0, .long v0)]) (S' := [.int v0.toInt32]) rfl ?_
      exact zco_iret rfl rfl rfl (zdk (cc := cX3_bounded) (q := (26, .ireturn, 1)) tkX3_bounded 14 rfl)
    · refine zco_ldc q_999 (zdk (cc := cX3_bounded) (q := (19, .ldc 67, 2)) tkX3_bounded 10 rfl) ?_
      refine zco_p tkX3_bounded 11 1 (pc' := 26) (L' := [(0, .long v0)]) (S' := [.int ((-1000000))]) rfl ?_
      exact zco_iret rfl rfl rfl (zdk (cc := cX3_bounded) (q := (26, .ireturn, 1)) tkX3_bounded 14 rfl)
  · refine zco_ldc q_997 (zdk (cc := cX3_bounded) (q := (8, .ldc 64, 2)) tkX3_bounded 4 rfl) ?_
    exact zco_iret rfl rfl rfl (zdk (cc := cX3_bounded) (q := (10, .ireturn, 1)) tkX3_bounded 5 rfl)
theorem mtX3_bounded (l : Launch) (d : Nat) (hd : 1 ≤ d) (v0 : Int64) : zMet l d 0 0 yX3_bounded cX3_bounded 2 (Option.some .int) [.long v0] (X3_bounded v0) := by
  obtain ⟨e, rfl⟩ : ∃ e, d = e + 1 := ⟨d - 1, by omega⟩
  exact zmet_of (own := RX3) (ini := false) (by decide +kernel) rfl (fun _ => by contradiction) (Nat.le_of_ble_eq_true rfl) (coX3_bounded l e (by omega) v0)
abbrev iJ9_floorDiv_7cf53 : zI := (RJ9, cJ9_floorDiv_7cf53, 3, (Option.some .int), false)
def tJ9_floorDiv_7cf53 : List (Nat × Instr × Nat) := [(0, .iload_n 0, 1), (1, .iload_n 1, 1), (2, .idiv, 1), (3, .istore_n 2, 1), (4, .iload_n 0, 1), (5, .iload_n 1, 1), (6, .ixor, 1), (7, .ifCond .ge 14, 3), (10, .iload_n 2, 1), (11, .iload_n 1, 1), (12, .imul, 1), (13, .iload_n 0, 1), (14, .if_icmp .eq 7, 3), (17, .iload_n 2, 1), (18, .iconst 1, 1), (19, .isub, 1), (20, .ireturn, 1), (21, .iload_n 2, 1), (22, .ireturn, 1)]
set_option maxRecDepth 100000 in
theorem tkJ9_floorDiv_7cf53 : ∀ q ∈ tJ9_floorDiv_7cf53, decode cJ9_floorDiv_7cf53 q.1 = .ok q.2 := by decide +kernel
theorem vmJ9_floorDiv_7cf53 : zSM yJ9_floorDiv_7cf53 cJ9_floorDiv_7cf53 3 (Option.some .int) 2 := ⟨kJ9_floorDiv_7cf53, q_1001, q_168, by decide +kernel, by decide⟩
set_option maxHeartbeats 2000000 in
set_option maxRecDepth 20000 in
theorem coJ9_floorDiv_7cf53 (l : Launch) (e : Nat) (he : 0 ≤ e) (v0 : Int32) (v1 : Int32) : zCo l (e + 1) 0 0 iJ9_floorDiv_7cf53 0 [(0, .int v0), (1, .int v1)] [] (J9_floorDiv_7cf53 v0 v1) := by
  unfold J9_floorDiv_7cf53
  refine zco_p tkJ9_floorDiv_7cf53 0 2 (pc' := 2) (L' := [(0, .int v0), (1, .int v1)]) (S' := [.int v1, .int v0]) rfl ?_
  refine zco_idiv (zdk (cc := cJ9_floorDiv_7cf53) (q := (2, .idiv, 1)) tkJ9_floorDiv_7cf53 2 rfl) ?_
  refine zco_p tkJ9_floorDiv_7cf53 3 4 (pc' := 7) (L' := [(2, .int (v0 / v1)), (0, .int v0), (1, .int v1)]) (S' := [.int (v0 ^^^ v1)]) rfl ?_
  refine zco_if_ge (tgt := 21) (zdk (cc := cJ9_floorDiv_7cf53) (q := (7, .ifCond .ge 14, 3)) tkJ9_floorDiv_7cf53 7 rfl) rfl ?_ ?_
  · refine zco_p tkJ9_floorDiv_7cf53 17 1 (pc' := 22) (L' := [(2, .int (v0 / v1)), (0, .int v0), (1, .int v1)]) (S' := [.int (v0 / v1)]) rfl ?_
    exact zco_iret rfl rfl rfl (zdk (cc := cJ9_floorDiv_7cf53) (q := (22, .ireturn, 1)) tkJ9_floorDiv_7cf53 18 rfl)
  · refine zco_p tkJ9_floorDiv_7cf53 8 4 (pc' := 14) (L' := [(2, .int (v0 / v1)), (0, .int v0), (1, .int v1)]) (S' := [.int v0, .int ((v0 / v1) * v1)]) rfl ?_
    refine zco_icmp_eq (tgt := 21) (zdk (cc := cJ9_floorDiv_7cf53) (q := (14, .if_icmp .eq 7, 3)) tkJ9_floorDiv_7cf53 12 rfl) rfl ?_ ?_
    · refine zco_p tkJ9_floorDiv_7cf53 17 1 (pc' := 22) (L' := [(2, .int (v0 / v1)), (0, .int v0), (1, .int v1)]) (S' := [.int (v0 / v1)]) rfl ?_
      exact zco_iret rfl rfl rfl (zdk (cc := cJ9_floorDiv_7cf53) (q := (22, .ireturn, 1)) tkJ9_floorDiv_7cf53 18 rfl)
    · refine zco_p tkJ9_floorDiv_7cf53 13 3 (pc' := 20) (L' := [(2, .int (v0 / v1)), (0, .int v0), (1, .int v1)]) (S' := [.int ((v0 / v1) - 1)]) rfl ?_
      exact zco_iret rfl rfl rfl (zdk (cc := cJ9_floorDiv_7cf53) (q := (20, .ireturn, 1)) tkJ9_floorDiv_7cf53 16 rfl)
theorem mtJ9_floorDiv_7cf53 (l : Launch) (d : Nat) (hd : 1 ≤ d) (v0 : Int32) (v1 : Int32) : zMet l d 0 0 yJ9_floorDiv_7cf53 cJ9_floorDiv_7cf53 3 (Option.some .int) [.int v0, .int v1] (J9_floorDiv_7cf53 v0 v1) := by
  obtain ⟨e, rfl⟩ : ∃ e, d = e + 1 := ⟨d - 1, by omega⟩
  exact zmet_of (own := RJ9) (ini := false) (by decide +kernel) rfl (fun _ => by contradiction) (Nat.le_of_ble_eq_true rfl) (coJ9_floorDiv_7cf53 l e (by omega) v0 v1)
abbrev iX3_ofTwo : zI := (RX3, cX3_ofTwo, 3, (Option.some .int), false)
def tX3_ofTwo : List (Nat × Instr × Nat) := [(0, .iload_n 0, 1), (1, .tableswitch 145 20001 20010 #[55, 64, 73, 82, 96, 102, 108, 119, 130, 141], 55), (56, .iload_n 1, 1), (57, .i2l, 1), (58, .iload_n 2, 1), (59, .i2l, 1), (60, .ladd, 1), (61, .invokestatic 52, 3), (64, .ireturn, 1), (65, .iload_n 1, 1), (66, .i2l, 1), (67, .iload_n 2, 1), (68, .i2l, 1), (69, .lsub, 1), (70, .invokestatic 52, 3), (73, .ireturn, 1), (74, .iload_n 1, 1), (75, .i2l, 1), (76, .iload_n 2, 1), (77, .i2l, 1), (78, .lmul, 1), (79, .invokestatic 52, 3), (82, .ireturn, 1), (83, .iload_n 2, 1), (84, .ifCond .ne 7, 3), (87, .iconst 0, 1), (88, .goto 8, 3), (91, .iload_n 1, 1), (92, .iload_n 2, 1), (93, .invokestatic 56, 3), (96, .ireturn, 1), (97, .iload_n 1, 1), (98, .iload_n 2, 1), (99, .invokestatic 59, 3), (102, .ireturn, 1), (103, .iload_n 1, 1), (104, .iload_n 2, 1), (105, .invokestatic 34, 3), (108, .ireturn, 1), (109, .iload_n 1, 1), (110, .iload_n 2, 1), (111, .if_icmp .ge 7, 3), (114, .iconst 1, 1), (115, .goto 4, 3), (118, .iconst 0, 1), (119, .ireturn, 1), (120, .iload_n 1, 1), (121, .iload_n 2, 1), (122, .if_icmp .le 7, 3), (125, .iconst 1, 1), (126, .goto 4, 3), (129, .iconst 0, 1), (130, .ireturn, 1), (131, .iload_n 1, 1), (132, .iload_n 2, 1), (133, .if_icmp .ne 7, 3), (136, .iconst 1, 1), (137, .goto 4, 3), (140, .iconst 0, 1), (141, .ireturn, 1), (142, .iload_n 1, 1), (143, .iload_n 2, 1), (144, .iand, 1), (145, .ireturn, 1), (146, .iload_n 1, 1), (147, .iload_n 2, 1), (148, .ior, 1), (149, .ireturn, 1)]
set_option maxRecDepth 100000 in
theorem tkX3_ofTwo : ∀ q ∈ tX3_ofTwo, decode cX3_ofTwo q.1 = .ok q.2 := by decide +kernel
theorem vmX3_ofTwo : zSM yX3_ofTwo cX3_ofTwo 3 (Option.some .int) 3 := ⟨kX3_ofTwo, q_991, q_152, by decide +kernel, by decide⟩
set_option maxHeartbeats 2000000 in
set_option maxRecDepth 20000 in
theorem coX3_ofTwo (l : Launch) (e : Nat) (he : 1 ≤ e) (v0 : Int32) (v1 : Int32) (v2 : Int32) : zCo l (e + 1) 0 0 iX3_ofTwo 0 [(0, .int v0), (1, .int v1), (2, .int v2)] [] (X3_ofTwo v0 v1 v2) := by
  unfold X3_ofTwo
  refine zco_p tkX3_ofTwo 0 1 (pc' := 1) (L' := [(0, .int v0), (1, .int v1), (2, .int v2)]) (S' := [.int v0]) rfl ?_
  refine @zco_tab l (e + 1) 0 0 iX3_ofTwo 1 [(0, .int v0), (1, .int v1), (2, .int v2)] [] _ v0 145 20001 20010 #[55, 64, 73, 82, 96, 102, 108, 119, 130, 141] 55 (zdk (cc := cX3_ofTwo) (q := (1, .tableswitch 145 20001 20010 #[55, 64, 73, 82, 96, 102, 108, 119, 130, 141], 55)) tkX3_ofTwo 1 rfl) 146 rfl [56, 65, 74, 83, 97, 103, 109, 120, 131, 142] (X3_ofTwo_S1 v1 v2) (by decide) (by decide) ?_ (fun j t ht => ?_)
  · refine zco_p tkX3_ofTwo 64 3 (pc' := 149) (L' := [(0, .int v0), (1, .int v1), (2, .int v2)]) (S' := [.int (v1 ||| v2)]) rfl ?_
    exact zco_iret rfl rfl rfl (zdk (cc := cX3_ofTwo) (q := (149, .ireturn, 1)) tkX3_ofTwo 67 rfl)
  · match j, ht with
    | 0, ht =>
      cases ht
      show zCo l (e + 1) 0 0 iX3_ofTwo 56 [(0, .int v0), (1, .int v1), (2, .int v2)] [] (z_ci (X3_bounded (v1.toInt64 + v2.toInt64)) fun y1 => z_ret (some (.int y1)))
      refine zco_p tkX3_ofTwo 2 5 (pc' := 61) (L' := [(0, .int v0), (1, .int v1), (2, .int v2)]) (S' := [.long (v1.toInt64 + v2.toInt64)]) rfl ?_
      refine zco_Si (rc := 0) (rs := 0) (mc := 0) (ms := 0) (As := [.long (v1.toInt64 + v2.toInt64)]) (S := []) vmX3_bounded (mtX3_bounded l e (by omega) (v1.toInt64 + v2.toInt64)) q_993 rfl rfl (Nat.le_of_ble_eq_true rfl) (zdk (cc := cX3_ofTwo) (q := (61, .invokestatic 52, 3)) tkX3_ofTwo 7 rfl) (fun y1 => ?_)
      exact zco_iret rfl rfl rfl (zdk (cc := cX3_ofTwo) (q := (64, .ireturn, 1)) tkX3_ofTwo 8 rfl)
    | 1, ht =>
      cases ht
      show zCo l (e + 1) 0 0 iX3_ofTwo 65 [(0, .int v0), (1, .int v1), (2, .int v2)] [] (z_ci (X3_bounded (v1.toInt64 - v2.toInt64)) fun y2 => z_ret (some (.int y2)))
      refine zco_p tkX3_ofTwo 9 5 (pc' := 70) (L' := [(0, .int v0), (1, .int v1), (2, .int v2)]) (S' := [.long (v1.toInt64 - v2.toInt64)]) rfl ?_
      refine zco_Si (rc := 0) (rs := 0) (mc := 0) (ms := 0) (As := [.long (v1.toInt64 - v2.toInt64)]) (S := []) vmX3_bounded (mtX3_bounded l e (by omega) (v1.toInt64 - v2.toInt64)) q_993 rfl rfl (Nat.le_of_ble_eq_true rfl) (zdk (cc := cX3_ofTwo) (q := (70, .invokestatic 52, 3)) tkX3_ofTwo 14 rfl) (fun y2 => ?_)
      exact zco_iret rfl rfl rfl (zdk (cc := cX3_ofTwo) (q := (73, .ireturn, 1)) tkX3_ofTwo 15 rfl)
    | 2, ht =>
      cases ht
      show zCo l (e + 1) 0 0 iX3_ofTwo 74 [(0, .int v0), (1, .int v1), (2, .int v2)] [] (z_ci (X3_bounded (v1.toInt64 * v2.toInt64)) fun y3 => z_ret (some (.int y3)))
      refine zco_p tkX3_ofTwo 16 5 (pc' := 79) (L' := [(0, .int v0), (1, .int v1), (2, .int v2)]) (S' := [.long (v1.toInt64 * v2.toInt64)]) rfl ?_
      refine zco_Si (rc := 0) (rs := 0) (mc := 0) (ms := 0) (As := [.long (v1.toInt64 * v2.toInt64)]) (S := []) vmX3_bounded (mtX3_bounded l e (by omega) (v1.toInt64 * v2.toInt64)) q_993 rfl rfl (Nat.le_of_ble_eq_true rfl) (zdk (cc := cX3_ofTwo) (q := (79, .invokestatic 52, 3)) tkX3_ofTwo 21 rfl) (fun y3 => ?_)
      exact zco_iret rfl rfl rfl (zdk (cc := cX3_ofTwo) (q := (82, .ireturn, 1)) tkX3_ofTwo 22 rfl)
    | 3, ht =>
      cases ht
      show zCo l (e + 1) 0 0 iX3_ofTwo 83 [(0, .int v0), (1, .int v1), (2, .int v2)] [] (z_if (v2 = 0) (z_ret (some (.int 0)))  (z_ci (J9_floorDiv_7cf53 v1 v2) fun y4 => z_ret (some (.int y4))))
      refine zco_p tkX3_ofTwo 23 1 (pc' := 84) (L' := [(0, .int v0), (1, .int v1), (2, .int v2)]) (S' := [.int v2]) rfl ?_
      refine zco_if_ne (tgt := 91) (zdk (cc := cX3_ofTwo) (q := (84, .ifCond .ne 7, 3)) tkX3_ofTwo 24 rfl) rfl ?_ ?_
      · refine zco_p tkX3_ofTwo 27 2 (pc' := 93) (L' := [(0, .int v0), (1, .int v1), (2, .int v2)]) (S' := [.int v2, .int v1]) rfl ?_
        refine zco_Si (rc := 0) (rs := 0) (mc := 0) (ms := 0) (As := [.int v1, .int v2]) (S := []) vmJ9_floorDiv_7cf53 (mtJ9_floorDiv_7cf53 l e (by omega) v1 v2) q_1000 rfl rfl (Nat.le_of_ble_eq_true rfl) (zdk (cc := cX3_ofTwo) (q := (93, .invokestatic 56, 3)) tkX3_ofTwo 29 rfl) (fun y4 => ?_)
        exact zco_iret rfl rfl rfl (zdk (cc := cX3_ofTwo) (q := (96, .ireturn, 1)) tkX3_ofTwo 30 rfl)
      · refine zco_p tkX3_ofTwo 25 2 (pc' := 96) (L' := [(0, .int v0), (1, .int v1), (2, .int v2)]) (S' := [.int 0]) rfl ?_
        exact zco_iret rfl rfl rfl (zdk (cc := cX3_ofTwo) (q := (96, .ireturn, 1)) tkX3_ofTwo 30 rfl)
    | 4, ht =>
      cases ht
      show zCo l (e + 1) 0 0 iX3_ofTwo 97 [(0, .int v0), (1, .int v1), (2, .int v2)] [] (z_ret (some (.int (if v2 < v1 then v2 else v1))))
      refine zco_p tkX3_ofTwo 31 2 (pc' := 99) (L' := [(0, .int v0), (1, .int v1), (2, .int v2)]) (S' := [.int v2, .int v1]) rfl ?_
      refine zco_imin (by omega) q_1003 q_926 q_168 q_imin (Nat.le_of_ble_eq_true rfl) (zdk (cc := cX3_ofTwo) (q := (99, .invokestatic 59, 3)) tkX3_ofTwo 33 rfl) ?_
      exact zco_iret rfl rfl rfl (zdk (cc := cX3_ofTwo) (q := (102, .ireturn, 1)) tkX3_ofTwo 34 rfl)
    | 5, ht =>
      cases ht
      show zCo l (e + 1) 0 0 iX3_ofTwo 103 [(0, .int v0), (1, .int v1), (2, .int v2)] [] (z_ret (some (.int (if v1 < v2 then v2 else v1))))
      refine zco_p tkX3_ofTwo 35 2 (pc' := 105) (L' := [(0, .int v0), (1, .int v1), (2, .int v2)]) (S' := [.int v2, .int v1]) rfl ?_
      refine zco_imax (by omega) q_986 q_964 q_168 q_imax (Nat.le_of_ble_eq_true rfl) (zdk (cc := cX3_ofTwo) (q := (105, .invokestatic 34, 3)) tkX3_ofTwo 37 rfl) ?_
      exact zco_iret rfl rfl rfl (zdk (cc := cX3_ofTwo) (q := (108, .ireturn, 1)) tkX3_ofTwo 38 rfl)
    | 6, ht =>
      cases ht
      show zCo l (e + 1) 0 0 iX3_ofTwo 109 [(0, .int v0), (1, .int v1), (2, .int v2)] [] (z_if (v2 ≤ v1) (z_ret (some (.int 0)))  (z_ret (some (.int 1))))
      refine zco_p tkX3_ofTwo 39 2 (pc' := 111) (L' := [(0, .int v0), (1, .int v1), (2, .int v2)]) (S' := [.int v2, .int v1]) rfl ?_
      refine zco_icmp_ge (tgt := 118) (zdk (cc := cX3_ofTwo) (q := (111, .if_icmp .ge 7, 3)) tkX3_ofTwo 41 rfl) rfl ?_ ?_
      · refine zco_p tkX3_ofTwo 44 1 (pc' := 119) (L' := [(0, .int v0), (1, .int v1), (2, .int v2)]) (S' := [.int 0]) rfl ?_
        exact zco_iret rfl rfl rfl (zdk (cc := cX3_ofTwo) (q := (119, .ireturn, 1)) tkX3_ofTwo 45 rfl)
      · refine zco_p tkX3_ofTwo 42 2 (pc' := 119) (L' := [(0, .int v0), (1, .int v1), (2, .int v2)]) (S' := [.int 1]) rfl ?_
        exact zco_iret rfl rfl rfl (zdk (cc := cX3_ofTwo) (q := (119, .ireturn, 1)) tkX3_ofTwo 45 rfl)
    | 7, ht =>
      cases ht
      show zCo l (e + 1) 0 0 iX3_ofTwo 120 [(0, .int v0), (1, .int v1), (2, .int v2)] [] (z_if (v1 ≤ v2) (z_ret (some (.int 0)))  (z_ret (some (.int 1))))
      refine zco_p tkX3_ofTwo 46 2 (pc' := 122) (L' := [(0, .int v0), (1, .int v1), (2, .int v2)]) (S' := [.int v2, .int v1]) rfl ?_
      refine zco_icmp_le (tgt := 129) (zdk (cc := cX3_ofTwo) (q := (122, .if_icmp .le 7, 3)) tkX3_ofTwo 48 rfl) rfl ?_ ?_
      · refine zco_p tkX3_ofTwo 51 1 (pc' := 130) (L' := [(0, .int v0), (1, .int v1), (2, .int v2)]) (S' := [.int 0]) rfl ?_
        exact zco_iret rfl rfl rfl (zdk (cc := cX3_ofTwo) (q := (130, .ireturn, 1)) tkX3_ofTwo 52 rfl)
      · refine zco_p tkX3_ofTwo 49 2 (pc' := 130) (L' := [(0, .int v0), (1, .int v1), (2, .int v2)]) (S' := [.int 1]) rfl ?_
        exact zco_iret rfl rfl rfl (zdk (cc := cX3_ofTwo) (q := (130, .ireturn, 1)) tkX3_ofTwo 52 rfl)
    | 8, ht =>
      cases ht
      show zCo l (e + 1) 0 0 iX3_ofTwo 131 [(0, .int v0), (1, .int v1), (2, .int v2)] [] (z_if (v1 = v2) (z_ret (some (.int 1)))  (z_ret (some (.int 0))))
      refine zco_p tkX3_ofTwo 53 2 (pc' := 133) (L' := [(0, .int v0), (1, .int v1), (2, .int v2)]) (S' := [.int v2, .int v1]) rfl ?_
      refine zco_icmp_ne (tgt := 140) (zdk (cc := cX3_ofTwo) (q := (133, .if_icmp .ne 7, 3)) tkX3_ofTwo 55 rfl) rfl ?_ ?_
      · refine zco_p tkX3_ofTwo 58 1 (pc' := 141) (L' := [(0, .int v0), (1, .int v1), (2, .int v2)]) (S' := [.int 0]) rfl ?_
        exact zco_iret rfl rfl rfl (zdk (cc := cX3_ofTwo) (q := (141, .ireturn, 1)) tkX3_ofTwo 59 rfl)
      · refine zco_p tkX3_ofTwo 56 2 (pc' := 141) (L' := [(0, .int v0), (1, .int v1), (2, .int v2)]) (S' := [.int 1]) rfl ?_
        exact zco_iret rfl rfl rfl (zdk (cc := cX3_ofTwo) (q := (141, .ireturn, 1)) tkX3_ofTwo 59 rfl)
    | 9, ht =>
      cases ht
      show zCo l (e + 1) 0 0 iX3_ofTwo 142 [(0, .int v0), (1, .int v1), (2, .int v2)] [] (z_ret (some (.int (v1 &&& v2))))
      refine zco_p tkX3_ofTwo 60 3 (pc' := 145) (L' := [(0, .int v0), (1, .int v1), (2, .int v2)]) (S' := [.int (v1 &&& v2)]) rfl ?_
      exact zco_iret rfl rfl rfl (zdk (cc := cX3_ofTwo) (q := (145, .ireturn, 1)) tkX3_ofTwo 63 rfl)
    | j + 10, ht => exact absurd ht (by simp)
theorem mtX3_ofTwo (l : Launch) (d : Nat) (hd : 2 ≤ d) (v0 : Int32) (v1 : Int32) (v2 : Int32) : zMet l d 0 0 yX3_ofTwo cX3_ofTwo 3 (Option.some .int) [.int v0, .int v1, .int v2] (X3_ofTwo v0 v1 v2) := by
  obtain ⟨e, rfl⟩ : ∃ e, d = e + 1 := ⟨d - 1, by omega⟩
  exact zmet_of (own := RX3) (ini := false) (by decide +kernel) rfl (fun _ => by contradiction) (Nat.le_of_ble_eq_true rfl) (coX3_ofTwo l e (by omega) v0 v1 v2)
abbrev iX3_ofOne : zI := (RX3, cX3_ofOne, 3, (Option.some .int), false)
def tX3_ofOne : List (Nat × Instr × Nat) := [(0, .iload_n 0, 1), (1, .sipush 30001, 3), (4, .if_icmp .ne 13, 3), (7, .iload_n 1, 1), (8, .ifCond .ne 7, 3), (11, .iconst 1, 1), (12, .goto 4, 3), (15, .iconst 0, 1), (16, .ireturn, 1), (17, .iload_n 1, 1), (18, .ifCond .lt 9, 3), (21, .iload_n 1, 1), (22, .bipush 12, 2), (24, .if_icmp .lt 5, 3), (27, .iconst 0, 1), (28, .ireturn, 1), (29, .aload_n 2, 1), (30, .iload_n 0, 1), (31, .sipush 30002, 3), (34, .if_icmp .ne 8, 3), (37, .bipush 9, 2), (39, .goto 5, 3), (42, .bipush 21, 2), (44, .iload_n 1, 1), (45, .iadd, 1), (46, .invokestatic 40, 3), (49, .ireturn, 1)]
set_option maxRecDepth 100000 in
theorem tkX3_ofOne : ∀ q ∈ tX3_ofOne, decode cX3_ofOne q.1 = .ok q.2 := by decide +kernel
theorem vmX3_ofOne : zSM yX3_ofOne cX3_ofOne 3 (Option.some .int) 3 := ⟨kX3_ofOne, q_1005, q_152, by decide +kernel, by decide⟩
set_option maxHeartbeats 2000000 in
set_option maxRecDepth 20000 in
theorem coX3_ofOne_J44 (l : Launch) (e : Nat) (he : 1 ≤ e) (v1 : Int32) (s0 : Int32) (s1 : Nat) : zCo l (e + 1) 0 0 iX3_ofOne 44 [(1, .int v1)] [.int s0, .ref s1] (X3_ofOne_J44 v1 s0 s1) := by
  unfold X3_ofOne_J44
  refine zco_p tkX3_ofOne 23 2 (pc' := 46) (L' := [(1, .int v1)]) (S' := [.int (s0 + v1), .ref s1]) rfl ?_
  refine zco_Si (rc := 0) (rs := 0) (mc := 0) (ms := 0) (As := [.ref s1, .int (s0 + v1)]) (S := []) vmX3_fact (mtX3_fact l e (by omega) s1 (s0 + v1)) q_987 rfl rfl (Nat.le_of_ble_eq_true rfl) (zdk (cc := cX3_ofOne) (q := (46, .invokestatic 40, 3)) tkX3_ofOne 25 rfl) (fun y1 => ?_)
  exact zco_iret rfl rfl rfl (zdk (cc := cX3_ofOne) (q := (49, .ireturn, 1)) tkX3_ofOne 26 rfl)
set_option maxHeartbeats 2000000 in
set_option maxRecDepth 20000 in
theorem coX3_ofOne (l : Launch) (e : Nat) (he : 1 ≤ e) (v0 : Int32) (v1 : Int32) (v2 : Nat) : zCo l (e + 1) 0 0 iX3_ofOne 0 [(0, .int v0), (1, .int v1), (2, .ref v2)] [] (X3_ofOne v0 v1 v2) := by
  unfold X3_ofOne
  refine zco_p tkX3_ofOne 0 2 (pc' := 4) (L' := [(0, .int v0), (1, .int v1), (2, .ref v2)]) (S' := [.int 30001, .int v0]) rfl ?_
  refine zco_icmp_ne (tgt := 17) (zdk (cc := cX3_ofOne) (q := (4, .if_icmp .ne 13, 3)) tkX3_ofOne 2 rfl) rfl ?_ ?_
  · refine zco_p tkX3_ofOne 9 1 (pc' := 18) (L' := [(0, .int v0), (1, .int v1), (2, .ref v2)]) (S' := [.int v1]) rfl ?_
    refine zco_if_lt (tgt := 27) (zdk (cc := cX3_ofOne) (q := (18, .ifCond .lt 9, 3)) tkX3_ofOne 10 rfl) rfl ?_ ?_
    · refine zco_p tkX3_ofOne 14 1 (pc' := 28) (L' := [(0, .int v0), (1, .int v1), (2, .ref v2)]) (S' := [.int 0]) rfl ?_
      exact zco_iret rfl rfl rfl (zdk (cc := cX3_ofOne) (q := (28, .ireturn, 1)) tkX3_ofOne 15 rfl)
    · refine zco_p tkX3_ofOne 11 2 (pc' := 24) (L' := [(0, .int v0), (1, .int v1), (2, .ref v2)]) (S' := [.int 12, .int v1]) rfl ?_
      refine zco_icmp_lt (tgt := 29) (zdk (cc := cX3_ofOne) (q := (24, .if_icmp .lt 5, 3)) tkX3_ofOne 13 rfl) rfl ?_ ?_
      · refine zco_p tkX3_ofOne 16 3 (pc' := 34) (L' := [(0, .int v0), (1, .int v1), (2, .ref v2)]) (S' := [.int 30002, .int v0, .ref v2]) rfl ?_
        refine zco_icmp_ne (tgt := 42) (zdk (cc := cX3_ofOne) (q := (34, .if_icmp .ne 8, 3)) tkX3_ofOne 19 rfl) rfl ?_ ?_
        · refine zco_p tkX3_ofOne 22 1 (pc' := 44) (L' := [(0, .int v0), (1, .int v1), (2, .ref v2)]) (S' := [.int 21, .ref v2]) rfl ?_
          exact zco_sub [1] rfl (coX3_ofOne_J44 l e he v1 21 v2)
        · refine zco_p tkX3_ofOne 20 2 (pc' := 44) (L' := [(0, .int v0), (1, .int v1), (2, .ref v2)]) (S' := [.int 9, .ref v2]) rfl ?_
          exact zco_sub [1] rfl (coX3_ofOne_J44 l e he v1 9 v2)
      · refine zco_p tkX3_ofOne 14 1 (pc' := 28) (L' := [(0, .int v0), (1, .int v1), (2, .ref v2)]) (S' := [.int 0]) rfl ?_
        exact zco_iret rfl rfl rfl (zdk (cc := cX3_ofOne) (q := (28, .ireturn, 1)) tkX3_ofOne 15 rfl)
  · refine zco_p tkX3_ofOne 3 1 (pc' := 8) (L' := [(0, .int v0), (1, .int v1), (2, .ref v2)]) (S' := [.int v1]) rfl ?_
    refine zco_if_ne (tgt := 15) (zdk (cc := cX3_ofOne) (q := (8, .ifCond .ne 7, 3)) tkX3_ofOne 4 rfl) rfl ?_ ?_
    · refine zco_p tkX3_ofOne 7 1 (pc' := 16) (L' := [(0, .int v0), (1, .int v1), (2, .ref v2)]) (S' := [.int 0]) rfl ?_
      exact zco_iret rfl rfl rfl (zdk (cc := cX3_ofOne) (q := (16, .ireturn, 1)) tkX3_ofOne 8 rfl)
    · refine zco_p tkX3_ofOne 5 2 (pc' := 16) (L' := [(0, .int v0), (1, .int v1), (2, .ref v2)]) (S' := [.int 1]) rfl ?_
      exact zco_iret rfl rfl rfl (zdk (cc := cX3_ofOne) (q := (16, .ireturn, 1)) tkX3_ofOne 8 rfl)
theorem mtX3_ofOne (l : Launch) (d : Nat) (hd : 2 ≤ d) (v0 : Int32) (v1 : Int32) (v2 : Nat) : zMet l d 0 0 yX3_ofOne cX3_ofOne 3 (Option.some .int) [.int v0, .int v1, .ref v2] (X3_ofOne v0 v1 v2) := by
  obtain ⟨e, rfl⟩ : ∃ e, d = e + 1 := ⟨d - 1, by omega⟩
  exact zmet_of (own := RX3) (ini := false) (by decide +kernel) rfl (fun _ => by contradiction) (Nat.le_of_ble_eq_true rfl) (coX3_ofOne l e (by omega) v0 v1 v2)
abbrev iX3_value : zI := (RX3, cX3_value, 6, (Option.some .int), false)
def tX3_value : List (Nat × Instr × Nat) := [(0, .iconst 0, 1), (1, .istore_n 3, 1), (2, .aload_n 0, 1), (3, .getfield 19, 3), (6, .iload_n 1, 1), (7, .iaload, 1), (8, .iconst 0, 1), (9, .invokestatic 34, 3), (12, .istore 4, 2), (14, .iload 4, 2), (16, .aload_n 0, 1), (17, .getfield 22, 3), (20, .iload_n 1, 1), (21, .iaload, 1), (22, .if_icmp .ge 151, 3), (25, .iload 4, 2), (27, .aload_n 0, 1), (28, .getfield 15, 3), (31, .if_icmp .ge 142, 3), (34, .aload_n 0, 1), (35, .getfield 9, 3), (38, .iload 4, 2), (40, .iaload, 1), (41, .istore 5, 2), (43, .iload 5, 2), (45, .sipush 20000, 3), (48, .if_icmp .ge 47, 3), (51, .iload_n 3, 1), (52, .aload_n 0, 1), (53, .getfield 25, 3), (56, .arraylength, 1), (57, .if_icmp .ge 110, 3), (60, .aload_n 0, 1), (61, .getfield 25, 3), (64, .iload_n 3, 1), (65, .iload 5, 2), (67, .sipush 10000, 3), (70, .if_icmp .ge 8, 3), (73, .iload 5, 2), (75, .goto 13, 3), (78, .aload_n 2, 1), (79, .iload 5, 2), (81, .sipush 10000, 3), (84, .isub, 1), (85, .invokestatic 40, 3), (88, .iastore, 1), (89, .iinc 3 1, 3), (92, .goto 75, 3), (95, .iload 5, 2), (97, .sipush 30000, 3), (100, .if_icmp .ge 41, 3), (103, .iload_n 3, 1), (104, .iconst 1, 1), (105, .if_icmp .le 62, 3), (108, .iinc 3 (-1), 3), (111, .aload_n 0, 1), (112, .getfield 25, 3), (115, .iload_n 3, 1), (116, .iconst 1, 1), (117, .isub, 1), (118, .iload 5, 2), (120, .aload_n 0, 1), (121, .getfield 25, 3), (124, .iload_n 3, 1), (125, .iconst 1, 1), (126, .isub, 1), (127, .iaload, 1), (128, .aload_n 0, 1), (129, .getfield 25, 3), (132, .iload_n 3, 1), (133, .iaload, 1), (134, .invokestatic 44, 3), (137, .iastore, 1), (138, .goto 29, 3), (141, .iload_n 3, 1), (142, .ifCond .le 25, 3), (145, .aload_n 0, 1), (146, .getfield 25, 3), (149, .iload_n 3, 1), (150, .iconst 1, 1), (151, .isub, 1), (152, .iload 5, 2), (154, .aload_n 0, 1), (155, .getfield 25, 3), (158, .iload_n 3, 1), (159, .iconst 1, 1), (160, .isub, 1), (161, .iaload, 1), (162, .aload_n 2, 1), (163, .invokestatic 48, 3), (166, .iastore, 1), (167, .iinc 4 1, 3), (170, .goto (-156), 3), (173, .iload_n 3, 1), (174, .ifCond .le 12, 3), (177, .aload_n 0, 1), (178, .getfield 25, 3), (181, .iconst 0, 1), (182, .iaload, 1), (183, .goto 4, 3), (186, .iconst 0, 1), (187, .ireturn, 1)]
set_option maxRecDepth 100000 in
theorem tkX3_value : ∀ q ∈ tX3_value, decode cX3_value q.1 = .ok q.2 := by decide +kernel
theorem vmX3_value : zVM yX3_value cX3_value 6 (Option.some .int) 2 3 := ⟨kX3_value, q_983, q_984, q_152, ⟨_, rfl, rfl⟩, by decide +kernel, by decide⟩
set_option maxHeartbeats 2000000 in
set_option maxRecDepth 20000 in
theorem coX3_value_J173 (l : Launch) (e : Nat) (he : 2 ≤ e) (v0 : Nat) (v3 : Int32) : zCo l (e + 1) 0 0 iX3_value 173 [(0, .ref v0), (3, .int v3)] [] (X3_value_J173 v0 v3) := by
  unfold X3_value_J173
  refine zco_p tkX3_value 93 1 (pc' := 174) (L' := [(0, .ref v0), (3, .int v3)]) (S' := [.int v3]) rfl ?_
  refine zco_if_le (tgt := 186) (zdk (cc := cX3_value) (q := (174, .ifCond .le 12, 3)) tkX3_value 94 rfl) rfl ?_ ?_
  · refine zco_p tkX3_value 100 1 (pc' := 187) (L' := [(0, .ref v0), (3, .int v3)]) (S' := [.int 0]) rfl ?_
    exact zco_iret rfl rfl rfl (zdk (cc := cX3_value) (q := (187, .ireturn, 1)) tkX3_value 101 rfl)
  · refine zco_p tkX3_value 95 1 (pc' := 178) (L' := [(0, .ref v0), (3, .int v3)]) (S' := [.ref v0]) rfl ?_
    refine zco_gr fl_3_25 rfl (zdk (cc := cX3_value) (q := (178, .getfield 25, 3)) tkX3_value 96 rfl) (fun x1 => ?_)
    refine zco_p tkX3_value 97 1 (pc' := 182) (L' := [(0, .ref v0), (3, .int v3)]) (S' := [.int 0, .ref x1]) rfl ?_
    refine zco_iaload (zdk (cc := cX3_value) (q := (182, .iaload, 1)) tkX3_value 98 rfl) (fun x2 => ?_)
    refine zco_p tkX3_value 99 1 (pc' := 187) (L' := [(0, .ref v0), (3, .int v3)]) (S' := [.int x2]) rfl ?_
    exact zco_iret rfl rfl rfl (zdk (cc := cX3_value) (q := (187, .ireturn, 1)) tkX3_value 101 rfl)
set_option maxHeartbeats 2000000 in
set_option maxRecDepth 20000 in
theorem coX3_value_J167 (l : Launch) (e : Nat) (he : 2 ≤ e) (v0 : Nat) (v1 : Int32) (v2 : Nat) (v3 : Int32) (v4 : Int32) (r14 : Int32 × Int32 → zM) (hr14 : ∀ x : Int32 × Int32, zCo l (e + 1) 0 0 iX3_value 14 [(0, .ref v0), (1, .int v1), (2, .ref v2), (3, .int x.1), (4, .int x.2)] [] (r14 x)) : zCo l (e + 1) 0 0 iX3_value 167 [(0, .ref v0), (1, .int v1), (2, .ref v2), (3, .int v3), (4, .int v4)] [] (X3_value_J167 r14 v0 v1 v2 v3 v4) := by
  unfold X3_value_J167
  refine zco_p tkX3_value 91 2 (pc' := 14) (L' := [(4, .int (v4 + 1)), (0, .ref v0), (1, .int v1), (2, .ref v2), (3, .int v3)]) (S' := []) rfl ?_
  exact zco_sub [1, 2, 3, 4, 0] rfl (hr14 (v3, v4 + 1))
set_option maxHeartbeats 2000000 in
set_option maxRecDepth 20000 in
theorem coX3_value_J88 (l : Launch) (e : Nat) (he : 2 ≤ e) (v0 : Nat) (v1 : Int32) (v2 : Nat) (v3 : Int32) (v4 : Int32) (r14 : Int32 × Int32 → zM) (hr14 : ∀ x : Int32 × Int32, zCo l (e + 1) 0 0 iX3_value 14 [(0, .ref v0), (1, .int v1), (2, .ref v2), (3, .int x.1), (4, .int x.2)] [] (r14 x)) (s0 : Int32) (s1 : Int32) (s2 : Nat) : zCo l (e + 1) 0 0 iX3_value 88 [(0, .ref v0), (1, .int v1), (2, .ref v2), (3, .int v3), (4, .int v4)] [.int s0, .int s1, .ref s2] (X3_value_J88 r14 v0 v1 v2 v3 v4 s0 s1 s2) := by
  unfold X3_value_J88
  refine zco_iastore (zdk (cc := cX3_value) (q := (88, .iastore, 1)) tkX3_value 45 rfl) ?_
  refine zco_p tkX3_value 46 2 (pc' := 167) (L' := [(3, .int (v3 + 1)), (0, .ref v0), (1, .int v1), (2, .ref v2), (4, .int v4)]) (S' := []) rfl ?_
  exact zco_sub [1, 2, 3, 0, 4] rfl (coX3_value_J167 l e he v0 v1 v2 (v3 + 1) v4 r14 hr14)
set_option maxHeartbeats 2000000 in
set_option maxRecDepth 20000 in
theorem coX3_value_B14 (l : Launch) (e : Nat) (he : 2 ≤ e) (v0 : Nat) (v1 : Int32) (v2 : Nat) (r14 : Int32 × Int32 → zM) (hr14 : ∀ x : Int32 × Int32, zCo l (e + 1) 0 0 iX3_value 14 [(0, .ref v0), (1, .int v1), (2, .ref v2), (3, .int x.1), (4, .int x.2)] [] (r14 x)) (v3 : Int32) (v4 : Int32) : zCo l (e + 1) 0 0 iX3_value 14 [(0, .ref v0), (1, .int v1), (2, .ref v2), (3, .int v3), (4, .int v4)] [] (X3_value_B14 v0 v1 v2 r14 v3 v4) := by
  unfold X3_value_B14
  refine zco_p tkX3_value 9 2 (pc' := 17) (L' := [(0, .ref v0), (1, .int v1), (2, .ref v2), (3, .int v3), (4, .int v4)]) (S' := [.ref v0, .int v4]) rfl ?_
  refine zco_gr fl_3_22 rfl (zdk (cc := cX3_value) (q := (17, .getfield 22, 3)) tkX3_value 11 rfl) (fun x1 => ?_)
  refine zco_p tkX3_value 12 1 (pc' := 21) (L' := [(0, .ref v0), (1, .int v1), (2, .ref v2), (3, .int v3), (4, .int v4)]) (S' := [.int v1, .ref x1, .int v4]) rfl ?_
  refine zco_iaload (zdk (cc := cX3_value) (q := (21, .iaload, 1)) tkX3_value 13 rfl) (fun x2 => ?_)
  refine zco_icmp_ge (tgt := 173) (zdk (cc := cX3_value) (q := (22, .if_icmp .ge 151, 3)) tkX3_value 14 rfl) rfl ?_ ?_
  · exact zco_sub [0, 3] rfl (coX3_value_J173 l e he v0 v3)
  · refine zco_p tkX3_value 15 2 (pc' := 28) (L' := [(0, .ref v0), (1, .int v1), (2, .ref v2), (3, .int v3), (4, .int v4)]) (S' := [.ref v0, .int v4]) rfl ?_
    refine zco_gi fl_3_15 rfl (zdk (cc := cX3_value) (q := (28, .getfield 15, 3)) tkX3_value 17 rfl) (fun x3 => ?_)
    refine zco_icmp_ge (tgt := 173) (zdk (cc := cX3_value) (q := (31, .if_icmp .ge 142, 3)) tkX3_value 18 rfl) rfl ?_ ?_
    · exact zco_sub [0, 3] rfl (coX3_value_J173 l e he v0 v3)
    · refine zco_p tkX3_value 19 1 (pc' := 35) (L' := [(0, .ref v0), (1, .int v1), (2, .ref v2), (3, .int v3), (4, .int v4)]) (S' := [.ref v0]) rfl ?_
      refine zco_gr fl_3_9 rfl (zdk (cc := cX3_value) (q := (35, .getfield 9, 3)) tkX3_value 20 rfl) (fun x4 => ?_)
      refine zco_p tkX3_value 21 1 (pc' := 40) (L' := [(0, .ref v0), (1, .int v1), (2, .ref v2), (3, .int v3), (4, .int v4)]) (S' := [.int v4, .ref x4]) rfl ?_
      refine zco_iaload (zdk (cc := cX3_value) (q := (40, .iaload, 1)) tkX3_value 22 rfl) (fun x5 => ?_)
      refine zco_p tkX3_value 23 3 (pc' := 48) (L' := [(5, .int x5), (0, .ref v0), (1, .int v1), (2, .ref v2), (3, .int v3), (4, .int v4)]) (S' := [.int 20000, .int x5]) rfl ?_
      refine zco_icmp_ge (tgt := 95) (zdk (cc := cX3_value) (q := (48, .if_icmp .ge 47, 3)) tkX3_value 26 rfl) rfl ?_ ?_
      · refine zco_p tkX3_value 48 2 (pc' := 100) (L' := [(5, .int x5), (0, .ref v0), (1, .int v1), (2, .ref v2), (3, .int v3), (4, .int v4)]) (S' := [.int 30000, .int x5]) rfl ?_
        refine zco_icmp_ge (tgt := 141) (zdk (cc := cX3_value) (q := (100, .if_icmp .ge 41, 3)) tkX3_value 50 rfl) rfl ?_ ?_
        · refine zco_p tkX3_value 74 1 (pc' := 142) (L' := [(5, .int x5), (0, .ref v0), (1, .int v1), (2, .ref v2), (3, .int v3), (4, .int v4)]) (S' := [.int v3]) rfl ?_
          refine zco_if_le (tgt := 167) (zdk (cc := cX3_value) (q := (142, .ifCond .le 25, 3)) tkX3_value 75 rfl) rfl ?_ ?_
          · exact zco_sub [1, 2, 3, 4, 5] rfl (coX3_value_J167 l e he v0 v1 v2 v3 v4 r14 hr14)
          · refine zco_p tkX3_value 76 1 (pc' := 146) (L' := [(5, .int x5), (0, .ref v0), (1, .int v1), (2, .ref v2), (3, .int v3), (4, .int v4)]) (S' := [.ref v0]) rfl ?_
            refine zco_gr fl_3_25 rfl (zdk (cc := cX3_value) (q := (146, .getfield 25, 3)) tkX3_value 77 rfl) (fun x6 => ?_)
            refine zco_p tkX3_value 78 5 (pc' := 155) (L' := [(5, .int x5), (0, .ref v0), (1, .int v1), (2, .ref v2), (3, .int v3), (4, .int v4)]) (S' := [.ref v0, .int x5, .int (v3 - 1), .ref x6]) rfl ?_
            refine zco_gr fl_3_25 rfl (zdk (cc := cX3_value) (q := (155, .getfield 25, 3)) tkX3_value 83 rfl) (fun x7 => ?_)
            refine zco_p tkX3_value 84 3 (pc' := 161) (L' := [(5, .int x5), (0, .ref v0), (1, .int v1), (2, .ref v2), (3, .int v3), (4, .int v4)]) (S' := [.int (v3 - 1), .ref x7, .int x5, .int (v3 - 1), .ref x6]) rfl ?_
            refine zco_iaload (zdk (cc := cX3_value) (q := (161, .iaload, 1)) tkX3_value 87 rfl) (fun x8 => ?_)
            refine zco_p tkX3_value 88 1 (pc' := 163) (L' := [(5, .int x5), (0, .ref v0), (1, .int v1), (2, .ref v2), (3, .int v3), (4, .int v4)]) (S' := [.ref v2, .int x8, .int x5, .int (v3 - 1), .ref x6]) rfl ?_
            refine zco_Si (rc := 0) (rs := 0) (mc := 0) (ms := 0) (As := [.int x5, .int x8, .ref v2]) (S := [.int (v3 - 1), .ref x6]) vmX3_ofOne (mtX3_ofOne l e (by omega) x5 x8 v2) q_1004 rfl rfl (Nat.le_of_ble_eq_true rfl) (zdk (cc := cX3_value) (q := (163, .invokestatic 48, 3)) tkX3_value 89 rfl) (fun y9 => ?_)
            refine zco_iastore (zdk (cc := cX3_value) (q := (166, .iastore, 1)) tkX3_value 90 rfl) ?_
            exact zco_sub [1, 2, 3, 4, 5] rfl (coX3_value_J167 l e he v0 v1 v2 v3 v4 r14 hr14)
        · refine zco_p tkX3_value 51 2 (pc' := 105) (L' := [(5, .int x5), (0, .ref v0), (1, .int v1), (2, .ref v2), (3, .int v3), (4, .int v4)]) (S' := [.int 1, .int v3]) rfl ?_
          refine zco_icmp_le (tgt := 167) (zdk (cc := cX3_value) (q := (105, .if_icmp .le 62, 3)) tkX3_value 53 rfl) rfl ?_ ?_
          · exact zco_sub [1, 2, 3, 4, 5] rfl (coX3_value_J167 l e he v0 v1 v2 v3 v4 r14 hr14)
          · refine zco_p tkX3_value 54 2 (pc' := 112) (L' := [(3, .int (v3 + (-1))), (5, .int x5), (0, .ref v0), (1, .int v1), (2, .ref v2), (4, .int v4)]) (S' := [.ref v0]) rfl ?_
            refine zco_gr fl_3_25 rfl (zdk (cc := cX3_value) (q := (112, .getfield 25, 3)) tkX3_value 56 rfl) (fun x10 => ?_)
            refine zco_p tkX3_value 57 5 (pc' := 121) (L' := [(3, .int (v3 + (-1))), (5, .int x5), (0, .ref v0), (1, .int v1), (2, .ref v2), (4, .int v4)]) (S' := [.ref v0, .int x5, .int ((v3 + (-1)) - 1), .ref x10]) rfl ?_
            refine zco_gr fl_3_25 rfl (zdk (cc := cX3_value) (q := (121, .getfield 25, 3)) tkX3_value 62 rfl) (fun x11 => ?_)
            refine zco_p tkX3_value 63 3 (pc' := 127) (L' := [(3, .int (v3 + (-1))), (5, .int x5), (0, .ref v0), (1, .int v1), (2, .ref v2), (4, .int v4)]) (S' := [.int ((v3 + (-1)) - 1), .ref x11, .int x5, .int ((v3 + (-1)) - 1), .ref x10]) rfl ?_
            refine zco_iaload (zdk (cc := cX3_value) (q := (127, .iaload, 1)) tkX3_value 66 rfl) (fun x12 => ?_)
            refine zco_p tkX3_value 67 1 (pc' := 129) (L' := [(3, .int (v3 + (-1))), (5, .int x5), (0, .ref v0), (1, .int v1), (2, .ref v2), (4, .int v4)]) (S' := [.ref v0, .int x12, .int x5, .int ((v3 + (-1)) - 1), .ref x10]) rfl ?_
            refine zco_gr fl_3_25 rfl (zdk (cc := cX3_value) (q := (129, .getfield 25, 3)) tkX3_value 68 rfl) (fun x13 => ?_)
            refine zco_p tkX3_value 69 1 (pc' := 133) (L' := [(3, .int (v3 + (-1))), (5, .int x5), (0, .ref v0), (1, .int v1), (2, .ref v2), (4, .int v4)]) (S' := [.int (v3 + (-1)), .ref x13, .int x12, .int x5, .int ((v3 + (-1)) - 1), .ref x10]) rfl ?_
            refine zco_iaload (zdk (cc := cX3_value) (q := (133, .iaload, 1)) tkX3_value 70 rfl) (fun x14 => ?_)
            refine zco_Si (rc := 0) (rs := 0) (mc := 0) (ms := 0) (As := [.int x5, .int x12, .int x14]) (S := [.int ((v3 + (-1)) - 1), .ref x10]) vmX3_ofTwo (mtX3_ofTwo l e (by omega) x5 x12 x14) q_990 rfl rfl (Nat.le_of_ble_eq_true rfl) (zdk (cc := cX3_value) (q := (134, .invokestatic 44, 3)) tkX3_value 71 rfl) (fun y15 => ?_)
            refine zco_iastore (zdk (cc := cX3_value) (q := (137, .iastore, 1)) tkX3_value 72 rfl) ?_
            refine zco_p tkX3_value 73 1 (pc' := 167) (L' := [(3, .int (v3 + (-1))), (5, .int x5), (0, .ref v0), (1, .int v1), (2, .ref v2), (4, .int v4)]) (S' := []) rfl ?_
            exact zco_sub [2, 3, 4, 0, 5] rfl (coX3_value_J167 l e he v0 v1 v2 (v3 + (-1)) v4 r14 hr14)
      · refine zco_p tkX3_value 27 2 (pc' := 53) (L' := [(5, .int x5), (0, .ref v0), (1, .int v1), (2, .ref v2), (3, .int v3), (4, .int v4)]) (S' := [.ref v0, .int v3]) rfl ?_
        refine zco_gr fl_3_25 rfl (zdk (cc := cX3_value) (q := (53, .getfield 25, 3)) tkX3_value 29 rfl) (fun x16 => ?_)
        refine zco_alen (zdk (cc := cX3_value) (q := (56, .arraylength, 1)) tkX3_value 30 rfl) (fun x17 => ?_)
        refine zco_icmp_ge (tgt := 167) (zdk (cc := cX3_value) (q := (57, .if_icmp .ge 110, 3)) tkX3_value 31 rfl) rfl ?_ ?_
        · exact zco_sub [1, 2, 3, 4, 5] rfl (coX3_value_J167 l e he v0 v1 v2 v3 v4 r14 hr14)
        · refine zco_p tkX3_value 32 1 (pc' := 61) (L' := [(5, .int x5), (0, .ref v0), (1, .int v1), (2, .ref v2), (3, .int v3), (4, .int v4)]) (S' := [.ref v0]) rfl ?_
          refine zco_gr fl_3_25 rfl (zdk (cc := cX3_value) (q := (61, .getfield 25, 3)) tkX3_value 33 rfl) (fun x18 => ?_)
          refine zco_p tkX3_value 34 3 (pc' := 70) (L' := [(5, .int x5), (0, .ref v0), (1, .int v1), (2, .ref v2), (3, .int v3), (4, .int v4)]) (S' := [.int 10000, .int x5, .int v3, .ref x18]) rfl ?_
          refine zco_icmp_ge (tgt := 78) (zdk (cc := cX3_value) (q := (70, .if_icmp .ge 8, 3)) tkX3_value 37 rfl) rfl ?_ ?_
          · refine zco_p tkX3_value 40 4 (pc' := 85) (L' := [(5, .int x5), (0, .ref v0), (1, .int v1), (2, .ref v2), (3, .int v3), (4, .int v4)]) (S' := [.int (x5 - 10000), .ref v2, .int v3, .ref x18]) rfl ?_
            refine zco_Si (rc := 0) (rs := 0) (mc := 0) (ms := 0) (As := [.ref v2, .int (x5 - 10000)]) (S := [.int v3, .ref x18]) vmX3_fact (mtX3_fact l e (by omega) v2 (x5 - 10000)) q_987 rfl rfl (Nat.le_of_ble_eq_true rfl) (zdk (cc := cX3_value) (q := (85, .invokestatic 40, 3)) tkX3_value 44 rfl) (fun y19 => ?_)
            exact zco_sub [1, 2, 3, 4, 5] rfl (coX3_value_J88 l e he v0 v1 v2 v3 v4 r14 hr14 y19 v3 x18)
          · refine zco_p tkX3_value 38 2 (pc' := 88) (L' := [(5, .int x5), (0, .ref v0), (1, .int v1), (2, .ref v2), (3, .int v3), (4, .int v4)]) (S' := [.int x5, .int v3, .ref x18]) rfl ?_
            exact zco_sub [1, 2, 3, 4, 5] rfl (coX3_value_J88 l e he v0 v1 v2 v3 v4 r14 hr14 x5 v3 x18)
set_option maxHeartbeats 2000000 in
set_option maxRecDepth 20000 in
theorem coX3_value (l : Launch) (e : Nat) (he : 2 ≤ e) (v0 : Nat) (v1 : Int32) (v2 : Nat) : zCo l (e + 1) 0 0 iX3_value 0 [(0, .ref v0), (1, .int v1), (2, .ref v2)] [] (X3_value v0 v1 v2) := by
  unfold X3_value
  refine zco_p tkX3_value 0 3 (pc' := 3) (L' := [(3, .int 0), (0, .ref v0), (1, .int v1), (2, .ref v2)]) (S' := [.ref v0]) rfl ?_
  refine zco_gr fl_3_19 rfl (zdk (cc := cX3_value) (q := (3, .getfield 19, 3)) tkX3_value 3 rfl) (fun x1 => ?_)
  refine zco_p tkX3_value 4 1 (pc' := 7) (L' := [(3, .int 0), (0, .ref v0), (1, .int v1), (2, .ref v2)]) (S' := [.int v1, .ref x1]) rfl ?_
  refine zco_iaload (zdk (cc := cX3_value) (q := (7, .iaload, 1)) tkX3_value 5 rfl) (fun x2 => ?_)
  refine zco_p tkX3_value 6 1 (pc' := 9) (L' := [(3, .int 0), (0, .ref v0), (1, .int v1), (2, .ref v2)]) (S' := [.int 0, .int x2]) rfl ?_
  refine zco_imax (by omega) q_986 q_964 q_168 q_imax (Nat.le_of_ble_eq_true rfl) (zdk (cc := cX3_value) (q := (9, .invokestatic 34, 3)) tkX3_value 7 rfl) ?_
  refine zco_p tkX3_value 8 1 (pc' := 14) (L' := [(4, .int (if x2 < 0 then 0 else x2)), (3, .int 0), (0, .ref v0), (1, .int v1), (2, .ref v2)]) (S' := []) rfl ?_
  exact zco_sub [2, 3, 4, 1, 0] rfl (zco_fix (Lf := fun x : Int32 × Int32 => [(0, .ref v0), (1, .int v1), (2, .ref v2), (3, .int x.1), (4, .int x.2)]) (Sf := fun _ => []) (fun r hr x => coX3_value_B14 l e he v0 v1 v2 r hr x.1 x.2) zFU (0, if x2 < 0 then 0 else x2))
theorem mtX3_value (l : Launch) (d : Nat) (hd : 3 ≤ d) (v0 : Nat) (v1 : Int32) (v2 : Nat) : zMet l d 0 0 yX3_value cX3_value 6 (Option.some .int) [.ref v0, .int v1, .ref v2] (X3_value v0 v1 v2) := by
  obtain ⟨e, rfl⟩ : ∃ e, d = e + 1 := ⟨d - 1, by omega⟩
  exact zmet_of (own := RX3) (ini := false) (by decide +kernel) rfl (fun _ => by contradiction) (Nat.le_of_ble_eq_true rfl) (coX3_value l e (by omega) v0 v1 v2)
abbrev iX11_within : zI := (RX11, cX11_within, 2, (Option.some .int), false)
def tX11_within : List (Nat × Instr × Nat) := [(0, .iconst 0, 1), (1, .iload_n 0, 1), (2, .iload_n 1, 1), (3, .invokestatic 371, 3), (6, .invokestatic 376, 3), (9, .ireturn, 1)]
set_option maxRecDepth 100000 in
theorem tkX11_within : ∀ q ∈ tX11_within, decode cX11_within q.1 = .ok q.2 := by decide +kernel
theorem vmX11_within : zSM yX11_within cX11_within 2 (Option.some .int) 2 := ⟨kX11_within, q_1008, q_149, by decide +kernel, by decide⟩
set_option maxHeartbeats 2000000 in
set_option maxRecDepth 20000 in
theorem coX11_within (l : Launch) (e : Nat) (he : 0 ≤ e) (v0 : Int32) (v1 : Int32) : zCo l (e + 1) 0 0 iX11_within 0 [(0, .int v0), (1, .int v1)] [] (X11_within v0 v1) := by
  unfold X11_within
  refine zco_p tkX11_within 0 3 (pc' := 3) (L' := [(0, .int v0), (1, .int v1)]) (S' := [.int v1, .int v0, .int 0]) rfl ?_
  refine zco_imin (by omega) q_1010 q_926 q_168 q_imin (Nat.le_of_ble_eq_true rfl) (zdk (cc := cX11_within) (q := (3, .invokestatic 371, 3)) tkX11_within 3 rfl) ?_
  refine zco_imax (by omega) q_1011 q_964 q_168 q_imax (Nat.le_of_ble_eq_true rfl) (zdk (cc := cX11_within) (q := (6, .invokestatic 376, 3)) tkX11_within 4 rfl) ?_
  exact zco_iret rfl rfl rfl (zdk (cc := cX11_within) (q := (9, .ireturn, 1)) tkX11_within 5 rfl)
theorem mtX11_within (l : Launch) (d : Nat) (hd : 1 ≤ d) (v0 : Int32) (v1 : Int32) : zMet l d 0 0 yX11_within cX11_within 2 (Option.some .int) [.int v0, .int v1] (X11_within v0 v1) := by
  obtain ⟨e, rfl⟩ : ∃ e, d = e + 1 := ⟨d - 1, by omega⟩
  exact zmet_of (own := RX11) (ini := false) (by decide +kernel) rfl (fun _ => by contradiction) (Nat.le_of_ble_eq_true rfl) (coX11_within l e (by omega) v0 v1)
abbrev iX10_feel : zI := (RX10, cX10_feel, 4, (Option.some .int), false)
def tX10_feel : List (Nat × Instr × Nat) := [(0, .aload_n 0, 1), (1, .getfield 18, 3), (4, .iconst 0, 1), (5, .aload_n 1, 1), (6, .getfield 61, 3), (9, .iload_n 2, 1), (10, .iload_n 3, 1), (11, .invokestatic 64, 3), (14, .iaload, 1), (15, .iastore, 1), (16, .aload_n 0, 1), (17, .getfield 18, 3), (20, .iconst 1, 1), (21, .aload_n 1, 1), (22, .getfield 67, 3), (25, .iastore, 1), (26, .aload_n 0, 1), (27, .getfield 18, 3), (30, .iconst 2, 1), (31, .aload_n 1, 1), (32, .getfield 70, 3), (35, .iload_n 2, 1), (36, .iload_n 3, 1), (37, .invokestatic 64, 3), (40, .iaload, 1), (41, .iastore, 1), (42, .aload_n 0, 1), (43, .getfield 18, 3), (46, .iconst 3, 1), (47, .aload_n 0, 1), (48, .getfield 24, 3), (51, .getfield 73, 3), (54, .iload_n 3, 1), (55, .iaload, 1), (56, .iastore, 1), (57, .aload_n 0, 1), (58, .getfield 18, 3), (61, .iconst 4, 1), (62, .aload_n 0, 1), (63, .getfield 24, 3), (66, .getfield 76, 3), (69, .iload_n 3, 1), (70, .iaload, 1), (71, .iastore, 1), (72, .aload_n 0, 1), (73, .getfield 18, 3), (76, .iconst 5, 1), (77, .aload_n 1, 1), (78, .getfield 79, 3), (81, .iload_n 3, 1), (82, .iaload, 1), (83, .iastore, 1), (84, .aload_n 0, 1), (85, .getfield 18, 3), (88, .bipush 7, 2), (90, .aload_n 1, 1), (91, .getfield 44, 3), (94, .iastore, 1), (95, .aload_n 0, 1), (96, .getfield 18, 3), (99, .bipush 8, 2), (101, .aload_n 1, 1), (102, .getfield 82, 3), (105, .iload_n 2, 1), (106, .iaload, 1), (107, .iastore, 1), (108, .aload_n 0, 1), (109, .getfield 18, 3), (112, .bipush 6, 2), (114, .aload_n 0, 1), (115, .getfield 24, 3), (118, .getfield 85, 3), (121, .iconst 0, 1), (122, .aload_n 0, 1), (123, .getfield 18, 3), (126, .invokevirtual 89, 3), (129, .bipush 99, 2), (131, .invokestatic 95, 3), (134, .iastore, 1), (135, .aload_n 0, 1), (136, .getfield 18, 3), (139, .bipush 6, 2), (141, .iaload, 1), (142, .ireturn, 1)]
set_option maxRecDepth 100000 in
theorem tkX10_feel : ∀ q ∈ tX10_feel, decode cX10_feel q.1 = .ok q.2 := by decide +kernel
theorem vmX10_feel : zVM yX10_feel cX10_feel 4 (Option.some .int) 3 10 := ⟨kX10_feel, q_978, q_979, q_157, ⟨_, rfl, rfl⟩, by decide +kernel, by decide⟩
set_option maxHeartbeats 2000000 in
set_option maxRecDepth 20000 in
theorem coX10_feel (l : Launch) (e : Nat) (he : 3 ≤ e) (v0 : Nat) (v1 : Nat) (v2 : Int32) (v3 : Int32) : zCo l (e + 1) 0 0 iX10_feel 0 [(0, .ref v0), (1, .ref v1), (2, .int v2), (3, .int v3)] [] (X10_feel v0 v1 v2 v3) := by
  unfold X10_feel
  refine zco_p tkX10_feel 0 1 (pc' := 1) (L' := [(0, .ref v0), (1, .ref v1), (2, .int v2), (3, .int v3)]) (S' := [.ref v0]) rfl ?_
  refine zco_gr fl_10_18 rfl (zdk (cc := cX10_feel) (q := (1, .getfield 18, 3)) tkX10_feel 1 rfl) (fun x1 => ?_)
  refine zco_p tkX10_feel 2 2 (pc' := 6) (L' := [(0, .ref v0), (1, .ref v1), (2, .int v2), (3, .int v3)]) (S' := [.ref v1, .int 0, .ref x1]) rfl ?_
  refine zco_gr fl_10_61 rfl (zdk (cc := cX10_feel) (q := (6, .getfield 61, 3)) tkX10_feel 4 rfl) (fun x2 => ?_)
  refine zco_p tkX10_feel 5 2 (pc' := 11) (L' := [(0, .ref v0), (1, .ref v1), (2, .int v2), (3, .int v3)]) (S' := [.int v3, .int v2, .ref x2, .int 0, .ref x1]) rfl ?_
  refine zco_Ni (rc := 0) (rs := 0) (mc := 0) (ms := 0) (As := [.int v2, .int v3]) (S := [.ref x2, .int 0, .ref x1]) vmX11_cell (mtX11_cell l e (by omega) v2 v3) (host := "ClothWedding") (by decide +kernel) rfl rfl (Nat.le_of_ble_eq_true rfl) (zdk (cc := cX10_feel) (q := (11, .invokestatic 64, 3)) tkX10_feel 7 rfl) (fun y3 => ?_)
  refine zco_iaload (zdk (cc := cX10_feel) (q := (14, .iaload, 1)) tkX10_feel 8 rfl) (fun x4 => ?_)
  refine zco_iastore (zdk (cc := cX10_feel) (q := (15, .iastore, 1)) tkX10_feel 9 rfl) ?_
  refine zco_p tkX10_feel 10 1 (pc' := 17) (L' := [(0, .ref v0), (1, .ref v1), (2, .int v2), (3, .int v3)]) (S' := [.ref v0]) rfl ?_
  refine zco_gr fl_10_18 rfl (zdk (cc := cX10_feel) (q := (17, .getfield 18, 3)) tkX10_feel 11 rfl) (fun x5 => ?_)
  refine zco_p tkX10_feel 12 2 (pc' := 22) (L' := [(0, .ref v0), (1, .ref v1), (2, .int v2), (3, .int v3)]) (S' := [.ref v1, .int 1, .ref x5]) rfl ?_
  refine zco_gi fl_10_67 rfl (zdk (cc := cX10_feel) (q := (22, .getfield 67, 3)) tkX10_feel 14 rfl) (fun x6 => ?_)
  refine zco_iastore (zdk (cc := cX10_feel) (q := (25, .iastore, 1)) tkX10_feel 15 rfl) ?_
  refine zco_p tkX10_feel 16 1 (pc' := 27) (L' := [(0, .ref v0), (1, .ref v1), (2, .int v2), (3, .int v3)]) (S' := [.ref v0]) rfl ?_
  refine zco_gr fl_10_18 rfl (zdk (cc := cX10_feel) (q := (27, .getfield 18, 3)) tkX10_feel 17 rfl) (fun x7 => ?_)
  refine zco_p tkX10_feel 18 2 (pc' := 32) (L' := [(0, .ref v0), (1, .ref v1), (2, .int v2), (3, .int v3)]) (S' := [.ref v1, .int 2, .ref x7]) rfl ?_
  refine zco_gr fl_10_70 rfl (zdk (cc := cX10_feel) (q := (32, .getfield 70, 3)) tkX10_feel 20 rfl) (fun x8 => ?_)
  refine zco_p tkX10_feel 21 2 (pc' := 37) (L' := [(0, .ref v0), (1, .ref v1), (2, .int v2), (3, .int v3)]) (S' := [.int v3, .int v2, .ref x8, .int 2, .ref x7]) rfl ?_
  refine zco_Ni (rc := 0) (rs := 0) (mc := 0) (ms := 0) (As := [.int v2, .int v3]) (S := [.ref x8, .int 2, .ref x7]) vmX11_cell (mtX11_cell l e (by omega) v2 v3) (host := "ClothWedding") (by decide +kernel) rfl rfl (Nat.le_of_ble_eq_true rfl) (zdk (cc := cX10_feel) (q := (37, .invokestatic 64, 3)) tkX10_feel 23 rfl) (fun y9 => ?_)
  refine zco_iaload (zdk (cc := cX10_feel) (q := (40, .iaload, 1)) tkX10_feel 24 rfl) (fun x10 => ?_)
  refine zco_iastore (zdk (cc := cX10_feel) (q := (41, .iastore, 1)) tkX10_feel 25 rfl) ?_
  refine zco_p tkX10_feel 26 1 (pc' := 43) (L' := [(0, .ref v0), (1, .ref v1), (2, .int v2), (3, .int v3)]) (S' := [.ref v0]) rfl ?_
  refine zco_gr fl_10_18 rfl (zdk (cc := cX10_feel) (q := (43, .getfield 18, 3)) tkX10_feel 27 rfl) (fun x11 => ?_)
  refine zco_p tkX10_feel 28 2 (pc' := 48) (L' := [(0, .ref v0), (1, .ref v1), (2, .int v2), (3, .int v3)]) (S' := [.ref v0, .int 3, .ref x11]) rfl ?_
  refine zco_gr fl_10_24 rfl (zdk (cc := cX10_feel) (q := (48, .getfield 24, 3)) tkX10_feel 30 rfl) (fun x12 => ?_)
  refine zco_gr fl_10_73 rfl (zdk (cc := cX10_feel) (q := (51, .getfield 73, 3)) tkX10_feel 31 rfl) (fun x13 => ?_)
  refine zco_p tkX10_feel 32 1 (pc' := 55) (L' := [(0, .ref v0), (1, .ref v1), (2, .int v2), (3, .int v3)]) (S' := [.int v3, .ref x13, .int 3, .ref x11]) rfl ?_
  refine zco_iaload (zdk (cc := cX10_feel) (q := (55, .iaload, 1)) tkX10_feel 33 rfl) (fun x14 => ?_)
  refine zco_iastore (zdk (cc := cX10_feel) (q := (56, .iastore, 1)) tkX10_feel 34 rfl) ?_
  refine zco_p tkX10_feel 35 1 (pc' := 58) (L' := [(0, .ref v0), (1, .ref v1), (2, .int v2), (3, .int v3)]) (S' := [.ref v0]) rfl ?_
  refine zco_gr fl_10_18 rfl (zdk (cc := cX10_feel) (q := (58, .getfield 18, 3)) tkX10_feel 36 rfl) (fun x15 => ?_)
  refine zco_p tkX10_feel 37 2 (pc' := 63) (L' := [(0, .ref v0), (1, .ref v1), (2, .int v2), (3, .int v3)]) (S' := [.ref v0, .int 4, .ref x15]) rfl ?_
  refine zco_gr fl_10_24 rfl (zdk (cc := cX10_feel) (q := (63, .getfield 24, 3)) tkX10_feel 39 rfl) (fun x16 => ?_)
  refine zco_gr fl_10_76 rfl (zdk (cc := cX10_feel) (q := (66, .getfield 76, 3)) tkX10_feel 40 rfl) (fun x17 => ?_)
  refine zco_p tkX10_feel 41 1 (pc' := 70) (L' := [(0, .ref v0), (1, .ref v1), (2, .int v2), (3, .int v3)]) (S' := [.int v3, .ref x17, .int 4, .ref x15]) rfl ?_
  refine zco_iaload (zdk (cc := cX10_feel) (q := (70, .iaload, 1)) tkX10_feel 42 rfl) (fun x18 => ?_)
  refine zco_iastore (zdk (cc := cX10_feel) (q := (71, .iastore, 1)) tkX10_feel 43 rfl) ?_
  refine zco_p tkX10_feel 44 1 (pc' := 73) (L' := [(0, .ref v0), (1, .ref v1), (2, .int v2), (3, .int v3)]) (S' := [.ref v0]) rfl ?_
  refine zco_gr fl_10_18 rfl (zdk (cc := cX10_feel) (q := (73, .getfield 18, 3)) tkX10_feel 45 rfl) (fun x19 => ?_)
  refine zco_p tkX10_feel 46 2 (pc' := 78) (L' := [(0, .ref v0), (1, .ref v1), (2, .int v2), (3, .int v3)]) (S' := [.ref v1, .int 5, .ref x19]) rfl ?_
  refine zco_gr fl_10_79 rfl (zdk (cc := cX10_feel) (q := (78, .getfield 79, 3)) tkX10_feel 48 rfl) (fun x20 => ?_)
  refine zco_p tkX10_feel 49 1 (pc' := 82) (L' := [(0, .ref v0), (1, .ref v1), (2, .int v2), (3, .int v3)]) (S' := [.int v3, .ref x20, .int 5, .ref x19]) rfl ?_
  refine zco_iaload (zdk (cc := cX10_feel) (q := (82, .iaload, 1)) tkX10_feel 50 rfl) (fun x21 => ?_)
  refine zco_iastore (zdk (cc := cX10_feel) (q := (83, .iastore, 1)) tkX10_feel 51 rfl) ?_
  refine zco_p tkX10_feel 52 1 (pc' := 85) (L' := [(0, .ref v0), (1, .ref v1), (2, .int v2), (3, .int v3)]) (S' := [.ref v0]) rfl ?_
  refine zco_gr fl_10_18 rfl (zdk (cc := cX10_feel) (q := (85, .getfield 18, 3)) tkX10_feel 53 rfl) (fun x22 => ?_)
  refine zco_p tkX10_feel 54 2 (pc' := 91) (L' := [(0, .ref v0), (1, .ref v1), (2, .int v2), (3, .int v3)]) (S' := [.ref v1, .int 7, .ref x22]) rfl ?_
  refine zco_gi fl_10_44 rfl (zdk (cc := cX10_feel) (q := (91, .getfield 44, 3)) tkX10_feel 56 rfl) (fun x23 => ?_)
  refine zco_iastore (zdk (cc := cX10_feel) (q := (94, .iastore, 1)) tkX10_feel 57 rfl) ?_
  refine zco_p tkX10_feel 58 1 (pc' := 96) (L' := [(0, .ref v0), (1, .ref v1), (2, .int v2), (3, .int v3)]) (S' := [.ref v0]) rfl ?_
  refine zco_gr fl_10_18 rfl (zdk (cc := cX10_feel) (q := (96, .getfield 18, 3)) tkX10_feel 59 rfl) (fun x24 => ?_)
  refine zco_p tkX10_feel 60 2 (pc' := 102) (L' := [(0, .ref v0), (1, .ref v1), (2, .int v2), (3, .int v3)]) (S' := [.ref v1, .int 8, .ref x24]) rfl ?_
  refine zco_gr fl_10_82 rfl (zdk (cc := cX10_feel) (q := (102, .getfield 82, 3)) tkX10_feel 62 rfl) (fun x25 => ?_)
  refine zco_p tkX10_feel 63 1 (pc' := 106) (L' := [(0, .ref v0), (1, .ref v1), (2, .int v2), (3, .int v3)]) (S' := [.int v2, .ref x25, .int 8, .ref x24]) rfl ?_
  refine zco_iaload (zdk (cc := cX10_feel) (q := (106, .iaload, 1)) tkX10_feel 64 rfl) (fun x26 => ?_)
  refine zco_iastore (zdk (cc := cX10_feel) (q := (107, .iastore, 1)) tkX10_feel 65 rfl) ?_
  refine zco_p tkX10_feel 66 1 (pc' := 109) (L' := [(0, .ref v0), (1, .ref v1), (2, .int v2), (3, .int v3)]) (S' := [.ref v0]) rfl ?_
  refine zco_gr fl_10_18 rfl (zdk (cc := cX10_feel) (q := (109, .getfield 18, 3)) tkX10_feel 67 rfl) (fun x27 => ?_)
  refine zco_p tkX10_feel 68 2 (pc' := 115) (L' := [(0, .ref v0), (1, .ref v1), (2, .int v2), (3, .int v3)]) (S' := [.ref v0, .int 6, .ref x27]) rfl ?_
  refine zco_gr fl_10_24 rfl (zdk (cc := cX10_feel) (q := (115, .getfield 24, 3)) tkX10_feel 70 rfl) (fun x28 => ?_)
  refine zco_gr fl_10_85 rfl (zdk (cc := cX10_feel) (q := (118, .getfield 85, 3)) tkX10_feel 71 rfl) (fun x29 => ?_)
  refine zco_p tkX10_feel 72 2 (pc' := 123) (L' := [(0, .ref v0), (1, .ref v1), (2, .int v2), (3, .int v3)]) (S' := [.ref v0, .int 0, .ref x29, .int 6, .ref x27]) rfl ?_
  refine zco_gr fl_10_18 rfl (zdk (cc := cX10_feel) (q := (123, .getfield 18, 3)) tkX10_feel 74 rfl) (fun x30 => ?_)
  refine zco_Vi (rc := 0) (rs := 0) (mc := 0) (ms := 0) (As := [.int 0, .ref x30]) (S := [.int 6, .ref x27]) vmX3_value (mtX3_value l e (by omega) x29 0 x30) q_982 rfl rfl (Nat.le_of_ble_eq_true rfl) (zdk (cc := cX10_feel) (q := (126, .invokevirtual 89, 3)) tkX10_feel 75 rfl) (fun y31 => ?_)
  refine zco_p tkX10_feel 76 1 (pc' := 131) (L' := [(0, .ref v0), (1, .ref v1), (2, .int v2), (3, .int v3)]) (S' := [.int 99, .int y31, .int 6, .ref x27]) rfl ?_
  refine zco_Ni (rc := 0) (rs := 0) (mc := 0) (ms := 0) (As := [.int y31, .int 99]) (S := [.int 6, .ref x27]) vmX11_within (mtX11_within l e (by omega) y31 99) (host := "ClothWedding") (by decide +kernel) rfl rfl (Nat.le_of_ble_eq_true rfl) (zdk (cc := cX10_feel) (q := (131, .invokestatic 95, 3)) tkX10_feel 77 rfl) (fun y32 => ?_)
  refine zco_iastore (zdk (cc := cX10_feel) (q := (134, .iastore, 1)) tkX10_feel 78 rfl) ?_
  refine zco_p tkX10_feel 79 1 (pc' := 136) (L' := [(0, .ref v0), (1, .ref v1), (2, .int v2), (3, .int v3)]) (S' := [.ref v0]) rfl ?_
  refine zco_gr fl_10_18 rfl (zdk (cc := cX10_feel) (q := (136, .getfield 18, 3)) tkX10_feel 80 rfl) (fun x33 => ?_)
  refine zco_p tkX10_feel 81 1 (pc' := 141) (L' := [(0, .ref v0), (1, .ref v1), (2, .int v2), (3, .int v3)]) (S' := [.int 6, .ref x33]) rfl ?_
  refine zco_iaload (zdk (cc := cX10_feel) (q := (141, .iaload, 1)) tkX10_feel 82 rfl) (fun x34 => ?_)
  exact zco_iret rfl rfl rfl (zdk (cc := cX10_feel) (q := (142, .ireturn, 1)) tkX10_feel 83 rfl)
theorem mtX10_feel (l : Launch) (d : Nat) (hd : 4 ≤ d) (v0 : Nat) (v1 : Nat) (v2 : Int32) (v3 : Int32) : zMet l d 0 0 yX10_feel cX10_feel 4 (Option.some .int) [.ref v0, .ref v1, .int v2, .int v3] (X10_feel v0 v1 v2 v3) := by
  obtain ⟨e, rfl⟩ : ∃ e, d = e + 1 := ⟨d - 1, by omega⟩
  exact zmet_of (own := RX10) (ini := false) (by decide +kernel) rfl (fun _ => by contradiction) (Nat.le_of_ble_eq_true rfl) (coX10_feel l e (by omega) v0 v1 v2 v3)
abbrev iX10_letsGo : zI := (RX10, cX10_letsGo, 1, (Option.some .boolean), false)
def tX10_letsGo : List (Nat × Instr × Nat) := [(0, .aload_n 0, 1), (1, .getfield 24, 3), (4, .getfield 85, 3), (7, .iconst 1, 1), (8, .aload_n 0, 1), (9, .getfield 18, 3), (12, .invokevirtual 89, 3), (15, .ifCond .eq 7, 3), (18, .iconst 1, 1), (19, .goto 4, 3), (22, .iconst 0, 1), (23, .ireturn, 1)]
set_option maxRecDepth 100000 in
theorem tkX10_letsGo : ∀ q ∈ tX10_letsGo, decode cX10_letsGo q.1 = .ok q.2 := by decide +kernel
theorem vmX10_letsGo : zVM yX10_letsGo cX10_letsGo 1 (Option.some .boolean) 0 10 := ⟨kX10_letsGo, q_1013, q_1014, q_157, ⟨_, rfl, rfl⟩, by decide +kernel, by decide⟩
set_option maxHeartbeats 2000000 in
set_option maxRecDepth 20000 in
theorem coX10_letsGo (l : Launch) (e : Nat) (he : 3 ≤ e) (v0 : Nat) : zCo l (e + 1) 0 0 iX10_letsGo 0 [(0, .ref v0)] [] (X10_letsGo v0) := by
  unfold X10_letsGo
  refine zco_p tkX10_letsGo 0 1 (pc' := 1) (L' := [(0, .ref v0)]) (S' := [.ref v0]) rfl ?_
  refine zco_gr fl_10_24 rfl (zdk (cc := cX10_letsGo) (q := (1, .getfield 24, 3)) tkX10_letsGo 1 rfl) (fun x1 => ?_)
  refine zco_gr fl_10_85 rfl (zdk (cc := cX10_letsGo) (q := (4, .getfield 85, 3)) tkX10_letsGo 2 rfl) (fun x2 => ?_)
  refine zco_p tkX10_letsGo 3 2 (pc' := 9) (L' := [(0, .ref v0)]) (S' := [.ref v0, .int 1, .ref x2]) rfl ?_
  refine zco_gr fl_10_18 rfl (zdk (cc := cX10_letsGo) (q := (9, .getfield 18, 3)) tkX10_letsGo 5 rfl) (fun x3 => ?_)
  refine zco_Vi (rc := 0) (rs := 0) (mc := 0) (ms := 0) (As := [.int 1, .ref x3]) (S := []) vmX3_value (mtX3_value l e (by omega) x2 1 x3) q_982 rfl rfl (Nat.le_of_ble_eq_true rfl) (zdk (cc := cX10_letsGo) (q := (12, .invokevirtual 89, 3)) tkX10_letsGo 6 rfl) (fun y4 => ?_)
  refine zco_if_eq (tgt := 22) (zdk (cc := cX10_letsGo) (q := (15, .ifCond .eq 7, 3)) tkX10_letsGo 7 rfl) rfl ?_ ?_
  · refine zco_p tkX10_letsGo 10 1 (pc' := 23) (L' := [(0, .ref v0)]) (S' := [.int 0]) rfl ?_
    exact zco_zret rfl rfl rfl (zdk (cc := cX10_letsGo) (q := (23, .ireturn, 1)) tkX10_letsGo 11 rfl)
  · refine zco_p tkX10_letsGo 8 2 (pc' := 23) (L' := [(0, .ref v0)]) (S' := [.int 1]) rfl ?_
    exact zco_zret rfl rfl rfl (zdk (cc := cX10_letsGo) (q := (23, .ireturn, 1)) tkX10_letsGo 11 rfl)
theorem mtX10_letsGo (l : Launch) (d : Nat) (hd : 4 ≤ d) (v0 : Nat) : zMet l d 0 0 yX10_letsGo cX10_letsGo 1 (Option.some .boolean) [.ref v0] (X10_letsGo v0) := by
  obtain ⟨e, rfl⟩ : ∃ e, d = e + 1 := ⟨d - 1, by omega⟩
  exact zmet_of (own := RX10) (ini := false) (by decide +kernel) rfl (fun _ => by contradiction) (Nat.le_of_ble_eq_true rfl) (coX10_letsGo l e (by omega) v0)
abbrev iX11_pair : zI := (RX11, cX11_pair, 6, (Option.some .int), false)
def tX11_pair : List (Nat × Instr × Nat) := [(0, .aload_n 0, 1), (1, .getfield 51, 3), (4, .iload_n 1, 1), (5, .invokevirtual 184, 3), (8, .istore 4, 2), (10, .aload_n 0, 1), (11, .getfield 51, 3), (14, .iload 4, 2), (16, .iload_n 2, 1), (17, .invokevirtual 221, 3), (20, .istore 5, 2), (22, .iload 5, 2), (24, .iconst (-1), 1), (25, .if_icmp .ne 5, 3), (28, .iconst (-1), 1), (29, .ireturn, 1), (30, .iload_n 3, 1), (31, .tableswitch 133 0 4 #[33, 49, 65, 81, 113], 33), (64, .aload_n 0, 1), (65, .getfield 61, 3), (68, .getfield 224, 3), (71, .iload 4, 2), (73, .iload 5, 2), (75, .invokestatic 227, 3), (78, .iaload, 1), (79, .ireturn, 1), (80, .aload_n 0, 1), (81, .getfield 61, 3), (84, .getfield 230, 3), (87, .iload 4, 2), (89, .iload 5, 2), (91, .invokestatic 227, 3), (94, .iaload, 1), (95, .ireturn, 1), (96, .aload_n 0, 1), (97, .getfield 70, 3), (100, .aload_n 0, 1), (101, .getfield 61, 3), (104, .iload 4, 2), (106, .iload 5, 2), (108, .invokevirtual 233, 3), (111, .ireturn, 1), (112, .aload_n 0, 1), (113, .getfield 70, 3), (116, .aload_n 0, 1), (117, .getfield 61, 3), (120, .iload 4, 2), (122, .iload 5, 2), (124, .invokevirtual 233, 3), (127, .pop, 1), (128, .aload_n 0, 1), (129, .getfield 70, 3), (132, .invokevirtual 237, 3), (135, .ifCond .eq 7, 3), (138, .iconst 1, 1), (139, .goto 4, 3), (142, .iconst 0, 1), (143, .ireturn, 1), (144, .aload_n 0, 1), (145, .getfield 51, 3), (148, .iload 4, 2), (150, .iload 5, 2), (152, .invokevirtual 241, 3), (155, .ifCond .eq 7, 3), (158, .iconst 1, 1), (159, .goto 4, 3), (162, .iconst 0, 1), (163, .ireturn, 1), (164, .iconst (-1), 1), (165, .ireturn, 1)]
set_option maxRecDepth 100000 in
theorem tkX11_pair : ∀ q ∈ tX11_pair, decode cX11_pair q.1 = .ok q.2 := by decide +kernel
theorem vmX11_pair : zVM yX11_pair cX11_pair 6 (Option.some .int) 3 11 := ⟨kX11_pair, q_967, q_968, q_149, ⟨_, rfl, rfl⟩, by decide +kernel, by decide⟩
set_option maxHeartbeats 2000000 in
set_option maxRecDepth 20000 in
theorem coX11_pair (l : Launch) (e : Nat) (he : 4 ≤ e) (v0 : Nat) (v1 : Int32) (v2 : Int32) (v3 : Int32) : zCo l (e + 1) 0 0 iX11_pair 0 [(0, .ref v0), (1, .int v1), (2, .int v2), (3, .int v3)] [] (X11_pair v0 v1 v2 v3) := by
  unfold X11_pair
  refine zco_p tkX11_pair 0 1 (pc' := 1) (L' := [(0, .ref v0), (1, .int v1), (2, .int v2), (3, .int v3)]) (S' := [.ref v0]) rfl ?_
  refine zco_gr fl_11_51 rfl (zdk (cc := cX11_pair) (q := (1, .getfield 51, 3)) tkX11_pair 1 rfl) (fun x1 => ?_)
  refine zco_p tkX11_pair 2 1 (pc' := 5) (L' := [(0, .ref v0), (1, .int v1), (2, .int v2), (3, .int v3)]) (S' := [.int v1, .ref x1]) rfl ?_
  refine zco_Vi (rc := 0) (rs := 0) (mc := 0) (ms := 0) (As := [.int v1]) (S := []) vmX1_slot (mtX1_slot l e (by omega) x1 v1) q_932 rfl rfl (Nat.le_of_ble_eq_true rfl) (zdk (cc := cX11_pair) (q := (5, .invokevirtual 184, 3)) tkX11_pair 3 rfl) (fun y2 => ?_)
  refine zco_p tkX11_pair 4 2 (pc' := 11) (L' := [(4, .int y2), (0, .ref v0), (1, .int v1), (2, .int v2), (3, .int v3)]) (S' := [.ref v0]) rfl ?_
  refine zco_gr fl_11_51 rfl (zdk (cc := cX11_pair) (q := (11, .getfield 51, 3)) tkX11_pair 6 rfl) (fun x3 => ?_)
  refine zco_p tkX11_pair 7 2 (pc' := 17) (L' := [(4, .int y2), (0, .ref v0), (1, .int v1), (2, .int v2), (3, .int v3)]) (S' := [.int v2, .int y2, .ref x3]) rfl ?_
  refine zco_Vi (rc := 0) (rs := 0) (mc := 0) (ms := 0) (As := [.int y2, .int v2]) (S := []) vmX1_across (mtX1_across l e (by omega) x3 y2 v2) q_970 rfl rfl (Nat.le_of_ble_eq_true rfl) (zdk (cc := cX11_pair) (q := (17, .invokevirtual 221, 3)) tkX11_pair 9 rfl) (fun y4 => ?_)
  refine zco_p tkX11_pair 10 3 (pc' := 25) (L' := [(5, .int y4), (4, .int y2), (0, .ref v0), (1, .int v1), (2, .int v2), (3, .int v3)]) (S' := [.int ((-1)), .int y4]) rfl ?_
  refine zco_icmp_ne (tgt := 30) (zdk (cc := cX11_pair) (q := (25, .if_icmp .ne 5, 3)) tkX11_pair 13 rfl) rfl ?_ ?_
  · refine zco_p tkX11_pair 16 1 (pc' := 31) (L' := [(5, .int y4), (4, .int y2), (0, .ref v0), (1, .int v1), (2, .int v2), (3, .int v3)]) (S' := [.int v3]) rfl ?_
    refine @zco_tab l (e + 1) 0 0 iX11_pair 31 [(5, .int y4), (4, .int y2), (0, .ref v0), (1, .int v1), (2, .int v2), (3, .int v3)] [] _ v3 133 0 4 #[33, 49, 65, 81, 113] 33 (zdk (cc := cX11_pair) (q := (31, .tableswitch 133 0 4 #[33, 49, 65, 81, 113], 33)) tkX11_pair 17 rfl) 164 rfl [64, 80, 96, 112, 144] (X11_pair_S31 v0 y2 y4) (by decide) (by decide) ?_ (fun j t ht => ?_)
    · refine zco_p tkX11_pair 68 1 (pc' := 165) (L' := [(5, .int y4), (4, .int y2), (0, .ref v0), (1, .int v1), (2, .int v2), (3, .int v3)]) (S' := [.int ((-1))]) rfl ?_
      exact zco_iret rfl rfl rfl (zdk (cc := cX11_pair) (q := (165, .ireturn, 1)) tkX11_pair 69 rfl)
    · match j, ht with
      | 0, ht =>
        cases ht
        show zCo l (e + 1) 0 0 iX11_pair 64 [(5, .int y4), (4, .int y2), (0, .ref v0), (1, .int v1), (2, .int v2), (3, .int v3)] [] (z_gr 11 7 v0 fun x5 => z_gr 8 6 x5 fun x6 => z_ci (X11_cell y2 y4) fun y7 => z_la 20 x6 y7 fun x8 => z_ret (some (.int x8)))
        refine zco_p tkX11_pair 18 1 (pc' := 65) (L' := [(5, .int y4), (4, .int y2), (0, .ref v0), (1, .int v1), (2, .int v2), (3, .int v3)]) (S' := [.ref v0]) rfl ?_
        refine zco_gr fl_11_61 rfl (zdk (cc := cX11_pair) (q := (65, .getfield 61, 3)) tkX11_pair 19 rfl) (fun x5 => ?_)
        refine zco_gr fl_11_224 rfl (zdk (cc := cX11_pair) (q := (68, .getfield 224, 3)) tkX11_pair 20 rfl) (fun x6 => ?_)
        refine zco_p tkX11_pair 21 2 (pc' := 75) (L' := [(5, .int y4), (4, .int y2), (0, .ref v0), (1, .int v1), (2, .int v2), (3, .int v3)]) (S' := [.int y4, .int y2, .ref x6]) rfl ?_
        refine zco_Si (rc := 0) (rs := 0) (mc := 0) (ms := 0) (As := [.int y2, .int y4]) (S := [.ref x6]) vmX11_cell (mtX11_cell l e (by omega) y2 y4) q_976 rfl rfl (Nat.le_of_ble_eq_true rfl) (zdk (cc := cX11_pair) (q := (75, .invokestatic 227, 3)) tkX11_pair 23 rfl) (fun y7 => ?_)
        refine zco_iaload (zdk (cc := cX11_pair) (q := (78, .iaload, 1)) tkX11_pair 24 rfl) (fun x8 => ?_)
        exact zco_iret rfl rfl rfl (zdk (cc := cX11_pair) (q := (79, .ireturn, 1)) tkX11_pair 25 rfl)
      | 1, ht =>
        cases ht
        show zCo l (e + 1) 0 0 iX11_pair 80 [(5, .int y4), (4, .int y2), (0, .ref v0), (1, .int v1), (2, .int v2), (3, .int v3)] [] (z_gr 11 7 v0 fun x9 => z_gr 8 7 x9 fun x10 => z_ci (X11_cell y2 y4) fun y11 => z_la 20 x10 y11 fun x12 => z_ret (some (.int x12)))
        refine zco_p tkX11_pair 26 1 (pc' := 81) (L' := [(5, .int y4), (4, .int y2), (0, .ref v0), (1, .int v1), (2, .int v2), (3, .int v3)]) (S' := [.ref v0]) rfl ?_
        refine zco_gr fl_11_61 rfl (zdk (cc := cX11_pair) (q := (81, .getfield 61, 3)) tkX11_pair 27 rfl) (fun x9 => ?_)
        refine zco_gr fl_11_230 rfl (zdk (cc := cX11_pair) (q := (84, .getfield 230, 3)) tkX11_pair 28 rfl) (fun x10 => ?_)
        refine zco_p tkX11_pair 29 2 (pc' := 91) (L' := [(5, .int y4), (4, .int y2), (0, .ref v0), (1, .int v1), (2, .int v2), (3, .int v3)]) (S' := [.int y4, .int y2, .ref x10]) rfl ?_
        refine zco_Si (rc := 0) (rs := 0) (mc := 0) (ms := 0) (As := [.int y2, .int y4]) (S := [.ref x10]) vmX11_cell (mtX11_cell l e (by omega) y2 y4) q_976 rfl rfl (Nat.le_of_ble_eq_true rfl) (zdk (cc := cX11_pair) (q := (91, .invokestatic 227, 3)) tkX11_pair 31 rfl) (fun y11 => ?_)
        refine zco_iaload (zdk (cc := cX11_pair) (q := (94, .iaload, 1)) tkX11_pair 32 rfl) (fun x12 => ?_)
        exact zco_iret rfl rfl rfl (zdk (cc := cX11_pair) (q := (95, .ireturn, 1)) tkX11_pair 33 rfl)
      | 2, ht =>
        cases ht
        show zCo l (e + 1) 0 0 iX11_pair 96 [(5, .int y4), (4, .int y2), (0, .ref v0), (1, .int v1), (2, .int v2), (3, .int v3)] [] (z_gr 11 8 v0 fun x13 => z_gr 11 7 v0 fun x14 => z_rc 10 x13 (z_ci (X10_feel x13 x14 y2 y4) fun y15 => z_ret (some (.int y15))))
        refine zco_p tkX11_pair 34 1 (pc' := 97) (L' := [(5, .int y4), (4, .int y2), (0, .ref v0), (1, .int v1), (2, .int v2), (3, .int v3)]) (S' := [.ref v0]) rfl ?_
        refine zco_gr fl_11_70 rfl (zdk (cc := cX11_pair) (q := (97, .getfield 70, 3)) tkX11_pair 35 rfl) (fun x13 => ?_)
        refine zco_p tkX11_pair 36 1 (pc' := 101) (L' := [(5, .int y4), (4, .int y2), (0, .ref v0), (1, .int v1), (2, .int v2), (3, .int v3)]) (S' := [.ref v0, .ref x13]) rfl ?_
        refine zco_gr fl_11_61 rfl (zdk (cc := cX11_pair) (q := (101, .getfield 61, 3)) tkX11_pair 37 rfl) (fun x14 => ?_)
        refine zco_p tkX11_pair 38 2 (pc' := 108) (L' := [(5, .int y4), (4, .int y2), (0, .ref v0), (1, .int v1), (2, .int v2), (3, .int v3)]) (S' := [.int y4, .int y2, .ref x14, .ref x13]) rfl ?_
        refine zco_Vi (rc := 0) (rs := 0) (mc := 0) (ms := 0) (As := [.ref x14, .int y2, .int y4]) (S := []) vmX10_feel (mtX10_feel l e (by omega) x13 x14 y2 y4) q_977 rfl rfl (Nat.le_of_ble_eq_true rfl) (zdk (cc := cX11_pair) (q := (108, .invokevirtual 233, 3)) tkX11_pair 40 rfl) (fun y15 => ?_)
        exact zco_iret rfl rfl rfl (zdk (cc := cX11_pair) (q := (111, .ireturn, 1)) tkX11_pair 41 rfl)
      | 3, ht =>
        cases ht
        show zCo l (e + 1) 0 0 iX11_pair 112 [(5, .int y4), (4, .int y2), (0, .ref v0), (1, .int v1), (2, .int v2), (3, .int v3)] [] (z_gr 11 8 v0 fun x16 => z_gr 11 7 v0 fun x17 => z_rc 10 x16 (z_ci (X10_feel x16 x17 y2 y4) fun y18 => z_gr 11 8 v0 fun x19 => z_rc 10 x19 (z_ci (X10_letsGo x19) fun y20 => z_if (y20 = 0) (z_ret (some (.int 0)))  (z_ret (some (.int 1))))))
        refine zco_p tkX11_pair 42 1 (pc' := 113) (L' := [(5, .int y4), (4, .int y2), (0, .ref v0), (1, .int v1), (2, .int v2), (3, .int v3)]) (S' := [.ref v0]) rfl ?_
        refine zco_gr fl_11_70 rfl (zdk (cc := cX11_pair) (q := (113, .getfield 70, 3)) tkX11_pair 43 rfl) (fun x16 => ?_)
        refine zco_p tkX11_pair 44 1 (pc' := 117) (L' := [(5, .int y4), (4, .int y2), (0, .ref v0), (1, .int v1), (2, .int v2), (3, .int v3)]) (S' := [.ref v0, .ref x16]) rfl ?_
        refine zco_gr fl_11_61 rfl (zdk (cc := cX11_pair) (q := (117, .getfield 61, 3)) tkX11_pair 45 rfl) (fun x17 => ?_)
        refine zco_p tkX11_pair 46 2 (pc' := 124) (L' := [(5, .int y4), (4, .int y2), (0, .ref v0), (1, .int v1), (2, .int v2), (3, .int v3)]) (S' := [.int y4, .int y2, .ref x17, .ref x16]) rfl ?_
        refine zco_Vi (rc := 0) (rs := 0) (mc := 0) (ms := 0) (As := [.ref x17, .int y2, .int y4]) (S := []) vmX10_feel (mtX10_feel l e (by omega) x16 x17 y2 y4) q_977 rfl rfl (Nat.le_of_ble_eq_true rfl) (zdk (cc := cX11_pair) (q := (124, .invokevirtual 233, 3)) tkX11_pair 48 rfl) (fun y18 => ?_)
        refine zco_p tkX11_pair 49 2 (pc' := 129) (L' := [(5, .int y4), (4, .int y2), (0, .ref v0), (1, .int v1), (2, .int v2), (3, .int v3)]) (S' := [.ref v0]) rfl ?_
        refine zco_gr fl_11_70 rfl (zdk (cc := cX11_pair) (q := (129, .getfield 70, 3)) tkX11_pair 51 rfl) (fun x19 => ?_)
        refine zco_Vi (rc := 0) (rs := 0) (mc := 0) (ms := 0) (As := []) (S := []) vmX10_letsGo (mtX10_letsGo l e (by omega) x19) q_1012 rfl rfl (Nat.le_of_ble_eq_true rfl) (zdk (cc := cX11_pair) (q := (132, .invokevirtual 237, 3)) tkX11_pair 52 rfl) (fun y20 => ?_)
        refine zco_if_eq (tgt := 142) (zdk (cc := cX11_pair) (q := (135, .ifCond .eq 7, 3)) tkX11_pair 53 rfl) rfl ?_ ?_
        · refine zco_p tkX11_pair 56 1 (pc' := 143) (L' := [(5, .int y4), (4, .int y2), (0, .ref v0), (1, .int v1), (2, .int v2), (3, .int v3)]) (S' := [.int 0]) rfl ?_
          exact zco_iret rfl rfl rfl (zdk (cc := cX11_pair) (q := (143, .ireturn, 1)) tkX11_pair 57 rfl)
        · refine zco_p tkX11_pair 54 2 (pc' := 143) (L' := [(5, .int y4), (4, .int y2), (0, .ref v0), (1, .int v1), (2, .int v2), (3, .int v3)]) (S' := [.int 1]) rfl ?_
          exact zco_iret rfl rfl rfl (zdk (cc := cX11_pair) (q := (143, .ireturn, 1)) tkX11_pair 57 rfl)
      | 4, ht =>
        cases ht
        show zCo l (e + 1) 0 0 iX11_pair 144 [(5, .int y4), (4, .int y2), (0, .ref v0), (1, .int v1), (2, .int v2), (3, .int v3)] [] (z_gr 11 5 v0 fun x21 => z_rc 1 x21 (z_ci (X1_areKin x21 y2 y4) fun y22 => z_if (y22 = 0) (z_ret (some (.int 0)))  (z_ret (some (.int 1)))))
        refine zco_p tkX11_pair 58 1 (pc' := 145) (L' := [(5, .int y4), (4, .int y2), (0, .ref v0), (1, .int v1), (2, .int v2), (3, .int v3)]) (S' := [.ref v0]) rfl ?_
        refine zco_gr fl_11_51 rfl (zdk (cc := cX11_pair) (q := (145, .getfield 51, 3)) tkX11_pair 59 rfl) (fun x21 => ?_)
        refine zco_p tkX11_pair 60 2 (pc' := 152) (L' := [(5, .int y4), (4, .int y2), (0, .ref v0), (1, .int v1), (2, .int v2), (3, .int v3)]) (S' := [.int y4, .int y2, .ref x21]) rfl ?_
        refine zco_Vi (rc := 0) (rs := 0) (mc := 0) (ms := 0) (As := [.int y2, .int y4]) (S := []) vmX1_areKin (mtX1_areKin l e (by omega) x21 y2 y4) q_1016 rfl rfl (Nat.le_of_ble_eq_true rfl) (zdk (cc := cX11_pair) (q := (152, .invokevirtual 241, 3)) tkX11_pair 62 rfl) (fun y22 => ?_)
        refine zco_if_eq (tgt := 162) (zdk (cc := cX11_pair) (q := (155, .ifCond .eq 7, 3)) tkX11_pair 63 rfl) rfl ?_ ?_
        · refine zco_p tkX11_pair 66 1 (pc' := 163) (L' := [(5, .int y4), (4, .int y2), (0, .ref v0), (1, .int v1), (2, .int v2), (3, .int v3)]) (S' := [.int 0]) rfl ?_
          exact zco_iret rfl rfl rfl (zdk (cc := cX11_pair) (q := (163, .ireturn, 1)) tkX11_pair 67 rfl)
        · refine zco_p tkX11_pair 64 2 (pc' := 163) (L' := [(5, .int y4), (4, .int y2), (0, .ref v0), (1, .int v1), (2, .int v2), (3, .int v3)]) (S' := [.int 1]) rfl ?_
          exact zco_iret rfl rfl rfl (zdk (cc := cX11_pair) (q := (163, .ireturn, 1)) tkX11_pair 67 rfl)
      | j + 5, ht => exact absurd ht (by simp)
  · refine zco_p tkX11_pair 14 1 (pc' := 29) (L' := [(5, .int y4), (4, .int y2), (0, .ref v0), (1, .int v1), (2, .int v2), (3, .int v3)]) (S' := [.int ((-1))]) rfl ?_
    exact zco_iret rfl rfl rfl (zdk (cc := cX11_pair) (q := (29, .ireturn, 1)) tkX11_pair 15 rfl)
theorem mtX11_pair (l : Launch) (d : Nat) (hd : 5 ≤ d) (v0 : Nat) (v1 : Int32) (v2 : Int32) (v3 : Int32) : zMet l d 0 0 yX11_pair cX11_pair 6 (Option.some .int) [.ref v0, .int v1, .int v2, .int v3] (X11_pair v0 v1 v2 v3) := by
  obtain ⟨e, rfl⟩ : ∃ e, d = e + 1 := ⟨d - 1, by omega⟩
  exact zmet_of (own := RX11) (ini := false) (by decide +kernel) rfl (fun _ => by contradiction) (Nat.le_of_ble_eq_true rfl) (coX11_pair l e (by omega) v0 v1 v2 v3)
abbrev iX6_keptCell : zI := (RX6, cX6_keptCell, 3, (Option.some .int), false)
def tX6_keptCell : List (Nat × Instr × Nat) := [(0, .aload_n 0, 1), (1, .getfield 28, 3), (4, .aload_n 0, 1), (5, .getfield 31, 3), (8, .aload_n 0, 1), (9, .invokevirtual 45, 3), (12, .isub, 1), (13, .iload_n 1, 1), (14, .iadd, 1), (15, .sipush 160, 3), (18, .irem, 1), (19, .iconst 4, 1), (20, .imul, 1), (21, .iload_n 2, 1), (22, .iadd, 1), (23, .iaload, 1), (24, .ireturn, 1)]
set_option maxRecDepth 100000 in
theorem tkX6_keptCell : ∀ q ∈ tX6_keptCell, decode cX6_keptCell q.1 = .ok q.2 := by decide +kernel
theorem vmX6_keptCell : zVM yX6_keptCell cX6_keptCell 3 (Option.some .int) 2 6 := ⟨kX6_keptCell, q_1022, q_1023, q_160, ⟨_, rfl, rfl⟩, by decide +kernel, by decide⟩
set_option maxHeartbeats 2000000 in
set_option maxRecDepth 20000 in
theorem coX6_keptCell (l : Launch) (e : Nat) (he : 1 ≤ e) (v0 : Nat) (v1 : Int32) (v2 : Int32) : zCo l (e + 1) 0 0 iX6_keptCell 0 [(0, .ref v0), (1, .int v1), (2, .int v2)] [] (X6_keptCell v0 v1 v2) := by
  unfold X6_keptCell
  refine zco_p tkX6_keptCell 0 1 (pc' := 1) (L' := [(0, .ref v0), (1, .int v1), (2, .int v2)]) (S' := [.ref v0]) rfl ?_
  refine zco_gr fl_6_28 rfl (zdk (cc := cX6_keptCell) (q := (1, .getfield 28, 3)) tkX6_keptCell 1 rfl) (fun x1 => ?_)
  refine zco_p tkX6_keptCell 2 1 (pc' := 5) (L' := [(0, .ref v0), (1, .int v1), (2, .int v2)]) (S' := [.ref v0, .ref x1]) rfl ?_
  refine zco_gi fl_6_31 rfl (zdk (cc := cX6_keptCell) (q := (5, .getfield 31, 3)) tkX6_keptCell 3 rfl) (fun x2 => ?_)
  refine zco_p tkX6_keptCell 4 1 (pc' := 9) (L' := [(0, .ref v0), (1, .int v1), (2, .int v2)]) (S' := [.ref v0, .int x2, .ref x1]) rfl ?_
  refine zco_Vi (rc := 0) (rs := 0) (mc := 0) (ms := 0) (As := []) (S := [.int x2, .ref x1]) vmX6_keptTold (mtX6_keptTold l e (by omega) v0) q_1025 rfl rfl (Nat.le_of_ble_eq_true rfl) (zdk (cc := cX6_keptCell) (q := (9, .invokevirtual 45, 3)) tkX6_keptCell 5 rfl) (fun y3 => ?_)
  refine zco_p tkX6_keptCell 6 4 (pc' := 18) (L' := [(0, .ref v0), (1, .int v1), (2, .int v2)]) (S' := [.int 160, .int ((x2 - y3) + v1), .ref x1]) rfl ?_
  refine zco_irem (zdk (cc := cX6_keptCell) (q := (18, .irem, 1)) tkX6_keptCell 10 rfl) ?_
  refine zco_p tkX6_keptCell 11 4 (pc' := 23) (L' := [(0, .ref v0), (1, .int v1), (2, .int v2)]) (S' := [.int (((((x2 - y3) + v1) - ((x2 - y3) + v1) / 160 * 160) * 4) + v2), .ref x1]) rfl ?_
  refine zco_iaload (zdk (cc := cX6_keptCell) (q := (23, .iaload, 1)) tkX6_keptCell 15 rfl) (fun x4 => ?_)
  exact zco_iret rfl rfl rfl (zdk (cc := cX6_keptCell) (q := (24, .ireturn, 1)) tkX6_keptCell 16 rfl)
theorem mtX6_keptCell (l : Launch) (d : Nat) (hd : 2 ≤ d) (v0 : Nat) (v1 : Int32) (v2 : Int32) : zMet l d 0 0 yX6_keptCell cX6_keptCell 3 (Option.some .int) [.ref v0, .int v1, .int v2] (X6_keptCell v0 v1 v2) := by
  obtain ⟨e, rfl⟩ : ∃ e, d = e + 1 := ⟨d - 1, by omega⟩
  exact zmet_of (own := RX6) (ini := false) (by decide +kernel) rfl (fun _ => by contradiction) (Nat.le_of_ble_eq_true rfl) (coX6_keptCell l e (by omega) v0 v1 v2)
abbrev iX11_kept : zI := (RX11, cX11_kept, 4, (Option.some .int), false)
def tX11_kept : List (Nat × Instr × Nat) := [(0, .iload_n 1, 1), (1, .ifCond .lt 23, 3), (4, .iload_n 1, 1), (5, .aload_n 0, 1), (6, .getfield 93, 3), (9, .invokevirtual 178, 3), (12, .if_icmp .ge 12, 3), (15, .iload_n 2, 1), (16, .ifCond .lt 8, 3), (19, .iload_n 2, 1), (20, .iconst 3, 1), (21, .if_icmp .le 5, 3), (24, .iconst (-1), 1), (25, .ireturn, 1), (26, .aload_n 0, 1), (27, .getfield 93, 3), (30, .iload_n 1, 1), (31, .iload_n 2, 1), (32, .invokevirtual 245, 3), (35, .istore_n 3, 1), (36, .iload_n 2, 1), (37, .iconst 2, 1), (38, .if_icmp .ge 7, 3), (41, .iload_n 3, 1), (42, .goto 11, 3), (45, .aload_n 0, 1), (46, .getfield 51, 3), (49, .iload_n 3, 1), (50, .invokevirtual 202, 3), (53, .ireturn, 1)]
set_option maxRecDepth 100000 in
theorem tkX11_kept : ∀ q ∈ tX11_kept, decode cX11_kept q.1 = .ok q.2 := by decide +kernel
theorem vmX11_kept : zVM yX11_kept cX11_kept 4 (Option.some .int) 2 11 := ⟨kX11_kept, q_1018, q_1019, q_149, ⟨_, rfl, rfl⟩, by decide +kernel, by decide⟩
set_option maxHeartbeats 2000000 in
set_option maxRecDepth 20000 in
theorem coX11_kept (l : Launch) (e : Nat) (he : 2 ≤ e) (v0 : Nat) (v1 : Int32) (v2 : Int32) : zCo l (e + 1) 0 0 iX11_kept 0 [(0, .ref v0), (1, .int v1), (2, .int v2)] [] (X11_kept v0 v1 v2) := by
  unfold X11_kept
  refine zco_p tkX11_kept 0 1 (pc' := 1) (L' := [(0, .ref v0), (1, .int v1), (2, .int v2)]) (S' := [.int v1]) rfl ?_
  refine zco_if_lt (tgt := 24) (zdk (cc := cX11_kept) (q := (1, .ifCond .lt 23, 3)) tkX11_kept 1 rfl) rfl ?_ ?_
  · refine zco_p tkX11_kept 12 1 (pc' := 25) (L' := [(0, .ref v0), (1, .int v1), (2, .int v2)]) (S' := [.int ((-1))]) rfl ?_
    exact zco_iret rfl rfl rfl (zdk (cc := cX11_kept) (q := (25, .ireturn, 1)) tkX11_kept 13 rfl)
  · refine zco_p tkX11_kept 2 2 (pc' := 6) (L' := [(0, .ref v0), (1, .int v1), (2, .int v2)]) (S' := [.ref v0, .int v1]) rfl ?_
    refine zco_gr fl_11_93 rfl (zdk (cc := cX11_kept) (q := (6, .getfield 93, 3)) tkX11_kept 4 rfl) (fun x1 => ?_)
    refine zco_Vi (rc := 0) (rs := 0) (mc := 0) (ms := 0) (As := []) (S := [.int v1]) vmX6_keptTold (mtX6_keptTold l e (by omega) x1) q_921 rfl rfl (Nat.le_of_ble_eq_true rfl) (zdk (cc := cX11_kept) (q := (9, .invokevirtual 178, 3)) tkX11_kept 5 rfl) (fun y2 => ?_)
    refine zco_icmp_ge (tgt := 24) (zdk (cc := cX11_kept) (q := (12, .if_icmp .ge 12, 3)) tkX11_kept 6 rfl) rfl ?_ ?_
    · refine zco_p tkX11_kept 12 1 (pc' := 25) (L' := [(0, .ref v0), (1, .int v1), (2, .int v2)]) (S' := [.int ((-1))]) rfl ?_
      exact zco_iret rfl rfl rfl (zdk (cc := cX11_kept) (q := (25, .ireturn, 1)) tkX11_kept 13 rfl)
    · refine zco_p tkX11_kept 7 1 (pc' := 16) (L' := [(0, .ref v0), (1, .int v1), (2, .int v2)]) (S' := [.int v2]) rfl ?_
      refine zco_if_lt (tgt := 24) (zdk (cc := cX11_kept) (q := (16, .ifCond .lt 8, 3)) tkX11_kept 8 rfl) rfl ?_ ?_
      · refine zco_p tkX11_kept 12 1 (pc' := 25) (L' := [(0, .ref v0), (1, .int v1), (2, .int v2)]) (S' := [.int ((-1))]) rfl ?_
        exact zco_iret rfl rfl rfl (zdk (cc := cX11_kept) (q := (25, .ireturn, 1)) tkX11_kept 13 rfl)
      · refine zco_p tkX11_kept 9 2 (pc' := 21) (L' := [(0, .ref v0), (1, .int v1), (2, .int v2)]) (S' := [.int 3, .int v2]) rfl ?_
        refine zco_icmp_le (tgt := 26) (zdk (cc := cX11_kept) (q := (21, .if_icmp .le 5, 3)) tkX11_kept 11 rfl) rfl ?_ ?_
        · refine zco_p tkX11_kept 14 1 (pc' := 27) (L' := [(0, .ref v0), (1, .int v1), (2, .int v2)]) (S' := [.ref v0]) rfl ?_
          refine zco_gr fl_11_93 rfl (zdk (cc := cX11_kept) (q := (27, .getfield 93, 3)) tkX11_kept 15 rfl) (fun x3 => ?_)
          refine zco_p tkX11_kept 16 2 (pc' := 32) (L' := [(0, .ref v0), (1, .int v1), (2, .int v2)]) (S' := [.int v2, .int v1, .ref x3]) rfl ?_
          refine zco_Vi (rc := 0) (rs := 0) (mc := 0) (ms := 0) (As := [.int v1, .int v2]) (S := []) vmX6_keptCell (mtX6_keptCell l e (by omega) x3 v1 v2) q_1021 rfl rfl (Nat.le_of_ble_eq_true rfl) (zdk (cc := cX11_kept) (q := (32, .invokevirtual 245, 3)) tkX11_kept 18 rfl) (fun y4 => ?_)
          refine zco_p tkX11_kept 19 3 (pc' := 38) (L' := [(3, .int y4), (0, .ref v0), (1, .int v1), (2, .int v2)]) (S' := [.int 2, .int v2]) rfl ?_
          refine zco_icmp_ge (tgt := 45) (zdk (cc := cX11_kept) (q := (38, .if_icmp .ge 7, 3)) tkX11_kept 22 rfl) rfl ?_ ?_
          · refine zco_p tkX11_kept 25 1 (pc' := 46) (L' := [(3, .int y4), (0, .ref v0), (1, .int v1), (2, .int v2)]) (S' := [.ref v0]) rfl ?_
            refine zco_gr fl_11_51 rfl (zdk (cc := cX11_kept) (q := (46, .getfield 51, 3)) tkX11_kept 26 rfl) (fun x5 => ?_)
            refine zco_p tkX11_kept 27 1 (pc' := 50) (L' := [(3, .int y4), (0, .ref v0), (1, .int v1), (2, .int v2)]) (S' := [.int y4, .ref x5]) rfl ?_
            refine zco_Vi (rc := 0) (rs := 0) (mc := 0) (ms := 0) (As := [.int y4]) (S := []) vmX1_number (mtX1_number l e (by omega) x5 y4) q_944 rfl rfl (Nat.le_of_ble_eq_true rfl) (zdk (cc := cX11_kept) (q := (50, .invokevirtual 202, 3)) tkX11_kept 28 rfl) (fun y6 => ?_)
            exact zco_iret rfl rfl rfl (zdk (cc := cX11_kept) (q := (53, .ireturn, 1)) tkX11_kept 29 rfl)
          · refine zco_p tkX11_kept 23 2 (pc' := 53) (L' := [(3, .int y4), (0, .ref v0), (1, .int v1), (2, .int v2)]) (S' := [.int y4]) rfl ?_
            exact zco_iret rfl rfl rfl (zdk (cc := cX11_kept) (q := (53, .ireturn, 1)) tkX11_kept 29 rfl)
        · refine zco_p tkX11_kept 12 1 (pc' := 25) (L' := [(0, .ref v0), (1, .int v1), (2, .int v2)]) (S' := [.int ((-1))]) rfl ?_
          exact zco_iret rfl rfl rfl (zdk (cc := cX11_kept) (q := (25, .ireturn, 1)) tkX11_kept 13 rfl)
theorem mtX11_kept (l : Launch) (d : Nat) (hd : 3 ≤ d) (v0 : Nat) (v1 : Int32) (v2 : Int32) : zMet l d 0 0 yX11_kept cX11_kept 4 (Option.some .int) [.ref v0, .int v1, .int v2] (X11_kept v0 v1 v2) := by
  obtain ⟨e, rfl⟩ : ∃ e, d = e + 1 := ⟨d - 1, by omega⟩
  exact zmet_of (own := RX11) (ini := false) (by decide +kernel) rfl (fun _ => by contradiction) (Nat.le_of_ble_eq_true rfl) (coX11_kept l e (by omega) v0 v1 v2)
abbrev iX0_roundsLeft : zI := (RX0, cX0_roundsLeft, 3, (Option.some .int), false)
def tX0_roundsLeft : List (Nat × Instr × Nat) := [(0, .aload_n 0, 1), (1, .getfield 25, 3), (4, .getfield 29, 3), (7, .getfield 35, 3), (10, .istore_n 2, 1), (11, .sipush 1000, 3), (14, .iload_n 2, 1), (15, .imul, 1), (16, .iconst 1, 1), (17, .isub, 1), (18, .aload_n 1, 1), (19, .getfield 41, 3), (22, .iload_n 2, 1), (23, .imul, 1), (24, .isub, 1), (25, .aload_n 1, 1), (26, .getfield 44, 3), (29, .isub, 1), (30, .ireturn, 1)]
set_option maxRecDepth 100000 in
theorem tkX0_roundsLeft : ∀ q ∈ tX0_roundsLeft, decode cX0_roundsLeft q.1 = .ok q.2 := by decide +kernel
theorem vmX0_roundsLeft : zVM yX0_roundsLeft cX0_roundsLeft 3 (Option.some .int) 1 0 := ⟨kX0_roundsLeft, q_1036, q_23, q_158, ⟨_, rfl, rfl⟩, by decide +kernel, by decide⟩
set_option maxHeartbeats 2000000 in
set_option maxRecDepth 20000 in
theorem coX0_roundsLeft (l : Launch) (e : Nat) (he : 0 ≤ e) (v0 : Nat) (v1 : Nat) : zCo l (e + 1) 0 0 iX0_roundsLeft 0 [(0, .ref v0), (1, .ref v1)] [] (X0_roundsLeft v0 v1) := by
  unfold X0_roundsLeft
  refine zco_p tkX0_roundsLeft 0 1 (pc' := 1) (L' := [(0, .ref v0), (1, .ref v1)]) (S' := [.ref v0]) rfl ?_
  refine zco_gr fl_0_25 rfl (zdk (cc := cX0_roundsLeft) (q := (1, .getfield 25, 3)) tkX0_roundsLeft 1 rfl) (fun x1 => ?_)
  refine zco_gr fl_0_29 rfl (zdk (cc := cX0_roundsLeft) (q := (4, .getfield 29, 3)) tkX0_roundsLeft 2 rfl) (fun x2 => ?_)
  refine zco_gi fl_0_35 rfl (zdk (cc := cX0_roundsLeft) (q := (7, .getfield 35, 3)) tkX0_roundsLeft 3 rfl) (fun x3 => ?_)
  refine zco_p tkX0_roundsLeft 4 7 (pc' := 19) (L' := [(2, .int x3), (0, .ref v0), (1, .ref v1)]) (S' := [.ref v1, .int ((1000 * x3) - 1)]) rfl ?_
  refine zco_gi fl_0_41 rfl (zdk (cc := cX0_roundsLeft) (q := (19, .getfield 41, 3)) tkX0_roundsLeft 11 rfl) (fun x4 => ?_)
  refine zco_p tkX0_roundsLeft 12 4 (pc' := 26) (L' := [(2, .int x3), (0, .ref v0), (1, .ref v1)]) (S' := [.ref v1, .int (((1000 * x3) - 1) - (x4 * x3))]) rfl ?_
  refine zco_gi fl_0_44 rfl (zdk (cc := cX0_roundsLeft) (q := (26, .getfield 44, 3)) tkX0_roundsLeft 16 rfl) (fun x5 => ?_)
  refine zco_p tkX0_roundsLeft 17 1 (pc' := 30) (L' := [(2, .int x3), (0, .ref v0), (1, .ref v1)]) (S' := [.int ((((1000 * x3) - 1) - (x4 * x3)) - x5)]) rfl ?_
  exact zco_iret rfl rfl rfl (zdk (cc := cX0_roundsLeft) (q := (30, .ireturn, 1)) tkX0_roundsLeft 18 rfl)
theorem mtX0_roundsLeft (l : Launch) (d : Nat) (hd : 1 ≤ d) (v0 : Nat) (v1 : Nat) : zMet l d 0 0 yX0_roundsLeft cX0_roundsLeft 3 (Option.some .int) [.ref v0, .ref v1] (X0_roundsLeft v0 v1) := by
  obtain ⟨e, rfl⟩ : ∃ e, d = e + 1 := ⟨d - 1, by omega⟩
  exact zmet_of (own := RX0) (ini := false) (by decide +kernel) rfl (fun _ => by contradiction) (Nat.le_of_ble_eq_true rfl) (coX0_roundsLeft l e (by omega) v0 v1)
abbrev iX0_canCome : zI := (RX0, cX0_canCome, 5, (Option.some .boolean), false)
def tX0_canCome : List (Nat × Instr × Nat) := [(0, .iload_n 2, 1), (1, .iload_n 3, 1), (2, .if_icmp .lt 22, 3), (5, .iload_n 2, 1), (6, .iload 4, 2), (8, .if_icmp .gt 16, 3), (11, .iload_n 2, 1), (12, .aload_n 0, 1), (13, .aload_n 1, 1), (14, .invokevirtual 47, 3), (17, .if_icmp .gt 7, 3), (20, .iconst 1, 1), (21, .goto 4, 3), (24, .iconst 0, 1), (25, .ireturn, 1)]
set_option maxRecDepth 100000 in
theorem tkX0_canCome : ∀ q ∈ tX0_canCome, decode cX0_canCome q.1 = .ok q.2 := by decide +kernel
theorem vmX0_canCome : zVM yX0_canCome cX0_canCome 5 (Option.some .boolean) 4 0 := ⟨kX0_canCome, q_1031, q_1032, q_158, ⟨_, rfl, rfl⟩, by decide +kernel, by decide⟩
set_option maxHeartbeats 2000000 in
set_option maxRecDepth 20000 in
theorem coX0_canCome (l : Launch) (e : Nat) (he : 1 ≤ e) (v0 : Nat) (v1 : Nat) (v2 : Int32) (v3 : Int32) (v4 : Int32) : zCo l (e + 1) 0 0 iX0_canCome 0 [(0, .ref v0), (1, .ref v1), (2, .int v2), (3, .int v3), (4, .int v4)] [] (X0_canCome v0 v1 v2 v3 v4) := by
  unfold X0_canCome
  refine zco_p tkX0_canCome 0 2 (pc' := 2) (L' := [(0, .ref v0), (1, .ref v1), (2, .int v2), (3, .int v3), (4, .int v4)]) (S' := [.int v3, .int v2]) rfl ?_
  refine zco_icmp_lt (tgt := 24) (zdk (cc := cX0_canCome) (q := (2, .if_icmp .lt 22, 3)) tkX0_canCome 2 rfl) rfl ?_ ?_
  · refine zco_p tkX0_canCome 13 1 (pc' := 25) (L' := [(0, .ref v0), (1, .ref v1), (2, .int v2), (3, .int v3), (4, .int v4)]) (S' := [.int 0]) rfl ?_
    exact zco_zret rfl rfl rfl (zdk (cc := cX0_canCome) (q := (25, .ireturn, 1)) tkX0_canCome 14 rfl)
  · refine zco_p tkX0_canCome 3 2 (pc' := 8) (L' := [(0, .ref v0), (1, .ref v1), (2, .int v2), (3, .int v3), (4, .int v4)]) (S' := [.int v4, .int v2]) rfl ?_
    refine zco_icmp_gt (tgt := 24) (zdk (cc := cX0_canCome) (q := (8, .if_icmp .gt 16, 3)) tkX0_canCome 5 rfl) rfl ?_ ?_
    · refine zco_p tkX0_canCome 13 1 (pc' := 25) (L' := [(0, .ref v0), (1, .ref v1), (2, .int v2), (3, .int v3), (4, .int v4)]) (S' := [.int 0]) rfl ?_
      exact zco_zret rfl rfl rfl (zdk (cc := cX0_canCome) (q := (25, .ireturn, 1)) tkX0_canCome 14 rfl)
    · refine zco_p tkX0_canCome 6 3 (pc' := 14) (L' := [(0, .ref v0), (1, .ref v1), (2, .int v2), (3, .int v3), (4, .int v4)]) (S' := [.ref v1, .ref v0, .int v2]) rfl ?_
      refine zco_Vi (rc := 0) (rs := 0) (mc := 0) (ms := 0) (As := [.ref v1]) (S := [.int v2]) vmX0_roundsLeft (mtX0_roundsLeft l e (by omega) v0 v1) q_1034 rfl rfl (Nat.le_of_ble_eq_true rfl) (zdk (cc := cX0_canCome) (q := (14, .invokevirtual 47, 3)) tkX0_canCome 9 rfl) (fun y1 => ?_)
      refine zco_icmp_gt (tgt := 24) (zdk (cc := cX0_canCome) (q := (17, .if_icmp .gt 7, 3)) tkX0_canCome 10 rfl) rfl ?_ ?_
      · refine zco_p tkX0_canCome 13 1 (pc' := 25) (L' := [(0, .ref v0), (1, .ref v1), (2, .int v2), (3, .int v3), (4, .int v4)]) (S' := [.int 0]) rfl ?_
        exact zco_zret rfl rfl rfl (zdk (cc := cX0_canCome) (q := (25, .ireturn, 1)) tkX0_canCome 14 rfl)
      · refine zco_p tkX0_canCome 11 2 (pc' := 25) (L' := [(0, .ref v0), (1, .ref v1), (2, .int v2), (3, .int v3), (4, .int v4)]) (S' := [.int 1]) rfl ?_
        exact zco_zret rfl rfl rfl (zdk (cc := cX0_canCome) (q := (25, .ireturn, 1)) tkX0_canCome 14 rfl)
theorem mtX0_canCome (l : Launch) (d : Nat) (hd : 2 ≤ d) (v0 : Nat) (v1 : Nat) (v2 : Int32) (v3 : Int32) (v4 : Int32) : zMet l d 0 0 yX0_canCome cX0_canCome 5 (Option.some .boolean) [.ref v0, .ref v1, .int v2, .int v3, .int v4] (X0_canCome v0 v1 v2 v3 v4) := by
  obtain ⟨e, rfl⟩ : ∃ e, d = e + 1 := ⟨d - 1, by omega⟩
  exact zmet_of (own := RX0) (ini := false) (by decide +kernel) rfl (fun _ => by contradiction) (Nat.le_of_ble_eq_true rfl) (coX0_canCome l e (by omega) v0 v1 v2 v3 v4)
abbrev iX8_take : zI := (RX8, cX8_take, 2, (Option.none : Option FieldType), false)
def tX8_take : List (Nat × Instr × Nat) := [(0, .aload_n 0, 1), (1, .aload_n 1, 1), (2, .getfield 9, 3), (5, .putfield 9, 3), (8, .aload_n 0, 1), (9, .aload_n 1, 1), (10, .getfield 15, 3), (13, .putfield 15, 3), (16, .aload_n 1, 1), (17, .getfield 18, 3), (20, .iconst 0, 1), (21, .aload_n 0, 1), (22, .getfield 18, 3), (25, .iconst 0, 1), (26, .bipush 12, 2), (28, .invokestatic 41, 3), (31, .aload_n 1, 1), (32, .getfield 22, 3), (35, .iconst 0, 1), (36, .aload_n 0, 1), (37, .getfield 22, 3), (40, .iconst 0, 1), (41, .bipush 12, 2), (43, .invokestatic 41, 3), (46, .aload_n 1, 1), (47, .getfield 25, 3), (50, .iconst 0, 1), (51, .aload_n 0, 1), (52, .getfield 25, 3), (55, .iconst 0, 1), (56, .bipush 12, 2), (58, .invokestatic 41, 3), (61, .aload_n 1, 1), (62, .getfield 28, 3), (65, .iconst 0, 1), (66, .aload_n 0, 1), (67, .getfield 28, 3), (70, .iconst 0, 1), (71, .bipush 12, 2), (73, .invokestatic 41, 3), (76, .aload_n 1, 1), (77, .getfield 31, 3), (80, .iconst 0, 1), (81, .aload_n 0, 1), (82, .getfield 31, 3), (85, .iconst 0, 1), (86, .aload_n 0, 1), (87, .getfield 31, 3), (90, .arraylength, 1), (91, .invokestatic 41, 3), (94, .aload_n 1, 1), (95, .getfield 34, 3), (98, .iconst 0, 1), (99, .aload_n 0, 1), (100, .getfield 34, 3), (103, .iconst 0, 1), (104, .aload_n 0, 1), (105, .getfield 34, 3), (108, .arraylength, 1), (109, .invokestatic 41, 3), (112, .return_, 1)]
set_option maxRecDepth 100000 in
theorem tkX8_take : ∀ q ∈ tX8_take, decode cX8_take q.1 = .ok q.2 := by decide +kernel
theorem vmX8_take : zVM yX8_take cX8_take 2 (Option.none : Option FieldType) 1 8 := ⟨kX8_take, q_1043, q_1044, q_156, ⟨_, rfl, rfl⟩, by decide +kernel, by decide⟩
set_option maxHeartbeats 2000000 in
set_option maxRecDepth 20000 in
theorem coX8_take (l : Launch) (e : Nat) (he : 1 ≤ e) (v0 : Nat) (v1 : Nat) : zCo l (e + 1) 0 0 iX8_take 0 [(0, .ref v0), (1, .ref v1)] [] (X8_take v0 v1) := by
  unfold X8_take
  refine zco_p tkX8_take 0 2 (pc' := 2) (L' := [(0, .ref v0), (1, .ref v1)]) (S' := [.ref v1, .ref v0]) rfl ?_
  refine zco_gi fl_8_9 rfl (zdk (cc := cX8_take) (q := (2, .getfield 9, 3)) tkX8_take 2 rfl) (fun x1 => ?_)
  refine zco_pi fl_8_9 rfl rfl (zdk (cc := cX8_take) (q := (5, .putfield 9, 3)) tkX8_take 3 rfl) ?_
  refine zco_p tkX8_take 4 2 (pc' := 10) (L' := [(0, .ref v0), (1, .ref v1)]) (S' := [.ref v1, .ref v0]) rfl ?_
  refine zco_gi fl_8_15 rfl (zdk (cc := cX8_take) (q := (10, .getfield 15, 3)) tkX8_take 6 rfl) (fun x2 => ?_)
  refine zco_pi fl_8_15 rfl rfl (zdk (cc := cX8_take) (q := (13, .putfield 15, 3)) tkX8_take 7 rfl) ?_
  refine zco_p tkX8_take 8 1 (pc' := 17) (L' := [(0, .ref v0), (1, .ref v1)]) (S' := [.ref v1]) rfl ?_
  refine zco_gr fl_8_18 rfl (zdk (cc := cX8_take) (q := (17, .getfield 18, 3)) tkX8_take 9 rfl) (fun x3 => ?_)
  refine zco_p tkX8_take 10 2 (pc' := 22) (L' := [(0, .ref v0), (1, .ref v1)]) (S' := [.ref v0, .int 0, .ref x3]) rfl ?_
  refine zco_gr fl_8_18 rfl (zdk (cc := cX8_take) (q := (22, .getfield 18, 3)) tkX8_take 12 rfl) (fun x4 => ?_)
  refine zco_p tkX8_take 13 2 (pc' := 28) (L' := [(0, .ref v0), (1, .ref v1)]) (S' := [.int 12, .int 0, .ref x4, .int 0, .ref x3]) rfl ?_
  refine zco_copy (by omega) q_556 q_558 q_557 q_161 (Nat.le_of_ble_eq_true rfl) (zdk (cc := cX8_take) (q := (28, .invokestatic 41, 3)) tkX8_take 15 rfl) ?_
  refine zco_p tkX8_take 16 1 (pc' := 32) (L' := [(0, .ref v0), (1, .ref v1)]) (S' := [.ref v1]) rfl ?_
  refine zco_gr fl_8_22 rfl (zdk (cc := cX8_take) (q := (32, .getfield 22, 3)) tkX8_take 17 rfl) (fun x5 => ?_)
  refine zco_p tkX8_take 18 2 (pc' := 37) (L' := [(0, .ref v0), (1, .ref v1)]) (S' := [.ref v0, .int 0, .ref x5]) rfl ?_
  refine zco_gr fl_8_22 rfl (zdk (cc := cX8_take) (q := (37, .getfield 22, 3)) tkX8_take 20 rfl) (fun x6 => ?_)
  refine zco_p tkX8_take 21 2 (pc' := 43) (L' := [(0, .ref v0), (1, .ref v1)]) (S' := [.int 12, .int 0, .ref x6, .int 0, .ref x5]) rfl ?_
  refine zco_copy (by omega) q_556 q_558 q_557 q_161 (Nat.le_of_ble_eq_true rfl) (zdk (cc := cX8_take) (q := (43, .invokestatic 41, 3)) tkX8_take 23 rfl) ?_
  refine zco_p tkX8_take 24 1 (pc' := 47) (L' := [(0, .ref v0), (1, .ref v1)]) (S' := [.ref v1]) rfl ?_
  refine zco_gr fl_8_25 rfl (zdk (cc := cX8_take) (q := (47, .getfield 25, 3)) tkX8_take 25 rfl) (fun x7 => ?_)
  refine zco_p tkX8_take 26 2 (pc' := 52) (L' := [(0, .ref v0), (1, .ref v1)]) (S' := [.ref v0, .int 0, .ref x7]) rfl ?_
  refine zco_gr fl_8_25 rfl (zdk (cc := cX8_take) (q := (52, .getfield 25, 3)) tkX8_take 28 rfl) (fun x8 => ?_)
  refine zco_p tkX8_take 29 2 (pc' := 58) (L' := [(0, .ref v0), (1, .ref v1)]) (S' := [.int 12, .int 0, .ref x8, .int 0, .ref x7]) rfl ?_
  refine zco_copy (by omega) q_556 q_558 q_557 q_161 (Nat.le_of_ble_eq_true rfl) (zdk (cc := cX8_take) (q := (58, .invokestatic 41, 3)) tkX8_take 31 rfl) ?_
  refine zco_p tkX8_take 32 1 (pc' := 62) (L' := [(0, .ref v0), (1, .ref v1)]) (S' := [.ref v1]) rfl ?_
  refine zco_gr fl_8_28 rfl (zdk (cc := cX8_take) (q := (62, .getfield 28, 3)) tkX8_take 33 rfl) (fun x9 => ?_)
  refine zco_p tkX8_take 34 2 (pc' := 67) (L' := [(0, .ref v0), (1, .ref v1)]) (S' := [.ref v0, .int 0, .ref x9]) rfl ?_
  refine zco_gr fl_8_28 rfl (zdk (cc := cX8_take) (q := (67, .getfield 28, 3)) tkX8_take 36 rfl) (fun x10 => ?_)
  refine zco_p tkX8_take 37 2 (pc' := 73) (L' := [(0, .ref v0), (1, .ref v1)]) (S' := [.int 12, .int 0, .ref x10, .int 0, .ref x9]) rfl ?_
  refine zco_copy (by omega) q_556 q_558 q_557 q_161 (Nat.le_of_ble_eq_true rfl) (zdk (cc := cX8_take) (q := (73, .invokestatic 41, 3)) tkX8_take 39 rfl) ?_
  refine zco_p tkX8_take 40 1 (pc' := 77) (L' := [(0, .ref v0), (1, .ref v1)]) (S' := [.ref v1]) rfl ?_
  refine zco_gr fl_8_31 rfl (zdk (cc := cX8_take) (q := (77, .getfield 31, 3)) tkX8_take 41 rfl) (fun x11 => ?_)
  refine zco_p tkX8_take 42 2 (pc' := 82) (L' := [(0, .ref v0), (1, .ref v1)]) (S' := [.ref v0, .int 0, .ref x11]) rfl ?_
  refine zco_gr fl_8_31 rfl (zdk (cc := cX8_take) (q := (82, .getfield 31, 3)) tkX8_take 44 rfl) (fun x12 => ?_)
  refine zco_p tkX8_take 45 2 (pc' := 87) (L' := [(0, .ref v0), (1, .ref v1)]) (S' := [.ref v0, .int 0, .ref x12, .int 0, .ref x11]) rfl ?_
  refine zco_gr fl_8_31 rfl (zdk (cc := cX8_take) (q := (87, .getfield 31, 3)) tkX8_take 47 rfl) (fun x13 => ?_)
  refine zco_alen (zdk (cc := cX8_take) (q := (90, .arraylength, 1)) tkX8_take 48 rfl) (fun x14 => ?_)
  refine zco_copy (by omega) q_556 q_558 q_557 q_161 (Nat.le_of_ble_eq_true rfl) (zdk (cc := cX8_take) (q := (91, .invokestatic 41, 3)) tkX8_take 49 rfl) ?_
  refine zco_p tkX8_take 50 1 (pc' := 95) (L' := [(0, .ref v0), (1, .ref v1)]) (S' := [.ref v1]) rfl ?_
  refine zco_gr fl_8_34 rfl (zdk (cc := cX8_take) (q := (95, .getfield 34, 3)) tkX8_take 51 rfl) (fun x15 => ?_)
  refine zco_p tkX8_take 52 2 (pc' := 100) (L' := [(0, .ref v0), (1, .ref v1)]) (S' := [.ref v0, .int 0, .ref x15]) rfl ?_
  refine zco_gr fl_8_34 rfl (zdk (cc := cX8_take) (q := (100, .getfield 34, 3)) tkX8_take 54 rfl) (fun x16 => ?_)
  refine zco_p tkX8_take 55 2 (pc' := 105) (L' := [(0, .ref v0), (1, .ref v1)]) (S' := [.ref v0, .int 0, .ref x16, .int 0, .ref x15]) rfl ?_
  refine zco_gr fl_8_34 rfl (zdk (cc := cX8_take) (q := (105, .getfield 34, 3)) tkX8_take 57 rfl) (fun x17 => ?_)
  refine zco_alen (zdk (cc := cX8_take) (q := (108, .arraylength, 1)) tkX8_take 58 rfl) (fun x18 => ?_)
  refine zco_copy (by omega) q_556 q_558 q_557 q_161 (Nat.le_of_ble_eq_true rfl) (zdk (cc := cX8_take) (q := (109, .invokestatic 41, 3)) tkX8_take 59 rfl) ?_
  exact zco_vret rfl rfl rfl (zdk (cc := cX8_take) (q := (112, .return_, 1)) tkX8_take 60 rfl)
theorem mtX8_take (l : Launch) (d : Nat) (hd : 2 ≤ d) (v0 : Nat) (v1 : Nat) : zMet l d 0 0 yX8_take cX8_take 2 (Option.none : Option FieldType) [.ref v0, .ref v1] (X8_take v0 v1) := by
  obtain ⟨e, rfl⟩ : ∃ e, d = e + 1 := ⟨d - 1, by omega⟩
  exact zmet_of (own := RX8) (ini := false) (by decide +kernel) rfl (fun _ => by contradiction) (Nat.le_of_ble_eq_true rfl) (coX8_take l e (by omega) v0 v1)
abbrev iX10_learnt : zI := (RX10, cX10_learnt, 1, (Option.some .int), false)
def tX10_learnt : List (Nat × Instr × Nat) := [(0, .aload_n 0, 1), (1, .getfield 24, 3), (4, .getfield 85, 3), (7, .iconst 2, 1), (8, .aload_n 0, 1), (9, .getfield 18, 3), (12, .invokevirtual 89, 3), (15, .bipush 9, 2), (17, .invokestatic 95, 3), (20, .ireturn, 1)]
set_option maxRecDepth 100000 in
theorem tkX10_learnt : ∀ q ∈ tX10_learnt, decode cX10_learnt q.1 = .ok q.2 := by decide +kernel
theorem vmX10_learnt : zVM yX10_learnt cX10_learnt 1 (Option.some .int) 0 10 := ⟨kX10_learnt, q_1059, q_25, q_157, ⟨_, rfl, rfl⟩, by decide +kernel, by decide⟩
set_option maxHeartbeats 2000000 in
set_option maxRecDepth 20000 in
theorem coX10_learnt (l : Launch) (e : Nat) (he : 3 ≤ e) (v0 : Nat) : zCo l (e + 1) 0 0 iX10_learnt 0 [(0, .ref v0)] [] (X10_learnt v0) := by
  unfold X10_learnt
  refine zco_p tkX10_learnt 0 1 (pc' := 1) (L' := [(0, .ref v0)]) (S' := [.ref v0]) rfl ?_
  refine zco_gr fl_10_24 rfl (zdk (cc := cX10_learnt) (q := (1, .getfield 24, 3)) tkX10_learnt 1 rfl) (fun x1 => ?_)
  refine zco_gr fl_10_85 rfl (zdk (cc := cX10_learnt) (q := (4, .getfield 85, 3)) tkX10_learnt 2 rfl) (fun x2 => ?_)
  refine zco_p tkX10_learnt 3 2 (pc' := 9) (L' := [(0, .ref v0)]) (S' := [.ref v0, .int 2, .ref x2]) rfl ?_
  refine zco_gr fl_10_18 rfl (zdk (cc := cX10_learnt) (q := (9, .getfield 18, 3)) tkX10_learnt 5 rfl) (fun x3 => ?_)
  refine zco_Vi (rc := 0) (rs := 0) (mc := 0) (ms := 0) (As := [.int 2, .ref x3]) (S := []) vmX3_value (mtX3_value l e (by omega) x2 2 x3) q_982 rfl rfl (Nat.le_of_ble_eq_true rfl) (zdk (cc := cX10_learnt) (q := (12, .invokevirtual 89, 3)) tkX10_learnt 6 rfl) (fun y4 => ?_)
  refine zco_p tkX10_learnt 7 1 (pc' := 17) (L' := [(0, .ref v0)]) (S' := [.int 9, .int y4]) rfl ?_
  refine zco_Ni (rc := 0) (rs := 0) (mc := 0) (ms := 0) (As := [.int y4, .int 9]) (S := []) vmX11_within (mtX11_within l e (by omega) y4 9) (host := "ClothWedding") (by decide +kernel) rfl rfl (Nat.le_of_ble_eq_true rfl) (zdk (cc := cX10_learnt) (q := (17, .invokestatic 95, 3)) tkX10_learnt 8 rfl) (fun y5 => ?_)
  exact zco_iret rfl rfl rfl (zdk (cc := cX10_learnt) (q := (20, .ireturn, 1)) tkX10_learnt 9 rfl)
theorem mtX10_learnt (l : Launch) (d : Nat) (hd : 4 ≤ d) (v0 : Nat) : zMet l d 0 0 yX10_learnt cX10_learnt 1 (Option.some .int) [.ref v0] (X10_learnt v0) := by
  obtain ⟨e, rfl⟩ : ∃ e, d = e + 1 := ⟨d - 1, by omega⟩
  exact zmet_of (own := RX10) (ini := false) (by decide +kernel) rfl (fun _ => by contradiction) (Nat.le_of_ble_eq_true rfl) (coX10_learnt l e (by omega) v0)
abbrev iX10_passTime : zI := (RX10, cX10_passTime, 3, (Option.none : Option FieldType), false)
def tX10_passTime : List (Nat × Instr × Nat) := [(0, .aload_n 1, 1), (1, .dup, 1), (2, .getfield 44, 3), (5, .iconst 1, 1), (6, .iadd, 1), (7, .putfield 44, 3), (10, .aload_n 1, 1), (11, .getfield 44, 3), (14, .aload_n 0, 1), (15, .getfield 24, 3), (18, .getfield 121, 3), (21, .if_icmp .ge 4, 3), (24, .return_, 1), (25, .aload_n 1, 1), (26, .iconst 0, 1), (27, .putfield 44, 3), (30, .aload_n 1, 1), (31, .dup, 1), (32, .getfield 67, 3), (35, .iconst 1, 1), (36, .iadd, 1), (37, .putfield 67, 3), (40, .iconst 0, 1), (41, .istore_n 2, 1), (42, .iload_n 2, 1), (43, .bipush 12, 2), (45, .if_icmp .ge 49, 3), (48, .aload_n 0, 1), (49, .getfield 24, 3), (52, .iload_n 2, 1), (53, .invokevirtual 124, 3), (56, .ifCond .eq 32, 3), (59, .aload_n 1, 1), (60, .getfield 58, 3), (63, .iload_n 2, 1), (64, .iaload, 1), (65, .iconst (-1), 1), (66, .if_icmp .ne 22, 3), (69, .aload_n 1, 1), (70, .getfield 82, 3), (73, .iload_n 2, 1), (74, .aload_n 1, 1), (75, .getfield 82, 3), (78, .iload_n 2, 1), (79, .iaload, 1), (80, .iconst 1, 1), (81, .iadd, 1), (82, .bipush 99, 2), (84, .invokestatic 128, 3), (87, .iastore, 1), (88, .iinc 2 1, 3), (91, .goto (-49), 3), (94, .return_, 1)]
set_option maxRecDepth 100000 in
theorem tkX10_passTime : ∀ q ∈ tX10_passTime, decode cX10_passTime q.1 = .ok q.2 := by decide +kernel
theorem vmX10_passTime : zVM yX10_passTime cX10_passTime 3 (Option.none : Option FieldType) 1 10 := ⟨kX10_passTime, q_1064, q_26, q_157, ⟨_, rfl, rfl⟩, by decide +kernel, by decide⟩
set_option maxHeartbeats 2000000 in
set_option maxRecDepth 20000 in
theorem coX10_passTime_J88 (l : Launch) (e : Nat) (he : 1 ≤ e) (v0 : Nat) (v1 : Nat) (v2 : Int32) (r42 : Int32 → zM) (hr42 : ∀ x : Int32, zCo l (e + 1) 0 0 iX10_passTime 42 [(0, .ref v0), (1, .ref v1), (2, .int x)] [] (r42 x)) : zCo l (e + 1) 0 0 iX10_passTime 88 [(0, .ref v0), (1, .ref v1), (2, .int v2)] [] (X10_passTime_J88 r42 v0 v1 v2) := by
  unfold X10_passTime_J88
  refine zco_p tkX10_passTime 50 2 (pc' := 42) (L' := [(2, .int (v2 + 1)), (0, .ref v0), (1, .ref v1)]) (S' := []) rfl ?_
  exact zco_sub [1, 2, 0] rfl (hr42 (v2 + 1))
set_option maxHeartbeats 2000000 in
set_option maxRecDepth 20000 in
theorem coX10_passTime_B42 (l : Launch) (e : Nat) (he : 1 ≤ e) (v0 : Nat) (v1 : Nat) (r42 : Int32 → zM) (hr42 : ∀ x : Int32, zCo l (e + 1) 0 0 iX10_passTime 42 [(0, .ref v0), (1, .ref v1), (2, .int x)] [] (r42 x)) (v2 : Int32) : zCo l (e + 1) 0 0 iX10_passTime 42 [(0, .ref v0), (1, .ref v1), (2, .int v2)] [] (X10_passTime_B42 v0 v1 r42 v2) := by
  unfold X10_passTime_B42
  refine zco_p tkX10_passTime 24 2 (pc' := 45) (L' := [(0, .ref v0), (1, .ref v1), (2, .int v2)]) (S' := [.int 12, .int v2]) rfl ?_
  refine zco_icmp_ge (tgt := 94) (zdk (cc := cX10_passTime) (q := (45, .if_icmp .ge 49, 3)) tkX10_passTime 26 rfl) rfl ?_ ?_
  · exact zco_vret rfl rfl rfl (zdk (cc := cX10_passTime) (q := (94, .return_, 1)) tkX10_passTime 52 rfl)
  · refine zco_p tkX10_passTime 27 1 (pc' := 49) (L' := [(0, .ref v0), (1, .ref v1), (2, .int v2)]) (S' := [.ref v0]) rfl ?_
    refine zco_gr fl_10_24 rfl (zdk (cc := cX10_passTime) (q := (49, .getfield 24, 3)) tkX10_passTime 28 rfl) (fun x1 => ?_)
    refine zco_p tkX10_passTime 29 1 (pc' := 53) (L' := [(0, .ref v0), (1, .ref v1), (2, .int v2)]) (S' := [.int v2, .ref x1]) rfl ?_
    refine zco_Vi (rc := 0) (rs := 0) (mc := 0) (ms := 0) (As := [.int v2]) (S := []) vmX1_isThere (mtX1_isThere l e (by omega) x1 v2) q_1066 rfl rfl (Nat.le_of_ble_eq_true rfl) (zdk (cc := cX10_passTime) (q := (53, .invokevirtual 124, 3)) tkX10_passTime 30 rfl) (fun y2 => ?_)
    refine zco_if_eq (tgt := 88) (zdk (cc := cX10_passTime) (q := (56, .ifCond .eq 32, 3)) tkX10_passTime 31 rfl) rfl ?_ ?_
    · exact zco_sub [0, 1, 2] rfl (coX10_passTime_J88 l e he v0 v1 v2 r42 hr42)
    · refine zco_p tkX10_passTime 32 1 (pc' := 60) (L' := [(0, .ref v0), (1, .ref v1), (2, .int v2)]) (S' := [.ref v1]) rfl ?_
      refine zco_gr fl_10_58 rfl (zdk (cc := cX10_passTime) (q := (60, .getfield 58, 3)) tkX10_passTime 33 rfl) (fun x3 => ?_)
      refine zco_p tkX10_passTime 34 1 (pc' := 64) (L' := [(0, .ref v0), (1, .ref v1), (2, .int v2)]) (S' := [.int v2, .ref x3]) rfl ?_
      refine zco_iaload (zdk (cc := cX10_passTime) (q := (64, .iaload, 1)) tkX10_passTime 35 rfl) (fun x4 => ?_)
      refine zco_p tkX10_passTime 36 1 (pc' := 66) (L' := [(0, .ref v0), (1, .ref v1), (2, .int v2)]) (S' := [.int ((-1)), .int x4]) rfl ?_
      refine zco_icmp_ne (tgt := 88) (zdk (cc := cX10_passTime) (q := (66, .if_icmp .ne 22, 3)) tkX10_passTime 37 rfl) rfl ?_ ?_
      · exact zco_sub [0, 1, 2] rfl (coX10_passTime_J88 l e he v0 v1 v2 r42 hr42)
      · refine zco_p tkX10_passTime 38 1 (pc' := 70) (L' := [(0, .ref v0), (1, .ref v1), (2, .int v2)]) (S' := [.ref v1]) rfl ?_
        refine zco_gr fl_10_82 rfl (zdk (cc := cX10_passTime) (q := (70, .getfield 82, 3)) tkX10_passTime 39 rfl) (fun x5 => ?_)
        refine zco_p tkX10_passTime 40 2 (pc' := 75) (L' := [(0, .ref v0), (1, .ref v1), (2, .int v2)]) (S' := [.ref v1, .int v2, .ref x5]) rfl ?_
        refine zco_gr fl_10_82 rfl (zdk (cc := cX10_passTime) (q := (75, .getfield 82, 3)) tkX10_passTime 42 rfl) (fun x6 => ?_)
        refine zco_p tkX10_passTime 43 1 (pc' := 79) (L' := [(0, .ref v0), (1, .ref v1), (2, .int v2)]) (S' := [.int v2, .ref x6, .int v2, .ref x5]) rfl ?_
        refine zco_iaload (zdk (cc := cX10_passTime) (q := (79, .iaload, 1)) tkX10_passTime 44 rfl) (fun x7 => ?_)
        refine zco_p tkX10_passTime 45 3 (pc' := 84) (L' := [(0, .ref v0), (1, .ref v1), (2, .int v2)]) (S' := [.int 99, .int (x7 + 1), .int v2, .ref x5]) rfl ?_
        refine zco_imin (by omega) q_1067 q_926 q_168 q_imin (Nat.le_of_ble_eq_true rfl) (zdk (cc := cX10_passTime) (q := (84, .invokestatic 128, 3)) tkX10_passTime 48 rfl) ?_
        refine zco_iastore (zdk (cc := cX10_passTime) (q := (87, .iastore, 1)) tkX10_passTime 49 rfl) ?_
        exact zco_sub [0, 1, 2] rfl (coX10_passTime_J88 l e he v0 v1 v2 r42 hr42)
set_option maxHeartbeats 2000000 in
set_option maxRecDepth 20000 in
theorem coX10_passTime (l : Launch) (e : Nat) (he : 1 ≤ e) (v0 : Nat) (v1 : Nat) : zCo l (e + 1) 0 0 iX10_passTime 0 [(0, .ref v0), (1, .ref v1)] [] (X10_passTime v0 v1) := by
  unfold X10_passTime
  refine zco_p tkX10_passTime 0 2 (pc' := 2) (L' := [(0, .ref v0), (1, .ref v1)]) (S' := [.ref v1, .ref v1]) rfl ?_
  refine zco_gi fl_10_44 rfl (zdk (cc := cX10_passTime) (q := (2, .getfield 44, 3)) tkX10_passTime 2 rfl) (fun x1 => ?_)
  refine zco_p tkX10_passTime 3 2 (pc' := 7) (L' := [(0, .ref v0), (1, .ref v1)]) (S' := [.int (x1 + 1), .ref v1]) rfl ?_
  refine zco_pi fl_10_44 rfl rfl (zdk (cc := cX10_passTime) (q := (7, .putfield 44, 3)) tkX10_passTime 5 rfl) ?_
  refine zco_p tkX10_passTime 6 1 (pc' := 11) (L' := [(0, .ref v0), (1, .ref v1)]) (S' := [.ref v1]) rfl ?_
  refine zco_gi fl_10_44 rfl (zdk (cc := cX10_passTime) (q := (11, .getfield 44, 3)) tkX10_passTime 7 rfl) (fun x2 => ?_)
  refine zco_p tkX10_passTime 8 1 (pc' := 15) (L' := [(0, .ref v0), (1, .ref v1)]) (S' := [.ref v0, .int x2]) rfl ?_
  refine zco_gr fl_10_24 rfl (zdk (cc := cX10_passTime) (q := (15, .getfield 24, 3)) tkX10_passTime 9 rfl) (fun x3 => ?_)
  refine zco_gi fl_10_121 rfl (zdk (cc := cX10_passTime) (q := (18, .getfield 121, 3)) tkX10_passTime 10 rfl) (fun x4 => ?_)
  refine zco_icmp_ge (tgt := 25) (zdk (cc := cX10_passTime) (q := (21, .if_icmp .ge 4, 3)) tkX10_passTime 11 rfl) rfl ?_ ?_
  · refine zco_p tkX10_passTime 13 2 (pc' := 27) (L' := [(0, .ref v0), (1, .ref v1)]) (S' := [.int 0, .ref v1]) rfl ?_
    refine zco_pi fl_10_44 rfl rfl (zdk (cc := cX10_passTime) (q := (27, .putfield 44, 3)) tkX10_passTime 15 rfl) ?_
    refine zco_p tkX10_passTime 16 2 (pc' := 32) (L' := [(0, .ref v0), (1, .ref v1)]) (S' := [.ref v1, .ref v1]) rfl ?_
    refine zco_gi fl_10_67 rfl (zdk (cc := cX10_passTime) (q := (32, .getfield 67, 3)) tkX10_passTime 18 rfl) (fun x5 => ?_)
    refine zco_p tkX10_passTime 19 2 (pc' := 37) (L' := [(0, .ref v0), (1, .ref v1)]) (S' := [.int (x5 + 1), .ref v1]) rfl ?_
    refine zco_pi fl_10_67 rfl rfl (zdk (cc := cX10_passTime) (q := (37, .putfield 67, 3)) tkX10_passTime 21 rfl) ?_
    refine zco_p tkX10_passTime 22 2 (pc' := 42) (L' := [(2, .int 0), (0, .ref v0), (1, .ref v1)]) (S' := []) rfl ?_
    exact zco_sub [1, 2, 0] rfl (zco_fix (Lf := fun x : Int32 => [(0, .ref v0), (1, .ref v1), (2, .int x)]) (Sf := fun _ => []) (fun r hr x => coX10_passTime_B42 l e he v0 v1 r hr x) zFU 0)
  · exact zco_vret rfl rfl rfl (zdk (cc := cX10_passTime) (q := (24, .return_, 1)) tkX10_passTime 12 rfl)
theorem mtX10_passTime (l : Launch) (d : Nat) (hd : 2 ≤ d) (v0 : Nat) (v1 : Nat) : zMet l d 0 0 yX10_passTime cX10_passTime 3 (Option.none : Option FieldType) [.ref v0, .ref v1] (X10_passTime v0 v1) := by
  obtain ⟨e, rfl⟩ : ∃ e, d = e + 1 := ⟨d - 1, by omega⟩
  exact zmet_of (own := RX10) (ini := false) (by decide +kernel) rfl (fun _ => by contradiction) (Nat.le_of_ble_eq_true rfl) (coX10_passTime l e (by omega) v0 v1)
