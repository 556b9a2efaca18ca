abbrev iX12_codesTold : zI := (RX12, cX12_codesTold, 4, (Option.none : Option FieldType), false)
def tX12_codesTold : List (Nat × Instr × Nat) := [(0, .aload_n 0, 1), (1, .getfield 270, 3), (4, .ifCond .ne 19, 3), (7, .aload_n 0, 1), (8, .getfield 125, 3), (11, .iload_n 1, 1), (12, .iaload, 1), (13, .iconst (-1), 1), (14, .if_icmp .eq 9, 3), (17, .aload_n 0, 1), (18, .iconst 5, 1), (19, .iload_n 2, 1), (20, .invokevirtual 300, 3), (23, .aload_n 0, 1), (24, .getfield 270, 3), (27, .ifCond .eq 4, 3), (30, .return_, 1), (31, .aload_n 0, 1), (32, .iload_n 1, 1), (33, .putfield 328, 3), (36, .aload_n 0, 1), (37, .iconst 0, 1), (38, .putfield 353, 3), (41, .aload_n 0, 1), (42, .iconst 0, 1), (43, .putfield 356, 3), (46, .aload_n 0, 1), (47, .iconst 0, 1), (48, .putfield 359, 3), (51, .aload_n 0, 1), (52, .iconst 0, 1), (53, .putfield 362, 3), (56, .iload_n 1, 1), (57, .iconst 1, 1), (58, .if_icmp .ne 10, 3), (61, .aload_n 0, 1), (62, .invokevirtual 365, 3), (65, .goto 7, 3), (68, .aload_n 0, 1), (69, .invokevirtual 368, 3), (72, .aload_n 0, 1), (73, .getfield 270, 3), (76, .ifCond .eq 4, 3), (79, .return_, 1), (80, .aload_n 0, 1), (81, .getfield 125, 3), (84, .iload_n 1, 1), (85, .aload_n 0, 1), (86, .getfield 371, 3), (89, .iastore, 1), (90, .iconst 0, 1), (91, .istore_n 3, 1), (92, .iload_n 3, 1), (93, .aload_n 0, 1), (94, .getfield 353, 3), (97, .if_icmp .ge 34, 3), (100, .aload_n 0, 1), (101, .getfield 131, 3), (104, .aload_n 0, 1), (105, .getfield 371, 3), (108, .aload_n 0, 1), (109, .getfield 255, 3), (112, .iload_n 3, 1), (113, .iaload, 1), (114, .iastore, 1), (115, .aload_n 0, 1), (116, .dup, 1), (117, .getfield 371, 3), (120, .iconst 1, 1), (121, .iadd, 1), (122, .putfield 371, 3), (125, .iinc 3 1, 3), (128, .goto (-36), 3), (131, .aload_n 0, 1), (132, .getfield 128, 3), (135, .iload_n 1, 1), (136, .aload_n 0, 1), (137, .getfield 371, 3), (140, .iastore, 1), (141, .return_, 1)]
set_option maxRecDepth 100000 in
theorem tkX12_codesTold : ∀ q ∈ tX12_codesTold, decode cX12_codesTold q.1 = .ok q.2 := by decide +kernel
theorem vmX12_codesTold : zVM yX12_codesTold cX12_codesTold 4 (Option.none : Option FieldType) 2 12 := ⟨kX12_codesTold, q_1816, q_60, q_162, ⟨_, rfl, rfl⟩, by decide +kernel, by decide⟩
set_option maxHeartbeats 2000000 in
set_option maxRecDepth 20000 in
theorem coX12_codesTold_J131 (l : Launch) (e : Nat) (he : 9 ≤ e) (v0 : Nat) (v1 : Int32) : zCo l (e + 1) 0 0 iX12_codesTold 131 [(0, .ref v0), (1, .int v1)] [] (X12_codesTold_J131 v0 v1) := by
  unfold X12_codesTold_J131
  refine zco_p tkX12_codesTold 73 1 (pc' := 132) (L' := [(0, .ref v0), (1, .int v1)]) (S' := [.ref v0]) rfl ?_
  refine zco_gr fl_12_128 rfl (zdk (cc := cX12_codesTold) (q := (132, .getfield 128, 3)) tkX12_codesTold 74 rfl) (fun x1 => ?_)
  refine zco_p tkX12_codesTold 75 2 (pc' := 137) (L' := [(0, .ref v0), (1, .int v1)]) (S' := [.ref v0, .int v1, .ref x1]) rfl ?_
  refine zco_gi fl_12_371 rfl (zdk (cc := cX12_codesTold) (q := (137, .getfield 371, 3)) tkX12_codesTold 77 rfl) (fun x2 => ?_)
  refine zco_iastore (zdk (cc := cX12_codesTold) (q := (140, .iastore, 1)) tkX12_codesTold 78 rfl) ?_
  exact zco_vret rfl rfl rfl (zdk (cc := cX12_codesTold) (q := (141, .return_, 1)) tkX12_codesTold 79 rfl)
set_option maxHeartbeats 2000000 in
set_option maxRecDepth 20000 in
theorem coX12_codesTold_B92 (l : Launch) (e : Nat) (he : 9 ≤ e) (v0 : Nat) (v1 : Int32) (r92 : Int32 → zM) (hr92 : ∀ x : Int32, zCo l (e + 1) 0 0 iX12_codesTold 92 [(0, .ref v0), (1, .int v1), (3, .int x)] [] (r92 x)) (v3 : Int32) : zCo l (e + 1) 0 0 iX12_codesTold 92 [(0, .ref v0), (1, .int v1), (3, .int v3)] [] (X12_codesTold_B92 v0 v1 r92 v3) := by
  unfold X12_codesTold_B92
  refine zco_p tkX12_codesTold 52 2 (pc' := 94) (L' := [(0, .ref v0), (1, .int v1), (3, .int v3)]) (S' := [.ref v0, .int v3]) rfl ?_
  refine zco_gi fl_12_353 rfl (zdk (cc := cX12_codesTold) (q := (94, .getfield 353, 3)) tkX12_codesTold 54 rfl) (fun x1 => ?_)
  refine zco_icmp_ge (tgt := 131) (zdk (cc := cX12_codesTold) (q := (97, .if_icmp .ge 34, 3)) tkX12_codesTold 55 rfl) rfl ?_ ?_
  · exact zco_sub [0, 1] rfl (coX12_codesTold_J131 l e he v0 v1)
  · refine zco_p tkX12_codesTold 56 1 (pc' := 101) (L' := [(0, .ref v0), (1, .int v1), (3, .int v3)]) (S' := [.ref v0]) rfl ?_
    refine zco_gr fl_12_131 rfl (zdk (cc := cX12_codesTold) (q := (101, .getfield 131, 3)) tkX12_codesTold 57 rfl) (fun x2 => ?_)
    refine zco_p tkX12_codesTold 58 1 (pc' := 105) (L' := [(0, .ref v0), (1, .int v1), (3, .int v3)]) (S' := [.ref v0, .ref x2]) rfl ?_
    refine zco_gi fl_12_371 rfl (zdk (cc := cX12_codesTold) (q := (105, .getfield 371, 3)) tkX12_codesTold 59 rfl) (fun x3 => ?_)
    refine zco_p tkX12_codesTold 60 1 (pc' := 109) (L' := [(0, .ref v0), (1, .int v1), (3, .int v3)]) (S' := [.ref v0, .int x3, .ref x2]) rfl ?_
    refine zco_gr fl_12_255 rfl (zdk (cc := cX12_codesTold) (q := (109, .getfield 255, 3)) tkX12_codesTold 61 rfl) (fun x4 => ?_)
    refine zco_p tkX12_codesTold 62 1 (pc' := 113) (L' := [(0, .ref v0), (1, .int v1), (3, .int v3)]) (S' := [.int v3, .ref x4, .int x3, .ref x2]) rfl ?_
    refine zco_iaload (zdk (cc := cX12_codesTold) (q := (113, .iaload, 1)) tkX12_codesTold 63 rfl) (fun x5 => ?_)
    refine zco_iastore (zdk (cc := cX12_codesTold) (q := (114, .iastore, 1)) tkX12_codesTold 64 rfl) ?_
    refine zco_p tkX12_codesTold 65 2 (pc' := 117) (L' := [(0, .ref v0), (1, .int v1), (3, .int v3)]) (S' := [.ref v0, .ref v0]) rfl ?_
    refine zco_gi fl_12_371 rfl (zdk (cc := cX12_codesTold) (q := (117, .getfield 371, 3)) tkX12_codesTold 67 rfl) (fun x6 => ?_)
    refine zco_p tkX12_codesTold 68 2 (pc' := 122) (L' := [(0, .ref v0), (1, .int v1), (3, .int v3)]) (S' := [.int (x6 + 1), .ref v0]) rfl ?_
    refine zco_pi fl_12_371 rfl rfl (zdk (cc := cX12_codesTold) (q := (122, .putfield 371, 3)) tkX12_codesTold 70 rfl) ?_
    refine zco_p tkX12_codesTold 71 2 (pc' := 92) (L' := [(3, .int (v3 + 1)), (0, .ref v0), (1, .int v1)]) (S' := []) rfl ?_
    exact zco_sub [1, 2, 0] rfl (hr92 (v3 + 1))
set_option maxHeartbeats 2000000 in
set_option maxRecDepth 20000 in
theorem coX12_codesTold_J72 (l : Launch) (e : Nat) (he : 9 ≤ e) (v0 : Nat) (v1 : Int32) : zCo l (e + 1) 0 0 iX12_codesTold 72 [(0, .ref v0), (1, .int v1)] [] (X12_codesTold_J72 v0 v1) := by
  unfold X12_codesTold_J72
  refine zco_p tkX12_codesTold 40 1 (pc' := 73) (L' := [(0, .ref v0), (1, .int v1)]) (S' := [.ref v0]) rfl ?_
  refine zco_gi fl_12_270 rfl (zdk (cc := cX12_codesTold) (q := (73, .getfield 270, 3)) tkX12_codesTold 41 rfl) (fun x1 => ?_)
  refine zco_if_eq (tgt := 80) (zdk (cc := cX12_codesTold) (q := (76, .ifCond .eq 4, 3)) tkX12_codesTold 42 rfl) rfl ?_ ?_
  · refine zco_p tkX12_codesTold 44 1 (pc' := 81) (L' := [(0, .ref v0), (1, .int v1)]) (S' := [.ref v0]) rfl ?_
    refine zco_gr fl_12_125 rfl (zdk (cc := cX12_codesTold) (q := (81, .getfield 125, 3)) tkX12_codesTold 45 rfl) (fun x2 => ?_)
    refine zco_p tkX12_codesTold 46 2 (pc' := 86) (L' := [(0, .ref v0), (1, .int v1)]) (S' := [.ref v0, .int v1, .ref x2]) rfl ?_
    refine zco_gi fl_12_371 rfl (zdk (cc := cX12_codesTold) (q := (86, .getfield 371, 3)) tkX12_codesTold 48 rfl) (fun x3 => ?_)
    refine zco_iastore (zdk (cc := cX12_codesTold) (q := (89, .iastore, 1)) tkX12_codesTold 49 rfl) ?_
    refine zco_p tkX12_codesTold 50 2 (pc' := 92) (L' := [(3, .int 0), (0, .ref v0), (1, .int v1)]) (S' := []) rfl ?_
    exact zco_sub [1, 2, 0] rfl (zco_fix (Lf := fun x : Int32 => [(0, .ref v0), (1, .int v1), (3, .int x)]) (Sf := fun _ => []) (fun r hr x => coX12_codesTold_B92 l e he v0 v1 r hr x) zFU 0)
  · exact zco_vret rfl rfl rfl (zdk (cc := cX12_codesTold) (q := (79, .return_, 1)) tkX12_codesTold 43 rfl)
set_option maxHeartbeats 2000000 in
set_option maxRecDepth 20000 in
theorem coX12_codesTold_J23 (l : Launch) (e : Nat) (he : 9 ≤ e) (v0 : Nat) (v1 : Int32) : zCo l (e + 1) 0 0 iX12_codesTold 23 [(0, .ref v0), (1, .int v1)] [] (X12_codesTold_J23 v0 v1) := by
  unfold X12_codesTold_J23
  refine zco_p tkX12_codesTold 13 1 (pc' := 24) (L' := [(0, .ref v0), (1, .int v1)]) (S' := [.ref v0]) rfl ?_
  refine zco_gi fl_12_270 rfl (zdk (cc := cX12_codesTold) (q := (24, .getfield 270, 3)) tkX12_codesTold 14 rfl) (fun x1 => ?_)
  refine zco_if_eq (tgt := 31) (zdk (cc := cX12_codesTold) (q := (27, .ifCond .eq 4, 3)) tkX12_codesTold 15 rfl) rfl ?_ ?_
  · refine zco_p tkX12_codesTold 17 2 (pc' := 33) (L' := [(0, .ref v0), (1, .int v1)]) (S' := [.int v1, .ref v0]) rfl ?_
    refine zco_pi fl_12_328 rfl rfl (zdk (cc := cX12_codesTold) (q := (33, .putfield 328, 3)) tkX12_codesTold 19 rfl) ?_
    refine zco_p tkX12_codesTold 20 2 (pc' := 38) (L' := [(0, .ref v0), (1, .int v1)]) (S' := [.int 0, .ref v0]) rfl ?_
    refine zco_pi fl_12_353 rfl rfl (zdk (cc := cX12_codesTold) (q := (38, .putfield 353, 3)) tkX12_codesTold 22 rfl) ?_
    refine zco_p tkX12_codesTold 23 2 (pc' := 43) (L' := [(0, .ref v0), (1, .int v1)]) (S' := [.int 0, .ref v0]) rfl ?_
    refine zco_pi fl_12_356 rfl rfl (zdk (cc := cX12_codesTold) (q := (43, .putfield 356, 3)) tkX12_codesTold 25 rfl) ?_
    refine zco_p tkX12_codesTold 26 2 (pc' := 48) (L' := [(0, .ref v0), (1, .int v1)]) (S' := [.int 0, .ref v0]) rfl ?_
    refine zco_pi fl_12_359 rfl rfl (zdk (cc := cX12_codesTold) (q := (48, .putfield 359, 3)) tkX12_codesTold 28 rfl) ?_
    refine zco_p tkX12_codesTold 29 2 (pc' := 53) (L' := [(0, .ref v0), (1, .int v1)]) (S' := [.int 0, .ref v0]) rfl ?_
    refine zco_pi fl_12_362 rfl rfl (zdk (cc := cX12_codesTold) (q := (53, .putfield 362, 3)) tkX12_codesTold 31 rfl) ?_
    refine zco_p tkX12_codesTold 32 2 (pc' := 58) (L' := [(0, .ref v0), (1, .int v1)]) (S' := [.int 1, .int v1]) rfl ?_
    refine zco_icmp_ne (tgt := 68) (zdk (cc := cX12_codesTold) (q := (58, .if_icmp .ne 10, 3)) tkX12_codesTold 34 rfl) rfl ?_ ?_
    · refine zco_p tkX12_codesTold 38 1 (pc' := 69) (L' := [(0, .ref v0), (1, .int v1)]) (S' := [.ref v0]) rfl ?_
      refine zco_Vv (rc := 0) (rs := 0) (mc := 0) (ms := 0) (As := []) (S := []) vmX12_qSums (mtX12_qSums l e (by omega) v0) q_1834 rfl rfl (Nat.le_of_ble_eq_true rfl) (zdk (cc := cX12_codesTold) (q := (69, .invokevirtual 368, 3)) tkX12_codesTold 39 rfl) ?_
      exact zco_sub [0, 1] rfl (coX12_codesTold_J72 l e he v0 v1)
    · refine zco_p tkX12_codesTold 35 1 (pc' := 62) (L' := [(0, .ref v0), (1, .int v1)]) (S' := [.ref v0]) rfl ?_
      refine zco_Vv (rc := 0) (rs := 0) (mc := 0) (ms := 0) (As := []) (S := []) vmX12_qTest (mtX12_qTest l e (by omega) v0) q_1818 rfl rfl (Nat.le_of_ble_eq_true rfl) (zdk (cc := cX12_codesTold) (q := (62, .invokevirtual 365, 3)) tkX12_codesTold 36 rfl) ?_
      refine zco_p tkX12_codesTold 37 1 (pc' := 72) (L' := [(0, .ref v0), (1, .int v1)]) (S' := []) rfl ?_
      exact zco_sub [0, 1] rfl (coX12_codesTold_J72 l e he v0 v1)
  · exact zco_vret rfl rfl rfl (zdk (cc := cX12_codesTold) (q := (30, .return_, 1)) tkX12_codesTold 16 rfl)
set_option maxHeartbeats 2000000 in
set_option maxRecDepth 20000 in
theorem coX12_codesTold (l : Launch) (e : Nat) (he : 9 ≤ e) (v0 : Nat) (v1 : Int32) (v2 : Int32) : zCo l (e + 1) 0 0 iX12_codesTold 0 [(0, .ref v0), (1, .int v1), (2, .int v2)] [] (X12_codesTold v0 v1 v2) := by
  unfold X12_codesTold
  refine zco_p tkX12_codesTold 0 1 (pc' := 1) (L' := [(0, .ref v0), (1, .int v1), (2, .int v2)]) (S' := [.ref v0]) rfl ?_
  refine zco_gi fl_12_270 rfl (zdk (cc := cX12_codesTold) (q := (1, .getfield 270, 3)) tkX12_codesTold 1 rfl) (fun x1 => ?_)
  refine zco_if_ne (tgt := 23) (zdk (cc := cX12_codesTold) (q := (4, .ifCond .ne 19, 3)) tkX12_codesTold 2 rfl) rfl ?_ ?_
  · exact zco_sub [0, 1] rfl (coX12_codesTold_J23 l e he v0 v1)
  · refine zco_p tkX12_codesTold 3 1 (pc' := 8) (L' := [(0, .ref v0), (1, .int v1), (2, .int v2)]) (S' := [.ref v0]) rfl ?_
    refine zco_gr fl_12_125 rfl (zdk (cc := cX12_codesTold) (q := (8, .getfield 125, 3)) tkX12_codesTold 4 rfl) (fun x2 => ?_)
    refine zco_p tkX12_codesTold 5 1 (pc' := 12) (L' := [(0, .ref v0), (1, .int v1), (2, .int v2)]) (S' := [.int v1, .ref x2]) rfl ?_
    refine zco_iaload (zdk (cc := cX12_codesTold) (q := (12, .iaload, 1)) tkX12_codesTold 6 rfl) (fun x3 => ?_)
    refine zco_p tkX12_codesTold 7 1 (pc' := 14) (L' := [(0, .ref v0), (1, .int v1), (2, .int v2)]) (S' := [.int ((-1)), .int x3]) rfl ?_
    refine zco_icmp_eq (tgt := 23) (zdk (cc := cX12_codesTold) (q := (14, .if_icmp .eq 9, 3)) tkX12_codesTold 8 rfl) rfl ?_ ?_
    · exact zco_sub [0, 1] rfl (coX12_codesTold_J23 l e he v0 v1)
    · refine zco_p tkX12_codesTold 9 3 (pc' := 20) (L' := [(0, .ref v0), (1, .int v1), (2, .int v2)]) (S' := [.int v2, .int 5, .ref v0]) rfl ?_
      refine zco_Vv (rc := 0) (rs := 0) (mc := 0) (ms := 0) (As := [.int 5, .int v2]) (S := []) vmX12_fail (mtX12_fail l e (by omega) v0 5 v2) q_1759 rfl rfl (Nat.le_of_ble_eq_true rfl) (zdk (cc := cX12_codesTold) (q := (20, .invokevirtual 300, 3)) tkX12_codesTold 12 rfl) ?_
      exact zco_sub [0, 1] rfl (coX12_codesTold_J23 l e he v0 v1)
theorem mtX12_codesTold (l : Launch) (d : Nat) (hd : 10 ≤ d) (v0 : Nat) (v1 : Int32) (v2 : Int32) : zMet l d 0 0 yX12_codesTold cX12_codesTold 4 (Option.none : Option FieldType) [.ref v0, .int v1, .int v2] (X12_codesTold v0 v1 v2) := by
  obtain ⟨e, rfl⟩ : ∃ e, d = e + 1 := ⟨d - 1, by omega⟩
  exact zmet_of (own := RX12) (ini := false) (by decide +kernel) rfl (fun _ => by contradiction) (Nat.le_of_ble_eq_true rfl) (coX12_codesTold l e (by omega) v0 v1 v2)
abbrev iX12_statementTold : zI := (RX12, cX12_statementTold, 2, (Option.none : Option FieldType), false)
def tX12_statementTold : List (Nat × Instr × Nat) := [(0, .aload_n 0, 1), (1, .getfield 276, 3), (4, .istore_n 1, 1), (5, .aload_n 0, 1), (6, .getfield 374, 3), (9, .bipush 60, 2), (11, .if_icmp .ne 10, 3), (14, .aload_n 0, 1), (15, .iconst 5, 1), (16, .iload_n 1, 1), (17, .invokevirtual 300, 3), (20, .return_, 1), (21, .aload_n 0, 1), (22, .aload_n 0, 1), (23, .getfield 20, 3), (26, .invokevirtual 297, 3), (29, .ifCond .eq 12, 3), (32, .aload_n 0, 1), (33, .iconst 0, 1), (34, .iload_n 1, 1), (35, .invokevirtual 377, 3), (38, .goto 193, 3), (41, .aload_n 0, 1), (42, .aload_n 0, 1), (43, .getfield 24, 3), (46, .invokevirtual 297, 3), (49, .ifCond .eq 12, 3), (52, .aload_n 0, 1), (53, .iconst 1, 1), (54, .iload_n 1, 1), (55, .invokevirtual 377, 3), (58, .goto 173, 3), (61, .aload_n 0, 1), (62, .aload_n 0, 1), (63, .getfield 36, 3), (66, .invokevirtual 297, 3), (69, .ifCond .eq 10, 3), (72, .aload_n 0, 1), (73, .invokevirtual 380, 3), (76, .goto 155, 3), (79, .aload_n 0, 1), (80, .aload_n 0, 1), (81, .getfield 39, 3), (84, .invokevirtual 297, 3), (87, .ifCond .eq 14, 3), (90, .aload_n 0, 1), (91, .aload_n 0, 1), (92, .getfield 119, 3), (95, .invokevirtual 383, 3), (98, .goto 133, 3), (101, .aload_n 0, 1), (102, .aload_n 0, 1), (103, .getfield 42, 3), (106, .invokevirtual 297, 3), (109, .ifCond .eq 14, 3), (112, .aload_n 0, 1), (113, .aload_n 0, 1), (114, .getfield 122, 3), (117, .invokevirtual 383, 3), (120, .goto 111, 3), (123, .aload_n 0, 1), (124, .aload_n 0, 1), (125, .getfield 45, 3), (128, .invokevirtual 297, 3), (131, .ifCond .eq 19, 3), (134, .aload_n 0, 1), (135, .getfield 105, 3), (138, .iconst 3, 1), (139, .aload_n 0, 1), (140, .iconst 1, 1), (141, .bipush 12, 2), (143, .invokevirtual 345, 3), (146, .iastore, 1), (147, .goto 84, 3), (150, .aload_n 0, 1), (151, .aload_n 0, 1), (152, .getfield 48, 3), (155, .invokevirtual 297, 3), (158, .ifCond .eq 12, 3), (161, .aload_n 0, 1), (162, .iconst 0, 1), (163, .iload_n 1, 1), (164, .invokevirtual 387, 3), (167, .goto 64, 3), (170, .aload_n 0, 1), (171, .aload_n 0, 1), (172, .getfield 51, 3), (175, .invokevirtual 297, 3), (178, .ifCond .eq 12, 3), (181, .aload_n 0, 1), (182, .iconst 1, 1), (183, .iload_n 1, 1), (184, .invokevirtual 387, 3), (187, .goto 44, 3), (190, .aload_n 0, 1), (191, .aload_n 0, 1), (192, .getfield 54, 3), (195, .invokevirtual 297, 3), (198, .ifCond .eq 12, 3), (201, .aload_n 0, 1), (202, .iconst 2, 1), (203, .iload_n 1, 1), (204, .invokevirtual 387, 3), (207, .goto 24, 3), (210, .aload_n 0, 1), (211, .aload_n 0, 1), (212, .getfield 57, 3), (215, .invokevirtual 341, 3), (218, .aload_n 0, 1), (219, .getfield 105, 3), (222, .iconst 4, 1), (223, .aload_n 0, 1), (224, .iconst 0, 1), (225, .bipush 100, 2), (227, .invokevirtual 345, 3), (230, .iastore, 1), (231, .aload_n 0, 1), (232, .bipush 59, 2), (234, .invokevirtual 390, 3), (237, .aload_n 0, 1), (238, .dup, 1), (239, .getfield 374, 3), (242, .iconst 1, 1), (243, .iadd, 1), (244, .putfield 374, 3), (247, .return_, 1)]
set_option maxRecDepth 100000 in
theorem tkX12_statementTold : ∀ q ∈ tX12_statementTold, decode cX12_statementTold q.1 = .ok q.2 := by decide +kernel
theorem vmX12_statementTold : zVM yX12_statementTold cX12_statementTold 2 (Option.none : Option FieldType) 0 12 := ⟨kX12_statementTold, q_1757, q_48, q_162, ⟨_, rfl, rfl⟩, by decide +kernel, by decide⟩
set_option maxHeartbeats 2000000 in
set_option maxRecDepth 20000 in
theorem coX12_statementTold_J231 (l : Launch) (e : Nat) (he : 10 ≤ e) (v0 : Nat) : zCo l (e + 1) 0 0 iX12_statementTold 231 [(0, .ref v0)] [] (X12_statementTold_J231 v0) := by
  unfold X12_statementTold_J231
  refine zco_p tkX12_statementTold 116 2 (pc' := 234) (L' := [(0, .ref v0)]) (S' := [.int 59, .ref v0]) rfl ?_
  refine zco_Vv (rc := 0) (rs := 0) (mc := 0) (ms := 0) (As := [.int 59]) (S := []) vmX12_asksSign (mtX12_asksSign l e (by omega) v0 59) q_1857 rfl rfl (Nat.le_of_ble_eq_true rfl) (zdk (cc := cX12_statementTold) (q := (234, .invokevirtual 390, 3)) tkX12_statementTold 118 rfl) ?_
  refine zco_p tkX12_statementTold 119 2 (pc' := 239) (L' := [(0, .ref v0)]) (S' := [.ref v0, .ref v0]) rfl ?_
  refine zco_gi fl_12_374 rfl (zdk (cc := cX12_statementTold) (q := (239, .getfield 374, 3)) tkX12_statementTold 121 rfl) (fun x1 => ?_)
  refine zco_p tkX12_statementTold 122 2 (pc' := 244) (L' := [(0, .ref v0)]) (S' := [.int (x1 + 1), .ref v0]) rfl ?_
  refine zco_pi fl_12_374 rfl rfl (zdk (cc := cX12_statementTold) (q := (244, .putfield 374, 3)) tkX12_statementTold 124 rfl) ?_
  exact zco_vret rfl rfl rfl (zdk (cc := cX12_statementTold) (q := (247, .return_, 1)) tkX12_statementTold 125 rfl)
set_option maxHeartbeats 2000000 in
set_option maxRecDepth 20000 in
theorem coX12_statementTold (l : Launch) (e : Nat) (he : 10 ≤ e) (v0 : Nat) : zCo l (e + 1) 0 0 iX12_statementTold 0 [(0, .ref v0)] [] (X12_statementTold v0) := by
  unfold X12_statementTold
  refine zco_p tkX12_statementTold 0 1 (pc' := 1) (L' := [(0, .ref v0)]) (S' := [.ref v0]) rfl ?_
  refine zco_gi fl_12_276 rfl (zdk (cc := cX12_statementTold) (q := (1, .getfield 276, 3)) tkX12_statementTold 1 rfl) (fun x1 => ?_)
  refine zco_p tkX12_statementTold 2 2 (pc' := 6) (L' := [(1, .int x1), (0, .ref v0)]) (S' := [.ref v0]) rfl ?_
  refine zco_gi fl_12_374 rfl (zdk (cc := cX12_statementTold) (q := (6, .getfield 374, 3)) tkX12_statementTold 4 rfl) (fun x2 => ?_)
  refine zco_p tkX12_statementTold 5 1 (pc' := 11) (L' := [(1, .int x1), (0, .ref v0)]) (S' := [.int 60, .int x2]) rfl ?_
  refine zco_icmp_ne (tgt := 21) (zdk (cc := cX12_statementTold) (q := (11, .if_icmp .ne 10, 3)) tkX12_statementTold 6 rfl) rfl ?_ ?_
  · refine zco_p tkX12_statementTold 12 2 (pc' := 23) (L' := [(1, .int x1), (0, .ref v0)]) (S' := [.ref v0, .ref v0]) rfl ?_
    refine zco_gr fl_12_20 rfl (zdk (cc := cX12_statementTold) (q := (23, .getfield 20, 3)) tkX12_statementTold 14 rfl) (fun x3 => ?_)
    refine zco_Vi (rc := 0) (rs := 0) (mc := 0) (ms := 0) (As := [.ref x3]) (S := []) vmX12_takes (mtX12_takes l e (by omega) v0 x3) q_1763 rfl rfl (Nat.le_of_ble_eq_true rfl) (zdk (cc := cX12_statementTold) (q := (26, .invokevirtual 297, 3)) tkX12_statementTold 15 rfl) (fun y4 => ?_)
    refine zco_if_eq (tgt := 41) (zdk (cc := cX12_statementTold) (q := (29, .ifCond .eq 12, 3)) tkX12_statementTold 16 rfl) rfl ?_ ?_
    · refine zco_p tkX12_statementTold 22 2 (pc' := 43) (L' := [(1, .int x1), (0, .ref v0)]) (S' := [.ref v0, .ref v0]) rfl ?_
      refine zco_gr fl_12_24 rfl (zdk (cc := cX12_statementTold) (q := (43, .getfield 24, 3)) tkX12_statementTold 24 rfl) (fun x5 => ?_)
      refine zco_Vi (rc := 0) (rs := 0) (mc := 0) (ms := 0) (As := [.ref x5]) (S := []) vmX12_takes (mtX12_takes l e (by omega) v0 x5) q_1763 rfl rfl (Nat.le_of_ble_eq_true rfl) (zdk (cc := cX12_statementTold) (q := (46, .invokevirtual 297, 3)) tkX12_statementTold 25 rfl) (fun y6 => ?_)
      refine zco_if_eq (tgt := 61) (zdk (cc := cX12_statementTold) (q := (49, .ifCond .eq 12, 3)) tkX12_statementTold 26 rfl) rfl ?_ ?_
      · refine zco_p tkX12_statementTold 32 2 (pc' := 63) (L' := [(1, .int x1), (0, .ref v0)]) (S' := [.ref v0, .ref v0]) rfl ?_
        refine zco_gr fl_12_36 rfl (zdk (cc := cX12_statementTold) (q := (63, .getfield 36, 3)) tkX12_statementTold 34 rfl) (fun x7 => ?_)
        refine zco_Vi (rc := 0) (rs := 0) (mc := 0) (ms := 0) (As := [.ref x7]) (S := []) vmX12_takes (mtX12_takes l e (by omega) v0 x7) q_1763 rfl rfl (Nat.le_of_ble_eq_true rfl) (zdk (cc := cX12_statementTold) (q := (66, .invokevirtual 297, 3)) tkX12_statementTold 35 rfl) (fun y8 => ?_)
        refine zco_if_eq (tgt := 79) (zdk (cc := cX12_statementTold) (q := (69, .ifCond .eq 10, 3)) tkX12_statementTold 36 rfl) rfl ?_ ?_
        · refine zco_p tkX12_statementTold 40 2 (pc' := 81) (L' := [(1, .int x1), (0, .ref v0)]) (S' := [.ref v0, .ref v0]) rfl ?_
          refine zco_gr fl_12_39 rfl (zdk (cc := cX12_statementTold) (q := (81, .getfield 39, 3)) tkX12_statementTold 42 rfl) (fun x9 => ?_)
          refine zco_Vi (rc := 0) (rs := 0) (mc := 0) (ms := 0) (As := [.ref x9]) (S := []) vmX12_takes (mtX12_takes l e (by omega) v0 x9) q_1763 rfl rfl (Nat.le_of_ble_eq_true rfl) (zdk (cc := cX12_statementTold) (q := (84, .invokevirtual 297, 3)) tkX12_statementTold 43 rfl) (fun y10 => ?_)
          refine zco_if_eq (tgt := 101) (zdk (cc := cX12_statementTold) (q := (87, .ifCond .eq 14, 3)) tkX12_statementTold 44 rfl) rfl ?_ ?_
          · refine zco_p tkX12_statementTold 50 2 (pc' := 103) (L' := [(1, .int x1), (0, .ref v0)]) (S' := [.ref v0, .ref v0]) rfl ?_
            refine zco_gr fl_12_42 rfl (zdk (cc := cX12_statementTold) (q := (103, .getfield 42, 3)) tkX12_statementTold 52 rfl) (fun x11 => ?_)
            refine zco_Vi (rc := 0) (rs := 0) (mc := 0) (ms := 0) (As := [.ref x11]) (S := []) vmX12_takes (mtX12_takes l e (by omega) v0 x11) q_1763 rfl rfl (Nat.le_of_ble_eq_true rfl) (zdk (cc := cX12_statementTold) (q := (106, .invokevirtual 297, 3)) tkX12_statementTold 53 rfl) (fun y12 => ?_)
            refine zco_if_eq (tgt := 123) (zdk (cc := cX12_statementTold) (q := (109, .ifCond .eq 14, 3)) tkX12_statementTold 54 rfl) rfl ?_ ?_
            · refine zco_p tkX12_statementTold 60 2 (pc' := 125) (L' := [(1, .int x1), (0, .ref v0)]) (S' := [.ref v0, .ref v0]) rfl ?_
              refine zco_gr fl_12_45 rfl (zdk (cc := cX12_statementTold) (q := (125, .getfield 45, 3)) tkX12_statementTold 62 rfl) (fun x13 => ?_)
              refine zco_Vi (rc := 0) (rs := 0) (mc := 0) (ms := 0) (As := [.ref x13]) (S := []) vmX12_takes (mtX12_takes l e (by omega) v0 x13) q_1763 rfl rfl (Nat.le_of_ble_eq_true rfl) (zdk (cc := cX12_statementTold) (q := (128, .invokevirtual 297, 3)) tkX12_statementTold 63 rfl) (fun y14 => ?_)
              refine zco_if_eq (tgt := 150) (zdk (cc := cX12_statementTold) (q := (131, .ifCond .eq 19, 3)) tkX12_statementTold 64 rfl) rfl ?_ ?_
              · refine zco_p tkX12_statementTold 74 2 (pc' := 152) (L' := [(1, .int x1), (0, .ref v0)]) (S' := [.ref v0, .ref v0]) rfl ?_
                refine zco_gr fl_12_48 rfl (zdk (cc := cX12_statementTold) (q := (152, .getfield 48, 3)) tkX12_statementTold 76 rfl) (fun x15 => ?_)
                refine zco_Vi (rc := 0) (rs := 0) (mc := 0) (ms := 0) (As := [.ref x15]) (S := []) vmX12_takes (mtX12_takes l e (by omega) v0 x15) q_1763 rfl rfl (Nat.le_of_ble_eq_true rfl) (zdk (cc := cX12_statementTold) (q := (155, .invokevirtual 297, 3)) tkX12_statementTold 77 rfl) (fun y16 => ?_)
                refine zco_if_eq (tgt := 170) (zdk (cc := cX12_statementTold) (q := (158, .ifCond .eq 12, 3)) tkX12_statementTold 78 rfl) rfl ?_ ?_
                · refine zco_p tkX12_statementTold 84 2 (pc' := 172) (L' := [(1, .int x1), (0, .ref v0)]) (S' := [.ref v0, .ref v0]) rfl ?_
                  refine zco_gr fl_12_51 rfl (zdk (cc := cX12_statementTold) (q := (172, .getfield 51, 3)) tkX12_statementTold 86 rfl) (fun x17 => ?_)
                  refine zco_Vi (rc := 0) (rs := 0) (mc := 0) (ms := 0) (As := [.ref x17]) (S := []) vmX12_takes (mtX12_takes l e (by omega) v0 x17) q_1763 rfl rfl (Nat.le_of_ble_eq_true rfl) (zdk (cc := cX12_statementTold) (q := (175, .invokevirtual 297, 3)) tkX12_statementTold 87 rfl) (fun y18 => ?_)
                  refine zco_if_eq (tgt := 190) (zdk (cc := cX12_statementTold) (q := (178, .ifCond .eq 12, 3)) tkX12_statementTold 88 rfl) rfl ?_ ?_
                  · refine zco_p tkX12_statementTold 94 2 (pc' := 192) (L' := [(1, .int x1), (0, .ref v0)]) (S' := [.ref v0, .ref v0]) rfl ?_
                    refine zco_gr fl_12_54 rfl (zdk (cc := cX12_statementTold) (q := (192, .getfield 54, 3)) tkX12_statementTold 96 rfl) (fun x19 => ?_)
                    refine zco_Vi (rc := 0) (rs := 0) (mc := 0) (ms := 0) (As := [.ref x19]) (S := []) vmX12_takes (mtX12_takes l e (by omega) v0 x19) q_1763 rfl rfl (Nat.le_of_ble_eq_true rfl) (zdk (cc := cX12_statementTold) (q := (195, .invokevirtual 297, 3)) tkX12_statementTold 97 rfl) (fun y20 => ?_)
                    refine zco_if_eq (tgt := 210) (zdk (cc := cX12_statementTold) (q := (198, .ifCond .eq 12, 3)) tkX12_statementTold 98 rfl) rfl ?_ ?_
                    · refine zco_p tkX12_statementTold 104 2 (pc' := 212) (L' := [(1, .int x1), (0, .ref v0)]) (S' := [.ref v0, .ref v0]) rfl ?_
                      refine zco_gr fl_12_57 rfl (zdk (cc := cX12_statementTold) (q := (212, .getfield 57, 3)) tkX12_statementTold 106 rfl) (fun x21 => ?_)
                      refine zco_Vv (rc := 0) (rs := 0) (mc := 0) (ms := 0) (As := [.ref x21]) (S := []) vmX12_asks (mtX12_asks l e (by omega) v0 x21) q_1788 rfl rfl (Nat.le_of_ble_eq_true rfl) (zdk (cc := cX12_statementTold) (q := (215, .invokevirtual 341, 3)) tkX12_statementTold 107 rfl) ?_
                      refine zco_p tkX12_statementTold 108 1 (pc' := 219) (L' := [(1, .int x1), (0, .ref v0)]) (S' := [.ref v0]) rfl ?_
                      refine zco_gr fl_12_105 rfl (zdk (cc := cX12_statementTold) (q := (219, .getfield 105, 3)) tkX12_statementTold 109 rfl) (fun x22 => ?_)
                      refine zco_p tkX12_statementTold 110 4 (pc' := 227) (L' := [(1, .int x1), (0, .ref v0)]) (S' := [.int 100, .int 0, .ref v0, .int 4, .ref x22]) rfl ?_
                      refine zco_Vi (rc := 0) (rs := 0) (mc := 0) (ms := 0) (As := [.int 0, .int 100]) (S := [.int 4, .ref x22]) vmX12_number (mtX12_number l e (by omega) v0 0 100) q_1792 rfl rfl (Nat.le_of_ble_eq_true rfl) (zdk (cc := cX12_statementTold) (q := (227, .invokevirtual 345, 3)) tkX12_statementTold 114 rfl) (fun y23 => ?_)
                      refine zco_iastore (zdk (cc := cX12_statementTold) (q := (230, .iastore, 1)) tkX12_statementTold 115 rfl) ?_
                      exact zco_sub [1] rfl (coX12_statementTold_J231 l e he v0)
                    · refine zco_p tkX12_statementTold 99 3 (pc' := 204) (L' := [(1, .int x1), (0, .ref v0)]) (S' := [.int x1, .int 2, .ref v0]) rfl ?_
                      refine zco_Vv (rc := 0) (rs := 0) (mc := 0) (ms := 0) (As := [.int 2, .int x1]) (S := []) vmX12_codesTold (mtX12_codesTold l e (by omega) v0 2 x1) q_1814 rfl rfl (Nat.le_of_ble_eq_true rfl) (zdk (cc := cX12_statementTold) (q := (204, .invokevirtual 387, 3)) tkX12_statementTold 102 rfl) ?_
                      refine zco_p tkX12_statementTold 103 1 (pc' := 231) (L' := [(1, .int x1), (0, .ref v0)]) (S' := []) rfl ?_
                      exact zco_sub [1] rfl (coX12_statementTold_J231 l e he v0)
                  · refine zco_p tkX12_statementTold 89 3 (pc' := 184) (L' := [(1, .int x1), (0, .ref v0)]) (S' := [.int x1, .int 1, .ref v0]) rfl ?_
                    refine zco_Vv (rc := 0) (rs := 0) (mc := 0) (ms := 0) (As := [.int 1, .int x1]) (S := []) vmX12_codesTold (mtX12_codesTold l e (by omega) v0 1 x1) q_1814 rfl rfl (Nat.le_of_ble_eq_true rfl) (zdk (cc := cX12_statementTold) (q := (184, .invokevirtual 387, 3)) tkX12_statementTold 92 rfl) ?_
                    refine zco_p tkX12_statementTold 93 1 (pc' := 231) (L' := [(1, .int x1), (0, .ref v0)]) (S' := []) rfl ?_
                    exact zco_sub [1] rfl (coX12_statementTold_J231 l e he v0)
                · refine zco_p tkX12_statementTold 79 3 (pc' := 164) (L' := [(1, .int x1), (0, .ref v0)]) (S' := [.int x1, .int 0, .ref v0]) rfl ?_
                  refine zco_Vv (rc := 0) (rs := 0) (mc := 0) (ms := 0) (As := [.int 0, .int x1]) (S := []) vmX12_codesTold (mtX12_codesTold l e (by omega) v0 0 x1) q_1814 rfl rfl (Nat.le_of_ble_eq_true rfl) (zdk (cc := cX12_statementTold) (q := (164, .invokevirtual 387, 3)) tkX12_statementTold 82 rfl) ?_
                  refine zco_p tkX12_statementTold 83 1 (pc' := 231) (L' := [(1, .int x1), (0, .ref v0)]) (S' := []) rfl ?_
                  exact zco_sub [1] rfl (coX12_statementTold_J231 l e he v0)
              · refine zco_p tkX12_statementTold 65 1 (pc' := 135) (L' := [(1, .int x1), (0, .ref v0)]) (S' := [.ref v0]) rfl ?_
                refine zco_gr fl_12_105 rfl (zdk (cc := cX12_statementTold) (q := (135, .getfield 105, 3)) tkX12_statementTold 66 rfl) (fun x24 => ?_)
                refine zco_p tkX12_statementTold 67 4 (pc' := 143) (L' := [(1, .int x1), (0, .ref v0)]) (S' := [.int 12, .int 1, .ref v0, .int 3, .ref x24]) rfl ?_
                refine zco_Vi (rc := 0) (rs := 0) (mc := 0) (ms := 0) (As := [.int 1, .int 12]) (S := [.int 3, .ref x24]) vmX12_number (mtX12_number l e (by omega) v0 1 12) q_1792 rfl rfl (Nat.le_of_ble_eq_true rfl) (zdk (cc := cX12_statementTold) (q := (143, .invokevirtual 345, 3)) tkX12_statementTold 71 rfl) (fun y25 => ?_)
                refine zco_iastore (zdk (cc := cX12_statementTold) (q := (146, .iastore, 1)) tkX12_statementTold 72 rfl) ?_
                refine zco_p tkX12_statementTold 73 1 (pc' := 231) (L' := [(1, .int x1), (0, .ref v0)]) (S' := []) rfl ?_
                exact zco_sub [1] rfl (coX12_statementTold_J231 l e he v0)
            · refine zco_p tkX12_statementTold 55 2 (pc' := 114) (L' := [(1, .int x1), (0, .ref v0)]) (S' := [.ref v0, .ref v0]) rfl ?_
              refine zco_gr fl_12_122 rfl (zdk (cc := cX12_statementTold) (q := (114, .getfield 122, 3)) tkX12_statementTold 57 rfl) (fun x26 => ?_)
              refine zco_Vv (rc := 0) (rs := 0) (mc := 0) (ms := 0) (As := [.ref x26]) (S := []) vmX12_feltTold (mtX12_feltTold l e (by omega) v0 x26) q_1810 rfl rfl (Nat.le_of_ble_eq_true rfl) (zdk (cc := cX12_statementTold) (q := (117, .invokevirtual 383, 3)) tkX12_statementTold 58 rfl) ?_
              refine zco_p tkX12_statementTold 59 1 (pc' := 231) (L' := [(1, .int x1), (0, .ref v0)]) (S' := []) rfl ?_
              exact zco_sub [1] rfl (coX12_statementTold_J231 l e he v0)
          · refine zco_p tkX12_statementTold 45 2 (pc' := 92) (L' := [(1, .int x1), (0, .ref v0)]) (S' := [.ref v0, .ref v0]) rfl ?_
            refine zco_gr fl_12_119 rfl (zdk (cc := cX12_statementTold) (q := (92, .getfield 119, 3)) tkX12_statementTold 47 rfl) (fun x27 => ?_)
            refine zco_Vv (rc := 0) (rs := 0) (mc := 0) (ms := 0) (As := [.ref x27]) (S := []) vmX12_feltTold (mtX12_feltTold l e (by omega) v0 x27) q_1810 rfl rfl (Nat.le_of_ble_eq_true rfl) (zdk (cc := cX12_statementTold) (q := (95, .invokevirtual 383, 3)) tkX12_statementTold 48 rfl) ?_
            refine zco_p tkX12_statementTold 49 1 (pc' := 231) (L' := [(1, .int x1), (0, .ref v0)]) (S' := []) rfl ?_
            exact zco_sub [1] rfl (coX12_statementTold_J231 l e he v0)
        · refine zco_p tkX12_statementTold 37 1 (pc' := 73) (L' := [(1, .int x1), (0, .ref v0)]) (S' := [.ref v0]) rfl ?_
          refine zco_Vv (rc := 0) (rs := 0) (mc := 0) (ms := 0) (As := []) (S := []) vmX12_kinTold (mtX12_kinTold l e (by omega) v0) q_1802 rfl rfl (Nat.le_of_ble_eq_true rfl) (zdk (cc := cX12_statementTold) (q := (73, .invokevirtual 380, 3)) tkX12_statementTold 38 rfl) ?_
          refine zco_p tkX12_statementTold 39 1 (pc' := 231) (L' := [(1, .int x1), (0, .ref v0)]) (S' := []) rfl ?_
          exact zco_sub [1] rfl (coX12_statementTold_J231 l e he v0)
      · refine zco_p tkX12_statementTold 27 3 (pc' := 55) (L' := [(1, .int x1), (0, .ref v0)]) (S' := [.int x1, .int 1, .ref v0]) rfl ?_
        refine zco_Vv (rc := 0) (rs := 0) (mc := 0) (ms := 0) (As := [.int 1, .int x1]) (S := []) vmX12_oneTold (mtX12_oneTold l e (by omega) v0 1 x1) q_1774 rfl rfl (Nat.le_of_ble_eq_true rfl) (zdk (cc := cX12_statementTold) (q := (55, .invokevirtual 377, 3)) tkX12_statementTold 30 rfl) ?_
        refine zco_p tkX12_statementTold 31 1 (pc' := 231) (L' := [(1, .int x1), (0, .ref v0)]) (S' := []) rfl ?_
        exact zco_sub [1] rfl (coX12_statementTold_J231 l e he v0)
    · refine zco_p tkX12_statementTold 17 3 (pc' := 35) (L' := [(1, .int x1), (0, .ref v0)]) (S' := [.int x1, .int 0, .ref v0]) rfl ?_
      refine zco_Vv (rc := 0) (rs := 0) (mc := 0) (ms := 0) (As := [.int 0, .int x1]) (S := []) vmX12_oneTold (mtX12_oneTold l e (by omega) v0 0 x1) q_1774 rfl rfl (Nat.le_of_ble_eq_true rfl) (zdk (cc := cX12_statementTold) (q := (35, .invokevirtual 377, 3)) tkX12_statementTold 20 rfl) ?_
      refine zco_p tkX12_statementTold 21 1 (pc' := 231) (L' := [(1, .int x1), (0, .ref v0)]) (S' := []) rfl ?_
      exact zco_sub [1] rfl (coX12_statementTold_J231 l e he v0)
  · refine zco_p tkX12_statementTold 7 3 (pc' := 17) (L' := [(1, .int x1), (0, .ref v0)]) (S' := [.int x1, .int 5, .ref v0]) rfl ?_
    refine zco_Vv (rc := 0) (rs := 0) (mc := 0) (ms := 0) (As := [.int 5, .int x1]) (S := []) vmX12_fail (mtX12_fail l e (by omega) v0 5 x1) q_1759 rfl rfl (Nat.le_of_ble_eq_true rfl) (zdk (cc := cX12_statementTold) (q := (17, .invokevirtual 300, 3)) tkX12_statementTold 10 rfl) ?_
    exact zco_vret rfl rfl rfl (zdk (cc := cX12_statementTold) (q := (20, .return_, 1)) tkX12_statementTold 11 rfl)
theorem mtX12_statementTold (l : Launch) (d : Nat) (hd : 11 ≤ d) (v0 : Nat) : zMet l d 0 0 yX12_statementTold cX12_statementTold 2 (Option.none : Option FieldType) [.ref v0] (X12_statementTold v0) := by
  obtain ⟨e, rfl⟩ : ∃ e, d = e + 1 := ⟨d - 1, by omega⟩
  exact zmet_of (own := RX12) (ini := false) (by decide +kernel) rfl (fun _ => by contradiction) (Nat.le_of_ble_eq_true rfl) (coX12_statementTold l e (by omega) v0)
abbrev iX12_refuses : zI := (RX12, cX12_refuses, 2, (Option.some .int), false)
def tX12_refuses : List (Nat × Instr × Nat) := [(0, .aload_n 0, 1), (1, .getfield 17, 3), (4, .iload_n 1, 1), (5, .dup2, 1), (6, .iaload, 1), (7, .iconst 1, 1), (8, .iadd, 1), (9, .iastore, 1), (10, .iconst (-1), 1), (11, .ireturn, 1)]
set_option maxRecDepth 100000 in
theorem tkX12_refuses : ∀ q ∈ tX12_refuses, decode cX12_refuses q.1 = .ok q.2 := by decide +kernel
theorem vmX12_refuses : zVM yX12_refuses cX12_refuses 2 (Option.some .int) 1 12 := ⟨kX12_refuses, q_1910, q_82, q_162, ⟨_, rfl, rfl⟩, by decide +kernel, by decide⟩
set_option maxHeartbeats 2000000 in
set_option maxRecDepth 20000 in
theorem coX12_refuses (l : Launch) (e : Nat) (he : 0 ≤ e) (v0 : Nat) (v1 : Int32) : zCo l (e + 1) 0 0 iX12_refuses 0 [(0, .ref v0), (1, .int v1)] [] (X12_refuses v0 v1) := by
  unfold X12_refuses
  refine zco_p tkX12_refuses 0 1 (pc' := 1) (L' := [(0, .ref v0), (1, .int v1)]) (S' := [.ref v0]) rfl ?_
  refine zco_gr fl_12_17 rfl (zdk (cc := cX12_refuses) (q := (1, .getfield 17, 3)) tkX12_refuses 1 rfl) (fun x1 => ?_)
  refine zco_p tkX12_refuses 2 2 (pc' := 6) (L' := [(0, .ref v0), (1, .int v1)]) (S' := [.int v1, .ref x1, .int v1, .ref x1]) rfl ?_
  refine zco_iaload (zdk (cc := cX12_refuses) (q := (6, .iaload, 1)) tkX12_refuses 4 rfl) (fun x2 => ?_)
  refine zco_p tkX12_refuses 5 2 (pc' := 9) (L' := [(0, .ref v0), (1, .int v1)]) (S' := [.int (x2 + 1), .int v1, .ref x1]) rfl ?_
  refine zco_iastore (zdk (cc := cX12_refuses) (q := (9, .iastore, 1)) tkX12_refuses 7 rfl) ?_
  refine zco_p tkX12_refuses 8 1 (pc' := 11) (L' := [(0, .ref v0), (1, .int v1)]) (S' := [.int ((-1))]) rfl ?_
  exact zco_iret rfl rfl rfl (zdk (cc := cX12_refuses) (q := (11, .ireturn, 1)) tkX12_refuses 9 rfl)
theorem mtX12_refuses (l : Launch) (d : Nat) (hd : 1 ≤ d) (v0 : Nat) (v1 : Int32) : zMet l d 0 0 yX12_refuses cX12_refuses 2 (Option.some .int) [.ref v0, .int v1] (X12_refuses v0 v1) := by
  obtain ⟨e, rfl⟩ : ∃ e, d = e + 1 := ⟨d - 1, by omega⟩
  exact zmet_of (own := RX12) (ini := false) (by decide +kernel) rfl (fun _ => by contradiction) (Nat.le_of_ble_eq_true rfl) (coX12_refuses l e (by omega) v0 v1)
abbrev iX12_stands : zI := (RX12, cX12_stands, 2, (Option.none : Option FieldType), false)
def tX12_stands_q0 : List (Nat × Instr × Nat) := [(0, .aload_n 0, 1), (1, .iconst 1, 1), (2, .putfield 406, 3), (5, .iconst 0, 1), (6, .istore_n 1, 1), (7, .iload_n 1, 1), (8, .iconst 5, 1), (9, .if_icmp .ge 24, 3), (12, .aload_n 0, 1), (13, .getfield 105, 3), (16, .bipush 6, 2), (18, .iload_n 1, 1), (19, .iadd, 1), (20, .aload_n 0, 1), (21, .getfield 105, 3), (24, .iload_n 1, 1), (25, .iaload, 1), (26, .iastore, 1), (27, .iinc 1 1, 3), (30, .goto (-23), 3), (33, .iconst 0, 1), (34, .istore_n 1, 1), (35, .iload_n 1, 1), (36, .iconst 3, 1), (37, .if_icmp .ge 37, 3), (40, .aload_n 0, 1), (41, .getfield 125, 3), (44, .iconst 3, 1), (45, .iload_n 1, 1), (46, .iadd, 1), (47, .aload_n 0, 1), (48, .getfield 125, 3), (51, .iload_n 1, 1), (52, .iaload, 1), (53, .iastore, 1), (54, .aload_n 0, 1), (55, .getfield 128, 3), (58, .iconst 3, 1), (59, .iload_n 1, 1), (60, .iadd, 1), (61, .aload_n 0, 1), (62, .getfield 128, 3), (65, .iload_n 1, 1), (66, .iaload, 1), (67, .iastore, 1), (68, .iinc 1 1, 3), (71, .goto (-36), 3), (74, .iconst 0, 1), (75, .istore_n 1, 1), (76, .iload_n 1, 1), (77, .bipush 12, 2), (79, .if_icmp .ge 24, 3), (82, .aload_n 0, 1), (83, .getfield 108, 3), (86, .bipush 12, 2), (88, .iload_n 1, 1), (89, .iadd, 1), (90, .aload_n 0, 1), (91, .getfield 108, 3), (94, .iload_n 1, 1), (95, .laload, 1), (96, .lastore, 1), (97, .iinc 1 1, 3), (100, .goto (-24), 3)]
set_option maxRecDepth 100000 in
theorem tkX12_stands_q0 : ∀ q ∈ tX12_stands_q0, decode cX12_stands q.1 = .ok q.2 := by decide +kernel
def tX12_stands_q1 : List (Nat × Instr × Nat) := [(103, .iconst 0, 1), (104, .istore_n 1, 1), (105, .iload_n 1, 1), (106, .bipush 36, 2), (108, .if_icmp .ge 39, 3), (111, .aload_n 0, 1), (112, .getfield 112, 3), (115, .bipush 36, 2), (117, .iload_n 1, 1), (118, .iadd, 1), (119, .aload_n 0, 1), (120, .getfield 112, 3), (123, .iload_n 1, 1), (124, .iaload, 1), (125, .iastore, 1), (126, .aload_n 0, 1), (127, .getfield 115, 3), (130, .bipush 36, 2), (132, .iload_n 1, 1), (133, .iadd, 1), (134, .aload_n 0, 1), (135, .getfield 115, 3), (138, .iload_n 1, 1), (139, .baload, 1), (140, .bastore, 1), (141, .iinc 1 1, 3), (144, .goto (-39), 3), (147, .iconst 0, 1), (148, .istore_n 1, 1), (149, .iload_n 1, 1), (150, .aload_n 0, 1), (151, .getfield 371, 3), (154, .if_icmp .ge 25, 3), (157, .aload_n 0, 1), (158, .getfield 131, 3), (161, .sipush 1600, 3), (164, .iload_n 1, 1), (165, .iadd, 1), (166, .aload_n 0, 1), (167, .getfield 131, 3), (170, .iload_n 1, 1), (171, .iaload, 1), (172, .iastore, 1), (173, .iinc 1 1, 3), (176, .goto (-27), 3), (179, .iconst 0, 1), (180, .istore_n 1, 1), (181, .iload_n 1, 1), (182, .sipush 343, 3), (185, .if_icmp .ge 16, 3), (188, .aload_n 0, 1), (189, .getfield 134, 3), (192, .iload_n 1, 1), (193, .iconst 0, 1), (194, .iastore, 1), (195, .iinc 1 1, 3), (198, .goto (-17), 3), (201, .iconst 0, 1), (202, .istore_n 1, 1), (203, .iload_n 1, 1), (204, .bipush 6, 2), (206, .if_icmp .ge 28, 3), (209, .aload_n 0, 1), (210, .getfield 134, 3)]
set_option maxRecDepth 100000 in
theorem tkX12_stands_q1 : ∀ q ∈ tX12_stands_q1, decode cX12_stands q.1 = .ok q.2 := by decide +kernel
def tX12_stands_q2 : List (Nat × Instr × Nat) := [(213, .iconst 2, 1), (214, .iload_n 1, 1), (215, .iadd, 1), (216, .iload_n 1, 1), (217, .iastore, 1), (218, .aload_n 0, 1), (219, .getfield 134, 3), (222, .bipush 8, 2), (224, .iload_n 1, 1), (225, .iadd, 1), (226, .iload_n 1, 1), (227, .iastore, 1), (228, .iinc 1 1, 3), (231, .goto (-28), 3), (234, .iconst 0, 1), (235, .istore_n 1, 1), (236, .iload_n 1, 1), (237, .bipush 12, 2), (239, .if_icmp .ge 19, 3), (242, .aload_n 0, 1), (243, .getfield 134, 3), (246, .bipush 14, 2), (248, .iload_n 1, 1), (249, .iadd, 1), (250, .iconst (-1), 1), (251, .iastore, 1), (252, .iinc 1 1, 3), (255, .goto (-19), 3), (258, .iconst 0, 1), (259, .istore_n 1, 1), (260, .iload_n 1, 1), (261, .bipush 72, 2), (263, .if_icmp .ge 39, 3), (266, .aload_n 0, 1), (267, .getfield 134, 3), (270, .bipush 38, 2), (272, .iload_n 1, 1), (273, .iadd, 1), (274, .aload_n 0, 1), (275, .getfield 119, 3), (278, .iload_n 1, 1), (279, .iaload, 1), (280, .iastore, 1), (281, .aload_n 0, 1), (282, .getfield 134, 3), (285, .bipush 110, 2), (287, .iload_n 1, 1), (288, .iadd, 1), (289, .aload_n 0, 1), (290, .getfield 122, 3), (293, .iload_n 1, 1), (294, .iaload, 1), (295, .iastore, 1), (296, .iinc 1 1, 3), (299, .goto (-39), 3), (302, .aload_n 0, 1), (303, .iconst 0, 1), (304, .putfield 410, 3), (307, .aload_n 0, 1), (308, .iconst 0, 1), (309, .putfield 413, 3), (312, .return_, 1)]
set_option maxRecDepth 100000 in
theorem tkX12_stands_q2 : ∀ q ∈ tX12_stands_q2, decode cX12_stands q.1 = .ok q.2 := by decide +kernel
theorem vmX12_stands : zVM yX12_stands cX12_stands 2 (Option.none : Option FieldType) 0 12 := ⟨kX12_stands, q_1914, q_83, q_162, ⟨_, rfl, rfl⟩, by decide +kernel, by decide⟩
set_option maxHeartbeats 2000000 in
set_option maxRecDepth 20000 in
theorem coX12_stands_J302 (l : Launch) (e : Nat) (he : 0 ≤ e) (v0 : Nat) : zCo l (e + 1) 0 0 iX12_stands 302 [(0, .ref v0)] [] (X12_stands_J302 v0) := by
  unfold X12_stands_J302
  refine zco_p tkX12_stands_q2 55 2 (pc' := 304) (L' := [(0, .ref v0)]) (S' := [.int 0, .ref v0]) rfl ?_
  refine zco_pi fl_12_410 rfl rfl (zdk (cc := cX12_stands) (q := (304, .putfield 410, 3)) tkX12_stands_q2 57 rfl) ?_
  refine zco_p tkX12_stands_q2 58 2 (pc' := 309) (L' := [(0, .ref v0)]) (S' := [.int 0, .ref v0]) rfl ?_
  refine zco_pi fl_12_413 rfl rfl (zdk (cc := cX12_stands) (q := (309, .putfield 413, 3)) tkX12_stands_q2 60 rfl) ?_
  exact zco_vret rfl rfl rfl (zdk (cc := cX12_stands) (q := (312, .return_, 1)) tkX12_stands_q2 61 rfl)
set_option maxHeartbeats 2000000 in
set_option maxRecDepth 20000 in
theorem coX12_stands_B260 (l : Launch) (e : Nat) (he : 0 ≤ e) (v0 : Nat) (r260 : Int32 → zM) (hr260 : ∀ x : Int32, zCo l (e + 1) 0 0 iX12_stands 260 [(0, .ref v0), (1, .int x)] [] (r260 x)) (v1 : Int32) : zCo l (e + 1) 0 0 iX12_stands 260 [(0, .ref v0), (1, .int v1)] [] (X12_stands_B260 v0 r260 v1) := by
  unfold X12_stands_B260
  refine zco_p tkX12_stands_q2 30 2 (pc' := 263) (L' := [(0, .ref v0), (1, .int v1)]) (S' := [.int 72, .int v1]) rfl ?_
  refine zco_icmp_ge (tgt := 302) (zdk (cc := cX12_stands) (q := (263, .if_icmp .ge 39, 3)) tkX12_stands_q2 32 rfl) rfl ?_ ?_
  · exact zco_sub [0] rfl (coX12_stands_J302 l e he v0)
  · refine zco_p tkX12_stands_q2 33 1 (pc' := 267) (L' := [(0, .ref v0), (1, .int v1)]) (S' := [.ref v0]) rfl ?_
    refine zco_gr fl_12_134 rfl (zdk (cc := cX12_stands) (q := (267, .getfield 134, 3)) tkX12_stands_q2 34 rfl) (fun x1 => ?_)
    refine zco_p tkX12_stands_q2 35 4 (pc' := 275) (L' := [(0, .ref v0), (1, .int v1)]) (S' := [.ref v0, .int (38 + v1), .ref x1]) rfl ?_
    refine zco_gr fl_12_119 rfl (zdk (cc := cX12_stands) (q := (275, .getfield 119, 3)) tkX12_stands_q2 39 rfl) (fun x2 => ?_)
    refine zco_p tkX12_stands_q2 40 1 (pc' := 279) (L' := [(0, .ref v0), (1, .int v1)]) (S' := [.int v1, .ref x2, .int (38 + v1), .ref x1]) rfl ?_
    refine zco_iaload (zdk (cc := cX12_stands) (q := (279, .iaload, 1)) tkX12_stands_q2 41 rfl) (fun x3 => ?_)
    refine zco_iastore (zdk (cc := cX12_stands) (q := (280, .iastore, 1)) tkX12_stands_q2 42 rfl) ?_
    refine zco_p tkX12_stands_q2 43 1 (pc' := 282) (L' := [(0, .ref v0), (1, .int v1)]) (S' := [.ref v0]) rfl ?_
    refine zco_gr fl_12_134 rfl (zdk (cc := cX12_stands) (q := (282, .getfield 134, 3)) tkX12_stands_q2 44 rfl) (fun x4 => ?_)
    refine zco_p tkX12_stands_q2 45 4 (pc' := 290) (L' := [(0, .ref v0), (1, .int v1)]) (S' := [.ref v0, .int (110 + v1), .ref x4]) rfl ?_
    refine zco_gr fl_12_122 rfl (zdk (cc := cX12_stands) (q := (290, .getfield 122, 3)) tkX12_stands_q2 49 rfl) (fun x5 => ?_)
    refine zco_p tkX12_stands_q2 50 1 (pc' := 294) (L' := [(0, .ref v0), (1, .int v1)]) (S' := [.int v1, .ref x5, .int (110 + v1), .ref x4]) rfl ?_
    refine zco_iaload (zdk (cc := cX12_stands) (q := (294, .iaload, 1)) tkX12_stands_q2 51 rfl) (fun x6 => ?_)
    refine zco_iastore (zdk (cc := cX12_stands) (q := (295, .iastore, 1)) tkX12_stands_q2 52 rfl) ?_
    refine zco_p tkX12_stands_q2 53 2 (pc' := 260) (L' := [(1, .int (v1 + 1)), (0, .ref v0)]) (S' := []) rfl ?_
    exact zco_sub [1, 0] rfl (hr260 (v1 + 1))
set_option maxHeartbeats 2000000 in
set_option maxRecDepth 20000 in
theorem coX12_stands_J258 (l : Launch) (e : Nat) (he : 0 ≤ e) (v0 : Nat) : zCo l (e + 1) 0 0 iX12_stands 258 [(0, .ref v0)] [] (X12_stands_J258 v0) := by
  unfold X12_stands_J258
  refine zco_p tkX12_stands_q2 28 2 (pc' := 260) (L' := [(1, .int 0), (0, .ref v0)]) (S' := []) rfl ?_
  exact zco_sub [1, 0] rfl (zco_fix (Lf := fun x : Int32 => [(0, .ref v0), (1, .int x)]) (Sf := fun _ => []) (fun r hr x => coX12_stands_B260 l e he v0 r hr x) zFU 0)
set_option maxHeartbeats 2000000 in
set_option maxRecDepth 20000 in
theorem coX12_stands_B236 (l : Launch) (e : Nat) (he : 0 ≤ e) (v0 : Nat) (r236 : Int32 → zM) (hr236 : ∀ x : Int32, zCo l (e + 1) 0 0 iX12_stands 236 [(0, .ref v0), (1, .int x)] [] (r236 x)) (v1 : Int32) : zCo l (e + 1) 0 0 iX12_stands 236 [(0, .ref v0), (1, .int v1)] [] (X12_stands_B236 v0 r236 v1) := by
  unfold X12_stands_B236
  refine zco_p tkX12_stands_q2 16 2 (pc' := 239) (L' := [(0, .ref v0), (1, .int v1)]) (S' := [.int 12, .int v1]) rfl ?_
  refine zco_icmp_ge (tgt := 258) (zdk (cc := cX12_stands) (q := (239, .if_icmp .ge 19, 3)) tkX12_stands_q2 18 rfl) rfl ?_ ?_
  · exact zco_sub [0] rfl (coX12_stands_J258 l e he v0)
  · refine zco_p tkX12_stands_q2 19 1 (pc' := 243) (L' := [(0, .ref v0), (1, .int v1)]) (S' := [.ref v0]) rfl ?_
    refine zco_gr fl_12_134 rfl (zdk (cc := cX12_stands) (q := (243, .getfield 134, 3)) tkX12_stands_q2 20 rfl) (fun x1 => ?_)
    refine zco_p tkX12_stands_q2 21 4 (pc' := 251) (L' := [(0, .ref v0), (1, .int v1)]) (S' := [.int ((-1)), .int (14 + v1), .ref x1]) rfl ?_
    refine zco_iastore (zdk (cc := cX12_stands) (q := (251, .iastore, 1)) tkX12_stands_q2 25 rfl) ?_
    refine zco_p tkX12_stands_q2 26 2 (pc' := 236) (L' := [(1, .int (v1 + 1)), (0, .ref v0)]) (S' := []) rfl ?_
    exact zco_sub [1, 0] rfl (hr236 (v1 + 1))
set_option maxHeartbeats 2000000 in
set_option maxRecDepth 20000 in
theorem coX12_stands_J234 (l : Launch) (e : Nat) (he : 0 ≤ e) (v0 : Nat) : zCo l (e + 1) 0 0 iX12_stands 234 [(0, .ref v0)] [] (X12_stands_J234 v0) := by
  unfold X12_stands_J234
  refine zco_p tkX12_stands_q2 14 2 (pc' := 236) (L' := [(1, .int 0), (0, .ref v0)]) (S' := []) rfl ?_
  exact zco_sub [1, 0] rfl (zco_fix (Lf := fun x : Int32 => [(0, .ref v0), (1, .int x)]) (Sf := fun _ => []) (fun r hr x => coX12_stands_B236 l e he v0 r hr x) zFU 0)
set_option maxHeartbeats 2000000 in
set_option maxRecDepth 20000 in
theorem coX12_stands_B203 (l : Launch) (e : Nat) (he : 0 ≤ e) (v0 : Nat) (r203 : Int32 → zM) (hr203 : ∀ x : Int32, zCo l (e + 1) 0 0 iX12_stands 203 [(0, .ref v0), (1, .int x)] [] (r203 x)) (v1 : Int32) : zCo l (e + 1) 0 0 iX12_stands 203 [(0, .ref v0), (1, .int v1)] [] (X12_stands_B203 v0 r203 v1) := by
  unfold X12_stands_B203
  refine zco_p tkX12_stands_q1 59 2 (pc' := 206) (L' := [(0, .ref v0), (1, .int v1)]) (S' := [.int 6, .int v1]) rfl ?_
  refine zco_icmp_ge (tgt := 234) (zdk (cc := cX12_stands) (q := (206, .if_icmp .ge 28, 3)) tkX12_stands_q1 61 rfl) rfl ?_ ?_
  · exact zco_sub [0] rfl (coX12_stands_J234 l e he v0)
  · refine zco_p tkX12_stands_q1 62 1 (pc' := 210) (L' := [(0, .ref v0), (1, .int v1)]) (S' := [.ref v0]) rfl ?_
    refine zco_gr fl_12_134 rfl (zdk (cc := cX12_stands) (q := (210, .getfield 134, 3)) tkX12_stands_q1 63 rfl) (fun x1 => ?_)
    refine zco_p tkX12_stands_q2 0 4 (pc' := 217) (L' := [(0, .ref v0), (1, .int v1)]) (S' := [.int v1, .int (2 + v1), .ref x1]) rfl ?_
    refine zco_iastore (zdk (cc := cX12_stands) (q := (217, .iastore, 1)) tkX12_stands_q2 4 rfl) ?_
    refine zco_p tkX12_stands_q2 5 1 (pc' := 219) (L' := [(0, .ref v0), (1, .int v1)]) (S' := [.ref v0]) rfl ?_
    refine zco_gr fl_12_134 rfl (zdk (cc := cX12_stands) (q := (219, .getfield 134, 3)) tkX12_stands_q2 6 rfl) (fun x2 => ?_)
    refine zco_p tkX12_stands_q2 7 4 (pc' := 227) (L' := [(0, .ref v0), (1, .int v1)]) (S' := [.int v1, .int (8 + v1), .ref x2]) rfl ?_
    refine zco_iastore (zdk (cc := cX12_stands) (q := (227, .iastore, 1)) tkX12_stands_q2 11 rfl) ?_
    refine zco_p tkX12_stands_q2 12 2 (pc' := 203) (L' := [(1, .int (v1 + 1)), (0, .ref v0)]) (S' := []) rfl ?_
    exact zco_sub [1, 0] rfl (hr203 (v1 + 1))
set_option maxHeartbeats 2000000 in
set_option maxRecDepth 20000 in
theorem coX12_stands_J201 (l : Launch) (e : Nat) (he : 0 ≤ e) (v0 : Nat) : zCo l (e + 1) 0 0 iX12_stands 201 [(0, .ref v0)] [] (X12_stands_J201 v0) := by
  unfold X12_stands_J201
  refine zco_p tkX12_stands_q1 57 2 (pc' := 203) (L' := [(1, .int 0), (0, .ref v0)]) (S' := []) rfl ?_
  exact zco_sub [1, 0] rfl (zco_fix (Lf := fun x : Int32 => [(0, .ref v0), (1, .int x)]) (Sf := fun _ => []) (fun r hr x => coX12_stands_B203 l e he v0 r hr x) zFU 0)
set_option maxHeartbeats 2000000 in
set_option maxRecDepth 20000 in
theorem coX12_stands_B181 (l : Launch) (e : Nat) (he : 0 ≤ e) (v0 : Nat) (r181 : Int32 → zM) (hr181 : ∀ x : Int32, zCo l (e + 1) 0 0 iX12_stands 181 [(0, .ref v0), (1, .int x)] [] (r181 x)) (v1 : Int32) : zCo l (e + 1) 0 0 iX12_stands 181 [(0, .ref v0), (1, .int v1)] [] (X12_stands_B181 v0 r181 v1) := by
  unfold X12_stands_B181
  refine zco_p tkX12_stands_q1 47 2 (pc' := 185) (L' := [(0, .ref v0), (1, .int v1)]) (S' := [.int 343, .int v1]) rfl ?_
  refine zco_icmp_ge (tgt := 201) (zdk (cc := cX12_stands) (q := (185, .if_icmp .ge 16, 3)) tkX12_stands_q1 49 rfl) rfl ?_ ?_
  · exact zco_sub [0] rfl (coX12_stands_J201 l e he v0)
  · refine zco_p tkX12_stands_q1 50 1 (pc' := 189) (L' := [(0, .ref v0), (1, .int v1)]) (S' := [.ref v0]) rfl ?_
    refine zco_gr fl_12_134 rfl (zdk (cc := cX12_stands) (q := (189, .getfield 134, 3)) tkX12_stands_q1 51 rfl) (fun x1 => ?_)
    refine zco_p tkX12_stands_q1 52 2 (pc' := 194) (L' := [(0, .ref v0), (1, .int v1)]) (S' := [.int 0, .int v1, .ref x1]) rfl ?_
    refine zco_iastore (zdk (cc := cX12_stands) (q := (194, .iastore, 1)) tkX12_stands_q1 54 rfl) ?_
    refine zco_p tkX12_stands_q1 55 2 (pc' := 181) (L' := [(1, .int (v1 + 1)), (0, .ref v0)]) (S' := []) rfl ?_
    exact zco_sub [1, 0] rfl (hr181 (v1 + 1))
set_option maxHeartbeats 2000000 in
set_option maxRecDepth 20000 in
theorem coX12_stands_J179 (l : Launch) (e : Nat) (he : 0 ≤ e) (v0 : Nat) : zCo l (e + 1) 0 0 iX12_stands 179 [(0, .ref v0)] [] (X12_stands_J179 v0) := by
  unfold X12_stands_J179
  refine zco_p tkX12_stands_q1 45 2 (pc' := 181) (L' := [(1, .int 0), (0, .ref v0)]) (S' := []) rfl ?_
  exact zco_sub [1, 0] rfl (zco_fix (Lf := fun x : Int32 => [(0, .ref v0), (1, .int x)]) (Sf := fun _ => []) (fun r hr x => coX12_stands_B181 l e he v0 r hr x) zFU 0)
set_option maxHeartbeats 2000000 in
set_option maxRecDepth 20000 in
theorem coX12_stands_B149 (l : Launch) (e : Nat) (he : 0 ≤ e) (v0 : Nat) (r149 : Int32 → zM) (hr149 : ∀ x : Int32, zCo l (e + 1) 0 0 iX12_stands 149 [(0, .ref v0), (1, .int x)] [] (r149 x)) (v1 : Int32) : zCo l (e + 1) 0 0 iX12_stands 149 [(0, .ref v0), (1, .int v1)] [] (X12_stands_B149 v0 r149 v1) := by
  unfold X12_stands_B149
  refine zco_p tkX12_stands_q1 29 2 (pc' := 151) (L' := [(0, .ref v0), (1, .int v1)]) (S' := [.ref v0, .int v1]) rfl ?_
  refine zco_gi fl_12_371 rfl (zdk (cc := cX12_stands) (q := (151, .getfield 371, 3)) tkX12_stands_q1 31 rfl) (fun x1 => ?_)
  refine zco_icmp_ge (tgt := 179) (zdk (cc := cX12_stands) (q := (154, .if_icmp .ge 25, 3)) tkX12_stands_q1 32 rfl) rfl ?_ ?_
  · exact zco_sub [0] rfl (coX12_stands_J179 l e he v0)
  · refine zco_p tkX12_stands_q1 33 1 (pc' := 158) (L' := [(0, .ref v0), (1, .int v1)]) (S' := [.ref v0]) rfl ?_
    refine zco_gr fl_12_131 rfl (zdk (cc := cX12_stands) (q := (158, .getfield 131, 3)) tkX12_stands_q1 34 rfl) (fun x2 => ?_)
    refine zco_p tkX12_stands_q1 35 4 (pc' := 167) (L' := [(0, .ref v0), (1, .int v1)]) (S' := [.ref v0, .int (1600 + v1), .ref x2]) rfl ?_
    refine zco_gr fl_12_131 rfl (zdk (cc := cX12_stands) (q := (167, .getfield 131, 3)) tkX12_stands_q1 39 rfl) (fun x3 => ?_)
    refine zco_p tkX12_stands_q1 40 1 (pc' := 171) (L' := [(0, .ref v0), (1, .int v1)]) (S' := [.int v1, .ref x3, .int (1600 + v1), .ref x2]) rfl ?_
    refine zco_iaload (zdk (cc := cX12_stands) (q := (171, .iaload, 1)) tkX12_stands_q1 41 rfl) (fun x4 => ?_)
    refine zco_iastore (zdk (cc := cX12_stands) (q := (172, .iastore, 1)) tkX12_stands_q1 42 rfl) ?_
    refine zco_p tkX12_stands_q1 43 2 (pc' := 149) (L' := [(1, .int (v1 + 1)), (0, .ref v0)]) (S' := []) rfl ?_
    exact zco_sub [1, 0] rfl (hr149 (v1 + 1))
set_option maxHeartbeats 2000000 in
set_option maxRecDepth 20000 in
theorem coX12_stands_J147 (l : Launch) (e : Nat) (he : 0 ≤ e) (v0 : Nat) : zCo l (e + 1) 0 0 iX12_stands 147 [(0, .ref v0)] [] (X12_stands_J147 v0) := by
  unfold X12_stands_J147
  refine zco_p tkX12_stands_q1 27 2 (pc' := 149) (L' := [(1, .int 0), (0, .ref v0)]) (S' := []) rfl ?_
  exact zco_sub [1, 0] rfl (zco_fix (Lf := fun x : Int32 => [(0, .ref v0), (1, .int x)]) (Sf := fun _ => []) (fun r hr x => coX12_stands_B149 l e he v0 r hr x) zFU 0)
set_option maxHeartbeats 2000000 in
set_option maxRecDepth 20000 in
theorem coX12_stands_B105 (l : Launch) (e : Nat) (he : 0 ≤ e) (v0 : Nat) (r105 : Int32 → zM) (hr105 : ∀ x : Int32, zCo l (e + 1) 0 0 iX12_stands 105 [(0, .ref v0), (1, .int x)] [] (r105 x)) (v1 : Int32) : zCo l (e + 1) 0 0 iX12_stands 105 [(0, .ref v0), (1, .int v1)] [] (X12_stands_B105 v0 r105 v1) := by
  unfold X12_stands_B105
  refine zco_p tkX12_stands_q1 2 2 (pc' := 108) (L' := [(0, .ref v0), (1, .int v1)]) (S' := [.int 36, .int v1]) rfl ?_
  refine zco_icmp_ge (tgt := 147) (zdk (cc := cX12_stands) (q := (108, .if_icmp .ge 39, 3)) tkX12_stands_q1 4 rfl) rfl ?_ ?_
  · exact zco_sub [0] rfl (coX12_stands_J147 l e he v0)
  · refine zco_p tkX12_stands_q1 5 1 (pc' := 112) (L' := [(0, .ref v0), (1, .int v1)]) (S' := [.ref v0]) rfl ?_
    refine zco_gr fl_12_112 rfl (zdk (cc := cX12_stands) (q := (112, .getfield 112, 3)) tkX12_stands_q1 6 rfl) (fun x1 => ?_)
    refine zco_p tkX12_stands_q1 7 4 (pc' := 120) (L' := [(0, .ref v0), (1, .int v1)]) (S' := [.ref v0, .int (36 + v1), .ref x1]) rfl ?_
    refine zco_gr fl_12_112 rfl (zdk (cc := cX12_stands) (q := (120, .getfield 112, 3)) tkX12_stands_q1 11 rfl) (fun x2 => ?_)
    refine zco_p tkX12_stands_q1 12 1 (pc' := 124) (L' := [(0, .ref v0), (1, .int v1)]) (S' := [.int v1, .ref x2, .int (36 + v1), .ref x1]) rfl ?_
    refine zco_iaload (zdk (cc := cX12_stands) (q := (124, .iaload, 1)) tkX12_stands_q1 13 rfl) (fun x3 => ?_)
    refine zco_iastore (zdk (cc := cX12_stands) (q := (125, .iastore, 1)) tkX12_stands_q1 14 rfl) ?_
    refine zco_p tkX12_stands_q1 15 1 (pc' := 127) (L' := [(0, .ref v0), (1, .int v1)]) (S' := [.ref v0]) rfl ?_
    refine zco_gr fl_12_115 rfl (zdk (cc := cX12_stands) (q := (127, .getfield 115, 3)) tkX12_stands_q1 16 rfl) (fun x4 => ?_)
    refine zco_p tkX12_stands_q1 17 4 (pc' := 135) (L' := [(0, .ref v0), (1, .int v1)]) (S' := [.ref v0, .int (36 + v1), .ref x4]) rfl ?_
    refine zco_gr fl_12_115 rfl (zdk (cc := cX12_stands) (q := (135, .getfield 115, 3)) tkX12_stands_q1 21 rfl) (fun x5 => ?_)
    refine zco_p tkX12_stands_q1 22 1 (pc' := 139) (L' := [(0, .ref v0), (1, .int v1)]) (S' := [.int v1, .ref x5, .int (36 + v1), .ref x4]) rfl ?_
    refine zco_baload (zdk (cc := cX12_stands) (q := (139, .baload, 1)) tkX12_stands_q1 23 rfl) (fun x6 => ?_)
    refine zco_bastore (zdk (cc := cX12_stands) (q := (140, .bastore, 1)) tkX12_stands_q1 24 rfl) ?_
    refine zco_p tkX12_stands_q1 25 2 (pc' := 105) (L' := [(1, .int (v1 + 1)), (0, .ref v0)]) (S' := []) rfl ?_
    exact zco_sub [1, 0] rfl (hr105 (v1 + 1))
set_option maxHeartbeats 2000000 in
set_option maxRecDepth 20000 in
theorem coX12_stands_J103 (l : Launch) (e : Nat) (he : 0 ≤ e) (v0 : Nat) : zCo l (e + 1) 0 0 iX12_stands 103 [(0, .ref v0)] [] (X12_stands_J103 v0) := by
  unfold X12_stands_J103
  refine zco_p tkX12_stands_q1 0 2 (pc' := 105) (L' := [(1, .int 0), (0, .ref v0)]) (S' := []) rfl ?_
  exact zco_sub [1, 0] rfl (zco_fix (Lf := fun x : Int32 => [(0, .ref v0), (1, .int x)]) (Sf := fun _ => []) (fun r hr x => coX12_stands_B105 l e he v0 r hr x) zFU 0)
set_option maxHeartbeats 2000000 in
set_option maxRecDepth 20000 in
theorem coX12_stands_B76 (l : Launch) (e : Nat) (he : 0 ≤ e) (v0 : Nat) (r76 : Int32 → zM) (hr76 : ∀ x : Int32, zCo l (e + 1) 0 0 iX12_stands 76 [(0, .ref v0), (1, .int x)] [] (r76 x)) (v1 : Int32) : zCo l (e + 1) 0 0 iX12_stands 76 [(0, .ref v0), (1, .int v1)] [] (X12_stands_B76 v0 r76 v1) := by
  unfold X12_stands_B76
  refine zco_p tkX12_stands_q0 49 2 (pc' := 79) (L' := [(0, .ref v0), (1, .int v1)]) (S' := [.int 12, .int v1]) rfl ?_
  refine zco_icmp_ge (tgt := 103) (zdk (cc := cX12_stands) (q := (79, .if_icmp .ge 24, 3)) tkX12_stands_q0 51 rfl) rfl ?_ ?_
  · exact zco_sub [0] rfl (coX12_stands_J103 l e he v0)
  · refine zco_p tkX12_stands_q0 52 1 (pc' := 83) (L' := [(0, .ref v0), (1, .int v1)]) (S' := [.ref v0]) rfl ?_
    refine zco_gr fl_12_108 rfl (zdk (cc := cX12_stands) (q := (83, .getfield 108, 3)) tkX12_stands_q0 53 rfl) (fun x1 => ?_)
    refine zco_p tkX12_stands_q0 54 4 (pc' := 91) (L' := [(0, .ref v0), (1, .int v1)]) (S' := [.ref v0, .int (12 + v1), .ref x1]) rfl ?_
    refine zco_gr fl_12_108 rfl (zdk (cc := cX12_stands) (q := (91, .getfield 108, 3)) tkX12_stands_q0 58 rfl) (fun x2 => ?_)
    refine zco_p tkX12_stands_q0 59 1 (pc' := 95) (L' := [(0, .ref v0), (1, .int v1)]) (S' := [.int v1, .ref x2, .int (12 + v1), .ref x1]) rfl ?_
    refine zco_laload (zdk (cc := cX12_stands) (q := (95, .laload, 1)) tkX12_stands_q0 60 rfl) (fun x3 => ?_)
    refine zco_lastore (zdk (cc := cX12_stands) (q := (96, .lastore, 1)) tkX12_stands_q0 61 rfl) ?_
    refine zco_p tkX12_stands_q0 62 2 (pc' := 76) (L' := [(1, .int (v1 + 1)), (0, .ref v0)]) (S' := []) rfl ?_
    exact zco_sub [1, 0] rfl (hr76 (v1 + 1))
set_option maxHeartbeats 2000000 in
set_option maxRecDepth 20000 in
theorem coX12_stands_J74 (l : Launch) (e : Nat) (he : 0 ≤ e) (v0 : Nat) : zCo l (e + 1) 0 0 iX12_stands 74 [(0, .ref v0)] [] (X12_stands_J74 v0) := by
  unfold X12_stands_J74
  refine zco_p tkX12_stands_q0 47 2 (pc' := 76) (L' := [(1, .int 0), (0, .ref v0)]) (S' := []) rfl ?_
  exact zco_sub [1, 0] rfl (zco_fix (Lf := fun x : Int32 => [(0, .ref v0), (1, .int x)]) (Sf := fun _ => []) (fun r hr x => coX12_stands_B76 l e he v0 r hr x) zFU 0)
set_option maxHeartbeats 2000000 in
set_option maxRecDepth 20000 in
theorem coX12_stands_B35 (l : Launch) (e : Nat) (he : 0 ≤ e) (v0 : Nat) (r35 : Int32 → zM) (hr35 : ∀ x : Int32, zCo l (e + 1) 0 0 iX12_stands 35 [(0, .ref v0), (1, .int x)] [] (r35 x)) (v1 : Int32) : zCo l (e + 1) 0 0 iX12_stands 35 [(0, .ref v0), (1, .int v1)] [] (X12_stands_B35 v0 r35 v1) := by
  unfold X12_stands_B35
  refine zco_p tkX12_stands_q0 22 2 (pc' := 37) (L' := [(0, .ref v0), (1, .int v1)]) (S' := [.int 3, .int v1]) rfl ?_
  refine zco_icmp_ge (tgt := 74) (zdk (cc := cX12_stands) (q := (37, .if_icmp .ge 37, 3)) tkX12_stands_q0 24 rfl) rfl ?_ ?_
  · exact zco_sub [0] rfl (coX12_stands_J74 l e he v0)
  · refine zco_p tkX12_stands_q0 25 1 (pc' := 41) (L' := [(0, .ref v0), (1, .int v1)]) (S' := [.ref v0]) rfl ?_
    refine zco_gr fl_12_125 rfl (zdk (cc := cX12_stands) (q := (41, .getfield 125, 3)) tkX12_stands_q0 26 rfl) (fun x1 => ?_)
    refine zco_p tkX12_stands_q0 27 4 (pc' := 48) (L' := [(0, .ref v0), (1, .int v1)]) (S' := [.ref v0, .int (3 + v1), .ref x1]) rfl ?_
    refine zco_gr fl_12_125 rfl (zdk (cc := cX12_stands) (q := (48, .getfield 125, 3)) tkX12_stands_q0 31 rfl) (fun x2 => ?_)
    refine zco_p tkX12_stands_q0 32 1 (pc' := 52) (L' := [(0, .ref v0), (1, .int v1)]) (S' := [.int v1, .ref x2, .int (3 + v1), .ref x1]) rfl ?_
    refine zco_iaload (zdk (cc := cX12_stands) (q := (52, .iaload, 1)) tkX12_stands_q0 33 rfl) (fun x3 => ?_)
    refine zco_iastore (zdk (cc := cX12_stands) (q := (53, .iastore, 1)) tkX12_stands_q0 34 rfl) ?_
    refine zco_p tkX12_stands_q0 35 1 (pc' := 55) (L' := [(0, .ref v0), (1, .int v1)]) (S' := [.ref v0]) rfl ?_
    refine zco_gr fl_12_128 rfl (zdk (cc := cX12_stands) (q := (55, .getfield 128, 3)) tkX12_stands_q0 36 rfl) (fun x4 => ?_)
    refine zco_p tkX12_stands_q0 37 4 (pc' := 62) (L' := [(0, .ref v0), (1, .int v1)]) (S' := [.ref v0, .int (3 + v1), .ref x4]) rfl ?_
    refine zco_gr fl_12_128 rfl (zdk (cc := cX12_stands) (q := (62, .getfield 128, 3)) tkX12_stands_q0 41 rfl) (fun x5 => ?_)
    refine zco_p tkX12_stands_q0 42 1 (pc' := 66) (L' := [(0, .ref v0), (1, .int v1)]) (S' := [.int v1, .ref x5, .int (3 + v1), .ref x4]) rfl ?_
    refine zco_iaload (zdk (cc := cX12_stands) (q := (66, .iaload, 1)) tkX12_stands_q0 43 rfl) (fun x6 => ?_)
    refine zco_iastore (zdk (cc := cX12_stands) (q := (67, .iastore, 1)) tkX12_stands_q0 44 rfl) ?_
    refine zco_p tkX12_stands_q0 45 2 (pc' := 35) (L' := [(1, .int (v1 + 1)), (0, .ref v0)]) (S' := []) rfl ?_
    exact zco_sub [1, 0] rfl (hr35 (v1 + 1))
set_option maxHeartbeats 2000000 in
set_option maxRecDepth 20000 in
theorem coX12_stands_J33 (l : Launch) (e : Nat) (he : 0 ≤ e) (v0 : Nat) : zCo l (e + 1) 0 0 iX12_stands 33 [(0, .ref v0)] [] (X12_stands_J33 v0) := by
  unfold X12_stands_J33
  refine zco_p tkX12_stands_q0 20 2 (pc' := 35) (L' := [(1, .int 0), (0, .ref v0)]) (S' := []) rfl ?_
  exact zco_sub [1, 0] rfl (zco_fix (Lf := fun x : Int32 => [(0, .ref v0), (1, .int x)]) (Sf := fun _ => []) (fun r hr x => coX12_stands_B35 l e he v0 r hr x) zFU 0)
set_option maxHeartbeats 2000000 in
set_option maxRecDepth 20000 in
theorem coX12_stands_B7 (l : Launch) (e : Nat) (he : 0 ≤ e) (v0 : Nat) (r7 : Int32 → zM) (hr7 : ∀ x : Int32, zCo l (e + 1) 0 0 iX12_stands 7 [(0, .ref v0), (1, .int x)] [] (r7 x)) (v1 : Int32) : zCo l (e + 1) 0 0 iX12_stands 7 [(0, .ref v0), (1, .int v1)] [] (X12_stands_B7 v0 r7 v1) := by
  unfold X12_stands_B7
  refine zco_p tkX12_stands_q0 5 2 (pc' := 9) (L' := [(0, .ref v0), (1, .int v1)]) (S' := [.int 5, .int v1]) rfl ?_
  refine zco_icmp_ge (tgt := 33) (zdk (cc := cX12_stands) (q := (9, .if_icmp .ge 24, 3)) tkX12_stands_q0 7 rfl) rfl ?_ ?_
  · exact zco_sub [0] rfl (coX12_stands_J33 l e he v0)
  · refine zco_p tkX12_stands_q0 8 1 (pc' := 13) (L' := [(0, .ref v0), (1, .int v1)]) (S' := [.ref v0]) rfl ?_
    refine zco_gr fl_12_105 rfl (zdk (cc := cX12_stands) (q := (13, .getfield 105, 3)) tkX12_stands_q0 9 rfl) (fun x1 => ?_)
    refine zco_p tkX12_stands_q0 10 4 (pc' := 21) (L' := [(0, .ref v0), (1, .int v1)]) (S' := [.ref v0, .int (6 + v1), .ref x1]) rfl ?_
    refine zco_gr fl_12_105 rfl (zdk (cc := cX12_stands) (q := (21, .getfield 105, 3)) tkX12_stands_q0 14 rfl) (fun x2 => ?_)
    refine zco_p tkX12_stands_q0 15 1 (pc' := 25) (L' := [(0, .ref v0), (1, .int v1)]) (S' := [.int v1, .ref x2, .int (6 + v1), .ref x1]) rfl ?_
    refine zco_iaload (zdk (cc := cX12_stands) (q := (25, .iaload, 1)) tkX12_stands_q0 16 rfl) (fun x3 => ?_)
    refine zco_iastore (zdk (cc := cX12_stands) (q := (26, .iastore, 1)) tkX12_stands_q0 17 rfl) ?_
    refine zco_p tkX12_stands_q0 18 2 (pc' := 7) (L' := [(1, .int (v1 + 1)), (0, .ref v0)]) (S' := []) rfl ?_
    exact zco_sub [1, 0] rfl (hr7 (v1 + 1))
set_option maxHeartbeats 2000000 in
set_option maxRecDepth 20000 in
theorem coX12_stands (l : Launch) (e : Nat) (he : 0 ≤ e) (v0 : Nat) : zCo l (e + 1) 0 0 iX12_stands 0 [(0, .ref v0)] [] (X12_stands v0) := by
  unfold X12_stands
  refine zco_p tkX12_stands_q0 0 2 (pc' := 2) (L' := [(0, .ref v0)]) (S' := [.int 1, .ref v0]) rfl ?_
  refine zco_pb fl_12_406 rfl rfl (zdk (cc := cX12_stands) (q := (2, .putfield 406, 3)) tkX12_stands_q0 2 rfl) ?_
  refine zco_p tkX12_stands_q0 3 2 (pc' := 7) (L' := [(1, .int 0), (0, .ref v0)]) (S' := []) rfl ?_
  exact zco_sub [1, 0] rfl (zco_fix (Lf := fun x : Int32 => [(0, .ref v0), (1, .int x)]) (Sf := fun _ => []) (fun r hr x => coX12_stands_B7 l e he v0 r hr x) zFU 0)
theorem mtX12_stands (l : Launch) (d : Nat) (hd : 1 ≤ d) (v0 : Nat) : zMet l d 0 0 yX12_stands cX12_stands 2 (Option.none : Option FieldType) [.ref v0] (X12_stands v0) := by
  obtain ⟨e, rfl⟩ : ∃ e, d = e + 1 := ⟨d - 1, by omega⟩
  exact zmet_of (own := RX12) (ini := false) (by decide +kernel) rfl (fun _ => by contradiction) (Nat.le_of_ble_eq_true rfl) (coX12_stands l e (by omega) v0)
abbrev iX12_church : zI := (RX12, cX12_church, 2, (Option.some .int), false)
def tX12_church : List (Nat × Instr × Nat) := [(0, .aload_n 0, 1), (1, .aload_n 0, 1), (2, .getfield 267, 3), (5, .putfield 279, 3), (8, .aload_n 0, 1), (9, .iconst 0, 1), (10, .putfield 267, 3), (13, .aload_n 0, 1), (14, .iconst 0, 1), (15, .putfield 276, 3), (18, .aload_n 0, 1), (19, .iconst (-1), 1), (20, .putfield 290, 3), (23, .aload_n 0, 1), (24, .iconst 0, 1), (25, .putfield 270, 3), (28, .aload_n 0, 1), (29, .iconst (-1), 1), (30, .putfield 273, 3), (33, .aload_n 0, 1), (34, .iconst 0, 1), (35, .putfield 371, 3), (38, .iconst 0, 1), (39, .istore_n 1, 1), (40, .iload_n 1, 1), (41, .iconst 5, 1), (42, .if_icmp .ge 25, 3), (45, .aload_n 0, 1), (46, .getfield 105, 3), (49, .iload_n 1, 1), (50, .iload_n 1, 1), (51, .iconst 3, 1), (52, .if_icmp .ne 7, 3), (55, .iconst 3, 1), (56, .goto 4, 3), (59, .iconst 0, 1), (60, .iastore, 1), (61, .iinc 1 1, 3), (64, .goto (-24), 3), (67, .iconst 0, 1), (68, .istore_n 1, 1), (69, .iload_n 1, 1), (70, .bipush 72, 2), (72, .if_icmp .ge 36, 3), (75, .iload_n 1, 1), (76, .bipush 36, 2), (78, .if_icmp .ge 10, 3), (81, .aload_n 0, 1), (82, .getfield 115, 3), (85, .iload_n 1, 1), (86, .iconst 0, 1), (87, .bastore, 1), (88, .aload_n 0, 1), (89, .getfield 119, 3), (92, .iload_n 1, 1), (93, .iconst 5, 1), (94, .iastore, 1), (95, .aload_n 0, 1), (96, .getfield 122, 3), (99, .iload_n 1, 1), (100, .iconst 0, 1), (101, .iastore, 1), (102, .iinc 1 1, 3), (105, .goto (-36), 3), (108, .iconst 0, 1), (109, .istore_n 1, 1), (110, .iload_n 1, 1), (111, .iconst 3, 1), (112, .if_icmp .ge 16, 3), (115, .aload_n 0, 1), (116, .getfield 125, 3), (119, .iload_n 1, 1), (120, .iconst (-1), 1), (121, .iastore, 1), (122, .iinc 1 1, 3), (125, .goto (-15), 3), (128, .aload_n 0, 1), (129, .iconst 0, 1), (130, .putfield 374, 3), (133, .aload_n 0, 1), (134, .getfield 270, 3), (137, .ifCond .ne 18, 3), (140, .aload_n 0, 1), (141, .invokevirtual 282, 3), (144, .iconst (-1), 1), (145, .if_icmp .eq 10, 3), (148, .aload_n 0, 1), (149, .invokevirtual 394, 3), (152, .goto (-19), 3), (155, .aload_n 0, 1), (156, .aload_n 0, 1), (157, .getfield 270, 3), (160, .putfield 397, 3), (163, .aload_n 0, 1), (164, .aload_n 0, 1), (165, .getfield 273, 3), (168, .putfield 13, 3), (171, .aload_n 0, 1), (172, .getfield 270, 3), (175, .ifCond .eq 9, 3), (178, .aload_n 0, 1), (179, .iconst 1, 1), (180, .invokevirtual 400, 3), (183, .ireturn, 1), (184, .aload_n 0, 1), (185, .invokevirtual 403, 3), (188, .aload_n 0, 1), (189, .getfield 374, 3), (192, .ireturn, 1)]
set_option maxRecDepth 100000 in
theorem tkX12_church : ∀ q ∈ tX12_church, decode cX12_church q.1 = .ok q.2 := by decide +kernel
theorem vmX12_church : zVM yX12_church cX12_church 2 (Option.some .int) 0 12 := ⟨kX12_church, q_1748, q_1749, q_162, ⟨_, rfl, rfl⟩, by decide +kernel, by decide⟩
set_option maxHeartbeats 2000000 in
set_option maxRecDepth 20000 in
theorem coX12_church_J155 (l : Launch) (e : Nat) (he : 11 ≤ e) (v0 : Nat) : zCo l (e + 1) 0 0 iX12_church 155 [(0, .ref v0)] [] (X12_church_J155 v0) := by
  unfold X12_church_J155
  refine zco_p tkX12_church 89 2 (pc' := 157) (L' := [(0, .ref v0)]) (S' := [.ref v0, .ref v0]) rfl ?_
  refine zco_gi fl_12_270 rfl (zdk (cc := cX12_church) (q := (157, .getfield 270, 3)) tkX12_church 91 rfl) (fun x1 => ?_)
  refine zco_pi fl_12_397 rfl rfl (zdk (cc := cX12_church) (q := (160, .putfield 397, 3)) tkX12_church 92 rfl) ?_
  refine zco_p tkX12_church 93 2 (pc' := 165) (L' := [(0, .ref v0)]) (S' := [.ref v0, .ref v0]) rfl ?_
  refine zco_gi fl_12_273 rfl (zdk (cc := cX12_church) (q := (165, .getfield 273, 3)) tkX12_church 95 rfl) (fun x2 => ?_)
  refine zco_pi fl_12_13 rfl rfl (zdk (cc := cX12_church) (q := (168, .putfield 13, 3)) tkX12_church 96 rfl) ?_
  refine zco_p tkX12_church 97 1 (pc' := 172) (L' := [(0, .ref v0)]) (S' := [.ref v0]) rfl ?_
  refine zco_gi fl_12_270 rfl (zdk (cc := cX12_church) (q := (172, .getfield 270, 3)) tkX12_church 98 rfl) (fun x3 => ?_)
  refine zco_if_eq (tgt := 184) (zdk (cc := cX12_church) (q := (175, .ifCond .eq 9, 3)) tkX12_church 99 rfl) rfl ?_ ?_
  · refine zco_p tkX12_church 104 1 (pc' := 185) (L' := [(0, .ref v0)]) (S' := [.ref v0]) rfl ?_
    refine zco_Vv (rc := 0) (rs := 0) (mc := 0) (ms := 0) (As := []) (S := []) vmX12_stands (mtX12_stands l e (by omega) v0) q_1912 rfl rfl (Nat.le_of_ble_eq_true rfl) (zdk (cc := cX12_church) (q := (185, .invokevirtual 403, 3)) tkX12_church 105 rfl) ?_
    refine zco_p tkX12_church 106 1 (pc' := 189) (L' := [(0, .ref v0)]) (S' := [.ref v0]) rfl ?_
    refine zco_gi fl_12_374 rfl (zdk (cc := cX12_church) (q := (189, .getfield 374, 3)) tkX12_church 107 rfl) (fun x4 => ?_)
    exact zco_iret rfl rfl rfl (zdk (cc := cX12_church) (q := (192, .ireturn, 1)) tkX12_church 108 rfl)
  · refine zco_p tkX12_church 100 2 (pc' := 180) (L' := [(0, .ref v0)]) (S' := [.int 1, .ref v0]) rfl ?_
    refine zco_Vi (rc := 0) (rs := 0) (mc := 0) (ms := 0) (As := [.int 1]) (S := []) vmX12_refuses (mtX12_refuses l e (by omega) v0 1) q_1908 rfl rfl (Nat.le_of_ble_eq_true rfl) (zdk (cc := cX12_church) (q := (180, .invokevirtual 400, 3)) tkX12_church 102 rfl) (fun y5 => ?_)
    exact zco_iret rfl rfl rfl (zdk (cc := cX12_church) (q := (183, .ireturn, 1)) tkX12_church 103 rfl)
set_option maxHeartbeats 2000000 in
set_option maxRecDepth 20000 in
theorem coX12_church_B133 (l : Launch) (e : Nat) (he : 11 ≤ e) (v0 : Nat) (r133 : Unit → zM) (hr133 : ∀ x : Unit, zCo l (e + 1) 0 0 iX12_church 133 [(0, .ref v0)] [] (r133 x)) : zCo l (e + 1) 0 0 iX12_church 133 [(0, .ref v0)] [] (X12_church_B133 v0 r133) := by
  unfold X12_church_B133
  refine zco_p tkX12_church 79 1 (pc' := 134) (L' := [(0, .ref v0)]) (S' := [.ref v0]) rfl ?_
  refine zco_gi fl_12_270 rfl (zdk (cc := cX12_church) (q := (134, .getfield 270, 3)) tkX12_church 80 rfl) (fun x1 => ?_)
  refine zco_if_ne (tgt := 155) (zdk (cc := cX12_church) (q := (137, .ifCond .ne 18, 3)) tkX12_church 81 rfl) rfl ?_ ?_
  · exact zco_sub [0] rfl (coX12_church_J155 l e he v0)
  · refine zco_p tkX12_church 82 1 (pc' := 141) (L' := [(0, .ref v0)]) (S' := [.ref v0]) rfl ?_
    refine zco_Vi (rc := 0) (rs := 0) (mc := 0) (ms := 0) (As := []) (S := []) vmX12_look (mtX12_look l e (by omega) v0) q_1751 rfl rfl (Nat.le_of_ble_eq_true rfl) (zdk (cc := cX12_church) (q := (141, .invokevirtual 282, 3)) tkX12_church 83 rfl) (fun y2 => ?_)
    refine zco_p tkX12_church 84 1 (pc' := 145) (L' := [(0, .ref v0)]) (S' := [.int ((-1)), .int y2]) rfl ?_
    refine zco_icmp_eq (tgt := 155) (zdk (cc := cX12_church) (q := (145, .if_icmp .eq 10, 3)) tkX12_church 85 rfl) rfl ?_ ?_
    · exact zco_sub [0] rfl (coX12_church_J155 l e he v0)
    · refine zco_p tkX12_church 86 1 (pc' := 149) (L' := [(0, .ref v0)]) (S' := [.ref v0]) rfl ?_
      refine zco_Vv (rc := 0) (rs := 0) (mc := 0) (ms := 0) (As := []) (S := []) vmX12_statementTold (mtX12_statementTold l e (by omega) v0) q_1755 rfl rfl (Nat.le_of_ble_eq_true rfl) (zdk (cc := cX12_church) (q := (149, .invokevirtual 394, 3)) tkX12_church 87 rfl) ?_
      refine zco_p tkX12_church 88 1 (pc' := 133) (L' := [(0, .ref v0)]) (S' := []) rfl ?_
      exact zco_sub [0] rfl (hr133 (()))
set_option maxHeartbeats 2000000 in
set_option maxRecDepth 20000 in
theorem coX12_church_J128 (l : Launch) (e : Nat) (he : 11 ≤ e) (v0 : Nat) : zCo l (e + 1) 0 0 iX12_church 128 [(0, .ref v0)] [] (X12_church_J128 v0) := by
  unfold X12_church_J128
  refine zco_p tkX12_church 76 2 (pc' := 130) (L' := [(0, .ref v0)]) (S' := [.int 0, .ref v0]) rfl ?_
  refine zco_pi fl_12_374 rfl rfl (zdk (cc := cX12_church) (q := (130, .putfield 374, 3)) tkX12_church 78 rfl) ?_
  exact zco_sub [0] rfl (zco_fix (Lf := fun x : Unit => [(0, .ref v0)]) (Sf := fun _ => []) (fun r hr x => coX12_church_B133 l e he v0 r hr ) zFU (()))
set_option maxHeartbeats 2000000 in
set_option maxRecDepth 20000 in
theorem coX12_church_B110 (l : Launch) (e : Nat) (he : 11 ≤ e) (v0 : Nat) (r110 : Int32 → zM) (hr110 : ∀ x : Int32, zCo l (e + 1) 0 0 iX12_church 110 [(0, .ref v0), (1, .int x)] [] (r110 x)) (v1 : Int32) : zCo l (e + 1) 0 0 iX12_church 110 [(0, .ref v0), (1, .int v1)] [] (X12_church_B110 v0 r110 v1) := by
  unfold X12_church_B110
  refine zco_p tkX12_church 66 2 (pc' := 112) (L' := [(0, .ref v0), (1, .int v1)]) (S' := [.int 3, .int v1]) rfl ?_
  refine zco_icmp_ge (tgt := 128) (zdk (cc := cX12_church) (q := (112, .if_icmp .ge 16, 3)) tkX12_church 68 rfl) rfl ?_ ?_
  · exact zco_sub [0] rfl (coX12_church_J128 l e he v0)
  · refine zco_p tkX12_church 69 1 (pc' := 116) (L' := [(0, .ref v0), (1, .int v1)]) (S' := [.ref v0]) rfl ?_
    refine zco_gr fl_12_125 rfl (zdk (cc := cX12_church) (q := (116, .getfield 125, 3)) tkX12_church 70 rfl) (fun x1 => ?_)
    refine zco_p tkX12_church 71 2 (pc' := 121) (L' := [(0, .ref v0), (1, .int v1)]) (S' := [.int ((-1)), .int v1, .ref x1]) rfl ?_
    refine zco_iastore (zdk (cc := cX12_church) (q := (121, .iastore, 1)) tkX12_church 73 rfl) ?_
    refine zco_p tkX12_church 74 2 (pc' := 110) (L' := [(1, .int (v1 + 1)), (0, .ref v0)]) (S' := []) rfl ?_
    exact zco_sub [1, 0] rfl (hr110 (v1 + 1))
set_option maxHeartbeats 2000000 in
set_option maxRecDepth 20000 in
theorem coX12_church_J108 (l : Launch) (e : Nat) (he : 11 ≤ e) (v0 : Nat) : zCo l (e + 1) 0 0 iX12_church 108 [(0, .ref v0)] [] (X12_church_J108 v0) := by
  unfold X12_church_J108
  refine zco_p tkX12_church 64 2 (pc' := 110) (L' := [(1, .int 0), (0, .ref v0)]) (S' := []) rfl ?_
  exact zco_sub [1, 0] rfl (zco_fix (Lf := fun x : Int32 => [(0, .ref v0), (1, .int x)]) (Sf := fun _ => []) (fun r hr x => coX12_church_B110 l e he v0 r hr x) zFU 0)
set_option maxHeartbeats 2000000 in
set_option maxRecDepth 20000 in
theorem coX12_church_J88 (l : Launch) (e : Nat) (he : 11 ≤ e) (v0 : Nat) (v1 : Int32) (r69 : Int32 → zM) (hr69 : ∀ x : Int32, zCo l (e + 1) 0 0 iX12_church 69 [(0, .ref v0), (1, .int x)] [] (r69 x)) : zCo l (e + 1) 0 0 iX12_church 88 [(0, .ref v0), (1, .int v1)] [] (X12_church_J88 r69 v0 v1) := by
  unfold X12_church_J88
  refine zco_p tkX12_church 52 1 (pc' := 89) (L' := [(0, .ref v0), (1, .int v1)]) (S' := [.ref v0]) rfl ?_
  refine zco_gr fl_12_119 rfl (zdk (cc := cX12_church) (q := (89, .getfield 119, 3)) tkX12_church 53 rfl) (fun x1 => ?_)
  refine zco_p tkX12_church 54 2 (pc' := 94) (L' := [(0, .ref v0), (1, .int v1)]) (S' := [.int 5, .int v1, .ref x1]) rfl ?_
  refine zco_iastore (zdk (cc := cX12_church) (q := (94, .iastore, 1)) tkX12_church 56 rfl) ?_
  refine zco_p tkX12_church 57 1 (pc' := 96) (L' := [(0, .ref v0), (1, .int v1)]) (S' := [.ref v0]) rfl ?_
  refine zco_gr fl_12_122 rfl (zdk (cc := cX12_church) (q := (96, .getfield 122, 3)) tkX12_church 58 rfl) (fun x2 => ?_)
  refine zco_p tkX12_church 59 2 (pc' := 101) (L' := [(0, .ref v0), (1, .int v1)]) (S' := [.int 0, .int v1, .ref x2]) rfl ?_
  refine zco_iastore (zdk (cc := cX12_church) (q := (101, .iastore, 1)) tkX12_church 61 rfl) ?_
  refine zco_p tkX12_church 62 2 (pc' := 69) (L' := [(1, .int (v1 + 1)), (0, .ref v0)]) (S' := []) rfl ?_
  exact zco_sub [1, 0] rfl (hr69 (v1 + 1))
set_option maxHeartbeats 2000000 in
set_option maxRecDepth 20000 in
theorem coX12_church_B69 (l : Launch) (e : Nat) (he : 11 ≤ e) (v0 : Nat) (r69 : Int32 → zM) (hr69 : ∀ x : Int32, zCo l (e + 1) 0 0 iX12_church 69 [(0, .ref v0), (1, .int x)] [] (r69 x)) (v1 : Int32) : zCo l (e + 1) 0 0 iX12_church 69 [(0, .ref v0), (1, .int v1)] [] (X12_church_B69 v0 r69 v1) := by
  unfold X12_church_B69
  refine zco_p tkX12_church 41 2 (pc' := 72) (L' := [(0, .ref v0), (1, .int v1)]) (S' := [.int 72, .int v1]) rfl ?_
  refine zco_icmp_ge (tgt := 108) (zdk (cc := cX12_church) (q := (72, .if_icmp .ge 36, 3)) tkX12_church 43 rfl) rfl ?_ ?_
  · exact zco_sub [0] rfl (coX12_church_J108 l e he v0)
  · refine zco_p tkX12_church 44 2 (pc' := 78) (L' := [(0, .ref v0), (1, .int v1)]) (S' := [.int 36, .int v1]) rfl ?_
    refine zco_icmp_ge (tgt := 88) (zdk (cc := cX12_church) (q := (78, .if_icmp .ge 10, 3)) tkX12_church 46 rfl) rfl ?_ ?_
    · exact zco_sub [0, 1] rfl (coX12_church_J88 l e he v0 v1 r69 hr69)
    · refine zco_p tkX12_church 47 1 (pc' := 82) (L' := [(0, .ref v0), (1, .int v1)]) (S' := [.ref v0]) rfl ?_
      refine zco_gr fl_12_115 rfl (zdk (cc := cX12_church) (q := (82, .getfield 115, 3)) tkX12_church 48 rfl) (fun x1 => ?_)
      refine zco_p tkX12_church 49 2 (pc' := 87) (L' := [(0, .ref v0), (1, .int v1)]) (S' := [.int 0, .int v1, .ref x1]) rfl ?_
      refine zco_bastore (zdk (cc := cX12_church) (q := (87, .bastore, 1)) tkX12_church 51 rfl) ?_
      exact zco_sub [0, 1] rfl (coX12_church_J88 l e he v0 v1 r69 hr69)
set_option maxHeartbeats 2000000 in
set_option maxRecDepth 20000 in
theorem coX12_church_J67 (l : Launch) (e : Nat) (he : 11 ≤ e) (v0 : Nat) : zCo l (e + 1) 0 0 iX12_church 67 [(0, .ref v0)] [] (X12_church_J67 v0) := by
  unfold X12_church_J67
  refine zco_p tkX12_church 39 2 (pc' := 69) (L' := [(1, .int 0), (0, .ref v0)]) (S' := []) rfl ?_
  exact zco_sub [1, 0] rfl (zco_fix (Lf := fun x : Int32 => [(0, .ref v0), (1, .int x)]) (Sf := fun _ => []) (fun r hr x => coX12_church_B69 l e he v0 r hr x) zFU 0)
set_option maxHeartbeats 2000000 in
set_option maxRecDepth 20000 in
theorem coX12_church_J60 (l : Launch) (e : Nat) (he : 11 ≤ e) (v0 : Nat) (v1 : Int32) (r40 : Int32 → zM) (hr40 : ∀ x : Int32, zCo l (e + 1) 0 0 iX12_church 40 [(0, .ref v0), (1, .int x)] [] (r40 x)) (s0 : Int32) (s1 : Int32) (s2 : Nat) : zCo l (e + 1) 0 0 iX12_church 60 [(0, .ref v0), (1, .int v1)] [.int s0, .int s1, .ref s2] (X12_church_J60 r40 v0 v1 s0 s1 s2) := by
  unfold X12_church_J60
  refine zco_iastore (zdk (cc := cX12_church) (q := (60, .iastore, 1)) tkX12_church 36 rfl) ?_
  refine zco_p tkX12_church 37 2 (pc' := 40) (L' := [(1, .int (v1 + 1)), (0, .ref v0)]) (S' := []) rfl ?_
  exact zco_sub [1, 0] rfl (hr40 (v1 + 1))
set_option maxHeartbeats 2000000 in
set_option maxRecDepth 20000 in
theorem coX12_church_B40 (l : Launch) (e : Nat) (he : 11 ≤ e) (v0 : Nat) (r40 : Int32 → zM) (hr40 : ∀ x : Int32, zCo l (e + 1) 0 0 iX12_church 40 [(0, .ref v0), (1, .int x)] [] (r40 x)) (v1 : Int32) : zCo l (e + 1) 0 0 iX12_church 40 [(0, .ref v0), (1, .int v1)] [] (X12_church_B40 v0 r40 v1) := by
  unfold X12_church_B40
  refine zco_p tkX12_church 24 2 (pc' := 42) (L' := [(0, .ref v0), (1, .int v1)]) (S' := [.int 5, .int v1]) rfl ?_
  refine zco_icmp_ge (tgt := 67) (zdk (cc := cX12_church) (q := (42, .if_icmp .ge 25, 3)) tkX12_church 26 rfl) rfl ?_ ?_
  · exact zco_sub [0] rfl (coX12_church_J67 l e he v0)
  · refine zco_p tkX12_church 27 1 (pc' := 46) (L' := [(0, .ref v0), (1, .int v1)]) (S' := [.ref v0]) rfl ?_
    refine zco_gr fl_12_105 rfl (zdk (cc := cX12_church) (q := (46, .getfield 105, 3)) tkX12_church 28 rfl) (fun x1 => ?_)
    refine zco_p tkX12_church 29 3 (pc' := 52) (L' := [(0, .ref v0), (1, .int v1)]) (S' := [.int 3, .int v1, .int v1, .ref x1]) rfl ?_
    refine zco_icmp_ne (tgt := 59) (zdk (cc := cX12_church) (q := (52, .if_icmp .ne 7, 3)) tkX12_church 32 rfl) rfl ?_ ?_
    · refine zco_p tkX12_church 35 1 (pc' := 60) (L' := [(0, .ref v0), (1, .int v1)]) (S' := [.int 0, .int v1, .ref x1]) rfl ?_
      exact zco_sub [0, 1] rfl (coX12_church_J60 l e he v0 v1 r40 hr40 0 v1 x1)
    · refine zco_p tkX12_church 33 2 (pc' := 60) (L' := [(0, .ref v0), (1, .int v1)]) (S' := [.int 3, .int v1, .ref x1]) rfl ?_
      exact zco_sub [0, 1] rfl (coX12_church_J60 l e he v0 v1 r40 hr40 3 v1 x1)
set_option maxHeartbeats 2000000 in
set_option maxRecDepth 20000 in
theorem coX12_church (l : Launch) (e : Nat) (he : 11 ≤ e) (v0 : Nat) : zCo l (e + 1) 0 0 iX12_church 0 [(0, .ref v0)] [] (X12_church v0) := by
  unfold X12_church
  refine zco_p tkX12_church 0 2 (pc' := 2) (L' := [(0, .ref v0)]) (S' := [.ref v0, .ref v0]) rfl ?_
  refine zco_gi fl_12_267 rfl (zdk (cc := cX12_church) (q := (2, .getfield 267, 3)) tkX12_church 2 rfl) (fun x1 => ?_)
  refine zco_pi fl_12_279 rfl rfl (zdk (cc := cX12_church) (q := (5, .putfield 279, 3)) tkX12_church 3 rfl) ?_
  refine zco_p tkX12_church 4 2 (pc' := 10) (L' := [(0, .ref v0)]) (S' := [.int 0, .ref v0]) rfl ?_
  refine zco_pi fl_12_267 rfl rfl (zdk (cc := cX12_church) (q := (10, .putfield 267, 3)) tkX12_church 6 rfl) ?_
  refine zco_p tkX12_church 7 2 (pc' := 15) (L' := [(0, .ref v0)]) (S' := [.int 0, .ref v0]) rfl ?_
  refine zco_pi fl_12_276 rfl rfl (zdk (cc := cX12_church) (q := (15, .putfield 276, 3)) tkX12_church 9 rfl) ?_
  refine zco_p tkX12_church 10 2 (pc' := 20) (L' := [(0, .ref v0)]) (S' := [.int ((-1)), .ref v0]) rfl ?_
  refine zco_pi fl_12_290 rfl rfl (zdk (cc := cX12_church) (q := (20, .putfield 290, 3)) tkX12_church 12 rfl) ?_
  refine zco_p tkX12_church 13 2 (pc' := 25) (L' := [(0, .ref v0)]) (S' := [.int 0, .ref v0]) rfl ?_
  refine zco_pi fl_12_270 rfl rfl (zdk (cc := cX12_church) (q := (25, .putfield 270, 3)) tkX12_church 15 rfl) ?_
  refine zco_p tkX12_church 16 2 (pc' := 30) (L' := [(0, .ref v0)]) (S' := [.int ((-1)), .ref v0]) rfl ?_
  refine zco_pi fl_12_273 rfl rfl (zdk (cc := cX12_church) (q := (30, .putfield 273, 3)) tkX12_church 18 rfl) ?_
  refine zco_p tkX12_church 19 2 (pc' := 35) (L' := [(0, .ref v0)]) (S' := [.int 0, .ref v0]) rfl ?_
  refine zco_pi fl_12_371 rfl rfl (zdk (cc := cX12_church) (q := (35, .putfield 371, 3)) tkX12_church 21 rfl) ?_
  refine zco_p tkX12_church 22 2 (pc' := 40) (L' := [(1, .int 0), (0, .ref v0)]) (S' := []) rfl ?_
  exact zco_sub [1, 0] rfl (zco_fix (Lf := fun x : Int32 => [(0, .ref v0), (1, .int x)]) (Sf := fun _ => []) (fun r hr x => coX12_church_B40 l e he v0 r hr x) zFU 0)
theorem mtX12_church (l : Launch) (d : Nat) (hd : 12 ≤ d) (v0 : Nat) : zMet l d 0 0 yX12_church cX12_church 2 (Option.some .int) [.ref v0] (X12_church v0) := by
  obtain ⟨e, rfl⟩ : ∃ e, d = e + 1 := ⟨d - 1, by omega⟩
  exact zmet_of (own := RX12) (ini := false) (by decide +kernel) rfl (fun _ => by contradiction) (Nat.le_of_ble_eq_true rfl) (coX12_church l e (by omega) v0)
abbrev iX12_fault : zI := (RX12, cX12_fault, 2, (Option.some .int), false)
def tX12_fault : List (Nat × Instr × Nat) := [(0, .iload_n 1, 1), (1, .ifCond .ne 10, 3), (4, .aload_n 0, 1), (5, .getfield 397, 3), (8, .goto 16, 3), (11, .iload_n 1, 1), (12, .iconst 1, 1), (13, .if_icmp .ne 10, 3), (16, .aload_n 0, 1), (17, .getfield 13, 3), (20, .goto 4, 3), (23, .iconst (-1), 1), (24, .ireturn, 1)]
set_option maxRecDepth 100000 in
theorem tkX12_fault : ∀ q ∈ tX12_fault, decode cX12_fault q.1 = .ok q.2 := by decide +kernel
theorem vmX12_fault : zVM yX12_fault cX12_fault 2 (Option.some .int) 1 12 := ⟨kX12_fault, q_1917, q_1918, q_162, ⟨_, rfl, rfl⟩, by decide +kernel, by decide⟩
set_option maxHeartbeats 2000000 in
set_option maxRecDepth 20000 in
theorem coX12_fault (l : Launch) (e : Nat) (he : 0 ≤ e) (v0 : Nat) (v1 : Int32) : zCo l (e + 1) 0 0 iX12_fault 0 [(0, .ref v0), (1, .int v1)] [] (X12_fault v0 v1) := by
  unfold X12_fault
  refine zco_p tkX12_fault 0 1 (pc' := 1) (L' := [(0, .ref v0), (1, .int v1)]) (S' := [.int v1]) rfl ?_
  refine zco_if_ne (tgt := 11) (zdk (cc := cX12_fault) (q := (1, .ifCond .ne 10, 3)) tkX12_fault 1 rfl) rfl ?_ ?_
  · refine zco_p tkX12_fault 5 2 (pc' := 13) (L' := [(0, .ref v0), (1, .int v1)]) (S' := [.int 1, .int v1]) rfl ?_
    refine zco_icmp_ne (tgt := 23) (zdk (cc := cX12_fault) (q := (13, .if_icmp .ne 10, 3)) tkX12_fault 7 rfl) rfl ?_ ?_
    · refine zco_p tkX12_fault 11 1 (pc' := 24) (L' := [(0, .ref v0), (1, .int v1)]) (S' := [.int ((-1))]) rfl ?_
      exact zco_iret rfl rfl rfl (zdk (cc := cX12_fault) (q := (24, .ireturn, 1)) tkX12_fault 12 rfl)
    · refine zco_p tkX12_fault 8 1 (pc' := 17) (L' := [(0, .ref v0), (1, .int v1)]) (S' := [.ref v0]) rfl ?_
      refine zco_gi fl_12_13 rfl (zdk (cc := cX12_fault) (q := (17, .getfield 13, 3)) tkX12_fault 9 rfl) (fun x1 => ?_)
      refine zco_p tkX12_fault 10 1 (pc' := 24) (L' := [(0, .ref v0), (1, .int v1)]) (S' := [.int x1]) rfl ?_
      exact zco_iret rfl rfl rfl (zdk (cc := cX12_fault) (q := (24, .ireturn, 1)) tkX12_fault 12 rfl)
  · refine zco_p tkX12_fault 2 1 (pc' := 5) (L' := [(0, .ref v0), (1, .int v1)]) (S' := [.ref v0]) rfl ?_
    refine zco_gi fl_12_397 rfl (zdk (cc := cX12_fault) (q := (5, .getfield 397, 3)) tkX12_fault 3 rfl) (fun x2 => ?_)
    refine zco_p tkX12_fault 4 1 (pc' := 24) (L' := [(0, .ref v0), (1, .int v1)]) (S' := [.int x2]) rfl ?_
    exact zco_iret rfl rfl rfl (zdk (cc := cX12_fault) (q := (24, .ireturn, 1)) tkX12_fault 12 rfl)
theorem mtX12_fault (l : Launch) (d : Nat) (hd : 1 ≤ d) (v0 : Nat) (v1 : Int32) : zMet l d 0 0 yX12_fault cX12_fault 2 (Option.some .int) [.ref v0, .int v1] (X12_fault v0 v1) := by
  obtain ⟨e, rfl⟩ : ∃ e, d = e + 1 := ⟨d - 1, by omega⟩
  exact zmet_of (own := RX12) (ini := false) (by decide +kernel) rfl (fun _ => by contradiction) (Nat.le_of_ble_eq_true rfl) (coX12_fault l e (by omega) v0 v1)
abbrev iX12_sideMany : zI := (RX12, cX12_sideMany, 2, (Option.some .int), false)
def tX12_sideMany : List (Nat × Instr × Nat) := [(0, .aload_n 0, 1), (1, .getfield 105, 3), (4, .bipush 6, 2), (6, .iload_n 1, 1), (7, .iadd, 1), (8, .iaload, 1), (9, .ireturn, 1)]
set_option maxRecDepth 100000 in
theorem tkX12_sideMany : ∀ q ∈ tX12_sideMany, decode cX12_sideMany q.1 = .ok q.2 := by decide +kernel
theorem vmX12_sideMany : zVM yX12_sideMany cX12_sideMany 2 (Option.some .int) 1 12 := ⟨kX12_sideMany, q_1946, q_88, q_162, ⟨_, rfl, rfl⟩, by decide +kernel, by decide⟩
set_option maxHeartbeats 2000000 in
set_option maxRecDepth 20000 in
theorem coX12_sideMany (l : Launch) (e : Nat) (he : 0 ≤ e) (v0 : Nat) (v1 : Int32) : zCo l (e + 1) 0 0 iX12_sideMany 0 [(0, .ref v0), (1, .int v1)] [] (X12_sideMany v0 v1) := by
  unfold X12_sideMany
  refine zco_p tkX12_sideMany 0 1 (pc' := 1) (L' := [(0, .ref v0), (1, .int v1)]) (S' := [.ref v0]) rfl ?_
  refine zco_gr fl_12_105 rfl (zdk (cc := cX12_sideMany) (q := (1, .getfield 105, 3)) tkX12_sideMany 1 rfl) (fun x1 => ?_)
  refine zco_p tkX12_sideMany 2 3 (pc' := 8) (L' := [(0, .ref v0), (1, .int v1)]) (S' := [.int (6 + v1), .ref x1]) rfl ?_
  refine zco_iaload (zdk (cc := cX12_sideMany) (q := (8, .iaload, 1)) tkX12_sideMany 5 rfl) (fun x2 => ?_)
  exact zco_iret rfl rfl rfl (zdk (cc := cX12_sideMany) (q := (9, .ireturn, 1)) tkX12_sideMany 6 rfl)
theorem mtX12_sideMany (l : Launch) (d : Nat) (hd : 1 ≤ d) (v0 : Nat) (v1 : Int32) : zMet l d 0 0 yX12_sideMany cX12_sideMany 2 (Option.some .int) [.ref v0, .int v1] (X12_sideMany v0 v1) := by
  obtain ⟨e, rfl⟩ : ∃ e, d = e + 1 := ⟨d - 1, by omega⟩
  exact zmet_of (own := RX12) (ini := false) (by decide +kernel) rfl (fun _ => by contradiction) (Nat.le_of_ble_eq_true rfl) (coX12_sideMany l e (by omega) v0 v1)
abbrev iX12_peopleMany : zI := (RX12, cX12_peopleMany, 1, (Option.some .int), false)
def tX12_peopleMany : List (Nat × Instr × Nat) := [(0, .aload_n 0, 1), (1, .iconst 0, 1), (2, .invokevirtual 416, 3), (5, .aload_n 0, 1), (6, .iconst 1, 1), (7, .invokevirtual 416, 3), (10, .iadd, 1), (11, .ireturn, 1)]
set_option maxRecDepth 100000 in
theorem tkX12_peopleMany : ∀ q ∈ tX12_peopleMany, decode cX12_peopleMany q.1 = .ok q.2 := by decide +kernel
theorem vmX12_peopleMany : zVM yX12_peopleMany cX12_peopleMany 1 (Option.some .int) 0 12 := ⟨kX12_peopleMany, q_1942, q_87, q_162, ⟨_, rfl, rfl⟩, by decide +kernel, by decide⟩
set_option maxHeartbeats 2000000 in
set_option maxRecDepth 20000 in
theorem coX12_peopleMany (l : Launch) (e : Nat) (he : 1 ≤ e) (v0 : Nat) : zCo l (e + 1) 0 0 iX12_peopleMany 0 [(0, .ref v0)] [] (X12_peopleMany v0) := by
  unfold X12_peopleMany
  refine zco_p tkX12_peopleMany 0 2 (pc' := 2) (L' := [(0, .ref v0)]) (S' := [.int 0, .ref v0]) rfl ?_
  refine zco_Vi (rc := 0) (rs := 0) (mc := 0) (ms := 0) (As := [.int 0]) (S := []) vmX12_sideMany (mtX12_sideMany l e (by omega) v0 0) q_1944 rfl rfl (Nat.le_of_ble_eq_true rfl) (zdk (cc := cX12_peopleMany) (q := (2, .invokevirtual 416, 3)) tkX12_peopleMany 2 rfl) (fun y1 => ?_)
  refine zco_p tkX12_peopleMany 3 2 (pc' := 7) (L' := [(0, .ref v0)]) (S' := [.int 1, .ref v0, .int y1]) rfl ?_
  refine zco_Vi (rc := 0) (rs := 0) (mc := 0) (ms := 0) (As := [.int 1]) (S := [.int y1]) vmX12_sideMany (mtX12_sideMany l e (by omega) v0 1) q_1944 rfl rfl (Nat.le_of_ble_eq_true rfl) (zdk (cc := cX12_peopleMany) (q := (7, .invokevirtual 416, 3)) tkX12_peopleMany 5 rfl) (fun y2 => ?_)
  refine zco_p tkX12_peopleMany 6 1 (pc' := 11) (L' := [(0, .ref v0)]) (S' := [.int (y1 + y2)]) rfl ?_
  exact zco_iret rfl rfl rfl (zdk (cc := cX12_peopleMany) (q := (11, .ireturn, 1)) tkX12_peopleMany 7 rfl)
theorem mtX12_peopleMany (l : Launch) (d : Nat) (hd : 2 ≤ d) (v0 : Nat) : zMet l d 0 0 yX12_peopleMany cX12_peopleMany 1 (Option.some .int) [.ref v0] (X12_peopleMany v0) := by
  obtain ⟨e, rfl⟩ : ∃ e, d = e + 1 := ⟨d - 1, by omega⟩
  exact zmet_of (own := RX12) (ini := false) (by decide +kernel) rfl (fun _ => by contradiction) (Nat.le_of_ble_eq_true rfl) (coX12_peopleMany l e (by omega) v0)
abbrev iX12_roundMany : zI := (RX12, cX12_roundMany, 1, (Option.some .int), false)
def tX12_roundMany : List (Nat × Instr × Nat) := [(0, .aload_n 0, 1), (1, .getfield 406, 3), (4, .ifCond .eq 13, 3), (7, .aload_n 0, 1), (8, .getfield 105, 3), (11, .bipush 9, 2), (13, .iaload, 1), (14, .goto 4, 3), (17, .iconst 3, 1), (18, .ireturn, 1)]
set_option maxRecDepth 100000 in
theorem tkX12_roundMany : ∀ q ∈ tX12_roundMany, decode cX12_roundMany q.1 = .ok q.2 := by decide +kernel
theorem vmX12_roundMany : zVM yX12_roundMany cX12_roundMany 1 (Option.some .int) 0 12 := ⟨kX12_roundMany, q_1926, q_84, q_162, ⟨_, rfl, rfl⟩, by decide +kernel, by decide⟩
set_option maxHeartbeats 2000000 in
set_option maxRecDepth 20000 in
theorem coX12_roundMany (l : Launch) (e : Nat) (he : 0 ≤ e) (v0 : Nat) : zCo l (e + 1) 0 0 iX12_roundMany 0 [(0, .ref v0)] [] (X12_roundMany v0) := by
  unfold X12_roundMany
  refine zco_p tkX12_roundMany 0 1 (pc' := 1) (L' := [(0, .ref v0)]) (S' := [.ref v0]) rfl ?_
  refine zco_gi fl_12_406 rfl (zdk (cc := cX12_roundMany) (q := (1, .getfield 406, 3)) tkX12_roundMany 1 rfl) (fun x1 => ?_)
  refine zco_if_eq (tgt := 17) (zdk (cc := cX12_roundMany) (q := (4, .ifCond .eq 13, 3)) tkX12_roundMany 2 rfl) rfl ?_ ?_
  · refine zco_p tkX12_roundMany 8 1 (pc' := 18) (L' := [(0, .ref v0)]) (S' := [.int 3]) rfl ?_
    exact zco_iret rfl rfl rfl (zdk (cc := cX12_roundMany) (q := (18, .ireturn, 1)) tkX12_roundMany 9 rfl)
  · refine zco_p tkX12_roundMany 3 1 (pc' := 8) (L' := [(0, .ref v0)]) (S' := [.ref v0]) rfl ?_
    refine zco_gr fl_12_105 rfl (zdk (cc := cX12_roundMany) (q := (8, .getfield 105, 3)) tkX12_roundMany 4 rfl) (fun x2 => ?_)
    refine zco_p tkX12_roundMany 5 1 (pc' := 13) (L' := [(0, .ref v0)]) (S' := [.int 9, .ref x2]) rfl ?_
    refine zco_iaload (zdk (cc := cX12_roundMany) (q := (13, .iaload, 1)) tkX12_roundMany 6 rfl) (fun x3 => ?_)
    refine zco_p tkX12_roundMany 7 1 (pc' := 18) (L' := [(0, .ref v0)]) (S' := [.int x3]) rfl ?_
    exact zco_iret rfl rfl rfl (zdk (cc := cX12_roundMany) (q := (18, .ireturn, 1)) tkX12_roundMany 9 rfl)
theorem mtX12_roundMany (l : Launch) (d : Nat) (hd : 1 ≤ d) (v0 : Nat) : zMet l d 0 0 yX12_roundMany cX12_roundMany 1 (Option.some .int) [.ref v0] (X12_roundMany v0) := by
  obtain ⟨e, rfl⟩ : ∃ e, d = e + 1 := ⟨d - 1, by omega⟩
  exact zmet_of (own := RX12) (ini := false) (by decide +kernel) rfl (fun _ => by contradiction) (Nat.le_of_ble_eq_true rfl) (coX12_roundMany l e (by omega) v0)
abbrev iX12_isPerson : zI := (RX12, cX12_isPerson, 3, (Option.some .boolean), false)
def tX12_isPerson : List (Nat × Instr × Nat) := [(0, .lload_n 1, 1), (1, .lconst 0, 1), (2, .aload_n 0, 1), (3, .invokevirtual 419, 3), (6, .iconst 1, 1), (7, .isub, 1), (8, .i2l, 1), (9, .invokestatic 313, 3), (12, .ireturn, 1)]
set_option maxRecDepth 100000 in
theorem tkX12_isPerson : ∀ q ∈ tX12_isPerson, decode cX12_isPerson q.1 = .ok q.2 := by decide +kernel
theorem vmX12_isPerson : zVM yX12_isPerson cX12_isPerson 3 (Option.some .boolean) 1 12 := ⟨kX12_isPerson, q_1938, q_86, q_162, ⟨_, rfl, rfl⟩, by decide +kernel, by decide⟩
set_option maxHeartbeats 2000000 in
set_option maxRecDepth 20000 in
theorem coX12_isPerson (l : Launch) (e : Nat) (he : 2 ≤ e) (v0 : Nat) (v1 : Int64) : zCo l (e + 1) 0 0 iX12_isPerson 0 [(0, .ref v0), (1, .long v1)] [] (X12_isPerson v0 v1) := by
  unfold X12_isPerson
  refine zco_p tkX12_isPerson 0 3 (pc' := 3) (L' := [(0, .ref v0), (1, .long v1)]) (S' := [.ref v0, .long 0, .long v1]) rfl ?_
  refine zco_Vi (rc := 0) (rs := 0) (mc := 0) (ms := 0) (As := []) (S := [.long 0, .long v1]) vmX12_peopleMany (mtX12_peopleMany l e (by omega) v0) q_1940 rfl rfl (Nat.le_of_ble_eq_true rfl) (zdk (cc := cX12_isPerson) (q := (3, .invokevirtual 419, 3)) tkX12_isPerson 3 rfl) (fun y1 => ?_)
  refine zco_p tkX12_isPerson 4 3 (pc' := 9) (L' := [(0, .ref v0), (1, .long v1)]) (S' := [.long ((y1 - 1 : Int32).toInt64), .long 0, .long v1]) rfl ?_
  refine zco_Si (rc := 0) (rs := 0) (mc := 0) (ms := 0) (As := [.long v1, .long 0, .long ((y1 - 1 : Int32).toInt64)]) (S := []) vmX12_isIn (mtX12_isIn l e (by omega) v1 0 ((y1 - 1 : Int32).toInt64)) q_1799 rfl rfl (Nat.le_of_ble_eq_true rfl) (zdk (cc := cX12_isPerson) (q := (9, .invokestatic 313, 3)) tkX12_isPerson 7 rfl) (fun y2 => ?_)
  exact zco_zret rfl rfl rfl (zdk (cc := cX12_isPerson) (q := (12, .ireturn, 1)) tkX12_isPerson 8 rfl)
theorem mtX12_isPerson (l : Launch) (d : Nat) (hd : 3 ≤ d) (v0 : Nat) (v1 : Int64) : zMet l d 0 0 yX12_isPerson cX12_isPerson 3 (Option.some .boolean) [.ref v0, .long v1] (X12_isPerson v0 v1) := by
  obtain ⟨e, rfl⟩ : ∃ e, d = e + 1 := ⟨d - 1, by omega⟩
  exact zmet_of (own := RX12) (ini := false) (by decide +kernel) rfl (fun _ => by contradiction) (Nat.le_of_ble_eq_true rfl) (coX12_isPerson l e (by omega) v0 v1)
abbrev iX12_sideOf : zI := (RX12, cX12_sideOf, 2, (Option.some .int), false)
def tX12_sideOf : List (Nat × Instr × Nat) := [(0, .iload_n 1, 1), (1, .aload_n 0, 1), (2, .iconst 0, 1), (3, .invokevirtual 416, 3), (6, .if_icmp .ge 7, 3), (9, .iconst 0, 1), (10, .goto 4, 3), (13, .iconst 1, 1), (14, .ireturn, 1)]
set_option maxRecDepth 100000 in
theorem tkX12_sideOf : ∀ q ∈ tX12_sideOf, decode cX12_sideOf q.1 = .ok q.2 := by decide +kernel
theorem vmX12_sideOf : zVM yX12_sideOf cX12_sideOf 2 (Option.some .int) 1 12 := ⟨kX12_sideOf, q_1998, q_99, q_162, ⟨_, rfl, rfl⟩, by decide +kernel, by decide⟩
set_option maxHeartbeats 2000000 in
set_option maxRecDepth 20000 in
theorem coX12_sideOf (l : Launch) (e : Nat) (he : 1 ≤ e) (v0 : Nat) (v1 : Int32) : zCo l (e + 1) 0 0 iX12_sideOf 0 [(0, .ref v0), (1, .int v1)] [] (X12_sideOf v0 v1) := by
  unfold X12_sideOf
  refine zco_p tkX12_sideOf 0 3 (pc' := 3) (L' := [(0, .ref v0), (1, .int v1)]) (S' := [.int 0, .ref v0, .int v1]) rfl ?_
  refine zco_Vi (rc := 0) (rs := 0) (mc := 0) (ms := 0) (As := [.int 0]) (S := [.int v1]) vmX12_sideMany (mtX12_sideMany l e (by omega) v0 0) q_1944 rfl rfl (Nat.le_of_ble_eq_true rfl) (zdk (cc := cX12_sideOf) (q := (3, .invokevirtual 416, 3)) tkX12_sideOf 3 rfl) (fun y1 => ?_)
  refine zco_icmp_ge (tgt := 13) (zdk (cc := cX12_sideOf) (q := (6, .if_icmp .ge 7, 3)) tkX12_sideOf 4 rfl) rfl ?_ ?_
  · refine zco_p tkX12_sideOf 7 1 (pc' := 14) (L' := [(0, .ref v0), (1, .int v1)]) (S' := [.int 1]) rfl ?_
    exact zco_iret rfl rfl rfl (zdk (cc := cX12_sideOf) (q := (14, .ireturn, 1)) tkX12_sideOf 8 rfl)
  · refine zco_p tkX12_sideOf 5 2 (pc' := 14) (L' := [(0, .ref v0), (1, .int v1)]) (S' := [.int 0]) rfl ?_
    exact zco_iret rfl rfl rfl (zdk (cc := cX12_sideOf) (q := (14, .ireturn, 1)) tkX12_sideOf 8 rfl)
theorem mtX12_sideOf (l : Launch) (d : Nat) (hd : 2 ≤ d) (v0 : Nat) (v1 : Int32) : zMet l d 0 0 yX12_sideOf cX12_sideOf 2 (Option.some .int) [.ref v0, .int v1] (X12_sideOf v0 v1) := by
  obtain ⟨e, rfl⟩ : ∃ e, d = e + 1 := ⟨d - 1, by omega⟩
  exact zmet_of (own := RX12) (ini := false) (by decide +kernel) rfl (fun _ => by contradiction) (Nat.le_of_ble_eq_true rfl) (coX12_sideOf l e (by omega) v0 v1)
abbrev iX12_codeOf : zI := (RX12, cX12_codeOf, 2, (Option.some .int), false)
def tX12_codeOf : List (Nat × Instr × Nat) := [(0, .iload_n 1, 1), (1, .aload_n 0, 1), (2, .iconst 0, 1), (3, .invokevirtual 416, 3), (6, .if_icmp .ge 7, 3), (9, .iload_n 1, 1), (10, .goto 13, 3), (13, .bipush 6, 2), (15, .iload_n 1, 1), (16, .iadd, 1), (17, .aload_n 0, 1), (18, .iconst 0, 1), (19, .invokevirtual 416, 3), (22, .isub, 1), (23, .ireturn, 1)]
set_option maxRecDepth 100000 in
theorem tkX12_codeOf : ∀ q ∈ tX12_codeOf, decode cX12_codeOf q.1 = .ok q.2 := by decide +kernel
theorem vmX12_codeOf : zVM yX12_codeOf cX12_codeOf 2 (Option.some .int) 1 12 := ⟨kX12_codeOf, q_1950, q_89, q_162, ⟨_, rfl, rfl⟩, by decide +kernel, by decide⟩
set_option maxHeartbeats 2000000 in
set_option maxRecDepth 20000 in
theorem coX12_codeOf (l : Launch) (e : Nat) (he : 1 ≤ e) (v0 : Nat) (v1 : Int32) : zCo l (e + 1) 0 0 iX12_codeOf 0 [(0, .ref v0), (1, .int v1)] [] (X12_codeOf v0 v1) := by
  unfold X12_codeOf
  refine zco_p tkX12_codeOf 0 3 (pc' := 3) (L' := [(0, .ref v0), (1, .int v1)]) (S' := [.int 0, .ref v0, .int v1]) rfl ?_
  refine zco_Vi (rc := 0) (rs := 0) (mc := 0) (ms := 0) (As := [.int 0]) (S := [.int v1]) vmX12_sideMany (mtX12_sideMany l e (by omega) v0 0) q_1944 rfl rfl (Nat.le_of_ble_eq_true rfl) (zdk (cc := cX12_codeOf) (q := (3, .invokevirtual 416, 3)) tkX12_codeOf 3 rfl) (fun y1 => ?_)
  refine zco_icmp_ge (tgt := 13) (zdk (cc := cX12_codeOf) (q := (6, .if_icmp .ge 7, 3)) tkX12_codeOf 4 rfl) rfl ?_ ?_
  · refine zco_p tkX12_codeOf 7 5 (pc' := 19) (L' := [(0, .ref v0), (1, .int v1)]) (S' := [.int 0, .ref v0, .int (6 + v1)]) rfl ?_
    refine zco_Vi (rc := 0) (rs := 0) (mc := 0) (ms := 0) (As := [.int 0]) (S := [.int (6 + v1)]) vmX12_sideMany (mtX12_sideMany l e (by omega) v0 0) q_1944 rfl rfl (Nat.le_of_ble_eq_true rfl) (zdk (cc := cX12_codeOf) (q := (19, .invokevirtual 416, 3)) tkX12_codeOf 12 rfl) (fun y2 => ?_)
    refine zco_p tkX12_codeOf 13 1 (pc' := 23) (L' := [(0, .ref v0), (1, .int v1)]) (S' := [.int ((6 + v1) - y2)]) rfl ?_
    exact zco_iret rfl rfl rfl (zdk (cc := cX12_codeOf) (q := (23, .ireturn, 1)) tkX12_codeOf 14 rfl)
  · refine zco_p tkX12_codeOf 5 2 (pc' := 23) (L' := [(0, .ref v0), (1, .int v1)]) (S' := [.int v1]) rfl ?_
    exact zco_iret rfl rfl rfl (zdk (cc := cX12_codeOf) (q := (23, .ireturn, 1)) tkX12_codeOf 14 rfl)
theorem mtX12_codeOf (l : Launch) (d : Nat) (hd : 2 ≤ d) (v0 : Nat) (v1 : Int32) : zMet l d 0 0 yX12_codeOf cX12_codeOf 2 (Option.some .int) [.ref v0, .int v1] (X12_codeOf v0 v1) := by
  obtain ⟨e, rfl⟩ : ∃ e, d = e + 1 := ⟨d - 1, by omega⟩
  exact zmet_of (own := RX12) (ini := false) (by decide +kernel) rfl (fun _ => by contradiction) (Nat.le_of_ble_eq_true rfl) (coX12_codeOf l e (by omega) v0 v1)
abbrev iX12_numberOf : zI := (RX12, cX12_numberOf, 2, (Option.some .int), false)
def tX12_numberOf : List (Nat × Instr × Nat) := [(0, .iload_n 1, 1), (1, .bipush 6, 2), (3, .if_icmp .ge 7, 3), (6, .iload_n 1, 1), (7, .goto 13, 3), (10, .aload_n 0, 1), (11, .iconst 0, 1), (12, .invokevirtual 416, 3), (15, .iload_n 1, 1), (16, .iadd, 1), (17, .bipush 6, 2), (19, .isub, 1), (20, .ireturn, 1)]
set_option maxRecDepth 100000 in
theorem tkX12_numberOf : ∀ q ∈ tX12_numberOf, decode cX12_numberOf q.1 = .ok q.2 := by decide +kernel
theorem vmX12_numberOf : zVM yX12_numberOf cX12_numberOf 2 (Option.some .int) 1 12 := ⟨kX12_numberOf, q_1978, q_95, q_162, ⟨_, rfl, rfl⟩, by decide +kernel, by decide⟩
set_option maxHeartbeats 2000000 in
set_option maxRecDepth 20000 in
theorem coX12_numberOf (l : Launch) (e : Nat) (he : 1 ≤ e) (v0 : Nat) (v1 : Int32) : zCo l (e + 1) 0 0 iX12_numberOf 0 [(0, .ref v0), (1, .int v1)] [] (X12_numberOf v0 v1) := by
  unfold X12_numberOf
  refine zco_p tkX12_numberOf 0 2 (pc' := 3) (L' := [(0, .ref v0), (1, .int v1)]) (S' := [.int 6, .int v1]) rfl ?_
  refine zco_icmp_ge (tgt := 10) (zdk (cc := cX12_numberOf) (q := (3, .if_icmp .ge 7, 3)) tkX12_numberOf 2 rfl) rfl ?_ ?_
  · refine zco_p tkX12_numberOf 5 2 (pc' := 12) (L' := [(0, .ref v0), (1, .int v1)]) (S' := [.int 0, .ref v0]) rfl ?_
    refine zco_Vi (rc := 0) (rs := 0) (mc := 0) (ms := 0) (As := [.int 0]) (S := []) vmX12_sideMany (mtX12_sideMany l e (by omega) v0 0) q_1944 rfl rfl (Nat.le_of_ble_eq_true rfl) (zdk (cc := cX12_numberOf) (q := (12, .invokevirtual 416, 3)) tkX12_numberOf 7 rfl) (fun y1 => ?_)
    refine zco_p tkX12_numberOf 8 4 (pc' := 20) (L' := [(0, .ref v0), (1, .int v1)]) (S' := [.int ((y1 + v1) - 6)]) rfl ?_
    exact zco_iret rfl rfl rfl (zdk (cc := cX12_numberOf) (q := (20, .ireturn, 1)) tkX12_numberOf 12 rfl)
  · refine zco_p tkX12_numberOf 3 2 (pc' := 20) (L' := [(0, .ref v0), (1, .int v1)]) (S' := [.int v1]) rfl ?_
    exact zco_iret rfl rfl rfl (zdk (cc := cX12_numberOf) (q := (20, .ireturn, 1)) tkX12_numberOf 12 rfl)
theorem mtX12_numberOf (l : Launch) (d : Nat) (hd : 2 ≤ d) (v0 : Nat) (v1 : Int32) : zMet l d 0 0 yX12_numberOf cX12_numberOf 2 (Option.some .int) [.ref v0, .int v1] (X12_numberOf v0 v1) := by
  obtain ⟨e, rfl⟩ : ∃ e, d = e + 1 := ⟨d - 1, by omega⟩
  exact zmet_of (own := RX12) (ini := false) (by decide +kernel) rfl (fun _ => by contradiction) (Nat.le_of_ble_eq_true rfl) (coX12_numberOf l e (by omega) v0 v1)
abbrev iX12_areTwo : zI := (RX12, cX12_areTwo, 5, (Option.some .boolean), false)
def tX12_areTwo : List (Nat × Instr × Nat) := [(0, .aload_n 0, 1), (1, .lload_n 1, 1), (2, .invokevirtual 422, 3), (5, .ifCond .eq 30, 3), (8, .aload_n 0, 1), (9, .lload_n 3, 1), (10, .invokevirtual 422, 3), (13, .ifCond .eq 22, 3), (16, .aload_n 0, 1), (17, .lload_n 1, 1), (18, .l2i, 1), (19, .invokevirtual 426, 3), (22, .aload_n 0, 1), (23, .lload_n 3, 1), (24, .l2i, 1), (25, .invokevirtual 426, 3), (28, .if_icmp .eq 7, 3), (31, .iconst 1, 1), (32, .goto 4, 3), (35, .iconst 0, 1), (36, .ireturn, 1)]
set_option maxRecDepth 100000 in
theorem tkX12_areTwo : ∀ q ∈ tX12_areTwo, decode cX12_areTwo q.1 = .ok q.2 := by decide +kernel
theorem vmX12_areTwo : zVM yX12_areTwo cX12_areTwo 5 (Option.some .boolean) 2 12 := ⟨kX12_areTwo, q_1994, q_98, q_162, ⟨_, rfl, rfl⟩, by decide +kernel, by decide⟩
set_option maxHeartbeats 2000000 in
set_option maxRecDepth 20000 in
theorem coX12_areTwo (l : Launch) (e : Nat) (he : 3 ≤ e) (v0 : Nat) (v1 : Int64) (v3 : Int64) : zCo l (e + 1) 0 0 iX12_areTwo 0 [(0, .ref v0), (1, .long v1), (3, .long v3)] [] (X12_areTwo v0 v1 v3) := by
  unfold X12_areTwo
  refine zco_p tkX12_areTwo 0 2 (pc' := 2) (L' := [(0, .ref v0), (1, .long v1), (3, .long v3)]) (S' := [.long v1, .ref v0]) rfl ?_
  refine zco_Vi (rc := 0) (rs := 0) (mc := 0) (ms := 0) (As := [.long v1]) (S := []) vmX12_isPerson (mtX12_isPerson l e (by omega) v0 v1) q_1936 rfl rfl (Nat.le_of_ble_eq_true rfl) (zdk (cc := cX12_areTwo) (q := (2, .invokevirtual 422, 3)) tkX12_areTwo 2 rfl) (fun y1 => ?_)
  refine zco_if_eq (tgt := 35) (zdk (cc := cX12_areTwo) (q := (5, .ifCond .eq 30, 3)) tkX12_areTwo 3 rfl) rfl ?_ ?_
  · refine zco_p tkX12_areTwo 19 1 (pc' := 36) (L' := [(0, .ref v0), (1, .long v1), (3, .long v3)]) (S' := [.int 0]) rfl ?_
    exact zco_zret rfl rfl rfl (zdk (cc := cX12_areTwo) (q := (36, .ireturn, 1)) tkX12_areTwo 20 rfl)
  · refine zco_p tkX12_areTwo 4 2 (pc' := 10) (L' := [(0, .ref v0), (1, .long v1), (3, .long v3)]) (S' := [.long v3, .ref v0]) rfl ?_
    refine zco_Vi (rc := 0) (rs := 0) (mc := 0) (ms := 0) (As := [.long v3]) (S := []) vmX12_isPerson (mtX12_isPerson l e (by omega) v0 v3) q_1936 rfl rfl (Nat.le_of_ble_eq_true rfl) (zdk (cc := cX12_areTwo) (q := (10, .invokevirtual 422, 3)) tkX12_areTwo 6 rfl) (fun y2 => ?_)
    refine zco_if_eq (tgt := 35) (zdk (cc := cX12_areTwo) (q := (13, .ifCond .eq 22, 3)) tkX12_areTwo 7 rfl) rfl ?_ ?_
    · refine zco_p tkX12_areTwo 19 1 (pc' := 36) (L' := [(0, .ref v0), (1, .long v1), (3, .long v3)]) (S' := [.int 0]) rfl ?_
      exact zco_zret rfl rfl rfl (zdk (cc := cX12_areTwo) (q := (36, .ireturn, 1)) tkX12_areTwo 20 rfl)
    · refine zco_p tkX12_areTwo 8 3 (pc' := 19) (L' := [(0, .ref v0), (1, .long v1), (3, .long v3)]) (S' := [.int v1.toInt32, .ref v0]) rfl ?_
      refine zco_Vi (rc := 0) (rs := 0) (mc := 0) (ms := 0) (As := [.int v1.toInt32]) (S := []) vmX12_sideOf (mtX12_sideOf l e (by omega) v0 v1.toInt32) q_1996 rfl rfl (Nat.le_of_ble_eq_true rfl) (zdk (cc := cX12_areTwo) (q := (19, .invokevirtual 426, 3)) tkX12_areTwo 11 rfl) (fun y3 => ?_)
      refine zco_p tkX12_areTwo 12 3 (pc' := 25) (L' := [(0, .ref v0), (1, .long v1), (3, .long v3)]) (S' := [.int v3.toInt32, .ref v0, .int y3]) rfl ?_
      refine zco_Vi (rc := 0) (rs := 0) (mc := 0) (ms := 0) (As := [.int v3.toInt32]) (S := [.int y3]) vmX12_sideOf (mtX12_sideOf l e (by omega) v0 v3.toInt32) q_1996 rfl rfl (Nat.le_of_ble_eq_true rfl) (zdk (cc := cX12_areTwo) (q := (25, .invokevirtual 426, 3)) tkX12_areTwo 15 rfl) (fun y4 => ?_)
      refine zco_icmp_eq (tgt := 35) (zdk (cc := cX12_areTwo) (q := (28, .if_icmp .eq 7, 3)) tkX12_areTwo 16 rfl) rfl ?_ ?_
      · refine zco_p tkX12_areTwo 19 1 (pc' := 36) (L' := [(0, .ref v0), (1, .long v1), (3, .long v3)]) (S' := [.int 0]) rfl ?_
        exact zco_zret rfl rfl rfl (zdk (cc := cX12_areTwo) (q := (36, .ireturn, 1)) tkX12_areTwo 20 rfl)
      · refine zco_p tkX12_areTwo 17 2 (pc' := 36) (L' := [(0, .ref v0), (1, .long v1), (3, .long v3)]) (S' := [.int 1]) rfl ?_
        exact zco_zret rfl rfl rfl (zdk (cc := cX12_areTwo) (q := (36, .ireturn, 1)) tkX12_areTwo 20 rfl)
theorem mtX12_areTwo (l : Launch) (d : Nat) (hd : 4 ≤ d) (v0 : Nat) (v1 : Int64) (v3 : Int64) : zMet l d 0 0 yX12_areTwo cX12_areTwo 5 (Option.some .boolean) [.ref v0, .long v1, .long v3] (X12_areTwo v0 v1 v3) := by
  obtain ⟨e, rfl⟩ : ∃ e, d = e + 1 := ⟨d - 1, by omega⟩
  exact zmet_of (own := RX12) (ini := false) (by decide +kernel) rfl (fun _ => by contradiction) (Nat.le_of_ble_eq_true rfl) (coX12_areTwo l e (by omega) v0 v1 v3)
abbrev iX12_likingAt : zI := (RX12, cX12_likingAt, 3, (Option.some .int), false)
def tX12_likingAt : List (Nat × Instr × Nat) := [(0, .bipush 38, 2), (2, .bipush 6, 2), (4, .iload_n 1, 1), (5, .imul, 1), (6, .iadd, 1), (7, .iload_n 2, 1), (8, .bipush 6, 2), (10, .irem, 1), (11, .iadd, 1), (12, .ireturn, 1)]
set_option maxRecDepth 100000 in
theorem tkX12_likingAt : ∀ q ∈ tX12_likingAt, decode cX12_likingAt q.1 = .ok q.2 := by decide +kernel
theorem vmX12_likingAt : zVM yX12_likingAt cX12_likingAt 3 (Option.some .int) 2 12 := ⟨kX12_likingAt, q_2006, q_101, q_162, ⟨_, rfl, rfl⟩, by decide +kernel, by decide⟩
set_option maxHeartbeats 2000000 in
set_option maxRecDepth 20000 in
theorem coX12_likingAt (l : Launch) (e : Nat) (he : 0 ≤ e) (v0 : Nat) (v1 : Int32) (v2 : Int32) : zCo l (e + 1) 0 0 iX12_likingAt 0 [(0, .ref v0), (1, .int v1), (2, .int v2)] [] (X12_likingAt v0 v1 v2) := by
  unfold X12_likingAt
  refine zco_p tkX12_likingAt 0 7 (pc' := 10) (L' := [(0, .ref v0), (1, .int v1), (2, .int v2)]) (S' := [.int 6, .int v2, .int (38 + (6 * v1))]) rfl ?_
  refine zco_irem (zdk (cc := cX12_likingAt) (q := (10, .irem, 1)) tkX12_likingAt 7 rfl) ?_
  refine zco_p tkX12_likingAt 8 1 (pc' := 12) (L' := [(0, .ref v0), (1, .int v1), (2, .int v2)]) (S' := [.int ((38 + (6 * v1)) + (v2 - v2 / 6 * 6))]) rfl ?_
  exact zco_iret rfl rfl rfl (zdk (cc := cX12_likingAt) (q := (12, .ireturn, 1)) tkX12_likingAt 9 rfl)
theorem mtX12_likingAt (l : Launch) (d : Nat) (hd : 1 ≤ d) (v0 : Nat) (v1 : Int32) (v2 : Int32) : zMet l d 0 0 yX12_likingAt cX12_likingAt 3 (Option.some .int) [.ref v0, .int v1, .int v2] (X12_likingAt v0 v1 v2) := by
  obtain ⟨e, rfl⟩ : ∃ e, d = e + 1 := ⟨d - 1, by omega⟩
  exact zmet_of (own := RX12) (ini := false) (by decide +kernel) rfl (fun _ => by contradiction) (Nat.le_of_ble_eq_true rfl) (coX12_likingAt l e (by omega) v0 v1 v2)
abbrev iX12_knowingAt : zI := (RX12, cX12_knowingAt, 3, (Option.some .int), false)
def tX12_knowingAt : List (Nat × Instr × Nat) := [(0, .bipush 110, 2), (2, .bipush 6, 2), (4, .iload_n 1, 1), (5, .imul, 1), (6, .iadd, 1), (7, .iload_n 2, 1), (8, .bipush 6, 2), (10, .irem, 1), (11, .iadd, 1), (12, .ireturn, 1)]
set_option maxRecDepth 100000 in
theorem tkX12_knowingAt : ∀ q ∈ tX12_knowingAt, decode cX12_knowingAt q.1 = .ok q.2 := by decide +kernel
theorem vmX12_knowingAt : zVM yX12_knowingAt cX12_knowingAt 3 (Option.some .int) 2 12 := ⟨kX12_knowingAt, q_2014, q_103, q_162, ⟨_, rfl, rfl⟩, by decide +kernel, by decide⟩
set_option maxHeartbeats 2000000 in
set_option maxRecDepth 20000 in
theorem coX12_knowingAt (l : Launch) (e : Nat) (he : 0 ≤ e) (v0 : Nat) (v1 : Int32) (v2 : Int32) : zCo l (e + 1) 0 0 iX12_knowingAt 0 [(0, .ref v0), (1, .int v1), (2, .int v2)] [] (X12_knowingAt v0 v1 v2) := by
  unfold X12_knowingAt
  refine zco_p tkX12_knowingAt 0 7 (pc' := 10) (L' := [(0, .ref v0), (1, .int v1), (2, .int v2)]) (S' := [.int 6, .int v2, .int (110 + (6 * v1))]) rfl ?_
  refine zco_irem (zdk (cc := cX12_knowingAt) (q := (10, .irem, 1)) tkX12_knowingAt 7 rfl) ?_
  refine zco_p tkX12_knowingAt 8 1 (pc' := 12) (L' := [(0, .ref v0), (1, .int v1), (2, .int v2)]) (S' := [.int ((110 + (6 * v1)) + (v2 - v2 / 6 * 6))]) rfl ?_
  exact zco_iret rfl rfl rfl (zdk (cc := cX12_knowingAt) (q := (12, .ireturn, 1)) tkX12_knowingAt 9 rfl)
theorem mtX12_knowingAt (l : Launch) (d : Nat) (hd : 1 ≤ d) (v0 : Nat) (v1 : Int32) (v2 : Int32) : zMet l d 0 0 yX12_knowingAt cX12_knowingAt 3 (Option.some .int) [.ref v0, .int v1, .int v2] (X12_knowingAt v0 v1 v2) := by
  obtain ⟨e, rfl⟩ : ∃ e, d = e + 1 := ⟨d - 1, by omega⟩
  exact zmet_of (own := RX12) (ini := false) (by decide +kernel) rfl (fun _ => by contradiction) (Nat.le_of_ble_eq_true rfl) (coX12_knowingAt l e (by omega) v0 v1 v2)
