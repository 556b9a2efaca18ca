abbrev iX12_kept : zI := (RX12, cX12_kept, 3, (Option.some .int), false)
def tX12_kept : List (Nat × Instr × Nat) := [(0, .iload_n 1, 1), (1, .i2l, 1), (2, .lconst 0, 1), (3, .aload_n 0, 1), (4, .getfield 134, 3), (7, .sipush 182, 3), (10, .iaload, 1), (11, .iconst 1, 1), (12, .isub, 1), (13, .i2l, 1), (14, .invokestatic 313, 3), (17, .ifCond .eq 32, 3), (20, .iload_n 2, 1), (21, .i2l, 1), (22, .lconst 0, 1), (23, .ldc2_w 555, 3), (26, .invokestatic 313, 3), (29, .ifCond .eq 20, 3), (32, .aload_n 0, 1), (33, .getfield 134, 3), (36, .sipush 183, 3), (39, .iconst 4, 1), (40, .iload_n 1, 1), (41, .imul, 1), (42, .iadd, 1), (43, .iload_n 2, 1), (44, .iadd, 1), (45, .iaload, 1), (46, .goto 4, 3), (49, .iconst (-1), 1), (50, .ireturn, 1)]
set_option maxRecDepth 100000 in
theorem tkX12_kept : ∀ q ∈ tX12_kept, decode cX12_kept q.1 = .ok q.2 := by decide +kernel
theorem vmX12_kept : zVM yX12_kept cX12_kept 3 (Option.some .int) 2 12 := ⟨kX12_kept, q_2064, q_2065, q_162, ⟨_, rfl, rfl⟩, by decide +kernel, by decide⟩
set_option maxHeartbeats 2000000 in
set_option maxRecDepth 20000 in
theorem coX12_kept (l : Launch) (e : Nat) (he : 1 ≤ e) (v0 : Nat) (v1 : Int32) (v2 : Int32) : zCo l (e + 1) 0 0 iX12_kept 0 [(0, .ref v0), (1, .int v1), (2, .int v2)] [] (X12_kept v0 v1 v2) := by
  unfold X12_kept
  refine zco_p tkX12_kept 0 4 (pc' := 4) (L' := [(0, .ref v0), (1, .int v1), (2, .int v2)]) (S' := [.ref v0, .long 0, .long v1.toInt64]) rfl ?_
  refine zco_gr fl_12_134 rfl (zdk (cc := cX12_kept) (q := (4, .getfield 134, 3)) tkX12_kept 4 rfl) (fun x1 => ?_)
  refine zco_p tkX12_kept 5 1 (pc' := 10) (L' := [(0, .ref v0), (1, .int v1), (2, .int v2)]) (S' := [.int 182, .ref x1, .long 0, .long v1.toInt64]) rfl ?_
  refine zco_iaload (zdk (cc := cX12_kept) (q := (10, .iaload, 1)) tkX12_kept 6 rfl) (fun x2 => ?_)
  refine zco_p tkX12_kept 7 3 (pc' := 14) (L' := [(0, .ref v0), (1, .int v1), (2, .int v2)]) (S' := [.long ((x2 - 1 : Int32).toInt64), .long 0, .long v1.toInt64]) rfl ?_
  refine zco_Si (rc := 0) (rs := 0) (mc := 0) (ms := 0) (As := [.long v1.toInt64, .long 0, .long ((x2 - 1 : Int32).toInt64)]) (S := []) vmX12_isIn (mtX12_isIn l e (by omega) v1.toInt64 0 ((x2 - 1 : Int32).toInt64)) q_1799 rfl rfl (Nat.le_of_ble_eq_true rfl) (zdk (cc := cX12_kept) (q := (14, .invokestatic 313, 3)) tkX12_kept 10 rfl) (fun y3 => ?_)
  refine zco_if_eq (tgt := 49) (zdk (cc := cX12_kept) (q := (17, .ifCond .eq 32, 3)) tkX12_kept 11 rfl) rfl ?_ ?_
  · refine zco_p tkX12_kept 29 1 (pc' := 50) (L' := [(0, .ref v0), (1, .int v1), (2, .int v2)]) (S' := [.int ((-1))]) rfl ?_
    exact zco_iret rfl rfl rfl (zdk (cc := cX12_kept) (q := (50, .ireturn, 1)) tkX12_kept 30 rfl)
  · refine zco_p tkX12_kept 12 3 (pc' := 23) (L' := [(0, .ref v0), (1, .int v1), (2, .int v2)]) (S' := [.long 0, .long v2.toInt64]) rfl ?_
    refine zco_ldc2 q_2067 (zdk (cc := cX12_kept) (q := (23, .ldc2_w 555, 3)) tkX12_kept 15 rfl) ?_
    refine zco_Si (rc := 0) (rs := 0) (mc := 0) (ms := 0) (As := [.long v2.toInt64, .long 0, .long 3]) (S := []) vmX12_isIn (mtX12_isIn l e (by omega) v2.toInt64 0 3) q_1799 rfl rfl (Nat.le_of_ble_eq_true rfl) (zdk (cc := cX12_kept) (q := (26, .invokestatic 313, 3)) tkX12_kept 16 rfl) (fun y4 => ?_)
    refine zco_if_eq (tgt := 49) (zdk (cc := cX12_kept) (q := (29, .ifCond .eq 20, 3)) tkX12_kept 17 rfl) rfl ?_ ?_
    · refine zco_p tkX12_kept 29 1 (pc' := 50) (L' := [(0, .ref v0), (1, .int v1), (2, .int v2)]) (S' := [.int ((-1))]) rfl ?_
      exact zco_iret rfl rfl rfl (zdk (cc := cX12_kept) (q := (50, .ireturn, 1)) tkX12_kept 30 rfl)
    · refine zco_p tkX12_kept 18 1 (pc' := 33) (L' := [(0, .ref v0), (1, .int v1), (2, .int v2)]) (S' := [.ref v0]) rfl ?_
      refine zco_gr fl_12_134 rfl (zdk (cc := cX12_kept) (q := (33, .getfield 134, 3)) tkX12_kept 19 rfl) (fun x5 => ?_)
      refine zco_p tkX12_kept 20 7 (pc' := 45) (L' := [(0, .ref v0), (1, .int v1), (2, .int v2)]) (S' := [.int ((183 + (4 * v1)) + v2), .ref x5]) rfl ?_
      refine zco_iaload (zdk (cc := cX12_kept) (q := (45, .iaload, 1)) tkX12_kept 27 rfl) (fun x6 => ?_)
      refine zco_p tkX12_kept 28 1 (pc' := 50) (L' := [(0, .ref v0), (1, .int v1), (2, .int v2)]) (S' := [.int x6]) rfl ?_
      exact zco_iret rfl rfl rfl (zdk (cc := cX12_kept) (q := (50, .ireturn, 1)) tkX12_kept 30 rfl)
theorem mtX12_kept (l : Launch) (d : Nat) (hd : 2 ≤ d) (v0 : Nat) (v1 : Int32) (v2 : Int32) : zMet l d 0 0 yX12_kept cX12_kept 3 (Option.some .int) [.ref v0, .int v1, .int v2] (X12_kept v0 v1 v2) := by
  obtain ⟨e, rfl⟩ : ∃ e, d = e + 1 := ⟨d - 1, by omega⟩
  exact zmet_of (own := RX12) (ini := false) (by decide +kernel) rfl (fun _ => by contradiction) (Nat.le_of_ble_eq_true rfl) (coX12_kept l e (by omega) v0 v1 v2)
abbrev iX12_later : zI := (RX12, cX12_later, 4, (Option.some .int), false)
def tX12_later : List (Nat × Instr × Nat) := [(0, .aload_n 0, 1), (1, .iload_n 1, 1), (2, .i2l, 1), (3, .invokevirtual 422, 3), (6, .ifCond .eq 14, 3), (9, .aload_n 0, 1), (10, .iload_n 2, 1), (11, .iconst 0, 1), (12, .bipush 60, 2), (14, .invokevirtual 557, 3), (17, .ifCond .ne 5, 3), (20, .iconst (-1), 1), (21, .ireturn, 1), (22, .aload_n 0, 1), (23, .invokevirtual 561, 3), (26, .aload_n 0, 1), (27, .iload_n 2, 1), (28, .invokevirtual 564, 3), (31, .aload_n 0, 1), (32, .aload_n 0, 1), (33, .iload_n 1, 1), (34, .invokevirtual 521, 3), (37, .invokevirtual 539, 3), (40, .istore_n 3, 1), (41, .aload_n 0, 1), (42, .invokevirtual 567, 3), (45, .iload_n 3, 1), (46, .ireturn, 1)]
set_option maxRecDepth 100000 in
theorem tkX12_later : ∀ q ∈ tX12_later, decode cX12_later q.1 = .ok q.2 := by decide +kernel
theorem vmX12_later : zVM yX12_later cX12_later 4 (Option.some .int) 2 12 := ⟨kX12_later, q_2069, q_2070, q_162, ⟨_, rfl, rfl⟩, by decide +kernel, by decide⟩
set_option maxHeartbeats 2000000 in
set_option maxRecDepth 20000 in
theorem coX12_later (l : Launch) (e : Nat) (he : 9 ≤ e) (v0 : Nat) (v1 : Int32) (v2 : Int32) : zCo l (e + 1) 0 0 iX12_later 0 [(0, .ref v0), (1, .int v1), (2, .int v2)] [] (X12_later v0 v1 v2) := by
  unfold X12_later
  refine zco_p tkX12_later 0 3 (pc' := 3) (L' := [(0, .ref v0), (1, .int v1), (2, .int v2)]) (S' := [.long v1.toInt64, .ref v0]) rfl ?_
  refine zco_Vi (rc := 0) (rs := 0) (mc := 0) (ms := 0) (As := [.long v1.toInt64]) (S := []) vmX12_isPerson (mtX12_isPerson l e (by omega) v0 v1.toInt64) q_1936 rfl rfl (Nat.le_of_ble_eq_true rfl) (zdk (cc := cX12_later) (q := (3, .invokevirtual 422, 3)) tkX12_later 3 rfl) (fun y1 => ?_)
  refine zco_if_eq (tgt := 20) (zdk (cc := cX12_later) (q := (6, .ifCond .eq 14, 3)) tkX12_later 4 rfl) rfl ?_ ?_
  · refine zco_p tkX12_later 11 1 (pc' := 21) (L' := [(0, .ref v0), (1, .int v1), (2, .int v2)]) (S' := [.int ((-1))]) rfl ?_
    exact zco_iret rfl rfl rfl (zdk (cc := cX12_later) (q := (21, .ireturn, 1)) tkX12_later 12 rfl)
  · refine zco_p tkX12_later 5 4 (pc' := 14) (L' := [(0, .ref v0), (1, .int v1), (2, .int v2)]) (S' := [.int 60, .int 0, .int v2, .ref v0]) rfl ?_
    refine zco_Vi (rc := 0) (rs := 0) (mc := 0) (ms := 0) (As := [.int v2, .int 0, .int 60]) (S := []) vmX12_isAhead (mtX12_isAhead l e (by omega) v0 v2 0 60) q_2072 rfl rfl (Nat.le_of_ble_eq_true rfl) (zdk (cc := cX12_later) (q := (14, .invokevirtual 557, 3)) tkX12_later 9 rfl) (fun y2 => ?_)
    refine zco_if_ne (tgt := 22) (zdk (cc := cX12_later) (q := (17, .ifCond .ne 5, 3)) tkX12_later 10 rfl) rfl ?_ ?_
    · refine zco_p tkX12_later 13 1 (pc' := 23) (L' := [(0, .ref v0), (1, .int v1), (2, .int v2)]) (S' := [.ref v0]) rfl ?_
      refine zco_Vv (rc := 0) (rs := 0) (mc := 0) (ms := 0) (As := []) (S := []) vmX12_putsAside (mtX12_putsAside l e (by omega) v0) q_2076 rfl rfl (Nat.le_of_ble_eq_true rfl) (zdk (cc := cX12_later) (q := (23, .invokevirtual 561, 3)) tkX12_later 14 rfl) ?_
      refine zco_p tkX12_later 15 2 (pc' := 28) (L' := [(0, .ref v0), (1, .int v1), (2, .int v2)]) (S' := [.int v2, .ref v0]) rfl ?_
      refine zco_Vv (rc := 0) (rs := 0) (mc := 0) (ms := 0) (As := [.int v2]) (S := []) vmX12_roundsGo (mtX12_roundsGo l e (by omega) v0 v2) q_2080 rfl rfl (Nat.le_of_ble_eq_true rfl) (zdk (cc := cX12_later) (q := (28, .invokevirtual 564, 3)) tkX12_later 17 rfl) ?_
      refine zco_p tkX12_later 18 3 (pc' := 34) (L' := [(0, .ref v0), (1, .int v1), (2, .int v2)]) (S' := [.int v1, .ref v0, .ref v0]) rfl ?_
      refine zco_Vi (rc := 0) (rs := 0) (mc := 0) (ms := 0) (As := [.int v1]) (S := [.ref v0]) vmX12_wedTo (mtX12_wedTo l e (by omega) v0 v1) q_1968 rfl rfl (Nat.le_of_ble_eq_true rfl) (zdk (cc := cX12_later) (q := (34, .invokevirtual 521, 3)) tkX12_later 21 rfl) (fun y3 => ?_)
      refine zco_Vi (rc := 0) (rs := 0) (mc := 0) (ms := 0) (As := [.int y3]) (S := []) vmX12_toldOf (mtX12_toldOf l e (by omega) v0 y3) q_1972 rfl rfl (Nat.le_of_ble_eq_true rfl) (zdk (cc := cX12_later) (q := (37, .invokevirtual 539, 3)) tkX12_later 22 rfl) (fun y4 => ?_)
      refine zco_p tkX12_later 23 2 (pc' := 42) (L' := [(3, .int y4), (0, .ref v0), (1, .int v1), (2, .int v2)]) (S' := [.ref v0]) rfl ?_
      refine zco_Vv (rc := 0) (rs := 0) (mc := 0) (ms := 0) (As := []) (S := []) vmX12_takesBack (mtX12_takesBack l e (by omega) v0) q_2100 rfl rfl (Nat.le_of_ble_eq_true rfl) (zdk (cc := cX12_later) (q := (42, .invokevirtual 567, 3)) tkX12_later 25 rfl) ?_
      refine zco_p tkX12_later 26 1 (pc' := 46) (L' := [(3, .int y4), (0, .ref v0), (1, .int v1), (2, .int v2)]) (S' := [.int y4]) rfl ?_
      exact zco_iret rfl rfl rfl (zdk (cc := cX12_later) (q := (46, .ireturn, 1)) tkX12_later 27 rfl)
    · refine zco_p tkX12_later 11 1 (pc' := 21) (L' := [(0, .ref v0), (1, .int v1), (2, .int v2)]) (S' := [.int ((-1))]) rfl ?_
      exact zco_iret rfl rfl rfl (zdk (cc := cX12_later) (q := (21, .ireturn, 1)) tkX12_later 12 rfl)
theorem mtX12_later (l : Launch) (d : Nat) (hd : 10 ≤ d) (v0 : Nat) (v1 : Int32) (v2 : Int32) : zMet l d 0 0 yX12_later cX12_later 4 (Option.some .int) [.ref v0, .int v1, .int v2] (X12_later v0 v1 v2) := by
  obtain ⟨e, rfl⟩ : ∃ e, d = e + 1 := ⟨d - 1, by omega⟩
  exact zmet_of (own := RX12) (ini := false) (by decide +kernel) rfl (fun _ => by contradiction) (Nat.le_of_ble_eq_true rfl) (coX12_later l e (by omega) v0 v1 v2)
abbrev iX12_when : zI := (RX12, cX12_when, 4, (Option.some .int), false)
def tX12_when : List (Nat × Instr × Nat) := [(0, .aload_n 0, 1), (1, .iload_n 1, 1), (2, .i2l, 1), (3, .invokevirtual 422, 3), (6, .ifCond .ne 5, 3), (9, .iconst (-1), 1), (10, .ireturn, 1), (11, .iconst 0, 1), (12, .istore_n 2, 1), (13, .aload_n 0, 1), (14, .invokevirtual 561, 3), (17, .aload_n 0, 1), (18, .iload_n 1, 1), (19, .invokevirtual 521, 3), (22, .iconst (-1), 1), (23, .if_icmp .ne 30, 3), (26, .iload_n 2, 1), (27, .bipush 60, 2), (29, .if_icmp .ge 24, 3), (32, .aload_n 0, 1), (33, .iconst 1, 1), (34, .iconst 1, 1), (35, .iconst 1, 1), (36, .invokevirtual 557, 3), (39, .ifCond .eq 14, 3), (42, .aload_n 0, 1), (43, .iconst (-1), 1), (44, .invokevirtual 527, 3), (47, .iinc 2 1, 3), (50, .goto (-33), 3), (53, .aload_n 0, 1), (54, .iload_n 1, 1), (55, .invokevirtual 521, 3), (58, .iconst (-1), 1), (59, .if_icmp .eq 7, 3), (62, .iconst 1, 1), (63, .goto 4, 3), (66, .iconst 0, 1), (67, .istore_n 3, 1), (68, .aload_n 0, 1), (69, .invokevirtual 567, 3), (72, .iload_n 3, 1), (73, .ifCond .eq 7, 3), (76, .iload_n 2, 1), (77, .goto 4, 3), (80, .iconst (-1), 1), (81, .ireturn, 1)]
set_option maxRecDepth 100000 in
theorem tkX12_when : ∀ q ∈ tX12_when, decode cX12_when q.1 = .ok q.2 := by decide +kernel
theorem vmX12_when : zVM yX12_when cX12_when 4 (Option.some .int) 1 12 := ⟨kX12_when, q_2109, q_2110, q_162, ⟨_, rfl, rfl⟩, by decide +kernel, by decide⟩
set_option maxHeartbeats 2000000 in
set_option maxRecDepth 20000 in
theorem coX12_when_J67 (l : Launch) (e : Nat) (he : 8 ≤ e) (v0 : Nat) (v2 : Int32) (s0 : Int32) : zCo l (e + 1) 0 0 iX12_when 67 [(0, .ref v0), (2, .int v2)] [.int s0] (X12_when_J67 v0 v2 s0) := by
  unfold X12_when_J67
  refine zco_p tkX12_when 38 2 (pc' := 69) (L' := [(3, .int s0), (0, .ref v0), (2, .int v2)]) (S' := [.ref v0]) rfl ?_
  refine zco_Vv (rc := 0) (rs := 0) (mc := 0) (ms := 0) (As := []) (S := []) vmX12_takesBack (mtX12_takesBack l e (by omega) v0) q_2100 rfl rfl (Nat.le_of_ble_eq_true rfl) (zdk (cc := cX12_when) (q := (69, .invokevirtual 567, 3)) tkX12_when 40 rfl) ?_
  refine zco_p tkX12_when 41 1 (pc' := 73) (L' := [(3, .int s0), (0, .ref v0), (2, .int v2)]) (S' := [.int s0]) rfl ?_
  refine zco_if_eq (tgt := 80) (zdk (cc := cX12_when) (q := (73, .ifCond .eq 7, 3)) tkX12_when 42 rfl) rfl ?_ ?_
  · refine zco_p tkX12_when 45 1 (pc' := 81) (L' := [(3, .int s0), (0, .ref v0), (2, .int v2)]) (S' := [.int ((-1))]) rfl ?_
    exact zco_iret rfl rfl rfl (zdk (cc := cX12_when) (q := (81, .ireturn, 1)) tkX12_when 46 rfl)
  · refine zco_p tkX12_when 43 2 (pc' := 81) (L' := [(3, .int s0), (0, .ref v0), (2, .int v2)]) (S' := [.int v2]) rfl ?_
    exact zco_iret rfl rfl rfl (zdk (cc := cX12_when) (q := (81, .ireturn, 1)) tkX12_when 46 rfl)
set_option maxHeartbeats 2000000 in
set_option maxRecDepth 20000 in
theorem coX12_when_J53 (l : Launch) (e : Nat) (he : 8 ≤ e) (v0 : Nat) (v1 : Int32) (v2 : Int32) : zCo l (e + 1) 0 0 iX12_when 53 [(0, .ref v0), (1, .int v1), (2, .int v2)] [] (X12_when_J53 v0 v1 v2) := by
  unfold X12_when_J53
  refine zco_p tkX12_when 30 2 (pc' := 55) (L' := [(0, .ref v0), (1, .int v1), (2, .int v2)]) (S' := [.int v1, .ref v0]) rfl ?_
  refine zco_Vi (rc := 0) (rs := 0) (mc := 0) (ms := 0) (As := [.int v1]) (S := []) vmX12_wedTo (mtX12_wedTo l e (by omega) v0 v1) q_1968 rfl rfl (Nat.le_of_ble_eq_true rfl) (zdk (cc := cX12_when) (q := (55, .invokevirtual 521, 3)) tkX12_when 32 rfl) (fun y1 => ?_)
  refine zco_p tkX12_when 33 1 (pc' := 59) (L' := [(0, .ref v0), (1, .int v1), (2, .int v2)]) (S' := [.int ((-1)), .int y1]) rfl ?_
  refine zco_icmp_eq (tgt := 66) (zdk (cc := cX12_when) (q := (59, .if_icmp .eq 7, 3)) tkX12_when 34 rfl) rfl ?_ ?_
  · refine zco_p tkX12_when 37 1 (pc' := 67) (L' := [(0, .ref v0), (1, .int v1), (2, .int v2)]) (S' := [.int 0]) rfl ?_
    exact zco_sub [0, 2] rfl (coX12_when_J67 l e he v0 v2 0)
  · refine zco_p tkX12_when 35 2 (pc' := 67) (L' := [(0, .ref v0), (1, .int v1), (2, .int v2)]) (S' := [.int 1]) rfl ?_
    exact zco_sub [0, 2] rfl (coX12_when_J67 l e he v0 v2 1)
set_option maxHeartbeats 2000000 in
set_option maxRecDepth 20000 in
theorem coX12_when_B17 (l : Launch) (e : Nat) (he : 8 ≤ e) (v0 : Nat) (v1 : Int32) (r17 : Int32 → zM) (hr17 : ∀ x : Int32, zCo l (e + 1) 0 0 iX12_when 17 [(0, .ref v0), (1, .int v1), (2, .int x)] [] (r17 x)) (v2 : Int32) : zCo l (e + 1) 0 0 iX12_when 17 [(0, .ref v0), (1, .int v1), (2, .int v2)] [] (X12_when_B17 v0 v1 r17 v2) := by
  unfold X12_when_B17
  refine zco_p tkX12_when 11 2 (pc' := 19) (L' := [(0, .ref v0), (1, .int v1), (2, .int v2)]) (S' := [.int v1, .ref v0]) rfl ?_
  refine zco_Vi (rc := 0) (rs := 0) (mc := 0) (ms := 0) (As := [.int v1]) (S := []) vmX12_wedTo (mtX12_wedTo l e (by omega) v0 v1) q_1968 rfl rfl (Nat.le_of_ble_eq_true rfl) (zdk (cc := cX12_when) (q := (19, .invokevirtual 521, 3)) tkX12_when 13 rfl) (fun y1 => ?_)
  refine zco_p tkX12_when 14 1 (pc' := 23) (L' := [(0, .ref v0), (1, .int v1), (2, .int v2)]) (S' := [.int ((-1)), .int y1]) rfl ?_
  refine zco_icmp_ne (tgt := 53) (zdk (cc := cX12_when) (q := (23, .if_icmp .ne 30, 3)) tkX12_when 15 rfl) rfl ?_ ?_
  · exact zco_sub [0, 1, 2] rfl (coX12_when_J53 l e he v0 v1 v2)
  · refine zco_p tkX12_when 16 2 (pc' := 29) (L' := [(0, .ref v0), (1, .int v1), (2, .int v2)]) (S' := [.int 60, .int v2]) rfl ?_
    refine zco_icmp_ge (tgt := 53) (zdk (cc := cX12_when) (q := (29, .if_icmp .ge 24, 3)) tkX12_when 18 rfl) rfl ?_ ?_
    · exact zco_sub [0, 1, 2] rfl (coX12_when_J53 l e he v0 v1 v2)
    · refine zco_p tkX12_when 19 4 (pc' := 36) (L' := [(0, .ref v0), (1, .int v1), (2, .int v2)]) (S' := [.int 1, .int 1, .int 1, .ref v0]) rfl ?_
      refine zco_Vi (rc := 0) (rs := 0) (mc := 0) (ms := 0) (As := [.int 1, .int 1, .int 1]) (S := []) vmX12_isAhead (mtX12_isAhead l e (by omega) v0 1 1 1) q_2072 rfl rfl (Nat.le_of_ble_eq_true rfl) (zdk (cc := cX12_when) (q := (36, .invokevirtual 557, 3)) tkX12_when 23 rfl) (fun y2 => ?_)
      refine zco_if_eq (tgt := 53) (zdk (cc := cX12_when) (q := (39, .ifCond .eq 14, 3)) tkX12_when 24 rfl) rfl ?_ ?_
      · exact zco_sub [0, 1, 2] rfl (coX12_when_J53 l e he v0 v1 v2)
      · refine zco_p tkX12_when 25 2 (pc' := 44) (L' := [(0, .ref v0), (1, .int v1), (2, .int v2)]) (S' := [.int ((-1)), .ref v0]) rfl ?_
        refine zco_Vv (rc := 0) (rs := 0) (mc := 0) (ms := 0) (As := [.int ((-1))]) (S := []) vmX12_roundGoes (mtX12_roundGoes l e (by omega) v0 ((-1))) q_2084 rfl rfl (Nat.le_of_ble_eq_true rfl) (zdk (cc := cX12_when) (q := (44, .invokevirtual 527, 3)) tkX12_when 27 rfl) ?_
        refine zco_p tkX12_when 28 2 (pc' := 17) (L' := [(2, .int (v2 + 1)), (0, .ref v0), (1, .int v1)]) (S' := []) rfl ?_
        exact zco_sub [1, 2, 0] rfl (hr17 (v2 + 1))
set_option maxHeartbeats 2000000 in
set_option maxRecDepth 20000 in
theorem coX12_when (l : Launch) (e : Nat) (he : 8 ≤ e) (v0 : Nat) (v1 : Int32) : zCo l (e + 1) 0 0 iX12_when 0 [(0, .ref v0), (1, .int v1)] [] (X12_when v0 v1) := by
  unfold X12_when
  refine zco_p tkX12_when 0 3 (pc' := 3) (L' := [(0, .ref v0), (1, .int v1)]) (S' := [.long v1.toInt64, .ref v0]) rfl ?_
  refine zco_Vi (rc := 0) (rs := 0) (mc := 0) (ms := 0) (As := [.long v1.toInt64]) (S := []) vmX12_isPerson (mtX12_isPerson l e (by omega) v0 v1.toInt64) q_1936 rfl rfl (Nat.le_of_ble_eq_true rfl) (zdk (cc := cX12_when) (q := (3, .invokevirtual 422, 3)) tkX12_when 3 rfl) (fun y1 => ?_)
  refine zco_if_ne (tgt := 11) (zdk (cc := cX12_when) (q := (6, .ifCond .ne 5, 3)) tkX12_when 4 rfl) rfl ?_ ?_
  · refine zco_p tkX12_when 7 3 (pc' := 14) (L' := [(2, .int 0), (0, .ref v0), (1, .int v1)]) (S' := [.ref v0]) rfl ?_
    refine zco_Vv (rc := 0) (rs := 0) (mc := 0) (ms := 0) (As := []) (S := []) vmX12_putsAside (mtX12_putsAside l e (by omega) v0) q_2076 rfl rfl (Nat.le_of_ble_eq_true rfl) (zdk (cc := cX12_when) (q := (14, .invokevirtual 561, 3)) tkX12_when 10 rfl) ?_
    exact zco_sub [1, 2, 0] rfl (zco_fix (Lf := fun x : Int32 => [(0, .ref v0), (1, .int v1), (2, .int x)]) (Sf := fun _ => []) (fun r hr x => coX12_when_B17 l e he v0 v1 r hr x) zFU 0)
  · refine zco_p tkX12_when 5 1 (pc' := 10) (L' := [(0, .ref v0), (1, .int v1)]) (S' := [.int ((-1))]) rfl ?_
    exact zco_iret rfl rfl rfl (zdk (cc := cX12_when) (q := (10, .ireturn, 1)) tkX12_when 6 rfl)
theorem mtX12_when (l : Launch) (d : Nat) (hd : 9 ≤ d) (v0 : Nat) (v1 : Int32) : zMet l d 0 0 yX12_when cX12_when 4 (Option.some .int) [.ref v0, .int v1] (X12_when v0 v1) := by
  obtain ⟨e, rfl⟩ : ∃ e, d = e + 1 := ⟨d - 1, by omega⟩
  exact zmet_of (own := RX12) (ini := false) (by decide +kernel) rfl (fun _ => by contradiction) (Nat.le_of_ble_eq_true rfl) (coX12_when l e (by omega) v0 v1)
abbrev iX12_pairs : zI := (RX12, cX12_pairs, 3, (Option.some .int), false)
def tX12_pairs : List (Nat × Instr × Nat) := [(0, .aload_n 0, 1), (1, .iload_n 1, 1), (2, .iconst 0, 1), (3, .bipush 60, 2), (5, .invokevirtual 557, 3), (8, .ifCond .ne 5, 3), (11, .iconst (-1), 1), (12, .ireturn, 1), (13, .aload_n 0, 1), (14, .invokevirtual 561, 3), (17, .aload_n 0, 1), (18, .iload_n 1, 1), (19, .invokevirtual 564, 3), (22, .aload_n 0, 1), (23, .invokevirtual 533, 3), (26, .istore_n 2, 1), (27, .aload_n 0, 1), (28, .invokevirtual 567, 3), (31, .iload_n 2, 1), (32, .ireturn, 1)]
set_option maxRecDepth 100000 in
theorem tkX12_pairs : ∀ q ∈ tX12_pairs, decode cX12_pairs q.1 = .ok q.2 := by decide +kernel
theorem vmX12_pairs : zVM yX12_pairs cX12_pairs 3 (Option.some .int) 1 12 := ⟨kX12_pairs, q_2113, q_2114, q_162, ⟨_, rfl, rfl⟩, by decide +kernel, by decide⟩
set_option maxHeartbeats 2000000 in
set_option maxRecDepth 20000 in
theorem coX12_pairs (l : Launch) (e : Nat) (he : 9 ≤ e) (v0 : Nat) (v1 : Int32) : zCo l (e + 1) 0 0 iX12_pairs 0 [(0, .ref v0), (1, .int v1)] [] (X12_pairs v0 v1) := by
  unfold X12_pairs
  refine zco_p tkX12_pairs 0 4 (pc' := 5) (L' := [(0, .ref v0), (1, .int v1)]) (S' := [.int 60, .int 0, .int v1, .ref v0]) rfl ?_
  refine zco_Vi (rc := 0) (rs := 0) (mc := 0) (ms := 0) (As := [.int v1, .int 0, .int 60]) (S := []) vmX12_isAhead (mtX12_isAhead l e (by omega) v0 v1 0 60) q_2072 rfl rfl (Nat.le_of_ble_eq_true rfl) (zdk (cc := cX12_pairs) (q := (5, .invokevirtual 557, 3)) tkX12_pairs 4 rfl) (fun y1 => ?_)
  refine zco_if_ne (tgt := 13) (zdk (cc := cX12_pairs) (q := (8, .ifCond .ne 5, 3)) tkX12_pairs 5 rfl) rfl ?_ ?_
  · refine zco_p tkX12_pairs 8 1 (pc' := 14) (L' := [(0, .ref v0), (1, .int v1)]) (S' := [.ref v0]) rfl ?_
    refine zco_Vv (rc := 0) (rs := 0) (mc := 0) (ms := 0) (As := []) (S := []) vmX12_putsAside (mtX12_putsAside l e (by omega) v0) q_2076 rfl rfl (Nat.le_of_ble_eq_true rfl) (zdk (cc := cX12_pairs) (q := (14, .invokevirtual 561, 3)) tkX12_pairs 9 rfl) ?_
    refine zco_p tkX12_pairs 10 2 (pc' := 19) (L' := [(0, .ref v0), (1, .int v1)]) (S' := [.int v1, .ref v0]) rfl ?_
    refine zco_Vv (rc := 0) (rs := 0) (mc := 0) (ms := 0) (As := [.int v1]) (S := []) vmX12_roundsGo (mtX12_roundsGo l e (by omega) v0 v1) q_2080 rfl rfl (Nat.le_of_ble_eq_true rfl) (zdk (cc := cX12_pairs) (q := (19, .invokevirtual 564, 3)) tkX12_pairs 12 rfl) ?_
    refine zco_p tkX12_pairs 13 1 (pc' := 23) (L' := [(0, .ref v0), (1, .int v1)]) (S' := [.ref v0]) rfl ?_
    refine zco_Vi (rc := 0) (rs := 0) (mc := 0) (ms := 0) (As := []) (S := []) vmX12_wedMany (mtX12_wedMany l e (by omega) v0) q_1928 rfl rfl (Nat.le_of_ble_eq_true rfl) (zdk (cc := cX12_pairs) (q := (23, .invokevirtual 533, 3)) tkX12_pairs 14 rfl) (fun y2 => ?_)
    refine zco_p tkX12_pairs 15 2 (pc' := 28) (L' := [(2, .int y2), (0, .ref v0), (1, .int v1)]) (S' := [.ref v0]) rfl ?_
    refine zco_Vv (rc := 0) (rs := 0) (mc := 0) (ms := 0) (As := []) (S := []) vmX12_takesBack (mtX12_takesBack l e (by omega) v0) q_2100 rfl rfl (Nat.le_of_ble_eq_true rfl) (zdk (cc := cX12_pairs) (q := (28, .invokevirtual 567, 3)) tkX12_pairs 17 rfl) ?_
    refine zco_p tkX12_pairs 18 1 (pc' := 32) (L' := [(2, .int y2), (0, .ref v0), (1, .int v1)]) (S' := [.int y2]) rfl ?_
    exact zco_iret rfl rfl rfl (zdk (cc := cX12_pairs) (q := (32, .ireturn, 1)) tkX12_pairs 19 rfl)
  · refine zco_p tkX12_pairs 6 1 (pc' := 12) (L' := [(0, .ref v0), (1, .int v1)]) (S' := [.int ((-1))]) rfl ?_
    exact zco_iret rfl rfl rfl (zdk (cc := cX12_pairs) (q := (12, .ireturn, 1)) tkX12_pairs 7 rfl)
theorem mtX12_pairs (l : Launch) (d : Nat) (hd : 10 ≤ d) (v0 : Nat) (v1 : Int32) : zMet l d 0 0 yX12_pairs cX12_pairs 3 (Option.some .int) [.ref v0, .int v1] (X12_pairs v0 v1) := by
  obtain ⟨e, rfl⟩ : ∃ e, d = e + 1 := ⟨d - 1, by omega⟩
  exact zmet_of (own := RX12) (ini := false) (by decide +kernel) rfl (fun _ => by contradiction) (Nat.le_of_ble_eq_true rfl) (coX12_pairs l e (by omega) v0 v1)
abbrev iX12_matchBy : zI := (RX12, cX12_matchBy, 4, (Option.some .int), false)
def tX12_matchBy : List (Nat × Instr × Nat) := [(0, .iload_n 3, 1), (1, .iconst (-1), 1), (2, .if_icmp .ne 17, 3), (5, .aload_n 0, 1), (6, .getfield 155, 3), (9, .bipush 64, 2), (11, .iload_n 1, 1), (12, .iconst 1, 1), (13, .iadd, 1), (14, .imul, 1), (15, .iload_n 2, 1), (16, .iadd, 1), (17, .iaload, 1), (18, .ireturn, 1), (19, .iload_n 2, 1), (20, .iload_n 3, 1), (21, .ishr, 1), (22, .iconst 1, 1), (23, .iand, 1), (24, .iconst 1, 1), (25, .if_icmp .eq 15, 3), (28, .aload_n 0, 1), (29, .iload_n 1, 1), (30, .bipush 6, 2), (32, .iload_n 3, 1), (33, .iadd, 1), (34, .invokevirtual 496, 3), (37, .ifCond .eq 5, 3), (40, .iconst (-1), 1), (41, .ireturn, 1), (42, .aload_n 0, 1), (43, .getfield 134, 3), (46, .aload_n 0, 1), (47, .iload_n 1, 1), (48, .bipush 6, 2), (50, .iload_n 3, 1), (51, .iadd, 1), (52, .invokevirtual 432, 3), (55, .iaload, 1), (56, .aload_n 0, 1), (57, .getfield 134, 3), (60, .aload_n 0, 1), (61, .bipush 6, 2), (63, .iload_n 3, 1), (64, .iadd, 1), (65, .iload_n 1, 1), (66, .invokevirtual 432, 3), (69, .iaload, 1), (70, .iadd, 1), (71, .aload_n 0, 1), (72, .getfield 155, 3), (75, .bipush 64, 2), (77, .iload_n 1, 1), (78, .iconst 1, 1), (79, .iadd, 1), (80, .imul, 1), (81, .iload_n 2, 1), (82, .iconst 1, 1), (83, .iload_n 3, 1), (84, .ishl, 1), (85, .ior, 1), (86, .iadd, 1), (87, .iaload, 1), (88, .iadd, 1), (89, .ireturn, 1)]
set_option maxRecDepth 100000 in
theorem tkX12_matchBy : ∀ q ∈ tX12_matchBy, decode cX12_matchBy q.1 = .ok q.2 := by decide +kernel
theorem vmX12_matchBy : zVM yX12_matchBy cX12_matchBy 4 (Option.some .int) 3 12 := ⟨kX12_matchBy, q_2126, q_123, q_162, ⟨_, rfl, rfl⟩, by decide +kernel, by decide⟩
set_option maxHeartbeats 2000000 in
set_option maxRecDepth 20000 in
theorem coX12_matchBy (l : Launch) (e : Nat) (he : 1 ≤ e) (v0 : Nat) (v1 : Int32) (v2 : Int32) (v3 : Int32) : zCo l (e + 1) 0 0 iX12_matchBy 0 [(0, .ref v0), (1, .int v1), (2, .int v2), (3, .int v3)] [] (X12_matchBy v0 v1 v2 v3) := by
  unfold X12_matchBy
  refine zco_p tkX12_matchBy 0 2 (pc' := 2) (L' := [(0, .ref v0), (1, .int v1), (2, .int v2), (3, .int v3)]) (S' := [.int ((-1)), .int v3]) rfl ?_
  refine zco_icmp_ne (tgt := 19) (zdk (cc := cX12_matchBy) (q := (2, .if_icmp .ne 17, 3)) tkX12_matchBy 2 rfl) rfl ?_ ?_
  · refine zco_p tkX12_matchBy 14 6 (pc' := 25) (L' := [(0, .ref v0), (1, .int v1), (2, .int v2), (3, .int v3)]) (S' := [.int 1, .int ((v2 >>> (v3 &&& 31)) &&& 1)]) rfl ?_
    refine zco_icmp_eq (tgt := 40) (zdk (cc := cX12_matchBy) (q := (25, .if_icmp .eq 15, 3)) tkX12_matchBy 20 rfl) rfl ?_ ?_
    · refine zco_p tkX12_matchBy 28 1 (pc' := 41) (L' := [(0, .ref v0), (1, .int v1), (2, .int v2), (3, .int v3)]) (S' := [.int ((-1))]) rfl ?_
      exact zco_iret rfl rfl rfl (zdk (cc := cX12_matchBy) (q := (41, .ireturn, 1)) tkX12_matchBy 29 rfl)
    · refine zco_p tkX12_matchBy 21 5 (pc' := 34) (L' := [(0, .ref v0), (1, .int v1), (2, .int v2), (3, .int v3)]) (S' := [.int (6 + v3), .int v1, .ref v0]) rfl ?_
      refine zco_Vi (rc := 0) (rs := 0) (mc := 0) (ms := 0) (As := [.int v1, .int (6 + v3)]) (S := []) vmX12_areKin (mtX12_areKin l e (by omega) v0 v1 (6 + v3)) q_2059 rfl rfl (Nat.le_of_ble_eq_true rfl) (zdk (cc := cX12_matchBy) (q := (34, .invokevirtual 496, 3)) tkX12_matchBy 26 rfl) (fun y1 => ?_)
      refine zco_if_eq (tgt := 42) (zdk (cc := cX12_matchBy) (q := (37, .ifCond .eq 5, 3)) tkX12_matchBy 27 rfl) rfl ?_ ?_
      · refine zco_p tkX12_matchBy 30 1 (pc' := 43) (L' := [(0, .ref v0), (1, .int v1), (2, .int v2), (3, .int v3)]) (S' := [.ref v0]) rfl ?_
        refine zco_gr fl_12_134 rfl (zdk (cc := cX12_matchBy) (q := (43, .getfield 134, 3)) tkX12_matchBy 31 rfl) (fun x2 => ?_)
        refine zco_p tkX12_matchBy 32 5 (pc' := 52) (L' := [(0, .ref v0), (1, .int v1), (2, .int v2), (3, .int v3)]) (S' := [.int (6 + v3), .int v1, .ref v0, .ref x2]) rfl ?_
        refine zco_Vi (rc := 0) (rs := 0) (mc := 0) (ms := 0) (As := [.int v1, .int (6 + v3)]) (S := [.ref x2]) vmX12_likingAt (mtX12_likingAt l e (by omega) v0 v1 (6 + v3)) q_2004 rfl rfl (Nat.le_of_ble_eq_true rfl) (zdk (cc := cX12_matchBy) (q := (52, .invokevirtual 432, 3)) tkX12_matchBy 37 rfl) (fun y3 => ?_)
        refine zco_iaload (zdk (cc := cX12_matchBy) (q := (55, .iaload, 1)) tkX12_matchBy 38 rfl) (fun x4 => ?_)
        refine zco_p tkX12_matchBy 39 1 (pc' := 57) (L' := [(0, .ref v0), (1, .int v1), (2, .int v2), (3, .int v3)]) (S' := [.ref v0, .int x4]) rfl ?_
        refine zco_gr fl_12_134 rfl (zdk (cc := cX12_matchBy) (q := (57, .getfield 134, 3)) tkX12_matchBy 40 rfl) (fun x5 => ?_)
        refine zco_p tkX12_matchBy 41 5 (pc' := 66) (L' := [(0, .ref v0), (1, .int v1), (2, .int v2), (3, .int v3)]) (S' := [.int v1, .int (6 + v3), .ref v0, .ref x5, .int x4]) rfl ?_
        refine zco_Vi (rc := 0) (rs := 0) (mc := 0) (ms := 0) (As := [.int (6 + v3), .int v1]) (S := [.ref x5, .int x4]) vmX12_likingAt (mtX12_likingAt l e (by omega) v0 (6 + v3) v1) q_2004 rfl rfl (Nat.le_of_ble_eq_true rfl) (zdk (cc := cX12_matchBy) (q := (66, .invokevirtual 432, 3)) tkX12_matchBy 46 rfl) (fun y6 => ?_)
        refine zco_iaload (zdk (cc := cX12_matchBy) (q := (69, .iaload, 1)) tkX12_matchBy 47 rfl) (fun x7 => ?_)
        refine zco_p tkX12_matchBy 48 2 (pc' := 72) (L' := [(0, .ref v0), (1, .int v1), (2, .int v2), (3, .int v3)]) (S' := [.ref v0, .int (x4 + x7)]) rfl ?_
        refine zco_gr fl_12_155 rfl (zdk (cc := cX12_matchBy) (q := (72, .getfield 155, 3)) tkX12_matchBy 50 rfl) (fun x8 => ?_)
        refine zco_p tkX12_matchBy 51 11 (pc' := 87) (L' := [(0, .ref v0), (1, .int v1), (2, .int v2), (3, .int v3)]) (S' := [.int ((64 * (v1 + 1)) + (v2 ||| ((1 : Int32) <<< (v3 &&& 31)))), .ref x8, .int (x4 + x7)]) rfl ?_
        refine zco_iaload (zdk (cc := cX12_matchBy) (q := (87, .iaload, 1)) tkX12_matchBy 62 rfl) (fun x9 => ?_)
        refine zco_p tkX12_matchBy 63 1 (pc' := 89) (L' := [(0, .ref v0), (1, .int v1), (2, .int v2), (3, .int v3)]) (S' := [.int ((x4 + x7) + x9)]) rfl ?_
        exact zco_iret rfl rfl rfl (zdk (cc := cX12_matchBy) (q := (89, .ireturn, 1)) tkX12_matchBy 64 rfl)
      · refine zco_p tkX12_matchBy 28 1 (pc' := 41) (L' := [(0, .ref v0), (1, .int v1), (2, .int v2), (3, .int v3)]) (S' := [.int ((-1))]) rfl ?_
        exact zco_iret rfl rfl rfl (zdk (cc := cX12_matchBy) (q := (41, .ireturn, 1)) tkX12_matchBy 29 rfl)
  · refine zco_p tkX12_matchBy 3 1 (pc' := 6) (L' := [(0, .ref v0), (1, .int v1), (2, .int v2), (3, .int v3)]) (S' := [.ref v0]) rfl ?_
    refine zco_gr fl_12_155 rfl (zdk (cc := cX12_matchBy) (q := (6, .getfield 155, 3)) tkX12_matchBy 4 rfl) (fun x10 => ?_)
    refine zco_p tkX12_matchBy 5 7 (pc' := 17) (L' := [(0, .ref v0), (1, .int v1), (2, .int v2), (3, .int v3)]) (S' := [.int ((64 * (v1 + 1)) + v2), .ref x10]) rfl ?_
    refine zco_iaload (zdk (cc := cX12_matchBy) (q := (17, .iaload, 1)) tkX12_matchBy 12 rfl) (fun x11 => ?_)
    exact zco_iret rfl rfl rfl (zdk (cc := cX12_matchBy) (q := (18, .ireturn, 1)) tkX12_matchBy 13 rfl)
theorem mtX12_matchBy (l : Launch) (d : Nat) (hd : 2 ≤ d) (v0 : Nat) (v1 : Int32) (v2 : Int32) (v3 : Int32) : zMet l d 0 0 yX12_matchBy cX12_matchBy 4 (Option.some .int) [.ref v0, .int v1, .int v2, .int v3] (X12_matchBy v0 v1 v2 v3) := by
  obtain ⟨e, rfl⟩ : ∃ e, d = e + 1 := ⟨d - 1, by omega⟩
  exact zmet_of (own := RX12) (ini := false) (by decide +kernel) rfl (fun _ => by contradiction) (Nat.le_of_ble_eq_true rfl) (coX12_matchBy l e (by omega) v0 v1 v2 v3)
abbrev iX12_laysMatch : zI := (RX12, cX12_laysMatch, 5, (Option.none : Option FieldType), false)
def tX12_laysMatch : List (Nat × Instr × Nat) := [(0, .iconst 0, 1), (1, .istore_n 1, 1), (2, .iload_n 1, 1), (3, .bipush 64, 2), (5, .if_icmp .ge 25, 3), (8, .aload_n 0, 1), (9, .getfield 155, 3), (12, .bipush 64, 2), (14, .aload_n 0, 1), (15, .iconst 0, 1), (16, .invokevirtual 416, 3), (19, .imul, 1), (20, .iload_n 1, 1), (21, .iadd, 1), (22, .iconst 0, 1), (23, .iastore, 1), (24, .iinc 1 1, 3), (27, .goto (-25), 3), (30, .aload_n 0, 1), (31, .iconst 0, 1), (32, .invokevirtual 416, 3), (35, .iconst 1, 1), (36, .isub, 1), (37, .istore_n 1, 1), (38, .iload_n 1, 1), (39, .ifCond .lt 77, 3), (42, .iconst 0, 1), (43, .istore_n 2, 1), (44, .iload_n 2, 1), (45, .bipush 64, 2), (47, .if_icmp .ge 63, 3), (50, .iconst 0, 1), (51, .istore_n 3, 1), (52, .iconst (-1), 1), (53, .istore 4, 2), (55, .iload 4, 2), (57, .aload_n 0, 1), (58, .iconst 1, 1), (59, .invokevirtual 416, 3), (62, .if_icmp .ge 30, 3), (65, .aload_n 0, 1), (66, .iload_n 1, 1), (67, .iload_n 2, 1), (68, .iload 4, 2), (70, .invokevirtual 570, 3), (73, .iload_n 3, 1), (74, .if_icmp .le 12, 3), (77, .aload_n 0, 1), (78, .iload_n 1, 1), (79, .iload_n 2, 1), (80, .iload 4, 2), (82, .invokevirtual 570, 3), (85, .istore_n 3, 1), (86, .iinc 4 1, 3), (89, .goto (-34), 3), (92, .aload_n 0, 1), (93, .getfield 155, 3), (96, .bipush 64, 2), (98, .iload_n 1, 1), (99, .imul, 1), (100, .iload_n 2, 1), (101, .iadd, 1), (102, .iload_n 3, 1), (103, .iastore, 1), (104, .iinc 2 1, 3), (107, .goto (-63), 3), (110, .iinc 1 (-1), 3), (113, .goto (-75), 3), (116, .return_, 1)]
set_option maxRecDepth 100000 in
theorem tkX12_laysMatch : ∀ q ∈ tX12_laysMatch, decode cX12_laysMatch q.1 = .ok q.2 := by decide +kernel
theorem vmX12_laysMatch : zVM yX12_laysMatch cX12_laysMatch 5 (Option.none : Option FieldType) 0 12 := ⟨kX12_laysMatch, q_2122, q_122, q_162, ⟨_, rfl, rfl⟩, by decide +kernel, by decide⟩
set_option maxHeartbeats 2000000 in
set_option maxRecDepth 20000 in
theorem coX12_laysMatch_J110 (l : Launch) (e : Nat) (he : 2 ≤ e) (v0 : Nat) (v1 : Int32) (r38 : Int32 → zM) (hr38 : ∀ x : Int32, zCo l (e + 1) 0 0 iX12_laysMatch 38 [(0, .ref v0), (1, .int x)] [] (r38 x)) : zCo l (e + 1) 0 0 iX12_laysMatch 110 [(0, .ref v0), (1, .int v1)] [] (X12_laysMatch_J110 r38 v0 v1) := by
  unfold X12_laysMatch_J110
  refine zco_p tkX12_laysMatch 66 2 (pc' := 38) (L' := [(1, .int (v1 + (-1))), (0, .ref v0)]) (S' := []) rfl ?_
  exact zco_sub [1, 0] rfl (hr38 (v1 + (-1)))
set_option maxHeartbeats 2000000 in
set_option maxRecDepth 20000 in
theorem coX12_laysMatch_J92 (l : Launch) (e : Nat) (he : 2 ≤ e) (v0 : Nat) (v1 : Int32) (v2 : Int32) (v3 : Int32) (r38 : Int32 → zM) (hr38 : ∀ x : Int32, zCo l (e + 1) 0 0 iX12_laysMatch 38 [(0, .ref v0), (1, .int x)] [] (r38 x)) (r44 : Int32 → zM) (hr44 : ∀ x : Int32, zCo l (e + 1) 0 0 iX12_laysMatch 44 [(0, .ref v0), (1, .int v1), (2, .int x)] [] (r44 x)) : zCo l (e + 1) 0 0 iX12_laysMatch 92 [(0, .ref v0), (1, .int v1), (2, .int v2), (3, .int v3)] [] (X12_laysMatch_J92 r38 r44 v0 v1 v2 v3) := by
  unfold X12_laysMatch_J92
  refine zco_p tkX12_laysMatch 55 1 (pc' := 93) (L' := [(0, .ref v0), (1, .int v1), (2, .int v2), (3, .int v3)]) (S' := [.ref v0]) rfl ?_
  refine zco_gr fl_12_155 rfl (zdk (cc := cX12_laysMatch) (q := (93, .getfield 155, 3)) tkX12_laysMatch 56 rfl) (fun x1 => ?_)
  refine zco_p tkX12_laysMatch 57 6 (pc' := 103) (L' := [(0, .ref v0), (1, .int v1), (2, .int v2), (3, .int v3)]) (S' := [.int v3, .int ((64 * v1) + v2), .ref x1]) rfl ?_
  refine zco_iastore (zdk (cc := cX12_laysMatch) (q := (103, .iastore, 1)) tkX12_laysMatch 63 rfl) ?_
  refine zco_p tkX12_laysMatch 64 2 (pc' := 44) (L' := [(2, .int (v2 + 1)), (0, .ref v0), (1, .int v1), (3, .int v3)]) (S' := []) rfl ?_
  exact zco_sub [1, 2, 0] rfl (hr44 (v2 + 1))
set_option maxHeartbeats 2000000 in
set_option maxRecDepth 20000 in
theorem coX12_laysMatch_J86 (l : Launch) (e : Nat) (he : 2 ≤ e) (v0 : Nat) (v1 : Int32) (v2 : Int32) (v3 : Int32) (v4 : Int32) (r38 : Int32 → zM) (hr38 : ∀ x : Int32, zCo l (e + 1) 0 0 iX12_laysMatch 38 [(0, .ref v0), (1, .int x)] [] (r38 x)) (r44 : Int32 → zM) (hr44 : ∀ x : Int32, zCo l (e + 1) 0 0 iX12_laysMatch 44 [(0, .ref v0), (1, .int v1), (2, .int x)] [] (r44 x)) (r55 : Int32 × Int32 → zM) (hr55 : ∀ x : Int32 × Int32, zCo l (e + 1) 0 0 iX12_laysMatch 55 [(0, .ref v0), (1, .int v1), (2, .int v2), (3, .int x.1), (4, .int x.2)] [] (r55 x)) : zCo l (e + 1) 0 0 iX12_laysMatch 86 [(0, .ref v0), (1, .int v1), (2, .int v2), (3, .int v3), (4, .int v4)] [] (X12_laysMatch_J86 r38 r44 r55 v0 v1 v2 v3 v4) := by
  unfold X12_laysMatch_J86
  refine zco_p tkX12_laysMatch 53 2 (pc' := 55) (L' := [(4, .int (v4 + 1)), (0, .ref v0), (1, .int v1), (2, .int v2), (3, .int v3)]) (S' := []) rfl ?_
  exact zco_sub [1, 2, 3, 4, 0] rfl (hr55 (v3, v4 + 1))
set_option maxHeartbeats 2000000 in
set_option maxRecDepth 20000 in
theorem coX12_laysMatch_B55 (l : Launch) (e : Nat) (he : 2 ≤ e) (v0 : Nat) (v1 : Int32) (v2 : Int32) (r38 : Int32 → zM) (hr38 : ∀ x : Int32, zCo l (e + 1) 0 0 iX12_laysMatch 38 [(0, .ref v0), (1, .int x)] [] (r38 x)) (r44 : Int32 → zM) (hr44 : ∀ x : Int32, zCo l (e + 1) 0 0 iX12_laysMatch 44 [(0, .ref v0), (1, .int v1), (2, .int x)] [] (r44 x)) (r55 : Int32 × Int32 → zM) (hr55 : ∀ x : Int32 × Int32, zCo l (e + 1) 0 0 iX12_laysMatch 55 [(0, .ref v0), (1, .int v1), (2, .int v2), (3, .int x.1), (4, .int x.2)] [] (r55 x)) (v3 : Int32) (v4 : Int32) : zCo l (e + 1) 0 0 iX12_laysMatch 55 [(0, .ref v0), (1, .int v1), (2, .int v2), (3, .int v3), (4, .int v4)] [] (X12_laysMatch_B55 r38 r44 v0 v1 v2 r55 v3 v4) := by
  unfold X12_laysMatch_B55
  refine zco_p tkX12_laysMatch 35 3 (pc' := 59) (L' := [(0, .ref v0), (1, .int v1), (2, .int v2), (3, .int v3), (4, .int v4)]) (S' := [.int 1, .ref v0, .int v4]) rfl ?_
  refine zco_Vi (rc := 0) (rs := 0) (mc := 0) (ms := 0) (As := [.int 1]) (S := [.int v4]) vmX12_sideMany (mtX12_sideMany l e (by omega) v0 1) q_1944 rfl rfl (Nat.le_of_ble_eq_true rfl) (zdk (cc := cX12_laysMatch) (q := (59, .invokevirtual 416, 3)) tkX12_laysMatch 38 rfl) (fun y1 => ?_)
  refine zco_icmp_ge (tgt := 92) (zdk (cc := cX12_laysMatch) (q := (62, .if_icmp .ge 30, 3)) tkX12_laysMatch 39 rfl) rfl ?_ ?_
  · exact zco_sub [0, 1, 2, 3] rfl (coX12_laysMatch_J92 l e he v0 v1 v2 v3 r38 hr38 r44 hr44)
  · refine zco_p tkX12_laysMatch 40 4 (pc' := 70) (L' := [(0, .ref v0), (1, .int v1), (2, .int v2), (3, .int v3), (4, .int v4)]) (S' := [.int v4, .int v2, .int v1, .ref v0]) rfl ?_
    refine zco_Vi (rc := 0) (rs := 0) (mc := 0) (ms := 0) (As := [.int v1, .int v2, .int v4]) (S := []) vmX12_matchBy (mtX12_matchBy l e (by omega) v0 v1 v2 v4) q_2124 rfl rfl (Nat.le_of_ble_eq_true rfl) (zdk (cc := cX12_laysMatch) (q := (70, .invokevirtual 570, 3)) tkX12_laysMatch 44 rfl) (fun y2 => ?_)
    refine zco_p tkX12_laysMatch 45 1 (pc' := 74) (L' := [(0, .ref v0), (1, .int v1), (2, .int v2), (3, .int v3), (4, .int v4)]) (S' := [.int v3, .int y2]) rfl ?_
    refine zco_icmp_le (tgt := 86) (zdk (cc := cX12_laysMatch) (q := (74, .if_icmp .le 12, 3)) tkX12_laysMatch 46 rfl) rfl ?_ ?_
    · exact zco_sub [0, 1, 2, 3, 4] rfl (coX12_laysMatch_J86 l e he v0 v1 v2 v3 v4 r38 hr38 r44 hr44 r55 hr55)
    · refine zco_p tkX12_laysMatch 47 4 (pc' := 82) (L' := [(0, .ref v0), (1, .int v1), (2, .int v2), (3, .int v3), (4, .int v4)]) (S' := [.int v4, .int v2, .int v1, .ref v0]) rfl ?_
      refine zco_Vi (rc := 0) (rs := 0) (mc := 0) (ms := 0) (As := [.int v1, .int v2, .int v4]) (S := []) vmX12_matchBy (mtX12_matchBy l e (by omega) v0 v1 v2 v4) q_2124 rfl rfl (Nat.le_of_ble_eq_true rfl) (zdk (cc := cX12_laysMatch) (q := (82, .invokevirtual 570, 3)) tkX12_laysMatch 51 rfl) (fun y3 => ?_)
      refine zco_p tkX12_laysMatch 52 1 (pc' := 86) (L' := [(3, .int y3), (0, .ref v0), (1, .int v1), (2, .int v2), (4, .int v4)]) (S' := []) rfl ?_
      exact zco_sub [1, 2, 3, 0, 4] rfl (coX12_laysMatch_J86 l e he v0 v1 v2 y3 v4 r38 hr38 r44 hr44 r55 hr55)
set_option maxHeartbeats 2000000 in
set_option maxRecDepth 20000 in
theorem coX12_laysMatch_B44 (l : Launch) (e : Nat) (he : 2 ≤ e) (v0 : Nat) (v1 : Int32) (r38 : Int32 → zM) (hr38 : ∀ x : Int32, zCo l (e + 1) 0 0 iX12_laysMatch 38 [(0, .ref v0), (1, .int x)] [] (r38 x)) (r44 : Int32 → zM) (hr44 : ∀ x : Int32, zCo l (e + 1) 0 0 iX12_laysMatch 44 [(0, .ref v0), (1, .int v1), (2, .int x)] [] (r44 x)) (v2 : Int32) : zCo l (e + 1) 0 0 iX12_laysMatch 44 [(0, .ref v0), (1, .int v1), (2, .int v2)] [] (X12_laysMatch_B44 r38 v0 v1 r44 v2) := by
  unfold X12_laysMatch_B44
  refine zco_p tkX12_laysMatch 28 2 (pc' := 47) (L' := [(0, .ref v0), (1, .int v1), (2, .int v2)]) (S' := [.int 64, .int v2]) rfl ?_
  refine zco_icmp_ge (tgt := 110) (zdk (cc := cX12_laysMatch) (q := (47, .if_icmp .ge 63, 3)) tkX12_laysMatch 30 rfl) rfl ?_ ?_
  · exact zco_sub [0, 1] rfl (coX12_laysMatch_J110 l e he v0 v1 r38 hr38)
  · refine zco_p tkX12_laysMatch 31 4 (pc' := 55) (L' := [(4, .int ((-1))), (3, .int 0), (0, .ref v0), (1, .int v1), (2, .int v2)]) (S' := []) rfl ?_
    exact zco_sub [2, 3, 4, 1, 0] rfl (zco_fix (Lf := fun x : Int32 × Int32 => [(0, .ref v0), (1, .int v1), (2, .int v2), (3, .int x.1), (4, .int x.2)]) (Sf := fun _ => []) (fun r hr x => coX12_laysMatch_B55 l e he v0 v1 v2 r38 hr38 r44 hr44 r hr x.1 x.2) zFU (0, (-1)))
set_option maxHeartbeats 2000000 in
set_option maxRecDepth 20000 in
theorem coX12_laysMatch_B38 (l : Launch) (e : Nat) (he : 2 ≤ e) (v0 : Nat) (r38 : Int32 → zM) (hr38 : ∀ x : Int32, zCo l (e + 1) 0 0 iX12_laysMatch 38 [(0, .ref v0), (1, .int x)] [] (r38 x)) (v1 : Int32) : zCo l (e + 1) 0 0 iX12_laysMatch 38 [(0, .ref v0), (1, .int v1)] [] (X12_laysMatch_B38 v0 r38 v1) := by
  unfold X12_laysMatch_B38
  refine zco_p tkX12_laysMatch 24 1 (pc' := 39) (L' := [(0, .ref v0), (1, .int v1)]) (S' := [.int v1]) rfl ?_
  refine zco_if_lt (tgt := 116) (zdk (cc := cX12_laysMatch) (q := (39, .ifCond .lt 77, 3)) tkX12_laysMatch 25 rfl) rfl ?_ ?_
  · exact zco_vret rfl rfl rfl (zdk (cc := cX12_laysMatch) (q := (116, .return_, 1)) tkX12_laysMatch 68 rfl)
  · refine zco_p tkX12_laysMatch 26 2 (pc' := 44) (L' := [(2, .int 0), (0, .ref v0), (1, .int v1)]) (S' := []) rfl ?_
    exact zco_sub [1, 2, 0] rfl (zco_fix (Lf := fun x : Int32 => [(0, .ref v0), (1, .int v1), (2, .int x)]) (Sf := fun _ => []) (fun r hr x => coX12_laysMatch_B44 l e he v0 v1 r38 hr38 r hr x) zFU 0)
set_option maxHeartbeats 2000000 in
set_option maxRecDepth 20000 in
theorem coX12_laysMatch_J30 (l : Launch) (e : Nat) (he : 2 ≤ e) (v0 : Nat) : zCo l (e + 1) 0 0 iX12_laysMatch 30 [(0, .ref v0)] [] (X12_laysMatch_J30 v0) := by
  unfold X12_laysMatch_J30
  refine zco_p tkX12_laysMatch 18 2 (pc' := 32) (L' := [(0, .ref v0)]) (S' := [.int 0, .ref v0]) rfl ?_
  refine zco_Vi (rc := 0) (rs := 0) (mc := 0) (ms := 0) (As := [.int 0]) (S := []) vmX12_sideMany (mtX12_sideMany l e (by omega) v0 0) q_1944 rfl rfl (Nat.le_of_ble_eq_true rfl) (zdk (cc := cX12_laysMatch) (q := (32, .invokevirtual 416, 3)) tkX12_laysMatch 20 rfl) (fun y1 => ?_)
  refine zco_p tkX12_laysMatch 21 3 (pc' := 38) (L' := [(1, .int (y1 - 1)), (0, .ref v0)]) (S' := []) rfl ?_
  exact zco_sub [1, 0] rfl (zco_fix (Lf := fun x : Int32 => [(0, .ref v0), (1, .int x)]) (Sf := fun _ => []) (fun r hr x => coX12_laysMatch_B38 l e he v0 r hr x) zFU (y1 - 1))
set_option maxHeartbeats 2000000 in
set_option maxRecDepth 20000 in
theorem coX12_laysMatch_B2 (l : Launch) (e : Nat) (he : 2 ≤ e) (v0 : Nat) (r2 : Int32 → zM) (hr2 : ∀ x : Int32, zCo l (e + 1) 0 0 iX12_laysMatch 2 [(0, .ref v0), (1, .int x)] [] (r2 x)) (v1 : Int32) : zCo l (e + 1) 0 0 iX12_laysMatch 2 [(0, .ref v0), (1, .int v1)] [] (X12_laysMatch_B2 v0 r2 v1) := by
  unfold X12_laysMatch_B2
  refine zco_p tkX12_laysMatch 2 2 (pc' := 5) (L' := [(0, .ref v0), (1, .int v1)]) (S' := [.int 64, .int v1]) rfl ?_
  refine zco_icmp_ge (tgt := 30) (zdk (cc := cX12_laysMatch) (q := (5, .if_icmp .ge 25, 3)) tkX12_laysMatch 4 rfl) rfl ?_ ?_
  · exact zco_sub [0] rfl (coX12_laysMatch_J30 l e he v0)
  · refine zco_p tkX12_laysMatch 5 1 (pc' := 9) (L' := [(0, .ref v0), (1, .int v1)]) (S' := [.ref v0]) rfl ?_
    refine zco_gr fl_12_155 rfl (zdk (cc := cX12_laysMatch) (q := (9, .getfield 155, 3)) tkX12_laysMatch 6 rfl) (fun x1 => ?_)
    refine zco_p tkX12_laysMatch 7 3 (pc' := 16) (L' := [(0, .ref v0), (1, .int v1)]) (S' := [.int 0, .ref v0, .int 64, .ref x1]) rfl ?_
    refine zco_Vi (rc := 0) (rs := 0) (mc := 0) (ms := 0) (As := [.int 0]) (S := [.int 64, .ref x1]) vmX12_sideMany (mtX12_sideMany l e (by omega) v0 0) q_1944 rfl rfl (Nat.le_of_ble_eq_true rfl) (zdk (cc := cX12_laysMatch) (q := (16, .invokevirtual 416, 3)) tkX12_laysMatch 10 rfl) (fun y2 => ?_)
    refine zco_p tkX12_laysMatch 11 4 (pc' := 23) (L' := [(0, .ref v0), (1, .int v1)]) (S' := [.int 0, .int ((64 * y2) + v1), .ref x1]) rfl ?_
    refine zco_iastore (zdk (cc := cX12_laysMatch) (q := (23, .iastore, 1)) tkX12_laysMatch 15 rfl) ?_
    refine zco_p tkX12_laysMatch 16 2 (pc' := 2) (L' := [(1, .int (v1 + 1)), (0, .ref v0)]) (S' := []) rfl ?_
    exact zco_sub [1, 0] rfl (hr2 (v1 + 1))
set_option maxHeartbeats 2000000 in
set_option maxRecDepth 20000 in
theorem coX12_laysMatch (l : Launch) (e : Nat) (he : 2 ≤ e) (v0 : Nat) : zCo l (e + 1) 0 0 iX12_laysMatch 0 [(0, .ref v0)] [] (X12_laysMatch v0) := by
  unfold X12_laysMatch
  refine zco_p tkX12_laysMatch 0 2 (pc' := 2) (L' := [(1, .int 0), (0, .ref v0)]) (S' := []) rfl ?_
  exact zco_sub [1, 0] rfl (zco_fix (Lf := fun x : Int32 => [(0, .ref v0), (1, .int x)]) (Sf := fun _ => []) (fun r hr x => coX12_laysMatch_B2 l e he v0 r hr x) zFU 0)
theorem mtX12_laysMatch (l : Launch) (d : Nat) (hd : 3 ≤ d) (v0 : Nat) : zMet l d 0 0 yX12_laysMatch cX12_laysMatch 5 (Option.none : Option FieldType) [.ref v0] (X12_laysMatch v0) := by
  obtain ⟨e, rfl⟩ : ∃ e, d = e + 1 := ⟨d - 1, by omega⟩
  exact zmet_of (own := RX12) (ini := false) (by decide +kernel) rfl (fun _ => by contradiction) (Nat.le_of_ble_eq_true rfl) (coX12_laysMatch l e (by omega) v0)
abbrev iX12_match : zI := (RX12, cX12_match, 5, (Option.some .int), false)
def tX12_match : List (Nat × Instr × Nat) := [(0, .iload_n 1, 1), (1, .iconst (-1), 1), (2, .if_icmp .eq 22, 3), (5, .iload_n 1, 1), (6, .i2l, 1), (7, .lconst 0, 1), (8, .aload_n 0, 1), (9, .iconst 0, 1), (10, .invokevirtual 416, 3), (13, .iconst 1, 1), (14, .isub, 1), (15, .i2l, 1), (16, .invokestatic 313, 3), (19, .ifCond .ne 5, 3), (22, .iconst (-1), 1), (23, .ireturn, 1), (24, .aload_n 0, 1), (25, .invokevirtual 574, 3), (28, .iload_n 1, 1), (29, .iconst (-1), 1), (30, .if_icmp .ne 10, 3), (33, .aload_n 0, 1), (34, .getfield 155, 3), (37, .iconst 0, 1), (38, .iaload, 1), (39, .ireturn, 1), (40, .iconst 0, 1), (41, .istore_n 2, 1), (42, .iconst (-1), 1), (43, .istore_n 3, 1), (44, .iconst 0, 1), (45, .istore 4, 2), (47, .iload 4, 2), (49, .iload_n 1, 1), (50, .if_icmp .gt 51, 3), (53, .iconst (-1), 1), (54, .istore_n 3, 1), (55, .aload_n 0, 1), (56, .iload 4, 2), (58, .iload_n 2, 1), (59, .iload_n 3, 1), (60, .invokevirtual 570, 3), (63, .aload_n 0, 1), (64, .getfield 155, 3), (67, .bipush 64, 2), (69, .iload 4, 2), (71, .imul, 1), (72, .iload_n 2, 1), (73, .iadd, 1), (74, .iaload, 1), (75, .if_icmp .eq 9, 3), (78, .iinc 3 1, 3), (81, .goto (-26), 3), (84, .iload_n 3, 1), (85, .iconst (-1), 1), (86, .if_icmp .eq 9, 3), (89, .iload_n 2, 1), (90, .iconst 1, 1), (91, .iload_n 3, 1), (92, .ishl, 1), (93, .ior, 1), (94, .istore_n 2, 1), (95, .iinc 4 1, 3), (98, .goto (-51), 3), (101, .iload_n 3, 1), (102, .iconst (-1), 1), (103, .if_icmp .ne 7, 3), (106, .iconst (-1), 1), (107, .goto 11, 3), (110, .aload_n 0, 1), (111, .bipush 6, 2), (113, .iload_n 3, 1), (114, .iadd, 1), (115, .invokevirtual 455, 3), (118, .ireturn, 1)]
set_option maxRecDepth 100000 in
theorem tkX12_match : ∀ q ∈ tX12_match, decode cX12_match q.1 = .ok q.2 := by decide +kernel
theorem vmX12_match : zVM yX12_match cX12_match 5 (Option.some .int) 1 12 := ⟨kX12_match, q_2117, q_2118, q_162, ⟨_, rfl, rfl⟩, by decide +kernel, by decide⟩
set_option maxHeartbeats 2000000 in
set_option maxRecDepth 20000 in
theorem coX12_match_J101 (l : Launch) (e : Nat) (he : 3 ≤ e) (v0 : Nat) (v3 : Int32) : zCo l (e + 1) 0 0 iX12_match 101 [(0, .ref v0), (3, .int v3)] [] (X12_match_J101 v0 v3) := by
  unfold X12_match_J101
  refine zco_p tkX12_match 64 2 (pc' := 103) (L' := [(0, .ref v0), (3, .int v3)]) (S' := [.int ((-1)), .int v3]) rfl ?_
  refine zco_icmp_ne (tgt := 110) (zdk (cc := cX12_match) (q := (103, .if_icmp .ne 7, 3)) tkX12_match 66 rfl) rfl ?_ ?_
  · refine zco_p tkX12_match 69 4 (pc' := 115) (L' := [(0, .ref v0), (3, .int v3)]) (S' := [.int (6 + v3), .ref v0]) rfl ?_
    refine zco_Vi (rc := 0) (rs := 0) (mc := 0) (ms := 0) (As := [.int (6 + v3)]) (S := []) vmX12_numberOf (mtX12_numberOf l e (by omega) v0 (6 + v3)) q_1976 rfl rfl (Nat.le_of_ble_eq_true rfl) (zdk (cc := cX12_match) (q := (115, .invokevirtual 455, 3)) tkX12_match 73 rfl) (fun y1 => ?_)
    exact zco_iret rfl rfl rfl (zdk (cc := cX12_match) (q := (118, .ireturn, 1)) tkX12_match 74 rfl)
  · refine zco_p tkX12_match 67 2 (pc' := 118) (L' := [(0, .ref v0), (3, .int v3)]) (S' := [.int ((-1))]) rfl ?_
    exact zco_iret rfl rfl rfl (zdk (cc := cX12_match) (q := (118, .ireturn, 1)) tkX12_match 74 rfl)
set_option maxHeartbeats 2000000 in
set_option maxRecDepth 20000 in
theorem coX12_match_J95 (l : Launch) (e : Nat) (he : 3 ≤ e) (v0 : Nat) (v1 : Int32) (v2 : Int32) (v3 : Int32) (v4 : Int32) (r47 : Int32 × Int32 × Int32 → zM) (hr47 : ∀ x : Int32 × Int32 × Int32, zCo l (e + 1) 0 0 iX12_match 47 [(0, .ref v0), (1, .int v1), (2, .int x.1), (3, .int x.2.1), (4, .int x.2.2)] [] (r47 x)) : zCo l (e + 1) 0 0 iX12_match 95 [(0, .ref v0), (1, .int v1), (2, .int v2), (3, .int v3), (4, .int v4)] [] (X12_match_J95 r47 v0 v1 v2 v3 v4) := by
  unfold X12_match_J95
  refine zco_p tkX12_match 62 2 (pc' := 47) (L' := [(4, .int (v4 + 1)), (0, .ref v0), (1, .int v1), (2, .int v2), (3, .int v3)]) (S' := []) rfl ?_
  exact zco_sub [1, 2, 3, 4, 0] rfl (hr47 (v2, v3, v4 + 1))
set_option maxHeartbeats 2000000 in
set_option maxRecDepth 20000 in
theorem coX12_match_J84 (l : Launch) (e : Nat) (he : 3 ≤ e) (v0 : Nat) (v1 : Int32) (v2 : Int32) (v3 : Int32) (v4 : Int32) (r47 : Int32 × Int32 × Int32 → zM) (hr47 : ∀ x : Int32 × Int32 × Int32, zCo l (e + 1) 0 0 iX12_match 47 [(0, .ref v0), (1, .int v1), (2, .int x.1), (3, .int x.2.1), (4, .int x.2.2)] [] (r47 x)) : zCo l (e + 1) 0 0 iX12_match 84 [(0, .ref v0), (1, .int v1), (2, .int v2), (3, .int v3), (4, .int v4)] [] (X12_match_J84 r47 v0 v1 v2 v3 v4) := by
  unfold X12_match_J84
  refine zco_p tkX12_match 53 2 (pc' := 86) (L' := [(0, .ref v0), (1, .int v1), (2, .int v2), (3, .int v3), (4, .int v4)]) (S' := [.int ((-1)), .int v3]) rfl ?_
  refine zco_icmp_eq (tgt := 95) (zdk (cc := cX12_match) (q := (86, .if_icmp .eq 9, 3)) tkX12_match 55 rfl) rfl ?_ ?_
  · exact zco_sub [0, 1, 2, 3, 4] rfl (coX12_match_J95 l e he v0 v1 v2 v3 v4 r47 hr47)
  · refine zco_p tkX12_match 56 6 (pc' := 95) (L' := [(2, .int (v2 ||| ((1 : Int32) <<< (v3 &&& 31)))), (0, .ref v0), (1, .int v1), (3, .int v3), (4, .int v4)]) (S' := []) rfl ?_
    exact zco_sub [1, 2, 0, 3, 4] rfl (coX12_match_J95 l e he v0 v1 (v2 ||| ((1 : Int32) <<< (v3 &&& 31))) v3 v4 r47 hr47)
set_option maxHeartbeats 2000000 in
set_option maxRecDepth 20000 in
theorem coX12_match_B55 (l : Launch) (e : Nat) (he : 3 ≤ e) (v0 : Nat) (v1 : Int32) (v2 : Int32) (v4 : Int32) (r47 : Int32 × Int32 × Int32 → zM) (hr47 : ∀ x : Int32 × Int32 × Int32, zCo l (e + 1) 0 0 iX12_match 47 [(0, .ref v0), (1, .int v1), (2, .int x.1), (3, .int x.2.1), (4, .int x.2.2)] [] (r47 x)) (r55 : Int32 → zM) (hr55 : ∀ x : Int32, zCo l (e + 1) 0 0 iX12_match 55 [(0, .ref v0), (1, .int v1), (2, .int v2), (3, .int x), (4, .int v4)] [] (r55 x)) (v3 : Int32) : zCo l (e + 1) 0 0 iX12_match 55 [(0, .ref v0), (1, .int v1), (2, .int v2), (3, .int v3), (4, .int v4)] [] (X12_match_B55 r47 v0 v1 v2 v4 r55 v3) := by
  unfold X12_match_B55
  refine zco_p tkX12_match 37 4 (pc' := 60) (L' := [(0, .ref v0), (1, .int v1), (2, .int v2), (3, .int v3), (4, .int v4)]) (S' := [.int v3, .int v2, .int v4, .ref v0]) rfl ?_
  refine zco_Vi (rc := 0) (rs := 0) (mc := 0) (ms := 0) (As := [.int v4, .int v2, .int v3]) (S := []) vmX12_matchBy (mtX12_matchBy l e (by omega) v0 v4 v2 v3) q_2124 rfl rfl (Nat.le_of_ble_eq_true rfl) (zdk (cc := cX12_match) (q := (60, .invokevirtual 570, 3)) tkX12_match 41 rfl) (fun y1 => ?_)
  refine zco_p tkX12_match 42 1 (pc' := 64) (L' := [(0, .ref v0), (1, .int v1), (2, .int v2), (3, .int v3), (4, .int v4)]) (S' := [.ref v0, .int y1]) rfl ?_
  refine zco_gr fl_12_155 rfl (zdk (cc := cX12_match) (q := (64, .getfield 155, 3)) tkX12_match 43 rfl) (fun x2 => ?_)
  refine zco_p tkX12_match 44 5 (pc' := 74) (L' := [(0, .ref v0), (1, .int v1), (2, .int v2), (3, .int v3), (4, .int v4)]) (S' := [.int ((64 * v4) + v2), .ref x2, .int y1]) rfl ?_
  refine zco_iaload (zdk (cc := cX12_match) (q := (74, .iaload, 1)) tkX12_match 49 rfl) (fun x3 => ?_)
  refine zco_icmp_eq (tgt := 84) (zdk (cc := cX12_match) (q := (75, .if_icmp .eq 9, 3)) tkX12_match 50 rfl) rfl ?_ ?_
  · exact zco_sub [0, 1, 2, 3, 4] rfl (coX12_match_J84 l e he v0 v1 v2 v3 v4 r47 hr47)
  · refine zco_p tkX12_match 51 2 (pc' := 55) (L' := [(3, .int (v3 + 1)), (0, .ref v0), (1, .int v1), (2, .int v2), (4, .int v4)]) (S' := []) rfl ?_
    exact zco_sub [1, 2, 3, 0, 4] rfl (hr55 (v3 + 1))
set_option maxHeartbeats 2000000 in
set_option maxRecDepth 20000 in
theorem coX12_match_B47 (l : Launch) (e : Nat) (he : 3 ≤ e) (v0 : Nat) (v1 : Int32) (r47 : Int32 × Int32 × Int32 → zM) (hr47 : ∀ x : Int32 × Int32 × Int32, zCo l (e + 1) 0 0 iX12_match 47 [(0, .ref v0), (1, .int v1), (2, .int x.1), (3, .int x.2.1), (4, .int x.2.2)] [] (r47 x)) (v2 : Int32) (v3 : Int32) (v4 : Int32) : zCo l (e + 1) 0 0 iX12_match 47 [(0, .ref v0), (1, .int v1), (2, .int v2), (3, .int v3), (4, .int v4)] [] (X12_match_B47 v0 v1 r47 v2 v3 v4) := by
  unfold X12_match_B47
  refine zco_p tkX12_match 32 2 (pc' := 50) (L' := [(0, .ref v0), (1, .int v1), (2, .int v2), (3, .int v3), (4, .int v4)]) (S' := [.int v1, .int v4]) rfl ?_
  refine zco_icmp_gt (tgt := 101) (zdk (cc := cX12_match) (q := (50, .if_icmp .gt 51, 3)) tkX12_match 34 rfl) rfl ?_ ?_
  · exact zco_sub [0, 3] rfl (coX12_match_J101 l e he v0 v3)
  · refine zco_p tkX12_match 35 2 (pc' := 55) (L' := [(3, .int ((-1))), (0, .ref v0), (1, .int v1), (2, .int v2), (4, .int v4)]) (S' := []) rfl ?_
    exact zco_sub [1, 2, 3, 0, 4] rfl (zco_fix (Lf := fun x : Int32 => [(0, .ref v0), (1, .int v1), (2, .int v2), (3, .int x), (4, .int v4)]) (Sf := fun _ => []) (fun r hr x => coX12_match_B55 l e he v0 v1 v2 v4 r47 hr47 r hr x) zFU ((-1)))
set_option maxHeartbeats 2000000 in
set_option maxRecDepth 20000 in
theorem coX12_match_J24 (l : Launch) (e : Nat) (he : 3 ≤ e) (v0 : Nat) (v1 : Int32) : zCo l (e + 1) 0 0 iX12_match 24 [(0, .ref v0), (1, .int v1)] [] (X12_match_J24 v0 v1) := by
  unfold X12_match_J24
  refine zco_p tkX12_match 16 1 (pc' := 25) (L' := [(0, .ref v0), (1, .int v1)]) (S' := [.ref v0]) rfl ?_
  refine zco_Vv (rc := 0) (rs := 0) (mc := 0) (ms := 0) (As := []) (S := []) vmX12_laysMatch (mtX12_laysMatch l e (by omega) v0) q_2120 rfl rfl (Nat.le_of_ble_eq_true rfl) (zdk (cc := cX12_match) (q := (25, .invokevirtual 574, 3)) tkX12_match 17 rfl) ?_
  refine zco_p tkX12_match 18 2 (pc' := 30) (L' := [(0, .ref v0), (1, .int v1)]) (S' := [.int ((-1)), .int v1]) rfl ?_
  refine zco_icmp_ne (tgt := 40) (zdk (cc := cX12_match) (q := (30, .if_icmp .ne 10, 3)) tkX12_match 20 rfl) rfl ?_ ?_
  · refine zco_p tkX12_match 26 6 (pc' := 47) (L' := [(4, .int 0), (3, .int ((-1))), (2, .int 0), (0, .ref v0), (1, .int v1)]) (S' := []) rfl ?_
    exact zco_sub [3, 4, 2, 1, 0] rfl (zco_fix (Lf := fun x : Int32 × Int32 × Int32 => [(0, .ref v0), (1, .int v1), (2, .int x.1), (3, .int x.2.1), (4, .int x.2.2)]) (Sf := fun _ => []) (fun r hr x => coX12_match_B47 l e he v0 v1 r hr x.1 x.2.1 x.2.2) zFU (0, (-1), 0))
  · refine zco_p tkX12_match 21 1 (pc' := 34) (L' := [(0, .ref v0), (1, .int v1)]) (S' := [.ref v0]) rfl ?_
    refine zco_gr fl_12_155 rfl (zdk (cc := cX12_match) (q := (34, .getfield 155, 3)) tkX12_match 22 rfl) (fun x1 => ?_)
    refine zco_p tkX12_match 23 1 (pc' := 38) (L' := [(0, .ref v0), (1, .int v1)]) (S' := [.int 0, .ref x1]) rfl ?_
    refine zco_iaload (zdk (cc := cX12_match) (q := (38, .iaload, 1)) tkX12_match 24 rfl) (fun x2 => ?_)
    exact zco_iret rfl rfl rfl (zdk (cc := cX12_match) (q := (39, .ireturn, 1)) tkX12_match 25 rfl)
set_option maxHeartbeats 2000000 in
set_option maxRecDepth 20000 in
theorem coX12_match (l : Launch) (e : Nat) (he : 3 ≤ e) (v0 : Nat) (v1 : Int32) : zCo l (e + 1) 0 0 iX12_match 0 [(0, .ref v0), (1, .int v1)] [] (X12_match v0 v1) := by
  unfold X12_match
  refine zco_p tkX12_match 0 2 (pc' := 2) (L' := [(0, .ref v0), (1, .int v1)]) (S' := [.int ((-1)), .int v1]) rfl ?_
  refine zco_icmp_eq (tgt := 24) (zdk (cc := cX12_match) (q := (2, .if_icmp .eq 22, 3)) tkX12_match 2 rfl) rfl ?_ ?_
  · exact zco_sub [0, 1] rfl (coX12_match_J24 l e he v0 v1)
  · refine zco_p tkX12_match 3 5 (pc' := 10) (L' := [(0, .ref v0), (1, .int v1)]) (S' := [.int 0, .ref v0, .long 0, .long v1.toInt64]) rfl ?_
    refine zco_Vi (rc := 0) (rs := 0) (mc := 0) (ms := 0) (As := [.int 0]) (S := [.long 0, .long v1.toInt64]) vmX12_sideMany (mtX12_sideMany l e (by omega) v0 0) q_1944 rfl rfl (Nat.le_of_ble_eq_true rfl) (zdk (cc := cX12_match) (q := (10, .invokevirtual 416, 3)) tkX12_match 8 rfl) (fun y1 => ?_)
    refine zco_p tkX12_match 9 3 (pc' := 16) (L' := [(0, .ref v0), (1, .int v1)]) (S' := [.long ((y1 - 1 : Int32).toInt64), .long 0, .long v1.toInt64]) rfl ?_
    refine zco_Si (rc := 0) (rs := 0) (mc := 0) (ms := 0) (As := [.long v1.toInt64, .long 0, .long ((y1 - 1 : Int32).toInt64)]) (S := []) vmX12_isIn (mtX12_isIn l e (by omega) v1.toInt64 0 ((y1 - 1 : Int32).toInt64)) q_1799 rfl rfl (Nat.le_of_ble_eq_true rfl) (zdk (cc := cX12_match) (q := (16, .invokestatic 313, 3)) tkX12_match 12 rfl) (fun y2 => ?_)
    refine zco_if_ne (tgt := 24) (zdk (cc := cX12_match) (q := (19, .ifCond .ne 5, 3)) tkX12_match 13 rfl) rfl ?_ ?_
    · exact zco_sub [0, 1] rfl (coX12_match_J24 l e he v0 v1)
    · refine zco_p tkX12_match 14 1 (pc' := 23) (L' := [(0, .ref v0), (1, .int v1)]) (S' := [.int ((-1))]) rfl ?_
      exact zco_iret rfl rfl rfl (zdk (cc := cX12_match) (q := (23, .ireturn, 1)) tkX12_match 15 rfl)
theorem mtX12_match (l : Launch) (d : Nat) (hd : 4 ≤ d) (v0 : Nat) (v1 : Int32) : zMet l d 0 0 yX12_match cX12_match 5 (Option.some .int) [.ref v0, .int v1] (X12_match v0 v1) := by
  obtain ⟨e, rfl⟩ : ∃ e, d = e + 1 := ⟨d - 1, by omega⟩
  exact zmet_of (own := RX12) (ini := false) (by decide +kernel) rfl (fun _ => by contradiction) (Nat.le_of_ble_eq_true rfl) (coX12_match l e (by omega) v0 v1)
abbrev iX12_nextFor : zI := (RX12, cX12_nextFor, 4, (Option.some .int), false)
def tX12_nextFor : List (Nat × Instr × Nat) := [(0, .iconst (-1), 1), (1, .istore_n 2, 1), (2, .iconst 0, 1), (3, .istore_n 3, 1), (4, .iload_n 3, 1), (5, .aload_n 0, 1), (6, .iconst 1, 1), (7, .invokevirtual 416, 3), (10, .if_icmp .ge 73, 3), (13, .aload_n 0, 1), (14, .getfield 161, 3), (17, .bipush 6, 2), (19, .iload_n 1, 1), (20, .imul, 1), (21, .iload_n 3, 1), (22, .iadd, 1), (23, .baload, 1), (24, .ifCond .ne 53, 3), (27, .aload_n 0, 1), (28, .iload_n 1, 1), (29, .bipush 6, 2), (31, .iload_n 3, 1), (32, .iadd, 1), (33, .invokevirtual 496, 3), (36, .ifCond .ne 41, 3), (39, .iload_n 2, 1), (40, .iconst (-1), 1), (41, .if_icmp .eq 34, 3), (44, .aload_n 0, 1), (45, .getfield 134, 3), (48, .aload_n 0, 1), (49, .iload_n 1, 1), (50, .bipush 6, 2), (52, .iload_n 3, 1), (53, .iadd, 1), (54, .invokevirtual 432, 3), (57, .iaload, 1), (58, .aload_n 0, 1), (59, .getfield 134, 3), (62, .aload_n 0, 1), (63, .iload_n 1, 1), (64, .bipush 6, 2), (66, .iload_n 2, 1), (67, .iadd, 1), (68, .invokevirtual 432, 3), (71, .iaload, 1), (72, .if_icmp .le 5, 3), (75, .iload_n 3, 1), (76, .istore_n 2, 1), (77, .iinc 3 1, 3), (80, .goto (-76), 3), (83, .iload_n 2, 1), (84, .ireturn, 1)]
set_option maxRecDepth 100000 in
theorem tkX12_nextFor : ∀ q ∈ tX12_nextFor, decode cX12_nextFor q.1 = .ok q.2 := by decide +kernel
theorem vmX12_nextFor : zVM yX12_nextFor cX12_nextFor 4 (Option.some .int) 1 12 := ⟨kX12_nextFor, q_2138, q_125, q_162, ⟨_, rfl, rfl⟩, by decide +kernel, by decide⟩
set_option maxHeartbeats 2000000 in
set_option maxRecDepth 20000 in
theorem coX12_nextFor_J77 (l : Launch) (e : Nat) (he : 1 ≤ e) (v0 : Nat) (v1 : Int32) (v2 : Int32) (v3 : Int32) (r4 : Int32 × Int32 → zM) (hr4 : ∀ x : Int32 × Int32, zCo l (e + 1) 0 0 iX12_nextFor 4 [(0, .ref v0), (1, .int v1), (2, .int x.1), (3, .int x.2)] [] (r4 x)) : zCo l (e + 1) 0 0 iX12_nextFor 77 [(0, .ref v0), (1, .int v1), (2, .int v2), (3, .int v3)] [] (X12_nextFor_J77 r4 v0 v1 v2 v3) := by
  unfold X12_nextFor_J77
  refine zco_p tkX12_nextFor 49 2 (pc' := 4) (L' := [(3, .int (v3 + 1)), (0, .ref v0), (1, .int v1), (2, .int v2)]) (S' := []) rfl ?_
  exact zco_sub [1, 2, 3, 0] rfl (hr4 (v2, v3 + 1))
set_option maxHeartbeats 2000000 in
set_option maxRecDepth 20000 in
theorem coX12_nextFor_J75 (l : Launch) (e : Nat) (he : 1 ≤ e) (v0 : Nat) (v1 : Int32) (v3 : Int32) (r4 : Int32 × Int32 → zM) (hr4 : ∀ x : Int32 × Int32, zCo l (e + 1) 0 0 iX12_nextFor 4 [(0, .ref v0), (1, .int v1), (2, .int x.1), (3, .int x.2)] [] (r4 x)) : zCo l (e + 1) 0 0 iX12_nextFor 75 [(0, .ref v0), (1, .int v1), (3, .int v3)] [] (X12_nextFor_J75 r4 v0 v1 v3) := by
  unfold X12_nextFor_J75
  refine zco_p tkX12_nextFor 47 2 (pc' := 77) (L' := [(2, .int v3), (0, .ref v0), (1, .int v1), (3, .int v3)]) (S' := []) rfl ?_
  exact zco_sub [1, 2, 0, 3] rfl (coX12_nextFor_J77 l e he v0 v1 v3 v3 r4 hr4)
set_option maxHeartbeats 2000000 in
set_option maxRecDepth 20000 in
theorem coX12_nextFor_B4 (l : Launch) (e : Nat) (he : 1 ≤ e) (v0 : Nat) (v1 : Int32) (r4 : Int32 × Int32 → zM) (hr4 : ∀ x : Int32 × Int32, zCo l (e + 1) 0 0 iX12_nextFor 4 [(0, .ref v0), (1, .int v1), (2, .int x.1), (3, .int x.2)] [] (r4 x)) (v2 : Int32) (v3 : Int32) : zCo l (e + 1) 0 0 iX12_nextFor 4 [(0, .ref v0), (1, .int v1), (2, .int v2), (3, .int v3)] [] (X12_nextFor_B4 v0 v1 r4 v2 v3) := by
  unfold X12_nextFor_B4
  refine zco_p tkX12_nextFor 4 3 (pc' := 7) (L' := [(0, .ref v0), (1, .int v1), (2, .int v2), (3, .int v3)]) (S' := [.int 1, .ref v0, .int v3]) rfl ?_
  refine zco_Vi (rc := 0) (rs := 0) (mc := 0) (ms := 0) (As := [.int 1]) (S := [.int v3]) vmX12_sideMany (mtX12_sideMany l e (by omega) v0 1) q_1944 rfl rfl (Nat.le_of_ble_eq_true rfl) (zdk (cc := cX12_nextFor) (q := (7, .invokevirtual 416, 3)) tkX12_nextFor 7 rfl) (fun y1 => ?_)
  refine zco_icmp_ge (tgt := 83) (zdk (cc := cX12_nextFor) (q := (10, .if_icmp .ge 73, 3)) tkX12_nextFor 8 rfl) rfl ?_ ?_
  · refine zco_p tkX12_nextFor 51 1 (pc' := 84) (L' := [(0, .ref v0), (1, .int v1), (2, .int v2), (3, .int v3)]) (S' := [.int v2]) rfl ?_
    exact zco_iret rfl rfl rfl (zdk (cc := cX12_nextFor) (q := (84, .ireturn, 1)) tkX12_nextFor 52 rfl)
  · refine zco_p tkX12_nextFor 9 1 (pc' := 14) (L' := [(0, .ref v0), (1, .int v1), (2, .int v2), (3, .int v3)]) (S' := [.ref v0]) rfl ?_
    refine zco_gr fl_12_161 rfl (zdk (cc := cX12_nextFor) (q := (14, .getfield 161, 3)) tkX12_nextFor 10 rfl) (fun x2 => ?_)
    refine zco_p tkX12_nextFor 11 5 (pc' := 23) (L' := [(0, .ref v0), (1, .int v1), (2, .int v2), (3, .int v3)]) (S' := [.int ((6 * v1) + v3), .ref x2]) rfl ?_
    refine zco_baload (zdk (cc := cX12_nextFor) (q := (23, .baload, 1)) tkX12_nextFor 16 rfl) (fun x3 => ?_)
    refine zco_if_ne (tgt := 77) (zdk (cc := cX12_nextFor) (q := (24, .ifCond .ne 53, 3)) tkX12_nextFor 17 rfl) rfl ?_ ?_
    · exact zco_sub [0, 1, 2, 3] rfl (coX12_nextFor_J77 l e he v0 v1 v2 v3 r4 hr4)
    · refine zco_p tkX12_nextFor 18 5 (pc' := 33) (L' := [(0, .ref v0), (1, .int v1), (2, .int v2), (3, .int v3)]) (S' := [.int (6 + v3), .int v1, .ref v0]) rfl ?_
      refine zco_Vi (rc := 0) (rs := 0) (mc := 0) (ms := 0) (As := [.int v1, .int (6 + v3)]) (S := []) vmX12_areKin (mtX12_areKin l e (by omega) v0 v1 (6 + v3)) q_2059 rfl rfl (Nat.le_of_ble_eq_true rfl) (zdk (cc := cX12_nextFor) (q := (33, .invokevirtual 496, 3)) tkX12_nextFor 23 rfl) (fun y4 => ?_)
      refine zco_if_ne (tgt := 77) (zdk (cc := cX12_nextFor) (q := (36, .ifCond .ne 41, 3)) tkX12_nextFor 24 rfl) rfl ?_ ?_
      · exact zco_sub [0, 1, 2, 3] rfl (coX12_nextFor_J77 l e he v0 v1 v2 v3 r4 hr4)
      · refine zco_p tkX12_nextFor 25 2 (pc' := 41) (L' := [(0, .ref v0), (1, .int v1), (2, .int v2), (3, .int v3)]) (S' := [.int ((-1)), .int v2]) rfl ?_
        refine zco_icmp_eq (tgt := 75) (zdk (cc := cX12_nextFor) (q := (41, .if_icmp .eq 34, 3)) tkX12_nextFor 27 rfl) rfl ?_ ?_
        · exact zco_sub [0, 1, 3] rfl (coX12_nextFor_J75 l e he v0 v1 v3 r4 hr4)
        · refine zco_p tkX12_nextFor 28 1 (pc' := 45) (L' := [(0, .ref v0), (1, .int v1), (2, .int v2), (3, .int v3)]) (S' := [.ref v0]) rfl ?_
          refine zco_gr fl_12_134 rfl (zdk (cc := cX12_nextFor) (q := (45, .getfield 134, 3)) tkX12_nextFor 29 rfl) (fun x5 => ?_)
          refine zco_p tkX12_nextFor 30 5 (pc' := 54) (L' := [(0, .ref v0), (1, .int v1), (2, .int v2), (3, .int v3)]) (S' := [.int (6 + v3), .int v1, .ref v0, .ref x5]) rfl ?_
          refine zco_Vi (rc := 0) (rs := 0) (mc := 0) (ms := 0) (As := [.int v1, .int (6 + v3)]) (S := [.ref x5]) vmX12_likingAt (mtX12_likingAt l e (by omega) v0 v1 (6 + v3)) q_2004 rfl rfl (Nat.le_of_ble_eq_true rfl) (zdk (cc := cX12_nextFor) (q := (54, .invokevirtual 432, 3)) tkX12_nextFor 35 rfl) (fun y6 => ?_)
          refine zco_iaload (zdk (cc := cX12_nextFor) (q := (57, .iaload, 1)) tkX12_nextFor 36 rfl) (fun x7 => ?_)
          refine zco_p tkX12_nextFor 37 1 (pc' := 59) (L' := [(0, .ref v0), (1, .int v1), (2, .int v2), (3, .int v3)]) (S' := [.ref v0, .int x7]) rfl ?_
          refine zco_gr fl_12_134 rfl (zdk (cc := cX12_nextFor) (q := (59, .getfield 134, 3)) tkX12_nextFor 38 rfl) (fun x8 => ?_)
          refine zco_p tkX12_nextFor 39 5 (pc' := 68) (L' := [(0, .ref v0), (1, .int v1), (2, .int v2), (3, .int v3)]) (S' := [.int (6 + v2), .int v1, .ref v0, .ref x8, .int x7]) rfl ?_
          refine zco_Vi (rc := 0) (rs := 0) (mc := 0) (ms := 0) (As := [.int v1, .int (6 + v2)]) (S := [.ref x8, .int x7]) vmX12_likingAt (mtX12_likingAt l e (by omega) v0 v1 (6 + v2)) q_2004 rfl rfl (Nat.le_of_ble_eq_true rfl) (zdk (cc := cX12_nextFor) (q := (68, .invokevirtual 432, 3)) tkX12_nextFor 44 rfl) (fun y9 => ?_)
          refine zco_iaload (zdk (cc := cX12_nextFor) (q := (71, .iaload, 1)) tkX12_nextFor 45 rfl) (fun x10 => ?_)
          refine zco_icmp_le (tgt := 77) (zdk (cc := cX12_nextFor) (q := (72, .if_icmp .le 5, 3)) tkX12_nextFor 46 rfl) rfl ?_ ?_
          · exact zco_sub [0, 1, 2, 3] rfl (coX12_nextFor_J77 l e he v0 v1 v2 v3 r4 hr4)
          · exact zco_sub [0, 1, 3] rfl (coX12_nextFor_J75 l e he v0 v1 v3 r4 hr4)
set_option maxHeartbeats 2000000 in
set_option maxRecDepth 20000 in
theorem coX12_nextFor (l : Launch) (e : Nat) (he : 1 ≤ e) (v0 : Nat) (v1 : Int32) : zCo l (e + 1) 0 0 iX12_nextFor 0 [(0, .ref v0), (1, .int v1)] [] (X12_nextFor v0 v1) := by
  unfold X12_nextFor
  refine zco_p tkX12_nextFor 0 4 (pc' := 4) (L' := [(3, .int 0), (2, .int ((-1))), (0, .ref v0), (1, .int v1)]) (S' := []) rfl ?_
  exact zco_sub [2, 3, 1, 0] rfl (zco_fix (Lf := fun x : Int32 × Int32 => [(0, .ref v0), (1, .int v1), (2, .int x.1), (3, .int x.2)]) (Sf := fun _ => []) (fun r hr x => coX12_nextFor_B4 l e he v0 v1 r hr x.1 x.2) zFU ((-1), 0))
theorem mtX12_nextFor (l : Launch) (d : Nat) (hd : 2 ≤ d) (v0 : Nat) (v1 : Int32) : zMet l d 0 0 yX12_nextFor cX12_nextFor 4 (Option.some .int) [.ref v0, .int v1] (X12_nextFor v0 v1) := by
  obtain ⟨e, rfl⟩ : ∃ e, d = e + 1 := ⟨d - 1, by omega⟩
  exact zmet_of (own := RX12) (ini := false) (by decide +kernel) rfl (fun _ => by contradiction) (Nat.le_of_ble_eq_true rfl) (coX12_nextFor l e (by omega) v0 v1)
abbrev iX12_isAsking : zI := (RX12, cX12_isAsking, 4, (Option.some .boolean), false)
def tX12_isAsking : List (Nat × Instr × Nat) := [(0, .iconst 0, 1), (1, .istore_n 1, 1), (2, .iload_n 1, 1), (3, .aload_n 0, 1), (4, .iconst 0, 1), (5, .invokevirtual 416, 3), (8, .if_icmp .ge 131, 3), (11, .aload_n 0, 1), (12, .getfield 158, 3), (15, .iload_n 1, 1), (16, .iaload, 1), (17, .iconst (-1), 1), (18, .if_icmp .ne 11, 3), (21, .aload_n 0, 1), (22, .iload_n 1, 1), (23, .invokevirtual 577, 3), (26, .goto 4, 3), (29, .iconst (-1), 1), (30, .istore_n 2, 1), (31, .iload_n 2, 1), (32, .iconst (-1), 1), (33, .if_icmp .ne 6, 3), (36, .goto 97, 3), (39, .aload_n 0, 1), (40, .getfield 161, 3), (43, .bipush 6, 2), (45, .iload_n 1, 1), (46, .imul, 1), (47, .iload_n 2, 1), (48, .iadd, 1), (49, .iconst 1, 1), (50, .bastore, 1), (51, .aload_n 0, 1), (52, .getfield 158, 3), (55, .bipush 6, 2), (57, .iload_n 2, 1), (58, .iadd, 1), (59, .iaload, 1), (60, .istore_n 3, 1), (61, .iload_n 3, 1), (62, .iconst (-1), 1), (63, .if_icmp .eq 36, 3), (66, .aload_n 0, 1), (67, .getfield 134, 3), (70, .aload_n 0, 1), (71, .bipush 6, 2), (73, .iload_n 2, 1), (74, .iadd, 1), (75, .iload_n 1, 1), (76, .invokevirtual 432, 3), (79, .iaload, 1), (80, .aload_n 0, 1), (81, .getfield 134, 3), (84, .aload_n 0, 1), (85, .bipush 6, 2), (87, .iload_n 2, 1), (88, .iadd, 1), (89, .iload_n 3, 1), (90, .invokevirtual 432, 3), (93, .iaload, 1), (94, .if_icmp .gt 5, 3), (97, .iconst 1, 1), (98, .ireturn, 1), (99, .iload_n 3, 1), (100, .iconst (-1), 1), (101, .if_icmp .eq 10, 3), (104, .aload_n 0, 1), (105, .getfield 158, 3), (108, .iload_n 3, 1), (109, .iconst (-1), 1), (110, .iastore, 1), (111, .aload_n 0, 1), (112, .getfield 158, 3), (115, .bipush 6, 2), (117, .iload_n 2, 1), (118, .iadd, 1), (119, .iload_n 1, 1), (120, .iastore, 1), (121, .aload_n 0, 1), (122, .getfield 158, 3), (125, .iload_n 1, 1), (126, .bipush 6, 2), (128, .iload_n 2, 1), (129, .iadd, 1), (130, .iastore, 1), (131, .iconst 1, 1), (132, .ireturn, 1), (133, .iinc 1 1, 3), (136, .goto (-134), 3), (139, .iconst 0, 1), (140, .ireturn, 1)]
set_option maxRecDepth 100000 in
theorem tkX12_isAsking : ∀ q ∈ tX12_isAsking, decode cX12_isAsking q.1 = .ok q.2 := by decide +kernel
theorem vmX12_isAsking : zVM yX12_isAsking cX12_isAsking 4 (Option.some .boolean) 0 12 := ⟨kX12_isAsking, q_2134, q_124, q_162, ⟨_, rfl, rfl⟩, by decide +kernel, by decide⟩
set_option maxHeartbeats 2000000 in
set_option maxRecDepth 20000 in
theorem coX12_isAsking_J111 (l : Launch) (e : Nat) (he : 2 ≤ e) (v0 : Nat) (v1 : Int32) (v2 : Int32) : zCo l (e + 1) 0 0 iX12_isAsking 111 [(0, .ref v0), (1, .int v1), (2, .int v2)] [] (X12_isAsking_J111 v0 v1 v2) := by
  unfold X12_isAsking_J111
  refine zco_p tkX12_isAsking 71 1 (pc' := 112) (L' := [(0, .ref v0), (1, .int v1), (2, .int v2)]) (S' := [.ref v0]) rfl ?_
  refine zco_gr fl_12_158 rfl (zdk (cc := cX12_isAsking) (q := (112, .getfield 158, 3)) tkX12_isAsking 72 rfl) (fun x1 => ?_)
  refine zco_p tkX12_isAsking 73 4 (pc' := 120) (L' := [(0, .ref v0), (1, .int v1), (2, .int v2)]) (S' := [.int v1, .int (6 + v2), .ref x1]) rfl ?_
  refine zco_iastore (zdk (cc := cX12_isAsking) (q := (120, .iastore, 1)) tkX12_isAsking 77 rfl) ?_
  refine zco_p tkX12_isAsking 78 1 (pc' := 122) (L' := [(0, .ref v0), (1, .int v1), (2, .int v2)]) (S' := [.ref v0]) rfl ?_
  refine zco_gr fl_12_158 rfl (zdk (cc := cX12_isAsking) (q := (122, .getfield 158, 3)) tkX12_isAsking 79 rfl) (fun x2 => ?_)
  refine zco_p tkX12_isAsking 80 4 (pc' := 130) (L' := [(0, .ref v0), (1, .int v1), (2, .int v2)]) (S' := [.int (6 + v2), .int v1, .ref x2]) rfl ?_
  refine zco_iastore (zdk (cc := cX12_isAsking) (q := (130, .iastore, 1)) tkX12_isAsking 84 rfl) ?_
  refine zco_p tkX12_isAsking 85 1 (pc' := 132) (L' := [(0, .ref v0), (1, .int v1), (2, .int v2)]) (S' := [.int 1]) rfl ?_
  exact zco_zret rfl rfl rfl (zdk (cc := cX12_isAsking) (q := (132, .ireturn, 1)) tkX12_isAsking 86 rfl)
set_option maxHeartbeats 2000000 in
set_option maxRecDepth 20000 in
theorem coX12_isAsking_J99 (l : Launch) (e : Nat) (he : 2 ≤ e) (v0 : Nat) (v1 : Int32) (v2 : Int32) (v3 : Int32) : zCo l (e + 1) 0 0 iX12_isAsking 99 [(0, .ref v0), (1, .int v1), (2, .int v2), (3, .int v3)] [] (X12_isAsking_J99 v0 v1 v2 v3) := by
  unfold X12_isAsking_J99
  refine zco_p tkX12_isAsking 63 2 (pc' := 101) (L' := [(0, .ref v0), (1, .int v1), (2, .int v2), (3, .int v3)]) (S' := [.int ((-1)), .int v3]) rfl ?_
  refine zco_icmp_eq (tgt := 111) (zdk (cc := cX12_isAsking) (q := (101, .if_icmp .eq 10, 3)) tkX12_isAsking 65 rfl) rfl ?_ ?_
  · exact zco_sub [0, 1, 2] rfl (coX12_isAsking_J111 l e he v0 v1 v2)
  · refine zco_p tkX12_isAsking 66 1 (pc' := 105) (L' := [(0, .ref v0), (1, .int v1), (2, .int v2), (3, .int v3)]) (S' := [.ref v0]) rfl ?_
    refine zco_gr fl_12_158 rfl (zdk (cc := cX12_isAsking) (q := (105, .getfield 158, 3)) tkX12_isAsking 67 rfl) (fun x1 => ?_)
    refine zco_p tkX12_isAsking 68 2 (pc' := 110) (L' := [(0, .ref v0), (1, .int v1), (2, .int v2), (3, .int v3)]) (S' := [.int ((-1)), .int v3, .ref x1]) rfl ?_
    refine zco_iastore (zdk (cc := cX12_isAsking) (q := (110, .iastore, 1)) tkX12_isAsking 70 rfl) ?_
    exact zco_sub [0, 1, 2] rfl (coX12_isAsking_J111 l e he v0 v1 v2)
set_option maxHeartbeats 2000000 in
set_option maxRecDepth 20000 in
theorem coX12_isAsking_J39 (l : Launch) (e : Nat) (he : 2 ≤ e) (v0 : Nat) (v1 : Int32) (v2 : Int32) : zCo l (e + 1) 0 0 iX12_isAsking 39 [(0, .ref v0), (1, .int v1), (2, .int v2)] [] (X12_isAsking_J39 v0 v1 v2) := by
  unfold X12_isAsking_J39
  refine zco_p tkX12_isAsking 23 1 (pc' := 40) (L' := [(0, .ref v0), (1, .int v1), (2, .int v2)]) (S' := [.ref v0]) rfl ?_
  refine zco_gr fl_12_161 rfl (zdk (cc := cX12_isAsking) (q := (40, .getfield 161, 3)) tkX12_isAsking 24 rfl) (fun x1 => ?_)
  refine zco_p tkX12_isAsking 25 6 (pc' := 50) (L' := [(0, .ref v0), (1, .int v1), (2, .int v2)]) (S' := [.int 1, .int ((6 * v1) + v2), .ref x1]) rfl ?_
  refine zco_bastore (zdk (cc := cX12_isAsking) (q := (50, .bastore, 1)) tkX12_isAsking 31 rfl) ?_
  refine zco_p tkX12_isAsking 32 1 (pc' := 52) (L' := [(0, .ref v0), (1, .int v1), (2, .int v2)]) (S' := [.ref v0]) rfl ?_
  refine zco_gr fl_12_158 rfl (zdk (cc := cX12_isAsking) (q := (52, .getfield 158, 3)) tkX12_isAsking 33 rfl) (fun x2 => ?_)
  refine zco_p tkX12_isAsking 34 3 (pc' := 59) (L' := [(0, .ref v0), (1, .int v1), (2, .int v2)]) (S' := [.int (6 + v2), .ref x2]) rfl ?_
  refine zco_iaload (zdk (cc := cX12_isAsking) (q := (59, .iaload, 1)) tkX12_isAsking 37 rfl) (fun x3 => ?_)
  refine zco_p tkX12_isAsking 38 3 (pc' := 63) (L' := [(3, .int x3), (0, .ref v0), (1, .int v1), (2, .int v2)]) (S' := [.int ((-1)), .int x3]) rfl ?_
  refine zco_icmp_eq (tgt := 99) (zdk (cc := cX12_isAsking) (q := (63, .if_icmp .eq 36, 3)) tkX12_isAsking 41 rfl) rfl ?_ ?_
  · exact zco_sub [1, 2, 3, 0] rfl (coX12_isAsking_J99 l e he v0 v1 v2 x3)
  · refine zco_p tkX12_isAsking 42 1 (pc' := 67) (L' := [(3, .int x3), (0, .ref v0), (1, .int v1), (2, .int v2)]) (S' := [.ref v0]) rfl ?_
    refine zco_gr fl_12_134 rfl (zdk (cc := cX12_isAsking) (q := (67, .getfield 134, 3)) tkX12_isAsking 43 rfl) (fun x4 => ?_)
    refine zco_p tkX12_isAsking 44 5 (pc' := 76) (L' := [(3, .int x3), (0, .ref v0), (1, .int v1), (2, .int v2)]) (S' := [.int v1, .int (6 + v2), .ref v0, .ref x4]) rfl ?_
    refine zco_Vi (rc := 0) (rs := 0) (mc := 0) (ms := 0) (As := [.int (6 + v2), .int v1]) (S := [.ref x4]) vmX12_likingAt (mtX12_likingAt l e (by omega) v0 (6 + v2) v1) q_2004 rfl rfl (Nat.le_of_ble_eq_true rfl) (zdk (cc := cX12_isAsking) (q := (76, .invokevirtual 432, 3)) tkX12_isAsking 49 rfl) (fun y5 => ?_)
    refine zco_iaload (zdk (cc := cX12_isAsking) (q := (79, .iaload, 1)) tkX12_isAsking 50 rfl) (fun x6 => ?_)
    refine zco_p tkX12_isAsking 51 1 (pc' := 81) (L' := [(3, .int x3), (0, .ref v0), (1, .int v1), (2, .int v2)]) (S' := [.ref v0, .int x6]) rfl ?_
    refine zco_gr fl_12_134 rfl (zdk (cc := cX12_isAsking) (q := (81, .getfield 134, 3)) tkX12_isAsking 52 rfl) (fun x7 => ?_)
    refine zco_p tkX12_isAsking 53 5 (pc' := 90) (L' := [(3, .int x3), (0, .ref v0), (1, .int v1), (2, .int v2)]) (S' := [.int x3, .int (6 + v2), .ref v0, .ref x7, .int x6]) rfl ?_
    refine zco_Vi (rc := 0) (rs := 0) (mc := 0) (ms := 0) (As := [.int (6 + v2), .int x3]) (S := [.ref x7, .int x6]) vmX12_likingAt (mtX12_likingAt l e (by omega) v0 (6 + v2) x3) q_2004 rfl rfl (Nat.le_of_ble_eq_true rfl) (zdk (cc := cX12_isAsking) (q := (90, .invokevirtual 432, 3)) tkX12_isAsking 58 rfl) (fun y8 => ?_)
    refine zco_iaload (zdk (cc := cX12_isAsking) (q := (93, .iaload, 1)) tkX12_isAsking 59 rfl) (fun x9 => ?_)
    refine zco_icmp_gt (tgt := 99) (zdk (cc := cX12_isAsking) (q := (94, .if_icmp .gt 5, 3)) tkX12_isAsking 60 rfl) rfl ?_ ?_
    · exact zco_sub [1, 2, 3, 0] rfl (coX12_isAsking_J99 l e he v0 v1 v2 x3)
    · refine zco_p tkX12_isAsking 61 1 (pc' := 98) (L' := [(3, .int x3), (0, .ref v0), (1, .int v1), (2, .int v2)]) (S' := [.int 1]) rfl ?_
      exact zco_zret rfl rfl rfl (zdk (cc := cX12_isAsking) (q := (98, .ireturn, 1)) tkX12_isAsking 62 rfl)
set_option maxHeartbeats 2000000 in
set_option maxRecDepth 20000 in
theorem coX12_isAsking_J30 (l : Launch) (e : Nat) (he : 2 ≤ e) (v0 : Nat) (v1 : Int32) (r2 : Int32 → zM) (hr2 : ∀ x : Int32, zCo l (e + 1) 0 0 iX12_isAsking 2 [(0, .ref v0), (1, .int x)] [] (r2 x)) (s0 : Int32) : zCo l (e + 1) 0 0 iX12_isAsking 30 [(0, .ref v0), (1, .int v1)] [.int s0] (X12_isAsking_J30 r2 v0 v1 s0) := by
  unfold X12_isAsking_J30
  refine zco_p tkX12_isAsking 18 3 (pc' := 33) (L' := [(2, .int s0), (0, .ref v0), (1, .int v1)]) (S' := [.int ((-1)), .int s0]) rfl ?_
  refine zco_icmp_ne (tgt := 39) (zdk (cc := cX12_isAsking) (q := (33, .if_icmp .ne 6, 3)) tkX12_isAsking 21 rfl) rfl ?_ ?_
  · exact zco_sub [1, 2, 0] rfl (coX12_isAsking_J39 l e he v0 v1 s0)
  · refine zco_p tkX12_isAsking 22 1 (pc' := 133) (L' := [(2, .int s0), (0, .ref v0), (1, .int v1)]) (S' := []) rfl ?_
    refine zco_p tkX12_isAsking 87 2 (pc' := 2) (L' := [(1, .int (v1 + 1)), (2, .int s0), (0, .ref v0)]) (S' := []) rfl ?_
    exact zco_sub [2, 0] rfl (hr2 (v1 + 1))
set_option maxHeartbeats 2000000 in
set_option maxRecDepth 20000 in
theorem coX12_isAsking_B2 (l : Launch) (e : Nat) (he : 2 ≤ e) (v0 : Nat) (r2 : Int32 → zM) (hr2 : ∀ x : Int32, zCo l (e + 1) 0 0 iX12_isAsking 2 [(0, .ref v0), (1, .int x)] [] (r2 x)) (v1 : Int32) : zCo l (e + 1) 0 0 iX12_isAsking 2 [(0, .ref v0), (1, .int v1)] [] (X12_isAsking_B2 v0 r2 v1) := by
  unfold X12_isAsking_B2
  refine zco_p tkX12_isAsking 2 3 (pc' := 5) (L' := [(0, .ref v0), (1, .int v1)]) (S' := [.int 0, .ref v0, .int v1]) rfl ?_
  refine zco_Vi (rc := 0) (rs := 0) (mc := 0) (ms := 0) (As := [.int 0]) (S := [.int v1]) vmX12_sideMany (mtX12_sideMany l e (by omega) v0 0) q_1944 rfl rfl (Nat.le_of_ble_eq_true rfl) (zdk (cc := cX12_isAsking) (q := (5, .invokevirtual 416, 3)) tkX12_isAsking 5 rfl) (fun y1 => ?_)
  refine zco_icmp_ge (tgt := 139) (zdk (cc := cX12_isAsking) (q := (8, .if_icmp .ge 131, 3)) tkX12_isAsking 6 rfl) rfl ?_ ?_
  · refine zco_p tkX12_isAsking 89 1 (pc' := 140) (L' := [(0, .ref v0), (1, .int v1)]) (S' := [.int 0]) rfl ?_
    exact zco_zret rfl rfl rfl (zdk (cc := cX12_isAsking) (q := (140, .ireturn, 1)) tkX12_isAsking 90 rfl)
  · refine zco_p tkX12_isAsking 7 1 (pc' := 12) (L' := [(0, .ref v0), (1, .int v1)]) (S' := [.ref v0]) rfl ?_
    refine zco_gr fl_12_158 rfl (zdk (cc := cX12_isAsking) (q := (12, .getfield 158, 3)) tkX12_isAsking 8 rfl) (fun x2 => ?_)
    refine zco_p tkX12_isAsking 9 1 (pc' := 16) (L' := [(0, .ref v0), (1, .int v1)]) (S' := [.int v1, .ref x2]) rfl ?_
    refine zco_iaload (zdk (cc := cX12_isAsking) (q := (16, .iaload, 1)) tkX12_isAsking 10 rfl) (fun x3 => ?_)
    refine zco_p tkX12_isAsking 11 1 (pc' := 18) (L' := [(0, .ref v0), (1, .int v1)]) (S' := [.int ((-1)), .int x3]) rfl ?_
    refine zco_icmp_ne (tgt := 29) (zdk (cc := cX12_isAsking) (q := (18, .if_icmp .ne 11, 3)) tkX12_isAsking 12 rfl) rfl ?_ ?_
    · refine zco_p tkX12_isAsking 17 1 (pc' := 30) (L' := [(0, .ref v0), (1, .int v1)]) (S' := [.int ((-1))]) rfl ?_
      exact zco_sub [0, 1] rfl (coX12_isAsking_J30 l e he v0 v1 r2 hr2 ((-1)))
    · refine zco_p tkX12_isAsking 13 2 (pc' := 23) (L' := [(0, .ref v0), (1, .int v1)]) (S' := [.int v1, .ref v0]) rfl ?_
      refine zco_Vi (rc := 0) (rs := 0) (mc := 0) (ms := 0) (As := [.int v1]) (S := []) vmX12_nextFor (mtX12_nextFor l e (by omega) v0 v1) q_2136 rfl rfl (Nat.le_of_ble_eq_true rfl) (zdk (cc := cX12_isAsking) (q := (23, .invokevirtual 577, 3)) tkX12_isAsking 15 rfl) (fun y4 => ?_)
      refine zco_p tkX12_isAsking 16 1 (pc' := 30) (L' := [(0, .ref v0), (1, .int v1)]) (S' := [.int y4]) rfl ?_
      exact zco_sub [0, 1] rfl (coX12_isAsking_J30 l e he v0 v1 r2 hr2 y4)
set_option maxHeartbeats 2000000 in
set_option maxRecDepth 20000 in
theorem coX12_isAsking (l : Launch) (e : Nat) (he : 2 ≤ e) (v0 : Nat) : zCo l (e + 1) 0 0 iX12_isAsking 0 [(0, .ref v0)] [] (X12_isAsking v0) := by
  unfold X12_isAsking
  refine zco_p tkX12_isAsking 0 2 (pc' := 2) (L' := [(1, .int 0), (0, .ref v0)]) (S' := []) rfl ?_
  exact zco_sub [1, 0] rfl (zco_fix (Lf := fun x : Int32 => [(0, .ref v0), (1, .int x)]) (Sf := fun _ => []) (fun r hr x => coX12_isAsking_B2 l e he v0 r hr x) zFU 0)
theorem mtX12_isAsking (l : Launch) (d : Nat) (hd : 3 ≤ d) (v0 : Nat) : zMet l d 0 0 yX12_isAsking cX12_isAsking 4 (Option.some .boolean) [.ref v0] (X12_isAsking v0) := by
  obtain ⟨e, rfl⟩ : ∃ e, d = e + 1 := ⟨d - 1, by omega⟩
  exact zmet_of (own := RX12) (ini := false) (by decide +kernel) rfl (fun _ => by contradiction) (Nat.le_of_ble_eq_true rfl) (coX12_isAsking l e (by omega) v0)
abbrev iX12_steady : zI := (RX12, cX12_steady, 3, (Option.some .int), false)
def tX12_steady : List (Nat × Instr × Nat) := [(0, .aload_n 0, 1), (1, .iload_n 1, 1), (2, .i2l, 1), (3, .invokevirtual 422, 3), (6, .ifCond .ne 5, 3), (9, .iconst (-1), 1), (10, .ireturn, 1), (11, .iconst 0, 1), (12, .istore_n 2, 1), (13, .iload_n 2, 1), (14, .bipush 12, 2), (16, .if_icmp .ge 16, 3), (19, .aload_n 0, 1), (20, .getfield 158, 3), (23, .iload_n 2, 1), (24, .iconst (-1), 1), (25, .iastore, 1), (26, .iinc 2 1, 3), (29, .goto (-16), 3), (32, .iconst 0, 1), (33, .istore_n 2, 1), (34, .iload_n 2, 1), (35, .bipush 36, 2), (37, .if_icmp .ge 16, 3), (40, .aload_n 0, 1), (41, .getfield 161, 3), (44, .iload_n 2, 1), (45, .iconst 0, 1), (46, .bastore, 1), (47, .iinc 2 1, 3), (50, .goto (-16), 3), (53, .iconst 1, 1), (54, .istore_n 2, 1), (55, .iload_n 2, 1), (56, .ifCond .eq 11, 3), (59, .aload_n 0, 1), (60, .invokevirtual 580, 3), (63, .istore_n 2, 1), (64, .goto (-9), 3), (67, .aload_n 0, 1), (68, .aload_n 0, 1), (69, .getfield 158, 3), (72, .aload_n 0, 1), (73, .iload_n 1, 1), (74, .invokevirtual 429, 3), (77, .iaload, 1), (78, .invokevirtual 539, 3), (81, .ireturn, 1)]
set_option maxRecDepth 100000 in
theorem tkX12_steady : ∀ q ∈ tX12_steady, decode cX12_steady q.1 = .ok q.2 := by decide +kernel
theorem vmX12_steady : zVM yX12_steady cX12_steady 3 (Option.some .int) 1 12 := ⟨kX12_steady, q_2129, q_2130, q_162, ⟨_, rfl, rfl⟩, by decide +kernel, by decide⟩
set_option maxHeartbeats 2000000 in
set_option maxRecDepth 20000 in
theorem coX12_steady_J67 (l : Launch) (e : Nat) (he : 3 ≤ e) (v0 : Nat) (v1 : Int32) : zCo l (e + 1) 0 0 iX12_steady 67 [(0, .ref v0), (1, .int v1)] [] (X12_steady_J67 v0 v1) := by
  unfold X12_steady_J67
  refine zco_p tkX12_steady 39 2 (pc' := 69) (L' := [(0, .ref v0), (1, .int v1)]) (S' := [.ref v0, .ref v0]) rfl ?_
  refine zco_gr fl_12_158 rfl (zdk (cc := cX12_steady) (q := (69, .getfield 158, 3)) tkX12_steady 41 rfl) (fun x1 => ?_)
  refine zco_p tkX12_steady 42 2 (pc' := 74) (L' := [(0, .ref v0), (1, .int v1)]) (S' := [.int v1, .ref v0, .ref x1, .ref v0]) rfl ?_
  refine zco_Vi (rc := 0) (rs := 0) (mc := 0) (ms := 0) (As := [.int v1]) (S := [.ref x1, .ref v0]) vmX12_codeOf (mtX12_codeOf l e (by omega) v0 v1) q_1948 rfl rfl (Nat.le_of_ble_eq_true rfl) (zdk (cc := cX12_steady) (q := (74, .invokevirtual 429, 3)) tkX12_steady 44 rfl) (fun y2 => ?_)
  refine zco_iaload (zdk (cc := cX12_steady) (q := (77, .iaload, 1)) tkX12_steady 45 rfl) (fun x3 => ?_)
  refine zco_Vi (rc := 0) (rs := 0) (mc := 0) (ms := 0) (As := [.int x3]) (S := []) vmX12_toldOf (mtX12_toldOf l e (by omega) v0 x3) q_1972 rfl rfl (Nat.le_of_ble_eq_true rfl) (zdk (cc := cX12_steady) (q := (78, .invokevirtual 539, 3)) tkX12_steady 46 rfl) (fun y4 => ?_)
  exact zco_iret rfl rfl rfl (zdk (cc := cX12_steady) (q := (81, .ireturn, 1)) tkX12_steady 47 rfl)
set_option maxHeartbeats 2000000 in
set_option maxRecDepth 20000 in
theorem coX12_steady_B55 (l : Launch) (e : Nat) (he : 3 ≤ e) (v0 : Nat) (v1 : Int32) (r55 : Int32 → zM) (hr55 : ∀ x : Int32, zCo l (e + 1) 0 0 iX12_steady 55 [(0, .ref v0), (1, .int v1), (2, .int x)] [] (r55 x)) (v2 : Int32) : zCo l (e + 1) 0 0 iX12_steady 55 [(0, .ref v0), (1, .int v1), (2, .int v2)] [] (X12_steady_B55 v0 v1 r55 v2) := by
  unfold X12_steady_B55
  refine zco_p tkX12_steady 33 1 (pc' := 56) (L' := [(0, .ref v0), (1, .int v1), (2, .int v2)]) (S' := [.int v2]) rfl ?_
  refine zco_if_eq (tgt := 67) (zdk (cc := cX12_steady) (q := (56, .ifCond .eq 11, 3)) tkX12_steady 34 rfl) rfl ?_ ?_
  · exact zco_sub [0, 1] rfl (coX12_steady_J67 l e he v0 v1)
  · refine zco_p tkX12_steady 35 1 (pc' := 60) (L' := [(0, .ref v0), (1, .int v1), (2, .int v2)]) (S' := [.ref v0]) rfl ?_
    refine zco_Vi (rc := 0) (rs := 0) (mc := 0) (ms := 0) (As := []) (S := []) vmX12_isAsking (mtX12_isAsking l e (by omega) v0) q_2132 rfl rfl (Nat.le_of_ble_eq_true rfl) (zdk (cc := cX12_steady) (q := (60, .invokevirtual 580, 3)) tkX12_steady 36 rfl) (fun y1 => ?_)
    refine zco_p tkX12_steady 37 2 (pc' := 55) (L' := [(2, .int y1), (0, .ref v0), (1, .int v1)]) (S' := []) rfl ?_
    exact zco_sub [1, 2, 0] rfl (hr55 y1)
set_option maxHeartbeats 2000000 in
set_option maxRecDepth 20000 in
theorem coX12_steady_J53 (l : Launch) (e : Nat) (he : 3 ≤ e) (v0 : Nat) (v1 : Int32) : zCo l (e + 1) 0 0 iX12_steady 53 [(0, .ref v0), (1, .int v1)] [] (X12_steady_J53 v0 v1) := by
  unfold X12_steady_J53
  refine zco_p tkX12_steady 31 2 (pc' := 55) (L' := [(2, .int 1), (0, .ref v0), (1, .int v1)]) (S' := []) rfl ?_
  exact zco_sub [1, 2, 0] rfl (zco_fix (Lf := fun x : Int32 => [(0, .ref v0), (1, .int v1), (2, .int x)]) (Sf := fun _ => []) (fun r hr x => coX12_steady_B55 l e he v0 v1 r hr x) zFU 1)
set_option maxHeartbeats 2000000 in
set_option maxRecDepth 20000 in
theorem coX12_steady_B34 (l : Launch) (e : Nat) (he : 3 ≤ e) (v0 : Nat) (v1 : Int32) (r34 : Int32 → zM) (hr34 : ∀ x : Int32, zCo l (e + 1) 0 0 iX12_steady 34 [(0, .ref v0), (1, .int v1), (2, .int x)] [] (r34 x)) (v2 : Int32) : zCo l (e + 1) 0 0 iX12_steady 34 [(0, .ref v0), (1, .int v1), (2, .int v2)] [] (X12_steady_B34 v0 v1 r34 v2) := by
  unfold X12_steady_B34
  refine zco_p tkX12_steady 21 2 (pc' := 37) (L' := [(0, .ref v0), (1, .int v1), (2, .int v2)]) (S' := [.int 36, .int v2]) rfl ?_
  refine zco_icmp_ge (tgt := 53) (zdk (cc := cX12_steady) (q := (37, .if_icmp .ge 16, 3)) tkX12_steady 23 rfl) rfl ?_ ?_
  · exact zco_sub [0, 1] rfl (coX12_steady_J53 l e he v0 v1)
  · refine zco_p tkX12_steady 24 1 (pc' := 41) (L' := [(0, .ref v0), (1, .int v1), (2, .int v2)]) (S' := [.ref v0]) rfl ?_
    refine zco_gr fl_12_161 rfl (zdk (cc := cX12_steady) (q := (41, .getfield 161, 3)) tkX12_steady 25 rfl) (fun x1 => ?_)
    refine zco_p tkX12_steady 26 2 (pc' := 46) (L' := [(0, .ref v0), (1, .int v1), (2, .int v2)]) (S' := [.int 0, .int v2, .ref x1]) rfl ?_
    refine zco_bastore (zdk (cc := cX12_steady) (q := (46, .bastore, 1)) tkX12_steady 28 rfl) ?_
    refine zco_p tkX12_steady 29 2 (pc' := 34) (L' := [(2, .int (v2 + 1)), (0, .ref v0), (1, .int v1)]) (S' := []) rfl ?_
    exact zco_sub [1, 2, 0] rfl (hr34 (v2 + 1))
set_option maxHeartbeats 2000000 in
set_option maxRecDepth 20000 in
theorem coX12_steady_J32 (l : Launch) (e : Nat) (he : 3 ≤ e) (v0 : Nat) (v1 : Int32) : zCo l (e + 1) 0 0 iX12_steady 32 [(0, .ref v0), (1, .int v1)] [] (X12_steady_J32 v0 v1) := by
  unfold X12_steady_J32
  refine zco_p tkX12_steady 19 2 (pc' := 34) (L' := [(2, .int 0), (0, .ref v0), (1, .int v1)]) (S' := []) rfl ?_
  exact zco_sub [1, 2, 0] rfl (zco_fix (Lf := fun x : Int32 => [(0, .ref v0), (1, .int v1), (2, .int x)]) (Sf := fun _ => []) (fun r hr x => coX12_steady_B34 l e he v0 v1 r hr x) zFU 0)
set_option maxHeartbeats 2000000 in
set_option maxRecDepth 20000 in
theorem coX12_steady_B13 (l : Launch) (e : Nat) (he : 3 ≤ e) (v0 : Nat) (v1 : Int32) (r13 : Int32 → zM) (hr13 : ∀ x : Int32, zCo l (e + 1) 0 0 iX12_steady 13 [(0, .ref v0), (1, .int v1), (2, .int x)] [] (r13 x)) (v2 : Int32) : zCo l (e + 1) 0 0 iX12_steady 13 [(0, .ref v0), (1, .int v1), (2, .int v2)] [] (X12_steady_B13 v0 v1 r13 v2) := by
  unfold X12_steady_B13
  refine zco_p tkX12_steady 9 2 (pc' := 16) (L' := [(0, .ref v0), (1, .int v1), (2, .int v2)]) (S' := [.int 12, .int v2]) rfl ?_
  refine zco_icmp_ge (tgt := 32) (zdk (cc := cX12_steady) (q := (16, .if_icmp .ge 16, 3)) tkX12_steady 11 rfl) rfl ?_ ?_
  · exact zco_sub [0, 1] rfl (coX12_steady_J32 l e he v0 v1)
  · refine zco_p tkX12_steady 12 1 (pc' := 20) (L' := [(0, .ref v0), (1, .int v1), (2, .int v2)]) (S' := [.ref v0]) rfl ?_
    refine zco_gr fl_12_158 rfl (zdk (cc := cX12_steady) (q := (20, .getfield 158, 3)) tkX12_steady 13 rfl) (fun x1 => ?_)
    refine zco_p tkX12_steady 14 2 (pc' := 25) (L' := [(0, .ref v0), (1, .int v1), (2, .int v2)]) (S' := [.int ((-1)), .int v2, .ref x1]) rfl ?_
    refine zco_iastore (zdk (cc := cX12_steady) (q := (25, .iastore, 1)) tkX12_steady 16 rfl) ?_
    refine zco_p tkX12_steady 17 2 (pc' := 13) (L' := [(2, .int (v2 + 1)), (0, .ref v0), (1, .int v1)]) (S' := []) rfl ?_
    exact zco_sub [1, 2, 0] rfl (hr13 (v2 + 1))
set_option maxHeartbeats 2000000 in
set_option maxRecDepth 20000 in
theorem coX12_steady (l : Launch) (e : Nat) (he : 3 ≤ e) (v0 : Nat) (v1 : Int32) : zCo l (e + 1) 0 0 iX12_steady 0 [(0, .ref v0), (1, .int v1)] [] (X12_steady v0 v1) := by
  unfold X12_steady
  refine zco_p tkX12_steady 0 3 (pc' := 3) (L' := [(0, .ref v0), (1, .int v1)]) (S' := [.long v1.toInt64, .ref v0]) rfl ?_
  refine zco_Vi (rc := 0) (rs := 0) (mc := 0) (ms := 0) (As := [.long v1.toInt64]) (S := []) vmX12_isPerson (mtX12_isPerson l e (by omega) v0 v1.toInt64) q_1936 rfl rfl (Nat.le_of_ble_eq_true rfl) (zdk (cc := cX12_steady) (q := (3, .invokevirtual 422, 3)) tkX12_steady 3 rfl) (fun y1 => ?_)
  refine zco_if_ne (tgt := 11) (zdk (cc := cX12_steady) (q := (6, .ifCond .ne 5, 3)) tkX12_steady 4 rfl) rfl ?_ ?_
  · refine zco_p tkX12_steady 7 2 (pc' := 13) (L' := [(2, .int 0), (0, .ref v0), (1, .int v1)]) (S' := []) rfl ?_
    exact zco_sub [1, 2, 0] rfl (zco_fix (Lf := fun x : Int32 => [(0, .ref v0), (1, .int v1), (2, .int x)]) (Sf := fun _ => []) (fun r hr x => coX12_steady_B13 l e he v0 v1 r hr x) zFU 0)
  · refine zco_p tkX12_steady 5 1 (pc' := 10) (L' := [(0, .ref v0), (1, .int v1)]) (S' := [.int ((-1))]) rfl ?_
    exact zco_iret rfl rfl rfl (zdk (cc := cX12_steady) (q := (10, .ireturn, 1)) tkX12_steady 6 rfl)
theorem mtX12_steady (l : Launch) (d : Nat) (hd : 4 ≤ d) (v0 : Nat) (v1 : Int32) : zMet l d 0 0 yX12_steady cX12_steady 3 (Option.some .int) [.ref v0, .int v1] (X12_steady v0 v1) := by
  obtain ⟨e, rfl⟩ : ∃ e, d = e + 1 := ⟨d - 1, by omega⟩
  exact zmet_of (own := RX12) (ini := false) (by decide +kernel) rfl (fun _ => by contradiction) (Nat.le_of_ble_eq_true rfl) (coX12_steady l e (by omega) v0 v1)
abbrev iX12_isBetter : zI := (RX12, cX12_isBetter, 3, (Option.some .boolean), false)
def tX12_isBetter : List (Nat × Instr × Nat) := [(0, .aload_n 0, 1), (1, .getfield 134, 3), (4, .bipush 14, 2), (6, .iload_n 1, 1), (7, .iadd, 1), (8, .iaload, 1), (9, .iconst (-1), 1), (10, .if_icmp .eq 36, 3), (13, .aload_n 0, 1), (14, .getfield 134, 3), (17, .aload_n 0, 1), (18, .iload_n 1, 1), (19, .iload_n 2, 1), (20, .invokevirtual 432, 3), (23, .iaload, 1), (24, .aload_n 0, 1), (25, .getfield 134, 3), (28, .aload_n 0, 1), (29, .iload_n 1, 1), (30, .aload_n 0, 1), (31, .getfield 134, 3), (34, .bipush 14, 2), (36, .iload_n 1, 1), (37, .iadd, 1), (38, .iaload, 1), (39, .invokevirtual 432, 3), (42, .iaload, 1), (43, .if_icmp .le 7, 3), (46, .iconst 1, 1), (47, .goto 4, 3), (50, .iconst 0, 1), (51, .ireturn, 1)]
set_option maxRecDepth 100000 in
theorem tkX12_isBetter : ∀ q ∈ tX12_isBetter, decode cX12_isBetter q.1 = .ok q.2 := by decide +kernel
theorem vmX12_isBetter : zVM yX12_isBetter cX12_isBetter 3 (Option.some .boolean) 2 12 := ⟨kX12_isBetter, q_2146, q_126, q_162, ⟨_, rfl, rfl⟩, by decide +kernel, by decide⟩
set_option maxHeartbeats 2000000 in
set_option maxRecDepth 20000 in
theorem coX12_isBetter_J46 (l : Launch) (e : Nat) (he : 1 ≤ e)  : zCo l (e + 1) 0 0 iX12_isBetter 46 [] [] (X12_isBetter_J46 ) := by
  unfold X12_isBetter_J46
  refine zco_p tkX12_isBetter 28 2 (pc' := 51) (L' := []) (S' := [.int 1]) rfl ?_
  exact zco_zret rfl rfl rfl (zdk (cc := cX12_isBetter) (q := (51, .ireturn, 1)) tkX12_isBetter 31 rfl)
set_option maxHeartbeats 2000000 in
set_option maxRecDepth 20000 in
theorem coX12_isBetter (l : Launch) (e : Nat) (he : 1 ≤ e) (v0 : Nat) (v1 : Int32) (v2 : Int32) : zCo l (e + 1) 0 0 iX12_isBetter 0 [(0, .ref v0), (1, .int v1), (2, .int v2)] [] (X12_isBetter v0 v1 v2) := by
  unfold X12_isBetter
  refine zco_p tkX12_isBetter 0 1 (pc' := 1) (L' := [(0, .ref v0), (1, .int v1), (2, .int v2)]) (S' := [.ref v0]) rfl ?_
  refine zco_gr fl_12_134 rfl (zdk (cc := cX12_isBetter) (q := (1, .getfield 134, 3)) tkX12_isBetter 1 rfl) (fun x1 => ?_)
  refine zco_p tkX12_isBetter 2 3 (pc' := 8) (L' := [(0, .ref v0), (1, .int v1), (2, .int v2)]) (S' := [.int (14 + v1), .ref x1]) rfl ?_
  refine zco_iaload (zdk (cc := cX12_isBetter) (q := (8, .iaload, 1)) tkX12_isBetter 5 rfl) (fun x2 => ?_)
  refine zco_p tkX12_isBetter 6 1 (pc' := 10) (L' := [(0, .ref v0), (1, .int v1), (2, .int v2)]) (S' := [.int ((-1)), .int x2]) rfl ?_
  refine zco_icmp_eq (tgt := 46) (zdk (cc := cX12_isBetter) (q := (10, .if_icmp .eq 36, 3)) tkX12_isBetter 7 rfl) rfl ?_ ?_
  · exact zco_sub [] rfl (coX12_isBetter_J46 l e he )
  · refine zco_p tkX12_isBetter 8 1 (pc' := 14) (L' := [(0, .ref v0), (1, .int v1), (2, .int v2)]) (S' := [.ref v0]) rfl ?_
    refine zco_gr fl_12_134 rfl (zdk (cc := cX12_isBetter) (q := (14, .getfield 134, 3)) tkX12_isBetter 9 rfl) (fun x3 => ?_)
    refine zco_p tkX12_isBetter 10 3 (pc' := 20) (L' := [(0, .ref v0), (1, .int v1), (2, .int v2)]) (S' := [.int v2, .int v1, .ref v0, .ref x3]) rfl ?_
    refine zco_Vi (rc := 0) (rs := 0) (mc := 0) (ms := 0) (As := [.int v1, .int v2]) (S := [.ref x3]) vmX12_likingAt (mtX12_likingAt l e (by omega) v0 v1 v2) q_2004 rfl rfl (Nat.le_of_ble_eq_true rfl) (zdk (cc := cX12_isBetter) (q := (20, .invokevirtual 432, 3)) tkX12_isBetter 13 rfl) (fun y4 => ?_)
    refine zco_iaload (zdk (cc := cX12_isBetter) (q := (23, .iaload, 1)) tkX12_isBetter 14 rfl) (fun x5 => ?_)
    refine zco_p tkX12_isBetter 15 1 (pc' := 25) (L' := [(0, .ref v0), (1, .int v1), (2, .int v2)]) (S' := [.ref v0, .int x5]) rfl ?_
    refine zco_gr fl_12_134 rfl (zdk (cc := cX12_isBetter) (q := (25, .getfield 134, 3)) tkX12_isBetter 16 rfl) (fun x6 => ?_)
    refine zco_p tkX12_isBetter 17 3 (pc' := 31) (L' := [(0, .ref v0), (1, .int v1), (2, .int v2)]) (S' := [.ref v0, .int v1, .ref v0, .ref x6, .int x5]) rfl ?_
    refine zco_gr fl_12_134 rfl (zdk (cc := cX12_isBetter) (q := (31, .getfield 134, 3)) tkX12_isBetter 20 rfl) (fun x7 => ?_)
    refine zco_p tkX12_isBetter 21 3 (pc' := 38) (L' := [(0, .ref v0), (1, .int v1), (2, .int v2)]) (S' := [.int (14 + v1), .ref x7, .int v1, .ref v0, .ref x6, .int x5]) rfl ?_
    refine zco_iaload (zdk (cc := cX12_isBetter) (q := (38, .iaload, 1)) tkX12_isBetter 24 rfl) (fun x8 => ?_)
    refine zco_Vi (rc := 0) (rs := 0) (mc := 0) (ms := 0) (As := [.int v1, .int x8]) (S := [.ref x6, .int x5]) vmX12_likingAt (mtX12_likingAt l e (by omega) v0 v1 x8) q_2004 rfl rfl (Nat.le_of_ble_eq_true rfl) (zdk (cc := cX12_isBetter) (q := (39, .invokevirtual 432, 3)) tkX12_isBetter 25 rfl) (fun y9 => ?_)
    refine zco_iaload (zdk (cc := cX12_isBetter) (q := (42, .iaload, 1)) tkX12_isBetter 26 rfl) (fun x10 => ?_)
    refine zco_icmp_le (tgt := 50) (zdk (cc := cX12_isBetter) (q := (43, .if_icmp .le 7, 3)) tkX12_isBetter 27 rfl) rfl ?_ ?_
    · refine zco_p tkX12_isBetter 30 1 (pc' := 51) (L' := [(0, .ref v0), (1, .int v1), (2, .int v2)]) (S' := [.int 0]) rfl ?_
      exact zco_zret rfl rfl rfl (zdk (cc := cX12_isBetter) (q := (51, .ireturn, 1)) tkX12_isBetter 31 rfl)
    · exact zco_sub [] rfl (coX12_isBetter_J46 l e he )
theorem mtX12_isBetter (l : Launch) (d : Nat) (hd : 2 ≤ d) (v0 : Nat) (v1 : Int32) (v2 : Int32) : zMet l d 0 0 yX12_isBetter cX12_isBetter 3 (Option.some .boolean) [.ref v0, .int v1, .int v2] (X12_isBetter v0 v1 v2) := by
  obtain ⟨e, rfl⟩ : ∃ e, d = e + 1 := ⟨d - 1, by omega⟩
  exact zmet_of (own := RX12) (ini := false) (by decide +kernel) rfl (fun _ => by contradiction) (Nat.le_of_ble_eq_true rfl) (coX12_isBetter l e (by omega) v0 v1 v2)
abbrev iX12_rather : zI := (RX12, cX12_rather, 6, (Option.some .int), false)
def tX12_rather : List (Nat × Instr × Nat) := [(0, .iload_n 1, 1), (1, .iconst (-1), 1), (2, .if_icmp .lt 18, 3), (5, .iload_n 1, 1), (6, .iconst (-1), 1), (7, .if_icmp .eq 15, 3), (10, .iload_n 2, 1), (11, .i2l, 1), (12, .lconst 0, 1), (13, .lconst 1, 1), (14, .invokestatic 313, 3), (17, .ifCond .ne 5, 3), (20, .iconst (-1), 1), (21, .ireturn, 1), (22, .iconst 0, 1), (23, .istore_n 3, 1), (24, .iconst 0, 1), (25, .istore 4, 2), (27, .iload 4, 2), (29, .aload_n 0, 1), (30, .iconst 0, 1), (31, .invokevirtual 416, 3), (34, .if_icmp .ge 107, 3), (37, .bipush 6, 2), (39, .istore 5, 2), (41, .iload 5, 2), (43, .bipush 6, 2), (45, .aload_n 0, 1), (46, .iconst 1, 1), (47, .invokevirtual 416, 3), (50, .iadd, 1), (51, .if_icmp .ge 84, 3), (54, .aload_n 0, 1), (55, .iload 4, 2), (57, .iload 5, 2), (59, .invokevirtual 496, 3), (62, .ifCond .ne 67, 3), (65, .aload_n 0, 1), (66, .getfield 134, 3), (69, .bipush 14, 2), (71, .iload 4, 2), (73, .iadd, 1), (74, .iaload, 1), (75, .iload 5, 2), (77, .if_icmp .eq 52, 3), (80, .aload_n 0, 1), (81, .iload 4, 2), (83, .iload 5, 2), (85, .invokevirtual 583, 3), (88, .ifCond .eq 41, 3), (91, .aload_n 0, 1), (92, .iload 5, 2), (94, .iload 4, 2), (96, .invokevirtual 583, 3), (99, .ifCond .ne 6, 3), (102, .goto 27, 3), (105, .iload_n 3, 1), (106, .iload_n 1, 1), (107, .if_icmp .ne 19, 3), (110, .aload_n 0, 1), (111, .iload_n 2, 1), (112, .ifCond .ne 8, 3), (115, .iload 4, 2), (117, .goto 5, 3), (120, .iload 5, 2), (122, .invokevirtual 455, 3), (125, .ireturn, 1), (126, .iinc 3 1, 3), (129, .iinc 5 1, 3), (132, .goto (-91), 3), (135, .iinc 4 1, 3), (138, .goto (-111), 3), (141, .iload_n 1, 1), (142, .iconst (-1), 1), (143, .if_icmp .ne 7, 3), (146, .iload_n 3, 1), (147, .goto 4, 3), (150, .iconst (-1), 1), (151, .ireturn, 1)]
set_option maxRecDepth 100000 in
theorem tkX12_rather : ∀ q ∈ tX12_rather, decode cX12_rather q.1 = .ok q.2 := by decide +kernel
theorem vmX12_rather : zVM yX12_rather cX12_rather 6 (Option.some .int) 2 12 := ⟨kX12_rather, q_2141, q_2142, q_162, ⟨_, rfl, rfl⟩, by decide +kernel, by decide⟩
set_option maxHeartbeats 2000000 in
set_option maxRecDepth 20000 in
theorem coX12_rather_J141 (l : Launch) (e : Nat) (he : 2 ≤ e) (v1 : Int32) (v3 : Int32) : zCo l (e + 1) 0 0 iX12_rather 141 [(1, .int v1), (3, .int v3)] [] (X12_rather_J141 v1 v3) := by
  unfold X12_rather_J141
  refine zco_p tkX12_rather 72 2 (pc' := 143) (L' := [(1, .int v1), (3, .int v3)]) (S' := [.int ((-1)), .int v1]) rfl ?_
  refine zco_icmp_ne (tgt := 150) (zdk (cc := cX12_rather) (q := (143, .if_icmp .ne 7, 3)) tkX12_rather 74 rfl) rfl ?_ ?_
  · refine zco_p tkX12_rather 77 1 (pc' := 151) (L' := [(1, .int v1), (3, .int v3)]) (S' := [.int ((-1))]) rfl ?_
    exact zco_iret rfl rfl rfl (zdk (cc := cX12_rather) (q := (151, .ireturn, 1)) tkX12_rather 78 rfl)
  · refine zco_p tkX12_rather 75 2 (pc' := 151) (L' := [(1, .int v1), (3, .int v3)]) (S' := [.int v3]) rfl ?_
    exact zco_iret rfl rfl rfl (zdk (cc := cX12_rather) (q := (151, .ireturn, 1)) tkX12_rather 78 rfl)
set_option maxHeartbeats 2000000 in
set_option maxRecDepth 20000 in
theorem coX12_rather_J135 (l : Launch) (e : Nat) (he : 2 ≤ e) (v0 : Nat) (v1 : Int32) (v2 : Int32) (v3 : Int32) (v4 : Int32) (r27 : Int32 × Int32 → zM) (hr27 : ∀ x : Int32 × Int32, zCo l (e + 1) 0 0 iX12_rather 27 [(0, .ref v0), (1, .int v1), (2, .int v2), (3, .int x.1), (4, .int x.2)] [] (r27 x)) : zCo l (e + 1) 0 0 iX12_rather 135 [(0, .ref v0), (1, .int v1), (2, .int v2), (3, .int v3), (4, .int v4)] [] (X12_rather_J135 r27 v0 v1 v2 v3 v4) := by
  unfold X12_rather_J135
  refine zco_p tkX12_rather 70 2 (pc' := 27) (L' := [(4, .int (v4 + 1)), (0, .ref v0), (1, .int v1), (2, .int v2), (3, .int v3)]) (S' := []) rfl ?_
  exact zco_sub [1, 2, 3, 4, 0] rfl (hr27 (v3, v4 + 1))
set_option maxHeartbeats 2000000 in
set_option maxRecDepth 20000 in
theorem coX12_rather_J129 (l : Launch) (e : Nat) (he : 2 ≤ e) (v0 : Nat) (v1 : Int32) (v2 : Int32) (v3 : Int32) (v4 : Int32) (v5 : Int32) (r27 : Int32 × Int32 → zM) (hr27 : ∀ x : Int32 × Int32, zCo l (e + 1) 0 0 iX12_rather 27 [(0, .ref v0), (1, .int v1), (2, .int v2), (3, .int x.1), (4, .int x.2)] [] (r27 x)) (r41 : Int32 × Int32 → zM) (hr41 : ∀ x : Int32 × Int32, zCo l (e + 1) 0 0 iX12_rather 41 [(0, .ref v0), (1, .int v1), (2, .int v2), (3, .int x.1), (4, .int v4), (5, .int x.2)] [] (r41 x)) : zCo l (e + 1) 0 0 iX12_rather 129 [(0, .ref v0), (1, .int v1), (2, .int v2), (3, .int v3), (4, .int v4), (5, .int v5)] [] (X12_rather_J129 r27 r41 v0 v1 v2 v3 v4 v5) := by
  unfold X12_rather_J129
  refine zco_p tkX12_rather 68 2 (pc' := 41) (L' := [(5, .int (v5 + 1)), (0, .ref v0), (1, .int v1), (2, .int v2), (3, .int v3), (4, .int v4)]) (S' := []) rfl ?_
  exact zco_sub [1, 2, 3, 4, 5, 0] rfl (hr41 (v3, v5 + 1))
set_option maxHeartbeats 2000000 in
set_option maxRecDepth 20000 in
theorem coX12_rather_J122 (l : Launch) (e : Nat) (he : 2 ≤ e) (s0 : Int32) (s1 : Nat) : zCo l (e + 1) 0 0 iX12_rather 122 [] [.int s0, .ref s1] (X12_rather_J122 s0 s1) := by
  unfold X12_rather_J122
  refine zco_Vi (rc := 0) (rs := 0) (mc := 0) (ms := 0) (As := [.int s0]) (S := []) vmX12_numberOf (mtX12_numberOf l e (by omega) s1 s0) q_1976 rfl rfl (Nat.le_of_ble_eq_true rfl) (zdk (cc := cX12_rather) (q := (122, .invokevirtual 455, 3)) tkX12_rather 65 rfl) (fun y1 => ?_)
  exact zco_iret rfl rfl rfl (zdk (cc := cX12_rather) (q := (125, .ireturn, 1)) tkX12_rather 66 rfl)
set_option maxHeartbeats 2000000 in
set_option maxRecDepth 20000 in
theorem coX12_rather_J110 (l : Launch) (e : Nat) (he : 2 ≤ e) (v0 : Nat) (v2 : Int32) (v4 : Int32) (v5 : Int32) : zCo l (e + 1) 0 0 iX12_rather 110 [(0, .ref v0), (2, .int v2), (4, .int v4), (5, .int v5)] [] (X12_rather_J110 v0 v2 v4 v5) := by
  unfold X12_rather_J110
  refine zco_p tkX12_rather 59 2 (pc' := 112) (L' := [(0, .ref v0), (2, .int v2), (4, .int v4), (5, .int v5)]) (S' := [.int v2, .ref v0]) rfl ?_
  refine zco_if_ne (tgt := 120) (zdk (cc := cX12_rather) (q := (112, .ifCond .ne 8, 3)) tkX12_rather 61 rfl) rfl ?_ ?_
  · refine zco_p tkX12_rather 64 1 (pc' := 122) (L' := [(0, .ref v0), (2, .int v2), (4, .int v4), (5, .int v5)]) (S' := [.int v5, .ref v0]) rfl ?_
    exact zco_sub [] rfl (coX12_rather_J122 l e he v5 v0)
  · refine zco_p tkX12_rather 62 2 (pc' := 122) (L' := [(0, .ref v0), (2, .int v2), (4, .int v4), (5, .int v5)]) (S' := [.int v4, .ref v0]) rfl ?_
    exact zco_sub [] rfl (coX12_rather_J122 l e he v4 v0)
set_option maxHeartbeats 2000000 in
set_option maxRecDepth 20000 in
theorem coX12_rather_B41 (l : Launch) (e : Nat) (he : 2 ≤ e) (v0 : Nat) (v1 : Int32) (v2 : Int32) (v4 : Int32) (r27 : Int32 × Int32 → zM) (hr27 : ∀ x : Int32 × Int32, zCo l (e + 1) 0 0 iX12_rather 27 [(0, .ref v0), (1, .int v1), (2, .int v2), (3, .int x.1), (4, .int x.2)] [] (r27 x)) (r41 : Int32 × Int32 → zM) (hr41 : ∀ x : Int32 × Int32, zCo l (e + 1) 0 0 iX12_rather 41 [(0, .ref v0), (1, .int v1), (2, .int v2), (3, .int x.1), (4, .int v4), (5, .int x.2)] [] (r41 x)) (v3 : Int32) (v5 : Int32) : zCo l (e + 1) 0 0 iX12_rather 41 [(0, .ref v0), (1, .int v1), (2, .int v2), (3, .int v3), (4, .int v4), (5, .int v5)] [] (X12_rather_B41 r27 v0 v1 v2 v4 r41 v3 v5) := by
  unfold X12_rather_B41
  refine zco_p tkX12_rather 25 4 (pc' := 47) (L' := [(0, .ref v0), (1, .int v1), (2, .int v2), (3, .int v3), (4, .int v4), (5, .int v5)]) (S' := [.int 1, .ref v0, .int 6, .int v5]) rfl ?_
  refine zco_Vi (rc := 0) (rs := 0) (mc := 0) (ms := 0) (As := [.int 1]) (S := [.int 6, .int v5]) vmX12_sideMany (mtX12_sideMany l e (by omega) v0 1) q_1944 rfl rfl (Nat.le_of_ble_eq_true rfl) (zdk (cc := cX12_rather) (q := (47, .invokevirtual 416, 3)) tkX12_rather 29 rfl) (fun y1 => ?_)
  refine zco_p tkX12_rather 30 1 (pc' := 51) (L' := [(0, .ref v0), (1, .int v1), (2, .int v2), (3, .int v3), (4, .int v4), (5, .int v5)]) (S' := [.int (6 + y1), .int v5]) rfl ?_
  refine zco_icmp_ge (tgt := 135) (zdk (cc := cX12_rather) (q := (51, .if_icmp .ge 84, 3)) tkX12_rather 31 rfl) rfl ?_ ?_
  · exact zco_sub [0, 1, 2, 3, 4] rfl (coX12_rather_J135 l e he v0 v1 v2 v3 v4 r27 hr27)
  · refine zco_p tkX12_rather 32 3 (pc' := 59) (L' := [(0, .ref v0), (1, .int v1), (2, .int v2), (3, .int v3), (4, .int v4), (5, .int v5)]) (S' := [.int v5, .int v4, .ref v0]) rfl ?_
    refine zco_Vi (rc := 0) (rs := 0) (mc := 0) (ms := 0) (As := [.int v4, .int v5]) (S := []) vmX12_areKin (mtX12_areKin l e (by omega) v0 v4 v5) q_2059 rfl rfl (Nat.le_of_ble_eq_true rfl) (zdk (cc := cX12_rather) (q := (59, .invokevirtual 496, 3)) tkX12_rather 35 rfl) (fun y2 => ?_)
    refine zco_if_ne (tgt := 129) (zdk (cc := cX12_rather) (q := (62, .ifCond .ne 67, 3)) tkX12_rather 36 rfl) rfl ?_ ?_
    · exact zco_sub [0, 1, 2, 3, 4, 5] rfl (coX12_rather_J129 l e he v0 v1 v2 v3 v4 v5 r27 hr27 r41 hr41)
    · refine zco_p tkX12_rather 37 1 (pc' := 66) (L' := [(0, .ref v0), (1, .int v1), (2, .int v2), (3, .int v3), (4, .int v4), (5, .int v5)]) (S' := [.ref v0]) rfl ?_
      refine zco_gr fl_12_134 rfl (zdk (cc := cX12_rather) (q := (66, .getfield 134, 3)) tkX12_rather 38 rfl) (fun x3 => ?_)
      refine zco_p tkX12_rather 39 3 (pc' := 74) (L' := [(0, .ref v0), (1, .int v1), (2, .int v2), (3, .int v3), (4, .int v4), (5, .int v5)]) (S' := [.int (14 + v4), .ref x3]) rfl ?_
      refine zco_iaload (zdk (cc := cX12_rather) (q := (74, .iaload, 1)) tkX12_rather 42 rfl) (fun x4 => ?_)
      refine zco_p tkX12_rather 43 1 (pc' := 77) (L' := [(0, .ref v0), (1, .int v1), (2, .int v2), (3, .int v3), (4, .int v4), (5, .int v5)]) (S' := [.int v5, .int x4]) rfl ?_
      refine zco_icmp_eq (tgt := 129) (zdk (cc := cX12_rather) (q := (77, .if_icmp .eq 52, 3)) tkX12_rather 44 rfl) rfl ?_ ?_
      · exact zco_sub [0, 1, 2, 3, 4, 5] rfl (coX12_rather_J129 l e he v0 v1 v2 v3 v4 v5 r27 hr27 r41 hr41)
      · refine zco_p tkX12_rather 45 3 (pc' := 85) (L' := [(0, .ref v0), (1, .int v1), (2, .int v2), (3, .int v3), (4, .int v4), (5, .int v5)]) (S' := [.int v5, .int v4, .ref v0]) rfl ?_
        refine zco_Vi (rc := 0) (rs := 0) (mc := 0) (ms := 0) (As := [.int v4, .int v5]) (S := []) vmX12_isBetter (mtX12_isBetter l e (by omega) v0 v4 v5) q_2144 rfl rfl (Nat.le_of_ble_eq_true rfl) (zdk (cc := cX12_rather) (q := (85, .invokevirtual 583, 3)) tkX12_rather 48 rfl) (fun y5 => ?_)
        refine zco_if_eq (tgt := 129) (zdk (cc := cX12_rather) (q := (88, .ifCond .eq 41, 3)) tkX12_rather 49 rfl) rfl ?_ ?_
        · exact zco_sub [0, 1, 2, 3, 4, 5] rfl (coX12_rather_J129 l e he v0 v1 v2 v3 v4 v5 r27 hr27 r41 hr41)
        · refine zco_p tkX12_rather 50 3 (pc' := 96) (L' := [(0, .ref v0), (1, .int v1), (2, .int v2), (3, .int v3), (4, .int v4), (5, .int v5)]) (S' := [.int v4, .int v5, .ref v0]) rfl ?_
          refine zco_Vi (rc := 0) (rs := 0) (mc := 0) (ms := 0) (As := [.int v5, .int v4]) (S := []) vmX12_isBetter (mtX12_isBetter l e (by omega) v0 v5 v4) q_2144 rfl rfl (Nat.le_of_ble_eq_true rfl) (zdk (cc := cX12_rather) (q := (96, .invokevirtual 583, 3)) tkX12_rather 53 rfl) (fun y6 => ?_)
          refine zco_if_ne (tgt := 105) (zdk (cc := cX12_rather) (q := (99, .ifCond .ne 6, 3)) tkX12_rather 54 rfl) rfl ?_ ?_
          · refine zco_p tkX12_rather 56 2 (pc' := 107) (L' := [(0, .ref v0), (1, .int v1), (2, .int v2), (3, .int v3), (4, .int v4), (5, .int v5)]) (S' := [.int v1, .int v3]) rfl ?_
            refine zco_icmp_ne (tgt := 126) (zdk (cc := cX12_rather) (q := (107, .if_icmp .ne 19, 3)) tkX12_rather 58 rfl) rfl ?_ ?_
            · refine zco_p tkX12_rather 67 1 (pc' := 129) (L' := [(3, .int (v3 + 1)), (0, .ref v0), (1, .int v1), (2, .int v2), (4, .int v4), (5, .int v5)]) (S' := []) rfl ?_
              exact zco_sub [1, 2, 3, 0, 4, 5] rfl (coX12_rather_J129 l e he v0 v1 v2 (v3 + 1) v4 v5 r27 hr27 r41 hr41)
            · exact zco_sub [0, 2, 4, 5] rfl (coX12_rather_J110 l e he v0 v2 v4 v5)
          · refine zco_p tkX12_rather 55 1 (pc' := 129) (L' := [(0, .ref v0), (1, .int v1), (2, .int v2), (3, .int v3), (4, .int v4), (5, .int v5)]) (S' := []) rfl ?_
            exact zco_sub [0, 1, 2, 3, 4, 5] rfl (coX12_rather_J129 l e he v0 v1 v2 v3 v4 v5 r27 hr27 r41 hr41)
set_option maxHeartbeats 2000000 in
set_option maxRecDepth 20000 in
theorem coX12_rather_B27 (l : Launch) (e : Nat) (he : 2 ≤ e) (v0 : Nat) (v1 : Int32) (v2 : Int32) (r27 : Int32 × Int32 → zM) (hr27 : ∀ x : Int32 × Int32, zCo l (e + 1) 0 0 iX12_rather 27 [(0, .ref v0), (1, .int v1), (2, .int v2), (3, .int x.1), (4, .int x.2)] [] (r27 x)) (v3 : Int32) (v4 : Int32) : zCo l (e + 1) 0 0 iX12_rather 27 [(0, .ref v0), (1, .int v1), (2, .int v2), (3, .int v3), (4, .int v4)] [] (X12_rather_B27 v0 v1 v2 r27 v3 v4) := by
  unfold X12_rather_B27
  refine zco_p tkX12_rather 18 3 (pc' := 31) (L' := [(0, .ref v0), (1, .int v1), (2, .int v2), (3, .int v3), (4, .int v4)]) (S' := [.int 0, .ref v0, .int v4]) rfl ?_
  refine zco_Vi (rc := 0) (rs := 0) (mc := 0) (ms := 0) (As := [.int 0]) (S := [.int v4]) vmX12_sideMany (mtX12_sideMany l e (by omega) v0 0) q_1944 rfl rfl (Nat.le_of_ble_eq_true rfl) (zdk (cc := cX12_rather) (q := (31, .invokevirtual 416, 3)) tkX12_rather 21 rfl) (fun y1 => ?_)
  refine zco_icmp_ge (tgt := 141) (zdk (cc := cX12_rather) (q := (34, .if_icmp .ge 107, 3)) tkX12_rather 22 rfl) rfl ?_ ?_
  · exact zco_sub [1, 3] rfl (coX12_rather_J141 l e he v1 v3)
  · refine zco_p tkX12_rather 23 2 (pc' := 41) (L' := [(5, .int 6), (0, .ref v0), (1, .int v1), (2, .int v2), (3, .int v3), (4, .int v4)]) (S' := []) rfl ?_
    exact zco_sub [1, 2, 3, 4, 5, 0] rfl (zco_fix (Lf := fun x : Int32 × Int32 => [(0, .ref v0), (1, .int v1), (2, .int v2), (3, .int x.1), (4, .int v4), (5, .int x.2)]) (Sf := fun _ => []) (fun r hr x => coX12_rather_B41 l e he v0 v1 v2 v4 r27 hr27 r hr x.1 x.2) zFU (v3, 6))
set_option maxHeartbeats 2000000 in
set_option maxRecDepth 20000 in
theorem coX12_rather_J22 (l : Launch) (e : Nat) (he : 2 ≤ e) (v0 : Nat) (v1 : Int32) (v2 : Int32) : zCo l (e + 1) 0 0 iX12_rather 22 [(0, .ref v0), (1, .int v1), (2, .int v2)] [] (X12_rather_J22 v0 v1 v2) := by
  unfold X12_rather_J22
  refine zco_p tkX12_rather 14 4 (pc' := 27) (L' := [(4, .int 0), (3, .int 0), (0, .ref v0), (1, .int v1), (2, .int v2)]) (S' := []) rfl ?_
  exact zco_sub [2, 3, 4, 1, 0] rfl (zco_fix (Lf := fun x : Int32 × Int32 => [(0, .ref v0), (1, .int v1), (2, .int v2), (3, .int x.1), (4, .int x.2)]) (Sf := fun _ => []) (fun r hr x => coX12_rather_B27 l e he v0 v1 v2 r hr x.1 x.2) zFU (0, 0))
set_option maxHeartbeats 2000000 in
set_option maxRecDepth 20000 in
theorem coX12_rather (l : Launch) (e : Nat) (he : 2 ≤ e) (v0 : Nat) (v1 : Int32) (v2 : Int32) : zCo l (e + 1) 0 0 iX12_rather 0 [(0, .ref v0), (1, .int v1), (2, .int v2)] [] (X12_rather v0 v1 v2) := by
  unfold X12_rather
  refine zco_p tkX12_rather 0 2 (pc' := 2) (L' := [(0, .ref v0), (1, .int v1), (2, .int v2)]) (S' := [.int ((-1)), .int v1]) rfl ?_
  refine zco_icmp_lt (tgt := 20) (zdk (cc := cX12_rather) (q := (2, .if_icmp .lt 18, 3)) tkX12_rather 2 rfl) rfl ?_ ?_
  · refine zco_p tkX12_rather 12 1 (pc' := 21) (L' := [(0, .ref v0), (1, .int v1), (2, .int v2)]) (S' := [.int ((-1))]) rfl ?_
    exact zco_iret rfl rfl rfl (zdk (cc := cX12_rather) (q := (21, .ireturn, 1)) tkX12_rather 13 rfl)
  · refine zco_p tkX12_rather 3 2 (pc' := 7) (L' := [(0, .ref v0), (1, .int v1), (2, .int v2)]) (S' := [.int ((-1)), .int v1]) rfl ?_
    refine zco_icmp_eq (tgt := 22) (zdk (cc := cX12_rather) (q := (7, .if_icmp .eq 15, 3)) tkX12_rather 5 rfl) rfl ?_ ?_
    · exact zco_sub [0, 1, 2] rfl (coX12_rather_J22 l e he v0 v1 v2)
    · refine zco_p tkX12_rather 6 4 (pc' := 14) (L' := [(0, .ref v0), (1, .int v1), (2, .int v2)]) (S' := [.long 1, .long 0, .long v2.toInt64]) rfl ?_
      refine zco_Si (rc := 0) (rs := 0) (mc := 0) (ms := 0) (As := [.long v2.toInt64, .long 0, .long 1]) (S := []) vmX12_isIn (mtX12_isIn l e (by omega) v2.toInt64 0 1) q_1799 rfl rfl (Nat.le_of_ble_eq_true rfl) (zdk (cc := cX12_rather) (q := (14, .invokestatic 313, 3)) tkX12_rather 10 rfl) (fun y1 => ?_)
      refine zco_if_ne (tgt := 22) (zdk (cc := cX12_rather) (q := (17, .ifCond .ne 5, 3)) tkX12_rather 11 rfl) rfl ?_ ?_
      · exact zco_sub [0, 1, 2] rfl (coX12_rather_J22 l e he v0 v1 v2)
      · refine zco_p tkX12_rather 12 1 (pc' := 21) (L' := [(0, .ref v0), (1, .int v1), (2, .int v2)]) (S' := [.int ((-1))]) rfl ?_
        exact zco_iret rfl rfl rfl (zdk (cc := cX12_rather) (q := (21, .ireturn, 1)) tkX12_rather 13 rfl)
theorem mtX12_rather (l : Launch) (d : Nat) (hd : 3 ≤ d) (v0 : Nat) (v1 : Int32) (v2 : Int32) : zMet l d 0 0 yX12_rather cX12_rather 6 (Option.some .int) [.ref v0, .int v1, .int v2] (X12_rather v0 v1 v2) := by
  obtain ⟨e, rfl⟩ : ∃ e, d = e + 1 := ⟨d - 1, by omega⟩
  exact zmet_of (own := RX12) (ini := false) (by decide +kernel) rfl (fun _ => by contradiction) (Nat.le_of_ble_eq_true rfl) (coX12_rather l e (by omega) v0 v1 v2)
