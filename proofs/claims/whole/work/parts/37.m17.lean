abbrev iX12_odds : zI := (RX12, cX12_odds, 4, (Option.some .int), false)
def tX12_odds : List (Nat × Instr × Nat) := [(0, .iload_n 1, 1), (1, .iconst (-1), 1), (2, .if_icmp .eq 12, 3), (5, .aload_n 0, 1), (6, .iload_n 1, 1), (7, .i2l, 1), (8, .invokevirtual 422, 3), (11, .ifCond .eq 20, 3), (14, .aload_n 0, 1), (15, .invokevirtual 419, 3), (18, .ifCond .eq 13, 3), (21, .aload_n 0, 1), (22, .iconst 1, 1), (23, .iconst 1, 1), (24, .iconst 1, 1), (25, .invokevirtual 557, 3), (28, .ifCond .ne 5, 3), (31, .iconst (-1), 1), (32, .ireturn, 1), (33, .iload_n 1, 1), (34, .iconst (-1), 1), (35, .if_icmp .ne 11, 3), (38, .bipush 100, 2), (40, .aload_n 0, 1), (41, .invokevirtual 419, 3), (44, .imul, 1), (45, .ireturn, 1), (46, .iconst 0, 1), (47, .istore_n 2, 1), (48, .aload_n 0, 1), (49, .invokevirtual 561, 3), (52, .iconst (-1), 1), (53, .istore_n 3, 1), (54, .iload_n 3, 1), (55, .aload_n 0, 1), (56, .invokevirtual 419, 3), (59, .if_icmp .ge 73, 3), (62, .aload_n 0, 1), (63, .iload_n 3, 1), (64, .iconst (-1), 1), (65, .if_icmp .ne 7, 3), (68, .iconst (-1), 1), (69, .goto 8, 3), (72, .aload_n 0, 1), (73, .iload_n 3, 1), (74, .invokevirtual 429, 3), (77, .invokevirtual 527, 3), (80, .aload_n 0, 1), (81, .iload_n 1, 1), (82, .invokevirtual 521, 3), (85, .iconst (-1), 1), (86, .if_icmp .eq 36, 3), (89, .iload_n 2, 1), (90, .iload_n 3, 1), (91, .iconst (-1), 1), (92, .if_icmp .ne 21, 3), (95, .bipush 100, 2), (97, .aload_n 0, 1), (98, .getfield 105, 3), (101, .bipush 10, 2), (103, .iaload, 1), (104, .isub, 1), (105, .aload_n 0, 1), (106, .invokevirtual 419, 3), (109, .imul, 1), (110, .goto 10, 3), (113, .aload_n 0, 1), (114, .getfield 105, 3), (117, .bipush 10, 2), (119, .iaload, 1), (120, .iadd, 1), (121, .istore_n 2, 1), (122, .aload_n 0, 1), (123, .invokevirtual 530, 3), (126, .iinc 3 1, 3), (129, .goto (-75), 3), (132, .aload_n 0, 1), (133, .invokevirtual 567, 3), (136, .iload_n 2, 1), (137, .ireturn, 1)]
set_option maxRecDepth 100000 in
theorem tkX12_odds : ∀ q ∈ tX12_odds, decode cX12_odds q.1 = .ok q.2 := by decide +kernel
theorem vmX12_odds : zVM yX12_odds cX12_odds 4 (Option.some .int) 1 12 := ⟨kX12_odds, q_2162, q_2163, q_160, ⟨_, rfl, rfl⟩, by decide +kernel, by decide⟩
def X12_odds_J132 (v0 : Nat) (v2 : Int32) : zM := z_rc 12 v0 (z_cv (X12_takesBack v0) (z_ret (some (.int v2))))
set_option maxHeartbeats 2000000 in
set_option maxRecDepth 20000 in
theorem coX12_odds_J132 (l : Launch) (e : Nat) (he : 8 ≤ e) (v0 : Nat) (v2 : Int32) : zCo l (e + 1) 0 0 iX12_odds 132 [(0, .ref v0), (2, .int v2)] [] (X12_odds_J132 v0 v2) := by
  unfold X12_odds_J132
  refine zco_p tkX12_odds 76 1 (pc' := 133) (L' := [(0, .ref v0), (2, .int v2)]) (S' := [.ref v0]) rfl ?_
  refine zco_Vv (rc := 0) (rs := 0) (mc := 0) (ms := 0) (As := []) (S := []) vmX12_takesBack (mtX12_takesBack l e (by omega) v0) q_2098 rfl rfl (Nat.le_of_ble_eq_true rfl) (zdk (cc := cX12_odds) (q := (133, .invokevirtual 567, 3)) tkX12_odds 77 rfl) ?_
  refine zco_p tkX12_odds 78 1 (pc' := 137) (L' := [(0, .ref v0), (2, .int v2)]) (S' := [.int v2]) rfl ?_
  exact zco_iret rfl rfl rfl (zdk (cc := cX12_odds) (q := (137, .ireturn, 1)) tkX12_odds 79 rfl)
def X12_odds_J122 (r54 : Int32 × Int32 → zM) (v0 : Nat) (v1 : Int32) (v2 : Int32) (v3 : Int32) : zM := z_rc 12 v0 (z_cv (X12_triesAnew v0) (r54 (v2, v3 + 1)))
set_option maxHeartbeats 2000000 in
set_option maxRecDepth 20000 in
theorem coX12_odds_J122 (l : Launch) (e : Nat) (he : 8 ≤ e) (v0 : Nat) (v1 : Int32) (v2 : Int32) (v3 : Int32) (r54 : Int32 × Int32 → zM) (hr54 : ∀ x : Int32 × Int32, zCo l (e + 1) 0 0 iX12_odds 54 [(0, .ref v0), (1, .int v1), (2, .int x.1), (3, .int x.2)] [] (r54 x)) : zCo l (e + 1) 0 0 iX12_odds 122 [(0, .ref v0), (1, .int v1), (2, .int v2), (3, .int v3)] [] (X12_odds_J122 r54 v0 v1 v2 v3) := by
  unfold X12_odds_J122
  refine zco_p tkX12_odds 72 1 (pc' := 123) (L' := [(0, .ref v0), (1, .int v1), (2, .int v2), (3, .int v3)]) (S' := [.ref v0]) rfl ?_
  refine zco_Vv (rc := 0) (rs := 0) (mc := 0) (ms := 0) (As := []) (S := []) vmX12_triesAnew (mtX12_triesAnew l e (by omega) v0) q_2102 rfl rfl (Nat.le_of_ble_eq_true rfl) (zdk (cc := cX12_odds) (q := (123, .invokevirtual 530, 3)) tkX12_odds 73 rfl) ?_
  refine zco_p tkX12_odds 74 2 (pc' := 54) (L' := [(3, .int (v3 + 1)), (0, .ref v0), (1, .int v1), (2, .int v2)]) (S' := []) rfl ?_
  exact zco_sub [1, 2, 3, 0] rfl (hr54 (v2, v3 + 1))
def X12_odds_J120 (r54 : Int32 × Int32 → zM) (v0 : Nat) (v1 : Int32) (v3 : Int32) (s0 : Int32) (s1 : Int32) : zM := X12_odds_J122 r54 v0 v1 (s1 + s0) v3
set_option maxHeartbeats 2000000 in
set_option maxRecDepth 20000 in
theorem coX12_odds_J120 (l : Launch) (e : Nat) (he : 8 ≤ e) (v0 : Nat) (v1 : Int32) (v3 : Int32) (r54 : Int32 × Int32 → zM) (hr54 : ∀ x : Int32 × Int32, zCo l (e + 1) 0 0 iX12_odds 54 [(0, .ref v0), (1, .int v1), (2, .int x.1), (3, .int x.2)] [] (r54 x)) (s0 : Int32) (s1 : Int32) : zCo l (e + 1) 0 0 iX12_odds 120 [(0, .ref v0), (1, .int v1), (3, .int v3)] [.int s0, .int s1] (X12_odds_J120 r54 v0 v1 v3 s0 s1) := by
  unfold X12_odds_J120
  refine zco_p tkX12_odds 70 2 (pc' := 122) (L' := [(2, .int (s1 + s0)), (0, .ref v0), (1, .int v1), (3, .int v3)]) (S' := []) rfl ?_
  exact zco_sub [1, 2, 0, 3] rfl (coX12_odds_J122 l e he v0 v1 (s1 + s0) v3 r54 hr54)
def X12_odds_J77 (r54 : Int32 × Int32 → zM) (v0 : Nat) (v1 : Int32) (v2 : Int32) (v3 : Int32) (s0 : Int32) (s1 : Nat) : zM := z_rc 12 s1 (z_cv (X12_roundGoes s1 s0) (z_rc 12 v0 (z_ci (X12_wedTo v0 v1) fun y1 => z_if (y1 = ((-1))) (X12_odds_J122 r54 v0 v1 v2 v3)
   (z_if (v3 = ((-1))) (z_gr 12 40 v0 fun x4 => z_la 20 x4 10 fun x5 => z_rc 12 v0 (z_ci (X12_peopleMany v0) fun y6 => X12_odds_J120 r54 v0 v1 v3 ((100 - x5) * y6) v2))
   (z_gr 12 40 v0 fun x2 => z_la 20 x2 10 fun x3 => X12_odds_J120 r54 v0 v1 v3 x3 v2)))))
set_option maxHeartbeats 2000000 in
set_option maxRecDepth 20000 in
theorem coX12_odds_J77 (l : Launch) (e : Nat) (he : 8 ≤ e) (v0 : Nat) (v1 : Int32) (v2 : Int32) (v3 : Int32) (r54 : Int32 × Int32 → zM) (hr54 : ∀ x : Int32 × Int32, zCo l (e + 1) 0 0 iX12_odds 54 [(0, .ref v0), (1, .int v1), (2, .int x.1), (3, .int x.2)] [] (r54 x)) (s0 : Int32) (s1 : Nat) : zCo l (e + 1) 0 0 iX12_odds 77 [(0, .ref v0), (1, .int v1), (2, .int v2), (3, .int v3)] [.int s0, .ref s1] (X12_odds_J77 r54 v0 v1 v2 v3 s0 s1) := by
  unfold X12_odds_J77
  refine zco_Vv (rc := 0) (rs := 0) (mc := 0) (ms := 0) (As := [.int s0]) (S := []) vmX12_roundGoes (mtX12_roundGoes l e (by omega) s1 s0) q_2082 rfl rfl (Nat.le_of_ble_eq_true rfl) (zdk (cc := cX12_odds) (q := (77, .invokevirtual 527, 3)) tkX12_odds 46 rfl) ?_
  refine zco_p tkX12_odds 47 2 (pc' := 82) (L' := [(0, .ref v0), (1, .int v1), (2, .int v2), (3, .int v3)]) (S' := [.int v1, .ref v0]) rfl ?_
  refine zco_Vi (rc := 0) (rs := 0) (mc := 0) (ms := 0) (As := [.int v1]) (S := []) vmX12_wedTo (mtX12_wedTo l e (by omega) v0 v1) q_1966 rfl rfl (Nat.le_of_ble_eq_true rfl) (zdk (cc := cX12_odds) (q := (82, .invokevirtual 521, 3)) tkX12_odds 49 rfl) (fun y1 => ?_)
  refine zco_p tkX12_odds 50 1 (pc' := 86) (L' := [(0, .ref v0), (1, .int v1), (2, .int v2), (3, .int v3)]) (S' := [.int ((-1)), .int y1]) rfl ?_
  refine zco_icmp_eq (tgt := 122) (zdk (cc := cX12_odds) (q := (86, .if_icmp .eq 36, 3)) tkX12_odds 51 rfl) rfl ?_ ?_
  · exact zco_sub [0, 1, 2, 3] rfl (coX12_odds_J122 l e he v0 v1 v2 v3 r54 hr54)
  · refine zco_p tkX12_odds 52 3 (pc' := 92) (L' := [(0, .ref v0), (1, .int v1), (2, .int v2), (3, .int v3)]) (S' := [.int ((-1)), .int v3, .int v2]) rfl ?_
    refine zco_icmp_ne (tgt := 113) (zdk (cc := cX12_odds) (q := (92, .if_icmp .ne 21, 3)) tkX12_odds 55 rfl) rfl ?_ ?_
    · refine zco_p tkX12_odds 66 1 (pc' := 114) (L' := [(0, .ref v0), (1, .int v1), (2, .int v2), (3, .int v3)]) (S' := [.ref v0, .int v2]) rfl ?_
      refine zco_gr fl_12_105 rfl (zdk (cc := cX12_odds) (q := (114, .getfield 105, 3)) tkX12_odds 67 rfl) (fun x2 => ?_)
      refine zco_p tkX12_odds 68 1 (pc' := 119) (L' := [(0, .ref v0), (1, .int v1), (2, .int v2), (3, .int v3)]) (S' := [.int 10, .ref x2, .int v2]) rfl ?_
      refine zco_iaload (zdk (cc := cX12_odds) (q := (119, .iaload, 1)) tkX12_odds 69 rfl) (fun x3 => ?_)
      exact zco_sub [0, 1, 3] rfl (coX12_odds_J120 l e he v0 v1 v3 r54 hr54 x3 v2)
    · refine zco_p tkX12_odds 56 2 (pc' := 98) (L' := [(0, .ref v0), (1, .int v1), (2, .int v2), (3, .int v3)]) (S' := [.ref v0, .int 100, .int v2]) rfl ?_
      refine zco_gr fl_12_105 rfl (zdk (cc := cX12_odds) (q := (98, .getfield 105, 3)) tkX12_odds 58 rfl) (fun x4 => ?_)
      refine zco_p tkX12_odds 59 1 (pc' := 103) (L' := [(0, .ref v0), (1, .int v1), (2, .int v2), (3, .int v3)]) (S' := [.int 10, .ref x4, .int 100, .int v2]) rfl ?_
      refine zco_iaload (zdk (cc := cX12_odds) (q := (103, .iaload, 1)) tkX12_odds 60 rfl) (fun x5 => ?_)
      refine zco_p tkX12_odds 61 2 (pc' := 106) (L' := [(0, .ref v0), (1, .int v1), (2, .int v2), (3, .int v3)]) (S' := [.ref v0, .int (100 - x5), .int v2]) rfl ?_
      refine zco_Vi (rc := 0) (rs := 0) (mc := 0) (ms := 0) (As := []) (S := [.int (100 - x5), .int v2]) vmX12_peopleMany (mtX12_peopleMany l e (by omega) v0) q_1938 rfl rfl (Nat.le_of_ble_eq_true rfl) (zdk (cc := cX12_odds) (q := (106, .invokevirtual 419, 3)) tkX12_odds 63 rfl) (fun y6 => ?_)
      refine zco_p tkX12_odds 64 2 (pc' := 120) (L' := [(0, .ref v0), (1, .int v1), (2, .int v2), (3, .int v3)]) (S' := [.int ((100 - x5) * y6), .int v2]) rfl ?_
      exact zco_sub [0, 1, 3] rfl (coX12_odds_J120 l e he v0 v1 v3 r54 hr54 ((100 - x5) * y6) v2)
def X12_odds_B54 (v0 : Nat) (v1 : Int32) (r54 : Int32 × Int32 → zM) (v2 : Int32) (v3 : Int32) : zM := z_rc 12 v0 (z_ci (X12_peopleMany v0) fun y1 => z_if (y1 ≤ v3) (X12_odds_J132 v0 v2)
   (z_if (v3 = ((-1))) (X12_odds_J77 r54 v0 v1 v2 v3 ((-1)) v0)
   (z_rc 12 v0 (z_ci (X12_codeOf v0 v3) fun y2 => X12_odds_J77 r54 v0 v1 v2 v3 y2 v0))))
set_option maxHeartbeats 2000000 in
set_option maxRecDepth 20000 in
theorem coX12_odds_B54 (l : Launch) (e : Nat) (he : 8 ≤ e) (v0 : Nat) (v1 : Int32) (r54 : Int32 × Int32 → zM) (hr54 : ∀ x : Int32 × Int32, zCo l (e + 1) 0 0 iX12_odds 54 [(0, .ref v0), (1, .int v1), (2, .int x.1), (3, .int x.2)] [] (r54 x)) (v2 : Int32) (v3 : Int32) : zCo l (e + 1) 0 0 iX12_odds 54 [(0, .ref v0), (1, .int v1), (2, .int v2), (3, .int v3)] [] (X12_odds_B54 v0 v1 r54 v2 v3) := by
  unfold X12_odds_B54
  refine zco_p tkX12_odds 33 2 (pc' := 56) (L' := [(0, .ref v0), (1, .int v1), (2, .int v2), (3, .int v3)]) (S' := [.ref v0, .int v3]) rfl ?_
  refine zco_Vi (rc := 0) (rs := 0) (mc := 0) (ms := 0) (As := []) (S := [.int v3]) vmX12_peopleMany (mtX12_peopleMany l e (by omega) v0) q_1938 rfl rfl (Nat.le_of_ble_eq_true rfl) (zdk (cc := cX12_odds) (q := (56, .invokevirtual 419, 3)) tkX12_odds 35 rfl) (fun y1 => ?_)
  refine zco_icmp_ge (tgt := 132) (zdk (cc := cX12_odds) (q := (59, .if_icmp .ge 73, 3)) tkX12_odds 36 rfl) rfl ?_ ?_
  · exact zco_sub [0, 2] rfl (coX12_odds_J132 l e he v0 v2)
  · refine zco_p tkX12_odds 37 3 (pc' := 65) (L' := [(0, .ref v0), (1, .int v1), (2, .int v2), (3, .int v3)]) (S' := [.int ((-1)), .int v3, .ref v0]) rfl ?_
    refine zco_icmp_ne (tgt := 72) (zdk (cc := cX12_odds) (q := (65, .if_icmp .ne 7, 3)) tkX12_odds 40 rfl) rfl ?_ ?_
    · refine zco_p tkX12_odds 43 2 (pc' := 74) (L' := [(0, .ref v0), (1, .int v1), (2, .int v2), (3, .int v3)]) (S' := [.int v3, .ref v0, .ref v0]) rfl ?_
      refine zco_Vi (rc := 0) (rs := 0) (mc := 0) (ms := 0) (As := [.int v3]) (S := [.ref v0]) vmX12_codeOf (mtX12_codeOf l e (by omega) v0 v3) q_1946 rfl rfl (Nat.le_of_ble_eq_true rfl) (zdk (cc := cX12_odds) (q := (74, .invokevirtual 429, 3)) tkX12_odds 45 rfl) (fun y2 => ?_)
      exact zco_sub [0, 1, 2, 3] rfl (coX12_odds_J77 l e he v0 v1 v2 v3 r54 hr54 y2 v0)
    · refine zco_p tkX12_odds 41 2 (pc' := 77) (L' := [(0, .ref v0), (1, .int v1), (2, .int v2), (3, .int v3)]) (S' := [.int ((-1)), .ref v0]) rfl ?_
      exact zco_sub [0, 1, 2, 3] rfl (coX12_odds_J77 l e he v0 v1 v2 v3 r54 hr54 ((-1)) v0)
def X12_odds_J14 (v0 : Nat) (v1 : Int32) : zM := z_rc 12 v0 (z_ci (X12_peopleMany v0) fun y1 => z_if (y1 = 0) (z_ret (some (.int ((-1)))))
   (z_rc 12 v0 (z_ci (X12_isAhead v0 1 1 1) fun y2 => z_if (y2 = 0) (z_ret (some (.int ((-1)))))
   (z_if (v1 = ((-1))) (z_rc 12 v0 (z_ci (X12_peopleMany v0) fun y3 => z_ret (some (.int (100 * y3)))))
   (z_rc 12 v0 (z_cv (X12_putsAside v0) (z_fix (fun r x => X12_odds_B54 v0 v1 r x.1 x.2) zFU (0, (-1)))))))))
set_option maxHeartbeats 2000000 in
set_option maxRecDepth 20000 in
theorem coX12_odds_J14 (l : Launch) (e : Nat) (he : 8 ≤ e) (v0 : Nat) (v1 : Int32) : zCo l (e + 1) 0 0 iX12_odds 14 [(0, .ref v0), (1, .int v1)] [] (X12_odds_J14 v0 v1) := by
  unfold X12_odds_J14
  refine zco_p tkX12_odds 8 1 (pc' := 15) (L' := [(0, .ref v0), (1, .int v1)]) (S' := [.ref v0]) rfl ?_
  refine zco_Vi (rc := 0) (rs := 0) (mc := 0) (ms := 0) (As := []) (S := []) vmX12_peopleMany (mtX12_peopleMany l e (by omega) v0) q_1938 rfl rfl (Nat.le_of_ble_eq_true rfl) (zdk (cc := cX12_odds) (q := (15, .invokevirtual 419, 3)) tkX12_odds 9 rfl) (fun y1 => ?_)
  refine zco_if_eq (tgt := 31) (zdk (cc := cX12_odds) (q := (18, .ifCond .eq 13, 3)) tkX12_odds 10 rfl) rfl ?_ ?_
  · refine zco_p tkX12_odds 17 1 (pc' := 32) (L' := [(0, .ref v0), (1, .int v1)]) (S' := [.int ((-1))]) rfl ?_
    exact zco_iret rfl rfl rfl (zdk (cc := cX12_odds) (q := (32, .ireturn, 1)) tkX12_odds 18 rfl)
  · refine zco_p tkX12_odds 11 4 (pc' := 25) (L' := [(0, .ref v0), (1, .int v1)]) (S' := [.int 1, .int 1, .int 1, .ref v0]) rfl ?_
    refine zco_Vi (rc := 0) (rs := 0) (mc := 0) (ms := 0) (As := [.int 1, .int 1, .int 1]) (S := []) vmX12_isAhead (mtX12_isAhead l e (by omega) v0 1 1 1) q_2070 rfl rfl (Nat.le_of_ble_eq_true rfl) (zdk (cc := cX12_odds) (q := (25, .invokevirtual 557, 3)) tkX12_odds 15 rfl) (fun y2 => ?_)
    refine zco_if_ne (tgt := 33) (zdk (cc := cX12_odds) (q := (28, .ifCond .ne 5, 3)) tkX12_odds 16 rfl) rfl ?_ ?_
    · refine zco_p tkX12_odds 19 2 (pc' := 35) (L' := [(0, .ref v0), (1, .int v1)]) (S' := [.int ((-1)), .int v1]) rfl ?_
      refine zco_icmp_ne (tgt := 46) (zdk (cc := cX12_odds) (q := (35, .if_icmp .ne 11, 3)) tkX12_odds 21 rfl) rfl ?_ ?_
      · refine zco_p tkX12_odds 27 3 (pc' := 49) (L' := [(2, .int 0), (0, .ref v0), (1, .int v1)]) (S' := [.ref v0]) rfl ?_
        refine zco_Vv (rc := 0) (rs := 0) (mc := 0) (ms := 0) (As := []) (S := []) vmX12_putsAside (mtX12_putsAside l e (by omega) v0) q_2074 rfl rfl (Nat.le_of_ble_eq_true rfl) (zdk (cc := cX12_odds) (q := (49, .invokevirtual 561, 3)) tkX12_odds 30 rfl) ?_
        refine zco_p tkX12_odds 31 2 (pc' := 54) (L' := [(3, .int ((-1))), (2, .int 0), (0, .ref v0), (1, .int v1)]) (S' := []) rfl ?_
        exact zco_sub [2, 3, 1, 0] rfl (zco_fix (Lf := fun x : Int32 × Int32 => [(0, .ref v0), (1, .int v1), (2, .int x.1), (3, .int x.2)]) (Sf := fun _ => []) (fun r hr x => coX12_odds_B54 l e he v0 v1 r hr x.1 x.2) zFU (0, (-1)))
      · refine zco_p tkX12_odds 22 2 (pc' := 41) (L' := [(0, .ref v0), (1, .int v1)]) (S' := [.ref v0, .int 100]) rfl ?_
        refine zco_Vi (rc := 0) (rs := 0) (mc := 0) (ms := 0) (As := []) (S := [.int 100]) vmX12_peopleMany (mtX12_peopleMany l e (by omega) v0) q_1938 rfl rfl (Nat.le_of_ble_eq_true rfl) (zdk (cc := cX12_odds) (q := (41, .invokevirtual 419, 3)) tkX12_odds 24 rfl) (fun y3 => ?_)
        refine zco_p tkX12_odds 25 1 (pc' := 45) (L' := [(0, .ref v0), (1, .int v1)]) (S' := [.int (100 * y3)]) rfl ?_
        exact zco_iret rfl rfl rfl (zdk (cc := cX12_odds) (q := (45, .ireturn, 1)) tkX12_odds 26 rfl)
    · refine zco_p tkX12_odds 17 1 (pc' := 32) (L' := [(0, .ref v0), (1, .int v1)]) (S' := [.int ((-1))]) rfl ?_
      exact zco_iret rfl rfl rfl (zdk (cc := cX12_odds) (q := (32, .ireturn, 1)) tkX12_odds 18 rfl)
def X12_odds (v0 : Nat) (v1 : Int32) : zM := z_if (v1 = ((-1))) (X12_odds_J14 v0 v1)
   (z_rc 12 v0 (z_ci (X12_isPerson v0 v1.toInt64) fun y1 => z_if (y1 = 0) (z_ret (some (.int ((-1)))))
   (X12_odds_J14 v0 v1)))
set_option maxHeartbeats 2000000 in
set_option maxRecDepth 20000 in
theorem coX12_odds (l : Launch) (e : Nat) (he : 8 ≤ e) (v0 : Nat) (v1 : Int32) : zCo l (e + 1) 0 0 iX12_odds 0 [(0, .ref v0), (1, .int v1)] [] (X12_odds v0 v1) := by
  unfold X12_odds
  refine zco_p tkX12_odds 0 2 (pc' := 2) (L' := [(0, .ref v0), (1, .int v1)]) (S' := [.int ((-1)), .int v1]) rfl ?_
  refine zco_icmp_eq (tgt := 14) (zdk (cc := cX12_odds) (q := (2, .if_icmp .eq 12, 3)) tkX12_odds 2 rfl) rfl ?_ ?_
  · exact zco_sub [0, 1] rfl (coX12_odds_J14 l e he v0 v1)
  · refine zco_p tkX12_odds 3 3 (pc' := 8) (L' := [(0, .ref v0), (1, .int v1)]) (S' := [.long v1.toInt64, .ref v0]) rfl ?_
    refine zco_Vi (rc := 0) (rs := 0) (mc := 0) (ms := 0) (As := [.long v1.toInt64]) (S := []) vmX12_isPerson (mtX12_isPerson l e (by omega) v0 v1.toInt64) q_1934 rfl rfl (Nat.le_of_ble_eq_true rfl) (zdk (cc := cX12_odds) (q := (8, .invokevirtual 422, 3)) tkX12_odds 6 rfl) (fun y1 => ?_)
    refine zco_if_eq (tgt := 31) (zdk (cc := cX12_odds) (q := (11, .ifCond .eq 20, 3)) tkX12_odds 7 rfl) rfl ?_ ?_
    · refine zco_p tkX12_odds 17 1 (pc' := 32) (L' := [(0, .ref v0), (1, .int v1)]) (S' := [.int ((-1))]) rfl ?_
      exact zco_iret rfl rfl rfl (zdk (cc := cX12_odds) (q := (32, .ireturn, 1)) tkX12_odds 18 rfl)
    · exact zco_sub [0, 1] rfl (coX12_odds_J14 l e he v0 v1)
theorem mtX12_odds (l : Launch) (d : Nat) (hd : 9 ≤ d) (v0 : Nat) (v1 : Int32) : zMet l d 0 0 yX12_odds cX12_odds 4 (Option.some .int) [.ref v0, .int v1] (X12_odds v0 v1) := by
  obtain ⟨e, rfl⟩ : ∃ e, d = e + 1 := ⟨d - 1, by omega⟩
  exact zmet_of (own := RX12) (ini := false) (by decide +kernel) rfl (fun _ => by contradiction) (Nat.le_of_ble_eq_true rfl) (coX12_odds l e (by omega) v0 v1)
abbrev iX12_see : zI := (RX12, cX12_see, 4, (Option.some .int), false)
def tX12_see : List (Nat × Instr × Nat) := [(0, .aload_n 0, 1), (1, .getfield 267, 3), (4, .istore_n 1, 1), (5, .aload_n 0, 1), (6, .iconst 0, 1), (7, .putfield 267, 3), (10, .iload_n 1, 1), (11, .ifCond .le 21, 3), (14, .iload_n 1, 1), (15, .iconst 3, 1), (16, .irem, 1), (17, .ifCond .ne 15, 3), (20, .iload_n 1, 1), (21, .iconst 3, 1), (22, .idiv, 1), (23, .bipush 16, 2), (25, .if_icmp .gt 7, 3), (28, .iconst 1, 1), (29, .goto 4, 3), (32, .iconst 0, 1), (33, .istore_n 2, 1), (34, .iconst 0, 1), (35, .istore_n 3, 1), (36, .iload_n 3, 1), (37, .iload_n 1, 1), (38, .if_icmp .ge 58, 3), (41, .iload_n 2, 1), (42, .ifCond .eq 54, 3), (45, .aload_n 0, 1), (46, .getfield 7, 3), (49, .iload_n 3, 1), (50, .iaload, 1), (51, .bipush 30, 2), (53, .if_icmp .gt 35, 3), (56, .aload_n 0, 1), (57, .aload_n 0, 1), (58, .getfield 7, 3), (61, .iload_n 3, 1), (62, .iconst 1, 1), (63, .iadd, 1), (64, .iaload, 1), (65, .i2l, 1), (66, .invokevirtual 422, 3), (69, .ifCond .eq 19, 3), (72, .aload_n 0, 1), (73, .getfield 7, 3), (76, .iload_n 3, 1), (77, .iconst 2, 1), (78, .iadd, 1), (79, .iaload, 1), (80, .iconst 1, 1), (81, .if_icmp .gt 7, 3), (84, .iconst 1, 1), (85, .goto 4, 3), (88, .iconst 0, 1), (89, .istore_n 2, 1), (90, .iinc 3 3, 3), (93, .goto (-57), 3), (96, .iload_n 2, 1), (97, .ifCond .ne 9, 3), (100, .aload_n 0, 1), (101, .iconst 1, 1), (102, .invokevirtual 400, 3), (105, .ireturn, 1), (106, .iconst 0, 1), (107, .istore_n 3, 1), (108, .iload_n 3, 1), (109, .iload_n 1, 1), (110, .if_icmp .ge 21, 3), (113, .aload_n 0, 1), (114, .getfield 164, 3), (117, .iload_n 3, 1), (118, .aload_n 0, 1), (119, .getfield 7, 3), (122, .iload_n 3, 1), (123, .iaload, 1), (124, .iastore, 1), (125, .iinc 3 1, 3), (128, .goto (-20), 3), (131, .aload_n 0, 1), (132, .iload_n 1, 1), (133, .iconst 3, 1), (134, .idiv, 1), (135, .putfield 413, 3), (138, .aload_n 0, 1), (139, .getfield 413, 3), (142, .ireturn, 1)]
set_option maxRecDepth 100000 in
theorem tkX12_see : ∀ q ∈ tX12_see, decode cX12_see q.1 = .ok q.2 := by decide +kernel
theorem vmX12_see : zVM yX12_see cX12_see 4 (Option.some .int) 0 12 := ⟨kX12_see, q_2166, q_2167, q_160, ⟨_, rfl, rfl⟩, by decide +kernel, by decide⟩
def X12_see_J131 (v0 : Nat) (v1 : Int32) : zM := z_ck (¬ 3 = 0) (z_pi 12 71 v0 (v1 / 3) (z_gi 12 71 v0 fun x1 => z_ret (some (.int x1))))
set_option maxHeartbeats 2000000 in
set_option maxRecDepth 20000 in
theorem coX12_see_J131 (l : Launch) (e : Nat) (he : 3 ≤ e) (v0 : Nat) (v1 : Int32) : zCo l (e + 1) 0 0 iX12_see 131 [(0, .ref v0), (1, .int v1)] [] (X12_see_J131 v0 v1) := by
  unfold X12_see_J131
  refine zco_p tkX12_see 79 3 (pc' := 134) (L' := [(0, .ref v0), (1, .int v1)]) (S' := [.int 3, .int v1, .ref v0]) rfl ?_
  refine zco_idiv (zdk (cc := cX12_see) (q := (134, .idiv, 1)) tkX12_see 82 rfl) ?_
  refine zco_pi fl_12_413 rfl rfl (zdk (cc := cX12_see) (q := (135, .putfield 413, 3)) tkX12_see 83 rfl) ?_
  refine zco_p tkX12_see 84 1 (pc' := 139) (L' := [(0, .ref v0), (1, .int v1)]) (S' := [.ref v0]) rfl ?_
  refine zco_gi fl_12_413 rfl (zdk (cc := cX12_see) (q := (139, .getfield 413, 3)) tkX12_see 85 rfl) (fun x1 => ?_)
  exact zco_iret rfl rfl rfl (zdk (cc := cX12_see) (q := (142, .ireturn, 1)) tkX12_see 86 rfl)
def X12_see_B108 (v0 : Nat) (v1 : Int32) (r108 : Int32 → zM) (v3 : Int32) : zM := z_if (v1 ≤ v3) (X12_see_J131 v0 v1)
   (z_gr 12 72 v0 fun x1 => z_gr 12 0 v0 fun x2 => z_la 20 x2 v3 fun x3 => z_sa 20 x1 v3 x3 (r108 (v3 + 1)))
set_option maxHeartbeats 2000000 in
set_option maxRecDepth 20000 in
theorem coX12_see_B108 (l : Launch) (e : Nat) (he : 3 ≤ e) (v0 : Nat) (v1 : Int32) (r108 : Int32 → zM) (hr108 : ∀ x : Int32, zCo l (e + 1) 0 0 iX12_see 108 [(0, .ref v0), (1, .int v1), (3, .int x)] [] (r108 x)) (v3 : Int32) : zCo l (e + 1) 0 0 iX12_see 108 [(0, .ref v0), (1, .int v1), (3, .int v3)] [] (X12_see_B108 v0 v1 r108 v3) := by
  unfold X12_see_B108
  refine zco_p tkX12_see 66 2 (pc' := 110) (L' := [(0, .ref v0), (1, .int v1), (3, .int v3)]) (S' := [.int v1, .int v3]) rfl ?_
  refine zco_icmp_ge (tgt := 131) (zdk (cc := cX12_see) (q := (110, .if_icmp .ge 21, 3)) tkX12_see 68 rfl) rfl ?_ ?_
  · exact zco_sub [0, 1] rfl (coX12_see_J131 l e he v0 v1)
  · refine zco_p tkX12_see 69 1 (pc' := 114) (L' := [(0, .ref v0), (1, .int v1), (3, .int v3)]) (S' := [.ref v0]) rfl ?_
    refine zco_gr fl_12_164 rfl (zdk (cc := cX12_see) (q := (114, .getfield 164, 3)) tkX12_see 70 rfl) (fun x1 => ?_)
    refine zco_p tkX12_see 71 2 (pc' := 119) (L' := [(0, .ref v0), (1, .int v1), (3, .int v3)]) (S' := [.ref v0, .int v3, .ref x1]) rfl ?_
    refine zco_gr fl_12_7 rfl (zdk (cc := cX12_see) (q := (119, .getfield 7, 3)) tkX12_see 73 rfl) (fun x2 => ?_)
    refine zco_p tkX12_see 74 1 (pc' := 123) (L' := [(0, .ref v0), (1, .int v1), (3, .int v3)]) (S' := [.int v3, .ref x2, .int v3, .ref x1]) rfl ?_
    refine zco_iaload (zdk (cc := cX12_see) (q := (123, .iaload, 1)) tkX12_see 75 rfl) (fun x3 => ?_)
    refine zco_iastore (zdk (cc := cX12_see) (q := (124, .iastore, 1)) tkX12_see 76 rfl) ?_
    refine zco_p tkX12_see 77 2 (pc' := 108) (L' := [(3, .int (v3 + 1)), (0, .ref v0), (1, .int v1)]) (S' := []) rfl ?_
    exact zco_sub [1, 2, 0] rfl (hr108 (v3 + 1))
def X12_see_J96 (v0 : Nat) (v1 : Int32) (v2 : Int32) : zM := z_if (v2 = 0) (z_rc 12 v0 (z_ci (X12_refuses v0 1) fun y1 => z_ret (some (.int y1))))
   (z_fix (fun r x => X12_see_B108 v0 v1 r x) zFU 0)
set_option maxHeartbeats 2000000 in
set_option maxRecDepth 20000 in
theorem coX12_see_J96 (l : Launch) (e : Nat) (he : 3 ≤ e) (v0 : Nat) (v1 : Int32) (v2 : Int32) : zCo l (e + 1) 0 0 iX12_see 96 [(0, .ref v0), (1, .int v1), (2, .int v2)] [] (X12_see_J96 v0 v1 v2) := by
  unfold X12_see_J96
  refine zco_p tkX12_see 58 1 (pc' := 97) (L' := [(0, .ref v0), (1, .int v1), (2, .int v2)]) (S' := [.int v2]) rfl ?_
  refine zco_if_ne (tgt := 106) (zdk (cc := cX12_see) (q := (97, .ifCond .ne 9, 3)) tkX12_see 59 rfl) rfl ?_ ?_
  · refine zco_p tkX12_see 64 2 (pc' := 108) (L' := [(3, .int 0), (0, .ref v0), (1, .int v1), (2, .int v2)]) (S' := []) rfl ?_
    exact zco_sub [1, 2, 0] rfl (zco_fix (Lf := fun x : Int32 => [(0, .ref v0), (1, .int v1), (3, .int x)]) (Sf := fun _ => []) (fun r hr x => coX12_see_B108 l e he v0 v1 r hr x) zFU 0)
  · refine zco_p tkX12_see 60 2 (pc' := 102) (L' := [(0, .ref v0), (1, .int v1), (2, .int v2)]) (S' := [.int 1, .ref v0]) rfl ?_
    refine zco_Vi (rc := 0) (rs := 0) (mc := 0) (ms := 0) (As := [.int 1]) (S := []) vmX12_refuses (mtX12_refuses l e (by omega) v0 1) q_1906 rfl rfl (Nat.le_of_ble_eq_true rfl) (zdk (cc := cX12_see) (q := (102, .invokevirtual 400, 3)) tkX12_see 62 rfl) (fun y1 => ?_)
    exact zco_iret rfl rfl rfl (zdk (cc := cX12_see) (q := (105, .ireturn, 1)) tkX12_see 63 rfl)
def X12_see_J89 (r36 : Int32 × Int32 → zM) (v0 : Nat) (v1 : Int32) (v3 : Int32) (s0 : Int32) : zM := r36 (s0, v3 + 3)
set_option maxHeartbeats 2000000 in
set_option maxRecDepth 20000 in
theorem coX12_see_J89 (l : Launch) (e : Nat) (he : 3 ≤ e) (v0 : Nat) (v1 : Int32) (v3 : Int32) (r36 : Int32 × Int32 → zM) (hr36 : ∀ x : Int32 × Int32, zCo l (e + 1) 0 0 iX12_see 36 [(0, .ref v0), (1, .int v1), (2, .int x.1), (3, .int x.2)] [] (r36 x)) (s0 : Int32) : zCo l (e + 1) 0 0 iX12_see 89 [(0, .ref v0), (1, .int v1), (3, .int v3)] [.int s0] (X12_see_J89 r36 v0 v1 v3 s0) := by
  unfold X12_see_J89
  refine zco_p tkX12_see 55 3 (pc' := 36) (L' := [(3, .int (v3 + 3)), (2, .int s0), (0, .ref v0), (1, .int v1)]) (S' := []) rfl ?_
  exact zco_sub [2, 3, 1, 0] rfl (hr36 (s0, v3 + 3))
def X12_see_J88 (r36 : Int32 × Int32 → zM) (v0 : Nat) (v1 : Int32) (v3 : Int32) : zM := X12_see_J89 r36 v0 v1 v3 0
set_option maxHeartbeats 2000000 in
set_option maxRecDepth 20000 in
theorem coX12_see_J88 (l : Launch) (e : Nat) (he : 3 ≤ e) (v0 : Nat) (v1 : Int32) (v3 : Int32) (r36 : Int32 × Int32 → zM) (hr36 : ∀ x : Int32 × Int32, zCo l (e + 1) 0 0 iX12_see 36 [(0, .ref v0), (1, .int v1), (2, .int x.1), (3, .int x.2)] [] (r36 x)) : zCo l (e + 1) 0 0 iX12_see 88 [(0, .ref v0), (1, .int v1), (3, .int v3)] [] (X12_see_J88 r36 v0 v1 v3) := by
  unfold X12_see_J88
  refine zco_p tkX12_see 54 1 (pc' := 89) (L' := [(0, .ref v0), (1, .int v1), (3, .int v3)]) (S' := [.int 0]) rfl ?_
  exact zco_sub [0, 1, 2] rfl (coX12_see_J89 l e he v0 v1 v3 r36 hr36 0)
def X12_see_B36 (v0 : Nat) (v1 : Int32) (r36 : Int32 × Int32 → zM) (v2 : Int32) (v3 : Int32) : zM := z_if (v1 ≤ v3) (X12_see_J96 v0 v1 v2)
   (z_if (v2 = 0) (X12_see_J96 v0 v1 v2)
   (z_gr 12 0 v0 fun x1 => z_la 20 x1 v3 fun x2 => z_if (30 < x2) (X12_see_J88 r36 v0 v1 v3)
   (z_gr 12 0 v0 fun x3 => z_la 20 x3 (v3 + 1) fun x4 => z_rc 12 v0 (z_ci (X12_isPerson v0 x4.toInt64) fun y5 => z_if (y5 = 0) (X12_see_J88 r36 v0 v1 v3)
   (z_gr 12 0 v0 fun x6 => z_la 20 x6 (v3 + 2) fun x7 => z_if (1 < x7) (X12_see_J88 r36 v0 v1 v3)
   (X12_see_J89 r36 v0 v1 v3 1))))))
set_option maxHeartbeats 2000000 in
set_option maxRecDepth 20000 in
theorem coX12_see_B36 (l : Launch) (e : Nat) (he : 3 ≤ e) (v0 : Nat) (v1 : Int32) (r36 : Int32 × Int32 → zM) (hr36 : ∀ x : Int32 × Int32, zCo l (e + 1) 0 0 iX12_see 36 [(0, .ref v0), (1, .int v1), (2, .int x.1), (3, .int x.2)] [] (r36 x)) (v2 : Int32) (v3 : Int32) : zCo l (e + 1) 0 0 iX12_see 36 [(0, .ref v0), (1, .int v1), (2, .int v2), (3, .int v3)] [] (X12_see_B36 v0 v1 r36 v2 v3) := by
  unfold X12_see_B36
  refine zco_p tkX12_see 23 2 (pc' := 38) (L' := [(0, .ref v0), (1, .int v1), (2, .int v2), (3, .int v3)]) (S' := [.int v1, .int v3]) rfl ?_
  refine zco_icmp_ge (tgt := 96) (zdk (cc := cX12_see) (q := (38, .if_icmp .ge 58, 3)) tkX12_see 25 rfl) rfl ?_ ?_
  · exact zco_sub [0, 1, 2] rfl (coX12_see_J96 l e he v0 v1 v2)
  · refine zco_p tkX12_see 26 1 (pc' := 42) (L' := [(0, .ref v0), (1, .int v1), (2, .int v2), (3, .int v3)]) (S' := [.int v2]) rfl ?_
    refine zco_if_eq (tgt := 96) (zdk (cc := cX12_see) (q := (42, .ifCond .eq 54, 3)) tkX12_see 27 rfl) rfl ?_ ?_
    · exact zco_sub [0, 1, 2] rfl (coX12_see_J96 l e he v0 v1 v2)
    · refine zco_p tkX12_see 28 1 (pc' := 46) (L' := [(0, .ref v0), (1, .int v1), (2, .int v2), (3, .int v3)]) (S' := [.ref v0]) rfl ?_
      refine zco_gr fl_12_7 rfl (zdk (cc := cX12_see) (q := (46, .getfield 7, 3)) tkX12_see 29 rfl) (fun x1 => ?_)
      refine zco_p tkX12_see 30 1 (pc' := 50) (L' := [(0, .ref v0), (1, .int v1), (2, .int v2), (3, .int v3)]) (S' := [.int v3, .ref x1]) rfl ?_
      refine zco_iaload (zdk (cc := cX12_see) (q := (50, .iaload, 1)) tkX12_see 31 rfl) (fun x2 => ?_)
      refine zco_p tkX12_see 32 1 (pc' := 53) (L' := [(0, .ref v0), (1, .int v1), (2, .int v2), (3, .int v3)]) (S' := [.int 30, .int x2]) rfl ?_
      refine zco_icmp_gt (tgt := 88) (zdk (cc := cX12_see) (q := (53, .if_icmp .gt 35, 3)) tkX12_see 33 rfl) rfl ?_ ?_
      · exact zco_sub [0, 1, 3] rfl (coX12_see_J88 l e he v0 v1 v3 r36 hr36)
      · refine zco_p tkX12_see 34 2 (pc' := 58) (L' := [(0, .ref v0), (1, .int v1), (2, .int v2), (3, .int v3)]) (S' := [.ref v0, .ref v0]) rfl ?_
        refine zco_gr fl_12_7 rfl (zdk (cc := cX12_see) (q := (58, .getfield 7, 3)) tkX12_see 36 rfl) (fun x3 => ?_)
        refine zco_p tkX12_see 37 3 (pc' := 64) (L' := [(0, .ref v0), (1, .int v1), (2, .int v2), (3, .int v3)]) (S' := [.int (v3 + 1), .ref x3, .ref v0]) rfl ?_
        refine zco_iaload (zdk (cc := cX12_see) (q := (64, .iaload, 1)) tkX12_see 40 rfl) (fun x4 => ?_)
        refine zco_p tkX12_see 41 1 (pc' := 66) (L' := [(0, .ref v0), (1, .int v1), (2, .int v2), (3, .int v3)]) (S' := [.long x4.toInt64, .ref v0]) rfl ?_
        refine zco_Vi (rc := 0) (rs := 0) (mc := 0) (ms := 0) (As := [.long x4.toInt64]) (S := []) vmX12_isPerson (mtX12_isPerson l e (by omega) v0 x4.toInt64) q_1934 rfl rfl (Nat.le_of_ble_eq_true rfl) (zdk (cc := cX12_see) (q := (66, .invokevirtual 422, 3)) tkX12_see 42 rfl) (fun y5 => ?_)
        refine zco_if_eq (tgt := 88) (zdk (cc := cX12_see) (q := (69, .ifCond .eq 19, 3)) tkX12_see 43 rfl) rfl ?_ ?_
        · exact zco_sub [0, 1, 3] rfl (coX12_see_J88 l e he v0 v1 v3 r36 hr36)
        · refine zco_p tkX12_see 44 1 (pc' := 73) (L' := [(0, .ref v0), (1, .int v1), (2, .int v2), (3, .int v3)]) (S' := [.ref v0]) rfl ?_
          refine zco_gr fl_12_7 rfl (zdk (cc := cX12_see) (q := (73, .getfield 7, 3)) tkX12_see 45 rfl) (fun x6 => ?_)
          refine zco_p tkX12_see 46 3 (pc' := 79) (L' := [(0, .ref v0), (1, .int v1), (2, .int v2), (3, .int v3)]) (S' := [.int (v3 + 2), .ref x6]) rfl ?_
          refine zco_iaload (zdk (cc := cX12_see) (q := (79, .iaload, 1)) tkX12_see 49 rfl) (fun x7 => ?_)
          refine zco_p tkX12_see 50 1 (pc' := 81) (L' := [(0, .ref v0), (1, .int v1), (2, .int v2), (3, .int v3)]) (S' := [.int 1, .int x7]) rfl ?_
          refine zco_icmp_gt (tgt := 88) (zdk (cc := cX12_see) (q := (81, .if_icmp .gt 7, 3)) tkX12_see 51 rfl) rfl ?_ ?_
          · exact zco_sub [0, 1, 3] rfl (coX12_see_J88 l e he v0 v1 v3 r36 hr36)
          · refine zco_p tkX12_see 52 2 (pc' := 89) (L' := [(0, .ref v0), (1, .int v1), (2, .int v2), (3, .int v3)]) (S' := [.int 1]) rfl ?_
            exact zco_sub [0, 1, 3] rfl (coX12_see_J89 l e he v0 v1 v3 r36 hr36 1)
def X12_see_J33 (v0 : Nat) (v1 : Int32) (s0 : Int32) : zM := z_fix (fun r x => X12_see_B36 v0 v1 r x.1 x.2) zFU (s0, 0)
set_option maxHeartbeats 2000000 in
set_option maxRecDepth 20000 in
theorem coX12_see_J33 (l : Launch) (e : Nat) (he : 3 ≤ e) (v0 : Nat) (v1 : Int32) (s0 : Int32) : zCo l (e + 1) 0 0 iX12_see 33 [(0, .ref v0), (1, .int v1)] [.int s0] (X12_see_J33 v0 v1 s0) := by
  unfold X12_see_J33
  refine zco_p tkX12_see 20 3 (pc' := 36) (L' := [(3, .int 0), (2, .int s0), (0, .ref v0), (1, .int v1)]) (S' := []) rfl ?_
  exact zco_sub [2, 3, 1, 0] rfl (zco_fix (Lf := fun x : Int32 × Int32 => [(0, .ref v0), (1, .int v1), (2, .int x.1), (3, .int x.2)]) (Sf := fun _ => []) (fun r hr x => coX12_see_B36 l e he v0 v1 r hr x.1 x.2) zFU (s0, 0))
def X12_see_J32 (v0 : Nat) (v1 : Int32) : zM := X12_see_J33 v0 v1 0
set_option maxHeartbeats 2000000 in
set_option maxRecDepth 20000 in
theorem coX12_see_J32 (l : Launch) (e : Nat) (he : 3 ≤ e) (v0 : Nat) (v1 : Int32) : zCo l (e + 1) 0 0 iX12_see 32 [(0, .ref v0), (1, .int v1)] [] (X12_see_J32 v0 v1) := by
  unfold X12_see_J32
  refine zco_p tkX12_see 19 1 (pc' := 33) (L' := [(0, .ref v0), (1, .int v1)]) (S' := [.int 0]) rfl ?_
  exact zco_sub [0, 1] rfl (coX12_see_J33 l e he v0 v1 0)
def X12_see (v0 : Nat) : zM := z_gi 12 1 v0 fun x1 => z_pi 12 1 v0 0 (z_if (x1 ≤ 0) (X12_see_J32 v0 x1)
   (z_ck (¬ 3 = 0) (z_if ((x1 - x1 / 3 * 3) = 0) (z_ck (¬ 3 = 0) (z_if (16 < (x1 / 3)) (X12_see_J32 v0 x1)
   (X12_see_J33 v0 x1 1)))
   (X12_see_J32 v0 x1))))
set_option maxHeartbeats 2000000 in
set_option maxRecDepth 20000 in
theorem coX12_see (l : Launch) (e : Nat) (he : 3 ≤ e) (v0 : Nat) : zCo l (e + 1) 0 0 iX12_see 0 [(0, .ref v0)] [] (X12_see v0) := by
  unfold X12_see
  refine zco_p tkX12_see 0 1 (pc' := 1) (L' := [(0, .ref v0)]) (S' := [.ref v0]) rfl ?_
  refine zco_gi fl_12_267 rfl (zdk (cc := cX12_see) (q := (1, .getfield 267, 3)) tkX12_see 1 rfl) (fun x1 => ?_)
  refine zco_p tkX12_see 2 3 (pc' := 7) (L' := [(1, .int x1), (0, .ref v0)]) (S' := [.int 0, .ref v0]) rfl ?_
  refine zco_pi fl_12_267 rfl rfl (zdk (cc := cX12_see) (q := (7, .putfield 267, 3)) tkX12_see 5 rfl) ?_
  refine zco_p tkX12_see 6 1 (pc' := 11) (L' := [(1, .int x1), (0, .ref v0)]) (S' := [.int x1]) rfl ?_
  refine zco_if_le (tgt := 32) (zdk (cc := cX12_see) (q := (11, .ifCond .le 21, 3)) tkX12_see 7 rfl) rfl ?_ ?_
  · exact zco_sub [1, 0] rfl (coX12_see_J32 l e he v0 x1)
  · refine zco_p tkX12_see 8 2 (pc' := 16) (L' := [(1, .int x1), (0, .ref v0)]) (S' := [.int 3, .int x1]) rfl ?_
    refine zco_irem (zdk (cc := cX12_see) (q := (16, .irem, 1)) tkX12_see 10 rfl) ?_
    refine zco_if_ne (tgt := 32) (zdk (cc := cX12_see) (q := (17, .ifCond .ne 15, 3)) tkX12_see 11 rfl) rfl ?_ ?_
    · exact zco_sub [1, 0] rfl (coX12_see_J32 l e he v0 x1)
    · refine zco_p tkX12_see 12 2 (pc' := 22) (L' := [(1, .int x1), (0, .ref v0)]) (S' := [.int 3, .int x1]) rfl ?_
      refine zco_idiv (zdk (cc := cX12_see) (q := (22, .idiv, 1)) tkX12_see 14 rfl) ?_
      refine zco_p tkX12_see 15 1 (pc' := 25) (L' := [(1, .int x1), (0, .ref v0)]) (S' := [.int 16, .int (x1 / 3)]) rfl ?_
      refine zco_icmp_gt (tgt := 32) (zdk (cc := cX12_see) (q := (25, .if_icmp .gt 7, 3)) tkX12_see 16 rfl) rfl ?_ ?_
      · exact zco_sub [1, 0] rfl (coX12_see_J32 l e he v0 x1)
      · refine zco_p tkX12_see 17 2 (pc' := 33) (L' := [(1, .int x1), (0, .ref v0)]) (S' := [.int 1]) rfl ?_
        exact zco_sub [1, 0] rfl (coX12_see_J33 l e he v0 x1 1)
theorem mtX12_see (l : Launch) (d : Nat) (hd : 4 ≤ d) (v0 : Nat) : zMet l d 0 0 yX12_see cX12_see 4 (Option.some .int) [.ref v0] (X12_see v0) := by
  obtain ⟨e, rfl⟩ : ∃ e, d = e + 1 := ⟨d - 1, by omega⟩
  exact zmet_of (own := RX12) (ini := false) (by decide +kernel) rfl (fun _ => by contradiction) (Nat.le_of_ble_eq_true rfl) (coX12_see l e (by omega) v0)
abbrev iX12_wedSet : zI := (RX12, cX12_wedSet, 3, (Option.some .int), false)
def tX12_wedSet : List (Nat × Instr × Nat) := [(0, .iconst 0, 1), (1, .istore_n 1, 1), (2, .iconst 0, 1), (3, .istore_n 2, 1), (4, .iload_n 2, 1), (5, .aload_n 0, 1), (6, .invokevirtual 419, 3), (9, .if_icmp .ge 24, 3), (12, .aload_n 0, 1), (13, .iload_n 2, 1), (14, .invokevirtual 521, 3), (17, .iconst (-1), 1), (18, .if_icmp .eq 9, 3), (21, .iload_n 1, 1), (22, .iconst 1, 1), (23, .iload_n 2, 1), (24, .ishl, 1), (25, .ior, 1), (26, .istore_n 1, 1), (27, .iinc 2 1, 3), (30, .goto (-26), 3), (33, .iload_n 1, 1), (34, .ireturn, 1)]
set_option maxRecDepth 100000 in
theorem tkX12_wedSet : ∀ q ∈ tX12_wedSet, decode cX12_wedSet q.1 = .ok q.2 := by decide +kernel
theorem vmX12_wedSet : zVM yX12_wedSet cX12_wedSet 3 (Option.some .int) 0 12 := ⟨kX12_wedSet, q_2179, q_127, q_160, ⟨_, rfl, rfl⟩, by decide +kernel, by decide⟩
def X12_wedSet_J27 (r4 : Int32 × Int32 → zM) (v0 : Nat) (v1 : Int32) (v2 : Int32) : zM := r4 (v1, v2 + 1)
set_option maxHeartbeats 2000000 in
set_option maxRecDepth 20000 in
theorem coX12_wedSet_J27 (l : Launch) (e : Nat) (he : 3 ≤ e) (v0 : Nat) (v1 : Int32) (v2 : Int32) (r4 : Int32 × Int32 → zM) (hr4 : ∀ x : Int32 × Int32, zCo l (e + 1) 0 0 iX12_wedSet 4 [(0, .ref v0), (1, .int x.1), (2, .int x.2)] [] (r4 x)) : zCo l (e + 1) 0 0 iX12_wedSet 27 [(0, .ref v0), (1, .int v1), (2, .int v2)] [] (X12_wedSet_J27 r4 v0 v1 v2) := by
  unfold X12_wedSet_J27
  refine zco_p tkX12_wedSet 19 2 (pc' := 4) (L' := [(2, .int (v2 + 1)), (0, .ref v0), (1, .int v1)]) (S' := []) rfl ?_
  exact zco_sub [1, 2, 0] rfl (hr4 (v1, v2 + 1))
def X12_wedSet_B4 (v0 : Nat) (r4 : Int32 × Int32 → zM) (v1 : Int32) (v2 : Int32) : zM := z_rc 12 v0 (z_ci (X12_peopleMany v0) fun y1 => z_if (y1 ≤ v2) (z_ret (some (.int v1)))
   (z_rc 12 v0 (z_ci (X12_wedTo v0 v2) fun y2 => z_if (y2 = ((-1))) (X12_wedSet_J27 r4 v0 v1 v2)
   (X12_wedSet_J27 r4 v0 (v1 ||| ((1 : Int32) <<< (v2 &&& 31))) v2))))
set_option maxHeartbeats 2000000 in
set_option maxRecDepth 20000 in
theorem coX12_wedSet_B4 (l : Launch) (e : Nat) (he : 3 ≤ e) (v0 : Nat) (r4 : Int32 × Int32 → zM) (hr4 : ∀ x : Int32 × Int32, zCo l (e + 1) 0 0 iX12_wedSet 4 [(0, .ref v0), (1, .int x.1), (2, .int x.2)] [] (r4 x)) (v1 : Int32) (v2 : Int32) : zCo l (e + 1) 0 0 iX12_wedSet 4 [(0, .ref v0), (1, .int v1), (2, .int v2)] [] (X12_wedSet_B4 v0 r4 v1 v2) := by
  unfold X12_wedSet_B4
  refine zco_p tkX12_wedSet 4 2 (pc' := 6) (L' := [(0, .ref v0), (1, .int v1), (2, .int v2)]) (S' := [.ref v0, .int v2]) rfl ?_
  refine zco_Vi (rc := 0) (rs := 0) (mc := 0) (ms := 0) (As := []) (S := [.int v2]) vmX12_peopleMany (mtX12_peopleMany l e (by omega) v0) q_1938 rfl rfl (Nat.le_of_ble_eq_true rfl) (zdk (cc := cX12_wedSet) (q := (6, .invokevirtual 419, 3)) tkX12_wedSet 6 rfl) (fun y1 => ?_)
  refine zco_icmp_ge (tgt := 33) (zdk (cc := cX12_wedSet) (q := (9, .if_icmp .ge 24, 3)) tkX12_wedSet 7 rfl) rfl ?_ ?_
  · refine zco_p tkX12_wedSet 21 1 (pc' := 34) (L' := [(0, .ref v0), (1, .int v1), (2, .int v2)]) (S' := [.int v1]) rfl ?_
    exact zco_iret rfl rfl rfl (zdk (cc := cX12_wedSet) (q := (34, .ireturn, 1)) tkX12_wedSet 22 rfl)
  · refine zco_p tkX12_wedSet 8 2 (pc' := 14) (L' := [(0, .ref v0), (1, .int v1), (2, .int v2)]) (S' := [.int v2, .ref v0]) rfl ?_
    refine zco_Vi (rc := 0) (rs := 0) (mc := 0) (ms := 0) (As := [.int v2]) (S := []) vmX12_wedTo (mtX12_wedTo l e (by omega) v0 v2) q_1966 rfl rfl (Nat.le_of_ble_eq_true rfl) (zdk (cc := cX12_wedSet) (q := (14, .invokevirtual 521, 3)) tkX12_wedSet 10 rfl) (fun y2 => ?_)
    refine zco_p tkX12_wedSet 11 1 (pc' := 18) (L' := [(0, .ref v0), (1, .int v1), (2, .int v2)]) (S' := [.int ((-1)), .int y2]) rfl ?_
    refine zco_icmp_eq (tgt := 27) (zdk (cc := cX12_wedSet) (q := (18, .if_icmp .eq 9, 3)) tkX12_wedSet 12 rfl) rfl ?_ ?_
    · exact zco_sub [0, 1, 2] rfl (coX12_wedSet_J27 l e he v0 v1 v2 r4 hr4)
    · refine zco_p tkX12_wedSet 13 6 (pc' := 27) (L' := [(1, .int (v1 ||| ((1 : Int32) <<< (v2 &&& 31)))), (0, .ref v0), (2, .int v2)]) (S' := []) rfl ?_
      exact zco_sub [1, 0, 2] rfl (coX12_wedSet_J27 l e he v0 (v1 ||| ((1 : Int32) <<< (v2 &&& 31))) v2 r4 hr4)
def X12_wedSet (v0 : Nat) : zM := z_fix (fun r x => X12_wedSet_B4 v0 r x.1 x.2) zFU (0, 0)
set_option maxHeartbeats 2000000 in
set_option maxRecDepth 20000 in
theorem coX12_wedSet (l : Launch) (e : Nat) (he : 3 ≤ e) (v0 : Nat) : zCo l (e + 1) 0 0 iX12_wedSet 0 [(0, .ref v0)] [] (X12_wedSet v0) := by
  unfold X12_wedSet
  refine zco_p tkX12_wedSet 0 4 (pc' := 4) (L' := [(2, .int 0), (1, .int 0), (0, .ref v0)]) (S' := []) rfl ?_
  exact zco_sub [2, 1, 0] rfl (zco_fix (Lf := fun x : Int32 × Int32 => [(0, .ref v0), (1, .int x.1), (2, .int x.2)]) (Sf := fun _ => []) (fun r hr x => coX12_wedSet_B4 l e he v0 r hr x.1 x.2) zFU (0, 0))
theorem mtX12_wedSet (l : Launch) (d : Nat) (hd : 4 ≤ d) (v0 : Nat) : zMet l d 0 0 yX12_wedSet cX12_wedSet 3 (Option.some .int) [.ref v0] (X12_wedSet v0) := by
  obtain ⟨e, rfl⟩ : ∃ e, d = e + 1 := ⟨d - 1, by omega⟩
  exact zmet_of (own := RX12) (ini := false) (by decide +kernel) rfl (fun _ => by contradiction) (Nat.le_of_ble_eq_true rfl) (coX12_wedSet l e (by omega) v0)
abbrev iX12_isAsSeen : zI := (RX12, cX12_isAsSeen, 4, (Option.some .boolean), false)
def tX12_isAsSeen : List (Nat × Instr × Nat) := [(0, .iconst 0, 1), (1, .istore_n 3, 1), (2, .iload_n 3, 1), (3, .aload_n 0, 1), (4, .getfield 413, 3), (7, .if_icmp .ge 62, 3), (10, .aload_n 0, 1), (11, .getfield 164, 3), (14, .iconst 3, 1), (15, .iload_n 3, 1), (16, .imul, 1), (17, .iaload, 1), (18, .iload_n 1, 1), (19, .if_icmp .ne 44, 3), (22, .aload_n 0, 1), (23, .getfield 134, 3), (26, .iconst 0, 1), (27, .iaload, 1), (28, .sipush 999, 3), (31, .if_icmp .gt 30, 3), (34, .iload_n 2, 1), (35, .aload_n 0, 1), (36, .getfield 164, 3), (39, .iconst 3, 1), (40, .iload_n 3, 1), (41, .imul, 1), (42, .iconst 1, 1), (43, .iadd, 1), (44, .iaload, 1), (45, .ishr, 1), (46, .iconst 1, 1), (47, .iand, 1), (48, .aload_n 0, 1), (49, .getfield 164, 3), (52, .iconst 3, 1), (53, .iload_n 3, 1), (54, .imul, 1), (55, .iconst 2, 1), (56, .iadd, 1), (57, .iaload, 1), (58, .if_icmp .eq 5, 3), (61, .iconst 0, 1), (62, .ireturn, 1), (63, .iinc 3 1, 3), (66, .goto (-64), 3), (69, .iconst 1, 1), (70, .ireturn, 1)]
set_option maxRecDepth 100000 in
theorem tkX12_isAsSeen : ∀ q ∈ tX12_isAsSeen, decode cX12_isAsSeen q.1 = .ok q.2 := by decide +kernel
theorem vmX12_isAsSeen : zVM yX12_isAsSeen cX12_isAsSeen 4 (Option.some .boolean) 2 12 := ⟨kX12_isAsSeen, q_2183, q_128, q_160, ⟨_, rfl, rfl⟩, by decide +kernel, by decide⟩
def X12_isAsSeen_J63 (r2 : Int32 → zM) (v0 : Nat) (v1 : Int32) (v2 : Int32) (v3 : Int32) : zM := r2 (v3 + 1)
set_option maxHeartbeats 2000000 in
set_option maxRecDepth 20000 in
theorem coX12_isAsSeen_J63 (l : Launch) (e : Nat) (he : 0 ≤ e) (v0 : Nat) (v1 : Int32) (v2 : Int32) (v3 : Int32) (r2 : Int32 → zM) (hr2 : ∀ x : Int32, zCo l (e + 1) 0 0 iX12_isAsSeen 2 [(0, .ref v0), (1, .int v1), (2, .int v2), (3, .int x)] [] (r2 x)) : zCo l (e + 1) 0 0 iX12_isAsSeen 63 [(0, .ref v0), (1, .int v1), (2, .int v2), (3, .int v3)] [] (X12_isAsSeen_J63 r2 v0 v1 v2 v3) := by
  unfold X12_isAsSeen_J63
  refine zco_p tkX12_isAsSeen 43 2 (pc' := 2) (L' := [(3, .int (v3 + 1)), (0, .ref v0), (1, .int v1), (2, .int v2)]) (S' := []) rfl ?_
  exact zco_sub [1, 2, 3, 0] rfl (hr2 (v3 + 1))
def X12_isAsSeen_B2 (v0 : Nat) (v1 : Int32) (v2 : Int32) (r2 : Int32 → zM) (v3 : Int32) : zM := z_gi 12 71 v0 fun x1 => z_if (x1 ≤ v3) (z_rb 1)
   (z_gr 12 72 v0 fun x2 => z_la 20 x2 (3 * v3) fun x3 => z_if (x3 = v1) (z_gr 12 52 v0 fun x4 => z_la 20 x4 0 fun x5 => z_if (999 < x5) (z_rb 0)
   (z_gr 12 72 v0 fun x6 => z_la 20 x6 ((3 * v3) + 1) fun x7 => z_gr 12 72 v0 fun x8 => z_la 20 x8 ((3 * v3) + 2) fun x9 => z_if (((v2 >>> (x7 &&& 31)) &&& 1) = x9) (X12_isAsSeen_J63 r2 v0 v1 v2 v3)
   (z_rb 0)))
   (X12_isAsSeen_J63 r2 v0 v1 v2 v3))
set_option maxHeartbeats 2000000 in
set_option maxRecDepth 20000 in
theorem coX12_isAsSeen_B2 (l : Launch) (e : Nat) (he : 0 ≤ e) (v0 : Nat) (v1 : Int32) (v2 : Int32) (r2 : Int32 → zM) (hr2 : ∀ x : Int32, zCo l (e + 1) 0 0 iX12_isAsSeen 2 [(0, .ref v0), (1, .int v1), (2, .int v2), (3, .int x)] [] (r2 x)) (v3 : Int32) : zCo l (e + 1) 0 0 iX12_isAsSeen 2 [(0, .ref v0), (1, .int v1), (2, .int v2), (3, .int v3)] [] (X12_isAsSeen_B2 v0 v1 v2 r2 v3) := by
  unfold X12_isAsSeen_B2
  refine zco_p tkX12_isAsSeen 2 2 (pc' := 4) (L' := [(0, .ref v0), (1, .int v1), (2, .int v2), (3, .int v3)]) (S' := [.ref v0, .int v3]) rfl ?_
  refine zco_gi fl_12_413 rfl (zdk (cc := cX12_isAsSeen) (q := (4, .getfield 413, 3)) tkX12_isAsSeen 4 rfl) (fun x1 => ?_)
  refine zco_icmp_ge (tgt := 69) (zdk (cc := cX12_isAsSeen) (q := (7, .if_icmp .ge 62, 3)) tkX12_isAsSeen 5 rfl) rfl ?_ ?_
  · refine zco_p tkX12_isAsSeen 45 1 (pc' := 70) (L' := [(0, .ref v0), (1, .int v1), (2, .int v2), (3, .int v3)]) (S' := [.int 1]) rfl ?_
    exact zco_zret rfl rfl rfl (zdk (cc := cX12_isAsSeen) (q := (70, .ireturn, 1)) tkX12_isAsSeen 46 rfl)
  · refine zco_p tkX12_isAsSeen 6 1 (pc' := 11) (L' := [(0, .ref v0), (1, .int v1), (2, .int v2), (3, .int v3)]) (S' := [.ref v0]) rfl ?_
    refine zco_gr fl_12_164 rfl (zdk (cc := cX12_isAsSeen) (q := (11, .getfield 164, 3)) tkX12_isAsSeen 7 rfl) (fun x2 => ?_)
    refine zco_p tkX12_isAsSeen 8 3 (pc' := 17) (L' := [(0, .ref v0), (1, .int v1), (2, .int v2), (3, .int v3)]) (S' := [.int (3 * v3), .ref x2]) rfl ?_
    refine zco_iaload (zdk (cc := cX12_isAsSeen) (q := (17, .iaload, 1)) tkX12_isAsSeen 11 rfl) (fun x3 => ?_)
    refine zco_p tkX12_isAsSeen 12 1 (pc' := 19) (L' := [(0, .ref v0), (1, .int v1), (2, .int v2), (3, .int v3)]) (S' := [.int v1, .int x3]) rfl ?_
    refine zco_icmp_ne (tgt := 63) (zdk (cc := cX12_isAsSeen) (q := (19, .if_icmp .ne 44, 3)) tkX12_isAsSeen 13 rfl) rfl ?_ ?_
    · exact zco_sub [0, 1, 2, 3] rfl (coX12_isAsSeen_J63 l e he v0 v1 v2 v3 r2 hr2)
    · refine zco_p tkX12_isAsSeen 14 1 (pc' := 23) (L' := [(0, .ref v0), (1, .int v1), (2, .int v2), (3, .int v3)]) (S' := [.ref v0]) rfl ?_
      refine zco_gr fl_12_134 rfl (zdk (cc := cX12_isAsSeen) (q := (23, .getfield 134, 3)) tkX12_isAsSeen 15 rfl) (fun x4 => ?_)
      refine zco_p tkX12_isAsSeen 16 1 (pc' := 27) (L' := [(0, .ref v0), (1, .int v1), (2, .int v2), (3, .int v3)]) (S' := [.int 0, .ref x4]) rfl ?_
      refine zco_iaload (zdk (cc := cX12_isAsSeen) (q := (27, .iaload, 1)) tkX12_isAsSeen 17 rfl) (fun x5 => ?_)
      refine zco_p tkX12_isAsSeen 18 1 (pc' := 31) (L' := [(0, .ref v0), (1, .int v1), (2, .int v2), (3, .int v3)]) (S' := [.int 999, .int x5]) rfl ?_
      refine zco_icmp_gt (tgt := 61) (zdk (cc := cX12_isAsSeen) (q := (31, .if_icmp .gt 30, 3)) tkX12_isAsSeen 19 rfl) rfl ?_ ?_
      · refine zco_p tkX12_isAsSeen 41 1 (pc' := 62) (L' := [(0, .ref v0), (1, .int v1), (2, .int v2), (3, .int v3)]) (S' := [.int 0]) rfl ?_
        exact zco_zret rfl rfl rfl (zdk (cc := cX12_isAsSeen) (q := (62, .ireturn, 1)) tkX12_isAsSeen 42 rfl)
      · refine zco_p tkX12_isAsSeen 20 2 (pc' := 36) (L' := [(0, .ref v0), (1, .int v1), (2, .int v2), (3, .int v3)]) (S' := [.ref v0, .int v2]) rfl ?_
        refine zco_gr fl_12_164 rfl (zdk (cc := cX12_isAsSeen) (q := (36, .getfield 164, 3)) tkX12_isAsSeen 22 rfl) (fun x6 => ?_)
        refine zco_p tkX12_isAsSeen 23 5 (pc' := 44) (L' := [(0, .ref v0), (1, .int v1), (2, .int v2), (3, .int v3)]) (S' := [.int ((3 * v3) + 1), .ref x6, .int v2]) rfl ?_
        refine zco_iaload (zdk (cc := cX12_isAsSeen) (q := (44, .iaload, 1)) tkX12_isAsSeen 28 rfl) (fun x7 => ?_)
        refine zco_p tkX12_isAsSeen 29 4 (pc' := 49) (L' := [(0, .ref v0), (1, .int v1), (2, .int v2), (3, .int v3)]) (S' := [.ref v0, .int ((v2 >>> (x7 &&& 31)) &&& 1)]) rfl ?_
        refine zco_gr fl_12_164 rfl (zdk (cc := cX12_isAsSeen) (q := (49, .getfield 164, 3)) tkX12_isAsSeen 33 rfl) (fun x8 => ?_)
        refine zco_p tkX12_isAsSeen 34 5 (pc' := 57) (L' := [(0, .ref v0), (1, .int v1), (2, .int v2), (3, .int v3)]) (S' := [.int ((3 * v3) + 2), .ref x8, .int ((v2 >>> (x7 &&& 31)) &&& 1)]) rfl ?_
        refine zco_iaload (zdk (cc := cX12_isAsSeen) (q := (57, .iaload, 1)) tkX12_isAsSeen 39 rfl) (fun x9 => ?_)
        refine zco_icmp_eq (tgt := 63) (zdk (cc := cX12_isAsSeen) (q := (58, .if_icmp .eq 5, 3)) tkX12_isAsSeen 40 rfl) rfl ?_ ?_
        · exact zco_sub [0, 1, 2, 3] rfl (coX12_isAsSeen_J63 l e he v0 v1 v2 v3 r2 hr2)
        · refine zco_p tkX12_isAsSeen 41 1 (pc' := 62) (L' := [(0, .ref v0), (1, .int v1), (2, .int v2), (3, .int v3)]) (S' := [.int 0]) rfl ?_
          exact zco_zret rfl rfl rfl (zdk (cc := cX12_isAsSeen) (q := (62, .ireturn, 1)) tkX12_isAsSeen 42 rfl)
def X12_isAsSeen (v0 : Nat) (v1 : Int32) (v2 : Int32) : zM := z_fix (fun r x => X12_isAsSeen_B2 v0 v1 v2 r x) zFU 0
set_option maxHeartbeats 2000000 in
set_option maxRecDepth 20000 in
theorem coX12_isAsSeen (l : Launch) (e : Nat) (he : 0 ≤ e) (v0 : Nat) (v1 : Int32) (v2 : Int32) : zCo l (e + 1) 0 0 iX12_isAsSeen 0 [(0, .ref v0), (1, .int v1), (2, .int v2)] [] (X12_isAsSeen v0 v1 v2) := by
  unfold X12_isAsSeen
  refine zco_p tkX12_isAsSeen 0 2 (pc' := 2) (L' := [(3, .int 0), (0, .ref v0), (1, .int v1), (2, .int v2)]) (S' := []) rfl ?_
  exact zco_sub [1, 2, 3, 0] rfl (zco_fix (Lf := fun x : Int32 => [(0, .ref v0), (1, .int v1), (2, .int v2), (3, .int x)]) (Sf := fun _ => []) (fun r hr x => coX12_isAsSeen_B2 l e he v0 v1 v2 r hr x) zFU 0)
theorem mtX12_isAsSeen (l : Launch) (d : Nat) (hd : 1 ≤ d) (v0 : Nat) (v1 : Int32) (v2 : Int32) : zMet l d 0 0 yX12_isAsSeen cX12_isAsSeen 4 (Option.some .boolean) [.ref v0, .int v1, .int v2] (X12_isAsSeen v0 v1 v2) := by
  obtain ⟨e, rfl⟩ : ∃ e, d = e + 1 := ⟨d - 1, by omega⟩
  exact zmet_of (own := RX12) (ini := false) (by decide +kernel) rfl (fun _ => by contradiction) (Nat.le_of_ble_eq_true rfl) (coX12_isAsSeen l e (by omega) v0 v1 v2)
abbrev iX12_sizeSet : zI := (RX12, cX12_sizeSet, 7, (Option.some .int), false)
def tX12_sizeSet : List (Nat × Instr × Nat) := [(0, .iconst 0, 1), (1, .istore_n 2, 1), (2, .aload_n 0, 1), (3, .invokevirtual 561, 3), (6, .aload_n 0, 1), (7, .iload_n 1, 1), (8, .putfield 137, 3), (11, .iconst 0, 1), (12, .istore_n 3, 1), (13, .iload_n 3, 1), (14, .bipush 9, 2), (16, .if_icmp .gt 96, 3), (19, .aload_n 0, 1), (20, .iload_n 3, 1), (21, .putfield 438, 3), (24, .iconst 1, 1), (25, .istore 4, 2), (27, .iconst 0, 1), (28, .istore 5, 2), (30, .iload 5, 2), (32, .bipush 30, 2), (34, .if_icmp .gt 57, 3), (37, .aload_n 0, 1), (38, .invokevirtual 593, 3), (41, .istore 6, 2), (43, .iload 4, 2), (45, .ifCond .eq 18, 3), (48, .aload_n 0, 1), (49, .iload 5, 2), (51, .iload 6, 2), (53, .invokevirtual 596, 3), (56, .ifCond .eq 7, 3), (59, .iconst 1, 1), (60, .goto 4, 3), (63, .iconst 0, 1), (64, .istore 4, 2), (66, .aload_n 0, 1), (67, .getfield 167, 3), (70, .bipush 31, 2), (72, .iload_n 3, 1), (73, .imul, 1), (74, .iload 5, 2), (76, .iadd, 1), (77, .iload 6, 2), (79, .iastore, 1), (80, .aload_n 0, 1), (81, .iconst (-1), 1), (82, .invokevirtual 527, 3), (85, .iinc 5 1, 3), (88, .goto (-58), 3), (91, .aload_n 0, 1), (92, .invokevirtual 530, 3), (95, .iload 4, 2), (97, .ifCond .eq 9, 3), (100, .iload_n 2, 1), (101, .iconst 1, 1), (102, .iload_n 3, 1), (103, .ishl, 1), (104, .ior, 1), (105, .istore_n 2, 1), (106, .iinc 3 1, 3), (109, .goto (-96), 3), (112, .aload_n 0, 1), (113, .invokevirtual 567, 3), (116, .iload_n 2, 1), (117, .ireturn, 1)]
set_option maxRecDepth 100000 in
theorem tkX12_sizeSet : ∀ q ∈ tX12_sizeSet, decode cX12_sizeSet q.1 = .ok q.2 := by decide +kernel
theorem vmX12_sizeSet : zVM yX12_sizeSet cX12_sizeSet 7 (Option.some .int) 1 12 := ⟨kX12_sizeSet, q_2175, q_126, q_160, ⟨_, rfl, rfl⟩, by decide +kernel, by decide⟩
def X12_sizeSet_J112 (v0 : Nat) (v2 : Int32) : zM := z_rc 12 v0 (z_cv (X12_takesBack v0) (z_ret (some (.int v2))))
set_option maxHeartbeats 2000000 in
set_option maxRecDepth 20000 in
theorem coX12_sizeSet_J112 (l : Launch) (e : Nat) (he : 8 ≤ e) (v0 : Nat) (v2 : Int32) : zCo l (e + 1) 0 0 iX12_sizeSet 112 [(0, .ref v0), (2, .int v2)] [] (X12_sizeSet_J112 v0 v2) := by
  unfold X12_sizeSet_J112
  refine zco_p tkX12_sizeSet 62 1 (pc' := 113) (L' := [(0, .ref v0), (2, .int v2)]) (S' := [.ref v0]) rfl ?_
  refine zco_Vv (rc := 0) (rs := 0) (mc := 0) (ms := 0) (As := []) (S := []) vmX12_takesBack (mtX12_takesBack l e (by omega) v0) q_2098 rfl rfl (Nat.le_of_ble_eq_true rfl) (zdk (cc := cX12_sizeSet) (q := (113, .invokevirtual 567, 3)) tkX12_sizeSet 63 rfl) ?_
  refine zco_p tkX12_sizeSet 64 1 (pc' := 117) (L' := [(0, .ref v0), (2, .int v2)]) (S' := [.int v2]) rfl ?_
  exact zco_iret rfl rfl rfl (zdk (cc := cX12_sizeSet) (q := (117, .ireturn, 1)) tkX12_sizeSet 65 rfl)
def X12_sizeSet_J106 (r13 : Int32 × Int32 → zM) (v0 : Nat) (v2 : Int32) (v3 : Int32) : zM := r13 (v2, v3 + 1)
set_option maxHeartbeats 2000000 in
set_option maxRecDepth 20000 in
theorem coX12_sizeSet_J106 (l : Launch) (e : Nat) (he : 8 ≤ e) (v0 : Nat) (v2 : Int32) (v3 : Int32) (r13 : Int32 × Int32 → zM) (hr13 : ∀ x : Int32 × Int32, zCo l (e + 1) 0 0 iX12_sizeSet 13 [(0, .ref v0), (2, .int x.1), (3, .int x.2)] [] (r13 x)) : zCo l (e + 1) 0 0 iX12_sizeSet 106 [(0, .ref v0), (2, .int v2), (3, .int v3)] [] (X12_sizeSet_J106 r13 v0 v2 v3) := by
  unfold X12_sizeSet_J106
  refine zco_p tkX12_sizeSet 60 2 (pc' := 13) (L' := [(3, .int (v3 + 1)), (0, .ref v0), (2, .int v2)]) (S' := []) rfl ?_
  exact zco_sub [1, 2, 0] rfl (hr13 (v2, v3 + 1))
def X12_sizeSet_J91 (r13 : Int32 × Int32 → zM) (v0 : Nat) (v2 : Int32) (v3 : Int32) (v4 : Int32) : zM := z_rc 12 v0 (z_cv (X12_triesAnew v0) (z_if (v4 = 0) (X12_sizeSet_J106 r13 v0 v2 v3)
   (X12_sizeSet_J106 r13 v0 (v2 ||| ((1 : Int32) <<< (v3 &&& 31))) v3)))
set_option maxHeartbeats 2000000 in
set_option maxRecDepth 20000 in
theorem coX12_sizeSet_J91 (l : Launch) (e : Nat) (he : 8 ≤ e) (v0 : Nat) (v2 : Int32) (v3 : Int32) (v4 : Int32) (r13 : Int32 × Int32 → zM) (hr13 : ∀ x : Int32 × Int32, zCo l (e + 1) 0 0 iX12_sizeSet 13 [(0, .ref v0), (2, .int x.1), (3, .int x.2)] [] (r13 x)) : zCo l (e + 1) 0 0 iX12_sizeSet 91 [(0, .ref v0), (2, .int v2), (3, .int v3), (4, .int v4)] [] (X12_sizeSet_J91 r13 v0 v2 v3 v4) := by
  unfold X12_sizeSet_J91
  refine zco_p tkX12_sizeSet 50 1 (pc' := 92) (L' := [(0, .ref v0), (2, .int v2), (3, .int v3), (4, .int v4)]) (S' := [.ref v0]) rfl ?_
  refine zco_Vv (rc := 0) (rs := 0) (mc := 0) (ms := 0) (As := []) (S := []) vmX12_triesAnew (mtX12_triesAnew l e (by omega) v0) q_2102 rfl rfl (Nat.le_of_ble_eq_true rfl) (zdk (cc := cX12_sizeSet) (q := (92, .invokevirtual 530, 3)) tkX12_sizeSet 51 rfl) ?_
  refine zco_p tkX12_sizeSet 52 1 (pc' := 97) (L' := [(0, .ref v0), (2, .int v2), (3, .int v3), (4, .int v4)]) (S' := [.int v4]) rfl ?_
  refine zco_if_eq (tgt := 106) (zdk (cc := cX12_sizeSet) (q := (97, .ifCond .eq 9, 3)) tkX12_sizeSet 53 rfl) rfl ?_ ?_
  · exact zco_sub [0, 1, 2] rfl (coX12_sizeSet_J106 l e he v0 v2 v3 r13 hr13)
  · refine zco_p tkX12_sizeSet 54 6 (pc' := 106) (L' := [(2, .int (v2 ||| ((1 : Int32) <<< (v3 &&& 31)))), (0, .ref v0), (3, .int v3), (4, .int v4)]) (S' := []) rfl ?_
    exact zco_sub [1, 0, 2] rfl (coX12_sizeSet_J106 l e he v0 (v2 ||| ((1 : Int32) <<< (v3 &&& 31))) v3 r13 hr13)
def X12_sizeSet_J64 (r13 : Int32 × Int32 → zM) (r30 : Int32 × Int32 → zM) (v0 : Nat) (v2 : Int32) (v3 : Int32) (v5 : Int32) (v6 : Int32) (s0 : Int32) : zM := z_gr 12 73 v0 fun x1 => z_sa 20 x1 ((31 * v3) + v5) v6 (z_rc 12 v0 (z_cv (X12_roundGoes v0 ((-1))) (r30 (s0, v5 + 1))))
set_option maxHeartbeats 2000000 in
set_option maxRecDepth 20000 in
theorem coX12_sizeSet_J64 (l : Launch) (e : Nat) (he : 8 ≤ e) (v0 : Nat) (v2 : Int32) (v3 : Int32) (v5 : Int32) (v6 : Int32) (r13 : Int32 × Int32 → zM) (hr13 : ∀ x : Int32 × Int32, zCo l (e + 1) 0 0 iX12_sizeSet 13 [(0, .ref v0), (2, .int x.1), (3, .int x.2)] [] (r13 x)) (r30 : Int32 × Int32 → zM) (hr30 : ∀ x : Int32 × Int32, zCo l (e + 1) 0 0 iX12_sizeSet 30 [(0, .ref v0), (2, .int v2), (3, .int v3), (4, .int x.1), (5, .int x.2)] [] (r30 x)) (s0 : Int32) : zCo l (e + 1) 0 0 iX12_sizeSet 64 [(0, .ref v0), (2, .int v2), (3, .int v3), (5, .int v5), (6, .int v6)] [.int s0] (X12_sizeSet_J64 r13 r30 v0 v2 v3 v5 v6 s0) := by
  unfold X12_sizeSet_J64
  refine zco_p tkX12_sizeSet 35 2 (pc' := 67) (L' := [(4, .int s0), (0, .ref v0), (2, .int v2), (3, .int v3), (5, .int v5), (6, .int v6)]) (S' := [.ref v0]) rfl ?_
  refine zco_gr fl_12_167 rfl (zdk (cc := cX12_sizeSet) (q := (67, .getfield 167, 3)) tkX12_sizeSet 37 rfl) (fun x1 => ?_)
  refine zco_p tkX12_sizeSet 38 6 (pc' := 79) (L' := [(4, .int s0), (0, .ref v0), (2, .int v2), (3, .int v3), (5, .int v5), (6, .int v6)]) (S' := [.int v6, .int ((31 * v3) + v5), .ref x1]) rfl ?_
  refine zco_iastore (zdk (cc := cX12_sizeSet) (q := (79, .iastore, 1)) tkX12_sizeSet 44 rfl) ?_
  refine zco_p tkX12_sizeSet 45 2 (pc' := 82) (L' := [(4, .int s0), (0, .ref v0), (2, .int v2), (3, .int v3), (5, .int v5), (6, .int v6)]) (S' := [.int ((-1)), .ref v0]) rfl ?_
  refine zco_Vv (rc := 0) (rs := 0) (mc := 0) (ms := 0) (As := [.int ((-1))]) (S := []) vmX12_roundGoes (mtX12_roundGoes l e (by omega) v0 ((-1))) q_2082 rfl rfl (Nat.le_of_ble_eq_true rfl) (zdk (cc := cX12_sizeSet) (q := (82, .invokevirtual 527, 3)) tkX12_sizeSet 47 rfl) ?_
  refine zco_p tkX12_sizeSet 48 2 (pc' := 30) (L' := [(5, .int (v5 + 1)), (4, .int s0), (0, .ref v0), (2, .int v2), (3, .int v3), (6, .int v6)]) (S' := []) rfl ?_
  exact zco_sub [2, 3, 4, 1, 0] rfl (hr30 (s0, v5 + 1))
def X12_sizeSet_J63 (r13 : Int32 × Int32 → zM) (r30 : Int32 × Int32 → zM) (v0 : Nat) (v2 : Int32) (v3 : Int32) (v5 : Int32) (v6 : Int32) : zM := X12_sizeSet_J64 r13 r30 v0 v2 v3 v5 v6 0
set_option maxHeartbeats 2000000 in
set_option maxRecDepth 20000 in
theorem coX12_sizeSet_J63 (l : Launch) (e : Nat) (he : 8 ≤ e) (v0 : Nat) (v2 : Int32) (v3 : Int32) (v5 : Int32) (v6 : Int32) (r13 : Int32 × Int32 → zM) (hr13 : ∀ x : Int32 × Int32, zCo l (e + 1) 0 0 iX12_sizeSet 13 [(0, .ref v0), (2, .int x.1), (3, .int x.2)] [] (r13 x)) (r30 : Int32 × Int32 → zM) (hr30 : ∀ x : Int32 × Int32, zCo l (e + 1) 0 0 iX12_sizeSet 30 [(0, .ref v0), (2, .int v2), (3, .int v3), (4, .int x.1), (5, .int x.2)] [] (r30 x)) : zCo l (e + 1) 0 0 iX12_sizeSet 63 [(0, .ref v0), (2, .int v2), (3, .int v3), (5, .int v5), (6, .int v6)] [] (X12_sizeSet_J63 r13 r30 v0 v2 v3 v5 v6) := by
  unfold X12_sizeSet_J63
  refine zco_p tkX12_sizeSet 34 1 (pc' := 64) (L' := [(0, .ref v0), (2, .int v2), (3, .int v3), (5, .int v5), (6, .int v6)]) (S' := [.int 0]) rfl ?_
  exact zco_sub [0, 1, 2, 3, 4] rfl (coX12_sizeSet_J64 l e he v0 v2 v3 v5 v6 r13 hr13 r30 hr30 0)
def X12_sizeSet_B30 (r13 : Int32 × Int32 → zM) (v0 : Nat) (v2 : Int32) (v3 : Int32) (r30 : Int32 × Int32 → zM) (v4 : Int32) (v5 : Int32) : zM := z_if (30 < v5) (X12_sizeSet_J91 r13 v0 v2 v3 v4)
   (z_rc 12 v0 (z_ci (X12_wedSet v0) fun y1 => z_if (v4 = 0) (X12_sizeSet_J63 r13 r30 v0 v2 v3 v5 y1)
   (z_rc 12 v0 (z_ci (X12_isAsSeen v0 v5 y1) fun y2 => z_if (y2 = 0) (X12_sizeSet_J63 r13 r30 v0 v2 v3 v5 y1)
   (X12_sizeSet_J64 r13 r30 v0 v2 v3 v5 y1 1)))))
set_option maxHeartbeats 2000000 in
set_option maxRecDepth 20000 in
theorem coX12_sizeSet_B30 (l : Launch) (e : Nat) (he : 8 ≤ e) (v0 : Nat) (v2 : Int32) (v3 : Int32) (r13 : Int32 × Int32 → zM) (hr13 : ∀ x : Int32 × Int32, zCo l (e + 1) 0 0 iX12_sizeSet 13 [(0, .ref v0), (2, .int x.1), (3, .int x.2)] [] (r13 x)) (r30 : Int32 × Int32 → zM) (hr30 : ∀ x : Int32 × Int32, zCo l (e + 1) 0 0 iX12_sizeSet 30 [(0, .ref v0), (2, .int v2), (3, .int v3), (4, .int x.1), (5, .int x.2)] [] (r30 x)) (v4 : Int32) (v5 : Int32) : zCo l (e + 1) 0 0 iX12_sizeSet 30 [(0, .ref v0), (2, .int v2), (3, .int v3), (4, .int v4), (5, .int v5)] [] (X12_sizeSet_B30 r13 v0 v2 v3 r30 v4 v5) := by
  unfold X12_sizeSet_B30
  refine zco_p tkX12_sizeSet 19 2 (pc' := 34) (L' := [(0, .ref v0), (2, .int v2), (3, .int v3), (4, .int v4), (5, .int v5)]) (S' := [.int 30, .int v5]) rfl ?_
  refine zco_icmp_gt (tgt := 91) (zdk (cc := cX12_sizeSet) (q := (34, .if_icmp .gt 57, 3)) tkX12_sizeSet 21 rfl) rfl ?_ ?_
  · exact zco_sub [0, 1, 2, 3] rfl (coX12_sizeSet_J91 l e he v0 v2 v3 v4 r13 hr13)
  · refine zco_p tkX12_sizeSet 22 1 (pc' := 38) (L' := [(0, .ref v0), (2, .int v2), (3, .int v3), (4, .int v4), (5, .int v5)]) (S' := [.ref v0]) rfl ?_
    refine zco_Vi (rc := 0) (rs := 0) (mc := 0) (ms := 0) (As := []) (S := []) vmX12_wedSet (mtX12_wedSet l e (by omega) v0) q_2177 rfl rfl (Nat.le_of_ble_eq_true rfl) (zdk (cc := cX12_sizeSet) (q := (38, .invokevirtual 593, 3)) tkX12_sizeSet 23 rfl) (fun y1 => ?_)
    refine zco_p tkX12_sizeSet 24 2 (pc' := 45) (L' := [(6, .int y1), (0, .ref v0), (2, .int v2), (3, .int v3), (4, .int v4), (5, .int v5)]) (S' := [.int v4]) rfl ?_
    refine zco_if_eq (tgt := 63) (zdk (cc := cX12_sizeSet) (q := (45, .ifCond .eq 18, 3)) tkX12_sizeSet 26 rfl) rfl ?_ ?_
    · exact zco_sub [1, 2, 3, 5, 0] rfl (coX12_sizeSet_J63 l e he v0 v2 v3 v5 y1 r13 hr13 r30 hr30)
    · refine zco_p tkX12_sizeSet 27 3 (pc' := 53) (L' := [(6, .int y1), (0, .ref v0), (2, .int v2), (3, .int v3), (4, .int v4), (5, .int v5)]) (S' := [.int y1, .int v5, .ref v0]) rfl ?_
      refine zco_Vi (rc := 0) (rs := 0) (mc := 0) (ms := 0) (As := [.int v5, .int y1]) (S := []) vmX12_isAsSeen (mtX12_isAsSeen l e (by omega) v0 v5 y1) q_2181 rfl rfl (Nat.le_of_ble_eq_true rfl) (zdk (cc := cX12_sizeSet) (q := (53, .invokevirtual 596, 3)) tkX12_sizeSet 30 rfl) (fun y2 => ?_)
      refine zco_if_eq (tgt := 63) (zdk (cc := cX12_sizeSet) (q := (56, .ifCond .eq 7, 3)) tkX12_sizeSet 31 rfl) rfl ?_ ?_
      · exact zco_sub [1, 2, 3, 5, 0] rfl (coX12_sizeSet_J63 l e he v0 v2 v3 v5 y1 r13 hr13 r30 hr30)
      · refine zco_p tkX12_sizeSet 32 2 (pc' := 64) (L' := [(6, .int y1), (0, .ref v0), (2, .int v2), (3, .int v3), (4, .int v4), (5, .int v5)]) (S' := [.int 1]) rfl ?_
        exact zco_sub [1, 2, 3, 5, 0] rfl (coX12_sizeSet_J64 l e he v0 v2 v3 v5 y1 r13 hr13 r30 hr30 1)
def X12_sizeSet_B13 (v0 : Nat) (r13 : Int32 × Int32 → zM) (v2 : Int32) (v3 : Int32) : zM := z_if (9 < v3) (X12_sizeSet_J112 v0 v2)
   (z_pi 12 55 v0 v3 (z_fix (fun r x => X12_sizeSet_B30 r13 v0 v2 v3 r x.1 x.2) zFU (1, 0)))
set_option maxHeartbeats 2000000 in
set_option maxRecDepth 20000 in
theorem coX12_sizeSet_B13 (l : Launch) (e : Nat) (he : 8 ≤ e) (v0 : Nat) (r13 : Int32 × Int32 → zM) (hr13 : ∀ x : Int32 × Int32, zCo l (e + 1) 0 0 iX12_sizeSet 13 [(0, .ref v0), (2, .int x.1), (3, .int x.2)] [] (r13 x)) (v2 : Int32) (v3 : Int32) : zCo l (e + 1) 0 0 iX12_sizeSet 13 [(0, .ref v0), (2, .int v2), (3, .int v3)] [] (X12_sizeSet_B13 v0 r13 v2 v3) := by
  unfold X12_sizeSet_B13
  refine zco_p tkX12_sizeSet 9 2 (pc' := 16) (L' := [(0, .ref v0), (2, .int v2), (3, .int v3)]) (S' := [.int 9, .int v3]) rfl ?_
  refine zco_icmp_gt (tgt := 112) (zdk (cc := cX12_sizeSet) (q := (16, .if_icmp .gt 96, 3)) tkX12_sizeSet 11 rfl) rfl ?_ ?_
  · exact zco_sub [0, 1] rfl (coX12_sizeSet_J112 l e he v0 v2)
  · refine zco_p tkX12_sizeSet 12 2 (pc' := 21) (L' := [(0, .ref v0), (2, .int v2), (3, .int v3)]) (S' := [.int v3, .ref v0]) rfl ?_
    refine zco_pi fl_12_438 rfl rfl (zdk (cc := cX12_sizeSet) (q := (21, .putfield 438, 3)) tkX12_sizeSet 14 rfl) ?_
    refine zco_p tkX12_sizeSet 15 4 (pc' := 30) (L' := [(5, .int 0), (4, .int 1), (0, .ref v0), (2, .int v2), (3, .int v3)]) (S' := []) rfl ?_
    exact zco_sub [2, 3, 4, 1, 0] rfl (zco_fix (Lf := fun x : Int32 × Int32 => [(0, .ref v0), (2, .int v2), (3, .int v3), (4, .int x.1), (5, .int x.2)]) (Sf := fun _ => []) (fun r hr x => coX12_sizeSet_B30 l e he v0 v2 v3 r13 hr13 r hr x.1 x.2) zFU (1, 0))
def X12_sizeSet (v0 : Nat) (v1 : Int32) : zM := z_rc 12 v0 (z_cv (X12_putsAside v0) (z_pi 12 54 v0 v1 (z_fix (fun r x => X12_sizeSet_B13 v0 r x.1 x.2) zFU (0, 0))))
set_option maxHeartbeats 2000000 in
set_option maxRecDepth 20000 in
theorem coX12_sizeSet (l : Launch) (e : Nat) (he : 8 ≤ e) (v0 : Nat) (v1 : Int32) : zCo l (e + 1) 0 0 iX12_sizeSet 0 [(0, .ref v0), (1, .int v1)] [] (X12_sizeSet v0 v1) := by
  unfold X12_sizeSet
  refine zco_p tkX12_sizeSet 0 3 (pc' := 3) (L' := [(2, .int 0), (0, .ref v0), (1, .int v1)]) (S' := [.ref v0]) rfl ?_
  refine zco_Vv (rc := 0) (rs := 0) (mc := 0) (ms := 0) (As := []) (S := []) vmX12_putsAside (mtX12_putsAside l e (by omega) v0) q_2074 rfl rfl (Nat.le_of_ble_eq_true rfl) (zdk (cc := cX12_sizeSet) (q := (3, .invokevirtual 561, 3)) tkX12_sizeSet 3 rfl) ?_
  refine zco_p tkX12_sizeSet 4 2 (pc' := 8) (L' := [(2, .int 0), (0, .ref v0), (1, .int v1)]) (S' := [.int v1, .ref v0]) rfl ?_
  refine zco_pi fl_12_137 rfl rfl (zdk (cc := cX12_sizeSet) (q := (8, .putfield 137, 3)) tkX12_sizeSet 6 rfl) ?_
  refine zco_p tkX12_sizeSet 7 2 (pc' := 13) (L' := [(3, .int 0), (2, .int 0), (0, .ref v0), (1, .int v1)]) (S' := []) rfl ?_
  exact zco_sub [2, 1, 0] rfl (zco_fix (Lf := fun x : Int32 × Int32 => [(0, .ref v0), (2, .int x.1), (3, .int x.2)]) (Sf := fun _ => []) (fun r hr x => coX12_sizeSet_B13 l e he v0 r hr x.1 x.2) zFU (0, 0))
theorem mtX12_sizeSet (l : Launch) (d : Nat) (hd : 9 ≤ d) (v0 : Nat) (v1 : Int32) : zMet l d 0 0 yX12_sizeSet cX12_sizeSet 7 (Option.some .int) [.ref v0, .int v1] (X12_sizeSet v0 v1) := by
  obtain ⟨e, rfl⟩ : ∃ e, d = e + 1 := ⟨d - 1, by omega⟩
  exact zmet_of (own := RX12) (ini := false) (by decide +kernel) rfl (fun _ => by contradiction) (Nat.le_of_ble_eq_true rfl) (coX12_sizeSet l e (by omega) v0 v1)
abbrev iX12_sizes : zI := (RX12, cX12_sizes, 2, (Option.some .int), false)
def tX12_sizes : List (Nat × Instr × Nat) := [(0, .aload_n 0, 1), (1, .iload_n 1, 1), (2, .i2l, 1), (3, .invokevirtual 422, 3), (6, .ifCond .eq 11, 3), (9, .aload_n 0, 1), (10, .iload_n 1, 1), (11, .invokevirtual 599, 3), (14, .goto 4, 3), (17, .iconst (-1), 1), (18, .ireturn, 1)]
set_option maxRecDepth 100000 in
theorem tkX12_sizes : ∀ q ∈ tX12_sizes, decode cX12_sizes q.1 = .ok q.2 := by decide +kernel
theorem vmX12_sizes : zVM yX12_sizes cX12_sizes 2 (Option.some .int) 1 12 := ⟨kX12_sizes, q_2170, q_2171, q_160, ⟨_, rfl, rfl⟩, by decide +kernel, by decide⟩
def X12_sizes (v0 : Nat) (v1 : Int32) : zM := z_rc 12 v0 (z_ci (X12_isPerson v0 v1.toInt64) fun y1 => z_if (y1 = 0) (z_ret (some (.int ((-1)))))
   (z_rc 12 v0 (z_ci (X12_sizeSet v0 v1) fun y2 => z_ret (some (.int y2)))))
set_option maxHeartbeats 2000000 in
set_option maxRecDepth 20000 in
theorem coX12_sizes (l : Launch) (e : Nat) (he : 9 ≤ e) (v0 : Nat) (v1 : Int32) : zCo l (e + 1) 0 0 iX12_sizes 0 [(0, .ref v0), (1, .int v1)] [] (X12_sizes v0 v1) := by
  unfold X12_sizes
  refine zco_p tkX12_sizes 0 3 (pc' := 3) (L' := [(0, .ref v0), (1, .int v1)]) (S' := [.long v1.toInt64, .ref v0]) rfl ?_
  refine zco_Vi (rc := 0) (rs := 0) (mc := 0) (ms := 0) (As := [.long v1.toInt64]) (S := []) vmX12_isPerson (mtX12_isPerson l e (by omega) v0 v1.toInt64) q_1934 rfl rfl (Nat.le_of_ble_eq_true rfl) (zdk (cc := cX12_sizes) (q := (3, .invokevirtual 422, 3)) tkX12_sizes 3 rfl) (fun y1 => ?_)
  refine zco_if_eq (tgt := 17) (zdk (cc := cX12_sizes) (q := (6, .ifCond .eq 11, 3)) tkX12_sizes 4 rfl) rfl ?_ ?_
  · refine zco_p tkX12_sizes 9 1 (pc' := 18) (L' := [(0, .ref v0), (1, .int v1)]) (S' := [.int ((-1))]) rfl ?_
    exact zco_iret rfl rfl rfl (zdk (cc := cX12_sizes) (q := (18, .ireturn, 1)) tkX12_sizes 10 rfl)
  · refine zco_p tkX12_sizes 5 2 (pc' := 11) (L' := [(0, .ref v0), (1, .int v1)]) (S' := [.int v1, .ref v0]) rfl ?_
    refine zco_Vi (rc := 0) (rs := 0) (mc := 0) (ms := 0) (As := [.int v1]) (S := []) vmX12_sizeSet (mtX12_sizeSet l e (by omega) v0 v1) q_2173 rfl rfl (Nat.le_of_ble_eq_true rfl) (zdk (cc := cX12_sizes) (q := (11, .invokevirtual 599, 3)) tkX12_sizes 7 rfl) (fun y2 => ?_)
    refine zco_p tkX12_sizes 8 1 (pc' := 18) (L' := [(0, .ref v0), (1, .int v1)]) (S' := [.int y2]) rfl ?_
    exact zco_iret rfl rfl rfl (zdk (cc := cX12_sizes) (q := (18, .ireturn, 1)) tkX12_sizes 10 rfl)
theorem mtX12_sizes (l : Launch) (d : Nat) (hd : 10 ≤ d) (v0 : Nat) (v1 : Int32) : zMet l d 0 0 yX12_sizes cX12_sizes 2 (Option.some .int) [.ref v0, .int v1] (X12_sizes v0 v1) := by
  obtain ⟨e, rfl⟩ : ∃ e, d = e + 1 := ⟨d - 1, by omega⟩
  exact zmet_of (own := RX12) (ini := false) (by decide +kernel) rfl (fun _ => by contradiction) (Nat.le_of_ble_eq_true rfl) (coX12_sizes l e (by omega) v0 v1)
abbrev iX12_mostAlike : zI := (RX12, cX12_mostAlike, 6, (Option.some .int), false)
def tX12_mostAlike : List (Nat × Instr × Nat) := [(0, .iconst 0, 1), (1, .istore 4, 2), (3, .iconst 0, 1), (4, .istore 5, 2), (6, .iload 5, 2), (8, .bipush 9, 2), (10, .if_icmp .gt 40, 3), (13, .iload_n 1, 1), (14, .iload 5, 2), (16, .ishr, 1), (17, .iconst 1, 1), (18, .iand, 1), (19, .iconst 1, 1), (20, .if_icmp .ne 24, 3), (23, .iload 4, 2), (25, .aload_n 0, 1), (26, .getfield 167, 3), (29, .bipush 31, 2), (31, .iload 5, 2), (33, .imul, 1), (34, .iload_n 2, 1), (35, .iadd, 1), (36, .iaload, 1), (37, .iload_n 3, 1), (38, .ishr, 1), (39, .iconst 1, 1), (40, .iand, 1), (41, .iadd, 1), (42, .istore 4, 2), (44, .iinc 5 1, 3), (47, .goto (-41), 3), (50, .iload_n 1, 1), (51, .invokestatic 586, 3), (54, .iload 4, 2), (56, .isub, 1), (57, .istore 5, 2), (59, .iload 4, 2), (61, .iload 5, 2), (63, .if_icmp .ge 8, 3), (66, .iload 5, 2), (68, .goto 5, 3), (71, .iload 4, 2), (73, .ireturn, 1)]
set_option maxRecDepth 100000 in
theorem tkX12_mostAlike : ∀ q ∈ tX12_mostAlike, decode cX12_mostAlike q.1 = .ok q.2 := by decide +kernel
theorem vmX12_mostAlike : zVM yX12_mostAlike cX12_mostAlike 6 (Option.some .int) 3 12 := ⟨kX12_mostAlike, q_2192, q_129, q_160, ⟨_, rfl, rfl⟩, by decide +kernel, by decide⟩
def X12_mostAlike_J50 (v1 : Int32) (v4 : Int32) : zM := z_ci (X12_bits v1) fun y1 => z_if ((y1 - v4) ≤ v4) (z_ret (some (.int v4)))
   (z_ret (some (.int (y1 - v4))))
set_option maxHeartbeats 2000000 in
set_option maxRecDepth 20000 in
theorem coX12_mostAlike_J50 (l : Launch) (e : Nat) (he : 1 ≤ e) (v1 : Int32) (v4 : Int32) : zCo l (e + 1) 0 0 iX12_mostAlike 50 [(1, .int v1), (4, .int v4)] [] (X12_mostAlike_J50 v1 v4) := by
  unfold X12_mostAlike_J50
  refine zco_p tkX12_mostAlike 31 1 (pc' := 51) (L' := [(1, .int v1), (4, .int v4)]) (S' := [.int v1]) rfl ?_
  refine zco_Si (rc := 0) (rs := 0) (mc := 0) (ms := 0) (As := [.int v1]) (S := []) vmX12_bits (mtX12_bits l e (by omega) v1) q_2150 rfl rfl (Nat.le_of_ble_eq_true rfl) (zdk (cc := cX12_mostAlike) (q := (51, .invokestatic 586, 3)) tkX12_mostAlike 32 rfl) (fun y1 => ?_)
  refine zco_p tkX12_mostAlike 33 5 (pc' := 63) (L' := [(5, .int (y1 - v4)), (1, .int v1), (4, .int v4)]) (S' := [.int (y1 - v4), .int v4]) rfl ?_
  refine zco_icmp_ge (tgt := 71) (zdk (cc := cX12_mostAlike) (q := (63, .if_icmp .ge 8, 3)) tkX12_mostAlike 38 rfl) rfl ?_ ?_
  · refine zco_p tkX12_mostAlike 41 1 (pc' := 73) (L' := [(5, .int (y1 - v4)), (1, .int v1), (4, .int v4)]) (S' := [.int v4]) rfl ?_
    exact zco_iret rfl rfl rfl (zdk (cc := cX12_mostAlike) (q := (73, .ireturn, 1)) tkX12_mostAlike 42 rfl)
  · refine zco_p tkX12_mostAlike 39 2 (pc' := 73) (L' := [(5, .int (y1 - v4)), (1, .int v1), (4, .int v4)]) (S' := [.int (y1 - v4)]) rfl ?_
    exact zco_iret rfl rfl rfl (zdk (cc := cX12_mostAlike) (q := (73, .ireturn, 1)) tkX12_mostAlike 42 rfl)
def X12_mostAlike_J44 (r6 : Int32 × Int32 → zM) (v0 : Nat) (v1 : Int32) (v2 : Int32) (v3 : Int32) (v4 : Int32) (v5 : Int32) : zM := r6 (v4, v5 + 1)
set_option maxHeartbeats 2000000 in
set_option maxRecDepth 20000 in
theorem coX12_mostAlike_J44 (l : Launch) (e : Nat) (he : 1 ≤ e) (v0 : Nat) (v1 : Int32) (v2 : Int32) (v3 : Int32) (v4 : Int32) (v5 : Int32) (r6 : Int32 × Int32 → zM) (hr6 : ∀ x : Int32 × Int32, zCo l (e + 1) 0 0 iX12_mostAlike 6 [(0, .ref v0), (1, .int v1), (2, .int v2), (3, .int v3), (4, .int x.1), (5, .int x.2)] [] (r6 x)) : zCo l (e + 1) 0 0 iX12_mostAlike 44 [(0, .ref v0), (1, .int v1), (2, .int v2), (3, .int v3), (4, .int v4), (5, .int v5)] [] (X12_mostAlike_J44 r6 v0 v1 v2 v3 v4 v5) := by
  unfold X12_mostAlike_J44
  refine zco_p tkX12_mostAlike 29 2 (pc' := 6) (L' := [(5, .int (v5 + 1)), (0, .ref v0), (1, .int v1), (2, .int v2), (3, .int v3), (4, .int v4)]) (S' := []) rfl ?_
  exact zco_sub [1, 2, 3, 4, 5, 0] rfl (hr6 (v4, v5 + 1))
def X12_mostAlike_B6 (v0 : Nat) (v1 : Int32) (v2 : Int32) (v3 : Int32) (r6 : Int32 × Int32 → zM) (v4 : Int32) (v5 : Int32) : zM := z_if (9 < v5) (X12_mostAlike_J50 v1 v4)
   (z_if (((v1 >>> (v5 &&& 31)) &&& 1) = 1) (z_gr 12 73 v0 fun x1 => z_la 20 x1 ((31 * v5) + v2) fun x2 => X12_mostAlike_J44 r6 v0 v1 v2 v3 (v4 + ((x2 >>> (v3 &&& 31)) &&& 1)) v5)
   (X12_mostAlike_J44 r6 v0 v1 v2 v3 v4 v5))
set_option maxHeartbeats 2000000 in
set_option maxRecDepth 20000 in
theorem coX12_mostAlike_B6 (l : Launch) (e : Nat) (he : 1 ≤ e) (v0 : Nat) (v1 : Int32) (v2 : Int32) (v3 : Int32) (r6 : Int32 × Int32 → zM) (hr6 : ∀ x : Int32 × Int32, zCo l (e + 1) 0 0 iX12_mostAlike 6 [(0, .ref v0), (1, .int v1), (2, .int v2), (3, .int v3), (4, .int x.1), (5, .int x.2)] [] (r6 x)) (v4 : Int32) (v5 : Int32) : zCo l (e + 1) 0 0 iX12_mostAlike 6 [(0, .ref v0), (1, .int v1), (2, .int v2), (3, .int v3), (4, .int v4), (5, .int v5)] [] (X12_mostAlike_B6 v0 v1 v2 v3 r6 v4 v5) := by
  unfold X12_mostAlike_B6
  refine zco_p tkX12_mostAlike 4 2 (pc' := 10) (L' := [(0, .ref v0), (1, .int v1), (2, .int v2), (3, .int v3), (4, .int v4), (5, .int v5)]) (S' := [.int 9, .int v5]) rfl ?_
  refine zco_icmp_gt (tgt := 50) (zdk (cc := cX12_mostAlike) (q := (10, .if_icmp .gt 40, 3)) tkX12_mostAlike 6 rfl) rfl ?_ ?_
  · exact zco_sub [1, 4] rfl (coX12_mostAlike_J50 l e he v1 v4)
  · refine zco_p tkX12_mostAlike 7 6 (pc' := 20) (L' := [(0, .ref v0), (1, .int v1), (2, .int v2), (3, .int v3), (4, .int v4), (5, .int v5)]) (S' := [.int 1, .int ((v1 >>> (v5 &&& 31)) &&& 1)]) rfl ?_
    refine zco_icmp_ne (tgt := 44) (zdk (cc := cX12_mostAlike) (q := (20, .if_icmp .ne 24, 3)) tkX12_mostAlike 13 rfl) rfl ?_ ?_
    · exact zco_sub [0, 1, 2, 3, 4, 5] rfl (coX12_mostAlike_J44 l e he v0 v1 v2 v3 v4 v5 r6 hr6)
    · refine zco_p tkX12_mostAlike 14 2 (pc' := 26) (L' := [(0, .ref v0), (1, .int v1), (2, .int v2), (3, .int v3), (4, .int v4), (5, .int v5)]) (S' := [.ref v0, .int v4]) rfl ?_
      refine zco_gr fl_12_167 rfl (zdk (cc := cX12_mostAlike) (q := (26, .getfield 167, 3)) tkX12_mostAlike 16 rfl) (fun x1 => ?_)
      refine zco_p tkX12_mostAlike 17 5 (pc' := 36) (L' := [(0, .ref v0), (1, .int v1), (2, .int v2), (3, .int v3), (4, .int v4), (5, .int v5)]) (S' := [.int ((31 * v5) + v2), .ref x1, .int v4]) rfl ?_
      refine zco_iaload (zdk (cc := cX12_mostAlike) (q := (36, .iaload, 1)) tkX12_mostAlike 22 rfl) (fun x2 => ?_)
      refine zco_p tkX12_mostAlike 23 6 (pc' := 44) (L' := [(4, .int (v4 + ((x2 >>> (v3 &&& 31)) &&& 1))), (0, .ref v0), (1, .int v1), (2, .int v2), (3, .int v3), (5, .int v5)]) (S' := []) rfl ?_
      exact zco_sub [1, 2, 3, 4, 0, 5] rfl (coX12_mostAlike_J44 l e he v0 v1 v2 v3 (v4 + ((x2 >>> (v3 &&& 31)) &&& 1)) v5 r6 hr6)
def X12_mostAlike (v0 : Nat) (v1 : Int32) (v2 : Int32) (v3 : Int32) : zM := z_fix (fun r x => X12_mostAlike_B6 v0 v1 v2 v3 r x.1 x.2) zFU (0, 0)
set_option maxHeartbeats 2000000 in
set_option maxRecDepth 20000 in
theorem coX12_mostAlike (l : Launch) (e : Nat) (he : 1 ≤ e) (v0 : Nat) (v1 : Int32) (v2 : Int32) (v3 : Int32) : zCo l (e + 1) 0 0 iX12_mostAlike 0 [(0, .ref v0), (1, .int v1), (2, .int v2), (3, .int v3)] [] (X12_mostAlike v0 v1 v2 v3) := by
  unfold X12_mostAlike
  refine zco_p tkX12_mostAlike 0 4 (pc' := 6) (L' := [(5, .int 0), (4, .int 0), (0, .ref v0), (1, .int v1), (2, .int v2), (3, .int v3)]) (S' := []) rfl ?_
  exact zco_sub [2, 3, 4, 5, 1, 0] rfl (zco_fix (Lf := fun x : Int32 × Int32 => [(0, .ref v0), (1, .int v1), (2, .int v2), (3, .int v3), (4, .int x.1), (5, .int x.2)]) (Sf := fun _ => []) (fun r hr x => coX12_mostAlike_B6 l e he v0 v1 v2 v3 r hr x.1 x.2) zFU (0, 0))
theorem mtX12_mostAlike (l : Launch) (d : Nat) (hd : 2 ≤ d) (v0 : Nat) (v1 : Int32) (v2 : Int32) (v3 : Int32) : zMet l d 0 0 yX12_mostAlike cX12_mostAlike 6 (Option.some .int) [.ref v0, .int v1, .int v2, .int v3] (X12_mostAlike v0 v1 v2 v3) := by
  obtain ⟨e, rfl⟩ : ∃ e, d = e + 1 := ⟨d - 1, by omega⟩
  exact zmet_of (own := RX12) (ini := false) (by decide +kernel) rfl (fun _ => by contradiction) (Nat.le_of_ble_eq_true rfl) (coX12_mostAlike l e (by omega) v0 v1 v2 v3)
abbrev iX12_tells : zI := (RX12, cX12_tells, 10, (Option.some .int), false)
def tX12_tells : List (Nat × Instr × Nat) := [(0, .aload_n 0, 1), (1, .iload_n 1, 1), (2, .i2l, 1), (3, .invokevirtual 422, 3), (6, .ifCond .eq 15, 3), (9, .iload_n 2, 1), (10, .i2l, 1), (11, .lconst 0, 1), (12, .ldc2_w 602, 3), (15, .invokestatic 313, 3), (18, .ifCond .ne 5, 3), (21, .iconst (-1), 1), (22, .ireturn, 1), (23, .aload_n 0, 1), (24, .iload_n 1, 1), (25, .invokevirtual 599, 3), (28, .istore_n 3, 1), (29, .iconst (-1), 1), (30, .istore 4, 2), (32, .iconst (-1), 1), (33, .istore 5, 2), (35, .iconst 0, 1), (36, .istore 6, 2), (38, .iconst 1, 1), (39, .istore 7, 2), (41, .iload_n 3, 1), (42, .ifCond .eq 78, 3), (45, .aload_n 0, 1), (46, .iload 7, 2), (48, .iconst 1, 1), (49, .bipush 30, 2), (51, .invokevirtual 557, 3), (54, .ifCond .eq 66, 3), (57, .iconst 0, 1), (58, .istore 8, 2), (60, .iload 8, 2), (62, .aload_n 0, 1), (63, .invokevirtual 419, 3), (66, .if_icmp .ge 48, 3), (69, .aload_n 0, 1), (70, .iload_n 3, 1), (71, .iload 7, 2), (73, .iload 8, 2), (75, .invokevirtual 604, 3), (78, .istore 9, 2), (80, .iload 4, 2), (82, .iconst (-1), 1), (83, .if_icmp .eq 13, 3), (86, .iload 9, 2), (88, .iload 6, 2), (90, .if_icmp .lt 6, 3), (93, .goto 15, 3), (96, .iload 7, 2), (98, .istore 4, 2), (100, .iload 8, 2), (102, .istore 5, 2), (104, .iload 9, 2), (106, .istore 6, 2), (108, .iinc 8 1, 3), (111, .goto (-51), 3), (114, .iinc 7 1, 3), (117, .goto (-76), 3), (120, .iload 4, 2), (122, .iconst (-1), 1), (123, .if_icmp .ne 7, 3), (126, .iconst (-1), 1), (127, .goto 24, 3), (130, .iload_n 2, 1), (131, .ifCond .ne 8, 3), (134, .iload 4, 2), (136, .goto 15, 3), (139, .iload_n 2, 1), (140, .iconst 1, 1), (141, .if_icmp .ne 8, 3), (144, .iload 5, 2), (146, .goto 5, 3), (149, .iload 6, 2), (151, .ireturn, 1)]
set_option maxRecDepth 100000 in
theorem tkX12_tells : ∀ q ∈ tX12_tells, decode cX12_tells q.1 = .ok q.2 := by decide +kernel
theorem vmX12_tells : zVM yX12_tells cX12_tells 10 (Option.some .int) 2 12 := ⟨kX12_tells, q_2186, q_2187, q_160, ⟨_, rfl, rfl⟩, by decide +kernel, by decide⟩
def X12_tells_J120 (v2 : Int32) (v4 : Int32) (v5 : Int32) (v6 : Int32) : zM := z_if (v4 = ((-1))) (z_ret (some (.int ((-1)))))
   (z_if (v2 = 0) (z_ret (some (.int v4)))
   (z_if (v2 = 1) (z_ret (some (.int v5)))
   (z_ret (some (.int v6)))))
set_option maxHeartbeats 2000000 in
set_option maxRecDepth 20000 in
theorem coX12_tells_J120 (l : Launch) (e : Nat) (he : 9 ≤ e) (v2 : Int32) (v4 : Int32) (v5 : Int32) (v6 : Int32) : zCo l (e + 1) 0 0 iX12_tells 120 [(2, .int v2), (4, .int v4), (5, .int v5), (6, .int v6)] [] (X12_tells_J120 v2 v4 v5 v6) := by
  unfold X12_tells_J120
  refine zco_p tkX12_tells 62 2 (pc' := 123) (L' := [(2, .int v2), (4, .int v4), (5, .int v5), (6, .int v6)]) (S' := [.int ((-1)), .int v4]) rfl ?_
  refine zco_icmp_ne (tgt := 130) (zdk (cc := cX12_tells) (q := (123, .if_icmp .ne 7, 3)) tkX12_tells 64 rfl) rfl ?_ ?_
  · refine zco_p tkX12_tells 67 1 (pc' := 131) (L' := [(2, .int v2), (4, .int v4), (5, .int v5), (6, .int v6)]) (S' := [.int v2]) rfl ?_
    refine zco_if_ne (tgt := 139) (zdk (cc := cX12_tells) (q := (131, .ifCond .ne 8, 3)) tkX12_tells 68 rfl) rfl ?_ ?_
    · refine zco_p tkX12_tells 71 2 (pc' := 141) (L' := [(2, .int v2), (4, .int v4), (5, .int v5), (6, .int v6)]) (S' := [.int 1, .int v2]) rfl ?_
      refine zco_icmp_ne (tgt := 149) (zdk (cc := cX12_tells) (q := (141, .if_icmp .ne 8, 3)) tkX12_tells 73 rfl) rfl ?_ ?_
      · refine zco_p tkX12_tells 76 1 (pc' := 151) (L' := [(2, .int v2), (4, .int v4), (5, .int v5), (6, .int v6)]) (S' := [.int v6]) rfl ?_
        exact zco_iret rfl rfl rfl (zdk (cc := cX12_tells) (q := (151, .ireturn, 1)) tkX12_tells 77 rfl)
      · refine zco_p tkX12_tells 74 2 (pc' := 151) (L' := [(2, .int v2), (4, .int v4), (5, .int v5), (6, .int v6)]) (S' := [.int v5]) rfl ?_
        exact zco_iret rfl rfl rfl (zdk (cc := cX12_tells) (q := (151, .ireturn, 1)) tkX12_tells 77 rfl)
    · refine zco_p tkX12_tells 69 2 (pc' := 151) (L' := [(2, .int v2), (4, .int v4), (5, .int v5), (6, .int v6)]) (S' := [.int v4]) rfl ?_
      exact zco_iret rfl rfl rfl (zdk (cc := cX12_tells) (q := (151, .ireturn, 1)) tkX12_tells 77 rfl)
  · refine zco_p tkX12_tells 65 2 (pc' := 151) (L' := [(2, .int v2), (4, .int v4), (5, .int v5), (6, .int v6)]) (S' := [.int ((-1))]) rfl ?_
    exact zco_iret rfl rfl rfl (zdk (cc := cX12_tells) (q := (151, .ireturn, 1)) tkX12_tells 77 rfl)
def X12_tells_J114 (r41 : Int32 × Int32 × Int32 × Int32 → zM) (v0 : Nat) (v2 : Int32) (v3 : Int32) (v4 : Int32) (v5 : Int32) (v6 : Int32) (v7 : Int32) : zM := r41 (v4, v5, v6, v7 + 1)
set_option maxHeartbeats 2000000 in
set_option maxRecDepth 20000 in
theorem coX12_tells_J114 (l : Launch) (e : Nat) (he : 9 ≤ e) (v0 : Nat) (v2 : Int32) (v3 : Int32) (v4 : Int32) (v5 : Int32) (v6 : Int32) (v7 : Int32) (r41 : Int32 × Int32 × Int32 × Int32 → zM) (hr41 : ∀ x : Int32 × Int32 × Int32 × Int32, zCo l (e + 1) 0 0 iX12_tells 41 [(0, .ref v0), (2, .int v2), (3, .int v3), (4, .int x.1), (5, .int x.2.1), (6, .int x.2.2.1), (7, .int x.2.2.2)] [] (r41 x)) : zCo l (e + 1) 0 0 iX12_tells 114 [(0, .ref v0), (2, .int v2), (3, .int v3), (4, .int v4), (5, .int v5), (6, .int v6), (7, .int v7)] [] (X12_tells_J114 r41 v0 v2 v3 v4 v5 v6 v7) := by
  unfold X12_tells_J114
  refine zco_p tkX12_tells 60 2 (pc' := 41) (L' := [(7, .int (v7 + 1)), (0, .ref v0), (2, .int v2), (3, .int v3), (4, .int v4), (5, .int v5), (6, .int v6)]) (S' := []) rfl ?_
  exact zco_sub [1, 2, 3, 4, 5, 6, 0] rfl (hr41 (v4, v5, v6, v7 + 1))
def X12_tells_J108 (r41 : Int32 × Int32 × Int32 × Int32 → zM) (r60 : Int32 × Int32 × Int32 × Int32 → zM) (v0 : Nat) (v2 : Int32) (v3 : Int32) (v4 : Int32) (v5 : Int32) (v6 : Int32) (v7 : Int32) (v8 : Int32) : zM := r60 (v4, v5, v6, v8 + 1)
set_option maxHeartbeats 2000000 in
set_option maxRecDepth 20000 in
theorem coX12_tells_J108 (l : Launch) (e : Nat) (he : 9 ≤ e) (v0 : Nat) (v2 : Int32) (v3 : Int32) (v4 : Int32) (v5 : Int32) (v6 : Int32) (v7 : Int32) (v8 : Int32) (r41 : Int32 × Int32 × Int32 × Int32 → zM) (hr41 : ∀ x : Int32 × Int32 × Int32 × Int32, zCo l (e + 1) 0 0 iX12_tells 41 [(0, .ref v0), (2, .int v2), (3, .int v3), (4, .int x.1), (5, .int x.2.1), (6, .int x.2.2.1), (7, .int x.2.2.2)] [] (r41 x)) (r60 : Int32 × Int32 × Int32 × Int32 → zM) (hr60 : ∀ x : Int32 × Int32 × Int32 × Int32, zCo l (e + 1) 0 0 iX12_tells 60 [(0, .ref v0), (2, .int v2), (3, .int v3), (4, .int x.1), (5, .int x.2.1), (6, .int x.2.2.1), (7, .int v7), (8, .int x.2.2.2)] [] (r60 x)) : zCo l (e + 1) 0 0 iX12_tells 108 [(0, .ref v0), (2, .int v2), (3, .int v3), (4, .int v4), (5, .int v5), (6, .int v6), (7, .int v7), (8, .int v8)] [] (X12_tells_J108 r41 r60 v0 v2 v3 v4 v5 v6 v7 v8) := by
  unfold X12_tells_J108
  refine zco_p tkX12_tells 58 2 (pc' := 60) (L' := [(8, .int (v8 + 1)), (0, .ref v0), (2, .int v2), (3, .int v3), (4, .int v4), (5, .int v5), (6, .int v6), (7, .int v7)]) (S' := []) rfl ?_
  exact zco_sub [1, 2, 3, 4, 5, 6, 7, 0] rfl (hr60 (v4, v5, v6, v8 + 1))
def X12_tells_J96 (r41 : Int32 × Int32 × Int32 × Int32 → zM) (r60 : Int32 × Int32 × Int32 × Int32 → zM) (v0 : Nat) (v2 : Int32) (v3 : Int32) (v7 : Int32) (v8 : Int32) (v9 : Int32) : zM := X12_tells_J108 r41 r60 v0 v2 v3 v7 v8 v9 v7 v8
set_option maxHeartbeats 2000000 in
set_option maxRecDepth 20000 in
theorem coX12_tells_J96 (l : Launch) (e : Nat) (he : 9 ≤ e) (v0 : Nat) (v2 : Int32) (v3 : Int32) (v7 : Int32) (v8 : Int32) (v9 : Int32) (r41 : Int32 × Int32 × Int32 × Int32 → zM) (hr41 : ∀ x : Int32 × Int32 × Int32 × Int32, zCo l (e + 1) 0 0 iX12_tells 41 [(0, .ref v0), (2, .int v2), (3, .int v3), (4, .int x.1), (5, .int x.2.1), (6, .int x.2.2.1), (7, .int x.2.2.2)] [] (r41 x)) (r60 : Int32 × Int32 × Int32 × Int32 → zM) (hr60 : ∀ x : Int32 × Int32 × Int32 × Int32, zCo l (e + 1) 0 0 iX12_tells 60 [(0, .ref v0), (2, .int v2), (3, .int v3), (4, .int x.1), (5, .int x.2.1), (6, .int x.2.2.1), (7, .int v7), (8, .int x.2.2.2)] [] (r60 x)) : zCo l (e + 1) 0 0 iX12_tells 96 [(0, .ref v0), (2, .int v2), (3, .int v3), (7, .int v7), (8, .int v8), (9, .int v9)] [] (X12_tells_J96 r41 r60 v0 v2 v3 v7 v8 v9) := by
  unfold X12_tells_J96
  refine zco_p tkX12_tells 52 6 (pc' := 108) (L' := [(6, .int v9), (5, .int v8), (4, .int v7), (0, .ref v0), (2, .int v2), (3, .int v3), (7, .int v7), (8, .int v8), (9, .int v9)]) (S' := []) rfl ?_
  exact zco_sub [3, 4, 5, 2, 1, 0, 6, 7] rfl (coX12_tells_J108 l e he v0 v2 v3 v7 v8 v9 v7 v8 r41 hr41 r60 hr60)
def X12_tells_B60 (r41 : Int32 × Int32 × Int32 × Int32 → zM) (v0 : Nat) (v2 : Int32) (v3 : Int32) (v7 : Int32) (r60 : Int32 × Int32 × Int32 × Int32 → zM) (v4 : Int32) (v5 : Int32) (v6 : Int32) (v8 : Int32) : zM := z_rc 12 v0 (z_ci (X12_peopleMany v0) fun y1 => z_if (y1 ≤ v8) (X12_tells_J114 r41 v0 v2 v3 v4 v5 v6 v7)
   (z_rc 12 v0 (z_ci (X12_mostAlike v0 v3 v7 v8) fun y2 => z_if (v4 = ((-1))) (X12_tells_J96 r41 r60 v0 v2 v3 v7 v8 y2)
   (z_if (y2 < v6) (X12_tells_J96 r41 r60 v0 v2 v3 v7 v8 y2)
   (X12_tells_J108 r41 r60 v0 v2 v3 v4 v5 v6 v7 v8)))))
set_option maxHeartbeats 2000000 in
set_option maxRecDepth 20000 in
theorem coX12_tells_B60 (l : Launch) (e : Nat) (he : 9 ≤ e) (v0 : Nat) (v2 : Int32) (v3 : Int32) (v7 : Int32) (r41 : Int32 × Int32 × Int32 × Int32 → zM) (hr41 : ∀ x : Int32 × Int32 × Int32 × Int32, zCo l (e + 1) 0 0 iX12_tells 41 [(0, .ref v0), (2, .int v2), (3, .int v3), (4, .int x.1), (5, .int x.2.1), (6, .int x.2.2.1), (7, .int x.2.2.2)] [] (r41 x)) (r60 : Int32 × Int32 × Int32 × Int32 → zM) (hr60 : ∀ x : Int32 × Int32 × Int32 × Int32, zCo l (e + 1) 0 0 iX12_tells 60 [(0, .ref v0), (2, .int v2), (3, .int v3), (4, .int x.1), (5, .int x.2.1), (6, .int x.2.2.1), (7, .int v7), (8, .int x.2.2.2)] [] (r60 x)) (v4 : Int32) (v5 : Int32) (v6 : Int32) (v8 : Int32) : zCo l (e + 1) 0 0 iX12_tells 60 [(0, .ref v0), (2, .int v2), (3, .int v3), (4, .int v4), (5, .int v5), (6, .int v6), (7, .int v7), (8, .int v8)] [] (X12_tells_B60 r41 v0 v2 v3 v7 r60 v4 v5 v6 v8) := by
  unfold X12_tells_B60
  refine zco_p tkX12_tells 35 2 (pc' := 63) (L' := [(0, .ref v0), (2, .int v2), (3, .int v3), (4, .int v4), (5, .int v5), (6, .int v6), (7, .int v7), (8, .int v8)]) (S' := [.ref v0, .int v8]) rfl ?_
  refine zco_Vi (rc := 0) (rs := 0) (mc := 0) (ms := 0) (As := []) (S := [.int v8]) vmX12_peopleMany (mtX12_peopleMany l e (by omega) v0) q_1938 rfl rfl (Nat.le_of_ble_eq_true rfl) (zdk (cc := cX12_tells) (q := (63, .invokevirtual 419, 3)) tkX12_tells 37 rfl) (fun y1 => ?_)
  refine zco_icmp_ge (tgt := 114) (zdk (cc := cX12_tells) (q := (66, .if_icmp .ge 48, 3)) tkX12_tells 38 rfl) rfl ?_ ?_
  · exact zco_sub [0, 1, 2, 3, 4, 5, 6] rfl (coX12_tells_J114 l e he v0 v2 v3 v4 v5 v6 v7 r41 hr41)
  · refine zco_p tkX12_tells 39 4 (pc' := 75) (L' := [(0, .ref v0), (2, .int v2), (3, .int v3), (4, .int v4), (5, .int v5), (6, .int v6), (7, .int v7), (8, .int v8)]) (S' := [.int v8, .int v7, .int v3, .ref v0]) rfl ?_
    refine zco_Vi (rc := 0) (rs := 0) (mc := 0) (ms := 0) (As := [.int v3, .int v7, .int v8]) (S := []) vmX12_mostAlike (mtX12_mostAlike l e (by omega) v0 v3 v7 v8) q_2190 rfl rfl (Nat.le_of_ble_eq_true rfl) (zdk (cc := cX12_tells) (q := (75, .invokevirtual 604, 3)) tkX12_tells 43 rfl) (fun y2 => ?_)
    refine zco_p tkX12_tells 44 3 (pc' := 83) (L' := [(9, .int y2), (0, .ref v0), (2, .int v2), (3, .int v3), (4, .int v4), (5, .int v5), (6, .int v6), (7, .int v7), (8, .int v8)]) (S' := [.int ((-1)), .int v4]) rfl ?_
    refine zco_icmp_eq (tgt := 96) (zdk (cc := cX12_tells) (q := (83, .if_icmp .eq 13, 3)) tkX12_tells 47 rfl) rfl ?_ ?_
    · exact zco_sub [1, 2, 3, 7, 8, 0] rfl (coX12_tells_J96 l e he v0 v2 v3 v7 v8 y2 r41 hr41 r60 hr60)
    · refine zco_p tkX12_tells 48 2 (pc' := 90) (L' := [(9, .int y2), (0, .ref v0), (2, .int v2), (3, .int v3), (4, .int v4), (5, .int v5), (6, .int v6), (7, .int v7), (8, .int v8)]) (S' := [.int v6, .int y2]) rfl ?_
      refine zco_icmp_lt (tgt := 96) (zdk (cc := cX12_tells) (q := (90, .if_icmp .lt 6, 3)) tkX12_tells 50 rfl) rfl ?_ ?_
      · exact zco_sub [1, 2, 3, 7, 8, 0] rfl (coX12_tells_J96 l e he v0 v2 v3 v7 v8 y2 r41 hr41 r60 hr60)
      · refine zco_p tkX12_tells 51 1 (pc' := 108) (L' := [(9, .int y2), (0, .ref v0), (2, .int v2), (3, .int v3), (4, .int v4), (5, .int v5), (6, .int v6), (7, .int v7), (8, .int v8)]) (S' := []) rfl ?_
        exact zco_sub [1, 2, 3, 4, 5, 6, 7, 8] rfl (coX12_tells_J108 l e he v0 v2 v3 v4 v5 v6 v7 v8 r41 hr41 r60 hr60)
def X12_tells_B41 (v0 : Nat) (v2 : Int32) (v3 : Int32) (r41 : Int32 × Int32 × Int32 × Int32 → zM) (v4 : Int32) (v5 : Int32) (v6 : Int32) (v7 : Int32) : zM := z_if (v3 = 0) (X12_tells_J120 v2 v4 v5 v6)
   (z_rc 12 v0 (z_ci (X12_isAhead v0 v7 1 30) fun y1 => z_if (y1 = 0) (X12_tells_J120 v2 v4 v5 v6)
   (z_fix (fun r x => X12_tells_B60 r41 v0 v2 v3 v7 r x.1 x.2.1 x.2.2.1 x.2.2.2) zFU (v4, v5, v6, 0))))
set_option maxHeartbeats 2000000 in
set_option maxRecDepth 20000 in
theorem coX12_tells_B41 (l : Launch) (e : Nat) (he : 9 ≤ e) (v0 : Nat) (v2 : Int32) (v3 : Int32) (r41 : Int32 × Int32 × Int32 × Int32 → zM) (hr41 : ∀ x : Int32 × Int32 × Int32 × Int32, zCo l (e + 1) 0 0 iX12_tells 41 [(0, .ref v0), (2, .int v2), (3, .int v3), (4, .int x.1), (5, .int x.2.1), (6, .int x.2.2.1), (7, .int x.2.2.2)] [] (r41 x)) (v4 : Int32) (v5 : Int32) (v6 : Int32) (v7 : Int32) : zCo l (e + 1) 0 0 iX12_tells 41 [(0, .ref v0), (2, .int v2), (3, .int v3), (4, .int v4), (5, .int v5), (6, .int v6), (7, .int v7)] [] (X12_tells_B41 v0 v2 v3 r41 v4 v5 v6 v7) := by
  unfold X12_tells_B41
  refine zco_p tkX12_tells 25 1 (pc' := 42) (L' := [(0, .ref v0), (2, .int v2), (3, .int v3), (4, .int v4), (5, .int v5), (6, .int v6), (7, .int v7)]) (S' := [.int v3]) rfl ?_
  refine zco_if_eq (tgt := 120) (zdk (cc := cX12_tells) (q := (42, .ifCond .eq 78, 3)) tkX12_tells 26 rfl) rfl ?_ ?_
  · exact zco_sub [1, 3, 4, 5] rfl (coX12_tells_J120 l e he v2 v4 v5 v6)
  · refine zco_p tkX12_tells 27 4 (pc' := 51) (L' := [(0, .ref v0), (2, .int v2), (3, .int v3), (4, .int v4), (5, .int v5), (6, .int v6), (7, .int v7)]) (S' := [.int 30, .int 1, .int v7, .ref v0]) rfl ?_
    refine zco_Vi (rc := 0) (rs := 0) (mc := 0) (ms := 0) (As := [.int v7, .int 1, .int 30]) (S := []) vmX12_isAhead (mtX12_isAhead l e (by omega) v0 v7 1 30) q_2070 rfl rfl (Nat.le_of_ble_eq_true rfl) (zdk (cc := cX12_tells) (q := (51, .invokevirtual 557, 3)) tkX12_tells 31 rfl) (fun y1 => ?_)
    refine zco_if_eq (tgt := 120) (zdk (cc := cX12_tells) (q := (54, .ifCond .eq 66, 3)) tkX12_tells 32 rfl) rfl ?_ ?_
    · exact zco_sub [1, 3, 4, 5] rfl (coX12_tells_J120 l e he v2 v4 v5 v6)
    · refine zco_p tkX12_tells 33 2 (pc' := 60) (L' := [(8, .int 0), (0, .ref v0), (2, .int v2), (3, .int v3), (4, .int v4), (5, .int v5), (6, .int v6), (7, .int v7)]) (S' := []) rfl ?_
      exact zco_sub [1, 2, 3, 4, 5, 6, 7, 0] rfl (zco_fix (Lf := fun x : Int32 × Int32 × Int32 × Int32 => [(0, .ref v0), (2, .int v2), (3, .int v3), (4, .int x.1), (5, .int x.2.1), (6, .int x.2.2.1), (7, .int v7), (8, .int x.2.2.2)]) (Sf := fun _ => []) (fun r hr x => coX12_tells_B60 l e he v0 v2 v3 v7 r41 hr41 r hr x.1 x.2.1 x.2.2.1 x.2.2.2) zFU (v4, v5, v6, 0))
def X12_tells (v0 : Nat) (v1 : Int32) (v2 : Int32) : zM := z_rc 12 v0 (z_ci (X12_isPerson v0 v1.toInt64) fun y1 => z_if (y1 = 0) (z_ret (some (.int ((-1)))))
   (z_ci (X12_isIn v2.toInt64 0 2) fun y2 => z_if (y2 = 0) (z_ret (some (.int ((-1)))))
   (z_rc 12 v0 (z_ci (X12_sizeSet v0 v1) fun y3 => z_fix (fun r x => X12_tells_B41 v0 v2 y3 r x.1 x.2.1 x.2.2.1 x.2.2.2) zFU ((-1), (-1), 0, 1)))))
set_option maxHeartbeats 2000000 in
set_option maxRecDepth 20000 in
theorem coX12_tells (l : Launch) (e : Nat) (he : 9 ≤ e) (v0 : Nat) (v1 : Int32) (v2 : Int32) : zCo l (e + 1) 0 0 iX12_tells 0 [(0, .ref v0), (1, .int v1), (2, .int v2)] [] (X12_tells v0 v1 v2) := by
  unfold X12_tells
  refine zco_p tkX12_tells 0 3 (pc' := 3) (L' := [(0, .ref v0), (1, .int v1), (2, .int v2)]) (S' := [.long v1.toInt64, .ref v0]) rfl ?_
  refine zco_Vi (rc := 0) (rs := 0) (mc := 0) (ms := 0) (As := [.long v1.toInt64]) (S := []) vmX12_isPerson (mtX12_isPerson l e (by omega) v0 v1.toInt64) q_1934 rfl rfl (Nat.le_of_ble_eq_true rfl) (zdk (cc := cX12_tells) (q := (3, .invokevirtual 422, 3)) tkX12_tells 3 rfl) (fun y1 => ?_)
  refine zco_if_eq (tgt := 21) (zdk (cc := cX12_tells) (q := (6, .ifCond .eq 15, 3)) tkX12_tells 4 rfl) rfl ?_ ?_
  · refine zco_p tkX12_tells 11 1 (pc' := 22) (L' := [(0, .ref v0), (1, .int v1), (2, .int v2)]) (S' := [.int ((-1))]) rfl ?_
    exact zco_iret rfl rfl rfl (zdk (cc := cX12_tells) (q := (22, .ireturn, 1)) tkX12_tells 12 rfl)
  · refine zco_p tkX12_tells 5 3 (pc' := 12) (L' := [(0, .ref v0), (1, .int v1), (2, .int v2)]) (S' := [.long 0, .long v2.toInt64]) rfl ?_
    refine zco_ldc2 q_2189 (zdk (cc := cX12_tells) (q := (12, .ldc2_w 602, 3)) tkX12_tells 8 rfl) ?_
    refine zco_Si (rc := 0) (rs := 0) (mc := 0) (ms := 0) (As := [.long v2.toInt64, .long 0, .long 2]) (S := []) vmX12_isIn (mtX12_isIn l e (by omega) v2.toInt64 0 2) q_1797 rfl rfl (Nat.le_of_ble_eq_true rfl) (zdk (cc := cX12_tells) (q := (15, .invokestatic 313, 3)) tkX12_tells 9 rfl) (fun y2 => ?_)
    refine zco_if_ne (tgt := 23) (zdk (cc := cX12_tells) (q := (18, .ifCond .ne 5, 3)) tkX12_tells 10 rfl) rfl ?_ ?_
    · refine zco_p tkX12_tells 13 2 (pc' := 25) (L' := [(0, .ref v0), (1, .int v1), (2, .int v2)]) (S' := [.int v1, .ref v0]) rfl ?_
      refine zco_Vi (rc := 0) (rs := 0) (mc := 0) (ms := 0) (As := [.int v1]) (S := []) vmX12_sizeSet (mtX12_sizeSet l e (by omega) v0 v1) q_2173 rfl rfl (Nat.le_of_ble_eq_true rfl) (zdk (cc := cX12_tells) (q := (25, .invokevirtual 599, 3)) tkX12_tells 15 rfl) (fun y3 => ?_)
      refine zco_p tkX12_tells 16 9 (pc' := 41) (L' := [(7, .int 1), (6, .int 0), (5, .int ((-1))), (4, .int ((-1))), (3, .int y3), (0, .ref v0), (1, .int v1), (2, .int v2)]) (S' := []) rfl ?_
      exact zco_sub [5, 7, 4, 3, 2, 1, 0] rfl (zco_fix (Lf := fun x : Int32 × Int32 × Int32 × Int32 => [(0, .ref v0), (2, .int v2), (3, .int y3), (4, .int x.1), (5, .int x.2.1), (6, .int x.2.2.1), (7, .int x.2.2.2)]) (Sf := fun _ => []) (fun r hr x => coX12_tells_B41 l e he v0 v2 y3 r hr x.1 x.2.1 x.2.2.1 x.2.2.2) zFU ((-1), (-1), 0, 1))
    · refine zco_p tkX12_tells 11 1 (pc' := 22) (L' := [(0, .ref v0), (1, .int v1), (2, .int v2)]) (S' := [.int ((-1))]) rfl ?_
      exact zco_iret rfl rfl rfl (zdk (cc := cX12_tells) (q := (22, .ireturn, 1)) tkX12_tells 12 rfl)
theorem mtX12_tells (l : Launch) (d : Nat) (hd : 10 ≤ d) (v0 : Nat) (v1 : Int32) (v2 : Int32) : zMet l d 0 0 yX12_tells cX12_tells 10 (Option.some .int) [.ref v0, .int v1, .int v2] (X12_tells v0 v1 v2) := by
  obtain ⟨e, rfl⟩ : ∃ e, d = e + 1 := ⟨d - 1, by omega⟩
  exact zmet_of (own := RX12) (ini := false) (by decide +kernel) rfl (fun _ => by contradiction) (Nat.le_of_ble_eq_true rfl) (coX12_tells l e (by omega) v0 v1 v2)
abbrev iX12_keeps : zI := (RX12, cX12_keeps, 2, (Option.none : Option FieldType), false)
def tX12_keeps : List (Nat × Instr × Nat) := [(0, .aload_n 0, 1), (1, .aload_n 0, 1), (2, .getfield 607, 3), (5, .iconst 1, 1), (6, .iadd, 1), (7, .bipush 20, 2), (9, .irem, 1), (10, .putfield 607, 3), (13, .iconst 0, 1), (14, .istore_n 1, 1), (15, .iload_n 1, 1), (16, .sipush 343, 3), (19, .if_icmp .ge 30, 3), (22, .aload_n 0, 1), (23, .getfield 170, 3), (26, .sipush 343, 3), (29, .aload_n 0, 1), (30, .getfield 607, 3), (33, .imul, 1), (34, .iload_n 1, 1), (35, .iadd, 1), (36, .aload_n 0, 1), (37, .getfield 134, 3), (40, .iload_n 1, 1), (41, .iaload, 1), (42, .iastore, 1), (43, .iinc 1 1, 3), (46, .goto (-31), 3), (49, .aload_n 0, 1), (50, .getfield 410, 3), (53, .bipush 20, 2), (55, .if_icmp .ge 13, 3), (58, .aload_n 0, 1), (59, .dup, 1), (60, .getfield 410, 3), (63, .iconst 1, 1), (64, .iadd, 1), (65, .putfield 410, 3), (68, .return_, 1)]
set_option maxRecDepth 100000 in
theorem tkX12_keeps : ∀ q ∈ tX12_keeps, decode cX12_keeps q.1 = .ok q.2 := by decide +kernel
theorem vmX12_keeps : zVM yX12_keeps cX12_keeps 2 (Option.none : Option FieldType) 0 12 := ⟨kX12_keeps, q_2204, q_130, q_160, ⟨_, rfl, rfl⟩, by decide +kernel, by decide⟩
def X12_keeps_J49 (v0 : Nat) : zM := z_gi 12 75 v0 fun x1 => z_if (20 ≤ x1) (z_ret none)
   (z_gi 12 75 v0 fun x2 => z_pi 12 75 v0 (x2 + 1) (z_ret none))
set_option maxHeartbeats 2000000 in
set_option maxRecDepth 20000 in
theorem coX12_keeps_J49 (l : Launch) (e : Nat) (he : 0 ≤ e) (v0 : Nat) : zCo l (e + 1) 0 0 iX12_keeps 49 [(0, .ref v0)] [] (X12_keeps_J49 v0) := by
  unfold X12_keeps_J49
  refine zco_p tkX12_keeps 28 1 (pc' := 50) (L' := [(0, .ref v0)]) (S' := [.ref v0]) rfl ?_
  refine zco_gi fl_12_410 rfl (zdk (cc := cX12_keeps) (q := (50, .getfield 410, 3)) tkX12_keeps 29 rfl) (fun x1 => ?_)
  refine zco_p tkX12_keeps 30 1 (pc' := 55) (L' := [(0, .ref v0)]) (S' := [.int 20, .int x1]) rfl ?_
  refine zco_icmp_ge (tgt := 68) (zdk (cc := cX12_keeps) (q := (55, .if_icmp .ge 13, 3)) tkX12_keeps 31 rfl) rfl ?_ ?_
  · exact zco_vret rfl rfl rfl (zdk (cc := cX12_keeps) (q := (68, .return_, 1)) tkX12_keeps 38 rfl)
  · refine zco_p tkX12_keeps 32 2 (pc' := 60) (L' := [(0, .ref v0)]) (S' := [.ref v0, .ref v0]) rfl ?_
    refine zco_gi fl_12_410 rfl (zdk (cc := cX12_keeps) (q := (60, .getfield 410, 3)) tkX12_keeps 34 rfl) (fun x2 => ?_)
    refine zco_p tkX12_keeps 35 2 (pc' := 65) (L' := [(0, .ref v0)]) (S' := [.int (x2 + 1), .ref v0]) rfl ?_
    refine zco_pi fl_12_410 rfl rfl (zdk (cc := cX12_keeps) (q := (65, .putfield 410, 3)) tkX12_keeps 37 rfl) ?_
    exact zco_vret rfl rfl rfl (zdk (cc := cX12_keeps) (q := (68, .return_, 1)) tkX12_keeps 38 rfl)
def X12_keeps_B15 (v0 : Nat) (r15 : Int32 → zM) (v1 : Int32) : zM := z_if (343 ≤ v1) (X12_keeps_J49 v0)
   (z_gr 12 74 v0 fun x1 => z_gi 12 76 v0 fun x2 => z_gr 12 52 v0 fun x3 => z_la 20 x3 v1 fun x4 => z_sa 20 x1 ((343 * x2) + v1) x4 (r15 (v1 + 1)))
set_option maxHeartbeats 2000000 in
set_option maxRecDepth 20000 in
theorem coX12_keeps_B15 (l : Launch) (e : Nat) (he : 0 ≤ e) (v0 : Nat) (r15 : Int32 → zM) (hr15 : ∀ x : Int32, zCo l (e + 1) 0 0 iX12_keeps 15 [(0, .ref v0), (1, .int x)] [] (r15 x)) (v1 : Int32) : zCo l (e + 1) 0 0 iX12_keeps 15 [(0, .ref v0), (1, .int v1)] [] (X12_keeps_B15 v0 r15 v1) := by
  unfold X12_keeps_B15
  refine zco_p tkX12_keeps 10 2 (pc' := 19) (L' := [(0, .ref v0), (1, .int v1)]) (S' := [.int 343, .int v1]) rfl ?_
  refine zco_icmp_ge (tgt := 49) (zdk (cc := cX12_keeps) (q := (19, .if_icmp .ge 30, 3)) tkX12_keeps 12 rfl) rfl ?_ ?_
  · exact zco_sub [0] rfl (coX12_keeps_J49 l e he v0)
  · refine zco_p tkX12_keeps 13 1 (pc' := 23) (L' := [(0, .ref v0), (1, .int v1)]) (S' := [.ref v0]) rfl ?_
    refine zco_gr fl_12_170 rfl (zdk (cc := cX12_keeps) (q := (23, .getfield 170, 3)) tkX12_keeps 14 rfl) (fun x1 => ?_)
    refine zco_p tkX12_keeps 15 2 (pc' := 30) (L' := [(0, .ref v0), (1, .int v1)]) (S' := [.ref v0, .int 343, .ref x1]) rfl ?_
    refine zco_gi fl_12_607 rfl (zdk (cc := cX12_keeps) (q := (30, .getfield 607, 3)) tkX12_keeps 17 rfl) (fun x2 => ?_)
    refine zco_p tkX12_keeps 18 4 (pc' := 37) (L' := [(0, .ref v0), (1, .int v1)]) (S' := [.ref v0, .int ((343 * x2) + v1), .ref x1]) rfl ?_
    refine zco_gr fl_12_134 rfl (zdk (cc := cX12_keeps) (q := (37, .getfield 134, 3)) tkX12_keeps 22 rfl) (fun x3 => ?_)
    refine zco_p tkX12_keeps 23 1 (pc' := 41) (L' := [(0, .ref v0), (1, .int v1)]) (S' := [.int v1, .ref x3, .int ((343 * x2) + v1), .ref x1]) rfl ?_
    refine zco_iaload (zdk (cc := cX12_keeps) (q := (41, .iaload, 1)) tkX12_keeps 24 rfl) (fun x4 => ?_)
    refine zco_iastore (zdk (cc := cX12_keeps) (q := (42, .iastore, 1)) tkX12_keeps 25 rfl) ?_
    refine zco_p tkX12_keeps 26 2 (pc' := 15) (L' := [(1, .int (v1 + 1)), (0, .ref v0)]) (S' := []) rfl ?_
    exact zco_sub [1, 0] rfl (hr15 (v1 + 1))
def X12_keeps (v0 : Nat) : zM := z_gi 12 76 v0 fun x1 => z_ck (¬ 20 = 0) (z_pi 12 76 v0 ((x1 + 1) - (x1 + 1) / 20 * 20) (z_fix (fun r x => X12_keeps_B15 v0 r x) zFU 0))
set_option maxHeartbeats 2000000 in
set_option maxRecDepth 20000 in
theorem coX12_keeps (l : Launch) (e : Nat) (he : 0 ≤ e) (v0 : Nat) : zCo l (e + 1) 0 0 iX12_keeps 0 [(0, .ref v0)] [] (X12_keeps v0) := by
  unfold X12_keeps
  refine zco_p tkX12_keeps 0 2 (pc' := 2) (L' := [(0, .ref v0)]) (S' := [.ref v0, .ref v0]) rfl ?_
  refine zco_gi fl_12_607 rfl (zdk (cc := cX12_keeps) (q := (2, .getfield 607, 3)) tkX12_keeps 2 rfl) (fun x1 => ?_)
  refine zco_p tkX12_keeps 3 3 (pc' := 9) (L' := [(0, .ref v0)]) (S' := [.int 20, .int (x1 + 1), .ref v0]) rfl ?_
  refine zco_irem (zdk (cc := cX12_keeps) (q := (9, .irem, 1)) tkX12_keeps 6 rfl) ?_
  refine zco_pi fl_12_607 rfl rfl (zdk (cc := cX12_keeps) (q := (10, .putfield 607, 3)) tkX12_keeps 7 rfl) ?_
  refine zco_p tkX12_keeps 8 2 (pc' := 15) (L' := [(1, .int 0), (0, .ref v0)]) (S' := []) rfl ?_
  exact zco_sub [1, 0] rfl (zco_fix (Lf := fun x : Int32 => [(0, .ref v0), (1, .int x)]) (Sf := fun _ => []) (fun r hr x => coX12_keeps_B15 l e he v0 r hr x) zFU 0)
theorem mtX12_keeps (l : Launch) (d : Nat) (hd : 1 ≤ d) (v0 : Nat) : zMet l d 0 0 yX12_keeps cX12_keeps 2 (Option.none : Option FieldType) [.ref v0] (X12_keeps v0) := by
  obtain ⟨e, rfl⟩ : ∃ e, d = e + 1 := ⟨d - 1, by omega⟩
  exact zmet_of (own := RX12) (ini := false) (by decide +kernel) rfl (fun _ => by contradiction) (Nat.le_of_ble_eq_true rfl) (coX12_keeps l e (by omega) v0)
abbrev iX12_undo : zI := (RX12, cX12_undo, 2, (Option.some .boolean), false)
def tX12_undo : List (Nat × Instr × Nat) := [(0, .aload_n 0, 1), (1, .getfield 410, 3), (4, .ifCond .ne 15, 3), (7, .aload_n 0, 1), (8, .getfield 17, 3), (11, .iconst 4, 1), (12, .dup2, 1), (13, .iaload, 1), (14, .iconst 1, 1), (15, .iadd, 1), (16, .iastore, 1), (17, .iconst 0, 1), (18, .ireturn, 1), (19, .iconst 0, 1), (20, .istore_n 1, 1), (21, .iload_n 1, 1), (22, .sipush 343, 3), (25, .if_icmp .ge 30, 3), (28, .aload_n 0, 1), (29, .getfield 134, 3), (32, .iload_n 1, 1), (33, .aload_n 0, 1), (34, .getfield 170, 3), (37, .sipush 343, 3), (40, .aload_n 0, 1), (41, .getfield 607, 3), (44, .imul, 1), (45, .iload_n 1, 1), (46, .iadd, 1), (47, .iaload, 1), (48, .iastore, 1), (49, .iinc 1 1, 3), (52, .goto (-31), 3), (55, .aload_n 0, 1), (56, .aload_n 0, 1), (57, .getfield 607, 3), (60, .bipush 20, 2), (62, .iadd, 1), (63, .iconst 1, 1), (64, .isub, 1), (65, .bipush 20, 2), (67, .irem, 1), (68, .putfield 607, 3), (71, .aload_n 0, 1), (72, .dup, 1), (73, .getfield 410, 3), (76, .iconst 1, 1), (77, .isub, 1), (78, .putfield 410, 3), (81, .iconst 1, 1), (82, .ireturn, 1)]
set_option maxRecDepth 100000 in
theorem tkX12_undo : ∀ q ∈ tX12_undo, decode cX12_undo q.1 = .ok q.2 := by decide +kernel
theorem vmX12_undo : zVM yX12_undo cX12_undo 2 (Option.some .boolean) 0 12 := ⟨kX12_undo, q_2195, q_2196, q_160, ⟨_, rfl, rfl⟩, by decide +kernel, by decide⟩
def X12_undo_J55 (v0 : Nat) : zM := z_gi 12 76 v0 fun x1 => z_ck (¬ 20 = 0) (z_pi 12 76 v0 (((x1 + 20) - 1) - ((x1 + 20) - 1) / 20 * 20) (z_gi 12 75 v0 fun x2 => z_pi 12 75 v0 (x2 - 1) (z_rb 1)))
set_option maxHeartbeats 2000000 in
set_option maxRecDepth 20000 in
theorem coX12_undo_J55 (l : Launch) (e : Nat) (he : 0 ≤ e) (v0 : Nat) : zCo l (e + 1) 0 0 iX12_undo 55 [(0, .ref v0)] [] (X12_undo_J55 v0) := by
  unfold X12_undo_J55
  refine zco_p tkX12_undo 33 2 (pc' := 57) (L' := [(0, .ref v0)]) (S' := [.ref v0, .ref v0]) rfl ?_
  refine zco_gi fl_12_607 rfl (zdk (cc := cX12_undo) (q := (57, .getfield 607, 3)) tkX12_undo 35 rfl) (fun x1 => ?_)
  refine zco_p tkX12_undo 36 5 (pc' := 67) (L' := [(0, .ref v0)]) (S' := [.int 20, .int ((x1 + 20) - 1), .ref v0]) rfl ?_
  refine zco_irem (zdk (cc := cX12_undo) (q := (67, .irem, 1)) tkX12_undo 41 rfl) ?_
  refine zco_pi fl_12_607 rfl rfl (zdk (cc := cX12_undo) (q := (68, .putfield 607, 3)) tkX12_undo 42 rfl) ?_
  refine zco_p tkX12_undo 43 2 (pc' := 73) (L' := [(0, .ref v0)]) (S' := [.ref v0, .ref v0]) rfl ?_
  refine zco_gi fl_12_410 rfl (zdk (cc := cX12_undo) (q := (73, .getfield 410, 3)) tkX12_undo 45 rfl) (fun x2 => ?_)
  refine zco_p tkX12_undo 46 2 (pc' := 78) (L' := [(0, .ref v0)]) (S' := [.int (x2 - 1), .ref v0]) rfl ?_
  refine zco_pi fl_12_410 rfl rfl (zdk (cc := cX12_undo) (q := (78, .putfield 410, 3)) tkX12_undo 48 rfl) ?_
  refine zco_p tkX12_undo 49 1 (pc' := 82) (L' := [(0, .ref v0)]) (S' := [.int 1]) rfl ?_
  exact zco_zret rfl rfl rfl (zdk (cc := cX12_undo) (q := (82, .ireturn, 1)) tkX12_undo 50 rfl)
def X12_undo_B21 (v0 : Nat) (r21 : Int32 → zM) (v1 : Int32) : zM := z_if (343 ≤ v1) (X12_undo_J55 v0)
   (z_gr 12 52 v0 fun x1 => z_gr 12 74 v0 fun x2 => z_gi 12 76 v0 fun x3 => z_la 20 x2 ((343 * x3) + v1) fun x4 => z_sa 20 x1 v1 x4 (r21 (v1 + 1)))
set_option maxHeartbeats 2000000 in
set_option maxRecDepth 20000 in
theorem coX12_undo_B21 (l : Launch) (e : Nat) (he : 0 ≤ e) (v0 : Nat) (r21 : Int32 → zM) (hr21 : ∀ x : Int32, zCo l (e + 1) 0 0 iX12_undo 21 [(0, .ref v0), (1, .int x)] [] (r21 x)) (v1 : Int32) : zCo l (e + 1) 0 0 iX12_undo 21 [(0, .ref v0), (1, .int v1)] [] (X12_undo_B21 v0 r21 v1) := by
  unfold X12_undo_B21
  refine zco_p tkX12_undo 15 2 (pc' := 25) (L' := [(0, .ref v0), (1, .int v1)]) (S' := [.int 343, .int v1]) rfl ?_
  refine zco_icmp_ge (tgt := 55) (zdk (cc := cX12_undo) (q := (25, .if_icmp .ge 30, 3)) tkX12_undo 17 rfl) rfl ?_ ?_
  · exact zco_sub [0] rfl (coX12_undo_J55 l e he v0)
  · refine zco_p tkX12_undo 18 1 (pc' := 29) (L' := [(0, .ref v0), (1, .int v1)]) (S' := [.ref v0]) rfl ?_
    refine zco_gr fl_12_134 rfl (zdk (cc := cX12_undo) (q := (29, .getfield 134, 3)) tkX12_undo 19 rfl) (fun x1 => ?_)
    refine zco_p tkX12_undo 20 2 (pc' := 34) (L' := [(0, .ref v0), (1, .int v1)]) (S' := [.ref v0, .int v1, .ref x1]) rfl ?_
    refine zco_gr fl_12_170 rfl (zdk (cc := cX12_undo) (q := (34, .getfield 170, 3)) tkX12_undo 22 rfl) (fun x2 => ?_)
    refine zco_p tkX12_undo 23 2 (pc' := 41) (L' := [(0, .ref v0), (1, .int v1)]) (S' := [.ref v0, .int 343, .ref x2, .int v1, .ref x1]) rfl ?_
    refine zco_gi fl_12_607 rfl (zdk (cc := cX12_undo) (q := (41, .getfield 607, 3)) tkX12_undo 25 rfl) (fun x3 => ?_)
    refine zco_p tkX12_undo 26 3 (pc' := 47) (L' := [(0, .ref v0), (1, .int v1)]) (S' := [.int ((343 * x3) + v1), .ref x2, .int v1, .ref x1]) rfl ?_
    refine zco_iaload (zdk (cc := cX12_undo) (q := (47, .iaload, 1)) tkX12_undo 29 rfl) (fun x4 => ?_)
    refine zco_iastore (zdk (cc := cX12_undo) (q := (48, .iastore, 1)) tkX12_undo 30 rfl) ?_
    refine zco_p tkX12_undo 31 2 (pc' := 21) (L' := [(1, .int (v1 + 1)), (0, .ref v0)]) (S' := []) rfl ?_
    exact zco_sub [1, 0] rfl (hr21 (v1 + 1))
def X12_undo (v0 : Nat) : zM := z_gi 12 75 v0 fun x1 => z_if (x1 = 0) (z_gr 12 9 v0 fun x2 => z_la 20 x2 4 fun x3 => z_sa 20 x2 4 (x3 + 1) (z_rb 0))
   (z_fix (fun r x => X12_undo_B21 v0 r x) zFU 0)
set_option maxHeartbeats 2000000 in
set_option maxRecDepth 20000 in
theorem coX12_undo (l : Launch) (e : Nat) (he : 0 ≤ e) (v0 : Nat) : zCo l (e + 1) 0 0 iX12_undo 0 [(0, .ref v0)] [] (X12_undo v0) := by
  unfold X12_undo
  refine zco_p tkX12_undo 0 1 (pc' := 1) (L' := [(0, .ref v0)]) (S' := [.ref v0]) rfl ?_
  refine zco_gi fl_12_410 rfl (zdk (cc := cX12_undo) (q := (1, .getfield 410, 3)) tkX12_undo 1 rfl) (fun x1 => ?_)
  refine zco_if_ne (tgt := 19) (zdk (cc := cX12_undo) (q := (4, .ifCond .ne 15, 3)) tkX12_undo 2 rfl) rfl ?_ ?_
  · refine zco_p tkX12_undo 13 2 (pc' := 21) (L' := [(1, .int 0), (0, .ref v0)]) (S' := []) rfl ?_
    exact zco_sub [1, 0] rfl (zco_fix (Lf := fun x : Int32 => [(0, .ref v0), (1, .int x)]) (Sf := fun _ => []) (fun r hr x => coX12_undo_B21 l e he v0 r hr x) zFU 0)
  · refine zco_p tkX12_undo 3 1 (pc' := 8) (L' := [(0, .ref v0)]) (S' := [.ref v0]) rfl ?_
    refine zco_gr fl_12_17 rfl (zdk (cc := cX12_undo) (q := (8, .getfield 17, 3)) tkX12_undo 4 rfl) (fun x2 => ?_)
    refine zco_p tkX12_undo 5 2 (pc' := 13) (L' := [(0, .ref v0)]) (S' := [.int 4, .ref x2, .int 4, .ref x2]) rfl ?_
    refine zco_iaload (zdk (cc := cX12_undo) (q := (13, .iaload, 1)) tkX12_undo 7 rfl) (fun x3 => ?_)
    refine zco_p tkX12_undo 8 2 (pc' := 16) (L' := [(0, .ref v0)]) (S' := [.int (x3 + 1), .int 4, .ref x2]) rfl ?_
    refine zco_iastore (zdk (cc := cX12_undo) (q := (16, .iastore, 1)) tkX12_undo 10 rfl) ?_
    refine zco_p tkX12_undo 11 1 (pc' := 18) (L' := [(0, .ref v0)]) (S' := [.int 0]) rfl ?_
    exact zco_zret rfl rfl rfl (zdk (cc := cX12_undo) (q := (18, .ireturn, 1)) tkX12_undo 12 rfl)
theorem mtX12_undo (l : Launch) (d : Nat) (hd : 1 ≤ d) (v0 : Nat) : zMet l d 0 0 yX12_undo cX12_undo 2 (Option.some .boolean) [.ref v0] (X12_undo v0) := by
  obtain ⟨e, rfl⟩ : ∃ e, d = e + 1 := ⟨d - 1, by omega⟩
  exact zmet_of (own := RX12) (ini := false) (by decide +kernel) rfl (fun _ => by contradiction) (Nat.le_of_ble_eq_true rfl) (coX12_undo l e (by omega) v0)
abbrev iX12_isRefused : zI := (RX12, cX12_isRefused, 2, (Option.some .boolean), false)
def tX12_isRefused : List (Nat × Instr × Nat) := [(0, .aload_n 0, 1), (1, .getfield 17, 3), (4, .iload_n 1, 1), (5, .dup2, 1), (6, .iaload, 1), (7, .iconst 1, 1), (8, .iadd, 1), (9, .iastore, 1), (10, .iconst 0, 1), (11, .ireturn, 1)]
set_option maxRecDepth 100000 in
theorem tkX12_isRefused : ∀ q ∈ tX12_isRefused, decode cX12_isRefused q.1 = .ok q.2 := by decide +kernel
theorem vmX12_isRefused : zVM yX12_isRefused cX12_isRefused 2 (Option.some .boolean) 1 12 := ⟨kX12_isRefused, q_2212, q_131, q_160, ⟨_, rfl, rfl⟩, by decide +kernel, by decide⟩
def X12_isRefused (v0 : Nat) (v1 : Int32) : zM := z_gr 12 9 v0 fun x1 => z_la 20 x1 v1 fun x2 => z_sa 20 x1 v1 (x2 + 1) (z_rb 0)
set_option maxHeartbeats 2000000 in
set_option maxRecDepth 20000 in
theorem coX12_isRefused (l : Launch) (e : Nat) (he : 0 ≤ e) (v0 : Nat) (v1 : Int32) : zCo l (e + 1) 0 0 iX12_isRefused 0 [(0, .ref v0), (1, .int v1)] [] (X12_isRefused v0 v1) := by
  unfold X12_isRefused
  refine zco_p tkX12_isRefused 0 1 (pc' := 1) (L' := [(0, .ref v0), (1, .int v1)]) (S' := [.ref v0]) rfl ?_
  refine zco_gr fl_12_17 rfl (zdk (cc := cX12_isRefused) (q := (1, .getfield 17, 3)) tkX12_isRefused 1 rfl) (fun x1 => ?_)
  refine zco_p tkX12_isRefused 2 2 (pc' := 6) (L' := [(0, .ref v0), (1, .int v1)]) (S' := [.int v1, .ref x1, .int v1, .ref x1]) rfl ?_
  refine zco_iaload (zdk (cc := cX12_isRefused) (q := (6, .iaload, 1)) tkX12_isRefused 4 rfl) (fun x2 => ?_)
  refine zco_p tkX12_isRefused 5 2 (pc' := 9) (L' := [(0, .ref v0), (1, .int v1)]) (S' := [.int (x2 + 1), .int v1, .ref x1]) rfl ?_
  refine zco_iastore (zdk (cc := cX12_isRefused) (q := (9, .iastore, 1)) tkX12_isRefused 7 rfl) ?_
  refine zco_p tkX12_isRefused 8 1 (pc' := 11) (L' := [(0, .ref v0), (1, .int v1)]) (S' := [.int 0]) rfl ?_
  exact zco_zret rfl rfl rfl (zdk (cc := cX12_isRefused) (q := (11, .ireturn, 1)) tkX12_isRefused 9 rfl)
theorem mtX12_isRefused (l : Launch) (d : Nat) (hd : 1 ≤ d) (v0 : Nat) (v1 : Int32) : zMet l d 0 0 yX12_isRefused cX12_isRefused 2 (Option.some .boolean) [.ref v0, .int v1] (X12_isRefused v0 v1) := by
  obtain ⟨e, rfl⟩ : ∃ e, d = e + 1 := ⟨d - 1, by omega⟩
  exact zmet_of (own := RX12) (ini := false) (by decide +kernel) rfl (fun _ => by contradiction) (Nat.le_of_ble_eq_true rfl) (coX12_isRefused l e (by omega) v0 v1)
abbrev iX12_rounds : zI := (RX12, cX12_rounds, 2, (Option.some .int), false)
def tX12_rounds : List (Nat × Instr × Nat) := [(0, .aload_n 0, 1), (1, .iload_n 1, 1), (2, .iconst 1, 1), (3, .bipush 100, 2), (5, .invokevirtual 557, 3), (8, .ifCond .ne 9, 3), (11, .aload_n 0, 1), (12, .iconst 3, 1), (13, .invokevirtual 400, 3), (16, .ireturn, 1), (17, .aload_n 0, 1), (18, .invokevirtual 610, 3), (21, .aload_n 0, 1), (22, .iload_n 1, 1), (23, .invokevirtual 564, 3), (26, .aload_n 0, 1), (27, .getfield 500, 3), (30, .ireturn, 1)]
set_option maxRecDepth 100000 in
theorem tkX12_rounds : ∀ q ∈ tX12_rounds, decode cX12_rounds q.1 = .ok q.2 := by decide +kernel
theorem vmX12_rounds : zVM yX12_rounds cX12_rounds 2 (Option.some .int) 1 12 := ⟨kX12_rounds, q_2199, q_2200, q_160, ⟨_, rfl, rfl⟩, by decide +kernel, by decide⟩
def X12_rounds (v0 : Nat) (v1 : Int32) : zM := z_rc 12 v0 (z_ci (X12_isAhead v0 v1 1 100) fun y1 => z_if (y1 = 0) (z_rc 12 v0 (z_ci (X12_refuses v0 3) fun y3 => z_ret (some (.int y3))))
   (z_rc 12 v0 (z_cv (X12_keeps v0) (z_rc 12 v0 (z_cv (X12_roundsGo v0 v1) (z_gi 12 63 v0 fun x2 => z_ret (some (.int x2))))))))
set_option maxHeartbeats 2000000 in
set_option maxRecDepth 20000 in
theorem coX12_rounds (l : Launch) (e : Nat) (he : 9 ≤ e) (v0 : Nat) (v1 : Int32) : zCo l (e + 1) 0 0 iX12_rounds 0 [(0, .ref v0), (1, .int v1)] [] (X12_rounds v0 v1) := by
  unfold X12_rounds
  refine zco_p tkX12_rounds 0 4 (pc' := 5) (L' := [(0, .ref v0), (1, .int v1)]) (S' := [.int 100, .int 1, .int v1, .ref v0]) rfl ?_
  refine zco_Vi (rc := 0) (rs := 0) (mc := 0) (ms := 0) (As := [.int v1, .int 1, .int 100]) (S := []) vmX12_isAhead (mtX12_isAhead l e (by omega) v0 v1 1 100) q_2070 rfl rfl (Nat.le_of_ble_eq_true rfl) (zdk (cc := cX12_rounds) (q := (5, .invokevirtual 557, 3)) tkX12_rounds 4 rfl) (fun y1 => ?_)
  refine zco_if_ne (tgt := 17) (zdk (cc := cX12_rounds) (q := (8, .ifCond .ne 9, 3)) tkX12_rounds 5 rfl) rfl ?_ ?_
  · refine zco_p tkX12_rounds 10 1 (pc' := 18) (L' := [(0, .ref v0), (1, .int v1)]) (S' := [.ref v0]) rfl ?_
    refine zco_Vv (rc := 0) (rs := 0) (mc := 0) (ms := 0) (As := []) (S := []) vmX12_keeps (mtX12_keeps l e (by omega) v0) q_2202 rfl rfl (Nat.le_of_ble_eq_true rfl) (zdk (cc := cX12_rounds) (q := (18, .invokevirtual 610, 3)) tkX12_rounds 11 rfl) ?_
    refine zco_p tkX12_rounds 12 2 (pc' := 23) (L' := [(0, .ref v0), (1, .int v1)]) (S' := [.int v1, .ref v0]) rfl ?_
    refine zco_Vv (rc := 0) (rs := 0) (mc := 0) (ms := 0) (As := [.int v1]) (S := []) vmX12_roundsGo (mtX12_roundsGo l e (by omega) v0 v1) q_2078 rfl rfl (Nat.le_of_ble_eq_true rfl) (zdk (cc := cX12_rounds) (q := (23, .invokevirtual 564, 3)) tkX12_rounds 14 rfl) ?_
    refine zco_p tkX12_rounds 15 1 (pc' := 27) (L' := [(0, .ref v0), (1, .int v1)]) (S' := [.ref v0]) rfl ?_
    refine zco_gi fl_12_500 rfl (zdk (cc := cX12_rounds) (q := (27, .getfield 500, 3)) tkX12_rounds 16 rfl) (fun x2 => ?_)
    exact zco_iret rfl rfl rfl (zdk (cc := cX12_rounds) (q := (30, .ireturn, 1)) tkX12_rounds 17 rfl)
  · refine zco_p tkX12_rounds 6 2 (pc' := 13) (L' := [(0, .ref v0), (1, .int v1)]) (S' := [.int 3, .ref v0]) rfl ?_
    refine zco_Vi (rc := 0) (rs := 0) (mc := 0) (ms := 0) (As := [.int 3]) (S := []) vmX12_refuses (mtX12_refuses l e (by omega) v0 3) q_1906 rfl rfl (Nat.le_of_ble_eq_true rfl) (zdk (cc := cX12_rounds) (q := (13, .invokevirtual 400, 3)) tkX12_rounds 8 rfl) (fun y3 => ?_)
    exact zco_iret rfl rfl rfl (zdk (cc := cX12_rounds) (q := (16, .ireturn, 1)) tkX12_rounds 9 rfl)
theorem mtX12_rounds (l : Launch) (d : Nat) (hd : 10 ≤ d) (v0 : Nat) (v1 : Int32) : zMet l d 0 0 yX12_rounds cX12_rounds 2 (Option.some .int) [.ref v0, .int v1] (X12_rounds v0 v1) := by
  obtain ⟨e, rfl⟩ : ∃ e, d = e + 1 := ⟨d - 1, by omega⟩
  exact zmet_of (own := RX12) (ini := false) (by decide +kernel) rfl (fun _ => by contradiction) (Nat.le_of_ble_eq_true rfl) (coX12_rounds l e (by omega) v0 v1)
abbrev iX12_seed : zI := (RX12, cX12_seed, 2, (Option.some .boolean), false)
def tX12_seed : List (Nat × Instr × Nat) := [(0, .iload_n 1, 1), (1, .ifCond .ge 9, 3), (4, .aload_n 0, 1), (5, .iconst 5, 1), (6, .invokevirtual 613, 3), (9, .ireturn, 1), (10, .aload_n 0, 1), (11, .iload_n 1, 1), (12, .i2l, 1), (13, .putfield 173, 3), (16, .iconst 1, 1), (17, .ireturn, 1)]
set_option maxRecDepth 100000 in
theorem tkX12_seed : ∀ q ∈ tX12_seed, decode cX12_seed q.1 = .ok q.2 := by decide +kernel
theorem vmX12_seed : zVM yX12_seed cX12_seed 2 (Option.some .boolean) 1 12 := ⟨kX12_seed, q_2207, q_2208, q_160, ⟨_, rfl, rfl⟩, by decide +kernel, by decide⟩
def X12_seed (v0 : Nat) (v1 : Int32) : zM := z_if (0 ≤ v1) (z_pl 12 77 v0 v1.toInt64 (z_rb 1))
   (z_rc 12 v0 (z_ci (X12_isRefused v0 5) fun y1 => z_rb y1))
set_option maxHeartbeats 2000000 in
set_option maxRecDepth 20000 in
theorem coX12_seed (l : Launch) (e : Nat) (he : 1 ≤ e) (v0 : Nat) (v1 : Int32) : zCo l (e + 1) 0 0 iX12_seed 0 [(0, .ref v0), (1, .int v1)] [] (X12_seed v0 v1) := by
  unfold X12_seed
  refine zco_p tkX12_seed 0 1 (pc' := 1) (L' := [(0, .ref v0), (1, .int v1)]) (S' := [.int v1]) rfl ?_
  refine zco_if_ge (tgt := 10) (zdk (cc := cX12_seed) (q := (1, .ifCond .ge 9, 3)) tkX12_seed 1 rfl) rfl ?_ ?_
  · refine zco_p tkX12_seed 6 3 (pc' := 13) (L' := [(0, .ref v0), (1, .int v1)]) (S' := [.long v1.toInt64, .ref v0]) rfl ?_
    refine zco_pl fl_12_173 rfl rfl (zdk (cc := cX12_seed) (q := (13, .putfield 173, 3)) tkX12_seed 9 rfl) ?_
    refine zco_p tkX12_seed 10 1 (pc' := 17) (L' := [(0, .ref v0), (1, .int v1)]) (S' := [.int 1]) rfl ?_
    exact zco_zret rfl rfl rfl (zdk (cc := cX12_seed) (q := (17, .ireturn, 1)) tkX12_seed 11 rfl)
  · refine zco_p tkX12_seed 2 2 (pc' := 6) (L' := [(0, .ref v0), (1, .int v1)]) (S' := [.int 5, .ref v0]) rfl ?_
    refine zco_Vi (rc := 0) (rs := 0) (mc := 0) (ms := 0) (As := [.int 5]) (S := []) vmX12_isRefused (mtX12_isRefused l e (by omega) v0 5) q_2210 rfl rfl (Nat.le_of_ble_eq_true rfl) (zdk (cc := cX12_seed) (q := (6, .invokevirtual 613, 3)) tkX12_seed 4 rfl) (fun y1 => ?_)
    exact zco_zret rfl rfl rfl (zdk (cc := cX12_seed) (q := (9, .ireturn, 1)) tkX12_seed 5 rfl)
theorem mtX12_seed (l : Launch) (d : Nat) (hd : 2 ≤ d) (v0 : Nat) (v1 : Int32) : zMet l d 0 0 yX12_seed cX12_seed 2 (Option.some .boolean) [.ref v0, .int v1] (X12_seed v0 v1) := by
  obtain ⟨e, rfl⟩ : ∃ e, d = e + 1 := ⟨d - 1, by omega⟩
  exact zmet_of (own := RX12) (ini := false) (by decide +kernel) rfl (fun _ => by contradiction) (Nat.le_of_ble_eq_true rfl) (coX12_seed l e (by omega) v0 v1)
abbrev iX12_drawOf : zI := (RX12, cX12_drawOf, 2, (Option.some .int), false)
def tX12_drawOf : List (Nat × Instr × Nat) := [(0, .aload_n 0, 1), (1, .ldc2_w 616, 3), (4, .aload_n 0, 1), (5, .getfield 173, 3), (8, .lmul, 1), (9, .ldc2_w 618, 3), (12, .ladd, 1), (13, .ldc2_w 620, 3), (16, .lrem, 1), (17, .putfield 173, 3), (20, .aload_n 0, 1), (21, .getfield 173, 3), (24, .ldc2_w 622, 3), (27, .ldiv, 1), (28, .iload_n 1, 1), (29, .i2l, 1), (30, .lrem, 1), (31, .l2i, 1), (32, .ireturn, 1)]
set_option maxRecDepth 100000 in
theorem tkX12_drawOf : ∀ q ∈ tX12_drawOf, decode cX12_drawOf q.1 = .ok q.2 := by decide +kernel
theorem vmX12_drawOf : zVM yX12_drawOf cX12_drawOf 2 (Option.some .int) 1 12 := ⟨kX12_drawOf, q_2220, q_132, q_160, ⟨_, rfl, rfl⟩, by decide +kernel, by decide⟩
def X12_drawOf (v0 : Nat) (v1 : Int32) : zM := z_gl 12 77 v0 fun x1 => z_ck (¬ 2147483648 = 0) (z_pl 12 77 v0 (((1103515245 * x1) + 12345) - ((1103515245 * x1) + 12345) / 2147483648 * 2147483648) (z_gl 12 77 v0 fun x2 => z_ck (¬ 64 = 0) (z_ck (¬ v1.toInt64 = 0) (z_ret (some (.int (((x2 / 64) - (x2 / 64) / v1.toInt64 * v1.toInt64 : Int64).toInt32)))))))
set_option maxHeartbeats 2000000 in
set_option maxRecDepth 20000 in
theorem coX12_drawOf (l : Launch) (e : Nat) (he : 0 ≤ e) (v0 : Nat) (v1 : Int32) : zCo l (e + 1) 0 0 iX12_drawOf 0 [(0, .ref v0), (1, .int v1)] [] (X12_drawOf v0 v1) := by
  unfold X12_drawOf
  refine zco_p tkX12_drawOf 0 1 (pc' := 1) (L' := [(0, .ref v0), (1, .int v1)]) (S' := [.ref v0]) rfl ?_
  refine zco_ldc2 q_2222 (zdk (cc := cX12_drawOf) (q := (1, .ldc2_w 616, 3)) tkX12_drawOf 1 rfl) ?_
  refine zco_p tkX12_drawOf 2 1 (pc' := 5) (L' := [(0, .ref v0), (1, .int v1)]) (S' := [.ref v0, .long 1103515245, .ref v0]) rfl ?_
  refine zco_gl fl_12_173 rfl (zdk (cc := cX12_drawOf) (q := (5, .getfield 173, 3)) tkX12_drawOf 3 rfl) (fun x1 => ?_)
  refine zco_p tkX12_drawOf 4 1 (pc' := 9) (L' := [(0, .ref v0), (1, .int v1)]) (S' := [.long (1103515245 * x1), .ref v0]) rfl ?_
  refine zco_ldc2 q_2223 (zdk (cc := cX12_drawOf) (q := (9, .ldc2_w 618, 3)) tkX12_drawOf 5 rfl) ?_
  refine zco_p tkX12_drawOf 6 1 (pc' := 13) (L' := [(0, .ref v0), (1, .int v1)]) (S' := [.long ((1103515245 * x1) + 12345), .ref v0]) rfl ?_
  refine zco_ldc2 q_2224 (zdk (cc := cX12_drawOf) (q := (13, .ldc2_w 620, 3)) tkX12_drawOf 7 rfl) ?_
  refine zco_lrem (zdk (cc := cX12_drawOf) (q := (16, .lrem, 1)) tkX12_drawOf 8 rfl) ?_
  refine zco_pl fl_12_173 rfl rfl (zdk (cc := cX12_drawOf) (q := (17, .putfield 173, 3)) tkX12_drawOf 9 rfl) ?_
  refine zco_p tkX12_drawOf 10 1 (pc' := 21) (L' := [(0, .ref v0), (1, .int v1)]) (S' := [.ref v0]) rfl ?_
  refine zco_gl fl_12_173 rfl (zdk (cc := cX12_drawOf) (q := (21, .getfield 173, 3)) tkX12_drawOf 11 rfl) (fun x2 => ?_)
  refine zco_ldc2 q_2225 (zdk (cc := cX12_drawOf) (q := (24, .ldc2_w 622, 3)) tkX12_drawOf 12 rfl) ?_
  refine zco_ldiv (zdk (cc := cX12_drawOf) (q := (27, .ldiv, 1)) tkX12_drawOf 13 rfl) ?_
  refine zco_p tkX12_drawOf 14 2 (pc' := 30) (L' := [(0, .ref v0), (1, .int v1)]) (S' := [.long v1.toInt64, .long (x2 / 64)]) rfl ?_
  refine zco_lrem (zdk (cc := cX12_drawOf) (q := (30, .lrem, 1)) tkX12_drawOf 16 rfl) ?_
  refine zco_p tkX12_drawOf 17 1 (pc' := 32) (L' := [(0, .ref v0), (1, .int v1)]) (S' := [.int (((x2 / 64) - (x2 / 64) / v1.toInt64 * v1.toInt64 : Int64).toInt32)]) rfl ?_
  exact zco_iret rfl rfl rfl (zdk (cc := cX12_drawOf) (q := (32, .ireturn, 1)) tkX12_drawOf 18 rfl)
theorem mtX12_drawOf (l : Launch) (d : Nat) (hd : 1 ≤ d) (v0 : Nat) (v1 : Int32) : zMet l d 0 0 yX12_drawOf cX12_drawOf 2 (Option.some .int) [.ref v0, .int v1] (X12_drawOf v0 v1) := by
  obtain ⟨e, rfl⟩ : ∃ e, d = e + 1 := ⟨d - 1, by omega⟩
  exact zmet_of (own := RX12) (ini := false) (by decide +kernel) rfl (fun _ => by contradiction) (Nat.le_of_ble_eq_true rfl) (coX12_drawOf l e (by omega) v0 v1)
abbrev iX12_chance : zI := (RX12, cX12_chance, 5, (Option.some .int), false)
def tX12_chance : List (Nat × Instr × Nat) := [(0, .aload_n 0, 1), (1, .iload_n 1, 1), (2, .iconst 1, 1), (3, .bipush 100, 2), (5, .invokevirtual 557, 3), (8, .ifCond .ne 9, 3), (11, .aload_n 0, 1), (12, .iconst 3, 1), (13, .invokevirtual 400, 3), (16, .ireturn, 1), (17, .aload_n 0, 1), (18, .invokevirtual 610, 3), (21, .iconst 0, 1), (22, .istore_n 2, 1), (23, .iconst 0, 1), (24, .istore_n 3, 1), (25, .iload_n 3, 1), (26, .iload_n 1, 1), (27, .if_icmp .ge 58, 3), (30, .iconst (-1), 1), (31, .istore 4, 2), (33, .aload_n 0, 1), (34, .bipush 100, 2), (36, .invokevirtual 624, 3), (39, .aload_n 0, 1), (40, .getfield 105, 3), (43, .bipush 10, 2), (45, .iaload, 1), (46, .if_icmp .ge 27, 3), (49, .aload_n 0, 1), (50, .invokevirtual 419, 3), (53, .ifCond .le 20, 3), (56, .aload_n 0, 1), (57, .aload_n 0, 1), (58, .aload_n 0, 1), (59, .invokevirtual 419, 3), (62, .invokevirtual 624, 3), (65, .invokevirtual 429, 3), (68, .istore 4, 2), (70, .iinc 2 1, 3), (73, .aload_n 0, 1), (74, .iload 4, 2), (76, .invokevirtual 527, 3), (79, .iinc 3 1, 3), (82, .goto (-57), 3), (85, .iload_n 2, 1), (86, .ireturn, 1)]
set_option maxRecDepth 100000 in
theorem tkX12_chance : ∀ q ∈ tX12_chance, decode cX12_chance q.1 = .ok q.2 := by decide +kernel
theorem vmX12_chance : zVM yX12_chance cX12_chance 5 (Option.some .int) 1 12 := ⟨kX12_chance, q_2215, q_2216, q_160, ⟨_, rfl, rfl⟩, by decide +kernel, by decide⟩
def X12_chance_J73 (r25 : Int32 × Int32 → zM) (v0 : Nat) (v1 : Int32) (v2 : Int32) (v3 : Int32) (v4 : Int32) : zM := z_rc 12 v0 (z_cv (X12_roundGoes v0 v4) (r25 (v2, v3 + 1)))
set_option maxHeartbeats 2000000 in
set_option maxRecDepth 20000 in
theorem coX12_chance_J73 (l : Launch) (e : Nat) (he : 8 ≤ e) (v0 : Nat) (v1 : Int32) (v2 : Int32) (v3 : Int32) (v4 : Int32) (r25 : Int32 × Int32 → zM) (hr25 : ∀ x : Int32 × Int32, zCo l (e + 1) 0 0 iX12_chance 25 [(0, .ref v0), (1, .int v1), (2, .int x.1), (3, .int x.2)] [] (r25 x)) : zCo l (e + 1) 0 0 iX12_chance 73 [(0, .ref v0), (1, .int v1), (2, .int v2), (3, .int v3), (4, .int v4)] [] (X12_chance_J73 r25 v0 v1 v2 v3 v4) := by
  unfold X12_chance_J73
  refine zco_p tkX12_chance 40 2 (pc' := 76) (L' := [(0, .ref v0), (1, .int v1), (2, .int v2), (3, .int v3), (4, .int v4)]) (S' := [.int v4, .ref v0]) rfl ?_
  refine zco_Vv (rc := 0) (rs := 0) (mc := 0) (ms := 0) (As := [.int v4]) (S := []) vmX12_roundGoes (mtX12_roundGoes l e (by omega) v0 v4) q_2082 rfl rfl (Nat.le_of_ble_eq_true rfl) (zdk (cc := cX12_chance) (q := (76, .invokevirtual 527, 3)) tkX12_chance 42 rfl) ?_
  refine zco_p tkX12_chance 43 2 (pc' := 25) (L' := [(3, .int (v3 + 1)), (0, .ref v0), (1, .int v1), (2, .int v2), (4, .int v4)]) (S' := []) rfl ?_
  exact zco_sub [1, 2, 3, 0] rfl (hr25 (v2, v3 + 1))
def X12_chance_B25 (v0 : Nat) (v1 : Int32) (r25 : Int32 × Int32 → zM) (v2 : Int32) (v3 : Int32) : zM := z_if (v1 ≤ v3) (z_ret (some (.int v2)))
   (z_rc 12 v0 (z_ci (X12_drawOf v0 100) fun y1 => z_gr 12 40 v0 fun x2 => z_la 20 x2 10 fun x3 => z_if (x3 ≤ y1) (X12_chance_J73 r25 v0 v1 v2 v3 ((-1)))
   (z_rc 12 v0 (z_ci (X12_peopleMany v0) fun y4 => z_if (y4 ≤ 0) (X12_chance_J73 r25 v0 v1 v2 v3 ((-1)))
   (z_rc 12 v0 (z_ci (X12_peopleMany v0) fun y5 => z_rc 12 v0 (z_ci (X12_drawOf v0 y5) fun y6 => z_rc 12 v0 (z_ci (X12_codeOf v0 y6) fun y7 => X12_chance_J73 r25 v0 v1 (v2 + 1) v3 y7))))))))
set_option maxHeartbeats 2000000 in
set_option maxRecDepth 20000 in
theorem coX12_chance_B25 (l : Launch) (e : Nat) (he : 8 ≤ e) (v0 : Nat) (v1 : Int32) (r25 : Int32 × Int32 → zM) (hr25 : ∀ x : Int32 × Int32, zCo l (e + 1) 0 0 iX12_chance 25 [(0, .ref v0), (1, .int v1), (2, .int x.1), (3, .int x.2)] [] (r25 x)) (v2 : Int32) (v3 : Int32) : zCo l (e + 1) 0 0 iX12_chance 25 [(0, .ref v0), (1, .int v1), (2, .int v2), (3, .int v3)] [] (X12_chance_B25 v0 v1 r25 v2 v3) := by
  unfold X12_chance_B25
  refine zco_p tkX12_chance 16 2 (pc' := 27) (L' := [(0, .ref v0), (1, .int v1), (2, .int v2), (3, .int v3)]) (S' := [.int v1, .int v3]) rfl ?_
  refine zco_icmp_ge (tgt := 85) (zdk (cc := cX12_chance) (q := (27, .if_icmp .ge 58, 3)) tkX12_chance 18 rfl) rfl ?_ ?_
  · refine zco_p tkX12_chance 45 1 (pc' := 86) (L' := [(0, .ref v0), (1, .int v1), (2, .int v2), (3, .int v3)]) (S' := [.int v2]) rfl ?_
    exact zco_iret rfl rfl rfl (zdk (cc := cX12_chance) (q := (86, .ireturn, 1)) tkX12_chance 46 rfl)
  · refine zco_p tkX12_chance 19 4 (pc' := 36) (L' := [(4, .int ((-1))), (0, .ref v0), (1, .int v1), (2, .int v2), (3, .int v3)]) (S' := [.int 100, .ref v0]) rfl ?_
    refine zco_Vi (rc := 0) (rs := 0) (mc := 0) (ms := 0) (As := [.int 100]) (S := []) vmX12_drawOf (mtX12_drawOf l e (by omega) v0 100) q_2218 rfl rfl (Nat.le_of_ble_eq_true rfl) (zdk (cc := cX12_chance) (q := (36, .invokevirtual 624, 3)) tkX12_chance 23 rfl) (fun y1 => ?_)
    refine zco_p tkX12_chance 24 1 (pc' := 40) (L' := [(4, .int ((-1))), (0, .ref v0), (1, .int v1), (2, .int v2), (3, .int v3)]) (S' := [.ref v0, .int y1]) rfl ?_
    refine zco_gr fl_12_105 rfl (zdk (cc := cX12_chance) (q := (40, .getfield 105, 3)) tkX12_chance 25 rfl) (fun x2 => ?_)
    refine zco_p tkX12_chance 26 1 (pc' := 45) (L' := [(4, .int ((-1))), (0, .ref v0), (1, .int v1), (2, .int v2), (3, .int v3)]) (S' := [.int 10, .ref x2, .int y1]) rfl ?_
    refine zco_iaload (zdk (cc := cX12_chance) (q := (45, .iaload, 1)) tkX12_chance 27 rfl) (fun x3 => ?_)
    refine zco_icmp_ge (tgt := 73) (zdk (cc := cX12_chance) (q := (46, .if_icmp .ge 27, 3)) tkX12_chance 28 rfl) rfl ?_ ?_
    · exact zco_sub [1, 2, 3, 4, 0] rfl (coX12_chance_J73 l e he v0 v1 v2 v3 ((-1)) r25 hr25)
    · refine zco_p tkX12_chance 29 1 (pc' := 50) (L' := [(4, .int ((-1))), (0, .ref v0), (1, .int v1), (2, .int v2), (3, .int v3)]) (S' := [.ref v0]) rfl ?_
      refine zco_Vi (rc := 0) (rs := 0) (mc := 0) (ms := 0) (As := []) (S := []) vmX12_peopleMany (mtX12_peopleMany l e (by omega) v0) q_1938 rfl rfl (Nat.le_of_ble_eq_true rfl) (zdk (cc := cX12_chance) (q := (50, .invokevirtual 419, 3)) tkX12_chance 30 rfl) (fun y4 => ?_)
      refine zco_if_le (tgt := 73) (zdk (cc := cX12_chance) (q := (53, .ifCond .le 20, 3)) tkX12_chance 31 rfl) rfl ?_ ?_
      · exact zco_sub [1, 2, 3, 4, 0] rfl (coX12_chance_J73 l e he v0 v1 v2 v3 ((-1)) r25 hr25)
      · refine zco_p tkX12_chance 32 3 (pc' := 59) (L' := [(4, .int ((-1))), (0, .ref v0), (1, .int v1), (2, .int v2), (3, .int v3)]) (S' := [.ref v0, .ref v0, .ref v0]) rfl ?_
        refine zco_Vi (rc := 0) (rs := 0) (mc := 0) (ms := 0) (As := []) (S := [.ref v0, .ref v0]) vmX12_peopleMany (mtX12_peopleMany l e (by omega) v0) q_1938 rfl rfl (Nat.le_of_ble_eq_true rfl) (zdk (cc := cX12_chance) (q := (59, .invokevirtual 419, 3)) tkX12_chance 35 rfl) (fun y5 => ?_)
        refine zco_Vi (rc := 0) (rs := 0) (mc := 0) (ms := 0) (As := [.int y5]) (S := [.ref v0]) vmX12_drawOf (mtX12_drawOf l e (by omega) v0 y5) q_2218 rfl rfl (Nat.le_of_ble_eq_true rfl) (zdk (cc := cX12_chance) (q := (62, .invokevirtual 624, 3)) tkX12_chance 36 rfl) (fun y6 => ?_)
        refine zco_Vi (rc := 0) (rs := 0) (mc := 0) (ms := 0) (As := [.int y6]) (S := []) vmX12_codeOf (mtX12_codeOf l e (by omega) v0 y6) q_1946 rfl rfl (Nat.le_of_ble_eq_true rfl) (zdk (cc := cX12_chance) (q := (65, .invokevirtual 429, 3)) tkX12_chance 37 rfl) (fun y7 => ?_)
        refine zco_p tkX12_chance 38 2 (pc' := 73) (L' := [(2, .int (v2 + 1)), (4, .int y7), (0, .ref v0), (1, .int v1), (3, .int v3)]) (S' := []) rfl ?_
        exact zco_sub [2, 3, 0, 4, 1] rfl (coX12_chance_J73 l e he v0 v1 (v2 + 1) v3 y7 r25 hr25)
def X12_chance (v0 : Nat) (v1 : Int32) : zM := z_rc 12 v0 (z_ci (X12_isAhead v0 v1 1 100) fun y1 => z_if (y1 = 0) (z_rc 12 v0 (z_ci (X12_refuses v0 3) fun y2 => z_ret (some (.int y2))))
   (z_rc 12 v0 (z_cv (X12_keeps v0) (z_fix (fun r x => X12_chance_B25 v0 v1 r x.1 x.2) zFU (0, 0)))))
set_option maxHeartbeats 2000000 in
set_option maxRecDepth 20000 in
theorem coX12_chance (l : Launch) (e : Nat) (he : 8 ≤ e) (v0 : Nat) (v1 : Int32) : zCo l (e + 1) 0 0 iX12_chance 0 [(0, .ref v0), (1, .int v1)] [] (X12_chance v0 v1) := by
  unfold X12_chance
  refine zco_p tkX12_chance 0 4 (pc' := 5) (L' := [(0, .ref v0), (1, .int v1)]) (S' := [.int 100, .int 1, .int v1, .ref v0]) rfl ?_
  refine zco_Vi (rc := 0) (rs := 0) (mc := 0) (ms := 0) (As := [.int v1, .int 1, .int 100]) (S := []) vmX12_isAhead (mtX12_isAhead l e (by omega) v0 v1 1 100) q_2070 rfl rfl (Nat.le_of_ble_eq_true rfl) (zdk (cc := cX12_chance) (q := (5, .invokevirtual 557, 3)) tkX12_chance 4 rfl) (fun y1 => ?_)
  refine zco_if_ne (tgt := 17) (zdk (cc := cX12_chance) (q := (8, .ifCond .ne 9, 3)) tkX12_chance 5 rfl) rfl ?_ ?_
  · refine zco_p tkX12_chance 10 1 (pc' := 18) (L' := [(0, .ref v0), (1, .int v1)]) (S' := [.ref v0]) rfl ?_
    refine zco_Vv (rc := 0) (rs := 0) (mc := 0) (ms := 0) (As := []) (S := []) vmX12_keeps (mtX12_keeps l e (by omega) v0) q_2202 rfl rfl (Nat.le_of_ble_eq_true rfl) (zdk (cc := cX12_chance) (q := (18, .invokevirtual 610, 3)) tkX12_chance 11 rfl) ?_
    refine zco_p tkX12_chance 12 4 (pc' := 25) (L' := [(3, .int 0), (2, .int 0), (0, .ref v0), (1, .int v1)]) (S' := []) rfl ?_
    exact zco_sub [2, 3, 1, 0] rfl (zco_fix (Lf := fun x : Int32 × Int32 => [(0, .ref v0), (1, .int v1), (2, .int x.1), (3, .int x.2)]) (Sf := fun _ => []) (fun r hr x => coX12_chance_B25 l e he v0 v1 r hr x.1 x.2) zFU (0, 0))
  · refine zco_p tkX12_chance 6 2 (pc' := 13) (L' := [(0, .ref v0), (1, .int v1)]) (S' := [.int 3, .ref v0]) rfl ?_
    refine zco_Vi (rc := 0) (rs := 0) (mc := 0) (ms := 0) (As := [.int 3]) (S := []) vmX12_refuses (mtX12_refuses l e (by omega) v0 3) q_1906 rfl rfl (Nat.le_of_ble_eq_true rfl) (zdk (cc := cX12_chance) (q := (13, .invokevirtual 400, 3)) tkX12_chance 8 rfl) (fun y2 => ?_)
    exact zco_iret rfl rfl rfl (zdk (cc := cX12_chance) (q := (16, .ireturn, 1)) tkX12_chance 9 rfl)
theorem mtX12_chance (l : Launch) (d : Nat) (hd : 9 ≤ d) (v0 : Nat) (v1 : Int32) : zMet l d 0 0 yX12_chance cX12_chance 5 (Option.some .int) [.ref v0, .int v1] (X12_chance v0 v1) := by
  obtain ⟨e, rfl⟩ : ∃ e, d = e + 1 := ⟨d - 1, by omega⟩
  exact zmet_of (own := RX12) (ini := false) (by decide +kernel) rfl (fun _ => by contradiction) (Nat.le_of_ble_eq_true rfl) (coX12_chance l e (by omega) v0 v1)
abbrev iX12_part : zI := (RX12, cX12_part, 4, (Option.some .boolean), false)
def tX12_part : List (Nat × Instr × Nat) := [(0, .aload_n 0, 1), (1, .iload_n 1, 1), (2, .i2l, 1), (3, .invokevirtual 422, 3), (6, .ifCond .eq 12, 3), (9, .aload_n 0, 1), (10, .iload_n 1, 1), (11, .invokevirtual 521, 3), (14, .iconst (-1), 1), (15, .if_icmp .ne 9, 3), (18, .aload_n 0, 1), (19, .iconst 2, 1), (20, .invokevirtual 613, 3), (23, .ireturn, 1), (24, .aload_n 0, 1), (25, .invokevirtual 610, 3), (28, .aload_n 0, 1), (29, .iload_n 1, 1), (30, .invokevirtual 429, 3), (33, .istore_n 2, 1), (34, .aload_n 0, 1), (35, .getfield 134, 3), (38, .bipush 14, 2), (40, .iload_n 2, 1), (41, .iadd, 1), (42, .iaload, 1), (43, .istore_n 3, 1), (44, .aload_n 0, 1), (45, .getfield 134, 3), (48, .bipush 14, 2), (50, .iload_n 2, 1), (51, .iadd, 1), (52, .iconst (-1), 1), (53, .iastore, 1), (54, .aload_n 0, 1), (55, .getfield 134, 3), (58, .bipush 14, 2), (60, .iload_n 3, 1), (61, .iadd, 1), (62, .iconst (-1), 1), (63, .iastore, 1), (64, .aload_n 0, 1), (65, .getfield 134, 3), (68, .bipush 26, 2), (70, .iload_n 2, 1), (71, .iadd, 1), (72, .iconst 0, 1), (73, .iastore, 1), (74, .aload_n 0, 1), (75, .getfield 134, 3), (78, .bipush 26, 2), (80, .iload_n 3, 1), (81, .iadd, 1), (82, .iconst 0, 1), (83, .iastore, 1), (84, .iconst 1, 1), (85, .ireturn, 1)]
set_option maxRecDepth 100000 in
theorem tkX12_part : ∀ q ∈ tX12_part, decode cX12_part q.1 = .ok q.2 := by decide +kernel
theorem vmX12_part : zVM yX12_part cX12_part 4 (Option.some .boolean) 1 12 := ⟨kX12_part, q_2227, q_2228, q_160, ⟨_, rfl, rfl⟩, by decide +kernel, by decide⟩
def X12_part_J18 (v0 : Nat) : zM := z_rc 12 v0 (z_ci (X12_isRefused v0 2) fun y1 => z_rb y1)
set_option maxHeartbeats 2000000 in
set_option maxRecDepth 20000 in
theorem coX12_part_J18 (l : Launch) (e : Nat) (he : 3 ≤ e) (v0 : Nat) : zCo l (e + 1) 0 0 iX12_part 18 [(0, .ref v0)] [] (X12_part_J18 v0) := by
  unfold X12_part_J18
  refine zco_p tkX12_part 10 2 (pc' := 20) (L' := [(0, .ref v0)]) (S' := [.int 2, .ref v0]) rfl ?_
  refine zco_Vi (rc := 0) (rs := 0) (mc := 0) (ms := 0) (As := [.int 2]) (S := []) vmX12_isRefused (mtX12_isRefused l e (by omega) v0 2) q_2210 rfl rfl (Nat.le_of_ble_eq_true rfl) (zdk (cc := cX12_part) (q := (20, .invokevirtual 613, 3)) tkX12_part 12 rfl) (fun y1 => ?_)
  exact zco_zret rfl rfl rfl (zdk (cc := cX12_part) (q := (23, .ireturn, 1)) tkX12_part 13 rfl)
def X12_part (v0 : Nat) (v1 : Int32) : zM := z_rc 12 v0 (z_ci (X12_isPerson v0 v1.toInt64) fun y1 => z_if (y1 = 0) (X12_part_J18 v0)
   (z_rc 12 v0 (z_ci (X12_wedTo v0 v1) fun y2 => z_if (y2 = ((-1))) (X12_part_J18 v0)
   (z_rc 12 v0 (z_cv (X12_keeps v0) (z_rc 12 v0 (z_ci (X12_codeOf v0 v1) fun y3 => z_gr 12 52 v0 fun x4 => z_la 20 x4 (14 + y3) fun x5 => z_gr 12 52 v0 fun x6 => z_sa 20 x6 (14 + y3) ((-1)) (z_gr 12 52 v0 fun x7 => z_sa 20 x7 (14 + x5) ((-1)) (z_gr 12 52 v0 fun x8 => z_sa 20 x8 (26 + y3) 0 (z_gr 12 52 v0 fun x9 => z_sa 20 x9 (26 + x5) 0 (z_rb 1)))))))))))
set_option maxHeartbeats 2000000 in
set_option maxRecDepth 20000 in
theorem coX12_part (l : Launch) (e : Nat) (he : 3 ≤ e) (v0 : Nat) (v1 : Int32) : zCo l (e + 1) 0 0 iX12_part 0 [(0, .ref v0), (1, .int v1)] [] (X12_part v0 v1) := by
  unfold X12_part
  refine zco_p tkX12_part 0 3 (pc' := 3) (L' := [(0, .ref v0), (1, .int v1)]) (S' := [.long v1.toInt64, .ref v0]) rfl ?_
  refine zco_Vi (rc := 0) (rs := 0) (mc := 0) (ms := 0) (As := [.long v1.toInt64]) (S := []) vmX12_isPerson (mtX12_isPerson l e (by omega) v0 v1.toInt64) q_1934 rfl rfl (Nat.le_of_ble_eq_true rfl) (zdk (cc := cX12_part) (q := (3, .invokevirtual 422, 3)) tkX12_part 3 rfl) (fun y1 => ?_)
  refine zco_if_eq (tgt := 18) (zdk (cc := cX12_part) (q := (6, .ifCond .eq 12, 3)) tkX12_part 4 rfl) rfl ?_ ?_
  · exact zco_sub [0] rfl (coX12_part_J18 l e he v0)
  · refine zco_p tkX12_part 5 2 (pc' := 11) (L' := [(0, .ref v0), (1, .int v1)]) (S' := [.int v1, .ref v0]) rfl ?_
    refine zco_Vi (rc := 0) (rs := 0) (mc := 0) (ms := 0) (As := [.int v1]) (S := []) vmX12_wedTo (mtX12_wedTo l e (by omega) v0 v1) q_1966 rfl rfl (Nat.le_of_ble_eq_true rfl) (zdk (cc := cX12_part) (q := (11, .invokevirtual 521, 3)) tkX12_part 7 rfl) (fun y2 => ?_)
    refine zco_p tkX12_part 8 1 (pc' := 15) (L' := [(0, .ref v0), (1, .int v1)]) (S' := [.int ((-1)), .int y2]) rfl ?_
    refine zco_icmp_ne (tgt := 24) (zdk (cc := cX12_part) (q := (15, .if_icmp .ne 9, 3)) tkX12_part 9 rfl) rfl ?_ ?_
    · refine zco_p tkX12_part 14 1 (pc' := 25) (L' := [(0, .ref v0), (1, .int v1)]) (S' := [.ref v0]) rfl ?_
      refine zco_Vv (rc := 0) (rs := 0) (mc := 0) (ms := 0) (As := []) (S := []) vmX12_keeps (mtX12_keeps l e (by omega) v0) q_2202 rfl rfl (Nat.le_of_ble_eq_true rfl) (zdk (cc := cX12_part) (q := (25, .invokevirtual 610, 3)) tkX12_part 15 rfl) ?_
      refine zco_p tkX12_part 16 2 (pc' := 30) (L' := [(0, .ref v0), (1, .int v1)]) (S' := [.int v1, .ref v0]) rfl ?_
      refine zco_Vi (rc := 0) (rs := 0) (mc := 0) (ms := 0) (As := [.int v1]) (S := []) vmX12_codeOf (mtX12_codeOf l e (by omega) v0 v1) q_1946 rfl rfl (Nat.le_of_ble_eq_true rfl) (zdk (cc := cX12_part) (q := (30, .invokevirtual 429, 3)) tkX12_part 18 rfl) (fun y3 => ?_)
      refine zco_p tkX12_part 19 2 (pc' := 35) (L' := [(2, .int y3), (0, .ref v0), (1, .int v1)]) (S' := [.ref v0]) rfl ?_
      refine zco_gr fl_12_134 rfl (zdk (cc := cX12_part) (q := (35, .getfield 134, 3)) tkX12_part 21 rfl) (fun x4 => ?_)
      refine zco_p tkX12_part 22 3 (pc' := 42) (L' := [(2, .int y3), (0, .ref v0), (1, .int v1)]) (S' := [.int (14 + y3), .ref x4]) rfl ?_
      refine zco_iaload (zdk (cc := cX12_part) (q := (42, .iaload, 1)) tkX12_part 25 rfl) (fun x5 => ?_)
      refine zco_p tkX12_part 26 2 (pc' := 45) (L' := [(3, .int x5), (2, .int y3), (0, .ref v0), (1, .int v1)]) (S' := [.ref v0]) rfl ?_
      refine zco_gr fl_12_134 rfl (zdk (cc := cX12_part) (q := (45, .getfield 134, 3)) tkX12_part 28 rfl) (fun x6 => ?_)
      refine zco_p tkX12_part 29 4 (pc' := 53) (L' := [(3, .int x5), (2, .int y3), (0, .ref v0), (1, .int v1)]) (S' := [.int ((-1)), .int (14 + y3), .ref x6]) rfl ?_
      refine zco_iastore (zdk (cc := cX12_part) (q := (53, .iastore, 1)) tkX12_part 33 rfl) ?_
      refine zco_p tkX12_part 34 1 (pc' := 55) (L' := [(3, .int x5), (2, .int y3), (0, .ref v0), (1, .int v1)]) (S' := [.ref v0]) rfl ?_
      refine zco_gr fl_12_134 rfl (zdk (cc := cX12_part) (q := (55, .getfield 134, 3)) tkX12_part 35 rfl) (fun x7 => ?_)
      refine zco_p tkX12_part 36 4 (pc' := 63) (L' := [(3, .int x5), (2, .int y3), (0, .ref v0), (1, .int v1)]) (S' := [.int ((-1)), .int (14 + x5), .ref x7]) rfl ?_
      refine zco_iastore (zdk (cc := cX12_part) (q := (63, .iastore, 1)) tkX12_part 40 rfl) ?_
      refine zco_p tkX12_part 41 1 (pc' := 65) (L' := [(3, .int x5), (2, .int y3), (0, .ref v0), (1, .int v1)]) (S' := [.ref v0]) rfl ?_
      refine zco_gr fl_12_134 rfl (zdk (cc := cX12_part) (q := (65, .getfield 134, 3)) tkX12_part 42 rfl) (fun x8 => ?_)
      refine zco_p tkX12_part 43 4 (pc' := 73) (L' := [(3, .int x5), (2, .int y3), (0, .ref v0), (1, .int v1)]) (S' := [.int 0, .int (26 + y3), .ref x8]) rfl ?_
      refine zco_iastore (zdk (cc := cX12_part) (q := (73, .iastore, 1)) tkX12_part 47 rfl) ?_
      refine zco_p tkX12_part 48 1 (pc' := 75) (L' := [(3, .int x5), (2, .int y3), (0, .ref v0), (1, .int v1)]) (S' := [.ref v0]) rfl ?_
      refine zco_gr fl_12_134 rfl (zdk (cc := cX12_part) (q := (75, .getfield 134, 3)) tkX12_part 49 rfl) (fun x9 => ?_)
      refine zco_p tkX12_part 50 4 (pc' := 83) (L' := [(3, .int x5), (2, .int y3), (0, .ref v0), (1, .int v1)]) (S' := [.int 0, .int (26 + x5), .ref x9]) rfl ?_
      refine zco_iastore (zdk (cc := cX12_part) (q := (83, .iastore, 1)) tkX12_part 54 rfl) ?_
      refine zco_p tkX12_part 55 1 (pc' := 85) (L' := [(3, .int x5), (2, .int y3), (0, .ref v0), (1, .int v1)]) (S' := [.int 1]) rfl ?_
      exact zco_zret rfl rfl rfl (zdk (cc := cX12_part) (q := (85, .ireturn, 1)) tkX12_part 56 rfl)
    · exact zco_sub [0] rfl (coX12_part_J18 l e he v0)
theorem mtX12_part (l : Launch) (d : Nat) (hd : 4 ≤ d) (v0 : Nat) (v1 : Int32) : zMet l d 0 0 yX12_part cX12_part 4 (Option.some .boolean) [.ref v0, .int v1] (X12_part v0 v1) := by
  obtain ⟨e, rfl⟩ : ∃ e, d = e + 1 := ⟨d - 1, by omega⟩
  exact zmet_of (own := RX12) (ini := false) (by decide +kernel) rfl (fun _ => by contradiction) (Nat.le_of_ble_eq_true rfl) (coX12_part l e (by omega) v0 v1)
abbrev iX12_isChanged : zI := (RX12, cX12_isChanged, 4, (Option.some .boolean), false)
def tX12_isChanged : List (Nat × Instr × Nat) := [(0, .iload_n 1, 1), (1, .ifCond .eq 13, 3), (4, .aload_n 0, 1), (5, .getfield 134, 3), (8, .iload_n 2, 1), (9, .iaload, 1), (10, .iload_n 3, 1), (11, .if_icmp .ne 9, 3), (14, .aload_n 0, 1), (15, .iconst 2, 1), (16, .invokevirtual 613, 3), (19, .ireturn, 1), (20, .aload_n 0, 1), (21, .invokevirtual 610, 3), (24, .aload_n 0, 1), (25, .getfield 134, 3), (28, .iload_n 2, 1), (29, .iload_n 3, 1), (30, .iastore, 1), (31, .iconst 1, 1), (32, .ireturn, 1)]
set_option maxRecDepth 100000 in
theorem tkX12_isChanged : ∀ q ∈ tX12_isChanged, decode cX12_isChanged q.1 = .ok q.2 := by decide +kernel
theorem vmX12_isChanged : zVM yX12_isChanged cX12_isChanged 4 (Option.some .boolean) 3 12 := ⟨kX12_isChanged, q_2237, q_133, q_160, ⟨_, rfl, rfl⟩, by decide +kernel, by decide⟩
def X12_isChanged_J14 (v0 : Nat) : zM := z_rc 12 v0 (z_ci (X12_isRefused v0 2) fun y1 => z_rb y1)
set_option maxHeartbeats 2000000 in
set_option maxRecDepth 20000 in
theorem coX12_isChanged_J14 (l : Launch) (e : Nat) (he : 1 ≤ e) (v0 : Nat) : zCo l (e + 1) 0 0 iX12_isChanged 14 [(0, .ref v0)] [] (X12_isChanged_J14 v0) := by
  unfold X12_isChanged_J14
  refine zco_p tkX12_isChanged 8 2 (pc' := 16) (L' := [(0, .ref v0)]) (S' := [.int 2, .ref v0]) rfl ?_
  refine zco_Vi (rc := 0) (rs := 0) (mc := 0) (ms := 0) (As := [.int 2]) (S := []) vmX12_isRefused (mtX12_isRefused l e (by omega) v0 2) q_2210 rfl rfl (Nat.le_of_ble_eq_true rfl) (zdk (cc := cX12_isChanged) (q := (16, .invokevirtual 613, 3)) tkX12_isChanged 10 rfl) (fun y1 => ?_)
  exact zco_zret rfl rfl rfl (zdk (cc := cX12_isChanged) (q := (19, .ireturn, 1)) tkX12_isChanged 11 rfl)
def X12_isChanged (v0 : Nat) (v1 : Int32) (v2 : Int32) (v3 : Int32) : zM := z_if (v1 = 0) (X12_isChanged_J14 v0)
   (z_gr 12 52 v0 fun x1 => z_la 20 x1 v2 fun x2 => z_if (x2 = v3) (X12_isChanged_J14 v0)
   (z_rc 12 v0 (z_cv (X12_keeps v0) (z_gr 12 52 v0 fun x3 => z_sa 20 x3 v2 v3 (z_rb 1)))))
set_option maxHeartbeats 2000000 in
set_option maxRecDepth 20000 in
theorem coX12_isChanged (l : Launch) (e : Nat) (he : 1 ≤ e) (v0 : Nat) (v1 : Int32) (v2 : Int32) (v3 : Int32) : zCo l (e + 1) 0 0 iX12_isChanged 0 [(0, .ref v0), (1, .int v1), (2, .int v2), (3, .int v3)] [] (X12_isChanged v0 v1 v2 v3) := by
  unfold X12_isChanged
  refine zco_p tkX12_isChanged 0 1 (pc' := 1) (L' := [(0, .ref v0), (1, .int v1), (2, .int v2), (3, .int v3)]) (S' := [.int v1]) rfl ?_
  refine zco_if_eq (tgt := 14) (zdk (cc := cX12_isChanged) (q := (1, .ifCond .eq 13, 3)) tkX12_isChanged 1 rfl) rfl ?_ ?_
  · exact zco_sub [0] rfl (coX12_isChanged_J14 l e he v0)
  · refine zco_p tkX12_isChanged 2 1 (pc' := 5) (L' := [(0, .ref v0), (1, .int v1), (2, .int v2), (3, .int v3)]) (S' := [.ref v0]) rfl ?_
    refine zco_gr fl_12_134 rfl (zdk (cc := cX12_isChanged) (q := (5, .getfield 134, 3)) tkX12_isChanged 3 rfl) (fun x1 => ?_)
    refine zco_p tkX12_isChanged 4 1 (pc' := 9) (L' := [(0, .ref v0), (1, .int v1), (2, .int v2), (3, .int v3)]) (S' := [.int v2, .ref x1]) rfl ?_
    refine zco_iaload (zdk (cc := cX12_isChanged) (q := (9, .iaload, 1)) tkX12_isChanged 5 rfl) (fun x2 => ?_)
    refine zco_p tkX12_isChanged 6 1 (pc' := 11) (L' := [(0, .ref v0), (1, .int v1), (2, .int v2), (3, .int v3)]) (S' := [.int v3, .int x2]) rfl ?_
    refine zco_icmp_ne (tgt := 20) (zdk (cc := cX12_isChanged) (q := (11, .if_icmp .ne 9, 3)) tkX12_isChanged 7 rfl) rfl ?_ ?_
    · refine zco_p tkX12_isChanged 12 1 (pc' := 21) (L' := [(0, .ref v0), (1, .int v1), (2, .int v2), (3, .int v3)]) (S' := [.ref v0]) rfl ?_
      refine zco_Vv (rc := 0) (rs := 0) (mc := 0) (ms := 0) (As := []) (S := []) vmX12_keeps (mtX12_keeps l e (by omega) v0) q_2202 rfl rfl (Nat.le_of_ble_eq_true rfl) (zdk (cc := cX12_isChanged) (q := (21, .invokevirtual 610, 3)) tkX12_isChanged 13 rfl) ?_
      refine zco_p tkX12_isChanged 14 1 (pc' := 25) (L' := [(0, .ref v0), (1, .int v1), (2, .int v2), (3, .int v3)]) (S' := [.ref v0]) rfl ?_
      refine zco_gr fl_12_134 rfl (zdk (cc := cX12_isChanged) (q := (25, .getfield 134, 3)) tkX12_isChanged 15 rfl) (fun x3 => ?_)
      refine zco_p tkX12_isChanged 16 2 (pc' := 30) (L' := [(0, .ref v0), (1, .int v1), (2, .int v2), (3, .int v3)]) (S' := [.int v3, .int v2, .ref x3]) rfl ?_
      refine zco_iastore (zdk (cc := cX12_isChanged) (q := (30, .iastore, 1)) tkX12_isChanged 18 rfl) ?_
      refine zco_p tkX12_isChanged 19 1 (pc' := 32) (L' := [(0, .ref v0), (1, .int v1), (2, .int v2), (3, .int v3)]) (S' := [.int 1]) rfl ?_
      exact zco_zret rfl rfl rfl (zdk (cc := cX12_isChanged) (q := (32, .ireturn, 1)) tkX12_isChanged 20 rfl)
    · exact zco_sub [0] rfl (coX12_isChanged_J14 l e he v0)
theorem mtX12_isChanged (l : Launch) (d : Nat) (hd : 2 ≤ d) (v0 : Nat) (v1 : Int32) (v2 : Int32) (v3 : Int32) : zMet l d 0 0 yX12_isChanged cX12_isChanged 4 (Option.some .boolean) [.ref v0, .int v1, .int v2, .int v3] (X12_isChanged v0 v1 v2 v3) := by
  obtain ⟨e, rfl⟩ : ∃ e, d = e + 1 := ⟨d - 1, by omega⟩
  exact zmet_of (own := RX12) (ini := false) (by decide +kernel) rfl (fun _ => by contradiction) (Nat.le_of_ble_eq_true rfl) (coX12_isChanged l e (by omega) v0 v1 v2 v3)
abbrev iX12_learn : zI := (RX12, cX12_learn, 5, (Option.some .boolean), false)
def tX12_learn : List (Nat × Instr × Nat) := [(0, .aload_n 0, 1), (1, .iload_n 1, 1), (2, .i2l, 1), (3, .iload_n 2, 1), (4, .i2l, 1), (5, .invokevirtual 545, 3), (8, .ifCond .eq 19, 3), (11, .iload_n 3, 1), (12, .i2l, 1), (13, .lconst 0, 1), (14, .ldc2_w 627, 3), (17, .invokestatic 313, 3), (20, .ifCond .eq 7, 3), (23, .iconst 1, 1), (24, .goto 4, 3), (27, .iconst 0, 1), (28, .istore 4, 2), (30, .aload_n 0, 1), (31, .iload 4, 2), (33, .iload 4, 2), (35, .ifCond .eq 20, 3), (38, .aload_n 0, 1), (39, .aload_n 0, 1), (40, .iload_n 1, 1), (41, .invokevirtual 429, 3), (44, .aload_n 0, 1), (45, .iload_n 2, 1), (46, .invokevirtual 429, 3), (49, .invokevirtual 435, 3), (52, .goto 4, 3), (55, .iconst 0, 1), (56, .iload_n 3, 1), (57, .invokevirtual 629, 3), (60, .ireturn, 1)]
set_option maxRecDepth 100000 in
theorem tkX12_learn : ∀ q ∈ tX12_learn, decode cX12_learn q.1 = .ok q.2 := by decide +kernel
theorem vmX12_learn : zVM yX12_learn cX12_learn 5 (Option.some .boolean) 3 12 := ⟨kX12_learn, q_2231, q_2232, q_160, ⟨_, rfl, rfl⟩, by decide +kernel, by decide⟩
def X12_learn_J56 (v3 : Int32) (s0 : Int32) (s1 : Int32) (s2 : Nat) : zM := z_rc 12 s2 (z_ci (X12_isChanged s2 s1 s0 v3) fun y1 => z_rb y1)
set_option maxHeartbeats 2000000 in
set_option maxRecDepth 20000 in
theorem coX12_learn_J56 (l : Launch) (e : Nat) (he : 4 ≤ e) (v3 : Int32) (s0 : Int32) (s1 : Int32) (s2 : Nat) : zCo l (e + 1) 0 0 iX12_learn 56 [(3, .int v3)] [.int s0, .int s1, .ref s2] (X12_learn_J56 v3 s0 s1 s2) := by
  unfold X12_learn_J56
  refine zco_p tkX12_learn 31 1 (pc' := 57) (L' := [(3, .int v3)]) (S' := [.int v3, .int s0, .int s1, .ref s2]) rfl ?_
  refine zco_Vi (rc := 0) (rs := 0) (mc := 0) (ms := 0) (As := [.int s1, .int s0, .int v3]) (S := []) vmX12_isChanged (mtX12_isChanged l e (by omega) s2 s1 s0 v3) q_2235 rfl rfl (Nat.le_of_ble_eq_true rfl) (zdk (cc := cX12_learn) (q := (57, .invokevirtual 629, 3)) tkX12_learn 32 rfl) (fun y1 => ?_)
  exact zco_zret rfl rfl rfl (zdk (cc := cX12_learn) (q := (60, .ireturn, 1)) tkX12_learn 33 rfl)
def X12_learn_J28 (v0 : Nat) (v1 : Int32) (v2 : Int32) (v3 : Int32) (s0 : Int32) : zM := z_if (s0 = 0) (X12_learn_J56 v3 0 s0 v0)
   (z_rc 12 v0 (z_ci (X12_codeOf v0 v1) fun y1 => z_rc 12 v0 (z_ci (X12_codeOf v0 v2) fun y2 => z_rc 12 v0 (z_ci (X12_knowingAt v0 y1 y2) fun y3 => X12_learn_J56 v3 y3 s0 v0))))
set_option maxHeartbeats 2000000 in
set_option maxRecDepth 20000 in
theorem coX12_learn_J28 (l : Launch) (e : Nat) (he : 4 ≤ e) (v0 : Nat) (v1 : Int32) (v2 : Int32) (v3 : Int32) (s0 : Int32) : zCo l (e + 1) 0 0 iX12_learn 28 [(0, .ref v0), (1, .int v1), (2, .int v2), (3, .int v3)] [.int s0] (X12_learn_J28 v0 v1 v2 v3 s0) := by
  unfold X12_learn_J28
  refine zco_p tkX12_learn 16 4 (pc' := 35) (L' := [(4, .int s0), (0, .ref v0), (1, .int v1), (2, .int v2), (3, .int v3)]) (S' := [.int s0, .int s0, .ref v0]) rfl ?_
  refine zco_if_eq (tgt := 55) (zdk (cc := cX12_learn) (q := (35, .ifCond .eq 20, 3)) tkX12_learn 20 rfl) rfl ?_ ?_
  · refine zco_p tkX12_learn 30 1 (pc' := 56) (L' := [(4, .int s0), (0, .ref v0), (1, .int v1), (2, .int v2), (3, .int v3)]) (S' := [.int 0, .int s0, .ref v0]) rfl ?_
    exact zco_sub [4] rfl (coX12_learn_J56 l e he v3 0 s0 v0)
  · refine zco_p tkX12_learn 21 3 (pc' := 41) (L' := [(4, .int s0), (0, .ref v0), (1, .int v1), (2, .int v2), (3, .int v3)]) (S' := [.int v1, .ref v0, .ref v0, .int s0, .ref v0]) rfl ?_
    refine zco_Vi (rc := 0) (rs := 0) (mc := 0) (ms := 0) (As := [.int v1]) (S := [.ref v0, .int s0, .ref v0]) vmX12_codeOf (mtX12_codeOf l e (by omega) v0 v1) q_1946 rfl rfl (Nat.le_of_ble_eq_true rfl) (zdk (cc := cX12_learn) (q := (41, .invokevirtual 429, 3)) tkX12_learn 24 rfl) (fun y1 => ?_)
    refine zco_p tkX12_learn 25 2 (pc' := 46) (L' := [(4, .int s0), (0, .ref v0), (1, .int v1), (2, .int v2), (3, .int v3)]) (S' := [.int v2, .ref v0, .int y1, .ref v0, .int s0, .ref v0]) rfl ?_
    refine zco_Vi (rc := 0) (rs := 0) (mc := 0) (ms := 0) (As := [.int v2]) (S := [.int y1, .ref v0, .int s0, .ref v0]) vmX12_codeOf (mtX12_codeOf l e (by omega) v0 v2) q_1946 rfl rfl (Nat.le_of_ble_eq_true rfl) (zdk (cc := cX12_learn) (q := (46, .invokevirtual 429, 3)) tkX12_learn 27 rfl) (fun y2 => ?_)
    refine zco_Vi (rc := 0) (rs := 0) (mc := 0) (ms := 0) (As := [.int y1, .int y2]) (S := [.int s0, .ref v0]) vmX12_knowingAt (mtX12_knowingAt l e (by omega) v0 y1 y2) q_2010 rfl rfl (Nat.le_of_ble_eq_true rfl) (zdk (cc := cX12_learn) (q := (49, .invokevirtual 435, 3)) tkX12_learn 28 rfl) (fun y3 => ?_)
    refine zco_p tkX12_learn 29 1 (pc' := 56) (L' := [(4, .int s0), (0, .ref v0), (1, .int v1), (2, .int v2), (3, .int v3)]) (S' := [.int y3, .int s0, .ref v0]) rfl ?_
    exact zco_sub [4] rfl (coX12_learn_J56 l e he v3 y3 s0 v0)
def X12_learn_J27 (v0 : Nat) (v1 : Int32) (v2 : Int32) (v3 : Int32) : zM := X12_learn_J28 v0 v1 v2 v3 0
set_option maxHeartbeats 2000000 in
set_option maxRecDepth 20000 in
theorem coX12_learn_J27 (l : Launch) (e : Nat) (he : 4 ≤ e) (v0 : Nat) (v1 : Int32) (v2 : Int32) (v3 : Int32) : zCo l (e + 1) 0 0 iX12_learn 27 [(0, .ref v0), (1, .int v1), (2, .int v2), (3, .int v3)] [] (X12_learn_J27 v0 v1 v2 v3) := by
  unfold X12_learn_J27
  refine zco_p tkX12_learn 15 1 (pc' := 28) (L' := [(0, .ref v0), (1, .int v1), (2, .int v2), (3, .int v3)]) (S' := [.int 0]) rfl ?_
  exact zco_sub [0, 1, 2, 3] rfl (coX12_learn_J28 l e he v0 v1 v2 v3 0)
def X12_learn (v0 : Nat) (v1 : Int32) (v2 : Int32) (v3 : Int32) : zM := z_rc 12 v0 (z_ci (X12_areTwo v0 v1.toInt64 v2.toInt64) fun y1 => z_if (y1 = 0) (X12_learn_J27 v0 v1 v2 v3)
   (z_ci (X12_isIn v3.toInt64 0 9) fun y2 => z_if (y2 = 0) (X12_learn_J27 v0 v1 v2 v3)
   (X12_learn_J28 v0 v1 v2 v3 1)))
set_option maxHeartbeats 2000000 in
set_option maxRecDepth 20000 in
theorem coX12_learn (l : Launch) (e : Nat) (he : 4 ≤ e) (v0 : Nat) (v1 : Int32) (v2 : Int32) (v3 : Int32) : zCo l (e + 1) 0 0 iX12_learn 0 [(0, .ref v0), (1, .int v1), (2, .int v2), (3, .int v3)] [] (X12_learn v0 v1 v2 v3) := by
  unfold X12_learn
  refine zco_p tkX12_learn 0 5 (pc' := 5) (L' := [(0, .ref v0), (1, .int v1), (2, .int v2), (3, .int v3)]) (S' := [.long v2.toInt64, .long v1.toInt64, .ref v0]) rfl ?_
  refine zco_Vi (rc := 0) (rs := 0) (mc := 0) (ms := 0) (As := [.long v1.toInt64, .long v2.toInt64]) (S := []) vmX12_areTwo (mtX12_areTwo l e (by omega) v0 v1.toInt64 v2.toInt64) q_1990 rfl rfl (Nat.le_of_ble_eq_true rfl) (zdk (cc := cX12_learn) (q := (5, .invokevirtual 545, 3)) tkX12_learn 5 rfl) (fun y1 => ?_)
  refine zco_if_eq (tgt := 27) (zdk (cc := cX12_learn) (q := (8, .ifCond .eq 19, 3)) tkX12_learn 6 rfl) rfl ?_ ?_
  · exact zco_sub [0, 1, 2, 3] rfl (coX12_learn_J27 l e he v0 v1 v2 v3)
  · refine zco_p tkX12_learn 7 3 (pc' := 14) (L' := [(0, .ref v0), (1, .int v1), (2, .int v2), (3, .int v3)]) (S' := [.long 0, .long v3.toInt64]) rfl ?_
    refine zco_ldc2 q_2234 (zdk (cc := cX12_learn) (q := (14, .ldc2_w 627, 3)) tkX12_learn 10 rfl) ?_
    refine zco_Si (rc := 0) (rs := 0) (mc := 0) (ms := 0) (As := [.long v3.toInt64, .long 0, .long 9]) (S := []) vmX12_isIn (mtX12_isIn l e (by omega) v3.toInt64 0 9) q_1797 rfl rfl (Nat.le_of_ble_eq_true rfl) (zdk (cc := cX12_learn) (q := (17, .invokestatic 313, 3)) tkX12_learn 11 rfl) (fun y2 => ?_)
    refine zco_if_eq (tgt := 27) (zdk (cc := cX12_learn) (q := (20, .ifCond .eq 7, 3)) tkX12_learn 12 rfl) rfl ?_ ?_
    · exact zco_sub [0, 1, 2, 3] rfl (coX12_learn_J27 l e he v0 v1 v2 v3)
    · refine zco_p tkX12_learn 13 2 (pc' := 28) (L' := [(0, .ref v0), (1, .int v1), (2, .int v2), (3, .int v3)]) (S' := [.int 1]) rfl ?_
      exact zco_sub [0, 1, 2, 3] rfl (coX12_learn_J28 l e he v0 v1 v2 v3 1)
theorem mtX12_learn (l : Launch) (d : Nat) (hd : 5 ≤ d) (v0 : Nat) (v1 : Int32) (v2 : Int32) (v3 : Int32) : zMet l d 0 0 yX12_learn cX12_learn 5 (Option.some .boolean) [.ref v0, .int v1, .int v2, .int v3] (X12_learn v0 v1 v2 v3) := by
  obtain ⟨e, rfl⟩ : ∃ e, d = e + 1 := ⟨d - 1, by omega⟩
  exact zmet_of (own := RX12) (ini := false) (by decide +kernel) rfl (fun _ => by contradiction) (Nat.le_of_ble_eq_true rfl) (coX12_learn l e (by omega) v0 v1 v2 v3)
