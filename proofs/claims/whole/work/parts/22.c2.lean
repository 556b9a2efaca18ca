abbrev iX9_needSign : zI := (RX9, cX9_needSign, 2, (Option.none : Option FieldType), false)
def tX9_needSign : List (Nat × Instr × Nat) := [(0, .aload_n 0, 1), (1, .iload_n 1, 1), (2, .invokevirtual 40, 3), (5, .ifCond .ne 12, 3), (8, .aload_n 0, 1), (9, .iconst 1, 1), (10, .aload_n 0, 1), (11, .getfield 15, 3), (14, .invokevirtual 44, 3), (17, .return_, 1)]
set_option maxRecDepth 100000 in
theorem tkX9_needSign : ∀ q ∈ tX9_needSign, decode cX9_needSign q.1 = .ok q.2 := by decide +kernel
theorem vmX9_needSign : zVM yX9_needSign cX9_needSign 2 (Option.none : Option FieldType) 1 9 := ⟨kX9_needSign, q_855, q_856, q_148, ⟨_, rfl, rfl⟩, by decide +kernel, by decide⟩
def X9_needSign (v0 : Nat) (v1 : Int32) : zM := z_rc 9 v0 (z_ci (X9_takeSign v0 v1) fun y1 => z_if (y1 = 0) (z_gi 9 2 v0 fun x2 => z_rc 9 v0 (z_cv (X9_fail v0 1 x2) (z_ret none)))
   (z_ret none))
set_option maxHeartbeats 2000000 in
set_option maxRecDepth 20000 in
theorem coX9_needSign (l : Launch) (e : Nat) (he : 2 ≤ e) (v0 : Nat) (v1 : Int32) : zCo l (e + 1) 0 0 iX9_needSign 0 [(0, .ref v0), (1, .int v1)] [] (X9_needSign v0 v1) := by
  unfold X9_needSign
  refine zco_p tkX9_needSign 0 2 (pc' := 2) (L' := [(0, .ref v0), (1, .int v1)]) (S' := [.int v1, .ref v0]) rfl ?_
  refine zco_Vi (rc := 0) (rs := 0) (mc := 0) (ms := 0) (As := [.int v1]) (S := []) vmX9_takeSign (mtX9_takeSign l e (by omega) v0 v1) q_858 rfl rfl (Nat.le_of_ble_eq_true rfl) (zdk (cc := cX9_needSign) (q := (2, .invokevirtual 40, 3)) tkX9_needSign 2 rfl) (fun y1 => ?_)
  refine zco_if_ne (tgt := 17) (zdk (cc := cX9_needSign) (q := (5, .ifCond .ne 12, 3)) tkX9_needSign 3 rfl) rfl ?_ ?_
  · exact zco_vret rfl rfl rfl (zdk (cc := cX9_needSign) (q := (17, .return_, 1)) tkX9_needSign 9 rfl)
  · refine zco_p tkX9_needSign 4 3 (pc' := 11) (L' := [(0, .ref v0), (1, .int v1)]) (S' := [.ref v0, .int 1, .ref v0]) rfl ?_
    refine zco_gi fl_9_15 rfl (zdk (cc := cX9_needSign) (q := (11, .getfield 15, 3)) tkX9_needSign 7 rfl) (fun x2 => ?_)
    refine zco_Vv (rc := 0) (rs := 0) (mc := 0) (ms := 0) (As := [.int 1, .int x2]) (S := []) vmX9_fail (mtX9_fail l e (by omega) v0 1 x2) q_768 rfl rfl (Nat.le_of_ble_eq_true rfl) (zdk (cc := cX9_needSign) (q := (14, .invokevirtual 44, 3)) tkX9_needSign 8 rfl) ?_
    exact zco_vret rfl rfl rfl (zdk (cc := cX9_needSign) (q := (17, .return_, 1)) tkX9_needSign 9 rfl)
theorem mtX9_needSign (l : Launch) (d : Nat) (hd : 3 ≤ d) (v0 : Nat) (v1 : Int32) : zMet l d 0 0 yX9_needSign cX9_needSign 2 (Option.none : Option FieldType) [.ref v0, .int v1] (X9_needSign v0 v1) := by
  obtain ⟨e, rfl⟩ : ∃ e, d = e + 1 := ⟨d - 1, by omega⟩
  exact zmet_of (own := RX9) (ini := false) (by decide +kernel) rfl (fun _ => by contradiction) (Nat.le_of_ble_eq_true rfl) (coX9_needSign l e (by omega) v0 v1)
abbrev iX4_comparison : zI := (RX4, cX4_comparison, 1, (Option.some .int), false)
def tX4_comparison : List (Nat × Instr × Nat) := [(0, .aload_n 0, 1), (1, .getfield 25, 3), (4, .bipush 60, 2), (6, .invokevirtual 71, 3), (9, .ifCond .eq 7, 3), (12, .sipush 20007, 3), (15, .ireturn, 1), (16, .aload_n 0, 1), (17, .getfield 25, 3), (20, .bipush 62, 2), (22, .invokevirtual 71, 3), (25, .ifCond .eq 7, 3), (28, .sipush 20008, 3), (31, .ireturn, 1), (32, .aload_n 0, 1), (33, .getfield 25, 3), (36, .bipush 61, 2), (38, .invokevirtual 78, 3), (41, .sipush 20009, 3), (44, .ireturn, 1)]
set_option maxRecDepth 100000 in
theorem tkX4_comparison : ∀ q ∈ tX4_comparison, decode cX4_comparison q.1 = .ok q.2 := by decide +kernel
theorem vmX4_comparison : zVM yX4_comparison cX4_comparison 1 (Option.some .int) 0 4 := ⟨kX4_comparison, q_891, q_18, q_151, ⟨_, rfl, rfl⟩, by decide +kernel, by decide⟩
def X4_comparison (v0 : Nat) : zM := z_gr 4 0 v0 fun x1 => z_rc 9 x1 (z_ci (X9_takeSign x1 60) fun y2 => z_if (y2 = 0) (z_gr 4 0 v0 fun x3 => z_rc 9 x3 (z_ci (X9_takeSign x3 62) fun y4 => z_if (y4 = 0) (z_gr 4 0 v0 fun x5 => z_rc 9 x5 (z_cv (X9_needSign x5 61) (z_ret (some (.int 20009)))))
   (z_ret (some (.int 20008)))))
   (z_ret (some (.int 20007))))
set_option maxHeartbeats 2000000 in
set_option maxRecDepth 20000 in
theorem coX4_comparison (l : Launch) (e : Nat) (he : 3 ≤ e) (v0 : Nat) : zCo l (e + 1) 0 0 iX4_comparison 0 [(0, .ref v0)] [] (X4_comparison v0) := by
  unfold X4_comparison
  refine zco_p tkX4_comparison 0 1 (pc' := 1) (L' := [(0, .ref v0)]) (S' := [.ref v0]) rfl ?_
  refine zco_gr fl_4_25 rfl (zdk (cc := cX4_comparison) (q := (1, .getfield 25, 3)) tkX4_comparison 1 rfl) (fun x1 => ?_)
  refine zco_p tkX4_comparison 2 1 (pc' := 6) (L' := [(0, .ref v0)]) (S' := [.int 60, .ref x1]) rfl ?_
  refine zco_Vi (rc := 0) (rs := 0) (mc := 0) (ms := 0) (As := [.int 60]) (S := []) vmX9_takeSign (mtX9_takeSign l e (by omega) x1 60) q_849 rfl rfl (Nat.le_of_ble_eq_true rfl) (zdk (cc := cX4_comparison) (q := (6, .invokevirtual 71, 3)) tkX4_comparison 3 rfl) (fun y2 => ?_)
  refine zco_if_eq (tgt := 16) (zdk (cc := cX4_comparison) (q := (9, .ifCond .eq 7, 3)) tkX4_comparison 4 rfl) rfl ?_ ?_
  · refine zco_p tkX4_comparison 7 1 (pc' := 17) (L' := [(0, .ref v0)]) (S' := [.ref v0]) rfl ?_
    refine zco_gr fl_4_25 rfl (zdk (cc := cX4_comparison) (q := (17, .getfield 25, 3)) tkX4_comparison 8 rfl) (fun x3 => ?_)
    refine zco_p tkX4_comparison 9 1 (pc' := 22) (L' := [(0, .ref v0)]) (S' := [.int 62, .ref x3]) rfl ?_
    refine zco_Vi (rc := 0) (rs := 0) (mc := 0) (ms := 0) (As := [.int 62]) (S := []) vmX9_takeSign (mtX9_takeSign l e (by omega) x3 62) q_849 rfl rfl (Nat.le_of_ble_eq_true rfl) (zdk (cc := cX4_comparison) (q := (22, .invokevirtual 71, 3)) tkX4_comparison 10 rfl) (fun y4 => ?_)
    refine zco_if_eq (tgt := 32) (zdk (cc := cX4_comparison) (q := (25, .ifCond .eq 7, 3)) tkX4_comparison 11 rfl) rfl ?_ ?_
    · refine zco_p tkX4_comparison 14 1 (pc' := 33) (L' := [(0, .ref v0)]) (S' := [.ref v0]) rfl ?_
      refine zco_gr fl_4_25 rfl (zdk (cc := cX4_comparison) (q := (33, .getfield 25, 3)) tkX4_comparison 15 rfl) (fun x5 => ?_)
      refine zco_p tkX4_comparison 16 1 (pc' := 38) (L' := [(0, .ref v0)]) (S' := [.int 61, .ref x5]) rfl ?_
      refine zco_Vv (rc := 0) (rs := 0) (mc := 0) (ms := 0) (As := [.int 61]) (S := []) vmX9_needSign (mtX9_needSign l e (by omega) x5 61) q_854 rfl rfl (Nat.le_of_ble_eq_true rfl) (zdk (cc := cX4_comparison) (q := (38, .invokevirtual 78, 3)) tkX4_comparison 17 rfl) ?_
      refine zco_p tkX4_comparison 18 1 (pc' := 44) (L' := [(0, .ref v0)]) (S' := [.int 20009]) rfl ?_
      exact zco_iret rfl rfl rfl (zdk (cc := cX4_comparison) (q := (44, .ireturn, 1)) tkX4_comparison 19 rfl)
    · refine zco_p tkX4_comparison 12 1 (pc' := 31) (L' := [(0, .ref v0)]) (S' := [.int 20008]) rfl ?_
      exact zco_iret rfl rfl rfl (zdk (cc := cX4_comparison) (q := (31, .ireturn, 1)) tkX4_comparison 13 rfl)
  · refine zco_p tkX4_comparison 5 1 (pc' := 15) (L' := [(0, .ref v0)]) (S' := [.int 20007]) rfl ?_
    exact zco_iret rfl rfl rfl (zdk (cc := cX4_comparison) (q := (15, .ireturn, 1)) tkX4_comparison 6 rfl)
theorem mtX4_comparison (l : Launch) (d : Nat) (hd : 4 ≤ d) (v0 : Nat) : zMet l d 0 0 yX4_comparison cX4_comparison 1 (Option.some .int) [.ref v0] (X4_comparison v0) := by
  obtain ⟨e, rfl⟩ : ∃ e, d = e + 1 := ⟨d - 1, by omega⟩
  exact zmet_of (own := RX4) (ini := false) (by decide +kernel) rfl (fun _ => by contradiction) (Nat.le_of_ble_eq_true rfl) (coX4_comparison l e (by omega) v0)
