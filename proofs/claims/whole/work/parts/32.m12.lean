abbrev iX12_kinTold : zI := (RX12, cX12_kinTold, 4, (Option.none : Option FieldType), false)
def tX12_kinTold : List (Nat × Instr × Nat) := [(0, .aload_n 0, 1), (1, .iconst (-1), 1), (2, .invokevirtual 349, 3), (5, .istore_n 1, 1), (6, .aload_n 0, 1), (7, .iconst 1, 1), (8, .iload_n 1, 1), (9, .bipush 6, 2), (11, .idiv, 1), (12, .isub, 1), (13, .invokevirtual 349, 3), (16, .istore_n 2, 1), (17, .iload_n 1, 1), (18, .bipush 6, 2), (20, .if_icmp .ge 15, 3), (23, .bipush 6, 2), (25, .iload_n 1, 1), (26, .imul, 1), (27, .iload_n 2, 1), (28, .bipush 6, 2), (30, .irem, 1), (31, .iadd, 1), (32, .goto 12, 3), (35, .bipush 6, 2), (37, .iload_n 2, 1), (38, .imul, 1), (39, .iload_n 1, 1), (40, .bipush 6, 2), (42, .irem, 1), (43, .iadd, 1), (44, .istore_n 3, 1), (45, .aload_n 0, 1), (46, .getfield 270, 3), (49, .ifCond .ne 21, 3), (52, .aload_n 0, 1), (53, .getfield 115, 3), (56, .iload_n 3, 1), (57, .baload, 1), (58, .ifCond .eq 12, 3), (61, .aload_n 0, 1), (62, .iconst 3, 1), (63, .aload_n 0, 1), (64, .getfield 321, 3), (67, .invokevirtual 300, 3), (70, .aload_n 0, 1), (71, .getfield 270, 3), (74, .ifCond .eq 4, 3), (77, .return_, 1), (78, .aload_n 0, 1), (79, .getfield 115, 3), (82, .iload_n 3, 1), (83, .iconst 1, 1), (84, .bastore, 1), (85, .aload_n 0, 1), (86, .getfield 105, 3), (89, .iconst 2, 1), (90, .dup2, 1), (91, .iaload, 1), (92, .iconst 1, 1), (93, .iadd, 1), (94, .iastore, 1), (95, .return_, 1)]
set_option maxRecDepth 100000 in
theorem tkX12_kinTold : ∀ q ∈ tX12_kinTold, decode cX12_kinTold q.1 = .ok q.2 := by decide +kernel
theorem vmX12_kinTold : zVM yX12_kinTold cX12_kinTold 4 (Option.none : Option FieldType) 0 12 := ⟨kX12_kinTold, q_1802, q_55, q_160, ⟨_, rfl, rfl⟩, by decide +kernel, by decide⟩
def X12_kinTold_J70 (v0 : Nat) (v3 : Int32) : zM := z_gi 12 5 v0 fun x1 => z_if (x1 = 0) (z_gr 12 43 v0 fun x2 => z_sa 21 x2 v3 (vp_nar .boolean 1) (z_gr 12 40 v0 fun x3 => z_la 20 x3 2 fun x4 => z_sa 20 x3 2 (x4 + 1) (z_ret none)))
   (z_ret none)
set_option maxHeartbeats 2000000 in
set_option maxRecDepth 20000 in
theorem coX12_kinTold_J70 (l : Launch) (e : Nat) (he : 5 ≤ e) (v0 : Nat) (v3 : Int32) : zCo l (e + 1) 0 0 iX12_kinTold 70 [(0, .ref v0), (3, .int v3)] [] (X12_kinTold_J70 v0 v3) := by
  unfold X12_kinTold_J70
  refine zco_p tkX12_kinTold 44 1 (pc' := 71) (L' := [(0, .ref v0), (3, .int v3)]) (S' := [.ref v0]) rfl ?_
  refine zco_gi fl_12_270 rfl (zdk (cc := cX12_kinTold) (q := (71, .getfield 270, 3)) tkX12_kinTold 45 rfl) (fun x1 => ?_)
  refine zco_if_eq (tgt := 78) (zdk (cc := cX12_kinTold) (q := (74, .ifCond .eq 4, 3)) tkX12_kinTold 46 rfl) rfl ?_ ?_
  · refine zco_p tkX12_kinTold 48 1 (pc' := 79) (L' := [(0, .ref v0), (3, .int v3)]) (S' := [.ref v0]) rfl ?_
    refine zco_gr fl_12_115 rfl (zdk (cc := cX12_kinTold) (q := (79, .getfield 115, 3)) tkX12_kinTold 49 rfl) (fun x2 => ?_)
    refine zco_p tkX12_kinTold 50 2 (pc' := 84) (L' := [(0, .ref v0), (3, .int v3)]) (S' := [.int 1, .int v3, .ref x2]) rfl ?_
    refine zco_bastore (zdk (cc := cX12_kinTold) (q := (84, .bastore, 1)) tkX12_kinTold 52 rfl) ?_
    refine zco_p tkX12_kinTold 53 1 (pc' := 86) (L' := [(0, .ref v0), (3, .int v3)]) (S' := [.ref v0]) rfl ?_
    refine zco_gr fl_12_105 rfl (zdk (cc := cX12_kinTold) (q := (86, .getfield 105, 3)) tkX12_kinTold 54 rfl) (fun x3 => ?_)
    refine zco_p tkX12_kinTold 55 2 (pc' := 91) (L' := [(0, .ref v0), (3, .int v3)]) (S' := [.int 2, .ref x3, .int 2, .ref x3]) rfl ?_
    refine zco_iaload (zdk (cc := cX12_kinTold) (q := (91, .iaload, 1)) tkX12_kinTold 57 rfl) (fun x4 => ?_)
    refine zco_p tkX12_kinTold 58 2 (pc' := 94) (L' := [(0, .ref v0), (3, .int v3)]) (S' := [.int (x4 + 1), .int 2, .ref x3]) rfl ?_
    refine zco_iastore (zdk (cc := cX12_kinTold) (q := (94, .iastore, 1)) tkX12_kinTold 60 rfl) ?_
    exact zco_vret rfl rfl rfl (zdk (cc := cX12_kinTold) (q := (95, .return_, 1)) tkX12_kinTold 61 rfl)
  · exact zco_vret rfl rfl rfl (zdk (cc := cX12_kinTold) (q := (77, .return_, 1)) tkX12_kinTold 47 rfl)
def X12_kinTold_J44 (v0 : Nat) (s0 : Int32) : zM := z_gi 12 5 v0 fun x1 => z_if (x1 = 0) (z_gr 12 43 v0 fun x2 => z_la 21 x2 s0 fun x3 => z_if (x3 = 0) (X12_kinTold_J70 v0 s0)
   (z_gi 12 39 v0 fun x4 => z_rc 12 v0 (z_cv (X12_fail v0 3 x4) (X12_kinTold_J70 v0 s0))))
   (X12_kinTold_J70 v0 s0)
set_option maxHeartbeats 2000000 in
set_option maxRecDepth 20000 in
theorem coX12_kinTold_J44 (l : Launch) (e : Nat) (he : 5 ≤ e) (v0 : Nat) (s0 : Int32) : zCo l (e + 1) 0 0 iX12_kinTold 44 [(0, .ref v0)] [.int s0] (X12_kinTold_J44 v0 s0) := by
  unfold X12_kinTold_J44
  refine zco_p tkX12_kinTold 30 2 (pc' := 46) (L' := [(3, .int s0), (0, .ref v0)]) (S' := [.ref v0]) rfl ?_
  refine zco_gi fl_12_270 rfl (zdk (cc := cX12_kinTold) (q := (46, .getfield 270, 3)) tkX12_kinTold 32 rfl) (fun x1 => ?_)
  refine zco_if_ne (tgt := 70) (zdk (cc := cX12_kinTold) (q := (49, .ifCond .ne 21, 3)) tkX12_kinTold 33 rfl) rfl ?_ ?_
  · exact zco_sub [1, 0] rfl (coX12_kinTold_J70 l e he v0 s0)
  · refine zco_p tkX12_kinTold 34 1 (pc' := 53) (L' := [(3, .int s0), (0, .ref v0)]) (S' := [.ref v0]) rfl ?_
    refine zco_gr fl_12_115 rfl (zdk (cc := cX12_kinTold) (q := (53, .getfield 115, 3)) tkX12_kinTold 35 rfl) (fun x2 => ?_)
    refine zco_p tkX12_kinTold 36 1 (pc' := 57) (L' := [(3, .int s0), (0, .ref v0)]) (S' := [.int s0, .ref x2]) rfl ?_
    refine zco_baload (zdk (cc := cX12_kinTold) (q := (57, .baload, 1)) tkX12_kinTold 37 rfl) (fun x3 => ?_)
    refine zco_if_eq (tgt := 70) (zdk (cc := cX12_kinTold) (q := (58, .ifCond .eq 12, 3)) tkX12_kinTold 38 rfl) rfl ?_ ?_
    · exact zco_sub [1, 0] rfl (coX12_kinTold_J70 l e he v0 s0)
    · refine zco_p tkX12_kinTold 39 3 (pc' := 64) (L' := [(3, .int s0), (0, .ref v0)]) (S' := [.ref v0, .int 3, .ref v0]) rfl ?_
      refine zco_gi fl_12_321 rfl (zdk (cc := cX12_kinTold) (q := (64, .getfield 321, 3)) tkX12_kinTold 42 rfl) (fun x4 => ?_)
      refine zco_Vv (rc := 0) (rs := 0) (mc := 0) (ms := 0) (As := [.int 3, .int x4]) (S := []) vmX12_fail (mtX12_fail l e (by omega) v0 3 x4) q_1757 rfl rfl (Nat.le_of_ble_eq_true rfl) (zdk (cc := cX12_kinTold) (q := (67, .invokevirtual 300, 3)) tkX12_kinTold 43 rfl) ?_
      exact zco_sub [1, 0] rfl (coX12_kinTold_J70 l e he v0 s0)
def X12_kinTold (v0 : Nat) : zM := z_rc 12 v0 (z_ci (X12_named v0 ((-1))) fun y1 => z_ck (¬ 6 = 0) (z_rc 12 v0 (z_ci (X12_named v0 (1 - (y1 / 6))) fun y2 => z_if (6 ≤ y1) (z_ck (¬ 6 = 0) (X12_kinTold_J44 v0 ((6 * y2) + (y1 - y1 / 6 * 6))))
   (z_ck (¬ 6 = 0) (X12_kinTold_J44 v0 ((6 * y1) + (y2 - y2 / 6 * 6)))))))
set_option maxHeartbeats 2000000 in
set_option maxRecDepth 20000 in
theorem coX12_kinTold (l : Launch) (e : Nat) (he : 5 ≤ e) (v0 : Nat) : zCo l (e + 1) 0 0 iX12_kinTold 0 [(0, .ref v0)] [] (X12_kinTold v0) := by
  unfold X12_kinTold
  refine zco_p tkX12_kinTold 0 2 (pc' := 2) (L' := [(0, .ref v0)]) (S' := [.int ((-1)), .ref v0]) rfl ?_
  refine zco_Vi (rc := 0) (rs := 0) (mc := 0) (ms := 0) (As := [.int ((-1))]) (S := []) vmX12_named (mtX12_named l e (by omega) v0 ((-1))) q_1804 rfl rfl (Nat.le_of_ble_eq_true rfl) (zdk (cc := cX12_kinTold) (q := (2, .invokevirtual 349, 3)) tkX12_kinTold 2 rfl) (fun y1 => ?_)
  refine zco_p tkX12_kinTold 3 5 (pc' := 11) (L' := [(1, .int y1), (0, .ref v0)]) (S' := [.int 6, .int y1, .int 1, .ref v0]) rfl ?_
  refine zco_idiv (zdk (cc := cX12_kinTold) (q := (11, .idiv, 1)) tkX12_kinTold 8 rfl) ?_
  refine zco_p tkX12_kinTold 9 1 (pc' := 13) (L' := [(1, .int y1), (0, .ref v0)]) (S' := [.int (1 - (y1 / 6)), .ref v0]) rfl ?_
  refine zco_Vi (rc := 0) (rs := 0) (mc := 0) (ms := 0) (As := [.int (1 - (y1 / 6))]) (S := []) vmX12_named (mtX12_named l e (by omega) v0 (1 - (y1 / 6))) q_1804 rfl rfl (Nat.le_of_ble_eq_true rfl) (zdk (cc := cX12_kinTold) (q := (13, .invokevirtual 349, 3)) tkX12_kinTold 10 rfl) (fun y2 => ?_)
  refine zco_p tkX12_kinTold 11 3 (pc' := 20) (L' := [(2, .int y2), (1, .int y1), (0, .ref v0)]) (S' := [.int 6, .int y1]) rfl ?_
  refine zco_icmp_ge (tgt := 35) (zdk (cc := cX12_kinTold) (q := (20, .if_icmp .ge 15, 3)) tkX12_kinTold 14 rfl) rfl ?_ ?_
  · refine zco_p tkX12_kinTold 23 5 (pc' := 42) (L' := [(2, .int y2), (1, .int y1), (0, .ref v0)]) (S' := [.int 6, .int y1, .int (6 * y2)]) rfl ?_
    refine zco_irem (zdk (cc := cX12_kinTold) (q := (42, .irem, 1)) tkX12_kinTold 28 rfl) ?_
    refine zco_p tkX12_kinTold 29 1 (pc' := 44) (L' := [(2, .int y2), (1, .int y1), (0, .ref v0)]) (S' := [.int ((6 * y2) + (y1 - y1 / 6 * 6))]) rfl ?_
    exact zco_sub [2] rfl (coX12_kinTold_J44 l e he v0 ((6 * y2) + (y1 - y1 / 6 * 6)))
  · refine zco_p tkX12_kinTold 15 5 (pc' := 30) (L' := [(2, .int y2), (1, .int y1), (0, .ref v0)]) (S' := [.int 6, .int y2, .int (6 * y1)]) rfl ?_
    refine zco_irem (zdk (cc := cX12_kinTold) (q := (30, .irem, 1)) tkX12_kinTold 20 rfl) ?_
    refine zco_p tkX12_kinTold 21 2 (pc' := 44) (L' := [(2, .int y2), (1, .int y1), (0, .ref v0)]) (S' := [.int ((6 * y1) + (y2 - y2 / 6 * 6))]) rfl ?_
    exact zco_sub [2] rfl (coX12_kinTold_J44 l e he v0 ((6 * y1) + (y2 - y2 / 6 * 6)))
theorem mtX12_kinTold (l : Launch) (d : Nat) (hd : 6 ≤ d) (v0 : Nat) : zMet l d 0 0 yX12_kinTold cX12_kinTold 4 (Option.none : Option FieldType) [.ref v0] (X12_kinTold v0) := by
  obtain ⟨e, rfl⟩ : ∃ e, d = e + 1 := ⟨d - 1, by omega⟩
  exact zmet_of (own := RX12) (ini := false) (by decide +kernel) rfl (fun _ => by contradiction) (Nat.le_of_ble_eq_true rfl) (coX12_kinTold l e (by omega) v0)
abbrev iX12_feltTold : zI := (RX12, cX12_feltTold, 5, (Option.none : Option FieldType), false)
def tX12_feltTold : List (Nat × Instr × Nat) := [(0, .aload_n 0, 1), (1, .iconst (-1), 1), (2, .invokevirtual 349, 3), (5, .istore_n 2, 1), (6, .aload_n 0, 1), (7, .iconst 1, 1), (8, .iload_n 2, 1), (9, .bipush 6, 2), (11, .idiv, 1), (12, .isub, 1), (13, .invokevirtual 349, 3), (16, .istore_n 3, 1), (17, .aload_n 0, 1), (18, .iconst 0, 1), (19, .bipush 9, 2), (21, .invokevirtual 345, 3), (24, .istore 4, 2), (26, .aload_n 0, 1), (27, .getfield 270, 3), (30, .ifCond .ne 16, 3), (33, .aload_n 1, 1), (34, .bipush 6, 2), (36, .iload_n 2, 1), (37, .imul, 1), (38, .iload_n 3, 1), (39, .bipush 6, 2), (41, .irem, 1), (42, .iadd, 1), (43, .iload 4, 2), (45, .iastore, 1), (46, .return_, 1)]
set_option maxRecDepth 100000 in
theorem tkX12_feltTold : ∀ q ∈ tX12_feltTold, decode cX12_feltTold q.1 = .ok q.2 := by decide +kernel
theorem vmX12_feltTold : zVM yX12_feltTold cX12_feltTold 5 (Option.none : Option FieldType) 1 12 := ⟨kX12_feltTold, q_1810, q_57, q_160, ⟨_, rfl, rfl⟩, by decide +kernel, by decide⟩
def X12_feltTold (v0 : Nat) (v1 : Nat) : zM := z_rc 12 v0 (z_ci (X12_named v0 ((-1))) fun y1 => z_ck (¬ 6 = 0) (z_rc 12 v0 (z_ci (X12_named v0 (1 - (y1 / 6))) fun y2 => z_rc 12 v0 (z_ci (X12_number v0 0 9) fun y3 => z_gi 12 5 v0 fun x4 => z_if (x4 = 0) (z_ck (¬ 6 = 0) (z_sa 20 v1 ((6 * y1) + (y2 - y2 / 6 * 6)) y3 (z_ret none)))
   (z_ret none)))))
set_option maxHeartbeats 2000000 in
set_option maxRecDepth 20000 in
theorem coX12_feltTold (l : Launch) (e : Nat) (he : 5 ≤ e) (v0 : Nat) (v1 : Nat) : zCo l (e + 1) 0 0 iX12_feltTold 0 [(0, .ref v0), (1, .ref v1)] [] (X12_feltTold v0 v1) := by
  unfold X12_feltTold
  refine zco_p tkX12_feltTold 0 2 (pc' := 2) (L' := [(0, .ref v0), (1, .ref v1)]) (S' := [.int ((-1)), .ref v0]) rfl ?_
  refine zco_Vi (rc := 0) (rs := 0) (mc := 0) (ms := 0) (As := [.int ((-1))]) (S := []) vmX12_named (mtX12_named l e (by omega) v0 ((-1))) q_1804 rfl rfl (Nat.le_of_ble_eq_true rfl) (zdk (cc := cX12_feltTold) (q := (2, .invokevirtual 349, 3)) tkX12_feltTold 2 rfl) (fun y1 => ?_)
  refine zco_p tkX12_feltTold 3 5 (pc' := 11) (L' := [(2, .int y1), (0, .ref v0), (1, .ref v1)]) (S' := [.int 6, .int y1, .int 1, .ref v0]) rfl ?_
  refine zco_idiv (zdk (cc := cX12_feltTold) (q := (11, .idiv, 1)) tkX12_feltTold 8 rfl) ?_
  refine zco_p tkX12_feltTold 9 1 (pc' := 13) (L' := [(2, .int y1), (0, .ref v0), (1, .ref v1)]) (S' := [.int (1 - (y1 / 6)), .ref v0]) rfl ?_
  refine zco_Vi (rc := 0) (rs := 0) (mc := 0) (ms := 0) (As := [.int (1 - (y1 / 6))]) (S := []) vmX12_named (mtX12_named l e (by omega) v0 (1 - (y1 / 6))) q_1804 rfl rfl (Nat.le_of_ble_eq_true rfl) (zdk (cc := cX12_feltTold) (q := (13, .invokevirtual 349, 3)) tkX12_feltTold 10 rfl) (fun y2 => ?_)
  refine zco_p tkX12_feltTold 11 4 (pc' := 21) (L' := [(3, .int y2), (2, .int y1), (0, .ref v0), (1, .ref v1)]) (S' := [.int 9, .int 0, .ref v0]) rfl ?_
  refine zco_Vi (rc := 0) (rs := 0) (mc := 0) (ms := 0) (As := [.int 0, .int 9]) (S := []) vmX12_number (mtX12_number l e (by omega) v0 0 9) q_1790 rfl rfl (Nat.le_of_ble_eq_true rfl) (zdk (cc := cX12_feltTold) (q := (21, .invokevirtual 345, 3)) tkX12_feltTold 15 rfl) (fun y3 => ?_)
  refine zco_p tkX12_feltTold 16 2 (pc' := 27) (L' := [(4, .int y3), (3, .int y2), (2, .int y1), (0, .ref v0), (1, .ref v1)]) (S' := [.ref v0]) rfl ?_
  refine zco_gi fl_12_270 rfl (zdk (cc := cX12_feltTold) (q := (27, .getfield 270, 3)) tkX12_feltTold 18 rfl) (fun x4 => ?_)
  refine zco_if_ne (tgt := 46) (zdk (cc := cX12_feltTold) (q := (30, .ifCond .ne 16, 3)) tkX12_feltTold 19 rfl) rfl ?_ ?_
  · exact zco_vret rfl rfl rfl (zdk (cc := cX12_feltTold) (q := (46, .return_, 1)) tkX12_feltTold 30 rfl)
  · refine zco_p tkX12_feltTold 20 6 (pc' := 41) (L' := [(4, .int y3), (3, .int y2), (2, .int y1), (0, .ref v0), (1, .ref v1)]) (S' := [.int 6, .int y2, .int (6 * y1), .ref v1]) rfl ?_
    refine zco_irem (zdk (cc := cX12_feltTold) (q := (41, .irem, 1)) tkX12_feltTold 26 rfl) ?_
    refine zco_p tkX12_feltTold 27 2 (pc' := 45) (L' := [(4, .int y3), (3, .int y2), (2, .int y1), (0, .ref v0), (1, .ref v1)]) (S' := [.int y3, .int ((6 * y1) + (y2 - y2 / 6 * 6)), .ref v1]) rfl ?_
    refine zco_iastore (zdk (cc := cX12_feltTold) (q := (45, .iastore, 1)) tkX12_feltTold 29 rfl) ?_
    exact zco_vret rfl rfl rfl (zdk (cc := cX12_feltTold) (q := (46, .return_, 1)) tkX12_feltTold 30 rfl)
theorem mtX12_feltTold (l : Launch) (d : Nat) (hd : 6 ≤ d) (v0 : Nat) (v1 : Nat) : zMet l d 0 0 yX12_feltTold cX12_feltTold 5 (Option.none : Option FieldType) [.ref v0, .ref v1] (X12_feltTold v0 v1) := by
  obtain ⟨e, rfl⟩ : ∃ e, d = e + 1 := ⟨d - 1, by omega⟩
  exact zmet_of (own := RX12) (ini := false) (by decide +kernel) rfl (fun _ => by contradiction) (Nat.le_of_ble_eq_true rfl) (coX12_feltTold l e (by omega) v0 v1)
abbrev iX12_qOpens : zI := (RX12, cX12_qOpens, 3, (Option.none : Option FieldType), false)
def tX12_qOpens : List (Nat × Instr × Nat) := [(0, .aload_n 0, 1), (1, .getfield 270, 3), (4, .ifCond .eq 4, 3), (7, .return_, 1), (8, .aload_n 0, 1), (9, .getfield 359, 3), (12, .bipush 6, 2), (14, .if_icmp .ne 10, 3), (17, .aload_n 0, 1), (18, .iconst 4, 1), (19, .iload_n 2, 1), (20, .invokevirtual 300, 3), (23, .return_, 1), (24, .aload_n 0, 1), (25, .dup, 1), (26, .getfield 359, 3), (29, .iconst 1, 1), (30, .iadd, 1), (31, .putfield 359, 3), (34, .aload_n 0, 1), (35, .getfield 258, 3), (38, .aload_n 0, 1), (39, .getfield 356, 3), (42, .iload_n 1, 1), (43, .iastore, 1), (44, .aload_n 0, 1), (45, .dup, 1), (46, .getfield 356, 3), (49, .iconst 1, 1), (50, .iadd, 1), (51, .putfield 356, 3), (54, .return_, 1)]
set_option maxRecDepth 100000 in
theorem tkX12_qOpens : ∀ q ∈ tX12_qOpens, decode cX12_qOpens q.1 = .ok q.2 := by decide +kernel
theorem vmX12_qOpens : zVM yX12_qOpens cX12_qOpens 3 (Option.none : Option FieldType) 2 12 := ⟨kX12_qOpens, q_1822, q_60, q_160, ⟨_, rfl, rfl⟩, by decide +kernel, by decide⟩
def X12_qOpens (v0 : Nat) (v1 : Int32) (v2 : Int32) : zM := z_gi 12 5 v0 fun x1 => z_if (x1 = 0) (z_gi 12 108 v0 fun x2 => z_if (x2 = 6) (z_rc 12 v0 (z_cv (X12_fail v0 4 v2) (z_ret none)))
   (z_gi 12 108 v0 fun x3 => z_pi 12 108 v0 (x3 + 1) (z_gr 12 106 v0 fun x4 => z_gi 12 107 v0 fun x5 => z_sa 20 x4 x5 v1 (z_gi 12 107 v0 fun x6 => z_pi 12 107 v0 (x6 + 1) (z_ret none)))))
   (z_ret none)
set_option maxHeartbeats 2000000 in
set_option maxRecDepth 20000 in
theorem coX12_qOpens (l : Launch) (e : Nat) (he : 1 ≤ e) (v0 : Nat) (v1 : Int32) (v2 : Int32) : zCo l (e + 1) 0 0 iX12_qOpens 0 [(0, .ref v0), (1, .int v1), (2, .int v2)] [] (X12_qOpens v0 v1 v2) := by
  unfold X12_qOpens
  refine zco_p tkX12_qOpens 0 1 (pc' := 1) (L' := [(0, .ref v0), (1, .int v1), (2, .int v2)]) (S' := [.ref v0]) rfl ?_
  refine zco_gi fl_12_270 rfl (zdk (cc := cX12_qOpens) (q := (1, .getfield 270, 3)) tkX12_qOpens 1 rfl) (fun x1 => ?_)
  refine zco_if_eq (tgt := 8) (zdk (cc := cX12_qOpens) (q := (4, .ifCond .eq 4, 3)) tkX12_qOpens 2 rfl) rfl ?_ ?_
  · refine zco_p tkX12_qOpens 4 1 (pc' := 9) (L' := [(0, .ref v0), (1, .int v1), (2, .int v2)]) (S' := [.ref v0]) rfl ?_
    refine zco_gi fl_12_359 rfl (zdk (cc := cX12_qOpens) (q := (9, .getfield 359, 3)) tkX12_qOpens 5 rfl) (fun x2 => ?_)
    refine zco_p tkX12_qOpens 6 1 (pc' := 14) (L' := [(0, .ref v0), (1, .int v1), (2, .int v2)]) (S' := [.int 6, .int x2]) rfl ?_
    refine zco_icmp_ne (tgt := 24) (zdk (cc := cX12_qOpens) (q := (14, .if_icmp .ne 10, 3)) tkX12_qOpens 7 rfl) rfl ?_ ?_
    · refine zco_p tkX12_qOpens 13 2 (pc' := 26) (L' := [(0, .ref v0), (1, .int v1), (2, .int v2)]) (S' := [.ref v0, .ref v0]) rfl ?_
      refine zco_gi fl_12_359 rfl (zdk (cc := cX12_qOpens) (q := (26, .getfield 359, 3)) tkX12_qOpens 15 rfl) (fun x3 => ?_)
      refine zco_p tkX12_qOpens 16 2 (pc' := 31) (L' := [(0, .ref v0), (1, .int v1), (2, .int v2)]) (S' := [.int (x3 + 1), .ref v0]) rfl ?_
      refine zco_pi fl_12_359 rfl rfl (zdk (cc := cX12_qOpens) (q := (31, .putfield 359, 3)) tkX12_qOpens 18 rfl) ?_
      refine zco_p tkX12_qOpens 19 1 (pc' := 35) (L' := [(0, .ref v0), (1, .int v1), (2, .int v2)]) (S' := [.ref v0]) rfl ?_
      refine zco_gr fl_12_258 rfl (zdk (cc := cX12_qOpens) (q := (35, .getfield 258, 3)) tkX12_qOpens 20 rfl) (fun x4 => ?_)
      refine zco_p tkX12_qOpens 21 1 (pc' := 39) (L' := [(0, .ref v0), (1, .int v1), (2, .int v2)]) (S' := [.ref v0, .ref x4]) rfl ?_
      refine zco_gi fl_12_356 rfl (zdk (cc := cX12_qOpens) (q := (39, .getfield 356, 3)) tkX12_qOpens 22 rfl) (fun x5 => ?_)
      refine zco_p tkX12_qOpens 23 1 (pc' := 43) (L' := [(0, .ref v0), (1, .int v1), (2, .int v2)]) (S' := [.int v1, .int x5, .ref x4]) rfl ?_
      refine zco_iastore (zdk (cc := cX12_qOpens) (q := (43, .iastore, 1)) tkX12_qOpens 24 rfl) ?_
      refine zco_p tkX12_qOpens 25 2 (pc' := 46) (L' := [(0, .ref v0), (1, .int v1), (2, .int v2)]) (S' := [.ref v0, .ref v0]) rfl ?_
      refine zco_gi fl_12_356 rfl (zdk (cc := cX12_qOpens) (q := (46, .getfield 356, 3)) tkX12_qOpens 27 rfl) (fun x6 => ?_)
      refine zco_p tkX12_qOpens 28 2 (pc' := 51) (L' := [(0, .ref v0), (1, .int v1), (2, .int v2)]) (S' := [.int (x6 + 1), .ref v0]) rfl ?_
      refine zco_pi fl_12_356 rfl rfl (zdk (cc := cX12_qOpens) (q := (51, .putfield 356, 3)) tkX12_qOpens 30 rfl) ?_
      exact zco_vret rfl rfl rfl (zdk (cc := cX12_qOpens) (q := (54, .return_, 1)) tkX12_qOpens 31 rfl)
    · refine zco_p tkX12_qOpens 8 3 (pc' := 20) (L' := [(0, .ref v0), (1, .int v1), (2, .int v2)]) (S' := [.int v2, .int 4, .ref v0]) rfl ?_
      refine zco_Vv (rc := 0) (rs := 0) (mc := 0) (ms := 0) (As := [.int 4, .int v2]) (S := []) vmX12_fail (mtX12_fail l e (by omega) v0 4 v2) q_1757 rfl rfl (Nat.le_of_ble_eq_true rfl) (zdk (cc := cX12_qOpens) (q := (20, .invokevirtual 300, 3)) tkX12_qOpens 11 rfl) ?_
      exact zco_vret rfl rfl rfl (zdk (cc := cX12_qOpens) (q := (23, .return_, 1)) tkX12_qOpens 12 rfl)
  · exact zco_vret rfl rfl rfl (zdk (cc := cX12_qOpens) (q := (7, .return_, 1)) tkX12_qOpens 3 rfl)
theorem mtX12_qOpens (l : Launch) (d : Nat) (hd : 2 ≤ d) (v0 : Nat) (v1 : Int32) (v2 : Int32) : zMet l d 0 0 yX12_qOpens cX12_qOpens 3 (Option.none : Option FieldType) [.ref v0, .int v1, .int v2] (X12_qOpens v0 v1 v2) := by
  obtain ⟨e, rfl⟩ : ∃ e, d = e + 1 := ⟨d - 1, by omega⟩
  exact zmet_of (own := RX12) (ini := false) (by decide +kernel) rfl (fun _ => by contradiction) (Nat.le_of_ble_eq_true rfl) (coX12_qOpens l e (by omega) v0 v1 v2)
abbrev iX12_qCode : zI := (RX12, cX12_qCode, 2, (Option.none : Option FieldType), false)
def tX12_qCode : List (Nat × Instr × Nat) := [(0, .aload_n 0, 1), (1, .getfield 255, 3), (4, .aload_n 0, 1), (5, .getfield 353, 3), (8, .iload_n 1, 1), (9, .iastore, 1), (10, .aload_n 0, 1), (11, .dup, 1), (12, .getfield 353, 3), (15, .iconst 1, 1), (16, .iadd, 1), (17, .putfield 353, 3), (20, .return_, 1)]
set_option maxRecDepth 100000 in
theorem tkX12_qCode : ∀ q ∈ tX12_qCode, decode cX12_qCode q.1 = .ok q.2 := by decide +kernel
theorem vmX12_qCode : zVM yX12_qCode cX12_qCode 2 (Option.none : Option FieldType) 1 12 := ⟨kX12_qCode, q_1830, q_62, q_160, ⟨_, rfl, rfl⟩, by decide +kernel, by decide⟩
def X12_qCode (v0 : Nat) (v1 : Int32) : zM := z_gr 12 104 v0 fun x1 => z_gi 12 105 v0 fun x2 => z_sa 20 x1 x2 v1 (z_gi 12 105 v0 fun x3 => z_pi 12 105 v0 (x3 + 1) (z_ret none))
set_option maxHeartbeats 2000000 in
set_option maxRecDepth 20000 in
theorem coX12_qCode (l : Launch) (e : Nat) (he : 0 ≤ e) (v0 : Nat) (v1 : Int32) : zCo l (e + 1) 0 0 iX12_qCode 0 [(0, .ref v0), (1, .int v1)] [] (X12_qCode v0 v1) := by
  unfold X12_qCode
  refine zco_p tkX12_qCode 0 1 (pc' := 1) (L' := [(0, .ref v0), (1, .int v1)]) (S' := [.ref v0]) rfl ?_
  refine zco_gr fl_12_255 rfl (zdk (cc := cX12_qCode) (q := (1, .getfield 255, 3)) tkX12_qCode 1 rfl) (fun x1 => ?_)
  refine zco_p tkX12_qCode 2 1 (pc' := 5) (L' := [(0, .ref v0), (1, .int v1)]) (S' := [.ref v0, .ref x1]) rfl ?_
  refine zco_gi fl_12_353 rfl (zdk (cc := cX12_qCode) (q := (5, .getfield 353, 3)) tkX12_qCode 3 rfl) (fun x2 => ?_)
  refine zco_p tkX12_qCode 4 1 (pc' := 9) (L' := [(0, .ref v0), (1, .int v1)]) (S' := [.int v1, .int x2, .ref x1]) rfl ?_
  refine zco_iastore (zdk (cc := cX12_qCode) (q := (9, .iastore, 1)) tkX12_qCode 5 rfl) ?_
  refine zco_p tkX12_qCode 6 2 (pc' := 12) (L' := [(0, .ref v0), (1, .int v1)]) (S' := [.ref v0, .ref v0]) rfl ?_
  refine zco_gi fl_12_353 rfl (zdk (cc := cX12_qCode) (q := (12, .getfield 353, 3)) tkX12_qCode 8 rfl) (fun x3 => ?_)
  refine zco_p tkX12_qCode 9 2 (pc' := 17) (L' := [(0, .ref v0), (1, .int v1)]) (S' := [.int (x3 + 1), .ref v0]) rfl ?_
  refine zco_pi fl_12_353 rfl rfl (zdk (cc := cX12_qCode) (q := (17, .putfield 353, 3)) tkX12_qCode 11 rfl) ?_
  exact zco_vret rfl rfl rfl (zdk (cc := cX12_qCode) (q := (20, .return_, 1)) tkX12_qCode 12 rfl)
theorem mtX12_qCode (l : Launch) (d : Nat) (hd : 1 ≤ d) (v0 : Nat) (v1 : Int32) : zMet l d 0 0 yX12_qCode cX12_qCode 2 (Option.none : Option FieldType) [.ref v0, .int v1] (X12_qCode v0 v1) := by
  obtain ⟨e, rfl⟩ : ∃ e, d = e + 1 := ⟨d - 1, by omega⟩
  exact zmet_of (own := RX12) (ini := false) (by decide +kernel) rfl (fun _ => by contradiction) (Nat.le_of_ble_eq_true rfl) (coX12_qCode l e (by omega) v0 v1)
abbrev iX12_qWordHere : zI := (RX12, cX12_qWordHere, 1, (Option.some .int), false)
def tX12_qWordHere : List (Nat × Instr × Nat) := [(0, .aload_n 0, 1), (1, .aload_n 0, 1), (2, .getfield 213, 3), (5, .invokevirtual 293, 3), (8, .ifCond .eq 5, 3), (11, .iconst 0, 1), (12, .ireturn, 1), (13, .aload_n 0, 1), (14, .aload_n 0, 1), (15, .getfield 216, 3), (18, .invokevirtual 293, 3), (21, .ifCond .eq 5, 3), (24, .iconst 1, 1), (25, .ireturn, 1), (26, .aload_n 0, 1), (27, .aload_n 0, 1), (28, .getfield 219, 3), (31, .invokevirtual 293, 3), (34, .ifCond .eq 5, 3), (37, .iconst 2, 1), (38, .ireturn, 1), (39, .aload_n 0, 1), (40, .aload_n 0, 1), (41, .getfield 222, 3), (44, .invokevirtual 293, 3), (47, .ifCond .eq 5, 3), (50, .iconst 3, 1), (51, .ireturn, 1), (52, .aload_n 0, 1), (53, .aload_n 0, 1), (54, .getfield 225, 3), (57, .invokevirtual 293, 3), (60, .ifCond .eq 5, 3), (63, .iconst 4, 1), (64, .ireturn, 1), (65, .aload_n 0, 1), (66, .aload_n 0, 1), (67, .getfield 228, 3), (70, .invokevirtual 293, 3), (73, .ifCond .eq 5, 3), (76, .iconst 5, 1), (77, .ireturn, 1), (78, .aload_n 0, 1), (79, .aload_n 0, 1), (80, .getfield 231, 3), (83, .invokevirtual 293, 3), (86, .ifCond .eq 6, 3), (89, .bipush 6, 2), (91, .ireturn, 1), (92, .aload_n 0, 1), (93, .aload_n 0, 1), (94, .getfield 234, 3), (97, .invokevirtual 293, 3), (100, .ifCond .eq 6, 3), (103, .bipush 7, 2), (105, .ireturn, 1), (106, .aload_n 0, 1), (107, .aload_n 0, 1), (108, .getfield 237, 3), (111, .invokevirtual 293, 3), (114, .ifCond .eq 6, 3), (117, .bipush 8, 2), (119, .ireturn, 1), (120, .aload_n 0, 1), (121, .aload_n 0, 1), (122, .getfield 240, 3), (125, .invokevirtual 293, 3), (128, .ifCond .eq 6, 3), (131, .bipush 9, 2), (133, .ireturn, 1), (134, .aload_n 0, 1), (135, .aload_n 0, 1), (136, .getfield 243, 3), (139, .invokevirtual 293, 3), (142, .ifCond .eq 6, 3), (145, .bipush 10, 2), (147, .ireturn, 1), (148, .aload_n 0, 1), (149, .aload_n 0, 1), (150, .getfield 246, 3), (153, .invokevirtual 293, 3), (156, .ifCond .eq 6, 3), (159, .bipush 11, 2), (161, .ireturn, 1), (162, .aload_n 0, 1), (163, .aload_n 0, 1), (164, .getfield 249, 3), (167, .invokevirtual 293, 3), (170, .ifCond .eq 6, 3), (173, .bipush 12, 2), (175, .ireturn, 1), (176, .aload_n 0, 1), (177, .aload_n 0, 1), (178, .getfield 252, 3), (181, .invokevirtual 293, 3), (184, .ifCond .eq 6, 3), (187, .bipush 13, 2), (189, .ireturn, 1), (190, .iconst (-1), 1), (191, .ireturn, 1)]
set_option maxRecDepth 100000 in
theorem tkX12_qWordHere : ∀ q ∈ tX12_qWordHere, decode cX12_qWordHere q.1 = .ok q.2 := by decide +kernel
theorem vmX12_qWordHere : zVM yX12_qWordHere cX12_qWordHere 1 (Option.some .int) 0 12 := ⟨kX12_qWordHere, q_1846, q_66, q_160, ⟨_, rfl, rfl⟩, by decide +kernel, by decide⟩
def X12_qWordHere (v0 : Nat) : zM := z_gr 12 90 v0 fun x1 => z_rc 12 v0 (z_ci (X12_isHere v0 x1) fun y2 => z_if (y2 = 0) (z_gr 12 91 v0 fun x3 => z_rc 12 v0 (z_ci (X12_isHere v0 x3) fun y4 => z_if (y4 = 0) (z_gr 12 92 v0 fun x5 => z_rc 12 v0 (z_ci (X12_isHere v0 x5) fun y6 => z_if (y6 = 0) (z_gr 12 93 v0 fun x7 => z_rc 12 v0 (z_ci (X12_isHere v0 x7) fun y8 => z_if (y8 = 0) (z_gr 12 94 v0 fun x9 => z_rc 12 v0 (z_ci (X12_isHere v0 x9) fun y10 => z_if (y10 = 0) (z_gr 12 95 v0 fun x11 => z_rc 12 v0 (z_ci (X12_isHere v0 x11) fun y12 => z_if (y12 = 0) (z_gr 12 96 v0 fun x13 => z_rc 12 v0 (z_ci (X12_isHere v0 x13) fun y14 => z_if (y14 = 0) (z_gr 12 97 v0 fun x15 => z_rc 12 v0 (z_ci (X12_isHere v0 x15) fun y16 => z_if (y16 = 0) (z_gr 12 98 v0 fun x17 => z_rc 12 v0 (z_ci (X12_isHere v0 x17) fun y18 => z_if (y18 = 0) (z_gr 12 99 v0 fun x19 => z_rc 12 v0 (z_ci (X12_isHere v0 x19) fun y20 => z_if (y20 = 0) (z_gr 12 100 v0 fun x21 => z_rc 12 v0 (z_ci (X12_isHere v0 x21) fun y22 => z_if (y22 = 0) (z_gr 12 101 v0 fun x23 => z_rc 12 v0 (z_ci (X12_isHere v0 x23) fun y24 => z_if (y24 = 0) (z_gr 12 102 v0 fun x25 => z_rc 12 v0 (z_ci (X12_isHere v0 x25) fun y26 => z_if (y26 = 0) (z_gr 12 103 v0 fun x27 => z_rc 12 v0 (z_ci (X12_isHere v0 x27) fun y28 => z_if (y28 = 0) (z_ret (some (.int ((-1)))))
   (z_ret (some (.int 13)))))
   (z_ret (some (.int 12)))))
   (z_ret (some (.int 11)))))
   (z_ret (some (.int 10)))))
   (z_ret (some (.int 9)))))
   (z_ret (some (.int 8)))))
   (z_ret (some (.int 7)))))
   (z_ret (some (.int 6)))))
   (z_ret (some (.int 5)))))
   (z_ret (some (.int 4)))))
   (z_ret (some (.int 3)))))
   (z_ret (some (.int 2)))))
   (z_ret (some (.int 1)))))
   (z_ret (some (.int 0))))
set_option maxHeartbeats 2000000 in
set_option maxRecDepth 20000 in
theorem coX12_qWordHere (l : Launch) (e : Nat) (he : 2 ≤ e) (v0 : Nat) : zCo l (e + 1) 0 0 iX12_qWordHere 0 [(0, .ref v0)] [] (X12_qWordHere v0) := by
  unfold X12_qWordHere
  refine zco_p tkX12_qWordHere 0 2 (pc' := 2) (L' := [(0, .ref v0)]) (S' := [.ref v0, .ref v0]) rfl ?_
  refine zco_gr fl_12_213 rfl (zdk (cc := cX12_qWordHere) (q := (2, .getfield 213, 3)) tkX12_qWordHere 2 rfl) (fun x1 => ?_)
  refine zco_Vi (rc := 0) (rs := 0) (mc := 0) (ms := 0) (As := [.ref x1]) (S := []) vmX12_isHere (mtX12_isHere l e (by omega) v0 x1) q_1765 rfl rfl (Nat.le_of_ble_eq_true rfl) (zdk (cc := cX12_qWordHere) (q := (5, .invokevirtual 293, 3)) tkX12_qWordHere 3 rfl) (fun y2 => ?_)
  refine zco_if_eq (tgt := 13) (zdk (cc := cX12_qWordHere) (q := (8, .ifCond .eq 5, 3)) tkX12_qWordHere 4 rfl) rfl ?_ ?_
  · refine zco_p tkX12_qWordHere 7 2 (pc' := 15) (L' := [(0, .ref v0)]) (S' := [.ref v0, .ref v0]) rfl ?_
    refine zco_gr fl_12_216 rfl (zdk (cc := cX12_qWordHere) (q := (15, .getfield 216, 3)) tkX12_qWordHere 9 rfl) (fun x3 => ?_)
    refine zco_Vi (rc := 0) (rs := 0) (mc := 0) (ms := 0) (As := [.ref x3]) (S := []) vmX12_isHere (mtX12_isHere l e (by omega) v0 x3) q_1765 rfl rfl (Nat.le_of_ble_eq_true rfl) (zdk (cc := cX12_qWordHere) (q := (18, .invokevirtual 293, 3)) tkX12_qWordHere 10 rfl) (fun y4 => ?_)
    refine zco_if_eq (tgt := 26) (zdk (cc := cX12_qWordHere) (q := (21, .ifCond .eq 5, 3)) tkX12_qWordHere 11 rfl) rfl ?_ ?_
    · refine zco_p tkX12_qWordHere 14 2 (pc' := 28) (L' := [(0, .ref v0)]) (S' := [.ref v0, .ref v0]) rfl ?_
      refine zco_gr fl_12_219 rfl (zdk (cc := cX12_qWordHere) (q := (28, .getfield 219, 3)) tkX12_qWordHere 16 rfl) (fun x5 => ?_)
      refine zco_Vi (rc := 0) (rs := 0) (mc := 0) (ms := 0) (As := [.ref x5]) (S := []) vmX12_isHere (mtX12_isHere l e (by omega) v0 x5) q_1765 rfl rfl (Nat.le_of_ble_eq_true rfl) (zdk (cc := cX12_qWordHere) (q := (31, .invokevirtual 293, 3)) tkX12_qWordHere 17 rfl) (fun y6 => ?_)
      refine zco_if_eq (tgt := 39) (zdk (cc := cX12_qWordHere) (q := (34, .ifCond .eq 5, 3)) tkX12_qWordHere 18 rfl) rfl ?_ ?_
      · refine zco_p tkX12_qWordHere 21 2 (pc' := 41) (L' := [(0, .ref v0)]) (S' := [.ref v0, .ref v0]) rfl ?_
        refine zco_gr fl_12_222 rfl (zdk (cc := cX12_qWordHere) (q := (41, .getfield 222, 3)) tkX12_qWordHere 23 rfl) (fun x7 => ?_)
        refine zco_Vi (rc := 0) (rs := 0) (mc := 0) (ms := 0) (As := [.ref x7]) (S := []) vmX12_isHere (mtX12_isHere l e (by omega) v0 x7) q_1765 rfl rfl (Nat.le_of_ble_eq_true rfl) (zdk (cc := cX12_qWordHere) (q := (44, .invokevirtual 293, 3)) tkX12_qWordHere 24 rfl) (fun y8 => ?_)
        refine zco_if_eq (tgt := 52) (zdk (cc := cX12_qWordHere) (q := (47, .ifCond .eq 5, 3)) tkX12_qWordHere 25 rfl) rfl ?_ ?_
        · refine zco_p tkX12_qWordHere 28 2 (pc' := 54) (L' := [(0, .ref v0)]) (S' := [.ref v0, .ref v0]) rfl ?_
          refine zco_gr fl_12_225 rfl (zdk (cc := cX12_qWordHere) (q := (54, .getfield 225, 3)) tkX12_qWordHere 30 rfl) (fun x9 => ?_)
          refine zco_Vi (rc := 0) (rs := 0) (mc := 0) (ms := 0) (As := [.ref x9]) (S := []) vmX12_isHere (mtX12_isHere l e (by omega) v0 x9) q_1765 rfl rfl (Nat.le_of_ble_eq_true rfl) (zdk (cc := cX12_qWordHere) (q := (57, .invokevirtual 293, 3)) tkX12_qWordHere 31 rfl) (fun y10 => ?_)
          refine zco_if_eq (tgt := 65) (zdk (cc := cX12_qWordHere) (q := (60, .ifCond .eq 5, 3)) tkX12_qWordHere 32 rfl) rfl ?_ ?_
          · refine zco_p tkX12_qWordHere 35 2 (pc' := 67) (L' := [(0, .ref v0)]) (S' := [.ref v0, .ref v0]) rfl ?_
            refine zco_gr fl_12_228 rfl (zdk (cc := cX12_qWordHere) (q := (67, .getfield 228, 3)) tkX12_qWordHere 37 rfl) (fun x11 => ?_)
            refine zco_Vi (rc := 0) (rs := 0) (mc := 0) (ms := 0) (As := [.ref x11]) (S := []) vmX12_isHere (mtX12_isHere l e (by omega) v0 x11) q_1765 rfl rfl (Nat.le_of_ble_eq_true rfl) (zdk (cc := cX12_qWordHere) (q := (70, .invokevirtual 293, 3)) tkX12_qWordHere 38 rfl) (fun y12 => ?_)
            refine zco_if_eq (tgt := 78) (zdk (cc := cX12_qWordHere) (q := (73, .ifCond .eq 5, 3)) tkX12_qWordHere 39 rfl) rfl ?_ ?_
            · refine zco_p tkX12_qWordHere 42 2 (pc' := 80) (L' := [(0, .ref v0)]) (S' := [.ref v0, .ref v0]) rfl ?_
              refine zco_gr fl_12_231 rfl (zdk (cc := cX12_qWordHere) (q := (80, .getfield 231, 3)) tkX12_qWordHere 44 rfl) (fun x13 => ?_)
              refine zco_Vi (rc := 0) (rs := 0) (mc := 0) (ms := 0) (As := [.ref x13]) (S := []) vmX12_isHere (mtX12_isHere l e (by omega) v0 x13) q_1765 rfl rfl (Nat.le_of_ble_eq_true rfl) (zdk (cc := cX12_qWordHere) (q := (83, .invokevirtual 293, 3)) tkX12_qWordHere 45 rfl) (fun y14 => ?_)
              refine zco_if_eq (tgt := 92) (zdk (cc := cX12_qWordHere) (q := (86, .ifCond .eq 6, 3)) tkX12_qWordHere 46 rfl) rfl ?_ ?_
              · refine zco_p tkX12_qWordHere 49 2 (pc' := 94) (L' := [(0, .ref v0)]) (S' := [.ref v0, .ref v0]) rfl ?_
                refine zco_gr fl_12_234 rfl (zdk (cc := cX12_qWordHere) (q := (94, .getfield 234, 3)) tkX12_qWordHere 51 rfl) (fun x15 => ?_)
                refine zco_Vi (rc := 0) (rs := 0) (mc := 0) (ms := 0) (As := [.ref x15]) (S := []) vmX12_isHere (mtX12_isHere l e (by omega) v0 x15) q_1765 rfl rfl (Nat.le_of_ble_eq_true rfl) (zdk (cc := cX12_qWordHere) (q := (97, .invokevirtual 293, 3)) tkX12_qWordHere 52 rfl) (fun y16 => ?_)
                refine zco_if_eq (tgt := 106) (zdk (cc := cX12_qWordHere) (q := (100, .ifCond .eq 6, 3)) tkX12_qWordHere 53 rfl) rfl ?_ ?_
                · refine zco_p tkX12_qWordHere 56 2 (pc' := 108) (L' := [(0, .ref v0)]) (S' := [.ref v0, .ref v0]) rfl ?_
                  refine zco_gr fl_12_237 rfl (zdk (cc := cX12_qWordHere) (q := (108, .getfield 237, 3)) tkX12_qWordHere 58 rfl) (fun x17 => ?_)
                  refine zco_Vi (rc := 0) (rs := 0) (mc := 0) (ms := 0) (As := [.ref x17]) (S := []) vmX12_isHere (mtX12_isHere l e (by omega) v0 x17) q_1765 rfl rfl (Nat.le_of_ble_eq_true rfl) (zdk (cc := cX12_qWordHere) (q := (111, .invokevirtual 293, 3)) tkX12_qWordHere 59 rfl) (fun y18 => ?_)
                  refine zco_if_eq (tgt := 120) (zdk (cc := cX12_qWordHere) (q := (114, .ifCond .eq 6, 3)) tkX12_qWordHere 60 rfl) rfl ?_ ?_
                  · refine zco_p tkX12_qWordHere 63 2 (pc' := 122) (L' := [(0, .ref v0)]) (S' := [.ref v0, .ref v0]) rfl ?_
                    refine zco_gr fl_12_240 rfl (zdk (cc := cX12_qWordHere) (q := (122, .getfield 240, 3)) tkX12_qWordHere 65 rfl) (fun x19 => ?_)
                    refine zco_Vi (rc := 0) (rs := 0) (mc := 0) (ms := 0) (As := [.ref x19]) (S := []) vmX12_isHere (mtX12_isHere l e (by omega) v0 x19) q_1765 rfl rfl (Nat.le_of_ble_eq_true rfl) (zdk (cc := cX12_qWordHere) (q := (125, .invokevirtual 293, 3)) tkX12_qWordHere 66 rfl) (fun y20 => ?_)
                    refine zco_if_eq (tgt := 134) (zdk (cc := cX12_qWordHere) (q := (128, .ifCond .eq 6, 3)) tkX12_qWordHere 67 rfl) rfl ?_ ?_
                    · refine zco_p tkX12_qWordHere 70 2 (pc' := 136) (L' := [(0, .ref v0)]) (S' := [.ref v0, .ref v0]) rfl ?_
                      refine zco_gr fl_12_243 rfl (zdk (cc := cX12_qWordHere) (q := (136, .getfield 243, 3)) tkX12_qWordHere 72 rfl) (fun x21 => ?_)
                      refine zco_Vi (rc := 0) (rs := 0) (mc := 0) (ms := 0) (As := [.ref x21]) (S := []) vmX12_isHere (mtX12_isHere l e (by omega) v0 x21) q_1765 rfl rfl (Nat.le_of_ble_eq_true rfl) (zdk (cc := cX12_qWordHere) (q := (139, .invokevirtual 293, 3)) tkX12_qWordHere 73 rfl) (fun y22 => ?_)
                      refine zco_if_eq (tgt := 148) (zdk (cc := cX12_qWordHere) (q := (142, .ifCond .eq 6, 3)) tkX12_qWordHere 74 rfl) rfl ?_ ?_
                      · refine zco_p tkX12_qWordHere 77 2 (pc' := 150) (L' := [(0, .ref v0)]) (S' := [.ref v0, .ref v0]) rfl ?_
                        refine zco_gr fl_12_246 rfl (zdk (cc := cX12_qWordHere) (q := (150, .getfield 246, 3)) tkX12_qWordHere 79 rfl) (fun x23 => ?_)
                        refine zco_Vi (rc := 0) (rs := 0) (mc := 0) (ms := 0) (As := [.ref x23]) (S := []) vmX12_isHere (mtX12_isHere l e (by omega) v0 x23) q_1765 rfl rfl (Nat.le_of_ble_eq_true rfl) (zdk (cc := cX12_qWordHere) (q := (153, .invokevirtual 293, 3)) tkX12_qWordHere 80 rfl) (fun y24 => ?_)
                        refine zco_if_eq (tgt := 162) (zdk (cc := cX12_qWordHere) (q := (156, .ifCond .eq 6, 3)) tkX12_qWordHere 81 rfl) rfl ?_ ?_
                        · refine zco_p tkX12_qWordHere 84 2 (pc' := 164) (L' := [(0, .ref v0)]) (S' := [.ref v0, .ref v0]) rfl ?_
                          refine zco_gr fl_12_249 rfl (zdk (cc := cX12_qWordHere) (q := (164, .getfield 249, 3)) tkX12_qWordHere 86 rfl) (fun x25 => ?_)
                          refine zco_Vi (rc := 0) (rs := 0) (mc := 0) (ms := 0) (As := [.ref x25]) (S := []) vmX12_isHere (mtX12_isHere l e (by omega) v0 x25) q_1765 rfl rfl (Nat.le_of_ble_eq_true rfl) (zdk (cc := cX12_qWordHere) (q := (167, .invokevirtual 293, 3)) tkX12_qWordHere 87 rfl) (fun y26 => ?_)
                          refine zco_if_eq (tgt := 176) (zdk (cc := cX12_qWordHere) (q := (170, .ifCond .eq 6, 3)) tkX12_qWordHere 88 rfl) rfl ?_ ?_
                          · refine zco_p tkX12_qWordHere 91 2 (pc' := 178) (L' := [(0, .ref v0)]) (S' := [.ref v0, .ref v0]) rfl ?_
                            refine zco_gr fl_12_252 rfl (zdk (cc := cX12_qWordHere) (q := (178, .getfield 252, 3)) tkX12_qWordHere 93 rfl) (fun x27 => ?_)
                            refine zco_Vi (rc := 0) (rs := 0) (mc := 0) (ms := 0) (As := [.ref x27]) (S := []) vmX12_isHere (mtX12_isHere l e (by omega) v0 x27) q_1765 rfl rfl (Nat.le_of_ble_eq_true rfl) (zdk (cc := cX12_qWordHere) (q := (181, .invokevirtual 293, 3)) tkX12_qWordHere 94 rfl) (fun y28 => ?_)
                            refine zco_if_eq (tgt := 190) (zdk (cc := cX12_qWordHere) (q := (184, .ifCond .eq 6, 3)) tkX12_qWordHere 95 rfl) rfl ?_ ?_
                            · refine zco_p tkX12_qWordHere 98 1 (pc' := 191) (L' := [(0, .ref v0)]) (S' := [.int ((-1))]) rfl ?_
                              exact zco_iret rfl rfl rfl (zdk (cc := cX12_qWordHere) (q := (191, .ireturn, 1)) tkX12_qWordHere 99 rfl)
                            · refine zco_p tkX12_qWordHere 96 1 (pc' := 189) (L' := [(0, .ref v0)]) (S' := [.int 13]) rfl ?_
                              exact zco_iret rfl rfl rfl (zdk (cc := cX12_qWordHere) (q := (189, .ireturn, 1)) tkX12_qWordHere 97 rfl)
                          · refine zco_p tkX12_qWordHere 89 1 (pc' := 175) (L' := [(0, .ref v0)]) (S' := [.int 12]) rfl ?_
                            exact zco_iret rfl rfl rfl (zdk (cc := cX12_qWordHere) (q := (175, .ireturn, 1)) tkX12_qWordHere 90 rfl)
                        · refine zco_p tkX12_qWordHere 82 1 (pc' := 161) (L' := [(0, .ref v0)]) (S' := [.int 11]) rfl ?_
                          exact zco_iret rfl rfl rfl (zdk (cc := cX12_qWordHere) (q := (161, .ireturn, 1)) tkX12_qWordHere 83 rfl)
                      · refine zco_p tkX12_qWordHere 75 1 (pc' := 147) (L' := [(0, .ref v0)]) (S' := [.int 10]) rfl ?_
                        exact zco_iret rfl rfl rfl (zdk (cc := cX12_qWordHere) (q := (147, .ireturn, 1)) tkX12_qWordHere 76 rfl)
                    · refine zco_p tkX12_qWordHere 68 1 (pc' := 133) (L' := [(0, .ref v0)]) (S' := [.int 9]) rfl ?_
                      exact zco_iret rfl rfl rfl (zdk (cc := cX12_qWordHere) (q := (133, .ireturn, 1)) tkX12_qWordHere 69 rfl)
                  · refine zco_p tkX12_qWordHere 61 1 (pc' := 119) (L' := [(0, .ref v0)]) (S' := [.int 8]) rfl ?_
                    exact zco_iret rfl rfl rfl (zdk (cc := cX12_qWordHere) (q := (119, .ireturn, 1)) tkX12_qWordHere 62 rfl)
                · refine zco_p tkX12_qWordHere 54 1 (pc' := 105) (L' := [(0, .ref v0)]) (S' := [.int 7]) rfl ?_
                  exact zco_iret rfl rfl rfl (zdk (cc := cX12_qWordHere) (q := (105, .ireturn, 1)) tkX12_qWordHere 55 rfl)
              · refine zco_p tkX12_qWordHere 47 1 (pc' := 91) (L' := [(0, .ref v0)]) (S' := [.int 6]) rfl ?_
                exact zco_iret rfl rfl rfl (zdk (cc := cX12_qWordHere) (q := (91, .ireturn, 1)) tkX12_qWordHere 48 rfl)
            · refine zco_p tkX12_qWordHere 40 1 (pc' := 77) (L' := [(0, .ref v0)]) (S' := [.int 5]) rfl ?_
              exact zco_iret rfl rfl rfl (zdk (cc := cX12_qWordHere) (q := (77, .ireturn, 1)) tkX12_qWordHere 41 rfl)
          · refine zco_p tkX12_qWordHere 33 1 (pc' := 64) (L' := [(0, .ref v0)]) (S' := [.int 4]) rfl ?_
            exact zco_iret rfl rfl rfl (zdk (cc := cX12_qWordHere) (q := (64, .ireturn, 1)) tkX12_qWordHere 34 rfl)
        · refine zco_p tkX12_qWordHere 26 1 (pc' := 51) (L' := [(0, .ref v0)]) (S' := [.int 3]) rfl ?_
          exact zco_iret rfl rfl rfl (zdk (cc := cX12_qWordHere) (q := (51, .ireturn, 1)) tkX12_qWordHere 27 rfl)
      · refine zco_p tkX12_qWordHere 19 1 (pc' := 38) (L' := [(0, .ref v0)]) (S' := [.int 2]) rfl ?_
        exact zco_iret rfl rfl rfl (zdk (cc := cX12_qWordHere) (q := (38, .ireturn, 1)) tkX12_qWordHere 20 rfl)
    · refine zco_p tkX12_qWordHere 12 1 (pc' := 25) (L' := [(0, .ref v0)]) (S' := [.int 1]) rfl ?_
      exact zco_iret rfl rfl rfl (zdk (cc := cX12_qWordHere) (q := (25, .ireturn, 1)) tkX12_qWordHere 13 rfl)
  · refine zco_p tkX12_qWordHere 5 1 (pc' := 12) (L' := [(0, .ref v0)]) (S' := [.int 0]) rfl ?_
    exact zco_iret rfl rfl rfl (zdk (cc := cX12_qWordHere) (q := (12, .ireturn, 1)) tkX12_qWordHere 6 rfl)
theorem mtX12_qWordHere (l : Launch) (d : Nat) (hd : 3 ≤ d) (v0 : Nat) : zMet l d 0 0 yX12_qWordHere cX12_qWordHere 1 (Option.some .int) [.ref v0] (X12_qWordHere v0) := by
  obtain ⟨e, rfl⟩ : ∃ e, d = e + 1 := ⟨d - 1, by omega⟩
  exact zmet_of (own := RX12) (ini := false) (by decide +kernel) rfl (fun _ => by contradiction) (Nat.le_of_ble_eq_true rfl) (coX12_qWordHere l e (by omega) v0)
abbrev iX12_qWordOf : zI := (RX12, cX12_qWordOf, 4, (Option.some .int), false)
def tX12_qWordOf : List (Nat × Instr × Nat) := [(0, .aload_n 0, 1), (1, .invokevirtual 642, 3), (4, .istore_n 3, 1), (5, .iload_n 3, 1), (6, .iload_n 1, 1), (7, .if_icmp .lt 20, 3), (10, .iload_n 3, 1), (11, .iload_n 2, 1), (12, .if_icmp .ge 15, 3), (15, .aload_n 0, 1), (16, .iload_n 3, 1), (17, .invokevirtual 645, 3), (20, .ifCond .eq 7, 3), (23, .iload_n 3, 1), (24, .goto 4, 3), (27, .iconst (-1), 1), (28, .ireturn, 1)]
set_option maxRecDepth 100000 in
theorem tkX12_qWordOf : ∀ q ∈ tX12_qWordOf, decode cX12_qWordOf q.1 = .ok q.2 := by decide +kernel
theorem vmX12_qWordOf : zVM yX12_qWordOf cX12_qWordOf 4 (Option.some .int) 2 12 := ⟨kX12_qWordOf, q_1842, q_65, q_160, ⟨_, rfl, rfl⟩, by decide +kernel, by decide⟩
def X12_qWordOf (v0 : Nat) (v1 : Int32) (v2 : Int32) : zM := z_rc 12 v0 (z_ci (X12_qWordHere v0) fun y1 => z_if (y1 < v1) (z_ret (some (.int ((-1)))))
   (z_if (v2 ≤ y1) (z_ret (some (.int ((-1)))))
   (z_rc 12 v0 (z_ci (X12_isAllowed v0 y1) fun y2 => z_if (y2 = 0) (z_ret (some (.int ((-1)))))
   (z_ret (some (.int y1)))))))
set_option maxHeartbeats 2000000 in
set_option maxRecDepth 20000 in
theorem coX12_qWordOf (l : Launch) (e : Nat) (he : 3 ≤ e) (v0 : Nat) (v1 : Int32) (v2 : Int32) : zCo l (e + 1) 0 0 iX12_qWordOf 0 [(0, .ref v0), (1, .int v1), (2, .int v2)] [] (X12_qWordOf v0 v1 v2) := by
  unfold X12_qWordOf
  refine zco_p tkX12_qWordOf 0 1 (pc' := 1) (L' := [(0, .ref v0), (1, .int v1), (2, .int v2)]) (S' := [.ref v0]) rfl ?_
  refine zco_Vi (rc := 0) (rs := 0) (mc := 0) (ms := 0) (As := []) (S := []) vmX12_qWordHere (mtX12_qWordHere l e (by omega) v0) q_1844 rfl rfl (Nat.le_of_ble_eq_true rfl) (zdk (cc := cX12_qWordOf) (q := (1, .invokevirtual 642, 3)) tkX12_qWordOf 1 rfl) (fun y1 => ?_)
  refine zco_p tkX12_qWordOf 2 3 (pc' := 7) (L' := [(3, .int y1), (0, .ref v0), (1, .int v1), (2, .int v2)]) (S' := [.int v1, .int y1]) rfl ?_
  refine zco_icmp_lt (tgt := 27) (zdk (cc := cX12_qWordOf) (q := (7, .if_icmp .lt 20, 3)) tkX12_qWordOf 5 rfl) rfl ?_ ?_
  · refine zco_p tkX12_qWordOf 15 1 (pc' := 28) (L' := [(3, .int y1), (0, .ref v0), (1, .int v1), (2, .int v2)]) (S' := [.int ((-1))]) rfl ?_
    exact zco_iret rfl rfl rfl (zdk (cc := cX12_qWordOf) (q := (28, .ireturn, 1)) tkX12_qWordOf 16 rfl)
  · refine zco_p tkX12_qWordOf 6 2 (pc' := 12) (L' := [(3, .int y1), (0, .ref v0), (1, .int v1), (2, .int v2)]) (S' := [.int v2, .int y1]) rfl ?_
    refine zco_icmp_ge (tgt := 27) (zdk (cc := cX12_qWordOf) (q := (12, .if_icmp .ge 15, 3)) tkX12_qWordOf 8 rfl) rfl ?_ ?_
    · refine zco_p tkX12_qWordOf 15 1 (pc' := 28) (L' := [(3, .int y1), (0, .ref v0), (1, .int v1), (2, .int v2)]) (S' := [.int ((-1))]) rfl ?_
      exact zco_iret rfl rfl rfl (zdk (cc := cX12_qWordOf) (q := (28, .ireturn, 1)) tkX12_qWordOf 16 rfl)
    · refine zco_p tkX12_qWordOf 9 2 (pc' := 17) (L' := [(3, .int y1), (0, .ref v0), (1, .int v1), (2, .int v2)]) (S' := [.int y1, .ref v0]) rfl ?_
      refine zco_Vi (rc := 0) (rs := 0) (mc := 0) (ms := 0) (As := [.int y1]) (S := []) vmX12_isAllowed (mtX12_isAllowed l e (by omega) v0 y1) q_1848 rfl rfl (Nat.le_of_ble_eq_true rfl) (zdk (cc := cX12_qWordOf) (q := (17, .invokevirtual 645, 3)) tkX12_qWordOf 11 rfl) (fun y2 => ?_)
      refine zco_if_eq (tgt := 27) (zdk (cc := cX12_qWordOf) (q := (20, .ifCond .eq 7, 3)) tkX12_qWordOf 12 rfl) rfl ?_ ?_
      · refine zco_p tkX12_qWordOf 15 1 (pc' := 28) (L' := [(3, .int y1), (0, .ref v0), (1, .int v1), (2, .int v2)]) (S' := [.int ((-1))]) rfl ?_
        exact zco_iret rfl rfl rfl (zdk (cc := cX12_qWordOf) (q := (28, .ireturn, 1)) tkX12_qWordOf 16 rfl)
      · refine zco_p tkX12_qWordOf 13 2 (pc' := 28) (L' := [(3, .int y1), (0, .ref v0), (1, .int v1), (2, .int v2)]) (S' := [.int y1]) rfl ?_
        exact zco_iret rfl rfl rfl (zdk (cc := cX12_qWordOf) (q := (28, .ireturn, 1)) tkX12_qWordOf 16 rfl)
theorem mtX12_qWordOf (l : Launch) (d : Nat) (hd : 4 ≤ d) (v0 : Nat) (v1 : Int32) (v2 : Int32) : zMet l d 0 0 yX12_qWordOf cX12_qWordOf 4 (Option.some .int) [.ref v0, .int v1, .int v2] (X12_qWordOf v0 v1 v2) := by
  obtain ⟨e, rfl⟩ : ∃ e, d = e + 1 := ⟨d - 1, by omega⟩
  exact zmet_of (own := RX12) (ini := false) (by decide +kernel) rfl (fun _ => by contradiction) (Nat.le_of_ble_eq_true rfl) (coX12_qWordOf l e (by omega) v0 v1 v2)
abbrev iX12_qAsksWord : zI := (RX12, cX12_qAsksWord, 2, (Option.none : Option FieldType), false)
def tX12_qAsksWord : List (Nat × Instr × Nat) := [(0, .iload_n 1, 1), (1, .tableswitch 210 0 12 #[67, 78, 89, 100, 111, 122, 133, 144, 155, 166, 177, 188, 199], 67), (68, .aload_n 0, 1), (69, .aload_n 0, 1), (70, .getfield 213, 3), (73, .invokevirtual 341, 3), (76, .goto 143, 3), (79, .aload_n 0, 1), (80, .aload_n 0, 1), (81, .getfield 216, 3), (84, .invokevirtual 341, 3), (87, .goto 132, 3), (90, .aload_n 0, 1), (91, .aload_n 0, 1), (92, .getfield 219, 3), (95, .invokevirtual 341, 3), (98, .goto 121, 3), (101, .aload_n 0, 1), (102, .aload_n 0, 1), (103, .getfield 222, 3), (106, .invokevirtual 341, 3), (109, .goto 110, 3), (112, .aload_n 0, 1), (113, .aload_n 0, 1), (114, .getfield 225, 3), (117, .invokevirtual 341, 3), (120, .goto 99, 3), (123, .aload_n 0, 1), (124, .aload_n 0, 1), (125, .getfield 228, 3), (128, .invokevirtual 341, 3), (131, .goto 88, 3), (134, .aload_n 0, 1), (135, .aload_n 0, 1), (136, .getfield 231, 3), (139, .invokevirtual 341, 3), (142, .goto 77, 3), (145, .aload_n 0, 1), (146, .aload_n 0, 1), (147, .getfield 234, 3), (150, .invokevirtual 341, 3), (153, .goto 66, 3), (156, .aload_n 0, 1), (157, .aload_n 0, 1), (158, .getfield 237, 3), (161, .invokevirtual 341, 3), (164, .goto 55, 3), (167, .aload_n 0, 1), (168, .aload_n 0, 1), (169, .getfield 240, 3), (172, .invokevirtual 341, 3), (175, .goto 44, 3), (178, .aload_n 0, 1), (179, .aload_n 0, 1), (180, .getfield 243, 3), (183, .invokevirtual 341, 3), (186, .goto 33, 3), (189, .aload_n 0, 1), (190, .aload_n 0, 1), (191, .getfield 246, 3), (194, .invokevirtual 341, 3), (197, .goto 22, 3), (200, .aload_n 0, 1), (201, .aload_n 0, 1), (202, .getfield 249, 3), (205, .invokevirtual 341, 3), (208, .goto 11, 3), (211, .aload_n 0, 1), (212, .aload_n 0, 1), (213, .getfield 252, 3), (216, .invokevirtual 341, 3), (219, .return_, 1)]
set_option maxRecDepth 100000 in
theorem tkX12_qAsksWord : ∀ q ∈ tX12_qAsksWord, decode cX12_qAsksWord q.1 = .ok q.2 := by decide +kernel
theorem vmX12_qAsksWord : zVM yX12_qAsksWord cX12_qAsksWord 2 (Option.none : Option FieldType) 1 12 := ⟨kX12_qAsksWord, q_1865, q_70, q_160, ⟨_, rfl, rfl⟩, by decide +kernel, by decide⟩
def X12_qAsksWord_S1 (v0 : Nat) : Nat → zM := fun j => match j with
  | 0 => z_gr 12 90 v0 fun x2 => z_rc 12 v0 (z_cv (X12_asks v0 x2) (z_ret none))
  | 1 => z_gr 12 91 v0 fun x3 => z_rc 12 v0 (z_cv (X12_asks v0 x3) (z_ret none))
  | 2 => z_gr 12 92 v0 fun x4 => z_rc 12 v0 (z_cv (X12_asks v0 x4) (z_ret none))
  | 3 => z_gr 12 93 v0 fun x5 => z_rc 12 v0 (z_cv (X12_asks v0 x5) (z_ret none))
  | 4 => z_gr 12 94 v0 fun x6 => z_rc 12 v0 (z_cv (X12_asks v0 x6) (z_ret none))
  | 5 => z_gr 12 95 v0 fun x7 => z_rc 12 v0 (z_cv (X12_asks v0 x7) (z_ret none))
  | 6 => z_gr 12 96 v0 fun x8 => z_rc 12 v0 (z_cv (X12_asks v0 x8) (z_ret none))
  | 7 => z_gr 12 97 v0 fun x9 => z_rc 12 v0 (z_cv (X12_asks v0 x9) (z_ret none))
  | 8 => z_gr 12 98 v0 fun x10 => z_rc 12 v0 (z_cv (X12_asks v0 x10) (z_ret none))
  | 9 => z_gr 12 99 v0 fun x11 => z_rc 12 v0 (z_cv (X12_asks v0 x11) (z_ret none))
  | 10 => z_gr 12 100 v0 fun x12 => z_rc 12 v0 (z_cv (X12_asks v0 x12) (z_ret none))
  | 11 => z_gr 12 101 v0 fun x13 => z_rc 12 v0 (z_cv (X12_asks v0 x13) (z_ret none))
  | 12 => z_gr 12 102 v0 fun x14 => z_rc 12 v0 (z_cv (X12_asks v0 x14) (z_ret none))
  | _ => fun _ => none
def X12_qAsksWord (v0 : Nat) (v1 : Int32) : zM := z_if (v1.toInt < 0 ∨ 12 < v1.toInt) (z_gr 12 103 v0 fun x1 => z_rc 12 v0 (z_cv (X12_asks v0 x1) (z_ret none)))
   (X12_qAsksWord_S1 v0 (v1.toInt - 0).toNat)
set_option maxHeartbeats 2000000 in
set_option maxRecDepth 20000 in
theorem coX12_qAsksWord (l : Launch) (e : Nat) (he : 4 ≤ e) (v0 : Nat) (v1 : Int32) : zCo l (e + 1) 0 0 iX12_qAsksWord 0 [(0, .ref v0), (1, .int v1)] [] (X12_qAsksWord v0 v1) := by
  unfold X12_qAsksWord
  refine zco_p tkX12_qAsksWord 0 1 (pc' := 1) (L' := [(0, .ref v0), (1, .int v1)]) (S' := [.int v1]) rfl ?_
  refine @zco_tab l (e + 1) 0 0 iX12_qAsksWord 1 [(0, .ref v0), (1, .int v1)] [] _ v1 210 0 12 #[67, 78, 89, 100, 111, 122, 133, 144, 155, 166, 177, 188, 199] 67 (zdk (cc := cX12_qAsksWord) (q := (1, .tableswitch 210 0 12 #[67, 78, 89, 100, 111, 122, 133, 144, 155, 166, 177, 188, 199], 67)) tkX12_qAsksWord 1 rfl) 211 rfl [68, 79, 90, 101, 112, 123, 134, 145, 156, 167, 178, 189, 200] (X12_qAsksWord_S1 v0) (by decide) (by decide) ?_ (fun j t ht => ?_)
  · refine zco_p tkX12_qAsksWord 67 2 (pc' := 213) (L' := [(0, .ref v0), (1, .int v1)]) (S' := [.ref v0, .ref v0]) rfl ?_
    refine zco_gr fl_12_252 rfl (zdk (cc := cX12_qAsksWord) (q := (213, .getfield 252, 3)) tkX12_qAsksWord 69 rfl) (fun x1 => ?_)
    refine zco_Vv (rc := 0) (rs := 0) (mc := 0) (ms := 0) (As := [.ref x1]) (S := []) vmX12_asks (mtX12_asks l e (by omega) v0 x1) q_1786 rfl rfl (Nat.le_of_ble_eq_true rfl) (zdk (cc := cX12_qAsksWord) (q := (216, .invokevirtual 341, 3)) tkX12_qAsksWord 70 rfl) ?_
    exact zco_vret rfl rfl rfl (zdk (cc := cX12_qAsksWord) (q := (219, .return_, 1)) tkX12_qAsksWord 71 rfl)
  · match j, ht with
    | 0, ht =>
      cases ht
      show zCo l (e + 1) 0 0 iX12_qAsksWord 68 [(0, .ref v0), (1, .int v1)] [] (z_gr 12 90 v0 fun x2 => z_rc 12 v0 (z_cv (X12_asks v0 x2) (z_ret none)))
      refine zco_p tkX12_qAsksWord 2 2 (pc' := 70) (L' := [(0, .ref v0), (1, .int v1)]) (S' := [.ref v0, .ref v0]) rfl ?_
      refine zco_gr fl_12_213 rfl (zdk (cc := cX12_qAsksWord) (q := (70, .getfield 213, 3)) tkX12_qAsksWord 4 rfl) (fun x2 => ?_)
      refine zco_Vv (rc := 0) (rs := 0) (mc := 0) (ms := 0) (As := [.ref x2]) (S := []) vmX12_asks (mtX12_asks l e (by omega) v0 x2) q_1786 rfl rfl (Nat.le_of_ble_eq_true rfl) (zdk (cc := cX12_qAsksWord) (q := (73, .invokevirtual 341, 3)) tkX12_qAsksWord 5 rfl) ?_
      refine zco_p tkX12_qAsksWord 6 1 (pc' := 219) (L' := [(0, .ref v0), (1, .int v1)]) (S' := []) rfl ?_
      exact zco_vret rfl rfl rfl (zdk (cc := cX12_qAsksWord) (q := (219, .return_, 1)) tkX12_qAsksWord 71 rfl)
    | 1, ht =>
      cases ht
      show zCo l (e + 1) 0 0 iX12_qAsksWord 79 [(0, .ref v0), (1, .int v1)] [] (z_gr 12 91 v0 fun x3 => z_rc 12 v0 (z_cv (X12_asks v0 x3) (z_ret none)))
      refine zco_p tkX12_qAsksWord 7 2 (pc' := 81) (L' := [(0, .ref v0), (1, .int v1)]) (S' := [.ref v0, .ref v0]) rfl ?_
      refine zco_gr fl_12_216 rfl (zdk (cc := cX12_qAsksWord) (q := (81, .getfield 216, 3)) tkX12_qAsksWord 9 rfl) (fun x3 => ?_)
      refine zco_Vv (rc := 0) (rs := 0) (mc := 0) (ms := 0) (As := [.ref x3]) (S := []) vmX12_asks (mtX12_asks l e (by omega) v0 x3) q_1786 rfl rfl (Nat.le_of_ble_eq_true rfl) (zdk (cc := cX12_qAsksWord) (q := (84, .invokevirtual 341, 3)) tkX12_qAsksWord 10 rfl) ?_
      refine zco_p tkX12_qAsksWord 11 1 (pc' := 219) (L' := [(0, .ref v0), (1, .int v1)]) (S' := []) rfl ?_
      exact zco_vret rfl rfl rfl (zdk (cc := cX12_qAsksWord) (q := (219, .return_, 1)) tkX12_qAsksWord 71 rfl)
    | 2, ht =>
      cases ht
      show zCo l (e + 1) 0 0 iX12_qAsksWord 90 [(0, .ref v0), (1, .int v1)] [] (z_gr 12 92 v0 fun x4 => z_rc 12 v0 (z_cv (X12_asks v0 x4) (z_ret none)))
      refine zco_p tkX12_qAsksWord 12 2 (pc' := 92) (L' := [(0, .ref v0), (1, .int v1)]) (S' := [.ref v0, .ref v0]) rfl ?_
      refine zco_gr fl_12_219 rfl (zdk (cc := cX12_qAsksWord) (q := (92, .getfield 219, 3)) tkX12_qAsksWord 14 rfl) (fun x4 => ?_)
      refine zco_Vv (rc := 0) (rs := 0) (mc := 0) (ms := 0) (As := [.ref x4]) (S := []) vmX12_asks (mtX12_asks l e (by omega) v0 x4) q_1786 rfl rfl (Nat.le_of_ble_eq_true rfl) (zdk (cc := cX12_qAsksWord) (q := (95, .invokevirtual 341, 3)) tkX12_qAsksWord 15 rfl) ?_
      refine zco_p tkX12_qAsksWord 16 1 (pc' := 219) (L' := [(0, .ref v0), (1, .int v1)]) (S' := []) rfl ?_
      exact zco_vret rfl rfl rfl (zdk (cc := cX12_qAsksWord) (q := (219, .return_, 1)) tkX12_qAsksWord 71 rfl)
    | 3, ht =>
      cases ht
      show zCo l (e + 1) 0 0 iX12_qAsksWord 101 [(0, .ref v0), (1, .int v1)] [] (z_gr 12 93 v0 fun x5 => z_rc 12 v0 (z_cv (X12_asks v0 x5) (z_ret none)))
      refine zco_p tkX12_qAsksWord 17 2 (pc' := 103) (L' := [(0, .ref v0), (1, .int v1)]) (S' := [.ref v0, .ref v0]) rfl ?_
      refine zco_gr fl_12_222 rfl (zdk (cc := cX12_qAsksWord) (q := (103, .getfield 222, 3)) tkX12_qAsksWord 19 rfl) (fun x5 => ?_)
      refine zco_Vv (rc := 0) (rs := 0) (mc := 0) (ms := 0) (As := [.ref x5]) (S := []) vmX12_asks (mtX12_asks l e (by omega) v0 x5) q_1786 rfl rfl (Nat.le_of_ble_eq_true rfl) (zdk (cc := cX12_qAsksWord) (q := (106, .invokevirtual 341, 3)) tkX12_qAsksWord 20 rfl) ?_
      refine zco_p tkX12_qAsksWord 21 1 (pc' := 219) (L' := [(0, .ref v0), (1, .int v1)]) (S' := []) rfl ?_
      exact zco_vret rfl rfl rfl (zdk (cc := cX12_qAsksWord) (q := (219, .return_, 1)) tkX12_qAsksWord 71 rfl)
    | 4, ht =>
      cases ht
      show zCo l (e + 1) 0 0 iX12_qAsksWord 112 [(0, .ref v0), (1, .int v1)] [] (z_gr 12 94 v0 fun x6 => z_rc 12 v0 (z_cv (X12_asks v0 x6) (z_ret none)))
      refine zco_p tkX12_qAsksWord 22 2 (pc' := 114) (L' := [(0, .ref v0), (1, .int v1)]) (S' := [.ref v0, .ref v0]) rfl ?_
      refine zco_gr fl_12_225 rfl (zdk (cc := cX12_qAsksWord) (q := (114, .getfield 225, 3)) tkX12_qAsksWord 24 rfl) (fun x6 => ?_)
      refine zco_Vv (rc := 0) (rs := 0) (mc := 0) (ms := 0) (As := [.ref x6]) (S := []) vmX12_asks (mtX12_asks l e (by omega) v0 x6) q_1786 rfl rfl (Nat.le_of_ble_eq_true rfl) (zdk (cc := cX12_qAsksWord) (q := (117, .invokevirtual 341, 3)) tkX12_qAsksWord 25 rfl) ?_
      refine zco_p tkX12_qAsksWord 26 1 (pc' := 219) (L' := [(0, .ref v0), (1, .int v1)]) (S' := []) rfl ?_
      exact zco_vret rfl rfl rfl (zdk (cc := cX12_qAsksWord) (q := (219, .return_, 1)) tkX12_qAsksWord 71 rfl)
    | 5, ht =>
      cases ht
      show zCo l (e + 1) 0 0 iX12_qAsksWord 123 [(0, .ref v0), (1, .int v1)] [] (z_gr 12 95 v0 fun x7 => z_rc 12 v0 (z_cv (X12_asks v0 x7) (z_ret none)))
      refine zco_p tkX12_qAsksWord 27 2 (pc' := 125) (L' := [(0, .ref v0), (1, .int v1)]) (S' := [.ref v0, .ref v0]) rfl ?_
      refine zco_gr fl_12_228 rfl (zdk (cc := cX12_qAsksWord) (q := (125, .getfield 228, 3)) tkX12_qAsksWord 29 rfl) (fun x7 => ?_)
      refine zco_Vv (rc := 0) (rs := 0) (mc := 0) (ms := 0) (As := [.ref x7]) (S := []) vmX12_asks (mtX12_asks l e (by omega) v0 x7) q_1786 rfl rfl (Nat.le_of_ble_eq_true rfl) (zdk (cc := cX12_qAsksWord) (q := (128, .invokevirtual 341, 3)) tkX12_qAsksWord 30 rfl) ?_
      refine zco_p tkX12_qAsksWord 31 1 (pc' := 219) (L' := [(0, .ref v0), (1, .int v1)]) (S' := []) rfl ?_
      exact zco_vret rfl rfl rfl (zdk (cc := cX12_qAsksWord) (q := (219, .return_, 1)) tkX12_qAsksWord 71 rfl)
    | 6, ht =>
      cases ht
      show zCo l (e + 1) 0 0 iX12_qAsksWord 134 [(0, .ref v0), (1, .int v1)] [] (z_gr 12 96 v0 fun x8 => z_rc 12 v0 (z_cv (X12_asks v0 x8) (z_ret none)))
      refine zco_p tkX12_qAsksWord 32 2 (pc' := 136) (L' := [(0, .ref v0), (1, .int v1)]) (S' := [.ref v0, .ref v0]) rfl ?_
      refine zco_gr fl_12_231 rfl (zdk (cc := cX12_qAsksWord) (q := (136, .getfield 231, 3)) tkX12_qAsksWord 34 rfl) (fun x8 => ?_)
      refine zco_Vv (rc := 0) (rs := 0) (mc := 0) (ms := 0) (As := [.ref x8]) (S := []) vmX12_asks (mtX12_asks l e (by omega) v0 x8) q_1786 rfl rfl (Nat.le_of_ble_eq_true rfl) (zdk (cc := cX12_qAsksWord) (q := (139, .invokevirtual 341, 3)) tkX12_qAsksWord 35 rfl) ?_
      refine zco_p tkX12_qAsksWord 36 1 (pc' := 219) (L' := [(0, .ref v0), (1, .int v1)]) (S' := []) rfl ?_
      exact zco_vret rfl rfl rfl (zdk (cc := cX12_qAsksWord) (q := (219, .return_, 1)) tkX12_qAsksWord 71 rfl)
    | 7, ht =>
      cases ht
      show zCo l (e + 1) 0 0 iX12_qAsksWord 145 [(0, .ref v0), (1, .int v1)] [] (z_gr 12 97 v0 fun x9 => z_rc 12 v0 (z_cv (X12_asks v0 x9) (z_ret none)))
      refine zco_p tkX12_qAsksWord 37 2 (pc' := 147) (L' := [(0, .ref v0), (1, .int v1)]) (S' := [.ref v0, .ref v0]) rfl ?_
      refine zco_gr fl_12_234 rfl (zdk (cc := cX12_qAsksWord) (q := (147, .getfield 234, 3)) tkX12_qAsksWord 39 rfl) (fun x9 => ?_)
      refine zco_Vv (rc := 0) (rs := 0) (mc := 0) (ms := 0) (As := [.ref x9]) (S := []) vmX12_asks (mtX12_asks l e (by omega) v0 x9) q_1786 rfl rfl (Nat.le_of_ble_eq_true rfl) (zdk (cc := cX12_qAsksWord) (q := (150, .invokevirtual 341, 3)) tkX12_qAsksWord 40 rfl) ?_
      refine zco_p tkX12_qAsksWord 41 1 (pc' := 219) (L' := [(0, .ref v0), (1, .int v1)]) (S' := []) rfl ?_
      exact zco_vret rfl rfl rfl (zdk (cc := cX12_qAsksWord) (q := (219, .return_, 1)) tkX12_qAsksWord 71 rfl)
    | 8, ht =>
      cases ht
      show zCo l (e + 1) 0 0 iX12_qAsksWord 156 [(0, .ref v0), (1, .int v1)] [] (z_gr 12 98 v0 fun x10 => z_rc 12 v0 (z_cv (X12_asks v0 x10) (z_ret none)))
      refine zco_p tkX12_qAsksWord 42 2 (pc' := 158) (L' := [(0, .ref v0), (1, .int v1)]) (S' := [.ref v0, .ref v0]) rfl ?_
      refine zco_gr fl_12_237 rfl (zdk (cc := cX12_qAsksWord) (q := (158, .getfield 237, 3)) tkX12_qAsksWord 44 rfl) (fun x10 => ?_)
      refine zco_Vv (rc := 0) (rs := 0) (mc := 0) (ms := 0) (As := [.ref x10]) (S := []) vmX12_asks (mtX12_asks l e (by omega) v0 x10) q_1786 rfl rfl (Nat.le_of_ble_eq_true rfl) (zdk (cc := cX12_qAsksWord) (q := (161, .invokevirtual 341, 3)) tkX12_qAsksWord 45 rfl) ?_
      refine zco_p tkX12_qAsksWord 46 1 (pc' := 219) (L' := [(0, .ref v0), (1, .int v1)]) (S' := []) rfl ?_
      exact zco_vret rfl rfl rfl (zdk (cc := cX12_qAsksWord) (q := (219, .return_, 1)) tkX12_qAsksWord 71 rfl)
    | 9, ht =>
      cases ht
      show zCo l (e + 1) 0 0 iX12_qAsksWord 167 [(0, .ref v0), (1, .int v1)] [] (z_gr 12 99 v0 fun x11 => z_rc 12 v0 (z_cv (X12_asks v0 x11) (z_ret none)))
      refine zco_p tkX12_qAsksWord 47 2 (pc' := 169) (L' := [(0, .ref v0), (1, .int v1)]) (S' := [.ref v0, .ref v0]) rfl ?_
      refine zco_gr fl_12_240 rfl (zdk (cc := cX12_qAsksWord) (q := (169, .getfield 240, 3)) tkX12_qAsksWord 49 rfl) (fun x11 => ?_)
      refine zco_Vv (rc := 0) (rs := 0) (mc := 0) (ms := 0) (As := [.ref x11]) (S := []) vmX12_asks (mtX12_asks l e (by omega) v0 x11) q_1786 rfl rfl (Nat.le_of_ble_eq_true rfl) (zdk (cc := cX12_qAsksWord) (q := (172, .invokevirtual 341, 3)) tkX12_qAsksWord 50 rfl) ?_
      refine zco_p tkX12_qAsksWord 51 1 (pc' := 219) (L' := [(0, .ref v0), (1, .int v1)]) (S' := []) rfl ?_
      exact zco_vret rfl rfl rfl (zdk (cc := cX12_qAsksWord) (q := (219, .return_, 1)) tkX12_qAsksWord 71 rfl)
    | 10, ht =>
      cases ht
      show zCo l (e + 1) 0 0 iX12_qAsksWord 178 [(0, .ref v0), (1, .int v1)] [] (z_gr 12 100 v0 fun x12 => z_rc 12 v0 (z_cv (X12_asks v0 x12) (z_ret none)))
      refine zco_p tkX12_qAsksWord 52 2 (pc' := 180) (L' := [(0, .ref v0), (1, .int v1)]) (S' := [.ref v0, .ref v0]) rfl ?_
      refine zco_gr fl_12_243 rfl (zdk (cc := cX12_qAsksWord) (q := (180, .getfield 243, 3)) tkX12_qAsksWord 54 rfl) (fun x12 => ?_)
      refine zco_Vv (rc := 0) (rs := 0) (mc := 0) (ms := 0) (As := [.ref x12]) (S := []) vmX12_asks (mtX12_asks l e (by omega) v0 x12) q_1786 rfl rfl (Nat.le_of_ble_eq_true rfl) (zdk (cc := cX12_qAsksWord) (q := (183, .invokevirtual 341, 3)) tkX12_qAsksWord 55 rfl) ?_
      refine zco_p tkX12_qAsksWord 56 1 (pc' := 219) (L' := [(0, .ref v0), (1, .int v1)]) (S' := []) rfl ?_
      exact zco_vret rfl rfl rfl (zdk (cc := cX12_qAsksWord) (q := (219, .return_, 1)) tkX12_qAsksWord 71 rfl)
    | 11, ht =>
      cases ht
      show zCo l (e + 1) 0 0 iX12_qAsksWord 189 [(0, .ref v0), (1, .int v1)] [] (z_gr 12 101 v0 fun x13 => z_rc 12 v0 (z_cv (X12_asks v0 x13) (z_ret none)))
      refine zco_p tkX12_qAsksWord 57 2 (pc' := 191) (L' := [(0, .ref v0), (1, .int v1)]) (S' := [.ref v0, .ref v0]) rfl ?_
      refine zco_gr fl_12_246 rfl (zdk (cc := cX12_qAsksWord) (q := (191, .getfield 246, 3)) tkX12_qAsksWord 59 rfl) (fun x13 => ?_)
      refine zco_Vv (rc := 0) (rs := 0) (mc := 0) (ms := 0) (As := [.ref x13]) (S := []) vmX12_asks (mtX12_asks l e (by omega) v0 x13) q_1786 rfl rfl (Nat.le_of_ble_eq_true rfl) (zdk (cc := cX12_qAsksWord) (q := (194, .invokevirtual 341, 3)) tkX12_qAsksWord 60 rfl) ?_
      refine zco_p tkX12_qAsksWord 61 1 (pc' := 219) (L' := [(0, .ref v0), (1, .int v1)]) (S' := []) rfl ?_
      exact zco_vret rfl rfl rfl (zdk (cc := cX12_qAsksWord) (q := (219, .return_, 1)) tkX12_qAsksWord 71 rfl)
    | 12, ht =>
      cases ht
      show zCo l (e + 1) 0 0 iX12_qAsksWord 200 [(0, .ref v0), (1, .int v1)] [] (z_gr 12 102 v0 fun x14 => z_rc 12 v0 (z_cv (X12_asks v0 x14) (z_ret none)))
      refine zco_p tkX12_qAsksWord 62 2 (pc' := 202) (L' := [(0, .ref v0), (1, .int v1)]) (S' := [.ref v0, .ref v0]) rfl ?_
      refine zco_gr fl_12_249 rfl (zdk (cc := cX12_qAsksWord) (q := (202, .getfield 249, 3)) tkX12_qAsksWord 64 rfl) (fun x14 => ?_)
      refine zco_Vv (rc := 0) (rs := 0) (mc := 0) (ms := 0) (As := [.ref x14]) (S := []) vmX12_asks (mtX12_asks l e (by omega) v0 x14) q_1786 rfl rfl (Nat.le_of_ble_eq_true rfl) (zdk (cc := cX12_qAsksWord) (q := (205, .invokevirtual 341, 3)) tkX12_qAsksWord 65 rfl) ?_
      refine zco_p tkX12_qAsksWord 66 1 (pc' := 219) (L' := [(0, .ref v0), (1, .int v1)]) (S' := []) rfl ?_
      exact zco_vret rfl rfl rfl (zdk (cc := cX12_qAsksWord) (q := (219, .return_, 1)) tkX12_qAsksWord 71 rfl)
    | j + 13, ht => exact absurd ht (by simp)
theorem mtX12_qAsksWord (l : Launch) (d : Nat) (hd : 5 ≤ d) (v0 : Nat) (v1 : Int32) : zMet l d 0 0 yX12_qAsksWord cX12_qAsksWord 2 (Option.none : Option FieldType) [.ref v0, .int v1] (X12_qAsksWord v0 v1) := by
  obtain ⟨e, rfl⟩ : ∃ e, d = e + 1 := ⟨d - 1, by omega⟩
  exact zmet_of (own := RX12) (ini := false) (by decide +kernel) rfl (fun _ => by contradiction) (Nat.le_of_ble_eq_true rfl) (coX12_qAsksWord l e (by omega) v0 v1)
abbrev iX12_qDrops : zI := (RX12, cX12_qDrops, 1, (Option.none : Option FieldType), false)
def tX12_qDrops : List (Nat × Instr × Nat) := [(0, .aload_n 0, 1), (1, .dup, 1), (2, .getfield 356, 3), (5, .iconst 1, 1), (6, .isub, 1), (7, .putfield 356, 3), (10, .aload_n 0, 1), (11, .aload_n 0, 1), (12, .getfield 258, 3), (15, .aload_n 0, 1), (16, .getfield 356, 3), (19, .iaload, 1), (20, .invokevirtual 633, 3), (23, .return_, 1)]
set_option maxRecDepth 100000 in
theorem tkX12_qDrops : ∀ q ∈ tX12_qDrops, decode cX12_qDrops q.1 = .ok q.2 := by decide +kernel
theorem vmX12_qDrops : zVM yX12_qDrops cX12_qDrops 1 (Option.none : Option FieldType) 0 12 := ⟨kX12_qDrops, q_1873, q_72, q_160, ⟨_, rfl, rfl⟩, by decide +kernel, by decide⟩
def X12_qDrops (v0 : Nat) : zM := z_gi 12 107 v0 fun x1 => z_pi 12 107 v0 (x1 - 1) (z_gr 12 106 v0 fun x2 => z_gi 12 107 v0 fun x3 => z_la 20 x2 x3 fun x4 => z_rc 12 v0 (z_cv (X12_qCode v0 x4) (z_ret none)))
set_option maxHeartbeats 2000000 in
set_option maxRecDepth 20000 in
theorem coX12_qDrops (l : Launch) (e : Nat) (he : 1 ≤ e) (v0 : Nat) : zCo l (e + 1) 0 0 iX12_qDrops 0 [(0, .ref v0)] [] (X12_qDrops v0) := by
  unfold X12_qDrops
  refine zco_p tkX12_qDrops 0 2 (pc' := 2) (L' := [(0, .ref v0)]) (S' := [.ref v0, .ref v0]) rfl ?_
  refine zco_gi fl_12_356 rfl (zdk (cc := cX12_qDrops) (q := (2, .getfield 356, 3)) tkX12_qDrops 2 rfl) (fun x1 => ?_)
  refine zco_p tkX12_qDrops 3 2 (pc' := 7) (L' := [(0, .ref v0)]) (S' := [.int (x1 - 1), .ref v0]) rfl ?_
  refine zco_pi fl_12_356 rfl rfl (zdk (cc := cX12_qDrops) (q := (7, .putfield 356, 3)) tkX12_qDrops 5 rfl) ?_
  refine zco_p tkX12_qDrops 6 2 (pc' := 12) (L' := [(0, .ref v0)]) (S' := [.ref v0, .ref v0]) rfl ?_
  refine zco_gr fl_12_258 rfl (zdk (cc := cX12_qDrops) (q := (12, .getfield 258, 3)) tkX12_qDrops 8 rfl) (fun x2 => ?_)
  refine zco_p tkX12_qDrops 9 1 (pc' := 16) (L' := [(0, .ref v0)]) (S' := [.ref v0, .ref x2, .ref v0]) rfl ?_
  refine zco_gi fl_12_356 rfl (zdk (cc := cX12_qDrops) (q := (16, .getfield 356, 3)) tkX12_qDrops 10 rfl) (fun x3 => ?_)
  refine zco_iaload (zdk (cc := cX12_qDrops) (q := (19, .iaload, 1)) tkX12_qDrops 11 rfl) (fun x4 => ?_)
  refine zco_Vv (rc := 0) (rs := 0) (mc := 0) (ms := 0) (As := [.int x4]) (S := []) vmX12_qCode (mtX12_qCode l e (by omega) v0 x4) q_1828 rfl rfl (Nat.le_of_ble_eq_true rfl) (zdk (cc := cX12_qDrops) (q := (20, .invokevirtual 633, 3)) tkX12_qDrops 12 rfl) ?_
  exact zco_vret rfl rfl rfl (zdk (cc := cX12_qDrops) (q := (23, .return_, 1)) tkX12_qDrops 13 rfl)
theorem mtX12_qDrops (l : Launch) (d : Nat) (hd : 2 ≤ d) (v0 : Nat) : zMet l d 0 0 yX12_qDrops cX12_qDrops 1 (Option.none : Option FieldType) [.ref v0] (X12_qDrops v0) := by
  obtain ⟨e, rfl⟩ : ∃ e, d = e + 1 := ⟨d - 1, by omega⟩
  exact zmet_of (own := RX12) (ini := false) (by decide +kernel) rfl (fun _ => by contradiction) (Nat.le_of_ble_eq_true rfl) (coX12_qDrops l e (by omega) v0)
abbrev iX12_qEndsPart : zI := (RX12, cX12_qEndsPart, 1, (Option.none : Option FieldType), false)
def tX12_qEndsPart : List (Nat × Instr × Nat) := [(0, .aload_n 0, 1), (1, .getfield 270, 3), (4, .ifCond .ne 47, 3), (7, .aload_n 0, 1), (8, .getfield 356, 3), (11, .aload_n 0, 1), (12, .getfield 362, 3), (15, .if_icmp .le 36, 3), (18, .aload_n 0, 1), (19, .getfield 258, 3), (22, .aload_n 0, 1), (23, .getfield 356, 3), (26, .iconst 1, 1), (27, .isub, 1), (28, .iaload, 1), (29, .bipush 60, 2), (31, .if_icmp .lt 20, 3), (34, .aload_n 0, 1), (35, .dup, 1), (36, .getfield 359, 3), (39, .iconst 1, 1), (40, .isub, 1), (41, .putfield 359, 3), (44, .aload_n 0, 1), (45, .invokevirtual 639, 3), (48, .goto (-48), 3), (51, .return_, 1)]
set_option maxRecDepth 100000 in
theorem tkX12_qEndsPart : ∀ q ∈ tX12_qEndsPart, decode cX12_qEndsPart q.1 = .ok q.2 := by decide +kernel
theorem vmX12_qEndsPart : zVM yX12_qEndsPart cX12_qEndsPart 1 (Option.none : Option FieldType) 0 12 := ⟨kX12_qEndsPart, q_1869, q_71, q_160, ⟨_, rfl, rfl⟩, by decide +kernel, by decide⟩
def X12_qEndsPart_B0 (v0 : Nat) (r0 : Unit → zM) : zM := z_gi 12 5 v0 fun x1 => z_if (x1 = 0) (z_gi 12 107 v0 fun x2 => z_gi 12 109 v0 fun x3 => z_if (x2 ≤ x3) (z_ret none)
   (z_gr 12 106 v0 fun x4 => z_gi 12 107 v0 fun x5 => z_la 20 x4 (x5 - 1) fun x6 => z_if (x6 < 60) (z_ret none)
   (z_gi 12 108 v0 fun x7 => z_pi 12 108 v0 (x7 - 1) (z_rc 12 v0 (z_cv (X12_qDrops v0) (r0 (())))))))
   (z_ret none)
set_option maxHeartbeats 2000000 in
set_option maxRecDepth 20000 in
theorem coX12_qEndsPart_B0 (l : Launch) (e : Nat) (he : 2 ≤ e) (v0 : Nat) (r0 : Unit → zM) (hr0 : ∀ x : Unit, zCo l (e + 1) 0 0 iX12_qEndsPart 0 [(0, .ref v0)] [] (r0 x)) : zCo l (e + 1) 0 0 iX12_qEndsPart 0 [(0, .ref v0)] [] (X12_qEndsPart_B0 v0 r0) := by
  unfold X12_qEndsPart_B0
  refine zco_p tkX12_qEndsPart 0 1 (pc' := 1) (L' := [(0, .ref v0)]) (S' := [.ref v0]) rfl ?_
  refine zco_gi fl_12_270 rfl (zdk (cc := cX12_qEndsPart) (q := (1, .getfield 270, 3)) tkX12_qEndsPart 1 rfl) (fun x1 => ?_)
  refine zco_if_ne (tgt := 51) (zdk (cc := cX12_qEndsPart) (q := (4, .ifCond .ne 47, 3)) tkX12_qEndsPart 2 rfl) rfl ?_ ?_
  · exact zco_vret rfl rfl rfl (zdk (cc := cX12_qEndsPart) (q := (51, .return_, 1)) tkX12_qEndsPart 26 rfl)
  · refine zco_p tkX12_qEndsPart 3 1 (pc' := 8) (L' := [(0, .ref v0)]) (S' := [.ref v0]) rfl ?_
    refine zco_gi fl_12_356 rfl (zdk (cc := cX12_qEndsPart) (q := (8, .getfield 356, 3)) tkX12_qEndsPart 4 rfl) (fun x2 => ?_)
    refine zco_p tkX12_qEndsPart 5 1 (pc' := 12) (L' := [(0, .ref v0)]) (S' := [.ref v0, .int x2]) rfl ?_
    refine zco_gi fl_12_362 rfl (zdk (cc := cX12_qEndsPart) (q := (12, .getfield 362, 3)) tkX12_qEndsPart 6 rfl) (fun x3 => ?_)
    refine zco_icmp_le (tgt := 51) (zdk (cc := cX12_qEndsPart) (q := (15, .if_icmp .le 36, 3)) tkX12_qEndsPart 7 rfl) rfl ?_ ?_
    · exact zco_vret rfl rfl rfl (zdk (cc := cX12_qEndsPart) (q := (51, .return_, 1)) tkX12_qEndsPart 26 rfl)
    · refine zco_p tkX12_qEndsPart 8 1 (pc' := 19) (L' := [(0, .ref v0)]) (S' := [.ref v0]) rfl ?_
      refine zco_gr fl_12_258 rfl (zdk (cc := cX12_qEndsPart) (q := (19, .getfield 258, 3)) tkX12_qEndsPart 9 rfl) (fun x4 => ?_)
      refine zco_p tkX12_qEndsPart 10 1 (pc' := 23) (L' := [(0, .ref v0)]) (S' := [.ref v0, .ref x4]) rfl ?_
      refine zco_gi fl_12_356 rfl (zdk (cc := cX12_qEndsPart) (q := (23, .getfield 356, 3)) tkX12_qEndsPart 11 rfl) (fun x5 => ?_)
      refine zco_p tkX12_qEndsPart 12 2 (pc' := 28) (L' := [(0, .ref v0)]) (S' := [.int (x5 - 1), .ref x4]) rfl ?_
      refine zco_iaload (zdk (cc := cX12_qEndsPart) (q := (28, .iaload, 1)) tkX12_qEndsPart 14 rfl) (fun x6 => ?_)
      refine zco_p tkX12_qEndsPart 15 1 (pc' := 31) (L' := [(0, .ref v0)]) (S' := [.int 60, .int x6]) rfl ?_
      refine zco_icmp_lt (tgt := 51) (zdk (cc := cX12_qEndsPart) (q := (31, .if_icmp .lt 20, 3)) tkX12_qEndsPart 16 rfl) rfl ?_ ?_
      · exact zco_vret rfl rfl rfl (zdk (cc := cX12_qEndsPart) (q := (51, .return_, 1)) tkX12_qEndsPart 26 rfl)
      · refine zco_p tkX12_qEndsPart 17 2 (pc' := 36) (L' := [(0, .ref v0)]) (S' := [.ref v0, .ref v0]) rfl ?_
        refine zco_gi fl_12_359 rfl (zdk (cc := cX12_qEndsPart) (q := (36, .getfield 359, 3)) tkX12_qEndsPart 19 rfl) (fun x7 => ?_)
        refine zco_p tkX12_qEndsPart 20 2 (pc' := 41) (L' := [(0, .ref v0)]) (S' := [.int (x7 - 1), .ref v0]) rfl ?_
        refine zco_pi fl_12_359 rfl rfl (zdk (cc := cX12_qEndsPart) (q := (41, .putfield 359, 3)) tkX12_qEndsPart 22 rfl) ?_
        refine zco_p tkX12_qEndsPart 23 1 (pc' := 45) (L' := [(0, .ref v0)]) (S' := [.ref v0]) rfl ?_
        refine zco_Vv (rc := 0) (rs := 0) (mc := 0) (ms := 0) (As := []) (S := []) vmX12_qDrops (mtX12_qDrops l e (by omega) v0) q_1871 rfl rfl (Nat.le_of_ble_eq_true rfl) (zdk (cc := cX12_qEndsPart) (q := (45, .invokevirtual 639, 3)) tkX12_qEndsPart 24 rfl) ?_
        refine zco_p tkX12_qEndsPart 25 1 (pc' := 0) (L' := [(0, .ref v0)]) (S' := []) rfl ?_
        exact zco_sub [0] rfl (hr0 (()))
def X12_qEndsPart (v0 : Nat) : zM := z_fix (fun r x => X12_qEndsPart_B0 v0 r ) zFU (())
set_option maxHeartbeats 2000000 in
set_option maxRecDepth 20000 in
theorem coX12_qEndsPart (l : Launch) (e : Nat) (he : 2 ≤ e) (v0 : Nat) : zCo l (e + 1) 0 0 iX12_qEndsPart 0 [(0, .ref v0)] [] (X12_qEndsPart v0) := by
  unfold X12_qEndsPart
  exact zco_sub [0] rfl (zco_fix (Lf := fun x : Unit => [(0, .ref v0)]) (Sf := fun _ => []) (fun r hr x => coX12_qEndsPart_B0 l e he v0 r hr ) zFU (()))
theorem mtX12_qEndsPart (l : Launch) (d : Nat) (hd : 3 ≤ d) (v0 : Nat) : zMet l d 0 0 yX12_qEndsPart cX12_qEndsPart 1 (Option.none : Option FieldType) [.ref v0] (X12_qEndsPart v0) := by
  obtain ⟨e, rfl⟩ : ∃ e, d = e + 1 := ⟨d - 1, by omega⟩
  exact zmet_of (own := RX12) (ini := false) (by decide +kernel) rfl (fun _ => by contradiction) (Nat.le_of_ble_eq_true rfl) (coX12_qEndsPart l e (by omega) v0)
abbrev iX12_qPartTold : zI := (RX12, cX12_qPartTold, 6, (Option.none : Option FieldType), false)
def tX12_qPartTold : List (Nat × Instr × Nat) := [(0, .iconst 1, 1), (1, .istore_n 1, 1), (2, .iload_n 1, 1), (3, .ifCond .eq 183, 3), (6, .aload_n 0, 1), (7, .getfield 270, 3), (10, .ifCond .ne 176, 3), (13, .aload_n 0, 1), (14, .invokevirtual 282, 3), (17, .istore_n 2, 1), (18, .aload_n 0, 1), (19, .bipush 12, 2), (21, .bipush 14, 2), (23, .invokevirtual 648, 3), (26, .istore_n 3, 1), (27, .iload_n 2, 1), (28, .bipush 40, 2), (30, .if_icmp .ne 26, 3), (33, .aload_n 0, 1), (34, .bipush 20, 2), (36, .aload_n 0, 1), (37, .getfield 276, 3), (40, .invokevirtual 651, 3), (43, .aload_n 0, 1), (44, .dup, 1), (45, .getfield 276, 3), (48, .iconst 1, 1), (49, .iadd, 1), (50, .putfield 276, 3), (53, .goto 130, 3), (56, .aload_n 0, 1), (57, .aload_n 0, 1), (58, .getfield 207, 3), (61, .invokevirtual 293, 3), (64, .ifCond .ne 14, 3), (67, .aload_n 0, 1), (68, .aload_n 0, 1), (69, .getfield 210, 3), (72, .invokevirtual 293, 3), (75, .ifCond .eq 78, 3), (78, .aload_n 0, 1), (79, .aload_n 0, 1), (80, .getfield 207, 3), (83, .invokevirtual 297, 3), (86, .istore 4, 2), (88, .iload 4, 2), (90, .ifCond .ne 11, 3), (93, .aload_n 0, 1), (94, .aload_n 0, 1), (95, .getfield 210, 3), (98, .invokevirtual 341, 3), (101, .aload_n 0, 1), (102, .invokevirtual 282, 3), (105, .bipush 40, 2), (107, .if_icmp .ne 10, 3), (110, .aload_n 0, 1), (111, .getfield 276, 3), (114, .goto 4, 3), (117, .iconst (-1), 1), (118, .istore 5, 2), (120, .iload 5, 2), (122, .iconst (-1), 1), (123, .if_icmp .eq 21, 3), (126, .aload_n 0, 1), (127, .iload 4, 2), (129, .ifCond .eq 8, 3), (132, .bipush 21, 2), (134, .goto 5, 3), (137, .bipush 22, 2), (139, .iload 5, 2), (141, .invokevirtual 651, 3), (144, .aload_n 0, 1), (145, .bipush 40, 2), (147, .invokevirtual 390, 3), (150, .goto 33, 3), (153, .iload_n 3, 1), (154, .iconst (-1), 1), (155, .if_icmp .eq 26, 3), (158, .aload_n 0, 1), (159, .bipush 60, 2), (161, .iload_n 3, 1), (162, .iadd, 1), (163, .bipush 12, 2), (165, .isub, 1), (166, .aload_n 0, 1), (167, .getfield 276, 3), (170, .invokevirtual 651, 3), (173, .aload_n 0, 1), (174, .iload_n 3, 1), (175, .invokevirtual 654, 3), (178, .goto 5, 3), (181, .iconst 0, 1), (182, .istore_n 1, 1), (183, .goto (-181), 3), (186, .aload_n 0, 1), (187, .getfield 270, 3), (190, .ifCond .eq 4, 3), (193, .return_, 1), (194, .aload_n 0, 1), (195, .iconst 0, 1), (196, .bipush 12, 2), (198, .invokevirtual 648, 3), (201, .istore_n 2, 1), (202, .iload_n 2, 1), (203, .iconst (-1), 1), (204, .if_icmp .eq 8, 3), (207, .aload_n 0, 1), (208, .iload_n 2, 1), (209, .invokevirtual 654, 3), (212, .aload_n 0, 1), (213, .iload_n 2, 1), (214, .iconst (-1), 1), (215, .if_icmp .eq 10, 3), (218, .bipush 40, 2), (220, .iload_n 2, 1), (221, .iadd, 1), (222, .goto 15, 3), (225, .sipush 1000, 3), (228, .aload_n 0, 1), (229, .iconst 0, 1), (230, .sipush 9999, 3), (233, .invokevirtual 345, 3), (236, .iadd, 1), (237, .invokevirtual 633, 3), (240, .aload_n 0, 1), (241, .invokevirtual 657, 3), (244, .return_, 1)]
set_option maxRecDepth 100000 in
theorem tkX12_qPartTold : ∀ q ∈ tX12_qPartTold, decode cX12_qPartTold q.1 = .ok q.2 := by decide +kernel
theorem vmX12_qPartTold : zVM yX12_qPartTold cX12_qPartTold 6 (Option.none : Option FieldType) 0 12 := ⟨kX12_qPartTold, q_1838, q_64, q_160, ⟨_, rfl, rfl⟩, by decide +kernel, by decide⟩
def X12_qPartTold_J237 (v0 : Nat) (s0 : Int32) (s1 : Nat) : zM := z_rc 12 s1 (z_cv (X12_qCode s1 s0) (z_rc 12 v0 (z_cv (X12_qEndsPart v0) (z_ret none))))
set_option maxHeartbeats 2000000 in
set_option maxRecDepth 20000 in
theorem coX12_qPartTold_J237 (l : Launch) (e : Nat) (he : 5 ≤ e) (v0 : Nat) (s0 : Int32) (s1 : Nat) : zCo l (e + 1) 0 0 iX12_qPartTold 237 [(0, .ref v0)] [.int s0, .ref s1] (X12_qPartTold_J237 v0 s0 s1) := by
  unfold X12_qPartTold_J237
  refine zco_Vv (rc := 0) (rs := 0) (mc := 0) (ms := 0) (As := [.int s0]) (S := []) vmX12_qCode (mtX12_qCode l e (by omega) s1 s0) q_1828 rfl rfl (Nat.le_of_ble_eq_true rfl) (zdk (cc := cX12_qPartTold) (q := (237, .invokevirtual 633, 3)) tkX12_qPartTold 123 rfl) ?_
  refine zco_p tkX12_qPartTold 124 1 (pc' := 241) (L' := [(0, .ref v0)]) (S' := [.ref v0]) rfl ?_
  refine zco_Vv (rc := 0) (rs := 0) (mc := 0) (ms := 0) (As := []) (S := []) vmX12_qEndsPart (mtX12_qEndsPart l e (by omega) v0) q_1867 rfl rfl (Nat.le_of_ble_eq_true rfl) (zdk (cc := cX12_qPartTold) (q := (241, .invokevirtual 657, 3)) tkX12_qPartTold 125 rfl) ?_
  exact zco_vret rfl rfl rfl (zdk (cc := cX12_qPartTold) (q := (244, .return_, 1)) tkX12_qPartTold 126 rfl)
def X12_qPartTold_J212 (v0 : Nat) (v2 : Int32) : zM := z_if (v2 = ((-1))) (z_rc 12 v0 (z_ci (X12_number v0 0 9999) fun y1 => X12_qPartTold_J237 v0 (1000 + y1) v0))
   (X12_qPartTold_J237 v0 (40 + v2) v0)
set_option maxHeartbeats 2000000 in
set_option maxRecDepth 20000 in
theorem coX12_qPartTold_J212 (l : Launch) (e : Nat) (he : 5 ≤ e) (v0 : Nat) (v2 : Int32) : zCo l (e + 1) 0 0 iX12_qPartTold 212 [(0, .ref v0), (2, .int v2)] [] (X12_qPartTold_J212 v0 v2) := by
  unfold X12_qPartTold_J212
  refine zco_p tkX12_qPartTold 109 3 (pc' := 215) (L' := [(0, .ref v0), (2, .int v2)]) (S' := [.int ((-1)), .int v2, .ref v0]) rfl ?_
  refine zco_icmp_eq (tgt := 225) (zdk (cc := cX12_qPartTold) (q := (215, .if_icmp .eq 10, 3)) tkX12_qPartTold 112 rfl) rfl ?_ ?_
  · refine zco_p tkX12_qPartTold 117 4 (pc' := 233) (L' := [(0, .ref v0), (2, .int v2)]) (S' := [.int 9999, .int 0, .ref v0, .int 1000, .ref v0]) rfl ?_
    refine zco_Vi (rc := 0) (rs := 0) (mc := 0) (ms := 0) (As := [.int 0, .int 9999]) (S := [.int 1000, .ref v0]) vmX12_number (mtX12_number l e (by omega) v0 0 9999) q_1790 rfl rfl (Nat.le_of_ble_eq_true rfl) (zdk (cc := cX12_qPartTold) (q := (233, .invokevirtual 345, 3)) tkX12_qPartTold 121 rfl) (fun y1 => ?_)
    refine zco_p tkX12_qPartTold 122 1 (pc' := 237) (L' := [(0, .ref v0), (2, .int v2)]) (S' := [.int (1000 + y1), .ref v0]) rfl ?_
    exact zco_sub [0] rfl (coX12_qPartTold_J237 l e he v0 (1000 + y1) v0)
  · refine zco_p tkX12_qPartTold 113 4 (pc' := 237) (L' := [(0, .ref v0), (2, .int v2)]) (S' := [.int (40 + v2), .ref v0]) rfl ?_
    exact zco_sub [0] rfl (coX12_qPartTold_J237 l e he v0 (40 + v2) v0)
def X12_qPartTold_J186 (v0 : Nat) : zM := z_gi 12 5 v0 fun x1 => z_if (x1 = 0) (z_rc 12 v0 (z_ci (X12_qWordOf v0 0 12) fun y2 => z_if (y2 = ((-1))) (X12_qPartTold_J212 v0 y2)
   (z_rc 12 v0 (z_cv (X12_qAsksWord v0 y2) (X12_qPartTold_J212 v0 y2)))))
   (z_ret none)
set_option maxHeartbeats 2000000 in
set_option maxRecDepth 20000 in
theorem coX12_qPartTold_J186 (l : Launch) (e : Nat) (he : 5 ≤ e) (v0 : Nat) : zCo l (e + 1) 0 0 iX12_qPartTold 186 [(0, .ref v0)] [] (X12_qPartTold_J186 v0) := by
  unfold X12_qPartTold_J186
  refine zco_p tkX12_qPartTold 94 1 (pc' := 187) (L' := [(0, .ref v0)]) (S' := [.ref v0]) rfl ?_
  refine zco_gi fl_12_270 rfl (zdk (cc := cX12_qPartTold) (q := (187, .getfield 270, 3)) tkX12_qPartTold 95 rfl) (fun x1 => ?_)
  refine zco_if_eq (tgt := 194) (zdk (cc := cX12_qPartTold) (q := (190, .ifCond .eq 4, 3)) tkX12_qPartTold 96 rfl) rfl ?_ ?_
  · refine zco_p tkX12_qPartTold 98 3 (pc' := 198) (L' := [(0, .ref v0)]) (S' := [.int 12, .int 0, .ref v0]) rfl ?_
    refine zco_Vi (rc := 0) (rs := 0) (mc := 0) (ms := 0) (As := [.int 0, .int 12]) (S := []) vmX12_qWordOf (mtX12_qWordOf l e (by omega) v0 0 12) q_1840 rfl rfl (Nat.le_of_ble_eq_true rfl) (zdk (cc := cX12_qPartTold) (q := (198, .invokevirtual 648, 3)) tkX12_qPartTold 101 rfl) (fun y2 => ?_)
    refine zco_p tkX12_qPartTold 102 3 (pc' := 204) (L' := [(2, .int y2), (0, .ref v0)]) (S' := [.int ((-1)), .int y2]) rfl ?_
    refine zco_icmp_eq (tgt := 212) (zdk (cc := cX12_qPartTold) (q := (204, .if_icmp .eq 8, 3)) tkX12_qPartTold 105 rfl) rfl ?_ ?_
    · exact zco_sub [1, 0] rfl (coX12_qPartTold_J212 l e he v0 y2)
    · refine zco_p tkX12_qPartTold 106 2 (pc' := 209) (L' := [(2, .int y2), (0, .ref v0)]) (S' := [.int y2, .ref v0]) rfl ?_
      refine zco_Vv (rc := 0) (rs := 0) (mc := 0) (ms := 0) (As := [.int y2]) (S := []) vmX12_qAsksWord (mtX12_qAsksWord l e (by omega) v0 y2) q_1863 rfl rfl (Nat.le_of_ble_eq_true rfl) (zdk (cc := cX12_qPartTold) (q := (209, .invokevirtual 654, 3)) tkX12_qPartTold 108 rfl) ?_
      exact zco_sub [1, 0] rfl (coX12_qPartTold_J212 l e he v0 y2)
  · exact zco_vret rfl rfl rfl (zdk (cc := cX12_qPartTold) (q := (193, .return_, 1)) tkX12_qPartTold 97 rfl)
def X12_qPartTold_J183 (r2 : Int32 → zM) (v0 : Nat) (v1 : Int32) : zM := r2 v1
set_option maxHeartbeats 2000000 in
set_option maxRecDepth 20000 in
theorem coX12_qPartTold_J183 (l : Launch) (e : Nat) (he : 5 ≤ e) (v0 : Nat) (v1 : Int32) (r2 : Int32 → zM) (hr2 : ∀ x : Int32, zCo l (e + 1) 0 0 iX12_qPartTold 2 [(0, .ref v0), (1, .int x)] [] (r2 x)) : zCo l (e + 1) 0 0 iX12_qPartTold 183 [(0, .ref v0), (1, .int v1)] [] (X12_qPartTold_J183 r2 v0 v1) := by
  unfold X12_qPartTold_J183
  refine zco_p tkX12_qPartTold 93 1 (pc' := 2) (L' := [(0, .ref v0), (1, .int v1)]) (S' := []) rfl ?_
  exact zco_sub [0, 1] rfl (hr2 v1)
def X12_qPartTold_J144 (r2 : Int32 → zM) (v0 : Nat) (v1 : Int32) : zM := z_rc 12 v0 (z_cv (X12_asksSign v0 40) (X12_qPartTold_J183 r2 v0 v1))
set_option maxHeartbeats 2000000 in
set_option maxRecDepth 20000 in
theorem coX12_qPartTold_J144 (l : Launch) (e : Nat) (he : 5 ≤ e) (v0 : Nat) (v1 : Int32) (r2 : Int32 → zM) (hr2 : ∀ x : Int32, zCo l (e + 1) 0 0 iX12_qPartTold 2 [(0, .ref v0), (1, .int x)] [] (r2 x)) : zCo l (e + 1) 0 0 iX12_qPartTold 144 [(0, .ref v0), (1, .int v1)] [] (X12_qPartTold_J144 r2 v0 v1) := by
  unfold X12_qPartTold_J144
  refine zco_p tkX12_qPartTold 71 2 (pc' := 147) (L' := [(0, .ref v0), (1, .int v1)]) (S' := [.int 40, .ref v0]) rfl ?_
  refine zco_Vv (rc := 0) (rs := 0) (mc := 0) (ms := 0) (As := [.int 40]) (S := []) vmX12_asksSign (mtX12_asksSign l e (by omega) v0 40) q_1855 rfl rfl (Nat.le_of_ble_eq_true rfl) (zdk (cc := cX12_qPartTold) (q := (147, .invokevirtual 390, 3)) tkX12_qPartTold 73 rfl) ?_
  refine zco_p tkX12_qPartTold 74 1 (pc' := 183) (L' := [(0, .ref v0), (1, .int v1)]) (S' := []) rfl ?_
  exact zco_sub [0, 1] rfl (coX12_qPartTold_J183 l e he v0 v1 r2 hr2)
def X12_qPartTold_J139 (r2 : Int32 → zM) (v0 : Nat) (v1 : Int32) (v5 : Int32) (s0 : Int32) (s1 : Nat) : zM := z_rc 12 s1 (z_cv (X12_qOpens s1 s0 v5) (X12_qPartTold_J144 r2 v0 v1))
set_option maxHeartbeats 2000000 in
set_option maxRecDepth 20000 in
theorem coX12_qPartTold_J139 (l : Launch) (e : Nat) (he : 5 ≤ e) (v0 : Nat) (v1 : Int32) (v5 : Int32) (r2 : Int32 → zM) (hr2 : ∀ x : Int32, zCo l (e + 1) 0 0 iX12_qPartTold 2 [(0, .ref v0), (1, .int x)] [] (r2 x)) (s0 : Int32) (s1 : Nat) : zCo l (e + 1) 0 0 iX12_qPartTold 139 [(0, .ref v0), (1, .int v1), (5, .int v5)] [.int s0, .ref s1] (X12_qPartTold_J139 r2 v0 v1 v5 s0 s1) := by
  unfold X12_qPartTold_J139
  refine zco_p tkX12_qPartTold 69 1 (pc' := 141) (L' := [(0, .ref v0), (1, .int v1), (5, .int v5)]) (S' := [.int v5, .int s0, .ref s1]) rfl ?_
  refine zco_Vv (rc := 0) (rs := 0) (mc := 0) (ms := 0) (As := [.int s0, .int v5]) (S := []) vmX12_qOpens (mtX12_qOpens l e (by omega) s1 s0 v5) q_1820 rfl rfl (Nat.le_of_ble_eq_true rfl) (zdk (cc := cX12_qPartTold) (q := (141, .invokevirtual 651, 3)) tkX12_qPartTold 70 rfl) ?_
  exact zco_sub [0, 1] rfl (coX12_qPartTold_J144 l e he v0 v1 r2 hr2)
def X12_qPartTold_J118 (r2 : Int32 → zM) (v0 : Nat) (v1 : Int32) (v4 : Int32) (s0 : Int32) : zM := z_if (s0 = ((-1))) (X12_qPartTold_J144 r2 v0 v1)
   (z_if (v4 = 0) (X12_qPartTold_J139 r2 v0 v1 s0 22 v0)
   (X12_qPartTold_J139 r2 v0 v1 s0 21 v0))
set_option maxHeartbeats 2000000 in
set_option maxRecDepth 20000 in
theorem coX12_qPartTold_J118 (l : Launch) (e : Nat) (he : 5 ≤ e) (v0 : Nat) (v1 : Int32) (v4 : Int32) (r2 : Int32 → zM) (hr2 : ∀ x : Int32, zCo l (e + 1) 0 0 iX12_qPartTold 2 [(0, .ref v0), (1, .int x)] [] (r2 x)) (s0 : Int32) : zCo l (e + 1) 0 0 iX12_qPartTold 118 [(0, .ref v0), (1, .int v1), (4, .int v4)] [.int s0] (X12_qPartTold_J118 r2 v0 v1 v4 s0) := by
  unfold X12_qPartTold_J118
  refine zco_p tkX12_qPartTold 59 3 (pc' := 123) (L' := [(5, .int s0), (0, .ref v0), (1, .int v1), (4, .int v4)]) (S' := [.int ((-1)), .int s0]) rfl ?_
  refine zco_icmp_eq (tgt := 144) (zdk (cc := cX12_qPartTold) (q := (123, .if_icmp .eq 21, 3)) tkX12_qPartTold 62 rfl) rfl ?_ ?_
  · exact zco_sub [1, 2] rfl (coX12_qPartTold_J144 l e he v0 v1 r2 hr2)
  · refine zco_p tkX12_qPartTold 63 2 (pc' := 129) (L' := [(5, .int s0), (0, .ref v0), (1, .int v1), (4, .int v4)]) (S' := [.int v4, .ref v0]) rfl ?_
    refine zco_if_eq (tgt := 137) (zdk (cc := cX12_qPartTold) (q := (129, .ifCond .eq 8, 3)) tkX12_qPartTold 65 rfl) rfl ?_ ?_
    · refine zco_p tkX12_qPartTold 68 1 (pc' := 139) (L' := [(5, .int s0), (0, .ref v0), (1, .int v1), (4, .int v4)]) (S' := [.int 22, .ref v0]) rfl ?_
      exact zco_sub [1, 2, 0] rfl (coX12_qPartTold_J139 l e he v0 v1 s0 r2 hr2 22 v0)
    · refine zco_p tkX12_qPartTold 66 2 (pc' := 139) (L' := [(5, .int s0), (0, .ref v0), (1, .int v1), (4, .int v4)]) (S' := [.int 21, .ref v0]) rfl ?_
      exact zco_sub [1, 2, 0] rfl (coX12_qPartTold_J139 l e he v0 v1 s0 r2 hr2 21 v0)
def X12_qPartTold_J101 (r2 : Int32 → zM) (v0 : Nat) (v1 : Int32) (v4 : Int32) : zM := z_rc 12 v0 (z_ci (X12_look v0) fun y1 => z_if (y1 = 40) (z_gi 12 2 v0 fun x2 => X12_qPartTold_J118 r2 v0 v1 v4 x2)
   (X12_qPartTold_J118 r2 v0 v1 v4 ((-1))))
set_option maxHeartbeats 2000000 in
set_option maxRecDepth 20000 in
theorem coX12_qPartTold_J101 (l : Launch) (e : Nat) (he : 5 ≤ e) (v0 : Nat) (v1 : Int32) (v4 : Int32) (r2 : Int32 → zM) (hr2 : ∀ x : Int32, zCo l (e + 1) 0 0 iX12_qPartTold 2 [(0, .ref v0), (1, .int x)] [] (r2 x)) : zCo l (e + 1) 0 0 iX12_qPartTold 101 [(0, .ref v0), (1, .int v1), (4, .int v4)] [] (X12_qPartTold_J101 r2 v0 v1 v4) := by
  unfold X12_qPartTold_J101
  refine zco_p tkX12_qPartTold 51 1 (pc' := 102) (L' := [(0, .ref v0), (1, .int v1), (4, .int v4)]) (S' := [.ref v0]) rfl ?_
  refine zco_Vi (rc := 0) (rs := 0) (mc := 0) (ms := 0) (As := []) (S := []) vmX12_look (mtX12_look l e (by omega) v0) q_1749 rfl rfl (Nat.le_of_ble_eq_true rfl) (zdk (cc := cX12_qPartTold) (q := (102, .invokevirtual 282, 3)) tkX12_qPartTold 52 rfl) (fun y1 => ?_)
  refine zco_p tkX12_qPartTold 53 1 (pc' := 107) (L' := [(0, .ref v0), (1, .int v1), (4, .int v4)]) (S' := [.int 40, .int y1]) rfl ?_
  refine zco_icmp_ne (tgt := 117) (zdk (cc := cX12_qPartTold) (q := (107, .if_icmp .ne 10, 3)) tkX12_qPartTold 54 rfl) rfl ?_ ?_
  · refine zco_p tkX12_qPartTold 58 1 (pc' := 118) (L' := [(0, .ref v0), (1, .int v1), (4, .int v4)]) (S' := [.int ((-1))]) rfl ?_
    exact zco_sub [0, 1, 2] rfl (coX12_qPartTold_J118 l e he v0 v1 v4 r2 hr2 ((-1)))
  · refine zco_p tkX12_qPartTold 55 1 (pc' := 111) (L' := [(0, .ref v0), (1, .int v1), (4, .int v4)]) (S' := [.ref v0]) rfl ?_
    refine zco_gi fl_12_276 rfl (zdk (cc := cX12_qPartTold) (q := (111, .getfield 276, 3)) tkX12_qPartTold 56 rfl) (fun x2 => ?_)
    refine zco_p tkX12_qPartTold 57 1 (pc' := 118) (L' := [(0, .ref v0), (1, .int v1), (4, .int v4)]) (S' := [.int x2]) rfl ?_
    exact zco_sub [0, 1, 2] rfl (coX12_qPartTold_J118 l e he v0 v1 v4 r2 hr2 x2)
def X12_qPartTold_J78 (r2 : Int32 → zM) (v0 : Nat) (v1 : Int32) : zM := z_gr 12 88 v0 fun x1 => z_rc 12 v0 (z_ci (X12_takes v0 x1) fun y2 => z_if (y2 = 0) (z_gr 12 89 v0 fun x3 => z_rc 12 v0 (z_cv (X12_asks v0 x3) (X12_qPartTold_J101 r2 v0 v1 y2)))
   (X12_qPartTold_J101 r2 v0 v1 y2))
set_option maxHeartbeats 2000000 in
set_option maxRecDepth 20000 in
theorem coX12_qPartTold_J78 (l : Launch) (e : Nat) (he : 5 ≤ e) (v0 : Nat) (v1 : Int32) (r2 : Int32 → zM) (hr2 : ∀ x : Int32, zCo l (e + 1) 0 0 iX12_qPartTold 2 [(0, .ref v0), (1, .int x)] [] (r2 x)) : zCo l (e + 1) 0 0 iX12_qPartTold 78 [(0, .ref v0), (1, .int v1)] [] (X12_qPartTold_J78 r2 v0 v1) := by
  unfold X12_qPartTold_J78
  refine zco_p tkX12_qPartTold 40 2 (pc' := 80) (L' := [(0, .ref v0), (1, .int v1)]) (S' := [.ref v0, .ref v0]) rfl ?_
  refine zco_gr fl_12_207 rfl (zdk (cc := cX12_qPartTold) (q := (80, .getfield 207, 3)) tkX12_qPartTold 42 rfl) (fun x1 => ?_)
  refine zco_Vi (rc := 0) (rs := 0) (mc := 0) (ms := 0) (As := [.ref x1]) (S := []) vmX12_takes (mtX12_takes l e (by omega) v0 x1) q_1761 rfl rfl (Nat.le_of_ble_eq_true rfl) (zdk (cc := cX12_qPartTold) (q := (83, .invokevirtual 297, 3)) tkX12_qPartTold 43 rfl) (fun y2 => ?_)
  refine zco_p tkX12_qPartTold 44 2 (pc' := 90) (L' := [(4, .int y2), (0, .ref v0), (1, .int v1)]) (S' := [.int y2]) rfl ?_
  refine zco_if_ne (tgt := 101) (zdk (cc := cX12_qPartTold) (q := (90, .ifCond .ne 11, 3)) tkX12_qPartTold 46 rfl) rfl ?_ ?_
  · exact zco_sub [1, 2, 0] rfl (coX12_qPartTold_J101 l e he v0 v1 y2 r2 hr2)
  · refine zco_p tkX12_qPartTold 47 2 (pc' := 95) (L' := [(4, .int y2), (0, .ref v0), (1, .int v1)]) (S' := [.ref v0, .ref v0]) rfl ?_
    refine zco_gr fl_12_210 rfl (zdk (cc := cX12_qPartTold) (q := (95, .getfield 210, 3)) tkX12_qPartTold 49 rfl) (fun x3 => ?_)
    refine zco_Vv (rc := 0) (rs := 0) (mc := 0) (ms := 0) (As := [.ref x3]) (S := []) vmX12_asks (mtX12_asks l e (by omega) v0 x3) q_1786 rfl rfl (Nat.le_of_ble_eq_true rfl) (zdk (cc := cX12_qPartTold) (q := (98, .invokevirtual 341, 3)) tkX12_qPartTold 50 rfl) ?_
    exact zco_sub [1, 2, 0] rfl (coX12_qPartTold_J101 l e he v0 v1 y2 r2 hr2)
def X12_qPartTold_B2 (v0 : Nat) (r2 : Int32 → zM) (v1 : Int32) : zM := z_if (v1 = 0) (X12_qPartTold_J186 v0)
   (z_gi 12 5 v0 fun x1 => z_if (x1 = 0) (z_rc 12 v0 (z_ci (X12_look v0) fun y2 => z_rc 12 v0 (z_ci (X12_qWordOf v0 12 14) fun y3 => z_if (y2 = 40) (z_gi 12 2 v0 fun x9 => z_rc 12 v0 (z_cv (X12_qOpens v0 20 x9) (z_gi 12 2 v0 fun x10 => z_pi 12 2 v0 (x10 + 1) (X12_qPartTold_J183 r2 v0 v1))))
   (z_gr 12 88 v0 fun x4 => z_rc 12 v0 (z_ci (X12_isHere v0 x4) fun y5 => z_if (y5 = 0) (z_gr 12 89 v0 fun x6 => z_rc 12 v0 (z_ci (X12_isHere v0 x6) fun y7 => z_if (y7 = 0) (z_if (y3 = ((-1))) (X12_qPartTold_J183 r2 v0 0)
   (z_gi 12 2 v0 fun x8 => z_rc 12 v0 (z_cv (X12_qOpens v0 ((60 + y3) - 12) x8) (z_rc 12 v0 (z_cv (X12_qAsksWord v0 y3) (X12_qPartTold_J183 r2 v0 v1))))))
   (X12_qPartTold_J78 r2 v0 v1)))
   (X12_qPartTold_J78 r2 v0 v1))))))
   (X12_qPartTold_J186 v0))
set_option maxHeartbeats 2000000 in
set_option maxRecDepth 20000 in
theorem coX12_qPartTold_B2 (l : Launch) (e : Nat) (he : 5 ≤ e) (v0 : Nat) (r2 : Int32 → zM) (hr2 : ∀ x : Int32, zCo l (e + 1) 0 0 iX12_qPartTold 2 [(0, .ref v0), (1, .int x)] [] (r2 x)) (v1 : Int32) : zCo l (e + 1) 0 0 iX12_qPartTold 2 [(0, .ref v0), (1, .int v1)] [] (X12_qPartTold_B2 v0 r2 v1) := by
  unfold X12_qPartTold_B2
  refine zco_p tkX12_qPartTold 2 1 (pc' := 3) (L' := [(0, .ref v0), (1, .int v1)]) (S' := [.int v1]) rfl ?_
  refine zco_if_eq (tgt := 186) (zdk (cc := cX12_qPartTold) (q := (3, .ifCond .eq 183, 3)) tkX12_qPartTold 3 rfl) rfl ?_ ?_
  · exact zco_sub [0] rfl (coX12_qPartTold_J186 l e he v0)
  · refine zco_p tkX12_qPartTold 4 1 (pc' := 7) (L' := [(0, .ref v0), (1, .int v1)]) (S' := [.ref v0]) rfl ?_
    refine zco_gi fl_12_270 rfl (zdk (cc := cX12_qPartTold) (q := (7, .getfield 270, 3)) tkX12_qPartTold 5 rfl) (fun x1 => ?_)
    refine zco_if_ne (tgt := 186) (zdk (cc := cX12_qPartTold) (q := (10, .ifCond .ne 176, 3)) tkX12_qPartTold 6 rfl) rfl ?_ ?_
    · exact zco_sub [0] rfl (coX12_qPartTold_J186 l e he v0)
    · refine zco_p tkX12_qPartTold 7 1 (pc' := 14) (L' := [(0, .ref v0), (1, .int v1)]) (S' := [.ref v0]) rfl ?_
      refine zco_Vi (rc := 0) (rs := 0) (mc := 0) (ms := 0) (As := []) (S := []) vmX12_look (mtX12_look l e (by omega) v0) q_1749 rfl rfl (Nat.le_of_ble_eq_true rfl) (zdk (cc := cX12_qPartTold) (q := (14, .invokevirtual 282, 3)) tkX12_qPartTold 8 rfl) (fun y2 => ?_)
      refine zco_p tkX12_qPartTold 9 4 (pc' := 23) (L' := [(2, .int y2), (0, .ref v0), (1, .int v1)]) (S' := [.int 14, .int 12, .ref v0]) rfl ?_
      refine zco_Vi (rc := 0) (rs := 0) (mc := 0) (ms := 0) (As := [.int 12, .int 14]) (S := []) vmX12_qWordOf (mtX12_qWordOf l e (by omega) v0 12 14) q_1840 rfl rfl (Nat.le_of_ble_eq_true rfl) (zdk (cc := cX12_qPartTold) (q := (23, .invokevirtual 648, 3)) tkX12_qPartTold 13 rfl) (fun y3 => ?_)
      refine zco_p tkX12_qPartTold 14 3 (pc' := 30) (L' := [(3, .int y3), (2, .int y2), (0, .ref v0), (1, .int v1)]) (S' := [.int 40, .int y2]) rfl ?_
      refine zco_icmp_ne (tgt := 56) (zdk (cc := cX12_qPartTold) (q := (30, .if_icmp .ne 26, 3)) tkX12_qPartTold 17 rfl) rfl ?_ ?_
      · refine zco_p tkX12_qPartTold 30 2 (pc' := 58) (L' := [(3, .int y3), (2, .int y2), (0, .ref v0), (1, .int v1)]) (S' := [.ref v0, .ref v0]) rfl ?_
        refine zco_gr fl_12_207 rfl (zdk (cc := cX12_qPartTold) (q := (58, .getfield 207, 3)) tkX12_qPartTold 32 rfl) (fun x4 => ?_)
        refine zco_Vi (rc := 0) (rs := 0) (mc := 0) (ms := 0) (As := [.ref x4]) (S := []) vmX12_isHere (mtX12_isHere l e (by omega) v0 x4) q_1765 rfl rfl (Nat.le_of_ble_eq_true rfl) (zdk (cc := cX12_qPartTold) (q := (61, .invokevirtual 293, 3)) tkX12_qPartTold 33 rfl) (fun y5 => ?_)
        refine zco_if_ne (tgt := 78) (zdk (cc := cX12_qPartTold) (q := (64, .ifCond .ne 14, 3)) tkX12_qPartTold 34 rfl) rfl ?_ ?_
        · exact zco_sub [2, 3] rfl (coX12_qPartTold_J78 l e he v0 v1 r2 hr2)
        · refine zco_p tkX12_qPartTold 35 2 (pc' := 69) (L' := [(3, .int y3), (2, .int y2), (0, .ref v0), (1, .int v1)]) (S' := [.ref v0, .ref v0]) rfl ?_
          refine zco_gr fl_12_210 rfl (zdk (cc := cX12_qPartTold) (q := (69, .getfield 210, 3)) tkX12_qPartTold 37 rfl) (fun x6 => ?_)
          refine zco_Vi (rc := 0) (rs := 0) (mc := 0) (ms := 0) (As := [.ref x6]) (S := []) vmX12_isHere (mtX12_isHere l e (by omega) v0 x6) q_1765 rfl rfl (Nat.le_of_ble_eq_true rfl) (zdk (cc := cX12_qPartTold) (q := (72, .invokevirtual 293, 3)) tkX12_qPartTold 38 rfl) (fun y7 => ?_)
          refine zco_if_eq (tgt := 153) (zdk (cc := cX12_qPartTold) (q := (75, .ifCond .eq 78, 3)) tkX12_qPartTold 39 rfl) rfl ?_ ?_
          · refine zco_p tkX12_qPartTold 75 2 (pc' := 155) (L' := [(3, .int y3), (2, .int y2), (0, .ref v0), (1, .int v1)]) (S' := [.int ((-1)), .int y3]) rfl ?_
            refine zco_icmp_eq (tgt := 181) (zdk (cc := cX12_qPartTold) (q := (155, .if_icmp .eq 26, 3)) tkX12_qPartTold 77 rfl) rfl ?_ ?_
            · refine zco_p tkX12_qPartTold 91 2 (pc' := 183) (L' := [(1, .int 0), (3, .int y3), (2, .int y2), (0, .ref v0)]) (S' := []) rfl ?_
              exact zco_sub [3, 0] rfl (coX12_qPartTold_J183 l e he v0 0 r2 hr2)
            · refine zco_p tkX12_qPartTold 78 7 (pc' := 167) (L' := [(3, .int y3), (2, .int y2), (0, .ref v0), (1, .int v1)]) (S' := [.ref v0, .int ((60 + y3) - 12), .ref v0]) rfl ?_
              refine zco_gi fl_12_276 rfl (zdk (cc := cX12_qPartTold) (q := (167, .getfield 276, 3)) tkX12_qPartTold 85 rfl) (fun x8 => ?_)
              refine zco_Vv (rc := 0) (rs := 0) (mc := 0) (ms := 0) (As := [.int ((60 + y3) - 12), .int x8]) (S := []) vmX12_qOpens (mtX12_qOpens l e (by omega) v0 ((60 + y3) - 12) x8) q_1820 rfl rfl (Nat.le_of_ble_eq_true rfl) (zdk (cc := cX12_qPartTold) (q := (170, .invokevirtual 651, 3)) tkX12_qPartTold 86 rfl) ?_
              refine zco_p tkX12_qPartTold 87 2 (pc' := 175) (L' := [(3, .int y3), (2, .int y2), (0, .ref v0), (1, .int v1)]) (S' := [.int y3, .ref v0]) rfl ?_
              refine zco_Vv (rc := 0) (rs := 0) (mc := 0) (ms := 0) (As := [.int y3]) (S := []) vmX12_qAsksWord (mtX12_qAsksWord l e (by omega) v0 y3) q_1863 rfl rfl (Nat.le_of_ble_eq_true rfl) (zdk (cc := cX12_qPartTold) (q := (175, .invokevirtual 654, 3)) tkX12_qPartTold 89 rfl) ?_
              refine zco_p tkX12_qPartTold 90 1 (pc' := 183) (L' := [(3, .int y3), (2, .int y2), (0, .ref v0), (1, .int v1)]) (S' := []) rfl ?_
              exact zco_sub [2, 3] rfl (coX12_qPartTold_J183 l e he v0 v1 r2 hr2)
          · exact zco_sub [2, 3] rfl (coX12_qPartTold_J78 l e he v0 v1 r2 hr2)
      · refine zco_p tkX12_qPartTold 18 3 (pc' := 37) (L' := [(3, .int y3), (2, .int y2), (0, .ref v0), (1, .int v1)]) (S' := [.ref v0, .int 20, .ref v0]) rfl ?_
        refine zco_gi fl_12_276 rfl (zdk (cc := cX12_qPartTold) (q := (37, .getfield 276, 3)) tkX12_qPartTold 21 rfl) (fun x9 => ?_)
        refine zco_Vv (rc := 0) (rs := 0) (mc := 0) (ms := 0) (As := [.int 20, .int x9]) (S := []) vmX12_qOpens (mtX12_qOpens l e (by omega) v0 20 x9) q_1820 rfl rfl (Nat.le_of_ble_eq_true rfl) (zdk (cc := cX12_qPartTold) (q := (40, .invokevirtual 651, 3)) tkX12_qPartTold 22 rfl) ?_
        refine zco_p tkX12_qPartTold 23 2 (pc' := 45) (L' := [(3, .int y3), (2, .int y2), (0, .ref v0), (1, .int v1)]) (S' := [.ref v0, .ref v0]) rfl ?_
        refine zco_gi fl_12_276 rfl (zdk (cc := cX12_qPartTold) (q := (45, .getfield 276, 3)) tkX12_qPartTold 25 rfl) (fun x10 => ?_)
        refine zco_p tkX12_qPartTold 26 2 (pc' := 50) (L' := [(3, .int y3), (2, .int y2), (0, .ref v0), (1, .int v1)]) (S' := [.int (x10 + 1), .ref v0]) rfl ?_
        refine zco_pi fl_12_276 rfl rfl (zdk (cc := cX12_qPartTold) (q := (50, .putfield 276, 3)) tkX12_qPartTold 28 rfl) ?_
        refine zco_p tkX12_qPartTold 29 1 (pc' := 183) (L' := [(3, .int y3), (2, .int y2), (0, .ref v0), (1, .int v1)]) (S' := []) rfl ?_
        exact zco_sub [2, 3] rfl (coX12_qPartTold_J183 l e he v0 v1 r2 hr2)
def X12_qPartTold (v0 : Nat) : zM := z_fix (fun r x => X12_qPartTold_B2 v0 r x) zFU 1
set_option maxHeartbeats 2000000 in
set_option maxRecDepth 20000 in
theorem coX12_qPartTold (l : Launch) (e : Nat) (he : 5 ≤ e) (v0 : Nat) : zCo l (e + 1) 0 0 iX12_qPartTold 0 [(0, .ref v0)] [] (X12_qPartTold v0) := by
  unfold X12_qPartTold
  refine zco_p tkX12_qPartTold 0 2 (pc' := 2) (L' := [(1, .int 1), (0, .ref v0)]) (S' := []) rfl ?_
  exact zco_sub [1, 0] rfl (zco_fix (Lf := fun x : Int32 => [(0, .ref v0), (1, .int x)]) (Sf := fun _ => []) (fun r hr x => coX12_qPartTold_B2 l e he v0 r hr x) zFU 1)
theorem mtX12_qPartTold (l : Launch) (d : Nat) (hd : 6 ≤ d) (v0 : Nat) : zMet l d 0 0 yX12_qPartTold cX12_qPartTold 6 (Option.none : Option FieldType) [.ref v0] (X12_qPartTold v0) := by
  obtain ⟨e, rfl⟩ : ∃ e, d = e + 1 := ⟨d - 1, by omega⟩
  exact zmet_of (own := RX12) (ini := false) (by decide +kernel) rfl (fun _ => by contradiction) (Nat.le_of_ble_eq_true rfl) (coX12_qPartTold l e (by omega) v0)
abbrev iX12_qIsBracket : zI := (RX12, cX12_qIsBracket, 1, (Option.some .boolean), false)
def tX12_qIsBracket : List (Nat × Instr × Nat) := [(0, .iload_n 0, 1), (1, .bipush 20, 2), (3, .if_icmp .lt 13, 3), (6, .iload_n 0, 1), (7, .bipush 24, 2), (9, .if_icmp .gt 7, 3), (12, .iconst 1, 1), (13, .goto 4, 3), (16, .iconst 0, 1), (17, .ireturn, 1)]
set_option maxRecDepth 100000 in
theorem tkX12_qIsBracket : ∀ q ∈ tX12_qIsBracket, decode cX12_qIsBracket q.1 = .ok q.2 := by decide +kernel
theorem vmX12_qIsBracket : zSM yX12_qIsBracket cX12_qIsBracket 1 (Option.some .boolean) 1 := ⟨kX12_qIsBracket, q_1884, q_160, by decide +kernel, by decide⟩
def X12_qIsBracket (v0 : Int32) : zM := z_if (v0 < 20) (z_rb 0)
   (z_if (24 < v0) (z_rb 0)
   (z_rb 1))
set_option maxHeartbeats 2000000 in
set_option maxRecDepth 20000 in
theorem coX12_qIsBracket (l : Launch) (e : Nat) (he : 0 ≤ e) (v0 : Int32) : zCo l (e + 1) 0 0 iX12_qIsBracket 0 [(0, .int v0)] [] (X12_qIsBracket v0) := by
  unfold X12_qIsBracket
  refine zco_p tkX12_qIsBracket 0 2 (pc' := 3) (L' := [(0, .int v0)]) (S' := [.int 20, .int v0]) rfl ?_
  refine zco_icmp_lt (tgt := 16) (zdk (cc := cX12_qIsBracket) (q := (3, .if_icmp .lt 13, 3)) tkX12_qIsBracket 2 rfl) rfl ?_ ?_
  · refine zco_p tkX12_qIsBracket 8 1 (pc' := 17) (L' := [(0, .int v0)]) (S' := [.int 0]) rfl ?_
    exact zco_zret rfl rfl rfl (zdk (cc := cX12_qIsBracket) (q := (17, .ireturn, 1)) tkX12_qIsBracket 9 rfl)
  · refine zco_p tkX12_qIsBracket 3 2 (pc' := 9) (L' := [(0, .int v0)]) (S' := [.int 24, .int v0]) rfl ?_
    refine zco_icmp_gt (tgt := 16) (zdk (cc := cX12_qIsBracket) (q := (9, .if_icmp .gt 7, 3)) tkX12_qIsBracket 5 rfl) rfl ?_ ?_
    · refine zco_p tkX12_qIsBracket 8 1 (pc' := 17) (L' := [(0, .int v0)]) (S' := [.int 0]) rfl ?_
      exact zco_zret rfl rfl rfl (zdk (cc := cX12_qIsBracket) (q := (17, .ireturn, 1)) tkX12_qIsBracket 9 rfl)
    · refine zco_p tkX12_qIsBracket 6 2 (pc' := 17) (L' := [(0, .int v0)]) (S' := [.int 1]) rfl ?_
      exact zco_zret rfl rfl rfl (zdk (cc := cX12_qIsBracket) (q := (17, .ireturn, 1)) tkX12_qIsBracket 9 rfl)
theorem mtX12_qIsBracket (l : Launch) (d : Nat) (hd : 1 ≤ d) (v0 : Int32) : zMet l d 0 0 yX12_qIsBracket cX12_qIsBracket 1 (Option.some .boolean) [.int v0] (X12_qIsBracket v0) := by
  obtain ⟨e, rfl⟩ : ∃ e, d = e + 1 := ⟨d - 1, by omega⟩
  exact zmet_of (own := RX12) (ini := false) (by decide +kernel) rfl (fun _ => by contradiction) (Nat.le_of_ble_eq_true rfl) (coX12_qIsBracket l e (by omega) v0)
abbrev iX12_qBracket : zI := (RX12, cX12_qBracket, 2, (Option.some .int), false)
def tX12_qBracket : List (Nat × Instr × Nat) := [(0, .aload_n 0, 1), (1, .getfield 356, 3), (4, .iconst 1, 1), (5, .isub, 1), (6, .istore_n 1, 1), (7, .iload_n 1, 1), (8, .aload_n 0, 1), (9, .getfield 362, 3), (12, .if_icmp .lt 21, 3), (15, .aload_n 0, 1), (16, .getfield 258, 3), (19, .iload_n 1, 1), (20, .iaload, 1), (21, .invokestatic 636, 3), (24, .ifCond .ne 9, 3), (27, .iinc 1 (-1), 3), (30, .goto (-23), 3), (33, .iload_n 1, 1), (34, .aload_n 0, 1), (35, .getfield 362, 3), (38, .if_icmp .lt 12, 3), (41, .aload_n 0, 1), (42, .getfield 258, 3), (45, .iload_n 1, 1), (46, .iaload, 1), (47, .goto 4, 3), (50, .iconst (-1), 1), (51, .ireturn, 1)]
set_option maxRecDepth 100000 in
theorem tkX12_qBracket : ∀ q ∈ tX12_qBracket, decode cX12_qBracket q.1 = .ok q.2 := by decide +kernel
theorem vmX12_qBracket : zVM yX12_qBracket cX12_qBracket 2 (Option.some .int) 0 12 := ⟨kX12_qBracket, q_1881, q_74, q_160, ⟨_, rfl, rfl⟩, by decide +kernel, by decide⟩
def X12_qBracket_J33 (v0 : Nat) (v1 : Int32) : zM := z_gi 12 109 v0 fun x1 => z_if (v1 < x1) (z_ret (some (.int ((-1)))))
   (z_gr 12 106 v0 fun x2 => z_la 20 x2 v1 fun x3 => z_ret (some (.int x3)))
set_option maxHeartbeats 2000000 in
set_option maxRecDepth 20000 in
theorem coX12_qBracket_J33 (l : Launch) (e : Nat) (he : 1 ≤ e) (v0 : Nat) (v1 : Int32) : zCo l (e + 1) 0 0 iX12_qBracket 33 [(0, .ref v0), (1, .int v1)] [] (X12_qBracket_J33 v0 v1) := by
  unfold X12_qBracket_J33
  refine zco_p tkX12_qBracket 17 2 (pc' := 35) (L' := [(0, .ref v0), (1, .int v1)]) (S' := [.ref v0, .int v1]) rfl ?_
  refine zco_gi fl_12_362 rfl (zdk (cc := cX12_qBracket) (q := (35, .getfield 362, 3)) tkX12_qBracket 19 rfl) (fun x1 => ?_)
  refine zco_icmp_lt (tgt := 50) (zdk (cc := cX12_qBracket) (q := (38, .if_icmp .lt 12, 3)) tkX12_qBracket 20 rfl) rfl ?_ ?_
  · refine zco_p tkX12_qBracket 26 1 (pc' := 51) (L' := [(0, .ref v0), (1, .int v1)]) (S' := [.int ((-1))]) rfl ?_
    exact zco_iret rfl rfl rfl (zdk (cc := cX12_qBracket) (q := (51, .ireturn, 1)) tkX12_qBracket 27 rfl)
  · refine zco_p tkX12_qBracket 21 1 (pc' := 42) (L' := [(0, .ref v0), (1, .int v1)]) (S' := [.ref v0]) rfl ?_
    refine zco_gr fl_12_258 rfl (zdk (cc := cX12_qBracket) (q := (42, .getfield 258, 3)) tkX12_qBracket 22 rfl) (fun x2 => ?_)
    refine zco_p tkX12_qBracket 23 1 (pc' := 46) (L' := [(0, .ref v0), (1, .int v1)]) (S' := [.int v1, .ref x2]) rfl ?_
    refine zco_iaload (zdk (cc := cX12_qBracket) (q := (46, .iaload, 1)) tkX12_qBracket 24 rfl) (fun x3 => ?_)
    refine zco_p tkX12_qBracket 25 1 (pc' := 51) (L' := [(0, .ref v0), (1, .int v1)]) (S' := [.int x3]) rfl ?_
    exact zco_iret rfl rfl rfl (zdk (cc := cX12_qBracket) (q := (51, .ireturn, 1)) tkX12_qBracket 27 rfl)
def X12_qBracket_B7 (v0 : Nat) (r7 : Int32 → zM) (v1 : Int32) : zM := z_gi 12 109 v0 fun x1 => z_if (v1 < x1) (X12_qBracket_J33 v0 v1)
   (z_gr 12 106 v0 fun x2 => z_la 20 x2 v1 fun x3 => z_ci (X12_qIsBracket x3) fun y4 => z_if (y4 = 0) (r7 (v1 + (-1)))
   (X12_qBracket_J33 v0 v1))
set_option maxHeartbeats 2000000 in
set_option maxRecDepth 20000 in
theorem coX12_qBracket_B7 (l : Launch) (e : Nat) (he : 1 ≤ e) (v0 : Nat) (r7 : Int32 → zM) (hr7 : ∀ x : Int32, zCo l (e + 1) 0 0 iX12_qBracket 7 [(0, .ref v0), (1, .int x)] [] (r7 x)) (v1 : Int32) : zCo l (e + 1) 0 0 iX12_qBracket 7 [(0, .ref v0), (1, .int v1)] [] (X12_qBracket_B7 v0 r7 v1) := by
  unfold X12_qBracket_B7
  refine zco_p tkX12_qBracket 5 2 (pc' := 9) (L' := [(0, .ref v0), (1, .int v1)]) (S' := [.ref v0, .int v1]) rfl ?_
  refine zco_gi fl_12_362 rfl (zdk (cc := cX12_qBracket) (q := (9, .getfield 362, 3)) tkX12_qBracket 7 rfl) (fun x1 => ?_)
  refine zco_icmp_lt (tgt := 33) (zdk (cc := cX12_qBracket) (q := (12, .if_icmp .lt 21, 3)) tkX12_qBracket 8 rfl) rfl ?_ ?_
  · exact zco_sub [0, 1] rfl (coX12_qBracket_J33 l e he v0 v1)
  · refine zco_p tkX12_qBracket 9 1 (pc' := 16) (L' := [(0, .ref v0), (1, .int v1)]) (S' := [.ref v0]) rfl ?_
    refine zco_gr fl_12_258 rfl (zdk (cc := cX12_qBracket) (q := (16, .getfield 258, 3)) tkX12_qBracket 10 rfl) (fun x2 => ?_)
    refine zco_p tkX12_qBracket 11 1 (pc' := 20) (L' := [(0, .ref v0), (1, .int v1)]) (S' := [.int v1, .ref x2]) rfl ?_
    refine zco_iaload (zdk (cc := cX12_qBracket) (q := (20, .iaload, 1)) tkX12_qBracket 12 rfl) (fun x3 => ?_)
    refine zco_Si (rc := 0) (rs := 0) (mc := 0) (ms := 0) (As := [.int x3]) (S := []) vmX12_qIsBracket (mtX12_qIsBracket l e (by omega) x3) q_1883 rfl rfl (Nat.le_of_ble_eq_true rfl) (zdk (cc := cX12_qBracket) (q := (21, .invokestatic 636, 3)) tkX12_qBracket 13 rfl) (fun y4 => ?_)
    refine zco_if_ne (tgt := 33) (zdk (cc := cX12_qBracket) (q := (24, .ifCond .ne 9, 3)) tkX12_qBracket 14 rfl) rfl ?_ ?_
    · exact zco_sub [0, 1] rfl (coX12_qBracket_J33 l e he v0 v1)
    · refine zco_p tkX12_qBracket 15 2 (pc' := 7) (L' := [(1, .int (v1 + (-1))), (0, .ref v0)]) (S' := []) rfl ?_
      exact zco_sub [1, 0] rfl (hr7 (v1 + (-1)))
def X12_qBracket (v0 : Nat) : zM := z_gi 12 107 v0 fun x1 => z_fix (fun r x => X12_qBracket_B7 v0 r x) zFU (x1 - 1)
set_option maxHeartbeats 2000000 in
set_option maxRecDepth 20000 in
theorem coX12_qBracket (l : Launch) (e : Nat) (he : 1 ≤ e) (v0 : Nat) : zCo l (e + 1) 0 0 iX12_qBracket 0 [(0, .ref v0)] [] (X12_qBracket v0) := by
  unfold X12_qBracket
  refine zco_p tkX12_qBracket 0 1 (pc' := 1) (L' := [(0, .ref v0)]) (S' := [.ref v0]) rfl ?_
  refine zco_gi fl_12_356 rfl (zdk (cc := cX12_qBracket) (q := (1, .getfield 356, 3)) tkX12_qBracket 1 rfl) (fun x1 => ?_)
  refine zco_p tkX12_qBracket 2 3 (pc' := 7) (L' := [(1, .int (x1 - 1)), (0, .ref v0)]) (S' := []) rfl ?_
  exact zco_sub [1, 0] rfl (zco_fix (Lf := fun x : Int32 => [(0, .ref v0), (1, .int x)]) (Sf := fun _ => []) (fun r hr x => coX12_qBracket_B7 l e he v0 r hr x) zFU (x1 - 1))
theorem mtX12_qBracket (l : Launch) (d : Nat) (hd : 2 ≤ d) (v0 : Nat) : zMet l d 0 0 yX12_qBracket cX12_qBracket 2 (Option.some .int) [.ref v0] (X12_qBracket v0) := by
  obtain ⟨e, rfl⟩ : ∃ e, d = e + 1 := ⟨d - 1, by omega⟩
  exact zmet_of (own := RX12) (ini := false) (by decide +kernel) rfl (fun _ => by contradiction) (Nat.le_of_ble_eq_true rfl) (coX12_qBracket l e (by omega) v0)
abbrev iX12_qDropsToBracket : zI := (RX12, cX12_qDropsToBracket, 1, (Option.none : Option FieldType), false)
def tX12_qDropsToBracket : List (Nat × Instr × Nat) := [(0, .aload_n 0, 1), (1, .getfield 356, 3), (4, .aload_n 0, 1), (5, .getfield 362, 3), (8, .if_icmp .le 27, 3), (11, .aload_n 0, 1), (12, .getfield 258, 3), (15, .aload_n 0, 1), (16, .getfield 356, 3), (19, .iconst 1, 1), (20, .isub, 1), (21, .iaload, 1), (22, .invokestatic 636, 3), (25, .ifCond .ne 10, 3), (28, .aload_n 0, 1), (29, .invokevirtual 639, 3), (32, .goto (-32), 3), (35, .return_, 1)]
set_option maxRecDepth 100000 in
theorem tkX12_qDropsToBracket : ∀ q ∈ tX12_qDropsToBracket, decode cX12_qDropsToBracket q.1 = .ok q.2 := by decide +kernel
theorem vmX12_qDropsToBracket : zVM yX12_qDropsToBracket cX12_qDropsToBracket 1 (Option.none : Option FieldType) 0 12 := ⟨kX12_qDropsToBracket, q_1888, q_75, q_160, ⟨_, rfl, rfl⟩, by decide +kernel, by decide⟩
def X12_qDropsToBracket_B0 (v0 : Nat) (r0 : Unit → zM) : zM := z_gi 12 107 v0 fun x1 => z_gi 12 109 v0 fun x2 => z_if (x1 ≤ x2) (z_ret none)
   (z_gr 12 106 v0 fun x3 => z_gi 12 107 v0 fun x4 => z_la 20 x3 (x4 - 1) fun x5 => z_ci (X12_qIsBracket x5) fun y6 => z_if (y6 = 0) (z_rc 12 v0 (z_cv (X12_qDrops v0) (r0 (()))))
   (z_ret none))
set_option maxHeartbeats 2000000 in
set_option maxRecDepth 20000 in
theorem coX12_qDropsToBracket_B0 (l : Launch) (e : Nat) (he : 2 ≤ e) (v0 : Nat) (r0 : Unit → zM) (hr0 : ∀ x : Unit, zCo l (e + 1) 0 0 iX12_qDropsToBracket 0 [(0, .ref v0)] [] (r0 x)) : zCo l (e + 1) 0 0 iX12_qDropsToBracket 0 [(0, .ref v0)] [] (X12_qDropsToBracket_B0 v0 r0) := by
  unfold X12_qDropsToBracket_B0
  refine zco_p tkX12_qDropsToBracket 0 1 (pc' := 1) (L' := [(0, .ref v0)]) (S' := [.ref v0]) rfl ?_
  refine zco_gi fl_12_356 rfl (zdk (cc := cX12_qDropsToBracket) (q := (1, .getfield 356, 3)) tkX12_qDropsToBracket 1 rfl) (fun x1 => ?_)
  refine zco_p tkX12_qDropsToBracket 2 1 (pc' := 5) (L' := [(0, .ref v0)]) (S' := [.ref v0, .int x1]) rfl ?_
  refine zco_gi fl_12_362 rfl (zdk (cc := cX12_qDropsToBracket) (q := (5, .getfield 362, 3)) tkX12_qDropsToBracket 3 rfl) (fun x2 => ?_)
  refine zco_icmp_le (tgt := 35) (zdk (cc := cX12_qDropsToBracket) (q := (8, .if_icmp .le 27, 3)) tkX12_qDropsToBracket 4 rfl) rfl ?_ ?_
  · exact zco_vret rfl rfl rfl (zdk (cc := cX12_qDropsToBracket) (q := (35, .return_, 1)) tkX12_qDropsToBracket 17 rfl)
  · refine zco_p tkX12_qDropsToBracket 5 1 (pc' := 12) (L' := [(0, .ref v0)]) (S' := [.ref v0]) rfl ?_
    refine zco_gr fl_12_258 rfl (zdk (cc := cX12_qDropsToBracket) (q := (12, .getfield 258, 3)) tkX12_qDropsToBracket 6 rfl) (fun x3 => ?_)
    refine zco_p tkX12_qDropsToBracket 7 1 (pc' := 16) (L' := [(0, .ref v0)]) (S' := [.ref v0, .ref x3]) rfl ?_
    refine zco_gi fl_12_356 rfl (zdk (cc := cX12_qDropsToBracket) (q := (16, .getfield 356, 3)) tkX12_qDropsToBracket 8 rfl) (fun x4 => ?_)
    refine zco_p tkX12_qDropsToBracket 9 2 (pc' := 21) (L' := [(0, .ref v0)]) (S' := [.int (x4 - 1), .ref x3]) rfl ?_
    refine zco_iaload (zdk (cc := cX12_qDropsToBracket) (q := (21, .iaload, 1)) tkX12_qDropsToBracket 11 rfl) (fun x5 => ?_)
    refine zco_Si (rc := 0) (rs := 0) (mc := 0) (ms := 0) (As := [.int x5]) (S := []) vmX12_qIsBracket (mtX12_qIsBracket l e (by omega) x5) q_1883 rfl rfl (Nat.le_of_ble_eq_true rfl) (zdk (cc := cX12_qDropsToBracket) (q := (22, .invokestatic 636, 3)) tkX12_qDropsToBracket 12 rfl) (fun y6 => ?_)
    refine zco_if_ne (tgt := 35) (zdk (cc := cX12_qDropsToBracket) (q := (25, .ifCond .ne 10, 3)) tkX12_qDropsToBracket 13 rfl) rfl ?_ ?_
    · exact zco_vret rfl rfl rfl (zdk (cc := cX12_qDropsToBracket) (q := (35, .return_, 1)) tkX12_qDropsToBracket 17 rfl)
    · refine zco_p tkX12_qDropsToBracket 14 1 (pc' := 29) (L' := [(0, .ref v0)]) (S' := [.ref v0]) rfl ?_
      refine zco_Vv (rc := 0) (rs := 0) (mc := 0) (ms := 0) (As := []) (S := []) vmX12_qDrops (mtX12_qDrops l e (by omega) v0) q_1871 rfl rfl (Nat.le_of_ble_eq_true rfl) (zdk (cc := cX12_qDropsToBracket) (q := (29, .invokevirtual 639, 3)) tkX12_qDropsToBracket 15 rfl) ?_
      refine zco_p tkX12_qDropsToBracket 16 1 (pc' := 0) (L' := [(0, .ref v0)]) (S' := []) rfl ?_
      exact zco_sub [0] rfl (hr0 (()))
def X12_qDropsToBracket (v0 : Nat) : zM := z_fix (fun r x => X12_qDropsToBracket_B0 v0 r ) zFU (())
set_option maxHeartbeats 2000000 in
set_option maxRecDepth 20000 in
theorem coX12_qDropsToBracket (l : Launch) (e : Nat) (he : 2 ≤ e) (v0 : Nat) : zCo l (e + 1) 0 0 iX12_qDropsToBracket 0 [(0, .ref v0)] [] (X12_qDropsToBracket v0) := by
  unfold X12_qDropsToBracket
  exact zco_sub [0] rfl (zco_fix (Lf := fun x : Unit => [(0, .ref v0)]) (Sf := fun _ => []) (fun r hr x => coX12_qDropsToBracket_B0 l e he v0 r hr ) zFU (()))
theorem mtX12_qDropsToBracket (l : Launch) (d : Nat) (hd : 3 ≤ d) (v0 : Nat) : zMet l d 0 0 yX12_qDropsToBracket cX12_qDropsToBracket 1 (Option.none : Option FieldType) [.ref v0] (X12_qDropsToBracket v0) := by
  obtain ⟨e, rfl⟩ : ∃ e, d = e + 1 := ⟨d - 1, by omega⟩
  exact zmet_of (own := RX12) (ini := false) (by decide +kernel) rfl (fun _ => by contradiction) (Nat.le_of_ble_eq_true rfl) (coX12_qDropsToBracket l e (by omega) v0)
abbrev iX12_qIsOn : zI := (RX12, cX12_qIsOn, 2, (Option.some .boolean), false)
def tX12_qIsOn : List (Nat × Instr × Nat) := [(0, .aload_n 0, 1), (1, .getfield 356, 3), (4, .ifCond .le 22, 3), (7, .aload_n 0, 1), (8, .getfield 258, 3), (11, .aload_n 0, 1), (12, .getfield 356, 3), (15, .iconst 1, 1), (16, .isub, 1), (17, .iaload, 1), (18, .iload_n 1, 1), (19, .if_icmp .ne 7, 3), (22, .iconst 1, 1), (23, .goto 4, 3), (26, .iconst 0, 1), (27, .ireturn, 1)]
set_option maxRecDepth 100000 in
theorem tkX12_qIsOn : ∀ q ∈ tX12_qIsOn, decode cX12_qIsOn q.1 = .ok q.2 := by decide +kernel
theorem vmX12_qIsOn : zVM yX12_qIsOn cX12_qIsOn 2 (Option.some .boolean) 1 12 := ⟨kX12_qIsOn, q_1892, q_76, q_160, ⟨_, rfl, rfl⟩, by decide +kernel, by decide⟩
def X12_qIsOn (v0 : Nat) (v1 : Int32) : zM := z_gi 12 107 v0 fun x1 => z_if (x1 ≤ 0) (z_rb 0)
   (z_gr 12 106 v0 fun x2 => z_gi 12 107 v0 fun x3 => z_la 20 x2 (x3 - 1) fun x4 => z_if (x4 = v1) (z_rb 1)
   (z_rb 0))
set_option maxHeartbeats 2000000 in
set_option maxRecDepth 20000 in
theorem coX12_qIsOn (l : Launch) (e : Nat) (he : 0 ≤ e) (v0 : Nat) (v1 : Int32) : zCo l (e + 1) 0 0 iX12_qIsOn 0 [(0, .ref v0), (1, .int v1)] [] (X12_qIsOn v0 v1) := by
  unfold X12_qIsOn
  refine zco_p tkX12_qIsOn 0 1 (pc' := 1) (L' := [(0, .ref v0), (1, .int v1)]) (S' := [.ref v0]) rfl ?_
  refine zco_gi fl_12_356 rfl (zdk (cc := cX12_qIsOn) (q := (1, .getfield 356, 3)) tkX12_qIsOn 1 rfl) (fun x1 => ?_)
  refine zco_if_le (tgt := 26) (zdk (cc := cX12_qIsOn) (q := (4, .ifCond .le 22, 3)) tkX12_qIsOn 2 rfl) rfl ?_ ?_
  · refine zco_p tkX12_qIsOn 14 1 (pc' := 27) (L' := [(0, .ref v0), (1, .int v1)]) (S' := [.int 0]) rfl ?_
    exact zco_zret rfl rfl rfl (zdk (cc := cX12_qIsOn) (q := (27, .ireturn, 1)) tkX12_qIsOn 15 rfl)
  · refine zco_p tkX12_qIsOn 3 1 (pc' := 8) (L' := [(0, .ref v0), (1, .int v1)]) (S' := [.ref v0]) rfl ?_
    refine zco_gr fl_12_258 rfl (zdk (cc := cX12_qIsOn) (q := (8, .getfield 258, 3)) tkX12_qIsOn 4 rfl) (fun x2 => ?_)
    refine zco_p tkX12_qIsOn 5 1 (pc' := 12) (L' := [(0, .ref v0), (1, .int v1)]) (S' := [.ref v0, .ref x2]) rfl ?_
    refine zco_gi fl_12_356 rfl (zdk (cc := cX12_qIsOn) (q := (12, .getfield 356, 3)) tkX12_qIsOn 6 rfl) (fun x3 => ?_)
    refine zco_p tkX12_qIsOn 7 2 (pc' := 17) (L' := [(0, .ref v0), (1, .int v1)]) (S' := [.int (x3 - 1), .ref x2]) rfl ?_
    refine zco_iaload (zdk (cc := cX12_qIsOn) (q := (17, .iaload, 1)) tkX12_qIsOn 9 rfl) (fun x4 => ?_)
    refine zco_p tkX12_qIsOn 10 1 (pc' := 19) (L' := [(0, .ref v0), (1, .int v1)]) (S' := [.int v1, .int x4]) rfl ?_
    refine zco_icmp_ne (tgt := 26) (zdk (cc := cX12_qIsOn) (q := (19, .if_icmp .ne 7, 3)) tkX12_qIsOn 11 rfl) rfl ?_ ?_
    · refine zco_p tkX12_qIsOn 14 1 (pc' := 27) (L' := [(0, .ref v0), (1, .int v1)]) (S' := [.int 0]) rfl ?_
      exact zco_zret rfl rfl rfl (zdk (cc := cX12_qIsOn) (q := (27, .ireturn, 1)) tkX12_qIsOn 15 rfl)
    · refine zco_p tkX12_qIsOn 12 2 (pc' := 27) (L' := [(0, .ref v0), (1, .int v1)]) (S' := [.int 1]) rfl ?_
      exact zco_zret rfl rfl rfl (zdk (cc := cX12_qIsOn) (q := (27, .ireturn, 1)) tkX12_qIsOn 15 rfl)
theorem mtX12_qIsOn (l : Launch) (d : Nat) (hd : 1 ≤ d) (v0 : Nat) (v1 : Int32) : zMet l d 0 0 yX12_qIsOn cX12_qIsOn 2 (Option.some .boolean) [.ref v0, .int v1] (X12_qIsOn v0 v1) := by
  obtain ⟨e, rfl⟩ : ∃ e, d = e + 1 := ⟨d - 1, by omega⟩
  exact zmet_of (own := RX12) (ini := false) (by decide +kernel) rfl (fun _ => by contradiction) (Nat.le_of_ble_eq_true rfl) (coX12_qIsOn l e (by omega) v0 v1)
abbrev iX12_qGoesOn : zI := (RX12, cX12_qGoesOn, 2, (Option.some .boolean), false)
def tX12_qGoesOn_q0 : List (Nat × Instr × Nat) := [(0, .aload_n 0, 1), (1, .getfield 270, 3), (4, .ifCond .ne 118, 3), (7, .aload_n 0, 1), (8, .invokevirtual 282, 3), (11, .bipush 41, 2), (13, .if_icmp .ne 109, 3), (16, .aload_n 0, 1), (17, .invokevirtual 660, 3), (20, .bipush 20, 2), (22, .if_icmp .eq 21, 3), (25, .aload_n 0, 1), (26, .invokevirtual 660, 3), (29, .bipush 23, 2), (31, .if_icmp .eq 12, 3), (34, .aload_n 0, 1), (35, .invokevirtual 660, 3), (38, .bipush 24, 2), (40, .if_icmp .ne 82, 3), (43, .aload_n 0, 1), (44, .dup, 1), (45, .getfield 276, 3), (48, .iconst 1, 1), (49, .iadd, 1), (50, .putfield 276, 3), (53, .aload_n 0, 1), (54, .invokevirtual 663, 3), (57, .aload_n 0, 1), (58, .dup, 1), (59, .getfield 356, 3), (62, .iconst 1, 1), (63, .isub, 1), (64, .putfield 356, 3), (67, .aload_n 0, 1), (68, .dup, 1), (69, .getfield 359, 3), (72, .iconst 1, 1), (73, .isub, 1), (74, .putfield 359, 3), (77, .aload_n 0, 1), (78, .getfield 258, 3), (81, .aload_n 0, 1), (82, .getfield 356, 3), (85, .iaload, 1), (86, .bipush 20, 2), (88, .if_icmp .eq 27, 3), (91, .aload_n 0, 1), (92, .aload_n 0, 1), (93, .getfield 258, 3), (96, .aload_n 0, 1), (97, .getfield 356, 3), (100, .iaload, 1), (101, .bipush 23, 2), (103, .if_icmp .ne 7, 3), (106, .iconst 5, 1), (107, .goto 5, 3), (110, .bipush 6, 2), (112, .invokevirtual 633, 3), (115, .aload_n 0, 1), (116, .invokevirtual 657, 3), (119, .goto (-119), 3), (122, .aload_n 0, 1), (123, .bipush 42, 2), (125, .invokevirtual 304, 3)]
set_option maxRecDepth 100000 in
theorem tkX12_qGoesOn_q0 : ∀ q ∈ tX12_qGoesOn_q0, decode cX12_qGoesOn q.1 = .ok q.2 := by decide +kernel
def tX12_qGoesOn_q1 : List (Nat × Instr × Nat) := [(128, .ifCond .ne 12, 3), (131, .aload_n 0, 1), (132, .bipush 47, 2), (134, .invokevirtual 304, 3), (137, .ifCond .eq 70, 3), (140, .aload_n 0, 1), (141, .getfield 7, 3), (144, .aload_n 0, 1), (145, .getfield 276, 3), (148, .iconst 1, 1), (149, .isub, 1), (150, .iaload, 1), (151, .bipush 42, 2), (153, .if_icmp .ne 7, 3), (156, .iconst 3, 1), (157, .goto 4, 3), (160, .iconst 4, 1), (161, .istore_n 1, 1), (162, .aload_n 0, 1), (163, .iconst 3, 1), (164, .invokevirtual 666, 3), (167, .ifCond .ne 11, 3), (170, .aload_n 0, 1), (171, .iconst 4, 1), (172, .invokevirtual 666, 3), (175, .ifCond .eq 10, 3), (178, .aload_n 0, 1), (179, .invokevirtual 639, 3), (182, .goto (-20), 3), (185, .aload_n 0, 1), (186, .getfield 258, 3), (189, .aload_n 0, 1), (190, .getfield 356, 3), (193, .iload_n 1, 1), (194, .iastore, 1), (195, .aload_n 0, 1), (196, .dup, 1), (197, .getfield 356, 3), (200, .iconst 1, 1), (201, .iadd, 1), (202, .putfield 356, 3), (205, .iconst 1, 1), (206, .ireturn, 1), (207, .aload_n 0, 1), (208, .bipush 43, 2), (210, .invokevirtual 304, 3), (213, .ifCond .ne 12, 3), (216, .aload_n 0, 1), (217, .bipush 45, 2), (219, .invokevirtual 304, 3), (222, .ifCond .eq 86, 3), (225, .aload_n 0, 1), (226, .getfield 7, 3), (229, .aload_n 0, 1), (230, .getfield 276, 3), (233, .iconst 1, 1), (234, .isub, 1), (235, .iaload, 1), (236, .bipush 43, 2), (238, .if_icmp .ne 7, 3), (241, .iconst 1, 1), (242, .goto 4, 3), (245, .iconst 2, 1), (246, .istore_n 1, 1)]
set_option maxRecDepth 100000 in
theorem tkX12_qGoesOn_q1 : ∀ q ∈ tX12_qGoesOn_q1, decode cX12_qGoesOn q.1 = .ok q.2 := by decide +kernel
def tX12_qGoesOn_q2 : List (Nat × Instr × Nat) := [(247, .aload_n 0, 1), (248, .iconst 3, 1), (249, .invokevirtual 666, 3), (252, .ifCond .ne 27, 3), (255, .aload_n 0, 1), (256, .iconst 4, 1), (257, .invokevirtual 666, 3), (260, .ifCond .ne 19, 3), (263, .aload_n 0, 1), (264, .iconst 1, 1), (265, .invokevirtual 666, 3), (268, .ifCond .ne 11, 3), (271, .aload_n 0, 1), (272, .iconst 2, 1), (273, .invokevirtual 666, 3), (276, .ifCond .eq 10, 3), (279, .aload_n 0, 1), (280, .invokevirtual 639, 3), (283, .goto (-36), 3), (286, .aload_n 0, 1), (287, .getfield 258, 3), (290, .aload_n 0, 1), (291, .getfield 356, 3), (294, .iload_n 1, 1), (295, .iastore, 1), (296, .aload_n 0, 1), (297, .dup, 1), (298, .getfield 356, 3), (301, .iconst 1, 1), (302, .iadd, 1), (303, .putfield 356, 3), (306, .iconst 1, 1), (307, .ireturn, 1), (308, .aload_n 0, 1), (309, .invokevirtual 660, 3), (312, .bipush 21, 2), (314, .if_icmp .eq 12, 3), (317, .aload_n 0, 1), (318, .invokevirtual 660, 3), (321, .bipush 22, 2), (323, .if_icmp .ne 39, 3), (326, .aload_n 0, 1), (327, .bipush 44, 2), (329, .invokevirtual 390, 3), (332, .aload_n 0, 1), (333, .getfield 270, 3), (336, .ifCond .eq 5, 3), (339, .iconst 0, 1), (340, .ireturn, 1), (341, .aload_n 0, 1), (342, .invokevirtual 663, 3), (345, .aload_n 0, 1), (346, .getfield 258, 3), (349, .aload_n 0, 1), (350, .getfield 356, 3), (353, .iconst 1, 1), (354, .isub, 1), (355, .dup2, 1), (356, .iaload, 1), (357, .iconst 2, 1), (358, .iadd, 1), (359, .iastore, 1), (360, .iconst 1, 1), (361, .ireturn, 1)]
set_option maxRecDepth 100000 in
theorem tkX12_qGoesOn_q2 : ∀ q ∈ tX12_qGoesOn_q2, decode cX12_qGoesOn q.1 = .ok q.2 := by decide +kernel
def tX12_qGoesOn_q3 : List (Nat × Instr × Nat) := [(362, .aload_n 0, 1), (363, .invokevirtual 660, 3), (366, .iconst (-1), 1), (367, .if_icmp .eq 19, 3), (370, .aload_n 0, 1), (371, .getfield 270, 3), (374, .ifCond .ne 12, 3), (377, .aload_n 0, 1), (378, .iconst 1, 1), (379, .aload_n 0, 1), (380, .getfield 276, 3), (383, .invokevirtual 300, 3), (386, .iconst 0, 1), (387, .ireturn, 1)]
set_option maxRecDepth 100000 in
theorem tkX12_qGoesOn_q3 : ∀ q ∈ tX12_qGoesOn_q3, decode cX12_qGoesOn q.1 = .ok q.2 := by decide +kernel
theorem vmX12_qGoesOn : zVM yX12_qGoesOn cX12_qGoesOn 2 (Option.some .boolean) 0 12 := ⟨kX12_qGoesOn, q_1877, q_73, q_160, ⟨_, rfl, rfl⟩, by decide +kernel, by decide⟩
def X12_qGoesOn_J326 (v0 : Nat) : zM := z_rc 12 v0 (z_cv (X12_asksSign v0 44) (z_gi 12 5 v0 fun x1 => z_if (x1 = 0) (z_rc 12 v0 (z_cv (X12_qDropsToBracket v0) (z_gr 12 106 v0 fun x2 => z_gi 12 107 v0 fun x3 => z_la 20 x2 (x3 - 1) fun x4 => z_sa 20 x2 (x3 - 1) (x4 + 2) (z_rb 1))))
   (z_rb 0)))
set_option maxHeartbeats 2000000 in
set_option maxRecDepth 20000 in
theorem coX12_qGoesOn_J326 (l : Launch) (e : Nat) (he : 3 ≤ e) (v0 : Nat) : zCo l (e + 1) 0 0 iX12_qGoesOn 326 [(0, .ref v0)] [] (X12_qGoesOn_J326 v0) := by
  unfold X12_qGoesOn_J326
  refine zco_p tkX12_qGoesOn_q2 41 2 (pc' := 329) (L' := [(0, .ref v0)]) (S' := [.int 44, .ref v0]) rfl ?_
  refine zco_Vv (rc := 0) (rs := 0) (mc := 0) (ms := 0) (As := [.int 44]) (S := []) vmX12_asksSign (mtX12_asksSign l e (by omega) v0 44) q_1855 rfl rfl (Nat.le_of_ble_eq_true rfl) (zdk (cc := cX12_qGoesOn) (q := (329, .invokevirtual 390, 3)) tkX12_qGoesOn_q2 43 rfl) ?_
  refine zco_p tkX12_qGoesOn_q2 44 1 (pc' := 333) (L' := [(0, .ref v0)]) (S' := [.ref v0]) rfl ?_
  refine zco_gi fl_12_270 rfl (zdk (cc := cX12_qGoesOn) (q := (333, .getfield 270, 3)) tkX12_qGoesOn_q2 45 rfl) (fun x1 => ?_)
  refine zco_if_eq (tgt := 341) (zdk (cc := cX12_qGoesOn) (q := (336, .ifCond .eq 5, 3)) tkX12_qGoesOn_q2 46 rfl) rfl ?_ ?_
  · refine zco_p tkX12_qGoesOn_q2 49 1 (pc' := 342) (L' := [(0, .ref v0)]) (S' := [.ref v0]) rfl ?_
    refine zco_Vv (rc := 0) (rs := 0) (mc := 0) (ms := 0) (As := []) (S := []) vmX12_qDropsToBracket (mtX12_qDropsToBracket l e (by omega) v0) q_1886 rfl rfl (Nat.le_of_ble_eq_true rfl) (zdk (cc := cX12_qGoesOn) (q := (342, .invokevirtual 663, 3)) tkX12_qGoesOn_q2 50 rfl) ?_
    refine zco_p tkX12_qGoesOn_q2 51 1 (pc' := 346) (L' := [(0, .ref v0)]) (S' := [.ref v0]) rfl ?_
    refine zco_gr fl_12_258 rfl (zdk (cc := cX12_qGoesOn) (q := (346, .getfield 258, 3)) tkX12_qGoesOn_q2 52 rfl) (fun x2 => ?_)
    refine zco_p tkX12_qGoesOn_q2 53 1 (pc' := 350) (L' := [(0, .ref v0)]) (S' := [.ref v0, .ref x2]) rfl ?_
    refine zco_gi fl_12_356 rfl (zdk (cc := cX12_qGoesOn) (q := (350, .getfield 356, 3)) tkX12_qGoesOn_q2 54 rfl) (fun x3 => ?_)
    refine zco_p tkX12_qGoesOn_q2 55 3 (pc' := 356) (L' := [(0, .ref v0)]) (S' := [.int (x3 - 1), .ref x2, .int (x3 - 1), .ref x2]) rfl ?_
    refine zco_iaload (zdk (cc := cX12_qGoesOn) (q := (356, .iaload, 1)) tkX12_qGoesOn_q2 58 rfl) (fun x4 => ?_)
    refine zco_p tkX12_qGoesOn_q2 59 2 (pc' := 359) (L' := [(0, .ref v0)]) (S' := [.int (x4 + 2), .int (x3 - 1), .ref x2]) rfl ?_
    refine zco_iastore (zdk (cc := cX12_qGoesOn) (q := (359, .iastore, 1)) tkX12_qGoesOn_q2 61 rfl) ?_
    refine zco_p tkX12_qGoesOn_q2 62 1 (pc' := 361) (L' := [(0, .ref v0)]) (S' := [.int 1]) rfl ?_
    exact zco_zret rfl rfl rfl (zdk (cc := cX12_qGoesOn) (q := (361, .ireturn, 1)) tkX12_qGoesOn_q2 63 rfl)
  · refine zco_p tkX12_qGoesOn_q2 47 1 (pc' := 340) (L' := [(0, .ref v0)]) (S' := [.int 0]) rfl ?_
    exact zco_zret rfl rfl rfl (zdk (cc := cX12_qGoesOn) (q := (340, .ireturn, 1)) tkX12_qGoesOn_q2 48 rfl)
def X12_qGoesOn_J286 (v0 : Nat) (v1 : Int32) : zM := z_gr 12 106 v0 fun x1 => z_gi 12 107 v0 fun x2 => z_sa 20 x1 x2 v1 (z_gi 12 107 v0 fun x3 => z_pi 12 107 v0 (x3 + 1) (z_rb 1))
set_option maxHeartbeats 2000000 in
set_option maxRecDepth 20000 in
theorem coX12_qGoesOn_J286 (l : Launch) (e : Nat) (he : 3 ≤ e) (v0 : Nat) (v1 : Int32) : zCo l (e + 1) 0 0 iX12_qGoesOn 286 [(0, .ref v0), (1, .int v1)] [] (X12_qGoesOn_J286 v0 v1) := by
  unfold X12_qGoesOn_J286
  refine zco_p tkX12_qGoesOn_q2 19 1 (pc' := 287) (L' := [(0, .ref v0), (1, .int v1)]) (S' := [.ref v0]) rfl ?_
  refine zco_gr fl_12_258 rfl (zdk (cc := cX12_qGoesOn) (q := (287, .getfield 258, 3)) tkX12_qGoesOn_q2 20 rfl) (fun x1 => ?_)
  refine zco_p tkX12_qGoesOn_q2 21 1 (pc' := 291) (L' := [(0, .ref v0), (1, .int v1)]) (S' := [.ref v0, .ref x1]) rfl ?_
  refine zco_gi fl_12_356 rfl (zdk (cc := cX12_qGoesOn) (q := (291, .getfield 356, 3)) tkX12_qGoesOn_q2 22 rfl) (fun x2 => ?_)
  refine zco_p tkX12_qGoesOn_q2 23 1 (pc' := 295) (L' := [(0, .ref v0), (1, .int v1)]) (S' := [.int v1, .int x2, .ref x1]) rfl ?_
  refine zco_iastore (zdk (cc := cX12_qGoesOn) (q := (295, .iastore, 1)) tkX12_qGoesOn_q2 24 rfl) ?_
  refine zco_p tkX12_qGoesOn_q2 25 2 (pc' := 298) (L' := [(0, .ref v0), (1, .int v1)]) (S' := [.ref v0, .ref v0]) rfl ?_
  refine zco_gi fl_12_356 rfl (zdk (cc := cX12_qGoesOn) (q := (298, .getfield 356, 3)) tkX12_qGoesOn_q2 27 rfl) (fun x3 => ?_)
  refine zco_p tkX12_qGoesOn_q2 28 2 (pc' := 303) (L' := [(0, .ref v0), (1, .int v1)]) (S' := [.int (x3 + 1), .ref v0]) rfl ?_
  refine zco_pi fl_12_356 rfl rfl (zdk (cc := cX12_qGoesOn) (q := (303, .putfield 356, 3)) tkX12_qGoesOn_q2 30 rfl) ?_
  refine zco_p tkX12_qGoesOn_q2 31 1 (pc' := 307) (L' := [(0, .ref v0), (1, .int v1)]) (S' := [.int 1]) rfl ?_
  exact zco_zret rfl rfl rfl (zdk (cc := cX12_qGoesOn) (q := (307, .ireturn, 1)) tkX12_qGoesOn_q2 32 rfl)
def X12_qGoesOn_J279 (r247 : Unit → zM) (v0 : Nat) (v1 : Int32) : zM := z_rc 12 v0 (z_cv (X12_qDrops v0) (r247 (())))
set_option maxHeartbeats 2000000 in
set_option maxRecDepth 20000 in
theorem coX12_qGoesOn_J279 (l : Launch) (e : Nat) (he : 3 ≤ e) (v0 : Nat) (v1 : Int32) (r247 : Unit → zM) (hr247 : ∀ x : Unit, zCo l (e + 1) 0 0 iX12_qGoesOn 247 [(0, .ref v0), (1, .int v1)] [] (r247 x)) : zCo l (e + 1) 0 0 iX12_qGoesOn 279 [(0, .ref v0), (1, .int v1)] [] (X12_qGoesOn_J279 r247 v0 v1) := by
  unfold X12_qGoesOn_J279
  refine zco_p tkX12_qGoesOn_q2 16 1 (pc' := 280) (L' := [(0, .ref v0), (1, .int v1)]) (S' := [.ref v0]) rfl ?_
  refine zco_Vv (rc := 0) (rs := 0) (mc := 0) (ms := 0) (As := []) (S := []) vmX12_qDrops (mtX12_qDrops l e (by omega) v0) q_1871 rfl rfl (Nat.le_of_ble_eq_true rfl) (zdk (cc := cX12_qGoesOn) (q := (280, .invokevirtual 639, 3)) tkX12_qGoesOn_q2 17 rfl) ?_
  refine zco_p tkX12_qGoesOn_q2 18 1 (pc' := 247) (L' := [(0, .ref v0), (1, .int v1)]) (S' := []) rfl ?_
  exact zco_sub [0, 1] rfl (hr247 (()))
def X12_qGoesOn_B247 (v0 : Nat) (v1 : Int32) (r247 : Unit → zM) : zM := z_rc 12 v0 (z_ci (X12_qIsOn v0 3) fun y1 => z_if (y1 = 0) (z_rc 12 v0 (z_ci (X12_qIsOn v0 4) fun y2 => z_if (y2 = 0) (z_rc 12 v0 (z_ci (X12_qIsOn v0 1) fun y3 => z_if (y3 = 0) (z_rc 12 v0 (z_ci (X12_qIsOn v0 2) fun y4 => z_if (y4 = 0) (X12_qGoesOn_J286 v0 v1)
   (X12_qGoesOn_J279 r247 v0 v1)))
   (X12_qGoesOn_J279 r247 v0 v1)))
   (X12_qGoesOn_J279 r247 v0 v1)))
   (X12_qGoesOn_J279 r247 v0 v1))
set_option maxHeartbeats 2000000 in
set_option maxRecDepth 20000 in
theorem coX12_qGoesOn_B247 (l : Launch) (e : Nat) (he : 3 ≤ e) (v0 : Nat) (v1 : Int32) (r247 : Unit → zM) (hr247 : ∀ x : Unit, zCo l (e + 1) 0 0 iX12_qGoesOn 247 [(0, .ref v0), (1, .int v1)] [] (r247 x)) : zCo l (e + 1) 0 0 iX12_qGoesOn 247 [(0, .ref v0), (1, .int v1)] [] (X12_qGoesOn_B247 v0 v1 r247) := by
  unfold X12_qGoesOn_B247
  refine zco_p tkX12_qGoesOn_q2 0 2 (pc' := 249) (L' := [(0, .ref v0), (1, .int v1)]) (S' := [.int 3, .ref v0]) rfl ?_
  refine zco_Vi (rc := 0) (rs := 0) (mc := 0) (ms := 0) (As := [.int 3]) (S := []) vmX12_qIsOn (mtX12_qIsOn l e (by omega) v0 3) q_1890 rfl rfl (Nat.le_of_ble_eq_true rfl) (zdk (cc := cX12_qGoesOn) (q := (249, .invokevirtual 666, 3)) tkX12_qGoesOn_q2 2 rfl) (fun y1 => ?_)
  refine zco_if_ne (tgt := 279) (zdk (cc := cX12_qGoesOn) (q := (252, .ifCond .ne 27, 3)) tkX12_qGoesOn_q2 3 rfl) rfl ?_ ?_
  · exact zco_sub [0, 1] rfl (coX12_qGoesOn_J279 l e he v0 v1 r247 hr247)
  · refine zco_p tkX12_qGoesOn_q2 4 2 (pc' := 257) (L' := [(0, .ref v0), (1, .int v1)]) (S' := [.int 4, .ref v0]) rfl ?_
    refine zco_Vi (rc := 0) (rs := 0) (mc := 0) (ms := 0) (As := [.int 4]) (S := []) vmX12_qIsOn (mtX12_qIsOn l e (by omega) v0 4) q_1890 rfl rfl (Nat.le_of_ble_eq_true rfl) (zdk (cc := cX12_qGoesOn) (q := (257, .invokevirtual 666, 3)) tkX12_qGoesOn_q2 6 rfl) (fun y2 => ?_)
    refine zco_if_ne (tgt := 279) (zdk (cc := cX12_qGoesOn) (q := (260, .ifCond .ne 19, 3)) tkX12_qGoesOn_q2 7 rfl) rfl ?_ ?_
    · exact zco_sub [0, 1] rfl (coX12_qGoesOn_J279 l e he v0 v1 r247 hr247)
    · refine zco_p tkX12_qGoesOn_q2 8 2 (pc' := 265) (L' := [(0, .ref v0), (1, .int v1)]) (S' := [.int 1, .ref v0]) rfl ?_
      refine zco_Vi (rc := 0) (rs := 0) (mc := 0) (ms := 0) (As := [.int 1]) (S := []) vmX12_qIsOn (mtX12_qIsOn l e (by omega) v0 1) q_1890 rfl rfl (Nat.le_of_ble_eq_true rfl) (zdk (cc := cX12_qGoesOn) (q := (265, .invokevirtual 666, 3)) tkX12_qGoesOn_q2 10 rfl) (fun y3 => ?_)
      refine zco_if_ne (tgt := 279) (zdk (cc := cX12_qGoesOn) (q := (268, .ifCond .ne 11, 3)) tkX12_qGoesOn_q2 11 rfl) rfl ?_ ?_
      · exact zco_sub [0, 1] rfl (coX12_qGoesOn_J279 l e he v0 v1 r247 hr247)
      · refine zco_p tkX12_qGoesOn_q2 12 2 (pc' := 273) (L' := [(0, .ref v0), (1, .int v1)]) (S' := [.int 2, .ref v0]) rfl ?_
        refine zco_Vi (rc := 0) (rs := 0) (mc := 0) (ms := 0) (As := [.int 2]) (S := []) vmX12_qIsOn (mtX12_qIsOn l e (by omega) v0 2) q_1890 rfl rfl (Nat.le_of_ble_eq_true rfl) (zdk (cc := cX12_qGoesOn) (q := (273, .invokevirtual 666, 3)) tkX12_qGoesOn_q2 14 rfl) (fun y4 => ?_)
        refine zco_if_eq (tgt := 286) (zdk (cc := cX12_qGoesOn) (q := (276, .ifCond .eq 10, 3)) tkX12_qGoesOn_q2 15 rfl) rfl ?_ ?_
        · exact zco_sub [0, 1] rfl (coX12_qGoesOn_J286 l e he v0 v1)
        · exact zco_sub [0, 1] rfl (coX12_qGoesOn_J279 l e he v0 v1 r247 hr247)
def X12_qGoesOn_J246 (v0 : Nat) (s0 : Int32) : zM := z_fix (fun r x => X12_qGoesOn_B247 v0 s0 r ) zFU (())
set_option maxHeartbeats 2000000 in
set_option maxRecDepth 20000 in
theorem coX12_qGoesOn_J246 (l : Launch) (e : Nat) (he : 3 ≤ e) (v0 : Nat) (s0 : Int32) : zCo l (e + 1) 0 0 iX12_qGoesOn 246 [(0, .ref v0)] [.int s0] (X12_qGoesOn_J246 v0 s0) := by
  unfold X12_qGoesOn_J246
  refine zco_p tkX12_qGoesOn_q1 63 1 (pc' := 247) (L' := [(1, .int s0), (0, .ref v0)]) (S' := []) rfl ?_
  exact zco_sub [1, 0] rfl (zco_fix (Lf := fun x : Unit => [(0, .ref v0), (1, .int s0)]) (Sf := fun _ => []) (fun r hr x => coX12_qGoesOn_B247 l e he v0 s0 r hr ) zFU (()))
def X12_qGoesOn_J225 (v0 : Nat) : zM := z_gr 12 0 v0 fun x1 => z_gi 12 2 v0 fun x2 => z_la 20 x1 (x2 - 1) fun x3 => z_if (x3 = 43) (X12_qGoesOn_J246 v0 1)
   (X12_qGoesOn_J246 v0 2)
set_option maxHeartbeats 2000000 in
set_option maxRecDepth 20000 in
theorem coX12_qGoesOn_J225 (l : Launch) (e : Nat) (he : 3 ≤ e) (v0 : Nat) : zCo l (e + 1) 0 0 iX12_qGoesOn 225 [(0, .ref v0)] [] (X12_qGoesOn_J225 v0) := by
  unfold X12_qGoesOn_J225
  refine zco_p tkX12_qGoesOn_q1 51 1 (pc' := 226) (L' := [(0, .ref v0)]) (S' := [.ref v0]) rfl ?_
  refine zco_gr fl_12_7 rfl (zdk (cc := cX12_qGoesOn) (q := (226, .getfield 7, 3)) tkX12_qGoesOn_q1 52 rfl) (fun x1 => ?_)
  refine zco_p tkX12_qGoesOn_q1 53 1 (pc' := 230) (L' := [(0, .ref v0)]) (S' := [.ref v0, .ref x1]) rfl ?_
  refine zco_gi fl_12_276 rfl (zdk (cc := cX12_qGoesOn) (q := (230, .getfield 276, 3)) tkX12_qGoesOn_q1 54 rfl) (fun x2 => ?_)
  refine zco_p tkX12_qGoesOn_q1 55 2 (pc' := 235) (L' := [(0, .ref v0)]) (S' := [.int (x2 - 1), .ref x1]) rfl ?_
  refine zco_iaload (zdk (cc := cX12_qGoesOn) (q := (235, .iaload, 1)) tkX12_qGoesOn_q1 57 rfl) (fun x3 => ?_)
  refine zco_p tkX12_qGoesOn_q1 58 1 (pc' := 238) (L' := [(0, .ref v0)]) (S' := [.int 43, .int x3]) rfl ?_
  refine zco_icmp_ne (tgt := 245) (zdk (cc := cX12_qGoesOn) (q := (238, .if_icmp .ne 7, 3)) tkX12_qGoesOn_q1 59 rfl) rfl ?_ ?_
  · refine zco_p tkX12_qGoesOn_q1 62 1 (pc' := 246) (L' := [(0, .ref v0)]) (S' := [.int 2]) rfl ?_
    exact zco_sub [0] rfl (coX12_qGoesOn_J246 l e he v0 2)
  · refine zco_p tkX12_qGoesOn_q1 60 2 (pc' := 246) (L' := [(0, .ref v0)]) (S' := [.int 1]) rfl ?_
    exact zco_sub [0] rfl (coX12_qGoesOn_J246 l e he v0 1)
def X12_qGoesOn_J185 (v0 : Nat) (v1 : Int32) : zM := z_gr 12 106 v0 fun x1 => z_gi 12 107 v0 fun x2 => z_sa 20 x1 x2 v1 (z_gi 12 107 v0 fun x3 => z_pi 12 107 v0 (x3 + 1) (z_rb 1))
set_option maxHeartbeats 2000000 in
set_option maxRecDepth 20000 in
theorem coX12_qGoesOn_J185 (l : Launch) (e : Nat) (he : 3 ≤ e) (v0 : Nat) (v1 : Int32) : zCo l (e + 1) 0 0 iX12_qGoesOn 185 [(0, .ref v0), (1, .int v1)] [] (X12_qGoesOn_J185 v0 v1) := by
  unfold X12_qGoesOn_J185
  refine zco_p tkX12_qGoesOn_q1 29 1 (pc' := 186) (L' := [(0, .ref v0), (1, .int v1)]) (S' := [.ref v0]) rfl ?_
  refine zco_gr fl_12_258 rfl (zdk (cc := cX12_qGoesOn) (q := (186, .getfield 258, 3)) tkX12_qGoesOn_q1 30 rfl) (fun x1 => ?_)
  refine zco_p tkX12_qGoesOn_q1 31 1 (pc' := 190) (L' := [(0, .ref v0), (1, .int v1)]) (S' := [.ref v0, .ref x1]) rfl ?_
  refine zco_gi fl_12_356 rfl (zdk (cc := cX12_qGoesOn) (q := (190, .getfield 356, 3)) tkX12_qGoesOn_q1 32 rfl) (fun x2 => ?_)
  refine zco_p tkX12_qGoesOn_q1 33 1 (pc' := 194) (L' := [(0, .ref v0), (1, .int v1)]) (S' := [.int v1, .int x2, .ref x1]) rfl ?_
  refine zco_iastore (zdk (cc := cX12_qGoesOn) (q := (194, .iastore, 1)) tkX12_qGoesOn_q1 34 rfl) ?_
  refine zco_p tkX12_qGoesOn_q1 35 2 (pc' := 197) (L' := [(0, .ref v0), (1, .int v1)]) (S' := [.ref v0, .ref v0]) rfl ?_
  refine zco_gi fl_12_356 rfl (zdk (cc := cX12_qGoesOn) (q := (197, .getfield 356, 3)) tkX12_qGoesOn_q1 37 rfl) (fun x3 => ?_)
  refine zco_p tkX12_qGoesOn_q1 38 2 (pc' := 202) (L' := [(0, .ref v0), (1, .int v1)]) (S' := [.int (x3 + 1), .ref v0]) rfl ?_
  refine zco_pi fl_12_356 rfl rfl (zdk (cc := cX12_qGoesOn) (q := (202, .putfield 356, 3)) tkX12_qGoesOn_q1 40 rfl) ?_
  refine zco_p tkX12_qGoesOn_q1 41 1 (pc' := 206) (L' := [(0, .ref v0), (1, .int v1)]) (S' := [.int 1]) rfl ?_
  exact zco_zret rfl rfl rfl (zdk (cc := cX12_qGoesOn) (q := (206, .ireturn, 1)) tkX12_qGoesOn_q1 42 rfl)
def X12_qGoesOn_J178 (r162 : Unit → zM) (v0 : Nat) (v1 : Int32) : zM := z_rc 12 v0 (z_cv (X12_qDrops v0) (r162 (())))
set_option maxHeartbeats 2000000 in
set_option maxRecDepth 20000 in
theorem coX12_qGoesOn_J178 (l : Launch) (e : Nat) (he : 3 ≤ e) (v0 : Nat) (v1 : Int32) (r162 : Unit → zM) (hr162 : ∀ x : Unit, zCo l (e + 1) 0 0 iX12_qGoesOn 162 [(0, .ref v0), (1, .int v1)] [] (r162 x)) : zCo l (e + 1) 0 0 iX12_qGoesOn 178 [(0, .ref v0), (1, .int v1)] [] (X12_qGoesOn_J178 r162 v0 v1) := by
  unfold X12_qGoesOn_J178
  refine zco_p tkX12_qGoesOn_q1 26 1 (pc' := 179) (L' := [(0, .ref v0), (1, .int v1)]) (S' := [.ref v0]) rfl ?_
  refine zco_Vv (rc := 0) (rs := 0) (mc := 0) (ms := 0) (As := []) (S := []) vmX12_qDrops (mtX12_qDrops l e (by omega) v0) q_1871 rfl rfl (Nat.le_of_ble_eq_true rfl) (zdk (cc := cX12_qGoesOn) (q := (179, .invokevirtual 639, 3)) tkX12_qGoesOn_q1 27 rfl) ?_
  refine zco_p tkX12_qGoesOn_q1 28 1 (pc' := 162) (L' := [(0, .ref v0), (1, .int v1)]) (S' := []) rfl ?_
  exact zco_sub [0, 1] rfl (hr162 (()))
def X12_qGoesOn_B162 (v0 : Nat) (v1 : Int32) (r162 : Unit → zM) : zM := z_rc 12 v0 (z_ci (X12_qIsOn v0 3) fun y1 => z_if (y1 = 0) (z_rc 12 v0 (z_ci (X12_qIsOn v0 4) fun y2 => z_if (y2 = 0) (X12_qGoesOn_J185 v0 v1)
   (X12_qGoesOn_J178 r162 v0 v1)))
   (X12_qGoesOn_J178 r162 v0 v1))
set_option maxHeartbeats 2000000 in
set_option maxRecDepth 20000 in
theorem coX12_qGoesOn_B162 (l : Launch) (e : Nat) (he : 3 ≤ e) (v0 : Nat) (v1 : Int32) (r162 : Unit → zM) (hr162 : ∀ x : Unit, zCo l (e + 1) 0 0 iX12_qGoesOn 162 [(0, .ref v0), (1, .int v1)] [] (r162 x)) : zCo l (e + 1) 0 0 iX12_qGoesOn 162 [(0, .ref v0), (1, .int v1)] [] (X12_qGoesOn_B162 v0 v1 r162) := by
  unfold X12_qGoesOn_B162
  refine zco_p tkX12_qGoesOn_q1 18 2 (pc' := 164) (L' := [(0, .ref v0), (1, .int v1)]) (S' := [.int 3, .ref v0]) rfl ?_
  refine zco_Vi (rc := 0) (rs := 0) (mc := 0) (ms := 0) (As := [.int 3]) (S := []) vmX12_qIsOn (mtX12_qIsOn l e (by omega) v0 3) q_1890 rfl rfl (Nat.le_of_ble_eq_true rfl) (zdk (cc := cX12_qGoesOn) (q := (164, .invokevirtual 666, 3)) tkX12_qGoesOn_q1 20 rfl) (fun y1 => ?_)
  refine zco_if_ne (tgt := 178) (zdk (cc := cX12_qGoesOn) (q := (167, .ifCond .ne 11, 3)) tkX12_qGoesOn_q1 21 rfl) rfl ?_ ?_
  · exact zco_sub [0, 1] rfl (coX12_qGoesOn_J178 l e he v0 v1 r162 hr162)
  · refine zco_p tkX12_qGoesOn_q1 22 2 (pc' := 172) (L' := [(0, .ref v0), (1, .int v1)]) (S' := [.int 4, .ref v0]) rfl ?_
    refine zco_Vi (rc := 0) (rs := 0) (mc := 0) (ms := 0) (As := [.int 4]) (S := []) vmX12_qIsOn (mtX12_qIsOn l e (by omega) v0 4) q_1890 rfl rfl (Nat.le_of_ble_eq_true rfl) (zdk (cc := cX12_qGoesOn) (q := (172, .invokevirtual 666, 3)) tkX12_qGoesOn_q1 24 rfl) (fun y2 => ?_)
    refine zco_if_eq (tgt := 185) (zdk (cc := cX12_qGoesOn) (q := (175, .ifCond .eq 10, 3)) tkX12_qGoesOn_q1 25 rfl) rfl ?_ ?_
    · exact zco_sub [0, 1] rfl (coX12_qGoesOn_J185 l e he v0 v1)
    · exact zco_sub [0, 1] rfl (coX12_qGoesOn_J178 l e he v0 v1 r162 hr162)
def X12_qGoesOn_J161 (v0 : Nat) (s0 : Int32) : zM := z_fix (fun r x => X12_qGoesOn_B162 v0 s0 r ) zFU (())
set_option maxHeartbeats 2000000 in
set_option maxRecDepth 20000 in
theorem coX12_qGoesOn_J161 (l : Launch) (e : Nat) (he : 3 ≤ e) (v0 : Nat) (s0 : Int32) : zCo l (e + 1) 0 0 iX12_qGoesOn 161 [(0, .ref v0)] [.int s0] (X12_qGoesOn_J161 v0 s0) := by
  unfold X12_qGoesOn_J161
  refine zco_p tkX12_qGoesOn_q1 17 1 (pc' := 162) (L' := [(1, .int s0), (0, .ref v0)]) (S' := []) rfl ?_
  exact zco_sub [1, 0] rfl (zco_fix (Lf := fun x : Unit => [(0, .ref v0), (1, .int s0)]) (Sf := fun _ => []) (fun r hr x => coX12_qGoesOn_B162 l e he v0 s0 r hr ) zFU (()))
def X12_qGoesOn_J140 (v0 : Nat) : zM := z_gr 12 0 v0 fun x1 => z_gi 12 2 v0 fun x2 => z_la 20 x1 (x2 - 1) fun x3 => z_if (x3 = 42) (X12_qGoesOn_J161 v0 3)
   (X12_qGoesOn_J161 v0 4)
set_option maxHeartbeats 2000000 in
set_option maxRecDepth 20000 in
theorem coX12_qGoesOn_J140 (l : Launch) (e : Nat) (he : 3 ≤ e) (v0 : Nat) : zCo l (e + 1) 0 0 iX12_qGoesOn 140 [(0, .ref v0)] [] (X12_qGoesOn_J140 v0) := by
  unfold X12_qGoesOn_J140
  refine zco_p tkX12_qGoesOn_q1 5 1 (pc' := 141) (L' := [(0, .ref v0)]) (S' := [.ref v0]) rfl ?_
  refine zco_gr fl_12_7 rfl (zdk (cc := cX12_qGoesOn) (q := (141, .getfield 7, 3)) tkX12_qGoesOn_q1 6 rfl) (fun x1 => ?_)
  refine zco_p tkX12_qGoesOn_q1 7 1 (pc' := 145) (L' := [(0, .ref v0)]) (S' := [.ref v0, .ref x1]) rfl ?_
  refine zco_gi fl_12_276 rfl (zdk (cc := cX12_qGoesOn) (q := (145, .getfield 276, 3)) tkX12_qGoesOn_q1 8 rfl) (fun x2 => ?_)
  refine zco_p tkX12_qGoesOn_q1 9 2 (pc' := 150) (L' := [(0, .ref v0)]) (S' := [.int (x2 - 1), .ref x1]) rfl ?_
  refine zco_iaload (zdk (cc := cX12_qGoesOn) (q := (150, .iaload, 1)) tkX12_qGoesOn_q1 11 rfl) (fun x3 => ?_)
  refine zco_p tkX12_qGoesOn_q1 12 1 (pc' := 153) (L' := [(0, .ref v0)]) (S' := [.int 42, .int x3]) rfl ?_
  refine zco_icmp_ne (tgt := 160) (zdk (cc := cX12_qGoesOn) (q := (153, .if_icmp .ne 7, 3)) tkX12_qGoesOn_q1 13 rfl) rfl ?_ ?_
  · refine zco_p tkX12_qGoesOn_q1 16 1 (pc' := 161) (L' := [(0, .ref v0)]) (S' := [.int 4]) rfl ?_
    exact zco_sub [0] rfl (coX12_qGoesOn_J161 l e he v0 4)
  · refine zco_p tkX12_qGoesOn_q1 14 2 (pc' := 161) (L' := [(0, .ref v0)]) (S' := [.int 3]) rfl ?_
    exact zco_sub [0] rfl (coX12_qGoesOn_J161 l e he v0 3)
def X12_qGoesOn_J122 (v0 : Nat) : zM := z_rc 12 v0 (z_ci (X12_takesSign v0 42) fun y1 => z_if (y1 = 0) (z_rc 12 v0 (z_ci (X12_takesSign v0 47) fun y2 => z_if (y2 = 0) (z_rc 12 v0 (z_ci (X12_takesSign v0 43) fun y3 => z_if (y3 = 0) (z_rc 12 v0 (z_ci (X12_takesSign v0 45) fun y4 => z_if (y4 = 0) (z_rc 12 v0 (z_ci (X12_qBracket v0) fun y5 => z_if (y5 = 21) (X12_qGoesOn_J326 v0)
   (z_rc 12 v0 (z_ci (X12_qBracket v0) fun y6 => z_if (y6 = 22) (X12_qGoesOn_J326 v0)
   (z_rc 12 v0 (z_ci (X12_qBracket v0) fun y7 => z_if (y7 = ((-1))) (z_rb 0)
   (z_gi 12 5 v0 fun x8 => z_if (x8 = 0) (z_gi 12 2 v0 fun x9 => z_rc 12 v0 (z_cv (X12_fail v0 1 x9) (z_rb 0)))
   (z_rb 0))))))))
   (X12_qGoesOn_J225 v0)))
   (X12_qGoesOn_J225 v0)))
   (X12_qGoesOn_J140 v0)))
   (X12_qGoesOn_J140 v0))
set_option maxHeartbeats 2000000 in
set_option maxRecDepth 20000 in
theorem coX12_qGoesOn_J122 (l : Launch) (e : Nat) (he : 3 ≤ e) (v0 : Nat) : zCo l (e + 1) 0 0 iX12_qGoesOn 122 [(0, .ref v0)] [] (X12_qGoesOn_J122 v0) := by
  unfold X12_qGoesOn_J122
  refine zco_p tkX12_qGoesOn_q0 61 2 (pc' := 125) (L' := [(0, .ref v0)]) (S' := [.int 42, .ref v0]) rfl ?_
  refine zco_Vi (rc := 0) (rs := 0) (mc := 0) (ms := 0) (As := [.int 42]) (S := []) vmX12_takesSign (mtX12_takesSign l e (by omega) v0 42) q_1859 rfl rfl (Nat.le_of_ble_eq_true rfl) (zdk (cc := cX12_qGoesOn) (q := (125, .invokevirtual 304, 3)) tkX12_qGoesOn_q0 63 rfl) (fun y1 => ?_)
  refine zco_if_ne (tgt := 140) (zdk (cc := cX12_qGoesOn) (q := (128, .ifCond .ne 12, 3)) tkX12_qGoesOn_q1 0 rfl) rfl ?_ ?_
  · exact zco_sub [0] rfl (coX12_qGoesOn_J140 l e he v0)
  · refine zco_p tkX12_qGoesOn_q1 1 2 (pc' := 134) (L' := [(0, .ref v0)]) (S' := [.int 47, .ref v0]) rfl ?_
    refine zco_Vi (rc := 0) (rs := 0) (mc := 0) (ms := 0) (As := [.int 47]) (S := []) vmX12_takesSign (mtX12_takesSign l e (by omega) v0 47) q_1859 rfl rfl (Nat.le_of_ble_eq_true rfl) (zdk (cc := cX12_qGoesOn) (q := (134, .invokevirtual 304, 3)) tkX12_qGoesOn_q1 3 rfl) (fun y2 => ?_)
    refine zco_if_eq (tgt := 207) (zdk (cc := cX12_qGoesOn) (q := (137, .ifCond .eq 70, 3)) tkX12_qGoesOn_q1 4 rfl) rfl ?_ ?_
    · refine zco_p tkX12_qGoesOn_q1 43 2 (pc' := 210) (L' := [(0, .ref v0)]) (S' := [.int 43, .ref v0]) rfl ?_
      refine zco_Vi (rc := 0) (rs := 0) (mc := 0) (ms := 0) (As := [.int 43]) (S := []) vmX12_takesSign (mtX12_takesSign l e (by omega) v0 43) q_1859 rfl rfl (Nat.le_of_ble_eq_true rfl) (zdk (cc := cX12_qGoesOn) (q := (210, .invokevirtual 304, 3)) tkX12_qGoesOn_q1 45 rfl) (fun y3 => ?_)
      refine zco_if_ne (tgt := 225) (zdk (cc := cX12_qGoesOn) (q := (213, .ifCond .ne 12, 3)) tkX12_qGoesOn_q1 46 rfl) rfl ?_ ?_
      · exact zco_sub [0] rfl (coX12_qGoesOn_J225 l e he v0)
      · refine zco_p tkX12_qGoesOn_q1 47 2 (pc' := 219) (L' := [(0, .ref v0)]) (S' := [.int 45, .ref v0]) rfl ?_
        refine zco_Vi (rc := 0) (rs := 0) (mc := 0) (ms := 0) (As := [.int 45]) (S := []) vmX12_takesSign (mtX12_takesSign l e (by omega) v0 45) q_1859 rfl rfl (Nat.le_of_ble_eq_true rfl) (zdk (cc := cX12_qGoesOn) (q := (219, .invokevirtual 304, 3)) tkX12_qGoesOn_q1 49 rfl) (fun y4 => ?_)
        refine zco_if_eq (tgt := 308) (zdk (cc := cX12_qGoesOn) (q := (222, .ifCond .eq 86, 3)) tkX12_qGoesOn_q1 50 rfl) rfl ?_ ?_
        · refine zco_p tkX12_qGoesOn_q2 33 1 (pc' := 309) (L' := [(0, .ref v0)]) (S' := [.ref v0]) rfl ?_
          refine zco_Vi (rc := 0) (rs := 0) (mc := 0) (ms := 0) (As := []) (S := []) vmX12_qBracket (mtX12_qBracket l e (by omega) v0) q_1879 rfl rfl (Nat.le_of_ble_eq_true rfl) (zdk (cc := cX12_qGoesOn) (q := (309, .invokevirtual 660, 3)) tkX12_qGoesOn_q2 34 rfl) (fun y5 => ?_)
          refine zco_p tkX12_qGoesOn_q2 35 1 (pc' := 314) (L' := [(0, .ref v0)]) (S' := [.int 21, .int y5]) rfl ?_
          refine zco_icmp_eq (tgt := 326) (zdk (cc := cX12_qGoesOn) (q := (314, .if_icmp .eq 12, 3)) tkX12_qGoesOn_q2 36 rfl) rfl ?_ ?_
          · exact zco_sub [0] rfl (coX12_qGoesOn_J326 l e he v0)
          · refine zco_p tkX12_qGoesOn_q2 37 1 (pc' := 318) (L' := [(0, .ref v0)]) (S' := [.ref v0]) rfl ?_
            refine zco_Vi (rc := 0) (rs := 0) (mc := 0) (ms := 0) (As := []) (S := []) vmX12_qBracket (mtX12_qBracket l e (by omega) v0) q_1879 rfl rfl (Nat.le_of_ble_eq_true rfl) (zdk (cc := cX12_qGoesOn) (q := (318, .invokevirtual 660, 3)) tkX12_qGoesOn_q2 38 rfl) (fun y6 => ?_)
            refine zco_p tkX12_qGoesOn_q2 39 1 (pc' := 323) (L' := [(0, .ref v0)]) (S' := [.int 22, .int y6]) rfl ?_
            refine zco_icmp_ne (tgt := 362) (zdk (cc := cX12_qGoesOn) (q := (323, .if_icmp .ne 39, 3)) tkX12_qGoesOn_q2 40 rfl) rfl ?_ ?_
            · refine zco_p tkX12_qGoesOn_q3 0 1 (pc' := 363) (L' := [(0, .ref v0)]) (S' := [.ref v0]) rfl ?_
              refine zco_Vi (rc := 0) (rs := 0) (mc := 0) (ms := 0) (As := []) (S := []) vmX12_qBracket (mtX12_qBracket l e (by omega) v0) q_1879 rfl rfl (Nat.le_of_ble_eq_true rfl) (zdk (cc := cX12_qGoesOn) (q := (363, .invokevirtual 660, 3)) tkX12_qGoesOn_q3 1 rfl) (fun y7 => ?_)
              refine zco_p tkX12_qGoesOn_q3 2 1 (pc' := 367) (L' := [(0, .ref v0)]) (S' := [.int ((-1)), .int y7]) rfl ?_
              refine zco_icmp_eq (tgt := 386) (zdk (cc := cX12_qGoesOn) (q := (367, .if_icmp .eq 19, 3)) tkX12_qGoesOn_q3 3 rfl) rfl ?_ ?_
              · refine zco_p tkX12_qGoesOn_q3 12 1 (pc' := 387) (L' := [(0, .ref v0)]) (S' := [.int 0]) rfl ?_
                exact zco_zret rfl rfl rfl (zdk (cc := cX12_qGoesOn) (q := (387, .ireturn, 1)) tkX12_qGoesOn_q3 13 rfl)
              · refine zco_p tkX12_qGoesOn_q3 4 1 (pc' := 371) (L' := [(0, .ref v0)]) (S' := [.ref v0]) rfl ?_
                refine zco_gi fl_12_270 rfl (zdk (cc := cX12_qGoesOn) (q := (371, .getfield 270, 3)) tkX12_qGoesOn_q3 5 rfl) (fun x8 => ?_)
                refine zco_if_ne (tgt := 386) (zdk (cc := cX12_qGoesOn) (q := (374, .ifCond .ne 12, 3)) tkX12_qGoesOn_q3 6 rfl) rfl ?_ ?_
                · refine zco_p tkX12_qGoesOn_q3 12 1 (pc' := 387) (L' := [(0, .ref v0)]) (S' := [.int 0]) rfl ?_
                  exact zco_zret rfl rfl rfl (zdk (cc := cX12_qGoesOn) (q := (387, .ireturn, 1)) tkX12_qGoesOn_q3 13 rfl)
                · refine zco_p tkX12_qGoesOn_q3 7 3 (pc' := 380) (L' := [(0, .ref v0)]) (S' := [.ref v0, .int 1, .ref v0]) rfl ?_
                  refine zco_gi fl_12_276 rfl (zdk (cc := cX12_qGoesOn) (q := (380, .getfield 276, 3)) tkX12_qGoesOn_q3 10 rfl) (fun x9 => ?_)
                  refine zco_Vv (rc := 0) (rs := 0) (mc := 0) (ms := 0) (As := [.int 1, .int x9]) (S := []) vmX12_fail (mtX12_fail l e (by omega) v0 1 x9) q_1757 rfl rfl (Nat.le_of_ble_eq_true rfl) (zdk (cc := cX12_qGoesOn) (q := (383, .invokevirtual 300, 3)) tkX12_qGoesOn_q3 11 rfl) ?_
                  refine zco_p tkX12_qGoesOn_q3 12 1 (pc' := 387) (L' := [(0, .ref v0)]) (S' := [.int 0]) rfl ?_
                  exact zco_zret rfl rfl rfl (zdk (cc := cX12_qGoesOn) (q := (387, .ireturn, 1)) tkX12_qGoesOn_q3 13 rfl)
            · exact zco_sub [0] rfl (coX12_qGoesOn_J326 l e he v0)
        · exact zco_sub [0] rfl (coX12_qGoesOn_J225 l e he v0)
    · exact zco_sub [0] rfl (coX12_qGoesOn_J140 l e he v0)
def X12_qGoesOn_J115 (r0 : Unit → zM) (v0 : Nat) : zM := z_rc 12 v0 (z_cv (X12_qEndsPart v0) (r0 (())))
set_option maxHeartbeats 2000000 in
set_option maxRecDepth 20000 in
theorem coX12_qGoesOn_J115 (l : Launch) (e : Nat) (he : 3 ≤ e) (v0 : Nat) (r0 : Unit → zM) (hr0 : ∀ x : Unit, zCo l (e + 1) 0 0 iX12_qGoesOn 0 [(0, .ref v0)] [] (r0 x)) : zCo l (e + 1) 0 0 iX12_qGoesOn 115 [(0, .ref v0)] [] (X12_qGoesOn_J115 r0 v0) := by
  unfold X12_qGoesOn_J115
  refine zco_p tkX12_qGoesOn_q0 58 1 (pc' := 116) (L' := [(0, .ref v0)]) (S' := [.ref v0]) rfl ?_
  refine zco_Vv (rc := 0) (rs := 0) (mc := 0) (ms := 0) (As := []) (S := []) vmX12_qEndsPart (mtX12_qEndsPart l e (by omega) v0) q_1867 rfl rfl (Nat.le_of_ble_eq_true rfl) (zdk (cc := cX12_qGoesOn) (q := (116, .invokevirtual 657, 3)) tkX12_qGoesOn_q0 59 rfl) ?_
  refine zco_p tkX12_qGoesOn_q0 60 1 (pc' := 0) (L' := [(0, .ref v0)]) (S' := []) rfl ?_
  exact zco_sub [0] rfl (hr0 (()))
def X12_qGoesOn_J112 (r0 : Unit → zM) (v0 : Nat) (s0 : Int32) (s1 : Nat) : zM := z_rc 12 s1 (z_cv (X12_qCode s1 s0) (X12_qGoesOn_J115 r0 v0))
set_option maxHeartbeats 2000000 in
set_option maxRecDepth 20000 in
theorem coX12_qGoesOn_J112 (l : Launch) (e : Nat) (he : 3 ≤ e) (v0 : Nat) (r0 : Unit → zM) (hr0 : ∀ x : Unit, zCo l (e + 1) 0 0 iX12_qGoesOn 0 [(0, .ref v0)] [] (r0 x)) (s0 : Int32) (s1 : Nat) : zCo l (e + 1) 0 0 iX12_qGoesOn 112 [(0, .ref v0)] [.int s0, .ref s1] (X12_qGoesOn_J112 r0 v0 s0 s1) := by
  unfold X12_qGoesOn_J112
  refine zco_Vv (rc := 0) (rs := 0) (mc := 0) (ms := 0) (As := [.int s0]) (S := []) vmX12_qCode (mtX12_qCode l e (by omega) s1 s0) q_1828 rfl rfl (Nat.le_of_ble_eq_true rfl) (zdk (cc := cX12_qGoesOn) (q := (112, .invokevirtual 633, 3)) tkX12_qGoesOn_q0 57 rfl) ?_
  exact zco_sub [0] rfl (coX12_qGoesOn_J115 l e he v0 r0 hr0)
def X12_qGoesOn_J43 (r0 : Unit → zM) (v0 : Nat) : zM := z_gi 12 2 v0 fun x1 => z_pi 12 2 v0 (x1 + 1) (z_rc 12 v0 (z_cv (X12_qDropsToBracket v0) (z_gi 12 107 v0 fun x2 => z_pi 12 107 v0 (x2 - 1) (z_gi 12 108 v0 fun x3 => z_pi 12 108 v0 (x3 - 1) (z_gr 12 106 v0 fun x4 => z_gi 12 107 v0 fun x5 => z_la 20 x4 x5 fun x6 => z_if (x6 = 20) (X12_qGoesOn_J115 r0 v0)
   (z_gr 12 106 v0 fun x7 => z_gi 12 107 v0 fun x8 => z_la 20 x7 x8 fun x9 => z_if (x9 = 23) (X12_qGoesOn_J112 r0 v0 5 v0)
   (X12_qGoesOn_J112 r0 v0 6 v0)))))))
set_option maxHeartbeats 2000000 in
set_option maxRecDepth 20000 in
theorem coX12_qGoesOn_J43 (l : Launch) (e : Nat) (he : 3 ≤ e) (v0 : Nat) (r0 : Unit → zM) (hr0 : ∀ x : Unit, zCo l (e + 1) 0 0 iX12_qGoesOn 0 [(0, .ref v0)] [] (r0 x)) : zCo l (e + 1) 0 0 iX12_qGoesOn 43 [(0, .ref v0)] [] (X12_qGoesOn_J43 r0 v0) := by
  unfold X12_qGoesOn_J43
  refine zco_p tkX12_qGoesOn_q0 19 2 (pc' := 45) (L' := [(0, .ref v0)]) (S' := [.ref v0, .ref v0]) rfl ?_
  refine zco_gi fl_12_276 rfl (zdk (cc := cX12_qGoesOn) (q := (45, .getfield 276, 3)) tkX12_qGoesOn_q0 21 rfl) (fun x1 => ?_)
  refine zco_p tkX12_qGoesOn_q0 22 2 (pc' := 50) (L' := [(0, .ref v0)]) (S' := [.int (x1 + 1), .ref v0]) rfl ?_
  refine zco_pi fl_12_276 rfl rfl (zdk (cc := cX12_qGoesOn) (q := (50, .putfield 276, 3)) tkX12_qGoesOn_q0 24 rfl) ?_
  refine zco_p tkX12_qGoesOn_q0 25 1 (pc' := 54) (L' := [(0, .ref v0)]) (S' := [.ref v0]) rfl ?_
  refine zco_Vv (rc := 0) (rs := 0) (mc := 0) (ms := 0) (As := []) (S := []) vmX12_qDropsToBracket (mtX12_qDropsToBracket l e (by omega) v0) q_1886 rfl rfl (Nat.le_of_ble_eq_true rfl) (zdk (cc := cX12_qGoesOn) (q := (54, .invokevirtual 663, 3)) tkX12_qGoesOn_q0 26 rfl) ?_
  refine zco_p tkX12_qGoesOn_q0 27 2 (pc' := 59) (L' := [(0, .ref v0)]) (S' := [.ref v0, .ref v0]) rfl ?_
  refine zco_gi fl_12_356 rfl (zdk (cc := cX12_qGoesOn) (q := (59, .getfield 356, 3)) tkX12_qGoesOn_q0 29 rfl) (fun x2 => ?_)
  refine zco_p tkX12_qGoesOn_q0 30 2 (pc' := 64) (L' := [(0, .ref v0)]) (S' := [.int (x2 - 1), .ref v0]) rfl ?_
  refine zco_pi fl_12_356 rfl rfl (zdk (cc := cX12_qGoesOn) (q := (64, .putfield 356, 3)) tkX12_qGoesOn_q0 32 rfl) ?_
  refine zco_p tkX12_qGoesOn_q0 33 2 (pc' := 69) (L' := [(0, .ref v0)]) (S' := [.ref v0, .ref v0]) rfl ?_
  refine zco_gi fl_12_359 rfl (zdk (cc := cX12_qGoesOn) (q := (69, .getfield 359, 3)) tkX12_qGoesOn_q0 35 rfl) (fun x3 => ?_)
  refine zco_p tkX12_qGoesOn_q0 36 2 (pc' := 74) (L' := [(0, .ref v0)]) (S' := [.int (x3 - 1), .ref v0]) rfl ?_
  refine zco_pi fl_12_359 rfl rfl (zdk (cc := cX12_qGoesOn) (q := (74, .putfield 359, 3)) tkX12_qGoesOn_q0 38 rfl) ?_
  refine zco_p tkX12_qGoesOn_q0 39 1 (pc' := 78) (L' := [(0, .ref v0)]) (S' := [.ref v0]) rfl ?_
  refine zco_gr fl_12_258 rfl (zdk (cc := cX12_qGoesOn) (q := (78, .getfield 258, 3)) tkX12_qGoesOn_q0 40 rfl) (fun x4 => ?_)
  refine zco_p tkX12_qGoesOn_q0 41 1 (pc' := 82) (L' := [(0, .ref v0)]) (S' := [.ref v0, .ref x4]) rfl ?_
  refine zco_gi fl_12_356 rfl (zdk (cc := cX12_qGoesOn) (q := (82, .getfield 356, 3)) tkX12_qGoesOn_q0 42 rfl) (fun x5 => ?_)
  refine zco_iaload (zdk (cc := cX12_qGoesOn) (q := (85, .iaload, 1)) tkX12_qGoesOn_q0 43 rfl) (fun x6 => ?_)
  refine zco_p tkX12_qGoesOn_q0 44 1 (pc' := 88) (L' := [(0, .ref v0)]) (S' := [.int 20, .int x6]) rfl ?_
  refine zco_icmp_eq (tgt := 115) (zdk (cc := cX12_qGoesOn) (q := (88, .if_icmp .eq 27, 3)) tkX12_qGoesOn_q0 45 rfl) rfl ?_ ?_
  · exact zco_sub [0] rfl (coX12_qGoesOn_J115 l e he v0 r0 hr0)
  · refine zco_p tkX12_qGoesOn_q0 46 2 (pc' := 93) (L' := [(0, .ref v0)]) (S' := [.ref v0, .ref v0]) rfl ?_
    refine zco_gr fl_12_258 rfl (zdk (cc := cX12_qGoesOn) (q := (93, .getfield 258, 3)) tkX12_qGoesOn_q0 48 rfl) (fun x7 => ?_)
    refine zco_p tkX12_qGoesOn_q0 49 1 (pc' := 97) (L' := [(0, .ref v0)]) (S' := [.ref v0, .ref x7, .ref v0]) rfl ?_
    refine zco_gi fl_12_356 rfl (zdk (cc := cX12_qGoesOn) (q := (97, .getfield 356, 3)) tkX12_qGoesOn_q0 50 rfl) (fun x8 => ?_)
    refine zco_iaload (zdk (cc := cX12_qGoesOn) (q := (100, .iaload, 1)) tkX12_qGoesOn_q0 51 rfl) (fun x9 => ?_)
    refine zco_p tkX12_qGoesOn_q0 52 1 (pc' := 103) (L' := [(0, .ref v0)]) (S' := [.int 23, .int x9, .ref v0]) rfl ?_
    refine zco_icmp_ne (tgt := 110) (zdk (cc := cX12_qGoesOn) (q := (103, .if_icmp .ne 7, 3)) tkX12_qGoesOn_q0 53 rfl) rfl ?_ ?_
    · refine zco_p tkX12_qGoesOn_q0 56 1 (pc' := 112) (L' := [(0, .ref v0)]) (S' := [.int 6, .ref v0]) rfl ?_
      exact zco_sub [0] rfl (coX12_qGoesOn_J112 l e he v0 r0 hr0 6 v0)
    · refine zco_p tkX12_qGoesOn_q0 54 2 (pc' := 112) (L' := [(0, .ref v0)]) (S' := [.int 5, .ref v0]) rfl ?_
      exact zco_sub [0] rfl (coX12_qGoesOn_J112 l e he v0 r0 hr0 5 v0)
def X12_qGoesOn_B0 (v0 : Nat) (r0 : Unit → zM) : zM := z_gi 12 5 v0 fun x1 => z_if (x1 = 0) (z_rc 12 v0 (z_ci (X12_look v0) fun y2 => z_if (y2 = 41) (z_rc 12 v0 (z_ci (X12_qBracket v0) fun y3 => z_if (y3 = 20) (X12_qGoesOn_J43 r0 v0)
   (z_rc 12 v0 (z_ci (X12_qBracket v0) fun y4 => z_if (y4 = 23) (X12_qGoesOn_J43 r0 v0)
   (z_rc 12 v0 (z_ci (X12_qBracket v0) fun y5 => z_if (y5 = 24) (X12_qGoesOn_J43 r0 v0)
   (X12_qGoesOn_J122 v0)))))))
   (X12_qGoesOn_J122 v0)))
   (X12_qGoesOn_J122 v0)
set_option maxHeartbeats 2000000 in
set_option maxRecDepth 20000 in
theorem coX12_qGoesOn_B0 (l : Launch) (e : Nat) (he : 3 ≤ e) (v0 : Nat) (r0 : Unit → zM) (hr0 : ∀ x : Unit, zCo l (e + 1) 0 0 iX12_qGoesOn 0 [(0, .ref v0)] [] (r0 x)) : zCo l (e + 1) 0 0 iX12_qGoesOn 0 [(0, .ref v0)] [] (X12_qGoesOn_B0 v0 r0) := by
  unfold X12_qGoesOn_B0
  refine zco_p tkX12_qGoesOn_q0 0 1 (pc' := 1) (L' := [(0, .ref v0)]) (S' := [.ref v0]) rfl ?_
  refine zco_gi fl_12_270 rfl (zdk (cc := cX12_qGoesOn) (q := (1, .getfield 270, 3)) tkX12_qGoesOn_q0 1 rfl) (fun x1 => ?_)
  refine zco_if_ne (tgt := 122) (zdk (cc := cX12_qGoesOn) (q := (4, .ifCond .ne 118, 3)) tkX12_qGoesOn_q0 2 rfl) rfl ?_ ?_
  · exact zco_sub [0] rfl (coX12_qGoesOn_J122 l e he v0)
  · refine zco_p tkX12_qGoesOn_q0 3 1 (pc' := 8) (L' := [(0, .ref v0)]) (S' := [.ref v0]) rfl ?_
    refine zco_Vi (rc := 0) (rs := 0) (mc := 0) (ms := 0) (As := []) (S := []) vmX12_look (mtX12_look l e (by omega) v0) q_1749 rfl rfl (Nat.le_of_ble_eq_true rfl) (zdk (cc := cX12_qGoesOn) (q := (8, .invokevirtual 282, 3)) tkX12_qGoesOn_q0 4 rfl) (fun y2 => ?_)
    refine zco_p tkX12_qGoesOn_q0 5 1 (pc' := 13) (L' := [(0, .ref v0)]) (S' := [.int 41, .int y2]) rfl ?_
    refine zco_icmp_ne (tgt := 122) (zdk (cc := cX12_qGoesOn) (q := (13, .if_icmp .ne 109, 3)) tkX12_qGoesOn_q0 6 rfl) rfl ?_ ?_
    · exact zco_sub [0] rfl (coX12_qGoesOn_J122 l e he v0)
    · refine zco_p tkX12_qGoesOn_q0 7 1 (pc' := 17) (L' := [(0, .ref v0)]) (S' := [.ref v0]) rfl ?_
      refine zco_Vi (rc := 0) (rs := 0) (mc := 0) (ms := 0) (As := []) (S := []) vmX12_qBracket (mtX12_qBracket l e (by omega) v0) q_1879 rfl rfl (Nat.le_of_ble_eq_true rfl) (zdk (cc := cX12_qGoesOn) (q := (17, .invokevirtual 660, 3)) tkX12_qGoesOn_q0 8 rfl) (fun y3 => ?_)
      refine zco_p tkX12_qGoesOn_q0 9 1 (pc' := 22) (L' := [(0, .ref v0)]) (S' := [.int 20, .int y3]) rfl ?_
      refine zco_icmp_eq (tgt := 43) (zdk (cc := cX12_qGoesOn) (q := (22, .if_icmp .eq 21, 3)) tkX12_qGoesOn_q0 10 rfl) rfl ?_ ?_
      · exact zco_sub [0] rfl (coX12_qGoesOn_J43 l e he v0 r0 hr0)
      · refine zco_p tkX12_qGoesOn_q0 11 1 (pc' := 26) (L' := [(0, .ref v0)]) (S' := [.ref v0]) rfl ?_
        refine zco_Vi (rc := 0) (rs := 0) (mc := 0) (ms := 0) (As := []) (S := []) vmX12_qBracket (mtX12_qBracket l e (by omega) v0) q_1879 rfl rfl (Nat.le_of_ble_eq_true rfl) (zdk (cc := cX12_qGoesOn) (q := (26, .invokevirtual 660, 3)) tkX12_qGoesOn_q0 12 rfl) (fun y4 => ?_)
        refine zco_p tkX12_qGoesOn_q0 13 1 (pc' := 31) (L' := [(0, .ref v0)]) (S' := [.int 23, .int y4]) rfl ?_
        refine zco_icmp_eq (tgt := 43) (zdk (cc := cX12_qGoesOn) (q := (31, .if_icmp .eq 12, 3)) tkX12_qGoesOn_q0 14 rfl) rfl ?_ ?_
        · exact zco_sub [0] rfl (coX12_qGoesOn_J43 l e he v0 r0 hr0)
        · refine zco_p tkX12_qGoesOn_q0 15 1 (pc' := 35) (L' := [(0, .ref v0)]) (S' := [.ref v0]) rfl ?_
          refine zco_Vi (rc := 0) (rs := 0) (mc := 0) (ms := 0) (As := []) (S := []) vmX12_qBracket (mtX12_qBracket l e (by omega) v0) q_1879 rfl rfl (Nat.le_of_ble_eq_true rfl) (zdk (cc := cX12_qGoesOn) (q := (35, .invokevirtual 660, 3)) tkX12_qGoesOn_q0 16 rfl) (fun y5 => ?_)
          refine zco_p tkX12_qGoesOn_q0 17 1 (pc' := 40) (L' := [(0, .ref v0)]) (S' := [.int 24, .int y5]) rfl ?_
          refine zco_icmp_ne (tgt := 122) (zdk (cc := cX12_qGoesOn) (q := (40, .if_icmp .ne 82, 3)) tkX12_qGoesOn_q0 18 rfl) rfl ?_ ?_
          · exact zco_sub [0] rfl (coX12_qGoesOn_J122 l e he v0)
          · exact zco_sub [0] rfl (coX12_qGoesOn_J43 l e he v0 r0 hr0)
def X12_qGoesOn (v0 : Nat) : zM := z_fix (fun r x => X12_qGoesOn_B0 v0 r ) zFU (())
set_option maxHeartbeats 2000000 in
set_option maxRecDepth 20000 in
theorem coX12_qGoesOn (l : Launch) (e : Nat) (he : 3 ≤ e) (v0 : Nat) : zCo l (e + 1) 0 0 iX12_qGoesOn 0 [(0, .ref v0)] [] (X12_qGoesOn v0) := by
  unfold X12_qGoesOn
  exact zco_sub [0] rfl (zco_fix (Lf := fun x : Unit => [(0, .ref v0)]) (Sf := fun _ => []) (fun r hr x => coX12_qGoesOn_B0 l e he v0 r hr ) zFU (()))
theorem mtX12_qGoesOn (l : Launch) (d : Nat) (hd : 4 ≤ d) (v0 : Nat) : zMet l d 0 0 yX12_qGoesOn cX12_qGoesOn 2 (Option.some .boolean) [.ref v0] (X12_qGoesOn v0) := by
  obtain ⟨e, rfl⟩ : ∃ e, d = e + 1 := ⟨d - 1, by omega⟩
  exact zmet_of (own := RX12) (ini := false) (by decide +kernel) rfl (fun _ => by contradiction) (Nat.le_of_ble_eq_true rfl) (coX12_qGoesOn l e (by omega) v0)
