abbrev iX12_qSums : zI := (RX12, cX12_qSums, 3, (Option.none : Option FieldType), false)
def tX12_qSums : List (Nat × Instr × Nat) := [(0, .aload_n 0, 1), (1, .getfield 362, 3), (4, .istore_n 1, 1), (5, .aload_n 0, 1), (6, .aload_n 0, 1), (7, .getfield 356, 3), (10, .putfield 362, 3), (13, .iconst 1, 1), (14, .istore_n 2, 1), (15, .iload_n 2, 1), (16, .ifCond .eq 37, 3), (19, .aload_n 0, 1), (20, .getfield 270, 3), (23, .ifCond .ne 30, 3), (26, .aload_n 0, 1), (27, .invokevirtual 669, 3), (30, .aload_n 0, 1), (31, .getfield 270, 3), (34, .ifCond .ne 14, 3), (37, .aload_n 0, 1), (38, .invokevirtual 672, 3), (41, .ifCond .eq 7, 3), (44, .iconst 1, 1), (45, .goto 4, 3), (48, .iconst 0, 1), (49, .istore_n 2, 1), (50, .goto (-35), 3), (53, .aload_n 0, 1), (54, .getfield 270, 3), (57, .ifCond .ne 21, 3), (60, .aload_n 0, 1), (61, .getfield 356, 3), (64, .aload_n 0, 1), (65, .getfield 362, 3), (68, .if_icmp .le 10, 3), (71, .aload_n 0, 1), (72, .invokevirtual 639, 3), (75, .goto (-22), 3), (78, .aload_n 0, 1), (79, .iload_n 1, 1), (80, .putfield 362, 3), (83, .return_, 1)]
set_option maxRecDepth 100000 in
theorem tkX12_qSums : ∀ q ∈ tX12_qSums, decode cX12_qSums q.1 = .ok q.2 := by decide +kernel
theorem vmX12_qSums : zVM yX12_qSums cX12_qSums 3 (Option.none : Option FieldType) 0 12 := ⟨kX12_qSums, q_1834, q_63, q_160, ⟨_, rfl, rfl⟩, by decide +kernel, by decide⟩
def X12_qSums_J78 (v0 : Nat) (v1 : Int32) : zM := z_pi 12 109 v0 v1 (z_ret none)
set_option maxHeartbeats 2000000 in
set_option maxRecDepth 20000 in
theorem coX12_qSums_J78 (l : Launch) (e : Nat) (he : 6 ≤ e) (v0 : Nat) (v1 : Int32) : zCo l (e + 1) 0 0 iX12_qSums 78 [(0, .ref v0), (1, .int v1)] [] (X12_qSums_J78 v0 v1) := by
  unfold X12_qSums_J78
  refine zco_p tkX12_qSums 38 2 (pc' := 80) (L' := [(0, .ref v0), (1, .int v1)]) (S' := [.int v1, .ref v0]) rfl ?_
  refine zco_pi fl_12_362 rfl rfl (zdk (cc := cX12_qSums) (q := (80, .putfield 362, 3)) tkX12_qSums 40 rfl) ?_
  exact zco_vret rfl rfl rfl (zdk (cc := cX12_qSums) (q := (83, .return_, 1)) tkX12_qSums 41 rfl)
def X12_qSums_B53 (v0 : Nat) (v1 : Int32) (r53 : Unit → zM) : zM := z_gi 12 5 v0 fun x1 => z_if (x1 = 0) (z_gi 12 107 v0 fun x2 => z_gi 12 109 v0 fun x3 => z_if (x2 ≤ x3) (X12_qSums_J78 v0 v1)
   (z_rc 12 v0 (z_cv (X12_qDrops v0) (r53 (())))))
   (X12_qSums_J78 v0 v1)
set_option maxHeartbeats 2000000 in
set_option maxRecDepth 20000 in
theorem coX12_qSums_B53 (l : Launch) (e : Nat) (he : 6 ≤ e) (v0 : Nat) (v1 : Int32) (r53 : Unit → zM) (hr53 : ∀ x : Unit, zCo l (e + 1) 0 0 iX12_qSums 53 [(0, .ref v0), (1, .int v1)] [] (r53 x)) : zCo l (e + 1) 0 0 iX12_qSums 53 [(0, .ref v0), (1, .int v1)] [] (X12_qSums_B53 v0 v1 r53) := by
  unfold X12_qSums_B53
  refine zco_p tkX12_qSums 27 1 (pc' := 54) (L' := [(0, .ref v0), (1, .int v1)]) (S' := [.ref v0]) rfl ?_
  refine zco_gi fl_12_270 rfl (zdk (cc := cX12_qSums) (q := (54, .getfield 270, 3)) tkX12_qSums 28 rfl) (fun x1 => ?_)
  refine zco_if_ne (tgt := 78) (zdk (cc := cX12_qSums) (q := (57, .ifCond .ne 21, 3)) tkX12_qSums 29 rfl) rfl ?_ ?_
  · exact zco_sub [0, 1] rfl (coX12_qSums_J78 l e he v0 v1)
  · refine zco_p tkX12_qSums 30 1 (pc' := 61) (L' := [(0, .ref v0), (1, .int v1)]) (S' := [.ref v0]) rfl ?_
    refine zco_gi fl_12_356 rfl (zdk (cc := cX12_qSums) (q := (61, .getfield 356, 3)) tkX12_qSums 31 rfl) (fun x2 => ?_)
    refine zco_p tkX12_qSums 32 1 (pc' := 65) (L' := [(0, .ref v0), (1, .int v1)]) (S' := [.ref v0, .int x2]) rfl ?_
    refine zco_gi fl_12_362 rfl (zdk (cc := cX12_qSums) (q := (65, .getfield 362, 3)) tkX12_qSums 33 rfl) (fun x3 => ?_)
    refine zco_icmp_le (tgt := 78) (zdk (cc := cX12_qSums) (q := (68, .if_icmp .le 10, 3)) tkX12_qSums 34 rfl) rfl ?_ ?_
    · exact zco_sub [0, 1] rfl (coX12_qSums_J78 l e he v0 v1)
    · refine zco_p tkX12_qSums 35 1 (pc' := 72) (L' := [(0, .ref v0), (1, .int v1)]) (S' := [.ref v0]) rfl ?_
      refine zco_Vv (rc := 0) (rs := 0) (mc := 0) (ms := 0) (As := []) (S := []) vmX12_qDrops (mtX12_qDrops l e (by omega) v0) q_1871 rfl rfl (Nat.le_of_ble_eq_true rfl) (zdk (cc := cX12_qSums) (q := (72, .invokevirtual 639, 3)) tkX12_qSums 36 rfl) ?_
      refine zco_p tkX12_qSums 37 1 (pc' := 53) (L' := [(0, .ref v0), (1, .int v1)]) (S' := []) rfl ?_
      exact zco_sub [0, 1] rfl (hr53 (()))
def X12_qSums_J49 (r15 : Int32 → zM) (v0 : Nat) (v1 : Int32) (s0 : Int32) : zM := r15 s0
set_option maxHeartbeats 2000000 in
set_option maxRecDepth 20000 in
theorem coX12_qSums_J49 (l : Launch) (e : Nat) (he : 6 ≤ e) (v0 : Nat) (v1 : Int32) (r15 : Int32 → zM) (hr15 : ∀ x : Int32, zCo l (e + 1) 0 0 iX12_qSums 15 [(0, .ref v0), (1, .int v1), (2, .int x)] [] (r15 x)) (s0 : Int32) : zCo l (e + 1) 0 0 iX12_qSums 49 [(0, .ref v0), (1, .int v1)] [.int s0] (X12_qSums_J49 r15 v0 v1 s0) := by
  unfold X12_qSums_J49
  refine zco_p tkX12_qSums 25 2 (pc' := 15) (L' := [(2, .int s0), (0, .ref v0), (1, .int v1)]) (S' := []) rfl ?_
  exact zco_sub [1, 2, 0] rfl (hr15 s0)
def X12_qSums_J48 (r15 : Int32 → zM) (v0 : Nat) (v1 : Int32) : zM := X12_qSums_J49 r15 v0 v1 0
set_option maxHeartbeats 2000000 in
set_option maxRecDepth 20000 in
theorem coX12_qSums_J48 (l : Launch) (e : Nat) (he : 6 ≤ e) (v0 : Nat) (v1 : Int32) (r15 : Int32 → zM) (hr15 : ∀ x : Int32, zCo l (e + 1) 0 0 iX12_qSums 15 [(0, .ref v0), (1, .int v1), (2, .int x)] [] (r15 x)) : zCo l (e + 1) 0 0 iX12_qSums 48 [(0, .ref v0), (1, .int v1)] [] (X12_qSums_J48 r15 v0 v1) := by
  unfold X12_qSums_J48
  refine zco_p tkX12_qSums 24 1 (pc' := 49) (L' := [(0, .ref v0), (1, .int v1)]) (S' := [.int 0]) rfl ?_
  exact zco_sub [0, 1] rfl (coX12_qSums_J49 l e he v0 v1 r15 hr15 0)
def X12_qSums_B15 (v0 : Nat) (v1 : Int32) (r15 : Int32 → zM) (v2 : Int32) : zM := z_if (v2 = 0) (z_fix (fun r x => X12_qSums_B53 v0 v1 r ) zFU (()))
   (z_gi 12 5 v0 fun x1 => z_if (x1 = 0) (z_rc 12 v0 (z_cv (X12_qPartTold v0) (z_gi 12 5 v0 fun x2 => z_if (x2 = 0) (z_rc 12 v0 (z_ci (X12_qGoesOn v0) fun y3 => z_if (y3 = 0) (X12_qSums_J48 r15 v0 v1)
   (X12_qSums_J49 r15 v0 v1 1)))
   (X12_qSums_J48 r15 v0 v1))))
   (z_fix (fun r x => X12_qSums_B53 v0 v1 r ) zFU (())))
set_option maxHeartbeats 2000000 in
set_option maxRecDepth 20000 in
theorem coX12_qSums_B15 (l : Launch) (e : Nat) (he : 6 ≤ e) (v0 : Nat) (v1 : Int32) (r15 : Int32 → zM) (hr15 : ∀ x : Int32, zCo l (e + 1) 0 0 iX12_qSums 15 [(0, .ref v0), (1, .int v1), (2, .int x)] [] (r15 x)) (v2 : Int32) : zCo l (e + 1) 0 0 iX12_qSums 15 [(0, .ref v0), (1, .int v1), (2, .int v2)] [] (X12_qSums_B15 v0 v1 r15 v2) := by
  unfold X12_qSums_B15
  refine zco_p tkX12_qSums 9 1 (pc' := 16) (L' := [(0, .ref v0), (1, .int v1), (2, .int v2)]) (S' := [.int v2]) rfl ?_
  refine zco_if_eq (tgt := 53) (zdk (cc := cX12_qSums) (q := (16, .ifCond .eq 37, 3)) tkX12_qSums 10 rfl) rfl ?_ ?_
  · exact zco_sub [0, 1] rfl (zco_fix (Lf := fun x : Unit => [(0, .ref v0), (1, .int v1)]) (Sf := fun _ => []) (fun r hr x => coX12_qSums_B53 l e he v0 v1 r hr ) zFU (()))
  · refine zco_p tkX12_qSums 11 1 (pc' := 20) (L' := [(0, .ref v0), (1, .int v1), (2, .int v2)]) (S' := [.ref v0]) rfl ?_
    refine zco_gi fl_12_270 rfl (zdk (cc := cX12_qSums) (q := (20, .getfield 270, 3)) tkX12_qSums 12 rfl) (fun x1 => ?_)
    refine zco_if_ne (tgt := 53) (zdk (cc := cX12_qSums) (q := (23, .ifCond .ne 30, 3)) tkX12_qSums 13 rfl) rfl ?_ ?_
    · exact zco_sub [0, 1] rfl (zco_fix (Lf := fun x : Unit => [(0, .ref v0), (1, .int v1)]) (Sf := fun _ => []) (fun r hr x => coX12_qSums_B53 l e he v0 v1 r hr ) zFU (()))
    · refine zco_p tkX12_qSums 14 1 (pc' := 27) (L' := [(0, .ref v0), (1, .int v1), (2, .int v2)]) (S' := [.ref v0]) rfl ?_
      refine zco_Vv (rc := 0) (rs := 0) (mc := 0) (ms := 0) (As := []) (S := []) vmX12_qPartTold (mtX12_qPartTold l e (by omega) v0) q_1836 rfl rfl (Nat.le_of_ble_eq_true rfl) (zdk (cc := cX12_qSums) (q := (27, .invokevirtual 669, 3)) tkX12_qSums 15 rfl) ?_
      refine zco_p tkX12_qSums 16 1 (pc' := 31) (L' := [(0, .ref v0), (1, .int v1), (2, .int v2)]) (S' := [.ref v0]) rfl ?_
      refine zco_gi fl_12_270 rfl (zdk (cc := cX12_qSums) (q := (31, .getfield 270, 3)) tkX12_qSums 17 rfl) (fun x2 => ?_)
      refine zco_if_ne (tgt := 48) (zdk (cc := cX12_qSums) (q := (34, .ifCond .ne 14, 3)) tkX12_qSums 18 rfl) rfl ?_ ?_
      · exact zco_sub [0, 1] rfl (coX12_qSums_J48 l e he v0 v1 r15 hr15)
      · refine zco_p tkX12_qSums 19 1 (pc' := 38) (L' := [(0, .ref v0), (1, .int v1), (2, .int v2)]) (S' := [.ref v0]) rfl ?_
        refine zco_Vi (rc := 0) (rs := 0) (mc := 0) (ms := 0) (As := []) (S := []) vmX12_qGoesOn (mtX12_qGoesOn l e (by omega) v0) q_1875 rfl rfl (Nat.le_of_ble_eq_true rfl) (zdk (cc := cX12_qSums) (q := (38, .invokevirtual 672, 3)) tkX12_qSums 20 rfl) (fun y3 => ?_)
        refine zco_if_eq (tgt := 48) (zdk (cc := cX12_qSums) (q := (41, .ifCond .eq 7, 3)) tkX12_qSums 21 rfl) rfl ?_ ?_
        · exact zco_sub [0, 1] rfl (coX12_qSums_J48 l e he v0 v1 r15 hr15)
        · refine zco_p tkX12_qSums 22 2 (pc' := 49) (L' := [(0, .ref v0), (1, .int v1), (2, .int v2)]) (S' := [.int 1]) rfl ?_
          exact zco_sub [0, 1] rfl (coX12_qSums_J49 l e he v0 v1 r15 hr15 1)
def X12_qSums (v0 : Nat) : zM := z_gi 12 109 v0 fun x1 => z_gi 12 107 v0 fun x2 => z_pi 12 109 v0 x2 (z_fix (fun r x => X12_qSums_B15 v0 x1 r x) zFU 1)
set_option maxHeartbeats 2000000 in
set_option maxRecDepth 20000 in
theorem coX12_qSums (l : Launch) (e : Nat) (he : 6 ≤ e) (v0 : Nat) : zCo l (e + 1) 0 0 iX12_qSums 0 [(0, .ref v0)] [] (X12_qSums v0) := by
  unfold X12_qSums
  refine zco_p tkX12_qSums 0 1 (pc' := 1) (L' := [(0, .ref v0)]) (S' := [.ref v0]) rfl ?_
  refine zco_gi fl_12_362 rfl (zdk (cc := cX12_qSums) (q := (1, .getfield 362, 3)) tkX12_qSums 1 rfl) (fun x1 => ?_)
  refine zco_p tkX12_qSums 2 3 (pc' := 7) (L' := [(1, .int x1), (0, .ref v0)]) (S' := [.ref v0, .ref v0]) rfl ?_
  refine zco_gi fl_12_356 rfl (zdk (cc := cX12_qSums) (q := (7, .getfield 356, 3)) tkX12_qSums 5 rfl) (fun x2 => ?_)
  refine zco_pi fl_12_362 rfl rfl (zdk (cc := cX12_qSums) (q := (10, .putfield 362, 3)) tkX12_qSums 6 rfl) ?_
  refine zco_p tkX12_qSums 7 2 (pc' := 15) (L' := [(2, .int 1), (1, .int x1), (0, .ref v0)]) (S' := []) rfl ?_
  exact zco_sub [2, 1, 0] rfl (zco_fix (Lf := fun x : Int32 => [(0, .ref v0), (1, .int x1), (2, .int x)]) (Sf := fun _ => []) (fun r hr x => coX12_qSums_B15 l e he v0 x1 r hr x) zFU 1)
theorem mtX12_qSums (l : Launch) (d : Nat) (hd : 7 ≤ d) (v0 : Nat) : zMet l d 0 0 yX12_qSums cX12_qSums 3 (Option.none : Option FieldType) [.ref v0] (X12_qSums v0) := by
  obtain ⟨e, rfl⟩ : ∃ e, d = e + 1 := ⟨d - 1, by omega⟩
  exact zmet_of (own := RX12) (ini := false) (by decide +kernel) rfl (fun _ => by contradiction) (Nat.le_of_ble_eq_true rfl) (coX12_qSums l e (by omega) v0)
abbrev iX12_qFact : zI := (RX12, cX12_qFact, 2, (Option.none : Option FieldType), false)
def tX12_qFact : List (Nat × Instr × Nat) := [(0, .aload_n 0, 1), (1, .aload_n 0, 1), (2, .getfield 204, 3), (5, .invokevirtual 297, 3), (8, .ifCond .eq 10, 3), (11, .aload_n 0, 1), (12, .bipush 13, 2), (14, .invokevirtual 633, 3), (17, .return_, 1), (18, .aload_n 0, 1), (19, .invokevirtual 368, 3), (22, .aload_n 0, 1), (23, .getfield 270, 3), (26, .ifCond .eq 4, 3), (29, .return_, 1), (30, .aload_n 0, 1), (31, .invokevirtual 282, 3), (34, .istore_n 1, 1), (35, .iload_n 1, 1), (36, .bipush 60, 2), (38, .if_icmp .eq 25, 3), (41, .iload_n 1, 1), (42, .bipush 62, 2), (44, .if_icmp .eq 19, 3), (47, .iload_n 1, 1), (48, .bipush 61, 2), (50, .if_icmp .eq 13, 3), (53, .aload_n 0, 1), (54, .iconst 1, 1), (55, .aload_n 0, 1), (56, .getfield 276, 3), (59, .invokevirtual 300, 3), (62, .return_, 1), (63, .aload_n 0, 1), (64, .dup, 1), (65, .getfield 276, 3), (68, .iconst 1, 1), (69, .iadd, 1), (70, .putfield 276, 3), (73, .aload_n 0, 1), (74, .invokevirtual 368, 3), (77, .aload_n 0, 1), (78, .iload_n 1, 1), (79, .bipush 60, 2), (81, .if_icmp .ne 8, 3), (84, .bipush 7, 2), (86, .goto 16, 3), (89, .iload_n 1, 1), (90, .bipush 62, 2), (92, .if_icmp .ne 8, 3), (95, .bipush 8, 2), (97, .goto 5, 3), (100, .bipush 9, 2), (102, .invokevirtual 633, 3), (105, .return_, 1)]
set_option maxRecDepth 100000 in
theorem tkX12_qFact : ∀ q ∈ tX12_qFact, decode cX12_qFact q.1 = .ok q.2 := by decide +kernel
theorem vmX12_qFact : zVM yX12_qFact cX12_qFact 2 (Option.none : Option FieldType) 0 12 := ⟨kX12_qFact, q_1826, q_61, q_160, ⟨_, rfl, rfl⟩, by decide +kernel, by decide⟩
def X12_qFact_J102 (s0 : Int32) (s1 : Nat) : zM := z_rc 12 s1 (z_cv (X12_qCode s1 s0) (z_ret none))
set_option maxHeartbeats 2000000 in
set_option maxRecDepth 20000 in
theorem coX12_qFact_J102 (l : Launch) (e : Nat) (he : 7 ≤ e) (s0 : Int32) (s1 : Nat) : zCo l (e + 1) 0 0 iX12_qFact 102 [] [.int s0, .ref s1] (X12_qFact_J102 s0 s1) := by
  unfold X12_qFact_J102
  refine zco_Vv (rc := 0) (rs := 0) (mc := 0) (ms := 0) (As := [.int s0]) (S := []) vmX12_qCode (mtX12_qCode l e (by omega) s1 s0) q_1828 rfl rfl (Nat.le_of_ble_eq_true rfl) (zdk (cc := cX12_qFact) (q := (102, .invokevirtual 633, 3)) tkX12_qFact 53 rfl) ?_
  exact zco_vret rfl rfl rfl (zdk (cc := cX12_qFact) (q := (105, .return_, 1)) tkX12_qFact 54 rfl)
def X12_qFact_J63 (v0 : Nat) (v1 : Int32) : zM := z_gi 12 2 v0 fun x1 => z_pi 12 2 v0 (x1 + 1) (z_rc 12 v0 (z_cv (X12_qSums v0) (z_if (v1 = 60) (X12_qFact_J102 7 v0)
   (z_if (v1 = 62) (X12_qFact_J102 8 v0)
   (X12_qFact_J102 9 v0)))))
set_option maxHeartbeats 2000000 in
set_option maxRecDepth 20000 in
theorem coX12_qFact_J63 (l : Launch) (e : Nat) (he : 7 ≤ e) (v0 : Nat) (v1 : Int32) : zCo l (e + 1) 0 0 iX12_qFact 63 [(0, .ref v0), (1, .int v1)] [] (X12_qFact_J63 v0 v1) := by
  unfold X12_qFact_J63
  refine zco_p tkX12_qFact 33 2 (pc' := 65) (L' := [(0, .ref v0), (1, .int v1)]) (S' := [.ref v0, .ref v0]) rfl ?_
  refine zco_gi fl_12_276 rfl (zdk (cc := cX12_qFact) (q := (65, .getfield 276, 3)) tkX12_qFact 35 rfl) (fun x1 => ?_)
  refine zco_p tkX12_qFact 36 2 (pc' := 70) (L' := [(0, .ref v0), (1, .int v1)]) (S' := [.int (x1 + 1), .ref v0]) rfl ?_
  refine zco_pi fl_12_276 rfl rfl (zdk (cc := cX12_qFact) (q := (70, .putfield 276, 3)) tkX12_qFact 38 rfl) ?_
  refine zco_p tkX12_qFact 39 1 (pc' := 74) (L' := [(0, .ref v0), (1, .int v1)]) (S' := [.ref v0]) rfl ?_
  refine zco_Vv (rc := 0) (rs := 0) (mc := 0) (ms := 0) (As := []) (S := []) vmX12_qSums (mtX12_qSums l e (by omega) v0) q_1832 rfl rfl (Nat.le_of_ble_eq_true rfl) (zdk (cc := cX12_qFact) (q := (74, .invokevirtual 368, 3)) tkX12_qFact 40 rfl) ?_
  refine zco_p tkX12_qFact 41 3 (pc' := 81) (L' := [(0, .ref v0), (1, .int v1)]) (S' := [.int 60, .int v1, .ref v0]) rfl ?_
  refine zco_icmp_ne (tgt := 89) (zdk (cc := cX12_qFact) (q := (81, .if_icmp .ne 8, 3)) tkX12_qFact 44 rfl) rfl ?_ ?_
  · refine zco_p tkX12_qFact 47 2 (pc' := 92) (L' := [(0, .ref v0), (1, .int v1)]) (S' := [.int 62, .int v1, .ref v0]) rfl ?_
    refine zco_icmp_ne (tgt := 100) (zdk (cc := cX12_qFact) (q := (92, .if_icmp .ne 8, 3)) tkX12_qFact 49 rfl) rfl ?_ ?_
    · refine zco_p tkX12_qFact 52 1 (pc' := 102) (L' := [(0, .ref v0), (1, .int v1)]) (S' := [.int 9, .ref v0]) rfl ?_
      exact zco_sub [] rfl (coX12_qFact_J102 l e he 9 v0)
    · refine zco_p tkX12_qFact 50 2 (pc' := 102) (L' := [(0, .ref v0), (1, .int v1)]) (S' := [.int 8, .ref v0]) rfl ?_
      exact zco_sub [] rfl (coX12_qFact_J102 l e he 8 v0)
  · refine zco_p tkX12_qFact 45 2 (pc' := 102) (L' := [(0, .ref v0), (1, .int v1)]) (S' := [.int 7, .ref v0]) rfl ?_
    exact zco_sub [] rfl (coX12_qFact_J102 l e he 7 v0)
def X12_qFact (v0 : Nat) : zM := z_gr 12 87 v0 fun x1 => z_rc 12 v0 (z_ci (X12_takes v0 x1) fun y2 => z_if (y2 = 0) (z_rc 12 v0 (z_cv (X12_qSums v0) (z_gi 12 5 v0 fun x3 => z_if (x3 = 0) (z_rc 12 v0 (z_ci (X12_look v0) fun y4 => z_if (y4 = 60) (X12_qFact_J63 v0 y4)
   (z_if (y4 = 62) (X12_qFact_J63 v0 y4)
   (z_if (y4 = 61) (X12_qFact_J63 v0 y4)
   (z_gi 12 2 v0 fun x5 => z_rc 12 v0 (z_cv (X12_fail v0 1 x5) (z_ret none)))))))
   (z_ret none))))
   (z_rc 12 v0 (z_cv (X12_qCode v0 13) (z_ret none))))
set_option maxHeartbeats 2000000 in
set_option maxRecDepth 20000 in
theorem coX12_qFact (l : Launch) (e : Nat) (he : 7 ≤ e) (v0 : Nat) : zCo l (e + 1) 0 0 iX12_qFact 0 [(0, .ref v0)] [] (X12_qFact v0) := by
  unfold X12_qFact
  refine zco_p tkX12_qFact 0 2 (pc' := 2) (L' := [(0, .ref v0)]) (S' := [.ref v0, .ref v0]) rfl ?_
  refine zco_gr fl_12_204 rfl (zdk (cc := cX12_qFact) (q := (2, .getfield 204, 3)) tkX12_qFact 2 rfl) (fun x1 => ?_)
  refine zco_Vi (rc := 0) (rs := 0) (mc := 0) (ms := 0) (As := [.ref x1]) (S := []) vmX12_takes (mtX12_takes l e (by omega) v0 x1) q_1761 rfl rfl (Nat.le_of_ble_eq_true rfl) (zdk (cc := cX12_qFact) (q := (5, .invokevirtual 297, 3)) tkX12_qFact 3 rfl) (fun y2 => ?_)
  refine zco_if_eq (tgt := 18) (zdk (cc := cX12_qFact) (q := (8, .ifCond .eq 10, 3)) tkX12_qFact 4 rfl) rfl ?_ ?_
  · refine zco_p tkX12_qFact 9 1 (pc' := 19) (L' := [(0, .ref v0)]) (S' := [.ref v0]) rfl ?_
    refine zco_Vv (rc := 0) (rs := 0) (mc := 0) (ms := 0) (As := []) (S := []) vmX12_qSums (mtX12_qSums l e (by omega) v0) q_1832 rfl rfl (Nat.le_of_ble_eq_true rfl) (zdk (cc := cX12_qFact) (q := (19, .invokevirtual 368, 3)) tkX12_qFact 10 rfl) ?_
    refine zco_p tkX12_qFact 11 1 (pc' := 23) (L' := [(0, .ref v0)]) (S' := [.ref v0]) rfl ?_
    refine zco_gi fl_12_270 rfl (zdk (cc := cX12_qFact) (q := (23, .getfield 270, 3)) tkX12_qFact 12 rfl) (fun x3 => ?_)
    refine zco_if_eq (tgt := 30) (zdk (cc := cX12_qFact) (q := (26, .ifCond .eq 4, 3)) tkX12_qFact 13 rfl) rfl ?_ ?_
    · refine zco_p tkX12_qFact 15 1 (pc' := 31) (L' := [(0, .ref v0)]) (S' := [.ref v0]) rfl ?_
      refine zco_Vi (rc := 0) (rs := 0) (mc := 0) (ms := 0) (As := []) (S := []) vmX12_look (mtX12_look l e (by omega) v0) q_1749 rfl rfl (Nat.le_of_ble_eq_true rfl) (zdk (cc := cX12_qFact) (q := (31, .invokevirtual 282, 3)) tkX12_qFact 16 rfl) (fun y4 => ?_)
      refine zco_p tkX12_qFact 17 3 (pc' := 38) (L' := [(1, .int y4), (0, .ref v0)]) (S' := [.int 60, .int y4]) rfl ?_
      refine zco_icmp_eq (tgt := 63) (zdk (cc := cX12_qFact) (q := (38, .if_icmp .eq 25, 3)) tkX12_qFact 20 rfl) rfl ?_ ?_
      · exact zco_sub [1, 0] rfl (coX12_qFact_J63 l e he v0 y4)
      · refine zco_p tkX12_qFact 21 2 (pc' := 44) (L' := [(1, .int y4), (0, .ref v0)]) (S' := [.int 62, .int y4]) rfl ?_
        refine zco_icmp_eq (tgt := 63) (zdk (cc := cX12_qFact) (q := (44, .if_icmp .eq 19, 3)) tkX12_qFact 23 rfl) rfl ?_ ?_
        · exact zco_sub [1, 0] rfl (coX12_qFact_J63 l e he v0 y4)
        · refine zco_p tkX12_qFact 24 2 (pc' := 50) (L' := [(1, .int y4), (0, .ref v0)]) (S' := [.int 61, .int y4]) rfl ?_
          refine zco_icmp_eq (tgt := 63) (zdk (cc := cX12_qFact) (q := (50, .if_icmp .eq 13, 3)) tkX12_qFact 26 rfl) rfl ?_ ?_
          · exact zco_sub [1, 0] rfl (coX12_qFact_J63 l e he v0 y4)
          · refine zco_p tkX12_qFact 27 3 (pc' := 56) (L' := [(1, .int y4), (0, .ref v0)]) (S' := [.ref v0, .int 1, .ref v0]) rfl ?_
            refine zco_gi fl_12_276 rfl (zdk (cc := cX12_qFact) (q := (56, .getfield 276, 3)) tkX12_qFact 30 rfl) (fun x5 => ?_)
            refine zco_Vv (rc := 0) (rs := 0) (mc := 0) (ms := 0) (As := [.int 1, .int x5]) (S := []) vmX12_fail (mtX12_fail l e (by omega) v0 1 x5) q_1757 rfl rfl (Nat.le_of_ble_eq_true rfl) (zdk (cc := cX12_qFact) (q := (59, .invokevirtual 300, 3)) tkX12_qFact 31 rfl) ?_
            exact zco_vret rfl rfl rfl (zdk (cc := cX12_qFact) (q := (62, .return_, 1)) tkX12_qFact 32 rfl)
    · exact zco_vret rfl rfl rfl (zdk (cc := cX12_qFact) (q := (29, .return_, 1)) tkX12_qFact 14 rfl)
  · refine zco_p tkX12_qFact 5 2 (pc' := 14) (L' := [(0, .ref v0)]) (S' := [.int 13, .ref v0]) rfl ?_
    refine zco_Vv (rc := 0) (rs := 0) (mc := 0) (ms := 0) (As := [.int 13]) (S := []) vmX12_qCode (mtX12_qCode l e (by omega) v0 13) q_1828 rfl rfl (Nat.le_of_ble_eq_true rfl) (zdk (cc := cX12_qFact) (q := (14, .invokevirtual 633, 3)) tkX12_qFact 7 rfl) ?_
    exact zco_vret rfl rfl rfl (zdk (cc := cX12_qFact) (q := (17, .return_, 1)) tkX12_qFact 8 rfl)
theorem mtX12_qFact (l : Launch) (d : Nat) (hd : 8 ≤ d) (v0 : Nat) : zMet l d 0 0 yX12_qFact cX12_qFact 2 (Option.none : Option FieldType) [.ref v0] (X12_qFact v0) := by
  obtain ⟨e, rfl⟩ : ∃ e, d = e + 1 := ⟨d - 1, by omega⟩
  exact zmet_of (own := RX12) (ini := false) (by decide +kernel) rfl (fun _ => by contradiction) (Nat.le_of_ble_eq_true rfl) (coX12_qFact l e (by omega) v0)
abbrev iX12_qDropsNots : zI := (RX12, cX12_qDropsNots, 1, (Option.none : Option FieldType), false)
def tX12_qDropsNots : List (Nat × Instr × Nat) := [(0, .aload_n 0, 1), (1, .getfield 270, 3), (4, .ifCond .ne 29, 3), (7, .aload_n 0, 1), (8, .bipush 12, 2), (10, .invokevirtual 666, 3), (13, .ifCond .eq 20, 3), (16, .aload_n 0, 1), (17, .dup, 1), (18, .getfield 359, 3), (21, .iconst 1, 1), (22, .isub, 1), (23, .putfield 359, 3), (26, .aload_n 0, 1), (27, .invokevirtual 639, 3), (30, .goto (-30), 3), (33, .return_, 1)]
set_option maxRecDepth 100000 in
theorem tkX12_qDropsNots : ∀ q ∈ tX12_qDropsNots, decode cX12_qDropsNots q.1 = .ok q.2 := by decide +kernel
theorem vmX12_qDropsNots : zVM yX12_qDropsNots cX12_qDropsNots 1 (Option.none : Option FieldType) 0 12 := ⟨kX12_qDropsNots, q_1896, q_77, q_160, ⟨_, rfl, rfl⟩, by decide +kernel, by decide⟩
def X12_qDropsNots_B0 (v0 : Nat) (r0 : Unit → zM) : zM := z_gi 12 5 v0 fun x1 => z_if (x1 = 0) (z_rc 12 v0 (z_ci (X12_qIsOn v0 12) fun y2 => z_if (y2 = 0) (z_ret none)
   (z_gi 12 108 v0 fun x3 => z_pi 12 108 v0 (x3 - 1) (z_rc 12 v0 (z_cv (X12_qDrops v0) (r0 (())))))))
   (z_ret none)
set_option maxHeartbeats 2000000 in
set_option maxRecDepth 20000 in
theorem coX12_qDropsNots_B0 (l : Launch) (e : Nat) (he : 2 ≤ e) (v0 : Nat) (r0 : Unit → zM) (hr0 : ∀ x : Unit, zCo l (e + 1) 0 0 iX12_qDropsNots 0 [(0, .ref v0)] [] (r0 x)) : zCo l (e + 1) 0 0 iX12_qDropsNots 0 [(0, .ref v0)] [] (X12_qDropsNots_B0 v0 r0) := by
  unfold X12_qDropsNots_B0
  refine zco_p tkX12_qDropsNots 0 1 (pc' := 1) (L' := [(0, .ref v0)]) (S' := [.ref v0]) rfl ?_
  refine zco_gi fl_12_270 rfl (zdk (cc := cX12_qDropsNots) (q := (1, .getfield 270, 3)) tkX12_qDropsNots 1 rfl) (fun x1 => ?_)
  refine zco_if_ne (tgt := 33) (zdk (cc := cX12_qDropsNots) (q := (4, .ifCond .ne 29, 3)) tkX12_qDropsNots 2 rfl) rfl ?_ ?_
  · exact zco_vret rfl rfl rfl (zdk (cc := cX12_qDropsNots) (q := (33, .return_, 1)) tkX12_qDropsNots 16 rfl)
  · refine zco_p tkX12_qDropsNots 3 2 (pc' := 10) (L' := [(0, .ref v0)]) (S' := [.int 12, .ref v0]) rfl ?_
    refine zco_Vi (rc := 0) (rs := 0) (mc := 0) (ms := 0) (As := [.int 12]) (S := []) vmX12_qIsOn (mtX12_qIsOn l e (by omega) v0 12) q_1890 rfl rfl (Nat.le_of_ble_eq_true rfl) (zdk (cc := cX12_qDropsNots) (q := (10, .invokevirtual 666, 3)) tkX12_qDropsNots 5 rfl) (fun y2 => ?_)
    refine zco_if_eq (tgt := 33) (zdk (cc := cX12_qDropsNots) (q := (13, .ifCond .eq 20, 3)) tkX12_qDropsNots 6 rfl) rfl ?_ ?_
    · exact zco_vret rfl rfl rfl (zdk (cc := cX12_qDropsNots) (q := (33, .return_, 1)) tkX12_qDropsNots 16 rfl)
    · refine zco_p tkX12_qDropsNots 7 2 (pc' := 18) (L' := [(0, .ref v0)]) (S' := [.ref v0, .ref v0]) rfl ?_
      refine zco_gi fl_12_359 rfl (zdk (cc := cX12_qDropsNots) (q := (18, .getfield 359, 3)) tkX12_qDropsNots 9 rfl) (fun x3 => ?_)
      refine zco_p tkX12_qDropsNots 10 2 (pc' := 23) (L' := [(0, .ref v0)]) (S' := [.int (x3 - 1), .ref v0]) rfl ?_
      refine zco_pi fl_12_359 rfl rfl (zdk (cc := cX12_qDropsNots) (q := (23, .putfield 359, 3)) tkX12_qDropsNots 12 rfl) ?_
      refine zco_p tkX12_qDropsNots 13 1 (pc' := 27) (L' := [(0, .ref v0)]) (S' := [.ref v0]) rfl ?_
      refine zco_Vv (rc := 0) (rs := 0) (mc := 0) (ms := 0) (As := []) (S := []) vmX12_qDrops (mtX12_qDrops l e (by omega) v0) q_1871 rfl rfl (Nat.le_of_ble_eq_true rfl) (zdk (cc := cX12_qDropsNots) (q := (27, .invokevirtual 639, 3)) tkX12_qDropsNots 14 rfl) ?_
      refine zco_p tkX12_qDropsNots 15 1 (pc' := 0) (L' := [(0, .ref v0)]) (S' := []) rfl ?_
      exact zco_sub [0] rfl (hr0 (()))
def X12_qDropsNots (v0 : Nat) : zM := z_fix (fun r x => X12_qDropsNots_B0 v0 r ) zFU (())
set_option maxHeartbeats 2000000 in
set_option maxRecDepth 20000 in
theorem coX12_qDropsNots (l : Launch) (e : Nat) (he : 2 ≤ e) (v0 : Nat) : zCo l (e + 1) 0 0 iX12_qDropsNots 0 [(0, .ref v0)] [] (X12_qDropsNots v0) := by
  unfold X12_qDropsNots
  exact zco_sub [0] rfl (zco_fix (Lf := fun x : Unit => [(0, .ref v0)]) (Sf := fun _ => []) (fun r hr x => coX12_qDropsNots_B0 l e he v0 r hr ) zFU (()))
theorem mtX12_qDropsNots (l : Launch) (d : Nat) (hd : 3 ≤ d) (v0 : Nat) : zMet l d 0 0 yX12_qDropsNots cX12_qDropsNots 1 (Option.none : Option FieldType) [.ref v0] (X12_qDropsNots v0) := by
  obtain ⟨e, rfl⟩ : ∃ e, d = e + 1 := ⟨d - 1, by omega⟩
  exact zmet_of (own := RX12) (ini := false) (by decide +kernel) rfl (fun _ => by contradiction) (Nat.le_of_ble_eq_true rfl) (coX12_qDropsNots l e (by omega) v0)
abbrev iX12_qHasSquare : zI := (RX12, cX12_qHasSquare, 2, (Option.some .boolean), false)
def tX12_qHasSquare : List (Nat × Instr × Nat) := [(0, .iconst 0, 1), (1, .istore_n 1, 1), (2, .iload_n 1, 1), (3, .aload_n 0, 1), (4, .getfield 356, 3), (7, .if_icmp .ge 22, 3), (10, .aload_n 0, 1), (11, .getfield 258, 3), (14, .iload_n 1, 1), (15, .iaload, 1), (16, .bipush 25, 2), (18, .if_icmp .ne 5, 3), (21, .iconst 1, 1), (22, .ireturn, 1), (23, .iinc 1 1, 3), (26, .goto (-24), 3), (29, .iconst 0, 1), (30, .ireturn, 1)]
set_option maxRecDepth 100000 in
theorem tkX12_qHasSquare : ∀ q ∈ tX12_qHasSquare, decode cX12_qHasSquare q.1 = .ok q.2 := by decide +kernel
theorem vmX12_qHasSquare : zVM yX12_qHasSquare cX12_qHasSquare 2 (Option.some .boolean) 0 12 := ⟨kX12_qHasSquare, q_1904, q_79, q_160, ⟨_, rfl, rfl⟩, by decide +kernel, by decide⟩
def X12_qHasSquare_B2 (v0 : Nat) (r2 : Int32 → zM) (v1 : Int32) : zM := z_gi 12 107 v0 fun x1 => z_if (x1 ≤ v1) (z_rb 0)
   (z_gr 12 106 v0 fun x2 => z_la 20 x2 v1 fun x3 => z_if (x3 = 25) (z_rb 1)
   (r2 (v1 + 1)))
set_option maxHeartbeats 2000000 in
set_option maxRecDepth 20000 in
theorem coX12_qHasSquare_B2 (l : Launch) (e : Nat) (he : 0 ≤ e) (v0 : Nat) (r2 : Int32 → zM) (hr2 : ∀ x : Int32, zCo l (e + 1) 0 0 iX12_qHasSquare 2 [(0, .ref v0), (1, .int x)] [] (r2 x)) (v1 : Int32) : zCo l (e + 1) 0 0 iX12_qHasSquare 2 [(0, .ref v0), (1, .int v1)] [] (X12_qHasSquare_B2 v0 r2 v1) := by
  unfold X12_qHasSquare_B2
  refine zco_p tkX12_qHasSquare 2 2 (pc' := 4) (L' := [(0, .ref v0), (1, .int v1)]) (S' := [.ref v0, .int v1]) rfl ?_
  refine zco_gi fl_12_356 rfl (zdk (cc := cX12_qHasSquare) (q := (4, .getfield 356, 3)) tkX12_qHasSquare 4 rfl) (fun x1 => ?_)
  refine zco_icmp_ge (tgt := 29) (zdk (cc := cX12_qHasSquare) (q := (7, .if_icmp .ge 22, 3)) tkX12_qHasSquare 5 rfl) rfl ?_ ?_
  · refine zco_p tkX12_qHasSquare 16 1 (pc' := 30) (L' := [(0, .ref v0), (1, .int v1)]) (S' := [.int 0]) rfl ?_
    exact zco_zret rfl rfl rfl (zdk (cc := cX12_qHasSquare) (q := (30, .ireturn, 1)) tkX12_qHasSquare 17 rfl)
  · refine zco_p tkX12_qHasSquare 6 1 (pc' := 11) (L' := [(0, .ref v0), (1, .int v1)]) (S' := [.ref v0]) rfl ?_
    refine zco_gr fl_12_258 rfl (zdk (cc := cX12_qHasSquare) (q := (11, .getfield 258, 3)) tkX12_qHasSquare 7 rfl) (fun x2 => ?_)
    refine zco_p tkX12_qHasSquare 8 1 (pc' := 15) (L' := [(0, .ref v0), (1, .int v1)]) (S' := [.int v1, .ref x2]) rfl ?_
    refine zco_iaload (zdk (cc := cX12_qHasSquare) (q := (15, .iaload, 1)) tkX12_qHasSquare 9 rfl) (fun x3 => ?_)
    refine zco_p tkX12_qHasSquare 10 1 (pc' := 18) (L' := [(0, .ref v0), (1, .int v1)]) (S' := [.int 25, .int x3]) rfl ?_
    refine zco_icmp_ne (tgt := 23) (zdk (cc := cX12_qHasSquare) (q := (18, .if_icmp .ne 5, 3)) tkX12_qHasSquare 11 rfl) rfl ?_ ?_
    · refine zco_p tkX12_qHasSquare 14 2 (pc' := 2) (L' := [(1, .int (v1 + 1)), (0, .ref v0)]) (S' := []) rfl ?_
      exact zco_sub [1, 0] rfl (hr2 (v1 + 1))
    · refine zco_p tkX12_qHasSquare 12 1 (pc' := 22) (L' := [(0, .ref v0), (1, .int v1)]) (S' := [.int 1]) rfl ?_
      exact zco_zret rfl rfl rfl (zdk (cc := cX12_qHasSquare) (q := (22, .ireturn, 1)) tkX12_qHasSquare 13 rfl)
def X12_qHasSquare (v0 : Nat) : zM := z_fix (fun r x => X12_qHasSquare_B2 v0 r x) zFU 0
set_option maxHeartbeats 2000000 in
set_option maxRecDepth 20000 in
theorem coX12_qHasSquare (l : Launch) (e : Nat) (he : 0 ≤ e) (v0 : Nat) : zCo l (e + 1) 0 0 iX12_qHasSquare 0 [(0, .ref v0)] [] (X12_qHasSquare v0) := by
  unfold X12_qHasSquare
  refine zco_p tkX12_qHasSquare 0 2 (pc' := 2) (L' := [(1, .int 0), (0, .ref v0)]) (S' := []) rfl ?_
  exact zco_sub [1, 0] rfl (zco_fix (Lf := fun x : Int32 => [(0, .ref v0), (1, .int x)]) (Sf := fun _ => []) (fun r hr x => coX12_qHasSquare_B2 l e he v0 r hr x) zFU 0)
theorem mtX12_qHasSquare (l : Launch) (d : Nat) (hd : 1 ≤ d) (v0 : Nat) : zMet l d 0 0 yX12_qHasSquare cX12_qHasSquare 2 (Option.some .boolean) [.ref v0] (X12_qHasSquare v0) := by
  obtain ⟨e, rfl⟩ : ∃ e, d = e + 1 := ⟨d - 1, by omega⟩
  exact zmet_of (own := RX12) (ini := false) (by decide +kernel) rfl (fun _ => by contradiction) (Nat.le_of_ble_eq_true rfl) (coX12_qHasSquare l e (by omega) v0)
abbrev iX12_qGoesOnTest : zI := (RX12, cX12_qGoesOnTest, 1, (Option.some .boolean), false)
def tX12_qGoesOnTest : List (Nat × Instr × Nat) := [(0, .aload_n 0, 1), (1, .getfield 270, 3), (4, .ifCond .ne 72, 3), (7, .aload_n 0, 1), (8, .invokevirtual 282, 3), (11, .bipush 93, 2), (13, .if_icmp .ne 63, 3), (16, .aload_n 0, 1), (17, .invokevirtual 684, 3), (20, .ifCond .eq 56, 3), (23, .aload_n 0, 1), (24, .dup, 1), (25, .getfield 276, 3), (28, .iconst 1, 1), (29, .iadd, 1), (30, .putfield 276, 3), (33, .aload_n 0, 1), (34, .bipush 25, 2), (36, .invokevirtual 666, 3), (39, .ifCond .ne 10, 3), (42, .aload_n 0, 1), (43, .invokevirtual 639, 3), (46, .goto (-13), 3), (49, .aload_n 0, 1), (50, .dup, 1), (51, .getfield 356, 3), (54, .iconst 1, 1), (55, .isub, 1), (56, .putfield 356, 3), (59, .aload_n 0, 1), (60, .dup, 1), (61, .getfield 359, 3), (64, .iconst 1, 1), (65, .isub, 1), (66, .putfield 359, 3), (69, .aload_n 0, 1), (70, .invokevirtual 678, 3), (73, .goto (-73), 3), (76, .aload_n 0, 1), (77, .aload_n 0, 1), (78, .getfield 198, 3), (81, .invokevirtual 297, 3), (84, .ifCond .eq 42, 3), (87, .aload_n 0, 1), (88, .bipush 10, 2), (90, .invokevirtual 666, 3), (93, .ifCond .eq 10, 3), (96, .aload_n 0, 1), (97, .invokevirtual 639, 3), (100, .goto (-13), 3), (103, .aload_n 0, 1), (104, .getfield 258, 3), (107, .aload_n 0, 1), (108, .getfield 356, 3), (111, .bipush 10, 2), (113, .iastore, 1), (114, .aload_n 0, 1), (115, .dup, 1), (116, .getfield 356, 3), (119, .iconst 1, 1), (120, .iadd, 1), (121, .putfield 356, 3), (124, .iconst 1, 1), (125, .ireturn, 1), (126, .aload_n 0, 1), (127, .aload_n 0, 1), (128, .getfield 201, 3), (131, .invokevirtual 297, 3), (134, .ifCond .eq 51, 3), (137, .aload_n 0, 1), (138, .bipush 10, 2), (140, .invokevirtual 666, 3), (143, .ifCond .ne 12, 3), (146, .aload_n 0, 1), (147, .bipush 11, 2), (149, .invokevirtual 666, 3), (152, .ifCond .eq 10, 3), (155, .aload_n 0, 1), (156, .invokevirtual 639, 3), (159, .goto (-22), 3), (162, .aload_n 0, 1), (163, .getfield 258, 3), (166, .aload_n 0, 1), (167, .getfield 356, 3), (170, .bipush 11, 2), (172, .iastore, 1), (173, .aload_n 0, 1), (174, .dup, 1), (175, .getfield 356, 3), (178, .iconst 1, 1), (179, .iadd, 1), (180, .putfield 356, 3), (183, .iconst 1, 1), (184, .ireturn, 1), (185, .aload_n 0, 1), (186, .getfield 270, 3), (189, .ifCond .ne 19, 3), (192, .aload_n 0, 1), (193, .invokevirtual 684, 3), (196, .ifCond .eq 12, 3), (199, .aload_n 0, 1), (200, .iconst 1, 1), (201, .aload_n 0, 1), (202, .getfield 276, 3), (205, .invokevirtual 300, 3), (208, .iconst 0, 1), (209, .ireturn, 1)]
set_option maxRecDepth 100000 in
theorem tkX12_qGoesOnTest : ∀ q ∈ tX12_qGoesOnTest, decode cX12_qGoesOnTest q.1 = .ok q.2 := by decide +kernel
theorem vmX12_qGoesOnTest : zVM yX12_qGoesOnTest cX12_qGoesOnTest 1 (Option.some .boolean) 0 12 := ⟨kX12_qGoesOnTest, q_1900, q_78, q_160, ⟨_, rfl, rfl⟩, by decide +kernel, by decide⟩
def X12_qGoesOnTest_J162 (v0 : Nat) : zM := z_gr 12 106 v0 fun x1 => z_gi 12 107 v0 fun x2 => z_sa 20 x1 x2 11 (z_gi 12 107 v0 fun x3 => z_pi 12 107 v0 (x3 + 1) (z_rb 1))
set_option maxHeartbeats 2000000 in
set_option maxRecDepth 20000 in
theorem coX12_qGoesOnTest_J162 (l : Launch) (e : Nat) (he : 3 ≤ e) (v0 : Nat) : zCo l (e + 1) 0 0 iX12_qGoesOnTest 162 [(0, .ref v0)] [] (X12_qGoesOnTest_J162 v0) := by
  unfold X12_qGoesOnTest_J162
  refine zco_p tkX12_qGoesOnTest 80 1 (pc' := 163) (L' := [(0, .ref v0)]) (S' := [.ref v0]) rfl ?_
  refine zco_gr fl_12_258 rfl (zdk (cc := cX12_qGoesOnTest) (q := (163, .getfield 258, 3)) tkX12_qGoesOnTest 81 rfl) (fun x1 => ?_)
  refine zco_p tkX12_qGoesOnTest 82 1 (pc' := 167) (L' := [(0, .ref v0)]) (S' := [.ref v0, .ref x1]) rfl ?_
  refine zco_gi fl_12_356 rfl (zdk (cc := cX12_qGoesOnTest) (q := (167, .getfield 356, 3)) tkX12_qGoesOnTest 83 rfl) (fun x2 => ?_)
  refine zco_p tkX12_qGoesOnTest 84 1 (pc' := 172) (L' := [(0, .ref v0)]) (S' := [.int 11, .int x2, .ref x1]) rfl ?_
  refine zco_iastore (zdk (cc := cX12_qGoesOnTest) (q := (172, .iastore, 1)) tkX12_qGoesOnTest 85 rfl) ?_
  refine zco_p tkX12_qGoesOnTest 86 2 (pc' := 175) (L' := [(0, .ref v0)]) (S' := [.ref v0, .ref v0]) rfl ?_
  refine zco_gi fl_12_356 rfl (zdk (cc := cX12_qGoesOnTest) (q := (175, .getfield 356, 3)) tkX12_qGoesOnTest 88 rfl) (fun x3 => ?_)
  refine zco_p tkX12_qGoesOnTest 89 2 (pc' := 180) (L' := [(0, .ref v0)]) (S' := [.int (x3 + 1), .ref v0]) rfl ?_
  refine zco_pi fl_12_356 rfl rfl (zdk (cc := cX12_qGoesOnTest) (q := (180, .putfield 356, 3)) tkX12_qGoesOnTest 91 rfl) ?_
  refine zco_p tkX12_qGoesOnTest 92 1 (pc' := 184) (L' := [(0, .ref v0)]) (S' := [.int 1]) rfl ?_
  exact zco_zret rfl rfl rfl (zdk (cc := cX12_qGoesOnTest) (q := (184, .ireturn, 1)) tkX12_qGoesOnTest 93 rfl)
def X12_qGoesOnTest_J155 (r137 : Unit → zM) (v0 : Nat) : zM := z_rc 12 v0 (z_cv (X12_qDrops v0) (r137 (())))
set_option maxHeartbeats 2000000 in
set_option maxRecDepth 20000 in
theorem coX12_qGoesOnTest_J155 (l : Launch) (e : Nat) (he : 3 ≤ e) (v0 : Nat) (r137 : Unit → zM) (hr137 : ∀ x : Unit, zCo l (e + 1) 0 0 iX12_qGoesOnTest 137 [(0, .ref v0)] [] (r137 x)) : zCo l (e + 1) 0 0 iX12_qGoesOnTest 155 [(0, .ref v0)] [] (X12_qGoesOnTest_J155 r137 v0) := by
  unfold X12_qGoesOnTest_J155
  refine zco_p tkX12_qGoesOnTest 77 1 (pc' := 156) (L' := [(0, .ref v0)]) (S' := [.ref v0]) rfl ?_
  refine zco_Vv (rc := 0) (rs := 0) (mc := 0) (ms := 0) (As := []) (S := []) vmX12_qDrops (mtX12_qDrops l e (by omega) v0) q_1871 rfl rfl (Nat.le_of_ble_eq_true rfl) (zdk (cc := cX12_qGoesOnTest) (q := (156, .invokevirtual 639, 3)) tkX12_qGoesOnTest 78 rfl) ?_
  refine zco_p tkX12_qGoesOnTest 79 1 (pc' := 137) (L' := [(0, .ref v0)]) (S' := []) rfl ?_
  exact zco_sub [0] rfl (hr137 (()))
def X12_qGoesOnTest_B137 (v0 : Nat) (r137 : Unit → zM) : zM := z_rc 12 v0 (z_ci (X12_qIsOn v0 10) fun y1 => z_if (y1 = 0) (z_rc 12 v0 (z_ci (X12_qIsOn v0 11) fun y2 => z_if (y2 = 0) (X12_qGoesOnTest_J162 v0)
   (X12_qGoesOnTest_J155 r137 v0)))
   (X12_qGoesOnTest_J155 r137 v0))
set_option maxHeartbeats 2000000 in
set_option maxRecDepth 20000 in
theorem coX12_qGoesOnTest_B137 (l : Launch) (e : Nat) (he : 3 ≤ e) (v0 : Nat) (r137 : Unit → zM) (hr137 : ∀ x : Unit, zCo l (e + 1) 0 0 iX12_qGoesOnTest 137 [(0, .ref v0)] [] (r137 x)) : zCo l (e + 1) 0 0 iX12_qGoesOnTest 137 [(0, .ref v0)] [] (X12_qGoesOnTest_B137 v0 r137) := by
  unfold X12_qGoesOnTest_B137
  refine zco_p tkX12_qGoesOnTest 69 2 (pc' := 140) (L' := [(0, .ref v0)]) (S' := [.int 10, .ref v0]) rfl ?_
  refine zco_Vi (rc := 0) (rs := 0) (mc := 0) (ms := 0) (As := [.int 10]) (S := []) vmX12_qIsOn (mtX12_qIsOn l e (by omega) v0 10) q_1890 rfl rfl (Nat.le_of_ble_eq_true rfl) (zdk (cc := cX12_qGoesOnTest) (q := (140, .invokevirtual 666, 3)) tkX12_qGoesOnTest 71 rfl) (fun y1 => ?_)
  refine zco_if_ne (tgt := 155) (zdk (cc := cX12_qGoesOnTest) (q := (143, .ifCond .ne 12, 3)) tkX12_qGoesOnTest 72 rfl) rfl ?_ ?_
  · exact zco_sub [0] rfl (coX12_qGoesOnTest_J155 l e he v0 r137 hr137)
  · refine zco_p tkX12_qGoesOnTest 73 2 (pc' := 149) (L' := [(0, .ref v0)]) (S' := [.int 11, .ref v0]) rfl ?_
    refine zco_Vi (rc := 0) (rs := 0) (mc := 0) (ms := 0) (As := [.int 11]) (S := []) vmX12_qIsOn (mtX12_qIsOn l e (by omega) v0 11) q_1890 rfl rfl (Nat.le_of_ble_eq_true rfl) (zdk (cc := cX12_qGoesOnTest) (q := (149, .invokevirtual 666, 3)) tkX12_qGoesOnTest 75 rfl) (fun y2 => ?_)
    refine zco_if_eq (tgt := 162) (zdk (cc := cX12_qGoesOnTest) (q := (152, .ifCond .eq 10, 3)) tkX12_qGoesOnTest 76 rfl) rfl ?_ ?_
    · exact zco_sub [0] rfl (coX12_qGoesOnTest_J162 l e he v0)
    · exact zco_sub [0] rfl (coX12_qGoesOnTest_J155 l e he v0 r137 hr137)
def X12_qGoesOnTest_J103 (v0 : Nat) : zM := z_gr 12 106 v0 fun x1 => z_gi 12 107 v0 fun x2 => z_sa 20 x1 x2 10 (z_gi 12 107 v0 fun x3 => z_pi 12 107 v0 (x3 + 1) (z_rb 1))
set_option maxHeartbeats 2000000 in
set_option maxRecDepth 20000 in
theorem coX12_qGoesOnTest_J103 (l : Launch) (e : Nat) (he : 3 ≤ e) (v0 : Nat) : zCo l (e + 1) 0 0 iX12_qGoesOnTest 103 [(0, .ref v0)] [] (X12_qGoesOnTest_J103 v0) := by
  unfold X12_qGoesOnTest_J103
  refine zco_p tkX12_qGoesOnTest 50 1 (pc' := 104) (L' := [(0, .ref v0)]) (S' := [.ref v0]) rfl ?_
  refine zco_gr fl_12_258 rfl (zdk (cc := cX12_qGoesOnTest) (q := (104, .getfield 258, 3)) tkX12_qGoesOnTest 51 rfl) (fun x1 => ?_)
  refine zco_p tkX12_qGoesOnTest 52 1 (pc' := 108) (L' := [(0, .ref v0)]) (S' := [.ref v0, .ref x1]) rfl ?_
  refine zco_gi fl_12_356 rfl (zdk (cc := cX12_qGoesOnTest) (q := (108, .getfield 356, 3)) tkX12_qGoesOnTest 53 rfl) (fun x2 => ?_)
  refine zco_p tkX12_qGoesOnTest 54 1 (pc' := 113) (L' := [(0, .ref v0)]) (S' := [.int 10, .int x2, .ref x1]) rfl ?_
  refine zco_iastore (zdk (cc := cX12_qGoesOnTest) (q := (113, .iastore, 1)) tkX12_qGoesOnTest 55 rfl) ?_
  refine zco_p tkX12_qGoesOnTest 56 2 (pc' := 116) (L' := [(0, .ref v0)]) (S' := [.ref v0, .ref v0]) rfl ?_
  refine zco_gi fl_12_356 rfl (zdk (cc := cX12_qGoesOnTest) (q := (116, .getfield 356, 3)) tkX12_qGoesOnTest 58 rfl) (fun x3 => ?_)
  refine zco_p tkX12_qGoesOnTest 59 2 (pc' := 121) (L' := [(0, .ref v0)]) (S' := [.int (x3 + 1), .ref v0]) rfl ?_
  refine zco_pi fl_12_356 rfl rfl (zdk (cc := cX12_qGoesOnTest) (q := (121, .putfield 356, 3)) tkX12_qGoesOnTest 61 rfl) ?_
  refine zco_p tkX12_qGoesOnTest 62 1 (pc' := 125) (L' := [(0, .ref v0)]) (S' := [.int 1]) rfl ?_
  exact zco_zret rfl rfl rfl (zdk (cc := cX12_qGoesOnTest) (q := (125, .ireturn, 1)) tkX12_qGoesOnTest 63 rfl)
def X12_qGoesOnTest_B87 (v0 : Nat) (r87 : Unit → zM) : zM := z_rc 12 v0 (z_ci (X12_qIsOn v0 10) fun y1 => z_if (y1 = 0) (X12_qGoesOnTest_J103 v0)
   (z_rc 12 v0 (z_cv (X12_qDrops v0) (r87 (())))))
set_option maxHeartbeats 2000000 in
set_option maxRecDepth 20000 in
theorem coX12_qGoesOnTest_B87 (l : Launch) (e : Nat) (he : 3 ≤ e) (v0 : Nat) (r87 : Unit → zM) (hr87 : ∀ x : Unit, zCo l (e + 1) 0 0 iX12_qGoesOnTest 87 [(0, .ref v0)] [] (r87 x)) : zCo l (e + 1) 0 0 iX12_qGoesOnTest 87 [(0, .ref v0)] [] (X12_qGoesOnTest_B87 v0 r87) := by
  unfold X12_qGoesOnTest_B87
  refine zco_p tkX12_qGoesOnTest 43 2 (pc' := 90) (L' := [(0, .ref v0)]) (S' := [.int 10, .ref v0]) rfl ?_
  refine zco_Vi (rc := 0) (rs := 0) (mc := 0) (ms := 0) (As := [.int 10]) (S := []) vmX12_qIsOn (mtX12_qIsOn l e (by omega) v0 10) q_1890 rfl rfl (Nat.le_of_ble_eq_true rfl) (zdk (cc := cX12_qGoesOnTest) (q := (90, .invokevirtual 666, 3)) tkX12_qGoesOnTest 45 rfl) (fun y1 => ?_)
  refine zco_if_eq (tgt := 103) (zdk (cc := cX12_qGoesOnTest) (q := (93, .ifCond .eq 10, 3)) tkX12_qGoesOnTest 46 rfl) rfl ?_ ?_
  · exact zco_sub [0] rfl (coX12_qGoesOnTest_J103 l e he v0)
  · refine zco_p tkX12_qGoesOnTest 47 1 (pc' := 97) (L' := [(0, .ref v0)]) (S' := [.ref v0]) rfl ?_
    refine zco_Vv (rc := 0) (rs := 0) (mc := 0) (ms := 0) (As := []) (S := []) vmX12_qDrops (mtX12_qDrops l e (by omega) v0) q_1871 rfl rfl (Nat.le_of_ble_eq_true rfl) (zdk (cc := cX12_qGoesOnTest) (q := (97, .invokevirtual 639, 3)) tkX12_qGoesOnTest 48 rfl) ?_
    refine zco_p tkX12_qGoesOnTest 49 1 (pc' := 87) (L' := [(0, .ref v0)]) (S' := []) rfl ?_
    exact zco_sub [0] rfl (hr87 (()))
def X12_qGoesOnTest_J76 (v0 : Nat) : zM := z_gr 12 85 v0 fun x1 => z_rc 12 v0 (z_ci (X12_takes v0 x1) fun y2 => z_if (y2 = 0) (z_gr 12 86 v0 fun x3 => z_rc 12 v0 (z_ci (X12_takes v0 x3) fun y4 => z_if (y4 = 0) (z_gi 12 5 v0 fun x5 => z_if (x5 = 0) (z_rc 12 v0 (z_ci (X12_qHasSquare v0) fun y6 => z_if (y6 = 0) (z_rb 0)
   (z_gi 12 2 v0 fun x7 => z_rc 12 v0 (z_cv (X12_fail v0 1 x7) (z_rb 0)))))
   (z_rb 0))
   (z_fix (fun r x => X12_qGoesOnTest_B137 v0 r ) zFU (()))))
   (z_fix (fun r x => X12_qGoesOnTest_B87 v0 r ) zFU (())))
set_option maxHeartbeats 2000000 in
set_option maxRecDepth 20000 in
theorem coX12_qGoesOnTest_J76 (l : Launch) (e : Nat) (he : 3 ≤ e) (v0 : Nat) : zCo l (e + 1) 0 0 iX12_qGoesOnTest 76 [(0, .ref v0)] [] (X12_qGoesOnTest_J76 v0) := by
  unfold X12_qGoesOnTest_J76
  refine zco_p tkX12_qGoesOnTest 38 2 (pc' := 78) (L' := [(0, .ref v0)]) (S' := [.ref v0, .ref v0]) rfl ?_
  refine zco_gr fl_12_198 rfl (zdk (cc := cX12_qGoesOnTest) (q := (78, .getfield 198, 3)) tkX12_qGoesOnTest 40 rfl) (fun x1 => ?_)
  refine zco_Vi (rc := 0) (rs := 0) (mc := 0) (ms := 0) (As := [.ref x1]) (S := []) vmX12_takes (mtX12_takes l e (by omega) v0 x1) q_1761 rfl rfl (Nat.le_of_ble_eq_true rfl) (zdk (cc := cX12_qGoesOnTest) (q := (81, .invokevirtual 297, 3)) tkX12_qGoesOnTest 41 rfl) (fun y2 => ?_)
  refine zco_if_eq (tgt := 126) (zdk (cc := cX12_qGoesOnTest) (q := (84, .ifCond .eq 42, 3)) tkX12_qGoesOnTest 42 rfl) rfl ?_ ?_
  · refine zco_p tkX12_qGoesOnTest 64 2 (pc' := 128) (L' := [(0, .ref v0)]) (S' := [.ref v0, .ref v0]) rfl ?_
    refine zco_gr fl_12_201 rfl (zdk (cc := cX12_qGoesOnTest) (q := (128, .getfield 201, 3)) tkX12_qGoesOnTest 66 rfl) (fun x3 => ?_)
    refine zco_Vi (rc := 0) (rs := 0) (mc := 0) (ms := 0) (As := [.ref x3]) (S := []) vmX12_takes (mtX12_takes l e (by omega) v0 x3) q_1761 rfl rfl (Nat.le_of_ble_eq_true rfl) (zdk (cc := cX12_qGoesOnTest) (q := (131, .invokevirtual 297, 3)) tkX12_qGoesOnTest 67 rfl) (fun y4 => ?_)
    refine zco_if_eq (tgt := 185) (zdk (cc := cX12_qGoesOnTest) (q := (134, .ifCond .eq 51, 3)) tkX12_qGoesOnTest 68 rfl) rfl ?_ ?_
    · refine zco_p tkX12_qGoesOnTest 94 1 (pc' := 186) (L' := [(0, .ref v0)]) (S' := [.ref v0]) rfl ?_
      refine zco_gi fl_12_270 rfl (zdk (cc := cX12_qGoesOnTest) (q := (186, .getfield 270, 3)) tkX12_qGoesOnTest 95 rfl) (fun x5 => ?_)
      refine zco_if_ne (tgt := 208) (zdk (cc := cX12_qGoesOnTest) (q := (189, .ifCond .ne 19, 3)) tkX12_qGoesOnTest 96 rfl) rfl ?_ ?_
      · refine zco_p tkX12_qGoesOnTest 105 1 (pc' := 209) (L' := [(0, .ref v0)]) (S' := [.int 0]) rfl ?_
        exact zco_zret rfl rfl rfl (zdk (cc := cX12_qGoesOnTest) (q := (209, .ireturn, 1)) tkX12_qGoesOnTest 106 rfl)
      · refine zco_p tkX12_qGoesOnTest 97 1 (pc' := 193) (L' := [(0, .ref v0)]) (S' := [.ref v0]) rfl ?_
        refine zco_Vi (rc := 0) (rs := 0) (mc := 0) (ms := 0) (As := []) (S := []) vmX12_qHasSquare (mtX12_qHasSquare l e (by omega) v0) q_1902 rfl rfl (Nat.le_of_ble_eq_true rfl) (zdk (cc := cX12_qGoesOnTest) (q := (193, .invokevirtual 684, 3)) tkX12_qGoesOnTest 98 rfl) (fun y6 => ?_)
        refine zco_if_eq (tgt := 208) (zdk (cc := cX12_qGoesOnTest) (q := (196, .ifCond .eq 12, 3)) tkX12_qGoesOnTest 99 rfl) rfl ?_ ?_
        · refine zco_p tkX12_qGoesOnTest 105 1 (pc' := 209) (L' := [(0, .ref v0)]) (S' := [.int 0]) rfl ?_
          exact zco_zret rfl rfl rfl (zdk (cc := cX12_qGoesOnTest) (q := (209, .ireturn, 1)) tkX12_qGoesOnTest 106 rfl)
        · refine zco_p tkX12_qGoesOnTest 100 3 (pc' := 202) (L' := [(0, .ref v0)]) (S' := [.ref v0, .int 1, .ref v0]) rfl ?_
          refine zco_gi fl_12_276 rfl (zdk (cc := cX12_qGoesOnTest) (q := (202, .getfield 276, 3)) tkX12_qGoesOnTest 103 rfl) (fun x7 => ?_)
          refine zco_Vv (rc := 0) (rs := 0) (mc := 0) (ms := 0) (As := [.int 1, .int x7]) (S := []) vmX12_fail (mtX12_fail l e (by omega) v0 1 x7) q_1757 rfl rfl (Nat.le_of_ble_eq_true rfl) (zdk (cc := cX12_qGoesOnTest) (q := (205, .invokevirtual 300, 3)) tkX12_qGoesOnTest 104 rfl) ?_
          refine zco_p tkX12_qGoesOnTest 105 1 (pc' := 209) (L' := [(0, .ref v0)]) (S' := [.int 0]) rfl ?_
          exact zco_zret rfl rfl rfl (zdk (cc := cX12_qGoesOnTest) (q := (209, .ireturn, 1)) tkX12_qGoesOnTest 106 rfl)
    · exact zco_sub [0] rfl (zco_fix (Lf := fun x : Unit => [(0, .ref v0)]) (Sf := fun _ => []) (fun r hr x => coX12_qGoesOnTest_B137 l e he v0 r hr ) zFU (()))
  · exact zco_sub [0] rfl (zco_fix (Lf := fun x : Unit => [(0, .ref v0)]) (Sf := fun _ => []) (fun r hr x => coX12_qGoesOnTest_B87 l e he v0 r hr ) zFU (()))
def X12_qGoesOnTest_J49 (r0 : Unit → zM) (v0 : Nat) : zM := z_gi 12 107 v0 fun x1 => z_pi 12 107 v0 (x1 - 1) (z_gi 12 108 v0 fun x2 => z_pi 12 108 v0 (x2 - 1) (z_rc 12 v0 (z_cv (X12_qDropsNots v0) (r0 (())))))
set_option maxHeartbeats 2000000 in
set_option maxRecDepth 20000 in
theorem coX12_qGoesOnTest_J49 (l : Launch) (e : Nat) (he : 3 ≤ e) (v0 : Nat) (r0 : Unit → zM) (hr0 : ∀ x : Unit, zCo l (e + 1) 0 0 iX12_qGoesOnTest 0 [(0, .ref v0)] [] (r0 x)) : zCo l (e + 1) 0 0 iX12_qGoesOnTest 49 [(0, .ref v0)] [] (X12_qGoesOnTest_J49 r0 v0) := by
  unfold X12_qGoesOnTest_J49
  refine zco_p tkX12_qGoesOnTest 23 2 (pc' := 51) (L' := [(0, .ref v0)]) (S' := [.ref v0, .ref v0]) rfl ?_
  refine zco_gi fl_12_356 rfl (zdk (cc := cX12_qGoesOnTest) (q := (51, .getfield 356, 3)) tkX12_qGoesOnTest 25 rfl) (fun x1 => ?_)
  refine zco_p tkX12_qGoesOnTest 26 2 (pc' := 56) (L' := [(0, .ref v0)]) (S' := [.int (x1 - 1), .ref v0]) rfl ?_
  refine zco_pi fl_12_356 rfl rfl (zdk (cc := cX12_qGoesOnTest) (q := (56, .putfield 356, 3)) tkX12_qGoesOnTest 28 rfl) ?_
  refine zco_p tkX12_qGoesOnTest 29 2 (pc' := 61) (L' := [(0, .ref v0)]) (S' := [.ref v0, .ref v0]) rfl ?_
  refine zco_gi fl_12_359 rfl (zdk (cc := cX12_qGoesOnTest) (q := (61, .getfield 359, 3)) tkX12_qGoesOnTest 31 rfl) (fun x2 => ?_)
  refine zco_p tkX12_qGoesOnTest 32 2 (pc' := 66) (L' := [(0, .ref v0)]) (S' := [.int (x2 - 1), .ref v0]) rfl ?_
  refine zco_pi fl_12_359 rfl rfl (zdk (cc := cX12_qGoesOnTest) (q := (66, .putfield 359, 3)) tkX12_qGoesOnTest 34 rfl) ?_
  refine zco_p tkX12_qGoesOnTest 35 1 (pc' := 70) (L' := [(0, .ref v0)]) (S' := [.ref v0]) rfl ?_
  refine zco_Vv (rc := 0) (rs := 0) (mc := 0) (ms := 0) (As := []) (S := []) vmX12_qDropsNots (mtX12_qDropsNots l e (by omega) v0) q_1894 rfl rfl (Nat.le_of_ble_eq_true rfl) (zdk (cc := cX12_qGoesOnTest) (q := (70, .invokevirtual 678, 3)) tkX12_qGoesOnTest 36 rfl) ?_
  refine zco_p tkX12_qGoesOnTest 37 1 (pc' := 0) (L' := [(0, .ref v0)]) (S' := []) rfl ?_
  exact zco_sub [0] rfl (hr0 (()))
def X12_qGoesOnTest_B33 (r0 : Unit → zM) (v0 : Nat) (r33 : Unit → zM) : zM := z_rc 12 v0 (z_ci (X12_qIsOn v0 25) fun y1 => z_if (y1 = 0) (z_rc 12 v0 (z_cv (X12_qDrops v0) (r33 (()))))
   (X12_qGoesOnTest_J49 r0 v0))
set_option maxHeartbeats 2000000 in
set_option maxRecDepth 20000 in
theorem coX12_qGoesOnTest_B33 (l : Launch) (e : Nat) (he : 3 ≤ e) (v0 : Nat) (r0 : Unit → zM) (hr0 : ∀ x : Unit, zCo l (e + 1) 0 0 iX12_qGoesOnTest 0 [(0, .ref v0)] [] (r0 x)) (r33 : Unit → zM) (hr33 : ∀ x : Unit, zCo l (e + 1) 0 0 iX12_qGoesOnTest 33 [(0, .ref v0)] [] (r33 x)) : zCo l (e + 1) 0 0 iX12_qGoesOnTest 33 [(0, .ref v0)] [] (X12_qGoesOnTest_B33 r0 v0 r33) := by
  unfold X12_qGoesOnTest_B33
  refine zco_p tkX12_qGoesOnTest 16 2 (pc' := 36) (L' := [(0, .ref v0)]) (S' := [.int 25, .ref v0]) rfl ?_
  refine zco_Vi (rc := 0) (rs := 0) (mc := 0) (ms := 0) (As := [.int 25]) (S := []) vmX12_qIsOn (mtX12_qIsOn l e (by omega) v0 25) q_1890 rfl rfl (Nat.le_of_ble_eq_true rfl) (zdk (cc := cX12_qGoesOnTest) (q := (36, .invokevirtual 666, 3)) tkX12_qGoesOnTest 18 rfl) (fun y1 => ?_)
  refine zco_if_ne (tgt := 49) (zdk (cc := cX12_qGoesOnTest) (q := (39, .ifCond .ne 10, 3)) tkX12_qGoesOnTest 19 rfl) rfl ?_ ?_
  · exact zco_sub [0] rfl (coX12_qGoesOnTest_J49 l e he v0 r0 hr0)
  · refine zco_p tkX12_qGoesOnTest 20 1 (pc' := 43) (L' := [(0, .ref v0)]) (S' := [.ref v0]) rfl ?_
    refine zco_Vv (rc := 0) (rs := 0) (mc := 0) (ms := 0) (As := []) (S := []) vmX12_qDrops (mtX12_qDrops l e (by omega) v0) q_1871 rfl rfl (Nat.le_of_ble_eq_true rfl) (zdk (cc := cX12_qGoesOnTest) (q := (43, .invokevirtual 639, 3)) tkX12_qGoesOnTest 21 rfl) ?_
    refine zco_p tkX12_qGoesOnTest 22 1 (pc' := 33) (L' := [(0, .ref v0)]) (S' := []) rfl ?_
    exact zco_sub [0] rfl (hr33 (()))
def X12_qGoesOnTest_B0 (v0 : Nat) (r0 : Unit → zM) : zM := z_gi 12 5 v0 fun x1 => z_if (x1 = 0) (z_rc 12 v0 (z_ci (X12_look v0) fun y2 => z_if (y2 = 93) (z_rc 12 v0 (z_ci (X12_qHasSquare v0) fun y3 => z_if (y3 = 0) (X12_qGoesOnTest_J76 v0)
   (z_gi 12 2 v0 fun x4 => z_pi 12 2 v0 (x4 + 1) (z_fix (fun r x => X12_qGoesOnTest_B33 r0 v0 r ) zFU (())))))
   (X12_qGoesOnTest_J76 v0)))
   (X12_qGoesOnTest_J76 v0)
set_option maxHeartbeats 2000000 in
set_option maxRecDepth 20000 in
theorem coX12_qGoesOnTest_B0 (l : Launch) (e : Nat) (he : 3 ≤ e) (v0 : Nat) (r0 : Unit → zM) (hr0 : ∀ x : Unit, zCo l (e + 1) 0 0 iX12_qGoesOnTest 0 [(0, .ref v0)] [] (r0 x)) : zCo l (e + 1) 0 0 iX12_qGoesOnTest 0 [(0, .ref v0)] [] (X12_qGoesOnTest_B0 v0 r0) := by
  unfold X12_qGoesOnTest_B0
  refine zco_p tkX12_qGoesOnTest 0 1 (pc' := 1) (L' := [(0, .ref v0)]) (S' := [.ref v0]) rfl ?_
  refine zco_gi fl_12_270 rfl (zdk (cc := cX12_qGoesOnTest) (q := (1, .getfield 270, 3)) tkX12_qGoesOnTest 1 rfl) (fun x1 => ?_)
  refine zco_if_ne (tgt := 76) (zdk (cc := cX12_qGoesOnTest) (q := (4, .ifCond .ne 72, 3)) tkX12_qGoesOnTest 2 rfl) rfl ?_ ?_
  · exact zco_sub [0] rfl (coX12_qGoesOnTest_J76 l e he v0)
  · refine zco_p tkX12_qGoesOnTest 3 1 (pc' := 8) (L' := [(0, .ref v0)]) (S' := [.ref v0]) rfl ?_
    refine zco_Vi (rc := 0) (rs := 0) (mc := 0) (ms := 0) (As := []) (S := []) vmX12_look (mtX12_look l e (by omega) v0) q_1749 rfl rfl (Nat.le_of_ble_eq_true rfl) (zdk (cc := cX12_qGoesOnTest) (q := (8, .invokevirtual 282, 3)) tkX12_qGoesOnTest 4 rfl) (fun y2 => ?_)
    refine zco_p tkX12_qGoesOnTest 5 1 (pc' := 13) (L' := [(0, .ref v0)]) (S' := [.int 93, .int y2]) rfl ?_
    refine zco_icmp_ne (tgt := 76) (zdk (cc := cX12_qGoesOnTest) (q := (13, .if_icmp .ne 63, 3)) tkX12_qGoesOnTest 6 rfl) rfl ?_ ?_
    · exact zco_sub [0] rfl (coX12_qGoesOnTest_J76 l e he v0)
    · refine zco_p tkX12_qGoesOnTest 7 1 (pc' := 17) (L' := [(0, .ref v0)]) (S' := [.ref v0]) rfl ?_
      refine zco_Vi (rc := 0) (rs := 0) (mc := 0) (ms := 0) (As := []) (S := []) vmX12_qHasSquare (mtX12_qHasSquare l e (by omega) v0) q_1902 rfl rfl (Nat.le_of_ble_eq_true rfl) (zdk (cc := cX12_qGoesOnTest) (q := (17, .invokevirtual 684, 3)) tkX12_qGoesOnTest 8 rfl) (fun y3 => ?_)
      refine zco_if_eq (tgt := 76) (zdk (cc := cX12_qGoesOnTest) (q := (20, .ifCond .eq 56, 3)) tkX12_qGoesOnTest 9 rfl) rfl ?_ ?_
      · exact zco_sub [0] rfl (coX12_qGoesOnTest_J76 l e he v0)
      · refine zco_p tkX12_qGoesOnTest 10 2 (pc' := 25) (L' := [(0, .ref v0)]) (S' := [.ref v0, .ref v0]) rfl ?_
        refine zco_gi fl_12_276 rfl (zdk (cc := cX12_qGoesOnTest) (q := (25, .getfield 276, 3)) tkX12_qGoesOnTest 12 rfl) (fun x4 => ?_)
        refine zco_p tkX12_qGoesOnTest 13 2 (pc' := 30) (L' := [(0, .ref v0)]) (S' := [.int (x4 + 1), .ref v0]) rfl ?_
        refine zco_pi fl_12_276 rfl rfl (zdk (cc := cX12_qGoesOnTest) (q := (30, .putfield 276, 3)) tkX12_qGoesOnTest 15 rfl) ?_
        exact zco_sub [0] rfl (zco_fix (Lf := fun x : Unit => [(0, .ref v0)]) (Sf := fun _ => []) (fun r hr x => coX12_qGoesOnTest_B33 l e he v0 r0 hr0 r hr ) zFU (()))
def X12_qGoesOnTest (v0 : Nat) : zM := z_fix (fun r x => X12_qGoesOnTest_B0 v0 r ) zFU (())
set_option maxHeartbeats 2000000 in
set_option maxRecDepth 20000 in
theorem coX12_qGoesOnTest (l : Launch) (e : Nat) (he : 3 ≤ e) (v0 : Nat) : zCo l (e + 1) 0 0 iX12_qGoesOnTest 0 [(0, .ref v0)] [] (X12_qGoesOnTest v0) := by
  unfold X12_qGoesOnTest
  exact zco_sub [0] rfl (zco_fix (Lf := fun x : Unit => [(0, .ref v0)]) (Sf := fun _ => []) (fun r hr x => coX12_qGoesOnTest_B0 l e he v0 r hr ) zFU (()))
theorem mtX12_qGoesOnTest (l : Launch) (d : Nat) (hd : 4 ≤ d) (v0 : Nat) : zMet l d 0 0 yX12_qGoesOnTest cX12_qGoesOnTest 1 (Option.some .boolean) [.ref v0] (X12_qGoesOnTest v0) := by
  obtain ⟨e, rfl⟩ : ∃ e, d = e + 1 := ⟨d - 1, by omega⟩
  exact zmet_of (own := RX12) (ini := false) (by decide +kernel) rfl (fun _ => by contradiction) (Nat.le_of_ble_eq_true rfl) (coX12_qGoesOnTest l e (by omega) v0)
abbrev iX12_qTest : zI := (RX12, cX12_qTest, 3, (Option.none : Option FieldType), false)
def tX12_qTest : List (Nat × Instr × Nat) := [(0, .iconst 1, 1), (1, .istore_n 1, 1), (2, .iload_n 1, 1), (3, .ifCond .eq 107, 3), (6, .aload_n 0, 1), (7, .getfield 270, 3), (10, .ifCond .ne 100, 3), (13, .aload_n 0, 1), (14, .invokevirtual 282, 3), (17, .istore_n 2, 1), (18, .iload_n 2, 1), (19, .bipush 91, 2), (21, .if_icmp .ne 26, 3), (24, .aload_n 0, 1), (25, .bipush 25, 2), (27, .aload_n 0, 1), (28, .getfield 276, 3), (31, .invokevirtual 651, 3), (34, .aload_n 0, 1), (35, .dup, 1), (36, .getfield 276, 3), (39, .iconst 1, 1), (40, .iadd, 1), (41, .putfield 276, 3), (44, .goto (-42), 3), (47, .aload_n 0, 1), (48, .aload_n 0, 1), (49, .getfield 195, 3), (52, .invokevirtual 293, 3), (55, .ifCond .eq 24, 3), (58, .aload_n 0, 1), (59, .bipush 12, 2), (61, .aload_n 0, 1), (62, .getfield 276, 3), (65, .invokevirtual 651, 3), (68, .aload_n 0, 1), (69, .aload_n 0, 1), (70, .getfield 195, 3), (73, .invokevirtual 341, 3), (76, .goto (-74), 3), (79, .aload_n 0, 1), (80, .invokevirtual 675, 3), (83, .aload_n 0, 1), (84, .invokevirtual 678, 3), (87, .aload_n 0, 1), (88, .getfield 270, 3), (91, .ifCond .ne 14, 3), (94, .aload_n 0, 1), (95, .invokevirtual 681, 3), (98, .ifCond .eq 7, 3), (101, .iconst 1, 1), (102, .goto 4, 3), (105, .iconst 0, 1), (106, .istore_n 1, 1), (107, .goto (-105), 3), (110, .aload_n 0, 1), (111, .getfield 270, 3), (114, .ifCond .ne 17, 3), (117, .aload_n 0, 1), (118, .getfield 356, 3), (121, .ifCond .le 10, 3), (124, .aload_n 0, 1), (125, .invokevirtual 639, 3), (128, .goto (-18), 3), (131, .return_, 1)]
set_option maxRecDepth 100000 in
theorem tkX12_qTest : ∀ q ∈ tX12_qTest, decode cX12_qTest q.1 = .ok q.2 := by decide +kernel
theorem vmX12_qTest : zVM yX12_qTest cX12_qTest 3 (Option.none : Option FieldType) 0 12 := ⟨kX12_qTest, q_1818, q_59, q_160, ⟨_, rfl, rfl⟩, by decide +kernel, by decide⟩
def X12_qTest_B110 (v0 : Nat) (r110 : Unit → zM) : zM := z_gi 12 5 v0 fun x1 => z_if (x1 = 0) (z_gi 12 107 v0 fun x2 => z_if (x2 ≤ 0) (z_ret none)
   (z_rc 12 v0 (z_cv (X12_qDrops v0) (r110 (())))))
   (z_ret none)
set_option maxHeartbeats 2000000 in
set_option maxRecDepth 20000 in
theorem coX12_qTest_B110 (l : Launch) (e : Nat) (he : 8 ≤ e) (v0 : Nat) (r110 : Unit → zM) (hr110 : ∀ x : Unit, zCo l (e + 1) 0 0 iX12_qTest 110 [(0, .ref v0)] [] (r110 x)) : zCo l (e + 1) 0 0 iX12_qTest 110 [(0, .ref v0)] [] (X12_qTest_B110 v0 r110) := by
  unfold X12_qTest_B110
  refine zco_p tkX12_qTest 55 1 (pc' := 111) (L' := [(0, .ref v0)]) (S' := [.ref v0]) rfl ?_
  refine zco_gi fl_12_270 rfl (zdk (cc := cX12_qTest) (q := (111, .getfield 270, 3)) tkX12_qTest 56 rfl) (fun x1 => ?_)
  refine zco_if_ne (tgt := 131) (zdk (cc := cX12_qTest) (q := (114, .ifCond .ne 17, 3)) tkX12_qTest 57 rfl) rfl ?_ ?_
  · exact zco_vret rfl rfl rfl (zdk (cc := cX12_qTest) (q := (131, .return_, 1)) tkX12_qTest 64 rfl)
  · refine zco_p tkX12_qTest 58 1 (pc' := 118) (L' := [(0, .ref v0)]) (S' := [.ref v0]) rfl ?_
    refine zco_gi fl_12_356 rfl (zdk (cc := cX12_qTest) (q := (118, .getfield 356, 3)) tkX12_qTest 59 rfl) (fun x2 => ?_)
    refine zco_if_le (tgt := 131) (zdk (cc := cX12_qTest) (q := (121, .ifCond .le 10, 3)) tkX12_qTest 60 rfl) rfl ?_ ?_
    · exact zco_vret rfl rfl rfl (zdk (cc := cX12_qTest) (q := (131, .return_, 1)) tkX12_qTest 64 rfl)
    · refine zco_p tkX12_qTest 61 1 (pc' := 125) (L' := [(0, .ref v0)]) (S' := [.ref v0]) rfl ?_
      refine zco_Vv (rc := 0) (rs := 0) (mc := 0) (ms := 0) (As := []) (S := []) vmX12_qDrops (mtX12_qDrops l e (by omega) v0) q_1871 rfl rfl (Nat.le_of_ble_eq_true rfl) (zdk (cc := cX12_qTest) (q := (125, .invokevirtual 639, 3)) tkX12_qTest 62 rfl) ?_
      refine zco_p tkX12_qTest 63 1 (pc' := 110) (L' := [(0, .ref v0)]) (S' := []) rfl ?_
      exact zco_sub [0] rfl (hr110 (()))
def X12_qTest_J106 (r2 : Int32 → zM) (v0 : Nat) (s0 : Int32) : zM := r2 s0
set_option maxHeartbeats 2000000 in
set_option maxRecDepth 20000 in
theorem coX12_qTest_J106 (l : Launch) (e : Nat) (he : 8 ≤ e) (v0 : Nat) (r2 : Int32 → zM) (hr2 : ∀ x : Int32, zCo l (e + 1) 0 0 iX12_qTest 2 [(0, .ref v0), (1, .int x)] [] (r2 x)) (s0 : Int32) : zCo l (e + 1) 0 0 iX12_qTest 106 [(0, .ref v0)] [.int s0] (X12_qTest_J106 r2 v0 s0) := by
  unfold X12_qTest_J106
  refine zco_p tkX12_qTest 53 2 (pc' := 2) (L' := [(1, .int s0), (0, .ref v0)]) (S' := []) rfl ?_
  exact zco_sub [1, 0] rfl (hr2 s0)
def X12_qTest_J105 (r2 : Int32 → zM) (v0 : Nat) : zM := X12_qTest_J106 r2 v0 0
set_option maxHeartbeats 2000000 in
set_option maxRecDepth 20000 in
theorem coX12_qTest_J105 (l : Launch) (e : Nat) (he : 8 ≤ e) (v0 : Nat) (r2 : Int32 → zM) (hr2 : ∀ x : Int32, zCo l (e + 1) 0 0 iX12_qTest 2 [(0, .ref v0), (1, .int x)] [] (r2 x)) : zCo l (e + 1) 0 0 iX12_qTest 105 [(0, .ref v0)] [] (X12_qTest_J105 r2 v0) := by
  unfold X12_qTest_J105
  refine zco_p tkX12_qTest 52 1 (pc' := 106) (L' := [(0, .ref v0)]) (S' := [.int 0]) rfl ?_
  exact zco_sub [0] rfl (coX12_qTest_J106 l e he v0 r2 hr2 0)
def X12_qTest_B2 (v0 : Nat) (r2 : Int32 → zM) (v1 : Int32) : zM := z_if (v1 = 0) (z_fix (fun r x => X12_qTest_B110 v0 r ) zFU (()))
   (z_gi 12 5 v0 fun x1 => z_if (x1 = 0) (z_rc 12 v0 (z_ci (X12_look v0) fun y2 => z_if (y2 = 91) (z_gi 12 2 v0 fun x9 => z_rc 12 v0 (z_cv (X12_qOpens v0 25 x9) (z_gi 12 2 v0 fun x10 => z_pi 12 2 v0 (x10 + 1) (r2 v1))))
   (z_gr 12 84 v0 fun x3 => z_rc 12 v0 (z_ci (X12_isHere v0 x3) fun y4 => z_if (y4 = 0) (z_rc 12 v0 (z_cv (X12_qFact v0) (z_rc 12 v0 (z_cv (X12_qDropsNots v0) (z_gi 12 5 v0 fun x5 => z_if (x5 = 0) (z_rc 12 v0 (z_ci (X12_qGoesOnTest v0) fun y6 => z_if (y6 = 0) (X12_qTest_J105 r2 v0)
   (X12_qTest_J106 r2 v0 1)))
   (X12_qTest_J105 r2 v0))))))
   (z_gi 12 2 v0 fun x7 => z_rc 12 v0 (z_cv (X12_qOpens v0 12 x7) (z_gr 12 84 v0 fun x8 => z_rc 12 v0 (z_cv (X12_asks v0 x8) (r2 v1)))))))))
   (z_fix (fun r x => X12_qTest_B110 v0 r ) zFU (())))
set_option maxHeartbeats 2000000 in
set_option maxRecDepth 20000 in
theorem coX12_qTest_B2 (l : Launch) (e : Nat) (he : 8 ≤ e) (v0 : Nat) (r2 : Int32 → zM) (hr2 : ∀ x : Int32, zCo l (e + 1) 0 0 iX12_qTest 2 [(0, .ref v0), (1, .int x)] [] (r2 x)) (v1 : Int32) : zCo l (e + 1) 0 0 iX12_qTest 2 [(0, .ref v0), (1, .int v1)] [] (X12_qTest_B2 v0 r2 v1) := by
  unfold X12_qTest_B2
  refine zco_p tkX12_qTest 2 1 (pc' := 3) (L' := [(0, .ref v0), (1, .int v1)]) (S' := [.int v1]) rfl ?_
  refine zco_if_eq (tgt := 110) (zdk (cc := cX12_qTest) (q := (3, .ifCond .eq 107, 3)) tkX12_qTest 3 rfl) rfl ?_ ?_
  · exact zco_sub [0] rfl (zco_fix (Lf := fun x : Unit => [(0, .ref v0)]) (Sf := fun _ => []) (fun r hr x => coX12_qTest_B110 l e he v0 r hr ) zFU (()))
  · refine zco_p tkX12_qTest 4 1 (pc' := 7) (L' := [(0, .ref v0), (1, .int v1)]) (S' := [.ref v0]) rfl ?_
    refine zco_gi fl_12_270 rfl (zdk (cc := cX12_qTest) (q := (7, .getfield 270, 3)) tkX12_qTest 5 rfl) (fun x1 => ?_)
    refine zco_if_ne (tgt := 110) (zdk (cc := cX12_qTest) (q := (10, .ifCond .ne 100, 3)) tkX12_qTest 6 rfl) rfl ?_ ?_
    · exact zco_sub [0] rfl (zco_fix (Lf := fun x : Unit => [(0, .ref v0)]) (Sf := fun _ => []) (fun r hr x => coX12_qTest_B110 l e he v0 r hr ) zFU (()))
    · refine zco_p tkX12_qTest 7 1 (pc' := 14) (L' := [(0, .ref v0), (1, .int v1)]) (S' := [.ref v0]) rfl ?_
      refine zco_Vi (rc := 0) (rs := 0) (mc := 0) (ms := 0) (As := []) (S := []) vmX12_look (mtX12_look l e (by omega) v0) q_1749 rfl rfl (Nat.le_of_ble_eq_true rfl) (zdk (cc := cX12_qTest) (q := (14, .invokevirtual 282, 3)) tkX12_qTest 8 rfl) (fun y2 => ?_)
      refine zco_p tkX12_qTest 9 3 (pc' := 21) (L' := [(2, .int y2), (0, .ref v0), (1, .int v1)]) (S' := [.int 91, .int y2]) rfl ?_
      refine zco_icmp_ne (tgt := 47) (zdk (cc := cX12_qTest) (q := (21, .if_icmp .ne 26, 3)) tkX12_qTest 12 rfl) rfl ?_ ?_
      · refine zco_p tkX12_qTest 25 2 (pc' := 49) (L' := [(2, .int y2), (0, .ref v0), (1, .int v1)]) (S' := [.ref v0, .ref v0]) rfl ?_
        refine zco_gr fl_12_195 rfl (zdk (cc := cX12_qTest) (q := (49, .getfield 195, 3)) tkX12_qTest 27 rfl) (fun x3 => ?_)
        refine zco_Vi (rc := 0) (rs := 0) (mc := 0) (ms := 0) (As := [.ref x3]) (S := []) vmX12_isHere (mtX12_isHere l e (by omega) v0 x3) q_1765 rfl rfl (Nat.le_of_ble_eq_true rfl) (zdk (cc := cX12_qTest) (q := (52, .invokevirtual 293, 3)) tkX12_qTest 28 rfl) (fun y4 => ?_)
        refine zco_if_eq (tgt := 79) (zdk (cc := cX12_qTest) (q := (55, .ifCond .eq 24, 3)) tkX12_qTest 29 rfl) rfl ?_ ?_
        · refine zco_p tkX12_qTest 40 1 (pc' := 80) (L' := [(2, .int y2), (0, .ref v0), (1, .int v1)]) (S' := [.ref v0]) rfl ?_
          refine zco_Vv (rc := 0) (rs := 0) (mc := 0) (ms := 0) (As := []) (S := []) vmX12_qFact (mtX12_qFact l e (by omega) v0) q_1824 rfl rfl (Nat.le_of_ble_eq_true rfl) (zdk (cc := cX12_qTest) (q := (80, .invokevirtual 675, 3)) tkX12_qTest 41 rfl) ?_
          refine zco_p tkX12_qTest 42 1 (pc' := 84) (L' := [(2, .int y2), (0, .ref v0), (1, .int v1)]) (S' := [.ref v0]) rfl ?_
          refine zco_Vv (rc := 0) (rs := 0) (mc := 0) (ms := 0) (As := []) (S := []) vmX12_qDropsNots (mtX12_qDropsNots l e (by omega) v0) q_1894 rfl rfl (Nat.le_of_ble_eq_true rfl) (zdk (cc := cX12_qTest) (q := (84, .invokevirtual 678, 3)) tkX12_qTest 43 rfl) ?_
          refine zco_p tkX12_qTest 44 1 (pc' := 88) (L' := [(2, .int y2), (0, .ref v0), (1, .int v1)]) (S' := [.ref v0]) rfl ?_
          refine zco_gi fl_12_270 rfl (zdk (cc := cX12_qTest) (q := (88, .getfield 270, 3)) tkX12_qTest 45 rfl) (fun x5 => ?_)
          refine zco_if_ne (tgt := 105) (zdk (cc := cX12_qTest) (q := (91, .ifCond .ne 14, 3)) tkX12_qTest 46 rfl) rfl ?_ ?_
          · exact zco_sub [1] rfl (coX12_qTest_J105 l e he v0 r2 hr2)
          · refine zco_p tkX12_qTest 47 1 (pc' := 95) (L' := [(2, .int y2), (0, .ref v0), (1, .int v1)]) (S' := [.ref v0]) rfl ?_
            refine zco_Vi (rc := 0) (rs := 0) (mc := 0) (ms := 0) (As := []) (S := []) vmX12_qGoesOnTest (mtX12_qGoesOnTest l e (by omega) v0) q_1898 rfl rfl (Nat.le_of_ble_eq_true rfl) (zdk (cc := cX12_qTest) (q := (95, .invokevirtual 681, 3)) tkX12_qTest 48 rfl) (fun y6 => ?_)
            refine zco_if_eq (tgt := 105) (zdk (cc := cX12_qTest) (q := (98, .ifCond .eq 7, 3)) tkX12_qTest 49 rfl) rfl ?_ ?_
            · exact zco_sub [1] rfl (coX12_qTest_J105 l e he v0 r2 hr2)
            · refine zco_p tkX12_qTest 50 2 (pc' := 106) (L' := [(2, .int y2), (0, .ref v0), (1, .int v1)]) (S' := [.int 1]) rfl ?_
              exact zco_sub [1] rfl (coX12_qTest_J106 l e he v0 r2 hr2 1)
        · refine zco_p tkX12_qTest 30 3 (pc' := 62) (L' := [(2, .int y2), (0, .ref v0), (1, .int v1)]) (S' := [.ref v0, .int 12, .ref v0]) rfl ?_
          refine zco_gi fl_12_276 rfl (zdk (cc := cX12_qTest) (q := (62, .getfield 276, 3)) tkX12_qTest 33 rfl) (fun x7 => ?_)
          refine zco_Vv (rc := 0) (rs := 0) (mc := 0) (ms := 0) (As := [.int 12, .int x7]) (S := []) vmX12_qOpens (mtX12_qOpens l e (by omega) v0 12 x7) q_1820 rfl rfl (Nat.le_of_ble_eq_true rfl) (zdk (cc := cX12_qTest) (q := (65, .invokevirtual 651, 3)) tkX12_qTest 34 rfl) ?_
          refine zco_p tkX12_qTest 35 2 (pc' := 70) (L' := [(2, .int y2), (0, .ref v0), (1, .int v1)]) (S' := [.ref v0, .ref v0]) rfl ?_
          refine zco_gr fl_12_195 rfl (zdk (cc := cX12_qTest) (q := (70, .getfield 195, 3)) tkX12_qTest 37 rfl) (fun x8 => ?_)
          refine zco_Vv (rc := 0) (rs := 0) (mc := 0) (ms := 0) (As := [.ref x8]) (S := []) vmX12_asks (mtX12_asks l e (by omega) v0 x8) q_1786 rfl rfl (Nat.le_of_ble_eq_true rfl) (zdk (cc := cX12_qTest) (q := (73, .invokevirtual 341, 3)) tkX12_qTest 38 rfl) ?_
          refine zco_p tkX12_qTest 39 1 (pc' := 2) (L' := [(2, .int y2), (0, .ref v0), (1, .int v1)]) (S' := []) rfl ?_
          exact zco_sub [1, 2] rfl (hr2 v1)
      · refine zco_p tkX12_qTest 13 3 (pc' := 28) (L' := [(2, .int y2), (0, .ref v0), (1, .int v1)]) (S' := [.ref v0, .int 25, .ref v0]) rfl ?_
        refine zco_gi fl_12_276 rfl (zdk (cc := cX12_qTest) (q := (28, .getfield 276, 3)) tkX12_qTest 16 rfl) (fun x9 => ?_)
        refine zco_Vv (rc := 0) (rs := 0) (mc := 0) (ms := 0) (As := [.int 25, .int x9]) (S := []) vmX12_qOpens (mtX12_qOpens l e (by omega) v0 25 x9) q_1820 rfl rfl (Nat.le_of_ble_eq_true rfl) (zdk (cc := cX12_qTest) (q := (31, .invokevirtual 651, 3)) tkX12_qTest 17 rfl) ?_
        refine zco_p tkX12_qTest 18 2 (pc' := 36) (L' := [(2, .int y2), (0, .ref v0), (1, .int v1)]) (S' := [.ref v0, .ref v0]) rfl ?_
        refine zco_gi fl_12_276 rfl (zdk (cc := cX12_qTest) (q := (36, .getfield 276, 3)) tkX12_qTest 20 rfl) (fun x10 => ?_)
        refine zco_p tkX12_qTest 21 2 (pc' := 41) (L' := [(2, .int y2), (0, .ref v0), (1, .int v1)]) (S' := [.int (x10 + 1), .ref v0]) rfl ?_
        refine zco_pi fl_12_276 rfl rfl (zdk (cc := cX12_qTest) (q := (41, .putfield 276, 3)) tkX12_qTest 23 rfl) ?_
        refine zco_p tkX12_qTest 24 1 (pc' := 2) (L' := [(2, .int y2), (0, .ref v0), (1, .int v1)]) (S' := []) rfl ?_
        exact zco_sub [1, 2] rfl (hr2 v1)
def X12_qTest (v0 : Nat) : zM := z_fix (fun r x => X12_qTest_B2 v0 r x) zFU 1
set_option maxHeartbeats 2000000 in
set_option maxRecDepth 20000 in
theorem coX12_qTest (l : Launch) (e : Nat) (he : 8 ≤ e) (v0 : Nat) : zCo l (e + 1) 0 0 iX12_qTest 0 [(0, .ref v0)] [] (X12_qTest v0) := by
  unfold X12_qTest
  refine zco_p tkX12_qTest 0 2 (pc' := 2) (L' := [(1, .int 1), (0, .ref v0)]) (S' := []) rfl ?_
  exact zco_sub [1, 0] rfl (zco_fix (Lf := fun x : Int32 => [(0, .ref v0), (1, .int x)]) (Sf := fun _ => []) (fun r hr x => coX12_qTest_B2 l e he v0 r hr x) zFU 1)
theorem mtX12_qTest (l : Launch) (d : Nat) (hd : 9 ≤ d) (v0 : Nat) : zMet l d 0 0 yX12_qTest cX12_qTest 3 (Option.none : Option FieldType) [.ref v0] (X12_qTest v0) := by
  obtain ⟨e, rfl⟩ : ∃ e, d = e + 1 := ⟨d - 1, by omega⟩
  exact zmet_of (own := RX12) (ini := false) (by decide +kernel) rfl (fun _ => by contradiction) (Nat.le_of_ble_eq_true rfl) (coX12_qTest l e (by omega) v0)
abbrev iX12_codesTold : zI := (RX12, cX12_codesTold, 4, (Option.none : Option FieldType), false)
def tX12_codesTold : List (Nat × Instr × Nat) := [(0, .aload_n 0, 1), (1, .getfield 270, 3), (4, .ifCond .ne 19, 3), (7, .aload_n 0, 1), (8, .getfield 125, 3), (11, .iload_n 1, 1), (12, .iaload, 1), (13, .iconst (-1), 1), (14, .if_icmp .eq 9, 3), (17, .aload_n 0, 1), (18, .iconst 5, 1), (19, .iload_n 2, 1), (20, .invokevirtual 300, 3), (23, .aload_n 0, 1), (24, .getfield 270, 3), (27, .ifCond .eq 4, 3), (30, .return_, 1), (31, .aload_n 0, 1), (32, .iload_n 1, 1), (33, .putfield 328, 3), (36, .aload_n 0, 1), (37, .iconst 0, 1), (38, .putfield 353, 3), (41, .aload_n 0, 1), (42, .iconst 0, 1), (43, .putfield 356, 3), (46, .aload_n 0, 1), (47, .iconst 0, 1), (48, .putfield 359, 3), (51, .aload_n 0, 1), (52, .iconst 0, 1), (53, .putfield 362, 3), (56, .iload_n 1, 1), (57, .iconst 1, 1), (58, .if_icmp .ne 10, 3), (61, .aload_n 0, 1), (62, .invokevirtual 365, 3), (65, .goto 7, 3), (68, .aload_n 0, 1), (69, .invokevirtual 368, 3), (72, .aload_n 0, 1), (73, .getfield 270, 3), (76, .ifCond .eq 4, 3), (79, .return_, 1), (80, .aload_n 0, 1), (81, .getfield 125, 3), (84, .iload_n 1, 1), (85, .aload_n 0, 1), (86, .getfield 371, 3), (89, .iastore, 1), (90, .iconst 0, 1), (91, .istore_n 3, 1), (92, .iload_n 3, 1), (93, .aload_n 0, 1), (94, .getfield 353, 3), (97, .if_icmp .ge 34, 3), (100, .aload_n 0, 1), (101, .getfield 131, 3), (104, .aload_n 0, 1), (105, .getfield 371, 3), (108, .aload_n 0, 1), (109, .getfield 255, 3), (112, .iload_n 3, 1), (113, .iaload, 1), (114, .iastore, 1), (115, .aload_n 0, 1), (116, .dup, 1), (117, .getfield 371, 3), (120, .iconst 1, 1), (121, .iadd, 1), (122, .putfield 371, 3), (125, .iinc 3 1, 3), (128, .goto (-36), 3), (131, .aload_n 0, 1), (132, .getfield 128, 3), (135, .iload_n 1, 1), (136, .aload_n 0, 1), (137, .getfield 371, 3), (140, .iastore, 1), (141, .return_, 1)]
set_option maxRecDepth 100000 in
theorem tkX12_codesTold : ∀ q ∈ tX12_codesTold, decode cX12_codesTold q.1 = .ok q.2 := by decide +kernel
theorem vmX12_codesTold : zVM yX12_codesTold cX12_codesTold 4 (Option.none : Option FieldType) 2 12 := ⟨kX12_codesTold, q_1814, q_58, q_160, ⟨_, rfl, rfl⟩, by decide +kernel, by decide⟩
def X12_codesTold_J131 (v0 : Nat) (v1 : Int32) : zM := z_gr 12 47 v0 fun x1 => z_gi 12 49 v0 fun x2 => z_sa 20 x1 v1 x2 (z_ret none)
set_option maxHeartbeats 2000000 in
set_option maxRecDepth 20000 in
theorem coX12_codesTold_J131 (l : Launch) (e : Nat) (he : 9 ≤ e) (v0 : Nat) (v1 : Int32) : zCo l (e + 1) 0 0 iX12_codesTold 131 [(0, .ref v0), (1, .int v1)] [] (X12_codesTold_J131 v0 v1) := by
  unfold X12_codesTold_J131
  refine zco_p tkX12_codesTold 73 1 (pc' := 132) (L' := [(0, .ref v0), (1, .int v1)]) (S' := [.ref v0]) rfl ?_
  refine zco_gr fl_12_128 rfl (zdk (cc := cX12_codesTold) (q := (132, .getfield 128, 3)) tkX12_codesTold 74 rfl) (fun x1 => ?_)
  refine zco_p tkX12_codesTold 75 2 (pc' := 137) (L' := [(0, .ref v0), (1, .int v1)]) (S' := [.ref v0, .int v1, .ref x1]) rfl ?_
  refine zco_gi fl_12_371 rfl (zdk (cc := cX12_codesTold) (q := (137, .getfield 371, 3)) tkX12_codesTold 77 rfl) (fun x2 => ?_)
  refine zco_iastore (zdk (cc := cX12_codesTold) (q := (140, .iastore, 1)) tkX12_codesTold 78 rfl) ?_
  exact zco_vret rfl rfl rfl (zdk (cc := cX12_codesTold) (q := (141, .return_, 1)) tkX12_codesTold 79 rfl)
def X12_codesTold_B92 (v0 : Nat) (v1 : Int32) (r92 : Int32 → zM) (v3 : Int32) : zM := z_gi 12 105 v0 fun x1 => z_if (x1 ≤ v3) (X12_codesTold_J131 v0 v1)
   (z_gr 12 48 v0 fun x2 => z_gi 12 49 v0 fun x3 => z_gr 12 104 v0 fun x4 => z_la 20 x4 v3 fun x5 => z_sa 20 x2 x3 x5 (z_gi 12 49 v0 fun x6 => z_pi 12 49 v0 (x6 + 1) (r92 (v3 + 1))))
set_option maxHeartbeats 2000000 in
set_option maxRecDepth 20000 in
theorem coX12_codesTold_B92 (l : Launch) (e : Nat) (he : 9 ≤ e) (v0 : Nat) (v1 : Int32) (r92 : Int32 → zM) (hr92 : ∀ x : Int32, zCo l (e + 1) 0 0 iX12_codesTold 92 [(0, .ref v0), (1, .int v1), (3, .int x)] [] (r92 x)) (v3 : Int32) : zCo l (e + 1) 0 0 iX12_codesTold 92 [(0, .ref v0), (1, .int v1), (3, .int v3)] [] (X12_codesTold_B92 v0 v1 r92 v3) := by
  unfold X12_codesTold_B92
  refine zco_p tkX12_codesTold 52 2 (pc' := 94) (L' := [(0, .ref v0), (1, .int v1), (3, .int v3)]) (S' := [.ref v0, .int v3]) rfl ?_
  refine zco_gi fl_12_353 rfl (zdk (cc := cX12_codesTold) (q := (94, .getfield 353, 3)) tkX12_codesTold 54 rfl) (fun x1 => ?_)
  refine zco_icmp_ge (tgt := 131) (zdk (cc := cX12_codesTold) (q := (97, .if_icmp .ge 34, 3)) tkX12_codesTold 55 rfl) rfl ?_ ?_
  · exact zco_sub [0, 1] rfl (coX12_codesTold_J131 l e he v0 v1)
  · refine zco_p tkX12_codesTold 56 1 (pc' := 101) (L' := [(0, .ref v0), (1, .int v1), (3, .int v3)]) (S' := [.ref v0]) rfl ?_
    refine zco_gr fl_12_131 rfl (zdk (cc := cX12_codesTold) (q := (101, .getfield 131, 3)) tkX12_codesTold 57 rfl) (fun x2 => ?_)
    refine zco_p tkX12_codesTold 58 1 (pc' := 105) (L' := [(0, .ref v0), (1, .int v1), (3, .int v3)]) (S' := [.ref v0, .ref x2]) rfl ?_
    refine zco_gi fl_12_371 rfl (zdk (cc := cX12_codesTold) (q := (105, .getfield 371, 3)) tkX12_codesTold 59 rfl) (fun x3 => ?_)
    refine zco_p tkX12_codesTold 60 1 (pc' := 109) (L' := [(0, .ref v0), (1, .int v1), (3, .int v3)]) (S' := [.ref v0, .int x3, .ref x2]) rfl ?_
    refine zco_gr fl_12_255 rfl (zdk (cc := cX12_codesTold) (q := (109, .getfield 255, 3)) tkX12_codesTold 61 rfl) (fun x4 => ?_)
    refine zco_p tkX12_codesTold 62 1 (pc' := 113) (L' := [(0, .ref v0), (1, .int v1), (3, .int v3)]) (S' := [.int v3, .ref x4, .int x3, .ref x2]) rfl ?_
    refine zco_iaload (zdk (cc := cX12_codesTold) (q := (113, .iaload, 1)) tkX12_codesTold 63 rfl) (fun x5 => ?_)
    refine zco_iastore (zdk (cc := cX12_codesTold) (q := (114, .iastore, 1)) tkX12_codesTold 64 rfl) ?_
    refine zco_p tkX12_codesTold 65 2 (pc' := 117) (L' := [(0, .ref v0), (1, .int v1), (3, .int v3)]) (S' := [.ref v0, .ref v0]) rfl ?_
    refine zco_gi fl_12_371 rfl (zdk (cc := cX12_codesTold) (q := (117, .getfield 371, 3)) tkX12_codesTold 67 rfl) (fun x6 => ?_)
    refine zco_p tkX12_codesTold 68 2 (pc' := 122) (L' := [(0, .ref v0), (1, .int v1), (3, .int v3)]) (S' := [.int (x6 + 1), .ref v0]) rfl ?_
    refine zco_pi fl_12_371 rfl rfl (zdk (cc := cX12_codesTold) (q := (122, .putfield 371, 3)) tkX12_codesTold 70 rfl) ?_
    refine zco_p tkX12_codesTold 71 2 (pc' := 92) (L' := [(3, .int (v3 + 1)), (0, .ref v0), (1, .int v1)]) (S' := []) rfl ?_
    exact zco_sub [1, 2, 0] rfl (hr92 (v3 + 1))
def X12_codesTold_J72 (v0 : Nat) (v1 : Int32) : zM := z_gi 12 5 v0 fun x1 => z_if (x1 = 0) (z_gr 12 46 v0 fun x2 => z_gi 12 49 v0 fun x3 => z_sa 20 x2 v1 x3 (z_fix (fun r x => X12_codesTold_B92 v0 v1 r x) zFU 0))
   (z_ret none)
set_option maxHeartbeats 2000000 in
set_option maxRecDepth 20000 in
theorem coX12_codesTold_J72 (l : Launch) (e : Nat) (he : 9 ≤ e) (v0 : Nat) (v1 : Int32) : zCo l (e + 1) 0 0 iX12_codesTold 72 [(0, .ref v0), (1, .int v1)] [] (X12_codesTold_J72 v0 v1) := by
  unfold X12_codesTold_J72
  refine zco_p tkX12_codesTold 40 1 (pc' := 73) (L' := [(0, .ref v0), (1, .int v1)]) (S' := [.ref v0]) rfl ?_
  refine zco_gi fl_12_270 rfl (zdk (cc := cX12_codesTold) (q := (73, .getfield 270, 3)) tkX12_codesTold 41 rfl) (fun x1 => ?_)
  refine zco_if_eq (tgt := 80) (zdk (cc := cX12_codesTold) (q := (76, .ifCond .eq 4, 3)) tkX12_codesTold 42 rfl) rfl ?_ ?_
  · refine zco_p tkX12_codesTold 44 1 (pc' := 81) (L' := [(0, .ref v0), (1, .int v1)]) (S' := [.ref v0]) rfl ?_
    refine zco_gr fl_12_125 rfl (zdk (cc := cX12_codesTold) (q := (81, .getfield 125, 3)) tkX12_codesTold 45 rfl) (fun x2 => ?_)
    refine zco_p tkX12_codesTold 46 2 (pc' := 86) (L' := [(0, .ref v0), (1, .int v1)]) (S' := [.ref v0, .int v1, .ref x2]) rfl ?_
    refine zco_gi fl_12_371 rfl (zdk (cc := cX12_codesTold) (q := (86, .getfield 371, 3)) tkX12_codesTold 48 rfl) (fun x3 => ?_)
    refine zco_iastore (zdk (cc := cX12_codesTold) (q := (89, .iastore, 1)) tkX12_codesTold 49 rfl) ?_
    refine zco_p tkX12_codesTold 50 2 (pc' := 92) (L' := [(3, .int 0), (0, .ref v0), (1, .int v1)]) (S' := []) rfl ?_
    exact zco_sub [1, 2, 0] rfl (zco_fix (Lf := fun x : Int32 => [(0, .ref v0), (1, .int v1), (3, .int x)]) (Sf := fun _ => []) (fun r hr x => coX12_codesTold_B92 l e he v0 v1 r hr x) zFU 0)
  · exact zco_vret rfl rfl rfl (zdk (cc := cX12_codesTold) (q := (79, .return_, 1)) tkX12_codesTold 43 rfl)
def X12_codesTold_J23 (v0 : Nat) (v1 : Int32) : zM := z_gi 12 5 v0 fun x1 => z_if (x1 = 0) (z_pi 12 51 v0 v1 (z_pi 12 105 v0 0 (z_pi 12 107 v0 0 (z_pi 12 108 v0 0 (z_pi 12 109 v0 0 (z_if (v1 = 1) (z_rc 12 v0 (z_cv (X12_qTest v0) (X12_codesTold_J72 v0 v1)))
   (z_rc 12 v0 (z_cv (X12_qSums v0) (X12_codesTold_J72 v0 v1)))))))))
   (z_ret none)
set_option maxHeartbeats 2000000 in
set_option maxRecDepth 20000 in
theorem coX12_codesTold_J23 (l : Launch) (e : Nat) (he : 9 ≤ e) (v0 : Nat) (v1 : Int32) : zCo l (e + 1) 0 0 iX12_codesTold 23 [(0, .ref v0), (1, .int v1)] [] (X12_codesTold_J23 v0 v1) := by
  unfold X12_codesTold_J23
  refine zco_p tkX12_codesTold 13 1 (pc' := 24) (L' := [(0, .ref v0), (1, .int v1)]) (S' := [.ref v0]) rfl ?_
  refine zco_gi fl_12_270 rfl (zdk (cc := cX12_codesTold) (q := (24, .getfield 270, 3)) tkX12_codesTold 14 rfl) (fun x1 => ?_)
  refine zco_if_eq (tgt := 31) (zdk (cc := cX12_codesTold) (q := (27, .ifCond .eq 4, 3)) tkX12_codesTold 15 rfl) rfl ?_ ?_
  · refine zco_p tkX12_codesTold 17 2 (pc' := 33) (L' := [(0, .ref v0), (1, .int v1)]) (S' := [.int v1, .ref v0]) rfl ?_
    refine zco_pi fl_12_328 rfl rfl (zdk (cc := cX12_codesTold) (q := (33, .putfield 328, 3)) tkX12_codesTold 19 rfl) ?_
    refine zco_p tkX12_codesTold 20 2 (pc' := 38) (L' := [(0, .ref v0), (1, .int v1)]) (S' := [.int 0, .ref v0]) rfl ?_
    refine zco_pi fl_12_353 rfl rfl (zdk (cc := cX12_codesTold) (q := (38, .putfield 353, 3)) tkX12_codesTold 22 rfl) ?_
    refine zco_p tkX12_codesTold 23 2 (pc' := 43) (L' := [(0, .ref v0), (1, .int v1)]) (S' := [.int 0, .ref v0]) rfl ?_
    refine zco_pi fl_12_356 rfl rfl (zdk (cc := cX12_codesTold) (q := (43, .putfield 356, 3)) tkX12_codesTold 25 rfl) ?_
    refine zco_p tkX12_codesTold 26 2 (pc' := 48) (L' := [(0, .ref v0), (1, .int v1)]) (S' := [.int 0, .ref v0]) rfl ?_
    refine zco_pi fl_12_359 rfl rfl (zdk (cc := cX12_codesTold) (q := (48, .putfield 359, 3)) tkX12_codesTold 28 rfl) ?_
    refine zco_p tkX12_codesTold 29 2 (pc' := 53) (L' := [(0, .ref v0), (1, .int v1)]) (S' := [.int 0, .ref v0]) rfl ?_
    refine zco_pi fl_12_362 rfl rfl (zdk (cc := cX12_codesTold) (q := (53, .putfield 362, 3)) tkX12_codesTold 31 rfl) ?_
    refine zco_p tkX12_codesTold 32 2 (pc' := 58) (L' := [(0, .ref v0), (1, .int v1)]) (S' := [.int 1, .int v1]) rfl ?_
    refine zco_icmp_ne (tgt := 68) (zdk (cc := cX12_codesTold) (q := (58, .if_icmp .ne 10, 3)) tkX12_codesTold 34 rfl) rfl ?_ ?_
    · refine zco_p tkX12_codesTold 38 1 (pc' := 69) (L' := [(0, .ref v0), (1, .int v1)]) (S' := [.ref v0]) rfl ?_
      refine zco_Vv (rc := 0) (rs := 0) (mc := 0) (ms := 0) (As := []) (S := []) vmX12_qSums (mtX12_qSums l e (by omega) v0) q_1832 rfl rfl (Nat.le_of_ble_eq_true rfl) (zdk (cc := cX12_codesTold) (q := (69, .invokevirtual 368, 3)) tkX12_codesTold 39 rfl) ?_
      exact zco_sub [0, 1] rfl (coX12_codesTold_J72 l e he v0 v1)
    · refine zco_p tkX12_codesTold 35 1 (pc' := 62) (L' := [(0, .ref v0), (1, .int v1)]) (S' := [.ref v0]) rfl ?_
      refine zco_Vv (rc := 0) (rs := 0) (mc := 0) (ms := 0) (As := []) (S := []) vmX12_qTest (mtX12_qTest l e (by omega) v0) q_1816 rfl rfl (Nat.le_of_ble_eq_true rfl) (zdk (cc := cX12_codesTold) (q := (62, .invokevirtual 365, 3)) tkX12_codesTold 36 rfl) ?_
      refine zco_p tkX12_codesTold 37 1 (pc' := 72) (L' := [(0, .ref v0), (1, .int v1)]) (S' := []) rfl ?_
      exact zco_sub [0, 1] rfl (coX12_codesTold_J72 l e he v0 v1)
  · exact zco_vret rfl rfl rfl (zdk (cc := cX12_codesTold) (q := (30, .return_, 1)) tkX12_codesTold 16 rfl)
def X12_codesTold (v0 : Nat) (v1 : Int32) (v2 : Int32) : zM := z_gi 12 5 v0 fun x1 => z_if (x1 = 0) (z_gr 12 46 v0 fun x2 => z_la 20 x2 v1 fun x3 => z_if (x3 = ((-1))) (X12_codesTold_J23 v0 v1)
   (z_rc 12 v0 (z_cv (X12_fail v0 5 v2) (X12_codesTold_J23 v0 v1))))
   (X12_codesTold_J23 v0 v1)
set_option maxHeartbeats 2000000 in
set_option maxRecDepth 20000 in
theorem coX12_codesTold (l : Launch) (e : Nat) (he : 9 ≤ e) (v0 : Nat) (v1 : Int32) (v2 : Int32) : zCo l (e + 1) 0 0 iX12_codesTold 0 [(0, .ref v0), (1, .int v1), (2, .int v2)] [] (X12_codesTold v0 v1 v2) := by
  unfold X12_codesTold
  refine zco_p tkX12_codesTold 0 1 (pc' := 1) (L' := [(0, .ref v0), (1, .int v1), (2, .int v2)]) (S' := [.ref v0]) rfl ?_
  refine zco_gi fl_12_270 rfl (zdk (cc := cX12_codesTold) (q := (1, .getfield 270, 3)) tkX12_codesTold 1 rfl) (fun x1 => ?_)
  refine zco_if_ne (tgt := 23) (zdk (cc := cX12_codesTold) (q := (4, .ifCond .ne 19, 3)) tkX12_codesTold 2 rfl) rfl ?_ ?_
  · exact zco_sub [0, 1] rfl (coX12_codesTold_J23 l e he v0 v1)
  · refine zco_p tkX12_codesTold 3 1 (pc' := 8) (L' := [(0, .ref v0), (1, .int v1), (2, .int v2)]) (S' := [.ref v0]) rfl ?_
    refine zco_gr fl_12_125 rfl (zdk (cc := cX12_codesTold) (q := (8, .getfield 125, 3)) tkX12_codesTold 4 rfl) (fun x2 => ?_)
    refine zco_p tkX12_codesTold 5 1 (pc' := 12) (L' := [(0, .ref v0), (1, .int v1), (2, .int v2)]) (S' := [.int v1, .ref x2]) rfl ?_
    refine zco_iaload (zdk (cc := cX12_codesTold) (q := (12, .iaload, 1)) tkX12_codesTold 6 rfl) (fun x3 => ?_)
    refine zco_p tkX12_codesTold 7 1 (pc' := 14) (L' := [(0, .ref v0), (1, .int v1), (2, .int v2)]) (S' := [.int ((-1)), .int x3]) rfl ?_
    refine zco_icmp_eq (tgt := 23) (zdk (cc := cX12_codesTold) (q := (14, .if_icmp .eq 9, 3)) tkX12_codesTold 8 rfl) rfl ?_ ?_
    · exact zco_sub [0, 1] rfl (coX12_codesTold_J23 l e he v0 v1)
    · refine zco_p tkX12_codesTold 9 3 (pc' := 20) (L' := [(0, .ref v0), (1, .int v1), (2, .int v2)]) (S' := [.int v2, .int 5, .ref v0]) rfl ?_
      refine zco_Vv (rc := 0) (rs := 0) (mc := 0) (ms := 0) (As := [.int 5, .int v2]) (S := []) vmX12_fail (mtX12_fail l e (by omega) v0 5 v2) q_1757 rfl rfl (Nat.le_of_ble_eq_true rfl) (zdk (cc := cX12_codesTold) (q := (20, .invokevirtual 300, 3)) tkX12_codesTold 12 rfl) ?_
      exact zco_sub [0, 1] rfl (coX12_codesTold_J23 l e he v0 v1)
theorem mtX12_codesTold (l : Launch) (d : Nat) (hd : 10 ≤ d) (v0 : Nat) (v1 : Int32) (v2 : Int32) : zMet l d 0 0 yX12_codesTold cX12_codesTold 4 (Option.none : Option FieldType) [.ref v0, .int v1, .int v2] (X12_codesTold v0 v1 v2) := by
  obtain ⟨e, rfl⟩ : ∃ e, d = e + 1 := ⟨d - 1, by omega⟩
  exact zmet_of (own := RX12) (ini := false) (by decide +kernel) rfl (fun _ => by contradiction) (Nat.le_of_ble_eq_true rfl) (coX12_codesTold l e (by omega) v0 v1 v2)
abbrev iX12_statementTold : zI := (RX12, cX12_statementTold, 2, (Option.none : Option FieldType), false)
def tX12_statementTold : List (Nat × Instr × Nat) := [(0, .aload_n 0, 1), (1, .getfield 276, 3), (4, .istore_n 1, 1), (5, .aload_n 0, 1), (6, .getfield 374, 3), (9, .bipush 60, 2), (11, .if_icmp .ne 10, 3), (14, .aload_n 0, 1), (15, .iconst 5, 1), (16, .iload_n 1, 1), (17, .invokevirtual 300, 3), (20, .return_, 1), (21, .aload_n 0, 1), (22, .aload_n 0, 1), (23, .getfield 20, 3), (26, .invokevirtual 297, 3), (29, .ifCond .eq 12, 3), (32, .aload_n 0, 1), (33, .iconst 0, 1), (34, .iload_n 1, 1), (35, .invokevirtual 377, 3), (38, .goto 193, 3), (41, .aload_n 0, 1), (42, .aload_n 0, 1), (43, .getfield 24, 3), (46, .invokevirtual 297, 3), (49, .ifCond .eq 12, 3), (52, .aload_n 0, 1), (53, .iconst 1, 1), (54, .iload_n 1, 1), (55, .invokevirtual 377, 3), (58, .goto 173, 3), (61, .aload_n 0, 1), (62, .aload_n 0, 1), (63, .getfield 36, 3), (66, .invokevirtual 297, 3), (69, .ifCond .eq 10, 3), (72, .aload_n 0, 1), (73, .invokevirtual 380, 3), (76, .goto 155, 3), (79, .aload_n 0, 1), (80, .aload_n 0, 1), (81, .getfield 39, 3), (84, .invokevirtual 297, 3), (87, .ifCond .eq 14, 3), (90, .aload_n 0, 1), (91, .aload_n 0, 1), (92, .getfield 119, 3), (95, .invokevirtual 383, 3), (98, .goto 133, 3), (101, .aload_n 0, 1), (102, .aload_n 0, 1), (103, .getfield 42, 3), (106, .invokevirtual 297, 3), (109, .ifCond .eq 14, 3), (112, .aload_n 0, 1), (113, .aload_n 0, 1), (114, .getfield 122, 3), (117, .invokevirtual 383, 3), (120, .goto 111, 3), (123, .aload_n 0, 1), (124, .aload_n 0, 1), (125, .getfield 45, 3), (128, .invokevirtual 297, 3), (131, .ifCond .eq 19, 3), (134, .aload_n 0, 1), (135, .getfield 105, 3), (138, .iconst 3, 1), (139, .aload_n 0, 1), (140, .iconst 1, 1), (141, .bipush 12, 2), (143, .invokevirtual 345, 3), (146, .iastore, 1), (147, .goto 84, 3), (150, .aload_n 0, 1), (151, .aload_n 0, 1), (152, .getfield 48, 3), (155, .invokevirtual 297, 3), (158, .ifCond .eq 12, 3), (161, .aload_n 0, 1), (162, .iconst 0, 1), (163, .iload_n 1, 1), (164, .invokevirtual 387, 3), (167, .goto 64, 3), (170, .aload_n 0, 1), (171, .aload_n 0, 1), (172, .getfield 51, 3), (175, .invokevirtual 297, 3), (178, .ifCond .eq 12, 3), (181, .aload_n 0, 1), (182, .iconst 1, 1), (183, .iload_n 1, 1), (184, .invokevirtual 387, 3), (187, .goto 44, 3), (190, .aload_n 0, 1), (191, .aload_n 0, 1), (192, .getfield 54, 3), (195, .invokevirtual 297, 3), (198, .ifCond .eq 12, 3), (201, .aload_n 0, 1), (202, .iconst 2, 1), (203, .iload_n 1, 1), (204, .invokevirtual 387, 3), (207, .goto 24, 3), (210, .aload_n 0, 1), (211, .aload_n 0, 1), (212, .getfield 57, 3), (215, .invokevirtual 341, 3), (218, .aload_n 0, 1), (219, .getfield 105, 3), (222, .iconst 4, 1), (223, .aload_n 0, 1), (224, .iconst 0, 1), (225, .bipush 100, 2), (227, .invokevirtual 345, 3), (230, .iastore, 1), (231, .aload_n 0, 1), (232, .bipush 59, 2), (234, .invokevirtual 390, 3), (237, .aload_n 0, 1), (238, .dup, 1), (239, .getfield 374, 3), (242, .iconst 1, 1), (243, .iadd, 1), (244, .putfield 374, 3), (247, .return_, 1)]
set_option maxRecDepth 100000 in
theorem tkX12_statementTold : ∀ q ∈ tX12_statementTold, decode cX12_statementTold q.1 = .ok q.2 := by decide +kernel
theorem vmX12_statementTold : zVM yX12_statementTold cX12_statementTold 2 (Option.none : Option FieldType) 0 12 := ⟨kX12_statementTold, q_1755, q_46, q_160, ⟨_, rfl, rfl⟩, by decide +kernel, by decide⟩
def X12_statementTold_J231 (v0 : Nat) : zM := z_rc 12 v0 (z_cv (X12_asksSign v0 59) (z_gi 12 50 v0 fun x1 => z_pi 12 50 v0 (x1 + 1) (z_ret none)))
set_option maxHeartbeats 2000000 in
set_option maxRecDepth 20000 in
theorem coX12_statementTold_J231 (l : Launch) (e : Nat) (he : 10 ≤ e) (v0 : Nat) : zCo l (e + 1) 0 0 iX12_statementTold 231 [(0, .ref v0)] [] (X12_statementTold_J231 v0) := by
  unfold X12_statementTold_J231
  refine zco_p tkX12_statementTold 116 2 (pc' := 234) (L' := [(0, .ref v0)]) (S' := [.int 59, .ref v0]) rfl ?_
  refine zco_Vv (rc := 0) (rs := 0) (mc := 0) (ms := 0) (As := [.int 59]) (S := []) vmX12_asksSign (mtX12_asksSign l e (by omega) v0 59) q_1855 rfl rfl (Nat.le_of_ble_eq_true rfl) (zdk (cc := cX12_statementTold) (q := (234, .invokevirtual 390, 3)) tkX12_statementTold 118 rfl) ?_
  refine zco_p tkX12_statementTold 119 2 (pc' := 239) (L' := [(0, .ref v0)]) (S' := [.ref v0, .ref v0]) rfl ?_
  refine zco_gi fl_12_374 rfl (zdk (cc := cX12_statementTold) (q := (239, .getfield 374, 3)) tkX12_statementTold 121 rfl) (fun x1 => ?_)
  refine zco_p tkX12_statementTold 122 2 (pc' := 244) (L' := [(0, .ref v0)]) (S' := [.int (x1 + 1), .ref v0]) rfl ?_
  refine zco_pi fl_12_374 rfl rfl (zdk (cc := cX12_statementTold) (q := (244, .putfield 374, 3)) tkX12_statementTold 124 rfl) ?_
  exact zco_vret rfl rfl rfl (zdk (cc := cX12_statementTold) (q := (247, .return_, 1)) tkX12_statementTold 125 rfl)
def X12_statementTold (v0 : Nat) : zM := z_gi 12 2 v0 fun x1 => z_gi 12 50 v0 fun x2 => z_if (x2 = 60) (z_rc 12 v0 (z_cv (X12_fail v0 5 x1) (z_ret none)))
   (z_gr 12 11 v0 fun x3 => z_rc 12 v0 (z_ci (X12_takes v0 x3) fun y4 => z_if (y4 = 0) (z_gr 12 12 v0 fun x5 => z_rc 12 v0 (z_ci (X12_takes v0 x5) fun y6 => z_if (y6 = 0) (z_gr 12 16 v0 fun x7 => z_rc 12 v0 (z_ci (X12_takes v0 x7) fun y8 => z_if (y8 = 0) (z_gr 12 17 v0 fun x9 => z_rc 12 v0 (z_ci (X12_takes v0 x9) fun y10 => z_if (y10 = 0) (z_gr 12 18 v0 fun x11 => z_rc 12 v0 (z_ci (X12_takes v0 x11) fun y12 => z_if (y12 = 0) (z_gr 12 19 v0 fun x13 => z_rc 12 v0 (z_ci (X12_takes v0 x13) fun y14 => z_if (y14 = 0) (z_gr 12 20 v0 fun x15 => z_rc 12 v0 (z_ci (X12_takes v0 x15) fun y16 => z_if (y16 = 0) (z_gr 12 21 v0 fun x17 => z_rc 12 v0 (z_ci (X12_takes v0 x17) fun y18 => z_if (y18 = 0) (z_gr 12 22 v0 fun x19 => z_rc 12 v0 (z_ci (X12_takes v0 x19) fun y20 => z_if (y20 = 0) (z_gr 12 23 v0 fun x21 => z_rc 12 v0 (z_cv (X12_asks v0 x21) (z_gr 12 40 v0 fun x22 => z_rc 12 v0 (z_ci (X12_number v0 0 100) fun y23 => z_sa 20 x22 4 y23 (X12_statementTold_J231 v0)))))
   (z_rc 12 v0 (z_cv (X12_codesTold v0 2 x1) (X12_statementTold_J231 v0)))))
   (z_rc 12 v0 (z_cv (X12_codesTold v0 1 x1) (X12_statementTold_J231 v0)))))
   (z_rc 12 v0 (z_cv (X12_codesTold v0 0 x1) (X12_statementTold_J231 v0)))))
   (z_gr 12 40 v0 fun x24 => z_rc 12 v0 (z_ci (X12_number v0 1 12) fun y25 => z_sa 20 x24 3 y25 (X12_statementTold_J231 v0)))))
   (z_gr 12 45 v0 fun x26 => z_rc 12 v0 (z_cv (X12_feltTold v0 x26) (X12_statementTold_J231 v0)))))
   (z_gr 12 44 v0 fun x27 => z_rc 12 v0 (z_cv (X12_feltTold v0 x27) (X12_statementTold_J231 v0)))))
   (z_rc 12 v0 (z_cv (X12_kinTold v0) (X12_statementTold_J231 v0)))))
   (z_rc 12 v0 (z_cv (X12_oneTold v0 1 x1) (X12_statementTold_J231 v0)))))
   (z_rc 12 v0 (z_cv (X12_oneTold v0 0 x1) (X12_statementTold_J231 v0)))))
set_option maxHeartbeats 2000000 in
set_option maxRecDepth 20000 in
theorem coX12_statementTold (l : Launch) (e : Nat) (he : 10 ≤ e) (v0 : Nat) : zCo l (e + 1) 0 0 iX12_statementTold 0 [(0, .ref v0)] [] (X12_statementTold v0) := by
  unfold X12_statementTold
  refine zco_p tkX12_statementTold 0 1 (pc' := 1) (L' := [(0, .ref v0)]) (S' := [.ref v0]) rfl ?_
  refine zco_gi fl_12_276 rfl (zdk (cc := cX12_statementTold) (q := (1, .getfield 276, 3)) tkX12_statementTold 1 rfl) (fun x1 => ?_)
  refine zco_p tkX12_statementTold 2 2 (pc' := 6) (L' := [(1, .int x1), (0, .ref v0)]) (S' := [.ref v0]) rfl ?_
  refine zco_gi fl_12_374 rfl (zdk (cc := cX12_statementTold) (q := (6, .getfield 374, 3)) tkX12_statementTold 4 rfl) (fun x2 => ?_)
  refine zco_p tkX12_statementTold 5 1 (pc' := 11) (L' := [(1, .int x1), (0, .ref v0)]) (S' := [.int 60, .int x2]) rfl ?_
  refine zco_icmp_ne (tgt := 21) (zdk (cc := cX12_statementTold) (q := (11, .if_icmp .ne 10, 3)) tkX12_statementTold 6 rfl) rfl ?_ ?_
  · refine zco_p tkX12_statementTold 12 2 (pc' := 23) (L' := [(1, .int x1), (0, .ref v0)]) (S' := [.ref v0, .ref v0]) rfl ?_
    refine zco_gr fl_12_20 rfl (zdk (cc := cX12_statementTold) (q := (23, .getfield 20, 3)) tkX12_statementTold 14 rfl) (fun x3 => ?_)
    refine zco_Vi (rc := 0) (rs := 0) (mc := 0) (ms := 0) (As := [.ref x3]) (S := []) vmX12_takes (mtX12_takes l e (by omega) v0 x3) q_1761 rfl rfl (Nat.le_of_ble_eq_true rfl) (zdk (cc := cX12_statementTold) (q := (26, .invokevirtual 297, 3)) tkX12_statementTold 15 rfl) (fun y4 => ?_)
    refine zco_if_eq (tgt := 41) (zdk (cc := cX12_statementTold) (q := (29, .ifCond .eq 12, 3)) tkX12_statementTold 16 rfl) rfl ?_ ?_
    · refine zco_p tkX12_statementTold 22 2 (pc' := 43) (L' := [(1, .int x1), (0, .ref v0)]) (S' := [.ref v0, .ref v0]) rfl ?_
      refine zco_gr fl_12_24 rfl (zdk (cc := cX12_statementTold) (q := (43, .getfield 24, 3)) tkX12_statementTold 24 rfl) (fun x5 => ?_)
      refine zco_Vi (rc := 0) (rs := 0) (mc := 0) (ms := 0) (As := [.ref x5]) (S := []) vmX12_takes (mtX12_takes l e (by omega) v0 x5) q_1761 rfl rfl (Nat.le_of_ble_eq_true rfl) (zdk (cc := cX12_statementTold) (q := (46, .invokevirtual 297, 3)) tkX12_statementTold 25 rfl) (fun y6 => ?_)
      refine zco_if_eq (tgt := 61) (zdk (cc := cX12_statementTold) (q := (49, .ifCond .eq 12, 3)) tkX12_statementTold 26 rfl) rfl ?_ ?_
      · refine zco_p tkX12_statementTold 32 2 (pc' := 63) (L' := [(1, .int x1), (0, .ref v0)]) (S' := [.ref v0, .ref v0]) rfl ?_
        refine zco_gr fl_12_36 rfl (zdk (cc := cX12_statementTold) (q := (63, .getfield 36, 3)) tkX12_statementTold 34 rfl) (fun x7 => ?_)
        refine zco_Vi (rc := 0) (rs := 0) (mc := 0) (ms := 0) (As := [.ref x7]) (S := []) vmX12_takes (mtX12_takes l e (by omega) v0 x7) q_1761 rfl rfl (Nat.le_of_ble_eq_true rfl) (zdk (cc := cX12_statementTold) (q := (66, .invokevirtual 297, 3)) tkX12_statementTold 35 rfl) (fun y8 => ?_)
        refine zco_if_eq (tgt := 79) (zdk (cc := cX12_statementTold) (q := (69, .ifCond .eq 10, 3)) tkX12_statementTold 36 rfl) rfl ?_ ?_
        · refine zco_p tkX12_statementTold 40 2 (pc' := 81) (L' := [(1, .int x1), (0, .ref v0)]) (S' := [.ref v0, .ref v0]) rfl ?_
          refine zco_gr fl_12_39 rfl (zdk (cc := cX12_statementTold) (q := (81, .getfield 39, 3)) tkX12_statementTold 42 rfl) (fun x9 => ?_)
          refine zco_Vi (rc := 0) (rs := 0) (mc := 0) (ms := 0) (As := [.ref x9]) (S := []) vmX12_takes (mtX12_takes l e (by omega) v0 x9) q_1761 rfl rfl (Nat.le_of_ble_eq_true rfl) (zdk (cc := cX12_statementTold) (q := (84, .invokevirtual 297, 3)) tkX12_statementTold 43 rfl) (fun y10 => ?_)
          refine zco_if_eq (tgt := 101) (zdk (cc := cX12_statementTold) (q := (87, .ifCond .eq 14, 3)) tkX12_statementTold 44 rfl) rfl ?_ ?_
          · refine zco_p tkX12_statementTold 50 2 (pc' := 103) (L' := [(1, .int x1), (0, .ref v0)]) (S' := [.ref v0, .ref v0]) rfl ?_
            refine zco_gr fl_12_42 rfl (zdk (cc := cX12_statementTold) (q := (103, .getfield 42, 3)) tkX12_statementTold 52 rfl) (fun x11 => ?_)
            refine zco_Vi (rc := 0) (rs := 0) (mc := 0) (ms := 0) (As := [.ref x11]) (S := []) vmX12_takes (mtX12_takes l e (by omega) v0 x11) q_1761 rfl rfl (Nat.le_of_ble_eq_true rfl) (zdk (cc := cX12_statementTold) (q := (106, .invokevirtual 297, 3)) tkX12_statementTold 53 rfl) (fun y12 => ?_)
            refine zco_if_eq (tgt := 123) (zdk (cc := cX12_statementTold) (q := (109, .ifCond .eq 14, 3)) tkX12_statementTold 54 rfl) rfl ?_ ?_
            · refine zco_p tkX12_statementTold 60 2 (pc' := 125) (L' := [(1, .int x1), (0, .ref v0)]) (S' := [.ref v0, .ref v0]) rfl ?_
              refine zco_gr fl_12_45 rfl (zdk (cc := cX12_statementTold) (q := (125, .getfield 45, 3)) tkX12_statementTold 62 rfl) (fun x13 => ?_)
              refine zco_Vi (rc := 0) (rs := 0) (mc := 0) (ms := 0) (As := [.ref x13]) (S := []) vmX12_takes (mtX12_takes l e (by omega) v0 x13) q_1761 rfl rfl (Nat.le_of_ble_eq_true rfl) (zdk (cc := cX12_statementTold) (q := (128, .invokevirtual 297, 3)) tkX12_statementTold 63 rfl) (fun y14 => ?_)
              refine zco_if_eq (tgt := 150) (zdk (cc := cX12_statementTold) (q := (131, .ifCond .eq 19, 3)) tkX12_statementTold 64 rfl) rfl ?_ ?_
              · refine zco_p tkX12_statementTold 74 2 (pc' := 152) (L' := [(1, .int x1), (0, .ref v0)]) (S' := [.ref v0, .ref v0]) rfl ?_
                refine zco_gr fl_12_48 rfl (zdk (cc := cX12_statementTold) (q := (152, .getfield 48, 3)) tkX12_statementTold 76 rfl) (fun x15 => ?_)
                refine zco_Vi (rc := 0) (rs := 0) (mc := 0) (ms := 0) (As := [.ref x15]) (S := []) vmX12_takes (mtX12_takes l e (by omega) v0 x15) q_1761 rfl rfl (Nat.le_of_ble_eq_true rfl) (zdk (cc := cX12_statementTold) (q := (155, .invokevirtual 297, 3)) tkX12_statementTold 77 rfl) (fun y16 => ?_)
                refine zco_if_eq (tgt := 170) (zdk (cc := cX12_statementTold) (q := (158, .ifCond .eq 12, 3)) tkX12_statementTold 78 rfl) rfl ?_ ?_
                · refine zco_p tkX12_statementTold 84 2 (pc' := 172) (L' := [(1, .int x1), (0, .ref v0)]) (S' := [.ref v0, .ref v0]) rfl ?_
                  refine zco_gr fl_12_51 rfl (zdk (cc := cX12_statementTold) (q := (172, .getfield 51, 3)) tkX12_statementTold 86 rfl) (fun x17 => ?_)
                  refine zco_Vi (rc := 0) (rs := 0) (mc := 0) (ms := 0) (As := [.ref x17]) (S := []) vmX12_takes (mtX12_takes l e (by omega) v0 x17) q_1761 rfl rfl (Nat.le_of_ble_eq_true rfl) (zdk (cc := cX12_statementTold) (q := (175, .invokevirtual 297, 3)) tkX12_statementTold 87 rfl) (fun y18 => ?_)
                  refine zco_if_eq (tgt := 190) (zdk (cc := cX12_statementTold) (q := (178, .ifCond .eq 12, 3)) tkX12_statementTold 88 rfl) rfl ?_ ?_
                  · refine zco_p tkX12_statementTold 94 2 (pc' := 192) (L' := [(1, .int x1), (0, .ref v0)]) (S' := [.ref v0, .ref v0]) rfl ?_
                    refine zco_gr fl_12_54 rfl (zdk (cc := cX12_statementTold) (q := (192, .getfield 54, 3)) tkX12_statementTold 96 rfl) (fun x19 => ?_)
                    refine zco_Vi (rc := 0) (rs := 0) (mc := 0) (ms := 0) (As := [.ref x19]) (S := []) vmX12_takes (mtX12_takes l e (by omega) v0 x19) q_1761 rfl rfl (Nat.le_of_ble_eq_true rfl) (zdk (cc := cX12_statementTold) (q := (195, .invokevirtual 297, 3)) tkX12_statementTold 97 rfl) (fun y20 => ?_)
                    refine zco_if_eq (tgt := 210) (zdk (cc := cX12_statementTold) (q := (198, .ifCond .eq 12, 3)) tkX12_statementTold 98 rfl) rfl ?_ ?_
                    · refine zco_p tkX12_statementTold 104 2 (pc' := 212) (L' := [(1, .int x1), (0, .ref v0)]) (S' := [.ref v0, .ref v0]) rfl ?_
                      refine zco_gr fl_12_57 rfl (zdk (cc := cX12_statementTold) (q := (212, .getfield 57, 3)) tkX12_statementTold 106 rfl) (fun x21 => ?_)
                      refine zco_Vv (rc := 0) (rs := 0) (mc := 0) (ms := 0) (As := [.ref x21]) (S := []) vmX12_asks (mtX12_asks l e (by omega) v0 x21) q_1786 rfl rfl (Nat.le_of_ble_eq_true rfl) (zdk (cc := cX12_statementTold) (q := (215, .invokevirtual 341, 3)) tkX12_statementTold 107 rfl) ?_
                      refine zco_p tkX12_statementTold 108 1 (pc' := 219) (L' := [(1, .int x1), (0, .ref v0)]) (S' := [.ref v0]) rfl ?_
                      refine zco_gr fl_12_105 rfl (zdk (cc := cX12_statementTold) (q := (219, .getfield 105, 3)) tkX12_statementTold 109 rfl) (fun x22 => ?_)
                      refine zco_p tkX12_statementTold 110 4 (pc' := 227) (L' := [(1, .int x1), (0, .ref v0)]) (S' := [.int 100, .int 0, .ref v0, .int 4, .ref x22]) rfl ?_
                      refine zco_Vi (rc := 0) (rs := 0) (mc := 0) (ms := 0) (As := [.int 0, .int 100]) (S := [.int 4, .ref x22]) vmX12_number (mtX12_number l e (by omega) v0 0 100) q_1790 rfl rfl (Nat.le_of_ble_eq_true rfl) (zdk (cc := cX12_statementTold) (q := (227, .invokevirtual 345, 3)) tkX12_statementTold 114 rfl) (fun y23 => ?_)
                      refine zco_iastore (zdk (cc := cX12_statementTold) (q := (230, .iastore, 1)) tkX12_statementTold 115 rfl) ?_
                      exact zco_sub [1] rfl (coX12_statementTold_J231 l e he v0)
                    · refine zco_p tkX12_statementTold 99 3 (pc' := 204) (L' := [(1, .int x1), (0, .ref v0)]) (S' := [.int x1, .int 2, .ref v0]) rfl ?_
                      refine zco_Vv (rc := 0) (rs := 0) (mc := 0) (ms := 0) (As := [.int 2, .int x1]) (S := []) vmX12_codesTold (mtX12_codesTold l e (by omega) v0 2 x1) q_1812 rfl rfl (Nat.le_of_ble_eq_true rfl) (zdk (cc := cX12_statementTold) (q := (204, .invokevirtual 387, 3)) tkX12_statementTold 102 rfl) ?_
                      refine zco_p tkX12_statementTold 103 1 (pc' := 231) (L' := [(1, .int x1), (0, .ref v0)]) (S' := []) rfl ?_
                      exact zco_sub [1] rfl (coX12_statementTold_J231 l e he v0)
                  · refine zco_p tkX12_statementTold 89 3 (pc' := 184) (L' := [(1, .int x1), (0, .ref v0)]) (S' := [.int x1, .int 1, .ref v0]) rfl ?_
                    refine zco_Vv (rc := 0) (rs := 0) (mc := 0) (ms := 0) (As := [.int 1, .int x1]) (S := []) vmX12_codesTold (mtX12_codesTold l e (by omega) v0 1 x1) q_1812 rfl rfl (Nat.le_of_ble_eq_true rfl) (zdk (cc := cX12_statementTold) (q := (184, .invokevirtual 387, 3)) tkX12_statementTold 92 rfl) ?_
                    refine zco_p tkX12_statementTold 93 1 (pc' := 231) (L' := [(1, .int x1), (0, .ref v0)]) (S' := []) rfl ?_
                    exact zco_sub [1] rfl (coX12_statementTold_J231 l e he v0)
                · refine zco_p tkX12_statementTold 79 3 (pc' := 164) (L' := [(1, .int x1), (0, .ref v0)]) (S' := [.int x1, .int 0, .ref v0]) rfl ?_
                  refine zco_Vv (rc := 0) (rs := 0) (mc := 0) (ms := 0) (As := [.int 0, .int x1]) (S := []) vmX12_codesTold (mtX12_codesTold l e (by omega) v0 0 x1) q_1812 rfl rfl (Nat.le_of_ble_eq_true rfl) (zdk (cc := cX12_statementTold) (q := (164, .invokevirtual 387, 3)) tkX12_statementTold 82 rfl) ?_
                  refine zco_p tkX12_statementTold 83 1 (pc' := 231) (L' := [(1, .int x1), (0, .ref v0)]) (S' := []) rfl ?_
                  exact zco_sub [1] rfl (coX12_statementTold_J231 l e he v0)
              · refine zco_p tkX12_statementTold 65 1 (pc' := 135) (L' := [(1, .int x1), (0, .ref v0)]) (S' := [.ref v0]) rfl ?_
                refine zco_gr fl_12_105 rfl (zdk (cc := cX12_statementTold) (q := (135, .getfield 105, 3)) tkX12_statementTold 66 rfl) (fun x24 => ?_)
                refine zco_p tkX12_statementTold 67 4 (pc' := 143) (L' := [(1, .int x1), (0, .ref v0)]) (S' := [.int 12, .int 1, .ref v0, .int 3, .ref x24]) rfl ?_
                refine zco_Vi (rc := 0) (rs := 0) (mc := 0) (ms := 0) (As := [.int 1, .int 12]) (S := [.int 3, .ref x24]) vmX12_number (mtX12_number l e (by omega) v0 1 12) q_1790 rfl rfl (Nat.le_of_ble_eq_true rfl) (zdk (cc := cX12_statementTold) (q := (143, .invokevirtual 345, 3)) tkX12_statementTold 71 rfl) (fun y25 => ?_)
                refine zco_iastore (zdk (cc := cX12_statementTold) (q := (146, .iastore, 1)) tkX12_statementTold 72 rfl) ?_
                refine zco_p tkX12_statementTold 73 1 (pc' := 231) (L' := [(1, .int x1), (0, .ref v0)]) (S' := []) rfl ?_
                exact zco_sub [1] rfl (coX12_statementTold_J231 l e he v0)
            · refine zco_p tkX12_statementTold 55 2 (pc' := 114) (L' := [(1, .int x1), (0, .ref v0)]) (S' := [.ref v0, .ref v0]) rfl ?_
              refine zco_gr fl_12_122 rfl (zdk (cc := cX12_statementTold) (q := (114, .getfield 122, 3)) tkX12_statementTold 57 rfl) (fun x26 => ?_)
              refine zco_Vv (rc := 0) (rs := 0) (mc := 0) (ms := 0) (As := [.ref x26]) (S := []) vmX12_feltTold (mtX12_feltTold l e (by omega) v0 x26) q_1808 rfl rfl (Nat.le_of_ble_eq_true rfl) (zdk (cc := cX12_statementTold) (q := (117, .invokevirtual 383, 3)) tkX12_statementTold 58 rfl) ?_
              refine zco_p tkX12_statementTold 59 1 (pc' := 231) (L' := [(1, .int x1), (0, .ref v0)]) (S' := []) rfl ?_
              exact zco_sub [1] rfl (coX12_statementTold_J231 l e he v0)
          · refine zco_p tkX12_statementTold 45 2 (pc' := 92) (L' := [(1, .int x1), (0, .ref v0)]) (S' := [.ref v0, .ref v0]) rfl ?_
            refine zco_gr fl_12_119 rfl (zdk (cc := cX12_statementTold) (q := (92, .getfield 119, 3)) tkX12_statementTold 47 rfl) (fun x27 => ?_)
            refine zco_Vv (rc := 0) (rs := 0) (mc := 0) (ms := 0) (As := [.ref x27]) (S := []) vmX12_feltTold (mtX12_feltTold l e (by omega) v0 x27) q_1808 rfl rfl (Nat.le_of_ble_eq_true rfl) (zdk (cc := cX12_statementTold) (q := (95, .invokevirtual 383, 3)) tkX12_statementTold 48 rfl) ?_
            refine zco_p tkX12_statementTold 49 1 (pc' := 231) (L' := [(1, .int x1), (0, .ref v0)]) (S' := []) rfl ?_
            exact zco_sub [1] rfl (coX12_statementTold_J231 l e he v0)
        · refine zco_p tkX12_statementTold 37 1 (pc' := 73) (L' := [(1, .int x1), (0, .ref v0)]) (S' := [.ref v0]) rfl ?_
          refine zco_Vv (rc := 0) (rs := 0) (mc := 0) (ms := 0) (As := []) (S := []) vmX12_kinTold (mtX12_kinTold l e (by omega) v0) q_1800 rfl rfl (Nat.le_of_ble_eq_true rfl) (zdk (cc := cX12_statementTold) (q := (73, .invokevirtual 380, 3)) tkX12_statementTold 38 rfl) ?_
          refine zco_p tkX12_statementTold 39 1 (pc' := 231) (L' := [(1, .int x1), (0, .ref v0)]) (S' := []) rfl ?_
          exact zco_sub [1] rfl (coX12_statementTold_J231 l e he v0)
      · refine zco_p tkX12_statementTold 27 3 (pc' := 55) (L' := [(1, .int x1), (0, .ref v0)]) (S' := [.int x1, .int 1, .ref v0]) rfl ?_
        refine zco_Vv (rc := 0) (rs := 0) (mc := 0) (ms := 0) (As := [.int 1, .int x1]) (S := []) vmX12_oneTold (mtX12_oneTold l e (by omega) v0 1 x1) q_1772 rfl rfl (Nat.le_of_ble_eq_true rfl) (zdk (cc := cX12_statementTold) (q := (55, .invokevirtual 377, 3)) tkX12_statementTold 30 rfl) ?_
        refine zco_p tkX12_statementTold 31 1 (pc' := 231) (L' := [(1, .int x1), (0, .ref v0)]) (S' := []) rfl ?_
        exact zco_sub [1] rfl (coX12_statementTold_J231 l e he v0)
    · refine zco_p tkX12_statementTold 17 3 (pc' := 35) (L' := [(1, .int x1), (0, .ref v0)]) (S' := [.int x1, .int 0, .ref v0]) rfl ?_
      refine zco_Vv (rc := 0) (rs := 0) (mc := 0) (ms := 0) (As := [.int 0, .int x1]) (S := []) vmX12_oneTold (mtX12_oneTold l e (by omega) v0 0 x1) q_1772 rfl rfl (Nat.le_of_ble_eq_true rfl) (zdk (cc := cX12_statementTold) (q := (35, .invokevirtual 377, 3)) tkX12_statementTold 20 rfl) ?_
      refine zco_p tkX12_statementTold 21 1 (pc' := 231) (L' := [(1, .int x1), (0, .ref v0)]) (S' := []) rfl ?_
      exact zco_sub [1] rfl (coX12_statementTold_J231 l e he v0)
  · refine zco_p tkX12_statementTold 7 3 (pc' := 17) (L' := [(1, .int x1), (0, .ref v0)]) (S' := [.int x1, .int 5, .ref v0]) rfl ?_
    refine zco_Vv (rc := 0) (rs := 0) (mc := 0) (ms := 0) (As := [.int 5, .int x1]) (S := []) vmX12_fail (mtX12_fail l e (by omega) v0 5 x1) q_1757 rfl rfl (Nat.le_of_ble_eq_true rfl) (zdk (cc := cX12_statementTold) (q := (17, .invokevirtual 300, 3)) tkX12_statementTold 10 rfl) ?_
    exact zco_vret rfl rfl rfl (zdk (cc := cX12_statementTold) (q := (20, .return_, 1)) tkX12_statementTold 11 rfl)
theorem mtX12_statementTold (l : Launch) (d : Nat) (hd : 11 ≤ d) (v0 : Nat) : zMet l d 0 0 yX12_statementTold cX12_statementTold 2 (Option.none : Option FieldType) [.ref v0] (X12_statementTold v0) := by
  obtain ⟨e, rfl⟩ : ∃ e, d = e + 1 := ⟨d - 1, by omega⟩
  exact zmet_of (own := RX12) (ini := false) (by decide +kernel) rfl (fun _ => by contradiction) (Nat.le_of_ble_eq_true rfl) (coX12_statementTold l e (by omega) v0)
abbrev iX12_refuses : zI := (RX12, cX12_refuses, 2, (Option.some .int), false)
def tX12_refuses : List (Nat × Instr × Nat) := [(0, .aload_n 0, 1), (1, .getfield 17, 3), (4, .iload_n 1, 1), (5, .dup2, 1), (6, .iaload, 1), (7, .iconst 1, 1), (8, .iadd, 1), (9, .iastore, 1), (10, .iconst (-1), 1), (11, .ireturn, 1)]
set_option maxRecDepth 100000 in
theorem tkX12_refuses : ∀ q ∈ tX12_refuses, decode cX12_refuses q.1 = .ok q.2 := by decide +kernel
theorem vmX12_refuses : zVM yX12_refuses cX12_refuses 2 (Option.some .int) 1 12 := ⟨kX12_refuses, q_1908, q_80, q_160, ⟨_, rfl, rfl⟩, by decide +kernel, by decide⟩
def X12_refuses (v0 : Nat) (v1 : Int32) : zM := z_gr 12 9 v0 fun x1 => z_la 20 x1 v1 fun x2 => z_sa 20 x1 v1 (x2 + 1) (z_ret (some (.int ((-1)))))
set_option maxHeartbeats 2000000 in
set_option maxRecDepth 20000 in
theorem coX12_refuses (l : Launch) (e : Nat) (he : 0 ≤ e) (v0 : Nat) (v1 : Int32) : zCo l (e + 1) 0 0 iX12_refuses 0 [(0, .ref v0), (1, .int v1)] [] (X12_refuses v0 v1) := by
  unfold X12_refuses
  refine zco_p tkX12_refuses 0 1 (pc' := 1) (L' := [(0, .ref v0), (1, .int v1)]) (S' := [.ref v0]) rfl ?_
  refine zco_gr fl_12_17 rfl (zdk (cc := cX12_refuses) (q := (1, .getfield 17, 3)) tkX12_refuses 1 rfl) (fun x1 => ?_)
  refine zco_p tkX12_refuses 2 2 (pc' := 6) (L' := [(0, .ref v0), (1, .int v1)]) (S' := [.int v1, .ref x1, .int v1, .ref x1]) rfl ?_
  refine zco_iaload (zdk (cc := cX12_refuses) (q := (6, .iaload, 1)) tkX12_refuses 4 rfl) (fun x2 => ?_)
  refine zco_p tkX12_refuses 5 2 (pc' := 9) (L' := [(0, .ref v0), (1, .int v1)]) (S' := [.int (x2 + 1), .int v1, .ref x1]) rfl ?_
  refine zco_iastore (zdk (cc := cX12_refuses) (q := (9, .iastore, 1)) tkX12_refuses 7 rfl) ?_
  refine zco_p tkX12_refuses 8 1 (pc' := 11) (L' := [(0, .ref v0), (1, .int v1)]) (S' := [.int ((-1))]) rfl ?_
  exact zco_iret rfl rfl rfl (zdk (cc := cX12_refuses) (q := (11, .ireturn, 1)) tkX12_refuses 9 rfl)
theorem mtX12_refuses (l : Launch) (d : Nat) (hd : 1 ≤ d) (v0 : Nat) (v1 : Int32) : zMet l d 0 0 yX12_refuses cX12_refuses 2 (Option.some .int) [.ref v0, .int v1] (X12_refuses v0 v1) := by
  obtain ⟨e, rfl⟩ : ∃ e, d = e + 1 := ⟨d - 1, by omega⟩
  exact zmet_of (own := RX12) (ini := false) (by decide +kernel) rfl (fun _ => by contradiction) (Nat.le_of_ble_eq_true rfl) (coX12_refuses l e (by omega) v0 v1)
abbrev iX12_stands : zI := (RX12, cX12_stands, 2, (Option.none : Option FieldType), false)
def tX12_stands_q0 : List (Nat × Instr × Nat) := [(0, .aload_n 0, 1), (1, .iconst 1, 1), (2, .putfield 406, 3), (5, .iconst 0, 1), (6, .istore_n 1, 1), (7, .iload_n 1, 1), (8, .iconst 5, 1), (9, .if_icmp .ge 24, 3), (12, .aload_n 0, 1), (13, .getfield 105, 3), (16, .bipush 6, 2), (18, .iload_n 1, 1), (19, .iadd, 1), (20, .aload_n 0, 1), (21, .getfield 105, 3), (24, .iload_n 1, 1), (25, .iaload, 1), (26, .iastore, 1), (27, .iinc 1 1, 3), (30, .goto (-23), 3), (33, .iconst 0, 1), (34, .istore_n 1, 1), (35, .iload_n 1, 1), (36, .iconst 3, 1), (37, .if_icmp .ge 37, 3), (40, .aload_n 0, 1), (41, .getfield 125, 3), (44, .iconst 3, 1), (45, .iload_n 1, 1), (46, .iadd, 1), (47, .aload_n 0, 1), (48, .getfield 125, 3), (51, .iload_n 1, 1), (52, .iaload, 1), (53, .iastore, 1), (54, .aload_n 0, 1), (55, .getfield 128, 3), (58, .iconst 3, 1), (59, .iload_n 1, 1), (60, .iadd, 1), (61, .aload_n 0, 1), (62, .getfield 128, 3), (65, .iload_n 1, 1), (66, .iaload, 1), (67, .iastore, 1), (68, .iinc 1 1, 3), (71, .goto (-36), 3), (74, .iconst 0, 1), (75, .istore_n 1, 1), (76, .iload_n 1, 1), (77, .bipush 12, 2), (79, .if_icmp .ge 24, 3), (82, .aload_n 0, 1), (83, .getfield 108, 3), (86, .bipush 12, 2), (88, .iload_n 1, 1), (89, .iadd, 1), (90, .aload_n 0, 1), (91, .getfield 108, 3), (94, .iload_n 1, 1), (95, .laload, 1), (96, .lastore, 1), (97, .iinc 1 1, 3), (100, .goto (-24), 3)]
set_option maxRecDepth 100000 in
theorem tkX12_stands_q0 : ∀ q ∈ tX12_stands_q0, decode cX12_stands q.1 = .ok q.2 := by decide +kernel
def tX12_stands_q1 : List (Nat × Instr × Nat) := [(103, .iconst 0, 1), (104, .istore_n 1, 1), (105, .iload_n 1, 1), (106, .bipush 36, 2), (108, .if_icmp .ge 39, 3), (111, .aload_n 0, 1), (112, .getfield 112, 3), (115, .bipush 36, 2), (117, .iload_n 1, 1), (118, .iadd, 1), (119, .aload_n 0, 1), (120, .getfield 112, 3), (123, .iload_n 1, 1), (124, .iaload, 1), (125, .iastore, 1), (126, .aload_n 0, 1), (127, .getfield 115, 3), (130, .bipush 36, 2), (132, .iload_n 1, 1), (133, .iadd, 1), (134, .aload_n 0, 1), (135, .getfield 115, 3), (138, .iload_n 1, 1), (139, .baload, 1), (140, .bastore, 1), (141, .iinc 1 1, 3), (144, .goto (-39), 3), (147, .iconst 0, 1), (148, .istore_n 1, 1), (149, .iload_n 1, 1), (150, .aload_n 0, 1), (151, .getfield 371, 3), (154, .if_icmp .ge 25, 3), (157, .aload_n 0, 1), (158, .getfield 131, 3), (161, .sipush 1600, 3), (164, .iload_n 1, 1), (165, .iadd, 1), (166, .aload_n 0, 1), (167, .getfield 131, 3), (170, .iload_n 1, 1), (171, .iaload, 1), (172, .iastore, 1), (173, .iinc 1 1, 3), (176, .goto (-27), 3), (179, .iconst 0, 1), (180, .istore_n 1, 1), (181, .iload_n 1, 1), (182, .sipush 343, 3), (185, .if_icmp .ge 16, 3), (188, .aload_n 0, 1), (189, .getfield 134, 3), (192, .iload_n 1, 1), (193, .iconst 0, 1), (194, .iastore, 1), (195, .iinc 1 1, 3), (198, .goto (-17), 3), (201, .iconst 0, 1), (202, .istore_n 1, 1), (203, .iload_n 1, 1), (204, .bipush 6, 2), (206, .if_icmp .ge 28, 3), (209, .aload_n 0, 1), (210, .getfield 134, 3)]
set_option maxRecDepth 100000 in
theorem tkX12_stands_q1 : ∀ q ∈ tX12_stands_q1, decode cX12_stands q.1 = .ok q.2 := by decide +kernel
def tX12_stands_q2 : List (Nat × Instr × Nat) := [(213, .iconst 2, 1), (214, .iload_n 1, 1), (215, .iadd, 1), (216, .iload_n 1, 1), (217, .iastore, 1), (218, .aload_n 0, 1), (219, .getfield 134, 3), (222, .bipush 8, 2), (224, .iload_n 1, 1), (225, .iadd, 1), (226, .iload_n 1, 1), (227, .iastore, 1), (228, .iinc 1 1, 3), (231, .goto (-28), 3), (234, .iconst 0, 1), (235, .istore_n 1, 1), (236, .iload_n 1, 1), (237, .bipush 12, 2), (239, .if_icmp .ge 19, 3), (242, .aload_n 0, 1), (243, .getfield 134, 3), (246, .bipush 14, 2), (248, .iload_n 1, 1), (249, .iadd, 1), (250, .iconst (-1), 1), (251, .iastore, 1), (252, .iinc 1 1, 3), (255, .goto (-19), 3), (258, .iconst 0, 1), (259, .istore_n 1, 1), (260, .iload_n 1, 1), (261, .bipush 72, 2), (263, .if_icmp .ge 39, 3), (266, .aload_n 0, 1), (267, .getfield 134, 3), (270, .bipush 38, 2), (272, .iload_n 1, 1), (273, .iadd, 1), (274, .aload_n 0, 1), (275, .getfield 119, 3), (278, .iload_n 1, 1), (279, .iaload, 1), (280, .iastore, 1), (281, .aload_n 0, 1), (282, .getfield 134, 3), (285, .bipush 110, 2), (287, .iload_n 1, 1), (288, .iadd, 1), (289, .aload_n 0, 1), (290, .getfield 122, 3), (293, .iload_n 1, 1), (294, .iaload, 1), (295, .iastore, 1), (296, .iinc 1 1, 3), (299, .goto (-39), 3), (302, .aload_n 0, 1), (303, .iconst 0, 1), (304, .putfield 410, 3), (307, .aload_n 0, 1), (308, .iconst 0, 1), (309, .putfield 413, 3), (312, .return_, 1)]
set_option maxRecDepth 100000 in
theorem tkX12_stands_q2 : ∀ q ∈ tX12_stands_q2, decode cX12_stands q.1 = .ok q.2 := by decide +kernel
theorem vmX12_stands : zVM yX12_stands cX12_stands 2 (Option.none : Option FieldType) 0 12 := ⟨kX12_stands, q_1912, q_81, q_160, ⟨_, rfl, rfl⟩, by decide +kernel, by decide⟩
def X12_stands_J302 (v0 : Nat) : zM := z_pi 12 75 v0 0 (z_pi 12 71 v0 0 (z_ret none))
set_option maxHeartbeats 2000000 in
set_option maxRecDepth 20000 in
theorem coX12_stands_J302 (l : Launch) (e : Nat) (he : 0 ≤ e) (v0 : Nat) : zCo l (e + 1) 0 0 iX12_stands 302 [(0, .ref v0)] [] (X12_stands_J302 v0) := by
  unfold X12_stands_J302
  refine zco_p tkX12_stands_q2 55 2 (pc' := 304) (L' := [(0, .ref v0)]) (S' := [.int 0, .ref v0]) rfl ?_
  refine zco_pi fl_12_410 rfl rfl (zdk (cc := cX12_stands) (q := (304, .putfield 410, 3)) tkX12_stands_q2 57 rfl) ?_
  refine zco_p tkX12_stands_q2 58 2 (pc' := 309) (L' := [(0, .ref v0)]) (S' := [.int 0, .ref v0]) rfl ?_
  refine zco_pi fl_12_413 rfl rfl (zdk (cc := cX12_stands) (q := (309, .putfield 413, 3)) tkX12_stands_q2 60 rfl) ?_
  exact zco_vret rfl rfl rfl (zdk (cc := cX12_stands) (q := (312, .return_, 1)) tkX12_stands_q2 61 rfl)
def X12_stands_B260 (v0 : Nat) (r260 : Int32 → zM) (v1 : Int32) : zM := z_if (72 ≤ v1) (X12_stands_J302 v0)
   (z_gr 12 52 v0 fun x1 => z_gr 12 44 v0 fun x2 => z_la 20 x2 v1 fun x3 => z_sa 20 x1 (38 + v1) x3 (z_gr 12 52 v0 fun x4 => z_gr 12 45 v0 fun x5 => z_la 20 x5 v1 fun x6 => z_sa 20 x4 (110 + v1) x6 (r260 (v1 + 1))))
set_option maxHeartbeats 2000000 in
set_option maxRecDepth 20000 in
theorem coX12_stands_B260 (l : Launch) (e : Nat) (he : 0 ≤ e) (v0 : Nat) (r260 : Int32 → zM) (hr260 : ∀ x : Int32, zCo l (e + 1) 0 0 iX12_stands 260 [(0, .ref v0), (1, .int x)] [] (r260 x)) (v1 : Int32) : zCo l (e + 1) 0 0 iX12_stands 260 [(0, .ref v0), (1, .int v1)] [] (X12_stands_B260 v0 r260 v1) := by
  unfold X12_stands_B260
  refine zco_p tkX12_stands_q2 30 2 (pc' := 263) (L' := [(0, .ref v0), (1, .int v1)]) (S' := [.int 72, .int v1]) rfl ?_
  refine zco_icmp_ge (tgt := 302) (zdk (cc := cX12_stands) (q := (263, .if_icmp .ge 39, 3)) tkX12_stands_q2 32 rfl) rfl ?_ ?_
  · exact zco_sub [0] rfl (coX12_stands_J302 l e he v0)
  · refine zco_p tkX12_stands_q2 33 1 (pc' := 267) (L' := [(0, .ref v0), (1, .int v1)]) (S' := [.ref v0]) rfl ?_
    refine zco_gr fl_12_134 rfl (zdk (cc := cX12_stands) (q := (267, .getfield 134, 3)) tkX12_stands_q2 34 rfl) (fun x1 => ?_)
    refine zco_p tkX12_stands_q2 35 4 (pc' := 275) (L' := [(0, .ref v0), (1, .int v1)]) (S' := [.ref v0, .int (38 + v1), .ref x1]) rfl ?_
    refine zco_gr fl_12_119 rfl (zdk (cc := cX12_stands) (q := (275, .getfield 119, 3)) tkX12_stands_q2 39 rfl) (fun x2 => ?_)
    refine zco_p tkX12_stands_q2 40 1 (pc' := 279) (L' := [(0, .ref v0), (1, .int v1)]) (S' := [.int v1, .ref x2, .int (38 + v1), .ref x1]) rfl ?_
    refine zco_iaload (zdk (cc := cX12_stands) (q := (279, .iaload, 1)) tkX12_stands_q2 41 rfl) (fun x3 => ?_)
    refine zco_iastore (zdk (cc := cX12_stands) (q := (280, .iastore, 1)) tkX12_stands_q2 42 rfl) ?_
    refine zco_p tkX12_stands_q2 43 1 (pc' := 282) (L' := [(0, .ref v0), (1, .int v1)]) (S' := [.ref v0]) rfl ?_
    refine zco_gr fl_12_134 rfl (zdk (cc := cX12_stands) (q := (282, .getfield 134, 3)) tkX12_stands_q2 44 rfl) (fun x4 => ?_)
    refine zco_p tkX12_stands_q2 45 4 (pc' := 290) (L' := [(0, .ref v0), (1, .int v1)]) (S' := [.ref v0, .int (110 + v1), .ref x4]) rfl ?_
    refine zco_gr fl_12_122 rfl (zdk (cc := cX12_stands) (q := (290, .getfield 122, 3)) tkX12_stands_q2 49 rfl) (fun x5 => ?_)
    refine zco_p tkX12_stands_q2 50 1 (pc' := 294) (L' := [(0, .ref v0), (1, .int v1)]) (S' := [.int v1, .ref x5, .int (110 + v1), .ref x4]) rfl ?_
    refine zco_iaload (zdk (cc := cX12_stands) (q := (294, .iaload, 1)) tkX12_stands_q2 51 rfl) (fun x6 => ?_)
    refine zco_iastore (zdk (cc := cX12_stands) (q := (295, .iastore, 1)) tkX12_stands_q2 52 rfl) ?_
    refine zco_p tkX12_stands_q2 53 2 (pc' := 260) (L' := [(1, .int (v1 + 1)), (0, .ref v0)]) (S' := []) rfl ?_
    exact zco_sub [1, 0] rfl (hr260 (v1 + 1))
def X12_stands_J258 (v0 : Nat) : zM := z_fix (fun r x => X12_stands_B260 v0 r x) zFU 0
set_option maxHeartbeats 2000000 in
set_option maxRecDepth 20000 in
theorem coX12_stands_J258 (l : Launch) (e : Nat) (he : 0 ≤ e) (v0 : Nat) : zCo l (e + 1) 0 0 iX12_stands 258 [(0, .ref v0)] [] (X12_stands_J258 v0) := by
  unfold X12_stands_J258
  refine zco_p tkX12_stands_q2 28 2 (pc' := 260) (L' := [(1, .int 0), (0, .ref v0)]) (S' := []) rfl ?_
  exact zco_sub [1, 0] rfl (zco_fix (Lf := fun x : Int32 => [(0, .ref v0), (1, .int x)]) (Sf := fun _ => []) (fun r hr x => coX12_stands_B260 l e he v0 r hr x) zFU 0)
def X12_stands_B236 (v0 : Nat) (r236 : Int32 → zM) (v1 : Int32) : zM := z_if (12 ≤ v1) (X12_stands_J258 v0)
   (z_gr 12 52 v0 fun x1 => z_sa 20 x1 (14 + v1) ((-1)) (r236 (v1 + 1)))
set_option maxHeartbeats 2000000 in
set_option maxRecDepth 20000 in
theorem coX12_stands_B236 (l : Launch) (e : Nat) (he : 0 ≤ e) (v0 : Nat) (r236 : Int32 → zM) (hr236 : ∀ x : Int32, zCo l (e + 1) 0 0 iX12_stands 236 [(0, .ref v0), (1, .int x)] [] (r236 x)) (v1 : Int32) : zCo l (e + 1) 0 0 iX12_stands 236 [(0, .ref v0), (1, .int v1)] [] (X12_stands_B236 v0 r236 v1) := by
  unfold X12_stands_B236
  refine zco_p tkX12_stands_q2 16 2 (pc' := 239) (L' := [(0, .ref v0), (1, .int v1)]) (S' := [.int 12, .int v1]) rfl ?_
  refine zco_icmp_ge (tgt := 258) (zdk (cc := cX12_stands) (q := (239, .if_icmp .ge 19, 3)) tkX12_stands_q2 18 rfl) rfl ?_ ?_
  · exact zco_sub [0] rfl (coX12_stands_J258 l e he v0)
  · refine zco_p tkX12_stands_q2 19 1 (pc' := 243) (L' := [(0, .ref v0), (1, .int v1)]) (S' := [.ref v0]) rfl ?_
    refine zco_gr fl_12_134 rfl (zdk (cc := cX12_stands) (q := (243, .getfield 134, 3)) tkX12_stands_q2 20 rfl) (fun x1 => ?_)
    refine zco_p tkX12_stands_q2 21 4 (pc' := 251) (L' := [(0, .ref v0), (1, .int v1)]) (S' := [.int ((-1)), .int (14 + v1), .ref x1]) rfl ?_
    refine zco_iastore (zdk (cc := cX12_stands) (q := (251, .iastore, 1)) tkX12_stands_q2 25 rfl) ?_
    refine zco_p tkX12_stands_q2 26 2 (pc' := 236) (L' := [(1, .int (v1 + 1)), (0, .ref v0)]) (S' := []) rfl ?_
    exact zco_sub [1, 0] rfl (hr236 (v1 + 1))
def X12_stands_J234 (v0 : Nat) : zM := z_fix (fun r x => X12_stands_B236 v0 r x) zFU 0
set_option maxHeartbeats 2000000 in
set_option maxRecDepth 20000 in
theorem coX12_stands_J234 (l : Launch) (e : Nat) (he : 0 ≤ e) (v0 : Nat) : zCo l (e + 1) 0 0 iX12_stands 234 [(0, .ref v0)] [] (X12_stands_J234 v0) := by
  unfold X12_stands_J234
  refine zco_p tkX12_stands_q2 14 2 (pc' := 236) (L' := [(1, .int 0), (0, .ref v0)]) (S' := []) rfl ?_
  exact zco_sub [1, 0] rfl (zco_fix (Lf := fun x : Int32 => [(0, .ref v0), (1, .int x)]) (Sf := fun _ => []) (fun r hr x => coX12_stands_B236 l e he v0 r hr x) zFU 0)
def X12_stands_B203 (v0 : Nat) (r203 : Int32 → zM) (v1 : Int32) : zM := z_if (6 ≤ v1) (X12_stands_J234 v0)
   (z_gr 12 52 v0 fun x1 => z_sa 20 x1 (2 + v1) v1 (z_gr 12 52 v0 fun x2 => z_sa 20 x2 (8 + v1) v1 (r203 (v1 + 1))))
set_option maxHeartbeats 2000000 in
set_option maxRecDepth 20000 in
theorem coX12_stands_B203 (l : Launch) (e : Nat) (he : 0 ≤ e) (v0 : Nat) (r203 : Int32 → zM) (hr203 : ∀ x : Int32, zCo l (e + 1) 0 0 iX12_stands 203 [(0, .ref v0), (1, .int x)] [] (r203 x)) (v1 : Int32) : zCo l (e + 1) 0 0 iX12_stands 203 [(0, .ref v0), (1, .int v1)] [] (X12_stands_B203 v0 r203 v1) := by
  unfold X12_stands_B203
  refine zco_p tkX12_stands_q1 59 2 (pc' := 206) (L' := [(0, .ref v0), (1, .int v1)]) (S' := [.int 6, .int v1]) rfl ?_
  refine zco_icmp_ge (tgt := 234) (zdk (cc := cX12_stands) (q := (206, .if_icmp .ge 28, 3)) tkX12_stands_q1 61 rfl) rfl ?_ ?_
  · exact zco_sub [0] rfl (coX12_stands_J234 l e he v0)
  · refine zco_p tkX12_stands_q1 62 1 (pc' := 210) (L' := [(0, .ref v0), (1, .int v1)]) (S' := [.ref v0]) rfl ?_
    refine zco_gr fl_12_134 rfl (zdk (cc := cX12_stands) (q := (210, .getfield 134, 3)) tkX12_stands_q1 63 rfl) (fun x1 => ?_)
    refine zco_p tkX12_stands_q2 0 4 (pc' := 217) (L' := [(0, .ref v0), (1, .int v1)]) (S' := [.int v1, .int (2 + v1), .ref x1]) rfl ?_
    refine zco_iastore (zdk (cc := cX12_stands) (q := (217, .iastore, 1)) tkX12_stands_q2 4 rfl) ?_
    refine zco_p tkX12_stands_q2 5 1 (pc' := 219) (L' := [(0, .ref v0), (1, .int v1)]) (S' := [.ref v0]) rfl ?_
    refine zco_gr fl_12_134 rfl (zdk (cc := cX12_stands) (q := (219, .getfield 134, 3)) tkX12_stands_q2 6 rfl) (fun x2 => ?_)
    refine zco_p tkX12_stands_q2 7 4 (pc' := 227) (L' := [(0, .ref v0), (1, .int v1)]) (S' := [.int v1, .int (8 + v1), .ref x2]) rfl ?_
    refine zco_iastore (zdk (cc := cX12_stands) (q := (227, .iastore, 1)) tkX12_stands_q2 11 rfl) ?_
    refine zco_p tkX12_stands_q2 12 2 (pc' := 203) (L' := [(1, .int (v1 + 1)), (0, .ref v0)]) (S' := []) rfl ?_
    exact zco_sub [1, 0] rfl (hr203 (v1 + 1))
def X12_stands_J201 (v0 : Nat) : zM := z_fix (fun r x => X12_stands_B203 v0 r x) zFU 0
set_option maxHeartbeats 2000000 in
set_option maxRecDepth 20000 in
theorem coX12_stands_J201 (l : Launch) (e : Nat) (he : 0 ≤ e) (v0 : Nat) : zCo l (e + 1) 0 0 iX12_stands 201 [(0, .ref v0)] [] (X12_stands_J201 v0) := by
  unfold X12_stands_J201
  refine zco_p tkX12_stands_q1 57 2 (pc' := 203) (L' := [(1, .int 0), (0, .ref v0)]) (S' := []) rfl ?_
  exact zco_sub [1, 0] rfl (zco_fix (Lf := fun x : Int32 => [(0, .ref v0), (1, .int x)]) (Sf := fun _ => []) (fun r hr x => coX12_stands_B203 l e he v0 r hr x) zFU 0)
def X12_stands_B181 (v0 : Nat) (r181 : Int32 → zM) (v1 : Int32) : zM := z_if (343 ≤ v1) (X12_stands_J201 v0)
   (z_gr 12 52 v0 fun x1 => z_sa 20 x1 v1 0 (r181 (v1 + 1)))
set_option maxHeartbeats 2000000 in
set_option maxRecDepth 20000 in
theorem coX12_stands_B181 (l : Launch) (e : Nat) (he : 0 ≤ e) (v0 : Nat) (r181 : Int32 → zM) (hr181 : ∀ x : Int32, zCo l (e + 1) 0 0 iX12_stands 181 [(0, .ref v0), (1, .int x)] [] (r181 x)) (v1 : Int32) : zCo l (e + 1) 0 0 iX12_stands 181 [(0, .ref v0), (1, .int v1)] [] (X12_stands_B181 v0 r181 v1) := by
  unfold X12_stands_B181
  refine zco_p tkX12_stands_q1 47 2 (pc' := 185) (L' := [(0, .ref v0), (1, .int v1)]) (S' := [.int 343, .int v1]) rfl ?_
  refine zco_icmp_ge (tgt := 201) (zdk (cc := cX12_stands) (q := (185, .if_icmp .ge 16, 3)) tkX12_stands_q1 49 rfl) rfl ?_ ?_
  · exact zco_sub [0] rfl (coX12_stands_J201 l e he v0)
  · refine zco_p tkX12_stands_q1 50 1 (pc' := 189) (L' := [(0, .ref v0), (1, .int v1)]) (S' := [.ref v0]) rfl ?_
    refine zco_gr fl_12_134 rfl (zdk (cc := cX12_stands) (q := (189, .getfield 134, 3)) tkX12_stands_q1 51 rfl) (fun x1 => ?_)
    refine zco_p tkX12_stands_q1 52 2 (pc' := 194) (L' := [(0, .ref v0), (1, .int v1)]) (S' := [.int 0, .int v1, .ref x1]) rfl ?_
    refine zco_iastore (zdk (cc := cX12_stands) (q := (194, .iastore, 1)) tkX12_stands_q1 54 rfl) ?_
    refine zco_p tkX12_stands_q1 55 2 (pc' := 181) (L' := [(1, .int (v1 + 1)), (0, .ref v0)]) (S' := []) rfl ?_
    exact zco_sub [1, 0] rfl (hr181 (v1 + 1))
def X12_stands_J179 (v0 : Nat) : zM := z_fix (fun r x => X12_stands_B181 v0 r x) zFU 0
set_option maxHeartbeats 2000000 in
set_option maxRecDepth 20000 in
theorem coX12_stands_J179 (l : Launch) (e : Nat) (he : 0 ≤ e) (v0 : Nat) : zCo l (e + 1) 0 0 iX12_stands 179 [(0, .ref v0)] [] (X12_stands_J179 v0) := by
  unfold X12_stands_J179
  refine zco_p tkX12_stands_q1 45 2 (pc' := 181) (L' := [(1, .int 0), (0, .ref v0)]) (S' := []) rfl ?_
  exact zco_sub [1, 0] rfl (zco_fix (Lf := fun x : Int32 => [(0, .ref v0), (1, .int x)]) (Sf := fun _ => []) (fun r hr x => coX12_stands_B181 l e he v0 r hr x) zFU 0)
def X12_stands_B149 (v0 : Nat) (r149 : Int32 → zM) (v1 : Int32) : zM := z_gi 12 49 v0 fun x1 => z_if (x1 ≤ v1) (X12_stands_J179 v0)
   (z_gr 12 48 v0 fun x2 => z_gr 12 48 v0 fun x3 => z_la 20 x3 v1 fun x4 => z_sa 20 x2 (1600 + v1) x4 (r149 (v1 + 1)))
set_option maxHeartbeats 2000000 in
set_option maxRecDepth 20000 in
theorem coX12_stands_B149 (l : Launch) (e : Nat) (he : 0 ≤ e) (v0 : Nat) (r149 : Int32 → zM) (hr149 : ∀ x : Int32, zCo l (e + 1) 0 0 iX12_stands 149 [(0, .ref v0), (1, .int x)] [] (r149 x)) (v1 : Int32) : zCo l (e + 1) 0 0 iX12_stands 149 [(0, .ref v0), (1, .int v1)] [] (X12_stands_B149 v0 r149 v1) := by
  unfold X12_stands_B149
  refine zco_p tkX12_stands_q1 29 2 (pc' := 151) (L' := [(0, .ref v0), (1, .int v1)]) (S' := [.ref v0, .int v1]) rfl ?_
  refine zco_gi fl_12_371 rfl (zdk (cc := cX12_stands) (q := (151, .getfield 371, 3)) tkX12_stands_q1 31 rfl) (fun x1 => ?_)
  refine zco_icmp_ge (tgt := 179) (zdk (cc := cX12_stands) (q := (154, .if_icmp .ge 25, 3)) tkX12_stands_q1 32 rfl) rfl ?_ ?_
  · exact zco_sub [0] rfl (coX12_stands_J179 l e he v0)
  · refine zco_p tkX12_stands_q1 33 1 (pc' := 158) (L' := [(0, .ref v0), (1, .int v1)]) (S' := [.ref v0]) rfl ?_
    refine zco_gr fl_12_131 rfl (zdk (cc := cX12_stands) (q := (158, .getfield 131, 3)) tkX12_stands_q1 34 rfl) (fun x2 => ?_)
    refine zco_p tkX12_stands_q1 35 4 (pc' := 167) (L' := [(0, .ref v0), (1, .int v1)]) (S' := [.ref v0, .int (1600 + v1), .ref x2]) rfl ?_
    refine zco_gr fl_12_131 rfl (zdk (cc := cX12_stands) (q := (167, .getfield 131, 3)) tkX12_stands_q1 39 rfl) (fun x3 => ?_)
    refine zco_p tkX12_stands_q1 40 1 (pc' := 171) (L' := [(0, .ref v0), (1, .int v1)]) (S' := [.int v1, .ref x3, .int (1600 + v1), .ref x2]) rfl ?_
    refine zco_iaload (zdk (cc := cX12_stands) (q := (171, .iaload, 1)) tkX12_stands_q1 41 rfl) (fun x4 => ?_)
    refine zco_iastore (zdk (cc := cX12_stands) (q := (172, .iastore, 1)) tkX12_stands_q1 42 rfl) ?_
    refine zco_p tkX12_stands_q1 43 2 (pc' := 149) (L' := [(1, .int (v1 + 1)), (0, .ref v0)]) (S' := []) rfl ?_
    exact zco_sub [1, 0] rfl (hr149 (v1 + 1))
def X12_stands_J147 (v0 : Nat) : zM := z_fix (fun r x => X12_stands_B149 v0 r x) zFU 0
set_option maxHeartbeats 2000000 in
set_option maxRecDepth 20000 in
theorem coX12_stands_J147 (l : Launch) (e : Nat) (he : 0 ≤ e) (v0 : Nat) : zCo l (e + 1) 0 0 iX12_stands 147 [(0, .ref v0)] [] (X12_stands_J147 v0) := by
  unfold X12_stands_J147
  refine zco_p tkX12_stands_q1 27 2 (pc' := 149) (L' := [(1, .int 0), (0, .ref v0)]) (S' := []) rfl ?_
  exact zco_sub [1, 0] rfl (zco_fix (Lf := fun x : Int32 => [(0, .ref v0), (1, .int x)]) (Sf := fun _ => []) (fun r hr x => coX12_stands_B149 l e he v0 r hr x) zFU 0)
def X12_stands_B105 (v0 : Nat) (r105 : Int32 → zM) (v1 : Int32) : zM := z_if (36 ≤ v1) (X12_stands_J147 v0)
   (z_gr 12 42 v0 fun x1 => z_gr 12 42 v0 fun x2 => z_la 20 x2 v1 fun x3 => z_sa 20 x1 (36 + v1) x3 (z_gr 12 43 v0 fun x4 => z_gr 12 43 v0 fun x5 => z_la 21 x5 v1 fun x6 => z_sa 21 x4 (36 + v1) (vp_nar .boolean x6) (r105 (v1 + 1))))
set_option maxHeartbeats 2000000 in
set_option maxRecDepth 20000 in
theorem coX12_stands_B105 (l : Launch) (e : Nat) (he : 0 ≤ e) (v0 : Nat) (r105 : Int32 → zM) (hr105 : ∀ x : Int32, zCo l (e + 1) 0 0 iX12_stands 105 [(0, .ref v0), (1, .int x)] [] (r105 x)) (v1 : Int32) : zCo l (e + 1) 0 0 iX12_stands 105 [(0, .ref v0), (1, .int v1)] [] (X12_stands_B105 v0 r105 v1) := by
  unfold X12_stands_B105
  refine zco_p tkX12_stands_q1 2 2 (pc' := 108) (L' := [(0, .ref v0), (1, .int v1)]) (S' := [.int 36, .int v1]) rfl ?_
  refine zco_icmp_ge (tgt := 147) (zdk (cc := cX12_stands) (q := (108, .if_icmp .ge 39, 3)) tkX12_stands_q1 4 rfl) rfl ?_ ?_
  · exact zco_sub [0] rfl (coX12_stands_J147 l e he v0)
  · refine zco_p tkX12_stands_q1 5 1 (pc' := 112) (L' := [(0, .ref v0), (1, .int v1)]) (S' := [.ref v0]) rfl ?_
    refine zco_gr fl_12_112 rfl (zdk (cc := cX12_stands) (q := (112, .getfield 112, 3)) tkX12_stands_q1 6 rfl) (fun x1 => ?_)
    refine zco_p tkX12_stands_q1 7 4 (pc' := 120) (L' := [(0, .ref v0), (1, .int v1)]) (S' := [.ref v0, .int (36 + v1), .ref x1]) rfl ?_
    refine zco_gr fl_12_112 rfl (zdk (cc := cX12_stands) (q := (120, .getfield 112, 3)) tkX12_stands_q1 11 rfl) (fun x2 => ?_)
    refine zco_p tkX12_stands_q1 12 1 (pc' := 124) (L' := [(0, .ref v0), (1, .int v1)]) (S' := [.int v1, .ref x2, .int (36 + v1), .ref x1]) rfl ?_
    refine zco_iaload (zdk (cc := cX12_stands) (q := (124, .iaload, 1)) tkX12_stands_q1 13 rfl) (fun x3 => ?_)
    refine zco_iastore (zdk (cc := cX12_stands) (q := (125, .iastore, 1)) tkX12_stands_q1 14 rfl) ?_
    refine zco_p tkX12_stands_q1 15 1 (pc' := 127) (L' := [(0, .ref v0), (1, .int v1)]) (S' := [.ref v0]) rfl ?_
    refine zco_gr fl_12_115 rfl (zdk (cc := cX12_stands) (q := (127, .getfield 115, 3)) tkX12_stands_q1 16 rfl) (fun x4 => ?_)
    refine zco_p tkX12_stands_q1 17 4 (pc' := 135) (L' := [(0, .ref v0), (1, .int v1)]) (S' := [.ref v0, .int (36 + v1), .ref x4]) rfl ?_
    refine zco_gr fl_12_115 rfl (zdk (cc := cX12_stands) (q := (135, .getfield 115, 3)) tkX12_stands_q1 21 rfl) (fun x5 => ?_)
    refine zco_p tkX12_stands_q1 22 1 (pc' := 139) (L' := [(0, .ref v0), (1, .int v1)]) (S' := [.int v1, .ref x5, .int (36 + v1), .ref x4]) rfl ?_
    refine zco_baload (zdk (cc := cX12_stands) (q := (139, .baload, 1)) tkX12_stands_q1 23 rfl) (fun x6 => ?_)
    refine zco_bastore (zdk (cc := cX12_stands) (q := (140, .bastore, 1)) tkX12_stands_q1 24 rfl) ?_
    refine zco_p tkX12_stands_q1 25 2 (pc' := 105) (L' := [(1, .int (v1 + 1)), (0, .ref v0)]) (S' := []) rfl ?_
    exact zco_sub [1, 0] rfl (hr105 (v1 + 1))
def X12_stands_J103 (v0 : Nat) : zM := z_fix (fun r x => X12_stands_B105 v0 r x) zFU 0
set_option maxHeartbeats 2000000 in
set_option maxRecDepth 20000 in
theorem coX12_stands_J103 (l : Launch) (e : Nat) (he : 0 ≤ e) (v0 : Nat) : zCo l (e + 1) 0 0 iX12_stands 103 [(0, .ref v0)] [] (X12_stands_J103 v0) := by
  unfold X12_stands_J103
  refine zco_p tkX12_stands_q1 0 2 (pc' := 105) (L' := [(1, .int 0), (0, .ref v0)]) (S' := []) rfl ?_
  exact zco_sub [1, 0] rfl (zco_fix (Lf := fun x : Int32 => [(0, .ref v0), (1, .int x)]) (Sf := fun _ => []) (fun r hr x => coX12_stands_B105 l e he v0 r hr x) zFU 0)
def X12_stands_B76 (v0 : Nat) (r76 : Int32 → zM) (v1 : Int32) : zM := z_if (12 ≤ v1) (X12_stands_J103 v0)
   (z_gr 12 41 v0 fun x1 => z_gr 12 41 v0 fun x2 => z_ll x2 v1 fun x3 => z_sl x1 (12 + v1) x3 (r76 (v1 + 1)))
set_option maxHeartbeats 2000000 in
set_option maxRecDepth 20000 in
theorem coX12_stands_B76 (l : Launch) (e : Nat) (he : 0 ≤ e) (v0 : Nat) (r76 : Int32 → zM) (hr76 : ∀ x : Int32, zCo l (e + 1) 0 0 iX12_stands 76 [(0, .ref v0), (1, .int x)] [] (r76 x)) (v1 : Int32) : zCo l (e + 1) 0 0 iX12_stands 76 [(0, .ref v0), (1, .int v1)] [] (X12_stands_B76 v0 r76 v1) := by
  unfold X12_stands_B76
  refine zco_p tkX12_stands_q0 49 2 (pc' := 79) (L' := [(0, .ref v0), (1, .int v1)]) (S' := [.int 12, .int v1]) rfl ?_
  refine zco_icmp_ge (tgt := 103) (zdk (cc := cX12_stands) (q := (79, .if_icmp .ge 24, 3)) tkX12_stands_q0 51 rfl) rfl ?_ ?_
  · exact zco_sub [0] rfl (coX12_stands_J103 l e he v0)
  · refine zco_p tkX12_stands_q0 52 1 (pc' := 83) (L' := [(0, .ref v0), (1, .int v1)]) (S' := [.ref v0]) rfl ?_
    refine zco_gr fl_12_108 rfl (zdk (cc := cX12_stands) (q := (83, .getfield 108, 3)) tkX12_stands_q0 53 rfl) (fun x1 => ?_)
    refine zco_p tkX12_stands_q0 54 4 (pc' := 91) (L' := [(0, .ref v0), (1, .int v1)]) (S' := [.ref v0, .int (12 + v1), .ref x1]) rfl ?_
    refine zco_gr fl_12_108 rfl (zdk (cc := cX12_stands) (q := (91, .getfield 108, 3)) tkX12_stands_q0 58 rfl) (fun x2 => ?_)
    refine zco_p tkX12_stands_q0 59 1 (pc' := 95) (L' := [(0, .ref v0), (1, .int v1)]) (S' := [.int v1, .ref x2, .int (12 + v1), .ref x1]) rfl ?_
    refine zco_laload (zdk (cc := cX12_stands) (q := (95, .laload, 1)) tkX12_stands_q0 60 rfl) (fun x3 => ?_)
    refine zco_lastore (zdk (cc := cX12_stands) (q := (96, .lastore, 1)) tkX12_stands_q0 61 rfl) ?_
    refine zco_p tkX12_stands_q0 62 2 (pc' := 76) (L' := [(1, .int (v1 + 1)), (0, .ref v0)]) (S' := []) rfl ?_
    exact zco_sub [1, 0] rfl (hr76 (v1 + 1))
def X12_stands_J74 (v0 : Nat) : zM := z_fix (fun r x => X12_stands_B76 v0 r x) zFU 0
set_option maxHeartbeats 2000000 in
set_option maxRecDepth 20000 in
theorem coX12_stands_J74 (l : Launch) (e : Nat) (he : 0 ≤ e) (v0 : Nat) : zCo l (e + 1) 0 0 iX12_stands 74 [(0, .ref v0)] [] (X12_stands_J74 v0) := by
  unfold X12_stands_J74
  refine zco_p tkX12_stands_q0 47 2 (pc' := 76) (L' := [(1, .int 0), (0, .ref v0)]) (S' := []) rfl ?_
  exact zco_sub [1, 0] rfl (zco_fix (Lf := fun x : Int32 => [(0, .ref v0), (1, .int x)]) (Sf := fun _ => []) (fun r hr x => coX12_stands_B76 l e he v0 r hr x) zFU 0)
def X12_stands_B35 (v0 : Nat) (r35 : Int32 → zM) (v1 : Int32) : zM := z_if (3 ≤ v1) (X12_stands_J74 v0)
   (z_gr 12 46 v0 fun x1 => z_gr 12 46 v0 fun x2 => z_la 20 x2 v1 fun x3 => z_sa 20 x1 (3 + v1) x3 (z_gr 12 47 v0 fun x4 => z_gr 12 47 v0 fun x5 => z_la 20 x5 v1 fun x6 => z_sa 20 x4 (3 + v1) x6 (r35 (v1 + 1))))
set_option maxHeartbeats 2000000 in
set_option maxRecDepth 20000 in
theorem coX12_stands_B35 (l : Launch) (e : Nat) (he : 0 ≤ e) (v0 : Nat) (r35 : Int32 → zM) (hr35 : ∀ x : Int32, zCo l (e + 1) 0 0 iX12_stands 35 [(0, .ref v0), (1, .int x)] [] (r35 x)) (v1 : Int32) : zCo l (e + 1) 0 0 iX12_stands 35 [(0, .ref v0), (1, .int v1)] [] (X12_stands_B35 v0 r35 v1) := by
  unfold X12_stands_B35
  refine zco_p tkX12_stands_q0 22 2 (pc' := 37) (L' := [(0, .ref v0), (1, .int v1)]) (S' := [.int 3, .int v1]) rfl ?_
  refine zco_icmp_ge (tgt := 74) (zdk (cc := cX12_stands) (q := (37, .if_icmp .ge 37, 3)) tkX12_stands_q0 24 rfl) rfl ?_ ?_
  · exact zco_sub [0] rfl (coX12_stands_J74 l e he v0)
  · refine zco_p tkX12_stands_q0 25 1 (pc' := 41) (L' := [(0, .ref v0), (1, .int v1)]) (S' := [.ref v0]) rfl ?_
    refine zco_gr fl_12_125 rfl (zdk (cc := cX12_stands) (q := (41, .getfield 125, 3)) tkX12_stands_q0 26 rfl) (fun x1 => ?_)
    refine zco_p tkX12_stands_q0 27 4 (pc' := 48) (L' := [(0, .ref v0), (1, .int v1)]) (S' := [.ref v0, .int (3 + v1), .ref x1]) rfl ?_
    refine zco_gr fl_12_125 rfl (zdk (cc := cX12_stands) (q := (48, .getfield 125, 3)) tkX12_stands_q0 31 rfl) (fun x2 => ?_)
    refine zco_p tkX12_stands_q0 32 1 (pc' := 52) (L' := [(0, .ref v0), (1, .int v1)]) (S' := [.int v1, .ref x2, .int (3 + v1), .ref x1]) rfl ?_
    refine zco_iaload (zdk (cc := cX12_stands) (q := (52, .iaload, 1)) tkX12_stands_q0 33 rfl) (fun x3 => ?_)
    refine zco_iastore (zdk (cc := cX12_stands) (q := (53, .iastore, 1)) tkX12_stands_q0 34 rfl) ?_
    refine zco_p tkX12_stands_q0 35 1 (pc' := 55) (L' := [(0, .ref v0), (1, .int v1)]) (S' := [.ref v0]) rfl ?_
    refine zco_gr fl_12_128 rfl (zdk (cc := cX12_stands) (q := (55, .getfield 128, 3)) tkX12_stands_q0 36 rfl) (fun x4 => ?_)
    refine zco_p tkX12_stands_q0 37 4 (pc' := 62) (L' := [(0, .ref v0), (1, .int v1)]) (S' := [.ref v0, .int (3 + v1), .ref x4]) rfl ?_
    refine zco_gr fl_12_128 rfl (zdk (cc := cX12_stands) (q := (62, .getfield 128, 3)) tkX12_stands_q0 41 rfl) (fun x5 => ?_)
    refine zco_p tkX12_stands_q0 42 1 (pc' := 66) (L' := [(0, .ref v0), (1, .int v1)]) (S' := [.int v1, .ref x5, .int (3 + v1), .ref x4]) rfl ?_
    refine zco_iaload (zdk (cc := cX12_stands) (q := (66, .iaload, 1)) tkX12_stands_q0 43 rfl) (fun x6 => ?_)
    refine zco_iastore (zdk (cc := cX12_stands) (q := (67, .iastore, 1)) tkX12_stands_q0 44 rfl) ?_
    refine zco_p tkX12_stands_q0 45 2 (pc' := 35) (L' := [(1, .int (v1 + 1)), (0, .ref v0)]) (S' := []) rfl ?_
    exact zco_sub [1, 0] rfl (hr35 (v1 + 1))
def X12_stands_J33 (v0 : Nat) : zM := z_fix (fun r x => X12_stands_B35 v0 r x) zFU 0
set_option maxHeartbeats 2000000 in
set_option maxRecDepth 20000 in
theorem coX12_stands_J33 (l : Launch) (e : Nat) (he : 0 ≤ e) (v0 : Nat) : zCo l (e + 1) 0 0 iX12_stands 33 [(0, .ref v0)] [] (X12_stands_J33 v0) := by
  unfold X12_stands_J33
  refine zco_p tkX12_stands_q0 20 2 (pc' := 35) (L' := [(1, .int 0), (0, .ref v0)]) (S' := []) rfl ?_
  exact zco_sub [1, 0] rfl (zco_fix (Lf := fun x : Int32 => [(0, .ref v0), (1, .int x)]) (Sf := fun _ => []) (fun r hr x => coX12_stands_B35 l e he v0 r hr x) zFU 0)
def X12_stands_B7 (v0 : Nat) (r7 : Int32 → zM) (v1 : Int32) : zM := z_if (5 ≤ v1) (X12_stands_J33 v0)
   (z_gr 12 40 v0 fun x1 => z_gr 12 40 v0 fun x2 => z_la 20 x2 v1 fun x3 => z_sa 20 x1 (6 + v1) x3 (r7 (v1 + 1)))
set_option maxHeartbeats 2000000 in
set_option maxRecDepth 20000 in
theorem coX12_stands_B7 (l : Launch) (e : Nat) (he : 0 ≤ e) (v0 : Nat) (r7 : Int32 → zM) (hr7 : ∀ x : Int32, zCo l (e + 1) 0 0 iX12_stands 7 [(0, .ref v0), (1, .int x)] [] (r7 x)) (v1 : Int32) : zCo l (e + 1) 0 0 iX12_stands 7 [(0, .ref v0), (1, .int v1)] [] (X12_stands_B7 v0 r7 v1) := by
  unfold X12_stands_B7
  refine zco_p tkX12_stands_q0 5 2 (pc' := 9) (L' := [(0, .ref v0), (1, .int v1)]) (S' := [.int 5, .int v1]) rfl ?_
  refine zco_icmp_ge (tgt := 33) (zdk (cc := cX12_stands) (q := (9, .if_icmp .ge 24, 3)) tkX12_stands_q0 7 rfl) rfl ?_ ?_
  · exact zco_sub [0] rfl (coX12_stands_J33 l e he v0)
  · refine zco_p tkX12_stands_q0 8 1 (pc' := 13) (L' := [(0, .ref v0), (1, .int v1)]) (S' := [.ref v0]) rfl ?_
    refine zco_gr fl_12_105 rfl (zdk (cc := cX12_stands) (q := (13, .getfield 105, 3)) tkX12_stands_q0 9 rfl) (fun x1 => ?_)
    refine zco_p tkX12_stands_q0 10 4 (pc' := 21) (L' := [(0, .ref v0), (1, .int v1)]) (S' := [.ref v0, .int (6 + v1), .ref x1]) rfl ?_
    refine zco_gr fl_12_105 rfl (zdk (cc := cX12_stands) (q := (21, .getfield 105, 3)) tkX12_stands_q0 14 rfl) (fun x2 => ?_)
    refine zco_p tkX12_stands_q0 15 1 (pc' := 25) (L' := [(0, .ref v0), (1, .int v1)]) (S' := [.int v1, .ref x2, .int (6 + v1), .ref x1]) rfl ?_
    refine zco_iaload (zdk (cc := cX12_stands) (q := (25, .iaload, 1)) tkX12_stands_q0 16 rfl) (fun x3 => ?_)
    refine zco_iastore (zdk (cc := cX12_stands) (q := (26, .iastore, 1)) tkX12_stands_q0 17 rfl) ?_
    refine zco_p tkX12_stands_q0 18 2 (pc' := 7) (L' := [(1, .int (v1 + 1)), (0, .ref v0)]) (S' := []) rfl ?_
    exact zco_sub [1, 0] rfl (hr7 (v1 + 1))
def X12_stands (v0 : Nat) : zM := z_pb 12 53 v0 1 (z_fix (fun r x => X12_stands_B7 v0 r x) zFU 0)
set_option maxHeartbeats 2000000 in
set_option maxRecDepth 20000 in
theorem coX12_stands (l : Launch) (e : Nat) (he : 0 ≤ e) (v0 : Nat) : zCo l (e + 1) 0 0 iX12_stands 0 [(0, .ref v0)] [] (X12_stands v0) := by
  unfold X12_stands
  refine zco_p tkX12_stands_q0 0 2 (pc' := 2) (L' := [(0, .ref v0)]) (S' := [.int 1, .ref v0]) rfl ?_
  refine zco_pb fl_12_406 rfl rfl (zdk (cc := cX12_stands) (q := (2, .putfield 406, 3)) tkX12_stands_q0 2 rfl) ?_
  refine zco_p tkX12_stands_q0 3 2 (pc' := 7) (L' := [(1, .int 0), (0, .ref v0)]) (S' := []) rfl ?_
  exact zco_sub [1, 0] rfl (zco_fix (Lf := fun x : Int32 => [(0, .ref v0), (1, .int x)]) (Sf := fun _ => []) (fun r hr x => coX12_stands_B7 l e he v0 r hr x) zFU 0)
theorem mtX12_stands (l : Launch) (d : Nat) (hd : 1 ≤ d) (v0 : Nat) : zMet l d 0 0 yX12_stands cX12_stands 2 (Option.none : Option FieldType) [.ref v0] (X12_stands v0) := by
  obtain ⟨e, rfl⟩ : ∃ e, d = e + 1 := ⟨d - 1, by omega⟩
  exact zmet_of (own := RX12) (ini := false) (by decide +kernel) rfl (fun _ => by contradiction) (Nat.le_of_ble_eq_true rfl) (coX12_stands l e (by omega) v0)
abbrev iX12_church : zI := (RX12, cX12_church, 2, (Option.some .int), false)
def tX12_church : List (Nat × Instr × Nat) := [(0, .aload_n 0, 1), (1, .aload_n 0, 1), (2, .getfield 267, 3), (5, .putfield 279, 3), (8, .aload_n 0, 1), (9, .iconst 0, 1), (10, .putfield 267, 3), (13, .aload_n 0, 1), (14, .iconst 0, 1), (15, .putfield 276, 3), (18, .aload_n 0, 1), (19, .iconst (-1), 1), (20, .putfield 290, 3), (23, .aload_n 0, 1), (24, .iconst 0, 1), (25, .putfield 270, 3), (28, .aload_n 0, 1), (29, .iconst (-1), 1), (30, .putfield 273, 3), (33, .aload_n 0, 1), (34, .iconst 0, 1), (35, .putfield 371, 3), (38, .iconst 0, 1), (39, .istore_n 1, 1), (40, .iload_n 1, 1), (41, .iconst 5, 1), (42, .if_icmp .ge 25, 3), (45, .aload_n 0, 1), (46, .getfield 105, 3), (49, .iload_n 1, 1), (50, .iload_n 1, 1), (51, .iconst 3, 1), (52, .if_icmp .ne 7, 3), (55, .iconst 3, 1), (56, .goto 4, 3), (59, .iconst 0, 1), (60, .iastore, 1), (61, .iinc 1 1, 3), (64, .goto (-24), 3), (67, .iconst 0, 1), (68, .istore_n 1, 1), (69, .iload_n 1, 1), (70, .bipush 72, 2), (72, .if_icmp .ge 36, 3), (75, .iload_n 1, 1), (76, .bipush 36, 2), (78, .if_icmp .ge 10, 3), (81, .aload_n 0, 1), (82, .getfield 115, 3), (85, .iload_n 1, 1), (86, .iconst 0, 1), (87, .bastore, 1), (88, .aload_n 0, 1), (89, .getfield 119, 3), (92, .iload_n 1, 1), (93, .iconst 5, 1), (94, .iastore, 1), (95, .aload_n 0, 1), (96, .getfield 122, 3), (99, .iload_n 1, 1), (100, .iconst 0, 1), (101, .iastore, 1), (102, .iinc 1 1, 3), (105, .goto (-36), 3), (108, .iconst 0, 1), (109, .istore_n 1, 1), (110, .iload_n 1, 1), (111, .iconst 3, 1), (112, .if_icmp .ge 16, 3), (115, .aload_n 0, 1), (116, .getfield 125, 3), (119, .iload_n 1, 1), (120, .iconst (-1), 1), (121, .iastore, 1), (122, .iinc 1 1, 3), (125, .goto (-15), 3), (128, .aload_n 0, 1), (129, .iconst 0, 1), (130, .putfield 374, 3), (133, .aload_n 0, 1), (134, .getfield 270, 3), (137, .ifCond .ne 18, 3), (140, .aload_n 0, 1), (141, .invokevirtual 282, 3), (144, .iconst (-1), 1), (145, .if_icmp .eq 10, 3), (148, .aload_n 0, 1), (149, .invokevirtual 394, 3), (152, .goto (-19), 3), (155, .aload_n 0, 1), (156, .aload_n 0, 1), (157, .getfield 270, 3), (160, .putfield 397, 3), (163, .aload_n 0, 1), (164, .aload_n 0, 1), (165, .getfield 273, 3), (168, .putfield 13, 3), (171, .aload_n 0, 1), (172, .getfield 270, 3), (175, .ifCond .eq 9, 3), (178, .aload_n 0, 1), (179, .iconst 1, 1), (180, .invokevirtual 400, 3), (183, .ireturn, 1), (184, .aload_n 0, 1), (185, .invokevirtual 403, 3), (188, .aload_n 0, 1), (189, .getfield 374, 3), (192, .ireturn, 1)]
set_option maxRecDepth 100000 in
theorem tkX12_church : ∀ q ∈ tX12_church, decode cX12_church q.1 = .ok q.2 := by decide +kernel
theorem vmX12_church : zVM yX12_church cX12_church 2 (Option.some .int) 0 12 := ⟨kX12_church, q_1746, q_1747, q_160, ⟨_, rfl, rfl⟩, by decide +kernel, by decide⟩
def X12_church_J155 (v0 : Nat) : zM := z_gi 12 5 v0 fun x1 => z_pi 12 7 v0 x1 (z_gi 12 6 v0 fun x2 => z_pi 12 8 v0 x2 (z_gi 12 5 v0 fun x3 => z_if (x3 = 0) (z_rc 12 v0 (z_cv (X12_stands v0) (z_gi 12 50 v0 fun x4 => z_ret (some (.int x4)))))
   (z_rc 12 v0 (z_ci (X12_refuses v0 1) fun y5 => z_ret (some (.int y5))))))
set_option maxHeartbeats 2000000 in
set_option maxRecDepth 20000 in
theorem coX12_church_J155 (l : Launch) (e : Nat) (he : 11 ≤ e) (v0 : Nat) : zCo l (e + 1) 0 0 iX12_church 155 [(0, .ref v0)] [] (X12_church_J155 v0) := by
  unfold X12_church_J155
  refine zco_p tkX12_church 89 2 (pc' := 157) (L' := [(0, .ref v0)]) (S' := [.ref v0, .ref v0]) rfl ?_
  refine zco_gi fl_12_270 rfl (zdk (cc := cX12_church) (q := (157, .getfield 270, 3)) tkX12_church 91 rfl) (fun x1 => ?_)
  refine zco_pi fl_12_397 rfl rfl (zdk (cc := cX12_church) (q := (160, .putfield 397, 3)) tkX12_church 92 rfl) ?_
  refine zco_p tkX12_church 93 2 (pc' := 165) (L' := [(0, .ref v0)]) (S' := [.ref v0, .ref v0]) rfl ?_
  refine zco_gi fl_12_273 rfl (zdk (cc := cX12_church) (q := (165, .getfield 273, 3)) tkX12_church 95 rfl) (fun x2 => ?_)
  refine zco_pi fl_12_13 rfl rfl (zdk (cc := cX12_church) (q := (168, .putfield 13, 3)) tkX12_church 96 rfl) ?_
  refine zco_p tkX12_church 97 1 (pc' := 172) (L' := [(0, .ref v0)]) (S' := [.ref v0]) rfl ?_
  refine zco_gi fl_12_270 rfl (zdk (cc := cX12_church) (q := (172, .getfield 270, 3)) tkX12_church 98 rfl) (fun x3 => ?_)
  refine zco_if_eq (tgt := 184) (zdk (cc := cX12_church) (q := (175, .ifCond .eq 9, 3)) tkX12_church 99 rfl) rfl ?_ ?_
  · refine zco_p tkX12_church 104 1 (pc' := 185) (L' := [(0, .ref v0)]) (S' := [.ref v0]) rfl ?_
    refine zco_Vv (rc := 0) (rs := 0) (mc := 0) (ms := 0) (As := []) (S := []) vmX12_stands (mtX12_stands l e (by omega) v0) q_1910 rfl rfl (Nat.le_of_ble_eq_true rfl) (zdk (cc := cX12_church) (q := (185, .invokevirtual 403, 3)) tkX12_church 105 rfl) ?_
    refine zco_p tkX12_church 106 1 (pc' := 189) (L' := [(0, .ref v0)]) (S' := [.ref v0]) rfl ?_
    refine zco_gi fl_12_374 rfl (zdk (cc := cX12_church) (q := (189, .getfield 374, 3)) tkX12_church 107 rfl) (fun x4 => ?_)
    exact zco_iret rfl rfl rfl (zdk (cc := cX12_church) (q := (192, .ireturn, 1)) tkX12_church 108 rfl)
  · refine zco_p tkX12_church 100 2 (pc' := 180) (L' := [(0, .ref v0)]) (S' := [.int 1, .ref v0]) rfl ?_
    refine zco_Vi (rc := 0) (rs := 0) (mc := 0) (ms := 0) (As := [.int 1]) (S := []) vmX12_refuses (mtX12_refuses l e (by omega) v0 1) q_1906 rfl rfl (Nat.le_of_ble_eq_true rfl) (zdk (cc := cX12_church) (q := (180, .invokevirtual 400, 3)) tkX12_church 102 rfl) (fun y5 => ?_)
    exact zco_iret rfl rfl rfl (zdk (cc := cX12_church) (q := (183, .ireturn, 1)) tkX12_church 103 rfl)
def X12_church_B133 (v0 : Nat) (r133 : Unit → zM) : zM := z_gi 12 5 v0 fun x1 => z_if (x1 = 0) (z_rc 12 v0 (z_ci (X12_look v0) fun y2 => z_if (y2 = ((-1))) (X12_church_J155 v0)
   (z_rc 12 v0 (z_cv (X12_statementTold v0) (r133 (()))))))
   (X12_church_J155 v0)
set_option maxHeartbeats 2000000 in
set_option maxRecDepth 20000 in
theorem coX12_church_B133 (l : Launch) (e : Nat) (he : 11 ≤ e) (v0 : Nat) (r133 : Unit → zM) (hr133 : ∀ x : Unit, zCo l (e + 1) 0 0 iX12_church 133 [(0, .ref v0)] [] (r133 x)) : zCo l (e + 1) 0 0 iX12_church 133 [(0, .ref v0)] [] (X12_church_B133 v0 r133) := by
  unfold X12_church_B133
  refine zco_p tkX12_church 79 1 (pc' := 134) (L' := [(0, .ref v0)]) (S' := [.ref v0]) rfl ?_
  refine zco_gi fl_12_270 rfl (zdk (cc := cX12_church) (q := (134, .getfield 270, 3)) tkX12_church 80 rfl) (fun x1 => ?_)
  refine zco_if_ne (tgt := 155) (zdk (cc := cX12_church) (q := (137, .ifCond .ne 18, 3)) tkX12_church 81 rfl) rfl ?_ ?_
  · exact zco_sub [0] rfl (coX12_church_J155 l e he v0)
  · refine zco_p tkX12_church 82 1 (pc' := 141) (L' := [(0, .ref v0)]) (S' := [.ref v0]) rfl ?_
    refine zco_Vi (rc := 0) (rs := 0) (mc := 0) (ms := 0) (As := []) (S := []) vmX12_look (mtX12_look l e (by omega) v0) q_1749 rfl rfl (Nat.le_of_ble_eq_true rfl) (zdk (cc := cX12_church) (q := (141, .invokevirtual 282, 3)) tkX12_church 83 rfl) (fun y2 => ?_)
    refine zco_p tkX12_church 84 1 (pc' := 145) (L' := [(0, .ref v0)]) (S' := [.int ((-1)), .int y2]) rfl ?_
    refine zco_icmp_eq (tgt := 155) (zdk (cc := cX12_church) (q := (145, .if_icmp .eq 10, 3)) tkX12_church 85 rfl) rfl ?_ ?_
    · exact zco_sub [0] rfl (coX12_church_J155 l e he v0)
    · refine zco_p tkX12_church 86 1 (pc' := 149) (L' := [(0, .ref v0)]) (S' := [.ref v0]) rfl ?_
      refine zco_Vv (rc := 0) (rs := 0) (mc := 0) (ms := 0) (As := []) (S := []) vmX12_statementTold (mtX12_statementTold l e (by omega) v0) q_1753 rfl rfl (Nat.le_of_ble_eq_true rfl) (zdk (cc := cX12_church) (q := (149, .invokevirtual 394, 3)) tkX12_church 87 rfl) ?_
      refine zco_p tkX12_church 88 1 (pc' := 133) (L' := [(0, .ref v0)]) (S' := []) rfl ?_
      exact zco_sub [0] rfl (hr133 (()))
def X12_church_J128 (v0 : Nat) : zM := z_pi 12 50 v0 0 (z_fix (fun r x => X12_church_B133 v0 r ) zFU (()))
set_option maxHeartbeats 2000000 in
set_option maxRecDepth 20000 in
theorem coX12_church_J128 (l : Launch) (e : Nat) (he : 11 ≤ e) (v0 : Nat) : zCo l (e + 1) 0 0 iX12_church 128 [(0, .ref v0)] [] (X12_church_J128 v0) := by
  unfold X12_church_J128
  refine zco_p tkX12_church 76 2 (pc' := 130) (L' := [(0, .ref v0)]) (S' := [.int 0, .ref v0]) rfl ?_
  refine zco_pi fl_12_374 rfl rfl (zdk (cc := cX12_church) (q := (130, .putfield 374, 3)) tkX12_church 78 rfl) ?_
  exact zco_sub [0] rfl (zco_fix (Lf := fun x : Unit => [(0, .ref v0)]) (Sf := fun _ => []) (fun r hr x => coX12_church_B133 l e he v0 r hr ) zFU (()))
def X12_church_B110 (v0 : Nat) (r110 : Int32 → zM) (v1 : Int32) : zM := z_if (3 ≤ v1) (X12_church_J128 v0)
   (z_gr 12 46 v0 fun x1 => z_sa 20 x1 v1 ((-1)) (r110 (v1 + 1)))
set_option maxHeartbeats 2000000 in
set_option maxRecDepth 20000 in
theorem coX12_church_B110 (l : Launch) (e : Nat) (he : 11 ≤ e) (v0 : Nat) (r110 : Int32 → zM) (hr110 : ∀ x : Int32, zCo l (e + 1) 0 0 iX12_church 110 [(0, .ref v0), (1, .int x)] [] (r110 x)) (v1 : Int32) : zCo l (e + 1) 0 0 iX12_church 110 [(0, .ref v0), (1, .int v1)] [] (X12_church_B110 v0 r110 v1) := by
  unfold X12_church_B110
  refine zco_p tkX12_church 66 2 (pc' := 112) (L' := [(0, .ref v0), (1, .int v1)]) (S' := [.int 3, .int v1]) rfl ?_
  refine zco_icmp_ge (tgt := 128) (zdk (cc := cX12_church) (q := (112, .if_icmp .ge 16, 3)) tkX12_church 68 rfl) rfl ?_ ?_
  · exact zco_sub [0] rfl (coX12_church_J128 l e he v0)
  · refine zco_p tkX12_church 69 1 (pc' := 116) (L' := [(0, .ref v0), (1, .int v1)]) (S' := [.ref v0]) rfl ?_
    refine zco_gr fl_12_125 rfl (zdk (cc := cX12_church) (q := (116, .getfield 125, 3)) tkX12_church 70 rfl) (fun x1 => ?_)
    refine zco_p tkX12_church 71 2 (pc' := 121) (L' := [(0, .ref v0), (1, .int v1)]) (S' := [.int ((-1)), .int v1, .ref x1]) rfl ?_
    refine zco_iastore (zdk (cc := cX12_church) (q := (121, .iastore, 1)) tkX12_church 73 rfl) ?_
    refine zco_p tkX12_church 74 2 (pc' := 110) (L' := [(1, .int (v1 + 1)), (0, .ref v0)]) (S' := []) rfl ?_
    exact zco_sub [1, 0] rfl (hr110 (v1 + 1))
def X12_church_J108 (v0 : Nat) : zM := z_fix (fun r x => X12_church_B110 v0 r x) zFU 0
set_option maxHeartbeats 2000000 in
set_option maxRecDepth 20000 in
theorem coX12_church_J108 (l : Launch) (e : Nat) (he : 11 ≤ e) (v0 : Nat) : zCo l (e + 1) 0 0 iX12_church 108 [(0, .ref v0)] [] (X12_church_J108 v0) := by
  unfold X12_church_J108
  refine zco_p tkX12_church 64 2 (pc' := 110) (L' := [(1, .int 0), (0, .ref v0)]) (S' := []) rfl ?_
  exact zco_sub [1, 0] rfl (zco_fix (Lf := fun x : Int32 => [(0, .ref v0), (1, .int x)]) (Sf := fun _ => []) (fun r hr x => coX12_church_B110 l e he v0 r hr x) zFU 0)
def X12_church_J88 (r69 : Int32 → zM) (v0 : Nat) (v1 : Int32) : zM := z_gr 12 44 v0 fun x1 => z_sa 20 x1 v1 5 (z_gr 12 45 v0 fun x2 => z_sa 20 x2 v1 0 (r69 (v1 + 1)))
set_option maxHeartbeats 2000000 in
set_option maxRecDepth 20000 in
theorem coX12_church_J88 (l : Launch) (e : Nat) (he : 11 ≤ e) (v0 : Nat) (v1 : Int32) (r69 : Int32 → zM) (hr69 : ∀ x : Int32, zCo l (e + 1) 0 0 iX12_church 69 [(0, .ref v0), (1, .int x)] [] (r69 x)) : zCo l (e + 1) 0 0 iX12_church 88 [(0, .ref v0), (1, .int v1)] [] (X12_church_J88 r69 v0 v1) := by
  unfold X12_church_J88
  refine zco_p tkX12_church 52 1 (pc' := 89) (L' := [(0, .ref v0), (1, .int v1)]) (S' := [.ref v0]) rfl ?_
  refine zco_gr fl_12_119 rfl (zdk (cc := cX12_church) (q := (89, .getfield 119, 3)) tkX12_church 53 rfl) (fun x1 => ?_)
  refine zco_p tkX12_church 54 2 (pc' := 94) (L' := [(0, .ref v0), (1, .int v1)]) (S' := [.int 5, .int v1, .ref x1]) rfl ?_
  refine zco_iastore (zdk (cc := cX12_church) (q := (94, .iastore, 1)) tkX12_church 56 rfl) ?_
  refine zco_p tkX12_church 57 1 (pc' := 96) (L' := [(0, .ref v0), (1, .int v1)]) (S' := [.ref v0]) rfl ?_
  refine zco_gr fl_12_122 rfl (zdk (cc := cX12_church) (q := (96, .getfield 122, 3)) tkX12_church 58 rfl) (fun x2 => ?_)
  refine zco_p tkX12_church 59 2 (pc' := 101) (L' := [(0, .ref v0), (1, .int v1)]) (S' := [.int 0, .int v1, .ref x2]) rfl ?_
  refine zco_iastore (zdk (cc := cX12_church) (q := (101, .iastore, 1)) tkX12_church 61 rfl) ?_
  refine zco_p tkX12_church 62 2 (pc' := 69) (L' := [(1, .int (v1 + 1)), (0, .ref v0)]) (S' := []) rfl ?_
  exact zco_sub [1, 0] rfl (hr69 (v1 + 1))
def X12_church_B69 (v0 : Nat) (r69 : Int32 → zM) (v1 : Int32) : zM := z_if (72 ≤ v1) (X12_church_J108 v0)
   (z_if (36 ≤ v1) (X12_church_J88 r69 v0 v1)
   (z_gr 12 43 v0 fun x1 => z_sa 21 x1 v1 (vp_nar .boolean 0) (X12_church_J88 r69 v0 v1)))
set_option maxHeartbeats 2000000 in
set_option maxRecDepth 20000 in
theorem coX12_church_B69 (l : Launch) (e : Nat) (he : 11 ≤ e) (v0 : Nat) (r69 : Int32 → zM) (hr69 : ∀ x : Int32, zCo l (e + 1) 0 0 iX12_church 69 [(0, .ref v0), (1, .int x)] [] (r69 x)) (v1 : Int32) : zCo l (e + 1) 0 0 iX12_church 69 [(0, .ref v0), (1, .int v1)] [] (X12_church_B69 v0 r69 v1) := by
  unfold X12_church_B69
  refine zco_p tkX12_church 41 2 (pc' := 72) (L' := [(0, .ref v0), (1, .int v1)]) (S' := [.int 72, .int v1]) rfl ?_
  refine zco_icmp_ge (tgt := 108) (zdk (cc := cX12_church) (q := (72, .if_icmp .ge 36, 3)) tkX12_church 43 rfl) rfl ?_ ?_
  · exact zco_sub [0] rfl (coX12_church_J108 l e he v0)
  · refine zco_p tkX12_church 44 2 (pc' := 78) (L' := [(0, .ref v0), (1, .int v1)]) (S' := [.int 36, .int v1]) rfl ?_
    refine zco_icmp_ge (tgt := 88) (zdk (cc := cX12_church) (q := (78, .if_icmp .ge 10, 3)) tkX12_church 46 rfl) rfl ?_ ?_
    · exact zco_sub [0, 1] rfl (coX12_church_J88 l e he v0 v1 r69 hr69)
    · refine zco_p tkX12_church 47 1 (pc' := 82) (L' := [(0, .ref v0), (1, .int v1)]) (S' := [.ref v0]) rfl ?_
      refine zco_gr fl_12_115 rfl (zdk (cc := cX12_church) (q := (82, .getfield 115, 3)) tkX12_church 48 rfl) (fun x1 => ?_)
      refine zco_p tkX12_church 49 2 (pc' := 87) (L' := [(0, .ref v0), (1, .int v1)]) (S' := [.int 0, .int v1, .ref x1]) rfl ?_
      refine zco_bastore (zdk (cc := cX12_church) (q := (87, .bastore, 1)) tkX12_church 51 rfl) ?_
      exact zco_sub [0, 1] rfl (coX12_church_J88 l e he v0 v1 r69 hr69)
def X12_church_J67 (v0 : Nat) : zM := z_fix (fun r x => X12_church_B69 v0 r x) zFU 0
set_option maxHeartbeats 2000000 in
set_option maxRecDepth 20000 in
theorem coX12_church_J67 (l : Launch) (e : Nat) (he : 11 ≤ e) (v0 : Nat) : zCo l (e + 1) 0 0 iX12_church 67 [(0, .ref v0)] [] (X12_church_J67 v0) := by
  unfold X12_church_J67
  refine zco_p tkX12_church 39 2 (pc' := 69) (L' := [(1, .int 0), (0, .ref v0)]) (S' := []) rfl ?_
  exact zco_sub [1, 0] rfl (zco_fix (Lf := fun x : Int32 => [(0, .ref v0), (1, .int x)]) (Sf := fun _ => []) (fun r hr x => coX12_church_B69 l e he v0 r hr x) zFU 0)
def X12_church_J60 (r40 : Int32 → zM) (v0 : Nat) (v1 : Int32) (s0 : Int32) (s1 : Int32) (s2 : Nat) : zM := z_sa 20 s2 s1 s0 (r40 (v1 + 1))
set_option maxHeartbeats 2000000 in
set_option maxRecDepth 20000 in
theorem coX12_church_J60 (l : Launch) (e : Nat) (he : 11 ≤ e) (v0 : Nat) (v1 : Int32) (r40 : Int32 → zM) (hr40 : ∀ x : Int32, zCo l (e + 1) 0 0 iX12_church 40 [(0, .ref v0), (1, .int x)] [] (r40 x)) (s0 : Int32) (s1 : Int32) (s2 : Nat) : zCo l (e + 1) 0 0 iX12_church 60 [(0, .ref v0), (1, .int v1)] [.int s0, .int s1, .ref s2] (X12_church_J60 r40 v0 v1 s0 s1 s2) := by
  unfold X12_church_J60
  refine zco_iastore (zdk (cc := cX12_church) (q := (60, .iastore, 1)) tkX12_church 36 rfl) ?_
  refine zco_p tkX12_church 37 2 (pc' := 40) (L' := [(1, .int (v1 + 1)), (0, .ref v0)]) (S' := []) rfl ?_
  exact zco_sub [1, 0] rfl (hr40 (v1 + 1))
def X12_church_B40 (v0 : Nat) (r40 : Int32 → zM) (v1 : Int32) : zM := z_if (5 ≤ v1) (X12_church_J67 v0)
   (z_gr 12 40 v0 fun x1 => z_if (v1 = 3) (X12_church_J60 r40 v0 v1 3 v1 x1)
   (X12_church_J60 r40 v0 v1 0 v1 x1))
set_option maxHeartbeats 2000000 in
set_option maxRecDepth 20000 in
theorem coX12_church_B40 (l : Launch) (e : Nat) (he : 11 ≤ e) (v0 : Nat) (r40 : Int32 → zM) (hr40 : ∀ x : Int32, zCo l (e + 1) 0 0 iX12_church 40 [(0, .ref v0), (1, .int x)] [] (r40 x)) (v1 : Int32) : zCo l (e + 1) 0 0 iX12_church 40 [(0, .ref v0), (1, .int v1)] [] (X12_church_B40 v0 r40 v1) := by
  unfold X12_church_B40
  refine zco_p tkX12_church 24 2 (pc' := 42) (L' := [(0, .ref v0), (1, .int v1)]) (S' := [.int 5, .int v1]) rfl ?_
  refine zco_icmp_ge (tgt := 67) (zdk (cc := cX12_church) (q := (42, .if_icmp .ge 25, 3)) tkX12_church 26 rfl) rfl ?_ ?_
  · exact zco_sub [0] rfl (coX12_church_J67 l e he v0)
  · refine zco_p tkX12_church 27 1 (pc' := 46) (L' := [(0, .ref v0), (1, .int v1)]) (S' := [.ref v0]) rfl ?_
    refine zco_gr fl_12_105 rfl (zdk (cc := cX12_church) (q := (46, .getfield 105, 3)) tkX12_church 28 rfl) (fun x1 => ?_)
    refine zco_p tkX12_church 29 3 (pc' := 52) (L' := [(0, .ref v0), (1, .int v1)]) (S' := [.int 3, .int v1, .int v1, .ref x1]) rfl ?_
    refine zco_icmp_ne (tgt := 59) (zdk (cc := cX12_church) (q := (52, .if_icmp .ne 7, 3)) tkX12_church 32 rfl) rfl ?_ ?_
    · refine zco_p tkX12_church 35 1 (pc' := 60) (L' := [(0, .ref v0), (1, .int v1)]) (S' := [.int 0, .int v1, .ref x1]) rfl ?_
      exact zco_sub [0, 1] rfl (coX12_church_J60 l e he v0 v1 r40 hr40 0 v1 x1)
    · refine zco_p tkX12_church 33 2 (pc' := 60) (L' := [(0, .ref v0), (1, .int v1)]) (S' := [.int 3, .int v1, .ref x1]) rfl ?_
      exact zco_sub [0, 1] rfl (coX12_church_J60 l e he v0 v1 r40 hr40 3 v1 x1)
def X12_church (v0 : Nat) : zM := z_gi 12 1 v0 fun x1 => z_pi 12 3 v0 x1 (z_pi 12 1 v0 0 (z_pi 12 2 v0 0 (z_pi 12 4 v0 ((-1)) (z_pi 12 5 v0 0 (z_pi 12 6 v0 ((-1)) (z_pi 12 49 v0 0 (z_fix (fun r x => X12_church_B40 v0 r x) zFU 0)))))))
set_option maxHeartbeats 2000000 in
set_option maxRecDepth 20000 in
theorem coX12_church (l : Launch) (e : Nat) (he : 11 ≤ e) (v0 : Nat) : zCo l (e + 1) 0 0 iX12_church 0 [(0, .ref v0)] [] (X12_church v0) := by
  unfold X12_church
  refine zco_p tkX12_church 0 2 (pc' := 2) (L' := [(0, .ref v0)]) (S' := [.ref v0, .ref v0]) rfl ?_
  refine zco_gi fl_12_267 rfl (zdk (cc := cX12_church) (q := (2, .getfield 267, 3)) tkX12_church 2 rfl) (fun x1 => ?_)
  refine zco_pi fl_12_279 rfl rfl (zdk (cc := cX12_church) (q := (5, .putfield 279, 3)) tkX12_church 3 rfl) ?_
  refine zco_p tkX12_church 4 2 (pc' := 10) (L' := [(0, .ref v0)]) (S' := [.int 0, .ref v0]) rfl ?_
  refine zco_pi fl_12_267 rfl rfl (zdk (cc := cX12_church) (q := (10, .putfield 267, 3)) tkX12_church 6 rfl) ?_
  refine zco_p tkX12_church 7 2 (pc' := 15) (L' := [(0, .ref v0)]) (S' := [.int 0, .ref v0]) rfl ?_
  refine zco_pi fl_12_276 rfl rfl (zdk (cc := cX12_church) (q := (15, .putfield 276, 3)) tkX12_church 9 rfl) ?_
  refine zco_p tkX12_church 10 2 (pc' := 20) (L' := [(0, .ref v0)]) (S' := [.int ((-1)), .ref v0]) rfl ?_
  refine zco_pi fl_12_290 rfl rfl (zdk (cc := cX12_church) (q := (20, .putfield 290, 3)) tkX12_church 12 rfl) ?_
  refine zco_p tkX12_church 13 2 (pc' := 25) (L' := [(0, .ref v0)]) (S' := [.int 0, .ref v0]) rfl ?_
  refine zco_pi fl_12_270 rfl rfl (zdk (cc := cX12_church) (q := (25, .putfield 270, 3)) tkX12_church 15 rfl) ?_
  refine zco_p tkX12_church 16 2 (pc' := 30) (L' := [(0, .ref v0)]) (S' := [.int ((-1)), .ref v0]) rfl ?_
  refine zco_pi fl_12_273 rfl rfl (zdk (cc := cX12_church) (q := (30, .putfield 273, 3)) tkX12_church 18 rfl) ?_
  refine zco_p tkX12_church 19 2 (pc' := 35) (L' := [(0, .ref v0)]) (S' := [.int 0, .ref v0]) rfl ?_
  refine zco_pi fl_12_371 rfl rfl (zdk (cc := cX12_church) (q := (35, .putfield 371, 3)) tkX12_church 21 rfl) ?_
  refine zco_p tkX12_church 22 2 (pc' := 40) (L' := [(1, .int 0), (0, .ref v0)]) (S' := []) rfl ?_
  exact zco_sub [1, 0] rfl (zco_fix (Lf := fun x : Int32 => [(0, .ref v0), (1, .int x)]) (Sf := fun _ => []) (fun r hr x => coX12_church_B40 l e he v0 r hr x) zFU 0)
theorem mtX12_church (l : Launch) (d : Nat) (hd : 12 ≤ d) (v0 : Nat) : zMet l d 0 0 yX12_church cX12_church 2 (Option.some .int) [.ref v0] (X12_church v0) := by
  obtain ⟨e, rfl⟩ : ∃ e, d = e + 1 := ⟨d - 1, by omega⟩
  exact zmet_of (own := RX12) (ini := false) (by decide +kernel) rfl (fun _ => by contradiction) (Nat.le_of_ble_eq_true rfl) (coX12_church l e (by omega) v0)
