abbrev iX9_open : zI := (RX9, cX9_open, 2, (Option.none : Option FieldType), false)
def tX9_open : List (Nat × Instr × Nat) := [(0, .aload_n 0, 1), (1, .iload_n 1, 1), (2, .putfield 9, 3), (5, .aload_n 0, 1), (6, .iconst 0, 1), (7, .putfield 15, 3), (10, .aload_n 0, 1), (11, .iconst 0, 1), (12, .putfield 18, 3), (15, .aload_n 0, 1), (16, .iconst (-1), 1), (17, .putfield 21, 3), (20, .return_, 1)]
set_option maxRecDepth 100000 in
theorem tkX9_open : ∀ q ∈ tX9_open, decode cX9_open q.1 = .ok q.2 := by decide +kernel
theorem vmX9_open : zVM yX9_open cX9_open 2 (Option.none : Option FieldType) 1 9 := ⟨kX9_open, q_645, q_646, q_150, ⟨_, rfl, rfl⟩, by decide +kernel, by decide⟩
set_option maxHeartbeats 2000000 in
set_option maxRecDepth 20000 in
theorem coX9_open (l : Launch) (e : Nat) (he : 0 ≤ e) (v0 : Nat) (v1 : Int32) : zCo l (e + 1) 0 0 iX9_open 0 [(0, .ref v0), (1, .int v1)] [] (X9_open v0 v1) := by
  unfold X9_open
  refine zco_p tkX9_open 0 2 (pc' := 2) (L' := [(0, .ref v0), (1, .int v1)]) (S' := [.int v1, .ref v0]) rfl ?_
  refine zco_pi fl_9_9 rfl rfl (zdk (cc := cX9_open) (q := (2, .putfield 9, 3)) tkX9_open 2 rfl) ?_
  refine zco_p tkX9_open 3 2 (pc' := 7) (L' := [(0, .ref v0), (1, .int v1)]) (S' := [.int 0, .ref v0]) rfl ?_
  refine zco_pi fl_9_15 rfl rfl (zdk (cc := cX9_open) (q := (7, .putfield 15, 3)) tkX9_open 5 rfl) ?_
  refine zco_p tkX9_open 6 2 (pc' := 12) (L' := [(0, .ref v0), (1, .int v1)]) (S' := [.int 0, .ref v0]) rfl ?_
  refine zco_pi fl_9_18 rfl rfl (zdk (cc := cX9_open) (q := (12, .putfield 18, 3)) tkX9_open 8 rfl) ?_
  refine zco_p tkX9_open 9 2 (pc' := 17) (L' := [(0, .ref v0), (1, .int v1)]) (S' := [.int ((-1)), .ref v0]) rfl ?_
  refine zco_pi fl_9_21 rfl rfl (zdk (cc := cX9_open) (q := (17, .putfield 21, 3)) tkX9_open 11 rfl) ?_
  exact zco_vret rfl rfl rfl (zdk (cc := cX9_open) (q := (20, .return_, 1)) tkX9_open 12 rfl)
theorem mtX9_open (l : Launch) (d : Nat) (hd : 1 ≤ d) (v0 : Nat) (v1 : Int32) : zMet l d 0 0 yX9_open cX9_open 2 (Option.none : Option FieldType) [.ref v0, .int v1] (X9_open v0 v1) := by
  obtain ⟨e, rfl⟩ : ∃ e, d = e + 1 := ⟨d - 1, by omega⟩
  exact zmet_of (own := RX9) (ini := false) (by decide +kernel) rfl (fun _ => by contradiction) (Nat.le_of_ble_eq_true rfl) (coX9_open l e (by omega) v0 v1)
abbrev iJ7_fill_53178 : zI := (RJ7, cJ7_fill_53178, 4, (Option.none : Option FieldType), false)
def tJ7_fill_53178 : List (Nat × Instr × Nat) := [(0, .iconst 0, 1), (1, .istore_n 2, 1), (2, .aload_n 0, 1), (3, .arraylength, 1), (4, .istore_n 3, 1), (5, .iload_n 2, 1), (6, .iload_n 3, 1), (7, .if_icmp .ge 13, 3), (10, .aload_n 0, 1), (11, .iload_n 2, 1), (12, .iload_n 1, 1), (13, .iastore, 1), (14, .iinc 2 1, 3), (17, .goto (-12), 3), (20, .return_, 1)]
set_option maxRecDepth 100000 in
theorem tkJ7_fill_53178 : ∀ q ∈ tJ7_fill_53178, decode cJ7_fill_53178 q.1 = .ok q.2 := by decide +kernel
theorem vmJ7_fill_53178 : zSM yJ7_fill_53178 cJ7_fill_53178 4 (Option.none : Option FieldType) 2 := ⟨kJ7_fill_53178, q_657, q_163, by decide +kernel, by decide⟩
set_option maxHeartbeats 2000000 in
set_option maxRecDepth 20000 in
theorem coJ7_fill_53178_B5 (l : Launch) (e : Nat) (he : 0 ≤ e) (v0 : Nat) (v1 : Int32) (v3 : Int32) (r5 : Int32 → zM) (hr5 : ∀ x : Int32, zCo l (e + 1) 0 0 iJ7_fill_53178 5 [(0, .ref v0), (1, .int v1), (2, .int x), (3, .int v3)] [] (r5 x)) (v2 : Int32) : zCo l (e + 1) 0 0 iJ7_fill_53178 5 [(0, .ref v0), (1, .int v1), (2, .int v2), (3, .int v3)] [] (J7_fill_53178_B5 v0 v1 v3 r5 v2) := by
  unfold J7_fill_53178_B5
  refine zco_p tkJ7_fill_53178 5 2 (pc' := 7) (L' := [(0, .ref v0), (1, .int v1), (2, .int v2), (3, .int v3)]) (S' := [.int v3, .int v2]) rfl ?_
  refine zco_icmp_ge (tgt := 20) (zdk (cc := cJ7_fill_53178) (q := (7, .if_icmp .ge 13, 3)) tkJ7_fill_53178 7 rfl) rfl ?_ ?_
  · exact zco_vret rfl rfl rfl (zdk (cc := cJ7_fill_53178) (q := (20, .return_, 1)) tkJ7_fill_53178 14 rfl)
  · refine zco_p tkJ7_fill_53178 8 3 (pc' := 13) (L' := [(0, .ref v0), (1, .int v1), (2, .int v2), (3, .int v3)]) (S' := [.int v1, .int v2, .ref v0]) rfl ?_
    refine zco_iastore (zdk (cc := cJ7_fill_53178) (q := (13, .iastore, 1)) tkJ7_fill_53178 11 rfl) ?_
    refine zco_p tkJ7_fill_53178 12 2 (pc' := 5) (L' := [(2, .int (v2 + 1)), (0, .ref v0), (1, .int v1), (3, .int v3)]) (S' := []) rfl ?_
    exact zco_sub [1, 2, 0, 3] rfl (hr5 (v2 + 1))
set_option maxHeartbeats 2000000 in
set_option maxRecDepth 20000 in
theorem coJ7_fill_53178 (l : Launch) (e : Nat) (he : 0 ≤ e) (v0 : Nat) (v1 : Int32) : zCo l (e + 1) 0 0 iJ7_fill_53178 0 [(0, .ref v0), (1, .int v1)] [] (J7_fill_53178 v0 v1) := by
  unfold J7_fill_53178
  refine zco_p tkJ7_fill_53178 0 3 (pc' := 3) (L' := [(2, .int 0), (0, .ref v0), (1, .int v1)]) (S' := [.ref v0]) rfl ?_
  refine zco_alen (zdk (cc := cJ7_fill_53178) (q := (3, .arraylength, 1)) tkJ7_fill_53178 3 rfl) (fun x1 => ?_)
  refine zco_p tkJ7_fill_53178 4 1 (pc' := 5) (L' := [(3, .int x1), (2, .int 0), (0, .ref v0), (1, .int v1)]) (S' := []) rfl ?_
  exact zco_sub [2, 3, 1, 0] rfl (zco_fix (Lf := fun x : Int32 => [(0, .ref v0), (1, .int v1), (2, .int x), (3, .int x1)]) (Sf := fun _ => []) (fun r hr x => coJ7_fill_53178_B5 l e he v0 v1 x1 r hr x) zFU 0)
theorem mtJ7_fill_53178 (l : Launch) (d : Nat) (hd : 1 ≤ d) (v0 : Nat) (v1 : Int32) : zMet l d 0 0 yJ7_fill_53178 cJ7_fill_53178 4 (Option.none : Option FieldType) [.ref v0, .int v1] (J7_fill_53178 v0 v1) := by
  obtain ⟨e, rfl⟩ : ∃ e, d = e + 1 := ⟨d - 1, by omega⟩
  exact zmet_of (own := RJ7) (ini := false) (by decide +kernel) rfl (fun _ => by contradiction) (Nat.le_of_ble_eq_true rfl) (coJ7_fill_53178 l e (by omega) v0 v1)
abbrev iX3_clear : zI := (RX3, cX3_clear, 1, (Option.none : Option FieldType), false)
def tX3_clear : List (Nat × Instr × Nat) := [(0, .aload_n 0, 1), (1, .iconst 0, 1), (2, .putfield 15, 3), (5, .aload_n 0, 1), (6, .getfield 19, 3), (9, .iconst (-1), 1), (10, .invokestatic 28, 3), (13, .aload_n 0, 1), (14, .getfield 22, 3), (17, .iconst (-1), 1), (18, .invokestatic 28, 3), (21, .return_, 1)]
set_option maxRecDepth 100000 in
theorem tkX3_clear : ∀ q ∈ tX3_clear, decode cX3_clear q.1 = .ok q.2 := by decide +kernel
theorem vmX3_clear : zVM yX3_clear cX3_clear 1 (Option.none : Option FieldType) 0 3 := ⟨kX3_clear, q_660, q_661, q_152, ⟨_, rfl, rfl⟩, by decide +kernel, by decide⟩
set_option maxHeartbeats 2000000 in
set_option maxRecDepth 20000 in
theorem coX3_clear (l : Launch) (e : Nat) (he : 1 ≤ e) (v0 : Nat) : zCo l (e + 1) 0 0 iX3_clear 0 [(0, .ref v0)] [] (X3_clear v0) := by
  unfold X3_clear
  refine zco_p tkX3_clear 0 2 (pc' := 2) (L' := [(0, .ref v0)]) (S' := [.int 0, .ref v0]) rfl ?_
  refine zco_pi fl_3_15 rfl rfl (zdk (cc := cX3_clear) (q := (2, .putfield 15, 3)) tkX3_clear 2 rfl) ?_
  refine zco_p tkX3_clear 3 1 (pc' := 6) (L' := [(0, .ref v0)]) (S' := [.ref v0]) rfl ?_
  refine zco_gr fl_3_19 rfl (zdk (cc := cX3_clear) (q := (6, .getfield 19, 3)) tkX3_clear 4 rfl) (fun x1 => ?_)
  refine zco_p tkX3_clear 5 1 (pc' := 10) (L' := [(0, .ref v0)]) (S' := [.int ((-1)), .ref x1]) rfl ?_
  refine zco_Sv (rc := 0) (rs := 0) (mc := 0) (ms := 0) (As := [.ref x1, .int ((-1))]) (S := []) vmJ7_fill_53178 (mtJ7_fill_53178 l e (by omega) x1 ((-1))) q_663 rfl rfl (Nat.le_of_ble_eq_true rfl) (zdk (cc := cX3_clear) (q := (10, .invokestatic 28, 3)) tkX3_clear 6 rfl) ?_
  refine zco_p tkX3_clear 7 1 (pc' := 14) (L' := [(0, .ref v0)]) (S' := [.ref v0]) rfl ?_
  refine zco_gr fl_3_22 rfl (zdk (cc := cX3_clear) (q := (14, .getfield 22, 3)) tkX3_clear 8 rfl) (fun x2 => ?_)
  refine zco_p tkX3_clear 9 1 (pc' := 18) (L' := [(0, .ref v0)]) (S' := [.int ((-1)), .ref x2]) rfl ?_
  refine zco_Sv (rc := 0) (rs := 0) (mc := 0) (ms := 0) (As := [.ref x2, .int ((-1))]) (S := []) vmJ7_fill_53178 (mtJ7_fill_53178 l e (by omega) x2 ((-1))) q_663 rfl rfl (Nat.le_of_ble_eq_true rfl) (zdk (cc := cX3_clear) (q := (18, .invokestatic 28, 3)) tkX3_clear 10 rfl) ?_
  exact zco_vret rfl rfl rfl (zdk (cc := cX3_clear) (q := (21, .return_, 1)) tkX3_clear 11 rfl)
theorem mtX3_clear (l : Launch) (d : Nat) (hd : 2 ≤ d) (v0 : Nat) : zMet l d 0 0 yX3_clear cX3_clear 1 (Option.none : Option FieldType) [.ref v0] (X3_clear v0) := by
  obtain ⟨e, rfl⟩ : ∃ e, d = e + 1 := ⟨d - 1, by omega⟩
  exact zmet_of (own := RX3) (ini := false) (by decide +kernel) rfl (fun _ => by contradiction) (Nat.le_of_ble_eq_true rfl) (coX3_clear l e (by omega) v0)
abbrev iX1_clear : zI := (RX1, cX1_clear, 2, (Option.none : Option FieldType), false)
def tX1_clear : List (Nat × Instr × Nat) := [(0, .aload_n 0, 1), (1, .getfield 9, 3), (4, .iconst 0, 1), (5, .iconst 0, 1), (6, .iastore, 1), (7, .aload_n 0, 1), (8, .getfield 9, 3), (11, .iconst 1, 1), (12, .iconst 0, 1), (13, .iastore, 1), (14, .iconst 0, 1), (15, .istore_n 1, 1), (16, .iload_n 1, 1), (17, .aload_n 0, 1), (18, .getfield 27, 3), (21, .arraylength, 1), (22, .if_icmp .ge 16, 3), (25, .aload_n 0, 1), (26, .getfield 27, 3), (29, .iload_n 1, 1), (30, .iconst 0, 1), (31, .bastore, 1), (32, .iinc 1 1, 3), (35, .goto (-19), 3), (38, .aload_n 0, 1), (39, .iconst 0, 1), (40, .putfield 31, 3), (43, .aload_n 0, 1), (44, .getfield 35, 3), (47, .iconst 5, 1), (48, .invokestatic 54, 3), (51, .aload_n 0, 1), (52, .getfield 38, 3), (55, .iconst 0, 1), (56, .invokestatic 54, 3), (59, .aload_n 0, 1), (60, .iconst 3, 1), (61, .putfield 41, 3), (64, .aload_n 0, 1), (65, .iconst 0, 1), (66, .putfield 44, 3), (69, .aload_n 0, 1), (70, .getfield 50, 3), (73, .invokevirtual 60, 3), (76, .return_, 1)]
set_option maxRecDepth 100000 in
theorem tkX1_clear : ∀ q ∈ tX1_clear, decode cX1_clear q.1 = .ok q.2 := by decide +kernel
theorem vmX1_clear : zVM yX1_clear cX1_clear 2 (Option.none : Option FieldType) 0 1 := ⟨kX1_clear, q_653, q_654, q_155, ⟨_, rfl, rfl⟩, by decide +kernel, by decide⟩
set_option maxHeartbeats 2000000 in
set_option maxRecDepth 20000 in
theorem coX1_clear_J38 (l : Launch) (e : Nat) (he : 2 ≤ e) (v0 : Nat) : zCo l (e + 1) 0 0 iX1_clear 38 [(0, .ref v0)] [] (X1_clear_J38 v0) := by
  unfold X1_clear_J38
  refine zco_p tkX1_clear 24 2 (pc' := 40) (L' := [(0, .ref v0)]) (S' := [.int 0, .ref v0]) rfl ?_
  refine zco_pi fl_1_31 rfl rfl (zdk (cc := cX1_clear) (q := (40, .putfield 31, 3)) tkX1_clear 26 rfl) ?_
  refine zco_p tkX1_clear 27 1 (pc' := 44) (L' := [(0, .ref v0)]) (S' := [.ref v0]) rfl ?_
  refine zco_gr fl_1_35 rfl (zdk (cc := cX1_clear) (q := (44, .getfield 35, 3)) tkX1_clear 28 rfl) (fun x1 => ?_)
  refine zco_p tkX1_clear 29 1 (pc' := 48) (L' := [(0, .ref v0)]) (S' := [.int 5, .ref x1]) rfl ?_
  refine zco_Sv (rc := 0) (rs := 0) (mc := 0) (ms := 0) (As := [.ref x1, .int 5]) (S := []) vmJ7_fill_53178 (mtJ7_fill_53178 l e (by omega) x1 5) q_656 rfl rfl (Nat.le_of_ble_eq_true rfl) (zdk (cc := cX1_clear) (q := (48, .invokestatic 54, 3)) tkX1_clear 30 rfl) ?_
  refine zco_p tkX1_clear 31 1 (pc' := 52) (L' := [(0, .ref v0)]) (S' := [.ref v0]) rfl ?_
  refine zco_gr fl_1_38 rfl (zdk (cc := cX1_clear) (q := (52, .getfield 38, 3)) tkX1_clear 32 rfl) (fun x2 => ?_)
  refine zco_p tkX1_clear 33 1 (pc' := 56) (L' := [(0, .ref v0)]) (S' := [.int 0, .ref x2]) rfl ?_
  refine zco_Sv (rc := 0) (rs := 0) (mc := 0) (ms := 0) (As := [.ref x2, .int 0]) (S := []) vmJ7_fill_53178 (mtJ7_fill_53178 l e (by omega) x2 0) q_656 rfl rfl (Nat.le_of_ble_eq_true rfl) (zdk (cc := cX1_clear) (q := (56, .invokestatic 54, 3)) tkX1_clear 34 rfl) ?_
  refine zco_p tkX1_clear 35 2 (pc' := 61) (L' := [(0, .ref v0)]) (S' := [.int 3, .ref v0]) rfl ?_
  refine zco_pi fl_1_41 rfl rfl (zdk (cc := cX1_clear) (q := (61, .putfield 41, 3)) tkX1_clear 37 rfl) ?_
  refine zco_p tkX1_clear 38 2 (pc' := 66) (L' := [(0, .ref v0)]) (S' := [.int 0, .ref v0]) rfl ?_
  refine zco_pi fl_1_44 rfl rfl (zdk (cc := cX1_clear) (q := (66, .putfield 44, 3)) tkX1_clear 40 rfl) ?_
  refine zco_p tkX1_clear 41 1 (pc' := 70) (L' := [(0, .ref v0)]) (S' := [.ref v0]) rfl ?_
  refine zco_gr fl_1_50 rfl (zdk (cc := cX1_clear) (q := (70, .getfield 50, 3)) tkX1_clear 42 rfl) (fun x3 => ?_)
  refine zco_Vv (rc := 0) (rs := 0) (mc := 0) (ms := 0) (As := []) (S := []) vmX3_clear (mtX3_clear l e (by omega) x3) q_659 rfl rfl (Nat.le_of_ble_eq_true rfl) (zdk (cc := cX1_clear) (q := (73, .invokevirtual 60, 3)) tkX1_clear 43 rfl) ?_
  exact zco_vret rfl rfl rfl (zdk (cc := cX1_clear) (q := (76, .return_, 1)) tkX1_clear 44 rfl)
set_option maxHeartbeats 2000000 in
set_option maxRecDepth 20000 in
theorem coX1_clear_B16 (l : Launch) (e : Nat) (he : 2 ≤ e) (v0 : Nat) (r16 : Int32 → zM) (hr16 : ∀ x : Int32, zCo l (e + 1) 0 0 iX1_clear 16 [(0, .ref v0), (1, .int x)] [] (r16 x)) (v1 : Int32) : zCo l (e + 1) 0 0 iX1_clear 16 [(0, .ref v0), (1, .int v1)] [] (X1_clear_B16 v0 r16 v1) := by
  unfold X1_clear_B16
  refine zco_p tkX1_clear 12 2 (pc' := 18) (L' := [(0, .ref v0), (1, .int v1)]) (S' := [.ref v0, .int v1]) rfl ?_
  refine zco_gr fl_1_27 rfl (zdk (cc := cX1_clear) (q := (18, .getfield 27, 3)) tkX1_clear 14 rfl) (fun x1 => ?_)
  refine zco_alen (zdk (cc := cX1_clear) (q := (21, .arraylength, 1)) tkX1_clear 15 rfl) (fun x2 => ?_)
  refine zco_icmp_ge (tgt := 38) (zdk (cc := cX1_clear) (q := (22, .if_icmp .ge 16, 3)) tkX1_clear 16 rfl) rfl ?_ ?_
  · exact zco_sub [0] rfl (coX1_clear_J38 l e he v0)
  · refine zco_p tkX1_clear 17 1 (pc' := 26) (L' := [(0, .ref v0), (1, .int v1)]) (S' := [.ref v0]) rfl ?_
    refine zco_gr fl_1_27 rfl (zdk (cc := cX1_clear) (q := (26, .getfield 27, 3)) tkX1_clear 18 rfl) (fun x3 => ?_)
    refine zco_p tkX1_clear 19 2 (pc' := 31) (L' := [(0, .ref v0), (1, .int v1)]) (S' := [.int 0, .int v1, .ref x3]) rfl ?_
    refine zco_bastore (zdk (cc := cX1_clear) (q := (31, .bastore, 1)) tkX1_clear 21 rfl) ?_
    refine zco_p tkX1_clear 22 2 (pc' := 16) (L' := [(1, .int (v1 + 1)), (0, .ref v0)]) (S' := []) rfl ?_
    exact zco_sub [1, 0] rfl (hr16 (v1 + 1))
set_option maxHeartbeats 2000000 in
set_option maxRecDepth 20000 in
theorem coX1_clear (l : Launch) (e : Nat) (he : 2 ≤ e) (v0 : Nat) : zCo l (e + 1) 0 0 iX1_clear 0 [(0, .ref v0)] [] (X1_clear v0) := by
  unfold X1_clear
  refine zco_p tkX1_clear 0 1 (pc' := 1) (L' := [(0, .ref v0)]) (S' := [.ref v0]) rfl ?_
  refine zco_gr fl_1_9 rfl (zdk (cc := cX1_clear) (q := (1, .getfield 9, 3)) tkX1_clear 1 rfl) (fun x1 => ?_)
  refine zco_p tkX1_clear 2 2 (pc' := 6) (L' := [(0, .ref v0)]) (S' := [.int 0, .int 0, .ref x1]) rfl ?_
  refine zco_iastore (zdk (cc := cX1_clear) (q := (6, .iastore, 1)) tkX1_clear 4 rfl) ?_
  refine zco_p tkX1_clear 5 1 (pc' := 8) (L' := [(0, .ref v0)]) (S' := [.ref v0]) rfl ?_
  refine zco_gr fl_1_9 rfl (zdk (cc := cX1_clear) (q := (8, .getfield 9, 3)) tkX1_clear 6 rfl) (fun x2 => ?_)
  refine zco_p tkX1_clear 7 2 (pc' := 13) (L' := [(0, .ref v0)]) (S' := [.int 0, .int 1, .ref x2]) rfl ?_
  refine zco_iastore (zdk (cc := cX1_clear) (q := (13, .iastore, 1)) tkX1_clear 9 rfl) ?_
  refine zco_p tkX1_clear 10 2 (pc' := 16) (L' := [(1, .int 0), (0, .ref v0)]) (S' := []) rfl ?_
  exact zco_sub [1, 0] rfl (zco_fix (Lf := fun x : Int32 => [(0, .ref v0), (1, .int x)]) (Sf := fun _ => []) (fun r hr x => coX1_clear_B16 l e he v0 r hr x) zFU 0)
theorem mtX1_clear (l : Launch) (d : Nat) (hd : 3 ≤ d) (v0 : Nat) : zMet l d 0 0 yX1_clear cX1_clear 2 (Option.none : Option FieldType) [.ref v0] (X1_clear v0) := by
  obtain ⟨e, rfl⟩ : ∃ e, d = e + 1 := ⟨d - 1, by omega⟩
  exact zmet_of (own := RX1) (ini := false) (by decide +kernel) rfl (fun _ => by contradiction) (Nat.le_of_ble_eq_true rfl) (coX1_clear l e (by omega) v0)
abbrev iX9_sound : zI := (RX9, cX9_sound, 1, (Option.some .boolean), false)
def tX9_sound : List (Nat × Instr × Nat) := [(0, .aload_n 0, 1), (1, .getfield 18, 3), (4, .ifCond .ne 7, 3), (7, .iconst 1, 1), (8, .goto 4, 3), (11, .iconst 0, 1), (12, .ireturn, 1)]
set_option maxRecDepth 100000 in
theorem tkX9_sound : ∀ q ∈ tX9_sound, decode cX9_sound q.1 = .ok q.2 := by decide +kernel
theorem vmX9_sound : zVM yX9_sound cX9_sound 1 (Option.some .boolean) 0 9 := ⟨kX9_sound, q_665, q_666, q_150, ⟨_, rfl, rfl⟩, by decide +kernel, by decide⟩
set_option maxHeartbeats 2000000 in
set_option maxRecDepth 20000 in
theorem coX9_sound (l : Launch) (e : Nat) (he : 0 ≤ e) (v0 : Nat) : zCo l (e + 1) 0 0 iX9_sound 0 [(0, .ref v0)] [] (X9_sound v0) := by
  unfold X9_sound
  refine zco_p tkX9_sound 0 1 (pc' := 1) (L' := [(0, .ref v0)]) (S' := [.ref v0]) rfl ?_
  refine zco_gi fl_9_18 rfl (zdk (cc := cX9_sound) (q := (1, .getfield 18, 3)) tkX9_sound 1 rfl) (fun x1 => ?_)
  refine zco_if_ne (tgt := 11) (zdk (cc := cX9_sound) (q := (4, .ifCond .ne 7, 3)) tkX9_sound 2 rfl) rfl ?_ ?_
  · refine zco_p tkX9_sound 5 1 (pc' := 12) (L' := [(0, .ref v0)]) (S' := [.int 0]) rfl ?_
    exact zco_zret rfl rfl rfl (zdk (cc := cX9_sound) (q := (12, .ireturn, 1)) tkX9_sound 6 rfl)
  · refine zco_p tkX9_sound 3 2 (pc' := 12) (L' := [(0, .ref v0)]) (S' := [.int 1]) rfl ?_
    exact zco_zret rfl rfl rfl (zdk (cc := cX9_sound) (q := (12, .ireturn, 1)) tkX9_sound 6 rfl)
theorem mtX9_sound (l : Launch) (d : Nat) (hd : 1 ≤ d) (v0 : Nat) : zMet l d 0 0 yX9_sound cX9_sound 1 (Option.some .boolean) [.ref v0] (X9_sound v0) := by
  obtain ⟨e, rfl⟩ : ∃ e, d = e + 1 := ⟨d - 1, by omega⟩
  exact zmet_of (own := RX9) (ini := false) (by decide +kernel) rfl (fun _ => by contradiction) (Nat.le_of_ble_eq_true rfl) (coX9_sound l e (by omega) v0)
abbrev iX9_begin : zI := (RX9, cX9_begin, 1, (Option.some .int), false)
def tX9_begin : List (Nat × Instr × Nat) := [(0, .aload_n 0, 1), (1, .getfield 15, 3), (4, .aload_n 0, 1), (5, .getfield 9, 3), (8, .if_icmp .ge 56, 3), (11, .aload_n 0, 1), (12, .getfield 15, 3), (15, .aload_n 0, 1), (16, .getfield 24, 3), (19, .arraylength, 1), (20, .if_icmp .ge 44, 3), (23, .aload_n 0, 1), (24, .getfield 24, 3), (27, .aload_n 0, 1), (28, .getfield 15, 3), (31, .iaload, 1), (32, .bipush 32, 2), (34, .if_icmp .eq 17, 3), (37, .aload_n 0, 1), (38, .getfield 24, 3), (41, .aload_n 0, 1), (42, .getfield 15, 3), (45, .iaload, 1), (46, .bipush 10, 2), (48, .if_icmp .ne 16, 3), (51, .aload_n 0, 1), (52, .dup, 1), (53, .getfield 15, 3), (56, .iconst 1, 1), (57, .iadd, 1), (58, .putfield 15, 3), (61, .goto (-61), 3), (64, .aload_n 0, 1), (65, .getfield 15, 3), (68, .ireturn, 1)]
set_option maxRecDepth 100000 in
theorem tkX9_begin : ∀ q ∈ tX9_begin, decode cX9_begin q.1 = .ok q.2 := by decide +kernel
theorem vmX9_begin : zVM yX9_begin cX9_begin 1 (Option.some .int) 0 9 := ⟨kX9_begin, q_673, q_674, q_150, ⟨_, rfl, rfl⟩, by decide +kernel, by decide⟩
set_option maxHeartbeats 2000000 in
set_option maxRecDepth 20000 in
theorem coX9_begin_J64 (l : Launch) (e : Nat) (he : 0 ≤ e) (v0 : Nat) : zCo l (e + 1) 0 0 iX9_begin 64 [(0, .ref v0)] [] (X9_begin_J64 v0) := by
  unfold X9_begin_J64
  refine zco_p tkX9_begin 32 1 (pc' := 65) (L' := [(0, .ref v0)]) (S' := [.ref v0]) rfl ?_
  refine zco_gi fl_9_15 rfl (zdk (cc := cX9_begin) (q := (65, .getfield 15, 3)) tkX9_begin 33 rfl) (fun x1 => ?_)
  exact zco_iret rfl rfl rfl (zdk (cc := cX9_begin) (q := (68, .ireturn, 1)) tkX9_begin 34 rfl)
set_option maxHeartbeats 2000000 in
set_option maxRecDepth 20000 in
theorem coX9_begin_J51 (l : Launch) (e : Nat) (he : 0 ≤ e) (v0 : Nat) (r0 : Unit → zM) (hr0 : ∀ x : Unit, zCo l (e + 1) 0 0 iX9_begin 0 [(0, .ref v0)] [] (r0 x)) : zCo l (e + 1) 0 0 iX9_begin 51 [(0, .ref v0)] [] (X9_begin_J51 r0 v0) := by
  unfold X9_begin_J51
  refine zco_p tkX9_begin 25 2 (pc' := 53) (L' := [(0, .ref v0)]) (S' := [.ref v0, .ref v0]) rfl ?_
  refine zco_gi fl_9_15 rfl (zdk (cc := cX9_begin) (q := (53, .getfield 15, 3)) tkX9_begin 27 rfl) (fun x1 => ?_)
  refine zco_p tkX9_begin 28 2 (pc' := 58) (L' := [(0, .ref v0)]) (S' := [.int (x1 + 1), .ref v0]) rfl ?_
  refine zco_pi fl_9_15 rfl rfl (zdk (cc := cX9_begin) (q := (58, .putfield 15, 3)) tkX9_begin 30 rfl) ?_
  refine zco_p tkX9_begin 31 1 (pc' := 0) (L' := [(0, .ref v0)]) (S' := []) rfl ?_
  exact zco_sub [0] rfl (hr0 (()))
set_option maxHeartbeats 2000000 in
set_option maxRecDepth 20000 in
theorem coX9_begin_B0 (l : Launch) (e : Nat) (he : 0 ≤ e) (v0 : Nat) (r0 : Unit → zM) (hr0 : ∀ x : Unit, zCo l (e + 1) 0 0 iX9_begin 0 [(0, .ref v0)] [] (r0 x)) : zCo l (e + 1) 0 0 iX9_begin 0 [(0, .ref v0)] [] (X9_begin_B0 v0 r0) := by
  unfold X9_begin_B0
  refine zco_p tkX9_begin 0 1 (pc' := 1) (L' := [(0, .ref v0)]) (S' := [.ref v0]) rfl ?_
  refine zco_gi fl_9_15 rfl (zdk (cc := cX9_begin) (q := (1, .getfield 15, 3)) tkX9_begin 1 rfl) (fun x1 => ?_)
  refine zco_p tkX9_begin 2 1 (pc' := 5) (L' := [(0, .ref v0)]) (S' := [.ref v0, .int x1]) rfl ?_
  refine zco_gi fl_9_9 rfl (zdk (cc := cX9_begin) (q := (5, .getfield 9, 3)) tkX9_begin 3 rfl) (fun x2 => ?_)
  refine zco_icmp_ge (tgt := 64) (zdk (cc := cX9_begin) (q := (8, .if_icmp .ge 56, 3)) tkX9_begin 4 rfl) rfl ?_ ?_
  · exact zco_sub [0] rfl (coX9_begin_J64 l e he v0)
  · refine zco_p tkX9_begin 5 1 (pc' := 12) (L' := [(0, .ref v0)]) (S' := [.ref v0]) rfl ?_
    refine zco_gi fl_9_15 rfl (zdk (cc := cX9_begin) (q := (12, .getfield 15, 3)) tkX9_begin 6 rfl) (fun x3 => ?_)
    refine zco_p tkX9_begin 7 1 (pc' := 16) (L' := [(0, .ref v0)]) (S' := [.ref v0, .int x3]) rfl ?_
    refine zco_gr fl_9_24 rfl (zdk (cc := cX9_begin) (q := (16, .getfield 24, 3)) tkX9_begin 8 rfl) (fun x4 => ?_)
    refine zco_alen (zdk (cc := cX9_begin) (q := (19, .arraylength, 1)) tkX9_begin 9 rfl) (fun x5 => ?_)
    refine zco_icmp_ge (tgt := 64) (zdk (cc := cX9_begin) (q := (20, .if_icmp .ge 44, 3)) tkX9_begin 10 rfl) rfl ?_ ?_
    · exact zco_sub [0] rfl (coX9_begin_J64 l e he v0)
    · refine zco_p tkX9_begin 11 1 (pc' := 24) (L' := [(0, .ref v0)]) (S' := [.ref v0]) rfl ?_
      refine zco_gr fl_9_24 rfl (zdk (cc := cX9_begin) (q := (24, .getfield 24, 3)) tkX9_begin 12 rfl) (fun x6 => ?_)
      refine zco_p tkX9_begin 13 1 (pc' := 28) (L' := [(0, .ref v0)]) (S' := [.ref v0, .ref x6]) rfl ?_
      refine zco_gi fl_9_15 rfl (zdk (cc := cX9_begin) (q := (28, .getfield 15, 3)) tkX9_begin 14 rfl) (fun x7 => ?_)
      refine zco_iaload (zdk (cc := cX9_begin) (q := (31, .iaload, 1)) tkX9_begin 15 rfl) (fun x8 => ?_)
      refine zco_p tkX9_begin 16 1 (pc' := 34) (L' := [(0, .ref v0)]) (S' := [.int 32, .int x8]) rfl ?_
      refine zco_icmp_eq (tgt := 51) (zdk (cc := cX9_begin) (q := (34, .if_icmp .eq 17, 3)) tkX9_begin 17 rfl) rfl ?_ ?_
      · exact zco_sub [0] rfl (coX9_begin_J51 l e he v0 r0 hr0)
      · refine zco_p tkX9_begin 18 1 (pc' := 38) (L' := [(0, .ref v0)]) (S' := [.ref v0]) rfl ?_
        refine zco_gr fl_9_24 rfl (zdk (cc := cX9_begin) (q := (38, .getfield 24, 3)) tkX9_begin 19 rfl) (fun x9 => ?_)
        refine zco_p tkX9_begin 20 1 (pc' := 42) (L' := [(0, .ref v0)]) (S' := [.ref v0, .ref x9]) rfl ?_
        refine zco_gi fl_9_15 rfl (zdk (cc := cX9_begin) (q := (42, .getfield 15, 3)) tkX9_begin 21 rfl) (fun x10 => ?_)
        refine zco_iaload (zdk (cc := cX9_begin) (q := (45, .iaload, 1)) tkX9_begin 22 rfl) (fun x11 => ?_)
        refine zco_p tkX9_begin 23 1 (pc' := 48) (L' := [(0, .ref v0)]) (S' := [.int 10, .int x11]) rfl ?_
        refine zco_icmp_ne (tgt := 64) (zdk (cc := cX9_begin) (q := (48, .if_icmp .ne 16, 3)) tkX9_begin 24 rfl) rfl ?_ ?_
        · exact zco_sub [0] rfl (coX9_begin_J64 l e he v0)
        · exact zco_sub [0] rfl (coX9_begin_J51 l e he v0 r0 hr0)
set_option maxHeartbeats 2000000 in
set_option maxRecDepth 20000 in
theorem coX9_begin (l : Launch) (e : Nat) (he : 0 ≤ e) (v0 : Nat) : zCo l (e + 1) 0 0 iX9_begin 0 [(0, .ref v0)] [] (X9_begin v0) := by
  unfold X9_begin
  exact zco_sub [0] rfl (zco_fix (Lf := fun x : Unit => [(0, .ref v0)]) (Sf := fun _ => []) (fun r hr x => coX9_begin_B0 l e he v0 r hr ) zFU (()))
theorem mtX9_begin (l : Launch) (d : Nat) (hd : 1 ≤ d) (v0 : Nat) : zMet l d 0 0 yX9_begin cX9_begin 1 (Option.some .int) [.ref v0] (X9_begin v0) := by
  obtain ⟨e, rfl⟩ : ∃ e, d = e + 1 := ⟨d - 1, by omega⟩
  exact zmet_of (own := RX9) (ini := false) (by decide +kernel) rfl (fun _ => by contradiction) (Nat.le_of_ble_eq_true rfl) (coX9_begin l e (by omega) v0)
abbrev iX9_ended : zI := (RX9, cX9_ended, 1, (Option.some .boolean), false)
def tX9_ended : List (Nat × Instr × Nat) := [(0, .aload_n 0, 1), (1, .invokevirtual 28, 3), (4, .aload_n 0, 1), (5, .getfield 9, 3), (8, .if_icmp .lt 7, 3), (11, .iconst 1, 1), (12, .goto 4, 3), (15, .iconst 0, 1), (16, .ireturn, 1)]
set_option maxRecDepth 100000 in
theorem tkX9_ended : ∀ q ∈ tX9_ended, decode cX9_ended q.1 = .ok q.2 := by decide +kernel
theorem vmX9_ended : zVM yX9_ended cX9_ended 1 (Option.some .boolean) 0 9 := ⟨kX9_ended, q_669, q_670, q_150, ⟨_, rfl, rfl⟩, by decide +kernel, by decide⟩
set_option maxHeartbeats 2000000 in
set_option maxRecDepth 20000 in
theorem coX9_ended (l : Launch) (e : Nat) (he : 1 ≤ e) (v0 : Nat) : zCo l (e + 1) 0 0 iX9_ended 0 [(0, .ref v0)] [] (X9_ended v0) := by
  unfold X9_ended
  refine zco_p tkX9_ended 0 1 (pc' := 1) (L' := [(0, .ref v0)]) (S' := [.ref v0]) rfl ?_
  refine zco_Vi (rc := 0) (rs := 0) (mc := 0) (ms := 0) (As := []) (S := []) vmX9_begin (mtX9_begin l e (by omega) v0) q_672 rfl rfl (Nat.le_of_ble_eq_true rfl) (zdk (cc := cX9_ended) (q := (1, .invokevirtual 28, 3)) tkX9_ended 1 rfl) (fun y1 => ?_)
  refine zco_p tkX9_ended 2 1 (pc' := 5) (L' := [(0, .ref v0)]) (S' := [.ref v0, .int y1]) rfl ?_
  refine zco_gi fl_9_9 rfl (zdk (cc := cX9_ended) (q := (5, .getfield 9, 3)) tkX9_ended 3 rfl) (fun x2 => ?_)
  refine zco_icmp_lt (tgt := 15) (zdk (cc := cX9_ended) (q := (8, .if_icmp .lt 7, 3)) tkX9_ended 4 rfl) rfl ?_ ?_
  · refine zco_p tkX9_ended 7 1 (pc' := 16) (L' := [(0, .ref v0)]) (S' := [.int 0]) rfl ?_
    exact zco_zret rfl rfl rfl (zdk (cc := cX9_ended) (q := (16, .ireturn, 1)) tkX9_ended 8 rfl)
  · refine zco_p tkX9_ended 5 2 (pc' := 16) (L' := [(0, .ref v0)]) (S' := [.int 1]) rfl ?_
    exact zco_zret rfl rfl rfl (zdk (cc := cX9_ended) (q := (16, .ireturn, 1)) tkX9_ended 8 rfl)
theorem mtX9_ended (l : Launch) (d : Nat) (hd : 2 ≤ d) (v0 : Nat) : zMet l d 0 0 yX9_ended cX9_ended 1 (Option.some .boolean) [.ref v0] (X9_ended v0) := by
  obtain ⟨e, rfl⟩ : ∃ e, d = e + 1 := ⟨d - 1, by omega⟩
  exact zmet_of (own := RX9) (ini := false) (by decide +kernel) rfl (fun _ => by contradiction) (Nat.le_of_ble_eq_true rfl) (coX9_ended l e (by omega) v0)
abbrev iX9_fail : zI := (RX9, cX9_fail, 3, (Option.none : Option FieldType), false)
def tX9_fail : List (Nat × Instr × Nat) := [(0, .aload_n 0, 1), (1, .getfield 18, 3), (4, .ifCond .ne 13, 3), (7, .aload_n 0, 1), (8, .iload_n 1, 1), (9, .putfield 18, 3), (12, .aload_n 0, 1), (13, .iload_n 2, 1), (14, .putfield 21, 3), (17, .return_, 1)]
set_option maxRecDepth 100000 in
theorem tkX9_fail : ∀ q ∈ tX9_fail, decode cX9_fail q.1 = .ok q.2 := by decide +kernel
theorem vmX9_fail : zVM yX9_fail cX9_fail 3 (Option.none : Option FieldType) 2 9 := ⟨kX9_fail, q_678, q_679, q_150, ⟨_, rfl, rfl⟩, by decide +kernel, by decide⟩
set_option maxHeartbeats 2000000 in
set_option maxRecDepth 20000 in
theorem coX9_fail (l : Launch) (e : Nat) (he : 0 ≤ e) (v0 : Nat) (v1 : Int32) (v2 : Int32) : zCo l (e + 1) 0 0 iX9_fail 0 [(0, .ref v0), (1, .int v1), (2, .int v2)] [] (X9_fail v0 v1 v2) := by
  unfold X9_fail
  refine zco_p tkX9_fail 0 1 (pc' := 1) (L' := [(0, .ref v0), (1, .int v1), (2, .int v2)]) (S' := [.ref v0]) rfl ?_
  refine zco_gi fl_9_18 rfl (zdk (cc := cX9_fail) (q := (1, .getfield 18, 3)) tkX9_fail 1 rfl) (fun x1 => ?_)
  refine zco_if_ne (tgt := 17) (zdk (cc := cX9_fail) (q := (4, .ifCond .ne 13, 3)) tkX9_fail 2 rfl) rfl ?_ ?_
  · exact zco_vret rfl rfl rfl (zdk (cc := cX9_fail) (q := (17, .return_, 1)) tkX9_fail 9 rfl)
  · refine zco_p tkX9_fail 3 2 (pc' := 9) (L' := [(0, .ref v0), (1, .int v1), (2, .int v2)]) (S' := [.int v1, .ref v0]) rfl ?_
    refine zco_pi fl_9_18 rfl rfl (zdk (cc := cX9_fail) (q := (9, .putfield 18, 3)) tkX9_fail 5 rfl) ?_
    refine zco_p tkX9_fail 6 2 (pc' := 14) (L' := [(0, .ref v0), (1, .int v1), (2, .int v2)]) (S' := [.int v2, .ref v0]) rfl ?_
    refine zco_pi fl_9_21 rfl rfl (zdk (cc := cX9_fail) (q := (14, .putfield 21, 3)) tkX9_fail 8 rfl) ?_
    exact zco_vret rfl rfl rfl (zdk (cc := cX9_fail) (q := (17, .return_, 1)) tkX9_fail 9 rfl)
theorem mtX9_fail (l : Launch) (d : Nat) (hd : 1 ≤ d) (v0 : Nat) (v1 : Int32) (v2 : Int32) : zMet l d 0 0 yX9_fail cX9_fail 3 (Option.none : Option FieldType) [.ref v0, .int v1, .int v2] (X9_fail v0 v1 v2) := by
  obtain ⟨e, rfl⟩ : ∃ e, d = e + 1 := ⟨d - 1, by omega⟩
  exact zmet_of (own := RX9) (ini := false) (by decide +kernel) rfl (fun _ => by contradiction) (Nat.le_of_ble_eq_true rfl) (coX9_fail l e (by omega) v0 v1 v2)
abbrev iX9_byteAt : zI := (RX9, cX9_byteAt, 2, (Option.some .int), false)
def tX9_byteAt : List (Nat × Instr × Nat) := [(0, .iload_n 1, 1), (1, .ifCond .lt 29, 3), (4, .iload_n 1, 1), (5, .aload_n 0, 1), (6, .getfield 9, 3), (9, .if_icmp .ge 21, 3), (12, .iload_n 1, 1), (13, .aload_n 0, 1), (14, .getfield 24, 3), (17, .arraylength, 1), (18, .if_icmp .ge 12, 3), (21, .aload_n 0, 1), (22, .getfield 24, 3), (25, .iload_n 1, 1), (26, .iaload, 1), (27, .goto 4, 3), (30, .iconst (-1), 1), (31, .ireturn, 1)]
set_option maxRecDepth 100000 in
theorem tkX9_byteAt : ∀ q ∈ tX9_byteAt, decode cX9_byteAt q.1 = .ok q.2 := by decide +kernel
theorem vmX9_byteAt : zVM yX9_byteAt cX9_byteAt 2 (Option.some .int) 1 9 := ⟨kX9_byteAt, q_696, q_697, q_150, ⟨_, rfl, rfl⟩, by decide +kernel, by decide⟩
set_option maxHeartbeats 2000000 in
set_option maxRecDepth 20000 in
theorem coX9_byteAt (l : Launch) (e : Nat) (he : 0 ≤ e) (v0 : Nat) (v1 : Int32) : zCo l (e + 1) 0 0 iX9_byteAt 0 [(0, .ref v0), (1, .int v1)] [] (X9_byteAt v0 v1) := by
  unfold X9_byteAt
  refine zco_p tkX9_byteAt 0 1 (pc' := 1) (L' := [(0, .ref v0), (1, .int v1)]) (S' := [.int v1]) rfl ?_
  refine zco_if_lt (tgt := 30) (zdk (cc := cX9_byteAt) (q := (1, .ifCond .lt 29, 3)) tkX9_byteAt 1 rfl) rfl ?_ ?_
  · refine zco_p tkX9_byteAt 16 1 (pc' := 31) (L' := [(0, .ref v0), (1, .int v1)]) (S' := [.int ((-1))]) rfl ?_
    exact zco_iret rfl rfl rfl (zdk (cc := cX9_byteAt) (q := (31, .ireturn, 1)) tkX9_byteAt 17 rfl)
  · refine zco_p tkX9_byteAt 2 2 (pc' := 6) (L' := [(0, .ref v0), (1, .int v1)]) (S' := [.ref v0, .int v1]) rfl ?_
    refine zco_gi fl_9_9 rfl (zdk (cc := cX9_byteAt) (q := (6, .getfield 9, 3)) tkX9_byteAt 4 rfl) (fun x1 => ?_)
    refine zco_icmp_ge (tgt := 30) (zdk (cc := cX9_byteAt) (q := (9, .if_icmp .ge 21, 3)) tkX9_byteAt 5 rfl) rfl ?_ ?_
    · refine zco_p tkX9_byteAt 16 1 (pc' := 31) (L' := [(0, .ref v0), (1, .int v1)]) (S' := [.int ((-1))]) rfl ?_
      exact zco_iret rfl rfl rfl (zdk (cc := cX9_byteAt) (q := (31, .ireturn, 1)) tkX9_byteAt 17 rfl)
    · refine zco_p tkX9_byteAt 6 2 (pc' := 14) (L' := [(0, .ref v0), (1, .int v1)]) (S' := [.ref v0, .int v1]) rfl ?_
      refine zco_gr fl_9_24 rfl (zdk (cc := cX9_byteAt) (q := (14, .getfield 24, 3)) tkX9_byteAt 8 rfl) (fun x2 => ?_)
      refine zco_alen (zdk (cc := cX9_byteAt) (q := (17, .arraylength, 1)) tkX9_byteAt 9 rfl) (fun x3 => ?_)
      refine zco_icmp_ge (tgt := 30) (zdk (cc := cX9_byteAt) (q := (18, .if_icmp .ge 12, 3)) tkX9_byteAt 10 rfl) rfl ?_ ?_
      · refine zco_p tkX9_byteAt 16 1 (pc' := 31) (L' := [(0, .ref v0), (1, .int v1)]) (S' := [.int ((-1))]) rfl ?_
        exact zco_iret rfl rfl rfl (zdk (cc := cX9_byteAt) (q := (31, .ireturn, 1)) tkX9_byteAt 17 rfl)
      · refine zco_p tkX9_byteAt 11 1 (pc' := 22) (L' := [(0, .ref v0), (1, .int v1)]) (S' := [.ref v0]) rfl ?_
        refine zco_gr fl_9_24 rfl (zdk (cc := cX9_byteAt) (q := (22, .getfield 24, 3)) tkX9_byteAt 12 rfl) (fun x4 => ?_)
        refine zco_p tkX9_byteAt 13 1 (pc' := 26) (L' := [(0, .ref v0), (1, .int v1)]) (S' := [.int v1, .ref x4]) rfl ?_
        refine zco_iaload (zdk (cc := cX9_byteAt) (q := (26, .iaload, 1)) tkX9_byteAt 14 rfl) (fun x5 => ?_)
        refine zco_p tkX9_byteAt 15 1 (pc' := 31) (L' := [(0, .ref v0), (1, .int v1)]) (S' := [.int x5]) rfl ?_
        exact zco_iret rfl rfl rfl (zdk (cc := cX9_byteAt) (q := (31, .ireturn, 1)) tkX9_byteAt 17 rfl)
theorem mtX9_byteAt (l : Launch) (d : Nat) (hd : 1 ≤ d) (v0 : Nat) (v1 : Int32) : zMet l d 0 0 yX9_byteAt cX9_byteAt 2 (Option.some .int) [.ref v0, .int v1] (X9_byteAt v0 v1) := by
  obtain ⟨e, rfl⟩ : ∃ e, d = e + 1 := ⟨d - 1, by omega⟩
  exact zmet_of (own := RX9) (ini := false) (by decide +kernel) rfl (fun _ => by contradiction) (Nat.le_of_ble_eq_true rfl) (coX9_byteAt l e (by omega) v0 v1)
abbrev iX11_isDigit : zI := (RX11, cX11_isDigit, 1, (Option.some .boolean), false)
def tX11_isDigit : List (Nat × Instr × Nat) := [(0, .iload_n 0, 1), (1, .bipush 48, 2), (3, .if_icmp .lt 13, 3), (6, .iload_n 0, 1), (7, .bipush 57, 2), (9, .if_icmp .gt 7, 3), (12, .iconst 1, 1), (13, .goto 4, 3), (16, .iconst 0, 1), (17, .ireturn, 1)]
set_option maxRecDepth 100000 in
theorem tkX11_isDigit : ∀ q ∈ tX11_isDigit, decode cX11_isDigit q.1 = .ok q.2 := by decide +kernel
theorem vmX11_isDigit : zSM yX11_isDigit cX11_isDigit 1 (Option.some .boolean) 1 := ⟨kX11_isDigit, q_700, q_149, by decide +kernel, by decide⟩
set_option maxHeartbeats 2000000 in
set_option maxRecDepth 20000 in
theorem coX11_isDigit (l : Launch) (e : Nat) (he : 0 ≤ e) (v0 : Int32) : zCo l (e + 1) 0 0 iX11_isDigit 0 [(0, .int v0)] [] (X11_isDigit v0) := by
  unfold X11_isDigit
  refine zco_p tkX11_isDigit 0 2 (pc' := 3) (L' := [(0, .int v0)]) (S' := [.int 48, .int v0]) rfl ?_
  refine zco_icmp_lt (tgt := 16) (zdk (cc := cX11_isDigit) (q := (3, .if_icmp .lt 13, 3)) tkX11_isDigit 2 rfl) rfl ?_ ?_
  · refine zco_p tkX11_isDigit 8 1 (pc' := 17) (L' := [(0, .int v0)]) (S' := [.int 0]) rfl ?_
    exact zco_zret rfl rfl rfl (zdk (cc := cX11_isDigit) (q := (17, .ireturn, 1)) tkX11_isDigit 9 rfl)
  · refine zco_p tkX11_isDigit 3 2 (pc' := 9) (L' := [(0, .int v0)]) (S' := [.int 57, .int v0]) rfl ?_
    refine zco_icmp_gt (tgt := 16) (zdk (cc := cX11_isDigit) (q := (9, .if_icmp .gt 7, 3)) tkX11_isDigit 5 rfl) rfl ?_ ?_
    · refine zco_p tkX11_isDigit 8 1 (pc' := 17) (L' := [(0, .int v0)]) (S' := [.int 0]) rfl ?_
      exact zco_zret rfl rfl rfl (zdk (cc := cX11_isDigit) (q := (17, .ireturn, 1)) tkX11_isDigit 9 rfl)
    · refine zco_p tkX11_isDigit 6 2 (pc' := 17) (L' := [(0, .int v0)]) (S' := [.int 1]) rfl ?_
      exact zco_zret rfl rfl rfl (zdk (cc := cX11_isDigit) (q := (17, .ireturn, 1)) tkX11_isDigit 9 rfl)
theorem mtX11_isDigit (l : Launch) (d : Nat) (hd : 1 ≤ d) (v0 : Int32) : zMet l d 0 0 yX11_isDigit cX11_isDigit 1 (Option.some .boolean) [.int v0] (X11_isDigit v0) := by
  obtain ⟨e, rfl⟩ : ∃ e, d = e + 1 := ⟨d - 1, by omega⟩
  exact zmet_of (own := RX11) (ini := false) (by decide +kernel) rfl (fun _ => by contradiction) (Nat.le_of_ble_eq_true rfl) (coX11_isDigit l e (by omega) v0)
abbrev iX11_isLetter : zI := (RX11, cX11_isLetter, 1, (Option.some .boolean), false)
def tX11_isLetter : List (Nat × Instr × Nat) := [(0, .iload_n 0, 1), (1, .bipush 97, 2), (3, .if_icmp .lt 13, 3), (6, .iload_n 0, 1), (7, .bipush 122, 2), (9, .if_icmp .gt 7, 3), (12, .iconst 1, 1), (13, .goto 4, 3), (16, .iconst 0, 1), (17, .ireturn, 1)]
set_option maxRecDepth 100000 in
theorem tkX11_isLetter : ∀ q ∈ tX11_isLetter, decode cX11_isLetter q.1 = .ok q.2 := by decide +kernel
theorem vmX11_isLetter : zSM yX11_isLetter cX11_isLetter 1 (Option.some .boolean) 1 := ⟨kX11_isLetter, q_703, q_149, by decide +kernel, by decide⟩
set_option maxHeartbeats 2000000 in
set_option maxRecDepth 20000 in
theorem coX11_isLetter (l : Launch) (e : Nat) (he : 0 ≤ e) (v0 : Int32) : zCo l (e + 1) 0 0 iX11_isLetter 0 [(0, .int v0)] [] (X11_isLetter v0) := by
  unfold X11_isLetter
  refine zco_p tkX11_isLetter 0 2 (pc' := 3) (L' := [(0, .int v0)]) (S' := [.int 97, .int v0]) rfl ?_
  refine zco_icmp_lt (tgt := 16) (zdk (cc := cX11_isLetter) (q := (3, .if_icmp .lt 13, 3)) tkX11_isLetter 2 rfl) rfl ?_ ?_
  · refine zco_p tkX11_isLetter 8 1 (pc' := 17) (L' := [(0, .int v0)]) (S' := [.int 0]) rfl ?_
    exact zco_zret rfl rfl rfl (zdk (cc := cX11_isLetter) (q := (17, .ireturn, 1)) tkX11_isLetter 9 rfl)
  · refine zco_p tkX11_isLetter 3 2 (pc' := 9) (L' := [(0, .int v0)]) (S' := [.int 122, .int v0]) rfl ?_
    refine zco_icmp_gt (tgt := 16) (zdk (cc := cX11_isLetter) (q := (9, .if_icmp .gt 7, 3)) tkX11_isLetter 5 rfl) rfl ?_ ?_
    · refine zco_p tkX11_isLetter 8 1 (pc' := 17) (L' := [(0, .int v0)]) (S' := [.int 0]) rfl ?_
      exact zco_zret rfl rfl rfl (zdk (cc := cX11_isLetter) (q := (17, .ireturn, 1)) tkX11_isLetter 9 rfl)
    · refine zco_p tkX11_isLetter 6 2 (pc' := 17) (L' := [(0, .int v0)]) (S' := [.int 1]) rfl ?_
      exact zco_zret rfl rfl rfl (zdk (cc := cX11_isLetter) (q := (17, .ireturn, 1)) tkX11_isLetter 9 rfl)
theorem mtX11_isLetter (l : Launch) (d : Nat) (hd : 1 ≤ d) (v0 : Int32) : zMet l d 0 0 yX11_isLetter cX11_isLetter 1 (Option.some .boolean) [.int v0] (X11_isLetter v0) := by
  obtain ⟨e, rfl⟩ : ∃ e, d = e + 1 := ⟨d - 1, by omega⟩
  exact zmet_of (own := RX11) (ini := false) (by decide +kernel) rfl (fun _ => by contradiction) (Nat.le_of_ble_eq_true rfl) (coX11_isLetter l e (by omega) v0)
abbrev iX9_wordLength : zI := (RX9, cX9_wordLength, 3, (Option.some .int), false)
def tX9_wordLength : List (Nat × Instr × Nat) := [(0, .aload_n 0, 1), (1, .invokevirtual 28, 3), (4, .istore_n 1, 1), (5, .aload_n 0, 1), (6, .invokevirtual 32, 3), (9, .ifCond .eq 16, 3), (12, .aload_n 0, 1), (13, .iload_n 1, 1), (14, .iconst 1, 1), (15, .isub, 1), (16, .invokevirtual 36, 3), (19, .invokestatic 48, 3), (22, .ifCond .eq 5, 3), (25, .iconst 0, 1), (26, .ireturn, 1), (27, .iload_n 1, 1), (28, .istore_n 2, 1), (29, .iload_n 2, 1), (30, .aload_n 0, 1), (31, .getfield 9, 3), (34, .if_icmp .ge 20, 3), (37, .aload_n 0, 1), (38, .iload_n 2, 1), (39, .invokevirtual 36, 3), (42, .invokestatic 51, 3), (45, .ifCond .eq 9, 3), (48, .iinc 2 1, 3), (51, .goto (-22), 3), (54, .iload_n 2, 1), (55, .iload_n 1, 1), (56, .isub, 1), (57, .ireturn, 1)]
set_option maxRecDepth 100000 in
theorem tkX9_wordLength : ∀ q ∈ tX9_wordLength, decode cX9_wordLength q.1 = .ok q.2 := by decide +kernel
theorem vmX9_wordLength : zVM yX9_wordLength cX9_wordLength 3 (Option.some .int) 0 9 := ⟨kX9_wordLength, q_691, q_692, q_150, ⟨_, rfl, rfl⟩, by decide +kernel, by decide⟩
set_option maxHeartbeats 2000000 in
set_option maxRecDepth 20000 in
theorem coX9_wordLength_B29 (l : Launch) (e : Nat) (he : 1 ≤ e) (v0 : Nat) (v1 : Int32) (r29 : Int32 → zM) (hr29 : ∀ x : Int32, zCo l (e + 1) 0 0 iX9_wordLength 29 [(0, .ref v0), (1, .int v1), (2, .int x)] [] (r29 x)) (v2 : Int32) : zCo l (e + 1) 0 0 iX9_wordLength 29 [(0, .ref v0), (1, .int v1), (2, .int v2)] [] (X9_wordLength_B29 v0 v1 r29 v2) := by
  unfold X9_wordLength_B29
  refine zco_p tkX9_wordLength 17 2 (pc' := 31) (L' := [(0, .ref v0), (1, .int v1), (2, .int v2)]) (S' := [.ref v0, .int v2]) rfl ?_
  refine zco_gi fl_9_9 rfl (zdk (cc := cX9_wordLength) (q := (31, .getfield 9, 3)) tkX9_wordLength 19 rfl) (fun x1 => ?_)
  refine zco_icmp_ge (tgt := 54) (zdk (cc := cX9_wordLength) (q := (34, .if_icmp .ge 20, 3)) tkX9_wordLength 20 rfl) rfl ?_ ?_
  · refine zco_p tkX9_wordLength 28 3 (pc' := 57) (L' := [(0, .ref v0), (1, .int v1), (2, .int v2)]) (S' := [.int (v2 - v1)]) rfl ?_
    exact zco_iret rfl rfl rfl (zdk (cc := cX9_wordLength) (q := (57, .ireturn, 1)) tkX9_wordLength 31 rfl)
  · refine zco_p tkX9_wordLength 21 2 (pc' := 39) (L' := [(0, .ref v0), (1, .int v1), (2, .int v2)]) (S' := [.int v2, .ref v0]) rfl ?_
    refine zco_Vi (rc := 0) (rs := 0) (mc := 0) (ms := 0) (As := [.int v2]) (S := []) vmX9_byteAt (mtX9_byteAt l e (by omega) v0 v2) q_695 rfl rfl (Nat.le_of_ble_eq_true rfl) (zdk (cc := cX9_wordLength) (q := (39, .invokevirtual 36, 3)) tkX9_wordLength 23 rfl) (fun y2 => ?_)
    refine zco_Ni (rc := 0) (rs := 0) (mc := 0) (ms := 0) (As := [.int y2]) (S := []) vmX11_isLetter (mtX11_isLetter l e (by omega) y2) (host := "ClothWedding") (by decide +kernel) rfl rfl (Nat.le_of_ble_eq_true rfl) (zdk (cc := cX9_wordLength) (q := (42, .invokestatic 51, 3)) tkX9_wordLength 24 rfl) (fun y3 => ?_)
    refine zco_if_eq (tgt := 54) (zdk (cc := cX9_wordLength) (q := (45, .ifCond .eq 9, 3)) tkX9_wordLength 25 rfl) rfl ?_ ?_
    · refine zco_p tkX9_wordLength 28 3 (pc' := 57) (L' := [(0, .ref v0), (1, .int v1), (2, .int v2)]) (S' := [.int (v2 - v1)]) rfl ?_
      exact zco_iret rfl rfl rfl (zdk (cc := cX9_wordLength) (q := (57, .ireturn, 1)) tkX9_wordLength 31 rfl)
    · refine zco_p tkX9_wordLength 26 2 (pc' := 29) (L' := [(2, .int (v2 + 1)), (0, .ref v0), (1, .int v1)]) (S' := []) rfl ?_
      exact zco_sub [1, 2, 0] rfl (hr29 (v2 + 1))
set_option maxHeartbeats 2000000 in
set_option maxRecDepth 20000 in
theorem coX9_wordLength (l : Launch) (e : Nat) (he : 1 ≤ e) (v0 : Nat) : zCo l (e + 1) 0 0 iX9_wordLength 0 [(0, .ref v0)] [] (X9_wordLength v0) := by
  unfold X9_wordLength
  refine zco_p tkX9_wordLength 0 1 (pc' := 1) (L' := [(0, .ref v0)]) (S' := [.ref v0]) rfl ?_
  refine zco_Vi (rc := 0) (rs := 0) (mc := 0) (ms := 0) (As := []) (S := []) vmX9_begin (mtX9_begin l e (by omega) v0) q_672 rfl rfl (Nat.le_of_ble_eq_true rfl) (zdk (cc := cX9_wordLength) (q := (1, .invokevirtual 28, 3)) tkX9_wordLength 1 rfl) (fun y1 => ?_)
  refine zco_p tkX9_wordLength 2 2 (pc' := 6) (L' := [(1, .int y1), (0, .ref v0)]) (S' := [.ref v0]) rfl ?_
  refine zco_Vi (rc := 0) (rs := 0) (mc := 0) (ms := 0) (As := []) (S := []) vmX9_sound (mtX9_sound l e (by omega) v0) q_694 rfl rfl (Nat.le_of_ble_eq_true rfl) (zdk (cc := cX9_wordLength) (q := (6, .invokevirtual 32, 3)) tkX9_wordLength 4 rfl) (fun y2 => ?_)
  refine zco_if_eq (tgt := 25) (zdk (cc := cX9_wordLength) (q := (9, .ifCond .eq 16, 3)) tkX9_wordLength 5 rfl) rfl ?_ ?_
  · refine zco_p tkX9_wordLength 13 1 (pc' := 26) (L' := [(1, .int y1), (0, .ref v0)]) (S' := [.int 0]) rfl ?_
    exact zco_iret rfl rfl rfl (zdk (cc := cX9_wordLength) (q := (26, .ireturn, 1)) tkX9_wordLength 14 rfl)
  · refine zco_p tkX9_wordLength 6 4 (pc' := 16) (L' := [(1, .int y1), (0, .ref v0)]) (S' := [.int (y1 - 1), .ref v0]) rfl ?_
    refine zco_Vi (rc := 0) (rs := 0) (mc := 0) (ms := 0) (As := [.int (y1 - 1)]) (S := []) vmX9_byteAt (mtX9_byteAt l e (by omega) v0 (y1 - 1)) q_695 rfl rfl (Nat.le_of_ble_eq_true rfl) (zdk (cc := cX9_wordLength) (q := (16, .invokevirtual 36, 3)) tkX9_wordLength 10 rfl) (fun y3 => ?_)
    refine zco_Ni (rc := 0) (rs := 0) (mc := 0) (ms := 0) (As := [.int y3]) (S := []) vmX11_isDigit (mtX11_isDigit l e (by omega) y3) (host := "ClothWedding") (by decide +kernel) rfl rfl (Nat.le_of_ble_eq_true rfl) (zdk (cc := cX9_wordLength) (q := (19, .invokestatic 48, 3)) tkX9_wordLength 11 rfl) (fun y4 => ?_)
    refine zco_if_eq (tgt := 27) (zdk (cc := cX9_wordLength) (q := (22, .ifCond .eq 5, 3)) tkX9_wordLength 12 rfl) rfl ?_ ?_
    · refine zco_p tkX9_wordLength 15 2 (pc' := 29) (L' := [(2, .int y1), (1, .int y1), (0, .ref v0)]) (S' := []) rfl ?_
      exact zco_sub [2, 1, 0] rfl (zco_fix (Lf := fun x : Int32 => [(0, .ref v0), (1, .int y1), (2, .int x)]) (Sf := fun _ => []) (fun r hr x => coX9_wordLength_B29 l e he v0 y1 r hr x) zFU y1)
    · refine zco_p tkX9_wordLength 13 1 (pc' := 26) (L' := [(1, .int y1), (0, .ref v0)]) (S' := [.int 0]) rfl ?_
      exact zco_iret rfl rfl rfl (zdk (cc := cX9_wordLength) (q := (26, .ireturn, 1)) tkX9_wordLength 14 rfl)
theorem mtX9_wordLength (l : Launch) (d : Nat) (hd : 2 ≤ d) (v0 : Nat) : zMet l d 0 0 yX9_wordLength cX9_wordLength 3 (Option.some .int) [.ref v0] (X9_wordLength v0) := by
  obtain ⟨e, rfl⟩ : ∃ e, d = e + 1 := ⟨d - 1, by omega⟩
  exact zmet_of (own := RX9) (ini := false) (by decide +kernel) rfl (fun _ => by contradiction) (Nat.le_of_ble_eq_true rfl) (coX9_wordLength l e (by omega) v0)
abbrev iX9_listed : zI := (RX9, cX9_listed, 7, (Option.some .int), false)
def tX9_listed : List (Nat × Instr × Nat) := [(0, .iconst 0, 1), (1, .istore_n 3, 1), (2, .iconst 0, 1), (3, .istore 4, 2), (5, .iload_n 2, 1), (6, .ifCond .le 7, 3), (9, .iconst 1, 1), (10, .goto 4, 3), (13, .iconst 0, 1), (14, .istore 5, 2), (16, .iconst 0, 1), (17, .istore 6, 2), (19, .iload 6, 2), (21, .aload_n 1, 1), (22, .invokevirtual 61, 3), (25, .if_icmp .gt 103, 3), (28, .iload 6, 2), (30, .aload_n 1, 1), (31, .invokevirtual 61, 3), (34, .if_icmp .ge 52, 3), (37, .aload_n 1, 1), (38, .iload 6, 2), (40, .invokevirtual 65, 3), (43, .bipush 32, 2), (45, .if_icmp .eq 41, 3), (48, .iload 5, 2), (50, .ifCond .eq 30, 3), (53, .aload_n 1, 1), (54, .iload 6, 2), (56, .invokevirtual 65, 3), (59, .aload_n 0, 1), (60, .aload_n 0, 1), (61, .getfield 15, 3), (64, .iload 6, 2), (66, .iadd, 1), (67, .iload 4, 2), (69, .isub, 1), (70, .invokevirtual 36, 3), (73, .if_icmp .ne 7, 3), (76, .iconst 1, 1), (77, .goto 4, 3), (80, .iconst 0, 1), (81, .istore 5, 2), (83, .goto 39, 3), (86, .iload 5, 2), (88, .ifCond .eq 14, 3), (91, .iload 6, 2), (93, .iload 4, 2), (95, .isub, 1), (96, .iload_n 2, 1), (97, .if_icmp .ne 5, 3), (100, .iload_n 3, 1), (101, .ireturn, 1), (102, .iinc 3 1, 3), (105, .iload 6, 2), (107, .iconst 1, 1), (108, .iadd, 1), (109, .istore 4, 2), (111, .iload_n 2, 1), (112, .ifCond .le 7, 3), (115, .iconst 1, 1), (116, .goto 4, 3), (119, .iconst 0, 1), (120, .istore 5, 2), (122, .iinc 6 1, 3), (125, .goto (-106), 3), (128, .iconst (-1), 1), (129, .ireturn, 1)]
set_option maxRecDepth 100000 in
theorem tkX9_listed : ∀ q ∈ tX9_listed, decode cX9_listed q.1 = .ok q.2 := by decide +kernel
theorem vmX9_listed : zVM yX9_listed cX9_listed 7 (Option.some .int) 2 9 := ⟨kX9_listed, q_707, q_5, q_150, ⟨_, rfl, rfl⟩, by decide +kernel, by decide⟩
set_option maxHeartbeats 2000000 in
set_option maxRecDepth 20000 in
theorem coX9_listed_J122 (l : Launch) (e : Nat) (he : 8 ≤ e) (v0 : Nat) (v1 : Nat) (v2 : Int32) (v3 : Int32) (v4 : Int32) (v5 : Int32) (v6 : Int32) (r19 : Int32 × Int32 × Int32 × Int32 → zM) (hr19 : ∀ x : Int32 × Int32 × Int32 × Int32, zCo l (e + 1) 0 0 iX9_listed 19 [(0, .ref v0), (1, .ref v1), (2, .int v2), (3, .int x.1), (4, .int x.2.1), (5, .int x.2.2.1), (6, .int x.2.2.2)] [] (r19 x)) : zCo l (e + 1) 0 0 iX9_listed 122 [(0, .ref v0), (1, .ref v1), (2, .int v2), (3, .int v3), (4, .int v4), (5, .int v5), (6, .int v6)] [] (X9_listed_J122 r19 v0 v1 v2 v3 v4 v5 v6) := by
  unfold X9_listed_J122
  refine zco_p tkX9_listed 64 2 (pc' := 19) (L' := [(6, .int (v6 + 1)), (0, .ref v0), (1, .ref v1), (2, .int v2), (3, .int v3), (4, .int v4), (5, .int v5)]) (S' := []) rfl ?_
  exact zco_sub [1, 2, 3, 4, 5, 6, 0] rfl (hr19 (v3, v4, v5, v6 + 1))
set_option maxHeartbeats 2000000 in
set_option maxRecDepth 20000 in
theorem coX9_listed_J120 (l : Launch) (e : Nat) (he : 8 ≤ e) (v0 : Nat) (v1 : Nat) (v2 : Int32) (v3 : Int32) (v4 : Int32) (v6 : Int32) (r19 : Int32 × Int32 × Int32 × Int32 → zM) (hr19 : ∀ x : Int32 × Int32 × Int32 × Int32, zCo l (e + 1) 0 0 iX9_listed 19 [(0, .ref v0), (1, .ref v1), (2, .int v2), (3, .int x.1), (4, .int x.2.1), (5, .int x.2.2.1), (6, .int x.2.2.2)] [] (r19 x)) (s0 : Int32) : zCo l (e + 1) 0 0 iX9_listed 120 [(0, .ref v0), (1, .ref v1), (2, .int v2), (3, .int v3), (4, .int v4), (6, .int v6)] [.int s0] (X9_listed_J120 r19 v0 v1 v2 v3 v4 v6 s0) := by
  unfold X9_listed_J120
  refine zco_p tkX9_listed 63 1 (pc' := 122) (L' := [(5, .int s0), (0, .ref v0), (1, .ref v1), (2, .int v2), (3, .int v3), (4, .int v4), (6, .int v6)]) (S' := []) rfl ?_
  exact zco_sub [1, 2, 3, 4, 5, 0, 6] rfl (coX9_listed_J122 l e he v0 v1 v2 v3 v4 s0 v6 r19 hr19)
set_option maxHeartbeats 2000000 in
set_option maxRecDepth 20000 in
theorem coX9_listed_J102 (l : Launch) (e : Nat) (he : 8 ≤ e) (v0 : Nat) (v1 : Nat) (v2 : Int32) (v3 : Int32) (v6 : Int32) (r19 : Int32 × Int32 × Int32 × Int32 → zM) (hr19 : ∀ x : Int32 × Int32 × Int32 × Int32, zCo l (e + 1) 0 0 iX9_listed 19 [(0, .ref v0), (1, .ref v1), (2, .int v2), (3, .int x.1), (4, .int x.2.1), (5, .int x.2.2.1), (6, .int x.2.2.2)] [] (r19 x)) : zCo l (e + 1) 0 0 iX9_listed 102 [(0, .ref v0), (1, .ref v1), (2, .int v2), (3, .int v3), (6, .int v6)] [] (X9_listed_J102 r19 v0 v1 v2 v3 v6) := by
  unfold X9_listed_J102
  refine zco_p tkX9_listed 53 6 (pc' := 112) (L' := [(4, .int (v6 + 1)), (3, .int (v3 + 1)), (0, .ref v0), (1, .ref v1), (2, .int v2), (6, .int v6)]) (S' := [.int v2]) rfl ?_
  refine zco_if_le (tgt := 119) (zdk (cc := cX9_listed) (q := (112, .ifCond .le 7, 3)) tkX9_listed 59 rfl) rfl ?_ ?_
  · refine zco_p tkX9_listed 62 1 (pc' := 120) (L' := [(4, .int (v6 + 1)), (3, .int (v3 + 1)), (0, .ref v0), (1, .ref v1), (2, .int v2), (6, .int v6)]) (S' := [.int 0]) rfl ?_
    exact zco_sub [2, 3, 4, 1, 0, 5] rfl (coX9_listed_J120 l e he v0 v1 v2 (v3 + 1) (v6 + 1) v6 r19 hr19 0)
  · refine zco_p tkX9_listed 60 2 (pc' := 120) (L' := [(4, .int (v6 + 1)), (3, .int (v3 + 1)), (0, .ref v0), (1, .ref v1), (2, .int v2), (6, .int v6)]) (S' := [.int 1]) rfl ?_
    exact zco_sub [2, 3, 4, 1, 0, 5] rfl (coX9_listed_J120 l e he v0 v1 v2 (v3 + 1) (v6 + 1) v6 r19 hr19 1)
set_option maxHeartbeats 2000000 in
set_option maxRecDepth 20000 in
theorem coX9_listed_J86 (l : Launch) (e : Nat) (he : 8 ≤ e) (v0 : Nat) (v1 : Nat) (v2 : Int32) (v3 : Int32) (v4 : Int32) (v5 : Int32) (v6 : Int32) (r19 : Int32 × Int32 × Int32 × Int32 → zM) (hr19 : ∀ x : Int32 × Int32 × Int32 × Int32, zCo l (e + 1) 0 0 iX9_listed 19 [(0, .ref v0), (1, .ref v1), (2, .int v2), (3, .int x.1), (4, .int x.2.1), (5, .int x.2.2.1), (6, .int x.2.2.2)] [] (r19 x)) : zCo l (e + 1) 0 0 iX9_listed 86 [(0, .ref v0), (1, .ref v1), (2, .int v2), (3, .int v3), (4, .int v4), (5, .int v5), (6, .int v6)] [] (X9_listed_J86 r19 v0 v1 v2 v3 v4 v5 v6) := by
  unfold X9_listed_J86
  refine zco_p tkX9_listed 44 1 (pc' := 88) (L' := [(0, .ref v0), (1, .ref v1), (2, .int v2), (3, .int v3), (4, .int v4), (5, .int v5), (6, .int v6)]) (S' := [.int v5]) rfl ?_
  refine zco_if_eq (tgt := 102) (zdk (cc := cX9_listed) (q := (88, .ifCond .eq 14, 3)) tkX9_listed 45 rfl) rfl ?_ ?_
  · exact zco_sub [0, 1, 2, 3, 6] rfl (coX9_listed_J102 l e he v0 v1 v2 v3 v6 r19 hr19)
  · refine zco_p tkX9_listed 46 4 (pc' := 97) (L' := [(0, .ref v0), (1, .ref v1), (2, .int v2), (3, .int v3), (4, .int v4), (5, .int v5), (6, .int v6)]) (S' := [.int v2, .int (v6 - v4)]) rfl ?_
    refine zco_icmp_ne (tgt := 102) (zdk (cc := cX9_listed) (q := (97, .if_icmp .ne 5, 3)) tkX9_listed 50 rfl) rfl ?_ ?_
    · exact zco_sub [0, 1, 2, 3, 6] rfl (coX9_listed_J102 l e he v0 v1 v2 v3 v6 r19 hr19)
    · refine zco_p tkX9_listed 51 1 (pc' := 101) (L' := [(0, .ref v0), (1, .ref v1), (2, .int v2), (3, .int v3), (4, .int v4), (5, .int v5), (6, .int v6)]) (S' := [.int v3]) rfl ?_
      exact zco_iret rfl rfl rfl (zdk (cc := cX9_listed) (q := (101, .ireturn, 1)) tkX9_listed 52 rfl)
set_option maxHeartbeats 2000000 in
set_option maxRecDepth 20000 in
theorem coX9_listed_J81 (l : Launch) (e : Nat) (he : 8 ≤ e) (v0 : Nat) (v1 : Nat) (v2 : Int32) (v3 : Int32) (v4 : Int32) (v6 : Int32) (r19 : Int32 × Int32 × Int32 × Int32 → zM) (hr19 : ∀ x : Int32 × Int32 × Int32 × Int32, zCo l (e + 1) 0 0 iX9_listed 19 [(0, .ref v0), (1, .ref v1), (2, .int v2), (3, .int x.1), (4, .int x.2.1), (5, .int x.2.2.1), (6, .int x.2.2.2)] [] (r19 x)) (s0 : Int32) : zCo l (e + 1) 0 0 iX9_listed 81 [(0, .ref v0), (1, .ref v1), (2, .int v2), (3, .int v3), (4, .int v4), (6, .int v6)] [.int s0] (X9_listed_J81 r19 v0 v1 v2 v3 v4 v6 s0) := by
  unfold X9_listed_J81
  refine zco_p tkX9_listed 42 2 (pc' := 122) (L' := [(5, .int s0), (0, .ref v0), (1, .ref v1), (2, .int v2), (3, .int v3), (4, .int v4), (6, .int v6)]) (S' := []) rfl ?_
  exact zco_sub [1, 2, 3, 4, 5, 0, 6] rfl (coX9_listed_J122 l e he v0 v1 v2 v3 v4 s0 v6 r19 hr19)
set_option maxHeartbeats 2000000 in
set_option maxRecDepth 20000 in
theorem coX9_listed_J80 (l : Launch) (e : Nat) (he : 8 ≤ e) (v0 : Nat) (v1 : Nat) (v2 : Int32) (v3 : Int32) (v4 : Int32) (v6 : Int32) (r19 : Int32 × Int32 × Int32 × Int32 → zM) (hr19 : ∀ x : Int32 × Int32 × Int32 × Int32, zCo l (e + 1) 0 0 iX9_listed 19 [(0, .ref v0), (1, .ref v1), (2, .int v2), (3, .int x.1), (4, .int x.2.1), (5, .int x.2.2.1), (6, .int x.2.2.2)] [] (r19 x)) : zCo l (e + 1) 0 0 iX9_listed 80 [(0, .ref v0), (1, .ref v1), (2, .int v2), (3, .int v3), (4, .int v4), (6, .int v6)] [] (X9_listed_J80 r19 v0 v1 v2 v3 v4 v6) := by
  unfold X9_listed_J80
  refine zco_p tkX9_listed 41 1 (pc' := 81) (L' := [(0, .ref v0), (1, .ref v1), (2, .int v2), (3, .int v3), (4, .int v4), (6, .int v6)]) (S' := [.int 0]) rfl ?_
  exact zco_sub [0, 1, 2, 3, 4, 5] rfl (coX9_listed_J81 l e he v0 v1 v2 v3 v4 v6 r19 hr19 0)
set_option maxHeartbeats 2000000 in
set_option maxRecDepth 20000 in
theorem coX9_listed_B19 (l : Launch) (e : Nat) (he : 8 ≤ e) (v0 : Nat) (v1 : Nat) (v2 : Int32) (r19 : Int32 × Int32 × Int32 × Int32 → zM) (hr19 : ∀ x : Int32 × Int32 × Int32 × Int32, zCo l (e + 1) 0 0 iX9_listed 19 [(0, .ref v0), (1, .ref v1), (2, .int v2), (3, .int x.1), (4, .int x.2.1), (5, .int x.2.2.1), (6, .int x.2.2.2)] [] (r19 x)) (v3 : Int32) (v4 : Int32) (v5 : Int32) (v6 : Int32) : zCo l (e + 1) 0 0 iX9_listed 19 [(0, .ref v0), (1, .ref v1), (2, .int v2), (3, .int v3), (4, .int v4), (5, .int v5), (6, .int v6)] [] (X9_listed_B19 v0 v1 v2 r19 v3 v4 v5 v6) := by
  unfold X9_listed_B19
  refine zco_p tkX9_listed 12 2 (pc' := 22) (L' := [(0, .ref v0), (1, .ref v1), (2, .int v2), (3, .int v3), (4, .int v4), (5, .int v5), (6, .int v6)]) (S' := [.ref v1, .int v6]) rfl ?_
  refine zco_slen (by omega) q_709 (Nat.le_of_ble_eq_true rfl) (zdk (cc := cX9_listed) (q := (22, .invokevirtual 61, 3)) tkX9_listed 14 rfl) (fun x1 => ?_)
  refine zco_icmp_gt (tgt := 128) (zdk (cc := cX9_listed) (q := (25, .if_icmp .gt 103, 3)) tkX9_listed 15 rfl) rfl ?_ ?_
  · refine zco_p tkX9_listed 66 1 (pc' := 129) (L' := [(0, .ref v0), (1, .ref v1), (2, .int v2), (3, .int v3), (4, .int v4), (5, .int v5), (6, .int v6)]) (S' := [.int ((-1))]) rfl ?_
    exact zco_iret rfl rfl rfl (zdk (cc := cX9_listed) (q := (129, .ireturn, 1)) tkX9_listed 67 rfl)
  · refine zco_p tkX9_listed 16 2 (pc' := 31) (L' := [(0, .ref v0), (1, .ref v1), (2, .int v2), (3, .int v3), (4, .int v4), (5, .int v5), (6, .int v6)]) (S' := [.ref v1, .int v6]) rfl ?_
    refine zco_slen (by omega) q_709 (Nat.le_of_ble_eq_true rfl) (zdk (cc := cX9_listed) (q := (31, .invokevirtual 61, 3)) tkX9_listed 18 rfl) (fun x2 => ?_)
    refine zco_icmp_ge (tgt := 86) (zdk (cc := cX9_listed) (q := (34, .if_icmp .ge 52, 3)) tkX9_listed 19 rfl) rfl ?_ ?_
    · exact zco_sub [0, 1, 2, 3, 4, 5, 6] rfl (coX9_listed_J86 l e he v0 v1 v2 v3 v4 v5 v6 r19 hr19)
    · refine zco_p tkX9_listed 20 2 (pc' := 40) (L' := [(0, .ref v0), (1, .ref v1), (2, .int v2), (3, .int v3), (4, .int v4), (5, .int v5), (6, .int v6)]) (S' := [.int v6, .ref v1]) rfl ?_
      refine zco_sch (by omega) q_719 (Nat.le_of_ble_eq_true rfl) (zdk (cc := cX9_listed) (q := (40, .invokevirtual 65, 3)) tkX9_listed 22 rfl) (fun x3 => ?_)
      refine zco_p tkX9_listed 23 1 (pc' := 45) (L' := [(0, .ref v0), (1, .ref v1), (2, .int v2), (3, .int v3), (4, .int v4), (5, .int v5), (6, .int v6)]) (S' := [.int 32, .int x3]) rfl ?_
      refine zco_icmp_eq (tgt := 86) (zdk (cc := cX9_listed) (q := (45, .if_icmp .eq 41, 3)) tkX9_listed 24 rfl) rfl ?_ ?_
      · exact zco_sub [0, 1, 2, 3, 4, 5, 6] rfl (coX9_listed_J86 l e he v0 v1 v2 v3 v4 v5 v6 r19 hr19)
      · refine zco_p tkX9_listed 25 1 (pc' := 50) (L' := [(0, .ref v0), (1, .ref v1), (2, .int v2), (3, .int v3), (4, .int v4), (5, .int v5), (6, .int v6)]) (S' := [.int v5]) rfl ?_
        refine zco_if_eq (tgt := 80) (zdk (cc := cX9_listed) (q := (50, .ifCond .eq 30, 3)) tkX9_listed 26 rfl) rfl ?_ ?_
        · exact zco_sub [0, 1, 2, 3, 4, 6] rfl (coX9_listed_J80 l e he v0 v1 v2 v3 v4 v6 r19 hr19)
        · refine zco_p tkX9_listed 27 2 (pc' := 56) (L' := [(0, .ref v0), (1, .ref v1), (2, .int v2), (3, .int v3), (4, .int v4), (5, .int v5), (6, .int v6)]) (S' := [.int v6, .ref v1]) rfl ?_
          refine zco_sch (by omega) q_719 (Nat.le_of_ble_eq_true rfl) (zdk (cc := cX9_listed) (q := (56, .invokevirtual 65, 3)) tkX9_listed 29 rfl) (fun x4 => ?_)
          refine zco_p tkX9_listed 30 2 (pc' := 61) (L' := [(0, .ref v0), (1, .ref v1), (2, .int v2), (3, .int v3), (4, .int v4), (5, .int v5), (6, .int v6)]) (S' := [.ref v0, .ref v0, .int x4]) rfl ?_
          refine zco_gi fl_9_15 rfl (zdk (cc := cX9_listed) (q := (61, .getfield 15, 3)) tkX9_listed 32 rfl) (fun x5 => ?_)
          refine zco_p tkX9_listed 33 4 (pc' := 70) (L' := [(0, .ref v0), (1, .ref v1), (2, .int v2), (3, .int v3), (4, .int v4), (5, .int v5), (6, .int v6)]) (S' := [.int ((x5 + v6) - v4), .ref v0, .int x4]) rfl ?_
          refine zco_Vi (rc := 0) (rs := 0) (mc := 0) (ms := 0) (As := [.int ((x5 + v6) - v4)]) (S := [.int x4]) vmX9_byteAt (mtX9_byteAt l e (by omega) v0 ((x5 + v6) - v4)) q_695 rfl rfl (Nat.le_of_ble_eq_true rfl) (zdk (cc := cX9_listed) (q := (70, .invokevirtual 36, 3)) tkX9_listed 37 rfl) (fun y6 => ?_)
          refine zco_icmp_ne (tgt := 80) (zdk (cc := cX9_listed) (q := (73, .if_icmp .ne 7, 3)) tkX9_listed 38 rfl) rfl ?_ ?_
          · exact zco_sub [0, 1, 2, 3, 4, 6] rfl (coX9_listed_J80 l e he v0 v1 v2 v3 v4 v6 r19 hr19)
          · refine zco_p tkX9_listed 39 2 (pc' := 81) (L' := [(0, .ref v0), (1, .ref v1), (2, .int v2), (3, .int v3), (4, .int v4), (5, .int v5), (6, .int v6)]) (S' := [.int 1]) rfl ?_
            exact zco_sub [0, 1, 2, 3, 4, 6] rfl (coX9_listed_J81 l e he v0 v1 v2 v3 v4 v6 r19 hr19 1)
set_option maxHeartbeats 2000000 in
set_option maxRecDepth 20000 in
theorem coX9_listed_J14 (l : Launch) (e : Nat) (he : 8 ≤ e) (v0 : Nat) (v1 : Nat) (v2 : Int32) (v3 : Int32) (v4 : Int32) (s0 : Int32) : zCo l (e + 1) 0 0 iX9_listed 14 [(0, .ref v0), (1, .ref v1), (2, .int v2), (3, .int v3), (4, .int v4)] [.int s0] (X9_listed_J14 v0 v1 v2 v3 v4 s0) := by
  unfold X9_listed_J14
  refine zco_p tkX9_listed 9 3 (pc' := 19) (L' := [(6, .int 0), (5, .int s0), (0, .ref v0), (1, .ref v1), (2, .int v2), (3, .int v3), (4, .int v4)]) (S' := []) rfl ?_
  exact zco_sub [2, 3, 4, 5, 6, 1, 0] rfl (zco_fix (Lf := fun x : Int32 × Int32 × Int32 × Int32 => [(0, .ref v0), (1, .ref v1), (2, .int v2), (3, .int x.1), (4, .int x.2.1), (5, .int x.2.2.1), (6, .int x.2.2.2)]) (Sf := fun _ => []) (fun r hr x => coX9_listed_B19 l e he v0 v1 v2 r hr x.1 x.2.1 x.2.2.1 x.2.2.2) zFU (v3, v4, s0, 0))
set_option maxHeartbeats 2000000 in
set_option maxRecDepth 20000 in
theorem coX9_listed (l : Launch) (e : Nat) (he : 8 ≤ e) (v0 : Nat) (v1 : Nat) (v2 : Int32) : zCo l (e + 1) 0 0 iX9_listed 0 [(0, .ref v0), (1, .ref v1), (2, .int v2)] [] (X9_listed v0 v1 v2) := by
  unfold X9_listed
  refine zco_p tkX9_listed 0 5 (pc' := 6) (L' := [(4, .int 0), (3, .int 0), (0, .ref v0), (1, .ref v1), (2, .int v2)]) (S' := [.int v2]) rfl ?_
  refine zco_if_le (tgt := 13) (zdk (cc := cX9_listed) (q := (6, .ifCond .le 7, 3)) tkX9_listed 5 rfl) rfl ?_ ?_
  · refine zco_p tkX9_listed 8 1 (pc' := 14) (L' := [(4, .int 0), (3, .int 0), (0, .ref v0), (1, .ref v1), (2, .int v2)]) (S' := [.int 0]) rfl ?_
    exact zco_sub [2, 3, 4, 1, 0] rfl (coX9_listed_J14 l e he v0 v1 v2 0 0 0)
  · refine zco_p tkX9_listed 6 2 (pc' := 14) (L' := [(4, .int 0), (3, .int 0), (0, .ref v0), (1, .ref v1), (2, .int v2)]) (S' := [.int 1]) rfl ?_
    exact zco_sub [2, 3, 4, 1, 0] rfl (coX9_listed_J14 l e he v0 v1 v2 0 0 1)
theorem mtX9_listed (l : Launch) (d : Nat) (hd : 9 ≤ d) (v0 : Nat) (v1 : Nat) (v2 : Int32) : zMet l d 0 0 yX9_listed cX9_listed 7 (Option.some .int) [.ref v0, .ref v1, .int v2] (X9_listed v0 v1 v2) := by
  obtain ⟨e, rfl⟩ : ∃ e, d = e + 1 := ⟨d - 1, by omega⟩
  exact zmet_of (own := RX9) (ini := false) (by decide +kernel) rfl (fun _ => by contradiction) (Nat.le_of_ble_eq_true rfl) (coX9_listed l e (by omega) v0 v1 v2)
abbrev iX9_wordIn : zI := (RX9, cX9_wordIn, 2, (Option.some .int), false)
def tX9_wordIn : List (Nat × Instr × Nat) := [(0, .aload_n 0, 1), (1, .aload_n 1, 1), (2, .aload_n 0, 1), (3, .invokevirtual 54, 3), (6, .invokevirtual 57, 3), (9, .ireturn, 1)]
set_option maxRecDepth 100000 in
theorem tkX9_wordIn : ∀ q ∈ tX9_wordIn, decode cX9_wordIn q.1 = .ok q.2 := by decide +kernel
theorem vmX9_wordIn : zVM yX9_wordIn cX9_wordIn 2 (Option.some .int) 1 9 := ⟨kX9_wordIn, q_687, q_688, q_150, ⟨_, rfl, rfl⟩, by decide +kernel, by decide⟩
set_option maxHeartbeats 2000000 in
set_option maxRecDepth 20000 in
theorem coX9_wordIn (l : Launch) (e : Nat) (he : 9 ≤ e) (v0 : Nat) (v1 : Nat) : zCo l (e + 1) 0 0 iX9_wordIn 0 [(0, .ref v0), (1, .ref v1)] [] (X9_wordIn v0 v1) := by
  unfold X9_wordIn
  refine zco_p tkX9_wordIn 0 3 (pc' := 3) (L' := [(0, .ref v0), (1, .ref v1)]) (S' := [.ref v0, .ref v1, .ref v0]) rfl ?_
  refine zco_Vi (rc := 0) (rs := 0) (mc := 0) (ms := 0) (As := []) (S := [.ref v1, .ref v0]) vmX9_wordLength (mtX9_wordLength l e (by omega) v0) q_690 rfl rfl (Nat.le_of_ble_eq_true rfl) (zdk (cc := cX9_wordIn) (q := (3, .invokevirtual 54, 3)) tkX9_wordIn 3 rfl) (fun y1 => ?_)
  refine zco_Vi (rc := 0) (rs := 0) (mc := 0) (ms := 0) (As := [.ref v1, .int y1]) (S := []) vmX9_listed (mtX9_listed l e (by omega) v0 v1 y1) q_705 rfl rfl (Nat.le_of_ble_eq_true rfl) (zdk (cc := cX9_wordIn) (q := (6, .invokevirtual 57, 3)) tkX9_wordIn 4 rfl) (fun y2 => ?_)
  exact zco_iret rfl rfl rfl (zdk (cc := cX9_wordIn) (q := (9, .ireturn, 1)) tkX9_wordIn 5 rfl)
theorem mtX9_wordIn (l : Launch) (d : Nat) (hd : 10 ≤ d) (v0 : Nat) (v1 : Nat) : zMet l d 0 0 yX9_wordIn cX9_wordIn 2 (Option.some .int) [.ref v0, .ref v1] (X9_wordIn v0 v1) := by
  obtain ⟨e, rfl⟩ : ∃ e, d = e + 1 := ⟨d - 1, by omega⟩
  exact zmet_of (own := RX9) (ini := false) (by decide +kernel) rfl (fun _ => by contradiction) (Nat.le_of_ble_eq_true rfl) (coX9_wordIn l e (by omega) v0 v1)
abbrev iX9_passWord : zI := (RX9, cX9_passWord, 1, (Option.none : Option FieldType), false)
def tX9_passWord : List (Nat × Instr × Nat) := [(0, .aload_n 0, 1), (1, .dup, 1), (2, .getfield 15, 3), (5, .aload_n 0, 1), (6, .invokevirtual 54, 3), (9, .iadd, 1), (10, .putfield 15, 3), (13, .return_, 1)]
set_option maxRecDepth 100000 in
theorem tkX9_passWord : ∀ q ∈ tX9_passWord, decode cX9_passWord q.1 = .ok q.2 := by decide +kernel
theorem vmX9_passWord : zVM yX9_passWord cX9_passWord 1 (Option.none : Option FieldType) 0 9 := ⟨kX9_passWord, q_762, q_763, q_150, ⟨_, rfl, rfl⟩, by decide +kernel, by decide⟩
set_option maxHeartbeats 2000000 in
set_option maxRecDepth 20000 in
theorem coX9_passWord (l : Launch) (e : Nat) (he : 2 ≤ e) (v0 : Nat) : zCo l (e + 1) 0 0 iX9_passWord 0 [(0, .ref v0)] [] (X9_passWord v0) := by
  unfold X9_passWord
  refine zco_p tkX9_passWord 0 2 (pc' := 2) (L' := [(0, .ref v0)]) (S' := [.ref v0, .ref v0]) rfl ?_
  refine zco_gi fl_9_15 rfl (zdk (cc := cX9_passWord) (q := (2, .getfield 15, 3)) tkX9_passWord 2 rfl) (fun x1 => ?_)
  refine zco_p tkX9_passWord 3 1 (pc' := 6) (L' := [(0, .ref v0)]) (S' := [.ref v0, .int x1, .ref v0]) rfl ?_
  refine zco_Vi (rc := 0) (rs := 0) (mc := 0) (ms := 0) (As := []) (S := [.int x1, .ref v0]) vmX9_wordLength (mtX9_wordLength l e (by omega) v0) q_690 rfl rfl (Nat.le_of_ble_eq_true rfl) (zdk (cc := cX9_passWord) (q := (6, .invokevirtual 54, 3)) tkX9_passWord 4 rfl) (fun y2 => ?_)
  refine zco_p tkX9_passWord 5 1 (pc' := 10) (L' := [(0, .ref v0)]) (S' := [.int (x1 + y2), .ref v0]) rfl ?_
  refine zco_pi fl_9_15 rfl rfl (zdk (cc := cX9_passWord) (q := (10, .putfield 15, 3)) tkX9_passWord 6 rfl) ?_
  exact zco_vret rfl rfl rfl (zdk (cc := cX9_passWord) (q := (13, .return_, 1)) tkX9_passWord 7 rfl)
theorem mtX9_passWord (l : Launch) (d : Nat) (hd : 3 ≤ d) (v0 : Nat) : zMet l d 0 0 yX9_passWord cX9_passWord 1 (Option.none : Option FieldType) [.ref v0] (X9_passWord v0) := by
  obtain ⟨e, rfl⟩ : ∃ e, d = e + 1 := ⟨d - 1, by omega⟩
  exact zmet_of (own := RX9) (ini := false) (by decide +kernel) rfl (fun _ => by contradiction) (Nat.le_of_ble_eq_true rfl) (coX9_passWord l e (by omega) v0)
abbrev iX9_takeName : zI := (RX9, cX9_takeName, 4, (Option.none : Option FieldType), false)
def tX9_takeName : List (Nat × Instr × Nat) := [(0, .aload_n 0, 1), (1, .invokevirtual 54, 3), (4, .istore_n 2, 1), (5, .iload_n 2, 1), (6, .ifCond .eq 14, 3), (9, .aload_n 0, 1), (10, .ldc 73, 2), (12, .iload_n 2, 1), (13, .invokevirtual 57, 3), (16, .iconst (-1), 1), (17, .if_icmp .eq 15, 3), (20, .aload_n 0, 1), (21, .iconst 1, 1), (22, .aload_n 0, 1), (23, .getfield 15, 3), (26, .invokevirtual 44, 3), (29, .goto 21, 3), (32, .iload_n 2, 1), (33, .bipush 6, 2), (35, .if_icmp .le 15, 3), (38, .aload_n 0, 1), (39, .iconst 1, 1), (40, .aload_n 0, 1), (41, .getfield 15, 3), (44, .bipush 6, 2), (46, .iadd, 1), (47, .invokevirtual 44, 3), (50, .iconst 0, 1), (51, .istore_n 3, 1), (52, .iload_n 3, 1), (53, .bipush 6, 2), (55, .if_icmp .ge 49, 3), (58, .iload_n 3, 1), (59, .aload_n 1, 1), (60, .arraylength, 1), (61, .if_icmp .ge 43, 3), (64, .aload_n 1, 1), (65, .iload_n 3, 1), (66, .aload_n 0, 1), (67, .invokevirtual 32, 3), (70, .ifCond .eq 26, 3), (73, .iload_n 3, 1), (74, .iload_n 2, 1), (75, .if_icmp .ge 21, 3), (78, .aload_n 0, 1), (79, .aload_n 0, 1), (80, .getfield 15, 3), (83, .iload_n 3, 1), (84, .iadd, 1), (85, .invokevirtual 36, 3), (88, .bipush 97, 2), (90, .isub, 1), (91, .iconst 1, 1), (92, .iadd, 1), (93, .goto 4, 3), (96, .iconst 0, 1), (97, .iastore, 1), (98, .iinc 3 1, 3), (101, .goto (-49), 3), (104, .aload_n 0, 1), (105, .dup, 1), (106, .getfield 15, 3), (109, .iload_n 2, 1), (110, .iadd, 1), (111, .putfield 15, 3), (114, .return_, 1)]
set_option maxRecDepth 100000 in
theorem tkX9_takeName : ∀ q ∈ tX9_takeName, decode cX9_takeName q.1 = .ok q.2 := by decide +kernel
theorem vmX9_takeName : zVM yX9_takeName cX9_takeName 4 (Option.none : Option FieldType) 1 9 := ⟨kX9_takeName, q_766, q_767, q_150, ⟨_, rfl, rfl⟩, by decide +kernel, by decide⟩
set_option maxHeartbeats 2000000 in
set_option maxRecDepth 20000 in
theorem coX9_takeName_J104 (l : Launch) (e : Nat) (he : 9 ≤ e) (v0 : Nat) (v2 : Int32) : zCo l (e + 1) 0 0 iX9_takeName 104 [(0, .ref v0), (2, .int v2)] [] (X9_takeName_J104 v0 v2) := by
  unfold X9_takeName_J104
  refine zco_p tkX9_takeName 59 2 (pc' := 106) (L' := [(0, .ref v0), (2, .int v2)]) (S' := [.ref v0, .ref v0]) rfl ?_
  refine zco_gi fl_9_15 rfl (zdk (cc := cX9_takeName) (q := (106, .getfield 15, 3)) tkX9_takeName 61 rfl) (fun x1 => ?_)
  refine zco_p tkX9_takeName 62 2 (pc' := 111) (L' := [(0, .ref v0), (2, .int v2)]) (S' := [.int (x1 + v2), .ref v0]) rfl ?_
  refine zco_pi fl_9_15 rfl rfl (zdk (cc := cX9_takeName) (q := (111, .putfield 15, 3)) tkX9_takeName 64 rfl) ?_
  exact zco_vret rfl rfl rfl (zdk (cc := cX9_takeName) (q := (114, .return_, 1)) tkX9_takeName 65 rfl)
set_option maxHeartbeats 2000000 in
set_option maxRecDepth 20000 in
theorem coX9_takeName_J97 (l : Launch) (e : Nat) (he : 9 ≤ e) (v0 : Nat) (v1 : Nat) (v2 : Int32) (v3 : Int32) (r52 : Int32 → zM) (hr52 : ∀ x : Int32, zCo l (e + 1) 0 0 iX9_takeName 52 [(0, .ref v0), (1, .ref v1), (2, .int v2), (3, .int x)] [] (r52 x)) (s0 : Int32) (s1 : Int32) (s2 : Nat) : zCo l (e + 1) 0 0 iX9_takeName 97 [(0, .ref v0), (1, .ref v1), (2, .int v2), (3, .int v3)] [.int s0, .int s1, .ref s2] (X9_takeName_J97 r52 v0 v1 v2 v3 s0 s1 s2) := by
  unfold X9_takeName_J97
  refine zco_iastore (zdk (cc := cX9_takeName) (q := (97, .iastore, 1)) tkX9_takeName 56 rfl) ?_
  refine zco_p tkX9_takeName 57 2 (pc' := 52) (L' := [(3, .int (v3 + 1)), (0, .ref v0), (1, .ref v1), (2, .int v2)]) (S' := []) rfl ?_
  exact zco_sub [1, 2, 3, 0] rfl (hr52 (v3 + 1))
set_option maxHeartbeats 2000000 in
set_option maxRecDepth 20000 in
theorem coX9_takeName_J96 (l : Launch) (e : Nat) (he : 9 ≤ e) (v0 : Nat) (v1 : Nat) (v2 : Int32) (v3 : Int32) (r52 : Int32 → zM) (hr52 : ∀ x : Int32, zCo l (e + 1) 0 0 iX9_takeName 52 [(0, .ref v0), (1, .ref v1), (2, .int v2), (3, .int x)] [] (r52 x)) (s0 : Int32) (s1 : Nat) : zCo l (e + 1) 0 0 iX9_takeName 96 [(0, .ref v0), (1, .ref v1), (2, .int v2), (3, .int v3)] [.int s0, .ref s1] (X9_takeName_J96 r52 v0 v1 v2 v3 s0 s1) := by
  unfold X9_takeName_J96
  refine zco_p tkX9_takeName 55 1 (pc' := 97) (L' := [(0, .ref v0), (1, .ref v1), (2, .int v2), (3, .int v3)]) (S' := [.int 0, .int s0, .ref s1]) rfl ?_
  exact zco_sub [0, 1, 2, 3] rfl (coX9_takeName_J97 l e he v0 v1 v2 v3 r52 hr52 0 s0 s1)
set_option maxHeartbeats 2000000 in
set_option maxRecDepth 20000 in
theorem coX9_takeName_B52 (l : Launch) (e : Nat) (he : 9 ≤ e) (v0 : Nat) (v1 : Nat) (v2 : Int32) (r52 : Int32 → zM) (hr52 : ∀ x : Int32, zCo l (e + 1) 0 0 iX9_takeName 52 [(0, .ref v0), (1, .ref v1), (2, .int v2), (3, .int x)] [] (r52 x)) (v3 : Int32) : zCo l (e + 1) 0 0 iX9_takeName 52 [(0, .ref v0), (1, .ref v1), (2, .int v2), (3, .int v3)] [] (X9_takeName_B52 v0 v1 v2 r52 v3) := by
  unfold X9_takeName_B52
  refine zco_p tkX9_takeName 29 2 (pc' := 55) (L' := [(0, .ref v0), (1, .ref v1), (2, .int v2), (3, .int v3)]) (S' := [.int 6, .int v3]) rfl ?_
  refine zco_icmp_ge (tgt := 104) (zdk (cc := cX9_takeName) (q := (55, .if_icmp .ge 49, 3)) tkX9_takeName 31 rfl) rfl ?_ ?_
  · exact zco_sub [0, 2] rfl (coX9_takeName_J104 l e he v0 v2)
  · refine zco_p tkX9_takeName 32 2 (pc' := 60) (L' := [(0, .ref v0), (1, .ref v1), (2, .int v2), (3, .int v3)]) (S' := [.ref v1, .int v3]) rfl ?_
    refine zco_alen (zdk (cc := cX9_takeName) (q := (60, .arraylength, 1)) tkX9_takeName 34 rfl) (fun x1 => ?_)
    refine zco_icmp_ge (tgt := 104) (zdk (cc := cX9_takeName) (q := (61, .if_icmp .ge 43, 3)) tkX9_takeName 35 rfl) rfl ?_ ?_
    · exact zco_sub [0, 2] rfl (coX9_takeName_J104 l e he v0 v2)
    · refine zco_p tkX9_takeName 36 3 (pc' := 67) (L' := [(0, .ref v0), (1, .ref v1), (2, .int v2), (3, .int v3)]) (S' := [.ref v0, .int v3, .ref v1]) rfl ?_
      refine zco_Vi (rc := 0) (rs := 0) (mc := 0) (ms := 0) (As := []) (S := [.int v3, .ref v1]) vmX9_sound (mtX9_sound l e (by omega) v0) q_694 rfl rfl (Nat.le_of_ble_eq_true rfl) (zdk (cc := cX9_takeName) (q := (67, .invokevirtual 32, 3)) tkX9_takeName 39 rfl) (fun y2 => ?_)
      refine zco_if_eq (tgt := 96) (zdk (cc := cX9_takeName) (q := (70, .ifCond .eq 26, 3)) tkX9_takeName 40 rfl) rfl ?_ ?_
      · exact zco_sub [0, 1, 2, 3] rfl (coX9_takeName_J96 l e he v0 v1 v2 v3 r52 hr52 v3 v1)
      · refine zco_p tkX9_takeName 41 2 (pc' := 75) (L' := [(0, .ref v0), (1, .ref v1), (2, .int v2), (3, .int v3)]) (S' := [.int v2, .int v3, .int v3, .ref v1]) rfl ?_
        refine zco_icmp_ge (tgt := 96) (zdk (cc := cX9_takeName) (q := (75, .if_icmp .ge 21, 3)) tkX9_takeName 43 rfl) rfl ?_ ?_
        · exact zco_sub [0, 1, 2, 3] rfl (coX9_takeName_J96 l e he v0 v1 v2 v3 r52 hr52 v3 v1)
        · refine zco_p tkX9_takeName 44 2 (pc' := 80) (L' := [(0, .ref v0), (1, .ref v1), (2, .int v2), (3, .int v3)]) (S' := [.ref v0, .ref v0, .int v3, .ref v1]) rfl ?_
          refine zco_gi fl_9_15 rfl (zdk (cc := cX9_takeName) (q := (80, .getfield 15, 3)) tkX9_takeName 46 rfl) (fun x3 => ?_)
          refine zco_p tkX9_takeName 47 2 (pc' := 85) (L' := [(0, .ref v0), (1, .ref v1), (2, .int v2), (3, .int v3)]) (S' := [.int (x3 + v3), .ref v0, .int v3, .ref v1]) rfl ?_
          refine zco_Vi (rc := 0) (rs := 0) (mc := 0) (ms := 0) (As := [.int (x3 + v3)]) (S := [.int v3, .ref v1]) vmX9_byteAt (mtX9_byteAt l e (by omega) v0 (x3 + v3)) q_695 rfl rfl (Nat.le_of_ble_eq_true rfl) (zdk (cc := cX9_takeName) (q := (85, .invokevirtual 36, 3)) tkX9_takeName 49 rfl) (fun y4 => ?_)
          refine zco_p tkX9_takeName 50 5 (pc' := 97) (L' := [(0, .ref v0), (1, .ref v1), (2, .int v2), (3, .int v3)]) (S' := [.int ((y4 - 97) + 1), .int v3, .ref v1]) rfl ?_
          exact zco_sub [0, 1, 2, 3] rfl (coX9_takeName_J97 l e he v0 v1 v2 v3 r52 hr52 ((y4 - 97) + 1) v3 v1)
set_option maxHeartbeats 2000000 in
set_option maxRecDepth 20000 in
theorem coX9_takeName_J50 (l : Launch) (e : Nat) (he : 9 ≤ e) (v0 : Nat) (v1 : Nat) (v2 : Int32) : zCo l (e + 1) 0 0 iX9_takeName 50 [(0, .ref v0), (1, .ref v1), (2, .int v2)] [] (X9_takeName_J50 v0 v1 v2) := by
  unfold X9_takeName_J50
  refine zco_p tkX9_takeName 27 2 (pc' := 52) (L' := [(3, .int 0), (0, .ref v0), (1, .ref v1), (2, .int v2)]) (S' := []) rfl ?_
  exact zco_sub [1, 2, 3, 0] rfl (zco_fix (Lf := fun x : Int32 => [(0, .ref v0), (1, .ref v1), (2, .int v2), (3, .int x)]) (Sf := fun _ => []) (fun r hr x => coX9_takeName_B52 l e he v0 v1 v2 r hr x) zFU 0)
set_option maxHeartbeats 2000000 in
set_option maxRecDepth 20000 in
theorem coX9_takeName_J20 (l : Launch) (e : Nat) (he : 9 ≤ e) (v0 : Nat) (v1 : Nat) (v2 : Int32) : zCo l (e + 1) 0 0 iX9_takeName 20 [(0, .ref v0), (1, .ref v1), (2, .int v2)] [] (X9_takeName_J20 v0 v1 v2) := by
  unfold X9_takeName_J20
  refine zco_p tkX9_takeName 11 3 (pc' := 23) (L' := [(0, .ref v0), (1, .ref v1), (2, .int v2)]) (S' := [.ref v0, .int 1, .ref v0]) rfl ?_
  refine zco_gi fl_9_15 rfl (zdk (cc := cX9_takeName) (q := (23, .getfield 15, 3)) tkX9_takeName 14 rfl) (fun x1 => ?_)
  refine zco_Vv (rc := 0) (rs := 0) (mc := 0) (ms := 0) (As := [.int 1, .int x1]) (S := []) vmX9_fail (mtX9_fail l e (by omega) v0 1 x1) q_770 rfl rfl (Nat.le_of_ble_eq_true rfl) (zdk (cc := cX9_takeName) (q := (26, .invokevirtual 44, 3)) tkX9_takeName 15 rfl) ?_
  refine zco_p tkX9_takeName 16 1 (pc' := 50) (L' := [(0, .ref v0), (1, .ref v1), (2, .int v2)]) (S' := []) rfl ?_
  exact zco_sub [0, 1, 2] rfl (coX9_takeName_J50 l e he v0 v1 v2)
set_option maxHeartbeats 2000000 in
set_option maxRecDepth 20000 in
theorem coX9_takeName (l : Launch) (e : Nat) (he : 9 ≤ e) (v0 : Nat) (v1 : Nat) : zCo l (e + 1) 0 0 iX9_takeName 0 [(0, .ref v0), (1, .ref v1)] [] (X9_takeName v0 v1) := by
  unfold X9_takeName
  refine zco_p tkX9_takeName 0 1 (pc' := 1) (L' := [(0, .ref v0), (1, .ref v1)]) (S' := [.ref v0]) rfl ?_
  refine zco_Vi (rc := 0) (rs := 0) (mc := 0) (ms := 0) (As := []) (S := []) vmX9_wordLength (mtX9_wordLength l e (by omega) v0) q_690 rfl rfl (Nat.le_of_ble_eq_true rfl) (zdk (cc := cX9_takeName) (q := (1, .invokevirtual 54, 3)) tkX9_takeName 1 rfl) (fun y1 => ?_)
  refine zco_p tkX9_takeName 2 2 (pc' := 6) (L' := [(2, .int y1), (0, .ref v0), (1, .ref v1)]) (S' := [.int y1]) rfl ?_
  refine zco_if_eq (tgt := 20) (zdk (cc := cX9_takeName) (q := (6, .ifCond .eq 14, 3)) tkX9_takeName 4 rfl) rfl ?_ ?_
  · exact zco_sub [1, 2, 0] rfl (coX9_takeName_J20 l e he v0 v1 y1)
  · refine zco_p tkX9_takeName 5 1 (pc' := 10) (L' := [(2, .int y1), (0, .ref v0), (1, .ref v1)]) (S' := [.ref v0]) rfl ?_
    refine zco_ldcS (i := 2) rfl (zdk (cc := cX9_takeName) (q := (10, .ldc 73, 2)) tkX9_takeName 6 rfl) ?_
    refine zco_p tkX9_takeName 7 1 (pc' := 13) (L' := [(2, .int y1), (0, .ref v0), (1, .ref v1)]) (S' := [.int y1, .ref (zB + 2), .ref v0]) rfl ?_
    refine zco_Vi (rc := 0) (rs := 0) (mc := 0) (ms := 0) (As := [.ref (zB + 2), .int y1]) (S := []) vmX9_listed (mtX9_listed l e (by omega) v0 (zB + 2) y1) q_705 rfl rfl (Nat.le_of_ble_eq_true rfl) (zdk (cc := cX9_takeName) (q := (13, .invokevirtual 57, 3)) tkX9_takeName 8 rfl) (fun y2 => ?_)
    refine zco_p tkX9_takeName 9 1 (pc' := 17) (L' := [(2, .int y1), (0, .ref v0), (1, .ref v1)]) (S' := [.int ((-1)), .int y2]) rfl ?_
    refine zco_icmp_eq (tgt := 32) (zdk (cc := cX9_takeName) (q := (17, .if_icmp .eq 15, 3)) tkX9_takeName 10 rfl) rfl ?_ ?_
    · refine zco_p tkX9_takeName 17 2 (pc' := 35) (L' := [(2, .int y1), (0, .ref v0), (1, .ref v1)]) (S' := [.int 6, .int y1]) rfl ?_
      refine zco_icmp_le (tgt := 50) (zdk (cc := cX9_takeName) (q := (35, .if_icmp .le 15, 3)) tkX9_takeName 19 rfl) rfl ?_ ?_
      · exact zco_sub [1, 2, 0] rfl (coX9_takeName_J50 l e he v0 v1 y1)
      · refine zco_p tkX9_takeName 20 3 (pc' := 41) (L' := [(2, .int y1), (0, .ref v0), (1, .ref v1)]) (S' := [.ref v0, .int 1, .ref v0]) rfl ?_
        refine zco_gi fl_9_15 rfl (zdk (cc := cX9_takeName) (q := (41, .getfield 15, 3)) tkX9_takeName 23 rfl) (fun x3 => ?_)
        refine zco_p tkX9_takeName 24 2 (pc' := 47) (L' := [(2, .int y1), (0, .ref v0), (1, .ref v1)]) (S' := [.int (x3 + 6), .int 1, .ref v0]) rfl ?_
        refine zco_Vv (rc := 0) (rs := 0) (mc := 0) (ms := 0) (As := [.int 1, .int (x3 + 6)]) (S := []) vmX9_fail (mtX9_fail l e (by omega) v0 1 (x3 + 6)) q_770 rfl rfl (Nat.le_of_ble_eq_true rfl) (zdk (cc := cX9_takeName) (q := (47, .invokevirtual 44, 3)) tkX9_takeName 26 rfl) ?_
        exact zco_sub [1, 2, 0] rfl (coX9_takeName_J50 l e he v0 v1 y1)
    · exact zco_sub [1, 2, 0] rfl (coX9_takeName_J20 l e he v0 v1 y1)
theorem mtX9_takeName (l : Launch) (d : Nat) (hd : 10 ≤ d) (v0 : Nat) (v1 : Nat) : zMet l d 0 0 yX9_takeName cX9_takeName 4 (Option.none : Option FieldType) [.ref v0, .ref v1] (X9_takeName v0 v1) := by
  obtain ⟨e, rfl⟩ : ∃ e, d = e + 1 := ⟨d - 1, by omega⟩
  exact zmet_of (own := RX9) (ini := false) (by decide +kernel) rfl (fun _ => by contradiction) (Nat.le_of_ble_eq_true rfl) (coX9_takeName l e (by omega) v0 v1)
abbrev iX1_isThere : zI := (RX1, cX1_isThere, 2, (Option.some .boolean), false)
def tX1_isThere : List (Nat × Instr × Nat) := [(0, .iload_n 1, 1), (1, .bipush 6, 2), (3, .if_icmp .ge 21, 3), (6, .iload_n 1, 1), (7, .aload_n 0, 1), (8, .getfield 9, 3), (11, .iconst 0, 1), (12, .iaload, 1), (13, .if_icmp .ge 7, 3), (16, .iconst 1, 1), (17, .goto 25, 3), (20, .iconst 0, 1), (21, .goto 21, 3), (24, .iload_n 1, 1), (25, .bipush 6, 2), (27, .isub, 1), (28, .aload_n 0, 1), (29, .getfield 9, 3), (32, .iconst 1, 1), (33, .iaload, 1), (34, .if_icmp .ge 7, 3), (37, .iconst 1, 1), (38, .goto 4, 3), (41, .iconst 0, 1), (42, .ireturn, 1)]
set_option maxRecDepth 100000 in
theorem tkX1_isThere : ∀ q ∈ tX1_isThere, decode cX1_isThere q.1 = .ok q.2 := by decide +kernel
theorem vmX1_isThere : zVM yX1_isThere cX1_isThere 2 (Option.some .boolean) 1 1 := ⟨kX1_isThere, q_776, q_777, q_155, ⟨_, rfl, rfl⟩, by decide +kernel, by decide⟩
set_option maxHeartbeats 2000000 in
set_option maxRecDepth 20000 in
theorem coX1_isThere (l : Launch) (e : Nat) (he : 0 ≤ e) (v0 : Nat) (v1 : Int32) : zCo l (e + 1) 0 0 iX1_isThere 0 [(0, .ref v0), (1, .int v1)] [] (X1_isThere v0 v1) := by
  unfold X1_isThere
  refine zco_p tkX1_isThere 0 2 (pc' := 3) (L' := [(0, .ref v0), (1, .int v1)]) (S' := [.int 6, .int v1]) rfl ?_
  refine zco_icmp_ge (tgt := 24) (zdk (cc := cX1_isThere) (q := (3, .if_icmp .ge 21, 3)) tkX1_isThere 2 rfl) rfl ?_ ?_
  · refine zco_p tkX1_isThere 13 4 (pc' := 29) (L' := [(0, .ref v0), (1, .int v1)]) (S' := [.ref v0, .int (v1 - 6)]) rfl ?_
    refine zco_gr fl_1_9 rfl (zdk (cc := cX1_isThere) (q := (29, .getfield 9, 3)) tkX1_isThere 17 rfl) (fun x1 => ?_)
    refine zco_p tkX1_isThere 18 1 (pc' := 33) (L' := [(0, .ref v0), (1, .int v1)]) (S' := [.int 1, .ref x1, .int (v1 - 6)]) rfl ?_
    refine zco_iaload (zdk (cc := cX1_isThere) (q := (33, .iaload, 1)) tkX1_isThere 19 rfl) (fun x2 => ?_)
    refine zco_icmp_ge (tgt := 41) (zdk (cc := cX1_isThere) (q := (34, .if_icmp .ge 7, 3)) tkX1_isThere 20 rfl) rfl ?_ ?_
    · refine zco_p tkX1_isThere 23 1 (pc' := 42) (L' := [(0, .ref v0), (1, .int v1)]) (S' := [.int 0]) rfl ?_
      exact zco_zret rfl rfl rfl (zdk (cc := cX1_isThere) (q := (42, .ireturn, 1)) tkX1_isThere 24 rfl)
    · refine zco_p tkX1_isThere 21 2 (pc' := 42) (L' := [(0, .ref v0), (1, .int v1)]) (S' := [.int 1]) rfl ?_
      exact zco_zret rfl rfl rfl (zdk (cc := cX1_isThere) (q := (42, .ireturn, 1)) tkX1_isThere 24 rfl)
  · refine zco_p tkX1_isThere 3 2 (pc' := 8) (L' := [(0, .ref v0), (1, .int v1)]) (S' := [.ref v0, .int v1]) rfl ?_
    refine zco_gr fl_1_9 rfl (zdk (cc := cX1_isThere) (q := (8, .getfield 9, 3)) tkX1_isThere 5 rfl) (fun x3 => ?_)
    refine zco_p tkX1_isThere 6 1 (pc' := 12) (L' := [(0, .ref v0), (1, .int v1)]) (S' := [.int 0, .ref x3, .int v1]) rfl ?_
    refine zco_iaload (zdk (cc := cX1_isThere) (q := (12, .iaload, 1)) tkX1_isThere 7 rfl) (fun x4 => ?_)
    refine zco_icmp_ge (tgt := 20) (zdk (cc := cX1_isThere) (q := (13, .if_icmp .ge 7, 3)) tkX1_isThere 8 rfl) rfl ?_ ?_
    · refine zco_p tkX1_isThere 11 2 (pc' := 42) (L' := [(0, .ref v0), (1, .int v1)]) (S' := [.int 0]) rfl ?_
      exact zco_zret rfl rfl rfl (zdk (cc := cX1_isThere) (q := (42, .ireturn, 1)) tkX1_isThere 24 rfl)
    · refine zco_p tkX1_isThere 9 2 (pc' := 42) (L' := [(0, .ref v0), (1, .int v1)]) (S' := [.int 1]) rfl ?_
      exact zco_zret rfl rfl rfl (zdk (cc := cX1_isThere) (q := (42, .ireturn, 1)) tkX1_isThere 24 rfl)
theorem mtX1_isThere (l : Launch) (d : Nat) (hd : 1 ≤ d) (v0 : Nat) (v1 : Int32) : zMet l d 0 0 yX1_isThere cX1_isThere 2 (Option.some .boolean) [.ref v0, .int v1] (X1_isThere v0 v1) := by
  obtain ⟨e, rfl⟩ : ∃ e, d = e + 1 := ⟨d - 1, by omega⟩
  exact zmet_of (own := RX1) (ini := false) (by decide +kernel) rfl (fun _ => by contradiction) (Nat.le_of_ble_eq_true rfl) (coX1_isThere l e (by omega) v0 v1)
abbrev iX1_named : zI := (RX1, cX1_named, 5, (Option.some .int), false)
def tX1_named : List (Nat × Instr × Nat) := [(0, .iconst 0, 1), (1, .istore_n 2, 1), (2, .iload_n 2, 1), (3, .bipush 12, 2), (5, .if_icmp .ge 66, 3), (8, .aload_n 0, 1), (9, .iload_n 2, 1), (10, .invokevirtual 96, 3), (13, .istore_n 3, 1), (14, .iconst 0, 1), (15, .istore 4, 2), (17, .iload 4, 2), (19, .bipush 6, 2), (21, .if_icmp .ge 38, 3), (24, .iload_n 3, 1), (25, .ifCond .eq 34, 3), (28, .aload_n 0, 1), (29, .getfield 15, 3), (32, .iload_n 2, 1), (33, .bipush 6, 2), (35, .imul, 1), (36, .iload 4, 2), (38, .iadd, 1), (39, .iaload, 1), (40, .aload_n 1, 1), (41, .iload 4, 2), (43, .iaload, 1), (44, .if_icmp .ne 7, 3), (47, .iconst 1, 1), (48, .goto 4, 3), (51, .iconst 0, 1), (52, .istore_n 3, 1), (53, .iinc 4 1, 3), (56, .goto (-39), 3), (59, .iload_n 3, 1), (60, .ifCond .eq 5, 3), (63, .iload_n 2, 1), (64, .ireturn, 1), (65, .iinc 2 1, 3), (68, .goto (-66), 3), (71, .iconst (-1), 1), (72, .ireturn, 1)]
set_option maxRecDepth 100000 in
theorem tkX1_named : ∀ q ∈ tX1_named, decode cX1_named q.1 = .ok q.2 := by decide +kernel
theorem vmX1_named : zVM yX1_named cX1_named 5 (Option.some .int) 1 1 := ⟨kX1_named, q_772, q_773, q_155, ⟨_, rfl, rfl⟩, by decide +kernel, by decide⟩
set_option maxHeartbeats 2000000 in
set_option maxRecDepth 20000 in
theorem coX1_named_J59 (l : Launch) (e : Nat) (he : 1 ≤ e) (v0 : Nat) (v1 : Nat) (v2 : Int32) (v3 : Int32) (r2 : Int32 → zM) (hr2 : ∀ x : Int32, zCo l (e + 1) 0 0 iX1_named 2 [(0, .ref v0), (1, .ref v1), (2, .int x)] [] (r2 x)) : zCo l (e + 1) 0 0 iX1_named 59 [(0, .ref v0), (1, .ref v1), (2, .int v2), (3, .int v3)] [] (X1_named_J59 r2 v0 v1 v2 v3) := by
  unfold X1_named_J59
  refine zco_p tkX1_named 34 1 (pc' := 60) (L' := [(0, .ref v0), (1, .ref v1), (2, .int v2), (3, .int v3)]) (S' := [.int v3]) rfl ?_
  refine zco_if_eq (tgt := 65) (zdk (cc := cX1_named) (q := (60, .ifCond .eq 5, 3)) tkX1_named 35 rfl) rfl ?_ ?_
  · refine zco_p tkX1_named 38 2 (pc' := 2) (L' := [(2, .int (v2 + 1)), (0, .ref v0), (1, .ref v1), (3, .int v3)]) (S' := []) rfl ?_
    exact zco_sub [1, 2, 0] rfl (hr2 (v2 + 1))
  · refine zco_p tkX1_named 36 1 (pc' := 64) (L' := [(0, .ref v0), (1, .ref v1), (2, .int v2), (3, .int v3)]) (S' := [.int v2]) rfl ?_
    exact zco_iret rfl rfl rfl (zdk (cc := cX1_named) (q := (64, .ireturn, 1)) tkX1_named 37 rfl)
set_option maxHeartbeats 2000000 in
set_option maxRecDepth 20000 in
theorem coX1_named_J52 (l : Launch) (e : Nat) (he : 1 ≤ e) (v0 : Nat) (v1 : Nat) (v2 : Int32) (v4 : Int32) (r2 : Int32 → zM) (hr2 : ∀ x : Int32, zCo l (e + 1) 0 0 iX1_named 2 [(0, .ref v0), (1, .ref v1), (2, .int x)] [] (r2 x)) (r17 : Int32 × Int32 → zM) (hr17 : ∀ x : Int32 × Int32, zCo l (e + 1) 0 0 iX1_named 17 [(0, .ref v0), (1, .ref v1), (2, .int v2), (3, .int x.1), (4, .int x.2)] [] (r17 x)) (s0 : Int32) : zCo l (e + 1) 0 0 iX1_named 52 [(0, .ref v0), (1, .ref v1), (2, .int v2), (4, .int v4)] [.int s0] (X1_named_J52 r2 r17 v0 v1 v2 v4 s0) := by
  unfold X1_named_J52
  refine zco_p tkX1_named 31 3 (pc' := 17) (L' := [(4, .int (v4 + 1)), (3, .int s0), (0, .ref v0), (1, .ref v1), (2, .int v2)]) (S' := []) rfl ?_
  exact zco_sub [2, 3, 4, 1, 0] rfl (hr17 (s0, v4 + 1))
set_option maxHeartbeats 2000000 in
set_option maxRecDepth 20000 in
theorem coX1_named_B17 (l : Launch) (e : Nat) (he : 1 ≤ e) (v0 : Nat) (v1 : Nat) (v2 : Int32) (r2 : Int32 → zM) (hr2 : ∀ x : Int32, zCo l (e + 1) 0 0 iX1_named 2 [(0, .ref v0), (1, .ref v1), (2, .int x)] [] (r2 x)) (r17 : Int32 × Int32 → zM) (hr17 : ∀ x : Int32 × Int32, zCo l (e + 1) 0 0 iX1_named 17 [(0, .ref v0), (1, .ref v1), (2, .int v2), (3, .int x.1), (4, .int x.2)] [] (r17 x)) (v3 : Int32) (v4 : Int32) : zCo l (e + 1) 0 0 iX1_named 17 [(0, .ref v0), (1, .ref v1), (2, .int v2), (3, .int v3), (4, .int v4)] [] (X1_named_B17 r2 v0 v1 v2 r17 v3 v4) := by
  unfold X1_named_B17
  refine zco_p tkX1_named 11 2 (pc' := 21) (L' := [(0, .ref v0), (1, .ref v1), (2, .int v2), (3, .int v3), (4, .int v4)]) (S' := [.int 6, .int v4]) rfl ?_
  refine zco_icmp_ge (tgt := 59) (zdk (cc := cX1_named) (q := (21, .if_icmp .ge 38, 3)) tkX1_named 13 rfl) rfl ?_ ?_
  · exact zco_sub [0, 1, 2, 3] rfl (coX1_named_J59 l e he v0 v1 v2 v3 r2 hr2)
  · refine zco_p tkX1_named 14 1 (pc' := 25) (L' := [(0, .ref v0), (1, .ref v1), (2, .int v2), (3, .int v3), (4, .int v4)]) (S' := [.int v3]) rfl ?_
    refine zco_if_eq (tgt := 59) (zdk (cc := cX1_named) (q := (25, .ifCond .eq 34, 3)) tkX1_named 15 rfl) rfl ?_ ?_
    · exact zco_sub [0, 1, 2, 3] rfl (coX1_named_J59 l e he v0 v1 v2 v3 r2 hr2)
    · refine zco_p tkX1_named 16 1 (pc' := 29) (L' := [(0, .ref v0), (1, .ref v1), (2, .int v2), (3, .int v3), (4, .int v4)]) (S' := [.ref v0]) rfl ?_
      refine zco_gr fl_1_15 rfl (zdk (cc := cX1_named) (q := (29, .getfield 15, 3)) tkX1_named 17 rfl) (fun x1 => ?_)
      refine zco_p tkX1_named 18 5 (pc' := 39) (L' := [(0, .ref v0), (1, .ref v1), (2, .int v2), (3, .int v3), (4, .int v4)]) (S' := [.int ((v2 * 6) + v4), .ref x1]) rfl ?_
      refine zco_iaload (zdk (cc := cX1_named) (q := (39, .iaload, 1)) tkX1_named 23 rfl) (fun x2 => ?_)
      refine zco_p tkX1_named 24 2 (pc' := 43) (L' := [(0, .ref v0), (1, .ref v1), (2, .int v2), (3, .int v3), (4, .int v4)]) (S' := [.int v4, .ref v1, .int x2]) rfl ?_
      refine zco_iaload (zdk (cc := cX1_named) (q := (43, .iaload, 1)) tkX1_named 26 rfl) (fun x3 => ?_)
      refine zco_icmp_ne (tgt := 51) (zdk (cc := cX1_named) (q := (44, .if_icmp .ne 7, 3)) tkX1_named 27 rfl) rfl ?_ ?_
      · refine zco_p tkX1_named 30 1 (pc' := 52) (L' := [(0, .ref v0), (1, .ref v1), (2, .int v2), (3, .int v3), (4, .int v4)]) (S' := [.int 0]) rfl ?_
        exact zco_sub [0, 1, 2, 4] rfl (coX1_named_J52 l e he v0 v1 v2 v4 r2 hr2 r17 hr17 0)
      · refine zco_p tkX1_named 28 2 (pc' := 52) (L' := [(0, .ref v0), (1, .ref v1), (2, .int v2), (3, .int v3), (4, .int v4)]) (S' := [.int 1]) rfl ?_
        exact zco_sub [0, 1, 2, 4] rfl (coX1_named_J52 l e he v0 v1 v2 v4 r2 hr2 r17 hr17 1)
set_option maxHeartbeats 2000000 in
set_option maxRecDepth 20000 in
theorem coX1_named_B2 (l : Launch) (e : Nat) (he : 1 ≤ e) (v0 : Nat) (v1 : Nat) (r2 : Int32 → zM) (hr2 : ∀ x : Int32, zCo l (e + 1) 0 0 iX1_named 2 [(0, .ref v0), (1, .ref v1), (2, .int x)] [] (r2 x)) (v2 : Int32) : zCo l (e + 1) 0 0 iX1_named 2 [(0, .ref v0), (1, .ref v1), (2, .int v2)] [] (X1_named_B2 v0 v1 r2 v2) := by
  unfold X1_named_B2
  refine zco_p tkX1_named 2 2 (pc' := 5) (L' := [(0, .ref v0), (1, .ref v1), (2, .int v2)]) (S' := [.int 12, .int v2]) rfl ?_
  refine zco_icmp_ge (tgt := 71) (zdk (cc := cX1_named) (q := (5, .if_icmp .ge 66, 3)) tkX1_named 4 rfl) rfl ?_ ?_
  · refine zco_p tkX1_named 40 1 (pc' := 72) (L' := [(0, .ref v0), (1, .ref v1), (2, .int v2)]) (S' := [.int ((-1))]) rfl ?_
    exact zco_iret rfl rfl rfl (zdk (cc := cX1_named) (q := (72, .ireturn, 1)) tkX1_named 41 rfl)
  · refine zco_p tkX1_named 5 2 (pc' := 10) (L' := [(0, .ref v0), (1, .ref v1), (2, .int v2)]) (S' := [.int v2, .ref v0]) rfl ?_
    refine zco_Vi (rc := 0) (rs := 0) (mc := 0) (ms := 0) (As := [.int v2]) (S := []) vmX1_isThere (mtX1_isThere l e (by omega) v0 v2) q_775 rfl rfl (Nat.le_of_ble_eq_true rfl) (zdk (cc := cX1_named) (q := (10, .invokevirtual 96, 3)) tkX1_named 7 rfl) (fun y1 => ?_)
    refine zco_p tkX1_named 8 3 (pc' := 17) (L' := [(4, .int 0), (3, .int y1), (0, .ref v0), (1, .ref v1), (2, .int v2)]) (S' := []) rfl ?_
    exact zco_sub [2, 3, 4, 1, 0] rfl (zco_fix (Lf := fun x : Int32 × Int32 => [(0, .ref v0), (1, .ref v1), (2, .int v2), (3, .int x.1), (4, .int x.2)]) (Sf := fun _ => []) (fun r hr x => coX1_named_B17 l e he v0 v1 v2 r2 hr2 r hr x.1 x.2) zFU (y1, 0))
set_option maxHeartbeats 2000000 in
set_option maxRecDepth 20000 in
theorem coX1_named (l : Launch) (e : Nat) (he : 1 ≤ e) (v0 : Nat) (v1 : Nat) : zCo l (e + 1) 0 0 iX1_named 0 [(0, .ref v0), (1, .ref v1)] [] (X1_named v0 v1) := by
  unfold X1_named
  refine zco_p tkX1_named 0 2 (pc' := 2) (L' := [(2, .int 0), (0, .ref v0), (1, .ref v1)]) (S' := []) rfl ?_
  exact zco_sub [1, 2, 0] rfl (zco_fix (Lf := fun x : Int32 => [(0, .ref v0), (1, .ref v1), (2, .int x)]) (Sf := fun _ => []) (fun r hr x => coX1_named_B2 l e he v0 v1 r hr x) zFU 0)
theorem mtX1_named (l : Launch) (d : Nat) (hd : 2 ≤ d) (v0 : Nat) (v1 : Nat) : zMet l d 0 0 yX1_named cX1_named 5 (Option.some .int) [.ref v0, .ref v1] (X1_named v0 v1) := by
  obtain ⟨e, rfl⟩ : ∃ e, d = e + 1 := ⟨d - 1, by omega⟩
  exact zmet_of (own := RX1) (ini := false) (by decide +kernel) rfl (fun _ => by contradiction) (Nat.le_of_ble_eq_true rfl) (coX1_named l e (by omega) v0 v1)
abbrev iX9_takeWord : zI := (RX9, cX9_takeWord, 3, (Option.some .boolean), false)
def tX9_takeWord : List (Nat × Instr × Nat) := [(0, .aload_n 0, 1), (1, .invokevirtual 54, 3), (4, .istore_n 2, 1), (5, .iload_n 2, 1), (6, .aload_n 1, 1), (7, .invokevirtual 61, 3), (10, .if_icmp .ne 13, 3), (13, .aload_n 0, 1), (14, .aload_n 1, 1), (15, .iload_n 2, 1), (16, .invokevirtual 57, 3), (19, .iconst (-1), 1), (20, .if_icmp .ne 5, 3), (23, .iconst 0, 1), (24, .ireturn, 1), (25, .aload_n 0, 1), (26, .dup, 1), (27, .getfield 15, 3), (30, .iload_n 2, 1), (31, .iadd, 1), (32, .putfield 15, 3), (35, .iconst 1, 1), (36, .ireturn, 1)]
set_option maxRecDepth 100000 in
theorem tkX9_takeWord : ∀ q ∈ tX9_takeWord, decode cX9_takeWord q.1 = .ok q.2 := by decide +kernel
theorem vmX9_takeWord : zVM yX9_takeWord cX9_takeWord 3 (Option.some .boolean) 1 9 := ⟨kX9_takeWord, q_785, q_786, q_150, ⟨_, rfl, rfl⟩, by decide +kernel, by decide⟩
set_option maxHeartbeats 2000000 in
set_option maxRecDepth 20000 in
theorem coX9_takeWord (l : Launch) (e : Nat) (he : 9 ≤ e) (v0 : Nat) (v1 : Nat) : zCo l (e + 1) 0 0 iX9_takeWord 0 [(0, .ref v0), (1, .ref v1)] [] (X9_takeWord v0 v1) := by
  unfold X9_takeWord
  refine zco_p tkX9_takeWord 0 1 (pc' := 1) (L' := [(0, .ref v0), (1, .ref v1)]) (S' := [.ref v0]) rfl ?_
  refine zco_Vi (rc := 0) (rs := 0) (mc := 0) (ms := 0) (As := []) (S := []) vmX9_wordLength (mtX9_wordLength l e (by omega) v0) q_690 rfl rfl (Nat.le_of_ble_eq_true rfl) (zdk (cc := cX9_takeWord) (q := (1, .invokevirtual 54, 3)) tkX9_takeWord 1 rfl) (fun y1 => ?_)
  refine zco_p tkX9_takeWord 2 3 (pc' := 7) (L' := [(2, .int y1), (0, .ref v0), (1, .ref v1)]) (S' := [.ref v1, .int y1]) rfl ?_
  refine zco_slen (by omega) q_709 (Nat.le_of_ble_eq_true rfl) (zdk (cc := cX9_takeWord) (q := (7, .invokevirtual 61, 3)) tkX9_takeWord 5 rfl) (fun x2 => ?_)
  refine zco_icmp_ne (tgt := 23) (zdk (cc := cX9_takeWord) (q := (10, .if_icmp .ne 13, 3)) tkX9_takeWord 6 rfl) rfl ?_ ?_
  · refine zco_p tkX9_takeWord 13 1 (pc' := 24) (L' := [(2, .int y1), (0, .ref v0), (1, .ref v1)]) (S' := [.int 0]) rfl ?_
    exact zco_zret rfl rfl rfl (zdk (cc := cX9_takeWord) (q := (24, .ireturn, 1)) tkX9_takeWord 14 rfl)
  · refine zco_p tkX9_takeWord 7 3 (pc' := 16) (L' := [(2, .int y1), (0, .ref v0), (1, .ref v1)]) (S' := [.int y1, .ref v1, .ref v0]) rfl ?_
    refine zco_Vi (rc := 0) (rs := 0) (mc := 0) (ms := 0) (As := [.ref v1, .int y1]) (S := []) vmX9_listed (mtX9_listed l e (by omega) v0 v1 y1) q_705 rfl rfl (Nat.le_of_ble_eq_true rfl) (zdk (cc := cX9_takeWord) (q := (16, .invokevirtual 57, 3)) tkX9_takeWord 10 rfl) (fun y3 => ?_)
    refine zco_p tkX9_takeWord 11 1 (pc' := 20) (L' := [(2, .int y1), (0, .ref v0), (1, .ref v1)]) (S' := [.int ((-1)), .int y3]) rfl ?_
    refine zco_icmp_ne (tgt := 25) (zdk (cc := cX9_takeWord) (q := (20, .if_icmp .ne 5, 3)) tkX9_takeWord 12 rfl) rfl ?_ ?_
    · refine zco_p tkX9_takeWord 15 2 (pc' := 27) (L' := [(2, .int y1), (0, .ref v0), (1, .ref v1)]) (S' := [.ref v0, .ref v0]) rfl ?_
      refine zco_gi fl_9_15 rfl (zdk (cc := cX9_takeWord) (q := (27, .getfield 15, 3)) tkX9_takeWord 17 rfl) (fun x4 => ?_)
      refine zco_p tkX9_takeWord 18 2 (pc' := 32) (L' := [(2, .int y1), (0, .ref v0), (1, .ref v1)]) (S' := [.int (x4 + y1), .ref v0]) rfl ?_
      refine zco_pi fl_9_15 rfl rfl (zdk (cc := cX9_takeWord) (q := (32, .putfield 15, 3)) tkX9_takeWord 20 rfl) ?_
      refine zco_p tkX9_takeWord 21 1 (pc' := 36) (L' := [(2, .int y1), (0, .ref v0), (1, .ref v1)]) (S' := [.int 1]) rfl ?_
      exact zco_zret rfl rfl rfl (zdk (cc := cX9_takeWord) (q := (36, .ireturn, 1)) tkX9_takeWord 22 rfl)
    · refine zco_p tkX9_takeWord 13 1 (pc' := 24) (L' := [(2, .int y1), (0, .ref v0), (1, .ref v1)]) (S' := [.int 0]) rfl ?_
      exact zco_zret rfl rfl rfl (zdk (cc := cX9_takeWord) (q := (24, .ireturn, 1)) tkX9_takeWord 14 rfl)
theorem mtX9_takeWord (l : Launch) (d : Nat) (hd : 10 ≤ d) (v0 : Nat) (v1 : Nat) : zMet l d 0 0 yX9_takeWord cX9_takeWord 3 (Option.some .boolean) [.ref v0, .ref v1] (X9_takeWord v0 v1) := by
  obtain ⟨e, rfl⟩ : ∃ e, d = e + 1 := ⟨d - 1, by omega⟩
  exact zmet_of (own := RX9) (ini := false) (by decide +kernel) rfl (fun _ => by contradiction) (Nat.le_of_ble_eq_true rfl) (coX9_takeWord l e (by omega) v0 v1)
abbrev iX9_needWord : zI := (RX9, cX9_needWord, 2, (Option.none : Option FieldType), false)
def tX9_needWord : List (Nat × Instr × Nat) := [(0, .aload_n 0, 1), (1, .aload_n 1, 1), (2, .invokevirtual 69, 3), (5, .ifCond .ne 12, 3), (8, .aload_n 0, 1), (9, .iconst 1, 1), (10, .aload_n 0, 1), (11, .getfield 15, 3), (14, .invokevirtual 44, 3), (17, .return_, 1)]
set_option maxRecDepth 100000 in
theorem tkX9_needWord : ∀ q ∈ tX9_needWord, decode cX9_needWord q.1 = .ok q.2 := by decide +kernel
theorem vmX9_needWord : zVM yX9_needWord cX9_needWord 2 (Option.none : Option FieldType) 1 9 := ⟨kX9_needWord, q_781, q_782, q_150, ⟨_, rfl, rfl⟩, by decide +kernel, by decide⟩
set_option maxHeartbeats 2000000 in
set_option maxRecDepth 20000 in
theorem coX9_needWord (l : Launch) (e : Nat) (he : 10 ≤ e) (v0 : Nat) (v1 : Nat) : zCo l (e + 1) 0 0 iX9_needWord 0 [(0, .ref v0), (1, .ref v1)] [] (X9_needWord v0 v1) := by
  unfold X9_needWord
  refine zco_p tkX9_needWord 0 2 (pc' := 2) (L' := [(0, .ref v0), (1, .ref v1)]) (S' := [.ref v1, .ref v0]) rfl ?_
  refine zco_Vi (rc := 0) (rs := 0) (mc := 0) (ms := 0) (As := [.ref v1]) (S := []) vmX9_takeWord (mtX9_takeWord l e (by omega) v0 v1) q_784 rfl rfl (Nat.le_of_ble_eq_true rfl) (zdk (cc := cX9_needWord) (q := (2, .invokevirtual 69, 3)) tkX9_needWord 2 rfl) (fun y1 => ?_)
  refine zco_if_ne (tgt := 17) (zdk (cc := cX9_needWord) (q := (5, .ifCond .ne 12, 3)) tkX9_needWord 3 rfl) rfl ?_ ?_
  · exact zco_vret rfl rfl rfl (zdk (cc := cX9_needWord) (q := (17, .return_, 1)) tkX9_needWord 9 rfl)
  · refine zco_p tkX9_needWord 4 3 (pc' := 11) (L' := [(0, .ref v0), (1, .ref v1)]) (S' := [.ref v0, .int 1, .ref v0]) rfl ?_
    refine zco_gi fl_9_15 rfl (zdk (cc := cX9_needWord) (q := (11, .getfield 15, 3)) tkX9_needWord 7 rfl) (fun x2 => ?_)
    refine zco_Vv (rc := 0) (rs := 0) (mc := 0) (ms := 0) (As := [.int 1, .int x2]) (S := []) vmX9_fail (mtX9_fail l e (by omega) v0 1 x2) q_770 rfl rfl (Nat.le_of_ble_eq_true rfl) (zdk (cc := cX9_needWord) (q := (14, .invokevirtual 44, 3)) tkX9_needWord 8 rfl) ?_
    exact zco_vret rfl rfl rfl (zdk (cc := cX9_needWord) (q := (17, .return_, 1)) tkX9_needWord 9 rfl)
theorem mtX9_needWord (l : Launch) (d : Nat) (hd : 11 ≤ d) (v0 : Nat) (v1 : Nat) : zMet l d 0 0 yX9_needWord cX9_needWord 2 (Option.none : Option FieldType) [.ref v0, .ref v1] (X9_needWord v0 v1) := by
  obtain ⟨e, rfl⟩ : ∃ e, d = e + 1 := ⟨d - 1, by omega⟩
  exact zmet_of (own := RX9) (ini := false) (by decide +kernel) rfl (fun _ => by contradiction) (Nat.le_of_ble_eq_true rfl) (coX9_needWord l e (by omega) v0 v1)
abbrev iX9_takeNumber : zI := (RX9, cX9_takeNumber, 6, (Option.some .int), false)
def tX9_takeNumber : List (Nat × Instr × Nat) := [(0, .aload_n 0, 1), (1, .invokevirtual 28, 3), (4, .istore_n 3, 1), (5, .aload_n 0, 1), (6, .iload_n 3, 1), (7, .invokevirtual 36, 3), (10, .invokestatic 48, 3), (13, .ifCond .eq 16, 3), (16, .aload_n 0, 1), (17, .iload_n 3, 1), (18, .iconst 1, 1), (19, .isub, 1), (20, .invokevirtual 36, 3), (23, .invokestatic 51, 3), (26, .ifCond .eq 11, 3), (29, .aload_n 0, 1), (30, .iconst 1, 1), (31, .iload_n 3, 1), (32, .invokevirtual 44, 3), (35, .iload_n 1, 1), (36, .ireturn, 1), (37, .iconst 0, 1), (38, .istore 4, 2), (40, .iload_n 3, 1), (41, .istore 5, 2), (43, .iload 5, 2), (45, .iload_n 3, 1), (46, .iconst 4, 1), (47, .iadd, 1), (48, .if_icmp .ge 38, 3), (51, .aload_n 0, 1), (52, .iload 5, 2), (54, .invokevirtual 36, 3), (57, .invokestatic 48, 3), (60, .ifCond .eq 26, 3), (63, .iload 4, 2), (65, .bipush 10, 2), (67, .imul, 1), (68, .aload_n 0, 1), (69, .iload 5, 2), (71, .invokevirtual 36, 3), (74, .iadd, 1), (75, .bipush 48, 2), (77, .isub, 1), (78, .istore 4, 2), (80, .iinc 5 1, 3), (83, .goto (-40), 3), (86, .aload_n 0, 1), (87, .iload 5, 2), (89, .invokevirtual 36, 3), (92, .invokestatic 48, 3), (95, .ifCond .eq 13, 3), (98, .aload_n 0, 1), (99, .iconst 1, 1), (100, .iload 5, 2), (102, .invokevirtual 44, 3), (105, .goto 21, 3), (108, .iload 4, 2), (110, .iload_n 1, 1), (111, .if_icmp .lt 9, 3), (114, .iload 4, 2), (116, .iload_n 2, 1), (117, .if_icmp .le 9, 3), (120, .aload_n 0, 1), (121, .iconst 2, 1), (122, .iload_n 3, 1), (123, .invokevirtual 44, 3), (126, .aload_n 0, 1), (127, .iload 5, 2), (129, .putfield 15, 3), (132, .aload_n 0, 1), (133, .invokevirtual 32, 3), (136, .ifCond .eq 8, 3), (139, .iload 4, 2), (141, .goto 4, 3), (144, .iload_n 1, 1), (145, .ireturn, 1)]
set_option maxRecDepth 100000 in
theorem tkX9_takeNumber : ∀ q ∈ tX9_takeNumber, decode cX9_takeNumber q.1 = .ok q.2 := by decide +kernel
theorem vmX9_takeNumber : zVM yX9_takeNumber cX9_takeNumber 6 (Option.some .int) 2 9 := ⟨kX9_takeNumber, q_789, q_790, q_150, ⟨_, rfl, rfl⟩, by decide +kernel, by decide⟩
set_option maxHeartbeats 2000000 in
set_option maxRecDepth 20000 in
theorem coX9_takeNumber_J126 (l : Launch) (e : Nat) (he : 1 ≤ e) (v0 : Nat) (v1 : Int32) (v4 : Int32) (v5 : Int32) : zCo l (e + 1) 0 0 iX9_takeNumber 126 [(0, .ref v0), (1, .int v1), (4, .int v4), (5, .int v5)] [] (X9_takeNumber_J126 v0 v1 v4 v5) := by
  unfold X9_takeNumber_J126
  refine zco_p tkX9_takeNumber 67 2 (pc' := 129) (L' := [(0, .ref v0), (1, .int v1), (4, .int v4), (5, .int v5)]) (S' := [.int v5, .ref v0]) rfl ?_
  refine zco_pi fl_9_15 rfl rfl (zdk (cc := cX9_takeNumber) (q := (129, .putfield 15, 3)) tkX9_takeNumber 69 rfl) ?_
  refine zco_p tkX9_takeNumber 70 1 (pc' := 133) (L' := [(0, .ref v0), (1, .int v1), (4, .int v4), (5, .int v5)]) (S' := [.ref v0]) rfl ?_
  refine zco_Vi (rc := 0) (rs := 0) (mc := 0) (ms := 0) (As := []) (S := []) vmX9_sound (mtX9_sound l e (by omega) v0) q_694 rfl rfl (Nat.le_of_ble_eq_true rfl) (zdk (cc := cX9_takeNumber) (q := (133, .invokevirtual 32, 3)) tkX9_takeNumber 71 rfl) (fun y1 => ?_)
  refine zco_if_eq (tgt := 144) (zdk (cc := cX9_takeNumber) (q := (136, .ifCond .eq 8, 3)) tkX9_takeNumber 72 rfl) rfl ?_ ?_
  · refine zco_p tkX9_takeNumber 75 1 (pc' := 145) (L' := [(0, .ref v0), (1, .int v1), (4, .int v4), (5, .int v5)]) (S' := [.int v1]) rfl ?_
    exact zco_iret rfl rfl rfl (zdk (cc := cX9_takeNumber) (q := (145, .ireturn, 1)) tkX9_takeNumber 76 rfl)
  · refine zco_p tkX9_takeNumber 73 2 (pc' := 145) (L' := [(0, .ref v0), (1, .int v1), (4, .int v4), (5, .int v5)]) (S' := [.int v4]) rfl ?_
    exact zco_iret rfl rfl rfl (zdk (cc := cX9_takeNumber) (q := (145, .ireturn, 1)) tkX9_takeNumber 76 rfl)
set_option maxHeartbeats 2000000 in
set_option maxRecDepth 20000 in
theorem coX9_takeNumber_J120 (l : Launch) (e : Nat) (he : 1 ≤ e) (v0 : Nat) (v1 : Int32) (v3 : Int32) (v4 : Int32) (v5 : Int32) : zCo l (e + 1) 0 0 iX9_takeNumber 120 [(0, .ref v0), (1, .int v1), (3, .int v3), (4, .int v4), (5, .int v5)] [] (X9_takeNumber_J120 v0 v1 v3 v4 v5) := by
  unfold X9_takeNumber_J120
  refine zco_p tkX9_takeNumber 63 3 (pc' := 123) (L' := [(0, .ref v0), (1, .int v1), (3, .int v3), (4, .int v4), (5, .int v5)]) (S' := [.int v3, .int 2, .ref v0]) rfl ?_
  refine zco_Vv (rc := 0) (rs := 0) (mc := 0) (ms := 0) (As := [.int 2, .int v3]) (S := []) vmX9_fail (mtX9_fail l e (by omega) v0 2 v3) q_770 rfl rfl (Nat.le_of_ble_eq_true rfl) (zdk (cc := cX9_takeNumber) (q := (123, .invokevirtual 44, 3)) tkX9_takeNumber 66 rfl) ?_
  exact zco_sub [0, 1, 3, 4] rfl (coX9_takeNumber_J126 l e he v0 v1 v4 v5)
set_option maxHeartbeats 2000000 in
set_option maxRecDepth 20000 in
theorem coX9_takeNumber_J86 (l : Launch) (e : Nat) (he : 1 ≤ e) (v0 : Nat) (v1 : Int32) (v2 : Int32) (v3 : Int32) (v4 : Int32) (v5 : Int32) : zCo l (e + 1) 0 0 iX9_takeNumber 86 [(0, .ref v0), (1, .int v1), (2, .int v2), (3, .int v3), (4, .int v4), (5, .int v5)] [] (X9_takeNumber_J86 v0 v1 v2 v3 v4 v5) := by
  unfold X9_takeNumber_J86
  refine zco_p tkX9_takeNumber 47 2 (pc' := 89) (L' := [(0, .ref v0), (1, .int v1), (2, .int v2), (3, .int v3), (4, .int v4), (5, .int v5)]) (S' := [.int v5, .ref v0]) rfl ?_
  refine zco_Vi (rc := 0) (rs := 0) (mc := 0) (ms := 0) (As := [.int v5]) (S := []) vmX9_byteAt (mtX9_byteAt l e (by omega) v0 v5) q_695 rfl rfl (Nat.le_of_ble_eq_true rfl) (zdk (cc := cX9_takeNumber) (q := (89, .invokevirtual 36, 3)) tkX9_takeNumber 49 rfl) (fun y1 => ?_)
  refine zco_Ni (rc := 0) (rs := 0) (mc := 0) (ms := 0) (As := [.int y1]) (S := []) vmX11_isDigit (mtX11_isDigit l e (by omega) y1) (host := "ClothWedding") (by decide +kernel) rfl rfl (Nat.le_of_ble_eq_true rfl) (zdk (cc := cX9_takeNumber) (q := (92, .invokestatic 48, 3)) tkX9_takeNumber 50 rfl) (fun y2 => ?_)
  refine zco_if_eq (tgt := 108) (zdk (cc := cX9_takeNumber) (q := (95, .ifCond .eq 13, 3)) tkX9_takeNumber 51 rfl) rfl ?_ ?_
  · refine zco_p tkX9_takeNumber 57 2 (pc' := 111) (L' := [(0, .ref v0), (1, .int v1), (2, .int v2), (3, .int v3), (4, .int v4), (5, .int v5)]) (S' := [.int v1, .int v4]) rfl ?_
    refine zco_icmp_lt (tgt := 120) (zdk (cc := cX9_takeNumber) (q := (111, .if_icmp .lt 9, 3)) tkX9_takeNumber 59 rfl) rfl ?_ ?_
    · exact zco_sub [0, 1, 3, 4, 5] rfl (coX9_takeNumber_J120 l e he v0 v1 v3 v4 v5)
    · refine zco_p tkX9_takeNumber 60 2 (pc' := 117) (L' := [(0, .ref v0), (1, .int v1), (2, .int v2), (3, .int v3), (4, .int v4), (5, .int v5)]) (S' := [.int v2, .int v4]) rfl ?_
      refine zco_icmp_le (tgt := 126) (zdk (cc := cX9_takeNumber) (q := (117, .if_icmp .le 9, 3)) tkX9_takeNumber 62 rfl) rfl ?_ ?_
      · exact zco_sub [0, 1, 4, 5] rfl (coX9_takeNumber_J126 l e he v0 v1 v4 v5)
      · exact zco_sub [0, 1, 3, 4, 5] rfl (coX9_takeNumber_J120 l e he v0 v1 v3 v4 v5)
  · refine zco_p tkX9_takeNumber 52 3 (pc' := 102) (L' := [(0, .ref v0), (1, .int v1), (2, .int v2), (3, .int v3), (4, .int v4), (5, .int v5)]) (S' := [.int v5, .int 1, .ref v0]) rfl ?_
    refine zco_Vv (rc := 0) (rs := 0) (mc := 0) (ms := 0) (As := [.int 1, .int v5]) (S := []) vmX9_fail (mtX9_fail l e (by omega) v0 1 v5) q_770 rfl rfl (Nat.le_of_ble_eq_true rfl) (zdk (cc := cX9_takeNumber) (q := (102, .invokevirtual 44, 3)) tkX9_takeNumber 55 rfl) ?_
    refine zco_p tkX9_takeNumber 56 1 (pc' := 126) (L' := [(0, .ref v0), (1, .int v1), (2, .int v2), (3, .int v3), (4, .int v4), (5, .int v5)]) (S' := []) rfl ?_
    exact zco_sub [0, 1, 4, 5] rfl (coX9_takeNumber_J126 l e he v0 v1 v4 v5)
set_option maxHeartbeats 2000000 in
set_option maxRecDepth 20000 in
theorem coX9_takeNumber_B43 (l : Launch) (e : Nat) (he : 1 ≤ e) (v0 : Nat) (v1 : Int32) (v2 : Int32) (v3 : Int32) (r43 : Int32 × Int32 → zM) (hr43 : ∀ x : Int32 × Int32, zCo l (e + 1) 0 0 iX9_takeNumber 43 [(0, .ref v0), (1, .int v1), (2, .int v2), (3, .int v3), (4, .int x.1), (5, .int x.2)] [] (r43 x)) (v4 : Int32) (v5 : Int32) : zCo l (e + 1) 0 0 iX9_takeNumber 43 [(0, .ref v0), (1, .int v1), (2, .int v2), (3, .int v3), (4, .int v4), (5, .int v5)] [] (X9_takeNumber_B43 v0 v1 v2 v3 r43 v4 v5) := by
  unfold X9_takeNumber_B43
  refine zco_p tkX9_takeNumber 25 4 (pc' := 48) (L' := [(0, .ref v0), (1, .int v1), (2, .int v2), (3, .int v3), (4, .int v4), (5, .int v5)]) (S' := [.int (v3 + 4), .int v5]) rfl ?_
  refine zco_icmp_ge (tgt := 86) (zdk (cc := cX9_takeNumber) (q := (48, .if_icmp .ge 38, 3)) tkX9_takeNumber 29 rfl) rfl ?_ ?_
  · exact zco_sub [0, 1, 2, 3, 4, 5] rfl (coX9_takeNumber_J86 l e he v0 v1 v2 v3 v4 v5)
  · refine zco_p tkX9_takeNumber 30 2 (pc' := 54) (L' := [(0, .ref v0), (1, .int v1), (2, .int v2), (3, .int v3), (4, .int v4), (5, .int v5)]) (S' := [.int v5, .ref v0]) rfl ?_
    refine zco_Vi (rc := 0) (rs := 0) (mc := 0) (ms := 0) (As := [.int v5]) (S := []) vmX9_byteAt (mtX9_byteAt l e (by omega) v0 v5) q_695 rfl rfl (Nat.le_of_ble_eq_true rfl) (zdk (cc := cX9_takeNumber) (q := (54, .invokevirtual 36, 3)) tkX9_takeNumber 32 rfl) (fun y1 => ?_)
    refine zco_Ni (rc := 0) (rs := 0) (mc := 0) (ms := 0) (As := [.int y1]) (S := []) vmX11_isDigit (mtX11_isDigit l e (by omega) y1) (host := "ClothWedding") (by decide +kernel) rfl rfl (Nat.le_of_ble_eq_true rfl) (zdk (cc := cX9_takeNumber) (q := (57, .invokestatic 48, 3)) tkX9_takeNumber 33 rfl) (fun y2 => ?_)
    refine zco_if_eq (tgt := 86) (zdk (cc := cX9_takeNumber) (q := (60, .ifCond .eq 26, 3)) tkX9_takeNumber 34 rfl) rfl ?_ ?_
    · exact zco_sub [0, 1, 2, 3, 4, 5] rfl (coX9_takeNumber_J86 l e he v0 v1 v2 v3 v4 v5)
    · refine zco_p tkX9_takeNumber 35 5 (pc' := 71) (L' := [(0, .ref v0), (1, .int v1), (2, .int v2), (3, .int v3), (4, .int v4), (5, .int v5)]) (S' := [.int v5, .ref v0, .int (v4 * 10)]) rfl ?_
      refine zco_Vi (rc := 0) (rs := 0) (mc := 0) (ms := 0) (As := [.int v5]) (S := [.int (v4 * 10)]) vmX9_byteAt (mtX9_byteAt l e (by omega) v0 v5) q_695 rfl rfl (Nat.le_of_ble_eq_true rfl) (zdk (cc := cX9_takeNumber) (q := (71, .invokevirtual 36, 3)) tkX9_takeNumber 40 rfl) (fun y3 => ?_)
      refine zco_p tkX9_takeNumber 41 6 (pc' := 43) (L' := [(5, .int (v5 + 1)), (4, .int (((v4 * 10) + y3) - 48)), (0, .ref v0), (1, .int v1), (2, .int v2), (3, .int v3)]) (S' := []) rfl ?_
      exact zco_sub [2, 3, 4, 5, 1, 0] rfl (hr43 (((v4 * 10) + y3) - 48, v5 + 1))
set_option maxHeartbeats 2000000 in
set_option maxRecDepth 20000 in
theorem coX9_takeNumber_J29 (l : Launch) (e : Nat) (he : 1 ≤ e) (v0 : Nat) (v1 : Int32) (v3 : Int32) : zCo l (e + 1) 0 0 iX9_takeNumber 29 [(0, .ref v0), (1, .int v1), (3, .int v3)] [] (X9_takeNumber_J29 v0 v1 v3) := by
  unfold X9_takeNumber_J29
  refine zco_p tkX9_takeNumber 15 3 (pc' := 32) (L' := [(0, .ref v0), (1, .int v1), (3, .int v3)]) (S' := [.int v3, .int 1, .ref v0]) rfl ?_
  refine zco_Vv (rc := 0) (rs := 0) (mc := 0) (ms := 0) (As := [.int 1, .int v3]) (S := []) vmX9_fail (mtX9_fail l e (by omega) v0 1 v3) q_770 rfl rfl (Nat.le_of_ble_eq_true rfl) (zdk (cc := cX9_takeNumber) (q := (32, .invokevirtual 44, 3)) tkX9_takeNumber 18 rfl) ?_
  refine zco_p tkX9_takeNumber 19 1 (pc' := 36) (L' := [(0, .ref v0), (1, .int v1), (3, .int v3)]) (S' := [.int v1]) rfl ?_
  exact zco_iret rfl rfl rfl (zdk (cc := cX9_takeNumber) (q := (36, .ireturn, 1)) tkX9_takeNumber 20 rfl)
set_option maxHeartbeats 2000000 in
set_option maxRecDepth 20000 in
theorem coX9_takeNumber (l : Launch) (e : Nat) (he : 1 ≤ e) (v0 : Nat) (v1 : Int32) (v2 : Int32) : zCo l (e + 1) 0 0 iX9_takeNumber 0 [(0, .ref v0), (1, .int v1), (2, .int v2)] [] (X9_takeNumber v0 v1 v2) := by
  unfold X9_takeNumber
  refine zco_p tkX9_takeNumber 0 1 (pc' := 1) (L' := [(0, .ref v0), (1, .int v1), (2, .int v2)]) (S' := [.ref v0]) rfl ?_
  refine zco_Vi (rc := 0) (rs := 0) (mc := 0) (ms := 0) (As := []) (S := []) vmX9_begin (mtX9_begin l e (by omega) v0) q_672 rfl rfl (Nat.le_of_ble_eq_true rfl) (zdk (cc := cX9_takeNumber) (q := (1, .invokevirtual 28, 3)) tkX9_takeNumber 1 rfl) (fun y1 => ?_)
  refine zco_p tkX9_takeNumber 2 3 (pc' := 7) (L' := [(3, .int y1), (0, .ref v0), (1, .int v1), (2, .int v2)]) (S' := [.int y1, .ref v0]) rfl ?_
  refine zco_Vi (rc := 0) (rs := 0) (mc := 0) (ms := 0) (As := [.int y1]) (S := []) vmX9_byteAt (mtX9_byteAt l e (by omega) v0 y1) q_695 rfl rfl (Nat.le_of_ble_eq_true rfl) (zdk (cc := cX9_takeNumber) (q := (7, .invokevirtual 36, 3)) tkX9_takeNumber 5 rfl) (fun y2 => ?_)
  refine zco_Ni (rc := 0) (rs := 0) (mc := 0) (ms := 0) (As := [.int y2]) (S := []) vmX11_isDigit (mtX11_isDigit l e (by omega) y2) (host := "ClothWedding") (by decide +kernel) rfl rfl (Nat.le_of_ble_eq_true rfl) (zdk (cc := cX9_takeNumber) (q := (10, .invokestatic 48, 3)) tkX9_takeNumber 6 rfl) (fun y3 => ?_)
  refine zco_if_eq (tgt := 29) (zdk (cc := cX9_takeNumber) (q := (13, .ifCond .eq 16, 3)) tkX9_takeNumber 7 rfl) rfl ?_ ?_
  · exact zco_sub [1, 2, 0] rfl (coX9_takeNumber_J29 l e he v0 v1 y1)
  · refine zco_p tkX9_takeNumber 8 4 (pc' := 20) (L' := [(3, .int y1), (0, .ref v0), (1, .int v1), (2, .int v2)]) (S' := [.int (y1 - 1), .ref v0]) rfl ?_
    refine zco_Vi (rc := 0) (rs := 0) (mc := 0) (ms := 0) (As := [.int (y1 - 1)]) (S := []) vmX9_byteAt (mtX9_byteAt l e (by omega) v0 (y1 - 1)) q_695 rfl rfl (Nat.le_of_ble_eq_true rfl) (zdk (cc := cX9_takeNumber) (q := (20, .invokevirtual 36, 3)) tkX9_takeNumber 12 rfl) (fun y4 => ?_)
    refine zco_Ni (rc := 0) (rs := 0) (mc := 0) (ms := 0) (As := [.int y4]) (S := []) vmX11_isLetter (mtX11_isLetter l e (by omega) y4) (host := "ClothWedding") (by decide +kernel) rfl rfl (Nat.le_of_ble_eq_true rfl) (zdk (cc := cX9_takeNumber) (q := (23, .invokestatic 51, 3)) tkX9_takeNumber 13 rfl) (fun y5 => ?_)
    refine zco_if_eq (tgt := 37) (zdk (cc := cX9_takeNumber) (q := (26, .ifCond .eq 11, 3)) tkX9_takeNumber 14 rfl) rfl ?_ ?_
    · refine zco_p tkX9_takeNumber 21 4 (pc' := 43) (L' := [(5, .int y1), (4, .int 0), (3, .int y1), (0, .ref v0), (1, .int v1), (2, .int v2)]) (S' := []) rfl ?_
      exact zco_sub [3, 4, 5, 2, 1, 0] rfl (zco_fix (Lf := fun x : Int32 × Int32 => [(0, .ref v0), (1, .int v1), (2, .int v2), (3, .int y1), (4, .int x.1), (5, .int x.2)]) (Sf := fun _ => []) (fun r hr x => coX9_takeNumber_B43 l e he v0 v1 v2 y1 r hr x.1 x.2) zFU (0, y1))
    · exact zco_sub [1, 2, 0] rfl (coX9_takeNumber_J29 l e he v0 v1 y1)
theorem mtX9_takeNumber (l : Launch) (d : Nat) (hd : 2 ≤ d) (v0 : Nat) (v1 : Int32) (v2 : Int32) : zMet l d 0 0 yX9_takeNumber cX9_takeNumber 6 (Option.some .int) [.ref v0, .int v1, .int v2] (X9_takeNumber v0 v1 v2) := by
  obtain ⟨e, rfl⟩ : ∃ e, d = e + 1 := ⟨d - 1, by omega⟩
  exact zmet_of (own := RX9) (ini := false) (by decide +kernel) rfl (fun _ => by contradiction) (Nat.le_of_ble_eq_true rfl) (coX9_takeNumber l e (by omega) v0 v1 v2)
abbrev iX2_someone : zI := (RX2, cX2_someone, 7, (Option.none : Option FieldType), false)
def tX2_someone : List (Nat × Instr × Nat) := [(0, .aload_n 1, 1), (1, .getfield 96, 3), (4, .iload_n 2, 1), (5, .iaload, 1), (6, .bipush 6, 2), (8, .if_icmp .lt 13, 3), (11, .aload_n 0, 1), (12, .getfield 15, 3), (15, .iconst 5, 1), (16, .iload_n 3, 1), (17, .invokevirtual 41, 3), (20, .return_, 1), (21, .aload_n 0, 1), (22, .getfield 15, 3), (25, .invokevirtual 79, 3), (28, .iload_n 2, 1), (29, .bipush 6, 2), (31, .imul, 1), (32, .aload_n 1, 1), (33, .getfield 96, 3), (36, .iload_n 2, 1), (37, .iaload, 1), (38, .iadd, 1), (39, .istore 4, 2), (41, .aload_n 0, 1), (42, .getfield 15, 3), (45, .invokevirtual 37, 3), (48, .istore 5, 2), (50, .aload_n 0, 1), (51, .getfield 15, 3), (54, .aload_n 0, 1), (55, .getfield 9, 3), (58, .invokevirtual 99, 3), (61, .aload_n 0, 1), (62, .getfield 15, 3), (65, .invokevirtual 28, 3), (68, .ifCond .eq 25, 3), (71, .aload_n 1, 1), (72, .aload_n 0, 1), (73, .getfield 9, 3), (76, .invokevirtual 103, 3), (79, .iconst (-1), 1), (80, .if_icmp .eq 13, 3), (83, .aload_n 0, 1), (84, .getfield 15, 3), (87, .iconst 3, 1), (88, .iload 5, 2), (90, .invokevirtual 41, 3), (93, .iconst 0, 1), (94, .istore 6, 2), (96, .iload 6, 2), (98, .bipush 6, 2), (100, .if_icmp .ge 29, 3), (103, .aload_n 1, 1), (104, .getfield 107, 3), (107, .iload 4, 2), (109, .bipush 6, 2), (111, .imul, 1), (112, .iload 6, 2), (114, .iadd, 1), (115, .aload_n 0, 1), (116, .getfield 9, 3), (119, .iload 6, 2), (121, .iaload, 1), (122, .iastore, 1), (123, .iinc 6 1, 3), (126, .goto (-30), 3), (129, .aload_n 1, 1), (130, .getfield 96, 3), (133, .iload_n 2, 1), (134, .dup2, 1), (135, .iaload, 1), (136, .iconst 1, 1), (137, .iadd, 1), (138, .iastore, 1), (139, .aload_n 0, 1), (140, .getfield 15, 3), (143, .ldc 110, 2), (145, .invokevirtual 112, 3), (148, .aload_n 1, 1), (149, .getfield 116, 3), (152, .iload 4, 2), (154, .aload_n 0, 1), (155, .getfield 15, 3), (158, .iconst 0, 1), (159, .bipush 9, 2), (161, .invokevirtual 82, 3), (164, .iastore, 1), (165, .aload_n 0, 1), (166, .getfield 15, 3), (169, .ldc 118, 2), (171, .invokevirtual 112, 3), (174, .aload_n 1, 1), (175, .getfield 120, 3), (178, .iload 4, 2), (180, .aload_n 0, 1), (181, .getfield 15, 3), (184, .iconst 0, 1), (185, .bipush 9, 2), (187, .invokevirtual 82, 3), (190, .iastore, 1), (191, .aload_n 0, 1), (192, .getfield 15, 3), (195, .ldc 122, 2), (197, .invokevirtual 112, 3), (200, .aload_n 1, 1), (201, .getfield 124, 3), (204, .iload 4, 2), (206, .aload_n 0, 1), (207, .getfield 15, 3), (210, .iconst 0, 1), (211, .bipush 9, 2), (213, .invokevirtual 82, 3), (216, .iastore, 1), (217, .return_, 1)]
set_option maxRecDepth 100000 in
theorem tkX2_someone : ∀ q ∈ tX2_someone, decode cX2_someone q.1 = .ok q.2 := by decide +kernel
theorem vmX2_someone : zVM yX2_someone cX2_someone 7 (Option.none : Option FieldType) 3 2 := ⟨kX2_someone, q_759, q_6, q_154, ⟨_, rfl, rfl⟩, by decide +kernel, by decide⟩
set_option maxHeartbeats 2000000 in
set_option maxRecDepth 20000 in
theorem coX2_someone_J129 (l : Launch) (e : Nat) (he : 11 ≤ e) (v0 : Nat) (v1 : Nat) (v2 : Int32) (v4 : Int32) : zCo l (e + 1) 0 0 iX2_someone 129 [(0, .ref v0), (1, .ref v1), (2, .int v2), (4, .int v4)] [] (X2_someone_J129 v0 v1 v2 v4) := by
  unfold X2_someone_J129
  refine zco_p tkX2_someone 67 1 (pc' := 130) (L' := [(0, .ref v0), (1, .ref v1), (2, .int v2), (4, .int v4)]) (S' := [.ref v1]) rfl ?_
  refine zco_gr fl_2_96 rfl (zdk (cc := cX2_someone) (q := (130, .getfield 96, 3)) tkX2_someone 68 rfl) (fun x1 => ?_)
  refine zco_p tkX2_someone 69 2 (pc' := 135) (L' := [(0, .ref v0), (1, .ref v1), (2, .int v2), (4, .int v4)]) (S' := [.int v2, .ref x1, .int v2, .ref x1]) rfl ?_
  refine zco_iaload (zdk (cc := cX2_someone) (q := (135, .iaload, 1)) tkX2_someone 71 rfl) (fun x2 => ?_)
  refine zco_p tkX2_someone 72 2 (pc' := 138) (L' := [(0, .ref v0), (1, .ref v1), (2, .int v2), (4, .int v4)]) (S' := [.int (x2 + 1), .int v2, .ref x1]) rfl ?_
  refine zco_iastore (zdk (cc := cX2_someone) (q := (138, .iastore, 1)) tkX2_someone 74 rfl) ?_
  refine zco_p tkX2_someone 75 1 (pc' := 140) (L' := [(0, .ref v0), (1, .ref v1), (2, .int v2), (4, .int v4)]) (S' := [.ref v0]) rfl ?_
  refine zco_gr fl_2_15 rfl (zdk (cc := cX2_someone) (q := (140, .getfield 15, 3)) tkX2_someone 76 rfl) (fun x3 => ?_)
  refine zco_ldcS (i := 3) rfl (zdk (cc := cX2_someone) (q := (143, .ldc 110, 2)) tkX2_someone 77 rfl) ?_
  refine zco_Vv (rc := 0) (rs := 0) (mc := 0) (ms := 0) (As := [.ref (zB + 3)]) (S := []) vmX9_needWord (mtX9_needWord l e (by omega) x3 (zB + 3)) q_780 rfl rfl (Nat.le_of_ble_eq_true rfl) (zdk (cc := cX2_someone) (q := (145, .invokevirtual 112, 3)) tkX2_someone 78 rfl) ?_
  refine zco_p tkX2_someone 79 1 (pc' := 149) (L' := [(0, .ref v0), (1, .ref v1), (2, .int v2), (4, .int v4)]) (S' := [.ref v1]) rfl ?_
  refine zco_gr fl_2_116 rfl (zdk (cc := cX2_someone) (q := (149, .getfield 116, 3)) tkX2_someone 80 rfl) (fun x4 => ?_)
  refine zco_p tkX2_someone 81 2 (pc' := 155) (L' := [(0, .ref v0), (1, .ref v1), (2, .int v2), (4, .int v4)]) (S' := [.ref v0, .int v4, .ref x4]) rfl ?_
  refine zco_gr fl_2_15 rfl (zdk (cc := cX2_someone) (q := (155, .getfield 15, 3)) tkX2_someone 83 rfl) (fun x5 => ?_)
  refine zco_p tkX2_someone 84 2 (pc' := 161) (L' := [(0, .ref v0), (1, .ref v1), (2, .int v2), (4, .int v4)]) (S' := [.int 9, .int 0, .ref x5, .int v4, .ref x4]) rfl ?_
  refine zco_Vi (rc := 0) (rs := 0) (mc := 0) (ms := 0) (As := [.int 0, .int 9]) (S := [.int v4, .ref x4]) vmX9_takeNumber (mtX9_takeNumber l e (by omega) x5 0 9) q_788 rfl rfl (Nat.le_of_ble_eq_true rfl) (zdk (cc := cX2_someone) (q := (161, .invokevirtual 82, 3)) tkX2_someone 86 rfl) (fun y6 => ?_)
  refine zco_iastore (zdk (cc := cX2_someone) (q := (164, .iastore, 1)) tkX2_someone 87 rfl) ?_
  refine zco_p tkX2_someone 88 1 (pc' := 166) (L' := [(0, .ref v0), (1, .ref v1), (2, .int v2), (4, .int v4)]) (S' := [.ref v0]) rfl ?_
  refine zco_gr fl_2_15 rfl (zdk (cc := cX2_someone) (q := (166, .getfield 15, 3)) tkX2_someone 89 rfl) (fun x7 => ?_)
  refine zco_ldcS (i := 4) rfl (zdk (cc := cX2_someone) (q := (169, .ldc 118, 2)) tkX2_someone 90 rfl) ?_
  refine zco_Vv (rc := 0) (rs := 0) (mc := 0) (ms := 0) (As := [.ref (zB + 4)]) (S := []) vmX9_needWord (mtX9_needWord l e (by omega) x7 (zB + 4)) q_780 rfl rfl (Nat.le_of_ble_eq_true rfl) (zdk (cc := cX2_someone) (q := (171, .invokevirtual 112, 3)) tkX2_someone 91 rfl) ?_
  refine zco_p tkX2_someone 92 1 (pc' := 175) (L' := [(0, .ref v0), (1, .ref v1), (2, .int v2), (4, .int v4)]) (S' := [.ref v1]) rfl ?_
  refine zco_gr fl_2_120 rfl (zdk (cc := cX2_someone) (q := (175, .getfield 120, 3)) tkX2_someone 93 rfl) (fun x8 => ?_)
  refine zco_p tkX2_someone 94 2 (pc' := 181) (L' := [(0, .ref v0), (1, .ref v1), (2, .int v2), (4, .int v4)]) (S' := [.ref v0, .int v4, .ref x8]) rfl ?_
  refine zco_gr fl_2_15 rfl (zdk (cc := cX2_someone) (q := (181, .getfield 15, 3)) tkX2_someone 96 rfl) (fun x9 => ?_)
  refine zco_p tkX2_someone 97 2 (pc' := 187) (L' := [(0, .ref v0), (1, .ref v1), (2, .int v2), (4, .int v4)]) (S' := [.int 9, .int 0, .ref x9, .int v4, .ref x8]) rfl ?_
  refine zco_Vi (rc := 0) (rs := 0) (mc := 0) (ms := 0) (As := [.int 0, .int 9]) (S := [.int v4, .ref x8]) vmX9_takeNumber (mtX9_takeNumber l e (by omega) x9 0 9) q_788 rfl rfl (Nat.le_of_ble_eq_true rfl) (zdk (cc := cX2_someone) (q := (187, .invokevirtual 82, 3)) tkX2_someone 99 rfl) (fun y10 => ?_)
  refine zco_iastore (zdk (cc := cX2_someone) (q := (190, .iastore, 1)) tkX2_someone 100 rfl) ?_
  refine zco_p tkX2_someone 101 1 (pc' := 192) (L' := [(0, .ref v0), (1, .ref v1), (2, .int v2), (4, .int v4)]) (S' := [.ref v0]) rfl ?_
  refine zco_gr fl_2_15 rfl (zdk (cc := cX2_someone) (q := (192, .getfield 15, 3)) tkX2_someone 102 rfl) (fun x11 => ?_)
  refine zco_ldcS (i := 5) rfl (zdk (cc := cX2_someone) (q := (195, .ldc 122, 2)) tkX2_someone 103 rfl) ?_
  refine zco_Vv (rc := 0) (rs := 0) (mc := 0) (ms := 0) (As := [.ref (zB + 5)]) (S := []) vmX9_needWord (mtX9_needWord l e (by omega) x11 (zB + 5)) q_780 rfl rfl (Nat.le_of_ble_eq_true rfl) (zdk (cc := cX2_someone) (q := (197, .invokevirtual 112, 3)) tkX2_someone 104 rfl) ?_
  refine zco_p tkX2_someone 105 1 (pc' := 201) (L' := [(0, .ref v0), (1, .ref v1), (2, .int v2), (4, .int v4)]) (S' := [.ref v1]) rfl ?_
  refine zco_gr fl_2_124 rfl (zdk (cc := cX2_someone) (q := (201, .getfield 124, 3)) tkX2_someone 106 rfl) (fun x12 => ?_)
  refine zco_p tkX2_someone 107 2 (pc' := 207) (L' := [(0, .ref v0), (1, .ref v1), (2, .int v2), (4, .int v4)]) (S' := [.ref v0, .int v4, .ref x12]) rfl ?_
  refine zco_gr fl_2_15 rfl (zdk (cc := cX2_someone) (q := (207, .getfield 15, 3)) tkX2_someone 109 rfl) (fun x13 => ?_)
  refine zco_p tkX2_someone 110 2 (pc' := 213) (L' := [(0, .ref v0), (1, .ref v1), (2, .int v2), (4, .int v4)]) (S' := [.int 9, .int 0, .ref x13, .int v4, .ref x12]) rfl ?_
  refine zco_Vi (rc := 0) (rs := 0) (mc := 0) (ms := 0) (As := [.int 0, .int 9]) (S := [.int v4, .ref x12]) vmX9_takeNumber (mtX9_takeNumber l e (by omega) x13 0 9) q_788 rfl rfl (Nat.le_of_ble_eq_true rfl) (zdk (cc := cX2_someone) (q := (213, .invokevirtual 82, 3)) tkX2_someone 112 rfl) (fun y14 => ?_)
  refine zco_iastore (zdk (cc := cX2_someone) (q := (216, .iastore, 1)) tkX2_someone 113 rfl) ?_
  exact zco_vret rfl rfl rfl (zdk (cc := cX2_someone) (q := (217, .return_, 1)) tkX2_someone 114 rfl)
set_option maxHeartbeats 2000000 in
set_option maxRecDepth 20000 in
theorem coX2_someone_B96 (l : Launch) (e : Nat) (he : 11 ≤ e) (v0 : Nat) (v1 : Nat) (v2 : Int32) (v4 : Int32) (r96 : Int32 → zM) (hr96 : ∀ x : Int32, zCo l (e + 1) 0 0 iX2_someone 96 [(0, .ref v0), (1, .ref v1), (2, .int v2), (4, .int v4), (6, .int x)] [] (r96 x)) (v6 : Int32) : zCo l (e + 1) 0 0 iX2_someone 96 [(0, .ref v0), (1, .ref v1), (2, .int v2), (4, .int v4), (6, .int v6)] [] (X2_someone_B96 v0 v1 v2 v4 r96 v6) := by
  unfold X2_someone_B96
  refine zco_p tkX2_someone 50 2 (pc' := 100) (L' := [(0, .ref v0), (1, .ref v1), (2, .int v2), (4, .int v4), (6, .int v6)]) (S' := [.int 6, .int v6]) rfl ?_
  refine zco_icmp_ge (tgt := 129) (zdk (cc := cX2_someone) (q := (100, .if_icmp .ge 29, 3)) tkX2_someone 52 rfl) rfl ?_ ?_
  · exact zco_sub [0, 1, 2, 3] rfl (coX2_someone_J129 l e he v0 v1 v2 v4)
  · refine zco_p tkX2_someone 53 1 (pc' := 104) (L' := [(0, .ref v0), (1, .ref v1), (2, .int v2), (4, .int v4), (6, .int v6)]) (S' := [.ref v1]) rfl ?_
    refine zco_gr fl_2_107 rfl (zdk (cc := cX2_someone) (q := (104, .getfield 107, 3)) tkX2_someone 54 rfl) (fun x1 => ?_)
    refine zco_p tkX2_someone 55 6 (pc' := 116) (L' := [(0, .ref v0), (1, .ref v1), (2, .int v2), (4, .int v4), (6, .int v6)]) (S' := [.ref v0, .int ((v4 * 6) + v6), .ref x1]) rfl ?_
    refine zco_gr fl_2_9 rfl (zdk (cc := cX2_someone) (q := (116, .getfield 9, 3)) tkX2_someone 61 rfl) (fun x2 => ?_)
    refine zco_p tkX2_someone 62 1 (pc' := 121) (L' := [(0, .ref v0), (1, .ref v1), (2, .int v2), (4, .int v4), (6, .int v6)]) (S' := [.int v6, .ref x2, .int ((v4 * 6) + v6), .ref x1]) rfl ?_
    refine zco_iaload (zdk (cc := cX2_someone) (q := (121, .iaload, 1)) tkX2_someone 63 rfl) (fun x3 => ?_)
    refine zco_iastore (zdk (cc := cX2_someone) (q := (122, .iastore, 1)) tkX2_someone 64 rfl) ?_
    refine zco_p tkX2_someone 65 2 (pc' := 96) (L' := [(6, .int (v6 + 1)), (0, .ref v0), (1, .ref v1), (2, .int v2), (4, .int v4)]) (S' := []) rfl ?_
    exact zco_sub [1, 2, 3, 4, 0] rfl (hr96 (v6 + 1))
set_option maxHeartbeats 2000000 in
set_option maxRecDepth 20000 in
theorem coX2_someone_J93 (l : Launch) (e : Nat) (he : 11 ≤ e) (v0 : Nat) (v1 : Nat) (v2 : Int32) (v4 : Int32) : zCo l (e + 1) 0 0 iX2_someone 93 [(0, .ref v0), (1, .ref v1), (2, .int v2), (4, .int v4)] [] (X2_someone_J93 v0 v1 v2 v4) := by
  unfold X2_someone_J93
  refine zco_p tkX2_someone 48 2 (pc' := 96) (L' := [(6, .int 0), (0, .ref v0), (1, .ref v1), (2, .int v2), (4, .int v4)]) (S' := []) rfl ?_
  exact zco_sub [1, 2, 3, 4, 0] rfl (zco_fix (Lf := fun x : Int32 => [(0, .ref v0), (1, .ref v1), (2, .int v2), (4, .int v4), (6, .int x)]) (Sf := fun _ => []) (fun r hr x => coX2_someone_B96 l e he v0 v1 v2 v4 r hr x) zFU 0)
set_option maxHeartbeats 2000000 in
set_option maxRecDepth 20000 in
theorem coX2_someone (l : Launch) (e : Nat) (he : 11 ≤ e) (v0 : Nat) (v1 : Nat) (v2 : Int32) (v3 : Int32) : zCo l (e + 1) 0 0 iX2_someone 0 [(0, .ref v0), (1, .ref v1), (2, .int v2), (3, .int v3)] [] (X2_someone v0 v1 v2 v3) := by
  unfold X2_someone
  refine zco_p tkX2_someone 0 1 (pc' := 1) (L' := [(0, .ref v0), (1, .ref v1), (2, .int v2), (3, .int v3)]) (S' := [.ref v1]) rfl ?_
  refine zco_gr fl_2_96 rfl (zdk (cc := cX2_someone) (q := (1, .getfield 96, 3)) tkX2_someone 1 rfl) (fun x1 => ?_)
  refine zco_p tkX2_someone 2 1 (pc' := 5) (L' := [(0, .ref v0), (1, .ref v1), (2, .int v2), (3, .int v3)]) (S' := [.int v2, .ref x1]) rfl ?_
  refine zco_iaload (zdk (cc := cX2_someone) (q := (5, .iaload, 1)) tkX2_someone 3 rfl) (fun x2 => ?_)
  refine zco_p tkX2_someone 4 1 (pc' := 8) (L' := [(0, .ref v0), (1, .ref v1), (2, .int v2), (3, .int v3)]) (S' := [.int 6, .int x2]) rfl ?_
  refine zco_icmp_lt (tgt := 21) (zdk (cc := cX2_someone) (q := (8, .if_icmp .lt 13, 3)) tkX2_someone 5 rfl) rfl ?_ ?_
  · refine zco_p tkX2_someone 12 1 (pc' := 22) (L' := [(0, .ref v0), (1, .ref v1), (2, .int v2), (3, .int v3)]) (S' := [.ref v0]) rfl ?_
    refine zco_gr fl_2_15 rfl (zdk (cc := cX2_someone) (q := (22, .getfield 15, 3)) tkX2_someone 13 rfl) (fun x3 => ?_)
    refine zco_Vv (rc := 0) (rs := 0) (mc := 0) (ms := 0) (As := []) (S := []) vmX9_passWord (mtX9_passWord l e (by omega) x3) q_761 rfl rfl (Nat.le_of_ble_eq_true rfl) (zdk (cc := cX2_someone) (q := (25, .invokevirtual 79, 3)) tkX2_someone 14 rfl) ?_
    refine zco_p tkX2_someone 15 4 (pc' := 33) (L' := [(0, .ref v0), (1, .ref v1), (2, .int v2), (3, .int v3)]) (S' := [.ref v1, .int (v2 * 6)]) rfl ?_
    refine zco_gr fl_2_96 rfl (zdk (cc := cX2_someone) (q := (33, .getfield 96, 3)) tkX2_someone 19 rfl) (fun x4 => ?_)
    refine zco_p tkX2_someone 20 1 (pc' := 37) (L' := [(0, .ref v0), (1, .ref v1), (2, .int v2), (3, .int v3)]) (S' := [.int v2, .ref x4, .int (v2 * 6)]) rfl ?_
    refine zco_iaload (zdk (cc := cX2_someone) (q := (37, .iaload, 1)) tkX2_someone 21 rfl) (fun x5 => ?_)
    refine zco_p tkX2_someone 22 3 (pc' := 42) (L' := [(4, .int ((v2 * 6) + x5)), (0, .ref v0), (1, .ref v1), (2, .int v2), (3, .int v3)]) (S' := [.ref v0]) rfl ?_
    refine zco_gr fl_2_15 rfl (zdk (cc := cX2_someone) (q := (42, .getfield 15, 3)) tkX2_someone 25 rfl) (fun x6 => ?_)
    refine zco_Vi (rc := 0) (rs := 0) (mc := 0) (ms := 0) (As := []) (S := []) vmX9_begin (mtX9_begin l e (by omega) x6) q_676 rfl rfl (Nat.le_of_ble_eq_true rfl) (zdk (cc := cX2_someone) (q := (45, .invokevirtual 37, 3)) tkX2_someone 26 rfl) (fun y7 => ?_)
    refine zco_p tkX2_someone 27 2 (pc' := 51) (L' := [(5, .int y7), (4, .int ((v2 * 6) + x5)), (0, .ref v0), (1, .ref v1), (2, .int v2), (3, .int v3)]) (S' := [.ref v0]) rfl ?_
    refine zco_gr fl_2_15 rfl (zdk (cc := cX2_someone) (q := (51, .getfield 15, 3)) tkX2_someone 29 rfl) (fun x8 => ?_)
    refine zco_p tkX2_someone 30 1 (pc' := 55) (L' := [(5, .int y7), (4, .int ((v2 * 6) + x5)), (0, .ref v0), (1, .ref v1), (2, .int v2), (3, .int v3)]) (S' := [.ref v0, .ref x8]) rfl ?_
    refine zco_gr fl_2_9 rfl (zdk (cc := cX2_someone) (q := (55, .getfield 9, 3)) tkX2_someone 31 rfl) (fun x9 => ?_)
    refine zco_Vv (rc := 0) (rs := 0) (mc := 0) (ms := 0) (As := [.ref x9]) (S := []) vmX9_takeName (mtX9_takeName l e (by omega) x8 x9) q_765 rfl rfl (Nat.le_of_ble_eq_true rfl) (zdk (cc := cX2_someone) (q := (58, .invokevirtual 99, 3)) tkX2_someone 32 rfl) ?_
    refine zco_p tkX2_someone 33 1 (pc' := 62) (L' := [(5, .int y7), (4, .int ((v2 * 6) + x5)), (0, .ref v0), (1, .ref v1), (2, .int v2), (3, .int v3)]) (S' := [.ref v0]) rfl ?_
    refine zco_gr fl_2_15 rfl (zdk (cc := cX2_someone) (q := (62, .getfield 15, 3)) tkX2_someone 34 rfl) (fun x10 => ?_)
    refine zco_Vi (rc := 0) (rs := 0) (mc := 0) (ms := 0) (As := []) (S := []) vmX9_sound (mtX9_sound l e (by omega) x10) q_664 rfl rfl (Nat.le_of_ble_eq_true rfl) (zdk (cc := cX2_someone) (q := (65, .invokevirtual 28, 3)) tkX2_someone 35 rfl) (fun y11 => ?_)
    refine zco_if_eq (tgt := 93) (zdk (cc := cX2_someone) (q := (68, .ifCond .eq 25, 3)) tkX2_someone 36 rfl) rfl ?_ ?_
    · exact zco_sub [2, 3, 4, 1] rfl (coX2_someone_J93 l e he v0 v1 v2 ((v2 * 6) + x5))
    · refine zco_p tkX2_someone 37 2 (pc' := 73) (L' := [(5, .int y7), (4, .int ((v2 * 6) + x5)), (0, .ref v0), (1, .ref v1), (2, .int v2), (3, .int v3)]) (S' := [.ref v0, .ref v1]) rfl ?_
      refine zco_gr fl_2_9 rfl (zdk (cc := cX2_someone) (q := (73, .getfield 9, 3)) tkX2_someone 39 rfl) (fun x12 => ?_)
      refine zco_Vi (rc := 0) (rs := 0) (mc := 0) (ms := 0) (As := [.ref x12]) (S := []) vmX1_named (mtX1_named l e (by omega) v1 x12) q_771 rfl rfl (Nat.le_of_ble_eq_true rfl) (zdk (cc := cX2_someone) (q := (76, .invokevirtual 103, 3)) tkX2_someone 40 rfl) (fun y13 => ?_)
      refine zco_p tkX2_someone 41 1 (pc' := 80) (L' := [(5, .int y7), (4, .int ((v2 * 6) + x5)), (0, .ref v0), (1, .ref v1), (2, .int v2), (3, .int v3)]) (S' := [.int ((-1)), .int y13]) rfl ?_
      refine zco_icmp_eq (tgt := 93) (zdk (cc := cX2_someone) (q := (80, .if_icmp .eq 13, 3)) tkX2_someone 42 rfl) rfl ?_ ?_
      · exact zco_sub [2, 3, 4, 1] rfl (coX2_someone_J93 l e he v0 v1 v2 ((v2 * 6) + x5))
      · refine zco_p tkX2_someone 43 1 (pc' := 84) (L' := [(5, .int y7), (4, .int ((v2 * 6) + x5)), (0, .ref v0), (1, .ref v1), (2, .int v2), (3, .int v3)]) (S' := [.ref v0]) rfl ?_
        refine zco_gr fl_2_15 rfl (zdk (cc := cX2_someone) (q := (84, .getfield 15, 3)) tkX2_someone 44 rfl) (fun x14 => ?_)
        refine zco_p tkX2_someone 45 2 (pc' := 90) (L' := [(5, .int y7), (4, .int ((v2 * 6) + x5)), (0, .ref v0), (1, .ref v1), (2, .int v2), (3, .int v3)]) (S' := [.int y7, .int 3, .ref x14]) rfl ?_
        refine zco_Vv (rc := 0) (rs := 0) (mc := 0) (ms := 0) (As := [.int 3, .int y7]) (S := []) vmX9_fail (mtX9_fail l e (by omega) x14 3 y7) q_677 rfl rfl (Nat.le_of_ble_eq_true rfl) (zdk (cc := cX2_someone) (q := (90, .invokevirtual 41, 3)) tkX2_someone 47 rfl) ?_
        exact zco_sub [2, 3, 4, 1] rfl (coX2_someone_J93 l e he v0 v1 v2 ((v2 * 6) + x5))
  · refine zco_p tkX2_someone 6 1 (pc' := 12) (L' := [(0, .ref v0), (1, .ref v1), (2, .int v2), (3, .int v3)]) (S' := [.ref v0]) rfl ?_
    refine zco_gr fl_2_15 rfl (zdk (cc := cX2_someone) (q := (12, .getfield 15, 3)) tkX2_someone 7 rfl) (fun x15 => ?_)
    refine zco_p tkX2_someone 8 2 (pc' := 17) (L' := [(0, .ref v0), (1, .ref v1), (2, .int v2), (3, .int v3)]) (S' := [.int v3, .int 5, .ref x15]) rfl ?_
    refine zco_Vv (rc := 0) (rs := 0) (mc := 0) (ms := 0) (As := [.int 5, .int v3]) (S := []) vmX9_fail (mtX9_fail l e (by omega) x15 5 v3) q_677 rfl rfl (Nat.le_of_ble_eq_true rfl) (zdk (cc := cX2_someone) (q := (17, .invokevirtual 41, 3)) tkX2_someone 10 rfl) ?_
    exact zco_vret rfl rfl rfl (zdk (cc := cX2_someone) (q := (20, .return_, 1)) tkX2_someone 11 rfl)
theorem mtX2_someone (l : Launch) (d : Nat) (hd : 12 ≤ d) (v0 : Nat) (v1 : Nat) (v2 : Int32) (v3 : Int32) : zMet l d 0 0 yX2_someone cX2_someone 7 (Option.none : Option FieldType) [.ref v0, .ref v1, .int v2, .int v3] (X2_someone v0 v1 v2 v3) := by
  obtain ⟨e, rfl⟩ : ∃ e, d = e + 1 := ⟨d - 1, by omega⟩
  exact zmet_of (own := RX2) (ini := false) (by decide +kernel) rfl (fun _ => by contradiction) (Nat.le_of_ble_eq_true rfl) (coX2_someone l e (by omega) v0 v1 v2 v3)
