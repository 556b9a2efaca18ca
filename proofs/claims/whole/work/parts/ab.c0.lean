abbrev iX9_init : zI := (RX9, cX9_init, 2, (Option.none : Option FieldType), true)
def tX9_init : List (Nat × Instr × Nat) := [(0, .aload_n 0, 1), (1, .invokespecial 3, 3), (4, .aload_n 0, 1), (5, .iconst 0, 1), (6, .putfield 9, 3), (9, .aload_n 0, 1), (10, .iconst 0, 1), (11, .putfield 15, 3), (14, .aload_n 0, 1), (15, .iconst 0, 1), (16, .putfield 18, 3), (19, .aload_n 0, 1), (20, .iconst (-1), 1), (21, .putfield 21, 3), (24, .aload_n 0, 1), (25, .aload_n 1, 1), (26, .putfield 24, 3), (29, .return_, 1)]
set_option maxRecDepth 100000 in
theorem tkX9_init : ∀ q ∈ tX9_init, decode cX9_init q.1 = .ok q.2 := by decide +kernel
theorem vmX9_init : zIM yX9_init cX9_init 2 1 := ⟨kX9_init, q_181, q_150, rfl, by decide +kernel, by decide⟩
set_option maxHeartbeats 2000000 in
set_option maxRecDepth 20000 in
theorem coX9_init (l : Launch) (e : Nat) (he : 0 ≤ e) (v0 : Nat) (v1 : Nat) : zCo l (e + 1) 0 0 iX9_init 0 [(0, .ref v0), (1, .ref v1)] [] (X9_init v0 v1) := by
  unfold X9_init
  refine zco_p tkX9_init 0 1 (pc' := 1) (L' := [(0, .ref v0), (1, .ref v1)]) (S' := [.ref v0]) rfl ?_
  refine zco_obj (by omega) q_183 q_176 q_objc (Nat.le_of_ble_eq_true rfl) (zdk (cc := cX9_init) (q := (1, .invokespecial 3, 3)) tkX9_init 1 rfl) ?_
  refine zco_p tkX9_init 2 2 (pc' := 6) (L' := [(0, .ref v0), (1, .ref v1)]) (S' := [.int 0, .ref v0]) rfl ?_
  refine zco_pi fl_9_9 rfl rfl (zdk (cc := cX9_init) (q := (6, .putfield 9, 3)) tkX9_init 4 rfl) ?_
  refine zco_p tkX9_init 5 2 (pc' := 11) (L' := [(0, .ref v0), (1, .ref v1)]) (S' := [.int 0, .ref v0]) rfl ?_
  refine zco_pi fl_9_15 rfl rfl (zdk (cc := cX9_init) (q := (11, .putfield 15, 3)) tkX9_init 7 rfl) ?_
  refine zco_p tkX9_init 8 2 (pc' := 16) (L' := [(0, .ref v0), (1, .ref v1)]) (S' := [.int 0, .ref v0]) rfl ?_
  refine zco_pi fl_9_18 rfl rfl (zdk (cc := cX9_init) (q := (16, .putfield 18, 3)) tkX9_init 10 rfl) ?_
  refine zco_p tkX9_init 11 2 (pc' := 21) (L' := [(0, .ref v0), (1, .ref v1)]) (S' := [.int ((-1)), .ref v0]) rfl ?_
  refine zco_pi fl_9_21 rfl rfl (zdk (cc := cX9_init) (q := (21, .putfield 21, 3)) tkX9_init 13 rfl) ?_
  refine zco_p tkX9_init 14 2 (pc' := 26) (L' := [(0, .ref v0), (1, .ref v1)]) (S' := [.ref v1, .ref v0]) rfl ?_
  refine zco_prF fl_9_24 (Or.inr ⟨_, rfl⟩) rfl rfl (by decide +kernel) (zdk (cc := cX9_init) (q := (26, .putfield 24, 3)) tkX9_init 16 rfl) ?_
  exact zco_vret rfl rfl rfl (zdk (cc := cX9_init) (q := (29, .return_, 1)) tkX9_init 17 rfl)
theorem mtX9_init (l : Launch) (d : Nat) (hd : 1 ≤ d) (v0 : Nat) (v1 : Nat) : zMet l d 0 0 yX9_init cX9_init 2 (Option.none : Option FieldType) [.ref v0, .ref v1] (X9_init v0 v1) := by
  obtain ⟨e, rfl⟩ : ∃ e, d = e + 1 := ⟨d - 1, by omega⟩
  exact zmet_of (own := RX9) (ini := true) (by decide +kernel) rfl (fun _ => rfl) (Nat.le_of_ble_eq_true rfl) (coX9_init l e (by omega) v0 v1)
abbrev iX3_init : zI := (RX3, cX3_init, 1, (Option.none : Option FieldType), true)
def tX3_init : List (Nat × Instr × Nat) := [(0, .aload_n 0, 1), (1, .invokespecial 3, 3), (4, .aload_n 0, 1), (5, .sipush 1616, 3), (8, .newarray .int, 2), (10, .putfield 9, 3), (13, .aload_n 0, 1), (14, .iconst 0, 1), (15, .putfield 15, 3), (18, .aload_n 0, 1), (19, .iconst 3, 1), (20, .newarray .int, 2), (22, .dup, 1), (23, .iconst 0, 1), (24, .iconst (-1), 1), (25, .iastore, 1), (26, .dup, 1), (27, .iconst 1, 1), (28, .iconst (-1), 1), (29, .iastore, 1), (30, .dup, 1), (31, .iconst 2, 1), (32, .iconst (-1), 1), (33, .iastore, 1), (34, .putfield 19, 3), (37, .aload_n 0, 1), (38, .iconst 3, 1), (39, .newarray .int, 2), (41, .dup, 1), (42, .iconst 0, 1), (43, .iconst (-1), 1), (44, .iastore, 1), (45, .dup, 1), (46, .iconst 1, 1), (47, .iconst (-1), 1), (48, .iastore, 1), (49, .dup, 1), (50, .iconst 2, 1), (51, .iconst (-1), 1), (52, .iastore, 1), (53, .putfield 22, 3), (56, .aload_n 0, 1), (57, .bipush 64, 2), (59, .newarray .int, 2), (61, .putfield 25, 3), (64, .return_, 1)]
set_option maxRecDepth 100000 in
theorem tkX3_init : ∀ q ∈ tX3_init, decode cX3_init q.1 = .ok q.2 := by decide +kernel
theorem vmX3_init : zIM yX3_init cX3_init 1 0 := ⟨kX3_init, q_212, q_152, rfl, by decide +kernel, by decide⟩
set_option maxHeartbeats 2000000 in
set_option maxRecDepth 20000 in
theorem coX3_init (l : Launch) (e : Nat) (he : 0 ≤ e) (v0 : Nat) : zCo l (e + 1) 4 1686 iX3_init 0 [(0, .ref v0)] [] (X3_init v0) := by
  unfold X3_init
  refine zco_p tkX3_init 0 1 (pc' := 1) (L' := [(0, .ref v0)]) (S' := [.ref v0]) rfl ?_
  refine zco_obj (by omega) q_214 q_176 q_objc (Nat.le_of_ble_eq_true rfl) (zdk (cc := cX3_init) (q := (1, .invokespecial 3, 3)) tkX3_init 1 rfl) ?_
  refine zco_p tkX3_init 2 2 (pc' := 8) (L' := [(0, .ref v0)]) (S' := [.int 1616, .ref v0]) rfl ?_
  refine zco_newa_int (N := 1616) q_202 (by decide) (by decide +kernel) (by decide) (zdk (cc := cX3_init) (q := (8, .newarray .int, 2)) tkX3_init 4 rfl) (fun a1 => ?_)
  refine zco_prF fl_3_9 (Or.inr ⟨_, rfl⟩) rfl rfl (by decide +kernel) (zdk (cc := cX3_init) (q := (10, .putfield 9, 3)) tkX3_init 5 rfl) ?_
  refine zco_p tkX3_init 6 2 (pc' := 15) (L' := [(0, .ref v0)]) (S' := [.int 0, .ref v0]) rfl ?_
  refine zco_pi fl_3_15 rfl rfl (zdk (cc := cX3_init) (q := (15, .putfield 15, 3)) tkX3_init 8 rfl) ?_
  refine zco_p tkX3_init 9 2 (pc' := 20) (L' := [(0, .ref v0)]) (S' := [.int 3, .ref v0]) rfl ?_
  refine zco_newa_int (N := 3) q_202 (by decide) (by decide +kernel) (by decide) (zdk (cc := cX3_init) (q := (20, .newarray .int, 2)) tkX3_init 11 rfl) (fun a2 => ?_)
  refine zco_p tkX3_init 12 3 (pc' := 25) (L' := [(0, .ref v0)]) (S' := [.int ((-1)), .int 0, .ref a2, .ref a2, .ref v0]) rfl ?_
  refine zco_iastore (zdk (cc := cX3_init) (q := (25, .iastore, 1)) tkX3_init 15 rfl) ?_
  refine zco_p tkX3_init 16 3 (pc' := 29) (L' := [(0, .ref v0)]) (S' := [.int ((-1)), .int 1, .ref a2, .ref a2, .ref v0]) rfl ?_
  refine zco_iastore (zdk (cc := cX3_init) (q := (29, .iastore, 1)) tkX3_init 19 rfl) ?_
  refine zco_p tkX3_init 20 3 (pc' := 33) (L' := [(0, .ref v0)]) (S' := [.int ((-1)), .int 2, .ref a2, .ref a2, .ref v0]) rfl ?_
  refine zco_iastore (zdk (cc := cX3_init) (q := (33, .iastore, 1)) tkX3_init 23 rfl) ?_
  refine zco_prF fl_3_19 (Or.inr ⟨_, rfl⟩) rfl rfl (by decide +kernel) (zdk (cc := cX3_init) (q := (34, .putfield 19, 3)) tkX3_init 24 rfl) ?_
  refine zco_p tkX3_init 25 2 (pc' := 39) (L' := [(0, .ref v0)]) (S' := [.int 3, .ref v0]) rfl ?_
  refine zco_newa_int (N := 3) q_202 (by decide) (by decide +kernel) (by decide) (zdk (cc := cX3_init) (q := (39, .newarray .int, 2)) tkX3_init 27 rfl) (fun a3 => ?_)
  refine zco_p tkX3_init 28 3 (pc' := 44) (L' := [(0, .ref v0)]) (S' := [.int ((-1)), .int 0, .ref a3, .ref a3, .ref v0]) rfl ?_
  refine zco_iastore (zdk (cc := cX3_init) (q := (44, .iastore, 1)) tkX3_init 31 rfl) ?_
  refine zco_p tkX3_init 32 3 (pc' := 48) (L' := [(0, .ref v0)]) (S' := [.int ((-1)), .int 1, .ref a3, .ref a3, .ref v0]) rfl ?_
  refine zco_iastore (zdk (cc := cX3_init) (q := (48, .iastore, 1)) tkX3_init 35 rfl) ?_
  refine zco_p tkX3_init 36 3 (pc' := 52) (L' := [(0, .ref v0)]) (S' := [.int ((-1)), .int 2, .ref a3, .ref a3, .ref v0]) rfl ?_
  refine zco_iastore (zdk (cc := cX3_init) (q := (52, .iastore, 1)) tkX3_init 39 rfl) ?_
  refine zco_prF fl_3_22 (Or.inr ⟨_, rfl⟩) rfl rfl (by decide +kernel) (zdk (cc := cX3_init) (q := (53, .putfield 22, 3)) tkX3_init 40 rfl) ?_
  refine zco_p tkX3_init 41 2 (pc' := 59) (L' := [(0, .ref v0)]) (S' := [.int 64, .ref v0]) rfl ?_
  refine zco_newa_int (N := 64) q_202 (by decide) (by decide +kernel) (by decide) (zdk (cc := cX3_init) (q := (59, .newarray .int, 2)) tkX3_init 43 rfl) (fun a4 => ?_)
  refine zco_prF fl_3_25 (Or.inr ⟨_, rfl⟩) rfl rfl (by decide +kernel) (zdk (cc := cX3_init) (q := (61, .putfield 25, 3)) tkX3_init 44 rfl) ?_
  exact zco_vret rfl rfl rfl (zdk (cc := cX3_init) (q := (64, .return_, 1)) tkX3_init 45 rfl)
theorem mtX3_init (l : Launch) (d : Nat) (hd : 1 ≤ d) (v0 : Nat) : zMet l d 4 1686 yX3_init cX3_init 1 (Option.none : Option FieldType) [.ref v0] (X3_init v0) := by
  obtain ⟨e, rfl⟩ : ∃ e, d = e + 1 := ⟨d - 1, by omega⟩
  exact zmet_of (own := RX3) (ini := true) (by decide +kernel) rfl (fun _ => rfl) (Nat.le_of_ble_eq_true rfl) (coX3_init l e (by omega) v0)
abbrev iX4_init : zI := (RX4, cX4_init, 3, (Option.none : Option FieldType), true)
def tX4_init : List (Nat × Instr × Nat) := [(0, .aload_n 0, 1), (1, .invokespecial 3, 3), (4, .aload_n 0, 1), (5, .ldc 9, 2), (7, .putfield 11, 3), (10, .aload_n 0, 1), (11, .iconst 0, 1), (12, .putfield 17, 3), (15, .aload_n 0, 1), (16, .iconst 0, 1), (17, .putfield 21, 3), (20, .aload_n 0, 1), (21, .aload_n 1, 1), (22, .putfield 25, 3), (25, .aload_n 0, 1), (26, .aload_n 2, 1), (27, .putfield 29, 3), (30, .return_, 1)]
set_option maxRecDepth 100000 in
theorem tkX4_init : ∀ q ∈ tX4_init, decode cX4_init q.1 = .ok q.2 := by decide +kernel
theorem vmX4_init : zIM yX4_init cX4_init 3 2 := ⟨kX4_init, q_234, q_153, rfl, by decide +kernel, by decide⟩
set_option maxHeartbeats 2000000 in
set_option maxRecDepth 20000 in
theorem coX4_init (l : Launch) (e : Nat) (he : 0 ≤ e) (v0 : Nat) (v1 : Nat) (v2 : Nat) : zCo l (e + 1) 0 0 iX4_init 0 [(0, .ref v0), (1, .ref v1), (2, .ref v2)] [] (X4_init v0 v1 v2) := by
  unfold X4_init
  refine zco_p tkX4_init 0 1 (pc' := 1) (L' := [(0, .ref v0), (1, .ref v1), (2, .ref v2)]) (S' := [.ref v0]) rfl ?_
  refine zco_obj (by omega) q_236 q_176 q_objc (Nat.le_of_ble_eq_true rfl) (zdk (cc := cX4_init) (q := (1, .invokespecial 3, 3)) tkX4_init 1 rfl) ?_
  refine zco_p tkX4_init 2 1 (pc' := 5) (L' := [(0, .ref v0), (1, .ref v1), (2, .ref v2)]) (S' := [.ref v0]) rfl ?_
  refine zco_ldcS (i := 0) rfl (zdk (cc := cX4_init) (q := (5, .ldc 9, 2)) tkX4_init 3 rfl) ?_
  refine zco_pr fl_4_11 (Or.inl ⟨_, rfl⟩) rfl (zdk (cc := cX4_init) (q := (7, .putfield 11, 3)) tkX4_init 4 rfl) ?_
  refine zco_p tkX4_init 5 2 (pc' := 12) (L' := [(0, .ref v0), (1, .ref v1), (2, .ref v2)]) (S' := [.int 0, .ref v0]) rfl ?_
  refine zco_pi fl_4_17 rfl rfl (zdk (cc := cX4_init) (q := (12, .putfield 17, 3)) tkX4_init 7 rfl) ?_
  refine zco_p tkX4_init 8 2 (pc' := 17) (L' := [(0, .ref v0), (1, .ref v1), (2, .ref v2)]) (S' := [.int 0, .ref v0]) rfl ?_
  refine zco_pb fl_4_21 rfl rfl (zdk (cc := cX4_init) (q := (17, .putfield 21, 3)) tkX4_init 10 rfl) ?_
  refine zco_p tkX4_init 11 2 (pc' := 22) (L' := [(0, .ref v0), (1, .ref v1), (2, .ref v2)]) (S' := [.ref v1, .ref v0]) rfl ?_
  refine zco_prF fl_4_25 (Or.inl ⟨_, rfl⟩) rfl rfl (by decide +kernel) (zdk (cc := cX4_init) (q := (22, .putfield 25, 3)) tkX4_init 13 rfl) ?_
  refine zco_p tkX4_init 14 2 (pc' := 27) (L' := [(0, .ref v0), (1, .ref v1), (2, .ref v2)]) (S' := [.ref v2, .ref v0]) rfl ?_
  refine zco_pr fl_4_29 (Or.inl ⟨_, rfl⟩) rfl (zdk (cc := cX4_init) (q := (27, .putfield 29, 3)) tkX4_init 16 rfl) ?_
  exact zco_vret rfl rfl rfl (zdk (cc := cX4_init) (q := (30, .return_, 1)) tkX4_init 17 rfl)
theorem mtX4_init (l : Launch) (d : Nat) (hd : 1 ≤ d) (v0 : Nat) (v1 : Nat) (v2 : Nat) : zMet l d 0 0 yX4_init cX4_init 3 (Option.none : Option FieldType) [.ref v0, .ref v1, .ref v2] (X4_init v0 v1 v2) := by
  obtain ⟨e, rfl⟩ : ∃ e, d = e + 1 := ⟨d - 1, by omega⟩
  exact zmet_of (own := RX4) (ini := true) (by decide +kernel) rfl (fun _ => rfl) (Nat.le_of_ble_eq_true rfl) (coX4_init l e (by omega) v0 v1 v2)
abbrev iX7_init : zI := (RX7, cX7_init, 2, (Option.none : Option FieldType), true)
def tX7_init : List (Nat × Instr × Nat) := [(0, .aload_n 0, 1), (1, .invokespecial 3, 3), (4, .aload_n 0, 1), (5, .new 9, 3), (8, .dup, 1), (9, .invokespecial 11, 3), (12, .putfield 12, 3), (15, .aload_n 0, 1), (16, .bipush 33, 2), (18, .newarray .int, 2), (20, .putfield 18, 3), (23, .aload_n 0, 1), (24, .iconst (-1), 1), (25, .putfield 22, 3), (28, .aload_n 0, 1), (29, .aload_n 1, 1), (30, .putfield 26, 3), (33, .aload_n 0, 1), (34, .new 30, 3), (37, .dup, 1), (38, .aload_n 1, 1), (39, .aload_n 0, 1), (40, .getfield 12, 3), (43, .invokespecial 32, 3), (46, .putfield 35, 3), (49, .return_, 1)]
set_option maxRecDepth 100000 in
theorem tkX7_init : ∀ q ∈ tX7_init, decode cX7_init q.1 = .ok q.2 := by decide +kernel
theorem vmX7_init : zIM yX7_init cX7_init 2 1 := ⟨kX7_init, q_206, q_151, rfl, by decide +kernel, by decide⟩
set_option maxHeartbeats 2000000 in
set_option maxRecDepth 20000 in
theorem coX7_init (l : Launch) (e : Nat) (he : 1 ≤ e) (v0 : Nat) (v1 : Nat) : zCo l (e + 1) 7 1729 iX7_init 0 [(0, .ref v0), (1, .ref v1)] [] (X7_init v0 v1) := by
  unfold X7_init
  refine zco_p tkX7_init 0 1 (pc' := 1) (L' := [(0, .ref v0), (1, .ref v1)]) (S' := [.ref v0]) rfl ?_
  refine zco_obj (by omega) q_208 q_176 q_objc (Nat.le_of_ble_eq_true rfl) (zdk (cc := cX7_init) (q := (1, .invokespecial 3, 3)) tkX7_init 1 rfl) ?_
  refine zco_p tkX7_init 2 1 (pc' := 5) (L' := [(0, .ref v0), (1, .ref v1)]) (S' := [.ref v0]) rfl ?_
  refine zco_new (c := 3) rfl rfl dfX3 q_209 q_210 q_152 (zdk (cc := cX7_init) (q := (5, .new 9, 3)) tkX7_init 3 rfl) (fun a1 => ?_)
  refine zco_p tkX7_init 4 1 (pc' := 9) (L' := [(0, .ref v0), (1, .ref v1)]) (S' := [.ref a1, .ref a1, .ref v0]) rfl ?_
  refine zco_J (rc := 2) (rs := 38) (mc := 4) (ms := 1686) (As := []) (S := [.ref a1, .ref v0]) vmX3_init (mtX3_init l e (by omega) a1) (host := "ClothWedding") (by decide +kernel) rfl rfl (Nat.le_of_ble_eq_true rfl) (zdk (cc := cX7_init) (q := (9, .invokespecial 11, 3)) tkX7_init 5 rfl) ?_
  refine zco_prF fl_7_12 (Or.inl ⟨_, rfl⟩) rfl rfl (by decide +kernel) (zdk (cc := cX7_init) (q := (12, .putfield 12, 3)) tkX7_init 6 rfl) ?_
  refine zco_p tkX7_init 7 2 (pc' := 18) (L' := [(0, .ref v0), (1, .ref v1)]) (S' := [.int 33, .ref v0]) rfl ?_
  refine zco_newa_int (N := 33) q_202 (by decide) (by decide +kernel) (by decide) (zdk (cc := cX7_init) (q := (18, .newarray .int, 2)) tkX7_init 9 rfl) (fun a2 => ?_)
  refine zco_prF fl_7_18 (Or.inr ⟨_, rfl⟩) rfl rfl (by decide +kernel) (zdk (cc := cX7_init) (q := (20, .putfield 18, 3)) tkX7_init 10 rfl) ?_
  refine zco_p tkX7_init 11 2 (pc' := 25) (L' := [(0, .ref v0), (1, .ref v1)]) (S' := [.int ((-1)), .ref v0]) rfl ?_
  refine zco_pi fl_7_22 rfl rfl (zdk (cc := cX7_init) (q := (25, .putfield 22, 3)) tkX7_init 13 rfl) ?_
  refine zco_p tkX7_init 14 2 (pc' := 30) (L' := [(0, .ref v0), (1, .ref v1)]) (S' := [.ref v1, .ref v0]) rfl ?_
  refine zco_prF fl_7_26 (Or.inl ⟨_, rfl⟩) rfl rfl (by decide +kernel) (zdk (cc := cX7_init) (q := (30, .putfield 26, 3)) tkX7_init 16 rfl) ?_
  refine zco_p tkX7_init 17 1 (pc' := 34) (L' := [(0, .ref v0), (1, .ref v1)]) (S' := [.ref v0]) rfl ?_
  refine zco_new (c := 4) rfl rfl dfX4 q_231 q_232 q_153 (zdk (cc := cX7_init) (q := (34, .new 30, 3)) tkX7_init 18 rfl) (fun a3 => ?_)
  refine zco_p tkX7_init 19 3 (pc' := 40) (L' := [(0, .ref v0), (1, .ref v1)]) (S' := [.ref v0, .ref v1, .ref a3, .ref a3, .ref v0]) rfl ?_
  refine zco_gr fl_7_12 rfl (zdk (cc := cX7_init) (q := (40, .getfield 12, 3)) tkX7_init 22 rfl) (fun x4 => ?_)
  refine zco_I (rc := 0) (rs := 0) (mc := 0) (ms := 0) (As := [.ref v1, .ref x4]) (S := [.ref a3, .ref v0]) vmX4_init (mtX4_init l e (by omega) a3 v1 x4) q_233 rfl rfl (Nat.le_of_ble_eq_true rfl) (zdk (cc := cX7_init) (q := (43, .invokespecial 32, 3)) tkX7_init 23 rfl) ?_
  refine zco_prF fl_7_35 (Or.inl ⟨_, rfl⟩) rfl rfl (by decide +kernel) (zdk (cc := cX7_init) (q := (46, .putfield 35, 3)) tkX7_init 24 rfl) ?_
  exact zco_vret rfl rfl rfl (zdk (cc := cX7_init) (q := (49, .return_, 1)) tkX7_init 25 rfl)
theorem mtX7_init (l : Launch) (d : Nat) (hd : 2 ≤ d) (v0 : Nat) (v1 : Nat) : zMet l d 7 1729 yX7_init cX7_init 2 (Option.none : Option FieldType) [.ref v0, .ref v1] (X7_init v0 v1) := by
  obtain ⟨e, rfl⟩ : ∃ e, d = e + 1 := ⟨d - 1, by omega⟩
  exact zmet_of (own := RX7) (ini := true) (by decide +kernel) rfl (fun _ => rfl) (Nat.le_of_ble_eq_true rfl) (coX7_init l e (by omega) v0 v1)
abbrev iX2_init : zI := (RX2, cX2_init, 3, (Option.none : Option FieldType), true)
def tX2_init : List (Nat × Instr × Nat) := [(0, .aload_n 0, 1), (1, .invokespecial 3, 3), (4, .aload_n 0, 1), (5, .bipush 6, 2), (7, .newarray .int, 2), (9, .putfield 9, 3), (12, .aload_n 0, 1), (13, .aload_n 1, 1), (14, .putfield 15, 3), (17, .aload_n 0, 1), (18, .aload_n 2, 1), (19, .putfield 19, 3), (22, .return_, 1)]
set_option maxRecDepth 100000 in
theorem tkX2_init : ∀ q ∈ tX2_init, decode cX2_init q.1 = .ok q.2 := by decide +kernel
theorem vmX2_init : zIM yX2_init cX2_init 3 2 := ⟨kX2_init, q_275, q_154, rfl, by decide +kernel, by decide⟩
set_option maxHeartbeats 2000000 in
set_option maxRecDepth 20000 in
theorem coX2_init (l : Launch) (e : Nat) (he : 0 ≤ e) (v0 : Nat) (v1 : Nat) (v2 : Nat) : zCo l (e + 1) 1 6 iX2_init 0 [(0, .ref v0), (1, .ref v1), (2, .ref v2)] [] (X2_init v0 v1 v2) := by
  unfold X2_init
  refine zco_p tkX2_init 0 1 (pc' := 1) (L' := [(0, .ref v0), (1, .ref v1), (2, .ref v2)]) (S' := [.ref v0]) rfl ?_
  refine zco_obj (by omega) q_277 q_176 q_objc (Nat.le_of_ble_eq_true rfl) (zdk (cc := cX2_init) (q := (1, .invokespecial 3, 3)) tkX2_init 1 rfl) ?_
  refine zco_p tkX2_init 2 2 (pc' := 7) (L' := [(0, .ref v0), (1, .ref v1), (2, .ref v2)]) (S' := [.int 6, .ref v0]) rfl ?_
  refine zco_newa_int (N := 6) q_202 (by decide) (by decide +kernel) (by decide) (zdk (cc := cX2_init) (q := (7, .newarray .int, 2)) tkX2_init 4 rfl) (fun a1 => ?_)
  refine zco_prF fl_2_9 (Or.inr ⟨_, rfl⟩) rfl rfl (by decide +kernel) (zdk (cc := cX2_init) (q := (9, .putfield 9, 3)) tkX2_init 5 rfl) ?_
  refine zco_p tkX2_init 6 2 (pc' := 14) (L' := [(0, .ref v0), (1, .ref v1), (2, .ref v2)]) (S' := [.ref v1, .ref v0]) rfl ?_
  refine zco_prF fl_2_15 (Or.inl ⟨_, rfl⟩) rfl rfl (by decide +kernel) (zdk (cc := cX2_init) (q := (14, .putfield 15, 3)) tkX2_init 8 rfl) ?_
  refine zco_p tkX2_init 9 2 (pc' := 19) (L' := [(0, .ref v0), (1, .ref v1), (2, .ref v2)]) (S' := [.ref v2, .ref v0]) rfl ?_
  refine zco_prF fl_2_19 (Or.inl ⟨_, rfl⟩) rfl rfl (by decide +kernel) (zdk (cc := cX2_init) (q := (19, .putfield 19, 3)) tkX2_init 11 rfl) ?_
  exact zco_vret rfl rfl rfl (zdk (cc := cX2_init) (q := (22, .return_, 1)) tkX2_init 12 rfl)
theorem mtX2_init (l : Launch) (d : Nat) (hd : 1 ≤ d) (v0 : Nat) (v1 : Nat) (v2 : Nat) : zMet l d 1 6 yX2_init cX2_init 3 (Option.none : Option FieldType) [.ref v0, .ref v1, .ref v2] (X2_init v0 v1 v2) := by
  obtain ⟨e, rfl⟩ : ∃ e, d = e + 1 := ⟨d - 1, by omega⟩
  exact zmet_of (own := RX2) (ini := true) (by decide +kernel) rfl (fun _ => rfl) (Nat.le_of_ble_eq_true rfl) (coX2_init l e (by omega) v0 v1 v2)
abbrev iX1_init : zI := (RX1, cX1_init, 1, (Option.none : Option FieldType), true)
def tX1_init : List (Nat × Instr × Nat) := [(0, .aload_n 0, 1), (1, .invokespecial 3, 3), (4, .aload_n 0, 1), (5, .iconst 2, 1), (6, .newarray .int, 2), (8, .putfield 9, 3), (11, .aload_n 0, 1), (12, .bipush 72, 2), (14, .newarray .int, 2), (16, .putfield 15, 3), (19, .aload_n 0, 1), (20, .bipush 12, 2), (22, .newarray .int, 2), (24, .putfield 18, 3), (27, .aload_n 0, 1), (28, .bipush 12, 2), (30, .newarray .int, 2), (32, .putfield 21, 3), (35, .aload_n 0, 1), (36, .bipush 12, 2), (38, .newarray .int, 2), (40, .putfield 24, 3), (43, .aload_n 0, 1), (44, .bipush 72, 2), (46, .newarray .boolean, 2), (48, .putfield 27, 3), (51, .aload_n 0, 1), (52, .iconst 0, 1), (53, .putfield 31, 3), (56, .aload_n 0, 1), (57, .bipush 72, 2), (59, .newarray .int, 2), (61, .putfield 35, 3), (64, .aload_n 0, 1), (65, .bipush 72, 2), (67, .newarray .int, 2), (69, .putfield 38, 3), (72, .aload_n 0, 1), (73, .iconst 3, 1), (74, .putfield 41, 3), (77, .aload_n 0, 1), (78, .iconst 0, 1), (79, .putfield 44, 3), (82, .aload_n 0, 1), (83, .new 47, 3), (86, .dup, 1), (87, .invokespecial 49, 3), (90, .putfield 50, 3), (93, .return_, 1)]
set_option maxRecDepth 100000 in
theorem tkX1_init : ∀ q ∈ tX1_init, decode cX1_init q.1 = .ok q.2 := by decide +kernel
theorem vmX1_init : zIM yX1_init cX1_init 1 0 := ⟨kX1_init, q_291, q_155, rfl, by decide +kernel, by decide⟩
set_option maxHeartbeats 2000000 in
set_option maxRecDepth 20000 in
theorem coX1_init (l : Launch) (e : Nat) (he : 1 ≤ e) (v0 : Nat) : zCo l (e + 1) 13 2017 iX1_init 0 [(0, .ref v0)] [] (X1_init v0) := by
  unfold X1_init
  refine zco_p tkX1_init 0 1 (pc' := 1) (L' := [(0, .ref v0)]) (S' := [.ref v0]) rfl ?_
  refine zco_obj (by omega) q_293 q_176 q_objc (Nat.le_of_ble_eq_true rfl) (zdk (cc := cX1_init) (q := (1, .invokespecial 3, 3)) tkX1_init 1 rfl) ?_
  refine zco_p tkX1_init 2 2 (pc' := 6) (L' := [(0, .ref v0)]) (S' := [.int 2, .ref v0]) rfl ?_
  refine zco_newa_int (N := 2) q_202 (by decide) (by decide +kernel) (by decide) (zdk (cc := cX1_init) (q := (6, .newarray .int, 2)) tkX1_init 4 rfl) (fun a1 => ?_)
  refine zco_prF fl_1_9 (Or.inr ⟨_, rfl⟩) rfl rfl (by decide +kernel) (zdk (cc := cX1_init) (q := (8, .putfield 9, 3)) tkX1_init 5 rfl) ?_
  refine zco_p tkX1_init 6 2 (pc' := 14) (L' := [(0, .ref v0)]) (S' := [.int 72, .ref v0]) rfl ?_
  refine zco_newa_int (N := 72) q_202 (by decide) (by decide +kernel) (by decide) (zdk (cc := cX1_init) (q := (14, .newarray .int, 2)) tkX1_init 8 rfl) (fun a2 => ?_)
  refine zco_prF fl_1_15 (Or.inr ⟨_, rfl⟩) rfl rfl (by decide +kernel) (zdk (cc := cX1_init) (q := (16, .putfield 15, 3)) tkX1_init 9 rfl) ?_
  refine zco_p tkX1_init 10 2 (pc' := 22) (L' := [(0, .ref v0)]) (S' := [.int 12, .ref v0]) rfl ?_
  refine zco_newa_int (N := 12) q_202 (by decide) (by decide +kernel) (by decide) (zdk (cc := cX1_init) (q := (22, .newarray .int, 2)) tkX1_init 12 rfl) (fun a3 => ?_)
  refine zco_prF fl_1_18 (Or.inr ⟨_, rfl⟩) rfl rfl (by decide +kernel) (zdk (cc := cX1_init) (q := (24, .putfield 18, 3)) tkX1_init 13 rfl) ?_
  refine zco_p tkX1_init 14 2 (pc' := 30) (L' := [(0, .ref v0)]) (S' := [.int 12, .ref v0]) rfl ?_
  refine zco_newa_int (N := 12) q_202 (by decide) (by decide +kernel) (by decide) (zdk (cc := cX1_init) (q := (30, .newarray .int, 2)) tkX1_init 16 rfl) (fun a4 => ?_)
  refine zco_prF fl_1_21 (Or.inr ⟨_, rfl⟩) rfl rfl (by decide +kernel) (zdk (cc := cX1_init) (q := (32, .putfield 21, 3)) tkX1_init 17 rfl) ?_
  refine zco_p tkX1_init 18 2 (pc' := 38) (L' := [(0, .ref v0)]) (S' := [.int 12, .ref v0]) rfl ?_
  refine zco_newa_int (N := 12) q_202 (by decide) (by decide +kernel) (by decide) (zdk (cc := cX1_init) (q := (38, .newarray .int, 2)) tkX1_init 20 rfl) (fun a5 => ?_)
  refine zco_prF fl_1_24 (Or.inr ⟨_, rfl⟩) rfl rfl (by decide +kernel) (zdk (cc := cX1_init) (q := (40, .putfield 24, 3)) tkX1_init 21 rfl) ?_
  refine zco_p tkX1_init 22 2 (pc' := 46) (L' := [(0, .ref v0)]) (S' := [.int 72, .ref v0]) rfl ?_
  refine zco_newa_bool (N := 72) q_370 (by decide) (by decide +kernel) (by decide) (zdk (cc := cX1_init) (q := (46, .newarray .boolean, 2)) tkX1_init 24 rfl) (fun a6 => ?_)
  refine zco_prF fl_1_27 (Or.inr ⟨_, rfl⟩) rfl rfl (by decide +kernel) (zdk (cc := cX1_init) (q := (48, .putfield 27, 3)) tkX1_init 25 rfl) ?_
  refine zco_p tkX1_init 26 2 (pc' := 53) (L' := [(0, .ref v0)]) (S' := [.int 0, .ref v0]) rfl ?_
  refine zco_pi fl_1_31 rfl rfl (zdk (cc := cX1_init) (q := (53, .putfield 31, 3)) tkX1_init 28 rfl) ?_
  refine zco_p tkX1_init 29 2 (pc' := 59) (L' := [(0, .ref v0)]) (S' := [.int 72, .ref v0]) rfl ?_
  refine zco_newa_int (N := 72) q_202 (by decide) (by decide +kernel) (by decide) (zdk (cc := cX1_init) (q := (59, .newarray .int, 2)) tkX1_init 31 rfl) (fun a7 => ?_)
  refine zco_prF fl_1_35 (Or.inr ⟨_, rfl⟩) rfl rfl (by decide +kernel) (zdk (cc := cX1_init) (q := (61, .putfield 35, 3)) tkX1_init 32 rfl) ?_
  refine zco_p tkX1_init 33 2 (pc' := 67) (L' := [(0, .ref v0)]) (S' := [.int 72, .ref v0]) rfl ?_
  refine zco_newa_int (N := 72) q_202 (by decide) (by decide +kernel) (by decide) (zdk (cc := cX1_init) (q := (67, .newarray .int, 2)) tkX1_init 35 rfl) (fun a8 => ?_)
  refine zco_prF fl_1_38 (Or.inr ⟨_, rfl⟩) rfl rfl (by decide +kernel) (zdk (cc := cX1_init) (q := (69, .putfield 38, 3)) tkX1_init 36 rfl) ?_
  refine zco_p tkX1_init 37 2 (pc' := 74) (L' := [(0, .ref v0)]) (S' := [.int 3, .ref v0]) rfl ?_
  refine zco_pi fl_1_41 rfl rfl (zdk (cc := cX1_init) (q := (74, .putfield 41, 3)) tkX1_init 39 rfl) ?_
  refine zco_p tkX1_init 40 2 (pc' := 79) (L' := [(0, .ref v0)]) (S' := [.int 0, .ref v0]) rfl ?_
  refine zco_pi fl_1_44 rfl rfl (zdk (cc := cX1_init) (q := (79, .putfield 44, 3)) tkX1_init 42 rfl) ?_
  refine zco_p tkX1_init 43 1 (pc' := 83) (L' := [(0, .ref v0)]) (S' := [.ref v0]) rfl ?_
  refine zco_new (c := 3) rfl rfl dfX3 q_294 q_210 q_152 (zdk (cc := cX1_init) (q := (83, .new 47, 3)) tkX1_init 44 rfl) (fun a9 => ?_)
  refine zco_p tkX1_init 45 1 (pc' := 87) (L' := [(0, .ref v0)]) (S' := [.ref a9, .ref a9, .ref v0]) rfl ?_
  refine zco_J (rc := 0) (rs := 0) (mc := 4) (ms := 1686) (As := []) (S := [.ref a9, .ref v0]) vmX3_init (mtX3_init l e (by omega) a9) (host := "ClothWedding") (by decide +kernel) rfl rfl (Nat.le_of_ble_eq_true rfl) (zdk (cc := cX1_init) (q := (87, .invokespecial 49, 3)) tkX1_init 46 rfl) ?_
  refine zco_prF fl_1_50 (Or.inl ⟨_, rfl⟩) rfl rfl (by decide +kernel) (zdk (cc := cX1_init) (q := (90, .putfield 50, 3)) tkX1_init 47 rfl) ?_
  exact zco_vret rfl rfl rfl (zdk (cc := cX1_init) (q := (93, .return_, 1)) tkX1_init 48 rfl)
theorem mtX1_init (l : Launch) (d : Nat) (hd : 2 ≤ d) (v0 : Nat) : zMet l d 13 2017 yX1_init cX1_init 1 (Option.none : Option FieldType) [.ref v0] (X1_init v0) := by
  obtain ⟨e, rfl⟩ : ∃ e, d = e + 1 := ⟨d - 1, by omega⟩
  exact zmet_of (own := RX1) (ini := true) (by decide +kernel) rfl (fun _ => rfl) (Nat.le_of_ble_eq_true rfl) (coX1_init l e (by omega) v0)
abbrev iX8_init : zI := (RX8, cX8_init, 1, (Option.none : Option FieldType), true)
def tX8_init : List (Nat × Instr × Nat) := [(0, .aload_n 0, 1), (1, .invokespecial 3, 3), (4, .aload_n 0, 1), (5, .iconst 0, 1), (6, .putfield 9, 3), (9, .aload_n 0, 1), (10, .iconst 0, 1), (11, .putfield 15, 3), (14, .aload_n 0, 1), (15, .bipush 12, 2), (17, .newarray .int, 2), (19, .putfield 18, 3), (22, .aload_n 0, 1), (23, .bipush 12, 2), (25, .newarray .int, 2), (27, .putfield 22, 3), (30, .aload_n 0, 1), (31, .bipush 12, 2), (33, .newarray .int, 2), (35, .putfield 25, 3), (38, .aload_n 0, 1), (39, .bipush 12, 2), (41, .newarray .int, 2), (43, .putfield 28, 3), (46, .aload_n 0, 1), (47, .bipush 72, 2), (49, .newarray .int, 2), (51, .putfield 31, 3), (54, .aload_n 0, 1), (55, .bipush 72, 2), (57, .newarray .int, 2), (59, .putfield 34, 3), (62, .return_, 1)]
set_option maxRecDepth 100000 in
theorem tkX8_init : ∀ q ∈ tX8_init, decode cX8_init q.1 = .ok q.2 := by decide +kernel
theorem vmX8_init : zIM yX8_init cX8_init 1 0 := ⟨kX8_init, q_374, q_156, rfl, by decide +kernel, by decide⟩
set_option maxHeartbeats 2000000 in
set_option maxRecDepth 20000 in
theorem coX8_init (l : Launch) (e : Nat) (he : 0 ≤ e) (v0 : Nat) : zCo l (e + 1) 6 192 iX8_init 0 [(0, .ref v0)] [] (X8_init v0) := by
  unfold X8_init
  refine zco_p tkX8_init 0 1 (pc' := 1) (L' := [(0, .ref v0)]) (S' := [.ref v0]) rfl ?_
  refine zco_obj (by omega) q_376 q_176 q_objc (Nat.le_of_ble_eq_true rfl) (zdk (cc := cX8_init) (q := (1, .invokespecial 3, 3)) tkX8_init 1 rfl) ?_
  refine zco_p tkX8_init 2 2 (pc' := 6) (L' := [(0, .ref v0)]) (S' := [.int 0, .ref v0]) rfl ?_
  refine zco_pi fl_8_9 rfl rfl (zdk (cc := cX8_init) (q := (6, .putfield 9, 3)) tkX8_init 4 rfl) ?_
  refine zco_p tkX8_init 5 2 (pc' := 11) (L' := [(0, .ref v0)]) (S' := [.int 0, .ref v0]) rfl ?_
  refine zco_pi fl_8_15 rfl rfl (zdk (cc := cX8_init) (q := (11, .putfield 15, 3)) tkX8_init 7 rfl) ?_
  refine zco_p tkX8_init 8 2 (pc' := 17) (L' := [(0, .ref v0)]) (S' := [.int 12, .ref v0]) rfl ?_
  refine zco_newa_int (N := 12) q_202 (by decide) (by decide +kernel) (by decide) (zdk (cc := cX8_init) (q := (17, .newarray .int, 2)) tkX8_init 10 rfl) (fun a1 => ?_)
  refine zco_prF fl_8_18 (Or.inr ⟨_, rfl⟩) rfl rfl (by decide +kernel) (zdk (cc := cX8_init) (q := (19, .putfield 18, 3)) tkX8_init 11 rfl) ?_
  refine zco_p tkX8_init 12 2 (pc' := 25) (L' := [(0, .ref v0)]) (S' := [.int 12, .ref v0]) rfl ?_
  refine zco_newa_int (N := 12) q_202 (by decide) (by decide +kernel) (by decide) (zdk (cc := cX8_init) (q := (25, .newarray .int, 2)) tkX8_init 14 rfl) (fun a2 => ?_)
  refine zco_prF fl_8_22 (Or.inr ⟨_, rfl⟩) rfl rfl (by decide +kernel) (zdk (cc := cX8_init) (q := (27, .putfield 22, 3)) tkX8_init 15 rfl) ?_
  refine zco_p tkX8_init 16 2 (pc' := 33) (L' := [(0, .ref v0)]) (S' := [.int 12, .ref v0]) rfl ?_
  refine zco_newa_int (N := 12) q_202 (by decide) (by decide +kernel) (by decide) (zdk (cc := cX8_init) (q := (33, .newarray .int, 2)) tkX8_init 18 rfl) (fun a3 => ?_)
  refine zco_prF fl_8_25 (Or.inr ⟨_, rfl⟩) rfl rfl (by decide +kernel) (zdk (cc := cX8_init) (q := (35, .putfield 25, 3)) tkX8_init 19 rfl) ?_
  refine zco_p tkX8_init 20 2 (pc' := 41) (L' := [(0, .ref v0)]) (S' := [.int 12, .ref v0]) rfl ?_
  refine zco_newa_int (N := 12) q_202 (by decide) (by decide +kernel) (by decide) (zdk (cc := cX8_init) (q := (41, .newarray .int, 2)) tkX8_init 22 rfl) (fun a4 => ?_)
  refine zco_prF fl_8_28 (Or.inr ⟨_, rfl⟩) rfl rfl (by decide +kernel) (zdk (cc := cX8_init) (q := (43, .putfield 28, 3)) tkX8_init 23 rfl) ?_
  refine zco_p tkX8_init 24 2 (pc' := 49) (L' := [(0, .ref v0)]) (S' := [.int 72, .ref v0]) rfl ?_
  refine zco_newa_int (N := 72) q_202 (by decide) (by decide +kernel) (by decide) (zdk (cc := cX8_init) (q := (49, .newarray .int, 2)) tkX8_init 26 rfl) (fun a5 => ?_)
  refine zco_prF fl_8_31 (Or.inr ⟨_, rfl⟩) rfl rfl (by decide +kernel) (zdk (cc := cX8_init) (q := (51, .putfield 31, 3)) tkX8_init 27 rfl) ?_
  refine zco_p tkX8_init 28 2 (pc' := 57) (L' := [(0, .ref v0)]) (S' := [.int 72, .ref v0]) rfl ?_
  refine zco_newa_int (N := 72) q_202 (by decide) (by decide +kernel) (by decide) (zdk (cc := cX8_init) (q := (57, .newarray .int, 2)) tkX8_init 30 rfl) (fun a6 => ?_)
  refine zco_prF fl_8_34 (Or.inr ⟨_, rfl⟩) rfl rfl (by decide +kernel) (zdk (cc := cX8_init) (q := (59, .putfield 34, 3)) tkX8_init 31 rfl) ?_
  exact zco_vret rfl rfl rfl (zdk (cc := cX8_init) (q := (62, .return_, 1)) tkX8_init 32 rfl)
theorem mtX8_init (l : Launch) (d : Nat) (hd : 1 ≤ d) (v0 : Nat) : zMet l d 6 192 yX8_init cX8_init 1 (Option.none : Option FieldType) [.ref v0] (X8_init v0) := by
  obtain ⟨e, rfl⟩ : ∃ e, d = e + 1 := ⟨d - 1, by omega⟩
  exact zmet_of (own := RX8) (ini := true) (by decide +kernel) rfl (fun _ => rfl) (Nat.le_of_ble_eq_true rfl) (coX8_init l e (by omega) v0)
abbrev iX10_init : zI := (RX10, cX10_init, 2, (Option.none : Option FieldType), true)
def tX10_init : List (Nat × Instr × Nat) := [(0, .aload_n 0, 1), (1, .invokespecial 3, 3), (4, .aload_n 0, 1), (5, .bipush 12, 2), (7, .newarray .int, 2), (9, .putfield 9, 3), (12, .aload_n 0, 1), (13, .bipush 6, 2), (15, .newarray .int, 2), (17, .putfield 15, 3), (20, .aload_n 0, 1), (21, .bipush 9, 2), (23, .newarray .int, 2), (25, .putfield 18, 3), (28, .aload_n 0, 1), (29, .bipush 12, 2), (31, .newarray .int, 2), (33, .putfield 21, 3), (36, .aload_n 0, 1), (37, .aload_n 1, 1), (38, .putfield 24, 3), (41, .return_, 1)]
set_option maxRecDepth 100000 in
theorem tkX10_init : ∀ q ∈ tX10_init, decode cX10_init q.1 = .ok q.2 := by decide +kernel
theorem vmX10_init : zIM yX10_init cX10_init 2 1 := ⟨kX10_init, q_432, q_157, rfl, by decide +kernel, by decide⟩
set_option maxHeartbeats 2000000 in
set_option maxRecDepth 20000 in
theorem coX10_init (l : Launch) (e : Nat) (he : 0 ≤ e) (v0 : Nat) (v1 : Nat) : zCo l (e + 1) 4 39 iX10_init 0 [(0, .ref v0), (1, .ref v1)] [] (X10_init v0 v1) := by
  unfold X10_init
  refine zco_p tkX10_init 0 1 (pc' := 1) (L' := [(0, .ref v0), (1, .ref v1)]) (S' := [.ref v0]) rfl ?_
  refine zco_obj (by omega) q_434 q_176 q_objc (Nat.le_of_ble_eq_true rfl) (zdk (cc := cX10_init) (q := (1, .invokespecial 3, 3)) tkX10_init 1 rfl) ?_
  refine zco_p tkX10_init 2 2 (pc' := 7) (L' := [(0, .ref v0), (1, .ref v1)]) (S' := [.int 12, .ref v0]) rfl ?_
  refine zco_newa_int (N := 12) q_202 (by decide) (by decide +kernel) (by decide) (zdk (cc := cX10_init) (q := (7, .newarray .int, 2)) tkX10_init 4 rfl) (fun a1 => ?_)
  refine zco_prF fl_10_9 (Or.inr ⟨_, rfl⟩) rfl rfl (by decide +kernel) (zdk (cc := cX10_init) (q := (9, .putfield 9, 3)) tkX10_init 5 rfl) ?_
  refine zco_p tkX10_init 6 2 (pc' := 15) (L' := [(0, .ref v0), (1, .ref v1)]) (S' := [.int 6, .ref v0]) rfl ?_
  refine zco_newa_int (N := 6) q_202 (by decide) (by decide +kernel) (by decide) (zdk (cc := cX10_init) (q := (15, .newarray .int, 2)) tkX10_init 8 rfl) (fun a2 => ?_)
  refine zco_prF fl_10_15 (Or.inr ⟨_, rfl⟩) rfl rfl (by decide +kernel) (zdk (cc := cX10_init) (q := (17, .putfield 15, 3)) tkX10_init 9 rfl) ?_
  refine zco_p tkX10_init 10 2 (pc' := 23) (L' := [(0, .ref v0), (1, .ref v1)]) (S' := [.int 9, .ref v0]) rfl ?_
  refine zco_newa_int (N := 9) q_202 (by decide) (by decide +kernel) (by decide) (zdk (cc := cX10_init) (q := (23, .newarray .int, 2)) tkX10_init 12 rfl) (fun a3 => ?_)
  refine zco_prF fl_10_18 (Or.inr ⟨_, rfl⟩) rfl rfl (by decide +kernel) (zdk (cc := cX10_init) (q := (25, .putfield 18, 3)) tkX10_init 13 rfl) ?_
  refine zco_p tkX10_init 14 2 (pc' := 31) (L' := [(0, .ref v0), (1, .ref v1)]) (S' := [.int 12, .ref v0]) rfl ?_
  refine zco_newa_int (N := 12) q_202 (by decide) (by decide +kernel) (by decide) (zdk (cc := cX10_init) (q := (31, .newarray .int, 2)) tkX10_init 16 rfl) (fun a4 => ?_)
  refine zco_prF fl_10_21 (Or.inr ⟨_, rfl⟩) rfl rfl (by decide +kernel) (zdk (cc := cX10_init) (q := (33, .putfield 21, 3)) tkX10_init 17 rfl) ?_
  refine zco_p tkX10_init 18 2 (pc' := 38) (L' := [(0, .ref v0), (1, .ref v1)]) (S' := [.ref v1, .ref v0]) rfl ?_
  refine zco_pr fl_10_24 (Or.inl ⟨_, rfl⟩) rfl (zdk (cc := cX10_init) (q := (38, .putfield 24, 3)) tkX10_init 20 rfl) ?_
  exact zco_vret rfl rfl rfl (zdk (cc := cX10_init) (q := (41, .return_, 1)) tkX10_init 21 rfl)
theorem mtX10_init (l : Launch) (d : Nat) (hd : 1 ≤ d) (v0 : Nat) (v1 : Nat) : zMet l d 4 39 yX10_init cX10_init 2 (Option.none : Option FieldType) [.ref v0, .ref v1] (X10_init v0 v1) := by
  obtain ⟨e, rfl⟩ : ∃ e, d = e + 1 := ⟨d - 1, by omega⟩
  exact zmet_of (own := RX10) (ini := true) (by decide +kernel) rfl (fun _ => rfl) (Nat.le_of_ble_eq_true rfl) (coX10_init l e (by omega) v0 v1)
abbrev iX0_init : zI := (RX0, cX0_init, 2, (Option.none : Option FieldType), true)
def tX0_init : List (Nat × Instr × Nat) := [(0, .aload_n 0, 1), (1, .invokespecial 3, 3), (4, .aload_n 0, 1), (5, .new 9, 3), (8, .dup, 1), (9, .invokespecial 11, 3), (12, .putfield 12, 3), (15, .aload_n 0, 1), (16, .iconst 4, 1), (17, .newarray .int, 2), (19, .putfield 18, 3), (22, .aload_n 0, 1), (23, .sipush 310, 3), (26, .newarray .int, 2), (28, .putfield 22, 3), (31, .aload_n 0, 1), (32, .aload_n 1, 1), (33, .putfield 25, 3), (36, .return_, 1)]
set_option maxRecDepth 100000 in
theorem tkX0_init : ∀ q ∈ tX0_init, decode cX0_init q.1 = .ok q.2 := by decide +kernel
theorem vmX0_init : zIM yX0_init cX0_init 2 1 := ⟨kX0_init, q_458, q_158, rfl, by decide +kernel, by decide⟩
set_option maxHeartbeats 2000000 in
set_option maxRecDepth 20000 in
theorem coX0_init (l : Launch) (e : Nat) (he : 1 ≤ e) (v0 : Nat) (v1 : Nat) : zCo l (e + 1) 9 514 iX0_init 0 [(0, .ref v0), (1, .ref v1)] [] (X0_init v0 v1) := by
  unfold X0_init
  refine zco_p tkX0_init 0 1 (pc' := 1) (L' := [(0, .ref v0), (1, .ref v1)]) (S' := [.ref v0]) rfl ?_
  refine zco_obj (by omega) q_460 q_176 q_objc (Nat.le_of_ble_eq_true rfl) (zdk (cc := cX0_init) (q := (1, .invokespecial 3, 3)) tkX0_init 1 rfl) ?_
  refine zco_p tkX0_init 2 1 (pc' := 5) (L' := [(0, .ref v0), (1, .ref v1)]) (S' := [.ref v0]) rfl ?_
  refine zco_new (c := 8) rfl rfl dfX8 q_461 q_372 q_156 (zdk (cc := cX0_init) (q := (5, .new 9, 3)) tkX0_init 3 rfl) (fun a1 => ?_)
  refine zco_p tkX0_init 4 1 (pc' := 9) (L' := [(0, .ref v0), (1, .ref v1)]) (S' := [.ref a1, .ref a1, .ref v0]) rfl ?_
  refine zco_J (rc := 2) (rs := 314) (mc := 6) (ms := 192) (As := []) (S := [.ref a1, .ref v0]) vmX8_init (mtX8_init l e (by omega) a1) (host := "ClothWedding") (by decide +kernel) rfl rfl (Nat.le_of_ble_eq_true rfl) (zdk (cc := cX0_init) (q := (9, .invokespecial 11, 3)) tkX0_init 5 rfl) ?_
  refine zco_prF fl_0_12 (Or.inl ⟨_, rfl⟩) rfl rfl (by decide +kernel) (zdk (cc := cX0_init) (q := (12, .putfield 12, 3)) tkX0_init 6 rfl) ?_
  refine zco_p tkX0_init 7 2 (pc' := 17) (L' := [(0, .ref v0), (1, .ref v1)]) (S' := [.int 4, .ref v0]) rfl ?_
  refine zco_newa_int (N := 4) q_202 (by decide) (by decide +kernel) (by decide) (zdk (cc := cX0_init) (q := (17, .newarray .int, 2)) tkX0_init 9 rfl) (fun a2 => ?_)
  refine zco_prF fl_0_18 (Or.inr ⟨_, rfl⟩) rfl rfl (by decide +kernel) (zdk (cc := cX0_init) (q := (19, .putfield 18, 3)) tkX0_init 10 rfl) ?_
  refine zco_p tkX0_init 11 2 (pc' := 26) (L' := [(0, .ref v0), (1, .ref v1)]) (S' := [.int 310, .ref v0]) rfl ?_
  refine zco_newa_int (N := 310) q_202 (by decide) (by decide +kernel) (by decide) (zdk (cc := cX0_init) (q := (26, .newarray .int, 2)) tkX0_init 13 rfl) (fun a3 => ?_)
  refine zco_prF fl_0_22 (Or.inr ⟨_, rfl⟩) rfl rfl (by decide +kernel) (zdk (cc := cX0_init) (q := (28, .putfield 22, 3)) tkX0_init 14 rfl) ?_
  refine zco_p tkX0_init 15 2 (pc' := 33) (L' := [(0, .ref v0), (1, .ref v1)]) (S' := [.ref v1, .ref v0]) rfl ?_
  refine zco_prF fl_0_25 (Or.inl ⟨_, rfl⟩) rfl rfl (by decide +kernel) (zdk (cc := cX0_init) (q := (33, .putfield 25, 3)) tkX0_init 17 rfl) ?_
  exact zco_vret rfl rfl rfl (zdk (cc := cX0_init) (q := (36, .return_, 1)) tkX0_init 18 rfl)
theorem mtX0_init (l : Launch) (d : Nat) (hd : 2 ≤ d) (v0 : Nat) (v1 : Nat) : zMet l d 9 514 yX0_init cX0_init 2 (Option.none : Option FieldType) [.ref v0, .ref v1] (X0_init v0 v1) := by
  obtain ⟨e, rfl⟩ : ∃ e, d = e + 1 := ⟨d - 1, by omega⟩
  exact zmet_of (own := RX0) (ini := true) (by decide +kernel) rfl (fun _ => rfl) (Nat.le_of_ble_eq_true rfl) (coX0_init l e (by omega) v0 v1)
abbrev iX5_init : zI := (RX5, cX5_init, 1, (Option.none : Option FieldType), true)
def tX5_init : List (Nat × Instr × Nat) := [(0, .aload_n 0, 1), (1, .invokespecial 3, 3), (4, .aload_n 0, 1), (5, .bipush 12, 2), (7, .newarray .int, 2), (9, .putfield 9, 3), (12, .aload_n 0, 1), (13, .bipush 72, 2), (15, .newarray .int, 2), (17, .putfield 15, 3), (20, .aload_n 0, 1), (21, .sipush 448, 3), (24, .newarray .int, 2), (26, .putfield 18, 3), (29, .aload_n 0, 1), (30, .bipush 6, 2), (32, .newarray .int, 2), (34, .putfield 21, 3), (37, .return_, 1)]
set_option maxRecDepth 100000 in
theorem tkX5_init : ∀ q ∈ tX5_init, decode cX5_init q.1 = .ok q.2 := by decide +kernel
theorem vmX5_init : zIM yX5_init cX5_init 1 0 := ⟨kX5_init, q_481, q_159, rfl, by decide +kernel, by decide⟩
set_option maxHeartbeats 2000000 in
set_option maxRecDepth 20000 in
theorem coX5_init (l : Launch) (e : Nat) (he : 0 ≤ e) (v0 : Nat) : zCo l (e + 1) 4 538 iX5_init 0 [(0, .ref v0)] [] (X5_init v0) := by
  unfold X5_init
  refine zco_p tkX5_init 0 1 (pc' := 1) (L' := [(0, .ref v0)]) (S' := [.ref v0]) rfl ?_
  refine zco_obj (by omega) q_483 q_176 q_objc (Nat.le_of_ble_eq_true rfl) (zdk (cc := cX5_init) (q := (1, .invokespecial 3, 3)) tkX5_init 1 rfl) ?_
  refine zco_p tkX5_init 2 2 (pc' := 7) (L' := [(0, .ref v0)]) (S' := [.int 12, .ref v0]) rfl ?_
  refine zco_newa_int (N := 12) q_202 (by decide) (by decide +kernel) (by decide) (zdk (cc := cX5_init) (q := (7, .newarray .int, 2)) tkX5_init 4 rfl) (fun a1 => ?_)
  refine zco_prF fl_5_9 (Or.inr ⟨_, rfl⟩) rfl rfl (by decide +kernel) (zdk (cc := cX5_init) (q := (9, .putfield 9, 3)) tkX5_init 5 rfl) ?_
  refine zco_p tkX5_init 6 2 (pc' := 15) (L' := [(0, .ref v0)]) (S' := [.int 72, .ref v0]) rfl ?_
  refine zco_newa_int (N := 72) q_202 (by decide) (by decide +kernel) (by decide) (zdk (cc := cX5_init) (q := (15, .newarray .int, 2)) tkX5_init 8 rfl) (fun a2 => ?_)
  refine zco_prF fl_5_15 (Or.inr ⟨_, rfl⟩) rfl rfl (by decide +kernel) (zdk (cc := cX5_init) (q := (17, .putfield 15, 3)) tkX5_init 9 rfl) ?_
  refine zco_p tkX5_init 10 2 (pc' := 24) (L' := [(0, .ref v0)]) (S' := [.int 448, .ref v0]) rfl ?_
  refine zco_newa_int (N := 448) q_202 (by decide) (by decide +kernel) (by decide) (zdk (cc := cX5_init) (q := (24, .newarray .int, 2)) tkX5_init 12 rfl) (fun a3 => ?_)
  refine zco_prF fl_5_18 (Or.inr ⟨_, rfl⟩) rfl rfl (by decide +kernel) (zdk (cc := cX5_init) (q := (26, .putfield 18, 3)) tkX5_init 13 rfl) ?_
  refine zco_p tkX5_init 14 2 (pc' := 32) (L' := [(0, .ref v0)]) (S' := [.int 6, .ref v0]) rfl ?_
  refine zco_newa_int (N := 6) q_202 (by decide) (by decide +kernel) (by decide) (zdk (cc := cX5_init) (q := (32, .newarray .int, 2)) tkX5_init 16 rfl) (fun a4 => ?_)
  refine zco_prF fl_5_21 (Or.inr ⟨_, rfl⟩) rfl rfl (by decide +kernel) (zdk (cc := cX5_init) (q := (34, .putfield 21, 3)) tkX5_init 17 rfl) ?_
  exact zco_vret rfl rfl rfl (zdk (cc := cX5_init) (q := (37, .return_, 1)) tkX5_init 18 rfl)
theorem mtX5_init (l : Launch) (d : Nat) (hd : 1 ≤ d) (v0 : Nat) : zMet l d 4 538 yX5_init cX5_init 1 (Option.none : Option FieldType) [.ref v0] (X5_init v0) := by
  obtain ⟨e, rfl⟩ : ∃ e, d = e + 1 := ⟨d - 1, by omega⟩
  exact zmet_of (own := RX5) (ini := true) (by decide +kernel) rfl (fun _ => rfl) (Nat.le_of_ble_eq_true rfl) (coX5_init l e (by omega) v0)
abbrev iX6_init : zI := (RX6, cX6_init, 2, (Option.none : Option FieldType), true)
def tX6_init : List (Nat × Instr × Nat) := [(0, .aload_n 0, 1), (1, .invokespecial 3, 3), (4, .aload_n 0, 1), (5, .iconst 0, 1), (6, .putfield 9, 3), (9, .aload_n 0, 1), (10, .iconst 0, 1), (11, .putfield 15, 3), (14, .aload_n 0, 1), (15, .bipush 20, 2), (17, .anewarray 18, 3), (20, .putfield 20, 3), (23, .aload_n 0, 1), (24, .bipush 20, 2), (26, .newarray .int, 2), (28, .putfield 24, 3), (31, .aload_n 0, 1), (32, .sipush 640, 3), (35, .newarray .int, 2), (37, .putfield 28, 3), (40, .aload_n 0, 1), (41, .iconst 0, 1), (42, .putfield 31, 3), (45, .iconst 0, 1), (46, .istore_n 1, 1), (47, .iload_n 1, 1), (48, .bipush 20, 2), (50, .if_icmp .ge 22, 3), (53, .aload_n 0, 1), (54, .getfield 20, 3), (57, .iload_n 1, 1), (58, .new 18, 3), (61, .dup, 1), (62, .invokespecial 34, 3), (65, .aastore, 1), (66, .iinc 1 1, 3), (69, .goto (-22), 3), (72, .return_, 1)]
set_option maxRecDepth 100000 in
theorem tkX6_init : ∀ q ∈ tX6_init, decode cX6_init q.1 = .ok q.2 := by decide +kernel
theorem vmX6_init : zIM yX6_init cX6_init 2 0 := ⟨kX6_init, q_502, q_160, rfl, by decide +kernel, by decide⟩
theorem zco_icmp_geI {l : Launch} {d rc rs : Nat} {mi : zI} {pc : Nat} {L : List (Nat × Value)} {S : List Value} {f g : zM} {x y : Int32} {off : Int} {tgt : Nat} (hd : decode mi.2.1 pc = .ok (.if_icmp .ge off, 3)) (ht : (pc : Int) + off = (tgt : Int)) (k1 : y ≤ x → zCo l d rc rs mi tgt L S f) (k2 : ¬ y ≤ x → zCo l d rc rs mi (pc + 3) L S g) : zCo l d rc rs mi pc L (.int y :: .int x :: S) (z_if (y ≤ x) f g) := by
  intro G h r h2 hf p e s m args below meth cd H locs cells slots R ls Fx hR hP hS hl
  unfold z_if at hf
  refine lv_icmp_ge Fx.1 Fx.2.1 hd ht (fun q => ?_) (fun q => ?_)
  · rw [if_pos q] at hf
    exact k1 q G h r h2 hf p e s m args below meth cd H locs cells slots R ls Fx hR hP hS hl
  · rw [if_neg q] at hf
    exact k2 q G h r h2 hf p e s m args below meth cd H locs cells slots R ls Fx hR hP hS hl
set_option maxHeartbeats 2000000 in
set_option maxRecDepth 20000 in
theorem coX6_init_L (l : Launch) (e : Nat) (he : 1 ≤ e) (v0 : Nat) : ∀ k, k ≤ 20 → ∀ n, zCo l (e + 1) (7 * k) (200 * k) iX6_init 47 [(0, .ref v0), (1, .int (nI (20 - k)))] [] (z_fix (fun r x => X6_init_B47 v0 r x) (n + k + 1) (nI (20 - k))) := by
  intro k
  induction k with
  | zero =>
    intro _ n
    show zCo l (e + 1) 0 0 iX6_init 47 [(0, .ref v0), (1, .int (nI 20))] [] (X6_init_B47 v0 (z_fix (fun r x => X6_init_B47 v0 r x) n) (nI 20))
    unfold X6_init_B47
    refine zco_p tkX6_init 25 2 (pc' := 50) (L' := [(0, .ref v0), (1, .int (nI 20))]) (S' := [.int 20, .int (nI 20)]) rfl ?_
    refine zco_icmp_geI (tgt := 72) (zdk (cc := cX6_init) (q := (50, .if_icmp .ge 22, 3)) tkX6_init 27 rfl) rfl (fun _ => ?_) (fun q => absurd (by decide) q)
    exact zco_vret rfl rfl rfl (zdk (cc := cX6_init) (q := (72, .return_, 1)) tkX6_init 37 rfl)
  | succ k ih =>
    intro hk n
    have e1 : nI (20 - (k + 1)) + 1 = nI (20 - k) := by rw [nI_1, show 20 - (k + 1) + 1 = 20 - k by omega]
    rw [show 7 * (k + 1) = 7 * k + 6 + 1 by omega, show 200 * (k + 1) = 200 * k + 192 + 8 by omega]
    generalize hv : nI (20 - (k + 1)) = v1 at e1
    have hlt : ¬ (20 : Int32) ≤ v1 := by rw [← hv]; exact nI_ge (b := 20) (by omega) (by decide)
    show zCo l (e + 1) (7 * k + 6 + 1) (200 * k + 192 + 8) iX6_init 47 [(0, .ref v0), (1, .int v1)] [] (X6_init_B47 v0 (z_fix (fun r x => X6_init_B47 v0 r x) (n + k + 1)) v1)
    unfold X6_init_B47
    refine zco_p tkX6_init 25 2 (pc' := 50) (L' := [(0, .ref v0), (1, .int v1)]) (S' := [.int 20, .int v1]) rfl ?_
    refine zco_icmp_geI (tgt := 72) (zdk (cc := cX6_init) (q := (50, .if_icmp .ge 22, 3)) tkX6_init 27 rfl) rfl (fun q => absurd q hlt) (fun _ => ?_)
    refine zco_p tkX6_init 28 1 (pc' := 54) (L' := [(0, .ref v0), (1, .int v1)]) (S' := [.ref v0]) rfl ?_
    refine zco_gr fl_6_20 rfl (zdk (cc := cX6_init) (q := (54, .getfield 20, 3)) tkX6_init 29 rfl) (fun x1 => ?_)
    refine zco_p tkX6_init 30 1 (pc' := 58) (L' := [(0, .ref v0), (1, .int v1)]) (S' := [.int v1, .ref x1]) rfl ?_
    refine zco_new (c := 8) rfl rfl dfX8 q_505 q_372 q_156 (zdk (cc := cX6_init) (q := (58, .new 18, 3)) tkX6_init 31 rfl) (fun a2 => ?_)
    refine zco_p tkX6_init 32 1 (pc' := 62) (L' := [(0, .ref v0), (1, .int v1)]) (S' := [.ref a2, .ref a2, .int v1, .ref x1]) rfl ?_
    refine zco_J (rc := 7 * k) (rs := 200 * k) (mc := 6) (ms := 192) (As := []) (S := [.ref a2, .int v1, .ref x1]) vmX8_init (mtX8_init l e (by omega) a2) (host := "ClothWedding") (by decide +kernel) rfl rfl (Nat.le_of_ble_eq_true rfl) (zdk (cc := cX6_init) (q := (62, .invokespecial 34, 3)) tkX6_init 33 rfl) ?_
    refine zco_aastore (zdk (cc := cX6_init) (q := (65, .aastore, 1)) tkX6_init 34 rfl) ?_
    refine zco_p tkX6_init 35 2 (pc' := 47) (L' := [(1, .int (v1 + 1)), (0, .ref v0)]) (S' := []) rfl ?_
    rw [e1]
    exact zco_sub [1, 0] rfl (ih (by omega) n)
set_option maxHeartbeats 2000000 in
set_option maxRecDepth 20000 in
theorem coX6_init (l : Launch) (e : Nat) (he : 1 ≤ e) (v0 : Nat) : zCo l (e + 1) 143 4680 iX6_init 0 [(0, .ref v0)] [] (X6_init v0) := by
  unfold X6_init
  refine zco_p tkX6_init 0 1 (pc' := 1) (L' := [(0, .ref v0)]) (S' := [.ref v0]) rfl ?_
  refine zco_obj (by omega) q_504 q_176 q_objc (Nat.le_of_ble_eq_true rfl) (zdk (cc := cX6_init) (q := (1, .invokespecial 3, 3)) tkX6_init 1 rfl) ?_
  refine zco_p tkX6_init 2 2 (pc' := 6) (L' := [(0, .ref v0)]) (S' := [.int 0, .ref v0]) rfl ?_
  refine zco_pi fl_6_9 rfl rfl (zdk (cc := cX6_init) (q := (6, .putfield 9, 3)) tkX6_init 4 rfl) ?_
  refine zco_p tkX6_init 5 2 (pc' := 11) (L' := [(0, .ref v0)]) (S' := [.int 0, .ref v0]) rfl ?_
  refine zco_pi fl_6_15 rfl rfl (zdk (cc := cX6_init) (q := (11, .putfield 15, 3)) tkX6_init 7 rfl) ?_
  refine zco_p tkX6_init 8 2 (pc' := 17) (L' := [(0, .ref v0)]) (S' := [.int 20, .ref v0]) rfl ?_
  refine zco_newq (N := 20) q_505 (by decide) (by decide +kernel) (by decide) (zdk (cc := cX6_init) (q := (17, .anewarray 18, 3)) tkX6_init 10 rfl) (fun a1 => ?_)
  refine zco_prF fl_6_20 (Or.inr ⟨_, rfl⟩) rfl rfl (by decide +kernel) (zdk (cc := cX6_init) (q := (20, .putfield 20, 3)) tkX6_init 11 rfl) ?_
  refine zco_p tkX6_init 12 2 (pc' := 26) (L' := [(0, .ref v0)]) (S' := [.int 20, .ref v0]) rfl ?_
  refine zco_newa_int (N := 20) q_202 (by decide) (by decide +kernel) (by decide) (zdk (cc := cX6_init) (q := (26, .newarray .int, 2)) tkX6_init 14 rfl) (fun a2 => ?_)
  refine zco_prF fl_6_24 (Or.inr ⟨_, rfl⟩) rfl rfl (by decide +kernel) (zdk (cc := cX6_init) (q := (28, .putfield 24, 3)) tkX6_init 15 rfl) ?_
  refine zco_p tkX6_init 16 2 (pc' := 35) (L' := [(0, .ref v0)]) (S' := [.int 640, .ref v0]) rfl ?_
  refine zco_newa_int (N := 640) q_202 (by decide) (by decide +kernel) (by decide) (zdk (cc := cX6_init) (q := (35, .newarray .int, 2)) tkX6_init 18 rfl) (fun a3 => ?_)
  refine zco_prF fl_6_28 (Or.inr ⟨_, rfl⟩) rfl rfl (by decide +kernel) (zdk (cc := cX6_init) (q := (37, .putfield 28, 3)) tkX6_init 19 rfl) ?_
  refine zco_p tkX6_init 20 2 (pc' := 42) (L' := [(0, .ref v0)]) (S' := [.int 0, .ref v0]) rfl ?_
  refine zco_pi fl_6_31 rfl rfl (zdk (cc := cX6_init) (q := (42, .putfield 31, 3)) tkX6_init 22 rfl) ?_
  refine zco_p tkX6_init 23 2 (pc' := 47) (L' := [(1, .int 0), (0, .ref v0)]) (S' := []) rfl ?_
  exact zco_sub [1, 0] rfl (coX6_init_L l e he v0 20 (Nat.le_refl _) 999979)
theorem mtX6_init (l : Launch) (d : Nat) (hd : 2 ≤ d) (v0 : Nat) : zMet l d 143 4680 yX6_init cX6_init 2 (Option.none : Option FieldType) [.ref v0] (X6_init v0) := by
  obtain ⟨e, rfl⟩ : ∃ e, d = e + 1 := ⟨d - 1, by omega⟩
  exact zmet_of (own := RX6) (ini := true) (by decide +kernel) rfl (fun _ => rfl) (Nat.le_of_ble_eq_true rfl) (coX6_init l e (by omega) v0)
abbrev iX3_holds : zI := (RX3, cX3_holds, 2, (Option.some .boolean), false)
def tX3_holds : List (Nat × Instr × Nat) := [(0, .aload_n 0, 1), (1, .getfield 19, 3), (4, .iload_n 1, 1), (5, .iaload, 1), (6, .iconst (-1), 1), (7, .if_icmp .eq 7, 3), (10, .iconst 1, 1), (11, .goto 4, 3), (14, .iconst 0, 1), (15, .ireturn, 1)]
set_option maxRecDepth 100000 in
theorem tkX3_holds : ∀ q ∈ tX3_holds, decode cX3_holds q.1 = .ok q.2 := by decide +kernel
theorem vmX3_holds : zVM yX3_holds cX3_holds 2 (Option.some .boolean) 1 3 := ⟨kX3_holds, q_537, q_538, q_152, ⟨_, rfl, rfl⟩, by decide +kernel, by decide⟩
set_option maxHeartbeats 2000000 in
set_option maxRecDepth 20000 in
theorem coX3_holds (l : Launch) (e : Nat) (he : 0 ≤ e) (v0 : Nat) (v1 : Int32) : zCo l (e + 1) 0 0 iX3_holds 0 [(0, .ref v0), (1, .int v1)] [] (X3_holds v0 v1) := by
  unfold X3_holds
  refine zco_p tkX3_holds 0 1 (pc' := 1) (L' := [(0, .ref v0), (1, .int v1)]) (S' := [.ref v0]) rfl ?_
  refine zco_gr fl_3_19 rfl (zdk (cc := cX3_holds) (q := (1, .getfield 19, 3)) tkX3_holds 1 rfl) (fun x1 => ?_)
  refine zco_p tkX3_holds 2 1 (pc' := 5) (L' := [(0, .ref v0), (1, .int v1)]) (S' := [.int v1, .ref x1]) rfl ?_
  refine zco_iaload (zdk (cc := cX3_holds) (q := (5, .iaload, 1)) tkX3_holds 3 rfl) (fun x2 => ?_)
  refine zco_p tkX3_holds 4 1 (pc' := 7) (L' := [(0, .ref v0), (1, .int v1)]) (S' := [.int ((-1)), .int x2]) rfl ?_
  refine zco_icmp_eq (tgt := 14) (zdk (cc := cX3_holds) (q := (7, .if_icmp .eq 7, 3)) tkX3_holds 5 rfl) rfl ?_ ?_
  · refine zco_p tkX3_holds 8 1 (pc' := 15) (L' := [(0, .ref v0), (1, .int v1)]) (S' := [.int 0]) rfl ?_
    exact zco_zret rfl rfl rfl (zdk (cc := cX3_holds) (q := (15, .ireturn, 1)) tkX3_holds 9 rfl)
  · refine zco_p tkX3_holds 6 2 (pc' := 15) (L' := [(0, .ref v0), (1, .int v1)]) (S' := [.int 1]) rfl ?_
    exact zco_zret rfl rfl rfl (zdk (cc := cX3_holds) (q := (15, .ireturn, 1)) tkX3_holds 9 rfl)
theorem mtX3_holds (l : Launch) (d : Nat) (hd : 1 ≤ d) (v0 : Nat) (v1 : Int32) : zMet l d 0 0 yX3_holds cX3_holds 2 (Option.some .boolean) [.ref v0, .int v1] (X3_holds v0 v1) := by
  obtain ⟨e, rfl⟩ : ∃ e, d = e + 1 := ⟨d - 1, by omega⟩
  exact zmet_of (own := RX3) (ini := false) (by decide +kernel) rfl (fun _ => by contradiction) (Nat.le_of_ble_eq_true rfl) (coX3_holds l e (by omega) v0 v1)
abbrev iX3_begin : zI := (RX3, cX3_begin, 2, (Option.none : Option FieldType), false)
def tX3_begin : List (Nat × Instr × Nat) := [(0, .aload_n 0, 1), (1, .getfield 19, 3), (4, .iload_n 1, 1), (5, .aload_n 0, 1), (6, .getfield 15, 3), (9, .iastore, 1), (10, .return_, 1)]
set_option maxRecDepth 100000 in
theorem tkX3_begin : ∀ q ∈ tX3_begin, decode cX3_begin q.1 = .ok q.2 := by decide +kernel
theorem vmX3_begin : zVM yX3_begin cX3_begin 2 (Option.none : Option FieldType) 1 3 := ⟨kX3_begin, q_541, q_542, q_152, ⟨_, rfl, rfl⟩, by decide +kernel, by decide⟩
set_option maxHeartbeats 2000000 in
set_option maxRecDepth 20000 in
theorem coX3_begin (l : Launch) (e : Nat) (he : 0 ≤ e) (v0 : Nat) (v1 : Int32) : zCo l (e + 1) 0 0 iX3_begin 0 [(0, .ref v0), (1, .int v1)] [] (X3_begin v0 v1) := by
  unfold X3_begin
  refine zco_p tkX3_begin 0 1 (pc' := 1) (L' := [(0, .ref v0), (1, .int v1)]) (S' := [.ref v0]) rfl ?_
  refine zco_gr fl_3_19 rfl (zdk (cc := cX3_begin) (q := (1, .getfield 19, 3)) tkX3_begin 1 rfl) (fun x1 => ?_)
  refine zco_p tkX3_begin 2 2 (pc' := 6) (L' := [(0, .ref v0), (1, .int v1)]) (S' := [.ref v0, .int v1, .ref x1]) rfl ?_
  refine zco_gi fl_3_15 rfl (zdk (cc := cX3_begin) (q := (6, .getfield 15, 3)) tkX3_begin 4 rfl) (fun x2 => ?_)
  refine zco_iastore (zdk (cc := cX3_begin) (q := (9, .iastore, 1)) tkX3_begin 5 rfl) ?_
  exact zco_vret rfl rfl rfl (zdk (cc := cX3_begin) (q := (10, .return_, 1)) tkX3_begin 6 rfl)
theorem mtX3_begin (l : Launch) (d : Nat) (hd : 1 ≤ d) (v0 : Nat) (v1 : Int32) : zMet l d 0 0 yX3_begin cX3_begin 2 (Option.none : Option FieldType) [.ref v0, .int v1] (X3_begin v0 v1) := by
  obtain ⟨e, rfl⟩ : ∃ e, d = e + 1 := ⟨d - 1, by omega⟩
  exact zmet_of (own := RX3) (ini := false) (by decide +kernel) rfl (fun _ => by contradiction) (Nat.le_of_ble_eq_true rfl) (coX3_begin l e (by omega) v0 v1)
abbrev iX3_put : zI := (RX3, cX3_put, 2, (Option.none : Option FieldType), false)
def tX3_put : List (Nat × Instr × Nat) := [(0, .aload_n 0, 1), (1, .getfield 15, 3), (4, .aload_n 0, 1), (5, .getfield 9, 3), (8, .arraylength, 1), (9, .if_icmp .ge 23, 3), (12, .aload_n 0, 1), (13, .getfield 9, 3), (16, .aload_n 0, 1), (17, .getfield 15, 3), (20, .iload_n 1, 1), (21, .iastore, 1), (22, .aload_n 0, 1), (23, .dup, 1), (24, .getfield 15, 3), (27, .iconst 1, 1), (28, .iadd, 1), (29, .putfield 15, 3), (32, .return_, 1)]
set_option maxRecDepth 100000 in
theorem tkX3_put : ∀ q ∈ tX3_put, decode cX3_put q.1 = .ok q.2 := by decide +kernel
theorem vmX3_put : zVM yX3_put cX3_put 2 (Option.none : Option FieldType) 1 3 := ⟨kX3_put, q_545, q_546, q_152, ⟨_, rfl, rfl⟩, by decide +kernel, by decide⟩
set_option maxHeartbeats 2000000 in
set_option maxRecDepth 20000 in
theorem coX3_put (l : Launch) (e : Nat) (he : 0 ≤ e) (v0 : Nat) (v1 : Int32) : zCo l (e + 1) 0 0 iX3_put 0 [(0, .ref v0), (1, .int v1)] [] (X3_put v0 v1) := by
  unfold X3_put
  refine zco_p tkX3_put 0 1 (pc' := 1) (L' := [(0, .ref v0), (1, .int v1)]) (S' := [.ref v0]) rfl ?_
  refine zco_gi fl_3_15 rfl (zdk (cc := cX3_put) (q := (1, .getfield 15, 3)) tkX3_put 1 rfl) (fun x1 => ?_)
  refine zco_p tkX3_put 2 1 (pc' := 5) (L' := [(0, .ref v0), (1, .int v1)]) (S' := [.ref v0, .int x1]) rfl ?_
  refine zco_gr fl_3_9 rfl (zdk (cc := cX3_put) (q := (5, .getfield 9, 3)) tkX3_put 3 rfl) (fun x2 => ?_)
  refine zco_alen (zdk (cc := cX3_put) (q := (8, .arraylength, 1)) tkX3_put 4 rfl) (fun x3 => ?_)
  refine zco_icmp_ge (tgt := 32) (zdk (cc := cX3_put) (q := (9, .if_icmp .ge 23, 3)) tkX3_put 5 rfl) rfl ?_ ?_
  · exact zco_vret rfl rfl rfl (zdk (cc := cX3_put) (q := (32, .return_, 1)) tkX3_put 18 rfl)
  · refine zco_p tkX3_put 6 1 (pc' := 13) (L' := [(0, .ref v0), (1, .int v1)]) (S' := [.ref v0]) rfl ?_
    refine zco_gr fl_3_9 rfl (zdk (cc := cX3_put) (q := (13, .getfield 9, 3)) tkX3_put 7 rfl) (fun x4 => ?_)
    refine zco_p tkX3_put 8 1 (pc' := 17) (L' := [(0, .ref v0), (1, .int v1)]) (S' := [.ref v0, .ref x4]) rfl ?_
    refine zco_gi fl_3_15 rfl (zdk (cc := cX3_put) (q := (17, .getfield 15, 3)) tkX3_put 9 rfl) (fun x5 => ?_)
    refine zco_p tkX3_put 10 1 (pc' := 21) (L' := [(0, .ref v0), (1, .int v1)]) (S' := [.int v1, .int x5, .ref x4]) rfl ?_
    refine zco_iastore (zdk (cc := cX3_put) (q := (21, .iastore, 1)) tkX3_put 11 rfl) ?_
    refine zco_p tkX3_put 12 2 (pc' := 24) (L' := [(0, .ref v0), (1, .int v1)]) (S' := [.ref v0, .ref v0]) rfl ?_
    refine zco_gi fl_3_15 rfl (zdk (cc := cX3_put) (q := (24, .getfield 15, 3)) tkX3_put 14 rfl) (fun x6 => ?_)
    refine zco_p tkX3_put 15 2 (pc' := 29) (L' := [(0, .ref v0), (1, .int v1)]) (S' := [.int (x6 + 1), .ref v0]) rfl ?_
    refine zco_pi fl_3_15 rfl rfl (zdk (cc := cX3_put) (q := (29, .putfield 15, 3)) tkX3_put 17 rfl) ?_
    exact zco_vret rfl rfl rfl (zdk (cc := cX3_put) (q := (32, .return_, 1)) tkX3_put 18 rfl)
theorem mtX3_put (l : Launch) (d : Nat) (hd : 1 ≤ d) (v0 : Nat) (v1 : Int32) : zMet l d 0 0 yX3_put cX3_put 2 (Option.none : Option FieldType) [.ref v0, .int v1] (X3_put v0 v1) := by
  obtain ⟨e, rfl⟩ : ∃ e, d = e + 1 := ⟨d - 1, by omega⟩
  exact zmet_of (own := RX3) (ini := false) (by decide +kernel) rfl (fun _ => by contradiction) (Nat.le_of_ble_eq_true rfl) (coX3_put l e (by omega) v0 v1)
abbrev iX3_finish : zI := (RX3, cX3_finish, 2, (Option.none : Option FieldType), false)
def tX3_finish : List (Nat × Instr × Nat) := [(0, .aload_n 0, 1), (1, .getfield 22, 3), (4, .iload_n 1, 1), (5, .aload_n 0, 1), (6, .getfield 15, 3), (9, .iastore, 1), (10, .return_, 1)]
set_option maxRecDepth 100000 in
theorem tkX3_finish : ∀ q ∈ tX3_finish, decode cX3_finish q.1 = .ok q.2 := by decide +kernel
theorem vmX3_finish : zVM yX3_finish cX3_finish 2 (Option.none : Option FieldType) 1 3 := ⟨kX3_finish, q_549, q_550, q_152, ⟨_, rfl, rfl⟩, by decide +kernel, by decide⟩
set_option maxHeartbeats 2000000 in
set_option maxRecDepth 20000 in
theorem coX3_finish (l : Launch) (e : Nat) (he : 0 ≤ e) (v0 : Nat) (v1 : Int32) : zCo l (e + 1) 0 0 iX3_finish 0 [(0, .ref v0), (1, .int v1)] [] (X3_finish v0 v1) := by
  unfold X3_finish
  refine zco_p tkX3_finish 0 1 (pc' := 1) (L' := [(0, .ref v0), (1, .int v1)]) (S' := [.ref v0]) rfl ?_
  refine zco_gr fl_3_22 rfl (zdk (cc := cX3_finish) (q := (1, .getfield 22, 3)) tkX3_finish 1 rfl) (fun x1 => ?_)
  refine zco_p tkX3_finish 2 2 (pc' := 6) (L' := [(0, .ref v0), (1, .int v1)]) (S' := [.ref v0, .int v1, .ref x1]) rfl ?_
  refine zco_gi fl_3_15 rfl (zdk (cc := cX3_finish) (q := (6, .getfield 15, 3)) tkX3_finish 4 rfl) (fun x2 => ?_)
  refine zco_iastore (zdk (cc := cX3_finish) (q := (9, .iastore, 1)) tkX3_finish 5 rfl) ?_
  exact zco_vret rfl rfl rfl (zdk (cc := cX3_finish) (q := (10, .return_, 1)) tkX3_finish 6 rfl)
theorem mtX3_finish (l : Launch) (d : Nat) (hd : 1 ≤ d) (v0 : Nat) (v1 : Int32) : zMet l d 0 0 yX3_finish cX3_finish 2 (Option.none : Option FieldType) [.ref v0, .int v1] (X3_finish v0 v1) := by
  obtain ⟨e, rfl⟩ : ∃ e, d = e + 1 := ⟨d - 1, by omega⟩
  exact zmet_of (own := RX3) (ini := false) (by decide +kernel) rfl (fun _ => by contradiction) (Nat.le_of_ble_eq_true rfl) (coX3_finish l e (by omega) v0 v1)
abbrev iX1_fallBack : zI := (RX1, cX1_fallBack, 5, (Option.none : Option FieldType), false)
def tX1_fallBack : List (Nat × Instr × Nat) := [(0, .aload_n 0, 1), (1, .getfield 50, 3), (4, .iload_n 1, 1), (5, .invokevirtual 67, 3), (8, .ifCond .ne 44, 3), (11, .aload_n 0, 1), (12, .getfield 50, 3), (15, .iload_n 1, 1), (16, .invokevirtual 71, 3), (19, .aload_n 0, 1), (20, .getfield 50, 3), (23, .iload_n 2, 1), (24, .invokevirtual 75, 3), (27, .aload_n 0, 1), (28, .getfield 50, 3), (31, .iload_n 3, 1), (32, .invokevirtual 75, 3), (35, .aload_n 0, 1), (36, .getfield 50, 3), (39, .iload 4, 2), (41, .invokevirtual 75, 3), (44, .aload_n 0, 1), (45, .getfield 50, 3), (48, .iload_n 1, 1), (49, .invokevirtual 78, 3), (52, .return_, 1)]
set_option maxRecDepth 100000 in
theorem tkX1_fallBack : ∀ q ∈ tX1_fallBack, decode cX1_fallBack q.1 = .ok q.2 := by decide +kernel
theorem vmX1_fallBack : zVM yX1_fallBack cX1_fallBack 5 (Option.none : Option FieldType) 4 1 := ⟨kX1_fallBack, q_534, q_0, q_155, ⟨_, rfl, rfl⟩, by decide +kernel, by decide⟩
set_option maxHeartbeats 2000000 in
set_option maxRecDepth 20000 in
theorem coX1_fallBack (l : Launch) (e : Nat) (he : 1 ≤ e) (v0 : Nat) (v1 : Int32) (v2 : Int32) (v3 : Int32) (v4 : Int32) : zCo l (e + 1) 0 0 iX1_fallBack 0 [(0, .ref v0), (1, .int v1), (2, .int v2), (3, .int v3), (4, .int v4)] [] (X1_fallBack v0 v1 v2 v3 v4) := by
  unfold X1_fallBack
  refine zco_p tkX1_fallBack 0 1 (pc' := 1) (L' := [(0, .ref v0), (1, .int v1), (2, .int v2), (3, .int v3), (4, .int v4)]) (S' := [.ref v0]) rfl ?_
  refine zco_gr fl_1_50 rfl (zdk (cc := cX1_fallBack) (q := (1, .getfield 50, 3)) tkX1_fallBack 1 rfl) (fun x1 => ?_)
  refine zco_p tkX1_fallBack 2 1 (pc' := 5) (L' := [(0, .ref v0), (1, .int v1), (2, .int v2), (3, .int v3), (4, .int v4)]) (S' := [.int v1, .ref x1]) rfl ?_
  refine zco_Vi (rc := 0) (rs := 0) (mc := 0) (ms := 0) (As := [.int v1]) (S := []) vmX3_holds (mtX3_holds l e (by omega) x1 v1) q_536 rfl rfl (Nat.le_of_ble_eq_true rfl) (zdk (cc := cX1_fallBack) (q := (5, .invokevirtual 67, 3)) tkX1_fallBack 3 rfl) (fun y2 => ?_)
  refine zco_if_ne (tgt := 52) (zdk (cc := cX1_fallBack) (q := (8, .ifCond .ne 44, 3)) tkX1_fallBack 4 rfl) rfl ?_ ?_
  · exact zco_vret rfl rfl rfl (zdk (cc := cX1_fallBack) (q := (52, .return_, 1)) tkX1_fallBack 25 rfl)
  · refine zco_p tkX1_fallBack 5 1 (pc' := 12) (L' := [(0, .ref v0), (1, .int v1), (2, .int v2), (3, .int v3), (4, .int v4)]) (S' := [.ref v0]) rfl ?_
    refine zco_gr fl_1_50 rfl (zdk (cc := cX1_fallBack) (q := (12, .getfield 50, 3)) tkX1_fallBack 6 rfl) (fun x3 => ?_)
    refine zco_p tkX1_fallBack 7 1 (pc' := 16) (L' := [(0, .ref v0), (1, .int v1), (2, .int v2), (3, .int v3), (4, .int v4)]) (S' := [.int v1, .ref x3]) rfl ?_
    refine zco_Vv (rc := 0) (rs := 0) (mc := 0) (ms := 0) (As := [.int v1]) (S := []) vmX3_begin (mtX3_begin l e (by omega) x3 v1) q_540 rfl rfl (Nat.le_of_ble_eq_true rfl) (zdk (cc := cX1_fallBack) (q := (16, .invokevirtual 71, 3)) tkX1_fallBack 8 rfl) ?_
    refine zco_p tkX1_fallBack 9 1 (pc' := 20) (L' := [(0, .ref v0), (1, .int v1), (2, .int v2), (3, .int v3), (4, .int v4)]) (S' := [.ref v0]) rfl ?_
    refine zco_gr fl_1_50 rfl (zdk (cc := cX1_fallBack) (q := (20, .getfield 50, 3)) tkX1_fallBack 10 rfl) (fun x4 => ?_)
    refine zco_p tkX1_fallBack 11 1 (pc' := 24) (L' := [(0, .ref v0), (1, .int v1), (2, .int v2), (3, .int v3), (4, .int v4)]) (S' := [.int v2, .ref x4]) rfl ?_
    refine zco_Vv (rc := 0) (rs := 0) (mc := 0) (ms := 0) (As := [.int v2]) (S := []) vmX3_put (mtX3_put l e (by omega) x4 v2) q_544 rfl rfl (Nat.le_of_ble_eq_true rfl) (zdk (cc := cX1_fallBack) (q := (24, .invokevirtual 75, 3)) tkX1_fallBack 12 rfl) ?_
    refine zco_p tkX1_fallBack 13 1 (pc' := 28) (L' := [(0, .ref v0), (1, .int v1), (2, .int v2), (3, .int v3), (4, .int v4)]) (S' := [.ref v0]) rfl ?_
    refine zco_gr fl_1_50 rfl (zdk (cc := cX1_fallBack) (q := (28, .getfield 50, 3)) tkX1_fallBack 14 rfl) (fun x5 => ?_)
    refine zco_p tkX1_fallBack 15 1 (pc' := 32) (L' := [(0, .ref v0), (1, .int v1), (2, .int v2), (3, .int v3), (4, .int v4)]) (S' := [.int v3, .ref x5]) rfl ?_
    refine zco_Vv (rc := 0) (rs := 0) (mc := 0) (ms := 0) (As := [.int v3]) (S := []) vmX3_put (mtX3_put l e (by omega) x5 v3) q_544 rfl rfl (Nat.le_of_ble_eq_true rfl) (zdk (cc := cX1_fallBack) (q := (32, .invokevirtual 75, 3)) tkX1_fallBack 16 rfl) ?_
    refine zco_p tkX1_fallBack 17 1 (pc' := 36) (L' := [(0, .ref v0), (1, .int v1), (2, .int v2), (3, .int v3), (4, .int v4)]) (S' := [.ref v0]) rfl ?_
    refine zco_gr fl_1_50 rfl (zdk (cc := cX1_fallBack) (q := (36, .getfield 50, 3)) tkX1_fallBack 18 rfl) (fun x6 => ?_)
    refine zco_p tkX1_fallBack 19 1 (pc' := 41) (L' := [(0, .ref v0), (1, .int v1), (2, .int v2), (3, .int v3), (4, .int v4)]) (S' := [.int v4, .ref x6]) rfl ?_
    refine zco_Vv (rc := 0) (rs := 0) (mc := 0) (ms := 0) (As := [.int v4]) (S := []) vmX3_put (mtX3_put l e (by omega) x6 v4) q_544 rfl rfl (Nat.le_of_ble_eq_true rfl) (zdk (cc := cX1_fallBack) (q := (41, .invokevirtual 75, 3)) tkX1_fallBack 20 rfl) ?_
    refine zco_p tkX1_fallBack 21 1 (pc' := 45) (L' := [(0, .ref v0), (1, .int v1), (2, .int v2), (3, .int v3), (4, .int v4)]) (S' := [.ref v0]) rfl ?_
    refine zco_gr fl_1_50 rfl (zdk (cc := cX1_fallBack) (q := (45, .getfield 50, 3)) tkX1_fallBack 22 rfl) (fun x7 => ?_)
    refine zco_p tkX1_fallBack 23 1 (pc' := 49) (L' := [(0, .ref v0), (1, .int v1), (2, .int v2), (3, .int v3), (4, .int v4)]) (S' := [.int v1, .ref x7]) rfl ?_
    refine zco_Vv (rc := 0) (rs := 0) (mc := 0) (ms := 0) (As := [.int v1]) (S := []) vmX3_finish (mtX3_finish l e (by omega) x7 v1) q_548 rfl rfl (Nat.le_of_ble_eq_true rfl) (zdk (cc := cX1_fallBack) (q := (49, .invokevirtual 78, 3)) tkX1_fallBack 24 rfl) ?_
    exact zco_vret rfl rfl rfl (zdk (cc := cX1_fallBack) (q := (52, .return_, 1)) tkX1_fallBack 25 rfl)
theorem mtX1_fallBack (l : Launch) (d : Nat) (hd : 2 ≤ d) (v0 : Nat) (v1 : Int32) (v2 : Int32) (v3 : Int32) (v4 : Int32) : zMet l d 0 0 yX1_fallBack cX1_fallBack 5 (Option.none : Option FieldType) [.ref v0, .int v1, .int v2, .int v3, .int v4] (X1_fallBack v0 v1 v2 v3 v4) := by
  obtain ⟨e, rfl⟩ : ∃ e, d = e + 1 := ⟨d - 1, by omega⟩
  exact zmet_of (own := RX1) (ini := false) (by decide +kernel) rfl (fun _ => by contradiction) (Nat.le_of_ble_eq_true rfl) (coX1_fallBack l e (by omega) v0 v1 v2 v3 v4)
abbrev iX1_complete : zI := (RX1, cX1_complete, 1, (Option.none : Option FieldType), false)
def tX1_complete : List (Nat × Instr × Nat) := [(0, .aload_n 0, 1), (1, .iconst 0, 1), (2, .sipush 10002, 3), (5, .sipush 10000, 3), (8, .sipush 20001, 3), (11, .invokevirtual 63, 3), (14, .aload_n 0, 1), (15, .iconst 1, 1), (16, .sipush 10006, 3), (19, .bipush 8, 2), (21, .sipush 20007, 3), (24, .invokevirtual 63, 3), (27, .aload_n 0, 1), (28, .iconst 2, 1), (29, .sipush 10000, 3), (32, .iconst 1, 1), (33, .sipush 20001, 3), (36, .invokevirtual 63, 3), (39, .return_, 1)]
set_option maxRecDepth 100000 in
theorem tkX1_complete : ∀ q ∈ tX1_complete, decode cX1_complete q.1 = .ok q.2 := by decide +kernel
theorem vmX1_complete : zVM yX1_complete cX1_complete 1 (Option.none : Option FieldType) 0 1 := ⟨kX1_complete, q_529, q_530, q_155, ⟨_, rfl, rfl⟩, by decide +kernel, by decide⟩
set_option maxHeartbeats 2000000 in
set_option maxRecDepth 20000 in
theorem coX1_complete (l : Launch) (e : Nat) (he : 2 ≤ e) (v0 : Nat) : zCo l (e + 1) 0 0 iX1_complete 0 [(0, .ref v0)] [] (X1_complete v0) := by
  unfold X1_complete
  refine zco_p tkX1_complete 0 5 (pc' := 11) (L' := [(0, .ref v0)]) (S' := [.int 20001, .int 10000, .int 10002, .int 0, .ref v0]) rfl ?_
  refine zco_Vv (rc := 0) (rs := 0) (mc := 0) (ms := 0) (As := [.int 0, .int 10002, .int 10000, .int 20001]) (S := []) vmX1_fallBack (mtX1_fallBack l e (by omega) v0 0 10002 10000 20001) q_532 rfl rfl (Nat.le_of_ble_eq_true rfl) (zdk (cc := cX1_complete) (q := (11, .invokevirtual 63, 3)) tkX1_complete 5 rfl) ?_
  refine zco_p tkX1_complete 6 5 (pc' := 24) (L' := [(0, .ref v0)]) (S' := [.int 20007, .int 8, .int 10006, .int 1, .ref v0]) rfl ?_
  refine zco_Vv (rc := 0) (rs := 0) (mc := 0) (ms := 0) (As := [.int 1, .int 10006, .int 8, .int 20007]) (S := []) vmX1_fallBack (mtX1_fallBack l e (by omega) v0 1 10006 8 20007) q_532 rfl rfl (Nat.le_of_ble_eq_true rfl) (zdk (cc := cX1_complete) (q := (24, .invokevirtual 63, 3)) tkX1_complete 11 rfl) ?_
  refine zco_p tkX1_complete 12 5 (pc' := 36) (L' := [(0, .ref v0)]) (S' := [.int 20001, .int 1, .int 10000, .int 2, .ref v0]) rfl ?_
  refine zco_Vv (rc := 0) (rs := 0) (mc := 0) (ms := 0) (As := [.int 2, .int 10000, .int 1, .int 20001]) (S := []) vmX1_fallBack (mtX1_fallBack l e (by omega) v0 2 10000 1 20001) q_532 rfl rfl (Nat.le_of_ble_eq_true rfl) (zdk (cc := cX1_complete) (q := (36, .invokevirtual 63, 3)) tkX1_complete 17 rfl) ?_
  exact zco_vret rfl rfl rfl (zdk (cc := cX1_complete) (q := (39, .return_, 1)) tkX1_complete 18 rfl)
theorem mtX1_complete (l : Launch) (d : Nat) (hd : 3 ≤ d) (v0 : Nat) : zMet l d 0 0 yX1_complete cX1_complete 1 (Option.none : Option FieldType) [.ref v0] (X1_complete v0) := by
  obtain ⟨e, rfl⟩ : ∃ e, d = e + 1 := ⟨d - 1, by omega⟩
  exact zmet_of (own := RX1) (ini := false) (by decide +kernel) rfl (fun _ => by contradiction) (Nat.le_of_ble_eq_true rfl) (coX1_complete l e (by omega) v0)
abbrev iX8_begin : zI := (RX8, cX8_begin, 3, (Option.none : Option FieldType), false)
def tX8_begin : List (Nat × Instr × Nat) := [(0, .aload_n 0, 1), (1, .iconst 0, 1), (2, .putfield 9, 3), (5, .aload_n 0, 1), (6, .iconst 0, 1), (7, .putfield 15, 3), (10, .iconst 0, 1), (11, .istore_n 2, 1), (12, .iload_n 2, 1), (13, .bipush 12, 2), (15, .if_icmp .ge 42, 3), (18, .aload_n 0, 1), (19, .getfield 18, 3), (22, .iload_n 2, 1), (23, .iload_n 2, 1), (24, .iastore, 1), (25, .aload_n 0, 1), (26, .getfield 22, 3), (29, .iload_n 2, 1), (30, .iconst (-1), 1), (31, .iastore, 1), (32, .aload_n 0, 1), (33, .getfield 25, 3), (36, .iload_n 2, 1), (37, .iconst 0, 1), (38, .iastore, 1), (39, .aload_n 0, 1), (40, .getfield 28, 3), (43, .iload_n 2, 1), (44, .aload_n 1, 1), (45, .getfield 37, 3), (48, .iload_n 2, 1), (49, .iaload, 1), (50, .iastore, 1), (51, .iinc 2 1, 3), (54, .goto (-42), 3), (57, .aload_n 1, 1), (58, .getfield 40, 3), (61, .iconst 0, 1), (62, .aload_n 0, 1), (63, .getfield 31, 3), (66, .iconst 0, 1), (67, .aload_n 0, 1), (68, .getfield 31, 3), (71, .arraylength, 1), (72, .invokestatic 41, 3), (75, .aload_n 1, 1), (76, .getfield 47, 3), (79, .iconst 0, 1), (80, .aload_n 0, 1), (81, .getfield 34, 3), (84, .iconst 0, 1), (85, .aload_n 0, 1), (86, .getfield 34, 3), (89, .arraylength, 1), (90, .invokestatic 41, 3), (93, .return_, 1)]
set_option maxRecDepth 100000 in
theorem tkX8_begin : ∀ q ∈ tX8_begin, decode cX8_begin q.1 = .ok q.2 := by decide +kernel
theorem vmX8_begin : zVM yX8_begin cX8_begin 3 (Option.none : Option FieldType) 1 8 := ⟨kX8_begin, q_553, q_554, q_156, ⟨_, rfl, rfl⟩, by decide +kernel, by decide⟩
set_option maxHeartbeats 2000000 in
set_option maxRecDepth 20000 in
theorem coX8_begin_J57 (l : Launch) (e : Nat) (he : 1 ≤ e) (v0 : Nat) (v1 : Nat) : zCo l (e + 1) 0 0 iX8_begin 57 [(0, .ref v0), (1, .ref v1)] [] (X8_begin_J57 v0 v1) := by
  unfold X8_begin_J57
  refine zco_p tkX8_begin 36 1 (pc' := 58) (L' := [(0, .ref v0), (1, .ref v1)]) (S' := [.ref v1]) rfl ?_
  refine zco_gr fl_8_40 rfl (zdk (cc := cX8_begin) (q := (58, .getfield 40, 3)) tkX8_begin 37 rfl) (fun x1 => ?_)
  refine zco_p tkX8_begin 38 2 (pc' := 63) (L' := [(0, .ref v0), (1, .ref v1)]) (S' := [.ref v0, .int 0, .ref x1]) rfl ?_
  refine zco_gr fl_8_31 rfl (zdk (cc := cX8_begin) (q := (63, .getfield 31, 3)) tkX8_begin 40 rfl) (fun x2 => ?_)
  refine zco_p tkX8_begin 41 2 (pc' := 68) (L' := [(0, .ref v0), (1, .ref v1)]) (S' := [.ref v0, .int 0, .ref x2, .int 0, .ref x1]) rfl ?_
  refine zco_gr fl_8_31 rfl (zdk (cc := cX8_begin) (q := (68, .getfield 31, 3)) tkX8_begin 43 rfl) (fun x3 => ?_)
  refine zco_alen (zdk (cc := cX8_begin) (q := (71, .arraylength, 1)) tkX8_begin 44 rfl) (fun x4 => ?_)
  refine zco_copy (by omega) q_556 q_558 q_557 q_161 (Nat.le_of_ble_eq_true rfl) (zdk (cc := cX8_begin) (q := (72, .invokestatic 41, 3)) tkX8_begin 45 rfl) ?_
  refine zco_p tkX8_begin 46 1 (pc' := 76) (L' := [(0, .ref v0), (1, .ref v1)]) (S' := [.ref v1]) rfl ?_
  refine zco_gr fl_8_47 rfl (zdk (cc := cX8_begin) (q := (76, .getfield 47, 3)) tkX8_begin 47 rfl) (fun x5 => ?_)
  refine zco_p tkX8_begin 48 2 (pc' := 81) (L' := [(0, .ref v0), (1, .ref v1)]) (S' := [.ref v0, .int 0, .ref x5]) rfl ?_
  refine zco_gr fl_8_34 rfl (zdk (cc := cX8_begin) (q := (81, .getfield 34, 3)) tkX8_begin 50 rfl) (fun x6 => ?_)
  refine zco_p tkX8_begin 51 2 (pc' := 86) (L' := [(0, .ref v0), (1, .ref v1)]) (S' := [.ref v0, .int 0, .ref x6, .int 0, .ref x5]) rfl ?_
  refine zco_gr fl_8_34 rfl (zdk (cc := cX8_begin) (q := (86, .getfield 34, 3)) tkX8_begin 53 rfl) (fun x7 => ?_)
  refine zco_alen (zdk (cc := cX8_begin) (q := (89, .arraylength, 1)) tkX8_begin 54 rfl) (fun x8 => ?_)
  refine zco_copy (by omega) q_556 q_558 q_557 q_161 (Nat.le_of_ble_eq_true rfl) (zdk (cc := cX8_begin) (q := (90, .invokestatic 41, 3)) tkX8_begin 55 rfl) ?_
  exact zco_vret rfl rfl rfl (zdk (cc := cX8_begin) (q := (93, .return_, 1)) tkX8_begin 56 rfl)
set_option maxHeartbeats 2000000 in
set_option maxRecDepth 20000 in
theorem coX8_begin_B12 (l : Launch) (e : Nat) (he : 1 ≤ e) (v0 : Nat) (v1 : Nat) (r12 : Int32 → zM) (hr12 : ∀ x : Int32, zCo l (e + 1) 0 0 iX8_begin 12 [(0, .ref v0), (1, .ref v1), (2, .int x)] [] (r12 x)) (v2 : Int32) : zCo l (e + 1) 0 0 iX8_begin 12 [(0, .ref v0), (1, .ref v1), (2, .int v2)] [] (X8_begin_B12 v0 v1 r12 v2) := by
  unfold X8_begin_B12
  refine zco_p tkX8_begin 8 2 (pc' := 15) (L' := [(0, .ref v0), (1, .ref v1), (2, .int v2)]) (S' := [.int 12, .int v2]) rfl ?_
  refine zco_icmp_ge (tgt := 57) (zdk (cc := cX8_begin) (q := (15, .if_icmp .ge 42, 3)) tkX8_begin 10 rfl) rfl ?_ ?_
  · exact zco_sub [0, 1] rfl (coX8_begin_J57 l e he v0 v1)
  · refine zco_p tkX8_begin 11 1 (pc' := 19) (L' := [(0, .ref v0), (1, .ref v1), (2, .int v2)]) (S' := [.ref v0]) rfl ?_
    refine zco_gr fl_8_18 rfl (zdk (cc := cX8_begin) (q := (19, .getfield 18, 3)) tkX8_begin 12 rfl) (fun x1 => ?_)
    refine zco_p tkX8_begin 13 2 (pc' := 24) (L' := [(0, .ref v0), (1, .ref v1), (2, .int v2)]) (S' := [.int v2, .int v2, .ref x1]) rfl ?_
    refine zco_iastore (zdk (cc := cX8_begin) (q := (24, .iastore, 1)) tkX8_begin 15 rfl) ?_
    refine zco_p tkX8_begin 16 1 (pc' := 26) (L' := [(0, .ref v0), (1, .ref v1), (2, .int v2)]) (S' := [.ref v0]) rfl ?_
    refine zco_gr fl_8_22 rfl (zdk (cc := cX8_begin) (q := (26, .getfield 22, 3)) tkX8_begin 17 rfl) (fun x2 => ?_)
    refine zco_p tkX8_begin 18 2 (pc' := 31) (L' := [(0, .ref v0), (1, .ref v1), (2, .int v2)]) (S' := [.int ((-1)), .int v2, .ref x2]) rfl ?_
    refine zco_iastore (zdk (cc := cX8_begin) (q := (31, .iastore, 1)) tkX8_begin 20 rfl) ?_
    refine zco_p tkX8_begin 21 1 (pc' := 33) (L' := [(0, .ref v0), (1, .ref v1), (2, .int v2)]) (S' := [.ref v0]) rfl ?_
    refine zco_gr fl_8_25 rfl (zdk (cc := cX8_begin) (q := (33, .getfield 25, 3)) tkX8_begin 22 rfl) (fun x3 => ?_)
    refine zco_p tkX8_begin 23 2 (pc' := 38) (L' := [(0, .ref v0), (1, .ref v1), (2, .int v2)]) (S' := [.int 0, .int v2, .ref x3]) rfl ?_
    refine zco_iastore (zdk (cc := cX8_begin) (q := (38, .iastore, 1)) tkX8_begin 25 rfl) ?_
    refine zco_p tkX8_begin 26 1 (pc' := 40) (L' := [(0, .ref v0), (1, .ref v1), (2, .int v2)]) (S' := [.ref v0]) rfl ?_
    refine zco_gr fl_8_28 rfl (zdk (cc := cX8_begin) (q := (40, .getfield 28, 3)) tkX8_begin 27 rfl) (fun x4 => ?_)
    refine zco_p tkX8_begin 28 2 (pc' := 45) (L' := [(0, .ref v0), (1, .ref v1), (2, .int v2)]) (S' := [.ref v1, .int v2, .ref x4]) rfl ?_
    refine zco_gr fl_8_37 rfl (zdk (cc := cX8_begin) (q := (45, .getfield 37, 3)) tkX8_begin 30 rfl) (fun x5 => ?_)
    refine zco_p tkX8_begin 31 1 (pc' := 49) (L' := [(0, .ref v0), (1, .ref v1), (2, .int v2)]) (S' := [.int v2, .ref x5, .int v2, .ref x4]) rfl ?_
    refine zco_iaload (zdk (cc := cX8_begin) (q := (49, .iaload, 1)) tkX8_begin 32 rfl) (fun x6 => ?_)
    refine zco_iastore (zdk (cc := cX8_begin) (q := (50, .iastore, 1)) tkX8_begin 33 rfl) ?_
    refine zco_p tkX8_begin 34 2 (pc' := 12) (L' := [(2, .int (v2 + 1)), (0, .ref v0), (1, .ref v1)]) (S' := []) rfl ?_
    exact zco_sub [1, 2, 0] rfl (hr12 (v2 + 1))
set_option maxHeartbeats 2000000 in
set_option maxRecDepth 20000 in
theorem coX8_begin (l : Launch) (e : Nat) (he : 1 ≤ e) (v0 : Nat) (v1 : Nat) : zCo l (e + 1) 0 0 iX8_begin 0 [(0, .ref v0), (1, .ref v1)] [] (X8_begin v0 v1) := by
  unfold X8_begin
  refine zco_p tkX8_begin 0 2 (pc' := 2) (L' := [(0, .ref v0), (1, .ref v1)]) (S' := [.int 0, .ref v0]) rfl ?_
  refine zco_pi fl_8_9 rfl rfl (zdk (cc := cX8_begin) (q := (2, .putfield 9, 3)) tkX8_begin 2 rfl) ?_
  refine zco_p tkX8_begin 3 2 (pc' := 7) (L' := [(0, .ref v0), (1, .ref v1)]) (S' := [.int 0, .ref v0]) rfl ?_
  refine zco_pi fl_8_15 rfl rfl (zdk (cc := cX8_begin) (q := (7, .putfield 15, 3)) tkX8_begin 5 rfl) ?_
  refine zco_p tkX8_begin 6 2 (pc' := 12) (L' := [(2, .int 0), (0, .ref v0), (1, .ref v1)]) (S' := []) rfl ?_
  exact zco_sub [1, 2, 0] rfl (zco_fix (Lf := fun x : Int32 => [(0, .ref v0), (1, .ref v1), (2, .int x)]) (Sf := fun _ => []) (fun r hr x => coX8_begin_B12 l e he v0 v1 r hr x) zFU 0)
theorem mtX8_begin (l : Launch) (d : Nat) (hd : 2 ≤ d) (v0 : Nat) (v1 : Nat) : zMet l d 0 0 yX8_begin cX8_begin 3 (Option.none : Option FieldType) [.ref v0, .ref v1] (X8_begin v0 v1) := by
  obtain ⟨e, rfl⟩ : ∃ e, d = e + 1 := ⟨d - 1, by omega⟩
  exact zmet_of (own := RX8) (ini := false) (by decide +kernel) rfl (fun _ => by contradiction) (Nat.le_of_ble_eq_true rfl) (coX8_begin l e (by omega) v0 v1)
abbrev iX11_init : zI := (RX11, cX11_init, 1, (Option.none : Option FieldType), true)
def tX11_init : List (Nat × Instr × Nat) := [(0, .aload_n 0, 1), (1, .invokespecial 3, 3), (4, .aload_n 0, 1), (5, .sipush 1600, 3), (8, .newarray .int, 2), (10, .putfield 9, 3), (13, .aload_n 0, 1), (14, .iconst 0, 1), (15, .putfield 13, 3), (18, .aload_n 0, 1), (19, .new 17, 3), (22, .dup, 1), (23, .aload_n 0, 1), (24, .getfield 9, 3), (27, .invokespecial 19, 3), (30, .putfield 22, 3), (33, .aload_n 0, 1), (34, .new 26, 3), (37, .dup, 1), (38, .aload_n 0, 1), (39, .getfield 22, 3), (42, .invokespecial 28, 3), (45, .putfield 31, 3), (48, .aload_n 0, 1), (49, .new 35, 3), (52, .dup, 1), (53, .aload_n 0, 1), (54, .getfield 22, 3), (57, .aload_n 0, 1), (58, .getfield 31, 3), (61, .getfield 37, 3), (64, .invokespecial 41, 3), (67, .putfield 44, 3), (70, .aload_n 0, 1), (71, .new 48, 3), (74, .dup, 1), (75, .invokespecial 50, 3), (78, .putfield 51, 3), (81, .aload_n 0, 1), (82, .new 48, 3), (85, .dup, 1), (86, .invokespecial 50, 3), (89, .putfield 55, 3), (92, .aload_n 0, 1), (93, .new 58, 3), (96, .dup, 1), (97, .invokespecial 60, 3), (100, .putfield 61, 3), (103, .aload_n 0, 1), (104, .new 65, 3), (107, .dup, 1), (108, .aload_n 0, 1), (109, .getfield 51, 3), (112, .invokespecial 67, 3), (115, .putfield 70, 3), (118, .aload_n 0, 1), (119, .new 74, 3), (122, .dup, 1), (123, .aload_n 0, 1), (124, .getfield 70, 3), (127, .invokespecial 76, 3), (130, .putfield 79, 3), (133, .aload_n 0, 1), (134, .new 83, 3), (137, .dup, 1), (138, .invokespecial 85, 3), (141, .putfield 86, 3), (144, .aload_n 0, 1), (145, .new 90, 3), (148, .dup, 1), (149, .invokespecial 92, 3), (152, .putfield 93, 3), (155, .aload_n 0, 1), (156, .bipush 48, 2), (158, .newarray .int, 2), (160, .putfield 97, 3), (163, .aload_n 0, 1), (164, .iconst 0, 1), (165, .putfield 100, 3), (168, .aload_n 0, 1), (169, .sipush 184, 3), (172, .newarray .int, 2), (174, .putfield 103, 3), (177, .aload_n 0, 1), (178, .iconst 0, 1), (179, .putfield 106, 3), (182, .aload_n 0, 1), (183, .bipush 6, 2), (185, .newarray .int, 2), (187, .putfield 109, 3), (190, .aload_n 0, 1), (191, .iconst 0, 1), (192, .putfield 112, 3), (195, .aload_n 0, 1), (196, .iconst (-1), 1), (197, .putfield 115, 3), (200, .aload_n 0, 1), (201, .lconst 1, 1), (202, .putfield 118, 3), (205, .aload_n 0, 1), (206, .getfield 51, 3), (209, .invokevirtual 122, 3), (212, .aload_n 0, 1), (213, .getfield 61, 3), (216, .aload_n 0, 1), (217, .getfield 51, 3), (220, .invokevirtual 125, 3), (223, .return_, 1)]
set_option maxRecDepth 100000 in
theorem tkX11_init : ∀ q ∈ tX11_init, decode cX11_init q.1 = .ok q.2 := by decide +kernel
theorem vmX11_init : zIM yX11_init cX11_init 1 0 := ⟨kX11_init, q_173, q_149, rfl, by decide +kernel, by decide⟩
set_option maxHeartbeats 2000000 in
set_option maxRecDepth 20000 in
theorem coX11_init_J195 (l : Launch) (e : Nat) (he : 3 ≤ e) (v0 : Nat) : zCo l (e + 1) 0 0 iX11_init 195 [(0, .ref v0)] [] (X11_init_J195 v0) := by
  unfold X11_init_J195
  refine zco_p tkX11_init 93 2 (pc' := 197) (L' := [(0, .ref v0)]) (S' := [.int ((-1)), .ref v0]) rfl ?_
  refine zco_pi fl_11_115 rfl rfl (zdk (cc := cX11_init) (q := (197, .putfield 115, 3)) tkX11_init 95 rfl) ?_
  refine zco_p tkX11_init 96 2 (pc' := 202) (L' := [(0, .ref v0)]) (S' := [.long 1, .ref v0]) rfl ?_
  refine zco_pl fl_11_118 rfl rfl (zdk (cc := cX11_init) (q := (202, .putfield 118, 3)) tkX11_init 98 rfl) ?_
  refine zco_p tkX11_init 99 1 (pc' := 206) (L' := [(0, .ref v0)]) (S' := [.ref v0]) rfl ?_
  refine zco_gr fl_11_51 rfl (zdk (cc := cX11_init) (q := (206, .getfield 51, 3)) tkX11_init 100 rfl) (fun x1 => ?_)
  refine zco_Vv (rc := 0) (rs := 0) (mc := 0) (ms := 0) (As := []) (S := []) vmX1_complete (mtX1_complete l e (by omega) x1) q_528 rfl rfl (Nat.le_of_ble_eq_true rfl) (zdk (cc := cX11_init) (q := (209, .invokevirtual 122, 3)) tkX11_init 101 rfl) ?_
  refine zco_p tkX11_init 102 1 (pc' := 213) (L' := [(0, .ref v0)]) (S' := [.ref v0]) rfl ?_
  refine zco_gr fl_11_61 rfl (zdk (cc := cX11_init) (q := (213, .getfield 61, 3)) tkX11_init 103 rfl) (fun x2 => ?_)
  refine zco_p tkX11_init 104 1 (pc' := 217) (L' := [(0, .ref v0)]) (S' := [.ref v0, .ref x2]) rfl ?_
  refine zco_gr fl_11_51 rfl (zdk (cc := cX11_init) (q := (217, .getfield 51, 3)) tkX11_init 105 rfl) (fun x3 => ?_)
  refine zco_Vv (rc := 0) (rs := 0) (mc := 0) (ms := 0) (As := [.ref x3]) (S := []) vmX8_begin (mtX8_begin l e (by omega) x2 x3) q_552 rfl rfl (Nat.le_of_ble_eq_true rfl) (zdk (cc := cX11_init) (q := (220, .invokevirtual 125, 3)) tkX11_init 106 rfl) ?_
  exact zco_vret rfl rfl rfl (zdk (cc := cX11_init) (q := (223, .return_, 1)) tkX11_init 107 rfl)
set_option maxHeartbeats 2000000 in
set_option maxRecDepth 20000 in
theorem coX11_init_J103 (l : Launch) (e : Nat) (he : 3 ≤ e) (v0 : Nat) : zCo l (e + 1) 167 6028 iX11_init 103 [(0, .ref v0)] [] (X11_init_J103 v0) := by
  unfold X11_init_J103
  refine zco_p tkX11_init 48 1 (pc' := 104) (L' := [(0, .ref v0)]) (S' := [.ref v0]) rfl ?_
  refine zco_new (c := 10) rfl rfl dfX10 q_429 q_430 q_157 (zdk (cc := cX11_init) (q := (104, .new 65, 3)) tkX11_init 49 rfl) (fun a1 => ?_)
  refine zco_p tkX11_init 50 2 (pc' := 109) (L' := [(0, .ref v0)]) (S' := [.ref v0, .ref a1, .ref a1, .ref v0]) rfl ?_
  refine zco_gr fl_11_51 rfl (zdk (cc := cX11_init) (q := (109, .getfield 51, 3)) tkX11_init 52 rfl) (fun x2 => ?_)
  refine zco_I (rc := 162) (rs := 5984) (mc := 4) (ms := 39) (As := [.ref x2]) (S := [.ref a1, .ref v0]) vmX10_init (mtX10_init l e (by omega) a1 x2) q_431 rfl rfl (Nat.le_of_ble_eq_true rfl) (zdk (cc := cX11_init) (q := (112, .invokespecial 67, 3)) tkX11_init 53 rfl) ?_
  refine zco_prF fl_11_70 (Or.inl ⟨_, rfl⟩) rfl rfl (by decide +kernel) (zdk (cc := cX11_init) (q := (115, .putfield 70, 3)) tkX11_init 54 rfl) ?_
  refine zco_p tkX11_init 55 1 (pc' := 119) (L' := [(0, .ref v0)]) (S' := [.ref v0]) rfl ?_
  refine zco_new (c := 0) rfl rfl dfX0 q_455 q_456 q_158 (zdk (cc := cX11_init) (q := (119, .new 74, 3)) tkX11_init 56 rfl) (fun a3 => ?_)
  refine zco_p tkX11_init 57 2 (pc' := 124) (L' := [(0, .ref v0)]) (S' := [.ref v0, .ref a3, .ref a3, .ref v0]) rfl ?_
  refine zco_gr fl_11_70 rfl (zdk (cc := cX11_init) (q := (124, .getfield 70, 3)) tkX11_init 59 rfl) (fun x4 => ?_)
  refine zco_I (rc := 152) (rs := 5466) (mc := 9) (ms := 514) (As := [.ref x4]) (S := [.ref a3, .ref v0]) vmX0_init (mtX0_init l e (by omega) a3 x4) q_457 rfl rfl (Nat.le_of_ble_eq_true rfl) (zdk (cc := cX11_init) (q := (127, .invokespecial 76, 3)) tkX11_init 60 rfl) ?_
  refine zco_prF fl_11_79 (Or.inl ⟨_, rfl⟩) rfl rfl (by decide +kernel) (zdk (cc := cX11_init) (q := (130, .putfield 79, 3)) tkX11_init 61 rfl) ?_
  refine zco_p tkX11_init 62 1 (pc' := 134) (L' := [(0, .ref v0)]) (S' := [.ref v0]) rfl ?_
  refine zco_new (c := 5) rfl rfl dfX5 q_478 q_479 q_159 (zdk (cc := cX11_init) (q := (134, .new 83, 3)) tkX11_init 63 rfl) (fun a5 => ?_)
  refine zco_p tkX11_init 64 1 (pc' := 138) (L' := [(0, .ref v0)]) (S' := [.ref a5, .ref a5, .ref v0]) rfl ?_
  refine zco_J (rc := 147) (rs := 4924) (mc := 4) (ms := 538) (As := []) (S := [.ref a5, .ref v0]) vmX5_init (mtX5_init l e (by omega) a5) (host := "ClothWedding") (by decide +kernel) rfl rfl (Nat.le_of_ble_eq_true rfl) (zdk (cc := cX11_init) (q := (138, .invokespecial 85, 3)) tkX11_init 65 rfl) ?_
  refine zco_prF fl_11_86 (Or.inl ⟨_, rfl⟩) rfl rfl (by decide +kernel) (zdk (cc := cX11_init) (q := (141, .putfield 86, 3)) tkX11_init 66 rfl) ?_
  refine zco_p tkX11_init 67 1 (pc' := 145) (L' := [(0, .ref v0)]) (S' := [.ref v0]) rfl ?_
  refine zco_new (c := 6) rfl rfl dfX6 q_499 q_500 q_160 (zdk (cc := cX11_init) (q := (145, .new 90, 3)) tkX11_init 68 rfl) (fun a6 => ?_)
  refine zco_p tkX11_init 69 1 (pc' := 149) (L' := [(0, .ref v0)]) (S' := [.ref a6, .ref a6, .ref v0]) rfl ?_
  refine zco_I (rc := 3) (rs := 238) (mc := 143) (ms := 4680) (As := []) (S := [.ref a6, .ref v0]) vmX6_init (mtX6_init l e (by omega) a6) q_501 rfl rfl (Nat.le_of_ble_eq_true rfl) (zdk (cc := cX11_init) (q := (149, .invokespecial 92, 3)) tkX11_init 70 rfl) ?_
  refine zco_prF fl_11_93 (Or.inl ⟨_, rfl⟩) rfl rfl (by decide +kernel) (zdk (cc := cX11_init) (q := (152, .putfield 93, 3)) tkX11_init 71 rfl) ?_
  refine zco_p tkX11_init 72 2 (pc' := 158) (L' := [(0, .ref v0)]) (S' := [.int 48, .ref v0]) rfl ?_
  refine zco_newa_int (N := 48) q_202 (by decide) (by decide +kernel) (by decide) (zdk (cc := cX11_init) (q := (158, .newarray .int, 2)) tkX11_init 74 rfl) (fun a7 => ?_)
  refine zco_prF fl_11_97 (Or.inr ⟨_, rfl⟩) rfl rfl (by decide +kernel) (zdk (cc := cX11_init) (q := (160, .putfield 97, 3)) tkX11_init 75 rfl) ?_
  refine zco_p tkX11_init 76 2 (pc' := 165) (L' := [(0, .ref v0)]) (S' := [.int 0, .ref v0]) rfl ?_
  refine zco_pi fl_11_100 rfl rfl (zdk (cc := cX11_init) (q := (165, .putfield 100, 3)) tkX11_init 78 rfl) ?_
  refine zco_p tkX11_init 79 2 (pc' := 172) (L' := [(0, .ref v0)]) (S' := [.int 184, .ref v0]) rfl ?_
  refine zco_newa_int (N := 184) q_202 (by decide) (by decide +kernel) (by decide) (zdk (cc := cX11_init) (q := (172, .newarray .int, 2)) tkX11_init 81 rfl) (fun a8 => ?_)
  refine zco_prF fl_11_103 (Or.inr ⟨_, rfl⟩) rfl rfl (by decide +kernel) (zdk (cc := cX11_init) (q := (174, .putfield 103, 3)) tkX11_init 82 rfl) ?_
  refine zco_p tkX11_init 83 2 (pc' := 179) (L' := [(0, .ref v0)]) (S' := [.int 0, .ref v0]) rfl ?_
  refine zco_pi fl_11_106 rfl rfl (zdk (cc := cX11_init) (q := (179, .putfield 106, 3)) tkX11_init 85 rfl) ?_
  refine zco_p tkX11_init 86 2 (pc' := 185) (L' := [(0, .ref v0)]) (S' := [.int 6, .ref v0]) rfl ?_
  refine zco_newa_int (N := 6) q_202 (by decide) (by decide +kernel) (by decide) (zdk (cc := cX11_init) (q := (185, .newarray .int, 2)) tkX11_init 88 rfl) (fun a9 => ?_)
  refine zco_prF fl_11_109 (Or.inr ⟨_, rfl⟩) rfl rfl (by decide +kernel) (zdk (cc := cX11_init) (q := (187, .putfield 109, 3)) tkX11_init 89 rfl) ?_
  refine zco_p tkX11_init 90 2 (pc' := 192) (L' := [(0, .ref v0)]) (S' := [.int 0, .ref v0]) rfl ?_
  refine zco_pi fl_11_112 rfl rfl (zdk (cc := cX11_init) (q := (192, .putfield 112, 3)) tkX11_init 92 rfl) ?_
  exact zco_sub [0] rfl (coX11_init_J195 l e he v0)
set_option maxHeartbeats 2000000 in
set_option maxRecDepth 20000 in
theorem coX11_init (l : Launch) (e : Nat) (he : 3 ≤ e) (v0 : Nat) : zCo l (e + 1) 214 13634 iX11_init 0 [(0, .ref v0)] [] (X11_init v0) := by
  unfold X11_init
  refine zco_p tkX11_init 0 1 (pc' := 1) (L' := [(0, .ref v0)]) (S' := [.ref v0]) rfl ?_
  refine zco_obj (by omega) q_175 q_176 q_objc (Nat.le_of_ble_eq_true rfl) (zdk (cc := cX11_init) (q := (1, .invokespecial 3, 3)) tkX11_init 1 rfl) ?_
  refine zco_p tkX11_init 2 2 (pc' := 8) (L' := [(0, .ref v0)]) (S' := [.int 1600, .ref v0]) rfl ?_
  refine zco_newa_int (N := 1600) q_202 (by decide) (by decide +kernel) (by decide) (zdk (cc := cX11_init) (q := (8, .newarray .int, 2)) tkX11_init 4 rfl) (fun a1 => ?_)
  refine zco_prF fl_11_9 (Or.inr ⟨_, rfl⟩) rfl rfl (by decide +kernel) (zdk (cc := cX11_init) (q := (10, .putfield 9, 3)) tkX11_init 5 rfl) ?_
  refine zco_p tkX11_init 6 2 (pc' := 15) (L' := [(0, .ref v0)]) (S' := [.int 0, .ref v0]) rfl ?_
  refine zco_pi fl_11_13 rfl rfl (zdk (cc := cX11_init) (q := (15, .putfield 13, 3)) tkX11_init 8 rfl) ?_
  refine zco_p tkX11_init 9 1 (pc' := 19) (L' := [(0, .ref v0)]) (S' := [.ref v0]) rfl ?_
  refine zco_new (c := 9) rfl rfl dfX9 q_178 q_179 q_150 (zdk (cc := cX11_init) (q := (19, .new 17, 3)) tkX11_init 10 rfl) (fun a2 => ?_)
  refine zco_p tkX11_init 11 2 (pc' := 24) (L' := [(0, .ref v0)]) (S' := [.ref v0, .ref a2, .ref a2, .ref v0]) rfl ?_
  refine zco_gr fl_11_9 rfl (zdk (cc := cX11_init) (q := (24, .getfield 9, 3)) tkX11_init 13 rfl) (fun x3 => ?_)
  refine zco_I (rc := 212) (rs := 12029) (mc := 0) (ms := 0) (As := [.ref x3]) (S := [.ref a2, .ref v0]) vmX9_init (mtX9_init l e (by omega) a2 x3) q_180 rfl rfl (Nat.le_of_ble_eq_true rfl) (zdk (cc := cX11_init) (q := (27, .invokespecial 19, 3)) tkX11_init 14 rfl) ?_
  refine zco_prF fl_11_22 (Or.inl ⟨_, rfl⟩) rfl rfl (by decide +kernel) (zdk (cc := cX11_init) (q := (30, .putfield 22, 3)) tkX11_init 15 rfl) ?_
  refine zco_p tkX11_init 16 1 (pc' := 34) (L' := [(0, .ref v0)]) (S' := [.ref v0]) rfl ?_
  refine zco_new (c := 7) rfl rfl dfX7 q_203 q_204 q_151 (zdk (cc := cX11_init) (q := (34, .new 26, 3)) tkX11_init 17 rfl) (fun a4 => ?_)
  refine zco_p tkX11_init 18 2 (pc' := 39) (L' := [(0, .ref v0)]) (S' := [.ref v0, .ref a4, .ref a4, .ref v0]) rfl ?_
  refine zco_gr fl_11_22 rfl (zdk (cc := cX11_init) (q := (39, .getfield 22, 3)) tkX11_init 20 rfl) (fun x5 => ?_)
  refine zco_I (rc := 204) (rs := 10295) (mc := 7) (ms := 1729) (As := [.ref x5]) (S := [.ref a4, .ref v0]) vmX7_init (mtX7_init l e (by omega) a4 x5) q_205 rfl rfl (Nat.le_of_ble_eq_true rfl) (zdk (cc := cX11_init) (q := (42, .invokespecial 28, 3)) tkX11_init 21 rfl) ?_
  refine zco_prF fl_11_31 (Or.inl ⟨_, rfl⟩) rfl rfl (by decide +kernel) (zdk (cc := cX11_init) (q := (45, .putfield 31, 3)) tkX11_init 22 rfl) ?_
  refine zco_p tkX11_init 23 1 (pc' := 49) (L' := [(0, .ref v0)]) (S' := [.ref v0]) rfl ?_
  refine zco_new (c := 2) rfl rfl dfX2 q_272 q_273 q_154 (zdk (cc := cX11_init) (q := (49, .new 35, 3)) tkX11_init 24 rfl) (fun a6 => ?_)
  refine zco_p tkX11_init 25 2 (pc' := 54) (L' := [(0, .ref v0)]) (S' := [.ref v0, .ref a6, .ref a6, .ref v0]) rfl ?_
  refine zco_gr fl_11_22 rfl (zdk (cc := cX11_init) (q := (54, .getfield 22, 3)) tkX11_init 27 rfl) (fun x7 => ?_)
  refine zco_p tkX11_init 28 1 (pc' := 58) (L' := [(0, .ref v0)]) (S' := [.ref v0, .ref x7, .ref a6, .ref a6, .ref v0]) rfl ?_
  refine zco_gr fl_11_31 rfl (zdk (cc := cX11_init) (q := (58, .getfield 31, 3)) tkX11_init 29 rfl) (fun x8 => ?_)
  refine zco_gr fl_11_37 rfl (zdk (cc := cX11_init) (q := (61, .getfield 37, 3)) tkX11_init 30 rfl) (fun x9 => ?_)
  refine zco_I (rc := 202) (rs := 10286) (mc := 1) (ms := 6) (As := [.ref x7, .ref x9]) (S := [.ref a6, .ref v0]) vmX2_init (mtX2_init l e (by omega) a6 x7 x9) q_274 rfl rfl (Nat.le_of_ble_eq_true rfl) (zdk (cc := cX11_init) (q := (64, .invokespecial 41, 3)) tkX11_init 31 rfl) ?_
  refine zco_prF fl_11_44 (Or.inl ⟨_, rfl⟩) rfl rfl (by decide +kernel) (zdk (cc := cX11_init) (q := (67, .putfield 44, 3)) tkX11_init 32 rfl) ?_
  refine zco_p tkX11_init 33 1 (pc' := 71) (L' := [(0, .ref v0)]) (S' := [.ref v0]) rfl ?_
  refine zco_new (c := 1) rfl rfl dfX1 q_288 q_289 q_155 (zdk (cc := cX11_init) (q := (71, .new 48, 3)) tkX11_init 34 rfl) (fun a10 => ?_)
  refine zco_p tkX11_init 35 1 (pc' := 75) (L' := [(0, .ref v0)]) (S' := [.ref a10, .ref a10, .ref v0]) rfl ?_
  refine zco_J (rc := 188) (rs := 8257) (mc := 13) (ms := 2017) (As := []) (S := [.ref a10, .ref v0]) vmX1_init (mtX1_init l e (by omega) a10) (host := "ClothWedding") (by decide +kernel) rfl rfl (Nat.le_of_ble_eq_true rfl) (zdk (cc := cX11_init) (q := (75, .invokespecial 50, 3)) tkX11_init 36 rfl) ?_
  refine zco_pr fl_11_51 (Or.inl ⟨_, rfl⟩) rfl (zdk (cc := cX11_init) (q := (78, .putfield 51, 3)) tkX11_init 37 rfl) ?_
  refine zco_p tkX11_init 38 1 (pc' := 82) (L' := [(0, .ref v0)]) (S' := [.ref v0]) rfl ?_
  refine zco_new (c := 1) rfl rfl dfX1 q_288 q_289 q_155 (zdk (cc := cX11_init) (q := (82, .new 48, 3)) tkX11_init 39 rfl) (fun a11 => ?_)
  refine zco_p tkX11_init 40 1 (pc' := 86) (L' := [(0, .ref v0)]) (S' := [.ref a11, .ref a11, .ref v0]) rfl ?_
  refine zco_J (rc := 174) (rs := 6228) (mc := 13) (ms := 2017) (As := []) (S := [.ref a11, .ref v0]) vmX1_init (mtX1_init l e (by omega) a11) (host := "ClothWedding") (by decide +kernel) rfl rfl (Nat.le_of_ble_eq_true rfl) (zdk (cc := cX11_init) (q := (86, .invokespecial 50, 3)) tkX11_init 41 rfl) ?_
  refine zco_pr fl_11_55 (Or.inl ⟨_, rfl⟩) rfl (zdk (cc := cX11_init) (q := (89, .putfield 55, 3)) tkX11_init 42 rfl) ?_
  refine zco_p tkX11_init 43 1 (pc' := 93) (L' := [(0, .ref v0)]) (S' := [.ref v0]) rfl ?_
  refine zco_new (c := 8) rfl rfl dfX8 q_371 q_372 q_156 (zdk (cc := cX11_init) (q := (93, .new 58, 3)) tkX11_init 44 rfl) (fun a12 => ?_)
  refine zco_p tkX11_init 45 1 (pc' := 97) (L' := [(0, .ref v0)]) (S' := [.ref a12, .ref a12, .ref v0]) rfl ?_
  refine zco_J (rc := 167) (rs := 6028) (mc := 6) (ms := 192) (As := []) (S := [.ref a12, .ref v0]) vmX8_init (mtX8_init l e (by omega) a12) (host := "ClothWedding") (by decide +kernel) rfl rfl (Nat.le_of_ble_eq_true rfl) (zdk (cc := cX11_init) (q := (97, .invokespecial 60, 3)) tkX11_init 46 rfl) ?_
  refine zco_prF fl_11_61 (Or.inl ⟨_, rfl⟩) rfl rfl (by decide +kernel) (zdk (cc := cX11_init) (q := (100, .putfield 61, 3)) tkX11_init 47 rfl) ?_
  exact zco_sub [0] rfl (coX11_init_J103 l e he v0)
theorem mtX11_init (l : Launch) (d : Nat) (hd : 4 ≤ d) (v0 : Nat) : zMet l d 214 13634 yX11_init cX11_init 1 (Option.none : Option FieldType) [.ref v0] (X11_init v0) := by
  obtain ⟨e, rfl⟩ : ∃ e, d = e + 1 := ⟨d - 1, by omega⟩
  exact zmet_of (own := RX11) (ini := true) (by decide +kernel) rfl (fun _ => rfl) (Nat.le_of_ble_eq_true rfl) (coX11_init l e (by omega) v0)
abbrev iX11_refuse : zI := (RX11, cX11_refuse, 2, (Option.some .int), false)
def tX11_refuse : List (Nat × Instr × Nat) := [(0, .aload_n 0, 1), (1, .getfield 109, 3), (4, .iload_n 1, 1), (5, .dup2, 1), (6, .iaload, 1), (7, .iconst 1, 1), (8, .iadd, 1), (9, .iastore, 1), (10, .iconst (-1), 1), (11, .ireturn, 1)]
set_option maxRecDepth 100000 in
theorem tkX11_refuse : ∀ q ∈ tX11_refuse, decode cX11_refuse q.1 = .ok q.2 := by decide +kernel
theorem vmX11_refuse : zVM yX11_refuse cX11_refuse 2 (Option.some .int) 1 11 := ⟨kX11_refuse, q_626, q_1, q_149, ⟨_, rfl, rfl⟩, by decide +kernel, by decide⟩
set_option maxHeartbeats 2000000 in
set_option maxRecDepth 20000 in
theorem coX11_refuse (l : Launch) (e : Nat) (he : 0 ≤ e) (v0 : Nat) (v1 : Int32) : zCo l (e + 1) 0 0 iX11_refuse 0 [(0, .ref v0), (1, .int v1)] [] (X11_refuse v0 v1) := by
  unfold X11_refuse
  refine zco_p tkX11_refuse 0 1 (pc' := 1) (L' := [(0, .ref v0), (1, .int v1)]) (S' := [.ref v0]) rfl ?_
  refine zco_gr fl_11_109 rfl (zdk (cc := cX11_refuse) (q := (1, .getfield 109, 3)) tkX11_refuse 1 rfl) (fun x1 => ?_)
  refine zco_p tkX11_refuse 2 2 (pc' := 6) (L' := [(0, .ref v0), (1, .int v1)]) (S' := [.int v1, .ref x1, .int v1, .ref x1]) rfl ?_
  refine zco_iaload (zdk (cc := cX11_refuse) (q := (6, .iaload, 1)) tkX11_refuse 4 rfl) (fun x2 => ?_)
  refine zco_p tkX11_refuse 5 2 (pc' := 9) (L' := [(0, .ref v0), (1, .int v1)]) (S' := [.int (x2 + 1), .int v1, .ref x1]) rfl ?_
  refine zco_iastore (zdk (cc := cX11_refuse) (q := (9, .iastore, 1)) tkX11_refuse 7 rfl) ?_
  refine zco_p tkX11_refuse 8 1 (pc' := 11) (L' := [(0, .ref v0), (1, .int v1)]) (S' := [.int ((-1))]) rfl ?_
  exact zco_iret rfl rfl rfl (zdk (cc := cX11_refuse) (q := (11, .ireturn, 1)) tkX11_refuse 9 rfl)
theorem mtX11_refuse (l : Launch) (d : Nat) (hd : 1 ≤ d) (v0 : Nat) (v1 : Int32) : zMet l d 0 0 yX11_refuse cX11_refuse 2 (Option.some .int) [.ref v0, .int v1] (X11_refuse v0 v1) := by
  obtain ⟨e, rfl⟩ : ∃ e, d = e + 1 := ⟨d - 1, by omega⟩
  exact zmet_of (own := RX11) (ini := false) (by decide +kernel) rfl (fun _ => by contradiction) (Nat.le_of_ble_eq_true rfl) (coX11_refuse l e (by omega) v0 v1)
abbrev iX11_putFour : zI := (RX11, cX11_putFour, 3, (Option.none : Option FieldType), false)
def tX11_putFour : List (Nat × Instr × Nat) := [(0, .bipush 24, 2), (2, .istore_n 2, 1), (3, .iload_n 2, 1), (4, .ifCond .lt 45, 3), (7, .aload_n 0, 1), (8, .getfield 13, 3), (11, .sipush 1600, 3), (14, .if_icmp .ge 35, 3), (17, .aload_n 0, 1), (18, .getfield 9, 3), (21, .aload_n 0, 1), (22, .getfield 13, 3), (25, .iload_n 1, 1), (26, .iload_n 2, 1), (27, .iushr, 1), (28, .sipush 255, 3), (31, .iand, 1), (32, .iastore, 1), (33, .aload_n 0, 1), (34, .dup, 1), (35, .getfield 13, 3), (38, .iconst 1, 1), (39, .iadd, 1), (40, .putfield 13, 3), (43, .iinc 2 (-8), 3), (46, .goto (-43), 3), (49, .return_, 1)]
set_option maxRecDepth 100000 in
theorem tkX11_putFour : ∀ q ∈ tX11_putFour, decode cX11_putFour q.1 = .ok q.2 := by decide +kernel
theorem vmX11_putFour : zVM yX11_putFour cX11_putFour 3 (Option.none : Option FieldType) 1 11 := ⟨kX11_putFour, q_630, q_2, q_149, ⟨_, rfl, rfl⟩, by decide +kernel, by decide⟩
set_option maxHeartbeats 2000000 in
set_option maxRecDepth 20000 in
theorem coX11_putFour_B3 (l : Launch) (e : Nat) (he : 0 ≤ e) (v0 : Nat) (v1 : Int32) (r3 : Int32 → zM) (hr3 : ∀ x : Int32, zCo l (e + 1) 0 0 iX11_putFour 3 [(0, .ref v0), (1, .int v1), (2, .int x)] [] (r3 x)) (v2 : Int32) : zCo l (e + 1) 0 0 iX11_putFour 3 [(0, .ref v0), (1, .int v1), (2, .int v2)] [] (X11_putFour_B3 v0 v1 r3 v2) := by
  unfold X11_putFour_B3
  refine zco_p tkX11_putFour 2 1 (pc' := 4) (L' := [(0, .ref v0), (1, .int v1), (2, .int v2)]) (S' := [.int v2]) rfl ?_
  refine zco_if_lt (tgt := 49) (zdk (cc := cX11_putFour) (q := (4, .ifCond .lt 45, 3)) tkX11_putFour 3 rfl) rfl ?_ ?_
  · exact zco_vret rfl rfl rfl (zdk (cc := cX11_putFour) (q := (49, .return_, 1)) tkX11_putFour 26 rfl)
  · refine zco_p tkX11_putFour 4 1 (pc' := 8) (L' := [(0, .ref v0), (1, .int v1), (2, .int v2)]) (S' := [.ref v0]) rfl ?_
    refine zco_gi fl_11_13 rfl (zdk (cc := cX11_putFour) (q := (8, .getfield 13, 3)) tkX11_putFour 5 rfl) (fun x1 => ?_)
    refine zco_p tkX11_putFour 6 1 (pc' := 14) (L' := [(0, .ref v0), (1, .int v1), (2, .int v2)]) (S' := [.int 1600, .int x1]) rfl ?_
    refine zco_icmp_ge (tgt := 49) (zdk (cc := cX11_putFour) (q := (14, .if_icmp .ge 35, 3)) tkX11_putFour 7 rfl) rfl ?_ ?_
    · exact zco_vret rfl rfl rfl (zdk (cc := cX11_putFour) (q := (49, .return_, 1)) tkX11_putFour 26 rfl)
    · refine zco_p tkX11_putFour 8 1 (pc' := 18) (L' := [(0, .ref v0), (1, .int v1), (2, .int v2)]) (S' := [.ref v0]) rfl ?_
      refine zco_gr fl_11_9 rfl (zdk (cc := cX11_putFour) (q := (18, .getfield 9, 3)) tkX11_putFour 9 rfl) (fun x2 => ?_)
      refine zco_p tkX11_putFour 10 1 (pc' := 22) (L' := [(0, .ref v0), (1, .int v1), (2, .int v2)]) (S' := [.ref v0, .ref x2]) rfl ?_
      refine zco_gi fl_11_13 rfl (zdk (cc := cX11_putFour) (q := (22, .getfield 13, 3)) tkX11_putFour 11 rfl) (fun x3 => ?_)
      refine zco_p tkX11_putFour 12 5 (pc' := 32) (L' := [(0, .ref v0), (1, .int v1), (2, .int v2)]) (S' := [.int (((v1.toUInt32 >>> (v2.toUInt32 &&& Int32.toUInt32 31)).toInt32) &&& 255), .int x3, .ref x2]) rfl ?_
      refine zco_iastore (zdk (cc := cX11_putFour) (q := (32, .iastore, 1)) tkX11_putFour 17 rfl) ?_
      refine zco_p tkX11_putFour 18 2 (pc' := 35) (L' := [(0, .ref v0), (1, .int v1), (2, .int v2)]) (S' := [.ref v0, .ref v0]) rfl ?_
      refine zco_gi fl_11_13 rfl (zdk (cc := cX11_putFour) (q := (35, .getfield 13, 3)) tkX11_putFour 20 rfl) (fun x4 => ?_)
      refine zco_p tkX11_putFour 21 2 (pc' := 40) (L' := [(0, .ref v0), (1, .int v1), (2, .int v2)]) (S' := [.int (x4 + 1), .ref v0]) rfl ?_
      refine zco_pi fl_11_13 rfl rfl (zdk (cc := cX11_putFour) (q := (40, .putfield 13, 3)) tkX11_putFour 23 rfl) ?_
      refine zco_p tkX11_putFour 24 2 (pc' := 3) (L' := [(2, .int (v2 + (-8))), (0, .ref v0), (1, .int v1)]) (S' := []) rfl ?_
      exact zco_sub [1, 2, 0] rfl (hr3 (v2 + (-8)))
set_option maxHeartbeats 2000000 in
set_option maxRecDepth 20000 in
theorem coX11_putFour (l : Launch) (e : Nat) (he : 0 ≤ e) (v0 : Nat) (v1 : Int32) : zCo l (e + 1) 0 0 iX11_putFour 0 [(0, .ref v0), (1, .int v1)] [] (X11_putFour v0 v1) := by
  unfold X11_putFour
  refine zco_p tkX11_putFour 0 2 (pc' := 3) (L' := [(2, .int 24), (0, .ref v0), (1, .int v1)]) (S' := []) rfl ?_
  exact zco_sub [1, 2, 0] rfl (zco_fix (Lf := fun x : Int32 => [(0, .ref v0), (1, .int v1), (2, .int x)]) (Sf := fun _ => []) (fun r hr x => coX11_putFour_B3 l e he v0 v1 r hr x) zFU 24)
theorem mtX11_putFour (l : Launch) (d : Nat) (hd : 1 ≤ d) (v0 : Nat) (v1 : Int32) : zMet l d 0 0 yX11_putFour cX11_putFour 3 (Option.none : Option FieldType) [.ref v0, .int v1] (X11_putFour v0 v1) := by
  obtain ⟨e, rfl⟩ : ∃ e, d = e + 1 := ⟨d - 1, by omega⟩
  exact zmet_of (own := RX11) (ini := false) (by decide +kernel) rfl (fun _ => by contradiction) (Nat.le_of_ble_eq_true rfl) (coX11_putFour l e (by omega) v0 v1)
abbrev iX11_feed : zI := (RX11, cX11_feed, 6, (Option.some .int), false)
def tX11_feed : List (Nat × Instr × Nat) := [(0, .aload_n 0, 1), (1, .getfield 13, 3), (4, .bipush 20, 2), (6, .iadd, 1), (7, .sipush 1600, 3), (10, .if_icmp .le 9, 3), (13, .aload_n 0, 1), (14, .iconst 0, 1), (15, .invokevirtual 128, 3), (18, .ireturn, 1), (19, .aload_n 0, 1), (20, .iload_n 1, 1), (21, .invokevirtual 132, 3), (24, .aload_n 0, 1), (25, .iload_n 2, 1), (26, .invokevirtual 132, 3), (29, .aload_n 0, 1), (30, .iload_n 3, 1), (31, .invokevirtual 132, 3), (34, .aload_n 0, 1), (35, .iload 4, 2), (37, .invokevirtual 132, 3), (40, .aload_n 0, 1), (41, .iload 5, 2), (43, .invokevirtual 132, 3), (46, .aload_n 0, 1), (47, .getfield 13, 3), (50, .ireturn, 1)]
set_option maxRecDepth 100000 in
theorem tkX11_feed : ∀ q ∈ tX11_feed, decode cX11_feed q.1 = .ok q.2 := by decide +kernel
theorem vmX11_feed : zVM yX11_feed cX11_feed 6 (Option.some .int) 5 11 := ⟨kX11_feed, q_621, q_622, q_149, ⟨_, rfl, rfl⟩, by decide +kernel, by decide⟩
set_option maxHeartbeats 2000000 in
set_option maxRecDepth 20000 in
theorem coX11_feed (l : Launch) (e : Nat) (he : 1 ≤ e) (v0 : Nat) (v1 : Int32) (v2 : Int32) (v3 : Int32) (v4 : Int32) (v5 : Int32) : zCo l (e + 1) 0 0 iX11_feed 0 [(0, .ref v0), (1, .int v1), (2, .int v2), (3, .int v3), (4, .int v4), (5, .int v5)] [] (X11_feed v0 v1 v2 v3 v4 v5) := by
  unfold X11_feed
  refine zco_p tkX11_feed 0 1 (pc' := 1) (L' := [(0, .ref v0), (1, .int v1), (2, .int v2), (3, .int v3), (4, .int v4), (5, .int v5)]) (S' := [.ref v0]) rfl ?_
  refine zco_gi fl_11_13 rfl (zdk (cc := cX11_feed) (q := (1, .getfield 13, 3)) tkX11_feed 1 rfl) (fun x1 => ?_)
  refine zco_p tkX11_feed 2 3 (pc' := 10) (L' := [(0, .ref v0), (1, .int v1), (2, .int v2), (3, .int v3), (4, .int v4), (5, .int v5)]) (S' := [.int 1600, .int (x1 + 20)]) rfl ?_
  refine zco_icmp_le (tgt := 19) (zdk (cc := cX11_feed) (q := (10, .if_icmp .le 9, 3)) tkX11_feed 5 rfl) rfl ?_ ?_
  · refine zco_p tkX11_feed 10 2 (pc' := 21) (L' := [(0, .ref v0), (1, .int v1), (2, .int v2), (3, .int v3), (4, .int v4), (5, .int v5)]) (S' := [.int v1, .ref v0]) rfl ?_
    refine zco_Vv (rc := 0) (rs := 0) (mc := 0) (ms := 0) (As := [.int v1]) (S := []) vmX11_putFour (mtX11_putFour l e (by omega) v0 v1) q_628 rfl rfl (Nat.le_of_ble_eq_true rfl) (zdk (cc := cX11_feed) (q := (21, .invokevirtual 132, 3)) tkX11_feed 12 rfl) ?_
    refine zco_p tkX11_feed 13 2 (pc' := 26) (L' := [(0, .ref v0), (1, .int v1), (2, .int v2), (3, .int v3), (4, .int v4), (5, .int v5)]) (S' := [.int v2, .ref v0]) rfl ?_
    refine zco_Vv (rc := 0) (rs := 0) (mc := 0) (ms := 0) (As := [.int v2]) (S := []) vmX11_putFour (mtX11_putFour l e (by omega) v0 v2) q_628 rfl rfl (Nat.le_of_ble_eq_true rfl) (zdk (cc := cX11_feed) (q := (26, .invokevirtual 132, 3)) tkX11_feed 15 rfl) ?_
    refine zco_p tkX11_feed 16 2 (pc' := 31) (L' := [(0, .ref v0), (1, .int v1), (2, .int v2), (3, .int v3), (4, .int v4), (5, .int v5)]) (S' := [.int v3, .ref v0]) rfl ?_
    refine zco_Vv (rc := 0) (rs := 0) (mc := 0) (ms := 0) (As := [.int v3]) (S := []) vmX11_putFour (mtX11_putFour l e (by omega) v0 v3) q_628 rfl rfl (Nat.le_of_ble_eq_true rfl) (zdk (cc := cX11_feed) (q := (31, .invokevirtual 132, 3)) tkX11_feed 18 rfl) ?_
    refine zco_p tkX11_feed 19 2 (pc' := 37) (L' := [(0, .ref v0), (1, .int v1), (2, .int v2), (3, .int v3), (4, .int v4), (5, .int v5)]) (S' := [.int v4, .ref v0]) rfl ?_
    refine zco_Vv (rc := 0) (rs := 0) (mc := 0) (ms := 0) (As := [.int v4]) (S := []) vmX11_putFour (mtX11_putFour l e (by omega) v0 v4) q_628 rfl rfl (Nat.le_of_ble_eq_true rfl) (zdk (cc := cX11_feed) (q := (37, .invokevirtual 132, 3)) tkX11_feed 21 rfl) ?_
    refine zco_p tkX11_feed 22 2 (pc' := 43) (L' := [(0, .ref v0), (1, .int v1), (2, .int v2), (3, .int v3), (4, .int v4), (5, .int v5)]) (S' := [.int v5, .ref v0]) rfl ?_
    refine zco_Vv (rc := 0) (rs := 0) (mc := 0) (ms := 0) (As := [.int v5]) (S := []) vmX11_putFour (mtX11_putFour l e (by omega) v0 v5) q_628 rfl rfl (Nat.le_of_ble_eq_true rfl) (zdk (cc := cX11_feed) (q := (43, .invokevirtual 132, 3)) tkX11_feed 24 rfl) ?_
    refine zco_p tkX11_feed 25 1 (pc' := 47) (L' := [(0, .ref v0), (1, .int v1), (2, .int v2), (3, .int v3), (4, .int v4), (5, .int v5)]) (S' := [.ref v0]) rfl ?_
    refine zco_gi fl_11_13 rfl (zdk (cc := cX11_feed) (q := (47, .getfield 13, 3)) tkX11_feed 26 rfl) (fun x2 => ?_)
    exact zco_iret rfl rfl rfl (zdk (cc := cX11_feed) (q := (50, .ireturn, 1)) tkX11_feed 27 rfl)
  · refine zco_p tkX11_feed 6 2 (pc' := 15) (L' := [(0, .ref v0), (1, .int v1), (2, .int v2), (3, .int v3), (4, .int v4), (5, .int v5)]) (S' := [.int 0, .ref v0]) rfl ?_
    refine zco_Vi (rc := 0) (rs := 0) (mc := 0) (ms := 0) (As := [.int 0]) (S := []) vmX11_refuse (mtX11_refuse l e (by omega) v0 0) q_624 rfl rfl (Nat.le_of_ble_eq_true rfl) (zdk (cc := cX11_feed) (q := (15, .invokevirtual 128, 3)) tkX11_feed 8 rfl) (fun y3 => ?_)
    exact zco_iret rfl rfl rfl (zdk (cc := cX11_feed) (q := (18, .ireturn, 1)) tkX11_feed 9 rfl)
theorem mtX11_feed (l : Launch) (d : Nat) (hd : 2 ≤ d) (v0 : Nat) (v1 : Int32) (v2 : Int32) (v3 : Int32) (v4 : Int32) (v5 : Int32) : zMet l d 0 0 yX11_feed cX11_feed 6 (Option.some .int) [.ref v0, .int v1, .int v2, .int v3, .int v4, .int v5] (X11_feed v0 v1 v2 v3 v4 v5) := by
  obtain ⟨e, rfl⟩ : ∃ e, d = e + 1 := ⟨d - 1, by omega⟩
  exact zmet_of (own := RX11) (ini := false) (by decide +kernel) rfl (fun _ => by contradiction) (Nat.le_of_ble_eq_true rfl) (coX11_feed l e (by omega) v0 v1 v2 v3 v4 v5)
abbrev iX11_end : zI := (RX11, cX11_end, 2, (Option.some .boolean), false)
def tX11_end : List (Nat × Instr × Nat) := [(0, .iload_n 1, 1), (1, .ifCond .lt 11, 3), (4, .iload_n 1, 1), (5, .aload_n 0, 1), (6, .getfield 13, 3), (9, .if_icmp .le 11, 3), (12, .aload_n 0, 1), (13, .iconst 0, 1), (14, .invokevirtual 128, 3), (17, .pop, 1), (18, .iconst 0, 1), (19, .ireturn, 1), (20, .aload_n 0, 1), (21, .iload_n 1, 1), (22, .putfield 13, 3), (25, .iconst 1, 1), (26, .ireturn, 1)]
set_option maxRecDepth 100000 in
theorem tkX11_end : ∀ q ∈ tX11_end, decode cX11_end q.1 = .ok q.2 := by decide +kernel
theorem vmX11_end : zVM yX11_end cX11_end 2 (Option.some .boolean) 1 11 := ⟨kX11_end, q_633, q_634, q_149, ⟨_, rfl, rfl⟩, by decide +kernel, by decide⟩
set_option maxHeartbeats 2000000 in
set_option maxRecDepth 20000 in
theorem coX11_end_J12 (l : Launch) (e : Nat) (he : 1 ≤ e) (v0 : Nat) : zCo l (e + 1) 0 0 iX11_end 12 [(0, .ref v0)] [] (X11_end_J12 v0) := by
  unfold X11_end_J12
  refine zco_p tkX11_end 6 2 (pc' := 14) (L' := [(0, .ref v0)]) (S' := [.int 0, .ref v0]) rfl ?_
  refine zco_Vi (rc := 0) (rs := 0) (mc := 0) (ms := 0) (As := [.int 0]) (S := []) vmX11_refuse (mtX11_refuse l e (by omega) v0 0) q_624 rfl rfl (Nat.le_of_ble_eq_true rfl) (zdk (cc := cX11_end) (q := (14, .invokevirtual 128, 3)) tkX11_end 8 rfl) (fun y1 => ?_)
  refine zco_p tkX11_end 9 2 (pc' := 19) (L' := [(0, .ref v0)]) (S' := [.int 0]) rfl ?_
  exact zco_zret rfl rfl rfl (zdk (cc := cX11_end) (q := (19, .ireturn, 1)) tkX11_end 11 rfl)
set_option maxHeartbeats 2000000 in
set_option maxRecDepth 20000 in
theorem coX11_end (l : Launch) (e : Nat) (he : 1 ≤ e) (v0 : Nat) (v1 : Int32) : zCo l (e + 1) 0 0 iX11_end 0 [(0, .ref v0), (1, .int v1)] [] (X11_end v0 v1) := by
  unfold X11_end
  refine zco_p tkX11_end 0 1 (pc' := 1) (L' := [(0, .ref v0), (1, .int v1)]) (S' := [.int v1]) rfl ?_
  refine zco_if_lt (tgt := 12) (zdk (cc := cX11_end) (q := (1, .ifCond .lt 11, 3)) tkX11_end 1 rfl) rfl ?_ ?_
  · exact zco_sub [0] rfl (coX11_end_J12 l e he v0)
  · refine zco_p tkX11_end 2 2 (pc' := 6) (L' := [(0, .ref v0), (1, .int v1)]) (S' := [.ref v0, .int v1]) rfl ?_
    refine zco_gi fl_11_13 rfl (zdk (cc := cX11_end) (q := (6, .getfield 13, 3)) tkX11_end 4 rfl) (fun x1 => ?_)
    refine zco_icmp_le (tgt := 20) (zdk (cc := cX11_end) (q := (9, .if_icmp .le 11, 3)) tkX11_end 5 rfl) rfl ?_ ?_
    · refine zco_p tkX11_end 12 2 (pc' := 22) (L' := [(0, .ref v0), (1, .int v1)]) (S' := [.int v1, .ref v0]) rfl ?_
      refine zco_pi fl_11_13 rfl rfl (zdk (cc := cX11_end) (q := (22, .putfield 13, 3)) tkX11_end 14 rfl) ?_
      refine zco_p tkX11_end 15 1 (pc' := 26) (L' := [(0, .ref v0), (1, .int v1)]) (S' := [.int 1]) rfl ?_
      exact zco_zret rfl rfl rfl (zdk (cc := cX11_end) (q := (26, .ireturn, 1)) tkX11_end 16 rfl)
    · exact zco_sub [0] rfl (coX11_end_J12 l e he v0)
theorem mtX11_end (l : Launch) (d : Nat) (hd : 2 ≤ d) (v0 : Nat) (v1 : Int32) : zMet l d 0 0 yX11_end cX11_end 2 (Option.some .boolean) [.ref v0, .int v1] (X11_end v0 v1) := by
  obtain ⟨e, rfl⟩ : ∃ e, d = e + 1 := ⟨d - 1, by omega⟩
  exact zmet_of (own := RX11) (ini := false) (by decide +kernel) rfl (fun _ => by contradiction) (Nat.le_of_ble_eq_true rfl) (coX11_end l e (by omega) v0 v1)
abbrev iX11_takeTape : zI := (RX11, cX11_takeTape, 2, (Option.some .int), false)
def tX11_takeTape : List (Nat × Instr × Nat) := [(0, .aload_n 0, 1), (1, .getfield 13, 3), (4, .istore_n 1, 1), (5, .aload_n 0, 1), (6, .iconst 0, 1), (7, .putfield 13, 3), (10, .iload_n 1, 1), (11, .ireturn, 1)]
set_option maxRecDepth 100000 in
theorem tkX11_takeTape : ∀ q ∈ tX11_takeTape, decode cX11_takeTape q.1 = .ok q.2 := by decide +kernel
theorem vmX11_takeTape : zVM yX11_takeTape cX11_takeTape 2 (Option.some .int) 0 11 := ⟨kX11_takeTape, q_642, q_3, q_149, ⟨_, rfl, rfl⟩, by decide +kernel, by decide⟩
set_option maxHeartbeats 2000000 in
set_option maxRecDepth 20000 in
theorem coX11_takeTape (l : Launch) (e : Nat) (he : 0 ≤ e) (v0 : Nat) : zCo l (e + 1) 0 0 iX11_takeTape 0 [(0, .ref v0)] [] (X11_takeTape v0) := by
  unfold X11_takeTape
  refine zco_p tkX11_takeTape 0 1 (pc' := 1) (L' := [(0, .ref v0)]) (S' := [.ref v0]) rfl ?_
  refine zco_gi fl_11_13 rfl (zdk (cc := cX11_takeTape) (q := (1, .getfield 13, 3)) tkX11_takeTape 1 rfl) (fun x1 => ?_)
  refine zco_p tkX11_takeTape 2 3 (pc' := 7) (L' := [(1, .int x1), (0, .ref v0)]) (S' := [.int 0, .ref v0]) rfl ?_
  refine zco_pi fl_11_13 rfl rfl (zdk (cc := cX11_takeTape) (q := (7, .putfield 13, 3)) tkX11_takeTape 5 rfl) ?_
  refine zco_p tkX11_takeTape 6 1 (pc' := 11) (L' := [(1, .int x1), (0, .ref v0)]) (S' := [.int x1]) rfl ?_
  exact zco_iret rfl rfl rfl (zdk (cc := cX11_takeTape) (q := (11, .ireturn, 1)) tkX11_takeTape 7 rfl)
theorem mtX11_takeTape (l : Launch) (d : Nat) (hd : 1 ≤ d) (v0 : Nat) : zMet l d 0 0 yX11_takeTape cX11_takeTape 2 (Option.some .int) [.ref v0] (X11_takeTape v0) := by
  obtain ⟨e, rfl⟩ : ∃ e, d = e + 1 := ⟨d - 1, by omega⟩
  exact zmet_of (own := RX11) (ini := false) (by decide +kernel) rfl (fun _ => by contradiction) (Nat.le_of_ble_eq_true rfl) (coX11_takeTape l e (by omega) v0)
