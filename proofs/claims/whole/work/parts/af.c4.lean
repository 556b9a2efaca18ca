abbrev iX2_formula : zI := (RX2, cX2_formula, 4, (Option.none : Option FieldType), false)
def tX2_formula : List (Nat × Instr × Nat) := [(0, .aload_n 1, 1), (1, .getfield 148, 3), (4, .iload_n 2, 1), (5, .invokevirtual 152, 3), (8, .ifCond .eq 13, 3), (11, .aload_n 0, 1), (12, .getfield 15, 3), (15, .iconst 5, 1), (16, .iload_n 3, 1), (17, .invokevirtual 41, 3), (20, .return_, 1), (21, .aload_n 0, 1), (22, .getfield 15, 3), (25, .invokevirtual 79, 3), (28, .aload_n 1, 1), (29, .getfield 148, 3), (32, .iload_n 2, 1), (33, .invokevirtual 158, 3), (36, .aload_n 0, 1), (37, .getfield 19, 3), (40, .aload_n 1, 1), (41, .getfield 148, 3), (44, .iload_n 2, 1), (45, .invokevirtual 160, 3), (48, .iload_n 2, 1), (49, .iconst 1, 1), (50, .if_icmp .ne 14, 3), (53, .aload_n 0, 1), (54, .getfield 19, 3), (57, .iconst 0, 1), (58, .invokevirtual 166, 3), (61, .goto 11, 3), (64, .aload_n 0, 1), (65, .getfield 19, 3), (68, .iconst 0, 1), (69, .invokevirtual 169, 3), (72, .aload_n 1, 1), (73, .getfield 148, 3), (76, .iload_n 2, 1), (77, .invokevirtual 172, 3), (80, .return_, 1)]
set_option maxRecDepth 100000 in
theorem tkX2_formula : ∀ q ∈ tX2_formula, decode cX2_formula q.1 = .ok q.2 := by decide +kernel
theorem vmX2_formula : zVM yX2_formula cX2_formula 4 (Option.none : Option FieldType) 3 2 := ⟨kX2_formula, q_819, q_10, q_154, ⟨_, rfl, rfl⟩, by decide +kernel, by decide⟩
set_option maxHeartbeats 2000000 in
set_option maxRecDepth 20000 in
theorem coX2_formula_J72 (l : Launch) (e : Nat) (he : 71 ≤ e) (v1 : Nat) (v2 : Int32) : zCo l (e + 1) 0 0 iX2_formula 72 [(1, .ref v1), (2, .int v2)] [] (X2_formula_J72 v1 v2) := by
  unfold X2_formula_J72
  refine zco_p tkX2_formula 36 1 (pc' := 73) (L' := [(1, .ref v1), (2, .int v2)]) (S' := [.ref v1]) rfl ?_
  refine zco_gr fl_2_148 rfl (zdk (cc := cX2_formula) (q := (73, .getfield 148, 3)) tkX2_formula 37 rfl) (fun x1 => ?_)
  refine zco_p tkX2_formula 38 1 (pc' := 77) (L' := [(1, .ref v1), (2, .int v2)]) (S' := [.int v2, .ref x1]) rfl ?_
  refine zco_Vv (rc := 0) (rs := 0) (mc := 0) (ms := 0) (As := [.int v2]) (S := []) vmX3_finish (mtX3_finish l e (by omega) x1 v2) q_898 rfl rfl (Nat.le_of_ble_eq_true rfl) (zdk (cc := cX2_formula) (q := (77, .invokevirtual 172, 3)) tkX2_formula 39 rfl) ?_
  exact zco_vret rfl rfl rfl (zdk (cc := cX2_formula) (q := (80, .return_, 1)) tkX2_formula 40 rfl)
set_option maxHeartbeats 2000000 in
set_option maxRecDepth 20000 in
theorem coX2_formula (l : Launch) (e : Nat) (he : 71 ≤ e) (v0 : Nat) (v1 : Nat) (v2 : Int32) (v3 : Int32) : zCo l (e + 1) 0 0 iX2_formula 0 [(0, .ref v0), (1, .ref v1), (2, .int v2), (3, .int v3)] [] (X2_formula v0 v1 v2 v3) := by
  unfold X2_formula
  refine zco_p tkX2_formula 0 1 (pc' := 1) (L' := [(0, .ref v0), (1, .ref v1), (2, .int v2), (3, .int v3)]) (S' := [.ref v1]) rfl ?_
  refine zco_gr fl_2_148 rfl (zdk (cc := cX2_formula) (q := (1, .getfield 148, 3)) tkX2_formula 1 rfl) (fun x1 => ?_)
  refine zco_p tkX2_formula 2 1 (pc' := 5) (L' := [(0, .ref v0), (1, .ref v1), (2, .int v2), (3, .int v3)]) (S' := [.int v2, .ref x1]) rfl ?_
  refine zco_Vi (rc := 0) (rs := 0) (mc := 0) (ms := 0) (As := [.int v2]) (S := []) vmX3_holds (mtX3_holds l e (by omega) x1 v2) q_821 rfl rfl (Nat.le_of_ble_eq_true rfl) (zdk (cc := cX2_formula) (q := (5, .invokevirtual 152, 3)) tkX2_formula 3 rfl) (fun y2 => ?_)
  refine zco_if_eq (tgt := 21) (zdk (cc := cX2_formula) (q := (8, .ifCond .eq 13, 3)) tkX2_formula 4 rfl) rfl ?_ ?_
  · refine zco_p tkX2_formula 11 1 (pc' := 22) (L' := [(0, .ref v0), (1, .ref v1), (2, .int v2), (3, .int v3)]) (S' := [.ref v0]) rfl ?_
    refine zco_gr fl_2_15 rfl (zdk (cc := cX2_formula) (q := (22, .getfield 15, 3)) tkX2_formula 12 rfl) (fun x3 => ?_)
    refine zco_Vv (rc := 0) (rs := 0) (mc := 0) (ms := 0) (As := []) (S := []) vmX9_passWord (mtX9_passWord l e (by omega) x3) q_761 rfl rfl (Nat.le_of_ble_eq_true rfl) (zdk (cc := cX2_formula) (q := (25, .invokevirtual 79, 3)) tkX2_formula 13 rfl) ?_
    refine zco_p tkX2_formula 14 1 (pc' := 29) (L' := [(0, .ref v0), (1, .ref v1), (2, .int v2), (3, .int v3)]) (S' := [.ref v1]) rfl ?_
    refine zco_gr fl_2_148 rfl (zdk (cc := cX2_formula) (q := (29, .getfield 148, 3)) tkX2_formula 15 rfl) (fun x4 => ?_)
    refine zco_p tkX2_formula 16 1 (pc' := 33) (L' := [(0, .ref v0), (1, .ref v1), (2, .int v2), (3, .int v3)]) (S' := [.int v2, .ref x4]) rfl ?_
    refine zco_Vv (rc := 0) (rs := 0) (mc := 0) (ms := 0) (As := [.int v2]) (S := []) vmX3_begin (mtX3_begin l e (by omega) x4 v2) q_822 rfl rfl (Nat.le_of_ble_eq_true rfl) (zdk (cc := cX2_formula) (q := (33, .invokevirtual 158, 3)) tkX2_formula 17 rfl) ?_
    refine zco_p tkX2_formula 18 1 (pc' := 37) (L' := [(0, .ref v0), (1, .ref v1), (2, .int v2), (3, .int v3)]) (S' := [.ref v0]) rfl ?_
    refine zco_gr fl_2_19 rfl (zdk (cc := cX2_formula) (q := (37, .getfield 19, 3)) tkX2_formula 19 rfl) (fun x5 => ?_)
    refine zco_p tkX2_formula 20 1 (pc' := 41) (L' := [(0, .ref v0), (1, .ref v1), (2, .int v2), (3, .int v3)]) (S' := [.ref v1, .ref x5]) rfl ?_
    refine zco_gr fl_2_148 rfl (zdk (cc := cX2_formula) (q := (41, .getfield 148, 3)) tkX2_formula 21 rfl) (fun x6 => ?_)
    refine zco_p tkX2_formula 22 1 (pc' := 45) (L' := [(0, .ref v0), (1, .ref v1), (2, .int v2), (3, .int v3)]) (S' := [.int v2, .ref x6, .ref x5]) rfl ?_
    refine zco_Vv (rc := 0) (rs := 0) (mc := 0) (ms := 0) (As := [.ref x6, .int v2]) (S := []) vmX4_ofChurch (mtX4_ofChurch l e (by omega) x5 x6 v2) q_823 rfl rfl (Nat.le_of_ble_eq_true rfl) (zdk (cc := cX2_formula) (q := (45, .invokevirtual 160, 3)) tkX2_formula 23 rfl) ?_
    refine zco_p tkX2_formula 24 2 (pc' := 50) (L' := [(0, .ref v0), (1, .ref v1), (2, .int v2), (3, .int v3)]) (S' := [.int 1, .int v2]) rfl ?_
    refine zco_icmp_ne (tgt := 64) (zdk (cc := cX2_formula) (q := (50, .if_icmp .ne 14, 3)) tkX2_formula 26 rfl) rfl ?_ ?_
    · refine zco_p tkX2_formula 32 1 (pc' := 65) (L' := [(0, .ref v0), (1, .ref v1), (2, .int v2), (3, .int v3)]) (S' := [.ref v0]) rfl ?_
      refine zco_gr fl_2_19 rfl (zdk (cc := cX2_formula) (q := (65, .getfield 19, 3)) tkX2_formula 33 rfl) (fun x7 => ?_)
      refine zco_p tkX2_formula 34 1 (pc' := 69) (L' := [(0, .ref v0), (1, .ref v1), (2, .int v2), (3, .int v3)]) (S' := [.int 0, .ref x7]) rfl ?_
      refine zco_Wv (rc := 0) (rs := 0) (mc := 0) (ms := 0) (As := [.int 0]) (S := []) vmX4_sum (mtX4_sum l e (by omega) x7 0) (host := "ClothWedding") (by decide +kernel) rfl rfl (Nat.le_of_ble_eq_true rfl) (zdk (cc := cX2_formula) (q := (69, .invokevirtual 169, 3)) tkX2_formula 35 rfl) ?_
      exact zco_sub [1, 2] rfl (coX2_formula_J72 l e he v1 v2)
    · refine zco_p tkX2_formula 27 1 (pc' := 54) (L' := [(0, .ref v0), (1, .ref v1), (2, .int v2), (3, .int v3)]) (S' := [.ref v0]) rfl ?_
      refine zco_gr fl_2_19 rfl (zdk (cc := cX2_formula) (q := (54, .getfield 19, 3)) tkX2_formula 28 rfl) (fun x8 => ?_)
      refine zco_p tkX2_formula 29 1 (pc' := 58) (L' := [(0, .ref v0), (1, .ref v1), (2, .int v2), (3, .int v3)]) (S' := [.int 0, .ref x8]) rfl ?_
      refine zco_Wv (rc := 0) (rs := 0) (mc := 0) (ms := 0) (As := [.int 0]) (S := []) vmX4_test (mtX4_test l e (by omega) x8 0) (host := "ClothWedding") (by decide +kernel) rfl rfl (Nat.le_of_ble_eq_true rfl) (zdk (cc := cX2_formula) (q := (58, .invokevirtual 166, 3)) tkX2_formula 30 rfl) ?_
      refine zco_p tkX2_formula 31 1 (pc' := 72) (L' := [(0, .ref v0), (1, .ref v1), (2, .int v2), (3, .int v3)]) (S' := []) rfl ?_
      exact zco_sub [1, 2] rfl (coX2_formula_J72 l e he v1 v2)
  · refine zco_p tkX2_formula 5 1 (pc' := 12) (L' := [(0, .ref v0), (1, .ref v1), (2, .int v2), (3, .int v3)]) (S' := [.ref v0]) rfl ?_
    refine zco_gr fl_2_15 rfl (zdk (cc := cX2_formula) (q := (12, .getfield 15, 3)) tkX2_formula 6 rfl) (fun x9 => ?_)
    refine zco_p tkX2_formula 7 2 (pc' := 17) (L' := [(0, .ref v0), (1, .ref v1), (2, .int v2), (3, .int v3)]) (S' := [.int v3, .int 5, .ref x9]) rfl ?_
    refine zco_Vv (rc := 0) (rs := 0) (mc := 0) (ms := 0) (As := [.int 5, .int v3]) (S := []) vmX9_fail (mtX9_fail l e (by omega) x9 5 v3) q_677 rfl rfl (Nat.le_of_ble_eq_true rfl) (zdk (cc := cX2_formula) (q := (17, .invokevirtual 41, 3)) tkX2_formula 9 rfl) ?_
    exact zco_vret rfl rfl rfl (zdk (cc := cX2_formula) (q := (20, .return_, 1)) tkX2_formula 10 rfl)
theorem mtX2_formula (l : Launch) (d : Nat) (hd : 72 ≤ d) (v0 : Nat) (v1 : Nat) (v2 : Int32) (v3 : Int32) : zMet l d 0 0 yX2_formula cX2_formula 4 (Option.none : Option FieldType) [.ref v0, .ref v1, .int v2, .int v3] (X2_formula v0 v1 v2 v3) := by
  obtain ⟨e, rfl⟩ : ∃ e, d = e + 1 := ⟨d - 1, by omega⟩
  exact zmet_of (own := RX2) (ini := false) (by decide +kernel) rfl (fun _ => by contradiction) (Nat.le_of_ble_eq_true rfl) (coX2_formula l e (by omega) v0 v1 v2 v3)
abbrev iX2_statement : zI := (RX2, cX2_statement, 4, (Option.none : Option FieldType), false)
def tX2_statement : List (Nat × Instr × Nat) := [(0, .aload_n 0, 1), (1, .getfield 15, 3), (4, .invokevirtual 37, 3), (7, .istore_n 2, 1), (8, .aload_n 0, 1), (9, .getfield 15, 3), (12, .ldc 56, 2), (14, .invokevirtual 58, 3), (17, .istore_n 3, 1), (18, .iload_n 3, 1), (19, .tableswitch 156 0 9 #[53, 53, 63, 71, 83, 95, 119, 119, 119, 132], 53), (72, .aload_n 0, 1), (73, .aload_n 1, 1), (74, .iload_n 3, 1), (75, .iload_n 2, 1), (76, .invokevirtual 62, 3), (79, .goto 105, 3), (82, .aload_n 0, 1), (83, .aload_n 1, 1), (84, .invokevirtual 66, 3), (87, .goto 97, 3), (90, .aload_n 0, 1), (91, .aload_n 1, 1), (92, .aload_n 1, 1), (93, .getfield 69, 3), (96, .invokevirtual 72, 3), (99, .goto 85, 3), (102, .aload_n 0, 1), (103, .aload_n 1, 1), (104, .aload_n 1, 1), (105, .getfield 76, 3), (108, .invokevirtual 72, 3), (111, .goto 73, 3), (114, .aload_n 0, 1), (115, .getfield 15, 3), (118, .invokevirtual 79, 3), (121, .aload_n 1, 1), (122, .aload_n 0, 1), (123, .getfield 15, 3), (126, .iconst 1, 1), (127, .bipush 12, 2), (129, .invokevirtual 82, 3), (132, .putfield 86, 3), (135, .goto 49, 3), (138, .aload_n 0, 1), (139, .aload_n 1, 1), (140, .iload_n 3, 1), (141, .bipush 6, 2), (143, .isub, 1), (144, .iload_n 2, 1), (145, .invokevirtual 90, 3), (148, .goto 36, 3), (151, .aload_n 0, 1), (152, .getfield 15, 3), (155, .invokevirtual 79, 3), (158, .aload_n 1, 1), (159, .aload_n 0, 1), (160, .getfield 15, 3), (163, .iconst 0, 1), (164, .bipush 100, 2), (166, .invokevirtual 82, 3), (169, .putfield 93, 3), (172, .goto 12, 3), (175, .aload_n 0, 1), (176, .getfield 15, 3), (179, .iconst 1, 1), (180, .iload_n 2, 1), (181, .invokevirtual 41, 3), (184, .return_, 1)]
set_option maxRecDepth 100000 in
theorem tkX2_statement : ∀ q ∈ tX2_statement, decode cX2_statement q.1 = .ok q.2 := by decide +kernel
theorem vmX2_statement : zVM yX2_statement cX2_statement 4 (Option.none : Option FieldType) 1 2 := ⟨kX2_statement, q_683, q_4, q_154, ⟨_, rfl, rfl⟩, by decide +kernel, by decide⟩
set_option maxHeartbeats 2000000 in
set_option maxRecDepth 20000 in
theorem coX2_statement_J138 (l : Launch) (e : Nat) (he : 72 ≤ e) (v0 : Nat) (v1 : Nat) (v2 : Int32) (v3 : Int32) : zCo l (e + 1) 0 0 iX2_statement 138 [(0, .ref v0), (1, .ref v1), (2, .int v2), (3, .int v3)] [] (X2_statement_J138 v0 v1 v2 v3) := by
  unfold X2_statement_J138
  refine zco_p tkX2_statement 44 6 (pc' := 145) (L' := [(0, .ref v0), (1, .ref v1), (2, .int v2), (3, .int v3)]) (S' := [.int v2, .int (v3 - 6), .ref v1, .ref v0]) rfl ?_
  refine zco_Vv (rc := 0) (rs := 0) (mc := 0) (ms := 0) (As := [.ref v1, .int (v3 - 6), .int v2]) (S := []) vmX2_formula (mtX2_formula l e (by omega) v0 v1 (v3 - 6) v2) q_817 rfl rfl (Nat.le_of_ble_eq_true rfl) (zdk (cc := cX2_statement) (q := (145, .invokevirtual 90, 3)) tkX2_statement 50 rfl) ?_
  refine zco_p tkX2_statement 51 1 (pc' := 184) (L' := [(0, .ref v0), (1, .ref v1), (2, .int v2), (3, .int v3)]) (S' := []) rfl ?_
  exact zco_vret rfl rfl rfl (zdk (cc := cX2_statement) (q := (184, .return_, 1)) tkX2_statement 68 rfl)
set_option maxHeartbeats 2000000 in
set_option maxRecDepth 20000 in
theorem coX2_statement_J72 (l : Launch) (e : Nat) (he : 72 ≤ e) (v0 : Nat) (v1 : Nat) (v2 : Int32) (v3 : Int32) : zCo l (e + 1) 0 0 iX2_statement 72 [(0, .ref v0), (1, .ref v1), (2, .int v2), (3, .int v3)] [] (X2_statement_J72 v0 v1 v2 v3) := by
  unfold X2_statement_J72
  refine zco_p tkX2_statement 11 4 (pc' := 76) (L' := [(0, .ref v0), (1, .ref v1), (2, .int v2), (3, .int v3)]) (S' := [.int v2, .int v3, .ref v1, .ref v0]) rfl ?_
  refine zco_Vv (rc := 0) (rs := 0) (mc := 0) (ms := 0) (As := [.ref v1, .int v3, .int v2]) (S := []) vmX2_someone (mtX2_someone l e (by omega) v0 v1 v3 v2) q_757 rfl rfl (Nat.le_of_ble_eq_true rfl) (zdk (cc := cX2_statement) (q := (76, .invokevirtual 62, 3)) tkX2_statement 15 rfl) ?_
  refine zco_p tkX2_statement 16 1 (pc' := 184) (L' := [(0, .ref v0), (1, .ref v1), (2, .int v2), (3, .int v3)]) (S' := []) rfl ?_
  exact zco_vret rfl rfl rfl (zdk (cc := cX2_statement) (q := (184, .return_, 1)) tkX2_statement 68 rfl)
set_option maxHeartbeats 2000000 in
set_option maxRecDepth 20000 in
theorem coX2_statement (l : Launch) (e : Nat) (he : 72 ≤ e) (v0 : Nat) (v1 : Nat) : zCo l (e + 1) 0 0 iX2_statement 0 [(0, .ref v0), (1, .ref v1)] [] (X2_statement v0 v1) := by
  unfold X2_statement
  refine zco_p tkX2_statement 0 1 (pc' := 1) (L' := [(0, .ref v0), (1, .ref v1)]) (S' := [.ref v0]) rfl ?_
  refine zco_gr fl_2_15 rfl (zdk (cc := cX2_statement) (q := (1, .getfield 15, 3)) tkX2_statement 1 rfl) (fun x1 => ?_)
  refine zco_Vi (rc := 0) (rs := 0) (mc := 0) (ms := 0) (As := []) (S := []) vmX9_begin (mtX9_begin l e (by omega) x1) q_676 rfl rfl (Nat.le_of_ble_eq_true rfl) (zdk (cc := cX2_statement) (q := (4, .invokevirtual 37, 3)) tkX2_statement 2 rfl) (fun y2 => ?_)
  refine zco_p tkX2_statement 3 2 (pc' := 9) (L' := [(2, .int y2), (0, .ref v0), (1, .ref v1)]) (S' := [.ref v0]) rfl ?_
  refine zco_gr fl_2_15 rfl (zdk (cc := cX2_statement) (q := (9, .getfield 15, 3)) tkX2_statement 5 rfl) (fun x3 => ?_)
  refine zco_ldcS (i := 1) rfl (zdk (cc := cX2_statement) (q := (12, .ldc 56, 2)) tkX2_statement 6 rfl) ?_
  refine zco_Vi (rc := 0) (rs := 0) (mc := 0) (ms := 0) (As := [.ref (zB + 1)]) (S := []) vmX9_wordIn (mtX9_wordIn l e (by omega) x3 (zB + 1)) q_686 rfl rfl (Nat.le_of_ble_eq_true rfl) (zdk (cc := cX2_statement) (q := (14, .invokevirtual 58, 3)) tkX2_statement 7 rfl) (fun y4 => ?_)
  refine zco_p tkX2_statement 8 2 (pc' := 19) (L' := [(3, .int y4), (2, .int y2), (0, .ref v0), (1, .ref v1)]) (S' := [.int y4]) rfl ?_
  refine @zco_tab l (e + 1) 0 0 iX2_statement 19 [(3, .int y4), (2, .int y2), (0, .ref v0), (1, .ref v1)] [] _ y4 156 0 9 #[53, 53, 63, 71, 83, 95, 119, 119, 119, 132] 53 (zdk (cc := cX2_statement) (q := (19, .tableswitch 156 0 9 #[53, 53, 63, 71, 83, 95, 119, 119, 119, 132], 53)) tkX2_statement 10 rfl) 175 rfl [72, 72, 82, 90, 102, 114, 138, 138, 138, 151] (X2_statement_S19 v0 v1 y2 y4) (by decide) (by decide) ?_ (fun j t ht => ?_)
  · refine zco_p tkX2_statement 63 1 (pc' := 176) (L' := [(3, .int y4), (2, .int y2), (0, .ref v0), (1, .ref v1)]) (S' := [.ref v0]) rfl ?_
    refine zco_gr fl_2_15 rfl (zdk (cc := cX2_statement) (q := (176, .getfield 15, 3)) tkX2_statement 64 rfl) (fun x5 => ?_)
    refine zco_p tkX2_statement 65 2 (pc' := 181) (L' := [(3, .int y4), (2, .int y2), (0, .ref v0), (1, .ref v1)]) (S' := [.int y2, .int 1, .ref x5]) rfl ?_
    refine zco_Vv (rc := 0) (rs := 0) (mc := 0) (ms := 0) (As := [.int 1, .int y2]) (S := []) vmX9_fail (mtX9_fail l e (by omega) x5 1 y2) q_677 rfl rfl (Nat.le_of_ble_eq_true rfl) (zdk (cc := cX2_statement) (q := (181, .invokevirtual 41, 3)) tkX2_statement 67 rfl) ?_
    exact zco_vret rfl rfl rfl (zdk (cc := cX2_statement) (q := (184, .return_, 1)) tkX2_statement 68 rfl)
  · match j, ht with
    | 0, ht =>
      cases ht
      show zCo l (e + 1) 0 0 iX2_statement 72 [(3, .int y4), (2, .int y2), (0, .ref v0), (1, .ref v1)] [] (X2_statement_J72 v0 v1 y2 y4)
      exact zco_sub [2, 3, 1, 0] rfl (coX2_statement_J72 l e he v0 v1 y2 y4)
    | 1, ht =>
      cases ht
      show zCo l (e + 1) 0 0 iX2_statement 72 [(3, .int y4), (2, .int y2), (0, .ref v0), (1, .ref v1)] [] (X2_statement_J72 v0 v1 y2 y4)
      exact zco_sub [2, 3, 1, 0] rfl (coX2_statement_J72 l e he v0 v1 y2 y4)
    | 2, ht =>
      cases ht
      show zCo l (e + 1) 0 0 iX2_statement 82 [(3, .int y4), (2, .int y2), (0, .ref v0), (1, .ref v1)] [] (z_rc 2 v0 (z_cv (X2_kinship v0 v1) (z_ret none)))
      refine zco_p tkX2_statement 17 2 (pc' := 84) (L' := [(3, .int y4), (2, .int y2), (0, .ref v0), (1, .ref v1)]) (S' := [.ref v1, .ref v0]) rfl ?_
      refine zco_Vv (rc := 0) (rs := 0) (mc := 0) (ms := 0) (As := [.ref v1]) (S := []) vmX2_kinship (mtX2_kinship l e (by omega) v0 v1) q_794 rfl rfl (Nat.le_of_ble_eq_true rfl) (zdk (cc := cX2_statement) (q := (84, .invokevirtual 66, 3)) tkX2_statement 19 rfl) ?_
      refine zco_p tkX2_statement 20 1 (pc' := 184) (L' := [(3, .int y4), (2, .int y2), (0, .ref v0), (1, .ref v1)]) (S' := []) rfl ?_
      exact zco_vret rfl rfl rfl (zdk (cc := cX2_statement) (q := (184, .return_, 1)) tkX2_statement 68 rfl)
    | 3, ht =>
      cases ht
      show zCo l (e + 1) 0 0 iX2_statement 90 [(3, .int y4), (2, .int y2), (0, .ref v0), (1, .ref v1)] [] (z_gr 1 7 v1 fun x6 => z_rc 2 v0 (z_cv (X2_bearing v0 v1 x6) (z_ret none)))
      refine zco_p tkX2_statement 21 3 (pc' := 93) (L' := [(3, .int y4), (2, .int y2), (0, .ref v0), (1, .ref v1)]) (S' := [.ref v1, .ref v1, .ref v0]) rfl ?_
      refine zco_gr fl_2_69 rfl (zdk (cc := cX2_statement) (q := (93, .getfield 69, 3)) tkX2_statement 24 rfl) (fun x6 => ?_)
      refine zco_Vv (rc := 0) (rs := 0) (mc := 0) (ms := 0) (As := [.ref v1, .ref x6]) (S := []) vmX2_bearing (mtX2_bearing l e (by omega) v0 v1 x6) q_813 rfl rfl (Nat.le_of_ble_eq_true rfl) (zdk (cc := cX2_statement) (q := (96, .invokevirtual 72, 3)) tkX2_statement 25 rfl) ?_
      refine zco_p tkX2_statement 26 1 (pc' := 184) (L' := [(3, .int y4), (2, .int y2), (0, .ref v0), (1, .ref v1)]) (S' := []) rfl ?_
      exact zco_vret rfl rfl rfl (zdk (cc := cX2_statement) (q := (184, .return_, 1)) tkX2_statement 68 rfl)
    | 4, ht =>
      cases ht
      show zCo l (e + 1) 0 0 iX2_statement 102 [(3, .int y4), (2, .int y2), (0, .ref v0), (1, .ref v1)] [] (z_gr 1 8 v1 fun x7 => z_rc 2 v0 (z_cv (X2_bearing v0 v1 x7) (z_ret none)))
      refine zco_p tkX2_statement 27 3 (pc' := 105) (L' := [(3, .int y4), (2, .int y2), (0, .ref v0), (1, .ref v1)]) (S' := [.ref v1, .ref v1, .ref v0]) rfl ?_
      refine zco_gr fl_2_76 rfl (zdk (cc := cX2_statement) (q := (105, .getfield 76, 3)) tkX2_statement 30 rfl) (fun x7 => ?_)
      refine zco_Vv (rc := 0) (rs := 0) (mc := 0) (ms := 0) (As := [.ref v1, .ref x7]) (S := []) vmX2_bearing (mtX2_bearing l e (by omega) v0 v1 x7) q_813 rfl rfl (Nat.le_of_ble_eq_true rfl) (zdk (cc := cX2_statement) (q := (108, .invokevirtual 72, 3)) tkX2_statement 31 rfl) ?_
      refine zco_p tkX2_statement 32 1 (pc' := 184) (L' := [(3, .int y4), (2, .int y2), (0, .ref v0), (1, .ref v1)]) (S' := []) rfl ?_
      exact zco_vret rfl rfl rfl (zdk (cc := cX2_statement) (q := (184, .return_, 1)) tkX2_statement 68 rfl)
    | 5, ht =>
      cases ht
      show zCo l (e + 1) 0 0 iX2_statement 114 [(3, .int y4), (2, .int y2), (0, .ref v0), (1, .ref v1)] [] (z_gr 2 0 v0 fun x8 => z_rc 9 x8 (z_cv (X9_passWord x8) (z_gr 2 0 v0 fun x9 => z_rc 9 x9 (z_ci (X9_takeNumber x9 1 12) fun y10 => z_pi 1 9 v1 y10 (z_ret none)))))
      refine zco_p tkX2_statement 33 1 (pc' := 115) (L' := [(3, .int y4), (2, .int y2), (0, .ref v0), (1, .ref v1)]) (S' := [.ref v0]) rfl ?_
      refine zco_gr fl_2_15 rfl (zdk (cc := cX2_statement) (q := (115, .getfield 15, 3)) tkX2_statement 34 rfl) (fun x8 => ?_)
      refine zco_Vv (rc := 0) (rs := 0) (mc := 0) (ms := 0) (As := []) (S := []) vmX9_passWord (mtX9_passWord l e (by omega) x8) q_761 rfl rfl (Nat.le_of_ble_eq_true rfl) (zdk (cc := cX2_statement) (q := (118, .invokevirtual 79, 3)) tkX2_statement 35 rfl) ?_
      refine zco_p tkX2_statement 36 2 (pc' := 123) (L' := [(3, .int y4), (2, .int y2), (0, .ref v0), (1, .ref v1)]) (S' := [.ref v0, .ref v1]) rfl ?_
      refine zco_gr fl_2_15 rfl (zdk (cc := cX2_statement) (q := (123, .getfield 15, 3)) tkX2_statement 38 rfl) (fun x9 => ?_)
      refine zco_p tkX2_statement 39 2 (pc' := 129) (L' := [(3, .int y4), (2, .int y2), (0, .ref v0), (1, .ref v1)]) (S' := [.int 12, .int 1, .ref x9, .ref v1]) rfl ?_
      refine zco_Vi (rc := 0) (rs := 0) (mc := 0) (ms := 0) (As := [.int 1, .int 12]) (S := [.ref v1]) vmX9_takeNumber (mtX9_takeNumber l e (by omega) x9 1 12) q_788 rfl rfl (Nat.le_of_ble_eq_true rfl) (zdk (cc := cX2_statement) (q := (129, .invokevirtual 82, 3)) tkX2_statement 41 rfl) (fun y10 => ?_)
      refine zco_pi fl_2_86 rfl rfl (zdk (cc := cX2_statement) (q := (132, .putfield 86, 3)) tkX2_statement 42 rfl) ?_
      refine zco_p tkX2_statement 43 1 (pc' := 184) (L' := [(3, .int y4), (2, .int y2), (0, .ref v0), (1, .ref v1)]) (S' := []) rfl ?_
      exact zco_vret rfl rfl rfl (zdk (cc := cX2_statement) (q := (184, .return_, 1)) tkX2_statement 68 rfl)
    | 6, ht =>
      cases ht
      show zCo l (e + 1) 0 0 iX2_statement 138 [(3, .int y4), (2, .int y2), (0, .ref v0), (1, .ref v1)] [] (X2_statement_J138 v0 v1 y2 y4)
      exact zco_sub [2, 3, 1, 0] rfl (coX2_statement_J138 l e he v0 v1 y2 y4)
    | 7, ht =>
      cases ht
      show zCo l (e + 1) 0 0 iX2_statement 138 [(3, .int y4), (2, .int y2), (0, .ref v0), (1, .ref v1)] [] (X2_statement_J138 v0 v1 y2 y4)
      exact zco_sub [2, 3, 1, 0] rfl (coX2_statement_J138 l e he v0 v1 y2 y4)
    | 8, ht =>
      cases ht
      show zCo l (e + 1) 0 0 iX2_statement 138 [(3, .int y4), (2, .int y2), (0, .ref v0), (1, .ref v1)] [] (X2_statement_J138 v0 v1 y2 y4)
      exact zco_sub [2, 3, 1, 0] rfl (coX2_statement_J138 l e he v0 v1 y2 y4)
    | 9, ht =>
      cases ht
      show zCo l (e + 1) 0 0 iX2_statement 151 [(3, .int y4), (2, .int y2), (0, .ref v0), (1, .ref v1)] [] (z_gr 2 0 v0 fun x11 => z_rc 9 x11 (z_cv (X9_passWord x11) (z_gr 2 0 v0 fun x12 => z_rc 9 x12 (z_ci (X9_takeNumber x12 0 100) fun y13 => z_pi 1 10 v1 y13 (z_ret none)))))
      refine zco_p tkX2_statement 52 1 (pc' := 152) (L' := [(3, .int y4), (2, .int y2), (0, .ref v0), (1, .ref v1)]) (S' := [.ref v0]) rfl ?_
      refine zco_gr fl_2_15 rfl (zdk (cc := cX2_statement) (q := (152, .getfield 15, 3)) tkX2_statement 53 rfl) (fun x11 => ?_)
      refine zco_Vv (rc := 0) (rs := 0) (mc := 0) (ms := 0) (As := []) (S := []) vmX9_passWord (mtX9_passWord l e (by omega) x11) q_761 rfl rfl (Nat.le_of_ble_eq_true rfl) (zdk (cc := cX2_statement) (q := (155, .invokevirtual 79, 3)) tkX2_statement 54 rfl) ?_
      refine zco_p tkX2_statement 55 2 (pc' := 160) (L' := [(3, .int y4), (2, .int y2), (0, .ref v0), (1, .ref v1)]) (S' := [.ref v0, .ref v1]) rfl ?_
      refine zco_gr fl_2_15 rfl (zdk (cc := cX2_statement) (q := (160, .getfield 15, 3)) tkX2_statement 57 rfl) (fun x12 => ?_)
      refine zco_p tkX2_statement 58 2 (pc' := 166) (L' := [(3, .int y4), (2, .int y2), (0, .ref v0), (1, .ref v1)]) (S' := [.int 100, .int 0, .ref x12, .ref v1]) rfl ?_
      refine zco_Vi (rc := 0) (rs := 0) (mc := 0) (ms := 0) (As := [.int 0, .int 100]) (S := [.ref v1]) vmX9_takeNumber (mtX9_takeNumber l e (by omega) x12 0 100) q_788 rfl rfl (Nat.le_of_ble_eq_true rfl) (zdk (cc := cX2_statement) (q := (166, .invokevirtual 82, 3)) tkX2_statement 60 rfl) (fun y13 => ?_)
      refine zco_pi fl_2_93 rfl rfl (zdk (cc := cX2_statement) (q := (169, .putfield 93, 3)) tkX2_statement 61 rfl) ?_
      refine zco_p tkX2_statement 62 1 (pc' := 184) (L' := [(3, .int y4), (2, .int y2), (0, .ref v0), (1, .ref v1)]) (S' := []) rfl ?_
      exact zco_vret rfl rfl rfl (zdk (cc := cX2_statement) (q := (184, .return_, 1)) tkX2_statement 68 rfl)
    | j + 10, ht => exact absurd ht (by simp)
theorem mtX2_statement (l : Launch) (d : Nat) (hd : 73 ≤ d) (v0 : Nat) (v1 : Nat) : zMet l d 0 0 yX2_statement cX2_statement 4 (Option.none : Option FieldType) [.ref v0, .ref v1] (X2_statement v0 v1) := by
  obtain ⟨e, rfl⟩ : ∃ e, d = e + 1 := ⟨d - 1, by omega⟩
  exact zmet_of (own := RX2) (ini := false) (by decide +kernel) rfl (fun _ => by contradiction) (Nat.le_of_ble_eq_true rfl) (coX2_statement l e (by omega) v0 v1)
abbrev iX2_read : zI := (RX2, cX2_read, 4, (Option.some .int), false)
def tX2_read : List (Nat × Instr × Nat) := [(0, .aload_n 1, 1), (1, .invokevirtual 23, 3), (4, .iconst 0, 1), (5, .istore_n 2, 1), (6, .iconst 0, 1), (7, .istore_n 3, 1), (8, .iload_n 3, 1), (9, .sipush 1600, 3), (12, .if_icmp .gt 70, 3), (15, .aload_n 0, 1), (16, .getfield 15, 3), (19, .invokevirtual 28, 3), (22, .ifCond .eq 60, 3), (25, .aload_n 0, 1), (26, .getfield 15, 3), (29, .invokevirtual 34, 3), (32, .ifCond .ne 50, 3), (35, .iload_n 2, 1), (36, .bipush 60, 2), (38, .if_icmp .ne 21, 3), (41, .aload_n 0, 1), (42, .getfield 15, 3), (45, .iconst 5, 1), (46, .aload_n 0, 1), (47, .getfield 15, 3), (50, .invokevirtual 37, 3), (53, .invokevirtual 41, 3), (56, .goto 20, 3), (59, .aload_n 0, 1), (60, .aload_n 1, 1), (61, .invokevirtual 45, 3), (64, .aload_n 0, 1), (65, .getfield 15, 3), (68, .bipush 59, 2), (70, .invokevirtual 49, 3), (73, .iinc 2 1, 3), (76, .iinc 3 1, 3), (79, .goto (-71), 3), (82, .aload_n 1, 1), (83, .invokevirtual 53, 3), (86, .iload_n 2, 1), (87, .ireturn, 1)]
set_option maxRecDepth 100000 in
theorem tkX2_read : ∀ q ∈ tX2_read, decode cX2_read q.1 = .ok q.2 := by decide +kernel
theorem vmX2_read : zVM yX2_read cX2_read 4 (Option.some .int) 1 2 := ⟨kX2_read, q_649, q_650, q_154, ⟨_, rfl, rfl⟩, by decide +kernel, by decide⟩
set_option maxHeartbeats 2000000 in
set_option maxRecDepth 20000 in
theorem coX2_read_J82 (l : Launch) (e : Nat) (he : 73 ≤ e) (v1 : Nat) (v2 : Int32) : zCo l (e + 1) 0 0 iX2_read 82 [(1, .ref v1), (2, .int v2)] [] (X2_read_J82 v1 v2) := by
  unfold X2_read_J82
  refine zco_p tkX2_read 38 1 (pc' := 83) (L' := [(1, .ref v1), (2, .int v2)]) (S' := [.ref v1]) rfl ?_
  refine zco_Vv (rc := 0) (rs := 0) (mc := 0) (ms := 0) (As := []) (S := []) vmX1_complete (mtX1_complete l e (by omega) v1) q_900 rfl rfl (Nat.le_of_ble_eq_true rfl) (zdk (cc := cX2_read) (q := (83, .invokevirtual 53, 3)) tkX2_read 39 rfl) ?_
  refine zco_p tkX2_read 40 1 (pc' := 87) (L' := [(1, .ref v1), (2, .int v2)]) (S' := [.int v2]) rfl ?_
  exact zco_iret rfl rfl rfl (zdk (cc := cX2_read) (q := (87, .ireturn, 1)) tkX2_read 41 rfl)
set_option maxHeartbeats 2000000 in
set_option maxRecDepth 20000 in
theorem coX2_read_J76 (l : Launch) (e : Nat) (he : 73 ≤ e) (v0 : Nat) (v1 : Nat) (v2 : Int32) (v3 : Int32) (r8 : Int32 × Int32 → zM) (hr8 : ∀ x : Int32 × Int32, zCo l (e + 1) 0 0 iX2_read 8 [(0, .ref v0), (1, .ref v1), (2, .int x.1), (3, .int x.2)] [] (r8 x)) : zCo l (e + 1) 0 0 iX2_read 76 [(0, .ref v0), (1, .ref v1), (2, .int v2), (3, .int v3)] [] (X2_read_J76 r8 v0 v1 v2 v3) := by
  unfold X2_read_J76
  refine zco_p tkX2_read 36 2 (pc' := 8) (L' := [(3, .int (v3 + 1)), (0, .ref v0), (1, .ref v1), (2, .int v2)]) (S' := []) rfl ?_
  exact zco_sub [1, 2, 3, 0] rfl (hr8 (v2, v3 + 1))
set_option maxHeartbeats 2000000 in
set_option maxRecDepth 20000 in
theorem coX2_read_B8 (l : Launch) (e : Nat) (he : 73 ≤ e) (v0 : Nat) (v1 : Nat) (r8 : Int32 × Int32 → zM) (hr8 : ∀ x : Int32 × Int32, zCo l (e + 1) 0 0 iX2_read 8 [(0, .ref v0), (1, .ref v1), (2, .int x.1), (3, .int x.2)] [] (r8 x)) (v2 : Int32) (v3 : Int32) : zCo l (e + 1) 0 0 iX2_read 8 [(0, .ref v0), (1, .ref v1), (2, .int v2), (3, .int v3)] [] (X2_read_B8 v0 v1 r8 v2 v3) := by
  unfold X2_read_B8
  refine zco_p tkX2_read 6 2 (pc' := 12) (L' := [(0, .ref v0), (1, .ref v1), (2, .int v2), (3, .int v3)]) (S' := [.int 1600, .int v3]) rfl ?_
  refine zco_icmp_gt (tgt := 82) (zdk (cc := cX2_read) (q := (12, .if_icmp .gt 70, 3)) tkX2_read 8 rfl) rfl ?_ ?_
  · exact zco_sub [1, 2] rfl (coX2_read_J82 l e he v1 v2)
  · refine zco_p tkX2_read 9 1 (pc' := 16) (L' := [(0, .ref v0), (1, .ref v1), (2, .int v2), (3, .int v3)]) (S' := [.ref v0]) rfl ?_
    refine zco_gr fl_2_15 rfl (zdk (cc := cX2_read) (q := (16, .getfield 15, 3)) tkX2_read 10 rfl) (fun x1 => ?_)
    refine zco_Vi (rc := 0) (rs := 0) (mc := 0) (ms := 0) (As := []) (S := []) vmX9_sound (mtX9_sound l e (by omega) x1) q_664 rfl rfl (Nat.le_of_ble_eq_true rfl) (zdk (cc := cX2_read) (q := (19, .invokevirtual 28, 3)) tkX2_read 11 rfl) (fun y2 => ?_)
    refine zco_if_eq (tgt := 82) (zdk (cc := cX2_read) (q := (22, .ifCond .eq 60, 3)) tkX2_read 12 rfl) rfl ?_ ?_
    · exact zco_sub [1, 2] rfl (coX2_read_J82 l e he v1 v2)
    · refine zco_p tkX2_read 13 1 (pc' := 26) (L' := [(0, .ref v0), (1, .ref v1), (2, .int v2), (3, .int v3)]) (S' := [.ref v0]) rfl ?_
      refine zco_gr fl_2_15 rfl (zdk (cc := cX2_read) (q := (26, .getfield 15, 3)) tkX2_read 14 rfl) (fun x3 => ?_)
      refine zco_Vi (rc := 0) (rs := 0) (mc := 0) (ms := 0) (As := []) (S := []) vmX9_ended (mtX9_ended l e (by omega) x3) q_668 rfl rfl (Nat.le_of_ble_eq_true rfl) (zdk (cc := cX2_read) (q := (29, .invokevirtual 34, 3)) tkX2_read 15 rfl) (fun y4 => ?_)
      refine zco_if_ne (tgt := 82) (zdk (cc := cX2_read) (q := (32, .ifCond .ne 50, 3)) tkX2_read 16 rfl) rfl ?_ ?_
      · exact zco_sub [1, 2] rfl (coX2_read_J82 l e he v1 v2)
      · refine zco_p tkX2_read 17 2 (pc' := 38) (L' := [(0, .ref v0), (1, .ref v1), (2, .int v2), (3, .int v3)]) (S' := [.int 60, .int v2]) rfl ?_
        refine zco_icmp_ne (tgt := 59) (zdk (cc := cX2_read) (q := (38, .if_icmp .ne 21, 3)) tkX2_read 19 rfl) rfl ?_ ?_
        · refine zco_p tkX2_read 28 2 (pc' := 61) (L' := [(0, .ref v0), (1, .ref v1), (2, .int v2), (3, .int v3)]) (S' := [.ref v1, .ref v0]) rfl ?_
          refine zco_Vv (rc := 0) (rs := 0) (mc := 0) (ms := 0) (As := [.ref v1]) (S := []) vmX2_statement (mtX2_statement l e (by omega) v0 v1) q_681 rfl rfl (Nat.le_of_ble_eq_true rfl) (zdk (cc := cX2_read) (q := (61, .invokevirtual 45, 3)) tkX2_read 30 rfl) ?_
          refine zco_p tkX2_read 31 1 (pc' := 65) (L' := [(0, .ref v0), (1, .ref v1), (2, .int v2), (3, .int v3)]) (S' := [.ref v0]) rfl ?_
          refine zco_gr fl_2_15 rfl (zdk (cc := cX2_read) (q := (65, .getfield 15, 3)) tkX2_read 32 rfl) (fun x5 => ?_)
          refine zco_p tkX2_read 33 1 (pc' := 70) (L' := [(0, .ref v0), (1, .ref v1), (2, .int v2), (3, .int v3)]) (S' := [.int 59, .ref x5]) rfl ?_
          refine zco_Vv (rc := 0) (rs := 0) (mc := 0) (ms := 0) (As := [.int 59]) (S := []) vmX9_needSign (mtX9_needSign l e (by omega) x5 59) q_899 rfl rfl (Nat.le_of_ble_eq_true rfl) (zdk (cc := cX2_read) (q := (70, .invokevirtual 49, 3)) tkX2_read 34 rfl) ?_
          refine zco_p tkX2_read 35 1 (pc' := 76) (L' := [(2, .int (v2 + 1)), (0, .ref v0), (1, .ref v1), (3, .int v3)]) (S' := []) rfl ?_
          exact zco_sub [1, 2, 0, 3] rfl (coX2_read_J76 l e he v0 v1 (v2 + 1) v3 r8 hr8)
        · refine zco_p tkX2_read 20 1 (pc' := 42) (L' := [(0, .ref v0), (1, .ref v1), (2, .int v2), (3, .int v3)]) (S' := [.ref v0]) rfl ?_
          refine zco_gr fl_2_15 rfl (zdk (cc := cX2_read) (q := (42, .getfield 15, 3)) tkX2_read 21 rfl) (fun x6 => ?_)
          refine zco_p tkX2_read 22 2 (pc' := 47) (L' := [(0, .ref v0), (1, .ref v1), (2, .int v2), (3, .int v3)]) (S' := [.ref v0, .int 5, .ref x6]) rfl ?_
          refine zco_gr fl_2_15 rfl (zdk (cc := cX2_read) (q := (47, .getfield 15, 3)) tkX2_read 24 rfl) (fun x7 => ?_)
          refine zco_Vi (rc := 0) (rs := 0) (mc := 0) (ms := 0) (As := []) (S := [.int 5, .ref x6]) vmX9_begin (mtX9_begin l e (by omega) x7) q_676 rfl rfl (Nat.le_of_ble_eq_true rfl) (zdk (cc := cX2_read) (q := (50, .invokevirtual 37, 3)) tkX2_read 25 rfl) (fun y8 => ?_)
          refine zco_Vv (rc := 0) (rs := 0) (mc := 0) (ms := 0) (As := [.int 5, .int y8]) (S := []) vmX9_fail (mtX9_fail l e (by omega) x6 5 y8) q_677 rfl rfl (Nat.le_of_ble_eq_true rfl) (zdk (cc := cX2_read) (q := (53, .invokevirtual 41, 3)) tkX2_read 26 rfl) ?_
          refine zco_p tkX2_read 27 1 (pc' := 76) (L' := [(0, .ref v0), (1, .ref v1), (2, .int v2), (3, .int v3)]) (S' := []) rfl ?_
          exact zco_sub [0, 1, 2, 3] rfl (coX2_read_J76 l e he v0 v1 v2 v3 r8 hr8)
set_option maxHeartbeats 2000000 in
set_option maxRecDepth 20000 in
theorem coX2_read (l : Launch) (e : Nat) (he : 73 ≤ e) (v0 : Nat) (v1 : Nat) : zCo l (e + 1) 0 0 iX2_read 0 [(0, .ref v0), (1, .ref v1)] [] (X2_read v0 v1) := by
  unfold X2_read
  refine zco_p tkX2_read 0 1 (pc' := 1) (L' := [(0, .ref v0), (1, .ref v1)]) (S' := [.ref v1]) rfl ?_
  refine zco_Vv (rc := 0) (rs := 0) (mc := 0) (ms := 0) (As := []) (S := []) vmX1_clear (mtX1_clear l e (by omega) v1) q_652 rfl rfl (Nat.le_of_ble_eq_true rfl) (zdk (cc := cX2_read) (q := (1, .invokevirtual 23, 3)) tkX2_read 1 rfl) ?_
  refine zco_p tkX2_read 2 4 (pc' := 8) (L' := [(3, .int 0), (2, .int 0), (0, .ref v0), (1, .ref v1)]) (S' := []) rfl ?_
  exact zco_sub [2, 3, 1, 0] rfl (zco_fix (Lf := fun x : Int32 × Int32 => [(0, .ref v0), (1, .ref v1), (2, .int x.1), (3, .int x.2)]) (Sf := fun _ => []) (fun r hr x => coX2_read_B8 l e he v0 v1 r hr x.1 x.2) zFU (0, 0))
theorem mtX2_read (l : Launch) (d : Nat) (hd : 74 ≤ d) (v0 : Nat) (v1 : Nat) : zMet l d 0 0 yX2_read cX2_read 4 (Option.some .int) [.ref v0, .ref v1] (X2_read v0 v1) := by
  obtain ⟨e, rfl⟩ : ∃ e, d = e + 1 := ⟨d - 1, by omega⟩
  exact zmet_of (own := RX2) (ini := false) (by decide +kernel) rfl (fun _ => by contradiction) (Nat.le_of_ble_eq_true rfl) (coX2_read l e (by omega) v0 v1)
abbrev iX11_takeFault : zI := (RX11, cX11_takeFault, 1, (Option.none : Option FieldType), false)
def tX11_takeFault : List (Nat × Instr × Nat) := [(0, .aload_n 0, 1), (1, .aload_n 0, 1), (2, .getfield 22, 3), (5, .getfield 154, 3), (8, .putfield 112, 3), (11, .aload_n 0, 1), (12, .aload_n 0, 1), (13, .getfield 22, 3), (16, .getfield 157, 3), (19, .putfield 115, 3), (22, .return_, 1)]
set_option maxRecDepth 100000 in
theorem tkX11_takeFault : ∀ q ∈ tX11_takeFault, decode cX11_takeFault q.1 = .ok q.2 := by decide +kernel
theorem vmX11_takeFault : zVM yX11_takeFault cX11_takeFault 1 (Option.none : Option FieldType) 0 11 := ⟨kX11_takeFault, q_903, q_21, q_149, ⟨_, rfl, rfl⟩, by decide +kernel, by decide⟩
set_option maxHeartbeats 2000000 in
set_option maxRecDepth 20000 in
theorem coX11_takeFault (l : Launch) (e : Nat) (he : 0 ≤ e) (v0 : Nat) : zCo l (e + 1) 0 0 iX11_takeFault 0 [(0, .ref v0)] [] (X11_takeFault v0) := by
  unfold X11_takeFault
  refine zco_p tkX11_takeFault 0 2 (pc' := 2) (L' := [(0, .ref v0)]) (S' := [.ref v0, .ref v0]) rfl ?_
  refine zco_gr fl_11_22 rfl (zdk (cc := cX11_takeFault) (q := (2, .getfield 22, 3)) tkX11_takeFault 2 rfl) (fun x1 => ?_)
  refine zco_gi fl_11_154 rfl (zdk (cc := cX11_takeFault) (q := (5, .getfield 154, 3)) tkX11_takeFault 3 rfl) (fun x2 => ?_)
  refine zco_pi fl_11_112 rfl rfl (zdk (cc := cX11_takeFault) (q := (8, .putfield 112, 3)) tkX11_takeFault 4 rfl) ?_
  refine zco_p tkX11_takeFault 5 2 (pc' := 13) (L' := [(0, .ref v0)]) (S' := [.ref v0, .ref v0]) rfl ?_
  refine zco_gr fl_11_22 rfl (zdk (cc := cX11_takeFault) (q := (13, .getfield 22, 3)) tkX11_takeFault 7 rfl) (fun x3 => ?_)
  refine zco_gi fl_11_157 rfl (zdk (cc := cX11_takeFault) (q := (16, .getfield 157, 3)) tkX11_takeFault 8 rfl) (fun x4 => ?_)
  refine zco_pi fl_11_115 rfl rfl (zdk (cc := cX11_takeFault) (q := (19, .putfield 115, 3)) tkX11_takeFault 9 rfl) ?_
  exact zco_vret rfl rfl rfl (zdk (cc := cX11_takeFault) (q := (22, .return_, 1)) tkX11_takeFault 10 rfl)
theorem mtX11_takeFault (l : Launch) (d : Nat) (hd : 1 ≤ d) (v0 : Nat) : zMet l d 0 0 yX11_takeFault cX11_takeFault 1 (Option.none : Option FieldType) [.ref v0] (X11_takeFault v0) := by
  obtain ⟨e, rfl⟩ : ∃ e, d = e + 1 := ⟨d - 1, by omega⟩
  exact zmet_of (own := RX11) (ini := false) (by decide +kernel) rfl (fun _ => by contradiction) (Nat.le_of_ble_eq_true rfl) (coX11_takeFault l e (by omega) v0)
abbrev iX6_forget : zI := (RX6, cX6_forget, 1, (Option.none : Option FieldType), false)
def tX6_forget : List (Nat × Instr × Nat) := [(0, .aload_n 0, 1), (1, .iconst 0, 1), (2, .putfield 9, 3), (5, .aload_n 0, 1), (6, .iconst 0, 1), (7, .putfield 31, 3), (10, .return_, 1)]
set_option maxRecDepth 100000 in
theorem tkX6_forget : ∀ q ∈ tX6_forget, decode cX6_forget q.1 = .ok q.2 := by decide +kernel
theorem vmX6_forget : zVM yX6_forget cX6_forget 1 (Option.none : Option FieldType) 0 6 := ⟨kX6_forget, q_906, q_907, q_160, ⟨_, rfl, rfl⟩, by decide +kernel, by decide⟩
set_option maxHeartbeats 2000000 in
set_option maxRecDepth 20000 in
theorem coX6_forget (l : Launch) (e : Nat) (he : 0 ≤ e) (v0 : Nat) : zCo l (e + 1) 0 0 iX6_forget 0 [(0, .ref v0)] [] (X6_forget v0) := by
  unfold X6_forget
  refine zco_p tkX6_forget 0 2 (pc' := 2) (L' := [(0, .ref v0)]) (S' := [.int 0, .ref v0]) rfl ?_
  refine zco_pi fl_6_9 rfl rfl (zdk (cc := cX6_forget) (q := (2, .putfield 9, 3)) tkX6_forget 2 rfl) ?_
  refine zco_p tkX6_forget 3 2 (pc' := 7) (L' := [(0, .ref v0)]) (S' := [.int 0, .ref v0]) rfl ?_
  refine zco_pi fl_6_31 rfl rfl (zdk (cc := cX6_forget) (q := (7, .putfield 31, 3)) tkX6_forget 5 rfl) ?_
  exact zco_vret rfl rfl rfl (zdk (cc := cX6_forget) (q := (10, .return_, 1)) tkX6_forget 6 rfl)
theorem mtX6_forget (l : Launch) (d : Nat) (hd : 1 ≤ d) (v0 : Nat) : zMet l d 0 0 yX6_forget cX6_forget 1 (Option.none : Option FieldType) [.ref v0] (X6_forget v0) := by
  obtain ⟨e, rfl⟩ : ∃ e, d = e + 1 := ⟨d - 1, by omega⟩
  exact zmet_of (own := RX6) (ini := false) (by decide +kernel) rfl (fun _ => by contradiction) (Nat.le_of_ble_eq_true rfl) (coX6_forget l e (by omega) v0)
abbrev iX11_church : zI := (RX11, cX11_church, 3, (Option.some .int), false)
def tX11_church : List (Nat × Instr × Nat) := [(0, .aload_n 0, 1), (1, .getfield 22, 3), (4, .aload_n 0, 1), (5, .invokevirtual 136, 3), (8, .invokevirtual 140, 3), (11, .aload_n 0, 1), (12, .getfield 44, 3), (15, .aload_n 0, 1), (16, .getfield 55, 3), (19, .invokevirtual 143, 3), (22, .istore_n 1, 1), (23, .aload_n 0, 1), (24, .invokevirtual 147, 3), (27, .aload_n 0, 1), (28, .getfield 112, 3), (31, .ifCond .eq 9, 3), (34, .aload_n 0, 1), (35, .iconst 1, 1), (36, .invokevirtual 128, 3), (39, .ireturn, 1), (40, .aload_n 0, 1), (41, .getfield 51, 3), (44, .astore_n 2, 1), (45, .aload_n 0, 1), (46, .aload_n 0, 1), (47, .getfield 55, 3), (50, .putfield 51, 3), (53, .aload_n 0, 1), (54, .aload_n 2, 1), (55, .putfield 55, 3), (58, .aload_n 0, 1), (59, .getfield 70, 3), (62, .aload_n 0, 1), (63, .getfield 51, 3), (66, .putfield 150, 3), (69, .aload_n 0, 1), (70, .getfield 61, 3), (73, .aload_n 0, 1), (74, .getfield 51, 3), (77, .invokevirtual 125, 3), (80, .aload_n 0, 1), (81, .getfield 93, 3), (84, .invokevirtual 151, 3), (87, .aload_n 0, 1), (88, .iconst 0, 1), (89, .putfield 100, 3), (92, .iload_n 1, 1), (93, .ireturn, 1)]
set_option maxRecDepth 100000 in
theorem tkX11_church : ∀ q ∈ tX11_church, decode cX11_church q.1 = .ok q.2 := by decide +kernel
theorem vmX11_church : zVM yX11_church cX11_church 3 (Option.some .int) 0 11 := ⟨kX11_church, q_637, q_638, q_149, ⟨_, rfl, rfl⟩, by decide +kernel, by decide⟩
set_option maxHeartbeats 2000000 in
set_option maxRecDepth 20000 in
theorem coX11_church (l : Launch) (e : Nat) (he : 74 ≤ e) (v0 : Nat) : zCo l (e + 1) 0 0 iX11_church 0 [(0, .ref v0)] [] (X11_church v0) := by
  unfold X11_church
  refine zco_p tkX11_church 0 1 (pc' := 1) (L' := [(0, .ref v0)]) (S' := [.ref v0]) rfl ?_
  refine zco_gr fl_11_22 rfl (zdk (cc := cX11_church) (q := (1, .getfield 22, 3)) tkX11_church 1 rfl) (fun x1 => ?_)
  refine zco_p tkX11_church 2 1 (pc' := 5) (L' := [(0, .ref v0)]) (S' := [.ref v0, .ref x1]) rfl ?_
  refine zco_Vi (rc := 0) (rs := 0) (mc := 0) (ms := 0) (As := []) (S := [.ref x1]) vmX11_takeTape (mtX11_takeTape l e (by omega) v0) q_640 rfl rfl (Nat.le_of_ble_eq_true rfl) (zdk (cc := cX11_church) (q := (5, .invokevirtual 136, 3)) tkX11_church 3 rfl) (fun y2 => ?_)
  refine zco_Vv (rc := 0) (rs := 0) (mc := 0) (ms := 0) (As := [.int y2]) (S := []) vmX9_open (mtX9_open l e (by omega) x1 y2) q_644 rfl rfl (Nat.le_of_ble_eq_true rfl) (zdk (cc := cX11_church) (q := (8, .invokevirtual 140, 3)) tkX11_church 4 rfl) ?_
  refine zco_p tkX11_church 5 1 (pc' := 12) (L' := [(0, .ref v0)]) (S' := [.ref v0]) rfl ?_
  refine zco_gr fl_11_44 rfl (zdk (cc := cX11_church) (q := (12, .getfield 44, 3)) tkX11_church 6 rfl) (fun x3 => ?_)
  refine zco_p tkX11_church 7 1 (pc' := 16) (L' := [(0, .ref v0)]) (S' := [.ref v0, .ref x3]) rfl ?_
  refine zco_gr fl_11_55 rfl (zdk (cc := cX11_church) (q := (16, .getfield 55, 3)) tkX11_church 8 rfl) (fun x4 => ?_)
  refine zco_Vi (rc := 0) (rs := 0) (mc := 0) (ms := 0) (As := [.ref x4]) (S := []) vmX2_read (mtX2_read l e (by omega) x3 x4) q_648 rfl rfl (Nat.le_of_ble_eq_true rfl) (zdk (cc := cX11_church) (q := (19, .invokevirtual 143, 3)) tkX11_church 9 rfl) (fun y5 => ?_)
  refine zco_p tkX11_church 10 2 (pc' := 24) (L' := [(1, .int y5), (0, .ref v0)]) (S' := [.ref v0]) rfl ?_
  refine zco_Vv (rc := 0) (rs := 0) (mc := 0) (ms := 0) (As := []) (S := []) vmX11_takeFault (mtX11_takeFault l e (by omega) v0) q_901 rfl rfl (Nat.le_of_ble_eq_true rfl) (zdk (cc := cX11_church) (q := (24, .invokevirtual 147, 3)) tkX11_church 12 rfl) ?_
  refine zco_p tkX11_church 13 1 (pc' := 28) (L' := [(1, .int y5), (0, .ref v0)]) (S' := [.ref v0]) rfl ?_
  refine zco_gi fl_11_112 rfl (zdk (cc := cX11_church) (q := (28, .getfield 112, 3)) tkX11_church 14 rfl) (fun x6 => ?_)
  refine zco_if_eq (tgt := 40) (zdk (cc := cX11_church) (q := (31, .ifCond .eq 9, 3)) tkX11_church 15 rfl) rfl ?_ ?_
  · refine zco_p tkX11_church 20 1 (pc' := 41) (L' := [(1, .int y5), (0, .ref v0)]) (S' := [.ref v0]) rfl ?_
    refine zco_gr fl_11_51 rfl (zdk (cc := cX11_church) (q := (41, .getfield 51, 3)) tkX11_church 21 rfl) (fun x7 => ?_)
    refine zco_p tkX11_church 22 3 (pc' := 47) (L' := [(2, .ref x7), (1, .int y5), (0, .ref v0)]) (S' := [.ref v0, .ref v0]) rfl ?_
    refine zco_gr fl_11_55 rfl (zdk (cc := cX11_church) (q := (47, .getfield 55, 3)) tkX11_church 25 rfl) (fun x8 => ?_)
    refine zco_pr fl_11_51 (Or.inl ⟨_, rfl⟩) rfl (zdk (cc := cX11_church) (q := (50, .putfield 51, 3)) tkX11_church 26 rfl) ?_
    refine zco_p tkX11_church 27 2 (pc' := 55) (L' := [(2, .ref x7), (1, .int y5), (0, .ref v0)]) (S' := [.ref x7, .ref v0]) rfl ?_
    refine zco_pr fl_11_55 (Or.inl ⟨_, rfl⟩) rfl (zdk (cc := cX11_church) (q := (55, .putfield 55, 3)) tkX11_church 29 rfl) ?_
    refine zco_p tkX11_church 30 1 (pc' := 59) (L' := [(2, .ref x7), (1, .int y5), (0, .ref v0)]) (S' := [.ref v0]) rfl ?_
    refine zco_gr fl_11_70 rfl (zdk (cc := cX11_church) (q := (59, .getfield 70, 3)) tkX11_church 31 rfl) (fun x9 => ?_)
    refine zco_p tkX11_church 32 1 (pc' := 63) (L' := [(2, .ref x7), (1, .int y5), (0, .ref v0)]) (S' := [.ref v0, .ref x9]) rfl ?_
    refine zco_gr fl_11_51 rfl (zdk (cc := cX11_church) (q := (63, .getfield 51, 3)) tkX11_church 33 rfl) (fun x10 => ?_)
    refine zco_pr fl_11_150 (Or.inl ⟨_, rfl⟩) rfl (zdk (cc := cX11_church) (q := (66, .putfield 150, 3)) tkX11_church 34 rfl) ?_
    refine zco_p tkX11_church 35 1 (pc' := 70) (L' := [(2, .ref x7), (1, .int y5), (0, .ref v0)]) (S' := [.ref v0]) rfl ?_
    refine zco_gr fl_11_61 rfl (zdk (cc := cX11_church) (q := (70, .getfield 61, 3)) tkX11_church 36 rfl) (fun x11 => ?_)
    refine zco_p tkX11_church 37 1 (pc' := 74) (L' := [(2, .ref x7), (1, .int y5), (0, .ref v0)]) (S' := [.ref v0, .ref x11]) rfl ?_
    refine zco_gr fl_11_51 rfl (zdk (cc := cX11_church) (q := (74, .getfield 51, 3)) tkX11_church 38 rfl) (fun x12 => ?_)
    refine zco_Vv (rc := 0) (rs := 0) (mc := 0) (ms := 0) (As := [.ref x12]) (S := []) vmX8_begin (mtX8_begin l e (by omega) x11 x12) q_552 rfl rfl (Nat.le_of_ble_eq_true rfl) (zdk (cc := cX11_church) (q := (77, .invokevirtual 125, 3)) tkX11_church 39 rfl) ?_
    refine zco_p tkX11_church 40 1 (pc' := 81) (L' := [(2, .ref x7), (1, .int y5), (0, .ref v0)]) (S' := [.ref v0]) rfl ?_
    refine zco_gr fl_11_93 rfl (zdk (cc := cX11_church) (q := (81, .getfield 93, 3)) tkX11_church 41 rfl) (fun x13 => ?_)
    refine zco_Vv (rc := 0) (rs := 0) (mc := 0) (ms := 0) (As := []) (S := []) vmX6_forget (mtX6_forget l e (by omega) x13) q_905 rfl rfl (Nat.le_of_ble_eq_true rfl) (zdk (cc := cX11_church) (q := (84, .invokevirtual 151, 3)) tkX11_church 42 rfl) ?_
    refine zco_p tkX11_church 43 2 (pc' := 89) (L' := [(2, .ref x7), (1, .int y5), (0, .ref v0)]) (S' := [.int 0, .ref v0]) rfl ?_
    refine zco_pi fl_11_100 rfl rfl (zdk (cc := cX11_church) (q := (89, .putfield 100, 3)) tkX11_church 45 rfl) ?_
    refine zco_p tkX11_church 46 1 (pc' := 93) (L' := [(2, .ref x7), (1, .int y5), (0, .ref v0)]) (S' := [.int y5]) rfl ?_
    exact zco_iret rfl rfl rfl (zdk (cc := cX11_church) (q := (93, .ireturn, 1)) tkX11_church 47 rfl)
  · refine zco_p tkX11_church 16 2 (pc' := 36) (L' := [(1, .int y5), (0, .ref v0)]) (S' := [.int 1, .ref v0]) rfl ?_
    refine zco_Vi (rc := 0) (rs := 0) (mc := 0) (ms := 0) (As := [.int 1]) (S := []) vmX11_refuse (mtX11_refuse l e (by omega) v0 1) q_624 rfl rfl (Nat.le_of_ble_eq_true rfl) (zdk (cc := cX11_church) (q := (36, .invokevirtual 128, 3)) tkX11_church 18 rfl) (fun y14 => ?_)
    exact zco_iret rfl rfl rfl (zdk (cc := cX11_church) (q := (39, .ireturn, 1)) tkX11_church 19 rfl)
theorem mtX11_church (l : Launch) (d : Nat) (hd : 75 ≤ d) (v0 : Nat) : zMet l d 0 0 yX11_church cX11_church 3 (Option.some .int) [.ref v0] (X11_church v0) := by
  obtain ⟨e, rfl⟩ : ∃ e, d = e + 1 := ⟨d - 1, by omega⟩
  exact zmet_of (own := RX11) (ini := false) (by decide +kernel) rfl (fun _ => by contradiction) (Nat.le_of_ble_eq_true rfl) (coX11_church l e (by omega) v0)
abbrev iX11_fault : zI := (RX11, cX11_fault, 2, (Option.some .int), false)
def tX11_fault : List (Nat × Instr × Nat) := [(0, .iload_n 1, 1), (1, .ifCond .ne 8, 3), (4, .aload_n 0, 1), (5, .getfield 112, 3), (8, .ireturn, 1), (9, .iload_n 1, 1), (10, .iconst 1, 1), (11, .if_icmp .ne 10, 3), (14, .aload_n 0, 1), (15, .getfield 115, 3), (18, .goto 4, 3), (21, .iconst (-1), 1), (22, .ireturn, 1)]
set_option maxRecDepth 100000 in
theorem tkX11_fault : ∀ q ∈ tX11_fault, decode cX11_fault q.1 = .ok q.2 := by decide +kernel
theorem vmX11_fault : zVM yX11_fault cX11_fault 2 (Option.some .int) 1 11 := ⟨kX11_fault, q_910, q_911, q_149, ⟨_, rfl, rfl⟩, by decide +kernel, by decide⟩
set_option maxHeartbeats 2000000 in
set_option maxRecDepth 20000 in
theorem coX11_fault (l : Launch) (e : Nat) (he : 0 ≤ e) (v0 : Nat) (v1 : Int32) : zCo l (e + 1) 0 0 iX11_fault 0 [(0, .ref v0), (1, .int v1)] [] (X11_fault v0 v1) := by
  unfold X11_fault
  refine zco_p tkX11_fault 0 1 (pc' := 1) (L' := [(0, .ref v0), (1, .int v1)]) (S' := [.int v1]) rfl ?_
  refine zco_if_ne (tgt := 9) (zdk (cc := cX11_fault) (q := (1, .ifCond .ne 8, 3)) tkX11_fault 1 rfl) rfl ?_ ?_
  · refine zco_p tkX11_fault 5 2 (pc' := 11) (L' := [(0, .ref v0), (1, .int v1)]) (S' := [.int 1, .int v1]) rfl ?_
    refine zco_icmp_ne (tgt := 21) (zdk (cc := cX11_fault) (q := (11, .if_icmp .ne 10, 3)) tkX11_fault 7 rfl) rfl ?_ ?_
    · refine zco_p tkX11_fault 11 1 (pc' := 22) (L' := [(0, .ref v0), (1, .int v1)]) (S' := [.int ((-1))]) rfl ?_
      exact zco_iret rfl rfl rfl (zdk (cc := cX11_fault) (q := (22, .ireturn, 1)) tkX11_fault 12 rfl)
    · refine zco_p tkX11_fault 8 1 (pc' := 15) (L' := [(0, .ref v0), (1, .int v1)]) (S' := [.ref v0]) rfl ?_
      refine zco_gi fl_11_115 rfl (zdk (cc := cX11_fault) (q := (15, .getfield 115, 3)) tkX11_fault 9 rfl) (fun x1 => ?_)
      refine zco_p tkX11_fault 10 1 (pc' := 22) (L' := [(0, .ref v0), (1, .int v1)]) (S' := [.int x1]) rfl ?_
      exact zco_iret rfl rfl rfl (zdk (cc := cX11_fault) (q := (22, .ireturn, 1)) tkX11_fault 12 rfl)
  · refine zco_p tkX11_fault 2 1 (pc' := 5) (L' := [(0, .ref v0), (1, .int v1)]) (S' := [.ref v0]) rfl ?_
    refine zco_gi fl_11_112 rfl (zdk (cc := cX11_fault) (q := (5, .getfield 112, 3)) tkX11_fault 3 rfl) (fun x2 => ?_)
    exact zco_iret rfl rfl rfl (zdk (cc := cX11_fault) (q := (8, .ireturn, 1)) tkX11_fault 4 rfl)
theorem mtX11_fault (l : Launch) (d : Nat) (hd : 1 ≤ d) (v0 : Nat) (v1 : Int32) : zMet l d 0 0 yX11_fault cX11_fault 2 (Option.some .int) [.ref v0, .int v1] (X11_fault v0 v1) := by
  obtain ⟨e, rfl⟩ : ∃ e, d = e + 1 := ⟨d - 1, by omega⟩
  exact zmet_of (own := RX11) (ini := false) (by decide +kernel) rfl (fun _ => by contradiction) (Nat.le_of_ble_eq_true rfl) (coX11_fault l e (by omega) v0 v1)
abbrev iX8_wedPairs : zI := (RX8, cX8_wedPairs, 3, (Option.some .int), false)
def tX8_wedPairs : List (Nat × Instr × Nat) := [(0, .iconst 0, 1), (1, .istore_n 1, 1), (2, .iconst 0, 1), (3, .istore_n 2, 1), (4, .iload_n 2, 1), (5, .bipush 6, 2), (7, .if_icmp .ge 22, 3), (10, .aload_n 0, 1), (11, .getfield 22, 3), (14, .iload_n 2, 1), (15, .iaload, 1), (16, .iconst (-1), 1), (17, .if_icmp .eq 6, 3), (20, .iinc 1 1, 3), (23, .iinc 2 1, 3), (26, .goto (-22), 3), (29, .iload_n 1, 1), (30, .ireturn, 1)]
set_option maxRecDepth 100000 in
theorem tkX8_wedPairs : ∀ q ∈ tX8_wedPairs, decode cX8_wedPairs q.1 = .ok q.2 := by decide +kernel
theorem vmX8_wedPairs : zVM yX8_wedPairs cX8_wedPairs 3 (Option.some .int) 0 8 := ⟨kX8_wedPairs, q_918, q_919, q_156, ⟨_, rfl, rfl⟩, by decide +kernel, by decide⟩
set_option maxHeartbeats 2000000 in
set_option maxRecDepth 20000 in
theorem coX8_wedPairs_J23 (l : Launch) (e : Nat) (he : 0 ≤ e) (v0 : Nat) (v1 : Int32) (v2 : Int32) (r4 : Int32 × Int32 → zM) (hr4 : ∀ x : Int32 × Int32, zCo l (e + 1) 0 0 iX8_wedPairs 4 [(0, .ref v0), (1, .int x.1), (2, .int x.2)] [] (r4 x)) : zCo l (e + 1) 0 0 iX8_wedPairs 23 [(0, .ref v0), (1, .int v1), (2, .int v2)] [] (X8_wedPairs_J23 r4 v0 v1 v2) := by
  unfold X8_wedPairs_J23
  refine zco_p tkX8_wedPairs 14 2 (pc' := 4) (L' := [(2, .int (v2 + 1)), (0, .ref v0), (1, .int v1)]) (S' := []) rfl ?_
  exact zco_sub [1, 2, 0] rfl (hr4 (v1, v2 + 1))
set_option maxHeartbeats 2000000 in
set_option maxRecDepth 20000 in
theorem coX8_wedPairs_B4 (l : Launch) (e : Nat) (he : 0 ≤ e) (v0 : Nat) (r4 : Int32 × Int32 → zM) (hr4 : ∀ x : Int32 × Int32, zCo l (e + 1) 0 0 iX8_wedPairs 4 [(0, .ref v0), (1, .int x.1), (2, .int x.2)] [] (r4 x)) (v1 : Int32) (v2 : Int32) : zCo l (e + 1) 0 0 iX8_wedPairs 4 [(0, .ref v0), (1, .int v1), (2, .int v2)] [] (X8_wedPairs_B4 v0 r4 v1 v2) := by
  unfold X8_wedPairs_B4
  refine zco_p tkX8_wedPairs 4 2 (pc' := 7) (L' := [(0, .ref v0), (1, .int v1), (2, .int v2)]) (S' := [.int 6, .int v2]) rfl ?_
  refine zco_icmp_ge (tgt := 29) (zdk (cc := cX8_wedPairs) (q := (7, .if_icmp .ge 22, 3)) tkX8_wedPairs 6 rfl) rfl ?_ ?_
  · refine zco_p tkX8_wedPairs 16 1 (pc' := 30) (L' := [(0, .ref v0), (1, .int v1), (2, .int v2)]) (S' := [.int v1]) rfl ?_
    exact zco_iret rfl rfl rfl (zdk (cc := cX8_wedPairs) (q := (30, .ireturn, 1)) tkX8_wedPairs 17 rfl)
  · refine zco_p tkX8_wedPairs 7 1 (pc' := 11) (L' := [(0, .ref v0), (1, .int v1), (2, .int v2)]) (S' := [.ref v0]) rfl ?_
    refine zco_gr fl_8_22 rfl (zdk (cc := cX8_wedPairs) (q := (11, .getfield 22, 3)) tkX8_wedPairs 8 rfl) (fun x1 => ?_)
    refine zco_p tkX8_wedPairs 9 1 (pc' := 15) (L' := [(0, .ref v0), (1, .int v1), (2, .int v2)]) (S' := [.int v2, .ref x1]) rfl ?_
    refine zco_iaload (zdk (cc := cX8_wedPairs) (q := (15, .iaload, 1)) tkX8_wedPairs 10 rfl) (fun x2 => ?_)
    refine zco_p tkX8_wedPairs 11 1 (pc' := 17) (L' := [(0, .ref v0), (1, .int v1), (2, .int v2)]) (S' := [.int ((-1)), .int x2]) rfl ?_
    refine zco_icmp_eq (tgt := 23) (zdk (cc := cX8_wedPairs) (q := (17, .if_icmp .eq 6, 3)) tkX8_wedPairs 12 rfl) rfl ?_ ?_
    · exact zco_sub [0, 1, 2] rfl (coX8_wedPairs_J23 l e he v0 v1 v2 r4 hr4)
    · refine zco_p tkX8_wedPairs 13 1 (pc' := 23) (L' := [(1, .int (v1 + 1)), (0, .ref v0), (2, .int v2)]) (S' := []) rfl ?_
      exact zco_sub [1, 0, 2] rfl (coX8_wedPairs_J23 l e he v0 (v1 + 1) v2 r4 hr4)
set_option maxHeartbeats 2000000 in
set_option maxRecDepth 20000 in
theorem coX8_wedPairs (l : Launch) (e : Nat) (he : 0 ≤ e) (v0 : Nat) : zCo l (e + 1) 0 0 iX8_wedPairs 0 [(0, .ref v0)] [] (X8_wedPairs v0) := by
  unfold X8_wedPairs
  refine zco_p tkX8_wedPairs 0 4 (pc' := 4) (L' := [(2, .int 0), (1, .int 0), (0, .ref v0)]) (S' := []) rfl ?_
  exact zco_sub [2, 1, 0] rfl (zco_fix (Lf := fun x : Int32 × Int32 => [(0, .ref v0), (1, .int x.1), (2, .int x.2)]) (Sf := fun _ => []) (fun r hr x => coX8_wedPairs_B4 l e he v0 r hr x.1 x.2) zFU (0, 0))
theorem mtX8_wedPairs (l : Launch) (d : Nat) (hd : 1 ≤ d) (v0 : Nat) : zMet l d 0 0 yX8_wedPairs cX8_wedPairs 3 (Option.some .int) [.ref v0] (X8_wedPairs v0) := by
  obtain ⟨e, rfl⟩ : ∃ e, d = e + 1 := ⟨d - 1, by omega⟩
  exact zmet_of (own := RX8) (ini := false) (by decide +kernel) rfl (fun _ => by contradiction) (Nat.le_of_ble_eq_true rfl) (coX8_wedPairs l e (by omega) v0)
abbrev iX6_keptTold : zI := (RX6, cX6_keptTold, 1, (Option.some .int), false)
def tX6_keptTold : List (Nat × Instr × Nat) := [(0, .aload_n 0, 1), (1, .getfield 31, 3), (4, .bipush 40, 2), (6, .invokestatic 39, 3), (9, .ireturn, 1)]
set_option maxRecDepth 100000 in
theorem tkX6_keptTold : ∀ q ∈ tX6_keptTold, decode cX6_keptTold q.1 = .ok q.2 := by decide +kernel
theorem vmX6_keptTold : zVM yX6_keptTold cX6_keptTold 1 (Option.some .int) 0 6 := ⟨kX6_keptTold, q_922, q_923, q_160, ⟨_, rfl, rfl⟩, by decide +kernel, by decide⟩
set_option maxHeartbeats 2000000 in
set_option maxRecDepth 20000 in
theorem coX6_keptTold (l : Launch) (e : Nat) (he : 0 ≤ e) (v0 : Nat) : zCo l (e + 1) 0 0 iX6_keptTold 0 [(0, .ref v0)] [] (X6_keptTold v0) := by
  unfold X6_keptTold
  refine zco_p tkX6_keptTold 0 1 (pc' := 1) (L' := [(0, .ref v0)]) (S' := [.ref v0]) rfl ?_
  refine zco_gi fl_6_31 rfl (zdk (cc := cX6_keptTold) (q := (1, .getfield 31, 3)) tkX6_keptTold 1 rfl) (fun x1 => ?_)
  refine zco_p tkX6_keptTold 2 1 (pc' := 6) (L' := [(0, .ref v0)]) (S' := [.int 40, .int x1]) rfl ?_
  refine zco_imin (by omega) q_925 q_926 q_168 q_imin (Nat.le_of_ble_eq_true rfl) (zdk (cc := cX6_keptTold) (q := (6, .invokestatic 39, 3)) tkX6_keptTold 3 rfl) ?_
  exact zco_iret rfl rfl rfl (zdk (cc := cX6_keptTold) (q := (9, .ireturn, 1)) tkX6_keptTold 4 rfl)
theorem mtX6_keptTold (l : Launch) (d : Nat) (hd : 1 ≤ d) (v0 : Nat) : zMet l d 0 0 yX6_keptTold cX6_keptTold 1 (Option.some .int) [.ref v0] (X6_keptTold v0) := by
  obtain ⟨e, rfl⟩ : ∃ e, d = e + 1 := ⟨d - 1, by omega⟩
  exact zmet_of (own := RX6) (ini := false) (by decide +kernel) rfl (fun _ => by contradiction) (Nat.le_of_ble_eq_true rfl) (coX6_keptTold l e (by omega) v0)
abbrev iX11_has : zI := (RX11, cX11_has, 2, (Option.some .int), false)
def tX11_has : List (Nat × Instr × Nat) := [(0, .iload_n 1, 1), (1, .tableswitch 136 0 9 #[55, 65, 75, 83, 91, 99, 107, 115, 123, 128], 55), (56, .aload_n 0, 1), (57, .getfield 51, 3), (60, .getfield 160, 3), (63, .iconst 0, 1), (64, .iaload, 1), (65, .ireturn, 1), (66, .aload_n 0, 1), (67, .getfield 51, 3), (70, .getfield 160, 3), (73, .iconst 1, 1), (74, .iaload, 1), (75, .ireturn, 1), (76, .aload_n 0, 1), (77, .getfield 51, 3), (80, .getfield 163, 3), (83, .ireturn, 1), (84, .aload_n 0, 1), (85, .getfield 61, 3), (88, .getfield 166, 3), (91, .ireturn, 1), (92, .aload_n 0, 1), (93, .getfield 61, 3), (96, .getfield 169, 3), (99, .ireturn, 1), (100, .aload_n 0, 1), (101, .getfield 51, 3), (104, .getfield 172, 3), (107, .ireturn, 1), (108, .aload_n 0, 1), (109, .getfield 61, 3), (112, .invokevirtual 175, 3), (115, .ireturn, 1), (116, .aload_n 0, 1), (117, .getfield 93, 3), (120, .invokevirtual 178, 3), (123, .ireturn, 1), (124, .aload_n 0, 1), (125, .getfield 100, 3), (128, .ireturn, 1), (129, .aload_n 0, 1), (130, .getfield 93, 3), (133, .getfield 181, 3), (136, .ireturn, 1), (137, .iconst (-1), 1), (138, .ireturn, 1)]
set_option maxRecDepth 100000 in
theorem tkX11_has : ∀ q ∈ tX11_has, decode cX11_has q.1 = .ok q.2 := by decide +kernel
theorem vmX11_has : zVM yX11_has cX11_has 2 (Option.some .int) 1 11 := ⟨kX11_has, q_914, q_915, q_149, ⟨_, rfl, rfl⟩, by decide +kernel, by decide⟩
set_option maxHeartbeats 2000000 in
set_option maxRecDepth 20000 in
theorem coX11_has (l : Launch) (e : Nat) (he : 1 ≤ e) (v0 : Nat) (v1 : Int32) : zCo l (e + 1) 0 0 iX11_has 0 [(0, .ref v0), (1, .int v1)] [] (X11_has v0 v1) := by
  unfold X11_has
  refine zco_p tkX11_has 0 1 (pc' := 1) (L' := [(0, .ref v0), (1, .int v1)]) (S' := [.int v1]) rfl ?_
  refine @zco_tab l (e + 1) 0 0 iX11_has 1 [(0, .ref v0), (1, .int v1)] [] _ v1 136 0 9 #[55, 65, 75, 83, 91, 99, 107, 115, 123, 128] 55 (zdk (cc := cX11_has) (q := (1, .tableswitch 136 0 9 #[55, 65, 75, 83, 91, 99, 107, 115, 123, 128], 55)) tkX11_has 1 rfl) 137 rfl [56, 66, 76, 84, 92, 100, 108, 116, 124, 129] (X11_has_S1 v0) (by decide) (by decide) ?_ (fun j t ht => ?_)
  · refine zco_p tkX11_has 45 1 (pc' := 138) (L' := [(0, .ref v0), (1, .int v1)]) (S' := [.int ((-1))]) rfl ?_
    exact zco_iret rfl rfl rfl (zdk (cc := cX11_has) (q := (138, .ireturn, 1)) tkX11_has 46 rfl)
  · match j, ht with
    | 0, ht =>
      cases ht
      show zCo l (e + 1) 0 0 iX11_has 56 [(0, .ref v0), (1, .int v1)] [] (z_gr 11 5 v0 fun x1 => z_gr 1 0 x1 fun x2 => z_la 20 x2 0 fun x3 => z_ret (some (.int x3)))
      refine zco_p tkX11_has 2 1 (pc' := 57) (L' := [(0, .ref v0), (1, .int v1)]) (S' := [.ref v0]) rfl ?_
      refine zco_gr fl_11_51 rfl (zdk (cc := cX11_has) (q := (57, .getfield 51, 3)) tkX11_has 3 rfl) (fun x1 => ?_)
      refine zco_gr fl_11_160 rfl (zdk (cc := cX11_has) (q := (60, .getfield 160, 3)) tkX11_has 4 rfl) (fun x2 => ?_)
      refine zco_p tkX11_has 5 1 (pc' := 64) (L' := [(0, .ref v0), (1, .int v1)]) (S' := [.int 0, .ref x2]) rfl ?_
      refine zco_iaload (zdk (cc := cX11_has) (q := (64, .iaload, 1)) tkX11_has 6 rfl) (fun x3 => ?_)
      exact zco_iret rfl rfl rfl (zdk (cc := cX11_has) (q := (65, .ireturn, 1)) tkX11_has 7 rfl)
    | 1, ht =>
      cases ht
      show zCo l (e + 1) 0 0 iX11_has 66 [(0, .ref v0), (1, .int v1)] [] (z_gr 11 5 v0 fun x4 => z_gr 1 0 x4 fun x5 => z_la 20 x5 1 fun x6 => z_ret (some (.int x6)))
      refine zco_p tkX11_has 8 1 (pc' := 67) (L' := [(0, .ref v0), (1, .int v1)]) (S' := [.ref v0]) rfl ?_
      refine zco_gr fl_11_51 rfl (zdk (cc := cX11_has) (q := (67, .getfield 51, 3)) tkX11_has 9 rfl) (fun x4 => ?_)
      refine zco_gr fl_11_160 rfl (zdk (cc := cX11_has) (q := (70, .getfield 160, 3)) tkX11_has 10 rfl) (fun x5 => ?_)
      refine zco_p tkX11_has 11 1 (pc' := 74) (L' := [(0, .ref v0), (1, .int v1)]) (S' := [.int 1, .ref x5]) rfl ?_
      refine zco_iaload (zdk (cc := cX11_has) (q := (74, .iaload, 1)) tkX11_has 12 rfl) (fun x6 => ?_)
      exact zco_iret rfl rfl rfl (zdk (cc := cX11_has) (q := (75, .ireturn, 1)) tkX11_has 13 rfl)
    | 2, ht =>
      cases ht
      show zCo l (e + 1) 0 0 iX11_has 76 [(0, .ref v0), (1, .int v1)] [] (z_gr 11 5 v0 fun x7 => z_gi 1 6 x7 fun x8 => z_ret (some (.int x8)))
      refine zco_p tkX11_has 14 1 (pc' := 77) (L' := [(0, .ref v0), (1, .int v1)]) (S' := [.ref v0]) rfl ?_
      refine zco_gr fl_11_51 rfl (zdk (cc := cX11_has) (q := (77, .getfield 51, 3)) tkX11_has 15 rfl) (fun x7 => ?_)
      refine zco_gi fl_11_163 rfl (zdk (cc := cX11_has) (q := (80, .getfield 163, 3)) tkX11_has 16 rfl) (fun x8 => ?_)
      exact zco_iret rfl rfl rfl (zdk (cc := cX11_has) (q := (83, .ireturn, 1)) tkX11_has 17 rfl)
    | 3, ht =>
      cases ht
      show zCo l (e + 1) 0 0 iX11_has 84 [(0, .ref v0), (1, .int v1)] [] (z_gr 11 7 v0 fun x9 => z_gi 8 0 x9 fun x10 => z_ret (some (.int x10)))
      refine zco_p tkX11_has 18 1 (pc' := 85) (L' := [(0, .ref v0), (1, .int v1)]) (S' := [.ref v0]) rfl ?_
      refine zco_gr fl_11_61 rfl (zdk (cc := cX11_has) (q := (85, .getfield 61, 3)) tkX11_has 19 rfl) (fun x9 => ?_)
      refine zco_gi fl_11_166 rfl (zdk (cc := cX11_has) (q := (88, .getfield 166, 3)) tkX11_has 20 rfl) (fun x10 => ?_)
      exact zco_iret rfl rfl rfl (zdk (cc := cX11_has) (q := (91, .ireturn, 1)) tkX11_has 21 rfl)
    | 4, ht =>
      cases ht
      show zCo l (e + 1) 0 0 iX11_has 92 [(0, .ref v0), (1, .int v1)] [] (z_gr 11 7 v0 fun x11 => z_gi 8 1 x11 fun x12 => z_ret (some (.int x12)))
      refine zco_p tkX11_has 22 1 (pc' := 93) (L' := [(0, .ref v0), (1, .int v1)]) (S' := [.ref v0]) rfl ?_
      refine zco_gr fl_11_61 rfl (zdk (cc := cX11_has) (q := (93, .getfield 61, 3)) tkX11_has 23 rfl) (fun x11 => ?_)
      refine zco_gi fl_11_169 rfl (zdk (cc := cX11_has) (q := (96, .getfield 169, 3)) tkX11_has 24 rfl) (fun x12 => ?_)
      exact zco_iret rfl rfl rfl (zdk (cc := cX11_has) (q := (99, .ireturn, 1)) tkX11_has 25 rfl)
    | 5, ht =>
      cases ht
      show zCo l (e + 1) 0 0 iX11_has 100 [(0, .ref v0), (1, .int v1)] [] (z_gr 11 5 v0 fun x13 => z_gi 1 9 x13 fun x14 => z_ret (some (.int x14)))
      refine zco_p tkX11_has 26 1 (pc' := 101) (L' := [(0, .ref v0), (1, .int v1)]) (S' := [.ref v0]) rfl ?_
      refine zco_gr fl_11_51 rfl (zdk (cc := cX11_has) (q := (101, .getfield 51, 3)) tkX11_has 27 rfl) (fun x13 => ?_)
      refine zco_gi fl_11_172 rfl (zdk (cc := cX11_has) (q := (104, .getfield 172, 3)) tkX11_has 28 rfl) (fun x14 => ?_)
      exact zco_iret rfl rfl rfl (zdk (cc := cX11_has) (q := (107, .ireturn, 1)) tkX11_has 29 rfl)
    | 6, ht =>
      cases ht
      show zCo l (e + 1) 0 0 iX11_has 108 [(0, .ref v0), (1, .int v1)] [] (z_gr 11 7 v0 fun x15 => z_rc 8 x15 (z_ci (X8_wedPairs x15) fun y16 => z_ret (some (.int y16))))
      refine zco_p tkX11_has 30 1 (pc' := 109) (L' := [(0, .ref v0), (1, .int v1)]) (S' := [.ref v0]) rfl ?_
      refine zco_gr fl_11_61 rfl (zdk (cc := cX11_has) (q := (109, .getfield 61, 3)) tkX11_has 31 rfl) (fun x15 => ?_)
      refine zco_Vi (rc := 0) (rs := 0) (mc := 0) (ms := 0) (As := []) (S := []) vmX8_wedPairs (mtX8_wedPairs l e (by omega) x15) q_917 rfl rfl (Nat.le_of_ble_eq_true rfl) (zdk (cc := cX11_has) (q := (112, .invokevirtual 175, 3)) tkX11_has 32 rfl) (fun y16 => ?_)
      exact zco_iret rfl rfl rfl (zdk (cc := cX11_has) (q := (115, .ireturn, 1)) tkX11_has 33 rfl)
    | 7, ht =>
      cases ht
      show zCo l (e + 1) 0 0 iX11_has 116 [(0, .ref v0), (1, .int v1)] [] (z_gr 11 11 v0 fun x17 => z_rc 6 x17 (z_ci (X6_keptTold x17) fun y18 => z_ret (some (.int y18))))
      refine zco_p tkX11_has 34 1 (pc' := 117) (L' := [(0, .ref v0), (1, .int v1)]) (S' := [.ref v0]) rfl ?_
      refine zco_gr fl_11_93 rfl (zdk (cc := cX11_has) (q := (117, .getfield 93, 3)) tkX11_has 35 rfl) (fun x17 => ?_)
      refine zco_Vi (rc := 0) (rs := 0) (mc := 0) (ms := 0) (As := []) (S := []) vmX6_keptTold (mtX6_keptTold l e (by omega) x17) q_921 rfl rfl (Nat.le_of_ble_eq_true rfl) (zdk (cc := cX11_has) (q := (120, .invokevirtual 178, 3)) tkX11_has 36 rfl) (fun y18 => ?_)
      exact zco_iret rfl rfl rfl (zdk (cc := cX11_has) (q := (123, .ireturn, 1)) tkX11_has 37 rfl)
    | 8, ht =>
      cases ht
      show zCo l (e + 1) 0 0 iX11_has 124 [(0, .ref v0), (1, .int v1)] [] (z_gi 11 13 v0 fun x19 => z_ret (some (.int x19)))
      refine zco_p tkX11_has 38 1 (pc' := 125) (L' := [(0, .ref v0), (1, .int v1)]) (S' := [.ref v0]) rfl ?_
      refine zco_gi fl_11_100 rfl (zdk (cc := cX11_has) (q := (125, .getfield 100, 3)) tkX11_has 39 rfl) (fun x19 => ?_)
      exact zco_iret rfl rfl rfl (zdk (cc := cX11_has) (q := (128, .ireturn, 1)) tkX11_has 40 rfl)
    | 9, ht =>
      cases ht
      show zCo l (e + 1) 0 0 iX11_has 129 [(0, .ref v0), (1, .int v1)] [] (z_gr 11 11 v0 fun x20 => z_gi 6 0 x20 fun x21 => z_ret (some (.int x21)))
      refine zco_p tkX11_has 41 1 (pc' := 130) (L' := [(0, .ref v0), (1, .int v1)]) (S' := [.ref v0]) rfl ?_
      refine zco_gr fl_11_93 rfl (zdk (cc := cX11_has) (q := (130, .getfield 93, 3)) tkX11_has 42 rfl) (fun x20 => ?_)
      refine zco_gi fl_11_181 rfl (zdk (cc := cX11_has) (q := (133, .getfield 181, 3)) tkX11_has 43 rfl) (fun x21 => ?_)
      exact zco_iret rfl rfl rfl (zdk (cc := cX11_has) (q := (136, .ireturn, 1)) tkX11_has 44 rfl)
    | j + 10, ht => exact absurd ht (by simp)
theorem mtX11_has (l : Launch) (d : Nat) (hd : 2 ≤ d) (v0 : Nat) (v1 : Int32) : zMet l d 0 0 yX11_has cX11_has 2 (Option.some .int) [.ref v0, .int v1] (X11_has v0 v1) := by
  obtain ⟨e, rfl⟩ : ∃ e, d = e + 1 := ⟨d - 1, by omega⟩
  exact zmet_of (own := RX11) (ini := false) (by decide +kernel) rfl (fun _ => by contradiction) (Nat.le_of_ble_eq_true rfl) (coX11_has l e (by omega) v0 v1)
abbrev iX1_people : zI := (RX1, cX1_people, 1, (Option.some .int), false)
def tX1_people : List (Nat × Instr × Nat) := [(0, .aload_n 0, 1), (1, .getfield 9, 3), (4, .iconst 0, 1), (5, .iaload, 1), (6, .aload_n 0, 1), (7, .getfield 9, 3), (10, .iconst 1, 1), (11, .iaload, 1), (12, .iadd, 1), (13, .ireturn, 1)]
set_option maxRecDepth 100000 in
theorem tkX1_people : ∀ q ∈ tX1_people, decode cX1_people q.1 = .ok q.2 := by decide +kernel
theorem vmX1_people : zVM yX1_people cX1_people 1 (Option.some .int) 0 1 := ⟨kX1_people, q_937, q_938, q_155, ⟨_, rfl, rfl⟩, by decide +kernel, by decide⟩
set_option maxHeartbeats 2000000 in
set_option maxRecDepth 20000 in
theorem coX1_people (l : Launch) (e : Nat) (he : 0 ≤ e) (v0 : Nat) : zCo l (e + 1) 0 0 iX1_people 0 [(0, .ref v0)] [] (X1_people v0) := by
  unfold X1_people
  refine zco_p tkX1_people 0 1 (pc' := 1) (L' := [(0, .ref v0)]) (S' := [.ref v0]) rfl ?_
  refine zco_gr fl_1_9 rfl (zdk (cc := cX1_people) (q := (1, .getfield 9, 3)) tkX1_people 1 rfl) (fun x1 => ?_)
  refine zco_p tkX1_people 2 1 (pc' := 5) (L' := [(0, .ref v0)]) (S' := [.int 0, .ref x1]) rfl ?_
  refine zco_iaload (zdk (cc := cX1_people) (q := (5, .iaload, 1)) tkX1_people 3 rfl) (fun x2 => ?_)
  refine zco_p tkX1_people 4 1 (pc' := 7) (L' := [(0, .ref v0)]) (S' := [.ref v0, .int x2]) rfl ?_
  refine zco_gr fl_1_9 rfl (zdk (cc := cX1_people) (q := (7, .getfield 9, 3)) tkX1_people 5 rfl) (fun x3 => ?_)
  refine zco_p tkX1_people 6 1 (pc' := 11) (L' := [(0, .ref v0)]) (S' := [.int 1, .ref x3, .int x2]) rfl ?_
  refine zco_iaload (zdk (cc := cX1_people) (q := (11, .iaload, 1)) tkX1_people 7 rfl) (fun x4 => ?_)
  refine zco_p tkX1_people 8 1 (pc' := 13) (L' := [(0, .ref v0)]) (S' := [.int (x2 + x4)]) rfl ?_
  exact zco_iret rfl rfl rfl (zdk (cc := cX1_people) (q := (13, .ireturn, 1)) tkX1_people 9 rfl)
theorem mtX1_people (l : Launch) (d : Nat) (hd : 1 ≤ d) (v0 : Nat) : zMet l d 0 0 yX1_people cX1_people 1 (Option.some .int) [.ref v0] (X1_people v0) := by
  obtain ⟨e, rfl⟩ : ∃ e, d = e + 1 := ⟨d - 1, by omega⟩
  exact zmet_of (own := RX1) (ini := false) (by decide +kernel) rfl (fun _ => by contradiction) (Nat.le_of_ble_eq_true rfl) (coX1_people l e (by omega) v0)
abbrev iX1_slot : zI := (RX1, cX1_slot, 2, (Option.some .int), false)
def tX1_slot : List (Nat × Instr × Nat) := [(0, .iload_n 1, 1), (1, .ifCond .lt 11, 3), (4, .iload_n 1, 1), (5, .aload_n 0, 1), (6, .invokevirtual 81, 3), (9, .if_icmp .lt 5, 3), (12, .iconst (-1), 1), (13, .ireturn, 1), (14, .iload_n 1, 1), (15, .aload_n 0, 1), (16, .getfield 9, 3), (19, .iconst 0, 1), (20, .iaload, 1), (21, .if_icmp .ge 7, 3), (24, .iload_n 1, 1), (25, .goto 14, 3), (28, .bipush 6, 2), (30, .iload_n 1, 1), (31, .iadd, 1), (32, .aload_n 0, 1), (33, .getfield 9, 3), (36, .iconst 0, 1), (37, .iaload, 1), (38, .isub, 1), (39, .ireturn, 1)]
set_option maxRecDepth 100000 in
theorem tkX1_slot : ∀ q ∈ tX1_slot, decode cX1_slot q.1 = .ok q.2 := by decide +kernel
theorem vmX1_slot : zVM yX1_slot cX1_slot 2 (Option.some .int) 1 1 := ⟨kX1_slot, q_933, q_934, q_155, ⟨_, rfl, rfl⟩, by decide +kernel, by decide⟩
set_option maxHeartbeats 2000000 in
set_option maxRecDepth 20000 in
theorem coX1_slot (l : Launch) (e : Nat) (he : 1 ≤ e) (v0 : Nat) (v1 : Int32) : zCo l (e + 1) 0 0 iX1_slot 0 [(0, .ref v0), (1, .int v1)] [] (X1_slot v0 v1) := by
  unfold X1_slot
  refine zco_p tkX1_slot 0 1 (pc' := 1) (L' := [(0, .ref v0), (1, .int v1)]) (S' := [.int v1]) rfl ?_
  refine zco_if_lt (tgt := 12) (zdk (cc := cX1_slot) (q := (1, .ifCond .lt 11, 3)) tkX1_slot 1 rfl) rfl ?_ ?_
  · refine zco_p tkX1_slot 6 1 (pc' := 13) (L' := [(0, .ref v0), (1, .int v1)]) (S' := [.int ((-1))]) rfl ?_
    exact zco_iret rfl rfl rfl (zdk (cc := cX1_slot) (q := (13, .ireturn, 1)) tkX1_slot 7 rfl)
  · refine zco_p tkX1_slot 2 2 (pc' := 6) (L' := [(0, .ref v0), (1, .int v1)]) (S' := [.ref v0, .int v1]) rfl ?_
    refine zco_Vi (rc := 0) (rs := 0) (mc := 0) (ms := 0) (As := []) (S := [.int v1]) vmX1_people (mtX1_people l e (by omega) v0) q_936 rfl rfl (Nat.le_of_ble_eq_true rfl) (zdk (cc := cX1_slot) (q := (6, .invokevirtual 81, 3)) tkX1_slot 4 rfl) (fun y1 => ?_)
    refine zco_icmp_lt (tgt := 14) (zdk (cc := cX1_slot) (q := (9, .if_icmp .lt 5, 3)) tkX1_slot 5 rfl) rfl ?_ ?_
    · refine zco_p tkX1_slot 8 2 (pc' := 16) (L' := [(0, .ref v0), (1, .int v1)]) (S' := [.ref v0, .int v1]) rfl ?_
      refine zco_gr fl_1_9 rfl (zdk (cc := cX1_slot) (q := (16, .getfield 9, 3)) tkX1_slot 10 rfl) (fun x2 => ?_)
      refine zco_p tkX1_slot 11 1 (pc' := 20) (L' := [(0, .ref v0), (1, .int v1)]) (S' := [.int 0, .ref x2, .int v1]) rfl ?_
      refine zco_iaload (zdk (cc := cX1_slot) (q := (20, .iaload, 1)) tkX1_slot 12 rfl) (fun x3 => ?_)
      refine zco_icmp_ge (tgt := 28) (zdk (cc := cX1_slot) (q := (21, .if_icmp .ge 7, 3)) tkX1_slot 13 rfl) rfl ?_ ?_
      · refine zco_p tkX1_slot 16 4 (pc' := 33) (L' := [(0, .ref v0), (1, .int v1)]) (S' := [.ref v0, .int (6 + v1)]) rfl ?_
        refine zco_gr fl_1_9 rfl (zdk (cc := cX1_slot) (q := (33, .getfield 9, 3)) tkX1_slot 20 rfl) (fun x4 => ?_)
        refine zco_p tkX1_slot 21 1 (pc' := 37) (L' := [(0, .ref v0), (1, .int v1)]) (S' := [.int 0, .ref x4, .int (6 + v1)]) rfl ?_
        refine zco_iaload (zdk (cc := cX1_slot) (q := (37, .iaload, 1)) tkX1_slot 22 rfl) (fun x5 => ?_)
        refine zco_p tkX1_slot 23 1 (pc' := 39) (L' := [(0, .ref v0), (1, .int v1)]) (S' := [.int ((6 + v1) - x5)]) rfl ?_
        exact zco_iret rfl rfl rfl (zdk (cc := cX1_slot) (q := (39, .ireturn, 1)) tkX1_slot 24 rfl)
      · refine zco_p tkX1_slot 14 2 (pc' := 39) (L' := [(0, .ref v0), (1, .int v1)]) (S' := [.int v1]) rfl ?_
        exact zco_iret rfl rfl rfl (zdk (cc := cX1_slot) (q := (39, .ireturn, 1)) tkX1_slot 24 rfl)
    · refine zco_p tkX1_slot 6 1 (pc' := 13) (L' := [(0, .ref v0), (1, .int v1)]) (S' := [.int ((-1))]) rfl ?_
      exact zco_iret rfl rfl rfl (zdk (cc := cX1_slot) (q := (13, .ireturn, 1)) tkX1_slot 7 rfl)
theorem mtX1_slot (l : Launch) (d : Nat) (hd : 2 ≤ d) (v0 : Nat) (v1 : Int32) : zMet l d 0 0 yX1_slot cX1_slot 2 (Option.some .int) [.ref v0, .int v1] (X1_slot v0 v1) := by
  obtain ⟨e, rfl⟩ : ∃ e, d = e + 1 := ⟨d - 1, by omega⟩
  exact zmet_of (own := RX1) (ini := false) (by decide +kernel) rfl (fun _ => by contradiction) (Nat.le_of_ble_eq_true rfl) (coX1_slot l e (by omega) v0 v1)
abbrev iX11_letter : zI := (RX11, cX11_letter, 4, (Option.some .int), false)
def tX11_letter : List (Nat × Instr × Nat) := [(0, .aload_n 0, 1), (1, .getfield 51, 3), (4, .iload_n 1, 1), (5, .invokevirtual 184, 3), (8, .istore_n 3, 1), (9, .iload_n 3, 1), (10, .iconst (-1), 1), (11, .if_icmp .eq 13, 3), (14, .iload_n 2, 1), (15, .ifCond .lt 9, 3), (18, .iload_n 2, 1), (19, .bipush 6, 2), (21, .if_icmp .lt 5, 3), (24, .iconst (-1), 1), (25, .ireturn, 1), (26, .aload_n 0, 1), (27, .getfield 51, 3), (30, .getfield 187, 3), (33, .iload_n 3, 1), (34, .bipush 6, 2), (36, .imul, 1), (37, .iload_n 2, 1), (38, .iadd, 1), (39, .iaload, 1), (40, .ireturn, 1)]
set_option maxRecDepth 100000 in
theorem tkX11_letter : ∀ q ∈ tX11_letter, decode cX11_letter q.1 = .ok q.2 := by decide +kernel
theorem vmX11_letter : zVM yX11_letter cX11_letter 4 (Option.some .int) 2 11 := ⟨kX11_letter, q_929, q_930, q_149, ⟨_, rfl, rfl⟩, by decide +kernel, by decide⟩
set_option maxHeartbeats 2000000 in
set_option maxRecDepth 20000 in
theorem coX11_letter (l : Launch) (e : Nat) (he : 2 ≤ e) (v0 : Nat) (v1 : Int32) (v2 : Int32) : zCo l (e + 1) 0 0 iX11_letter 0 [(0, .ref v0), (1, .int v1), (2, .int v2)] [] (X11_letter v0 v1 v2) := by
  unfold X11_letter
  refine zco_p tkX11_letter 0 1 (pc' := 1) (L' := [(0, .ref v0), (1, .int v1), (2, .int v2)]) (S' := [.ref v0]) rfl ?_
  refine zco_gr fl_11_51 rfl (zdk (cc := cX11_letter) (q := (1, .getfield 51, 3)) tkX11_letter 1 rfl) (fun x1 => ?_)
  refine zco_p tkX11_letter 2 1 (pc' := 5) (L' := [(0, .ref v0), (1, .int v1), (2, .int v2)]) (S' := [.int v1, .ref x1]) rfl ?_
  refine zco_Vi (rc := 0) (rs := 0) (mc := 0) (ms := 0) (As := [.int v1]) (S := []) vmX1_slot (mtX1_slot l e (by omega) x1 v1) q_932 rfl rfl (Nat.le_of_ble_eq_true rfl) (zdk (cc := cX11_letter) (q := (5, .invokevirtual 184, 3)) tkX11_letter 3 rfl) (fun y2 => ?_)
  refine zco_p tkX11_letter 4 3 (pc' := 11) (L' := [(3, .int y2), (0, .ref v0), (1, .int v1), (2, .int v2)]) (S' := [.int ((-1)), .int y2]) rfl ?_
  refine zco_icmp_eq (tgt := 24) (zdk (cc := cX11_letter) (q := (11, .if_icmp .eq 13, 3)) tkX11_letter 7 rfl) rfl ?_ ?_
  · refine zco_p tkX11_letter 13 1 (pc' := 25) (L' := [(3, .int y2), (0, .ref v0), (1, .int v1), (2, .int v2)]) (S' := [.int ((-1))]) rfl ?_
    exact zco_iret rfl rfl rfl (zdk (cc := cX11_letter) (q := (25, .ireturn, 1)) tkX11_letter 14 rfl)
  · refine zco_p tkX11_letter 8 1 (pc' := 15) (L' := [(3, .int y2), (0, .ref v0), (1, .int v1), (2, .int v2)]) (S' := [.int v2]) rfl ?_
    refine zco_if_lt (tgt := 24) (zdk (cc := cX11_letter) (q := (15, .ifCond .lt 9, 3)) tkX11_letter 9 rfl) rfl ?_ ?_
    · refine zco_p tkX11_letter 13 1 (pc' := 25) (L' := [(3, .int y2), (0, .ref v0), (1, .int v1), (2, .int v2)]) (S' := [.int ((-1))]) rfl ?_
      exact zco_iret rfl rfl rfl (zdk (cc := cX11_letter) (q := (25, .ireturn, 1)) tkX11_letter 14 rfl)
    · refine zco_p tkX11_letter 10 2 (pc' := 21) (L' := [(3, .int y2), (0, .ref v0), (1, .int v1), (2, .int v2)]) (S' := [.int 6, .int v2]) rfl ?_
      refine zco_icmp_lt (tgt := 26) (zdk (cc := cX11_letter) (q := (21, .if_icmp .lt 5, 3)) tkX11_letter 12 rfl) rfl ?_ ?_
      · refine zco_p tkX11_letter 15 1 (pc' := 27) (L' := [(3, .int y2), (0, .ref v0), (1, .int v1), (2, .int v2)]) (S' := [.ref v0]) rfl ?_
        refine zco_gr fl_11_51 rfl (zdk (cc := cX11_letter) (q := (27, .getfield 51, 3)) tkX11_letter 16 rfl) (fun x3 => ?_)
        refine zco_gr fl_11_187 rfl (zdk (cc := cX11_letter) (q := (30, .getfield 187, 3)) tkX11_letter 17 rfl) (fun x4 => ?_)
        refine zco_p tkX11_letter 18 5 (pc' := 39) (L' := [(3, .int y2), (0, .ref v0), (1, .int v1), (2, .int v2)]) (S' := [.int ((y2 * 6) + v2), .ref x4]) rfl ?_
        refine zco_iaload (zdk (cc := cX11_letter) (q := (39, .iaload, 1)) tkX11_letter 23 rfl) (fun x5 => ?_)
        exact zco_iret rfl rfl rfl (zdk (cc := cX11_letter) (q := (40, .ireturn, 1)) tkX11_letter 24 rfl)
      · refine zco_p tkX11_letter 13 1 (pc' := 25) (L' := [(3, .int y2), (0, .ref v0), (1, .int v1), (2, .int v2)]) (S' := [.int ((-1))]) rfl ?_
        exact zco_iret rfl rfl rfl (zdk (cc := cX11_letter) (q := (25, .ireturn, 1)) tkX11_letter 14 rfl)
theorem mtX11_letter (l : Launch) (d : Nat) (hd : 3 ≤ d) (v0 : Nat) (v1 : Int32) (v2 : Int32) : zMet l d 0 0 yX11_letter cX11_letter 4 (Option.some .int) [.ref v0, .int v1, .int v2] (X11_letter v0 v1 v2) := by
  obtain ⟨e, rfl⟩ : ∃ e, d = e + 1 := ⟨d - 1, by omega⟩
  exact zmet_of (own := RX11) (ini := false) (by decide +kernel) rfl (fun _ => by contradiction) (Nat.le_of_ble_eq_true rfl) (coX11_letter l e (by omega) v0 v1 v2)
abbrev iX1_number : zI := (RX1, cX1_number, 2, (Option.some .int), false)
def tX1_number : List (Nat × Instr × Nat) := [(0, .iload_n 1, 1), (1, .bipush 6, 2), (3, .if_icmp .ge 7, 3), (6, .iload_n 1, 1), (7, .goto 14, 3), (10, .aload_n 0, 1), (11, .getfield 9, 3), (14, .iconst 0, 1), (15, .iaload, 1), (16, .iload_n 1, 1), (17, .iadd, 1), (18, .bipush 6, 2), (20, .isub, 1), (21, .ireturn, 1)]
set_option maxRecDepth 100000 in
theorem tkX1_number : ∀ q ∈ tX1_number, decode cX1_number q.1 = .ok q.2 := by decide +kernel
theorem vmX1_number : zVM yX1_number cX1_number 2 (Option.some .int) 1 1 := ⟨kX1_number, q_945, q_946, q_155, ⟨_, rfl, rfl⟩, by decide +kernel, by decide⟩
set_option maxHeartbeats 2000000 in
set_option maxRecDepth 20000 in
theorem coX1_number (l : Launch) (e : Nat) (he : 0 ≤ e) (v0 : Nat) (v1 : Int32) : zCo l (e + 1) 0 0 iX1_number 0 [(0, .ref v0), (1, .int v1)] [] (X1_number v0 v1) := by
  unfold X1_number
  refine zco_p tkX1_number 0 2 (pc' := 3) (L' := [(0, .ref v0), (1, .int v1)]) (S' := [.int 6, .int v1]) rfl ?_
  refine zco_icmp_ge (tgt := 10) (zdk (cc := cX1_number) (q := (3, .if_icmp .ge 7, 3)) tkX1_number 2 rfl) rfl ?_ ?_
  · refine zco_p tkX1_number 5 1 (pc' := 11) (L' := [(0, .ref v0), (1, .int v1)]) (S' := [.ref v0]) rfl ?_
    refine zco_gr fl_1_9 rfl (zdk (cc := cX1_number) (q := (11, .getfield 9, 3)) tkX1_number 6 rfl) (fun x1 => ?_)
    refine zco_p tkX1_number 7 1 (pc' := 15) (L' := [(0, .ref v0), (1, .int v1)]) (S' := [.int 0, .ref x1]) rfl ?_
    refine zco_iaload (zdk (cc := cX1_number) (q := (15, .iaload, 1)) tkX1_number 8 rfl) (fun x2 => ?_)
    refine zco_p tkX1_number 9 4 (pc' := 21) (L' := [(0, .ref v0), (1, .int v1)]) (S' := [.int ((x2 + v1) - 6)]) rfl ?_
    exact zco_iret rfl rfl rfl (zdk (cc := cX1_number) (q := (21, .ireturn, 1)) tkX1_number 13 rfl)
  · refine zco_p tkX1_number 3 2 (pc' := 21) (L' := [(0, .ref v0), (1, .int v1)]) (S' := [.int v1]) rfl ?_
    exact zco_iret rfl rfl rfl (zdk (cc := cX1_number) (q := (21, .ireturn, 1)) tkX1_number 13 rfl)
theorem mtX1_number (l : Launch) (d : Nat) (hd : 1 ≤ d) (v0 : Nat) (v1 : Int32) : zMet l d 0 0 yX1_number cX1_number 2 (Option.some .int) [.ref v0, .int v1] (X1_number v0 v1) := by
  obtain ⟨e, rfl⟩ : ∃ e, d = e + 1 := ⟨d - 1, by omega⟩
  exact zmet_of (own := RX1) (ini := false) (by decide +kernel) rfl (fun _ => by contradiction) (Nat.le_of_ble_eq_true rfl) (coX1_number l e (by omega) v0 v1)
abbrev iX8_place : zI := (RX8, cX8_place, 5, (Option.some .int), false)
def tX8_place : List (Nat × Instr × Nat) := [(0, .iload_n 1, 1), (1, .invokestatic 48, 3), (4, .istore_n 3, 1), (5, .iconst 0, 1), (6, .istore 4, 2), (8, .iload 4, 2), (10, .iload_n 2, 1), (11, .if_icmp .ge 35, 3), (14, .iload 4, 2), (16, .bipush 6, 2), (18, .if_icmp .ge 28, 3), (21, .aload_n 0, 1), (22, .getfield 18, 3), (25, .iload_n 3, 1), (26, .bipush 6, 2), (28, .imul, 1), (29, .iload 4, 2), (31, .iadd, 1), (32, .iaload, 1), (33, .iload_n 1, 1), (34, .if_icmp .ne 6, 3), (37, .iload 4, 2), (39, .ireturn, 1), (40, .iinc 4 1, 3), (43, .goto (-35), 3), (46, .iconst (-1), 1), (47, .ireturn, 1)]
set_option maxRecDepth 100000 in
theorem tkX8_place : ∀ q ∈ tX8_place, decode cX8_place q.1 = .ok q.2 := by decide +kernel
theorem vmX8_place : zVM yX8_place cX8_place 5 (Option.some .int) 2 8 := ⟨kX8_place, q_950, q_951, q_156, ⟨_, rfl, rfl⟩, by decide +kernel, by decide⟩
set_option maxHeartbeats 2000000 in
set_option maxRecDepth 20000 in
theorem coX8_place_B8 (l : Launch) (e : Nat) (he : 1 ≤ e) (v0 : Nat) (v1 : Int32) (v2 : Int32) (v3 : Int32) (r8 : Int32 → zM) (hr8 : ∀ x : Int32, zCo l (e + 1) 0 0 iX8_place 8 [(0, .ref v0), (1, .int v1), (2, .int v2), (3, .int v3), (4, .int x)] [] (r8 x)) (v4 : Int32) : zCo l (e + 1) 0 0 iX8_place 8 [(0, .ref v0), (1, .int v1), (2, .int v2), (3, .int v3), (4, .int v4)] [] (X8_place_B8 v0 v1 v2 v3 r8 v4) := by
  unfold X8_place_B8
  refine zco_p tkX8_place 5 2 (pc' := 11) (L' := [(0, .ref v0), (1, .int v1), (2, .int v2), (3, .int v3), (4, .int v4)]) (S' := [.int v2, .int v4]) rfl ?_
  refine zco_icmp_ge (tgt := 46) (zdk (cc := cX8_place) (q := (11, .if_icmp .ge 35, 3)) tkX8_place 7 rfl) rfl ?_ ?_
  · refine zco_p tkX8_place 25 1 (pc' := 47) (L' := [(0, .ref v0), (1, .int v1), (2, .int v2), (3, .int v3), (4, .int v4)]) (S' := [.int ((-1))]) rfl ?_
    exact zco_iret rfl rfl rfl (zdk (cc := cX8_place) (q := (47, .ireturn, 1)) tkX8_place 26 rfl)
  · refine zco_p tkX8_place 8 2 (pc' := 18) (L' := [(0, .ref v0), (1, .int v1), (2, .int v2), (3, .int v3), (4, .int v4)]) (S' := [.int 6, .int v4]) rfl ?_
    refine zco_icmp_ge (tgt := 46) (zdk (cc := cX8_place) (q := (18, .if_icmp .ge 28, 3)) tkX8_place 10 rfl) rfl ?_ ?_
    · refine zco_p tkX8_place 25 1 (pc' := 47) (L' := [(0, .ref v0), (1, .int v1), (2, .int v2), (3, .int v3), (4, .int v4)]) (S' := [.int ((-1))]) rfl ?_
      exact zco_iret rfl rfl rfl (zdk (cc := cX8_place) (q := (47, .ireturn, 1)) tkX8_place 26 rfl)
    · refine zco_p tkX8_place 11 1 (pc' := 22) (L' := [(0, .ref v0), (1, .int v1), (2, .int v2), (3, .int v3), (4, .int v4)]) (S' := [.ref v0]) rfl ?_
      refine zco_gr fl_8_18 rfl (zdk (cc := cX8_place) (q := (22, .getfield 18, 3)) tkX8_place 12 rfl) (fun x1 => ?_)
      refine zco_p tkX8_place 13 5 (pc' := 32) (L' := [(0, .ref v0), (1, .int v1), (2, .int v2), (3, .int v3), (4, .int v4)]) (S' := [.int ((v3 * 6) + v4), .ref x1]) rfl ?_
      refine zco_iaload (zdk (cc := cX8_place) (q := (32, .iaload, 1)) tkX8_place 18 rfl) (fun x2 => ?_)
      refine zco_p tkX8_place 19 1 (pc' := 34) (L' := [(0, .ref v0), (1, .int v1), (2, .int v2), (3, .int v3), (4, .int v4)]) (S' := [.int v1, .int x2]) rfl ?_
      refine zco_icmp_ne (tgt := 40) (zdk (cc := cX8_place) (q := (34, .if_icmp .ne 6, 3)) tkX8_place 20 rfl) rfl ?_ ?_
      · refine zco_p tkX8_place 23 2 (pc' := 8) (L' := [(4, .int (v4 + 1)), (0, .ref v0), (1, .int v1), (2, .int v2), (3, .int v3)]) (S' := []) rfl ?_
        exact zco_sub [1, 2, 3, 4, 0] rfl (hr8 (v4 + 1))
      · refine zco_p tkX8_place 21 1 (pc' := 39) (L' := [(0, .ref v0), (1, .int v1), (2, .int v2), (3, .int v3), (4, .int v4)]) (S' := [.int v4]) rfl ?_
        exact zco_iret rfl rfl rfl (zdk (cc := cX8_place) (q := (39, .ireturn, 1)) tkX8_place 22 rfl)
set_option maxHeartbeats 2000000 in
set_option maxRecDepth 20000 in
theorem coX8_place (l : Launch) (e : Nat) (he : 1 ≤ e) (v0 : Nat) (v1 : Int32) (v2 : Int32) : zCo l (e + 1) 0 0 iX8_place 0 [(0, .ref v0), (1, .int v1), (2, .int v2)] [] (X8_place v0 v1 v2) := by
  unfold X8_place
  refine zco_p tkX8_place 0 1 (pc' := 1) (L' := [(0, .ref v0), (1, .int v1), (2, .int v2)]) (S' := [.int v1]) rfl ?_
  refine zco_Ni (rc := 0) (rs := 0) (mc := 0) (ms := 0) (As := [.int v1]) (S := []) vmX11_sideOf (mtX11_sideOf l e (by omega) v1) (host := "ClothWedding") (by decide +kernel) rfl rfl (Nat.le_of_ble_eq_true rfl) (zdk (cc := cX8_place) (q := (1, .invokestatic 48, 3)) tkX8_place 1 rfl) (fun y1 => ?_)
  refine zco_p tkX8_place 2 3 (pc' := 8) (L' := [(4, .int 0), (3, .int y1), (0, .ref v0), (1, .int v1), (2, .int v2)]) (S' := []) rfl ?_
  exact zco_sub [2, 3, 4, 1, 0] rfl (zco_fix (Lf := fun x : Int32 => [(0, .ref v0), (1, .int v1), (2, .int v2), (3, .int y1), (4, .int x)]) (Sf := fun _ => []) (fun r hr x => coX8_place_B8 l e he v0 v1 v2 y1 r hr x) zFU 0)
theorem mtX8_place (l : Launch) (d : Nat) (hd : 2 ≤ d) (v0 : Nat) (v1 : Int32) (v2 : Int32) : zMet l d 0 0 yX8_place cX8_place 5 (Option.some .int) [.ref v0, .int v1, .int v2] (X8_place v0 v1 v2) := by
  obtain ⟨e, rfl⟩ : ∃ e, d = e + 1 := ⟨d - 1, by omega⟩
  exact zmet_of (own := RX8) (ini := false) (by decide +kernel) rfl (fun _ => by contradiction) (Nat.le_of_ble_eq_true rfl) (coX8_place l e (by omega) v0 v1 v2)
abbrev iX10_gatherFree : zI := (RX10, cX10_gatherFree, 6, (Option.some .int), false)
def tX10_gatherFree : List (Nat × Instr × Nat) := [(0, .iconst 0, 1), (1, .istore_n 3, 1), (2, .iconst 0, 1), (3, .istore 4, 2), (5, .iload 4, 2), (7, .aload_n 0, 1), (8, .getfield 24, 3), (11, .getfield 50, 3), (14, .iload_n 2, 1), (15, .iaload, 1), (16, .if_icmp .ge 50, 3), (19, .aload_n 1, 1), (20, .getfield 55, 3), (23, .iload_n 2, 1), (24, .bipush 6, 2), (26, .imul, 1), (27, .iload 4, 2), (29, .iadd, 1), (30, .iaload, 1), (31, .istore 5, 2), (33, .aload_n 1, 1), (34, .getfield 58, 3), (37, .iload 5, 2), (39, .iaload, 1), (40, .iconst (-1), 1), (41, .if_icmp .ne 19, 3), (44, .aload_n 0, 1), (45, .getfield 21, 3), (48, .iload_n 2, 1), (49, .bipush 6, 2), (51, .imul, 1), (52, .iload_n 3, 1), (53, .iadd, 1), (54, .iload 5, 2), (56, .iastore, 1), (57, .iinc 3 1, 3), (60, .iinc 4 1, 3), (63, .goto (-58), 3), (66, .iload_n 3, 1), (67, .ireturn, 1)]
set_option maxRecDepth 100000 in
theorem tkX10_gatherFree : ∀ q ∈ tX10_gatherFree, decode cX10_gatherFree q.1 = .ok q.2 := by decide +kernel
theorem vmX10_gatherFree : zVM yX10_gatherFree cX10_gatherFree 6 (Option.some .int) 2 10 := ⟨kX10_gatherFree, q_961, q_22, q_157, ⟨_, rfl, rfl⟩, by decide +kernel, by decide⟩
set_option maxHeartbeats 2000000 in
set_option maxRecDepth 20000 in
theorem coX10_gatherFree_J60 (l : Launch) (e : Nat) (he : 0 ≤ e) (v0 : Nat) (v1 : Nat) (v2 : Int32) (v3 : Int32) (v4 : Int32) (r5 : Int32 × Int32 → zM) (hr5 : ∀ x : Int32 × Int32, zCo l (e + 1) 0 0 iX10_gatherFree 5 [(0, .ref v0), (1, .ref v1), (2, .int v2), (3, .int x.1), (4, .int x.2)] [] (r5 x)) : zCo l (e + 1) 0 0 iX10_gatherFree 60 [(0, .ref v0), (1, .ref v1), (2, .int v2), (3, .int v3), (4, .int v4)] [] (X10_gatherFree_J60 r5 v0 v1 v2 v3 v4) := by
  unfold X10_gatherFree_J60
  refine zco_p tkX10_gatherFree 36 2 (pc' := 5) (L' := [(4, .int (v4 + 1)), (0, .ref v0), (1, .ref v1), (2, .int v2), (3, .int v3)]) (S' := []) rfl ?_
  exact zco_sub [1, 2, 3, 4, 0] rfl (hr5 (v3, v4 + 1))
set_option maxHeartbeats 2000000 in
set_option maxRecDepth 20000 in
theorem coX10_gatherFree_B5 (l : Launch) (e : Nat) (he : 0 ≤ e) (v0 : Nat) (v1 : Nat) (v2 : Int32) (r5 : Int32 × Int32 → zM) (hr5 : ∀ x : Int32 × Int32, zCo l (e + 1) 0 0 iX10_gatherFree 5 [(0, .ref v0), (1, .ref v1), (2, .int v2), (3, .int x.1), (4, .int x.2)] [] (r5 x)) (v3 : Int32) (v4 : Int32) : zCo l (e + 1) 0 0 iX10_gatherFree 5 [(0, .ref v0), (1, .ref v1), (2, .int v2), (3, .int v3), (4, .int v4)] [] (X10_gatherFree_B5 v0 v1 v2 r5 v3 v4) := by
  unfold X10_gatherFree_B5
  refine zco_p tkX10_gatherFree 4 2 (pc' := 8) (L' := [(0, .ref v0), (1, .ref v1), (2, .int v2), (3, .int v3), (4, .int v4)]) (S' := [.ref v0, .int v4]) rfl ?_
  refine zco_gr fl_10_24 rfl (zdk (cc := cX10_gatherFree) (q := (8, .getfield 24, 3)) tkX10_gatherFree 6 rfl) (fun x1 => ?_)
  refine zco_gr fl_10_50 rfl (zdk (cc := cX10_gatherFree) (q := (11, .getfield 50, 3)) tkX10_gatherFree 7 rfl) (fun x2 => ?_)
  refine zco_p tkX10_gatherFree 8 1 (pc' := 15) (L' := [(0, .ref v0), (1, .ref v1), (2, .int v2), (3, .int v3), (4, .int v4)]) (S' := [.int v2, .ref x2, .int v4]) rfl ?_
  refine zco_iaload (zdk (cc := cX10_gatherFree) (q := (15, .iaload, 1)) tkX10_gatherFree 9 rfl) (fun x3 => ?_)
  refine zco_icmp_ge (tgt := 66) (zdk (cc := cX10_gatherFree) (q := (16, .if_icmp .ge 50, 3)) tkX10_gatherFree 10 rfl) rfl ?_ ?_
  · refine zco_p tkX10_gatherFree 38 1 (pc' := 67) (L' := [(0, .ref v0), (1, .ref v1), (2, .int v2), (3, .int v3), (4, .int v4)]) (S' := [.int v3]) rfl ?_
    exact zco_iret rfl rfl rfl (zdk (cc := cX10_gatherFree) (q := (67, .ireturn, 1)) tkX10_gatherFree 39 rfl)
  · refine zco_p tkX10_gatherFree 11 1 (pc' := 20) (L' := [(0, .ref v0), (1, .ref v1), (2, .int v2), (3, .int v3), (4, .int v4)]) (S' := [.ref v1]) rfl ?_
    refine zco_gr fl_10_55 rfl (zdk (cc := cX10_gatherFree) (q := (20, .getfield 55, 3)) tkX10_gatherFree 12 rfl) (fun x4 => ?_)
    refine zco_p tkX10_gatherFree 13 5 (pc' := 30) (L' := [(0, .ref v0), (1, .ref v1), (2, .int v2), (3, .int v3), (4, .int v4)]) (S' := [.int ((v2 * 6) + v4), .ref x4]) rfl ?_
    refine zco_iaload (zdk (cc := cX10_gatherFree) (q := (30, .iaload, 1)) tkX10_gatherFree 18 rfl) (fun x5 => ?_)
    refine zco_p tkX10_gatherFree 19 2 (pc' := 34) (L' := [(5, .int x5), (0, .ref v0), (1, .ref v1), (2, .int v2), (3, .int v3), (4, .int v4)]) (S' := [.ref v1]) rfl ?_
    refine zco_gr fl_10_58 rfl (zdk (cc := cX10_gatherFree) (q := (34, .getfield 58, 3)) tkX10_gatherFree 21 rfl) (fun x6 => ?_)
    refine zco_p tkX10_gatherFree 22 1 (pc' := 39) (L' := [(5, .int x5), (0, .ref v0), (1, .ref v1), (2, .int v2), (3, .int v3), (4, .int v4)]) (S' := [.int x5, .ref x6]) rfl ?_
    refine zco_iaload (zdk (cc := cX10_gatherFree) (q := (39, .iaload, 1)) tkX10_gatherFree 23 rfl) (fun x7 => ?_)
    refine zco_p tkX10_gatherFree 24 1 (pc' := 41) (L' := [(5, .int x5), (0, .ref v0), (1, .ref v1), (2, .int v2), (3, .int v3), (4, .int v4)]) (S' := [.int ((-1)), .int x7]) rfl ?_
    refine zco_icmp_ne (tgt := 60) (zdk (cc := cX10_gatherFree) (q := (41, .if_icmp .ne 19, 3)) tkX10_gatherFree 25 rfl) rfl ?_ ?_
    · exact zco_sub [1, 2, 3, 4, 5] rfl (coX10_gatherFree_J60 l e he v0 v1 v2 v3 v4 r5 hr5)
    · refine zco_p tkX10_gatherFree 26 1 (pc' := 45) (L' := [(5, .int x5), (0, .ref v0), (1, .ref v1), (2, .int v2), (3, .int v3), (4, .int v4)]) (S' := [.ref v0]) rfl ?_
      refine zco_gr fl_10_21 rfl (zdk (cc := cX10_gatherFree) (q := (45, .getfield 21, 3)) tkX10_gatherFree 27 rfl) (fun x8 => ?_)
      refine zco_p tkX10_gatherFree 28 6 (pc' := 56) (L' := [(5, .int x5), (0, .ref v0), (1, .ref v1), (2, .int v2), (3, .int v3), (4, .int v4)]) (S' := [.int x5, .int ((v2 * 6) + v3), .ref x8]) rfl ?_
      refine zco_iastore (zdk (cc := cX10_gatherFree) (q := (56, .iastore, 1)) tkX10_gatherFree 34 rfl) ?_
      refine zco_p tkX10_gatherFree 35 1 (pc' := 60) (L' := [(3, .int (v3 + 1)), (5, .int x5), (0, .ref v0), (1, .ref v1), (2, .int v2), (4, .int v4)]) (S' := []) rfl ?_
      exact zco_sub [2, 3, 4, 0, 5] rfl (coX10_gatherFree_J60 l e he v0 v1 v2 (v3 + 1) v4 r5 hr5)
set_option maxHeartbeats 2000000 in
set_option maxRecDepth 20000 in
theorem coX10_gatherFree (l : Launch) (e : Nat) (he : 0 ≤ e) (v0 : Nat) (v1 : Nat) (v2 : Int32) : zCo l (e + 1) 0 0 iX10_gatherFree 0 [(0, .ref v0), (1, .ref v1), (2, .int v2)] [] (X10_gatherFree v0 v1 v2) := by
  unfold X10_gatherFree
  refine zco_p tkX10_gatherFree 0 4 (pc' := 5) (L' := [(4, .int 0), (3, .int 0), (0, .ref v0), (1, .ref v1), (2, .int v2)]) (S' := []) rfl ?_
  exact zco_sub [2, 3, 4, 1, 0] rfl (zco_fix (Lf := fun x : Int32 × Int32 => [(0, .ref v0), (1, .ref v1), (2, .int v2), (3, .int x.1), (4, .int x.2)]) (Sf := fun _ => []) (fun r hr x => coX10_gatherFree_B5 l e he v0 v1 v2 r hr x.1 x.2) zFU (0, 0))
theorem mtX10_gatherFree (l : Launch) (d : Nat) (hd : 1 ≤ d) (v0 : Nat) (v1 : Nat) (v2 : Int32) : zMet l d 0 0 yX10_gatherFree cX10_gatherFree 6 (Option.some .int) [.ref v0, .ref v1, .int v2] (X10_gatherFree v0 v1 v2) := by
  obtain ⟨e, rfl⟩ : ∃ e, d = e + 1 := ⟨d - 1, by omega⟩
  exact zmet_of (own := RX10) (ini := false) (by decide +kernel) rfl (fun _ => by contradiction) (Nat.le_of_ble_eq_true rfl) (coX10_gatherFree l e (by omega) v0 v1 v2)
abbrev iX10_giveHands : zI := (RX10, cX10_giveHands, 9, (Option.none : Option FieldType), false)
def tX10_giveHands : List (Nat × Instr × Nat) := [(0, .aload_n 0, 1), (1, .getfield 9, 3), (4, .iconst (-1), 1), (5, .invokestatic 28, 3), (8, .aload_n 0, 1), (9, .aload_n 1, 1), (10, .iconst 0, 1), (11, .invokevirtual 34, 3), (14, .istore_n 2, 1), (15, .aload_n 0, 1), (16, .aload_n 1, 1), (17, .iconst 1, 1), (18, .invokevirtual 34, 3), (21, .istore_n 3, 1), (22, .iload_n 2, 1), (23, .iload_n 3, 1), (24, .invokestatic 38, 3), (27, .istore 4, 2), (29, .iconst 0, 1), (30, .istore 5, 2), (32, .iload 5, 2), (34, .iload_n 2, 1), (35, .if_icmp .ge 71, 3), (38, .iload 4, 2), (40, .ifCond .le 66, 3), (43, .iload 5, 2), (45, .aload_n 1, 1), (46, .getfield 44, 3), (49, .iadd, 1), (50, .iload 4, 2), (52, .irem, 1), (53, .istore 6, 2), (55, .iload 6, 2), (57, .iload_n 3, 1), (58, .if_icmp .ge 42, 3), (61, .aload_n 0, 1), (62, .getfield 21, 3), (65, .iload 5, 2), (67, .iaload, 1), (68, .istore 7, 2), (70, .aload_n 0, 1), (71, .getfield 21, 3), (74, .bipush 6, 2), (76, .iload 6, 2), (78, .iadd, 1), (79, .iaload, 1), (80, .istore 8, 2), (82, .aload_n 0, 1), (83, .getfield 9, 3), (86, .iload 7, 2), (88, .iload 8, 2), (90, .iastore, 1), (91, .aload_n 0, 1), (92, .getfield 9, 3), (95, .iload 8, 2), (97, .iload 7, 2), (99, .iastore, 1), (100, .iinc 5 1, 3), (103, .goto (-71), 3), (106, .return_, 1)]
set_option maxRecDepth 100000 in
theorem tkX10_giveHands : ∀ q ∈ tX10_giveHands, decode cX10_giveHands q.1 = .ok q.2 := by decide +kernel
theorem vmX10_giveHands : zVM yX10_giveHands cX10_giveHands 9 (Option.none : Option FieldType) 1 10 := ⟨kX10_giveHands, q_955, q_956, q_157, ⟨_, rfl, rfl⟩, by decide +kernel, by decide⟩
set_option maxHeartbeats 2000000 in
set_option maxRecDepth 20000 in
theorem coX10_giveHands_J100 (l : Launch) (e : Nat) (he : 1 ≤ e) (v0 : Nat) (v1 : Nat) (v2 : Int32) (v3 : Int32) (v4 : Int32) (v5 : Int32) (r32 : Int32 → zM) (hr32 : ∀ x : Int32, zCo l (e + 1) 0 0 iX10_giveHands 32 [(0, .ref v0), (1, .ref v1), (2, .int v2), (3, .int v3), (4, .int v4), (5, .int x)] [] (r32 x)) : zCo l (e + 1) 0 0 iX10_giveHands 100 [(0, .ref v0), (1, .ref v1), (2, .int v2), (3, .int v3), (4, .int v4), (5, .int v5)] [] (X10_giveHands_J100 r32 v0 v1 v2 v3 v4 v5) := by
  unfold X10_giveHands_J100
  refine zco_p tkX10_giveHands 57 2 (pc' := 32) (L' := [(5, .int (v5 + 1)), (0, .ref v0), (1, .ref v1), (2, .int v2), (3, .int v3), (4, .int v4)]) (S' := []) rfl ?_
  exact zco_sub [1, 2, 3, 4, 5, 0] rfl (hr32 (v5 + 1))
set_option maxHeartbeats 2000000 in
set_option maxRecDepth 20000 in
theorem coX10_giveHands_B32 (l : Launch) (e : Nat) (he : 1 ≤ e) (v0 : Nat) (v1 : Nat) (v2 : Int32) (v3 : Int32) (v4 : Int32) (r32 : Int32 → zM) (hr32 : ∀ x : Int32, zCo l (e + 1) 0 0 iX10_giveHands 32 [(0, .ref v0), (1, .ref v1), (2, .int v2), (3, .int v3), (4, .int v4), (5, .int x)] [] (r32 x)) (v5 : Int32) : zCo l (e + 1) 0 0 iX10_giveHands 32 [(0, .ref v0), (1, .ref v1), (2, .int v2), (3, .int v3), (4, .int v4), (5, .int v5)] [] (X10_giveHands_B32 v0 v1 v2 v3 v4 r32 v5) := by
  unfold X10_giveHands_B32
  refine zco_p tkX10_giveHands 20 2 (pc' := 35) (L' := [(0, .ref v0), (1, .ref v1), (2, .int v2), (3, .int v3), (4, .int v4), (5, .int v5)]) (S' := [.int v2, .int v5]) rfl ?_
  refine zco_icmp_ge (tgt := 106) (zdk (cc := cX10_giveHands) (q := (35, .if_icmp .ge 71, 3)) tkX10_giveHands 22 rfl) rfl ?_ ?_
  · exact zco_vret rfl rfl rfl (zdk (cc := cX10_giveHands) (q := (106, .return_, 1)) tkX10_giveHands 59 rfl)
  · refine zco_p tkX10_giveHands 23 1 (pc' := 40) (L' := [(0, .ref v0), (1, .ref v1), (2, .int v2), (3, .int v3), (4, .int v4), (5, .int v5)]) (S' := [.int v4]) rfl ?_
    refine zco_if_le (tgt := 106) (zdk (cc := cX10_giveHands) (q := (40, .ifCond .le 66, 3)) tkX10_giveHands 24 rfl) rfl ?_ ?_
    · exact zco_vret rfl rfl rfl (zdk (cc := cX10_giveHands) (q := (106, .return_, 1)) tkX10_giveHands 59 rfl)
    · refine zco_p tkX10_giveHands 25 2 (pc' := 46) (L' := [(0, .ref v0), (1, .ref v1), (2, .int v2), (3, .int v3), (4, .int v4), (5, .int v5)]) (S' := [.ref v1, .int v5]) rfl ?_
      refine zco_gi fl_10_44 rfl (zdk (cc := cX10_giveHands) (q := (46, .getfield 44, 3)) tkX10_giveHands 27 rfl) (fun x1 => ?_)
      refine zco_p tkX10_giveHands 28 2 (pc' := 52) (L' := [(0, .ref v0), (1, .ref v1), (2, .int v2), (3, .int v3), (4, .int v4), (5, .int v5)]) (S' := [.int v4, .int (v5 + x1)]) rfl ?_
      refine zco_irem (zdk (cc := cX10_giveHands) (q := (52, .irem, 1)) tkX10_giveHands 30 rfl) ?_
      refine zco_p tkX10_giveHands 31 3 (pc' := 58) (L' := [(6, .int ((v5 + x1) - (v5 + x1) / v4 * v4)), (0, .ref v0), (1, .ref v1), (2, .int v2), (3, .int v3), (4, .int v4), (5, .int v5)]) (S' := [.int v3, .int ((v5 + x1) - (v5 + x1) / v4 * v4)]) rfl ?_
      refine zco_icmp_ge (tgt := 100) (zdk (cc := cX10_giveHands) (q := (58, .if_icmp .ge 42, 3)) tkX10_giveHands 34 rfl) rfl ?_ ?_
      · exact zco_sub [1, 2, 3, 4, 5, 6] rfl (coX10_giveHands_J100 l e he v0 v1 v2 v3 v4 v5 r32 hr32)
      · refine zco_p tkX10_giveHands 35 1 (pc' := 62) (L' := [(6, .int ((v5 + x1) - (v5 + x1) / v4 * v4)), (0, .ref v0), (1, .ref v1), (2, .int v2), (3, .int v3), (4, .int v4), (5, .int v5)]) (S' := [.ref v0]) rfl ?_
        refine zco_gr fl_10_21 rfl (zdk (cc := cX10_giveHands) (q := (62, .getfield 21, 3)) tkX10_giveHands 36 rfl) (fun x2 => ?_)
        refine zco_p tkX10_giveHands 37 1 (pc' := 67) (L' := [(6, .int ((v5 + x1) - (v5 + x1) / v4 * v4)), (0, .ref v0), (1, .ref v1), (2, .int v2), (3, .int v3), (4, .int v4), (5, .int v5)]) (S' := [.int v5, .ref x2]) rfl ?_
        refine zco_iaload (zdk (cc := cX10_giveHands) (q := (67, .iaload, 1)) tkX10_giveHands 38 rfl) (fun x3 => ?_)
        refine zco_p tkX10_giveHands 39 2 (pc' := 71) (L' := [(7, .int x3), (6, .int ((v5 + x1) - (v5 + x1) / v4 * v4)), (0, .ref v0), (1, .ref v1), (2, .int v2), (3, .int v3), (4, .int v4), (5, .int v5)]) (S' := [.ref v0]) rfl ?_
        refine zco_gr fl_10_21 rfl (zdk (cc := cX10_giveHands) (q := (71, .getfield 21, 3)) tkX10_giveHands 41 rfl) (fun x4 => ?_)
        refine zco_p tkX10_giveHands 42 3 (pc' := 79) (L' := [(7, .int x3), (6, .int ((v5 + x1) - (v5 + x1) / v4 * v4)), (0, .ref v0), (1, .ref v1), (2, .int v2), (3, .int v3), (4, .int v4), (5, .int v5)]) (S' := [.int (6 + ((v5 + x1) - (v5 + x1) / v4 * v4)), .ref x4]) rfl ?_
        refine zco_iaload (zdk (cc := cX10_giveHands) (q := (79, .iaload, 1)) tkX10_giveHands 45 rfl) (fun x5 => ?_)
        refine zco_p tkX10_giveHands 46 2 (pc' := 83) (L' := [(8, .int x5), (7, .int x3), (6, .int ((v5 + x1) - (v5 + x1) / v4 * v4)), (0, .ref v0), (1, .ref v1), (2, .int v2), (3, .int v3), (4, .int v4), (5, .int v5)]) (S' := [.ref v0]) rfl ?_
        refine zco_gr fl_10_9 rfl (zdk (cc := cX10_giveHands) (q := (83, .getfield 9, 3)) tkX10_giveHands 48 rfl) (fun x6 => ?_)
        refine zco_p tkX10_giveHands 49 2 (pc' := 90) (L' := [(8, .int x5), (7, .int x3), (6, .int ((v5 + x1) - (v5 + x1) / v4 * v4)), (0, .ref v0), (1, .ref v1), (2, .int v2), (3, .int v3), (4, .int v4), (5, .int v5)]) (S' := [.int x5, .int x3, .ref x6]) rfl ?_
        refine zco_iastore (zdk (cc := cX10_giveHands) (q := (90, .iastore, 1)) tkX10_giveHands 51 rfl) ?_
        refine zco_p tkX10_giveHands 52 1 (pc' := 92) (L' := [(8, .int x5), (7, .int x3), (6, .int ((v5 + x1) - (v5 + x1) / v4 * v4)), (0, .ref v0), (1, .ref v1), (2, .int v2), (3, .int v3), (4, .int v4), (5, .int v5)]) (S' := [.ref v0]) rfl ?_
        refine zco_gr fl_10_9 rfl (zdk (cc := cX10_giveHands) (q := (92, .getfield 9, 3)) tkX10_giveHands 53 rfl) (fun x7 => ?_)
        refine zco_p tkX10_giveHands 54 2 (pc' := 99) (L' := [(8, .int x5), (7, .int x3), (6, .int ((v5 + x1) - (v5 + x1) / v4 * v4)), (0, .ref v0), (1, .ref v1), (2, .int v2), (3, .int v3), (4, .int v4), (5, .int v5)]) (S' := [.int x3, .int x5, .ref x7]) rfl ?_
        refine zco_iastore (zdk (cc := cX10_giveHands) (q := (99, .iastore, 1)) tkX10_giveHands 56 rfl) ?_
        exact zco_sub [3, 4, 5, 6, 7, 8] rfl (coX10_giveHands_J100 l e he v0 v1 v2 v3 v4 v5 r32 hr32)
set_option maxHeartbeats 2000000 in
set_option maxRecDepth 20000 in
theorem coX10_giveHands (l : Launch) (e : Nat) (he : 1 ≤ e) (v0 : Nat) (v1 : Nat) : zCo l (e + 1) 0 0 iX10_giveHands 0 [(0, .ref v0), (1, .ref v1)] [] (X10_giveHands v0 v1) := by
  unfold X10_giveHands
  refine zco_p tkX10_giveHands 0 1 (pc' := 1) (L' := [(0, .ref v0), (1, .ref v1)]) (S' := [.ref v0]) rfl ?_
  refine zco_gr fl_10_9 rfl (zdk (cc := cX10_giveHands) (q := (1, .getfield 9, 3)) tkX10_giveHands 1 rfl) (fun x1 => ?_)
  refine zco_p tkX10_giveHands 2 1 (pc' := 5) (L' := [(0, .ref v0), (1, .ref v1)]) (S' := [.int ((-1)), .ref x1]) rfl ?_
  refine zco_Sv (rc := 0) (rs := 0) (mc := 0) (ms := 0) (As := [.ref x1, .int ((-1))]) (S := []) vmJ7_fill_53178 (mtJ7_fill_53178 l e (by omega) x1 ((-1))) q_958 rfl rfl (Nat.le_of_ble_eq_true rfl) (zdk (cc := cX10_giveHands) (q := (5, .invokestatic 28, 3)) tkX10_giveHands 3 rfl) ?_
  refine zco_p tkX10_giveHands 4 3 (pc' := 11) (L' := [(0, .ref v0), (1, .ref v1)]) (S' := [.int 0, .ref v1, .ref v0]) rfl ?_
  refine zco_Vi (rc := 0) (rs := 0) (mc := 0) (ms := 0) (As := [.ref v1, .int 0]) (S := []) vmX10_gatherFree (mtX10_gatherFree l e (by omega) v0 v1 0) q_959 rfl rfl (Nat.le_of_ble_eq_true rfl) (zdk (cc := cX10_giveHands) (q := (11, .invokevirtual 34, 3)) tkX10_giveHands 7 rfl) (fun y2 => ?_)
  refine zco_p tkX10_giveHands 8 4 (pc' := 18) (L' := [(2, .int y2), (0, .ref v0), (1, .ref v1)]) (S' := [.int 1, .ref v1, .ref v0]) rfl ?_
  refine zco_Vi (rc := 0) (rs := 0) (mc := 0) (ms := 0) (As := [.ref v1, .int 1]) (S := []) vmX10_gatherFree (mtX10_gatherFree l e (by omega) v0 v1 1) q_959 rfl rfl (Nat.le_of_ble_eq_true rfl) (zdk (cc := cX10_giveHands) (q := (18, .invokevirtual 34, 3)) tkX10_giveHands 12 rfl) (fun y3 => ?_)
  refine zco_p tkX10_giveHands 13 3 (pc' := 24) (L' := [(3, .int y3), (2, .int y2), (0, .ref v0), (1, .ref v1)]) (S' := [.int y3, .int y2]) rfl ?_
  refine zco_imax (by omega) q_963 q_964 q_168 q_imax (Nat.le_of_ble_eq_true rfl) (zdk (cc := cX10_giveHands) (q := (24, .invokestatic 38, 3)) tkX10_giveHands 16 rfl) ?_
  refine zco_p tkX10_giveHands 17 3 (pc' := 32) (L' := [(5, .int 0), (4, .int (if y2 < y3 then y3 else y2)), (3, .int y3), (2, .int y2), (0, .ref v0), (1, .ref v1)]) (S' := []) rfl ?_
  exact zco_sub [4, 5, 3, 2, 1, 0] rfl (zco_fix (Lf := fun x : Int32 => [(0, .ref v0), (1, .ref v1), (2, .int y2), (3, .int y3), (4, .int (if y2 < y3 then y3 else y2)), (5, .int x)]) (Sf := fun _ => []) (fun r hr x => coX10_giveHands_B32 l e he v0 v1 y2 y3 (if y2 < y3 then y3 else y2) r hr x) zFU 0)
theorem mtX10_giveHands (l : Launch) (d : Nat) (hd : 2 ≤ d) (v0 : Nat) (v1 : Nat) : zMet l d 0 0 yX10_giveHands cX10_giveHands 9 (Option.none : Option FieldType) [.ref v0, .ref v1] (X10_giveHands v0 v1) := by
  obtain ⟨e, rfl⟩ : ∃ e, d = e + 1 := ⟨d - 1, by omega⟩
  exact zmet_of (own := RX10) (ini := false) (by decide +kernel) rfl (fun _ => by contradiction) (Nat.le_of_ble_eq_true rfl) (coX10_giveHands l e (by omega) v0 v1)
abbrev iX11_person : zI := (RX11, cX11_person, 4, (Option.some .int), false)
def tX11_person : List (Nat × Instr × Nat) := [(0, .aload_n 0, 1), (1, .getfield 51, 3), (4, .iload_n 1, 1), (5, .invokevirtual 184, 3), (8, .istore_n 3, 1), (9, .iload_n 3, 1), (10, .iconst (-1), 1), (11, .if_icmp .ne 5, 3), (14, .iconst (-1), 1), (15, .ireturn, 1), (16, .iload_n 2, 1), (17, .tableswitch 149 0 6 #[43, 53, 63, 73, 90, 100, 121], 43), (60, .aload_n 0, 1), (61, .getfield 51, 3), (64, .getfield 190, 3), (67, .iload_n 3, 1), (68, .iaload, 1), (69, .ireturn, 1), (70, .aload_n 0, 1), (71, .getfield 51, 3), (74, .getfield 193, 3), (77, .iload_n 3, 1), (78, .iaload, 1), (79, .ireturn, 1), (80, .aload_n 0, 1), (81, .getfield 51, 3), (84, .getfield 196, 3), (87, .iload_n 3, 1), (88, .iaload, 1), (89, .ireturn, 1), (90, .aload_n 0, 1), (91, .getfield 51, 3), (94, .aload_n 0, 1), (95, .getfield 61, 3), (98, .getfield 199, 3), (101, .iload_n 3, 1), (102, .iaload, 1), (103, .invokevirtual 202, 3), (106, .ireturn, 1), (107, .aload_n 0, 1), (108, .getfield 61, 3), (111, .getfield 205, 3), (114, .iload_n 3, 1), (115, .iaload, 1), (116, .ireturn, 1), (117, .aload_n 0, 1), (118, .getfield 61, 3), (121, .iload_n 3, 1), (122, .aload_n 0, 1), (123, .getfield 51, 3), (126, .getfield 160, 3), (129, .iload_n 3, 1), (130, .invokestatic 208, 3), (133, .iaload, 1), (134, .invokevirtual 211, 3), (137, .ireturn, 1), (138, .aload_n 0, 1), (139, .getfield 70, 3), (142, .aload_n 0, 1), (143, .getfield 61, 3), (146, .invokevirtual 214, 3), (149, .aload_n 0, 1), (150, .getfield 51, 3), (153, .aload_n 0, 1), (154, .getfield 70, 3), (157, .getfield 218, 3), (160, .iload_n 3, 1), (161, .iaload, 1), (162, .invokevirtual 202, 3), (165, .ireturn, 1), (166, .iconst (-1), 1), (167, .ireturn, 1)]
set_option maxRecDepth 100000 in
theorem tkX11_person : ∀ q ∈ tX11_person, decode cX11_person q.1 = .ok q.2 := by decide +kernel
theorem vmX11_person : zVM yX11_person cX11_person 4 (Option.some .int) 2 11 := ⟨kX11_person, q_941, q_942, q_149, ⟨_, rfl, rfl⟩, by decide +kernel, by decide⟩
set_option maxHeartbeats 2000000 in
set_option maxRecDepth 20000 in
theorem coX11_person (l : Launch) (e : Nat) (he : 2 ≤ e) (v0 : Nat) (v1 : Int32) (v2 : Int32) : zCo l (e + 1) 0 0 iX11_person 0 [(0, .ref v0), (1, .int v1), (2, .int v2)] [] (X11_person v0 v1 v2) := by
  unfold X11_person
  refine zco_p tkX11_person 0 1 (pc' := 1) (L' := [(0, .ref v0), (1, .int v1), (2, .int v2)]) (S' := [.ref v0]) rfl ?_
  refine zco_gr fl_11_51 rfl (zdk (cc := cX11_person) (q := (1, .getfield 51, 3)) tkX11_person 1 rfl) (fun x1 => ?_)
  refine zco_p tkX11_person 2 1 (pc' := 5) (L' := [(0, .ref v0), (1, .int v1), (2, .int v2)]) (S' := [.int v1, .ref x1]) rfl ?_
  refine zco_Vi (rc := 0) (rs := 0) (mc := 0) (ms := 0) (As := [.int v1]) (S := []) vmX1_slot (mtX1_slot l e (by omega) x1 v1) q_932 rfl rfl (Nat.le_of_ble_eq_true rfl) (zdk (cc := cX11_person) (q := (5, .invokevirtual 184, 3)) tkX11_person 3 rfl) (fun y2 => ?_)
  refine zco_p tkX11_person 4 3 (pc' := 11) (L' := [(3, .int y2), (0, .ref v0), (1, .int v1), (2, .int v2)]) (S' := [.int ((-1)), .int y2]) rfl ?_
  refine zco_icmp_ne (tgt := 16) (zdk (cc := cX11_person) (q := (11, .if_icmp .ne 5, 3)) tkX11_person 7 rfl) rfl ?_ ?_
  · refine zco_p tkX11_person 10 1 (pc' := 17) (L' := [(3, .int y2), (0, .ref v0), (1, .int v1), (2, .int v2)]) (S' := [.int v2]) rfl ?_
    refine @zco_tab l (e + 1) 0 0 iX11_person 17 [(3, .int y2), (0, .ref v0), (1, .int v1), (2, .int v2)] [] _ v2 149 0 6 #[43, 53, 63, 73, 90, 100, 121] 43 (zdk (cc := cX11_person) (q := (17, .tableswitch 149 0 6 #[43, 53, 63, 73, 90, 100, 121], 43)) tkX11_person 11 rfl) 166 rfl [60, 70, 80, 90, 107, 117, 138] (X11_person_S17 v0 y2) (by decide) (by decide) ?_ (fun j t ht => ?_)
    · refine zco_p tkX11_person 70 1 (pc' := 167) (L' := [(3, .int y2), (0, .ref v0), (1, .int v1), (2, .int v2)]) (S' := [.int ((-1))]) rfl ?_
      exact zco_iret rfl rfl rfl (zdk (cc := cX11_person) (q := (167, .ireturn, 1)) tkX11_person 71 rfl)
    · match j, ht with
      | 0, ht =>
        cases ht
        show zCo l (e + 1) 0 0 iX11_person 60 [(3, .int y2), (0, .ref v0), (1, .int v1), (2, .int v2)] [] (z_gr 11 5 v0 fun x3 => z_gr 1 2 x3 fun x4 => z_la 20 x4 y2 fun x5 => z_ret (some (.int x5)))
        refine zco_p tkX11_person 12 1 (pc' := 61) (L' := [(3, .int y2), (0, .ref v0), (1, .int v1), (2, .int v2)]) (S' := [.ref v0]) rfl ?_
        refine zco_gr fl_11_51 rfl (zdk (cc := cX11_person) (q := (61, .getfield 51, 3)) tkX11_person 13 rfl) (fun x3 => ?_)
        refine zco_gr fl_11_190 rfl (zdk (cc := cX11_person) (q := (64, .getfield 190, 3)) tkX11_person 14 rfl) (fun x4 => ?_)
        refine zco_p tkX11_person 15 1 (pc' := 68) (L' := [(3, .int y2), (0, .ref v0), (1, .int v1), (2, .int v2)]) (S' := [.int y2, .ref x4]) rfl ?_
        refine zco_iaload (zdk (cc := cX11_person) (q := (68, .iaload, 1)) tkX11_person 16 rfl) (fun x5 => ?_)
        exact zco_iret rfl rfl rfl (zdk (cc := cX11_person) (q := (69, .ireturn, 1)) tkX11_person 17 rfl)
      | 1, ht =>
        cases ht
        show zCo l (e + 1) 0 0 iX11_person 70 [(3, .int y2), (0, .ref v0), (1, .int v1), (2, .int v2)] [] (z_gr 11 5 v0 fun x6 => z_gr 1 3 x6 fun x7 => z_la 20 x7 y2 fun x8 => z_ret (some (.int x8)))
        refine zco_p tkX11_person 18 1 (pc' := 71) (L' := [(3, .int y2), (0, .ref v0), (1, .int v1), (2, .int v2)]) (S' := [.ref v0]) rfl ?_
        refine zco_gr fl_11_51 rfl (zdk (cc := cX11_person) (q := (71, .getfield 51, 3)) tkX11_person 19 rfl) (fun x6 => ?_)
        refine zco_gr fl_11_193 rfl (zdk (cc := cX11_person) (q := (74, .getfield 193, 3)) tkX11_person 20 rfl) (fun x7 => ?_)
        refine zco_p tkX11_person 21 1 (pc' := 78) (L' := [(3, .int y2), (0, .ref v0), (1, .int v1), (2, .int v2)]) (S' := [.int y2, .ref x7]) rfl ?_
        refine zco_iaload (zdk (cc := cX11_person) (q := (78, .iaload, 1)) tkX11_person 22 rfl) (fun x8 => ?_)
        exact zco_iret rfl rfl rfl (zdk (cc := cX11_person) (q := (79, .ireturn, 1)) tkX11_person 23 rfl)
      | 2, ht =>
        cases ht
        show zCo l (e + 1) 0 0 iX11_person 80 [(3, .int y2), (0, .ref v0), (1, .int v1), (2, .int v2)] [] (z_gr 11 5 v0 fun x9 => z_gr 1 4 x9 fun x10 => z_la 20 x10 y2 fun x11 => z_ret (some (.int x11)))
        refine zco_p tkX11_person 24 1 (pc' := 81) (L' := [(3, .int y2), (0, .ref v0), (1, .int v1), (2, .int v2)]) (S' := [.ref v0]) rfl ?_
        refine zco_gr fl_11_51 rfl (zdk (cc := cX11_person) (q := (81, .getfield 51, 3)) tkX11_person 25 rfl) (fun x9 => ?_)
        refine zco_gr fl_11_196 rfl (zdk (cc := cX11_person) (q := (84, .getfield 196, 3)) tkX11_person 26 rfl) (fun x10 => ?_)
        refine zco_p tkX11_person 27 1 (pc' := 88) (L' := [(3, .int y2), (0, .ref v0), (1, .int v1), (2, .int v2)]) (S' := [.int y2, .ref x10]) rfl ?_
        refine zco_iaload (zdk (cc := cX11_person) (q := (88, .iaload, 1)) tkX11_person 28 rfl) (fun x11 => ?_)
        exact zco_iret rfl rfl rfl (zdk (cc := cX11_person) (q := (89, .ireturn, 1)) tkX11_person 29 rfl)
      | 3, ht =>
        cases ht
        show zCo l (e + 1) 0 0 iX11_person 90 [(3, .int y2), (0, .ref v0), (1, .int v1), (2, .int v2)] [] (z_gr 11 5 v0 fun x12 => z_gr 11 7 v0 fun x13 => z_gr 8 3 x13 fun x14 => z_la 20 x14 y2 fun x15 => z_rc 1 x12 (z_ci (X1_number x12 x15) fun y16 => z_ret (some (.int y16))))
        refine zco_p tkX11_person 30 1 (pc' := 91) (L' := [(3, .int y2), (0, .ref v0), (1, .int v1), (2, .int v2)]) (S' := [.ref v0]) rfl ?_
        refine zco_gr fl_11_51 rfl (zdk (cc := cX11_person) (q := (91, .getfield 51, 3)) tkX11_person 31 rfl) (fun x12 => ?_)
        refine zco_p tkX11_person 32 1 (pc' := 95) (L' := [(3, .int y2), (0, .ref v0), (1, .int v1), (2, .int v2)]) (S' := [.ref v0, .ref x12]) rfl ?_
        refine zco_gr fl_11_61 rfl (zdk (cc := cX11_person) (q := (95, .getfield 61, 3)) tkX11_person 33 rfl) (fun x13 => ?_)
        refine zco_gr fl_11_199 rfl (zdk (cc := cX11_person) (q := (98, .getfield 199, 3)) tkX11_person 34 rfl) (fun x14 => ?_)
        refine zco_p tkX11_person 35 1 (pc' := 102) (L' := [(3, .int y2), (0, .ref v0), (1, .int v1), (2, .int v2)]) (S' := [.int y2, .ref x14, .ref x12]) rfl ?_
        refine zco_iaload (zdk (cc := cX11_person) (q := (102, .iaload, 1)) tkX11_person 36 rfl) (fun x15 => ?_)
        refine zco_Vi (rc := 0) (rs := 0) (mc := 0) (ms := 0) (As := [.int x15]) (S := []) vmX1_number (mtX1_number l e (by omega) x12 x15) q_944 rfl rfl (Nat.le_of_ble_eq_true rfl) (zdk (cc := cX11_person) (q := (103, .invokevirtual 202, 3)) tkX11_person 37 rfl) (fun y16 => ?_)
        exact zco_iret rfl rfl rfl (zdk (cc := cX11_person) (q := (106, .ireturn, 1)) tkX11_person 38 rfl)
      | 4, ht =>
        cases ht
        show zCo l (e + 1) 0 0 iX11_person 107 [(3, .int y2), (0, .ref v0), (1, .int v1), (2, .int v2)] [] (z_gr 11 7 v0 fun x17 => z_gr 8 4 x17 fun x18 => z_la 20 x18 y2 fun x19 => z_ret (some (.int x19)))
        refine zco_p tkX11_person 39 1 (pc' := 108) (L' := [(3, .int y2), (0, .ref v0), (1, .int v1), (2, .int v2)]) (S' := [.ref v0]) rfl ?_
        refine zco_gr fl_11_61 rfl (zdk (cc := cX11_person) (q := (108, .getfield 61, 3)) tkX11_person 40 rfl) (fun x17 => ?_)
        refine zco_gr fl_11_205 rfl (zdk (cc := cX11_person) (q := (111, .getfield 205, 3)) tkX11_person 41 rfl) (fun x18 => ?_)
        refine zco_p tkX11_person 42 1 (pc' := 115) (L' := [(3, .int y2), (0, .ref v0), (1, .int v1), (2, .int v2)]) (S' := [.int y2, .ref x18]) rfl ?_
        refine zco_iaload (zdk (cc := cX11_person) (q := (115, .iaload, 1)) tkX11_person 43 rfl) (fun x19 => ?_)
        exact zco_iret rfl rfl rfl (zdk (cc := cX11_person) (q := (116, .ireturn, 1)) tkX11_person 44 rfl)
      | 5, ht =>
        cases ht
        show zCo l (e + 1) 0 0 iX11_person 117 [(3, .int y2), (0, .ref v0), (1, .int v1), (2, .int v2)] [] (z_gr 11 7 v0 fun x20 => z_gr 11 5 v0 fun x21 => z_gr 1 0 x21 fun x22 => z_ci (X11_sideOf y2) fun y23 => z_la 20 x22 y23 fun x24 => z_rc 8 x20 (z_ci (X8_place x20 y2 x24) fun y25 => z_ret (some (.int y25))))
        refine zco_p tkX11_person 45 1 (pc' := 118) (L' := [(3, .int y2), (0, .ref v0), (1, .int v1), (2, .int v2)]) (S' := [.ref v0]) rfl ?_
        refine zco_gr fl_11_61 rfl (zdk (cc := cX11_person) (q := (118, .getfield 61, 3)) tkX11_person 46 rfl) (fun x20 => ?_)
        refine zco_p tkX11_person 47 2 (pc' := 123) (L' := [(3, .int y2), (0, .ref v0), (1, .int v1), (2, .int v2)]) (S' := [.ref v0, .int y2, .ref x20]) rfl ?_
        refine zco_gr fl_11_51 rfl (zdk (cc := cX11_person) (q := (123, .getfield 51, 3)) tkX11_person 49 rfl) (fun x21 => ?_)
        refine zco_gr fl_11_160 rfl (zdk (cc := cX11_person) (q := (126, .getfield 160, 3)) tkX11_person 50 rfl) (fun x22 => ?_)
        refine zco_p tkX11_person 51 1 (pc' := 130) (L' := [(3, .int y2), (0, .ref v0), (1, .int v1), (2, .int v2)]) (S' := [.int y2, .ref x22, .int y2, .ref x20]) rfl ?_
        refine zco_Si (rc := 0) (rs := 0) (mc := 0) (ms := 0) (As := [.int y2]) (S := [.ref x22, .int y2, .ref x20]) vmX11_sideOf (mtX11_sideOf l e (by omega) y2) q_948 rfl rfl (Nat.le_of_ble_eq_true rfl) (zdk (cc := cX11_person) (q := (130, .invokestatic 208, 3)) tkX11_person 52 rfl) (fun y23 => ?_)
        refine zco_iaload (zdk (cc := cX11_person) (q := (133, .iaload, 1)) tkX11_person 53 rfl) (fun x24 => ?_)
        refine zco_Vi (rc := 0) (rs := 0) (mc := 0) (ms := 0) (As := [.int y2, .int x24]) (S := []) vmX8_place (mtX8_place l e (by omega) x20 y2 x24) q_949 rfl rfl (Nat.le_of_ble_eq_true rfl) (zdk (cc := cX11_person) (q := (134, .invokevirtual 211, 3)) tkX11_person 54 rfl) (fun y25 => ?_)
        exact zco_iret rfl rfl rfl (zdk (cc := cX11_person) (q := (137, .ireturn, 1)) tkX11_person 55 rfl)
      | 6, ht =>
        cases ht
        show zCo l (e + 1) 0 0 iX11_person 138 [(3, .int y2), (0, .ref v0), (1, .int v1), (2, .int v2)] [] (z_gr 11 8 v0 fun x26 => z_gr 11 7 v0 fun x27 => z_rc 10 x26 (z_cv (X10_giveHands x26 x27) (z_gr 11 5 v0 fun x28 => z_gr 11 8 v0 fun x29 => z_gr 10 1 x29 fun x30 => z_la 20 x30 y2 fun x31 => z_rc 1 x28 (z_ci (X1_number x28 x31) fun y32 => z_ret (some (.int y32))))))
        refine zco_p tkX11_person 56 1 (pc' := 139) (L' := [(3, .int y2), (0, .ref v0), (1, .int v1), (2, .int v2)]) (S' := [.ref v0]) rfl ?_
        refine zco_gr fl_11_70 rfl (zdk (cc := cX11_person) (q := (139, .getfield 70, 3)) tkX11_person 57 rfl) (fun x26 => ?_)
        refine zco_p tkX11_person 58 1 (pc' := 143) (L' := [(3, .int y2), (0, .ref v0), (1, .int v1), (2, .int v2)]) (S' := [.ref v0, .ref x26]) rfl ?_
        refine zco_gr fl_11_61 rfl (zdk (cc := cX11_person) (q := (143, .getfield 61, 3)) tkX11_person 59 rfl) (fun x27 => ?_)
        refine zco_Vv (rc := 0) (rs := 0) (mc := 0) (ms := 0) (As := [.ref x27]) (S := []) vmX10_giveHands (mtX10_giveHands l e (by omega) x26 x27) q_954 rfl rfl (Nat.le_of_ble_eq_true rfl) (zdk (cc := cX11_person) (q := (146, .invokevirtual 214, 3)) tkX11_person 60 rfl) ?_
        refine zco_p tkX11_person 61 1 (pc' := 150) (L' := [(3, .int y2), (0, .ref v0), (1, .int v1), (2, .int v2)]) (S' := [.ref v0]) rfl ?_
        refine zco_gr fl_11_51 rfl (zdk (cc := cX11_person) (q := (150, .getfield 51, 3)) tkX11_person 62 rfl) (fun x28 => ?_)
        refine zco_p tkX11_person 63 1 (pc' := 154) (L' := [(3, .int y2), (0, .ref v0), (1, .int v1), (2, .int v2)]) (S' := [.ref v0, .ref x28]) rfl ?_
        refine zco_gr fl_11_70 rfl (zdk (cc := cX11_person) (q := (154, .getfield 70, 3)) tkX11_person 64 rfl) (fun x29 => ?_)
        refine zco_gr fl_11_218 rfl (zdk (cc := cX11_person) (q := (157, .getfield 218, 3)) tkX11_person 65 rfl) (fun x30 => ?_)
        refine zco_p tkX11_person 66 1 (pc' := 161) (L' := [(3, .int y2), (0, .ref v0), (1, .int v1), (2, .int v2)]) (S' := [.int y2, .ref x30, .ref x28]) rfl ?_
        refine zco_iaload (zdk (cc := cX11_person) (q := (161, .iaload, 1)) tkX11_person 67 rfl) (fun x31 => ?_)
        refine zco_Vi (rc := 0) (rs := 0) (mc := 0) (ms := 0) (As := [.int x31]) (S := []) vmX1_number (mtX1_number l e (by omega) x28 x31) q_944 rfl rfl (Nat.le_of_ble_eq_true rfl) (zdk (cc := cX11_person) (q := (162, .invokevirtual 202, 3)) tkX11_person 68 rfl) (fun y32 => ?_)
        exact zco_iret rfl rfl rfl (zdk (cc := cX11_person) (q := (165, .ireturn, 1)) tkX11_person 69 rfl)
      | j + 7, ht => exact absurd ht (by simp)
  · refine zco_p tkX11_person 8 1 (pc' := 15) (L' := [(3, .int y2), (0, .ref v0), (1, .int v1), (2, .int v2)]) (S' := [.int ((-1))]) rfl ?_
    exact zco_iret rfl rfl rfl (zdk (cc := cX11_person) (q := (15, .ireturn, 1)) tkX11_person 9 rfl)
theorem mtX11_person (l : Launch) (d : Nat) (hd : 3 ≤ d) (v0 : Nat) (v1 : Int32) (v2 : Int32) : zMet l d 0 0 yX11_person cX11_person 4 (Option.some .int) [.ref v0, .int v1, .int v2] (X11_person v0 v1 v2) := by
  obtain ⟨e, rfl⟩ : ∃ e, d = e + 1 := ⟨d - 1, by omega⟩
  exact zmet_of (own := RX11) (ini := false) (by decide +kernel) rfl (fun _ => by contradiction) (Nat.le_of_ble_eq_true rfl) (coX11_person l e (by omega) v0 v1 v2)
