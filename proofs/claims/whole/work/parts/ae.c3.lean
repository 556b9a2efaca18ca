def zGr (l : Launch) (d : Nat) (gr : Nat → Nat → Int32 → Int32 → Int32 → zM) : Prop := (∀ (t : Nat) (a : Int32), zMet l d 0 0 yX4_test cX4_test 3 (Option.none : Option FieldType) [.ref t, .int a] (gr 0 t a 0 0)) ∧ (∀ (t : Nat) (a : Int32), zMet l d 0 0 yX4_both cX4_both 3 (Option.none : Option FieldType) [.ref t, .int a] (gr 1 t a 0 0)) ∧ (∀ (t : Nat) (a : Int32), zMet l d 0 0 yX4_oneFact cX4_oneFact 4 (Option.none : Option FieldType) [.ref t, .int a] (gr 2 t a 0 0)) ∧ (∀ (t : Nat) (a : Int32), zMet l d 0 0 yX4_sum cX4_sum 4 (Option.none : Option FieldType) [.ref t, .int a] (gr 3 t a 0 0)) ∧ (∀ (t : Nat) (a : Int32), zMet l d 0 0 yX4_product cX4_product 4 (Option.none : Option FieldType) [.ref t, .int a] (gr 4 t a 0 0)) ∧ (∀ (t : Nat) (a : Int32), zMet l d 0 0 yX4_oneOf cX4_oneOf 4 (Option.none : Option FieldType) [.ref t, .int a] (gr 5 t a 0 0)) ∧ (∀ (t : Nat) (a b : Int32), zMet l d 0 0 yX4_ofTwoSums cX4_ofTwoSums 4 (Option.none : Option FieldType) [.ref t, .int a, .int b] (gr 6 t a b 0)) ∧ (∀ (t : Nat) (a b c : Int32), zMet l d 0 0 yX4_ofAnother cX4_ofAnother 4 (Option.none : Option FieldType) [.ref t, .int a, .int b, .int c] (gr 7 t a b c))
abbrev iX4_test : zI := (RX4, cX4_test, 3, (Option.none : Option FieldType), false)
def tX4_test : List (Nat × Instr × Nat) := [(0, .aload_n 0, 1), (1, .iload_n 1, 1), (2, .invokevirtual 39, 3), (5, .iconst 0, 1), (6, .istore_n 2, 1), (7, .iload_n 2, 1), (8, .sipush 1600, 3), (11, .if_icmp .ge 36, 3), (14, .aload_n 0, 1), (15, .getfield 25, 3), (18, .ldc 43, 2), (20, .invokevirtual 45, 3), (23, .ifCond .eq 24, 3), (26, .aload_n 0, 1), (27, .iload_n 1, 1), (28, .invokevirtual 39, 3), (31, .aload_n 0, 1), (32, .getfield 29, 3), (35, .sipush 20011, 3), (38, .invokevirtual 51, 3), (41, .iinc 2 1, 3), (44, .goto (-37), 3), (47, .return_, 1)]
set_option maxRecDepth 100000 in
theorem tkX4_test : ∀ q ∈ tX4_test, decode cX4_test q.1 = .ok q.2 := by decide +kernel
theorem vmX4_test : zVM yX4_test cX4_test 3 (Option.none : Option FieldType) 1 4 := ⟨kX4_test, q_831, q_11, q_153, ⟨_, rfl, rfl⟩, by decide +kernel, by decide⟩
abbrev iX4_both : zI := (RX4, cX4_both, 3, (Option.none : Option FieldType), false)
def tX4_both : List (Nat × Instr × Nat) := [(0, .aload_n 0, 1), (1, .iload_n 1, 1), (2, .invokevirtual 56, 3), (5, .iconst 0, 1), (6, .istore_n 2, 1), (7, .iload_n 2, 1), (8, .sipush 1600, 3), (11, .if_icmp .ge 36, 3), (14, .aload_n 0, 1), (15, .getfield 25, 3), (18, .ldc 59, 2), (20, .invokevirtual 45, 3), (23, .ifCond .eq 24, 3), (26, .aload_n 0, 1), (27, .iload_n 1, 1), (28, .invokevirtual 56, 3), (31, .aload_n 0, 1), (32, .getfield 29, 3), (35, .sipush 20010, 3), (38, .invokevirtual 51, 3), (41, .iinc 2 1, 3), (44, .goto (-37), 3), (47, .return_, 1)]
set_option maxRecDepth 100000 in
theorem tkX4_both : ∀ q ∈ tX4_both, decode cX4_both q.1 = .ok q.2 := by decide +kernel
theorem vmX4_both : zVM yX4_both cX4_both 3 (Option.none : Option FieldType) 1 4 := ⟨kX4_both, q_835, q_12, q_153, ⟨_, rfl, rfl⟩, by decide +kernel, by decide⟩
abbrev iX4_oneFact : zI := (RX4, cX4_oneFact, 4, (Option.none : Option FieldType), false)
def tX4_oneFact : List (Nat × Instr × Nat) := [(0, .aload_n 0, 1), (1, .getfield 25, 3), (4, .invokevirtual 61, 3), (7, .istore_n 2, 1), (8, .aload_n 0, 1), (9, .getfield 25, 3), (12, .ldc 65, 2), (14, .invokevirtual 45, 3), (17, .ifCond .eq 32, 3), (20, .aload_n 0, 1), (21, .iload_n 1, 1), (22, .iload_n 2, 1), (23, .invokevirtual 67, 3), (26, .ifCond .eq 119, 3), (29, .aload_n 0, 1), (30, .iload_n 1, 1), (31, .iconst 1, 1), (32, .iadd, 1), (33, .invokevirtual 56, 3), (36, .aload_n 0, 1), (37, .getfield 29, 3), (40, .sipush 30001, 3), (43, .invokevirtual 51, 3), (46, .goto 99, 3), (49, .aload_n 0, 1), (50, .getfield 25, 3), (53, .bipush 91, 2), (55, .invokevirtual 71, 3), (58, .ifCond .eq 31, 3), (61, .aload_n 0, 1), (62, .iload_n 1, 1), (63, .iload_n 2, 1), (64, .invokevirtual 67, 3), (67, .ifCond .eq 78, 3), (70, .aload_n 0, 1), (71, .iload_n 1, 1), (72, .iconst 1, 1), (73, .iadd, 1), (74, .invokevirtual 75, 3), (77, .aload_n 0, 1), (78, .getfield 25, 3), (81, .bipush 93, 2), (83, .invokevirtual 78, 3), (86, .goto 59, 3), (89, .aload_n 0, 1), (90, .getfield 25, 3), (93, .ldc 81, 2), (95, .invokevirtual 45, 3), (98, .ifCond .eq 14, 3), (101, .aload_n 0, 1), (102, .getfield 29, 3), (105, .iconst 1, 1), (106, .invokevirtual 51, 3), (109, .goto 36, 3), (112, .aload_n 0, 1), (113, .iload_n 1, 1), (114, .invokevirtual 83, 3), (117, .aload_n 0, 1), (118, .invokevirtual 86, 3), (121, .istore_n 3, 1), (122, .aload_n 0, 1), (123, .getfield 25, 3), (126, .invokevirtual 89, 3), (129, .ifCond .eq 16, 3), (132, .aload_n 0, 1), (133, .iload_n 1, 1), (134, .invokevirtual 83, 3), (137, .aload_n 0, 1), (138, .getfield 29, 3), (141, .iload_n 3, 1), (142, .invokevirtual 51, 3), (145, .return_, 1)]
set_option maxRecDepth 100000 in
theorem tkX4_oneFact : ∀ q ∈ tX4_oneFact, decode cX4_oneFact q.1 = .ok q.2 := by decide +kernel
theorem vmX4_oneFact : zVM yX4_oneFact cX4_oneFact 4 (Option.none : Option FieldType) 1 4 := ⟨kX4_oneFact, q_839, q_13, q_153, ⟨_, rfl, rfl⟩, by decide +kernel, by decide⟩
abbrev iX4_sum : zI := (RX4, cX4_sum, 4, (Option.none : Option FieldType), false)
def tX4_sum : List (Nat × Instr × Nat) := [(0, .aload_n 0, 1), (1, .iload_n 1, 1), (2, .invokevirtual 97, 3), (5, .iconst 0, 1), (6, .istore_n 2, 1), (7, .iload_n 2, 1), (8, .sipush 1600, 3), (11, .if_icmp .ge 78, 3), (14, .aload_n 0, 1), (15, .getfield 25, 3), (18, .invokevirtual 89, 3), (21, .ifCond .eq 68, 3), (24, .aload_n 0, 1), (25, .getfield 25, 3), (28, .bipush 43, 2), (30, .invokevirtual 71, 3), (33, .ifCond .eq 9, 3), (36, .sipush 20001, 3), (39, .goto 22, 3), (42, .aload_n 0, 1), (43, .getfield 25, 3), (46, .bipush 45, 2), (48, .invokevirtual 71, 3), (51, .ifCond .eq 9, 3), (54, .sipush 20002, 3), (57, .goto 4, 3), (60, .iconst (-1), 1), (61, .istore_n 3, 1), (62, .iload_n 3, 1), (63, .iconst (-1), 1), (64, .if_icmp .ne 6, 3), (67, .goto 22, 3), (70, .aload_n 0, 1), (71, .iload_n 1, 1), (72, .invokevirtual 97, 3), (75, .aload_n 0, 1), (76, .getfield 29, 3), (79, .iload_n 3, 1), (80, .invokevirtual 51, 3), (83, .iinc 2 1, 3), (86, .goto (-79), 3), (89, .return_, 1)]
set_option maxRecDepth 100000 in
theorem tkX4_sum : ∀ q ∈ tX4_sum, decode cX4_sum q.1 = .ok q.2 := by decide +kernel
theorem vmX4_sum : zVM yX4_sum cX4_sum 4 (Option.none : Option FieldType) 1 4 := ⟨kX4_sum, q_864, q_15, q_153, ⟨_, rfl, rfl⟩, by decide +kernel, by decide⟩
abbrev iX4_product : zI := (RX4, cX4_product, 4, (Option.none : Option FieldType), false)
def tX4_product : List (Nat × Instr × Nat) := [(0, .aload_n 0, 1), (1, .iload_n 1, 1), (2, .invokevirtual 100, 3), (5, .iconst 0, 1), (6, .istore_n 2, 1), (7, .iload_n 2, 1), (8, .sipush 1600, 3), (11, .if_icmp .ge 78, 3), (14, .aload_n 0, 1), (15, .getfield 25, 3), (18, .invokevirtual 89, 3), (21, .ifCond .eq 68, 3), (24, .aload_n 0, 1), (25, .getfield 25, 3), (28, .bipush 42, 2), (30, .invokevirtual 71, 3), (33, .ifCond .eq 9, 3), (36, .sipush 20003, 3), (39, .goto 22, 3), (42, .aload_n 0, 1), (43, .getfield 25, 3), (46, .bipush 47, 2), (48, .invokevirtual 71, 3), (51, .ifCond .eq 9, 3), (54, .sipush 20004, 3), (57, .goto 4, 3), (60, .iconst (-1), 1), (61, .istore_n 3, 1), (62, .iload_n 3, 1), (63, .iconst (-1), 1), (64, .if_icmp .ne 6, 3), (67, .goto 22, 3), (70, .aload_n 0, 1), (71, .iload_n 1, 1), (72, .invokevirtual 100, 3), (75, .aload_n 0, 1), (76, .getfield 29, 3), (79, .iload_n 3, 1), (80, .invokevirtual 51, 3), (83, .iinc 2 1, 3), (86, .goto (-79), 3), (89, .return_, 1)]
set_option maxRecDepth 100000 in
theorem tkX4_product : ∀ q ∈ tX4_product, decode cX4_product q.1 = .ok q.2 := by decide +kernel
theorem vmX4_product : zVM yX4_product cX4_product 4 (Option.none : Option FieldType) 1 4 := ⟨kX4_product, q_868, q_16, q_153, ⟨_, rfl, rfl⟩, by decide +kernel, by decide⟩
abbrev iX4_oneOf : zI := (RX4, cX4_oneOf, 4, (Option.none : Option FieldType), false)
def tX4_oneOf : List (Nat × Instr × Nat) := [(0, .aload_n 0, 1), (1, .getfield 25, 3), (4, .invokevirtual 61, 3), (7, .istore_n 2, 1), (8, .aload_n 0, 1), (9, .getfield 25, 3), (12, .iload_n 2, 1), (13, .invokevirtual 103, 3), (16, .invokestatic 107, 3), (19, .ifCond .eq 24, 3), (22, .aload_n 0, 1), (23, .getfield 29, 3), (26, .aload_n 0, 1), (27, .getfield 25, 3), (30, .iconst 0, 1), (31, .sipush 9999, 3), (34, .invokevirtual 110, 3), (37, .invokevirtual 51, 3), (40, .goto 210, 3), (43, .aload_n 0, 1), (44, .getfield 25, 3), (47, .bipush 40, 2), (49, .invokevirtual 71, 3), (52, .ifCond .eq 31, 3), (55, .aload_n 0, 1), (56, .iload_n 1, 1), (57, .iload_n 2, 1), (58, .invokevirtual 67, 3), (61, .ifCond .eq 189, 3), (64, .aload_n 0, 1), (65, .iload_n 1, 1), (66, .iconst 1, 1), (67, .iadd, 1), (68, .invokevirtual 83, 3), (71, .aload_n 0, 1), (72, .getfield 25, 3), (75, .bipush 41, 2), (77, .invokevirtual 78, 3), (80, .goto 170, 3), (83, .aload_n 0, 1), (84, .getfield 25, 3), (87, .ldc 114, 2), (89, .invokevirtual 45, 3), (92, .ifCond .eq 14, 3), (95, .aload_n 0, 1), (96, .iload_n 1, 1), (97, .sipush 20005, 3), (100, .invokevirtual 116, 3), (103, .goto 147, 3), (106, .aload_n 0, 1), (107, .getfield 25, 3), (110, .ldc 119, 2), (112, .invokevirtual 45, 3), (115, .ifCond .eq 14, 3), (118, .aload_n 0, 1), (119, .iload_n 1, 1), (120, .sipush 20006, 3), (123, .invokevirtual 116, 3), (126, .goto 124, 3), (129, .aload_n 0, 1), (130, .getfield 21, 3), (133, .ifCond .eq 27, 3), (136, .aload_n 0, 1), (137, .getfield 25, 3), (140, .ldc 121, 2), (142, .invokevirtual 45, 3), (145, .ifCond .eq 15, 3), (148, .aload_n 0, 1), (149, .iload_n 1, 1), (150, .iload_n 2, 1), (151, .sipush 30002, 3), (154, .invokevirtual 123, 3), (157, .goto 93, 3), (160, .aload_n 0, 1), (161, .getfield 21, 3), (164, .ifCond .eq 27, 3), (167, .aload_n 0, 1), (168, .getfield 25, 3), (171, .ldc 127, 2), (173, .invokevirtual 45, 3), (176, .ifCond .eq 15, 3), (179, .aload_n 0, 1), (180, .iload_n 1, 1), (181, .iload_n 2, 1), (182, .sipush 30003, 3), (185, .invokevirtual 123, 3), (188, .goto 62, 3), (191, .aload_n 0, 1), (192, .getfield 25, 3), (195, .aload_n 0, 1), (196, .getfield 11, 3), (199, .invokevirtual 129, 3), (202, .istore_n 3, 1), (203, .iload_n 3, 1), (204, .iconst (-1), 1), (205, .if_icmp .eq 14, 3), (208, .aload_n 0, 1), (209, .getfield 17, 3), (212, .iload_n 3, 1), (213, .ishr, 1), (214, .iconst 1, 1), (215, .iand, 1), (216, .ifCond .ne 15, 3), (219, .aload_n 0, 1), (220, .getfield 25, 3), (223, .iconst 1, 1), (224, .iload_n 2, 1), (225, .invokevirtual 93, 3), (228, .goto 22, 3), (231, .aload_n 0, 1), (232, .getfield 25, 3), (235, .invokevirtual 133, 3), (238, .aload_n 0, 1), (239, .getfield 29, 3), (242, .sipush 10000, 3), (245, .iload_n 3, 1), (246, .iadd, 1), (247, .invokevirtual 51, 3), (250, .return_, 1)]
set_option maxRecDepth 100000 in
theorem tkX4_oneOf : ∀ q ∈ tX4_oneOf, decode cX4_oneOf q.1 = .ok q.2 := by decide +kernel
theorem vmX4_oneOf : zVM yX4_oneOf cX4_oneOf 4 (Option.none : Option FieldType) 1 4 := ⟨kX4_oneOf, q_872, q_17, q_153, ⟨_, rfl, rfl⟩, by decide +kernel, by decide⟩
abbrev iX4_ofTwoSums : zI := (RX4, cX4_ofTwoSums, 4, (Option.none : Option FieldType), false)
def tX4_ofTwoSums : List (Nat × Instr × Nat) := [(0, .aload_n 0, 1), (1, .getfield 25, 3), (4, .invokevirtual 61, 3), (7, .istore_n 3, 1), (8, .aload_n 0, 1), (9, .getfield 25, 3), (12, .bipush 40, 2), (14, .invokevirtual 78, 3), (17, .aload_n 0, 1), (18, .iload_n 1, 1), (19, .iload_n 3, 1), (20, .invokevirtual 67, 3), (23, .ifCond .eq 19, 3), (26, .aload_n 0, 1), (27, .iload_n 1, 1), (28, .iconst 1, 1), (29, .iadd, 1), (30, .invokevirtual 83, 3), (33, .aload_n 0, 1), (34, .getfield 25, 3), (37, .bipush 44, 2), (39, .invokevirtual 78, 3), (42, .aload_n 0, 1), (43, .getfield 25, 3), (46, .invokevirtual 89, 3), (49, .ifCond .eq 27, 3), (52, .aload_n 0, 1), (53, .iload_n 1, 1), (54, .iconst 1, 1), (55, .iadd, 1), (56, .invokevirtual 83, 3), (59, .aload_n 0, 1), (60, .getfield 25, 3), (63, .bipush 41, 2), (65, .invokevirtual 78, 3), (68, .aload_n 0, 1), (69, .getfield 29, 3), (72, .iload_n 2, 1), (73, .invokevirtual 51, 3), (76, .return_, 1)]
set_option maxRecDepth 100000 in
theorem tkX4_ofTwoSums : ∀ q ∈ tX4_ofTwoSums, decode cX4_ofTwoSums q.1 = .ok q.2 := by decide +kernel
theorem vmX4_ofTwoSums : zVM yX4_ofTwoSums cX4_ofTwoSums 4 (Option.none : Option FieldType) 2 4 := ⟨kX4_ofTwoSums, q_880, q_18, q_153, ⟨_, rfl, rfl⟩, by decide +kernel, by decide⟩
abbrev iX4_ofAnother : zI := (RX4, cX4_ofAnother, 4, (Option.none : Option FieldType), false)
def tX4_ofAnother : List (Nat × Instr × Nat) := [(0, .aload_n 0, 1), (1, .iload_n 1, 1), (2, .iload_n 2, 1), (3, .invokevirtual 67, 3), (6, .ifCond .eq 18, 3), (9, .aload_n 0, 1), (10, .iload_n 1, 1), (11, .iconst 1, 1), (12, .iadd, 1), (13, .invokevirtual 100, 3), (16, .aload_n 0, 1), (17, .getfield 29, 3), (20, .iload_n 3, 1), (21, .invokevirtual 51, 3), (24, .return_, 1)]
set_option maxRecDepth 100000 in
theorem tkX4_ofAnother : ∀ q ∈ tX4_ofAnother, decode cX4_ofAnother q.1 = .ok q.2 := by decide +kernel
theorem vmX4_ofAnother : zVM yX4_ofAnother cX4_ofAnother 4 (Option.none : Option FieldType) 3 4 := ⟨kX4_ofAnother, q_886, q_19, q_153, ⟨_, rfl, rfl⟩, by decide +kernel, by decide⟩
set_option maxHeartbeats 2000000 in
set_option maxRecDepth 20000 in
theorem coX4_test_B7 (l : Launch) (e : Nat) (he : 10 ≤ e) (gr : Nat → Nat → Int32 → Int32 → Int32 → zM) (hgr : zGr l e gr) (v0 : Nat) (v1 : Int32) (r7 : Int32 → zM) (hr7 : ∀ x : Int32, zCo l (e + 1) 0 0 iX4_test 7 [(0, .ref v0), (1, .int v1), (2, .int x)] [] (r7 x)) (v2 : Int32) : zCo l (e + 1) 0 0 iX4_test 7 [(0, .ref v0), (1, .int v1), (2, .int v2)] [] (X4_test_B7 gr v0 v1 r7 v2) := by
  unfold X4_test_B7
  refine zco_p tkX4_test 5 2 (pc' := 11) (L' := [(0, .ref v0), (1, .int v1), (2, .int v2)]) (S' := [.int 1600, .int v2]) rfl ?_
  refine zco_icmp_ge (tgt := 47) (zdk (cc := cX4_test) (q := (11, .if_icmp .ge 36, 3)) tkX4_test 7 rfl) rfl ?_ ?_
  · exact zco_vret rfl rfl rfl (zdk (cc := cX4_test) (q := (47, .return_, 1)) tkX4_test 22 rfl)
  · refine zco_p tkX4_test 8 1 (pc' := 15) (L' := [(0, .ref v0), (1, .int v1), (2, .int v2)]) (S' := [.ref v0]) rfl ?_
    refine zco_gr fl_4_25 rfl (zdk (cc := cX4_test) (q := (15, .getfield 25, 3)) tkX4_test 9 rfl) (fun x1 => ?_)
    refine zco_ldcS (i := 13) rfl (zdk (cc := cX4_test) (q := (18, .ldc 43, 2)) tkX4_test 10 rfl) ?_
    refine zco_Vi (rc := 0) (rs := 0) (mc := 0) (ms := 0) (As := [.ref (zB + 13)]) (S := []) vmX9_takeWord (mtX9_takeWord l e (by omega) x1 (zB + 13)) q_843 rfl rfl (Nat.le_of_ble_eq_true rfl) (zdk (cc := cX4_test) (q := (20, .invokevirtual 45, 3)) tkX4_test 11 rfl) (fun y2 => ?_)
    refine zco_if_eq (tgt := 47) (zdk (cc := cX4_test) (q := (23, .ifCond .eq 24, 3)) tkX4_test 12 rfl) rfl ?_ ?_
    · exact zco_vret rfl rfl rfl (zdk (cc := cX4_test) (q := (47, .return_, 1)) tkX4_test 22 rfl)
    · refine zco_p tkX4_test 13 2 (pc' := 28) (L' := [(0, .ref v0), (1, .int v1), (2, .int v2)]) (S' := [.int v1, .ref v0]) rfl ?_
      refine zco_Vv (rc := 0) (rs := 0) (mc := 0) (ms := 0) (As := [.int v1]) (S := []) vmX4_both (hgr.2.1 v0 v1) q_833 rfl rfl (Nat.le_of_ble_eq_true rfl) (zdk (cc := cX4_test) (q := (28, .invokevirtual 39, 3)) tkX4_test 15 rfl) ?_
      refine zco_p tkX4_test 16 1 (pc' := 32) (L' := [(0, .ref v0), (1, .int v1), (2, .int v2)]) (S' := [.ref v0]) rfl ?_
      refine zco_gr fl_4_29 rfl (zdk (cc := cX4_test) (q := (32, .getfield 29, 3)) tkX4_test 17 rfl) (fun x3 => ?_)
      refine zco_p tkX4_test 18 1 (pc' := 38) (L' := [(0, .ref v0), (1, .int v1), (2, .int v2)]) (S' := [.int 20011, .ref x3]) rfl ?_
      refine zco_Vv (rc := 0) (rs := 0) (mc := 0) (ms := 0) (As := [.int 20011]) (S := []) vmX3_put (mtX3_put l e (by omega) x3 20011) q_850 rfl rfl (Nat.le_of_ble_eq_true rfl) (zdk (cc := cX4_test) (q := (38, .invokevirtual 51, 3)) tkX4_test 19 rfl) ?_
      refine zco_p tkX4_test 20 2 (pc' := 7) (L' := [(2, .int (v2 + 1)), (0, .ref v0), (1, .int v1)]) (S' := []) rfl ?_
      exact zco_sub [1, 2, 0] rfl (hr7 (v2 + 1))
set_option maxHeartbeats 2000000 in
set_option maxRecDepth 20000 in
theorem coX4_test_E (l : Launch) (e : Nat) (he : 10 ≤ e) (gr : Nat → Nat → Int32 → Int32 → Int32 → zM) (hgr : zGr l e gr) (v0 : Nat) (v1 : Int32) : zCo l (e + 1) 0 0 iX4_test 0 [(0, .ref v0), (1, .int v1)] [] (X4_test_E gr v0 v1) := by
  unfold X4_test_E
  refine zco_p tkX4_test 0 2 (pc' := 2) (L' := [(0, .ref v0), (1, .int v1)]) (S' := [.int v1, .ref v0]) rfl ?_
  refine zco_Vv (rc := 0) (rs := 0) (mc := 0) (ms := 0) (As := [.int v1]) (S := []) vmX4_both (hgr.2.1 v0 v1) q_833 rfl rfl (Nat.le_of_ble_eq_true rfl) (zdk (cc := cX4_test) (q := (2, .invokevirtual 39, 3)) tkX4_test 2 rfl) ?_
  refine zco_p tkX4_test 3 2 (pc' := 7) (L' := [(2, .int 0), (0, .ref v0), (1, .int v1)]) (S' := []) rfl ?_
  exact zco_sub [1, 2, 0] rfl (zco_fix (Lf := fun x : Int32 => [(0, .ref v0), (1, .int v1), (2, .int x)]) (Sf := fun _ => []) (fun r hr x => coX4_test_B7 l e he gr hgr v0 v1 r hr x) zFU 0)
set_option maxHeartbeats 2000000 in
set_option maxRecDepth 20000 in
theorem coX4_both_B7 (l : Launch) (e : Nat) (he : 10 ≤ e) (gr : Nat → Nat → Int32 → Int32 → Int32 → zM) (hgr : zGr l e gr) (v0 : Nat) (v1 : Int32) (r7 : Int32 → zM) (hr7 : ∀ x : Int32, zCo l (e + 1) 0 0 iX4_both 7 [(0, .ref v0), (1, .int v1), (2, .int x)] [] (r7 x)) (v2 : Int32) : zCo l (e + 1) 0 0 iX4_both 7 [(0, .ref v0), (1, .int v1), (2, .int v2)] [] (X4_both_B7 gr v0 v1 r7 v2) := by
  unfold X4_both_B7
  refine zco_p tkX4_both 5 2 (pc' := 11) (L' := [(0, .ref v0), (1, .int v1), (2, .int v2)]) (S' := [.int 1600, .int v2]) rfl ?_
  refine zco_icmp_ge (tgt := 47) (zdk (cc := cX4_both) (q := (11, .if_icmp .ge 36, 3)) tkX4_both 7 rfl) rfl ?_ ?_
  · exact zco_vret rfl rfl rfl (zdk (cc := cX4_both) (q := (47, .return_, 1)) tkX4_both 22 rfl)
  · refine zco_p tkX4_both 8 1 (pc' := 15) (L' := [(0, .ref v0), (1, .int v1), (2, .int v2)]) (S' := [.ref v0]) rfl ?_
    refine zco_gr fl_4_25 rfl (zdk (cc := cX4_both) (q := (15, .getfield 25, 3)) tkX4_both 9 rfl) (fun x1 => ?_)
    refine zco_ldcS (i := 12) rfl (zdk (cc := cX4_both) (q := (18, .ldc 59, 2)) tkX4_both 10 rfl) ?_
    refine zco_Vi (rc := 0) (rs := 0) (mc := 0) (ms := 0) (As := [.ref (zB + 12)]) (S := []) vmX9_takeWord (mtX9_takeWord l e (by omega) x1 (zB + 12)) q_843 rfl rfl (Nat.le_of_ble_eq_true rfl) (zdk (cc := cX4_both) (q := (20, .invokevirtual 45, 3)) tkX4_both 11 rfl) (fun y2 => ?_)
    refine zco_if_eq (tgt := 47) (zdk (cc := cX4_both) (q := (23, .ifCond .eq 24, 3)) tkX4_both 12 rfl) rfl ?_ ?_
    · exact zco_vret rfl rfl rfl (zdk (cc := cX4_both) (q := (47, .return_, 1)) tkX4_both 22 rfl)
    · refine zco_p tkX4_both 13 2 (pc' := 28) (L' := [(0, .ref v0), (1, .int v1), (2, .int v2)]) (S' := [.int v1, .ref v0]) rfl ?_
      refine zco_Vv (rc := 0) (rs := 0) (mc := 0) (ms := 0) (As := [.int v1]) (S := []) vmX4_oneFact (hgr.2.2.1 v0 v1) q_837 rfl rfl (Nat.le_of_ble_eq_true rfl) (zdk (cc := cX4_both) (q := (28, .invokevirtual 56, 3)) tkX4_both 15 rfl) ?_
      refine zco_p tkX4_both 16 1 (pc' := 32) (L' := [(0, .ref v0), (1, .int v1), (2, .int v2)]) (S' := [.ref v0]) rfl ?_
      refine zco_gr fl_4_29 rfl (zdk (cc := cX4_both) (q := (32, .getfield 29, 3)) tkX4_both 17 rfl) (fun x3 => ?_)
      refine zco_p tkX4_both 18 1 (pc' := 38) (L' := [(0, .ref v0), (1, .int v1), (2, .int v2)]) (S' := [.int 20010, .ref x3]) rfl ?_
      refine zco_Vv (rc := 0) (rs := 0) (mc := 0) (ms := 0) (As := [.int 20010]) (S := []) vmX3_put (mtX3_put l e (by omega) x3 20010) q_850 rfl rfl (Nat.le_of_ble_eq_true rfl) (zdk (cc := cX4_both) (q := (38, .invokevirtual 51, 3)) tkX4_both 19 rfl) ?_
      refine zco_p tkX4_both 20 2 (pc' := 7) (L' := [(2, .int (v2 + 1)), (0, .ref v0), (1, .int v1)]) (S' := []) rfl ?_
      exact zco_sub [1, 2, 0] rfl (hr7 (v2 + 1))
set_option maxHeartbeats 2000000 in
set_option maxRecDepth 20000 in
theorem coX4_both_E (l : Launch) (e : Nat) (he : 10 ≤ e) (gr : Nat → Nat → Int32 → Int32 → Int32 → zM) (hgr : zGr l e gr) (v0 : Nat) (v1 : Int32) : zCo l (e + 1) 0 0 iX4_both 0 [(0, .ref v0), (1, .int v1)] [] (X4_both_E gr v0 v1) := by
  unfold X4_both_E
  refine zco_p tkX4_both 0 2 (pc' := 2) (L' := [(0, .ref v0), (1, .int v1)]) (S' := [.int v1, .ref v0]) rfl ?_
  refine zco_Vv (rc := 0) (rs := 0) (mc := 0) (ms := 0) (As := [.int v1]) (S := []) vmX4_oneFact (hgr.2.2.1 v0 v1) q_837 rfl rfl (Nat.le_of_ble_eq_true rfl) (zdk (cc := cX4_both) (q := (2, .invokevirtual 56, 3)) tkX4_both 2 rfl) ?_
  refine zco_p tkX4_both 3 2 (pc' := 7) (L' := [(2, .int 0), (0, .ref v0), (1, .int v1)]) (S' := []) rfl ?_
  exact zco_sub [1, 2, 0] rfl (zco_fix (Lf := fun x : Int32 => [(0, .ref v0), (1, .int v1), (2, .int x)]) (Sf := fun _ => []) (fun r hr x => coX4_both_B7 l e he gr hgr v0 v1 r hr x) zFU 0)
set_option maxHeartbeats 2000000 in
set_option maxRecDepth 20000 in
theorem coX4_oneFact_E (l : Launch) (e : Nat) (he : 10 ≤ e) (gr : Nat → Nat → Int32 → Int32 → Int32 → zM) (hgr : zGr l e gr) (v0 : Nat) (v1 : Int32) : zCo l (e + 1) 0 0 iX4_oneFact 0 [(0, .ref v0), (1, .int v1)] [] (X4_oneFact_E gr v0 v1) := by
  unfold X4_oneFact_E
  refine zco_p tkX4_oneFact 0 1 (pc' := 1) (L' := [(0, .ref v0), (1, .int v1)]) (S' := [.ref v0]) rfl ?_
  refine zco_gr fl_4_25 rfl (zdk (cc := cX4_oneFact) (q := (1, .getfield 25, 3)) tkX4_oneFact 1 rfl) (fun x1 => ?_)
  refine zco_Vi (rc := 0) (rs := 0) (mc := 0) (ms := 0) (As := []) (S := []) vmX9_begin (mtX9_begin l e (by omega) x1) q_841 rfl rfl (Nat.le_of_ble_eq_true rfl) (zdk (cc := cX4_oneFact) (q := (4, .invokevirtual 61, 3)) tkX4_oneFact 2 rfl) (fun y2 => ?_)
  refine zco_p tkX4_oneFact 3 2 (pc' := 9) (L' := [(2, .int y2), (0, .ref v0), (1, .int v1)]) (S' := [.ref v0]) rfl ?_
  refine zco_gr fl_4_25 rfl (zdk (cc := cX4_oneFact) (q := (9, .getfield 25, 3)) tkX4_oneFact 5 rfl) (fun x3 => ?_)
  refine zco_ldcS (i := 6) rfl (zdk (cc := cX4_oneFact) (q := (12, .ldc 65, 2)) tkX4_oneFact 6 rfl) ?_
  refine zco_Vi (rc := 0) (rs := 0) (mc := 0) (ms := 0) (As := [.ref (zB + 6)]) (S := []) vmX9_takeWord (mtX9_takeWord l e (by omega) x3 (zB + 6)) q_843 rfl rfl (Nat.le_of_ble_eq_true rfl) (zdk (cc := cX4_oneFact) (q := (14, .invokevirtual 45, 3)) tkX4_oneFact 7 rfl) (fun y4 => ?_)
  refine zco_if_eq (tgt := 49) (zdk (cc := cX4_oneFact) (q := (17, .ifCond .eq 32, 3)) tkX4_oneFact 8 rfl) rfl ?_ ?_
  · refine zco_p tkX4_oneFact 24 1 (pc' := 50) (L' := [(2, .int y2), (0, .ref v0), (1, .int v1)]) (S' := [.ref v0]) rfl ?_
    refine zco_gr fl_4_25 rfl (zdk (cc := cX4_oneFact) (q := (50, .getfield 25, 3)) tkX4_oneFact 25 rfl) (fun x5 => ?_)
    refine zco_p tkX4_oneFact 26 1 (pc' := 55) (L' := [(2, .int y2), (0, .ref v0), (1, .int v1)]) (S' := [.int 91, .ref x5]) rfl ?_
    refine zco_Vi (rc := 0) (rs := 0) (mc := 0) (ms := 0) (As := [.int 91]) (S := []) vmX9_takeSign (mtX9_takeSign l e (by omega) x5 91) q_851 rfl rfl (Nat.le_of_ble_eq_true rfl) (zdk (cc := cX4_oneFact) (q := (55, .invokevirtual 71, 3)) tkX4_oneFact 27 rfl) (fun y6 => ?_)
    refine zco_if_eq (tgt := 89) (zdk (cc := cX4_oneFact) (q := (58, .ifCond .eq 31, 3)) tkX4_oneFact 28 rfl) rfl ?_ ?_
    · refine zco_p tkX4_oneFact 44 1 (pc' := 90) (L' := [(2, .int y2), (0, .ref v0), (1, .int v1)]) (S' := [.ref v0]) rfl ?_
      refine zco_gr fl_4_25 rfl (zdk (cc := cX4_oneFact) (q := (90, .getfield 25, 3)) tkX4_oneFact 45 rfl) (fun x7 => ?_)
      refine zco_ldcS (i := 7) rfl (zdk (cc := cX4_oneFact) (q := (93, .ldc 81, 2)) tkX4_oneFact 46 rfl) ?_
      refine zco_Vi (rc := 0) (rs := 0) (mc := 0) (ms := 0) (As := [.ref (zB + 7)]) (S := []) vmX9_takeWord (mtX9_takeWord l e (by omega) x7 (zB + 7)) q_843 rfl rfl (Nat.le_of_ble_eq_true rfl) (zdk (cc := cX4_oneFact) (q := (95, .invokevirtual 45, 3)) tkX4_oneFact 47 rfl) (fun y8 => ?_)
      refine zco_if_eq (tgt := 112) (zdk (cc := cX4_oneFact) (q := (98, .ifCond .eq 14, 3)) tkX4_oneFact 48 rfl) rfl ?_ ?_
      · refine zco_p tkX4_oneFact 54 2 (pc' := 114) (L' := [(2, .int y2), (0, .ref v0), (1, .int v1)]) (S' := [.int v1, .ref v0]) rfl ?_
        refine zco_Vv (rc := 0) (rs := 0) (mc := 0) (ms := 0) (As := [.int v1]) (S := []) vmX4_sum (hgr.2.2.2.1 v0 v1) q_862 rfl rfl (Nat.le_of_ble_eq_true rfl) (zdk (cc := cX4_oneFact) (q := (114, .invokevirtual 83, 3)) tkX4_oneFact 56 rfl) ?_
        refine zco_p tkX4_oneFact 57 1 (pc' := 118) (L' := [(2, .int y2), (0, .ref v0), (1, .int v1)]) (S' := [.ref v0]) rfl ?_
        refine zco_Vi (rc := 0) (rs := 0) (mc := 0) (ms := 0) (As := []) (S := []) vmX4_comparison (mtX4_comparison l e (by omega) v0) q_891 rfl rfl (Nat.le_of_ble_eq_true rfl) (zdk (cc := cX4_oneFact) (q := (118, .invokevirtual 86, 3)) tkX4_oneFact 58 rfl) (fun y9 => ?_)
        refine zco_p tkX4_oneFact 59 2 (pc' := 123) (L' := [(3, .int y9), (2, .int y2), (0, .ref v0), (1, .int v1)]) (S' := [.ref v0]) rfl ?_
        refine zco_gr fl_4_25 rfl (zdk (cc := cX4_oneFact) (q := (123, .getfield 25, 3)) tkX4_oneFact 61 rfl) (fun x10 => ?_)
        refine zco_Vi (rc := 0) (rs := 0) (mc := 0) (ms := 0) (As := []) (S := []) vmX9_sound (mtX9_sound l e (by omega) x10) q_849 rfl rfl (Nat.le_of_ble_eq_true rfl) (zdk (cc := cX4_oneFact) (q := (126, .invokevirtual 89, 3)) tkX4_oneFact 62 rfl) (fun y11 => ?_)
        refine zco_if_eq (tgt := 145) (zdk (cc := cX4_oneFact) (q := (129, .ifCond .eq 16, 3)) tkX4_oneFact 63 rfl) rfl ?_ ?_
        · exact zco_vret rfl rfl rfl (zdk (cc := cX4_oneFact) (q := (145, .return_, 1)) tkX4_oneFact 71 rfl)
        · refine zco_p tkX4_oneFact 64 2 (pc' := 134) (L' := [(3, .int y9), (2, .int y2), (0, .ref v0), (1, .int v1)]) (S' := [.int v1, .ref v0]) rfl ?_
          refine zco_Vv (rc := 0) (rs := 0) (mc := 0) (ms := 0) (As := [.int v1]) (S := []) vmX4_sum (hgr.2.2.2.1 v0 v1) q_862 rfl rfl (Nat.le_of_ble_eq_true rfl) (zdk (cc := cX4_oneFact) (q := (134, .invokevirtual 83, 3)) tkX4_oneFact 66 rfl) ?_
          refine zco_p tkX4_oneFact 67 1 (pc' := 138) (L' := [(3, .int y9), (2, .int y2), (0, .ref v0), (1, .int v1)]) (S' := [.ref v0]) rfl ?_
          refine zco_gr fl_4_29 rfl (zdk (cc := cX4_oneFact) (q := (138, .getfield 29, 3)) tkX4_oneFact 68 rfl) (fun x12 => ?_)
          refine zco_p tkX4_oneFact 69 1 (pc' := 142) (L' := [(3, .int y9), (2, .int y2), (0, .ref v0), (1, .int v1)]) (S' := [.int y9, .ref x12]) rfl ?_
          refine zco_Vv (rc := 0) (rs := 0) (mc := 0) (ms := 0) (As := [.int y9]) (S := []) vmX3_put (mtX3_put l e (by omega) x12 y9) q_850 rfl rfl (Nat.le_of_ble_eq_true rfl) (zdk (cc := cX4_oneFact) (q := (142, .invokevirtual 51, 3)) tkX4_oneFact 70 rfl) ?_
          exact zco_vret rfl rfl rfl (zdk (cc := cX4_oneFact) (q := (145, .return_, 1)) tkX4_oneFact 71 rfl)
      · refine zco_p tkX4_oneFact 49 1 (pc' := 102) (L' := [(2, .int y2), (0, .ref v0), (1, .int v1)]) (S' := [.ref v0]) rfl ?_
        refine zco_gr fl_4_29 rfl (zdk (cc := cX4_oneFact) (q := (102, .getfield 29, 3)) tkX4_oneFact 50 rfl) (fun x13 => ?_)
        refine zco_p tkX4_oneFact 51 1 (pc' := 106) (L' := [(2, .int y2), (0, .ref v0), (1, .int v1)]) (S' := [.int 1, .ref x13]) rfl ?_
        refine zco_Vv (rc := 0) (rs := 0) (mc := 0) (ms := 0) (As := [.int 1]) (S := []) vmX3_put (mtX3_put l e (by omega) x13 1) q_850 rfl rfl (Nat.le_of_ble_eq_true rfl) (zdk (cc := cX4_oneFact) (q := (106, .invokevirtual 51, 3)) tkX4_oneFact 52 rfl) ?_
        refine zco_p tkX4_oneFact 53 1 (pc' := 145) (L' := [(2, .int y2), (0, .ref v0), (1, .int v1)]) (S' := []) rfl ?_
        exact zco_vret rfl rfl rfl (zdk (cc := cX4_oneFact) (q := (145, .return_, 1)) tkX4_oneFact 71 rfl)
    · refine zco_p tkX4_oneFact 29 3 (pc' := 64) (L' := [(2, .int y2), (0, .ref v0), (1, .int v1)]) (S' := [.int y2, .int v1, .ref v0]) rfl ?_
      refine zco_Vi (rc := 0) (rs := 0) (mc := 0) (ms := 0) (As := [.int v1, .int y2]) (S := []) vmX4_mayOpen (mtX4_mayOpen l e (by omega) v0 v1 y2) q_844 rfl rfl (Nat.le_of_ble_eq_true rfl) (zdk (cc := cX4_oneFact) (q := (64, .invokevirtual 67, 3)) tkX4_oneFact 32 rfl) (fun y14 => ?_)
      refine zco_if_eq (tgt := 145) (zdk (cc := cX4_oneFact) (q := (67, .ifCond .eq 78, 3)) tkX4_oneFact 33 rfl) rfl ?_ ?_
      · exact zco_vret rfl rfl rfl (zdk (cc := cX4_oneFact) (q := (145, .return_, 1)) tkX4_oneFact 71 rfl)
      · refine zco_p tkX4_oneFact 34 4 (pc' := 74) (L' := [(2, .int y2), (0, .ref v0), (1, .int v1)]) (S' := [.int (v1 + 1), .ref v0]) rfl ?_
        refine zco_Vv (rc := 0) (rs := 0) (mc := 0) (ms := 0) (As := [.int (v1 + 1)]) (S := []) vmX4_test (hgr.1 v0 (v1 + 1)) q_855 rfl rfl (Nat.le_of_ble_eq_true rfl) (zdk (cc := cX4_oneFact) (q := (74, .invokevirtual 75, 3)) tkX4_oneFact 38 rfl) ?_
        refine zco_p tkX4_oneFact 39 1 (pc' := 78) (L' := [(2, .int y2), (0, .ref v0), (1, .int v1)]) (S' := [.ref v0]) rfl ?_
        refine zco_gr fl_4_25 rfl (zdk (cc := cX4_oneFact) (q := (78, .getfield 25, 3)) tkX4_oneFact 40 rfl) (fun x15 => ?_)
        refine zco_p tkX4_oneFact 41 1 (pc' := 83) (L' := [(2, .int y2), (0, .ref v0), (1, .int v1)]) (S' := [.int 93, .ref x15]) rfl ?_
        refine zco_Vv (rc := 0) (rs := 0) (mc := 0) (ms := 0) (As := [.int 93]) (S := []) vmX9_needSign (mtX9_needSign l e (by omega) x15 93) q_856 rfl rfl (Nat.le_of_ble_eq_true rfl) (zdk (cc := cX4_oneFact) (q := (83, .invokevirtual 78, 3)) tkX4_oneFact 42 rfl) ?_
        refine zco_p tkX4_oneFact 43 1 (pc' := 145) (L' := [(2, .int y2), (0, .ref v0), (1, .int v1)]) (S' := []) rfl ?_
        exact zco_vret rfl rfl rfl (zdk (cc := cX4_oneFact) (q := (145, .return_, 1)) tkX4_oneFact 71 rfl)
  · refine zco_p tkX4_oneFact 9 3 (pc' := 23) (L' := [(2, .int y2), (0, .ref v0), (1, .int v1)]) (S' := [.int y2, .int v1, .ref v0]) rfl ?_
    refine zco_Vi (rc := 0) (rs := 0) (mc := 0) (ms := 0) (As := [.int v1, .int y2]) (S := []) vmX4_mayOpen (mtX4_mayOpen l e (by omega) v0 v1 y2) q_844 rfl rfl (Nat.le_of_ble_eq_true rfl) (zdk (cc := cX4_oneFact) (q := (23, .invokevirtual 67, 3)) tkX4_oneFact 12 rfl) (fun y16 => ?_)
    refine zco_if_eq (tgt := 145) (zdk (cc := cX4_oneFact) (q := (26, .ifCond .eq 119, 3)) tkX4_oneFact 13 rfl) rfl ?_ ?_
    · exact zco_vret rfl rfl rfl (zdk (cc := cX4_oneFact) (q := (145, .return_, 1)) tkX4_oneFact 71 rfl)
    · refine zco_p tkX4_oneFact 14 4 (pc' := 33) (L' := [(2, .int y2), (0, .ref v0), (1, .int v1)]) (S' := [.int (v1 + 1), .ref v0]) rfl ?_
      refine zco_Vv (rc := 0) (rs := 0) (mc := 0) (ms := 0) (As := [.int (v1 + 1)]) (S := []) vmX4_oneFact (hgr.2.2.1 v0 (v1 + 1)) q_837 rfl rfl (Nat.le_of_ble_eq_true rfl) (zdk (cc := cX4_oneFact) (q := (33, .invokevirtual 56, 3)) tkX4_oneFact 18 rfl) ?_
      refine zco_p tkX4_oneFact 19 1 (pc' := 37) (L' := [(2, .int y2), (0, .ref v0), (1, .int v1)]) (S' := [.ref v0]) rfl ?_
      refine zco_gr fl_4_29 rfl (zdk (cc := cX4_oneFact) (q := (37, .getfield 29, 3)) tkX4_oneFact 20 rfl) (fun x17 => ?_)
      refine zco_p tkX4_oneFact 21 1 (pc' := 43) (L' := [(2, .int y2), (0, .ref v0), (1, .int v1)]) (S' := [.int 30001, .ref x17]) rfl ?_
      refine zco_Vv (rc := 0) (rs := 0) (mc := 0) (ms := 0) (As := [.int 30001]) (S := []) vmX3_put (mtX3_put l e (by omega) x17 30001) q_850 rfl rfl (Nat.le_of_ble_eq_true rfl) (zdk (cc := cX4_oneFact) (q := (43, .invokevirtual 51, 3)) tkX4_oneFact 22 rfl) ?_
      refine zco_p tkX4_oneFact 23 1 (pc' := 145) (L' := [(2, .int y2), (0, .ref v0), (1, .int v1)]) (S' := []) rfl ?_
      exact zco_vret rfl rfl rfl (zdk (cc := cX4_oneFact) (q := (145, .return_, 1)) tkX4_oneFact 71 rfl)
set_option maxHeartbeats 2000000 in
set_option maxRecDepth 20000 in
theorem coX4_sum_J67 (l : Launch) (e : Nat) (he : 2 ≤ e) (gr : Nat → Nat → Int32 → Int32 → Int32 → zM) (hgr : zGr l e gr)  : zCo l (e + 1) 0 0 iX4_sum 67 [] [] (X4_sum_J67 gr ) := by
  unfold X4_sum_J67
  refine zco_p tkX4_sum 31 1 (pc' := 89) (L' := []) (S' := []) rfl ?_
  exact zco_vret rfl rfl rfl (zdk (cc := cX4_sum) (q := (89, .return_, 1)) tkX4_sum 41 rfl)
set_option maxHeartbeats 2000000 in
set_option maxRecDepth 20000 in
theorem coX4_sum_J61 (l : Launch) (e : Nat) (he : 2 ≤ e) (gr : Nat → Nat → Int32 → Int32 → Int32 → zM) (hgr : zGr l e gr) (v0 : Nat) (v1 : Int32) (v2 : Int32) (r7 : Int32 → zM) (hr7 : ∀ x : Int32, zCo l (e + 1) 0 0 iX4_sum 7 [(0, .ref v0), (1, .int v1), (2, .int x)] [] (r7 x)) (s0 : Int32) : zCo l (e + 1) 0 0 iX4_sum 61 [(0, .ref v0), (1, .int v1), (2, .int v2)] [.int s0] (X4_sum_J61 gr r7 v0 v1 v2 s0) := by
  unfold X4_sum_J61
  refine zco_p tkX4_sum 27 3 (pc' := 64) (L' := [(3, .int s0), (0, .ref v0), (1, .int v1), (2, .int v2)]) (S' := [.int ((-1)), .int s0]) rfl ?_
  refine zco_icmp_ne (tgt := 70) (zdk (cc := cX4_sum) (q := (64, .if_icmp .ne 6, 3)) tkX4_sum 30 rfl) rfl ?_ ?_
  · refine zco_p tkX4_sum 32 2 (pc' := 72) (L' := [(3, .int s0), (0, .ref v0), (1, .int v1), (2, .int v2)]) (S' := [.int v1, .ref v0]) rfl ?_
    refine zco_Vv (rc := 0) (rs := 0) (mc := 0) (ms := 0) (As := [.int v1]) (S := []) vmX4_product (hgr.2.2.2.2.1 v0 v1) q_866 rfl rfl (Nat.le_of_ble_eq_true rfl) (zdk (cc := cX4_sum) (q := (72, .invokevirtual 97, 3)) tkX4_sum 34 rfl) ?_
    refine zco_p tkX4_sum 35 1 (pc' := 76) (L' := [(3, .int s0), (0, .ref v0), (1, .int v1), (2, .int v2)]) (S' := [.ref v0]) rfl ?_
    refine zco_gr fl_4_29 rfl (zdk (cc := cX4_sum) (q := (76, .getfield 29, 3)) tkX4_sum 36 rfl) (fun x1 => ?_)
    refine zco_p tkX4_sum 37 1 (pc' := 80) (L' := [(3, .int s0), (0, .ref v0), (1, .int v1), (2, .int v2)]) (S' := [.int s0, .ref x1]) rfl ?_
    refine zco_Vv (rc := 0) (rs := 0) (mc := 0) (ms := 0) (As := [.int s0]) (S := []) vmX3_put (mtX3_put l e (by omega) x1 s0) q_850 rfl rfl (Nat.le_of_ble_eq_true rfl) (zdk (cc := cX4_sum) (q := (80, .invokevirtual 51, 3)) tkX4_sum 38 rfl) ?_
    refine zco_p tkX4_sum 39 2 (pc' := 7) (L' := [(2, .int (v2 + 1)), (3, .int s0), (0, .ref v0), (1, .int v1)]) (S' := []) rfl ?_
    exact zco_sub [2, 3, 0] rfl (hr7 (v2 + 1))
  · exact zco_sub [] rfl (coX4_sum_J67 l e he gr hgr )
set_option maxHeartbeats 2000000 in
set_option maxRecDepth 20000 in
theorem coX4_sum_B7 (l : Launch) (e : Nat) (he : 2 ≤ e) (gr : Nat → Nat → Int32 → Int32 → Int32 → zM) (hgr : zGr l e gr) (v0 : Nat) (v1 : Int32) (r7 : Int32 → zM) (hr7 : ∀ x : Int32, zCo l (e + 1) 0 0 iX4_sum 7 [(0, .ref v0), (1, .int v1), (2, .int x)] [] (r7 x)) (v2 : Int32) : zCo l (e + 1) 0 0 iX4_sum 7 [(0, .ref v0), (1, .int v1), (2, .int v2)] [] (X4_sum_B7 gr v0 v1 r7 v2) := by
  unfold X4_sum_B7
  refine zco_p tkX4_sum 5 2 (pc' := 11) (L' := [(0, .ref v0), (1, .int v1), (2, .int v2)]) (S' := [.int 1600, .int v2]) rfl ?_
  refine zco_icmp_ge (tgt := 89) (zdk (cc := cX4_sum) (q := (11, .if_icmp .ge 78, 3)) tkX4_sum 7 rfl) rfl ?_ ?_
  · exact zco_vret rfl rfl rfl (zdk (cc := cX4_sum) (q := (89, .return_, 1)) tkX4_sum 41 rfl)
  · refine zco_p tkX4_sum 8 1 (pc' := 15) (L' := [(0, .ref v0), (1, .int v1), (2, .int v2)]) (S' := [.ref v0]) rfl ?_
    refine zco_gr fl_4_25 rfl (zdk (cc := cX4_sum) (q := (15, .getfield 25, 3)) tkX4_sum 9 rfl) (fun x1 => ?_)
    refine zco_Vi (rc := 0) (rs := 0) (mc := 0) (ms := 0) (As := []) (S := []) vmX9_sound (mtX9_sound l e (by omega) x1) q_849 rfl rfl (Nat.le_of_ble_eq_true rfl) (zdk (cc := cX4_sum) (q := (18, .invokevirtual 89, 3)) tkX4_sum 10 rfl) (fun y2 => ?_)
    refine zco_if_eq (tgt := 89) (zdk (cc := cX4_sum) (q := (21, .ifCond .eq 68, 3)) tkX4_sum 11 rfl) rfl ?_ ?_
    · exact zco_vret rfl rfl rfl (zdk (cc := cX4_sum) (q := (89, .return_, 1)) tkX4_sum 41 rfl)
    · refine zco_p tkX4_sum 12 1 (pc' := 25) (L' := [(0, .ref v0), (1, .int v1), (2, .int v2)]) (S' := [.ref v0]) rfl ?_
      refine zco_gr fl_4_25 rfl (zdk (cc := cX4_sum) (q := (25, .getfield 25, 3)) tkX4_sum 13 rfl) (fun x3 => ?_)
      refine zco_p tkX4_sum 14 1 (pc' := 30) (L' := [(0, .ref v0), (1, .int v1), (2, .int v2)]) (S' := [.int 43, .ref x3]) rfl ?_
      refine zco_Vi (rc := 0) (rs := 0) (mc := 0) (ms := 0) (As := [.int 43]) (S := []) vmX9_takeSign (mtX9_takeSign l e (by omega) x3 43) q_851 rfl rfl (Nat.le_of_ble_eq_true rfl) (zdk (cc := cX4_sum) (q := (30, .invokevirtual 71, 3)) tkX4_sum 15 rfl) (fun y4 => ?_)
      refine zco_if_eq (tgt := 42) (zdk (cc := cX4_sum) (q := (33, .ifCond .eq 9, 3)) tkX4_sum 16 rfl) rfl ?_ ?_
      · refine zco_p tkX4_sum 19 1 (pc' := 43) (L' := [(0, .ref v0), (1, .int v1), (2, .int v2)]) (S' := [.ref v0]) rfl ?_
        refine zco_gr fl_4_25 rfl (zdk (cc := cX4_sum) (q := (43, .getfield 25, 3)) tkX4_sum 20 rfl) (fun x5 => ?_)
        refine zco_p tkX4_sum 21 1 (pc' := 48) (L' := [(0, .ref v0), (1, .int v1), (2, .int v2)]) (S' := [.int 45, .ref x5]) rfl ?_
        refine zco_Vi (rc := 0) (rs := 0) (mc := 0) (ms := 0) (As := [.int 45]) (S := []) vmX9_takeSign (mtX9_takeSign l e (by omega) x5 45) q_851 rfl rfl (Nat.le_of_ble_eq_true rfl) (zdk (cc := cX4_sum) (q := (48, .invokevirtual 71, 3)) tkX4_sum 22 rfl) (fun y6 => ?_)
        refine zco_if_eq (tgt := 60) (zdk (cc := cX4_sum) (q := (51, .ifCond .eq 9, 3)) tkX4_sum 23 rfl) rfl ?_ ?_
        · refine zco_p tkX4_sum 26 1 (pc' := 61) (L' := [(0, .ref v0), (1, .int v1), (2, .int v2)]) (S' := [.int ((-1))]) rfl ?_
          exact zco_sub [0, 1, 2] rfl (coX4_sum_J61 l e he gr hgr v0 v1 v2 r7 hr7 ((-1)))
        · refine zco_p tkX4_sum 24 2 (pc' := 61) (L' := [(0, .ref v0), (1, .int v1), (2, .int v2)]) (S' := [.int 20002]) rfl ?_
          exact zco_sub [0, 1, 2] rfl (coX4_sum_J61 l e he gr hgr v0 v1 v2 r7 hr7 20002)
      · refine zco_p tkX4_sum 17 2 (pc' := 61) (L' := [(0, .ref v0), (1, .int v1), (2, .int v2)]) (S' := [.int 20001]) rfl ?_
        exact zco_sub [0, 1, 2] rfl (coX4_sum_J61 l e he gr hgr v0 v1 v2 r7 hr7 20001)
set_option maxHeartbeats 2000000 in
set_option maxRecDepth 20000 in
theorem coX4_sum_E (l : Launch) (e : Nat) (he : 2 ≤ e) (gr : Nat → Nat → Int32 → Int32 → Int32 → zM) (hgr : zGr l e gr) (v0 : Nat) (v1 : Int32) : zCo l (e + 1) 0 0 iX4_sum 0 [(0, .ref v0), (1, .int v1)] [] (X4_sum_E gr v0 v1) := by
  unfold X4_sum_E
  refine zco_p tkX4_sum 0 2 (pc' := 2) (L' := [(0, .ref v0), (1, .int v1)]) (S' := [.int v1, .ref v0]) rfl ?_
  refine zco_Vv (rc := 0) (rs := 0) (mc := 0) (ms := 0) (As := [.int v1]) (S := []) vmX4_product (hgr.2.2.2.2.1 v0 v1) q_866 rfl rfl (Nat.le_of_ble_eq_true rfl) (zdk (cc := cX4_sum) (q := (2, .invokevirtual 97, 3)) tkX4_sum 2 rfl) ?_
  refine zco_p tkX4_sum 3 2 (pc' := 7) (L' := [(2, .int 0), (0, .ref v0), (1, .int v1)]) (S' := []) rfl ?_
  exact zco_sub [1, 2, 0] rfl (zco_fix (Lf := fun x : Int32 => [(0, .ref v0), (1, .int v1), (2, .int x)]) (Sf := fun _ => []) (fun r hr x => coX4_sum_B7 l e he gr hgr v0 v1 r hr x) zFU 0)
set_option maxHeartbeats 2000000 in
set_option maxRecDepth 20000 in
theorem coX4_product_J67 (l : Launch) (e : Nat) (he : 2 ≤ e) (gr : Nat → Nat → Int32 → Int32 → Int32 → zM) (hgr : zGr l e gr)  : zCo l (e + 1) 0 0 iX4_product 67 [] [] (X4_product_J67 gr ) := by
  unfold X4_product_J67
  refine zco_p tkX4_product 31 1 (pc' := 89) (L' := []) (S' := []) rfl ?_
  exact zco_vret rfl rfl rfl (zdk (cc := cX4_product) (q := (89, .return_, 1)) tkX4_product 41 rfl)
set_option maxHeartbeats 2000000 in
set_option maxRecDepth 20000 in
theorem coX4_product_J61 (l : Launch) (e : Nat) (he : 2 ≤ e) (gr : Nat → Nat → Int32 → Int32 → Int32 → zM) (hgr : zGr l e gr) (v0 : Nat) (v1 : Int32) (v2 : Int32) (r7 : Int32 → zM) (hr7 : ∀ x : Int32, zCo l (e + 1) 0 0 iX4_product 7 [(0, .ref v0), (1, .int v1), (2, .int x)] [] (r7 x)) (s0 : Int32) : zCo l (e + 1) 0 0 iX4_product 61 [(0, .ref v0), (1, .int v1), (2, .int v2)] [.int s0] (X4_product_J61 gr r7 v0 v1 v2 s0) := by
  unfold X4_product_J61
  refine zco_p tkX4_product 27 3 (pc' := 64) (L' := [(3, .int s0), (0, .ref v0), (1, .int v1), (2, .int v2)]) (S' := [.int ((-1)), .int s0]) rfl ?_
  refine zco_icmp_ne (tgt := 70) (zdk (cc := cX4_product) (q := (64, .if_icmp .ne 6, 3)) tkX4_product 30 rfl) rfl ?_ ?_
  · refine zco_p tkX4_product 32 2 (pc' := 72) (L' := [(3, .int s0), (0, .ref v0), (1, .int v1), (2, .int v2)]) (S' := [.int v1, .ref v0]) rfl ?_
    refine zco_Vv (rc := 0) (rs := 0) (mc := 0) (ms := 0) (As := [.int v1]) (S := []) vmX4_oneOf (hgr.2.2.2.2.2.1 v0 v1) q_870 rfl rfl (Nat.le_of_ble_eq_true rfl) (zdk (cc := cX4_product) (q := (72, .invokevirtual 100, 3)) tkX4_product 34 rfl) ?_
    refine zco_p tkX4_product 35 1 (pc' := 76) (L' := [(3, .int s0), (0, .ref v0), (1, .int v1), (2, .int v2)]) (S' := [.ref v0]) rfl ?_
    refine zco_gr fl_4_29 rfl (zdk (cc := cX4_product) (q := (76, .getfield 29, 3)) tkX4_product 36 rfl) (fun x1 => ?_)
    refine zco_p tkX4_product 37 1 (pc' := 80) (L' := [(3, .int s0), (0, .ref v0), (1, .int v1), (2, .int v2)]) (S' := [.int s0, .ref x1]) rfl ?_
    refine zco_Vv (rc := 0) (rs := 0) (mc := 0) (ms := 0) (As := [.int s0]) (S := []) vmX3_put (mtX3_put l e (by omega) x1 s0) q_850 rfl rfl (Nat.le_of_ble_eq_true rfl) (zdk (cc := cX4_product) (q := (80, .invokevirtual 51, 3)) tkX4_product 38 rfl) ?_
    refine zco_p tkX4_product 39 2 (pc' := 7) (L' := [(2, .int (v2 + 1)), (3, .int s0), (0, .ref v0), (1, .int v1)]) (S' := []) rfl ?_
    exact zco_sub [2, 3, 0] rfl (hr7 (v2 + 1))
  · exact zco_sub [] rfl (coX4_product_J67 l e he gr hgr )
set_option maxHeartbeats 2000000 in
set_option maxRecDepth 20000 in
theorem coX4_product_B7 (l : Launch) (e : Nat) (he : 2 ≤ e) (gr : Nat → Nat → Int32 → Int32 → Int32 → zM) (hgr : zGr l e gr) (v0 : Nat) (v1 : Int32) (r7 : Int32 → zM) (hr7 : ∀ x : Int32, zCo l (e + 1) 0 0 iX4_product 7 [(0, .ref v0), (1, .int v1), (2, .int x)] [] (r7 x)) (v2 : Int32) : zCo l (e + 1) 0 0 iX4_product 7 [(0, .ref v0), (1, .int v1), (2, .int v2)] [] (X4_product_B7 gr v0 v1 r7 v2) := by
  unfold X4_product_B7
  refine zco_p tkX4_product 5 2 (pc' := 11) (L' := [(0, .ref v0), (1, .int v1), (2, .int v2)]) (S' := [.int 1600, .int v2]) rfl ?_
  refine zco_icmp_ge (tgt := 89) (zdk (cc := cX4_product) (q := (11, .if_icmp .ge 78, 3)) tkX4_product 7 rfl) rfl ?_ ?_
  · exact zco_vret rfl rfl rfl (zdk (cc := cX4_product) (q := (89, .return_, 1)) tkX4_product 41 rfl)
  · refine zco_p tkX4_product 8 1 (pc' := 15) (L' := [(0, .ref v0), (1, .int v1), (2, .int v2)]) (S' := [.ref v0]) rfl ?_
    refine zco_gr fl_4_25 rfl (zdk (cc := cX4_product) (q := (15, .getfield 25, 3)) tkX4_product 9 rfl) (fun x1 => ?_)
    refine zco_Vi (rc := 0) (rs := 0) (mc := 0) (ms := 0) (As := []) (S := []) vmX9_sound (mtX9_sound l e (by omega) x1) q_849 rfl rfl (Nat.le_of_ble_eq_true rfl) (zdk (cc := cX4_product) (q := (18, .invokevirtual 89, 3)) tkX4_product 10 rfl) (fun y2 => ?_)
    refine zco_if_eq (tgt := 89) (zdk (cc := cX4_product) (q := (21, .ifCond .eq 68, 3)) tkX4_product 11 rfl) rfl ?_ ?_
    · exact zco_vret rfl rfl rfl (zdk (cc := cX4_product) (q := (89, .return_, 1)) tkX4_product 41 rfl)
    · refine zco_p tkX4_product 12 1 (pc' := 25) (L' := [(0, .ref v0), (1, .int v1), (2, .int v2)]) (S' := [.ref v0]) rfl ?_
      refine zco_gr fl_4_25 rfl (zdk (cc := cX4_product) (q := (25, .getfield 25, 3)) tkX4_product 13 rfl) (fun x3 => ?_)
      refine zco_p tkX4_product 14 1 (pc' := 30) (L' := [(0, .ref v0), (1, .int v1), (2, .int v2)]) (S' := [.int 42, .ref x3]) rfl ?_
      refine zco_Vi (rc := 0) (rs := 0) (mc := 0) (ms := 0) (As := [.int 42]) (S := []) vmX9_takeSign (mtX9_takeSign l e (by omega) x3 42) q_851 rfl rfl (Nat.le_of_ble_eq_true rfl) (zdk (cc := cX4_product) (q := (30, .invokevirtual 71, 3)) tkX4_product 15 rfl) (fun y4 => ?_)
      refine zco_if_eq (tgt := 42) (zdk (cc := cX4_product) (q := (33, .ifCond .eq 9, 3)) tkX4_product 16 rfl) rfl ?_ ?_
      · refine zco_p tkX4_product 19 1 (pc' := 43) (L' := [(0, .ref v0), (1, .int v1), (2, .int v2)]) (S' := [.ref v0]) rfl ?_
        refine zco_gr fl_4_25 rfl (zdk (cc := cX4_product) (q := (43, .getfield 25, 3)) tkX4_product 20 rfl) (fun x5 => ?_)
        refine zco_p tkX4_product 21 1 (pc' := 48) (L' := [(0, .ref v0), (1, .int v1), (2, .int v2)]) (S' := [.int 47, .ref x5]) rfl ?_
        refine zco_Vi (rc := 0) (rs := 0) (mc := 0) (ms := 0) (As := [.int 47]) (S := []) vmX9_takeSign (mtX9_takeSign l e (by omega) x5 47) q_851 rfl rfl (Nat.le_of_ble_eq_true rfl) (zdk (cc := cX4_product) (q := (48, .invokevirtual 71, 3)) tkX4_product 22 rfl) (fun y6 => ?_)
        refine zco_if_eq (tgt := 60) (zdk (cc := cX4_product) (q := (51, .ifCond .eq 9, 3)) tkX4_product 23 rfl) rfl ?_ ?_
        · refine zco_p tkX4_product 26 1 (pc' := 61) (L' := [(0, .ref v0), (1, .int v1), (2, .int v2)]) (S' := [.int ((-1))]) rfl ?_
          exact zco_sub [0, 1, 2] rfl (coX4_product_J61 l e he gr hgr v0 v1 v2 r7 hr7 ((-1)))
        · refine zco_p tkX4_product 24 2 (pc' := 61) (L' := [(0, .ref v0), (1, .int v1), (2, .int v2)]) (S' := [.int 20004]) rfl ?_
          exact zco_sub [0, 1, 2] rfl (coX4_product_J61 l e he gr hgr v0 v1 v2 r7 hr7 20004)
      · refine zco_p tkX4_product 17 2 (pc' := 61) (L' := [(0, .ref v0), (1, .int v1), (2, .int v2)]) (S' := [.int 20003]) rfl ?_
        exact zco_sub [0, 1, 2] rfl (coX4_product_J61 l e he gr hgr v0 v1 v2 r7 hr7 20003)
set_option maxHeartbeats 2000000 in
set_option maxRecDepth 20000 in
theorem coX4_product_E (l : Launch) (e : Nat) (he : 2 ≤ e) (gr : Nat → Nat → Int32 → Int32 → Int32 → zM) (hgr : zGr l e gr) (v0 : Nat) (v1 : Int32) : zCo l (e + 1) 0 0 iX4_product 0 [(0, .ref v0), (1, .int v1)] [] (X4_product_E gr v0 v1) := by
  unfold X4_product_E
  refine zco_p tkX4_product 0 2 (pc' := 2) (L' := [(0, .ref v0), (1, .int v1)]) (S' := [.int v1, .ref v0]) rfl ?_
  refine zco_Vv (rc := 0) (rs := 0) (mc := 0) (ms := 0) (As := [.int v1]) (S := []) vmX4_oneOf (hgr.2.2.2.2.2.1 v0 v1) q_870 rfl rfl (Nat.le_of_ble_eq_true rfl) (zdk (cc := cX4_product) (q := (2, .invokevirtual 100, 3)) tkX4_product 2 rfl) ?_
  refine zco_p tkX4_product 3 2 (pc' := 7) (L' := [(2, .int 0), (0, .ref v0), (1, .int v1)]) (S' := []) rfl ?_
  exact zco_sub [1, 2, 0] rfl (zco_fix (Lf := fun x : Int32 => [(0, .ref v0), (1, .int v1), (2, .int x)]) (Sf := fun _ => []) (fun r hr x => coX4_product_B7 l e he gr hgr v0 v1 r hr x) zFU 0)
set_option maxHeartbeats 2000000 in
set_option maxRecDepth 20000 in
theorem coX4_oneOf_J219 (l : Launch) (e : Nat) (he : 10 ≤ e) (gr : Nat → Nat → Int32 → Int32 → Int32 → zM) (hgr : zGr l e gr) (v0 : Nat) (v2 : Int32) : zCo l (e + 1) 0 0 iX4_oneOf 219 [(0, .ref v0), (2, .int v2)] [] (X4_oneOf_J219 gr v0 v2) := by
  unfold X4_oneOf_J219
  refine zco_p tkX4_oneOf 103 1 (pc' := 220) (L' := [(0, .ref v0), (2, .int v2)]) (S' := [.ref v0]) rfl ?_
  refine zco_gr fl_4_25 rfl (zdk (cc := cX4_oneOf) (q := (220, .getfield 25, 3)) tkX4_oneOf 104 rfl) (fun x1 => ?_)
  refine zco_p tkX4_oneOf 105 2 (pc' := 225) (L' := [(0, .ref v0), (2, .int v2)]) (S' := [.int v2, .int 1, .ref x1]) rfl ?_
  refine zco_Vv (rc := 0) (rs := 0) (mc := 0) (ms := 0) (As := [.int 1, .int v2]) (S := []) vmX9_fail (mtX9_fail l e (by omega) x1 1 v2) q_848 rfl rfl (Nat.le_of_ble_eq_true rfl) (zdk (cc := cX4_oneOf) (q := (225, .invokevirtual 93, 3)) tkX4_oneOf 107 rfl) ?_
  refine zco_p tkX4_oneOf 108 1 (pc' := 250) (L' := [(0, .ref v0), (2, .int v2)]) (S' := []) rfl ?_
  exact zco_vret rfl rfl rfl (zdk (cc := cX4_oneOf) (q := (250, .return_, 1)) tkX4_oneOf 118 rfl)
set_option maxHeartbeats 2000000 in
set_option maxRecDepth 20000 in
theorem coX4_oneOf_J191 (l : Launch) (e : Nat) (he : 10 ≤ e) (gr : Nat → Nat → Int32 → Int32 → Int32 → zM) (hgr : zGr l e gr) (v0 : Nat) (v2 : Int32) : zCo l (e + 1) 0 0 iX4_oneOf 191 [(0, .ref v0), (2, .int v2)] [] (X4_oneOf_J191 gr v0 v2) := by
  unfold X4_oneOf_J191
  refine zco_p tkX4_oneOf 87 1 (pc' := 192) (L' := [(0, .ref v0), (2, .int v2)]) (S' := [.ref v0]) rfl ?_
  refine zco_gr fl_4_25 rfl (zdk (cc := cX4_oneOf) (q := (192, .getfield 25, 3)) tkX4_oneOf 88 rfl) (fun x1 => ?_)
  refine zco_p tkX4_oneOf 89 1 (pc' := 196) (L' := [(0, .ref v0), (2, .int v2)]) (S' := [.ref v0, .ref x1]) rfl ?_
  refine zco_gr fl_4_11 rfl (zdk (cc := cX4_oneOf) (q := (196, .getfield 11, 3)) tkX4_oneOf 90 rfl) (fun x2 => ?_)
  refine zco_Vi (rc := 0) (rs := 0) (mc := 0) (ms := 0) (As := [.ref x2]) (S := []) vmX9_wordIn (mtX9_wordIn l e (by omega) x1 x2) q_889 rfl rfl (Nat.le_of_ble_eq_true rfl) (zdk (cc := cX4_oneOf) (q := (199, .invokevirtual 129, 3)) tkX4_oneOf 91 rfl) (fun y3 => ?_)
  refine zco_p tkX4_oneOf 92 3 (pc' := 205) (L' := [(3, .int y3), (0, .ref v0), (2, .int v2)]) (S' := [.int ((-1)), .int y3]) rfl ?_
  refine zco_icmp_eq (tgt := 219) (zdk (cc := cX4_oneOf) (q := (205, .if_icmp .eq 14, 3)) tkX4_oneOf 95 rfl) rfl ?_ ?_
  · exact zco_sub [1, 2] rfl (coX4_oneOf_J219 l e he gr hgr v0 v2)
  · refine zco_p tkX4_oneOf 96 1 (pc' := 209) (L' := [(3, .int y3), (0, .ref v0), (2, .int v2)]) (S' := [.ref v0]) rfl ?_
    refine zco_gi fl_4_17 rfl (zdk (cc := cX4_oneOf) (q := (209, .getfield 17, 3)) tkX4_oneOf 97 rfl) (fun x4 => ?_)
    refine zco_p tkX4_oneOf 98 4 (pc' := 216) (L' := [(3, .int y3), (0, .ref v0), (2, .int v2)]) (S' := [.int ((x4 >>> (y3 &&& 31)) &&& 1)]) rfl ?_
    refine zco_if_ne (tgt := 231) (zdk (cc := cX4_oneOf) (q := (216, .ifCond .ne 15, 3)) tkX4_oneOf 102 rfl) rfl ?_ ?_
    · refine zco_p tkX4_oneOf 109 1 (pc' := 232) (L' := [(3, .int y3), (0, .ref v0), (2, .int v2)]) (S' := [.ref v0]) rfl ?_
      refine zco_gr fl_4_25 rfl (zdk (cc := cX4_oneOf) (q := (232, .getfield 25, 3)) tkX4_oneOf 110 rfl) (fun x5 => ?_)
      refine zco_Vv (rc := 0) (rs := 0) (mc := 0) (ms := 0) (As := []) (S := []) vmX9_passWord (mtX9_passWord l e (by omega) x5) q_890 rfl rfl (Nat.le_of_ble_eq_true rfl) (zdk (cc := cX4_oneOf) (q := (235, .invokevirtual 133, 3)) tkX4_oneOf 111 rfl) ?_
      refine zco_p tkX4_oneOf 112 1 (pc' := 239) (L' := [(3, .int y3), (0, .ref v0), (2, .int v2)]) (S' := [.ref v0]) rfl ?_
      refine zco_gr fl_4_29 rfl (zdk (cc := cX4_oneOf) (q := (239, .getfield 29, 3)) tkX4_oneOf 113 rfl) (fun x6 => ?_)
      refine zco_p tkX4_oneOf 114 3 (pc' := 247) (L' := [(3, .int y3), (0, .ref v0), (2, .int v2)]) (S' := [.int (10000 + y3), .ref x6]) rfl ?_
      refine zco_Vv (rc := 0) (rs := 0) (mc := 0) (ms := 0) (As := [.int (10000 + y3)]) (S := []) vmX3_put (mtX3_put l e (by omega) x6 (10000 + y3)) q_850 rfl rfl (Nat.le_of_ble_eq_true rfl) (zdk (cc := cX4_oneOf) (q := (247, .invokevirtual 51, 3)) tkX4_oneOf 117 rfl) ?_
      exact zco_vret rfl rfl rfl (zdk (cc := cX4_oneOf) (q := (250, .return_, 1)) tkX4_oneOf 118 rfl)
    · exact zco_sub [1, 2] rfl (coX4_oneOf_J219 l e he gr hgr v0 v2)
set_option maxHeartbeats 2000000 in
set_option maxRecDepth 20000 in
theorem coX4_oneOf_J160 (l : Launch) (e : Nat) (he : 10 ≤ e) (gr : Nat → Nat → Int32 → Int32 → Int32 → zM) (hgr : zGr l e gr) (v0 : Nat) (v1 : Int32) (v2 : Int32) : zCo l (e + 1) 0 0 iX4_oneOf 160 [(0, .ref v0), (1, .int v1), (2, .int v2)] [] (X4_oneOf_J160 gr v0 v1 v2) := by
  unfold X4_oneOf_J160
  refine zco_p tkX4_oneOf 73 1 (pc' := 161) (L' := [(0, .ref v0), (1, .int v1), (2, .int v2)]) (S' := [.ref v0]) rfl ?_
  refine zco_gi fl_4_21 rfl (zdk (cc := cX4_oneOf) (q := (161, .getfield 21, 3)) tkX4_oneOf 74 rfl) (fun x1 => ?_)
  refine zco_if_eq (tgt := 191) (zdk (cc := cX4_oneOf) (q := (164, .ifCond .eq 27, 3)) tkX4_oneOf 75 rfl) rfl ?_ ?_
  · exact zco_sub [0, 2] rfl (coX4_oneOf_J191 l e he gr hgr v0 v2)
  · refine zco_p tkX4_oneOf 76 1 (pc' := 168) (L' := [(0, .ref v0), (1, .int v1), (2, .int v2)]) (S' := [.ref v0]) rfl ?_
    refine zco_gr fl_4_25 rfl (zdk (cc := cX4_oneOf) (q := (168, .getfield 25, 3)) tkX4_oneOf 77 rfl) (fun x2 => ?_)
    refine zco_ldcS (i := 11) rfl (zdk (cc := cX4_oneOf) (q := (171, .ldc 127, 2)) tkX4_oneOf 78 rfl) ?_
    refine zco_Vi (rc := 0) (rs := 0) (mc := 0) (ms := 0) (As := [.ref (zB + 11)]) (S := []) vmX9_takeWord (mtX9_takeWord l e (by omega) x2 (zB + 11)) q_843 rfl rfl (Nat.le_of_ble_eq_true rfl) (zdk (cc := cX4_oneOf) (q := (173, .invokevirtual 45, 3)) tkX4_oneOf 79 rfl) (fun y3 => ?_)
    refine zco_if_eq (tgt := 191) (zdk (cc := cX4_oneOf) (q := (176, .ifCond .eq 15, 3)) tkX4_oneOf 80 rfl) rfl ?_ ?_
    · exact zco_sub [0, 2] rfl (coX4_oneOf_J191 l e he gr hgr v0 v2)
    · refine zco_p tkX4_oneOf 81 4 (pc' := 185) (L' := [(0, .ref v0), (1, .int v1), (2, .int v2)]) (S' := [.int 30003, .int v2, .int v1, .ref v0]) rfl ?_
      refine zco_Vv (rc := 0) (rs := 0) (mc := 0) (ms := 0) (As := [.int v1, .int v2, .int 30003]) (S := []) vmX4_ofAnother (hgr.2.2.2.2.2.2.2 v0 v1 v2 30003) q_884 rfl rfl (Nat.le_of_ble_eq_true rfl) (zdk (cc := cX4_oneOf) (q := (185, .invokevirtual 123, 3)) tkX4_oneOf 85 rfl) ?_
      refine zco_p tkX4_oneOf 86 1 (pc' := 250) (L' := [(0, .ref v0), (1, .int v1), (2, .int v2)]) (S' := []) rfl ?_
      exact zco_vret rfl rfl rfl (zdk (cc := cX4_oneOf) (q := (250, .return_, 1)) tkX4_oneOf 118 rfl)
set_option maxHeartbeats 2000000 in
set_option maxRecDepth 20000 in
theorem coX4_oneOf_E (l : Launch) (e : Nat) (he : 10 ≤ e) (gr : Nat → Nat → Int32 → Int32 → Int32 → zM) (hgr : zGr l e gr) (v0 : Nat) (v1 : Int32) : zCo l (e + 1) 0 0 iX4_oneOf 0 [(0, .ref v0), (1, .int v1)] [] (X4_oneOf_E gr v0 v1) := by
  unfold X4_oneOf_E
  refine zco_p tkX4_oneOf 0 1 (pc' := 1) (L' := [(0, .ref v0), (1, .int v1)]) (S' := [.ref v0]) rfl ?_
  refine zco_gr fl_4_25 rfl (zdk (cc := cX4_oneOf) (q := (1, .getfield 25, 3)) tkX4_oneOf 1 rfl) (fun x1 => ?_)
  refine zco_Vi (rc := 0) (rs := 0) (mc := 0) (ms := 0) (As := []) (S := []) vmX9_begin (mtX9_begin l e (by omega) x1) q_841 rfl rfl (Nat.le_of_ble_eq_true rfl) (zdk (cc := cX4_oneOf) (q := (4, .invokevirtual 61, 3)) tkX4_oneOf 2 rfl) (fun y2 => ?_)
  refine zco_p tkX4_oneOf 3 2 (pc' := 9) (L' := [(2, .int y2), (0, .ref v0), (1, .int v1)]) (S' := [.ref v0]) rfl ?_
  refine zco_gr fl_4_25 rfl (zdk (cc := cX4_oneOf) (q := (9, .getfield 25, 3)) tkX4_oneOf 5 rfl) (fun x3 => ?_)
  refine zco_p tkX4_oneOf 6 1 (pc' := 13) (L' := [(2, .int y2), (0, .ref v0), (1, .int v1)]) (S' := [.int y2, .ref x3]) rfl ?_
  refine zco_Vi (rc := 0) (rs := 0) (mc := 0) (ms := 0) (As := [.int y2]) (S := []) vmX9_byteAt (mtX9_byteAt l e (by omega) x3 y2) q_874 rfl rfl (Nat.le_of_ble_eq_true rfl) (zdk (cc := cX4_oneOf) (q := (13, .invokevirtual 103, 3)) tkX4_oneOf 7 rfl) (fun y4 => ?_)
  refine zco_Ni (rc := 0) (rs := 0) (mc := 0) (ms := 0) (As := [.int y4]) (S := []) vmX11_isDigit (mtX11_isDigit l e (by omega) y4) (host := "ClothWedding") (by decide +kernel) rfl rfl (Nat.le_of_ble_eq_true rfl) (zdk (cc := cX4_oneOf) (q := (16, .invokestatic 107, 3)) tkX4_oneOf 8 rfl) (fun y5 => ?_)
  refine zco_if_eq (tgt := 43) (zdk (cc := cX4_oneOf) (q := (19, .ifCond .eq 24, 3)) tkX4_oneOf 9 rfl) rfl ?_ ?_
  · refine zco_p tkX4_oneOf 19 1 (pc' := 44) (L' := [(2, .int y2), (0, .ref v0), (1, .int v1)]) (S' := [.ref v0]) rfl ?_
    refine zco_gr fl_4_25 rfl (zdk (cc := cX4_oneOf) (q := (44, .getfield 25, 3)) tkX4_oneOf 20 rfl) (fun x6 => ?_)
    refine zco_p tkX4_oneOf 21 1 (pc' := 49) (L' := [(2, .int y2), (0, .ref v0), (1, .int v1)]) (S' := [.int 40, .ref x6]) rfl ?_
    refine zco_Vi (rc := 0) (rs := 0) (mc := 0) (ms := 0) (As := [.int 40]) (S := []) vmX9_takeSign (mtX9_takeSign l e (by omega) x6 40) q_851 rfl rfl (Nat.le_of_ble_eq_true rfl) (zdk (cc := cX4_oneOf) (q := (49, .invokevirtual 71, 3)) tkX4_oneOf 22 rfl) (fun y7 => ?_)
    refine zco_if_eq (tgt := 83) (zdk (cc := cX4_oneOf) (q := (52, .ifCond .eq 31, 3)) tkX4_oneOf 23 rfl) rfl ?_ ?_
    · refine zco_p tkX4_oneOf 39 1 (pc' := 84) (L' := [(2, .int y2), (0, .ref v0), (1, .int v1)]) (S' := [.ref v0]) rfl ?_
      refine zco_gr fl_4_25 rfl (zdk (cc := cX4_oneOf) (q := (84, .getfield 25, 3)) tkX4_oneOf 40 rfl) (fun x8 => ?_)
      refine zco_ldcS (i := 8) rfl (zdk (cc := cX4_oneOf) (q := (87, .ldc 114, 2)) tkX4_oneOf 41 rfl) ?_
      refine zco_Vi (rc := 0) (rs := 0) (mc := 0) (ms := 0) (As := [.ref (zB + 8)]) (S := []) vmX9_takeWord (mtX9_takeWord l e (by omega) x8 (zB + 8)) q_843 rfl rfl (Nat.le_of_ble_eq_true rfl) (zdk (cc := cX4_oneOf) (q := (89, .invokevirtual 45, 3)) tkX4_oneOf 42 rfl) (fun y9 => ?_)
      refine zco_if_eq (tgt := 106) (zdk (cc := cX4_oneOf) (q := (92, .ifCond .eq 14, 3)) tkX4_oneOf 43 rfl) rfl ?_ ?_
      · refine zco_p tkX4_oneOf 49 1 (pc' := 107) (L' := [(2, .int y2), (0, .ref v0), (1, .int v1)]) (S' := [.ref v0]) rfl ?_
        refine zco_gr fl_4_25 rfl (zdk (cc := cX4_oneOf) (q := (107, .getfield 25, 3)) tkX4_oneOf 50 rfl) (fun x10 => ?_)
        refine zco_ldcS (i := 9) rfl (zdk (cc := cX4_oneOf) (q := (110, .ldc 119, 2)) tkX4_oneOf 51 rfl) ?_
        refine zco_Vi (rc := 0) (rs := 0) (mc := 0) (ms := 0) (As := [.ref (zB + 9)]) (S := []) vmX9_takeWord (mtX9_takeWord l e (by omega) x10 (zB + 9)) q_843 rfl rfl (Nat.le_of_ble_eq_true rfl) (zdk (cc := cX4_oneOf) (q := (112, .invokevirtual 45, 3)) tkX4_oneOf 52 rfl) (fun y11 => ?_)
        refine zco_if_eq (tgt := 129) (zdk (cc := cX4_oneOf) (q := (115, .ifCond .eq 14, 3)) tkX4_oneOf 53 rfl) rfl ?_ ?_
        · refine zco_p tkX4_oneOf 59 1 (pc' := 130) (L' := [(2, .int y2), (0, .ref v0), (1, .int v1)]) (S' := [.ref v0]) rfl ?_
          refine zco_gi fl_4_21 rfl (zdk (cc := cX4_oneOf) (q := (130, .getfield 21, 3)) tkX4_oneOf 60 rfl) (fun x12 => ?_)
          refine zco_if_eq (tgt := 160) (zdk (cc := cX4_oneOf) (q := (133, .ifCond .eq 27, 3)) tkX4_oneOf 61 rfl) rfl ?_ ?_
          · exact zco_sub [1, 2, 0] rfl (coX4_oneOf_J160 l e he gr hgr v0 v1 y2)
          · refine zco_p tkX4_oneOf 62 1 (pc' := 137) (L' := [(2, .int y2), (0, .ref v0), (1, .int v1)]) (S' := [.ref v0]) rfl ?_
            refine zco_gr fl_4_25 rfl (zdk (cc := cX4_oneOf) (q := (137, .getfield 25, 3)) tkX4_oneOf 63 rfl) (fun x13 => ?_)
            refine zco_ldcS (i := 10) rfl (zdk (cc := cX4_oneOf) (q := (140, .ldc 121, 2)) tkX4_oneOf 64 rfl) ?_
            refine zco_Vi (rc := 0) (rs := 0) (mc := 0) (ms := 0) (As := [.ref (zB + 10)]) (S := []) vmX9_takeWord (mtX9_takeWord l e (by omega) x13 (zB + 10)) q_843 rfl rfl (Nat.le_of_ble_eq_true rfl) (zdk (cc := cX4_oneOf) (q := (142, .invokevirtual 45, 3)) tkX4_oneOf 65 rfl) (fun y14 => ?_)
            refine zco_if_eq (tgt := 160) (zdk (cc := cX4_oneOf) (q := (145, .ifCond .eq 15, 3)) tkX4_oneOf 66 rfl) rfl ?_ ?_
            · exact zco_sub [1, 2, 0] rfl (coX4_oneOf_J160 l e he gr hgr v0 v1 y2)
            · refine zco_p tkX4_oneOf 67 4 (pc' := 154) (L' := [(2, .int y2), (0, .ref v0), (1, .int v1)]) (S' := [.int 30002, .int y2, .int v1, .ref v0]) rfl ?_
              refine zco_Vv (rc := 0) (rs := 0) (mc := 0) (ms := 0) (As := [.int v1, .int y2, .int 30002]) (S := []) vmX4_ofAnother (hgr.2.2.2.2.2.2.2 v0 v1 y2 30002) q_884 rfl rfl (Nat.le_of_ble_eq_true rfl) (zdk (cc := cX4_oneOf) (q := (154, .invokevirtual 123, 3)) tkX4_oneOf 71 rfl) ?_
              refine zco_p tkX4_oneOf 72 1 (pc' := 250) (L' := [(2, .int y2), (0, .ref v0), (1, .int v1)]) (S' := []) rfl ?_
              exact zco_vret rfl rfl rfl (zdk (cc := cX4_oneOf) (q := (250, .return_, 1)) tkX4_oneOf 118 rfl)
        · refine zco_p tkX4_oneOf 54 3 (pc' := 123) (L' := [(2, .int y2), (0, .ref v0), (1, .int v1)]) (S' := [.int 20006, .int v1, .ref v0]) rfl ?_
          refine zco_Vv (rc := 0) (rs := 0) (mc := 0) (ms := 0) (As := [.int v1, .int 20006]) (S := []) vmX4_ofTwoSums (hgr.2.2.2.2.2.2.1 v0 v1 20006) q_878 rfl rfl (Nat.le_of_ble_eq_true rfl) (zdk (cc := cX4_oneOf) (q := (123, .invokevirtual 116, 3)) tkX4_oneOf 57 rfl) ?_
          refine zco_p tkX4_oneOf 58 1 (pc' := 250) (L' := [(2, .int y2), (0, .ref v0), (1, .int v1)]) (S' := []) rfl ?_
          exact zco_vret rfl rfl rfl (zdk (cc := cX4_oneOf) (q := (250, .return_, 1)) tkX4_oneOf 118 rfl)
      · refine zco_p tkX4_oneOf 44 3 (pc' := 100) (L' := [(2, .int y2), (0, .ref v0), (1, .int v1)]) (S' := [.int 20005, .int v1, .ref v0]) rfl ?_
        refine zco_Vv (rc := 0) (rs := 0) (mc := 0) (ms := 0) (As := [.int v1, .int 20005]) (S := []) vmX4_ofTwoSums (hgr.2.2.2.2.2.2.1 v0 v1 20005) q_878 rfl rfl (Nat.le_of_ble_eq_true rfl) (zdk (cc := cX4_oneOf) (q := (100, .invokevirtual 116, 3)) tkX4_oneOf 47 rfl) ?_
        refine zco_p tkX4_oneOf 48 1 (pc' := 250) (L' := [(2, .int y2), (0, .ref v0), (1, .int v1)]) (S' := []) rfl ?_
        exact zco_vret rfl rfl rfl (zdk (cc := cX4_oneOf) (q := (250, .return_, 1)) tkX4_oneOf 118 rfl)
    · refine zco_p tkX4_oneOf 24 3 (pc' := 58) (L' := [(2, .int y2), (0, .ref v0), (1, .int v1)]) (S' := [.int y2, .int v1, .ref v0]) rfl ?_
      refine zco_Vi (rc := 0) (rs := 0) (mc := 0) (ms := 0) (As := [.int v1, .int y2]) (S := []) vmX4_mayOpen (mtX4_mayOpen l e (by omega) v0 v1 y2) q_844 rfl rfl (Nat.le_of_ble_eq_true rfl) (zdk (cc := cX4_oneOf) (q := (58, .invokevirtual 67, 3)) tkX4_oneOf 27 rfl) (fun y15 => ?_)
      refine zco_if_eq (tgt := 250) (zdk (cc := cX4_oneOf) (q := (61, .ifCond .eq 189, 3)) tkX4_oneOf 28 rfl) rfl ?_ ?_
      · exact zco_vret rfl rfl rfl (zdk (cc := cX4_oneOf) (q := (250, .return_, 1)) tkX4_oneOf 118 rfl)
      · refine zco_p tkX4_oneOf 29 4 (pc' := 68) (L' := [(2, .int y2), (0, .ref v0), (1, .int v1)]) (S' := [.int (v1 + 1), .ref v0]) rfl ?_
        refine zco_Vv (rc := 0) (rs := 0) (mc := 0) (ms := 0) (As := [.int (v1 + 1)]) (S := []) vmX4_sum (hgr.2.2.2.1 v0 (v1 + 1)) q_862 rfl rfl (Nat.le_of_ble_eq_true rfl) (zdk (cc := cX4_oneOf) (q := (68, .invokevirtual 83, 3)) tkX4_oneOf 33 rfl) ?_
        refine zco_p tkX4_oneOf 34 1 (pc' := 72) (L' := [(2, .int y2), (0, .ref v0), (1, .int v1)]) (S' := [.ref v0]) rfl ?_
        refine zco_gr fl_4_25 rfl (zdk (cc := cX4_oneOf) (q := (72, .getfield 25, 3)) tkX4_oneOf 35 rfl) (fun x16 => ?_)
        refine zco_p tkX4_oneOf 36 1 (pc' := 77) (L' := [(2, .int y2), (0, .ref v0), (1, .int v1)]) (S' := [.int 41, .ref x16]) rfl ?_
        refine zco_Vv (rc := 0) (rs := 0) (mc := 0) (ms := 0) (As := [.int 41]) (S := []) vmX9_needSign (mtX9_needSign l e (by omega) x16 41) q_856 rfl rfl (Nat.le_of_ble_eq_true rfl) (zdk (cc := cX4_oneOf) (q := (77, .invokevirtual 78, 3)) tkX4_oneOf 37 rfl) ?_
        refine zco_p tkX4_oneOf 38 1 (pc' := 250) (L' := [(2, .int y2), (0, .ref v0), (1, .int v1)]) (S' := []) rfl ?_
        exact zco_vret rfl rfl rfl (zdk (cc := cX4_oneOf) (q := (250, .return_, 1)) tkX4_oneOf 118 rfl)
  · refine zco_p tkX4_oneOf 10 1 (pc' := 23) (L' := [(2, .int y2), (0, .ref v0), (1, .int v1)]) (S' := [.ref v0]) rfl ?_
    refine zco_gr fl_4_29 rfl (zdk (cc := cX4_oneOf) (q := (23, .getfield 29, 3)) tkX4_oneOf 11 rfl) (fun x17 => ?_)
    refine zco_p tkX4_oneOf 12 1 (pc' := 27) (L' := [(2, .int y2), (0, .ref v0), (1, .int v1)]) (S' := [.ref v0, .ref x17]) rfl ?_
    refine zco_gr fl_4_25 rfl (zdk (cc := cX4_oneOf) (q := (27, .getfield 25, 3)) tkX4_oneOf 13 rfl) (fun x18 => ?_)
    refine zco_p tkX4_oneOf 14 2 (pc' := 34) (L' := [(2, .int y2), (0, .ref v0), (1, .int v1)]) (S' := [.int 9999, .int 0, .ref x18, .ref x17]) rfl ?_
    refine zco_Vi (rc := 0) (rs := 0) (mc := 0) (ms := 0) (As := [.int 0, .int 9999]) (S := [.ref x17]) vmX9_takeNumber (mtX9_takeNumber l e (by omega) x18 0 9999) q_876 rfl rfl (Nat.le_of_ble_eq_true rfl) (zdk (cc := cX4_oneOf) (q := (34, .invokevirtual 110, 3)) tkX4_oneOf 16 rfl) (fun y19 => ?_)
    refine zco_Vv (rc := 0) (rs := 0) (mc := 0) (ms := 0) (As := [.int y19]) (S := []) vmX3_put (mtX3_put l e (by omega) x17 y19) q_850 rfl rfl (Nat.le_of_ble_eq_true rfl) (zdk (cc := cX4_oneOf) (q := (37, .invokevirtual 51, 3)) tkX4_oneOf 17 rfl) ?_
    refine zco_p tkX4_oneOf 18 1 (pc' := 250) (L' := [(2, .int y2), (0, .ref v0), (1, .int v1)]) (S' := []) rfl ?_
    exact zco_vret rfl rfl rfl (zdk (cc := cX4_oneOf) (q := (250, .return_, 1)) tkX4_oneOf 118 rfl)
set_option maxHeartbeats 2000000 in
set_option maxRecDepth 20000 in
theorem coX4_ofTwoSums_J42 (l : Launch) (e : Nat) (he : 3 ≤ e) (gr : Nat → Nat → Int32 → Int32 → Int32 → zM) (hgr : zGr l e gr) (v0 : Nat) (v1 : Int32) (v2 : Int32) : zCo l (e + 1) 0 0 iX4_ofTwoSums 42 [(0, .ref v0), (1, .int v1), (2, .int v2)] [] (X4_ofTwoSums_J42 gr v0 v1 v2) := by
  unfold X4_ofTwoSums_J42
  refine zco_p tkX4_ofTwoSums 22 1 (pc' := 43) (L' := [(0, .ref v0), (1, .int v1), (2, .int v2)]) (S' := [.ref v0]) rfl ?_
  refine zco_gr fl_4_25 rfl (zdk (cc := cX4_ofTwoSums) (q := (43, .getfield 25, 3)) tkX4_ofTwoSums 23 rfl) (fun x1 => ?_)
  refine zco_Vi (rc := 0) (rs := 0) (mc := 0) (ms := 0) (As := []) (S := []) vmX9_sound (mtX9_sound l e (by omega) x1) q_849 rfl rfl (Nat.le_of_ble_eq_true rfl) (zdk (cc := cX4_ofTwoSums) (q := (46, .invokevirtual 89, 3)) tkX4_ofTwoSums 24 rfl) (fun y2 => ?_)
  refine zco_if_eq (tgt := 76) (zdk (cc := cX4_ofTwoSums) (q := (49, .ifCond .eq 27, 3)) tkX4_ofTwoSums 25 rfl) rfl ?_ ?_
  · exact zco_vret rfl rfl rfl (zdk (cc := cX4_ofTwoSums) (q := (76, .return_, 1)) tkX4_ofTwoSums 39 rfl)
  · refine zco_p tkX4_ofTwoSums 26 4 (pc' := 56) (L' := [(0, .ref v0), (1, .int v1), (2, .int v2)]) (S' := [.int (v1 + 1), .ref v0]) rfl ?_
    refine zco_Vv (rc := 0) (rs := 0) (mc := 0) (ms := 0) (As := [.int (v1 + 1)]) (S := []) vmX4_sum (hgr.2.2.2.1 v0 (v1 + 1)) q_862 rfl rfl (Nat.le_of_ble_eq_true rfl) (zdk (cc := cX4_ofTwoSums) (q := (56, .invokevirtual 83, 3)) tkX4_ofTwoSums 30 rfl) ?_
    refine zco_p tkX4_ofTwoSums 31 1 (pc' := 60) (L' := [(0, .ref v0), (1, .int v1), (2, .int v2)]) (S' := [.ref v0]) rfl ?_
    refine zco_gr fl_4_25 rfl (zdk (cc := cX4_ofTwoSums) (q := (60, .getfield 25, 3)) tkX4_ofTwoSums 32 rfl) (fun x3 => ?_)
    refine zco_p tkX4_ofTwoSums 33 1 (pc' := 65) (L' := [(0, .ref v0), (1, .int v1), (2, .int v2)]) (S' := [.int 41, .ref x3]) rfl ?_
    refine zco_Vv (rc := 0) (rs := 0) (mc := 0) (ms := 0) (As := [.int 41]) (S := []) vmX9_needSign (mtX9_needSign l e (by omega) x3 41) q_856 rfl rfl (Nat.le_of_ble_eq_true rfl) (zdk (cc := cX4_ofTwoSums) (q := (65, .invokevirtual 78, 3)) tkX4_ofTwoSums 34 rfl) ?_
    refine zco_p tkX4_ofTwoSums 35 1 (pc' := 69) (L' := [(0, .ref v0), (1, .int v1), (2, .int v2)]) (S' := [.ref v0]) rfl ?_
    refine zco_gr fl_4_29 rfl (zdk (cc := cX4_ofTwoSums) (q := (69, .getfield 29, 3)) tkX4_ofTwoSums 36 rfl) (fun x4 => ?_)
    refine zco_p tkX4_ofTwoSums 37 1 (pc' := 73) (L' := [(0, .ref v0), (1, .int v1), (2, .int v2)]) (S' := [.int v2, .ref x4]) rfl ?_
    refine zco_Vv (rc := 0) (rs := 0) (mc := 0) (ms := 0) (As := [.int v2]) (S := []) vmX3_put (mtX3_put l e (by omega) x4 v2) q_850 rfl rfl (Nat.le_of_ble_eq_true rfl) (zdk (cc := cX4_ofTwoSums) (q := (73, .invokevirtual 51, 3)) tkX4_ofTwoSums 38 rfl) ?_
    exact zco_vret rfl rfl rfl (zdk (cc := cX4_ofTwoSums) (q := (76, .return_, 1)) tkX4_ofTwoSums 39 rfl)
set_option maxHeartbeats 2000000 in
set_option maxRecDepth 20000 in
theorem coX4_ofTwoSums_E (l : Launch) (e : Nat) (he : 3 ≤ e) (gr : Nat → Nat → Int32 → Int32 → Int32 → zM) (hgr : zGr l e gr) (v0 : Nat) (v1 : Int32) (v2 : Int32) : zCo l (e + 1) 0 0 iX4_ofTwoSums 0 [(0, .ref v0), (1, .int v1), (2, .int v2)] [] (X4_ofTwoSums_E gr v0 v1 v2) := by
  unfold X4_ofTwoSums_E
  refine zco_p tkX4_ofTwoSums 0 1 (pc' := 1) (L' := [(0, .ref v0), (1, .int v1), (2, .int v2)]) (S' := [.ref v0]) rfl ?_
  refine zco_gr fl_4_25 rfl (zdk (cc := cX4_ofTwoSums) (q := (1, .getfield 25, 3)) tkX4_ofTwoSums 1 rfl) (fun x1 => ?_)
  refine zco_Vi (rc := 0) (rs := 0) (mc := 0) (ms := 0) (As := []) (S := []) vmX9_begin (mtX9_begin l e (by omega) x1) q_841 rfl rfl (Nat.le_of_ble_eq_true rfl) (zdk (cc := cX4_ofTwoSums) (q := (4, .invokevirtual 61, 3)) tkX4_ofTwoSums 2 rfl) (fun y2 => ?_)
  refine zco_p tkX4_ofTwoSums 3 2 (pc' := 9) (L' := [(3, .int y2), (0, .ref v0), (1, .int v1), (2, .int v2)]) (S' := [.ref v0]) rfl ?_
  refine zco_gr fl_4_25 rfl (zdk (cc := cX4_ofTwoSums) (q := (9, .getfield 25, 3)) tkX4_ofTwoSums 5 rfl) (fun x3 => ?_)
  refine zco_p tkX4_ofTwoSums 6 1 (pc' := 14) (L' := [(3, .int y2), (0, .ref v0), (1, .int v1), (2, .int v2)]) (S' := [.int 40, .ref x3]) rfl ?_
  refine zco_Vv (rc := 0) (rs := 0) (mc := 0) (ms := 0) (As := [.int 40]) (S := []) vmX9_needSign (mtX9_needSign l e (by omega) x3 40) q_856 rfl rfl (Nat.le_of_ble_eq_true rfl) (zdk (cc := cX4_ofTwoSums) (q := (14, .invokevirtual 78, 3)) tkX4_ofTwoSums 7 rfl) ?_
  refine zco_p tkX4_ofTwoSums 8 3 (pc' := 20) (L' := [(3, .int y2), (0, .ref v0), (1, .int v1), (2, .int v2)]) (S' := [.int y2, .int v1, .ref v0]) rfl ?_
  refine zco_Vi (rc := 0) (rs := 0) (mc := 0) (ms := 0) (As := [.int v1, .int y2]) (S := []) vmX4_mayOpen (mtX4_mayOpen l e (by omega) v0 v1 y2) q_844 rfl rfl (Nat.le_of_ble_eq_true rfl) (zdk (cc := cX4_ofTwoSums) (q := (20, .invokevirtual 67, 3)) tkX4_ofTwoSums 11 rfl) (fun y4 => ?_)
  refine zco_if_eq (tgt := 42) (zdk (cc := cX4_ofTwoSums) (q := (23, .ifCond .eq 19, 3)) tkX4_ofTwoSums 12 rfl) rfl ?_ ?_
  · exact zco_sub [1, 2, 3] rfl (coX4_ofTwoSums_J42 l e he gr hgr v0 v1 v2)
  · refine zco_p tkX4_ofTwoSums 13 4 (pc' := 30) (L' := [(3, .int y2), (0, .ref v0), (1, .int v1), (2, .int v2)]) (S' := [.int (v1 + 1), .ref v0]) rfl ?_
    refine zco_Vv (rc := 0) (rs := 0) (mc := 0) (ms := 0) (As := [.int (v1 + 1)]) (S := []) vmX4_sum (hgr.2.2.2.1 v0 (v1 + 1)) q_862 rfl rfl (Nat.le_of_ble_eq_true rfl) (zdk (cc := cX4_ofTwoSums) (q := (30, .invokevirtual 83, 3)) tkX4_ofTwoSums 17 rfl) ?_
    refine zco_p tkX4_ofTwoSums 18 1 (pc' := 34) (L' := [(3, .int y2), (0, .ref v0), (1, .int v1), (2, .int v2)]) (S' := [.ref v0]) rfl ?_
    refine zco_gr fl_4_25 rfl (zdk (cc := cX4_ofTwoSums) (q := (34, .getfield 25, 3)) tkX4_ofTwoSums 19 rfl) (fun x5 => ?_)
    refine zco_p tkX4_ofTwoSums 20 1 (pc' := 39) (L' := [(3, .int y2), (0, .ref v0), (1, .int v1), (2, .int v2)]) (S' := [.int 44, .ref x5]) rfl ?_
    refine zco_Vv (rc := 0) (rs := 0) (mc := 0) (ms := 0) (As := [.int 44]) (S := []) vmX9_needSign (mtX9_needSign l e (by omega) x5 44) q_856 rfl rfl (Nat.le_of_ble_eq_true rfl) (zdk (cc := cX4_ofTwoSums) (q := (39, .invokevirtual 78, 3)) tkX4_ofTwoSums 21 rfl) ?_
    exact zco_sub [1, 2, 3] rfl (coX4_ofTwoSums_J42 l e he gr hgr v0 v1 v2)
set_option maxHeartbeats 2000000 in
set_option maxRecDepth 20000 in
theorem coX4_ofAnother_E (l : Launch) (e : Nat) (he : 2 ≤ e) (gr : Nat → Nat → Int32 → Int32 → Int32 → zM) (hgr : zGr l e gr) (v0 : Nat) (v1 : Int32) (v2 : Int32) (v3 : Int32) : zCo l (e + 1) 0 0 iX4_ofAnother 0 [(0, .ref v0), (1, .int v1), (2, .int v2), (3, .int v3)] [] (X4_ofAnother_E gr v0 v1 v2 v3) := by
  unfold X4_ofAnother_E
  refine zco_p tkX4_ofAnother 0 3 (pc' := 3) (L' := [(0, .ref v0), (1, .int v1), (2, .int v2), (3, .int v3)]) (S' := [.int v2, .int v1, .ref v0]) rfl ?_
  refine zco_Vi (rc := 0) (rs := 0) (mc := 0) (ms := 0) (As := [.int v1, .int v2]) (S := []) vmX4_mayOpen (mtX4_mayOpen l e (by omega) v0 v1 v2) q_844 rfl rfl (Nat.le_of_ble_eq_true rfl) (zdk (cc := cX4_ofAnother) (q := (3, .invokevirtual 67, 3)) tkX4_ofAnother 3 rfl) (fun y1 => ?_)
  refine zco_if_eq (tgt := 24) (zdk (cc := cX4_ofAnother) (q := (6, .ifCond .eq 18, 3)) tkX4_ofAnother 4 rfl) rfl ?_ ?_
  · exact zco_vret rfl rfl rfl (zdk (cc := cX4_ofAnother) (q := (24, .return_, 1)) tkX4_ofAnother 14 rfl)
  · refine zco_p tkX4_ofAnother 5 4 (pc' := 13) (L' := [(0, .ref v0), (1, .int v1), (2, .int v2), (3, .int v3)]) (S' := [.int (v1 + 1), .ref v0]) rfl ?_
    refine zco_Vv (rc := 0) (rs := 0) (mc := 0) (ms := 0) (As := [.int (v1 + 1)]) (S := []) vmX4_oneOf (hgr.2.2.2.2.2.1 v0 (v1 + 1)) q_870 rfl rfl (Nat.le_of_ble_eq_true rfl) (zdk (cc := cX4_ofAnother) (q := (13, .invokevirtual 100, 3)) tkX4_ofAnother 9 rfl) ?_
    refine zco_p tkX4_ofAnother 10 1 (pc' := 17) (L' := [(0, .ref v0), (1, .int v1), (2, .int v2), (3, .int v3)]) (S' := [.ref v0]) rfl ?_
    refine zco_gr fl_4_29 rfl (zdk (cc := cX4_ofAnother) (q := (17, .getfield 29, 3)) tkX4_ofAnother 11 rfl) (fun x2 => ?_)
    refine zco_p tkX4_ofAnother 12 1 (pc' := 21) (L' := [(0, .ref v0), (1, .int v1), (2, .int v2), (3, .int v3)]) (S' := [.int v3, .ref x2]) rfl ?_
    refine zco_Vv (rc := 0) (rs := 0) (mc := 0) (ms := 0) (As := [.int v3]) (S := []) vmX3_put (mtX3_put l e (by omega) x2 v3) q_850 rfl rfl (Nat.le_of_ble_eq_true rfl) (zdk (cc := cX4_ofAnother) (q := (21, .invokevirtual 51, 3)) tkX4_ofAnother 13 rfl) ?_
    exact zco_vret rfl rfl rfl (zdk (cc := cX4_ofAnother) (q := (24, .return_, 1)) tkX4_ofAnother 14 rfl)
theorem mt_gr (l : Launch) : ∀ (n d : Nat), n + 11 ≤ d → zGr l d (zg_run n) := by
  intro n
  induction n with
  | zero =>
    intro d hd
    exact ⟨fun t _ => (by intro G h r h2 hf; cases hf), fun t _ => (by intro G h r h2 hf; cases hf), fun t _ => (by intro G h r h2 hf; cases hf), fun t _ => (by intro G h r h2 hf; cases hf), fun t _ => (by intro G h r h2 hf; cases hf), fun t _ => (by intro G h r h2 hf; cases hf), fun t _ _ => (by intro G h r h2 hf; cases hf), fun t _ _ _ => (by intro G h r h2 hf; cases hf)⟩
  | succ n ih =>
    intro d hd
    obtain ⟨e, rfl⟩ : ∃ e, d = e + 1 := ⟨d - 1, by omega⟩
    exact ⟨fun t a => zmet_of (own := RX4) (ini := false) (by decide +kernel) rfl (fun _ => by contradiction) (Nat.le_of_ble_eq_true rfl) (coX4_test_E l e (by omega) (zg_run n) (ih e (by omega)) t a), fun t a => zmet_of (own := RX4) (ini := false) (by decide +kernel) rfl (fun _ => by contradiction) (Nat.le_of_ble_eq_true rfl) (coX4_both_E l e (by omega) (zg_run n) (ih e (by omega)) t a), fun t a => zmet_of (own := RX4) (ini := false) (by decide +kernel) rfl (fun _ => by contradiction) (Nat.le_of_ble_eq_true rfl) (coX4_oneFact_E l e (by omega) (zg_run n) (ih e (by omega)) t a), fun t a => zmet_of (own := RX4) (ini := false) (by decide +kernel) rfl (fun _ => by contradiction) (Nat.le_of_ble_eq_true rfl) (coX4_sum_E l e (by omega) (zg_run n) (ih e (by omega)) t a), fun t a => zmet_of (own := RX4) (ini := false) (by decide +kernel) rfl (fun _ => by contradiction) (Nat.le_of_ble_eq_true rfl) (coX4_product_E l e (by omega) (zg_run n) (ih e (by omega)) t a), fun t a => zmet_of (own := RX4) (ini := false) (by decide +kernel) rfl (fun _ => by contradiction) (Nat.le_of_ble_eq_true rfl) (coX4_oneOf_E l e (by omega) (zg_run n) (ih e (by omega)) t a), fun t a b => zmet_of (own := RX4) (ini := false) (by decide +kernel) rfl (fun _ => by contradiction) (Nat.le_of_ble_eq_true rfl) (coX4_ofTwoSums_E l e (by omega) (zg_run n) (ih e (by omega)) t a b), fun t a b c => zmet_of (own := RX4) (ini := false) (by decide +kernel) rfl (fun _ => by contradiction) (Nat.le_of_ble_eq_true rfl) (coX4_ofAnother_E l e (by omega) (zg_run n) (ih e (by omega)) t a b c)⟩
theorem mtX4_test (l : Launch) (d : Nat) (hd : 71 ≤ d) (t : Nat) (a : Int32) : zMet l d 0 0 yX4_test cX4_test 3 (Option.none : Option FieldType) [.ref t, .int a] (zg 0 t a 0 0) := (mt_gr l 60 d (by omega)).1 t a
theorem mtX4_both (l : Launch) (d : Nat) (hd : 71 ≤ d) (t : Nat) (a : Int32) : zMet l d 0 0 yX4_both cX4_both 3 (Option.none : Option FieldType) [.ref t, .int a] (zg 1 t a 0 0) := (mt_gr l 60 d (by omega)).2.1 t a
theorem mtX4_oneFact (l : Launch) (d : Nat) (hd : 71 ≤ d) (t : Nat) (a : Int32) : zMet l d 0 0 yX4_oneFact cX4_oneFact 4 (Option.none : Option FieldType) [.ref t, .int a] (zg 2 t a 0 0) := (mt_gr l 60 d (by omega)).2.2.1 t a
theorem mtX4_sum (l : Launch) (d : Nat) (hd : 71 ≤ d) (t : Nat) (a : Int32) : zMet l d 0 0 yX4_sum cX4_sum 4 (Option.none : Option FieldType) [.ref t, .int a] (zg 3 t a 0 0) := (mt_gr l 60 d (by omega)).2.2.2.1 t a
theorem mtX4_product (l : Launch) (d : Nat) (hd : 71 ≤ d) (t : Nat) (a : Int32) : zMet l d 0 0 yX4_product cX4_product 4 (Option.none : Option FieldType) [.ref t, .int a] (zg 4 t a 0 0) := (mt_gr l 60 d (by omega)).2.2.2.2.1 t a
theorem mtX4_oneOf (l : Launch) (d : Nat) (hd : 71 ≤ d) (t : Nat) (a : Int32) : zMet l d 0 0 yX4_oneOf cX4_oneOf 4 (Option.none : Option FieldType) [.ref t, .int a] (zg 5 t a 0 0) := (mt_gr l 60 d (by omega)).2.2.2.2.2.1 t a
theorem mtX4_ofTwoSums (l : Launch) (d : Nat) (hd : 71 ≤ d) (t : Nat) (a b : Int32) : zMet l d 0 0 yX4_ofTwoSums cX4_ofTwoSums 4 (Option.none : Option FieldType) [.ref t, .int a, .int b] (zg 6 t a b 0) := (mt_gr l 60 d (by omega)).2.2.2.2.2.2.1 t a b
theorem mtX4_ofAnother (l : Launch) (d : Nat) (hd : 71 ≤ d) (t : Nat) (a b c : Int32) : zMet l d 0 0 yX4_ofAnother cX4_ofAnother 4 (Option.none : Option FieldType) [.ref t, .int a, .int b, .int c] (zg 7 t a b c) := (mt_gr l 60 d (by omega)).2.2.2.2.2.2.2 t a b c
