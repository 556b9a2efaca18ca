abbrev iX12_isAllowed : zI := (RX12, cX12_isAllowed, 2, (Option.some .boolean), false)
def tX12_isAllowed : List (Nat × Instr × Nat) := [(0, .aload_n 0, 1), (1, .getfield 328, 3), (4, .tableswitch 82 0 2 #[28, 40, 65], 28), (32, .iload_n 1, 1), (33, .bipush 6, 2), (35, .if_icmp .ge 7, 3), (38, .iconst 1, 1), (39, .goto 4, 3), (42, .iconst 0, 1), (43, .ireturn, 1), (44, .iload_n 1, 1), (45, .iconst 2, 1), (46, .if_icmp .lt 17, 3), (49, .iload_n 1, 1), (50, .i2l, 1), (51, .ldc2_w 331, 3), (54, .ldc2_w 333, 3), (57, .invokestatic 313, 3), (60, .ifCond .eq 7, 3), (63, .iconst 1, 1), (64, .goto 4, 3), (67, .iconst 0, 1), (68, .ireturn, 1), (69, .iload_n 1, 1), (70, .iconst 2, 1), (71, .if_icmp .lt 9, 3), (74, .iload_n 1, 1), (75, .bipush 6, 2), (77, .if_icmp .ne 7, 3), (80, .iconst 1, 1), (81, .goto 4, 3), (84, .iconst 0, 1), (85, .ireturn, 1), (86, .iload_n 1, 1), (87, .i2l, 1), (88, .lconst 1, 1), (89, .ldc2_w 335, 3), (92, .invokestatic 313, 3), (95, .ifCond .ne 9, 3), (98, .iload_n 1, 1), (99, .bipush 6, 2), (101, .if_icmp .le 7, 3), (104, .iconst 1, 1), (105, .goto 4, 3), (108, .iconst 0, 1), (109, .ireturn, 1)]
set_option maxRecDepth 100000 in
theorem tkX12_isAllowed : ∀ q ∈ tX12_isAllowed, decode cX12_isAllowed q.1 = .ok q.2 := by decide +kernel
theorem vmX12_isAllowed : zVM yX12_isAllowed cX12_isAllowed 2 (Option.some .boolean) 1 12 := ⟨kX12_isAllowed, q_1852, q_69, q_162, ⟨_, rfl, rfl⟩, by decide +kernel, by decide⟩
set_option maxHeartbeats 2000000 in
set_option maxRecDepth 20000 in
theorem coX12_isAllowed_J104 (l : Launch) (e : Nat) (he : 1 ≤ e)  : zCo l (e + 1) 0 0 iX12_isAllowed 104 [] [] (X12_isAllowed_J104 ) := by
  unfold X12_isAllowed_J104
  refine zco_p tkX12_isAllowed 42 2 (pc' := 109) (L' := []) (S' := [.int 1]) rfl ?_
  exact zco_zret rfl rfl rfl (zdk (cc := cX12_isAllowed) (q := (109, .ireturn, 1)) tkX12_isAllowed 45 rfl)
set_option maxHeartbeats 2000000 in
set_option maxRecDepth 20000 in
theorem coX12_isAllowed_J80 (l : Launch) (e : Nat) (he : 1 ≤ e)  : zCo l (e + 1) 0 0 iX12_isAllowed 80 [] [] (X12_isAllowed_J80 ) := by
  unfold X12_isAllowed_J80
  refine zco_p tkX12_isAllowed 29 2 (pc' := 85) (L' := []) (S' := [.int 1]) rfl ?_
  exact zco_zret rfl rfl rfl (zdk (cc := cX12_isAllowed) (q := (85, .ireturn, 1)) tkX12_isAllowed 32 rfl)
set_option maxHeartbeats 2000000 in
set_option maxRecDepth 20000 in
theorem coX12_isAllowed_J63 (l : Launch) (e : Nat) (he : 1 ≤ e)  : zCo l (e + 1) 0 0 iX12_isAllowed 63 [] [] (X12_isAllowed_J63 ) := by
  unfold X12_isAllowed_J63
  refine zco_p tkX12_isAllowed 19 2 (pc' := 68) (L' := []) (S' := [.int 1]) rfl ?_
  exact zco_zret rfl rfl rfl (zdk (cc := cX12_isAllowed) (q := (68, .ireturn, 1)) tkX12_isAllowed 22 rfl)
set_option maxHeartbeats 2000000 in
set_option maxRecDepth 20000 in
theorem coX12_isAllowed (l : Launch) (e : Nat) (he : 1 ≤ e) (v0 : Nat) (v1 : Int32) : zCo l (e + 1) 0 0 iX12_isAllowed 0 [(0, .ref v0), (1, .int v1)] [] (X12_isAllowed v0 v1) := by
  unfold X12_isAllowed
  refine zco_p tkX12_isAllowed 0 1 (pc' := 1) (L' := [(0, .ref v0), (1, .int v1)]) (S' := [.ref v0]) rfl ?_
  refine zco_gi fl_12_328 rfl (zdk (cc := cX12_isAllowed) (q := (1, .getfield 328, 3)) tkX12_isAllowed 1 rfl) (fun x1 => ?_)
  refine @zco_tab l (e + 1) 0 0 iX12_isAllowed 4 [(0, .ref v0), (1, .int v1)] [] _ x1 82 0 2 #[28, 40, 65] 28 (zdk (cc := cX12_isAllowed) (q := (4, .tableswitch 82 0 2 #[28, 40, 65], 28)) tkX12_isAllowed 2 rfl) 86 rfl [32, 44, 69] (X12_isAllowed_S4 v1) (by decide) (by decide) ?_ (fun j t ht => ?_)
  · refine zco_p tkX12_isAllowed 33 3 (pc' := 89) (L' := [(0, .ref v0), (1, .int v1)]) (S' := [.long 1, .long v1.toInt64]) rfl ?_
    refine zco_ldc2 q_1856 (zdk (cc := cX12_isAllowed) (q := (89, .ldc2_w 335, 3)) tkX12_isAllowed 36 rfl) ?_
    refine zco_Si (rc := 0) (rs := 0) (mc := 0) (ms := 0) (As := [.long v1.toInt64, .long 1, .long 4]) (S := []) vmX12_isIn (mtX12_isIn l e (by omega) v1.toInt64 1 4) q_1799 rfl rfl (Nat.le_of_ble_eq_true rfl) (zdk (cc := cX12_isAllowed) (q := (92, .invokestatic 313, 3)) tkX12_isAllowed 37 rfl) (fun y2 => ?_)
    refine zco_if_ne (tgt := 104) (zdk (cc := cX12_isAllowed) (q := (95, .ifCond .ne 9, 3)) tkX12_isAllowed 38 rfl) rfl ?_ ?_
    · exact zco_sub [] rfl (coX12_isAllowed_J104 l e he )
    · refine zco_p tkX12_isAllowed 39 2 (pc' := 101) (L' := [(0, .ref v0), (1, .int v1)]) (S' := [.int 6, .int v1]) rfl ?_
      refine zco_icmp_le (tgt := 108) (zdk (cc := cX12_isAllowed) (q := (101, .if_icmp .le 7, 3)) tkX12_isAllowed 41 rfl) rfl ?_ ?_
      · refine zco_p tkX12_isAllowed 44 1 (pc' := 109) (L' := [(0, .ref v0), (1, .int v1)]) (S' := [.int 0]) rfl ?_
        exact zco_zret rfl rfl rfl (zdk (cc := cX12_isAllowed) (q := (109, .ireturn, 1)) tkX12_isAllowed 45 rfl)
      · exact zco_sub [] rfl (coX12_isAllowed_J104 l e he )
  · match j, ht with
    | 0, ht =>
      cases ht
      show zCo l (e + 1) 0 0 iX12_isAllowed 32 [(0, .ref v0), (1, .int v1)] [] (z_if (6 ≤ v1) (z_rb 0)  (z_rb 1))
      refine zco_p tkX12_isAllowed 3 2 (pc' := 35) (L' := [(0, .ref v0), (1, .int v1)]) (S' := [.int 6, .int v1]) rfl ?_
      refine zco_icmp_ge (tgt := 42) (zdk (cc := cX12_isAllowed) (q := (35, .if_icmp .ge 7, 3)) tkX12_isAllowed 5 rfl) rfl ?_ ?_
      · refine zco_p tkX12_isAllowed 8 1 (pc' := 43) (L' := [(0, .ref v0), (1, .int v1)]) (S' := [.int 0]) rfl ?_
        exact zco_zret rfl rfl rfl (zdk (cc := cX12_isAllowed) (q := (43, .ireturn, 1)) tkX12_isAllowed 9 rfl)
      · refine zco_p tkX12_isAllowed 6 2 (pc' := 43) (L' := [(0, .ref v0), (1, .int v1)]) (S' := [.int 1]) rfl ?_
        exact zco_zret rfl rfl rfl (zdk (cc := cX12_isAllowed) (q := (43, .ireturn, 1)) tkX12_isAllowed 9 rfl)
    | 1, ht =>
      cases ht
      show zCo l (e + 1) 0 0 iX12_isAllowed 44 [(0, .ref v0), (1, .int v1)] [] (z_if (v1 < 2) (X12_isAllowed_J63)  (z_ci (X12_isIn v1.toInt64 5 8) fun y3 => z_if (y3 = 0) (z_rb 0)  (X12_isAllowed_J63)))
      refine zco_p tkX12_isAllowed 10 2 (pc' := 46) (L' := [(0, .ref v0), (1, .int v1)]) (S' := [.int 2, .int v1]) rfl ?_
      refine zco_icmp_lt (tgt := 63) (zdk (cc := cX12_isAllowed) (q := (46, .if_icmp .lt 17, 3)) tkX12_isAllowed 12 rfl) rfl ?_ ?_
      · exact zco_sub [] rfl (coX12_isAllowed_J63 l e he )
      · refine zco_p tkX12_isAllowed 13 2 (pc' := 51) (L' := [(0, .ref v0), (1, .int v1)]) (S' := [.long v1.toInt64]) rfl ?_
        refine zco_ldc2 q_1854 (zdk (cc := cX12_isAllowed) (q := (51, .ldc2_w 331, 3)) tkX12_isAllowed 15 rfl) ?_
        refine zco_ldc2 q_1855 (zdk (cc := cX12_isAllowed) (q := (54, .ldc2_w 333, 3)) tkX12_isAllowed 16 rfl) ?_
        refine zco_Si (rc := 0) (rs := 0) (mc := 0) (ms := 0) (As := [.long v1.toInt64, .long 5, .long 8]) (S := []) vmX12_isIn (mtX12_isIn l e (by omega) v1.toInt64 5 8) q_1799 rfl rfl (Nat.le_of_ble_eq_true rfl) (zdk (cc := cX12_isAllowed) (q := (57, .invokestatic 313, 3)) tkX12_isAllowed 17 rfl) (fun y3 => ?_)
        refine zco_if_eq (tgt := 67) (zdk (cc := cX12_isAllowed) (q := (60, .ifCond .eq 7, 3)) tkX12_isAllowed 18 rfl) rfl ?_ ?_
        · refine zco_p tkX12_isAllowed 21 1 (pc' := 68) (L' := [(0, .ref v0), (1, .int v1)]) (S' := [.int 0]) rfl ?_
          exact zco_zret rfl rfl rfl (zdk (cc := cX12_isAllowed) (q := (68, .ireturn, 1)) tkX12_isAllowed 22 rfl)
        · exact zco_sub [] rfl (coX12_isAllowed_J63 l e he )
    | 2, ht =>
      cases ht
      show zCo l (e + 1) 0 0 iX12_isAllowed 69 [(0, .ref v0), (1, .int v1)] [] (z_if (v1 < 2) (X12_isAllowed_J80)  (z_if (v1 = 6) (X12_isAllowed_J80)  (z_rb 0)))
      refine zco_p tkX12_isAllowed 23 2 (pc' := 71) (L' := [(0, .ref v0), (1, .int v1)]) (S' := [.int 2, .int v1]) rfl ?_
      refine zco_icmp_lt (tgt := 80) (zdk (cc := cX12_isAllowed) (q := (71, .if_icmp .lt 9, 3)) tkX12_isAllowed 25 rfl) rfl ?_ ?_
      · exact zco_sub [] rfl (coX12_isAllowed_J80 l e he )
      · refine zco_p tkX12_isAllowed 26 2 (pc' := 77) (L' := [(0, .ref v0), (1, .int v1)]) (S' := [.int 6, .int v1]) rfl ?_
        refine zco_icmp_ne (tgt := 84) (zdk (cc := cX12_isAllowed) (q := (77, .if_icmp .ne 7, 3)) tkX12_isAllowed 28 rfl) rfl ?_ ?_
        · refine zco_p tkX12_isAllowed 31 1 (pc' := 85) (L' := [(0, .ref v0), (1, .int v1)]) (S' := [.int 0]) rfl ?_
          exact zco_zret rfl rfl rfl (zdk (cc := cX12_isAllowed) (q := (85, .ireturn, 1)) tkX12_isAllowed 32 rfl)
        · exact zco_sub [] rfl (coX12_isAllowed_J80 l e he )
    | j + 3, ht => exact absurd ht (by simp)
theorem mtX12_isAllowed (l : Launch) (d : Nat) (hd : 2 ≤ d) (v0 : Nat) (v1 : Int32) : zMet l d 0 0 yX12_isAllowed cX12_isAllowed 2 (Option.some .boolean) [.ref v0, .int v1] (X12_isAllowed v0 v1) := by
  obtain ⟨e, rfl⟩ : ∃ e, d = e + 1 := ⟨d - 1, by omega⟩
  exact zmet_of (own := RX12) (ini := false) (by decide +kernel) rfl (fun _ => by contradiction) (Nat.le_of_ble_eq_true rfl) (coX12_isAllowed l e (by omega) v0 v1)
abbrev iX12_oneTold : zI := (RX12, cX12_oneTold, 9, (Option.none : Option FieldType), false)
def tX12_oneTold : List (Nat × Instr × Nat) := [(0, .aload_n 0, 1), (1, .getfield 270, 3), (4, .ifCond .ne 20, 3), (7, .aload_n 0, 1), (8, .getfield 105, 3), (11, .iload_n 1, 1), (12, .iaload, 1), (13, .bipush 6, 2), (15, .if_icmp .ne 9, 3), (18, .aload_n 0, 1), (19, .iconst 5, 1), (20, .iload_n 2, 1), (21, .invokevirtual 300, 3), (24, .aload_n 0, 1), (25, .invokevirtual 337, 3), (28, .lstore_n 3, 1), (29, .iconst 0, 1), (30, .istore 5, 2), (32, .iload 5, 2), (34, .iconst 2, 1), (35, .if_icmp .ge 64, 3), (38, .iconst 0, 1), (39, .istore 6, 2), (41, .iload 6, 2), (43, .aload_n 0, 1), (44, .getfield 105, 3), (47, .iload 5, 2), (49, .iaload, 1), (50, .if_icmp .ge 43, 3), (53, .aload_n 0, 1), (54, .getfield 270, 3), (57, .ifCond .ne 30, 3), (60, .aload_n 0, 1), (61, .getfield 108, 3), (64, .bipush 6, 2), (66, .iload 5, 2), (68, .imul, 1), (69, .iload 6, 2), (71, .iadd, 1), (72, .laload, 1), (73, .lload_n 3, 1), (74, .lcmp, 1), (75, .ifCond .ne 12, 3), (78, .aload_n 0, 1), (79, .iconst 3, 1), (80, .aload_n 0, 1), (81, .getfield 321, 3), (84, .invokevirtual 300, 3), (87, .iinc 6 1, 3), (90, .goto (-49), 3), (93, .iinc 5 1, 3), (96, .goto (-64), 3), (99, .aload_n 0, 1), (100, .aload_n 0, 1), (101, .getfield 27, 3), (104, .invokevirtual 341, 3), (107, .aload_n 0, 1), (108, .iconst 0, 1), (109, .bipush 9, 2), (111, .invokevirtual 345, 3), (114, .istore 5, 2), (116, .aload_n 0, 1), (117, .aload_n 0, 1), (118, .getfield 30, 3), (121, .invokevirtual 341, 3), (124, .aload_n 0, 1), (125, .iconst 0, 1), (126, .bipush 9, 2), (128, .invokevirtual 345, 3), (131, .istore 6, 2), (133, .aload_n 0, 1), (134, .aload_n 0, 1), (135, .getfield 33, 3), (138, .invokevirtual 341, 3), (141, .aload_n 0, 1), (142, .iconst 0, 1), (143, .bipush 9, 2), (145, .invokevirtual 345, 3), (148, .istore 7, 2), (150, .aload_n 0, 1), (151, .getfield 270, 3), (154, .ifCond .eq 4, 3), (157, .return_, 1), (158, .bipush 6, 2), (160, .iload_n 1, 1), (161, .imul, 1), (162, .aload_n 0, 1), (163, .getfield 105, 3), (166, .iload_n 1, 1), (167, .iaload, 1), (168, .iadd, 1), (169, .istore 8, 2), (171, .aload_n 0, 1), (172, .getfield 108, 3), (175, .iload 8, 2), (177, .lload_n 3, 1), (178, .lastore, 1), (179, .aload_n 0, 1), (180, .getfield 112, 3), (183, .iconst 3, 1), (184, .iload 8, 2), (186, .imul, 1), (187, .iload 5, 2), (189, .iastore, 1), (190, .aload_n 0, 1), (191, .getfield 112, 3), (194, .iconst 3, 1), (195, .iload 8, 2), (197, .imul, 1), (198, .iconst 1, 1), (199, .iadd, 1), (200, .iload 6, 2), (202, .iastore, 1), (203, .aload_n 0, 1), (204, .getfield 112, 3), (207, .iconst 3, 1), (208, .iload 8, 2), (210, .imul, 1), (211, .iconst 2, 1), (212, .iadd, 1), (213, .iload 7, 2), (215, .iastore, 1), (216, .aload_n 0, 1), (217, .getfield 105, 3), (220, .iload_n 1, 1), (221, .dup2, 1), (222, .iaload, 1), (223, .iconst 1, 1), (224, .iadd, 1), (225, .iastore, 1), (226, .return_, 1)]
set_option maxRecDepth 100000 in
theorem tkX12_oneTold : ∀ q ∈ tX12_oneTold, decode cX12_oneTold q.1 = .ok q.2 := by decide +kernel
theorem vmX12_oneTold : zVM yX12_oneTold cX12_oneTold 9 (Option.none : Option FieldType) 2 12 := ⟨kX12_oneTold, q_1776, q_52, q_162, ⟨_, rfl, rfl⟩, by decide +kernel, by decide⟩
set_option maxHeartbeats 2000000 in
set_option maxRecDepth 20000 in
theorem coX12_oneTold_J99 (l : Launch) (e : Nat) (he : 4 ≤ e) (v0 : Nat) (v1 : Int32) (v3 : Int64) : zCo l (e + 1) 0 0 iX12_oneTold 99 [(0, .ref v0), (1, .int v1), (3, .long v3)] [] (X12_oneTold_J99 v0 v1 v3) := by
  unfold X12_oneTold_J99
  refine zco_p tkX12_oneTold 52 2 (pc' := 101) (L' := [(0, .ref v0), (1, .int v1), (3, .long v3)]) (S' := [.ref v0, .ref v0]) rfl ?_
  refine zco_gr fl_12_27 rfl (zdk (cc := cX12_oneTold) (q := (101, .getfield 27, 3)) tkX12_oneTold 54 rfl) (fun x1 => ?_)
  refine zco_Vv (rc := 0) (rs := 0) (mc := 0) (ms := 0) (As := [.ref x1]) (S := []) vmX12_asks (mtX12_asks l e (by omega) v0 x1) q_1788 rfl rfl (Nat.le_of_ble_eq_true rfl) (zdk (cc := cX12_oneTold) (q := (104, .invokevirtual 341, 3)) tkX12_oneTold 55 rfl) ?_
  refine zco_p tkX12_oneTold 56 3 (pc' := 111) (L' := [(0, .ref v0), (1, .int v1), (3, .long v3)]) (S' := [.int 9, .int 0, .ref v0]) rfl ?_
  refine zco_Vi (rc := 0) (rs := 0) (mc := 0) (ms := 0) (As := [.int 0, .int 9]) (S := []) vmX12_number (mtX12_number l e (by omega) v0 0 9) q_1792 rfl rfl (Nat.le_of_ble_eq_true rfl) (zdk (cc := cX12_oneTold) (q := (111, .invokevirtual 345, 3)) tkX12_oneTold 59 rfl) (fun y2 => ?_)
  refine zco_p tkX12_oneTold 60 3 (pc' := 118) (L' := [(5, .int y2), (0, .ref v0), (1, .int v1), (3, .long v3)]) (S' := [.ref v0, .ref v0]) rfl ?_
  refine zco_gr fl_12_30 rfl (zdk (cc := cX12_oneTold) (q := (118, .getfield 30, 3)) tkX12_oneTold 63 rfl) (fun x3 => ?_)
  refine zco_Vv (rc := 0) (rs := 0) (mc := 0) (ms := 0) (As := [.ref x3]) (S := []) vmX12_asks (mtX12_asks l e (by omega) v0 x3) q_1788 rfl rfl (Nat.le_of_ble_eq_true rfl) (zdk (cc := cX12_oneTold) (q := (121, .invokevirtual 341, 3)) tkX12_oneTold 64 rfl) ?_
  refine zco_p tkX12_oneTold 65 3 (pc' := 128) (L' := [(5, .int y2), (0, .ref v0), (1, .int v1), (3, .long v3)]) (S' := [.int 9, .int 0, .ref v0]) rfl ?_
  refine zco_Vi (rc := 0) (rs := 0) (mc := 0) (ms := 0) (As := [.int 0, .int 9]) (S := []) vmX12_number (mtX12_number l e (by omega) v0 0 9) q_1792 rfl rfl (Nat.le_of_ble_eq_true rfl) (zdk (cc := cX12_oneTold) (q := (128, .invokevirtual 345, 3)) tkX12_oneTold 68 rfl) (fun y4 => ?_)
  refine zco_p tkX12_oneTold 69 3 (pc' := 135) (L' := [(6, .int y4), (5, .int y2), (0, .ref v0), (1, .int v1), (3, .long v3)]) (S' := [.ref v0, .ref v0]) rfl ?_
  refine zco_gr fl_12_33 rfl (zdk (cc := cX12_oneTold) (q := (135, .getfield 33, 3)) tkX12_oneTold 72 rfl) (fun x5 => ?_)
  refine zco_Vv (rc := 0) (rs := 0) (mc := 0) (ms := 0) (As := [.ref x5]) (S := []) vmX12_asks (mtX12_asks l e (by omega) v0 x5) q_1788 rfl rfl (Nat.le_of_ble_eq_true rfl) (zdk (cc := cX12_oneTold) (q := (138, .invokevirtual 341, 3)) tkX12_oneTold 73 rfl) ?_
  refine zco_p tkX12_oneTold 74 3 (pc' := 145) (L' := [(6, .int y4), (5, .int y2), (0, .ref v0), (1, .int v1), (3, .long v3)]) (S' := [.int 9, .int 0, .ref v0]) rfl ?_
  refine zco_Vi (rc := 0) (rs := 0) (mc := 0) (ms := 0) (As := [.int 0, .int 9]) (S := []) vmX12_number (mtX12_number l e (by omega) v0 0 9) q_1792 rfl rfl (Nat.le_of_ble_eq_true rfl) (zdk (cc := cX12_oneTold) (q := (145, .invokevirtual 345, 3)) tkX12_oneTold 77 rfl) (fun y6 => ?_)
  refine zco_p tkX12_oneTold 78 2 (pc' := 151) (L' := [(7, .int y6), (6, .int y4), (5, .int y2), (0, .ref v0), (1, .int v1), (3, .long v3)]) (S' := [.ref v0]) rfl ?_
  refine zco_gi fl_12_270 rfl (zdk (cc := cX12_oneTold) (q := (151, .getfield 270, 3)) tkX12_oneTold 80 rfl) (fun x7 => ?_)
  refine zco_if_eq (tgt := 158) (zdk (cc := cX12_oneTold) (q := (154, .ifCond .eq 4, 3)) tkX12_oneTold 81 rfl) rfl ?_ ?_
  · refine zco_p tkX12_oneTold 83 4 (pc' := 163) (L' := [(7, .int y6), (6, .int y4), (5, .int y2), (0, .ref v0), (1, .int v1), (3, .long v3)]) (S' := [.ref v0, .int (6 * v1)]) rfl ?_
    refine zco_gr fl_12_105 rfl (zdk (cc := cX12_oneTold) (q := (163, .getfield 105, 3)) tkX12_oneTold 87 rfl) (fun x8 => ?_)
    refine zco_p tkX12_oneTold 88 1 (pc' := 167) (L' := [(7, .int y6), (6, .int y4), (5, .int y2), (0, .ref v0), (1, .int v1), (3, .long v3)]) (S' := [.int v1, .ref x8, .int (6 * v1)]) rfl ?_
    refine zco_iaload (zdk (cc := cX12_oneTold) (q := (167, .iaload, 1)) tkX12_oneTold 89 rfl) (fun x9 => ?_)
    refine zco_p tkX12_oneTold 90 3 (pc' := 172) (L' := [(8, .int ((6 * v1) + x9)), (7, .int y6), (6, .int y4), (5, .int y2), (0, .ref v0), (1, .int v1), (3, .long v3)]) (S' := [.ref v0]) rfl ?_
    refine zco_gr fl_12_108 rfl (zdk (cc := cX12_oneTold) (q := (172, .getfield 108, 3)) tkX12_oneTold 93 rfl) (fun x10 => ?_)
    refine zco_p tkX12_oneTold 94 2 (pc' := 178) (L' := [(8, .int ((6 * v1) + x9)), (7, .int y6), (6, .int y4), (5, .int y2), (0, .ref v0), (1, .int v1), (3, .long v3)]) (S' := [.long v3, .int ((6 * v1) + x9), .ref x10]) rfl ?_
    refine zco_lastore (zdk (cc := cX12_oneTold) (q := (178, .lastore, 1)) tkX12_oneTold 96 rfl) ?_
    refine zco_p tkX12_oneTold 97 1 (pc' := 180) (L' := [(8, .int ((6 * v1) + x9)), (7, .int y6), (6, .int y4), (5, .int y2), (0, .ref v0), (1, .int v1), (3, .long v3)]) (S' := [.ref v0]) rfl ?_
    refine zco_gr fl_12_112 rfl (zdk (cc := cX12_oneTold) (q := (180, .getfield 112, 3)) tkX12_oneTold 98 rfl) (fun x11 => ?_)
    refine zco_p tkX12_oneTold 99 4 (pc' := 189) (L' := [(8, .int ((6 * v1) + x9)), (7, .int y6), (6, .int y4), (5, .int y2), (0, .ref v0), (1, .int v1), (3, .long v3)]) (S' := [.int y2, .int (3 * ((6 * v1) + x9)), .ref x11]) rfl ?_
    refine zco_iastore (zdk (cc := cX12_oneTold) (q := (189, .iastore, 1)) tkX12_oneTold 103 rfl) ?_
    refine zco_p tkX12_oneTold 104 1 (pc' := 191) (L' := [(8, .int ((6 * v1) + x9)), (7, .int y6), (6, .int y4), (5, .int y2), (0, .ref v0), (1, .int v1), (3, .long v3)]) (S' := [.ref v0]) rfl ?_
    refine zco_gr fl_12_112 rfl (zdk (cc := cX12_oneTold) (q := (191, .getfield 112, 3)) tkX12_oneTold 105 rfl) (fun x12 => ?_)
    refine zco_p tkX12_oneTold 106 6 (pc' := 202) (L' := [(8, .int ((6 * v1) + x9)), (7, .int y6), (6, .int y4), (5, .int y2), (0, .ref v0), (1, .int v1), (3, .long v3)]) (S' := [.int y4, .int ((3 * ((6 * v1) + x9)) + 1), .ref x12]) rfl ?_
    refine zco_iastore (zdk (cc := cX12_oneTold) (q := (202, .iastore, 1)) tkX12_oneTold 112 rfl) ?_
    refine zco_p tkX12_oneTold 113 1 (pc' := 204) (L' := [(8, .int ((6 * v1) + x9)), (7, .int y6), (6, .int y4), (5, .int y2), (0, .ref v0), (1, .int v1), (3, .long v3)]) (S' := [.ref v0]) rfl ?_
    refine zco_gr fl_12_112 rfl (zdk (cc := cX12_oneTold) (q := (204, .getfield 112, 3)) tkX12_oneTold 114 rfl) (fun x13 => ?_)
    refine zco_p tkX12_oneTold 115 6 (pc' := 215) (L' := [(8, .int ((6 * v1) + x9)), (7, .int y6), (6, .int y4), (5, .int y2), (0, .ref v0), (1, .int v1), (3, .long v3)]) (S' := [.int y6, .int ((3 * ((6 * v1) + x9)) + 2), .ref x13]) rfl ?_
    refine zco_iastore (zdk (cc := cX12_oneTold) (q := (215, .iastore, 1)) tkX12_oneTold 121 rfl) ?_
    refine zco_p tkX12_oneTold 122 1 (pc' := 217) (L' := [(8, .int ((6 * v1) + x9)), (7, .int y6), (6, .int y4), (5, .int y2), (0, .ref v0), (1, .int v1), (3, .long v3)]) (S' := [.ref v0]) rfl ?_
    refine zco_gr fl_12_105 rfl (zdk (cc := cX12_oneTold) (q := (217, .getfield 105, 3)) tkX12_oneTold 123 rfl) (fun x14 => ?_)
    refine zco_p tkX12_oneTold 124 2 (pc' := 222) (L' := [(8, .int ((6 * v1) + x9)), (7, .int y6), (6, .int y4), (5, .int y2), (0, .ref v0), (1, .int v1), (3, .long v3)]) (S' := [.int v1, .ref x14, .int v1, .ref x14]) rfl ?_
    refine zco_iaload (zdk (cc := cX12_oneTold) (q := (222, .iaload, 1)) tkX12_oneTold 126 rfl) (fun x15 => ?_)
    refine zco_p tkX12_oneTold 127 2 (pc' := 225) (L' := [(8, .int ((6 * v1) + x9)), (7, .int y6), (6, .int y4), (5, .int y2), (0, .ref v0), (1, .int v1), (3, .long v3)]) (S' := [.int (x15 + 1), .int v1, .ref x14]) rfl ?_
    refine zco_iastore (zdk (cc := cX12_oneTold) (q := (225, .iastore, 1)) tkX12_oneTold 129 rfl) ?_
    exact zco_vret rfl rfl rfl (zdk (cc := cX12_oneTold) (q := (226, .return_, 1)) tkX12_oneTold 130 rfl)
  · exact zco_vret rfl rfl rfl (zdk (cc := cX12_oneTold) (q := (157, .return_, 1)) tkX12_oneTold 82 rfl)
set_option maxHeartbeats 2000000 in
set_option maxRecDepth 20000 in
theorem coX12_oneTold_J93 (l : Launch) (e : Nat) (he : 4 ≤ e) (v0 : Nat) (v1 : Int32) (v3 : Int64) (v5 : Int32) (r32 : Int32 → zM) (hr32 : ∀ x : Int32, zCo l (e + 1) 0 0 iX12_oneTold 32 [(0, .ref v0), (1, .int v1), (3, .long v3), (5, .int x)] [] (r32 x)) : zCo l (e + 1) 0 0 iX12_oneTold 93 [(0, .ref v0), (1, .int v1), (3, .long v3), (5, .int v5)] [] (X12_oneTold_J93 r32 v0 v1 v3 v5) := by
  unfold X12_oneTold_J93
  refine zco_p tkX12_oneTold 50 2 (pc' := 32) (L' := [(5, .int (v5 + 1)), (0, .ref v0), (1, .int v1), (3, .long v3)]) (S' := []) rfl ?_
  exact zco_sub [1, 2, 3, 0] rfl (hr32 (v5 + 1))
set_option maxHeartbeats 2000000 in
set_option maxRecDepth 20000 in
theorem coX12_oneTold_J87 (l : Launch) (e : Nat) (he : 4 ≤ e) (v0 : Nat) (v1 : Int32) (v3 : Int64) (v5 : Int32) (v6 : Int32) (r32 : Int32 → zM) (hr32 : ∀ x : Int32, zCo l (e + 1) 0 0 iX12_oneTold 32 [(0, .ref v0), (1, .int v1), (3, .long v3), (5, .int x)] [] (r32 x)) (r41 : Int32 → zM) (hr41 : ∀ x : Int32, zCo l (e + 1) 0 0 iX12_oneTold 41 [(0, .ref v0), (1, .int v1), (3, .long v3), (5, .int v5), (6, .int x)] [] (r41 x)) : zCo l (e + 1) 0 0 iX12_oneTold 87 [(0, .ref v0), (1, .int v1), (3, .long v3), (5, .int v5), (6, .int v6)] [] (X12_oneTold_J87 r32 r41 v0 v1 v3 v5 v6) := by
  unfold X12_oneTold_J87
  refine zco_p tkX12_oneTold 48 2 (pc' := 41) (L' := [(6, .int (v6 + 1)), (0, .ref v0), (1, .int v1), (3, .long v3), (5, .int v5)]) (S' := []) rfl ?_
  exact zco_sub [1, 2, 3, 4, 0] rfl (hr41 (v6 + 1))
set_option maxHeartbeats 2000000 in
set_option maxRecDepth 20000 in
theorem coX12_oneTold_B41 (l : Launch) (e : Nat) (he : 4 ≤ e) (v0 : Nat) (v1 : Int32) (v3 : Int64) (v5 : Int32) (r32 : Int32 → zM) (hr32 : ∀ x : Int32, zCo l (e + 1) 0 0 iX12_oneTold 32 [(0, .ref v0), (1, .int v1), (3, .long v3), (5, .int x)] [] (r32 x)) (r41 : Int32 → zM) (hr41 : ∀ x : Int32, zCo l (e + 1) 0 0 iX12_oneTold 41 [(0, .ref v0), (1, .int v1), (3, .long v3), (5, .int v5), (6, .int x)] [] (r41 x)) (v6 : Int32) : zCo l (e + 1) 0 0 iX12_oneTold 41 [(0, .ref v0), (1, .int v1), (3, .long v3), (5, .int v5), (6, .int v6)] [] (X12_oneTold_B41 r32 v0 v1 v3 v5 r41 v6) := by
  unfold X12_oneTold_B41
  refine zco_p tkX12_oneTold 23 2 (pc' := 44) (L' := [(0, .ref v0), (1, .int v1), (3, .long v3), (5, .int v5), (6, .int v6)]) (S' := [.ref v0, .int v6]) rfl ?_
  refine zco_gr fl_12_105 rfl (zdk (cc := cX12_oneTold) (q := (44, .getfield 105, 3)) tkX12_oneTold 25 rfl) (fun x1 => ?_)
  refine zco_p tkX12_oneTold 26 1 (pc' := 49) (L' := [(0, .ref v0), (1, .int v1), (3, .long v3), (5, .int v5), (6, .int v6)]) (S' := [.int v5, .ref x1, .int v6]) rfl ?_
  refine zco_iaload (zdk (cc := cX12_oneTold) (q := (49, .iaload, 1)) tkX12_oneTold 27 rfl) (fun x2 => ?_)
  refine zco_icmp_ge (tgt := 93) (zdk (cc := cX12_oneTold) (q := (50, .if_icmp .ge 43, 3)) tkX12_oneTold 28 rfl) rfl ?_ ?_
  · exact zco_sub [0, 1, 2, 3] rfl (coX12_oneTold_J93 l e he v0 v1 v3 v5 r32 hr32)
  · refine zco_p tkX12_oneTold 29 1 (pc' := 54) (L' := [(0, .ref v0), (1, .int v1), (3, .long v3), (5, .int v5), (6, .int v6)]) (S' := [.ref v0]) rfl ?_
    refine zco_gi fl_12_270 rfl (zdk (cc := cX12_oneTold) (q := (54, .getfield 270, 3)) tkX12_oneTold 30 rfl) (fun x3 => ?_)
    refine zco_if_ne (tgt := 87) (zdk (cc := cX12_oneTold) (q := (57, .ifCond .ne 30, 3)) tkX12_oneTold 31 rfl) rfl ?_ ?_
    · exact zco_sub [0, 1, 2, 3, 4] rfl (coX12_oneTold_J87 l e he v0 v1 v3 v5 v6 r32 hr32 r41 hr41)
    · refine zco_p tkX12_oneTold 32 1 (pc' := 61) (L' := [(0, .ref v0), (1, .int v1), (3, .long v3), (5, .int v5), (6, .int v6)]) (S' := [.ref v0]) rfl ?_
      refine zco_gr fl_12_108 rfl (zdk (cc := cX12_oneTold) (q := (61, .getfield 108, 3)) tkX12_oneTold 33 rfl) (fun x4 => ?_)
      refine zco_p tkX12_oneTold 34 5 (pc' := 72) (L' := [(0, .ref v0), (1, .int v1), (3, .long v3), (5, .int v5), (6, .int v6)]) (S' := [.int ((6 * v5) + v6), .ref x4]) rfl ?_
      refine zco_laload (zdk (cc := cX12_oneTold) (q := (72, .laload, 1)) tkX12_oneTold 39 rfl) (fun x5 => ?_)
      refine zco_p tkX12_oneTold 40 1 (pc' := 74) (L' := [(0, .ref v0), (1, .int v1), (3, .long v3), (5, .int v5), (6, .int v6)]) (S' := [.long v3, .long x5]) rfl ?_
      refine zco_lcmp_ne (tgt := 87) (zdk (cc := cX12_oneTold) (q := (74, .lcmp, 1)) tkX12_oneTold 41 rfl) (zdk (cc := cX12_oneTold) (q := (75, .ifCond .ne 12, 3)) tkX12_oneTold 42 rfl) rfl ?_ ?_
      · exact zco_sub [0, 1, 2, 3, 4] rfl (coX12_oneTold_J87 l e he v0 v1 v3 v5 v6 r32 hr32 r41 hr41)
      · refine zco_p tkX12_oneTold 43 3 (pc' := 81) (L' := [(0, .ref v0), (1, .int v1), (3, .long v3), (5, .int v5), (6, .int v6)]) (S' := [.ref v0, .int 3, .ref v0]) rfl ?_
        refine zco_gi fl_12_321 rfl (zdk (cc := cX12_oneTold) (q := (81, .getfield 321, 3)) tkX12_oneTold 46 rfl) (fun x6 => ?_)
        refine zco_Vv (rc := 0) (rs := 0) (mc := 0) (ms := 0) (As := [.int 3, .int x6]) (S := []) vmX12_fail (mtX12_fail l e (by omega) v0 3 x6) q_1759 rfl rfl (Nat.le_of_ble_eq_true rfl) (zdk (cc := cX12_oneTold) (q := (84, .invokevirtual 300, 3)) tkX12_oneTold 47 rfl) ?_
        exact zco_sub [0, 1, 2, 3, 4] rfl (coX12_oneTold_J87 l e he v0 v1 v3 v5 v6 r32 hr32 r41 hr41)
set_option maxHeartbeats 2000000 in
set_option maxRecDepth 20000 in
theorem coX12_oneTold_B32 (l : Launch) (e : Nat) (he : 4 ≤ e) (v0 : Nat) (v1 : Int32) (v3 : Int64) (r32 : Int32 → zM) (hr32 : ∀ x : Int32, zCo l (e + 1) 0 0 iX12_oneTold 32 [(0, .ref v0), (1, .int v1), (3, .long v3), (5, .int x)] [] (r32 x)) (v5 : Int32) : zCo l (e + 1) 0 0 iX12_oneTold 32 [(0, .ref v0), (1, .int v1), (3, .long v3), (5, .int v5)] [] (X12_oneTold_B32 v0 v1 v3 r32 v5) := by
  unfold X12_oneTold_B32
  refine zco_p tkX12_oneTold 18 2 (pc' := 35) (L' := [(0, .ref v0), (1, .int v1), (3, .long v3), (5, .int v5)]) (S' := [.int 2, .int v5]) rfl ?_
  refine zco_icmp_ge (tgt := 99) (zdk (cc := cX12_oneTold) (q := (35, .if_icmp .ge 64, 3)) tkX12_oneTold 20 rfl) rfl ?_ ?_
  · exact zco_sub [0, 1, 2] rfl (coX12_oneTold_J99 l e he v0 v1 v3)
  · refine zco_p tkX12_oneTold 21 2 (pc' := 41) (L' := [(6, .int 0), (0, .ref v0), (1, .int v1), (3, .long v3), (5, .int v5)]) (S' := []) rfl ?_
    exact zco_sub [1, 2, 3, 4, 0] rfl (zco_fix (Lf := fun x : Int32 => [(0, .ref v0), (1, .int v1), (3, .long v3), (5, .int v5), (6, .int x)]) (Sf := fun _ => []) (fun r hr x => coX12_oneTold_B41 l e he v0 v1 v3 v5 r32 hr32 r hr x) zFU 0)
set_option maxHeartbeats 2000000 in
set_option maxRecDepth 20000 in
theorem coX12_oneTold_J24 (l : Launch) (e : Nat) (he : 4 ≤ e) (v0 : Nat) (v1 : Int32) : zCo l (e + 1) 0 0 iX12_oneTold 24 [(0, .ref v0), (1, .int v1)] [] (X12_oneTold_J24 v0 v1) := by
  unfold X12_oneTold_J24
  refine zco_p tkX12_oneTold 13 1 (pc' := 25) (L' := [(0, .ref v0), (1, .int v1)]) (S' := [.ref v0]) rfl ?_
  refine zco_Vl (rc := 0) (rs := 0) (mc := 0) (ms := 0) (As := []) (S := []) vmX12_name (mtX12_name l e (by omega) v0) q_1778 rfl rfl (Nat.le_of_ble_eq_true rfl) (zdk (cc := cX12_oneTold) (q := (25, .invokevirtual 337, 3)) tkX12_oneTold 14 rfl) (fun y1 => ?_)
  refine zco_p tkX12_oneTold 15 3 (pc' := 32) (L' := [(5, .int 0), (3, .long y1), (0, .ref v0), (1, .int v1)]) (S' := []) rfl ?_
  exact zco_sub [2, 3, 1, 0] rfl (zco_fix (Lf := fun x : Int32 => [(0, .ref v0), (1, .int v1), (3, .long y1), (5, .int x)]) (Sf := fun _ => []) (fun r hr x => coX12_oneTold_B32 l e he v0 v1 y1 r hr x) zFU 0)
set_option maxHeartbeats 2000000 in
set_option maxRecDepth 20000 in
theorem coX12_oneTold (l : Launch) (e : Nat) (he : 4 ≤ e) (v0 : Nat) (v1 : Int32) (v2 : Int32) : zCo l (e + 1) 0 0 iX12_oneTold 0 [(0, .ref v0), (1, .int v1), (2, .int v2)] [] (X12_oneTold v0 v1 v2) := by
  unfold X12_oneTold
  refine zco_p tkX12_oneTold 0 1 (pc' := 1) (L' := [(0, .ref v0), (1, .int v1), (2, .int v2)]) (S' := [.ref v0]) rfl ?_
  refine zco_gi fl_12_270 rfl (zdk (cc := cX12_oneTold) (q := (1, .getfield 270, 3)) tkX12_oneTold 1 rfl) (fun x1 => ?_)
  refine zco_if_ne (tgt := 24) (zdk (cc := cX12_oneTold) (q := (4, .ifCond .ne 20, 3)) tkX12_oneTold 2 rfl) rfl ?_ ?_
  · exact zco_sub [0, 1] rfl (coX12_oneTold_J24 l e he v0 v1)
  · refine zco_p tkX12_oneTold 3 1 (pc' := 8) (L' := [(0, .ref v0), (1, .int v1), (2, .int v2)]) (S' := [.ref v0]) rfl ?_
    refine zco_gr fl_12_105 rfl (zdk (cc := cX12_oneTold) (q := (8, .getfield 105, 3)) tkX12_oneTold 4 rfl) (fun x2 => ?_)
    refine zco_p tkX12_oneTold 5 1 (pc' := 12) (L' := [(0, .ref v0), (1, .int v1), (2, .int v2)]) (S' := [.int v1, .ref x2]) rfl ?_
    refine zco_iaload (zdk (cc := cX12_oneTold) (q := (12, .iaload, 1)) tkX12_oneTold 6 rfl) (fun x3 => ?_)
    refine zco_p tkX12_oneTold 7 1 (pc' := 15) (L' := [(0, .ref v0), (1, .int v1), (2, .int v2)]) (S' := [.int 6, .int x3]) rfl ?_
    refine zco_icmp_ne (tgt := 24) (zdk (cc := cX12_oneTold) (q := (15, .if_icmp .ne 9, 3)) tkX12_oneTold 8 rfl) rfl ?_ ?_
    · exact zco_sub [0, 1] rfl (coX12_oneTold_J24 l e he v0 v1)
    · refine zco_p tkX12_oneTold 9 3 (pc' := 21) (L' := [(0, .ref v0), (1, .int v1), (2, .int v2)]) (S' := [.int v2, .int 5, .ref v0]) rfl ?_
      refine zco_Vv (rc := 0) (rs := 0) (mc := 0) (ms := 0) (As := [.int 5, .int v2]) (S := []) vmX12_fail (mtX12_fail l e (by omega) v0 5 v2) q_1759 rfl rfl (Nat.le_of_ble_eq_true rfl) (zdk (cc := cX12_oneTold) (q := (21, .invokevirtual 300, 3)) tkX12_oneTold 12 rfl) ?_
      exact zco_sub [0, 1] rfl (coX12_oneTold_J24 l e he v0 v1)
theorem mtX12_oneTold (l : Launch) (d : Nat) (hd : 5 ≤ d) (v0 : Nat) (v1 : Int32) (v2 : Int32) : zMet l d 0 0 yX12_oneTold cX12_oneTold 9 (Option.none : Option FieldType) [.ref v0, .int v1, .int v2] (X12_oneTold v0 v1 v2) := by
  obtain ⟨e, rfl⟩ : ∃ e, d = e + 1 := ⟨d - 1, by omega⟩
  exact zmet_of (own := RX12) (ini := false) (by decide +kernel) rfl (fun _ => by contradiction) (Nat.le_of_ble_eq_true rfl) (coX12_oneTold l e (by omega) v0 v1 v2)
abbrev iX12_named : zI := (RX12, cX12_named, 6, (Option.some .int), false)
def tX12_named : List (Nat × Instr × Nat) := [(0, .aload_n 0, 1), (1, .invokevirtual 337, 3), (4, .lstore_n 2, 1), (5, .iconst 0, 1), (6, .istore 4, 2), (8, .iload 4, 2), (10, .iconst 2, 1), (11, .if_icmp .ge 68, 3), (14, .iconst 0, 1), (15, .istore 5, 2), (17, .iload 5, 2), (19, .aload_n 0, 1), (20, .getfield 105, 3), (23, .iload 4, 2), (25, .iaload, 1), (26, .if_icmp .ge 47, 3), (29, .iload_n 1, 1), (30, .iconst (-1), 1), (31, .if_icmp .eq 9, 3), (34, .iload 4, 2), (36, .iload_n 1, 1), (37, .if_icmp .ne 30, 3), (40, .aload_n 0, 1), (41, .getfield 108, 3), (44, .bipush 6, 2), (46, .iload 4, 2), (48, .imul, 1), (49, .iload 5, 2), (51, .iadd, 1), (52, .laload, 1), (53, .lload_n 2, 1), (54, .lcmp, 1), (55, .ifCond .ne 12, 3), (58, .bipush 6, 2), (60, .iload 4, 2), (62, .imul, 1), (63, .iload 5, 2), (65, .iadd, 1), (66, .ireturn, 1), (67, .iinc 5 1, 3), (70, .goto (-53), 3), (73, .iinc 4 1, 3), (76, .goto (-68), 3), (79, .aload_n 0, 1), (80, .getfield 270, 3), (83, .ifCond .ne 12, 3), (86, .aload_n 0, 1), (87, .iconst 3, 1), (88, .aload_n 0, 1), (89, .getfield 321, 3), (92, .invokevirtual 300, 3), (95, .iconst 0, 1), (96, .ireturn, 1)]
set_option maxRecDepth 100000 in
theorem tkX12_named : ∀ q ∈ tX12_named, decode cX12_named q.1 = .ok q.2 := by decide +kernel
theorem vmX12_named : zVM yX12_named cX12_named 6 (Option.some .int) 1 12 := ⟨kX12_named, q_1808, q_58, q_162, ⟨_, rfl, rfl⟩, by decide +kernel, by decide⟩
set_option maxHeartbeats 2000000 in
set_option maxRecDepth 20000 in
theorem coX12_named_J79 (l : Launch) (e : Nat) (he : 4 ≤ e) (v0 : Nat) : zCo l (e + 1) 0 0 iX12_named 79 [(0, .ref v0)] [] (X12_named_J79 v0) := by
  unfold X12_named_J79
  refine zco_p tkX12_named 43 1 (pc' := 80) (L' := [(0, .ref v0)]) (S' := [.ref v0]) rfl ?_
  refine zco_gi fl_12_270 rfl (zdk (cc := cX12_named) (q := (80, .getfield 270, 3)) tkX12_named 44 rfl) (fun x1 => ?_)
  refine zco_if_ne (tgt := 95) (zdk (cc := cX12_named) (q := (83, .ifCond .ne 12, 3)) tkX12_named 45 rfl) rfl ?_ ?_
  · refine zco_p tkX12_named 51 1 (pc' := 96) (L' := [(0, .ref v0)]) (S' := [.int 0]) rfl ?_
    exact zco_iret rfl rfl rfl (zdk (cc := cX12_named) (q := (96, .ireturn, 1)) tkX12_named 52 rfl)
  · refine zco_p tkX12_named 46 3 (pc' := 89) (L' := [(0, .ref v0)]) (S' := [.ref v0, .int 3, .ref v0]) rfl ?_
    refine zco_gi fl_12_321 rfl (zdk (cc := cX12_named) (q := (89, .getfield 321, 3)) tkX12_named 49 rfl) (fun x2 => ?_)
    refine zco_Vv (rc := 0) (rs := 0) (mc := 0) (ms := 0) (As := [.int 3, .int x2]) (S := []) vmX12_fail (mtX12_fail l e (by omega) v0 3 x2) q_1759 rfl rfl (Nat.le_of_ble_eq_true rfl) (zdk (cc := cX12_named) (q := (92, .invokevirtual 300, 3)) tkX12_named 50 rfl) ?_
    refine zco_p tkX12_named 51 1 (pc' := 96) (L' := [(0, .ref v0)]) (S' := [.int 0]) rfl ?_
    exact zco_iret rfl rfl rfl (zdk (cc := cX12_named) (q := (96, .ireturn, 1)) tkX12_named 52 rfl)
set_option maxHeartbeats 2000000 in
set_option maxRecDepth 20000 in
theorem coX12_named_J73 (l : Launch) (e : Nat) (he : 4 ≤ e) (v0 : Nat) (v1 : Int32) (v2 : Int64) (v4 : Int32) (r8 : Int32 → zM) (hr8 : ∀ x : Int32, zCo l (e + 1) 0 0 iX12_named 8 [(0, .ref v0), (1, .int v1), (2, .long v2), (4, .int x)] [] (r8 x)) : zCo l (e + 1) 0 0 iX12_named 73 [(0, .ref v0), (1, .int v1), (2, .long v2), (4, .int v4)] [] (X12_named_J73 r8 v0 v1 v2 v4) := by
  unfold X12_named_J73
  refine zco_p tkX12_named 41 2 (pc' := 8) (L' := [(4, .int (v4 + 1)), (0, .ref v0), (1, .int v1), (2, .long v2)]) (S' := []) rfl ?_
  exact zco_sub [1, 2, 3, 0] rfl (hr8 (v4 + 1))
set_option maxHeartbeats 2000000 in
set_option maxRecDepth 20000 in
theorem coX12_named_J67 (l : Launch) (e : Nat) (he : 4 ≤ e) (v0 : Nat) (v1 : Int32) (v2 : Int64) (v4 : Int32) (v5 : Int32) (r8 : Int32 → zM) (hr8 : ∀ x : Int32, zCo l (e + 1) 0 0 iX12_named 8 [(0, .ref v0), (1, .int v1), (2, .long v2), (4, .int x)] [] (r8 x)) (r17 : Int32 → zM) (hr17 : ∀ x : Int32, zCo l (e + 1) 0 0 iX12_named 17 [(0, .ref v0), (1, .int v1), (2, .long v2), (4, .int v4), (5, .int x)] [] (r17 x)) : zCo l (e + 1) 0 0 iX12_named 67 [(0, .ref v0), (1, .int v1), (2, .long v2), (4, .int v4), (5, .int v5)] [] (X12_named_J67 r8 r17 v0 v1 v2 v4 v5) := by
  unfold X12_named_J67
  refine zco_p tkX12_named 39 2 (pc' := 17) (L' := [(5, .int (v5 + 1)), (0, .ref v0), (1, .int v1), (2, .long v2), (4, .int v4)]) (S' := []) rfl ?_
  exact zco_sub [1, 2, 3, 4, 0] rfl (hr17 (v5 + 1))
set_option maxHeartbeats 2000000 in
set_option maxRecDepth 20000 in
theorem coX12_named_J58 (l : Launch) (e : Nat) (he : 4 ≤ e) (v4 : Int32) (v5 : Int32) : zCo l (e + 1) 0 0 iX12_named 58 [(4, .int v4), (5, .int v5)] [] (X12_named_J58 v4 v5) := by
  unfold X12_named_J58
  refine zco_p tkX12_named 33 5 (pc' := 66) (L' := [(4, .int v4), (5, .int v5)]) (S' := [.int ((6 * v4) + v5)]) rfl ?_
  exact zco_iret rfl rfl rfl (zdk (cc := cX12_named) (q := (66, .ireturn, 1)) tkX12_named 38 rfl)
set_option maxHeartbeats 2000000 in
set_option maxRecDepth 20000 in
theorem coX12_named_J40 (l : Launch) (e : Nat) (he : 4 ≤ e) (v0 : Nat) (v1 : Int32) (v2 : Int64) (v4 : Int32) (v5 : Int32) (r8 : Int32 → zM) (hr8 : ∀ x : Int32, zCo l (e + 1) 0 0 iX12_named 8 [(0, .ref v0), (1, .int v1), (2, .long v2), (4, .int x)] [] (r8 x)) (r17 : Int32 → zM) (hr17 : ∀ x : Int32, zCo l (e + 1) 0 0 iX12_named 17 [(0, .ref v0), (1, .int v1), (2, .long v2), (4, .int v4), (5, .int x)] [] (r17 x)) : zCo l (e + 1) 0 0 iX12_named 40 [(0, .ref v0), (1, .int v1), (2, .long v2), (4, .int v4), (5, .int v5)] [] (X12_named_J40 r8 r17 v0 v1 v2 v4 v5) := by
  unfold X12_named_J40
  refine zco_p tkX12_named 22 1 (pc' := 41) (L' := [(0, .ref v0), (1, .int v1), (2, .long v2), (4, .int v4), (5, .int v5)]) (S' := [.ref v0]) rfl ?_
  refine zco_gr fl_12_108 rfl (zdk (cc := cX12_named) (q := (41, .getfield 108, 3)) tkX12_named 23 rfl) (fun x1 => ?_)
  refine zco_p tkX12_named 24 5 (pc' := 52) (L' := [(0, .ref v0), (1, .int v1), (2, .long v2), (4, .int v4), (5, .int v5)]) (S' := [.int ((6 * v4) + v5), .ref x1]) rfl ?_
  refine zco_laload (zdk (cc := cX12_named) (q := (52, .laload, 1)) tkX12_named 29 rfl) (fun x2 => ?_)
  refine zco_p tkX12_named 30 1 (pc' := 54) (L' := [(0, .ref v0), (1, .int v1), (2, .long v2), (4, .int v4), (5, .int v5)]) (S' := [.long v2, .long x2]) rfl ?_
  refine zco_lcmp_ne (tgt := 67) (zdk (cc := cX12_named) (q := (54, .lcmp, 1)) tkX12_named 31 rfl) (zdk (cc := cX12_named) (q := (55, .ifCond .ne 12, 3)) tkX12_named 32 rfl) rfl ?_ ?_
  · exact zco_sub [0, 1, 2, 3, 4] rfl (coX12_named_J67 l e he v0 v1 v2 v4 v5 r8 hr8 r17 hr17)
  · exact zco_sub [3, 4] rfl (coX12_named_J58 l e he v4 v5)
set_option maxHeartbeats 2000000 in
set_option maxRecDepth 20000 in
theorem coX12_named_B17 (l : Launch) (e : Nat) (he : 4 ≤ e) (v0 : Nat) (v1 : Int32) (v2 : Int64) (v4 : Int32) (r8 : Int32 → zM) (hr8 : ∀ x : Int32, zCo l (e + 1) 0 0 iX12_named 8 [(0, .ref v0), (1, .int v1), (2, .long v2), (4, .int x)] [] (r8 x)) (r17 : Int32 → zM) (hr17 : ∀ x : Int32, zCo l (e + 1) 0 0 iX12_named 17 [(0, .ref v0), (1, .int v1), (2, .long v2), (4, .int v4), (5, .int x)] [] (r17 x)) (v5 : Int32) : zCo l (e + 1) 0 0 iX12_named 17 [(0, .ref v0), (1, .int v1), (2, .long v2), (4, .int v4), (5, .int v5)] [] (X12_named_B17 r8 v0 v1 v2 v4 r17 v5) := by
  unfold X12_named_B17
  refine zco_p tkX12_named 10 2 (pc' := 20) (L' := [(0, .ref v0), (1, .int v1), (2, .long v2), (4, .int v4), (5, .int v5)]) (S' := [.ref v0, .int v5]) rfl ?_
  refine zco_gr fl_12_105 rfl (zdk (cc := cX12_named) (q := (20, .getfield 105, 3)) tkX12_named 12 rfl) (fun x1 => ?_)
  refine zco_p tkX12_named 13 1 (pc' := 25) (L' := [(0, .ref v0), (1, .int v1), (2, .long v2), (4, .int v4), (5, .int v5)]) (S' := [.int v4, .ref x1, .int v5]) rfl ?_
  refine zco_iaload (zdk (cc := cX12_named) (q := (25, .iaload, 1)) tkX12_named 14 rfl) (fun x2 => ?_)
  refine zco_icmp_ge (tgt := 73) (zdk (cc := cX12_named) (q := (26, .if_icmp .ge 47, 3)) tkX12_named 15 rfl) rfl ?_ ?_
  · exact zco_sub [0, 1, 2, 3] rfl (coX12_named_J73 l e he v0 v1 v2 v4 r8 hr8)
  · refine zco_p tkX12_named 16 2 (pc' := 31) (L' := [(0, .ref v0), (1, .int v1), (2, .long v2), (4, .int v4), (5, .int v5)]) (S' := [.int ((-1)), .int v1]) rfl ?_
    refine zco_icmp_eq (tgt := 40) (zdk (cc := cX12_named) (q := (31, .if_icmp .eq 9, 3)) tkX12_named 18 rfl) rfl ?_ ?_
    · exact zco_sub [0, 1, 2, 3, 4] rfl (coX12_named_J40 l e he v0 v1 v2 v4 v5 r8 hr8 r17 hr17)
    · refine zco_p tkX12_named 19 2 (pc' := 37) (L' := [(0, .ref v0), (1, .int v1), (2, .long v2), (4, .int v4), (5, .int v5)]) (S' := [.int v1, .int v4]) rfl ?_
      refine zco_icmp_ne (tgt := 67) (zdk (cc := cX12_named) (q := (37, .if_icmp .ne 30, 3)) tkX12_named 21 rfl) rfl ?_ ?_
      · exact zco_sub [0, 1, 2, 3, 4] rfl (coX12_named_J67 l e he v0 v1 v2 v4 v5 r8 hr8 r17 hr17)
      · exact zco_sub [0, 1, 2, 3, 4] rfl (coX12_named_J40 l e he v0 v1 v2 v4 v5 r8 hr8 r17 hr17)
set_option maxHeartbeats 2000000 in
set_option maxRecDepth 20000 in
theorem coX12_named_B8 (l : Launch) (e : Nat) (he : 4 ≤ e) (v0 : Nat) (v1 : Int32) (v2 : Int64) (r8 : Int32 → zM) (hr8 : ∀ x : Int32, zCo l (e + 1) 0 0 iX12_named 8 [(0, .ref v0), (1, .int v1), (2, .long v2), (4, .int x)] [] (r8 x)) (v4 : Int32) : zCo l (e + 1) 0 0 iX12_named 8 [(0, .ref v0), (1, .int v1), (2, .long v2), (4, .int v4)] [] (X12_named_B8 v0 v1 v2 r8 v4) := by
  unfold X12_named_B8
  refine zco_p tkX12_named 5 2 (pc' := 11) (L' := [(0, .ref v0), (1, .int v1), (2, .long v2), (4, .int v4)]) (S' := [.int 2, .int v4]) rfl ?_
  refine zco_icmp_ge (tgt := 79) (zdk (cc := cX12_named) (q := (11, .if_icmp .ge 68, 3)) tkX12_named 7 rfl) rfl ?_ ?_
  · exact zco_sub [0] rfl (coX12_named_J79 l e he v0)
  · refine zco_p tkX12_named 8 2 (pc' := 17) (L' := [(5, .int 0), (0, .ref v0), (1, .int v1), (2, .long v2), (4, .int v4)]) (S' := []) rfl ?_
    exact zco_sub [1, 2, 3, 4, 0] rfl (zco_fix (Lf := fun x : Int32 => [(0, .ref v0), (1, .int v1), (2, .long v2), (4, .int v4), (5, .int x)]) (Sf := fun _ => []) (fun r hr x => coX12_named_B17 l e he v0 v1 v2 v4 r8 hr8 r hr x) zFU 0)
set_option maxHeartbeats 2000000 in
set_option maxRecDepth 20000 in
theorem coX12_named (l : Launch) (e : Nat) (he : 4 ≤ e) (v0 : Nat) (v1 : Int32) : zCo l (e + 1) 0 0 iX12_named 0 [(0, .ref v0), (1, .int v1)] [] (X12_named v0 v1) := by
  unfold X12_named
  refine zco_p tkX12_named 0 1 (pc' := 1) (L' := [(0, .ref v0), (1, .int v1)]) (S' := [.ref v0]) rfl ?_
  refine zco_Vl (rc := 0) (rs := 0) (mc := 0) (ms := 0) (As := []) (S := []) vmX12_name (mtX12_name l e (by omega) v0) q_1778 rfl rfl (Nat.le_of_ble_eq_true rfl) (zdk (cc := cX12_named) (q := (1, .invokevirtual 337, 3)) tkX12_named 1 rfl) (fun y1 => ?_)
  refine zco_p tkX12_named 2 3 (pc' := 8) (L' := [(4, .int 0), (2, .long y1), (0, .ref v0), (1, .int v1)]) (S' := []) rfl ?_
  exact zco_sub [2, 3, 1, 0] rfl (zco_fix (Lf := fun x : Int32 => [(0, .ref v0), (1, .int v1), (2, .long y1), (4, .int x)]) (Sf := fun _ => []) (fun r hr x => coX12_named_B8 l e he v0 v1 y1 r hr x) zFU 0)
theorem mtX12_named (l : Launch) (d : Nat) (hd : 5 ≤ d) (v0 : Nat) (v1 : Int32) : zMet l d 0 0 yX12_named cX12_named 6 (Option.some .int) [.ref v0, .int v1] (X12_named v0 v1) := by
  obtain ⟨e, rfl⟩ : ∃ e, d = e + 1 := ⟨d - 1, by omega⟩
  exact zmet_of (own := RX12) (ini := false) (by decide +kernel) rfl (fun _ => by contradiction) (Nat.le_of_ble_eq_true rfl) (coX12_named l e (by omega) v0 v1)
abbrev iX12_kinTold : zI := (RX12, cX12_kinTold, 4, (Option.none : Option FieldType), false)
def tX12_kinTold : List (Nat × Instr × Nat) := [(0, .aload_n 0, 1), (1, .iconst (-1), 1), (2, .invokevirtual 349, 3), (5, .istore_n 1, 1), (6, .aload_n 0, 1), (7, .iconst 1, 1), (8, .iload_n 1, 1), (9, .bipush 6, 2), (11, .idiv, 1), (12, .isub, 1), (13, .invokevirtual 349, 3), (16, .istore_n 2, 1), (17, .iload_n 1, 1), (18, .bipush 6, 2), (20, .if_icmp .ge 15, 3), (23, .bipush 6, 2), (25, .iload_n 1, 1), (26, .imul, 1), (27, .iload_n 2, 1), (28, .bipush 6, 2), (30, .irem, 1), (31, .iadd, 1), (32, .goto 12, 3), (35, .bipush 6, 2), (37, .iload_n 2, 1), (38, .imul, 1), (39, .iload_n 1, 1), (40, .bipush 6, 2), (42, .irem, 1), (43, .iadd, 1), (44, .istore_n 3, 1), (45, .aload_n 0, 1), (46, .getfield 270, 3), (49, .ifCond .ne 21, 3), (52, .aload_n 0, 1), (53, .getfield 115, 3), (56, .iload_n 3, 1), (57, .baload, 1), (58, .ifCond .eq 12, 3), (61, .aload_n 0, 1), (62, .iconst 3, 1), (63, .aload_n 0, 1), (64, .getfield 321, 3), (67, .invokevirtual 300, 3), (70, .aload_n 0, 1), (71, .getfield 270, 3), (74, .ifCond .eq 4, 3), (77, .return_, 1), (78, .aload_n 0, 1), (79, .getfield 115, 3), (82, .iload_n 3, 1), (83, .iconst 1, 1), (84, .bastore, 1), (85, .aload_n 0, 1), (86, .getfield 105, 3), (89, .iconst 2, 1), (90, .dup2, 1), (91, .iaload, 1), (92, .iconst 1, 1), (93, .iadd, 1), (94, .iastore, 1), (95, .return_, 1)]
set_option maxRecDepth 100000 in
theorem tkX12_kinTold : ∀ q ∈ tX12_kinTold, decode cX12_kinTold q.1 = .ok q.2 := by decide +kernel
theorem vmX12_kinTold : zVM yX12_kinTold cX12_kinTold 4 (Option.none : Option FieldType) 0 12 := ⟨kX12_kinTold, q_1804, q_57, q_162, ⟨_, rfl, rfl⟩, by decide +kernel, by decide⟩
set_option maxHeartbeats 2000000 in
set_option maxRecDepth 20000 in
theorem coX12_kinTold_J70 (l : Launch) (e : Nat) (he : 5 ≤ e) (v0 : Nat) (v3 : Int32) : zCo l (e + 1) 0 0 iX12_kinTold 70 [(0, .ref v0), (3, .int v3)] [] (X12_kinTold_J70 v0 v3) := by
  unfold X12_kinTold_J70
  refine zco_p tkX12_kinTold 44 1 (pc' := 71) (L' := [(0, .ref v0), (3, .int v3)]) (S' := [.ref v0]) rfl ?_
  refine zco_gi fl_12_270 rfl (zdk (cc := cX12_kinTold) (q := (71, .getfield 270, 3)) tkX12_kinTold 45 rfl) (fun x1 => ?_)
  refine zco_if_eq (tgt := 78) (zdk (cc := cX12_kinTold) (q := (74, .ifCond .eq 4, 3)) tkX12_kinTold 46 rfl) rfl ?_ ?_
  · refine zco_p tkX12_kinTold 48 1 (pc' := 79) (L' := [(0, .ref v0), (3, .int v3)]) (S' := [.ref v0]) rfl ?_
    refine zco_gr fl_12_115 rfl (zdk (cc := cX12_kinTold) (q := (79, .getfield 115, 3)) tkX12_kinTold 49 rfl) (fun x2 => ?_)
    refine zco_p tkX12_kinTold 50 2 (pc' := 84) (L' := [(0, .ref v0), (3, .int v3)]) (S' := [.int 1, .int v3, .ref x2]) rfl ?_
    refine zco_bastore (zdk (cc := cX12_kinTold) (q := (84, .bastore, 1)) tkX12_kinTold 52 rfl) ?_
    refine zco_p tkX12_kinTold 53 1 (pc' := 86) (L' := [(0, .ref v0), (3, .int v3)]) (S' := [.ref v0]) rfl ?_
    refine zco_gr fl_12_105 rfl (zdk (cc := cX12_kinTold) (q := (86, .getfield 105, 3)) tkX12_kinTold 54 rfl) (fun x3 => ?_)
    refine zco_p tkX12_kinTold 55 2 (pc' := 91) (L' := [(0, .ref v0), (3, .int v3)]) (S' := [.int 2, .ref x3, .int 2, .ref x3]) rfl ?_
    refine zco_iaload (zdk (cc := cX12_kinTold) (q := (91, .iaload, 1)) tkX12_kinTold 57 rfl) (fun x4 => ?_)
    refine zco_p tkX12_kinTold 58 2 (pc' := 94) (L' := [(0, .ref v0), (3, .int v3)]) (S' := [.int (x4 + 1), .int 2, .ref x3]) rfl ?_
    refine zco_iastore (zdk (cc := cX12_kinTold) (q := (94, .iastore, 1)) tkX12_kinTold 60 rfl) ?_
    exact zco_vret rfl rfl rfl (zdk (cc := cX12_kinTold) (q := (95, .return_, 1)) tkX12_kinTold 61 rfl)
  · exact zco_vret rfl rfl rfl (zdk (cc := cX12_kinTold) (q := (77, .return_, 1)) tkX12_kinTold 47 rfl)
set_option maxHeartbeats 2000000 in
set_option maxRecDepth 20000 in
theorem coX12_kinTold_J44 (l : Launch) (e : Nat) (he : 5 ≤ e) (v0 : Nat) (s0 : Int32) : zCo l (e + 1) 0 0 iX12_kinTold 44 [(0, .ref v0)] [.int s0] (X12_kinTold_J44 v0 s0) := by
  unfold X12_kinTold_J44
  refine zco_p tkX12_kinTold 30 2 (pc' := 46) (L' := [(3, .int s0), (0, .ref v0)]) (S' := [.ref v0]) rfl ?_
  refine zco_gi fl_12_270 rfl (zdk (cc := cX12_kinTold) (q := (46, .getfield 270, 3)) tkX12_kinTold 32 rfl) (fun x1 => ?_)
  refine zco_if_ne (tgt := 70) (zdk (cc := cX12_kinTold) (q := (49, .ifCond .ne 21, 3)) tkX12_kinTold 33 rfl) rfl ?_ ?_
  · exact zco_sub [1, 0] rfl (coX12_kinTold_J70 l e he v0 s0)
  · refine zco_p tkX12_kinTold 34 1 (pc' := 53) (L' := [(3, .int s0), (0, .ref v0)]) (S' := [.ref v0]) rfl ?_
    refine zco_gr fl_12_115 rfl (zdk (cc := cX12_kinTold) (q := (53, .getfield 115, 3)) tkX12_kinTold 35 rfl) (fun x2 => ?_)
    refine zco_p tkX12_kinTold 36 1 (pc' := 57) (L' := [(3, .int s0), (0, .ref v0)]) (S' := [.int s0, .ref x2]) rfl ?_
    refine zco_baload (zdk (cc := cX12_kinTold) (q := (57, .baload, 1)) tkX12_kinTold 37 rfl) (fun x3 => ?_)
    refine zco_if_eq (tgt := 70) (zdk (cc := cX12_kinTold) (q := (58, .ifCond .eq 12, 3)) tkX12_kinTold 38 rfl) rfl ?_ ?_
    · exact zco_sub [1, 0] rfl (coX12_kinTold_J70 l e he v0 s0)
    · refine zco_p tkX12_kinTold 39 3 (pc' := 64) (L' := [(3, .int s0), (0, .ref v0)]) (S' := [.ref v0, .int 3, .ref v0]) rfl ?_
      refine zco_gi fl_12_321 rfl (zdk (cc := cX12_kinTold) (q := (64, .getfield 321, 3)) tkX12_kinTold 42 rfl) (fun x4 => ?_)
      refine zco_Vv (rc := 0) (rs := 0) (mc := 0) (ms := 0) (As := [.int 3, .int x4]) (S := []) vmX12_fail (mtX12_fail l e (by omega) v0 3 x4) q_1759 rfl rfl (Nat.le_of_ble_eq_true rfl) (zdk (cc := cX12_kinTold) (q := (67, .invokevirtual 300, 3)) tkX12_kinTold 43 rfl) ?_
      exact zco_sub [1, 0] rfl (coX12_kinTold_J70 l e he v0 s0)
set_option maxHeartbeats 2000000 in
set_option maxRecDepth 20000 in
theorem coX12_kinTold (l : Launch) (e : Nat) (he : 5 ≤ e) (v0 : Nat) : zCo l (e + 1) 0 0 iX12_kinTold 0 [(0, .ref v0)] [] (X12_kinTold v0) := by
  unfold X12_kinTold
  refine zco_p tkX12_kinTold 0 2 (pc' := 2) (L' := [(0, .ref v0)]) (S' := [.int ((-1)), .ref v0]) rfl ?_
  refine zco_Vi (rc := 0) (rs := 0) (mc := 0) (ms := 0) (As := [.int ((-1))]) (S := []) vmX12_named (mtX12_named l e (by omega) v0 ((-1))) q_1806 rfl rfl (Nat.le_of_ble_eq_true rfl) (zdk (cc := cX12_kinTold) (q := (2, .invokevirtual 349, 3)) tkX12_kinTold 2 rfl) (fun y1 => ?_)
  refine zco_p tkX12_kinTold 3 5 (pc' := 11) (L' := [(1, .int y1), (0, .ref v0)]) (S' := [.int 6, .int y1, .int 1, .ref v0]) rfl ?_
  refine zco_idiv (zdk (cc := cX12_kinTold) (q := (11, .idiv, 1)) tkX12_kinTold 8 rfl) ?_
  refine zco_p tkX12_kinTold 9 1 (pc' := 13) (L' := [(1, .int y1), (0, .ref v0)]) (S' := [.int (1 - (y1 / 6)), .ref v0]) rfl ?_
  refine zco_Vi (rc := 0) (rs := 0) (mc := 0) (ms := 0) (As := [.int (1 - (y1 / 6))]) (S := []) vmX12_named (mtX12_named l e (by omega) v0 (1 - (y1 / 6))) q_1806 rfl rfl (Nat.le_of_ble_eq_true rfl) (zdk (cc := cX12_kinTold) (q := (13, .invokevirtual 349, 3)) tkX12_kinTold 10 rfl) (fun y2 => ?_)
  refine zco_p tkX12_kinTold 11 3 (pc' := 20) (L' := [(2, .int y2), (1, .int y1), (0, .ref v0)]) (S' := [.int 6, .int y1]) rfl ?_
  refine zco_icmp_ge (tgt := 35) (zdk (cc := cX12_kinTold) (q := (20, .if_icmp .ge 15, 3)) tkX12_kinTold 14 rfl) rfl ?_ ?_
  · refine zco_p tkX12_kinTold 23 5 (pc' := 42) (L' := [(2, .int y2), (1, .int y1), (0, .ref v0)]) (S' := [.int 6, .int y1, .int (6 * y2)]) rfl ?_
    refine zco_irem (zdk (cc := cX12_kinTold) (q := (42, .irem, 1)) tkX12_kinTold 28 rfl) ?_
    refine zco_p tkX12_kinTold 29 1 (pc' := 44) (L' := [(2, .int y2), (1, .int y1), (0, .ref v0)]) (S' := [.int ((6 * y2) + (y1 - y1 / 6 * 6))]) rfl ?_
    exact zco_sub [2] rfl (coX12_kinTold_J44 l e he v0 ((6 * y2) + (y1 - y1 / 6 * 6)))
  · refine zco_p tkX12_kinTold 15 5 (pc' := 30) (L' := [(2, .int y2), (1, .int y1), (0, .ref v0)]) (S' := [.int 6, .int y2, .int (6 * y1)]) rfl ?_
    refine zco_irem (zdk (cc := cX12_kinTold) (q := (30, .irem, 1)) tkX12_kinTold 20 rfl) ?_
    refine zco_p tkX12_kinTold 21 2 (pc' := 44) (L' := [(2, .int y2), (1, .int y1), (0, .ref v0)]) (S' := [.int ((6 * y1) + (y2 - y2 / 6 * 6))]) rfl ?_
    exact zco_sub [2] rfl (coX12_kinTold_J44 l e he v0 ((6 * y1) + (y2 - y2 / 6 * 6)))
theorem mtX12_kinTold (l : Launch) (d : Nat) (hd : 6 ≤ d) (v0 : Nat) : zMet l d 0 0 yX12_kinTold cX12_kinTold 4 (Option.none : Option FieldType) [.ref v0] (X12_kinTold v0) := by
  obtain ⟨e, rfl⟩ : ∃ e, d = e + 1 := ⟨d - 1, by omega⟩
  exact zmet_of (own := RX12) (ini := false) (by decide +kernel) rfl (fun _ => by contradiction) (Nat.le_of_ble_eq_true rfl) (coX12_kinTold l e (by omega) v0)
abbrev iX12_feltTold : zI := (RX12, cX12_feltTold, 5, (Option.none : Option FieldType), false)
def tX12_feltTold : List (Nat × Instr × Nat) := [(0, .aload_n 0, 1), (1, .iconst (-1), 1), (2, .invokevirtual 349, 3), (5, .istore_n 2, 1), (6, .aload_n 0, 1), (7, .iconst 1, 1), (8, .iload_n 2, 1), (9, .bipush 6, 2), (11, .idiv, 1), (12, .isub, 1), (13, .invokevirtual 349, 3), (16, .istore_n 3, 1), (17, .aload_n 0, 1), (18, .iconst 0, 1), (19, .bipush 9, 2), (21, .invokevirtual 345, 3), (24, .istore 4, 2), (26, .aload_n 0, 1), (27, .getfield 270, 3), (30, .ifCond .ne 16, 3), (33, .aload_n 1, 1), (34, .bipush 6, 2), (36, .iload_n 2, 1), (37, .imul, 1), (38, .iload_n 3, 1), (39, .bipush 6, 2), (41, .irem, 1), (42, .iadd, 1), (43, .iload 4, 2), (45, .iastore, 1), (46, .return_, 1)]
set_option maxRecDepth 100000 in
theorem tkX12_feltTold : ∀ q ∈ tX12_feltTold, decode cX12_feltTold q.1 = .ok q.2 := by decide +kernel
theorem vmX12_feltTold : zVM yX12_feltTold cX12_feltTold 5 (Option.none : Option FieldType) 1 12 := ⟨kX12_feltTold, q_1812, q_59, q_162, ⟨_, rfl, rfl⟩, by decide +kernel, by decide⟩
set_option maxHeartbeats 2000000 in
set_option maxRecDepth 20000 in
theorem coX12_feltTold (l : Launch) (e : Nat) (he : 5 ≤ e) (v0 : Nat) (v1 : Nat) : zCo l (e + 1) 0 0 iX12_feltTold 0 [(0, .ref v0), (1, .ref v1)] [] (X12_feltTold v0 v1) := by
  unfold X12_feltTold
  refine zco_p tkX12_feltTold 0 2 (pc' := 2) (L' := [(0, .ref v0), (1, .ref v1)]) (S' := [.int ((-1)), .ref v0]) rfl ?_
  refine zco_Vi (rc := 0) (rs := 0) (mc := 0) (ms := 0) (As := [.int ((-1))]) (S := []) vmX12_named (mtX12_named l e (by omega) v0 ((-1))) q_1806 rfl rfl (Nat.le_of_ble_eq_true rfl) (zdk (cc := cX12_feltTold) (q := (2, .invokevirtual 349, 3)) tkX12_feltTold 2 rfl) (fun y1 => ?_)
  refine zco_p tkX12_feltTold 3 5 (pc' := 11) (L' := [(2, .int y1), (0, .ref v0), (1, .ref v1)]) (S' := [.int 6, .int y1, .int 1, .ref v0]) rfl ?_
  refine zco_idiv (zdk (cc := cX12_feltTold) (q := (11, .idiv, 1)) tkX12_feltTold 8 rfl) ?_
  refine zco_p tkX12_feltTold 9 1 (pc' := 13) (L' := [(2, .int y1), (0, .ref v0), (1, .ref v1)]) (S' := [.int (1 - (y1 / 6)), .ref v0]) rfl ?_
  refine zco_Vi (rc := 0) (rs := 0) (mc := 0) (ms := 0) (As := [.int (1 - (y1 / 6))]) (S := []) vmX12_named (mtX12_named l e (by omega) v0 (1 - (y1 / 6))) q_1806 rfl rfl (Nat.le_of_ble_eq_true rfl) (zdk (cc := cX12_feltTold) (q := (13, .invokevirtual 349, 3)) tkX12_feltTold 10 rfl) (fun y2 => ?_)
  refine zco_p tkX12_feltTold 11 4 (pc' := 21) (L' := [(3, .int y2), (2, .int y1), (0, .ref v0), (1, .ref v1)]) (S' := [.int 9, .int 0, .ref v0]) rfl ?_
  refine zco_Vi (rc := 0) (rs := 0) (mc := 0) (ms := 0) (As := [.int 0, .int 9]) (S := []) vmX12_number (mtX12_number l e (by omega) v0 0 9) q_1792 rfl rfl (Nat.le_of_ble_eq_true rfl) (zdk (cc := cX12_feltTold) (q := (21, .invokevirtual 345, 3)) tkX12_feltTold 15 rfl) (fun y3 => ?_)
  refine zco_p tkX12_feltTold 16 2 (pc' := 27) (L' := [(4, .int y3), (3, .int y2), (2, .int y1), (0, .ref v0), (1, .ref v1)]) (S' := [.ref v0]) rfl ?_
  refine zco_gi fl_12_270 rfl (zdk (cc := cX12_feltTold) (q := (27, .getfield 270, 3)) tkX12_feltTold 18 rfl) (fun x4 => ?_)
  refine zco_if_ne (tgt := 46) (zdk (cc := cX12_feltTold) (q := (30, .ifCond .ne 16, 3)) tkX12_feltTold 19 rfl) rfl ?_ ?_
  · exact zco_vret rfl rfl rfl (zdk (cc := cX12_feltTold) (q := (46, .return_, 1)) tkX12_feltTold 30 rfl)
  · refine zco_p tkX12_feltTold 20 6 (pc' := 41) (L' := [(4, .int y3), (3, .int y2), (2, .int y1), (0, .ref v0), (1, .ref v1)]) (S' := [.int 6, .int y2, .int (6 * y1), .ref v1]) rfl ?_
    refine zco_irem (zdk (cc := cX12_feltTold) (q := (41, .irem, 1)) tkX12_feltTold 26 rfl) ?_
    refine zco_p tkX12_feltTold 27 2 (pc' := 45) (L' := [(4, .int y3), (3, .int y2), (2, .int y1), (0, .ref v0), (1, .ref v1)]) (S' := [.int y3, .int ((6 * y1) + (y2 - y2 / 6 * 6)), .ref v1]) rfl ?_
    refine zco_iastore (zdk (cc := cX12_feltTold) (q := (45, .iastore, 1)) tkX12_feltTold 29 rfl) ?_
    exact zco_vret rfl rfl rfl (zdk (cc := cX12_feltTold) (q := (46, .return_, 1)) tkX12_feltTold 30 rfl)
theorem mtX12_feltTold (l : Launch) (d : Nat) (hd : 6 ≤ d) (v0 : Nat) (v1 : Nat) : zMet l d 0 0 yX12_feltTold cX12_feltTold 5 (Option.none : Option FieldType) [.ref v0, .ref v1] (X12_feltTold v0 v1) := by
  obtain ⟨e, rfl⟩ : ∃ e, d = e + 1 := ⟨d - 1, by omega⟩
  exact zmet_of (own := RX12) (ini := false) (by decide +kernel) rfl (fun _ => by contradiction) (Nat.le_of_ble_eq_true rfl) (coX12_feltTold l e (by omega) v0 v1)
abbrev iX12_qOpens : zI := (RX12, cX12_qOpens, 3, (Option.none : Option FieldType), false)
def tX12_qOpens : List (Nat × Instr × Nat) := [(0, .aload_n 0, 1), (1, .getfield 270, 3), (4, .ifCond .eq 4, 3), (7, .return_, 1), (8, .aload_n 0, 1), (9, .getfield 359, 3), (12, .bipush 6, 2), (14, .if_icmp .ne 10, 3), (17, .aload_n 0, 1), (18, .iconst 4, 1), (19, .iload_n 2, 1), (20, .invokevirtual 300, 3), (23, .return_, 1), (24, .aload_n 0, 1), (25, .dup, 1), (26, .getfield 359, 3), (29, .iconst 1, 1), (30, .iadd, 1), (31, .putfield 359, 3), (34, .aload_n 0, 1), (35, .getfield 258, 3), (38, .aload_n 0, 1), (39, .getfield 356, 3), (42, .iload_n 1, 1), (43, .iastore, 1), (44, .aload_n 0, 1), (45, .dup, 1), (46, .getfield 356, 3), (49, .iconst 1, 1), (50, .iadd, 1), (51, .putfield 356, 3), (54, .return_, 1)]
set_option maxRecDepth 100000 in
theorem tkX12_qOpens : ∀ q ∈ tX12_qOpens, decode cX12_qOpens q.1 = .ok q.2 := by decide +kernel
theorem vmX12_qOpens : zVM yX12_qOpens cX12_qOpens 3 (Option.none : Option FieldType) 2 12 := ⟨kX12_qOpens, q_1824, q_62, q_162, ⟨_, rfl, rfl⟩, by decide +kernel, by decide⟩
set_option maxHeartbeats 2000000 in
set_option maxRecDepth 20000 in
theorem coX12_qOpens (l : Launch) (e : Nat) (he : 1 ≤ e) (v0 : Nat) (v1 : Int32) (v2 : Int32) : zCo l (e + 1) 0 0 iX12_qOpens 0 [(0, .ref v0), (1, .int v1), (2, .int v2)] [] (X12_qOpens v0 v1 v2) := by
  unfold X12_qOpens
  refine zco_p tkX12_qOpens 0 1 (pc' := 1) (L' := [(0, .ref v0), (1, .int v1), (2, .int v2)]) (S' := [.ref v0]) rfl ?_
  refine zco_gi fl_12_270 rfl (zdk (cc := cX12_qOpens) (q := (1, .getfield 270, 3)) tkX12_qOpens 1 rfl) (fun x1 => ?_)
  refine zco_if_eq (tgt := 8) (zdk (cc := cX12_qOpens) (q := (4, .ifCond .eq 4, 3)) tkX12_qOpens 2 rfl) rfl ?_ ?_
  · refine zco_p tkX12_qOpens 4 1 (pc' := 9) (L' := [(0, .ref v0), (1, .int v1), (2, .int v2)]) (S' := [.ref v0]) rfl ?_
    refine zco_gi fl_12_359 rfl (zdk (cc := cX12_qOpens) (q := (9, .getfield 359, 3)) tkX12_qOpens 5 rfl) (fun x2 => ?_)
    refine zco_p tkX12_qOpens 6 1 (pc' := 14) (L' := [(0, .ref v0), (1, .int v1), (2, .int v2)]) (S' := [.int 6, .int x2]) rfl ?_
    refine zco_icmp_ne (tgt := 24) (zdk (cc := cX12_qOpens) (q := (14, .if_icmp .ne 10, 3)) tkX12_qOpens 7 rfl) rfl ?_ ?_
    · refine zco_p tkX12_qOpens 13 2 (pc' := 26) (L' := [(0, .ref v0), (1, .int v1), (2, .int v2)]) (S' := [.ref v0, .ref v0]) rfl ?_
      refine zco_gi fl_12_359 rfl (zdk (cc := cX12_qOpens) (q := (26, .getfield 359, 3)) tkX12_qOpens 15 rfl) (fun x3 => ?_)
      refine zco_p tkX12_qOpens 16 2 (pc' := 31) (L' := [(0, .ref v0), (1, .int v1), (2, .int v2)]) (S' := [.int (x3 + 1), .ref v0]) rfl ?_
      refine zco_pi fl_12_359 rfl rfl (zdk (cc := cX12_qOpens) (q := (31, .putfield 359, 3)) tkX12_qOpens 18 rfl) ?_
      refine zco_p tkX12_qOpens 19 1 (pc' := 35) (L' := [(0, .ref v0), (1, .int v1), (2, .int v2)]) (S' := [.ref v0]) rfl ?_
      refine zco_gr fl_12_258 rfl (zdk (cc := cX12_qOpens) (q := (35, .getfield 258, 3)) tkX12_qOpens 20 rfl) (fun x4 => ?_)
      refine zco_p tkX12_qOpens 21 1 (pc' := 39) (L' := [(0, .ref v0), (1, .int v1), (2, .int v2)]) (S' := [.ref v0, .ref x4]) rfl ?_
      refine zco_gi fl_12_356 rfl (zdk (cc := cX12_qOpens) (q := (39, .getfield 356, 3)) tkX12_qOpens 22 rfl) (fun x5 => ?_)
      refine zco_p tkX12_qOpens 23 1 (pc' := 43) (L' := [(0, .ref v0), (1, .int v1), (2, .int v2)]) (S' := [.int v1, .int x5, .ref x4]) rfl ?_
      refine zco_iastore (zdk (cc := cX12_qOpens) (q := (43, .iastore, 1)) tkX12_qOpens 24 rfl) ?_
      refine zco_p tkX12_qOpens 25 2 (pc' := 46) (L' := [(0, .ref v0), (1, .int v1), (2, .int v2)]) (S' := [.ref v0, .ref v0]) rfl ?_
      refine zco_gi fl_12_356 rfl (zdk (cc := cX12_qOpens) (q := (46, .getfield 356, 3)) tkX12_qOpens 27 rfl) (fun x6 => ?_)
      refine zco_p tkX12_qOpens 28 2 (pc' := 51) (L' := [(0, .ref v0), (1, .int v1), (2, .int v2)]) (S' := [.int (x6 + 1), .ref v0]) rfl ?_
      refine zco_pi fl_12_356 rfl rfl (zdk (cc := cX12_qOpens) (q := (51, .putfield 356, 3)) tkX12_qOpens 30 rfl) ?_
      exact zco_vret rfl rfl rfl (zdk (cc := cX12_qOpens) (q := (54, .return_, 1)) tkX12_qOpens 31 rfl)
    · refine zco_p tkX12_qOpens 8 3 (pc' := 20) (L' := [(0, .ref v0), (1, .int v1), (2, .int v2)]) (S' := [.int v2, .int 4, .ref v0]) rfl ?_
      refine zco_Vv (rc := 0) (rs := 0) (mc := 0) (ms := 0) (As := [.int 4, .int v2]) (S := []) vmX12_fail (mtX12_fail l e (by omega) v0 4 v2) q_1759 rfl rfl (Nat.le_of_ble_eq_true rfl) (zdk (cc := cX12_qOpens) (q := (20, .invokevirtual 300, 3)) tkX12_qOpens 11 rfl) ?_
      exact zco_vret rfl rfl rfl (zdk (cc := cX12_qOpens) (q := (23, .return_, 1)) tkX12_qOpens 12 rfl)
  · exact zco_vret rfl rfl rfl (zdk (cc := cX12_qOpens) (q := (7, .return_, 1)) tkX12_qOpens 3 rfl)
theorem mtX12_qOpens (l : Launch) (d : Nat) (hd : 2 ≤ d) (v0 : Nat) (v1 : Int32) (v2 : Int32) : zMet l d 0 0 yX12_qOpens cX12_qOpens 3 (Option.none : Option FieldType) [.ref v0, .int v1, .int v2] (X12_qOpens v0 v1 v2) := by
  obtain ⟨e, rfl⟩ : ∃ e, d = e + 1 := ⟨d - 1, by omega⟩
  exact zmet_of (own := RX12) (ini := false) (by decide +kernel) rfl (fun _ => by contradiction) (Nat.le_of_ble_eq_true rfl) (coX12_qOpens l e (by omega) v0 v1 v2)
abbrev iX12_qCode : zI := (RX12, cX12_qCode, 2, (Option.none : Option FieldType), false)
def tX12_qCode : List (Nat × Instr × Nat) := [(0, .aload_n 0, 1), (1, .getfield 255, 3), (4, .aload_n 0, 1), (5, .getfield 353, 3), (8, .iload_n 1, 1), (9, .iastore, 1), (10, .aload_n 0, 1), (11, .dup, 1), (12, .getfield 353, 3), (15, .iconst 1, 1), (16, .iadd, 1), (17, .putfield 353, 3), (20, .return_, 1)]
set_option maxRecDepth 100000 in
theorem tkX12_qCode : ∀ q ∈ tX12_qCode, decode cX12_qCode q.1 = .ok q.2 := by decide +kernel
theorem vmX12_qCode : zVM yX12_qCode cX12_qCode 2 (Option.none : Option FieldType) 1 12 := ⟨kX12_qCode, q_1832, q_64, q_162, ⟨_, rfl, rfl⟩, by decide +kernel, by decide⟩
set_option maxHeartbeats 2000000 in
set_option maxRecDepth 20000 in
theorem coX12_qCode (l : Launch) (e : Nat) (he : 0 ≤ e) (v0 : Nat) (v1 : Int32) : zCo l (e + 1) 0 0 iX12_qCode 0 [(0, .ref v0), (1, .int v1)] [] (X12_qCode v0 v1) := by
  unfold X12_qCode
  refine zco_p tkX12_qCode 0 1 (pc' := 1) (L' := [(0, .ref v0), (1, .int v1)]) (S' := [.ref v0]) rfl ?_
  refine zco_gr fl_12_255 rfl (zdk (cc := cX12_qCode) (q := (1, .getfield 255, 3)) tkX12_qCode 1 rfl) (fun x1 => ?_)
  refine zco_p tkX12_qCode 2 1 (pc' := 5) (L' := [(0, .ref v0), (1, .int v1)]) (S' := [.ref v0, .ref x1]) rfl ?_
  refine zco_gi fl_12_353 rfl (zdk (cc := cX12_qCode) (q := (5, .getfield 353, 3)) tkX12_qCode 3 rfl) (fun x2 => ?_)
  refine zco_p tkX12_qCode 4 1 (pc' := 9) (L' := [(0, .ref v0), (1, .int v1)]) (S' := [.int v1, .int x2, .ref x1]) rfl ?_
  refine zco_iastore (zdk (cc := cX12_qCode) (q := (9, .iastore, 1)) tkX12_qCode 5 rfl) ?_
  refine zco_p tkX12_qCode 6 2 (pc' := 12) (L' := [(0, .ref v0), (1, .int v1)]) (S' := [.ref v0, .ref v0]) rfl ?_
  refine zco_gi fl_12_353 rfl (zdk (cc := cX12_qCode) (q := (12, .getfield 353, 3)) tkX12_qCode 8 rfl) (fun x3 => ?_)
  refine zco_p tkX12_qCode 9 2 (pc' := 17) (L' := [(0, .ref v0), (1, .int v1)]) (S' := [.int (x3 + 1), .ref v0]) rfl ?_
  refine zco_pi fl_12_353 rfl rfl (zdk (cc := cX12_qCode) (q := (17, .putfield 353, 3)) tkX12_qCode 11 rfl) ?_
  exact zco_vret rfl rfl rfl (zdk (cc := cX12_qCode) (q := (20, .return_, 1)) tkX12_qCode 12 rfl)
theorem mtX12_qCode (l : Launch) (d : Nat) (hd : 1 ≤ d) (v0 : Nat) (v1 : Int32) : zMet l d 0 0 yX12_qCode cX12_qCode 2 (Option.none : Option FieldType) [.ref v0, .int v1] (X12_qCode v0 v1) := by
  obtain ⟨e, rfl⟩ : ∃ e, d = e + 1 := ⟨d - 1, by omega⟩
  exact zmet_of (own := RX12) (ini := false) (by decide +kernel) rfl (fun _ => by contradiction) (Nat.le_of_ble_eq_true rfl) (coX12_qCode l e (by omega) v0 v1)
abbrev iX12_qWordHere : zI := (RX12, cX12_qWordHere, 1, (Option.some .int), false)
def tX12_qWordHere : List (Nat × Instr × Nat) := [(0, .aload_n 0, 1), (1, .aload_n 0, 1), (2, .getfield 213, 3), (5, .invokevirtual 293, 3), (8, .ifCond .eq 5, 3), (11, .iconst 0, 1), (12, .ireturn, 1), (13, .aload_n 0, 1), (14, .aload_n 0, 1), (15, .getfield 216, 3), (18, .invokevirtual 293, 3), (21, .ifCond .eq 5, 3), (24, .iconst 1, 1), (25, .ireturn, 1), (26, .aload_n 0, 1), (27, .aload_n 0, 1), (28, .getfield 219, 3), (31, .invokevirtual 293, 3), (34, .ifCond .eq 5, 3), (37, .iconst 2, 1), (38, .ireturn, 1), (39, .aload_n 0, 1), (40, .aload_n 0, 1), (41, .getfield 222, 3), (44, .invokevirtual 293, 3), (47, .ifCond .eq 5, 3), (50, .iconst 3, 1), (51, .ireturn, 1), (52, .aload_n 0, 1), (53, .aload_n 0, 1), (54, .getfield 225, 3), (57, .invokevirtual 293, 3), (60, .ifCond .eq 5, 3), (63, .iconst 4, 1), (64, .ireturn, 1), (65, .aload_n 0, 1), (66, .aload_n 0, 1), (67, .getfield 228, 3), (70, .invokevirtual 293, 3), (73, .ifCond .eq 5, 3), (76, .iconst 5, 1), (77, .ireturn, 1), (78, .aload_n 0, 1), (79, .aload_n 0, 1), (80, .getfield 231, 3), (83, .invokevirtual 293, 3), (86, .ifCond .eq 6, 3), (89, .bipush 6, 2), (91, .ireturn, 1), (92, .aload_n 0, 1), (93, .aload_n 0, 1), (94, .getfield 234, 3), (97, .invokevirtual 293, 3), (100, .ifCond .eq 6, 3), (103, .bipush 7, 2), (105, .ireturn, 1), (106, .aload_n 0, 1), (107, .aload_n 0, 1), (108, .getfield 237, 3), (111, .invokevirtual 293, 3), (114, .ifCond .eq 6, 3), (117, .bipush 8, 2), (119, .ireturn, 1), (120, .aload_n 0, 1), (121, .aload_n 0, 1), (122, .getfield 240, 3), (125, .invokevirtual 293, 3), (128, .ifCond .eq 6, 3), (131, .bipush 9, 2), (133, .ireturn, 1), (134, .aload_n 0, 1), (135, .aload_n 0, 1), (136, .getfield 243, 3), (139, .invokevirtual 293, 3), (142, .ifCond .eq 6, 3), (145, .bipush 10, 2), (147, .ireturn, 1), (148, .aload_n 0, 1), (149, .aload_n 0, 1), (150, .getfield 246, 3), (153, .invokevirtual 293, 3), (156, .ifCond .eq 6, 3), (159, .bipush 11, 2), (161, .ireturn, 1), (162, .aload_n 0, 1), (163, .aload_n 0, 1), (164, .getfield 249, 3), (167, .invokevirtual 293, 3), (170, .ifCond .eq 6, 3), (173, .bipush 12, 2), (175, .ireturn, 1), (176, .aload_n 0, 1), (177, .aload_n 0, 1), (178, .getfield 252, 3), (181, .invokevirtual 293, 3), (184, .ifCond .eq 6, 3), (187, .bipush 13, 2), (189, .ireturn, 1), (190, .iconst (-1), 1), (191, .ireturn, 1)]
set_option maxRecDepth 100000 in
theorem tkX12_qWordHere : ∀ q ∈ tX12_qWordHere, decode cX12_qWordHere q.1 = .ok q.2 := by decide +kernel
theorem vmX12_qWordHere : zVM yX12_qWordHere cX12_qWordHere 1 (Option.some .int) 0 12 := ⟨kX12_qWordHere, q_1848, q_68, q_162, ⟨_, rfl, rfl⟩, by decide +kernel, by decide⟩
set_option maxHeartbeats 2000000 in
set_option maxRecDepth 20000 in
theorem coX12_qWordHere (l : Launch) (e : Nat) (he : 2 ≤ e) (v0 : Nat) : zCo l (e + 1) 0 0 iX12_qWordHere 0 [(0, .ref v0)] [] (X12_qWordHere v0) := by
  unfold X12_qWordHere
  refine zco_p tkX12_qWordHere 0 2 (pc' := 2) (L' := [(0, .ref v0)]) (S' := [.ref v0, .ref v0]) rfl ?_
  refine zco_gr fl_12_213 rfl (zdk (cc := cX12_qWordHere) (q := (2, .getfield 213, 3)) tkX12_qWordHere 2 rfl) (fun x1 => ?_)
  refine zco_Vi (rc := 0) (rs := 0) (mc := 0) (ms := 0) (As := [.ref x1]) (S := []) vmX12_isHere (mtX12_isHere l e (by omega) v0 x1) q_1767 rfl rfl (Nat.le_of_ble_eq_true rfl) (zdk (cc := cX12_qWordHere) (q := (5, .invokevirtual 293, 3)) tkX12_qWordHere 3 rfl) (fun y2 => ?_)
  refine zco_if_eq (tgt := 13) (zdk (cc := cX12_qWordHere) (q := (8, .ifCond .eq 5, 3)) tkX12_qWordHere 4 rfl) rfl ?_ ?_
  · refine zco_p tkX12_qWordHere 7 2 (pc' := 15) (L' := [(0, .ref v0)]) (S' := [.ref v0, .ref v0]) rfl ?_
    refine zco_gr fl_12_216 rfl (zdk (cc := cX12_qWordHere) (q := (15, .getfield 216, 3)) tkX12_qWordHere 9 rfl) (fun x3 => ?_)
    refine zco_Vi (rc := 0) (rs := 0) (mc := 0) (ms := 0) (As := [.ref x3]) (S := []) vmX12_isHere (mtX12_isHere l e (by omega) v0 x3) q_1767 rfl rfl (Nat.le_of_ble_eq_true rfl) (zdk (cc := cX12_qWordHere) (q := (18, .invokevirtual 293, 3)) tkX12_qWordHere 10 rfl) (fun y4 => ?_)
    refine zco_if_eq (tgt := 26) (zdk (cc := cX12_qWordHere) (q := (21, .ifCond .eq 5, 3)) tkX12_qWordHere 11 rfl) rfl ?_ ?_
    · refine zco_p tkX12_qWordHere 14 2 (pc' := 28) (L' := [(0, .ref v0)]) (S' := [.ref v0, .ref v0]) rfl ?_
      refine zco_gr fl_12_219 rfl (zdk (cc := cX12_qWordHere) (q := (28, .getfield 219, 3)) tkX12_qWordHere 16 rfl) (fun x5 => ?_)
      refine zco_Vi (rc := 0) (rs := 0) (mc := 0) (ms := 0) (As := [.ref x5]) (S := []) vmX12_isHere (mtX12_isHere l e (by omega) v0 x5) q_1767 rfl rfl (Nat.le_of_ble_eq_true rfl) (zdk (cc := cX12_qWordHere) (q := (31, .invokevirtual 293, 3)) tkX12_qWordHere 17 rfl) (fun y6 => ?_)
      refine zco_if_eq (tgt := 39) (zdk (cc := cX12_qWordHere) (q := (34, .ifCond .eq 5, 3)) tkX12_qWordHere 18 rfl) rfl ?_ ?_
      · refine zco_p tkX12_qWordHere 21 2 (pc' := 41) (L' := [(0, .ref v0)]) (S' := [.ref v0, .ref v0]) rfl ?_
        refine zco_gr fl_12_222 rfl (zdk (cc := cX12_qWordHere) (q := (41, .getfield 222, 3)) tkX12_qWordHere 23 rfl) (fun x7 => ?_)
        refine zco_Vi (rc := 0) (rs := 0) (mc := 0) (ms := 0) (As := [.ref x7]) (S := []) vmX12_isHere (mtX12_isHere l e (by omega) v0 x7) q_1767 rfl rfl (Nat.le_of_ble_eq_true rfl) (zdk (cc := cX12_qWordHere) (q := (44, .invokevirtual 293, 3)) tkX12_qWordHere 24 rfl) (fun y8 => ?_)
        refine zco_if_eq (tgt := 52) (zdk (cc := cX12_qWordHere) (q := (47, .ifCond .eq 5, 3)) tkX12_qWordHere 25 rfl) rfl ?_ ?_
        · refine zco_p tkX12_qWordHere 28 2 (pc' := 54) (L' := [(0, .ref v0)]) (S' := [.ref v0, .ref v0]) rfl ?_
          refine zco_gr fl_12_225 rfl (zdk (cc := cX12_qWordHere) (q := (54, .getfield 225, 3)) tkX12_qWordHere 30 rfl) (fun x9 => ?_)
          refine zco_Vi (rc := 0) (rs := 0) (mc := 0) (ms := 0) (As := [.ref x9]) (S := []) vmX12_isHere (mtX12_isHere l e (by omega) v0 x9) q_1767 rfl rfl (Nat.le_of_ble_eq_true rfl) (zdk (cc := cX12_qWordHere) (q := (57, .invokevirtual 293, 3)) tkX12_qWordHere 31 rfl) (fun y10 => ?_)
          refine zco_if_eq (tgt := 65) (zdk (cc := cX12_qWordHere) (q := (60, .ifCond .eq 5, 3)) tkX12_qWordHere 32 rfl) rfl ?_ ?_
          · refine zco_p tkX12_qWordHere 35 2 (pc' := 67) (L' := [(0, .ref v0)]) (S' := [.ref v0, .ref v0]) rfl ?_
            refine zco_gr fl_12_228 rfl (zdk (cc := cX12_qWordHere) (q := (67, .getfield 228, 3)) tkX12_qWordHere 37 rfl) (fun x11 => ?_)
            refine zco_Vi (rc := 0) (rs := 0) (mc := 0) (ms := 0) (As := [.ref x11]) (S := []) vmX12_isHere (mtX12_isHere l e (by omega) v0 x11) q_1767 rfl rfl (Nat.le_of_ble_eq_true rfl) (zdk (cc := cX12_qWordHere) (q := (70, .invokevirtual 293, 3)) tkX12_qWordHere 38 rfl) (fun y12 => ?_)
            refine zco_if_eq (tgt := 78) (zdk (cc := cX12_qWordHere) (q := (73, .ifCond .eq 5, 3)) tkX12_qWordHere 39 rfl) rfl ?_ ?_
            · refine zco_p tkX12_qWordHere 42 2 (pc' := 80) (L' := [(0, .ref v0)]) (S' := [.ref v0, .ref v0]) rfl ?_
              refine zco_gr fl_12_231 rfl (zdk (cc := cX12_qWordHere) (q := (80, .getfield 231, 3)) tkX12_qWordHere 44 rfl) (fun x13 => ?_)
              refine zco_Vi (rc := 0) (rs := 0) (mc := 0) (ms := 0) (As := [.ref x13]) (S := []) vmX12_isHere (mtX12_isHere l e (by omega) v0 x13) q_1767 rfl rfl (Nat.le_of_ble_eq_true rfl) (zdk (cc := cX12_qWordHere) (q := (83, .invokevirtual 293, 3)) tkX12_qWordHere 45 rfl) (fun y14 => ?_)
              refine zco_if_eq (tgt := 92) (zdk (cc := cX12_qWordHere) (q := (86, .ifCond .eq 6, 3)) tkX12_qWordHere 46 rfl) rfl ?_ ?_
              · refine zco_p tkX12_qWordHere 49 2 (pc' := 94) (L' := [(0, .ref v0)]) (S' := [.ref v0, .ref v0]) rfl ?_
                refine zco_gr fl_12_234 rfl (zdk (cc := cX12_qWordHere) (q := (94, .getfield 234, 3)) tkX12_qWordHere 51 rfl) (fun x15 => ?_)
                refine zco_Vi (rc := 0) (rs := 0) (mc := 0) (ms := 0) (As := [.ref x15]) (S := []) vmX12_isHere (mtX12_isHere l e (by omega) v0 x15) q_1767 rfl rfl (Nat.le_of_ble_eq_true rfl) (zdk (cc := cX12_qWordHere) (q := (97, .invokevirtual 293, 3)) tkX12_qWordHere 52 rfl) (fun y16 => ?_)
                refine zco_if_eq (tgt := 106) (zdk (cc := cX12_qWordHere) (q := (100, .ifCond .eq 6, 3)) tkX12_qWordHere 53 rfl) rfl ?_ ?_
                · refine zco_p tkX12_qWordHere 56 2 (pc' := 108) (L' := [(0, .ref v0)]) (S' := [.ref v0, .ref v0]) rfl ?_
                  refine zco_gr fl_12_237 rfl (zdk (cc := cX12_qWordHere) (q := (108, .getfield 237, 3)) tkX12_qWordHere 58 rfl) (fun x17 => ?_)
                  refine zco_Vi (rc := 0) (rs := 0) (mc := 0) (ms := 0) (As := [.ref x17]) (S := []) vmX12_isHere (mtX12_isHere l e (by omega) v0 x17) q_1767 rfl rfl (Nat.le_of_ble_eq_true rfl) (zdk (cc := cX12_qWordHere) (q := (111, .invokevirtual 293, 3)) tkX12_qWordHere 59 rfl) (fun y18 => ?_)
                  refine zco_if_eq (tgt := 120) (zdk (cc := cX12_qWordHere) (q := (114, .ifCond .eq 6, 3)) tkX12_qWordHere 60 rfl) rfl ?_ ?_
                  · refine zco_p tkX12_qWordHere 63 2 (pc' := 122) (L' := [(0, .ref v0)]) (S' := [.ref v0, .ref v0]) rfl ?_
                    refine zco_gr fl_12_240 rfl (zdk (cc := cX12_qWordHere) (q := (122, .getfield 240, 3)) tkX12_qWordHere 65 rfl) (fun x19 => ?_)
                    refine zco_Vi (rc := 0) (rs := 0) (mc := 0) (ms := 0) (As := [.ref x19]) (S := []) vmX12_isHere (mtX12_isHere l e (by omega) v0 x19) q_1767 rfl rfl (Nat.le_of_ble_eq_true rfl) (zdk (cc := cX12_qWordHere) (q := (125, .invokevirtual 293, 3)) tkX12_qWordHere 66 rfl) (fun y20 => ?_)
                    refine zco_if_eq (tgt := 134) (zdk (cc := cX12_qWordHere) (q := (128, .ifCond .eq 6, 3)) tkX12_qWordHere 67 rfl) rfl ?_ ?_
                    · refine zco_p tkX12_qWordHere 70 2 (pc' := 136) (L' := [(0, .ref v0)]) (S' := [.ref v0, .ref v0]) rfl ?_
                      refine zco_gr fl_12_243 rfl (zdk (cc := cX12_qWordHere) (q := (136, .getfield 243, 3)) tkX12_qWordHere 72 rfl) (fun x21 => ?_)
                      refine zco_Vi (rc := 0) (rs := 0) (mc := 0) (ms := 0) (As := [.ref x21]) (S := []) vmX12_isHere (mtX12_isHere l e (by omega) v0 x21) q_1767 rfl rfl (Nat.le_of_ble_eq_true rfl) (zdk (cc := cX12_qWordHere) (q := (139, .invokevirtual 293, 3)) tkX12_qWordHere 73 rfl) (fun y22 => ?_)
                      refine zco_if_eq (tgt := 148) (zdk (cc := cX12_qWordHere) (q := (142, .ifCond .eq 6, 3)) tkX12_qWordHere 74 rfl) rfl ?_ ?_
                      · refine zco_p tkX12_qWordHere 77 2 (pc' := 150) (L' := [(0, .ref v0)]) (S' := [.ref v0, .ref v0]) rfl ?_
                        refine zco_gr fl_12_246 rfl (zdk (cc := cX12_qWordHere) (q := (150, .getfield 246, 3)) tkX12_qWordHere 79 rfl) (fun x23 => ?_)
                        refine zco_Vi (rc := 0) (rs := 0) (mc := 0) (ms := 0) (As := [.ref x23]) (S := []) vmX12_isHere (mtX12_isHere l e (by omega) v0 x23) q_1767 rfl rfl (Nat.le_of_ble_eq_true rfl) (zdk (cc := cX12_qWordHere) (q := (153, .invokevirtual 293, 3)) tkX12_qWordHere 80 rfl) (fun y24 => ?_)
                        refine zco_if_eq (tgt := 162) (zdk (cc := cX12_qWordHere) (q := (156, .ifCond .eq 6, 3)) tkX12_qWordHere 81 rfl) rfl ?_ ?_
                        · refine zco_p tkX12_qWordHere 84 2 (pc' := 164) (L' := [(0, .ref v0)]) (S' := [.ref v0, .ref v0]) rfl ?_
                          refine zco_gr fl_12_249 rfl (zdk (cc := cX12_qWordHere) (q := (164, .getfield 249, 3)) tkX12_qWordHere 86 rfl) (fun x25 => ?_)
                          refine zco_Vi (rc := 0) (rs := 0) (mc := 0) (ms := 0) (As := [.ref x25]) (S := []) vmX12_isHere (mtX12_isHere l e (by omega) v0 x25) q_1767 rfl rfl (Nat.le_of_ble_eq_true rfl) (zdk (cc := cX12_qWordHere) (q := (167, .invokevirtual 293, 3)) tkX12_qWordHere 87 rfl) (fun y26 => ?_)
                          refine zco_if_eq (tgt := 176) (zdk (cc := cX12_qWordHere) (q := (170, .ifCond .eq 6, 3)) tkX12_qWordHere 88 rfl) rfl ?_ ?_
                          · refine zco_p tkX12_qWordHere 91 2 (pc' := 178) (L' := [(0, .ref v0)]) (S' := [.ref v0, .ref v0]) rfl ?_
                            refine zco_gr fl_12_252 rfl (zdk (cc := cX12_qWordHere) (q := (178, .getfield 252, 3)) tkX12_qWordHere 93 rfl) (fun x27 => ?_)
                            refine zco_Vi (rc := 0) (rs := 0) (mc := 0) (ms := 0) (As := [.ref x27]) (S := []) vmX12_isHere (mtX12_isHere l e (by omega) v0 x27) q_1767 rfl rfl (Nat.le_of_ble_eq_true rfl) (zdk (cc := cX12_qWordHere) (q := (181, .invokevirtual 293, 3)) tkX12_qWordHere 94 rfl) (fun y28 => ?_)
                            refine zco_if_eq (tgt := 190) (zdk (cc := cX12_qWordHere) (q := (184, .ifCond .eq 6, 3)) tkX12_qWordHere 95 rfl) rfl ?_ ?_
                            · refine zco_p tkX12_qWordHere 98 1 (pc' := 191) (L' := [(0, .ref v0)]) (S' := [.int ((-1))]) rfl ?_
                              exact zco_iret rfl rfl rfl (zdk (cc := cX12_qWordHere) (q := (191, .ireturn, 1)) tkX12_qWordHere 99 rfl)
                            · refine zco_p tkX12_qWordHere 96 1 (pc' := 189) (L' := [(0, .ref v0)]) (S' := [.int 13]) rfl ?_
                              exact zco_iret rfl rfl rfl (zdk (cc := cX12_qWordHere) (q := (189, .ireturn, 1)) tkX12_qWordHere 97 rfl)
                          · refine zco_p tkX12_qWordHere 89 1 (pc' := 175) (L' := [(0, .ref v0)]) (S' := [.int 12]) rfl ?_
                            exact zco_iret rfl rfl rfl (zdk (cc := cX12_qWordHere) (q := (175, .ireturn, 1)) tkX12_qWordHere 90 rfl)
                        · refine zco_p tkX12_qWordHere 82 1 (pc' := 161) (L' := [(0, .ref v0)]) (S' := [.int 11]) rfl ?_
                          exact zco_iret rfl rfl rfl (zdk (cc := cX12_qWordHere) (q := (161, .ireturn, 1)) tkX12_qWordHere 83 rfl)
                      · refine zco_p tkX12_qWordHere 75 1 (pc' := 147) (L' := [(0, .ref v0)]) (S' := [.int 10]) rfl ?_
                        exact zco_iret rfl rfl rfl (zdk (cc := cX12_qWordHere) (q := (147, .ireturn, 1)) tkX12_qWordHere 76 rfl)
                    · refine zco_p tkX12_qWordHere 68 1 (pc' := 133) (L' := [(0, .ref v0)]) (S' := [.int 9]) rfl ?_
                      exact zco_iret rfl rfl rfl (zdk (cc := cX12_qWordHere) (q := (133, .ireturn, 1)) tkX12_qWordHere 69 rfl)
                  · refine zco_p tkX12_qWordHere 61 1 (pc' := 119) (L' := [(0, .ref v0)]) (S' := [.int 8]) rfl ?_
                    exact zco_iret rfl rfl rfl (zdk (cc := cX12_qWordHere) (q := (119, .ireturn, 1)) tkX12_qWordHere 62 rfl)
                · refine zco_p tkX12_qWordHere 54 1 (pc' := 105) (L' := [(0, .ref v0)]) (S' := [.int 7]) rfl ?_
                  exact zco_iret rfl rfl rfl (zdk (cc := cX12_qWordHere) (q := (105, .ireturn, 1)) tkX12_qWordHere 55 rfl)
              · refine zco_p tkX12_qWordHere 47 1 (pc' := 91) (L' := [(0, .ref v0)]) (S' := [.int 6]) rfl ?_
                exact zco_iret rfl rfl rfl (zdk (cc := cX12_qWordHere) (q := (91, .ireturn, 1)) tkX12_qWordHere 48 rfl)
            · refine zco_p tkX12_qWordHere 40 1 (pc' := 77) (L' := [(0, .ref v0)]) (S' := [.int 5]) rfl ?_
              exact zco_iret rfl rfl rfl (zdk (cc := cX12_qWordHere) (q := (77, .ireturn, 1)) tkX12_qWordHere 41 rfl)
          · refine zco_p tkX12_qWordHere 33 1 (pc' := 64) (L' := [(0, .ref v0)]) (S' := [.int 4]) rfl ?_
            exact zco_iret rfl rfl rfl (zdk (cc := cX12_qWordHere) (q := (64, .ireturn, 1)) tkX12_qWordHere 34 rfl)
        · refine zco_p tkX12_qWordHere 26 1 (pc' := 51) (L' := [(0, .ref v0)]) (S' := [.int 3]) rfl ?_
          exact zco_iret rfl rfl rfl (zdk (cc := cX12_qWordHere) (q := (51, .ireturn, 1)) tkX12_qWordHere 27 rfl)
      · refine zco_p tkX12_qWordHere 19 1 (pc' := 38) (L' := [(0, .ref v0)]) (S' := [.int 2]) rfl ?_
        exact zco_iret rfl rfl rfl (zdk (cc := cX12_qWordHere) (q := (38, .ireturn, 1)) tkX12_qWordHere 20 rfl)
    · refine zco_p tkX12_qWordHere 12 1 (pc' := 25) (L' := [(0, .ref v0)]) (S' := [.int 1]) rfl ?_
      exact zco_iret rfl rfl rfl (zdk (cc := cX12_qWordHere) (q := (25, .ireturn, 1)) tkX12_qWordHere 13 rfl)
  · refine zco_p tkX12_qWordHere 5 1 (pc' := 12) (L' := [(0, .ref v0)]) (S' := [.int 0]) rfl ?_
    exact zco_iret rfl rfl rfl (zdk (cc := cX12_qWordHere) (q := (12, .ireturn, 1)) tkX12_qWordHere 6 rfl)
theorem mtX12_qWordHere (l : Launch) (d : Nat) (hd : 3 ≤ d) (v0 : Nat) : zMet l d 0 0 yX12_qWordHere cX12_qWordHere 1 (Option.some .int) [.ref v0] (X12_qWordHere v0) := by
  obtain ⟨e, rfl⟩ : ∃ e, d = e + 1 := ⟨d - 1, by omega⟩
  exact zmet_of (own := RX12) (ini := false) (by decide +kernel) rfl (fun _ => by contradiction) (Nat.le_of_ble_eq_true rfl) (coX12_qWordHere l e (by omega) v0)
abbrev iX12_qWordOf : zI := (RX12, cX12_qWordOf, 4, (Option.some .int), false)
def tX12_qWordOf : List (Nat × Instr × Nat) := [(0, .aload_n 0, 1), (1, .invokevirtual 642, 3), (4, .istore_n 3, 1), (5, .iload_n 3, 1), (6, .iload_n 1, 1), (7, .if_icmp .lt 20, 3), (10, .iload_n 3, 1), (11, .iload_n 2, 1), (12, .if_icmp .ge 15, 3), (15, .aload_n 0, 1), (16, .iload_n 3, 1), (17, .invokevirtual 645, 3), (20, .ifCond .eq 7, 3), (23, .iload_n 3, 1), (24, .goto 4, 3), (27, .iconst (-1), 1), (28, .ireturn, 1)]
set_option maxRecDepth 100000 in
theorem tkX12_qWordOf : ∀ q ∈ tX12_qWordOf, decode cX12_qWordOf q.1 = .ok q.2 := by decide +kernel
theorem vmX12_qWordOf : zVM yX12_qWordOf cX12_qWordOf 4 (Option.some .int) 2 12 := ⟨kX12_qWordOf, q_1844, q_67, q_162, ⟨_, rfl, rfl⟩, by decide +kernel, by decide⟩
set_option maxHeartbeats 2000000 in
set_option maxRecDepth 20000 in
theorem coX12_qWordOf (l : Launch) (e : Nat) (he : 3 ≤ e) (v0 : Nat) (v1 : Int32) (v2 : Int32) : zCo l (e + 1) 0 0 iX12_qWordOf 0 [(0, .ref v0), (1, .int v1), (2, .int v2)] [] (X12_qWordOf v0 v1 v2) := by
  unfold X12_qWordOf
  refine zco_p tkX12_qWordOf 0 1 (pc' := 1) (L' := [(0, .ref v0), (1, .int v1), (2, .int v2)]) (S' := [.ref v0]) rfl ?_
  refine zco_Vi (rc := 0) (rs := 0) (mc := 0) (ms := 0) (As := []) (S := []) vmX12_qWordHere (mtX12_qWordHere l e (by omega) v0) q_1846 rfl rfl (Nat.le_of_ble_eq_true rfl) (zdk (cc := cX12_qWordOf) (q := (1, .invokevirtual 642, 3)) tkX12_qWordOf 1 rfl) (fun y1 => ?_)
  refine zco_p tkX12_qWordOf 2 3 (pc' := 7) (L' := [(3, .int y1), (0, .ref v0), (1, .int v1), (2, .int v2)]) (S' := [.int v1, .int y1]) rfl ?_
  refine zco_icmp_lt (tgt := 27) (zdk (cc := cX12_qWordOf) (q := (7, .if_icmp .lt 20, 3)) tkX12_qWordOf 5 rfl) rfl ?_ ?_
  · refine zco_p tkX12_qWordOf 15 1 (pc' := 28) (L' := [(3, .int y1), (0, .ref v0), (1, .int v1), (2, .int v2)]) (S' := [.int ((-1))]) rfl ?_
    exact zco_iret rfl rfl rfl (zdk (cc := cX12_qWordOf) (q := (28, .ireturn, 1)) tkX12_qWordOf 16 rfl)
  · refine zco_p tkX12_qWordOf 6 2 (pc' := 12) (L' := [(3, .int y1), (0, .ref v0), (1, .int v1), (2, .int v2)]) (S' := [.int v2, .int y1]) rfl ?_
    refine zco_icmp_ge (tgt := 27) (zdk (cc := cX12_qWordOf) (q := (12, .if_icmp .ge 15, 3)) tkX12_qWordOf 8 rfl) rfl ?_ ?_
    · refine zco_p tkX12_qWordOf 15 1 (pc' := 28) (L' := [(3, .int y1), (0, .ref v0), (1, .int v1), (2, .int v2)]) (S' := [.int ((-1))]) rfl ?_
      exact zco_iret rfl rfl rfl (zdk (cc := cX12_qWordOf) (q := (28, .ireturn, 1)) tkX12_qWordOf 16 rfl)
    · refine zco_p tkX12_qWordOf 9 2 (pc' := 17) (L' := [(3, .int y1), (0, .ref v0), (1, .int v1), (2, .int v2)]) (S' := [.int y1, .ref v0]) rfl ?_
      refine zco_Vi (rc := 0) (rs := 0) (mc := 0) (ms := 0) (As := [.int y1]) (S := []) vmX12_isAllowed (mtX12_isAllowed l e (by omega) v0 y1) q_1850 rfl rfl (Nat.le_of_ble_eq_true rfl) (zdk (cc := cX12_qWordOf) (q := (17, .invokevirtual 645, 3)) tkX12_qWordOf 11 rfl) (fun y2 => ?_)
      refine zco_if_eq (tgt := 27) (zdk (cc := cX12_qWordOf) (q := (20, .ifCond .eq 7, 3)) tkX12_qWordOf 12 rfl) rfl ?_ ?_
      · refine zco_p tkX12_qWordOf 15 1 (pc' := 28) (L' := [(3, .int y1), (0, .ref v0), (1, .int v1), (2, .int v2)]) (S' := [.int ((-1))]) rfl ?_
        exact zco_iret rfl rfl rfl (zdk (cc := cX12_qWordOf) (q := (28, .ireturn, 1)) tkX12_qWordOf 16 rfl)
      · refine zco_p tkX12_qWordOf 13 2 (pc' := 28) (L' := [(3, .int y1), (0, .ref v0), (1, .int v1), (2, .int v2)]) (S' := [.int y1]) rfl ?_
        exact zco_iret rfl rfl rfl (zdk (cc := cX12_qWordOf) (q := (28, .ireturn, 1)) tkX12_qWordOf 16 rfl)
theorem mtX12_qWordOf (l : Launch) (d : Nat) (hd : 4 ≤ d) (v0 : Nat) (v1 : Int32) (v2 : Int32) : zMet l d 0 0 yX12_qWordOf cX12_qWordOf 4 (Option.some .int) [.ref v0, .int v1, .int v2] (X12_qWordOf v0 v1 v2) := by
  obtain ⟨e, rfl⟩ : ∃ e, d = e + 1 := ⟨d - 1, by omega⟩
  exact zmet_of (own := RX12) (ini := false) (by decide +kernel) rfl (fun _ => by contradiction) (Nat.le_of_ble_eq_true rfl) (coX12_qWordOf l e (by omega) v0 v1 v2)
abbrev iX12_qAsksWord : zI := (RX12, cX12_qAsksWord, 2, (Option.none : Option FieldType), false)
def tX12_qAsksWord : List (Nat × Instr × Nat) := [(0, .iload_n 1, 1), (1, .tableswitch 210 0 12 #[67, 78, 89, 100, 111, 122, 133, 144, 155, 166, 177, 188, 199], 67), (68, .aload_n 0, 1), (69, .aload_n 0, 1), (70, .getfield 213, 3), (73, .invokevirtual 341, 3), (76, .goto 143, 3), (79, .aload_n 0, 1), (80, .aload_n 0, 1), (81, .getfield 216, 3), (84, .invokevirtual 341, 3), (87, .goto 132, 3), (90, .aload_n 0, 1), (91, .aload_n 0, 1), (92, .getfield 219, 3), (95, .invokevirtual 341, 3), (98, .goto 121, 3), (101, .aload_n 0, 1), (102, .aload_n 0, 1), (103, .getfield 222, 3), (106, .invokevirtual 341, 3), (109, .goto 110, 3), (112, .aload_n 0, 1), (113, .aload_n 0, 1), (114, .getfield 225, 3), (117, .invokevirtual 341, 3), (120, .goto 99, 3), (123, .aload_n 0, 1), (124, .aload_n 0, 1), (125, .getfield 228, 3), (128, .invokevirtual 341, 3), (131, .goto 88, 3), (134, .aload_n 0, 1), (135, .aload_n 0, 1), (136, .getfield 231, 3), (139, .invokevirtual 341, 3), (142, .goto 77, 3), (145, .aload_n 0, 1), (146, .aload_n 0, 1), (147, .getfield 234, 3), (150, .invokevirtual 341, 3), (153, .goto 66, 3), (156, .aload_n 0, 1), (157, .aload_n 0, 1), (158, .getfield 237, 3), (161, .invokevirtual 341, 3), (164, .goto 55, 3), (167, .aload_n 0, 1), (168, .aload_n 0, 1), (169, .getfield 240, 3), (172, .invokevirtual 341, 3), (175, .goto 44, 3), (178, .aload_n 0, 1), (179, .aload_n 0, 1), (180, .getfield 243, 3), (183, .invokevirtual 341, 3), (186, .goto 33, 3), (189, .aload_n 0, 1), (190, .aload_n 0, 1), (191, .getfield 246, 3), (194, .invokevirtual 341, 3), (197, .goto 22, 3), (200, .aload_n 0, 1), (201, .aload_n 0, 1), (202, .getfield 249, 3), (205, .invokevirtual 341, 3), (208, .goto 11, 3), (211, .aload_n 0, 1), (212, .aload_n 0, 1), (213, .getfield 252, 3), (216, .invokevirtual 341, 3), (219, .return_, 1)]
set_option maxRecDepth 100000 in
theorem tkX12_qAsksWord : ∀ q ∈ tX12_qAsksWord, decode cX12_qAsksWord q.1 = .ok q.2 := by decide +kernel
theorem vmX12_qAsksWord : zVM yX12_qAsksWord cX12_qAsksWord 2 (Option.none : Option FieldType) 1 12 := ⟨kX12_qAsksWord, q_1867, q_72, q_162, ⟨_, rfl, rfl⟩, by decide +kernel, by decide⟩
set_option maxHeartbeats 2000000 in
set_option maxRecDepth 20000 in
theorem coX12_qAsksWord (l : Launch) (e : Nat) (he : 4 ≤ e) (v0 : Nat) (v1 : Int32) : zCo l (e + 1) 0 0 iX12_qAsksWord 0 [(0, .ref v0), (1, .int v1)] [] (X12_qAsksWord v0 v1) := by
  unfold X12_qAsksWord
  refine zco_p tkX12_qAsksWord 0 1 (pc' := 1) (L' := [(0, .ref v0), (1, .int v1)]) (S' := [.int v1]) rfl ?_
  refine @zco_tab l (e + 1) 0 0 iX12_qAsksWord 1 [(0, .ref v0), (1, .int v1)] [] _ v1 210 0 12 #[67, 78, 89, 100, 111, 122, 133, 144, 155, 166, 177, 188, 199] 67 (zdk (cc := cX12_qAsksWord) (q := (1, .tableswitch 210 0 12 #[67, 78, 89, 100, 111, 122, 133, 144, 155, 166, 177, 188, 199], 67)) tkX12_qAsksWord 1 rfl) 211 rfl [68, 79, 90, 101, 112, 123, 134, 145, 156, 167, 178, 189, 200] (X12_qAsksWord_S1 v0) (by decide) (by decide) ?_ (fun j t ht => ?_)
  · refine zco_p tkX12_qAsksWord 67 2 (pc' := 213) (L' := [(0, .ref v0), (1, .int v1)]) (S' := [.ref v0, .ref v0]) rfl ?_
    refine zco_gr fl_12_252 rfl (zdk (cc := cX12_qAsksWord) (q := (213, .getfield 252, 3)) tkX12_qAsksWord 69 rfl) (fun x1 => ?_)
    refine zco_Vv (rc := 0) (rs := 0) (mc := 0) (ms := 0) (As := [.ref x1]) (S := []) vmX12_asks (mtX12_asks l e (by omega) v0 x1) q_1788 rfl rfl (Nat.le_of_ble_eq_true rfl) (zdk (cc := cX12_qAsksWord) (q := (216, .invokevirtual 341, 3)) tkX12_qAsksWord 70 rfl) ?_
    exact zco_vret rfl rfl rfl (zdk (cc := cX12_qAsksWord) (q := (219, .return_, 1)) tkX12_qAsksWord 71 rfl)
  · match j, ht with
    | 0, ht =>
      cases ht
      show zCo l (e + 1) 0 0 iX12_qAsksWord 68 [(0, .ref v0), (1, .int v1)] [] (z_gr 12 90 v0 fun x2 => z_rc 12 v0 (z_cv (X12_asks v0 x2) (z_ret none)))
      refine zco_p tkX12_qAsksWord 2 2 (pc' := 70) (L' := [(0, .ref v0), (1, .int v1)]) (S' := [.ref v0, .ref v0]) rfl ?_
      refine zco_gr fl_12_213 rfl (zdk (cc := cX12_qAsksWord) (q := (70, .getfield 213, 3)) tkX12_qAsksWord 4 rfl) (fun x2 => ?_)
      refine zco_Vv (rc := 0) (rs := 0) (mc := 0) (ms := 0) (As := [.ref x2]) (S := []) vmX12_asks (mtX12_asks l e (by omega) v0 x2) q_1788 rfl rfl (Nat.le_of_ble_eq_true rfl) (zdk (cc := cX12_qAsksWord) (q := (73, .invokevirtual 341, 3)) tkX12_qAsksWord 5 rfl) ?_
      refine zco_p tkX12_qAsksWord 6 1 (pc' := 219) (L' := [(0, .ref v0), (1, .int v1)]) (S' := []) rfl ?_
      exact zco_vret rfl rfl rfl (zdk (cc := cX12_qAsksWord) (q := (219, .return_, 1)) tkX12_qAsksWord 71 rfl)
    | 1, ht =>
      cases ht
      show zCo l (e + 1) 0 0 iX12_qAsksWord 79 [(0, .ref v0), (1, .int v1)] [] (z_gr 12 91 v0 fun x3 => z_rc 12 v0 (z_cv (X12_asks v0 x3) (z_ret none)))
      refine zco_p tkX12_qAsksWord 7 2 (pc' := 81) (L' := [(0, .ref v0), (1, .int v1)]) (S' := [.ref v0, .ref v0]) rfl ?_
      refine zco_gr fl_12_216 rfl (zdk (cc := cX12_qAsksWord) (q := (81, .getfield 216, 3)) tkX12_qAsksWord 9 rfl) (fun x3 => ?_)
      refine zco_Vv (rc := 0) (rs := 0) (mc := 0) (ms := 0) (As := [.ref x3]) (S := []) vmX12_asks (mtX12_asks l e (by omega) v0 x3) q_1788 rfl rfl (Nat.le_of_ble_eq_true rfl) (zdk (cc := cX12_qAsksWord) (q := (84, .invokevirtual 341, 3)) tkX12_qAsksWord 10 rfl) ?_
      refine zco_p tkX12_qAsksWord 11 1 (pc' := 219) (L' := [(0, .ref v0), (1, .int v1)]) (S' := []) rfl ?_
      exact zco_vret rfl rfl rfl (zdk (cc := cX12_qAsksWord) (q := (219, .return_, 1)) tkX12_qAsksWord 71 rfl)
    | 2, ht =>
      cases ht
      show zCo l (e + 1) 0 0 iX12_qAsksWord 90 [(0, .ref v0), (1, .int v1)] [] (z_gr 12 92 v0 fun x4 => z_rc 12 v0 (z_cv (X12_asks v0 x4) (z_ret none)))
      refine zco_p tkX12_qAsksWord 12 2 (pc' := 92) (L' := [(0, .ref v0), (1, .int v1)]) (S' := [.ref v0, .ref v0]) rfl ?_
      refine zco_gr fl_12_219 rfl (zdk (cc := cX12_qAsksWord) (q := (92, .getfield 219, 3)) tkX12_qAsksWord 14 rfl) (fun x4 => ?_)
      refine zco_Vv (rc := 0) (rs := 0) (mc := 0) (ms := 0) (As := [.ref x4]) (S := []) vmX12_asks (mtX12_asks l e (by omega) v0 x4) q_1788 rfl rfl (Nat.le_of_ble_eq_true rfl) (zdk (cc := cX12_qAsksWord) (q := (95, .invokevirtual 341, 3)) tkX12_qAsksWord 15 rfl) ?_
      refine zco_p tkX12_qAsksWord 16 1 (pc' := 219) (L' := [(0, .ref v0), (1, .int v1)]) (S' := []) rfl ?_
      exact zco_vret rfl rfl rfl (zdk (cc := cX12_qAsksWord) (q := (219, .return_, 1)) tkX12_qAsksWord 71 rfl)
    | 3, ht =>
      cases ht
      show zCo l (e + 1) 0 0 iX12_qAsksWord 101 [(0, .ref v0), (1, .int v1)] [] (z_gr 12 93 v0 fun x5 => z_rc 12 v0 (z_cv (X12_asks v0 x5) (z_ret none)))
      refine zco_p tkX12_qAsksWord 17 2 (pc' := 103) (L' := [(0, .ref v0), (1, .int v1)]) (S' := [.ref v0, .ref v0]) rfl ?_
      refine zco_gr fl_12_222 rfl (zdk (cc := cX12_qAsksWord) (q := (103, .getfield 222, 3)) tkX12_qAsksWord 19 rfl) (fun x5 => ?_)
      refine zco_Vv (rc := 0) (rs := 0) (mc := 0) (ms := 0) (As := [.ref x5]) (S := []) vmX12_asks (mtX12_asks l e (by omega) v0 x5) q_1788 rfl rfl (Nat.le_of_ble_eq_true rfl) (zdk (cc := cX12_qAsksWord) (q := (106, .invokevirtual 341, 3)) tkX12_qAsksWord 20 rfl) ?_
      refine zco_p tkX12_qAsksWord 21 1 (pc' := 219) (L' := [(0, .ref v0), (1, .int v1)]) (S' := []) rfl ?_
      exact zco_vret rfl rfl rfl (zdk (cc := cX12_qAsksWord) (q := (219, .return_, 1)) tkX12_qAsksWord 71 rfl)
    | 4, ht =>
      cases ht
      show zCo l (e + 1) 0 0 iX12_qAsksWord 112 [(0, .ref v0), (1, .int v1)] [] (z_gr 12 94 v0 fun x6 => z_rc 12 v0 (z_cv (X12_asks v0 x6) (z_ret none)))
      refine zco_p tkX12_qAsksWord 22 2 (pc' := 114) (L' := [(0, .ref v0), (1, .int v1)]) (S' := [.ref v0, .ref v0]) rfl ?_
      refine zco_gr fl_12_225 rfl (zdk (cc := cX12_qAsksWord) (q := (114, .getfield 225, 3)) tkX12_qAsksWord 24 rfl) (fun x6 => ?_)
      refine zco_Vv (rc := 0) (rs := 0) (mc := 0) (ms := 0) (As := [.ref x6]) (S := []) vmX12_asks (mtX12_asks l e (by omega) v0 x6) q_1788 rfl rfl (Nat.le_of_ble_eq_true rfl) (zdk (cc := cX12_qAsksWord) (q := (117, .invokevirtual 341, 3)) tkX12_qAsksWord 25 rfl) ?_
      refine zco_p tkX12_qAsksWord 26 1 (pc' := 219) (L' := [(0, .ref v0), (1, .int v1)]) (S' := []) rfl ?_
      exact zco_vret rfl rfl rfl (zdk (cc := cX12_qAsksWord) (q := (219, .return_, 1)) tkX12_qAsksWord 71 rfl)
    | 5, ht =>
      cases ht
      show zCo l (e + 1) 0 0 iX12_qAsksWord 123 [(0, .ref v0), (1, .int v1)] [] (z_gr 12 95 v0 fun x7 => z_rc 12 v0 (z_cv (X12_asks v0 x7) (z_ret none)))
      refine zco_p tkX12_qAsksWord 27 2 (pc' := 125) (L' := [(0, .ref v0), (1, .int v1)]) (S' := [.ref v0, .ref v0]) rfl ?_
      refine zco_gr fl_12_228 rfl (zdk (cc := cX12_qAsksWord) (q := (125, .getfield 228, 3)) tkX12_qAsksWord 29 rfl) (fun x7 => ?_)
      refine zco_Vv (rc := 0) (rs := 0) (mc := 0) (ms := 0) (As := [.ref x7]) (S := []) vmX12_asks (mtX12_asks l e (by omega) v0 x7) q_1788 rfl rfl (Nat.le_of_ble_eq_true rfl) (zdk (cc := cX12_qAsksWord) (q := (128, .invokevirtual 341, 3)) tkX12_qAsksWord 30 rfl) ?_
      refine zco_p tkX12_qAsksWord 31 1 (pc' := 219) (L' := [(0, .ref v0), (1, .int v1)]) (S' := []) rfl ?_
      exact zco_vret rfl rfl rfl (zdk (cc := cX12_qAsksWord) (q := (219, .return_, 1)) tkX12_qAsksWord 71 rfl)
    | 6, ht =>
      cases ht
      show zCo l (e + 1) 0 0 iX12_qAsksWord 134 [(0, .ref v0), (1, .int v1)] [] (z_gr 12 96 v0 fun x8 => z_rc 12 v0 (z_cv (X12_asks v0 x8) (z_ret none)))
      refine zco_p tkX12_qAsksWord 32 2 (pc' := 136) (L' := [(0, .ref v0), (1, .int v1)]) (S' := [.ref v0, .ref v0]) rfl ?_
      refine zco_gr fl_12_231 rfl (zdk (cc := cX12_qAsksWord) (q := (136, .getfield 231, 3)) tkX12_qAsksWord 34 rfl) (fun x8 => ?_)
      refine zco_Vv (rc := 0) (rs := 0) (mc := 0) (ms := 0) (As := [.ref x8]) (S := []) vmX12_asks (mtX12_asks l e (by omega) v0 x8) q_1788 rfl rfl (Nat.le_of_ble_eq_true rfl) (zdk (cc := cX12_qAsksWord) (q := (139, .invokevirtual 341, 3)) tkX12_qAsksWord 35 rfl) ?_
      refine zco_p tkX12_qAsksWord 36 1 (pc' := 219) (L' := [(0, .ref v0), (1, .int v1)]) (S' := []) rfl ?_
      exact zco_vret rfl rfl rfl (zdk (cc := cX12_qAsksWord) (q := (219, .return_, 1)) tkX12_qAsksWord 71 rfl)
    | 7, ht =>
      cases ht
      show zCo l (e + 1) 0 0 iX12_qAsksWord 145 [(0, .ref v0), (1, .int v1)] [] (z_gr 12 97 v0 fun x9 => z_rc 12 v0 (z_cv (X12_asks v0 x9) (z_ret none)))
      refine zco_p tkX12_qAsksWord 37 2 (pc' := 147) (L' := [(0, .ref v0), (1, .int v1)]) (S' := [.ref v0, .ref v0]) rfl ?_
      refine zco_gr fl_12_234 rfl (zdk (cc := cX12_qAsksWord) (q := (147, .getfield 234, 3)) tkX12_qAsksWord 39 rfl) (fun x9 => ?_)
      refine zco_Vv (rc := 0) (rs := 0) (mc := 0) (ms := 0) (As := [.ref x9]) (S := []) vmX12_asks (mtX12_asks l e (by omega) v0 x9) q_1788 rfl rfl (Nat.le_of_ble_eq_true rfl) (zdk (cc := cX12_qAsksWord) (q := (150, .invokevirtual 341, 3)) tkX12_qAsksWord 40 rfl) ?_
      refine zco_p tkX12_qAsksWord 41 1 (pc' := 219) (L' := [(0, .ref v0), (1, .int v1)]) (S' := []) rfl ?_
      exact zco_vret rfl rfl rfl (zdk (cc := cX12_qAsksWord) (q := (219, .return_, 1)) tkX12_qAsksWord 71 rfl)
    | 8, ht =>
      cases ht
      show zCo l (e + 1) 0 0 iX12_qAsksWord 156 [(0, .ref v0), (1, .int v1)] [] (z_gr 12 98 v0 fun x10 => z_rc 12 v0 (z_cv (X12_asks v0 x10) (z_ret none)))
      refine zco_p tkX12_qAsksWord 42 2 (pc' := 158) (L' := [(0, .ref v0), (1, .int v1)]) (S' := [.ref v0, .ref v0]) rfl ?_
      refine zco_gr fl_12_237 rfl (zdk (cc := cX12_qAsksWord) (q := (158, .getfield 237, 3)) tkX12_qAsksWord 44 rfl) (fun x10 => ?_)
      refine zco_Vv (rc := 0) (rs := 0) (mc := 0) (ms := 0) (As := [.ref x10]) (S := []) vmX12_asks (mtX12_asks l e (by omega) v0 x10) q_1788 rfl rfl (Nat.le_of_ble_eq_true rfl) (zdk (cc := cX12_qAsksWord) (q := (161, .invokevirtual 341, 3)) tkX12_qAsksWord 45 rfl) ?_
      refine zco_p tkX12_qAsksWord 46 1 (pc' := 219) (L' := [(0, .ref v0), (1, .int v1)]) (S' := []) rfl ?_
      exact zco_vret rfl rfl rfl (zdk (cc := cX12_qAsksWord) (q := (219, .return_, 1)) tkX12_qAsksWord 71 rfl)
    | 9, ht =>
      cases ht
      show zCo l (e + 1) 0 0 iX12_qAsksWord 167 [(0, .ref v0), (1, .int v1)] [] (z_gr 12 99 v0 fun x11 => z_rc 12 v0 (z_cv (X12_asks v0 x11) (z_ret none)))
      refine zco_p tkX12_qAsksWord 47 2 (pc' := 169) (L' := [(0, .ref v0), (1, .int v1)]) (S' := [.ref v0, .ref v0]) rfl ?_
      refine zco_gr fl_12_240 rfl (zdk (cc := cX12_qAsksWord) (q := (169, .getfield 240, 3)) tkX12_qAsksWord 49 rfl) (fun x11 => ?_)
      refine zco_Vv (rc := 0) (rs := 0) (mc := 0) (ms := 0) (As := [.ref x11]) (S := []) vmX12_asks (mtX12_asks l e (by omega) v0 x11) q_1788 rfl rfl (Nat.le_of_ble_eq_true rfl) (zdk (cc := cX12_qAsksWord) (q := (172, .invokevirtual 341, 3)) tkX12_qAsksWord 50 rfl) ?_
      refine zco_p tkX12_qAsksWord 51 1 (pc' := 219) (L' := [(0, .ref v0), (1, .int v1)]) (S' := []) rfl ?_
      exact zco_vret rfl rfl rfl (zdk (cc := cX12_qAsksWord) (q := (219, .return_, 1)) tkX12_qAsksWord 71 rfl)
    | 10, ht =>
      cases ht
      show zCo l (e + 1) 0 0 iX12_qAsksWord 178 [(0, .ref v0), (1, .int v1)] [] (z_gr 12 100 v0 fun x12 => z_rc 12 v0 (z_cv (X12_asks v0 x12) (z_ret none)))
      refine zco_p tkX12_qAsksWord 52 2 (pc' := 180) (L' := [(0, .ref v0), (1, .int v1)]) (S' := [.ref v0, .ref v0]) rfl ?_
      refine zco_gr fl_12_243 rfl (zdk (cc := cX12_qAsksWord) (q := (180, .getfield 243, 3)) tkX12_qAsksWord 54 rfl) (fun x12 => ?_)
      refine zco_Vv (rc := 0) (rs := 0) (mc := 0) (ms := 0) (As := [.ref x12]) (S := []) vmX12_asks (mtX12_asks l e (by omega) v0 x12) q_1788 rfl rfl (Nat.le_of_ble_eq_true rfl) (zdk (cc := cX12_qAsksWord) (q := (183, .invokevirtual 341, 3)) tkX12_qAsksWord 55 rfl) ?_
      refine zco_p tkX12_qAsksWord 56 1 (pc' := 219) (L' := [(0, .ref v0), (1, .int v1)]) (S' := []) rfl ?_
      exact zco_vret rfl rfl rfl (zdk (cc := cX12_qAsksWord) (q := (219, .return_, 1)) tkX12_qAsksWord 71 rfl)
    | 11, ht =>
      cases ht
      show zCo l (e + 1) 0 0 iX12_qAsksWord 189 [(0, .ref v0), (1, .int v1)] [] (z_gr 12 101 v0 fun x13 => z_rc 12 v0 (z_cv (X12_asks v0 x13) (z_ret none)))
      refine zco_p tkX12_qAsksWord 57 2 (pc' := 191) (L' := [(0, .ref v0), (1, .int v1)]) (S' := [.ref v0, .ref v0]) rfl ?_
      refine zco_gr fl_12_246 rfl (zdk (cc := cX12_qAsksWord) (q := (191, .getfield 246, 3)) tkX12_qAsksWord 59 rfl) (fun x13 => ?_)
      refine zco_Vv (rc := 0) (rs := 0) (mc := 0) (ms := 0) (As := [.ref x13]) (S := []) vmX12_asks (mtX12_asks l e (by omega) v0 x13) q_1788 rfl rfl (Nat.le_of_ble_eq_true rfl) (zdk (cc := cX12_qAsksWord) (q := (194, .invokevirtual 341, 3)) tkX12_qAsksWord 60 rfl) ?_
      refine zco_p tkX12_qAsksWord 61 1 (pc' := 219) (L' := [(0, .ref v0), (1, .int v1)]) (S' := []) rfl ?_
      exact zco_vret rfl rfl rfl (zdk (cc := cX12_qAsksWord) (q := (219, .return_, 1)) tkX12_qAsksWord 71 rfl)
    | 12, ht =>
      cases ht
      show zCo l (e + 1) 0 0 iX12_qAsksWord 200 [(0, .ref v0), (1, .int v1)] [] (z_gr 12 102 v0 fun x14 => z_rc 12 v0 (z_cv (X12_asks v0 x14) (z_ret none)))
      refine zco_p tkX12_qAsksWord 62 2 (pc' := 202) (L' := [(0, .ref v0), (1, .int v1)]) (S' := [.ref v0, .ref v0]) rfl ?_
      refine zco_gr fl_12_249 rfl (zdk (cc := cX12_qAsksWord) (q := (202, .getfield 249, 3)) tkX12_qAsksWord 64 rfl) (fun x14 => ?_)
      refine zco_Vv (rc := 0) (rs := 0) (mc := 0) (ms := 0) (As := [.ref x14]) (S := []) vmX12_asks (mtX12_asks l e (by omega) v0 x14) q_1788 rfl rfl (Nat.le_of_ble_eq_true rfl) (zdk (cc := cX12_qAsksWord) (q := (205, .invokevirtual 341, 3)) tkX12_qAsksWord 65 rfl) ?_
      refine zco_p tkX12_qAsksWord 66 1 (pc' := 219) (L' := [(0, .ref v0), (1, .int v1)]) (S' := []) rfl ?_
      exact zco_vret rfl rfl rfl (zdk (cc := cX12_qAsksWord) (q := (219, .return_, 1)) tkX12_qAsksWord 71 rfl)
    | j + 13, ht => exact absurd ht (by simp)
theorem mtX12_qAsksWord (l : Launch) (d : Nat) (hd : 5 ≤ d) (v0 : Nat) (v1 : Int32) : zMet l d 0 0 yX12_qAsksWord cX12_qAsksWord 2 (Option.none : Option FieldType) [.ref v0, .int v1] (X12_qAsksWord v0 v1) := by
  obtain ⟨e, rfl⟩ : ∃ e, d = e + 1 := ⟨d - 1, by omega⟩
  exact zmet_of (own := RX12) (ini := false) (by decide +kernel) rfl (fun _ => by contradiction) (Nat.le_of_ble_eq_true rfl) (coX12_qAsksWord l e (by omega) v0 v1)
abbrev iX12_qDrops : zI := (RX12, cX12_qDrops, 1, (Option.none : Option FieldType), false)
def tX12_qDrops : List (Nat × Instr × Nat) := [(0, .aload_n 0, 1), (1, .dup, 1), (2, .getfield 356, 3), (5, .iconst 1, 1), (6, .isub, 1), (7, .putfield 356, 3), (10, .aload_n 0, 1), (11, .aload_n 0, 1), (12, .getfield 258, 3), (15, .aload_n 0, 1), (16, .getfield 356, 3), (19, .iaload, 1), (20, .invokevirtual 633, 3), (23, .return_, 1)]
set_option maxRecDepth 100000 in
theorem tkX12_qDrops : ∀ q ∈ tX12_qDrops, decode cX12_qDrops q.1 = .ok q.2 := by decide +kernel
theorem vmX12_qDrops : zVM yX12_qDrops cX12_qDrops 1 (Option.none : Option FieldType) 0 12 := ⟨kX12_qDrops, q_1875, q_74, q_162, ⟨_, rfl, rfl⟩, by decide +kernel, by decide⟩
set_option maxHeartbeats 2000000 in
set_option maxRecDepth 20000 in
theorem coX12_qDrops (l : Launch) (e : Nat) (he : 1 ≤ e) (v0 : Nat) : zCo l (e + 1) 0 0 iX12_qDrops 0 [(0, .ref v0)] [] (X12_qDrops v0) := by
  unfold X12_qDrops
  refine zco_p tkX12_qDrops 0 2 (pc' := 2) (L' := [(0, .ref v0)]) (S' := [.ref v0, .ref v0]) rfl ?_
  refine zco_gi fl_12_356 rfl (zdk (cc := cX12_qDrops) (q := (2, .getfield 356, 3)) tkX12_qDrops 2 rfl) (fun x1 => ?_)
  refine zco_p tkX12_qDrops 3 2 (pc' := 7) (L' := [(0, .ref v0)]) (S' := [.int (x1 - 1), .ref v0]) rfl ?_
  refine zco_pi fl_12_356 rfl rfl (zdk (cc := cX12_qDrops) (q := (7, .putfield 356, 3)) tkX12_qDrops 5 rfl) ?_
  refine zco_p tkX12_qDrops 6 2 (pc' := 12) (L' := [(0, .ref v0)]) (S' := [.ref v0, .ref v0]) rfl ?_
  refine zco_gr fl_12_258 rfl (zdk (cc := cX12_qDrops) (q := (12, .getfield 258, 3)) tkX12_qDrops 8 rfl) (fun x2 => ?_)
  refine zco_p tkX12_qDrops 9 1 (pc' := 16) (L' := [(0, .ref v0)]) (S' := [.ref v0, .ref x2, .ref v0]) rfl ?_
  refine zco_gi fl_12_356 rfl (zdk (cc := cX12_qDrops) (q := (16, .getfield 356, 3)) tkX12_qDrops 10 rfl) (fun x3 => ?_)
  refine zco_iaload (zdk (cc := cX12_qDrops) (q := (19, .iaload, 1)) tkX12_qDrops 11 rfl) (fun x4 => ?_)
  refine zco_Vv (rc := 0) (rs := 0) (mc := 0) (ms := 0) (As := [.int x4]) (S := []) vmX12_qCode (mtX12_qCode l e (by omega) v0 x4) q_1830 rfl rfl (Nat.le_of_ble_eq_true rfl) (zdk (cc := cX12_qDrops) (q := (20, .invokevirtual 633, 3)) tkX12_qDrops 12 rfl) ?_
  exact zco_vret rfl rfl rfl (zdk (cc := cX12_qDrops) (q := (23, .return_, 1)) tkX12_qDrops 13 rfl)
theorem mtX12_qDrops (l : Launch) (d : Nat) (hd : 2 ≤ d) (v0 : Nat) : zMet l d 0 0 yX12_qDrops cX12_qDrops 1 (Option.none : Option FieldType) [.ref v0] (X12_qDrops v0) := by
  obtain ⟨e, rfl⟩ : ∃ e, d = e + 1 := ⟨d - 1, by omega⟩
  exact zmet_of (own := RX12) (ini := false) (by decide +kernel) rfl (fun _ => by contradiction) (Nat.le_of_ble_eq_true rfl) (coX12_qDrops l e (by omega) v0)
abbrev iX12_qEndsPart : zI := (RX12, cX12_qEndsPart, 1, (Option.none : Option FieldType), false)
def tX12_qEndsPart : List (Nat × Instr × Nat) := [(0, .aload_n 0, 1), (1, .getfield 270, 3), (4, .ifCond .ne 47, 3), (7, .aload_n 0, 1), (8, .getfield 356, 3), (11, .aload_n 0, 1), (12, .getfield 362, 3), (15, .if_icmp .le 36, 3), (18, .aload_n 0, 1), (19, .getfield 258, 3), (22, .aload_n 0, 1), (23, .getfield 356, 3), (26, .iconst 1, 1), (27, .isub, 1), (28, .iaload, 1), (29, .bipush 60, 2), (31, .if_icmp .lt 20, 3), (34, .aload_n 0, 1), (35, .dup, 1), (36, .getfield 359, 3), (39, .iconst 1, 1), (40, .isub, 1), (41, .putfield 359, 3), (44, .aload_n 0, 1), (45, .invokevirtual 639, 3), (48, .goto (-48), 3), (51, .return_, 1)]
set_option maxRecDepth 100000 in
theorem tkX12_qEndsPart : ∀ q ∈ tX12_qEndsPart, decode cX12_qEndsPart q.1 = .ok q.2 := by decide +kernel
theorem vmX12_qEndsPart : zVM yX12_qEndsPart cX12_qEndsPart 1 (Option.none : Option FieldType) 0 12 := ⟨kX12_qEndsPart, q_1871, q_73, q_162, ⟨_, rfl, rfl⟩, by decide +kernel, by decide⟩
set_option maxHeartbeats 2000000 in
set_option maxRecDepth 20000 in
theorem coX12_qEndsPart_B0 (l : Launch) (e : Nat) (he : 2 ≤ e) (v0 : Nat) (r0 : Unit → zM) (hr0 : ∀ x : Unit, zCo l (e + 1) 0 0 iX12_qEndsPart 0 [(0, .ref v0)] [] (r0 x)) : zCo l (e + 1) 0 0 iX12_qEndsPart 0 [(0, .ref v0)] [] (X12_qEndsPart_B0 v0 r0) := by
  unfold X12_qEndsPart_B0
  refine zco_p tkX12_qEndsPart 0 1 (pc' := 1) (L' := [(0, .ref v0)]) (S' := [.ref v0]) rfl ?_
  refine zco_gi fl_12_270 rfl (zdk (cc := cX12_qEndsPart) (q := (1, .getfield 270, 3)) tkX12_qEndsPart 1 rfl) (fun x1 => ?_)
  refine zco_if_ne (tgt := 51) (zdk (cc := cX12_qEndsPart) (q := (4, .ifCond .ne 47, 3)) tkX12_qEndsPart 2 rfl) rfl ?_ ?_
  · exact zco_vret rfl rfl rfl (zdk (cc := cX12_qEndsPart) (q := (51, .return_, 1)) tkX12_qEndsPart 26 rfl)
  · refine zco_p tkX12_qEndsPart 3 1 (pc' := 8) (L' := [(0, .ref v0)]) (S' := [.ref v0]) rfl ?_
    refine zco_gi fl_12_356 rfl (zdk (cc := cX12_qEndsPart) (q := (8, .getfield 356, 3)) tkX12_qEndsPart 4 rfl) (fun x2 => ?_)
    refine zco_p tkX12_qEndsPart 5 1 (pc' := 12) (L' := [(0, .ref v0)]) (S' := [.ref v0, .int x2]) rfl ?_
    refine zco_gi fl_12_362 rfl (zdk (cc := cX12_qEndsPart) (q := (12, .getfield 362, 3)) tkX12_qEndsPart 6 rfl) (fun x3 => ?_)
    refine zco_icmp_le (tgt := 51) (zdk (cc := cX12_qEndsPart) (q := (15, .if_icmp .le 36, 3)) tkX12_qEndsPart 7 rfl) rfl ?_ ?_
    · exact zco_vret rfl rfl rfl (zdk (cc := cX12_qEndsPart) (q := (51, .return_, 1)) tkX12_qEndsPart 26 rfl)
    · refine zco_p tkX12_qEndsPart 8 1 (pc' := 19) (L' := [(0, .ref v0)]) (S' := [.ref v0]) rfl ?_
      refine zco_gr fl_12_258 rfl (zdk (cc := cX12_qEndsPart) (q := (19, .getfield 258, 3)) tkX12_qEndsPart 9 rfl) (fun x4 => ?_)
      refine zco_p tkX12_qEndsPart 10 1 (pc' := 23) (L' := [(0, .ref v0)]) (S' := [.ref v0, .ref x4]) rfl ?_
      refine zco_gi fl_12_356 rfl (zdk (cc := cX12_qEndsPart) (q := (23, .getfield 356, 3)) tkX12_qEndsPart 11 rfl) (fun x5 => ?_)
      refine zco_p tkX12_qEndsPart 12 2 (pc' := 28) (L' := [(0, .ref v0)]) (S' := [.int (x5 - 1), .ref x4]) rfl ?_
      refine zco_iaload (zdk (cc := cX12_qEndsPart) (q := (28, .iaload, 1)) tkX12_qEndsPart 14 rfl) (fun x6 => ?_)
      refine zco_p tkX12_qEndsPart 15 1 (pc' := 31) (L' := [(0, .ref v0)]) (S' := [.int 60, .int x6]) rfl ?_
      refine zco_icmp_lt (tgt := 51) (zdk (cc := cX12_qEndsPart) (q := (31, .if_icmp .lt 20, 3)) tkX12_qEndsPart 16 rfl) rfl ?_ ?_
      · exact zco_vret rfl rfl rfl (zdk (cc := cX12_qEndsPart) (q := (51, .return_, 1)) tkX12_qEndsPart 26 rfl)
      · refine zco_p tkX12_qEndsPart 17 2 (pc' := 36) (L' := [(0, .ref v0)]) (S' := [.ref v0, .ref v0]) rfl ?_
        refine zco_gi fl_12_359 rfl (zdk (cc := cX12_qEndsPart) (q := (36, .getfield 359, 3)) tkX12_qEndsPart 19 rfl) (fun x7 => ?_)
        refine zco_p tkX12_qEndsPart 20 2 (pc' := 41) (L' := [(0, .ref v0)]) (S' := [.int (x7 - 1), .ref v0]) rfl ?_
        refine zco_pi fl_12_359 rfl rfl (zdk (cc := cX12_qEndsPart) (q := (41, .putfield 359, 3)) tkX12_qEndsPart 22 rfl) ?_
        refine zco_p tkX12_qEndsPart 23 1 (pc' := 45) (L' := [(0, .ref v0)]) (S' := [.ref v0]) rfl ?_
        refine zco_Vv (rc := 0) (rs := 0) (mc := 0) (ms := 0) (As := []) (S := []) vmX12_qDrops (mtX12_qDrops l e (by omega) v0) q_1873 rfl rfl (Nat.le_of_ble_eq_true rfl) (zdk (cc := cX12_qEndsPart) (q := (45, .invokevirtual 639, 3)) tkX12_qEndsPart 24 rfl) ?_
        refine zco_p tkX12_qEndsPart 25 1 (pc' := 0) (L' := [(0, .ref v0)]) (S' := []) rfl ?_
        exact zco_sub [0] rfl (hr0 (()))
set_option maxHeartbeats 2000000 in
set_option maxRecDepth 20000 in
theorem coX12_qEndsPart (l : Launch) (e : Nat) (he : 2 ≤ e) (v0 : Nat) : zCo l (e + 1) 0 0 iX12_qEndsPart 0 [(0, .ref v0)] [] (X12_qEndsPart v0) := by
  unfold X12_qEndsPart
  exact zco_sub [0] rfl (zco_fix (Lf := fun x : Unit => [(0, .ref v0)]) (Sf := fun _ => []) (fun r hr x => coX12_qEndsPart_B0 l e he v0 r hr ) zFU (()))
theorem mtX12_qEndsPart (l : Launch) (d : Nat) (hd : 3 ≤ d) (v0 : Nat) : zMet l d 0 0 yX12_qEndsPart cX12_qEndsPart 1 (Option.none : Option FieldType) [.ref v0] (X12_qEndsPart v0) := by
  obtain ⟨e, rfl⟩ : ∃ e, d = e + 1 := ⟨d - 1, by omega⟩
  exact zmet_of (own := RX12) (ini := false) (by decide +kernel) rfl (fun _ => by contradiction) (Nat.le_of_ble_eq_true rfl) (coX12_qEndsPart l e (by omega) v0)
abbrev iX12_qPartTold : zI := (RX12, cX12_qPartTold, 6, (Option.none : Option FieldType), false)
def tX12_qPartTold : List (Nat × Instr × Nat) := [(0, .iconst 1, 1), (1, .istore_n 1, 1), (2, .iload_n 1, 1), (3, .ifCond .eq 183, 3), (6, .aload_n 0, 1), (7, .getfield 270, 3), (10, .ifCond .ne 176, 3), (13, .aload_n 0, 1), (14, .invokevirtual 282, 3), (17, .istore_n 2, 1), (18, .aload_n 0, 1), (19, .bipush 12, 2), (21, .bipush 14, 2), (23, .invokevirtual 648, 3), (26, .istore_n 3, 1), (27, .iload_n 2, 1), (28, .bipush 40, 2), (30, .if_icmp .ne 26, 3), (33, .aload_n 0, 1), (34, .bipush 20, 2), (36, .aload_n 0, 1), (37, .getfield 276, 3), (40, .invokevirtual 651, 3), (43, .aload_n 0, 1), (44, .dup, 1), (45, .getfield 276, 3), (48, .iconst 1, 1), (49, .iadd, 1), (50, .putfield 276, 3), (53, .goto 130, 3), (56, .aload_n 0, 1), (57, .aload_n 0, 1), (58, .getfield 207, 3), (61, .invokevirtual 293, 3), (64, .ifCond .ne 14, 3), (67, .aload_n 0, 1), (68, .aload_n 0, 1), (69, .getfield 210, 3), (72, .invokevirtual 293, 3), (75, .ifCond .eq 78, 3), (78, .aload_n 0, 1), (79, .aload_n 0, 1), (80, .getfield 207, 3), (83, .invokevirtual 297, 3), (86, .istore 4, 2), (88, .iload 4, 2), (90, .ifCond .ne 11, 3), (93, .aload_n 0, 1), (94, .aload_n 0, 1), (95, .getfield 210, 3), (98, .invokevirtual 341, 3), (101, .aload_n 0, 1), (102, .invokevirtual 282, 3), (105, .bipush 40, 2), (107, .if_icmp .ne 10, 3), (110, .aload_n 0, 1), (111, .getfield 276, 3), (114, .goto 4, 3), (117, .iconst (-1), 1), (118, .istore 5, 2), (120, .iload 5, 2), (122, .iconst (-1), 1), (123, .if_icmp .eq 21, 3), (126, .aload_n 0, 1), (127, .iload 4, 2), (129, .ifCond .eq 8, 3), (132, .bipush 21, 2), (134, .goto 5, 3), (137, .bipush 22, 2), (139, .iload 5, 2), (141, .invokevirtual 651, 3), (144, .aload_n 0, 1), (145, .bipush 40, 2), (147, .invokevirtual 390, 3), (150, .goto 33, 3), (153, .iload_n 3, 1), (154, .iconst (-1), 1), (155, .if_icmp .eq 26, 3), (158, .aload_n 0, 1), (159, .bipush 60, 2), (161, .iload_n 3, 1), (162, .iadd, 1), (163, .bipush 12, 2), (165, .isub, 1), (166, .aload_n 0, 1), (167, .getfield 276, 3), (170, .invokevirtual 651, 3), (173, .aload_n 0, 1), (174, .iload_n 3, 1), (175, .invokevirtual 654, 3), (178, .goto 5, 3), (181, .iconst 0, 1), (182, .istore_n 1, 1), (183, .goto (-181), 3), (186, .aload_n 0, 1), (187, .getfield 270, 3), (190, .ifCond .eq 4, 3), (193, .return_, 1), (194, .aload_n 0, 1), (195, .iconst 0, 1), (196, .bipush 12, 2), (198, .invokevirtual 648, 3), (201, .istore_n 2, 1), (202, .iload_n 2, 1), (203, .iconst (-1), 1), (204, .if_icmp .eq 8, 3), (207, .aload_n 0, 1), (208, .iload_n 2, 1), (209, .invokevirtual 654, 3), (212, .aload_n 0, 1), (213, .iload_n 2, 1), (214, .iconst (-1), 1), (215, .if_icmp .eq 10, 3), (218, .bipush 40, 2), (220, .iload_n 2, 1), (221, .iadd, 1), (222, .goto 15, 3), (225, .sipush 1000, 3), (228, .aload_n 0, 1), (229, .iconst 0, 1), (230, .sipush 9999, 3), (233, .invokevirtual 345, 3), (236, .iadd, 1), (237, .invokevirtual 633, 3), (240, .aload_n 0, 1), (241, .invokevirtual 657, 3), (244, .return_, 1)]
set_option maxRecDepth 100000 in
theorem tkX12_qPartTold : ∀ q ∈ tX12_qPartTold, decode cX12_qPartTold q.1 = .ok q.2 := by decide +kernel
theorem vmX12_qPartTold : zVM yX12_qPartTold cX12_qPartTold 6 (Option.none : Option FieldType) 0 12 := ⟨kX12_qPartTold, q_1840, q_66, q_162, ⟨_, rfl, rfl⟩, by decide +kernel, by decide⟩
set_option maxHeartbeats 2000000 in
set_option maxRecDepth 20000 in
theorem coX12_qPartTold_J237 (l : Launch) (e : Nat) (he : 5 ≤ e) (v0 : Nat) (s0 : Int32) (s1 : Nat) : zCo l (e + 1) 0 0 iX12_qPartTold 237 [(0, .ref v0)] [.int s0, .ref s1] (X12_qPartTold_J237 v0 s0 s1) := by
  unfold X12_qPartTold_J237
  refine zco_Vv (rc := 0) (rs := 0) (mc := 0) (ms := 0) (As := [.int s0]) (S := []) vmX12_qCode (mtX12_qCode l e (by omega) s1 s0) q_1830 rfl rfl (Nat.le_of_ble_eq_true rfl) (zdk (cc := cX12_qPartTold) (q := (237, .invokevirtual 633, 3)) tkX12_qPartTold 123 rfl) ?_
  refine zco_p tkX12_qPartTold 124 1 (pc' := 241) (L' := [(0, .ref v0)]) (S' := [.ref v0]) rfl ?_
  refine zco_Vv (rc := 0) (rs := 0) (mc := 0) (ms := 0) (As := []) (S := []) vmX12_qEndsPart (mtX12_qEndsPart l e (by omega) v0) q_1869 rfl rfl (Nat.le_of_ble_eq_true rfl) (zdk (cc := cX12_qPartTold) (q := (241, .invokevirtual 657, 3)) tkX12_qPartTold 125 rfl) ?_
  exact zco_vret rfl rfl rfl (zdk (cc := cX12_qPartTold) (q := (244, .return_, 1)) tkX12_qPartTold 126 rfl)
set_option maxHeartbeats 2000000 in
set_option maxRecDepth 20000 in
theorem coX12_qPartTold_J212 (l : Launch) (e : Nat) (he : 5 ≤ e) (v0 : Nat) (v2 : Int32) : zCo l (e + 1) 0 0 iX12_qPartTold 212 [(0, .ref v0), (2, .int v2)] [] (X12_qPartTold_J212 v0 v2) := by
  unfold X12_qPartTold_J212
  refine zco_p tkX12_qPartTold 109 3 (pc' := 215) (L' := [(0, .ref v0), (2, .int v2)]) (S' := [.int ((-1)), .int v2, .ref v0]) rfl ?_
  refine zco_icmp_eq (tgt := 225) (zdk (cc := cX12_qPartTold) (q := (215, .if_icmp .eq 10, 3)) tkX12_qPartTold 112 rfl) rfl ?_ ?_
  · refine zco_p tkX12_qPartTold 117 4 (pc' := 233) (L' := [(0, .ref v0), (2, .int v2)]) (S' := [.int 9999, .int 0, .ref v0, .int 1000, .ref v0]) rfl ?_
    refine zco_Vi (rc := 0) (rs := 0) (mc := 0) (ms := 0) (As := [.int 0, .int 9999]) (S := [.int 1000, .ref v0]) vmX12_number (mtX12_number l e (by omega) v0 0 9999) q_1792 rfl rfl (Nat.le_of_ble_eq_true rfl) (zdk (cc := cX12_qPartTold) (q := (233, .invokevirtual 345, 3)) tkX12_qPartTold 121 rfl) (fun y1 => ?_)
    refine zco_p tkX12_qPartTold 122 1 (pc' := 237) (L' := [(0, .ref v0), (2, .int v2)]) (S' := [.int (1000 + y1), .ref v0]) rfl ?_
    exact zco_sub [0] rfl (coX12_qPartTold_J237 l e he v0 (1000 + y1) v0)
  · refine zco_p tkX12_qPartTold 113 4 (pc' := 237) (L' := [(0, .ref v0), (2, .int v2)]) (S' := [.int (40 + v2), .ref v0]) rfl ?_
    exact zco_sub [0] rfl (coX12_qPartTold_J237 l e he v0 (40 + v2) v0)
set_option maxHeartbeats 2000000 in
set_option maxRecDepth 20000 in
theorem coX12_qPartTold_J186 (l : Launch) (e : Nat) (he : 5 ≤ e) (v0 : Nat) : zCo l (e + 1) 0 0 iX12_qPartTold 186 [(0, .ref v0)] [] (X12_qPartTold_J186 v0) := by
  unfold X12_qPartTold_J186
  refine zco_p tkX12_qPartTold 94 1 (pc' := 187) (L' := [(0, .ref v0)]) (S' := [.ref v0]) rfl ?_
  refine zco_gi fl_12_270 rfl (zdk (cc := cX12_qPartTold) (q := (187, .getfield 270, 3)) tkX12_qPartTold 95 rfl) (fun x1 => ?_)
  refine zco_if_eq (tgt := 194) (zdk (cc := cX12_qPartTold) (q := (190, .ifCond .eq 4, 3)) tkX12_qPartTold 96 rfl) rfl ?_ ?_
  · refine zco_p tkX12_qPartTold 98 3 (pc' := 198) (L' := [(0, .ref v0)]) (S' := [.int 12, .int 0, .ref v0]) rfl ?_
    refine zco_Vi (rc := 0) (rs := 0) (mc := 0) (ms := 0) (As := [.int 0, .int 12]) (S := []) vmX12_qWordOf (mtX12_qWordOf l e (by omega) v0 0 12) q_1842 rfl rfl (Nat.le_of_ble_eq_true rfl) (zdk (cc := cX12_qPartTold) (q := (198, .invokevirtual 648, 3)) tkX12_qPartTold 101 rfl) (fun y2 => ?_)
    refine zco_p tkX12_qPartTold 102 3 (pc' := 204) (L' := [(2, .int y2), (0, .ref v0)]) (S' := [.int ((-1)), .int y2]) rfl ?_
    refine zco_icmp_eq (tgt := 212) (zdk (cc := cX12_qPartTold) (q := (204, .if_icmp .eq 8, 3)) tkX12_qPartTold 105 rfl) rfl ?_ ?_
    · exact zco_sub [1, 0] rfl (coX12_qPartTold_J212 l e he v0 y2)
    · refine zco_p tkX12_qPartTold 106 2 (pc' := 209) (L' := [(2, .int y2), (0, .ref v0)]) (S' := [.int y2, .ref v0]) rfl ?_
      refine zco_Vv (rc := 0) (rs := 0) (mc := 0) (ms := 0) (As := [.int y2]) (S := []) vmX12_qAsksWord (mtX12_qAsksWord l e (by omega) v0 y2) q_1865 rfl rfl (Nat.le_of_ble_eq_true rfl) (zdk (cc := cX12_qPartTold) (q := (209, .invokevirtual 654, 3)) tkX12_qPartTold 108 rfl) ?_
      exact zco_sub [1, 0] rfl (coX12_qPartTold_J212 l e he v0 y2)
  · exact zco_vret rfl rfl rfl (zdk (cc := cX12_qPartTold) (q := (193, .return_, 1)) tkX12_qPartTold 97 rfl)
set_option maxHeartbeats 2000000 in
set_option maxRecDepth 20000 in
theorem coX12_qPartTold_J183 (l : Launch) (e : Nat) (he : 5 ≤ e) (v0 : Nat) (v1 : Int32) (r2 : Int32 → zM) (hr2 : ∀ x : Int32, zCo l (e + 1) 0 0 iX12_qPartTold 2 [(0, .ref v0), (1, .int x)] [] (r2 x)) : zCo l (e + 1) 0 0 iX12_qPartTold 183 [(0, .ref v0), (1, .int v1)] [] (X12_qPartTold_J183 r2 v0 v1) := by
  unfold X12_qPartTold_J183
  refine zco_p tkX12_qPartTold 93 1 (pc' := 2) (L' := [(0, .ref v0), (1, .int v1)]) (S' := []) rfl ?_
  exact zco_sub [0, 1] rfl (hr2 v1)
set_option maxHeartbeats 2000000 in
set_option maxRecDepth 20000 in
theorem coX12_qPartTold_J144 (l : Launch) (e : Nat) (he : 5 ≤ e) (v0 : Nat) (v1 : Int32) (r2 : Int32 → zM) (hr2 : ∀ x : Int32, zCo l (e + 1) 0 0 iX12_qPartTold 2 [(0, .ref v0), (1, .int x)] [] (r2 x)) : zCo l (e + 1) 0 0 iX12_qPartTold 144 [(0, .ref v0), (1, .int v1)] [] (X12_qPartTold_J144 r2 v0 v1) := by
  unfold X12_qPartTold_J144
  refine zco_p tkX12_qPartTold 71 2 (pc' := 147) (L' := [(0, .ref v0), (1, .int v1)]) (S' := [.int 40, .ref v0]) rfl ?_
  refine zco_Vv (rc := 0) (rs := 0) (mc := 0) (ms := 0) (As := [.int 40]) (S := []) vmX12_asksSign (mtX12_asksSign l e (by omega) v0 40) q_1857 rfl rfl (Nat.le_of_ble_eq_true rfl) (zdk (cc := cX12_qPartTold) (q := (147, .invokevirtual 390, 3)) tkX12_qPartTold 73 rfl) ?_
  refine zco_p tkX12_qPartTold 74 1 (pc' := 183) (L' := [(0, .ref v0), (1, .int v1)]) (S' := []) rfl ?_
  exact zco_sub [0, 1] rfl (coX12_qPartTold_J183 l e he v0 v1 r2 hr2)
set_option maxHeartbeats 2000000 in
set_option maxRecDepth 20000 in
theorem coX12_qPartTold_J139 (l : Launch) (e : Nat) (he : 5 ≤ e) (v0 : Nat) (v1 : Int32) (v5 : Int32) (r2 : Int32 → zM) (hr2 : ∀ x : Int32, zCo l (e + 1) 0 0 iX12_qPartTold 2 [(0, .ref v0), (1, .int x)] [] (r2 x)) (s0 : Int32) (s1 : Nat) : zCo l (e + 1) 0 0 iX12_qPartTold 139 [(0, .ref v0), (1, .int v1), (5, .int v5)] [.int s0, .ref s1] (X12_qPartTold_J139 r2 v0 v1 v5 s0 s1) := by
  unfold X12_qPartTold_J139
  refine zco_p tkX12_qPartTold 69 1 (pc' := 141) (L' := [(0, .ref v0), (1, .int v1), (5, .int v5)]) (S' := [.int v5, .int s0, .ref s1]) rfl ?_
  refine zco_Vv (rc := 0) (rs := 0) (mc := 0) (ms := 0) (As := [.int s0, .int v5]) (S := []) vmX12_qOpens (mtX12_qOpens l e (by omega) s1 s0 v5) q_1822 rfl rfl (Nat.le_of_ble_eq_true rfl) (zdk (cc := cX12_qPartTold) (q := (141, .invokevirtual 651, 3)) tkX12_qPartTold 70 rfl) ?_
  exact zco_sub [0, 1] rfl (coX12_qPartTold_J144 l e he v0 v1 r2 hr2)
set_option maxHeartbeats 2000000 in
set_option maxRecDepth 20000 in
theorem coX12_qPartTold_J118 (l : Launch) (e : Nat) (he : 5 ≤ e) (v0 : Nat) (v1 : Int32) (v4 : Int32) (r2 : Int32 → zM) (hr2 : ∀ x : Int32, zCo l (e + 1) 0 0 iX12_qPartTold 2 [(0, .ref v0), (1, .int x)] [] (r2 x)) (s0 : Int32) : zCo l (e + 1) 0 0 iX12_qPartTold 118 [(0, .ref v0), (1, .int v1), (4, .int v4)] [.int s0] (X12_qPartTold_J118 r2 v0 v1 v4 s0) := by
  unfold X12_qPartTold_J118
  refine zco_p tkX12_qPartTold 59 3 (pc' := 123) (L' := [(5, .int s0), (0, .ref v0), (1, .int v1), (4, .int v4)]) (S' := [.int ((-1)), .int s0]) rfl ?_
  refine zco_icmp_eq (tgt := 144) (zdk (cc := cX12_qPartTold) (q := (123, .if_icmp .eq 21, 3)) tkX12_qPartTold 62 rfl) rfl ?_ ?_
  · exact zco_sub [1, 2] rfl (coX12_qPartTold_J144 l e he v0 v1 r2 hr2)
  · refine zco_p tkX12_qPartTold 63 2 (pc' := 129) (L' := [(5, .int s0), (0, .ref v0), (1, .int v1), (4, .int v4)]) (S' := [.int v4, .ref v0]) rfl ?_
    refine zco_if_eq (tgt := 137) (zdk (cc := cX12_qPartTold) (q := (129, .ifCond .eq 8, 3)) tkX12_qPartTold 65 rfl) rfl ?_ ?_
    · refine zco_p tkX12_qPartTold 68 1 (pc' := 139) (L' := [(5, .int s0), (0, .ref v0), (1, .int v1), (4, .int v4)]) (S' := [.int 22, .ref v0]) rfl ?_
      exact zco_sub [1, 2, 0] rfl (coX12_qPartTold_J139 l e he v0 v1 s0 r2 hr2 22 v0)
    · refine zco_p tkX12_qPartTold 66 2 (pc' := 139) (L' := [(5, .int s0), (0, .ref v0), (1, .int v1), (4, .int v4)]) (S' := [.int 21, .ref v0]) rfl ?_
      exact zco_sub [1, 2, 0] rfl (coX12_qPartTold_J139 l e he v0 v1 s0 r2 hr2 21 v0)
set_option maxHeartbeats 2000000 in
set_option maxRecDepth 20000 in
theorem coX12_qPartTold_J101 (l : Launch) (e : Nat) (he : 5 ≤ e) (v0 : Nat) (v1 : Int32) (v4 : Int32) (r2 : Int32 → zM) (hr2 : ∀ x : Int32, zCo l (e + 1) 0 0 iX12_qPartTold 2 [(0, .ref v0), (1, .int x)] [] (r2 x)) : zCo l (e + 1) 0 0 iX12_qPartTold 101 [(0, .ref v0), (1, .int v1), (4, .int v4)] [] (X12_qPartTold_J101 r2 v0 v1 v4) := by
  unfold X12_qPartTold_J101
  refine zco_p tkX12_qPartTold 51 1 (pc' := 102) (L' := [(0, .ref v0), (1, .int v1), (4, .int v4)]) (S' := [.ref v0]) rfl ?_
  refine zco_Vi (rc := 0) (rs := 0) (mc := 0) (ms := 0) (As := []) (S := []) vmX12_look (mtX12_look l e (by omega) v0) q_1751 rfl rfl (Nat.le_of_ble_eq_true rfl) (zdk (cc := cX12_qPartTold) (q := (102, .invokevirtual 282, 3)) tkX12_qPartTold 52 rfl) (fun y1 => ?_)
  refine zco_p tkX12_qPartTold 53 1 (pc' := 107) (L' := [(0, .ref v0), (1, .int v1), (4, .int v4)]) (S' := [.int 40, .int y1]) rfl ?_
  refine zco_icmp_ne (tgt := 117) (zdk (cc := cX12_qPartTold) (q := (107, .if_icmp .ne 10, 3)) tkX12_qPartTold 54 rfl) rfl ?_ ?_
  · refine zco_p tkX12_qPartTold 58 1 (pc' := 118) (L' := [(0, .ref v0), (1, .int v1), (4, .int v4)]) (S' := [.int ((-1))]) rfl ?_
    exact zco_sub [0, 1, 2] rfl (coX12_qPartTold_J118 l e he v0 v1 v4 r2 hr2 ((-1)))
  · refine zco_p tkX12_qPartTold 55 1 (pc' := 111) (L' := [(0, .ref v0), (1, .int v1), (4, .int v4)]) (S' := [.ref v0]) rfl ?_
    refine zco_gi fl_12_276 rfl (zdk (cc := cX12_qPartTold) (q := (111, .getfield 276, 3)) tkX12_qPartTold 56 rfl) (fun x2 => ?_)
    refine zco_p tkX12_qPartTold 57 1 (pc' := 118) (L' := [(0, .ref v0), (1, .int v1), (4, .int v4)]) (S' := [.int x2]) rfl ?_
    exact zco_sub [0, 1, 2] rfl (coX12_qPartTold_J118 l e he v0 v1 v4 r2 hr2 x2)
set_option maxHeartbeats 2000000 in
set_option maxRecDepth 20000 in
theorem coX12_qPartTold_J78 (l : Launch) (e : Nat) (he : 5 ≤ e) (v0 : Nat) (v1 : Int32) (r2 : Int32 → zM) (hr2 : ∀ x : Int32, zCo l (e + 1) 0 0 iX12_qPartTold 2 [(0, .ref v0), (1, .int x)] [] (r2 x)) : zCo l (e + 1) 0 0 iX12_qPartTold 78 [(0, .ref v0), (1, .int v1)] [] (X12_qPartTold_J78 r2 v0 v1) := by
  unfold X12_qPartTold_J78
  refine zco_p tkX12_qPartTold 40 2 (pc' := 80) (L' := [(0, .ref v0), (1, .int v1)]) (S' := [.ref v0, .ref v0]) rfl ?_
  refine zco_gr fl_12_207 rfl (zdk (cc := cX12_qPartTold) (q := (80, .getfield 207, 3)) tkX12_qPartTold 42 rfl) (fun x1 => ?_)
  refine zco_Vi (rc := 0) (rs := 0) (mc := 0) (ms := 0) (As := [.ref x1]) (S := []) vmX12_takes (mtX12_takes l e (by omega) v0 x1) q_1763 rfl rfl (Nat.le_of_ble_eq_true rfl) (zdk (cc := cX12_qPartTold) (q := (83, .invokevirtual 297, 3)) tkX12_qPartTold 43 rfl) (fun y2 => ?_)
  refine zco_p tkX12_qPartTold 44 2 (pc' := 90) (L' := [(4, .int y2), (0, .ref v0), (1, .int v1)]) (S' := [.int y2]) rfl ?_
  refine zco_if_ne (tgt := 101) (zdk (cc := cX12_qPartTold) (q := (90, .ifCond .ne 11, 3)) tkX12_qPartTold 46 rfl) rfl ?_ ?_
  · exact zco_sub [1, 2, 0] rfl (coX12_qPartTold_J101 l e he v0 v1 y2 r2 hr2)
  · refine zco_p tkX12_qPartTold 47 2 (pc' := 95) (L' := [(4, .int y2), (0, .ref v0), (1, .int v1)]) (S' := [.ref v0, .ref v0]) rfl ?_
    refine zco_gr fl_12_210 rfl (zdk (cc := cX12_qPartTold) (q := (95, .getfield 210, 3)) tkX12_qPartTold 49 rfl) (fun x3 => ?_)
    refine zco_Vv (rc := 0) (rs := 0) (mc := 0) (ms := 0) (As := [.ref x3]) (S := []) vmX12_asks (mtX12_asks l e (by omega) v0 x3) q_1788 rfl rfl (Nat.le_of_ble_eq_true rfl) (zdk (cc := cX12_qPartTold) (q := (98, .invokevirtual 341, 3)) tkX12_qPartTold 50 rfl) ?_
    exact zco_sub [1, 2, 0] rfl (coX12_qPartTold_J101 l e he v0 v1 y2 r2 hr2)
set_option maxHeartbeats 2000000 in
set_option maxRecDepth 20000 in
theorem coX12_qPartTold_B2 (l : Launch) (e : Nat) (he : 5 ≤ e) (v0 : Nat) (r2 : Int32 → zM) (hr2 : ∀ x : Int32, zCo l (e + 1) 0 0 iX12_qPartTold 2 [(0, .ref v0), (1, .int x)] [] (r2 x)) (v1 : Int32) : zCo l (e + 1) 0 0 iX12_qPartTold 2 [(0, .ref v0), (1, .int v1)] [] (X12_qPartTold_B2 v0 r2 v1) := by
  unfold X12_qPartTold_B2
  refine zco_p tkX12_qPartTold 2 1 (pc' := 3) (L' := [(0, .ref v0), (1, .int v1)]) (S' := [.int v1]) rfl ?_
  refine zco_if_eq (tgt := 186) (zdk (cc := cX12_qPartTold) (q := (3, .ifCond .eq 183, 3)) tkX12_qPartTold 3 rfl) rfl ?_ ?_
  · exact zco_sub [0] rfl (coX12_qPartTold_J186 l e he v0)
  · refine zco_p tkX12_qPartTold 4 1 (pc' := 7) (L' := [(0, .ref v0), (1, .int v1)]) (S' := [.ref v0]) rfl ?_
    refine zco_gi fl_12_270 rfl (zdk (cc := cX12_qPartTold) (q := (7, .getfield 270, 3)) tkX12_qPartTold 5 rfl) (fun x1 => ?_)
    refine zco_if_ne (tgt := 186) (zdk (cc := cX12_qPartTold) (q := (10, .ifCond .ne 176, 3)) tkX12_qPartTold 6 rfl) rfl ?_ ?_
    · exact zco_sub [0] rfl (coX12_qPartTold_J186 l e he v0)
    · refine zco_p tkX12_qPartTold 7 1 (pc' := 14) (L' := [(0, .ref v0), (1, .int v1)]) (S' := [.ref v0]) rfl ?_
      refine zco_Vi (rc := 0) (rs := 0) (mc := 0) (ms := 0) (As := []) (S := []) vmX12_look (mtX12_look l e (by omega) v0) q_1751 rfl rfl (Nat.le_of_ble_eq_true rfl) (zdk (cc := cX12_qPartTold) (q := (14, .invokevirtual 282, 3)) tkX12_qPartTold 8 rfl) (fun y2 => ?_)
      refine zco_p tkX12_qPartTold 9 4 (pc' := 23) (L' := [(2, .int y2), (0, .ref v0), (1, .int v1)]) (S' := [.int 14, .int 12, .ref v0]) rfl ?_
      refine zco_Vi (rc := 0) (rs := 0) (mc := 0) (ms := 0) (As := [.int 12, .int 14]) (S := []) vmX12_qWordOf (mtX12_qWordOf l e (by omega) v0 12 14) q_1842 rfl rfl (Nat.le_of_ble_eq_true rfl) (zdk (cc := cX12_qPartTold) (q := (23, .invokevirtual 648, 3)) tkX12_qPartTold 13 rfl) (fun y3 => ?_)
      refine zco_p tkX12_qPartTold 14 3 (pc' := 30) (L' := [(3, .int y3), (2, .int y2), (0, .ref v0), (1, .int v1)]) (S' := [.int 40, .int y2]) rfl ?_
      refine zco_icmp_ne (tgt := 56) (zdk (cc := cX12_qPartTold) (q := (30, .if_icmp .ne 26, 3)) tkX12_qPartTold 17 rfl) rfl ?_ ?_
      · refine zco_p tkX12_qPartTold 30 2 (pc' := 58) (L' := [(3, .int y3), (2, .int y2), (0, .ref v0), (1, .int v1)]) (S' := [.ref v0, .ref v0]) rfl ?_
        refine zco_gr fl_12_207 rfl (zdk (cc := cX12_qPartTold) (q := (58, .getfield 207, 3)) tkX12_qPartTold 32 rfl) (fun x4 => ?_)
        refine zco_Vi (rc := 0) (rs := 0) (mc := 0) (ms := 0) (As := [.ref x4]) (S := []) vmX12_isHere (mtX12_isHere l e (by omega) v0 x4) q_1767 rfl rfl (Nat.le_of_ble_eq_true rfl) (zdk (cc := cX12_qPartTold) (q := (61, .invokevirtual 293, 3)) tkX12_qPartTold 33 rfl) (fun y5 => ?_)
        refine zco_if_ne (tgt := 78) (zdk (cc := cX12_qPartTold) (q := (64, .ifCond .ne 14, 3)) tkX12_qPartTold 34 rfl) rfl ?_ ?_
        · exact zco_sub [2, 3] rfl (coX12_qPartTold_J78 l e he v0 v1 r2 hr2)
        · refine zco_p tkX12_qPartTold 35 2 (pc' := 69) (L' := [(3, .int y3), (2, .int y2), (0, .ref v0), (1, .int v1)]) (S' := [.ref v0, .ref v0]) rfl ?_
          refine zco_gr fl_12_210 rfl (zdk (cc := cX12_qPartTold) (q := (69, .getfield 210, 3)) tkX12_qPartTold 37 rfl) (fun x6 => ?_)
          refine zco_Vi (rc := 0) (rs := 0) (mc := 0) (ms := 0) (As := [.ref x6]) (S := []) vmX12_isHere (mtX12_isHere l e (by omega) v0 x6) q_1767 rfl rfl (Nat.le_of_ble_eq_true rfl) (zdk (cc := cX12_qPartTold) (q := (72, .invokevirtual 293, 3)) tkX12_qPartTold 38 rfl) (fun y7 => ?_)
          refine zco_if_eq (tgt := 153) (zdk (cc := cX12_qPartTold) (q := (75, .ifCond .eq 78, 3)) tkX12_qPartTold 39 rfl) rfl ?_ ?_
          · refine zco_p tkX12_qPartTold 75 2 (pc' := 155) (L' := [(3, .int y3), (2, .int y2), (0, .ref v0), (1, .int v1)]) (S' := [.int ((-1)), .int y3]) rfl ?_
            refine zco_icmp_eq (tgt := 181) (zdk (cc := cX12_qPartTold) (q := (155, .if_icmp .eq 26, 3)) tkX12_qPartTold 77 rfl) rfl ?_ ?_
            · refine zco_p tkX12_qPartTold 91 2 (pc' := 183) (L' := [(1, .int 0), (3, .int y3), (2, .int y2), (0, .ref v0)]) (S' := []) rfl ?_
              exact zco_sub [3, 0] rfl (coX12_qPartTold_J183 l e he v0 0 r2 hr2)
            · refine zco_p tkX12_qPartTold 78 7 (pc' := 167) (L' := [(3, .int y3), (2, .int y2), (0, .ref v0), (1, .int v1)]) (S' := [.ref v0, .int ((60 + y3) - 12), .ref v0]) rfl ?_
              refine zco_gi fl_12_276 rfl (zdk (cc := cX12_qPartTold) (q := (167, .getfield 276, 3)) tkX12_qPartTold 85 rfl) (fun x8 => ?_)
              refine zco_Vv (rc := 0) (rs := 0) (mc := 0) (ms := 0) (As := [.int ((60 + y3) - 12), .int x8]) (S := []) vmX12_qOpens (mtX12_qOpens l e (by omega) v0 ((60 + y3) - 12) x8) q_1822 rfl rfl (Nat.le_of_ble_eq_true rfl) (zdk (cc := cX12_qPartTold) (q := (170, .invokevirtual 651, 3)) tkX12_qPartTold 86 rfl) ?_
              refine zco_p tkX12_qPartTold 87 2 (pc' := 175) (L' := [(3, .int y3), (2, .int y2), (0, .ref v0), (1, .int v1)]) (S' := [.int y3, .ref v0]) rfl ?_
              refine zco_Vv (rc := 0) (rs := 0) (mc := 0) (ms := 0) (As := [.int y3]) (S := []) vmX12_qAsksWord (mtX12_qAsksWord l e (by omega) v0 y3) q_1865 rfl rfl (Nat.le_of_ble_eq_true rfl) (zdk (cc := cX12_qPartTold) (q := (175, .invokevirtual 654, 3)) tkX12_qPartTold 89 rfl) ?_
              refine zco_p tkX12_qPartTold 90 1 (pc' := 183) (L' := [(3, .int y3), (2, .int y2), (0, .ref v0), (1, .int v1)]) (S' := []) rfl ?_
              exact zco_sub [2, 3] rfl (coX12_qPartTold_J183 l e he v0 v1 r2 hr2)
          · exact zco_sub [2, 3] rfl (coX12_qPartTold_J78 l e he v0 v1 r2 hr2)
      · refine zco_p tkX12_qPartTold 18 3 (pc' := 37) (L' := [(3, .int y3), (2, .int y2), (0, .ref v0), (1, .int v1)]) (S' := [.ref v0, .int 20, .ref v0]) rfl ?_
        refine zco_gi fl_12_276 rfl (zdk (cc := cX12_qPartTold) (q := (37, .getfield 276, 3)) tkX12_qPartTold 21 rfl) (fun x9 => ?_)
        refine zco_Vv (rc := 0) (rs := 0) (mc := 0) (ms := 0) (As := [.int 20, .int x9]) (S := []) vmX12_qOpens (mtX12_qOpens l e (by omega) v0 20 x9) q_1822 rfl rfl (Nat.le_of_ble_eq_true rfl) (zdk (cc := cX12_qPartTold) (q := (40, .invokevirtual 651, 3)) tkX12_qPartTold 22 rfl) ?_
        refine zco_p tkX12_qPartTold 23 2 (pc' := 45) (L' := [(3, .int y3), (2, .int y2), (0, .ref v0), (1, .int v1)]) (S' := [.ref v0, .ref v0]) rfl ?_
        refine zco_gi fl_12_276 rfl (zdk (cc := cX12_qPartTold) (q := (45, .getfield 276, 3)) tkX12_qPartTold 25 rfl) (fun x10 => ?_)
        refine zco_p tkX12_qPartTold 26 2 (pc' := 50) (L' := [(3, .int y3), (2, .int y2), (0, .ref v0), (1, .int v1)]) (S' := [.int (x10 + 1), .ref v0]) rfl ?_
        refine zco_pi fl_12_276 rfl rfl (zdk (cc := cX12_qPartTold) (q := (50, .putfield 276, 3)) tkX12_qPartTold 28 rfl) ?_
        refine zco_p tkX12_qPartTold 29 1 (pc' := 183) (L' := [(3, .int y3), (2, .int y2), (0, .ref v0), (1, .int v1)]) (S' := []) rfl ?_
        exact zco_sub [2, 3] rfl (coX12_qPartTold_J183 l e he v0 v1 r2 hr2)
set_option maxHeartbeats 2000000 in
set_option maxRecDepth 20000 in
theorem coX12_qPartTold (l : Launch) (e : Nat) (he : 5 ≤ e) (v0 : Nat) : zCo l (e + 1) 0 0 iX12_qPartTold 0 [(0, .ref v0)] [] (X12_qPartTold v0) := by
  unfold X12_qPartTold
  refine zco_p tkX12_qPartTold 0 2 (pc' := 2) (L' := [(1, .int 1), (0, .ref v0)]) (S' := []) rfl ?_
  exact zco_sub [1, 0] rfl (zco_fix (Lf := fun x : Int32 => [(0, .ref v0), (1, .int x)]) (Sf := fun _ => []) (fun r hr x => coX12_qPartTold_B2 l e he v0 r hr x) zFU 1)
theorem mtX12_qPartTold (l : Launch) (d : Nat) (hd : 6 ≤ d) (v0 : Nat) : zMet l d 0 0 yX12_qPartTold cX12_qPartTold 6 (Option.none : Option FieldType) [.ref v0] (X12_qPartTold v0) := by
  obtain ⟨e, rfl⟩ : ∃ e, d = e + 1 := ⟨d - 1, by omega⟩
  exact zmet_of (own := RX12) (ini := false) (by decide +kernel) rfl (fun _ => by contradiction) (Nat.le_of_ble_eq_true rfl) (coX12_qPartTold l e (by omega) v0)
