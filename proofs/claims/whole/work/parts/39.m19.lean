abbrev iX12_isImage : zI := (RX12, cX12_isImage, 3, (Option.some .boolean), false)
def tX12_isImage : List (Nat × Instr × Nat) := [(0, .iload_n 1, 1), (1, .aload_n 0, 1), (2, .aload_n 0, 1), (3, .invokevirtual 419, 3), (6, .invokevirtual 739, 3), (9, .iconst 1, 1), (10, .iadd, 1), (11, .if_icmp .ne 55, 3), (14, .aload_n 0, 1), (15, .getfield 7, 3), (18, .iload_n 1, 1), (19, .iconst 1, 1), (20, .isub, 1), (21, .iaload, 1), (22, .aload_n 0, 1), (23, .getfield 7, 3), (26, .iload_n 1, 1), (27, .iconst 1, 1), (28, .isub, 1), (29, .invokestatic 732, 3), (32, .if_icmp .ne 34, 3), (35, .aload_n 0, 1), (36, .iconst 0, 1), (37, .invokevirtual 742, 3), (40, .sipush 999, 3), (43, .if_icmp .gt 23, 3), (46, .aload_n 0, 1), (47, .getfield 7, 3), (50, .iconst 2, 1), (51, .iaload, 1), (52, .aload_n 0, 1), (53, .invokevirtual 518, 3), (56, .if_icmp .ge 10, 3), (59, .aload_n 0, 1), (60, .invokevirtual 745, 3), (63, .ifCond .ne 5, 3), (66, .iconst 0, 1), (67, .ireturn, 1), (68, .iconst 0, 1), (69, .istore_n 2, 1), (70, .iload_n 2, 1), (71, .aload_n 0, 1), (72, .invokevirtual 419, 3), (75, .if_icmp .ge 19, 3), (78, .aload_n 0, 1), (79, .iload_n 2, 1), (80, .invokevirtual 748, 3), (83, .ifCond .ne 5, 3), (86, .iconst 0, 1), (87, .ireturn, 1), (88, .iinc 2 1, 3), (91, .goto (-21), 3), (94, .iconst 1, 1), (95, .ireturn, 1)]
set_option maxRecDepth 100000 in
theorem tkX12_isImage : ∀ q ∈ tX12_isImage, decode cX12_isImage q.1 = .ok q.2 := by decide +kernel
theorem vmX12_isImage : zVM yX12_isImage cX12_isImage 3 (Option.some .boolean) 1 12 := ⟨kX12_isImage, q_2298, q_140, q_160, ⟨_, rfl, rfl⟩, by decide +kernel, by decide⟩
def X12_isImage_B70 (v0 : Nat) (r70 : Int32 → zM) (v2 : Int32) : zM := z_rc 12 v0 (z_ci (X12_peopleMany v0) fun y1 => z_if (y1 ≤ v2) (z_rb 1)
   (z_rc 12 v0 (z_ci (X12_isToldOf v0 v2) fun y2 => z_if (y2 = 0) (z_rb 0)
   (r70 (v2 + 1)))))
set_option maxHeartbeats 2000000 in
set_option maxRecDepth 20000 in
theorem coX12_isImage_B70 (l : Launch) (e : Nat) (he : 5 ≤ e) (v0 : Nat) (r70 : Int32 → zM) (hr70 : ∀ x : Int32, zCo l (e + 1) 0 0 iX12_isImage 70 [(0, .ref v0), (2, .int x)] [] (r70 x)) (v2 : Int32) : zCo l (e + 1) 0 0 iX12_isImage 70 [(0, .ref v0), (2, .int v2)] [] (X12_isImage_B70 v0 r70 v2) := by
  unfold X12_isImage_B70
  refine zco_p tkX12_isImage 40 2 (pc' := 72) (L' := [(0, .ref v0), (2, .int v2)]) (S' := [.ref v0, .int v2]) rfl ?_
  refine zco_Vi (rc := 0) (rs := 0) (mc := 0) (ms := 0) (As := []) (S := [.int v2]) vmX12_peopleMany (mtX12_peopleMany l e (by omega) v0) q_1938 rfl rfl (Nat.le_of_ble_eq_true rfl) (zdk (cc := cX12_isImage) (q := (72, .invokevirtual 419, 3)) tkX12_isImage 42 rfl) (fun y1 => ?_)
  refine zco_icmp_ge (tgt := 94) (zdk (cc := cX12_isImage) (q := (75, .if_icmp .ge 19, 3)) tkX12_isImage 43 rfl) rfl ?_ ?_
  · refine zco_p tkX12_isImage 52 1 (pc' := 95) (L' := [(0, .ref v0), (2, .int v2)]) (S' := [.int 1]) rfl ?_
    exact zco_zret rfl rfl rfl (zdk (cc := cX12_isImage) (q := (95, .ireturn, 1)) tkX12_isImage 53 rfl)
  · refine zco_p tkX12_isImage 44 2 (pc' := 80) (L' := [(0, .ref v0), (2, .int v2)]) (S' := [.int v2, .ref v0]) rfl ?_
    refine zco_Vi (rc := 0) (rs := 0) (mc := 0) (ms := 0) (As := [.int v2]) (S := []) vmX12_isToldOf (mtX12_isToldOf l e (by omega) v0 v2) q_2316 rfl rfl (Nat.le_of_ble_eq_true rfl) (zdk (cc := cX12_isImage) (q := (80, .invokevirtual 748, 3)) tkX12_isImage 46 rfl) (fun y2 => ?_)
    refine zco_if_ne (tgt := 88) (zdk (cc := cX12_isImage) (q := (83, .ifCond .ne 5, 3)) tkX12_isImage 47 rfl) rfl ?_ ?_
    · refine zco_p tkX12_isImage 50 2 (pc' := 70) (L' := [(2, .int (v2 + 1)), (0, .ref v0)]) (S' := []) rfl ?_
      exact zco_sub [1, 0] rfl (hr70 (v2 + 1))
    · refine zco_p tkX12_isImage 48 1 (pc' := 87) (L' := [(0, .ref v0), (2, .int v2)]) (S' := [.int 0]) rfl ?_
      exact zco_zret rfl rfl rfl (zdk (cc := cX12_isImage) (q := (87, .ireturn, 1)) tkX12_isImage 49 rfl)
def X12_isImage (v0 : Nat) (v1 : Int32) : zM := z_rc 12 v0 (z_ci (X12_peopleMany v0) fun y1 => z_rc 12 v0 (z_ci (X12_toldAt v0 y1) fun y2 => z_if (v1 = (y2 + 1)) (z_gr 12 0 v0 fun x3 => z_la 20 x3 (v1 - 1) fun x4 => z_gr 12 0 v0 fun x5 => z_ci (X12_checked x5 (v1 - 1)) fun y6 => z_if (x4 = y6) (z_rc 12 v0 (z_ci (X12_twoAt v0 0) fun y7 => z_if (999 < y7) (z_rb 0)
   (z_gr 12 0 v0 fun x8 => z_la 20 x8 2 fun x9 => z_rc 12 v0 (z_ci (X12_roundMany v0) fun y10 => z_if (y10 ≤ x9) (z_rb 0)
   (z_rc 12 v0 (z_ci (X12_areOrders v0) fun y11 => z_if (y11 = 0) (z_rb 0)
   (z_fix (fun r x => X12_isImage_B70 v0 r x) zFU 0)))))))
   (z_rb 0))
   (z_rb 0)))
set_option maxHeartbeats 2000000 in
set_option maxRecDepth 20000 in
theorem coX12_isImage (l : Launch) (e : Nat) (he : 5 ≤ e) (v0 : Nat) (v1 : Int32) : zCo l (e + 1) 0 0 iX12_isImage 0 [(0, .ref v0), (1, .int v1)] [] (X12_isImage v0 v1) := by
  unfold X12_isImage
  refine zco_p tkX12_isImage 0 3 (pc' := 3) (L' := [(0, .ref v0), (1, .int v1)]) (S' := [.ref v0, .ref v0, .int v1]) rfl ?_
  refine zco_Vi (rc := 0) (rs := 0) (mc := 0) (ms := 0) (As := []) (S := [.ref v0, .int v1]) vmX12_peopleMany (mtX12_peopleMany l e (by omega) v0) q_1938 rfl rfl (Nat.le_of_ble_eq_true rfl) (zdk (cc := cX12_isImage) (q := (3, .invokevirtual 419, 3)) tkX12_isImage 3 rfl) (fun y1 => ?_)
  refine zco_Vi (rc := 0) (rs := 0) (mc := 0) (ms := 0) (As := [.int y1]) (S := [.int v1]) vmX12_toldAt (mtX12_toldAt l e (by omega) v0 y1) q_2300 rfl rfl (Nat.le_of_ble_eq_true rfl) (zdk (cc := cX12_isImage) (q := (6, .invokevirtual 739, 3)) tkX12_isImage 4 rfl) (fun y2 => ?_)
  refine zco_p tkX12_isImage 5 2 (pc' := 11) (L' := [(0, .ref v0), (1, .int v1)]) (S' := [.int (y2 + 1), .int v1]) rfl ?_
  refine zco_icmp_ne (tgt := 66) (zdk (cc := cX12_isImage) (q := (11, .if_icmp .ne 55, 3)) tkX12_isImage 7 rfl) rfl ?_ ?_
  · refine zco_p tkX12_isImage 36 1 (pc' := 67) (L' := [(0, .ref v0), (1, .int v1)]) (S' := [.int 0]) rfl ?_
    exact zco_zret rfl rfl rfl (zdk (cc := cX12_isImage) (q := (67, .ireturn, 1)) tkX12_isImage 37 rfl)
  · refine zco_p tkX12_isImage 8 1 (pc' := 15) (L' := [(0, .ref v0), (1, .int v1)]) (S' := [.ref v0]) rfl ?_
    refine zco_gr fl_12_7 rfl (zdk (cc := cX12_isImage) (q := (15, .getfield 7, 3)) tkX12_isImage 9 rfl) (fun x3 => ?_)
    refine zco_p tkX12_isImage 10 3 (pc' := 21) (L' := [(0, .ref v0), (1, .int v1)]) (S' := [.int (v1 - 1), .ref x3]) rfl ?_
    refine zco_iaload (zdk (cc := cX12_isImage) (q := (21, .iaload, 1)) tkX12_isImage 13 rfl) (fun x4 => ?_)
    refine zco_p tkX12_isImage 14 1 (pc' := 23) (L' := [(0, .ref v0), (1, .int v1)]) (S' := [.ref v0, .int x4]) rfl ?_
    refine zco_gr fl_12_7 rfl (zdk (cc := cX12_isImage) (q := (23, .getfield 7, 3)) tkX12_isImage 15 rfl) (fun x5 => ?_)
    refine zco_p tkX12_isImage 16 3 (pc' := 29) (L' := [(0, .ref v0), (1, .int v1)]) (S' := [.int (v1 - 1), .ref x5, .int x4]) rfl ?_
    refine zco_Si (rc := 0) (rs := 0) (mc := 0) (ms := 0) (As := [.ref x5, .int (v1 - 1)]) (S := [.int x4]) vmX12_checked (mtX12_checked l e (by omega) x5 (v1 - 1)) q_2289 rfl rfl (Nat.le_of_ble_eq_true rfl) (zdk (cc := cX12_isImage) (q := (29, .invokestatic 732, 3)) tkX12_isImage 19 rfl) (fun y6 => ?_)
    refine zco_icmp_ne (tgt := 66) (zdk (cc := cX12_isImage) (q := (32, .if_icmp .ne 34, 3)) tkX12_isImage 20 rfl) rfl ?_ ?_
    · refine zco_p tkX12_isImage 36 1 (pc' := 67) (L' := [(0, .ref v0), (1, .int v1)]) (S' := [.int 0]) rfl ?_
      exact zco_zret rfl rfl rfl (zdk (cc := cX12_isImage) (q := (67, .ireturn, 1)) tkX12_isImage 37 rfl)
    · refine zco_p tkX12_isImage 21 2 (pc' := 37) (L' := [(0, .ref v0), (1, .int v1)]) (S' := [.int 0, .ref v0]) rfl ?_
      refine zco_Vi (rc := 0) (rs := 0) (mc := 0) (ms := 0) (As := [.int 0]) (S := []) vmX12_twoAt (mtX12_twoAt l e (by omega) v0 0) q_2308 rfl rfl (Nat.le_of_ble_eq_true rfl) (zdk (cc := cX12_isImage) (q := (37, .invokevirtual 742, 3)) tkX12_isImage 23 rfl) (fun y7 => ?_)
      refine zco_p tkX12_isImage 24 1 (pc' := 43) (L' := [(0, .ref v0), (1, .int v1)]) (S' := [.int 999, .int y7]) rfl ?_
      refine zco_icmp_gt (tgt := 66) (zdk (cc := cX12_isImage) (q := (43, .if_icmp .gt 23, 3)) tkX12_isImage 25 rfl) rfl ?_ ?_
      · refine zco_p tkX12_isImage 36 1 (pc' := 67) (L' := [(0, .ref v0), (1, .int v1)]) (S' := [.int 0]) rfl ?_
        exact zco_zret rfl rfl rfl (zdk (cc := cX12_isImage) (q := (67, .ireturn, 1)) tkX12_isImage 37 rfl)
      · refine zco_p tkX12_isImage 26 1 (pc' := 47) (L' := [(0, .ref v0), (1, .int v1)]) (S' := [.ref v0]) rfl ?_
        refine zco_gr fl_12_7 rfl (zdk (cc := cX12_isImage) (q := (47, .getfield 7, 3)) tkX12_isImage 27 rfl) (fun x8 => ?_)
        refine zco_p tkX12_isImage 28 1 (pc' := 51) (L' := [(0, .ref v0), (1, .int v1)]) (S' := [.int 2, .ref x8]) rfl ?_
        refine zco_iaload (zdk (cc := cX12_isImage) (q := (51, .iaload, 1)) tkX12_isImage 29 rfl) (fun x9 => ?_)
        refine zco_p tkX12_isImage 30 1 (pc' := 53) (L' := [(0, .ref v0), (1, .int v1)]) (S' := [.ref v0, .int x9]) rfl ?_
        refine zco_Vi (rc := 0) (rs := 0) (mc := 0) (ms := 0) (As := []) (S := [.int x9]) vmX12_roundMany (mtX12_roundMany l e (by omega) v0) q_1922 rfl rfl (Nat.le_of_ble_eq_true rfl) (zdk (cc := cX12_isImage) (q := (53, .invokevirtual 518, 3)) tkX12_isImage 31 rfl) (fun y10 => ?_)
        refine zco_icmp_ge (tgt := 66) (zdk (cc := cX12_isImage) (q := (56, .if_icmp .ge 10, 3)) tkX12_isImage 32 rfl) rfl ?_ ?_
        · refine zco_p tkX12_isImage 36 1 (pc' := 67) (L' := [(0, .ref v0), (1, .int v1)]) (S' := [.int 0]) rfl ?_
          exact zco_zret rfl rfl rfl (zdk (cc := cX12_isImage) (q := (67, .ireturn, 1)) tkX12_isImage 37 rfl)
        · refine zco_p tkX12_isImage 33 1 (pc' := 60) (L' := [(0, .ref v0), (1, .int v1)]) (S' := [.ref v0]) rfl ?_
          refine zco_Vi (rc := 0) (rs := 0) (mc := 0) (ms := 0) (As := []) (S := []) vmX12_areOrders (mtX12_areOrders l e (by omega) v0) q_2312 rfl rfl (Nat.le_of_ble_eq_true rfl) (zdk (cc := cX12_isImage) (q := (60, .invokevirtual 745, 3)) tkX12_isImage 34 rfl) (fun y11 => ?_)
          refine zco_if_ne (tgt := 68) (zdk (cc := cX12_isImage) (q := (63, .ifCond .ne 5, 3)) tkX12_isImage 35 rfl) rfl ?_ ?_
          · refine zco_p tkX12_isImage 38 2 (pc' := 70) (L' := [(2, .int 0), (0, .ref v0), (1, .int v1)]) (S' := []) rfl ?_
            exact zco_sub [1, 0] rfl (zco_fix (Lf := fun x : Int32 => [(0, .ref v0), (2, .int x)]) (Sf := fun _ => []) (fun r hr x => coX12_isImage_B70 l e he v0 r hr x) zFU 0)
          · refine zco_p tkX12_isImage 36 1 (pc' := 67) (L' := [(0, .ref v0), (1, .int v1)]) (S' := [.int 0]) rfl ?_
            exact zco_zret rfl rfl rfl (zdk (cc := cX12_isImage) (q := (67, .ireturn, 1)) tkX12_isImage 37 rfl)
theorem mtX12_isImage (l : Launch) (d : Nat) (hd : 6 ≤ d) (v0 : Nat) (v1 : Int32) : zMet l d 0 0 yX12_isImage cX12_isImage 3 (Option.some .boolean) [.ref v0, .int v1] (X12_isImage v0 v1) := by
  obtain ⟨e, rfl⟩ : ∃ e, d = e + 1 := ⟨d - 1, by omega⟩
  exact zmet_of (own := RX12) (ini := false) (by decide +kernel) rfl (fun _ => by contradiction) (Nat.le_of_ble_eq_true rfl) (coX12_isImage l e (by omega) v0 v1)
abbrev iX12_on : zI := (RX12, cX12_on, 6, (Option.some .boolean), false)
def tX12_on_q0 : List (Nat × Instr × Nat) := [(0, .aload_n 0, 1), (1, .getfield 267, 3), (4, .istore_n 1, 1), (5, .aload_n 0, 1), (6, .iconst 0, 1), (7, .putfield 267, 3), (10, .aload_n 0, 1), (11, .iload_n 1, 1), (12, .invokevirtual 751, 3), (15, .ifCond .ne 9, 3), (18, .aload_n 0, 1), (19, .iconst 5, 1), (20, .invokevirtual 613, 3), (23, .ireturn, 1), (24, .aload_n 0, 1), (25, .getfield 134, 3), (28, .iconst 0, 1), (29, .aload_n 0, 1), (30, .iconst 0, 1), (31, .invokevirtual 742, 3), (34, .iastore, 1), (35, .aload_n 0, 1), (36, .getfield 134, 3), (39, .iconst 1, 1), (40, .aload_n 0, 1), (41, .getfield 7, 3), (44, .iconst 2, 1), (45, .iaload, 1), (46, .iastore, 1), (47, .iconst 0, 1), (48, .istore_n 2, 1), (49, .iload_n 2, 1), (50, .aload_n 0, 1), (51, .iconst 0, 1), (52, .invokevirtual 416, 3), (55, .if_icmp .ge 25, 3), (58, .aload_n 0, 1), (59, .getfield 134, 3), (62, .iconst 2, 1), (63, .iload_n 2, 1), (64, .iadd, 1), (65, .aload_n 0, 1), (66, .getfield 7, 3), (69, .iconst 3, 1), (70, .iload_n 2, 1), (71, .iadd, 1), (72, .iaload, 1), (73, .iastore, 1), (74, .iinc 2 1, 3), (77, .goto (-28), 3), (80, .iconst 0, 1), (81, .istore_n 2, 1), (82, .iload_n 2, 1), (83, .aload_n 0, 1), (84, .iconst 1, 1), (85, .invokevirtual 416, 3), (88, .if_icmp .ge 38, 3), (91, .aload_n 0, 1), (92, .getfield 134, 3), (95, .bipush 8, 2), (97, .iload_n 2, 1), (98, .iadd, 1), (99, .aload_n 0, 1), (100, .getfield 7, 3)]
set_option maxRecDepth 100000 in
theorem tkX12_on_q0 : ∀ q ∈ tX12_on_q0, decode cX12_on q.1 = .ok q.2 := by decide +kernel
def tX12_on_q1 : List (Nat × Instr × Nat) := [(103, .iconst 3, 1), (104, .aload_n 0, 1), (105, .iconst 0, 1), (106, .invokevirtual 416, 3), (109, .iadd, 1), (110, .iload_n 2, 1), (111, .iadd, 1), (112, .iaload, 1), (113, .aload_n 0, 1), (114, .iconst 0, 1), (115, .invokevirtual 416, 3), (118, .isub, 1), (119, .iastore, 1), (120, .iinc 2 1, 3), (123, .goto (-41), 3), (126, .iconst 0, 1), (127, .istore_n 2, 1), (128, .iload_n 2, 1), (129, .aload_n 0, 1), (130, .invokevirtual 419, 3), (133, .if_icmp .ge 154, 3), (136, .aload_n 0, 1), (137, .iload_n 2, 1), (138, .invokevirtual 429, 3), (141, .istore_n 3, 1), (142, .aload_n 0, 1), (143, .iload_n 2, 1), (144, .invokevirtual 739, 3), (147, .istore 4, 2), (149, .aload_n 0, 1), (150, .getfield 134, 3), (153, .bipush 14, 2), (155, .iload_n 3, 1), (156, .iadd, 1), (157, .aload_n 0, 1), (158, .getfield 7, 3), (161, .iload 4, 2), (163, .iaload, 1), (164, .sipush 255, 3), (167, .if_icmp .ne 7, 3), (170, .iconst (-1), 1), (171, .goto 14, 3), (174, .aload_n 0, 1), (175, .aload_n 0, 1), (176, .getfield 7, 3), (179, .iload 4, 2), (181, .iaload, 1), (182, .invokevirtual 429, 3), (185, .iastore, 1), (186, .aload_n 0, 1), (187, .getfield 134, 3), (190, .bipush 26, 2), (192, .iload_n 3, 1), (193, .iadd, 1), (194, .aload_n 0, 1), (195, .getfield 7, 3), (198, .iload 4, 2), (200, .iconst 1, 1), (201, .iadd, 1), (202, .iaload, 1), (203, .iastore, 1), (204, .iconst 0, 1), (205, .istore 5, 2), (207, .iload 5, 2)]
set_option maxRecDepth 100000 in
theorem tkX12_on_q1 : ∀ q ∈ tX12_on_q1, decode cX12_on q.1 = .ok q.2 := by decide +kernel
def tX12_on_q2 : List (Nat × Instr × Nat) := [(209, .aload_n 0, 1), (210, .iconst 1, 1), (211, .aload_n 0, 1), (212, .iload_n 2, 1), (213, .invokevirtual 426, 3), (216, .isub, 1), (217, .invokevirtual 416, 3), (220, .if_icmp .ge 61, 3), (223, .aload_n 0, 1), (224, .getfield 134, 3), (227, .aload_n 0, 1), (228, .iload_n 3, 1), (229, .iload 5, 2), (231, .invokevirtual 432, 3), (234, .aload_n 0, 1), (235, .getfield 7, 3), (238, .iload 4, 2), (240, .iconst 2, 1), (241, .iadd, 1), (242, .iconst 2, 1), (243, .iload 5, 2), (245, .imul, 1), (246, .iadd, 1), (247, .iaload, 1), (248, .iastore, 1), (249, .aload_n 0, 1), (250, .getfield 134, 3), (253, .aload_n 0, 1), (254, .iload_n 3, 1), (255, .iload 5, 2), (257, .invokevirtual 435, 3), (260, .aload_n 0, 1), (261, .getfield 7, 3), (264, .iload 4, 2), (266, .iconst 3, 1), (267, .iadd, 1), (268, .iconst 2, 1), (269, .iload 5, 2), (271, .imul, 1), (272, .iadd, 1), (273, .iaload, 1), (274, .iastore, 1), (275, .iinc 5 1, 3), (278, .goto (-71), 3), (281, .iinc 2 1, 3), (284, .goto (-156), 3), (287, .aload_n 0, 1), (288, .getfield 134, 3), (291, .sipush 182, 3), (294, .iconst 0, 1), (295, .iastore, 1), (296, .aload_n 0, 1), (297, .iconst 0, 1), (298, .putfield 410, 3), (301, .iconst 1, 1), (302, .ireturn, 1)]
set_option maxRecDepth 100000 in
theorem tkX12_on_q2 : ∀ q ∈ tX12_on_q2, decode cX12_on q.1 = .ok q.2 := by decide +kernel
theorem vmX12_on : zVM yX12_on cX12_on 6 (Option.some .boolean) 0 12 := ⟨kX12_on, q_2293, q_2294, q_160, ⟨_, rfl, rfl⟩, by decide +kernel, by decide⟩
def X12_on_J287 (v0 : Nat) : zM := z_gr 12 52 v0 fun x1 => z_sa 20 x1 182 0 (z_pi 12 75 v0 0 (z_rb 1))
set_option maxHeartbeats 2000000 in
set_option maxRecDepth 20000 in
theorem coX12_on_J287 (l : Launch) (e : Nat) (he : 6 ≤ e) (v0 : Nat) : zCo l (e + 1) 0 0 iX12_on 287 [(0, .ref v0)] [] (X12_on_J287 v0) := by
  unfold X12_on_J287
  refine zco_p tkX12_on_q2 46 1 (pc' := 288) (L' := [(0, .ref v0)]) (S' := [.ref v0]) rfl ?_
  refine zco_gr fl_12_134 rfl (zdk (cc := cX12_on) (q := (288, .getfield 134, 3)) tkX12_on_q2 47 rfl) (fun x1 => ?_)
  refine zco_p tkX12_on_q2 48 2 (pc' := 295) (L' := [(0, .ref v0)]) (S' := [.int 0, .int 182, .ref x1]) rfl ?_
  refine zco_iastore (zdk (cc := cX12_on) (q := (295, .iastore, 1)) tkX12_on_q2 50 rfl) ?_
  refine zco_p tkX12_on_q2 51 2 (pc' := 298) (L' := [(0, .ref v0)]) (S' := [.int 0, .ref v0]) rfl ?_
  refine zco_pi fl_12_410 rfl rfl (zdk (cc := cX12_on) (q := (298, .putfield 410, 3)) tkX12_on_q2 53 rfl) ?_
  refine zco_p tkX12_on_q2 54 1 (pc' := 302) (L' := [(0, .ref v0)]) (S' := [.int 1]) rfl ?_
  exact zco_zret rfl rfl rfl (zdk (cc := cX12_on) (q := (302, .ireturn, 1)) tkX12_on_q2 55 rfl)
def X12_on_J281 (r128 : Int32 → zM) (v0 : Nat) (v2 : Int32) : zM := r128 (v2 + 1)
set_option maxHeartbeats 2000000 in
set_option maxRecDepth 20000 in
theorem coX12_on_J281 (l : Launch) (e : Nat) (he : 6 ≤ e) (v0 : Nat) (v2 : Int32) (r128 : Int32 → zM) (hr128 : ∀ x : Int32, zCo l (e + 1) 0 0 iX12_on 128 [(0, .ref v0), (2, .int x)] [] (r128 x)) : zCo l (e + 1) 0 0 iX12_on 281 [(0, .ref v0), (2, .int v2)] [] (X12_on_J281 r128 v0 v2) := by
  unfold X12_on_J281
  refine zco_p tkX12_on_q2 44 2 (pc' := 128) (L' := [(2, .int (v2 + 1)), (0, .ref v0)]) (S' := []) rfl ?_
  exact zco_sub [1, 0] rfl (hr128 (v2 + 1))
def X12_on_B207 (r128 : Int32 → zM) (v0 : Nat) (v2 : Int32) (v3 : Int32) (v4 : Int32) (r207 : Int32 → zM) (v5 : Int32) : zM := z_rc 12 v0 (z_ci (X12_sideOf v0 v2) fun y1 => z_rc 12 v0 (z_ci (X12_sideMany v0 (1 - y1)) fun y2 => z_if (y2 ≤ v5) (X12_on_J281 r128 v0 v2)
   (z_gr 12 52 v0 fun x3 => z_rc 12 v0 (z_ci (X12_likingAt v0 v3 v5) fun y4 => z_gr 12 0 v0 fun x5 => z_la 20 x5 ((v4 + 2) + (2 * v5)) fun x6 => z_sa 20 x3 y4 x6 (z_gr 12 52 v0 fun x7 => z_rc 12 v0 (z_ci (X12_knowingAt v0 v3 v5) fun y8 => z_gr 12 0 v0 fun x9 => z_la 20 x9 ((v4 + 3) + (2 * v5)) fun x10 => z_sa 20 x7 y8 x10 (r207 (v5 + 1))))))))
set_option maxHeartbeats 2000000 in
set_option maxRecDepth 20000 in
theorem coX12_on_B207 (l : Launch) (e : Nat) (he : 6 ≤ e) (v0 : Nat) (v2 : Int32) (v3 : Int32) (v4 : Int32) (r128 : Int32 → zM) (hr128 : ∀ x : Int32, zCo l (e + 1) 0 0 iX12_on 128 [(0, .ref v0), (2, .int x)] [] (r128 x)) (r207 : Int32 → zM) (hr207 : ∀ x : Int32, zCo l (e + 1) 0 0 iX12_on 207 [(0, .ref v0), (2, .int v2), (3, .int v3), (4, .int v4), (5, .int x)] [] (r207 x)) (v5 : Int32) : zCo l (e + 1) 0 0 iX12_on 207 [(0, .ref v0), (2, .int v2), (3, .int v3), (4, .int v4), (5, .int v5)] [] (X12_on_B207 r128 v0 v2 v3 v4 r207 v5) := by
  unfold X12_on_B207
  refine zco_p tkX12_on_q1 63 1 (pc' := 209) (L' := [(0, .ref v0), (2, .int v2), (3, .int v3), (4, .int v4), (5, .int v5)]) (S' := [.int v5]) rfl ?_
  refine zco_p tkX12_on_q2 0 4 (pc' := 213) (L' := [(0, .ref v0), (2, .int v2), (3, .int v3), (4, .int v4), (5, .int v5)]) (S' := [.int v2, .ref v0, .int 1, .ref v0, .int v5]) rfl ?_
  refine zco_Vi (rc := 0) (rs := 0) (mc := 0) (ms := 0) (As := [.int v2]) (S := [.int 1, .ref v0, .int v5]) vmX12_sideOf (mtX12_sideOf l e (by omega) v0 v2) q_1994 rfl rfl (Nat.le_of_ble_eq_true rfl) (zdk (cc := cX12_on) (q := (213, .invokevirtual 426, 3)) tkX12_on_q2 4 rfl) (fun y1 => ?_)
  refine zco_p tkX12_on_q2 5 1 (pc' := 217) (L' := [(0, .ref v0), (2, .int v2), (3, .int v3), (4, .int v4), (5, .int v5)]) (S' := [.int (1 - y1), .ref v0, .int v5]) rfl ?_
  refine zco_Vi (rc := 0) (rs := 0) (mc := 0) (ms := 0) (As := [.int (1 - y1)]) (S := [.int v5]) vmX12_sideMany (mtX12_sideMany l e (by omega) v0 (1 - y1)) q_1942 rfl rfl (Nat.le_of_ble_eq_true rfl) (zdk (cc := cX12_on) (q := (217, .invokevirtual 416, 3)) tkX12_on_q2 6 rfl) (fun y2 => ?_)
  refine zco_icmp_ge (tgt := 281) (zdk (cc := cX12_on) (q := (220, .if_icmp .ge 61, 3)) tkX12_on_q2 7 rfl) rfl ?_ ?_
  · exact zco_sub [0, 1] rfl (coX12_on_J281 l e he v0 v2 r128 hr128)
  · refine zco_p tkX12_on_q2 8 1 (pc' := 224) (L' := [(0, .ref v0), (2, .int v2), (3, .int v3), (4, .int v4), (5, .int v5)]) (S' := [.ref v0]) rfl ?_
    refine zco_gr fl_12_134 rfl (zdk (cc := cX12_on) (q := (224, .getfield 134, 3)) tkX12_on_q2 9 rfl) (fun x3 => ?_)
    refine zco_p tkX12_on_q2 10 3 (pc' := 231) (L' := [(0, .ref v0), (2, .int v2), (3, .int v3), (4, .int v4), (5, .int v5)]) (S' := [.int v5, .int v3, .ref v0, .ref x3]) rfl ?_
    refine zco_Vi (rc := 0) (rs := 0) (mc := 0) (ms := 0) (As := [.int v3, .int v5]) (S := [.ref x3]) vmX12_likingAt (mtX12_likingAt l e (by omega) v0 v3 v5) q_2002 rfl rfl (Nat.le_of_ble_eq_true rfl) (zdk (cc := cX12_on) (q := (231, .invokevirtual 432, 3)) tkX12_on_q2 13 rfl) (fun y4 => ?_)
    refine zco_p tkX12_on_q2 14 1 (pc' := 235) (L' := [(0, .ref v0), (2, .int v2), (3, .int v3), (4, .int v4), (5, .int v5)]) (S' := [.ref v0, .int y4, .ref x3]) rfl ?_
    refine zco_gr fl_12_7 rfl (zdk (cc := cX12_on) (q := (235, .getfield 7, 3)) tkX12_on_q2 15 rfl) (fun x5 => ?_)
    refine zco_p tkX12_on_q2 16 7 (pc' := 247) (L' := [(0, .ref v0), (2, .int v2), (3, .int v3), (4, .int v4), (5, .int v5)]) (S' := [.int ((v4 + 2) + (2 * v5)), .ref x5, .int y4, .ref x3]) rfl ?_
    refine zco_iaload (zdk (cc := cX12_on) (q := (247, .iaload, 1)) tkX12_on_q2 23 rfl) (fun x6 => ?_)
    refine zco_iastore (zdk (cc := cX12_on) (q := (248, .iastore, 1)) tkX12_on_q2 24 rfl) ?_
    refine zco_p tkX12_on_q2 25 1 (pc' := 250) (L' := [(0, .ref v0), (2, .int v2), (3, .int v3), (4, .int v4), (5, .int v5)]) (S' := [.ref v0]) rfl ?_
    refine zco_gr fl_12_134 rfl (zdk (cc := cX12_on) (q := (250, .getfield 134, 3)) tkX12_on_q2 26 rfl) (fun x7 => ?_)
    refine zco_p tkX12_on_q2 27 3 (pc' := 257) (L' := [(0, .ref v0), (2, .int v2), (3, .int v3), (4, .int v4), (5, .int v5)]) (S' := [.int v5, .int v3, .ref v0, .ref x7]) rfl ?_
    refine zco_Vi (rc := 0) (rs := 0) (mc := 0) (ms := 0) (As := [.int v3, .int v5]) (S := [.ref x7]) vmX12_knowingAt (mtX12_knowingAt l e (by omega) v0 v3 v5) q_2010 rfl rfl (Nat.le_of_ble_eq_true rfl) (zdk (cc := cX12_on) (q := (257, .invokevirtual 435, 3)) tkX12_on_q2 30 rfl) (fun y8 => ?_)
    refine zco_p tkX12_on_q2 31 1 (pc' := 261) (L' := [(0, .ref v0), (2, .int v2), (3, .int v3), (4, .int v4), (5, .int v5)]) (S' := [.ref v0, .int y8, .ref x7]) rfl ?_
    refine zco_gr fl_12_7 rfl (zdk (cc := cX12_on) (q := (261, .getfield 7, 3)) tkX12_on_q2 32 rfl) (fun x9 => ?_)
    refine zco_p tkX12_on_q2 33 7 (pc' := 273) (L' := [(0, .ref v0), (2, .int v2), (3, .int v3), (4, .int v4), (5, .int v5)]) (S' := [.int ((v4 + 3) + (2 * v5)), .ref x9, .int y8, .ref x7]) rfl ?_
    refine zco_iaload (zdk (cc := cX12_on) (q := (273, .iaload, 1)) tkX12_on_q2 40 rfl) (fun x10 => ?_)
    refine zco_iastore (zdk (cc := cX12_on) (q := (274, .iastore, 1)) tkX12_on_q2 41 rfl) ?_
    refine zco_p tkX12_on_q2 42 2 (pc' := 207) (L' := [(5, .int (v5 + 1)), (0, .ref v0), (2, .int v2), (3, .int v3), (4, .int v4)]) (S' := []) rfl ?_
    exact zco_sub [1, 2, 3, 4, 0] rfl (hr207 (v5 + 1))
def X12_on_J185 (r128 : Int32 → zM) (v0 : Nat) (v2 : Int32) (v3 : Int32) (v4 : Int32) (s0 : Int32) (s1 : Int32) (s2 : Nat) : zM := z_sa 20 s2 s1 s0 (z_gr 12 52 v0 fun x1 => z_gr 12 0 v0 fun x2 => z_la 20 x2 (v4 + 1) fun x3 => z_sa 20 x1 (26 + v3) x3 (z_fix (fun r x => X12_on_B207 r128 v0 v2 v3 v4 r x) zFU 0))
set_option maxHeartbeats 2000000 in
set_option maxRecDepth 20000 in
theorem coX12_on_J185 (l : Launch) (e : Nat) (he : 6 ≤ e) (v0 : Nat) (v2 : Int32) (v3 : Int32) (v4 : Int32) (r128 : Int32 → zM) (hr128 : ∀ x : Int32, zCo l (e + 1) 0 0 iX12_on 128 [(0, .ref v0), (2, .int x)] [] (r128 x)) (s0 : Int32) (s1 : Int32) (s2 : Nat) : zCo l (e + 1) 0 0 iX12_on 185 [(0, .ref v0), (2, .int v2), (3, .int v3), (4, .int v4)] [.int s0, .int s1, .ref s2] (X12_on_J185 r128 v0 v2 v3 v4 s0 s1 s2) := by
  unfold X12_on_J185
  refine zco_iastore (zdk (cc := cX12_on) (q := (185, .iastore, 1)) tkX12_on_q1 48 rfl) ?_
  refine zco_p tkX12_on_q1 49 1 (pc' := 187) (L' := [(0, .ref v0), (2, .int v2), (3, .int v3), (4, .int v4)]) (S' := [.ref v0]) rfl ?_
  refine zco_gr fl_12_134 rfl (zdk (cc := cX12_on) (q := (187, .getfield 134, 3)) tkX12_on_q1 50 rfl) (fun x1 => ?_)
  refine zco_p tkX12_on_q1 51 4 (pc' := 195) (L' := [(0, .ref v0), (2, .int v2), (3, .int v3), (4, .int v4)]) (S' := [.ref v0, .int (26 + v3), .ref x1]) rfl ?_
  refine zco_gr fl_12_7 rfl (zdk (cc := cX12_on) (q := (195, .getfield 7, 3)) tkX12_on_q1 55 rfl) (fun x2 => ?_)
  refine zco_p tkX12_on_q1 56 3 (pc' := 202) (L' := [(0, .ref v0), (2, .int v2), (3, .int v3), (4, .int v4)]) (S' := [.int (v4 + 1), .ref x2, .int (26 + v3), .ref x1]) rfl ?_
  refine zco_iaload (zdk (cc := cX12_on) (q := (202, .iaload, 1)) tkX12_on_q1 59 rfl) (fun x3 => ?_)
  refine zco_iastore (zdk (cc := cX12_on) (q := (203, .iastore, 1)) tkX12_on_q1 60 rfl) ?_
  refine zco_p tkX12_on_q1 61 2 (pc' := 207) (L' := [(5, .int 0), (0, .ref v0), (2, .int v2), (3, .int v3), (4, .int v4)]) (S' := []) rfl ?_
  exact zco_sub [1, 2, 3, 4, 0] rfl (zco_fix (Lf := fun x : Int32 => [(0, .ref v0), (2, .int v2), (3, .int v3), (4, .int v4), (5, .int x)]) (Sf := fun _ => []) (fun r hr x => coX12_on_B207 l e he v0 v2 v3 v4 r128 hr128 r hr x) zFU 0)
def X12_on_B128 (v0 : Nat) (r128 : Int32 → zM) (v2 : Int32) : zM := z_rc 12 v0 (z_ci (X12_peopleMany v0) fun y1 => z_if (y1 ≤ v2) (X12_on_J287 v0)
   (z_rc 12 v0 (z_ci (X12_codeOf v0 v2) fun y2 => z_rc 12 v0 (z_ci (X12_toldAt v0 v2) fun y3 => z_gr 12 52 v0 fun x4 => z_gr 12 0 v0 fun x5 => z_la 20 x5 y3 fun x6 => z_if (x6 = 255) (X12_on_J185 r128 v0 v2 y2 y3 ((-1)) (14 + y2) x4)
   (z_gr 12 0 v0 fun x7 => z_la 20 x7 y3 fun x8 => z_rc 12 v0 (z_ci (X12_codeOf v0 x8) fun y9 => X12_on_J185 r128 v0 v2 y2 y3 y9 (14 + y2) x4))))))
set_option maxHeartbeats 2000000 in
set_option maxRecDepth 20000 in
theorem coX12_on_B128 (l : Launch) (e : Nat) (he : 6 ≤ e) (v0 : Nat) (r128 : Int32 → zM) (hr128 : ∀ x : Int32, zCo l (e + 1) 0 0 iX12_on 128 [(0, .ref v0), (2, .int x)] [] (r128 x)) (v2 : Int32) : zCo l (e + 1) 0 0 iX12_on 128 [(0, .ref v0), (2, .int v2)] [] (X12_on_B128 v0 r128 v2) := by
  unfold X12_on_B128
  refine zco_p tkX12_on_q1 17 2 (pc' := 130) (L' := [(0, .ref v0), (2, .int v2)]) (S' := [.ref v0, .int v2]) rfl ?_
  refine zco_Vi (rc := 0) (rs := 0) (mc := 0) (ms := 0) (As := []) (S := [.int v2]) vmX12_peopleMany (mtX12_peopleMany l e (by omega) v0) q_1938 rfl rfl (Nat.le_of_ble_eq_true rfl) (zdk (cc := cX12_on) (q := (130, .invokevirtual 419, 3)) tkX12_on_q1 19 rfl) (fun y1 => ?_)
  refine zco_icmp_ge (tgt := 287) (zdk (cc := cX12_on) (q := (133, .if_icmp .ge 154, 3)) tkX12_on_q1 20 rfl) rfl ?_ ?_
  · exact zco_sub [0] rfl (coX12_on_J287 l e he v0)
  · refine zco_p tkX12_on_q1 21 2 (pc' := 138) (L' := [(0, .ref v0), (2, .int v2)]) (S' := [.int v2, .ref v0]) rfl ?_
    refine zco_Vi (rc := 0) (rs := 0) (mc := 0) (ms := 0) (As := [.int v2]) (S := []) vmX12_codeOf (mtX12_codeOf l e (by omega) v0 v2) q_1946 rfl rfl (Nat.le_of_ble_eq_true rfl) (zdk (cc := cX12_on) (q := (138, .invokevirtual 429, 3)) tkX12_on_q1 23 rfl) (fun y2 => ?_)
    refine zco_p tkX12_on_q1 24 3 (pc' := 144) (L' := [(3, .int y2), (0, .ref v0), (2, .int v2)]) (S' := [.int v2, .ref v0]) rfl ?_
    refine zco_Vi (rc := 0) (rs := 0) (mc := 0) (ms := 0) (As := [.int v2]) (S := []) vmX12_toldAt (mtX12_toldAt l e (by omega) v0 v2) q_2300 rfl rfl (Nat.le_of_ble_eq_true rfl) (zdk (cc := cX12_on) (q := (144, .invokevirtual 739, 3)) tkX12_on_q1 27 rfl) (fun y3 => ?_)
    refine zco_p tkX12_on_q1 28 2 (pc' := 150) (L' := [(4, .int y3), (3, .int y2), (0, .ref v0), (2, .int v2)]) (S' := [.ref v0]) rfl ?_
    refine zco_gr fl_12_134 rfl (zdk (cc := cX12_on) (q := (150, .getfield 134, 3)) tkX12_on_q1 30 rfl) (fun x4 => ?_)
    refine zco_p tkX12_on_q1 31 4 (pc' := 158) (L' := [(4, .int y3), (3, .int y2), (0, .ref v0), (2, .int v2)]) (S' := [.ref v0, .int (14 + y2), .ref x4]) rfl ?_
    refine zco_gr fl_12_7 rfl (zdk (cc := cX12_on) (q := (158, .getfield 7, 3)) tkX12_on_q1 35 rfl) (fun x5 => ?_)
    refine zco_p tkX12_on_q1 36 1 (pc' := 163) (L' := [(4, .int y3), (3, .int y2), (0, .ref v0), (2, .int v2)]) (S' := [.int y3, .ref x5, .int (14 + y2), .ref x4]) rfl ?_
    refine zco_iaload (zdk (cc := cX12_on) (q := (163, .iaload, 1)) tkX12_on_q1 37 rfl) (fun x6 => ?_)
    refine zco_p tkX12_on_q1 38 1 (pc' := 167) (L' := [(4, .int y3), (3, .int y2), (0, .ref v0), (2, .int v2)]) (S' := [.int 255, .int x6, .int (14 + y2), .ref x4]) rfl ?_
    refine zco_icmp_ne (tgt := 174) (zdk (cc := cX12_on) (q := (167, .if_icmp .ne 7, 3)) tkX12_on_q1 39 rfl) rfl ?_ ?_
    · refine zco_p tkX12_on_q1 42 2 (pc' := 176) (L' := [(4, .int y3), (3, .int y2), (0, .ref v0), (2, .int v2)]) (S' := [.ref v0, .ref v0, .int (14 + y2), .ref x4]) rfl ?_
      refine zco_gr fl_12_7 rfl (zdk (cc := cX12_on) (q := (176, .getfield 7, 3)) tkX12_on_q1 44 rfl) (fun x7 => ?_)
      refine zco_p tkX12_on_q1 45 1 (pc' := 181) (L' := [(4, .int y3), (3, .int y2), (0, .ref v0), (2, .int v2)]) (S' := [.int y3, .ref x7, .ref v0, .int (14 + y2), .ref x4]) rfl ?_
      refine zco_iaload (zdk (cc := cX12_on) (q := (181, .iaload, 1)) tkX12_on_q1 46 rfl) (fun x8 => ?_)
      refine zco_Vi (rc := 0) (rs := 0) (mc := 0) (ms := 0) (As := [.int x8]) (S := [.int (14 + y2), .ref x4]) vmX12_codeOf (mtX12_codeOf l e (by omega) v0 x8) q_1946 rfl rfl (Nat.le_of_ble_eq_true rfl) (zdk (cc := cX12_on) (q := (182, .invokevirtual 429, 3)) tkX12_on_q1 47 rfl) (fun y9 => ?_)
      exact zco_sub [2, 3, 1, 0] rfl (coX12_on_J185 l e he v0 v2 y2 y3 r128 hr128 y9 (14 + y2) x4)
    · refine zco_p tkX12_on_q1 40 2 (pc' := 185) (L' := [(4, .int y3), (3, .int y2), (0, .ref v0), (2, .int v2)]) (S' := [.int ((-1)), .int (14 + y2), .ref x4]) rfl ?_
      exact zco_sub [2, 3, 1, 0] rfl (coX12_on_J185 l e he v0 v2 y2 y3 r128 hr128 ((-1)) (14 + y2) x4)
def X12_on_J126 (v0 : Nat) : zM := z_fix (fun r x => X12_on_B128 v0 r x) zFU 0
set_option maxHeartbeats 2000000 in
set_option maxRecDepth 20000 in
theorem coX12_on_J126 (l : Launch) (e : Nat) (he : 6 ≤ e) (v0 : Nat) : zCo l (e + 1) 0 0 iX12_on 126 [(0, .ref v0)] [] (X12_on_J126 v0) := by
  unfold X12_on_J126
  refine zco_p tkX12_on_q1 15 2 (pc' := 128) (L' := [(2, .int 0), (0, .ref v0)]) (S' := []) rfl ?_
  exact zco_sub [1, 0] rfl (zco_fix (Lf := fun x : Int32 => [(0, .ref v0), (2, .int x)]) (Sf := fun _ => []) (fun r hr x => coX12_on_B128 l e he v0 r hr x) zFU 0)
def X12_on_B82 (v0 : Nat) (r82 : Int32 → zM) (v2 : Int32) : zM := z_rc 12 v0 (z_ci (X12_sideMany v0 1) fun y1 => z_if (y1 ≤ v2) (X12_on_J126 v0)
   (z_gr 12 52 v0 fun x2 => z_gr 12 0 v0 fun x3 => z_rc 12 v0 (z_ci (X12_sideMany v0 0) fun y4 => z_la 20 x3 ((3 + y4) + v2) fun x5 => z_rc 12 v0 (z_ci (X12_sideMany v0 0) fun y6 => z_sa 20 x2 (8 + v2) (x5 - y6) (r82 (v2 + 1))))))
set_option maxHeartbeats 2000000 in
set_option maxRecDepth 20000 in
theorem coX12_on_B82 (l : Launch) (e : Nat) (he : 6 ≤ e) (v0 : Nat) (r82 : Int32 → zM) (hr82 : ∀ x : Int32, zCo l (e + 1) 0 0 iX12_on 82 [(0, .ref v0), (2, .int x)] [] (r82 x)) (v2 : Int32) : zCo l (e + 1) 0 0 iX12_on 82 [(0, .ref v0), (2, .int v2)] [] (X12_on_B82 v0 r82 v2) := by
  unfold X12_on_B82
  refine zco_p tkX12_on_q0 52 3 (pc' := 85) (L' := [(0, .ref v0), (2, .int v2)]) (S' := [.int 1, .ref v0, .int v2]) rfl ?_
  refine zco_Vi (rc := 0) (rs := 0) (mc := 0) (ms := 0) (As := [.int 1]) (S := [.int v2]) vmX12_sideMany (mtX12_sideMany l e (by omega) v0 1) q_1942 rfl rfl (Nat.le_of_ble_eq_true rfl) (zdk (cc := cX12_on) (q := (85, .invokevirtual 416, 3)) tkX12_on_q0 55 rfl) (fun y1 => ?_)
  refine zco_icmp_ge (tgt := 126) (zdk (cc := cX12_on) (q := (88, .if_icmp .ge 38, 3)) tkX12_on_q0 56 rfl) rfl ?_ ?_
  · exact zco_sub [0] rfl (coX12_on_J126 l e he v0)
  · refine zco_p tkX12_on_q0 57 1 (pc' := 92) (L' := [(0, .ref v0), (2, .int v2)]) (S' := [.ref v0]) rfl ?_
    refine zco_gr fl_12_134 rfl (zdk (cc := cX12_on) (q := (92, .getfield 134, 3)) tkX12_on_q0 58 rfl) (fun x2 => ?_)
    refine zco_p tkX12_on_q0 59 4 (pc' := 100) (L' := [(0, .ref v0), (2, .int v2)]) (S' := [.ref v0, .int (8 + v2), .ref x2]) rfl ?_
    refine zco_gr fl_12_7 rfl (zdk (cc := cX12_on) (q := (100, .getfield 7, 3)) tkX12_on_q0 63 rfl) (fun x3 => ?_)
    refine zco_p tkX12_on_q1 0 3 (pc' := 106) (L' := [(0, .ref v0), (2, .int v2)]) (S' := [.int 0, .ref v0, .int 3, .ref x3, .int (8 + v2), .ref x2]) rfl ?_
    refine zco_Vi (rc := 0) (rs := 0) (mc := 0) (ms := 0) (As := [.int 0]) (S := [.int 3, .ref x3, .int (8 + v2), .ref x2]) vmX12_sideMany (mtX12_sideMany l e (by omega) v0 0) q_1942 rfl rfl (Nat.le_of_ble_eq_true rfl) (zdk (cc := cX12_on) (q := (106, .invokevirtual 416, 3)) tkX12_on_q1 3 rfl) (fun y4 => ?_)
    refine zco_p tkX12_on_q1 4 3 (pc' := 112) (L' := [(0, .ref v0), (2, .int v2)]) (S' := [.int ((3 + y4) + v2), .ref x3, .int (8 + v2), .ref x2]) rfl ?_
    refine zco_iaload (zdk (cc := cX12_on) (q := (112, .iaload, 1)) tkX12_on_q1 7 rfl) (fun x5 => ?_)
    refine zco_p tkX12_on_q1 8 2 (pc' := 115) (L' := [(0, .ref v0), (2, .int v2)]) (S' := [.int 0, .ref v0, .int x5, .int (8 + v2), .ref x2]) rfl ?_
    refine zco_Vi (rc := 0) (rs := 0) (mc := 0) (ms := 0) (As := [.int 0]) (S := [.int x5, .int (8 + v2), .ref x2]) vmX12_sideMany (mtX12_sideMany l e (by omega) v0 0) q_1942 rfl rfl (Nat.le_of_ble_eq_true rfl) (zdk (cc := cX12_on) (q := (115, .invokevirtual 416, 3)) tkX12_on_q1 10 rfl) (fun y6 => ?_)
    refine zco_p tkX12_on_q1 11 1 (pc' := 119) (L' := [(0, .ref v0), (2, .int v2)]) (S' := [.int (x5 - y6), .int (8 + v2), .ref x2]) rfl ?_
    refine zco_iastore (zdk (cc := cX12_on) (q := (119, .iastore, 1)) tkX12_on_q1 12 rfl) ?_
    refine zco_p tkX12_on_q1 13 2 (pc' := 82) (L' := [(2, .int (v2 + 1)), (0, .ref v0)]) (S' := []) rfl ?_
    exact zco_sub [1, 0] rfl (hr82 (v2 + 1))
def X12_on_J80 (v0 : Nat) : zM := z_fix (fun r x => X12_on_B82 v0 r x) zFU 0
set_option maxHeartbeats 2000000 in
set_option maxRecDepth 20000 in
theorem coX12_on_J80 (l : Launch) (e : Nat) (he : 6 ≤ e) (v0 : Nat) : zCo l (e + 1) 0 0 iX12_on 80 [(0, .ref v0)] [] (X12_on_J80 v0) := by
  unfold X12_on_J80
  refine zco_p tkX12_on_q0 50 2 (pc' := 82) (L' := [(2, .int 0), (0, .ref v0)]) (S' := []) rfl ?_
  exact zco_sub [1, 0] rfl (zco_fix (Lf := fun x : Int32 => [(0, .ref v0), (2, .int x)]) (Sf := fun _ => []) (fun r hr x => coX12_on_B82 l e he v0 r hr x) zFU 0)
def X12_on_B49 (v0 : Nat) (r49 : Int32 → zM) (v2 : Int32) : zM := z_rc 12 v0 (z_ci (X12_sideMany v0 0) fun y1 => z_if (y1 ≤ v2) (X12_on_J80 v0)
   (z_gr 12 52 v0 fun x2 => z_gr 12 0 v0 fun x3 => z_la 20 x3 (3 + v2) fun x4 => z_sa 20 x2 (2 + v2) x4 (r49 (v2 + 1))))
set_option maxHeartbeats 2000000 in
set_option maxRecDepth 20000 in
theorem coX12_on_B49 (l : Launch) (e : Nat) (he : 6 ≤ e) (v0 : Nat) (r49 : Int32 → zM) (hr49 : ∀ x : Int32, zCo l (e + 1) 0 0 iX12_on 49 [(0, .ref v0), (2, .int x)] [] (r49 x)) (v2 : Int32) : zCo l (e + 1) 0 0 iX12_on 49 [(0, .ref v0), (2, .int v2)] [] (X12_on_B49 v0 r49 v2) := by
  unfold X12_on_B49
  refine zco_p tkX12_on_q0 31 3 (pc' := 52) (L' := [(0, .ref v0), (2, .int v2)]) (S' := [.int 0, .ref v0, .int v2]) rfl ?_
  refine zco_Vi (rc := 0) (rs := 0) (mc := 0) (ms := 0) (As := [.int 0]) (S := [.int v2]) vmX12_sideMany (mtX12_sideMany l e (by omega) v0 0) q_1942 rfl rfl (Nat.le_of_ble_eq_true rfl) (zdk (cc := cX12_on) (q := (52, .invokevirtual 416, 3)) tkX12_on_q0 34 rfl) (fun y1 => ?_)
  refine zco_icmp_ge (tgt := 80) (zdk (cc := cX12_on) (q := (55, .if_icmp .ge 25, 3)) tkX12_on_q0 35 rfl) rfl ?_ ?_
  · exact zco_sub [0] rfl (coX12_on_J80 l e he v0)
  · refine zco_p tkX12_on_q0 36 1 (pc' := 59) (L' := [(0, .ref v0), (2, .int v2)]) (S' := [.ref v0]) rfl ?_
    refine zco_gr fl_12_134 rfl (zdk (cc := cX12_on) (q := (59, .getfield 134, 3)) tkX12_on_q0 37 rfl) (fun x2 => ?_)
    refine zco_p tkX12_on_q0 38 4 (pc' := 66) (L' := [(0, .ref v0), (2, .int v2)]) (S' := [.ref v0, .int (2 + v2), .ref x2]) rfl ?_
    refine zco_gr fl_12_7 rfl (zdk (cc := cX12_on) (q := (66, .getfield 7, 3)) tkX12_on_q0 42 rfl) (fun x3 => ?_)
    refine zco_p tkX12_on_q0 43 3 (pc' := 72) (L' := [(0, .ref v0), (2, .int v2)]) (S' := [.int (3 + v2), .ref x3, .int (2 + v2), .ref x2]) rfl ?_
    refine zco_iaload (zdk (cc := cX12_on) (q := (72, .iaload, 1)) tkX12_on_q0 46 rfl) (fun x4 => ?_)
    refine zco_iastore (zdk (cc := cX12_on) (q := (73, .iastore, 1)) tkX12_on_q0 47 rfl) ?_
    refine zco_p tkX12_on_q0 48 2 (pc' := 49) (L' := [(2, .int (v2 + 1)), (0, .ref v0)]) (S' := []) rfl ?_
    exact zco_sub [1, 0] rfl (hr49 (v2 + 1))
def X12_on (v0 : Nat) : zM := z_gi 12 1 v0 fun x1 => z_pi 12 1 v0 0 (z_rc 12 v0 (z_ci (X12_isImage v0 x1) fun y2 => z_if (y2 = 0) (z_rc 12 v0 (z_ci (X12_isRefused v0 5) fun y8 => z_rb y8))
   (z_gr 12 52 v0 fun x3 => z_rc 12 v0 (z_ci (X12_twoAt v0 0) fun y4 => z_sa 20 x3 0 y4 (z_gr 12 52 v0 fun x5 => z_gr 12 0 v0 fun x6 => z_la 20 x6 2 fun x7 => z_sa 20 x5 1 x7 (z_fix (fun r x => X12_on_B49 v0 r x) zFU 0))))))
set_option maxHeartbeats 2000000 in
set_option maxRecDepth 20000 in
theorem coX12_on (l : Launch) (e : Nat) (he : 6 ≤ e) (v0 : Nat) : zCo l (e + 1) 0 0 iX12_on 0 [(0, .ref v0)] [] (X12_on v0) := by
  unfold X12_on
  refine zco_p tkX12_on_q0 0 1 (pc' := 1) (L' := [(0, .ref v0)]) (S' := [.ref v0]) rfl ?_
  refine zco_gi fl_12_267 rfl (zdk (cc := cX12_on) (q := (1, .getfield 267, 3)) tkX12_on_q0 1 rfl) (fun x1 => ?_)
  refine zco_p tkX12_on_q0 2 3 (pc' := 7) (L' := [(1, .int x1), (0, .ref v0)]) (S' := [.int 0, .ref v0]) rfl ?_
  refine zco_pi fl_12_267 rfl rfl (zdk (cc := cX12_on) (q := (7, .putfield 267, 3)) tkX12_on_q0 5 rfl) ?_
  refine zco_p tkX12_on_q0 6 2 (pc' := 12) (L' := [(1, .int x1), (0, .ref v0)]) (S' := [.int x1, .ref v0]) rfl ?_
  refine zco_Vi (rc := 0) (rs := 0) (mc := 0) (ms := 0) (As := [.int x1]) (S := []) vmX12_isImage (mtX12_isImage l e (by omega) v0 x1) q_2296 rfl rfl (Nat.le_of_ble_eq_true rfl) (zdk (cc := cX12_on) (q := (12, .invokevirtual 751, 3)) tkX12_on_q0 8 rfl) (fun y2 => ?_)
  refine zco_if_ne (tgt := 24) (zdk (cc := cX12_on) (q := (15, .ifCond .ne 9, 3)) tkX12_on_q0 9 rfl) rfl ?_ ?_
  · refine zco_p tkX12_on_q0 14 1 (pc' := 25) (L' := [(1, .int x1), (0, .ref v0)]) (S' := [.ref v0]) rfl ?_
    refine zco_gr fl_12_134 rfl (zdk (cc := cX12_on) (q := (25, .getfield 134, 3)) tkX12_on_q0 15 rfl) (fun x3 => ?_)
    refine zco_p tkX12_on_q0 16 3 (pc' := 31) (L' := [(1, .int x1), (0, .ref v0)]) (S' := [.int 0, .ref v0, .int 0, .ref x3]) rfl ?_
    refine zco_Vi (rc := 0) (rs := 0) (mc := 0) (ms := 0) (As := [.int 0]) (S := [.int 0, .ref x3]) vmX12_twoAt (mtX12_twoAt l e (by omega) v0 0) q_2308 rfl rfl (Nat.le_of_ble_eq_true rfl) (zdk (cc := cX12_on) (q := (31, .invokevirtual 742, 3)) tkX12_on_q0 19 rfl) (fun y4 => ?_)
    refine zco_iastore (zdk (cc := cX12_on) (q := (34, .iastore, 1)) tkX12_on_q0 20 rfl) ?_
    refine zco_p tkX12_on_q0 21 1 (pc' := 36) (L' := [(1, .int x1), (0, .ref v0)]) (S' := [.ref v0]) rfl ?_
    refine zco_gr fl_12_134 rfl (zdk (cc := cX12_on) (q := (36, .getfield 134, 3)) tkX12_on_q0 22 rfl) (fun x5 => ?_)
    refine zco_p tkX12_on_q0 23 2 (pc' := 41) (L' := [(1, .int x1), (0, .ref v0)]) (S' := [.ref v0, .int 1, .ref x5]) rfl ?_
    refine zco_gr fl_12_7 rfl (zdk (cc := cX12_on) (q := (41, .getfield 7, 3)) tkX12_on_q0 25 rfl) (fun x6 => ?_)
    refine zco_p tkX12_on_q0 26 1 (pc' := 45) (L' := [(1, .int x1), (0, .ref v0)]) (S' := [.int 2, .ref x6, .int 1, .ref x5]) rfl ?_
    refine zco_iaload (zdk (cc := cX12_on) (q := (45, .iaload, 1)) tkX12_on_q0 27 rfl) (fun x7 => ?_)
    refine zco_iastore (zdk (cc := cX12_on) (q := (46, .iastore, 1)) tkX12_on_q0 28 rfl) ?_
    refine zco_p tkX12_on_q0 29 2 (pc' := 49) (L' := [(2, .int 0), (1, .int x1), (0, .ref v0)]) (S' := []) rfl ?_
    exact zco_sub [2, 0] rfl (zco_fix (Lf := fun x : Int32 => [(0, .ref v0), (2, .int x)]) (Sf := fun _ => []) (fun r hr x => coX12_on_B49 l e he v0 r hr x) zFU 0)
  · refine zco_p tkX12_on_q0 10 2 (pc' := 20) (L' := [(1, .int x1), (0, .ref v0)]) (S' := [.int 5, .ref v0]) rfl ?_
    refine zco_Vi (rc := 0) (rs := 0) (mc := 0) (ms := 0) (As := [.int 5]) (S := []) vmX12_isRefused (mtX12_isRefused l e (by omega) v0 5) q_2210 rfl rfl (Nat.le_of_ble_eq_true rfl) (zdk (cc := cX12_on) (q := (20, .invokevirtual 613, 3)) tkX12_on_q0 12 rfl) (fun y8 => ?_)
    exact zco_zret rfl rfl rfl (zdk (cc := cX12_on) (q := (23, .ireturn, 1)) tkX12_on_q0 13 rfl)
theorem mtX12_on (l : Launch) (d : Nat) (hd : 7 ≤ d) (v0 : Nat) : zMet l d 0 0 yX12_on cX12_on 6 (Option.some .boolean) [.ref v0] (X12_on v0) := by
  obtain ⟨e, rfl⟩ : ∃ e, d = e + 1 := ⟨d - 1, by omega⟩
  exact zmet_of (own := RX12) (ini := false) (by decide +kernel) rfl (fun _ => by contradiction) (Nat.le_of_ble_eq_true rfl) (coX12_on l e (by omega) v0)
