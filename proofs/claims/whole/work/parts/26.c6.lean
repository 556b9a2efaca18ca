abbrev iX5_withRight : zI := (RX5, cX5_withRight, 7, (Option.some .int), false)
def tX5_withRight : List (Nat × Instr × Nat) := [(0, .bipush 6, 2), (2, .iload 4, 2), (4, .iadd, 1), (5, .istore 6, 2), (7, .iload 5, 2), (9, .iload 4, 2), (11, .ishr, 1), (12, .iconst 1, 1), (13, .iand, 1), (14, .iconst 1, 1), (15, .if_icmp .eq 13, 3), (18, .aload_n 1, 1), (19, .iload_n 3, 1), (20, .iload 6, 2), (22, .invokevirtual 49, 3), (25, .ifCond .eq 5, 3), (28, .iconst (-1), 1), (29, .ireturn, 1), (30, .aload_n 2, 1), (31, .getfield 53, 3), (34, .iload_n 3, 1), (35, .iload 6, 2), (37, .invokestatic 58, 3), (40, .iaload, 1), (41, .aload_n 2, 1), (42, .getfield 53, 3), (45, .iload 6, 2), (47, .iload_n 3, 1), (48, .invokestatic 58, 3), (51, .iaload, 1), (52, .iadd, 1), (53, .aload_n 0, 1), (54, .getfield 18, 3), (57, .iload_n 3, 1), (58, .iconst 1, 1), (59, .iadd, 1), (60, .bipush 6, 2), (62, .ishl, 1), (63, .iload 5, 2), (65, .iconst 1, 1), (66, .iload 4, 2), (68, .ishl, 1), (69, .ior, 1), (70, .iadd, 1), (71, .iaload, 1), (72, .iadd, 1), (73, .ireturn, 1)]
set_option maxRecDepth 100000 in
theorem tkX5_withRight : ∀ q ∈ tX5_withRight, decode cX5_withRight q.1 = .ok q.2 := by decide +kernel
theorem vmX5_withRight : zVM yX5_withRight cX5_withRight 7 (Option.some .int) 5 5 := ⟨kX5_withRight, q_1090, q_25, q_157, ⟨_, rfl, rfl⟩, by decide +kernel, by decide⟩
def X5_withRight (v0 : Nat) (v1 : Nat) (v2 : Nat) (v3 : Int32) (v4 : Int32) (v5 : Int32) : zM := z_if (((v5 >>> (v4 &&& 31)) &&& 1) = 1) (z_ret (some (.int ((-1)))))
   (z_rc 1 v1 (z_ci (X1_areKin v1 v3 (6 + v4)) fun y1 => z_if (y1 = 0) (z_gr 8 6 v2 fun x2 => z_ci (X11_cell v3 (6 + v4)) fun y3 => z_la 20 x2 y3 fun x4 => z_gr 8 6 v2 fun x5 => z_ci (X11_cell (6 + v4) v3) fun y6 => z_la 20 x5 y6 fun x7 => z_gr 5 2 v0 fun x8 => z_la 20 x8 (((v3 + 1) <<< (6 &&& 31)) + (v5 ||| (1 <<< (v4 &&& 31)))) fun x9 => z_ret (some (.int ((x4 + x7) + x9))))
   (z_ret (some (.int ((-1)))))))
set_option maxHeartbeats 2000000 in
set_option maxRecDepth 20000 in
theorem coX5_withRight (l : Launch) (e : Nat) (he : 2 ≤ e) (v0 : Nat) (v1 : Nat) (v2 : Nat) (v3 : Int32) (v4 : Int32) (v5 : Int32) : zCo l (e + 1) 0 0 iX5_withRight 0 [(0, .ref v0), (1, .ref v1), (2, .ref v2), (3, .int v3), (4, .int v4), (5, .int v5)] [] (X5_withRight v0 v1 v2 v3 v4 v5) := by
  unfold X5_withRight
  refine zco_p tkX5_withRight 0 10 (pc' := 15) (L' := [(6, .int (6 + v4)), (0, .ref v0), (1, .ref v1), (2, .ref v2), (3, .int v3), (4, .int v4), (5, .int v5)]) (S' := [.int 1, .int ((v5 >>> (v4 &&& 31)) &&& 1)]) rfl ?_
  refine zco_icmp_eq (tgt := 28) (zdk (cc := cX5_withRight) (q := (15, .if_icmp .eq 13, 3)) tkX5_withRight 10 rfl) rfl ?_ ?_
  · refine zco_p tkX5_withRight 16 1 (pc' := 29) (L' := [(6, .int (6 + v4)), (0, .ref v0), (1, .ref v1), (2, .ref v2), (3, .int v3), (4, .int v4), (5, .int v5)]) (S' := [.int ((-1))]) rfl ?_
    exact zco_iret rfl rfl rfl (zdk (cc := cX5_withRight) (q := (29, .ireturn, 1)) tkX5_withRight 17 rfl)
  · refine zco_p tkX5_withRight 11 3 (pc' := 22) (L' := [(6, .int (6 + v4)), (0, .ref v0), (1, .ref v1), (2, .ref v2), (3, .int v3), (4, .int v4), (5, .int v5)]) (S' := [.int (6 + v4), .int v3, .ref v1]) rfl ?_
    refine zco_Vi (rc := 0) (rs := 0) (mc := 0) (ms := 0) (As := [.int v3, .int (6 + v4)]) (S := []) vmX1_areKin (mtX1_areKin l e (by omega) v1 v3 (6 + v4)) q_1092 rfl rfl (Nat.le_of_ble_eq_true rfl) (zdk (cc := cX5_withRight) (q := (22, .invokevirtual 49, 3)) tkX5_withRight 14 rfl) (fun y1 => ?_)
    refine zco_if_eq (tgt := 30) (zdk (cc := cX5_withRight) (q := (25, .ifCond .eq 5, 3)) tkX5_withRight 15 rfl) rfl ?_ ?_
    · refine zco_p tkX5_withRight 18 1 (pc' := 31) (L' := [(6, .int (6 + v4)), (0, .ref v0), (1, .ref v1), (2, .ref v2), (3, .int v3), (4, .int v4), (5, .int v5)]) (S' := [.ref v2]) rfl ?_
      refine zco_gr fl_5_53 rfl (zdk (cc := cX5_withRight) (q := (31, .getfield 53, 3)) tkX5_withRight 19 rfl) (fun x2 => ?_)
      refine zco_p tkX5_withRight 20 2 (pc' := 37) (L' := [(6, .int (6 + v4)), (0, .ref v0), (1, .ref v1), (2, .ref v2), (3, .int v3), (4, .int v4), (5, .int v5)]) (S' := [.int (6 + v4), .int v3, .ref x2]) rfl ?_
      refine zco_Ni (rc := 0) (rs := 0) (mc := 0) (ms := 0) (As := [.int v3, .int (6 + v4)]) (S := [.ref x2]) vmX11_cell (mtX11_cell l e (by omega) v3 (6 + v4)) (host := "ClothWedding") (by decide +kernel) rfl rfl (Nat.le_of_ble_eq_true rfl) (zdk (cc := cX5_withRight) (q := (37, .invokestatic 58, 3)) tkX5_withRight 22 rfl) (fun y3 => ?_)
      refine zco_iaload (zdk (cc := cX5_withRight) (q := (40, .iaload, 1)) tkX5_withRight 23 rfl) (fun x4 => ?_)
      refine zco_p tkX5_withRight 24 1 (pc' := 42) (L' := [(6, .int (6 + v4)), (0, .ref v0), (1, .ref v1), (2, .ref v2), (3, .int v3), (4, .int v4), (5, .int v5)]) (S' := [.ref v2, .int x4]) rfl ?_
      refine zco_gr fl_5_53 rfl (zdk (cc := cX5_withRight) (q := (42, .getfield 53, 3)) tkX5_withRight 25 rfl) (fun x5 => ?_)
      refine zco_p tkX5_withRight 26 2 (pc' := 48) (L' := [(6, .int (6 + v4)), (0, .ref v0), (1, .ref v1), (2, .ref v2), (3, .int v3), (4, .int v4), (5, .int v5)]) (S' := [.int v3, .int (6 + v4), .ref x5, .int x4]) rfl ?_
      refine zco_Ni (rc := 0) (rs := 0) (mc := 0) (ms := 0) (As := [.int (6 + v4), .int v3]) (S := [.ref x5, .int x4]) vmX11_cell (mtX11_cell l e (by omega) (6 + v4) v3) (host := "ClothWedding") (by decide +kernel) rfl rfl (Nat.le_of_ble_eq_true rfl) (zdk (cc := cX5_withRight) (q := (48, .invokestatic 58, 3)) tkX5_withRight 28 rfl) (fun y6 => ?_)
      refine zco_iaload (zdk (cc := cX5_withRight) (q := (51, .iaload, 1)) tkX5_withRight 29 rfl) (fun x7 => ?_)
      refine zco_p tkX5_withRight 30 2 (pc' := 54) (L' := [(6, .int (6 + v4)), (0, .ref v0), (1, .ref v1), (2, .ref v2), (3, .int v3), (4, .int v4), (5, .int v5)]) (S' := [.ref v0, .int (x4 + x7)]) rfl ?_
      refine zco_gr fl_5_18 rfl (zdk (cc := cX5_withRight) (q := (54, .getfield 18, 3)) tkX5_withRight 32 rfl) (fun x8 => ?_)
      refine zco_p tkX5_withRight 33 11 (pc' := 71) (L' := [(6, .int (6 + v4)), (0, .ref v0), (1, .ref v1), (2, .ref v2), (3, .int v3), (4, .int v4), (5, .int v5)]) (S' := [.int (((v3 + 1) <<< (6 &&& 31)) + (v5 ||| (1 <<< (v4 &&& 31)))), .ref x8, .int (x4 + x7)]) rfl ?_
      refine zco_iaload (zdk (cc := cX5_withRight) (q := (71, .iaload, 1)) tkX5_withRight 44 rfl) (fun x9 => ?_)
      refine zco_p tkX5_withRight 45 1 (pc' := 73) (L' := [(6, .int (6 + v4)), (0, .ref v0), (1, .ref v1), (2, .ref v2), (3, .int v3), (4, .int v4), (5, .int v5)]) (S' := [.int ((x4 + x7) + x9)]) rfl ?_
      exact zco_iret rfl rfl rfl (zdk (cc := cX5_withRight) (q := (73, .ireturn, 1)) tkX5_withRight 46 rfl)
    · refine zco_p tkX5_withRight 16 1 (pc' := 29) (L' := [(6, .int (6 + v4)), (0, .ref v0), (1, .ref v1), (2, .ref v2), (3, .int v3), (4, .int v4), (5, .int v5)]) (S' := [.int ((-1))]) rfl ?_
      exact zco_iret rfl rfl rfl (zdk (cc := cX5_withRight) (q := (29, .ireturn, 1)) tkX5_withRight 17 rfl)
theorem mtX5_withRight (l : Launch) (d : Nat) (hd : 3 ≤ d) (v0 : Nat) (v1 : Nat) (v2 : Nat) (v3 : Int32) (v4 : Int32) (v5 : Int32) : zMet l d 0 0 yX5_withRight cX5_withRight 7 (Option.some .int) [.ref v0, .ref v1, .ref v2, .int v3, .int v4, .int v5] (X5_withRight v0 v1 v2 v3 v4 v5) := by
  obtain ⟨e, rfl⟩ : ∃ e, d = e + 1 := ⟨d - 1, by omega⟩
  exact zmet_of (own := RX5) (ini := false) (by decide +kernel) rfl (fun _ => by contradiction) (Nat.le_of_ble_eq_true rfl) (coX5_withRight l e (by omega) v0 v1 v2 v3 v4 v5)
abbrev iX5_chooseFirst : zI := (RX5, cX5_chooseFirst, 8, (Option.none : Option FieldType), false)
def tX5_chooseFirst : List (Nat × Instr × Nat) := [(0, .iconst 0, 1), (1, .istore_n 3, 1), (2, .iconst 0, 1), (3, .istore 4, 2), (5, .iload 4, 2), (7, .aload_n 1, 1), (8, .getfield 30, 3), (11, .iconst 0, 1), (12, .iaload, 1), (13, .if_icmp .ge 112, 3), (16, .aload_n 0, 1), (17, .getfield 18, 3), (20, .iload 4, 2), (22, .bipush 6, 2), (24, .ishl, 1), (25, .iload_n 3, 1), (26, .iadd, 1), (27, .iaload, 1), (28, .istore 5, 2), (30, .aload_n 0, 1), (31, .getfield 18, 3), (34, .iload 4, 2), (36, .iconst 1, 1), (37, .iadd, 1), (38, .bipush 6, 2), (40, .ishl, 1), (41, .iload_n 3, 1), (42, .iadd, 1), (43, .iaload, 1), (44, .iload 5, 2), (46, .if_icmp .ne 7, 3), (49, .iconst 1, 1), (50, .goto 4, 3), (53, .iconst 0, 1), (54, .istore 6, 2), (56, .iconst 0, 1), (57, .istore 7, 2), (59, .iload 7, 2), (61, .aload_n 1, 1), (62, .getfield 30, 3), (65, .iconst 1, 1), (66, .iaload, 1), (67, .if_icmp .ge 52, 3), (70, .iload 6, 2), (72, .ifCond .ne 47, 3), (75, .aload_n 0, 1), (76, .aload_n 1, 1), (77, .aload_n 2, 1), (78, .iload 4, 2), (80, .iload 7, 2), (82, .iload_n 3, 1), (83, .invokevirtual 35, 3), (86, .iload 5, 2), (88, .if_icmp .ne 25, 3), (91, .aload_n 0, 1), (92, .getfield 9, 3), (95, .iload 4, 2), (97, .bipush 6, 2), (99, .iload 7, 2), (101, .iadd, 1), (102, .iastore, 1), (103, .iload_n 3, 1), (104, .iconst 1, 1), (105, .iload 7, 2), (107, .ishl, 1), (108, .ior, 1), (109, .istore_n 3, 1), (110, .iconst 1, 1), (111, .istore 6, 2), (113, .iinc 7 1, 3), (116, .goto (-57), 3), (119, .iinc 4 1, 3), (122, .goto (-117), 3), (125, .return_, 1)]
set_option maxRecDepth 100000 in
theorem tkX5_chooseFirst : ∀ q ∈ tX5_chooseFirst, decode cX5_chooseFirst q.1 = .ok q.2 := by decide +kernel
theorem vmX5_chooseFirst : zVM yX5_chooseFirst cX5_chooseFirst 8 (Option.none : Option FieldType) 2 5 := ⟨kX5_chooseFirst, q_1097, q_26, q_157, ⟨_, rfl, rfl⟩, by decide +kernel, by decide⟩
def X5_chooseFirst_J119 (r5 : Int32 × Int32 → zM) (v0 : Nat) (v1 : Nat) (v2 : Nat) (v3 : Int32) (v4 : Int32) : zM := r5 (v3, v4 + 1)
set_option maxHeartbeats 2000000 in
set_option maxRecDepth 20000 in
theorem coX5_chooseFirst_J119 (l : Launch) (e : Nat) (he : 3 ≤ e) (v0 : Nat) (v1 : Nat) (v2 : Nat) (v3 : Int32) (v4 : Int32) (r5 : Int32 × Int32 → zM) (hr5 : ∀ x : Int32 × Int32, zCo l (e + 1) 0 0 iX5_chooseFirst 5 [(0, .ref v0), (1, .ref v1), (2, .ref v2), (3, .int x.1), (4, .int x.2)] [] (r5 x)) : zCo l (e + 1) 0 0 iX5_chooseFirst 119 [(0, .ref v0), (1, .ref v1), (2, .ref v2), (3, .int v3), (4, .int v4)] [] (X5_chooseFirst_J119 r5 v0 v1 v2 v3 v4) := by
  unfold X5_chooseFirst_J119
  refine zco_p tkX5_chooseFirst 71 2 (pc' := 5) (L' := [(4, .int (v4 + 1)), (0, .ref v0), (1, .ref v1), (2, .ref v2), (3, .int v3)]) (S' := []) rfl ?_
  exact zco_sub [1, 2, 3, 4, 0] rfl (hr5 (v3, v4 + 1))
def X5_chooseFirst_J113 (r5 : Int32 × Int32 → zM) (r59 : Int32 × Int32 × Int32 → zM) (v0 : Nat) (v1 : Nat) (v2 : Nat) (v3 : Int32) (v4 : Int32) (v5 : Int32) (v6 : Int32) (v7 : Int32) : zM := r59 (v3, v6, v7 + 1)
set_option maxHeartbeats 2000000 in
set_option maxRecDepth 20000 in
theorem coX5_chooseFirst_J113 (l : Launch) (e : Nat) (he : 3 ≤ e) (v0 : Nat) (v1 : Nat) (v2 : Nat) (v3 : Int32) (v4 : Int32) (v5 : Int32) (v6 : Int32) (v7 : Int32) (r5 : Int32 × Int32 → zM) (hr5 : ∀ x : Int32 × Int32, zCo l (e + 1) 0 0 iX5_chooseFirst 5 [(0, .ref v0), (1, .ref v1), (2, .ref v2), (3, .int x.1), (4, .int x.2)] [] (r5 x)) (r59 : Int32 × Int32 × Int32 → zM) (hr59 : ∀ x : Int32 × Int32 × Int32, zCo l (e + 1) 0 0 iX5_chooseFirst 59 [(0, .ref v0), (1, .ref v1), (2, .ref v2), (3, .int x.1), (4, .int v4), (5, .int v5), (6, .int x.2.1), (7, .int x.2.2)] [] (r59 x)) : zCo l (e + 1) 0 0 iX5_chooseFirst 113 [(0, .ref v0), (1, .ref v1), (2, .ref v2), (3, .int v3), (4, .int v4), (5, .int v5), (6, .int v6), (7, .int v7)] [] (X5_chooseFirst_J113 r5 r59 v0 v1 v2 v3 v4 v5 v6 v7) := by
  unfold X5_chooseFirst_J113
  refine zco_p tkX5_chooseFirst 69 2 (pc' := 59) (L' := [(7, .int (v7 + 1)), (0, .ref v0), (1, .ref v1), (2, .ref v2), (3, .int v3), (4, .int v4), (5, .int v5), (6, .int v6)]) (S' := []) rfl ?_
  exact zco_sub [1, 2, 3, 4, 5, 6, 7, 0] rfl (hr59 (v3, v6, v7 + 1))
def X5_chooseFirst_B59 (r5 : Int32 × Int32 → zM) (v0 : Nat) (v1 : Nat) (v2 : Nat) (v4 : Int32) (v5 : Int32) (r59 : Int32 × Int32 × Int32 → zM) (v3 : Int32) (v6 : Int32) (v7 : Int32) : zM := z_gr 1 0 v1 fun x1 => z_la 20 x1 1 fun x2 => z_if (x2 ≤ v7) (X5_chooseFirst_J119 r5 v0 v1 v2 v3 v4)
   (z_if (v6 = 0) (z_rc 5 v0 (z_ci (X5_withRight v0 v1 v2 v4 v7 v3) fun y3 => z_if (y3 = v5) (z_gr 5 0 v0 fun x4 => z_sa 20 x4 v4 (6 + v7) (X5_chooseFirst_J113 r5 r59 v0 v1 v2 (v3 ||| (1 <<< (v7 &&& 31))) v4 v5 1 v7))
   (X5_chooseFirst_J113 r5 r59 v0 v1 v2 v3 v4 v5 v6 v7)))
   (X5_chooseFirst_J119 r5 v0 v1 v2 v3 v4))
set_option maxHeartbeats 2000000 in
set_option maxRecDepth 20000 in
theorem coX5_chooseFirst_B59 (l : Launch) (e : Nat) (he : 3 ≤ e) (v0 : Nat) (v1 : Nat) (v2 : Nat) (v4 : Int32) (v5 : Int32) (r5 : Int32 × Int32 → zM) (hr5 : ∀ x : Int32 × Int32, zCo l (e + 1) 0 0 iX5_chooseFirst 5 [(0, .ref v0), (1, .ref v1), (2, .ref v2), (3, .int x.1), (4, .int x.2)] [] (r5 x)) (r59 : Int32 × Int32 × Int32 → zM) (hr59 : ∀ x : Int32 × Int32 × Int32, zCo l (e + 1) 0 0 iX5_chooseFirst 59 [(0, .ref v0), (1, .ref v1), (2, .ref v2), (3, .int x.1), (4, .int v4), (5, .int v5), (6, .int x.2.1), (7, .int x.2.2)] [] (r59 x)) (v3 : Int32) (v6 : Int32) (v7 : Int32) : zCo l (e + 1) 0 0 iX5_chooseFirst 59 [(0, .ref v0), (1, .ref v1), (2, .ref v2), (3, .int v3), (4, .int v4), (5, .int v5), (6, .int v6), (7, .int v7)] [] (X5_chooseFirst_B59 r5 v0 v1 v2 v4 v5 r59 v3 v6 v7) := by
  unfold X5_chooseFirst_B59
  refine zco_p tkX5_chooseFirst 37 2 (pc' := 62) (L' := [(0, .ref v0), (1, .ref v1), (2, .ref v2), (3, .int v3), (4, .int v4), (5, .int v5), (6, .int v6), (7, .int v7)]) (S' := [.ref v1, .int v7]) rfl ?_
  refine zco_gr fl_5_30 rfl (zdk (cc := cX5_chooseFirst) (q := (62, .getfield 30, 3)) tkX5_chooseFirst 39 rfl) (fun x1 => ?_)
  refine zco_p tkX5_chooseFirst 40 1 (pc' := 66) (L' := [(0, .ref v0), (1, .ref v1), (2, .ref v2), (3, .int v3), (4, .int v4), (5, .int v5), (6, .int v6), (7, .int v7)]) (S' := [.int 1, .ref x1, .int v7]) rfl ?_
  refine zco_iaload (zdk (cc := cX5_chooseFirst) (q := (66, .iaload, 1)) tkX5_chooseFirst 41 rfl) (fun x2 => ?_)
  refine zco_icmp_ge (tgt := 119) (zdk (cc := cX5_chooseFirst) (q := (67, .if_icmp .ge 52, 3)) tkX5_chooseFirst 42 rfl) rfl ?_ ?_
  · exact zco_sub [0, 1, 2, 3, 4] rfl (coX5_chooseFirst_J119 l e he v0 v1 v2 v3 v4 r5 hr5)
  · refine zco_p tkX5_chooseFirst 43 1 (pc' := 72) (L' := [(0, .ref v0), (1, .ref v1), (2, .ref v2), (3, .int v3), (4, .int v4), (5, .int v5), (6, .int v6), (7, .int v7)]) (S' := [.int v6]) rfl ?_
    refine zco_if_ne (tgt := 119) (zdk (cc := cX5_chooseFirst) (q := (72, .ifCond .ne 47, 3)) tkX5_chooseFirst 44 rfl) rfl ?_ ?_
    · exact zco_sub [0, 1, 2, 3, 4] rfl (coX5_chooseFirst_J119 l e he v0 v1 v2 v3 v4 r5 hr5)
    · refine zco_p tkX5_chooseFirst 45 6 (pc' := 83) (L' := [(0, .ref v0), (1, .ref v1), (2, .ref v2), (3, .int v3), (4, .int v4), (5, .int v5), (6, .int v6), (7, .int v7)]) (S' := [.int v3, .int v7, .int v4, .ref v2, .ref v1, .ref v0]) rfl ?_
      refine zco_Vi (rc := 0) (rs := 0) (mc := 0) (ms := 0) (As := [.ref v1, .ref v2, .int v4, .int v7, .int v3]) (S := []) vmX5_withRight (mtX5_withRight l e (by omega) v0 v1 v2 v4 v7 v3) q_1088 rfl rfl (Nat.le_of_ble_eq_true rfl) (zdk (cc := cX5_chooseFirst) (q := (83, .invokevirtual 35, 3)) tkX5_chooseFirst 51 rfl) (fun y3 => ?_)
      refine zco_p tkX5_chooseFirst 52 1 (pc' := 88) (L' := [(0, .ref v0), (1, .ref v1), (2, .ref v2), (3, .int v3), (4, .int v4), (5, .int v5), (6, .int v6), (7, .int v7)]) (S' := [.int v5, .int y3]) rfl ?_
      refine zco_icmp_ne (tgt := 113) (zdk (cc := cX5_chooseFirst) (q := (88, .if_icmp .ne 25, 3)) tkX5_chooseFirst 53 rfl) rfl ?_ ?_
      · exact zco_sub [0, 1, 2, 3, 4, 5, 6, 7] rfl (coX5_chooseFirst_J113 l e he v0 v1 v2 v3 v4 v5 v6 v7 r5 hr5 r59 hr59)
      · refine zco_p tkX5_chooseFirst 54 1 (pc' := 92) (L' := [(0, .ref v0), (1, .ref v1), (2, .ref v2), (3, .int v3), (4, .int v4), (5, .int v5), (6, .int v6), (7, .int v7)]) (S' := [.ref v0]) rfl ?_
        refine zco_gr fl_5_9 rfl (zdk (cc := cX5_chooseFirst) (q := (92, .getfield 9, 3)) tkX5_chooseFirst 55 rfl) (fun x4 => ?_)
        refine zco_p tkX5_chooseFirst 56 4 (pc' := 102) (L' := [(0, .ref v0), (1, .ref v1), (2, .ref v2), (3, .int v3), (4, .int v4), (5, .int v5), (6, .int v6), (7, .int v7)]) (S' := [.int (6 + v7), .int v4, .ref x4]) rfl ?_
        refine zco_iastore (zdk (cc := cX5_chooseFirst) (q := (102, .iastore, 1)) tkX5_chooseFirst 60 rfl) ?_
        refine zco_p tkX5_chooseFirst 61 8 (pc' := 113) (L' := [(6, .int 1), (3, .int (v3 ||| (1 <<< (v7 &&& 31)))), (0, .ref v0), (1, .ref v1), (2, .ref v2), (4, .int v4), (5, .int v5), (7, .int v7)]) (S' := []) rfl ?_
        exact zco_sub [2, 3, 4, 1, 5, 6, 0, 7] rfl (coX5_chooseFirst_J113 l e he v0 v1 v2 (v3 ||| (1 <<< (v7 &&& 31))) v4 v5 1 v7 r5 hr5 r59 hr59)
def X5_chooseFirst_J54 (r5 : Int32 × Int32 → zM) (v0 : Nat) (v1 : Nat) (v2 : Nat) (v3 : Int32) (v4 : Int32) (v5 : Int32) (s0 : Int32) : zM := z_fix (fun r x => X5_chooseFirst_B59 r5 v0 v1 v2 v4 v5 r x.1 x.2.1 x.2.2) zFU (v3, s0, 0)
set_option maxHeartbeats 2000000 in
set_option maxRecDepth 20000 in
theorem coX5_chooseFirst_J54 (l : Launch) (e : Nat) (he : 3 ≤ e) (v0 : Nat) (v1 : Nat) (v2 : Nat) (v3 : Int32) (v4 : Int32) (v5 : Int32) (r5 : Int32 × Int32 → zM) (hr5 : ∀ x : Int32 × Int32, zCo l (e + 1) 0 0 iX5_chooseFirst 5 [(0, .ref v0), (1, .ref v1), (2, .ref v2), (3, .int x.1), (4, .int x.2)] [] (r5 x)) (s0 : Int32) : zCo l (e + 1) 0 0 iX5_chooseFirst 54 [(0, .ref v0), (1, .ref v1), (2, .ref v2), (3, .int v3), (4, .int v4), (5, .int v5)] [.int s0] (X5_chooseFirst_J54 r5 v0 v1 v2 v3 v4 v5 s0) := by
  unfold X5_chooseFirst_J54
  refine zco_p tkX5_chooseFirst 34 3 (pc' := 59) (L' := [(7, .int 0), (6, .int s0), (0, .ref v0), (1, .ref v1), (2, .ref v2), (3, .int v3), (4, .int v4), (5, .int v5)]) (S' := []) rfl ?_
  exact zco_sub [2, 3, 4, 5, 6, 7, 1, 0] rfl (zco_fix (Lf := fun x : Int32 × Int32 × Int32 => [(0, .ref v0), (1, .ref v1), (2, .ref v2), (3, .int x.1), (4, .int v4), (5, .int v5), (6, .int x.2.1), (7, .int x.2.2)]) (Sf := fun _ => []) (fun r hr x => coX5_chooseFirst_B59 l e he v0 v1 v2 v4 v5 r5 hr5 r hr x.1 x.2.1 x.2.2) zFU (v3, s0, 0))
def X5_chooseFirst_B5 (v0 : Nat) (v1 : Nat) (v2 : Nat) (r5 : Int32 × Int32 → zM) (v3 : Int32) (v4 : Int32) : zM := z_gr 1 0 v1 fun x1 => z_la 20 x1 0 fun x2 => z_if (x2 ≤ v4) (z_ret none)
   (z_gr 5 2 v0 fun x3 => z_la 20 x3 ((v4 <<< (6 &&& 31)) + v3) fun x4 => z_gr 5 2 v0 fun x5 => z_la 20 x5 (((v4 + 1) <<< (6 &&& 31)) + v3) fun x6 => z_if (x6 = x4) (X5_chooseFirst_J54 r5 v0 v1 v2 v3 v4 x4 1)
   (X5_chooseFirst_J54 r5 v0 v1 v2 v3 v4 x4 0))
set_option maxHeartbeats 2000000 in
set_option maxRecDepth 20000 in
theorem coX5_chooseFirst_B5 (l : Launch) (e : Nat) (he : 3 ≤ e) (v0 : Nat) (v1 : Nat) (v2 : Nat) (r5 : Int32 × Int32 → zM) (hr5 : ∀ x : Int32 × Int32, zCo l (e + 1) 0 0 iX5_chooseFirst 5 [(0, .ref v0), (1, .ref v1), (2, .ref v2), (3, .int x.1), (4, .int x.2)] [] (r5 x)) (v3 : Int32) (v4 : Int32) : zCo l (e + 1) 0 0 iX5_chooseFirst 5 [(0, .ref v0), (1, .ref v1), (2, .ref v2), (3, .int v3), (4, .int v4)] [] (X5_chooseFirst_B5 v0 v1 v2 r5 v3 v4) := by
  unfold X5_chooseFirst_B5
  refine zco_p tkX5_chooseFirst 4 2 (pc' := 8) (L' := [(0, .ref v0), (1, .ref v1), (2, .ref v2), (3, .int v3), (4, .int v4)]) (S' := [.ref v1, .int v4]) rfl ?_
  refine zco_gr fl_5_30 rfl (zdk (cc := cX5_chooseFirst) (q := (8, .getfield 30, 3)) tkX5_chooseFirst 6 rfl) (fun x1 => ?_)
  refine zco_p tkX5_chooseFirst 7 1 (pc' := 12) (L' := [(0, .ref v0), (1, .ref v1), (2, .ref v2), (3, .int v3), (4, .int v4)]) (S' := [.int 0, .ref x1, .int v4]) rfl ?_
  refine zco_iaload (zdk (cc := cX5_chooseFirst) (q := (12, .iaload, 1)) tkX5_chooseFirst 8 rfl) (fun x2 => ?_)
  refine zco_icmp_ge (tgt := 125) (zdk (cc := cX5_chooseFirst) (q := (13, .if_icmp .ge 112, 3)) tkX5_chooseFirst 9 rfl) rfl ?_ ?_
  · exact zco_vret rfl rfl rfl (zdk (cc := cX5_chooseFirst) (q := (125, .return_, 1)) tkX5_chooseFirst 73 rfl)
  · refine zco_p tkX5_chooseFirst 10 1 (pc' := 17) (L' := [(0, .ref v0), (1, .ref v1), (2, .ref v2), (3, .int v3), (4, .int v4)]) (S' := [.ref v0]) rfl ?_
    refine zco_gr fl_5_18 rfl (zdk (cc := cX5_chooseFirst) (q := (17, .getfield 18, 3)) tkX5_chooseFirst 11 rfl) (fun x3 => ?_)
    refine zco_p tkX5_chooseFirst 12 5 (pc' := 27) (L' := [(0, .ref v0), (1, .ref v1), (2, .ref v2), (3, .int v3), (4, .int v4)]) (S' := [.int ((v4 <<< (6 &&& 31)) + v3), .ref x3]) rfl ?_
    refine zco_iaload (zdk (cc := cX5_chooseFirst) (q := (27, .iaload, 1)) tkX5_chooseFirst 17 rfl) (fun x4 => ?_)
    refine zco_p tkX5_chooseFirst 18 2 (pc' := 31) (L' := [(5, .int x4), (0, .ref v0), (1, .ref v1), (2, .ref v2), (3, .int v3), (4, .int v4)]) (S' := [.ref v0]) rfl ?_
    refine zco_gr fl_5_18 rfl (zdk (cc := cX5_chooseFirst) (q := (31, .getfield 18, 3)) tkX5_chooseFirst 20 rfl) (fun x5 => ?_)
    refine zco_p tkX5_chooseFirst 21 7 (pc' := 43) (L' := [(5, .int x4), (0, .ref v0), (1, .ref v1), (2, .ref v2), (3, .int v3), (4, .int v4)]) (S' := [.int (((v4 + 1) <<< (6 &&& 31)) + v3), .ref x5]) rfl ?_
    refine zco_iaload (zdk (cc := cX5_chooseFirst) (q := (43, .iaload, 1)) tkX5_chooseFirst 28 rfl) (fun x6 => ?_)
    refine zco_p tkX5_chooseFirst 29 1 (pc' := 46) (L' := [(5, .int x4), (0, .ref v0), (1, .ref v1), (2, .ref v2), (3, .int v3), (4, .int v4)]) (S' := [.int x4, .int x6]) rfl ?_
    refine zco_icmp_ne (tgt := 53) (zdk (cc := cX5_chooseFirst) (q := (46, .if_icmp .ne 7, 3)) tkX5_chooseFirst 30 rfl) rfl ?_ ?_
    · refine zco_p tkX5_chooseFirst 33 1 (pc' := 54) (L' := [(5, .int x4), (0, .ref v0), (1, .ref v1), (2, .ref v2), (3, .int v3), (4, .int v4)]) (S' := [.int 0]) rfl ?_
      exact zco_sub [1, 2, 3, 4, 5, 0] rfl (coX5_chooseFirst_J54 l e he v0 v1 v2 v3 v4 x4 r5 hr5 0)
    · refine zco_p tkX5_chooseFirst 31 2 (pc' := 54) (L' := [(5, .int x4), (0, .ref v0), (1, .ref v1), (2, .ref v2), (3, .int v3), (4, .int v4)]) (S' := [.int 1]) rfl ?_
      exact zco_sub [1, 2, 3, 4, 5, 0] rfl (coX5_chooseFirst_J54 l e he v0 v1 v2 v3 v4 x4 r5 hr5 1)
def X5_chooseFirst (v0 : Nat) (v1 : Nat) (v2 : Nat) : zM := z_fix (fun r x => X5_chooseFirst_B5 v0 v1 v2 r x.1 x.2) zFU (0, 0)
set_option maxHeartbeats 2000000 in
set_option maxRecDepth 20000 in
theorem coX5_chooseFirst (l : Launch) (e : Nat) (he : 3 ≤ e) (v0 : Nat) (v1 : Nat) (v2 : Nat) : zCo l (e + 1) 0 0 iX5_chooseFirst 0 [(0, .ref v0), (1, .ref v1), (2, .ref v2)] [] (X5_chooseFirst v0 v1 v2) := by
  unfold X5_chooseFirst
  refine zco_p tkX5_chooseFirst 0 4 (pc' := 5) (L' := [(4, .int 0), (3, .int 0), (0, .ref v0), (1, .ref v1), (2, .ref v2)]) (S' := []) rfl ?_
  exact zco_sub [2, 3, 4, 1, 0] rfl (zco_fix (Lf := fun x : Int32 × Int32 => [(0, .ref v0), (1, .ref v1), (2, .ref v2), (3, .int x.1), (4, .int x.2)]) (Sf := fun _ => []) (fun r hr x => coX5_chooseFirst_B5 l e he v0 v1 v2 r hr x.1 x.2) zFU (0, 0))
theorem mtX5_chooseFirst (l : Launch) (d : Nat) (hd : 4 ≤ d) (v0 : Nat) (v1 : Nat) (v2 : Nat) : zMet l d 0 0 yX5_chooseFirst cX5_chooseFirst 8 (Option.none : Option FieldType) [.ref v0, .ref v1, .ref v2] (X5_chooseFirst v0 v1 v2) := by
  obtain ⟨e, rfl⟩ : ∃ e, d = e + 1 := ⟨d - 1, by omega⟩
  exact zmet_of (own := RX5) (ini := false) (by decide +kernel) rfl (fun _ => by contradiction) (Nat.le_of_ble_eq_true rfl) (coX5_chooseFirst l e (by omega) v0 v1 v2)
abbrev iX5_findMatch : zI := (RX5, cX5_findMatch, 9, (Option.some .int), false)
def tX5_findMatch : List (Nat × Instr × Nat) := [(0, .aload_n 0, 1), (1, .getfield 9, 3), (4, .iconst (-1), 1), (5, .invokestatic 24, 3), (8, .iconst 1, 1), (9, .aload_n 1, 1), (10, .getfield 30, 3), (13, .iconst 1, 1), (14, .iaload, 1), (15, .ishl, 1), (16, .istore_n 3, 1), (17, .aload_n 1, 1), (18, .getfield 30, 3), (21, .iconst 0, 1), (22, .iaload, 1), (23, .istore 4, 2), (25, .iconst 0, 1), (26, .istore 5, 2), (28, .iload 5, 2), (30, .iload_n 3, 1), (31, .if_icmp .ge 23, 3), (34, .aload_n 0, 1), (35, .getfield 18, 3), (38, .iload 4, 2), (40, .bipush 6, 2), (42, .ishl, 1), (43, .iload 5, 2), (45, .iadd, 1), (46, .iconst 0, 1), (47, .iastore, 1), (48, .iinc 5 1, 3), (51, .goto (-23), 3), (54, .iload 4, 2), (56, .iconst 1, 1), (57, .isub, 1), (58, .istore 5, 2), (60, .iload 5, 2), (62, .ifCond .lt 95, 3), (65, .iconst 0, 1), (66, .istore 6, 2), (68, .iload 6, 2), (70, .iload_n 3, 1), (71, .if_icmp .ge 80, 3), (74, .aload_n 0, 1), (75, .getfield 18, 3), (78, .iload 5, 2), (80, .iconst 1, 1), (81, .iadd, 1), (82, .bipush 6, 2), (84, .ishl, 1), (85, .iload 6, 2), (87, .iadd, 1), (88, .iaload, 1), (89, .istore 7, 2), (91, .iconst 0, 1), (92, .istore 8, 2), (94, .iload 8, 2), (96, .aload_n 1, 1), (97, .getfield 30, 3), (100, .iconst 1, 1), (101, .iaload, 1), (102, .if_icmp .ge 28, 3), (105, .iload 7, 2), (107, .aload_n 0, 1), (108, .aload_n 1, 1), (109, .aload_n 2, 1), (110, .iload 5, 2), (112, .iload 8, 2), (114, .iload 6, 2), (116, .invokevirtual 35, 3), (119, .invokestatic 39, 3), (122, .istore 7, 2), (124, .iinc 8 1, 3), (127, .goto (-33), 3), (130, .aload_n 0, 1), (131, .getfield 18, 3), (134, .iload 5, 2), (136, .bipush 6, 2), (138, .ishl, 1), (139, .iload 6, 2), (141, .iadd, 1), (142, .iload 7, 2), (144, .iastore, 1), (145, .iinc 6 1, 3), (148, .goto (-80), 3), (151, .iinc 5 (-1), 3), (154, .goto (-94), 3), (157, .aload_n 0, 1), (158, .aload_n 1, 1), (159, .aload_n 2, 1), (160, .invokevirtual 45, 3), (163, .aload_n 0, 1), (164, .getfield 18, 3), (167, .iconst 0, 1), (168, .iaload, 1), (169, .ireturn, 1)]
set_option maxRecDepth 100000 in
theorem tkX5_findMatch : ∀ q ∈ tX5_findMatch, decode cX5_findMatch q.1 = .ok q.2 := by decide +kernel
theorem vmX5_findMatch : zVM yX5_findMatch cX5_findMatch 9 (Option.some .int) 2 5 := ⟨kX5_findMatch, q_1084, q_1085, q_157, ⟨_, rfl, rfl⟩, by decide +kernel, by decide⟩
def X5_findMatch_J157 (v0 : Nat) (v1 : Nat) (v2 : Nat) : zM := z_rc 5 v0 (z_cv (X5_chooseFirst v0 v1 v2) (z_gr 5 2 v0 fun x1 => z_la 20 x1 0 fun x2 => z_ret (some (.int x2))))
set_option maxHeartbeats 2000000 in
set_option maxRecDepth 20000 in
theorem coX5_findMatch_J157 (l : Launch) (e : Nat) (he : 4 ≤ e) (v0 : Nat) (v1 : Nat) (v2 : Nat) : zCo l (e + 1) 0 0 iX5_findMatch 157 [(0, .ref v0), (1, .ref v1), (2, .ref v2)] [] (X5_findMatch_J157 v0 v1 v2) := by
  unfold X5_findMatch_J157
  refine zco_p tkX5_findMatch 87 3 (pc' := 160) (L' := [(0, .ref v0), (1, .ref v1), (2, .ref v2)]) (S' := [.ref v2, .ref v1, .ref v0]) rfl ?_
  refine zco_Vv (rc := 0) (rs := 0) (mc := 0) (ms := 0) (As := [.ref v1, .ref v2]) (S := []) vmX5_chooseFirst (mtX5_chooseFirst l e (by omega) v0 v1 v2) q_1095 rfl rfl (Nat.le_of_ble_eq_true rfl) (zdk (cc := cX5_findMatch) (q := (160, .invokevirtual 45, 3)) tkX5_findMatch 90 rfl) ?_
  refine zco_p tkX5_findMatch 91 1 (pc' := 164) (L' := [(0, .ref v0), (1, .ref v1), (2, .ref v2)]) (S' := [.ref v0]) rfl ?_
  refine zco_gr fl_5_18 rfl (zdk (cc := cX5_findMatch) (q := (164, .getfield 18, 3)) tkX5_findMatch 92 rfl) (fun x1 => ?_)
  refine zco_p tkX5_findMatch 93 1 (pc' := 168) (L' := [(0, .ref v0), (1, .ref v1), (2, .ref v2)]) (S' := [.int 0, .ref x1]) rfl ?_
  refine zco_iaload (zdk (cc := cX5_findMatch) (q := (168, .iaload, 1)) tkX5_findMatch 94 rfl) (fun x2 => ?_)
  exact zco_iret rfl rfl rfl (zdk (cc := cX5_findMatch) (q := (169, .ireturn, 1)) tkX5_findMatch 95 rfl)
def X5_findMatch_J151 (r60 : Int32 → zM) (v0 : Nat) (v1 : Nat) (v2 : Nat) (v3 : Int32) (v5 : Int32) : zM := r60 (v5 + (-1))
set_option maxHeartbeats 2000000 in
set_option maxRecDepth 20000 in
theorem coX5_findMatch_J151 (l : Launch) (e : Nat) (he : 4 ≤ e) (v0 : Nat) (v1 : Nat) (v2 : Nat) (v3 : Int32) (v5 : Int32) (r60 : Int32 → zM) (hr60 : ∀ x : Int32, zCo l (e + 1) 0 0 iX5_findMatch 60 [(0, .ref v0), (1, .ref v1), (2, .ref v2), (3, .int v3), (5, .int x)] [] (r60 x)) : zCo l (e + 1) 0 0 iX5_findMatch 151 [(0, .ref v0), (1, .ref v1), (2, .ref v2), (3, .int v3), (5, .int v5)] [] (X5_findMatch_J151 r60 v0 v1 v2 v3 v5) := by
  unfold X5_findMatch_J151
  refine zco_p tkX5_findMatch 85 2 (pc' := 60) (L' := [(5, .int (v5 + (-1))), (0, .ref v0), (1, .ref v1), (2, .ref v2), (3, .int v3)]) (S' := []) rfl ?_
  exact zco_sub [1, 2, 3, 4, 0] rfl (hr60 (v5 + (-1)))
def X5_findMatch_J130 (r60 : Int32 → zM) (r68 : Int32 → zM) (v0 : Nat) (v1 : Nat) (v2 : Nat) (v3 : Int32) (v5 : Int32) (v6 : Int32) (v7 : Int32) : zM := z_gr 5 2 v0 fun x1 => z_sa 20 x1 ((v5 <<< (6 &&& 31)) + v6) v7 (r68 (v6 + 1))
set_option maxHeartbeats 2000000 in
set_option maxRecDepth 20000 in
theorem coX5_findMatch_J130 (l : Launch) (e : Nat) (he : 4 ≤ e) (v0 : Nat) (v1 : Nat) (v2 : Nat) (v3 : Int32) (v5 : Int32) (v6 : Int32) (v7 : Int32) (r60 : Int32 → zM) (hr60 : ∀ x : Int32, zCo l (e + 1) 0 0 iX5_findMatch 60 [(0, .ref v0), (1, .ref v1), (2, .ref v2), (3, .int v3), (5, .int x)] [] (r60 x)) (r68 : Int32 → zM) (hr68 : ∀ x : Int32, zCo l (e + 1) 0 0 iX5_findMatch 68 [(0, .ref v0), (1, .ref v1), (2, .ref v2), (3, .int v3), (5, .int v5), (6, .int x)] [] (r68 x)) : zCo l (e + 1) 0 0 iX5_findMatch 130 [(0, .ref v0), (1, .ref v1), (2, .ref v2), (3, .int v3), (5, .int v5), (6, .int v6), (7, .int v7)] [] (X5_findMatch_J130 r60 r68 v0 v1 v2 v3 v5 v6 v7) := by
  unfold X5_findMatch_J130
  refine zco_p tkX5_findMatch 74 1 (pc' := 131) (L' := [(0, .ref v0), (1, .ref v1), (2, .ref v2), (3, .int v3), (5, .int v5), (6, .int v6), (7, .int v7)]) (S' := [.ref v0]) rfl ?_
  refine zco_gr fl_5_18 rfl (zdk (cc := cX5_findMatch) (q := (131, .getfield 18, 3)) tkX5_findMatch 75 rfl) (fun x1 => ?_)
  refine zco_p tkX5_findMatch 76 6 (pc' := 144) (L' := [(0, .ref v0), (1, .ref v1), (2, .ref v2), (3, .int v3), (5, .int v5), (6, .int v6), (7, .int v7)]) (S' := [.int v7, .int ((v5 <<< (6 &&& 31)) + v6), .ref x1]) rfl ?_
  refine zco_iastore (zdk (cc := cX5_findMatch) (q := (144, .iastore, 1)) tkX5_findMatch 82 rfl) ?_
  refine zco_p tkX5_findMatch 83 2 (pc' := 68) (L' := [(6, .int (v6 + 1)), (0, .ref v0), (1, .ref v1), (2, .ref v2), (3, .int v3), (5, .int v5), (7, .int v7)]) (S' := []) rfl ?_
  exact zco_sub [1, 2, 3, 4, 5, 0] rfl (hr68 (v6 + 1))
def X5_findMatch_B94 (r60 : Int32 → zM) (r68 : Int32 → zM) (v0 : Nat) (v1 : Nat) (v2 : Nat) (v3 : Int32) (v5 : Int32) (v6 : Int32) (r94 : Int32 × Int32 → zM) (v7 : Int32) (v8 : Int32) : zM := z_gr 1 0 v1 fun x1 => z_la 20 x1 1 fun x2 => z_if (x2 ≤ v8) (X5_findMatch_J130 r60 r68 v0 v1 v2 v3 v5 v6 v7)
   (z_rc 5 v0 (z_ci (X5_withRight v0 v1 v2 v5 v8 v6) fun y3 => r94 (if v7 < y3 then y3 else v7, v8 + 1)))
set_option maxHeartbeats 2000000 in
set_option maxRecDepth 20000 in
theorem coX5_findMatch_B94 (l : Launch) (e : Nat) (he : 4 ≤ e) (v0 : Nat) (v1 : Nat) (v2 : Nat) (v3 : Int32) (v5 : Int32) (v6 : Int32) (r60 : Int32 → zM) (hr60 : ∀ x : Int32, zCo l (e + 1) 0 0 iX5_findMatch 60 [(0, .ref v0), (1, .ref v1), (2, .ref v2), (3, .int v3), (5, .int x)] [] (r60 x)) (r68 : Int32 → zM) (hr68 : ∀ x : Int32, zCo l (e + 1) 0 0 iX5_findMatch 68 [(0, .ref v0), (1, .ref v1), (2, .ref v2), (3, .int v3), (5, .int v5), (6, .int x)] [] (r68 x)) (r94 : Int32 × Int32 → zM) (hr94 : ∀ x : Int32 × Int32, zCo l (e + 1) 0 0 iX5_findMatch 94 [(0, .ref v0), (1, .ref v1), (2, .ref v2), (3, .int v3), (5, .int v5), (6, .int v6), (7, .int x.1), (8, .int x.2)] [] (r94 x)) (v7 : Int32) (v8 : Int32) : zCo l (e + 1) 0 0 iX5_findMatch 94 [(0, .ref v0), (1, .ref v1), (2, .ref v2), (3, .int v3), (5, .int v5), (6, .int v6), (7, .int v7), (8, .int v8)] [] (X5_findMatch_B94 r60 r68 v0 v1 v2 v3 v5 v6 r94 v7 v8) := by
  unfold X5_findMatch_B94
  refine zco_p tkX5_findMatch 56 2 (pc' := 97) (L' := [(0, .ref v0), (1, .ref v1), (2, .ref v2), (3, .int v3), (5, .int v5), (6, .int v6), (7, .int v7), (8, .int v8)]) (S' := [.ref v1, .int v8]) rfl ?_
  refine zco_gr fl_5_30 rfl (zdk (cc := cX5_findMatch) (q := (97, .getfield 30, 3)) tkX5_findMatch 58 rfl) (fun x1 => ?_)
  refine zco_p tkX5_findMatch 59 1 (pc' := 101) (L' := [(0, .ref v0), (1, .ref v1), (2, .ref v2), (3, .int v3), (5, .int v5), (6, .int v6), (7, .int v7), (8, .int v8)]) (S' := [.int 1, .ref x1, .int v8]) rfl ?_
  refine zco_iaload (zdk (cc := cX5_findMatch) (q := (101, .iaload, 1)) tkX5_findMatch 60 rfl) (fun x2 => ?_)
  refine zco_icmp_ge (tgt := 130) (zdk (cc := cX5_findMatch) (q := (102, .if_icmp .ge 28, 3)) tkX5_findMatch 61 rfl) rfl ?_ ?_
  · exact zco_sub [0, 1, 2, 3, 4, 5, 6] rfl (coX5_findMatch_J130 l e he v0 v1 v2 v3 v5 v6 v7 r60 hr60 r68 hr68)
  · refine zco_p tkX5_findMatch 62 7 (pc' := 116) (L' := [(0, .ref v0), (1, .ref v1), (2, .ref v2), (3, .int v3), (5, .int v5), (6, .int v6), (7, .int v7), (8, .int v8)]) (S' := [.int v6, .int v8, .int v5, .ref v2, .ref v1, .ref v0, .int v7]) rfl ?_
    refine zco_Vi (rc := 0) (rs := 0) (mc := 0) (ms := 0) (As := [.ref v1, .ref v2, .int v5, .int v8, .int v6]) (S := [.int v7]) vmX5_withRight (mtX5_withRight l e (by omega) v0 v1 v2 v5 v8 v6) q_1088 rfl rfl (Nat.le_of_ble_eq_true rfl) (zdk (cc := cX5_findMatch) (q := (116, .invokevirtual 35, 3)) tkX5_findMatch 69 rfl) (fun y3 => ?_)
    refine zco_imax (by omega) q_1094 q_962 q_166 q_imax (Nat.le_of_ble_eq_true rfl) (zdk (cc := cX5_findMatch) (q := (119, .invokestatic 39, 3)) tkX5_findMatch 70 rfl) ?_
    refine zco_p tkX5_findMatch 71 3 (pc' := 94) (L' := [(8, .int (v8 + 1)), (7, .int (if v7 < y3 then y3 else v7)), (0, .ref v0), (1, .ref v1), (2, .ref v2), (3, .int v3), (5, .int v5), (6, .int v6)]) (S' := []) rfl ?_
    exact zco_sub [2, 3, 4, 5, 6, 7, 1, 0] rfl (hr94 (if v7 < y3 then y3 else v7, v8 + 1))
def X5_findMatch_B68 (r60 : Int32 → zM) (v0 : Nat) (v1 : Nat) (v2 : Nat) (v3 : Int32) (v5 : Int32) (r68 : Int32 → zM) (v6 : Int32) : zM := z_if (v3 ≤ v6) (X5_findMatch_J151 r60 v0 v1 v2 v3 v5)
   (z_gr 5 2 v0 fun x1 => z_la 20 x1 (((v5 + 1) <<< (6 &&& 31)) + v6) fun x2 => z_fix (fun r x => X5_findMatch_B94 r60 r68 v0 v1 v2 v3 v5 v6 r x.1 x.2) zFU (x2, 0))
set_option maxHeartbeats 2000000 in
set_option maxRecDepth 20000 in
theorem coX5_findMatch_B68 (l : Launch) (e : Nat) (he : 4 ≤ e) (v0 : Nat) (v1 : Nat) (v2 : Nat) (v3 : Int32) (v5 : Int32) (r60 : Int32 → zM) (hr60 : ∀ x : Int32, zCo l (e + 1) 0 0 iX5_findMatch 60 [(0, .ref v0), (1, .ref v1), (2, .ref v2), (3, .int v3), (5, .int x)] [] (r60 x)) (r68 : Int32 → zM) (hr68 : ∀ x : Int32, zCo l (e + 1) 0 0 iX5_findMatch 68 [(0, .ref v0), (1, .ref v1), (2, .ref v2), (3, .int v3), (5, .int v5), (6, .int x)] [] (r68 x)) (v6 : Int32) : zCo l (e + 1) 0 0 iX5_findMatch 68 [(0, .ref v0), (1, .ref v1), (2, .ref v2), (3, .int v3), (5, .int v5), (6, .int v6)] [] (X5_findMatch_B68 r60 v0 v1 v2 v3 v5 r68 v6) := by
  unfold X5_findMatch_B68
  refine zco_p tkX5_findMatch 40 2 (pc' := 71) (L' := [(0, .ref v0), (1, .ref v1), (2, .ref v2), (3, .int v3), (5, .int v5), (6, .int v6)]) (S' := [.int v3, .int v6]) rfl ?_
  refine zco_icmp_ge (tgt := 151) (zdk (cc := cX5_findMatch) (q := (71, .if_icmp .ge 80, 3)) tkX5_findMatch 42 rfl) rfl ?_ ?_
  · exact zco_sub [0, 1, 2, 3, 4] rfl (coX5_findMatch_J151 l e he v0 v1 v2 v3 v5 r60 hr60)
  · refine zco_p tkX5_findMatch 43 1 (pc' := 75) (L' := [(0, .ref v0), (1, .ref v1), (2, .ref v2), (3, .int v3), (5, .int v5), (6, .int v6)]) (S' := [.ref v0]) rfl ?_
    refine zco_gr fl_5_18 rfl (zdk (cc := cX5_findMatch) (q := (75, .getfield 18, 3)) tkX5_findMatch 44 rfl) (fun x1 => ?_)
    refine zco_p tkX5_findMatch 45 7 (pc' := 88) (L' := [(0, .ref v0), (1, .ref v1), (2, .ref v2), (3, .int v3), (5, .int v5), (6, .int v6)]) (S' := [.int (((v5 + 1) <<< (6 &&& 31)) + v6), .ref x1]) rfl ?_
    refine zco_iaload (zdk (cc := cX5_findMatch) (q := (88, .iaload, 1)) tkX5_findMatch 52 rfl) (fun x2 => ?_)
    refine zco_p tkX5_findMatch 53 3 (pc' := 94) (L' := [(8, .int 0), (7, .int x2), (0, .ref v0), (1, .ref v1), (2, .ref v2), (3, .int v3), (5, .int v5), (6, .int v6)]) (S' := []) rfl ?_
    exact zco_sub [2, 3, 4, 5, 6, 7, 1, 0] rfl (zco_fix (Lf := fun x : Int32 × Int32 => [(0, .ref v0), (1, .ref v1), (2, .ref v2), (3, .int v3), (5, .int v5), (6, .int v6), (7, .int x.1), (8, .int x.2)]) (Sf := fun _ => []) (fun r hr x => coX5_findMatch_B94 l e he v0 v1 v2 v3 v5 v6 r60 hr60 r68 hr68 r hr x.1 x.2) zFU (x2, 0))
def X5_findMatch_B60 (v0 : Nat) (v1 : Nat) (v2 : Nat) (v3 : Int32) (r60 : Int32 → zM) (v5 : Int32) : zM := z_if (v5 < 0) (X5_findMatch_J157 v0 v1 v2)
   (z_fix (fun r x => X5_findMatch_B68 r60 v0 v1 v2 v3 v5 r x) zFU 0)
set_option maxHeartbeats 2000000 in
set_option maxRecDepth 20000 in
theorem coX5_findMatch_B60 (l : Launch) (e : Nat) (he : 4 ≤ e) (v0 : Nat) (v1 : Nat) (v2 : Nat) (v3 : Int32) (r60 : Int32 → zM) (hr60 : ∀ x : Int32, zCo l (e + 1) 0 0 iX5_findMatch 60 [(0, .ref v0), (1, .ref v1), (2, .ref v2), (3, .int v3), (5, .int x)] [] (r60 x)) (v5 : Int32) : zCo l (e + 1) 0 0 iX5_findMatch 60 [(0, .ref v0), (1, .ref v1), (2, .ref v2), (3, .int v3), (5, .int v5)] [] (X5_findMatch_B60 v0 v1 v2 v3 r60 v5) := by
  unfold X5_findMatch_B60
  refine zco_p tkX5_findMatch 36 1 (pc' := 62) (L' := [(0, .ref v0), (1, .ref v1), (2, .ref v2), (3, .int v3), (5, .int v5)]) (S' := [.int v5]) rfl ?_
  refine zco_if_lt (tgt := 157) (zdk (cc := cX5_findMatch) (q := (62, .ifCond .lt 95, 3)) tkX5_findMatch 37 rfl) rfl ?_ ?_
  · exact zco_sub [0, 1, 2] rfl (coX5_findMatch_J157 l e he v0 v1 v2)
  · refine zco_p tkX5_findMatch 38 2 (pc' := 68) (L' := [(6, .int 0), (0, .ref v0), (1, .ref v1), (2, .ref v2), (3, .int v3), (5, .int v5)]) (S' := []) rfl ?_
    exact zco_sub [1, 2, 3, 4, 5, 0] rfl (zco_fix (Lf := fun x : Int32 => [(0, .ref v0), (1, .ref v1), (2, .ref v2), (3, .int v3), (5, .int v5), (6, .int x)]) (Sf := fun _ => []) (fun r hr x => coX5_findMatch_B68 l e he v0 v1 v2 v3 v5 r60 hr60 r hr x) zFU 0)
def X5_findMatch_J54 (v0 : Nat) (v1 : Nat) (v2 : Nat) (v3 : Int32) (v4 : Int32) : zM := z_fix (fun r x => X5_findMatch_B60 v0 v1 v2 v3 r x) zFU (v4 - 1)
set_option maxHeartbeats 2000000 in
set_option maxRecDepth 20000 in
theorem coX5_findMatch_J54 (l : Launch) (e : Nat) (he : 4 ≤ e) (v0 : Nat) (v1 : Nat) (v2 : Nat) (v3 : Int32) (v4 : Int32) : zCo l (e + 1) 0 0 iX5_findMatch 54 [(0, .ref v0), (1, .ref v1), (2, .ref v2), (3, .int v3), (4, .int v4)] [] (X5_findMatch_J54 v0 v1 v2 v3 v4) := by
  unfold X5_findMatch_J54
  refine zco_p tkX5_findMatch 32 4 (pc' := 60) (L' := [(5, .int (v4 - 1)), (0, .ref v0), (1, .ref v1), (2, .ref v2), (3, .int v3), (4, .int v4)]) (S' := []) rfl ?_
  exact zco_sub [1, 2, 3, 4, 0] rfl (zco_fix (Lf := fun x : Int32 => [(0, .ref v0), (1, .ref v1), (2, .ref v2), (3, .int v3), (5, .int x)]) (Sf := fun _ => []) (fun r hr x => coX5_findMatch_B60 l e he v0 v1 v2 v3 r hr x) zFU (v4 - 1))
def X5_findMatch_B28 (v0 : Nat) (v1 : Nat) (v2 : Nat) (v3 : Int32) (v4 : Int32) (r28 : Int32 → zM) (v5 : Int32) : zM := z_if (v3 ≤ v5) (X5_findMatch_J54 v0 v1 v2 v3 v4)
   (z_gr 5 2 v0 fun x1 => z_sa 20 x1 ((v4 <<< (6 &&& 31)) + v5) 0 (r28 (v5 + 1)))
set_option maxHeartbeats 2000000 in
set_option maxRecDepth 20000 in
theorem coX5_findMatch_B28 (l : Launch) (e : Nat) (he : 4 ≤ e) (v0 : Nat) (v1 : Nat) (v2 : Nat) (v3 : Int32) (v4 : Int32) (r28 : Int32 → zM) (hr28 : ∀ x : Int32, zCo l (e + 1) 0 0 iX5_findMatch 28 [(0, .ref v0), (1, .ref v1), (2, .ref v2), (3, .int v3), (4, .int v4), (5, .int x)] [] (r28 x)) (v5 : Int32) : zCo l (e + 1) 0 0 iX5_findMatch 28 [(0, .ref v0), (1, .ref v1), (2, .ref v2), (3, .int v3), (4, .int v4), (5, .int v5)] [] (X5_findMatch_B28 v0 v1 v2 v3 v4 r28 v5) := by
  unfold X5_findMatch_B28
  refine zco_p tkX5_findMatch 18 2 (pc' := 31) (L' := [(0, .ref v0), (1, .ref v1), (2, .ref v2), (3, .int v3), (4, .int v4), (5, .int v5)]) (S' := [.int v3, .int v5]) rfl ?_
  refine zco_icmp_ge (tgt := 54) (zdk (cc := cX5_findMatch) (q := (31, .if_icmp .ge 23, 3)) tkX5_findMatch 20 rfl) rfl ?_ ?_
  · exact zco_sub [0, 1, 2, 3, 4] rfl (coX5_findMatch_J54 l e he v0 v1 v2 v3 v4)
  · refine zco_p tkX5_findMatch 21 1 (pc' := 35) (L' := [(0, .ref v0), (1, .ref v1), (2, .ref v2), (3, .int v3), (4, .int v4), (5, .int v5)]) (S' := [.ref v0]) rfl ?_
    refine zco_gr fl_5_18 rfl (zdk (cc := cX5_findMatch) (q := (35, .getfield 18, 3)) tkX5_findMatch 22 rfl) (fun x1 => ?_)
    refine zco_p tkX5_findMatch 23 6 (pc' := 47) (L' := [(0, .ref v0), (1, .ref v1), (2, .ref v2), (3, .int v3), (4, .int v4), (5, .int v5)]) (S' := [.int 0, .int ((v4 <<< (6 &&& 31)) + v5), .ref x1]) rfl ?_
    refine zco_iastore (zdk (cc := cX5_findMatch) (q := (47, .iastore, 1)) tkX5_findMatch 29 rfl) ?_
    refine zco_p tkX5_findMatch 30 2 (pc' := 28) (L' := [(5, .int (v5 + 1)), (0, .ref v0), (1, .ref v1), (2, .ref v2), (3, .int v3), (4, .int v4)]) (S' := []) rfl ?_
    exact zco_sub [1, 2, 3, 4, 5, 0] rfl (hr28 (v5 + 1))
def X5_findMatch (v0 : Nat) (v1 : Nat) (v2 : Nat) : zM := z_gr 5 0 v0 fun x1 => z_cv (J7_fill_53178 x1 ((-1))) (z_gr 1 0 v1 fun x2 => z_la 20 x2 1 fun x3 => z_gr 1 0 v1 fun x4 => z_la 20 x4 0 fun x5 => z_fix (fun r x => X5_findMatch_B28 v0 v1 v2 (1 <<< (x3 &&& 31)) x5 r x) zFU 0)
set_option maxHeartbeats 2000000 in
set_option maxRecDepth 20000 in
theorem coX5_findMatch (l : Launch) (e : Nat) (he : 4 ≤ e) (v0 : Nat) (v1 : Nat) (v2 : Nat) : zCo l (e + 1) 0 0 iX5_findMatch 0 [(0, .ref v0), (1, .ref v1), (2, .ref v2)] [] (X5_findMatch v0 v1 v2) := by
  unfold X5_findMatch
  refine zco_p tkX5_findMatch 0 1 (pc' := 1) (L' := [(0, .ref v0), (1, .ref v1), (2, .ref v2)]) (S' := [.ref v0]) rfl ?_
  refine zco_gr fl_5_9 rfl (zdk (cc := cX5_findMatch) (q := (1, .getfield 9, 3)) tkX5_findMatch 1 rfl) (fun x1 => ?_)
  refine zco_p tkX5_findMatch 2 1 (pc' := 5) (L' := [(0, .ref v0), (1, .ref v1), (2, .ref v2)]) (S' := [.int ((-1)), .ref x1]) rfl ?_
  refine zco_Sv (rc := 0) (rs := 0) (mc := 0) (ms := 0) (As := [.ref x1, .int ((-1))]) (S := []) vmJ7_fill_53178 (mtJ7_fill_53178 l e (by omega) x1 ((-1))) q_1087 rfl rfl (Nat.le_of_ble_eq_true rfl) (zdk (cc := cX5_findMatch) (q := (5, .invokestatic 24, 3)) tkX5_findMatch 3 rfl) ?_
  refine zco_p tkX5_findMatch 4 2 (pc' := 10) (L' := [(0, .ref v0), (1, .ref v1), (2, .ref v2)]) (S' := [.ref v1, .int 1]) rfl ?_
  refine zco_gr fl_5_30 rfl (zdk (cc := cX5_findMatch) (q := (10, .getfield 30, 3)) tkX5_findMatch 6 rfl) (fun x2 => ?_)
  refine zco_p tkX5_findMatch 7 1 (pc' := 14) (L' := [(0, .ref v0), (1, .ref v1), (2, .ref v2)]) (S' := [.int 1, .ref x2, .int 1]) rfl ?_
  refine zco_iaload (zdk (cc := cX5_findMatch) (q := (14, .iaload, 1)) tkX5_findMatch 8 rfl) (fun x3 => ?_)
  refine zco_p tkX5_findMatch 9 3 (pc' := 18) (L' := [(3, .int (1 <<< (x3 &&& 31))), (0, .ref v0), (1, .ref v1), (2, .ref v2)]) (S' := [.ref v1]) rfl ?_
  refine zco_gr fl_5_30 rfl (zdk (cc := cX5_findMatch) (q := (18, .getfield 30, 3)) tkX5_findMatch 12 rfl) (fun x4 => ?_)
  refine zco_p tkX5_findMatch 13 1 (pc' := 22) (L' := [(3, .int (1 <<< (x3 &&& 31))), (0, .ref v0), (1, .ref v1), (2, .ref v2)]) (S' := [.int 0, .ref x4]) rfl ?_
  refine zco_iaload (zdk (cc := cX5_findMatch) (q := (22, .iaload, 1)) tkX5_findMatch 14 rfl) (fun x5 => ?_)
  refine zco_p tkX5_findMatch 15 3 (pc' := 28) (L' := [(5, .int 0), (4, .int x5), (3, .int (1 <<< (x3 &&& 31))), (0, .ref v0), (1, .ref v1), (2, .ref v2)]) (S' := []) rfl ?_
  exact zco_sub [3, 4, 5, 2, 1, 0] rfl (zco_fix (Lf := fun x : Int32 => [(0, .ref v0), (1, .ref v1), (2, .ref v2), (3, .int (1 <<< (x3 &&& 31))), (4, .int x5), (5, .int x)]) (Sf := fun _ => []) (fun r hr x => coX5_findMatch_B28 l e he v0 v1 v2 (1 <<< (x3 &&& 31)) x5 r hr x) zFU 0)
theorem mtX5_findMatch (l : Launch) (d : Nat) (hd : 5 ≤ d) (v0 : Nat) (v1 : Nat) (v2 : Nat) : zMet l d 0 0 yX5_findMatch cX5_findMatch 9 (Option.some .int) [.ref v0, .ref v1, .ref v2] (X5_findMatch v0 v1 v2) := by
  obtain ⟨e, rfl⟩ : ∃ e, d = e + 1 := ⟨d - 1, by omega⟩
  exact zmet_of (own := RX5) (ini := false) (by decide +kernel) rfl (fun _ => by contradiction) (Nat.le_of_ble_eq_true rfl) (coX5_findMatch l e (by omega) v0 v1 v2)
abbrev iX11_match : zI := (RX11, cX11_match, 4, (Option.some .int), false)
def tX11_match : List (Nat × Instr × Nat) := [(0, .aload_n 0, 1), (1, .getfield 86, 3), (4, .aload_n 0, 1), (5, .getfield 51, 3), (8, .aload_n 0, 1), (9, .getfield 61, 3), (12, .invokevirtual 260, 3), (15, .istore_n 2, 1), (16, .iload_n 1, 1), (17, .iconst (-1), 1), (18, .if_icmp .ne 5, 3), (21, .iload_n 2, 1), (22, .ireturn, 1), (23, .aload_n 0, 1), (24, .getfield 51, 3), (27, .iload_n 1, 1), (28, .invokevirtual 184, 3), (31, .istore_n 3, 1), (32, .iload_n 3, 1), (33, .iconst (-1), 1), (34, .if_icmp .eq 9, 3), (37, .iload_n 3, 1), (38, .bipush 6, 2), (40, .if_icmp .lt 7, 3), (43, .iconst (-1), 1), (44, .goto 19, 3), (47, .aload_n 0, 1), (48, .getfield 51, 3), (51, .aload_n 0, 1), (52, .getfield 86, 3), (55, .getfield 264, 3), (58, .iload_n 3, 1), (59, .iaload, 1), (60, .invokevirtual 202, 3), (63, .ireturn, 1)]
set_option maxRecDepth 100000 in
theorem tkX11_match : ∀ q ∈ tX11_match, decode cX11_match q.1 = .ok q.2 := by decide +kernel
theorem vmX11_match : zVM yX11_match cX11_match 4 (Option.some .int) 1 11 := ⟨kX11_match, q_1080, q_1081, q_147, ⟨_, rfl, rfl⟩, by decide +kernel, by decide⟩
def X11_match_J43  : zM := z_ret (some (.int ((-1))))
set_option maxHeartbeats 2000000 in
set_option maxRecDepth 20000 in
theorem coX11_match_J43 (l : Launch) (e : Nat) (he : 5 ≤ e)  : zCo l (e + 1) 0 0 iX11_match 43 [] [] (X11_match_J43 ) := by
  unfold X11_match_J43
  refine zco_p tkX11_match 24 2 (pc' := 63) (L' := []) (S' := [.int ((-1))]) rfl ?_
  exact zco_iret rfl rfl rfl (zdk (cc := cX11_match) (q := (63, .ireturn, 1)) tkX11_match 34 rfl)
def X11_match (v0 : Nat) (v1 : Int32) : zM := z_gr 11 10 v0 fun x1 => z_gr 11 5 v0 fun x2 => z_gr 11 7 v0 fun x3 => z_rc 5 x1 (z_ci (X5_findMatch x1 x2 x3) fun y4 => z_if (v1 = ((-1))) (z_ret (some (.int y4)))
   (z_gr 11 5 v0 fun x5 => z_rc 1 x5 (z_ci (X1_slot x5 v1) fun y6 => z_if (y6 = ((-1))) (X11_match_J43)
   (z_if (y6 < 6) (z_gr 11 5 v0 fun x7 => z_gr 11 10 v0 fun x8 => z_gr 5 0 x8 fun x9 => z_la 20 x9 y6 fun x10 => z_rc 1 x7 (z_ci (X1_number x7 x10) fun y11 => z_ret (some (.int y11))))
   (X11_match_J43)))))
set_option maxHeartbeats 2000000 in
set_option maxRecDepth 20000 in
theorem coX11_match (l : Launch) (e : Nat) (he : 5 ≤ e) (v0 : Nat) (v1 : Int32) : zCo l (e + 1) 0 0 iX11_match 0 [(0, .ref v0), (1, .int v1)] [] (X11_match v0 v1) := by
  unfold X11_match
  refine zco_p tkX11_match 0 1 (pc' := 1) (L' := [(0, .ref v0), (1, .int v1)]) (S' := [.ref v0]) rfl ?_
  refine zco_gr fl_11_86 rfl (zdk (cc := cX11_match) (q := (1, .getfield 86, 3)) tkX11_match 1 rfl) (fun x1 => ?_)
  refine zco_p tkX11_match 2 1 (pc' := 5) (L' := [(0, .ref v0), (1, .int v1)]) (S' := [.ref v0, .ref x1]) rfl ?_
  refine zco_gr fl_11_51 rfl (zdk (cc := cX11_match) (q := (5, .getfield 51, 3)) tkX11_match 3 rfl) (fun x2 => ?_)
  refine zco_p tkX11_match 4 1 (pc' := 9) (L' := [(0, .ref v0), (1, .int v1)]) (S' := [.ref v0, .ref x2, .ref x1]) rfl ?_
  refine zco_gr fl_11_61 rfl (zdk (cc := cX11_match) (q := (9, .getfield 61, 3)) tkX11_match 5 rfl) (fun x3 => ?_)
  refine zco_Vi (rc := 0) (rs := 0) (mc := 0) (ms := 0) (As := [.ref x2, .ref x3]) (S := []) vmX5_findMatch (mtX5_findMatch l e (by omega) x1 x2 x3) q_1083 rfl rfl (Nat.le_of_ble_eq_true rfl) (zdk (cc := cX11_match) (q := (12, .invokevirtual 260, 3)) tkX11_match 6 rfl) (fun y4 => ?_)
  refine zco_p tkX11_match 7 3 (pc' := 18) (L' := [(2, .int y4), (0, .ref v0), (1, .int v1)]) (S' := [.int ((-1)), .int v1]) rfl ?_
  refine zco_icmp_ne (tgt := 23) (zdk (cc := cX11_match) (q := (18, .if_icmp .ne 5, 3)) tkX11_match 10 rfl) rfl ?_ ?_
  · refine zco_p tkX11_match 13 1 (pc' := 24) (L' := [(2, .int y4), (0, .ref v0), (1, .int v1)]) (S' := [.ref v0]) rfl ?_
    refine zco_gr fl_11_51 rfl (zdk (cc := cX11_match) (q := (24, .getfield 51, 3)) tkX11_match 14 rfl) (fun x5 => ?_)
    refine zco_p tkX11_match 15 1 (pc' := 28) (L' := [(2, .int y4), (0, .ref v0), (1, .int v1)]) (S' := [.int v1, .ref x5]) rfl ?_
    refine zco_Vi (rc := 0) (rs := 0) (mc := 0) (ms := 0) (As := [.int v1]) (S := []) vmX1_slot (mtX1_slot l e (by omega) x5 v1) q_930 rfl rfl (Nat.le_of_ble_eq_true rfl) (zdk (cc := cX11_match) (q := (28, .invokevirtual 184, 3)) tkX11_match 16 rfl) (fun y6 => ?_)
    refine zco_p tkX11_match 17 3 (pc' := 34) (L' := [(3, .int y6), (2, .int y4), (0, .ref v0), (1, .int v1)]) (S' := [.int ((-1)), .int y6]) rfl ?_
    refine zco_icmp_eq (tgt := 43) (zdk (cc := cX11_match) (q := (34, .if_icmp .eq 9, 3)) tkX11_match 20 rfl) rfl ?_ ?_
    · exact zco_sub [] rfl (coX11_match_J43 l e he )
    · refine zco_p tkX11_match 21 2 (pc' := 40) (L' := [(3, .int y6), (2, .int y4), (0, .ref v0), (1, .int v1)]) (S' := [.int 6, .int y6]) rfl ?_
      refine zco_icmp_lt (tgt := 47) (zdk (cc := cX11_match) (q := (40, .if_icmp .lt 7, 3)) tkX11_match 23 rfl) rfl ?_ ?_
      · refine zco_p tkX11_match 26 1 (pc' := 48) (L' := [(3, .int y6), (2, .int y4), (0, .ref v0), (1, .int v1)]) (S' := [.ref v0]) rfl ?_
        refine zco_gr fl_11_51 rfl (zdk (cc := cX11_match) (q := (48, .getfield 51, 3)) tkX11_match 27 rfl) (fun x7 => ?_)
        refine zco_p tkX11_match 28 1 (pc' := 52) (L' := [(3, .int y6), (2, .int y4), (0, .ref v0), (1, .int v1)]) (S' := [.ref v0, .ref x7]) rfl ?_
        refine zco_gr fl_11_86 rfl (zdk (cc := cX11_match) (q := (52, .getfield 86, 3)) tkX11_match 29 rfl) (fun x8 => ?_)
        refine zco_gr fl_11_264 rfl (zdk (cc := cX11_match) (q := (55, .getfield 264, 3)) tkX11_match 30 rfl) (fun x9 => ?_)
        refine zco_p tkX11_match 31 1 (pc' := 59) (L' := [(3, .int y6), (2, .int y4), (0, .ref v0), (1, .int v1)]) (S' := [.int y6, .ref x9, .ref x7]) rfl ?_
        refine zco_iaload (zdk (cc := cX11_match) (q := (59, .iaload, 1)) tkX11_match 32 rfl) (fun x10 => ?_)
        refine zco_Vi (rc := 0) (rs := 0) (mc := 0) (ms := 0) (As := [.int x10]) (S := []) vmX1_number (mtX1_number l e (by omega) x7 x10) q_942 rfl rfl (Nat.le_of_ble_eq_true rfl) (zdk (cc := cX11_match) (q := (60, .invokevirtual 202, 3)) tkX11_match 33 rfl) (fun y11 => ?_)
        exact zco_iret rfl rfl rfl (zdk (cc := cX11_match) (q := (63, .ireturn, 1)) tkX11_match 34 rfl)
      · exact zco_sub [] rfl (coX11_match_J43 l e he )
  · refine zco_p tkX11_match 11 1 (pc' := 22) (L' := [(2, .int y4), (0, .ref v0), (1, .int v1)]) (S' := [.int y4]) rfl ?_
    exact zco_iret rfl rfl rfl (zdk (cc := cX11_match) (q := (22, .ireturn, 1)) tkX11_match 12 rfl)
theorem mtX11_match (l : Launch) (d : Nat) (hd : 6 ≤ d) (v0 : Nat) (v1 : Int32) : zMet l d 0 0 yX11_match cX11_match 4 (Option.some .int) [.ref v0, .int v1] (X11_match v0 v1) := by
  obtain ⟨e, rfl⟩ : ∃ e, d = e + 1 := ⟨d - 1, by omega⟩
  exact zmet_of (own := RX11) (ini := false) (by decide +kernel) rfl (fun _ => by contradiction) (Nat.le_of_ble_eq_true rfl) (coX11_match l e (by omega) v0 v1)
abbrev iX5_nextToAsk : zI := (RX5, cX5_nextToAsk, 7, (Option.some .int), false)
def tX5_nextToAsk : List (Nat × Instr × Nat) := [(0, .iconst (-1), 1), (1, .istore 4, 2), (3, .bipush 6, 2), (5, .istore 5, 2), (7, .iload 5, 2), (9, .bipush 6, 2), (11, .aload_n 1, 1), (12, .getfield 30, 3), (15, .iconst 1, 1), (16, .iaload, 1), (17, .iadd, 1), (18, .if_icmp .ge 83, 3), (21, .aload_n 0, 1), (22, .getfield 21, 3), (25, .iload_n 3, 1), (26, .iaload, 1), (27, .iload 5, 2), (29, .bipush 6, 2), (31, .isub, 1), (32, .ishr, 1), (33, .iconst 1, 1), (34, .iand, 1), (35, .ifCond .ne 17, 3), (38, .aload_n 1, 1), (39, .iload_n 3, 1), (40, .iload 5, 2), (42, .invokevirtual 49, 3), (45, .ifCond .ne 7, 3), (48, .iconst 1, 1), (49, .goto 4, 3), (52, .iconst 0, 1), (53, .istore 6, 2), (55, .iload 6, 2), (57, .ifCond .eq 38, 3), (60, .iload 4, 2), (62, .iconst (-1), 1), (63, .if_icmp .eq 28, 3), (66, .aload_n 2, 1), (67, .getfield 53, 3), (70, .iload_n 3, 1), (71, .iload 5, 2), (73, .invokestatic 58, 3), (76, .iaload, 1), (77, .aload_n 2, 1), (78, .getfield 53, 3), (81, .iload_n 3, 1), (82, .iload 4, 2), (84, .invokestatic 58, 3), (87, .iaload, 1), (88, .if_icmp .le 7, 3), (91, .iload 5, 2), (93, .istore 4, 2), (95, .iinc 5 1, 3), (98, .goto (-91), 3), (101, .iload 4, 2), (103, .ireturn, 1)]
set_option maxRecDepth 100000 in
theorem tkX5_nextToAsk : ∀ q ∈ tX5_nextToAsk, decode cX5_nextToAsk q.1 = .ok q.2 := by decide +kernel
theorem vmX5_nextToAsk : zVM yX5_nextToAsk cX5_nextToAsk 7 (Option.some .int) 3 5 := ⟨kX5_nextToAsk, q_1109, q_27, q_157, ⟨_, rfl, rfl⟩, by decide +kernel, by decide⟩
def X5_nextToAsk_J95 (r7 : Int32 × Int32 → zM) (v0 : Nat) (v1 : Nat) (v2 : Nat) (v3 : Int32) (v4 : Int32) (v5 : Int32) : zM := r7 (v4, v5 + 1)
set_option maxHeartbeats 2000000 in
set_option maxRecDepth 20000 in
theorem coX5_nextToAsk_J95 (l : Launch) (e : Nat) (he : 2 ≤ e) (v0 : Nat) (v1 : Nat) (v2 : Nat) (v3 : Int32) (v4 : Int32) (v5 : Int32) (r7 : Int32 × Int32 → zM) (hr7 : ∀ x : Int32 × Int32, zCo l (e + 1) 0 0 iX5_nextToAsk 7 [(0, .ref v0), (1, .ref v1), (2, .ref v2), (3, .int v3), (4, .int x.1), (5, .int x.2)] [] (r7 x)) : zCo l (e + 1) 0 0 iX5_nextToAsk 95 [(0, .ref v0), (1, .ref v1), (2, .ref v2), (3, .int v3), (4, .int v4), (5, .int v5)] [] (X5_nextToAsk_J95 r7 v0 v1 v2 v3 v4 v5) := by
  unfold X5_nextToAsk_J95
  refine zco_p tkX5_nextToAsk 52 2 (pc' := 7) (L' := [(5, .int (v5 + 1)), (0, .ref v0), (1, .ref v1), (2, .ref v2), (3, .int v3), (4, .int v4)]) (S' := []) rfl ?_
  exact zco_sub [1, 2, 3, 4, 5, 0] rfl (hr7 (v4, v5 + 1))
def X5_nextToAsk_J91 (r7 : Int32 × Int32 → zM) (v0 : Nat) (v1 : Nat) (v2 : Nat) (v3 : Int32) (v5 : Int32) : zM := X5_nextToAsk_J95 r7 v0 v1 v2 v3 v5 v5
set_option maxHeartbeats 2000000 in
set_option maxRecDepth 20000 in
theorem coX5_nextToAsk_J91 (l : Launch) (e : Nat) (he : 2 ≤ e) (v0 : Nat) (v1 : Nat) (v2 : Nat) (v3 : Int32) (v5 : Int32) (r7 : Int32 × Int32 → zM) (hr7 : ∀ x : Int32 × Int32, zCo l (e + 1) 0 0 iX5_nextToAsk 7 [(0, .ref v0), (1, .ref v1), (2, .ref v2), (3, .int v3), (4, .int x.1), (5, .int x.2)] [] (r7 x)) : zCo l (e + 1) 0 0 iX5_nextToAsk 91 [(0, .ref v0), (1, .ref v1), (2, .ref v2), (3, .int v3), (5, .int v5)] [] (X5_nextToAsk_J91 r7 v0 v1 v2 v3 v5) := by
  unfold X5_nextToAsk_J91
  refine zco_p tkX5_nextToAsk 50 2 (pc' := 95) (L' := [(4, .int v5), (0, .ref v0), (1, .ref v1), (2, .ref v2), (3, .int v3), (5, .int v5)]) (S' := []) rfl ?_
  exact zco_sub [1, 2, 3, 4, 0, 5] rfl (coX5_nextToAsk_J95 l e he v0 v1 v2 v3 v5 v5 r7 hr7)
def X5_nextToAsk_J53 (r7 : Int32 × Int32 → zM) (v0 : Nat) (v1 : Nat) (v2 : Nat) (v3 : Int32) (v4 : Int32) (v5 : Int32) (s0 : Int32) : zM := z_if (s0 = 0) (X5_nextToAsk_J95 r7 v0 v1 v2 v3 v4 v5)
   (z_if (v4 = ((-1))) (X5_nextToAsk_J91 r7 v0 v1 v2 v3 v5)
   (z_gr 8 6 v2 fun x1 => z_ci (X11_cell v3 v5) fun y2 => z_la 20 x1 y2 fun x3 => z_gr 8 6 v2 fun x4 => z_ci (X11_cell v3 v4) fun y5 => z_la 20 x4 y5 fun x6 => z_if (x3 ≤ x6) (X5_nextToAsk_J95 r7 v0 v1 v2 v3 v4 v5)
   (X5_nextToAsk_J91 r7 v0 v1 v2 v3 v5)))
set_option maxHeartbeats 2000000 in
set_option maxRecDepth 20000 in
theorem coX5_nextToAsk_J53 (l : Launch) (e : Nat) (he : 2 ≤ e) (v0 : Nat) (v1 : Nat) (v2 : Nat) (v3 : Int32) (v4 : Int32) (v5 : Int32) (r7 : Int32 × Int32 → zM) (hr7 : ∀ x : Int32 × Int32, zCo l (e + 1) 0 0 iX5_nextToAsk 7 [(0, .ref v0), (1, .ref v1), (2, .ref v2), (3, .int v3), (4, .int x.1), (5, .int x.2)] [] (r7 x)) (s0 : Int32) : zCo l (e + 1) 0 0 iX5_nextToAsk 53 [(0, .ref v0), (1, .ref v1), (2, .ref v2), (3, .int v3), (4, .int v4), (5, .int v5)] [.int s0] (X5_nextToAsk_J53 r7 v0 v1 v2 v3 v4 v5 s0) := by
  unfold X5_nextToAsk_J53
  refine zco_p tkX5_nextToAsk 31 2 (pc' := 57) (L' := [(6, .int s0), (0, .ref v0), (1, .ref v1), (2, .ref v2), (3, .int v3), (4, .int v4), (5, .int v5)]) (S' := [.int s0]) rfl ?_
  refine zco_if_eq (tgt := 95) (zdk (cc := cX5_nextToAsk) (q := (57, .ifCond .eq 38, 3)) tkX5_nextToAsk 33 rfl) rfl ?_ ?_
  · exact zco_sub [1, 2, 3, 4, 5, 6] rfl (coX5_nextToAsk_J95 l e he v0 v1 v2 v3 v4 v5 r7 hr7)
  · refine zco_p tkX5_nextToAsk 34 2 (pc' := 63) (L' := [(6, .int s0), (0, .ref v0), (1, .ref v1), (2, .ref v2), (3, .int v3), (4, .int v4), (5, .int v5)]) (S' := [.int ((-1)), .int v4]) rfl ?_
    refine zco_icmp_eq (tgt := 91) (zdk (cc := cX5_nextToAsk) (q := (63, .if_icmp .eq 28, 3)) tkX5_nextToAsk 36 rfl) rfl ?_ ?_
    · exact zco_sub [1, 2, 3, 4, 6] rfl (coX5_nextToAsk_J91 l e he v0 v1 v2 v3 v5 r7 hr7)
    · refine zco_p tkX5_nextToAsk 37 1 (pc' := 67) (L' := [(6, .int s0), (0, .ref v0), (1, .ref v1), (2, .ref v2), (3, .int v3), (4, .int v4), (5, .int v5)]) (S' := [.ref v2]) rfl ?_
      refine zco_gr fl_5_53 rfl (zdk (cc := cX5_nextToAsk) (q := (67, .getfield 53, 3)) tkX5_nextToAsk 38 rfl) (fun x1 => ?_)
      refine zco_p tkX5_nextToAsk 39 2 (pc' := 73) (L' := [(6, .int s0), (0, .ref v0), (1, .ref v1), (2, .ref v2), (3, .int v3), (4, .int v4), (5, .int v5)]) (S' := [.int v5, .int v3, .ref x1]) rfl ?_
      refine zco_Ni (rc := 0) (rs := 0) (mc := 0) (ms := 0) (As := [.int v3, .int v5]) (S := [.ref x1]) vmX11_cell (mtX11_cell l e (by omega) v3 v5) (host := "ClothWedding") (by decide +kernel) rfl rfl (Nat.le_of_ble_eq_true rfl) (zdk (cc := cX5_nextToAsk) (q := (73, .invokestatic 58, 3)) tkX5_nextToAsk 41 rfl) (fun y2 => ?_)
      refine zco_iaload (zdk (cc := cX5_nextToAsk) (q := (76, .iaload, 1)) tkX5_nextToAsk 42 rfl) (fun x3 => ?_)
      refine zco_p tkX5_nextToAsk 43 1 (pc' := 78) (L' := [(6, .int s0), (0, .ref v0), (1, .ref v1), (2, .ref v2), (3, .int v3), (4, .int v4), (5, .int v5)]) (S' := [.ref v2, .int x3]) rfl ?_
      refine zco_gr fl_5_53 rfl (zdk (cc := cX5_nextToAsk) (q := (78, .getfield 53, 3)) tkX5_nextToAsk 44 rfl) (fun x4 => ?_)
      refine zco_p tkX5_nextToAsk 45 2 (pc' := 84) (L' := [(6, .int s0), (0, .ref v0), (1, .ref v1), (2, .ref v2), (3, .int v3), (4, .int v4), (5, .int v5)]) (S' := [.int v4, .int v3, .ref x4, .int x3]) rfl ?_
      refine zco_Ni (rc := 0) (rs := 0) (mc := 0) (ms := 0) (As := [.int v3, .int v4]) (S := [.ref x4, .int x3]) vmX11_cell (mtX11_cell l e (by omega) v3 v4) (host := "ClothWedding") (by decide +kernel) rfl rfl (Nat.le_of_ble_eq_true rfl) (zdk (cc := cX5_nextToAsk) (q := (84, .invokestatic 58, 3)) tkX5_nextToAsk 47 rfl) (fun y5 => ?_)
      refine zco_iaload (zdk (cc := cX5_nextToAsk) (q := (87, .iaload, 1)) tkX5_nextToAsk 48 rfl) (fun x6 => ?_)
      refine zco_icmp_le (tgt := 95) (zdk (cc := cX5_nextToAsk) (q := (88, .if_icmp .le 7, 3)) tkX5_nextToAsk 49 rfl) rfl ?_ ?_
      · exact zco_sub [1, 2, 3, 4, 5, 6] rfl (coX5_nextToAsk_J95 l e he v0 v1 v2 v3 v4 v5 r7 hr7)
      · exact zco_sub [1, 2, 3, 4, 6] rfl (coX5_nextToAsk_J91 l e he v0 v1 v2 v3 v5 r7 hr7)
def X5_nextToAsk_J52 (r7 : Int32 × Int32 → zM) (v0 : Nat) (v1 : Nat) (v2 : Nat) (v3 : Int32) (v4 : Int32) (v5 : Int32) : zM := X5_nextToAsk_J53 r7 v0 v1 v2 v3 v4 v5 0
set_option maxHeartbeats 2000000 in
set_option maxRecDepth 20000 in
theorem coX5_nextToAsk_J52 (l : Launch) (e : Nat) (he : 2 ≤ e) (v0 : Nat) (v1 : Nat) (v2 : Nat) (v3 : Int32) (v4 : Int32) (v5 : Int32) (r7 : Int32 × Int32 → zM) (hr7 : ∀ x : Int32 × Int32, zCo l (e + 1) 0 0 iX5_nextToAsk 7 [(0, .ref v0), (1, .ref v1), (2, .ref v2), (3, .int v3), (4, .int x.1), (5, .int x.2)] [] (r7 x)) : zCo l (e + 1) 0 0 iX5_nextToAsk 52 [(0, .ref v0), (1, .ref v1), (2, .ref v2), (3, .int v3), (4, .int v4), (5, .int v5)] [] (X5_nextToAsk_J52 r7 v0 v1 v2 v3 v4 v5) := by
  unfold X5_nextToAsk_J52
  refine zco_p tkX5_nextToAsk 30 1 (pc' := 53) (L' := [(0, .ref v0), (1, .ref v1), (2, .ref v2), (3, .int v3), (4, .int v4), (5, .int v5)]) (S' := [.int 0]) rfl ?_
  exact zco_sub [0, 1, 2, 3, 4, 5] rfl (coX5_nextToAsk_J53 l e he v0 v1 v2 v3 v4 v5 r7 hr7 0)
def X5_nextToAsk_B7 (v0 : Nat) (v1 : Nat) (v2 : Nat) (v3 : Int32) (r7 : Int32 × Int32 → zM) (v4 : Int32) (v5 : Int32) : zM := z_gr 1 0 v1 fun x1 => z_la 20 x1 1 fun x2 => z_if ((6 + x2) ≤ v5) (z_ret (some (.int v4)))
   (z_gr 5 3 v0 fun x3 => z_la 20 x3 v3 fun x4 => z_if (((x4 >>> ((v5 - 6) &&& 31)) &&& 1) = 0) (z_rc 1 v1 (z_ci (X1_areKin v1 v3 v5) fun y5 => z_if (y5 = 0) (X5_nextToAsk_J53 r7 v0 v1 v2 v3 v4 v5 1)
   (X5_nextToAsk_J52 r7 v0 v1 v2 v3 v4 v5)))
   (X5_nextToAsk_J52 r7 v0 v1 v2 v3 v4 v5))
set_option maxHeartbeats 2000000 in
set_option maxRecDepth 20000 in
theorem coX5_nextToAsk_B7 (l : Launch) (e : Nat) (he : 2 ≤ e) (v0 : Nat) (v1 : Nat) (v2 : Nat) (v3 : Int32) (r7 : Int32 × Int32 → zM) (hr7 : ∀ x : Int32 × Int32, zCo l (e + 1) 0 0 iX5_nextToAsk 7 [(0, .ref v0), (1, .ref v1), (2, .ref v2), (3, .int v3), (4, .int x.1), (5, .int x.2)] [] (r7 x)) (v4 : Int32) (v5 : Int32) : zCo l (e + 1) 0 0 iX5_nextToAsk 7 [(0, .ref v0), (1, .ref v1), (2, .ref v2), (3, .int v3), (4, .int v4), (5, .int v5)] [] (X5_nextToAsk_B7 v0 v1 v2 v3 r7 v4 v5) := by
  unfold X5_nextToAsk_B7
  refine zco_p tkX5_nextToAsk 4 3 (pc' := 12) (L' := [(0, .ref v0), (1, .ref v1), (2, .ref v2), (3, .int v3), (4, .int v4), (5, .int v5)]) (S' := [.ref v1, .int 6, .int v5]) rfl ?_
  refine zco_gr fl_5_30 rfl (zdk (cc := cX5_nextToAsk) (q := (12, .getfield 30, 3)) tkX5_nextToAsk 7 rfl) (fun x1 => ?_)
  refine zco_p tkX5_nextToAsk 8 1 (pc' := 16) (L' := [(0, .ref v0), (1, .ref v1), (2, .ref v2), (3, .int v3), (4, .int v4), (5, .int v5)]) (S' := [.int 1, .ref x1, .int 6, .int v5]) rfl ?_
  refine zco_iaload (zdk (cc := cX5_nextToAsk) (q := (16, .iaload, 1)) tkX5_nextToAsk 9 rfl) (fun x2 => ?_)
  refine zco_p tkX5_nextToAsk 10 1 (pc' := 18) (L' := [(0, .ref v0), (1, .ref v1), (2, .ref v2), (3, .int v3), (4, .int v4), (5, .int v5)]) (S' := [.int (6 + x2), .int v5]) rfl ?_
  refine zco_icmp_ge (tgt := 101) (zdk (cc := cX5_nextToAsk) (q := (18, .if_icmp .ge 83, 3)) tkX5_nextToAsk 11 rfl) rfl ?_ ?_
  · refine zco_p tkX5_nextToAsk 54 1 (pc' := 103) (L' := [(0, .ref v0), (1, .ref v1), (2, .ref v2), (3, .int v3), (4, .int v4), (5, .int v5)]) (S' := [.int v4]) rfl ?_
    exact zco_iret rfl rfl rfl (zdk (cc := cX5_nextToAsk) (q := (103, .ireturn, 1)) tkX5_nextToAsk 55 rfl)
  · refine zco_p tkX5_nextToAsk 12 1 (pc' := 22) (L' := [(0, .ref v0), (1, .ref v1), (2, .ref v2), (3, .int v3), (4, .int v4), (5, .int v5)]) (S' := [.ref v0]) rfl ?_
    refine zco_gr fl_5_21 rfl (zdk (cc := cX5_nextToAsk) (q := (22, .getfield 21, 3)) tkX5_nextToAsk 13 rfl) (fun x3 => ?_)
    refine zco_p tkX5_nextToAsk 14 1 (pc' := 26) (L' := [(0, .ref v0), (1, .ref v1), (2, .ref v2), (3, .int v3), (4, .int v4), (5, .int v5)]) (S' := [.int v3, .ref x3]) rfl ?_
    refine zco_iaload (zdk (cc := cX5_nextToAsk) (q := (26, .iaload, 1)) tkX5_nextToAsk 15 rfl) (fun x4 => ?_)
    refine zco_p tkX5_nextToAsk 16 6 (pc' := 35) (L' := [(0, .ref v0), (1, .ref v1), (2, .ref v2), (3, .int v3), (4, .int v4), (5, .int v5)]) (S' := [.int ((x4 >>> ((v5 - 6) &&& 31)) &&& 1)]) rfl ?_
    refine zco_if_ne (tgt := 52) (zdk (cc := cX5_nextToAsk) (q := (35, .ifCond .ne 17, 3)) tkX5_nextToAsk 22 rfl) rfl ?_ ?_
    · exact zco_sub [0, 1, 2, 3, 4, 5] rfl (coX5_nextToAsk_J52 l e he v0 v1 v2 v3 v4 v5 r7 hr7)
    · refine zco_p tkX5_nextToAsk 23 3 (pc' := 42) (L' := [(0, .ref v0), (1, .ref v1), (2, .ref v2), (3, .int v3), (4, .int v4), (5, .int v5)]) (S' := [.int v5, .int v3, .ref v1]) rfl ?_
      refine zco_Vi (rc := 0) (rs := 0) (mc := 0) (ms := 0) (As := [.int v3, .int v5]) (S := []) vmX1_areKin (mtX1_areKin l e (by omega) v1 v3 v5) q_1092 rfl rfl (Nat.le_of_ble_eq_true rfl) (zdk (cc := cX5_nextToAsk) (q := (42, .invokevirtual 49, 3)) tkX5_nextToAsk 26 rfl) (fun y5 => ?_)
      refine zco_if_ne (tgt := 52) (zdk (cc := cX5_nextToAsk) (q := (45, .ifCond .ne 7, 3)) tkX5_nextToAsk 27 rfl) rfl ?_ ?_
      · exact zco_sub [0, 1, 2, 3, 4, 5] rfl (coX5_nextToAsk_J52 l e he v0 v1 v2 v3 v4 v5 r7 hr7)
      · refine zco_p tkX5_nextToAsk 28 2 (pc' := 53) (L' := [(0, .ref v0), (1, .ref v1), (2, .ref v2), (3, .int v3), (4, .int v4), (5, .int v5)]) (S' := [.int 1]) rfl ?_
        exact zco_sub [0, 1, 2, 3, 4, 5] rfl (coX5_nextToAsk_J53 l e he v0 v1 v2 v3 v4 v5 r7 hr7 1)
def X5_nextToAsk (v0 : Nat) (v1 : Nat) (v2 : Nat) (v3 : Int32) : zM := z_fix (fun r x => X5_nextToAsk_B7 v0 v1 v2 v3 r x.1 x.2) zFU ((-1), 6)
set_option maxHeartbeats 2000000 in
set_option maxRecDepth 20000 in
theorem coX5_nextToAsk (l : Launch) (e : Nat) (he : 2 ≤ e) (v0 : Nat) (v1 : Nat) (v2 : Nat) (v3 : Int32) : zCo l (e + 1) 0 0 iX5_nextToAsk 0 [(0, .ref v0), (1, .ref v1), (2, .ref v2), (3, .int v3)] [] (X5_nextToAsk v0 v1 v2 v3) := by
  unfold X5_nextToAsk
  refine zco_p tkX5_nextToAsk 0 4 (pc' := 7) (L' := [(5, .int 6), (4, .int ((-1))), (0, .ref v0), (1, .ref v1), (2, .ref v2), (3, .int v3)]) (S' := []) rfl ?_
  exact zco_sub [2, 3, 4, 5, 1, 0] rfl (zco_fix (Lf := fun x : Int32 × Int32 => [(0, .ref v0), (1, .ref v1), (2, .ref v2), (3, .int v3), (4, .int x.1), (5, .int x.2)]) (Sf := fun _ => []) (fun r hr x => coX5_nextToAsk_B7 l e he v0 v1 v2 v3 r hr x.1 x.2) zFU ((-1), 6))
theorem mtX5_nextToAsk (l : Launch) (d : Nat) (hd : 3 ≤ d) (v0 : Nat) (v1 : Nat) (v2 : Nat) (v3 : Int32) : zMet l d 0 0 yX5_nextToAsk cX5_nextToAsk 7 (Option.some .int) [.ref v0, .ref v1, .ref v2, .int v3] (X5_nextToAsk v0 v1 v2 v3) := by
  obtain ⟨e, rfl⟩ : ∃ e, d = e + 1 := ⟨d - 1, by omega⟩
  exact zmet_of (own := RX5) (ini := false) (by decide +kernel) rfl (fun _ => by contradiction) (Nat.le_of_ble_eq_true rfl) (coX5_nextToAsk l e (by omega) v0 v1 v2 v3)
abbrev iX5_findSteady : zI := (RX5, cX5_findSteady, 7, (Option.none : Option FieldType), false)
def tX5_findSteady : List (Nat × Instr × Nat) := [(0, .aload_n 0, 1), (1, .getfield 9, 3), (4, .iconst (-1), 1), (5, .invokestatic 24, 3), (8, .aload_n 0, 1), (9, .getfield 21, 3), (12, .iconst 0, 1), (13, .invokestatic 24, 3), (16, .iconst 0, 1), (17, .istore_n 3, 1), (18, .iload_n 3, 1), (19, .bipush 36, 2), (21, .if_icmp .gt 170, 3), (24, .iconst (-1), 1), (25, .istore 4, 2), (27, .iconst (-1), 1), (28, .istore 5, 2), (30, .iconst 0, 1), (31, .istore 6, 2), (33, .iload 6, 2), (35, .aload_n 1, 1), (36, .getfield 30, 3), (39, .iconst 0, 1), (40, .iaload, 1), (41, .if_icmp .ge 44, 3), (44, .iload 5, 2), (46, .iconst (-1), 1), (47, .if_icmp .ne 38, 3), (50, .iload 6, 2), (52, .istore 4, 2), (54, .aload_n 0, 1), (55, .getfield 9, 3), (58, .iload 6, 2), (60, .iaload, 1), (61, .iconst (-1), 1), (62, .if_icmp .ne 14, 3), (65, .aload_n 0, 1), (66, .aload_n 1, 1), (67, .aload_n 2, 1), (68, .iload 6, 2), (70, .invokevirtual 61, 3), (73, .goto 4, 3), (76, .iconst (-1), 1), (77, .istore 5, 2), (79, .iinc 6 1, 3), (82, .goto (-49), 3), (85, .iload 5, 2), (87, .iconst (-1), 1), (88, .if_icmp .ne 6, 3), (91, .goto 100, 3), (94, .aload_n 0, 1), (95, .getfield 21, 3), (98, .iload 4, 2), (100, .dup2, 1), (101, .iaload, 1), (102, .iconst 1, 1), (103, .iload 5, 2), (105, .bipush 6, 2), (107, .isub, 1), (108, .ishl, 1), (109, .ior, 1), (110, .iastore, 1), (111, .aload_n 0, 1), (112, .getfield 9, 3), (115, .iload 5, 2), (117, .iaload, 1), (118, .istore 6, 2), (120, .iload 6, 2), (122, .iconst (-1), 1), (123, .if_icmp .eq 30, 3), (126, .aload_n 2, 1), (127, .getfield 53, 3), (130, .iload 5, 2), (132, .iload 4, 2), (134, .invokestatic 58, 3), (137, .iaload, 1), (138, .aload_n 2, 1), (139, .getfield 53, 3), (142, .iload 5, 2), (144, .iload 6, 2), (146, .invokestatic 58, 3), (149, .iaload, 1), (150, .if_icmp .le 35, 3), (153, .aload_n 0, 1), (154, .getfield 9, 3), (157, .iload 4, 2), (159, .iload 5, 2), (161, .iastore, 1), (162, .aload_n 0, 1), (163, .getfield 9, 3), (166, .iload 5, 2), (168, .iload 4, 2), (170, .iastore, 1), (171, .iload 6, 2), (173, .iconst (-1), 1), (174, .if_icmp .eq 11, 3), (177, .aload_n 0, 1), (178, .getfield 9, 3), (181, .iload 6, 2), (183, .iconst (-1), 1), (184, .iastore, 1), (185, .iinc 3 1, 3), (188, .goto (-170), 3), (191, .return_, 1)]
set_option maxRecDepth 100000 in
theorem tkX5_findSteady : ∀ q ∈ tX5_findSteady, decode cX5_findSteady q.1 = .ok q.2 := by decide +kernel
theorem vmX5_findSteady : zVM yX5_findSteady cX5_findSteady 7 (Option.none : Option FieldType) 2 5 := ⟨kX5_findSteady, q_1104, q_1105, q_157, ⟨_, rfl, rfl⟩, by decide +kernel, by decide⟩
def X5_findSteady_J185 (r18 : Int32 → zM) (v0 : Nat) (v1 : Nat) (v2 : Nat) (v3 : Int32) : zM := r18 (v3 + 1)
set_option maxHeartbeats 2000000 in
set_option maxRecDepth 20000 in
theorem coX5_findSteady_J185 (l : Launch) (e : Nat) (he : 3 ≤ e) (v0 : Nat) (v1 : Nat) (v2 : Nat) (v3 : Int32) (r18 : Int32 → zM) (hr18 : ∀ x : Int32, zCo l (e + 1) 0 0 iX5_findSteady 18 [(0, .ref v0), (1, .ref v1), (2, .ref v2), (3, .int x)] [] (r18 x)) : zCo l (e + 1) 0 0 iX5_findSteady 185 [(0, .ref v0), (1, .ref v1), (2, .ref v2), (3, .int v3)] [] (X5_findSteady_J185 r18 v0 v1 v2 v3) := by
  unfold X5_findSteady_J185
  refine zco_p tkX5_findSteady 101 2 (pc' := 18) (L' := [(3, .int (v3 + 1)), (0, .ref v0), (1, .ref v1), (2, .ref v2)]) (S' := []) rfl ?_
  exact zco_sub [1, 2, 3, 0] rfl (hr18 (v3 + 1))
def X5_findSteady_J153 (r18 : Int32 → zM) (v0 : Nat) (v1 : Nat) (v2 : Nat) (v3 : Int32) (v4 : Int32) (v5 : Int32) (v6 : Int32) : zM := z_gr 5 0 v0 fun x1 => z_sa 20 x1 v4 v5 (z_gr 5 0 v0 fun x2 => z_sa 20 x2 v5 v4 (z_if (v6 = ((-1))) (X5_findSteady_J185 r18 v0 v1 v2 v3)
   (z_gr 5 0 v0 fun x3 => z_sa 20 x3 v6 ((-1)) (X5_findSteady_J185 r18 v0 v1 v2 v3))))
set_option maxHeartbeats 2000000 in
set_option maxRecDepth 20000 in
theorem coX5_findSteady_J153 (l : Launch) (e : Nat) (he : 3 ≤ e) (v0 : Nat) (v1 : Nat) (v2 : Nat) (v3 : Int32) (v4 : Int32) (v5 : Int32) (v6 : Int32) (r18 : Int32 → zM) (hr18 : ∀ x : Int32, zCo l (e + 1) 0 0 iX5_findSteady 18 [(0, .ref v0), (1, .ref v1), (2, .ref v2), (3, .int x)] [] (r18 x)) : zCo l (e + 1) 0 0 iX5_findSteady 153 [(0, .ref v0), (1, .ref v1), (2, .ref v2), (3, .int v3), (4, .int v4), (5, .int v5), (6, .int v6)] [] (X5_findSteady_J153 r18 v0 v1 v2 v3 v4 v5 v6) := by
  unfold X5_findSteady_J153
  refine zco_p tkX5_findSteady 83 1 (pc' := 154) (L' := [(0, .ref v0), (1, .ref v1), (2, .ref v2), (3, .int v3), (4, .int v4), (5, .int v5), (6, .int v6)]) (S' := [.ref v0]) rfl ?_
  refine zco_gr fl_5_9 rfl (zdk (cc := cX5_findSteady) (q := (154, .getfield 9, 3)) tkX5_findSteady 84 rfl) (fun x1 => ?_)
  refine zco_p tkX5_findSteady 85 2 (pc' := 161) (L' := [(0, .ref v0), (1, .ref v1), (2, .ref v2), (3, .int v3), (4, .int v4), (5, .int v5), (6, .int v6)]) (S' := [.int v5, .int v4, .ref x1]) rfl ?_
  refine zco_iastore (zdk (cc := cX5_findSteady) (q := (161, .iastore, 1)) tkX5_findSteady 87 rfl) ?_
  refine zco_p tkX5_findSteady 88 1 (pc' := 163) (L' := [(0, .ref v0), (1, .ref v1), (2, .ref v2), (3, .int v3), (4, .int v4), (5, .int v5), (6, .int v6)]) (S' := [.ref v0]) rfl ?_
  refine zco_gr fl_5_9 rfl (zdk (cc := cX5_findSteady) (q := (163, .getfield 9, 3)) tkX5_findSteady 89 rfl) (fun x2 => ?_)
  refine zco_p tkX5_findSteady 90 2 (pc' := 170) (L' := [(0, .ref v0), (1, .ref v1), (2, .ref v2), (3, .int v3), (4, .int v4), (5, .int v5), (6, .int v6)]) (S' := [.int v4, .int v5, .ref x2]) rfl ?_
  refine zco_iastore (zdk (cc := cX5_findSteady) (q := (170, .iastore, 1)) tkX5_findSteady 92 rfl) ?_
  refine zco_p tkX5_findSteady 93 2 (pc' := 174) (L' := [(0, .ref v0), (1, .ref v1), (2, .ref v2), (3, .int v3), (4, .int v4), (5, .int v5), (6, .int v6)]) (S' := [.int ((-1)), .int v6]) rfl ?_
  refine zco_icmp_eq (tgt := 185) (zdk (cc := cX5_findSteady) (q := (174, .if_icmp .eq 11, 3)) tkX5_findSteady 95 rfl) rfl ?_ ?_
  · exact zco_sub [0, 1, 2, 3] rfl (coX5_findSteady_J185 l e he v0 v1 v2 v3 r18 hr18)
  · refine zco_p tkX5_findSteady 96 1 (pc' := 178) (L' := [(0, .ref v0), (1, .ref v1), (2, .ref v2), (3, .int v3), (4, .int v4), (5, .int v5), (6, .int v6)]) (S' := [.ref v0]) rfl ?_
    refine zco_gr fl_5_9 rfl (zdk (cc := cX5_findSteady) (q := (178, .getfield 9, 3)) tkX5_findSteady 97 rfl) (fun x3 => ?_)
    refine zco_p tkX5_findSteady 98 2 (pc' := 184) (L' := [(0, .ref v0), (1, .ref v1), (2, .ref v2), (3, .int v3), (4, .int v4), (5, .int v5), (6, .int v6)]) (S' := [.int ((-1)), .int v6, .ref x3]) rfl ?_
    refine zco_iastore (zdk (cc := cX5_findSteady) (q := (184, .iastore, 1)) tkX5_findSteady 100 rfl) ?_
    exact zco_sub [0, 1, 2, 3] rfl (coX5_findSteady_J185 l e he v0 v1 v2 v3 r18 hr18)
def X5_findSteady_J91  : zM := z_ret none
set_option maxHeartbeats 2000000 in
set_option maxRecDepth 20000 in
theorem coX5_findSteady_J91 (l : Launch) (e : Nat) (he : 3 ≤ e)  : zCo l (e + 1) 0 0 iX5_findSteady 91 [] [] (X5_findSteady_J91 ) := by
  unfold X5_findSteady_J91
  refine zco_p tkX5_findSteady 49 1 (pc' := 191) (L' := []) (S' := []) rfl ?_
  exact zco_vret rfl rfl rfl (zdk (cc := cX5_findSteady) (q := (191, .return_, 1)) tkX5_findSteady 103 rfl)
def X5_findSteady_J85 (r18 : Int32 → zM) (v0 : Nat) (v1 : Nat) (v2 : Nat) (v3 : Int32) (v4 : Int32) (v5 : Int32) : zM := z_if (v5 = ((-1))) (X5_findSteady_J91)
   (z_gr 5 3 v0 fun x1 => z_la 20 x1 v4 fun x2 => z_sa 20 x1 v4 (x2 ||| (1 <<< ((v5 - 6) &&& 31))) (z_gr 5 0 v0 fun x3 => z_la 20 x3 v5 fun x4 => z_if (x4 = ((-1))) (X5_findSteady_J153 r18 v0 v1 v2 v3 v4 v5 x4)
   (z_gr 8 6 v2 fun x5 => z_ci (X11_cell v5 v4) fun y6 => z_la 20 x5 y6 fun x7 => z_gr 8 6 v2 fun x8 => z_ci (X11_cell v5 x4) fun y9 => z_la 20 x8 y9 fun x10 => z_if (x7 ≤ x10) (X5_findSteady_J185 r18 v0 v1 v2 v3)
   (X5_findSteady_J153 r18 v0 v1 v2 v3 v4 v5 x4))))
set_option maxHeartbeats 2000000 in
set_option maxRecDepth 20000 in
theorem coX5_findSteady_J85 (l : Launch) (e : Nat) (he : 3 ≤ e) (v0 : Nat) (v1 : Nat) (v2 : Nat) (v3 : Int32) (v4 : Int32) (v5 : Int32) (r18 : Int32 → zM) (hr18 : ∀ x : Int32, zCo l (e + 1) 0 0 iX5_findSteady 18 [(0, .ref v0), (1, .ref v1), (2, .ref v2), (3, .int x)] [] (r18 x)) : zCo l (e + 1) 0 0 iX5_findSteady 85 [(0, .ref v0), (1, .ref v1), (2, .ref v2), (3, .int v3), (4, .int v4), (5, .int v5)] [] (X5_findSteady_J85 r18 v0 v1 v2 v3 v4 v5) := by
  unfold X5_findSteady_J85
  refine zco_p tkX5_findSteady 46 2 (pc' := 88) (L' := [(0, .ref v0), (1, .ref v1), (2, .ref v2), (3, .int v3), (4, .int v4), (5, .int v5)]) (S' := [.int ((-1)), .int v5]) rfl ?_
  refine zco_icmp_ne (tgt := 94) (zdk (cc := cX5_findSteady) (q := (88, .if_icmp .ne 6, 3)) tkX5_findSteady 48 rfl) rfl ?_ ?_
  · refine zco_p tkX5_findSteady 50 1 (pc' := 95) (L' := [(0, .ref v0), (1, .ref v1), (2, .ref v2), (3, .int v3), (4, .int v4), (5, .int v5)]) (S' := [.ref v0]) rfl ?_
    refine zco_gr fl_5_21 rfl (zdk (cc := cX5_findSteady) (q := (95, .getfield 21, 3)) tkX5_findSteady 51 rfl) (fun x1 => ?_)
    refine zco_p tkX5_findSteady 52 2 (pc' := 101) (L' := [(0, .ref v0), (1, .ref v1), (2, .ref v2), (3, .int v3), (4, .int v4), (5, .int v5)]) (S' := [.int v4, .ref x1, .int v4, .ref x1]) rfl ?_
    refine zco_iaload (zdk (cc := cX5_findSteady) (q := (101, .iaload, 1)) tkX5_findSteady 54 rfl) (fun x2 => ?_)
    refine zco_p tkX5_findSteady 55 6 (pc' := 110) (L' := [(0, .ref v0), (1, .ref v1), (2, .ref v2), (3, .int v3), (4, .int v4), (5, .int v5)]) (S' := [.int (x2 ||| (1 <<< ((v5 - 6) &&& 31))), .int v4, .ref x1]) rfl ?_
    refine zco_iastore (zdk (cc := cX5_findSteady) (q := (110, .iastore, 1)) tkX5_findSteady 61 rfl) ?_
    refine zco_p tkX5_findSteady 62 1 (pc' := 112) (L' := [(0, .ref v0), (1, .ref v1), (2, .ref v2), (3, .int v3), (4, .int v4), (5, .int v5)]) (S' := [.ref v0]) rfl ?_
    refine zco_gr fl_5_9 rfl (zdk (cc := cX5_findSteady) (q := (112, .getfield 9, 3)) tkX5_findSteady 63 rfl) (fun x3 => ?_)
    refine zco_p tkX5_findSteady 64 1 (pc' := 117) (L' := [(0, .ref v0), (1, .ref v1), (2, .ref v2), (3, .int v3), (4, .int v4), (5, .int v5)]) (S' := [.int v5, .ref x3]) rfl ?_
    refine zco_iaload (zdk (cc := cX5_findSteady) (q := (117, .iaload, 1)) tkX5_findSteady 65 rfl) (fun x4 => ?_)
    refine zco_p tkX5_findSteady 66 3 (pc' := 123) (L' := [(6, .int x4), (0, .ref v0), (1, .ref v1), (2, .ref v2), (3, .int v3), (4, .int v4), (5, .int v5)]) (S' := [.int ((-1)), .int x4]) rfl ?_
    refine zco_icmp_eq (tgt := 153) (zdk (cc := cX5_findSteady) (q := (123, .if_icmp .eq 30, 3)) tkX5_findSteady 69 rfl) rfl ?_ ?_
    · exact zco_sub [1, 2, 3, 4, 5, 6, 0] rfl (coX5_findSteady_J153 l e he v0 v1 v2 v3 v4 v5 x4 r18 hr18)
    · refine zco_p tkX5_findSteady 70 1 (pc' := 127) (L' := [(6, .int x4), (0, .ref v0), (1, .ref v1), (2, .ref v2), (3, .int v3), (4, .int v4), (5, .int v5)]) (S' := [.ref v2]) rfl ?_
      refine zco_gr fl_5_53 rfl (zdk (cc := cX5_findSteady) (q := (127, .getfield 53, 3)) tkX5_findSteady 71 rfl) (fun x5 => ?_)
      refine zco_p tkX5_findSteady 72 2 (pc' := 134) (L' := [(6, .int x4), (0, .ref v0), (1, .ref v1), (2, .ref v2), (3, .int v3), (4, .int v4), (5, .int v5)]) (S' := [.int v4, .int v5, .ref x5]) rfl ?_
      refine zco_Ni (rc := 0) (rs := 0) (mc := 0) (ms := 0) (As := [.int v5, .int v4]) (S := [.ref x5]) vmX11_cell (mtX11_cell l e (by omega) v5 v4) (host := "ClothWedding") (by decide +kernel) rfl rfl (Nat.le_of_ble_eq_true rfl) (zdk (cc := cX5_findSteady) (q := (134, .invokestatic 58, 3)) tkX5_findSteady 74 rfl) (fun y6 => ?_)
      refine zco_iaload (zdk (cc := cX5_findSteady) (q := (137, .iaload, 1)) tkX5_findSteady 75 rfl) (fun x7 => ?_)
      refine zco_p tkX5_findSteady 76 1 (pc' := 139) (L' := [(6, .int x4), (0, .ref v0), (1, .ref v1), (2, .ref v2), (3, .int v3), (4, .int v4), (5, .int v5)]) (S' := [.ref v2, .int x7]) rfl ?_
      refine zco_gr fl_5_53 rfl (zdk (cc := cX5_findSteady) (q := (139, .getfield 53, 3)) tkX5_findSteady 77 rfl) (fun x8 => ?_)
      refine zco_p tkX5_findSteady 78 2 (pc' := 146) (L' := [(6, .int x4), (0, .ref v0), (1, .ref v1), (2, .ref v2), (3, .int v3), (4, .int v4), (5, .int v5)]) (S' := [.int x4, .int v5, .ref x8, .int x7]) rfl ?_
      refine zco_Ni (rc := 0) (rs := 0) (mc := 0) (ms := 0) (As := [.int v5, .int x4]) (S := [.ref x8, .int x7]) vmX11_cell (mtX11_cell l e (by omega) v5 x4) (host := "ClothWedding") (by decide +kernel) rfl rfl (Nat.le_of_ble_eq_true rfl) (zdk (cc := cX5_findSteady) (q := (146, .invokestatic 58, 3)) tkX5_findSteady 80 rfl) (fun y9 => ?_)
      refine zco_iaload (zdk (cc := cX5_findSteady) (q := (149, .iaload, 1)) tkX5_findSteady 81 rfl) (fun x10 => ?_)
      refine zco_icmp_le (tgt := 185) (zdk (cc := cX5_findSteady) (q := (150, .if_icmp .le 35, 3)) tkX5_findSteady 82 rfl) rfl ?_ ?_
      · exact zco_sub [1, 2, 3, 4] rfl (coX5_findSteady_J185 l e he v0 v1 v2 v3 r18 hr18)
      · exact zco_sub [1, 2, 3, 4, 5, 6, 0] rfl (coX5_findSteady_J153 l e he v0 v1 v2 v3 v4 v5 x4 r18 hr18)
  · exact zco_sub [] rfl (coX5_findSteady_J91 l e he )
def X5_findSteady_J77 (r18 : Int32 → zM) (r33 : Int32 × Int32 × Int32 → zM) (v0 : Nat) (v1 : Nat) (v2 : Nat) (v3 : Int32) (v4 : Int32) (v6 : Int32) (s0 : Int32) : zM := r33 (v4, s0, v6 + 1)
set_option maxHeartbeats 2000000 in
set_option maxRecDepth 20000 in
theorem coX5_findSteady_J77 (l : Launch) (e : Nat) (he : 3 ≤ e) (v0 : Nat) (v1 : Nat) (v2 : Nat) (v3 : Int32) (v4 : Int32) (v6 : Int32) (r18 : Int32 → zM) (hr18 : ∀ x : Int32, zCo l (e + 1) 0 0 iX5_findSteady 18 [(0, .ref v0), (1, .ref v1), (2, .ref v2), (3, .int x)] [] (r18 x)) (r33 : Int32 × Int32 × Int32 → zM) (hr33 : ∀ x : Int32 × Int32 × Int32, zCo l (e + 1) 0 0 iX5_findSteady 33 [(0, .ref v0), (1, .ref v1), (2, .ref v2), (3, .int v3), (4, .int x.1), (5, .int x.2.1), (6, .int x.2.2)] [] (r33 x)) (s0 : Int32) : zCo l (e + 1) 0 0 iX5_findSteady 77 [(0, .ref v0), (1, .ref v1), (2, .ref v2), (3, .int v3), (4, .int v4), (6, .int v6)] [.int s0] (X5_findSteady_J77 r18 r33 v0 v1 v2 v3 v4 v6 s0) := by
  unfold X5_findSteady_J77
  refine zco_p tkX5_findSteady 43 3 (pc' := 33) (L' := [(6, .int (v6 + 1)), (5, .int s0), (0, .ref v0), (1, .ref v1), (2, .ref v2), (3, .int v3), (4, .int v4)]) (S' := []) rfl ?_
  exact zco_sub [2, 3, 4, 5, 6, 1, 0] rfl (hr33 (v4, s0, v6 + 1))
def X5_findSteady_B33 (r18 : Int32 → zM) (v0 : Nat) (v1 : Nat) (v2 : Nat) (v3 : Int32) (r33 : Int32 × Int32 × Int32 → zM) (v4 : Int32) (v5 : Int32) (v6 : Int32) : zM := z_gr 1 0 v1 fun x1 => z_la 20 x1 0 fun x2 => z_if (x2 ≤ v6) (X5_findSteady_J85 r18 v0 v1 v2 v3 v4 v5)
   (z_if (v5 = ((-1))) (z_gr 5 0 v0 fun x3 => z_la 20 x3 v6 fun x4 => z_if (x4 = ((-1))) (z_rc 5 v0 (z_ci (X5_nextToAsk v0 v1 v2 v6) fun y5 => X5_findSteady_J77 r18 r33 v0 v1 v2 v3 v6 v6 y5))
   (X5_findSteady_J77 r18 r33 v0 v1 v2 v3 v6 v6 ((-1))))
   (X5_findSteady_J85 r18 v0 v1 v2 v3 v4 v5))
set_option maxHeartbeats 2000000 in
set_option maxRecDepth 20000 in
theorem coX5_findSteady_B33 (l : Launch) (e : Nat) (he : 3 ≤ e) (v0 : Nat) (v1 : Nat) (v2 : Nat) (v3 : Int32) (r18 : Int32 → zM) (hr18 : ∀ x : Int32, zCo l (e + 1) 0 0 iX5_findSteady 18 [(0, .ref v0), (1, .ref v1), (2, .ref v2), (3, .int x)] [] (r18 x)) (r33 : Int32 × Int32 × Int32 → zM) (hr33 : ∀ x : Int32 × Int32 × Int32, zCo l (e + 1) 0 0 iX5_findSteady 33 [(0, .ref v0), (1, .ref v1), (2, .ref v2), (3, .int v3), (4, .int x.1), (5, .int x.2.1), (6, .int x.2.2)] [] (r33 x)) (v4 : Int32) (v5 : Int32) (v6 : Int32) : zCo l (e + 1) 0 0 iX5_findSteady 33 [(0, .ref v0), (1, .ref v1), (2, .ref v2), (3, .int v3), (4, .int v4), (5, .int v5), (6, .int v6)] [] (X5_findSteady_B33 r18 v0 v1 v2 v3 r33 v4 v5 v6) := by
  unfold X5_findSteady_B33
  refine zco_p tkX5_findSteady 19 2 (pc' := 36) (L' := [(0, .ref v0), (1, .ref v1), (2, .ref v2), (3, .int v3), (4, .int v4), (5, .int v5), (6, .int v6)]) (S' := [.ref v1, .int v6]) rfl ?_
  refine zco_gr fl_5_30 rfl (zdk (cc := cX5_findSteady) (q := (36, .getfield 30, 3)) tkX5_findSteady 21 rfl) (fun x1 => ?_)
  refine zco_p tkX5_findSteady 22 1 (pc' := 40) (L' := [(0, .ref v0), (1, .ref v1), (2, .ref v2), (3, .int v3), (4, .int v4), (5, .int v5), (6, .int v6)]) (S' := [.int 0, .ref x1, .int v6]) rfl ?_
  refine zco_iaload (zdk (cc := cX5_findSteady) (q := (40, .iaload, 1)) tkX5_findSteady 23 rfl) (fun x2 => ?_)
  refine zco_icmp_ge (tgt := 85) (zdk (cc := cX5_findSteady) (q := (41, .if_icmp .ge 44, 3)) tkX5_findSteady 24 rfl) rfl ?_ ?_
  · exact zco_sub [0, 1, 2, 3, 4, 5] rfl (coX5_findSteady_J85 l e he v0 v1 v2 v3 v4 v5 r18 hr18)
  · refine zco_p tkX5_findSteady 25 2 (pc' := 47) (L' := [(0, .ref v0), (1, .ref v1), (2, .ref v2), (3, .int v3), (4, .int v4), (5, .int v5), (6, .int v6)]) (S' := [.int ((-1)), .int v5]) rfl ?_
    refine zco_icmp_ne (tgt := 85) (zdk (cc := cX5_findSteady) (q := (47, .if_icmp .ne 38, 3)) tkX5_findSteady 27 rfl) rfl ?_ ?_
    · exact zco_sub [0, 1, 2, 3, 4, 5] rfl (coX5_findSteady_J85 l e he v0 v1 v2 v3 v4 v5 r18 hr18)
    · refine zco_p tkX5_findSteady 28 3 (pc' := 55) (L' := [(4, .int v6), (0, .ref v0), (1, .ref v1), (2, .ref v2), (3, .int v3), (5, .int v5), (6, .int v6)]) (S' := [.ref v0]) rfl ?_
      refine zco_gr fl_5_9 rfl (zdk (cc := cX5_findSteady) (q := (55, .getfield 9, 3)) tkX5_findSteady 31 rfl) (fun x3 => ?_)
      refine zco_p tkX5_findSteady 32 1 (pc' := 60) (L' := [(4, .int v6), (0, .ref v0), (1, .ref v1), (2, .ref v2), (3, .int v3), (5, .int v5), (6, .int v6)]) (S' := [.int v6, .ref x3]) rfl ?_
      refine zco_iaload (zdk (cc := cX5_findSteady) (q := (60, .iaload, 1)) tkX5_findSteady 33 rfl) (fun x4 => ?_)
      refine zco_p tkX5_findSteady 34 1 (pc' := 62) (L' := [(4, .int v6), (0, .ref v0), (1, .ref v1), (2, .ref v2), (3, .int v3), (5, .int v5), (6, .int v6)]) (S' := [.int ((-1)), .int x4]) rfl ?_
      refine zco_icmp_ne (tgt := 76) (zdk (cc := cX5_findSteady) (q := (62, .if_icmp .ne 14, 3)) tkX5_findSteady 35 rfl) rfl ?_ ?_
      · refine zco_p tkX5_findSteady 42 1 (pc' := 77) (L' := [(4, .int v6), (0, .ref v0), (1, .ref v1), (2, .ref v2), (3, .int v3), (5, .int v5), (6, .int v6)]) (S' := [.int ((-1))]) rfl ?_
        exact zco_sub [1, 2, 3, 4, 0, 6] rfl (coX5_findSteady_J77 l e he v0 v1 v2 v3 v6 v6 r18 hr18 r33 hr33 ((-1)))
      · refine zco_p tkX5_findSteady 36 4 (pc' := 70) (L' := [(4, .int v6), (0, .ref v0), (1, .ref v1), (2, .ref v2), (3, .int v3), (5, .int v5), (6, .int v6)]) (S' := [.int v6, .ref v2, .ref v1, .ref v0]) rfl ?_
        refine zco_Vi (rc := 0) (rs := 0) (mc := 0) (ms := 0) (As := [.ref v1, .ref v2, .int v6]) (S := []) vmX5_nextToAsk (mtX5_nextToAsk l e (by omega) v0 v1 v2 v6) q_1107 rfl rfl (Nat.le_of_ble_eq_true rfl) (zdk (cc := cX5_findSteady) (q := (70, .invokevirtual 61, 3)) tkX5_findSteady 40 rfl) (fun y5 => ?_)
        refine zco_p tkX5_findSteady 41 1 (pc' := 77) (L' := [(4, .int v6), (0, .ref v0), (1, .ref v1), (2, .ref v2), (3, .int v3), (5, .int v5), (6, .int v6)]) (S' := [.int y5]) rfl ?_
        exact zco_sub [1, 2, 3, 4, 0, 6] rfl (coX5_findSteady_J77 l e he v0 v1 v2 v3 v6 v6 r18 hr18 r33 hr33 y5)
def X5_findSteady_B18 (v0 : Nat) (v1 : Nat) (v2 : Nat) (r18 : Int32 → zM) (v3 : Int32) : zM := z_if (36 < v3) (z_ret none)
   (z_fix (fun r x => X5_findSteady_B33 r18 v0 v1 v2 v3 r x.1 x.2.1 x.2.2) zFU ((-1), (-1), 0))
set_option maxHeartbeats 2000000 in
set_option maxRecDepth 20000 in
theorem coX5_findSteady_B18 (l : Launch) (e : Nat) (he : 3 ≤ e) (v0 : Nat) (v1 : Nat) (v2 : Nat) (r18 : Int32 → zM) (hr18 : ∀ x : Int32, zCo l (e + 1) 0 0 iX5_findSteady 18 [(0, .ref v0), (1, .ref v1), (2, .ref v2), (3, .int x)] [] (r18 x)) (v3 : Int32) : zCo l (e + 1) 0 0 iX5_findSteady 18 [(0, .ref v0), (1, .ref v1), (2, .ref v2), (3, .int v3)] [] (X5_findSteady_B18 v0 v1 v2 r18 v3) := by
  unfold X5_findSteady_B18
  refine zco_p tkX5_findSteady 10 2 (pc' := 21) (L' := [(0, .ref v0), (1, .ref v1), (2, .ref v2), (3, .int v3)]) (S' := [.int 36, .int v3]) rfl ?_
  refine zco_icmp_gt (tgt := 191) (zdk (cc := cX5_findSteady) (q := (21, .if_icmp .gt 170, 3)) tkX5_findSteady 12 rfl) rfl ?_ ?_
  · exact zco_vret rfl rfl rfl (zdk (cc := cX5_findSteady) (q := (191, .return_, 1)) tkX5_findSteady 103 rfl)
  · refine zco_p tkX5_findSteady 13 6 (pc' := 33) (L' := [(6, .int 0), (5, .int ((-1))), (4, .int ((-1))), (0, .ref v0), (1, .ref v1), (2, .ref v2), (3, .int v3)]) (S' := []) rfl ?_
    exact zco_sub [3, 4, 5, 6, 2, 1, 0] rfl (zco_fix (Lf := fun x : Int32 × Int32 × Int32 => [(0, .ref v0), (1, .ref v1), (2, .ref v2), (3, .int v3), (4, .int x.1), (5, .int x.2.1), (6, .int x.2.2)]) (Sf := fun _ => []) (fun r hr x => coX5_findSteady_B33 l e he v0 v1 v2 v3 r18 hr18 r hr x.1 x.2.1 x.2.2) zFU ((-1), (-1), 0))
def X5_findSteady (v0 : Nat) (v1 : Nat) (v2 : Nat) : zM := z_gr 5 0 v0 fun x1 => z_cv (J7_fill_53178 x1 ((-1))) (z_gr 5 3 v0 fun x2 => z_cv (J7_fill_53178 x2 0) (z_fix (fun r x => X5_findSteady_B18 v0 v1 v2 r x) zFU 0))
set_option maxHeartbeats 2000000 in
set_option maxRecDepth 20000 in
theorem coX5_findSteady (l : Launch) (e : Nat) (he : 3 ≤ e) (v0 : Nat) (v1 : Nat) (v2 : Nat) : zCo l (e + 1) 0 0 iX5_findSteady 0 [(0, .ref v0), (1, .ref v1), (2, .ref v2)] [] (X5_findSteady v0 v1 v2) := by
  unfold X5_findSteady
  refine zco_p tkX5_findSteady 0 1 (pc' := 1) (L' := [(0, .ref v0), (1, .ref v1), (2, .ref v2)]) (S' := [.ref v0]) rfl ?_
  refine zco_gr fl_5_9 rfl (zdk (cc := cX5_findSteady) (q := (1, .getfield 9, 3)) tkX5_findSteady 1 rfl) (fun x1 => ?_)
  refine zco_p tkX5_findSteady 2 1 (pc' := 5) (L' := [(0, .ref v0), (1, .ref v1), (2, .ref v2)]) (S' := [.int ((-1)), .ref x1]) rfl ?_
  refine zco_Sv (rc := 0) (rs := 0) (mc := 0) (ms := 0) (As := [.ref x1, .int ((-1))]) (S := []) vmJ7_fill_53178 (mtJ7_fill_53178 l e (by omega) x1 ((-1))) q_1087 rfl rfl (Nat.le_of_ble_eq_true rfl) (zdk (cc := cX5_findSteady) (q := (5, .invokestatic 24, 3)) tkX5_findSteady 3 rfl) ?_
  refine zco_p tkX5_findSteady 4 1 (pc' := 9) (L' := [(0, .ref v0), (1, .ref v1), (2, .ref v2)]) (S' := [.ref v0]) rfl ?_
  refine zco_gr fl_5_21 rfl (zdk (cc := cX5_findSteady) (q := (9, .getfield 21, 3)) tkX5_findSteady 5 rfl) (fun x2 => ?_)
  refine zco_p tkX5_findSteady 6 1 (pc' := 13) (L' := [(0, .ref v0), (1, .ref v1), (2, .ref v2)]) (S' := [.int 0, .ref x2]) rfl ?_
  refine zco_Sv (rc := 0) (rs := 0) (mc := 0) (ms := 0) (As := [.ref x2, .int 0]) (S := []) vmJ7_fill_53178 (mtJ7_fill_53178 l e (by omega) x2 0) q_1087 rfl rfl (Nat.le_of_ble_eq_true rfl) (zdk (cc := cX5_findSteady) (q := (13, .invokestatic 24, 3)) tkX5_findSteady 7 rfl) ?_
  refine zco_p tkX5_findSteady 8 2 (pc' := 18) (L' := [(3, .int 0), (0, .ref v0), (1, .ref v1), (2, .ref v2)]) (S' := []) rfl ?_
  exact zco_sub [1, 2, 3, 0] rfl (zco_fix (Lf := fun x : Int32 => [(0, .ref v0), (1, .ref v1), (2, .ref v2), (3, .int x)]) (Sf := fun _ => []) (fun r hr x => coX5_findSteady_B18 l e he v0 v1 v2 r hr x) zFU 0)
theorem mtX5_findSteady (l : Launch) (d : Nat) (hd : 4 ≤ d) (v0 : Nat) (v1 : Nat) (v2 : Nat) : zMet l d 0 0 yX5_findSteady cX5_findSteady 7 (Option.none : Option FieldType) [.ref v0, .ref v1, .ref v2] (X5_findSteady v0 v1 v2) := by
  obtain ⟨e, rfl⟩ : ∃ e, d = e + 1 := ⟨d - 1, by omega⟩
  exact zmet_of (own := RX5) (ini := false) (by decide +kernel) rfl (fun _ => by contradiction) (Nat.le_of_ble_eq_true rfl) (coX5_findSteady l e (by omega) v0 v1 v2)
abbrev iX11_steady : zI := (RX11, cX11_steady, 3, (Option.some .int), false)
def tX11_steady : List (Nat × Instr × Nat) := [(0, .aload_n 0, 1), (1, .getfield 51, 3), (4, .iload_n 1, 1), (5, .invokevirtual 184, 3), (8, .istore_n 2, 1), (9, .iload_n 2, 1), (10, .iconst (-1), 1), (11, .if_icmp .ne 5, 3), (14, .iconst (-1), 1), (15, .ireturn, 1), (16, .aload_n 0, 1), (17, .getfield 86, 3), (20, .aload_n 0, 1), (21, .getfield 51, 3), (24, .aload_n 0, 1), (25, .getfield 61, 3), (28, .invokevirtual 267, 3), (31, .aload_n 0, 1), (32, .getfield 51, 3), (35, .aload_n 0, 1), (36, .getfield 86, 3), (39, .getfield 264, 3), (42, .iload_n 2, 1), (43, .iaload, 1), (44, .invokevirtual 202, 3), (47, .ireturn, 1)]
set_option maxRecDepth 100000 in
theorem tkX11_steady : ∀ q ∈ tX11_steady, decode cX11_steady q.1 = .ok q.2 := by decide +kernel
theorem vmX11_steady : zVM yX11_steady cX11_steady 3 (Option.some .int) 1 11 := ⟨kX11_steady, q_1100, q_1101, q_147, ⟨_, rfl, rfl⟩, by decide +kernel, by decide⟩
def X11_steady (v0 : Nat) (v1 : Int32) : zM := z_gr 11 5 v0 fun x1 => z_rc 1 x1 (z_ci (X1_slot x1 v1) fun y2 => z_if (y2 = ((-1))) (z_ret (some (.int ((-1)))))
   (z_gr 11 10 v0 fun x3 => z_gr 11 5 v0 fun x4 => z_gr 11 7 v0 fun x5 => z_rc 5 x3 (z_cv (X5_findSteady x3 x4 x5) (z_gr 11 5 v0 fun x6 => z_gr 11 10 v0 fun x7 => z_gr 5 0 x7 fun x8 => z_la 20 x8 y2 fun x9 => z_rc 1 x6 (z_ci (X1_number x6 x9) fun y10 => z_ret (some (.int y10)))))))
set_option maxHeartbeats 2000000 in
set_option maxRecDepth 20000 in
theorem coX11_steady (l : Launch) (e : Nat) (he : 4 ≤ e) (v0 : Nat) (v1 : Int32) : zCo l (e + 1) 0 0 iX11_steady 0 [(0, .ref v0), (1, .int v1)] [] (X11_steady v0 v1) := by
  unfold X11_steady
  refine zco_p tkX11_steady 0 1 (pc' := 1) (L' := [(0, .ref v0), (1, .int v1)]) (S' := [.ref v0]) rfl ?_
  refine zco_gr fl_11_51 rfl (zdk (cc := cX11_steady) (q := (1, .getfield 51, 3)) tkX11_steady 1 rfl) (fun x1 => ?_)
  refine zco_p tkX11_steady 2 1 (pc' := 5) (L' := [(0, .ref v0), (1, .int v1)]) (S' := [.int v1, .ref x1]) rfl ?_
  refine zco_Vi (rc := 0) (rs := 0) (mc := 0) (ms := 0) (As := [.int v1]) (S := []) vmX1_slot (mtX1_slot l e (by omega) x1 v1) q_930 rfl rfl (Nat.le_of_ble_eq_true rfl) (zdk (cc := cX11_steady) (q := (5, .invokevirtual 184, 3)) tkX11_steady 3 rfl) (fun y2 => ?_)
  refine zco_p tkX11_steady 4 3 (pc' := 11) (L' := [(2, .int y2), (0, .ref v0), (1, .int v1)]) (S' := [.int ((-1)), .int y2]) rfl ?_
  refine zco_icmp_ne (tgt := 16) (zdk (cc := cX11_steady) (q := (11, .if_icmp .ne 5, 3)) tkX11_steady 7 rfl) rfl ?_ ?_
  · refine zco_p tkX11_steady 10 1 (pc' := 17) (L' := [(2, .int y2), (0, .ref v0), (1, .int v1)]) (S' := [.ref v0]) rfl ?_
    refine zco_gr fl_11_86 rfl (zdk (cc := cX11_steady) (q := (17, .getfield 86, 3)) tkX11_steady 11 rfl) (fun x3 => ?_)
    refine zco_p tkX11_steady 12 1 (pc' := 21) (L' := [(2, .int y2), (0, .ref v0), (1, .int v1)]) (S' := [.ref v0, .ref x3]) rfl ?_
    refine zco_gr fl_11_51 rfl (zdk (cc := cX11_steady) (q := (21, .getfield 51, 3)) tkX11_steady 13 rfl) (fun x4 => ?_)
    refine zco_p tkX11_steady 14 1 (pc' := 25) (L' := [(2, .int y2), (0, .ref v0), (1, .int v1)]) (S' := [.ref v0, .ref x4, .ref x3]) rfl ?_
    refine zco_gr fl_11_61 rfl (zdk (cc := cX11_steady) (q := (25, .getfield 61, 3)) tkX11_steady 15 rfl) (fun x5 => ?_)
    refine zco_Vv (rc := 0) (rs := 0) (mc := 0) (ms := 0) (As := [.ref x4, .ref x5]) (S := []) vmX5_findSteady (mtX5_findSteady l e (by omega) x3 x4 x5) q_1103 rfl rfl (Nat.le_of_ble_eq_true rfl) (zdk (cc := cX11_steady) (q := (28, .invokevirtual 267, 3)) tkX11_steady 16 rfl) ?_
    refine zco_p tkX11_steady 17 1 (pc' := 32) (L' := [(2, .int y2), (0, .ref v0), (1, .int v1)]) (S' := [.ref v0]) rfl ?_
    refine zco_gr fl_11_51 rfl (zdk (cc := cX11_steady) (q := (32, .getfield 51, 3)) tkX11_steady 18 rfl) (fun x6 => ?_)
    refine zco_p tkX11_steady 19 1 (pc' := 36) (L' := [(2, .int y2), (0, .ref v0), (1, .int v1)]) (S' := [.ref v0, .ref x6]) rfl ?_
    refine zco_gr fl_11_86 rfl (zdk (cc := cX11_steady) (q := (36, .getfield 86, 3)) tkX11_steady 20 rfl) (fun x7 => ?_)
    refine zco_gr fl_11_264 rfl (zdk (cc := cX11_steady) (q := (39, .getfield 264, 3)) tkX11_steady 21 rfl) (fun x8 => ?_)
    refine zco_p tkX11_steady 22 1 (pc' := 43) (L' := [(2, .int y2), (0, .ref v0), (1, .int v1)]) (S' := [.int y2, .ref x8, .ref x6]) rfl ?_
    refine zco_iaload (zdk (cc := cX11_steady) (q := (43, .iaload, 1)) tkX11_steady 23 rfl) (fun x9 => ?_)
    refine zco_Vi (rc := 0) (rs := 0) (mc := 0) (ms := 0) (As := [.int x9]) (S := []) vmX1_number (mtX1_number l e (by omega) x6 x9) q_942 rfl rfl (Nat.le_of_ble_eq_true rfl) (zdk (cc := cX11_steady) (q := (44, .invokevirtual 202, 3)) tkX11_steady 24 rfl) (fun y10 => ?_)
    exact zco_iret rfl rfl rfl (zdk (cc := cX11_steady) (q := (47, .ireturn, 1)) tkX11_steady 25 rfl)
  · refine zco_p tkX11_steady 8 1 (pc' := 15) (L' := [(2, .int y2), (0, .ref v0), (1, .int v1)]) (S' := [.int ((-1))]) rfl ?_
    exact zco_iret rfl rfl rfl (zdk (cc := cX11_steady) (q := (15, .ireturn, 1)) tkX11_steady 9 rfl)
theorem mtX11_steady (l : Launch) (d : Nat) (hd : 5 ≤ d) (v0 : Nat) (v1 : Int32) : zMet l d 0 0 yX11_steady cX11_steady 3 (Option.some .int) [.ref v0, .int v1] (X11_steady v0 v1) := by
  obtain ⟨e, rfl⟩ : ∃ e, d = e + 1 := ⟨d - 1, by omega⟩
  exact zmet_of (own := RX11) (ini := false) (by decide +kernel) rfl (fun _ => by contradiction) (Nat.le_of_ble_eq_true rfl) (coX11_steady l e (by omega) v0 v1)
abbrev iX5_prefers : zI := (RX5, cX5_prefers, 4, (Option.some .boolean), false)
def tX5_prefers : List (Nat × Instr × Nat) := [(0, .aload_n 0, 1), (1, .getfield 69, 3), (4, .iload_n 1, 1), (5, .iaload, 1), (6, .istore_n 3, 1), (7, .iload_n 3, 1), (8, .iconst (-1), 1), (9, .if_icmp .eq 26, 3), (12, .aload_n 0, 1), (13, .getfield 53, 3), (16, .iload_n 1, 1), (17, .iload_n 2, 1), (18, .invokestatic 58, 3), (21, .iaload, 1), (22, .aload_n 0, 1), (23, .getfield 53, 3), (26, .iload_n 1, 1), (27, .iload_n 3, 1), (28, .invokestatic 58, 3), (31, .iaload, 1), (32, .if_icmp .le 7, 3), (35, .iconst 1, 1), (36, .goto 4, 3), (39, .iconst 0, 1), (40, .ireturn, 1)]
set_option maxRecDepth 100000 in
theorem tkX5_prefers : ∀ q ∈ tX5_prefers, decode cX5_prefers q.1 = .ok q.2 := by decide +kernel
theorem vmX5_prefers : zSM yX5_prefers cX5_prefers 4 (Option.some .boolean) 3 := ⟨kX5_prefers, q_1120, q_157, by decide +kernel, by decide⟩
def X5_prefers_J35  : zM := z_rb 1
set_option maxHeartbeats 2000000 in
set_option maxRecDepth 20000 in
theorem coX5_prefers_J35 (l : Launch) (e : Nat) (he : 1 ≤ e)  : zCo l (e + 1) 0 0 iX5_prefers 35 [] [] (X5_prefers_J35 ) := by
  unfold X5_prefers_J35
  refine zco_p tkX5_prefers 21 2 (pc' := 40) (L' := []) (S' := [.int 1]) rfl ?_
  exact zco_zret rfl rfl rfl (zdk (cc := cX5_prefers) (q := (40, .ireturn, 1)) tkX5_prefers 24 rfl)
def X5_prefers (v0 : Nat) (v1 : Int32) (v2 : Int32) : zM := z_gr 8 3 v0 fun x1 => z_la 20 x1 v1 fun x2 => z_if (x2 = ((-1))) (X5_prefers_J35)
   (z_gr 8 6 v0 fun x3 => z_ci (X11_cell v1 v2) fun y4 => z_la 20 x3 y4 fun x5 => z_gr 8 6 v0 fun x6 => z_ci (X11_cell v1 x2) fun y7 => z_la 20 x6 y7 fun x8 => z_if (x5 ≤ x8) (z_rb 0)
   (X5_prefers_J35))
set_option maxHeartbeats 2000000 in
set_option maxRecDepth 20000 in
theorem coX5_prefers (l : Launch) (e : Nat) (he : 1 ≤ e) (v0 : Nat) (v1 : Int32) (v2 : Int32) : zCo l (e + 1) 0 0 iX5_prefers 0 [(0, .ref v0), (1, .int v1), (2, .int v2)] [] (X5_prefers v0 v1 v2) := by
  unfold X5_prefers
  refine zco_p tkX5_prefers 0 1 (pc' := 1) (L' := [(0, .ref v0), (1, .int v1), (2, .int v2)]) (S' := [.ref v0]) rfl ?_
  refine zco_gr fl_5_69 rfl (zdk (cc := cX5_prefers) (q := (1, .getfield 69, 3)) tkX5_prefers 1 rfl) (fun x1 => ?_)
  refine zco_p tkX5_prefers 2 1 (pc' := 5) (L' := [(0, .ref v0), (1, .int v1), (2, .int v2)]) (S' := [.int v1, .ref x1]) rfl ?_
  refine zco_iaload (zdk (cc := cX5_prefers) (q := (5, .iaload, 1)) tkX5_prefers 3 rfl) (fun x2 => ?_)
  refine zco_p tkX5_prefers 4 3 (pc' := 9) (L' := [(3, .int x2), (0, .ref v0), (1, .int v1), (2, .int v2)]) (S' := [.int ((-1)), .int x2]) rfl ?_
  refine zco_icmp_eq (tgt := 35) (zdk (cc := cX5_prefers) (q := (9, .if_icmp .eq 26, 3)) tkX5_prefers 7 rfl) rfl ?_ ?_
  · exact zco_sub [] rfl (coX5_prefers_J35 l e he )
  · refine zco_p tkX5_prefers 8 1 (pc' := 13) (L' := [(3, .int x2), (0, .ref v0), (1, .int v1), (2, .int v2)]) (S' := [.ref v0]) rfl ?_
    refine zco_gr fl_5_53 rfl (zdk (cc := cX5_prefers) (q := (13, .getfield 53, 3)) tkX5_prefers 9 rfl) (fun x3 => ?_)
    refine zco_p tkX5_prefers 10 2 (pc' := 18) (L' := [(3, .int x2), (0, .ref v0), (1, .int v1), (2, .int v2)]) (S' := [.int v2, .int v1, .ref x3]) rfl ?_
    refine zco_Ni (rc := 0) (rs := 0) (mc := 0) (ms := 0) (As := [.int v1, .int v2]) (S := [.ref x3]) vmX11_cell (mtX11_cell l e (by omega) v1 v2) (host := "ClothWedding") (by decide +kernel) rfl rfl (Nat.le_of_ble_eq_true rfl) (zdk (cc := cX5_prefers) (q := (18, .invokestatic 58, 3)) tkX5_prefers 12 rfl) (fun y4 => ?_)
    refine zco_iaload (zdk (cc := cX5_prefers) (q := (21, .iaload, 1)) tkX5_prefers 13 rfl) (fun x5 => ?_)
    refine zco_p tkX5_prefers 14 1 (pc' := 23) (L' := [(3, .int x2), (0, .ref v0), (1, .int v1), (2, .int v2)]) (S' := [.ref v0, .int x5]) rfl ?_
    refine zco_gr fl_5_53 rfl (zdk (cc := cX5_prefers) (q := (23, .getfield 53, 3)) tkX5_prefers 15 rfl) (fun x6 => ?_)
    refine zco_p tkX5_prefers 16 2 (pc' := 28) (L' := [(3, .int x2), (0, .ref v0), (1, .int v1), (2, .int v2)]) (S' := [.int x2, .int v1, .ref x6, .int x5]) rfl ?_
    refine zco_Ni (rc := 0) (rs := 0) (mc := 0) (ms := 0) (As := [.int v1, .int x2]) (S := [.ref x6, .int x5]) vmX11_cell (mtX11_cell l e (by omega) v1 x2) (host := "ClothWedding") (by decide +kernel) rfl rfl (Nat.le_of_ble_eq_true rfl) (zdk (cc := cX5_prefers) (q := (28, .invokestatic 58, 3)) tkX5_prefers 18 rfl) (fun y7 => ?_)
    refine zco_iaload (zdk (cc := cX5_prefers) (q := (31, .iaload, 1)) tkX5_prefers 19 rfl) (fun x8 => ?_)
    refine zco_icmp_le (tgt := 39) (zdk (cc := cX5_prefers) (q := (32, .if_icmp .le 7, 3)) tkX5_prefers 20 rfl) rfl ?_ ?_
    · refine zco_p tkX5_prefers 23 1 (pc' := 40) (L' := [(3, .int x2), (0, .ref v0), (1, .int v1), (2, .int v2)]) (S' := [.int 0]) rfl ?_
      exact zco_zret rfl rfl rfl (zdk (cc := cX5_prefers) (q := (40, .ireturn, 1)) tkX5_prefers 24 rfl)
    · exact zco_sub [] rfl (coX5_prefers_J35 l e he )
theorem mtX5_prefers (l : Launch) (d : Nat) (hd : 2 ≤ d) (v0 : Nat) (v1 : Int32) (v2 : Int32) : zMet l d 0 0 yX5_prefers cX5_prefers 4 (Option.some .boolean) [.ref v0, .int v1, .int v2] (X5_prefers v0 v1 v2) := by
  obtain ⟨e, rfl⟩ : ∃ e, d = e + 1 := ⟨d - 1, by omega⟩
  exact zmet_of (own := RX5) (ini := false) (by decide +kernel) rfl (fun _ => by contradiction) (Nat.le_of_ble_eq_true rfl) (coX5_prefers l e (by omega) v0 v1 v2)
abbrev iX5_findRather : zI := (RX5, cX5_findRather, 6, (Option.some .int), false)
def tX5_findRather : List (Nat × Instr × Nat) := [(0, .iconst 0, 1), (1, .istore_n 3, 1), (2, .iconst 0, 1), (3, .istore 4, 2), (5, .iload 4, 2), (7, .aload_n 1, 1), (8, .getfield 30, 3), (11, .iconst 0, 1), (12, .iaload, 1), (13, .if_icmp .ge 91, 3), (16, .bipush 6, 2), (18, .istore 5, 2), (20, .iload 5, 2), (22, .bipush 6, 2), (24, .aload_n 1, 1), (25, .getfield 30, 3), (28, .iconst 1, 1), (29, .iaload, 1), (30, .iadd, 1), (31, .if_icmp .ge 67, 3), (34, .aload_n 1, 1), (35, .iload 4, 2), (37, .iload 5, 2), (39, .invokevirtual 49, 3), (42, .ifCond .ne 50, 3), (45, .aload_n 2, 1), (46, .iload 4, 2), (48, .iload 5, 2), (50, .invokestatic 65, 3), (53, .ifCond .eq 39, 3), (56, .aload_n 2, 1), (57, .iload 5, 2), (59, .iload 4, 2), (61, .invokestatic 65, 3), (64, .ifCond .eq 28, 3), (67, .aload_n 0, 1), (68, .getfield 15, 3), (71, .iconst 2, 1), (72, .iload_n 3, 1), (73, .imul, 1), (74, .iload 4, 2), (76, .iastore, 1), (77, .aload_n 0, 1), (78, .getfield 15, 3), (81, .iconst 2, 1), (82, .iload_n 3, 1), (83, .imul, 1), (84, .iconst 1, 1), (85, .iadd, 1), (86, .iload 5, 2), (88, .iastore, 1), (89, .iinc 3 1, 3), (92, .iinc 5 1, 3), (95, .goto (-75), 3), (98, .iinc 4 1, 3), (101, .goto (-96), 3), (104, .iload_n 3, 1), (105, .ireturn, 1)]
set_option maxRecDepth 100000 in
theorem tkX5_findRather : ∀ q ∈ tX5_findRather, decode cX5_findRather q.1 = .ok q.2 := by decide +kernel
theorem vmX5_findRather : zVM yX5_findRather cX5_findRather 6 (Option.some .int) 2 5 := ⟨kX5_findRather, q_1116, q_1117, q_157, ⟨_, rfl, rfl⟩, by decide +kernel, by decide⟩
def X5_findRather_J98 (r5 : Int32 × Int32 → zM) (v0 : Nat) (v1 : Nat) (v2 : Nat) (v3 : Int32) (v4 : Int32) : zM := r5 (v3, v4 + 1)
set_option maxHeartbeats 2000000 in
set_option maxRecDepth 20000 in
theorem coX5_findRather_J98 (l : Launch) (e : Nat) (he : 2 ≤ e) (v0 : Nat) (v1 : Nat) (v2 : Nat) (v3 : Int32) (v4 : Int32) (r5 : Int32 × Int32 → zM) (hr5 : ∀ x : Int32 × Int32, zCo l (e + 1) 0 0 iX5_findRather 5 [(0, .ref v0), (1, .ref v1), (2, .ref v2), (3, .int x.1), (4, .int x.2)] [] (r5 x)) : zCo l (e + 1) 0 0 iX5_findRather 98 [(0, .ref v0), (1, .ref v1), (2, .ref v2), (3, .int v3), (4, .int v4)] [] (X5_findRather_J98 r5 v0 v1 v2 v3 v4) := by
  unfold X5_findRather_J98
  refine zco_p tkX5_findRather 54 2 (pc' := 5) (L' := [(4, .int (v4 + 1)), (0, .ref v0), (1, .ref v1), (2, .ref v2), (3, .int v3)]) (S' := []) rfl ?_
  exact zco_sub [1, 2, 3, 4, 0] rfl (hr5 (v3, v4 + 1))
def X5_findRather_J92 (r5 : Int32 × Int32 → zM) (r20 : Int32 × Int32 → zM) (v0 : Nat) (v1 : Nat) (v2 : Nat) (v3 : Int32) (v4 : Int32) (v5 : Int32) : zM := r20 (v3, v5 + 1)
set_option maxHeartbeats 2000000 in
set_option maxRecDepth 20000 in
theorem coX5_findRather_J92 (l : Launch) (e : Nat) (he : 2 ≤ e) (v0 : Nat) (v1 : Nat) (v2 : Nat) (v3 : Int32) (v4 : Int32) (v5 : Int32) (r5 : Int32 × Int32 → zM) (hr5 : ∀ x : Int32 × Int32, zCo l (e + 1) 0 0 iX5_findRather 5 [(0, .ref v0), (1, .ref v1), (2, .ref v2), (3, .int x.1), (4, .int x.2)] [] (r5 x)) (r20 : Int32 × Int32 → zM) (hr20 : ∀ x : Int32 × Int32, zCo l (e + 1) 0 0 iX5_findRather 20 [(0, .ref v0), (1, .ref v1), (2, .ref v2), (3, .int x.1), (4, .int v4), (5, .int x.2)] [] (r20 x)) : zCo l (e + 1) 0 0 iX5_findRather 92 [(0, .ref v0), (1, .ref v1), (2, .ref v2), (3, .int v3), (4, .int v4), (5, .int v5)] [] (X5_findRather_J92 r5 r20 v0 v1 v2 v3 v4 v5) := by
  unfold X5_findRather_J92
  refine zco_p tkX5_findRather 52 2 (pc' := 20) (L' := [(5, .int (v5 + 1)), (0, .ref v0), (1, .ref v1), (2, .ref v2), (3, .int v3), (4, .int v4)]) (S' := []) rfl ?_
  exact zco_sub [1, 2, 3, 4, 5, 0] rfl (hr20 (v3, v5 + 1))
def X5_findRather_B20 (r5 : Int32 × Int32 → zM) (v0 : Nat) (v1 : Nat) (v2 : Nat) (v4 : Int32) (r20 : Int32 × Int32 → zM) (v3 : Int32) (v5 : Int32) : zM := z_gr 1 0 v1 fun x1 => z_la 20 x1 1 fun x2 => z_if ((6 + x2) ≤ v5) (X5_findRather_J98 r5 v0 v1 v2 v3 v4)
   (z_rc 1 v1 (z_ci (X1_areKin v1 v4 v5) fun y3 => z_if (y3 = 0) (z_ci (X5_prefers v2 v4 v5) fun y4 => z_if (y4 = 0) (X5_findRather_J92 r5 r20 v0 v1 v2 v3 v4 v5)
   (z_ci (X5_prefers v2 v5 v4) fun y5 => z_if (y5 = 0) (X5_findRather_J92 r5 r20 v0 v1 v2 v3 v4 v5)
   (z_gr 5 1 v0 fun x6 => z_sa 20 x6 (2 * v3) v4 (z_gr 5 1 v0 fun x7 => z_sa 20 x7 ((2 * v3) + 1) v5 (X5_findRather_J92 r5 r20 v0 v1 v2 (v3 + 1) v4 v5)))))
   (X5_findRather_J92 r5 r20 v0 v1 v2 v3 v4 v5)))
set_option maxHeartbeats 2000000 in
set_option maxRecDepth 20000 in
theorem coX5_findRather_B20 (l : Launch) (e : Nat) (he : 2 ≤ e) (v0 : Nat) (v1 : Nat) (v2 : Nat) (v4 : Int32) (r5 : Int32 × Int32 → zM) (hr5 : ∀ x : Int32 × Int32, zCo l (e + 1) 0 0 iX5_findRather 5 [(0, .ref v0), (1, .ref v1), (2, .ref v2), (3, .int x.1), (4, .int x.2)] [] (r5 x)) (r20 : Int32 × Int32 → zM) (hr20 : ∀ x : Int32 × Int32, zCo l (e + 1) 0 0 iX5_findRather 20 [(0, .ref v0), (1, .ref v1), (2, .ref v2), (3, .int x.1), (4, .int v4), (5, .int x.2)] [] (r20 x)) (v3 : Int32) (v5 : Int32) : zCo l (e + 1) 0 0 iX5_findRather 20 [(0, .ref v0), (1, .ref v1), (2, .ref v2), (3, .int v3), (4, .int v4), (5, .int v5)] [] (X5_findRather_B20 r5 v0 v1 v2 v4 r20 v3 v5) := by
  unfold X5_findRather_B20
  refine zco_p tkX5_findRather 12 3 (pc' := 25) (L' := [(0, .ref v0), (1, .ref v1), (2, .ref v2), (3, .int v3), (4, .int v4), (5, .int v5)]) (S' := [.ref v1, .int 6, .int v5]) rfl ?_
  refine zco_gr fl_5_30 rfl (zdk (cc := cX5_findRather) (q := (25, .getfield 30, 3)) tkX5_findRather 15 rfl) (fun x1 => ?_)
  refine zco_p tkX5_findRather 16 1 (pc' := 29) (L' := [(0, .ref v0), (1, .ref v1), (2, .ref v2), (3, .int v3), (4, .int v4), (5, .int v5)]) (S' := [.int 1, .ref x1, .int 6, .int v5]) rfl ?_
  refine zco_iaload (zdk (cc := cX5_findRather) (q := (29, .iaload, 1)) tkX5_findRather 17 rfl) (fun x2 => ?_)
  refine zco_p tkX5_findRather 18 1 (pc' := 31) (L' := [(0, .ref v0), (1, .ref v1), (2, .ref v2), (3, .int v3), (4, .int v4), (5, .int v5)]) (S' := [.int (6 + x2), .int v5]) rfl ?_
  refine zco_icmp_ge (tgt := 98) (zdk (cc := cX5_findRather) (q := (31, .if_icmp .ge 67, 3)) tkX5_findRather 19 rfl) rfl ?_ ?_
  · exact zco_sub [0, 1, 2, 3, 4] rfl (coX5_findRather_J98 l e he v0 v1 v2 v3 v4 r5 hr5)
  · refine zco_p tkX5_findRather 20 3 (pc' := 39) (L' := [(0, .ref v0), (1, .ref v1), (2, .ref v2), (3, .int v3), (4, .int v4), (5, .int v5)]) (S' := [.int v5, .int v4, .ref v1]) rfl ?_
    refine zco_Vi (rc := 0) (rs := 0) (mc := 0) (ms := 0) (As := [.int v4, .int v5]) (S := []) vmX1_areKin (mtX1_areKin l e (by omega) v1 v4 v5) q_1092 rfl rfl (Nat.le_of_ble_eq_true rfl) (zdk (cc := cX5_findRather) (q := (39, .invokevirtual 49, 3)) tkX5_findRather 23 rfl) (fun y3 => ?_)
    refine zco_if_ne (tgt := 92) (zdk (cc := cX5_findRather) (q := (42, .ifCond .ne 50, 3)) tkX5_findRather 24 rfl) rfl ?_ ?_
    · exact zco_sub [0, 1, 2, 3, 4, 5] rfl (coX5_findRather_J92 l e he v0 v1 v2 v3 v4 v5 r5 hr5 r20 hr20)
    · refine zco_p tkX5_findRather 25 3 (pc' := 50) (L' := [(0, .ref v0), (1, .ref v1), (2, .ref v2), (3, .int v3), (4, .int v4), (5, .int v5)]) (S' := [.int v5, .int v4, .ref v2]) rfl ?_
      refine zco_Si (rc := 0) (rs := 0) (mc := 0) (ms := 0) (As := [.ref v2, .int v4, .int v5]) (S := []) vmX5_prefers (mtX5_prefers l e (by omega) v2 v4 v5) q_1119 rfl rfl (Nat.le_of_ble_eq_true rfl) (zdk (cc := cX5_findRather) (q := (50, .invokestatic 65, 3)) tkX5_findRather 28 rfl) (fun y4 => ?_)
      refine zco_if_eq (tgt := 92) (zdk (cc := cX5_findRather) (q := (53, .ifCond .eq 39, 3)) tkX5_findRather 29 rfl) rfl ?_ ?_
      · exact zco_sub [0, 1, 2, 3, 4, 5] rfl (coX5_findRather_J92 l e he v0 v1 v2 v3 v4 v5 r5 hr5 r20 hr20)
      · refine zco_p tkX5_findRather 30 3 (pc' := 61) (L' := [(0, .ref v0), (1, .ref v1), (2, .ref v2), (3, .int v3), (4, .int v4), (5, .int v5)]) (S' := [.int v4, .int v5, .ref v2]) rfl ?_
        refine zco_Si (rc := 0) (rs := 0) (mc := 0) (ms := 0) (As := [.ref v2, .int v5, .int v4]) (S := []) vmX5_prefers (mtX5_prefers l e (by omega) v2 v5 v4) q_1119 rfl rfl (Nat.le_of_ble_eq_true rfl) (zdk (cc := cX5_findRather) (q := (61, .invokestatic 65, 3)) tkX5_findRather 33 rfl) (fun y5 => ?_)
        refine zco_if_eq (tgt := 92) (zdk (cc := cX5_findRather) (q := (64, .ifCond .eq 28, 3)) tkX5_findRather 34 rfl) rfl ?_ ?_
        · exact zco_sub [0, 1, 2, 3, 4, 5] rfl (coX5_findRather_J92 l e he v0 v1 v2 v3 v4 v5 r5 hr5 r20 hr20)
        · refine zco_p tkX5_findRather 35 1 (pc' := 68) (L' := [(0, .ref v0), (1, .ref v1), (2, .ref v2), (3, .int v3), (4, .int v4), (5, .int v5)]) (S' := [.ref v0]) rfl ?_
          refine zco_gr fl_5_15 rfl (zdk (cc := cX5_findRather) (q := (68, .getfield 15, 3)) tkX5_findRather 36 rfl) (fun x6 => ?_)
          refine zco_p tkX5_findRather 37 4 (pc' := 76) (L' := [(0, .ref v0), (1, .ref v1), (2, .ref v2), (3, .int v3), (4, .int v4), (5, .int v5)]) (S' := [.int v4, .int (2 * v3), .ref x6]) rfl ?_
          refine zco_iastore (zdk (cc := cX5_findRather) (q := (76, .iastore, 1)) tkX5_findRather 41 rfl) ?_
          refine zco_p tkX5_findRather 42 1 (pc' := 78) (L' := [(0, .ref v0), (1, .ref v1), (2, .ref v2), (3, .int v3), (4, .int v4), (5, .int v5)]) (S' := [.ref v0]) rfl ?_
          refine zco_gr fl_5_15 rfl (zdk (cc := cX5_findRather) (q := (78, .getfield 15, 3)) tkX5_findRather 43 rfl) (fun x7 => ?_)
          refine zco_p tkX5_findRather 44 6 (pc' := 88) (L' := [(0, .ref v0), (1, .ref v1), (2, .ref v2), (3, .int v3), (4, .int v4), (5, .int v5)]) (S' := [.int v5, .int ((2 * v3) + 1), .ref x7]) rfl ?_
          refine zco_iastore (zdk (cc := cX5_findRather) (q := (88, .iastore, 1)) tkX5_findRather 50 rfl) ?_
          refine zco_p tkX5_findRather 51 1 (pc' := 92) (L' := [(3, .int (v3 + 1)), (0, .ref v0), (1, .ref v1), (2, .ref v2), (4, .int v4), (5, .int v5)]) (S' := []) rfl ?_
          exact zco_sub [1, 2, 3, 0, 4, 5] rfl (coX5_findRather_J92 l e he v0 v1 v2 (v3 + 1) v4 v5 r5 hr5 r20 hr20)
def X5_findRather_B5 (v0 : Nat) (v1 : Nat) (v2 : Nat) (r5 : Int32 × Int32 → zM) (v3 : Int32) (v4 : Int32) : zM := z_gr 1 0 v1 fun x1 => z_la 20 x1 0 fun x2 => z_if (x2 ≤ v4) (z_ret (some (.int v3)))
   (z_fix (fun r x => X5_findRather_B20 r5 v0 v1 v2 v4 r x.1 x.2) zFU (v3, 6))
set_option maxHeartbeats 2000000 in
set_option maxRecDepth 20000 in
theorem coX5_findRather_B5 (l : Launch) (e : Nat) (he : 2 ≤ e) (v0 : Nat) (v1 : Nat) (v2 : Nat) (r5 : Int32 × Int32 → zM) (hr5 : ∀ x : Int32 × Int32, zCo l (e + 1) 0 0 iX5_findRather 5 [(0, .ref v0), (1, .ref v1), (2, .ref v2), (3, .int x.1), (4, .int x.2)] [] (r5 x)) (v3 : Int32) (v4 : Int32) : zCo l (e + 1) 0 0 iX5_findRather 5 [(0, .ref v0), (1, .ref v1), (2, .ref v2), (3, .int v3), (4, .int v4)] [] (X5_findRather_B5 v0 v1 v2 r5 v3 v4) := by
  unfold X5_findRather_B5
  refine zco_p tkX5_findRather 4 2 (pc' := 8) (L' := [(0, .ref v0), (1, .ref v1), (2, .ref v2), (3, .int v3), (4, .int v4)]) (S' := [.ref v1, .int v4]) rfl ?_
  refine zco_gr fl_5_30 rfl (zdk (cc := cX5_findRather) (q := (8, .getfield 30, 3)) tkX5_findRather 6 rfl) (fun x1 => ?_)
  refine zco_p tkX5_findRather 7 1 (pc' := 12) (L' := [(0, .ref v0), (1, .ref v1), (2, .ref v2), (3, .int v3), (4, .int v4)]) (S' := [.int 0, .ref x1, .int v4]) rfl ?_
  refine zco_iaload (zdk (cc := cX5_findRather) (q := (12, .iaload, 1)) tkX5_findRather 8 rfl) (fun x2 => ?_)
  refine zco_icmp_ge (tgt := 104) (zdk (cc := cX5_findRather) (q := (13, .if_icmp .ge 91, 3)) tkX5_findRather 9 rfl) rfl ?_ ?_
  · refine zco_p tkX5_findRather 56 1 (pc' := 105) (L' := [(0, .ref v0), (1, .ref v1), (2, .ref v2), (3, .int v3), (4, .int v4)]) (S' := [.int v3]) rfl ?_
    exact zco_iret rfl rfl rfl (zdk (cc := cX5_findRather) (q := (105, .ireturn, 1)) tkX5_findRather 57 rfl)
  · refine zco_p tkX5_findRather 10 2 (pc' := 20) (L' := [(5, .int 6), (0, .ref v0), (1, .ref v1), (2, .ref v2), (3, .int v3), (4, .int v4)]) (S' := []) rfl ?_
    exact zco_sub [1, 2, 3, 4, 5, 0] rfl (zco_fix (Lf := fun x : Int32 × Int32 => [(0, .ref v0), (1, .ref v1), (2, .ref v2), (3, .int x.1), (4, .int v4), (5, .int x.2)]) (Sf := fun _ => []) (fun r hr x => coX5_findRather_B20 l e he v0 v1 v2 v4 r5 hr5 r hr x.1 x.2) zFU (v3, 6))
def X5_findRather (v0 : Nat) (v1 : Nat) (v2 : Nat) : zM := z_fix (fun r x => X5_findRather_B5 v0 v1 v2 r x.1 x.2) zFU (0, 0)
set_option maxHeartbeats 2000000 in
set_option maxRecDepth 20000 in
theorem coX5_findRather (l : Launch) (e : Nat) (he : 2 ≤ e) (v0 : Nat) (v1 : Nat) (v2 : Nat) : zCo l (e + 1) 0 0 iX5_findRather 0 [(0, .ref v0), (1, .ref v1), (2, .ref v2)] [] (X5_findRather v0 v1 v2) := by
  unfold X5_findRather
  refine zco_p tkX5_findRather 0 4 (pc' := 5) (L' := [(4, .int 0), (3, .int 0), (0, .ref v0), (1, .ref v1), (2, .ref v2)]) (S' := []) rfl ?_
  exact zco_sub [2, 3, 4, 1, 0] rfl (zco_fix (Lf := fun x : Int32 × Int32 => [(0, .ref v0), (1, .ref v1), (2, .ref v2), (3, .int x.1), (4, .int x.2)]) (Sf := fun _ => []) (fun r hr x => coX5_findRather_B5 l e he v0 v1 v2 r hr x.1 x.2) zFU (0, 0))
theorem mtX5_findRather (l : Launch) (d : Nat) (hd : 3 ≤ d) (v0 : Nat) (v1 : Nat) (v2 : Nat) : zMet l d 0 0 yX5_findRather cX5_findRather 6 (Option.some .int) [.ref v0, .ref v1, .ref v2] (X5_findRather v0 v1 v2) := by
  obtain ⟨e, rfl⟩ : ∃ e, d = e + 1 := ⟨d - 1, by omega⟩
  exact zmet_of (own := RX5) (ini := false) (by decide +kernel) rfl (fun _ => by contradiction) (Nat.le_of_ble_eq_true rfl) (coX5_findRather l e (by omega) v0 v1 v2)
abbrev iX11_rather : zI := (RX11, cX11_rather, 4, (Option.some .int), false)
def tX11_rather : List (Nat × Instr × Nat) := [(0, .aload_n 0, 1), (1, .getfield 86, 3), (4, .aload_n 0, 1), (5, .getfield 51, 3), (8, .aload_n 0, 1), (9, .getfield 61, 3), (12, .invokevirtual 271, 3), (15, .istore_n 3, 1), (16, .iload_n 1, 1), (17, .iconst (-1), 1), (18, .if_icmp .ne 5, 3), (21, .iload_n 3, 1), (22, .ireturn, 1), (23, .iload_n 1, 1), (24, .ifCond .lt 17, 3), (27, .iload_n 1, 1), (28, .iload_n 3, 1), (29, .if_icmp .ge 12, 3), (32, .iload_n 2, 1), (33, .ifCond .lt 8, 3), (36, .iload_n 2, 1), (37, .iconst 1, 1), (38, .if_icmp .le 5, 3), (41, .iconst (-1), 1), (42, .ireturn, 1), (43, .aload_n 0, 1), (44, .getfield 51, 3), (47, .aload_n 0, 1), (48, .getfield 86, 3), (51, .getfield 274, 3), (54, .iconst 2, 1), (55, .iload_n 1, 1), (56, .imul, 1), (57, .iload_n 2, 1), (58, .iadd, 1), (59, .iaload, 1), (60, .invokevirtual 202, 3), (63, .ireturn, 1)]
set_option maxRecDepth 100000 in
theorem tkX11_rather : ∀ q ∈ tX11_rather, decode cX11_rather q.1 = .ok q.2 := by decide +kernel
theorem vmX11_rather : zVM yX11_rather cX11_rather 4 (Option.some .int) 2 11 := ⟨kX11_rather, q_1112, q_1113, q_147, ⟨_, rfl, rfl⟩, by decide +kernel, by decide⟩
def X11_rather (v0 : Nat) (v1 : Int32) (v2 : Int32) : zM := z_gr 11 10 v0 fun x1 => z_gr 11 5 v0 fun x2 => z_gr 11 7 v0 fun x3 => z_rc 5 x1 (z_ci (X5_findRather x1 x2 x3) fun y4 => z_if (v1 = ((-1))) (z_ret (some (.int y4)))
   (z_if (v1 < 0) (z_ret (some (.int ((-1)))))
   (z_if (y4 ≤ v1) (z_ret (some (.int ((-1)))))
   (z_if (v2 < 0) (z_ret (some (.int ((-1)))))
   (z_if (v2 ≤ 1) (z_gr 11 5 v0 fun x5 => z_gr 11 10 v0 fun x6 => z_gr 5 1 x6 fun x7 => z_la 20 x7 ((2 * v1) + v2) fun x8 => z_rc 1 x5 (z_ci (X1_number x5 x8) fun y9 => z_ret (some (.int y9))))
   (z_ret (some (.int ((-1))))))))))
set_option maxHeartbeats 2000000 in
set_option maxRecDepth 20000 in
theorem coX11_rather (l : Launch) (e : Nat) (he : 3 ≤ e) (v0 : Nat) (v1 : Int32) (v2 : Int32) : zCo l (e + 1) 0 0 iX11_rather 0 [(0, .ref v0), (1, .int v1), (2, .int v2)] [] (X11_rather v0 v1 v2) := by
  unfold X11_rather
  refine zco_p tkX11_rather 0 1 (pc' := 1) (L' := [(0, .ref v0), (1, .int v1), (2, .int v2)]) (S' := [.ref v0]) rfl ?_
  refine zco_gr fl_11_86 rfl (zdk (cc := cX11_rather) (q := (1, .getfield 86, 3)) tkX11_rather 1 rfl) (fun x1 => ?_)
  refine zco_p tkX11_rather 2 1 (pc' := 5) (L' := [(0, .ref v0), (1, .int v1), (2, .int v2)]) (S' := [.ref v0, .ref x1]) rfl ?_
  refine zco_gr fl_11_51 rfl (zdk (cc := cX11_rather) (q := (5, .getfield 51, 3)) tkX11_rather 3 rfl) (fun x2 => ?_)
  refine zco_p tkX11_rather 4 1 (pc' := 9) (L' := [(0, .ref v0), (1, .int v1), (2, .int v2)]) (S' := [.ref v0, .ref x2, .ref x1]) rfl ?_
  refine zco_gr fl_11_61 rfl (zdk (cc := cX11_rather) (q := (9, .getfield 61, 3)) tkX11_rather 5 rfl) (fun x3 => ?_)
  refine zco_Vi (rc := 0) (rs := 0) (mc := 0) (ms := 0) (As := [.ref x2, .ref x3]) (S := []) vmX5_findRather (mtX5_findRather l e (by omega) x1 x2 x3) q_1115 rfl rfl (Nat.le_of_ble_eq_true rfl) (zdk (cc := cX11_rather) (q := (12, .invokevirtual 271, 3)) tkX11_rather 6 rfl) (fun y4 => ?_)
  refine zco_p tkX11_rather 7 3 (pc' := 18) (L' := [(3, .int y4), (0, .ref v0), (1, .int v1), (2, .int v2)]) (S' := [.int ((-1)), .int v1]) rfl ?_
  refine zco_icmp_ne (tgt := 23) (zdk (cc := cX11_rather) (q := (18, .if_icmp .ne 5, 3)) tkX11_rather 10 rfl) rfl ?_ ?_
  · refine zco_p tkX11_rather 13 1 (pc' := 24) (L' := [(3, .int y4), (0, .ref v0), (1, .int v1), (2, .int v2)]) (S' := [.int v1]) rfl ?_
    refine zco_if_lt (tgt := 41) (zdk (cc := cX11_rather) (q := (24, .ifCond .lt 17, 3)) tkX11_rather 14 rfl) rfl ?_ ?_
    · refine zco_p tkX11_rather 23 1 (pc' := 42) (L' := [(3, .int y4), (0, .ref v0), (1, .int v1), (2, .int v2)]) (S' := [.int ((-1))]) rfl ?_
      exact zco_iret rfl rfl rfl (zdk (cc := cX11_rather) (q := (42, .ireturn, 1)) tkX11_rather 24 rfl)
    · refine zco_p tkX11_rather 15 2 (pc' := 29) (L' := [(3, .int y4), (0, .ref v0), (1, .int v1), (2, .int v2)]) (S' := [.int y4, .int v1]) rfl ?_
      refine zco_icmp_ge (tgt := 41) (zdk (cc := cX11_rather) (q := (29, .if_icmp .ge 12, 3)) tkX11_rather 17 rfl) rfl ?_ ?_
      · refine zco_p tkX11_rather 23 1 (pc' := 42) (L' := [(3, .int y4), (0, .ref v0), (1, .int v1), (2, .int v2)]) (S' := [.int ((-1))]) rfl ?_
        exact zco_iret rfl rfl rfl (zdk (cc := cX11_rather) (q := (42, .ireturn, 1)) tkX11_rather 24 rfl)
      · refine zco_p tkX11_rather 18 1 (pc' := 33) (L' := [(3, .int y4), (0, .ref v0), (1, .int v1), (2, .int v2)]) (S' := [.int v2]) rfl ?_
        refine zco_if_lt (tgt := 41) (zdk (cc := cX11_rather) (q := (33, .ifCond .lt 8, 3)) tkX11_rather 19 rfl) rfl ?_ ?_
        · refine zco_p tkX11_rather 23 1 (pc' := 42) (L' := [(3, .int y4), (0, .ref v0), (1, .int v1), (2, .int v2)]) (S' := [.int ((-1))]) rfl ?_
          exact zco_iret rfl rfl rfl (zdk (cc := cX11_rather) (q := (42, .ireturn, 1)) tkX11_rather 24 rfl)
        · refine zco_p tkX11_rather 20 2 (pc' := 38) (L' := [(3, .int y4), (0, .ref v0), (1, .int v1), (2, .int v2)]) (S' := [.int 1, .int v2]) rfl ?_
          refine zco_icmp_le (tgt := 43) (zdk (cc := cX11_rather) (q := (38, .if_icmp .le 5, 3)) tkX11_rather 22 rfl) rfl ?_ ?_
          · refine zco_p tkX11_rather 25 1 (pc' := 44) (L' := [(3, .int y4), (0, .ref v0), (1, .int v1), (2, .int v2)]) (S' := [.ref v0]) rfl ?_
            refine zco_gr fl_11_51 rfl (zdk (cc := cX11_rather) (q := (44, .getfield 51, 3)) tkX11_rather 26 rfl) (fun x5 => ?_)
            refine zco_p tkX11_rather 27 1 (pc' := 48) (L' := [(3, .int y4), (0, .ref v0), (1, .int v1), (2, .int v2)]) (S' := [.ref v0, .ref x5]) rfl ?_
            refine zco_gr fl_11_86 rfl (zdk (cc := cX11_rather) (q := (48, .getfield 86, 3)) tkX11_rather 28 rfl) (fun x6 => ?_)
            refine zco_gr fl_11_274 rfl (zdk (cc := cX11_rather) (q := (51, .getfield 274, 3)) tkX11_rather 29 rfl) (fun x7 => ?_)
            refine zco_p tkX11_rather 30 5 (pc' := 59) (L' := [(3, .int y4), (0, .ref v0), (1, .int v1), (2, .int v2)]) (S' := [.int ((2 * v1) + v2), .ref x7, .ref x5]) rfl ?_
            refine zco_iaload (zdk (cc := cX11_rather) (q := (59, .iaload, 1)) tkX11_rather 35 rfl) (fun x8 => ?_)
            refine zco_Vi (rc := 0) (rs := 0) (mc := 0) (ms := 0) (As := [.int x8]) (S := []) vmX1_number (mtX1_number l e (by omega) x5 x8) q_942 rfl rfl (Nat.le_of_ble_eq_true rfl) (zdk (cc := cX11_rather) (q := (60, .invokevirtual 202, 3)) tkX11_rather 36 rfl) (fun y9 => ?_)
            exact zco_iret rfl rfl rfl (zdk (cc := cX11_rather) (q := (63, .ireturn, 1)) tkX11_rather 37 rfl)
          · refine zco_p tkX11_rather 23 1 (pc' := 42) (L' := [(3, .int y4), (0, .ref v0), (1, .int v1), (2, .int v2)]) (S' := [.int ((-1))]) rfl ?_
            exact zco_iret rfl rfl rfl (zdk (cc := cX11_rather) (q := (42, .ireturn, 1)) tkX11_rather 24 rfl)
  · refine zco_p tkX11_rather 11 1 (pc' := 22) (L' := [(3, .int y4), (0, .ref v0), (1, .int v1), (2, .int v2)]) (S' := [.int y4]) rfl ?_
    exact zco_iret rfl rfl rfl (zdk (cc := cX11_rather) (q := (22, .ireturn, 1)) tkX11_rather 12 rfl)
theorem mtX11_rather (l : Launch) (d : Nat) (hd : 4 ≤ d) (v0 : Nat) (v1 : Int32) (v2 : Int32) : zMet l d 0 0 yX11_rather cX11_rather 4 (Option.some .int) [.ref v0, .int v1, .int v2] (X11_rather v0 v1 v2) := by
  obtain ⟨e, rfl⟩ : ∃ e, d = e + 1 := ⟨d - 1, by omega⟩
  exact zmet_of (own := RX11) (ini := false) (by decide +kernel) rfl (fun _ => by contradiction) (Nat.le_of_ble_eq_true rfl) (coX11_rather l e (by omega) v0 v1 v2)
abbrev iJ6_bitCount_0f7a4 : zI := (RJ6, cJ6_bitCount_0f7a4, 1, (Option.some .int), false)
def tJ6_bitCount_0f7a4 : List (Nat × Instr × Nat) := [(0, .iload_n 0, 1), (1, .iload_n 0, 1), (2, .iconst 1, 1), (3, .iushr, 1), (4, .ldc_w 265, 3), (7, .iand, 1), (8, .isub, 1), (9, .istore_n 0, 1), (10, .iload_n 0, 1), (11, .ldc_w 266, 3), (14, .iand, 1), (15, .iload_n 0, 1), (16, .iconst 2, 1), (17, .iushr, 1), (18, .ldc_w 266, 3), (21, .iand, 1), (22, .iadd, 1), (23, .istore_n 0, 1), (24, .iload_n 0, 1), (25, .iload_n 0, 1), (26, .iconst 4, 1), (27, .iushr, 1), (28, .iadd, 1), (29, .ldc_w 267, 3), (32, .iand, 1), (33, .istore_n 0, 1), (34, .iload_n 0, 1), (35, .iload_n 0, 1), (36, .bipush 8, 2), (38, .iushr, 1), (39, .iadd, 1), (40, .istore_n 0, 1), (41, .iload_n 0, 1), (42, .iload_n 0, 1), (43, .bipush 16, 2), (45, .iushr, 1), (46, .iadd, 1), (47, .istore_n 0, 1), (48, .iload_n 0, 1), (49, .bipush 63, 2), (51, .iand, 1), (52, .ireturn, 1)]
set_option maxRecDepth 100000 in
theorem tkJ6_bitCount_0f7a4 : ∀ q ∈ tJ6_bitCount_0f7a4, decode cJ6_bitCount_0f7a4 q.1 = .ok q.2 := by decide +kernel
theorem vmJ6_bitCount_0f7a4 : zSM yJ6_bitCount_0f7a4 cJ6_bitCount_0f7a4 1 (Option.some .int) 1 := ⟨kJ6_bitCount_0f7a4, q_1132, q_167, by decide +kernel, by decide⟩
def J6_bitCount_0f7a4 (v0 : Int32) : zM := z_ret (some (.int ((((((((v0 - (((v0.toUInt32 >>> ((1 : Int32).toUInt32 &&& Int32.toUInt32 31)).toInt32) &&& 1431655765)) &&& 858993459) + ((((v0 - (((v0.toUInt32 >>> ((1 : Int32).toUInt32 &&& Int32.toUInt32 31)).toInt32) &&& 1431655765) : Int32).toUInt32 >>> ((2 : Int32).toUInt32 &&& Int32.toUInt32 31)).toInt32) &&& 858993459)) + (((((v0 - (((v0.toUInt32 >>> ((1 : Int32).toUInt32 &&& Int32.toUInt32 31)).toInt32) &&& 1431655765)) &&& 858993459) + ((((v0 - (((v0.toUInt32 >>> ((1 : Int32).toUInt32 &&& Int32.toUInt32 31)).toInt32) &&& 1431655765) : Int32).toUInt32 >>> ((2 : Int32).toUInt32 &&& Int32.toUInt32 31)).toInt32) &&& 858993459) : Int32).toUInt32 >>> ((4 : Int32).toUInt32 &&& Int32.toUInt32 31)).toInt32)) &&& 252645135) + (((((((v0 - (((v0.toUInt32 >>> ((1 : Int32).toUInt32 &&& Int32.toUInt32 31)).toInt32) &&& 1431655765)) &&& 858993459) + ((((v0 - (((v0.toUInt32 >>> ((1 : Int32).toUInt32 &&& Int32.toUInt32 31)).toInt32) &&& 1431655765) : Int32).toUInt32 >>> ((2 : Int32).toUInt32 &&& Int32.toUInt32 31)).toInt32) &&& 858993459)) + (((((v0 - (((v0.toUInt32 >>> ((1 : Int32).toUInt32 &&& Int32.toUInt32 31)).toInt32) &&& 1431655765)) &&& 858993459) + ((((v0 - (((v0.toUInt32 >>> ((1 : Int32).toUInt32 &&& Int32.toUInt32 31)).toInt32) &&& 1431655765) : Int32).toUInt32 >>> ((2 : Int32).toUInt32 &&& Int32.toUInt32 31)).toInt32) &&& 858993459) : Int32).toUInt32 >>> ((4 : Int32).toUInt32 &&& Int32.toUInt32 31)).toInt32)) &&& 252645135 : Int32).toUInt32 >>> ((8 : Int32).toUInt32 &&& Int32.toUInt32 31)).toInt32)) + ((((((((v0 - (((v0.toUInt32 >>> ((1 : Int32).toUInt32 &&& Int32.toUInt32 31)).toInt32) &&& 1431655765)) &&& 858993459) + ((((v0 - (((v0.toUInt32 >>> ((1 : Int32).toUInt32 &&& Int32.toUInt32 31)).toInt32) &&& 1431655765) : Int32).toUInt32 >>> ((2 : Int32).toUInt32 &&& Int32.toUInt32 31)).toInt32) &&& 858993459)) + (((((v0 - (((v0.toUInt32 >>> ((1 : Int32).toUInt32 &&& Int32.toUInt32 31)).toInt32) &&& 1431655765)) &&& 858993459) + ((((v0 - (((v0.toUInt32 >>> ((1 : Int32).toUInt32 &&& Int32.toUInt32 31)).toInt32) &&& 1431655765) : Int32).toUInt32 >>> ((2 : Int32).toUInt32 &&& Int32.toUInt32 31)).toInt32) &&& 858993459) : Int32).toUInt32 >>> ((4 : Int32).toUInt32 &&& Int32.toUInt32 31)).toInt32)) &&& 252645135) + (((((((v0 - (((v0.toUInt32 >>> ((1 : Int32).toUInt32 &&& Int32.toUInt32 31)).toInt32) &&& 1431655765)) &&& 858993459) + ((((v0 - (((v0.toUInt32 >>> ((1 : Int32).toUInt32 &&& Int32.toUInt32 31)).toInt32) &&& 1431655765) : Int32).toUInt32 >>> ((2 : Int32).toUInt32 &&& Int32.toUInt32 31)).toInt32) &&& 858993459)) + (((((v0 - (((v0.toUInt32 >>> ((1 : Int32).toUInt32 &&& Int32.toUInt32 31)).toInt32) &&& 1431655765)) &&& 858993459) + ((((v0 - (((v0.toUInt32 >>> ((1 : Int32).toUInt32 &&& Int32.toUInt32 31)).toInt32) &&& 1431655765) : Int32).toUInt32 >>> ((2 : Int32).toUInt32 &&& Int32.toUInt32 31)).toInt32) &&& 858993459) : Int32).toUInt32 >>> ((4 : Int32).toUInt32 &&& Int32.toUInt32 31)).toInt32)) &&& 252645135 : Int32).toUInt32 >>> ((8 : Int32).toUInt32 &&& Int32.toUInt32 31)).toInt32) : Int32).toUInt32 >>> ((16 : Int32).toUInt32 &&& Int32.toUInt32 31)).toInt32)) &&& 63)))
set_option maxHeartbeats 2000000 in
set_option maxRecDepth 20000 in
theorem coJ6_bitCount_0f7a4 (l : Launch) (e : Nat) (he : 0 ≤ e) (v0 : Int32) : zCo l (e + 1) 0 0 iJ6_bitCount_0f7a4 0 [(0, .int v0)] [] (J6_bitCount_0f7a4 v0) := by
  unfold J6_bitCount_0f7a4
  refine zco_p tkJ6_bitCount_0f7a4 0 4 (pc' := 4) (L' := [(0, .int v0)]) (S' := [.int ((v0.toUInt32 >>> ((1 : Int32).toUInt32 &&& Int32.toUInt32 31)).toInt32), .int v0]) rfl ?_
  refine zco_ldcw q_1134 (zdk (cc := cJ6_bitCount_0f7a4) (q := (4, .ldc_w 265, 3)) tkJ6_bitCount_0f7a4 4 rfl) ?_
  refine zco_p tkJ6_bitCount_0f7a4 5 4 (pc' := 11) (L' := [(0, .int (v0 - (((v0.toUInt32 >>> ((1 : Int32).toUInt32 &&& Int32.toUInt32 31)).toInt32) &&& 1431655765)))]) (S' := [.int (v0 - (((v0.toUInt32 >>> ((1 : Int32).toUInt32 &&& Int32.toUInt32 31)).toInt32) &&& 1431655765))]) rfl ?_
  refine zco_ldcw q_1135 (zdk (cc := cJ6_bitCount_0f7a4) (q := (11, .ldc_w 266, 3)) tkJ6_bitCount_0f7a4 9 rfl) ?_
  refine zco_p tkJ6_bitCount_0f7a4 10 4 (pc' := 18) (L' := [(0, .int (v0 - (((v0.toUInt32 >>> ((1 : Int32).toUInt32 &&& Int32.toUInt32 31)).toInt32) &&& 1431655765)))]) (S' := [.int (((v0 - (((v0.toUInt32 >>> ((1 : Int32).toUInt32 &&& Int32.toUInt32 31)).toInt32) &&& 1431655765) : Int32).toUInt32 >>> ((2 : Int32).toUInt32 &&& Int32.toUInt32 31)).toInt32), .int ((v0 - (((v0.toUInt32 >>> ((1 : Int32).toUInt32 &&& Int32.toUInt32 31)).toInt32) &&& 1431655765)) &&& 858993459)]) rfl ?_
  refine zco_ldcw q_1135 (zdk (cc := cJ6_bitCount_0f7a4) (q := (18, .ldc_w 266, 3)) tkJ6_bitCount_0f7a4 14 rfl) ?_
  refine zco_p tkJ6_bitCount_0f7a4 15 8 (pc' := 29) (L' := [(0, .int (((v0 - (((v0.toUInt32 >>> ((1 : Int32).toUInt32 &&& Int32.toUInt32 31)).toInt32) &&& 1431655765)) &&& 858993459) + ((((v0 - (((v0.toUInt32 >>> ((1 : Int32).toUInt32 &&& Int32.toUInt32 31)).toInt32) &&& 1431655765) : Int32).toUInt32 >>> ((2 : Int32).toUInt32 &&& Int32.toUInt32 31)).toInt32) &&& 858993459)))]) (S' := [.int ((((v0 - (((v0.toUInt32 >>> ((1 : Int32).toUInt32 &&& Int32.toUInt32 31)).toInt32) &&& 1431655765)) &&& 858993459) + ((((v0 - (((v0.toUInt32 >>> ((1 : Int32).toUInt32 &&& Int32.toUInt32 31)).toInt32) &&& 1431655765) : Int32).toUInt32 >>> ((2 : Int32).toUInt32 &&& Int32.toUInt32 31)).toInt32) &&& 858993459)) + (((((v0 - (((v0.toUInt32 >>> ((1 : Int32).toUInt32 &&& Int32.toUInt32 31)).toInt32) &&& 1431655765)) &&& 858993459) + ((((v0 - (((v0.toUInt32 >>> ((1 : Int32).toUInt32 &&& Int32.toUInt32 31)).toInt32) &&& 1431655765) : Int32).toUInt32 >>> ((2 : Int32).toUInt32 &&& Int32.toUInt32 31)).toInt32) &&& 858993459) : Int32).toUInt32 >>> ((4 : Int32).toUInt32 &&& Int32.toUInt32 31)).toInt32))]) rfl ?_
  refine zco_ldcw q_1136 (zdk (cc := cJ6_bitCount_0f7a4) (q := (29, .ldc_w 267, 3)) tkJ6_bitCount_0f7a4 23 rfl) ?_
  refine zco_p tkJ6_bitCount_0f7a4 24 17 (pc' := 52) (L' := [(0, .int (((((((v0 - (((v0.toUInt32 >>> ((1 : Int32).toUInt32 &&& Int32.toUInt32 31)).toInt32) &&& 1431655765)) &&& 858993459) + ((((v0 - (((v0.toUInt32 >>> ((1 : Int32).toUInt32 &&& Int32.toUInt32 31)).toInt32) &&& 1431655765) : Int32).toUInt32 >>> ((2 : Int32).toUInt32 &&& Int32.toUInt32 31)).toInt32) &&& 858993459)) + (((((v0 - (((v0.toUInt32 >>> ((1 : Int32).toUInt32 &&& Int32.toUInt32 31)).toInt32) &&& 1431655765)) &&& 858993459) + ((((v0 - (((v0.toUInt32 >>> ((1 : Int32).toUInt32 &&& Int32.toUInt32 31)).toInt32) &&& 1431655765) : Int32).toUInt32 >>> ((2 : Int32).toUInt32 &&& Int32.toUInt32 31)).toInt32) &&& 858993459) : Int32).toUInt32 >>> ((4 : Int32).toUInt32 &&& Int32.toUInt32 31)).toInt32)) &&& 252645135) + (((((((v0 - (((v0.toUInt32 >>> ((1 : Int32).toUInt32 &&& Int32.toUInt32 31)).toInt32) &&& 1431655765)) &&& 858993459) + ((((v0 - (((v0.toUInt32 >>> ((1 : Int32).toUInt32 &&& Int32.toUInt32 31)).toInt32) &&& 1431655765) : Int32).toUInt32 >>> ((2 : Int32).toUInt32 &&& Int32.toUInt32 31)).toInt32) &&& 858993459)) + (((((v0 - (((v0.toUInt32 >>> ((1 : Int32).toUInt32 &&& Int32.toUInt32 31)).toInt32) &&& 1431655765)) &&& 858993459) + ((((v0 - (((v0.toUInt32 >>> ((1 : Int32).toUInt32 &&& Int32.toUInt32 31)).toInt32) &&& 1431655765) : Int32).toUInt32 >>> ((2 : Int32).toUInt32 &&& Int32.toUInt32 31)).toInt32) &&& 858993459) : Int32).toUInt32 >>> ((4 : Int32).toUInt32 &&& Int32.toUInt32 31)).toInt32)) &&& 252645135 : Int32).toUInt32 >>> ((8 : Int32).toUInt32 &&& Int32.toUInt32 31)).toInt32)) + ((((((((v0 - (((v0.toUInt32 >>> ((1 : Int32).toUInt32 &&& Int32.toUInt32 31)).toInt32) &&& 1431655765)) &&& 858993459) + ((((v0 - (((v0.toUInt32 >>> ((1 : Int32).toUInt32 &&& Int32.toUInt32 31)).toInt32) &&& 1431655765) : Int32).toUInt32 >>> ((2 : Int32).toUInt32 &&& Int32.toUInt32 31)).toInt32) &&& 858993459)) + (((((v0 - (((v0.toUInt32 >>> ((1 : Int32).toUInt32 &&& Int32.toUInt32 31)).toInt32) &&& 1431655765)) &&& 858993459) + ((((v0 - (((v0.toUInt32 >>> ((1 : Int32).toUInt32 &&& Int32.toUInt32 31)).toInt32) &&& 1431655765) : Int32).toUInt32 >>> ((2 : Int32).toUInt32 &&& Int32.toUInt32 31)).toInt32) &&& 858993459) : Int32).toUInt32 >>> ((4 : Int32).toUInt32 &&& Int32.toUInt32 31)).toInt32)) &&& 252645135) + (((((((v0 - (((v0.toUInt32 >>> ((1 : Int32).toUInt32 &&& Int32.toUInt32 31)).toInt32) &&& 1431655765)) &&& 858993459) + ((((v0 - (((v0.toUInt32 >>> ((1 : Int32).toUInt32 &&& Int32.toUInt32 31)).toInt32) &&& 1431655765) : Int32).toUInt32 >>> ((2 : Int32).toUInt32 &&& Int32.toUInt32 31)).toInt32) &&& 858993459)) + (((((v0 - (((v0.toUInt32 >>> ((1 : Int32).toUInt32 &&& Int32.toUInt32 31)).toInt32) &&& 1431655765)) &&& 858993459) + ((((v0 - (((v0.toUInt32 >>> ((1 : Int32).toUInt32 &&& Int32.toUInt32 31)).toInt32) &&& 1431655765) : Int32).toUInt32 >>> ((2 : Int32).toUInt32 &&& Int32.toUInt32 31)).toInt32) &&& 858993459) : Int32).toUInt32 >>> ((4 : Int32).toUInt32 &&& Int32.toUInt32 31)).toInt32)) &&& 252645135 : Int32).toUInt32 >>> ((8 : Int32).toUInt32 &&& Int32.toUInt32 31)).toInt32) : Int32).toUInt32 >>> ((16 : Int32).toUInt32 &&& Int32.toUInt32 31)).toInt32)))]) (S' := [.int ((((((((v0 - (((v0.toUInt32 >>> ((1 : Int32).toUInt32 &&& Int32.toUInt32 31)).toInt32) &&& 1431655765)) &&& 858993459) + ((((v0 - (((v0.toUInt32 >>> ((1 : Int32).toUInt32 &&& Int32.toUInt32 31)).toInt32) &&& 1431655765) : Int32).toUInt32 >>> ((2 : Int32).toUInt32 &&& Int32.toUInt32 31)).toInt32) &&& 858993459)) + (((((v0 - (((v0.toUInt32 >>> ((1 : Int32).toUInt32 &&& Int32.toUInt32 31)).toInt32) &&& 1431655765)) &&& 858993459) + ((((v0 - (((v0.toUInt32 >>> ((1 : Int32).toUInt32 &&& Int32.toUInt32 31)).toInt32) &&& 1431655765) : Int32).toUInt32 >>> ((2 : Int32).toUInt32 &&& Int32.toUInt32 31)).toInt32) &&& 858993459) : Int32).toUInt32 >>> ((4 : Int32).toUInt32 &&& Int32.toUInt32 31)).toInt32)) &&& 252645135) + (((((((v0 - (((v0.toUInt32 >>> ((1 : Int32).toUInt32 &&& Int32.toUInt32 31)).toInt32) &&& 1431655765)) &&& 858993459) + ((((v0 - (((v0.toUInt32 >>> ((1 : Int32).toUInt32 &&& Int32.toUInt32 31)).toInt32) &&& 1431655765) : Int32).toUInt32 >>> ((2 : Int32).toUInt32 &&& Int32.toUInt32 31)).toInt32) &&& 858993459)) + (((((v0 - (((v0.toUInt32 >>> ((1 : Int32).toUInt32 &&& Int32.toUInt32 31)).toInt32) &&& 1431655765)) &&& 858993459) + ((((v0 - (((v0.toUInt32 >>> ((1 : Int32).toUInt32 &&& Int32.toUInt32 31)).toInt32) &&& 1431655765) : Int32).toUInt32 >>> ((2 : Int32).toUInt32 &&& Int32.toUInt32 31)).toInt32) &&& 858993459) : Int32).toUInt32 >>> ((4 : Int32).toUInt32 &&& Int32.toUInt32 31)).toInt32)) &&& 252645135 : Int32).toUInt32 >>> ((8 : Int32).toUInt32 &&& Int32.toUInt32 31)).toInt32)) + ((((((((v0 - (((v0.toUInt32 >>> ((1 : Int32).toUInt32 &&& Int32.toUInt32 31)).toInt32) &&& 1431655765)) &&& 858993459) + ((((v0 - (((v0.toUInt32 >>> ((1 : Int32).toUInt32 &&& Int32.toUInt32 31)).toInt32) &&& 1431655765) : Int32).toUInt32 >>> ((2 : Int32).toUInt32 &&& Int32.toUInt32 31)).toInt32) &&& 858993459)) + (((((v0 - (((v0.toUInt32 >>> ((1 : Int32).toUInt32 &&& Int32.toUInt32 31)).toInt32) &&& 1431655765)) &&& 858993459) + ((((v0 - (((v0.toUInt32 >>> ((1 : Int32).toUInt32 &&& Int32.toUInt32 31)).toInt32) &&& 1431655765) : Int32).toUInt32 >>> ((2 : Int32).toUInt32 &&& Int32.toUInt32 31)).toInt32) &&& 858993459) : Int32).toUInt32 >>> ((4 : Int32).toUInt32 &&& Int32.toUInt32 31)).toInt32)) &&& 252645135) + (((((((v0 - (((v0.toUInt32 >>> ((1 : Int32).toUInt32 &&& Int32.toUInt32 31)).toInt32) &&& 1431655765)) &&& 858993459) + ((((v0 - (((v0.toUInt32 >>> ((1 : Int32).toUInt32 &&& Int32.toUInt32 31)).toInt32) &&& 1431655765) : Int32).toUInt32 >>> ((2 : Int32).toUInt32 &&& Int32.toUInt32 31)).toInt32) &&& 858993459)) + (((((v0 - (((v0.toUInt32 >>> ((1 : Int32).toUInt32 &&& Int32.toUInt32 31)).toInt32) &&& 1431655765)) &&& 858993459) + ((((v0 - (((v0.toUInt32 >>> ((1 : Int32).toUInt32 &&& Int32.toUInt32 31)).toInt32) &&& 1431655765) : Int32).toUInt32 >>> ((2 : Int32).toUInt32 &&& Int32.toUInt32 31)).toInt32) &&& 858993459) : Int32).toUInt32 >>> ((4 : Int32).toUInt32 &&& Int32.toUInt32 31)).toInt32)) &&& 252645135 : Int32).toUInt32 >>> ((8 : Int32).toUInt32 &&& Int32.toUInt32 31)).toInt32) : Int32).toUInt32 >>> ((16 : Int32).toUInt32 &&& Int32.toUInt32 31)).toInt32)) &&& 63)]) rfl ?_
  exact zco_iret rfl rfl rfl (zdk (cc := cJ6_bitCount_0f7a4) (q := (52, .ireturn, 1)) tkJ6_bitCount_0f7a4 41 rfl)
theorem mtJ6_bitCount_0f7a4 (l : Launch) (d : Nat) (hd : 1 ≤ d) (v0 : Int32) : zMet l d 0 0 yJ6_bitCount_0f7a4 cJ6_bitCount_0f7a4 1 (Option.some .int) [.int v0] (J6_bitCount_0f7a4 v0) := by
  obtain ⟨e, rfl⟩ : ∃ e, d = e + 1 := ⟨d - 1, by omega⟩
  exact zmet_of (own := RJ6) (ini := false) (by decide +kernel) rfl (fun _ => by contradiction) (Nat.le_of_ble_eq_true rfl) (coJ6_bitCount_0f7a4 l e (by omega) v0)
abbrev iX0_wedIfTaught : zI := (RX0, cX0_wedIfTaught, 6, (Option.some .boolean), false)
def tX0_wedIfTaught : List (Nat × Instr × Nat) := [(0, .aload_n 0, 1), (1, .getfield 12, 3), (4, .aload_n 1, 1), (5, .invokevirtual 55, 3), (8, .iconst 0, 1), (9, .istore 5, 2), (11, .iload 5, 2), (13, .bipush 6, 2), (15, .if_icmp .ge 36, 3), (18, .iload_n 3, 1), (19, .iload 5, 2), (21, .ishr, 1), (22, .iconst 1, 1), (23, .iand, 1), (24, .iconst 1, 1), (25, .if_icmp .ne 20, 3), (28, .aload_n 0, 1), (29, .getfield 12, 3), (32, .getfield 88, 3), (35, .iload_n 2, 1), (36, .bipush 6, 2), (38, .imul, 1), (39, .iload 5, 2), (41, .iadd, 1), (42, .bipush 9, 2), (44, .iastore, 1), (45, .iinc 5 1, 3), (48, .goto (-37), 3), (51, .iconst 0, 1), (52, .istore 5, 2), (54, .iload 5, 2), (56, .iload 4, 2), (58, .if_icmp .ge 35, 3), (61, .aload_n 0, 1), (62, .getfield 12, 3), (65, .getfield 69, 3), (68, .iload_n 2, 1), (69, .iaload, 1), (70, .iconst (-1), 1), (71, .if_icmp .ne 22, 3), (74, .aload_n 0, 1), (75, .getfield 25, 3), (78, .aload_n 0, 1), (79, .getfield 12, 3), (82, .iconst (-1), 1), (83, .invokevirtual 51, 3), (86, .pop, 1), (87, .iinc 5 1, 3), (90, .goto (-36), 3), (93, .aload_n 0, 1), (94, .getfield 12, 3), (97, .getfield 69, 3), (100, .iload_n 2, 1), (101, .iaload, 1), (102, .iconst (-1), 1), (103, .if_icmp .eq 7, 3), (106, .iconst 1, 1), (107, .goto 4, 3), (110, .iconst 0, 1), (111, .ireturn, 1)]
set_option maxRecDepth 100000 in
theorem tkX0_wedIfTaught : ∀ q ∈ tX0_wedIfTaught, decode cX0_wedIfTaught q.1 = .ok q.2 := by decide +kernel
theorem vmX0_wedIfTaught : zVM yX0_wedIfTaught cX0_wedIfTaught 6 (Option.some .boolean) 4 0 := ⟨kX0_wedIfTaught, q_1139, q_28, q_156, ⟨_, rfl, rfl⟩, by decide +kernel, by decide⟩
def X0_wedIfTaught_J93 (v0 : Nat) (v2 : Int32) : zM := z_gr 0 0 v0 fun x1 => z_gr 8 3 x1 fun x2 => z_la 20 x2 v2 fun x3 => z_if (x3 = ((-1))) (z_rb 0)
   (z_rb 1)
set_option maxHeartbeats 2000000 in
set_option maxRecDepth 20000 in
theorem coX0_wedIfTaught_J93 (l : Launch) (e : Nat) (he : 5 ≤ e) (v0 : Nat) (v2 : Int32) : zCo l (e + 1) 0 0 iX0_wedIfTaught 93 [(0, .ref v0), (2, .int v2)] [] (X0_wedIfTaught_J93 v0 v2) := by
  unfold X0_wedIfTaught_J93
  refine zco_p tkX0_wedIfTaught 49 1 (pc' := 94) (L' := [(0, .ref v0), (2, .int v2)]) (S' := [.ref v0]) rfl ?_
  refine zco_gr fl_0_12 rfl (zdk (cc := cX0_wedIfTaught) (q := (94, .getfield 12, 3)) tkX0_wedIfTaught 50 rfl) (fun x1 => ?_)
  refine zco_gr fl_0_69 rfl (zdk (cc := cX0_wedIfTaught) (q := (97, .getfield 69, 3)) tkX0_wedIfTaught 51 rfl) (fun x2 => ?_)
  refine zco_p tkX0_wedIfTaught 52 1 (pc' := 101) (L' := [(0, .ref v0), (2, .int v2)]) (S' := [.int v2, .ref x2]) rfl ?_
  refine zco_iaload (zdk (cc := cX0_wedIfTaught) (q := (101, .iaload, 1)) tkX0_wedIfTaught 53 rfl) (fun x3 => ?_)
  refine zco_p tkX0_wedIfTaught 54 1 (pc' := 103) (L' := [(0, .ref v0), (2, .int v2)]) (S' := [.int ((-1)), .int x3]) rfl ?_
  refine zco_icmp_eq (tgt := 110) (zdk (cc := cX0_wedIfTaught) (q := (103, .if_icmp .eq 7, 3)) tkX0_wedIfTaught 55 rfl) rfl ?_ ?_
  · refine zco_p tkX0_wedIfTaught 58 1 (pc' := 111) (L' := [(0, .ref v0), (2, .int v2)]) (S' := [.int 0]) rfl ?_
    exact zco_zret rfl rfl rfl (zdk (cc := cX0_wedIfTaught) (q := (111, .ireturn, 1)) tkX0_wedIfTaught 59 rfl)
  · refine zco_p tkX0_wedIfTaught 56 2 (pc' := 111) (L' := [(0, .ref v0), (2, .int v2)]) (S' := [.int 1]) rfl ?_
    exact zco_zret rfl rfl rfl (zdk (cc := cX0_wedIfTaught) (q := (111, .ireturn, 1)) tkX0_wedIfTaught 59 rfl)
def X0_wedIfTaught_B54 (v0 : Nat) (v2 : Int32) (v4 : Int32) (r54 : Int32 → zM) (v5 : Int32) : zM := z_if (v4 ≤ v5) (X0_wedIfTaught_J93 v0 v2)
   (z_gr 0 0 v0 fun x1 => z_gr 8 3 x1 fun x2 => z_la 20 x2 v2 fun x3 => z_if (x3 = ((-1))) (z_gr 0 2 v0 fun x4 => z_gr 0 0 v0 fun x5 => z_rc 10 x4 (z_ci (X10_go x4 x5 ((-1))) fun y6 => r54 (v5 + 1)))
   (X0_wedIfTaught_J93 v0 v2))
set_option maxHeartbeats 2000000 in
set_option maxRecDepth 20000 in
theorem coX0_wedIfTaught_B54 (l : Launch) (e : Nat) (he : 5 ≤ e) (v0 : Nat) (v2 : Int32) (v4 : Int32) (r54 : Int32 → zM) (hr54 : ∀ x : Int32, zCo l (e + 1) 0 0 iX0_wedIfTaught 54 [(0, .ref v0), (2, .int v2), (4, .int v4), (5, .int x)] [] (r54 x)) (v5 : Int32) : zCo l (e + 1) 0 0 iX0_wedIfTaught 54 [(0, .ref v0), (2, .int v2), (4, .int v4), (5, .int v5)] [] (X0_wedIfTaught_B54 v0 v2 v4 r54 v5) := by
  unfold X0_wedIfTaught_B54
  refine zco_p tkX0_wedIfTaught 30 2 (pc' := 58) (L' := [(0, .ref v0), (2, .int v2), (4, .int v4), (5, .int v5)]) (S' := [.int v4, .int v5]) rfl ?_
  refine zco_icmp_ge (tgt := 93) (zdk (cc := cX0_wedIfTaught) (q := (58, .if_icmp .ge 35, 3)) tkX0_wedIfTaught 32 rfl) rfl ?_ ?_
  · exact zco_sub [0, 1] rfl (coX0_wedIfTaught_J93 l e he v0 v2)
  · refine zco_p tkX0_wedIfTaught 33 1 (pc' := 62) (L' := [(0, .ref v0), (2, .int v2), (4, .int v4), (5, .int v5)]) (S' := [.ref v0]) rfl ?_
    refine zco_gr fl_0_12 rfl (zdk (cc := cX0_wedIfTaught) (q := (62, .getfield 12, 3)) tkX0_wedIfTaught 34 rfl) (fun x1 => ?_)
    refine zco_gr fl_0_69 rfl (zdk (cc := cX0_wedIfTaught) (q := (65, .getfield 69, 3)) tkX0_wedIfTaught 35 rfl) (fun x2 => ?_)
    refine zco_p tkX0_wedIfTaught 36 1 (pc' := 69) (L' := [(0, .ref v0), (2, .int v2), (4, .int v4), (5, .int v5)]) (S' := [.int v2, .ref x2]) rfl ?_
    refine zco_iaload (zdk (cc := cX0_wedIfTaught) (q := (69, .iaload, 1)) tkX0_wedIfTaught 37 rfl) (fun x3 => ?_)
    refine zco_p tkX0_wedIfTaught 38 1 (pc' := 71) (L' := [(0, .ref v0), (2, .int v2), (4, .int v4), (5, .int v5)]) (S' := [.int ((-1)), .int x3]) rfl ?_
    refine zco_icmp_ne (tgt := 93) (zdk (cc := cX0_wedIfTaught) (q := (71, .if_icmp .ne 22, 3)) tkX0_wedIfTaught 39 rfl) rfl ?_ ?_
    · exact zco_sub [0, 1] rfl (coX0_wedIfTaught_J93 l e he v0 v2)
    · refine zco_p tkX0_wedIfTaught 40 1 (pc' := 75) (L' := [(0, .ref v0), (2, .int v2), (4, .int v4), (5, .int v5)]) (S' := [.ref v0]) rfl ?_
      refine zco_gr fl_0_25 rfl (zdk (cc := cX0_wedIfTaught) (q := (75, .getfield 25, 3)) tkX0_wedIfTaught 41 rfl) (fun x4 => ?_)
      refine zco_p tkX0_wedIfTaught 42 1 (pc' := 79) (L' := [(0, .ref v0), (2, .int v2), (4, .int v4), (5, .int v5)]) (S' := [.ref v0, .ref x4]) rfl ?_
      refine zco_gr fl_0_12 rfl (zdk (cc := cX0_wedIfTaught) (q := (79, .getfield 12, 3)) tkX0_wedIfTaught 43 rfl) (fun x5 => ?_)
      refine zco_p tkX0_wedIfTaught 44 1 (pc' := 83) (L' := [(0, .ref v0), (2, .int v2), (4, .int v4), (5, .int v5)]) (S' := [.int ((-1)), .ref x5, .ref x4]) rfl ?_
      refine zco_Vi (rc := 0) (rs := 0) (mc := 0) (ms := 0) (As := [.ref x5, .int ((-1))]) (S := []) vmX10_go (mtX10_go l e (by omega) x4 x5 ((-1))) q_1048 rfl rfl (Nat.le_of_ble_eq_true rfl) (zdk (cc := cX0_wedIfTaught) (q := (83, .invokevirtual 51, 3)) tkX0_wedIfTaught 45 rfl) (fun y6 => ?_)
      refine zco_p tkX0_wedIfTaught 46 3 (pc' := 54) (L' := [(5, .int (v5 + 1)), (0, .ref v0), (2, .int v2), (4, .int v4)]) (S' := []) rfl ?_
      exact zco_sub [1, 2, 3, 0] rfl (hr54 (v5 + 1))
def X0_wedIfTaught_J51 (v0 : Nat) (v2 : Int32) (v4 : Int32) : zM := z_fix (fun r x => X0_wedIfTaught_B54 v0 v2 v4 r x) zFU 0
set_option maxHeartbeats 2000000 in
set_option maxRecDepth 20000 in
theorem coX0_wedIfTaught_J51 (l : Launch) (e : Nat) (he : 5 ≤ e) (v0 : Nat) (v2 : Int32) (v4 : Int32) : zCo l (e + 1) 0 0 iX0_wedIfTaught 51 [(0, .ref v0), (2, .int v2), (4, .int v4)] [] (X0_wedIfTaught_J51 v0 v2 v4) := by
  unfold X0_wedIfTaught_J51
  refine zco_p tkX0_wedIfTaught 28 2 (pc' := 54) (L' := [(5, .int 0), (0, .ref v0), (2, .int v2), (4, .int v4)]) (S' := []) rfl ?_
  exact zco_sub [1, 2, 3, 0] rfl (zco_fix (Lf := fun x : Int32 => [(0, .ref v0), (2, .int v2), (4, .int v4), (5, .int x)]) (Sf := fun _ => []) (fun r hr x => coX0_wedIfTaught_B54 l e he v0 v2 v4 r hr x) zFU 0)
def X0_wedIfTaught_J45 (r11 : Int32 → zM) (v0 : Nat) (v2 : Int32) (v3 : Int32) (v4 : Int32) (v5 : Int32) : zM := r11 (v5 + 1)
set_option maxHeartbeats 2000000 in
set_option maxRecDepth 20000 in
theorem coX0_wedIfTaught_J45 (l : Launch) (e : Nat) (he : 5 ≤ e) (v0 : Nat) (v2 : Int32) (v3 : Int32) (v4 : Int32) (v5 : Int32) (r11 : Int32 → zM) (hr11 : ∀ x : Int32, zCo l (e + 1) 0 0 iX0_wedIfTaught 11 [(0, .ref v0), (2, .int v2), (3, .int v3), (4, .int v4), (5, .int x)] [] (r11 x)) : zCo l (e + 1) 0 0 iX0_wedIfTaught 45 [(0, .ref v0), (2, .int v2), (3, .int v3), (4, .int v4), (5, .int v5)] [] (X0_wedIfTaught_J45 r11 v0 v2 v3 v4 v5) := by
  unfold X0_wedIfTaught_J45
  refine zco_p tkX0_wedIfTaught 26 2 (pc' := 11) (L' := [(5, .int (v5 + 1)), (0, .ref v0), (2, .int v2), (3, .int v3), (4, .int v4)]) (S' := []) rfl ?_
  exact zco_sub [1, 2, 3, 4, 0] rfl (hr11 (v5 + 1))
def X0_wedIfTaught_B11 (v0 : Nat) (v2 : Int32) (v3 : Int32) (v4 : Int32) (r11 : Int32 → zM) (v5 : Int32) : zM := z_if (6 ≤ v5) (X0_wedIfTaught_J51 v0 v2 v4)
   (z_if (((v3 >>> (v5 &&& 31)) &&& 1) = 1) (z_gr 0 0 v0 fun x1 => z_gr 8 7 x1 fun x2 => z_sa 20 x2 ((v2 * 6) + v5) 9 (X0_wedIfTaught_J45 r11 v0 v2 v3 v4 v5))
   (X0_wedIfTaught_J45 r11 v0 v2 v3 v4 v5))
set_option maxHeartbeats 2000000 in
set_option maxRecDepth 20000 in
theorem coX0_wedIfTaught_B11 (l : Launch) (e : Nat) (he : 5 ≤ e) (v0 : Nat) (v2 : Int32) (v3 : Int32) (v4 : Int32) (r11 : Int32 → zM) (hr11 : ∀ x : Int32, zCo l (e + 1) 0 0 iX0_wedIfTaught 11 [(0, .ref v0), (2, .int v2), (3, .int v3), (4, .int v4), (5, .int x)] [] (r11 x)) (v5 : Int32) : zCo l (e + 1) 0 0 iX0_wedIfTaught 11 [(0, .ref v0), (2, .int v2), (3, .int v3), (4, .int v4), (5, .int v5)] [] (X0_wedIfTaught_B11 v0 v2 v3 v4 r11 v5) := by
  unfold X0_wedIfTaught_B11
  refine zco_p tkX0_wedIfTaught 6 2 (pc' := 15) (L' := [(0, .ref v0), (2, .int v2), (3, .int v3), (4, .int v4), (5, .int v5)]) (S' := [.int 6, .int v5]) rfl ?_
  refine zco_icmp_ge (tgt := 51) (zdk (cc := cX0_wedIfTaught) (q := (15, .if_icmp .ge 36, 3)) tkX0_wedIfTaught 8 rfl) rfl ?_ ?_
  · exact zco_sub [0, 1, 3] rfl (coX0_wedIfTaught_J51 l e he v0 v2 v4)
  · refine zco_p tkX0_wedIfTaught 9 6 (pc' := 25) (L' := [(0, .ref v0), (2, .int v2), (3, .int v3), (4, .int v4), (5, .int v5)]) (S' := [.int 1, .int ((v3 >>> (v5 &&& 31)) &&& 1)]) rfl ?_
    refine zco_icmp_ne (tgt := 45) (zdk (cc := cX0_wedIfTaught) (q := (25, .if_icmp .ne 20, 3)) tkX0_wedIfTaught 15 rfl) rfl ?_ ?_
    · exact zco_sub [0, 1, 2, 3, 4] rfl (coX0_wedIfTaught_J45 l e he v0 v2 v3 v4 v5 r11 hr11)
    · refine zco_p tkX0_wedIfTaught 16 1 (pc' := 29) (L' := [(0, .ref v0), (2, .int v2), (3, .int v3), (4, .int v4), (5, .int v5)]) (S' := [.ref v0]) rfl ?_
      refine zco_gr fl_0_12 rfl (zdk (cc := cX0_wedIfTaught) (q := (29, .getfield 12, 3)) tkX0_wedIfTaught 17 rfl) (fun x1 => ?_)
      refine zco_gr fl_0_88 rfl (zdk (cc := cX0_wedIfTaught) (q := (32, .getfield 88, 3)) tkX0_wedIfTaught 18 rfl) (fun x2 => ?_)
      refine zco_p tkX0_wedIfTaught 19 6 (pc' := 44) (L' := [(0, .ref v0), (2, .int v2), (3, .int v3), (4, .int v4), (5, .int v5)]) (S' := [.int 9, .int ((v2 * 6) + v5), .ref x2]) rfl ?_
      refine zco_iastore (zdk (cc := cX0_wedIfTaught) (q := (44, .iastore, 1)) tkX0_wedIfTaught 25 rfl) ?_
      exact zco_sub [0, 1, 2, 3, 4] rfl (coX0_wedIfTaught_J45 l e he v0 v2 v3 v4 v5 r11 hr11)
def X0_wedIfTaught (v0 : Nat) (v1 : Nat) (v2 : Int32) (v3 : Int32) (v4 : Int32) : zM := z_gr 0 0 v0 fun x1 => z_rc 8 x1 (z_cv (X8_take x1 v1) (z_fix (fun r x => X0_wedIfTaught_B11 v0 v2 v3 v4 r x) zFU 0))
set_option maxHeartbeats 2000000 in
set_option maxRecDepth 20000 in
theorem coX0_wedIfTaught (l : Launch) (e : Nat) (he : 5 ≤ e) (v0 : Nat) (v1 : Nat) (v2 : Int32) (v3 : Int32) (v4 : Int32) : zCo l (e + 1) 0 0 iX0_wedIfTaught 0 [(0, .ref v0), (1, .ref v1), (2, .int v2), (3, .int v3), (4, .int v4)] [] (X0_wedIfTaught v0 v1 v2 v3 v4) := by
  unfold X0_wedIfTaught
  refine zco_p tkX0_wedIfTaught 0 1 (pc' := 1) (L' := [(0, .ref v0), (1, .ref v1), (2, .int v2), (3, .int v3), (4, .int v4)]) (S' := [.ref v0]) rfl ?_
  refine zco_gr fl_0_12 rfl (zdk (cc := cX0_wedIfTaught) (q := (1, .getfield 12, 3)) tkX0_wedIfTaught 1 rfl) (fun x1 => ?_)
  refine zco_p tkX0_wedIfTaught 2 1 (pc' := 5) (L' := [(0, .ref v0), (1, .ref v1), (2, .int v2), (3, .int v3), (4, .int v4)]) (S' := [.ref v1, .ref x1]) rfl ?_
  refine zco_Vv (rc := 0) (rs := 0) (mc := 0) (ms := 0) (As := [.ref v1]) (S := []) vmX8_take (mtX8_take l e (by omega) x1 v1) q_1040 rfl rfl (Nat.le_of_ble_eq_true rfl) (zdk (cc := cX0_wedIfTaught) (q := (5, .invokevirtual 55, 3)) tkX0_wedIfTaught 3 rfl) ?_
  refine zco_p tkX0_wedIfTaught 4 2 (pc' := 11) (L' := [(5, .int 0), (0, .ref v0), (1, .ref v1), (2, .int v2), (3, .int v3), (4, .int v4)]) (S' := []) rfl ?_
  exact zco_sub [1, 3, 4, 5, 0] rfl (zco_fix (Lf := fun x : Int32 => [(0, .ref v0), (2, .int v2), (3, .int v3), (4, .int v4), (5, .int x)]) (Sf := fun _ => []) (fun r hr x => coX0_wedIfTaught_B11 l e he v0 v2 v3 v4 r hr x) zFU 0)
theorem mtX0_wedIfTaught (l : Launch) (d : Nat) (hd : 6 ≤ d) (v0 : Nat) (v1 : Nat) (v2 : Int32) (v3 : Int32) (v4 : Int32) : zMet l d 0 0 yX0_wedIfTaught cX0_wedIfTaught 6 (Option.some .boolean) [.ref v0, .ref v1, .int v2, .int v3, .int v4] (X0_wedIfTaught v0 v1 v2 v3 v4) := by
  obtain ⟨e, rfl⟩ : ∃ e, d = e + 1 := ⟨d - 1, by omega⟩
  exact zmet_of (own := RX0) (ini := false) (by decide +kernel) rfl (fun _ => by contradiction) (Nat.le_of_ble_eq_true rfl) (coX0_wedIfTaught l e (by omega) v0 v1 v2 v3 v4)
abbrev iX0_lessons : zI := (RX0, cX0_lessons, 7, (Option.some .int), false)
def tX0_lessons : List (Nat × Instr × Nat) := [(0, .aload_n 0, 1), (1, .getfield 25, 3), (4, .getfield 29, 3), (7, .getfield 72, 3), (10, .iconst 1, 1), (11, .iload_n 2, 1), (12, .invokestatic 75, 3), (15, .isub, 1), (16, .iaload, 1), (17, .istore 4, 2), (19, .iconst 0, 1), (20, .istore 5, 2), (22, .iload 5, 2), (24, .iload 4, 2), (26, .if_icmp .gt 52, 3), (29, .iconst 0, 1), (30, .istore 6, 2), (32, .iload 6, 2), (34, .iconst 1, 1), (35, .iload 4, 2), (37, .ishl, 1), (38, .if_icmp .ge 34, 3), (41, .iload 6, 2), (43, .invokestatic 79, 3), (46, .iload 5, 2), (48, .if_icmp .ne 18, 3), (51, .aload_n 0, 1), (52, .aload_n 1, 1), (53, .iload_n 2, 1), (54, .iload 6, 2), (56, .iload_n 3, 1), (57, .invokevirtual 84, 3), (60, .ifCond .eq 6, 3), (63, .iload 6, 2), (65, .ireturn, 1), (66, .iinc 6 1, 3), (69, .goto (-37), 3), (72, .iinc 5 1, 3), (75, .goto (-53), 3), (78, .iconst (-1), 1), (79, .ireturn, 1)]
set_option maxRecDepth 100000 in
theorem tkX0_lessons : ∀ q ∈ tX0_lessons, decode cX0_lessons q.1 = .ok q.2 := by decide +kernel
theorem vmX0_lessons : zVM yX0_lessons cX0_lessons 7 (Option.some .int) 3 0 := ⟨kX0_lessons, q_1127, q_1128, q_156, ⟨_, rfl, rfl⟩, by decide +kernel, by decide⟩
def X0_lessons_J72 (r22 : Int32 → zM) (v0 : Nat) (v1 : Nat) (v2 : Int32) (v3 : Int32) (v4 : Int32) (v5 : Int32) : zM := r22 (v5 + 1)
set_option maxHeartbeats 2000000 in
set_option maxRecDepth 20000 in
theorem coX0_lessons_J72 (l : Launch) (e : Nat) (he : 6 ≤ e) (v0 : Nat) (v1 : Nat) (v2 : Int32) (v3 : Int32) (v4 : Int32) (v5 : Int32) (r22 : Int32 → zM) (hr22 : ∀ x : Int32, zCo l (e + 1) 0 0 iX0_lessons 22 [(0, .ref v0), (1, .ref v1), (2, .int v2), (3, .int v3), (4, .int v4), (5, .int x)] [] (r22 x)) : zCo l (e + 1) 0 0 iX0_lessons 72 [(0, .ref v0), (1, .ref v1), (2, .int v2), (3, .int v3), (4, .int v4), (5, .int v5)] [] (X0_lessons_J72 r22 v0 v1 v2 v3 v4 v5) := by
  unfold X0_lessons_J72
  refine zco_p tkX0_lessons 37 2 (pc' := 22) (L' := [(5, .int (v5 + 1)), (0, .ref v0), (1, .ref v1), (2, .int v2), (3, .int v3), (4, .int v4)]) (S' := []) rfl ?_
  exact zco_sub [1, 2, 3, 4, 5, 0] rfl (hr22 (v5 + 1))
def X0_lessons_J66 (r22 : Int32 → zM) (r32 : Int32 → zM) (v0 : Nat) (v1 : Nat) (v2 : Int32) (v3 : Int32) (v4 : Int32) (v5 : Int32) (v6 : Int32) : zM := r32 (v6 + 1)
set_option maxHeartbeats 2000000 in
set_option maxRecDepth 20000 in
theorem coX0_lessons_J66 (l : Launch) (e : Nat) (he : 6 ≤ e) (v0 : Nat) (v1 : Nat) (v2 : Int32) (v3 : Int32) (v4 : Int32) (v5 : Int32) (v6 : Int32) (r22 : Int32 → zM) (hr22 : ∀ x : Int32, zCo l (e + 1) 0 0 iX0_lessons 22 [(0, .ref v0), (1, .ref v1), (2, .int v2), (3, .int v3), (4, .int v4), (5, .int x)] [] (r22 x)) (r32 : Int32 → zM) (hr32 : ∀ x : Int32, zCo l (e + 1) 0 0 iX0_lessons 32 [(0, .ref v0), (1, .ref v1), (2, .int v2), (3, .int v3), (4, .int v4), (5, .int v5), (6, .int x)] [] (r32 x)) : zCo l (e + 1) 0 0 iX0_lessons 66 [(0, .ref v0), (1, .ref v1), (2, .int v2), (3, .int v3), (4, .int v4), (5, .int v5), (6, .int v6)] [] (X0_lessons_J66 r22 r32 v0 v1 v2 v3 v4 v5 v6) := by
  unfold X0_lessons_J66
  refine zco_p tkX0_lessons 35 2 (pc' := 32) (L' := [(6, .int (v6 + 1)), (0, .ref v0), (1, .ref v1), (2, .int v2), (3, .int v3), (4, .int v4), (5, .int v5)]) (S' := []) rfl ?_
  exact zco_sub [1, 2, 3, 4, 5, 6, 0] rfl (hr32 (v6 + 1))
def X0_lessons_B32 (r22 : Int32 → zM) (v0 : Nat) (v1 : Nat) (v2 : Int32) (v3 : Int32) (v4 : Int32) (v5 : Int32) (r32 : Int32 → zM) (v6 : Int32) : zM := z_if ((1 <<< (v4 &&& 31)) ≤ v6) (X0_lessons_J72 r22 v0 v1 v2 v3 v4 v5)
   (z_ci (J6_bitCount_0f7a4 v6) fun y1 => z_if (y1 = v5) (z_rc 0 v0 (z_ci (X0_wedIfTaught v0 v1 v2 v6 v3) fun y2 => z_if (y2 = 0) (X0_lessons_J66 r22 r32 v0 v1 v2 v3 v4 v5 v6)
   (z_ret (some (.int v6)))))
   (X0_lessons_J66 r22 r32 v0 v1 v2 v3 v4 v5 v6))
set_option maxHeartbeats 2000000 in
set_option maxRecDepth 20000 in
theorem coX0_lessons_B32 (l : Launch) (e : Nat) (he : 6 ≤ e) (v0 : Nat) (v1 : Nat) (v2 : Int32) (v3 : Int32) (v4 : Int32) (v5 : Int32) (r22 : Int32 → zM) (hr22 : ∀ x : Int32, zCo l (e + 1) 0 0 iX0_lessons 22 [(0, .ref v0), (1, .ref v1), (2, .int v2), (3, .int v3), (4, .int v4), (5, .int x)] [] (r22 x)) (r32 : Int32 → zM) (hr32 : ∀ x : Int32, zCo l (e + 1) 0 0 iX0_lessons 32 [(0, .ref v0), (1, .ref v1), (2, .int v2), (3, .int v3), (4, .int v4), (5, .int v5), (6, .int x)] [] (r32 x)) (v6 : Int32) : zCo l (e + 1) 0 0 iX0_lessons 32 [(0, .ref v0), (1, .ref v1), (2, .int v2), (3, .int v3), (4, .int v4), (5, .int v5), (6, .int v6)] [] (X0_lessons_B32 r22 v0 v1 v2 v3 v4 v5 r32 v6) := by
  unfold X0_lessons_B32
  refine zco_p tkX0_lessons 17 4 (pc' := 38) (L' := [(0, .ref v0), (1, .ref v1), (2, .int v2), (3, .int v3), (4, .int v4), (5, .int v5), (6, .int v6)]) (S' := [.int (1 <<< (v4 &&& 31)), .int v6]) rfl ?_
  refine zco_icmp_ge (tgt := 72) (zdk (cc := cX0_lessons) (q := (38, .if_icmp .ge 34, 3)) tkX0_lessons 21 rfl) rfl ?_ ?_
  · exact zco_sub [0, 1, 2, 3, 4, 5] rfl (coX0_lessons_J72 l e he v0 v1 v2 v3 v4 v5 r22 hr22)
  · refine zco_p tkX0_lessons 22 1 (pc' := 43) (L' := [(0, .ref v0), (1, .ref v1), (2, .int v2), (3, .int v3), (4, .int v4), (5, .int v5), (6, .int v6)]) (S' := [.int v6]) rfl ?_
    refine zco_Si (rc := 0) (rs := 0) (mc := 0) (ms := 0) (As := [.int v6]) (S := []) vmJ6_bitCount_0f7a4 (mtJ6_bitCount_0f7a4 l e (by omega) v6) q_1131 rfl rfl (Nat.le_of_ble_eq_true rfl) (zdk (cc := cX0_lessons) (q := (43, .invokestatic 79, 3)) tkX0_lessons 23 rfl) (fun y1 => ?_)
    refine zco_p tkX0_lessons 24 1 (pc' := 48) (L' := [(0, .ref v0), (1, .ref v1), (2, .int v2), (3, .int v3), (4, .int v4), (5, .int v5), (6, .int v6)]) (S' := [.int v5, .int y1]) rfl ?_
    refine zco_icmp_ne (tgt := 66) (zdk (cc := cX0_lessons) (q := (48, .if_icmp .ne 18, 3)) tkX0_lessons 25 rfl) rfl ?_ ?_
    · exact zco_sub [0, 1, 2, 3, 4, 5, 6] rfl (coX0_lessons_J66 l e he v0 v1 v2 v3 v4 v5 v6 r22 hr22 r32 hr32)
    · refine zco_p tkX0_lessons 26 5 (pc' := 57) (L' := [(0, .ref v0), (1, .ref v1), (2, .int v2), (3, .int v3), (4, .int v4), (5, .int v5), (6, .int v6)]) (S' := [.int v3, .int v6, .int v2, .ref v1, .ref v0]) rfl ?_
      refine zco_Vi (rc := 0) (rs := 0) (mc := 0) (ms := 0) (As := [.ref v1, .int v2, .int v6, .int v3]) (S := []) vmX0_wedIfTaught (mtX0_wedIfTaught l e (by omega) v0 v1 v2 v6 v3) q_1137 rfl rfl (Nat.le_of_ble_eq_true rfl) (zdk (cc := cX0_lessons) (q := (57, .invokevirtual 84, 3)) tkX0_lessons 31 rfl) (fun y2 => ?_)
      refine zco_if_eq (tgt := 66) (zdk (cc := cX0_lessons) (q := (60, .ifCond .eq 6, 3)) tkX0_lessons 32 rfl) rfl ?_ ?_
      · exact zco_sub [0, 1, 2, 3, 4, 5, 6] rfl (coX0_lessons_J66 l e he v0 v1 v2 v3 v4 v5 v6 r22 hr22 r32 hr32)
      · refine zco_p tkX0_lessons 33 1 (pc' := 65) (L' := [(0, .ref v0), (1, .ref v1), (2, .int v2), (3, .int v3), (4, .int v4), (5, .int v5), (6, .int v6)]) (S' := [.int v6]) rfl ?_
        exact zco_iret rfl rfl rfl (zdk (cc := cX0_lessons) (q := (65, .ireturn, 1)) tkX0_lessons 34 rfl)
def X0_lessons_B22 (v0 : Nat) (v1 : Nat) (v2 : Int32) (v3 : Int32) (v4 : Int32) (r22 : Int32 → zM) (v5 : Int32) : zM := z_if (v4 < v5) (z_ret (some (.int ((-1)))))
   (z_fix (fun r x => X0_lessons_B32 r22 v0 v1 v2 v3 v4 v5 r x) zFU 0)
set_option maxHeartbeats 2000000 in
set_option maxRecDepth 20000 in
theorem coX0_lessons_B22 (l : Launch) (e : Nat) (he : 6 ≤ e) (v0 : Nat) (v1 : Nat) (v2 : Int32) (v3 : Int32) (v4 : Int32) (r22 : Int32 → zM) (hr22 : ∀ x : Int32, zCo l (e + 1) 0 0 iX0_lessons 22 [(0, .ref v0), (1, .ref v1), (2, .int v2), (3, .int v3), (4, .int v4), (5, .int x)] [] (r22 x)) (v5 : Int32) : zCo l (e + 1) 0 0 iX0_lessons 22 [(0, .ref v0), (1, .ref v1), (2, .int v2), (3, .int v3), (4, .int v4), (5, .int v5)] [] (X0_lessons_B22 v0 v1 v2 v3 v4 r22 v5) := by
  unfold X0_lessons_B22
  refine zco_p tkX0_lessons 12 2 (pc' := 26) (L' := [(0, .ref v0), (1, .ref v1), (2, .int v2), (3, .int v3), (4, .int v4), (5, .int v5)]) (S' := [.int v4, .int v5]) rfl ?_
  refine zco_icmp_gt (tgt := 78) (zdk (cc := cX0_lessons) (q := (26, .if_icmp .gt 52, 3)) tkX0_lessons 14 rfl) rfl ?_ ?_
  · refine zco_p tkX0_lessons 39 1 (pc' := 79) (L' := [(0, .ref v0), (1, .ref v1), (2, .int v2), (3, .int v3), (4, .int v4), (5, .int v5)]) (S' := [.int ((-1))]) rfl ?_
    exact zco_iret rfl rfl rfl (zdk (cc := cX0_lessons) (q := (79, .ireturn, 1)) tkX0_lessons 40 rfl)
  · refine zco_p tkX0_lessons 15 2 (pc' := 32) (L' := [(6, .int 0), (0, .ref v0), (1, .ref v1), (2, .int v2), (3, .int v3), (4, .int v4), (5, .int v5)]) (S' := []) rfl ?_
    exact zco_sub [1, 2, 3, 4, 5, 6, 0] rfl (zco_fix (Lf := fun x : Int32 => [(0, .ref v0), (1, .ref v1), (2, .int v2), (3, .int v3), (4, .int v4), (5, .int v5), (6, .int x)]) (Sf := fun _ => []) (fun r hr x => coX0_lessons_B32 l e he v0 v1 v2 v3 v4 v5 r22 hr22 r hr x) zFU 0)
def X0_lessons (v0 : Nat) (v1 : Nat) (v2 : Int32) (v3 : Int32) : zM := z_gr 0 2 v0 fun x1 => z_gr 10 0 x1 fun x2 => z_gr 1 0 x2 fun x3 => z_ci (X11_sideOf v2) fun y4 => z_la 20 x3 (1 - y4) fun x5 => z_fix (fun r x => X0_lessons_B22 v0 v1 v2 v3 x5 r x) zFU 0
set_option maxHeartbeats 2000000 in
set_option maxRecDepth 20000 in
theorem coX0_lessons (l : Launch) (e : Nat) (he : 6 ≤ e) (v0 : Nat) (v1 : Nat) (v2 : Int32) (v3 : Int32) : zCo l (e + 1) 0 0 iX0_lessons 0 [(0, .ref v0), (1, .ref v1), (2, .int v2), (3, .int v3)] [] (X0_lessons v0 v1 v2 v3) := by
  unfold X0_lessons
  refine zco_p tkX0_lessons 0 1 (pc' := 1) (L' := [(0, .ref v0), (1, .ref v1), (2, .int v2), (3, .int v3)]) (S' := [.ref v0]) rfl ?_
  refine zco_gr fl_0_25 rfl (zdk (cc := cX0_lessons) (q := (1, .getfield 25, 3)) tkX0_lessons 1 rfl) (fun x1 => ?_)
  refine zco_gr fl_0_29 rfl (zdk (cc := cX0_lessons) (q := (4, .getfield 29, 3)) tkX0_lessons 2 rfl) (fun x2 => ?_)
  refine zco_gr fl_0_72 rfl (zdk (cc := cX0_lessons) (q := (7, .getfield 72, 3)) tkX0_lessons 3 rfl) (fun x3 => ?_)
  refine zco_p tkX0_lessons 4 2 (pc' := 12) (L' := [(0, .ref v0), (1, .ref v1), (2, .int v2), (3, .int v3)]) (S' := [.int v2, .int 1, .ref x3]) rfl ?_
  refine zco_Ni (rc := 0) (rs := 0) (mc := 0) (ms := 0) (As := [.int v2]) (S := [.int 1, .ref x3]) vmX11_sideOf (mtX11_sideOf l e (by omega) v2) (host := "ClothWedding") (by decide +kernel) rfl rfl (Nat.le_of_ble_eq_true rfl) (zdk (cc := cX0_lessons) (q := (12, .invokestatic 75, 3)) tkX0_lessons 6 rfl) (fun y4 => ?_)
  refine zco_p tkX0_lessons 7 1 (pc' := 16) (L' := [(0, .ref v0), (1, .ref v1), (2, .int v2), (3, .int v3)]) (S' := [.int (1 - y4), .ref x3]) rfl ?_
  refine zco_iaload (zdk (cc := cX0_lessons) (q := (16, .iaload, 1)) tkX0_lessons 8 rfl) (fun x5 => ?_)
  refine zco_p tkX0_lessons 9 3 (pc' := 22) (L' := [(5, .int 0), (4, .int x5), (0, .ref v0), (1, .ref v1), (2, .int v2), (3, .int v3)]) (S' := []) rfl ?_
  exact zco_sub [2, 3, 4, 5, 1, 0] rfl (zco_fix (Lf := fun x : Int32 => [(0, .ref v0), (1, .ref v1), (2, .int v2), (3, .int v3), (4, .int x5), (5, .int x)]) (Sf := fun _ => []) (fun r hr x => coX0_lessons_B22 l e he v0 v1 v2 v3 x5 r hr x) zFU 0)
theorem mtX0_lessons (l : Launch) (d : Nat) (hd : 7 ≤ d) (v0 : Nat) (v1 : Nat) (v2 : Int32) (v3 : Int32) : zMet l d 0 0 yX0_lessons cX0_lessons 7 (Option.some .int) [.ref v0, .ref v1, .int v2, .int v3] (X0_lessons v0 v1 v2 v3) := by
  obtain ⟨e, rfl⟩ : ∃ e, d = e + 1 := ⟨d - 1, by omega⟩
  exact zmet_of (own := RX0) (ini := false) (by decide +kernel) rfl (fun _ => by contradiction) (Nat.le_of_ble_eq_true rfl) (coX0_lessons l e (by omega) v0 v1 v2 v3)
