abbrev iX11_ask : zI := (RX11, cX11_ask, 1, (Option.some .long), false)
def tX11_ask : List (Nat × Instr × Nat) := [(0, .aload_n 0, 1), (1, .getfield 22, 3), (4, .aload_n 0, 1), (5, .invokevirtual 136, 3), (8, .invokevirtual 140, 3), (11, .aload_n 0, 1), (12, .getfield 31, 3), (15, .invokevirtual 350, 3), (18, .aload_n 0, 1), (19, .invokevirtual 147, 3), (22, .aload_n 0, 1), (23, .getfield 112, 3), (26, .ifCond .ne 21, 3), (29, .aload_n 0, 1), (30, .getfield 31, 3), (33, .aload_n 0, 1), (34, .getfield 51, 3), (37, .aload_n 0, 1), (38, .getfield 61, 3), (41, .invokevirtual 352, 3), (44, .goto 6, 3), (47, .ldc2_w 356, 3), (50, .lreturn, 1)]
set_option maxRecDepth 100000 in
theorem tkX11_ask : ∀ q ∈ tX11_ask, decode cX11_ask q.1 = .ok q.2 := by decide +kernel
theorem vmX11_ask : zVM yX11_ask cX11_ask 1 (Option.some .long) 0 11 := ⟨kX11_ask, q_1280, q_1281, q_149, ⟨_, rfl, rfl⟩, by decide +kernel, by decide⟩
set_option maxHeartbeats 2000000 in
set_option maxRecDepth 20000 in
theorem coX11_ask (l : Launch) (e : Nat) (he : 72 ≤ e) (v0 : Nat) : zCo l (e + 1) 0 0 iX11_ask 0 [(0, .ref v0)] [] (X11_ask v0) := by
  unfold X11_ask
  refine zco_p tkX11_ask 0 1 (pc' := 1) (L' := [(0, .ref v0)]) (S' := [.ref v0]) rfl ?_
  refine zco_gr fl_11_22 rfl (zdk (cc := cX11_ask) (q := (1, .getfield 22, 3)) tkX11_ask 1 rfl) (fun x1 => ?_)
  refine zco_p tkX11_ask 2 1 (pc' := 5) (L' := [(0, .ref v0)]) (S' := [.ref v0, .ref x1]) rfl ?_
  refine zco_Vi (rc := 0) (rs := 0) (mc := 0) (ms := 0) (As := []) (S := [.ref x1]) vmX11_takeTape (mtX11_takeTape l e (by omega) v0) q_640 rfl rfl (Nat.le_of_ble_eq_true rfl) (zdk (cc := cX11_ask) (q := (5, .invokevirtual 136, 3)) tkX11_ask 3 rfl) (fun y2 => ?_)
  refine zco_Vv (rc := 0) (rs := 0) (mc := 0) (ms := 0) (As := [.int y2]) (S := []) vmX9_open (mtX9_open l e (by omega) x1 y2) q_644 rfl rfl (Nat.le_of_ble_eq_true rfl) (zdk (cc := cX11_ask) (q := (8, .invokevirtual 140, 3)) tkX11_ask 4 rfl) ?_
  refine zco_p tkX11_ask 5 1 (pc' := 12) (L' := [(0, .ref v0)]) (S' := [.ref v0]) rfl ?_
  refine zco_gr fl_11_31 rfl (zdk (cc := cX11_ask) (q := (12, .getfield 31, 3)) tkX11_ask 6 rfl) (fun x3 => ?_)
  refine zco_Vv (rc := 0) (rs := 0) (mc := 0) (ms := 0) (As := []) (S := []) vmX7_read (mtX7_read l e (by omega) x3) q_1283 rfl rfl (Nat.le_of_ble_eq_true rfl) (zdk (cc := cX11_ask) (q := (15, .invokevirtual 350, 3)) tkX11_ask 7 rfl) ?_
  refine zco_p tkX11_ask 8 1 (pc' := 19) (L' := [(0, .ref v0)]) (S' := [.ref v0]) rfl ?_
  refine zco_Vv (rc := 0) (rs := 0) (mc := 0) (ms := 0) (As := []) (S := []) vmX11_takeFault (mtX11_takeFault l e (by omega) v0) q_901 rfl rfl (Nat.le_of_ble_eq_true rfl) (zdk (cc := cX11_ask) (q := (19, .invokevirtual 147, 3)) tkX11_ask 9 rfl) ?_
  refine zco_p tkX11_ask 10 1 (pc' := 23) (L' := [(0, .ref v0)]) (S' := [.ref v0]) rfl ?_
  refine zco_gi fl_11_112 rfl (zdk (cc := cX11_ask) (q := (23, .getfield 112, 3)) tkX11_ask 11 rfl) (fun x4 => ?_)
  refine zco_if_ne (tgt := 47) (zdk (cc := cX11_ask) (q := (26, .ifCond .ne 21, 3)) tkX11_ask 12 rfl) rfl ?_ ?_
  · refine zco_ldc2 q_1328 (zdk (cc := cX11_ask) (q := (47, .ldc2_w 356, 3)) tkX11_ask 21 rfl) ?_
    exact zco_lret rfl rfl rfl (zdk (cc := cX11_ask) (q := (50, .lreturn, 1)) tkX11_ask 22 rfl)
  · refine zco_p tkX11_ask 13 1 (pc' := 30) (L' := [(0, .ref v0)]) (S' := [.ref v0]) rfl ?_
    refine zco_gr fl_11_31 rfl (zdk (cc := cX11_ask) (q := (30, .getfield 31, 3)) tkX11_ask 14 rfl) (fun x5 => ?_)
    refine zco_p tkX11_ask 15 1 (pc' := 34) (L' := [(0, .ref v0)]) (S' := [.ref v0, .ref x5]) rfl ?_
    refine zco_gr fl_11_51 rfl (zdk (cc := cX11_ask) (q := (34, .getfield 51, 3)) tkX11_ask 16 rfl) (fun x6 => ?_)
    refine zco_p tkX11_ask 17 1 (pc' := 38) (L' := [(0, .ref v0)]) (S' := [.ref v0, .ref x6, .ref x5]) rfl ?_
    refine zco_gr fl_11_61 rfl (zdk (cc := cX11_ask) (q := (38, .getfield 61, 3)) tkX11_ask 18 rfl) (fun x7 => ?_)
    refine zco_Vl (rc := 0) (rs := 0) (mc := 0) (ms := 0) (As := [.ref x6, .ref x7]) (S := []) vmX7_answer (mtX7_answer l e (by omega) x5 x6 x7) q_1303 rfl rfl (Nat.le_of_ble_eq_true rfl) (zdk (cc := cX11_ask) (q := (41, .invokevirtual 352, 3)) tkX11_ask 19 rfl) (fun y8 => ?_)
    refine zco_p tkX11_ask 20 1 (pc' := 50) (L' := [(0, .ref v0)]) (S' := [.long y8]) rfl ?_
    exact zco_lret rfl rfl rfl (zdk (cc := cX11_ask) (q := (50, .lreturn, 1)) tkX11_ask 22 rfl)
theorem mtX11_ask (l : Launch) (d : Nat) (hd : 73 ≤ d) (v0 : Nat) : zMet l d 0 0 yX11_ask cX11_ask 1 (Option.some .long) [.ref v0] (X11_ask v0) := by
  obtain ⟨e, rfl⟩ : ∃ e, d = e + 1 := ⟨d - 1, by omega⟩
  exact zmet_of (own := RX11) (ini := false) (by decide +kernel) rfl (fun _ => by contradiction) (Nat.le_of_ble_eq_true rfl) (coX11_ask l e (by omega) v0)
abbrev iX8_imageLength : zI := (RX8, cX8_imageLength, 1, (Option.some .int), false)
def tX8_imageLength : List (Nat × Instr × Nat) := [(0, .iconst 4, 1), (1, .iconst 3, 1), (2, .aload_n 0, 1), (3, .invokevirtual 52, 3), (6, .imul, 1), (7, .iadd, 1), (8, .iconst 4, 1), (9, .aload_n 0, 1), (10, .getfield 56, 3), (13, .iconst 0, 1), (14, .iaload, 1), (15, .imul, 1), (16, .aload_n 0, 1), (17, .getfield 56, 3), (20, .iconst 1, 1), (21, .iaload, 1), (22, .imul, 1), (23, .iadd, 1), (24, .ireturn, 1)]
set_option maxRecDepth 100000 in
theorem tkX8_imageLength : ∀ q ∈ tX8_imageLength, decode cX8_imageLength q.1 = .ok q.2 := by decide +kernel
theorem vmX8_imageLength : zSM yX8_imageLength cX8_imageLength 1 (Option.some .int) 1 := ⟨kX8_imageLength, q_1338, q_156, by decide +kernel, by decide⟩
set_option maxHeartbeats 2000000 in
set_option maxRecDepth 20000 in
theorem coX8_imageLength (l : Launch) (e : Nat) (he : 1 ≤ e) (v0 : Nat) : zCo l (e + 1) 0 0 iX8_imageLength 0 [(0, .ref v0)] [] (X8_imageLength v0) := by
  unfold X8_imageLength
  refine zco_p tkX8_imageLength 0 3 (pc' := 3) (L' := [(0, .ref v0)]) (S' := [.ref v0, .int 3, .int 4]) rfl ?_
  refine zco_Vi (rc := 0) (rs := 0) (mc := 0) (ms := 0) (As := []) (S := [.int 3, .int 4]) vmX1_people (mtX1_people l e (by omega) v0) q_1340 rfl rfl (Nat.le_of_ble_eq_true rfl) (zdk (cc := cX8_imageLength) (q := (3, .invokevirtual 52, 3)) tkX8_imageLength 3 rfl) (fun y1 => ?_)
  refine zco_p tkX8_imageLength 4 4 (pc' := 10) (L' := [(0, .ref v0)]) (S' := [.ref v0, .int 4, .int (4 + (3 * y1))]) rfl ?_
  refine zco_gr fl_8_56 rfl (zdk (cc := cX8_imageLength) (q := (10, .getfield 56, 3)) tkX8_imageLength 8 rfl) (fun x2 => ?_)
  refine zco_p tkX8_imageLength 9 1 (pc' := 14) (L' := [(0, .ref v0)]) (S' := [.int 0, .ref x2, .int 4, .int (4 + (3 * y1))]) rfl ?_
  refine zco_iaload (zdk (cc := cX8_imageLength) (q := (14, .iaload, 1)) tkX8_imageLength 10 rfl) (fun x3 => ?_)
  refine zco_p tkX8_imageLength 11 2 (pc' := 17) (L' := [(0, .ref v0)]) (S' := [.ref v0, .int (4 * x3), .int (4 + (3 * y1))]) rfl ?_
  refine zco_gr fl_8_56 rfl (zdk (cc := cX8_imageLength) (q := (17, .getfield 56, 3)) tkX8_imageLength 13 rfl) (fun x4 => ?_)
  refine zco_p tkX8_imageLength 14 1 (pc' := 21) (L' := [(0, .ref v0)]) (S' := [.int 1, .ref x4, .int (4 * x3), .int (4 + (3 * y1))]) rfl ?_
  refine zco_iaload (zdk (cc := cX8_imageLength) (q := (21, .iaload, 1)) tkX8_imageLength 15 rfl) (fun x5 => ?_)
  refine zco_p tkX8_imageLength 16 2 (pc' := 24) (L' := [(0, .ref v0)]) (S' := [.int ((4 + (3 * y1)) + ((4 * x3) * x5))]) rfl ?_
  exact zco_iret rfl rfl rfl (zdk (cc := cX8_imageLength) (q := (24, .ireturn, 1)) tkX8_imageLength 18 rfl)
theorem mtX8_imageLength (l : Launch) (d : Nat) (hd : 2 ≤ d) (v0 : Nat) : zMet l d 0 0 yX8_imageLength cX8_imageLength 1 (Option.some .int) [.ref v0] (X8_imageLength v0) := by
  obtain ⟨e, rfl⟩ : ∃ e, d = e + 1 := ⟨d - 1, by omega⟩
  exact zmet_of (own := RX8) (ini := false) (by decide +kernel) rfl (fun _ => by contradiction) (Nat.le_of_ble_eq_true rfl) (coX8_imageLength l e (by omega) v0)
abbrev iX8_writeOne : zI := (RX8, cX8_writeOne, 8, (Option.some .int), false)
def tX8_writeOne : List (Nat × Instr × Nat) := [(0, .aload_n 3, 1), (1, .iload 4, 2), (3, .aload_n 0, 1), (4, .getfield 22, 3), (7, .iload_n 2, 1), (8, .iaload, 1), (9, .iconst (-1), 1), (10, .if_icmp .ne 9, 3), (13, .sipush 255, 3), (16, .goto 13, 3), (19, .aload_n 1, 1), (20, .aload_n 0, 1), (21, .getfield 22, 3), (24, .iload_n 2, 1), (25, .iaload, 1), (26, .invokevirtual 66, 3), (29, .iastore, 1), (30, .aload_n 3, 1), (31, .iload 4, 2), (33, .iconst 1, 1), (34, .iadd, 1), (35, .aload_n 0, 1), (36, .getfield 25, 3), (39, .iload_n 2, 1), (40, .iaload, 1), (41, .iastore, 1), (42, .iload 4, 2), (44, .iconst 2, 1), (45, .iadd, 1), (46, .istore 5, 2), (48, .aload_n 1, 1), (49, .getfield 56, 3), (52, .iconst 1, 1), (53, .iload_n 2, 1), (54, .invokestatic 48, 3), (57, .isub, 1), (58, .iaload, 1), (59, .istore 6, 2), (61, .iconst 0, 1), (62, .istore 7, 2), (64, .iload 7, 2), (66, .iload 6, 2), (68, .if_icmp .ge 46, 3), (71, .aload_n 3, 1), (72, .iload 5, 2), (74, .aload_n 0, 1), (75, .getfield 31, 3), (78, .iload_n 2, 1), (79, .bipush 6, 2), (81, .imul, 1), (82, .iload 7, 2), (84, .iadd, 1), (85, .iaload, 1), (86, .iastore, 1), (87, .aload_n 3, 1), (88, .iload 5, 2), (90, .iconst 1, 1), (91, .iadd, 1), (92, .aload_n 0, 1), (93, .getfield 34, 3), (96, .iload_n 2, 1), (97, .bipush 6, 2), (99, .imul, 1), (100, .iload 7, 2), (102, .iadd, 1), (103, .iaload, 1), (104, .iastore, 1), (105, .iinc 5 2, 3), (108, .iinc 7 1, 3), (111, .goto (-47), 3), (114, .iload 5, 2), (116, .ireturn, 1)]
set_option maxRecDepth 100000 in
theorem tkX8_writeOne : ∀ q ∈ tX8_writeOne, decode cX8_writeOne q.1 = .ok q.2 := by decide +kernel
theorem vmX8_writeOne : zVM yX8_writeOne cX8_writeOne 8 (Option.some .int) 4 8 := ⟨kX8_writeOne, q_1345, q_43, q_156, ⟨_, rfl, rfl⟩, by decide +kernel, by decide⟩
set_option maxHeartbeats 2000000 in
set_option maxRecDepth 20000 in
theorem coX8_writeOne_B64 (l : Launch) (e : Nat) (he : 1 ≤ e) (v0 : Nat) (v2 : Int32) (v3 : Nat) (v6 : Int32) (r64 : Int32 × Int32 → zM) (hr64 : ∀ x : Int32 × Int32, zCo l (e + 1) 0 0 iX8_writeOne 64 [(0, .ref v0), (2, .int v2), (3, .ref v3), (5, .int x.1), (6, .int v6), (7, .int x.2)] [] (r64 x)) (v5 : Int32) (v7 : Int32) : zCo l (e + 1) 0 0 iX8_writeOne 64 [(0, .ref v0), (2, .int v2), (3, .ref v3), (5, .int v5), (6, .int v6), (7, .int v7)] [] (X8_writeOne_B64 v0 v2 v3 v6 r64 v5 v7) := by
  unfold X8_writeOne_B64
  refine zco_p tkX8_writeOne 40 2 (pc' := 68) (L' := [(0, .ref v0), (2, .int v2), (3, .ref v3), (5, .int v5), (6, .int v6), (7, .int v7)]) (S' := [.int v6, .int v7]) rfl ?_
  refine zco_icmp_ge (tgt := 114) (zdk (cc := cX8_writeOne) (q := (68, .if_icmp .ge 46, 3)) tkX8_writeOne 42 rfl) rfl ?_ ?_
  · refine zco_p tkX8_writeOne 70 1 (pc' := 116) (L' := [(0, .ref v0), (2, .int v2), (3, .ref v3), (5, .int v5), (6, .int v6), (7, .int v7)]) (S' := [.int v5]) rfl ?_
    exact zco_iret rfl rfl rfl (zdk (cc := cX8_writeOne) (q := (116, .ireturn, 1)) tkX8_writeOne 71 rfl)
  · refine zco_p tkX8_writeOne 43 3 (pc' := 75) (L' := [(0, .ref v0), (2, .int v2), (3, .ref v3), (5, .int v5), (6, .int v6), (7, .int v7)]) (S' := [.ref v0, .int v5, .ref v3]) rfl ?_
    refine zco_gr fl_8_31 rfl (zdk (cc := cX8_writeOne) (q := (75, .getfield 31, 3)) tkX8_writeOne 46 rfl) (fun x1 => ?_)
    refine zco_p tkX8_writeOne 47 5 (pc' := 85) (L' := [(0, .ref v0), (2, .int v2), (3, .ref v3), (5, .int v5), (6, .int v6), (7, .int v7)]) (S' := [.int ((v2 * 6) + v7), .ref x1, .int v5, .ref v3]) rfl ?_
    refine zco_iaload (zdk (cc := cX8_writeOne) (q := (85, .iaload, 1)) tkX8_writeOne 52 rfl) (fun x2 => ?_)
    refine zco_iastore (zdk (cc := cX8_writeOne) (q := (86, .iastore, 1)) tkX8_writeOne 53 rfl) ?_
    refine zco_p tkX8_writeOne 54 5 (pc' := 93) (L' := [(0, .ref v0), (2, .int v2), (3, .ref v3), (5, .int v5), (6, .int v6), (7, .int v7)]) (S' := [.ref v0, .int (v5 + 1), .ref v3]) rfl ?_
    refine zco_gr fl_8_34 rfl (zdk (cc := cX8_writeOne) (q := (93, .getfield 34, 3)) tkX8_writeOne 59 rfl) (fun x3 => ?_)
    refine zco_p tkX8_writeOne 60 5 (pc' := 103) (L' := [(0, .ref v0), (2, .int v2), (3, .ref v3), (5, .int v5), (6, .int v6), (7, .int v7)]) (S' := [.int ((v2 * 6) + v7), .ref x3, .int (v5 + 1), .ref v3]) rfl ?_
    refine zco_iaload (zdk (cc := cX8_writeOne) (q := (103, .iaload, 1)) tkX8_writeOne 65 rfl) (fun x4 => ?_)
    refine zco_iastore (zdk (cc := cX8_writeOne) (q := (104, .iastore, 1)) tkX8_writeOne 66 rfl) ?_
    refine zco_p tkX8_writeOne 67 3 (pc' := 64) (L' := [(7, .int (v7 + 1)), (5, .int (v5 + 2)), (0, .ref v0), (2, .int v2), (3, .ref v3), (6, .int v6)]) (S' := []) rfl ?_
    exact zco_sub [2, 3, 4, 1, 5, 0] rfl (hr64 (v5 + 2, v7 + 1))
set_option maxHeartbeats 2000000 in
set_option maxRecDepth 20000 in
theorem coX8_writeOne_J29 (l : Launch) (e : Nat) (he : 1 ≤ e) (v0 : Nat) (v1 : Nat) (v2 : Int32) (v3 : Nat) (v4 : Int32) (s0 : Int32) (s1 : Int32) (s2 : Nat) : zCo l (e + 1) 0 0 iX8_writeOne 29 [(0, .ref v0), (1, .ref v1), (2, .int v2), (3, .ref v3), (4, .int v4)] [.int s0, .int s1, .ref s2] (X8_writeOne_J29 v0 v1 v2 v3 v4 s0 s1 s2) := by
  unfold X8_writeOne_J29
  refine zco_iastore (zdk (cc := cX8_writeOne) (q := (29, .iastore, 1)) tkX8_writeOne 16 rfl) ?_
  refine zco_p tkX8_writeOne 17 5 (pc' := 36) (L' := [(0, .ref v0), (1, .ref v1), (2, .int v2), (3, .ref v3), (4, .int v4)]) (S' := [.ref v0, .int (v4 + 1), .ref v3]) rfl ?_
  refine zco_gr fl_8_25 rfl (zdk (cc := cX8_writeOne) (q := (36, .getfield 25, 3)) tkX8_writeOne 22 rfl) (fun x1 => ?_)
  refine zco_p tkX8_writeOne 23 1 (pc' := 40) (L' := [(0, .ref v0), (1, .ref v1), (2, .int v2), (3, .ref v3), (4, .int v4)]) (S' := [.int v2, .ref x1, .int (v4 + 1), .ref v3]) rfl ?_
  refine zco_iaload (zdk (cc := cX8_writeOne) (q := (40, .iaload, 1)) tkX8_writeOne 24 rfl) (fun x2 => ?_)
  refine zco_iastore (zdk (cc := cX8_writeOne) (q := (41, .iastore, 1)) tkX8_writeOne 25 rfl) ?_
  refine zco_p tkX8_writeOne 26 5 (pc' := 49) (L' := [(5, .int (v4 + 2)), (0, .ref v0), (1, .ref v1), (2, .int v2), (3, .ref v3), (4, .int v4)]) (S' := [.ref v1]) rfl ?_
  refine zco_gr fl_8_56 rfl (zdk (cc := cX8_writeOne) (q := (49, .getfield 56, 3)) tkX8_writeOne 31 rfl) (fun x3 => ?_)
  refine zco_p tkX8_writeOne 32 2 (pc' := 54) (L' := [(5, .int (v4 + 2)), (0, .ref v0), (1, .ref v1), (2, .int v2), (3, .ref v3), (4, .int v4)]) (S' := [.int v2, .int 1, .ref x3]) rfl ?_
  refine zco_Ni (rc := 0) (rs := 0) (mc := 0) (ms := 0) (As := [.int v2]) (S := [.int 1, .ref x3]) vmX11_sideOf (mtX11_sideOf l e (by omega) v2) (host := "ClothWedding") (by decide +kernel) rfl rfl (Nat.le_of_ble_eq_true rfl) (zdk (cc := cX8_writeOne) (q := (54, .invokestatic 48, 3)) tkX8_writeOne 34 rfl) (fun y4 => ?_)
  refine zco_p tkX8_writeOne 35 1 (pc' := 58) (L' := [(5, .int (v4 + 2)), (0, .ref v0), (1, .ref v1), (2, .int v2), (3, .ref v3), (4, .int v4)]) (S' := [.int (1 - y4), .ref x3]) rfl ?_
  refine zco_iaload (zdk (cc := cX8_writeOne) (q := (58, .iaload, 1)) tkX8_writeOne 36 rfl) (fun x5 => ?_)
  refine zco_p tkX8_writeOne 37 3 (pc' := 64) (L' := [(7, .int 0), (6, .int x5), (5, .int (v4 + 2)), (0, .ref v0), (1, .ref v1), (2, .int v2), (3, .ref v3), (4, .int v4)]) (S' := []) rfl ?_
  exact zco_sub [3, 5, 6, 2, 1, 0] rfl (zco_fix (Lf := fun x : Int32 × Int32 => [(0, .ref v0), (2, .int v2), (3, .ref v3), (5, .int x.1), (6, .int x5), (7, .int x.2)]) (Sf := fun _ => []) (fun r hr x => coX8_writeOne_B64 l e he v0 v2 v3 x5 r hr x.1 x.2) zFU (v4 + 2, 0))
set_option maxHeartbeats 2000000 in
set_option maxRecDepth 20000 in
theorem coX8_writeOne (l : Launch) (e : Nat) (he : 1 ≤ e) (v0 : Nat) (v1 : Nat) (v2 : Int32) (v3 : Nat) (v4 : Int32) : zCo l (e + 1) 0 0 iX8_writeOne 0 [(0, .ref v0), (1, .ref v1), (2, .int v2), (3, .ref v3), (4, .int v4)] [] (X8_writeOne v0 v1 v2 v3 v4) := by
  unfold X8_writeOne
  refine zco_p tkX8_writeOne 0 3 (pc' := 4) (L' := [(0, .ref v0), (1, .ref v1), (2, .int v2), (3, .ref v3), (4, .int v4)]) (S' := [.ref v0, .int v4, .ref v3]) rfl ?_
  refine zco_gr fl_8_22 rfl (zdk (cc := cX8_writeOne) (q := (4, .getfield 22, 3)) tkX8_writeOne 3 rfl) (fun x1 => ?_)
  refine zco_p tkX8_writeOne 4 1 (pc' := 8) (L' := [(0, .ref v0), (1, .ref v1), (2, .int v2), (3, .ref v3), (4, .int v4)]) (S' := [.int v2, .ref x1, .int v4, .ref v3]) rfl ?_
  refine zco_iaload (zdk (cc := cX8_writeOne) (q := (8, .iaload, 1)) tkX8_writeOne 5 rfl) (fun x2 => ?_)
  refine zco_p tkX8_writeOne 6 1 (pc' := 10) (L' := [(0, .ref v0), (1, .ref v1), (2, .int v2), (3, .ref v3), (4, .int v4)]) (S' := [.int ((-1)), .int x2, .int v4, .ref v3]) rfl ?_
  refine zco_icmp_ne (tgt := 19) (zdk (cc := cX8_writeOne) (q := (10, .if_icmp .ne 9, 3)) tkX8_writeOne 7 rfl) rfl ?_ ?_
  · refine zco_p tkX8_writeOne 10 2 (pc' := 21) (L' := [(0, .ref v0), (1, .ref v1), (2, .int v2), (3, .ref v3), (4, .int v4)]) (S' := [.ref v0, .ref v1, .int v4, .ref v3]) rfl ?_
    refine zco_gr fl_8_22 rfl (zdk (cc := cX8_writeOne) (q := (21, .getfield 22, 3)) tkX8_writeOne 12 rfl) (fun x3 => ?_)
    refine zco_p tkX8_writeOne 13 1 (pc' := 25) (L' := [(0, .ref v0), (1, .ref v1), (2, .int v2), (3, .ref v3), (4, .int v4)]) (S' := [.int v2, .ref x3, .ref v1, .int v4, .ref v3]) rfl ?_
    refine zco_iaload (zdk (cc := cX8_writeOne) (q := (25, .iaload, 1)) tkX8_writeOne 14 rfl) (fun x4 => ?_)
    refine zco_Vi (rc := 0) (rs := 0) (mc := 0) (ms := 0) (As := [.int x4]) (S := [.int v4, .ref v3]) vmX1_number (mtX1_number l e (by omega) v1 x4) q_1342 rfl rfl (Nat.le_of_ble_eq_true rfl) (zdk (cc := cX8_writeOne) (q := (26, .invokevirtual 66, 3)) tkX8_writeOne 15 rfl) (fun y5 => ?_)
    exact zco_sub [0, 1, 2, 3, 4] rfl (coX8_writeOne_J29 l e he v0 v1 v2 v3 v4 y5 v4 v3)
  · refine zco_p tkX8_writeOne 8 2 (pc' := 29) (L' := [(0, .ref v0), (1, .ref v1), (2, .int v2), (3, .ref v3), (4, .int v4)]) (S' := [.int 255, .int v4, .ref v3]) rfl ?_
    exact zco_sub [0, 1, 2, 3, 4] rfl (coX8_writeOne_J29 l e he v0 v1 v2 v3 v4 255 v4 v3)
theorem mtX8_writeOne (l : Launch) (d : Nat) (hd : 2 ≤ d) (v0 : Nat) (v1 : Nat) (v2 : Int32) (v3 : Nat) (v4 : Int32) : zMet l d 0 0 yX8_writeOne cX8_writeOne 8 (Option.some .int) [.ref v0, .ref v1, .int v2, .ref v3, .int v4] (X8_writeOne v0 v1 v2 v3 v4) := by
  obtain ⟨e, rfl⟩ : ∃ e, d = e + 1 := ⟨d - 1, by omega⟩
  exact zmet_of (own := RX8) (ini := false) (by decide +kernel) rfl (fun _ => by contradiction) (Nat.le_of_ble_eq_true rfl) (coX8_writeOne l e (by omega) v0 v1 v2 v3 v4)
abbrev iX8_checkByte : zI := (RX8, cX8_checkByte, 4, (Option.some .int), false)
def tX8_checkByte : List (Nat × Instr × Nat) := [(0, .sipush 163, 3), (3, .istore_n 2, 1), (4, .iconst 0, 1), (5, .istore_n 3, 1), (6, .iload_n 3, 1), (7, .iload_n 1, 1), (8, .if_icmp .ge 27, 3), (11, .iload_n 3, 1), (12, .aload_n 0, 1), (13, .arraylength, 1), (14, .if_icmp .ge 21, 3), (17, .iconst 3, 1), (18, .iload_n 2, 1), (19, .imul, 1), (20, .aload_n 0, 1), (21, .iload_n 3, 1), (22, .iaload, 1), (23, .iadd, 1), (24, .sipush 251, 3), (27, .irem, 1), (28, .istore_n 2, 1), (29, .iinc 3 1, 3), (32, .goto (-26), 3), (35, .iload_n 2, 1), (36, .ireturn, 1)]
set_option maxRecDepth 100000 in
theorem tkX8_checkByte : ∀ q ∈ tX8_checkByte, decode cX8_checkByte q.1 = .ok q.2 := by decide +kernel
theorem vmX8_checkByte : zSM yX8_checkByte cX8_checkByte 4 (Option.some .int) 2 := ⟨kX8_checkByte, q_1348, q_156, by decide +kernel, by decide⟩
set_option maxHeartbeats 2000000 in
set_option maxRecDepth 20000 in
theorem coX8_checkByte_B6 (l : Launch) (e : Nat) (he : 0 ≤ e) (v0 : Nat) (v1 : Int32) (r6 : Int32 × Int32 → zM) (hr6 : ∀ x : Int32 × Int32, zCo l (e + 1) 0 0 iX8_checkByte 6 [(0, .ref v0), (1, .int v1), (2, .int x.1), (3, .int x.2)] [] (r6 x)) (v2 : Int32) (v3 : Int32) : zCo l (e + 1) 0 0 iX8_checkByte 6 [(0, .ref v0), (1, .int v1), (2, .int v2), (3, .int v3)] [] (X8_checkByte_B6 v0 v1 r6 v2 v3) := by
  unfold X8_checkByte_B6
  refine zco_p tkX8_checkByte 4 2 (pc' := 8) (L' := [(0, .ref v0), (1, .int v1), (2, .int v2), (3, .int v3)]) (S' := [.int v1, .int v3]) rfl ?_
  refine zco_icmp_ge (tgt := 35) (zdk (cc := cX8_checkByte) (q := (8, .if_icmp .ge 27, 3)) tkX8_checkByte 6 rfl) rfl ?_ ?_
  · refine zco_p tkX8_checkByte 23 1 (pc' := 36) (L' := [(0, .ref v0), (1, .int v1), (2, .int v2), (3, .int v3)]) (S' := [.int v2]) rfl ?_
    exact zco_iret rfl rfl rfl (zdk (cc := cX8_checkByte) (q := (36, .ireturn, 1)) tkX8_checkByte 24 rfl)
  · refine zco_p tkX8_checkByte 7 2 (pc' := 13) (L' := [(0, .ref v0), (1, .int v1), (2, .int v2), (3, .int v3)]) (S' := [.ref v0, .int v3]) rfl ?_
    refine zco_alen (zdk (cc := cX8_checkByte) (q := (13, .arraylength, 1)) tkX8_checkByte 9 rfl) (fun x1 => ?_)
    refine zco_icmp_ge (tgt := 35) (zdk (cc := cX8_checkByte) (q := (14, .if_icmp .ge 21, 3)) tkX8_checkByte 10 rfl) rfl ?_ ?_
    · refine zco_p tkX8_checkByte 23 1 (pc' := 36) (L' := [(0, .ref v0), (1, .int v1), (2, .int v2), (3, .int v3)]) (S' := [.int v2]) rfl ?_
      exact zco_iret rfl rfl rfl (zdk (cc := cX8_checkByte) (q := (36, .ireturn, 1)) tkX8_checkByte 24 rfl)
    · refine zco_p tkX8_checkByte 11 5 (pc' := 22) (L' := [(0, .ref v0), (1, .int v1), (2, .int v2), (3, .int v3)]) (S' := [.int v3, .ref v0, .int (3 * v2)]) rfl ?_
      refine zco_iaload (zdk (cc := cX8_checkByte) (q := (22, .iaload, 1)) tkX8_checkByte 16 rfl) (fun x2 => ?_)
      refine zco_p tkX8_checkByte 17 2 (pc' := 27) (L' := [(0, .ref v0), (1, .int v1), (2, .int v2), (3, .int v3)]) (S' := [.int 251, .int ((3 * v2) + x2)]) rfl ?_
      refine zco_irem (zdk (cc := cX8_checkByte) (q := (27, .irem, 1)) tkX8_checkByte 19 rfl) ?_
      refine zco_p tkX8_checkByte 20 3 (pc' := 6) (L' := [(3, .int (v3 + 1)), (2, .int (((3 * v2) + x2) - ((3 * v2) + x2) / 251 * 251)), (0, .ref v0), (1, .int v1)]) (S' := []) rfl ?_
      exact zco_sub [2, 3, 1, 0] rfl (hr6 (((3 * v2) + x2) - ((3 * v2) + x2) / 251 * 251, v3 + 1))
set_option maxHeartbeats 2000000 in
set_option maxRecDepth 20000 in
theorem coX8_checkByte (l : Launch) (e : Nat) (he : 0 ≤ e) (v0 : Nat) (v1 : Int32) : zCo l (e + 1) 0 0 iX8_checkByte 0 [(0, .ref v0), (1, .int v1)] [] (X8_checkByte v0 v1) := by
  unfold X8_checkByte
  refine zco_p tkX8_checkByte 0 4 (pc' := 6) (L' := [(3, .int 0), (2, .int 163), (0, .ref v0), (1, .int v1)]) (S' := []) rfl ?_
  exact zco_sub [2, 3, 1, 0] rfl (zco_fix (Lf := fun x : Int32 × Int32 => [(0, .ref v0), (1, .int v1), (2, .int x.1), (3, .int x.2)]) (Sf := fun _ => []) (fun r hr x => coX8_checkByte_B6 l e he v0 v1 r hr x.1 x.2) zFU (163, 0))
theorem mtX8_checkByte (l : Launch) (d : Nat) (hd : 1 ≤ d) (v0 : Nat) (v1 : Int32) : zMet l d 0 0 yX8_checkByte cX8_checkByte 4 (Option.some .int) [.ref v0, .int v1] (X8_checkByte v0 v1) := by
  obtain ⟨e, rfl⟩ : ∃ e, d = e + 1 := ⟨d - 1, by omega⟩
  exact zmet_of (own := RX8) (ini := false) (by decide +kernel) rfl (fun _ => by contradiction) (Nat.le_of_ble_eq_true rfl) (coX8_checkByte l e (by omega) v0 v1)
abbrev iX8_write : zI := (RX8, cX8_write, 8, (Option.some .int), false)
def tX8_write : List (Nat × Instr × Nat) := [(0, .aload_n 1, 1), (1, .invokestatic 59, 3), (4, .istore_n 3, 1), (5, .iload_n 3, 1), (6, .aload_n 2, 1), (7, .arraylength, 1), (8, .if_icmp .le 5, 3), (11, .iconst 0, 1), (12, .ireturn, 1), (13, .aload_n 2, 1), (14, .iconst 0, 1), (15, .aload_n 0, 1), (16, .getfield 9, 3), (19, .sipush 256, 3), (22, .idiv, 1), (23, .iastore, 1), (24, .aload_n 2, 1), (25, .iconst 1, 1), (26, .aload_n 0, 1), (27, .getfield 9, 3), (30, .sipush 256, 3), (33, .irem, 1), (34, .iastore, 1), (35, .aload_n 2, 1), (36, .iconst 2, 1), (37, .aload_n 0, 1), (38, .getfield 15, 3), (41, .iastore, 1), (42, .iconst 3, 1), (43, .istore 4, 2), (45, .iconst 0, 1), (46, .istore 5, 2), (48, .iload 5, 2), (50, .aload_n 1, 1), (51, .invokevirtual 52, 3), (54, .if_icmp .ge 67, 3), (57, .aload_n 1, 1), (58, .iload 5, 2), (60, .invokevirtual 63, 3), (63, .istore 6, 2), (65, .iload 6, 2), (67, .bipush 6, 2), (69, .if_icmp .ge 8, 3), (72, .iload 5, 2), (74, .goto 12, 3), (77, .iload 5, 2), (79, .aload_n 1, 1), (80, .getfield 56, 3), (83, .iconst 0, 1), (84, .iaload, 1), (85, .isub, 1), (86, .istore 7, 2), (88, .aload_n 2, 1), (89, .iload 4, 2), (91, .aload_n 1, 1), (92, .aload_n 0, 1), (93, .getfield 18, 3), (96, .iload 6, 2), (98, .invokestatic 48, 3), (101, .bipush 6, 2), (103, .imul, 1), (104, .iload 7, 2), (106, .iadd, 1), (107, .iaload, 1), (108, .invokevirtual 66, 3), (111, .iastore, 1), (112, .iinc 4 1, 3), (115, .iinc 5 1, 3), (118, .goto (-70), 3), (121, .iconst 0, 1), (122, .istore 5, 2), (124, .iload 5, 2), (126, .aload_n 1, 1), (127, .invokevirtual 52, 3), (130, .if_icmp .ge 25, 3), (133, .aload_n 0, 1), (134, .aload_n 1, 1), (135, .aload_n 1, 1), (136, .iload 5, 2), (138, .invokevirtual 63, 3), (141, .aload_n 2, 1), (142, .iload 4, 2), (144, .invokevirtual 69, 3), (147, .istore 4, 2), (149, .iinc 5 1, 3), (152, .goto (-28), 3), (155, .aload_n 2, 1), (156, .iload 4, 2), (158, .aload_n 2, 1), (159, .iload 4, 2), (161, .invokestatic 73, 3), (164, .iastore, 1), (165, .iload_n 3, 1), (166, .ireturn, 1)]
set_option maxRecDepth 100000 in
theorem tkX8_write : ∀ q ∈ tX8_write, decode cX8_write q.1 = .ok q.2 := by decide +kernel
theorem vmX8_write : zVM yX8_write cX8_write 8 (Option.some .int) 2 8 := ⟨kX8_write, q_1334, q_1335, q_156, ⟨_, rfl, rfl⟩, by decide +kernel, by decide⟩
set_option maxHeartbeats 2000000 in
set_option maxRecDepth 20000 in
theorem coX8_write_J155 (l : Launch) (e : Nat) (he : 2 ≤ e) (v2 : Nat) (v3 : Int32) (v4 : Int32) : zCo l (e + 1) 0 0 iX8_write 155 [(2, .ref v2), (3, .int v3), (4, .int v4)] [] (X8_write_J155 v2 v3 v4) := by
  unfold X8_write_J155
  refine zco_p tkX8_write 86 4 (pc' := 161) (L' := [(2, .ref v2), (3, .int v3), (4, .int v4)]) (S' := [.int v4, .ref v2, .int v4, .ref v2]) rfl ?_
  refine zco_Si (rc := 0) (rs := 0) (mc := 0) (ms := 0) (As := [.ref v2, .int v4]) (S := [.int v4, .ref v2]) vmX8_checkByte (mtX8_checkByte l e (by omega) v2 v4) q_1347 rfl rfl (Nat.le_of_ble_eq_true rfl) (zdk (cc := cX8_write) (q := (161, .invokestatic 73, 3)) tkX8_write 90 rfl) (fun y1 => ?_)
  refine zco_iastore (zdk (cc := cX8_write) (q := (164, .iastore, 1)) tkX8_write 91 rfl) ?_
  refine zco_p tkX8_write 92 1 (pc' := 166) (L' := [(2, .ref v2), (3, .int v3), (4, .int v4)]) (S' := [.int v3]) rfl ?_
  exact zco_iret rfl rfl rfl (zdk (cc := cX8_write) (q := (166, .ireturn, 1)) tkX8_write 93 rfl)
set_option maxHeartbeats 2000000 in
set_option maxRecDepth 20000 in
theorem coX8_write_B124 (l : Launch) (e : Nat) (he : 2 ≤ e) (v0 : Nat) (v1 : Nat) (v2 : Nat) (v3 : Int32) (r124 : Int32 × Int32 → zM) (hr124 : ∀ x : Int32 × Int32, zCo l (e + 1) 0 0 iX8_write 124 [(0, .ref v0), (1, .ref v1), (2, .ref v2), (3, .int v3), (4, .int x.1), (5, .int x.2)] [] (r124 x)) (v4 : Int32) (v5 : Int32) : zCo l (e + 1) 0 0 iX8_write 124 [(0, .ref v0), (1, .ref v1), (2, .ref v2), (3, .int v3), (4, .int v4), (5, .int v5)] [] (X8_write_B124 v0 v1 v2 v3 r124 v4 v5) := by
  unfold X8_write_B124
  refine zco_p tkX8_write 71 2 (pc' := 127) (L' := [(0, .ref v0), (1, .ref v1), (2, .ref v2), (3, .int v3), (4, .int v4), (5, .int v5)]) (S' := [.ref v1, .int v5]) rfl ?_
  refine zco_Vi (rc := 0) (rs := 0) (mc := 0) (ms := 0) (As := []) (S := [.int v5]) vmX1_people (mtX1_people l e (by omega) v1) q_1340 rfl rfl (Nat.le_of_ble_eq_true rfl) (zdk (cc := cX8_write) (q := (127, .invokevirtual 52, 3)) tkX8_write 73 rfl) (fun y1 => ?_)
  refine zco_icmp_ge (tgt := 155) (zdk (cc := cX8_write) (q := (130, .if_icmp .ge 25, 3)) tkX8_write 74 rfl) rfl ?_ ?_
  · exact zco_sub [2, 3, 4] rfl (coX8_write_J155 l e he v2 v3 v4)
  · refine zco_p tkX8_write 75 4 (pc' := 138) (L' := [(0, .ref v0), (1, .ref v1), (2, .ref v2), (3, .int v3), (4, .int v4), (5, .int v5)]) (S' := [.int v5, .ref v1, .ref v1, .ref v0]) rfl ?_
    refine zco_Vi (rc := 0) (rs := 0) (mc := 0) (ms := 0) (As := [.int v5]) (S := [.ref v1, .ref v0]) vmX1_slot (mtX1_slot l e (by omega) v1 v5) q_1341 rfl rfl (Nat.le_of_ble_eq_true rfl) (zdk (cc := cX8_write) (q := (138, .invokevirtual 63, 3)) tkX8_write 79 rfl) (fun y2 => ?_)
    refine zco_p tkX8_write 80 2 (pc' := 144) (L' := [(0, .ref v0), (1, .ref v1), (2, .ref v2), (3, .int v3), (4, .int v4), (5, .int v5)]) (S' := [.int v4, .ref v2, .int y2, .ref v1, .ref v0]) rfl ?_
    refine zco_Vi (rc := 0) (rs := 0) (mc := 0) (ms := 0) (As := [.ref v1, .int y2, .ref v2, .int v4]) (S := []) vmX8_writeOne (mtX8_writeOne l e (by omega) v0 v1 y2 v2 v4) q_1343 rfl rfl (Nat.le_of_ble_eq_true rfl) (zdk (cc := cX8_write) (q := (144, .invokevirtual 69, 3)) tkX8_write 82 rfl) (fun y3 => ?_)
    refine zco_p tkX8_write 83 3 (pc' := 124) (L' := [(5, .int (v5 + 1)), (4, .int y3), (0, .ref v0), (1, .ref v1), (2, .ref v2), (3, .int v3)]) (S' := []) rfl ?_
    exact zco_sub [2, 3, 4, 5, 1, 0] rfl (hr124 (y3, v5 + 1))
set_option maxHeartbeats 2000000 in
set_option maxRecDepth 20000 in
theorem coX8_write_J121 (l : Launch) (e : Nat) (he : 2 ≤ e) (v0 : Nat) (v1 : Nat) (v2 : Nat) (v3 : Int32) (v4 : Int32) : zCo l (e + 1) 0 0 iX8_write 121 [(0, .ref v0), (1, .ref v1), (2, .ref v2), (3, .int v3), (4, .int v4)] [] (X8_write_J121 v0 v1 v2 v3 v4) := by
  unfold X8_write_J121
  refine zco_p tkX8_write 69 2 (pc' := 124) (L' := [(5, .int 0), (0, .ref v0), (1, .ref v1), (2, .ref v2), (3, .int v3), (4, .int v4)]) (S' := []) rfl ?_
  exact zco_sub [1, 2, 3, 4, 5, 0] rfl (zco_fix (Lf := fun x : Int32 × Int32 => [(0, .ref v0), (1, .ref v1), (2, .ref v2), (3, .int v3), (4, .int x.1), (5, .int x.2)]) (Sf := fun _ => []) (fun r hr x => coX8_write_B124 l e he v0 v1 v2 v3 r hr x.1 x.2) zFU (v4, 0))
set_option maxHeartbeats 2000000 in
set_option maxRecDepth 20000 in
theorem coX8_write_J86 (l : Launch) (e : Nat) (he : 2 ≤ e) (v0 : Nat) (v1 : Nat) (v2 : Nat) (v3 : Int32) (v4 : Int32) (v5 : Int32) (v6 : Int32) (r48 : Int32 × Int32 → zM) (hr48 : ∀ x : Int32 × Int32, zCo l (e + 1) 0 0 iX8_write 48 [(0, .ref v0), (1, .ref v1), (2, .ref v2), (3, .int v3), (4, .int x.1), (5, .int x.2)] [] (r48 x)) (s0 : Int32) : zCo l (e + 1) 0 0 iX8_write 86 [(0, .ref v0), (1, .ref v1), (2, .ref v2), (3, .int v3), (4, .int v4), (5, .int v5), (6, .int v6)] [.int s0] (X8_write_J86 r48 v0 v1 v2 v3 v4 v5 v6 s0) := by
  unfold X8_write_J86
  refine zco_p tkX8_write 51 5 (pc' := 93) (L' := [(7, .int s0), (0, .ref v0), (1, .ref v1), (2, .ref v2), (3, .int v3), (4, .int v4), (5, .int v5), (6, .int v6)]) (S' := [.ref v0, .ref v1, .int v4, .ref v2]) rfl ?_
  refine zco_gr fl_8_18 rfl (zdk (cc := cX8_write) (q := (93, .getfield 18, 3)) tkX8_write 56 rfl) (fun x1 => ?_)
  refine zco_p tkX8_write 57 1 (pc' := 98) (L' := [(7, .int s0), (0, .ref v0), (1, .ref v1), (2, .ref v2), (3, .int v3), (4, .int v4), (5, .int v5), (6, .int v6)]) (S' := [.int v6, .ref x1, .ref v1, .int v4, .ref v2]) rfl ?_
  refine zco_Ni (rc := 0) (rs := 0) (mc := 0) (ms := 0) (As := [.int v6]) (S := [.ref x1, .ref v1, .int v4, .ref v2]) vmX11_sideOf (mtX11_sideOf l e (by omega) v6) (host := "ClothWedding") (by decide +kernel) rfl rfl (Nat.le_of_ble_eq_true rfl) (zdk (cc := cX8_write) (q := (98, .invokestatic 48, 3)) tkX8_write 58 rfl) (fun y2 => ?_)
  refine zco_p tkX8_write 59 4 (pc' := 107) (L' := [(7, .int s0), (0, .ref v0), (1, .ref v1), (2, .ref v2), (3, .int v3), (4, .int v4), (5, .int v5), (6, .int v6)]) (S' := [.int ((y2 * 6) + s0), .ref x1, .ref v1, .int v4, .ref v2]) rfl ?_
  refine zco_iaload (zdk (cc := cX8_write) (q := (107, .iaload, 1)) tkX8_write 63 rfl) (fun x3 => ?_)
  refine zco_Vi (rc := 0) (rs := 0) (mc := 0) (ms := 0) (As := [.int x3]) (S := [.int v4, .ref v2]) vmX1_number (mtX1_number l e (by omega) v1 x3) q_1342 rfl rfl (Nat.le_of_ble_eq_true rfl) (zdk (cc := cX8_write) (q := (108, .invokevirtual 66, 3)) tkX8_write 64 rfl) (fun y4 => ?_)
  refine zco_iastore (zdk (cc := cX8_write) (q := (111, .iastore, 1)) tkX8_write 65 rfl) ?_
  refine zco_p tkX8_write 66 3 (pc' := 48) (L' := [(5, .int (v5 + 1)), (4, .int (v4 + 1)), (7, .int s0), (0, .ref v0), (1, .ref v1), (2, .ref v2), (3, .int v3), (6, .int v6)]) (S' := []) rfl ?_
  exact zco_sub [3, 4, 5, 6, 1, 0] rfl (hr48 (v4 + 1, v5 + 1))
set_option maxHeartbeats 2000000 in
set_option maxRecDepth 20000 in
theorem coX8_write_B48 (l : Launch) (e : Nat) (he : 2 ≤ e) (v0 : Nat) (v1 : Nat) (v2 : Nat) (v3 : Int32) (r48 : Int32 × Int32 → zM) (hr48 : ∀ x : Int32 × Int32, zCo l (e + 1) 0 0 iX8_write 48 [(0, .ref v0), (1, .ref v1), (2, .ref v2), (3, .int v3), (4, .int x.1), (5, .int x.2)] [] (r48 x)) (v4 : Int32) (v5 : Int32) : zCo l (e + 1) 0 0 iX8_write 48 [(0, .ref v0), (1, .ref v1), (2, .ref v2), (3, .int v3), (4, .int v4), (5, .int v5)] [] (X8_write_B48 v0 v1 v2 v3 r48 v4 v5) := by
  unfold X8_write_B48
  refine zco_p tkX8_write 32 2 (pc' := 51) (L' := [(0, .ref v0), (1, .ref v1), (2, .ref v2), (3, .int v3), (4, .int v4), (5, .int v5)]) (S' := [.ref v1, .int v5]) rfl ?_
  refine zco_Vi (rc := 0) (rs := 0) (mc := 0) (ms := 0) (As := []) (S := [.int v5]) vmX1_people (mtX1_people l e (by omega) v1) q_1340 rfl rfl (Nat.le_of_ble_eq_true rfl) (zdk (cc := cX8_write) (q := (51, .invokevirtual 52, 3)) tkX8_write 34 rfl) (fun y1 => ?_)
  refine zco_icmp_ge (tgt := 121) (zdk (cc := cX8_write) (q := (54, .if_icmp .ge 67, 3)) tkX8_write 35 rfl) rfl ?_ ?_
  · exact zco_sub [0, 1, 2, 3, 4] rfl (coX8_write_J121 l e he v0 v1 v2 v3 v4)
  · refine zco_p tkX8_write 36 2 (pc' := 60) (L' := [(0, .ref v0), (1, .ref v1), (2, .ref v2), (3, .int v3), (4, .int v4), (5, .int v5)]) (S' := [.int v5, .ref v1]) rfl ?_
    refine zco_Vi (rc := 0) (rs := 0) (mc := 0) (ms := 0) (As := [.int v5]) (S := []) vmX1_slot (mtX1_slot l e (by omega) v1 v5) q_1341 rfl rfl (Nat.le_of_ble_eq_true rfl) (zdk (cc := cX8_write) (q := (60, .invokevirtual 63, 3)) tkX8_write 38 rfl) (fun y2 => ?_)
    refine zco_p tkX8_write 39 3 (pc' := 69) (L' := [(6, .int y2), (0, .ref v0), (1, .ref v1), (2, .ref v2), (3, .int v3), (4, .int v4), (5, .int v5)]) (S' := [.int 6, .int y2]) rfl ?_
    refine zco_icmp_ge (tgt := 77) (zdk (cc := cX8_write) (q := (69, .if_icmp .ge 8, 3)) tkX8_write 42 rfl) rfl ?_ ?_
    · refine zco_p tkX8_write 45 2 (pc' := 80) (L' := [(6, .int y2), (0, .ref v0), (1, .ref v1), (2, .ref v2), (3, .int v3), (4, .int v4), (5, .int v5)]) (S' := [.ref v1, .int v5]) rfl ?_
      refine zco_gr fl_8_56 rfl (zdk (cc := cX8_write) (q := (80, .getfield 56, 3)) tkX8_write 47 rfl) (fun x3 => ?_)
      refine zco_p tkX8_write 48 1 (pc' := 84) (L' := [(6, .int y2), (0, .ref v0), (1, .ref v1), (2, .ref v2), (3, .int v3), (4, .int v4), (5, .int v5)]) (S' := [.int 0, .ref x3, .int v5]) rfl ?_
      refine zco_iaload (zdk (cc := cX8_write) (q := (84, .iaload, 1)) tkX8_write 49 rfl) (fun x4 => ?_)
      refine zco_p tkX8_write 50 1 (pc' := 86) (L' := [(6, .int y2), (0, .ref v0), (1, .ref v1), (2, .ref v2), (3, .int v3), (4, .int v4), (5, .int v5)]) (S' := [.int (v5 - x4)]) rfl ?_
      exact zco_sub [1, 2, 3, 4, 5, 6, 0] rfl (coX8_write_J86 l e he v0 v1 v2 v3 v4 v5 y2 r48 hr48 (v5 - x4))
    · refine zco_p tkX8_write 43 2 (pc' := 86) (L' := [(6, .int y2), (0, .ref v0), (1, .ref v1), (2, .ref v2), (3, .int v3), (4, .int v4), (5, .int v5)]) (S' := [.int v5]) rfl ?_
      exact zco_sub [1, 2, 3, 4, 5, 6, 0] rfl (coX8_write_J86 l e he v0 v1 v2 v3 v4 v5 y2 r48 hr48 v5)
set_option maxHeartbeats 2000000 in
set_option maxRecDepth 20000 in
theorem coX8_write (l : Launch) (e : Nat) (he : 2 ≤ e) (v0 : Nat) (v1 : Nat) (v2 : Nat) : zCo l (e + 1) 0 0 iX8_write 0 [(0, .ref v0), (1, .ref v1), (2, .ref v2)] [] (X8_write v0 v1 v2) := by
  unfold X8_write
  refine zco_p tkX8_write 0 1 (pc' := 1) (L' := [(0, .ref v0), (1, .ref v1), (2, .ref v2)]) (S' := [.ref v1]) rfl ?_
  refine zco_Si (rc := 0) (rs := 0) (mc := 0) (ms := 0) (As := [.ref v1]) (S := []) vmX8_imageLength (mtX8_imageLength l e (by omega) v1) q_1337 rfl rfl (Nat.le_of_ble_eq_true rfl) (zdk (cc := cX8_write) (q := (1, .invokestatic 59, 3)) tkX8_write 1 rfl) (fun y1 => ?_)
  refine zco_p tkX8_write 2 3 (pc' := 7) (L' := [(3, .int y1), (0, .ref v0), (1, .ref v1), (2, .ref v2)]) (S' := [.ref v2, .int y1]) rfl ?_
  refine zco_alen (zdk (cc := cX8_write) (q := (7, .arraylength, 1)) tkX8_write 5 rfl) (fun x2 => ?_)
  refine zco_icmp_le (tgt := 13) (zdk (cc := cX8_write) (q := (8, .if_icmp .le 5, 3)) tkX8_write 6 rfl) rfl ?_ ?_
  · refine zco_p tkX8_write 9 3 (pc' := 16) (L' := [(3, .int y1), (0, .ref v0), (1, .ref v1), (2, .ref v2)]) (S' := [.ref v0, .int 0, .ref v2]) rfl ?_
    refine zco_gi fl_8_9 rfl (zdk (cc := cX8_write) (q := (16, .getfield 9, 3)) tkX8_write 12 rfl) (fun x3 => ?_)
    refine zco_p tkX8_write 13 1 (pc' := 22) (L' := [(3, .int y1), (0, .ref v0), (1, .ref v1), (2, .ref v2)]) (S' := [.int 256, .int x3, .int 0, .ref v2]) rfl ?_
    refine zco_idiv (zdk (cc := cX8_write) (q := (22, .idiv, 1)) tkX8_write 14 rfl) ?_
    refine zco_iastore (zdk (cc := cX8_write) (q := (23, .iastore, 1)) tkX8_write 15 rfl) ?_
    refine zco_p tkX8_write 16 3 (pc' := 27) (L' := [(3, .int y1), (0, .ref v0), (1, .ref v1), (2, .ref v2)]) (S' := [.ref v0, .int 1, .ref v2]) rfl ?_
    refine zco_gi fl_8_9 rfl (zdk (cc := cX8_write) (q := (27, .getfield 9, 3)) tkX8_write 19 rfl) (fun x4 => ?_)
    refine zco_p tkX8_write 20 1 (pc' := 33) (L' := [(3, .int y1), (0, .ref v0), (1, .ref v1), (2, .ref v2)]) (S' := [.int 256, .int x4, .int 1, .ref v2]) rfl ?_
    refine zco_irem (zdk (cc := cX8_write) (q := (33, .irem, 1)) tkX8_write 21 rfl) ?_
    refine zco_iastore (zdk (cc := cX8_write) (q := (34, .iastore, 1)) tkX8_write 22 rfl) ?_
    refine zco_p tkX8_write 23 3 (pc' := 38) (L' := [(3, .int y1), (0, .ref v0), (1, .ref v1), (2, .ref v2)]) (S' := [.ref v0, .int 2, .ref v2]) rfl ?_
    refine zco_gi fl_8_15 rfl (zdk (cc := cX8_write) (q := (38, .getfield 15, 3)) tkX8_write 26 rfl) (fun x5 => ?_)
    refine zco_iastore (zdk (cc := cX8_write) (q := (41, .iastore, 1)) tkX8_write 27 rfl) ?_
    refine zco_p tkX8_write 28 4 (pc' := 48) (L' := [(5, .int 0), (4, .int 3), (3, .int y1), (0, .ref v0), (1, .ref v1), (2, .ref v2)]) (S' := []) rfl ?_
    exact zco_sub [3, 4, 5, 2, 1, 0] rfl (zco_fix (Lf := fun x : Int32 × Int32 => [(0, .ref v0), (1, .ref v1), (2, .ref v2), (3, .int y1), (4, .int x.1), (5, .int x.2)]) (Sf := fun _ => []) (fun r hr x => coX8_write_B48 l e he v0 v1 v2 y1 r hr x.1 x.2) zFU (3, 0))
  · refine zco_p tkX8_write 7 1 (pc' := 12) (L' := [(3, .int y1), (0, .ref v0), (1, .ref v1), (2, .ref v2)]) (S' := [.int 0]) rfl ?_
    exact zco_iret rfl rfl rfl (zdk (cc := cX8_write) (q := (12, .ireturn, 1)) tkX8_write 8 rfl)
theorem mtX8_write (l : Launch) (d : Nat) (hd : 3 ≤ d) (v0 : Nat) (v1 : Nat) (v2 : Nat) : zMet l d 0 0 yX8_write cX8_write 8 (Option.some .int) [.ref v0, .ref v1, .ref v2] (X8_write v0 v1 v2) := by
  obtain ⟨e, rfl⟩ : ∃ e, d = e + 1 := ⟨d - 1, by omega⟩
  exact zmet_of (own := RX8) (ini := false) (by decide +kernel) rfl (fun _ => by contradiction) (Nat.le_of_ble_eq_true rfl) (coX8_write l e (by omega) v0 v1 v2)
abbrev iX11_image : zI := (RX11, cX11_image, 1, (Option.some .int), false)
def tX11_image : List (Nat × Instr × Nat) := [(0, .aload_n 0, 1), (1, .aload_n 0, 1), (2, .getfield 61, 3), (5, .aload_n 0, 1), (6, .getfield 51, 3), (9, .aload_n 0, 1), (10, .getfield 103, 3), (13, .invokevirtual 358, 3), (16, .putfield 106, 3), (19, .aload_n 0, 1), (20, .getfield 106, 3), (23, .ireturn, 1)]
set_option maxRecDepth 100000 in
theorem tkX11_image : ∀ q ∈ tX11_image, decode cX11_image q.1 = .ok q.2 := by decide +kernel
theorem vmX11_image : zVM yX11_image cX11_image 1 (Option.some .int) 0 11 := ⟨kX11_image, q_1330, q_1331, q_149, ⟨_, rfl, rfl⟩, by decide +kernel, by decide⟩
set_option maxHeartbeats 2000000 in
set_option maxRecDepth 20000 in
theorem coX11_image (l : Launch) (e : Nat) (he : 3 ≤ e) (v0 : Nat) : zCo l (e + 1) 0 0 iX11_image 0 [(0, .ref v0)] [] (X11_image v0) := by
  unfold X11_image
  refine zco_p tkX11_image 0 2 (pc' := 2) (L' := [(0, .ref v0)]) (S' := [.ref v0, .ref v0]) rfl ?_
  refine zco_gr fl_11_61 rfl (zdk (cc := cX11_image) (q := (2, .getfield 61, 3)) tkX11_image 2 rfl) (fun x1 => ?_)
  refine zco_p tkX11_image 3 1 (pc' := 6) (L' := [(0, .ref v0)]) (S' := [.ref v0, .ref x1, .ref v0]) rfl ?_
  refine zco_gr fl_11_51 rfl (zdk (cc := cX11_image) (q := (6, .getfield 51, 3)) tkX11_image 4 rfl) (fun x2 => ?_)
  refine zco_p tkX11_image 5 1 (pc' := 10) (L' := [(0, .ref v0)]) (S' := [.ref v0, .ref x2, .ref x1, .ref v0]) rfl ?_
  refine zco_gr fl_11_103 rfl (zdk (cc := cX11_image) (q := (10, .getfield 103, 3)) tkX11_image 6 rfl) (fun x3 => ?_)
  refine zco_Vi (rc := 0) (rs := 0) (mc := 0) (ms := 0) (As := [.ref x2, .ref x3]) (S := [.ref v0]) vmX8_write (mtX8_write l e (by omega) x1 x2 x3) q_1333 rfl rfl (Nat.le_of_ble_eq_true rfl) (zdk (cc := cX11_image) (q := (13, .invokevirtual 358, 3)) tkX11_image 7 rfl) (fun y4 => ?_)
  refine zco_pi fl_11_106 rfl rfl (zdk (cc := cX11_image) (q := (16, .putfield 106, 3)) tkX11_image 8 rfl) ?_
  refine zco_p tkX11_image 9 1 (pc' := 20) (L' := [(0, .ref v0)]) (S' := [.ref v0]) rfl ?_
  refine zco_gi fl_11_106 rfl (zdk (cc := cX11_image) (q := (20, .getfield 106, 3)) tkX11_image 10 rfl) (fun x5 => ?_)
  exact zco_iret rfl rfl rfl (zdk (cc := cX11_image) (q := (23, .ireturn, 1)) tkX11_image 11 rfl)
theorem mtX11_image (l : Launch) (d : Nat) (hd : 4 ≤ d) (v0 : Nat) : zMet l d 0 0 yX11_image cX11_image 1 (Option.some .int) [.ref v0] (X11_image v0) := by
  obtain ⟨e, rfl⟩ : ∃ e, d = e + 1 := ⟨d - 1, by omega⟩
  exact zmet_of (own := RX11) (ini := false) (by decide +kernel) rfl (fun _ => by contradiction) (Nat.le_of_ble_eq_true rfl) (coX11_image l e (by omega) v0)
abbrev iX11_octet : zI := (RX11, cX11_octet, 2, (Option.some .int), false)
def tX11_octet : List (Nat × Instr × Nat) := [(0, .iload_n 1, 1), (1, .ifCond .lt 20, 3), (4, .iload_n 1, 1), (5, .aload_n 0, 1), (6, .getfield 106, 3), (9, .if_icmp .ge 12, 3), (12, .aload_n 0, 1), (13, .getfield 103, 3), (16, .iload_n 1, 1), (17, .iaload, 1), (18, .goto 4, 3), (21, .iconst (-1), 1), (22, .ireturn, 1)]
set_option maxRecDepth 100000 in
theorem tkX11_octet : ∀ q ∈ tX11_octet, decode cX11_octet q.1 = .ok q.2 := by decide +kernel
theorem vmX11_octet : zVM yX11_octet cX11_octet 2 (Option.some .int) 1 11 := ⟨kX11_octet, q_1351, q_1352, q_149, ⟨_, rfl, rfl⟩, by decide +kernel, by decide⟩
set_option maxHeartbeats 2000000 in
set_option maxRecDepth 20000 in
theorem coX11_octet (l : Launch) (e : Nat) (he : 0 ≤ e) (v0 : Nat) (v1 : Int32) : zCo l (e + 1) 0 0 iX11_octet 0 [(0, .ref v0), (1, .int v1)] [] (X11_octet v0 v1) := by
  unfold X11_octet
  refine zco_p tkX11_octet 0 1 (pc' := 1) (L' := [(0, .ref v0), (1, .int v1)]) (S' := [.int v1]) rfl ?_
  refine zco_if_lt (tgt := 21) (zdk (cc := cX11_octet) (q := (1, .ifCond .lt 20, 3)) tkX11_octet 1 rfl) rfl ?_ ?_
  · refine zco_p tkX11_octet 11 1 (pc' := 22) (L' := [(0, .ref v0), (1, .int v1)]) (S' := [.int ((-1))]) rfl ?_
    exact zco_iret rfl rfl rfl (zdk (cc := cX11_octet) (q := (22, .ireturn, 1)) tkX11_octet 12 rfl)
  · refine zco_p tkX11_octet 2 2 (pc' := 6) (L' := [(0, .ref v0), (1, .int v1)]) (S' := [.ref v0, .int v1]) rfl ?_
    refine zco_gi fl_11_106 rfl (zdk (cc := cX11_octet) (q := (6, .getfield 106, 3)) tkX11_octet 4 rfl) (fun x1 => ?_)
    refine zco_icmp_ge (tgt := 21) (zdk (cc := cX11_octet) (q := (9, .if_icmp .ge 12, 3)) tkX11_octet 5 rfl) rfl ?_ ?_
    · refine zco_p tkX11_octet 11 1 (pc' := 22) (L' := [(0, .ref v0), (1, .int v1)]) (S' := [.int ((-1))]) rfl ?_
      exact zco_iret rfl rfl rfl (zdk (cc := cX11_octet) (q := (22, .ireturn, 1)) tkX11_octet 12 rfl)
    · refine zco_p tkX11_octet 6 1 (pc' := 13) (L' := [(0, .ref v0), (1, .int v1)]) (S' := [.ref v0]) rfl ?_
      refine zco_gr fl_11_103 rfl (zdk (cc := cX11_octet) (q := (13, .getfield 103, 3)) tkX11_octet 7 rfl) (fun x2 => ?_)
      refine zco_p tkX11_octet 8 1 (pc' := 17) (L' := [(0, .ref v0), (1, .int v1)]) (S' := [.int v1, .ref x2]) rfl ?_
      refine zco_iaload (zdk (cc := cX11_octet) (q := (17, .iaload, 1)) tkX11_octet 9 rfl) (fun x3 => ?_)
      refine zco_p tkX11_octet 10 1 (pc' := 22) (L' := [(0, .ref v0), (1, .int v1)]) (S' := [.int x3]) rfl ?_
      exact zco_iret rfl rfl rfl (zdk (cc := cX11_octet) (q := (22, .ireturn, 1)) tkX11_octet 12 rfl)
theorem mtX11_octet (l : Launch) (d : Nat) (hd : 1 ≤ d) (v0 : Nat) (v1 : Int32) : zMet l d 0 0 yX11_octet cX11_octet 2 (Option.some .int) [.ref v0, .int v1] (X11_octet v0 v1) := by
  obtain ⟨e, rfl⟩ : ∃ e, d = e + 1 := ⟨d - 1, by omega⟩
  exact zmet_of (own := RX11) (ini := false) (by decide +kernel) rfl (fun _ => by contradiction) (Nat.le_of_ble_eq_true rfl) (coX11_octet l e (by omega) v0 v1)
abbrev iX8_readOrders : zI := (RX8, cX8_readOrders, 7, (Option.some .boolean), false)
def tX8_readOrders : List (Nat × Instr × Nat) := [(0, .iconst 0, 1), (1, .istore_n 3, 1), (2, .iconst 0, 1), (3, .istore 4, 2), (5, .iload 4, 2), (7, .aload_n 1, 1), (8, .invokevirtual 52, 3), (11, .if_icmp .ge 76, 3), (14, .aload_n 1, 1), (15, .iload 4, 2), (17, .invokevirtual 63, 3), (20, .istore 5, 2), (22, .aload_n 1, 1), (23, .aload_n 2, 1), (24, .iconst 3, 1), (25, .iload 4, 2), (27, .iadd, 1), (28, .iaload, 1), (29, .invokevirtual 63, 3), (32, .istore 6, 2), (34, .iload 6, 2), (36, .iconst (-1), 1), (37, .if_icmp .eq 26, 3), (40, .iload 6, 2), (42, .invokestatic 48, 3), (45, .iload 5, 2), (47, .invokestatic 48, 3), (50, .if_icmp .ne 13, 3), (53, .iload_n 3, 1), (54, .iload 6, 2), (56, .ishr, 1), (57, .iconst 1, 1), (58, .iand, 1), (59, .iconst 1, 1), (60, .if_icmp .ne 5, 3), (63, .iconst 0, 1), (64, .ireturn, 1), (65, .iload_n 3, 1), (66, .iconst 1, 1), (67, .iload 6, 2), (69, .ishl, 1), (70, .ior, 1), (71, .istore_n 3, 1), (72, .aload_n 0, 1), (73, .getfield 18, 3), (76, .iload 5, 2), (78, .iload 6, 2), (80, .iastore, 1), (81, .iinc 4 1, 3), (84, .goto (-79), 3), (87, .iconst 1, 1), (88, .ireturn, 1)]
set_option maxRecDepth 100000 in
theorem tkX8_readOrders : ∀ q ∈ tX8_readOrders, decode cX8_readOrders q.1 = .ok q.2 := by decide +kernel
theorem vmX8_readOrders : zVM yX8_readOrders cX8_readOrders 7 (Option.some .boolean) 2 8 := ⟨kX8_readOrders, q_1365, q_44, q_156, ⟨_, rfl, rfl⟩, by decide +kernel, by decide⟩
set_option maxHeartbeats 2000000 in
set_option maxRecDepth 20000 in
theorem coX8_readOrders_B5 (l : Launch) (e : Nat) (he : 2 ≤ e) (v0 : Nat) (v1 : Nat) (v2 : Nat) (r5 : Int32 × Int32 → zM) (hr5 : ∀ x : Int32 × Int32, zCo l (e + 1) 0 0 iX8_readOrders 5 [(0, .ref v0), (1, .ref v1), (2, .ref v2), (3, .int x.1), (4, .int x.2)] [] (r5 x)) (v3 : Int32) (v4 : Int32) : zCo l (e + 1) 0 0 iX8_readOrders 5 [(0, .ref v0), (1, .ref v1), (2, .ref v2), (3, .int v3), (4, .int v4)] [] (X8_readOrders_B5 v0 v1 v2 r5 v3 v4) := by
  unfold X8_readOrders_B5
  refine zco_p tkX8_readOrders 4 2 (pc' := 8) (L' := [(0, .ref v0), (1, .ref v1), (2, .ref v2), (3, .int v3), (4, .int v4)]) (S' := [.ref v1, .int v4]) rfl ?_
  refine zco_Vi (rc := 0) (rs := 0) (mc := 0) (ms := 0) (As := []) (S := [.int v4]) vmX1_people (mtX1_people l e (by omega) v1) q_1340 rfl rfl (Nat.le_of_ble_eq_true rfl) (zdk (cc := cX8_readOrders) (q := (8, .invokevirtual 52, 3)) tkX8_readOrders 6 rfl) (fun y1 => ?_)
  refine zco_icmp_ge (tgt := 87) (zdk (cc := cX8_readOrders) (q := (11, .if_icmp .ge 76, 3)) tkX8_readOrders 7 rfl) rfl ?_ ?_
  · refine zco_p tkX8_readOrders 50 1 (pc' := 88) (L' := [(0, .ref v0), (1, .ref v1), (2, .ref v2), (3, .int v3), (4, .int v4)]) (S' := [.int 1]) rfl ?_
    exact zco_zret rfl rfl rfl (zdk (cc := cX8_readOrders) (q := (88, .ireturn, 1)) tkX8_readOrders 51 rfl)
  · refine zco_p tkX8_readOrders 8 2 (pc' := 17) (L' := [(0, .ref v0), (1, .ref v1), (2, .ref v2), (3, .int v3), (4, .int v4)]) (S' := [.int v4, .ref v1]) rfl ?_
    refine zco_Vi (rc := 0) (rs := 0) (mc := 0) (ms := 0) (As := [.int v4]) (S := []) vmX1_slot (mtX1_slot l e (by omega) v1 v4) q_1341 rfl rfl (Nat.le_of_ble_eq_true rfl) (zdk (cc := cX8_readOrders) (q := (17, .invokevirtual 63, 3)) tkX8_readOrders 10 rfl) (fun y2 => ?_)
    refine zco_p tkX8_readOrders 11 6 (pc' := 28) (L' := [(5, .int y2), (0, .ref v0), (1, .ref v1), (2, .ref v2), (3, .int v3), (4, .int v4)]) (S' := [.int (3 + v4), .ref v2, .ref v1]) rfl ?_
    refine zco_iaload (zdk (cc := cX8_readOrders) (q := (28, .iaload, 1)) tkX8_readOrders 17 rfl) (fun x3 => ?_)
    refine zco_Vi (rc := 0) (rs := 0) (mc := 0) (ms := 0) (As := [.int x3]) (S := []) vmX1_slot (mtX1_slot l e (by omega) v1 x3) q_1341 rfl rfl (Nat.le_of_ble_eq_true rfl) (zdk (cc := cX8_readOrders) (q := (29, .invokevirtual 63, 3)) tkX8_readOrders 18 rfl) (fun y4 => ?_)
    refine zco_p tkX8_readOrders 19 3 (pc' := 37) (L' := [(6, .int y4), (5, .int y2), (0, .ref v0), (1, .ref v1), (2, .ref v2), (3, .int v3), (4, .int v4)]) (S' := [.int ((-1)), .int y4]) rfl ?_
    refine zco_icmp_eq (tgt := 63) (zdk (cc := cX8_readOrders) (q := (37, .if_icmp .eq 26, 3)) tkX8_readOrders 22 rfl) rfl ?_ ?_
    · refine zco_p tkX8_readOrders 35 1 (pc' := 64) (L' := [(6, .int y4), (5, .int y2), (0, .ref v0), (1, .ref v1), (2, .ref v2), (3, .int v3), (4, .int v4)]) (S' := [.int 0]) rfl ?_
      exact zco_zret rfl rfl rfl (zdk (cc := cX8_readOrders) (q := (64, .ireturn, 1)) tkX8_readOrders 36 rfl)
    · refine zco_p tkX8_readOrders 23 1 (pc' := 42) (L' := [(6, .int y4), (5, .int y2), (0, .ref v0), (1, .ref v1), (2, .ref v2), (3, .int v3), (4, .int v4)]) (S' := [.int y4]) rfl ?_
      refine zco_Ni (rc := 0) (rs := 0) (mc := 0) (ms := 0) (As := [.int y4]) (S := []) vmX11_sideOf (mtX11_sideOf l e (by omega) y4) (host := "ClothWedding") (by decide +kernel) rfl rfl (Nat.le_of_ble_eq_true rfl) (zdk (cc := cX8_readOrders) (q := (42, .invokestatic 48, 3)) tkX8_readOrders 24 rfl) (fun y5 => ?_)
      refine zco_p tkX8_readOrders 25 1 (pc' := 47) (L' := [(6, .int y4), (5, .int y2), (0, .ref v0), (1, .ref v1), (2, .ref v2), (3, .int v3), (4, .int v4)]) (S' := [.int y2, .int y5]) rfl ?_
      refine zco_Ni (rc := 0) (rs := 0) (mc := 0) (ms := 0) (As := [.int y2]) (S := [.int y5]) vmX11_sideOf (mtX11_sideOf l e (by omega) y2) (host := "ClothWedding") (by decide +kernel) rfl rfl (Nat.le_of_ble_eq_true rfl) (zdk (cc := cX8_readOrders) (q := (47, .invokestatic 48, 3)) tkX8_readOrders 26 rfl) (fun y6 => ?_)
      refine zco_icmp_ne (tgt := 63) (zdk (cc := cX8_readOrders) (q := (50, .if_icmp .ne 13, 3)) tkX8_readOrders 27 rfl) rfl ?_ ?_
      · refine zco_p tkX8_readOrders 35 1 (pc' := 64) (L' := [(6, .int y4), (5, .int y2), (0, .ref v0), (1, .ref v1), (2, .ref v2), (3, .int v3), (4, .int v4)]) (S' := [.int 0]) rfl ?_
        exact zco_zret rfl rfl rfl (zdk (cc := cX8_readOrders) (q := (64, .ireturn, 1)) tkX8_readOrders 36 rfl)
      · refine zco_p tkX8_readOrders 28 6 (pc' := 60) (L' := [(6, .int y4), (5, .int y2), (0, .ref v0), (1, .ref v1), (2, .ref v2), (3, .int v3), (4, .int v4)]) (S' := [.int 1, .int ((v3 >>> (y4 &&& 31)) &&& 1)]) rfl ?_
        refine zco_icmp_ne (tgt := 65) (zdk (cc := cX8_readOrders) (q := (60, .if_icmp .ne 5, 3)) tkX8_readOrders 34 rfl) rfl ?_ ?_
        · refine zco_p tkX8_readOrders 37 7 (pc' := 73) (L' := [(3, .int (v3 ||| ((1 : Int32) <<< (y4 &&& 31)))), (6, .int y4), (5, .int y2), (0, .ref v0), (1, .ref v1), (2, .ref v2), (4, .int v4)]) (S' := [.ref v0]) rfl ?_
          refine zco_gr fl_8_18 rfl (zdk (cc := cX8_readOrders) (q := (73, .getfield 18, 3)) tkX8_readOrders 44 rfl) (fun x7 => ?_)
          refine zco_p tkX8_readOrders 45 2 (pc' := 80) (L' := [(3, .int (v3 ||| ((1 : Int32) <<< (y4 &&& 31)))), (6, .int y4), (5, .int y2), (0, .ref v0), (1, .ref v1), (2, .ref v2), (4, .int v4)]) (S' := [.int y4, .int y2, .ref x7]) rfl ?_
          refine zco_iastore (zdk (cc := cX8_readOrders) (q := (80, .iastore, 1)) tkX8_readOrders 47 rfl) ?_
          refine zco_p tkX8_readOrders 48 2 (pc' := 5) (L' := [(4, .int (v4 + 1)), (3, .int (v3 ||| ((1 : Int32) <<< (y4 &&& 31)))), (6, .int y4), (5, .int y2), (0, .ref v0), (1, .ref v1), (2, .ref v2)]) (S' := []) rfl ?_
          exact zco_sub [4, 5, 6, 1, 0] rfl (hr5 (v3 ||| ((1 : Int32) <<< (y4 &&& 31)), v4 + 1))
        · refine zco_p tkX8_readOrders 35 1 (pc' := 64) (L' := [(6, .int y4), (5, .int y2), (0, .ref v0), (1, .ref v1), (2, .ref v2), (3, .int v3), (4, .int v4)]) (S' := [.int 0]) rfl ?_
          exact zco_zret rfl rfl rfl (zdk (cc := cX8_readOrders) (q := (64, .ireturn, 1)) tkX8_readOrders 36 rfl)
set_option maxHeartbeats 2000000 in
set_option maxRecDepth 20000 in
theorem coX8_readOrders (l : Launch) (e : Nat) (he : 2 ≤ e) (v0 : Nat) (v1 : Nat) (v2 : Nat) : zCo l (e + 1) 0 0 iX8_readOrders 0 [(0, .ref v0), (1, .ref v1), (2, .ref v2)] [] (X8_readOrders v0 v1 v2) := by
  unfold X8_readOrders
  refine zco_p tkX8_readOrders 0 4 (pc' := 5) (L' := [(4, .int 0), (3, .int 0), (0, .ref v0), (1, .ref v1), (2, .ref v2)]) (S' := []) rfl ?_
  exact zco_sub [2, 3, 4, 1, 0] rfl (zco_fix (Lf := fun x : Int32 × Int32 => [(0, .ref v0), (1, .ref v1), (2, .ref v2), (3, .int x.1), (4, .int x.2)]) (Sf := fun _ => []) (fun r hr x => coX8_readOrders_B5 l e he v0 v1 v2 r hr x.1 x.2) zFU (0, 0))
theorem mtX8_readOrders (l : Launch) (d : Nat) (hd : 3 ≤ d) (v0 : Nat) (v1 : Nat) (v2 : Nat) : zMet l d 0 0 yX8_readOrders cX8_readOrders 7 (Option.some .boolean) [.ref v0, .ref v1, .ref v2] (X8_readOrders v0 v1 v2) := by
  obtain ⟨e, rfl⟩ : ∃ e, d = e + 1 := ⟨d - 1, by omega⟩
  exact zmet_of (own := RX8) (ini := false) (by decide +kernel) rfl (fun _ => by contradiction) (Nat.le_of_ble_eq_true rfl) (coX8_readOrders l e (by omega) v0 v1 v2)
abbrev iX8_readOne : zI := (RX8, cX8_readOne, 10, (Option.some .boolean), false)
def tX8_readOne : List (Nat × Instr × Nat) := [(0, .aload_n 3, 1), (1, .iload 4, 2), (3, .iaload, 1), (4, .istore 5, 2), (6, .aload_n 0, 1), (7, .getfield 22, 3), (10, .iload_n 2, 1), (11, .iload 5, 2), (13, .sipush 255, 3), (16, .if_icmp .ne 7, 3), (19, .iconst (-1), 1), (20, .goto 10, 3), (23, .aload_n 1, 1), (24, .iload_n 2, 1), (25, .iload 5, 2), (27, .invokevirtual 92, 3), (30, .iastore, 1), (31, .aload_n 0, 1), (32, .getfield 25, 3), (35, .iload_n 2, 1), (36, .aload_n 3, 1), (37, .iload 4, 2), (39, .iconst 1, 1), (40, .iadd, 1), (41, .iaload, 1), (42, .iastore, 1), (43, .iload 5, 2), (45, .sipush 255, 3), (48, .if_icmp .eq 13, 3), (51, .aload_n 0, 1), (52, .getfield 22, 3), (55, .iload_n 2, 1), (56, .iaload, 1), (57, .iconst (-1), 1), (58, .if_icmp .eq 14, 3), (61, .aload_n 0, 1), (62, .getfield 25, 3), (65, .iload_n 2, 1), (66, .iaload, 1), (67, .bipush 99, 2), (69, .if_icmp .le 5, 3), (72, .iconst 0, 1), (73, .ireturn, 1), (74, .aload_n 1, 1), (75, .getfield 56, 3), (78, .iconst 1, 1), (79, .iload_n 2, 1), (80, .invokestatic 48, 3), (83, .isub, 1), (84, .iaload, 1), (85, .istore 6, 2), (87, .iconst 0, 1), (88, .istore 7, 2), (90, .iload 7, 2), (92, .iload 6, 2), (94, .if_icmp .ge 79, 3), (97, .aload_n 3, 1), (98, .iload 4, 2), (100, .iconst 2, 1), (101, .iadd, 1), (102, .iconst 2, 1), (103, .iload 7, 2), (105, .imul, 1), (106, .iadd, 1), (107, .iaload, 1), (108, .istore 8, 2), (110, .aload_n 3, 1), (111, .iload 4, 2), (113, .iconst 3, 1), (114, .iadd, 1), (115, .iconst 2, 1), (116, .iload 7, 2), (118, .imul, 1), (119, .iadd, 1), (120, .iaload, 1), (121, .istore 9, 2), (123, .iload 8, 2), (125, .bipush 9, 2), (127, .if_icmp .gt 10, 3), (130, .iload 9, 2), (132, .bipush 9, 2), (134, .if_icmp .le 5, 3), (137, .iconst 0, 1), (138, .ireturn, 1), (139, .aload_n 0, 1), (140, .getfield 31, 3), (143, .iload_n 2, 1), (144, .bipush 6, 2), (146, .imul, 1), (147, .iload 7, 2), (149, .iadd, 1), (150, .iload 8, 2), (152, .iastore, 1), (153, .aload_n 0, 1), (154, .getfield 34, 3), (157, .iload_n 2, 1), (158, .bipush 6, 2), (160, .imul, 1), (161, .iload 7, 2), (163, .iadd, 1), (164, .iload 9, 2), (166, .iastore, 1), (167, .iinc 7 1, 3), (170, .goto (-80), 3), (173, .iconst 1, 1), (174, .ireturn, 1)]
set_option maxRecDepth 100000 in
theorem tkX8_readOne : ∀ q ∈ tX8_readOne, decode cX8_readOne q.1 = .ok q.2 := by decide +kernel
theorem vmX8_readOne : zVM yX8_readOne cX8_readOne 10 (Option.some .boolean) 4 8 := ⟨kX8_readOne, q_1369, q_45, q_156, ⟨_, rfl, rfl⟩, by decide +kernel, by decide⟩
set_option maxHeartbeats 2000000 in
set_option maxRecDepth 20000 in
theorem coX8_readOne_B90 (l : Launch) (e : Nat) (he : 3 ≤ e) (v0 : Nat) (v2 : Int32) (v3 : Nat) (v4 : Int32) (v6 : Int32) (r90 : Int32 → zM) (hr90 : ∀ x : Int32, zCo l (e + 1) 0 0 iX8_readOne 90 [(0, .ref v0), (2, .int v2), (3, .ref v3), (4, .int v4), (6, .int v6), (7, .int x)] [] (r90 x)) (v7 : Int32) : zCo l (e + 1) 0 0 iX8_readOne 90 [(0, .ref v0), (2, .int v2), (3, .ref v3), (4, .int v4), (6, .int v6), (7, .int v7)] [] (X8_readOne_B90 v0 v2 v3 v4 v6 r90 v7) := by
  unfold X8_readOne_B90
  refine zco_p tkX8_readOne 53 2 (pc' := 94) (L' := [(0, .ref v0), (2, .int v2), (3, .ref v3), (4, .int v4), (6, .int v6), (7, .int v7)]) (S' := [.int v6, .int v7]) rfl ?_
  refine zco_icmp_ge (tgt := 173) (zdk (cc := cX8_readOne) (q := (94, .if_icmp .ge 79, 3)) tkX8_readOne 55 rfl) rfl ?_ ?_
  · refine zco_p tkX8_readOne 104 1 (pc' := 174) (L' := [(0, .ref v0), (2, .int v2), (3, .ref v3), (4, .int v4), (6, .int v6), (7, .int v7)]) (S' := [.int 1]) rfl ?_
    exact zco_zret rfl rfl rfl (zdk (cc := cX8_readOne) (q := (174, .ireturn, 1)) tkX8_readOne 105 rfl)
  · refine zco_p tkX8_readOne 56 8 (pc' := 107) (L' := [(0, .ref v0), (2, .int v2), (3, .ref v3), (4, .int v4), (6, .int v6), (7, .int v7)]) (S' := [.int ((v4 + 2) + (2 * v7)), .ref v3]) rfl ?_
    refine zco_iaload (zdk (cc := cX8_readOne) (q := (107, .iaload, 1)) tkX8_readOne 64 rfl) (fun x1 => ?_)
    refine zco_p tkX8_readOne 65 9 (pc' := 120) (L' := [(8, .int x1), (0, .ref v0), (2, .int v2), (3, .ref v3), (4, .int v4), (6, .int v6), (7, .int v7)]) (S' := [.int ((v4 + 3) + (2 * v7)), .ref v3]) rfl ?_
    refine zco_iaload (zdk (cc := cX8_readOne) (q := (120, .iaload, 1)) tkX8_readOne 74 rfl) (fun x2 => ?_)
    refine zco_p tkX8_readOne 75 3 (pc' := 127) (L' := [(9, .int x2), (8, .int x1), (0, .ref v0), (2, .int v2), (3, .ref v3), (4, .int v4), (6, .int v6), (7, .int v7)]) (S' := [.int 9, .int x1]) rfl ?_
    refine zco_icmp_gt (tgt := 137) (zdk (cc := cX8_readOne) (q := (127, .if_icmp .gt 10, 3)) tkX8_readOne 78 rfl) rfl ?_ ?_
    · refine zco_p tkX8_readOne 82 1 (pc' := 138) (L' := [(9, .int x2), (8, .int x1), (0, .ref v0), (2, .int v2), (3, .ref v3), (4, .int v4), (6, .int v6), (7, .int v7)]) (S' := [.int 0]) rfl ?_
      exact zco_zret rfl rfl rfl (zdk (cc := cX8_readOne) (q := (138, .ireturn, 1)) tkX8_readOne 83 rfl)
    · refine zco_p tkX8_readOne 79 2 (pc' := 134) (L' := [(9, .int x2), (8, .int x1), (0, .ref v0), (2, .int v2), (3, .ref v3), (4, .int v4), (6, .int v6), (7, .int v7)]) (S' := [.int 9, .int x2]) rfl ?_
      refine zco_icmp_le (tgt := 139) (zdk (cc := cX8_readOne) (q := (134, .if_icmp .le 5, 3)) tkX8_readOne 81 rfl) rfl ?_ ?_
      · refine zco_p tkX8_readOne 84 1 (pc' := 140) (L' := [(9, .int x2), (8, .int x1), (0, .ref v0), (2, .int v2), (3, .ref v3), (4, .int v4), (6, .int v6), (7, .int v7)]) (S' := [.ref v0]) rfl ?_
        refine zco_gr fl_8_31 rfl (zdk (cc := cX8_readOne) (q := (140, .getfield 31, 3)) tkX8_readOne 85 rfl) (fun x3 => ?_)
        refine zco_p tkX8_readOne 86 6 (pc' := 152) (L' := [(9, .int x2), (8, .int x1), (0, .ref v0), (2, .int v2), (3, .ref v3), (4, .int v4), (6, .int v6), (7, .int v7)]) (S' := [.int x1, .int ((v2 * 6) + v7), .ref x3]) rfl ?_
        refine zco_iastore (zdk (cc := cX8_readOne) (q := (152, .iastore, 1)) tkX8_readOne 92 rfl) ?_
        refine zco_p tkX8_readOne 93 1 (pc' := 154) (L' := [(9, .int x2), (8, .int x1), (0, .ref v0), (2, .int v2), (3, .ref v3), (4, .int v4), (6, .int v6), (7, .int v7)]) (S' := [.ref v0]) rfl ?_
        refine zco_gr fl_8_34 rfl (zdk (cc := cX8_readOne) (q := (154, .getfield 34, 3)) tkX8_readOne 94 rfl) (fun x4 => ?_)
        refine zco_p tkX8_readOne 95 6 (pc' := 166) (L' := [(9, .int x2), (8, .int x1), (0, .ref v0), (2, .int v2), (3, .ref v3), (4, .int v4), (6, .int v6), (7, .int v7)]) (S' := [.int x2, .int ((v2 * 6) + v7), .ref x4]) rfl ?_
        refine zco_iastore (zdk (cc := cX8_readOne) (q := (166, .iastore, 1)) tkX8_readOne 101 rfl) ?_
        refine zco_p tkX8_readOne 102 2 (pc' := 90) (L' := [(7, .int (v7 + 1)), (9, .int x2), (8, .int x1), (0, .ref v0), (2, .int v2), (3, .ref v3), (4, .int v4), (6, .int v6)]) (S' := []) rfl ?_
        exact zco_sub [3, 4, 5, 6, 7, 0] rfl (hr90 (v7 + 1))
      · refine zco_p tkX8_readOne 82 1 (pc' := 138) (L' := [(9, .int x2), (8, .int x1), (0, .ref v0), (2, .int v2), (3, .ref v3), (4, .int v4), (6, .int v6), (7, .int v7)]) (S' := [.int 0]) rfl ?_
        exact zco_zret rfl rfl rfl (zdk (cc := cX8_readOne) (q := (138, .ireturn, 1)) tkX8_readOne 83 rfl)
set_option maxHeartbeats 2000000 in
set_option maxRecDepth 20000 in
theorem coX8_readOne_J61 (l : Launch) (e : Nat) (he : 3 ≤ e) (v0 : Nat) (v1 : Nat) (v2 : Int32) (v3 : Nat) (v4 : Int32) : zCo l (e + 1) 0 0 iX8_readOne 61 [(0, .ref v0), (1, .ref v1), (2, .int v2), (3, .ref v3), (4, .int v4)] [] (X8_readOne_J61 v0 v1 v2 v3 v4) := by
  unfold X8_readOne_J61
  refine zco_p tkX8_readOne 35 1 (pc' := 62) (L' := [(0, .ref v0), (1, .ref v1), (2, .int v2), (3, .ref v3), (4, .int v4)]) (S' := [.ref v0]) rfl ?_
  refine zco_gr fl_8_25 rfl (zdk (cc := cX8_readOne) (q := (62, .getfield 25, 3)) tkX8_readOne 36 rfl) (fun x1 => ?_)
  refine zco_p tkX8_readOne 37 1 (pc' := 66) (L' := [(0, .ref v0), (1, .ref v1), (2, .int v2), (3, .ref v3), (4, .int v4)]) (S' := [.int v2, .ref x1]) rfl ?_
  refine zco_iaload (zdk (cc := cX8_readOne) (q := (66, .iaload, 1)) tkX8_readOne 38 rfl) (fun x2 => ?_)
  refine zco_p tkX8_readOne 39 1 (pc' := 69) (L' := [(0, .ref v0), (1, .ref v1), (2, .int v2), (3, .ref v3), (4, .int v4)]) (S' := [.int 99, .int x2]) rfl ?_
  refine zco_icmp_le (tgt := 74) (zdk (cc := cX8_readOne) (q := (69, .if_icmp .le 5, 3)) tkX8_readOne 40 rfl) rfl ?_ ?_
  · refine zco_p tkX8_readOne 43 1 (pc' := 75) (L' := [(0, .ref v0), (1, .ref v1), (2, .int v2), (3, .ref v3), (4, .int v4)]) (S' := [.ref v1]) rfl ?_
    refine zco_gr fl_8_56 rfl (zdk (cc := cX8_readOne) (q := (75, .getfield 56, 3)) tkX8_readOne 44 rfl) (fun x3 => ?_)
    refine zco_p tkX8_readOne 45 2 (pc' := 80) (L' := [(0, .ref v0), (1, .ref v1), (2, .int v2), (3, .ref v3), (4, .int v4)]) (S' := [.int v2, .int 1, .ref x3]) rfl ?_
    refine zco_Ni (rc := 0) (rs := 0) (mc := 0) (ms := 0) (As := [.int v2]) (S := [.int 1, .ref x3]) vmX11_sideOf (mtX11_sideOf l e (by omega) v2) (host := "ClothWedding") (by decide +kernel) rfl rfl (Nat.le_of_ble_eq_true rfl) (zdk (cc := cX8_readOne) (q := (80, .invokestatic 48, 3)) tkX8_readOne 47 rfl) (fun y4 => ?_)
    refine zco_p tkX8_readOne 48 1 (pc' := 84) (L' := [(0, .ref v0), (1, .ref v1), (2, .int v2), (3, .ref v3), (4, .int v4)]) (S' := [.int (1 - y4), .ref x3]) rfl ?_
    refine zco_iaload (zdk (cc := cX8_readOne) (q := (84, .iaload, 1)) tkX8_readOne 49 rfl) (fun x5 => ?_)
    refine zco_p tkX8_readOne 50 3 (pc' := 90) (L' := [(7, .int 0), (6, .int x5), (0, .ref v0), (1, .ref v1), (2, .int v2), (3, .ref v3), (4, .int v4)]) (S' := []) rfl ?_
    exact zco_sub [2, 4, 5, 6, 1, 0] rfl (zco_fix (Lf := fun x : Int32 => [(0, .ref v0), (2, .int v2), (3, .ref v3), (4, .int v4), (6, .int x5), (7, .int x)]) (Sf := fun _ => []) (fun r hr x => coX8_readOne_B90 l e he v0 v2 v3 v4 x5 r hr x) zFU 0)
  · refine zco_p tkX8_readOne 41 1 (pc' := 73) (L' := [(0, .ref v0), (1, .ref v1), (2, .int v2), (3, .ref v3), (4, .int v4)]) (S' := [.int 0]) rfl ?_
    exact zco_zret rfl rfl rfl (zdk (cc := cX8_readOne) (q := (73, .ireturn, 1)) tkX8_readOne 42 rfl)
set_option maxHeartbeats 2000000 in
set_option maxRecDepth 20000 in
theorem coX8_readOne_J30 (l : Launch) (e : Nat) (he : 3 ≤ e) (v0 : Nat) (v1 : Nat) (v2 : Int32) (v3 : Nat) (v4 : Int32) (v5 : Int32) (s0 : Int32) (s1 : Int32) (s2 : Nat) : zCo l (e + 1) 0 0 iX8_readOne 30 [(0, .ref v0), (1, .ref v1), (2, .int v2), (3, .ref v3), (4, .int v4), (5, .int v5)] [.int s0, .int s1, .ref s2] (X8_readOne_J30 v0 v1 v2 v3 v4 v5 s0 s1 s2) := by
  unfold X8_readOne_J30
  refine zco_iastore (zdk (cc := cX8_readOne) (q := (30, .iastore, 1)) tkX8_readOne 16 rfl) ?_
  refine zco_p tkX8_readOne 17 1 (pc' := 32) (L' := [(0, .ref v0), (1, .ref v1), (2, .int v2), (3, .ref v3), (4, .int v4), (5, .int v5)]) (S' := [.ref v0]) rfl ?_
  refine zco_gr fl_8_25 rfl (zdk (cc := cX8_readOne) (q := (32, .getfield 25, 3)) tkX8_readOne 18 rfl) (fun x1 => ?_)
  refine zco_p tkX8_readOne 19 5 (pc' := 41) (L' := [(0, .ref v0), (1, .ref v1), (2, .int v2), (3, .ref v3), (4, .int v4), (5, .int v5)]) (S' := [.int (v4 + 1), .ref v3, .int v2, .ref x1]) rfl ?_
  refine zco_iaload (zdk (cc := cX8_readOne) (q := (41, .iaload, 1)) tkX8_readOne 24 rfl) (fun x2 => ?_)
  refine zco_iastore (zdk (cc := cX8_readOne) (q := (42, .iastore, 1)) tkX8_readOne 25 rfl) ?_
  refine zco_p tkX8_readOne 26 2 (pc' := 48) (L' := [(0, .ref v0), (1, .ref v1), (2, .int v2), (3, .ref v3), (4, .int v4), (5, .int v5)]) (S' := [.int 255, .int v5]) rfl ?_
  refine zco_icmp_eq (tgt := 61) (zdk (cc := cX8_readOne) (q := (48, .if_icmp .eq 13, 3)) tkX8_readOne 28 rfl) rfl ?_ ?_
  · exact zco_sub [0, 1, 2, 3, 4] rfl (coX8_readOne_J61 l e he v0 v1 v2 v3 v4)
  · refine zco_p tkX8_readOne 29 1 (pc' := 52) (L' := [(0, .ref v0), (1, .ref v1), (2, .int v2), (3, .ref v3), (4, .int v4), (5, .int v5)]) (S' := [.ref v0]) rfl ?_
    refine zco_gr fl_8_22 rfl (zdk (cc := cX8_readOne) (q := (52, .getfield 22, 3)) tkX8_readOne 30 rfl) (fun x3 => ?_)
    refine zco_p tkX8_readOne 31 1 (pc' := 56) (L' := [(0, .ref v0), (1, .ref v1), (2, .int v2), (3, .ref v3), (4, .int v4), (5, .int v5)]) (S' := [.int v2, .ref x3]) rfl ?_
    refine zco_iaload (zdk (cc := cX8_readOne) (q := (56, .iaload, 1)) tkX8_readOne 32 rfl) (fun x4 => ?_)
    refine zco_p tkX8_readOne 33 1 (pc' := 58) (L' := [(0, .ref v0), (1, .ref v1), (2, .int v2), (3, .ref v3), (4, .int v4), (5, .int v5)]) (S' := [.int ((-1)), .int x4]) rfl ?_
    refine zco_icmp_eq (tgt := 72) (zdk (cc := cX8_readOne) (q := (58, .if_icmp .eq 14, 3)) tkX8_readOne 34 rfl) rfl ?_ ?_
    · refine zco_p tkX8_readOne 41 1 (pc' := 73) (L' := [(0, .ref v0), (1, .ref v1), (2, .int v2), (3, .ref v3), (4, .int v4), (5, .int v5)]) (S' := [.int 0]) rfl ?_
      exact zco_zret rfl rfl rfl (zdk (cc := cX8_readOne) (q := (73, .ireturn, 1)) tkX8_readOne 42 rfl)
    · exact zco_sub [0, 1, 2, 3, 4] rfl (coX8_readOne_J61 l e he v0 v1 v2 v3 v4)
set_option maxHeartbeats 2000000 in
set_option maxRecDepth 20000 in
theorem coX8_readOne (l : Launch) (e : Nat) (he : 3 ≤ e) (v0 : Nat) (v1 : Nat) (v2 : Int32) (v3 : Nat) (v4 : Int32) : zCo l (e + 1) 0 0 iX8_readOne 0 [(0, .ref v0), (1, .ref v1), (2, .int v2), (3, .ref v3), (4, .int v4)] [] (X8_readOne v0 v1 v2 v3 v4) := by
  unfold X8_readOne
  refine zco_p tkX8_readOne 0 2 (pc' := 3) (L' := [(0, .ref v0), (1, .ref v1), (2, .int v2), (3, .ref v3), (4, .int v4)]) (S' := [.int v4, .ref v3]) rfl ?_
  refine zco_iaload (zdk (cc := cX8_readOne) (q := (3, .iaload, 1)) tkX8_readOne 2 rfl) (fun x1 => ?_)
  refine zco_p tkX8_readOne 3 2 (pc' := 7) (L' := [(5, .int x1), (0, .ref v0), (1, .ref v1), (2, .int v2), (3, .ref v3), (4, .int v4)]) (S' := [.ref v0]) rfl ?_
  refine zco_gr fl_8_22 rfl (zdk (cc := cX8_readOne) (q := (7, .getfield 22, 3)) tkX8_readOne 5 rfl) (fun x2 => ?_)
  refine zco_p tkX8_readOne 6 3 (pc' := 16) (L' := [(5, .int x1), (0, .ref v0), (1, .ref v1), (2, .int v2), (3, .ref v3), (4, .int v4)]) (S' := [.int 255, .int x1, .int v2, .ref x2]) rfl ?_
  refine zco_icmp_ne (tgt := 23) (zdk (cc := cX8_readOne) (q := (16, .if_icmp .ne 7, 3)) tkX8_readOne 9 rfl) rfl ?_ ?_
  · refine zco_p tkX8_readOne 12 3 (pc' := 27) (L' := [(5, .int x1), (0, .ref v0), (1, .ref v1), (2, .int v2), (3, .ref v3), (4, .int v4)]) (S' := [.int x1, .int v2, .ref v1, .int v2, .ref x2]) rfl ?_
    refine zco_Vi (rc := 0) (rs := 0) (mc := 0) (ms := 0) (As := [.int v2, .int x1]) (S := [.int v2, .ref x2]) vmX1_across (mtX1_across l e (by omega) v1 v2 x1) q_1371 rfl rfl (Nat.le_of_ble_eq_true rfl) (zdk (cc := cX8_readOne) (q := (27, .invokevirtual 92, 3)) tkX8_readOne 15 rfl) (fun y3 => ?_)
    exact zco_sub [1, 2, 3, 4, 5, 0] rfl (coX8_readOne_J30 l e he v0 v1 v2 v3 v4 x1 y3 v2 x2)
  · refine zco_p tkX8_readOne 10 2 (pc' := 30) (L' := [(5, .int x1), (0, .ref v0), (1, .ref v1), (2, .int v2), (3, .ref v3), (4, .int v4)]) (S' := [.int ((-1)), .int v2, .ref x2]) rfl ?_
    exact zco_sub [1, 2, 3, 4, 5, 0] rfl (coX8_readOne_J30 l e he v0 v1 v2 v3 v4 x1 ((-1)) v2 x2)
theorem mtX8_readOne (l : Launch) (d : Nat) (hd : 4 ≤ d) (v0 : Nat) (v1 : Nat) (v2 : Int32) (v3 : Nat) (v4 : Int32) : zMet l d 0 0 yX8_readOne cX8_readOne 10 (Option.some .boolean) [.ref v0, .ref v1, .int v2, .ref v3, .int v4] (X8_readOne v0 v1 v2 v3 v4) := by
  obtain ⟨e, rfl⟩ : ∃ e, d = e + 1 := ⟨d - 1, by omega⟩
  exact zmet_of (own := RX8) (ini := false) (by decide +kernel) rfl (fun _ => by contradiction) (Nat.le_of_ble_eq_true rfl) (coX8_readOne l e (by omega) v0 v1 v2 v3 v4)
abbrev iX8_weddingsHold : zI := (RX8, cX8_weddingsHold, 4, (Option.some .boolean), false)
def tX8_weddingsHold : List (Nat × Instr × Nat) := [(0, .iconst 0, 1), (1, .istore_n 2, 1), (2, .iload_n 2, 1), (3, .bipush 12, 2), (5, .if_icmp .ge 50, 3), (8, .aload_n 0, 1), (9, .getfield 22, 3), (12, .iload_n 2, 1), (13, .iaload, 1), (14, .istore_n 3, 1), (15, .aload_n 1, 1), (16, .iload_n 2, 1), (17, .invokevirtual 96, 3), (20, .ifCond .eq 29, 3), (23, .iload_n 3, 1), (24, .iconst (-1), 1), (25, .if_icmp .eq 24, 3), (28, .aload_n 0, 1), (29, .getfield 22, 3), (32, .iload_n 3, 1), (33, .iaload, 1), (34, .iload_n 2, 1), (35, .if_icmp .ne 12, 3), (38, .aload_n 1, 1), (39, .iload_n 2, 1), (40, .iload_n 3, 1), (41, .invokevirtual 100, 3), (44, .ifCond .eq 5, 3), (47, .iconst 0, 1), (48, .ireturn, 1), (49, .iinc 2 1, 3), (52, .goto (-50), 3), (55, .iconst 1, 1), (56, .ireturn, 1)]
set_option maxRecDepth 100000 in
theorem tkX8_weddingsHold : ∀ q ∈ tX8_weddingsHold, decode cX8_weddingsHold q.1 = .ok q.2 := by decide +kernel
theorem vmX8_weddingsHold : zVM yX8_weddingsHold cX8_weddingsHold 4 (Option.some .boolean) 1 8 := ⟨kX8_weddingsHold, q_1374, q_46, q_156, ⟨_, rfl, rfl⟩, by decide +kernel, by decide⟩
set_option maxHeartbeats 2000000 in
set_option maxRecDepth 20000 in
theorem coX8_weddingsHold_J49 (l : Launch) (e : Nat) (he : 2 ≤ e) (v0 : Nat) (v1 : Nat) (v2 : Int32) (r2 : Int32 → zM) (hr2 : ∀ x : Int32, zCo l (e + 1) 0 0 iX8_weddingsHold 2 [(0, .ref v0), (1, .ref v1), (2, .int x)] [] (r2 x)) : zCo l (e + 1) 0 0 iX8_weddingsHold 49 [(0, .ref v0), (1, .ref v1), (2, .int v2)] [] (X8_weddingsHold_J49 r2 v0 v1 v2) := by
  unfold X8_weddingsHold_J49
  refine zco_p tkX8_weddingsHold 30 2 (pc' := 2) (L' := [(2, .int (v2 + 1)), (0, .ref v0), (1, .ref v1)]) (S' := []) rfl ?_
  exact zco_sub [1, 2, 0] rfl (hr2 (v2 + 1))
set_option maxHeartbeats 2000000 in
set_option maxRecDepth 20000 in
theorem coX8_weddingsHold_B2 (l : Launch) (e : Nat) (he : 2 ≤ e) (v0 : Nat) (v1 : Nat) (r2 : Int32 → zM) (hr2 : ∀ x : Int32, zCo l (e + 1) 0 0 iX8_weddingsHold 2 [(0, .ref v0), (1, .ref v1), (2, .int x)] [] (r2 x)) (v2 : Int32) : zCo l (e + 1) 0 0 iX8_weddingsHold 2 [(0, .ref v0), (1, .ref v1), (2, .int v2)] [] (X8_weddingsHold_B2 v0 v1 r2 v2) := by
  unfold X8_weddingsHold_B2
  refine zco_p tkX8_weddingsHold 2 2 (pc' := 5) (L' := [(0, .ref v0), (1, .ref v1), (2, .int v2)]) (S' := [.int 12, .int v2]) rfl ?_
  refine zco_icmp_ge (tgt := 55) (zdk (cc := cX8_weddingsHold) (q := (5, .if_icmp .ge 50, 3)) tkX8_weddingsHold 4 rfl) rfl ?_ ?_
  · refine zco_p tkX8_weddingsHold 32 1 (pc' := 56) (L' := [(0, .ref v0), (1, .ref v1), (2, .int v2)]) (S' := [.int 1]) rfl ?_
    exact zco_zret rfl rfl rfl (zdk (cc := cX8_weddingsHold) (q := (56, .ireturn, 1)) tkX8_weddingsHold 33 rfl)
  · refine zco_p tkX8_weddingsHold 5 1 (pc' := 9) (L' := [(0, .ref v0), (1, .ref v1), (2, .int v2)]) (S' := [.ref v0]) rfl ?_
    refine zco_gr fl_8_22 rfl (zdk (cc := cX8_weddingsHold) (q := (9, .getfield 22, 3)) tkX8_weddingsHold 6 rfl) (fun x1 => ?_)
    refine zco_p tkX8_weddingsHold 7 1 (pc' := 13) (L' := [(0, .ref v0), (1, .ref v1), (2, .int v2)]) (S' := [.int v2, .ref x1]) rfl ?_
    refine zco_iaload (zdk (cc := cX8_weddingsHold) (q := (13, .iaload, 1)) tkX8_weddingsHold 8 rfl) (fun x2 => ?_)
    refine zco_p tkX8_weddingsHold 9 3 (pc' := 17) (L' := [(3, .int x2), (0, .ref v0), (1, .ref v1), (2, .int v2)]) (S' := [.int v2, .ref v1]) rfl ?_
    refine zco_Vi (rc := 0) (rs := 0) (mc := 0) (ms := 0) (As := [.int v2]) (S := []) vmX1_isThere (mtX1_isThere l e (by omega) v1 v2) q_1376 rfl rfl (Nat.le_of_ble_eq_true rfl) (zdk (cc := cX8_weddingsHold) (q := (17, .invokevirtual 96, 3)) tkX8_weddingsHold 12 rfl) (fun y3 => ?_)
    refine zco_if_eq (tgt := 49) (zdk (cc := cX8_weddingsHold) (q := (20, .ifCond .eq 29, 3)) tkX8_weddingsHold 13 rfl) rfl ?_ ?_
    · exact zco_sub [1, 2, 3] rfl (coX8_weddingsHold_J49 l e he v0 v1 v2 r2 hr2)
    · refine zco_p tkX8_weddingsHold 14 2 (pc' := 25) (L' := [(3, .int x2), (0, .ref v0), (1, .ref v1), (2, .int v2)]) (S' := [.int ((-1)), .int x2]) rfl ?_
      refine zco_icmp_eq (tgt := 49) (zdk (cc := cX8_weddingsHold) (q := (25, .if_icmp .eq 24, 3)) tkX8_weddingsHold 16 rfl) rfl ?_ ?_
      · exact zco_sub [1, 2, 3] rfl (coX8_weddingsHold_J49 l e he v0 v1 v2 r2 hr2)
      · refine zco_p tkX8_weddingsHold 17 1 (pc' := 29) (L' := [(3, .int x2), (0, .ref v0), (1, .ref v1), (2, .int v2)]) (S' := [.ref v0]) rfl ?_
        refine zco_gr fl_8_22 rfl (zdk (cc := cX8_weddingsHold) (q := (29, .getfield 22, 3)) tkX8_weddingsHold 18 rfl) (fun x4 => ?_)
        refine zco_p tkX8_weddingsHold 19 1 (pc' := 33) (L' := [(3, .int x2), (0, .ref v0), (1, .ref v1), (2, .int v2)]) (S' := [.int x2, .ref x4]) rfl ?_
        refine zco_iaload (zdk (cc := cX8_weddingsHold) (q := (33, .iaload, 1)) tkX8_weddingsHold 20 rfl) (fun x5 => ?_)
        refine zco_p tkX8_weddingsHold 21 1 (pc' := 35) (L' := [(3, .int x2), (0, .ref v0), (1, .ref v1), (2, .int v2)]) (S' := [.int v2, .int x5]) rfl ?_
        refine zco_icmp_ne (tgt := 47) (zdk (cc := cX8_weddingsHold) (q := (35, .if_icmp .ne 12, 3)) tkX8_weddingsHold 22 rfl) rfl ?_ ?_
        · refine zco_p tkX8_weddingsHold 28 1 (pc' := 48) (L' := [(3, .int x2), (0, .ref v0), (1, .ref v1), (2, .int v2)]) (S' := [.int 0]) rfl ?_
          exact zco_zret rfl rfl rfl (zdk (cc := cX8_weddingsHold) (q := (48, .ireturn, 1)) tkX8_weddingsHold 29 rfl)
        · refine zco_p tkX8_weddingsHold 23 3 (pc' := 41) (L' := [(3, .int x2), (0, .ref v0), (1, .ref v1), (2, .int v2)]) (S' := [.int x2, .int v2, .ref v1]) rfl ?_
          refine zco_Vi (rc := 0) (rs := 0) (mc := 0) (ms := 0) (As := [.int v2, .int x2]) (S := []) vmX1_areKin (mtX1_areKin l e (by omega) v1 v2 x2) q_1377 rfl rfl (Nat.le_of_ble_eq_true rfl) (zdk (cc := cX8_weddingsHold) (q := (41, .invokevirtual 100, 3)) tkX8_weddingsHold 26 rfl) (fun y6 => ?_)
          refine zco_if_eq (tgt := 49) (zdk (cc := cX8_weddingsHold) (q := (44, .ifCond .eq 5, 3)) tkX8_weddingsHold 27 rfl) rfl ?_ ?_
          · exact zco_sub [1, 2, 3] rfl (coX8_weddingsHold_J49 l e he v0 v1 v2 r2 hr2)
          · refine zco_p tkX8_weddingsHold 28 1 (pc' := 48) (L' := [(3, .int x2), (0, .ref v0), (1, .ref v1), (2, .int v2)]) (S' := [.int 0]) rfl ?_
            exact zco_zret rfl rfl rfl (zdk (cc := cX8_weddingsHold) (q := (48, .ireturn, 1)) tkX8_weddingsHold 29 rfl)
set_option maxHeartbeats 2000000 in
set_option maxRecDepth 20000 in
theorem coX8_weddingsHold (l : Launch) (e : Nat) (he : 2 ≤ e) (v0 : Nat) (v1 : Nat) : zCo l (e + 1) 0 0 iX8_weddingsHold 0 [(0, .ref v0), (1, .ref v1)] [] (X8_weddingsHold v0 v1) := by
  unfold X8_weddingsHold
  refine zco_p tkX8_weddingsHold 0 2 (pc' := 2) (L' := [(2, .int 0), (0, .ref v0), (1, .ref v1)]) (S' := []) rfl ?_
  exact zco_sub [1, 2, 0] rfl (zco_fix (Lf := fun x : Int32 => [(0, .ref v0), (1, .ref v1), (2, .int x)]) (Sf := fun _ => []) (fun r hr x => coX8_weddingsHold_B2 l e he v0 v1 r hr x) zFU 0)
theorem mtX8_weddingsHold (l : Launch) (d : Nat) (hd : 3 ≤ d) (v0 : Nat) (v1 : Nat) : zMet l d 0 0 yX8_weddingsHold cX8_weddingsHold 4 (Option.some .boolean) [.ref v0, .ref v1] (X8_weddingsHold v0 v1) := by
  obtain ⟨e, rfl⟩ : ∃ e, d = e + 1 := ⟨d - 1, by omega⟩
  exact zmet_of (own := RX8) (ini := false) (by decide +kernel) rfl (fun _ => by contradiction) (Nat.le_of_ble_eq_true rfl) (coX8_weddingsHold l e (by omega) v0 v1)
abbrev iX8_read : zI := (RX8, cX8_read, 7, (Option.some .boolean), false)
def tX8_read : List (Nat × Instr × Nat) := [(0, .iload_n 3, 1), (1, .aload_n 1, 1), (2, .invokestatic 59, 3), (5, .if_icmp .ne 24, 3), (8, .iload_n 3, 1), (9, .aload_n 2, 1), (10, .arraylength, 1), (11, .if_icmp .gt 18, 3), (14, .aload_n 2, 1), (15, .iload_n 3, 1), (16, .iconst 1, 1), (17, .isub, 1), (18, .iaload, 1), (19, .aload_n 2, 1), (20, .iload_n 3, 1), (21, .iconst 1, 1), (22, .isub, 1), (23, .invokestatic 73, 3), (26, .if_icmp .eq 5, 3), (29, .iconst 0, 1), (30, .ireturn, 1), (31, .aload_n 0, 1), (32, .aload_n 2, 1), (33, .iconst 0, 1), (34, .iaload, 1), (35, .sipush 256, 3), (38, .imul, 1), (39, .aload_n 2, 1), (40, .iconst 1, 1), (41, .iaload, 1), (42, .iadd, 1), (43, .putfield 9, 3), (46, .aload_n 0, 1), (47, .aload_n 2, 1), (48, .iconst 2, 1), (49, .iaload, 1), (50, .putfield 15, 3), (53, .aload_n 0, 1), (54, .getfield 9, 3), (57, .sipush 1000, 3), (60, .if_icmp .ge 23, 3), (63, .aload_n 0, 1), (64, .getfield 15, 3), (67, .aload_n 1, 1), (68, .getfield 77, 3), (71, .if_icmp .ge 12, 3), (74, .aload_n 0, 1), (75, .aload_n 1, 1), (76, .aload_n 2, 1), (77, .invokevirtual 80, 3), (80, .ifCond .ne 5, 3), (83, .iconst 0, 1), (84, .ireturn, 1), (85, .iconst 3, 1), (86, .aload_n 1, 1), (87, .invokevirtual 52, 3), (90, .iadd, 1), (91, .istore 4, 2), (93, .iconst 0, 1), (94, .istore 5, 2), (96, .iload 5, 2), (98, .aload_n 1, 1), (99, .invokevirtual 52, 3), (102, .if_icmp .ge 53, 3), (105, .aload_n 1, 1), (106, .iload 5, 2), (108, .invokevirtual 63, 3), (111, .istore 6, 2), (113, .aload_n 0, 1), (114, .aload_n 1, 1), (115, .iload 6, 2), (117, .aload_n 2, 1), (118, .iload 4, 2), (120, .invokevirtual 84, 3), (123, .ifCond .ne 5, 3), (126, .iconst 0, 1), (127, .ireturn, 1), (128, .iload 4, 2), (130, .iconst 2, 1), (131, .iconst 2, 1), (132, .aload_n 1, 1), (133, .getfield 56, 3), (136, .iconst 1, 1), (137, .iload 6, 2), (139, .invokestatic 48, 3), (142, .isub, 1), (143, .iaload, 1), (144, .imul, 1), (145, .iadd, 1), (146, .iadd, 1), (147, .istore 4, 2), (149, .iinc 5 1, 3), (152, .goto (-56), 3), (155, .aload_n 0, 1), (156, .aload_n 1, 1), (157, .invokevirtual 88, 3), (160, .ireturn, 1)]
set_option maxRecDepth 100000 in
theorem tkX8_read : ∀ q ∈ tX8_read, decode cX8_read q.1 = .ok q.2 := by decide +kernel
theorem vmX8_read : zVM yX8_read cX8_read 7 (Option.some .boolean) 3 8 := ⟨kX8_read, q_1360, q_1361, q_156, ⟨_, rfl, rfl⟩, by decide +kernel, by decide⟩
set_option maxHeartbeats 2000000 in
set_option maxRecDepth 20000 in
theorem coX8_read_J155 (l : Launch) (e : Nat) (he : 4 ≤ e) (v0 : Nat) (v1 : Nat) : zCo l (e + 1) 0 0 iX8_read 155 [(0, .ref v0), (1, .ref v1)] [] (X8_read_J155 v0 v1) := by
  unfold X8_read_J155
  refine zco_p tkX8_read 93 2 (pc' := 157) (L' := [(0, .ref v0), (1, .ref v1)]) (S' := [.ref v1, .ref v0]) rfl ?_
  refine zco_Vi (rc := 0) (rs := 0) (mc := 0) (ms := 0) (As := [.ref v1]) (S := []) vmX8_weddingsHold (mtX8_weddingsHold l e (by omega) v0 v1) q_1372 rfl rfl (Nat.le_of_ble_eq_true rfl) (zdk (cc := cX8_read) (q := (157, .invokevirtual 88, 3)) tkX8_read 95 rfl) (fun y1 => ?_)
  exact zco_zret rfl rfl rfl (zdk (cc := cX8_read) (q := (160, .ireturn, 1)) tkX8_read 96 rfl)
set_option maxHeartbeats 2000000 in
set_option maxRecDepth 20000 in
theorem coX8_read_B96 (l : Launch) (e : Nat) (he : 4 ≤ e) (v0 : Nat) (v1 : Nat) (v2 : Nat) (r96 : Int32 × Int32 → zM) (hr96 : ∀ x : Int32 × Int32, zCo l (e + 1) 0 0 iX8_read 96 [(0, .ref v0), (1, .ref v1), (2, .ref v2), (4, .int x.1), (5, .int x.2)] [] (r96 x)) (v4 : Int32) (v5 : Int32) : zCo l (e + 1) 0 0 iX8_read 96 [(0, .ref v0), (1, .ref v1), (2, .ref v2), (4, .int v4), (5, .int v5)] [] (X8_read_B96 v0 v1 v2 r96 v4 v5) := by
  unfold X8_read_B96
  refine zco_p tkX8_read 60 2 (pc' := 99) (L' := [(0, .ref v0), (1, .ref v1), (2, .ref v2), (4, .int v4), (5, .int v5)]) (S' := [.ref v1, .int v5]) rfl ?_
  refine zco_Vi (rc := 0) (rs := 0) (mc := 0) (ms := 0) (As := []) (S := [.int v5]) vmX1_people (mtX1_people l e (by omega) v1) q_1340 rfl rfl (Nat.le_of_ble_eq_true rfl) (zdk (cc := cX8_read) (q := (99, .invokevirtual 52, 3)) tkX8_read 62 rfl) (fun y1 => ?_)
  refine zco_icmp_ge (tgt := 155) (zdk (cc := cX8_read) (q := (102, .if_icmp .ge 53, 3)) tkX8_read 63 rfl) rfl ?_ ?_
  · exact zco_sub [0, 1] rfl (coX8_read_J155 l e he v0 v1)
  · refine zco_p tkX8_read 64 2 (pc' := 108) (L' := [(0, .ref v0), (1, .ref v1), (2, .ref v2), (4, .int v4), (5, .int v5)]) (S' := [.int v5, .ref v1]) rfl ?_
    refine zco_Vi (rc := 0) (rs := 0) (mc := 0) (ms := 0) (As := [.int v5]) (S := []) vmX1_slot (mtX1_slot l e (by omega) v1 v5) q_1341 rfl rfl (Nat.le_of_ble_eq_true rfl) (zdk (cc := cX8_read) (q := (108, .invokevirtual 63, 3)) tkX8_read 66 rfl) (fun y2 => ?_)
    refine zco_p tkX8_read 67 6 (pc' := 120) (L' := [(6, .int y2), (0, .ref v0), (1, .ref v1), (2, .ref v2), (4, .int v4), (5, .int v5)]) (S' := [.int v4, .ref v2, .int y2, .ref v1, .ref v0]) rfl ?_
    refine zco_Vi (rc := 0) (rs := 0) (mc := 0) (ms := 0) (As := [.ref v1, .int y2, .ref v2, .int v4]) (S := []) vmX8_readOne (mtX8_readOne l e (by omega) v0 v1 y2 v2 v4) q_1367 rfl rfl (Nat.le_of_ble_eq_true rfl) (zdk (cc := cX8_read) (q := (120, .invokevirtual 84, 3)) tkX8_read 73 rfl) (fun y3 => ?_)
    refine zco_if_ne (tgt := 128) (zdk (cc := cX8_read) (q := (123, .ifCond .ne 5, 3)) tkX8_read 74 rfl) rfl ?_ ?_
    · refine zco_p tkX8_read 77 4 (pc' := 133) (L' := [(6, .int y2), (0, .ref v0), (1, .ref v1), (2, .ref v2), (4, .int v4), (5, .int v5)]) (S' := [.ref v1, .int 2, .int 2, .int v4]) rfl ?_
      refine zco_gr fl_8_56 rfl (zdk (cc := cX8_read) (q := (133, .getfield 56, 3)) tkX8_read 81 rfl) (fun x4 => ?_)
      refine zco_p tkX8_read 82 2 (pc' := 139) (L' := [(6, .int y2), (0, .ref v0), (1, .ref v1), (2, .ref v2), (4, .int v4), (5, .int v5)]) (S' := [.int y2, .int 1, .ref x4, .int 2, .int 2, .int v4]) rfl ?_
      refine zco_Ni (rc := 0) (rs := 0) (mc := 0) (ms := 0) (As := [.int y2]) (S := [.int 1, .ref x4, .int 2, .int 2, .int v4]) vmX11_sideOf (mtX11_sideOf l e (by omega) y2) (host := "ClothWedding") (by decide +kernel) rfl rfl (Nat.le_of_ble_eq_true rfl) (zdk (cc := cX8_read) (q := (139, .invokestatic 48, 3)) tkX8_read 84 rfl) (fun y5 => ?_)
      refine zco_p tkX8_read 85 1 (pc' := 143) (L' := [(6, .int y2), (0, .ref v0), (1, .ref v1), (2, .ref v2), (4, .int v4), (5, .int v5)]) (S' := [.int (1 - y5), .ref x4, .int 2, .int 2, .int v4]) rfl ?_
      refine zco_iaload (zdk (cc := cX8_read) (q := (143, .iaload, 1)) tkX8_read 86 rfl) (fun x6 => ?_)
      refine zco_p tkX8_read 87 6 (pc' := 96) (L' := [(5, .int (v5 + 1)), (4, .int (v4 + (2 + (2 * x6)))), (6, .int y2), (0, .ref v0), (1, .ref v1), (2, .ref v2)]) (S' := []) rfl ?_
      exact zco_sub [3, 4, 5, 1, 0] rfl (hr96 (v4 + (2 + (2 * x6)), v5 + 1))
    · refine zco_p tkX8_read 75 1 (pc' := 127) (L' := [(6, .int y2), (0, .ref v0), (1, .ref v1), (2, .ref v2), (4, .int v4), (5, .int v5)]) (S' := [.int 0]) rfl ?_
      exact zco_zret rfl rfl rfl (zdk (cc := cX8_read) (q := (127, .ireturn, 1)) tkX8_read 76 rfl)
set_option maxHeartbeats 2000000 in
set_option maxRecDepth 20000 in
theorem coX8_read (l : Launch) (e : Nat) (he : 4 ≤ e) (v0 : Nat) (v1 : Nat) (v2 : Nat) (v3 : Int32) : zCo l (e + 1) 0 0 iX8_read 0 [(0, .ref v0), (1, .ref v1), (2, .ref v2), (3, .int v3)] [] (X8_read v0 v1 v2 v3) := by
  unfold X8_read
  refine zco_p tkX8_read 0 2 (pc' := 2) (L' := [(0, .ref v0), (1, .ref v1), (2, .ref v2), (3, .int v3)]) (S' := [.ref v1, .int v3]) rfl ?_
  refine zco_Si (rc := 0) (rs := 0) (mc := 0) (ms := 0) (As := [.ref v1]) (S := [.int v3]) vmX8_imageLength (mtX8_imageLength l e (by omega) v1) q_1337 rfl rfl (Nat.le_of_ble_eq_true rfl) (zdk (cc := cX8_read) (q := (2, .invokestatic 59, 3)) tkX8_read 2 rfl) (fun y1 => ?_)
  refine zco_icmp_ne (tgt := 29) (zdk (cc := cX8_read) (q := (5, .if_icmp .ne 24, 3)) tkX8_read 3 rfl) rfl ?_ ?_
  · refine zco_p tkX8_read 19 1 (pc' := 30) (L' := [(0, .ref v0), (1, .ref v1), (2, .ref v2), (3, .int v3)]) (S' := [.int 0]) rfl ?_
    exact zco_zret rfl rfl rfl (zdk (cc := cX8_read) (q := (30, .ireturn, 1)) tkX8_read 20 rfl)
  · refine zco_p tkX8_read 4 2 (pc' := 10) (L' := [(0, .ref v0), (1, .ref v1), (2, .ref v2), (3, .int v3)]) (S' := [.ref v2, .int v3]) rfl ?_
    refine zco_alen (zdk (cc := cX8_read) (q := (10, .arraylength, 1)) tkX8_read 6 rfl) (fun x2 => ?_)
    refine zco_icmp_gt (tgt := 29) (zdk (cc := cX8_read) (q := (11, .if_icmp .gt 18, 3)) tkX8_read 7 rfl) rfl ?_ ?_
    · refine zco_p tkX8_read 19 1 (pc' := 30) (L' := [(0, .ref v0), (1, .ref v1), (2, .ref v2), (3, .int v3)]) (S' := [.int 0]) rfl ?_
      exact zco_zret rfl rfl rfl (zdk (cc := cX8_read) (q := (30, .ireturn, 1)) tkX8_read 20 rfl)
    · refine zco_p tkX8_read 8 4 (pc' := 18) (L' := [(0, .ref v0), (1, .ref v1), (2, .ref v2), (3, .int v3)]) (S' := [.int (v3 - 1), .ref v2]) rfl ?_
      refine zco_iaload (zdk (cc := cX8_read) (q := (18, .iaload, 1)) tkX8_read 12 rfl) (fun x3 => ?_)
      refine zco_p tkX8_read 13 4 (pc' := 23) (L' := [(0, .ref v0), (1, .ref v1), (2, .ref v2), (3, .int v3)]) (S' := [.int (v3 - 1), .ref v2, .int x3]) rfl ?_
      refine zco_Si (rc := 0) (rs := 0) (mc := 0) (ms := 0) (As := [.ref v2, .int (v3 - 1)]) (S := [.int x3]) vmX8_checkByte (mtX8_checkByte l e (by omega) v2 (v3 - 1)) q_1347 rfl rfl (Nat.le_of_ble_eq_true rfl) (zdk (cc := cX8_read) (q := (23, .invokestatic 73, 3)) tkX8_read 17 rfl) (fun y4 => ?_)
      refine zco_icmp_eq (tgt := 31) (zdk (cc := cX8_read) (q := (26, .if_icmp .eq 5, 3)) tkX8_read 18 rfl) rfl ?_ ?_
      · refine zco_p tkX8_read 21 3 (pc' := 34) (L' := [(0, .ref v0), (1, .ref v1), (2, .ref v2), (3, .int v3)]) (S' := [.int 0, .ref v2, .ref v0]) rfl ?_
        refine zco_iaload (zdk (cc := cX8_read) (q := (34, .iaload, 1)) tkX8_read 24 rfl) (fun x5 => ?_)
        refine zco_p tkX8_read 25 4 (pc' := 41) (L' := [(0, .ref v0), (1, .ref v1), (2, .ref v2), (3, .int v3)]) (S' := [.int 1, .ref v2, .int (x5 * 256), .ref v0]) rfl ?_
        refine zco_iaload (zdk (cc := cX8_read) (q := (41, .iaload, 1)) tkX8_read 29 rfl) (fun x6 => ?_)
        refine zco_p tkX8_read 30 1 (pc' := 43) (L' := [(0, .ref v0), (1, .ref v1), (2, .ref v2), (3, .int v3)]) (S' := [.int ((x5 * 256) + x6), .ref v0]) rfl ?_
        refine zco_pi fl_8_9 rfl rfl (zdk (cc := cX8_read) (q := (43, .putfield 9, 3)) tkX8_read 31 rfl) ?_
        refine zco_p tkX8_read 32 3 (pc' := 49) (L' := [(0, .ref v0), (1, .ref v1), (2, .ref v2), (3, .int v3)]) (S' := [.int 2, .ref v2, .ref v0]) rfl ?_
        refine zco_iaload (zdk (cc := cX8_read) (q := (49, .iaload, 1)) tkX8_read 35 rfl) (fun x7 => ?_)
        refine zco_pi fl_8_15 rfl rfl (zdk (cc := cX8_read) (q := (50, .putfield 15, 3)) tkX8_read 36 rfl) ?_
        refine zco_p tkX8_read 37 1 (pc' := 54) (L' := [(0, .ref v0), (1, .ref v1), (2, .ref v2), (3, .int v3)]) (S' := [.ref v0]) rfl ?_
        refine zco_gi fl_8_9 rfl (zdk (cc := cX8_read) (q := (54, .getfield 9, 3)) tkX8_read 38 rfl) (fun x8 => ?_)
        refine zco_p tkX8_read 39 1 (pc' := 60) (L' := [(0, .ref v0), (1, .ref v1), (2, .ref v2), (3, .int v3)]) (S' := [.int 1000, .int x8]) rfl ?_
        refine zco_icmp_ge (tgt := 83) (zdk (cc := cX8_read) (q := (60, .if_icmp .ge 23, 3)) tkX8_read 40 rfl) rfl ?_ ?_
        · refine zco_p tkX8_read 51 1 (pc' := 84) (L' := [(0, .ref v0), (1, .ref v1), (2, .ref v2), (3, .int v3)]) (S' := [.int 0]) rfl ?_
          exact zco_zret rfl rfl rfl (zdk (cc := cX8_read) (q := (84, .ireturn, 1)) tkX8_read 52 rfl)
        · refine zco_p tkX8_read 41 1 (pc' := 64) (L' := [(0, .ref v0), (1, .ref v1), (2, .ref v2), (3, .int v3)]) (S' := [.ref v0]) rfl ?_
          refine zco_gi fl_8_15 rfl (zdk (cc := cX8_read) (q := (64, .getfield 15, 3)) tkX8_read 42 rfl) (fun x9 => ?_)
          refine zco_p tkX8_read 43 1 (pc' := 68) (L' := [(0, .ref v0), (1, .ref v1), (2, .ref v2), (3, .int v3)]) (S' := [.ref v1, .int x9]) rfl ?_
          refine zco_gi fl_8_77 rfl (zdk (cc := cX8_read) (q := (68, .getfield 77, 3)) tkX8_read 44 rfl) (fun x10 => ?_)
          refine zco_icmp_ge (tgt := 83) (zdk (cc := cX8_read) (q := (71, .if_icmp .ge 12, 3)) tkX8_read 45 rfl) rfl ?_ ?_
          · refine zco_p tkX8_read 51 1 (pc' := 84) (L' := [(0, .ref v0), (1, .ref v1), (2, .ref v2), (3, .int v3)]) (S' := [.int 0]) rfl ?_
            exact zco_zret rfl rfl rfl (zdk (cc := cX8_read) (q := (84, .ireturn, 1)) tkX8_read 52 rfl)
          · refine zco_p tkX8_read 46 3 (pc' := 77) (L' := [(0, .ref v0), (1, .ref v1), (2, .ref v2), (3, .int v3)]) (S' := [.ref v2, .ref v1, .ref v0]) rfl ?_
            refine zco_Vi (rc := 0) (rs := 0) (mc := 0) (ms := 0) (As := [.ref v1, .ref v2]) (S := []) vmX8_readOrders (mtX8_readOrders l e (by omega) v0 v1 v2) q_1363 rfl rfl (Nat.le_of_ble_eq_true rfl) (zdk (cc := cX8_read) (q := (77, .invokevirtual 80, 3)) tkX8_read 49 rfl) (fun y11 => ?_)
            refine zco_if_ne (tgt := 85) (zdk (cc := cX8_read) (q := (80, .ifCond .ne 5, 3)) tkX8_read 50 rfl) rfl ?_ ?_
            · refine zco_p tkX8_read 53 2 (pc' := 87) (L' := [(0, .ref v0), (1, .ref v1), (2, .ref v2), (3, .int v3)]) (S' := [.ref v1, .int 3]) rfl ?_
              refine zco_Vi (rc := 0) (rs := 0) (mc := 0) (ms := 0) (As := []) (S := [.int 3]) vmX1_people (mtX1_people l e (by omega) v1) q_1340 rfl rfl (Nat.le_of_ble_eq_true rfl) (zdk (cc := cX8_read) (q := (87, .invokevirtual 52, 3)) tkX8_read 55 rfl) (fun y12 => ?_)
              refine zco_p tkX8_read 56 4 (pc' := 96) (L' := [(5, .int 0), (4, .int (3 + y12)), (0, .ref v0), (1, .ref v1), (2, .ref v2), (3, .int v3)]) (S' := []) rfl ?_
              exact zco_sub [2, 3, 4, 1, 0] rfl (zco_fix (Lf := fun x : Int32 × Int32 => [(0, .ref v0), (1, .ref v1), (2, .ref v2), (4, .int x.1), (5, .int x.2)]) (Sf := fun _ => []) (fun r hr x => coX8_read_B96 l e he v0 v1 v2 r hr x.1 x.2) zFU (3 + y12, 0))
            · refine zco_p tkX8_read 51 1 (pc' := 84) (L' := [(0, .ref v0), (1, .ref v1), (2, .ref v2), (3, .int v3)]) (S' := [.int 0]) rfl ?_
              exact zco_zret rfl rfl rfl (zdk (cc := cX8_read) (q := (84, .ireturn, 1)) tkX8_read 52 rfl)
      · refine zco_p tkX8_read 19 1 (pc' := 30) (L' := [(0, .ref v0), (1, .ref v1), (2, .ref v2), (3, .int v3)]) (S' := [.int 0]) rfl ?_
        exact zco_zret rfl rfl rfl (zdk (cc := cX8_read) (q := (30, .ireturn, 1)) tkX8_read 20 rfl)
theorem mtX8_read (l : Launch) (d : Nat) (hd : 5 ≤ d) (v0 : Nat) (v1 : Nat) (v2 : Nat) (v3 : Int32) : zMet l d 0 0 yX8_read cX8_read 7 (Option.some .boolean) [.ref v0, .ref v1, .ref v2, .int v3] (X8_read v0 v1 v2 v3) := by
  obtain ⟨e, rfl⟩ : ∃ e, d = e + 1 := ⟨d - 1, by omega⟩
  exact zmet_of (own := RX8) (ini := false) (by decide +kernel) rfl (fun _ => by contradiction) (Nat.le_of_ble_eq_true rfl) (coX8_read l e (by omega) v0 v1 v2 v3)
abbrev iX11_on : zI := (RX11, cX11_on, 3, (Option.some .boolean), false)
def tX11_on : List (Nat × Instr × Nat) := [(0, .aload_n 0, 1), (1, .invokevirtual 136, 3), (4, .istore_n 1, 1), (5, .aload_n 0, 1), (6, .getfield 79, 3), (9, .getfield 362, 3), (12, .astore_n 2, 1), (13, .aload_n 2, 1), (14, .aload_n 0, 1), (15, .getfield 61, 3), (18, .invokevirtual 365, 3), (21, .aload_n 2, 1), (22, .aload_n 0, 1), (23, .getfield 51, 3), (26, .aload_n 0, 1), (27, .getfield 9, 3), (30, .iload_n 1, 1), (31, .invokevirtual 368, 3), (34, .ifCond .ne 11, 3), (37, .aload_n 0, 1), (38, .iconst 5, 1), (39, .invokevirtual 128, 3), (42, .pop, 1), (43, .iconst 0, 1), (44, .ireturn, 1), (45, .aload_n 0, 1), (46, .getfield 61, 3), (49, .aload_n 2, 1), (50, .invokevirtual 365, 3), (53, .aload_n 0, 1), (54, .getfield 93, 3), (57, .invokevirtual 151, 3), (60, .iconst 1, 1), (61, .ireturn, 1)]
set_option maxRecDepth 100000 in
theorem tkX11_on : ∀ q ∈ tX11_on, decode cX11_on q.1 = .ok q.2 := by decide +kernel
theorem vmX11_on : zVM yX11_on cX11_on 3 (Option.some .boolean) 0 11 := ⟨kX11_on, q_1355, q_1356, q_149, ⟨_, rfl, rfl⟩, by decide +kernel, by decide⟩
set_option maxHeartbeats 2000000 in
set_option maxRecDepth 20000 in
theorem coX11_on (l : Launch) (e : Nat) (he : 5 ≤ e) (v0 : Nat) : zCo l (e + 1) 0 0 iX11_on 0 [(0, .ref v0)] [] (X11_on v0) := by
  unfold X11_on
  refine zco_p tkX11_on 0 1 (pc' := 1) (L' := [(0, .ref v0)]) (S' := [.ref v0]) rfl ?_
  refine zco_Vi (rc := 0) (rs := 0) (mc := 0) (ms := 0) (As := []) (S := []) vmX11_takeTape (mtX11_takeTape l e (by omega) v0) q_640 rfl rfl (Nat.le_of_ble_eq_true rfl) (zdk (cc := cX11_on) (q := (1, .invokevirtual 136, 3)) tkX11_on 1 rfl) (fun y1 => ?_)
  refine zco_p tkX11_on 2 2 (pc' := 6) (L' := [(1, .int y1), (0, .ref v0)]) (S' := [.ref v0]) rfl ?_
  refine zco_gr fl_11_79 rfl (zdk (cc := cX11_on) (q := (6, .getfield 79, 3)) tkX11_on 4 rfl) (fun x2 => ?_)
  refine zco_gr fl_11_362 rfl (zdk (cc := cX11_on) (q := (9, .getfield 362, 3)) tkX11_on 5 rfl) (fun x3 => ?_)
  refine zco_p tkX11_on 6 3 (pc' := 15) (L' := [(2, .ref x3), (1, .int y1), (0, .ref v0)]) (S' := [.ref v0, .ref x3]) rfl ?_
  refine zco_gr fl_11_61 rfl (zdk (cc := cX11_on) (q := (15, .getfield 61, 3)) tkX11_on 9 rfl) (fun x4 => ?_)
  refine zco_Vv (rc := 0) (rs := 0) (mc := 0) (ms := 0) (As := [.ref x4]) (S := []) vmX8_take (mtX8_take l e (by omega) x3 x4) q_1358 rfl rfl (Nat.le_of_ble_eq_true rfl) (zdk (cc := cX11_on) (q := (18, .invokevirtual 365, 3)) tkX11_on 10 rfl) ?_
  refine zco_p tkX11_on 11 2 (pc' := 23) (L' := [(2, .ref x3), (1, .int y1), (0, .ref v0)]) (S' := [.ref v0, .ref x3]) rfl ?_
  refine zco_gr fl_11_51 rfl (zdk (cc := cX11_on) (q := (23, .getfield 51, 3)) tkX11_on 13 rfl) (fun x5 => ?_)
  refine zco_p tkX11_on 14 1 (pc' := 27) (L' := [(2, .ref x3), (1, .int y1), (0, .ref v0)]) (S' := [.ref v0, .ref x5, .ref x3]) rfl ?_
  refine zco_gr fl_11_9 rfl (zdk (cc := cX11_on) (q := (27, .getfield 9, 3)) tkX11_on 15 rfl) (fun x6 => ?_)
  refine zco_p tkX11_on 16 1 (pc' := 31) (L' := [(2, .ref x3), (1, .int y1), (0, .ref v0)]) (S' := [.int y1, .ref x6, .ref x5, .ref x3]) rfl ?_
  refine zco_Vi (rc := 0) (rs := 0) (mc := 0) (ms := 0) (As := [.ref x5, .ref x6, .int y1]) (S := []) vmX8_read (mtX8_read l e (by omega) x3 x5 x6 y1) q_1359 rfl rfl (Nat.le_of_ble_eq_true rfl) (zdk (cc := cX11_on) (q := (31, .invokevirtual 368, 3)) tkX11_on 17 rfl) (fun y7 => ?_)
  refine zco_if_ne (tgt := 45) (zdk (cc := cX11_on) (q := (34, .ifCond .ne 11, 3)) tkX11_on 18 rfl) rfl ?_ ?_
  · refine zco_p tkX11_on 25 1 (pc' := 46) (L' := [(2, .ref x3), (1, .int y1), (0, .ref v0)]) (S' := [.ref v0]) rfl ?_
    refine zco_gr fl_11_61 rfl (zdk (cc := cX11_on) (q := (46, .getfield 61, 3)) tkX11_on 26 rfl) (fun x8 => ?_)
    refine zco_p tkX11_on 27 1 (pc' := 50) (L' := [(2, .ref x3), (1, .int y1), (0, .ref v0)]) (S' := [.ref x3, .ref x8]) rfl ?_
    refine zco_Vv (rc := 0) (rs := 0) (mc := 0) (ms := 0) (As := [.ref x3]) (S := []) vmX8_take (mtX8_take l e (by omega) x8 x3) q_1358 rfl rfl (Nat.le_of_ble_eq_true rfl) (zdk (cc := cX11_on) (q := (50, .invokevirtual 365, 3)) tkX11_on 28 rfl) ?_
    refine zco_p tkX11_on 29 1 (pc' := 54) (L' := [(2, .ref x3), (1, .int y1), (0, .ref v0)]) (S' := [.ref v0]) rfl ?_
    refine zco_gr fl_11_93 rfl (zdk (cc := cX11_on) (q := (54, .getfield 93, 3)) tkX11_on 30 rfl) (fun x9 => ?_)
    refine zco_Vv (rc := 0) (rs := 0) (mc := 0) (ms := 0) (As := []) (S := []) vmX6_forget (mtX6_forget l e (by omega) x9) q_905 rfl rfl (Nat.le_of_ble_eq_true rfl) (zdk (cc := cX11_on) (q := (57, .invokevirtual 151, 3)) tkX11_on 31 rfl) ?_
    refine zco_p tkX11_on 32 1 (pc' := 61) (L' := [(2, .ref x3), (1, .int y1), (0, .ref v0)]) (S' := [.int 1]) rfl ?_
    exact zco_zret rfl rfl rfl (zdk (cc := cX11_on) (q := (61, .ireturn, 1)) tkX11_on 33 rfl)
  · refine zco_p tkX11_on 19 2 (pc' := 39) (L' := [(2, .ref x3), (1, .int y1), (0, .ref v0)]) (S' := [.int 5, .ref v0]) rfl ?_
    refine zco_Vi (rc := 0) (rs := 0) (mc := 0) (ms := 0) (As := [.int 5]) (S := []) vmX11_refuse (mtX11_refuse l e (by omega) v0 5) q_624 rfl rfl (Nat.le_of_ble_eq_true rfl) (zdk (cc := cX11_on) (q := (39, .invokevirtual 128, 3)) tkX11_on 21 rfl) (fun y10 => ?_)
    refine zco_p tkX11_on 22 2 (pc' := 44) (L' := [(2, .ref x3), (1, .int y1), (0, .ref v0)]) (S' := [.int 0]) rfl ?_
    exact zco_zret rfl rfl rfl (zdk (cc := cX11_on) (q := (44, .ireturn, 1)) tkX11_on 24 rfl)
theorem mtX11_on (l : Launch) (d : Nat) (hd : 6 ≤ d) (v0 : Nat) : zMet l d 0 0 yX11_on cX11_on 3 (Option.some .boolean) [.ref v0] (X11_on v0) := by
  obtain ⟨e, rfl⟩ : ∃ e, d = e + 1 := ⟨d - 1, by omega⟩
  exact zmet_of (own := RX11) (ini := false) (by decide +kernel) rfl (fun _ => by contradiction) (Nat.le_of_ble_eq_true rfl) (coX11_on l e (by omega) v0)
abbrev iX11_status : zI := (RX11, cX11_status, 2, (Option.some .int), false)
def tX11_status : List (Nat × Instr × Nat) := [(0, .iload_n 1, 1), (1, .ifCond .lt 21, 3), (4, .iload_n 1, 1), (5, .aload_n 0, 1), (6, .getfield 109, 3), (9, .arraylength, 1), (10, .if_icmp .ge 12, 3), (13, .aload_n 0, 1), (14, .getfield 109, 3), (17, .iload_n 1, 1), (18, .iaload, 1), (19, .goto 4, 3), (22, .iconst (-1), 1), (23, .ireturn, 1)]
set_option maxRecDepth 100000 in
theorem tkX11_status : ∀ q ∈ tX11_status, decode cX11_status q.1 = .ok q.2 := by decide +kernel
theorem vmX11_status : zVM yX11_status cX11_status 2 (Option.some .int) 1 11 := ⟨kX11_status, q_1379, q_1380, q_149, ⟨_, rfl, rfl⟩, by decide +kernel, by decide⟩
set_option maxHeartbeats 2000000 in
set_option maxRecDepth 20000 in
theorem coX11_status (l : Launch) (e : Nat) (he : 0 ≤ e) (v0 : Nat) (v1 : Int32) : zCo l (e + 1) 0 0 iX11_status 0 [(0, .ref v0), (1, .int v1)] [] (X11_status v0 v1) := by
  unfold X11_status
  refine zco_p tkX11_status 0 1 (pc' := 1) (L' := [(0, .ref v0), (1, .int v1)]) (S' := [.int v1]) rfl ?_
  refine zco_if_lt (tgt := 22) (zdk (cc := cX11_status) (q := (1, .ifCond .lt 21, 3)) tkX11_status 1 rfl) rfl ?_ ?_
  · refine zco_p tkX11_status 12 1 (pc' := 23) (L' := [(0, .ref v0), (1, .int v1)]) (S' := [.int ((-1))]) rfl ?_
    exact zco_iret rfl rfl rfl (zdk (cc := cX11_status) (q := (23, .ireturn, 1)) tkX11_status 13 rfl)
  · refine zco_p tkX11_status 2 2 (pc' := 6) (L' := [(0, .ref v0), (1, .int v1)]) (S' := [.ref v0, .int v1]) rfl ?_
    refine zco_gr fl_11_109 rfl (zdk (cc := cX11_status) (q := (6, .getfield 109, 3)) tkX11_status 4 rfl) (fun x1 => ?_)
    refine zco_alen (zdk (cc := cX11_status) (q := (9, .arraylength, 1)) tkX11_status 5 rfl) (fun x2 => ?_)
    refine zco_icmp_ge (tgt := 22) (zdk (cc := cX11_status) (q := (10, .if_icmp .ge 12, 3)) tkX11_status 6 rfl) rfl ?_ ?_
    · refine zco_p tkX11_status 12 1 (pc' := 23) (L' := [(0, .ref v0), (1, .int v1)]) (S' := [.int ((-1))]) rfl ?_
      exact zco_iret rfl rfl rfl (zdk (cc := cX11_status) (q := (23, .ireturn, 1)) tkX11_status 13 rfl)
    · refine zco_p tkX11_status 7 1 (pc' := 14) (L' := [(0, .ref v0), (1, .int v1)]) (S' := [.ref v0]) rfl ?_
      refine zco_gr fl_11_109 rfl (zdk (cc := cX11_status) (q := (14, .getfield 109, 3)) tkX11_status 8 rfl) (fun x3 => ?_)
      refine zco_p tkX11_status 9 1 (pc' := 18) (L' := [(0, .ref v0), (1, .int v1)]) (S' := [.int v1, .ref x3]) rfl ?_
      refine zco_iaload (zdk (cc := cX11_status) (q := (18, .iaload, 1)) tkX11_status 10 rfl) (fun x4 => ?_)
      refine zco_p tkX11_status 11 1 (pc' := 23) (L' := [(0, .ref v0), (1, .int v1)]) (S' := [.int x4]) rfl ?_
      exact zco_iret rfl rfl rfl (zdk (cc := cX11_status) (q := (23, .ireturn, 1)) tkX11_status 13 rfl)
theorem mtX11_status (l : Launch) (d : Nat) (hd : 1 ≤ d) (v0 : Nat) (v1 : Int32) : zMet l d 0 0 yX11_status cX11_status 2 (Option.some .int) [.ref v0, .int v1] (X11_status v0 v1) := by
  obtain ⟨e, rfl⟩ : ∃ e, d = e + 1 := ⟨d - 1, by omega⟩
  exact zmet_of (own := RX11) (ini := false) (by decide +kernel) rfl (fun _ => by contradiction) (Nat.le_of_ble_eq_true rfl) (coX11_status l e (by omega) v0 v1)
