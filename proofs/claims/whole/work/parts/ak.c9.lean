abbrev iX11_rounds : zI := (RX11, cX11_rounds, 4, (Option.some .int), false)
def tX11_rounds : List (Nat × Instr × Nat) := [(0, .aload_n 0, 1), (1, .getfield 79, 3), (4, .aload_n 0, 1), (5, .getfield 61, 3), (8, .iload_n 1, 1), (9, .iconst 1, 1), (10, .bipush 100, 2), (12, .invokevirtual 248, 3), (15, .ifCond .ne 9, 3), (18, .aload_n 0, 1), (19, .iconst 3, 1), (20, .invokevirtual 128, 3), (23, .ireturn, 1), (24, .aload_n 0, 1), (25, .getfield 93, 3), (28, .aload_n 0, 1), (29, .getfield 61, 3), (32, .invokevirtual 305, 3), (35, .iconst 0, 1), (36, .istore_n 2, 1), (37, .iconst 0, 1), (38, .istore_n 3, 1), (39, .iload_n 3, 1), (40, .iload_n 1, 1), (41, .if_icmp .ge 17, 3), (44, .iload_n 2, 1), (45, .aload_n 0, 1), (46, .iconst (-1), 1), (47, .invokevirtual 308, 3), (50, .iadd, 1), (51, .istore_n 2, 1), (52, .iinc 3 1, 3), (55, .goto (-16), 3), (58, .iload_n 2, 1), (59, .ireturn, 1)]
set_option maxRecDepth 100000 in
theorem tkX11_rounds : ∀ q ∈ tX11_rounds, decode cX11_rounds q.1 = .ok q.2 := by decide +kernel
theorem vmX11_rounds : zVM yX11_rounds cX11_rounds 4 (Option.some .int) 1 11 := ⟨kX11_rounds, q_1213, q_1214, q_149, ⟨_, rfl, rfl⟩, by decide +kernel, by decide⟩
set_option maxHeartbeats 2000000 in
set_option maxRecDepth 20000 in
theorem coX11_rounds_B39 (l : Launch) (e : Nat) (he : 6 ≤ e) (v0 : Nat) (v1 : Int32) (r39 : Int32 × Int32 → zM) (hr39 : ∀ x : Int32 × Int32, zCo l (e + 1) 0 0 iX11_rounds 39 [(0, .ref v0), (1, .int v1), (2, .int x.1), (3, .int x.2)] [] (r39 x)) (v2 : Int32) (v3 : Int32) : zCo l (e + 1) 0 0 iX11_rounds 39 [(0, .ref v0), (1, .int v1), (2, .int v2), (3, .int v3)] [] (X11_rounds_B39 v0 v1 r39 v2 v3) := by
  unfold X11_rounds_B39
  refine zco_p tkX11_rounds 22 2 (pc' := 41) (L' := [(0, .ref v0), (1, .int v1), (2, .int v2), (3, .int v3)]) (S' := [.int v1, .int v3]) rfl ?_
  refine zco_icmp_ge (tgt := 58) (zdk (cc := cX11_rounds) (q := (41, .if_icmp .ge 17, 3)) tkX11_rounds 24 rfl) rfl ?_ ?_
  · refine zco_p tkX11_rounds 33 1 (pc' := 59) (L' := [(0, .ref v0), (1, .int v1), (2, .int v2), (3, .int v3)]) (S' := [.int v2]) rfl ?_
    exact zco_iret rfl rfl rfl (zdk (cc := cX11_rounds) (q := (59, .ireturn, 1)) tkX11_rounds 34 rfl)
  · refine zco_p tkX11_rounds 25 3 (pc' := 47) (L' := [(0, .ref v0), (1, .int v1), (2, .int v2), (3, .int v3)]) (S' := [.int ((-1)), .ref v0, .int v2]) rfl ?_
    refine zco_Vi (rc := 0) (rs := 0) (mc := 0) (ms := 0) (As := [.int ((-1))]) (S := [.int v2]) vmX11_actRound (mtX11_actRound l e (by omega) v0 ((-1))) q_1221 rfl rfl (Nat.le_of_ble_eq_true rfl) (zdk (cc := cX11_rounds) (q := (47, .invokevirtual 308, 3)) tkX11_rounds 28 rfl) (fun y1 => ?_)
    refine zco_p tkX11_rounds 29 4 (pc' := 39) (L' := [(3, .int (v3 + 1)), (2, .int (v2 + y1)), (0, .ref v0), (1, .int v1)]) (S' := []) rfl ?_
    exact zco_sub [2, 3, 1, 0] rfl (hr39 (v2 + y1, v3 + 1))
set_option maxHeartbeats 2000000 in
set_option maxRecDepth 20000 in
theorem coX11_rounds (l : Launch) (e : Nat) (he : 6 ≤ e) (v0 : Nat) (v1 : Int32) : zCo l (e + 1) 0 0 iX11_rounds 0 [(0, .ref v0), (1, .int v1)] [] (X11_rounds v0 v1) := by
  unfold X11_rounds
  refine zco_p tkX11_rounds 0 1 (pc' := 1) (L' := [(0, .ref v0), (1, .int v1)]) (S' := [.ref v0]) rfl ?_
  refine zco_gr fl_11_79 rfl (zdk (cc := cX11_rounds) (q := (1, .getfield 79, 3)) tkX11_rounds 1 rfl) (fun x1 => ?_)
  refine zco_p tkX11_rounds 2 1 (pc' := 5) (L' := [(0, .ref v0), (1, .int v1)]) (S' := [.ref v0, .ref x1]) rfl ?_
  refine zco_gr fl_11_61 rfl (zdk (cc := cX11_rounds) (q := (5, .getfield 61, 3)) tkX11_rounds 3 rfl) (fun x2 => ?_)
  refine zco_p tkX11_rounds 4 3 (pc' := 12) (L' := [(0, .ref v0), (1, .int v1)]) (S' := [.int 100, .int 1, .int v1, .ref x2, .ref x1]) rfl ?_
  refine zco_Vi (rc := 0) (rs := 0) (mc := 0) (ms := 0) (As := [.ref x2, .int v1, .int 1, .int 100]) (S := []) vmX0_canCome (mtX0_canCome l e (by omega) x1 x2 v1 1 100) q_1030 rfl rfl (Nat.le_of_ble_eq_true rfl) (zdk (cc := cX11_rounds) (q := (12, .invokevirtual 248, 3)) tkX11_rounds 7 rfl) (fun y3 => ?_)
  refine zco_if_ne (tgt := 24) (zdk (cc := cX11_rounds) (q := (15, .ifCond .ne 9, 3)) tkX11_rounds 8 rfl) rfl ?_ ?_
  · refine zco_p tkX11_rounds 13 1 (pc' := 25) (L' := [(0, .ref v0), (1, .int v1)]) (S' := [.ref v0]) rfl ?_
    refine zco_gr fl_11_93 rfl (zdk (cc := cX11_rounds) (q := (25, .getfield 93, 3)) tkX11_rounds 14 rfl) (fun x4 => ?_)
    refine zco_p tkX11_rounds 15 1 (pc' := 29) (L' := [(0, .ref v0), (1, .int v1)]) (S' := [.ref v0, .ref x4]) rfl ?_
    refine zco_gr fl_11_61 rfl (zdk (cc := cX11_rounds) (q := (29, .getfield 61, 3)) tkX11_rounds 16 rfl) (fun x5 => ?_)
    refine zco_Vv (rc := 0) (rs := 0) (mc := 0) (ms := 0) (As := [.ref x5]) (S := []) vmX6_remember (mtX6_remember l e (by omega) x4 x5) q_1216 rfl rfl (Nat.le_of_ble_eq_true rfl) (zdk (cc := cX11_rounds) (q := (32, .invokevirtual 305, 3)) tkX11_rounds 17 rfl) ?_
    refine zco_p tkX11_rounds 18 4 (pc' := 39) (L' := [(3, .int 0), (2, .int 0), (0, .ref v0), (1, .int v1)]) (S' := []) rfl ?_
    exact zco_sub [2, 3, 1, 0] rfl (zco_fix (Lf := fun x : Int32 × Int32 => [(0, .ref v0), (1, .int v1), (2, .int x.1), (3, .int x.2)]) (Sf := fun _ => []) (fun r hr x => coX11_rounds_B39 l e he v0 v1 r hr x.1 x.2) zFU (0, 0))
  · refine zco_p tkX11_rounds 9 2 (pc' := 20) (L' := [(0, .ref v0), (1, .int v1)]) (S' := [.int 3, .ref v0]) rfl ?_
    refine zco_Vi (rc := 0) (rs := 0) (mc := 0) (ms := 0) (As := [.int 3]) (S := []) vmX11_refuse (mtX11_refuse l e (by omega) v0 3) q_624 rfl rfl (Nat.le_of_ble_eq_true rfl) (zdk (cc := cX11_rounds) (q := (20, .invokevirtual 128, 3)) tkX11_rounds 11 rfl) (fun y6 => ?_)
    exact zco_iret rfl rfl rfl (zdk (cc := cX11_rounds) (q := (23, .ireturn, 1)) tkX11_rounds 12 rfl)
theorem mtX11_rounds (l : Launch) (d : Nat) (hd : 7 ≤ d) (v0 : Nat) (v1 : Int32) : zMet l d 0 0 yX11_rounds cX11_rounds 4 (Option.some .int) [.ref v0, .int v1] (X11_rounds v0 v1) := by
  obtain ⟨e, rfl⟩ : ∃ e, d = e + 1 := ⟨d - 1, by omega⟩
  exact zmet_of (own := RX11) (ini := false) (by decide +kernel) rfl (fun _ => by contradiction) (Nat.le_of_ble_eq_true rfl) (coX11_rounds l e (by omega) v0 v1)
abbrev iX11_draw : zI := (RX11, cX11_draw, 2, (Option.some .int), false)
def tX11_draw : List (Nat × Instr × Nat) := [(0, .aload_n 0, 1), (1, .ldc2_w 327, 3), (4, .aload_n 0, 1), (5, .getfield 118, 3), (8, .lmul, 1), (9, .ldc2_w 329, 3), (12, .ladd, 1), (13, .ldc2_w 331, 3), (16, .land, 1), (17, .putfield 118, 3), (20, .iload_n 1, 1), (21, .ifCond .le 18, 3), (24, .aload_n 0, 1), (25, .getfield 118, 3), (28, .ldc2_w 333, 3), (31, .ldiv, 1), (32, .iload_n 1, 1), (33, .i2l, 1), (34, .lrem, 1), (35, .l2i, 1), (36, .goto 4, 3), (39, .iconst 0, 1), (40, .ireturn, 1)]
set_option maxRecDepth 100000 in
theorem tkX11_draw : ∀ q ∈ tX11_draw, decode cX11_draw q.1 = .ok q.2 := by decide +kernel
theorem vmX11_draw : zVM yX11_draw cX11_draw 2 (Option.some .int) 1 11 := ⟨kX11_draw, q_1236, q_38, q_149, ⟨_, rfl, rfl⟩, by decide +kernel, by decide⟩
set_option maxHeartbeats 2000000 in
set_option maxRecDepth 20000 in
theorem coX11_draw (l : Launch) (e : Nat) (he : 0 ≤ e) (v0 : Nat) (v1 : Int32) : zCo l (e + 1) 0 0 iX11_draw 0 [(0, .ref v0), (1, .int v1)] [] (X11_draw v0 v1) := by
  unfold X11_draw
  refine zco_p tkX11_draw 0 1 (pc' := 1) (L' := [(0, .ref v0), (1, .int v1)]) (S' := [.ref v0]) rfl ?_
  refine zco_ldc2 q_1238 (zdk (cc := cX11_draw) (q := (1, .ldc2_w 327, 3)) tkX11_draw 1 rfl) ?_
  refine zco_p tkX11_draw 2 1 (pc' := 5) (L' := [(0, .ref v0), (1, .int v1)]) (S' := [.ref v0, .long 1103515245, .ref v0]) rfl ?_
  refine zco_gl fl_11_118 rfl (zdk (cc := cX11_draw) (q := (5, .getfield 118, 3)) tkX11_draw 3 rfl) (fun x1 => ?_)
  refine zco_p tkX11_draw 4 1 (pc' := 9) (L' := [(0, .ref v0), (1, .int v1)]) (S' := [.long (1103515245 * x1), .ref v0]) rfl ?_
  refine zco_ldc2 q_1239 (zdk (cc := cX11_draw) (q := (9, .ldc2_w 329, 3)) tkX11_draw 5 rfl) ?_
  refine zco_p tkX11_draw 6 1 (pc' := 13) (L' := [(0, .ref v0), (1, .int v1)]) (S' := [.long ((1103515245 * x1) + 12345), .ref v0]) rfl ?_
  refine zco_ldc2 q_1240 (zdk (cc := cX11_draw) (q := (13, .ldc2_w 331, 3)) tkX11_draw 7 rfl) ?_
  refine zco_p tkX11_draw 8 1 (pc' := 17) (L' := [(0, .ref v0), (1, .int v1)]) (S' := [.long (((1103515245 * x1) + 12345) &&& 2147483647), .ref v0]) rfl ?_
  refine zco_pl fl_11_118 rfl rfl (zdk (cc := cX11_draw) (q := (17, .putfield 118, 3)) tkX11_draw 9 rfl) ?_
  refine zco_p tkX11_draw 10 1 (pc' := 21) (L' := [(0, .ref v0), (1, .int v1)]) (S' := [.int v1]) rfl ?_
  refine zco_if_le (tgt := 39) (zdk (cc := cX11_draw) (q := (21, .ifCond .le 18, 3)) tkX11_draw 11 rfl) rfl ?_ ?_
  · refine zco_p tkX11_draw 21 1 (pc' := 40) (L' := [(0, .ref v0), (1, .int v1)]) (S' := [.int 0]) rfl ?_
    exact zco_iret rfl rfl rfl (zdk (cc := cX11_draw) (q := (40, .ireturn, 1)) tkX11_draw 22 rfl)
  · refine zco_p tkX11_draw 12 1 (pc' := 25) (L' := [(0, .ref v0), (1, .int v1)]) (S' := [.ref v0]) rfl ?_
    refine zco_gl fl_11_118 rfl (zdk (cc := cX11_draw) (q := (25, .getfield 118, 3)) tkX11_draw 13 rfl) (fun x2 => ?_)
    refine zco_ldc2 q_1241 (zdk (cc := cX11_draw) (q := (28, .ldc2_w 333, 3)) tkX11_draw 14 rfl) ?_
    refine zco_ldiv (zdk (cc := cX11_draw) (q := (31, .ldiv, 1)) tkX11_draw 15 rfl) ?_
    refine zco_p tkX11_draw 16 2 (pc' := 34) (L' := [(0, .ref v0), (1, .int v1)]) (S' := [.long v1.toInt64, .long (x2 / 64)]) rfl ?_
    refine zco_lrem (zdk (cc := cX11_draw) (q := (34, .lrem, 1)) tkX11_draw 18 rfl) ?_
    refine zco_p tkX11_draw 19 2 (pc' := 40) (L' := [(0, .ref v0), (1, .int v1)]) (S' := [.int (((x2 / 64) - (x2 / 64) / v1.toInt64 * v1.toInt64 : Int64).toInt32)]) rfl ?_
    exact zco_iret rfl rfl rfl (zdk (cc := cX11_draw) (q := (40, .ireturn, 1)) tkX11_draw 22 rfl)
theorem mtX11_draw (l : Launch) (d : Nat) (hd : 1 ≤ d) (v0 : Nat) (v1 : Int32) : zMet l d 0 0 yX11_draw cX11_draw 2 (Option.some .int) [.ref v0, .int v1] (X11_draw v0 v1) := by
  obtain ⟨e, rfl⟩ : ∃ e, d = e + 1 := ⟨d - 1, by omega⟩
  exact zmet_of (own := RX11) (ini := false) (by decide +kernel) rfl (fun _ => by contradiction) (Nat.le_of_ble_eq_true rfl) (coX11_draw l e (by omega) v0 v1)
abbrev iX11_chance : zI := (RX11, cX11_chance, 5, (Option.some .int), false)
def tX11_chance : List (Nat × Instr × Nat) := [(0, .aload_n 0, 1), (1, .getfield 79, 3), (4, .aload_n 0, 1), (5, .getfield 61, 3), (8, .iload_n 1, 1), (9, .iconst 1, 1), (10, .bipush 100, 2), (12, .invokevirtual 248, 3), (15, .ifCond .ne 9, 3), (18, .aload_n 0, 1), (19, .iconst 3, 1), (20, .invokevirtual 128, 3), (23, .ireturn, 1), (24, .aload_n 0, 1), (25, .getfield 93, 3), (28, .aload_n 0, 1), (29, .getfield 61, 3), (32, .invokevirtual 305, 3), (35, .iconst 0, 1), (36, .istore_n 2, 1), (37, .iconst 0, 1), (38, .istore_n 3, 1), (39, .iload_n 3, 1), (40, .iload_n 1, 1), (41, .if_icmp .ge 68, 3), (44, .iconst (-1), 1), (45, .istore 4, 2), (47, .aload_n 0, 1), (48, .bipush 100, 2), (50, .invokevirtual 311, 3), (53, .aload_n 0, 1), (54, .getfield 51, 3), (57, .getfield 314, 3), (60, .if_icmp .ge 36, 3), (63, .aload_n 0, 1), (64, .getfield 51, 3), (67, .invokevirtual 287, 3), (70, .ifCond .le 26, 3), (73, .aload_n 0, 1), (74, .getfield 51, 3), (77, .aload_n 0, 1), (78, .aload_n 0, 1), (79, .getfield 51, 3), (82, .invokevirtual 287, 3), (85, .invokevirtual 311, 3), (88, .invokevirtual 184, 3), (91, .istore 4, 2), (93, .iinc 2 1, 3), (96, .aload_n 0, 1), (97, .iload 4, 2), (99, .invokevirtual 308, 3), (102, .pop, 1), (103, .iinc 3 1, 3), (106, .goto (-67), 3), (109, .iload_n 2, 1), (110, .ireturn, 1)]
set_option maxRecDepth 100000 in
theorem tkX11_chance : ∀ q ∈ tX11_chance, decode cX11_chance q.1 = .ok q.2 := by decide +kernel
theorem vmX11_chance : zVM yX11_chance cX11_chance 5 (Option.some .int) 1 11 := ⟨kX11_chance, q_1231, q_1232, q_149, ⟨_, rfl, rfl⟩, by decide +kernel, by decide⟩
set_option maxHeartbeats 2000000 in
set_option maxRecDepth 20000 in
theorem coX11_chance_J96 (l : Launch) (e : Nat) (he : 6 ≤ e) (v0 : Nat) (v1 : Int32) (v2 : Int32) (v3 : Int32) (v4 : Int32) (r39 : Int32 × Int32 → zM) (hr39 : ∀ x : Int32 × Int32, zCo l (e + 1) 0 0 iX11_chance 39 [(0, .ref v0), (1, .int v1), (2, .int x.1), (3, .int x.2)] [] (r39 x)) : zCo l (e + 1) 0 0 iX11_chance 96 [(0, .ref v0), (1, .int v1), (2, .int v2), (3, .int v3), (4, .int v4)] [] (X11_chance_J96 r39 v0 v1 v2 v3 v4) := by
  unfold X11_chance_J96
  refine zco_p tkX11_chance 48 2 (pc' := 99) (L' := [(0, .ref v0), (1, .int v1), (2, .int v2), (3, .int v3), (4, .int v4)]) (S' := [.int v4, .ref v0]) rfl ?_
  refine zco_Vi (rc := 0) (rs := 0) (mc := 0) (ms := 0) (As := [.int v4]) (S := []) vmX11_actRound (mtX11_actRound l e (by omega) v0 v4) q_1221 rfl rfl (Nat.le_of_ble_eq_true rfl) (zdk (cc := cX11_chance) (q := (99, .invokevirtual 308, 3)) tkX11_chance 50 rfl) (fun y1 => ?_)
  refine zco_p tkX11_chance 51 3 (pc' := 39) (L' := [(3, .int (v3 + 1)), (0, .ref v0), (1, .int v1), (2, .int v2), (4, .int v4)]) (S' := []) rfl ?_
  exact zco_sub [1, 2, 3, 0] rfl (hr39 (v2, v3 + 1))
set_option maxHeartbeats 2000000 in
set_option maxRecDepth 20000 in
theorem coX11_chance_B39 (l : Launch) (e : Nat) (he : 6 ≤ e) (v0 : Nat) (v1 : Int32) (r39 : Int32 × Int32 → zM) (hr39 : ∀ x : Int32 × Int32, zCo l (e + 1) 0 0 iX11_chance 39 [(0, .ref v0), (1, .int v1), (2, .int x.1), (3, .int x.2)] [] (r39 x)) (v2 : Int32) (v3 : Int32) : zCo l (e + 1) 0 0 iX11_chance 39 [(0, .ref v0), (1, .int v1), (2, .int v2), (3, .int v3)] [] (X11_chance_B39 v0 v1 r39 v2 v3) := by
  unfold X11_chance_B39
  refine zco_p tkX11_chance 22 2 (pc' := 41) (L' := [(0, .ref v0), (1, .int v1), (2, .int v2), (3, .int v3)]) (S' := [.int v1, .int v3]) rfl ?_
  refine zco_icmp_ge (tgt := 109) (zdk (cc := cX11_chance) (q := (41, .if_icmp .ge 68, 3)) tkX11_chance 24 rfl) rfl ?_ ?_
  · refine zco_p tkX11_chance 54 1 (pc' := 110) (L' := [(0, .ref v0), (1, .int v1), (2, .int v2), (3, .int v3)]) (S' := [.int v2]) rfl ?_
    exact zco_iret rfl rfl rfl (zdk (cc := cX11_chance) (q := (110, .ireturn, 1)) tkX11_chance 55 rfl)
  · refine zco_p tkX11_chance 25 4 (pc' := 50) (L' := [(4, .int ((-1))), (0, .ref v0), (1, .int v1), (2, .int v2), (3, .int v3)]) (S' := [.int 100, .ref v0]) rfl ?_
    refine zco_Vi (rc := 0) (rs := 0) (mc := 0) (ms := 0) (As := [.int 100]) (S := []) vmX11_draw (mtX11_draw l e (by omega) v0 100) q_1234 rfl rfl (Nat.le_of_ble_eq_true rfl) (zdk (cc := cX11_chance) (q := (50, .invokevirtual 311, 3)) tkX11_chance 29 rfl) (fun y1 => ?_)
    refine zco_p tkX11_chance 30 1 (pc' := 54) (L' := [(4, .int ((-1))), (0, .ref v0), (1, .int v1), (2, .int v2), (3, .int v3)]) (S' := [.ref v0, .int y1]) rfl ?_
    refine zco_gr fl_11_51 rfl (zdk (cc := cX11_chance) (q := (54, .getfield 51, 3)) tkX11_chance 31 rfl) (fun x2 => ?_)
    refine zco_gi fl_11_314 rfl (zdk (cc := cX11_chance) (q := (57, .getfield 314, 3)) tkX11_chance 32 rfl) (fun x3 => ?_)
    refine zco_icmp_ge (tgt := 96) (zdk (cc := cX11_chance) (q := (60, .if_icmp .ge 36, 3)) tkX11_chance 33 rfl) rfl ?_ ?_
    · exact zco_sub [1, 2, 3, 4, 0] rfl (coX11_chance_J96 l e he v0 v1 v2 v3 ((-1)) r39 hr39)
    · refine zco_p tkX11_chance 34 1 (pc' := 64) (L' := [(4, .int ((-1))), (0, .ref v0), (1, .int v1), (2, .int v2), (3, .int v3)]) (S' := [.ref v0]) rfl ?_
      refine zco_gr fl_11_51 rfl (zdk (cc := cX11_chance) (q := (64, .getfield 51, 3)) tkX11_chance 35 rfl) (fun x4 => ?_)
      refine zco_Vi (rc := 0) (rs := 0) (mc := 0) (ms := 0) (As := []) (S := []) vmX1_people (mtX1_people l e (by omega) x4) q_1164 rfl rfl (Nat.le_of_ble_eq_true rfl) (zdk (cc := cX11_chance) (q := (67, .invokevirtual 287, 3)) tkX11_chance 36 rfl) (fun y5 => ?_)
      refine zco_if_le (tgt := 96) (zdk (cc := cX11_chance) (q := (70, .ifCond .le 26, 3)) tkX11_chance 37 rfl) rfl ?_ ?_
      · exact zco_sub [1, 2, 3, 4, 0] rfl (coX11_chance_J96 l e he v0 v1 v2 v3 ((-1)) r39 hr39)
      · refine zco_p tkX11_chance 38 1 (pc' := 74) (L' := [(4, .int ((-1))), (0, .ref v0), (1, .int v1), (2, .int v2), (3, .int v3)]) (S' := [.ref v0]) rfl ?_
        refine zco_gr fl_11_51 rfl (zdk (cc := cX11_chance) (q := (74, .getfield 51, 3)) tkX11_chance 39 rfl) (fun x6 => ?_)
        refine zco_p tkX11_chance 40 2 (pc' := 79) (L' := [(4, .int ((-1))), (0, .ref v0), (1, .int v1), (2, .int v2), (3, .int v3)]) (S' := [.ref v0, .ref v0, .ref x6]) rfl ?_
        refine zco_gr fl_11_51 rfl (zdk (cc := cX11_chance) (q := (79, .getfield 51, 3)) tkX11_chance 42 rfl) (fun x7 => ?_)
        refine zco_Vi (rc := 0) (rs := 0) (mc := 0) (ms := 0) (As := []) (S := [.ref v0, .ref x6]) vmX1_people (mtX1_people l e (by omega) x7) q_1164 rfl rfl (Nat.le_of_ble_eq_true rfl) (zdk (cc := cX11_chance) (q := (82, .invokevirtual 287, 3)) tkX11_chance 43 rfl) (fun y8 => ?_)
        refine zco_Vi (rc := 0) (rs := 0) (mc := 0) (ms := 0) (As := [.int y8]) (S := [.ref x6]) vmX11_draw (mtX11_draw l e (by omega) v0 y8) q_1234 rfl rfl (Nat.le_of_ble_eq_true rfl) (zdk (cc := cX11_chance) (q := (85, .invokevirtual 311, 3)) tkX11_chance 44 rfl) (fun y9 => ?_)
        refine zco_Vi (rc := 0) (rs := 0) (mc := 0) (ms := 0) (As := [.int y9]) (S := []) vmX1_slot (mtX1_slot l e (by omega) x6 y9) q_932 rfl rfl (Nat.le_of_ble_eq_true rfl) (zdk (cc := cX11_chance) (q := (88, .invokevirtual 184, 3)) tkX11_chance 45 rfl) (fun y10 => ?_)
        refine zco_p tkX11_chance 46 2 (pc' := 96) (L' := [(2, .int (v2 + 1)), (4, .int y10), (0, .ref v0), (1, .int v1), (3, .int v3)]) (S' := []) rfl ?_
        exact zco_sub [2, 3, 0, 4, 1] rfl (coX11_chance_J96 l e he v0 v1 (v2 + 1) v3 y10 r39 hr39)
set_option maxHeartbeats 2000000 in
set_option maxRecDepth 20000 in
theorem coX11_chance (l : Launch) (e : Nat) (he : 6 ≤ e) (v0 : Nat) (v1 : Int32) : zCo l (e + 1) 0 0 iX11_chance 0 [(0, .ref v0), (1, .int v1)] [] (X11_chance v0 v1) := by
  unfold X11_chance
  refine zco_p tkX11_chance 0 1 (pc' := 1) (L' := [(0, .ref v0), (1, .int v1)]) (S' := [.ref v0]) rfl ?_
  refine zco_gr fl_11_79 rfl (zdk (cc := cX11_chance) (q := (1, .getfield 79, 3)) tkX11_chance 1 rfl) (fun x1 => ?_)
  refine zco_p tkX11_chance 2 1 (pc' := 5) (L' := [(0, .ref v0), (1, .int v1)]) (S' := [.ref v0, .ref x1]) rfl ?_
  refine zco_gr fl_11_61 rfl (zdk (cc := cX11_chance) (q := (5, .getfield 61, 3)) tkX11_chance 3 rfl) (fun x2 => ?_)
  refine zco_p tkX11_chance 4 3 (pc' := 12) (L' := [(0, .ref v0), (1, .int v1)]) (S' := [.int 100, .int 1, .int v1, .ref x2, .ref x1]) rfl ?_
  refine zco_Vi (rc := 0) (rs := 0) (mc := 0) (ms := 0) (As := [.ref x2, .int v1, .int 1, .int 100]) (S := []) vmX0_canCome (mtX0_canCome l e (by omega) x1 x2 v1 1 100) q_1030 rfl rfl (Nat.le_of_ble_eq_true rfl) (zdk (cc := cX11_chance) (q := (12, .invokevirtual 248, 3)) tkX11_chance 7 rfl) (fun y3 => ?_)
  refine zco_if_ne (tgt := 24) (zdk (cc := cX11_chance) (q := (15, .ifCond .ne 9, 3)) tkX11_chance 8 rfl) rfl ?_ ?_
  · refine zco_p tkX11_chance 13 1 (pc' := 25) (L' := [(0, .ref v0), (1, .int v1)]) (S' := [.ref v0]) rfl ?_
    refine zco_gr fl_11_93 rfl (zdk (cc := cX11_chance) (q := (25, .getfield 93, 3)) tkX11_chance 14 rfl) (fun x4 => ?_)
    refine zco_p tkX11_chance 15 1 (pc' := 29) (L' := [(0, .ref v0), (1, .int v1)]) (S' := [.ref v0, .ref x4]) rfl ?_
    refine zco_gr fl_11_61 rfl (zdk (cc := cX11_chance) (q := (29, .getfield 61, 3)) tkX11_chance 16 rfl) (fun x5 => ?_)
    refine zco_Vv (rc := 0) (rs := 0) (mc := 0) (ms := 0) (As := [.ref x5]) (S := []) vmX6_remember (mtX6_remember l e (by omega) x4 x5) q_1216 rfl rfl (Nat.le_of_ble_eq_true rfl) (zdk (cc := cX11_chance) (q := (32, .invokevirtual 305, 3)) tkX11_chance 17 rfl) ?_
    refine zco_p tkX11_chance 18 4 (pc' := 39) (L' := [(3, .int 0), (2, .int 0), (0, .ref v0), (1, .int v1)]) (S' := []) rfl ?_
    exact zco_sub [2, 3, 1, 0] rfl (zco_fix (Lf := fun x : Int32 × Int32 => [(0, .ref v0), (1, .int v1), (2, .int x.1), (3, .int x.2)]) (Sf := fun _ => []) (fun r hr x => coX11_chance_B39 l e he v0 v1 r hr x.1 x.2) zFU (0, 0))
  · refine zco_p tkX11_chance 9 2 (pc' := 20) (L' := [(0, .ref v0), (1, .int v1)]) (S' := [.int 3, .ref v0]) rfl ?_
    refine zco_Vi (rc := 0) (rs := 0) (mc := 0) (ms := 0) (As := [.int 3]) (S := []) vmX11_refuse (mtX11_refuse l e (by omega) v0 3) q_624 rfl rfl (Nat.le_of_ble_eq_true rfl) (zdk (cc := cX11_chance) (q := (20, .invokevirtual 128, 3)) tkX11_chance 11 rfl) (fun y6 => ?_)
    exact zco_iret rfl rfl rfl (zdk (cc := cX11_chance) (q := (23, .ireturn, 1)) tkX11_chance 12 rfl)
theorem mtX11_chance (l : Launch) (d : Nat) (hd : 7 ≤ d) (v0 : Nat) (v1 : Int32) : zMet l d 0 0 yX11_chance cX11_chance 5 (Option.some .int) [.ref v0, .int v1] (X11_chance v0 v1) := by
  obtain ⟨e, rfl⟩ : ∃ e, d = e + 1 := ⟨d - 1, by omega⟩
  exact zmet_of (own := RX11) (ini := false) (by decide +kernel) rfl (fun _ => by contradiction) (Nat.le_of_ble_eq_true rfl) (coX11_chance l e (by omega) v0 v1)
abbrev iX11_part : zI := (RX11, cX11_part, 4, (Option.some .boolean), false)
def tX11_part : List (Nat × Instr × Nat) := [(0, .aload_n 0, 1), (1, .getfield 51, 3), (4, .iload_n 1, 1), (5, .invokevirtual 184, 3), (8, .istore_n 2, 1), (9, .iload_n 2, 1), (10, .iconst (-1), 1), (11, .if_icmp .ne 7, 3), (14, .iconst (-1), 1), (15, .goto 12, 3), (18, .aload_n 0, 1), (19, .getfield 61, 3), (22, .getfield 199, 3), (25, .iload_n 2, 1), (26, .iaload, 1), (27, .istore_n 3, 1), (28, .iload_n 3, 1), (29, .iconst (-1), 1), (30, .if_icmp .ne 11, 3), (33, .aload_n 0, 1), (34, .iconst 2, 1), (35, .invokevirtual 128, 3), (38, .pop, 1), (39, .iconst 0, 1), (40, .ireturn, 1), (41, .aload_n 0, 1), (42, .getfield 93, 3), (45, .aload_n 0, 1), (46, .getfield 61, 3), (49, .invokevirtual 305, 3), (52, .aload_n 0, 1), (53, .getfield 61, 3), (56, .getfield 199, 3), (59, .iload_n 2, 1), (60, .iconst (-1), 1), (61, .iastore, 1), (62, .aload_n 0, 1), (63, .getfield 61, 3), (66, .getfield 199, 3), (69, .iload_n 3, 1), (70, .iconst (-1), 1), (71, .iastore, 1), (72, .aload_n 0, 1), (73, .getfield 61, 3), (76, .getfield 205, 3), (79, .iload_n 2, 1), (80, .iconst 0, 1), (81, .iastore, 1), (82, .aload_n 0, 1), (83, .getfield 61, 3), (86, .getfield 205, 3), (89, .iload_n 3, 1), (90, .iconst 0, 1), (91, .iastore, 1), (92, .iconst 1, 1), (93, .ireturn, 1)]
set_option maxRecDepth 100000 in
theorem tkX11_part : ∀ q ∈ tX11_part, decode cX11_part q.1 = .ok q.2 := by decide +kernel
theorem vmX11_part : zVM yX11_part cX11_part 4 (Option.some .boolean) 1 11 := ⟨kX11_part, q_1243, q_1244, q_149, ⟨_, rfl, rfl⟩, by decide +kernel, by decide⟩
set_option maxHeartbeats 2000000 in
set_option maxRecDepth 20000 in
theorem coX11_part_J27 (l : Launch) (e : Nat) (he : 3 ≤ e) (v0 : Nat) (v2 : Int32) (s0 : Int32) : zCo l (e + 1) 0 0 iX11_part 27 [(0, .ref v0), (2, .int v2)] [.int s0] (X11_part_J27 v0 v2 s0) := by
  unfold X11_part_J27
  refine zco_p tkX11_part 15 3 (pc' := 30) (L' := [(3, .int s0), (0, .ref v0), (2, .int v2)]) (S' := [.int ((-1)), .int s0]) rfl ?_
  refine zco_icmp_ne (tgt := 41) (zdk (cc := cX11_part) (q := (30, .if_icmp .ne 11, 3)) tkX11_part 18 rfl) rfl ?_ ?_
  · refine zco_p tkX11_part 25 1 (pc' := 42) (L' := [(3, .int s0), (0, .ref v0), (2, .int v2)]) (S' := [.ref v0]) rfl ?_
    refine zco_gr fl_11_93 rfl (zdk (cc := cX11_part) (q := (42, .getfield 93, 3)) tkX11_part 26 rfl) (fun x1 => ?_)
    refine zco_p tkX11_part 27 1 (pc' := 46) (L' := [(3, .int s0), (0, .ref v0), (2, .int v2)]) (S' := [.ref v0, .ref x1]) rfl ?_
    refine zco_gr fl_11_61 rfl (zdk (cc := cX11_part) (q := (46, .getfield 61, 3)) tkX11_part 28 rfl) (fun x2 => ?_)
    refine zco_Vv (rc := 0) (rs := 0) (mc := 0) (ms := 0) (As := [.ref x2]) (S := []) vmX6_remember (mtX6_remember l e (by omega) x1 x2) q_1216 rfl rfl (Nat.le_of_ble_eq_true rfl) (zdk (cc := cX11_part) (q := (49, .invokevirtual 305, 3)) tkX11_part 29 rfl) ?_
    refine zco_p tkX11_part 30 1 (pc' := 53) (L' := [(3, .int s0), (0, .ref v0), (2, .int v2)]) (S' := [.ref v0]) rfl ?_
    refine zco_gr fl_11_61 rfl (zdk (cc := cX11_part) (q := (53, .getfield 61, 3)) tkX11_part 31 rfl) (fun x3 => ?_)
    refine zco_gr fl_11_199 rfl (zdk (cc := cX11_part) (q := (56, .getfield 199, 3)) tkX11_part 32 rfl) (fun x4 => ?_)
    refine zco_p tkX11_part 33 2 (pc' := 61) (L' := [(3, .int s0), (0, .ref v0), (2, .int v2)]) (S' := [.int ((-1)), .int v2, .ref x4]) rfl ?_
    refine zco_iastore (zdk (cc := cX11_part) (q := (61, .iastore, 1)) tkX11_part 35 rfl) ?_
    refine zco_p tkX11_part 36 1 (pc' := 63) (L' := [(3, .int s0), (0, .ref v0), (2, .int v2)]) (S' := [.ref v0]) rfl ?_
    refine zco_gr fl_11_61 rfl (zdk (cc := cX11_part) (q := (63, .getfield 61, 3)) tkX11_part 37 rfl) (fun x5 => ?_)
    refine zco_gr fl_11_199 rfl (zdk (cc := cX11_part) (q := (66, .getfield 199, 3)) tkX11_part 38 rfl) (fun x6 => ?_)
    refine zco_p tkX11_part 39 2 (pc' := 71) (L' := [(3, .int s0), (0, .ref v0), (2, .int v2)]) (S' := [.int ((-1)), .int s0, .ref x6]) rfl ?_
    refine zco_iastore (zdk (cc := cX11_part) (q := (71, .iastore, 1)) tkX11_part 41 rfl) ?_
    refine zco_p tkX11_part 42 1 (pc' := 73) (L' := [(3, .int s0), (0, .ref v0), (2, .int v2)]) (S' := [.ref v0]) rfl ?_
    refine zco_gr fl_11_61 rfl (zdk (cc := cX11_part) (q := (73, .getfield 61, 3)) tkX11_part 43 rfl) (fun x7 => ?_)
    refine zco_gr fl_11_205 rfl (zdk (cc := cX11_part) (q := (76, .getfield 205, 3)) tkX11_part 44 rfl) (fun x8 => ?_)
    refine zco_p tkX11_part 45 2 (pc' := 81) (L' := [(3, .int s0), (0, .ref v0), (2, .int v2)]) (S' := [.int 0, .int v2, .ref x8]) rfl ?_
    refine zco_iastore (zdk (cc := cX11_part) (q := (81, .iastore, 1)) tkX11_part 47 rfl) ?_
    refine zco_p tkX11_part 48 1 (pc' := 83) (L' := [(3, .int s0), (0, .ref v0), (2, .int v2)]) (S' := [.ref v0]) rfl ?_
    refine zco_gr fl_11_61 rfl (zdk (cc := cX11_part) (q := (83, .getfield 61, 3)) tkX11_part 49 rfl) (fun x9 => ?_)
    refine zco_gr fl_11_205 rfl (zdk (cc := cX11_part) (q := (86, .getfield 205, 3)) tkX11_part 50 rfl) (fun x10 => ?_)
    refine zco_p tkX11_part 51 2 (pc' := 91) (L' := [(3, .int s0), (0, .ref v0), (2, .int v2)]) (S' := [.int 0, .int s0, .ref x10]) rfl ?_
    refine zco_iastore (zdk (cc := cX11_part) (q := (91, .iastore, 1)) tkX11_part 53 rfl) ?_
    refine zco_p tkX11_part 54 1 (pc' := 93) (L' := [(3, .int s0), (0, .ref v0), (2, .int v2)]) (S' := [.int 1]) rfl ?_
    exact zco_zret rfl rfl rfl (zdk (cc := cX11_part) (q := (93, .ireturn, 1)) tkX11_part 55 rfl)
  · refine zco_p tkX11_part 19 2 (pc' := 35) (L' := [(3, .int s0), (0, .ref v0), (2, .int v2)]) (S' := [.int 2, .ref v0]) rfl ?_
    refine zco_Vi (rc := 0) (rs := 0) (mc := 0) (ms := 0) (As := [.int 2]) (S := []) vmX11_refuse (mtX11_refuse l e (by omega) v0 2) q_624 rfl rfl (Nat.le_of_ble_eq_true rfl) (zdk (cc := cX11_part) (q := (35, .invokevirtual 128, 3)) tkX11_part 21 rfl) (fun y11 => ?_)
    refine zco_p tkX11_part 22 2 (pc' := 40) (L' := [(3, .int s0), (0, .ref v0), (2, .int v2)]) (S' := [.int 0]) rfl ?_
    exact zco_zret rfl rfl rfl (zdk (cc := cX11_part) (q := (40, .ireturn, 1)) tkX11_part 24 rfl)
set_option maxHeartbeats 2000000 in
set_option maxRecDepth 20000 in
theorem coX11_part (l : Launch) (e : Nat) (he : 3 ≤ e) (v0 : Nat) (v1 : Int32) : zCo l (e + 1) 0 0 iX11_part 0 [(0, .ref v0), (1, .int v1)] [] (X11_part v0 v1) := by
  unfold X11_part
  refine zco_p tkX11_part 0 1 (pc' := 1) (L' := [(0, .ref v0), (1, .int v1)]) (S' := [.ref v0]) rfl ?_
  refine zco_gr fl_11_51 rfl (zdk (cc := cX11_part) (q := (1, .getfield 51, 3)) tkX11_part 1 rfl) (fun x1 => ?_)
  refine zco_p tkX11_part 2 1 (pc' := 5) (L' := [(0, .ref v0), (1, .int v1)]) (S' := [.int v1, .ref x1]) rfl ?_
  refine zco_Vi (rc := 0) (rs := 0) (mc := 0) (ms := 0) (As := [.int v1]) (S := []) vmX1_slot (mtX1_slot l e (by omega) x1 v1) q_932 rfl rfl (Nat.le_of_ble_eq_true rfl) (zdk (cc := cX11_part) (q := (5, .invokevirtual 184, 3)) tkX11_part 3 rfl) (fun y2 => ?_)
  refine zco_p tkX11_part 4 3 (pc' := 11) (L' := [(2, .int y2), (0, .ref v0), (1, .int v1)]) (S' := [.int ((-1)), .int y2]) rfl ?_
  refine zco_icmp_ne (tgt := 18) (zdk (cc := cX11_part) (q := (11, .if_icmp .ne 7, 3)) tkX11_part 7 rfl) rfl ?_ ?_
  · refine zco_p tkX11_part 10 1 (pc' := 19) (L' := [(2, .int y2), (0, .ref v0), (1, .int v1)]) (S' := [.ref v0]) rfl ?_
    refine zco_gr fl_11_61 rfl (zdk (cc := cX11_part) (q := (19, .getfield 61, 3)) tkX11_part 11 rfl) (fun x3 => ?_)
    refine zco_gr fl_11_199 rfl (zdk (cc := cX11_part) (q := (22, .getfield 199, 3)) tkX11_part 12 rfl) (fun x4 => ?_)
    refine zco_p tkX11_part 13 1 (pc' := 26) (L' := [(2, .int y2), (0, .ref v0), (1, .int v1)]) (S' := [.int y2, .ref x4]) rfl ?_
    refine zco_iaload (zdk (cc := cX11_part) (q := (26, .iaload, 1)) tkX11_part 14 rfl) (fun x5 => ?_)
    exact zco_sub [1, 0] rfl (coX11_part_J27 l e he v0 y2 x5)
  · refine zco_p tkX11_part 8 2 (pc' := 27) (L' := [(2, .int y2), (0, .ref v0), (1, .int v1)]) (S' := [.int ((-1))]) rfl ?_
    exact zco_sub [1, 0] rfl (coX11_part_J27 l e he v0 y2 ((-1)))
theorem mtX11_part (l : Launch) (d : Nat) (hd : 4 ≤ d) (v0 : Nat) (v1 : Int32) : zMet l d 0 0 yX11_part cX11_part 4 (Option.some .boolean) [.ref v0, .int v1] (X11_part v0 v1) := by
  obtain ⟨e, rfl⟩ : ∃ e, d = e + 1 := ⟨d - 1, by omega⟩
  exact zmet_of (own := RX11) (ini := false) (by decide +kernel) rfl (fun _ => by contradiction) (Nat.le_of_ble_eq_true rfl) (coX11_part l e (by omega) v0 v1)
abbrev iX11_setBearing : zI := (RX11, cX11_setBearing, 7, (Option.some .boolean), false)
def tX11_setBearing : List (Nat × Instr × Nat) := [(0, .aload_n 0, 1), (1, .getfield 51, 3), (4, .iload_n 2, 1), (5, .invokevirtual 184, 3), (8, .istore 5, 2), (10, .aload_n 0, 1), (11, .getfield 51, 3), (14, .iload 5, 2), (16, .iload_n 3, 1), (17, .invokevirtual 221, 3), (20, .istore 6, 2), (22, .iload 6, 2), (24, .iconst (-1), 1), (25, .if_icmp .eq 29, 3), (28, .iload 4, 2), (30, .ifCond .lt 24, 3), (33, .iload 4, 2), (35, .bipush 9, 2), (37, .if_icmp .gt 17, 3), (40, .aload_n 1, 1), (41, .iload 5, 2), (43, .iload 6, 2), (45, .invokestatic 227, 3), (48, .iaload, 1), (49, .iload 4, 2), (51, .if_icmp .ne 11, 3), (54, .aload_n 0, 1), (55, .iconst 2, 1), (56, .invokevirtual 128, 3), (59, .pop, 1), (60, .iconst 0, 1), (61, .ireturn, 1), (62, .aload_n 0, 1), (63, .getfield 93, 3), (66, .aload_n 0, 1), (67, .getfield 61, 3), (70, .invokevirtual 305, 3), (73, .aload_n 1, 1), (74, .iload 5, 2), (76, .iload 6, 2), (78, .invokestatic 227, 3), (81, .iload 4, 2), (83, .iastore, 1), (84, .iconst 1, 1), (85, .ireturn, 1)]
set_option maxRecDepth 100000 in
theorem tkX11_setBearing : ∀ q ∈ tX11_setBearing, decode cX11_setBearing q.1 = .ok q.2 := by decide +kernel
theorem vmX11_setBearing : zVM yX11_setBearing cX11_setBearing 7 (Option.some .boolean) 4 11 := ⟨kX11_setBearing, q_1252, q_39, q_149, ⟨_, rfl, rfl⟩, by decide +kernel, by decide⟩
set_option maxHeartbeats 2000000 in
set_option maxRecDepth 20000 in
theorem coX11_setBearing_J54 (l : Launch) (e : Nat) (he : 3 ≤ e) (v0 : Nat) : zCo l (e + 1) 0 0 iX11_setBearing 54 [(0, .ref v0)] [] (X11_setBearing_J54 v0) := by
  unfold X11_setBearing_J54
  refine zco_p tkX11_setBearing 26 2 (pc' := 56) (L' := [(0, .ref v0)]) (S' := [.int 2, .ref v0]) rfl ?_
  refine zco_Vi (rc := 0) (rs := 0) (mc := 0) (ms := 0) (As := [.int 2]) (S := []) vmX11_refuse (mtX11_refuse l e (by omega) v0 2) q_624 rfl rfl (Nat.le_of_ble_eq_true rfl) (zdk (cc := cX11_setBearing) (q := (56, .invokevirtual 128, 3)) tkX11_setBearing 28 rfl) (fun y1 => ?_)
  refine zco_p tkX11_setBearing 29 2 (pc' := 61) (L' := [(0, .ref v0)]) (S' := [.int 0]) rfl ?_
  exact zco_zret rfl rfl rfl (zdk (cc := cX11_setBearing) (q := (61, .ireturn, 1)) tkX11_setBearing 31 rfl)
set_option maxHeartbeats 2000000 in
set_option maxRecDepth 20000 in
theorem coX11_setBearing (l : Launch) (e : Nat) (he : 3 ≤ e) (v0 : Nat) (v1 : Nat) (v2 : Int32) (v3 : Int32) (v4 : Int32) : zCo l (e + 1) 0 0 iX11_setBearing 0 [(0, .ref v0), (1, .ref v1), (2, .int v2), (3, .int v3), (4, .int v4)] [] (X11_setBearing v0 v1 v2 v3 v4) := by
  unfold X11_setBearing
  refine zco_p tkX11_setBearing 0 1 (pc' := 1) (L' := [(0, .ref v0), (1, .ref v1), (2, .int v2), (3, .int v3), (4, .int v4)]) (S' := [.ref v0]) rfl ?_
  refine zco_gr fl_11_51 rfl (zdk (cc := cX11_setBearing) (q := (1, .getfield 51, 3)) tkX11_setBearing 1 rfl) (fun x1 => ?_)
  refine zco_p tkX11_setBearing 2 1 (pc' := 5) (L' := [(0, .ref v0), (1, .ref v1), (2, .int v2), (3, .int v3), (4, .int v4)]) (S' := [.int v2, .ref x1]) rfl ?_
  refine zco_Vi (rc := 0) (rs := 0) (mc := 0) (ms := 0) (As := [.int v2]) (S := []) vmX1_slot (mtX1_slot l e (by omega) x1 v2) q_932 rfl rfl (Nat.le_of_ble_eq_true rfl) (zdk (cc := cX11_setBearing) (q := (5, .invokevirtual 184, 3)) tkX11_setBearing 3 rfl) (fun y2 => ?_)
  refine zco_p tkX11_setBearing 4 2 (pc' := 11) (L' := [(5, .int y2), (0, .ref v0), (1, .ref v1), (2, .int v2), (3, .int v3), (4, .int v4)]) (S' := [.ref v0]) rfl ?_
  refine zco_gr fl_11_51 rfl (zdk (cc := cX11_setBearing) (q := (11, .getfield 51, 3)) tkX11_setBearing 6 rfl) (fun x3 => ?_)
  refine zco_p tkX11_setBearing 7 2 (pc' := 17) (L' := [(5, .int y2), (0, .ref v0), (1, .ref v1), (2, .int v2), (3, .int v3), (4, .int v4)]) (S' := [.int v3, .int y2, .ref x3]) rfl ?_
  refine zco_Vi (rc := 0) (rs := 0) (mc := 0) (ms := 0) (As := [.int y2, .int v3]) (S := []) vmX1_across (mtX1_across l e (by omega) x3 y2 v3) q_970 rfl rfl (Nat.le_of_ble_eq_true rfl) (zdk (cc := cX11_setBearing) (q := (17, .invokevirtual 221, 3)) tkX11_setBearing 9 rfl) (fun y4 => ?_)
  refine zco_p tkX11_setBearing 10 3 (pc' := 25) (L' := [(6, .int y4), (5, .int y2), (0, .ref v0), (1, .ref v1), (2, .int v2), (3, .int v3), (4, .int v4)]) (S' := [.int ((-1)), .int y4]) rfl ?_
  refine zco_icmp_eq (tgt := 54) (zdk (cc := cX11_setBearing) (q := (25, .if_icmp .eq 29, 3)) tkX11_setBearing 13 rfl) rfl ?_ ?_
  · exact zco_sub [2] rfl (coX11_setBearing_J54 l e he v0)
  · refine zco_p tkX11_setBearing 14 1 (pc' := 30) (L' := [(6, .int y4), (5, .int y2), (0, .ref v0), (1, .ref v1), (2, .int v2), (3, .int v3), (4, .int v4)]) (S' := [.int v4]) rfl ?_
    refine zco_if_lt (tgt := 54) (zdk (cc := cX11_setBearing) (q := (30, .ifCond .lt 24, 3)) tkX11_setBearing 15 rfl) rfl ?_ ?_
    · exact zco_sub [2] rfl (coX11_setBearing_J54 l e he v0)
    · refine zco_p tkX11_setBearing 16 2 (pc' := 37) (L' := [(6, .int y4), (5, .int y2), (0, .ref v0), (1, .ref v1), (2, .int v2), (3, .int v3), (4, .int v4)]) (S' := [.int 9, .int v4]) rfl ?_
      refine zco_icmp_gt (tgt := 54) (zdk (cc := cX11_setBearing) (q := (37, .if_icmp .gt 17, 3)) tkX11_setBearing 18 rfl) rfl ?_ ?_
      · exact zco_sub [2] rfl (coX11_setBearing_J54 l e he v0)
      · refine zco_p tkX11_setBearing 19 3 (pc' := 45) (L' := [(6, .int y4), (5, .int y2), (0, .ref v0), (1, .ref v1), (2, .int v2), (3, .int v3), (4, .int v4)]) (S' := [.int y4, .int y2, .ref v1]) rfl ?_
        refine zco_Si (rc := 0) (rs := 0) (mc := 0) (ms := 0) (As := [.int y2, .int y4]) (S := [.ref v1]) vmX11_cell (mtX11_cell l e (by omega) y2 y4) q_976 rfl rfl (Nat.le_of_ble_eq_true rfl) (zdk (cc := cX11_setBearing) (q := (45, .invokestatic 227, 3)) tkX11_setBearing 22 rfl) (fun y5 => ?_)
        refine zco_iaload (zdk (cc := cX11_setBearing) (q := (48, .iaload, 1)) tkX11_setBearing 23 rfl) (fun x6 => ?_)
        refine zco_p tkX11_setBearing 24 1 (pc' := 51) (L' := [(6, .int y4), (5, .int y2), (0, .ref v0), (1, .ref v1), (2, .int v2), (3, .int v3), (4, .int v4)]) (S' := [.int v4, .int x6]) rfl ?_
        refine zco_icmp_ne (tgt := 62) (zdk (cc := cX11_setBearing) (q := (51, .if_icmp .ne 11, 3)) tkX11_setBearing 25 rfl) rfl ?_ ?_
        · refine zco_p tkX11_setBearing 32 1 (pc' := 63) (L' := [(6, .int y4), (5, .int y2), (0, .ref v0), (1, .ref v1), (2, .int v2), (3, .int v3), (4, .int v4)]) (S' := [.ref v0]) rfl ?_
          refine zco_gr fl_11_93 rfl (zdk (cc := cX11_setBearing) (q := (63, .getfield 93, 3)) tkX11_setBearing 33 rfl) (fun x7 => ?_)
          refine zco_p tkX11_setBearing 34 1 (pc' := 67) (L' := [(6, .int y4), (5, .int y2), (0, .ref v0), (1, .ref v1), (2, .int v2), (3, .int v3), (4, .int v4)]) (S' := [.ref v0, .ref x7]) rfl ?_
          refine zco_gr fl_11_61 rfl (zdk (cc := cX11_setBearing) (q := (67, .getfield 61, 3)) tkX11_setBearing 35 rfl) (fun x8 => ?_)
          refine zco_Vv (rc := 0) (rs := 0) (mc := 0) (ms := 0) (As := [.ref x8]) (S := []) vmX6_remember (mtX6_remember l e (by omega) x7 x8) q_1216 rfl rfl (Nat.le_of_ble_eq_true rfl) (zdk (cc := cX11_setBearing) (q := (70, .invokevirtual 305, 3)) tkX11_setBearing 36 rfl) ?_
          refine zco_p tkX11_setBearing 37 3 (pc' := 78) (L' := [(6, .int y4), (5, .int y2), (0, .ref v0), (1, .ref v1), (2, .int v2), (3, .int v3), (4, .int v4)]) (S' := [.int y4, .int y2, .ref v1]) rfl ?_
          refine zco_Si (rc := 0) (rs := 0) (mc := 0) (ms := 0) (As := [.int y2, .int y4]) (S := [.ref v1]) vmX11_cell (mtX11_cell l e (by omega) y2 y4) q_976 rfl rfl (Nat.le_of_ble_eq_true rfl) (zdk (cc := cX11_setBearing) (q := (78, .invokestatic 227, 3)) tkX11_setBearing 40 rfl) (fun y9 => ?_)
          refine zco_p tkX11_setBearing 41 1 (pc' := 83) (L' := [(6, .int y4), (5, .int y2), (0, .ref v0), (1, .ref v1), (2, .int v2), (3, .int v3), (4, .int v4)]) (S' := [.int v4, .int y9, .ref v1]) rfl ?_
          refine zco_iastore (zdk (cc := cX11_setBearing) (q := (83, .iastore, 1)) tkX11_setBearing 42 rfl) ?_
          refine zco_p tkX11_setBearing 43 1 (pc' := 85) (L' := [(6, .int y4), (5, .int y2), (0, .ref v0), (1, .ref v1), (2, .int v2), (3, .int v3), (4, .int v4)]) (S' := [.int 1]) rfl ?_
          exact zco_zret rfl rfl rfl (zdk (cc := cX11_setBearing) (q := (85, .ireturn, 1)) tkX11_setBearing 44 rfl)
        · exact zco_sub [2] rfl (coX11_setBearing_J54 l e he v0)
theorem mtX11_setBearing (l : Launch) (d : Nat) (hd : 4 ≤ d) (v0 : Nat) (v1 : Nat) (v2 : Int32) (v3 : Int32) (v4 : Int32) : zMet l d 0 0 yX11_setBearing cX11_setBearing 7 (Option.some .boolean) [.ref v0, .ref v1, .int v2, .int v3, .int v4] (X11_setBearing v0 v1 v2 v3 v4) := by
  obtain ⟨e, rfl⟩ : ∃ e, d = e + 1 := ⟨d - 1, by omega⟩
  exact zmet_of (own := RX11) (ini := false) (by decide +kernel) rfl (fun _ => by contradiction) (Nat.le_of_ble_eq_true rfl) (coX11_setBearing l e (by omega) v0 v1 v2 v3 v4)
abbrev iX11_learn : zI := (RX11, cX11_learn, 4, (Option.some .boolean), false)
def tX11_learn : List (Nat × Instr × Nat) := [(0, .aload_n 0, 1), (1, .aload_n 0, 1), (2, .getfield 61, 3), (5, .getfield 230, 3), (8, .iload_n 1, 1), (9, .iload_n 2, 1), (10, .iload_n 3, 1), (11, .invokevirtual 335, 3), (14, .ireturn, 1)]
set_option maxRecDepth 100000 in
theorem tkX11_learn : ∀ q ∈ tX11_learn, decode cX11_learn q.1 = .ok q.2 := by decide +kernel
theorem vmX11_learn : zVM yX11_learn cX11_learn 4 (Option.some .boolean) 3 11 := ⟨kX11_learn, q_1247, q_1248, q_149, ⟨_, rfl, rfl⟩, by decide +kernel, by decide⟩
set_option maxHeartbeats 2000000 in
set_option maxRecDepth 20000 in
theorem coX11_learn (l : Launch) (e : Nat) (he : 4 ≤ e) (v0 : Nat) (v1 : Int32) (v2 : Int32) (v3 : Int32) : zCo l (e + 1) 0 0 iX11_learn 0 [(0, .ref v0), (1, .int v1), (2, .int v2), (3, .int v3)] [] (X11_learn v0 v1 v2 v3) := by
  unfold X11_learn
  refine zco_p tkX11_learn 0 2 (pc' := 2) (L' := [(0, .ref v0), (1, .int v1), (2, .int v2), (3, .int v3)]) (S' := [.ref v0, .ref v0]) rfl ?_
  refine zco_gr fl_11_61 rfl (zdk (cc := cX11_learn) (q := (2, .getfield 61, 3)) tkX11_learn 2 rfl) (fun x1 => ?_)
  refine zco_gr fl_11_230 rfl (zdk (cc := cX11_learn) (q := (5, .getfield 230, 3)) tkX11_learn 3 rfl) (fun x2 => ?_)
  refine zco_p tkX11_learn 4 3 (pc' := 11) (L' := [(0, .ref v0), (1, .int v1), (2, .int v2), (3, .int v3)]) (S' := [.int v3, .int v2, .int v1, .ref x2, .ref v0]) rfl ?_
  refine zco_Vi (rc := 0) (rs := 0) (mc := 0) (ms := 0) (As := [.ref x2, .int v1, .int v2, .int v3]) (S := []) vmX11_setBearing (mtX11_setBearing l e (by omega) v0 x2 v1 v2 v3) q_1250 rfl rfl (Nat.le_of_ble_eq_true rfl) (zdk (cc := cX11_learn) (q := (11, .invokevirtual 335, 3)) tkX11_learn 7 rfl) (fun y3 => ?_)
  exact zco_zret rfl rfl rfl (zdk (cc := cX11_learn) (q := (14, .ireturn, 1)) tkX11_learn 8 rfl)
theorem mtX11_learn (l : Launch) (d : Nat) (hd : 5 ≤ d) (v0 : Nat) (v1 : Int32) (v2 : Int32) (v3 : Int32) : zMet l d 0 0 yX11_learn cX11_learn 4 (Option.some .boolean) [.ref v0, .int v1, .int v2, .int v3] (X11_learn v0 v1 v2 v3) := by
  obtain ⟨e, rfl⟩ : ∃ e, d = e + 1 := ⟨d - 1, by omega⟩
  exact zmet_of (own := RX11) (ini := false) (by decide +kernel) rfl (fun _ => by contradiction) (Nat.le_of_ble_eq_true rfl) (coX11_learn l e (by omega) v0 v1 v2 v3)
abbrev iX11_like : zI := (RX11, cX11_like, 4, (Option.some .boolean), false)
def tX11_like : List (Nat × Instr × Nat) := [(0, .aload_n 0, 1), (1, .aload_n 0, 1), (2, .getfield 61, 3), (5, .getfield 224, 3), (8, .iload_n 1, 1), (9, .iload_n 2, 1), (10, .iload_n 3, 1), (11, .invokevirtual 335, 3), (14, .ireturn, 1)]
set_option maxRecDepth 100000 in
theorem tkX11_like : ∀ q ∈ tX11_like, decode cX11_like q.1 = .ok q.2 := by decide +kernel
theorem vmX11_like : zVM yX11_like cX11_like 4 (Option.some .boolean) 3 11 := ⟨kX11_like, q_1255, q_1256, q_149, ⟨_, rfl, rfl⟩, by decide +kernel, by decide⟩
set_option maxHeartbeats 2000000 in
set_option maxRecDepth 20000 in
theorem coX11_like (l : Launch) (e : Nat) (he : 4 ≤ e) (v0 : Nat) (v1 : Int32) (v2 : Int32) (v3 : Int32) : zCo l (e + 1) 0 0 iX11_like 0 [(0, .ref v0), (1, .int v1), (2, .int v2), (3, .int v3)] [] (X11_like v0 v1 v2 v3) := by
  unfold X11_like
  refine zco_p tkX11_like 0 2 (pc' := 2) (L' := [(0, .ref v0), (1, .int v1), (2, .int v2), (3, .int v3)]) (S' := [.ref v0, .ref v0]) rfl ?_
  refine zco_gr fl_11_61 rfl (zdk (cc := cX11_like) (q := (2, .getfield 61, 3)) tkX11_like 2 rfl) (fun x1 => ?_)
  refine zco_gr fl_11_224 rfl (zdk (cc := cX11_like) (q := (5, .getfield 224, 3)) tkX11_like 3 rfl) (fun x2 => ?_)
  refine zco_p tkX11_like 4 3 (pc' := 11) (L' := [(0, .ref v0), (1, .int v1), (2, .int v2), (3, .int v3)]) (S' := [.int v3, .int v2, .int v1, .ref x2, .ref v0]) rfl ?_
  refine zco_Vi (rc := 0) (rs := 0) (mc := 0) (ms := 0) (As := [.ref x2, .int v1, .int v2, .int v3]) (S := []) vmX11_setBearing (mtX11_setBearing l e (by omega) v0 x2 v1 v2 v3) q_1250 rfl rfl (Nat.le_of_ble_eq_true rfl) (zdk (cc := cX11_like) (q := (11, .invokevirtual 335, 3)) tkX11_like 7 rfl) (fun y3 => ?_)
  exact zco_zret rfl rfl rfl (zdk (cc := cX11_like) (q := (14, .ireturn, 1)) tkX11_like 8 rfl)
theorem mtX11_like (l : Launch) (d : Nat) (hd : 5 ≤ d) (v0 : Nat) (v1 : Int32) (v2 : Int32) (v3 : Int32) : zMet l d 0 0 yX11_like cX11_like 4 (Option.some .boolean) [.ref v0, .int v1, .int v2, .int v3] (X11_like v0 v1 v2 v3) := by
  obtain ⟨e, rfl⟩ : ∃ e, d = e + 1 := ⟨d - 1, by omega⟩
  exact zmet_of (own := RX11) (ini := false) (by decide +kernel) rfl (fun _ => by contradiction) (Nat.le_of_ble_eq_true rfl) (coX11_like l e (by omega) v0 v1 v2 v3)
abbrev iX11_isPlace : zI := (RX11, cX11_isPlace, 3, (Option.some .boolean), false)
def tX11_isPlace : List (Nat × Instr × Nat) := [(0, .iload_n 2, 1), (1, .ifCond .lt 20, 3), (4, .iload_n 2, 1), (5, .aload_n 0, 1), (6, .getfield 51, 3), (9, .getfield 160, 3), (12, .iload_n 1, 1), (13, .iaload, 1), (14, .if_icmp .ge 7, 3), (17, .iconst 1, 1), (18, .goto 4, 3), (21, .iconst 0, 1), (22, .ireturn, 1)]
set_option maxRecDepth 100000 in
theorem tkX11_isPlace : ∀ q ∈ tX11_isPlace, decode cX11_isPlace q.1 = .ok q.2 := by decide +kernel
theorem vmX11_isPlace : zVM yX11_isPlace cX11_isPlace 3 (Option.some .boolean) 2 11 := ⟨kX11_isPlace, q_1264, q_40, q_149, ⟨_, rfl, rfl⟩, by decide +kernel, by decide⟩
set_option maxHeartbeats 2000000 in
set_option maxRecDepth 20000 in
theorem coX11_isPlace (l : Launch) (e : Nat) (he : 0 ≤ e) (v0 : Nat) (v1 : Int32) (v2 : Int32) : zCo l (e + 1) 0 0 iX11_isPlace 0 [(0, .ref v0), (1, .int v1), (2, .int v2)] [] (X11_isPlace v0 v1 v2) := by
  unfold X11_isPlace
  refine zco_p tkX11_isPlace 0 1 (pc' := 1) (L' := [(0, .ref v0), (1, .int v1), (2, .int v2)]) (S' := [.int v2]) rfl ?_
  refine zco_if_lt (tgt := 21) (zdk (cc := cX11_isPlace) (q := (1, .ifCond .lt 20, 3)) tkX11_isPlace 1 rfl) rfl ?_ ?_
  · refine zco_p tkX11_isPlace 11 1 (pc' := 22) (L' := [(0, .ref v0), (1, .int v1), (2, .int v2)]) (S' := [.int 0]) rfl ?_
    exact zco_zret rfl rfl rfl (zdk (cc := cX11_isPlace) (q := (22, .ireturn, 1)) tkX11_isPlace 12 rfl)
  · refine zco_p tkX11_isPlace 2 2 (pc' := 6) (L' := [(0, .ref v0), (1, .int v1), (2, .int v2)]) (S' := [.ref v0, .int v2]) rfl ?_
    refine zco_gr fl_11_51 rfl (zdk (cc := cX11_isPlace) (q := (6, .getfield 51, 3)) tkX11_isPlace 4 rfl) (fun x1 => ?_)
    refine zco_gr fl_11_160 rfl (zdk (cc := cX11_isPlace) (q := (9, .getfield 160, 3)) tkX11_isPlace 5 rfl) (fun x2 => ?_)
    refine zco_p tkX11_isPlace 6 1 (pc' := 13) (L' := [(0, .ref v0), (1, .int v1), (2, .int v2)]) (S' := [.int v1, .ref x2, .int v2]) rfl ?_
    refine zco_iaload (zdk (cc := cX11_isPlace) (q := (13, .iaload, 1)) tkX11_isPlace 7 rfl) (fun x3 => ?_)
    refine zco_icmp_ge (tgt := 21) (zdk (cc := cX11_isPlace) (q := (14, .if_icmp .ge 7, 3)) tkX11_isPlace 8 rfl) rfl ?_ ?_
    · refine zco_p tkX11_isPlace 11 1 (pc' := 22) (L' := [(0, .ref v0), (1, .int v1), (2, .int v2)]) (S' := [.int 0]) rfl ?_
      exact zco_zret rfl rfl rfl (zdk (cc := cX11_isPlace) (q := (22, .ireturn, 1)) tkX11_isPlace 12 rfl)
    · refine zco_p tkX11_isPlace 9 2 (pc' := 22) (L' := [(0, .ref v0), (1, .int v1), (2, .int v2)]) (S' := [.int 1]) rfl ?_
      exact zco_zret rfl rfl rfl (zdk (cc := cX11_isPlace) (q := (22, .ireturn, 1)) tkX11_isPlace 12 rfl)
theorem mtX11_isPlace (l : Launch) (d : Nat) (hd : 1 ≤ d) (v0 : Nat) (v1 : Int32) (v2 : Int32) : zMet l d 0 0 yX11_isPlace cX11_isPlace 3 (Option.some .boolean) [.ref v0, .int v1, .int v2] (X11_isPlace v0 v1 v2) := by
  obtain ⟨e, rfl⟩ : ∃ e, d = e + 1 := ⟨d - 1, by omega⟩
  exact zmet_of (own := RX11) (ini := false) (by decide +kernel) rfl (fun _ => by contradiction) (Nat.le_of_ble_eq_true rfl) (coX11_isPlace l e (by omega) v0 v1 v2)
abbrev iX11_swap : zI := (RX11, cX11_swap, 4, (Option.some .boolean), false)
def tX11_swap : List (Nat × Instr × Nat) := [(0, .iload_n 1, 1), (1, .ifCond .lt 31, 3), (4, .iload_n 1, 1), (5, .iconst 1, 1), (6, .if_icmp .gt 26, 3), (9, .iload_n 2, 1), (10, .iload_n 3, 1), (11, .if_icmp .eq 21, 3), (14, .aload_n 0, 1), (15, .iload_n 1, 1), (16, .iload_n 2, 1), (17, .invokevirtual 339, 3), (20, .ifCond .eq 12, 3), (23, .aload_n 0, 1), (24, .iload_n 1, 1), (25, .iload_n 3, 1), (26, .invokevirtual 339, 3), (29, .ifCond .ne 11, 3), (32, .aload_n 0, 1), (33, .iconst 2, 1), (34, .invokevirtual 128, 3), (37, .pop, 1), (38, .iconst 0, 1), (39, .ireturn, 1), (40, .aload_n 0, 1), (41, .getfield 93, 3), (44, .aload_n 0, 1), (45, .getfield 61, 3), (48, .invokevirtual 305, 3), (51, .aload_n 0, 1), (52, .getfield 61, 3), (55, .iload_n 1, 1), (56, .iload_n 2, 1), (57, .iload_n 3, 1), (58, .invokevirtual 342, 3), (61, .iconst 1, 1), (62, .ireturn, 1)]
set_option maxRecDepth 100000 in
theorem tkX11_swap : ∀ q ∈ tX11_swap, decode cX11_swap q.1 = .ok q.2 := by decide +kernel
theorem vmX11_swap : zVM yX11_swap cX11_swap 4 (Option.some .boolean) 3 11 := ⟨kX11_swap, q_1259, q_1260, q_149, ⟨_, rfl, rfl⟩, by decide +kernel, by decide⟩
set_option maxHeartbeats 2000000 in
set_option maxRecDepth 20000 in
theorem coX11_swap_J32 (l : Launch) (e : Nat) (he : 3 ≤ e) (v0 : Nat) : zCo l (e + 1) 0 0 iX11_swap 32 [(0, .ref v0)] [] (X11_swap_J32 v0) := by
  unfold X11_swap_J32
  refine zco_p tkX11_swap 18 2 (pc' := 34) (L' := [(0, .ref v0)]) (S' := [.int 2, .ref v0]) rfl ?_
  refine zco_Vi (rc := 0) (rs := 0) (mc := 0) (ms := 0) (As := [.int 2]) (S := []) vmX11_refuse (mtX11_refuse l e (by omega) v0 2) q_624 rfl rfl (Nat.le_of_ble_eq_true rfl) (zdk (cc := cX11_swap) (q := (34, .invokevirtual 128, 3)) tkX11_swap 20 rfl) (fun y1 => ?_)
  refine zco_p tkX11_swap 21 2 (pc' := 39) (L' := [(0, .ref v0)]) (S' := [.int 0]) rfl ?_
  exact zco_zret rfl rfl rfl (zdk (cc := cX11_swap) (q := (39, .ireturn, 1)) tkX11_swap 23 rfl)
set_option maxHeartbeats 2000000 in
set_option maxRecDepth 20000 in
theorem coX11_swap (l : Launch) (e : Nat) (he : 3 ≤ e) (v0 : Nat) (v1 : Int32) (v2 : Int32) (v3 : Int32) : zCo l (e + 1) 0 0 iX11_swap 0 [(0, .ref v0), (1, .int v1), (2, .int v2), (3, .int v3)] [] (X11_swap v0 v1 v2 v3) := by
  unfold X11_swap
  refine zco_p tkX11_swap 0 1 (pc' := 1) (L' := [(0, .ref v0), (1, .int v1), (2, .int v2), (3, .int v3)]) (S' := [.int v1]) rfl ?_
  refine zco_if_lt (tgt := 32) (zdk (cc := cX11_swap) (q := (1, .ifCond .lt 31, 3)) tkX11_swap 1 rfl) rfl ?_ ?_
  · exact zco_sub [0] rfl (coX11_swap_J32 l e he v0)
  · refine zco_p tkX11_swap 2 2 (pc' := 6) (L' := [(0, .ref v0), (1, .int v1), (2, .int v2), (3, .int v3)]) (S' := [.int 1, .int v1]) rfl ?_
    refine zco_icmp_gt (tgt := 32) (zdk (cc := cX11_swap) (q := (6, .if_icmp .gt 26, 3)) tkX11_swap 4 rfl) rfl ?_ ?_
    · exact zco_sub [0] rfl (coX11_swap_J32 l e he v0)
    · refine zco_p tkX11_swap 5 2 (pc' := 11) (L' := [(0, .ref v0), (1, .int v1), (2, .int v2), (3, .int v3)]) (S' := [.int v3, .int v2]) rfl ?_
      refine zco_icmp_eq (tgt := 32) (zdk (cc := cX11_swap) (q := (11, .if_icmp .eq 21, 3)) tkX11_swap 7 rfl) rfl ?_ ?_
      · exact zco_sub [0] rfl (coX11_swap_J32 l e he v0)
      · refine zco_p tkX11_swap 8 3 (pc' := 17) (L' := [(0, .ref v0), (1, .int v1), (2, .int v2), (3, .int v3)]) (S' := [.int v2, .int v1, .ref v0]) rfl ?_
        refine zco_Vi (rc := 0) (rs := 0) (mc := 0) (ms := 0) (As := [.int v1, .int v2]) (S := []) vmX11_isPlace (mtX11_isPlace l e (by omega) v0 v1 v2) q_1262 rfl rfl (Nat.le_of_ble_eq_true rfl) (zdk (cc := cX11_swap) (q := (17, .invokevirtual 339, 3)) tkX11_swap 11 rfl) (fun y1 => ?_)
        refine zco_if_eq (tgt := 32) (zdk (cc := cX11_swap) (q := (20, .ifCond .eq 12, 3)) tkX11_swap 12 rfl) rfl ?_ ?_
        · exact zco_sub [0] rfl (coX11_swap_J32 l e he v0)
        · refine zco_p tkX11_swap 13 3 (pc' := 26) (L' := [(0, .ref v0), (1, .int v1), (2, .int v2), (3, .int v3)]) (S' := [.int v3, .int v1, .ref v0]) rfl ?_
          refine zco_Vi (rc := 0) (rs := 0) (mc := 0) (ms := 0) (As := [.int v1, .int v3]) (S := []) vmX11_isPlace (mtX11_isPlace l e (by omega) v0 v1 v3) q_1262 rfl rfl (Nat.le_of_ble_eq_true rfl) (zdk (cc := cX11_swap) (q := (26, .invokevirtual 339, 3)) tkX11_swap 16 rfl) (fun y2 => ?_)
          refine zco_if_ne (tgt := 40) (zdk (cc := cX11_swap) (q := (29, .ifCond .ne 11, 3)) tkX11_swap 17 rfl) rfl ?_ ?_
          · refine zco_p tkX11_swap 24 1 (pc' := 41) (L' := [(0, .ref v0), (1, .int v1), (2, .int v2), (3, .int v3)]) (S' := [.ref v0]) rfl ?_
            refine zco_gr fl_11_93 rfl (zdk (cc := cX11_swap) (q := (41, .getfield 93, 3)) tkX11_swap 25 rfl) (fun x3 => ?_)
            refine zco_p tkX11_swap 26 1 (pc' := 45) (L' := [(0, .ref v0), (1, .int v1), (2, .int v2), (3, .int v3)]) (S' := [.ref v0, .ref x3]) rfl ?_
            refine zco_gr fl_11_61 rfl (zdk (cc := cX11_swap) (q := (45, .getfield 61, 3)) tkX11_swap 27 rfl) (fun x4 => ?_)
            refine zco_Vv (rc := 0) (rs := 0) (mc := 0) (ms := 0) (As := [.ref x4]) (S := []) vmX6_remember (mtX6_remember l e (by omega) x3 x4) q_1216 rfl rfl (Nat.le_of_ble_eq_true rfl) (zdk (cc := cX11_swap) (q := (48, .invokevirtual 305, 3)) tkX11_swap 28 rfl) ?_
            refine zco_p tkX11_swap 29 1 (pc' := 52) (L' := [(0, .ref v0), (1, .int v1), (2, .int v2), (3, .int v3)]) (S' := [.ref v0]) rfl ?_
            refine zco_gr fl_11_61 rfl (zdk (cc := cX11_swap) (q := (52, .getfield 61, 3)) tkX11_swap 30 rfl) (fun x5 => ?_)
            refine zco_p tkX11_swap 31 3 (pc' := 58) (L' := [(0, .ref v0), (1, .int v1), (2, .int v2), (3, .int v3)]) (S' := [.int v3, .int v2, .int v1, .ref x5]) rfl ?_
            refine zco_Vv (rc := 0) (rs := 0) (mc := 0) (ms := 0) (As := [.int v1, .int v2, .int v3]) (S := []) vmX8_exchange (mtX8_exchange l e (by omega) x5 v1 v2 v3) q_1266 rfl rfl (Nat.le_of_ble_eq_true rfl) (zdk (cc := cX11_swap) (q := (58, .invokevirtual 342, 3)) tkX11_swap 34 rfl) ?_
            refine zco_p tkX11_swap 35 1 (pc' := 62) (L' := [(0, .ref v0), (1, .int v1), (2, .int v2), (3, .int v3)]) (S' := [.int 1]) rfl ?_
            exact zco_zret rfl rfl rfl (zdk (cc := cX11_swap) (q := (62, .ireturn, 1)) tkX11_swap 36 rfl)
          · exact zco_sub [0] rfl (coX11_swap_J32 l e he v0)
theorem mtX11_swap (l : Launch) (d : Nat) (hd : 4 ≤ d) (v0 : Nat) (v1 : Int32) (v2 : Int32) (v3 : Int32) : zMet l d 0 0 yX11_swap cX11_swap 4 (Option.some .boolean) [.ref v0, .int v1, .int v2, .int v3] (X11_swap v0 v1 v2 v3) := by
  obtain ⟨e, rfl⟩ : ∃ e, d = e + 1 := ⟨d - 1, by omega⟩
  exact zmet_of (own := RX11) (ini := false) (by decide +kernel) rfl (fun _ => by contradiction) (Nat.le_of_ble_eq_true rfl) (coX11_swap l e (by omega) v0 v1 v2 v3)
abbrev iX6_recall : zI := (RX6, cX6_recall, 2, (Option.some .boolean), false)
def tX6_recall : List (Nat × Instr × Nat) := [(0, .aload_n 0, 1), (1, .getfield 9, 3), (4, .ifCond .ne 5, 3), (7, .iconst 0, 1), (8, .ireturn, 1), (9, .aload_n 0, 1), (10, .aload_n 0, 1), (11, .getfield 15, 3), (14, .bipush 20, 2), (16, .iadd, 1), (17, .iconst 1, 1), (18, .isub, 1), (19, .bipush 20, 2), (21, .irem, 1), (22, .putfield 15, 3), (25, .aload_n 1, 1), (26, .aload_n 0, 1), (27, .getfield 20, 3), (30, .aload_n 0, 1), (31, .getfield 15, 3), (34, .aaload, 1), (35, .invokevirtual 35, 3), (38, .aload_n 0, 1), (39, .aload_n 0, 1), (40, .getfield 24, 3), (43, .aload_n 0, 1), (44, .getfield 15, 3), (47, .iaload, 1), (48, .putfield 31, 3), (51, .aload_n 0, 1), (52, .dup, 1), (53, .getfield 9, 3), (56, .iconst 1, 1), (57, .isub, 1), (58, .putfield 9, 3), (61, .iconst 1, 1), (62, .ireturn, 1)]
set_option maxRecDepth 100000 in
theorem tkX6_recall : ∀ q ∈ tX6_recall, decode cX6_recall q.1 = .ok q.2 := by decide +kernel
theorem vmX6_recall : zVM yX6_recall cX6_recall 2 (Option.some .boolean) 1 6 := ⟨kX6_recall, q_1272, q_1273, q_160, ⟨_, rfl, rfl⟩, by decide +kernel, by decide⟩
set_option maxHeartbeats 2000000 in
set_option maxRecDepth 20000 in
theorem coX6_recall (l : Launch) (e : Nat) (he : 2 ≤ e) (v0 : Nat) (v1 : Nat) : zCo l (e + 1) 0 0 iX6_recall 0 [(0, .ref v0), (1, .ref v1)] [] (X6_recall v0 v1) := by
  unfold X6_recall
  refine zco_p tkX6_recall 0 1 (pc' := 1) (L' := [(0, .ref v0), (1, .ref v1)]) (S' := [.ref v0]) rfl ?_
  refine zco_gi fl_6_9 rfl (zdk (cc := cX6_recall) (q := (1, .getfield 9, 3)) tkX6_recall 1 rfl) (fun x1 => ?_)
  refine zco_if_ne (tgt := 9) (zdk (cc := cX6_recall) (q := (4, .ifCond .ne 5, 3)) tkX6_recall 2 rfl) rfl ?_ ?_
  · refine zco_p tkX6_recall 5 2 (pc' := 11) (L' := [(0, .ref v0), (1, .ref v1)]) (S' := [.ref v0, .ref v0]) rfl ?_
    refine zco_gi fl_6_15 rfl (zdk (cc := cX6_recall) (q := (11, .getfield 15, 3)) tkX6_recall 7 rfl) (fun x2 => ?_)
    refine zco_p tkX6_recall 8 5 (pc' := 21) (L' := [(0, .ref v0), (1, .ref v1)]) (S' := [.int 20, .int ((x2 + 20) - 1), .ref v0]) rfl ?_
    refine zco_irem (zdk (cc := cX6_recall) (q := (21, .irem, 1)) tkX6_recall 13 rfl) ?_
    refine zco_pi fl_6_15 rfl rfl (zdk (cc := cX6_recall) (q := (22, .putfield 15, 3)) tkX6_recall 14 rfl) ?_
    refine zco_p tkX6_recall 15 2 (pc' := 27) (L' := [(0, .ref v0), (1, .ref v1)]) (S' := [.ref v0, .ref v1]) rfl ?_
    refine zco_gr fl_6_20 rfl (zdk (cc := cX6_recall) (q := (27, .getfield 20, 3)) tkX6_recall 17 rfl) (fun x3 => ?_)
    refine zco_p tkX6_recall 18 1 (pc' := 31) (L' := [(0, .ref v0), (1, .ref v1)]) (S' := [.ref v0, .ref x3, .ref v1]) rfl ?_
    refine zco_gi fl_6_15 rfl (zdk (cc := cX6_recall) (q := (31, .getfield 15, 3)) tkX6_recall 19 rfl) (fun x4 => ?_)
    refine zco_aaload (zdk (cc := cX6_recall) (q := (34, .aaload, 1)) tkX6_recall 20 rfl) (fun x5 => ?_)
    refine zco_Vv (rc := 0) (rs := 0) (mc := 0) (ms := 0) (As := [.ref x5]) (S := []) vmX8_take (mtX8_take l e (by omega) v1 x5) q_1220 rfl rfl (Nat.le_of_ble_eq_true rfl) (zdk (cc := cX6_recall) (q := (35, .invokevirtual 35, 3)) tkX6_recall 21 rfl) ?_
    refine zco_p tkX6_recall 22 2 (pc' := 40) (L' := [(0, .ref v0), (1, .ref v1)]) (S' := [.ref v0, .ref v0]) rfl ?_
    refine zco_gr fl_6_24 rfl (zdk (cc := cX6_recall) (q := (40, .getfield 24, 3)) tkX6_recall 24 rfl) (fun x6 => ?_)
    refine zco_p tkX6_recall 25 1 (pc' := 44) (L' := [(0, .ref v0), (1, .ref v1)]) (S' := [.ref v0, .ref x6, .ref v0]) rfl ?_
    refine zco_gi fl_6_15 rfl (zdk (cc := cX6_recall) (q := (44, .getfield 15, 3)) tkX6_recall 26 rfl) (fun x7 => ?_)
    refine zco_iaload (zdk (cc := cX6_recall) (q := (47, .iaload, 1)) tkX6_recall 27 rfl) (fun x8 => ?_)
    refine zco_pi fl_6_31 rfl rfl (zdk (cc := cX6_recall) (q := (48, .putfield 31, 3)) tkX6_recall 28 rfl) ?_
    refine zco_p tkX6_recall 29 2 (pc' := 53) (L' := [(0, .ref v0), (1, .ref v1)]) (S' := [.ref v0, .ref v0]) rfl ?_
    refine zco_gi fl_6_9 rfl (zdk (cc := cX6_recall) (q := (53, .getfield 9, 3)) tkX6_recall 31 rfl) (fun x9 => ?_)
    refine zco_p tkX6_recall 32 2 (pc' := 58) (L' := [(0, .ref v0), (1, .ref v1)]) (S' := [.int (x9 - 1), .ref v0]) rfl ?_
    refine zco_pi fl_6_9 rfl rfl (zdk (cc := cX6_recall) (q := (58, .putfield 9, 3)) tkX6_recall 34 rfl) ?_
    refine zco_p tkX6_recall 35 1 (pc' := 62) (L' := [(0, .ref v0), (1, .ref v1)]) (S' := [.int 1]) rfl ?_
    exact zco_zret rfl rfl rfl (zdk (cc := cX6_recall) (q := (62, .ireturn, 1)) tkX6_recall 36 rfl)
  · refine zco_p tkX6_recall 3 1 (pc' := 8) (L' := [(0, .ref v0), (1, .ref v1)]) (S' := [.int 0]) rfl ?_
    exact zco_zret rfl rfl rfl (zdk (cc := cX6_recall) (q := (8, .ireturn, 1)) tkX6_recall 4 rfl)
theorem mtX6_recall (l : Launch) (d : Nat) (hd : 3 ≤ d) (v0 : Nat) (v1 : Nat) : zMet l d 0 0 yX6_recall cX6_recall 2 (Option.some .boolean) [.ref v0, .ref v1] (X6_recall v0 v1) := by
  obtain ⟨e, rfl⟩ : ∃ e, d = e + 1 := ⟨d - 1, by omega⟩
  exact zmet_of (own := RX6) (ini := false) (by decide +kernel) rfl (fun _ => by contradiction) (Nat.le_of_ble_eq_true rfl) (coX6_recall l e (by omega) v0 v1)
abbrev iX11_undo : zI := (RX11, cX11_undo, 1, (Option.some .boolean), false)
def tX11_undo : List (Nat × Instr × Nat) := [(0, .aload_n 0, 1), (1, .getfield 93, 3), (4, .aload_n 0, 1), (5, .getfield 61, 3), (8, .invokevirtual 346, 3), (11, .ifCond .ne 11, 3), (14, .aload_n 0, 1), (15, .iconst 4, 1), (16, .invokevirtual 128, 3), (19, .pop, 1), (20, .iconst 0, 1), (21, .ireturn, 1), (22, .iconst 1, 1), (23, .ireturn, 1)]
set_option maxRecDepth 100000 in
theorem tkX11_undo : ∀ q ∈ tX11_undo, decode cX11_undo q.1 = .ok q.2 := by decide +kernel
theorem vmX11_undo : zVM yX11_undo cX11_undo 1 (Option.some .boolean) 0 11 := ⟨kX11_undo, q_1268, q_1269, q_149, ⟨_, rfl, rfl⟩, by decide +kernel, by decide⟩
set_option maxHeartbeats 2000000 in
set_option maxRecDepth 20000 in
theorem coX11_undo (l : Launch) (e : Nat) (he : 3 ≤ e) (v0 : Nat) : zCo l (e + 1) 0 0 iX11_undo 0 [(0, .ref v0)] [] (X11_undo v0) := by
  unfold X11_undo
  refine zco_p tkX11_undo 0 1 (pc' := 1) (L' := [(0, .ref v0)]) (S' := [.ref v0]) rfl ?_
  refine zco_gr fl_11_93 rfl (zdk (cc := cX11_undo) (q := (1, .getfield 93, 3)) tkX11_undo 1 rfl) (fun x1 => ?_)
  refine zco_p tkX11_undo 2 1 (pc' := 5) (L' := [(0, .ref v0)]) (S' := [.ref v0, .ref x1]) rfl ?_
  refine zco_gr fl_11_61 rfl (zdk (cc := cX11_undo) (q := (5, .getfield 61, 3)) tkX11_undo 3 rfl) (fun x2 => ?_)
  refine zco_Vi (rc := 0) (rs := 0) (mc := 0) (ms := 0) (As := [.ref x2]) (S := []) vmX6_recall (mtX6_recall l e (by omega) x1 x2) q_1271 rfl rfl (Nat.le_of_ble_eq_true rfl) (zdk (cc := cX11_undo) (q := (8, .invokevirtual 346, 3)) tkX11_undo 4 rfl) (fun y3 => ?_)
  refine zco_if_ne (tgt := 22) (zdk (cc := cX11_undo) (q := (11, .ifCond .ne 11, 3)) tkX11_undo 5 rfl) rfl ?_ ?_
  · refine zco_p tkX11_undo 12 1 (pc' := 23) (L' := [(0, .ref v0)]) (S' := [.int 1]) rfl ?_
    exact zco_zret rfl rfl rfl (zdk (cc := cX11_undo) (q := (23, .ireturn, 1)) tkX11_undo 13 rfl)
  · refine zco_p tkX11_undo 6 2 (pc' := 16) (L' := [(0, .ref v0)]) (S' := [.int 4, .ref v0]) rfl ?_
    refine zco_Vi (rc := 0) (rs := 0) (mc := 0) (ms := 0) (As := [.int 4]) (S := []) vmX11_refuse (mtX11_refuse l e (by omega) v0 4) q_624 rfl rfl (Nat.le_of_ble_eq_true rfl) (zdk (cc := cX11_undo) (q := (16, .invokevirtual 128, 3)) tkX11_undo 8 rfl) (fun y4 => ?_)
    refine zco_p tkX11_undo 9 2 (pc' := 21) (L' := [(0, .ref v0)]) (S' := [.int 0]) rfl ?_
    exact zco_zret rfl rfl rfl (zdk (cc := cX11_undo) (q := (21, .ireturn, 1)) tkX11_undo 11 rfl)
theorem mtX11_undo (l : Launch) (d : Nat) (hd : 4 ≤ d) (v0 : Nat) : zMet l d 0 0 yX11_undo cX11_undo 1 (Option.some .boolean) [.ref v0] (X11_undo v0) := by
  obtain ⟨e, rfl⟩ : ∃ e, d = e + 1 := ⟨d - 1, by omega⟩
  exact zmet_of (own := RX11) (ini := false) (by decide +kernel) rfl (fun _ => by contradiction) (Nat.le_of_ble_eq_true rfl) (coX11_undo l e (by omega) v0)
abbrev iX11_seed : zI := (RX11, cX11_seed, 2, (Option.some .boolean), false)
def tX11_seed : List (Nat × Instr × Nat) := [(0, .iload_n 1, 1), (1, .ifCond .ge 11, 3), (4, .aload_n 0, 1), (5, .iconst 5, 1), (6, .invokevirtual 128, 3), (9, .pop, 1), (10, .iconst 0, 1), (11, .ireturn, 1), (12, .aload_n 0, 1), (13, .iload_n 1, 1), (14, .i2l, 1), (15, .putfield 118, 3), (18, .iconst 1, 1), (19, .ireturn, 1)]
set_option maxRecDepth 100000 in
theorem tkX11_seed : ∀ q ∈ tX11_seed, decode cX11_seed q.1 = .ok q.2 := by decide +kernel
theorem vmX11_seed : zVM yX11_seed cX11_seed 2 (Option.some .boolean) 1 11 := ⟨kX11_seed, q_1276, q_1277, q_149, ⟨_, rfl, rfl⟩, by decide +kernel, by decide⟩
set_option maxHeartbeats 2000000 in
set_option maxRecDepth 20000 in
theorem coX11_seed (l : Launch) (e : Nat) (he : 1 ≤ e) (v0 : Nat) (v1 : Int32) : zCo l (e + 1) 0 0 iX11_seed 0 [(0, .ref v0), (1, .int v1)] [] (X11_seed v0 v1) := by
  unfold X11_seed
  refine zco_p tkX11_seed 0 1 (pc' := 1) (L' := [(0, .ref v0), (1, .int v1)]) (S' := [.int v1]) rfl ?_
  refine zco_if_ge (tgt := 12) (zdk (cc := cX11_seed) (q := (1, .ifCond .ge 11, 3)) tkX11_seed 1 rfl) rfl ?_ ?_
  · refine zco_p tkX11_seed 8 3 (pc' := 15) (L' := [(0, .ref v0), (1, .int v1)]) (S' := [.long v1.toInt64, .ref v0]) rfl ?_
    refine zco_pl fl_11_118 rfl rfl (zdk (cc := cX11_seed) (q := (15, .putfield 118, 3)) tkX11_seed 11 rfl) ?_
    refine zco_p tkX11_seed 12 1 (pc' := 19) (L' := [(0, .ref v0), (1, .int v1)]) (S' := [.int 1]) rfl ?_
    exact zco_zret rfl rfl rfl (zdk (cc := cX11_seed) (q := (19, .ireturn, 1)) tkX11_seed 13 rfl)
  · refine zco_p tkX11_seed 2 2 (pc' := 6) (L' := [(0, .ref v0), (1, .int v1)]) (S' := [.int 5, .ref v0]) rfl ?_
    refine zco_Vi (rc := 0) (rs := 0) (mc := 0) (ms := 0) (As := [.int 5]) (S := []) vmX11_refuse (mtX11_refuse l e (by omega) v0 5) q_624 rfl rfl (Nat.le_of_ble_eq_true rfl) (zdk (cc := cX11_seed) (q := (6, .invokevirtual 128, 3)) tkX11_seed 4 rfl) (fun y1 => ?_)
    refine zco_p tkX11_seed 5 2 (pc' := 11) (L' := [(0, .ref v0), (1, .int v1)]) (S' := [.int 0]) rfl ?_
    exact zco_zret rfl rfl rfl (zdk (cc := cX11_seed) (q := (11, .ireturn, 1)) tkX11_seed 7 rfl)
theorem mtX11_seed (l : Launch) (d : Nat) (hd : 2 ≤ d) (v0 : Nat) (v1 : Int32) : zMet l d 0 0 yX11_seed cX11_seed 2 (Option.some .boolean) [.ref v0, .int v1] (X11_seed v0 v1) := by
  obtain ⟨e, rfl⟩ : ∃ e, d = e + 1 := ⟨d - 1, by omega⟩
  exact zmet_of (own := RX11) (ini := false) (by decide +kernel) rfl (fun _ => by contradiction) (Nat.le_of_ble_eq_true rfl) (coX11_seed l e (by omega) v0 v1)
abbrev iX4_ofQuestion : zI := (RX4, cX4_ofQuestion, 2, (Option.none : Option FieldType), false)
def tX4_ofQuestion : List (Nat × Instr × Nat) := [(0, .aload_n 0, 1), (1, .aload_n 1, 1), (2, .putfield 29, 3), (5, .aload_n 0, 1), (6, .ldc 37, 2), (8, .putfield 11, 3), (11, .aload_n 0, 1), (12, .sipush 511, 3), (15, .putfield 17, 3), (18, .aload_n 0, 1), (19, .iconst 1, 1), (20, .putfield 21, 3), (23, .return_, 1)]
set_option maxRecDepth 100000 in
theorem tkX4_ofQuestion : ∀ q ∈ tX4_ofQuestion, decode cX4_ofQuestion q.1 = .ok q.2 := by decide +kernel
theorem vmX4_ofQuestion : zVM yX4_ofQuestion cX4_ofQuestion 2 (Option.none : Option FieldType) 1 4 := ⟨kX4_ofQuestion, q_1289, q_1290, q_153, ⟨_, rfl, rfl⟩, by decide +kernel, by decide⟩
set_option maxHeartbeats 2000000 in
set_option maxRecDepth 20000 in
theorem coX4_ofQuestion (l : Launch) (e : Nat) (he : 0 ≤ e) (v0 : Nat) (v1 : Nat) : zCo l (e + 1) 0 0 iX4_ofQuestion 0 [(0, .ref v0), (1, .ref v1)] [] (X4_ofQuestion v0 v1) := by
  unfold X4_ofQuestion
  refine zco_p tkX4_ofQuestion 0 2 (pc' := 2) (L' := [(0, .ref v0), (1, .ref v1)]) (S' := [.ref v1, .ref v0]) rfl ?_
  refine zco_pr fl_4_29 (Or.inl ⟨_, rfl⟩) rfl (zdk (cc := cX4_ofQuestion) (q := (2, .putfield 29, 3)) tkX4_ofQuestion 2 rfl) ?_
  refine zco_p tkX4_ofQuestion 3 1 (pc' := 6) (L' := [(0, .ref v0), (1, .ref v1)]) (S' := [.ref v0]) rfl ?_
  refine zco_ldcS (i := 14) rfl (zdk (cc := cX4_ofQuestion) (q := (6, .ldc 37, 2)) tkX4_ofQuestion 4 rfl) ?_
  refine zco_pr fl_4_11 (Or.inl ⟨_, rfl⟩) rfl (zdk (cc := cX4_ofQuestion) (q := (8, .putfield 11, 3)) tkX4_ofQuestion 5 rfl) ?_
  refine zco_p tkX4_ofQuestion 6 2 (pc' := 15) (L' := [(0, .ref v0), (1, .ref v1)]) (S' := [.int 511, .ref v0]) rfl ?_
  refine zco_pi fl_4_17 rfl rfl (zdk (cc := cX4_ofQuestion) (q := (15, .putfield 17, 3)) tkX4_ofQuestion 8 rfl) ?_
  refine zco_p tkX4_ofQuestion 9 2 (pc' := 20) (L' := [(0, .ref v0), (1, .ref v1)]) (S' := [.int 1, .ref v0]) rfl ?_
  refine zco_pb fl_4_21 rfl rfl (zdk (cc := cX4_ofQuestion) (q := (20, .putfield 21, 3)) tkX4_ofQuestion 11 rfl) ?_
  exact zco_vret rfl rfl rfl (zdk (cc := cX4_ofQuestion) (q := (23, .return_, 1)) tkX4_ofQuestion 12 rfl)
theorem mtX4_ofQuestion (l : Launch) (d : Nat) (hd : 1 ≤ d) (v0 : Nat) (v1 : Nat) : zMet l d 0 0 yX4_ofQuestion cX4_ofQuestion 2 (Option.none : Option FieldType) [.ref v0, .ref v1] (X4_ofQuestion v0 v1) := by
  obtain ⟨e, rfl⟩ : ∃ e, d = e + 1 := ⟨d - 1, by omega⟩
  exact zmet_of (own := RX4) (ini := false) (by decide +kernel) rfl (fun _ => by contradiction) (Nat.le_of_ble_eq_true rfl) (coX4_ofQuestion l e (by omega) v0 v1)
abbrev iX7_read : zI := (RX7, cX7_read, 1, (Option.none : Option FieldType), false)
def tX7_read : List (Nat × Instr × Nat) := [(0, .aload_n 0, 1), (1, .getfield 12, 3), (4, .invokevirtual 39, 3), (7, .aload_n 0, 1), (8, .getfield 35, 3), (11, .aload_n 0, 1), (12, .getfield 12, 3), (15, .invokevirtual 42, 3), (18, .aload_n 0, 1), (19, .aload_n 0, 1), (20, .getfield 26, 3), (23, .ldc 46, 2), (25, .invokevirtual 48, 3), (28, .putfield 22, 3), (31, .aload_n 0, 1), (32, .getfield 22, 3), (35, .iconst (-1), 1), (36, .if_icmp .ne 19, 3), (39, .aload_n 0, 1), (40, .getfield 26, 3), (43, .iconst 1, 1), (44, .aload_n 0, 1), (45, .getfield 26, 3), (48, .invokevirtual 54, 3), (51, .invokevirtual 58, 3), (54, .return_, 1), (55, .aload_n 0, 1), (56, .getfield 26, 3), (59, .invokevirtual 62, 3), (62, .aload_n 0, 1), (63, .getfield 12, 3), (66, .iconst 0, 1), (67, .invokevirtual 65, 3), (70, .aload_n 0, 1), (71, .getfield 22, 3), (74, .iconst 2, 1), (75, .if_icmp .gt 14, 3), (78, .aload_n 0, 1), (79, .getfield 35, 3), (82, .iconst 0, 1), (83, .invokevirtual 68, 3), (86, .goto 11, 3), (89, .aload_n 0, 1), (90, .getfield 35, 3), (93, .iconst 0, 1), (94, .invokevirtual 71, 3), (97, .aload_n 0, 1), (98, .getfield 12, 3), (101, .iconst 0, 1), (102, .invokevirtual 74, 3), (105, .aload_n 0, 1), (106, .getfield 26, 3), (109, .invokevirtual 77, 3), (112, .ifCond .ne 18, 3), (115, .aload_n 0, 1), (116, .getfield 26, 3), (119, .iconst 1, 1), (120, .aload_n 0, 1), (121, .getfield 26, 3), (124, .invokevirtual 54, 3), (127, .invokevirtual 58, 3), (130, .return_, 1)]
set_option maxRecDepth 100000 in
theorem tkX7_read : ∀ q ∈ tX7_read, decode cX7_read q.1 = .ok q.2 := by decide +kernel
theorem vmX7_read : zVM yX7_read cX7_read 1 (Option.none : Option FieldType) 0 7 := ⟨kX7_read, q_1284, q_1285, q_151, ⟨_, rfl, rfl⟩, by decide +kernel, by decide⟩
set_option maxHeartbeats 2000000 in
set_option maxRecDepth 20000 in
theorem coX7_read_J97 (l : Launch) (e : Nat) (he : 71 ≤ e) (v0 : Nat) : zCo l (e + 1) 0 0 iX7_read 97 [(0, .ref v0)] [] (X7_read_J97 v0) := by
  unfold X7_read_J97
  refine zco_p tkX7_read 46 1 (pc' := 98) (L' := [(0, .ref v0)]) (S' := [.ref v0]) rfl ?_
  refine zco_gr fl_7_12 rfl (zdk (cc := cX7_read) (q := (98, .getfield 12, 3)) tkX7_read 47 rfl) (fun x1 => ?_)
  refine zco_p tkX7_read 48 1 (pc' := 102) (L' := [(0, .ref v0)]) (S' := [.int 0, .ref x1]) rfl ?_
  refine zco_Vv (rc := 0) (rs := 0) (mc := 0) (ms := 0) (As := [.int 0]) (S := []) vmX3_finish (mtX3_finish l e (by omega) x1 0) q_1301 rfl rfl (Nat.le_of_ble_eq_true rfl) (zdk (cc := cX7_read) (q := (102, .invokevirtual 74, 3)) tkX7_read 49 rfl) ?_
  refine zco_p tkX7_read 50 1 (pc' := 106) (L' := [(0, .ref v0)]) (S' := [.ref v0]) rfl ?_
  refine zco_gr fl_7_26 rfl (zdk (cc := cX7_read) (q := (106, .getfield 26, 3)) tkX7_read 51 rfl) (fun x2 => ?_)
  refine zco_Vi (rc := 0) (rs := 0) (mc := 0) (ms := 0) (As := []) (S := []) vmX9_ended (mtX9_ended l e (by omega) x2) q_1302 rfl rfl (Nat.le_of_ble_eq_true rfl) (zdk (cc := cX7_read) (q := (109, .invokevirtual 77, 3)) tkX7_read 52 rfl) (fun y3 => ?_)
  refine zco_if_ne (tgt := 130) (zdk (cc := cX7_read) (q := (112, .ifCond .ne 18, 3)) tkX7_read 53 rfl) rfl ?_ ?_
  · exact zco_vret rfl rfl rfl (zdk (cc := cX7_read) (q := (130, .return_, 1)) tkX7_read 61 rfl)
  · refine zco_p tkX7_read 54 1 (pc' := 116) (L' := [(0, .ref v0)]) (S' := [.ref v0]) rfl ?_
    refine zco_gr fl_7_26 rfl (zdk (cc := cX7_read) (q := (116, .getfield 26, 3)) tkX7_read 55 rfl) (fun x4 => ?_)
    refine zco_p tkX7_read 56 2 (pc' := 121) (L' := [(0, .ref v0)]) (S' := [.ref v0, .int 1, .ref x4]) rfl ?_
    refine zco_gr fl_7_26 rfl (zdk (cc := cX7_read) (q := (121, .getfield 26, 3)) tkX7_read 58 rfl) (fun x5 => ?_)
    refine zco_Vi (rc := 0) (rs := 0) (mc := 0) (ms := 0) (As := []) (S := [.int 1, .ref x4]) vmX9_begin (mtX9_begin l e (by omega) x5) q_1295 rfl rfl (Nat.le_of_ble_eq_true rfl) (zdk (cc := cX7_read) (q := (124, .invokevirtual 54, 3)) tkX7_read 59 rfl) (fun y6 => ?_)
    refine zco_Vv (rc := 0) (rs := 0) (mc := 0) (ms := 0) (As := [.int 1, .int y6]) (S := []) vmX9_fail (mtX9_fail l e (by omega) x4 1 y6) q_1296 rfl rfl (Nat.le_of_ble_eq_true rfl) (zdk (cc := cX7_read) (q := (127, .invokevirtual 58, 3)) tkX7_read 60 rfl) ?_
    exact zco_vret rfl rfl rfl (zdk (cc := cX7_read) (q := (130, .return_, 1)) tkX7_read 61 rfl)
set_option maxHeartbeats 2000000 in
set_option maxRecDepth 20000 in
theorem coX7_read (l : Launch) (e : Nat) (he : 71 ≤ e) (v0 : Nat) : zCo l (e + 1) 0 0 iX7_read 0 [(0, .ref v0)] [] (X7_read v0) := by
  unfold X7_read
  refine zco_p tkX7_read 0 1 (pc' := 1) (L' := [(0, .ref v0)]) (S' := [.ref v0]) rfl ?_
  refine zco_gr fl_7_12 rfl (zdk (cc := cX7_read) (q := (1, .getfield 12, 3)) tkX7_read 1 rfl) (fun x1 => ?_)
  refine zco_Vv (rc := 0) (rs := 0) (mc := 0) (ms := 0) (As := []) (S := []) vmX3_clear (mtX3_clear l e (by omega) x1) q_1287 rfl rfl (Nat.le_of_ble_eq_true rfl) (zdk (cc := cX7_read) (q := (4, .invokevirtual 39, 3)) tkX7_read 2 rfl) ?_
  refine zco_p tkX7_read 3 1 (pc' := 8) (L' := [(0, .ref v0)]) (S' := [.ref v0]) rfl ?_
  refine zco_gr fl_7_35 rfl (zdk (cc := cX7_read) (q := (8, .getfield 35, 3)) tkX7_read 4 rfl) (fun x2 => ?_)
  refine zco_p tkX7_read 5 1 (pc' := 12) (L' := [(0, .ref v0)]) (S' := [.ref v0, .ref x2]) rfl ?_
  refine zco_gr fl_7_12 rfl (zdk (cc := cX7_read) (q := (12, .getfield 12, 3)) tkX7_read 6 rfl) (fun x3 => ?_)
  refine zco_Vv (rc := 0) (rs := 0) (mc := 0) (ms := 0) (As := [.ref x3]) (S := []) vmX4_ofQuestion (mtX4_ofQuestion l e (by omega) x2 x3) q_1288 rfl rfl (Nat.le_of_ble_eq_true rfl) (zdk (cc := cX7_read) (q := (15, .invokevirtual 42, 3)) tkX7_read 7 rfl) ?_
  refine zco_p tkX7_read 8 2 (pc' := 20) (L' := [(0, .ref v0)]) (S' := [.ref v0, .ref v0]) rfl ?_
  refine zco_gr fl_7_26 rfl (zdk (cc := cX7_read) (q := (20, .getfield 26, 3)) tkX7_read 10 rfl) (fun x4 => ?_)
  refine zco_ldcS (i := 15) rfl (zdk (cc := cX7_read) (q := (23, .ldc 46, 2)) tkX7_read 11 rfl) ?_
  refine zco_Vi (rc := 0) (rs := 0) (mc := 0) (ms := 0) (As := [.ref (zB + 15)]) (S := [.ref v0]) vmX9_wordIn (mtX9_wordIn l e (by omega) x4 (zB + 15)) q_1294 rfl rfl (Nat.le_of_ble_eq_true rfl) (zdk (cc := cX7_read) (q := (25, .invokevirtual 48, 3)) tkX7_read 12 rfl) (fun y5 => ?_)
  refine zco_pi fl_7_22 rfl rfl (zdk (cc := cX7_read) (q := (28, .putfield 22, 3)) tkX7_read 13 rfl) ?_
  refine zco_p tkX7_read 14 1 (pc' := 32) (L' := [(0, .ref v0)]) (S' := [.ref v0]) rfl ?_
  refine zco_gi fl_7_22 rfl (zdk (cc := cX7_read) (q := (32, .getfield 22, 3)) tkX7_read 15 rfl) (fun x6 => ?_)
  refine zco_p tkX7_read 16 1 (pc' := 36) (L' := [(0, .ref v0)]) (S' := [.int ((-1)), .int x6]) rfl ?_
  refine zco_icmp_ne (tgt := 55) (zdk (cc := cX7_read) (q := (36, .if_icmp .ne 19, 3)) tkX7_read 17 rfl) rfl ?_ ?_
  · refine zco_p tkX7_read 26 1 (pc' := 56) (L' := [(0, .ref v0)]) (S' := [.ref v0]) rfl ?_
    refine zco_gr fl_7_26 rfl (zdk (cc := cX7_read) (q := (56, .getfield 26, 3)) tkX7_read 27 rfl) (fun x7 => ?_)
    refine zco_Vv (rc := 0) (rs := 0) (mc := 0) (ms := 0) (As := []) (S := []) vmX9_passWord (mtX9_passWord l e (by omega) x7) q_1297 rfl rfl (Nat.le_of_ble_eq_true rfl) (zdk (cc := cX7_read) (q := (59, .invokevirtual 62, 3)) tkX7_read 28 rfl) ?_
    refine zco_p tkX7_read 29 1 (pc' := 63) (L' := [(0, .ref v0)]) (S' := [.ref v0]) rfl ?_
    refine zco_gr fl_7_12 rfl (zdk (cc := cX7_read) (q := (63, .getfield 12, 3)) tkX7_read 30 rfl) (fun x8 => ?_)
    refine zco_p tkX7_read 31 1 (pc' := 67) (L' := [(0, .ref v0)]) (S' := [.int 0, .ref x8]) rfl ?_
    refine zco_Vv (rc := 0) (rs := 0) (mc := 0) (ms := 0) (As := [.int 0]) (S := []) vmX3_begin (mtX3_begin l e (by omega) x8 0) q_1298 rfl rfl (Nat.le_of_ble_eq_true rfl) (zdk (cc := cX7_read) (q := (67, .invokevirtual 65, 3)) tkX7_read 32 rfl) ?_
    refine zco_p tkX7_read 33 1 (pc' := 71) (L' := [(0, .ref v0)]) (S' := [.ref v0]) rfl ?_
    refine zco_gi fl_7_22 rfl (zdk (cc := cX7_read) (q := (71, .getfield 22, 3)) tkX7_read 34 rfl) (fun x9 => ?_)
    refine zco_p tkX7_read 35 1 (pc' := 75) (L' := [(0, .ref v0)]) (S' := [.int 2, .int x9]) rfl ?_
    refine zco_icmp_gt (tgt := 89) (zdk (cc := cX7_read) (q := (75, .if_icmp .gt 14, 3)) tkX7_read 36 rfl) rfl ?_ ?_
    · refine zco_p tkX7_read 42 1 (pc' := 90) (L' := [(0, .ref v0)]) (S' := [.ref v0]) rfl ?_
      refine zco_gr fl_7_35 rfl (zdk (cc := cX7_read) (q := (90, .getfield 35, 3)) tkX7_read 43 rfl) (fun x10 => ?_)
      refine zco_p tkX7_read 44 1 (pc' := 94) (L' := [(0, .ref v0)]) (S' := [.int 0, .ref x10]) rfl ?_
      refine zco_Wv (rc := 0) (rs := 0) (mc := 0) (ms := 0) (As := [.int 0]) (S := []) vmX4_sum (mtX4_sum l e (by omega) x10 0) (host := "ClothWedding") (by decide +kernel) rfl rfl (Nat.le_of_ble_eq_true rfl) (zdk (cc := cX7_read) (q := (94, .invokevirtual 71, 3)) tkX7_read 45 rfl) ?_
      exact zco_sub [0] rfl (coX7_read_J97 l e he v0)
    · refine zco_p tkX7_read 37 1 (pc' := 79) (L' := [(0, .ref v0)]) (S' := [.ref v0]) rfl ?_
      refine zco_gr fl_7_35 rfl (zdk (cc := cX7_read) (q := (79, .getfield 35, 3)) tkX7_read 38 rfl) (fun x11 => ?_)
      refine zco_p tkX7_read 39 1 (pc' := 83) (L' := [(0, .ref v0)]) (S' := [.int 0, .ref x11]) rfl ?_
      refine zco_Wv (rc := 0) (rs := 0) (mc := 0) (ms := 0) (As := [.int 0]) (S := []) vmX4_test (mtX4_test l e (by omega) x11 0) (host := "ClothWedding") (by decide +kernel) rfl rfl (Nat.le_of_ble_eq_true rfl) (zdk (cc := cX7_read) (q := (83, .invokevirtual 68, 3)) tkX7_read 40 rfl) ?_
      refine zco_p tkX7_read 41 1 (pc' := 97) (L' := [(0, .ref v0)]) (S' := []) rfl ?_
      exact zco_sub [0] rfl (coX7_read_J97 l e he v0)
  · refine zco_p tkX7_read 18 1 (pc' := 40) (L' := [(0, .ref v0)]) (S' := [.ref v0]) rfl ?_
    refine zco_gr fl_7_26 rfl (zdk (cc := cX7_read) (q := (40, .getfield 26, 3)) tkX7_read 19 rfl) (fun x12 => ?_)
    refine zco_p tkX7_read 20 2 (pc' := 45) (L' := [(0, .ref v0)]) (S' := [.ref v0, .int 1, .ref x12]) rfl ?_
    refine zco_gr fl_7_26 rfl (zdk (cc := cX7_read) (q := (45, .getfield 26, 3)) tkX7_read 22 rfl) (fun x13 => ?_)
    refine zco_Vi (rc := 0) (rs := 0) (mc := 0) (ms := 0) (As := []) (S := [.int 1, .ref x12]) vmX9_begin (mtX9_begin l e (by omega) x13) q_1295 rfl rfl (Nat.le_of_ble_eq_true rfl) (zdk (cc := cX7_read) (q := (48, .invokevirtual 54, 3)) tkX7_read 23 rfl) (fun y14 => ?_)
    refine zco_Vv (rc := 0) (rs := 0) (mc := 0) (ms := 0) (As := [.int 1, .int y14]) (S := []) vmX9_fail (mtX9_fail l e (by omega) x12 1 y14) q_1296 rfl rfl (Nat.le_of_ble_eq_true rfl) (zdk (cc := cX7_read) (q := (51, .invokevirtual 58, 3)) tkX7_read 24 rfl) ?_
    exact zco_vret rfl rfl rfl (zdk (cc := cX7_read) (q := (54, .return_, 1)) tkX7_read 25 rfl)
theorem mtX7_read (l : Launch) (d : Nat) (hd : 72 ≤ d) (v0 : Nat) : zMet l d 0 0 yX7_read cX7_read 1 (Option.none : Option FieldType) [.ref v0] (X7_read v0) := by
  obtain ⟨e, rfl⟩ : ∃ e, d = e + 1 := ⟨d - 1, by omega⟩
  exact zmet_of (own := RX7) (ini := false) (by decide +kernel) rfl (fun _ => by contradiction) (Nat.le_of_ble_eq_true rfl) (coX7_read l e (by omega) v0)
abbrev iX7_gatherFacts : zI := (RX7, cX7_gatherFacts, 7, (Option.none : Option FieldType), false)
def tX7_gatherFacts : List (Nat × Instr × Nat) := [(0, .aload_n 1, 1), (1, .iload_n 3, 1), (2, .invokevirtual 109, 3), (5, .istore 4, 2), (7, .aload_n 0, 1), (8, .getfield 18, 3), (11, .iconst 0, 1), (12, .iload_n 3, 1), (13, .iastore, 1), (14, .aload_n 0, 1), (15, .getfield 18, 3), (18, .iconst 1, 1), (19, .iload 4, 2), (21, .invokestatic 113, 3), (24, .iastore, 1), (25, .aload_n 0, 1), (26, .getfield 18, 3), (29, .iconst 2, 1), (30, .aload_n 1, 1), (31, .getfield 116, 3), (34, .iload 4, 2), (36, .iaload, 1), (37, .iastore, 1), (38, .aload_n 0, 1), (39, .getfield 18, 3), (42, .iconst 3, 1), (43, .aload_n 1, 1), (44, .getfield 119, 3), (47, .iload 4, 2), (49, .iaload, 1), (50, .iastore, 1), (51, .aload_n 0, 1), (52, .getfield 18, 3), (55, .iconst 4, 1), (56, .aload_n 1, 1), (57, .getfield 122, 3), (60, .iload 4, 2), (62, .iaload, 1), (63, .iastore, 1), (64, .aload_n 0, 1), (65, .getfield 18, 3), (68, .iconst 5, 1), (69, .aload_n 2, 1), (70, .getfield 125, 3), (73, .iload 4, 2), (75, .iaload, 1), (76, .iastore, 1), (77, .aload_n 0, 1), (78, .getfield 18, 3), (81, .bipush 6, 2), (83, .aload_n 2, 1), (84, .getfield 130, 3), (87, .iload 4, 2), (89, .iaload, 1), (90, .iconst (-1), 1), (91, .if_icmp .eq 7, 3), (94, .iconst 1, 1), (95, .goto 4, 3), (98, .iconst 0, 1), (99, .iastore, 1), (100, .aload_n 0, 1), (101, .getfield 18, 3), (104, .bipush 7, 2), (106, .aload_n 2, 1), (107, .getfield 133, 3), (110, .iastore, 1), (111, .aload_n 0, 1), (112, .getfield 18, 3), (115, .bipush 8, 2), (117, .aload_n 2, 1), (118, .getfield 136, 3), (121, .iastore, 1), (122, .iconst 0, 1), (123, .istore 5, 2), (125, .iload 5, 2), (127, .bipush 12, 2), (129, .if_icmp .ge 83, 3), (132, .aload_n 1, 1), (133, .iload 4, 2), (135, .iload 5, 2), (137, .invokevirtual 139, 3), (140, .istore 6, 2), (142, .aload_n 0, 1), (143, .getfield 18, 3), (146, .bipush 9, 2), (148, .iload 5, 2), (150, .iadd, 1), (151, .iload 6, 2), (153, .iconst (-1), 1), (154, .if_icmp .ne 7, 3), (157, .iconst 0, 1), (158, .goto 15, 3), (161, .aload_n 2, 1), (162, .getfield 143, 3), (165, .iload 4, 2), (167, .iload 6, 2), (169, .invokestatic 146, 3), (172, .iaload, 1), (173, .iastore, 1), (174, .aload_n 0, 1), (175, .getfield 18, 3), (178, .bipush 21, 2), (180, .iload 5, 2), (182, .iadd, 1), (183, .iload 6, 2), (185, .iconst (-1), 1), (186, .if_icmp .ne 7, 3), (189, .iconst 0, 1), (190, .goto 15, 3), (193, .aload_n 2, 1), (194, .getfield 149, 3), (197, .iload 4, 2), (199, .iload 6, 2), (201, .invokestatic 146, 3), (204, .iaload, 1), (205, .iastore, 1), (206, .iinc 5 1, 3), (209, .goto (-84), 3), (212, .return_, 1)]
set_option maxRecDepth 100000 in
theorem tkX7_gatherFacts : ∀ q ∈ tX7_gatherFacts, decode cX7_gatherFacts q.1 = .ok q.2 := by decide +kernel
theorem vmX7_gatherFacts : zVM yX7_gatherFacts cX7_gatherFacts 7 (Option.none : Option FieldType) 3 7 := ⟨kX7_gatherFacts, q_1311, q_41, q_151, ⟨_, rfl, rfl⟩, by decide +kernel, by decide⟩
set_option maxHeartbeats 2000000 in
set_option maxRecDepth 20000 in
theorem coX7_gatherFacts_J205 (l : Launch) (e : Nat) (he : 3 ≤ e) (v0 : Nat) (v1 : Nat) (v2 : Nat) (v4 : Int32) (v5 : Int32) (r125 : Int32 → zM) (hr125 : ∀ x : Int32, zCo l (e + 1) 0 0 iX7_gatherFacts 125 [(0, .ref v0), (1, .ref v1), (2, .ref v2), (4, .int v4), (5, .int x)] [] (r125 x)) (s0 : Int32) (s1 : Int32) (s2 : Nat) : zCo l (e + 1) 0 0 iX7_gatherFacts 205 [(0, .ref v0), (1, .ref v1), (2, .ref v2), (4, .int v4), (5, .int v5)] [.int s0, .int s1, .ref s2] (X7_gatherFacts_J205 r125 v0 v1 v2 v4 v5 s0 s1 s2) := by
  unfold X7_gatherFacts_J205
  refine zco_iastore (zdk (cc := cX7_gatherFacts) (q := (205, .iastore, 1)) tkX7_gatherFacts 115 rfl) ?_
  refine zco_p tkX7_gatherFacts 116 2 (pc' := 125) (L' := [(5, .int (v5 + 1)), (0, .ref v0), (1, .ref v1), (2, .ref v2), (4, .int v4)]) (S' := []) rfl ?_
  exact zco_sub [1, 2, 3, 4, 0] rfl (hr125 (v5 + 1))
set_option maxHeartbeats 2000000 in
set_option maxRecDepth 20000 in
theorem coX7_gatherFacts_J173 (l : Launch) (e : Nat) (he : 3 ≤ e) (v0 : Nat) (v1 : Nat) (v2 : Nat) (v4 : Int32) (v5 : Int32) (v6 : Int32) (r125 : Int32 → zM) (hr125 : ∀ x : Int32, zCo l (e + 1) 0 0 iX7_gatherFacts 125 [(0, .ref v0), (1, .ref v1), (2, .ref v2), (4, .int v4), (5, .int x)] [] (r125 x)) (s0 : Int32) (s1 : Int32) (s2 : Nat) : zCo l (e + 1) 0 0 iX7_gatherFacts 173 [(0, .ref v0), (1, .ref v1), (2, .ref v2), (4, .int v4), (5, .int v5), (6, .int v6)] [.int s0, .int s1, .ref s2] (X7_gatherFacts_J173 r125 v0 v1 v2 v4 v5 v6 s0 s1 s2) := by
  unfold X7_gatherFacts_J173
  refine zco_iastore (zdk (cc := cX7_gatherFacts) (q := (173, .iastore, 1)) tkX7_gatherFacts 98 rfl) ?_
  refine zco_p tkX7_gatherFacts 99 1 (pc' := 175) (L' := [(0, .ref v0), (1, .ref v1), (2, .ref v2), (4, .int v4), (5, .int v5), (6, .int v6)]) (S' := [.ref v0]) rfl ?_
  refine zco_gr fl_7_18 rfl (zdk (cc := cX7_gatherFacts) (q := (175, .getfield 18, 3)) tkX7_gatherFacts 100 rfl) (fun x1 => ?_)
  refine zco_p tkX7_gatherFacts 101 5 (pc' := 186) (L' := [(0, .ref v0), (1, .ref v1), (2, .ref v2), (4, .int v4), (5, .int v5), (6, .int v6)]) (S' := [.int ((-1)), .int v6, .int (21 + v5), .ref x1]) rfl ?_
  refine zco_icmp_ne (tgt := 193) (zdk (cc := cX7_gatherFacts) (q := (186, .if_icmp .ne 7, 3)) tkX7_gatherFacts 106 rfl) rfl ?_ ?_
  · refine zco_p tkX7_gatherFacts 109 1 (pc' := 194) (L' := [(0, .ref v0), (1, .ref v1), (2, .ref v2), (4, .int v4), (5, .int v5), (6, .int v6)]) (S' := [.ref v2, .int (21 + v5), .ref x1]) rfl ?_
    refine zco_gr fl_7_149 rfl (zdk (cc := cX7_gatherFacts) (q := (194, .getfield 149, 3)) tkX7_gatherFacts 110 rfl) (fun x2 => ?_)
    refine zco_p tkX7_gatherFacts 111 2 (pc' := 201) (L' := [(0, .ref v0), (1, .ref v1), (2, .ref v2), (4, .int v4), (5, .int v5), (6, .int v6)]) (S' := [.int v6, .int v4, .ref x2, .int (21 + v5), .ref x1]) rfl ?_
    refine zco_Ni (rc := 0) (rs := 0) (mc := 0) (ms := 0) (As := [.int v4, .int v6]) (S := [.ref x2, .int (21 + v5), .ref x1]) vmX11_cell (mtX11_cell l e (by omega) v4 v6) (host := "ClothWedding") (by decide +kernel) rfl rfl (Nat.le_of_ble_eq_true rfl) (zdk (cc := cX7_gatherFacts) (q := (201, .invokestatic 146, 3)) tkX7_gatherFacts 113 rfl) (fun y3 => ?_)
    refine zco_iaload (zdk (cc := cX7_gatherFacts) (q := (204, .iaload, 1)) tkX7_gatherFacts 114 rfl) (fun x4 => ?_)
    exact zco_sub [0, 1, 2, 3, 4] rfl (coX7_gatherFacts_J205 l e he v0 v1 v2 v4 v5 r125 hr125 x4 (21 + v5) x1)
  · refine zco_p tkX7_gatherFacts 107 2 (pc' := 205) (L' := [(0, .ref v0), (1, .ref v1), (2, .ref v2), (4, .int v4), (5, .int v5), (6, .int v6)]) (S' := [.int 0, .int (21 + v5), .ref x1]) rfl ?_
    exact zco_sub [0, 1, 2, 3, 4] rfl (coX7_gatherFacts_J205 l e he v0 v1 v2 v4 v5 r125 hr125 0 (21 + v5) x1)
set_option maxHeartbeats 2000000 in
set_option maxRecDepth 20000 in
theorem coX7_gatherFacts_B125 (l : Launch) (e : Nat) (he : 3 ≤ e) (v0 : Nat) (v1 : Nat) (v2 : Nat) (v4 : Int32) (r125 : Int32 → zM) (hr125 : ∀ x : Int32, zCo l (e + 1) 0 0 iX7_gatherFacts 125 [(0, .ref v0), (1, .ref v1), (2, .ref v2), (4, .int v4), (5, .int x)] [] (r125 x)) (v5 : Int32) : zCo l (e + 1) 0 0 iX7_gatherFacts 125 [(0, .ref v0), (1, .ref v1), (2, .ref v2), (4, .int v4), (5, .int v5)] [] (X7_gatherFacts_B125 v0 v1 v2 v4 r125 v5) := by
  unfold X7_gatherFacts_B125
  refine zco_p tkX7_gatherFacts 74 2 (pc' := 129) (L' := [(0, .ref v0), (1, .ref v1), (2, .ref v2), (4, .int v4), (5, .int v5)]) (S' := [.int 12, .int v5]) rfl ?_
  refine zco_icmp_ge (tgt := 212) (zdk (cc := cX7_gatherFacts) (q := (129, .if_icmp .ge 83, 3)) tkX7_gatherFacts 76 rfl) rfl ?_ ?_
  · exact zco_vret rfl rfl rfl (zdk (cc := cX7_gatherFacts) (q := (212, .return_, 1)) tkX7_gatherFacts 118 rfl)
  · refine zco_p tkX7_gatherFacts 77 3 (pc' := 137) (L' := [(0, .ref v0), (1, .ref v1), (2, .ref v2), (4, .int v4), (5, .int v5)]) (S' := [.int v5, .int v4, .ref v1]) rfl ?_
    refine zco_Vi (rc := 0) (rs := 0) (mc := 0) (ms := 0) (As := [.int v4, .int v5]) (S := []) vmX1_across (mtX1_across l e (by omega) v1 v4 v5) q_1315 rfl rfl (Nat.le_of_ble_eq_true rfl) (zdk (cc := cX7_gatherFacts) (q := (137, .invokevirtual 139, 3)) tkX7_gatherFacts 80 rfl) (fun y1 => ?_)
    refine zco_p tkX7_gatherFacts 81 2 (pc' := 143) (L' := [(6, .int y1), (0, .ref v0), (1, .ref v1), (2, .ref v2), (4, .int v4), (5, .int v5)]) (S' := [.ref v0]) rfl ?_
    refine zco_gr fl_7_18 rfl (zdk (cc := cX7_gatherFacts) (q := (143, .getfield 18, 3)) tkX7_gatherFacts 83 rfl) (fun x2 => ?_)
    refine zco_p tkX7_gatherFacts 84 5 (pc' := 154) (L' := [(6, .int y1), (0, .ref v0), (1, .ref v1), (2, .ref v2), (4, .int v4), (5, .int v5)]) (S' := [.int ((-1)), .int y1, .int (9 + v5), .ref x2]) rfl ?_
    refine zco_icmp_ne (tgt := 161) (zdk (cc := cX7_gatherFacts) (q := (154, .if_icmp .ne 7, 3)) tkX7_gatherFacts 89 rfl) rfl ?_ ?_
    · refine zco_p tkX7_gatherFacts 92 1 (pc' := 162) (L' := [(6, .int y1), (0, .ref v0), (1, .ref v1), (2, .ref v2), (4, .int v4), (5, .int v5)]) (S' := [.ref v2, .int (9 + v5), .ref x2]) rfl ?_
      refine zco_gr fl_7_143 rfl (zdk (cc := cX7_gatherFacts) (q := (162, .getfield 143, 3)) tkX7_gatherFacts 93 rfl) (fun x3 => ?_)
      refine zco_p tkX7_gatherFacts 94 2 (pc' := 169) (L' := [(6, .int y1), (0, .ref v0), (1, .ref v1), (2, .ref v2), (4, .int v4), (5, .int v5)]) (S' := [.int y1, .int v4, .ref x3, .int (9 + v5), .ref x2]) rfl ?_
      refine zco_Ni (rc := 0) (rs := 0) (mc := 0) (ms := 0) (As := [.int v4, .int y1]) (S := [.ref x3, .int (9 + v5), .ref x2]) vmX11_cell (mtX11_cell l e (by omega) v4 y1) (host := "ClothWedding") (by decide +kernel) rfl rfl (Nat.le_of_ble_eq_true rfl) (zdk (cc := cX7_gatherFacts) (q := (169, .invokestatic 146, 3)) tkX7_gatherFacts 96 rfl) (fun y4 => ?_)
      refine zco_iaload (zdk (cc := cX7_gatherFacts) (q := (172, .iaload, 1)) tkX7_gatherFacts 97 rfl) (fun x5 => ?_)
      exact zco_sub [1, 2, 3, 4, 5, 0] rfl (coX7_gatherFacts_J173 l e he v0 v1 v2 v4 v5 y1 r125 hr125 x5 (9 + v5) x2)
    · refine zco_p tkX7_gatherFacts 90 2 (pc' := 173) (L' := [(6, .int y1), (0, .ref v0), (1, .ref v1), (2, .ref v2), (4, .int v4), (5, .int v5)]) (S' := [.int 0, .int (9 + v5), .ref x2]) rfl ?_
      exact zco_sub [1, 2, 3, 4, 5, 0] rfl (coX7_gatherFacts_J173 l e he v0 v1 v2 v4 v5 y1 r125 hr125 0 (9 + v5) x2)
set_option maxHeartbeats 2000000 in
set_option maxRecDepth 20000 in
theorem coX7_gatherFacts_J99 (l : Launch) (e : Nat) (he : 3 ≤ e) (v0 : Nat) (v1 : Nat) (v2 : Nat) (v4 : Int32) (s0 : Int32) (s1 : Int32) (s2 : Nat) : zCo l (e + 1) 0 0 iX7_gatherFacts 99 [(0, .ref v0), (1, .ref v1), (2, .ref v2), (4, .int v4)] [.int s0, .int s1, .ref s2] (X7_gatherFacts_J99 v0 v1 v2 v4 s0 s1 s2) := by
  unfold X7_gatherFacts_J99
  refine zco_iastore (zdk (cc := cX7_gatherFacts) (q := (99, .iastore, 1)) tkX7_gatherFacts 59 rfl) ?_
  refine zco_p tkX7_gatherFacts 60 1 (pc' := 101) (L' := [(0, .ref v0), (1, .ref v1), (2, .ref v2), (4, .int v4)]) (S' := [.ref v0]) rfl ?_
  refine zco_gr fl_7_18 rfl (zdk (cc := cX7_gatherFacts) (q := (101, .getfield 18, 3)) tkX7_gatherFacts 61 rfl) (fun x1 => ?_)
  refine zco_p tkX7_gatherFacts 62 2 (pc' := 107) (L' := [(0, .ref v0), (1, .ref v1), (2, .ref v2), (4, .int v4)]) (S' := [.ref v2, .int 7, .ref x1]) rfl ?_
  refine zco_gi fl_7_133 rfl (zdk (cc := cX7_gatherFacts) (q := (107, .getfield 133, 3)) tkX7_gatherFacts 64 rfl) (fun x2 => ?_)
  refine zco_iastore (zdk (cc := cX7_gatherFacts) (q := (110, .iastore, 1)) tkX7_gatherFacts 65 rfl) ?_
  refine zco_p tkX7_gatherFacts 66 1 (pc' := 112) (L' := [(0, .ref v0), (1, .ref v1), (2, .ref v2), (4, .int v4)]) (S' := [.ref v0]) rfl ?_
  refine zco_gr fl_7_18 rfl (zdk (cc := cX7_gatherFacts) (q := (112, .getfield 18, 3)) tkX7_gatherFacts 67 rfl) (fun x3 => ?_)
  refine zco_p tkX7_gatherFacts 68 2 (pc' := 118) (L' := [(0, .ref v0), (1, .ref v1), (2, .ref v2), (4, .int v4)]) (S' := [.ref v2, .int 8, .ref x3]) rfl ?_
  refine zco_gi fl_7_136 rfl (zdk (cc := cX7_gatherFacts) (q := (118, .getfield 136, 3)) tkX7_gatherFacts 70 rfl) (fun x4 => ?_)
  refine zco_iastore (zdk (cc := cX7_gatherFacts) (q := (121, .iastore, 1)) tkX7_gatherFacts 71 rfl) ?_
  refine zco_p tkX7_gatherFacts 72 2 (pc' := 125) (L' := [(5, .int 0), (0, .ref v0), (1, .ref v1), (2, .ref v2), (4, .int v4)]) (S' := []) rfl ?_
  exact zco_sub [1, 2, 3, 4, 0] rfl (zco_fix (Lf := fun x : Int32 => [(0, .ref v0), (1, .ref v1), (2, .ref v2), (4, .int v4), (5, .int x)]) (Sf := fun _ => []) (fun r hr x => coX7_gatherFacts_B125 l e he v0 v1 v2 v4 r hr x) zFU 0)
set_option maxHeartbeats 2000000 in
set_option maxRecDepth 20000 in
theorem coX7_gatherFacts (l : Launch) (e : Nat) (he : 3 ≤ e) (v0 : Nat) (v1 : Nat) (v2 : Nat) (v3 : Int32) : zCo l (e + 1) 0 0 iX7_gatherFacts 0 [(0, .ref v0), (1, .ref v1), (2, .ref v2), (3, .int v3)] [] (X7_gatherFacts v0 v1 v2 v3) := by
  unfold X7_gatherFacts
  refine zco_p tkX7_gatherFacts 0 2 (pc' := 2) (L' := [(0, .ref v0), (1, .ref v1), (2, .ref v2), (3, .int v3)]) (S' := [.int v3, .ref v1]) rfl ?_
  refine zco_Vi (rc := 0) (rs := 0) (mc := 0) (ms := 0) (As := [.int v3]) (S := []) vmX1_slot (mtX1_slot l e (by omega) v1 v3) q_1313 rfl rfl (Nat.le_of_ble_eq_true rfl) (zdk (cc := cX7_gatherFacts) (q := (2, .invokevirtual 109, 3)) tkX7_gatherFacts 2 rfl) (fun y1 => ?_)
  refine zco_p tkX7_gatherFacts 3 2 (pc' := 8) (L' := [(4, .int y1), (0, .ref v0), (1, .ref v1), (2, .ref v2), (3, .int v3)]) (S' := [.ref v0]) rfl ?_
  refine zco_gr fl_7_18 rfl (zdk (cc := cX7_gatherFacts) (q := (8, .getfield 18, 3)) tkX7_gatherFacts 5 rfl) (fun x2 => ?_)
  refine zco_p tkX7_gatherFacts 6 2 (pc' := 13) (L' := [(4, .int y1), (0, .ref v0), (1, .ref v1), (2, .ref v2), (3, .int v3)]) (S' := [.int v3, .int 0, .ref x2]) rfl ?_
  refine zco_iastore (zdk (cc := cX7_gatherFacts) (q := (13, .iastore, 1)) tkX7_gatherFacts 8 rfl) ?_
  refine zco_p tkX7_gatherFacts 9 1 (pc' := 15) (L' := [(4, .int y1), (0, .ref v0), (1, .ref v1), (2, .ref v2), (3, .int v3)]) (S' := [.ref v0]) rfl ?_
  refine zco_gr fl_7_18 rfl (zdk (cc := cX7_gatherFacts) (q := (15, .getfield 18, 3)) tkX7_gatherFacts 10 rfl) (fun x3 => ?_)
  refine zco_p tkX7_gatherFacts 11 2 (pc' := 21) (L' := [(4, .int y1), (0, .ref v0), (1, .ref v1), (2, .ref v2), (3, .int v3)]) (S' := [.int y1, .int 1, .ref x3]) rfl ?_
  refine zco_Ni (rc := 0) (rs := 0) (mc := 0) (ms := 0) (As := [.int y1]) (S := [.int 1, .ref x3]) vmX11_sideOf (mtX11_sideOf l e (by omega) y1) (host := "ClothWedding") (by decide +kernel) rfl rfl (Nat.le_of_ble_eq_true rfl) (zdk (cc := cX7_gatherFacts) (q := (21, .invokestatic 113, 3)) tkX7_gatherFacts 13 rfl) (fun y4 => ?_)
  refine zco_iastore (zdk (cc := cX7_gatherFacts) (q := (24, .iastore, 1)) tkX7_gatherFacts 14 rfl) ?_
  refine zco_p tkX7_gatherFacts 15 1 (pc' := 26) (L' := [(4, .int y1), (0, .ref v0), (1, .ref v1), (2, .ref v2), (3, .int v3)]) (S' := [.ref v0]) rfl ?_
  refine zco_gr fl_7_18 rfl (zdk (cc := cX7_gatherFacts) (q := (26, .getfield 18, 3)) tkX7_gatherFacts 16 rfl) (fun x5 => ?_)
  refine zco_p tkX7_gatherFacts 17 2 (pc' := 31) (L' := [(4, .int y1), (0, .ref v0), (1, .ref v1), (2, .ref v2), (3, .int v3)]) (S' := [.ref v1, .int 2, .ref x5]) rfl ?_
  refine zco_gr fl_7_116 rfl (zdk (cc := cX7_gatherFacts) (q := (31, .getfield 116, 3)) tkX7_gatherFacts 19 rfl) (fun x6 => ?_)
  refine zco_p tkX7_gatherFacts 20 1 (pc' := 36) (L' := [(4, .int y1), (0, .ref v0), (1, .ref v1), (2, .ref v2), (3, .int v3)]) (S' := [.int y1, .ref x6, .int 2, .ref x5]) rfl ?_
  refine zco_iaload (zdk (cc := cX7_gatherFacts) (q := (36, .iaload, 1)) tkX7_gatherFacts 21 rfl) (fun x7 => ?_)
  refine zco_iastore (zdk (cc := cX7_gatherFacts) (q := (37, .iastore, 1)) tkX7_gatherFacts 22 rfl) ?_
  refine zco_p tkX7_gatherFacts 23 1 (pc' := 39) (L' := [(4, .int y1), (0, .ref v0), (1, .ref v1), (2, .ref v2), (3, .int v3)]) (S' := [.ref v0]) rfl ?_
  refine zco_gr fl_7_18 rfl (zdk (cc := cX7_gatherFacts) (q := (39, .getfield 18, 3)) tkX7_gatherFacts 24 rfl) (fun x8 => ?_)
  refine zco_p tkX7_gatherFacts 25 2 (pc' := 44) (L' := [(4, .int y1), (0, .ref v0), (1, .ref v1), (2, .ref v2), (3, .int v3)]) (S' := [.ref v1, .int 3, .ref x8]) rfl ?_
  refine zco_gr fl_7_119 rfl (zdk (cc := cX7_gatherFacts) (q := (44, .getfield 119, 3)) tkX7_gatherFacts 27 rfl) (fun x9 => ?_)
  refine zco_p tkX7_gatherFacts 28 1 (pc' := 49) (L' := [(4, .int y1), (0, .ref v0), (1, .ref v1), (2, .ref v2), (3, .int v3)]) (S' := [.int y1, .ref x9, .int 3, .ref x8]) rfl ?_
  refine zco_iaload (zdk (cc := cX7_gatherFacts) (q := (49, .iaload, 1)) tkX7_gatherFacts 29 rfl) (fun x10 => ?_)
  refine zco_iastore (zdk (cc := cX7_gatherFacts) (q := (50, .iastore, 1)) tkX7_gatherFacts 30 rfl) ?_
  refine zco_p tkX7_gatherFacts 31 1 (pc' := 52) (L' := [(4, .int y1), (0, .ref v0), (1, .ref v1), (2, .ref v2), (3, .int v3)]) (S' := [.ref v0]) rfl ?_
  refine zco_gr fl_7_18 rfl (zdk (cc := cX7_gatherFacts) (q := (52, .getfield 18, 3)) tkX7_gatherFacts 32 rfl) (fun x11 => ?_)
  refine zco_p tkX7_gatherFacts 33 2 (pc' := 57) (L' := [(4, .int y1), (0, .ref v0), (1, .ref v1), (2, .ref v2), (3, .int v3)]) (S' := [.ref v1, .int 4, .ref x11]) rfl ?_
  refine zco_gr fl_7_122 rfl (zdk (cc := cX7_gatherFacts) (q := (57, .getfield 122, 3)) tkX7_gatherFacts 35 rfl) (fun x12 => ?_)
  refine zco_p tkX7_gatherFacts 36 1 (pc' := 62) (L' := [(4, .int y1), (0, .ref v0), (1, .ref v1), (2, .ref v2), (3, .int v3)]) (S' := [.int y1, .ref x12, .int 4, .ref x11]) rfl ?_
  refine zco_iaload (zdk (cc := cX7_gatherFacts) (q := (62, .iaload, 1)) tkX7_gatherFacts 37 rfl) (fun x13 => ?_)
  refine zco_iastore (zdk (cc := cX7_gatherFacts) (q := (63, .iastore, 1)) tkX7_gatherFacts 38 rfl) ?_
  refine zco_p tkX7_gatherFacts 39 1 (pc' := 65) (L' := [(4, .int y1), (0, .ref v0), (1, .ref v1), (2, .ref v2), (3, .int v3)]) (S' := [.ref v0]) rfl ?_
  refine zco_gr fl_7_18 rfl (zdk (cc := cX7_gatherFacts) (q := (65, .getfield 18, 3)) tkX7_gatherFacts 40 rfl) (fun x14 => ?_)
  refine zco_p tkX7_gatherFacts 41 2 (pc' := 70) (L' := [(4, .int y1), (0, .ref v0), (1, .ref v1), (2, .ref v2), (3, .int v3)]) (S' := [.ref v2, .int 5, .ref x14]) rfl ?_
  refine zco_gr fl_7_125 rfl (zdk (cc := cX7_gatherFacts) (q := (70, .getfield 125, 3)) tkX7_gatherFacts 43 rfl) (fun x15 => ?_)
  refine zco_p tkX7_gatherFacts 44 1 (pc' := 75) (L' := [(4, .int y1), (0, .ref v0), (1, .ref v1), (2, .ref v2), (3, .int v3)]) (S' := [.int y1, .ref x15, .int 5, .ref x14]) rfl ?_
  refine zco_iaload (zdk (cc := cX7_gatherFacts) (q := (75, .iaload, 1)) tkX7_gatherFacts 45 rfl) (fun x16 => ?_)
  refine zco_iastore (zdk (cc := cX7_gatherFacts) (q := (76, .iastore, 1)) tkX7_gatherFacts 46 rfl) ?_
  refine zco_p tkX7_gatherFacts 47 1 (pc' := 78) (L' := [(4, .int y1), (0, .ref v0), (1, .ref v1), (2, .ref v2), (3, .int v3)]) (S' := [.ref v0]) rfl ?_
  refine zco_gr fl_7_18 rfl (zdk (cc := cX7_gatherFacts) (q := (78, .getfield 18, 3)) tkX7_gatherFacts 48 rfl) (fun x17 => ?_)
  refine zco_p tkX7_gatherFacts 49 2 (pc' := 84) (L' := [(4, .int y1), (0, .ref v0), (1, .ref v1), (2, .ref v2), (3, .int v3)]) (S' := [.ref v2, .int 6, .ref x17]) rfl ?_
  refine zco_gr fl_7_130 rfl (zdk (cc := cX7_gatherFacts) (q := (84, .getfield 130, 3)) tkX7_gatherFacts 51 rfl) (fun x18 => ?_)
  refine zco_p tkX7_gatherFacts 52 1 (pc' := 89) (L' := [(4, .int y1), (0, .ref v0), (1, .ref v1), (2, .ref v2), (3, .int v3)]) (S' := [.int y1, .ref x18, .int 6, .ref x17]) rfl ?_
  refine zco_iaload (zdk (cc := cX7_gatherFacts) (q := (89, .iaload, 1)) tkX7_gatherFacts 53 rfl) (fun x19 => ?_)
  refine zco_p tkX7_gatherFacts 54 1 (pc' := 91) (L' := [(4, .int y1), (0, .ref v0), (1, .ref v1), (2, .ref v2), (3, .int v3)]) (S' := [.int ((-1)), .int x19, .int 6, .ref x17]) rfl ?_
  refine zco_icmp_eq (tgt := 98) (zdk (cc := cX7_gatherFacts) (q := (91, .if_icmp .eq 7, 3)) tkX7_gatherFacts 55 rfl) rfl ?_ ?_
  · refine zco_p tkX7_gatherFacts 58 1 (pc' := 99) (L' := [(4, .int y1), (0, .ref v0), (1, .ref v1), (2, .ref v2), (3, .int v3)]) (S' := [.int 0, .int 6, .ref x17]) rfl ?_
    exact zco_sub [1, 2, 3, 0] rfl (coX7_gatherFacts_J99 l e he v0 v1 v2 y1 0 6 x17)
  · refine zco_p tkX7_gatherFacts 56 2 (pc' := 99) (L' := [(4, .int y1), (0, .ref v0), (1, .ref v1), (2, .ref v2), (3, .int v3)]) (S' := [.int 1, .int 6, .ref x17]) rfl ?_
    exact zco_sub [1, 2, 3, 0] rfl (coX7_gatherFacts_J99 l e he v0 v1 v2 y1 1 6 x17)
theorem mtX7_gatherFacts (l : Launch) (d : Nat) (hd : 4 ≤ d) (v0 : Nat) (v1 : Nat) (v2 : Nat) (v3 : Int32) : zMet l d 0 0 yX7_gatherFacts cX7_gatherFacts 7 (Option.none : Option FieldType) [.ref v0, .ref v1, .ref v2, .int v3] (X7_gatherFacts v0 v1 v2 v3) := by
  obtain ⟨e, rfl⟩ : ∃ e, d = e + 1 := ⟨d - 1, by omega⟩
  exact zmet_of (own := RX7) (ini := false) (by decide +kernel) rfl (fun _ => by contradiction) (Nat.le_of_ble_eq_true rfl) (coX7_gatherFacts l e (by omega) v0 v1 v2 v3)
abbrev iX7_joined : zI := (RX7, cX7_joined, 5, (Option.some .long), false)
def tX7_joined : List (Nat × Instr × Nat) := [(0, .aload_n 0, 1), (1, .getfield 22, 3), (4, .tableswitch 92 0 4 #[36, 56, 68, 68, 74], 36), (40, .lload_n 1, 1), (41, .ldc2_w 81, 3), (44, .lcmp, 1), (45, .ifCond .ne 13, 3), (48, .iload 4, 2), (50, .ifCond .eq 8, 3), (53, .iload_n 3, 1), (54, .i2l, 1), (55, .goto 4, 3), (58, .lload_n 1, 1), (59, .lreturn, 1), (60, .iload 4, 2), (62, .ifCond .eq 8, 3), (65, .iload_n 3, 1), (66, .i2l, 1), (67, .goto 4, 3), (70, .lload_n 1, 1), (71, .lreturn, 1), (72, .lload_n 1, 1), (73, .iload 4, 2), (75, .i2l, 1), (76, .ladd, 1), (77, .lreturn, 1), (78, .iload_n 3, 1), (79, .ifCond .ne 9, 3), (82, .iload 4, 2), (84, .i2l, 1), (85, .goto 10, 3), (88, .lload_n 1, 1), (89, .iload 4, 2), (91, .i2l, 1), (92, .invokestatic 100, 3), (95, .lreturn, 1), (96, .iload_n 3, 1), (97, .ifCond .ne 9, 3), (100, .iload 4, 2), (102, .i2l, 1), (103, .goto 10, 3), (106, .lload_n 1, 1), (107, .iload 4, 2), (109, .i2l, 1), (110, .invokestatic 106, 3), (113, .lreturn, 1)]
set_option maxRecDepth 100000 in
theorem tkX7_joined : ∀ q ∈ tX7_joined, decode cX7_joined q.1 = .ok q.2 := by decide +kernel
theorem vmX7_joined : zVM yX7_joined cX7_joined 5 (Option.some .long) 3 7 := ⟨kX7_joined, q_1320, q_42, q_151, ⟨_, rfl, rfl⟩, by decide +kernel, by decide⟩
set_option maxHeartbeats 2000000 in
set_option maxRecDepth 20000 in
theorem coX7_joined (l : Launch) (e : Nat) (he : 0 ≤ e) (v0 : Nat) (v1 : Int64) (v3 : Int32) (v4 : Int32) : zCo l (e + 1) 0 0 iX7_joined 0 [(0, .ref v0), (1, .long v1), (3, .int v3), (4, .int v4)] [] (X7_joined v0 v1 v3 v4) := by
  unfold X7_joined
  refine zco_p tkX7_joined 0 1 (pc' := 1) (L' := [(0, .ref v0), (1, .long v1), (3, .int v3), (4, .int v4)]) (S' := [.ref v0]) rfl ?_
  refine zco_gi fl_7_22 rfl (zdk (cc := cX7_joined) (q := (1, .getfield 22, 3)) tkX7_joined 1 rfl) (fun x1 => ?_)
  refine @zco_tab l (e + 1) 0 0 iX7_joined 4 [(0, .ref v0), (1, .long v1), (3, .int v3), (4, .int v4)] [] _ x1 92 0 4 #[36, 56, 68, 68, 74] 36 (zdk (cc := cX7_joined) (q := (4, .tableswitch 92 0 4 #[36, 56, 68, 68, 74], 36)) tkX7_joined 2 rfl) 96 rfl [40, 60, 72, 72, 78] (X7_joined_S4 v1 v4 v3) (by decide) (by decide) ?_ (fun j t ht => ?_)
  · refine zco_p tkX7_joined 36 1 (pc' := 97) (L' := [(0, .ref v0), (1, .long v1), (3, .int v3), (4, .int v4)]) (S' := [.int v3]) rfl ?_
    refine zco_if_ne (tgt := 106) (zdk (cc := cX7_joined) (q := (97, .ifCond .ne 9, 3)) tkX7_joined 37 rfl) rfl ?_ ?_
    · refine zco_p tkX7_joined 41 3 (pc' := 110) (L' := [(0, .ref v0), (1, .long v1), (3, .int v3), (4, .int v4)]) (S' := [.long v4.toInt64, .long v1]) rfl ?_
      refine zco_lmin (by omega) q_1325 q_1326 q_168 q_lmin (Nat.le_of_ble_eq_true rfl) (zdk (cc := cX7_joined) (q := (110, .invokestatic 106, 3)) tkX7_joined 44 rfl) ?_
      exact zco_lret rfl rfl rfl (zdk (cc := cX7_joined) (q := (113, .lreturn, 1)) tkX7_joined 45 rfl)
    · refine zco_p tkX7_joined 38 3 (pc' := 113) (L' := [(0, .ref v0), (1, .long v1), (3, .int v3), (4, .int v4)]) (S' := [.long v4.toInt64]) rfl ?_
      exact zco_lret rfl rfl rfl (zdk (cc := cX7_joined) (q := (113, .lreturn, 1)) tkX7_joined 45 rfl)
  · match j, ht with
    | 0, ht =>
      cases ht
      show zCo l (e + 1) 0 0 iX7_joined 40 [(0, .ref v0), (1, .long v1), (3, .int v3), (4, .int v4)] [] (z_if (v1 = (-1)) (z_if (v4 = 0) (z_ret (some (.long v1)))  (z_ret (some (.long v3.toInt64))))  (z_ret (some (.long v1))))
      refine zco_p tkX7_joined 3 1 (pc' := 41) (L' := [(0, .ref v0), (1, .long v1), (3, .int v3), (4, .int v4)]) (S' := [.long v1]) rfl ?_
      refine zco_ldc2 q_1307 (zdk (cc := cX7_joined) (q := (41, .ldc2_w 81, 3)) tkX7_joined 4 rfl) ?_
      refine zco_lcmp_ne (tgt := 58) (zdk (cc := cX7_joined) (q := (44, .lcmp, 1)) tkX7_joined 5 rfl) (zdk (cc := cX7_joined) (q := (45, .ifCond .ne 13, 3)) tkX7_joined 6 rfl) rfl ?_ ?_
      · refine zco_p tkX7_joined 12 1 (pc' := 59) (L' := [(0, .ref v0), (1, .long v1), (3, .int v3), (4, .int v4)]) (S' := [.long v1]) rfl ?_
        exact zco_lret rfl rfl rfl (zdk (cc := cX7_joined) (q := (59, .lreturn, 1)) tkX7_joined 13 rfl)
      · refine zco_p tkX7_joined 7 1 (pc' := 50) (L' := [(0, .ref v0), (1, .long v1), (3, .int v3), (4, .int v4)]) (S' := [.int v4]) rfl ?_
        refine zco_if_eq (tgt := 58) (zdk (cc := cX7_joined) (q := (50, .ifCond .eq 8, 3)) tkX7_joined 8 rfl) rfl ?_ ?_
        · refine zco_p tkX7_joined 12 1 (pc' := 59) (L' := [(0, .ref v0), (1, .long v1), (3, .int v3), (4, .int v4)]) (S' := [.long v1]) rfl ?_
          exact zco_lret rfl rfl rfl (zdk (cc := cX7_joined) (q := (59, .lreturn, 1)) tkX7_joined 13 rfl)
        · refine zco_p tkX7_joined 9 3 (pc' := 59) (L' := [(0, .ref v0), (1, .long v1), (3, .int v3), (4, .int v4)]) (S' := [.long v3.toInt64]) rfl ?_
          exact zco_lret rfl rfl rfl (zdk (cc := cX7_joined) (q := (59, .lreturn, 1)) tkX7_joined 13 rfl)
    | 1, ht =>
      cases ht
      show zCo l (e + 1) 0 0 iX7_joined 60 [(0, .ref v0), (1, .long v1), (3, .int v3), (4, .int v4)] [] (z_if (v4 = 0) (z_ret (some (.long v1)))  (z_ret (some (.long v3.toInt64))))
      refine zco_p tkX7_joined 14 1 (pc' := 62) (L' := [(0, .ref v0), (1, .long v1), (3, .int v3), (4, .int v4)]) (S' := [.int v4]) rfl ?_
      refine zco_if_eq (tgt := 70) (zdk (cc := cX7_joined) (q := (62, .ifCond .eq 8, 3)) tkX7_joined 15 rfl) rfl ?_ ?_
      · refine zco_p tkX7_joined 19 1 (pc' := 71) (L' := [(0, .ref v0), (1, .long v1), (3, .int v3), (4, .int v4)]) (S' := [.long v1]) rfl ?_
        exact zco_lret rfl rfl rfl (zdk (cc := cX7_joined) (q := (71, .lreturn, 1)) tkX7_joined 20 rfl)
      · refine zco_p tkX7_joined 16 3 (pc' := 71) (L' := [(0, .ref v0), (1, .long v1), (3, .int v3), (4, .int v4)]) (S' := [.long v3.toInt64]) rfl ?_
        exact zco_lret rfl rfl rfl (zdk (cc := cX7_joined) (q := (71, .lreturn, 1)) tkX7_joined 20 rfl)
    | 2, ht =>
      cases ht
      show zCo l (e + 1) 0 0 iX7_joined 72 [(0, .ref v0), (1, .long v1), (3, .int v3), (4, .int v4)] [] (z_ret (some (.long (v1 + v4.toInt64))))
      refine zco_p tkX7_joined 21 4 (pc' := 77) (L' := [(0, .ref v0), (1, .long v1), (3, .int v3), (4, .int v4)]) (S' := [.long (v1 + v4.toInt64)]) rfl ?_
      exact zco_lret rfl rfl rfl (zdk (cc := cX7_joined) (q := (77, .lreturn, 1)) tkX7_joined 25 rfl)
    | 3, ht =>
      cases ht
      show zCo l (e + 1) 0 0 iX7_joined 72 [(0, .ref v0), (1, .long v1), (3, .int v3), (4, .int v4)] [] (z_ret (some (.long (v1 + v4.toInt64))))
      refine zco_p tkX7_joined 21 4 (pc' := 77) (L' := [(0, .ref v0), (1, .long v1), (3, .int v3), (4, .int v4)]) (S' := [.long (v1 + v4.toInt64)]) rfl ?_
      exact zco_lret rfl rfl rfl (zdk (cc := cX7_joined) (q := (77, .lreturn, 1)) tkX7_joined 25 rfl)
    | 4, ht =>
      cases ht
      show zCo l (e + 1) 0 0 iX7_joined 78 [(0, .ref v0), (1, .long v1), (3, .int v3), (4, .int v4)] [] (z_if (v3 = 0) (z_ret (some (.long v4.toInt64)))  (z_ret (some (.long (if v4.toInt64 < v1 then v1 else v4.toInt64)))))
      refine zco_p tkX7_joined 26 1 (pc' := 79) (L' := [(0, .ref v0), (1, .long v1), (3, .int v3), (4, .int v4)]) (S' := [.int v3]) rfl ?_
      refine zco_if_ne (tgt := 88) (zdk (cc := cX7_joined) (q := (79, .ifCond .ne 9, 3)) tkX7_joined 27 rfl) rfl ?_ ?_
      · refine zco_p tkX7_joined 31 3 (pc' := 92) (L' := [(0, .ref v0), (1, .long v1), (3, .int v3), (4, .int v4)]) (S' := [.long v4.toInt64, .long v1]) rfl ?_
        refine zco_lmax (by omega) q_1322 q_1323 q_168 q_lmax (Nat.le_of_ble_eq_true rfl) (zdk (cc := cX7_joined) (q := (92, .invokestatic 100, 3)) tkX7_joined 34 rfl) ?_
        exact zco_lret rfl rfl rfl (zdk (cc := cX7_joined) (q := (95, .lreturn, 1)) tkX7_joined 35 rfl)
      · refine zco_p tkX7_joined 28 3 (pc' := 95) (L' := [(0, .ref v0), (1, .long v1), (3, .int v3), (4, .int v4)]) (S' := [.long v4.toInt64]) rfl ?_
        exact zco_lret rfl rfl rfl (zdk (cc := cX7_joined) (q := (95, .lreturn, 1)) tkX7_joined 35 rfl)
    | j + 5, ht => exact absurd ht (by simp)
theorem mtX7_joined (l : Launch) (d : Nat) (hd : 1 ≤ d) (v0 : Nat) (v1 : Int64) (v3 : Int32) (v4 : Int32) : zMet l d 0 0 yX7_joined cX7_joined 5 (Option.some .long) [.ref v0, .long v1, .int v3, .int v4] (X7_joined v0 v1 v3 v4) := by
  obtain ⟨e, rfl⟩ : ∃ e, d = e + 1 := ⟨d - 1, by omega⟩
  exact zmet_of (own := RX7) (ini := false) (by decide +kernel) rfl (fun _ => by contradiction) (Nat.le_of_ble_eq_true rfl) (coX7_joined l e (by omega) v0 v1 v3 v4)
abbrev iX7_answer : zI := (RX7, cX7_answer, 6, (Option.some .long), false)
def tX7_answer : List (Nat × Instr × Nat) := [(0, .aload_n 0, 1), (1, .getfield 22, 3), (4, .iconst 1, 1), (5, .if_icmp .gt 9, 3), (8, .ldc2_w 81, 3), (11, .goto 4, 3), (14, .lconst 0, 1), (15, .lstore_n 3, 1), (16, .iconst 0, 1), (17, .istore 5, 2), (19, .iload 5, 2), (21, .aload_n 1, 1), (22, .invokevirtual 83, 3), (25, .if_icmp .ge 37, 3), (28, .aload_n 0, 1), (29, .aload_n 1, 1), (30, .aload_n 2, 1), (31, .iload 5, 2), (33, .invokevirtual 88, 3), (36, .aload_n 0, 1), (37, .lload_n 3, 1), (38, .iload 5, 2), (40, .aload_n 0, 1), (41, .getfield 12, 3), (44, .iconst 0, 1), (45, .aload_n 0, 1), (46, .getfield 18, 3), (49, .invokevirtual 92, 3), (52, .invokevirtual 96, 3), (55, .lstore_n 3, 1), (56, .iinc 5 1, 3), (59, .goto (-40), 3), (62, .lload_n 3, 1), (63, .lreturn, 1)]
set_option maxRecDepth 100000 in
theorem tkX7_answer : ∀ q ∈ tX7_answer, decode cX7_answer q.1 = .ok q.2 := by decide +kernel
theorem vmX7_answer : zVM yX7_answer cX7_answer 6 (Option.some .long) 2 7 := ⟨kX7_answer, q_1304, q_1305, q_151, ⟨_, rfl, rfl⟩, by decide +kernel, by decide⟩
set_option maxHeartbeats 2000000 in
set_option maxRecDepth 20000 in
theorem coX7_answer_B19 (l : Launch) (e : Nat) (he : 4 ≤ e) (v0 : Nat) (v1 : Nat) (v2 : Nat) (r19 : Int64 × Int32 → zM) (hr19 : ∀ x : Int64 × Int32, zCo l (e + 1) 0 0 iX7_answer 19 [(0, .ref v0), (1, .ref v1), (2, .ref v2), (3, .long x.1), (5, .int x.2)] [] (r19 x)) (v3 : Int64) (v5 : Int32) : zCo l (e + 1) 0 0 iX7_answer 19 [(0, .ref v0), (1, .ref v1), (2, .ref v2), (3, .long v3), (5, .int v5)] [] (X7_answer_B19 v0 v1 v2 r19 v3 v5) := by
  unfold X7_answer_B19
  refine zco_p tkX7_answer 10 2 (pc' := 22) (L' := [(0, .ref v0), (1, .ref v1), (2, .ref v2), (3, .long v3), (5, .int v5)]) (S' := [.ref v1, .int v5]) rfl ?_
  refine zco_Vi (rc := 0) (rs := 0) (mc := 0) (ms := 0) (As := []) (S := [.int v5]) vmX1_people (mtX1_people l e (by omega) v1) q_1308 rfl rfl (Nat.le_of_ble_eq_true rfl) (zdk (cc := cX7_answer) (q := (22, .invokevirtual 83, 3)) tkX7_answer 12 rfl) (fun y1 => ?_)
  refine zco_icmp_ge (tgt := 62) (zdk (cc := cX7_answer) (q := (25, .if_icmp .ge 37, 3)) tkX7_answer 13 rfl) rfl ?_ ?_
  · refine zco_p tkX7_answer 32 1 (pc' := 63) (L' := [(0, .ref v0), (1, .ref v1), (2, .ref v2), (3, .long v3), (5, .int v5)]) (S' := [.long v3]) rfl ?_
    exact zco_lret rfl rfl rfl (zdk (cc := cX7_answer) (q := (63, .lreturn, 1)) tkX7_answer 33 rfl)
  · refine zco_p tkX7_answer 14 4 (pc' := 33) (L' := [(0, .ref v0), (1, .ref v1), (2, .ref v2), (3, .long v3), (5, .int v5)]) (S' := [.int v5, .ref v2, .ref v1, .ref v0]) rfl ?_
    refine zco_Vv (rc := 0) (rs := 0) (mc := 0) (ms := 0) (As := [.ref v1, .ref v2, .int v5]) (S := []) vmX7_gatherFacts (mtX7_gatherFacts l e (by omega) v0 v1 v2 v5) q_1309 rfl rfl (Nat.le_of_ble_eq_true rfl) (zdk (cc := cX7_answer) (q := (33, .invokevirtual 88, 3)) tkX7_answer 18 rfl) ?_
    refine zco_p tkX7_answer 19 4 (pc' := 41) (L' := [(0, .ref v0), (1, .ref v1), (2, .ref v2), (3, .long v3), (5, .int v5)]) (S' := [.ref v0, .int v5, .long v3, .ref v0]) rfl ?_
    refine zco_gr fl_7_12 rfl (zdk (cc := cX7_answer) (q := (41, .getfield 12, 3)) tkX7_answer 23 rfl) (fun x2 => ?_)
    refine zco_p tkX7_answer 24 2 (pc' := 46) (L' := [(0, .ref v0), (1, .ref v1), (2, .ref v2), (3, .long v3), (5, .int v5)]) (S' := [.ref v0, .int 0, .ref x2, .int v5, .long v3, .ref v0]) rfl ?_
    refine zco_gr fl_7_18 rfl (zdk (cc := cX7_answer) (q := (46, .getfield 18, 3)) tkX7_answer 26 rfl) (fun x3 => ?_)
    refine zco_Vi (rc := 0) (rs := 0) (mc := 0) (ms := 0) (As := [.int 0, .ref x3]) (S := [.int v5, .long v3, .ref v0]) vmX3_value (mtX3_value l e (by omega) x2 0 x3) q_1317 rfl rfl (Nat.le_of_ble_eq_true rfl) (zdk (cc := cX7_answer) (q := (49, .invokevirtual 92, 3)) tkX7_answer 27 rfl) (fun y4 => ?_)
    refine zco_Vl (rc := 0) (rs := 0) (mc := 0) (ms := 0) (As := [.long v3, .int v5, .int y4]) (S := []) vmX7_joined (mtX7_joined l e (by omega) v0 v3 v5 y4) q_1318 rfl rfl (Nat.le_of_ble_eq_true rfl) (zdk (cc := cX7_answer) (q := (52, .invokevirtual 96, 3)) tkX7_answer 28 rfl) (fun y5 => ?_)
    refine zco_p tkX7_answer 29 3 (pc' := 19) (L' := [(5, .int (v5 + 1)), (3, .long y5), (0, .ref v0), (1, .ref v1), (2, .ref v2)]) (S' := []) rfl ?_
    exact zco_sub [2, 3, 4, 1, 0] rfl (hr19 (y5, v5 + 1))
set_option maxHeartbeats 2000000 in
set_option maxRecDepth 20000 in
theorem coX7_answer_J15 (l : Launch) (e : Nat) (he : 4 ≤ e) (v0 : Nat) (v1 : Nat) (v2 : Nat) (s0 : Int64) : zCo l (e + 1) 0 0 iX7_answer 15 [(0, .ref v0), (1, .ref v1), (2, .ref v2)] [.long s0] (X7_answer_J15 v0 v1 v2 s0) := by
  unfold X7_answer_J15
  refine zco_p tkX7_answer 7 3 (pc' := 19) (L' := [(5, .int 0), (3, .long s0), (0, .ref v0), (1, .ref v1), (2, .ref v2)]) (S' := []) rfl ?_
  exact zco_sub [2, 3, 4, 1, 0] rfl (zco_fix (Lf := fun x : Int64 × Int32 => [(0, .ref v0), (1, .ref v1), (2, .ref v2), (3, .long x.1), (5, .int x.2)]) (Sf := fun _ => []) (fun r hr x => coX7_answer_B19 l e he v0 v1 v2 r hr x.1 x.2) zFU (s0, 0))
set_option maxHeartbeats 2000000 in
set_option maxRecDepth 20000 in
theorem coX7_answer (l : Launch) (e : Nat) (he : 4 ≤ e) (v0 : Nat) (v1 : Nat) (v2 : Nat) : zCo l (e + 1) 0 0 iX7_answer 0 [(0, .ref v0), (1, .ref v1), (2, .ref v2)] [] (X7_answer v0 v1 v2) := by
  unfold X7_answer
  refine zco_p tkX7_answer 0 1 (pc' := 1) (L' := [(0, .ref v0), (1, .ref v1), (2, .ref v2)]) (S' := [.ref v0]) rfl ?_
  refine zco_gi fl_7_22 rfl (zdk (cc := cX7_answer) (q := (1, .getfield 22, 3)) tkX7_answer 1 rfl) (fun x1 => ?_)
  refine zco_p tkX7_answer 2 1 (pc' := 5) (L' := [(0, .ref v0), (1, .ref v1), (2, .ref v2)]) (S' := [.int 1, .int x1]) rfl ?_
  refine zco_icmp_gt (tgt := 14) (zdk (cc := cX7_answer) (q := (5, .if_icmp .gt 9, 3)) tkX7_answer 3 rfl) rfl ?_ ?_
  · refine zco_p tkX7_answer 6 1 (pc' := 15) (L' := [(0, .ref v0), (1, .ref v1), (2, .ref v2)]) (S' := [.long 0]) rfl ?_
    exact zco_sub [0, 1, 2] rfl (coX7_answer_J15 l e he v0 v1 v2 0)
  · refine zco_ldc2 q_1307 (zdk (cc := cX7_answer) (q := (8, .ldc2_w 81, 3)) tkX7_answer 4 rfl) ?_
    refine zco_p tkX7_answer 5 1 (pc' := 15) (L' := [(0, .ref v0), (1, .ref v1), (2, .ref v2)]) (S' := [.long ((-1))]) rfl ?_
    exact zco_sub [0, 1, 2] rfl (coX7_answer_J15 l e he v0 v1 v2 ((-1)))
theorem mtX7_answer (l : Launch) (d : Nat) (hd : 5 ≤ d) (v0 : Nat) (v1 : Nat) (v2 : Nat) : zMet l d 0 0 yX7_answer cX7_answer 6 (Option.some .long) [.ref v0, .ref v1, .ref v2] (X7_answer v0 v1 v2) := by
  obtain ⟨e, rfl⟩ : ∃ e, d = e + 1 := ⟨d - 1, by omega⟩
  exact zmet_of (own := RX7) (ini := false) (by decide +kernel) rfl (fun _ => by contradiction) (Nat.le_of_ble_eq_true rfl) (coX7_answer l e (by omega) v0 v1 v2)
