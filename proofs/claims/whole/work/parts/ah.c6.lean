abbrev iX10_go : zI := (RX10, cX10_go, 8, (Option.some .int), false)
def tX10_go : List (Nat × Instr × Nat) := [(0, .aload_n 0, 1), (1, .aload_n 1, 1), (2, .invokevirtual 98, 3), (5, .iconst 0, 1), (6, .istore_n 3, 1), (7, .iconst 0, 1), (8, .istore 4, 2), (10, .iload 4, 2), (12, .bipush 6, 2), (14, .if_icmp .ge 169, 3), (17, .aload_n 0, 1), (18, .getfield 9, 3), (21, .iload 4, 2), (23, .iaload, 1), (24, .istore 5, 2), (26, .iload 5, 2), (28, .iconst (-1), 1), (29, .if_icmp .eq 148, 3), (32, .aload_n 0, 1), (33, .aload_n 1, 1), (34, .iload 4, 2), (36, .iload 5, 2), (38, .invokevirtual 102, 3), (41, .pop, 1), (42, .iload 4, 2), (44, .iload_n 2, 1), (45, .if_icmp .eq 14, 3), (48, .aload_n 0, 1), (49, .invokevirtual 106, 3), (52, .ifCond .ne 7, 3), (55, .iconst 1, 1), (56, .goto 4, 3), (59, .iconst 0, 1), (60, .istore 6, 2), (62, .aload_n 1, 1), (63, .getfield 61, 3), (66, .iload 4, 2), (68, .iload 5, 2), (70, .invokestatic 64, 3), (73, .aload_n 0, 1), (74, .invokevirtual 110, 3), (77, .iastore, 1), (78, .aload_n 0, 1), (79, .aload_n 1, 1), (80, .iload 5, 2), (82, .iload 4, 2), (84, .invokevirtual 102, 3), (87, .pop, 1), (88, .iload 5, 2), (90, .iload_n 2, 1), (91, .if_icmp .eq 14, 3), (94, .aload_n 0, 1), (95, .invokevirtual 106, 3), (98, .ifCond .ne 7, 3), (101, .iconst 1, 1), (102, .goto 4, 3), (105, .iconst 0, 1), (106, .istore 7, 2), (108, .aload_n 1, 1), (109, .getfield 61, 3), (112, .iload 5, 2), (114, .iload 4, 2), (116, .invokestatic 64, 3), (119, .aload_n 0, 1), (120, .invokevirtual 110, 3), (123, .iastore, 1), (124, .iload 6, 2), (126, .ifCond .eq 51, 3), (129, .iload 7, 2), (131, .ifCond .eq 46, 3), (134, .aload_n 0, 1), (135, .getfield 24, 3), (138, .iload 4, 2), (140, .iload 5, 2), (142, .invokevirtual 114, 3), (145, .ifCond .ne 32, 3), (148, .aload_n 1, 1), (149, .getfield 58, 3), (152, .iload 4, 2), (154, .iload 5, 2), (156, .iastore, 1), (157, .aload_n 1, 1), (158, .getfield 58, 3), (161, .iload 5, 2), (163, .iload 4, 2), (165, .iastore, 1), (166, .aload_n 0, 1), (167, .getfield 15, 3), (170, .iload_n 3, 1), (171, .iload 4, 2), (173, .iastore, 1), (174, .iinc 3 1, 3), (177, .iinc 4 1, 3), (180, .goto (-170), 3), (183, .aload_n 0, 1), (184, .aload_n 1, 1), (185, .invokevirtual 118, 3), (188, .iload_n 3, 1), (189, .ireturn, 1)]
set_option maxRecDepth 100000 in
theorem tkX10_go : ∀ q ∈ tX10_go, decode cX10_go q.1 = .ok q.2 := by decide +kernel
theorem vmX10_go : zVM yX10_go cX10_go 8 (Option.some .int) 2 10 := ⟨kX10_go, q_1051, q_1052, q_157, ⟨_, rfl, rfl⟩, by decide +kernel, by decide⟩
set_option maxHeartbeats 2000000 in
set_option maxRecDepth 20000 in
theorem coX10_go_J183 (l : Launch) (e : Nat) (he : 4 ≤ e) (v0 : Nat) (v1 : Nat) (v3 : Int32) : zCo l (e + 1) 0 0 iX10_go 183 [(0, .ref v0), (1, .ref v1), (3, .int v3)] [] (X10_go_J183 v0 v1 v3) := by
  unfold X10_go_J183
  refine zco_p tkX10_go 94 2 (pc' := 185) (L' := [(0, .ref v0), (1, .ref v1), (3, .int v3)]) (S' := [.ref v1, .ref v0]) rfl ?_
  refine zco_Vv (rc := 0) (rs := 0) (mc := 0) (ms := 0) (As := [.ref v1]) (S := []) vmX10_passTime (mtX10_passTime l e (by omega) v0 v1) q_1062 rfl rfl (Nat.le_of_ble_eq_true rfl) (zdk (cc := cX10_go) (q := (185, .invokevirtual 118, 3)) tkX10_go 96 rfl) ?_
  refine zco_p tkX10_go 97 1 (pc' := 189) (L' := [(0, .ref v0), (1, .ref v1), (3, .int v3)]) (S' := [.int v3]) rfl ?_
  exact zco_iret rfl rfl rfl (zdk (cc := cX10_go) (q := (189, .ireturn, 1)) tkX10_go 98 rfl)
set_option maxHeartbeats 2000000 in
set_option maxRecDepth 20000 in
theorem coX10_go_J177 (l : Launch) (e : Nat) (he : 4 ≤ e) (v0 : Nat) (v1 : Nat) (v2 : Int32) (v3 : Int32) (v4 : Int32) (r10 : Int32 × Int32 → zM) (hr10 : ∀ x : Int32 × Int32, zCo l (e + 1) 0 0 iX10_go 10 [(0, .ref v0), (1, .ref v1), (2, .int v2), (3, .int x.1), (4, .int x.2)] [] (r10 x)) : zCo l (e + 1) 0 0 iX10_go 177 [(0, .ref v0), (1, .ref v1), (2, .int v2), (3, .int v3), (4, .int v4)] [] (X10_go_J177 r10 v0 v1 v2 v3 v4) := by
  unfold X10_go_J177
  refine zco_p tkX10_go 92 2 (pc' := 10) (L' := [(4, .int (v4 + 1)), (0, .ref v0), (1, .ref v1), (2, .int v2), (3, .int v3)]) (S' := []) rfl ?_
  exact zco_sub [1, 2, 3, 4, 0] rfl (hr10 (v3, v4 + 1))
set_option maxHeartbeats 2000000 in
set_option maxRecDepth 20000 in
theorem coX10_go_J106 (l : Launch) (e : Nat) (he : 4 ≤ e) (v0 : Nat) (v1 : Nat) (v2 : Int32) (v3 : Int32) (v4 : Int32) (v5 : Int32) (v6 : Int32) (r10 : Int32 × Int32 → zM) (hr10 : ∀ x : Int32 × Int32, zCo l (e + 1) 0 0 iX10_go 10 [(0, .ref v0), (1, .ref v1), (2, .int v2), (3, .int x.1), (4, .int x.2)] [] (r10 x)) (s0 : Int32) : zCo l (e + 1) 0 0 iX10_go 106 [(0, .ref v0), (1, .ref v1), (2, .int v2), (3, .int v3), (4, .int v4), (5, .int v5), (6, .int v6)] [.int s0] (X10_go_J106 r10 v0 v1 v2 v3 v4 v5 v6 s0) := by
  unfold X10_go_J106
  refine zco_p tkX10_go 57 2 (pc' := 109) (L' := [(7, .int s0), (0, .ref v0), (1, .ref v1), (2, .int v2), (3, .int v3), (4, .int v4), (5, .int v5), (6, .int v6)]) (S' := [.ref v1]) rfl ?_
  refine zco_gr fl_10_61 rfl (zdk (cc := cX10_go) (q := (109, .getfield 61, 3)) tkX10_go 59 rfl) (fun x1 => ?_)
  refine zco_p tkX10_go 60 2 (pc' := 116) (L' := [(7, .int s0), (0, .ref v0), (1, .ref v1), (2, .int v2), (3, .int v3), (4, .int v4), (5, .int v5), (6, .int v6)]) (S' := [.int v4, .int v5, .ref x1]) rfl ?_
  refine zco_Ni (rc := 0) (rs := 0) (mc := 0) (ms := 0) (As := [.int v5, .int v4]) (S := [.ref x1]) vmX11_cell (mtX11_cell l e (by omega) v5 v4) (host := "ClothWedding") (by decide +kernel) rfl rfl (Nat.le_of_ble_eq_true rfl) (zdk (cc := cX10_go) (q := (116, .invokestatic 64, 3)) tkX10_go 62 rfl) (fun y2 => ?_)
  refine zco_p tkX10_go 63 1 (pc' := 120) (L' := [(7, .int s0), (0, .ref v0), (1, .ref v1), (2, .int v2), (3, .int v3), (4, .int v4), (5, .int v5), (6, .int v6)]) (S' := [.ref v0, .int y2, .ref x1]) rfl ?_
  refine zco_Vi (rc := 0) (rs := 0) (mc := 0) (ms := 0) (As := []) (S := [.int y2, .ref x1]) vmX10_learnt (mtX10_learnt l e (by omega) v0) q_1057 rfl rfl (Nat.le_of_ble_eq_true rfl) (zdk (cc := cX10_go) (q := (120, .invokevirtual 110, 3)) tkX10_go 64 rfl) (fun y3 => ?_)
  refine zco_iastore (zdk (cc := cX10_go) (q := (123, .iastore, 1)) tkX10_go 65 rfl) ?_
  refine zco_p tkX10_go 66 1 (pc' := 126) (L' := [(7, .int s0), (0, .ref v0), (1, .ref v1), (2, .int v2), (3, .int v3), (4, .int v4), (5, .int v5), (6, .int v6)]) (S' := [.int v6]) rfl ?_
  refine zco_if_eq (tgt := 177) (zdk (cc := cX10_go) (q := (126, .ifCond .eq 51, 3)) tkX10_go 67 rfl) rfl ?_ ?_
  · exact zco_sub [1, 2, 3, 4, 5] rfl (coX10_go_J177 l e he v0 v1 v2 v3 v4 r10 hr10)
  · refine zco_p tkX10_go 68 1 (pc' := 131) (L' := [(7, .int s0), (0, .ref v0), (1, .ref v1), (2, .int v2), (3, .int v3), (4, .int v4), (5, .int v5), (6, .int v6)]) (S' := [.int s0]) rfl ?_
    refine zco_if_eq (tgt := 177) (zdk (cc := cX10_go) (q := (131, .ifCond .eq 46, 3)) tkX10_go 69 rfl) rfl ?_ ?_
    · exact zco_sub [1, 2, 3, 4, 5] rfl (coX10_go_J177 l e he v0 v1 v2 v3 v4 r10 hr10)
    · refine zco_p tkX10_go 70 1 (pc' := 135) (L' := [(7, .int s0), (0, .ref v0), (1, .ref v1), (2, .int v2), (3, .int v3), (4, .int v4), (5, .int v5), (6, .int v6)]) (S' := [.ref v0]) rfl ?_
      refine zco_gr fl_10_24 rfl (zdk (cc := cX10_go) (q := (135, .getfield 24, 3)) tkX10_go 71 rfl) (fun x4 => ?_)
      refine zco_p tkX10_go 72 2 (pc' := 142) (L' := [(7, .int s0), (0, .ref v0), (1, .ref v1), (2, .int v2), (3, .int v3), (4, .int v4), (5, .int v5), (6, .int v6)]) (S' := [.int v5, .int v4, .ref x4]) rfl ?_
      refine zco_Vi (rc := 0) (rs := 0) (mc := 0) (ms := 0) (As := [.int v4, .int v5]) (S := []) vmX1_areKin (mtX1_areKin l e (by omega) x4 v4 v5) q_1061 rfl rfl (Nat.le_of_ble_eq_true rfl) (zdk (cc := cX10_go) (q := (142, .invokevirtual 114, 3)) tkX10_go 74 rfl) (fun y5 => ?_)
      refine zco_if_ne (tgt := 177) (zdk (cc := cX10_go) (q := (145, .ifCond .ne 32, 3)) tkX10_go 75 rfl) rfl ?_ ?_
      · exact zco_sub [1, 2, 3, 4, 5] rfl (coX10_go_J177 l e he v0 v1 v2 v3 v4 r10 hr10)
      · refine zco_p tkX10_go 76 1 (pc' := 149) (L' := [(7, .int s0), (0, .ref v0), (1, .ref v1), (2, .int v2), (3, .int v3), (4, .int v4), (5, .int v5), (6, .int v6)]) (S' := [.ref v1]) rfl ?_
        refine zco_gr fl_10_58 rfl (zdk (cc := cX10_go) (q := (149, .getfield 58, 3)) tkX10_go 77 rfl) (fun x6 => ?_)
        refine zco_p tkX10_go 78 2 (pc' := 156) (L' := [(7, .int s0), (0, .ref v0), (1, .ref v1), (2, .int v2), (3, .int v3), (4, .int v4), (5, .int v5), (6, .int v6)]) (S' := [.int v5, .int v4, .ref x6]) rfl ?_
        refine zco_iastore (zdk (cc := cX10_go) (q := (156, .iastore, 1)) tkX10_go 80 rfl) ?_
        refine zco_p tkX10_go 81 1 (pc' := 158) (L' := [(7, .int s0), (0, .ref v0), (1, .ref v1), (2, .int v2), (3, .int v3), (4, .int v4), (5, .int v5), (6, .int v6)]) (S' := [.ref v1]) rfl ?_
        refine zco_gr fl_10_58 rfl (zdk (cc := cX10_go) (q := (158, .getfield 58, 3)) tkX10_go 82 rfl) (fun x7 => ?_)
        refine zco_p tkX10_go 83 2 (pc' := 165) (L' := [(7, .int s0), (0, .ref v0), (1, .ref v1), (2, .int v2), (3, .int v3), (4, .int v4), (5, .int v5), (6, .int v6)]) (S' := [.int v4, .int v5, .ref x7]) rfl ?_
        refine zco_iastore (zdk (cc := cX10_go) (q := (165, .iastore, 1)) tkX10_go 85 rfl) ?_
        refine zco_p tkX10_go 86 1 (pc' := 167) (L' := [(7, .int s0), (0, .ref v0), (1, .ref v1), (2, .int v2), (3, .int v3), (4, .int v4), (5, .int v5), (6, .int v6)]) (S' := [.ref v0]) rfl ?_
        refine zco_gr fl_10_15 rfl (zdk (cc := cX10_go) (q := (167, .getfield 15, 3)) tkX10_go 87 rfl) (fun x8 => ?_)
        refine zco_p tkX10_go 88 2 (pc' := 173) (L' := [(7, .int s0), (0, .ref v0), (1, .ref v1), (2, .int v2), (3, .int v3), (4, .int v4), (5, .int v5), (6, .int v6)]) (S' := [.int v4, .int v3, .ref x8]) rfl ?_
        refine zco_iastore (zdk (cc := cX10_go) (q := (173, .iastore, 1)) tkX10_go 90 rfl) ?_
        refine zco_p tkX10_go 91 1 (pc' := 177) (L' := [(3, .int (v3 + 1)), (7, .int s0), (0, .ref v0), (1, .ref v1), (2, .int v2), (4, .int v4), (5, .int v5), (6, .int v6)]) (S' := []) rfl ?_
        exact zco_sub [2, 3, 4, 0, 5] rfl (coX10_go_J177 l e he v0 v1 v2 (v3 + 1) v4 r10 hr10)
set_option maxHeartbeats 2000000 in
set_option maxRecDepth 20000 in
theorem coX10_go_J105 (l : Launch) (e : Nat) (he : 4 ≤ e) (v0 : Nat) (v1 : Nat) (v2 : Int32) (v3 : Int32) (v4 : Int32) (v5 : Int32) (v6 : Int32) (r10 : Int32 × Int32 → zM) (hr10 : ∀ x : Int32 × Int32, zCo l (e + 1) 0 0 iX10_go 10 [(0, .ref v0), (1, .ref v1), (2, .int v2), (3, .int x.1), (4, .int x.2)] [] (r10 x)) : zCo l (e + 1) 0 0 iX10_go 105 [(0, .ref v0), (1, .ref v1), (2, .int v2), (3, .int v3), (4, .int v4), (5, .int v5), (6, .int v6)] [] (X10_go_J105 r10 v0 v1 v2 v3 v4 v5 v6) := by
  unfold X10_go_J105
  refine zco_p tkX10_go 56 1 (pc' := 106) (L' := [(0, .ref v0), (1, .ref v1), (2, .int v2), (3, .int v3), (4, .int v4), (5, .int v5), (6, .int v6)]) (S' := [.int 0]) rfl ?_
  exact zco_sub [0, 1, 2, 3, 4, 5, 6] rfl (coX10_go_J106 l e he v0 v1 v2 v3 v4 v5 v6 r10 hr10 0)
set_option maxHeartbeats 2000000 in
set_option maxRecDepth 20000 in
theorem coX10_go_J60 (l : Launch) (e : Nat) (he : 4 ≤ e) (v0 : Nat) (v1 : Nat) (v2 : Int32) (v3 : Int32) (v4 : Int32) (v5 : Int32) (r10 : Int32 × Int32 → zM) (hr10 : ∀ x : Int32 × Int32, zCo l (e + 1) 0 0 iX10_go 10 [(0, .ref v0), (1, .ref v1), (2, .int v2), (3, .int x.1), (4, .int x.2)] [] (r10 x)) (s0 : Int32) : zCo l (e + 1) 0 0 iX10_go 60 [(0, .ref v0), (1, .ref v1), (2, .int v2), (3, .int v3), (4, .int v4), (5, .int v5)] [.int s0] (X10_go_J60 r10 v0 v1 v2 v3 v4 v5 s0) := by
  unfold X10_go_J60
  refine zco_p tkX10_go 33 2 (pc' := 63) (L' := [(6, .int s0), (0, .ref v0), (1, .ref v1), (2, .int v2), (3, .int v3), (4, .int v4), (5, .int v5)]) (S' := [.ref v1]) rfl ?_
  refine zco_gr fl_10_61 rfl (zdk (cc := cX10_go) (q := (63, .getfield 61, 3)) tkX10_go 35 rfl) (fun x1 => ?_)
  refine zco_p tkX10_go 36 2 (pc' := 70) (L' := [(6, .int s0), (0, .ref v0), (1, .ref v1), (2, .int v2), (3, .int v3), (4, .int v4), (5, .int v5)]) (S' := [.int v5, .int v4, .ref x1]) rfl ?_
  refine zco_Ni (rc := 0) (rs := 0) (mc := 0) (ms := 0) (As := [.int v4, .int v5]) (S := [.ref x1]) vmX11_cell (mtX11_cell l e (by omega) v4 v5) (host := "ClothWedding") (by decide +kernel) rfl rfl (Nat.le_of_ble_eq_true rfl) (zdk (cc := cX10_go) (q := (70, .invokestatic 64, 3)) tkX10_go 38 rfl) (fun y2 => ?_)
  refine zco_p tkX10_go 39 1 (pc' := 74) (L' := [(6, .int s0), (0, .ref v0), (1, .ref v1), (2, .int v2), (3, .int v3), (4, .int v4), (5, .int v5)]) (S' := [.ref v0, .int y2, .ref x1]) rfl ?_
  refine zco_Vi (rc := 0) (rs := 0) (mc := 0) (ms := 0) (As := []) (S := [.int y2, .ref x1]) vmX10_learnt (mtX10_learnt l e (by omega) v0) q_1057 rfl rfl (Nat.le_of_ble_eq_true rfl) (zdk (cc := cX10_go) (q := (74, .invokevirtual 110, 3)) tkX10_go 40 rfl) (fun y3 => ?_)
  refine zco_iastore (zdk (cc := cX10_go) (q := (77, .iastore, 1)) tkX10_go 41 rfl) ?_
  refine zco_p tkX10_go 42 4 (pc' := 84) (L' := [(6, .int s0), (0, .ref v0), (1, .ref v1), (2, .int v2), (3, .int v3), (4, .int v4), (5, .int v5)]) (S' := [.int v4, .int v5, .ref v1, .ref v0]) rfl ?_
  refine zco_Vi (rc := 0) (rs := 0) (mc := 0) (ms := 0) (As := [.ref v1, .int v5, .int v4]) (S := []) vmX10_feel (mtX10_feel l e (by omega) v0 v1 v5 v4) q_1055 rfl rfl (Nat.le_of_ble_eq_true rfl) (zdk (cc := cX10_go) (q := (84, .invokevirtual 102, 3)) tkX10_go 46 rfl) (fun y4 => ?_)
  refine zco_p tkX10_go 47 3 (pc' := 91) (L' := [(6, .int s0), (0, .ref v0), (1, .ref v1), (2, .int v2), (3, .int v3), (4, .int v4), (5, .int v5)]) (S' := [.int v2, .int v5]) rfl ?_
  refine zco_icmp_eq (tgt := 105) (zdk (cc := cX10_go) (q := (91, .if_icmp .eq 14, 3)) tkX10_go 50 rfl) rfl ?_ ?_
  · exact zco_sub [1, 2, 3, 4, 5, 6, 0] rfl (coX10_go_J105 l e he v0 v1 v2 v3 v4 v5 s0 r10 hr10)
  · refine zco_p tkX10_go 51 1 (pc' := 95) (L' := [(6, .int s0), (0, .ref v0), (1, .ref v1), (2, .int v2), (3, .int v3), (4, .int v4), (5, .int v5)]) (S' := [.ref v0]) rfl ?_
    refine zco_Vi (rc := 0) (rs := 0) (mc := 0) (ms := 0) (As := []) (S := []) vmX10_letsGo (mtX10_letsGo l e (by omega) v0) q_1056 rfl rfl (Nat.le_of_ble_eq_true rfl) (zdk (cc := cX10_go) (q := (95, .invokevirtual 106, 3)) tkX10_go 52 rfl) (fun y5 => ?_)
    refine zco_if_ne (tgt := 105) (zdk (cc := cX10_go) (q := (98, .ifCond .ne 7, 3)) tkX10_go 53 rfl) rfl ?_ ?_
    · exact zco_sub [1, 2, 3, 4, 5, 6, 0] rfl (coX10_go_J105 l e he v0 v1 v2 v3 v4 v5 s0 r10 hr10)
    · refine zco_p tkX10_go 54 2 (pc' := 106) (L' := [(6, .int s0), (0, .ref v0), (1, .ref v1), (2, .int v2), (3, .int v3), (4, .int v4), (5, .int v5)]) (S' := [.int 1]) rfl ?_
      exact zco_sub [1, 2, 3, 4, 5, 6, 0] rfl (coX10_go_J106 l e he v0 v1 v2 v3 v4 v5 s0 r10 hr10 1)
set_option maxHeartbeats 2000000 in
set_option maxRecDepth 20000 in
theorem coX10_go_J59 (l : Launch) (e : Nat) (he : 4 ≤ e) (v0 : Nat) (v1 : Nat) (v2 : Int32) (v3 : Int32) (v4 : Int32) (v5 : Int32) (r10 : Int32 × Int32 → zM) (hr10 : ∀ x : Int32 × Int32, zCo l (e + 1) 0 0 iX10_go 10 [(0, .ref v0), (1, .ref v1), (2, .int v2), (3, .int x.1), (4, .int x.2)] [] (r10 x)) : zCo l (e + 1) 0 0 iX10_go 59 [(0, .ref v0), (1, .ref v1), (2, .int v2), (3, .int v3), (4, .int v4), (5, .int v5)] [] (X10_go_J59 r10 v0 v1 v2 v3 v4 v5) := by
  unfold X10_go_J59
  refine zco_p tkX10_go 32 1 (pc' := 60) (L' := [(0, .ref v0), (1, .ref v1), (2, .int v2), (3, .int v3), (4, .int v4), (5, .int v5)]) (S' := [.int 0]) rfl ?_
  exact zco_sub [0, 1, 2, 3, 4, 5] rfl (coX10_go_J60 l e he v0 v1 v2 v3 v4 v5 r10 hr10 0)
set_option maxHeartbeats 2000000 in
set_option maxRecDepth 20000 in
theorem coX10_go_B10 (l : Launch) (e : Nat) (he : 4 ≤ e) (v0 : Nat) (v1 : Nat) (v2 : Int32) (r10 : Int32 × Int32 → zM) (hr10 : ∀ x : Int32 × Int32, zCo l (e + 1) 0 0 iX10_go 10 [(0, .ref v0), (1, .ref v1), (2, .int v2), (3, .int x.1), (4, .int x.2)] [] (r10 x)) (v3 : Int32) (v4 : Int32) : zCo l (e + 1) 0 0 iX10_go 10 [(0, .ref v0), (1, .ref v1), (2, .int v2), (3, .int v3), (4, .int v4)] [] (X10_go_B10 v0 v1 v2 r10 v3 v4) := by
  unfold X10_go_B10
  refine zco_p tkX10_go 7 2 (pc' := 14) (L' := [(0, .ref v0), (1, .ref v1), (2, .int v2), (3, .int v3), (4, .int v4)]) (S' := [.int 6, .int v4]) rfl ?_
  refine zco_icmp_ge (tgt := 183) (zdk (cc := cX10_go) (q := (14, .if_icmp .ge 169, 3)) tkX10_go 9 rfl) rfl ?_ ?_
  · exact zco_sub [0, 1, 3] rfl (coX10_go_J183 l e he v0 v1 v3)
  · refine zco_p tkX10_go 10 1 (pc' := 18) (L' := [(0, .ref v0), (1, .ref v1), (2, .int v2), (3, .int v3), (4, .int v4)]) (S' := [.ref v0]) rfl ?_
    refine zco_gr fl_10_9 rfl (zdk (cc := cX10_go) (q := (18, .getfield 9, 3)) tkX10_go 11 rfl) (fun x1 => ?_)
    refine zco_p tkX10_go 12 1 (pc' := 23) (L' := [(0, .ref v0), (1, .ref v1), (2, .int v2), (3, .int v3), (4, .int v4)]) (S' := [.int v4, .ref x1]) rfl ?_
    refine zco_iaload (zdk (cc := cX10_go) (q := (23, .iaload, 1)) tkX10_go 13 rfl) (fun x2 => ?_)
    refine zco_p tkX10_go 14 3 (pc' := 29) (L' := [(5, .int x2), (0, .ref v0), (1, .ref v1), (2, .int v2), (3, .int v3), (4, .int v4)]) (S' := [.int ((-1)), .int x2]) rfl ?_
    refine zco_icmp_eq (tgt := 177) (zdk (cc := cX10_go) (q := (29, .if_icmp .eq 148, 3)) tkX10_go 17 rfl) rfl ?_ ?_
    · exact zco_sub [1, 2, 3, 4, 5] rfl (coX10_go_J177 l e he v0 v1 v2 v3 v4 r10 hr10)
    · refine zco_p tkX10_go 18 4 (pc' := 38) (L' := [(5, .int x2), (0, .ref v0), (1, .ref v1), (2, .int v2), (3, .int v3), (4, .int v4)]) (S' := [.int x2, .int v4, .ref v1, .ref v0]) rfl ?_
      refine zco_Vi (rc := 0) (rs := 0) (mc := 0) (ms := 0) (As := [.ref v1, .int v4, .int x2]) (S := []) vmX10_feel (mtX10_feel l e (by omega) v0 v1 v4 x2) q_1055 rfl rfl (Nat.le_of_ble_eq_true rfl) (zdk (cc := cX10_go) (q := (38, .invokevirtual 102, 3)) tkX10_go 22 rfl) (fun y3 => ?_)
      refine zco_p tkX10_go 23 3 (pc' := 45) (L' := [(5, .int x2), (0, .ref v0), (1, .ref v1), (2, .int v2), (3, .int v3), (4, .int v4)]) (S' := [.int v2, .int v4]) rfl ?_
      refine zco_icmp_eq (tgt := 59) (zdk (cc := cX10_go) (q := (45, .if_icmp .eq 14, 3)) tkX10_go 26 rfl) rfl ?_ ?_
      · exact zco_sub [1, 2, 3, 4, 5, 0] rfl (coX10_go_J59 l e he v0 v1 v2 v3 v4 x2 r10 hr10)
      · refine zco_p tkX10_go 27 1 (pc' := 49) (L' := [(5, .int x2), (0, .ref v0), (1, .ref v1), (2, .int v2), (3, .int v3), (4, .int v4)]) (S' := [.ref v0]) rfl ?_
        refine zco_Vi (rc := 0) (rs := 0) (mc := 0) (ms := 0) (As := []) (S := []) vmX10_letsGo (mtX10_letsGo l e (by omega) v0) q_1056 rfl rfl (Nat.le_of_ble_eq_true rfl) (zdk (cc := cX10_go) (q := (49, .invokevirtual 106, 3)) tkX10_go 28 rfl) (fun y4 => ?_)
        refine zco_if_ne (tgt := 59) (zdk (cc := cX10_go) (q := (52, .ifCond .ne 7, 3)) tkX10_go 29 rfl) rfl ?_ ?_
        · exact zco_sub [1, 2, 3, 4, 5, 0] rfl (coX10_go_J59 l e he v0 v1 v2 v3 v4 x2 r10 hr10)
        · refine zco_p tkX10_go 30 2 (pc' := 60) (L' := [(5, .int x2), (0, .ref v0), (1, .ref v1), (2, .int v2), (3, .int v3), (4, .int v4)]) (S' := [.int 1]) rfl ?_
          exact zco_sub [1, 2, 3, 4, 5, 0] rfl (coX10_go_J60 l e he v0 v1 v2 v3 v4 x2 r10 hr10 1)
set_option maxHeartbeats 2000000 in
set_option maxRecDepth 20000 in
theorem coX10_go (l : Launch) (e : Nat) (he : 4 ≤ e) (v0 : Nat) (v1 : Nat) (v2 : Int32) : zCo l (e + 1) 0 0 iX10_go 0 [(0, .ref v0), (1, .ref v1), (2, .int v2)] [] (X10_go v0 v1 v2) := by
  unfold X10_go
  refine zco_p tkX10_go 0 2 (pc' := 2) (L' := [(0, .ref v0), (1, .ref v1), (2, .int v2)]) (S' := [.ref v1, .ref v0]) rfl ?_
  refine zco_Vv (rc := 0) (rs := 0) (mc := 0) (ms := 0) (As := [.ref v1]) (S := []) vmX10_giveHands (mtX10_giveHands l e (by omega) v0 v1) q_1054 rfl rfl (Nat.le_of_ble_eq_true rfl) (zdk (cc := cX10_go) (q := (2, .invokevirtual 98, 3)) tkX10_go 2 rfl) ?_
  refine zco_p tkX10_go 3 4 (pc' := 10) (L' := [(4, .int 0), (3, .int 0), (0, .ref v0), (1, .ref v1), (2, .int v2)]) (S' := []) rfl ?_
  exact zco_sub [2, 3, 4, 1, 0] rfl (zco_fix (Lf := fun x : Int32 × Int32 => [(0, .ref v0), (1, .ref v1), (2, .int v2), (3, .int x.1), (4, .int x.2)]) (Sf := fun _ => []) (fun r hr x => coX10_go_B10 l e he v0 v1 v2 r hr x.1 x.2) zFU (0, 0))
theorem mtX10_go (l : Launch) (d : Nat) (hd : 5 ≤ d) (v0 : Nat) (v1 : Nat) (v2 : Int32) : zMet l d 0 0 yX10_go cX10_go 8 (Option.some .int) [.ref v0, .ref v1, .int v2] (X10_go v0 v1 v2) := by
  obtain ⟨e, rfl⟩ : ∃ e, d = e + 1 := ⟨d - 1, by omega⟩
  exact zmet_of (own := RX10) (ini := false) (by decide +kernel) rfl (fun _ => by contradiction) (Nat.le_of_ble_eq_true rfl) (coX10_go l e (by omega) v0 v1 v2)
abbrev iX0_goOn : zI := (RX0, cX0_goOn, 3, (Option.none : Option FieldType), false)
def tX0_goOn : List (Nat × Instr × Nat) := [(0, .iconst 0, 1), (1, .istore_n 2, 1), (2, .iload_n 2, 1), (3, .iload_n 1, 1), (4, .if_icmp .ge 22, 3), (7, .aload_n 0, 1), (8, .getfield 25, 3), (11, .aload_n 0, 1), (12, .getfield 12, 3), (15, .iconst (-1), 1), (16, .invokevirtual 51, 3), (19, .pop, 1), (20, .iinc 2 1, 3), (23, .goto (-21), 3), (26, .return_, 1)]
set_option maxRecDepth 100000 in
theorem tkX0_goOn : ∀ q ∈ tX0_goOn, decode cX0_goOn q.1 = .ok q.2 := by decide +kernel
theorem vmX0_goOn : zVM yX0_goOn cX0_goOn 3 (Option.none : Option FieldType) 1 0 := ⟨kX0_goOn, q_1048, q_24, q_158, ⟨_, rfl, rfl⟩, by decide +kernel, by decide⟩
set_option maxHeartbeats 2000000 in
set_option maxRecDepth 20000 in
theorem coX0_goOn_B2 (l : Launch) (e : Nat) (he : 5 ≤ e) (v0 : Nat) (v1 : Int32) (r2 : Int32 → zM) (hr2 : ∀ x : Int32, zCo l (e + 1) 0 0 iX0_goOn 2 [(0, .ref v0), (1, .int v1), (2, .int x)] [] (r2 x)) (v2 : Int32) : zCo l (e + 1) 0 0 iX0_goOn 2 [(0, .ref v0), (1, .int v1), (2, .int v2)] [] (X0_goOn_B2 v0 v1 r2 v2) := by
  unfold X0_goOn_B2
  refine zco_p tkX0_goOn 2 2 (pc' := 4) (L' := [(0, .ref v0), (1, .int v1), (2, .int v2)]) (S' := [.int v1, .int v2]) rfl ?_
  refine zco_icmp_ge (tgt := 26) (zdk (cc := cX0_goOn) (q := (4, .if_icmp .ge 22, 3)) tkX0_goOn 4 rfl) rfl ?_ ?_
  · exact zco_vret rfl rfl rfl (zdk (cc := cX0_goOn) (q := (26, .return_, 1)) tkX0_goOn 14 rfl)
  · refine zco_p tkX0_goOn 5 1 (pc' := 8) (L' := [(0, .ref v0), (1, .int v1), (2, .int v2)]) (S' := [.ref v0]) rfl ?_
    refine zco_gr fl_0_25 rfl (zdk (cc := cX0_goOn) (q := (8, .getfield 25, 3)) tkX0_goOn 6 rfl) (fun x1 => ?_)
    refine zco_p tkX0_goOn 7 1 (pc' := 12) (L' := [(0, .ref v0), (1, .int v1), (2, .int v2)]) (S' := [.ref v0, .ref x1]) rfl ?_
    refine zco_gr fl_0_12 rfl (zdk (cc := cX0_goOn) (q := (12, .getfield 12, 3)) tkX0_goOn 8 rfl) (fun x2 => ?_)
    refine zco_p tkX0_goOn 9 1 (pc' := 16) (L' := [(0, .ref v0), (1, .int v1), (2, .int v2)]) (S' := [.int ((-1)), .ref x2, .ref x1]) rfl ?_
    refine zco_Vi (rc := 0) (rs := 0) (mc := 0) (ms := 0) (As := [.ref x2, .int ((-1))]) (S := []) vmX10_go (mtX10_go l e (by omega) x1 x2 ((-1))) q_1050 rfl rfl (Nat.le_of_ble_eq_true rfl) (zdk (cc := cX0_goOn) (q := (16, .invokevirtual 51, 3)) tkX0_goOn 10 rfl) (fun y3 => ?_)
    refine zco_p tkX0_goOn 11 3 (pc' := 2) (L' := [(2, .int (v2 + 1)), (0, .ref v0), (1, .int v1)]) (S' := []) rfl ?_
    exact zco_sub [1, 2, 0] rfl (hr2 (v2 + 1))
set_option maxHeartbeats 2000000 in
set_option maxRecDepth 20000 in
theorem coX0_goOn (l : Launch) (e : Nat) (he : 5 ≤ e) (v0 : Nat) (v1 : Int32) : zCo l (e + 1) 0 0 iX0_goOn 0 [(0, .ref v0), (1, .int v1)] [] (X0_goOn v0 v1) := by
  unfold X0_goOn
  refine zco_p tkX0_goOn 0 2 (pc' := 2) (L' := [(2, .int 0), (0, .ref v0), (1, .int v1)]) (S' := []) rfl ?_
  exact zco_sub [1, 2, 0] rfl (zco_fix (Lf := fun x : Int32 => [(0, .ref v0), (1, .int v1), (2, .int x)]) (Sf := fun _ => []) (fun r hr x => coX0_goOn_B2 l e he v0 v1 r hr x) zFU 0)
theorem mtX0_goOn (l : Launch) (d : Nat) (hd : 6 ≤ d) (v0 : Nat) (v1 : Int32) : zMet l d 0 0 yX0_goOn cX0_goOn 3 (Option.none : Option FieldType) [.ref v0, .int v1] (X0_goOn v0 v1) := by
  obtain ⟨e, rfl⟩ : ∃ e, d = e + 1 := ⟨d - 1, by omega⟩
  exact zmet_of (own := RX0) (ini := false) (by decide +kernel) rfl (fun _ => by contradiction) (Nat.le_of_ble_eq_true rfl) (coX0_goOn l e (by omega) v0 v1)
abbrev iX0_behind : zI := (RX0, cX0_behind, 3, (Option.some (.object "ClothWedding$State")), false)
def tX0_behind : List (Nat × Instr × Nat) := [(0, .aload_n 0, 1), (1, .getfield 12, 3), (4, .aload_n 1, 1), (5, .invokevirtual 55, 3), (8, .aload_n 0, 1), (9, .iload_n 2, 1), (10, .invokevirtual 59, 3), (13, .aload_n 0, 1), (14, .getfield 12, 3), (17, .areturn, 1)]
set_option maxRecDepth 100000 in
theorem tkX0_behind : ∀ q ∈ tX0_behind, decode cX0_behind q.1 = .ok q.2 := by decide +kernel
theorem vmX0_behind : zVM yX0_behind cX0_behind 3 (Option.some (.object "ClothWedding$State")) 2 0 := ⟨kX0_behind, q_1039, q_1040, q_158, ⟨_, rfl, rfl⟩, by decide +kernel, by decide⟩
set_option maxHeartbeats 2000000 in
set_option maxRecDepth 20000 in
theorem coX0_behind (l : Launch) (e : Nat) (he : 6 ≤ e) (v0 : Nat) (v1 : Nat) (v2 : Int32) : zCo l (e + 1) 0 0 iX0_behind 0 [(0, .ref v0), (1, .ref v1), (2, .int v2)] [] (X0_behind v0 v1 v2) := by
  unfold X0_behind
  refine zco_p tkX0_behind 0 1 (pc' := 1) (L' := [(0, .ref v0), (1, .ref v1), (2, .int v2)]) (S' := [.ref v0]) rfl ?_
  refine zco_gr fl_0_12 rfl (zdk (cc := cX0_behind) (q := (1, .getfield 12, 3)) tkX0_behind 1 rfl) (fun x1 => ?_)
  refine zco_p tkX0_behind 2 1 (pc' := 5) (L' := [(0, .ref v0), (1, .ref v1), (2, .int v2)]) (S' := [.ref v1, .ref x1]) rfl ?_
  refine zco_Vv (rc := 0) (rs := 0) (mc := 0) (ms := 0) (As := [.ref v1]) (S := []) vmX8_take (mtX8_take l e (by omega) x1 v1) q_1042 rfl rfl (Nat.le_of_ble_eq_true rfl) (zdk (cc := cX0_behind) (q := (5, .invokevirtual 55, 3)) tkX0_behind 3 rfl) ?_
  refine zco_p tkX0_behind 4 2 (pc' := 10) (L' := [(0, .ref v0), (1, .ref v1), (2, .int v2)]) (S' := [.int v2, .ref v0]) rfl ?_
  refine zco_Vv (rc := 0) (rs := 0) (mc := 0) (ms := 0) (As := [.int v2]) (S := []) vmX0_goOn (mtX0_goOn l e (by omega) v0 v2) q_1046 rfl rfl (Nat.le_of_ble_eq_true rfl) (zdk (cc := cX0_behind) (q := (10, .invokevirtual 59, 3)) tkX0_behind 6 rfl) ?_
  refine zco_p tkX0_behind 7 1 (pc' := 14) (L' := [(0, .ref v0), (1, .ref v1), (2, .int v2)]) (S' := [.ref v0]) rfl ?_
  refine zco_gr fl_0_12 rfl (zdk (cc := cX0_behind) (q := (14, .getfield 12, 3)) tkX0_behind 8 rfl) (fun x2 => ?_)
  exact zco_aret rfl rfl rfl (Or.inl ⟨_, rfl⟩) (zdk (cc := cX0_behind) (q := (17, .areturn, 1)) tkX0_behind 9 rfl)
theorem mtX0_behind (l : Launch) (d : Nat) (hd : 7 ≤ d) (v0 : Nat) (v1 : Nat) (v2 : Int32) : zMet l d 0 0 yX0_behind cX0_behind 3 (Option.some (.object "ClothWedding$State")) [.ref v0, .ref v1, .int v2] (X0_behind v0 v1 v2) := by
  obtain ⟨e, rfl⟩ : ∃ e, d = e + 1 := ⟨d - 1, by omega⟩
  exact zmet_of (own := RX0) (ini := false) (by decide +kernel) rfl (fun _ => by contradiction) (Nat.le_of_ble_eq_true rfl) (coX0_behind l e (by omega) v0 v1 v2)
abbrev iX11_later : zI := (RX11, cX11_later, 4, (Option.some .int), false)
def tX11_later : List (Nat × Instr × Nat) := [(0, .aload_n 0, 1), (1, .getfield 51, 3), (4, .iload_n 1, 1), (5, .invokevirtual 184, 3), (8, .istore_n 3, 1), (9, .iload_n 3, 1), (10, .iconst (-1), 1), (11, .if_icmp .eq 21, 3), (14, .aload_n 0, 1), (15, .getfield 79, 3), (18, .aload_n 0, 1), (19, .getfield 61, 3), (22, .iload_n 2, 1), (23, .iconst 0, 1), (24, .bipush 60, 2), (26, .invokevirtual 248, 3), (29, .ifCond .ne 5, 3), (32, .iconst (-1), 1), (33, .ireturn, 1), (34, .aload_n 0, 1), (35, .getfield 51, 3), (38, .aload_n 0, 1), (39, .getfield 79, 3), (42, .aload_n 0, 1), (43, .getfield 61, 3), (46, .iload_n 2, 1), (47, .invokevirtual 252, 3), (50, .getfield 199, 3), (53, .iload_n 3, 1), (54, .iaload, 1), (55, .invokevirtual 202, 3), (58, .ireturn, 1)]
set_option maxRecDepth 100000 in
theorem tkX11_later : ∀ q ∈ tX11_later, decode cX11_later q.1 = .ok q.2 := by decide +kernel
theorem vmX11_later : zVM yX11_later cX11_later 4 (Option.some .int) 2 11 := ⟨kX11_later, q_1027, q_1028, q_149, ⟨_, rfl, rfl⟩, by decide +kernel, by decide⟩
set_option maxHeartbeats 2000000 in
set_option maxRecDepth 20000 in
theorem coX11_later (l : Launch) (e : Nat) (he : 7 ≤ e) (v0 : Nat) (v1 : Int32) (v2 : Int32) : zCo l (e + 1) 0 0 iX11_later 0 [(0, .ref v0), (1, .int v1), (2, .int v2)] [] (X11_later v0 v1 v2) := by
  unfold X11_later
  refine zco_p tkX11_later 0 1 (pc' := 1) (L' := [(0, .ref v0), (1, .int v1), (2, .int v2)]) (S' := [.ref v0]) rfl ?_
  refine zco_gr fl_11_51 rfl (zdk (cc := cX11_later) (q := (1, .getfield 51, 3)) tkX11_later 1 rfl) (fun x1 => ?_)
  refine zco_p tkX11_later 2 1 (pc' := 5) (L' := [(0, .ref v0), (1, .int v1), (2, .int v2)]) (S' := [.int v1, .ref x1]) rfl ?_
  refine zco_Vi (rc := 0) (rs := 0) (mc := 0) (ms := 0) (As := [.int v1]) (S := []) vmX1_slot (mtX1_slot l e (by omega) x1 v1) q_932 rfl rfl (Nat.le_of_ble_eq_true rfl) (zdk (cc := cX11_later) (q := (5, .invokevirtual 184, 3)) tkX11_later 3 rfl) (fun y2 => ?_)
  refine zco_p tkX11_later 4 3 (pc' := 11) (L' := [(3, .int y2), (0, .ref v0), (1, .int v1), (2, .int v2)]) (S' := [.int ((-1)), .int y2]) rfl ?_
  refine zco_icmp_eq (tgt := 32) (zdk (cc := cX11_later) (q := (11, .if_icmp .eq 21, 3)) tkX11_later 7 rfl) rfl ?_ ?_
  · refine zco_p tkX11_later 17 1 (pc' := 33) (L' := [(3, .int y2), (0, .ref v0), (1, .int v1), (2, .int v2)]) (S' := [.int ((-1))]) rfl ?_
    exact zco_iret rfl rfl rfl (zdk (cc := cX11_later) (q := (33, .ireturn, 1)) tkX11_later 18 rfl)
  · refine zco_p tkX11_later 8 1 (pc' := 15) (L' := [(3, .int y2), (0, .ref v0), (1, .int v1), (2, .int v2)]) (S' := [.ref v0]) rfl ?_
    refine zco_gr fl_11_79 rfl (zdk (cc := cX11_later) (q := (15, .getfield 79, 3)) tkX11_later 9 rfl) (fun x3 => ?_)
    refine zco_p tkX11_later 10 1 (pc' := 19) (L' := [(3, .int y2), (0, .ref v0), (1, .int v1), (2, .int v2)]) (S' := [.ref v0, .ref x3]) rfl ?_
    refine zco_gr fl_11_61 rfl (zdk (cc := cX11_later) (q := (19, .getfield 61, 3)) tkX11_later 11 rfl) (fun x4 => ?_)
    refine zco_p tkX11_later 12 3 (pc' := 26) (L' := [(3, .int y2), (0, .ref v0), (1, .int v1), (2, .int v2)]) (S' := [.int 60, .int 0, .int v2, .ref x4, .ref x3]) rfl ?_
    refine zco_Vi (rc := 0) (rs := 0) (mc := 0) (ms := 0) (As := [.ref x4, .int v2, .int 0, .int 60]) (S := []) vmX0_canCome (mtX0_canCome l e (by omega) x3 x4 v2 0 60) q_1030 rfl rfl (Nat.le_of_ble_eq_true rfl) (zdk (cc := cX11_later) (q := (26, .invokevirtual 248, 3)) tkX11_later 15 rfl) (fun y5 => ?_)
    refine zco_if_ne (tgt := 34) (zdk (cc := cX11_later) (q := (29, .ifCond .ne 5, 3)) tkX11_later 16 rfl) rfl ?_ ?_
    · refine zco_p tkX11_later 19 1 (pc' := 35) (L' := [(3, .int y2), (0, .ref v0), (1, .int v1), (2, .int v2)]) (S' := [.ref v0]) rfl ?_
      refine zco_gr fl_11_51 rfl (zdk (cc := cX11_later) (q := (35, .getfield 51, 3)) tkX11_later 20 rfl) (fun x6 => ?_)
      refine zco_p tkX11_later 21 1 (pc' := 39) (L' := [(3, .int y2), (0, .ref v0), (1, .int v1), (2, .int v2)]) (S' := [.ref v0, .ref x6]) rfl ?_
      refine zco_gr fl_11_79 rfl (zdk (cc := cX11_later) (q := (39, .getfield 79, 3)) tkX11_later 22 rfl) (fun x7 => ?_)
      refine zco_p tkX11_later 23 1 (pc' := 43) (L' := [(3, .int y2), (0, .ref v0), (1, .int v1), (2, .int v2)]) (S' := [.ref v0, .ref x7, .ref x6]) rfl ?_
      refine zco_gr fl_11_61 rfl (zdk (cc := cX11_later) (q := (43, .getfield 61, 3)) tkX11_later 24 rfl) (fun x8 => ?_)
      refine zco_p tkX11_later 25 1 (pc' := 47) (L' := [(3, .int y2), (0, .ref v0), (1, .int v1), (2, .int v2)]) (S' := [.int v2, .ref x8, .ref x7, .ref x6]) rfl ?_
      refine zco_Vr (rc := 0) (rs := 0) (mc := 0) (ms := 0) (As := [.ref x8, .int v2]) (S := [.ref x6]) vmX0_behind (mtX0_behind l e (by omega) x7 x8 v2) q_1038 rfl rfl (Nat.le_of_ble_eq_true rfl) (zdk (cc := cX11_later) (q := (47, .invokevirtual 252, 3)) tkX11_later 26 rfl) (fun y9 => ?_)
      refine zco_gr fl_11_199 rfl (zdk (cc := cX11_later) (q := (50, .getfield 199, 3)) tkX11_later 27 rfl) (fun x10 => ?_)
      refine zco_p tkX11_later 28 1 (pc' := 54) (L' := [(3, .int y2), (0, .ref v0), (1, .int v1), (2, .int v2)]) (S' := [.int y2, .ref x10, .ref x6]) rfl ?_
      refine zco_iaload (zdk (cc := cX11_later) (q := (54, .iaload, 1)) tkX11_later 29 rfl) (fun x11 => ?_)
      refine zco_Vi (rc := 0) (rs := 0) (mc := 0) (ms := 0) (As := [.int x11]) (S := []) vmX1_number (mtX1_number l e (by omega) x6 x11) q_944 rfl rfl (Nat.le_of_ble_eq_true rfl) (zdk (cc := cX11_later) (q := (55, .invokevirtual 202, 3)) tkX11_later 30 rfl) (fun y12 => ?_)
      exact zco_iret rfl rfl rfl (zdk (cc := cX11_later) (q := (58, .ireturn, 1)) tkX11_later 31 rfl)
    · refine zco_p tkX11_later 17 1 (pc' := 33) (L' := [(3, .int y2), (0, .ref v0), (1, .int v1), (2, .int v2)]) (S' := [.int ((-1))]) rfl ?_
      exact zco_iret rfl rfl rfl (zdk (cc := cX11_later) (q := (33, .ireturn, 1)) tkX11_later 18 rfl)
theorem mtX11_later (l : Launch) (d : Nat) (hd : 8 ≤ d) (v0 : Nat) (v1 : Int32) (v2 : Int32) : zMet l d 0 0 yX11_later cX11_later 4 (Option.some .int) [.ref v0, .int v1, .int v2] (X11_later v0 v1 v2) := by
  obtain ⟨e, rfl⟩ : ∃ e, d = e + 1 := ⟨d - 1, by omega⟩
  exact zmet_of (own := RX11) (ini := false) (by decide +kernel) rfl (fun _ => by contradiction) (Nat.le_of_ble_eq_true rfl) (coX11_later l e (by omega) v0 v1 v2)
abbrev iX0_firstWed : zI := (RX0, cX0_firstWed, 5, (Option.some .int), false)
def tX0_firstWed : List (Nat × Instr × Nat) := [(0, .bipush 60, 2), (2, .aload_n 0, 1), (3, .aload_n 1, 1), (4, .invokevirtual 47, 3), (7, .invokestatic 63, 3), (10, .istore_n 3, 1), (11, .aload_n 0, 1), (12, .getfield 12, 3), (15, .aload_n 1, 1), (16, .invokevirtual 55, 3), (19, .iconst 0, 1), (20, .istore 4, 2), (22, .iload 4, 2), (24, .iload_n 3, 1), (25, .if_icmp .gt 44, 3), (28, .aload_n 0, 1), (29, .getfield 12, 3), (32, .getfield 69, 3), (35, .iload_n 2, 1), (36, .iaload, 1), (37, .iconst (-1), 1), (38, .if_icmp .eq 6, 3), (41, .iload 4, 2), (43, .ireturn, 1), (44, .iload 4, 2), (46, .iload_n 3, 1), (47, .if_icmp .ge 16, 3), (50, .aload_n 0, 1), (51, .getfield 25, 3), (54, .aload_n 0, 1), (55, .getfield 12, 3), (58, .iconst (-1), 1), (59, .invokevirtual 51, 3), (62, .pop, 1), (63, .iinc 4 1, 3), (66, .goto (-44), 3), (69, .iconst (-1), 1), (70, .ireturn, 1)]
set_option maxRecDepth 100000 in
theorem tkX0_firstWed : ∀ q ∈ tX0_firstWed, decode cX0_firstWed q.1 = .ok q.2 := by decide +kernel
theorem vmX0_firstWed : zVM yX0_firstWed cX0_firstWed 5 (Option.some .int) 2 0 := ⟨kX0_firstWed, q_1073, q_1074, q_158, ⟨_, rfl, rfl⟩, by decide +kernel, by decide⟩
set_option maxHeartbeats 2000000 in
set_option maxRecDepth 20000 in
theorem coX0_firstWed_J63 (l : Launch) (e : Nat) (he : 5 ≤ e) (v0 : Nat) (v2 : Int32) (v3 : Int32) (v4 : Int32) (r22 : Int32 → zM) (hr22 : ∀ x : Int32, zCo l (e + 1) 0 0 iX0_firstWed 22 [(0, .ref v0), (2, .int v2), (3, .int v3), (4, .int x)] [] (r22 x)) : zCo l (e + 1) 0 0 iX0_firstWed 63 [(0, .ref v0), (2, .int v2), (3, .int v3), (4, .int v4)] [] (X0_firstWed_J63 r22 v0 v2 v3 v4) := by
  unfold X0_firstWed_J63
  refine zco_p tkX0_firstWed 34 2 (pc' := 22) (L' := [(4, .int (v4 + 1)), (0, .ref v0), (2, .int v2), (3, .int v3)]) (S' := []) rfl ?_
  exact zco_sub [1, 2, 3, 0] rfl (hr22 (v4 + 1))
set_option maxHeartbeats 2000000 in
set_option maxRecDepth 20000 in
theorem coX0_firstWed_B22 (l : Launch) (e : Nat) (he : 5 ≤ e) (v0 : Nat) (v2 : Int32) (v3 : Int32) (r22 : Int32 → zM) (hr22 : ∀ x : Int32, zCo l (e + 1) 0 0 iX0_firstWed 22 [(0, .ref v0), (2, .int v2), (3, .int v3), (4, .int x)] [] (r22 x)) (v4 : Int32) : zCo l (e + 1) 0 0 iX0_firstWed 22 [(0, .ref v0), (2, .int v2), (3, .int v3), (4, .int v4)] [] (X0_firstWed_B22 v0 v2 v3 r22 v4) := by
  unfold X0_firstWed_B22
  refine zco_p tkX0_firstWed 12 2 (pc' := 25) (L' := [(0, .ref v0), (2, .int v2), (3, .int v3), (4, .int v4)]) (S' := [.int v3, .int v4]) rfl ?_
  refine zco_icmp_gt (tgt := 69) (zdk (cc := cX0_firstWed) (q := (25, .if_icmp .gt 44, 3)) tkX0_firstWed 14 rfl) rfl ?_ ?_
  · refine zco_p tkX0_firstWed 36 1 (pc' := 70) (L' := [(0, .ref v0), (2, .int v2), (3, .int v3), (4, .int v4)]) (S' := [.int ((-1))]) rfl ?_
    exact zco_iret rfl rfl rfl (zdk (cc := cX0_firstWed) (q := (70, .ireturn, 1)) tkX0_firstWed 37 rfl)
  · refine zco_p tkX0_firstWed 15 1 (pc' := 29) (L' := [(0, .ref v0), (2, .int v2), (3, .int v3), (4, .int v4)]) (S' := [.ref v0]) rfl ?_
    refine zco_gr fl_0_12 rfl (zdk (cc := cX0_firstWed) (q := (29, .getfield 12, 3)) tkX0_firstWed 16 rfl) (fun x1 => ?_)
    refine zco_gr fl_0_69 rfl (zdk (cc := cX0_firstWed) (q := (32, .getfield 69, 3)) tkX0_firstWed 17 rfl) (fun x2 => ?_)
    refine zco_p tkX0_firstWed 18 1 (pc' := 36) (L' := [(0, .ref v0), (2, .int v2), (3, .int v3), (4, .int v4)]) (S' := [.int v2, .ref x2]) rfl ?_
    refine zco_iaload (zdk (cc := cX0_firstWed) (q := (36, .iaload, 1)) tkX0_firstWed 19 rfl) (fun x3 => ?_)
    refine zco_p tkX0_firstWed 20 1 (pc' := 38) (L' := [(0, .ref v0), (2, .int v2), (3, .int v3), (4, .int v4)]) (S' := [.int ((-1)), .int x3]) rfl ?_
    refine zco_icmp_eq (tgt := 44) (zdk (cc := cX0_firstWed) (q := (38, .if_icmp .eq 6, 3)) tkX0_firstWed 21 rfl) rfl ?_ ?_
    · refine zco_p tkX0_firstWed 24 2 (pc' := 47) (L' := [(0, .ref v0), (2, .int v2), (3, .int v3), (4, .int v4)]) (S' := [.int v3, .int v4]) rfl ?_
      refine zco_icmp_ge (tgt := 63) (zdk (cc := cX0_firstWed) (q := (47, .if_icmp .ge 16, 3)) tkX0_firstWed 26 rfl) rfl ?_ ?_
      · exact zco_sub [0, 1, 2, 3] rfl (coX0_firstWed_J63 l e he v0 v2 v3 v4 r22 hr22)
      · refine zco_p tkX0_firstWed 27 1 (pc' := 51) (L' := [(0, .ref v0), (2, .int v2), (3, .int v3), (4, .int v4)]) (S' := [.ref v0]) rfl ?_
        refine zco_gr fl_0_25 rfl (zdk (cc := cX0_firstWed) (q := (51, .getfield 25, 3)) tkX0_firstWed 28 rfl) (fun x4 => ?_)
        refine zco_p tkX0_firstWed 29 1 (pc' := 55) (L' := [(0, .ref v0), (2, .int v2), (3, .int v3), (4, .int v4)]) (S' := [.ref v0, .ref x4]) rfl ?_
        refine zco_gr fl_0_12 rfl (zdk (cc := cX0_firstWed) (q := (55, .getfield 12, 3)) tkX0_firstWed 30 rfl) (fun x5 => ?_)
        refine zco_p tkX0_firstWed 31 1 (pc' := 59) (L' := [(0, .ref v0), (2, .int v2), (3, .int v3), (4, .int v4)]) (S' := [.int ((-1)), .ref x5, .ref x4]) rfl ?_
        refine zco_Vi (rc := 0) (rs := 0) (mc := 0) (ms := 0) (As := [.ref x5, .int ((-1))]) (S := []) vmX10_go (mtX10_go l e (by omega) x4 x5 ((-1))) q_1050 rfl rfl (Nat.le_of_ble_eq_true rfl) (zdk (cc := cX0_firstWed) (q := (59, .invokevirtual 51, 3)) tkX0_firstWed 32 rfl) (fun y6 => ?_)
        refine zco_p tkX0_firstWed 33 1 (pc' := 63) (L' := [(0, .ref v0), (2, .int v2), (3, .int v3), (4, .int v4)]) (S' := []) rfl ?_
        exact zco_sub [0, 1, 2, 3] rfl (coX0_firstWed_J63 l e he v0 v2 v3 v4 r22 hr22)
    · refine zco_p tkX0_firstWed 22 1 (pc' := 43) (L' := [(0, .ref v0), (2, .int v2), (3, .int v3), (4, .int v4)]) (S' := [.int v4]) rfl ?_
      exact zco_iret rfl rfl rfl (zdk (cc := cX0_firstWed) (q := (43, .ireturn, 1)) tkX0_firstWed 23 rfl)
set_option maxHeartbeats 2000000 in
set_option maxRecDepth 20000 in
theorem coX0_firstWed (l : Launch) (e : Nat) (he : 5 ≤ e) (v0 : Nat) (v1 : Nat) (v2 : Int32) : zCo l (e + 1) 0 0 iX0_firstWed 0 [(0, .ref v0), (1, .ref v1), (2, .int v2)] [] (X0_firstWed v0 v1 v2) := by
  unfold X0_firstWed
  refine zco_p tkX0_firstWed 0 3 (pc' := 4) (L' := [(0, .ref v0), (1, .ref v1), (2, .int v2)]) (S' := [.ref v1, .ref v0, .int 60]) rfl ?_
  refine zco_Vi (rc := 0) (rs := 0) (mc := 0) (ms := 0) (As := [.ref v1]) (S := [.int 60]) vmX0_roundsLeft (mtX0_roundsLeft l e (by omega) v0 v1) q_1034 rfl rfl (Nat.le_of_ble_eq_true rfl) (zdk (cc := cX0_firstWed) (q := (4, .invokevirtual 47, 3)) tkX0_firstWed 3 rfl) (fun y1 => ?_)
  refine zco_imin (by omega) q_1076 q_926 q_168 q_imin (Nat.le_of_ble_eq_true rfl) (zdk (cc := cX0_firstWed) (q := (7, .invokestatic 63, 3)) tkX0_firstWed 4 rfl) ?_
  refine zco_p tkX0_firstWed 5 2 (pc' := 12) (L' := [(3, .int (if y1 < 60 then y1 else 60)), (0, .ref v0), (1, .ref v1), (2, .int v2)]) (S' := [.ref v0]) rfl ?_
  refine zco_gr fl_0_12 rfl (zdk (cc := cX0_firstWed) (q := (12, .getfield 12, 3)) tkX0_firstWed 7 rfl) (fun x2 => ?_)
  refine zco_p tkX0_firstWed 8 1 (pc' := 16) (L' := [(3, .int (if y1 < 60 then y1 else 60)), (0, .ref v0), (1, .ref v1), (2, .int v2)]) (S' := [.ref v1, .ref x2]) rfl ?_
  refine zco_Vv (rc := 0) (rs := 0) (mc := 0) (ms := 0) (As := [.ref v1]) (S := []) vmX8_take (mtX8_take l e (by omega) x2 v1) q_1042 rfl rfl (Nat.le_of_ble_eq_true rfl) (zdk (cc := cX0_firstWed) (q := (16, .invokevirtual 55, 3)) tkX0_firstWed 9 rfl) ?_
  refine zco_p tkX0_firstWed 10 2 (pc' := 22) (L' := [(4, .int 0), (3, .int (if y1 < 60 then y1 else 60)), (0, .ref v0), (1, .ref v1), (2, .int v2)]) (S' := []) rfl ?_
  exact zco_sub [2, 4, 1, 0] rfl (zco_fix (Lf := fun x : Int32 => [(0, .ref v0), (2, .int v2), (3, .int (if y1 < 60 then y1 else 60)), (4, .int x)]) (Sf := fun _ => []) (fun r hr x => coX0_firstWed_B22 l e he v0 v2 (if y1 < 60 then y1 else 60) r hr x) zFU 0)
theorem mtX0_firstWed (l : Launch) (d : Nat) (hd : 6 ≤ d) (v0 : Nat) (v1 : Nat) (v2 : Int32) : zMet l d 0 0 yX0_firstWed cX0_firstWed 5 (Option.some .int) [.ref v0, .ref v1, .int v2] (X0_firstWed v0 v1 v2) := by
  obtain ⟨e, rfl⟩ : ∃ e, d = e + 1 := ⟨d - 1, by omega⟩
  exact zmet_of (own := RX0) (ini := false) (by decide +kernel) rfl (fun _ => by contradiction) (Nat.le_of_ble_eq_true rfl) (coX0_firstWed l e (by omega) v0 v1 v2)
abbrev iX11_when : zI := (RX11, cX11_when, 3, (Option.some .int), false)
def tX11_when : List (Nat × Instr × Nat) := [(0, .aload_n 0, 1), (1, .getfield 51, 3), (4, .iload_n 1, 1), (5, .invokevirtual 184, 3), (8, .istore_n 2, 1), (9, .iload_n 2, 1), (10, .iconst (-1), 1), (11, .if_icmp .ne 7, 3), (14, .iconst (-1), 1), (15, .goto 15, 3), (18, .aload_n 0, 1), (19, .getfield 79, 3), (22, .aload_n 0, 1), (23, .getfield 61, 3), (26, .iload_n 2, 1), (27, .invokevirtual 256, 3), (30, .ireturn, 1)]
set_option maxRecDepth 100000 in
theorem tkX11_when : ∀ q ∈ tX11_when, decode cX11_when q.1 = .ok q.2 := by decide +kernel
theorem vmX11_when : zVM yX11_when cX11_when 3 (Option.some .int) 1 11 := ⟨kX11_when, q_1069, q_1070, q_149, ⟨_, rfl, rfl⟩, by decide +kernel, by decide⟩
set_option maxHeartbeats 2000000 in
set_option maxRecDepth 20000 in
theorem coX11_when (l : Launch) (e : Nat) (he : 6 ≤ e) (v0 : Nat) (v1 : Int32) : zCo l (e + 1) 0 0 iX11_when 0 [(0, .ref v0), (1, .int v1)] [] (X11_when v0 v1) := by
  unfold X11_when
  refine zco_p tkX11_when 0 1 (pc' := 1) (L' := [(0, .ref v0), (1, .int v1)]) (S' := [.ref v0]) rfl ?_
  refine zco_gr fl_11_51 rfl (zdk (cc := cX11_when) (q := (1, .getfield 51, 3)) tkX11_when 1 rfl) (fun x1 => ?_)
  refine zco_p tkX11_when 2 1 (pc' := 5) (L' := [(0, .ref v0), (1, .int v1)]) (S' := [.int v1, .ref x1]) rfl ?_
  refine zco_Vi (rc := 0) (rs := 0) (mc := 0) (ms := 0) (As := [.int v1]) (S := []) vmX1_slot (mtX1_slot l e (by omega) x1 v1) q_932 rfl rfl (Nat.le_of_ble_eq_true rfl) (zdk (cc := cX11_when) (q := (5, .invokevirtual 184, 3)) tkX11_when 3 rfl) (fun y2 => ?_)
  refine zco_p tkX11_when 4 3 (pc' := 11) (L' := [(2, .int y2), (0, .ref v0), (1, .int v1)]) (S' := [.int ((-1)), .int y2]) rfl ?_
  refine zco_icmp_ne (tgt := 18) (zdk (cc := cX11_when) (q := (11, .if_icmp .ne 7, 3)) tkX11_when 7 rfl) rfl ?_ ?_
  · refine zco_p tkX11_when 10 1 (pc' := 19) (L' := [(2, .int y2), (0, .ref v0), (1, .int v1)]) (S' := [.ref v0]) rfl ?_
    refine zco_gr fl_11_79 rfl (zdk (cc := cX11_when) (q := (19, .getfield 79, 3)) tkX11_when 11 rfl) (fun x3 => ?_)
    refine zco_p tkX11_when 12 1 (pc' := 23) (L' := [(2, .int y2), (0, .ref v0), (1, .int v1)]) (S' := [.ref v0, .ref x3]) rfl ?_
    refine zco_gr fl_11_61 rfl (zdk (cc := cX11_when) (q := (23, .getfield 61, 3)) tkX11_when 13 rfl) (fun x4 => ?_)
    refine zco_p tkX11_when 14 1 (pc' := 27) (L' := [(2, .int y2), (0, .ref v0), (1, .int v1)]) (S' := [.int y2, .ref x4, .ref x3]) rfl ?_
    refine zco_Vi (rc := 0) (rs := 0) (mc := 0) (ms := 0) (As := [.ref x4, .int y2]) (S := []) vmX0_firstWed (mtX0_firstWed l e (by omega) x3 x4 y2) q_1072 rfl rfl (Nat.le_of_ble_eq_true rfl) (zdk (cc := cX11_when) (q := (27, .invokevirtual 256, 3)) tkX11_when 15 rfl) (fun y5 => ?_)
    exact zco_iret rfl rfl rfl (zdk (cc := cX11_when) (q := (30, .ireturn, 1)) tkX11_when 16 rfl)
  · refine zco_p tkX11_when 8 2 (pc' := 30) (L' := [(2, .int y2), (0, .ref v0), (1, .int v1)]) (S' := [.int ((-1))]) rfl ?_
    exact zco_iret rfl rfl rfl (zdk (cc := cX11_when) (q := (30, .ireturn, 1)) tkX11_when 16 rfl)
theorem mtX11_when (l : Launch) (d : Nat) (hd : 7 ≤ d) (v0 : Nat) (v1 : Int32) : zMet l d 0 0 yX11_when cX11_when 3 (Option.some .int) [.ref v0, .int v1] (X11_when v0 v1) := by
  obtain ⟨e, rfl⟩ : ∃ e, d = e + 1 := ⟨d - 1, by omega⟩
  exact zmet_of (own := RX11) (ini := false) (by decide +kernel) rfl (fun _ => by contradiction) (Nat.le_of_ble_eq_true rfl) (coX11_when l e (by omega) v0 v1)
abbrev iX11_pairs : zI := (RX11, cX11_pairs, 2, (Option.some .int), false)
def tX11_pairs : List (Nat × Instr × Nat) := [(0, .aload_n 0, 1), (1, .getfield 79, 3), (4, .aload_n 0, 1), (5, .getfield 61, 3), (8, .iload_n 1, 1), (9, .iconst 0, 1), (10, .bipush 60, 2), (12, .invokevirtual 248, 3), (15, .ifCond .eq 21, 3), (18, .aload_n 0, 1), (19, .getfield 79, 3), (22, .aload_n 0, 1), (23, .getfield 61, 3), (26, .iload_n 1, 1), (27, .invokevirtual 252, 3), (30, .invokevirtual 175, 3), (33, .goto 4, 3), (36, .iconst (-1), 1), (37, .ireturn, 1)]
set_option maxRecDepth 100000 in
theorem tkX11_pairs : ∀ q ∈ tX11_pairs, decode cX11_pairs q.1 = .ok q.2 := by decide +kernel
theorem vmX11_pairs : zVM yX11_pairs cX11_pairs 2 (Option.some .int) 1 11 := ⟨kX11_pairs, q_1078, q_1079, q_149, ⟨_, rfl, rfl⟩, by decide +kernel, by decide⟩
set_option maxHeartbeats 2000000 in
set_option maxRecDepth 20000 in
theorem coX11_pairs (l : Launch) (e : Nat) (he : 7 ≤ e) (v0 : Nat) (v1 : Int32) : zCo l (e + 1) 0 0 iX11_pairs 0 [(0, .ref v0), (1, .int v1)] [] (X11_pairs v0 v1) := by
  unfold X11_pairs
  refine zco_p tkX11_pairs 0 1 (pc' := 1) (L' := [(0, .ref v0), (1, .int v1)]) (S' := [.ref v0]) rfl ?_
  refine zco_gr fl_11_79 rfl (zdk (cc := cX11_pairs) (q := (1, .getfield 79, 3)) tkX11_pairs 1 rfl) (fun x1 => ?_)
  refine zco_p tkX11_pairs 2 1 (pc' := 5) (L' := [(0, .ref v0), (1, .int v1)]) (S' := [.ref v0, .ref x1]) rfl ?_
  refine zco_gr fl_11_61 rfl (zdk (cc := cX11_pairs) (q := (5, .getfield 61, 3)) tkX11_pairs 3 rfl) (fun x2 => ?_)
  refine zco_p tkX11_pairs 4 3 (pc' := 12) (L' := [(0, .ref v0), (1, .int v1)]) (S' := [.int 60, .int 0, .int v1, .ref x2, .ref x1]) rfl ?_
  refine zco_Vi (rc := 0) (rs := 0) (mc := 0) (ms := 0) (As := [.ref x2, .int v1, .int 0, .int 60]) (S := []) vmX0_canCome (mtX0_canCome l e (by omega) x1 x2 v1 0 60) q_1030 rfl rfl (Nat.le_of_ble_eq_true rfl) (zdk (cc := cX11_pairs) (q := (12, .invokevirtual 248, 3)) tkX11_pairs 7 rfl) (fun y3 => ?_)
  refine zco_if_eq (tgt := 36) (zdk (cc := cX11_pairs) (q := (15, .ifCond .eq 21, 3)) tkX11_pairs 8 rfl) rfl ?_ ?_
  · refine zco_p tkX11_pairs 17 1 (pc' := 37) (L' := [(0, .ref v0), (1, .int v1)]) (S' := [.int ((-1))]) rfl ?_
    exact zco_iret rfl rfl rfl (zdk (cc := cX11_pairs) (q := (37, .ireturn, 1)) tkX11_pairs 18 rfl)
  · refine zco_p tkX11_pairs 9 1 (pc' := 19) (L' := [(0, .ref v0), (1, .int v1)]) (S' := [.ref v0]) rfl ?_
    refine zco_gr fl_11_79 rfl (zdk (cc := cX11_pairs) (q := (19, .getfield 79, 3)) tkX11_pairs 10 rfl) (fun x4 => ?_)
    refine zco_p tkX11_pairs 11 1 (pc' := 23) (L' := [(0, .ref v0), (1, .int v1)]) (S' := [.ref v0, .ref x4]) rfl ?_
    refine zco_gr fl_11_61 rfl (zdk (cc := cX11_pairs) (q := (23, .getfield 61, 3)) tkX11_pairs 12 rfl) (fun x5 => ?_)
    refine zco_p tkX11_pairs 13 1 (pc' := 27) (L' := [(0, .ref v0), (1, .int v1)]) (S' := [.int v1, .ref x5, .ref x4]) rfl ?_
    refine zco_Vr (rc := 0) (rs := 0) (mc := 0) (ms := 0) (As := [.ref x5, .int v1]) (S := []) vmX0_behind (mtX0_behind l e (by omega) x4 x5 v1) q_1038 rfl rfl (Nat.le_of_ble_eq_true rfl) (zdk (cc := cX11_pairs) (q := (27, .invokevirtual 252, 3)) tkX11_pairs 14 rfl) (fun y6 => ?_)
    refine zco_Vi (rc := 0) (rs := 0) (mc := 0) (ms := 0) (As := []) (S := []) vmX8_wedPairs (mtX8_wedPairs l e (by omega) y6) q_917 rfl rfl (Nat.le_of_ble_eq_true rfl) (zdk (cc := cX11_pairs) (q := (30, .invokevirtual 175, 3)) tkX11_pairs 15 rfl) (fun y7 => ?_)
    refine zco_p tkX11_pairs 16 1 (pc' := 37) (L' := [(0, .ref v0), (1, .int v1)]) (S' := [.int y7]) rfl ?_
    exact zco_iret rfl rfl rfl (zdk (cc := cX11_pairs) (q := (37, .ireturn, 1)) tkX11_pairs 18 rfl)
theorem mtX11_pairs (l : Launch) (d : Nat) (hd : 8 ≤ d) (v0 : Nat) (v1 : Int32) : zMet l d 0 0 yX11_pairs cX11_pairs 2 (Option.some .int) [.ref v0, .int v1] (X11_pairs v0 v1) := by
  obtain ⟨e, rfl⟩ : ∃ e, d = e + 1 := ⟨d - 1, by omega⟩
  exact zmet_of (own := RX11) (ini := false) (by decide +kernel) rfl (fun _ => by contradiction) (Nat.le_of_ble_eq_true rfl) (coX11_pairs l e (by omega) v0 v1)
abbrev iX5_withRight : zI := (RX5, cX5_withRight, 7, (Option.some .int), false)
def tX5_withRight : List (Nat × Instr × Nat) := [(0, .bipush 6, 2), (2, .iload 4, 2), (4, .iadd, 1), (5, .istore 6, 2), (7, .iload 5, 2), (9, .iload 4, 2), (11, .ishr, 1), (12, .iconst 1, 1), (13, .iand, 1), (14, .iconst 1, 1), (15, .if_icmp .eq 13, 3), (18, .aload_n 1, 1), (19, .iload_n 3, 1), (20, .iload 6, 2), (22, .invokevirtual 49, 3), (25, .ifCond .eq 5, 3), (28, .iconst (-1), 1), (29, .ireturn, 1), (30, .aload_n 2, 1), (31, .getfield 53, 3), (34, .iload_n 3, 1), (35, .iload 6, 2), (37, .invokestatic 58, 3), (40, .iaload, 1), (41, .aload_n 2, 1), (42, .getfield 53, 3), (45, .iload 6, 2), (47, .iload_n 3, 1), (48, .invokestatic 58, 3), (51, .iaload, 1), (52, .iadd, 1), (53, .aload_n 0, 1), (54, .getfield 18, 3), (57, .iload_n 3, 1), (58, .iconst 1, 1), (59, .iadd, 1), (60, .bipush 6, 2), (62, .ishl, 1), (63, .iload 5, 2), (65, .iconst 1, 1), (66, .iload 4, 2), (68, .ishl, 1), (69, .ior, 1), (70, .iadd, 1), (71, .iaload, 1), (72, .iadd, 1), (73, .ireturn, 1)]
set_option maxRecDepth 100000 in
theorem tkX5_withRight : ∀ q ∈ tX5_withRight, decode cX5_withRight q.1 = .ok q.2 := by decide +kernel
theorem vmX5_withRight : zVM yX5_withRight cX5_withRight 7 (Option.some .int) 5 5 := ⟨kX5_withRight, q_1092, q_27, q_159, ⟨_, rfl, rfl⟩, by decide +kernel, by decide⟩
set_option maxHeartbeats 2000000 in
set_option maxRecDepth 20000 in
theorem coX5_withRight (l : Launch) (e : Nat) (he : 2 ≤ e) (v0 : Nat) (v1 : Nat) (v2 : Nat) (v3 : Int32) (v4 : Int32) (v5 : Int32) : zCo l (e + 1) 0 0 iX5_withRight 0 [(0, .ref v0), (1, .ref v1), (2, .ref v2), (3, .int v3), (4, .int v4), (5, .int v5)] [] (X5_withRight v0 v1 v2 v3 v4 v5) := by
  unfold X5_withRight
  refine zco_p tkX5_withRight 0 10 (pc' := 15) (L' := [(6, .int (6 + v4)), (0, .ref v0), (1, .ref v1), (2, .ref v2), (3, .int v3), (4, .int v4), (5, .int v5)]) (S' := [.int 1, .int ((v5 >>> (v4 &&& 31)) &&& 1)]) rfl ?_
  refine zco_icmp_eq (tgt := 28) (zdk (cc := cX5_withRight) (q := (15, .if_icmp .eq 13, 3)) tkX5_withRight 10 rfl) rfl ?_ ?_
  · refine zco_p tkX5_withRight 16 1 (pc' := 29) (L' := [(6, .int (6 + v4)), (0, .ref v0), (1, .ref v1), (2, .ref v2), (3, .int v3), (4, .int v4), (5, .int v5)]) (S' := [.int ((-1))]) rfl ?_
    exact zco_iret rfl rfl rfl (zdk (cc := cX5_withRight) (q := (29, .ireturn, 1)) tkX5_withRight 17 rfl)
  · refine zco_p tkX5_withRight 11 3 (pc' := 22) (L' := [(6, .int (6 + v4)), (0, .ref v0), (1, .ref v1), (2, .ref v2), (3, .int v3), (4, .int v4), (5, .int v5)]) (S' := [.int (6 + v4), .int v3, .ref v1]) rfl ?_
    refine zco_Vi (rc := 0) (rs := 0) (mc := 0) (ms := 0) (As := [.int v3, .int (6 + v4)]) (S := []) vmX1_areKin (mtX1_areKin l e (by omega) v1 v3 (6 + v4)) q_1094 rfl rfl (Nat.le_of_ble_eq_true rfl) (zdk (cc := cX5_withRight) (q := (22, .invokevirtual 49, 3)) tkX5_withRight 14 rfl) (fun y1 => ?_)
    refine zco_if_eq (tgt := 30) (zdk (cc := cX5_withRight) (q := (25, .ifCond .eq 5, 3)) tkX5_withRight 15 rfl) rfl ?_ ?_
    · refine zco_p tkX5_withRight 18 1 (pc' := 31) (L' := [(6, .int (6 + v4)), (0, .ref v0), (1, .ref v1), (2, .ref v2), (3, .int v3), (4, .int v4), (5, .int v5)]) (S' := [.ref v2]) rfl ?_
      refine zco_gr fl_5_53 rfl (zdk (cc := cX5_withRight) (q := (31, .getfield 53, 3)) tkX5_withRight 19 rfl) (fun x2 => ?_)
      refine zco_p tkX5_withRight 20 2 (pc' := 37) (L' := [(6, .int (6 + v4)), (0, .ref v0), (1, .ref v1), (2, .ref v2), (3, .int v3), (4, .int v4), (5, .int v5)]) (S' := [.int (6 + v4), .int v3, .ref x2]) rfl ?_
      refine zco_Ni (rc := 0) (rs := 0) (mc := 0) (ms := 0) (As := [.int v3, .int (6 + v4)]) (S := [.ref x2]) vmX11_cell (mtX11_cell l e (by omega) v3 (6 + v4)) (host := "ClothWedding") (by decide +kernel) rfl rfl (Nat.le_of_ble_eq_true rfl) (zdk (cc := cX5_withRight) (q := (37, .invokestatic 58, 3)) tkX5_withRight 22 rfl) (fun y3 => ?_)
      refine zco_iaload (zdk (cc := cX5_withRight) (q := (40, .iaload, 1)) tkX5_withRight 23 rfl) (fun x4 => ?_)
      refine zco_p tkX5_withRight 24 1 (pc' := 42) (L' := [(6, .int (6 + v4)), (0, .ref v0), (1, .ref v1), (2, .ref v2), (3, .int v3), (4, .int v4), (5, .int v5)]) (S' := [.ref v2, .int x4]) rfl ?_
      refine zco_gr fl_5_53 rfl (zdk (cc := cX5_withRight) (q := (42, .getfield 53, 3)) tkX5_withRight 25 rfl) (fun x5 => ?_)
      refine zco_p tkX5_withRight 26 2 (pc' := 48) (L' := [(6, .int (6 + v4)), (0, .ref v0), (1, .ref v1), (2, .ref v2), (3, .int v3), (4, .int v4), (5, .int v5)]) (S' := [.int v3, .int (6 + v4), .ref x5, .int x4]) rfl ?_
      refine zco_Ni (rc := 0) (rs := 0) (mc := 0) (ms := 0) (As := [.int (6 + v4), .int v3]) (S := [.ref x5, .int x4]) vmX11_cell (mtX11_cell l e (by omega) (6 + v4) v3) (host := "ClothWedding") (by decide +kernel) rfl rfl (Nat.le_of_ble_eq_true rfl) (zdk (cc := cX5_withRight) (q := (48, .invokestatic 58, 3)) tkX5_withRight 28 rfl) (fun y6 => ?_)
      refine zco_iaload (zdk (cc := cX5_withRight) (q := (51, .iaload, 1)) tkX5_withRight 29 rfl) (fun x7 => ?_)
      refine zco_p tkX5_withRight 30 2 (pc' := 54) (L' := [(6, .int (6 + v4)), (0, .ref v0), (1, .ref v1), (2, .ref v2), (3, .int v3), (4, .int v4), (5, .int v5)]) (S' := [.ref v0, .int (x4 + x7)]) rfl ?_
      refine zco_gr fl_5_18 rfl (zdk (cc := cX5_withRight) (q := (54, .getfield 18, 3)) tkX5_withRight 32 rfl) (fun x8 => ?_)
      refine zco_p tkX5_withRight 33 11 (pc' := 71) (L' := [(6, .int (6 + v4)), (0, .ref v0), (1, .ref v1), (2, .ref v2), (3, .int v3), (4, .int v4), (5, .int v5)]) (S' := [.int (((v3 + 1) <<< (6 &&& 31)) + (v5 ||| ((1 : Int32) <<< (v4 &&& 31)))), .ref x8, .int (x4 + x7)]) rfl ?_
      refine zco_iaload (zdk (cc := cX5_withRight) (q := (71, .iaload, 1)) tkX5_withRight 44 rfl) (fun x9 => ?_)
      refine zco_p tkX5_withRight 45 1 (pc' := 73) (L' := [(6, .int (6 + v4)), (0, .ref v0), (1, .ref v1), (2, .ref v2), (3, .int v3), (4, .int v4), (5, .int v5)]) (S' := [.int ((x4 + x7) + x9)]) rfl ?_
      exact zco_iret rfl rfl rfl (zdk (cc := cX5_withRight) (q := (73, .ireturn, 1)) tkX5_withRight 46 rfl)
    · refine zco_p tkX5_withRight 16 1 (pc' := 29) (L' := [(6, .int (6 + v4)), (0, .ref v0), (1, .ref v1), (2, .ref v2), (3, .int v3), (4, .int v4), (5, .int v5)]) (S' := [.int ((-1))]) rfl ?_
      exact zco_iret rfl rfl rfl (zdk (cc := cX5_withRight) (q := (29, .ireturn, 1)) tkX5_withRight 17 rfl)
theorem mtX5_withRight (l : Launch) (d : Nat) (hd : 3 ≤ d) (v0 : Nat) (v1 : Nat) (v2 : Nat) (v3 : Int32) (v4 : Int32) (v5 : Int32) : zMet l d 0 0 yX5_withRight cX5_withRight 7 (Option.some .int) [.ref v0, .ref v1, .ref v2, .int v3, .int v4, .int v5] (X5_withRight v0 v1 v2 v3 v4 v5) := by
  obtain ⟨e, rfl⟩ : ∃ e, d = e + 1 := ⟨d - 1, by omega⟩
  exact zmet_of (own := RX5) (ini := false) (by decide +kernel) rfl (fun _ => by contradiction) (Nat.le_of_ble_eq_true rfl) (coX5_withRight l e (by omega) v0 v1 v2 v3 v4 v5)
abbrev iX5_chooseFirst : zI := (RX5, cX5_chooseFirst, 8, (Option.none : Option FieldType), false)
def tX5_chooseFirst : List (Nat × Instr × Nat) := [(0, .iconst 0, 1), (1, .istore_n 3, 1), (2, .iconst 0, 1), (3, .istore 4, 2), (5, .iload 4, 2), (7, .aload_n 1, 1), (8, .getfield 30, 3), (11, .iconst 0, 1), (12, .iaload, 1), (13, .if_icmp .ge 112, 3), (16, .aload_n 0, 1), (17, .getfield 18, 3), (20, .iload 4, 2), (22, .bipush 6, 2), (24, .ishl, 1), (25, .iload_n 3, 1), (26, .iadd, 1), (27, .iaload, 1), (28, .istore 5, 2), (30, .aload_n 0, 1), (31, .getfield 18, 3), (34, .iload 4, 2), (36, .iconst 1, 1), (37, .iadd, 1), (38, .bipush 6, 2), (40, .ishl, 1), (41, .iload_n 3, 1), (42, .iadd, 1), (43, .iaload, 1), (44, .iload 5, 2), (46, .if_icmp .ne 7, 3), (49, .iconst 1, 1), (50, .goto 4, 3), (53, .iconst 0, 1), (54, .istore 6, 2), (56, .iconst 0, 1), (57, .istore 7, 2), (59, .iload 7, 2), (61, .aload_n 1, 1), (62, .getfield 30, 3), (65, .iconst 1, 1), (66, .iaload, 1), (67, .if_icmp .ge 52, 3), (70, .iload 6, 2), (72, .ifCond .ne 47, 3), (75, .aload_n 0, 1), (76, .aload_n 1, 1), (77, .aload_n 2, 1), (78, .iload 4, 2), (80, .iload 7, 2), (82, .iload_n 3, 1), (83, .invokevirtual 35, 3), (86, .iload 5, 2), (88, .if_icmp .ne 25, 3), (91, .aload_n 0, 1), (92, .getfield 9, 3), (95, .iload 4, 2), (97, .bipush 6, 2), (99, .iload 7, 2), (101, .iadd, 1), (102, .iastore, 1), (103, .iload_n 3, 1), (104, .iconst 1, 1), (105, .iload 7, 2), (107, .ishl, 1), (108, .ior, 1), (109, .istore_n 3, 1), (110, .iconst 1, 1), (111, .istore 6, 2), (113, .iinc 7 1, 3), (116, .goto (-57), 3), (119, .iinc 4 1, 3), (122, .goto (-117), 3), (125, .return_, 1)]
set_option maxRecDepth 100000 in
theorem tkX5_chooseFirst : ∀ q ∈ tX5_chooseFirst, decode cX5_chooseFirst q.1 = .ok q.2 := by decide +kernel
theorem vmX5_chooseFirst : zVM yX5_chooseFirst cX5_chooseFirst 8 (Option.none : Option FieldType) 2 5 := ⟨kX5_chooseFirst, q_1099, q_28, q_159, ⟨_, rfl, rfl⟩, by decide +kernel, by decide⟩
set_option maxHeartbeats 2000000 in
set_option maxRecDepth 20000 in
theorem coX5_chooseFirst_J119 (l : Launch) (e : Nat) (he : 3 ≤ e) (v0 : Nat) (v1 : Nat) (v2 : Nat) (v3 : Int32) (v4 : Int32) (r5 : Int32 × Int32 → zM) (hr5 : ∀ x : Int32 × Int32, zCo l (e + 1) 0 0 iX5_chooseFirst 5 [(0, .ref v0), (1, .ref v1), (2, .ref v2), (3, .int x.1), (4, .int x.2)] [] (r5 x)) : zCo l (e + 1) 0 0 iX5_chooseFirst 119 [(0, .ref v0), (1, .ref v1), (2, .ref v2), (3, .int v3), (4, .int v4)] [] (X5_chooseFirst_J119 r5 v0 v1 v2 v3 v4) := by
  unfold X5_chooseFirst_J119
  refine zco_p tkX5_chooseFirst 71 2 (pc' := 5) (L' := [(4, .int (v4 + 1)), (0, .ref v0), (1, .ref v1), (2, .ref v2), (3, .int v3)]) (S' := []) rfl ?_
  exact zco_sub [1, 2, 3, 4, 0] rfl (hr5 (v3, v4 + 1))
set_option maxHeartbeats 2000000 in
set_option maxRecDepth 20000 in
theorem coX5_chooseFirst_J113 (l : Launch) (e : Nat) (he : 3 ≤ e) (v0 : Nat) (v1 : Nat) (v2 : Nat) (v3 : Int32) (v4 : Int32) (v5 : Int32) (v6 : Int32) (v7 : Int32) (r5 : Int32 × Int32 → zM) (hr5 : ∀ x : Int32 × Int32, zCo l (e + 1) 0 0 iX5_chooseFirst 5 [(0, .ref v0), (1, .ref v1), (2, .ref v2), (3, .int x.1), (4, .int x.2)] [] (r5 x)) (r59 : Int32 × Int32 × Int32 → zM) (hr59 : ∀ x : Int32 × Int32 × Int32, zCo l (e + 1) 0 0 iX5_chooseFirst 59 [(0, .ref v0), (1, .ref v1), (2, .ref v2), (3, .int x.1), (4, .int v4), (5, .int v5), (6, .int x.2.1), (7, .int x.2.2)] [] (r59 x)) : zCo l (e + 1) 0 0 iX5_chooseFirst 113 [(0, .ref v0), (1, .ref v1), (2, .ref v2), (3, .int v3), (4, .int v4), (5, .int v5), (6, .int v6), (7, .int v7)] [] (X5_chooseFirst_J113 r5 r59 v0 v1 v2 v3 v4 v5 v6 v7) := by
  unfold X5_chooseFirst_J113
  refine zco_p tkX5_chooseFirst 69 2 (pc' := 59) (L' := [(7, .int (v7 + 1)), (0, .ref v0), (1, .ref v1), (2, .ref v2), (3, .int v3), (4, .int v4), (5, .int v5), (6, .int v6)]) (S' := []) rfl ?_
  exact zco_sub [1, 2, 3, 4, 5, 6, 7, 0] rfl (hr59 (v3, v6, v7 + 1))
set_option maxHeartbeats 2000000 in
set_option maxRecDepth 20000 in
theorem coX5_chooseFirst_B59 (l : Launch) (e : Nat) (he : 3 ≤ e) (v0 : Nat) (v1 : Nat) (v2 : Nat) (v4 : Int32) (v5 : Int32) (r5 : Int32 × Int32 → zM) (hr5 : ∀ x : Int32 × Int32, zCo l (e + 1) 0 0 iX5_chooseFirst 5 [(0, .ref v0), (1, .ref v1), (2, .ref v2), (3, .int x.1), (4, .int x.2)] [] (r5 x)) (r59 : Int32 × Int32 × Int32 → zM) (hr59 : ∀ x : Int32 × Int32 × Int32, zCo l (e + 1) 0 0 iX5_chooseFirst 59 [(0, .ref v0), (1, .ref v1), (2, .ref v2), (3, .int x.1), (4, .int v4), (5, .int v5), (6, .int x.2.1), (7, .int x.2.2)] [] (r59 x)) (v3 : Int32) (v6 : Int32) (v7 : Int32) : zCo l (e + 1) 0 0 iX5_chooseFirst 59 [(0, .ref v0), (1, .ref v1), (2, .ref v2), (3, .int v3), (4, .int v4), (5, .int v5), (6, .int v6), (7, .int v7)] [] (X5_chooseFirst_B59 r5 v0 v1 v2 v4 v5 r59 v3 v6 v7) := by
  unfold X5_chooseFirst_B59
  refine zco_p tkX5_chooseFirst 37 2 (pc' := 62) (L' := [(0, .ref v0), (1, .ref v1), (2, .ref v2), (3, .int v3), (4, .int v4), (5, .int v5), (6, .int v6), (7, .int v7)]) (S' := [.ref v1, .int v7]) rfl ?_
  refine zco_gr fl_5_30 rfl (zdk (cc := cX5_chooseFirst) (q := (62, .getfield 30, 3)) tkX5_chooseFirst 39 rfl) (fun x1 => ?_)
  refine zco_p tkX5_chooseFirst 40 1 (pc' := 66) (L' := [(0, .ref v0), (1, .ref v1), (2, .ref v2), (3, .int v3), (4, .int v4), (5, .int v5), (6, .int v6), (7, .int v7)]) (S' := [.int 1, .ref x1, .int v7]) rfl ?_
  refine zco_iaload (zdk (cc := cX5_chooseFirst) (q := (66, .iaload, 1)) tkX5_chooseFirst 41 rfl) (fun x2 => ?_)
  refine zco_icmp_ge (tgt := 119) (zdk (cc := cX5_chooseFirst) (q := (67, .if_icmp .ge 52, 3)) tkX5_chooseFirst 42 rfl) rfl ?_ ?_
  · exact zco_sub [0, 1, 2, 3, 4] rfl (coX5_chooseFirst_J119 l e he v0 v1 v2 v3 v4 r5 hr5)
  · refine zco_p tkX5_chooseFirst 43 1 (pc' := 72) (L' := [(0, .ref v0), (1, .ref v1), (2, .ref v2), (3, .int v3), (4, .int v4), (5, .int v5), (6, .int v6), (7, .int v7)]) (S' := [.int v6]) rfl ?_
    refine zco_if_ne (tgt := 119) (zdk (cc := cX5_chooseFirst) (q := (72, .ifCond .ne 47, 3)) tkX5_chooseFirst 44 rfl) rfl ?_ ?_
    · exact zco_sub [0, 1, 2, 3, 4] rfl (coX5_chooseFirst_J119 l e he v0 v1 v2 v3 v4 r5 hr5)
    · refine zco_p tkX5_chooseFirst 45 6 (pc' := 83) (L' := [(0, .ref v0), (1, .ref v1), (2, .ref v2), (3, .int v3), (4, .int v4), (5, .int v5), (6, .int v6), (7, .int v7)]) (S' := [.int v3, .int v7, .int v4, .ref v2, .ref v1, .ref v0]) rfl ?_
      refine zco_Vi (rc := 0) (rs := 0) (mc := 0) (ms := 0) (As := [.ref v1, .ref v2, .int v4, .int v7, .int v3]) (S := []) vmX5_withRight (mtX5_withRight l e (by omega) v0 v1 v2 v4 v7 v3) q_1090 rfl rfl (Nat.le_of_ble_eq_true rfl) (zdk (cc := cX5_chooseFirst) (q := (83, .invokevirtual 35, 3)) tkX5_chooseFirst 51 rfl) (fun y3 => ?_)
      refine zco_p tkX5_chooseFirst 52 1 (pc' := 88) (L' := [(0, .ref v0), (1, .ref v1), (2, .ref v2), (3, .int v3), (4, .int v4), (5, .int v5), (6, .int v6), (7, .int v7)]) (S' := [.int v5, .int y3]) rfl ?_
      refine zco_icmp_ne (tgt := 113) (zdk (cc := cX5_chooseFirst) (q := (88, .if_icmp .ne 25, 3)) tkX5_chooseFirst 53 rfl) rfl ?_ ?_
      · exact zco_sub [0, 1, 2, 3, 4, 5, 6, 7] rfl (coX5_chooseFirst_J113 l e he v0 v1 v2 v3 v4 v5 v6 v7 r5 hr5 r59 hr59)
      · refine zco_p tkX5_chooseFirst 54 1 (pc' := 92) (L' := [(0, .ref v0), (1, .ref v1), (2, .ref v2), (3, .int v3), (4, .int v4), (5, .int v5), (6, .int v6), (7, .int v7)]) (S' := [.ref v0]) rfl ?_
        refine zco_gr fl_5_9 rfl (zdk (cc := cX5_chooseFirst) (q := (92, .getfield 9, 3)) tkX5_chooseFirst 55 rfl) (fun x4 => ?_)
        refine zco_p tkX5_chooseFirst 56 4 (pc' := 102) (L' := [(0, .ref v0), (1, .ref v1), (2, .ref v2), (3, .int v3), (4, .int v4), (5, .int v5), (6, .int v6), (7, .int v7)]) (S' := [.int (6 + v7), .int v4, .ref x4]) rfl ?_
        refine zco_iastore (zdk (cc := cX5_chooseFirst) (q := (102, .iastore, 1)) tkX5_chooseFirst 60 rfl) ?_
        refine zco_p tkX5_chooseFirst 61 8 (pc' := 113) (L' := [(6, .int 1), (3, .int (v3 ||| ((1 : Int32) <<< (v7 &&& 31)))), (0, .ref v0), (1, .ref v1), (2, .ref v2), (4, .int v4), (5, .int v5), (7, .int v7)]) (S' := []) rfl ?_
        exact zco_sub [2, 3, 4, 1, 5, 6, 0, 7] rfl (coX5_chooseFirst_J113 l e he v0 v1 v2 (v3 ||| ((1 : Int32) <<< (v7 &&& 31))) v4 v5 1 v7 r5 hr5 r59 hr59)
set_option maxHeartbeats 2000000 in
set_option maxRecDepth 20000 in
theorem coX5_chooseFirst_J54 (l : Launch) (e : Nat) (he : 3 ≤ e) (v0 : Nat) (v1 : Nat) (v2 : Nat) (v3 : Int32) (v4 : Int32) (v5 : Int32) (r5 : Int32 × Int32 → zM) (hr5 : ∀ x : Int32 × Int32, zCo l (e + 1) 0 0 iX5_chooseFirst 5 [(0, .ref v0), (1, .ref v1), (2, .ref v2), (3, .int x.1), (4, .int x.2)] [] (r5 x)) (s0 : Int32) : zCo l (e + 1) 0 0 iX5_chooseFirst 54 [(0, .ref v0), (1, .ref v1), (2, .ref v2), (3, .int v3), (4, .int v4), (5, .int v5)] [.int s0] (X5_chooseFirst_J54 r5 v0 v1 v2 v3 v4 v5 s0) := by
  unfold X5_chooseFirst_J54
  refine zco_p tkX5_chooseFirst 34 3 (pc' := 59) (L' := [(7, .int 0), (6, .int s0), (0, .ref v0), (1, .ref v1), (2, .ref v2), (3, .int v3), (4, .int v4), (5, .int v5)]) (S' := []) rfl ?_
  exact zco_sub [2, 3, 4, 5, 6, 7, 1, 0] rfl (zco_fix (Lf := fun x : Int32 × Int32 × Int32 => [(0, .ref v0), (1, .ref v1), (2, .ref v2), (3, .int x.1), (4, .int v4), (5, .int v5), (6, .int x.2.1), (7, .int x.2.2)]) (Sf := fun _ => []) (fun r hr x => coX5_chooseFirst_B59 l e he v0 v1 v2 v4 v5 r5 hr5 r hr x.1 x.2.1 x.2.2) zFU (v3, s0, 0))
set_option maxHeartbeats 2000000 in
set_option maxRecDepth 20000 in
theorem coX5_chooseFirst_B5 (l : Launch) (e : Nat) (he : 3 ≤ e) (v0 : Nat) (v1 : Nat) (v2 : Nat) (r5 : Int32 × Int32 → zM) (hr5 : ∀ x : Int32 × Int32, zCo l (e + 1) 0 0 iX5_chooseFirst 5 [(0, .ref v0), (1, .ref v1), (2, .ref v2), (3, .int x.1), (4, .int x.2)] [] (r5 x)) (v3 : Int32) (v4 : Int32) : zCo l (e + 1) 0 0 iX5_chooseFirst 5 [(0, .ref v0), (1, .ref v1), (2, .ref v2), (3, .int v3), (4, .int v4)] [] (X5_chooseFirst_B5 v0 v1 v2 r5 v3 v4) := by
  unfold X5_chooseFirst_B5
  refine zco_p tkX5_chooseFirst 4 2 (pc' := 8) (L' := [(0, .ref v0), (1, .ref v1), (2, .ref v2), (3, .int v3), (4, .int v4)]) (S' := [.ref v1, .int v4]) rfl ?_
  refine zco_gr fl_5_30 rfl (zdk (cc := cX5_chooseFirst) (q := (8, .getfield 30, 3)) tkX5_chooseFirst 6 rfl) (fun x1 => ?_)
  refine zco_p tkX5_chooseFirst 7 1 (pc' := 12) (L' := [(0, .ref v0), (1, .ref v1), (2, .ref v2), (3, .int v3), (4, .int v4)]) (S' := [.int 0, .ref x1, .int v4]) rfl ?_
  refine zco_iaload (zdk (cc := cX5_chooseFirst) (q := (12, .iaload, 1)) tkX5_chooseFirst 8 rfl) (fun x2 => ?_)
  refine zco_icmp_ge (tgt := 125) (zdk (cc := cX5_chooseFirst) (q := (13, .if_icmp .ge 112, 3)) tkX5_chooseFirst 9 rfl) rfl ?_ ?_
  · exact zco_vret rfl rfl rfl (zdk (cc := cX5_chooseFirst) (q := (125, .return_, 1)) tkX5_chooseFirst 73 rfl)
  · refine zco_p tkX5_chooseFirst 10 1 (pc' := 17) (L' := [(0, .ref v0), (1, .ref v1), (2, .ref v2), (3, .int v3), (4, .int v4)]) (S' := [.ref v0]) rfl ?_
    refine zco_gr fl_5_18 rfl (zdk (cc := cX5_chooseFirst) (q := (17, .getfield 18, 3)) tkX5_chooseFirst 11 rfl) (fun x3 => ?_)
    refine zco_p tkX5_chooseFirst 12 5 (pc' := 27) (L' := [(0, .ref v0), (1, .ref v1), (2, .ref v2), (3, .int v3), (4, .int v4)]) (S' := [.int ((v4 <<< (6 &&& 31)) + v3), .ref x3]) rfl ?_
    refine zco_iaload (zdk (cc := cX5_chooseFirst) (q := (27, .iaload, 1)) tkX5_chooseFirst 17 rfl) (fun x4 => ?_)
    refine zco_p tkX5_chooseFirst 18 2 (pc' := 31) (L' := [(5, .int x4), (0, .ref v0), (1, .ref v1), (2, .ref v2), (3, .int v3), (4, .int v4)]) (S' := [.ref v0]) rfl ?_
    refine zco_gr fl_5_18 rfl (zdk (cc := cX5_chooseFirst) (q := (31, .getfield 18, 3)) tkX5_chooseFirst 20 rfl) (fun x5 => ?_)
    refine zco_p tkX5_chooseFirst 21 7 (pc' := 43) (L' := [(5, .int x4), (0, .ref v0), (1, .ref v1), (2, .ref v2), (3, .int v3), (4, .int v4)]) (S' := [.int (((v4 + 1) <<< (6 &&& 31)) + v3), .ref x5]) rfl ?_
    refine zco_iaload (zdk (cc := cX5_chooseFirst) (q := (43, .iaload, 1)) tkX5_chooseFirst 28 rfl) (fun x6 => ?_)
    refine zco_p tkX5_chooseFirst 29 1 (pc' := 46) (L' := [(5, .int x4), (0, .ref v0), (1, .ref v1), (2, .ref v2), (3, .int v3), (4, .int v4)]) (S' := [.int x4, .int x6]) rfl ?_
    refine zco_icmp_ne (tgt := 53) (zdk (cc := cX5_chooseFirst) (q := (46, .if_icmp .ne 7, 3)) tkX5_chooseFirst 30 rfl) rfl ?_ ?_
    · refine zco_p tkX5_chooseFirst 33 1 (pc' := 54) (L' := [(5, .int x4), (0, .ref v0), (1, .ref v1), (2, .ref v2), (3, .int v3), (4, .int v4)]) (S' := [.int 0]) rfl ?_
      exact zco_sub [1, 2, 3, 4, 5, 0] rfl (coX5_chooseFirst_J54 l e he v0 v1 v2 v3 v4 x4 r5 hr5 0)
    · refine zco_p tkX5_chooseFirst 31 2 (pc' := 54) (L' := [(5, .int x4), (0, .ref v0), (1, .ref v1), (2, .ref v2), (3, .int v3), (4, .int v4)]) (S' := [.int 1]) rfl ?_
      exact zco_sub [1, 2, 3, 4, 5, 0] rfl (coX5_chooseFirst_J54 l e he v0 v1 v2 v3 v4 x4 r5 hr5 1)
set_option maxHeartbeats 2000000 in
set_option maxRecDepth 20000 in
theorem coX5_chooseFirst (l : Launch) (e : Nat) (he : 3 ≤ e) (v0 : Nat) (v1 : Nat) (v2 : Nat) : zCo l (e + 1) 0 0 iX5_chooseFirst 0 [(0, .ref v0), (1, .ref v1), (2, .ref v2)] [] (X5_chooseFirst v0 v1 v2) := by
  unfold X5_chooseFirst
  refine zco_p tkX5_chooseFirst 0 4 (pc' := 5) (L' := [(4, .int 0), (3, .int 0), (0, .ref v0), (1, .ref v1), (2, .ref v2)]) (S' := []) rfl ?_
  exact zco_sub [2, 3, 4, 1, 0] rfl (zco_fix (Lf := fun x : Int32 × Int32 => [(0, .ref v0), (1, .ref v1), (2, .ref v2), (3, .int x.1), (4, .int x.2)]) (Sf := fun _ => []) (fun r hr x => coX5_chooseFirst_B5 l e he v0 v1 v2 r hr x.1 x.2) zFU (0, 0))
theorem mtX5_chooseFirst (l : Launch) (d : Nat) (hd : 4 ≤ d) (v0 : Nat) (v1 : Nat) (v2 : Nat) : zMet l d 0 0 yX5_chooseFirst cX5_chooseFirst 8 (Option.none : Option FieldType) [.ref v0, .ref v1, .ref v2] (X5_chooseFirst v0 v1 v2) := by
  obtain ⟨e, rfl⟩ : ∃ e, d = e + 1 := ⟨d - 1, by omega⟩
  exact zmet_of (own := RX5) (ini := false) (by decide +kernel) rfl (fun _ => by contradiction) (Nat.le_of_ble_eq_true rfl) (coX5_chooseFirst l e (by omega) v0 v1 v2)
abbrev iX5_findMatch : zI := (RX5, cX5_findMatch, 9, (Option.some .int), false)
def tX5_findMatch : List (Nat × Instr × Nat) := [(0, .aload_n 0, 1), (1, .getfield 9, 3), (4, .iconst (-1), 1), (5, .invokestatic 24, 3), (8, .iconst 1, 1), (9, .aload_n 1, 1), (10, .getfield 30, 3), (13, .iconst 1, 1), (14, .iaload, 1), (15, .ishl, 1), (16, .istore_n 3, 1), (17, .aload_n 1, 1), (18, .getfield 30, 3), (21, .iconst 0, 1), (22, .iaload, 1), (23, .istore 4, 2), (25, .iconst 0, 1), (26, .istore 5, 2), (28, .iload 5, 2), (30, .iload_n 3, 1), (31, .if_icmp .ge 23, 3), (34, .aload_n 0, 1), (35, .getfield 18, 3), (38, .iload 4, 2), (40, .bipush 6, 2), (42, .ishl, 1), (43, .iload 5, 2), (45, .iadd, 1), (46, .iconst 0, 1), (47, .iastore, 1), (48, .iinc 5 1, 3), (51, .goto (-23), 3), (54, .iload 4, 2), (56, .iconst 1, 1), (57, .isub, 1), (58, .istore 5, 2), (60, .iload 5, 2), (62, .ifCond .lt 95, 3), (65, .iconst 0, 1), (66, .istore 6, 2), (68, .iload 6, 2), (70, .iload_n 3, 1), (71, .if_icmp .ge 80, 3), (74, .aload_n 0, 1), (75, .getfield 18, 3), (78, .iload 5, 2), (80, .iconst 1, 1), (81, .iadd, 1), (82, .bipush 6, 2), (84, .ishl, 1), (85, .iload 6, 2), (87, .iadd, 1), (88, .iaload, 1), (89, .istore 7, 2), (91, .iconst 0, 1), (92, .istore 8, 2), (94, .iload 8, 2), (96, .aload_n 1, 1), (97, .getfield 30, 3), (100, .iconst 1, 1), (101, .iaload, 1), (102, .if_icmp .ge 28, 3), (105, .iload 7, 2), (107, .aload_n 0, 1), (108, .aload_n 1, 1), (109, .aload_n 2, 1), (110, .iload 5, 2), (112, .iload 8, 2), (114, .iload 6, 2), (116, .invokevirtual 35, 3), (119, .invokestatic 39, 3), (122, .istore 7, 2), (124, .iinc 8 1, 3), (127, .goto (-33), 3), (130, .aload_n 0, 1), (131, .getfield 18, 3), (134, .iload 5, 2), (136, .bipush 6, 2), (138, .ishl, 1), (139, .iload 6, 2), (141, .iadd, 1), (142, .iload 7, 2), (144, .iastore, 1), (145, .iinc 6 1, 3), (148, .goto (-80), 3), (151, .iinc 5 (-1), 3), (154, .goto (-94), 3), (157, .aload_n 0, 1), (158, .aload_n 1, 1), (159, .aload_n 2, 1), (160, .invokevirtual 45, 3), (163, .aload_n 0, 1), (164, .getfield 18, 3), (167, .iconst 0, 1), (168, .iaload, 1), (169, .ireturn, 1)]
set_option maxRecDepth 100000 in
theorem tkX5_findMatch : ∀ q ∈ tX5_findMatch, decode cX5_findMatch q.1 = .ok q.2 := by decide +kernel
theorem vmX5_findMatch : zVM yX5_findMatch cX5_findMatch 9 (Option.some .int) 2 5 := ⟨kX5_findMatch, q_1086, q_1087, q_159, ⟨_, rfl, rfl⟩, by decide +kernel, by decide⟩
set_option maxHeartbeats 2000000 in
set_option maxRecDepth 20000 in
theorem coX5_findMatch_J157 (l : Launch) (e : Nat) (he : 4 ≤ e) (v0 : Nat) (v1 : Nat) (v2 : Nat) : zCo l (e + 1) 0 0 iX5_findMatch 157 [(0, .ref v0), (1, .ref v1), (2, .ref v2)] [] (X5_findMatch_J157 v0 v1 v2) := by
  unfold X5_findMatch_J157
  refine zco_p tkX5_findMatch 87 3 (pc' := 160) (L' := [(0, .ref v0), (1, .ref v1), (2, .ref v2)]) (S' := [.ref v2, .ref v1, .ref v0]) rfl ?_
  refine zco_Vv (rc := 0) (rs := 0) (mc := 0) (ms := 0) (As := [.ref v1, .ref v2]) (S := []) vmX5_chooseFirst (mtX5_chooseFirst l e (by omega) v0 v1 v2) q_1097 rfl rfl (Nat.le_of_ble_eq_true rfl) (zdk (cc := cX5_findMatch) (q := (160, .invokevirtual 45, 3)) tkX5_findMatch 90 rfl) ?_
  refine zco_p tkX5_findMatch 91 1 (pc' := 164) (L' := [(0, .ref v0), (1, .ref v1), (2, .ref v2)]) (S' := [.ref v0]) rfl ?_
  refine zco_gr fl_5_18 rfl (zdk (cc := cX5_findMatch) (q := (164, .getfield 18, 3)) tkX5_findMatch 92 rfl) (fun x1 => ?_)
  refine zco_p tkX5_findMatch 93 1 (pc' := 168) (L' := [(0, .ref v0), (1, .ref v1), (2, .ref v2)]) (S' := [.int 0, .ref x1]) rfl ?_
  refine zco_iaload (zdk (cc := cX5_findMatch) (q := (168, .iaload, 1)) tkX5_findMatch 94 rfl) (fun x2 => ?_)
  exact zco_iret rfl rfl rfl (zdk (cc := cX5_findMatch) (q := (169, .ireturn, 1)) tkX5_findMatch 95 rfl)
set_option maxHeartbeats 2000000 in
set_option maxRecDepth 20000 in
theorem coX5_findMatch_J151 (l : Launch) (e : Nat) (he : 4 ≤ e) (v0 : Nat) (v1 : Nat) (v2 : Nat) (v3 : Int32) (v5 : Int32) (r60 : Int32 → zM) (hr60 : ∀ x : Int32, zCo l (e + 1) 0 0 iX5_findMatch 60 [(0, .ref v0), (1, .ref v1), (2, .ref v2), (3, .int v3), (5, .int x)] [] (r60 x)) : zCo l (e + 1) 0 0 iX5_findMatch 151 [(0, .ref v0), (1, .ref v1), (2, .ref v2), (3, .int v3), (5, .int v5)] [] (X5_findMatch_J151 r60 v0 v1 v2 v3 v5) := by
  unfold X5_findMatch_J151
  refine zco_p tkX5_findMatch 85 2 (pc' := 60) (L' := [(5, .int (v5 + (-1))), (0, .ref v0), (1, .ref v1), (2, .ref v2), (3, .int v3)]) (S' := []) rfl ?_
  exact zco_sub [1, 2, 3, 4, 0] rfl (hr60 (v5 + (-1)))
set_option maxHeartbeats 2000000 in
set_option maxRecDepth 20000 in
theorem coX5_findMatch_J130 (l : Launch) (e : Nat) (he : 4 ≤ e) (v0 : Nat) (v1 : Nat) (v2 : Nat) (v3 : Int32) (v5 : Int32) (v6 : Int32) (v7 : Int32) (r60 : Int32 → zM) (hr60 : ∀ x : Int32, zCo l (e + 1) 0 0 iX5_findMatch 60 [(0, .ref v0), (1, .ref v1), (2, .ref v2), (3, .int v3), (5, .int x)] [] (r60 x)) (r68 : Int32 → zM) (hr68 : ∀ x : Int32, zCo l (e + 1) 0 0 iX5_findMatch 68 [(0, .ref v0), (1, .ref v1), (2, .ref v2), (3, .int v3), (5, .int v5), (6, .int x)] [] (r68 x)) : zCo l (e + 1) 0 0 iX5_findMatch 130 [(0, .ref v0), (1, .ref v1), (2, .ref v2), (3, .int v3), (5, .int v5), (6, .int v6), (7, .int v7)] [] (X5_findMatch_J130 r60 r68 v0 v1 v2 v3 v5 v6 v7) := by
  unfold X5_findMatch_J130
  refine zco_p tkX5_findMatch 74 1 (pc' := 131) (L' := [(0, .ref v0), (1, .ref v1), (2, .ref v2), (3, .int v3), (5, .int v5), (6, .int v6), (7, .int v7)]) (S' := [.ref v0]) rfl ?_
  refine zco_gr fl_5_18 rfl (zdk (cc := cX5_findMatch) (q := (131, .getfield 18, 3)) tkX5_findMatch 75 rfl) (fun x1 => ?_)
  refine zco_p tkX5_findMatch 76 6 (pc' := 144) (L' := [(0, .ref v0), (1, .ref v1), (2, .ref v2), (3, .int v3), (5, .int v5), (6, .int v6), (7, .int v7)]) (S' := [.int v7, .int ((v5 <<< (6 &&& 31)) + v6), .ref x1]) rfl ?_
  refine zco_iastore (zdk (cc := cX5_findMatch) (q := (144, .iastore, 1)) tkX5_findMatch 82 rfl) ?_
  refine zco_p tkX5_findMatch 83 2 (pc' := 68) (L' := [(6, .int (v6 + 1)), (0, .ref v0), (1, .ref v1), (2, .ref v2), (3, .int v3), (5, .int v5), (7, .int v7)]) (S' := []) rfl ?_
  exact zco_sub [1, 2, 3, 4, 5, 0] rfl (hr68 (v6 + 1))
set_option maxHeartbeats 2000000 in
set_option maxRecDepth 20000 in
theorem coX5_findMatch_B94 (l : Launch) (e : Nat) (he : 4 ≤ e) (v0 : Nat) (v1 : Nat) (v2 : Nat) (v3 : Int32) (v5 : Int32) (v6 : Int32) (r60 : Int32 → zM) (hr60 : ∀ x : Int32, zCo l (e + 1) 0 0 iX5_findMatch 60 [(0, .ref v0), (1, .ref v1), (2, .ref v2), (3, .int v3), (5, .int x)] [] (r60 x)) (r68 : Int32 → zM) (hr68 : ∀ x : Int32, zCo l (e + 1) 0 0 iX5_findMatch 68 [(0, .ref v0), (1, .ref v1), (2, .ref v2), (3, .int v3), (5, .int v5), (6, .int x)] [] (r68 x)) (r94 : Int32 × Int32 → zM) (hr94 : ∀ x : Int32 × Int32, zCo l (e + 1) 0 0 iX5_findMatch 94 [(0, .ref v0), (1, .ref v1), (2, .ref v2), (3, .int v3), (5, .int v5), (6, .int v6), (7, .int x.1), (8, .int x.2)] [] (r94 x)) (v7 : Int32) (v8 : Int32) : zCo l (e + 1) 0 0 iX5_findMatch 94 [(0, .ref v0), (1, .ref v1), (2, .ref v2), (3, .int v3), (5, .int v5), (6, .int v6), (7, .int v7), (8, .int v8)] [] (X5_findMatch_B94 r60 r68 v0 v1 v2 v3 v5 v6 r94 v7 v8) := by
  unfold X5_findMatch_B94
  refine zco_p tkX5_findMatch 56 2 (pc' := 97) (L' := [(0, .ref v0), (1, .ref v1), (2, .ref v2), (3, .int v3), (5, .int v5), (6, .int v6), (7, .int v7), (8, .int v8)]) (S' := [.ref v1, .int v8]) rfl ?_
  refine zco_gr fl_5_30 rfl (zdk (cc := cX5_findMatch) (q := (97, .getfield 30, 3)) tkX5_findMatch 58 rfl) (fun x1 => ?_)
  refine zco_p tkX5_findMatch 59 1 (pc' := 101) (L' := [(0, .ref v0), (1, .ref v1), (2, .ref v2), (3, .int v3), (5, .int v5), (6, .int v6), (7, .int v7), (8, .int v8)]) (S' := [.int 1, .ref x1, .int v8]) rfl ?_
  refine zco_iaload (zdk (cc := cX5_findMatch) (q := (101, .iaload, 1)) tkX5_findMatch 60 rfl) (fun x2 => ?_)
  refine zco_icmp_ge (tgt := 130) (zdk (cc := cX5_findMatch) (q := (102, .if_icmp .ge 28, 3)) tkX5_findMatch 61 rfl) rfl ?_ ?_
  · exact zco_sub [0, 1, 2, 3, 4, 5, 6] rfl (coX5_findMatch_J130 l e he v0 v1 v2 v3 v5 v6 v7 r60 hr60 r68 hr68)
  · refine zco_p tkX5_findMatch 62 7 (pc' := 116) (L' := [(0, .ref v0), (1, .ref v1), (2, .ref v2), (3, .int v3), (5, .int v5), (6, .int v6), (7, .int v7), (8, .int v8)]) (S' := [.int v6, .int v8, .int v5, .ref v2, .ref v1, .ref v0, .int v7]) rfl ?_
    refine zco_Vi (rc := 0) (rs := 0) (mc := 0) (ms := 0) (As := [.ref v1, .ref v2, .int v5, .int v8, .int v6]) (S := [.int v7]) vmX5_withRight (mtX5_withRight l e (by omega) v0 v1 v2 v5 v8 v6) q_1090 rfl rfl (Nat.le_of_ble_eq_true rfl) (zdk (cc := cX5_findMatch) (q := (116, .invokevirtual 35, 3)) tkX5_findMatch 69 rfl) (fun y3 => ?_)
    refine zco_imax (by omega) q_1096 q_964 q_168 q_imax (Nat.le_of_ble_eq_true rfl) (zdk (cc := cX5_findMatch) (q := (119, .invokestatic 39, 3)) tkX5_findMatch 70 rfl) ?_
    refine zco_p tkX5_findMatch 71 3 (pc' := 94) (L' := [(8, .int (v8 + 1)), (7, .int (if v7 < y3 then y3 else v7)), (0, .ref v0), (1, .ref v1), (2, .ref v2), (3, .int v3), (5, .int v5), (6, .int v6)]) (S' := []) rfl ?_
    exact zco_sub [2, 3, 4, 5, 6, 7, 1, 0] rfl (hr94 (if v7 < y3 then y3 else v7, v8 + 1))
set_option maxHeartbeats 2000000 in
set_option maxRecDepth 20000 in
theorem coX5_findMatch_B68 (l : Launch) (e : Nat) (he : 4 ≤ e) (v0 : Nat) (v1 : Nat) (v2 : Nat) (v3 : Int32) (v5 : Int32) (r60 : Int32 → zM) (hr60 : ∀ x : Int32, zCo l (e + 1) 0 0 iX5_findMatch 60 [(0, .ref v0), (1, .ref v1), (2, .ref v2), (3, .int v3), (5, .int x)] [] (r60 x)) (r68 : Int32 → zM) (hr68 : ∀ x : Int32, zCo l (e + 1) 0 0 iX5_findMatch 68 [(0, .ref v0), (1, .ref v1), (2, .ref v2), (3, .int v3), (5, .int v5), (6, .int x)] [] (r68 x)) (v6 : Int32) : zCo l (e + 1) 0 0 iX5_findMatch 68 [(0, .ref v0), (1, .ref v1), (2, .ref v2), (3, .int v3), (5, .int v5), (6, .int v6)] [] (X5_findMatch_B68 r60 v0 v1 v2 v3 v5 r68 v6) := by
  unfold X5_findMatch_B68
  refine zco_p tkX5_findMatch 40 2 (pc' := 71) (L' := [(0, .ref v0), (1, .ref v1), (2, .ref v2), (3, .int v3), (5, .int v5), (6, .int v6)]) (S' := [.int v3, .int v6]) rfl ?_
  refine zco_icmp_ge (tgt := 151) (zdk (cc := cX5_findMatch) (q := (71, .if_icmp .ge 80, 3)) tkX5_findMatch 42 rfl) rfl ?_ ?_
  · exact zco_sub [0, 1, 2, 3, 4] rfl (coX5_findMatch_J151 l e he v0 v1 v2 v3 v5 r60 hr60)
  · refine zco_p tkX5_findMatch 43 1 (pc' := 75) (L' := [(0, .ref v0), (1, .ref v1), (2, .ref v2), (3, .int v3), (5, .int v5), (6, .int v6)]) (S' := [.ref v0]) rfl ?_
    refine zco_gr fl_5_18 rfl (zdk (cc := cX5_findMatch) (q := (75, .getfield 18, 3)) tkX5_findMatch 44 rfl) (fun x1 => ?_)
    refine zco_p tkX5_findMatch 45 7 (pc' := 88) (L' := [(0, .ref v0), (1, .ref v1), (2, .ref v2), (3, .int v3), (5, .int v5), (6, .int v6)]) (S' := [.int (((v5 + 1) <<< (6 &&& 31)) + v6), .ref x1]) rfl ?_
    refine zco_iaload (zdk (cc := cX5_findMatch) (q := (88, .iaload, 1)) tkX5_findMatch 52 rfl) (fun x2 => ?_)
    refine zco_p tkX5_findMatch 53 3 (pc' := 94) (L' := [(8, .int 0), (7, .int x2), (0, .ref v0), (1, .ref v1), (2, .ref v2), (3, .int v3), (5, .int v5), (6, .int v6)]) (S' := []) rfl ?_
    exact zco_sub [2, 3, 4, 5, 6, 7, 1, 0] rfl (zco_fix (Lf := fun x : Int32 × Int32 => [(0, .ref v0), (1, .ref v1), (2, .ref v2), (3, .int v3), (5, .int v5), (6, .int v6), (7, .int x.1), (8, .int x.2)]) (Sf := fun _ => []) (fun r hr x => coX5_findMatch_B94 l e he v0 v1 v2 v3 v5 v6 r60 hr60 r68 hr68 r hr x.1 x.2) zFU (x2, 0))
set_option maxHeartbeats 2000000 in
set_option maxRecDepth 20000 in
theorem coX5_findMatch_B60 (l : Launch) (e : Nat) (he : 4 ≤ e) (v0 : Nat) (v1 : Nat) (v2 : Nat) (v3 : Int32) (r60 : Int32 → zM) (hr60 : ∀ x : Int32, zCo l (e + 1) 0 0 iX5_findMatch 60 [(0, .ref v0), (1, .ref v1), (2, .ref v2), (3, .int v3), (5, .int x)] [] (r60 x)) (v5 : Int32) : zCo l (e + 1) 0 0 iX5_findMatch 60 [(0, .ref v0), (1, .ref v1), (2, .ref v2), (3, .int v3), (5, .int v5)] [] (X5_findMatch_B60 v0 v1 v2 v3 r60 v5) := by
  unfold X5_findMatch_B60
  refine zco_p tkX5_findMatch 36 1 (pc' := 62) (L' := [(0, .ref v0), (1, .ref v1), (2, .ref v2), (3, .int v3), (5, .int v5)]) (S' := [.int v5]) rfl ?_
  refine zco_if_lt (tgt := 157) (zdk (cc := cX5_findMatch) (q := (62, .ifCond .lt 95, 3)) tkX5_findMatch 37 rfl) rfl ?_ ?_
  · exact zco_sub [0, 1, 2] rfl (coX5_findMatch_J157 l e he v0 v1 v2)
  · refine zco_p tkX5_findMatch 38 2 (pc' := 68) (L' := [(6, .int 0), (0, .ref v0), (1, .ref v1), (2, .ref v2), (3, .int v3), (5, .int v5)]) (S' := []) rfl ?_
    exact zco_sub [1, 2, 3, 4, 5, 0] rfl (zco_fix (Lf := fun x : Int32 => [(0, .ref v0), (1, .ref v1), (2, .ref v2), (3, .int v3), (5, .int v5), (6, .int x)]) (Sf := fun _ => []) (fun r hr x => coX5_findMatch_B68 l e he v0 v1 v2 v3 v5 r60 hr60 r hr x) zFU 0)
set_option maxHeartbeats 2000000 in
set_option maxRecDepth 20000 in
theorem coX5_findMatch_J54 (l : Launch) (e : Nat) (he : 4 ≤ e) (v0 : Nat) (v1 : Nat) (v2 : Nat) (v3 : Int32) (v4 : Int32) : zCo l (e + 1) 0 0 iX5_findMatch 54 [(0, .ref v0), (1, .ref v1), (2, .ref v2), (3, .int v3), (4, .int v4)] [] (X5_findMatch_J54 v0 v1 v2 v3 v4) := by
  unfold X5_findMatch_J54
  refine zco_p tkX5_findMatch 32 4 (pc' := 60) (L' := [(5, .int (v4 - 1)), (0, .ref v0), (1, .ref v1), (2, .ref v2), (3, .int v3), (4, .int v4)]) (S' := []) rfl ?_
  exact zco_sub [1, 2, 3, 4, 0] rfl (zco_fix (Lf := fun x : Int32 => [(0, .ref v0), (1, .ref v1), (2, .ref v2), (3, .int v3), (5, .int x)]) (Sf := fun _ => []) (fun r hr x => coX5_findMatch_B60 l e he v0 v1 v2 v3 r hr x) zFU (v4 - 1))
set_option maxHeartbeats 2000000 in
set_option maxRecDepth 20000 in
theorem coX5_findMatch_B28 (l : Launch) (e : Nat) (he : 4 ≤ e) (v0 : Nat) (v1 : Nat) (v2 : Nat) (v3 : Int32) (v4 : Int32) (r28 : Int32 → zM) (hr28 : ∀ x : Int32, zCo l (e + 1) 0 0 iX5_findMatch 28 [(0, .ref v0), (1, .ref v1), (2, .ref v2), (3, .int v3), (4, .int v4), (5, .int x)] [] (r28 x)) (v5 : Int32) : zCo l (e + 1) 0 0 iX5_findMatch 28 [(0, .ref v0), (1, .ref v1), (2, .ref v2), (3, .int v3), (4, .int v4), (5, .int v5)] [] (X5_findMatch_B28 v0 v1 v2 v3 v4 r28 v5) := by
  unfold X5_findMatch_B28
  refine zco_p tkX5_findMatch 18 2 (pc' := 31) (L' := [(0, .ref v0), (1, .ref v1), (2, .ref v2), (3, .int v3), (4, .int v4), (5, .int v5)]) (S' := [.int v3, .int v5]) rfl ?_
  refine zco_icmp_ge (tgt := 54) (zdk (cc := cX5_findMatch) (q := (31, .if_icmp .ge 23, 3)) tkX5_findMatch 20 rfl) rfl ?_ ?_
  · exact zco_sub [0, 1, 2, 3, 4] rfl (coX5_findMatch_J54 l e he v0 v1 v2 v3 v4)
  · refine zco_p tkX5_findMatch 21 1 (pc' := 35) (L' := [(0, .ref v0), (1, .ref v1), (2, .ref v2), (3, .int v3), (4, .int v4), (5, .int v5)]) (S' := [.ref v0]) rfl ?_
    refine zco_gr fl_5_18 rfl (zdk (cc := cX5_findMatch) (q := (35, .getfield 18, 3)) tkX5_findMatch 22 rfl) (fun x1 => ?_)
    refine zco_p tkX5_findMatch 23 6 (pc' := 47) (L' := [(0, .ref v0), (1, .ref v1), (2, .ref v2), (3, .int v3), (4, .int v4), (5, .int v5)]) (S' := [.int 0, .int ((v4 <<< (6 &&& 31)) + v5), .ref x1]) rfl ?_
    refine zco_iastore (zdk (cc := cX5_findMatch) (q := (47, .iastore, 1)) tkX5_findMatch 29 rfl) ?_
    refine zco_p tkX5_findMatch 30 2 (pc' := 28) (L' := [(5, .int (v5 + 1)), (0, .ref v0), (1, .ref v1), (2, .ref v2), (3, .int v3), (4, .int v4)]) (S' := []) rfl ?_
    exact zco_sub [1, 2, 3, 4, 5, 0] rfl (hr28 (v5 + 1))
set_option maxHeartbeats 2000000 in
set_option maxRecDepth 20000 in
theorem coX5_findMatch (l : Launch) (e : Nat) (he : 4 ≤ e) (v0 : Nat) (v1 : Nat) (v2 : Nat) : zCo l (e + 1) 0 0 iX5_findMatch 0 [(0, .ref v0), (1, .ref v1), (2, .ref v2)] [] (X5_findMatch v0 v1 v2) := by
  unfold X5_findMatch
  refine zco_p tkX5_findMatch 0 1 (pc' := 1) (L' := [(0, .ref v0), (1, .ref v1), (2, .ref v2)]) (S' := [.ref v0]) rfl ?_
  refine zco_gr fl_5_9 rfl (zdk (cc := cX5_findMatch) (q := (1, .getfield 9, 3)) tkX5_findMatch 1 rfl) (fun x1 => ?_)
  refine zco_p tkX5_findMatch 2 1 (pc' := 5) (L' := [(0, .ref v0), (1, .ref v1), (2, .ref v2)]) (S' := [.int ((-1)), .ref x1]) rfl ?_
  refine zco_Sv (rc := 0) (rs := 0) (mc := 0) (ms := 0) (As := [.ref x1, .int ((-1))]) (S := []) vmJ7_fill_53178 (mtJ7_fill_53178 l e (by omega) x1 ((-1))) q_1089 rfl rfl (Nat.le_of_ble_eq_true rfl) (zdk (cc := cX5_findMatch) (q := (5, .invokestatic 24, 3)) tkX5_findMatch 3 rfl) ?_
  refine zco_p tkX5_findMatch 4 2 (pc' := 10) (L' := [(0, .ref v0), (1, .ref v1), (2, .ref v2)]) (S' := [.ref v1, .int 1]) rfl ?_
  refine zco_gr fl_5_30 rfl (zdk (cc := cX5_findMatch) (q := (10, .getfield 30, 3)) tkX5_findMatch 6 rfl) (fun x2 => ?_)
  refine zco_p tkX5_findMatch 7 1 (pc' := 14) (L' := [(0, .ref v0), (1, .ref v1), (2, .ref v2)]) (S' := [.int 1, .ref x2, .int 1]) rfl ?_
  refine zco_iaload (zdk (cc := cX5_findMatch) (q := (14, .iaload, 1)) tkX5_findMatch 8 rfl) (fun x3 => ?_)
  refine zco_p tkX5_findMatch 9 3 (pc' := 18) (L' := [(3, .int ((1 : Int32) <<< (x3 &&& 31))), (0, .ref v0), (1, .ref v1), (2, .ref v2)]) (S' := [.ref v1]) rfl ?_
  refine zco_gr fl_5_30 rfl (zdk (cc := cX5_findMatch) (q := (18, .getfield 30, 3)) tkX5_findMatch 12 rfl) (fun x4 => ?_)
  refine zco_p tkX5_findMatch 13 1 (pc' := 22) (L' := [(3, .int ((1 : Int32) <<< (x3 &&& 31))), (0, .ref v0), (1, .ref v1), (2, .ref v2)]) (S' := [.int 0, .ref x4]) rfl ?_
  refine zco_iaload (zdk (cc := cX5_findMatch) (q := (22, .iaload, 1)) tkX5_findMatch 14 rfl) (fun x5 => ?_)
  refine zco_p tkX5_findMatch 15 3 (pc' := 28) (L' := [(5, .int 0), (4, .int x5), (3, .int ((1 : Int32) <<< (x3 &&& 31))), (0, .ref v0), (1, .ref v1), (2, .ref v2)]) (S' := []) rfl ?_
  exact zco_sub [3, 4, 5, 2, 1, 0] rfl (zco_fix (Lf := fun x : Int32 => [(0, .ref v0), (1, .ref v1), (2, .ref v2), (3, .int ((1 : Int32) <<< (x3 &&& 31))), (4, .int x5), (5, .int x)]) (Sf := fun _ => []) (fun r hr x => coX5_findMatch_B28 l e he v0 v1 v2 ((1 : Int32) <<< (x3 &&& 31)) x5 r hr x) zFU 0)
theorem mtX5_findMatch (l : Launch) (d : Nat) (hd : 5 ≤ d) (v0 : Nat) (v1 : Nat) (v2 : Nat) : zMet l d 0 0 yX5_findMatch cX5_findMatch 9 (Option.some .int) [.ref v0, .ref v1, .ref v2] (X5_findMatch v0 v1 v2) := by
  obtain ⟨e, rfl⟩ : ∃ e, d = e + 1 := ⟨d - 1, by omega⟩
  exact zmet_of (own := RX5) (ini := false) (by decide +kernel) rfl (fun _ => by contradiction) (Nat.le_of_ble_eq_true rfl) (coX5_findMatch l e (by omega) v0 v1 v2)
abbrev iX11_match : zI := (RX11, cX11_match, 4, (Option.some .int), false)
def tX11_match : List (Nat × Instr × Nat) := [(0, .aload_n 0, 1), (1, .getfield 86, 3), (4, .aload_n 0, 1), (5, .getfield 51, 3), (8, .aload_n 0, 1), (9, .getfield 61, 3), (12, .invokevirtual 260, 3), (15, .istore_n 2, 1), (16, .iload_n 1, 1), (17, .iconst (-1), 1), (18, .if_icmp .ne 5, 3), (21, .iload_n 2, 1), (22, .ireturn, 1), (23, .aload_n 0, 1), (24, .getfield 51, 3), (27, .iload_n 1, 1), (28, .invokevirtual 184, 3), (31, .istore_n 3, 1), (32, .iload_n 3, 1), (33, .iconst (-1), 1), (34, .if_icmp .eq 9, 3), (37, .iload_n 3, 1), (38, .bipush 6, 2), (40, .if_icmp .lt 7, 3), (43, .iconst (-1), 1), (44, .goto 19, 3), (47, .aload_n 0, 1), (48, .getfield 51, 3), (51, .aload_n 0, 1), (52, .getfield 86, 3), (55, .getfield 264, 3), (58, .iload_n 3, 1), (59, .iaload, 1), (60, .invokevirtual 202, 3), (63, .ireturn, 1)]
set_option maxRecDepth 100000 in
theorem tkX11_match : ∀ q ∈ tX11_match, decode cX11_match q.1 = .ok q.2 := by decide +kernel
theorem vmX11_match : zVM yX11_match cX11_match 4 (Option.some .int) 1 11 := ⟨kX11_match, q_1082, q_1083, q_149, ⟨_, rfl, rfl⟩, by decide +kernel, by decide⟩
set_option maxHeartbeats 2000000 in
set_option maxRecDepth 20000 in
theorem coX11_match_J43 (l : Launch) (e : Nat) (he : 5 ≤ e)  : zCo l (e + 1) 0 0 iX11_match 43 [] [] (X11_match_J43 ) := by
  unfold X11_match_J43
  refine zco_p tkX11_match 24 2 (pc' := 63) (L' := []) (S' := [.int ((-1))]) rfl ?_
  exact zco_iret rfl rfl rfl (zdk (cc := cX11_match) (q := (63, .ireturn, 1)) tkX11_match 34 rfl)
set_option maxHeartbeats 2000000 in
set_option maxRecDepth 20000 in
theorem coX11_match (l : Launch) (e : Nat) (he : 5 ≤ e) (v0 : Nat) (v1 : Int32) : zCo l (e + 1) 0 0 iX11_match 0 [(0, .ref v0), (1, .int v1)] [] (X11_match v0 v1) := by
  unfold X11_match
  refine zco_p tkX11_match 0 1 (pc' := 1) (L' := [(0, .ref v0), (1, .int v1)]) (S' := [.ref v0]) rfl ?_
  refine zco_gr fl_11_86 rfl (zdk (cc := cX11_match) (q := (1, .getfield 86, 3)) tkX11_match 1 rfl) (fun x1 => ?_)
  refine zco_p tkX11_match 2 1 (pc' := 5) (L' := [(0, .ref v0), (1, .int v1)]) (S' := [.ref v0, .ref x1]) rfl ?_
  refine zco_gr fl_11_51 rfl (zdk (cc := cX11_match) (q := (5, .getfield 51, 3)) tkX11_match 3 rfl) (fun x2 => ?_)
  refine zco_p tkX11_match 4 1 (pc' := 9) (L' := [(0, .ref v0), (1, .int v1)]) (S' := [.ref v0, .ref x2, .ref x1]) rfl ?_
  refine zco_gr fl_11_61 rfl (zdk (cc := cX11_match) (q := (9, .getfield 61, 3)) tkX11_match 5 rfl) (fun x3 => ?_)
  refine zco_Vi (rc := 0) (rs := 0) (mc := 0) (ms := 0) (As := [.ref x2, .ref x3]) (S := []) vmX5_findMatch (mtX5_findMatch l e (by omega) x1 x2 x3) q_1085 rfl rfl (Nat.le_of_ble_eq_true rfl) (zdk (cc := cX11_match) (q := (12, .invokevirtual 260, 3)) tkX11_match 6 rfl) (fun y4 => ?_)
  refine zco_p tkX11_match 7 3 (pc' := 18) (L' := [(2, .int y4), (0, .ref v0), (1, .int v1)]) (S' := [.int ((-1)), .int v1]) rfl ?_
  refine zco_icmp_ne (tgt := 23) (zdk (cc := cX11_match) (q := (18, .if_icmp .ne 5, 3)) tkX11_match 10 rfl) rfl ?_ ?_
  · refine zco_p tkX11_match 13 1 (pc' := 24) (L' := [(2, .int y4), (0, .ref v0), (1, .int v1)]) (S' := [.ref v0]) rfl ?_
    refine zco_gr fl_11_51 rfl (zdk (cc := cX11_match) (q := (24, .getfield 51, 3)) tkX11_match 14 rfl) (fun x5 => ?_)
    refine zco_p tkX11_match 15 1 (pc' := 28) (L' := [(2, .int y4), (0, .ref v0), (1, .int v1)]) (S' := [.int v1, .ref x5]) rfl ?_
    refine zco_Vi (rc := 0) (rs := 0) (mc := 0) (ms := 0) (As := [.int v1]) (S := []) vmX1_slot (mtX1_slot l e (by omega) x5 v1) q_932 rfl rfl (Nat.le_of_ble_eq_true rfl) (zdk (cc := cX11_match) (q := (28, .invokevirtual 184, 3)) tkX11_match 16 rfl) (fun y6 => ?_)
    refine zco_p tkX11_match 17 3 (pc' := 34) (L' := [(3, .int y6), (2, .int y4), (0, .ref v0), (1, .int v1)]) (S' := [.int ((-1)), .int y6]) rfl ?_
    refine zco_icmp_eq (tgt := 43) (zdk (cc := cX11_match) (q := (34, .if_icmp .eq 9, 3)) tkX11_match 20 rfl) rfl ?_ ?_
    · exact zco_sub [] rfl (coX11_match_J43 l e he )
    · refine zco_p tkX11_match 21 2 (pc' := 40) (L' := [(3, .int y6), (2, .int y4), (0, .ref v0), (1, .int v1)]) (S' := [.int 6, .int y6]) rfl ?_
      refine zco_icmp_lt (tgt := 47) (zdk (cc := cX11_match) (q := (40, .if_icmp .lt 7, 3)) tkX11_match 23 rfl) rfl ?_ ?_
      · refine zco_p tkX11_match 26 1 (pc' := 48) (L' := [(3, .int y6), (2, .int y4), (0, .ref v0), (1, .int v1)]) (S' := [.ref v0]) rfl ?_
        refine zco_gr fl_11_51 rfl (zdk (cc := cX11_match) (q := (48, .getfield 51, 3)) tkX11_match 27 rfl) (fun x7 => ?_)
        refine zco_p tkX11_match 28 1 (pc' := 52) (L' := [(3, .int y6), (2, .int y4), (0, .ref v0), (1, .int v1)]) (S' := [.ref v0, .ref x7]) rfl ?_
        refine zco_gr fl_11_86 rfl (zdk (cc := cX11_match) (q := (52, .getfield 86, 3)) tkX11_match 29 rfl) (fun x8 => ?_)
        refine zco_gr fl_11_264 rfl (zdk (cc := cX11_match) (q := (55, .getfield 264, 3)) tkX11_match 30 rfl) (fun x9 => ?_)
        refine zco_p tkX11_match 31 1 (pc' := 59) (L' := [(3, .int y6), (2, .int y4), (0, .ref v0), (1, .int v1)]) (S' := [.int y6, .ref x9, .ref x7]) rfl ?_
        refine zco_iaload (zdk (cc := cX11_match) (q := (59, .iaload, 1)) tkX11_match 32 rfl) (fun x10 => ?_)
        refine zco_Vi (rc := 0) (rs := 0) (mc := 0) (ms := 0) (As := [.int x10]) (S := []) vmX1_number (mtX1_number l e (by omega) x7 x10) q_944 rfl rfl (Nat.le_of_ble_eq_true rfl) (zdk (cc := cX11_match) (q := (60, .invokevirtual 202, 3)) tkX11_match 33 rfl) (fun y11 => ?_)
        exact zco_iret rfl rfl rfl (zdk (cc := cX11_match) (q := (63, .ireturn, 1)) tkX11_match 34 rfl)
      · exact zco_sub [] rfl (coX11_match_J43 l e he )
  · refine zco_p tkX11_match 11 1 (pc' := 22) (L' := [(2, .int y4), (0, .ref v0), (1, .int v1)]) (S' := [.int y4]) rfl ?_
    exact zco_iret rfl rfl rfl (zdk (cc := cX11_match) (q := (22, .ireturn, 1)) tkX11_match 12 rfl)
theorem mtX11_match (l : Launch) (d : Nat) (hd : 6 ≤ d) (v0 : Nat) (v1 : Int32) : zMet l d 0 0 yX11_match cX11_match 4 (Option.some .int) [.ref v0, .int v1] (X11_match v0 v1) := by
  obtain ⟨e, rfl⟩ : ∃ e, d = e + 1 := ⟨d - 1, by omega⟩
  exact zmet_of (own := RX11) (ini := false) (by decide +kernel) rfl (fun _ => by contradiction) (Nat.le_of_ble_eq_true rfl) (coX11_match l e (by omega) v0 v1)
abbrev iX5_nextToAsk : zI := (RX5, cX5_nextToAsk, 7, (Option.some .int), false)
def tX5_nextToAsk : List (Nat × Instr × Nat) := [(0, .iconst (-1), 1), (1, .istore 4, 2), (3, .bipush 6, 2), (5, .istore 5, 2), (7, .iload 5, 2), (9, .bipush 6, 2), (11, .aload_n 1, 1), (12, .getfield 30, 3), (15, .iconst 1, 1), (16, .iaload, 1), (17, .iadd, 1), (18, .if_icmp .ge 83, 3), (21, .aload_n 0, 1), (22, .getfield 21, 3), (25, .iload_n 3, 1), (26, .iaload, 1), (27, .iload 5, 2), (29, .bipush 6, 2), (31, .isub, 1), (32, .ishr, 1), (33, .iconst 1, 1), (34, .iand, 1), (35, .ifCond .ne 17, 3), (38, .aload_n 1, 1), (39, .iload_n 3, 1), (40, .iload 5, 2), (42, .invokevirtual 49, 3), (45, .ifCond .ne 7, 3), (48, .iconst 1, 1), (49, .goto 4, 3), (52, .iconst 0, 1), (53, .istore 6, 2), (55, .iload 6, 2), (57, .ifCond .eq 38, 3), (60, .iload 4, 2), (62, .iconst (-1), 1), (63, .if_icmp .eq 28, 3), (66, .aload_n 2, 1), (67, .getfield 53, 3), (70, .iload_n 3, 1), (71, .iload 5, 2), (73, .invokestatic 58, 3), (76, .iaload, 1), (77, .aload_n 2, 1), (78, .getfield 53, 3), (81, .iload_n 3, 1), (82, .iload 4, 2), (84, .invokestatic 58, 3), (87, .iaload, 1), (88, .if_icmp .le 7, 3), (91, .iload 5, 2), (93, .istore 4, 2), (95, .iinc 5 1, 3), (98, .goto (-91), 3), (101, .iload 4, 2), (103, .ireturn, 1)]
set_option maxRecDepth 100000 in
theorem tkX5_nextToAsk : ∀ q ∈ tX5_nextToAsk, decode cX5_nextToAsk q.1 = .ok q.2 := by decide +kernel
theorem vmX5_nextToAsk : zVM yX5_nextToAsk cX5_nextToAsk 7 (Option.some .int) 3 5 := ⟨kX5_nextToAsk, q_1111, q_29, q_159, ⟨_, rfl, rfl⟩, by decide +kernel, by decide⟩
set_option maxHeartbeats 2000000 in
set_option maxRecDepth 20000 in
theorem coX5_nextToAsk_J95 (l : Launch) (e : Nat) (he : 2 ≤ e) (v0 : Nat) (v1 : Nat) (v2 : Nat) (v3 : Int32) (v4 : Int32) (v5 : Int32) (r7 : Int32 × Int32 → zM) (hr7 : ∀ x : Int32 × Int32, zCo l (e + 1) 0 0 iX5_nextToAsk 7 [(0, .ref v0), (1, .ref v1), (2, .ref v2), (3, .int v3), (4, .int x.1), (5, .int x.2)] [] (r7 x)) : zCo l (e + 1) 0 0 iX5_nextToAsk 95 [(0, .ref v0), (1, .ref v1), (2, .ref v2), (3, .int v3), (4, .int v4), (5, .int v5)] [] (X5_nextToAsk_J95 r7 v0 v1 v2 v3 v4 v5) := by
  unfold X5_nextToAsk_J95
  refine zco_p tkX5_nextToAsk 52 2 (pc' := 7) (L' := [(5, .int (v5 + 1)), (0, .ref v0), (1, .ref v1), (2, .ref v2), (3, .int v3), (4, .int v4)]) (S' := []) rfl ?_
  exact zco_sub [1, 2, 3, 4, 5, 0] rfl (hr7 (v4, v5 + 1))
set_option maxHeartbeats 2000000 in
set_option maxRecDepth 20000 in
theorem coX5_nextToAsk_J91 (l : Launch) (e : Nat) (he : 2 ≤ e) (v0 : Nat) (v1 : Nat) (v2 : Nat) (v3 : Int32) (v5 : Int32) (r7 : Int32 × Int32 → zM) (hr7 : ∀ x : Int32 × Int32, zCo l (e + 1) 0 0 iX5_nextToAsk 7 [(0, .ref v0), (1, .ref v1), (2, .ref v2), (3, .int v3), (4, .int x.1), (5, .int x.2)] [] (r7 x)) : zCo l (e + 1) 0 0 iX5_nextToAsk 91 [(0, .ref v0), (1, .ref v1), (2, .ref v2), (3, .int v3), (5, .int v5)] [] (X5_nextToAsk_J91 r7 v0 v1 v2 v3 v5) := by
  unfold X5_nextToAsk_J91
  refine zco_p tkX5_nextToAsk 50 2 (pc' := 95) (L' := [(4, .int v5), (0, .ref v0), (1, .ref v1), (2, .ref v2), (3, .int v3), (5, .int v5)]) (S' := []) rfl ?_
  exact zco_sub [1, 2, 3, 4, 0, 5] rfl (coX5_nextToAsk_J95 l e he v0 v1 v2 v3 v5 v5 r7 hr7)
set_option maxHeartbeats 2000000 in
set_option maxRecDepth 20000 in
theorem coX5_nextToAsk_J53 (l : Launch) (e : Nat) (he : 2 ≤ e) (v0 : Nat) (v1 : Nat) (v2 : Nat) (v3 : Int32) (v4 : Int32) (v5 : Int32) (r7 : Int32 × Int32 → zM) (hr7 : ∀ x : Int32 × Int32, zCo l (e + 1) 0 0 iX5_nextToAsk 7 [(0, .ref v0), (1, .ref v1), (2, .ref v2), (3, .int v3), (4, .int x.1), (5, .int x.2)] [] (r7 x)) (s0 : Int32) : zCo l (e + 1) 0 0 iX5_nextToAsk 53 [(0, .ref v0), (1, .ref v1), (2, .ref v2), (3, .int v3), (4, .int v4), (5, .int v5)] [.int s0] (X5_nextToAsk_J53 r7 v0 v1 v2 v3 v4 v5 s0) := by
  unfold X5_nextToAsk_J53
  refine zco_p tkX5_nextToAsk 31 2 (pc' := 57) (L' := [(6, .int s0), (0, .ref v0), (1, .ref v1), (2, .ref v2), (3, .int v3), (4, .int v4), (5, .int v5)]) (S' := [.int s0]) rfl ?_
  refine zco_if_eq (tgt := 95) (zdk (cc := cX5_nextToAsk) (q := (57, .ifCond .eq 38, 3)) tkX5_nextToAsk 33 rfl) rfl ?_ ?_
  · exact zco_sub [1, 2, 3, 4, 5, 6] rfl (coX5_nextToAsk_J95 l e he v0 v1 v2 v3 v4 v5 r7 hr7)
  · refine zco_p tkX5_nextToAsk 34 2 (pc' := 63) (L' := [(6, .int s0), (0, .ref v0), (1, .ref v1), (2, .ref v2), (3, .int v3), (4, .int v4), (5, .int v5)]) (S' := [.int ((-1)), .int v4]) rfl ?_
    refine zco_icmp_eq (tgt := 91) (zdk (cc := cX5_nextToAsk) (q := (63, .if_icmp .eq 28, 3)) tkX5_nextToAsk 36 rfl) rfl ?_ ?_
    · exact zco_sub [1, 2, 3, 4, 6] rfl (coX5_nextToAsk_J91 l e he v0 v1 v2 v3 v5 r7 hr7)
    · refine zco_p tkX5_nextToAsk 37 1 (pc' := 67) (L' := [(6, .int s0), (0, .ref v0), (1, .ref v1), (2, .ref v2), (3, .int v3), (4, .int v4), (5, .int v5)]) (S' := [.ref v2]) rfl ?_
      refine zco_gr fl_5_53 rfl (zdk (cc := cX5_nextToAsk) (q := (67, .getfield 53, 3)) tkX5_nextToAsk 38 rfl) (fun x1 => ?_)
      refine zco_p tkX5_nextToAsk 39 2 (pc' := 73) (L' := [(6, .int s0), (0, .ref v0), (1, .ref v1), (2, .ref v2), (3, .int v3), (4, .int v4), (5, .int v5)]) (S' := [.int v5, .int v3, .ref x1]) rfl ?_
      refine zco_Ni (rc := 0) (rs := 0) (mc := 0) (ms := 0) (As := [.int v3, .int v5]) (S := [.ref x1]) vmX11_cell (mtX11_cell l e (by omega) v3 v5) (host := "ClothWedding") (by decide +kernel) rfl rfl (Nat.le_of_ble_eq_true rfl) (zdk (cc := cX5_nextToAsk) (q := (73, .invokestatic 58, 3)) tkX5_nextToAsk 41 rfl) (fun y2 => ?_)
      refine zco_iaload (zdk (cc := cX5_nextToAsk) (q := (76, .iaload, 1)) tkX5_nextToAsk 42 rfl) (fun x3 => ?_)
      refine zco_p tkX5_nextToAsk 43 1 (pc' := 78) (L' := [(6, .int s0), (0, .ref v0), (1, .ref v1), (2, .ref v2), (3, .int v3), (4, .int v4), (5, .int v5)]) (S' := [.ref v2, .int x3]) rfl ?_
      refine zco_gr fl_5_53 rfl (zdk (cc := cX5_nextToAsk) (q := (78, .getfield 53, 3)) tkX5_nextToAsk 44 rfl) (fun x4 => ?_)
      refine zco_p tkX5_nextToAsk 45 2 (pc' := 84) (L' := [(6, .int s0), (0, .ref v0), (1, .ref v1), (2, .ref v2), (3, .int v3), (4, .int v4), (5, .int v5)]) (S' := [.int v4, .int v3, .ref x4, .int x3]) rfl ?_
      refine zco_Ni (rc := 0) (rs := 0) (mc := 0) (ms := 0) (As := [.int v3, .int v4]) (S := [.ref x4, .int x3]) vmX11_cell (mtX11_cell l e (by omega) v3 v4) (host := "ClothWedding") (by decide +kernel) rfl rfl (Nat.le_of_ble_eq_true rfl) (zdk (cc := cX5_nextToAsk) (q := (84, .invokestatic 58, 3)) tkX5_nextToAsk 47 rfl) (fun y5 => ?_)
      refine zco_iaload (zdk (cc := cX5_nextToAsk) (q := (87, .iaload, 1)) tkX5_nextToAsk 48 rfl) (fun x6 => ?_)
      refine zco_icmp_le (tgt := 95) (zdk (cc := cX5_nextToAsk) (q := (88, .if_icmp .le 7, 3)) tkX5_nextToAsk 49 rfl) rfl ?_ ?_
      · exact zco_sub [1, 2, 3, 4, 5, 6] rfl (coX5_nextToAsk_J95 l e he v0 v1 v2 v3 v4 v5 r7 hr7)
      · exact zco_sub [1, 2, 3, 4, 6] rfl (coX5_nextToAsk_J91 l e he v0 v1 v2 v3 v5 r7 hr7)
set_option maxHeartbeats 2000000 in
set_option maxRecDepth 20000 in
theorem coX5_nextToAsk_J52 (l : Launch) (e : Nat) (he : 2 ≤ e) (v0 : Nat) (v1 : Nat) (v2 : Nat) (v3 : Int32) (v4 : Int32) (v5 : Int32) (r7 : Int32 × Int32 → zM) (hr7 : ∀ x : Int32 × Int32, zCo l (e + 1) 0 0 iX5_nextToAsk 7 [(0, .ref v0), (1, .ref v1), (2, .ref v2), (3, .int v3), (4, .int x.1), (5, .int x.2)] [] (r7 x)) : zCo l (e + 1) 0 0 iX5_nextToAsk 52 [(0, .ref v0), (1, .ref v1), (2, .ref v2), (3, .int v3), (4, .int v4), (5, .int v5)] [] (X5_nextToAsk_J52 r7 v0 v1 v2 v3 v4 v5) := by
  unfold X5_nextToAsk_J52
  refine zco_p tkX5_nextToAsk 30 1 (pc' := 53) (L' := [(0, .ref v0), (1, .ref v1), (2, .ref v2), (3, .int v3), (4, .int v4), (5, .int v5)]) (S' := [.int 0]) rfl ?_
  exact zco_sub [0, 1, 2, 3, 4, 5] rfl (coX5_nextToAsk_J53 l e he v0 v1 v2 v3 v4 v5 r7 hr7 0)
set_option maxHeartbeats 2000000 in
set_option maxRecDepth 20000 in
theorem coX5_nextToAsk_B7 (l : Launch) (e : Nat) (he : 2 ≤ e) (v0 : Nat) (v1 : Nat) (v2 : Nat) (v3 : Int32) (r7 : Int32 × Int32 → zM) (hr7 : ∀ x : Int32 × Int32, zCo l (e + 1) 0 0 iX5_nextToAsk 7 [(0, .ref v0), (1, .ref v1), (2, .ref v2), (3, .int v3), (4, .int x.1), (5, .int x.2)] [] (r7 x)) (v4 : Int32) (v5 : Int32) : zCo l (e + 1) 0 0 iX5_nextToAsk 7 [(0, .ref v0), (1, .ref v1), (2, .ref v2), (3, .int v3), (4, .int v4), (5, .int v5)] [] (X5_nextToAsk_B7 v0 v1 v2 v3 r7 v4 v5) := by
  unfold X5_nextToAsk_B7
  refine zco_p tkX5_nextToAsk 4 3 (pc' := 12) (L' := [(0, .ref v0), (1, .ref v1), (2, .ref v2), (3, .int v3), (4, .int v4), (5, .int v5)]) (S' := [.ref v1, .int 6, .int v5]) rfl ?_
  refine zco_gr fl_5_30 rfl (zdk (cc := cX5_nextToAsk) (q := (12, .getfield 30, 3)) tkX5_nextToAsk 7 rfl) (fun x1 => ?_)
  refine zco_p tkX5_nextToAsk 8 1 (pc' := 16) (L' := [(0, .ref v0), (1, .ref v1), (2, .ref v2), (3, .int v3), (4, .int v4), (5, .int v5)]) (S' := [.int 1, .ref x1, .int 6, .int v5]) rfl ?_
  refine zco_iaload (zdk (cc := cX5_nextToAsk) (q := (16, .iaload, 1)) tkX5_nextToAsk 9 rfl) (fun x2 => ?_)
  refine zco_p tkX5_nextToAsk 10 1 (pc' := 18) (L' := [(0, .ref v0), (1, .ref v1), (2, .ref v2), (3, .int v3), (4, .int v4), (5, .int v5)]) (S' := [.int (6 + x2), .int v5]) rfl ?_
  refine zco_icmp_ge (tgt := 101) (zdk (cc := cX5_nextToAsk) (q := (18, .if_icmp .ge 83, 3)) tkX5_nextToAsk 11 rfl) rfl ?_ ?_
  · refine zco_p tkX5_nextToAsk 54 1 (pc' := 103) (L' := [(0, .ref v0), (1, .ref v1), (2, .ref v2), (3, .int v3), (4, .int v4), (5, .int v5)]) (S' := [.int v4]) rfl ?_
    exact zco_iret rfl rfl rfl (zdk (cc := cX5_nextToAsk) (q := (103, .ireturn, 1)) tkX5_nextToAsk 55 rfl)
  · refine zco_p tkX5_nextToAsk 12 1 (pc' := 22) (L' := [(0, .ref v0), (1, .ref v1), (2, .ref v2), (3, .int v3), (4, .int v4), (5, .int v5)]) (S' := [.ref v0]) rfl ?_
    refine zco_gr fl_5_21 rfl (zdk (cc := cX5_nextToAsk) (q := (22, .getfield 21, 3)) tkX5_nextToAsk 13 rfl) (fun x3 => ?_)
    refine zco_p tkX5_nextToAsk 14 1 (pc' := 26) (L' := [(0, .ref v0), (1, .ref v1), (2, .ref v2), (3, .int v3), (4, .int v4), (5, .int v5)]) (S' := [.int v3, .ref x3]) rfl ?_
    refine zco_iaload (zdk (cc := cX5_nextToAsk) (q := (26, .iaload, 1)) tkX5_nextToAsk 15 rfl) (fun x4 => ?_)
    refine zco_p tkX5_nextToAsk 16 6 (pc' := 35) (L' := [(0, .ref v0), (1, .ref v1), (2, .ref v2), (3, .int v3), (4, .int v4), (5, .int v5)]) (S' := [.int ((x4 >>> ((v5 - 6) &&& 31)) &&& 1)]) rfl ?_
    refine zco_if_ne (tgt := 52) (zdk (cc := cX5_nextToAsk) (q := (35, .ifCond .ne 17, 3)) tkX5_nextToAsk 22 rfl) rfl ?_ ?_
    · exact zco_sub [0, 1, 2, 3, 4, 5] rfl (coX5_nextToAsk_J52 l e he v0 v1 v2 v3 v4 v5 r7 hr7)
    · refine zco_p tkX5_nextToAsk 23 3 (pc' := 42) (L' := [(0, .ref v0), (1, .ref v1), (2, .ref v2), (3, .int v3), (4, .int v4), (5, .int v5)]) (S' := [.int v5, .int v3, .ref v1]) rfl ?_
      refine zco_Vi (rc := 0) (rs := 0) (mc := 0) (ms := 0) (As := [.int v3, .int v5]) (S := []) vmX1_areKin (mtX1_areKin l e (by omega) v1 v3 v5) q_1094 rfl rfl (Nat.le_of_ble_eq_true rfl) (zdk (cc := cX5_nextToAsk) (q := (42, .invokevirtual 49, 3)) tkX5_nextToAsk 26 rfl) (fun y5 => ?_)
      refine zco_if_ne (tgt := 52) (zdk (cc := cX5_nextToAsk) (q := (45, .ifCond .ne 7, 3)) tkX5_nextToAsk 27 rfl) rfl ?_ ?_
      · exact zco_sub [0, 1, 2, 3, 4, 5] rfl (coX5_nextToAsk_J52 l e he v0 v1 v2 v3 v4 v5 r7 hr7)
      · refine zco_p tkX5_nextToAsk 28 2 (pc' := 53) (L' := [(0, .ref v0), (1, .ref v1), (2, .ref v2), (3, .int v3), (4, .int v4), (5, .int v5)]) (S' := [.int 1]) rfl ?_
        exact zco_sub [0, 1, 2, 3, 4, 5] rfl (coX5_nextToAsk_J53 l e he v0 v1 v2 v3 v4 v5 r7 hr7 1)
set_option maxHeartbeats 2000000 in
set_option maxRecDepth 20000 in
theorem coX5_nextToAsk (l : Launch) (e : Nat) (he : 2 ≤ e) (v0 : Nat) (v1 : Nat) (v2 : Nat) (v3 : Int32) : zCo l (e + 1) 0 0 iX5_nextToAsk 0 [(0, .ref v0), (1, .ref v1), (2, .ref v2), (3, .int v3)] [] (X5_nextToAsk v0 v1 v2 v3) := by
  unfold X5_nextToAsk
  refine zco_p tkX5_nextToAsk 0 4 (pc' := 7) (L' := [(5, .int 6), (4, .int ((-1))), (0, .ref v0), (1, .ref v1), (2, .ref v2), (3, .int v3)]) (S' := []) rfl ?_
  exact zco_sub [2, 3, 4, 5, 1, 0] rfl (zco_fix (Lf := fun x : Int32 × Int32 => [(0, .ref v0), (1, .ref v1), (2, .ref v2), (3, .int v3), (4, .int x.1), (5, .int x.2)]) (Sf := fun _ => []) (fun r hr x => coX5_nextToAsk_B7 l e he v0 v1 v2 v3 r hr x.1 x.2) zFU ((-1), 6))
theorem mtX5_nextToAsk (l : Launch) (d : Nat) (hd : 3 ≤ d) (v0 : Nat) (v1 : Nat) (v2 : Nat) (v3 : Int32) : zMet l d 0 0 yX5_nextToAsk cX5_nextToAsk 7 (Option.some .int) [.ref v0, .ref v1, .ref v2, .int v3] (X5_nextToAsk v0 v1 v2 v3) := by
  obtain ⟨e, rfl⟩ : ∃ e, d = e + 1 := ⟨d - 1, by omega⟩
  exact zmet_of (own := RX5) (ini := false) (by decide +kernel) rfl (fun _ => by contradiction) (Nat.le_of_ble_eq_true rfl) (coX5_nextToAsk l e (by omega) v0 v1 v2 v3)
abbrev iX5_findSteady : zI := (RX5, cX5_findSteady, 7, (Option.none : Option FieldType), false)
def tX5_findSteady : List (Nat × Instr × Nat) := [(0, .aload_n 0, 1), (1, .getfield 9, 3), (4, .iconst (-1), 1), (5, .invokestatic 24, 3), (8, .aload_n 0, 1), (9, .getfield 21, 3), (12, .iconst 0, 1), (13, .invokestatic 24, 3), (16, .iconst 0, 1), (17, .istore_n 3, 1), (18, .iload_n 3, 1), (19, .bipush 36, 2), (21, .if_icmp .gt 170, 3), (24, .iconst (-1), 1), (25, .istore 4, 2), (27, .iconst (-1), 1), (28, .istore 5, 2), (30, .iconst 0, 1), (31, .istore 6, 2), (33, .iload 6, 2), (35, .aload_n 1, 1), (36, .getfield 30, 3), (39, .iconst 0, 1), (40, .iaload, 1), (41, .if_icmp .ge 44, 3), (44, .iload 5, 2), (46, .iconst (-1), 1), (47, .if_icmp .ne 38, 3), (50, .iload 6, 2), (52, .istore 4, 2), (54, .aload_n 0, 1), (55, .getfield 9, 3), (58, .iload 6, 2), (60, .iaload, 1), (61, .iconst (-1), 1), (62, .if_icmp .ne 14, 3), (65, .aload_n 0, 1), (66, .aload_n 1, 1), (67, .aload_n 2, 1), (68, .iload 6, 2), (70, .invokevirtual 61, 3), (73, .goto 4, 3), (76, .iconst (-1), 1), (77, .istore 5, 2), (79, .iinc 6 1, 3), (82, .goto (-49), 3), (85, .iload 5, 2), (87, .iconst (-1), 1), (88, .if_icmp .ne 6, 3), (91, .goto 100, 3), (94, .aload_n 0, 1), (95, .getfield 21, 3), (98, .iload 4, 2), (100, .dup2, 1), (101, .iaload, 1), (102, .iconst 1, 1), (103, .iload 5, 2), (105, .bipush 6, 2), (107, .isub, 1), (108, .ishl, 1), (109, .ior, 1), (110, .iastore, 1), (111, .aload_n 0, 1), (112, .getfield 9, 3), (115, .iload 5, 2), (117, .iaload, 1), (118, .istore 6, 2), (120, .iload 6, 2), (122, .iconst (-1), 1), (123, .if_icmp .eq 30, 3), (126, .aload_n 2, 1), (127, .getfield 53, 3), (130, .iload 5, 2), (132, .iload 4, 2), (134, .invokestatic 58, 3), (137, .iaload, 1), (138, .aload_n 2, 1), (139, .getfield 53, 3), (142, .iload 5, 2), (144, .iload 6, 2), (146, .invokestatic 58, 3), (149, .iaload, 1), (150, .if_icmp .le 35, 3), (153, .aload_n 0, 1), (154, .getfield 9, 3), (157, .iload 4, 2), (159, .iload 5, 2), (161, .iastore, 1), (162, .aload_n 0, 1), (163, .getfield 9, 3), (166, .iload 5, 2), (168, .iload 4, 2), (170, .iastore, 1), (171, .iload 6, 2), (173, .iconst (-1), 1), (174, .if_icmp .eq 11, 3), (177, .aload_n 0, 1), (178, .getfield 9, 3), (181, .iload 6, 2), (183, .iconst (-1), 1), (184, .iastore, 1), (185, .iinc 3 1, 3), (188, .goto (-170), 3), (191, .return_, 1)]
set_option maxRecDepth 100000 in
theorem tkX5_findSteady : ∀ q ∈ tX5_findSteady, decode cX5_findSteady q.1 = .ok q.2 := by decide +kernel
theorem vmX5_findSteady : zVM yX5_findSteady cX5_findSteady 7 (Option.none : Option FieldType) 2 5 := ⟨kX5_findSteady, q_1106, q_1107, q_159, ⟨_, rfl, rfl⟩, by decide +kernel, by decide⟩
set_option maxHeartbeats 2000000 in
set_option maxRecDepth 20000 in
theorem coX5_findSteady_J185 (l : Launch) (e : Nat) (he : 3 ≤ e) (v0 : Nat) (v1 : Nat) (v2 : Nat) (v3 : Int32) (r18 : Int32 → zM) (hr18 : ∀ x : Int32, zCo l (e + 1) 0 0 iX5_findSteady 18 [(0, .ref v0), (1, .ref v1), (2, .ref v2), (3, .int x)] [] (r18 x)) : zCo l (e + 1) 0 0 iX5_findSteady 185 [(0, .ref v0), (1, .ref v1), (2, .ref v2), (3, .int v3)] [] (X5_findSteady_J185 r18 v0 v1 v2 v3) := by
  unfold X5_findSteady_J185
  refine zco_p tkX5_findSteady 101 2 (pc' := 18) (L' := [(3, .int (v3 + 1)), (0, .ref v0), (1, .ref v1), (2, .ref v2)]) (S' := []) rfl ?_
  exact zco_sub [1, 2, 3, 0] rfl (hr18 (v3 + 1))
set_option maxHeartbeats 2000000 in
set_option maxRecDepth 20000 in
theorem coX5_findSteady_J153 (l : Launch) (e : Nat) (he : 3 ≤ e) (v0 : Nat) (v1 : Nat) (v2 : Nat) (v3 : Int32) (v4 : Int32) (v5 : Int32) (v6 : Int32) (r18 : Int32 → zM) (hr18 : ∀ x : Int32, zCo l (e + 1) 0 0 iX5_findSteady 18 [(0, .ref v0), (1, .ref v1), (2, .ref v2), (3, .int x)] [] (r18 x)) : zCo l (e + 1) 0 0 iX5_findSteady 153 [(0, .ref v0), (1, .ref v1), (2, .ref v2), (3, .int v3), (4, .int v4), (5, .int v5), (6, .int v6)] [] (X5_findSteady_J153 r18 v0 v1 v2 v3 v4 v5 v6) := by
  unfold X5_findSteady_J153
  refine zco_p tkX5_findSteady 83 1 (pc' := 154) (L' := [(0, .ref v0), (1, .ref v1), (2, .ref v2), (3, .int v3), (4, .int v4), (5, .int v5), (6, .int v6)]) (S' := [.ref v0]) rfl ?_
  refine zco_gr fl_5_9 rfl (zdk (cc := cX5_findSteady) (q := (154, .getfield 9, 3)) tkX5_findSteady 84 rfl) (fun x1 => ?_)
  refine zco_p tkX5_findSteady 85 2 (pc' := 161) (L' := [(0, .ref v0), (1, .ref v1), (2, .ref v2), (3, .int v3), (4, .int v4), (5, .int v5), (6, .int v6)]) (S' := [.int v5, .int v4, .ref x1]) rfl ?_
  refine zco_iastore (zdk (cc := cX5_findSteady) (q := (161, .iastore, 1)) tkX5_findSteady 87 rfl) ?_
  refine zco_p tkX5_findSteady 88 1 (pc' := 163) (L' := [(0, .ref v0), (1, .ref v1), (2, .ref v2), (3, .int v3), (4, .int v4), (5, .int v5), (6, .int v6)]) (S' := [.ref v0]) rfl ?_
  refine zco_gr fl_5_9 rfl (zdk (cc := cX5_findSteady) (q := (163, .getfield 9, 3)) tkX5_findSteady 89 rfl) (fun x2 => ?_)
  refine zco_p tkX5_findSteady 90 2 (pc' := 170) (L' := [(0, .ref v0), (1, .ref v1), (2, .ref v2), (3, .int v3), (4, .int v4), (5, .int v5), (6, .int v6)]) (S' := [.int v4, .int v5, .ref x2]) rfl ?_
  refine zco_iastore (zdk (cc := cX5_findSteady) (q := (170, .iastore, 1)) tkX5_findSteady 92 rfl) ?_
  refine zco_p tkX5_findSteady 93 2 (pc' := 174) (L' := [(0, .ref v0), (1, .ref v1), (2, .ref v2), (3, .int v3), (4, .int v4), (5, .int v5), (6, .int v6)]) (S' := [.int ((-1)), .int v6]) rfl ?_
  refine zco_icmp_eq (tgt := 185) (zdk (cc := cX5_findSteady) (q := (174, .if_icmp .eq 11, 3)) tkX5_findSteady 95 rfl) rfl ?_ ?_
  · exact zco_sub [0, 1, 2, 3] rfl (coX5_findSteady_J185 l e he v0 v1 v2 v3 r18 hr18)
  · refine zco_p tkX5_findSteady 96 1 (pc' := 178) (L' := [(0, .ref v0), (1, .ref v1), (2, .ref v2), (3, .int v3), (4, .int v4), (5, .int v5), (6, .int v6)]) (S' := [.ref v0]) rfl ?_
    refine zco_gr fl_5_9 rfl (zdk (cc := cX5_findSteady) (q := (178, .getfield 9, 3)) tkX5_findSteady 97 rfl) (fun x3 => ?_)
    refine zco_p tkX5_findSteady 98 2 (pc' := 184) (L' := [(0, .ref v0), (1, .ref v1), (2, .ref v2), (3, .int v3), (4, .int v4), (5, .int v5), (6, .int v6)]) (S' := [.int ((-1)), .int v6, .ref x3]) rfl ?_
    refine zco_iastore (zdk (cc := cX5_findSteady) (q := (184, .iastore, 1)) tkX5_findSteady 100 rfl) ?_
    exact zco_sub [0, 1, 2, 3] rfl (coX5_findSteady_J185 l e he v0 v1 v2 v3 r18 hr18)
set_option maxHeartbeats 2000000 in
set_option maxRecDepth 20000 in
theorem coX5_findSteady_J91 (l : Launch) (e : Nat) (he : 3 ≤ e)  : zCo l (e + 1) 0 0 iX5_findSteady 91 [] [] (X5_findSteady_J91 ) := by
  unfold X5_findSteady_J91
  refine zco_p tkX5_findSteady 49 1 (pc' := 191) (L' := []) (S' := []) rfl ?_
  exact zco_vret rfl rfl rfl (zdk (cc := cX5_findSteady) (q := (191, .return_, 1)) tkX5_findSteady 103 rfl)
set_option maxHeartbeats 2000000 in
set_option maxRecDepth 20000 in
theorem coX5_findSteady_J85 (l : Launch) (e : Nat) (he : 3 ≤ e) (v0 : Nat) (v1 : Nat) (v2 : Nat) (v3 : Int32) (v4 : Int32) (v5 : Int32) (r18 : Int32 → zM) (hr18 : ∀ x : Int32, zCo l (e + 1) 0 0 iX5_findSteady 18 [(0, .ref v0), (1, .ref v1), (2, .ref v2), (3, .int x)] [] (r18 x)) : zCo l (e + 1) 0 0 iX5_findSteady 85 [(0, .ref v0), (1, .ref v1), (2, .ref v2), (3, .int v3), (4, .int v4), (5, .int v5)] [] (X5_findSteady_J85 r18 v0 v1 v2 v3 v4 v5) := by
  unfold X5_findSteady_J85
  refine zco_p tkX5_findSteady 46 2 (pc' := 88) (L' := [(0, .ref v0), (1, .ref v1), (2, .ref v2), (3, .int v3), (4, .int v4), (5, .int v5)]) (S' := [.int ((-1)), .int v5]) rfl ?_
  refine zco_icmp_ne (tgt := 94) (zdk (cc := cX5_findSteady) (q := (88, .if_icmp .ne 6, 3)) tkX5_findSteady 48 rfl) rfl ?_ ?_
  · refine zco_p tkX5_findSteady 50 1 (pc' := 95) (L' := [(0, .ref v0), (1, .ref v1), (2, .ref v2), (3, .int v3), (4, .int v4), (5, .int v5)]) (S' := [.ref v0]) rfl ?_
    refine zco_gr fl_5_21 rfl (zdk (cc := cX5_findSteady) (q := (95, .getfield 21, 3)) tkX5_findSteady 51 rfl) (fun x1 => ?_)
    refine zco_p tkX5_findSteady 52 2 (pc' := 101) (L' := [(0, .ref v0), (1, .ref v1), (2, .ref v2), (3, .int v3), (4, .int v4), (5, .int v5)]) (S' := [.int v4, .ref x1, .int v4, .ref x1]) rfl ?_
    refine zco_iaload (zdk (cc := cX5_findSteady) (q := (101, .iaload, 1)) tkX5_findSteady 54 rfl) (fun x2 => ?_)
    refine zco_p tkX5_findSteady 55 6 (pc' := 110) (L' := [(0, .ref v0), (1, .ref v1), (2, .ref v2), (3, .int v3), (4, .int v4), (5, .int v5)]) (S' := [.int (x2 ||| ((1 : Int32) <<< ((v5 - 6) &&& 31))), .int v4, .ref x1]) rfl ?_
    refine zco_iastore (zdk (cc := cX5_findSteady) (q := (110, .iastore, 1)) tkX5_findSteady 61 rfl) ?_
    refine zco_p tkX5_findSteady 62 1 (pc' := 112) (L' := [(0, .ref v0), (1, .ref v1), (2, .ref v2), (3, .int v3), (4, .int v4), (5, .int v5)]) (S' := [.ref v0]) rfl ?_
    refine zco_gr fl_5_9 rfl (zdk (cc := cX5_findSteady) (q := (112, .getfield 9, 3)) tkX5_findSteady 63 rfl) (fun x3 => ?_)
    refine zco_p tkX5_findSteady 64 1 (pc' := 117) (L' := [(0, .ref v0), (1, .ref v1), (2, .ref v2), (3, .int v3), (4, .int v4), (5, .int v5)]) (S' := [.int v5, .ref x3]) rfl ?_
    refine zco_iaload (zdk (cc := cX5_findSteady) (q := (117, .iaload, 1)) tkX5_findSteady 65 rfl) (fun x4 => ?_)
    refine zco_p tkX5_findSteady 66 3 (pc' := 123) (L' := [(6, .int x4), (0, .ref v0), (1, .ref v1), (2, .ref v2), (3, .int v3), (4, .int v4), (5, .int v5)]) (S' := [.int ((-1)), .int x4]) rfl ?_
    refine zco_icmp_eq (tgt := 153) (zdk (cc := cX5_findSteady) (q := (123, .if_icmp .eq 30, 3)) tkX5_findSteady 69 rfl) rfl ?_ ?_
    · exact zco_sub [1, 2, 3, 4, 5, 6, 0] rfl (coX5_findSteady_J153 l e he v0 v1 v2 v3 v4 v5 x4 r18 hr18)
    · refine zco_p tkX5_findSteady 70 1 (pc' := 127) (L' := [(6, .int x4), (0, .ref v0), (1, .ref v1), (2, .ref v2), (3, .int v3), (4, .int v4), (5, .int v5)]) (S' := [.ref v2]) rfl ?_
      refine zco_gr fl_5_53 rfl (zdk (cc := cX5_findSteady) (q := (127, .getfield 53, 3)) tkX5_findSteady 71 rfl) (fun x5 => ?_)
      refine zco_p tkX5_findSteady 72 2 (pc' := 134) (L' := [(6, .int x4), (0, .ref v0), (1, .ref v1), (2, .ref v2), (3, .int v3), (4, .int v4), (5, .int v5)]) (S' := [.int v4, .int v5, .ref x5]) rfl ?_
      refine zco_Ni (rc := 0) (rs := 0) (mc := 0) (ms := 0) (As := [.int v5, .int v4]) (S := [.ref x5]) vmX11_cell (mtX11_cell l e (by omega) v5 v4) (host := "ClothWedding") (by decide +kernel) rfl rfl (Nat.le_of_ble_eq_true rfl) (zdk (cc := cX5_findSteady) (q := (134, .invokestatic 58, 3)) tkX5_findSteady 74 rfl) (fun y6 => ?_)
      refine zco_iaload (zdk (cc := cX5_findSteady) (q := (137, .iaload, 1)) tkX5_findSteady 75 rfl) (fun x7 => ?_)
      refine zco_p tkX5_findSteady 76 1 (pc' := 139) (L' := [(6, .int x4), (0, .ref v0), (1, .ref v1), (2, .ref v2), (3, .int v3), (4, .int v4), (5, .int v5)]) (S' := [.ref v2, .int x7]) rfl ?_
      refine zco_gr fl_5_53 rfl (zdk (cc := cX5_findSteady) (q := (139, .getfield 53, 3)) tkX5_findSteady 77 rfl) (fun x8 => ?_)
      refine zco_p tkX5_findSteady 78 2 (pc' := 146) (L' := [(6, .int x4), (0, .ref v0), (1, .ref v1), (2, .ref v2), (3, .int v3), (4, .int v4), (5, .int v5)]) (S' := [.int x4, .int v5, .ref x8, .int x7]) rfl ?_
      refine zco_Ni (rc := 0) (rs := 0) (mc := 0) (ms := 0) (As := [.int v5, .int x4]) (S := [.ref x8, .int x7]) vmX11_cell (mtX11_cell l e (by omega) v5 x4) (host := "ClothWedding") (by decide +kernel) rfl rfl (Nat.le_of_ble_eq_true rfl) (zdk (cc := cX5_findSteady) (q := (146, .invokestatic 58, 3)) tkX5_findSteady 80 rfl) (fun y9 => ?_)
      refine zco_iaload (zdk (cc := cX5_findSteady) (q := (149, .iaload, 1)) tkX5_findSteady 81 rfl) (fun x10 => ?_)
      refine zco_icmp_le (tgt := 185) (zdk (cc := cX5_findSteady) (q := (150, .if_icmp .le 35, 3)) tkX5_findSteady 82 rfl) rfl ?_ ?_
      · exact zco_sub [1, 2, 3, 4] rfl (coX5_findSteady_J185 l e he v0 v1 v2 v3 r18 hr18)
      · exact zco_sub [1, 2, 3, 4, 5, 6, 0] rfl (coX5_findSteady_J153 l e he v0 v1 v2 v3 v4 v5 x4 r18 hr18)
  · exact zco_sub [] rfl (coX5_findSteady_J91 l e he )
set_option maxHeartbeats 2000000 in
set_option maxRecDepth 20000 in
theorem coX5_findSteady_J77 (l : Launch) (e : Nat) (he : 3 ≤ e) (v0 : Nat) (v1 : Nat) (v2 : Nat) (v3 : Int32) (v4 : Int32) (v6 : Int32) (r18 : Int32 → zM) (hr18 : ∀ x : Int32, zCo l (e + 1) 0 0 iX5_findSteady 18 [(0, .ref v0), (1, .ref v1), (2, .ref v2), (3, .int x)] [] (r18 x)) (r33 : Int32 × Int32 × Int32 → zM) (hr33 : ∀ x : Int32 × Int32 × Int32, zCo l (e + 1) 0 0 iX5_findSteady 33 [(0, .ref v0), (1, .ref v1), (2, .ref v2), (3, .int v3), (4, .int x.1), (5, .int x.2.1), (6, .int x.2.2)] [] (r33 x)) (s0 : Int32) : zCo l (e + 1) 0 0 iX5_findSteady 77 [(0, .ref v0), (1, .ref v1), (2, .ref v2), (3, .int v3), (4, .int v4), (6, .int v6)] [.int s0] (X5_findSteady_J77 r18 r33 v0 v1 v2 v3 v4 v6 s0) := by
  unfold X5_findSteady_J77
  refine zco_p tkX5_findSteady 43 3 (pc' := 33) (L' := [(6, .int (v6 + 1)), (5, .int s0), (0, .ref v0), (1, .ref v1), (2, .ref v2), (3, .int v3), (4, .int v4)]) (S' := []) rfl ?_
  exact zco_sub [2, 3, 4, 5, 6, 1, 0] rfl (hr33 (v4, s0, v6 + 1))
set_option maxHeartbeats 2000000 in
set_option maxRecDepth 20000 in
theorem coX5_findSteady_B33 (l : Launch) (e : Nat) (he : 3 ≤ e) (v0 : Nat) (v1 : Nat) (v2 : Nat) (v3 : Int32) (r18 : Int32 → zM) (hr18 : ∀ x : Int32, zCo l (e + 1) 0 0 iX5_findSteady 18 [(0, .ref v0), (1, .ref v1), (2, .ref v2), (3, .int x)] [] (r18 x)) (r33 : Int32 × Int32 × Int32 → zM) (hr33 : ∀ x : Int32 × Int32 × Int32, zCo l (e + 1) 0 0 iX5_findSteady 33 [(0, .ref v0), (1, .ref v1), (2, .ref v2), (3, .int v3), (4, .int x.1), (5, .int x.2.1), (6, .int x.2.2)] [] (r33 x)) (v4 : Int32) (v5 : Int32) (v6 : Int32) : zCo l (e + 1) 0 0 iX5_findSteady 33 [(0, .ref v0), (1, .ref v1), (2, .ref v2), (3, .int v3), (4, .int v4), (5, .int v5), (6, .int v6)] [] (X5_findSteady_B33 r18 v0 v1 v2 v3 r33 v4 v5 v6) := by
  unfold X5_findSteady_B33
  refine zco_p tkX5_findSteady 19 2 (pc' := 36) (L' := [(0, .ref v0), (1, .ref v1), (2, .ref v2), (3, .int v3), (4, .int v4), (5, .int v5), (6, .int v6)]) (S' := [.ref v1, .int v6]) rfl ?_
  refine zco_gr fl_5_30 rfl (zdk (cc := cX5_findSteady) (q := (36, .getfield 30, 3)) tkX5_findSteady 21 rfl) (fun x1 => ?_)
  refine zco_p tkX5_findSteady 22 1 (pc' := 40) (L' := [(0, .ref v0), (1, .ref v1), (2, .ref v2), (3, .int v3), (4, .int v4), (5, .int v5), (6, .int v6)]) (S' := [.int 0, .ref x1, .int v6]) rfl ?_
  refine zco_iaload (zdk (cc := cX5_findSteady) (q := (40, .iaload, 1)) tkX5_findSteady 23 rfl) (fun x2 => ?_)
  refine zco_icmp_ge (tgt := 85) (zdk (cc := cX5_findSteady) (q := (41, .if_icmp .ge 44, 3)) tkX5_findSteady 24 rfl) rfl ?_ ?_
  · exact zco_sub [0, 1, 2, 3, 4, 5] rfl (coX5_findSteady_J85 l e he v0 v1 v2 v3 v4 v5 r18 hr18)
  · refine zco_p tkX5_findSteady 25 2 (pc' := 47) (L' := [(0, .ref v0), (1, .ref v1), (2, .ref v2), (3, .int v3), (4, .int v4), (5, .int v5), (6, .int v6)]) (S' := [.int ((-1)), .int v5]) rfl ?_
    refine zco_icmp_ne (tgt := 85) (zdk (cc := cX5_findSteady) (q := (47, .if_icmp .ne 38, 3)) tkX5_findSteady 27 rfl) rfl ?_ ?_
    · exact zco_sub [0, 1, 2, 3, 4, 5] rfl (coX5_findSteady_J85 l e he v0 v1 v2 v3 v4 v5 r18 hr18)
    · refine zco_p tkX5_findSteady 28 3 (pc' := 55) (L' := [(4, .int v6), (0, .ref v0), (1, .ref v1), (2, .ref v2), (3, .int v3), (5, .int v5), (6, .int v6)]) (S' := [.ref v0]) rfl ?_
      refine zco_gr fl_5_9 rfl (zdk (cc := cX5_findSteady) (q := (55, .getfield 9, 3)) tkX5_findSteady 31 rfl) (fun x3 => ?_)
      refine zco_p tkX5_findSteady 32 1 (pc' := 60) (L' := [(4, .int v6), (0, .ref v0), (1, .ref v1), (2, .ref v2), (3, .int v3), (5, .int v5), (6, .int v6)]) (S' := [.int v6, .ref x3]) rfl ?_
      refine zco_iaload (zdk (cc := cX5_findSteady) (q := (60, .iaload, 1)) tkX5_findSteady 33 rfl) (fun x4 => ?_)
      refine zco_p tkX5_findSteady 34 1 (pc' := 62) (L' := [(4, .int v6), (0, .ref v0), (1, .ref v1), (2, .ref v2), (3, .int v3), (5, .int v5), (6, .int v6)]) (S' := [.int ((-1)), .int x4]) rfl ?_
      refine zco_icmp_ne (tgt := 76) (zdk (cc := cX5_findSteady) (q := (62, .if_icmp .ne 14, 3)) tkX5_findSteady 35 rfl) rfl ?_ ?_
      · refine zco_p tkX5_findSteady 42 1 (pc' := 77) (L' := [(4, .int v6), (0, .ref v0), (1, .ref v1), (2, .ref v2), (3, .int v3), (5, .int v5), (6, .int v6)]) (S' := [.int ((-1))]) rfl ?_
        exact zco_sub [1, 2, 3, 4, 0, 6] rfl (coX5_findSteady_J77 l e he v0 v1 v2 v3 v6 v6 r18 hr18 r33 hr33 ((-1)))
      · refine zco_p tkX5_findSteady 36 4 (pc' := 70) (L' := [(4, .int v6), (0, .ref v0), (1, .ref v1), (2, .ref v2), (3, .int v3), (5, .int v5), (6, .int v6)]) (S' := [.int v6, .ref v2, .ref v1, .ref v0]) rfl ?_
        refine zco_Vi (rc := 0) (rs := 0) (mc := 0) (ms := 0) (As := [.ref v1, .ref v2, .int v6]) (S := []) vmX5_nextToAsk (mtX5_nextToAsk l e (by omega) v0 v1 v2 v6) q_1109 rfl rfl (Nat.le_of_ble_eq_true rfl) (zdk (cc := cX5_findSteady) (q := (70, .invokevirtual 61, 3)) tkX5_findSteady 40 rfl) (fun y5 => ?_)
        refine zco_p tkX5_findSteady 41 1 (pc' := 77) (L' := [(4, .int v6), (0, .ref v0), (1, .ref v1), (2, .ref v2), (3, .int v3), (5, .int v5), (6, .int v6)]) (S' := [.int y5]) rfl ?_
        exact zco_sub [1, 2, 3, 4, 0, 6] rfl (coX5_findSteady_J77 l e he v0 v1 v2 v3 v6 v6 r18 hr18 r33 hr33 y5)
set_option maxHeartbeats 2000000 in
set_option maxRecDepth 20000 in
theorem coX5_findSteady_B18 (l : Launch) (e : Nat) (he : 3 ≤ e) (v0 : Nat) (v1 : Nat) (v2 : Nat) (r18 : Int32 → zM) (hr18 : ∀ x : Int32, zCo l (e + 1) 0 0 iX5_findSteady 18 [(0, .ref v0), (1, .ref v1), (2, .ref v2), (3, .int x)] [] (r18 x)) (v3 : Int32) : zCo l (e + 1) 0 0 iX5_findSteady 18 [(0, .ref v0), (1, .ref v1), (2, .ref v2), (3, .int v3)] [] (X5_findSteady_B18 v0 v1 v2 r18 v3) := by
  unfold X5_findSteady_B18
  refine zco_p tkX5_findSteady 10 2 (pc' := 21) (L' := [(0, .ref v0), (1, .ref v1), (2, .ref v2), (3, .int v3)]) (S' := [.int 36, .int v3]) rfl ?_
  refine zco_icmp_gt (tgt := 191) (zdk (cc := cX5_findSteady) (q := (21, .if_icmp .gt 170, 3)) tkX5_findSteady 12 rfl) rfl ?_ ?_
  · exact zco_vret rfl rfl rfl (zdk (cc := cX5_findSteady) (q := (191, .return_, 1)) tkX5_findSteady 103 rfl)
  · refine zco_p tkX5_findSteady 13 6 (pc' := 33) (L' := [(6, .int 0), (5, .int ((-1))), (4, .int ((-1))), (0, .ref v0), (1, .ref v1), (2, .ref v2), (3, .int v3)]) (S' := []) rfl ?_
    exact zco_sub [3, 4, 5, 6, 2, 1, 0] rfl (zco_fix (Lf := fun x : Int32 × Int32 × Int32 => [(0, .ref v0), (1, .ref v1), (2, .ref v2), (3, .int v3), (4, .int x.1), (5, .int x.2.1), (6, .int x.2.2)]) (Sf := fun _ => []) (fun r hr x => coX5_findSteady_B33 l e he v0 v1 v2 v3 r18 hr18 r hr x.1 x.2.1 x.2.2) zFU ((-1), (-1), 0))
set_option maxHeartbeats 2000000 in
set_option maxRecDepth 20000 in
theorem coX5_findSteady (l : Launch) (e : Nat) (he : 3 ≤ e) (v0 : Nat) (v1 : Nat) (v2 : Nat) : zCo l (e + 1) 0 0 iX5_findSteady 0 [(0, .ref v0), (1, .ref v1), (2, .ref v2)] [] (X5_findSteady v0 v1 v2) := by
  unfold X5_findSteady
  refine zco_p tkX5_findSteady 0 1 (pc' := 1) (L' := [(0, .ref v0), (1, .ref v1), (2, .ref v2)]) (S' := [.ref v0]) rfl ?_
  refine zco_gr fl_5_9 rfl (zdk (cc := cX5_findSteady) (q := (1, .getfield 9, 3)) tkX5_findSteady 1 rfl) (fun x1 => ?_)
  refine zco_p tkX5_findSteady 2 1 (pc' := 5) (L' := [(0, .ref v0), (1, .ref v1), (2, .ref v2)]) (S' := [.int ((-1)), .ref x1]) rfl ?_
  refine zco_Sv (rc := 0) (rs := 0) (mc := 0) (ms := 0) (As := [.ref x1, .int ((-1))]) (S := []) vmJ7_fill_53178 (mtJ7_fill_53178 l e (by omega) x1 ((-1))) q_1089 rfl rfl (Nat.le_of_ble_eq_true rfl) (zdk (cc := cX5_findSteady) (q := (5, .invokestatic 24, 3)) tkX5_findSteady 3 rfl) ?_
  refine zco_p tkX5_findSteady 4 1 (pc' := 9) (L' := [(0, .ref v0), (1, .ref v1), (2, .ref v2)]) (S' := [.ref v0]) rfl ?_
  refine zco_gr fl_5_21 rfl (zdk (cc := cX5_findSteady) (q := (9, .getfield 21, 3)) tkX5_findSteady 5 rfl) (fun x2 => ?_)
  refine zco_p tkX5_findSteady 6 1 (pc' := 13) (L' := [(0, .ref v0), (1, .ref v1), (2, .ref v2)]) (S' := [.int 0, .ref x2]) rfl ?_
  refine zco_Sv (rc := 0) (rs := 0) (mc := 0) (ms := 0) (As := [.ref x2, .int 0]) (S := []) vmJ7_fill_53178 (mtJ7_fill_53178 l e (by omega) x2 0) q_1089 rfl rfl (Nat.le_of_ble_eq_true rfl) (zdk (cc := cX5_findSteady) (q := (13, .invokestatic 24, 3)) tkX5_findSteady 7 rfl) ?_
  refine zco_p tkX5_findSteady 8 2 (pc' := 18) (L' := [(3, .int 0), (0, .ref v0), (1, .ref v1), (2, .ref v2)]) (S' := []) rfl ?_
  exact zco_sub [1, 2, 3, 0] rfl (zco_fix (Lf := fun x : Int32 => [(0, .ref v0), (1, .ref v1), (2, .ref v2), (3, .int x)]) (Sf := fun _ => []) (fun r hr x => coX5_findSteady_B18 l e he v0 v1 v2 r hr x) zFU 0)
theorem mtX5_findSteady (l : Launch) (d : Nat) (hd : 4 ≤ d) (v0 : Nat) (v1 : Nat) (v2 : Nat) : zMet l d 0 0 yX5_findSteady cX5_findSteady 7 (Option.none : Option FieldType) [.ref v0, .ref v1, .ref v2] (X5_findSteady v0 v1 v2) := by
  obtain ⟨e, rfl⟩ : ∃ e, d = e + 1 := ⟨d - 1, by omega⟩
  exact zmet_of (own := RX5) (ini := false) (by decide +kernel) rfl (fun _ => by contradiction) (Nat.le_of_ble_eq_true rfl) (coX5_findSteady l e (by omega) v0 v1 v2)
