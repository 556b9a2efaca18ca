abbrev iX12_teach : zI := (RX12, cX12_teach, 8, (Option.some .int), false)
def tX12_teach : List (Nat × Instr × Nat) := [(0, .aload_n 0, 1), (1, .iload_n 1, 1), (2, .i2l, 1), (3, .invokevirtual 422, 3), (6, .ifCond .eq 14, 3), (9, .aload_n 0, 1), (10, .iload_n 2, 1), (11, .iconst 1, 1), (12, .bipush 40, 2), (14, .invokevirtual 557, 3), (17, .ifCond .ne 5, 3), (20, .iconst (-1), 1), (21, .ireturn, 1), (22, .aload_n 0, 1), (23, .iload_n 1, 1), (24, .invokevirtual 429, 3), (27, .istore_n 3, 1), (28, .iconst 1, 1), (29, .iload_n 3, 1), (30, .bipush 6, 2), (32, .idiv, 1), (33, .isub, 1), (34, .istore 4, 2), (36, .iconst (-1), 1), (37, .istore 5, 2), (39, .aload_n 0, 1), (40, .invokevirtual 561, 3), (43, .iconst 0, 1), (44, .istore 6, 2), (46, .iload 6, 2), (48, .iconst 1, 1), (49, .aload_n 0, 1), (50, .iload 4, 2), (52, .invokevirtual 416, 3), (55, .ishl, 1), (56, .if_icmp .ge 98, 3), (59, .iload 5, 2), (61, .iconst (-1), 1), (62, .if_icmp .eq 19, 3), (65, .iload 6, 2), (67, .invokestatic 586, 3), (70, .iload 5, 2), (72, .invokestatic 586, 3), (75, .if_icmp .lt 6, 3), (78, .goto 70, 3), (81, .iconst 0, 1), (82, .istore 7, 2), (84, .iload 7, 2), (86, .aload_n 0, 1), (87, .iload 4, 2), (89, .invokevirtual 416, 3), (92, .if_icmp .ge 34, 3), (95, .iload 6, 2), (97, .iload 7, 2), (99, .ishr, 1), (100, .iconst 1, 1), (101, .iand, 1), (102, .iconst 1, 1), (103, .if_icmp .ne 17, 3), (106, .aload_n 0, 1), (107, .getfield 134, 3), (110, .aload_n 0, 1), (111, .iload_n 3, 1), (112, .iload 7, 2), (114, .invokevirtual 435, 3), (117, .bipush 9, 2), (119, .iastore, 1), (120, .iinc 7 1, 3), (123, .goto (-39), 3), (126, .aload_n 0, 1), (127, .iload_n 2, 1), (128, .invokevirtual 564, 3), (131, .aload_n 0, 1), (132, .iload_n 1, 1), (133, .invokevirtual 521, 3), (136, .iconst (-1), 1), (137, .if_icmp .eq 7, 3), (140, .iload 6, 2), (142, .istore 5, 2), (144, .aload_n 0, 1), (145, .invokevirtual 530, 3), (148, .iinc 6 1, 3), (151, .goto (-105), 3), (154, .aload_n 0, 1), (155, .invokevirtual 567, 3), (158, .iload 5, 2), (160, .ireturn, 1)]
set_option maxRecDepth 100000 in
theorem tkX12_teach : ∀ q ∈ tX12_teach, decode cX12_teach q.1 = .ok q.2 := by decide +kernel
theorem vmX12_teach : zVM yX12_teach cX12_teach 8 (Option.some .int) 2 12 := ⟨kX12_teach, q_2149, q_2150, q_162, ⟨_, rfl, rfl⟩, by decide +kernel, by decide⟩
set_option maxHeartbeats 2000000 in
set_option maxRecDepth 20000 in
theorem coX12_teach_J154 (l : Launch) (e : Nat) (he : 9 ≤ e) (v0 : Nat) (v5 : Int32) : zCo l (e + 1) 0 0 iX12_teach 154 [(0, .ref v0), (5, .int v5)] [] (X12_teach_J154 v0 v5) := by
  unfold X12_teach_J154
  refine zco_p tkX12_teach 83 1 (pc' := 155) (L' := [(0, .ref v0), (5, .int v5)]) (S' := [.ref v0]) rfl ?_
  refine zco_Vv (rc := 0) (rs := 0) (mc := 0) (ms := 0) (As := []) (S := []) vmX12_takesBack (mtX12_takesBack l e (by omega) v0) q_2100 rfl rfl (Nat.le_of_ble_eq_true rfl) (zdk (cc := cX12_teach) (q := (155, .invokevirtual 567, 3)) tkX12_teach 84 rfl) ?_
  refine zco_p tkX12_teach 85 1 (pc' := 160) (L' := [(0, .ref v0), (5, .int v5)]) (S' := [.int v5]) rfl ?_
  exact zco_iret rfl rfl rfl (zdk (cc := cX12_teach) (q := (160, .ireturn, 1)) tkX12_teach 86 rfl)
set_option maxHeartbeats 2000000 in
set_option maxRecDepth 20000 in
theorem coX12_teach_J148 (l : Launch) (e : Nat) (he : 9 ≤ e) (v0 : Nat) (v1 : Int32) (v2 : Int32) (v3 : Int32) (v4 : Int32) (v5 : Int32) (v6 : Int32) (r46 : Int32 × Int32 → zM) (hr46 : ∀ x : Int32 × Int32, zCo l (e + 1) 0 0 iX12_teach 46 [(0, .ref v0), (1, .int v1), (2, .int v2), (3, .int v3), (4, .int v4), (5, .int x.1), (6, .int x.2)] [] (r46 x)) : zCo l (e + 1) 0 0 iX12_teach 148 [(0, .ref v0), (1, .int v1), (2, .int v2), (3, .int v3), (4, .int v4), (5, .int v5), (6, .int v6)] [] (X12_teach_J148 r46 v0 v1 v2 v3 v4 v5 v6) := by
  unfold X12_teach_J148
  refine zco_p tkX12_teach 81 2 (pc' := 46) (L' := [(6, .int (v6 + 1)), (0, .ref v0), (1, .int v1), (2, .int v2), (3, .int v3), (4, .int v4), (5, .int v5)]) (S' := []) rfl ?_
  exact zco_sub [1, 2, 3, 4, 5, 6, 0] rfl (hr46 (v5, v6 + 1))
set_option maxHeartbeats 2000000 in
set_option maxRecDepth 20000 in
theorem coX12_teach_J144 (l : Launch) (e : Nat) (he : 9 ≤ e) (v0 : Nat) (v1 : Int32) (v2 : Int32) (v3 : Int32) (v4 : Int32) (v5 : Int32) (v6 : Int32) (r46 : Int32 × Int32 → zM) (hr46 : ∀ x : Int32 × Int32, zCo l (e + 1) 0 0 iX12_teach 46 [(0, .ref v0), (1, .int v1), (2, .int v2), (3, .int v3), (4, .int v4), (5, .int x.1), (6, .int x.2)] [] (r46 x)) : zCo l (e + 1) 0 0 iX12_teach 144 [(0, .ref v0), (1, .int v1), (2, .int v2), (3, .int v3), (4, .int v4), (5, .int v5), (6, .int v6)] [] (X12_teach_J144 r46 v0 v1 v2 v3 v4 v5 v6) := by
  unfold X12_teach_J144
  refine zco_p tkX12_teach 79 1 (pc' := 145) (L' := [(0, .ref v0), (1, .int v1), (2, .int v2), (3, .int v3), (4, .int v4), (5, .int v5), (6, .int v6)]) (S' := [.ref v0]) rfl ?_
  refine zco_Vv (rc := 0) (rs := 0) (mc := 0) (ms := 0) (As := []) (S := []) vmX12_triesAnew (mtX12_triesAnew l e (by omega) v0) q_2104 rfl rfl (Nat.le_of_ble_eq_true rfl) (zdk (cc := cX12_teach) (q := (145, .invokevirtual 530, 3)) tkX12_teach 80 rfl) ?_
  exact zco_sub [0, 1, 2, 3, 4, 5, 6] rfl (coX12_teach_J148 l e he v0 v1 v2 v3 v4 v5 v6 r46 hr46)
set_option maxHeartbeats 2000000 in
set_option maxRecDepth 20000 in
theorem coX12_teach_J126 (l : Launch) (e : Nat) (he : 9 ≤ e) (v0 : Nat) (v1 : Int32) (v2 : Int32) (v3 : Int32) (v4 : Int32) (v5 : Int32) (v6 : Int32) (r46 : Int32 × Int32 → zM) (hr46 : ∀ x : Int32 × Int32, zCo l (e + 1) 0 0 iX12_teach 46 [(0, .ref v0), (1, .int v1), (2, .int v2), (3, .int v3), (4, .int v4), (5, .int x.1), (6, .int x.2)] [] (r46 x)) : zCo l (e + 1) 0 0 iX12_teach 126 [(0, .ref v0), (1, .int v1), (2, .int v2), (3, .int v3), (4, .int v4), (5, .int v5), (6, .int v6)] [] (X12_teach_J126 r46 v0 v1 v2 v3 v4 v5 v6) := by
  unfold X12_teach_J126
  refine zco_p tkX12_teach 69 2 (pc' := 128) (L' := [(0, .ref v0), (1, .int v1), (2, .int v2), (3, .int v3), (4, .int v4), (5, .int v5), (6, .int v6)]) (S' := [.int v2, .ref v0]) rfl ?_
  refine zco_Vv (rc := 0) (rs := 0) (mc := 0) (ms := 0) (As := [.int v2]) (S := []) vmX12_roundsGo (mtX12_roundsGo l e (by omega) v0 v2) q_2080 rfl rfl (Nat.le_of_ble_eq_true rfl) (zdk (cc := cX12_teach) (q := (128, .invokevirtual 564, 3)) tkX12_teach 71 rfl) ?_
  refine zco_p tkX12_teach 72 2 (pc' := 133) (L' := [(0, .ref v0), (1, .int v1), (2, .int v2), (3, .int v3), (4, .int v4), (5, .int v5), (6, .int v6)]) (S' := [.int v1, .ref v0]) rfl ?_
  refine zco_Vi (rc := 0) (rs := 0) (mc := 0) (ms := 0) (As := [.int v1]) (S := []) vmX12_wedTo (mtX12_wedTo l e (by omega) v0 v1) q_1968 rfl rfl (Nat.le_of_ble_eq_true rfl) (zdk (cc := cX12_teach) (q := (133, .invokevirtual 521, 3)) tkX12_teach 74 rfl) (fun y1 => ?_)
  refine zco_p tkX12_teach 75 1 (pc' := 137) (L' := [(0, .ref v0), (1, .int v1), (2, .int v2), (3, .int v3), (4, .int v4), (5, .int v5), (6, .int v6)]) (S' := [.int ((-1)), .int y1]) rfl ?_
  refine zco_icmp_eq (tgt := 144) (zdk (cc := cX12_teach) (q := (137, .if_icmp .eq 7, 3)) tkX12_teach 76 rfl) rfl ?_ ?_
  · exact zco_sub [0, 1, 2, 3, 4, 5, 6] rfl (coX12_teach_J144 l e he v0 v1 v2 v3 v4 v5 v6 r46 hr46)
  · refine zco_p tkX12_teach 77 2 (pc' := 144) (L' := [(5, .int v6), (0, .ref v0), (1, .int v1), (2, .int v2), (3, .int v3), (4, .int v4), (6, .int v6)]) (S' := []) rfl ?_
    exact zco_sub [1, 2, 3, 4, 5, 0, 6] rfl (coX12_teach_J144 l e he v0 v1 v2 v3 v4 v6 v6 r46 hr46)
set_option maxHeartbeats 2000000 in
set_option maxRecDepth 20000 in
theorem coX12_teach_J120 (l : Launch) (e : Nat) (he : 9 ≤ e) (v0 : Nat) (v1 : Int32) (v2 : Int32) (v3 : Int32) (v4 : Int32) (v5 : Int32) (v6 : Int32) (v7 : Int32) (r46 : Int32 × Int32 → zM) (hr46 : ∀ x : Int32 × Int32, zCo l (e + 1) 0 0 iX12_teach 46 [(0, .ref v0), (1, .int v1), (2, .int v2), (3, .int v3), (4, .int v4), (5, .int x.1), (6, .int x.2)] [] (r46 x)) (r84 : Int32 → zM) (hr84 : ∀ x : Int32, zCo l (e + 1) 0 0 iX12_teach 84 [(0, .ref v0), (1, .int v1), (2, .int v2), (3, .int v3), (4, .int v4), (5, .int v5), (6, .int v6), (7, .int x)] [] (r84 x)) : zCo l (e + 1) 0 0 iX12_teach 120 [(0, .ref v0), (1, .int v1), (2, .int v2), (3, .int v3), (4, .int v4), (5, .int v5), (6, .int v6), (7, .int v7)] [] (X12_teach_J120 r46 r84 v0 v1 v2 v3 v4 v5 v6 v7) := by
  unfold X12_teach_J120
  refine zco_p tkX12_teach 67 2 (pc' := 84) (L' := [(7, .int (v7 + 1)), (0, .ref v0), (1, .int v1), (2, .int v2), (3, .int v3), (4, .int v4), (5, .int v5), (6, .int v6)]) (S' := []) rfl ?_
  exact zco_sub [1, 2, 3, 4, 5, 6, 7, 0] rfl (hr84 (v7 + 1))
set_option maxHeartbeats 2000000 in
set_option maxRecDepth 20000 in
theorem coX12_teach_B84 (l : Launch) (e : Nat) (he : 9 ≤ e) (v0 : Nat) (v1 : Int32) (v2 : Int32) (v3 : Int32) (v4 : Int32) (v5 : Int32) (v6 : Int32) (r46 : Int32 × Int32 → zM) (hr46 : ∀ x : Int32 × Int32, zCo l (e + 1) 0 0 iX12_teach 46 [(0, .ref v0), (1, .int v1), (2, .int v2), (3, .int v3), (4, .int v4), (5, .int x.1), (6, .int x.2)] [] (r46 x)) (r84 : Int32 → zM) (hr84 : ∀ x : Int32, zCo l (e + 1) 0 0 iX12_teach 84 [(0, .ref v0), (1, .int v1), (2, .int v2), (3, .int v3), (4, .int v4), (5, .int v5), (6, .int v6), (7, .int x)] [] (r84 x)) (v7 : Int32) : zCo l (e + 1) 0 0 iX12_teach 84 [(0, .ref v0), (1, .int v1), (2, .int v2), (3, .int v3), (4, .int v4), (5, .int v5), (6, .int v6), (7, .int v7)] [] (X12_teach_B84 r46 v0 v1 v2 v3 v4 v5 v6 r84 v7) := by
  unfold X12_teach_B84
  refine zco_p tkX12_teach 47 3 (pc' := 89) (L' := [(0, .ref v0), (1, .int v1), (2, .int v2), (3, .int v3), (4, .int v4), (5, .int v5), (6, .int v6), (7, .int v7)]) (S' := [.int v4, .ref v0, .int v7]) rfl ?_
  refine zco_Vi (rc := 0) (rs := 0) (mc := 0) (ms := 0) (As := [.int v4]) (S := [.int v7]) vmX12_sideMany (mtX12_sideMany l e (by omega) v0 v4) q_1944 rfl rfl (Nat.le_of_ble_eq_true rfl) (zdk (cc := cX12_teach) (q := (89, .invokevirtual 416, 3)) tkX12_teach 50 rfl) (fun y1 => ?_)
  refine zco_icmp_ge (tgt := 126) (zdk (cc := cX12_teach) (q := (92, .if_icmp .ge 34, 3)) tkX12_teach 51 rfl) rfl ?_ ?_
  · exact zco_sub [0, 1, 2, 3, 4, 5, 6] rfl (coX12_teach_J126 l e he v0 v1 v2 v3 v4 v5 v6 r46 hr46)
  · refine zco_p tkX12_teach 52 6 (pc' := 103) (L' := [(0, .ref v0), (1, .int v1), (2, .int v2), (3, .int v3), (4, .int v4), (5, .int v5), (6, .int v6), (7, .int v7)]) (S' := [.int 1, .int ((v6 >>> (v7 &&& 31)) &&& 1)]) rfl ?_
    refine zco_icmp_ne (tgt := 120) (zdk (cc := cX12_teach) (q := (103, .if_icmp .ne 17, 3)) tkX12_teach 58 rfl) rfl ?_ ?_
    · exact zco_sub [0, 1, 2, 3, 4, 5, 6, 7] rfl (coX12_teach_J120 l e he v0 v1 v2 v3 v4 v5 v6 v7 r46 hr46 r84 hr84)
    · refine zco_p tkX12_teach 59 1 (pc' := 107) (L' := [(0, .ref v0), (1, .int v1), (2, .int v2), (3, .int v3), (4, .int v4), (5, .int v5), (6, .int v6), (7, .int v7)]) (S' := [.ref v0]) rfl ?_
      refine zco_gr fl_12_134 rfl (zdk (cc := cX12_teach) (q := (107, .getfield 134, 3)) tkX12_teach 60 rfl) (fun x2 => ?_)
      refine zco_p tkX12_teach 61 3 (pc' := 114) (L' := [(0, .ref v0), (1, .int v1), (2, .int v2), (3, .int v3), (4, .int v4), (5, .int v5), (6, .int v6), (7, .int v7)]) (S' := [.int v7, .int v3, .ref v0, .ref x2]) rfl ?_
      refine zco_Vi (rc := 0) (rs := 0) (mc := 0) (ms := 0) (As := [.int v3, .int v7]) (S := [.ref x2]) vmX12_knowingAt (mtX12_knowingAt l e (by omega) v0 v3 v7) q_2012 rfl rfl (Nat.le_of_ble_eq_true rfl) (zdk (cc := cX12_teach) (q := (114, .invokevirtual 435, 3)) tkX12_teach 64 rfl) (fun y3 => ?_)
      refine zco_p tkX12_teach 65 1 (pc' := 119) (L' := [(0, .ref v0), (1, .int v1), (2, .int v2), (3, .int v3), (4, .int v4), (5, .int v5), (6, .int v6), (7, .int v7)]) (S' := [.int 9, .int y3, .ref x2]) rfl ?_
      refine zco_iastore (zdk (cc := cX12_teach) (q := (119, .iastore, 1)) tkX12_teach 66 rfl) ?_
      exact zco_sub [0, 1, 2, 3, 4, 5, 6, 7] rfl (coX12_teach_J120 l e he v0 v1 v2 v3 v4 v5 v6 v7 r46 hr46 r84 hr84)
set_option maxHeartbeats 2000000 in
set_option maxRecDepth 20000 in
theorem coX12_teach_J81 (l : Launch) (e : Nat) (he : 9 ≤ e) (v0 : Nat) (v1 : Int32) (v2 : Int32) (v3 : Int32) (v4 : Int32) (v5 : Int32) (v6 : Int32) (r46 : Int32 × Int32 → zM) (hr46 : ∀ x : Int32 × Int32, zCo l (e + 1) 0 0 iX12_teach 46 [(0, .ref v0), (1, .int v1), (2, .int v2), (3, .int v3), (4, .int v4), (5, .int x.1), (6, .int x.2)] [] (r46 x)) : zCo l (e + 1) 0 0 iX12_teach 81 [(0, .ref v0), (1, .int v1), (2, .int v2), (3, .int v3), (4, .int v4), (5, .int v5), (6, .int v6)] [] (X12_teach_J81 r46 v0 v1 v2 v3 v4 v5 v6) := by
  unfold X12_teach_J81
  refine zco_p tkX12_teach 45 2 (pc' := 84) (L' := [(7, .int 0), (0, .ref v0), (1, .int v1), (2, .int v2), (3, .int v3), (4, .int v4), (5, .int v5), (6, .int v6)]) (S' := []) rfl ?_
  exact zco_sub [1, 2, 3, 4, 5, 6, 7, 0] rfl (zco_fix (Lf := fun x : Int32 => [(0, .ref v0), (1, .int v1), (2, .int v2), (3, .int v3), (4, .int v4), (5, .int v5), (6, .int v6), (7, .int x)]) (Sf := fun _ => []) (fun r hr x => coX12_teach_B84 l e he v0 v1 v2 v3 v4 v5 v6 r46 hr46 r hr x) zFU 0)
set_option maxHeartbeats 2000000 in
set_option maxRecDepth 20000 in
theorem coX12_teach_B46 (l : Launch) (e : Nat) (he : 9 ≤ e) (v0 : Nat) (v1 : Int32) (v2 : Int32) (v3 : Int32) (v4 : Int32) (r46 : Int32 × Int32 → zM) (hr46 : ∀ x : Int32 × Int32, zCo l (e + 1) 0 0 iX12_teach 46 [(0, .ref v0), (1, .int v1), (2, .int v2), (3, .int v3), (4, .int v4), (5, .int x.1), (6, .int x.2)] [] (r46 x)) (v5 : Int32) (v6 : Int32) : zCo l (e + 1) 0 0 iX12_teach 46 [(0, .ref v0), (1, .int v1), (2, .int v2), (3, .int v3), (4, .int v4), (5, .int v5), (6, .int v6)] [] (X12_teach_B46 v0 v1 v2 v3 v4 r46 v5 v6) := by
  unfold X12_teach_B46
  refine zco_p tkX12_teach 29 4 (pc' := 52) (L' := [(0, .ref v0), (1, .int v1), (2, .int v2), (3, .int v3), (4, .int v4), (5, .int v5), (6, .int v6)]) (S' := [.int v4, .ref v0, .int 1, .int v6]) rfl ?_
  refine zco_Vi (rc := 0) (rs := 0) (mc := 0) (ms := 0) (As := [.int v4]) (S := [.int 1, .int v6]) vmX12_sideMany (mtX12_sideMany l e (by omega) v0 v4) q_1944 rfl rfl (Nat.le_of_ble_eq_true rfl) (zdk (cc := cX12_teach) (q := (52, .invokevirtual 416, 3)) tkX12_teach 33 rfl) (fun y1 => ?_)
  refine zco_p tkX12_teach 34 1 (pc' := 56) (L' := [(0, .ref v0), (1, .int v1), (2, .int v2), (3, .int v3), (4, .int v4), (5, .int v5), (6, .int v6)]) (S' := [.int ((1 : Int32) <<< (y1 &&& 31)), .int v6]) rfl ?_
  refine zco_icmp_ge (tgt := 154) (zdk (cc := cX12_teach) (q := (56, .if_icmp .ge 98, 3)) tkX12_teach 35 rfl) rfl ?_ ?_
  · exact zco_sub [0, 5] rfl (coX12_teach_J154 l e he v0 v5)
  · refine zco_p tkX12_teach 36 2 (pc' := 62) (L' := [(0, .ref v0), (1, .int v1), (2, .int v2), (3, .int v3), (4, .int v4), (5, .int v5), (6, .int v6)]) (S' := [.int ((-1)), .int v5]) rfl ?_
    refine zco_icmp_eq (tgt := 81) (zdk (cc := cX12_teach) (q := (62, .if_icmp .eq 19, 3)) tkX12_teach 38 rfl) rfl ?_ ?_
    · exact zco_sub [0, 1, 2, 3, 4, 5, 6] rfl (coX12_teach_J81 l e he v0 v1 v2 v3 v4 v5 v6 r46 hr46)
    · refine zco_p tkX12_teach 39 1 (pc' := 67) (L' := [(0, .ref v0), (1, .int v1), (2, .int v2), (3, .int v3), (4, .int v4), (5, .int v5), (6, .int v6)]) (S' := [.int v6]) rfl ?_
      refine zco_Si (rc := 0) (rs := 0) (mc := 0) (ms := 0) (As := [.int v6]) (S := []) vmX12_bits (mtX12_bits l e (by omega) v6) q_2152 rfl rfl (Nat.le_of_ble_eq_true rfl) (zdk (cc := cX12_teach) (q := (67, .invokestatic 586, 3)) tkX12_teach 40 rfl) (fun y2 => ?_)
      refine zco_p tkX12_teach 41 1 (pc' := 72) (L' := [(0, .ref v0), (1, .int v1), (2, .int v2), (3, .int v3), (4, .int v4), (5, .int v5), (6, .int v6)]) (S' := [.int v5, .int y2]) rfl ?_
      refine zco_Si (rc := 0) (rs := 0) (mc := 0) (ms := 0) (As := [.int v5]) (S := [.int y2]) vmX12_bits (mtX12_bits l e (by omega) v5) q_2152 rfl rfl (Nat.le_of_ble_eq_true rfl) (zdk (cc := cX12_teach) (q := (72, .invokestatic 586, 3)) tkX12_teach 42 rfl) (fun y3 => ?_)
      refine zco_icmp_lt (tgt := 81) (zdk (cc := cX12_teach) (q := (75, .if_icmp .lt 6, 3)) tkX12_teach 43 rfl) rfl ?_ ?_
      · exact zco_sub [0, 1, 2, 3, 4, 5, 6] rfl (coX12_teach_J81 l e he v0 v1 v2 v3 v4 v5 v6 r46 hr46)
      · refine zco_p tkX12_teach 44 1 (pc' := 148) (L' := [(0, .ref v0), (1, .int v1), (2, .int v2), (3, .int v3), (4, .int v4), (5, .int v5), (6, .int v6)]) (S' := []) rfl ?_
        exact zco_sub [0, 1, 2, 3, 4, 5, 6] rfl (coX12_teach_J148 l e he v0 v1 v2 v3 v4 v5 v6 r46 hr46)
set_option maxHeartbeats 2000000 in
set_option maxRecDepth 20000 in
theorem coX12_teach (l : Launch) (e : Nat) (he : 9 ≤ e) (v0 : Nat) (v1 : Int32) (v2 : Int32) : zCo l (e + 1) 0 0 iX12_teach 0 [(0, .ref v0), (1, .int v1), (2, .int v2)] [] (X12_teach v0 v1 v2) := by
  unfold X12_teach
  refine zco_p tkX12_teach 0 3 (pc' := 3) (L' := [(0, .ref v0), (1, .int v1), (2, .int v2)]) (S' := [.long v1.toInt64, .ref v0]) rfl ?_
  refine zco_Vi (rc := 0) (rs := 0) (mc := 0) (ms := 0) (As := [.long v1.toInt64]) (S := []) vmX12_isPerson (mtX12_isPerson l e (by omega) v0 v1.toInt64) q_1936 rfl rfl (Nat.le_of_ble_eq_true rfl) (zdk (cc := cX12_teach) (q := (3, .invokevirtual 422, 3)) tkX12_teach 3 rfl) (fun y1 => ?_)
  refine zco_if_eq (tgt := 20) (zdk (cc := cX12_teach) (q := (6, .ifCond .eq 14, 3)) tkX12_teach 4 rfl) rfl ?_ ?_
  · refine zco_p tkX12_teach 11 1 (pc' := 21) (L' := [(0, .ref v0), (1, .int v1), (2, .int v2)]) (S' := [.int ((-1))]) rfl ?_
    exact zco_iret rfl rfl rfl (zdk (cc := cX12_teach) (q := (21, .ireturn, 1)) tkX12_teach 12 rfl)
  · refine zco_p tkX12_teach 5 4 (pc' := 14) (L' := [(0, .ref v0), (1, .int v1), (2, .int v2)]) (S' := [.int 40, .int 1, .int v2, .ref v0]) rfl ?_
    refine zco_Vi (rc := 0) (rs := 0) (mc := 0) (ms := 0) (As := [.int v2, .int 1, .int 40]) (S := []) vmX12_isAhead (mtX12_isAhead l e (by omega) v0 v2 1 40) q_2072 rfl rfl (Nat.le_of_ble_eq_true rfl) (zdk (cc := cX12_teach) (q := (14, .invokevirtual 557, 3)) tkX12_teach 9 rfl) (fun y2 => ?_)
    refine zco_if_ne (tgt := 22) (zdk (cc := cX12_teach) (q := (17, .ifCond .ne 5, 3)) tkX12_teach 10 rfl) rfl ?_ ?_
    · refine zco_p tkX12_teach 13 2 (pc' := 24) (L' := [(0, .ref v0), (1, .int v1), (2, .int v2)]) (S' := [.int v1, .ref v0]) rfl ?_
      refine zco_Vi (rc := 0) (rs := 0) (mc := 0) (ms := 0) (As := [.int v1]) (S := []) vmX12_codeOf (mtX12_codeOf l e (by omega) v0 v1) q_1948 rfl rfl (Nat.le_of_ble_eq_true rfl) (zdk (cc := cX12_teach) (q := (24, .invokevirtual 429, 3)) tkX12_teach 15 rfl) (fun y3 => ?_)
      refine zco_p tkX12_teach 16 4 (pc' := 32) (L' := [(3, .int y3), (0, .ref v0), (1, .int v1), (2, .int v2)]) (S' := [.int 6, .int y3, .int 1]) rfl ?_
      refine zco_idiv (zdk (cc := cX12_teach) (q := (32, .idiv, 1)) tkX12_teach 20 rfl) ?_
      refine zco_p tkX12_teach 21 5 (pc' := 40) (L' := [(5, .int ((-1))), (4, .int (1 - (y3 / 6))), (3, .int y3), (0, .ref v0), (1, .int v1), (2, .int v2)]) (S' := [.ref v0]) rfl ?_
      refine zco_Vv (rc := 0) (rs := 0) (mc := 0) (ms := 0) (As := []) (S := []) vmX12_putsAside (mtX12_putsAside l e (by omega) v0) q_2076 rfl rfl (Nat.le_of_ble_eq_true rfl) (zdk (cc := cX12_teach) (q := (40, .invokevirtual 561, 3)) tkX12_teach 26 rfl) ?_
      refine zco_p tkX12_teach 27 2 (pc' := 46) (L' := [(6, .int 0), (5, .int ((-1))), (4, .int (1 - (y3 / 6))), (3, .int y3), (0, .ref v0), (1, .int v1), (2, .int v2)]) (S' := []) rfl ?_
      exact zco_sub [4, 5, 6, 3, 2, 1, 0] rfl (zco_fix (Lf := fun x : Int32 × Int32 => [(0, .ref v0), (1, .int v1), (2, .int v2), (3, .int y3), (4, .int (1 - (y3 / 6))), (5, .int x.1), (6, .int x.2)]) (Sf := fun _ => []) (fun r hr x => coX12_teach_B46 l e he v0 v1 v2 y3 (1 - (y3 / 6)) r hr x.1 x.2) zFU ((-1), 0))
    · refine zco_p tkX12_teach 11 1 (pc' := 21) (L' := [(0, .ref v0), (1, .int v1), (2, .int v2)]) (S' := [.int ((-1))]) rfl ?_
      exact zco_iret rfl rfl rfl (zdk (cc := cX12_teach) (q := (21, .ireturn, 1)) tkX12_teach 12 rfl)
theorem mtX12_teach (l : Launch) (d : Nat) (hd : 10 ≤ d) (v0 : Nat) (v1 : Int32) (v2 : Int32) : zMet l d 0 0 yX12_teach cX12_teach 8 (Option.some .int) [.ref v0, .int v1, .int v2] (X12_teach v0 v1 v2) := by
  obtain ⟨e, rfl⟩ : ∃ e, d = e + 1 := ⟨d - 1, by omega⟩
  exact zmet_of (own := RX12) (ini := false) (by decide +kernel) rfl (fun _ => by contradiction) (Nat.le_of_ble_eq_true rfl) (coX12_teach l e (by omega) v0 v1 v2)
abbrev iX12_exchanges : zI := (RX12, cX12_exchanges, 6, (Option.none : Option FieldType), false)
def tX12_exchanges : List (Nat × Instr × Nat) := [(0, .iconst 2, 1), (1, .bipush 6, 2), (3, .iload_n 1, 1), (4, .imul, 1), (5, .iadd, 1), (6, .istore 4, 2), (8, .aload_n 0, 1), (9, .getfield 134, 3), (12, .iload 4, 2), (14, .iload_n 2, 1), (15, .iadd, 1), (16, .iaload, 1), (17, .istore 5, 2), (19, .aload_n 0, 1), (20, .getfield 134, 3), (23, .iload 4, 2), (25, .iload_n 2, 1), (26, .iadd, 1), (27, .aload_n 0, 1), (28, .getfield 134, 3), (31, .iload 4, 2), (33, .iload_n 3, 1), (34, .iadd, 1), (35, .iaload, 1), (36, .iastore, 1), (37, .aload_n 0, 1), (38, .getfield 134, 3), (41, .iload 4, 2), (43, .iload_n 3, 1), (44, .iadd, 1), (45, .iload 5, 2), (47, .iastore, 1), (48, .return_, 1)]
set_option maxRecDepth 100000 in
theorem tkX12_exchanges : ∀ q ∈ tX12_exchanges, decode cX12_exchanges q.1 = .ok q.2 := by decide +kernel
theorem vmX12_exchanges : zVM yX12_exchanges cX12_exchanges 6 (Option.none : Option FieldType) 3 12 := ⟨kX12_exchanges, q_2161, q_127, q_162, ⟨_, rfl, rfl⟩, by decide +kernel, by decide⟩
set_option maxHeartbeats 2000000 in
set_option maxRecDepth 20000 in
theorem coX12_exchanges (l : Launch) (e : Nat) (he : 0 ≤ e) (v0 : Nat) (v1 : Int32) (v2 : Int32) (v3 : Int32) : zCo l (e + 1) 0 0 iX12_exchanges 0 [(0, .ref v0), (1, .int v1), (2, .int v2), (3, .int v3)] [] (X12_exchanges v0 v1 v2 v3) := by
  unfold X12_exchanges
  refine zco_p tkX12_exchanges 0 7 (pc' := 9) (L' := [(4, .int (2 + (6 * v1))), (0, .ref v0), (1, .int v1), (2, .int v2), (3, .int v3)]) (S' := [.ref v0]) rfl ?_
  refine zco_gr fl_12_134 rfl (zdk (cc := cX12_exchanges) (q := (9, .getfield 134, 3)) tkX12_exchanges 7 rfl) (fun x1 => ?_)
  refine zco_p tkX12_exchanges 8 3 (pc' := 16) (L' := [(4, .int (2 + (6 * v1))), (0, .ref v0), (1, .int v1), (2, .int v2), (3, .int v3)]) (S' := [.int ((2 + (6 * v1)) + v2), .ref x1]) rfl ?_
  refine zco_iaload (zdk (cc := cX12_exchanges) (q := (16, .iaload, 1)) tkX12_exchanges 11 rfl) (fun x2 => ?_)
  refine zco_p tkX12_exchanges 12 2 (pc' := 20) (L' := [(5, .int x2), (4, .int (2 + (6 * v1))), (0, .ref v0), (1, .int v1), (2, .int v2), (3, .int v3)]) (S' := [.ref v0]) rfl ?_
  refine zco_gr fl_12_134 rfl (zdk (cc := cX12_exchanges) (q := (20, .getfield 134, 3)) tkX12_exchanges 14 rfl) (fun x3 => ?_)
  refine zco_p tkX12_exchanges 15 4 (pc' := 28) (L' := [(5, .int x2), (4, .int (2 + (6 * v1))), (0, .ref v0), (1, .int v1), (2, .int v2), (3, .int v3)]) (S' := [.ref v0, .int ((2 + (6 * v1)) + v2), .ref x3]) rfl ?_
  refine zco_gr fl_12_134 rfl (zdk (cc := cX12_exchanges) (q := (28, .getfield 134, 3)) tkX12_exchanges 19 rfl) (fun x4 => ?_)
  refine zco_p tkX12_exchanges 20 3 (pc' := 35) (L' := [(5, .int x2), (4, .int (2 + (6 * v1))), (0, .ref v0), (1, .int v1), (2, .int v2), (3, .int v3)]) (S' := [.int ((2 + (6 * v1)) + v3), .ref x4, .int ((2 + (6 * v1)) + v2), .ref x3]) rfl ?_
  refine zco_iaload (zdk (cc := cX12_exchanges) (q := (35, .iaload, 1)) tkX12_exchanges 23 rfl) (fun x5 => ?_)
  refine zco_iastore (zdk (cc := cX12_exchanges) (q := (36, .iastore, 1)) tkX12_exchanges 24 rfl) ?_
  refine zco_p tkX12_exchanges 25 1 (pc' := 38) (L' := [(5, .int x2), (4, .int (2 + (6 * v1))), (0, .ref v0), (1, .int v1), (2, .int v2), (3, .int v3)]) (S' := [.ref v0]) rfl ?_
  refine zco_gr fl_12_134 rfl (zdk (cc := cX12_exchanges) (q := (38, .getfield 134, 3)) tkX12_exchanges 26 rfl) (fun x6 => ?_)
  refine zco_p tkX12_exchanges 27 4 (pc' := 47) (L' := [(5, .int x2), (4, .int (2 + (6 * v1))), (0, .ref v0), (1, .int v1), (2, .int v2), (3, .int v3)]) (S' := [.int x2, .int ((2 + (6 * v1)) + v3), .ref x6]) rfl ?_
  refine zco_iastore (zdk (cc := cX12_exchanges) (q := (47, .iastore, 1)) tkX12_exchanges 31 rfl) ?_
  exact zco_vret rfl rfl rfl (zdk (cc := cX12_exchanges) (q := (48, .return_, 1)) tkX12_exchanges 32 rfl)
theorem mtX12_exchanges (l : Launch) (d : Nat) (hd : 1 ≤ d) (v0 : Nat) (v1 : Int32) (v2 : Int32) (v3 : Int32) : zMet l d 0 0 yX12_exchanges cX12_exchanges 6 (Option.none : Option FieldType) [.ref v0, .int v1, .int v2, .int v3] (X12_exchanges v0 v1 v2 v3) := by
  obtain ⟨e, rfl⟩ : ∃ e, d = e + 1 := ⟨d - 1, by omega⟩
  exact zmet_of (own := RX12) (ini := false) (by decide +kernel) rfl (fun _ => by contradiction) (Nat.le_of_ble_eq_true rfl) (coX12_exchanges l e (by omega) v0 v1 v2 v3)
abbrev iX12_change : zI := (RX12, cX12_change, 11, (Option.some .int), false)
def tX12_change : List (Nat × Instr × Nat) := [(0, .aload_n 0, 1), (1, .iload_n 1, 1), (2, .iconst 1, 1), (3, .bipush 40, 2), (5, .invokevirtual 557, 3), (8, .ifCond .eq 15, 3), (11, .iload_n 2, 1), (12, .i2l, 1), (13, .lconst 0, 1), (14, .ldc2_w 555, 3), (17, .invokestatic 313, 3), (20, .ifCond .ne 5, 3), (23, .iconst (-1), 1), (24, .ireturn, 1), (25, .iconst (-1), 1), (26, .istore_n 3, 1), (27, .iconst (-1), 1), (28, .istore 4, 2), (30, .iconst (-1), 1), (31, .istore 5, 2), (33, .aload_n 0, 1), (34, .invokevirtual 561, 3), (37, .aload_n 0, 1), (38, .iload_n 1, 1), (39, .invokevirtual 564, 3), (42, .aload_n 0, 1), (43, .invokevirtual 533, 3), (46, .istore 6, 2), (48, .aload_n 0, 1), (49, .invokevirtual 530, 3), (52, .iconst 0, 1), (53, .istore 7, 2), (55, .iload 7, 2), (57, .iconst 2, 1), (58, .if_icmp .ge 102, 3), (61, .iconst 0, 1), (62, .istore 8, 2), (64, .iload 8, 2), (66, .aload_n 0, 1), (67, .iload 7, 2), (69, .invokevirtual 416, 3), (72, .if_icmp .ge 82, 3), (75, .iload 8, 2), (77, .iconst 1, 1), (78, .iadd, 1), (79, .istore 9, 2), (81, .iload 9, 2), (83, .aload_n 0, 1), (84, .iload 7, 2), (86, .invokevirtual 416, 3), (89, .if_icmp .ge 59, 3), (92, .aload_n 0, 1), (93, .iload 7, 2), (95, .iload 8, 2), (97, .iload 9, 2), (99, .invokevirtual 589, 3), (102, .aload_n 0, 1), (103, .iload_n 1, 1), (104, .invokevirtual 564, 3), (107, .aload_n 0, 1), (108, .invokevirtual 533, 3), (111, .istore 10, 2), (113, .aload_n 0, 1), (114, .invokevirtual 530, 3), (117, .iload 10, 2), (119, .iload 6, 2), (121, .if_icmp .gt 6, 3), (124, .goto 18, 3), (127, .iload 7, 2), (129, .istore_n 3, 1), (130, .iload 8, 2), (132, .istore 4, 2), (134, .iload 9, 2), (136, .istore 5, 2), (138, .iload 10, 2), (140, .istore 6, 2), (142, .iinc 9 1, 3), (145, .goto (-64), 3), (148, .iinc 8 1, 3), (151, .goto (-87), 3), (154, .iinc 7 1, 3), (157, .goto (-102), 3), (160, .aload_n 0, 1), (161, .invokevirtual 567, 3), (164, .iload_n 2, 1), (165, .ifCond .ne 7, 3), (168, .iload_n 3, 1), (169, .goto 25, 3), (172, .iload_n 2, 1), (173, .iconst 1, 1), (174, .if_icmp .ne 8, 3), (177, .iload 4, 2), (179, .goto 15, 3), (182, .iload_n 2, 1), (183, .iconst 2, 1), (184, .if_icmp .ne 8, 3), (187, .iload 5, 2), (189, .goto 5, 3), (192, .iload 6, 2), (194, .ireturn, 1)]
set_option maxRecDepth 100000 in
theorem tkX12_change : ∀ q ∈ tX12_change, decode cX12_change q.1 = .ok q.2 := by decide +kernel
theorem vmX12_change : zVM yX12_change cX12_change 11 (Option.some .int) 2 12 := ⟨kX12_change, q_2156, q_2157, q_162, ⟨_, rfl, rfl⟩, by decide +kernel, by decide⟩
set_option maxHeartbeats 2000000 in
set_option maxRecDepth 20000 in
theorem coX12_change_J160 (l : Launch) (e : Nat) (he : 9 ≤ e) (v0 : Nat) (v2 : Int32) (v3 : Int32) (v4 : Int32) (v5 : Int32) (v6 : Int32) : zCo l (e + 1) 0 0 iX12_change 160 [(0, .ref v0), (2, .int v2), (3, .int v3), (4, .int v4), (5, .int v5), (6, .int v6)] [] (X12_change_J160 v0 v2 v3 v4 v5 v6) := by
  unfold X12_change_J160
  refine zco_p tkX12_change 82 1 (pc' := 161) (L' := [(0, .ref v0), (2, .int v2), (3, .int v3), (4, .int v4), (5, .int v5), (6, .int v6)]) (S' := [.ref v0]) rfl ?_
  refine zco_Vv (rc := 0) (rs := 0) (mc := 0) (ms := 0) (As := []) (S := []) vmX12_takesBack (mtX12_takesBack l e (by omega) v0) q_2100 rfl rfl (Nat.le_of_ble_eq_true rfl) (zdk (cc := cX12_change) (q := (161, .invokevirtual 567, 3)) tkX12_change 83 rfl) ?_
  refine zco_p tkX12_change 84 1 (pc' := 165) (L' := [(0, .ref v0), (2, .int v2), (3, .int v3), (4, .int v4), (5, .int v5), (6, .int v6)]) (S' := [.int v2]) rfl ?_
  refine zco_if_ne (tgt := 172) (zdk (cc := cX12_change) (q := (165, .ifCond .ne 7, 3)) tkX12_change 85 rfl) rfl ?_ ?_
  · refine zco_p tkX12_change 88 2 (pc' := 174) (L' := [(0, .ref v0), (2, .int v2), (3, .int v3), (4, .int v4), (5, .int v5), (6, .int v6)]) (S' := [.int 1, .int v2]) rfl ?_
    refine zco_icmp_ne (tgt := 182) (zdk (cc := cX12_change) (q := (174, .if_icmp .ne 8, 3)) tkX12_change 90 rfl) rfl ?_ ?_
    · refine zco_p tkX12_change 93 2 (pc' := 184) (L' := [(0, .ref v0), (2, .int v2), (3, .int v3), (4, .int v4), (5, .int v5), (6, .int v6)]) (S' := [.int 2, .int v2]) rfl ?_
      refine zco_icmp_ne (tgt := 192) (zdk (cc := cX12_change) (q := (184, .if_icmp .ne 8, 3)) tkX12_change 95 rfl) rfl ?_ ?_
      · refine zco_p tkX12_change 98 1 (pc' := 194) (L' := [(0, .ref v0), (2, .int v2), (3, .int v3), (4, .int v4), (5, .int v5), (6, .int v6)]) (S' := [.int v6]) rfl ?_
        exact zco_iret rfl rfl rfl (zdk (cc := cX12_change) (q := (194, .ireturn, 1)) tkX12_change 99 rfl)
      · refine zco_p tkX12_change 96 2 (pc' := 194) (L' := [(0, .ref v0), (2, .int v2), (3, .int v3), (4, .int v4), (5, .int v5), (6, .int v6)]) (S' := [.int v5]) rfl ?_
        exact zco_iret rfl rfl rfl (zdk (cc := cX12_change) (q := (194, .ireturn, 1)) tkX12_change 99 rfl)
    · refine zco_p tkX12_change 91 2 (pc' := 194) (L' := [(0, .ref v0), (2, .int v2), (3, .int v3), (4, .int v4), (5, .int v5), (6, .int v6)]) (S' := [.int v4]) rfl ?_
      exact zco_iret rfl rfl rfl (zdk (cc := cX12_change) (q := (194, .ireturn, 1)) tkX12_change 99 rfl)
  · refine zco_p tkX12_change 86 2 (pc' := 194) (L' := [(0, .ref v0), (2, .int v2), (3, .int v3), (4, .int v4), (5, .int v5), (6, .int v6)]) (S' := [.int v3]) rfl ?_
    exact zco_iret rfl rfl rfl (zdk (cc := cX12_change) (q := (194, .ireturn, 1)) tkX12_change 99 rfl)
set_option maxHeartbeats 2000000 in
set_option maxRecDepth 20000 in
theorem coX12_change_J154 (l : Launch) (e : Nat) (he : 9 ≤ e) (v0 : Nat) (v1 : Int32) (v2 : Int32) (v3 : Int32) (v4 : Int32) (v5 : Int32) (v6 : Int32) (v7 : Int32) (r55 : Int32 × Int32 × Int32 × Int32 × Int32 → zM) (hr55 : ∀ x : Int32 × Int32 × Int32 × Int32 × Int32, zCo l (e + 1) 0 0 iX12_change 55 [(0, .ref v0), (1, .int v1), (2, .int v2), (3, .int x.1), (4, .int x.2.1), (5, .int x.2.2.1), (6, .int x.2.2.2.1), (7, .int x.2.2.2.2)] [] (r55 x)) : zCo l (e + 1) 0 0 iX12_change 154 [(0, .ref v0), (1, .int v1), (2, .int v2), (3, .int v3), (4, .int v4), (5, .int v5), (6, .int v6), (7, .int v7)] [] (X12_change_J154 r55 v0 v1 v2 v3 v4 v5 v6 v7) := by
  unfold X12_change_J154
  refine zco_p tkX12_change 80 2 (pc' := 55) (L' := [(7, .int (v7 + 1)), (0, .ref v0), (1, .int v1), (2, .int v2), (3, .int v3), (4, .int v4), (5, .int v5), (6, .int v6)]) (S' := []) rfl ?_
  exact zco_sub [1, 2, 3, 4, 5, 6, 7, 0] rfl (hr55 (v3, v4, v5, v6, v7 + 1))
set_option maxHeartbeats 2000000 in
set_option maxRecDepth 20000 in
theorem coX12_change_J148 (l : Launch) (e : Nat) (he : 9 ≤ e) (v0 : Nat) (v1 : Int32) (v2 : Int32) (v3 : Int32) (v4 : Int32) (v5 : Int32) (v6 : Int32) (v7 : Int32) (v8 : Int32) (r55 : Int32 × Int32 × Int32 × Int32 × Int32 → zM) (hr55 : ∀ x : Int32 × Int32 × Int32 × Int32 × Int32, zCo l (e + 1) 0 0 iX12_change 55 [(0, .ref v0), (1, .int v1), (2, .int v2), (3, .int x.1), (4, .int x.2.1), (5, .int x.2.2.1), (6, .int x.2.2.2.1), (7, .int x.2.2.2.2)] [] (r55 x)) (r64 : Int32 × Int32 × Int32 × Int32 × Int32 → zM) (hr64 : ∀ x : Int32 × Int32 × Int32 × Int32 × Int32, zCo l (e + 1) 0 0 iX12_change 64 [(0, .ref v0), (1, .int v1), (2, .int v2), (3, .int x.1), (4, .int x.2.1), (5, .int x.2.2.1), (6, .int x.2.2.2.1), (7, .int v7), (8, .int x.2.2.2.2)] [] (r64 x)) : zCo l (e + 1) 0 0 iX12_change 148 [(0, .ref v0), (1, .int v1), (2, .int v2), (3, .int v3), (4, .int v4), (5, .int v5), (6, .int v6), (7, .int v7), (8, .int v8)] [] (X12_change_J148 r55 r64 v0 v1 v2 v3 v4 v5 v6 v7 v8) := by
  unfold X12_change_J148
  refine zco_p tkX12_change 78 2 (pc' := 64) (L' := [(8, .int (v8 + 1)), (0, .ref v0), (1, .int v1), (2, .int v2), (3, .int v3), (4, .int v4), (5, .int v5), (6, .int v6), (7, .int v7)]) (S' := []) rfl ?_
  exact zco_sub [1, 2, 3, 4, 5, 6, 7, 8, 0] rfl (hr64 (v3, v4, v5, v6, v8 + 1))
set_option maxHeartbeats 2000000 in
set_option maxRecDepth 20000 in
theorem coX12_change_J142 (l : Launch) (e : Nat) (he : 9 ≤ e) (v0 : Nat) (v1 : Int32) (v2 : Int32) (v3 : Int32) (v4 : Int32) (v5 : Int32) (v6 : Int32) (v7 : Int32) (v8 : Int32) (v9 : Int32) (r55 : Int32 × Int32 × Int32 × Int32 × Int32 → zM) (hr55 : ∀ x : Int32 × Int32 × Int32 × Int32 × Int32, zCo l (e + 1) 0 0 iX12_change 55 [(0, .ref v0), (1, .int v1), (2, .int v2), (3, .int x.1), (4, .int x.2.1), (5, .int x.2.2.1), (6, .int x.2.2.2.1), (7, .int x.2.2.2.2)] [] (r55 x)) (r64 : Int32 × Int32 × Int32 × Int32 × Int32 → zM) (hr64 : ∀ x : Int32 × Int32 × Int32 × Int32 × Int32, zCo l (e + 1) 0 0 iX12_change 64 [(0, .ref v0), (1, .int v1), (2, .int v2), (3, .int x.1), (4, .int x.2.1), (5, .int x.2.2.1), (6, .int x.2.2.2.1), (7, .int v7), (8, .int x.2.2.2.2)] [] (r64 x)) (r81 : Int32 × Int32 × Int32 × Int32 × Int32 → zM) (hr81 : ∀ x : Int32 × Int32 × Int32 × Int32 × Int32, zCo l (e + 1) 0 0 iX12_change 81 [(0, .ref v0), (1, .int v1), (2, .int v2), (3, .int x.1), (4, .int x.2.1), (5, .int x.2.2.1), (6, .int x.2.2.2.1), (7, .int v7), (8, .int v8), (9, .int x.2.2.2.2)] [] (r81 x)) : zCo l (e + 1) 0 0 iX12_change 142 [(0, .ref v0), (1, .int v1), (2, .int v2), (3, .int v3), (4, .int v4), (5, .int v5), (6, .int v6), (7, .int v7), (8, .int v8), (9, .int v9)] [] (X12_change_J142 r55 r64 r81 v0 v1 v2 v3 v4 v5 v6 v7 v8 v9) := by
  unfold X12_change_J142
  refine zco_p tkX12_change 76 2 (pc' := 81) (L' := [(9, .int (v9 + 1)), (0, .ref v0), (1, .int v1), (2, .int v2), (3, .int v3), (4, .int v4), (5, .int v5), (6, .int v6), (7, .int v7), (8, .int v8)]) (S' := []) rfl ?_
  exact zco_sub [1, 2, 3, 4, 5, 6, 7, 8, 9, 0] rfl (hr81 (v3, v4, v5, v6, v9 + 1))
set_option maxHeartbeats 2000000 in
set_option maxRecDepth 20000 in
theorem coX12_change_B81 (l : Launch) (e : Nat) (he : 9 ≤ e) (v0 : Nat) (v1 : Int32) (v2 : Int32) (v7 : Int32) (v8 : Int32) (r55 : Int32 × Int32 × Int32 × Int32 × Int32 → zM) (hr55 : ∀ x : Int32 × Int32 × Int32 × Int32 × Int32, zCo l (e + 1) 0 0 iX12_change 55 [(0, .ref v0), (1, .int v1), (2, .int v2), (3, .int x.1), (4, .int x.2.1), (5, .int x.2.2.1), (6, .int x.2.2.2.1), (7, .int x.2.2.2.2)] [] (r55 x)) (r64 : Int32 × Int32 × Int32 × Int32 × Int32 → zM) (hr64 : ∀ x : Int32 × Int32 × Int32 × Int32 × Int32, zCo l (e + 1) 0 0 iX12_change 64 [(0, .ref v0), (1, .int v1), (2, .int v2), (3, .int x.1), (4, .int x.2.1), (5, .int x.2.2.1), (6, .int x.2.2.2.1), (7, .int v7), (8, .int x.2.2.2.2)] [] (r64 x)) (r81 : Int32 × Int32 × Int32 × Int32 × Int32 → zM) (hr81 : ∀ x : Int32 × Int32 × Int32 × Int32 × Int32, zCo l (e + 1) 0 0 iX12_change 81 [(0, .ref v0), (1, .int v1), (2, .int v2), (3, .int x.1), (4, .int x.2.1), (5, .int x.2.2.1), (6, .int x.2.2.2.1), (7, .int v7), (8, .int v8), (9, .int x.2.2.2.2)] [] (r81 x)) (v3 : Int32) (v4 : Int32) (v5 : Int32) (v6 : Int32) (v9 : Int32) : zCo l (e + 1) 0 0 iX12_change 81 [(0, .ref v0), (1, .int v1), (2, .int v2), (3, .int v3), (4, .int v4), (5, .int v5), (6, .int v6), (7, .int v7), (8, .int v8), (9, .int v9)] [] (X12_change_B81 r55 r64 v0 v1 v2 v7 v8 r81 v3 v4 v5 v6 v9) := by
  unfold X12_change_B81
  refine zco_p tkX12_change 46 3 (pc' := 86) (L' := [(0, .ref v0), (1, .int v1), (2, .int v2), (3, .int v3), (4, .int v4), (5, .int v5), (6, .int v6), (7, .int v7), (8, .int v8), (9, .int v9)]) (S' := [.int v7, .ref v0, .int v9]) rfl ?_
  refine zco_Vi (rc := 0) (rs := 0) (mc := 0) (ms := 0) (As := [.int v7]) (S := [.int v9]) vmX12_sideMany (mtX12_sideMany l e (by omega) v0 v7) q_1944 rfl rfl (Nat.le_of_ble_eq_true rfl) (zdk (cc := cX12_change) (q := (86, .invokevirtual 416, 3)) tkX12_change 49 rfl) (fun y1 => ?_)
  refine zco_icmp_ge (tgt := 148) (zdk (cc := cX12_change) (q := (89, .if_icmp .ge 59, 3)) tkX12_change 50 rfl) rfl ?_ ?_
  · exact zco_sub [0, 1, 2, 3, 4, 5, 6, 7, 8] rfl (coX12_change_J148 l e he v0 v1 v2 v3 v4 v5 v6 v7 v8 r55 hr55 r64 hr64)
  · refine zco_p tkX12_change 51 4 (pc' := 99) (L' := [(0, .ref v0), (1, .int v1), (2, .int v2), (3, .int v3), (4, .int v4), (5, .int v5), (6, .int v6), (7, .int v7), (8, .int v8), (9, .int v9)]) (S' := [.int v9, .int v8, .int v7, .ref v0]) rfl ?_
    refine zco_Vv (rc := 0) (rs := 0) (mc := 0) (ms := 0) (As := [.int v7, .int v8, .int v9]) (S := []) vmX12_exchanges (mtX12_exchanges l e (by omega) v0 v7 v8 v9) q_2159 rfl rfl (Nat.le_of_ble_eq_true rfl) (zdk (cc := cX12_change) (q := (99, .invokevirtual 589, 3)) tkX12_change 55 rfl) ?_
    refine zco_p tkX12_change 56 2 (pc' := 104) (L' := [(0, .ref v0), (1, .int v1), (2, .int v2), (3, .int v3), (4, .int v4), (5, .int v5), (6, .int v6), (7, .int v7), (8, .int v8), (9, .int v9)]) (S' := [.int v1, .ref v0]) rfl ?_
    refine zco_Vv (rc := 0) (rs := 0) (mc := 0) (ms := 0) (As := [.int v1]) (S := []) vmX12_roundsGo (mtX12_roundsGo l e (by omega) v0 v1) q_2080 rfl rfl (Nat.le_of_ble_eq_true rfl) (zdk (cc := cX12_change) (q := (104, .invokevirtual 564, 3)) tkX12_change 58 rfl) ?_
    refine zco_p tkX12_change 59 1 (pc' := 108) (L' := [(0, .ref v0), (1, .int v1), (2, .int v2), (3, .int v3), (4, .int v4), (5, .int v5), (6, .int v6), (7, .int v7), (8, .int v8), (9, .int v9)]) (S' := [.ref v0]) rfl ?_
    refine zco_Vi (rc := 0) (rs := 0) (mc := 0) (ms := 0) (As := []) (S := []) vmX12_wedMany (mtX12_wedMany l e (by omega) v0) q_1928 rfl rfl (Nat.le_of_ble_eq_true rfl) (zdk (cc := cX12_change) (q := (108, .invokevirtual 533, 3)) tkX12_change 60 rfl) (fun y2 => ?_)
    refine zco_p tkX12_change 61 2 (pc' := 114) (L' := [(10, .int y2), (0, .ref v0), (1, .int v1), (2, .int v2), (3, .int v3), (4, .int v4), (5, .int v5), (6, .int v6), (7, .int v7), (8, .int v8), (9, .int v9)]) (S' := [.ref v0]) rfl ?_
    refine zco_Vv (rc := 0) (rs := 0) (mc := 0) (ms := 0) (As := []) (S := []) vmX12_triesAnew (mtX12_triesAnew l e (by omega) v0) q_2104 rfl rfl (Nat.le_of_ble_eq_true rfl) (zdk (cc := cX12_change) (q := (114, .invokevirtual 530, 3)) tkX12_change 63 rfl) ?_
    refine zco_p tkX12_change 64 2 (pc' := 121) (L' := [(10, .int y2), (0, .ref v0), (1, .int v1), (2, .int v2), (3, .int v3), (4, .int v4), (5, .int v5), (6, .int v6), (7, .int v7), (8, .int v8), (9, .int v9)]) (S' := [.int v6, .int y2]) rfl ?_
    refine zco_icmp_gt (tgt := 127) (zdk (cc := cX12_change) (q := (121, .if_icmp .gt 6, 3)) tkX12_change 66 rfl) rfl ?_ ?_
    · refine zco_p tkX12_change 68 8 (pc' := 142) (L' := [(6, .int y2), (5, .int v9), (4, .int v8), (3, .int v7), (10, .int y2), (0, .ref v0), (1, .int v1), (2, .int v2), (7, .int v7), (8, .int v8), (9, .int v9)]) (S' := []) rfl ?_
      exact zco_sub [5, 6, 7, 3, 2, 1, 0, 8, 9, 10] rfl (coX12_change_J142 l e he v0 v1 v2 v7 v8 v9 y2 v7 v8 v9 r55 hr55 r64 hr64 r81 hr81)
    · refine zco_p tkX12_change 67 1 (pc' := 142) (L' := [(10, .int y2), (0, .ref v0), (1, .int v1), (2, .int v2), (3, .int v3), (4, .int v4), (5, .int v5), (6, .int v6), (7, .int v7), (8, .int v8), (9, .int v9)]) (S' := []) rfl ?_
      exact zco_sub [1, 2, 3, 4, 5, 6, 7, 8, 9, 10] rfl (coX12_change_J142 l e he v0 v1 v2 v3 v4 v5 v6 v7 v8 v9 r55 hr55 r64 hr64 r81 hr81)
set_option maxHeartbeats 2000000 in
set_option maxRecDepth 20000 in
theorem coX12_change_B64 (l : Launch) (e : Nat) (he : 9 ≤ e) (v0 : Nat) (v1 : Int32) (v2 : Int32) (v7 : Int32) (r55 : Int32 × Int32 × Int32 × Int32 × Int32 → zM) (hr55 : ∀ x : Int32 × Int32 × Int32 × Int32 × Int32, zCo l (e + 1) 0 0 iX12_change 55 [(0, .ref v0), (1, .int v1), (2, .int v2), (3, .int x.1), (4, .int x.2.1), (5, .int x.2.2.1), (6, .int x.2.2.2.1), (7, .int x.2.2.2.2)] [] (r55 x)) (r64 : Int32 × Int32 × Int32 × Int32 × Int32 → zM) (hr64 : ∀ x : Int32 × Int32 × Int32 × Int32 × Int32, zCo l (e + 1) 0 0 iX12_change 64 [(0, .ref v0), (1, .int v1), (2, .int v2), (3, .int x.1), (4, .int x.2.1), (5, .int x.2.2.1), (6, .int x.2.2.2.1), (7, .int v7), (8, .int x.2.2.2.2)] [] (r64 x)) (v3 : Int32) (v4 : Int32) (v5 : Int32) (v6 : Int32) (v8 : Int32) : zCo l (e + 1) 0 0 iX12_change 64 [(0, .ref v0), (1, .int v1), (2, .int v2), (3, .int v3), (4, .int v4), (5, .int v5), (6, .int v6), (7, .int v7), (8, .int v8)] [] (X12_change_B64 r55 v0 v1 v2 v7 r64 v3 v4 v5 v6 v8) := by
  unfold X12_change_B64
  refine zco_p tkX12_change 37 3 (pc' := 69) (L' := [(0, .ref v0), (1, .int v1), (2, .int v2), (3, .int v3), (4, .int v4), (5, .int v5), (6, .int v6), (7, .int v7), (8, .int v8)]) (S' := [.int v7, .ref v0, .int v8]) rfl ?_
  refine zco_Vi (rc := 0) (rs := 0) (mc := 0) (ms := 0) (As := [.int v7]) (S := [.int v8]) vmX12_sideMany (mtX12_sideMany l e (by omega) v0 v7) q_1944 rfl rfl (Nat.le_of_ble_eq_true rfl) (zdk (cc := cX12_change) (q := (69, .invokevirtual 416, 3)) tkX12_change 40 rfl) (fun y1 => ?_)
  refine zco_icmp_ge (tgt := 154) (zdk (cc := cX12_change) (q := (72, .if_icmp .ge 82, 3)) tkX12_change 41 rfl) rfl ?_ ?_
  · exact zco_sub [0, 1, 2, 3, 4, 5, 6, 7] rfl (coX12_change_J154 l e he v0 v1 v2 v3 v4 v5 v6 v7 r55 hr55)
  · refine zco_p tkX12_change 42 4 (pc' := 81) (L' := [(9, .int (v8 + 1)), (0, .ref v0), (1, .int v1), (2, .int v2), (3, .int v3), (4, .int v4), (5, .int v5), (6, .int v6), (7, .int v7), (8, .int v8)]) (S' := []) rfl ?_
    exact zco_sub [1, 2, 3, 4, 5, 6, 7, 8, 9, 0] rfl (zco_fix (Lf := fun x : Int32 × Int32 × Int32 × Int32 × Int32 => [(0, .ref v0), (1, .int v1), (2, .int v2), (3, .int x.1), (4, .int x.2.1), (5, .int x.2.2.1), (6, .int x.2.2.2.1), (7, .int v7), (8, .int v8), (9, .int x.2.2.2.2)]) (Sf := fun _ => []) (fun r hr x => coX12_change_B81 l e he v0 v1 v2 v7 v8 r55 hr55 r64 hr64 r hr x.1 x.2.1 x.2.2.1 x.2.2.2.1 x.2.2.2.2) zFU (v3, v4, v5, v6, v8 + 1))
set_option maxHeartbeats 2000000 in
set_option maxRecDepth 20000 in
theorem coX12_change_B55 (l : Launch) (e : Nat) (he : 9 ≤ e) (v0 : Nat) (v1 : Int32) (v2 : Int32) (r55 : Int32 × Int32 × Int32 × Int32 × Int32 → zM) (hr55 : ∀ x : Int32 × Int32 × Int32 × Int32 × Int32, zCo l (e + 1) 0 0 iX12_change 55 [(0, .ref v0), (1, .int v1), (2, .int v2), (3, .int x.1), (4, .int x.2.1), (5, .int x.2.2.1), (6, .int x.2.2.2.1), (7, .int x.2.2.2.2)] [] (r55 x)) (v3 : Int32) (v4 : Int32) (v5 : Int32) (v6 : Int32) (v7 : Int32) : zCo l (e + 1) 0 0 iX12_change 55 [(0, .ref v0), (1, .int v1), (2, .int v2), (3, .int v3), (4, .int v4), (5, .int v5), (6, .int v6), (7, .int v7)] [] (X12_change_B55 v0 v1 v2 r55 v3 v4 v5 v6 v7) := by
  unfold X12_change_B55
  refine zco_p tkX12_change 32 2 (pc' := 58) (L' := [(0, .ref v0), (1, .int v1), (2, .int v2), (3, .int v3), (4, .int v4), (5, .int v5), (6, .int v6), (7, .int v7)]) (S' := [.int 2, .int v7]) rfl ?_
  refine zco_icmp_ge (tgt := 160) (zdk (cc := cX12_change) (q := (58, .if_icmp .ge 102, 3)) tkX12_change 34 rfl) rfl ?_ ?_
  · exact zco_sub [0, 2, 3, 4, 5, 6] rfl (coX12_change_J160 l e he v0 v2 v3 v4 v5 v6)
  · refine zco_p tkX12_change 35 2 (pc' := 64) (L' := [(8, .int 0), (0, .ref v0), (1, .int v1), (2, .int v2), (3, .int v3), (4, .int v4), (5, .int v5), (6, .int v6), (7, .int v7)]) (S' := []) rfl ?_
    exact zco_sub [1, 2, 3, 4, 5, 6, 7, 8, 0] rfl (zco_fix (Lf := fun x : Int32 × Int32 × Int32 × Int32 × Int32 => [(0, .ref v0), (1, .int v1), (2, .int v2), (3, .int x.1), (4, .int x.2.1), (5, .int x.2.2.1), (6, .int x.2.2.2.1), (7, .int v7), (8, .int x.2.2.2.2)]) (Sf := fun _ => []) (fun r hr x => coX12_change_B64 l e he v0 v1 v2 v7 r55 hr55 r hr x.1 x.2.1 x.2.2.1 x.2.2.2.1 x.2.2.2.2) zFU (v3, v4, v5, v6, 0))
set_option maxHeartbeats 2000000 in
set_option maxRecDepth 20000 in
theorem coX12_change (l : Launch) (e : Nat) (he : 9 ≤ e) (v0 : Nat) (v1 : Int32) (v2 : Int32) : zCo l (e + 1) 0 0 iX12_change 0 [(0, .ref v0), (1, .int v1), (2, .int v2)] [] (X12_change v0 v1 v2) := by
  unfold X12_change
  refine zco_p tkX12_change 0 4 (pc' := 5) (L' := [(0, .ref v0), (1, .int v1), (2, .int v2)]) (S' := [.int 40, .int 1, .int v1, .ref v0]) rfl ?_
  refine zco_Vi (rc := 0) (rs := 0) (mc := 0) (ms := 0) (As := [.int v1, .int 1, .int 40]) (S := []) vmX12_isAhead (mtX12_isAhead l e (by omega) v0 v1 1 40) q_2072 rfl rfl (Nat.le_of_ble_eq_true rfl) (zdk (cc := cX12_change) (q := (5, .invokevirtual 557, 3)) tkX12_change 4 rfl) (fun y1 => ?_)
  refine zco_if_eq (tgt := 23) (zdk (cc := cX12_change) (q := (8, .ifCond .eq 15, 3)) tkX12_change 5 rfl) rfl ?_ ?_
  · refine zco_p tkX12_change 12 1 (pc' := 24) (L' := [(0, .ref v0), (1, .int v1), (2, .int v2)]) (S' := [.int ((-1))]) rfl ?_
    exact zco_iret rfl rfl rfl (zdk (cc := cX12_change) (q := (24, .ireturn, 1)) tkX12_change 13 rfl)
  · refine zco_p tkX12_change 6 3 (pc' := 14) (L' := [(0, .ref v0), (1, .int v1), (2, .int v2)]) (S' := [.long 0, .long v2.toInt64]) rfl ?_
    refine zco_ldc2 q_2067 (zdk (cc := cX12_change) (q := (14, .ldc2_w 555, 3)) tkX12_change 9 rfl) ?_
    refine zco_Si (rc := 0) (rs := 0) (mc := 0) (ms := 0) (As := [.long v2.toInt64, .long 0, .long 3]) (S := []) vmX12_isIn (mtX12_isIn l e (by omega) v2.toInt64 0 3) q_1799 rfl rfl (Nat.le_of_ble_eq_true rfl) (zdk (cc := cX12_change) (q := (17, .invokestatic 313, 3)) tkX12_change 10 rfl) (fun y2 => ?_)
    refine zco_if_ne (tgt := 25) (zdk (cc := cX12_change) (q := (20, .ifCond .ne 5, 3)) tkX12_change 11 rfl) rfl ?_ ?_
    · refine zco_p tkX12_change 14 7 (pc' := 34) (L' := [(5, .int ((-1))), (4, .int ((-1))), (3, .int ((-1))), (0, .ref v0), (1, .int v1), (2, .int v2)]) (S' := [.ref v0]) rfl ?_
      refine zco_Vv (rc := 0) (rs := 0) (mc := 0) (ms := 0) (As := []) (S := []) vmX12_putsAside (mtX12_putsAside l e (by omega) v0) q_2076 rfl rfl (Nat.le_of_ble_eq_true rfl) (zdk (cc := cX12_change) (q := (34, .invokevirtual 561, 3)) tkX12_change 21 rfl) ?_
      refine zco_p tkX12_change 22 2 (pc' := 39) (L' := [(5, .int ((-1))), (4, .int ((-1))), (3, .int ((-1))), (0, .ref v0), (1, .int v1), (2, .int v2)]) (S' := [.int v1, .ref v0]) rfl ?_
      refine zco_Vv (rc := 0) (rs := 0) (mc := 0) (ms := 0) (As := [.int v1]) (S := []) vmX12_roundsGo (mtX12_roundsGo l e (by omega) v0 v1) q_2080 rfl rfl (Nat.le_of_ble_eq_true rfl) (zdk (cc := cX12_change) (q := (39, .invokevirtual 564, 3)) tkX12_change 24 rfl) ?_
      refine zco_p tkX12_change 25 1 (pc' := 43) (L' := [(5, .int ((-1))), (4, .int ((-1))), (3, .int ((-1))), (0, .ref v0), (1, .int v1), (2, .int v2)]) (S' := [.ref v0]) rfl ?_
      refine zco_Vi (rc := 0) (rs := 0) (mc := 0) (ms := 0) (As := []) (S := []) vmX12_wedMany (mtX12_wedMany l e (by omega) v0) q_1928 rfl rfl (Nat.le_of_ble_eq_true rfl) (zdk (cc := cX12_change) (q := (43, .invokevirtual 533, 3)) tkX12_change 26 rfl) (fun y3 => ?_)
      refine zco_p tkX12_change 27 2 (pc' := 49) (L' := [(6, .int y3), (5, .int ((-1))), (4, .int ((-1))), (3, .int ((-1))), (0, .ref v0), (1, .int v1), (2, .int v2)]) (S' := [.ref v0]) rfl ?_
      refine zco_Vv (rc := 0) (rs := 0) (mc := 0) (ms := 0) (As := []) (S := []) vmX12_triesAnew (mtX12_triesAnew l e (by omega) v0) q_2104 rfl rfl (Nat.le_of_ble_eq_true rfl) (zdk (cc := cX12_change) (q := (49, .invokevirtual 530, 3)) tkX12_change 29 rfl) ?_
      refine zco_p tkX12_change 30 2 (pc' := 55) (L' := [(7, .int 0), (6, .int y3), (5, .int ((-1))), (4, .int ((-1))), (3, .int ((-1))), (0, .ref v0), (1, .int v1), (2, .int v2)]) (S' := []) rfl ?_
      exact zco_sub [5, 6, 7, 4, 3, 2, 1, 0] rfl (zco_fix (Lf := fun x : Int32 × Int32 × Int32 × Int32 × Int32 => [(0, .ref v0), (1, .int v1), (2, .int v2), (3, .int x.1), (4, .int x.2.1), (5, .int x.2.2.1), (6, .int x.2.2.2.1), (7, .int x.2.2.2.2)]) (Sf := fun _ => []) (fun r hr x => coX12_change_B55 l e he v0 v1 v2 r hr x.1 x.2.1 x.2.2.1 x.2.2.2.1 x.2.2.2.2) zFU ((-1), (-1), (-1), y3, 0))
    · refine zco_p tkX12_change 12 1 (pc' := 24) (L' := [(0, .ref v0), (1, .int v1), (2, .int v2)]) (S' := [.int ((-1))]) rfl ?_
      exact zco_iret rfl rfl rfl (zdk (cc := cX12_change) (q := (24, .ireturn, 1)) tkX12_change 13 rfl)
theorem mtX12_change (l : Launch) (d : Nat) (hd : 10 ≤ d) (v0 : Nat) (v1 : Int32) (v2 : Int32) : zMet l d 0 0 yX12_change cX12_change 11 (Option.some .int) [.ref v0, .int v1, .int v2] (X12_change v0 v1 v2) := by
  obtain ⟨e, rfl⟩ : ∃ e, d = e + 1 := ⟨d - 1, by omega⟩
  exact zmet_of (own := RX12) (ini := false) (by decide +kernel) rfl (fun _ => by contradiction) (Nat.le_of_ble_eq_true rfl) (coX12_change l e (by omega) v0 v1 v2)
abbrev iX12_odds : zI := (RX12, cX12_odds, 4, (Option.some .int), false)
def tX12_odds : List (Nat × Instr × Nat) := [(0, .iload_n 1, 1), (1, .iconst (-1), 1), (2, .if_icmp .eq 12, 3), (5, .aload_n 0, 1), (6, .iload_n 1, 1), (7, .i2l, 1), (8, .invokevirtual 422, 3), (11, .ifCond .eq 20, 3), (14, .aload_n 0, 1), (15, .invokevirtual 419, 3), (18, .ifCond .eq 13, 3), (21, .aload_n 0, 1), (22, .iconst 1, 1), (23, .iconst 1, 1), (24, .iconst 1, 1), (25, .invokevirtual 557, 3), (28, .ifCond .ne 5, 3), (31, .iconst (-1), 1), (32, .ireturn, 1), (33, .iload_n 1, 1), (34, .iconst (-1), 1), (35, .if_icmp .ne 11, 3), (38, .bipush 100, 2), (40, .aload_n 0, 1), (41, .invokevirtual 419, 3), (44, .imul, 1), (45, .ireturn, 1), (46, .iconst 0, 1), (47, .istore_n 2, 1), (48, .aload_n 0, 1), (49, .invokevirtual 561, 3), (52, .iconst (-1), 1), (53, .istore_n 3, 1), (54, .iload_n 3, 1), (55, .aload_n 0, 1), (56, .invokevirtual 419, 3), (59, .if_icmp .ge 73, 3), (62, .aload_n 0, 1), (63, .iload_n 3, 1), (64, .iconst (-1), 1), (65, .if_icmp .ne 7, 3), (68, .iconst (-1), 1), (69, .goto 8, 3), (72, .aload_n 0, 1), (73, .iload_n 3, 1), (74, .invokevirtual 429, 3), (77, .invokevirtual 527, 3), (80, .aload_n 0, 1), (81, .iload_n 1, 1), (82, .invokevirtual 521, 3), (85, .iconst (-1), 1), (86, .if_icmp .eq 36, 3), (89, .iload_n 2, 1), (90, .iload_n 3, 1), (91, .iconst (-1), 1), (92, .if_icmp .ne 21, 3), (95, .bipush 100, 2), (97, .aload_n 0, 1), (98, .getfield 105, 3), (101, .bipush 10, 2), (103, .iaload, 1), (104, .isub, 1), (105, .aload_n 0, 1), (106, .invokevirtual 419, 3), (109, .imul, 1), (110, .goto 10, 3), (113, .aload_n 0, 1), (114, .getfield 105, 3), (117, .bipush 10, 2), (119, .iaload, 1), (120, .iadd, 1), (121, .istore_n 2, 1), (122, .aload_n 0, 1), (123, .invokevirtual 530, 3), (126, .iinc 3 1, 3), (129, .goto (-75), 3), (132, .aload_n 0, 1), (133, .invokevirtual 567, 3), (136, .iload_n 2, 1), (137, .ireturn, 1)]
set_option maxRecDepth 100000 in
theorem tkX12_odds : ∀ q ∈ tX12_odds, decode cX12_odds q.1 = .ok q.2 := by decide +kernel
theorem vmX12_odds : zVM yX12_odds cX12_odds 4 (Option.some .int) 1 12 := ⟨kX12_odds, q_2164, q_2165, q_162, ⟨_, rfl, rfl⟩, by decide +kernel, by decide⟩
set_option maxHeartbeats 2000000 in
set_option maxRecDepth 20000 in
theorem coX12_odds_J132 (l : Launch) (e : Nat) (he : 8 ≤ e) (v0 : Nat) (v2 : Int32) : zCo l (e + 1) 0 0 iX12_odds 132 [(0, .ref v0), (2, .int v2)] [] (X12_odds_J132 v0 v2) := by
  unfold X12_odds_J132
  refine zco_p tkX12_odds 76 1 (pc' := 133) (L' := [(0, .ref v0), (2, .int v2)]) (S' := [.ref v0]) rfl ?_
  refine zco_Vv (rc := 0) (rs := 0) (mc := 0) (ms := 0) (As := []) (S := []) vmX12_takesBack (mtX12_takesBack l e (by omega) v0) q_2100 rfl rfl (Nat.le_of_ble_eq_true rfl) (zdk (cc := cX12_odds) (q := (133, .invokevirtual 567, 3)) tkX12_odds 77 rfl) ?_
  refine zco_p tkX12_odds 78 1 (pc' := 137) (L' := [(0, .ref v0), (2, .int v2)]) (S' := [.int v2]) rfl ?_
  exact zco_iret rfl rfl rfl (zdk (cc := cX12_odds) (q := (137, .ireturn, 1)) tkX12_odds 79 rfl)
set_option maxHeartbeats 2000000 in
set_option maxRecDepth 20000 in
theorem coX12_odds_J122 (l : Launch) (e : Nat) (he : 8 ≤ e) (v0 : Nat) (v1 : Int32) (v2 : Int32) (v3 : Int32) (r54 : Int32 × Int32 → zM) (hr54 : ∀ x : Int32 × Int32, zCo l (e + 1) 0 0 iX12_odds 54 [(0, .ref v0), (1, .int v1), (2, .int x.1), (3, .int x.2)] [] (r54 x)) : zCo l (e + 1) 0 0 iX12_odds 122 [(0, .ref v0), (1, .int v1), (2, .int v2), (3, .int v3)] [] (X12_odds_J122 r54 v0 v1 v2 v3) := by
  unfold X12_odds_J122
  refine zco_p tkX12_odds 72 1 (pc' := 123) (L' := [(0, .ref v0), (1, .int v1), (2, .int v2), (3, .int v3)]) (S' := [.ref v0]) rfl ?_
  refine zco_Vv (rc := 0) (rs := 0) (mc := 0) (ms := 0) (As := []) (S := []) vmX12_triesAnew (mtX12_triesAnew l e (by omega) v0) q_2104 rfl rfl (Nat.le_of_ble_eq_true rfl) (zdk (cc := cX12_odds) (q := (123, .invokevirtual 530, 3)) tkX12_odds 73 rfl) ?_
  refine zco_p tkX12_odds 74 2 (pc' := 54) (L' := [(3, .int (v3 + 1)), (0, .ref v0), (1, .int v1), (2, .int v2)]) (S' := []) rfl ?_
  exact zco_sub [1, 2, 3, 0] rfl (hr54 (v2, v3 + 1))
set_option maxHeartbeats 2000000 in
set_option maxRecDepth 20000 in
theorem coX12_odds_J120 (l : Launch) (e : Nat) (he : 8 ≤ e) (v0 : Nat) (v1 : Int32) (v3 : Int32) (r54 : Int32 × Int32 → zM) (hr54 : ∀ x : Int32 × Int32, zCo l (e + 1) 0 0 iX12_odds 54 [(0, .ref v0), (1, .int v1), (2, .int x.1), (3, .int x.2)] [] (r54 x)) (s0 : Int32) (s1 : Int32) : zCo l (e + 1) 0 0 iX12_odds 120 [(0, .ref v0), (1, .int v1), (3, .int v3)] [.int s0, .int s1] (X12_odds_J120 r54 v0 v1 v3 s0 s1) := by
  unfold X12_odds_J120
  refine zco_p tkX12_odds 70 2 (pc' := 122) (L' := [(2, .int (s1 + s0)), (0, .ref v0), (1, .int v1), (3, .int v3)]) (S' := []) rfl ?_
  exact zco_sub [1, 2, 0, 3] rfl (coX12_odds_J122 l e he v0 v1 (s1 + s0) v3 r54 hr54)
set_option maxHeartbeats 2000000 in
set_option maxRecDepth 20000 in
theorem coX12_odds_J77 (l : Launch) (e : Nat) (he : 8 ≤ e) (v0 : Nat) (v1 : Int32) (v2 : Int32) (v3 : Int32) (r54 : Int32 × Int32 → zM) (hr54 : ∀ x : Int32 × Int32, zCo l (e + 1) 0 0 iX12_odds 54 [(0, .ref v0), (1, .int v1), (2, .int x.1), (3, .int x.2)] [] (r54 x)) (s0 : Int32) (s1 : Nat) : zCo l (e + 1) 0 0 iX12_odds 77 [(0, .ref v0), (1, .int v1), (2, .int v2), (3, .int v3)] [.int s0, .ref s1] (X12_odds_J77 r54 v0 v1 v2 v3 s0 s1) := by
  unfold X12_odds_J77
  refine zco_Vv (rc := 0) (rs := 0) (mc := 0) (ms := 0) (As := [.int s0]) (S := []) vmX12_roundGoes (mtX12_roundGoes l e (by omega) s1 s0) q_2084 rfl rfl (Nat.le_of_ble_eq_true rfl) (zdk (cc := cX12_odds) (q := (77, .invokevirtual 527, 3)) tkX12_odds 46 rfl) ?_
  refine zco_p tkX12_odds 47 2 (pc' := 82) (L' := [(0, .ref v0), (1, .int v1), (2, .int v2), (3, .int v3)]) (S' := [.int v1, .ref v0]) rfl ?_
  refine zco_Vi (rc := 0) (rs := 0) (mc := 0) (ms := 0) (As := [.int v1]) (S := []) vmX12_wedTo (mtX12_wedTo l e (by omega) v0 v1) q_1968 rfl rfl (Nat.le_of_ble_eq_true rfl) (zdk (cc := cX12_odds) (q := (82, .invokevirtual 521, 3)) tkX12_odds 49 rfl) (fun y1 => ?_)
  refine zco_p tkX12_odds 50 1 (pc' := 86) (L' := [(0, .ref v0), (1, .int v1), (2, .int v2), (3, .int v3)]) (S' := [.int ((-1)), .int y1]) rfl ?_
  refine zco_icmp_eq (tgt := 122) (zdk (cc := cX12_odds) (q := (86, .if_icmp .eq 36, 3)) tkX12_odds 51 rfl) rfl ?_ ?_
  · exact zco_sub [0, 1, 2, 3] rfl (coX12_odds_J122 l e he v0 v1 v2 v3 r54 hr54)
  · refine zco_p tkX12_odds 52 3 (pc' := 92) (L' := [(0, .ref v0), (1, .int v1), (2, .int v2), (3, .int v3)]) (S' := [.int ((-1)), .int v3, .int v2]) rfl ?_
    refine zco_icmp_ne (tgt := 113) (zdk (cc := cX12_odds) (q := (92, .if_icmp .ne 21, 3)) tkX12_odds 55 rfl) rfl ?_ ?_
    · refine zco_p tkX12_odds 66 1 (pc' := 114) (L' := [(0, .ref v0), (1, .int v1), (2, .int v2), (3, .int v3)]) (S' := [.ref v0, .int v2]) rfl ?_
      refine zco_gr fl_12_105 rfl (zdk (cc := cX12_odds) (q := (114, .getfield 105, 3)) tkX12_odds 67 rfl) (fun x2 => ?_)
      refine zco_p tkX12_odds 68 1 (pc' := 119) (L' := [(0, .ref v0), (1, .int v1), (2, .int v2), (3, .int v3)]) (S' := [.int 10, .ref x2, .int v2]) rfl ?_
      refine zco_iaload (zdk (cc := cX12_odds) (q := (119, .iaload, 1)) tkX12_odds 69 rfl) (fun x3 => ?_)
      exact zco_sub [0, 1, 3] rfl (coX12_odds_J120 l e he v0 v1 v3 r54 hr54 x3 v2)
    · refine zco_p tkX12_odds 56 2 (pc' := 98) (L' := [(0, .ref v0), (1, .int v1), (2, .int v2), (3, .int v3)]) (S' := [.ref v0, .int 100, .int v2]) rfl ?_
      refine zco_gr fl_12_105 rfl (zdk (cc := cX12_odds) (q := (98, .getfield 105, 3)) tkX12_odds 58 rfl) (fun x4 => ?_)
      refine zco_p tkX12_odds 59 1 (pc' := 103) (L' := [(0, .ref v0), (1, .int v1), (2, .int v2), (3, .int v3)]) (S' := [.int 10, .ref x4, .int 100, .int v2]) rfl ?_
      refine zco_iaload (zdk (cc := cX12_odds) (q := (103, .iaload, 1)) tkX12_odds 60 rfl) (fun x5 => ?_)
      refine zco_p tkX12_odds 61 2 (pc' := 106) (L' := [(0, .ref v0), (1, .int v1), (2, .int v2), (3, .int v3)]) (S' := [.ref v0, .int (100 - x5), .int v2]) rfl ?_
      refine zco_Vi (rc := 0) (rs := 0) (mc := 0) (ms := 0) (As := []) (S := [.int (100 - x5), .int v2]) vmX12_peopleMany (mtX12_peopleMany l e (by omega) v0) q_1940 rfl rfl (Nat.le_of_ble_eq_true rfl) (zdk (cc := cX12_odds) (q := (106, .invokevirtual 419, 3)) tkX12_odds 63 rfl) (fun y6 => ?_)
      refine zco_p tkX12_odds 64 2 (pc' := 120) (L' := [(0, .ref v0), (1, .int v1), (2, .int v2), (3, .int v3)]) (S' := [.int ((100 - x5) * y6), .int v2]) rfl ?_
      exact zco_sub [0, 1, 3] rfl (coX12_odds_J120 l e he v0 v1 v3 r54 hr54 ((100 - x5) * y6) v2)
set_option maxHeartbeats 2000000 in
set_option maxRecDepth 20000 in
theorem coX12_odds_B54 (l : Launch) (e : Nat) (he : 8 ≤ e) (v0 : Nat) (v1 : Int32) (r54 : Int32 × Int32 → zM) (hr54 : ∀ x : Int32 × Int32, zCo l (e + 1) 0 0 iX12_odds 54 [(0, .ref v0), (1, .int v1), (2, .int x.1), (3, .int x.2)] [] (r54 x)) (v2 : Int32) (v3 : Int32) : zCo l (e + 1) 0 0 iX12_odds 54 [(0, .ref v0), (1, .int v1), (2, .int v2), (3, .int v3)] [] (X12_odds_B54 v0 v1 r54 v2 v3) := by
  unfold X12_odds_B54
  refine zco_p tkX12_odds 33 2 (pc' := 56) (L' := [(0, .ref v0), (1, .int v1), (2, .int v2), (3, .int v3)]) (S' := [.ref v0, .int v3]) rfl ?_
  refine zco_Vi (rc := 0) (rs := 0) (mc := 0) (ms := 0) (As := []) (S := [.int v3]) vmX12_peopleMany (mtX12_peopleMany l e (by omega) v0) q_1940 rfl rfl (Nat.le_of_ble_eq_true rfl) (zdk (cc := cX12_odds) (q := (56, .invokevirtual 419, 3)) tkX12_odds 35 rfl) (fun y1 => ?_)
  refine zco_icmp_ge (tgt := 132) (zdk (cc := cX12_odds) (q := (59, .if_icmp .ge 73, 3)) tkX12_odds 36 rfl) rfl ?_ ?_
  · exact zco_sub [0, 2] rfl (coX12_odds_J132 l e he v0 v2)
  · refine zco_p tkX12_odds 37 3 (pc' := 65) (L' := [(0, .ref v0), (1, .int v1), (2, .int v2), (3, .int v3)]) (S' := [.int ((-1)), .int v3, .ref v0]) rfl ?_
    refine zco_icmp_ne (tgt := 72) (zdk (cc := cX12_odds) (q := (65, .if_icmp .ne 7, 3)) tkX12_odds 40 rfl) rfl ?_ ?_
    · refine zco_p tkX12_odds 43 2 (pc' := 74) (L' := [(0, .ref v0), (1, .int v1), (2, .int v2), (3, .int v3)]) (S' := [.int v3, .ref v0, .ref v0]) rfl ?_
      refine zco_Vi (rc := 0) (rs := 0) (mc := 0) (ms := 0) (As := [.int v3]) (S := [.ref v0]) vmX12_codeOf (mtX12_codeOf l e (by omega) v0 v3) q_1948 rfl rfl (Nat.le_of_ble_eq_true rfl) (zdk (cc := cX12_odds) (q := (74, .invokevirtual 429, 3)) tkX12_odds 45 rfl) (fun y2 => ?_)
      exact zco_sub [0, 1, 2, 3] rfl (coX12_odds_J77 l e he v0 v1 v2 v3 r54 hr54 y2 v0)
    · refine zco_p tkX12_odds 41 2 (pc' := 77) (L' := [(0, .ref v0), (1, .int v1), (2, .int v2), (3, .int v3)]) (S' := [.int ((-1)), .ref v0]) rfl ?_
      exact zco_sub [0, 1, 2, 3] rfl (coX12_odds_J77 l e he v0 v1 v2 v3 r54 hr54 ((-1)) v0)
set_option maxHeartbeats 2000000 in
set_option maxRecDepth 20000 in
theorem coX12_odds_J14 (l : Launch) (e : Nat) (he : 8 ≤ e) (v0 : Nat) (v1 : Int32) : zCo l (e + 1) 0 0 iX12_odds 14 [(0, .ref v0), (1, .int v1)] [] (X12_odds_J14 v0 v1) := by
  unfold X12_odds_J14
  refine zco_p tkX12_odds 8 1 (pc' := 15) (L' := [(0, .ref v0), (1, .int v1)]) (S' := [.ref v0]) rfl ?_
  refine zco_Vi (rc := 0) (rs := 0) (mc := 0) (ms := 0) (As := []) (S := []) vmX12_peopleMany (mtX12_peopleMany l e (by omega) v0) q_1940 rfl rfl (Nat.le_of_ble_eq_true rfl) (zdk (cc := cX12_odds) (q := (15, .invokevirtual 419, 3)) tkX12_odds 9 rfl) (fun y1 => ?_)
  refine zco_if_eq (tgt := 31) (zdk (cc := cX12_odds) (q := (18, .ifCond .eq 13, 3)) tkX12_odds 10 rfl) rfl ?_ ?_
  · refine zco_p tkX12_odds 17 1 (pc' := 32) (L' := [(0, .ref v0), (1, .int v1)]) (S' := [.int ((-1))]) rfl ?_
    exact zco_iret rfl rfl rfl (zdk (cc := cX12_odds) (q := (32, .ireturn, 1)) tkX12_odds 18 rfl)
  · refine zco_p tkX12_odds 11 4 (pc' := 25) (L' := [(0, .ref v0), (1, .int v1)]) (S' := [.int 1, .int 1, .int 1, .ref v0]) rfl ?_
    refine zco_Vi (rc := 0) (rs := 0) (mc := 0) (ms := 0) (As := [.int 1, .int 1, .int 1]) (S := []) vmX12_isAhead (mtX12_isAhead l e (by omega) v0 1 1 1) q_2072 rfl rfl (Nat.le_of_ble_eq_true rfl) (zdk (cc := cX12_odds) (q := (25, .invokevirtual 557, 3)) tkX12_odds 15 rfl) (fun y2 => ?_)
    refine zco_if_ne (tgt := 33) (zdk (cc := cX12_odds) (q := (28, .ifCond .ne 5, 3)) tkX12_odds 16 rfl) rfl ?_ ?_
    · refine zco_p tkX12_odds 19 2 (pc' := 35) (L' := [(0, .ref v0), (1, .int v1)]) (S' := [.int ((-1)), .int v1]) rfl ?_
      refine zco_icmp_ne (tgt := 46) (zdk (cc := cX12_odds) (q := (35, .if_icmp .ne 11, 3)) tkX12_odds 21 rfl) rfl ?_ ?_
      · refine zco_p tkX12_odds 27 3 (pc' := 49) (L' := [(2, .int 0), (0, .ref v0), (1, .int v1)]) (S' := [.ref v0]) rfl ?_
        refine zco_Vv (rc := 0) (rs := 0) (mc := 0) (ms := 0) (As := []) (S := []) vmX12_putsAside (mtX12_putsAside l e (by omega) v0) q_2076 rfl rfl (Nat.le_of_ble_eq_true rfl) (zdk (cc := cX12_odds) (q := (49, .invokevirtual 561, 3)) tkX12_odds 30 rfl) ?_
        refine zco_p tkX12_odds 31 2 (pc' := 54) (L' := [(3, .int ((-1))), (2, .int 0), (0, .ref v0), (1, .int v1)]) (S' := []) rfl ?_
        exact zco_sub [2, 3, 1, 0] rfl (zco_fix (Lf := fun x : Int32 × Int32 => [(0, .ref v0), (1, .int v1), (2, .int x.1), (3, .int x.2)]) (Sf := fun _ => []) (fun r hr x => coX12_odds_B54 l e he v0 v1 r hr x.1 x.2) zFU (0, (-1)))
      · refine zco_p tkX12_odds 22 2 (pc' := 41) (L' := [(0, .ref v0), (1, .int v1)]) (S' := [.ref v0, .int 100]) rfl ?_
        refine zco_Vi (rc := 0) (rs := 0) (mc := 0) (ms := 0) (As := []) (S := [.int 100]) vmX12_peopleMany (mtX12_peopleMany l e (by omega) v0) q_1940 rfl rfl (Nat.le_of_ble_eq_true rfl) (zdk (cc := cX12_odds) (q := (41, .invokevirtual 419, 3)) tkX12_odds 24 rfl) (fun y3 => ?_)
        refine zco_p tkX12_odds 25 1 (pc' := 45) (L' := [(0, .ref v0), (1, .int v1)]) (S' := [.int (100 * y3)]) rfl ?_
        exact zco_iret rfl rfl rfl (zdk (cc := cX12_odds) (q := (45, .ireturn, 1)) tkX12_odds 26 rfl)
    · refine zco_p tkX12_odds 17 1 (pc' := 32) (L' := [(0, .ref v0), (1, .int v1)]) (S' := [.int ((-1))]) rfl ?_
      exact zco_iret rfl rfl rfl (zdk (cc := cX12_odds) (q := (32, .ireturn, 1)) tkX12_odds 18 rfl)
set_option maxHeartbeats 2000000 in
set_option maxRecDepth 20000 in
theorem coX12_odds (l : Launch) (e : Nat) (he : 8 ≤ e) (v0 : Nat) (v1 : Int32) : zCo l (e + 1) 0 0 iX12_odds 0 [(0, .ref v0), (1, .int v1)] [] (X12_odds v0 v1) := by
  unfold X12_odds
  refine zco_p tkX12_odds 0 2 (pc' := 2) (L' := [(0, .ref v0), (1, .int v1)]) (S' := [.int ((-1)), .int v1]) rfl ?_
  refine zco_icmp_eq (tgt := 14) (zdk (cc := cX12_odds) (q := (2, .if_icmp .eq 12, 3)) tkX12_odds 2 rfl) rfl ?_ ?_
  · exact zco_sub [0, 1] rfl (coX12_odds_J14 l e he v0 v1)
  · refine zco_p tkX12_odds 3 3 (pc' := 8) (L' := [(0, .ref v0), (1, .int v1)]) (S' := [.long v1.toInt64, .ref v0]) rfl ?_
    refine zco_Vi (rc := 0) (rs := 0) (mc := 0) (ms := 0) (As := [.long v1.toInt64]) (S := []) vmX12_isPerson (mtX12_isPerson l e (by omega) v0 v1.toInt64) q_1936 rfl rfl (Nat.le_of_ble_eq_true rfl) (zdk (cc := cX12_odds) (q := (8, .invokevirtual 422, 3)) tkX12_odds 6 rfl) (fun y1 => ?_)
    refine zco_if_eq (tgt := 31) (zdk (cc := cX12_odds) (q := (11, .ifCond .eq 20, 3)) tkX12_odds 7 rfl) rfl ?_ ?_
    · refine zco_p tkX12_odds 17 1 (pc' := 32) (L' := [(0, .ref v0), (1, .int v1)]) (S' := [.int ((-1))]) rfl ?_
      exact zco_iret rfl rfl rfl (zdk (cc := cX12_odds) (q := (32, .ireturn, 1)) tkX12_odds 18 rfl)
    · exact zco_sub [0, 1] rfl (coX12_odds_J14 l e he v0 v1)
theorem mtX12_odds (l : Launch) (d : Nat) (hd : 9 ≤ d) (v0 : Nat) (v1 : Int32) : zMet l d 0 0 yX12_odds cX12_odds 4 (Option.some .int) [.ref v0, .int v1] (X12_odds v0 v1) := by
  obtain ⟨e, rfl⟩ : ∃ e, d = e + 1 := ⟨d - 1, by omega⟩
  exact zmet_of (own := RX12) (ini := false) (by decide +kernel) rfl (fun _ => by contradiction) (Nat.le_of_ble_eq_true rfl) (coX12_odds l e (by omega) v0 v1)
abbrev iX12_see : zI := (RX12, cX12_see, 4, (Option.some .int), false)
def tX12_see : List (Nat × Instr × Nat) := [(0, .aload_n 0, 1), (1, .getfield 267, 3), (4, .istore_n 1, 1), (5, .aload_n 0, 1), (6, .iconst 0, 1), (7, .putfield 267, 3), (10, .iload_n 1, 1), (11, .ifCond .le 21, 3), (14, .iload_n 1, 1), (15, .iconst 3, 1), (16, .irem, 1), (17, .ifCond .ne 15, 3), (20, .iload_n 1, 1), (21, .iconst 3, 1), (22, .idiv, 1), (23, .bipush 16, 2), (25, .if_icmp .gt 7, 3), (28, .iconst 1, 1), (29, .goto 4, 3), (32, .iconst 0, 1), (33, .istore_n 2, 1), (34, .iconst 0, 1), (35, .istore_n 3, 1), (36, .iload_n 3, 1), (37, .iload_n 1, 1), (38, .if_icmp .ge 58, 3), (41, .iload_n 2, 1), (42, .ifCond .eq 54, 3), (45, .aload_n 0, 1), (46, .getfield 7, 3), (49, .iload_n 3, 1), (50, .iaload, 1), (51, .bipush 30, 2), (53, .if_icmp .gt 35, 3), (56, .aload_n 0, 1), (57, .aload_n 0, 1), (58, .getfield 7, 3), (61, .iload_n 3, 1), (62, .iconst 1, 1), (63, .iadd, 1), (64, .iaload, 1), (65, .i2l, 1), (66, .invokevirtual 422, 3), (69, .ifCond .eq 19, 3), (72, .aload_n 0, 1), (73, .getfield 7, 3), (76, .iload_n 3, 1), (77, .iconst 2, 1), (78, .iadd, 1), (79, .iaload, 1), (80, .iconst 1, 1), (81, .if_icmp .gt 7, 3), (84, .iconst 1, 1), (85, .goto 4, 3), (88, .iconst 0, 1), (89, .istore_n 2, 1), (90, .iinc 3 3, 3), (93, .goto (-57), 3), (96, .iload_n 2, 1), (97, .ifCond .ne 9, 3), (100, .aload_n 0, 1), (101, .iconst 1, 1), (102, .invokevirtual 400, 3), (105, .ireturn, 1), (106, .iconst 0, 1), (107, .istore_n 3, 1), (108, .iload_n 3, 1), (109, .iload_n 1, 1), (110, .if_icmp .ge 21, 3), (113, .aload_n 0, 1), (114, .getfield 164, 3), (117, .iload_n 3, 1), (118, .aload_n 0, 1), (119, .getfield 7, 3), (122, .iload_n 3, 1), (123, .iaload, 1), (124, .iastore, 1), (125, .iinc 3 1, 3), (128, .goto (-20), 3), (131, .aload_n 0, 1), (132, .iload_n 1, 1), (133, .iconst 3, 1), (134, .idiv, 1), (135, .putfield 413, 3), (138, .aload_n 0, 1), (139, .getfield 413, 3), (142, .ireturn, 1)]
set_option maxRecDepth 100000 in
theorem tkX12_see : ∀ q ∈ tX12_see, decode cX12_see q.1 = .ok q.2 := by decide +kernel
theorem vmX12_see : zVM yX12_see cX12_see 4 (Option.some .int) 0 12 := ⟨kX12_see, q_2168, q_2169, q_162, ⟨_, rfl, rfl⟩, by decide +kernel, by decide⟩
set_option maxHeartbeats 2000000 in
set_option maxRecDepth 20000 in
theorem coX12_see_J131 (l : Launch) (e : Nat) (he : 3 ≤ e) (v0 : Nat) (v1 : Int32) : zCo l (e + 1) 0 0 iX12_see 131 [(0, .ref v0), (1, .int v1)] [] (X12_see_J131 v0 v1) := by
  unfold X12_see_J131
  refine zco_p tkX12_see 79 3 (pc' := 134) (L' := [(0, .ref v0), (1, .int v1)]) (S' := [.int 3, .int v1, .ref v0]) rfl ?_
  refine zco_idiv (zdk (cc := cX12_see) (q := (134, .idiv, 1)) tkX12_see 82 rfl) ?_
  refine zco_pi fl_12_413 rfl rfl (zdk (cc := cX12_see) (q := (135, .putfield 413, 3)) tkX12_see 83 rfl) ?_
  refine zco_p tkX12_see 84 1 (pc' := 139) (L' := [(0, .ref v0), (1, .int v1)]) (S' := [.ref v0]) rfl ?_
  refine zco_gi fl_12_413 rfl (zdk (cc := cX12_see) (q := (139, .getfield 413, 3)) tkX12_see 85 rfl) (fun x1 => ?_)
  exact zco_iret rfl rfl rfl (zdk (cc := cX12_see) (q := (142, .ireturn, 1)) tkX12_see 86 rfl)
set_option maxHeartbeats 2000000 in
set_option maxRecDepth 20000 in
theorem coX12_see_B108 (l : Launch) (e : Nat) (he : 3 ≤ e) (v0 : Nat) (v1 : Int32) (r108 : Int32 → zM) (hr108 : ∀ x : Int32, zCo l (e + 1) 0 0 iX12_see 108 [(0, .ref v0), (1, .int v1), (3, .int x)] [] (r108 x)) (v3 : Int32) : zCo l (e + 1) 0 0 iX12_see 108 [(0, .ref v0), (1, .int v1), (3, .int v3)] [] (X12_see_B108 v0 v1 r108 v3) := by
  unfold X12_see_B108
  refine zco_p tkX12_see 66 2 (pc' := 110) (L' := [(0, .ref v0), (1, .int v1), (3, .int v3)]) (S' := [.int v1, .int v3]) rfl ?_
  refine zco_icmp_ge (tgt := 131) (zdk (cc := cX12_see) (q := (110, .if_icmp .ge 21, 3)) tkX12_see 68 rfl) rfl ?_ ?_
  · exact zco_sub [0, 1] rfl (coX12_see_J131 l e he v0 v1)
  · refine zco_p tkX12_see 69 1 (pc' := 114) (L' := [(0, .ref v0), (1, .int v1), (3, .int v3)]) (S' := [.ref v0]) rfl ?_
    refine zco_gr fl_12_164 rfl (zdk (cc := cX12_see) (q := (114, .getfield 164, 3)) tkX12_see 70 rfl) (fun x1 => ?_)
    refine zco_p tkX12_see 71 2 (pc' := 119) (L' := [(0, .ref v0), (1, .int v1), (3, .int v3)]) (S' := [.ref v0, .int v3, .ref x1]) rfl ?_
    refine zco_gr fl_12_7 rfl (zdk (cc := cX12_see) (q := (119, .getfield 7, 3)) tkX12_see 73 rfl) (fun x2 => ?_)
    refine zco_p tkX12_see 74 1 (pc' := 123) (L' := [(0, .ref v0), (1, .int v1), (3, .int v3)]) (S' := [.int v3, .ref x2, .int v3, .ref x1]) rfl ?_
    refine zco_iaload (zdk (cc := cX12_see) (q := (123, .iaload, 1)) tkX12_see 75 rfl) (fun x3 => ?_)
    refine zco_iastore (zdk (cc := cX12_see) (q := (124, .iastore, 1)) tkX12_see 76 rfl) ?_
    refine zco_p tkX12_see 77 2 (pc' := 108) (L' := [(3, .int (v3 + 1)), (0, .ref v0), (1, .int v1)]) (S' := []) rfl ?_
    exact zco_sub [1, 2, 0] rfl (hr108 (v3 + 1))
set_option maxHeartbeats 2000000 in
set_option maxRecDepth 20000 in
theorem coX12_see_J96 (l : Launch) (e : Nat) (he : 3 ≤ e) (v0 : Nat) (v1 : Int32) (v2 : Int32) : zCo l (e + 1) 0 0 iX12_see 96 [(0, .ref v0), (1, .int v1), (2, .int v2)] [] (X12_see_J96 v0 v1 v2) := by
  unfold X12_see_J96
  refine zco_p tkX12_see 58 1 (pc' := 97) (L' := [(0, .ref v0), (1, .int v1), (2, .int v2)]) (S' := [.int v2]) rfl ?_
  refine zco_if_ne (tgt := 106) (zdk (cc := cX12_see) (q := (97, .ifCond .ne 9, 3)) tkX12_see 59 rfl) rfl ?_ ?_
  · refine zco_p tkX12_see 64 2 (pc' := 108) (L' := [(3, .int 0), (0, .ref v0), (1, .int v1), (2, .int v2)]) (S' := []) rfl ?_
    exact zco_sub [1, 2, 0] rfl (zco_fix (Lf := fun x : Int32 => [(0, .ref v0), (1, .int v1), (3, .int x)]) (Sf := fun _ => []) (fun r hr x => coX12_see_B108 l e he v0 v1 r hr x) zFU 0)
  · refine zco_p tkX12_see 60 2 (pc' := 102) (L' := [(0, .ref v0), (1, .int v1), (2, .int v2)]) (S' := [.int 1, .ref v0]) rfl ?_
    refine zco_Vi (rc := 0) (rs := 0) (mc := 0) (ms := 0) (As := [.int 1]) (S := []) vmX12_refuses (mtX12_refuses l e (by omega) v0 1) q_1908 rfl rfl (Nat.le_of_ble_eq_true rfl) (zdk (cc := cX12_see) (q := (102, .invokevirtual 400, 3)) tkX12_see 62 rfl) (fun y1 => ?_)
    exact zco_iret rfl rfl rfl (zdk (cc := cX12_see) (q := (105, .ireturn, 1)) tkX12_see 63 rfl)
set_option maxHeartbeats 2000000 in
set_option maxRecDepth 20000 in
theorem coX12_see_J89 (l : Launch) (e : Nat) (he : 3 ≤ e) (v0 : Nat) (v1 : Int32) (v3 : Int32) (r36 : Int32 × Int32 → zM) (hr36 : ∀ x : Int32 × Int32, zCo l (e + 1) 0 0 iX12_see 36 [(0, .ref v0), (1, .int v1), (2, .int x.1), (3, .int x.2)] [] (r36 x)) (s0 : Int32) : zCo l (e + 1) 0 0 iX12_see 89 [(0, .ref v0), (1, .int v1), (3, .int v3)] [.int s0] (X12_see_J89 r36 v0 v1 v3 s0) := by
  unfold X12_see_J89
  refine zco_p tkX12_see 55 3 (pc' := 36) (L' := [(3, .int (v3 + 3)), (2, .int s0), (0, .ref v0), (1, .int v1)]) (S' := []) rfl ?_
  exact zco_sub [2, 3, 1, 0] rfl (hr36 (s0, v3 + 3))
set_option maxHeartbeats 2000000 in
set_option maxRecDepth 20000 in
theorem coX12_see_J88 (l : Launch) (e : Nat) (he : 3 ≤ e) (v0 : Nat) (v1 : Int32) (v3 : Int32) (r36 : Int32 × Int32 → zM) (hr36 : ∀ x : Int32 × Int32, zCo l (e + 1) 0 0 iX12_see 36 [(0, .ref v0), (1, .int v1), (2, .int x.1), (3, .int x.2)] [] (r36 x)) : zCo l (e + 1) 0 0 iX12_see 88 [(0, .ref v0), (1, .int v1), (3, .int v3)] [] (X12_see_J88 r36 v0 v1 v3) := by
  unfold X12_see_J88
  refine zco_p tkX12_see 54 1 (pc' := 89) (L' := [(0, .ref v0), (1, .int v1), (3, .int v3)]) (S' := [.int 0]) rfl ?_
  exact zco_sub [0, 1, 2] rfl (coX12_see_J89 l e he v0 v1 v3 r36 hr36 0)
set_option maxHeartbeats 2000000 in
set_option maxRecDepth 20000 in
theorem coX12_see_B36 (l : Launch) (e : Nat) (he : 3 ≤ e) (v0 : Nat) (v1 : Int32) (r36 : Int32 × Int32 → zM) (hr36 : ∀ x : Int32 × Int32, zCo l (e + 1) 0 0 iX12_see 36 [(0, .ref v0), (1, .int v1), (2, .int x.1), (3, .int x.2)] [] (r36 x)) (v2 : Int32) (v3 : Int32) : zCo l (e + 1) 0 0 iX12_see 36 [(0, .ref v0), (1, .int v1), (2, .int v2), (3, .int v3)] [] (X12_see_B36 v0 v1 r36 v2 v3) := by
  unfold X12_see_B36
  refine zco_p tkX12_see 23 2 (pc' := 38) (L' := [(0, .ref v0), (1, .int v1), (2, .int v2), (3, .int v3)]) (S' := [.int v1, .int v3]) rfl ?_
  refine zco_icmp_ge (tgt := 96) (zdk (cc := cX12_see) (q := (38, .if_icmp .ge 58, 3)) tkX12_see 25 rfl) rfl ?_ ?_
  · exact zco_sub [0, 1, 2] rfl (coX12_see_J96 l e he v0 v1 v2)
  · refine zco_p tkX12_see 26 1 (pc' := 42) (L' := [(0, .ref v0), (1, .int v1), (2, .int v2), (3, .int v3)]) (S' := [.int v2]) rfl ?_
    refine zco_if_eq (tgt := 96) (zdk (cc := cX12_see) (q := (42, .ifCond .eq 54, 3)) tkX12_see 27 rfl) rfl ?_ ?_
    · exact zco_sub [0, 1, 2] rfl (coX12_see_J96 l e he v0 v1 v2)
    · refine zco_p tkX12_see 28 1 (pc' := 46) (L' := [(0, .ref v0), (1, .int v1), (2, .int v2), (3, .int v3)]) (S' := [.ref v0]) rfl ?_
      refine zco_gr fl_12_7 rfl (zdk (cc := cX12_see) (q := (46, .getfield 7, 3)) tkX12_see 29 rfl) (fun x1 => ?_)
      refine zco_p tkX12_see 30 1 (pc' := 50) (L' := [(0, .ref v0), (1, .int v1), (2, .int v2), (3, .int v3)]) (S' := [.int v3, .ref x1]) rfl ?_
      refine zco_iaload (zdk (cc := cX12_see) (q := (50, .iaload, 1)) tkX12_see 31 rfl) (fun x2 => ?_)
      refine zco_p tkX12_see 32 1 (pc' := 53) (L' := [(0, .ref v0), (1, .int v1), (2, .int v2), (3, .int v3)]) (S' := [.int 30, .int x2]) rfl ?_
      refine zco_icmp_gt (tgt := 88) (zdk (cc := cX12_see) (q := (53, .if_icmp .gt 35, 3)) tkX12_see 33 rfl) rfl ?_ ?_
      · exact zco_sub [0, 1, 3] rfl (coX12_see_J88 l e he v0 v1 v3 r36 hr36)
      · refine zco_p tkX12_see 34 2 (pc' := 58) (L' := [(0, .ref v0), (1, .int v1), (2, .int v2), (3, .int v3)]) (S' := [.ref v0, .ref v0]) rfl ?_
        refine zco_gr fl_12_7 rfl (zdk (cc := cX12_see) (q := (58, .getfield 7, 3)) tkX12_see 36 rfl) (fun x3 => ?_)
        refine zco_p tkX12_see 37 3 (pc' := 64) (L' := [(0, .ref v0), (1, .int v1), (2, .int v2), (3, .int v3)]) (S' := [.int (v3 + 1), .ref x3, .ref v0]) rfl ?_
        refine zco_iaload (zdk (cc := cX12_see) (q := (64, .iaload, 1)) tkX12_see 40 rfl) (fun x4 => ?_)
        refine zco_p tkX12_see 41 1 (pc' := 66) (L' := [(0, .ref v0), (1, .int v1), (2, .int v2), (3, .int v3)]) (S' := [.long x4.toInt64, .ref v0]) rfl ?_
        refine zco_Vi (rc := 0) (rs := 0) (mc := 0) (ms := 0) (As := [.long x4.toInt64]) (S := []) vmX12_isPerson (mtX12_isPerson l e (by omega) v0 x4.toInt64) q_1936 rfl rfl (Nat.le_of_ble_eq_true rfl) (zdk (cc := cX12_see) (q := (66, .invokevirtual 422, 3)) tkX12_see 42 rfl) (fun y5 => ?_)
        refine zco_if_eq (tgt := 88) (zdk (cc := cX12_see) (q := (69, .ifCond .eq 19, 3)) tkX12_see 43 rfl) rfl ?_ ?_
        · exact zco_sub [0, 1, 3] rfl (coX12_see_J88 l e he v0 v1 v3 r36 hr36)
        · refine zco_p tkX12_see 44 1 (pc' := 73) (L' := [(0, .ref v0), (1, .int v1), (2, .int v2), (3, .int v3)]) (S' := [.ref v0]) rfl ?_
          refine zco_gr fl_12_7 rfl (zdk (cc := cX12_see) (q := (73, .getfield 7, 3)) tkX12_see 45 rfl) (fun x6 => ?_)
          refine zco_p tkX12_see 46 3 (pc' := 79) (L' := [(0, .ref v0), (1, .int v1), (2, .int v2), (3, .int v3)]) (S' := [.int (v3 + 2), .ref x6]) rfl ?_
          refine zco_iaload (zdk (cc := cX12_see) (q := (79, .iaload, 1)) tkX12_see 49 rfl) (fun x7 => ?_)
          refine zco_p tkX12_see 50 1 (pc' := 81) (L' := [(0, .ref v0), (1, .int v1), (2, .int v2), (3, .int v3)]) (S' := [.int 1, .int x7]) rfl ?_
          refine zco_icmp_gt (tgt := 88) (zdk (cc := cX12_see) (q := (81, .if_icmp .gt 7, 3)) tkX12_see 51 rfl) rfl ?_ ?_
          · exact zco_sub [0, 1, 3] rfl (coX12_see_J88 l e he v0 v1 v3 r36 hr36)
          · refine zco_p tkX12_see 52 2 (pc' := 89) (L' := [(0, .ref v0), (1, .int v1), (2, .int v2), (3, .int v3)]) (S' := [.int 1]) rfl ?_
            exact zco_sub [0, 1, 3] rfl (coX12_see_J89 l e he v0 v1 v3 r36 hr36 1)
set_option maxHeartbeats 2000000 in
set_option maxRecDepth 20000 in
theorem coX12_see_J33 (l : Launch) (e : Nat) (he : 3 ≤ e) (v0 : Nat) (v1 : Int32) (s0 : Int32) : zCo l (e + 1) 0 0 iX12_see 33 [(0, .ref v0), (1, .int v1)] [.int s0] (X12_see_J33 v0 v1 s0) := by
  unfold X12_see_J33
  refine zco_p tkX12_see 20 3 (pc' := 36) (L' := [(3, .int 0), (2, .int s0), (0, .ref v0), (1, .int v1)]) (S' := []) rfl ?_
  exact zco_sub [2, 3, 1, 0] rfl (zco_fix (Lf := fun x : Int32 × Int32 => [(0, .ref v0), (1, .int v1), (2, .int x.1), (3, .int x.2)]) (Sf := fun _ => []) (fun r hr x => coX12_see_B36 l e he v0 v1 r hr x.1 x.2) zFU (s0, 0))
set_option maxHeartbeats 2000000 in
set_option maxRecDepth 20000 in
theorem coX12_see_J32 (l : Launch) (e : Nat) (he : 3 ≤ e) (v0 : Nat) (v1 : Int32) : zCo l (e + 1) 0 0 iX12_see 32 [(0, .ref v0), (1, .int v1)] [] (X12_see_J32 v0 v1) := by
  unfold X12_see_J32
  refine zco_p tkX12_see 19 1 (pc' := 33) (L' := [(0, .ref v0), (1, .int v1)]) (S' := [.int 0]) rfl ?_
  exact zco_sub [0, 1] rfl (coX12_see_J33 l e he v0 v1 0)
set_option maxHeartbeats 2000000 in
set_option maxRecDepth 20000 in
theorem coX12_see (l : Launch) (e : Nat) (he : 3 ≤ e) (v0 : Nat) : zCo l (e + 1) 0 0 iX12_see 0 [(0, .ref v0)] [] (X12_see v0) := by
  unfold X12_see
  refine zco_p tkX12_see 0 1 (pc' := 1) (L' := [(0, .ref v0)]) (S' := [.ref v0]) rfl ?_
  refine zco_gi fl_12_267 rfl (zdk (cc := cX12_see) (q := (1, .getfield 267, 3)) tkX12_see 1 rfl) (fun x1 => ?_)
  refine zco_p tkX12_see 2 3 (pc' := 7) (L' := [(1, .int x1), (0, .ref v0)]) (S' := [.int 0, .ref v0]) rfl ?_
  refine zco_pi fl_12_267 rfl rfl (zdk (cc := cX12_see) (q := (7, .putfield 267, 3)) tkX12_see 5 rfl) ?_
  refine zco_p tkX12_see 6 1 (pc' := 11) (L' := [(1, .int x1), (0, .ref v0)]) (S' := [.int x1]) rfl ?_
  refine zco_if_le (tgt := 32) (zdk (cc := cX12_see) (q := (11, .ifCond .le 21, 3)) tkX12_see 7 rfl) rfl ?_ ?_
  · exact zco_sub [1, 0] rfl (coX12_see_J32 l e he v0 x1)
  · refine zco_p tkX12_see 8 2 (pc' := 16) (L' := [(1, .int x1), (0, .ref v0)]) (S' := [.int 3, .int x1]) rfl ?_
    refine zco_irem (zdk (cc := cX12_see) (q := (16, .irem, 1)) tkX12_see 10 rfl) ?_
    refine zco_if_ne (tgt := 32) (zdk (cc := cX12_see) (q := (17, .ifCond .ne 15, 3)) tkX12_see 11 rfl) rfl ?_ ?_
    · exact zco_sub [1, 0] rfl (coX12_see_J32 l e he v0 x1)
    · refine zco_p tkX12_see 12 2 (pc' := 22) (L' := [(1, .int x1), (0, .ref v0)]) (S' := [.int 3, .int x1]) rfl ?_
      refine zco_idiv (zdk (cc := cX12_see) (q := (22, .idiv, 1)) tkX12_see 14 rfl) ?_
      refine zco_p tkX12_see 15 1 (pc' := 25) (L' := [(1, .int x1), (0, .ref v0)]) (S' := [.int 16, .int (x1 / 3)]) rfl ?_
      refine zco_icmp_gt (tgt := 32) (zdk (cc := cX12_see) (q := (25, .if_icmp .gt 7, 3)) tkX12_see 16 rfl) rfl ?_ ?_
      · exact zco_sub [1, 0] rfl (coX12_see_J32 l e he v0 x1)
      · refine zco_p tkX12_see 17 2 (pc' := 33) (L' := [(1, .int x1), (0, .ref v0)]) (S' := [.int 1]) rfl ?_
        exact zco_sub [1, 0] rfl (coX12_see_J33 l e he v0 x1 1)
theorem mtX12_see (l : Launch) (d : Nat) (hd : 4 ≤ d) (v0 : Nat) : zMet l d 0 0 yX12_see cX12_see 4 (Option.some .int) [.ref v0] (X12_see v0) := by
  obtain ⟨e, rfl⟩ : ∃ e, d = e + 1 := ⟨d - 1, by omega⟩
  exact zmet_of (own := RX12) (ini := false) (by decide +kernel) rfl (fun _ => by contradiction) (Nat.le_of_ble_eq_true rfl) (coX12_see l e (by omega) v0)
abbrev iX12_wedSet : zI := (RX12, cX12_wedSet, 3, (Option.some .int), false)
def tX12_wedSet : List (Nat × Instr × Nat) := [(0, .iconst 0, 1), (1, .istore_n 1, 1), (2, .iconst 0, 1), (3, .istore_n 2, 1), (4, .iload_n 2, 1), (5, .aload_n 0, 1), (6, .invokevirtual 419, 3), (9, .if_icmp .ge 24, 3), (12, .aload_n 0, 1), (13, .iload_n 2, 1), (14, .invokevirtual 521, 3), (17, .iconst (-1), 1), (18, .if_icmp .eq 9, 3), (21, .iload_n 1, 1), (22, .iconst 1, 1), (23, .iload_n 2, 1), (24, .ishl, 1), (25, .ior, 1), (26, .istore_n 1, 1), (27, .iinc 2 1, 3), (30, .goto (-26), 3), (33, .iload_n 1, 1), (34, .ireturn, 1)]
set_option maxRecDepth 100000 in
theorem tkX12_wedSet : ∀ q ∈ tX12_wedSet, decode cX12_wedSet q.1 = .ok q.2 := by decide +kernel
theorem vmX12_wedSet : zVM yX12_wedSet cX12_wedSet 3 (Option.some .int) 0 12 := ⟨kX12_wedSet, q_2181, q_129, q_162, ⟨_, rfl, rfl⟩, by decide +kernel, by decide⟩
set_option maxHeartbeats 2000000 in
set_option maxRecDepth 20000 in
theorem coX12_wedSet_J27 (l : Launch) (e : Nat) (he : 3 ≤ e) (v0 : Nat) (v1 : Int32) (v2 : Int32) (r4 : Int32 × Int32 → zM) (hr4 : ∀ x : Int32 × Int32, zCo l (e + 1) 0 0 iX12_wedSet 4 [(0, .ref v0), (1, .int x.1), (2, .int x.2)] [] (r4 x)) : zCo l (e + 1) 0 0 iX12_wedSet 27 [(0, .ref v0), (1, .int v1), (2, .int v2)] [] (X12_wedSet_J27 r4 v0 v1 v2) := by
  unfold X12_wedSet_J27
  refine zco_p tkX12_wedSet 19 2 (pc' := 4) (L' := [(2, .int (v2 + 1)), (0, .ref v0), (1, .int v1)]) (S' := []) rfl ?_
  exact zco_sub [1, 2, 0] rfl (hr4 (v1, v2 + 1))
set_option maxHeartbeats 2000000 in
set_option maxRecDepth 20000 in
theorem coX12_wedSet_B4 (l : Launch) (e : Nat) (he : 3 ≤ e) (v0 : Nat) (r4 : Int32 × Int32 → zM) (hr4 : ∀ x : Int32 × Int32, zCo l (e + 1) 0 0 iX12_wedSet 4 [(0, .ref v0), (1, .int x.1), (2, .int x.2)] [] (r4 x)) (v1 : Int32) (v2 : Int32) : zCo l (e + 1) 0 0 iX12_wedSet 4 [(0, .ref v0), (1, .int v1), (2, .int v2)] [] (X12_wedSet_B4 v0 r4 v1 v2) := by
  unfold X12_wedSet_B4
  refine zco_p tkX12_wedSet 4 2 (pc' := 6) (L' := [(0, .ref v0), (1, .int v1), (2, .int v2)]) (S' := [.ref v0, .int v2]) rfl ?_
  refine zco_Vi (rc := 0) (rs := 0) (mc := 0) (ms := 0) (As := []) (S := [.int v2]) vmX12_peopleMany (mtX12_peopleMany l e (by omega) v0) q_1940 rfl rfl (Nat.le_of_ble_eq_true rfl) (zdk (cc := cX12_wedSet) (q := (6, .invokevirtual 419, 3)) tkX12_wedSet 6 rfl) (fun y1 => ?_)
  refine zco_icmp_ge (tgt := 33) (zdk (cc := cX12_wedSet) (q := (9, .if_icmp .ge 24, 3)) tkX12_wedSet 7 rfl) rfl ?_ ?_
  · refine zco_p tkX12_wedSet 21 1 (pc' := 34) (L' := [(0, .ref v0), (1, .int v1), (2, .int v2)]) (S' := [.int v1]) rfl ?_
    exact zco_iret rfl rfl rfl (zdk (cc := cX12_wedSet) (q := (34, .ireturn, 1)) tkX12_wedSet 22 rfl)
  · refine zco_p tkX12_wedSet 8 2 (pc' := 14) (L' := [(0, .ref v0), (1, .int v1), (2, .int v2)]) (S' := [.int v2, .ref v0]) rfl ?_
    refine zco_Vi (rc := 0) (rs := 0) (mc := 0) (ms := 0) (As := [.int v2]) (S := []) vmX12_wedTo (mtX12_wedTo l e (by omega) v0 v2) q_1968 rfl rfl (Nat.le_of_ble_eq_true rfl) (zdk (cc := cX12_wedSet) (q := (14, .invokevirtual 521, 3)) tkX12_wedSet 10 rfl) (fun y2 => ?_)
    refine zco_p tkX12_wedSet 11 1 (pc' := 18) (L' := [(0, .ref v0), (1, .int v1), (2, .int v2)]) (S' := [.int ((-1)), .int y2]) rfl ?_
    refine zco_icmp_eq (tgt := 27) (zdk (cc := cX12_wedSet) (q := (18, .if_icmp .eq 9, 3)) tkX12_wedSet 12 rfl) rfl ?_ ?_
    · exact zco_sub [0, 1, 2] rfl (coX12_wedSet_J27 l e he v0 v1 v2 r4 hr4)
    · refine zco_p tkX12_wedSet 13 6 (pc' := 27) (L' := [(1, .int (v1 ||| ((1 : Int32) <<< (v2 &&& 31)))), (0, .ref v0), (2, .int v2)]) (S' := []) rfl ?_
      exact zco_sub [1, 0, 2] rfl (coX12_wedSet_J27 l e he v0 (v1 ||| ((1 : Int32) <<< (v2 &&& 31))) v2 r4 hr4)
set_option maxHeartbeats 2000000 in
set_option maxRecDepth 20000 in
theorem coX12_wedSet (l : Launch) (e : Nat) (he : 3 ≤ e) (v0 : Nat) : zCo l (e + 1) 0 0 iX12_wedSet 0 [(0, .ref v0)] [] (X12_wedSet v0) := by
  unfold X12_wedSet
  refine zco_p tkX12_wedSet 0 4 (pc' := 4) (L' := [(2, .int 0), (1, .int 0), (0, .ref v0)]) (S' := []) rfl ?_
  exact zco_sub [2, 1, 0] rfl (zco_fix (Lf := fun x : Int32 × Int32 => [(0, .ref v0), (1, .int x.1), (2, .int x.2)]) (Sf := fun _ => []) (fun r hr x => coX12_wedSet_B4 l e he v0 r hr x.1 x.2) zFU (0, 0))
theorem mtX12_wedSet (l : Launch) (d : Nat) (hd : 4 ≤ d) (v0 : Nat) : zMet l d 0 0 yX12_wedSet cX12_wedSet 3 (Option.some .int) [.ref v0] (X12_wedSet v0) := by
  obtain ⟨e, rfl⟩ : ∃ e, d = e + 1 := ⟨d - 1, by omega⟩
  exact zmet_of (own := RX12) (ini := false) (by decide +kernel) rfl (fun _ => by contradiction) (Nat.le_of_ble_eq_true rfl) (coX12_wedSet l e (by omega) v0)
abbrev iX12_isAsSeen : zI := (RX12, cX12_isAsSeen, 4, (Option.some .boolean), false)
def tX12_isAsSeen : List (Nat × Instr × Nat) := [(0, .iconst 0, 1), (1, .istore_n 3, 1), (2, .iload_n 3, 1), (3, .aload_n 0, 1), (4, .getfield 413, 3), (7, .if_icmp .ge 62, 3), (10, .aload_n 0, 1), (11, .getfield 164, 3), (14, .iconst 3, 1), (15, .iload_n 3, 1), (16, .imul, 1), (17, .iaload, 1), (18, .iload_n 1, 1), (19, .if_icmp .ne 44, 3), (22, .aload_n 0, 1), (23, .getfield 134, 3), (26, .iconst 0, 1), (27, .iaload, 1), (28, .sipush 999, 3), (31, .if_icmp .gt 30, 3), (34, .iload_n 2, 1), (35, .aload_n 0, 1), (36, .getfield 164, 3), (39, .iconst 3, 1), (40, .iload_n 3, 1), (41, .imul, 1), (42, .iconst 1, 1), (43, .iadd, 1), (44, .iaload, 1), (45, .ishr, 1), (46, .iconst 1, 1), (47, .iand, 1), (48, .aload_n 0, 1), (49, .getfield 164, 3), (52, .iconst 3, 1), (53, .iload_n 3, 1), (54, .imul, 1), (55, .iconst 2, 1), (56, .iadd, 1), (57, .iaload, 1), (58, .if_icmp .eq 5, 3), (61, .iconst 0, 1), (62, .ireturn, 1), (63, .iinc 3 1, 3), (66, .goto (-64), 3), (69, .iconst 1, 1), (70, .ireturn, 1)]
set_option maxRecDepth 100000 in
theorem tkX12_isAsSeen : ∀ q ∈ tX12_isAsSeen, decode cX12_isAsSeen q.1 = .ok q.2 := by decide +kernel
theorem vmX12_isAsSeen : zVM yX12_isAsSeen cX12_isAsSeen 4 (Option.some .boolean) 2 12 := ⟨kX12_isAsSeen, q_2185, q_130, q_162, ⟨_, rfl, rfl⟩, by decide +kernel, by decide⟩
set_option maxHeartbeats 2000000 in
set_option maxRecDepth 20000 in
theorem coX12_isAsSeen_J63 (l : Launch) (e : Nat) (he : 0 ≤ e) (v0 : Nat) (v1 : Int32) (v2 : Int32) (v3 : Int32) (r2 : Int32 → zM) (hr2 : ∀ x : Int32, zCo l (e + 1) 0 0 iX12_isAsSeen 2 [(0, .ref v0), (1, .int v1), (2, .int v2), (3, .int x)] [] (r2 x)) : zCo l (e + 1) 0 0 iX12_isAsSeen 63 [(0, .ref v0), (1, .int v1), (2, .int v2), (3, .int v3)] [] (X12_isAsSeen_J63 r2 v0 v1 v2 v3) := by
  unfold X12_isAsSeen_J63
  refine zco_p tkX12_isAsSeen 43 2 (pc' := 2) (L' := [(3, .int (v3 + 1)), (0, .ref v0), (1, .int v1), (2, .int v2)]) (S' := []) rfl ?_
  exact zco_sub [1, 2, 3, 0] rfl (hr2 (v3 + 1))
set_option maxHeartbeats 2000000 in
set_option maxRecDepth 20000 in
theorem coX12_isAsSeen_B2 (l : Launch) (e : Nat) (he : 0 ≤ e) (v0 : Nat) (v1 : Int32) (v2 : Int32) (r2 : Int32 → zM) (hr2 : ∀ x : Int32, zCo l (e + 1) 0 0 iX12_isAsSeen 2 [(0, .ref v0), (1, .int v1), (2, .int v2), (3, .int x)] [] (r2 x)) (v3 : Int32) : zCo l (e + 1) 0 0 iX12_isAsSeen 2 [(0, .ref v0), (1, .int v1), (2, .int v2), (3, .int v3)] [] (X12_isAsSeen_B2 v0 v1 v2 r2 v3) := by
  unfold X12_isAsSeen_B2
  refine zco_p tkX12_isAsSeen 2 2 (pc' := 4) (L' := [(0, .ref v0), (1, .int v1), (2, .int v2), (3, .int v3)]) (S' := [.ref v0, .int v3]) rfl ?_
  refine zco_gi fl_12_413 rfl (zdk (cc := cX12_isAsSeen) (q := (4, .getfield 413, 3)) tkX12_isAsSeen 4 rfl) (fun x1 => ?_)
  refine zco_icmp_ge (tgt := 69) (zdk (cc := cX12_isAsSeen) (q := (7, .if_icmp .ge 62, 3)) tkX12_isAsSeen 5 rfl) rfl ?_ ?_
  · refine zco_p tkX12_isAsSeen 45 1 (pc' := 70) (L' := [(0, .ref v0), (1, .int v1), (2, .int v2), (3, .int v3)]) (S' := [.int 1]) rfl ?_
    exact zco_zret rfl rfl rfl (zdk (cc := cX12_isAsSeen) (q := (70, .ireturn, 1)) tkX12_isAsSeen 46 rfl)
  · refine zco_p tkX12_isAsSeen 6 1 (pc' := 11) (L' := [(0, .ref v0), (1, .int v1), (2, .int v2), (3, .int v3)]) (S' := [.ref v0]) rfl ?_
    refine zco_gr fl_12_164 rfl (zdk (cc := cX12_isAsSeen) (q := (11, .getfield 164, 3)) tkX12_isAsSeen 7 rfl) (fun x2 => ?_)
    refine zco_p tkX12_isAsSeen 8 3 (pc' := 17) (L' := [(0, .ref v0), (1, .int v1), (2, .int v2), (3, .int v3)]) (S' := [.int (3 * v3), .ref x2]) rfl ?_
    refine zco_iaload (zdk (cc := cX12_isAsSeen) (q := (17, .iaload, 1)) tkX12_isAsSeen 11 rfl) (fun x3 => ?_)
    refine zco_p tkX12_isAsSeen 12 1 (pc' := 19) (L' := [(0, .ref v0), (1, .int v1), (2, .int v2), (3, .int v3)]) (S' := [.int v1, .int x3]) rfl ?_
    refine zco_icmp_ne (tgt := 63) (zdk (cc := cX12_isAsSeen) (q := (19, .if_icmp .ne 44, 3)) tkX12_isAsSeen 13 rfl) rfl ?_ ?_
    · exact zco_sub [0, 1, 2, 3] rfl (coX12_isAsSeen_J63 l e he v0 v1 v2 v3 r2 hr2)
    · refine zco_p tkX12_isAsSeen 14 1 (pc' := 23) (L' := [(0, .ref v0), (1, .int v1), (2, .int v2), (3, .int v3)]) (S' := [.ref v0]) rfl ?_
      refine zco_gr fl_12_134 rfl (zdk (cc := cX12_isAsSeen) (q := (23, .getfield 134, 3)) tkX12_isAsSeen 15 rfl) (fun x4 => ?_)
      refine zco_p tkX12_isAsSeen 16 1 (pc' := 27) (L' := [(0, .ref v0), (1, .int v1), (2, .int v2), (3, .int v3)]) (S' := [.int 0, .ref x4]) rfl ?_
      refine zco_iaload (zdk (cc := cX12_isAsSeen) (q := (27, .iaload, 1)) tkX12_isAsSeen 17 rfl) (fun x5 => ?_)
      refine zco_p tkX12_isAsSeen 18 1 (pc' := 31) (L' := [(0, .ref v0), (1, .int v1), (2, .int v2), (3, .int v3)]) (S' := [.int 999, .int x5]) rfl ?_
      refine zco_icmp_gt (tgt := 61) (zdk (cc := cX12_isAsSeen) (q := (31, .if_icmp .gt 30, 3)) tkX12_isAsSeen 19 rfl) rfl ?_ ?_
      · refine zco_p tkX12_isAsSeen 41 1 (pc' := 62) (L' := [(0, .ref v0), (1, .int v1), (2, .int v2), (3, .int v3)]) (S' := [.int 0]) rfl ?_
        exact zco_zret rfl rfl rfl (zdk (cc := cX12_isAsSeen) (q := (62, .ireturn, 1)) tkX12_isAsSeen 42 rfl)
      · refine zco_p tkX12_isAsSeen 20 2 (pc' := 36) (L' := [(0, .ref v0), (1, .int v1), (2, .int v2), (3, .int v3)]) (S' := [.ref v0, .int v2]) rfl ?_
        refine zco_gr fl_12_164 rfl (zdk (cc := cX12_isAsSeen) (q := (36, .getfield 164, 3)) tkX12_isAsSeen 22 rfl) (fun x6 => ?_)
        refine zco_p tkX12_isAsSeen 23 5 (pc' := 44) (L' := [(0, .ref v0), (1, .int v1), (2, .int v2), (3, .int v3)]) (S' := [.int ((3 * v3) + 1), .ref x6, .int v2]) rfl ?_
        refine zco_iaload (zdk (cc := cX12_isAsSeen) (q := (44, .iaload, 1)) tkX12_isAsSeen 28 rfl) (fun x7 => ?_)
        refine zco_p tkX12_isAsSeen 29 4 (pc' := 49) (L' := [(0, .ref v0), (1, .int v1), (2, .int v2), (3, .int v3)]) (S' := [.ref v0, .int ((v2 >>> (x7 &&& 31)) &&& 1)]) rfl ?_
        refine zco_gr fl_12_164 rfl (zdk (cc := cX12_isAsSeen) (q := (49, .getfield 164, 3)) tkX12_isAsSeen 33 rfl) (fun x8 => ?_)
        refine zco_p tkX12_isAsSeen 34 5 (pc' := 57) (L' := [(0, .ref v0), (1, .int v1), (2, .int v2), (3, .int v3)]) (S' := [.int ((3 * v3) + 2), .ref x8, .int ((v2 >>> (x7 &&& 31)) &&& 1)]) rfl ?_
        refine zco_iaload (zdk (cc := cX12_isAsSeen) (q := (57, .iaload, 1)) tkX12_isAsSeen 39 rfl) (fun x9 => ?_)
        refine zco_icmp_eq (tgt := 63) (zdk (cc := cX12_isAsSeen) (q := (58, .if_icmp .eq 5, 3)) tkX12_isAsSeen 40 rfl) rfl ?_ ?_
        · exact zco_sub [0, 1, 2, 3] rfl (coX12_isAsSeen_J63 l e he v0 v1 v2 v3 r2 hr2)
        · refine zco_p tkX12_isAsSeen 41 1 (pc' := 62) (L' := [(0, .ref v0), (1, .int v1), (2, .int v2), (3, .int v3)]) (S' := [.int 0]) rfl ?_
          exact zco_zret rfl rfl rfl (zdk (cc := cX12_isAsSeen) (q := (62, .ireturn, 1)) tkX12_isAsSeen 42 rfl)
set_option maxHeartbeats 2000000 in
set_option maxRecDepth 20000 in
theorem coX12_isAsSeen (l : Launch) (e : Nat) (he : 0 ≤ e) (v0 : Nat) (v1 : Int32) (v2 : Int32) : zCo l (e + 1) 0 0 iX12_isAsSeen 0 [(0, .ref v0), (1, .int v1), (2, .int v2)] [] (X12_isAsSeen v0 v1 v2) := by
  unfold X12_isAsSeen
  refine zco_p tkX12_isAsSeen 0 2 (pc' := 2) (L' := [(3, .int 0), (0, .ref v0), (1, .int v1), (2, .int v2)]) (S' := []) rfl ?_
  exact zco_sub [1, 2, 3, 0] rfl (zco_fix (Lf := fun x : Int32 => [(0, .ref v0), (1, .int v1), (2, .int v2), (3, .int x)]) (Sf := fun _ => []) (fun r hr x => coX12_isAsSeen_B2 l e he v0 v1 v2 r hr x) zFU 0)
theorem mtX12_isAsSeen (l : Launch) (d : Nat) (hd : 1 ≤ d) (v0 : Nat) (v1 : Int32) (v2 : Int32) : zMet l d 0 0 yX12_isAsSeen cX12_isAsSeen 4 (Option.some .boolean) [.ref v0, .int v1, .int v2] (X12_isAsSeen v0 v1 v2) := by
  obtain ⟨e, rfl⟩ : ∃ e, d = e + 1 := ⟨d - 1, by omega⟩
  exact zmet_of (own := RX12) (ini := false) (by decide +kernel) rfl (fun _ => by contradiction) (Nat.le_of_ble_eq_true rfl) (coX12_isAsSeen l e (by omega) v0 v1 v2)
abbrev iX12_sizeSet : zI := (RX12, cX12_sizeSet, 7, (Option.some .int), false)
def tX12_sizeSet : List (Nat × Instr × Nat) := [(0, .iconst 0, 1), (1, .istore_n 2, 1), (2, .aload_n 0, 1), (3, .invokevirtual 561, 3), (6, .aload_n 0, 1), (7, .iload_n 1, 1), (8, .putfield 137, 3), (11, .iconst 0, 1), (12, .istore_n 3, 1), (13, .iload_n 3, 1), (14, .bipush 9, 2), (16, .if_icmp .gt 96, 3), (19, .aload_n 0, 1), (20, .iload_n 3, 1), (21, .putfield 438, 3), (24, .iconst 1, 1), (25, .istore 4, 2), (27, .iconst 0, 1), (28, .istore 5, 2), (30, .iload 5, 2), (32, .bipush 30, 2), (34, .if_icmp .gt 57, 3), (37, .aload_n 0, 1), (38, .invokevirtual 593, 3), (41, .istore 6, 2), (43, .iload 4, 2), (45, .ifCond .eq 18, 3), (48, .aload_n 0, 1), (49, .iload 5, 2), (51, .iload 6, 2), (53, .invokevirtual 596, 3), (56, .ifCond .eq 7, 3), (59, .iconst 1, 1), (60, .goto 4, 3), (63, .iconst 0, 1), (64, .istore 4, 2), (66, .aload_n 0, 1), (67, .getfield 167, 3), (70, .bipush 31, 2), (72, .iload_n 3, 1), (73, .imul, 1), (74, .iload 5, 2), (76, .iadd, 1), (77, .iload 6, 2), (79, .iastore, 1), (80, .aload_n 0, 1), (81, .iconst (-1), 1), (82, .invokevirtual 527, 3), (85, .iinc 5 1, 3), (88, .goto (-58), 3), (91, .aload_n 0, 1), (92, .invokevirtual 530, 3), (95, .iload 4, 2), (97, .ifCond .eq 9, 3), (100, .iload_n 2, 1), (101, .iconst 1, 1), (102, .iload_n 3, 1), (103, .ishl, 1), (104, .ior, 1), (105, .istore_n 2, 1), (106, .iinc 3 1, 3), (109, .goto (-96), 3), (112, .aload_n 0, 1), (113, .invokevirtual 567, 3), (116, .iload_n 2, 1), (117, .ireturn, 1)]
set_option maxRecDepth 100000 in
theorem tkX12_sizeSet : ∀ q ∈ tX12_sizeSet, decode cX12_sizeSet q.1 = .ok q.2 := by decide +kernel
theorem vmX12_sizeSet : zVM yX12_sizeSet cX12_sizeSet 7 (Option.some .int) 1 12 := ⟨kX12_sizeSet, q_2177, q_128, q_162, ⟨_, rfl, rfl⟩, by decide +kernel, by decide⟩
set_option maxHeartbeats 2000000 in
set_option maxRecDepth 20000 in
theorem coX12_sizeSet_J112 (l : Launch) (e : Nat) (he : 8 ≤ e) (v0 : Nat) (v2 : Int32) : zCo l (e + 1) 0 0 iX12_sizeSet 112 [(0, .ref v0), (2, .int v2)] [] (X12_sizeSet_J112 v0 v2) := by
  unfold X12_sizeSet_J112
  refine zco_p tkX12_sizeSet 62 1 (pc' := 113) (L' := [(0, .ref v0), (2, .int v2)]) (S' := [.ref v0]) rfl ?_
  refine zco_Vv (rc := 0) (rs := 0) (mc := 0) (ms := 0) (As := []) (S := []) vmX12_takesBack (mtX12_takesBack l e (by omega) v0) q_2100 rfl rfl (Nat.le_of_ble_eq_true rfl) (zdk (cc := cX12_sizeSet) (q := (113, .invokevirtual 567, 3)) tkX12_sizeSet 63 rfl) ?_
  refine zco_p tkX12_sizeSet 64 1 (pc' := 117) (L' := [(0, .ref v0), (2, .int v2)]) (S' := [.int v2]) rfl ?_
  exact zco_iret rfl rfl rfl (zdk (cc := cX12_sizeSet) (q := (117, .ireturn, 1)) tkX12_sizeSet 65 rfl)
set_option maxHeartbeats 2000000 in
set_option maxRecDepth 20000 in
theorem coX12_sizeSet_J106 (l : Launch) (e : Nat) (he : 8 ≤ e) (v0 : Nat) (v2 : Int32) (v3 : Int32) (r13 : Int32 × Int32 → zM) (hr13 : ∀ x : Int32 × Int32, zCo l (e + 1) 0 0 iX12_sizeSet 13 [(0, .ref v0), (2, .int x.1), (3, .int x.2)] [] (r13 x)) : zCo l (e + 1) 0 0 iX12_sizeSet 106 [(0, .ref v0), (2, .int v2), (3, .int v3)] [] (X12_sizeSet_J106 r13 v0 v2 v3) := by
  unfold X12_sizeSet_J106
  refine zco_p tkX12_sizeSet 60 2 (pc' := 13) (L' := [(3, .int (v3 + 1)), (0, .ref v0), (2, .int v2)]) (S' := []) rfl ?_
  exact zco_sub [1, 2, 0] rfl (hr13 (v2, v3 + 1))
set_option maxHeartbeats 2000000 in
set_option maxRecDepth 20000 in
theorem coX12_sizeSet_J91 (l : Launch) (e : Nat) (he : 8 ≤ e) (v0 : Nat) (v2 : Int32) (v3 : Int32) (v4 : Int32) (r13 : Int32 × Int32 → zM) (hr13 : ∀ x : Int32 × Int32, zCo l (e + 1) 0 0 iX12_sizeSet 13 [(0, .ref v0), (2, .int x.1), (3, .int x.2)] [] (r13 x)) : zCo l (e + 1) 0 0 iX12_sizeSet 91 [(0, .ref v0), (2, .int v2), (3, .int v3), (4, .int v4)] [] (X12_sizeSet_J91 r13 v0 v2 v3 v4) := by
  unfold X12_sizeSet_J91
  refine zco_p tkX12_sizeSet 50 1 (pc' := 92) (L' := [(0, .ref v0), (2, .int v2), (3, .int v3), (4, .int v4)]) (S' := [.ref v0]) rfl ?_
  refine zco_Vv (rc := 0) (rs := 0) (mc := 0) (ms := 0) (As := []) (S := []) vmX12_triesAnew (mtX12_triesAnew l e (by omega) v0) q_2104 rfl rfl (Nat.le_of_ble_eq_true rfl) (zdk (cc := cX12_sizeSet) (q := (92, .invokevirtual 530, 3)) tkX12_sizeSet 51 rfl) ?_
  refine zco_p tkX12_sizeSet 52 1 (pc' := 97) (L' := [(0, .ref v0), (2, .int v2), (3, .int v3), (4, .int v4)]) (S' := [.int v4]) rfl ?_
  refine zco_if_eq (tgt := 106) (zdk (cc := cX12_sizeSet) (q := (97, .ifCond .eq 9, 3)) tkX12_sizeSet 53 rfl) rfl ?_ ?_
  · exact zco_sub [0, 1, 2] rfl (coX12_sizeSet_J106 l e he v0 v2 v3 r13 hr13)
  · refine zco_p tkX12_sizeSet 54 6 (pc' := 106) (L' := [(2, .int (v2 ||| ((1 : Int32) <<< (v3 &&& 31)))), (0, .ref v0), (3, .int v3), (4, .int v4)]) (S' := []) rfl ?_
    exact zco_sub [1, 0, 2] rfl (coX12_sizeSet_J106 l e he v0 (v2 ||| ((1 : Int32) <<< (v3 &&& 31))) v3 r13 hr13)
set_option maxHeartbeats 2000000 in
set_option maxRecDepth 20000 in
theorem coX12_sizeSet_J64 (l : Launch) (e : Nat) (he : 8 ≤ e) (v0 : Nat) (v2 : Int32) (v3 : Int32) (v5 : Int32) (v6 : Int32) (r13 : Int32 × Int32 → zM) (hr13 : ∀ x : Int32 × Int32, zCo l (e + 1) 0 0 iX12_sizeSet 13 [(0, .ref v0), (2, .int x.1), (3, .int x.2)] [] (r13 x)) (r30 : Int32 × Int32 → zM) (hr30 : ∀ x : Int32 × Int32, zCo l (e + 1) 0 0 iX12_sizeSet 30 [(0, .ref v0), (2, .int v2), (3, .int v3), (4, .int x.1), (5, .int x.2)] [] (r30 x)) (s0 : Int32) : zCo l (e + 1) 0 0 iX12_sizeSet 64 [(0, .ref v0), (2, .int v2), (3, .int v3), (5, .int v5), (6, .int v6)] [.int s0] (X12_sizeSet_J64 r13 r30 v0 v2 v3 v5 v6 s0) := by
  unfold X12_sizeSet_J64
  refine zco_p tkX12_sizeSet 35 2 (pc' := 67) (L' := [(4, .int s0), (0, .ref v0), (2, .int v2), (3, .int v3), (5, .int v5), (6, .int v6)]) (S' := [.ref v0]) rfl ?_
  refine zco_gr fl_12_167 rfl (zdk (cc := cX12_sizeSet) (q := (67, .getfield 167, 3)) tkX12_sizeSet 37 rfl) (fun x1 => ?_)
  refine zco_p tkX12_sizeSet 38 6 (pc' := 79) (L' := [(4, .int s0), (0, .ref v0), (2, .int v2), (3, .int v3), (5, .int v5), (6, .int v6)]) (S' := [.int v6, .int ((31 * v3) + v5), .ref x1]) rfl ?_
  refine zco_iastore (zdk (cc := cX12_sizeSet) (q := (79, .iastore, 1)) tkX12_sizeSet 44 rfl) ?_
  refine zco_p tkX12_sizeSet 45 2 (pc' := 82) (L' := [(4, .int s0), (0, .ref v0), (2, .int v2), (3, .int v3), (5, .int v5), (6, .int v6)]) (S' := [.int ((-1)), .ref v0]) rfl ?_
  refine zco_Vv (rc := 0) (rs := 0) (mc := 0) (ms := 0) (As := [.int ((-1))]) (S := []) vmX12_roundGoes (mtX12_roundGoes l e (by omega) v0 ((-1))) q_2084 rfl rfl (Nat.le_of_ble_eq_true rfl) (zdk (cc := cX12_sizeSet) (q := (82, .invokevirtual 527, 3)) tkX12_sizeSet 47 rfl) ?_
  refine zco_p tkX12_sizeSet 48 2 (pc' := 30) (L' := [(5, .int (v5 + 1)), (4, .int s0), (0, .ref v0), (2, .int v2), (3, .int v3), (6, .int v6)]) (S' := []) rfl ?_
  exact zco_sub [2, 3, 4, 1, 0] rfl (hr30 (s0, v5 + 1))
set_option maxHeartbeats 2000000 in
set_option maxRecDepth 20000 in
theorem coX12_sizeSet_J63 (l : Launch) (e : Nat) (he : 8 ≤ e) (v0 : Nat) (v2 : Int32) (v3 : Int32) (v5 : Int32) (v6 : Int32) (r13 : Int32 × Int32 → zM) (hr13 : ∀ x : Int32 × Int32, zCo l (e + 1) 0 0 iX12_sizeSet 13 [(0, .ref v0), (2, .int x.1), (3, .int x.2)] [] (r13 x)) (r30 : Int32 × Int32 → zM) (hr30 : ∀ x : Int32 × Int32, zCo l (e + 1) 0 0 iX12_sizeSet 30 [(0, .ref v0), (2, .int v2), (3, .int v3), (4, .int x.1), (5, .int x.2)] [] (r30 x)) : zCo l (e + 1) 0 0 iX12_sizeSet 63 [(0, .ref v0), (2, .int v2), (3, .int v3), (5, .int v5), (6, .int v6)] [] (X12_sizeSet_J63 r13 r30 v0 v2 v3 v5 v6) := by
  unfold X12_sizeSet_J63
  refine zco_p tkX12_sizeSet 34 1 (pc' := 64) (L' := [(0, .ref v0), (2, .int v2), (3, .int v3), (5, .int v5), (6, .int v6)]) (S' := [.int 0]) rfl ?_
  exact zco_sub [0, 1, 2, 3, 4] rfl (coX12_sizeSet_J64 l e he v0 v2 v3 v5 v6 r13 hr13 r30 hr30 0)
set_option maxHeartbeats 2000000 in
set_option maxRecDepth 20000 in
theorem coX12_sizeSet_B30 (l : Launch) (e : Nat) (he : 8 ≤ e) (v0 : Nat) (v2 : Int32) (v3 : Int32) (r13 : Int32 × Int32 → zM) (hr13 : ∀ x : Int32 × Int32, zCo l (e + 1) 0 0 iX12_sizeSet 13 [(0, .ref v0), (2, .int x.1), (3, .int x.2)] [] (r13 x)) (r30 : Int32 × Int32 → zM) (hr30 : ∀ x : Int32 × Int32, zCo l (e + 1) 0 0 iX12_sizeSet 30 [(0, .ref v0), (2, .int v2), (3, .int v3), (4, .int x.1), (5, .int x.2)] [] (r30 x)) (v4 : Int32) (v5 : Int32) : zCo l (e + 1) 0 0 iX12_sizeSet 30 [(0, .ref v0), (2, .int v2), (3, .int v3), (4, .int v4), (5, .int v5)] [] (X12_sizeSet_B30 r13 v0 v2 v3 r30 v4 v5) := by
  unfold X12_sizeSet_B30
  refine zco_p tkX12_sizeSet 19 2 (pc' := 34) (L' := [(0, .ref v0), (2, .int v2), (3, .int v3), (4, .int v4), (5, .int v5)]) (S' := [.int 30, .int v5]) rfl ?_
  refine zco_icmp_gt (tgt := 91) (zdk (cc := cX12_sizeSet) (q := (34, .if_icmp .gt 57, 3)) tkX12_sizeSet 21 rfl) rfl ?_ ?_
  · exact zco_sub [0, 1, 2, 3] rfl (coX12_sizeSet_J91 l e he v0 v2 v3 v4 r13 hr13)
  · refine zco_p tkX12_sizeSet 22 1 (pc' := 38) (L' := [(0, .ref v0), (2, .int v2), (3, .int v3), (4, .int v4), (5, .int v5)]) (S' := [.ref v0]) rfl ?_
    refine zco_Vi (rc := 0) (rs := 0) (mc := 0) (ms := 0) (As := []) (S := []) vmX12_wedSet (mtX12_wedSet l e (by omega) v0) q_2179 rfl rfl (Nat.le_of_ble_eq_true rfl) (zdk (cc := cX12_sizeSet) (q := (38, .invokevirtual 593, 3)) tkX12_sizeSet 23 rfl) (fun y1 => ?_)
    refine zco_p tkX12_sizeSet 24 2 (pc' := 45) (L' := [(6, .int y1), (0, .ref v0), (2, .int v2), (3, .int v3), (4, .int v4), (5, .int v5)]) (S' := [.int v4]) rfl ?_
    refine zco_if_eq (tgt := 63) (zdk (cc := cX12_sizeSet) (q := (45, .ifCond .eq 18, 3)) tkX12_sizeSet 26 rfl) rfl ?_ ?_
    · exact zco_sub [1, 2, 3, 5, 0] rfl (coX12_sizeSet_J63 l e he v0 v2 v3 v5 y1 r13 hr13 r30 hr30)
    · refine zco_p tkX12_sizeSet 27 3 (pc' := 53) (L' := [(6, .int y1), (0, .ref v0), (2, .int v2), (3, .int v3), (4, .int v4), (5, .int v5)]) (S' := [.int y1, .int v5, .ref v0]) rfl ?_
      refine zco_Vi (rc := 0) (rs := 0) (mc := 0) (ms := 0) (As := [.int v5, .int y1]) (S := []) vmX12_isAsSeen (mtX12_isAsSeen l e (by omega) v0 v5 y1) q_2183 rfl rfl (Nat.le_of_ble_eq_true rfl) (zdk (cc := cX12_sizeSet) (q := (53, .invokevirtual 596, 3)) tkX12_sizeSet 30 rfl) (fun y2 => ?_)
      refine zco_if_eq (tgt := 63) (zdk (cc := cX12_sizeSet) (q := (56, .ifCond .eq 7, 3)) tkX12_sizeSet 31 rfl) rfl ?_ ?_
      · exact zco_sub [1, 2, 3, 5, 0] rfl (coX12_sizeSet_J63 l e he v0 v2 v3 v5 y1 r13 hr13 r30 hr30)
      · refine zco_p tkX12_sizeSet 32 2 (pc' := 64) (L' := [(6, .int y1), (0, .ref v0), (2, .int v2), (3, .int v3), (4, .int v4), (5, .int v5)]) (S' := [.int 1]) rfl ?_
        exact zco_sub [1, 2, 3, 5, 0] rfl (coX12_sizeSet_J64 l e he v0 v2 v3 v5 y1 r13 hr13 r30 hr30 1)
set_option maxHeartbeats 2000000 in
set_option maxRecDepth 20000 in
theorem coX12_sizeSet_B13 (l : Launch) (e : Nat) (he : 8 ≤ e) (v0 : Nat) (r13 : Int32 × Int32 → zM) (hr13 : ∀ x : Int32 × Int32, zCo l (e + 1) 0 0 iX12_sizeSet 13 [(0, .ref v0), (2, .int x.1), (3, .int x.2)] [] (r13 x)) (v2 : Int32) (v3 : Int32) : zCo l (e + 1) 0 0 iX12_sizeSet 13 [(0, .ref v0), (2, .int v2), (3, .int v3)] [] (X12_sizeSet_B13 v0 r13 v2 v3) := by
  unfold X12_sizeSet_B13
  refine zco_p tkX12_sizeSet 9 2 (pc' := 16) (L' := [(0, .ref v0), (2, .int v2), (3, .int v3)]) (S' := [.int 9, .int v3]) rfl ?_
  refine zco_icmp_gt (tgt := 112) (zdk (cc := cX12_sizeSet) (q := (16, .if_icmp .gt 96, 3)) tkX12_sizeSet 11 rfl) rfl ?_ ?_
  · exact zco_sub [0, 1] rfl (coX12_sizeSet_J112 l e he v0 v2)
  · refine zco_p tkX12_sizeSet 12 2 (pc' := 21) (L' := [(0, .ref v0), (2, .int v2), (3, .int v3)]) (S' := [.int v3, .ref v0]) rfl ?_
    refine zco_pi fl_12_438 rfl rfl (zdk (cc := cX12_sizeSet) (q := (21, .putfield 438, 3)) tkX12_sizeSet 14 rfl) ?_
    refine zco_p tkX12_sizeSet 15 4 (pc' := 30) (L' := [(5, .int 0), (4, .int 1), (0, .ref v0), (2, .int v2), (3, .int v3)]) (S' := []) rfl ?_
    exact zco_sub [2, 3, 4, 1, 0] rfl (zco_fix (Lf := fun x : Int32 × Int32 => [(0, .ref v0), (2, .int v2), (3, .int v3), (4, .int x.1), (5, .int x.2)]) (Sf := fun _ => []) (fun r hr x => coX12_sizeSet_B30 l e he v0 v2 v3 r13 hr13 r hr x.1 x.2) zFU (1, 0))
set_option maxHeartbeats 2000000 in
set_option maxRecDepth 20000 in
theorem coX12_sizeSet (l : Launch) (e : Nat) (he : 8 ≤ e) (v0 : Nat) (v1 : Int32) : zCo l (e + 1) 0 0 iX12_sizeSet 0 [(0, .ref v0), (1, .int v1)] [] (X12_sizeSet v0 v1) := by
  unfold X12_sizeSet
  refine zco_p tkX12_sizeSet 0 3 (pc' := 3) (L' := [(2, .int 0), (0, .ref v0), (1, .int v1)]) (S' := [.ref v0]) rfl ?_
  refine zco_Vv (rc := 0) (rs := 0) (mc := 0) (ms := 0) (As := []) (S := []) vmX12_putsAside (mtX12_putsAside l e (by omega) v0) q_2076 rfl rfl (Nat.le_of_ble_eq_true rfl) (zdk (cc := cX12_sizeSet) (q := (3, .invokevirtual 561, 3)) tkX12_sizeSet 3 rfl) ?_
  refine zco_p tkX12_sizeSet 4 2 (pc' := 8) (L' := [(2, .int 0), (0, .ref v0), (1, .int v1)]) (S' := [.int v1, .ref v0]) rfl ?_
  refine zco_pi fl_12_137 rfl rfl (zdk (cc := cX12_sizeSet) (q := (8, .putfield 137, 3)) tkX12_sizeSet 6 rfl) ?_
  refine zco_p tkX12_sizeSet 7 2 (pc' := 13) (L' := [(3, .int 0), (2, .int 0), (0, .ref v0), (1, .int v1)]) (S' := []) rfl ?_
  exact zco_sub [2, 1, 0] rfl (zco_fix (Lf := fun x : Int32 × Int32 => [(0, .ref v0), (2, .int x.1), (3, .int x.2)]) (Sf := fun _ => []) (fun r hr x => coX12_sizeSet_B13 l e he v0 r hr x.1 x.2) zFU (0, 0))
theorem mtX12_sizeSet (l : Launch) (d : Nat) (hd : 9 ≤ d) (v0 : Nat) (v1 : Int32) : zMet l d 0 0 yX12_sizeSet cX12_sizeSet 7 (Option.some .int) [.ref v0, .int v1] (X12_sizeSet v0 v1) := by
  obtain ⟨e, rfl⟩ : ∃ e, d = e + 1 := ⟨d - 1, by omega⟩
  exact zmet_of (own := RX12) (ini := false) (by decide +kernel) rfl (fun _ => by contradiction) (Nat.le_of_ble_eq_true rfl) (coX12_sizeSet l e (by omega) v0 v1)
abbrev iX12_sizes : zI := (RX12, cX12_sizes, 2, (Option.some .int), false)
def tX12_sizes : List (Nat × Instr × Nat) := [(0, .aload_n 0, 1), (1, .iload_n 1, 1), (2, .i2l, 1), (3, .invokevirtual 422, 3), (6, .ifCond .eq 11, 3), (9, .aload_n 0, 1), (10, .iload_n 1, 1), (11, .invokevirtual 599, 3), (14, .goto 4, 3), (17, .iconst (-1), 1), (18, .ireturn, 1)]
set_option maxRecDepth 100000 in
theorem tkX12_sizes : ∀ q ∈ tX12_sizes, decode cX12_sizes q.1 = .ok q.2 := by decide +kernel
theorem vmX12_sizes : zVM yX12_sizes cX12_sizes 2 (Option.some .int) 1 12 := ⟨kX12_sizes, q_2172, q_2173, q_162, ⟨_, rfl, rfl⟩, by decide +kernel, by decide⟩
set_option maxHeartbeats 2000000 in
set_option maxRecDepth 20000 in
theorem coX12_sizes (l : Launch) (e : Nat) (he : 9 ≤ e) (v0 : Nat) (v1 : Int32) : zCo l (e + 1) 0 0 iX12_sizes 0 [(0, .ref v0), (1, .int v1)] [] (X12_sizes v0 v1) := by
  unfold X12_sizes
  refine zco_p tkX12_sizes 0 3 (pc' := 3) (L' := [(0, .ref v0), (1, .int v1)]) (S' := [.long v1.toInt64, .ref v0]) rfl ?_
  refine zco_Vi (rc := 0) (rs := 0) (mc := 0) (ms := 0) (As := [.long v1.toInt64]) (S := []) vmX12_isPerson (mtX12_isPerson l e (by omega) v0 v1.toInt64) q_1936 rfl rfl (Nat.le_of_ble_eq_true rfl) (zdk (cc := cX12_sizes) (q := (3, .invokevirtual 422, 3)) tkX12_sizes 3 rfl) (fun y1 => ?_)
  refine zco_if_eq (tgt := 17) (zdk (cc := cX12_sizes) (q := (6, .ifCond .eq 11, 3)) tkX12_sizes 4 rfl) rfl ?_ ?_
  · refine zco_p tkX12_sizes 9 1 (pc' := 18) (L' := [(0, .ref v0), (1, .int v1)]) (S' := [.int ((-1))]) rfl ?_
    exact zco_iret rfl rfl rfl (zdk (cc := cX12_sizes) (q := (18, .ireturn, 1)) tkX12_sizes 10 rfl)
  · refine zco_p tkX12_sizes 5 2 (pc' := 11) (L' := [(0, .ref v0), (1, .int v1)]) (S' := [.int v1, .ref v0]) rfl ?_
    refine zco_Vi (rc := 0) (rs := 0) (mc := 0) (ms := 0) (As := [.int v1]) (S := []) vmX12_sizeSet (mtX12_sizeSet l e (by omega) v0 v1) q_2175 rfl rfl (Nat.le_of_ble_eq_true rfl) (zdk (cc := cX12_sizes) (q := (11, .invokevirtual 599, 3)) tkX12_sizes 7 rfl) (fun y2 => ?_)
    refine zco_p tkX12_sizes 8 1 (pc' := 18) (L' := [(0, .ref v0), (1, .int v1)]) (S' := [.int y2]) rfl ?_
    exact zco_iret rfl rfl rfl (zdk (cc := cX12_sizes) (q := (18, .ireturn, 1)) tkX12_sizes 10 rfl)
theorem mtX12_sizes (l : Launch) (d : Nat) (hd : 10 ≤ d) (v0 : Nat) (v1 : Int32) : zMet l d 0 0 yX12_sizes cX12_sizes 2 (Option.some .int) [.ref v0, .int v1] (X12_sizes v0 v1) := by
  obtain ⟨e, rfl⟩ : ∃ e, d = e + 1 := ⟨d - 1, by omega⟩
  exact zmet_of (own := RX12) (ini := false) (by decide +kernel) rfl (fun _ => by contradiction) (Nat.le_of_ble_eq_true rfl) (coX12_sizes l e (by omega) v0 v1)
abbrev iX12_mostAlike : zI := (RX12, cX12_mostAlike, 6, (Option.some .int), false)
def tX12_mostAlike : List (Nat × Instr × Nat) := [(0, .iconst 0, 1), (1, .istore 4, 2), (3, .iconst 0, 1), (4, .istore 5, 2), (6, .iload 5, 2), (8, .bipush 9, 2), (10, .if_icmp .gt 40, 3), (13, .iload_n 1, 1), (14, .iload 5, 2), (16, .ishr, 1), (17, .iconst 1, 1), (18, .iand, 1), (19, .iconst 1, 1), (20, .if_icmp .ne 24, 3), (23, .iload 4, 2), (25, .aload_n 0, 1), (26, .getfield 167, 3), (29, .bipush 31, 2), (31, .iload 5, 2), (33, .imul, 1), (34, .iload_n 2, 1), (35, .iadd, 1), (36, .iaload, 1), (37, .iload_n 3, 1), (38, .ishr, 1), (39, .iconst 1, 1), (40, .iand, 1), (41, .iadd, 1), (42, .istore 4, 2), (44, .iinc 5 1, 3), (47, .goto (-41), 3), (50, .iload_n 1, 1), (51, .invokestatic 586, 3), (54, .iload 4, 2), (56, .isub, 1), (57, .istore 5, 2), (59, .iload 4, 2), (61, .iload 5, 2), (63, .if_icmp .ge 8, 3), (66, .iload 5, 2), (68, .goto 5, 3), (71, .iload 4, 2), (73, .ireturn, 1)]
set_option maxRecDepth 100000 in
theorem tkX12_mostAlike : ∀ q ∈ tX12_mostAlike, decode cX12_mostAlike q.1 = .ok q.2 := by decide +kernel
theorem vmX12_mostAlike : zVM yX12_mostAlike cX12_mostAlike 6 (Option.some .int) 3 12 := ⟨kX12_mostAlike, q_2194, q_131, q_162, ⟨_, rfl, rfl⟩, by decide +kernel, by decide⟩
set_option maxHeartbeats 2000000 in
set_option maxRecDepth 20000 in
theorem coX12_mostAlike_J50 (l : Launch) (e : Nat) (he : 1 ≤ e) (v1 : Int32) (v4 : Int32) : zCo l (e + 1) 0 0 iX12_mostAlike 50 [(1, .int v1), (4, .int v4)] [] (X12_mostAlike_J50 v1 v4) := by
  unfold X12_mostAlike_J50
  refine zco_p tkX12_mostAlike 31 1 (pc' := 51) (L' := [(1, .int v1), (4, .int v4)]) (S' := [.int v1]) rfl ?_
  refine zco_Si (rc := 0) (rs := 0) (mc := 0) (ms := 0) (As := [.int v1]) (S := []) vmX12_bits (mtX12_bits l e (by omega) v1) q_2152 rfl rfl (Nat.le_of_ble_eq_true rfl) (zdk (cc := cX12_mostAlike) (q := (51, .invokestatic 586, 3)) tkX12_mostAlike 32 rfl) (fun y1 => ?_)
  refine zco_p tkX12_mostAlike 33 5 (pc' := 63) (L' := [(5, .int (y1 - v4)), (1, .int v1), (4, .int v4)]) (S' := [.int (y1 - v4), .int v4]) rfl ?_
  refine zco_icmp_ge (tgt := 71) (zdk (cc := cX12_mostAlike) (q := (63, .if_icmp .ge 8, 3)) tkX12_mostAlike 38 rfl) rfl ?_ ?_
  · refine zco_p tkX12_mostAlike 41 1 (pc' := 73) (L' := [(5, .int (y1 - v4)), (1, .int v1), (4, .int v4)]) (S' := [.int v4]) rfl ?_
    exact zco_iret rfl rfl rfl (zdk (cc := cX12_mostAlike) (q := (73, .ireturn, 1)) tkX12_mostAlike 42 rfl)
  · refine zco_p tkX12_mostAlike 39 2 (pc' := 73) (L' := [(5, .int (y1 - v4)), (1, .int v1), (4, .int v4)]) (S' := [.int (y1 - v4)]) rfl ?_
    exact zco_iret rfl rfl rfl (zdk (cc := cX12_mostAlike) (q := (73, .ireturn, 1)) tkX12_mostAlike 42 rfl)
set_option maxHeartbeats 2000000 in
set_option maxRecDepth 20000 in
theorem coX12_mostAlike_J44 (l : Launch) (e : Nat) (he : 1 ≤ e) (v0 : Nat) (v1 : Int32) (v2 : Int32) (v3 : Int32) (v4 : Int32) (v5 : Int32) (r6 : Int32 × Int32 → zM) (hr6 : ∀ x : Int32 × Int32, zCo l (e + 1) 0 0 iX12_mostAlike 6 [(0, .ref v0), (1, .int v1), (2, .int v2), (3, .int v3), (4, .int x.1), (5, .int x.2)] [] (r6 x)) : zCo l (e + 1) 0 0 iX12_mostAlike 44 [(0, .ref v0), (1, .int v1), (2, .int v2), (3, .int v3), (4, .int v4), (5, .int v5)] [] (X12_mostAlike_J44 r6 v0 v1 v2 v3 v4 v5) := by
  unfold X12_mostAlike_J44
  refine zco_p tkX12_mostAlike 29 2 (pc' := 6) (L' := [(5, .int (v5 + 1)), (0, .ref v0), (1, .int v1), (2, .int v2), (3, .int v3), (4, .int v4)]) (S' := []) rfl ?_
  exact zco_sub [1, 2, 3, 4, 5, 0] rfl (hr6 (v4, v5 + 1))
set_option maxHeartbeats 2000000 in
set_option maxRecDepth 20000 in
theorem coX12_mostAlike_B6 (l : Launch) (e : Nat) (he : 1 ≤ e) (v0 : Nat) (v1 : Int32) (v2 : Int32) (v3 : Int32) (r6 : Int32 × Int32 → zM) (hr6 : ∀ x : Int32 × Int32, zCo l (e + 1) 0 0 iX12_mostAlike 6 [(0, .ref v0), (1, .int v1), (2, .int v2), (3, .int v3), (4, .int x.1), (5, .int x.2)] [] (r6 x)) (v4 : Int32) (v5 : Int32) : zCo l (e + 1) 0 0 iX12_mostAlike 6 [(0, .ref v0), (1, .int v1), (2, .int v2), (3, .int v3), (4, .int v4), (5, .int v5)] [] (X12_mostAlike_B6 v0 v1 v2 v3 r6 v4 v5) := by
  unfold X12_mostAlike_B6
  refine zco_p tkX12_mostAlike 4 2 (pc' := 10) (L' := [(0, .ref v0), (1, .int v1), (2, .int v2), (3, .int v3), (4, .int v4), (5, .int v5)]) (S' := [.int 9, .int v5]) rfl ?_
  refine zco_icmp_gt (tgt := 50) (zdk (cc := cX12_mostAlike) (q := (10, .if_icmp .gt 40, 3)) tkX12_mostAlike 6 rfl) rfl ?_ ?_
  · exact zco_sub [1, 4] rfl (coX12_mostAlike_J50 l e he v1 v4)
  · refine zco_p tkX12_mostAlike 7 6 (pc' := 20) (L' := [(0, .ref v0), (1, .int v1), (2, .int v2), (3, .int v3), (4, .int v4), (5, .int v5)]) (S' := [.int 1, .int ((v1 >>> (v5 &&& 31)) &&& 1)]) rfl ?_
    refine zco_icmp_ne (tgt := 44) (zdk (cc := cX12_mostAlike) (q := (20, .if_icmp .ne 24, 3)) tkX12_mostAlike 13 rfl) rfl ?_ ?_
    · exact zco_sub [0, 1, 2, 3, 4, 5] rfl (coX12_mostAlike_J44 l e he v0 v1 v2 v3 v4 v5 r6 hr6)
    · refine zco_p tkX12_mostAlike 14 2 (pc' := 26) (L' := [(0, .ref v0), (1, .int v1), (2, .int v2), (3, .int v3), (4, .int v4), (5, .int v5)]) (S' := [.ref v0, .int v4]) rfl ?_
      refine zco_gr fl_12_167 rfl (zdk (cc := cX12_mostAlike) (q := (26, .getfield 167, 3)) tkX12_mostAlike 16 rfl) (fun x1 => ?_)
      refine zco_p tkX12_mostAlike 17 5 (pc' := 36) (L' := [(0, .ref v0), (1, .int v1), (2, .int v2), (3, .int v3), (4, .int v4), (5, .int v5)]) (S' := [.int ((31 * v5) + v2), .ref x1, .int v4]) rfl ?_
      refine zco_iaload (zdk (cc := cX12_mostAlike) (q := (36, .iaload, 1)) tkX12_mostAlike 22 rfl) (fun x2 => ?_)
      refine zco_p tkX12_mostAlike 23 6 (pc' := 44) (L' := [(4, .int (v4 + ((x2 >>> (v3 &&& 31)) &&& 1))), (0, .ref v0), (1, .int v1), (2, .int v2), (3, .int v3), (5, .int v5)]) (S' := []) rfl ?_
      exact zco_sub [1, 2, 3, 4, 0, 5] rfl (coX12_mostAlike_J44 l e he v0 v1 v2 v3 (v4 + ((x2 >>> (v3 &&& 31)) &&& 1)) v5 r6 hr6)
set_option maxHeartbeats 2000000 in
set_option maxRecDepth 20000 in
theorem coX12_mostAlike (l : Launch) (e : Nat) (he : 1 ≤ e) (v0 : Nat) (v1 : Int32) (v2 : Int32) (v3 : Int32) : zCo l (e + 1) 0 0 iX12_mostAlike 0 [(0, .ref v0), (1, .int v1), (2, .int v2), (3, .int v3)] [] (X12_mostAlike v0 v1 v2 v3) := by
  unfold X12_mostAlike
  refine zco_p tkX12_mostAlike 0 4 (pc' := 6) (L' := [(5, .int 0), (4, .int 0), (0, .ref v0), (1, .int v1), (2, .int v2), (3, .int v3)]) (S' := []) rfl ?_
  exact zco_sub [2, 3, 4, 5, 1, 0] rfl (zco_fix (Lf := fun x : Int32 × Int32 => [(0, .ref v0), (1, .int v1), (2, .int v2), (3, .int v3), (4, .int x.1), (5, .int x.2)]) (Sf := fun _ => []) (fun r hr x => coX12_mostAlike_B6 l e he v0 v1 v2 v3 r hr x.1 x.2) zFU (0, 0))
theorem mtX12_mostAlike (l : Launch) (d : Nat) (hd : 2 ≤ d) (v0 : Nat) (v1 : Int32) (v2 : Int32) (v3 : Int32) : zMet l d 0 0 yX12_mostAlike cX12_mostAlike 6 (Option.some .int) [.ref v0, .int v1, .int v2, .int v3] (X12_mostAlike v0 v1 v2 v3) := by
  obtain ⟨e, rfl⟩ : ∃ e, d = e + 1 := ⟨d - 1, by omega⟩
  exact zmet_of (own := RX12) (ini := false) (by decide +kernel) rfl (fun _ => by contradiction) (Nat.le_of_ble_eq_true rfl) (coX12_mostAlike l e (by omega) v0 v1 v2 v3)
