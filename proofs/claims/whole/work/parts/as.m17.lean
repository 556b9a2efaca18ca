abbrev iX12_isKept : zI := (RX12, cX12_isKept, 4, (Option.none : Option FieldType), false)
def tX12_isKept : List (Nat × Instr × Nat) := [(0, .aload_n 0, 1), (1, .getfield 493, 3), (4, .ifCond .eq 4, 3), (7, .return_, 1), (8, .aload_n 0, 1), (9, .getfield 134, 3), (12, .sipush 182, 3), (15, .iaload, 1), (16, .bipush 40, 2), (18, .if_icmp .ne 37, 3), (21, .sipush 183, 3), (24, .istore_n 3, 1), (25, .iload_n 3, 1), (26, .sipush 339, 3), (29, .if_icmp .ge 23, 3), (32, .aload_n 0, 1), (33, .getfield 134, 3), (36, .iload_n 3, 1), (37, .aload_n 0, 1), (38, .getfield 134, 3), (41, .iload_n 3, 1), (42, .iconst 4, 1), (43, .iadd, 1), (44, .iaload, 1), (45, .iastore, 1), (46, .iinc 3 1, 3), (49, .goto (-24), 3), (52, .goto 15, 3), (55, .aload_n 0, 1), (56, .getfield 134, 3), (59, .sipush 182, 3), (62, .dup2, 1), (63, .iaload, 1), (64, .iconst 1, 1), (65, .iadd, 1), (66, .iastore, 1), (67, .sipush 183, 3), (70, .iconst 4, 1), (71, .aload_n 0, 1), (72, .getfield 134, 3), (75, .sipush 182, 3), (78, .iaload, 1), (79, .imul, 1), (80, .iadd, 1), (81, .iconst 4, 1), (82, .isub, 1), (83, .istore_n 3, 1), (84, .aload_n 0, 1), (85, .getfield 134, 3), (88, .iload_n 3, 1), (89, .aload_n 0, 1), (90, .getfield 134, 3), (93, .iconst 0, 1), (94, .iaload, 1), (95, .iastore, 1), (96, .aload_n 0, 1), (97, .getfield 134, 3), (100, .iload_n 3, 1), (101, .iconst 1, 1), (102, .iadd, 1), (103, .aload_n 0, 1), (104, .getfield 134, 3), (107, .iconst 1, 1), (108, .iaload, 1), (109, .iastore, 1), (110, .aload_n 0, 1), (111, .getfield 134, 3), (114, .iload_n 3, 1), (115, .iconst 2, 1), (116, .iadd, 1), (117, .aload_n 0, 1), (118, .iload_n 1, 1), (119, .invokevirtual 455, 3), (122, .iastore, 1), (123, .aload_n 0, 1), (124, .getfield 134, 3), (127, .iload_n 3, 1), (128, .iconst 3, 1), (129, .iadd, 1), (130, .aload_n 0, 1), (131, .iload_n 2, 1), (132, .invokevirtual 455, 3), (135, .iastore, 1), (136, .return_, 1)]
set_option maxRecDepth 100000 in
theorem tkX12_isKept : ∀ q ∈ tX12_isKept, decode cX12_isKept q.1 = .ok q.2 := by decide +kernel
theorem vmX12_isKept : zVM yX12_isKept cX12_isKept 4 (Option.none : Option FieldType) 2 12 := ⟨kX12_isKept, q_2098, q_119, q_162, ⟨_, rfl, rfl⟩, by decide +kernel, by decide⟩
set_option maxHeartbeats 2000000 in
set_option maxRecDepth 20000 in
theorem coX12_isKept_J67 (l : Launch) (e : Nat) (he : 2 ≤ e) (v0 : Nat) (v1 : Int32) (v2 : Int32) : zCo l (e + 1) 0 0 iX12_isKept 67 [(0, .ref v0), (1, .int v1), (2, .int v2)] [] (X12_isKept_J67 v0 v1 v2) := by
  unfold X12_isKept_J67
  refine zco_p tkX12_isKept 36 3 (pc' := 72) (L' := [(0, .ref v0), (1, .int v1), (2, .int v2)]) (S' := [.ref v0, .int 4, .int 183]) rfl ?_
  refine zco_gr fl_12_134 rfl (zdk (cc := cX12_isKept) (q := (72, .getfield 134, 3)) tkX12_isKept 39 rfl) (fun x1 => ?_)
  refine zco_p tkX12_isKept 40 1 (pc' := 78) (L' := [(0, .ref v0), (1, .int v1), (2, .int v2)]) (S' := [.int 182, .ref x1, .int 4, .int 183]) rfl ?_
  refine zco_iaload (zdk (cc := cX12_isKept) (q := (78, .iaload, 1)) tkX12_isKept 41 rfl) (fun x2 => ?_)
  refine zco_p tkX12_isKept 42 6 (pc' := 85) (L' := [(3, .int ((183 + (4 * x2)) - 4)), (0, .ref v0), (1, .int v1), (2, .int v2)]) (S' := [.ref v0]) rfl ?_
  refine zco_gr fl_12_134 rfl (zdk (cc := cX12_isKept) (q := (85, .getfield 134, 3)) tkX12_isKept 48 rfl) (fun x3 => ?_)
  refine zco_p tkX12_isKept 49 2 (pc' := 90) (L' := [(3, .int ((183 + (4 * x2)) - 4)), (0, .ref v0), (1, .int v1), (2, .int v2)]) (S' := [.ref v0, .int ((183 + (4 * x2)) - 4), .ref x3]) rfl ?_
  refine zco_gr fl_12_134 rfl (zdk (cc := cX12_isKept) (q := (90, .getfield 134, 3)) tkX12_isKept 51 rfl) (fun x4 => ?_)
  refine zco_p tkX12_isKept 52 1 (pc' := 94) (L' := [(3, .int ((183 + (4 * x2)) - 4)), (0, .ref v0), (1, .int v1), (2, .int v2)]) (S' := [.int 0, .ref x4, .int ((183 + (4 * x2)) - 4), .ref x3]) rfl ?_
  refine zco_iaload (zdk (cc := cX12_isKept) (q := (94, .iaload, 1)) tkX12_isKept 53 rfl) (fun x5 => ?_)
  refine zco_iastore (zdk (cc := cX12_isKept) (q := (95, .iastore, 1)) tkX12_isKept 54 rfl) ?_
  refine zco_p tkX12_isKept 55 1 (pc' := 97) (L' := [(3, .int ((183 + (4 * x2)) - 4)), (0, .ref v0), (1, .int v1), (2, .int v2)]) (S' := [.ref v0]) rfl ?_
  refine zco_gr fl_12_134 rfl (zdk (cc := cX12_isKept) (q := (97, .getfield 134, 3)) tkX12_isKept 56 rfl) (fun x6 => ?_)
  refine zco_p tkX12_isKept 57 4 (pc' := 104) (L' := [(3, .int ((183 + (4 * x2)) - 4)), (0, .ref v0), (1, .int v1), (2, .int v2)]) (S' := [.ref v0, .int (((183 + (4 * x2)) - 4) + 1), .ref x6]) rfl ?_
  refine zco_gr fl_12_134 rfl (zdk (cc := cX12_isKept) (q := (104, .getfield 134, 3)) tkX12_isKept 61 rfl) (fun x7 => ?_)
  refine zco_p tkX12_isKept 62 1 (pc' := 108) (L' := [(3, .int ((183 + (4 * x2)) - 4)), (0, .ref v0), (1, .int v1), (2, .int v2)]) (S' := [.int 1, .ref x7, .int (((183 + (4 * x2)) - 4) + 1), .ref x6]) rfl ?_
  refine zco_iaload (zdk (cc := cX12_isKept) (q := (108, .iaload, 1)) tkX12_isKept 63 rfl) (fun x8 => ?_)
  refine zco_iastore (zdk (cc := cX12_isKept) (q := (109, .iastore, 1)) tkX12_isKept 64 rfl) ?_
  refine zco_p tkX12_isKept 65 1 (pc' := 111) (L' := [(3, .int ((183 + (4 * x2)) - 4)), (0, .ref v0), (1, .int v1), (2, .int v2)]) (S' := [.ref v0]) rfl ?_
  refine zco_gr fl_12_134 rfl (zdk (cc := cX12_isKept) (q := (111, .getfield 134, 3)) tkX12_isKept 66 rfl) (fun x9 => ?_)
  refine zco_p tkX12_isKept 67 5 (pc' := 119) (L' := [(3, .int ((183 + (4 * x2)) - 4)), (0, .ref v0), (1, .int v1), (2, .int v2)]) (S' := [.int v1, .ref v0, .int (((183 + (4 * x2)) - 4) + 2), .ref x9]) rfl ?_
  refine zco_Vi (rc := 0) (rs := 0) (mc := 0) (ms := 0) (As := [.int v1]) (S := [.int (((183 + (4 * x2)) - 4) + 2), .ref x9]) vmX12_numberOf (mtX12_numberOf l e (by omega) v0 v1) q_1976 rfl rfl (Nat.le_of_ble_eq_true rfl) (zdk (cc := cX12_isKept) (q := (119, .invokevirtual 455, 3)) tkX12_isKept 72 rfl) (fun y10 => ?_)
  refine zco_iastore (zdk (cc := cX12_isKept) (q := (122, .iastore, 1)) tkX12_isKept 73 rfl) ?_
  refine zco_p tkX12_isKept 74 1 (pc' := 124) (L' := [(3, .int ((183 + (4 * x2)) - 4)), (0, .ref v0), (1, .int v1), (2, .int v2)]) (S' := [.ref v0]) rfl ?_
  refine zco_gr fl_12_134 rfl (zdk (cc := cX12_isKept) (q := (124, .getfield 134, 3)) tkX12_isKept 75 rfl) (fun x11 => ?_)
  refine zco_p tkX12_isKept 76 5 (pc' := 132) (L' := [(3, .int ((183 + (4 * x2)) - 4)), (0, .ref v0), (1, .int v1), (2, .int v2)]) (S' := [.int v2, .ref v0, .int (((183 + (4 * x2)) - 4) + 3), .ref x11]) rfl ?_
  refine zco_Vi (rc := 0) (rs := 0) (mc := 0) (ms := 0) (As := [.int v2]) (S := [.int (((183 + (4 * x2)) - 4) + 3), .ref x11]) vmX12_numberOf (mtX12_numberOf l e (by omega) v0 v2) q_1976 rfl rfl (Nat.le_of_ble_eq_true rfl) (zdk (cc := cX12_isKept) (q := (132, .invokevirtual 455, 3)) tkX12_isKept 81 rfl) (fun y12 => ?_)
  refine zco_iastore (zdk (cc := cX12_isKept) (q := (135, .iastore, 1)) tkX12_isKept 82 rfl) ?_
  exact zco_vret rfl rfl rfl (zdk (cc := cX12_isKept) (q := (136, .return_, 1)) tkX12_isKept 83 rfl)
set_option maxHeartbeats 2000000 in
set_option maxRecDepth 20000 in
theorem coX12_isKept_J52 (l : Launch) (e : Nat) (he : 2 ≤ e) (v0 : Nat) (v1 : Int32) (v2 : Int32) : zCo l (e + 1) 0 0 iX12_isKept 52 [(0, .ref v0), (1, .int v1), (2, .int v2)] [] (X12_isKept_J52 v0 v1 v2) := by
  unfold X12_isKept_J52
  refine zco_p tkX12_isKept 27 1 (pc' := 67) (L' := [(0, .ref v0), (1, .int v1), (2, .int v2)]) (S' := []) rfl ?_
  exact zco_sub [0, 1, 2] rfl (coX12_isKept_J67 l e he v0 v1 v2)
set_option maxHeartbeats 2000000 in
set_option maxRecDepth 20000 in
theorem coX12_isKept_B25 (l : Launch) (e : Nat) (he : 2 ≤ e) (v0 : Nat) (v1 : Int32) (v2 : Int32) (r25 : Int32 → zM) (hr25 : ∀ x : Int32, zCo l (e + 1) 0 0 iX12_isKept 25 [(0, .ref v0), (1, .int v1), (2, .int v2), (3, .int x)] [] (r25 x)) (v3 : Int32) : zCo l (e + 1) 0 0 iX12_isKept 25 [(0, .ref v0), (1, .int v1), (2, .int v2), (3, .int v3)] [] (X12_isKept_B25 v0 v1 v2 r25 v3) := by
  unfold X12_isKept_B25
  refine zco_p tkX12_isKept 12 2 (pc' := 29) (L' := [(0, .ref v0), (1, .int v1), (2, .int v2), (3, .int v3)]) (S' := [.int 339, .int v3]) rfl ?_
  refine zco_icmp_ge (tgt := 52) (zdk (cc := cX12_isKept) (q := (29, .if_icmp .ge 23, 3)) tkX12_isKept 14 rfl) rfl ?_ ?_
  · exact zco_sub [0, 1, 2] rfl (coX12_isKept_J52 l e he v0 v1 v2)
  · refine zco_p tkX12_isKept 15 1 (pc' := 33) (L' := [(0, .ref v0), (1, .int v1), (2, .int v2), (3, .int v3)]) (S' := [.ref v0]) rfl ?_
    refine zco_gr fl_12_134 rfl (zdk (cc := cX12_isKept) (q := (33, .getfield 134, 3)) tkX12_isKept 16 rfl) (fun x1 => ?_)
    refine zco_p tkX12_isKept 17 2 (pc' := 38) (L' := [(0, .ref v0), (1, .int v1), (2, .int v2), (3, .int v3)]) (S' := [.ref v0, .int v3, .ref x1]) rfl ?_
    refine zco_gr fl_12_134 rfl (zdk (cc := cX12_isKept) (q := (38, .getfield 134, 3)) tkX12_isKept 19 rfl) (fun x2 => ?_)
    refine zco_p tkX12_isKept 20 3 (pc' := 44) (L' := [(0, .ref v0), (1, .int v1), (2, .int v2), (3, .int v3)]) (S' := [.int (v3 + 4), .ref x2, .int v3, .ref x1]) rfl ?_
    refine zco_iaload (zdk (cc := cX12_isKept) (q := (44, .iaload, 1)) tkX12_isKept 23 rfl) (fun x3 => ?_)
    refine zco_iastore (zdk (cc := cX12_isKept) (q := (45, .iastore, 1)) tkX12_isKept 24 rfl) ?_
    refine zco_p tkX12_isKept 25 2 (pc' := 25) (L' := [(3, .int (v3 + 1)), (0, .ref v0), (1, .int v1), (2, .int v2)]) (S' := []) rfl ?_
    exact zco_sub [1, 2, 3, 0] rfl (hr25 (v3 + 1))
set_option maxHeartbeats 2000000 in
set_option maxRecDepth 20000 in
theorem coX12_isKept (l : Launch) (e : Nat) (he : 2 ≤ e) (v0 : Nat) (v1 : Int32) (v2 : Int32) : zCo l (e + 1) 0 0 iX12_isKept 0 [(0, .ref v0), (1, .int v1), (2, .int v2)] [] (X12_isKept v0 v1 v2) := by
  unfold X12_isKept
  refine zco_p tkX12_isKept 0 1 (pc' := 1) (L' := [(0, .ref v0), (1, .int v1), (2, .int v2)]) (S' := [.ref v0]) rfl ?_
  refine zco_gi fl_12_493 rfl (zdk (cc := cX12_isKept) (q := (1, .getfield 493, 3)) tkX12_isKept 1 rfl) (fun x1 => ?_)
  refine zco_if_eq (tgt := 8) (zdk (cc := cX12_isKept) (q := (4, .ifCond .eq 4, 3)) tkX12_isKept 2 rfl) rfl ?_ ?_
  · refine zco_p tkX12_isKept 4 1 (pc' := 9) (L' := [(0, .ref v0), (1, .int v1), (2, .int v2)]) (S' := [.ref v0]) rfl ?_
    refine zco_gr fl_12_134 rfl (zdk (cc := cX12_isKept) (q := (9, .getfield 134, 3)) tkX12_isKept 5 rfl) (fun x2 => ?_)
    refine zco_p tkX12_isKept 6 1 (pc' := 15) (L' := [(0, .ref v0), (1, .int v1), (2, .int v2)]) (S' := [.int 182, .ref x2]) rfl ?_
    refine zco_iaload (zdk (cc := cX12_isKept) (q := (15, .iaload, 1)) tkX12_isKept 7 rfl) (fun x3 => ?_)
    refine zco_p tkX12_isKept 8 1 (pc' := 18) (L' := [(0, .ref v0), (1, .int v1), (2, .int v2)]) (S' := [.int 40, .int x3]) rfl ?_
    refine zco_icmp_ne (tgt := 55) (zdk (cc := cX12_isKept) (q := (18, .if_icmp .ne 37, 3)) tkX12_isKept 9 rfl) rfl ?_ ?_
    · refine zco_p tkX12_isKept 28 1 (pc' := 56) (L' := [(0, .ref v0), (1, .int v1), (2, .int v2)]) (S' := [.ref v0]) rfl ?_
      refine zco_gr fl_12_134 rfl (zdk (cc := cX12_isKept) (q := (56, .getfield 134, 3)) tkX12_isKept 29 rfl) (fun x4 => ?_)
      refine zco_p tkX12_isKept 30 2 (pc' := 63) (L' := [(0, .ref v0), (1, .int v1), (2, .int v2)]) (S' := [.int 182, .ref x4, .int 182, .ref x4]) rfl ?_
      refine zco_iaload (zdk (cc := cX12_isKept) (q := (63, .iaload, 1)) tkX12_isKept 32 rfl) (fun x5 => ?_)
      refine zco_p tkX12_isKept 33 2 (pc' := 66) (L' := [(0, .ref v0), (1, .int v1), (2, .int v2)]) (S' := [.int (x5 + 1), .int 182, .ref x4]) rfl ?_
      refine zco_iastore (zdk (cc := cX12_isKept) (q := (66, .iastore, 1)) tkX12_isKept 35 rfl) ?_
      exact zco_sub [0, 1, 2] rfl (coX12_isKept_J67 l e he v0 v1 v2)
    · refine zco_p tkX12_isKept 10 2 (pc' := 25) (L' := [(3, .int 183), (0, .ref v0), (1, .int v1), (2, .int v2)]) (S' := []) rfl ?_
      exact zco_sub [1, 2, 3, 0] rfl (zco_fix (Lf := fun x : Int32 => [(0, .ref v0), (1, .int v1), (2, .int v2), (3, .int x)]) (Sf := fun _ => []) (fun r hr x => coX12_isKept_B25 l e he v0 v1 v2 r hr x) zFU 183)
  · exact zco_vret rfl rfl rfl (zdk (cc := cX12_isKept) (q := (7, .return_, 1)) tkX12_isKept 3 rfl)
theorem mtX12_isKept (l : Launch) (d : Nat) (hd : 3 ≤ d) (v0 : Nat) (v1 : Int32) (v2 : Int32) : zMet l d 0 0 yX12_isKept cX12_isKept 4 (Option.none : Option FieldType) [.ref v0, .int v1, .int v2] (X12_isKept v0 v1 v2) := by
  obtain ⟨e, rfl⟩ : ∃ e, d = e + 1 := ⟨d - 1, by omega⟩
  exact zmet_of (own := RX12) (ini := false) (by decide +kernel) rfl (fun _ => by contradiction) (Nat.le_of_ble_eq_true rfl) (coX12_isKept l e (by omega) v0 v1 v2)
abbrev iX12_weds : zI := (RX12, cX12_weds, 3, (Option.none : Option FieldType), false)
def tX12_weds : List (Nat × Instr × Nat) := [(0, .aload_n 0, 1), (1, .getfield 140, 3), (4, .iload_n 1, 1), (5, .iaload, 1), (6, .istore_n 2, 1), (7, .iload_n 2, 1), (8, .iconst (-1), 1), (9, .if_icmp .eq 30, 3), (12, .aload_n 0, 1), (13, .getfield 149, 3), (16, .iload_n 1, 1), (17, .baload, 1), (18, .ifCond .ne 21, 3), (21, .aload_n 0, 1), (22, .getfield 149, 3), (25, .iload_n 2, 1), (26, .baload, 1), (27, .ifCond .ne 12, 3), (30, .aload_n 0, 1), (31, .iload_n 1, 1), (32, .iload_n 2, 1), (33, .invokevirtual 496, 3), (36, .ifCond .eq 4, 3), (39, .return_, 1), (40, .aload_n 0, 1), (41, .getfield 134, 3), (44, .bipush 14, 2), (46, .iload_n 1, 1), (47, .iadd, 1), (48, .iload_n 2, 1), (49, .iastore, 1), (50, .aload_n 0, 1), (51, .getfield 134, 3), (54, .bipush 14, 2), (56, .iload_n 2, 1), (57, .iadd, 1), (58, .iload_n 1, 1), (59, .iastore, 1), (60, .aload_n 0, 1), (61, .dup, 1), (62, .getfield 500, 3), (65, .iconst 1, 1), (66, .iadd, 1), (67, .putfield 500, 3), (70, .aload_n 0, 1), (71, .iload_n 1, 1), (72, .iload_n 2, 1), (73, .invokevirtual 503, 3), (76, .return_, 1)]
set_option maxRecDepth 100000 in
theorem tkX12_weds : ∀ q ∈ tX12_weds, decode cX12_weds q.1 = .ok q.2 := by decide +kernel
theorem vmX12_weds : zVM yX12_weds cX12_weds 3 (Option.none : Option FieldType) 1 12 := ⟨kX12_weds, q_2094, q_118, q_162, ⟨_, rfl, rfl⟩, by decide +kernel, by decide⟩
set_option maxHeartbeats 2000000 in
set_option maxRecDepth 20000 in
theorem coX12_weds (l : Launch) (e : Nat) (he : 3 ≤ e) (v0 : Nat) (v1 : Int32) : zCo l (e + 1) 0 0 iX12_weds 0 [(0, .ref v0), (1, .int v1)] [] (X12_weds v0 v1) := by
  unfold X12_weds
  refine zco_p tkX12_weds 0 1 (pc' := 1) (L' := [(0, .ref v0), (1, .int v1)]) (S' := [.ref v0]) rfl ?_
  refine zco_gr fl_12_140 rfl (zdk (cc := cX12_weds) (q := (1, .getfield 140, 3)) tkX12_weds 1 rfl) (fun x1 => ?_)
  refine zco_p tkX12_weds 2 1 (pc' := 5) (L' := [(0, .ref v0), (1, .int v1)]) (S' := [.int v1, .ref x1]) rfl ?_
  refine zco_iaload (zdk (cc := cX12_weds) (q := (5, .iaload, 1)) tkX12_weds 3 rfl) (fun x2 => ?_)
  refine zco_p tkX12_weds 4 3 (pc' := 9) (L' := [(2, .int x2), (0, .ref v0), (1, .int v1)]) (S' := [.int ((-1)), .int x2]) rfl ?_
  refine zco_icmp_eq (tgt := 39) (zdk (cc := cX12_weds) (q := (9, .if_icmp .eq 30, 3)) tkX12_weds 7 rfl) rfl ?_ ?_
  · exact zco_vret rfl rfl rfl (zdk (cc := cX12_weds) (q := (39, .return_, 1)) tkX12_weds 23 rfl)
  · refine zco_p tkX12_weds 8 1 (pc' := 13) (L' := [(2, .int x2), (0, .ref v0), (1, .int v1)]) (S' := [.ref v0]) rfl ?_
    refine zco_gr fl_12_149 rfl (zdk (cc := cX12_weds) (q := (13, .getfield 149, 3)) tkX12_weds 9 rfl) (fun x3 => ?_)
    refine zco_p tkX12_weds 10 1 (pc' := 17) (L' := [(2, .int x2), (0, .ref v0), (1, .int v1)]) (S' := [.int v1, .ref x3]) rfl ?_
    refine zco_baload (zdk (cc := cX12_weds) (q := (17, .baload, 1)) tkX12_weds 11 rfl) (fun x4 => ?_)
    refine zco_if_ne (tgt := 39) (zdk (cc := cX12_weds) (q := (18, .ifCond .ne 21, 3)) tkX12_weds 12 rfl) rfl ?_ ?_
    · exact zco_vret rfl rfl rfl (zdk (cc := cX12_weds) (q := (39, .return_, 1)) tkX12_weds 23 rfl)
    · refine zco_p tkX12_weds 13 1 (pc' := 22) (L' := [(2, .int x2), (0, .ref v0), (1, .int v1)]) (S' := [.ref v0]) rfl ?_
      refine zco_gr fl_12_149 rfl (zdk (cc := cX12_weds) (q := (22, .getfield 149, 3)) tkX12_weds 14 rfl) (fun x5 => ?_)
      refine zco_p tkX12_weds 15 1 (pc' := 26) (L' := [(2, .int x2), (0, .ref v0), (1, .int v1)]) (S' := [.int x2, .ref x5]) rfl ?_
      refine zco_baload (zdk (cc := cX12_weds) (q := (26, .baload, 1)) tkX12_weds 16 rfl) (fun x6 => ?_)
      refine zco_if_ne (tgt := 39) (zdk (cc := cX12_weds) (q := (27, .ifCond .ne 12, 3)) tkX12_weds 17 rfl) rfl ?_ ?_
      · exact zco_vret rfl rfl rfl (zdk (cc := cX12_weds) (q := (39, .return_, 1)) tkX12_weds 23 rfl)
      · refine zco_p tkX12_weds 18 3 (pc' := 33) (L' := [(2, .int x2), (0, .ref v0), (1, .int v1)]) (S' := [.int x2, .int v1, .ref v0]) rfl ?_
        refine zco_Vi (rc := 0) (rs := 0) (mc := 0) (ms := 0) (As := [.int v1, .int x2]) (S := []) vmX12_areKin (mtX12_areKin l e (by omega) v0 v1 x2) q_2059 rfl rfl (Nat.le_of_ble_eq_true rfl) (zdk (cc := cX12_weds) (q := (33, .invokevirtual 496, 3)) tkX12_weds 21 rfl) (fun y7 => ?_)
        refine zco_if_eq (tgt := 40) (zdk (cc := cX12_weds) (q := (36, .ifCond .eq 4, 3)) tkX12_weds 22 rfl) rfl ?_ ?_
        · refine zco_p tkX12_weds 24 1 (pc' := 41) (L' := [(2, .int x2), (0, .ref v0), (1, .int v1)]) (S' := [.ref v0]) rfl ?_
          refine zco_gr fl_12_134 rfl (zdk (cc := cX12_weds) (q := (41, .getfield 134, 3)) tkX12_weds 25 rfl) (fun x8 => ?_)
          refine zco_p tkX12_weds 26 4 (pc' := 49) (L' := [(2, .int x2), (0, .ref v0), (1, .int v1)]) (S' := [.int x2, .int (14 + v1), .ref x8]) rfl ?_
          refine zco_iastore (zdk (cc := cX12_weds) (q := (49, .iastore, 1)) tkX12_weds 30 rfl) ?_
          refine zco_p tkX12_weds 31 1 (pc' := 51) (L' := [(2, .int x2), (0, .ref v0), (1, .int v1)]) (S' := [.ref v0]) rfl ?_
          refine zco_gr fl_12_134 rfl (zdk (cc := cX12_weds) (q := (51, .getfield 134, 3)) tkX12_weds 32 rfl) (fun x9 => ?_)
          refine zco_p tkX12_weds 33 4 (pc' := 59) (L' := [(2, .int x2), (0, .ref v0), (1, .int v1)]) (S' := [.int v1, .int (14 + x2), .ref x9]) rfl ?_
          refine zco_iastore (zdk (cc := cX12_weds) (q := (59, .iastore, 1)) tkX12_weds 37 rfl) ?_
          refine zco_p tkX12_weds 38 2 (pc' := 62) (L' := [(2, .int x2), (0, .ref v0), (1, .int v1)]) (S' := [.ref v0, .ref v0]) rfl ?_
          refine zco_gi fl_12_500 rfl (zdk (cc := cX12_weds) (q := (62, .getfield 500, 3)) tkX12_weds 40 rfl) (fun x10 => ?_)
          refine zco_p tkX12_weds 41 2 (pc' := 67) (L' := [(2, .int x2), (0, .ref v0), (1, .int v1)]) (S' := [.int (x10 + 1), .ref v0]) rfl ?_
          refine zco_pi fl_12_500 rfl rfl (zdk (cc := cX12_weds) (q := (67, .putfield 500, 3)) tkX12_weds 43 rfl) ?_
          refine zco_p tkX12_weds 44 3 (pc' := 73) (L' := [(2, .int x2), (0, .ref v0), (1, .int v1)]) (S' := [.int x2, .int v1, .ref v0]) rfl ?_
          refine zco_Vv (rc := 0) (rs := 0) (mc := 0) (ms := 0) (As := [.int v1, .int x2]) (S := []) vmX12_isKept (mtX12_isKept l e (by omega) v0 v1 x2) q_2096 rfl rfl (Nat.le_of_ble_eq_true rfl) (zdk (cc := cX12_weds) (q := (73, .invokevirtual 503, 3)) tkX12_weds 47 rfl) ?_
          exact zco_vret rfl rfl rfl (zdk (cc := cX12_weds) (q := (76, .return_, 1)) tkX12_weds 48 rfl)
        · exact zco_vret rfl rfl rfl (zdk (cc := cX12_weds) (q := (39, .return_, 1)) tkX12_weds 23 rfl)
theorem mtX12_weds (l : Launch) (d : Nat) (hd : 4 ≤ d) (v0 : Nat) (v1 : Int32) : zMet l d 0 0 yX12_weds cX12_weds 3 (Option.none : Option FieldType) [.ref v0, .int v1] (X12_weds v0 v1) := by
  obtain ⟨e, rfl⟩ : ∃ e, d = e + 1 := ⟨d - 1, by omega⟩
  exact zmet_of (own := RX12) (ini := false) (by decide +kernel) rfl (fun _ => by contradiction) (Nat.le_of_ble_eq_true rfl) (coX12_weds l e (by omega) v0 v1)
abbrev iX12_roundGoes : zI := (RX12, cX12_roundGoes, 3, (Option.none : Option FieldType), false)
def tX12_roundGoes : List (Nat × Instr × Nat) := [(0, .aload_n 0, 1), (1, .invokevirtual 506, 3), (4, .iconst 0, 1), (5, .istore_n 2, 1), (6, .iload_n 2, 1), (7, .bipush 12, 2), (9, .if_icmp .ge 69, 3), (12, .aload_n 0, 1), (13, .getfield 140, 3), (16, .iload_n 2, 1), (17, .iaload, 1), (18, .iconst (-1), 1), (19, .if_icmp .ne 6, 3), (22, .goto 50, 3), (25, .aload_n 0, 1), (26, .getfield 149, 3), (29, .iload_n 2, 1), (30, .iload_n 2, 1), (31, .iload_n 1, 1), (32, .if_icmp .eq 17, 3), (35, .aload_n 0, 1), (36, .iload_n 2, 1), (37, .aload_n 0, 1), (38, .getfield 140, 3), (41, .iload_n 2, 1), (42, .iaload, 1), (43, .invokevirtual 509, 3), (46, .ifCond .eq 7, 3), (49, .iconst 1, 1), (50, .goto 4, 3), (53, .iconst 0, 1), (54, .bastore, 1), (55, .aload_n 0, 1), (56, .getfield 152, 3), (59, .iload_n 2, 1), (60, .aload_n 0, 1), (61, .iload_n 2, 1), (62, .aload_n 0, 1), (63, .getfield 140, 3), (66, .iload_n 2, 1), (67, .iaload, 1), (68, .invokevirtual 512, 3), (71, .iastore, 1), (72, .iinc 2 1, 3), (75, .goto (-69), 3), (78, .iconst 0, 1), (79, .istore_n 2, 1), (80, .iload_n 2, 1), (81, .bipush 6, 2), (83, .if_icmp .ge 14, 3), (86, .aload_n 0, 1), (87, .iload_n 2, 1), (88, .invokevirtual 515, 3), (91, .iinc 2 1, 3), (94, .goto (-14), 3), (97, .iconst 0, 1), (98, .istore_n 2, 1), (99, .iload_n 2, 1), (100, .bipush 12, 2), (102, .if_icmp .ge 41, 3), (105, .aload_n 0, 1), (106, .getfield 140, 3), (109, .iload_n 2, 1), (110, .iaload, 1), (111, .iconst (-1), 1), (112, .if_icmp .eq 25, 3), (115, .aload_n 0, 1), (116, .getfield 134, 3), (119, .aload_n 0, 1), (120, .iload_n 2, 1), (121, .aload_n 0, 1), (122, .getfield 140, 3), (125, .iload_n 2, 1), (126, .iaload, 1), (127, .invokevirtual 435, 3), (130, .aload_n 0, 1), (131, .getfield 152, 3), (134, .iload_n 2, 1), (135, .iaload, 1), (136, .iastore, 1), (137, .iinc 2 1, 3), (140, .goto (-41), 3), (143, .aload_n 0, 1), (144, .getfield 134, 3), (147, .iconst 1, 1), (148, .dup2, 1), (149, .iaload, 1), (150, .iconst 1, 1), (151, .iadd, 1), (152, .iastore, 1), (153, .aload_n 0, 1), (154, .getfield 134, 3), (157, .iconst 1, 1), (158, .iaload, 1), (159, .aload_n 0, 1), (160, .invokevirtual 518, 3), (163, .if_icmp .ge 4, 3), (166, .return_, 1), (167, .aload_n 0, 1), (168, .getfield 134, 3), (171, .iconst 1, 1), (172, .iconst 0, 1), (173, .iastore, 1), (174, .aload_n 0, 1), (175, .getfield 134, 3), (178, .iconst 0, 1), (179, .dup2, 1), (180, .iaload, 1), (181, .iconst 1, 1), (182, .iadd, 1), (183, .iastore, 1), (184, .iconst 0, 1), (185, .istore_n 2, 1), (186, .iload_n 2, 1), (187, .aload_n 0, 1), (188, .invokevirtual 419, 3), (191, .if_icmp .ge 45, 3), (194, .aload_n 0, 1), (195, .iload_n 2, 1), (196, .invokevirtual 521, 3), (199, .iconst (-1), 1), (200, .if_icmp .ne 30, 3), (203, .aload_n 0, 1), (204, .iload_n 2, 1), (205, .invokevirtual 524, 3), (208, .bipush 99, 2), (210, .if_icmp .ge 20, 3), (213, .aload_n 0, 1), (214, .getfield 134, 3), (217, .bipush 26, 2), (219, .aload_n 0, 1), (220, .iload_n 2, 1), (221, .invokevirtual 429, 3), (224, .iadd, 1), (225, .dup2, 1), (226, .iaload, 1), (227, .iconst 1, 1), (228, .iadd, 1), (229, .iastore, 1), (230, .iinc 2 1, 3), (233, .goto (-47), 3), (236, .return_, 1)]
set_option maxRecDepth 100000 in
theorem tkX12_roundGoes : ∀ q ∈ tX12_roundGoes, decode cX12_roundGoes q.1 = .ok q.2 := by decide +kernel
theorem vmX12_roundGoes : zVM yX12_roundGoes cX12_roundGoes 3 (Option.none : Option FieldType) 1 12 := ⟨kX12_roundGoes, q_2086, q_116, q_162, ⟨_, rfl, rfl⟩, by decide +kernel, by decide⟩
set_option maxHeartbeats 2000000 in
set_option maxRecDepth 20000 in
theorem coX12_roundGoes_J230 (l : Launch) (e : Nat) (he : 7 ≤ e) (v0 : Nat) (v2 : Int32) (r186 : Int32 → zM) (hr186 : ∀ x : Int32, zCo l (e + 1) 0 0 iX12_roundGoes 186 [(0, .ref v0), (2, .int x)] [] (r186 x)) : zCo l (e + 1) 0 0 iX12_roundGoes 230 [(0, .ref v0), (2, .int v2)] [] (X12_roundGoes_J230 r186 v0 v2) := by
  unfold X12_roundGoes_J230
  refine zco_p tkX12_roundGoes 139 2 (pc' := 186) (L' := [(2, .int (v2 + 1)), (0, .ref v0)]) (S' := []) rfl ?_
  exact zco_sub [1, 0] rfl (hr186 (v2 + 1))
set_option maxHeartbeats 2000000 in
set_option maxRecDepth 20000 in
theorem coX12_roundGoes_B186 (l : Launch) (e : Nat) (he : 7 ≤ e) (v0 : Nat) (r186 : Int32 → zM) (hr186 : ∀ x : Int32, zCo l (e + 1) 0 0 iX12_roundGoes 186 [(0, .ref v0), (2, .int x)] [] (r186 x)) (v2 : Int32) : zCo l (e + 1) 0 0 iX12_roundGoes 186 [(0, .ref v0), (2, .int v2)] [] (X12_roundGoes_B186 v0 r186 v2) := by
  unfold X12_roundGoes_B186
  refine zco_p tkX12_roundGoes 113 2 (pc' := 188) (L' := [(0, .ref v0), (2, .int v2)]) (S' := [.ref v0, .int v2]) rfl ?_
  refine zco_Vi (rc := 0) (rs := 0) (mc := 0) (ms := 0) (As := []) (S := [.int v2]) vmX12_peopleMany (mtX12_peopleMany l e (by omega) v0) q_1940 rfl rfl (Nat.le_of_ble_eq_true rfl) (zdk (cc := cX12_roundGoes) (q := (188, .invokevirtual 419, 3)) tkX12_roundGoes 115 rfl) (fun y1 => ?_)
  refine zco_icmp_ge (tgt := 236) (zdk (cc := cX12_roundGoes) (q := (191, .if_icmp .ge 45, 3)) tkX12_roundGoes 116 rfl) rfl ?_ ?_
  · exact zco_vret rfl rfl rfl (zdk (cc := cX12_roundGoes) (q := (236, .return_, 1)) tkX12_roundGoes 141 rfl)
  · refine zco_p tkX12_roundGoes 117 2 (pc' := 196) (L' := [(0, .ref v0), (2, .int v2)]) (S' := [.int v2, .ref v0]) rfl ?_
    refine zco_Vi (rc := 0) (rs := 0) (mc := 0) (ms := 0) (As := [.int v2]) (S := []) vmX12_wedTo (mtX12_wedTo l e (by omega) v0 v2) q_1968 rfl rfl (Nat.le_of_ble_eq_true rfl) (zdk (cc := cX12_roundGoes) (q := (196, .invokevirtual 521, 3)) tkX12_roundGoes 119 rfl) (fun y2 => ?_)
    refine zco_p tkX12_roundGoes 120 1 (pc' := 200) (L' := [(0, .ref v0), (2, .int v2)]) (S' := [.int ((-1)), .int y2]) rfl ?_
    refine zco_icmp_ne (tgt := 230) (zdk (cc := cX12_roundGoes) (q := (200, .if_icmp .ne 30, 3)) tkX12_roundGoes 121 rfl) rfl ?_ ?_
    · exact zco_sub [0, 1] rfl (coX12_roundGoes_J230 l e he v0 v2 r186 hr186)
    · refine zco_p tkX12_roundGoes 122 2 (pc' := 205) (L' := [(0, .ref v0), (2, .int v2)]) (S' := [.int v2, .ref v0]) rfl ?_
      refine zco_Vi (rc := 0) (rs := 0) (mc := 0) (ms := 0) (As := [.int v2]) (S := []) vmX12_waitedOf (mtX12_waitedOf l e (by omega) v0 v2) q_1980 rfl rfl (Nat.le_of_ble_eq_true rfl) (zdk (cc := cX12_roundGoes) (q := (205, .invokevirtual 524, 3)) tkX12_roundGoes 124 rfl) (fun y3 => ?_)
      refine zco_p tkX12_roundGoes 125 1 (pc' := 210) (L' := [(0, .ref v0), (2, .int v2)]) (S' := [.int 99, .int y3]) rfl ?_
      refine zco_icmp_ge (tgt := 230) (zdk (cc := cX12_roundGoes) (q := (210, .if_icmp .ge 20, 3)) tkX12_roundGoes 126 rfl) rfl ?_ ?_
      · exact zco_sub [0, 1] rfl (coX12_roundGoes_J230 l e he v0 v2 r186 hr186)
      · refine zco_p tkX12_roundGoes 127 1 (pc' := 214) (L' := [(0, .ref v0), (2, .int v2)]) (S' := [.ref v0]) rfl ?_
        refine zco_gr fl_12_134 rfl (zdk (cc := cX12_roundGoes) (q := (214, .getfield 134, 3)) tkX12_roundGoes 128 rfl) (fun x4 => ?_)
        refine zco_p tkX12_roundGoes 129 3 (pc' := 221) (L' := [(0, .ref v0), (2, .int v2)]) (S' := [.int v2, .ref v0, .int 26, .ref x4]) rfl ?_
        refine zco_Vi (rc := 0) (rs := 0) (mc := 0) (ms := 0) (As := [.int v2]) (S := [.int 26, .ref x4]) vmX12_codeOf (mtX12_codeOf l e (by omega) v0 v2) q_1948 rfl rfl (Nat.le_of_ble_eq_true rfl) (zdk (cc := cX12_roundGoes) (q := (221, .invokevirtual 429, 3)) tkX12_roundGoes 132 rfl) (fun y5 => ?_)
        refine zco_p tkX12_roundGoes 133 2 (pc' := 226) (L' := [(0, .ref v0), (2, .int v2)]) (S' := [.int (26 + y5), .ref x4, .int (26 + y5), .ref x4]) rfl ?_
        refine zco_iaload (zdk (cc := cX12_roundGoes) (q := (226, .iaload, 1)) tkX12_roundGoes 135 rfl) (fun x6 => ?_)
        refine zco_p tkX12_roundGoes 136 2 (pc' := 229) (L' := [(0, .ref v0), (2, .int v2)]) (S' := [.int (x6 + 1), .int (26 + y5), .ref x4]) rfl ?_
        refine zco_iastore (zdk (cc := cX12_roundGoes) (q := (229, .iastore, 1)) tkX12_roundGoes 138 rfl) ?_
        exact zco_sub [0, 1] rfl (coX12_roundGoes_J230 l e he v0 v2 r186 hr186)
set_option maxHeartbeats 2000000 in
set_option maxRecDepth 20000 in
theorem coX12_roundGoes_J143 (l : Launch) (e : Nat) (he : 7 ≤ e) (v0 : Nat) : zCo l (e + 1) 0 0 iX12_roundGoes 143 [(0, .ref v0)] [] (X12_roundGoes_J143 v0) := by
  unfold X12_roundGoes_J143
  refine zco_p tkX12_roundGoes 82 1 (pc' := 144) (L' := [(0, .ref v0)]) (S' := [.ref v0]) rfl ?_
  refine zco_gr fl_12_134 rfl (zdk (cc := cX12_roundGoes) (q := (144, .getfield 134, 3)) tkX12_roundGoes 83 rfl) (fun x1 => ?_)
  refine zco_p tkX12_roundGoes 84 2 (pc' := 149) (L' := [(0, .ref v0)]) (S' := [.int 1, .ref x1, .int 1, .ref x1]) rfl ?_
  refine zco_iaload (zdk (cc := cX12_roundGoes) (q := (149, .iaload, 1)) tkX12_roundGoes 86 rfl) (fun x2 => ?_)
  refine zco_p tkX12_roundGoes 87 2 (pc' := 152) (L' := [(0, .ref v0)]) (S' := [.int (x2 + 1), .int 1, .ref x1]) rfl ?_
  refine zco_iastore (zdk (cc := cX12_roundGoes) (q := (152, .iastore, 1)) tkX12_roundGoes 89 rfl) ?_
  refine zco_p tkX12_roundGoes 90 1 (pc' := 154) (L' := [(0, .ref v0)]) (S' := [.ref v0]) rfl ?_
  refine zco_gr fl_12_134 rfl (zdk (cc := cX12_roundGoes) (q := (154, .getfield 134, 3)) tkX12_roundGoes 91 rfl) (fun x3 => ?_)
  refine zco_p tkX12_roundGoes 92 1 (pc' := 158) (L' := [(0, .ref v0)]) (S' := [.int 1, .ref x3]) rfl ?_
  refine zco_iaload (zdk (cc := cX12_roundGoes) (q := (158, .iaload, 1)) tkX12_roundGoes 93 rfl) (fun x4 => ?_)
  refine zco_p tkX12_roundGoes 94 1 (pc' := 160) (L' := [(0, .ref v0)]) (S' := [.ref v0, .int x4]) rfl ?_
  refine zco_Vi (rc := 0) (rs := 0) (mc := 0) (ms := 0) (As := []) (S := [.int x4]) vmX12_roundMany (mtX12_roundMany l e (by omega) v0) q_1924 rfl rfl (Nat.le_of_ble_eq_true rfl) (zdk (cc := cX12_roundGoes) (q := (160, .invokevirtual 518, 3)) tkX12_roundGoes 95 rfl) (fun y5 => ?_)
  refine zco_icmp_ge (tgt := 167) (zdk (cc := cX12_roundGoes) (q := (163, .if_icmp .ge 4, 3)) tkX12_roundGoes 96 rfl) rfl ?_ ?_
  · refine zco_p tkX12_roundGoes 98 1 (pc' := 168) (L' := [(0, .ref v0)]) (S' := [.ref v0]) rfl ?_
    refine zco_gr fl_12_134 rfl (zdk (cc := cX12_roundGoes) (q := (168, .getfield 134, 3)) tkX12_roundGoes 99 rfl) (fun x6 => ?_)
    refine zco_p tkX12_roundGoes 100 2 (pc' := 173) (L' := [(0, .ref v0)]) (S' := [.int 0, .int 1, .ref x6]) rfl ?_
    refine zco_iastore (zdk (cc := cX12_roundGoes) (q := (173, .iastore, 1)) tkX12_roundGoes 102 rfl) ?_
    refine zco_p tkX12_roundGoes 103 1 (pc' := 175) (L' := [(0, .ref v0)]) (S' := [.ref v0]) rfl ?_
    refine zco_gr fl_12_134 rfl (zdk (cc := cX12_roundGoes) (q := (175, .getfield 134, 3)) tkX12_roundGoes 104 rfl) (fun x7 => ?_)
    refine zco_p tkX12_roundGoes 105 2 (pc' := 180) (L' := [(0, .ref v0)]) (S' := [.int 0, .ref x7, .int 0, .ref x7]) rfl ?_
    refine zco_iaload (zdk (cc := cX12_roundGoes) (q := (180, .iaload, 1)) tkX12_roundGoes 107 rfl) (fun x8 => ?_)
    refine zco_p tkX12_roundGoes 108 2 (pc' := 183) (L' := [(0, .ref v0)]) (S' := [.int (x8 + 1), .int 0, .ref x7]) rfl ?_
    refine zco_iastore (zdk (cc := cX12_roundGoes) (q := (183, .iastore, 1)) tkX12_roundGoes 110 rfl) ?_
    refine zco_p tkX12_roundGoes 111 2 (pc' := 186) (L' := [(2, .int 0), (0, .ref v0)]) (S' := []) rfl ?_
    exact zco_sub [1, 0] rfl (zco_fix (Lf := fun x : Int32 => [(0, .ref v0), (2, .int x)]) (Sf := fun _ => []) (fun r hr x => coX12_roundGoes_B186 l e he v0 r hr x) zFU 0)
  · exact zco_vret rfl rfl rfl (zdk (cc := cX12_roundGoes) (q := (166, .return_, 1)) tkX12_roundGoes 97 rfl)
set_option maxHeartbeats 2000000 in
set_option maxRecDepth 20000 in
theorem coX12_roundGoes_J137 (l : Launch) (e : Nat) (he : 7 ≤ e) (v0 : Nat) (v2 : Int32) (r99 : Int32 → zM) (hr99 : ∀ x : Int32, zCo l (e + 1) 0 0 iX12_roundGoes 99 [(0, .ref v0), (2, .int x)] [] (r99 x)) : zCo l (e + 1) 0 0 iX12_roundGoes 137 [(0, .ref v0), (2, .int v2)] [] (X12_roundGoes_J137 r99 v0 v2) := by
  unfold X12_roundGoes_J137
  refine zco_p tkX12_roundGoes 80 2 (pc' := 99) (L' := [(2, .int (v2 + 1)), (0, .ref v0)]) (S' := []) rfl ?_
  exact zco_sub [1, 0] rfl (hr99 (v2 + 1))
set_option maxHeartbeats 2000000 in
set_option maxRecDepth 20000 in
theorem coX12_roundGoes_B99 (l : Launch) (e : Nat) (he : 7 ≤ e) (v0 : Nat) (r99 : Int32 → zM) (hr99 : ∀ x : Int32, zCo l (e + 1) 0 0 iX12_roundGoes 99 [(0, .ref v0), (2, .int x)] [] (r99 x)) (v2 : Int32) : zCo l (e + 1) 0 0 iX12_roundGoes 99 [(0, .ref v0), (2, .int v2)] [] (X12_roundGoes_B99 v0 r99 v2) := by
  unfold X12_roundGoes_B99
  refine zco_p tkX12_roundGoes 57 2 (pc' := 102) (L' := [(0, .ref v0), (2, .int v2)]) (S' := [.int 12, .int v2]) rfl ?_
  refine zco_icmp_ge (tgt := 143) (zdk (cc := cX12_roundGoes) (q := (102, .if_icmp .ge 41, 3)) tkX12_roundGoes 59 rfl) rfl ?_ ?_
  · exact zco_sub [0] rfl (coX12_roundGoes_J143 l e he v0)
  · refine zco_p tkX12_roundGoes 60 1 (pc' := 106) (L' := [(0, .ref v0), (2, .int v2)]) (S' := [.ref v0]) rfl ?_
    refine zco_gr fl_12_140 rfl (zdk (cc := cX12_roundGoes) (q := (106, .getfield 140, 3)) tkX12_roundGoes 61 rfl) (fun x1 => ?_)
    refine zco_p tkX12_roundGoes 62 1 (pc' := 110) (L' := [(0, .ref v0), (2, .int v2)]) (S' := [.int v2, .ref x1]) rfl ?_
    refine zco_iaload (zdk (cc := cX12_roundGoes) (q := (110, .iaload, 1)) tkX12_roundGoes 63 rfl) (fun x2 => ?_)
    refine zco_p tkX12_roundGoes 64 1 (pc' := 112) (L' := [(0, .ref v0), (2, .int v2)]) (S' := [.int ((-1)), .int x2]) rfl ?_
    refine zco_icmp_eq (tgt := 137) (zdk (cc := cX12_roundGoes) (q := (112, .if_icmp .eq 25, 3)) tkX12_roundGoes 65 rfl) rfl ?_ ?_
    · exact zco_sub [0, 1] rfl (coX12_roundGoes_J137 l e he v0 v2 r99 hr99)
    · refine zco_p tkX12_roundGoes 66 1 (pc' := 116) (L' := [(0, .ref v0), (2, .int v2)]) (S' := [.ref v0]) rfl ?_
      refine zco_gr fl_12_134 rfl (zdk (cc := cX12_roundGoes) (q := (116, .getfield 134, 3)) tkX12_roundGoes 67 rfl) (fun x3 => ?_)
      refine zco_p tkX12_roundGoes 68 3 (pc' := 122) (L' := [(0, .ref v0), (2, .int v2)]) (S' := [.ref v0, .int v2, .ref v0, .ref x3]) rfl ?_
      refine zco_gr fl_12_140 rfl (zdk (cc := cX12_roundGoes) (q := (122, .getfield 140, 3)) tkX12_roundGoes 71 rfl) (fun x4 => ?_)
      refine zco_p tkX12_roundGoes 72 1 (pc' := 126) (L' := [(0, .ref v0), (2, .int v2)]) (S' := [.int v2, .ref x4, .int v2, .ref v0, .ref x3]) rfl ?_
      refine zco_iaload (zdk (cc := cX12_roundGoes) (q := (126, .iaload, 1)) tkX12_roundGoes 73 rfl) (fun x5 => ?_)
      refine zco_Vi (rc := 0) (rs := 0) (mc := 0) (ms := 0) (As := [.int v2, .int x5]) (S := [.ref x3]) vmX12_knowingAt (mtX12_knowingAt l e (by omega) v0 v2 x5) q_2012 rfl rfl (Nat.le_of_ble_eq_true rfl) (zdk (cc := cX12_roundGoes) (q := (127, .invokevirtual 435, 3)) tkX12_roundGoes 74 rfl) (fun y6 => ?_)
      refine zco_p tkX12_roundGoes 75 1 (pc' := 131) (L' := [(0, .ref v0), (2, .int v2)]) (S' := [.ref v0, .int y6, .ref x3]) rfl ?_
      refine zco_gr fl_12_152 rfl (zdk (cc := cX12_roundGoes) (q := (131, .getfield 152, 3)) tkX12_roundGoes 76 rfl) (fun x7 => ?_)
      refine zco_p tkX12_roundGoes 77 1 (pc' := 135) (L' := [(0, .ref v0), (2, .int v2)]) (S' := [.int v2, .ref x7, .int y6, .ref x3]) rfl ?_
      refine zco_iaload (zdk (cc := cX12_roundGoes) (q := (135, .iaload, 1)) tkX12_roundGoes 78 rfl) (fun x8 => ?_)
      refine zco_iastore (zdk (cc := cX12_roundGoes) (q := (136, .iastore, 1)) tkX12_roundGoes 79 rfl) ?_
      exact zco_sub [0, 1] rfl (coX12_roundGoes_J137 l e he v0 v2 r99 hr99)
set_option maxHeartbeats 2000000 in
set_option maxRecDepth 20000 in
theorem coX12_roundGoes_J97 (l : Launch) (e : Nat) (he : 7 ≤ e) (v0 : Nat) : zCo l (e + 1) 0 0 iX12_roundGoes 97 [(0, .ref v0)] [] (X12_roundGoes_J97 v0) := by
  unfold X12_roundGoes_J97
  refine zco_p tkX12_roundGoes 55 2 (pc' := 99) (L' := [(2, .int 0), (0, .ref v0)]) (S' := []) rfl ?_
  exact zco_sub [1, 0] rfl (zco_fix (Lf := fun x : Int32 => [(0, .ref v0), (2, .int x)]) (Sf := fun _ => []) (fun r hr x => coX12_roundGoes_B99 l e he v0 r hr x) zFU 0)
set_option maxHeartbeats 2000000 in
set_option maxRecDepth 20000 in
theorem coX12_roundGoes_B80 (l : Launch) (e : Nat) (he : 7 ≤ e) (v0 : Nat) (r80 : Int32 → zM) (hr80 : ∀ x : Int32, zCo l (e + 1) 0 0 iX12_roundGoes 80 [(0, .ref v0), (2, .int x)] [] (r80 x)) (v2 : Int32) : zCo l (e + 1) 0 0 iX12_roundGoes 80 [(0, .ref v0), (2, .int v2)] [] (X12_roundGoes_B80 v0 r80 v2) := by
  unfold X12_roundGoes_B80
  refine zco_p tkX12_roundGoes 47 2 (pc' := 83) (L' := [(0, .ref v0), (2, .int v2)]) (S' := [.int 6, .int v2]) rfl ?_
  refine zco_icmp_ge (tgt := 97) (zdk (cc := cX12_roundGoes) (q := (83, .if_icmp .ge 14, 3)) tkX12_roundGoes 49 rfl) rfl ?_ ?_
  · exact zco_sub [0] rfl (coX12_roundGoes_J97 l e he v0)
  · refine zco_p tkX12_roundGoes 50 2 (pc' := 88) (L' := [(0, .ref v0), (2, .int v2)]) (S' := [.int v2, .ref v0]) rfl ?_
    refine zco_Vv (rc := 0) (rs := 0) (mc := 0) (ms := 0) (As := [.int v2]) (S := []) vmX12_weds (mtX12_weds l e (by omega) v0 v2) q_2092 rfl rfl (Nat.le_of_ble_eq_true rfl) (zdk (cc := cX12_roundGoes) (q := (88, .invokevirtual 515, 3)) tkX12_roundGoes 52 rfl) ?_
    refine zco_p tkX12_roundGoes 53 2 (pc' := 80) (L' := [(2, .int (v2 + 1)), (0, .ref v0)]) (S' := []) rfl ?_
    exact zco_sub [1, 0] rfl (hr80 (v2 + 1))
set_option maxHeartbeats 2000000 in
set_option maxRecDepth 20000 in
theorem coX12_roundGoes_J78 (l : Launch) (e : Nat) (he : 7 ≤ e) (v0 : Nat) : zCo l (e + 1) 0 0 iX12_roundGoes 78 [(0, .ref v0)] [] (X12_roundGoes_J78 v0) := by
  unfold X12_roundGoes_J78
  refine zco_p tkX12_roundGoes 45 2 (pc' := 80) (L' := [(2, .int 0), (0, .ref v0)]) (S' := []) rfl ?_
  exact zco_sub [1, 0] rfl (zco_fix (Lf := fun x : Int32 => [(0, .ref v0), (2, .int x)]) (Sf := fun _ => []) (fun r hr x => coX12_roundGoes_B80 l e he v0 r hr x) zFU 0)
set_option maxHeartbeats 2000000 in
set_option maxRecDepth 20000 in
theorem coX12_roundGoes_J72 (l : Launch) (e : Nat) (he : 7 ≤ e) (v0 : Nat) (v1 : Int32) (v2 : Int32) (r6 : Int32 → zM) (hr6 : ∀ x : Int32, zCo l (e + 1) 0 0 iX12_roundGoes 6 [(0, .ref v0), (1, .int v1), (2, .int x)] [] (r6 x)) : zCo l (e + 1) 0 0 iX12_roundGoes 72 [(0, .ref v0), (1, .int v1), (2, .int v2)] [] (X12_roundGoes_J72 r6 v0 v1 v2) := by
  unfold X12_roundGoes_J72
  refine zco_p tkX12_roundGoes 43 2 (pc' := 6) (L' := [(2, .int (v2 + 1)), (0, .ref v0), (1, .int v1)]) (S' := []) rfl ?_
  exact zco_sub [1, 2, 0] rfl (hr6 (v2 + 1))
set_option maxHeartbeats 2000000 in
set_option maxRecDepth 20000 in
theorem coX12_roundGoes_J54 (l : Launch) (e : Nat) (he : 7 ≤ e) (v0 : Nat) (v1 : Int32) (v2 : Int32) (r6 : Int32 → zM) (hr6 : ∀ x : Int32, zCo l (e + 1) 0 0 iX12_roundGoes 6 [(0, .ref v0), (1, .int v1), (2, .int x)] [] (r6 x)) (s0 : Int32) (s1 : Int32) (s2 : Nat) : zCo l (e + 1) 0 0 iX12_roundGoes 54 [(0, .ref v0), (1, .int v1), (2, .int v2)] [.int s0, .int s1, .ref s2] (X12_roundGoes_J54 r6 v0 v1 v2 s0 s1 s2) := by
  unfold X12_roundGoes_J54
  refine zco_bastore (zdk (cc := cX12_roundGoes) (q := (54, .bastore, 1)) tkX12_roundGoes 31 rfl) ?_
  refine zco_p tkX12_roundGoes 32 1 (pc' := 56) (L' := [(0, .ref v0), (1, .int v1), (2, .int v2)]) (S' := [.ref v0]) rfl ?_
  refine zco_gr fl_12_152 rfl (zdk (cc := cX12_roundGoes) (q := (56, .getfield 152, 3)) tkX12_roundGoes 33 rfl) (fun x1 => ?_)
  refine zco_p tkX12_roundGoes 34 4 (pc' := 63) (L' := [(0, .ref v0), (1, .int v1), (2, .int v2)]) (S' := [.ref v0, .int v2, .ref v0, .int v2, .ref x1]) rfl ?_
  refine zco_gr fl_12_140 rfl (zdk (cc := cX12_roundGoes) (q := (63, .getfield 140, 3)) tkX12_roundGoes 38 rfl) (fun x2 => ?_)
  refine zco_p tkX12_roundGoes 39 1 (pc' := 67) (L' := [(0, .ref v0), (1, .int v1), (2, .int v2)]) (S' := [.int v2, .ref x2, .int v2, .ref v0, .int v2, .ref x1]) rfl ?_
  refine zco_iaload (zdk (cc := cX12_roundGoes) (q := (67, .iaload, 1)) tkX12_roundGoes 40 rfl) (fun x3 => ?_)
  refine zco_Vi (rc := 0) (rs := 0) (mc := 0) (ms := 0) (As := [.int v2, .int x3]) (S := [.int v2, .ref x1]) vmX12_learnt (mtX12_learnt l e (by omega) v0 v2 x3) q_2088 rfl rfl (Nat.le_of_ble_eq_true rfl) (zdk (cc := cX12_roundGoes) (q := (68, .invokevirtual 512, 3)) tkX12_roundGoes 41 rfl) (fun y4 => ?_)
  refine zco_iastore (zdk (cc := cX12_roundGoes) (q := (71, .iastore, 1)) tkX12_roundGoes 42 rfl) ?_
  exact zco_sub [0, 1, 2] rfl (coX12_roundGoes_J72 l e he v0 v1 v2 r6 hr6)
set_option maxHeartbeats 2000000 in
set_option maxRecDepth 20000 in
theorem coX12_roundGoes_J49 (l : Launch) (e : Nat) (he : 7 ≤ e) (v0 : Nat) (v1 : Int32) (v2 : Int32) (r6 : Int32 → zM) (hr6 : ∀ x : Int32, zCo l (e + 1) 0 0 iX12_roundGoes 6 [(0, .ref v0), (1, .int v1), (2, .int x)] [] (r6 x)) (s0 : Int32) (s1 : Nat) : zCo l (e + 1) 0 0 iX12_roundGoes 49 [(0, .ref v0), (1, .int v1), (2, .int v2)] [.int s0, .ref s1] (X12_roundGoes_J49 r6 v0 v1 v2 s0 s1) := by
  unfold X12_roundGoes_J49
  refine zco_p tkX12_roundGoes 28 2 (pc' := 54) (L' := [(0, .ref v0), (1, .int v1), (2, .int v2)]) (S' := [.int 1, .int s0, .ref s1]) rfl ?_
  exact zco_sub [0, 1, 2] rfl (coX12_roundGoes_J54 l e he v0 v1 v2 r6 hr6 1 s0 s1)
set_option maxHeartbeats 2000000 in
set_option maxRecDepth 20000 in
theorem coX12_roundGoes_B6 (l : Launch) (e : Nat) (he : 7 ≤ e) (v0 : Nat) (v1 : Int32) (r6 : Int32 → zM) (hr6 : ∀ x : Int32, zCo l (e + 1) 0 0 iX12_roundGoes 6 [(0, .ref v0), (1, .int v1), (2, .int x)] [] (r6 x)) (v2 : Int32) : zCo l (e + 1) 0 0 iX12_roundGoes 6 [(0, .ref v0), (1, .int v1), (2, .int v2)] [] (X12_roundGoes_B6 v0 v1 r6 v2) := by
  unfold X12_roundGoes_B6
  refine zco_p tkX12_roundGoes 4 2 (pc' := 9) (L' := [(0, .ref v0), (1, .int v1), (2, .int v2)]) (S' := [.int 12, .int v2]) rfl ?_
  refine zco_icmp_ge (tgt := 78) (zdk (cc := cX12_roundGoes) (q := (9, .if_icmp .ge 69, 3)) tkX12_roundGoes 6 rfl) rfl ?_ ?_
  · exact zco_sub [0] rfl (coX12_roundGoes_J78 l e he v0)
  · refine zco_p tkX12_roundGoes 7 1 (pc' := 13) (L' := [(0, .ref v0), (1, .int v1), (2, .int v2)]) (S' := [.ref v0]) rfl ?_
    refine zco_gr fl_12_140 rfl (zdk (cc := cX12_roundGoes) (q := (13, .getfield 140, 3)) tkX12_roundGoes 8 rfl) (fun x1 => ?_)
    refine zco_p tkX12_roundGoes 9 1 (pc' := 17) (L' := [(0, .ref v0), (1, .int v1), (2, .int v2)]) (S' := [.int v2, .ref x1]) rfl ?_
    refine zco_iaload (zdk (cc := cX12_roundGoes) (q := (17, .iaload, 1)) tkX12_roundGoes 10 rfl) (fun x2 => ?_)
    refine zco_p tkX12_roundGoes 11 1 (pc' := 19) (L' := [(0, .ref v0), (1, .int v1), (2, .int v2)]) (S' := [.int ((-1)), .int x2]) rfl ?_
    refine zco_icmp_ne (tgt := 25) (zdk (cc := cX12_roundGoes) (q := (19, .if_icmp .ne 6, 3)) tkX12_roundGoes 12 rfl) rfl ?_ ?_
    · refine zco_p tkX12_roundGoes 14 1 (pc' := 26) (L' := [(0, .ref v0), (1, .int v1), (2, .int v2)]) (S' := [.ref v0]) rfl ?_
      refine zco_gr fl_12_149 rfl (zdk (cc := cX12_roundGoes) (q := (26, .getfield 149, 3)) tkX12_roundGoes 15 rfl) (fun x3 => ?_)
      refine zco_p tkX12_roundGoes 16 3 (pc' := 32) (L' := [(0, .ref v0), (1, .int v1), (2, .int v2)]) (S' := [.int v1, .int v2, .int v2, .ref x3]) rfl ?_
      refine zco_icmp_eq (tgt := 49) (zdk (cc := cX12_roundGoes) (q := (32, .if_icmp .eq 17, 3)) tkX12_roundGoes 19 rfl) rfl ?_ ?_
      · exact zco_sub [0, 1, 2] rfl (coX12_roundGoes_J49 l e he v0 v1 v2 r6 hr6 v2 x3)
      · refine zco_p tkX12_roundGoes 20 3 (pc' := 38) (L' := [(0, .ref v0), (1, .int v1), (2, .int v2)]) (S' := [.ref v0, .int v2, .ref v0, .int v2, .ref x3]) rfl ?_
        refine zco_gr fl_12_140 rfl (zdk (cc := cX12_roundGoes) (q := (38, .getfield 140, 3)) tkX12_roundGoes 23 rfl) (fun x4 => ?_)
        refine zco_p tkX12_roundGoes 24 1 (pc' := 42) (L' := [(0, .ref v0), (1, .int v1), (2, .int v2)]) (S' := [.int v2, .ref x4, .int v2, .ref v0, .int v2, .ref x3]) rfl ?_
        refine zco_iaload (zdk (cc := cX12_roundGoes) (q := (42, .iaload, 1)) tkX12_roundGoes 25 rfl) (fun x5 => ?_)
        refine zco_Vi (rc := 0) (rs := 0) (mc := 0) (ms := 0) (As := [.int v2, .int x5]) (S := [.int v2, .ref x3]) vmX12_doesLet (mtX12_doesLet l e (by omega) v0 v2 x5) q_2055 rfl rfl (Nat.le_of_ble_eq_true rfl) (zdk (cc := cX12_roundGoes) (q := (43, .invokevirtual 509, 3)) tkX12_roundGoes 26 rfl) (fun y6 => ?_)
        refine zco_if_eq (tgt := 53) (zdk (cc := cX12_roundGoes) (q := (46, .ifCond .eq 7, 3)) tkX12_roundGoes 27 rfl) rfl ?_ ?_
        · refine zco_p tkX12_roundGoes 30 1 (pc' := 54) (L' := [(0, .ref v0), (1, .int v1), (2, .int v2)]) (S' := [.int 0, .int v2, .ref x3]) rfl ?_
          exact zco_sub [0, 1, 2] rfl (coX12_roundGoes_J54 l e he v0 v1 v2 r6 hr6 0 v2 x3)
        · exact zco_sub [0, 1, 2] rfl (coX12_roundGoes_J49 l e he v0 v1 v2 r6 hr6 v2 x3)
    · refine zco_p tkX12_roundGoes 13 1 (pc' := 72) (L' := [(0, .ref v0), (1, .int v1), (2, .int v2)]) (S' := []) rfl ?_
      exact zco_sub [0, 1, 2] rfl (coX12_roundGoes_J72 l e he v0 v1 v2 r6 hr6)
set_option maxHeartbeats 2000000 in
set_option maxRecDepth 20000 in
theorem coX12_roundGoes (l : Launch) (e : Nat) (he : 7 ≤ e) (v0 : Nat) (v1 : Int32) : zCo l (e + 1) 0 0 iX12_roundGoes 0 [(0, .ref v0), (1, .int v1)] [] (X12_roundGoes v0 v1) := by
  unfold X12_roundGoes
  refine zco_p tkX12_roundGoes 0 1 (pc' := 1) (L' := [(0, .ref v0), (1, .int v1)]) (S' := [.ref v0]) rfl ?_
  refine zco_Vv (rc := 0) (rs := 0) (mc := 0) (ms := 0) (As := []) (S := []) vmX12_laysHands (mtX12_laysHands l e (by omega) v0) q_1956 rfl rfl (Nat.le_of_ble_eq_true rfl) (zdk (cc := cX12_roundGoes) (q := (1, .invokevirtual 506, 3)) tkX12_roundGoes 1 rfl) ?_
  refine zco_p tkX12_roundGoes 2 2 (pc' := 6) (L' := [(2, .int 0), (0, .ref v0), (1, .int v1)]) (S' := []) rfl ?_
  exact zco_sub [1, 2, 0] rfl (zco_fix (Lf := fun x : Int32 => [(0, .ref v0), (1, .int v1), (2, .int x)]) (Sf := fun _ => []) (fun r hr x => coX12_roundGoes_B6 l e he v0 v1 r hr x) zFU 0)
theorem mtX12_roundGoes (l : Launch) (d : Nat) (hd : 8 ≤ d) (v0 : Nat) (v1 : Int32) : zMet l d 0 0 yX12_roundGoes cX12_roundGoes 3 (Option.none : Option FieldType) [.ref v0, .int v1] (X12_roundGoes v0 v1) := by
  obtain ⟨e, rfl⟩ : ∃ e, d = e + 1 := ⟨d - 1, by omega⟩
  exact zmet_of (own := RX12) (ini := false) (by decide +kernel) rfl (fun _ => by contradiction) (Nat.le_of_ble_eq_true rfl) (coX12_roundGoes l e (by omega) v0 v1)
abbrev iX12_roundsGo : zI := (RX12, cX12_roundsGo, 3, (Option.none : Option FieldType), false)
def tX12_roundsGo : List (Nat × Instr × Nat) := [(0, .aload_n 0, 1), (1, .iconst 0, 1), (2, .putfield 500, 3), (5, .iconst 0, 1), (6, .istore_n 2, 1), (7, .iload_n 2, 1), (8, .iload_n 1, 1), (9, .if_icmp .ge 14, 3), (12, .aload_n 0, 1), (13, .iconst (-1), 1), (14, .invokevirtual 527, 3), (17, .iinc 2 1, 3), (20, .goto (-13), 3), (23, .return_, 1)]
set_option maxRecDepth 100000 in
theorem tkX12_roundsGo : ∀ q ∈ tX12_roundsGo, decode cX12_roundsGo q.1 = .ok q.2 := by decide +kernel
theorem vmX12_roundsGo : zVM yX12_roundsGo cX12_roundsGo 3 (Option.none : Option FieldType) 1 12 := ⟨kX12_roundsGo, q_2082, q_115, q_162, ⟨_, rfl, rfl⟩, by decide +kernel, by decide⟩
set_option maxHeartbeats 2000000 in
set_option maxRecDepth 20000 in
theorem coX12_roundsGo_B7 (l : Launch) (e : Nat) (he : 8 ≤ e) (v0 : Nat) (v1 : Int32) (r7 : Int32 → zM) (hr7 : ∀ x : Int32, zCo l (e + 1) 0 0 iX12_roundsGo 7 [(0, .ref v0), (1, .int v1), (2, .int x)] [] (r7 x)) (v2 : Int32) : zCo l (e + 1) 0 0 iX12_roundsGo 7 [(0, .ref v0), (1, .int v1), (2, .int v2)] [] (X12_roundsGo_B7 v0 v1 r7 v2) := by
  unfold X12_roundsGo_B7
  refine zco_p tkX12_roundsGo 5 2 (pc' := 9) (L' := [(0, .ref v0), (1, .int v1), (2, .int v2)]) (S' := [.int v1, .int v2]) rfl ?_
  refine zco_icmp_ge (tgt := 23) (zdk (cc := cX12_roundsGo) (q := (9, .if_icmp .ge 14, 3)) tkX12_roundsGo 7 rfl) rfl ?_ ?_
  · exact zco_vret rfl rfl rfl (zdk (cc := cX12_roundsGo) (q := (23, .return_, 1)) tkX12_roundsGo 13 rfl)
  · refine zco_p tkX12_roundsGo 8 2 (pc' := 14) (L' := [(0, .ref v0), (1, .int v1), (2, .int v2)]) (S' := [.int ((-1)), .ref v0]) rfl ?_
    refine zco_Vv (rc := 0) (rs := 0) (mc := 0) (ms := 0) (As := [.int ((-1))]) (S := []) vmX12_roundGoes (mtX12_roundGoes l e (by omega) v0 ((-1))) q_2084 rfl rfl (Nat.le_of_ble_eq_true rfl) (zdk (cc := cX12_roundsGo) (q := (14, .invokevirtual 527, 3)) tkX12_roundsGo 10 rfl) ?_
    refine zco_p tkX12_roundsGo 11 2 (pc' := 7) (L' := [(2, .int (v2 + 1)), (0, .ref v0), (1, .int v1)]) (S' := []) rfl ?_
    exact zco_sub [1, 2, 0] rfl (hr7 (v2 + 1))
set_option maxHeartbeats 2000000 in
set_option maxRecDepth 20000 in
theorem coX12_roundsGo (l : Launch) (e : Nat) (he : 8 ≤ e) (v0 : Nat) (v1 : Int32) : zCo l (e + 1) 0 0 iX12_roundsGo 0 [(0, .ref v0), (1, .int v1)] [] (X12_roundsGo v0 v1) := by
  unfold X12_roundsGo
  refine zco_p tkX12_roundsGo 0 2 (pc' := 2) (L' := [(0, .ref v0), (1, .int v1)]) (S' := [.int 0, .ref v0]) rfl ?_
  refine zco_pi fl_12_500 rfl rfl (zdk (cc := cX12_roundsGo) (q := (2, .putfield 500, 3)) tkX12_roundsGo 2 rfl) ?_
  refine zco_p tkX12_roundsGo 3 2 (pc' := 7) (L' := [(2, .int 0), (0, .ref v0), (1, .int v1)]) (S' := []) rfl ?_
  exact zco_sub [1, 2, 0] rfl (zco_fix (Lf := fun x : Int32 => [(0, .ref v0), (1, .int v1), (2, .int x)]) (Sf := fun _ => []) (fun r hr x => coX12_roundsGo_B7 l e he v0 v1 r hr x) zFU 0)
theorem mtX12_roundsGo (l : Launch) (d : Nat) (hd : 9 ≤ d) (v0 : Nat) (v1 : Int32) : zMet l d 0 0 yX12_roundsGo cX12_roundsGo 3 (Option.none : Option FieldType) [.ref v0, .int v1] (X12_roundsGo v0 v1) := by
  obtain ⟨e, rfl⟩ : ∃ e, d = e + 1 := ⟨d - 1, by omega⟩
  exact zmet_of (own := RX12) (ini := false) (by decide +kernel) rfl (fun _ => by contradiction) (Nat.le_of_ble_eq_true rfl) (coX12_roundsGo l e (by omega) v0 v1)
abbrev iX12_putsAside : zI := (RX12, cX12_putsAside, 2, (Option.none : Option FieldType), false)
def tX12_putsAside : List (Nat × Instr × Nat) := [(0, .aload_n 0, 1), (1, .iconst 1, 1), (2, .putfield 493, 3), (5, .iconst 0, 1), (6, .istore_n 1, 1), (7, .iload_n 1, 1), (8, .sipush 182, 3), (11, .if_icmp .ge 21, 3), (14, .aload_n 0, 1), (15, .getfield 146, 3), (18, .iload_n 1, 1), (19, .aload_n 0, 1), (20, .getfield 134, 3), (23, .iload_n 1, 1), (24, .iaload, 1), (25, .iastore, 1), (26, .iinc 1 1, 3), (29, .goto (-22), 3), (32, .return_, 1)]
set_option maxRecDepth 100000 in
theorem tkX12_putsAside : ∀ q ∈ tX12_putsAside, decode cX12_putsAside q.1 = .ok q.2 := by decide +kernel
theorem vmX12_putsAside : zVM yX12_putsAside cX12_putsAside 2 (Option.none : Option FieldType) 0 12 := ⟨kX12_putsAside, q_2078, q_114, q_162, ⟨_, rfl, rfl⟩, by decide +kernel, by decide⟩
set_option maxHeartbeats 2000000 in
set_option maxRecDepth 20000 in
theorem coX12_putsAside_B7 (l : Launch) (e : Nat) (he : 0 ≤ e) (v0 : Nat) (r7 : Int32 → zM) (hr7 : ∀ x : Int32, zCo l (e + 1) 0 0 iX12_putsAside 7 [(0, .ref v0), (1, .int x)] [] (r7 x)) (v1 : Int32) : zCo l (e + 1) 0 0 iX12_putsAside 7 [(0, .ref v0), (1, .int v1)] [] (X12_putsAside_B7 v0 r7 v1) := by
  unfold X12_putsAside_B7
  refine zco_p tkX12_putsAside 5 2 (pc' := 11) (L' := [(0, .ref v0), (1, .int v1)]) (S' := [.int 182, .int v1]) rfl ?_
  refine zco_icmp_ge (tgt := 32) (zdk (cc := cX12_putsAside) (q := (11, .if_icmp .ge 21, 3)) tkX12_putsAside 7 rfl) rfl ?_ ?_
  · exact zco_vret rfl rfl rfl (zdk (cc := cX12_putsAside) (q := (32, .return_, 1)) tkX12_putsAside 18 rfl)
  · refine zco_p tkX12_putsAside 8 1 (pc' := 15) (L' := [(0, .ref v0), (1, .int v1)]) (S' := [.ref v0]) rfl ?_
    refine zco_gr fl_12_146 rfl (zdk (cc := cX12_putsAside) (q := (15, .getfield 146, 3)) tkX12_putsAside 9 rfl) (fun x1 => ?_)
    refine zco_p tkX12_putsAside 10 2 (pc' := 20) (L' := [(0, .ref v0), (1, .int v1)]) (S' := [.ref v0, .int v1, .ref x1]) rfl ?_
    refine zco_gr fl_12_134 rfl (zdk (cc := cX12_putsAside) (q := (20, .getfield 134, 3)) tkX12_putsAside 12 rfl) (fun x2 => ?_)
    refine zco_p tkX12_putsAside 13 1 (pc' := 24) (L' := [(0, .ref v0), (1, .int v1)]) (S' := [.int v1, .ref x2, .int v1, .ref x1]) rfl ?_
    refine zco_iaload (zdk (cc := cX12_putsAside) (q := (24, .iaload, 1)) tkX12_putsAside 14 rfl) (fun x3 => ?_)
    refine zco_iastore (zdk (cc := cX12_putsAside) (q := (25, .iastore, 1)) tkX12_putsAside 15 rfl) ?_
    refine zco_p tkX12_putsAside 16 2 (pc' := 7) (L' := [(1, .int (v1 + 1)), (0, .ref v0)]) (S' := []) rfl ?_
    exact zco_sub [1, 0] rfl (hr7 (v1 + 1))
set_option maxHeartbeats 2000000 in
set_option maxRecDepth 20000 in
theorem coX12_putsAside (l : Launch) (e : Nat) (he : 0 ≤ e) (v0 : Nat) : zCo l (e + 1) 0 0 iX12_putsAside 0 [(0, .ref v0)] [] (X12_putsAside v0) := by
  unfold X12_putsAside
  refine zco_p tkX12_putsAside 0 2 (pc' := 2) (L' := [(0, .ref v0)]) (S' := [.int 1, .ref v0]) rfl ?_
  refine zco_pb fl_12_493 rfl rfl (zdk (cc := cX12_putsAside) (q := (2, .putfield 493, 3)) tkX12_putsAside 2 rfl) ?_
  refine zco_p tkX12_putsAside 3 2 (pc' := 7) (L' := [(1, .int 0), (0, .ref v0)]) (S' := []) rfl ?_
  exact zco_sub [1, 0] rfl (zco_fix (Lf := fun x : Int32 => [(0, .ref v0), (1, .int x)]) (Sf := fun _ => []) (fun r hr x => coX12_putsAside_B7 l e he v0 r hr x) zFU 0)
theorem mtX12_putsAside (l : Launch) (d : Nat) (hd : 1 ≤ d) (v0 : Nat) : zMet l d 0 0 yX12_putsAside cX12_putsAside 2 (Option.none : Option FieldType) [.ref v0] (X12_putsAside v0) := by
  obtain ⟨e, rfl⟩ : ∃ e, d = e + 1 := ⟨d - 1, by omega⟩
  exact zmet_of (own := RX12) (ini := false) (by decide +kernel) rfl (fun _ => by contradiction) (Nat.le_of_ble_eq_true rfl) (coX12_putsAside l e (by omega) v0)
abbrev iX12_triesAnew : zI := (RX12, cX12_triesAnew, 2, (Option.none : Option FieldType), false)
def tX12_triesAnew : List (Nat × Instr × Nat) := [(0, .iconst 0, 1), (1, .istore_n 1, 1), (2, .iload_n 1, 1), (3, .sipush 182, 3), (6, .if_icmp .ge 21, 3), (9, .aload_n 0, 1), (10, .getfield 134, 3), (13, .iload_n 1, 1), (14, .aload_n 0, 1), (15, .getfield 146, 3), (18, .iload_n 1, 1), (19, .iaload, 1), (20, .iastore, 1), (21, .iinc 1 1, 3), (24, .goto (-22), 3), (27, .return_, 1)]
set_option maxRecDepth 100000 in
theorem tkX12_triesAnew : ∀ q ∈ tX12_triesAnew, decode cX12_triesAnew q.1 = .ok q.2 := by decide +kernel
theorem vmX12_triesAnew : zVM yX12_triesAnew cX12_triesAnew 2 (Option.none : Option FieldType) 0 12 := ⟨kX12_triesAnew, q_2106, q_121, q_162, ⟨_, rfl, rfl⟩, by decide +kernel, by decide⟩
set_option maxHeartbeats 2000000 in
set_option maxRecDepth 20000 in
theorem coX12_triesAnew_B2 (l : Launch) (e : Nat) (he : 0 ≤ e) (v0 : Nat) (r2 : Int32 → zM) (hr2 : ∀ x : Int32, zCo l (e + 1) 0 0 iX12_triesAnew 2 [(0, .ref v0), (1, .int x)] [] (r2 x)) (v1 : Int32) : zCo l (e + 1) 0 0 iX12_triesAnew 2 [(0, .ref v0), (1, .int v1)] [] (X12_triesAnew_B2 v0 r2 v1) := by
  unfold X12_triesAnew_B2
  refine zco_p tkX12_triesAnew 2 2 (pc' := 6) (L' := [(0, .ref v0), (1, .int v1)]) (S' := [.int 182, .int v1]) rfl ?_
  refine zco_icmp_ge (tgt := 27) (zdk (cc := cX12_triesAnew) (q := (6, .if_icmp .ge 21, 3)) tkX12_triesAnew 4 rfl) rfl ?_ ?_
  · exact zco_vret rfl rfl rfl (zdk (cc := cX12_triesAnew) (q := (27, .return_, 1)) tkX12_triesAnew 15 rfl)
  · refine zco_p tkX12_triesAnew 5 1 (pc' := 10) (L' := [(0, .ref v0), (1, .int v1)]) (S' := [.ref v0]) rfl ?_
    refine zco_gr fl_12_134 rfl (zdk (cc := cX12_triesAnew) (q := (10, .getfield 134, 3)) tkX12_triesAnew 6 rfl) (fun x1 => ?_)
    refine zco_p tkX12_triesAnew 7 2 (pc' := 15) (L' := [(0, .ref v0), (1, .int v1)]) (S' := [.ref v0, .int v1, .ref x1]) rfl ?_
    refine zco_gr fl_12_146 rfl (zdk (cc := cX12_triesAnew) (q := (15, .getfield 146, 3)) tkX12_triesAnew 9 rfl) (fun x2 => ?_)
    refine zco_p tkX12_triesAnew 10 1 (pc' := 19) (L' := [(0, .ref v0), (1, .int v1)]) (S' := [.int v1, .ref x2, .int v1, .ref x1]) rfl ?_
    refine zco_iaload (zdk (cc := cX12_triesAnew) (q := (19, .iaload, 1)) tkX12_triesAnew 11 rfl) (fun x3 => ?_)
    refine zco_iastore (zdk (cc := cX12_triesAnew) (q := (20, .iastore, 1)) tkX12_triesAnew 12 rfl) ?_
    refine zco_p tkX12_triesAnew 13 2 (pc' := 2) (L' := [(1, .int (v1 + 1)), (0, .ref v0)]) (S' := []) rfl ?_
    exact zco_sub [1, 0] rfl (hr2 (v1 + 1))
set_option maxHeartbeats 2000000 in
set_option maxRecDepth 20000 in
theorem coX12_triesAnew (l : Launch) (e : Nat) (he : 0 ≤ e) (v0 : Nat) : zCo l (e + 1) 0 0 iX12_triesAnew 0 [(0, .ref v0)] [] (X12_triesAnew v0) := by
  unfold X12_triesAnew
  refine zco_p tkX12_triesAnew 0 2 (pc' := 2) (L' := [(1, .int 0), (0, .ref v0)]) (S' := []) rfl ?_
  exact zco_sub [1, 0] rfl (zco_fix (Lf := fun x : Int32 => [(0, .ref v0), (1, .int x)]) (Sf := fun _ => []) (fun r hr x => coX12_triesAnew_B2 l e he v0 r hr x) zFU 0)
theorem mtX12_triesAnew (l : Launch) (d : Nat) (hd : 1 ≤ d) (v0 : Nat) : zMet l d 0 0 yX12_triesAnew cX12_triesAnew 2 (Option.none : Option FieldType) [.ref v0] (X12_triesAnew v0) := by
  obtain ⟨e, rfl⟩ : ∃ e, d = e + 1 := ⟨d - 1, by omega⟩
  exact zmet_of (own := RX12) (ini := false) (by decide +kernel) rfl (fun _ => by contradiction) (Nat.le_of_ble_eq_true rfl) (coX12_triesAnew l e (by omega) v0)
abbrev iX12_takesBack : zI := (RX12, cX12_takesBack, 1, (Option.none : Option FieldType), false)
def tX12_takesBack : List (Nat × Instr × Nat) := [(0, .aload_n 0, 1), (1, .invokevirtual 530, 3), (4, .aload_n 0, 1), (5, .iconst (-1), 1), (6, .putfield 137, 3), (9, .aload_n 0, 1), (10, .iconst 0, 1), (11, .putfield 493, 3), (14, .return_, 1)]
set_option maxRecDepth 100000 in
theorem tkX12_takesBack : ∀ q ∈ tX12_takesBack, decode cX12_takesBack q.1 = .ok q.2 := by decide +kernel
theorem vmX12_takesBack : zVM yX12_takesBack cX12_takesBack 1 (Option.none : Option FieldType) 0 12 := ⟨kX12_takesBack, q_2102, q_120, q_162, ⟨_, rfl, rfl⟩, by decide +kernel, by decide⟩
set_option maxHeartbeats 2000000 in
set_option maxRecDepth 20000 in
theorem coX12_takesBack (l : Launch) (e : Nat) (he : 1 ≤ e) (v0 : Nat) : zCo l (e + 1) 0 0 iX12_takesBack 0 [(0, .ref v0)] [] (X12_takesBack v0) := by
  unfold X12_takesBack
  refine zco_p tkX12_takesBack 0 1 (pc' := 1) (L' := [(0, .ref v0)]) (S' := [.ref v0]) rfl ?_
  refine zco_Vv (rc := 0) (rs := 0) (mc := 0) (ms := 0) (As := []) (S := []) vmX12_triesAnew (mtX12_triesAnew l e (by omega) v0) q_2104 rfl rfl (Nat.le_of_ble_eq_true rfl) (zdk (cc := cX12_takesBack) (q := (1, .invokevirtual 530, 3)) tkX12_takesBack 1 rfl) ?_
  refine zco_p tkX12_takesBack 2 2 (pc' := 6) (L' := [(0, .ref v0)]) (S' := [.int ((-1)), .ref v0]) rfl ?_
  refine zco_pi fl_12_137 rfl rfl (zdk (cc := cX12_takesBack) (q := (6, .putfield 137, 3)) tkX12_takesBack 4 rfl) ?_
  refine zco_p tkX12_takesBack 5 2 (pc' := 11) (L' := [(0, .ref v0)]) (S' := [.int 0, .ref v0]) rfl ?_
  refine zco_pb fl_12_493 rfl rfl (zdk (cc := cX12_takesBack) (q := (11, .putfield 493, 3)) tkX12_takesBack 7 rfl) ?_
  exact zco_vret rfl rfl rfl (zdk (cc := cX12_takesBack) (q := (14, .return_, 1)) tkX12_takesBack 8 rfl)
theorem mtX12_takesBack (l : Launch) (d : Nat) (hd : 2 ≤ d) (v0 : Nat) : zMet l d 0 0 yX12_takesBack cX12_takesBack 1 (Option.none : Option FieldType) [.ref v0] (X12_takesBack v0) := by
  obtain ⟨e, rfl⟩ : ∃ e, d = e + 1 := ⟨d - 1, by omega⟩
  exact zmet_of (own := RX12) (ini := false) (by decide +kernel) rfl (fun _ => by contradiction) (Nat.le_of_ble_eq_true rfl) (coX12_takesBack l e (by omega) v0)
abbrev iX12_isAhead : zI := (RX12, cX12_isAhead, 4, (Option.some .boolean), false)
def tX12_isAhead : List (Nat × Instr × Nat) := [(0, .iload_n 1, 1), (1, .i2l, 1), (2, .iload_n 2, 1), (3, .i2l, 1), (4, .iload_n 3, 1), (5, .i2l, 1), (6, .invokestatic 313, 3), (9, .ifCond .eq 38, 3), (12, .aload_n 0, 1), (13, .invokevirtual 518, 3), (16, .aload_n 0, 1), (17, .getfield 134, 3), (20, .iconst 0, 1), (21, .iaload, 1), (22, .imul, 1), (23, .aload_n 0, 1), (24, .getfield 134, 3), (27, .iconst 1, 1), (28, .iaload, 1), (29, .iadd, 1), (30, .iload_n 1, 1), (31, .iadd, 1), (32, .aload_n 0, 1), (33, .invokevirtual 518, 3), (36, .sipush 1000, 3), (39, .imul, 1), (40, .if_icmp .ge 7, 3), (43, .iconst 1, 1), (44, .goto 4, 3), (47, .iconst 0, 1), (48, .ireturn, 1)]
set_option maxRecDepth 100000 in
theorem tkX12_isAhead : ∀ q ∈ tX12_isAhead, decode cX12_isAhead q.1 = .ok q.2 := by decide +kernel
theorem vmX12_isAhead : zVM yX12_isAhead cX12_isAhead 4 (Option.some .boolean) 3 12 := ⟨kX12_isAhead, q_2074, q_113, q_162, ⟨_, rfl, rfl⟩, by decide +kernel, by decide⟩
set_option maxHeartbeats 2000000 in
set_option maxRecDepth 20000 in
theorem coX12_isAhead (l : Launch) (e : Nat) (he : 1 ≤ e) (v0 : Nat) (v1 : Int32) (v2 : Int32) (v3 : Int32) : zCo l (e + 1) 0 0 iX12_isAhead 0 [(0, .ref v0), (1, .int v1), (2, .int v2), (3, .int v3)] [] (X12_isAhead v0 v1 v2 v3) := by
  unfold X12_isAhead
  refine zco_p tkX12_isAhead 0 6 (pc' := 6) (L' := [(0, .ref v0), (1, .int v1), (2, .int v2), (3, .int v3)]) (S' := [.long v3.toInt64, .long v2.toInt64, .long v1.toInt64]) rfl ?_
  refine zco_Si (rc := 0) (rs := 0) (mc := 0) (ms := 0) (As := [.long v1.toInt64, .long v2.toInt64, .long v3.toInt64]) (S := []) vmX12_isIn (mtX12_isIn l e (by omega) v1.toInt64 v2.toInt64 v3.toInt64) q_1799 rfl rfl (Nat.le_of_ble_eq_true rfl) (zdk (cc := cX12_isAhead) (q := (6, .invokestatic 313, 3)) tkX12_isAhead 6 rfl) (fun y1 => ?_)
  refine zco_if_eq (tgt := 47) (zdk (cc := cX12_isAhead) (q := (9, .ifCond .eq 38, 3)) tkX12_isAhead 7 rfl) rfl ?_ ?_
  · refine zco_p tkX12_isAhead 29 1 (pc' := 48) (L' := [(0, .ref v0), (1, .int v1), (2, .int v2), (3, .int v3)]) (S' := [.int 0]) rfl ?_
    exact zco_zret rfl rfl rfl (zdk (cc := cX12_isAhead) (q := (48, .ireturn, 1)) tkX12_isAhead 30 rfl)
  · refine zco_p tkX12_isAhead 8 1 (pc' := 13) (L' := [(0, .ref v0), (1, .int v1), (2, .int v2), (3, .int v3)]) (S' := [.ref v0]) rfl ?_
    refine zco_Vi (rc := 0) (rs := 0) (mc := 0) (ms := 0) (As := []) (S := []) vmX12_roundMany (mtX12_roundMany l e (by omega) v0) q_1924 rfl rfl (Nat.le_of_ble_eq_true rfl) (zdk (cc := cX12_isAhead) (q := (13, .invokevirtual 518, 3)) tkX12_isAhead 9 rfl) (fun y2 => ?_)
    refine zco_p tkX12_isAhead 10 1 (pc' := 17) (L' := [(0, .ref v0), (1, .int v1), (2, .int v2), (3, .int v3)]) (S' := [.ref v0, .int y2]) rfl ?_
    refine zco_gr fl_12_134 rfl (zdk (cc := cX12_isAhead) (q := (17, .getfield 134, 3)) tkX12_isAhead 11 rfl) (fun x3 => ?_)
    refine zco_p tkX12_isAhead 12 1 (pc' := 21) (L' := [(0, .ref v0), (1, .int v1), (2, .int v2), (3, .int v3)]) (S' := [.int 0, .ref x3, .int y2]) rfl ?_
    refine zco_iaload (zdk (cc := cX12_isAhead) (q := (21, .iaload, 1)) tkX12_isAhead 13 rfl) (fun x4 => ?_)
    refine zco_p tkX12_isAhead 14 2 (pc' := 24) (L' := [(0, .ref v0), (1, .int v1), (2, .int v2), (3, .int v3)]) (S' := [.ref v0, .int (y2 * x4)]) rfl ?_
    refine zco_gr fl_12_134 rfl (zdk (cc := cX12_isAhead) (q := (24, .getfield 134, 3)) tkX12_isAhead 16 rfl) (fun x5 => ?_)
    refine zco_p tkX12_isAhead 17 1 (pc' := 28) (L' := [(0, .ref v0), (1, .int v1), (2, .int v2), (3, .int v3)]) (S' := [.int 1, .ref x5, .int (y2 * x4)]) rfl ?_
    refine zco_iaload (zdk (cc := cX12_isAhead) (q := (28, .iaload, 1)) tkX12_isAhead 18 rfl) (fun x6 => ?_)
    refine zco_p tkX12_isAhead 19 4 (pc' := 33) (L' := [(0, .ref v0), (1, .int v1), (2, .int v2), (3, .int v3)]) (S' := [.ref v0, .int (((y2 * x4) + x6) + v1)]) rfl ?_
    refine zco_Vi (rc := 0) (rs := 0) (mc := 0) (ms := 0) (As := []) (S := [.int (((y2 * x4) + x6) + v1)]) vmX12_roundMany (mtX12_roundMany l e (by omega) v0) q_1924 rfl rfl (Nat.le_of_ble_eq_true rfl) (zdk (cc := cX12_isAhead) (q := (33, .invokevirtual 518, 3)) tkX12_isAhead 23 rfl) (fun y7 => ?_)
    refine zco_p tkX12_isAhead 24 2 (pc' := 40) (L' := [(0, .ref v0), (1, .int v1), (2, .int v2), (3, .int v3)]) (S' := [.int (y7 * 1000), .int (((y2 * x4) + x6) + v1)]) rfl ?_
    refine zco_icmp_ge (tgt := 47) (zdk (cc := cX12_isAhead) (q := (40, .if_icmp .ge 7, 3)) tkX12_isAhead 26 rfl) rfl ?_ ?_
    · refine zco_p tkX12_isAhead 29 1 (pc' := 48) (L' := [(0, .ref v0), (1, .int v1), (2, .int v2), (3, .int v3)]) (S' := [.int 0]) rfl ?_
      exact zco_zret rfl rfl rfl (zdk (cc := cX12_isAhead) (q := (48, .ireturn, 1)) tkX12_isAhead 30 rfl)
    · refine zco_p tkX12_isAhead 27 2 (pc' := 48) (L' := [(0, .ref v0), (1, .int v1), (2, .int v2), (3, .int v3)]) (S' := [.int 1]) rfl ?_
      exact zco_zret rfl rfl rfl (zdk (cc := cX12_isAhead) (q := (48, .ireturn, 1)) tkX12_isAhead 30 rfl)
theorem mtX12_isAhead (l : Launch) (d : Nat) (hd : 2 ≤ d) (v0 : Nat) (v1 : Int32) (v2 : Int32) (v3 : Int32) : zMet l d 0 0 yX12_isAhead cX12_isAhead 4 (Option.some .boolean) [.ref v0, .int v1, .int v2, .int v3] (X12_isAhead v0 v1 v2 v3) := by
  obtain ⟨e, rfl⟩ : ∃ e, d = e + 1 := ⟨d - 1, by omega⟩
  exact zmet_of (own := RX12) (ini := false) (by decide +kernel) rfl (fun _ => by contradiction) (Nat.le_of_ble_eq_true rfl) (coX12_isAhead l e (by omega) v0 v1 v2 v3)
abbrev iX12_wedMany : zI := (RX12, cX12_wedMany, 3, (Option.some .int), false)
def tX12_wedMany : List (Nat × Instr × Nat) := [(0, .iconst 0, 1), (1, .istore_n 1, 1), (2, .iconst 0, 1), (3, .istore_n 2, 1), (4, .iload_n 2, 1), (5, .bipush 6, 2), (7, .if_icmp .ge 25, 3), (10, .aload_n 0, 1), (11, .getfield 134, 3), (14, .bipush 14, 2), (16, .iload_n 2, 1), (17, .iadd, 1), (18, .iaload, 1), (19, .iconst (-1), 1), (20, .if_icmp .eq 6, 3), (23, .iinc 1 1, 3), (26, .iinc 2 1, 3), (29, .goto (-25), 3), (32, .aload_n 0, 1), (33, .getfield 406, 3), (36, .ifCond .eq 7, 3), (39, .iload_n 1, 1), (40, .goto 4, 3), (43, .iconst 0, 1), (44, .ireturn, 1)]
set_option maxRecDepth 100000 in
theorem tkX12_wedMany : ∀ q ∈ tX12_wedMany, decode cX12_wedMany q.1 = .ok q.2 := by decide +kernel
theorem vmX12_wedMany : zVM yX12_wedMany cX12_wedMany 3 (Option.some .int) 0 12 := ⟨kX12_wedMany, q_1930, q_85, q_162, ⟨_, rfl, rfl⟩, by decide +kernel, by decide⟩
set_option maxHeartbeats 2000000 in
set_option maxRecDepth 20000 in
theorem coX12_wedMany_J32 (l : Launch) (e : Nat) (he : 0 ≤ e) (v0 : Nat) (v1 : Int32) : zCo l (e + 1) 0 0 iX12_wedMany 32 [(0, .ref v0), (1, .int v1)] [] (X12_wedMany_J32 v0 v1) := by
  unfold X12_wedMany_J32
  refine zco_p tkX12_wedMany 18 1 (pc' := 33) (L' := [(0, .ref v0), (1, .int v1)]) (S' := [.ref v0]) rfl ?_
  refine zco_gi fl_12_406 rfl (zdk (cc := cX12_wedMany) (q := (33, .getfield 406, 3)) tkX12_wedMany 19 rfl) (fun x1 => ?_)
  refine zco_if_eq (tgt := 43) (zdk (cc := cX12_wedMany) (q := (36, .ifCond .eq 7, 3)) tkX12_wedMany 20 rfl) rfl ?_ ?_
  · refine zco_p tkX12_wedMany 23 1 (pc' := 44) (L' := [(0, .ref v0), (1, .int v1)]) (S' := [.int 0]) rfl ?_
    exact zco_iret rfl rfl rfl (zdk (cc := cX12_wedMany) (q := (44, .ireturn, 1)) tkX12_wedMany 24 rfl)
  · refine zco_p tkX12_wedMany 21 2 (pc' := 44) (L' := [(0, .ref v0), (1, .int v1)]) (S' := [.int v1]) rfl ?_
    exact zco_iret rfl rfl rfl (zdk (cc := cX12_wedMany) (q := (44, .ireturn, 1)) tkX12_wedMany 24 rfl)
set_option maxHeartbeats 2000000 in
set_option maxRecDepth 20000 in
theorem coX12_wedMany_J26 (l : Launch) (e : Nat) (he : 0 ≤ e) (v0 : Nat) (v1 : Int32) (v2 : Int32) (r4 : Int32 × Int32 → zM) (hr4 : ∀ x : Int32 × Int32, zCo l (e + 1) 0 0 iX12_wedMany 4 [(0, .ref v0), (1, .int x.1), (2, .int x.2)] [] (r4 x)) : zCo l (e + 1) 0 0 iX12_wedMany 26 [(0, .ref v0), (1, .int v1), (2, .int v2)] [] (X12_wedMany_J26 r4 v0 v1 v2) := by
  unfold X12_wedMany_J26
  refine zco_p tkX12_wedMany 16 2 (pc' := 4) (L' := [(2, .int (v2 + 1)), (0, .ref v0), (1, .int v1)]) (S' := []) rfl ?_
  exact zco_sub [1, 2, 0] rfl (hr4 (v1, v2 + 1))
set_option maxHeartbeats 2000000 in
set_option maxRecDepth 20000 in
theorem coX12_wedMany_B4 (l : Launch) (e : Nat) (he : 0 ≤ e) (v0 : Nat) (r4 : Int32 × Int32 → zM) (hr4 : ∀ x : Int32 × Int32, zCo l (e + 1) 0 0 iX12_wedMany 4 [(0, .ref v0), (1, .int x.1), (2, .int x.2)] [] (r4 x)) (v1 : Int32) (v2 : Int32) : zCo l (e + 1) 0 0 iX12_wedMany 4 [(0, .ref v0), (1, .int v1), (2, .int v2)] [] (X12_wedMany_B4 v0 r4 v1 v2) := by
  unfold X12_wedMany_B4
  refine zco_p tkX12_wedMany 4 2 (pc' := 7) (L' := [(0, .ref v0), (1, .int v1), (2, .int v2)]) (S' := [.int 6, .int v2]) rfl ?_
  refine zco_icmp_ge (tgt := 32) (zdk (cc := cX12_wedMany) (q := (7, .if_icmp .ge 25, 3)) tkX12_wedMany 6 rfl) rfl ?_ ?_
  · exact zco_sub [0, 1] rfl (coX12_wedMany_J32 l e he v0 v1)
  · refine zco_p tkX12_wedMany 7 1 (pc' := 11) (L' := [(0, .ref v0), (1, .int v1), (2, .int v2)]) (S' := [.ref v0]) rfl ?_
    refine zco_gr fl_12_134 rfl (zdk (cc := cX12_wedMany) (q := (11, .getfield 134, 3)) tkX12_wedMany 8 rfl) (fun x1 => ?_)
    refine zco_p tkX12_wedMany 9 3 (pc' := 18) (L' := [(0, .ref v0), (1, .int v1), (2, .int v2)]) (S' := [.int (14 + v2), .ref x1]) rfl ?_
    refine zco_iaload (zdk (cc := cX12_wedMany) (q := (18, .iaload, 1)) tkX12_wedMany 12 rfl) (fun x2 => ?_)
    refine zco_p tkX12_wedMany 13 1 (pc' := 20) (L' := [(0, .ref v0), (1, .int v1), (2, .int v2)]) (S' := [.int ((-1)), .int x2]) rfl ?_
    refine zco_icmp_eq (tgt := 26) (zdk (cc := cX12_wedMany) (q := (20, .if_icmp .eq 6, 3)) tkX12_wedMany 14 rfl) rfl ?_ ?_
    · exact zco_sub [0, 1, 2] rfl (coX12_wedMany_J26 l e he v0 v1 v2 r4 hr4)
    · refine zco_p tkX12_wedMany 15 1 (pc' := 26) (L' := [(1, .int (v1 + 1)), (0, .ref v0), (2, .int v2)]) (S' := []) rfl ?_
      exact zco_sub [1, 0, 2] rfl (coX12_wedMany_J26 l e he v0 (v1 + 1) v2 r4 hr4)
set_option maxHeartbeats 2000000 in
set_option maxRecDepth 20000 in
theorem coX12_wedMany (l : Launch) (e : Nat) (he : 0 ≤ e) (v0 : Nat) : zCo l (e + 1) 0 0 iX12_wedMany 0 [(0, .ref v0)] [] (X12_wedMany v0) := by
  unfold X12_wedMany
  refine zco_p tkX12_wedMany 0 4 (pc' := 4) (L' := [(2, .int 0), (1, .int 0), (0, .ref v0)]) (S' := []) rfl ?_
  exact zco_sub [2, 1, 0] rfl (zco_fix (Lf := fun x : Int32 × Int32 => [(0, .ref v0), (1, .int x.1), (2, .int x.2)]) (Sf := fun _ => []) (fun r hr x => coX12_wedMany_B4 l e he v0 r hr x.1 x.2) zFU (0, 0))
theorem mtX12_wedMany (l : Launch) (d : Nat) (hd : 1 ≤ d) (v0 : Nat) : zMet l d 0 0 yX12_wedMany cX12_wedMany 3 (Option.some .int) [.ref v0] (X12_wedMany v0) := by
  obtain ⟨e, rfl⟩ : ∃ e, d = e + 1 := ⟨d - 1, by omega⟩
  exact zmet_of (own := RX12) (ini := false) (by decide +kernel) rfl (fun _ => by contradiction) (Nat.le_of_ble_eq_true rfl) (coX12_wedMany l e (by omega) v0)
abbrev iX12_bits : zI := (RX12, cX12_bits, 3, (Option.some .int), false)
def tX12_bits : List (Nat × Instr × Nat) := [(0, .iconst 0, 1), (1, .istore_n 1, 1), (2, .iload_n 0, 1), (3, .istore_n 2, 1), (4, .iload_n 2, 1), (5, .ifCond .eq 15, 3), (8, .iinc 1 1, 3), (11, .iload_n 2, 1), (12, .iload_n 2, 1), (13, .iconst 1, 1), (14, .isub, 1), (15, .iand, 1), (16, .istore_n 2, 1), (17, .goto (-13), 3), (20, .iload_n 1, 1), (21, .ireturn, 1)]
set_option maxRecDepth 100000 in
theorem tkX12_bits : ∀ q ∈ tX12_bits, decode cX12_bits q.1 = .ok q.2 := by decide +kernel
theorem vmX12_bits : zSM yX12_bits cX12_bits 3 (Option.some .int) 1 := ⟨kX12_bits, q_2153, q_162, by decide +kernel, by decide⟩
set_option maxHeartbeats 2000000 in
set_option maxRecDepth 20000 in
theorem coX12_bits_B4 (l : Launch) (e : Nat) (he : 0 ≤ e) (r4 : Int32 × Int32 → zM) (hr4 : ∀ x : Int32 × Int32, zCo l (e + 1) 0 0 iX12_bits 4 [(1, .int x.1), (2, .int x.2)] [] (r4 x)) (v1 : Int32) (v2 : Int32) : zCo l (e + 1) 0 0 iX12_bits 4 [(1, .int v1), (2, .int v2)] [] (X12_bits_B4 r4 v1 v2) := by
  unfold X12_bits_B4
  refine zco_p tkX12_bits 4 1 (pc' := 5) (L' := [(1, .int v1), (2, .int v2)]) (S' := [.int v2]) rfl ?_
  refine zco_if_eq (tgt := 20) (zdk (cc := cX12_bits) (q := (5, .ifCond .eq 15, 3)) tkX12_bits 5 rfl) rfl ?_ ?_
  · refine zco_p tkX12_bits 14 1 (pc' := 21) (L' := [(1, .int v1), (2, .int v2)]) (S' := [.int v1]) rfl ?_
    exact zco_iret rfl rfl rfl (zdk (cc := cX12_bits) (q := (21, .ireturn, 1)) tkX12_bits 15 rfl)
  · refine zco_p tkX12_bits 6 8 (pc' := 4) (L' := [(2, .int (v2 &&& (v2 - 1))), (1, .int (v1 + 1))]) (S' := []) rfl ?_
    exact zco_sub [1, 0] rfl (hr4 (v1 + 1, v2 &&& (v2 - 1)))
set_option maxHeartbeats 2000000 in
set_option maxRecDepth 20000 in
theorem coX12_bits (l : Launch) (e : Nat) (he : 0 ≤ e) (v0 : Int32) : zCo l (e + 1) 0 0 iX12_bits 0 [(0, .int v0)] [] (X12_bits v0) := by
  unfold X12_bits
  refine zco_p tkX12_bits 0 4 (pc' := 4) (L' := [(2, .int v0), (1, .int 0), (0, .int v0)]) (S' := []) rfl ?_
  exact zco_sub [1, 0] rfl (zco_fix (Lf := fun x : Int32 × Int32 => [(1, .int x.1), (2, .int x.2)]) (Sf := fun _ => []) (fun r hr x => coX12_bits_B4 l e he  r hr x.1 x.2) zFU (0, v0))
theorem mtX12_bits (l : Launch) (d : Nat) (hd : 1 ≤ d) (v0 : Int32) : zMet l d 0 0 yX12_bits cX12_bits 3 (Option.some .int) [.int v0] (X12_bits v0) := by
  obtain ⟨e, rfl⟩ : ∃ e, d = e + 1 := ⟨d - 1, by omega⟩
  exact zmet_of (own := RX12) (ini := false) (by decide +kernel) rfl (fun _ => by contradiction) (Nat.le_of_ble_eq_true rfl) (coX12_bits l e (by omega) v0)
abbrev iX12_has : zI := (RX12, cX12_has, 2, (Option.some .int), false)
def tX12_has : List (Nat × Instr × Nat) := [(0, .iload_n 1, 1), (1, .tableswitch 108 0 9 #[55, 55, 55, 65, 72, 79, 84, 89, 98, 103], 55), (56, .aload_n 0, 1), (57, .getfield 105, 3), (60, .bipush 6, 2), (62, .iload_n 1, 1), (63, .iadd, 1), (64, .iaload, 1), (65, .ireturn, 1), (66, .aload_n 0, 1), (67, .getfield 134, 3), (70, .iconst 0, 1), (71, .iaload, 1), (72, .ireturn, 1), (73, .aload_n 0, 1), (74, .getfield 134, 3), (77, .iconst 1, 1), (78, .iaload, 1), (79, .ireturn, 1), (80, .aload_n 0, 1), (81, .invokevirtual 518, 3), (84, .ireturn, 1), (85, .aload_n 0, 1), (86, .invokevirtual 533, 3), (89, .ireturn, 1), (90, .aload_n 0, 1), (91, .getfield 134, 3), (94, .sipush 182, 3), (97, .iaload, 1), (98, .ireturn, 1), (99, .aload_n 0, 1), (100, .getfield 413, 3), (103, .ireturn, 1), (104, .aload_n 0, 1), (105, .getfield 410, 3), (108, .ireturn, 1), (109, .iconst (-1), 1), (110, .ireturn, 1)]
set_option maxRecDepth 100000 in
theorem tkX12_has : ∀ q ∈ tX12_has, decode cX12_has q.1 = .ok q.2 := by decide +kernel
theorem vmX12_has : zVM yX12_has cX12_has 2 (Option.some .int) 1 12 := ⟨kX12_has, q_1921, q_1922, q_162, ⟨_, rfl, rfl⟩, by decide +kernel, by decide⟩
set_option maxHeartbeats 2000000 in
set_option maxRecDepth 20000 in
theorem coX12_has_J56 (l : Launch) (e : Nat) (he : 1 ≤ e) (v0 : Nat) (v1 : Int32) : zCo l (e + 1) 0 0 iX12_has 56 [(0, .ref v0), (1, .int v1)] [] (X12_has_J56 v0 v1) := by
  unfold X12_has_J56
  refine zco_p tkX12_has 2 1 (pc' := 57) (L' := [(0, .ref v0), (1, .int v1)]) (S' := [.ref v0]) rfl ?_
  refine zco_gr fl_12_105 rfl (zdk (cc := cX12_has) (q := (57, .getfield 105, 3)) tkX12_has 3 rfl) (fun x1 => ?_)
  refine zco_p tkX12_has 4 3 (pc' := 64) (L' := [(0, .ref v0), (1, .int v1)]) (S' := [.int (6 + v1), .ref x1]) rfl ?_
  refine zco_iaload (zdk (cc := cX12_has) (q := (64, .iaload, 1)) tkX12_has 7 rfl) (fun x2 => ?_)
  exact zco_iret rfl rfl rfl (zdk (cc := cX12_has) (q := (65, .ireturn, 1)) tkX12_has 8 rfl)
set_option maxHeartbeats 2000000 in
set_option maxRecDepth 20000 in
theorem coX12_has (l : Launch) (e : Nat) (he : 1 ≤ e) (v0 : Nat) (v1 : Int32) : zCo l (e + 1) 0 0 iX12_has 0 [(0, .ref v0), (1, .int v1)] [] (X12_has v0 v1) := by
  unfold X12_has
  refine zco_p tkX12_has 0 1 (pc' := 1) (L' := [(0, .ref v0), (1, .int v1)]) (S' := [.int v1]) rfl ?_
  refine @zco_tab l (e + 1) 0 0 iX12_has 1 [(0, .ref v0), (1, .int v1)] [] _ v1 108 0 9 #[55, 55, 55, 65, 72, 79, 84, 89, 98, 103] 55 (zdk (cc := cX12_has) (q := (1, .tableswitch 108 0 9 #[55, 55, 55, 65, 72, 79, 84, 89, 98, 103], 55)) tkX12_has 1 rfl) 109 rfl [56, 56, 56, 66, 73, 80, 85, 90, 99, 104] (X12_has_S1 v0 v1) (by decide) (by decide) ?_ (fun j t ht => ?_)
  · refine zco_p tkX12_has 36 1 (pc' := 110) (L' := [(0, .ref v0), (1, .int v1)]) (S' := [.int ((-1))]) rfl ?_
    exact zco_iret rfl rfl rfl (zdk (cc := cX12_has) (q := (110, .ireturn, 1)) tkX12_has 37 rfl)
  · match j, ht with
    | 0, ht =>
      cases ht
      show zCo l (e + 1) 0 0 iX12_has 56 [(0, .ref v0), (1, .int v1)] [] (X12_has_J56 v0 v1)
      exact zco_sub [0, 1] rfl (coX12_has_J56 l e he v0 v1)
    | 1, ht =>
      cases ht
      show zCo l (e + 1) 0 0 iX12_has 56 [(0, .ref v0), (1, .int v1)] [] (X12_has_J56 v0 v1)
      exact zco_sub [0, 1] rfl (coX12_has_J56 l e he v0 v1)
    | 2, ht =>
      cases ht
      show zCo l (e + 1) 0 0 iX12_has 56 [(0, .ref v0), (1, .int v1)] [] (X12_has_J56 v0 v1)
      exact zco_sub [0, 1] rfl (coX12_has_J56 l e he v0 v1)
    | 3, ht =>
      cases ht
      show zCo l (e + 1) 0 0 iX12_has 66 [(0, .ref v0), (1, .int v1)] [] (z_gr 12 52 v0 fun x1 => z_la 20 x1 0 fun x2 => z_ret (some (.int x2)))
      refine zco_p tkX12_has 9 1 (pc' := 67) (L' := [(0, .ref v0), (1, .int v1)]) (S' := [.ref v0]) rfl ?_
      refine zco_gr fl_12_134 rfl (zdk (cc := cX12_has) (q := (67, .getfield 134, 3)) tkX12_has 10 rfl) (fun x1 => ?_)
      refine zco_p tkX12_has 11 1 (pc' := 71) (L' := [(0, .ref v0), (1, .int v1)]) (S' := [.int 0, .ref x1]) rfl ?_
      refine zco_iaload (zdk (cc := cX12_has) (q := (71, .iaload, 1)) tkX12_has 12 rfl) (fun x2 => ?_)
      exact zco_iret rfl rfl rfl (zdk (cc := cX12_has) (q := (72, .ireturn, 1)) tkX12_has 13 rfl)
    | 4, ht =>
      cases ht
      show zCo l (e + 1) 0 0 iX12_has 73 [(0, .ref v0), (1, .int v1)] [] (z_gr 12 52 v0 fun x3 => z_la 20 x3 1 fun x4 => z_ret (some (.int x4)))
      refine zco_p tkX12_has 14 1 (pc' := 74) (L' := [(0, .ref v0), (1, .int v1)]) (S' := [.ref v0]) rfl ?_
      refine zco_gr fl_12_134 rfl (zdk (cc := cX12_has) (q := (74, .getfield 134, 3)) tkX12_has 15 rfl) (fun x3 => ?_)
      refine zco_p tkX12_has 16 1 (pc' := 78) (L' := [(0, .ref v0), (1, .int v1)]) (S' := [.int 1, .ref x3]) rfl ?_
      refine zco_iaload (zdk (cc := cX12_has) (q := (78, .iaload, 1)) tkX12_has 17 rfl) (fun x4 => ?_)
      exact zco_iret rfl rfl rfl (zdk (cc := cX12_has) (q := (79, .ireturn, 1)) tkX12_has 18 rfl)
    | 5, ht =>
      cases ht
      show zCo l (e + 1) 0 0 iX12_has 80 [(0, .ref v0), (1, .int v1)] [] (z_rc 12 v0 (z_ci (X12_roundMany v0) fun y5 => z_ret (some (.int y5))))
      refine zco_p tkX12_has 19 1 (pc' := 81) (L' := [(0, .ref v0), (1, .int v1)]) (S' := [.ref v0]) rfl ?_
      refine zco_Vi (rc := 0) (rs := 0) (mc := 0) (ms := 0) (As := []) (S := []) vmX12_roundMany (mtX12_roundMany l e (by omega) v0) q_1924 rfl rfl (Nat.le_of_ble_eq_true rfl) (zdk (cc := cX12_has) (q := (81, .invokevirtual 518, 3)) tkX12_has 20 rfl) (fun y5 => ?_)
      exact zco_iret rfl rfl rfl (zdk (cc := cX12_has) (q := (84, .ireturn, 1)) tkX12_has 21 rfl)
    | 6, ht =>
      cases ht
      show zCo l (e + 1) 0 0 iX12_has 85 [(0, .ref v0), (1, .int v1)] [] (z_rc 12 v0 (z_ci (X12_wedMany v0) fun y6 => z_ret (some (.int y6))))
      refine zco_p tkX12_has 22 1 (pc' := 86) (L' := [(0, .ref v0), (1, .int v1)]) (S' := [.ref v0]) rfl ?_
      refine zco_Vi (rc := 0) (rs := 0) (mc := 0) (ms := 0) (As := []) (S := []) vmX12_wedMany (mtX12_wedMany l e (by omega) v0) q_1928 rfl rfl (Nat.le_of_ble_eq_true rfl) (zdk (cc := cX12_has) (q := (86, .invokevirtual 533, 3)) tkX12_has 23 rfl) (fun y6 => ?_)
      exact zco_iret rfl rfl rfl (zdk (cc := cX12_has) (q := (89, .ireturn, 1)) tkX12_has 24 rfl)
    | 7, ht =>
      cases ht
      show zCo l (e + 1) 0 0 iX12_has 90 [(0, .ref v0), (1, .int v1)] [] (z_gr 12 52 v0 fun x7 => z_la 20 x7 182 fun x8 => z_ret (some (.int x8)))
      refine zco_p tkX12_has 25 1 (pc' := 91) (L' := [(0, .ref v0), (1, .int v1)]) (S' := [.ref v0]) rfl ?_
      refine zco_gr fl_12_134 rfl (zdk (cc := cX12_has) (q := (91, .getfield 134, 3)) tkX12_has 26 rfl) (fun x7 => ?_)
      refine zco_p tkX12_has 27 1 (pc' := 97) (L' := [(0, .ref v0), (1, .int v1)]) (S' := [.int 182, .ref x7]) rfl ?_
      refine zco_iaload (zdk (cc := cX12_has) (q := (97, .iaload, 1)) tkX12_has 28 rfl) (fun x8 => ?_)
      exact zco_iret rfl rfl rfl (zdk (cc := cX12_has) (q := (98, .ireturn, 1)) tkX12_has 29 rfl)
    | 8, ht =>
      cases ht
      show zCo l (e + 1) 0 0 iX12_has 99 [(0, .ref v0), (1, .int v1)] [] (z_gi 12 71 v0 fun x9 => z_ret (some (.int x9)))
      refine zco_p tkX12_has 30 1 (pc' := 100) (L' := [(0, .ref v0), (1, .int v1)]) (S' := [.ref v0]) rfl ?_
      refine zco_gi fl_12_413 rfl (zdk (cc := cX12_has) (q := (100, .getfield 413, 3)) tkX12_has 31 rfl) (fun x9 => ?_)
      exact zco_iret rfl rfl rfl (zdk (cc := cX12_has) (q := (103, .ireturn, 1)) tkX12_has 32 rfl)
    | 9, ht =>
      cases ht
      show zCo l (e + 1) 0 0 iX12_has 104 [(0, .ref v0), (1, .int v1)] [] (z_gi 12 75 v0 fun x10 => z_ret (some (.int x10)))
      refine zco_p tkX12_has 33 1 (pc' := 105) (L' := [(0, .ref v0), (1, .int v1)]) (S' := [.ref v0]) rfl ?_
      refine zco_gi fl_12_410 rfl (zdk (cc := cX12_has) (q := (105, .getfield 410, 3)) tkX12_has 34 rfl) (fun x10 => ?_)
      exact zco_iret rfl rfl rfl (zdk (cc := cX12_has) (q := (108, .ireturn, 1)) tkX12_has 35 rfl)
    | j + 10, ht => exact absurd ht (by simp)
theorem mtX12_has (l : Launch) (d : Nat) (hd : 2 ≤ d) (v0 : Nat) (v1 : Int32) : zMet l d 0 0 yX12_has cX12_has 2 (Option.some .int) [.ref v0, .int v1] (X12_has v0 v1) := by
  obtain ⟨e, rfl⟩ : ∃ e, d = e + 1 := ⟨d - 1, by omega⟩
  exact zmet_of (own := RX12) (ini := false) (by decide +kernel) rfl (fun _ => by contradiction) (Nat.le_of_ble_eq_true rfl) (coX12_has l e (by omega) v0 v1)
abbrev iX12_letter : zI := (RX12, cX12_letter, 8, (Option.some .int), false)
def tX12_letter : List (Nat × Instr × Nat) := [(0, .aload_n 0, 1), (1, .iload_n 1, 1), (2, .i2l, 1), (3, .invokevirtual 422, 3), (6, .ifCond .eq 15, 3), (9, .iload_n 2, 1), (10, .i2l, 1), (11, .lconst 0, 1), (12, .ldc2_w 331, 3), (15, .invokestatic 313, 3), (18, .ifCond .ne 5, 3), (21, .iconst (-1), 1), (22, .ireturn, 1), (23, .aload_n 0, 1), (24, .getfield 108, 3), (27, .bipush 12, 2), (29, .aload_n 0, 1), (30, .iload_n 1, 1), (31, .invokevirtual 429, 3), (34, .iadd, 1), (35, .laload, 1), (36, .lstore_n 3, 1), (37, .iconst 0, 1), (38, .istore 5, 2), (40, .lload_n 3, 1), (41, .lstore 6, 2), (43, .lload 6, 2), (45, .lconst 0, 1), (46, .lcmp, 1), (47, .ifCond .le 17, 3), (50, .iinc 5 1, 3), (53, .lload 6, 2), (55, .ldc2_w 324, 3), (58, .ldiv, 1), (59, .lstore 6, 2), (61, .goto (-18), 3), (64, .iload_n 2, 1), (65, .iload 5, 2), (67, .if_icmp .lt 5, 3), (70, .iconst 0, 1), (71, .ireturn, 1), (72, .iload 5, 2), (74, .iconst 1, 1), (75, .isub, 1), (76, .istore 6, 2), (78, .iload 6, 2), (80, .iload_n 2, 1), (81, .if_icmp .le 15, 3), (84, .lload_n 3, 1), (85, .ldc2_w 324, 3), (88, .ldiv, 1), (89, .lstore_n 3, 1), (90, .iinc 6 (-1), 3), (93, .goto (-15), 3), (96, .lload_n 3, 1), (97, .ldc2_w 324, 3), (100, .lrem, 1), (101, .l2i, 1), (102, .ireturn, 1)]
set_option maxRecDepth 100000 in
theorem tkX12_letter : ∀ q ∈ tX12_letter, decode cX12_letter q.1 = .ok q.2 := by decide +kernel
theorem vmX12_letter : zVM yX12_letter cX12_letter 8 (Option.some .int) 2 12 := ⟨kX12_letter, q_1933, q_1934, q_162, ⟨_, rfl, rfl⟩, by decide +kernel, by decide⟩
set_option maxHeartbeats 2000000 in
set_option maxRecDepth 20000 in
theorem coX12_letter_J96 (l : Launch) (e : Nat) (he : 3 ≤ e) (v3 : Int64) : zCo l (e + 1) 0 0 iX12_letter 96 [(3, .long v3)] [] (X12_letter_J96 v3) := by
  unfold X12_letter_J96
  refine zco_p tkX12_letter 54 1 (pc' := 97) (L' := [(3, .long v3)]) (S' := [.long v3]) rfl ?_
  refine zco_ldc2 q_1786 (zdk (cc := cX12_letter) (q := (97, .ldc2_w 324, 3)) tkX12_letter 55 rfl) ?_
  refine zco_lrem (zdk (cc := cX12_letter) (q := (100, .lrem, 1)) tkX12_letter 56 rfl) ?_
  refine zco_p tkX12_letter 57 1 (pc' := 102) (L' := [(3, .long v3)]) (S' := [.int ((v3 - v3 / 27 * 27 : Int64).toInt32)]) rfl ?_
  exact zco_iret rfl rfl rfl (zdk (cc := cX12_letter) (q := (102, .ireturn, 1)) tkX12_letter 58 rfl)
set_option maxHeartbeats 2000000 in
set_option maxRecDepth 20000 in
theorem coX12_letter_B78 (l : Launch) (e : Nat) (he : 3 ≤ e) (v2 : Int32) (r78 : Int64 × Int32 → zM) (hr78 : ∀ x : Int64 × Int32, zCo l (e + 1) 0 0 iX12_letter 78 [(2, .int v2), (3, .long x.1), (6, .int x.2)] [] (r78 x)) (v3 : Int64) (v6 : Int32) : zCo l (e + 1) 0 0 iX12_letter 78 [(2, .int v2), (3, .long v3), (6, .int v6)] [] (X12_letter_B78 v2 r78 v3 v6) := by
  unfold X12_letter_B78
  refine zco_p tkX12_letter 45 2 (pc' := 81) (L' := [(2, .int v2), (3, .long v3), (6, .int v6)]) (S' := [.int v2, .int v6]) rfl ?_
  refine zco_icmp_le (tgt := 96) (zdk (cc := cX12_letter) (q := (81, .if_icmp .le 15, 3)) tkX12_letter 47 rfl) rfl ?_ ?_
  · exact zco_sub [1] rfl (coX12_letter_J96 l e he v3)
  · refine zco_p tkX12_letter 48 1 (pc' := 85) (L' := [(2, .int v2), (3, .long v3), (6, .int v6)]) (S' := [.long v3]) rfl ?_
    refine zco_ldc2 q_1786 (zdk (cc := cX12_letter) (q := (85, .ldc2_w 324, 3)) tkX12_letter 49 rfl) ?_
    refine zco_ldiv (zdk (cc := cX12_letter) (q := (88, .ldiv, 1)) tkX12_letter 50 rfl) ?_
    refine zco_p tkX12_letter 51 3 (pc' := 78) (L' := [(6, .int (v6 + (-1))), (3, .long (v3 / 27)), (2, .int v2)]) (S' := []) rfl ?_
    exact zco_sub [2, 1, 0] rfl (hr78 (v3 / 27, v6 + (-1)))
set_option maxHeartbeats 2000000 in
set_option maxRecDepth 20000 in
theorem coX12_letter_J64 (l : Launch) (e : Nat) (he : 3 ≤ e) (v2 : Int32) (v3 : Int64) (v5 : Int32) : zCo l (e + 1) 0 0 iX12_letter 64 [(2, .int v2), (3, .long v3), (5, .int v5)] [] (X12_letter_J64 v2 v3 v5) := by
  unfold X12_letter_J64
  refine zco_p tkX12_letter 36 2 (pc' := 67) (L' := [(2, .int v2), (3, .long v3), (5, .int v5)]) (S' := [.int v5, .int v2]) rfl ?_
  refine zco_icmp_lt (tgt := 72) (zdk (cc := cX12_letter) (q := (67, .if_icmp .lt 5, 3)) tkX12_letter 38 rfl) rfl ?_ ?_
  · refine zco_p tkX12_letter 41 4 (pc' := 78) (L' := [(6, .int (v5 - 1)), (2, .int v2), (3, .long v3), (5, .int v5)]) (S' := []) rfl ?_
    exact zco_sub [1, 2, 0] rfl (zco_fix (Lf := fun x : Int64 × Int32 => [(2, .int v2), (3, .long x.1), (6, .int x.2)]) (Sf := fun _ => []) (fun r hr x => coX12_letter_B78 l e he v2 r hr x.1 x.2) zFU (v3, v5 - 1))
  · refine zco_p tkX12_letter 39 1 (pc' := 71) (L' := [(2, .int v2), (3, .long v3), (5, .int v5)]) (S' := [.int 0]) rfl ?_
    exact zco_iret rfl rfl rfl (zdk (cc := cX12_letter) (q := (71, .ireturn, 1)) tkX12_letter 40 rfl)
set_option maxHeartbeats 2000000 in
set_option maxRecDepth 20000 in
theorem coX12_letter_B43 (l : Launch) (e : Nat) (he : 3 ≤ e) (v2 : Int32) (v3 : Int64) (r43 : Int32 × Int64 → zM) (hr43 : ∀ x : Int32 × Int64, zCo l (e + 1) 0 0 iX12_letter 43 [(2, .int v2), (3, .long v3), (5, .int x.1), (6, .long x.2)] [] (r43 x)) (v5 : Int32) (v6 : Int64) : zCo l (e + 1) 0 0 iX12_letter 43 [(2, .int v2), (3, .long v3), (5, .int v5), (6, .long v6)] [] (X12_letter_B43 v2 v3 r43 v5 v6) := by
  unfold X12_letter_B43
  refine zco_p tkX12_letter 26 2 (pc' := 46) (L' := [(2, .int v2), (3, .long v3), (5, .int v5), (6, .long v6)]) (S' := [.long 0, .long v6]) rfl ?_
  refine zco_lcmp_le (tgt := 64) (zdk (cc := cX12_letter) (q := (46, .lcmp, 1)) tkX12_letter 28 rfl) (zdk (cc := cX12_letter) (q := (47, .ifCond .le 17, 3)) tkX12_letter 29 rfl) rfl ?_ ?_
  · exact zco_sub [0, 1, 2] rfl (coX12_letter_J64 l e he v2 v3 v5)
  · refine zco_p tkX12_letter 30 2 (pc' := 55) (L' := [(5, .int (v5 + 1)), (2, .int v2), (3, .long v3), (6, .long v6)]) (S' := [.long v6]) rfl ?_
    refine zco_ldc2 q_1786 (zdk (cc := cX12_letter) (q := (55, .ldc2_w 324, 3)) tkX12_letter 32 rfl) ?_
    refine zco_ldiv (zdk (cc := cX12_letter) (q := (58, .ldiv, 1)) tkX12_letter 33 rfl) ?_
    refine zco_p tkX12_letter 34 2 (pc' := 43) (L' := [(6, .long (v6 / 27)), (5, .int (v5 + 1)), (2, .int v2), (3, .long v3)]) (S' := []) rfl ?_
    exact zco_sub [2, 3, 1, 0] rfl (hr43 (v5 + 1, v6 / 27))
set_option maxHeartbeats 2000000 in
set_option maxRecDepth 20000 in
theorem coX12_letter (l : Launch) (e : Nat) (he : 3 ≤ e) (v0 : Nat) (v1 : Int32) (v2 : Int32) : zCo l (e + 1) 0 0 iX12_letter 0 [(0, .ref v0), (1, .int v1), (2, .int v2)] [] (X12_letter v0 v1 v2) := by
  unfold X12_letter
  refine zco_p tkX12_letter 0 3 (pc' := 3) (L' := [(0, .ref v0), (1, .int v1), (2, .int v2)]) (S' := [.long v1.toInt64, .ref v0]) rfl ?_
  refine zco_Vi (rc := 0) (rs := 0) (mc := 0) (ms := 0) (As := [.long v1.toInt64]) (S := []) vmX12_isPerson (mtX12_isPerson l e (by omega) v0 v1.toInt64) q_1936 rfl rfl (Nat.le_of_ble_eq_true rfl) (zdk (cc := cX12_letter) (q := (3, .invokevirtual 422, 3)) tkX12_letter 3 rfl) (fun y1 => ?_)
  refine zco_if_eq (tgt := 21) (zdk (cc := cX12_letter) (q := (6, .ifCond .eq 15, 3)) tkX12_letter 4 rfl) rfl ?_ ?_
  · refine zco_p tkX12_letter 11 1 (pc' := 22) (L' := [(0, .ref v0), (1, .int v1), (2, .int v2)]) (S' := [.int ((-1))]) rfl ?_
    exact zco_iret rfl rfl rfl (zdk (cc := cX12_letter) (q := (22, .ireturn, 1)) tkX12_letter 12 rfl)
  · refine zco_p tkX12_letter 5 3 (pc' := 12) (L' := [(0, .ref v0), (1, .int v1), (2, .int v2)]) (S' := [.long 0, .long v2.toInt64]) rfl ?_
    refine zco_ldc2 q_1854 (zdk (cc := cX12_letter) (q := (12, .ldc2_w 331, 3)) tkX12_letter 8 rfl) ?_
    refine zco_Si (rc := 0) (rs := 0) (mc := 0) (ms := 0) (As := [.long v2.toInt64, .long 0, .long 5]) (S := []) vmX12_isIn (mtX12_isIn l e (by omega) v2.toInt64 0 5) q_1799 rfl rfl (Nat.le_of_ble_eq_true rfl) (zdk (cc := cX12_letter) (q := (15, .invokestatic 313, 3)) tkX12_letter 9 rfl) (fun y2 => ?_)
    refine zco_if_ne (tgt := 23) (zdk (cc := cX12_letter) (q := (18, .ifCond .ne 5, 3)) tkX12_letter 10 rfl) rfl ?_ ?_
    · refine zco_p tkX12_letter 13 1 (pc' := 24) (L' := [(0, .ref v0), (1, .int v1), (2, .int v2)]) (S' := [.ref v0]) rfl ?_
      refine zco_gr fl_12_108 rfl (zdk (cc := cX12_letter) (q := (24, .getfield 108, 3)) tkX12_letter 14 rfl) (fun x3 => ?_)
      refine zco_p tkX12_letter 15 3 (pc' := 31) (L' := [(0, .ref v0), (1, .int v1), (2, .int v2)]) (S' := [.int v1, .ref v0, .int 12, .ref x3]) rfl ?_
      refine zco_Vi (rc := 0) (rs := 0) (mc := 0) (ms := 0) (As := [.int v1]) (S := [.int 12, .ref x3]) vmX12_codeOf (mtX12_codeOf l e (by omega) v0 v1) q_1948 rfl rfl (Nat.le_of_ble_eq_true rfl) (zdk (cc := cX12_letter) (q := (31, .invokevirtual 429, 3)) tkX12_letter 18 rfl) (fun y4 => ?_)
      refine zco_p tkX12_letter 19 1 (pc' := 35) (L' := [(0, .ref v0), (1, .int v1), (2, .int v2)]) (S' := [.int (12 + y4), .ref x3]) rfl ?_
      refine zco_laload (zdk (cc := cX12_letter) (q := (35, .laload, 1)) tkX12_letter 20 rfl) (fun x5 => ?_)
      refine zco_p tkX12_letter 21 5 (pc' := 43) (L' := [(6, .long x5), (5, .int 0), (3, .long x5), (0, .ref v0), (1, .int v1), (2, .int v2)]) (S' := []) rfl ?_
      exact zco_sub [5, 2, 1, 0] rfl (zco_fix (Lf := fun x : Int32 × Int64 => [(2, .int v2), (3, .long x5), (5, .int x.1), (6, .long x.2)]) (Sf := fun _ => []) (fun r hr x => coX12_letter_B43 l e he v2 x5 r hr x.1 x.2) zFU (0, x5))
    · refine zco_p tkX12_letter 11 1 (pc' := 22) (L' := [(0, .ref v0), (1, .int v1), (2, .int v2)]) (S' := [.int ((-1))]) rfl ?_
      exact zco_iret rfl rfl rfl (zdk (cc := cX12_letter) (q := (22, .ireturn, 1)) tkX12_letter 12 rfl)
theorem mtX12_letter (l : Launch) (d : Nat) (hd : 4 ≤ d) (v0 : Nat) (v1 : Int32) (v2 : Int32) : zMet l d 0 0 yX12_letter cX12_letter 8 (Option.some .int) [.ref v0, .int v1, .int v2] (X12_letter v0 v1 v2) := by
  obtain ⟨e, rfl⟩ : ∃ e, d = e + 1 := ⟨d - 1, by omega⟩
  exact zmet_of (own := RX12) (ini := false) (by decide +kernel) rfl (fun _ => by contradiction) (Nat.le_of_ble_eq_true rfl) (coX12_letter l e (by omega) v0 v1 v2)
abbrev iX12_placeOf : zI := (RX12, cX12_placeOf, 4, (Option.some .int), false)
def tX12_placeOf : List (Nat × Instr × Nat) := [(0, .iconst 2, 1), (1, .bipush 6, 2), (3, .iload_n 1, 1), (4, .bipush 6, 2), (6, .idiv, 1), (7, .imul, 1), (8, .iadd, 1), (9, .istore_n 2, 1), (10, .iconst 0, 1), (11, .istore_n 3, 1), (12, .aload_n 0, 1), (13, .getfield 134, 3), (16, .iload_n 2, 1), (17, .iload_n 3, 1), (18, .iadd, 1), (19, .iaload, 1), (20, .iload_n 1, 1), (21, .bipush 6, 2), (23, .irem, 1), (24, .if_icmp .eq 9, 3), (27, .iinc 3 1, 3), (30, .goto (-18), 3), (33, .iload_n 3, 1), (34, .ireturn, 1)]
set_option maxRecDepth 100000 in
theorem tkX12_placeOf : ∀ q ∈ tX12_placeOf, decode cX12_placeOf q.1 = .ok q.2 := by decide +kernel
theorem vmX12_placeOf : zVM yX12_placeOf cX12_placeOf 4 (Option.some .int) 1 12 := ⟨kX12_placeOf, q_1986, q_97, q_162, ⟨_, rfl, rfl⟩, by decide +kernel, by decide⟩
set_option maxHeartbeats 2000000 in
set_option maxRecDepth 20000 in
theorem coX12_placeOf_B12 (l : Launch) (e : Nat) (he : 0 ≤ e) (v0 : Nat) (v1 : Int32) (v2 : Int32) (r12 : Int32 → zM) (hr12 : ∀ x : Int32, zCo l (e + 1) 0 0 iX12_placeOf 12 [(0, .ref v0), (1, .int v1), (2, .int v2), (3, .int x)] [] (r12 x)) (v3 : Int32) : zCo l (e + 1) 0 0 iX12_placeOf 12 [(0, .ref v0), (1, .int v1), (2, .int v2), (3, .int v3)] [] (X12_placeOf_B12 v0 v1 v2 r12 v3) := by
  unfold X12_placeOf_B12
  refine zco_p tkX12_placeOf 10 1 (pc' := 13) (L' := [(0, .ref v0), (1, .int v1), (2, .int v2), (3, .int v3)]) (S' := [.ref v0]) rfl ?_
  refine zco_gr fl_12_134 rfl (zdk (cc := cX12_placeOf) (q := (13, .getfield 134, 3)) tkX12_placeOf 11 rfl) (fun x1 => ?_)
  refine zco_p tkX12_placeOf 12 3 (pc' := 19) (L' := [(0, .ref v0), (1, .int v1), (2, .int v2), (3, .int v3)]) (S' := [.int (v2 + v3), .ref x1]) rfl ?_
  refine zco_iaload (zdk (cc := cX12_placeOf) (q := (19, .iaload, 1)) tkX12_placeOf 15 rfl) (fun x2 => ?_)
  refine zco_p tkX12_placeOf 16 2 (pc' := 23) (L' := [(0, .ref v0), (1, .int v1), (2, .int v2), (3, .int v3)]) (S' := [.int 6, .int v1, .int x2]) rfl ?_
  refine zco_irem (zdk (cc := cX12_placeOf) (q := (23, .irem, 1)) tkX12_placeOf 18 rfl) ?_
  refine zco_icmp_eq (tgt := 33) (zdk (cc := cX12_placeOf) (q := (24, .if_icmp .eq 9, 3)) tkX12_placeOf 19 rfl) rfl ?_ ?_
  · refine zco_p tkX12_placeOf 22 1 (pc' := 34) (L' := [(0, .ref v0), (1, .int v1), (2, .int v2), (3, .int v3)]) (S' := [.int v3]) rfl ?_
    exact zco_iret rfl rfl rfl (zdk (cc := cX12_placeOf) (q := (34, .ireturn, 1)) tkX12_placeOf 23 rfl)
  · refine zco_p tkX12_placeOf 20 2 (pc' := 12) (L' := [(3, .int (v3 + 1)), (0, .ref v0), (1, .int v1), (2, .int v2)]) (S' := []) rfl ?_
    exact zco_sub [1, 2, 3, 0] rfl (hr12 (v3 + 1))
set_option maxHeartbeats 2000000 in
set_option maxRecDepth 20000 in
theorem coX12_placeOf (l : Launch) (e : Nat) (he : 0 ≤ e) (v0 : Nat) (v1 : Int32) : zCo l (e + 1) 0 0 iX12_placeOf 0 [(0, .ref v0), (1, .int v1)] [] (X12_placeOf v0 v1) := by
  unfold X12_placeOf
  refine zco_p tkX12_placeOf 0 4 (pc' := 6) (L' := [(0, .ref v0), (1, .int v1)]) (S' := [.int 6, .int v1, .int 6, .int 2]) rfl ?_
  refine zco_idiv (zdk (cc := cX12_placeOf) (q := (6, .idiv, 1)) tkX12_placeOf 4 rfl) ?_
  refine zco_p tkX12_placeOf 5 5 (pc' := 12) (L' := [(3, .int 0), (2, .int (2 + (6 * (v1 / 6)))), (0, .ref v0), (1, .int v1)]) (S' := []) rfl ?_
  exact zco_sub [2, 3, 1, 0] rfl (zco_fix (Lf := fun x : Int32 => [(0, .ref v0), (1, .int v1), (2, .int (2 + (6 * (v1 / 6)))), (3, .int x)]) (Sf := fun _ => []) (fun r hr x => coX12_placeOf_B12 l e he v0 v1 (2 + (6 * (v1 / 6))) r hr x) zFU 0)
theorem mtX12_placeOf (l : Launch) (d : Nat) (hd : 1 ≤ d) (v0 : Nat) (v1 : Int32) : zMet l d 0 0 yX12_placeOf cX12_placeOf 4 (Option.some .int) [.ref v0, .int v1] (X12_placeOf v0 v1) := by
  obtain ⟨e, rfl⟩ : ∃ e, d = e + 1 := ⟨d - 1, by omega⟩
  exact zmet_of (own := RX12) (ini := false) (by decide +kernel) rfl (fun _ => by contradiction) (Nat.le_of_ble_eq_true rfl) (coX12_placeOf l e (by omega) v0 v1)
abbrev iX12_toldOf : zI := (RX12, cX12_toldOf, 2, (Option.some .int), false)
def tX12_toldOf : List (Nat × Instr × Nat) := [(0, .iload_n 1, 1), (1, .iconst (-1), 1), (2, .if_icmp .ne 7, 3), (5, .iconst (-1), 1), (6, .goto 8, 3), (9, .aload_n 0, 1), (10, .iload_n 1, 1), (11, .invokevirtual 455, 3), (14, .ireturn, 1)]
set_option maxRecDepth 100000 in
theorem tkX12_toldOf : ∀ q ∈ tX12_toldOf, decode cX12_toldOf q.1 = .ok q.2 := by decide +kernel
theorem vmX12_toldOf : zVM yX12_toldOf cX12_toldOf 2 (Option.some .int) 1 12 := ⟨kX12_toldOf, q_1974, q_94, q_162, ⟨_, rfl, rfl⟩, by decide +kernel, by decide⟩
set_option maxHeartbeats 2000000 in
set_option maxRecDepth 20000 in
theorem coX12_toldOf (l : Launch) (e : Nat) (he : 2 ≤ e) (v0 : Nat) (v1 : Int32) : zCo l (e + 1) 0 0 iX12_toldOf 0 [(0, .ref v0), (1, .int v1)] [] (X12_toldOf v0 v1) := by
  unfold X12_toldOf
  refine zco_p tkX12_toldOf 0 2 (pc' := 2) (L' := [(0, .ref v0), (1, .int v1)]) (S' := [.int ((-1)), .int v1]) rfl ?_
  refine zco_icmp_ne (tgt := 9) (zdk (cc := cX12_toldOf) (q := (2, .if_icmp .ne 7, 3)) tkX12_toldOf 2 rfl) rfl ?_ ?_
  · refine zco_p tkX12_toldOf 5 2 (pc' := 11) (L' := [(0, .ref v0), (1, .int v1)]) (S' := [.int v1, .ref v0]) rfl ?_
    refine zco_Vi (rc := 0) (rs := 0) (mc := 0) (ms := 0) (As := [.int v1]) (S := []) vmX12_numberOf (mtX12_numberOf l e (by omega) v0 v1) q_1976 rfl rfl (Nat.le_of_ble_eq_true rfl) (zdk (cc := cX12_toldOf) (q := (11, .invokevirtual 455, 3)) tkX12_toldOf 7 rfl) (fun y1 => ?_)
    exact zco_iret rfl rfl rfl (zdk (cc := cX12_toldOf) (q := (14, .ireturn, 1)) tkX12_toldOf 8 rfl)
  · refine zco_p tkX12_toldOf 3 2 (pc' := 14) (L' := [(0, .ref v0), (1, .int v1)]) (S' := [.int ((-1))]) rfl ?_
    exact zco_iret rfl rfl rfl (zdk (cc := cX12_toldOf) (q := (14, .ireturn, 1)) tkX12_toldOf 8 rfl)
theorem mtX12_toldOf (l : Launch) (d : Nat) (hd : 3 ≤ d) (v0 : Nat) (v1 : Int32) : zMet l d 0 0 yX12_toldOf cX12_toldOf 2 (Option.some .int) [.ref v0, .int v1] (X12_toldOf v0 v1) := by
  obtain ⟨e, rfl⟩ : ∃ e, d = e + 1 := ⟨d - 1, by omega⟩
  exact zmet_of (own := RX12) (ini := false) (by decide +kernel) rfl (fun _ => by contradiction) (Nat.le_of_ble_eq_true rfl) (coX12_toldOf l e (by omega) v0 v1)
abbrev iX12_person : zI := (RX12, cX12_person, 3, (Option.some .int), false)
def tX12_person : List (Nat × Instr × Nat) := [(0, .aload_n 0, 1), (1, .iload_n 1, 1), (2, .i2l, 1), (3, .invokevirtual 422, 3), (6, .ifCond .ne 5, 3), (9, .iconst (-1), 1), (10, .ireturn, 1), (11, .aload_n 0, 1), (12, .invokevirtual 506, 3), (15, .iload_n 2, 1), (16, .tableswitch 92 0 6 #[44, 44, 44, 51, 61, 67, 77], 44), (60, .aload_n 0, 1), (61, .iload_n 1, 1), (62, .iload_n 2, 1), (63, .invokevirtual 536, 3), (66, .ireturn, 1), (67, .aload_n 0, 1), (68, .aload_n 0, 1), (69, .iload_n 1, 1), (70, .invokevirtual 521, 3), (73, .invokevirtual 539, 3), (76, .ireturn, 1), (77, .aload_n 0, 1), (78, .iload_n 1, 1), (79, .invokevirtual 524, 3), (82, .ireturn, 1), (83, .aload_n 0, 1), (84, .aload_n 0, 1), (85, .iload_n 1, 1), (86, .invokevirtual 429, 3), (89, .invokevirtual 542, 3), (92, .ireturn, 1), (93, .aload_n 0, 1), (94, .aload_n 0, 1), (95, .getfield 140, 3), (98, .aload_n 0, 1), (99, .iload_n 1, 1), (100, .invokevirtual 429, 3), (103, .iaload, 1), (104, .invokevirtual 539, 3), (107, .ireturn, 1), (108, .iconst (-1), 1), (109, .ireturn, 1)]
set_option maxRecDepth 100000 in
theorem tkX12_person : ∀ q ∈ tX12_person, decode cX12_person q.1 = .ok q.2 := by decide +kernel
theorem vmX12_person : zVM yX12_person cX12_person 3 (Option.some .int) 2 12 := ⟨kX12_person, q_1953, q_1954, q_162, ⟨_, rfl, rfl⟩, by decide +kernel, by decide⟩
set_option maxHeartbeats 2000000 in
set_option maxRecDepth 20000 in
theorem coX12_person_J60 (l : Launch) (e : Nat) (he : 3 ≤ e) (v0 : Nat) (v1 : Int32) (v2 : Int32) : zCo l (e + 1) 0 0 iX12_person 60 [(0, .ref v0), (1, .int v1), (2, .int v2)] [] (X12_person_J60 v0 v1 v2) := by
  unfold X12_person_J60
  refine zco_p tkX12_person 11 3 (pc' := 63) (L' := [(0, .ref v0), (1, .int v1), (2, .int v2)]) (S' := [.int v2, .int v1, .ref v0]) rfl ?_
  refine zco_Vi (rc := 0) (rs := 0) (mc := 0) (ms := 0) (As := [.int v1, .int v2]) (S := []) vmX12_handOf (mtX12_handOf l e (by omega) v0 v1 v2) q_1964 rfl rfl (Nat.le_of_ble_eq_true rfl) (zdk (cc := cX12_person) (q := (63, .invokevirtual 536, 3)) tkX12_person 14 rfl) (fun y1 => ?_)
  exact zco_iret rfl rfl rfl (zdk (cc := cX12_person) (q := (66, .ireturn, 1)) tkX12_person 15 rfl)
set_option maxHeartbeats 2000000 in
set_option maxRecDepth 20000 in
theorem coX12_person (l : Launch) (e : Nat) (he : 3 ≤ e) (v0 : Nat) (v1 : Int32) (v2 : Int32) : zCo l (e + 1) 0 0 iX12_person 0 [(0, .ref v0), (1, .int v1), (2, .int v2)] [] (X12_person v0 v1 v2) := by
  unfold X12_person
  refine zco_p tkX12_person 0 3 (pc' := 3) (L' := [(0, .ref v0), (1, .int v1), (2, .int v2)]) (S' := [.long v1.toInt64, .ref v0]) rfl ?_
  refine zco_Vi (rc := 0) (rs := 0) (mc := 0) (ms := 0) (As := [.long v1.toInt64]) (S := []) vmX12_isPerson (mtX12_isPerson l e (by omega) v0 v1.toInt64) q_1936 rfl rfl (Nat.le_of_ble_eq_true rfl) (zdk (cc := cX12_person) (q := (3, .invokevirtual 422, 3)) tkX12_person 3 rfl) (fun y1 => ?_)
  refine zco_if_ne (tgt := 11) (zdk (cc := cX12_person) (q := (6, .ifCond .ne 5, 3)) tkX12_person 4 rfl) rfl ?_ ?_
  · refine zco_p tkX12_person 7 1 (pc' := 12) (L' := [(0, .ref v0), (1, .int v1), (2, .int v2)]) (S' := [.ref v0]) rfl ?_
    refine zco_Vv (rc := 0) (rs := 0) (mc := 0) (ms := 0) (As := []) (S := []) vmX12_laysHands (mtX12_laysHands l e (by omega) v0) q_1956 rfl rfl (Nat.le_of_ble_eq_true rfl) (zdk (cc := cX12_person) (q := (12, .invokevirtual 506, 3)) tkX12_person 8 rfl) ?_
    refine zco_p tkX12_person 9 1 (pc' := 16) (L' := [(0, .ref v0), (1, .int v1), (2, .int v2)]) (S' := [.int v2]) rfl ?_
    refine @zco_tab l (e + 1) 0 0 iX12_person 16 [(0, .ref v0), (1, .int v1), (2, .int v2)] [] _ v2 92 0 6 #[44, 44, 44, 51, 61, 67, 77] 44 (zdk (cc := cX12_person) (q := (16, .tableswitch 92 0 6 #[44, 44, 44, 51, 61, 67, 77], 44)) tkX12_person 10 rfl) 108 rfl [60, 60, 60, 67, 77, 83, 93] (X12_person_S16 v0 v1 v2) (by decide) (by decide) ?_ (fun j t ht => ?_)
    · refine zco_p tkX12_person 41 1 (pc' := 109) (L' := [(0, .ref v0), (1, .int v1), (2, .int v2)]) (S' := [.int ((-1))]) rfl ?_
      exact zco_iret rfl rfl rfl (zdk (cc := cX12_person) (q := (109, .ireturn, 1)) tkX12_person 42 rfl)
    · match j, ht with
      | 0, ht =>
        cases ht
        show zCo l (e + 1) 0 0 iX12_person 60 [(0, .ref v0), (1, .int v1), (2, .int v2)] [] (X12_person_J60 v0 v1 v2)
        exact zco_sub [0, 1, 2] rfl (coX12_person_J60 l e he v0 v1 v2)
      | 1, ht =>
        cases ht
        show zCo l (e + 1) 0 0 iX12_person 60 [(0, .ref v0), (1, .int v1), (2, .int v2)] [] (X12_person_J60 v0 v1 v2)
        exact zco_sub [0, 1, 2] rfl (coX12_person_J60 l e he v0 v1 v2)
      | 2, ht =>
        cases ht
        show zCo l (e + 1) 0 0 iX12_person 60 [(0, .ref v0), (1, .int v1), (2, .int v2)] [] (X12_person_J60 v0 v1 v2)
        exact zco_sub [0, 1, 2] rfl (coX12_person_J60 l e he v0 v1 v2)
      | 3, ht =>
        cases ht
        show zCo l (e + 1) 0 0 iX12_person 67 [(0, .ref v0), (1, .int v1), (2, .int v2)] [] (z_rc 12 v0 (z_ci (X12_wedTo v0 v1) fun y2 => z_rc 12 v0 (z_ci (X12_toldOf v0 y2) fun y3 => z_ret (some (.int y3)))))
        refine zco_p tkX12_person 16 3 (pc' := 70) (L' := [(0, .ref v0), (1, .int v1), (2, .int v2)]) (S' := [.int v1, .ref v0, .ref v0]) rfl ?_
        refine zco_Vi (rc := 0) (rs := 0) (mc := 0) (ms := 0) (As := [.int v1]) (S := [.ref v0]) vmX12_wedTo (mtX12_wedTo l e (by omega) v0 v1) q_1968 rfl rfl (Nat.le_of_ble_eq_true rfl) (zdk (cc := cX12_person) (q := (70, .invokevirtual 521, 3)) tkX12_person 19 rfl) (fun y2 => ?_)
        refine zco_Vi (rc := 0) (rs := 0) (mc := 0) (ms := 0) (As := [.int y2]) (S := []) vmX12_toldOf (mtX12_toldOf l e (by omega) v0 y2) q_1972 rfl rfl (Nat.le_of_ble_eq_true rfl) (zdk (cc := cX12_person) (q := (73, .invokevirtual 539, 3)) tkX12_person 20 rfl) (fun y3 => ?_)
        exact zco_iret rfl rfl rfl (zdk (cc := cX12_person) (q := (76, .ireturn, 1)) tkX12_person 21 rfl)
      | 4, ht =>
        cases ht
        show zCo l (e + 1) 0 0 iX12_person 77 [(0, .ref v0), (1, .int v1), (2, .int v2)] [] (z_rc 12 v0 (z_ci (X12_waitedOf v0 v1) fun y4 => z_ret (some (.int y4))))
        refine zco_p tkX12_person 22 2 (pc' := 79) (L' := [(0, .ref v0), (1, .int v1), (2, .int v2)]) (S' := [.int v1, .ref v0]) rfl ?_
        refine zco_Vi (rc := 0) (rs := 0) (mc := 0) (ms := 0) (As := [.int v1]) (S := []) vmX12_waitedOf (mtX12_waitedOf l e (by omega) v0 v1) q_1980 rfl rfl (Nat.le_of_ble_eq_true rfl) (zdk (cc := cX12_person) (q := (79, .invokevirtual 524, 3)) tkX12_person 24 rfl) (fun y4 => ?_)
        exact zco_iret rfl rfl rfl (zdk (cc := cX12_person) (q := (82, .ireturn, 1)) tkX12_person 25 rfl)
      | 5, ht =>
        cases ht
        show zCo l (e + 1) 0 0 iX12_person 83 [(0, .ref v0), (1, .int v1), (2, .int v2)] [] (z_rc 12 v0 (z_ci (X12_codeOf v0 v1) fun y5 => z_rc 12 v0 (z_ci (X12_placeOf v0 y5) fun y6 => z_ret (some (.int y6)))))
        refine zco_p tkX12_person 26 3 (pc' := 86) (L' := [(0, .ref v0), (1, .int v1), (2, .int v2)]) (S' := [.int v1, .ref v0, .ref v0]) rfl ?_
        refine zco_Vi (rc := 0) (rs := 0) (mc := 0) (ms := 0) (As := [.int v1]) (S := [.ref v0]) vmX12_codeOf (mtX12_codeOf l e (by omega) v0 v1) q_1948 rfl rfl (Nat.le_of_ble_eq_true rfl) (zdk (cc := cX12_person) (q := (86, .invokevirtual 429, 3)) tkX12_person 29 rfl) (fun y5 => ?_)
        refine zco_Vi (rc := 0) (rs := 0) (mc := 0) (ms := 0) (As := [.int y5]) (S := []) vmX12_placeOf (mtX12_placeOf l e (by omega) v0 y5) q_1984 rfl rfl (Nat.le_of_ble_eq_true rfl) (zdk (cc := cX12_person) (q := (89, .invokevirtual 542, 3)) tkX12_person 30 rfl) (fun y6 => ?_)
        exact zco_iret rfl rfl rfl (zdk (cc := cX12_person) (q := (92, .ireturn, 1)) tkX12_person 31 rfl)
      | 6, ht =>
        cases ht
        show zCo l (e + 1) 0 0 iX12_person 93 [(0, .ref v0), (1, .int v1), (2, .int v2)] [] (z_gr 12 61 v0 fun x7 => z_rc 12 v0 (z_ci (X12_codeOf v0 v1) fun y8 => z_la 20 x7 y8 fun x9 => z_rc 12 v0 (z_ci (X12_toldOf v0 x9) fun y10 => z_ret (some (.int y10)))))
        refine zco_p tkX12_person 32 2 (pc' := 95) (L' := [(0, .ref v0), (1, .int v1), (2, .int v2)]) (S' := [.ref v0, .ref v0]) rfl ?_
        refine zco_gr fl_12_140 rfl (zdk (cc := cX12_person) (q := (95, .getfield 140, 3)) tkX12_person 34 rfl) (fun x7 => ?_)
        refine zco_p tkX12_person 35 2 (pc' := 100) (L' := [(0, .ref v0), (1, .int v1), (2, .int v2)]) (S' := [.int v1, .ref v0, .ref x7, .ref v0]) rfl ?_
        refine zco_Vi (rc := 0) (rs := 0) (mc := 0) (ms := 0) (As := [.int v1]) (S := [.ref x7, .ref v0]) vmX12_codeOf (mtX12_codeOf l e (by omega) v0 v1) q_1948 rfl rfl (Nat.le_of_ble_eq_true rfl) (zdk (cc := cX12_person) (q := (100, .invokevirtual 429, 3)) tkX12_person 37 rfl) (fun y8 => ?_)
        refine zco_iaload (zdk (cc := cX12_person) (q := (103, .iaload, 1)) tkX12_person 38 rfl) (fun x9 => ?_)
        refine zco_Vi (rc := 0) (rs := 0) (mc := 0) (ms := 0) (As := [.int x9]) (S := []) vmX12_toldOf (mtX12_toldOf l e (by omega) v0 x9) q_1972 rfl rfl (Nat.le_of_ble_eq_true rfl) (zdk (cc := cX12_person) (q := (104, .invokevirtual 539, 3)) tkX12_person 39 rfl) (fun y10 => ?_)
        exact zco_iret rfl rfl rfl (zdk (cc := cX12_person) (q := (107, .ireturn, 1)) tkX12_person 40 rfl)
      | j + 7, ht => exact absurd ht (by simp)
  · refine zco_p tkX12_person 5 1 (pc' := 10) (L' := [(0, .ref v0), (1, .int v1), (2, .int v2)]) (S' := [.int ((-1))]) rfl ?_
    exact zco_iret rfl rfl rfl (zdk (cc := cX12_person) (q := (10, .ireturn, 1)) tkX12_person 6 rfl)
theorem mtX12_person (l : Launch) (d : Nat) (hd : 4 ≤ d) (v0 : Nat) (v1 : Int32) (v2 : Int32) : zMet l d 0 0 yX12_person cX12_person 3 (Option.some .int) [.ref v0, .int v1, .int v2] (X12_person v0 v1 v2) := by
  obtain ⟨e, rfl⟩ : ∃ e, d = e + 1 := ⟨d - 1, by omega⟩
  exact zmet_of (own := RX12) (ini := false) (by decide +kernel) rfl (fun _ => by contradiction) (Nat.le_of_ble_eq_true rfl) (coX12_person l e (by omega) v0 v1 v2)
abbrev iX12_pair : zI := (RX12, cX12_pair, 4, (Option.some .int), false)
def tX12_pair : List (Nat × Instr × Nat) := [(0, .aload_n 0, 1), (1, .iload_n 1, 1), (2, .i2l, 1), (3, .iload_n 2, 1), (4, .i2l, 1), (5, .invokevirtual 545, 3), (8, .ifCond .ne 5, 3), (11, .iconst (-1), 1), (12, .ireturn, 1), (13, .iload_n 3, 1), (14, .tableswitch 109 0 4 #[34, 41, 48, 63, 86], 34), (48, .aload_n 0, 1), (49, .iload_n 1, 1), (50, .iload_n 2, 1), (51, .invokevirtual 549, 3), (54, .ireturn, 1), (55, .aload_n 0, 1), (56, .iload_n 1, 1), (57, .iload_n 2, 1), (58, .invokevirtual 552, 3), (61, .ireturn, 1), (62, .aload_n 0, 1), (63, .aload_n 0, 1), (64, .iload_n 1, 1), (65, .invokevirtual 429, 3), (68, .aload_n 0, 1), (69, .iload_n 2, 1), (70, .invokevirtual 429, 3), (73, .invokevirtual 484, 3), (76, .ireturn, 1), (77, .aload_n 0, 1), (78, .aload_n 0, 1), (79, .iload_n 1, 1), (80, .invokevirtual 429, 3), (83, .aload_n 0, 1), (84, .iload_n 2, 1), (85, .invokevirtual 429, 3), (88, .invokevirtual 509, 3), (91, .ifCond .eq 7, 3), (94, .iconst 1, 1), (95, .goto 4, 3), (98, .iconst 0, 1), (99, .ireturn, 1), (100, .aload_n 0, 1), (101, .aload_n 0, 1), (102, .iload_n 1, 1), (103, .invokevirtual 429, 3), (106, .aload_n 0, 1), (107, .iload_n 2, 1), (108, .invokevirtual 429, 3), (111, .invokevirtual 496, 3), (114, .ifCond .eq 7, 3), (117, .iconst 1, 1), (118, .goto 4, 3), (121, .iconst 0, 1), (122, .ireturn, 1), (123, .iconst (-1), 1), (124, .ireturn, 1)]
set_option maxRecDepth 100000 in
theorem tkX12_pair : ∀ q ∈ tX12_pair, decode cX12_pair q.1 = .ok q.2 := by decide +kernel
theorem vmX12_pair : zVM yX12_pair cX12_pair 4 (Option.some .int) 3 12 := ⟨kX12_pair, q_1989, q_1990, q_162, ⟨_, rfl, rfl⟩, by decide +kernel, by decide⟩
set_option maxHeartbeats 2000000 in
set_option maxRecDepth 20000 in
theorem coX12_pair (l : Launch) (e : Nat) (he : 7 ≤ e) (v0 : Nat) (v1 : Int32) (v2 : Int32) (v3 : Int32) : zCo l (e + 1) 0 0 iX12_pair 0 [(0, .ref v0), (1, .int v1), (2, .int v2), (3, .int v3)] [] (X12_pair v0 v1 v2 v3) := by
  unfold X12_pair
  refine zco_p tkX12_pair 0 5 (pc' := 5) (L' := [(0, .ref v0), (1, .int v1), (2, .int v2), (3, .int v3)]) (S' := [.long v2.toInt64, .long v1.toInt64, .ref v0]) rfl ?_
  refine zco_Vi (rc := 0) (rs := 0) (mc := 0) (ms := 0) (As := [.long v1.toInt64, .long v2.toInt64]) (S := []) vmX12_areTwo (mtX12_areTwo l e (by omega) v0 v1.toInt64 v2.toInt64) q_1992 rfl rfl (Nat.le_of_ble_eq_true rfl) (zdk (cc := cX12_pair) (q := (5, .invokevirtual 545, 3)) tkX12_pair 5 rfl) (fun y1 => ?_)
  refine zco_if_ne (tgt := 13) (zdk (cc := cX12_pair) (q := (8, .ifCond .ne 5, 3)) tkX12_pair 6 rfl) rfl ?_ ?_
  · refine zco_p tkX12_pair 9 1 (pc' := 14) (L' := [(0, .ref v0), (1, .int v1), (2, .int v2), (3, .int v3)]) (S' := [.int v3]) rfl ?_
    refine @zco_tab l (e + 1) 0 0 iX12_pair 14 [(0, .ref v0), (1, .int v1), (2, .int v2), (3, .int v3)] [] _ v3 109 0 4 #[34, 41, 48, 63, 86] 34 (zdk (cc := cX12_pair) (q := (14, .tableswitch 109 0 4 #[34, 41, 48, 63, 86], 34)) tkX12_pair 10 rfl) 123 rfl [48, 55, 62, 77, 100] (X12_pair_S14 v0 v1 v2) (by decide) (by decide) ?_ (fun j t ht => ?_)
    · refine zco_p tkX12_pair 56 1 (pc' := 124) (L' := [(0, .ref v0), (1, .int v1), (2, .int v2), (3, .int v3)]) (S' := [.int ((-1))]) rfl ?_
      exact zco_iret rfl rfl rfl (zdk (cc := cX12_pair) (q := (124, .ireturn, 1)) tkX12_pair 57 rfl)
    · match j, ht with
      | 0, ht =>
        cases ht
        show zCo l (e + 1) 0 0 iX12_pair 48 [(0, .ref v0), (1, .int v1), (2, .int v2), (3, .int v3)] [] (z_rc 12 v0 (z_ci (X12_likingOf v0 v1 v2) fun y2 => z_ret (some (.int y2))))
        refine zco_p tkX12_pair 11 3 (pc' := 51) (L' := [(0, .ref v0), (1, .int v1), (2, .int v2), (3, .int v3)]) (S' := [.int v2, .int v1, .ref v0]) rfl ?_
        refine zco_Vi (rc := 0) (rs := 0) (mc := 0) (ms := 0) (As := [.int v1, .int v2]) (S := []) vmX12_likingOf (mtX12_likingOf l e (by omega) v0 v1 v2) q_2000 rfl rfl (Nat.le_of_ble_eq_true rfl) (zdk (cc := cX12_pair) (q := (51, .invokevirtual 549, 3)) tkX12_pair 14 rfl) (fun y2 => ?_)
        exact zco_iret rfl rfl rfl (zdk (cc := cX12_pair) (q := (54, .ireturn, 1)) tkX12_pair 15 rfl)
      | 1, ht =>
        cases ht
        show zCo l (e + 1) 0 0 iX12_pair 55 [(0, .ref v0), (1, .int v1), (2, .int v2), (3, .int v3)] [] (z_rc 12 v0 (z_ci (X12_knowingOf v0 v1 v2) fun y3 => z_ret (some (.int y3))))
        refine zco_p tkX12_pair 16 3 (pc' := 58) (L' := [(0, .ref v0), (1, .int v1), (2, .int v2), (3, .int v3)]) (S' := [.int v2, .int v1, .ref v0]) rfl ?_
        refine zco_Vi (rc := 0) (rs := 0) (mc := 0) (ms := 0) (As := [.int v1, .int v2]) (S := []) vmX12_knowingOf (mtX12_knowingOf l e (by omega) v0 v1 v2) q_2008 rfl rfl (Nat.le_of_ble_eq_true rfl) (zdk (cc := cX12_pair) (q := (58, .invokevirtual 552, 3)) tkX12_pair 19 rfl) (fun y3 => ?_)
        exact zco_iret rfl rfl rfl (zdk (cc := cX12_pair) (q := (61, .ireturn, 1)) tkX12_pair 20 rfl)
      | 2, ht =>
        cases ht
        show zCo l (e + 1) 0 0 iX12_pair 62 [(0, .ref v0), (1, .int v1), (2, .int v2), (3, .int v3)] [] (z_rc 12 v0 (z_ci (X12_codeOf v0 v1) fun y4 => z_rc 12 v0 (z_ci (X12_codeOf v0 v2) fun y5 => z_rc 12 v0 (z_ci (X12_feltBy v0 y4 y5) fun y6 => z_ret (some (.int y6))))))
        refine zco_p tkX12_pair 21 3 (pc' := 65) (L' := [(0, .ref v0), (1, .int v1), (2, .int v2), (3, .int v3)]) (S' := [.int v1, .ref v0, .ref v0]) rfl ?_
        refine zco_Vi (rc := 0) (rs := 0) (mc := 0) (ms := 0) (As := [.int v1]) (S := [.ref v0]) vmX12_codeOf (mtX12_codeOf l e (by omega) v0 v1) q_1948 rfl rfl (Nat.le_of_ble_eq_true rfl) (zdk (cc := cX12_pair) (q := (65, .invokevirtual 429, 3)) tkX12_pair 24 rfl) (fun y4 => ?_)
        refine zco_p tkX12_pair 25 2 (pc' := 70) (L' := [(0, .ref v0), (1, .int v1), (2, .int v2), (3, .int v3)]) (S' := [.int v2, .ref v0, .int y4, .ref v0]) rfl ?_
        refine zco_Vi (rc := 0) (rs := 0) (mc := 0) (ms := 0) (As := [.int v2]) (S := [.int y4, .ref v0]) vmX12_codeOf (mtX12_codeOf l e (by omega) v0 v2) q_1948 rfl rfl (Nat.le_of_ble_eq_true rfl) (zdk (cc := cX12_pair) (q := (70, .invokevirtual 429, 3)) tkX12_pair 27 rfl) (fun y5 => ?_)
        refine zco_Vi (rc := 0) (rs := 0) (mc := 0) (ms := 0) (As := [.int y4, .int y5]) (S := []) vmX12_feltBy (mtX12_feltBy l e (by omega) v0 y4 y5) q_2016 rfl rfl (Nat.le_of_ble_eq_true rfl) (zdk (cc := cX12_pair) (q := (73, .invokevirtual 484, 3)) tkX12_pair 28 rfl) (fun y6 => ?_)
        exact zco_iret rfl rfl rfl (zdk (cc := cX12_pair) (q := (76, .ireturn, 1)) tkX12_pair 29 rfl)
      | 3, ht =>
        cases ht
        show zCo l (e + 1) 0 0 iX12_pair 77 [(0, .ref v0), (1, .int v1), (2, .int v2), (3, .int v3)] [] (z_rc 12 v0 (z_ci (X12_codeOf v0 v1) fun y7 => z_rc 12 v0 (z_ci (X12_codeOf v0 v2) fun y8 => z_rc 12 v0 (z_ci (X12_doesLet v0 y7 y8) fun y9 => z_if (y9 = 0) (z_ret (some (.int 0)))  (z_ret (some (.int 1)))))))
        refine zco_p tkX12_pair 30 3 (pc' := 80) (L' := [(0, .ref v0), (1, .int v1), (2, .int v2), (3, .int v3)]) (S' := [.int v1, .ref v0, .ref v0]) rfl ?_
        refine zco_Vi (rc := 0) (rs := 0) (mc := 0) (ms := 0) (As := [.int v1]) (S := [.ref v0]) vmX12_codeOf (mtX12_codeOf l e (by omega) v0 v1) q_1948 rfl rfl (Nat.le_of_ble_eq_true rfl) (zdk (cc := cX12_pair) (q := (80, .invokevirtual 429, 3)) tkX12_pair 33 rfl) (fun y7 => ?_)
        refine zco_p tkX12_pair 34 2 (pc' := 85) (L' := [(0, .ref v0), (1, .int v1), (2, .int v2), (3, .int v3)]) (S' := [.int v2, .ref v0, .int y7, .ref v0]) rfl ?_
        refine zco_Vi (rc := 0) (rs := 0) (mc := 0) (ms := 0) (As := [.int v2]) (S := [.int y7, .ref v0]) vmX12_codeOf (mtX12_codeOf l e (by omega) v0 v2) q_1948 rfl rfl (Nat.le_of_ble_eq_true rfl) (zdk (cc := cX12_pair) (q := (85, .invokevirtual 429, 3)) tkX12_pair 36 rfl) (fun y8 => ?_)
        refine zco_Vi (rc := 0) (rs := 0) (mc := 0) (ms := 0) (As := [.int y7, .int y8]) (S := []) vmX12_doesLet (mtX12_doesLet l e (by omega) v0 y7 y8) q_2055 rfl rfl (Nat.le_of_ble_eq_true rfl) (zdk (cc := cX12_pair) (q := (88, .invokevirtual 509, 3)) tkX12_pair 37 rfl) (fun y9 => ?_)
        refine zco_if_eq (tgt := 98) (zdk (cc := cX12_pair) (q := (91, .ifCond .eq 7, 3)) tkX12_pair 38 rfl) rfl ?_ ?_
        · refine zco_p tkX12_pair 41 1 (pc' := 99) (L' := [(0, .ref v0), (1, .int v1), (2, .int v2), (3, .int v3)]) (S' := [.int 0]) rfl ?_
          exact zco_iret rfl rfl rfl (zdk (cc := cX12_pair) (q := (99, .ireturn, 1)) tkX12_pair 42 rfl)
        · refine zco_p tkX12_pair 39 2 (pc' := 99) (L' := [(0, .ref v0), (1, .int v1), (2, .int v2), (3, .int v3)]) (S' := [.int 1]) rfl ?_
          exact zco_iret rfl rfl rfl (zdk (cc := cX12_pair) (q := (99, .ireturn, 1)) tkX12_pair 42 rfl)
      | 4, ht =>
        cases ht
        show zCo l (e + 1) 0 0 iX12_pair 100 [(0, .ref v0), (1, .int v1), (2, .int v2), (3, .int v3)] [] (z_rc 12 v0 (z_ci (X12_codeOf v0 v1) fun y10 => z_rc 12 v0 (z_ci (X12_codeOf v0 v2) fun y11 => z_rc 12 v0 (z_ci (X12_areKin v0 y10 y11) fun y12 => z_if (y12 = 0) (z_ret (some (.int 0)))  (z_ret (some (.int 1)))))))
        refine zco_p tkX12_pair 43 3 (pc' := 103) (L' := [(0, .ref v0), (1, .int v1), (2, .int v2), (3, .int v3)]) (S' := [.int v1, .ref v0, .ref v0]) rfl ?_
        refine zco_Vi (rc := 0) (rs := 0) (mc := 0) (ms := 0) (As := [.int v1]) (S := [.ref v0]) vmX12_codeOf (mtX12_codeOf l e (by omega) v0 v1) q_1948 rfl rfl (Nat.le_of_ble_eq_true rfl) (zdk (cc := cX12_pair) (q := (103, .invokevirtual 429, 3)) tkX12_pair 46 rfl) (fun y10 => ?_)
        refine zco_p tkX12_pair 47 2 (pc' := 108) (L' := [(0, .ref v0), (1, .int v1), (2, .int v2), (3, .int v3)]) (S' := [.int v2, .ref v0, .int y10, .ref v0]) rfl ?_
        refine zco_Vi (rc := 0) (rs := 0) (mc := 0) (ms := 0) (As := [.int v2]) (S := [.int y10, .ref v0]) vmX12_codeOf (mtX12_codeOf l e (by omega) v0 v2) q_1948 rfl rfl (Nat.le_of_ble_eq_true rfl) (zdk (cc := cX12_pair) (q := (108, .invokevirtual 429, 3)) tkX12_pair 49 rfl) (fun y11 => ?_)
        refine zco_Vi (rc := 0) (rs := 0) (mc := 0) (ms := 0) (As := [.int y10, .int y11]) (S := []) vmX12_areKin (mtX12_areKin l e (by omega) v0 y10 y11) q_2059 rfl rfl (Nat.le_of_ble_eq_true rfl) (zdk (cc := cX12_pair) (q := (111, .invokevirtual 496, 3)) tkX12_pair 50 rfl) (fun y12 => ?_)
        refine zco_if_eq (tgt := 121) (zdk (cc := cX12_pair) (q := (114, .ifCond .eq 7, 3)) tkX12_pair 51 rfl) rfl ?_ ?_
        · refine zco_p tkX12_pair 54 1 (pc' := 122) (L' := [(0, .ref v0), (1, .int v1), (2, .int v2), (3, .int v3)]) (S' := [.int 0]) rfl ?_
          exact zco_iret rfl rfl rfl (zdk (cc := cX12_pair) (q := (122, .ireturn, 1)) tkX12_pair 55 rfl)
        · refine zco_p tkX12_pair 52 2 (pc' := 122) (L' := [(0, .ref v0), (1, .int v1), (2, .int v2), (3, .int v3)]) (S' := [.int 1]) rfl ?_
          exact zco_iret rfl rfl rfl (zdk (cc := cX12_pair) (q := (122, .ireturn, 1)) tkX12_pair 55 rfl)
      | j + 5, ht => exact absurd ht (by simp)
  · refine zco_p tkX12_pair 7 1 (pc' := 12) (L' := [(0, .ref v0), (1, .int v1), (2, .int v2), (3, .int v3)]) (S' := [.int ((-1))]) rfl ?_
    exact zco_iret rfl rfl rfl (zdk (cc := cX12_pair) (q := (12, .ireturn, 1)) tkX12_pair 8 rfl)
theorem mtX12_pair (l : Launch) (d : Nat) (hd : 8 ≤ d) (v0 : Nat) (v1 : Int32) (v2 : Int32) (v3 : Int32) : zMet l d 0 0 yX12_pair cX12_pair 4 (Option.some .int) [.ref v0, .int v1, .int v2, .int v3] (X12_pair v0 v1 v2 v3) := by
  obtain ⟨e, rfl⟩ : ∃ e, d = e + 1 := ⟨d - 1, by omega⟩
  exact zmet_of (own := RX12) (ini := false) (by decide +kernel) rfl (fun _ => by contradiction) (Nat.le_of_ble_eq_true rfl) (coX12_pair l e (by omega) v0 v1 v2 v3)
