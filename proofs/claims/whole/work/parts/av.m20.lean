abbrev iX12_tells : zI := (RX12, cX12_tells, 10, (Option.some .int), false)
def tX12_tells : List (Nat × Instr × Nat) := [(0, .aload_n 0, 1), (1, .iload_n 1, 1), (2, .i2l, 1), (3, .invokevirtual 422, 3), (6, .ifCond .eq 15, 3), (9, .iload_n 2, 1), (10, .i2l, 1), (11, .lconst 0, 1), (12, .ldc2_w 602, 3), (15, .invokestatic 313, 3), (18, .ifCond .ne 5, 3), (21, .iconst (-1), 1), (22, .ireturn, 1), (23, .aload_n 0, 1), (24, .iload_n 1, 1), (25, .invokevirtual 599, 3), (28, .istore_n 3, 1), (29, .iconst (-1), 1), (30, .istore 4, 2), (32, .iconst (-1), 1), (33, .istore 5, 2), (35, .iconst 0, 1), (36, .istore 6, 2), (38, .iconst 1, 1), (39, .istore 7, 2), (41, .iload_n 3, 1), (42, .ifCond .eq 78, 3), (45, .aload_n 0, 1), (46, .iload 7, 2), (48, .iconst 1, 1), (49, .bipush 30, 2), (51, .invokevirtual 557, 3), (54, .ifCond .eq 66, 3), (57, .iconst 0, 1), (58, .istore 8, 2), (60, .iload 8, 2), (62, .aload_n 0, 1), (63, .invokevirtual 419, 3), (66, .if_icmp .ge 48, 3), (69, .aload_n 0, 1), (70, .iload_n 3, 1), (71, .iload 7, 2), (73, .iload 8, 2), (75, .invokevirtual 604, 3), (78, .istore 9, 2), (80, .iload 4, 2), (82, .iconst (-1), 1), (83, .if_icmp .eq 13, 3), (86, .iload 9, 2), (88, .iload 6, 2), (90, .if_icmp .lt 6, 3), (93, .goto 15, 3), (96, .iload 7, 2), (98, .istore 4, 2), (100, .iload 8, 2), (102, .istore 5, 2), (104, .iload 9, 2), (106, .istore 6, 2), (108, .iinc 8 1, 3), (111, .goto (-51), 3), (114, .iinc 7 1, 3), (117, .goto (-76), 3), (120, .iload 4, 2), (122, .iconst (-1), 1), (123, .if_icmp .ne 7, 3), (126, .iconst (-1), 1), (127, .goto 24, 3), (130, .iload_n 2, 1), (131, .ifCond .ne 8, 3), (134, .iload 4, 2), (136, .goto 15, 3), (139, .iload_n 2, 1), (140, .iconst 1, 1), (141, .if_icmp .ne 8, 3), (144, .iload 5, 2), (146, .goto 5, 3), (149, .iload 6, 2), (151, .ireturn, 1)]
set_option maxRecDepth 100000 in
theorem tkX12_tells : ∀ q ∈ tX12_tells, decode cX12_tells q.1 = .ok q.2 := by decide +kernel
theorem vmX12_tells : zVM yX12_tells cX12_tells 10 (Option.some .int) 2 12 := ⟨kX12_tells, q_2188, q_2189, q_162, ⟨_, rfl, rfl⟩, by decide +kernel, by decide⟩
set_option maxHeartbeats 2000000 in
set_option maxRecDepth 20000 in
theorem coX12_tells_J120 (l : Launch) (e : Nat) (he : 9 ≤ e) (v2 : Int32) (v4 : Int32) (v5 : Int32) (v6 : Int32) : zCo l (e + 1) 0 0 iX12_tells 120 [(2, .int v2), (4, .int v4), (5, .int v5), (6, .int v6)] [] (X12_tells_J120 v2 v4 v5 v6) := by
  unfold X12_tells_J120
  refine zco_p tkX12_tells 62 2 (pc' := 123) (L' := [(2, .int v2), (4, .int v4), (5, .int v5), (6, .int v6)]) (S' := [.int ((-1)), .int v4]) rfl ?_
  refine zco_icmp_ne (tgt := 130) (zdk (cc := cX12_tells) (q := (123, .if_icmp .ne 7, 3)) tkX12_tells 64 rfl) rfl ?_ ?_
  · refine zco_p tkX12_tells 67 1 (pc' := 131) (L' := [(2, .int v2), (4, .int v4), (5, .int v5), (6, .int v6)]) (S' := [.int v2]) rfl ?_
    refine zco_if_ne (tgt := 139) (zdk (cc := cX12_tells) (q := (131, .ifCond .ne 8, 3)) tkX12_tells 68 rfl) rfl ?_ ?_
    · refine zco_p tkX12_tells 71 2 (pc' := 141) (L' := [(2, .int v2), (4, .int v4), (5, .int v5), (6, .int v6)]) (S' := [.int 1, .int v2]) rfl ?_
      refine zco_icmp_ne (tgt := 149) (zdk (cc := cX12_tells) (q := (141, .if_icmp .ne 8, 3)) tkX12_tells 73 rfl) rfl ?_ ?_
      · refine zco_p tkX12_tells 76 1 (pc' := 151) (L' := [(2, .int v2), (4, .int v4), (5, .int v5), (6, .int v6)]) (S' := [.int v6]) rfl ?_
        exact zco_iret rfl rfl rfl (zdk (cc := cX12_tells) (q := (151, .ireturn, 1)) tkX12_tells 77 rfl)
      · refine zco_p tkX12_tells 74 2 (pc' := 151) (L' := [(2, .int v2), (4, .int v4), (5, .int v5), (6, .int v6)]) (S' := [.int v5]) rfl ?_
        exact zco_iret rfl rfl rfl (zdk (cc := cX12_tells) (q := (151, .ireturn, 1)) tkX12_tells 77 rfl)
    · refine zco_p tkX12_tells 69 2 (pc' := 151) (L' := [(2, .int v2), (4, .int v4), (5, .int v5), (6, .int v6)]) (S' := [.int v4]) rfl ?_
      exact zco_iret rfl rfl rfl (zdk (cc := cX12_tells) (q := (151, .ireturn, 1)) tkX12_tells 77 rfl)
  · refine zco_p tkX12_tells 65 2 (pc' := 151) (L' := [(2, .int v2), (4, .int v4), (5, .int v5), (6, .int v6)]) (S' := [.int ((-1))]) rfl ?_
    exact zco_iret rfl rfl rfl (zdk (cc := cX12_tells) (q := (151, .ireturn, 1)) tkX12_tells 77 rfl)
set_option maxHeartbeats 2000000 in
set_option maxRecDepth 20000 in
theorem coX12_tells_J114 (l : Launch) (e : Nat) (he : 9 ≤ e) (v0 : Nat) (v2 : Int32) (v3 : Int32) (v4 : Int32) (v5 : Int32) (v6 : Int32) (v7 : Int32) (r41 : Int32 × Int32 × Int32 × Int32 → zM) (hr41 : ∀ x : Int32 × Int32 × Int32 × Int32, zCo l (e + 1) 0 0 iX12_tells 41 [(0, .ref v0), (2, .int v2), (3, .int v3), (4, .int x.1), (5, .int x.2.1), (6, .int x.2.2.1), (7, .int x.2.2.2)] [] (r41 x)) : zCo l (e + 1) 0 0 iX12_tells 114 [(0, .ref v0), (2, .int v2), (3, .int v3), (4, .int v4), (5, .int v5), (6, .int v6), (7, .int v7)] [] (X12_tells_J114 r41 v0 v2 v3 v4 v5 v6 v7) := by
  unfold X12_tells_J114
  refine zco_p tkX12_tells 60 2 (pc' := 41) (L' := [(7, .int (v7 + 1)), (0, .ref v0), (2, .int v2), (3, .int v3), (4, .int v4), (5, .int v5), (6, .int v6)]) (S' := []) rfl ?_
  exact zco_sub [1, 2, 3, 4, 5, 6, 0] rfl (hr41 (v4, v5, v6, v7 + 1))
set_option maxHeartbeats 2000000 in
set_option maxRecDepth 20000 in
theorem coX12_tells_J108 (l : Launch) (e : Nat) (he : 9 ≤ e) (v0 : Nat) (v2 : Int32) (v3 : Int32) (v4 : Int32) (v5 : Int32) (v6 : Int32) (v7 : Int32) (v8 : Int32) (r41 : Int32 × Int32 × Int32 × Int32 → zM) (hr41 : ∀ x : Int32 × Int32 × Int32 × Int32, zCo l (e + 1) 0 0 iX12_tells 41 [(0, .ref v0), (2, .int v2), (3, .int v3), (4, .int x.1), (5, .int x.2.1), (6, .int x.2.2.1), (7, .int x.2.2.2)] [] (r41 x)) (r60 : Int32 × Int32 × Int32 × Int32 → zM) (hr60 : ∀ x : Int32 × Int32 × Int32 × Int32, zCo l (e + 1) 0 0 iX12_tells 60 [(0, .ref v0), (2, .int v2), (3, .int v3), (4, .int x.1), (5, .int x.2.1), (6, .int x.2.2.1), (7, .int v7), (8, .int x.2.2.2)] [] (r60 x)) : zCo l (e + 1) 0 0 iX12_tells 108 [(0, .ref v0), (2, .int v2), (3, .int v3), (4, .int v4), (5, .int v5), (6, .int v6), (7, .int v7), (8, .int v8)] [] (X12_tells_J108 r41 r60 v0 v2 v3 v4 v5 v6 v7 v8) := by
  unfold X12_tells_J108
  refine zco_p tkX12_tells 58 2 (pc' := 60) (L' := [(8, .int (v8 + 1)), (0, .ref v0), (2, .int v2), (3, .int v3), (4, .int v4), (5, .int v5), (6, .int v6), (7, .int v7)]) (S' := []) rfl ?_
  exact zco_sub [1, 2, 3, 4, 5, 6, 7, 0] rfl (hr60 (v4, v5, v6, v8 + 1))
set_option maxHeartbeats 2000000 in
set_option maxRecDepth 20000 in
theorem coX12_tells_J96 (l : Launch) (e : Nat) (he : 9 ≤ e) (v0 : Nat) (v2 : Int32) (v3 : Int32) (v7 : Int32) (v8 : Int32) (v9 : Int32) (r41 : Int32 × Int32 × Int32 × Int32 → zM) (hr41 : ∀ x : Int32 × Int32 × Int32 × Int32, zCo l (e + 1) 0 0 iX12_tells 41 [(0, .ref v0), (2, .int v2), (3, .int v3), (4, .int x.1), (5, .int x.2.1), (6, .int x.2.2.1), (7, .int x.2.2.2)] [] (r41 x)) (r60 : Int32 × Int32 × Int32 × Int32 → zM) (hr60 : ∀ x : Int32 × Int32 × Int32 × Int32, zCo l (e + 1) 0 0 iX12_tells 60 [(0, .ref v0), (2, .int v2), (3, .int v3), (4, .int x.1), (5, .int x.2.1), (6, .int x.2.2.1), (7, .int v7), (8, .int x.2.2.2)] [] (r60 x)) : zCo l (e + 1) 0 0 iX12_tells 96 [(0, .ref v0), (2, .int v2), (3, .int v3), (7, .int v7), (8, .int v8), (9, .int v9)] [] (X12_tells_J96 r41 r60 v0 v2 v3 v7 v8 v9) := by
  unfold X12_tells_J96
  refine zco_p tkX12_tells 52 6 (pc' := 108) (L' := [(6, .int v9), (5, .int v8), (4, .int v7), (0, .ref v0), (2, .int v2), (3, .int v3), (7, .int v7), (8, .int v8), (9, .int v9)]) (S' := []) rfl ?_
  exact zco_sub [3, 4, 5, 2, 1, 0, 6, 7] rfl (coX12_tells_J108 l e he v0 v2 v3 v7 v8 v9 v7 v8 r41 hr41 r60 hr60)
set_option maxHeartbeats 2000000 in
set_option maxRecDepth 20000 in
theorem coX12_tells_B60 (l : Launch) (e : Nat) (he : 9 ≤ e) (v0 : Nat) (v2 : Int32) (v3 : Int32) (v7 : Int32) (r41 : Int32 × Int32 × Int32 × Int32 → zM) (hr41 : ∀ x : Int32 × Int32 × Int32 × Int32, zCo l (e + 1) 0 0 iX12_tells 41 [(0, .ref v0), (2, .int v2), (3, .int v3), (4, .int x.1), (5, .int x.2.1), (6, .int x.2.2.1), (7, .int x.2.2.2)] [] (r41 x)) (r60 : Int32 × Int32 × Int32 × Int32 → zM) (hr60 : ∀ x : Int32 × Int32 × Int32 × Int32, zCo l (e + 1) 0 0 iX12_tells 60 [(0, .ref v0), (2, .int v2), (3, .int v3), (4, .int x.1), (5, .int x.2.1), (6, .int x.2.2.1), (7, .int v7), (8, .int x.2.2.2)] [] (r60 x)) (v4 : Int32) (v5 : Int32) (v6 : Int32) (v8 : Int32) : zCo l (e + 1) 0 0 iX12_tells 60 [(0, .ref v0), (2, .int v2), (3, .int v3), (4, .int v4), (5, .int v5), (6, .int v6), (7, .int v7), (8, .int v8)] [] (X12_tells_B60 r41 v0 v2 v3 v7 r60 v4 v5 v6 v8) := by
  unfold X12_tells_B60
  refine zco_p tkX12_tells 35 2 (pc' := 63) (L' := [(0, .ref v0), (2, .int v2), (3, .int v3), (4, .int v4), (5, .int v5), (6, .int v6), (7, .int v7), (8, .int v8)]) (S' := [.ref v0, .int v8]) rfl ?_
  refine zco_Vi (rc := 0) (rs := 0) (mc := 0) (ms := 0) (As := []) (S := [.int v8]) vmX12_peopleMany (mtX12_peopleMany l e (by omega) v0) q_1940 rfl rfl (Nat.le_of_ble_eq_true rfl) (zdk (cc := cX12_tells) (q := (63, .invokevirtual 419, 3)) tkX12_tells 37 rfl) (fun y1 => ?_)
  refine zco_icmp_ge (tgt := 114) (zdk (cc := cX12_tells) (q := (66, .if_icmp .ge 48, 3)) tkX12_tells 38 rfl) rfl ?_ ?_
  · exact zco_sub [0, 1, 2, 3, 4, 5, 6] rfl (coX12_tells_J114 l e he v0 v2 v3 v4 v5 v6 v7 r41 hr41)
  · refine zco_p tkX12_tells 39 4 (pc' := 75) (L' := [(0, .ref v0), (2, .int v2), (3, .int v3), (4, .int v4), (5, .int v5), (6, .int v6), (7, .int v7), (8, .int v8)]) (S' := [.int v8, .int v7, .int v3, .ref v0]) rfl ?_
    refine zco_Vi (rc := 0) (rs := 0) (mc := 0) (ms := 0) (As := [.int v3, .int v7, .int v8]) (S := []) vmX12_mostAlike (mtX12_mostAlike l e (by omega) v0 v3 v7 v8) q_2192 rfl rfl (Nat.le_of_ble_eq_true rfl) (zdk (cc := cX12_tells) (q := (75, .invokevirtual 604, 3)) tkX12_tells 43 rfl) (fun y2 => ?_)
    refine zco_p tkX12_tells 44 3 (pc' := 83) (L' := [(9, .int y2), (0, .ref v0), (2, .int v2), (3, .int v3), (4, .int v4), (5, .int v5), (6, .int v6), (7, .int v7), (8, .int v8)]) (S' := [.int ((-1)), .int v4]) rfl ?_
    refine zco_icmp_eq (tgt := 96) (zdk (cc := cX12_tells) (q := (83, .if_icmp .eq 13, 3)) tkX12_tells 47 rfl) rfl ?_ ?_
    · exact zco_sub [1, 2, 3, 7, 8, 0] rfl (coX12_tells_J96 l e he v0 v2 v3 v7 v8 y2 r41 hr41 r60 hr60)
    · refine zco_p tkX12_tells 48 2 (pc' := 90) (L' := [(9, .int y2), (0, .ref v0), (2, .int v2), (3, .int v3), (4, .int v4), (5, .int v5), (6, .int v6), (7, .int v7), (8, .int v8)]) (S' := [.int v6, .int y2]) rfl ?_
      refine zco_icmp_lt (tgt := 96) (zdk (cc := cX12_tells) (q := (90, .if_icmp .lt 6, 3)) tkX12_tells 50 rfl) rfl ?_ ?_
      · exact zco_sub [1, 2, 3, 7, 8, 0] rfl (coX12_tells_J96 l e he v0 v2 v3 v7 v8 y2 r41 hr41 r60 hr60)
      · refine zco_p tkX12_tells 51 1 (pc' := 108) (L' := [(9, .int y2), (0, .ref v0), (2, .int v2), (3, .int v3), (4, .int v4), (5, .int v5), (6, .int v6), (7, .int v7), (8, .int v8)]) (S' := []) rfl ?_
        exact zco_sub [1, 2, 3, 4, 5, 6, 7, 8] rfl (coX12_tells_J108 l e he v0 v2 v3 v4 v5 v6 v7 v8 r41 hr41 r60 hr60)
set_option maxHeartbeats 2000000 in
set_option maxRecDepth 20000 in
theorem coX12_tells_B41 (l : Launch) (e : Nat) (he : 9 ≤ e) (v0 : Nat) (v2 : Int32) (v3 : Int32) (r41 : Int32 × Int32 × Int32 × Int32 → zM) (hr41 : ∀ x : Int32 × Int32 × Int32 × Int32, zCo l (e + 1) 0 0 iX12_tells 41 [(0, .ref v0), (2, .int v2), (3, .int v3), (4, .int x.1), (5, .int x.2.1), (6, .int x.2.2.1), (7, .int x.2.2.2)] [] (r41 x)) (v4 : Int32) (v5 : Int32) (v6 : Int32) (v7 : Int32) : zCo l (e + 1) 0 0 iX12_tells 41 [(0, .ref v0), (2, .int v2), (3, .int v3), (4, .int v4), (5, .int v5), (6, .int v6), (7, .int v7)] [] (X12_tells_B41 v0 v2 v3 r41 v4 v5 v6 v7) := by
  unfold X12_tells_B41
  refine zco_p tkX12_tells 25 1 (pc' := 42) (L' := [(0, .ref v0), (2, .int v2), (3, .int v3), (4, .int v4), (5, .int v5), (6, .int v6), (7, .int v7)]) (S' := [.int v3]) rfl ?_
  refine zco_if_eq (tgt := 120) (zdk (cc := cX12_tells) (q := (42, .ifCond .eq 78, 3)) tkX12_tells 26 rfl) rfl ?_ ?_
  · exact zco_sub [1, 3, 4, 5] rfl (coX12_tells_J120 l e he v2 v4 v5 v6)
  · refine zco_p tkX12_tells 27 4 (pc' := 51) (L' := [(0, .ref v0), (2, .int v2), (3, .int v3), (4, .int v4), (5, .int v5), (6, .int v6), (7, .int v7)]) (S' := [.int 30, .int 1, .int v7, .ref v0]) rfl ?_
    refine zco_Vi (rc := 0) (rs := 0) (mc := 0) (ms := 0) (As := [.int v7, .int 1, .int 30]) (S := []) vmX12_isAhead (mtX12_isAhead l e (by omega) v0 v7 1 30) q_2072 rfl rfl (Nat.le_of_ble_eq_true rfl) (zdk (cc := cX12_tells) (q := (51, .invokevirtual 557, 3)) tkX12_tells 31 rfl) (fun y1 => ?_)
    refine zco_if_eq (tgt := 120) (zdk (cc := cX12_tells) (q := (54, .ifCond .eq 66, 3)) tkX12_tells 32 rfl) rfl ?_ ?_
    · exact zco_sub [1, 3, 4, 5] rfl (coX12_tells_J120 l e he v2 v4 v5 v6)
    · refine zco_p tkX12_tells 33 2 (pc' := 60) (L' := [(8, .int 0), (0, .ref v0), (2, .int v2), (3, .int v3), (4, .int v4), (5, .int v5), (6, .int v6), (7, .int v7)]) (S' := []) rfl ?_
      exact zco_sub [1, 2, 3, 4, 5, 6, 7, 0] rfl (zco_fix (Lf := fun x : Int32 × Int32 × Int32 × Int32 => [(0, .ref v0), (2, .int v2), (3, .int v3), (4, .int x.1), (5, .int x.2.1), (6, .int x.2.2.1), (7, .int v7), (8, .int x.2.2.2)]) (Sf := fun _ => []) (fun r hr x => coX12_tells_B60 l e he v0 v2 v3 v7 r41 hr41 r hr x.1 x.2.1 x.2.2.1 x.2.2.2) zFU (v4, v5, v6, 0))
set_option maxHeartbeats 2000000 in
set_option maxRecDepth 20000 in
theorem coX12_tells (l : Launch) (e : Nat) (he : 9 ≤ e) (v0 : Nat) (v1 : Int32) (v2 : Int32) : zCo l (e + 1) 0 0 iX12_tells 0 [(0, .ref v0), (1, .int v1), (2, .int v2)] [] (X12_tells v0 v1 v2) := by
  unfold X12_tells
  refine zco_p tkX12_tells 0 3 (pc' := 3) (L' := [(0, .ref v0), (1, .int v1), (2, .int v2)]) (S' := [.long v1.toInt64, .ref v0]) rfl ?_
  refine zco_Vi (rc := 0) (rs := 0) (mc := 0) (ms := 0) (As := [.long v1.toInt64]) (S := []) vmX12_isPerson (mtX12_isPerson l e (by omega) v0 v1.toInt64) q_1936 rfl rfl (Nat.le_of_ble_eq_true rfl) (zdk (cc := cX12_tells) (q := (3, .invokevirtual 422, 3)) tkX12_tells 3 rfl) (fun y1 => ?_)
  refine zco_if_eq (tgt := 21) (zdk (cc := cX12_tells) (q := (6, .ifCond .eq 15, 3)) tkX12_tells 4 rfl) rfl ?_ ?_
  · refine zco_p tkX12_tells 11 1 (pc' := 22) (L' := [(0, .ref v0), (1, .int v1), (2, .int v2)]) (S' := [.int ((-1))]) rfl ?_
    exact zco_iret rfl rfl rfl (zdk (cc := cX12_tells) (q := (22, .ireturn, 1)) tkX12_tells 12 rfl)
  · refine zco_p tkX12_tells 5 3 (pc' := 12) (L' := [(0, .ref v0), (1, .int v1), (2, .int v2)]) (S' := [.long 0, .long v2.toInt64]) rfl ?_
    refine zco_ldc2 q_2191 (zdk (cc := cX12_tells) (q := (12, .ldc2_w 602, 3)) tkX12_tells 8 rfl) ?_
    refine zco_Si (rc := 0) (rs := 0) (mc := 0) (ms := 0) (As := [.long v2.toInt64, .long 0, .long 2]) (S := []) vmX12_isIn (mtX12_isIn l e (by omega) v2.toInt64 0 2) q_1799 rfl rfl (Nat.le_of_ble_eq_true rfl) (zdk (cc := cX12_tells) (q := (15, .invokestatic 313, 3)) tkX12_tells 9 rfl) (fun y2 => ?_)
    refine zco_if_ne (tgt := 23) (zdk (cc := cX12_tells) (q := (18, .ifCond .ne 5, 3)) tkX12_tells 10 rfl) rfl ?_ ?_
    · refine zco_p tkX12_tells 13 2 (pc' := 25) (L' := [(0, .ref v0), (1, .int v1), (2, .int v2)]) (S' := [.int v1, .ref v0]) rfl ?_
      refine zco_Vi (rc := 0) (rs := 0) (mc := 0) (ms := 0) (As := [.int v1]) (S := []) vmX12_sizeSet (mtX12_sizeSet l e (by omega) v0 v1) q_2175 rfl rfl (Nat.le_of_ble_eq_true rfl) (zdk (cc := cX12_tells) (q := (25, .invokevirtual 599, 3)) tkX12_tells 15 rfl) (fun y3 => ?_)
      refine zco_p tkX12_tells 16 9 (pc' := 41) (L' := [(7, .int 1), (6, .int 0), (5, .int ((-1))), (4, .int ((-1))), (3, .int y3), (0, .ref v0), (1, .int v1), (2, .int v2)]) (S' := []) rfl ?_
      exact zco_sub [5, 7, 4, 3, 2, 1, 0] rfl (zco_fix (Lf := fun x : Int32 × Int32 × Int32 × Int32 => [(0, .ref v0), (2, .int v2), (3, .int y3), (4, .int x.1), (5, .int x.2.1), (6, .int x.2.2.1), (7, .int x.2.2.2)]) (Sf := fun _ => []) (fun r hr x => coX12_tells_B41 l e he v0 v2 y3 r hr x.1 x.2.1 x.2.2.1 x.2.2.2) zFU ((-1), (-1), 0, 1))
    · refine zco_p tkX12_tells 11 1 (pc' := 22) (L' := [(0, .ref v0), (1, .int v1), (2, .int v2)]) (S' := [.int ((-1))]) rfl ?_
      exact zco_iret rfl rfl rfl (zdk (cc := cX12_tells) (q := (22, .ireturn, 1)) tkX12_tells 12 rfl)
theorem mtX12_tells (l : Launch) (d : Nat) (hd : 10 ≤ d) (v0 : Nat) (v1 : Int32) (v2 : Int32) : zMet l d 0 0 yX12_tells cX12_tells 10 (Option.some .int) [.ref v0, .int v1, .int v2] (X12_tells v0 v1 v2) := by
  obtain ⟨e, rfl⟩ : ∃ e, d = e + 1 := ⟨d - 1, by omega⟩
  exact zmet_of (own := RX12) (ini := false) (by decide +kernel) rfl (fun _ => by contradiction) (Nat.le_of_ble_eq_true rfl) (coX12_tells l e (by omega) v0 v1 v2)
abbrev iX12_keeps : zI := (RX12, cX12_keeps, 2, (Option.none : Option FieldType), false)
def tX12_keeps : List (Nat × Instr × Nat) := [(0, .aload_n 0, 1), (1, .aload_n 0, 1), (2, .getfield 607, 3), (5, .iconst 1, 1), (6, .iadd, 1), (7, .bipush 20, 2), (9, .irem, 1), (10, .putfield 607, 3), (13, .iconst 0, 1), (14, .istore_n 1, 1), (15, .iload_n 1, 1), (16, .sipush 343, 3), (19, .if_icmp .ge 30, 3), (22, .aload_n 0, 1), (23, .getfield 170, 3), (26, .sipush 343, 3), (29, .aload_n 0, 1), (30, .getfield 607, 3), (33, .imul, 1), (34, .iload_n 1, 1), (35, .iadd, 1), (36, .aload_n 0, 1), (37, .getfield 134, 3), (40, .iload_n 1, 1), (41, .iaload, 1), (42, .iastore, 1), (43, .iinc 1 1, 3), (46, .goto (-31), 3), (49, .aload_n 0, 1), (50, .getfield 410, 3), (53, .bipush 20, 2), (55, .if_icmp .ge 13, 3), (58, .aload_n 0, 1), (59, .dup, 1), (60, .getfield 410, 3), (63, .iconst 1, 1), (64, .iadd, 1), (65, .putfield 410, 3), (68, .return_, 1)]
set_option maxRecDepth 100000 in
theorem tkX12_keeps : ∀ q ∈ tX12_keeps, decode cX12_keeps q.1 = .ok q.2 := by decide +kernel
theorem vmX12_keeps : zVM yX12_keeps cX12_keeps 2 (Option.none : Option FieldType) 0 12 := ⟨kX12_keeps, q_2206, q_132, q_162, ⟨_, rfl, rfl⟩, by decide +kernel, by decide⟩
set_option maxHeartbeats 2000000 in
set_option maxRecDepth 20000 in
theorem coX12_keeps_J49 (l : Launch) (e : Nat) (he : 0 ≤ e) (v0 : Nat) : zCo l (e + 1) 0 0 iX12_keeps 49 [(0, .ref v0)] [] (X12_keeps_J49 v0) := by
  unfold X12_keeps_J49
  refine zco_p tkX12_keeps 28 1 (pc' := 50) (L' := [(0, .ref v0)]) (S' := [.ref v0]) rfl ?_
  refine zco_gi fl_12_410 rfl (zdk (cc := cX12_keeps) (q := (50, .getfield 410, 3)) tkX12_keeps 29 rfl) (fun x1 => ?_)
  refine zco_p tkX12_keeps 30 1 (pc' := 55) (L' := [(0, .ref v0)]) (S' := [.int 20, .int x1]) rfl ?_
  refine zco_icmp_ge (tgt := 68) (zdk (cc := cX12_keeps) (q := (55, .if_icmp .ge 13, 3)) tkX12_keeps 31 rfl) rfl ?_ ?_
  · exact zco_vret rfl rfl rfl (zdk (cc := cX12_keeps) (q := (68, .return_, 1)) tkX12_keeps 38 rfl)
  · refine zco_p tkX12_keeps 32 2 (pc' := 60) (L' := [(0, .ref v0)]) (S' := [.ref v0, .ref v0]) rfl ?_
    refine zco_gi fl_12_410 rfl (zdk (cc := cX12_keeps) (q := (60, .getfield 410, 3)) tkX12_keeps 34 rfl) (fun x2 => ?_)
    refine zco_p tkX12_keeps 35 2 (pc' := 65) (L' := [(0, .ref v0)]) (S' := [.int (x2 + 1), .ref v0]) rfl ?_
    refine zco_pi fl_12_410 rfl rfl (zdk (cc := cX12_keeps) (q := (65, .putfield 410, 3)) tkX12_keeps 37 rfl) ?_
    exact zco_vret rfl rfl rfl (zdk (cc := cX12_keeps) (q := (68, .return_, 1)) tkX12_keeps 38 rfl)
set_option maxHeartbeats 2000000 in
set_option maxRecDepth 20000 in
theorem coX12_keeps_B15 (l : Launch) (e : Nat) (he : 0 ≤ e) (v0 : Nat) (r15 : Int32 → zM) (hr15 : ∀ x : Int32, zCo l (e + 1) 0 0 iX12_keeps 15 [(0, .ref v0), (1, .int x)] [] (r15 x)) (v1 : Int32) : zCo l (e + 1) 0 0 iX12_keeps 15 [(0, .ref v0), (1, .int v1)] [] (X12_keeps_B15 v0 r15 v1) := by
  unfold X12_keeps_B15
  refine zco_p tkX12_keeps 10 2 (pc' := 19) (L' := [(0, .ref v0), (1, .int v1)]) (S' := [.int 343, .int v1]) rfl ?_
  refine zco_icmp_ge (tgt := 49) (zdk (cc := cX12_keeps) (q := (19, .if_icmp .ge 30, 3)) tkX12_keeps 12 rfl) rfl ?_ ?_
  · exact zco_sub [0] rfl (coX12_keeps_J49 l e he v0)
  · refine zco_p tkX12_keeps 13 1 (pc' := 23) (L' := [(0, .ref v0), (1, .int v1)]) (S' := [.ref v0]) rfl ?_
    refine zco_gr fl_12_170 rfl (zdk (cc := cX12_keeps) (q := (23, .getfield 170, 3)) tkX12_keeps 14 rfl) (fun x1 => ?_)
    refine zco_p tkX12_keeps 15 2 (pc' := 30) (L' := [(0, .ref v0), (1, .int v1)]) (S' := [.ref v0, .int 343, .ref x1]) rfl ?_
    refine zco_gi fl_12_607 rfl (zdk (cc := cX12_keeps) (q := (30, .getfield 607, 3)) tkX12_keeps 17 rfl) (fun x2 => ?_)
    refine zco_p tkX12_keeps 18 4 (pc' := 37) (L' := [(0, .ref v0), (1, .int v1)]) (S' := [.ref v0, .int ((343 * x2) + v1), .ref x1]) rfl ?_
    refine zco_gr fl_12_134 rfl (zdk (cc := cX12_keeps) (q := (37, .getfield 134, 3)) tkX12_keeps 22 rfl) (fun x3 => ?_)
    refine zco_p tkX12_keeps 23 1 (pc' := 41) (L' := [(0, .ref v0), (1, .int v1)]) (S' := [.int v1, .ref x3, .int ((343 * x2) + v1), .ref x1]) rfl ?_
    refine zco_iaload (zdk (cc := cX12_keeps) (q := (41, .iaload, 1)) tkX12_keeps 24 rfl) (fun x4 => ?_)
    refine zco_iastore (zdk (cc := cX12_keeps) (q := (42, .iastore, 1)) tkX12_keeps 25 rfl) ?_
    refine zco_p tkX12_keeps 26 2 (pc' := 15) (L' := [(1, .int (v1 + 1)), (0, .ref v0)]) (S' := []) rfl ?_
    exact zco_sub [1, 0] rfl (hr15 (v1 + 1))
set_option maxHeartbeats 2000000 in
set_option maxRecDepth 20000 in
theorem coX12_keeps (l : Launch) (e : Nat) (he : 0 ≤ e) (v0 : Nat) : zCo l (e + 1) 0 0 iX12_keeps 0 [(0, .ref v0)] [] (X12_keeps v0) := by
  unfold X12_keeps
  refine zco_p tkX12_keeps 0 2 (pc' := 2) (L' := [(0, .ref v0)]) (S' := [.ref v0, .ref v0]) rfl ?_
  refine zco_gi fl_12_607 rfl (zdk (cc := cX12_keeps) (q := (2, .getfield 607, 3)) tkX12_keeps 2 rfl) (fun x1 => ?_)
  refine zco_p tkX12_keeps 3 3 (pc' := 9) (L' := [(0, .ref v0)]) (S' := [.int 20, .int (x1 + 1), .ref v0]) rfl ?_
  refine zco_irem (zdk (cc := cX12_keeps) (q := (9, .irem, 1)) tkX12_keeps 6 rfl) ?_
  refine zco_pi fl_12_607 rfl rfl (zdk (cc := cX12_keeps) (q := (10, .putfield 607, 3)) tkX12_keeps 7 rfl) ?_
  refine zco_p tkX12_keeps 8 2 (pc' := 15) (L' := [(1, .int 0), (0, .ref v0)]) (S' := []) rfl ?_
  exact zco_sub [1, 0] rfl (zco_fix (Lf := fun x : Int32 => [(0, .ref v0), (1, .int x)]) (Sf := fun _ => []) (fun r hr x => coX12_keeps_B15 l e he v0 r hr x) zFU 0)
theorem mtX12_keeps (l : Launch) (d : Nat) (hd : 1 ≤ d) (v0 : Nat) : zMet l d 0 0 yX12_keeps cX12_keeps 2 (Option.none : Option FieldType) [.ref v0] (X12_keeps v0) := by
  obtain ⟨e, rfl⟩ : ∃ e, d = e + 1 := ⟨d - 1, by omega⟩
  exact zmet_of (own := RX12) (ini := false) (by decide +kernel) rfl (fun _ => by contradiction) (Nat.le_of_ble_eq_true rfl) (coX12_keeps l e (by omega) v0)
abbrev iX12_undo : zI := (RX12, cX12_undo, 2, (Option.some .boolean), false)
def tX12_undo : List (Nat × Instr × Nat) := [(0, .aload_n 0, 1), (1, .getfield 410, 3), (4, .ifCond .ne 15, 3), (7, .aload_n 0, 1), (8, .getfield 17, 3), (11, .iconst 4, 1), (12, .dup2, 1), (13, .iaload, 1), (14, .iconst 1, 1), (15, .iadd, 1), (16, .iastore, 1), (17, .iconst 0, 1), (18, .ireturn, 1), (19, .iconst 0, 1), (20, .istore_n 1, 1), (21, .iload_n 1, 1), (22, .sipush 343, 3), (25, .if_icmp .ge 30, 3), (28, .aload_n 0, 1), (29, .getfield 134, 3), (32, .iload_n 1, 1), (33, .aload_n 0, 1), (34, .getfield 170, 3), (37, .sipush 343, 3), (40, .aload_n 0, 1), (41, .getfield 607, 3), (44, .imul, 1), (45, .iload_n 1, 1), (46, .iadd, 1), (47, .iaload, 1), (48, .iastore, 1), (49, .iinc 1 1, 3), (52, .goto (-31), 3), (55, .aload_n 0, 1), (56, .aload_n 0, 1), (57, .getfield 607, 3), (60, .bipush 20, 2), (62, .iadd, 1), (63, .iconst 1, 1), (64, .isub, 1), (65, .bipush 20, 2), (67, .irem, 1), (68, .putfield 607, 3), (71, .aload_n 0, 1), (72, .dup, 1), (73, .getfield 410, 3), (76, .iconst 1, 1), (77, .isub, 1), (78, .putfield 410, 3), (81, .iconst 1, 1), (82, .ireturn, 1)]
set_option maxRecDepth 100000 in
theorem tkX12_undo : ∀ q ∈ tX12_undo, decode cX12_undo q.1 = .ok q.2 := by decide +kernel
theorem vmX12_undo : zVM yX12_undo cX12_undo 2 (Option.some .boolean) 0 12 := ⟨kX12_undo, q_2197, q_2198, q_162, ⟨_, rfl, rfl⟩, by decide +kernel, by decide⟩
set_option maxHeartbeats 2000000 in
set_option maxRecDepth 20000 in
theorem coX12_undo_J55 (l : Launch) (e : Nat) (he : 0 ≤ e) (v0 : Nat) : zCo l (e + 1) 0 0 iX12_undo 55 [(0, .ref v0)] [] (X12_undo_J55 v0) := by
  unfold X12_undo_J55
  refine zco_p tkX12_undo 33 2 (pc' := 57) (L' := [(0, .ref v0)]) (S' := [.ref v0, .ref v0]) rfl ?_
  refine zco_gi fl_12_607 rfl (zdk (cc := cX12_undo) (q := (57, .getfield 607, 3)) tkX12_undo 35 rfl) (fun x1 => ?_)
  refine zco_p tkX12_undo 36 5 (pc' := 67) (L' := [(0, .ref v0)]) (S' := [.int 20, .int ((x1 + 20) - 1), .ref v0]) rfl ?_
  refine zco_irem (zdk (cc := cX12_undo) (q := (67, .irem, 1)) tkX12_undo 41 rfl) ?_
  refine zco_pi fl_12_607 rfl rfl (zdk (cc := cX12_undo) (q := (68, .putfield 607, 3)) tkX12_undo 42 rfl) ?_
  refine zco_p tkX12_undo 43 2 (pc' := 73) (L' := [(0, .ref v0)]) (S' := [.ref v0, .ref v0]) rfl ?_
  refine zco_gi fl_12_410 rfl (zdk (cc := cX12_undo) (q := (73, .getfield 410, 3)) tkX12_undo 45 rfl) (fun x2 => ?_)
  refine zco_p tkX12_undo 46 2 (pc' := 78) (L' := [(0, .ref v0)]) (S' := [.int (x2 - 1), .ref v0]) rfl ?_
  refine zco_pi fl_12_410 rfl rfl (zdk (cc := cX12_undo) (q := (78, .putfield 410, 3)) tkX12_undo 48 rfl) ?_
  refine zco_p tkX12_undo 49 1 (pc' := 82) (L' := [(0, .ref v0)]) (S' := [.int 1]) rfl ?_
  exact zco_zret rfl rfl rfl (zdk (cc := cX12_undo) (q := (82, .ireturn, 1)) tkX12_undo 50 rfl)
set_option maxHeartbeats 2000000 in
set_option maxRecDepth 20000 in
theorem coX12_undo_B21 (l : Launch) (e : Nat) (he : 0 ≤ e) (v0 : Nat) (r21 : Int32 → zM) (hr21 : ∀ x : Int32, zCo l (e + 1) 0 0 iX12_undo 21 [(0, .ref v0), (1, .int x)] [] (r21 x)) (v1 : Int32) : zCo l (e + 1) 0 0 iX12_undo 21 [(0, .ref v0), (1, .int v1)] [] (X12_undo_B21 v0 r21 v1) := by
  unfold X12_undo_B21
  refine zco_p tkX12_undo 15 2 (pc' := 25) (L' := [(0, .ref v0), (1, .int v1)]) (S' := [.int 343, .int v1]) rfl ?_
  refine zco_icmp_ge (tgt := 55) (zdk (cc := cX12_undo) (q := (25, .if_icmp .ge 30, 3)) tkX12_undo 17 rfl) rfl ?_ ?_
  · exact zco_sub [0] rfl (coX12_undo_J55 l e he v0)
  · refine zco_p tkX12_undo 18 1 (pc' := 29) (L' := [(0, .ref v0), (1, .int v1)]) (S' := [.ref v0]) rfl ?_
    refine zco_gr fl_12_134 rfl (zdk (cc := cX12_undo) (q := (29, .getfield 134, 3)) tkX12_undo 19 rfl) (fun x1 => ?_)
    refine zco_p tkX12_undo 20 2 (pc' := 34) (L' := [(0, .ref v0), (1, .int v1)]) (S' := [.ref v0, .int v1, .ref x1]) rfl ?_
    refine zco_gr fl_12_170 rfl (zdk (cc := cX12_undo) (q := (34, .getfield 170, 3)) tkX12_undo 22 rfl) (fun x2 => ?_)
    refine zco_p tkX12_undo 23 2 (pc' := 41) (L' := [(0, .ref v0), (1, .int v1)]) (S' := [.ref v0, .int 343, .ref x2, .int v1, .ref x1]) rfl ?_
    refine zco_gi fl_12_607 rfl (zdk (cc := cX12_undo) (q := (41, .getfield 607, 3)) tkX12_undo 25 rfl) (fun x3 => ?_)
    refine zco_p tkX12_undo 26 3 (pc' := 47) (L' := [(0, .ref v0), (1, .int v1)]) (S' := [.int ((343 * x3) + v1), .ref x2, .int v1, .ref x1]) rfl ?_
    refine zco_iaload (zdk (cc := cX12_undo) (q := (47, .iaload, 1)) tkX12_undo 29 rfl) (fun x4 => ?_)
    refine zco_iastore (zdk (cc := cX12_undo) (q := (48, .iastore, 1)) tkX12_undo 30 rfl) ?_
    refine zco_p tkX12_undo 31 2 (pc' := 21) (L' := [(1, .int (v1 + 1)), (0, .ref v0)]) (S' := []) rfl ?_
    exact zco_sub [1, 0] rfl (hr21 (v1 + 1))
set_option maxHeartbeats 2000000 in
set_option maxRecDepth 20000 in
theorem coX12_undo (l : Launch) (e : Nat) (he : 0 ≤ e) (v0 : Nat) : zCo l (e + 1) 0 0 iX12_undo 0 [(0, .ref v0)] [] (X12_undo v0) := by
  unfold X12_undo
  refine zco_p tkX12_undo 0 1 (pc' := 1) (L' := [(0, .ref v0)]) (S' := [.ref v0]) rfl ?_
  refine zco_gi fl_12_410 rfl (zdk (cc := cX12_undo) (q := (1, .getfield 410, 3)) tkX12_undo 1 rfl) (fun x1 => ?_)
  refine zco_if_ne (tgt := 19) (zdk (cc := cX12_undo) (q := (4, .ifCond .ne 15, 3)) tkX12_undo 2 rfl) rfl ?_ ?_
  · refine zco_p tkX12_undo 13 2 (pc' := 21) (L' := [(1, .int 0), (0, .ref v0)]) (S' := []) rfl ?_
    exact zco_sub [1, 0] rfl (zco_fix (Lf := fun x : Int32 => [(0, .ref v0), (1, .int x)]) (Sf := fun _ => []) (fun r hr x => coX12_undo_B21 l e he v0 r hr x) zFU 0)
  · refine zco_p tkX12_undo 3 1 (pc' := 8) (L' := [(0, .ref v0)]) (S' := [.ref v0]) rfl ?_
    refine zco_gr fl_12_17 rfl (zdk (cc := cX12_undo) (q := (8, .getfield 17, 3)) tkX12_undo 4 rfl) (fun x2 => ?_)
    refine zco_p tkX12_undo 5 2 (pc' := 13) (L' := [(0, .ref v0)]) (S' := [.int 4, .ref x2, .int 4, .ref x2]) rfl ?_
    refine zco_iaload (zdk (cc := cX12_undo) (q := (13, .iaload, 1)) tkX12_undo 7 rfl) (fun x3 => ?_)
    refine zco_p tkX12_undo 8 2 (pc' := 16) (L' := [(0, .ref v0)]) (S' := [.int (x3 + 1), .int 4, .ref x2]) rfl ?_
    refine zco_iastore (zdk (cc := cX12_undo) (q := (16, .iastore, 1)) tkX12_undo 10 rfl) ?_
    refine zco_p tkX12_undo 11 1 (pc' := 18) (L' := [(0, .ref v0)]) (S' := [.int 0]) rfl ?_
    exact zco_zret rfl rfl rfl (zdk (cc := cX12_undo) (q := (18, .ireturn, 1)) tkX12_undo 12 rfl)
theorem mtX12_undo (l : Launch) (d : Nat) (hd : 1 ≤ d) (v0 : Nat) : zMet l d 0 0 yX12_undo cX12_undo 2 (Option.some .boolean) [.ref v0] (X12_undo v0) := by
  obtain ⟨e, rfl⟩ : ∃ e, d = e + 1 := ⟨d - 1, by omega⟩
  exact zmet_of (own := RX12) (ini := false) (by decide +kernel) rfl (fun _ => by contradiction) (Nat.le_of_ble_eq_true rfl) (coX12_undo l e (by omega) v0)
abbrev iX12_isRefused : zI := (RX12, cX12_isRefused, 2, (Option.some .boolean), false)
def tX12_isRefused : List (Nat × Instr × Nat) := [(0, .aload_n 0, 1), (1, .getfield 17, 3), (4, .iload_n 1, 1), (5, .dup2, 1), (6, .iaload, 1), (7, .iconst 1, 1), (8, .iadd, 1), (9, .iastore, 1), (10, .iconst 0, 1), (11, .ireturn, 1)]
set_option maxRecDepth 100000 in
theorem tkX12_isRefused : ∀ q ∈ tX12_isRefused, decode cX12_isRefused q.1 = .ok q.2 := by decide +kernel
theorem vmX12_isRefused : zVM yX12_isRefused cX12_isRefused 2 (Option.some .boolean) 1 12 := ⟨kX12_isRefused, q_2214, q_133, q_162, ⟨_, rfl, rfl⟩, by decide +kernel, by decide⟩
set_option maxHeartbeats 2000000 in
set_option maxRecDepth 20000 in
theorem coX12_isRefused (l : Launch) (e : Nat) (he : 0 ≤ e) (v0 : Nat) (v1 : Int32) : zCo l (e + 1) 0 0 iX12_isRefused 0 [(0, .ref v0), (1, .int v1)] [] (X12_isRefused v0 v1) := by
  unfold X12_isRefused
  refine zco_p tkX12_isRefused 0 1 (pc' := 1) (L' := [(0, .ref v0), (1, .int v1)]) (S' := [.ref v0]) rfl ?_
  refine zco_gr fl_12_17 rfl (zdk (cc := cX12_isRefused) (q := (1, .getfield 17, 3)) tkX12_isRefused 1 rfl) (fun x1 => ?_)
  refine zco_p tkX12_isRefused 2 2 (pc' := 6) (L' := [(0, .ref v0), (1, .int v1)]) (S' := [.int v1, .ref x1, .int v1, .ref x1]) rfl ?_
  refine zco_iaload (zdk (cc := cX12_isRefused) (q := (6, .iaload, 1)) tkX12_isRefused 4 rfl) (fun x2 => ?_)
  refine zco_p tkX12_isRefused 5 2 (pc' := 9) (L' := [(0, .ref v0), (1, .int v1)]) (S' := [.int (x2 + 1), .int v1, .ref x1]) rfl ?_
  refine zco_iastore (zdk (cc := cX12_isRefused) (q := (9, .iastore, 1)) tkX12_isRefused 7 rfl) ?_
  refine zco_p tkX12_isRefused 8 1 (pc' := 11) (L' := [(0, .ref v0), (1, .int v1)]) (S' := [.int 0]) rfl ?_
  exact zco_zret rfl rfl rfl (zdk (cc := cX12_isRefused) (q := (11, .ireturn, 1)) tkX12_isRefused 9 rfl)
theorem mtX12_isRefused (l : Launch) (d : Nat) (hd : 1 ≤ d) (v0 : Nat) (v1 : Int32) : zMet l d 0 0 yX12_isRefused cX12_isRefused 2 (Option.some .boolean) [.ref v0, .int v1] (X12_isRefused v0 v1) := by
  obtain ⟨e, rfl⟩ : ∃ e, d = e + 1 := ⟨d - 1, by omega⟩
  exact zmet_of (own := RX12) (ini := false) (by decide +kernel) rfl (fun _ => by contradiction) (Nat.le_of_ble_eq_true rfl) (coX12_isRefused l e (by omega) v0 v1)
abbrev iX12_rounds : zI := (RX12, cX12_rounds, 2, (Option.some .int), false)
def tX12_rounds : List (Nat × Instr × Nat) := [(0, .aload_n 0, 1), (1, .iload_n 1, 1), (2, .iconst 1, 1), (3, .bipush 100, 2), (5, .invokevirtual 557, 3), (8, .ifCond .ne 9, 3), (11, .aload_n 0, 1), (12, .iconst 3, 1), (13, .invokevirtual 400, 3), (16, .ireturn, 1), (17, .aload_n 0, 1), (18, .invokevirtual 610, 3), (21, .aload_n 0, 1), (22, .iload_n 1, 1), (23, .invokevirtual 564, 3), (26, .aload_n 0, 1), (27, .getfield 500, 3), (30, .ireturn, 1)]
set_option maxRecDepth 100000 in
theorem tkX12_rounds : ∀ q ∈ tX12_rounds, decode cX12_rounds q.1 = .ok q.2 := by decide +kernel
theorem vmX12_rounds : zVM yX12_rounds cX12_rounds 2 (Option.some .int) 1 12 := ⟨kX12_rounds, q_2201, q_2202, q_162, ⟨_, rfl, rfl⟩, by decide +kernel, by decide⟩
set_option maxHeartbeats 2000000 in
set_option maxRecDepth 20000 in
theorem coX12_rounds (l : Launch) (e : Nat) (he : 9 ≤ e) (v0 : Nat) (v1 : Int32) : zCo l (e + 1) 0 0 iX12_rounds 0 [(0, .ref v0), (1, .int v1)] [] (X12_rounds v0 v1) := by
  unfold X12_rounds
  refine zco_p tkX12_rounds 0 4 (pc' := 5) (L' := [(0, .ref v0), (1, .int v1)]) (S' := [.int 100, .int 1, .int v1, .ref v0]) rfl ?_
  refine zco_Vi (rc := 0) (rs := 0) (mc := 0) (ms := 0) (As := [.int v1, .int 1, .int 100]) (S := []) vmX12_isAhead (mtX12_isAhead l e (by omega) v0 v1 1 100) q_2072 rfl rfl (Nat.le_of_ble_eq_true rfl) (zdk (cc := cX12_rounds) (q := (5, .invokevirtual 557, 3)) tkX12_rounds 4 rfl) (fun y1 => ?_)
  refine zco_if_ne (tgt := 17) (zdk (cc := cX12_rounds) (q := (8, .ifCond .ne 9, 3)) tkX12_rounds 5 rfl) rfl ?_ ?_
  · refine zco_p tkX12_rounds 10 1 (pc' := 18) (L' := [(0, .ref v0), (1, .int v1)]) (S' := [.ref v0]) rfl ?_
    refine zco_Vv (rc := 0) (rs := 0) (mc := 0) (ms := 0) (As := []) (S := []) vmX12_keeps (mtX12_keeps l e (by omega) v0) q_2204 rfl rfl (Nat.le_of_ble_eq_true rfl) (zdk (cc := cX12_rounds) (q := (18, .invokevirtual 610, 3)) tkX12_rounds 11 rfl) ?_
    refine zco_p tkX12_rounds 12 2 (pc' := 23) (L' := [(0, .ref v0), (1, .int v1)]) (S' := [.int v1, .ref v0]) rfl ?_
    refine zco_Vv (rc := 0) (rs := 0) (mc := 0) (ms := 0) (As := [.int v1]) (S := []) vmX12_roundsGo (mtX12_roundsGo l e (by omega) v0 v1) q_2080 rfl rfl (Nat.le_of_ble_eq_true rfl) (zdk (cc := cX12_rounds) (q := (23, .invokevirtual 564, 3)) tkX12_rounds 14 rfl) ?_
    refine zco_p tkX12_rounds 15 1 (pc' := 27) (L' := [(0, .ref v0), (1, .int v1)]) (S' := [.ref v0]) rfl ?_
    refine zco_gi fl_12_500 rfl (zdk (cc := cX12_rounds) (q := (27, .getfield 500, 3)) tkX12_rounds 16 rfl) (fun x2 => ?_)
    exact zco_iret rfl rfl rfl (zdk (cc := cX12_rounds) (q := (30, .ireturn, 1)) tkX12_rounds 17 rfl)
  · refine zco_p tkX12_rounds 6 2 (pc' := 13) (L' := [(0, .ref v0), (1, .int v1)]) (S' := [.int 3, .ref v0]) rfl ?_
    refine zco_Vi (rc := 0) (rs := 0) (mc := 0) (ms := 0) (As := [.int 3]) (S := []) vmX12_refuses (mtX12_refuses l e (by omega) v0 3) q_1908 rfl rfl (Nat.le_of_ble_eq_true rfl) (zdk (cc := cX12_rounds) (q := (13, .invokevirtual 400, 3)) tkX12_rounds 8 rfl) (fun y3 => ?_)
    exact zco_iret rfl rfl rfl (zdk (cc := cX12_rounds) (q := (16, .ireturn, 1)) tkX12_rounds 9 rfl)
theorem mtX12_rounds (l : Launch) (d : Nat) (hd : 10 ≤ d) (v0 : Nat) (v1 : Int32) : zMet l d 0 0 yX12_rounds cX12_rounds 2 (Option.some .int) [.ref v0, .int v1] (X12_rounds v0 v1) := by
  obtain ⟨e, rfl⟩ : ∃ e, d = e + 1 := ⟨d - 1, by omega⟩
  exact zmet_of (own := RX12) (ini := false) (by decide +kernel) rfl (fun _ => by contradiction) (Nat.le_of_ble_eq_true rfl) (coX12_rounds l e (by omega) v0 v1)
abbrev iX12_seed : zI := (RX12, cX12_seed, 2, (Option.some .boolean), false)
def tX12_seed : List (Nat × Instr × Nat) := [(0, .iload_n 1, 1), (1, .ifCond .ge 9, 3), (4, .aload_n 0, 1), (5, .iconst 5, 1), (6, .invokevirtual 613, 3), (9, .ireturn, 1), (10, .aload_n 0, 1), (11, .iload_n 1, 1), (12, .i2l, 1), (13, .putfield 173, 3), (16, .iconst 1, 1), (17, .ireturn, 1)]
set_option maxRecDepth 100000 in
theorem tkX12_seed : ∀ q ∈ tX12_seed, decode cX12_seed q.1 = .ok q.2 := by decide +kernel
theorem vmX12_seed : zVM yX12_seed cX12_seed 2 (Option.some .boolean) 1 12 := ⟨kX12_seed, q_2209, q_2210, q_162, ⟨_, rfl, rfl⟩, by decide +kernel, by decide⟩
set_option maxHeartbeats 2000000 in
set_option maxRecDepth 20000 in
theorem coX12_seed (l : Launch) (e : Nat) (he : 1 ≤ e) (v0 : Nat) (v1 : Int32) : zCo l (e + 1) 0 0 iX12_seed 0 [(0, .ref v0), (1, .int v1)] [] (X12_seed v0 v1) := by
  unfold X12_seed
  refine zco_p tkX12_seed 0 1 (pc' := 1) (L' := [(0, .ref v0), (1, .int v1)]) (S' := [.int v1]) rfl ?_
  refine zco_if_ge (tgt := 10) (zdk (cc := cX12_seed) (q := (1, .ifCond .ge 9, 3)) tkX12_seed 1 rfl) rfl ?_ ?_
  · refine zco_p tkX12_seed 6 3 (pc' := 13) (L' := [(0, .ref v0), (1, .int v1)]) (S' := [.long v1.toInt64, .ref v0]) rfl ?_
    refine zco_pl fl_12_173 rfl rfl (zdk (cc := cX12_seed) (q := (13, .putfield 173, 3)) tkX12_seed 9 rfl) ?_
    refine zco_p tkX12_seed 10 1 (pc' := 17) (L' := [(0, .ref v0), (1, .int v1)]) (S' := [.int 1]) rfl ?_
    exact zco_zret rfl rfl rfl (zdk (cc := cX12_seed) (q := (17, .ireturn, 1)) tkX12_seed 11 rfl)
  · refine zco_p tkX12_seed 2 2 (pc' := 6) (L' := [(0, .ref v0), (1, .int v1)]) (S' := [.int 5, .ref v0]) rfl ?_
    refine zco_Vi (rc := 0) (rs := 0) (mc := 0) (ms := 0) (As := [.int 5]) (S := []) vmX12_isRefused (mtX12_isRefused l e (by omega) v0 5) q_2212 rfl rfl (Nat.le_of_ble_eq_true rfl) (zdk (cc := cX12_seed) (q := (6, .invokevirtual 613, 3)) tkX12_seed 4 rfl) (fun y1 => ?_)
    exact zco_zret rfl rfl rfl (zdk (cc := cX12_seed) (q := (9, .ireturn, 1)) tkX12_seed 5 rfl)
theorem mtX12_seed (l : Launch) (d : Nat) (hd : 2 ≤ d) (v0 : Nat) (v1 : Int32) : zMet l d 0 0 yX12_seed cX12_seed 2 (Option.some .boolean) [.ref v0, .int v1] (X12_seed v0 v1) := by
  obtain ⟨e, rfl⟩ : ∃ e, d = e + 1 := ⟨d - 1, by omega⟩
  exact zmet_of (own := RX12) (ini := false) (by decide +kernel) rfl (fun _ => by contradiction) (Nat.le_of_ble_eq_true rfl) (coX12_seed l e (by omega) v0 v1)
abbrev iX12_drawOf : zI := (RX12, cX12_drawOf, 2, (Option.some .int), false)
def tX12_drawOf : List (Nat × Instr × Nat) := [(0, .aload_n 0, 1), (1, .ldc2_w 616, 3), (4, .aload_n 0, 1), (5, .getfield 173, 3), (8, .lmul, 1), (9, .ldc2_w 618, 3), (12, .ladd, 1), (13, .ldc2_w 620, 3), (16, .lrem, 1), (17, .putfield 173, 3), (20, .aload_n 0, 1), (21, .getfield 173, 3), (24, .ldc2_w 622, 3), (27, .ldiv, 1), (28, .iload_n 1, 1), (29, .i2l, 1), (30, .lrem, 1), (31, .l2i, 1), (32, .ireturn, 1)]
set_option maxRecDepth 100000 in
theorem tkX12_drawOf : ∀ q ∈ tX12_drawOf, decode cX12_drawOf q.1 = .ok q.2 := by decide +kernel
theorem vmX12_drawOf : zVM yX12_drawOf cX12_drawOf 2 (Option.some .int) 1 12 := ⟨kX12_drawOf, q_2222, q_134, q_162, ⟨_, rfl, rfl⟩, by decide +kernel, by decide⟩
set_option maxHeartbeats 2000000 in
set_option maxRecDepth 20000 in
theorem coX12_drawOf (l : Launch) (e : Nat) (he : 0 ≤ e) (v0 : Nat) (v1 : Int32) : zCo l (e + 1) 0 0 iX12_drawOf 0 [(0, .ref v0), (1, .int v1)] [] (X12_drawOf v0 v1) := by
  unfold X12_drawOf
  refine zco_p tkX12_drawOf 0 1 (pc' := 1) (L' := [(0, .ref v0), (1, .int v1)]) (S' := [.ref v0]) rfl ?_
  refine zco_ldc2 q_2224 (zdk (cc := cX12_drawOf) (q := (1, .ldc2_w 616, 3)) tkX12_drawOf 1 rfl) ?_
  refine zco_p tkX12_drawOf 2 1 (pc' := 5) (L' := [(0, .ref v0), (1, .int v1)]) (S' := [.ref v0, .long 1103515245, .ref v0]) rfl ?_
  refine zco_gl fl_12_173 rfl (zdk (cc := cX12_drawOf) (q := (5, .getfield 173, 3)) tkX12_drawOf 3 rfl) (fun x1 => ?_)
  refine zco_p tkX12_drawOf 4 1 (pc' := 9) (L' := [(0, .ref v0), (1, .int v1)]) (S' := [.long (1103515245 * x1), .ref v0]) rfl ?_
  refine zco_ldc2 q_2225 (zdk (cc := cX12_drawOf) (q := (9, .ldc2_w 618, 3)) tkX12_drawOf 5 rfl) ?_
  refine zco_p tkX12_drawOf 6 1 (pc' := 13) (L' := [(0, .ref v0), (1, .int v1)]) (S' := [.long ((1103515245 * x1) + 12345), .ref v0]) rfl ?_
  refine zco_ldc2 q_2226 (zdk (cc := cX12_drawOf) (q := (13, .ldc2_w 620, 3)) tkX12_drawOf 7 rfl) ?_
  refine zco_lrem (zdk (cc := cX12_drawOf) (q := (16, .lrem, 1)) tkX12_drawOf 8 rfl) ?_
  refine zco_pl fl_12_173 rfl rfl (zdk (cc := cX12_drawOf) (q := (17, .putfield 173, 3)) tkX12_drawOf 9 rfl) ?_
  refine zco_p tkX12_drawOf 10 1 (pc' := 21) (L' := [(0, .ref v0), (1, .int v1)]) (S' := [.ref v0]) rfl ?_
  refine zco_gl fl_12_173 rfl (zdk (cc := cX12_drawOf) (q := (21, .getfield 173, 3)) tkX12_drawOf 11 rfl) (fun x2 => ?_)
  refine zco_ldc2 q_2227 (zdk (cc := cX12_drawOf) (q := (24, .ldc2_w 622, 3)) tkX12_drawOf 12 rfl) ?_
  refine zco_ldiv (zdk (cc := cX12_drawOf) (q := (27, .ldiv, 1)) tkX12_drawOf 13 rfl) ?_
  refine zco_p tkX12_drawOf 14 2 (pc' := 30) (L' := [(0, .ref v0), (1, .int v1)]) (S' := [.long v1.toInt64, .long (x2 / 64)]) rfl ?_
  refine zco_lrem (zdk (cc := cX12_drawOf) (q := (30, .lrem, 1)) tkX12_drawOf 16 rfl) ?_
  refine zco_p tkX12_drawOf 17 1 (pc' := 32) (L' := [(0, .ref v0), (1, .int v1)]) (S' := [.int (((x2 / 64) - (x2 / 64) / v1.toInt64 * v1.toInt64 : Int64).toInt32)]) rfl ?_
  exact zco_iret rfl rfl rfl (zdk (cc := cX12_drawOf) (q := (32, .ireturn, 1)) tkX12_drawOf 18 rfl)
theorem mtX12_drawOf (l : Launch) (d : Nat) (hd : 1 ≤ d) (v0 : Nat) (v1 : Int32) : zMet l d 0 0 yX12_drawOf cX12_drawOf 2 (Option.some .int) [.ref v0, .int v1] (X12_drawOf v0 v1) := by
  obtain ⟨e, rfl⟩ : ∃ e, d = e + 1 := ⟨d - 1, by omega⟩
  exact zmet_of (own := RX12) (ini := false) (by decide +kernel) rfl (fun _ => by contradiction) (Nat.le_of_ble_eq_true rfl) (coX12_drawOf l e (by omega) v0 v1)
abbrev iX12_chance : zI := (RX12, cX12_chance, 5, (Option.some .int), false)
def tX12_chance : List (Nat × Instr × Nat) := [(0, .aload_n 0, 1), (1, .iload_n 1, 1), (2, .iconst 1, 1), (3, .bipush 100, 2), (5, .invokevirtual 557, 3), (8, .ifCond .ne 9, 3), (11, .aload_n 0, 1), (12, .iconst 3, 1), (13, .invokevirtual 400, 3), (16, .ireturn, 1), (17, .aload_n 0, 1), (18, .invokevirtual 610, 3), (21, .iconst 0, 1), (22, .istore_n 2, 1), (23, .iconst 0, 1), (24, .istore_n 3, 1), (25, .iload_n 3, 1), (26, .iload_n 1, 1), (27, .if_icmp .ge 58, 3), (30, .iconst (-1), 1), (31, .istore 4, 2), (33, .aload_n 0, 1), (34, .bipush 100, 2), (36, .invokevirtual 624, 3), (39, .aload_n 0, 1), (40, .getfield 105, 3), (43, .bipush 10, 2), (45, .iaload, 1), (46, .if_icmp .ge 27, 3), (49, .aload_n 0, 1), (50, .invokevirtual 419, 3), (53, .ifCond .le 20, 3), (56, .aload_n 0, 1), (57, .aload_n 0, 1), (58, .aload_n 0, 1), (59, .invokevirtual 419, 3), (62, .invokevirtual 624, 3), (65, .invokevirtual 429, 3), (68, .istore 4, 2), (70, .iinc 2 1, 3), (73, .aload_n 0, 1), (74, .iload 4, 2), (76, .invokevirtual 527, 3), (79, .iinc 3 1, 3), (82, .goto (-57), 3), (85, .iload_n 2, 1), (86, .ireturn, 1)]
set_option maxRecDepth 100000 in
theorem tkX12_chance : ∀ q ∈ tX12_chance, decode cX12_chance q.1 = .ok q.2 := by decide +kernel
theorem vmX12_chance : zVM yX12_chance cX12_chance 5 (Option.some .int) 1 12 := ⟨kX12_chance, q_2217, q_2218, q_162, ⟨_, rfl, rfl⟩, by decide +kernel, by decide⟩
set_option maxHeartbeats 2000000 in
set_option maxRecDepth 20000 in
theorem coX12_chance_J73 (l : Launch) (e : Nat) (he : 8 ≤ e) (v0 : Nat) (v1 : Int32) (v2 : Int32) (v3 : Int32) (v4 : Int32) (r25 : Int32 × Int32 → zM) (hr25 : ∀ x : Int32 × Int32, zCo l (e + 1) 0 0 iX12_chance 25 [(0, .ref v0), (1, .int v1), (2, .int x.1), (3, .int x.2)] [] (r25 x)) : zCo l (e + 1) 0 0 iX12_chance 73 [(0, .ref v0), (1, .int v1), (2, .int v2), (3, .int v3), (4, .int v4)] [] (X12_chance_J73 r25 v0 v1 v2 v3 v4) := by
  unfold X12_chance_J73
  refine zco_p tkX12_chance 40 2 (pc' := 76) (L' := [(0, .ref v0), (1, .int v1), (2, .int v2), (3, .int v3), (4, .int v4)]) (S' := [.int v4, .ref v0]) rfl ?_
  refine zco_Vv (rc := 0) (rs := 0) (mc := 0) (ms := 0) (As := [.int v4]) (S := []) vmX12_roundGoes (mtX12_roundGoes l e (by omega) v0 v4) q_2084 rfl rfl (Nat.le_of_ble_eq_true rfl) (zdk (cc := cX12_chance) (q := (76, .invokevirtual 527, 3)) tkX12_chance 42 rfl) ?_
  refine zco_p tkX12_chance 43 2 (pc' := 25) (L' := [(3, .int (v3 + 1)), (0, .ref v0), (1, .int v1), (2, .int v2), (4, .int v4)]) (S' := []) rfl ?_
  exact zco_sub [1, 2, 3, 0] rfl (hr25 (v2, v3 + 1))
set_option maxHeartbeats 2000000 in
set_option maxRecDepth 20000 in
theorem coX12_chance_B25 (l : Launch) (e : Nat) (he : 8 ≤ e) (v0 : Nat) (v1 : Int32) (r25 : Int32 × Int32 → zM) (hr25 : ∀ x : Int32 × Int32, zCo l (e + 1) 0 0 iX12_chance 25 [(0, .ref v0), (1, .int v1), (2, .int x.1), (3, .int x.2)] [] (r25 x)) (v2 : Int32) (v3 : Int32) : zCo l (e + 1) 0 0 iX12_chance 25 [(0, .ref v0), (1, .int v1), (2, .int v2), (3, .int v3)] [] (X12_chance_B25 v0 v1 r25 v2 v3) := by
  unfold X12_chance_B25
  refine zco_p tkX12_chance 16 2 (pc' := 27) (L' := [(0, .ref v0), (1, .int v1), (2, .int v2), (3, .int v3)]) (S' := [.int v1, .int v3]) rfl ?_
  refine zco_icmp_ge (tgt := 85) (zdk (cc := cX12_chance) (q := (27, .if_icmp .ge 58, 3)) tkX12_chance 18 rfl) rfl ?_ ?_
  · refine zco_p tkX12_chance 45 1 (pc' := 86) (L' := [(0, .ref v0), (1, .int v1), (2, .int v2), (3, .int v3)]) (S' := [.int v2]) rfl ?_
    exact zco_iret rfl rfl rfl (zdk (cc := cX12_chance) (q := (86, .ireturn, 1)) tkX12_chance 46 rfl)
  · refine zco_p tkX12_chance 19 4 (pc' := 36) (L' := [(4, .int ((-1))), (0, .ref v0), (1, .int v1), (2, .int v2), (3, .int v3)]) (S' := [.int 100, .ref v0]) rfl ?_
    refine zco_Vi (rc := 0) (rs := 0) (mc := 0) (ms := 0) (As := [.int 100]) (S := []) vmX12_drawOf (mtX12_drawOf l e (by omega) v0 100) q_2220 rfl rfl (Nat.le_of_ble_eq_true rfl) (zdk (cc := cX12_chance) (q := (36, .invokevirtual 624, 3)) tkX12_chance 23 rfl) (fun y1 => ?_)
    refine zco_p tkX12_chance 24 1 (pc' := 40) (L' := [(4, .int ((-1))), (0, .ref v0), (1, .int v1), (2, .int v2), (3, .int v3)]) (S' := [.ref v0, .int y1]) rfl ?_
    refine zco_gr fl_12_105 rfl (zdk (cc := cX12_chance) (q := (40, .getfield 105, 3)) tkX12_chance 25 rfl) (fun x2 => ?_)
    refine zco_p tkX12_chance 26 1 (pc' := 45) (L' := [(4, .int ((-1))), (0, .ref v0), (1, .int v1), (2, .int v2), (3, .int v3)]) (S' := [.int 10, .ref x2, .int y1]) rfl ?_
    refine zco_iaload (zdk (cc := cX12_chance) (q := (45, .iaload, 1)) tkX12_chance 27 rfl) (fun x3 => ?_)
    refine zco_icmp_ge (tgt := 73) (zdk (cc := cX12_chance) (q := (46, .if_icmp .ge 27, 3)) tkX12_chance 28 rfl) rfl ?_ ?_
    · exact zco_sub [1, 2, 3, 4, 0] rfl (coX12_chance_J73 l e he v0 v1 v2 v3 ((-1)) r25 hr25)
    · refine zco_p tkX12_chance 29 1 (pc' := 50) (L' := [(4, .int ((-1))), (0, .ref v0), (1, .int v1), (2, .int v2), (3, .int v3)]) (S' := [.ref v0]) rfl ?_
      refine zco_Vi (rc := 0) (rs := 0) (mc := 0) (ms := 0) (As := []) (S := []) vmX12_peopleMany (mtX12_peopleMany l e (by omega) v0) q_1940 rfl rfl (Nat.le_of_ble_eq_true rfl) (zdk (cc := cX12_chance) (q := (50, .invokevirtual 419, 3)) tkX12_chance 30 rfl) (fun y4 => ?_)
      refine zco_if_le (tgt := 73) (zdk (cc := cX12_chance) (q := (53, .ifCond .le 20, 3)) tkX12_chance 31 rfl) rfl ?_ ?_
      · exact zco_sub [1, 2, 3, 4, 0] rfl (coX12_chance_J73 l e he v0 v1 v2 v3 ((-1)) r25 hr25)
      · refine zco_p tkX12_chance 32 3 (pc' := 59) (L' := [(4, .int ((-1))), (0, .ref v0), (1, .int v1), (2, .int v2), (3, .int v3)]) (S' := [.ref v0, .ref v0, .ref v0]) rfl ?_
        refine zco_Vi (rc := 0) (rs := 0) (mc := 0) (ms := 0) (As := []) (S := [.ref v0, .ref v0]) vmX12_peopleMany (mtX12_peopleMany l e (by omega) v0) q_1940 rfl rfl (Nat.le_of_ble_eq_true rfl) (zdk (cc := cX12_chance) (q := (59, .invokevirtual 419, 3)) tkX12_chance 35 rfl) (fun y5 => ?_)
        refine zco_Vi (rc := 0) (rs := 0) (mc := 0) (ms := 0) (As := [.int y5]) (S := [.ref v0]) vmX12_drawOf (mtX12_drawOf l e (by omega) v0 y5) q_2220 rfl rfl (Nat.le_of_ble_eq_true rfl) (zdk (cc := cX12_chance) (q := (62, .invokevirtual 624, 3)) tkX12_chance 36 rfl) (fun y6 => ?_)
        refine zco_Vi (rc := 0) (rs := 0) (mc := 0) (ms := 0) (As := [.int y6]) (S := []) vmX12_codeOf (mtX12_codeOf l e (by omega) v0 y6) q_1948 rfl rfl (Nat.le_of_ble_eq_true rfl) (zdk (cc := cX12_chance) (q := (65, .invokevirtual 429, 3)) tkX12_chance 37 rfl) (fun y7 => ?_)
        refine zco_p tkX12_chance 38 2 (pc' := 73) (L' := [(2, .int (v2 + 1)), (4, .int y7), (0, .ref v0), (1, .int v1), (3, .int v3)]) (S' := []) rfl ?_
        exact zco_sub [2, 3, 0, 4, 1] rfl (coX12_chance_J73 l e he v0 v1 (v2 + 1) v3 y7 r25 hr25)
set_option maxHeartbeats 2000000 in
set_option maxRecDepth 20000 in
theorem coX12_chance (l : Launch) (e : Nat) (he : 8 ≤ e) (v0 : Nat) (v1 : Int32) : zCo l (e + 1) 0 0 iX12_chance 0 [(0, .ref v0), (1, .int v1)] [] (X12_chance v0 v1) := by
  unfold X12_chance
  refine zco_p tkX12_chance 0 4 (pc' := 5) (L' := [(0, .ref v0), (1, .int v1)]) (S' := [.int 100, .int 1, .int v1, .ref v0]) rfl ?_
  refine zco_Vi (rc := 0) (rs := 0) (mc := 0) (ms := 0) (As := [.int v1, .int 1, .int 100]) (S := []) vmX12_isAhead (mtX12_isAhead l e (by omega) v0 v1 1 100) q_2072 rfl rfl (Nat.le_of_ble_eq_true rfl) (zdk (cc := cX12_chance) (q := (5, .invokevirtual 557, 3)) tkX12_chance 4 rfl) (fun y1 => ?_)
  refine zco_if_ne (tgt := 17) (zdk (cc := cX12_chance) (q := (8, .ifCond .ne 9, 3)) tkX12_chance 5 rfl) rfl ?_ ?_
  · refine zco_p tkX12_chance 10 1 (pc' := 18) (L' := [(0, .ref v0), (1, .int v1)]) (S' := [.ref v0]) rfl ?_
    refine zco_Vv (rc := 0) (rs := 0) (mc := 0) (ms := 0) (As := []) (S := []) vmX12_keeps (mtX12_keeps l e (by omega) v0) q_2204 rfl rfl (Nat.le_of_ble_eq_true rfl) (zdk (cc := cX12_chance) (q := (18, .invokevirtual 610, 3)) tkX12_chance 11 rfl) ?_
    refine zco_p tkX12_chance 12 4 (pc' := 25) (L' := [(3, .int 0), (2, .int 0), (0, .ref v0), (1, .int v1)]) (S' := []) rfl ?_
    exact zco_sub [2, 3, 1, 0] rfl (zco_fix (Lf := fun x : Int32 × Int32 => [(0, .ref v0), (1, .int v1), (2, .int x.1), (3, .int x.2)]) (Sf := fun _ => []) (fun r hr x => coX12_chance_B25 l e he v0 v1 r hr x.1 x.2) zFU (0, 0))
  · refine zco_p tkX12_chance 6 2 (pc' := 13) (L' := [(0, .ref v0), (1, .int v1)]) (S' := [.int 3, .ref v0]) rfl ?_
    refine zco_Vi (rc := 0) (rs := 0) (mc := 0) (ms := 0) (As := [.int 3]) (S := []) vmX12_refuses (mtX12_refuses l e (by omega) v0 3) q_1908 rfl rfl (Nat.le_of_ble_eq_true rfl) (zdk (cc := cX12_chance) (q := (13, .invokevirtual 400, 3)) tkX12_chance 8 rfl) (fun y2 => ?_)
    exact zco_iret rfl rfl rfl (zdk (cc := cX12_chance) (q := (16, .ireturn, 1)) tkX12_chance 9 rfl)
theorem mtX12_chance (l : Launch) (d : Nat) (hd : 9 ≤ d) (v0 : Nat) (v1 : Int32) : zMet l d 0 0 yX12_chance cX12_chance 5 (Option.some .int) [.ref v0, .int v1] (X12_chance v0 v1) := by
  obtain ⟨e, rfl⟩ : ∃ e, d = e + 1 := ⟨d - 1, by omega⟩
  exact zmet_of (own := RX12) (ini := false) (by decide +kernel) rfl (fun _ => by contradiction) (Nat.le_of_ble_eq_true rfl) (coX12_chance l e (by omega) v0 v1)
abbrev iX12_part : zI := (RX12, cX12_part, 4, (Option.some .boolean), false)
def tX12_part : List (Nat × Instr × Nat) := [(0, .aload_n 0, 1), (1, .iload_n 1, 1), (2, .i2l, 1), (3, .invokevirtual 422, 3), (6, .ifCond .eq 12, 3), (9, .aload_n 0, 1), (10, .iload_n 1, 1), (11, .invokevirtual 521, 3), (14, .iconst (-1), 1), (15, .if_icmp .ne 9, 3), (18, .aload_n 0, 1), (19, .iconst 2, 1), (20, .invokevirtual 613, 3), (23, .ireturn, 1), (24, .aload_n 0, 1), (25, .invokevirtual 610, 3), (28, .aload_n 0, 1), (29, .iload_n 1, 1), (30, .invokevirtual 429, 3), (33, .istore_n 2, 1), (34, .aload_n 0, 1), (35, .getfield 134, 3), (38, .bipush 14, 2), (40, .iload_n 2, 1), (41, .iadd, 1), (42, .iaload, 1), (43, .istore_n 3, 1), (44, .aload_n 0, 1), (45, .getfield 134, 3), (48, .bipush 14, 2), (50, .iload_n 2, 1), (51, .iadd, 1), (52, .iconst (-1), 1), (53, .iastore, 1), (54, .aload_n 0, 1), (55, .getfield 134, 3), (58, .bipush 14, 2), (60, .iload_n 3, 1), (61, .iadd, 1), (62, .iconst (-1), 1), (63, .iastore, 1), (64, .aload_n 0, 1), (65, .getfield 134, 3), (68, .bipush 26, 2), (70, .iload_n 2, 1), (71, .iadd, 1), (72, .iconst 0, 1), (73, .iastore, 1), (74, .aload_n 0, 1), (75, .getfield 134, 3), (78, .bipush 26, 2), (80, .iload_n 3, 1), (81, .iadd, 1), (82, .iconst 0, 1), (83, .iastore, 1), (84, .iconst 1, 1), (85, .ireturn, 1)]
set_option maxRecDepth 100000 in
theorem tkX12_part : ∀ q ∈ tX12_part, decode cX12_part q.1 = .ok q.2 := by decide +kernel
theorem vmX12_part : zVM yX12_part cX12_part 4 (Option.some .boolean) 1 12 := ⟨kX12_part, q_2229, q_2230, q_162, ⟨_, rfl, rfl⟩, by decide +kernel, by decide⟩
set_option maxHeartbeats 2000000 in
set_option maxRecDepth 20000 in
theorem coX12_part_J18 (l : Launch) (e : Nat) (he : 3 ≤ e) (v0 : Nat) : zCo l (e + 1) 0 0 iX12_part 18 [(0, .ref v0)] [] (X12_part_J18 v0) := by
  unfold X12_part_J18
  refine zco_p tkX12_part 10 2 (pc' := 20) (L' := [(0, .ref v0)]) (S' := [.int 2, .ref v0]) rfl ?_
  refine zco_Vi (rc := 0) (rs := 0) (mc := 0) (ms := 0) (As := [.int 2]) (S := []) vmX12_isRefused (mtX12_isRefused l e (by omega) v0 2) q_2212 rfl rfl (Nat.le_of_ble_eq_true rfl) (zdk (cc := cX12_part) (q := (20, .invokevirtual 613, 3)) tkX12_part 12 rfl) (fun y1 => ?_)
  exact zco_zret rfl rfl rfl (zdk (cc := cX12_part) (q := (23, .ireturn, 1)) tkX12_part 13 rfl)
set_option maxHeartbeats 2000000 in
set_option maxRecDepth 20000 in
theorem coX12_part (l : Launch) (e : Nat) (he : 3 ≤ e) (v0 : Nat) (v1 : Int32) : zCo l (e + 1) 0 0 iX12_part 0 [(0, .ref v0), (1, .int v1)] [] (X12_part v0 v1) := by
  unfold X12_part
  refine zco_p tkX12_part 0 3 (pc' := 3) (L' := [(0, .ref v0), (1, .int v1)]) (S' := [.long v1.toInt64, .ref v0]) rfl ?_
  refine zco_Vi (rc := 0) (rs := 0) (mc := 0) (ms := 0) (As := [.long v1.toInt64]) (S := []) vmX12_isPerson (mtX12_isPerson l e (by omega) v0 v1.toInt64) q_1936 rfl rfl (Nat.le_of_ble_eq_true rfl) (zdk (cc := cX12_part) (q := (3, .invokevirtual 422, 3)) tkX12_part 3 rfl) (fun y1 => ?_)
  refine zco_if_eq (tgt := 18) (zdk (cc := cX12_part) (q := (6, .ifCond .eq 12, 3)) tkX12_part 4 rfl) rfl ?_ ?_
  · exact zco_sub [0] rfl (coX12_part_J18 l e he v0)
  · refine zco_p tkX12_part 5 2 (pc' := 11) (L' := [(0, .ref v0), (1, .int v1)]) (S' := [.int v1, .ref v0]) rfl ?_
    refine zco_Vi (rc := 0) (rs := 0) (mc := 0) (ms := 0) (As := [.int v1]) (S := []) vmX12_wedTo (mtX12_wedTo l e (by omega) v0 v1) q_1968 rfl rfl (Nat.le_of_ble_eq_true rfl) (zdk (cc := cX12_part) (q := (11, .invokevirtual 521, 3)) tkX12_part 7 rfl) (fun y2 => ?_)
    refine zco_p tkX12_part 8 1 (pc' := 15) (L' := [(0, .ref v0), (1, .int v1)]) (S' := [.int ((-1)), .int y2]) rfl ?_
    refine zco_icmp_ne (tgt := 24) (zdk (cc := cX12_part) (q := (15, .if_icmp .ne 9, 3)) tkX12_part 9 rfl) rfl ?_ ?_
    · refine zco_p tkX12_part 14 1 (pc' := 25) (L' := [(0, .ref v0), (1, .int v1)]) (S' := [.ref v0]) rfl ?_
      refine zco_Vv (rc := 0) (rs := 0) (mc := 0) (ms := 0) (As := []) (S := []) vmX12_keeps (mtX12_keeps l e (by omega) v0) q_2204 rfl rfl (Nat.le_of_ble_eq_true rfl) (zdk (cc := cX12_part) (q := (25, .invokevirtual 610, 3)) tkX12_part 15 rfl) ?_
      refine zco_p tkX12_part 16 2 (pc' := 30) (L' := [(0, .ref v0), (1, .int v1)]) (S' := [.int v1, .ref v0]) rfl ?_
      refine zco_Vi (rc := 0) (rs := 0) (mc := 0) (ms := 0) (As := [.int v1]) (S := []) vmX12_codeOf (mtX12_codeOf l e (by omega) v0 v1) q_1948 rfl rfl (Nat.le_of_ble_eq_true rfl) (zdk (cc := cX12_part) (q := (30, .invokevirtual 429, 3)) tkX12_part 18 rfl) (fun y3 => ?_)
      refine zco_p tkX12_part 19 2 (pc' := 35) (L' := [(2, .int y3), (0, .ref v0), (1, .int v1)]) (S' := [.ref v0]) rfl ?_
      refine zco_gr fl_12_134 rfl (zdk (cc := cX12_part) (q := (35, .getfield 134, 3)) tkX12_part 21 rfl) (fun x4 => ?_)
      refine zco_p tkX12_part 22 3 (pc' := 42) (L' := [(2, .int y3), (0, .ref v0), (1, .int v1)]) (S' := [.int (14 + y3), .ref x4]) rfl ?_
      refine zco_iaload (zdk (cc := cX12_part) (q := (42, .iaload, 1)) tkX12_part 25 rfl) (fun x5 => ?_)
      refine zco_p tkX12_part 26 2 (pc' := 45) (L' := [(3, .int x5), (2, .int y3), (0, .ref v0), (1, .int v1)]) (S' := [.ref v0]) rfl ?_
      refine zco_gr fl_12_134 rfl (zdk (cc := cX12_part) (q := (45, .getfield 134, 3)) tkX12_part 28 rfl) (fun x6 => ?_)
      refine zco_p tkX12_part 29 4 (pc' := 53) (L' := [(3, .int x5), (2, .int y3), (0, .ref v0), (1, .int v1)]) (S' := [.int ((-1)), .int (14 + y3), .ref x6]) rfl ?_
      refine zco_iastore (zdk (cc := cX12_part) (q := (53, .iastore, 1)) tkX12_part 33 rfl) ?_
      refine zco_p tkX12_part 34 1 (pc' := 55) (L' := [(3, .int x5), (2, .int y3), (0, .ref v0), (1, .int v1)]) (S' := [.ref v0]) rfl ?_
      refine zco_gr fl_12_134 rfl (zdk (cc := cX12_part) (q := (55, .getfield 134, 3)) tkX12_part 35 rfl) (fun x7 => ?_)
      refine zco_p tkX12_part 36 4 (pc' := 63) (L' := [(3, .int x5), (2, .int y3), (0, .ref v0), (1, .int v1)]) (S' := [.int ((-1)), .int (14 + x5), .ref x7]) rfl ?_
      refine zco_iastore (zdk (cc := cX12_part) (q := (63, .iastore, 1)) tkX12_part 40 rfl) ?_
      refine zco_p tkX12_part 41 1 (pc' := 65) (L' := [(3, .int x5), (2, .int y3), (0, .ref v0), (1, .int v1)]) (S' := [.ref v0]) rfl ?_
      refine zco_gr fl_12_134 rfl (zdk (cc := cX12_part) (q := (65, .getfield 134, 3)) tkX12_part 42 rfl) (fun x8 => ?_)
      refine zco_p tkX12_part 43 4 (pc' := 73) (L' := [(3, .int x5), (2, .int y3), (0, .ref v0), (1, .int v1)]) (S' := [.int 0, .int (26 + y3), .ref x8]) rfl ?_
      refine zco_iastore (zdk (cc := cX12_part) (q := (73, .iastore, 1)) tkX12_part 47 rfl) ?_
      refine zco_p tkX12_part 48 1 (pc' := 75) (L' := [(3, .int x5), (2, .int y3), (0, .ref v0), (1, .int v1)]) (S' := [.ref v0]) rfl ?_
      refine zco_gr fl_12_134 rfl (zdk (cc := cX12_part) (q := (75, .getfield 134, 3)) tkX12_part 49 rfl) (fun x9 => ?_)
      refine zco_p tkX12_part 50 4 (pc' := 83) (L' := [(3, .int x5), (2, .int y3), (0, .ref v0), (1, .int v1)]) (S' := [.int 0, .int (26 + x5), .ref x9]) rfl ?_
      refine zco_iastore (zdk (cc := cX12_part) (q := (83, .iastore, 1)) tkX12_part 54 rfl) ?_
      refine zco_p tkX12_part 55 1 (pc' := 85) (L' := [(3, .int x5), (2, .int y3), (0, .ref v0), (1, .int v1)]) (S' := [.int 1]) rfl ?_
      exact zco_zret rfl rfl rfl (zdk (cc := cX12_part) (q := (85, .ireturn, 1)) tkX12_part 56 rfl)
    · exact zco_sub [0] rfl (coX12_part_J18 l e he v0)
theorem mtX12_part (l : Launch) (d : Nat) (hd : 4 ≤ d) (v0 : Nat) (v1 : Int32) : zMet l d 0 0 yX12_part cX12_part 4 (Option.some .boolean) [.ref v0, .int v1] (X12_part v0 v1) := by
  obtain ⟨e, rfl⟩ : ∃ e, d = e + 1 := ⟨d - 1, by omega⟩
  exact zmet_of (own := RX12) (ini := false) (by decide +kernel) rfl (fun _ => by contradiction) (Nat.le_of_ble_eq_true rfl) (coX12_part l e (by omega) v0 v1)
abbrev iX12_isChanged : zI := (RX12, cX12_isChanged, 4, (Option.some .boolean), false)
def tX12_isChanged : List (Nat × Instr × Nat) := [(0, .iload_n 1, 1), (1, .ifCond .eq 13, 3), (4, .aload_n 0, 1), (5, .getfield 134, 3), (8, .iload_n 2, 1), (9, .iaload, 1), (10, .iload_n 3, 1), (11, .if_icmp .ne 9, 3), (14, .aload_n 0, 1), (15, .iconst 2, 1), (16, .invokevirtual 613, 3), (19, .ireturn, 1), (20, .aload_n 0, 1), (21, .invokevirtual 610, 3), (24, .aload_n 0, 1), (25, .getfield 134, 3), (28, .iload_n 2, 1), (29, .iload_n 3, 1), (30, .iastore, 1), (31, .iconst 1, 1), (32, .ireturn, 1)]
set_option maxRecDepth 100000 in
theorem tkX12_isChanged : ∀ q ∈ tX12_isChanged, decode cX12_isChanged q.1 = .ok q.2 := by decide +kernel
theorem vmX12_isChanged : zVM yX12_isChanged cX12_isChanged 4 (Option.some .boolean) 3 12 := ⟨kX12_isChanged, q_2239, q_135, q_162, ⟨_, rfl, rfl⟩, by decide +kernel, by decide⟩
set_option maxHeartbeats 2000000 in
set_option maxRecDepth 20000 in
theorem coX12_isChanged_J14 (l : Launch) (e : Nat) (he : 1 ≤ e) (v0 : Nat) : zCo l (e + 1) 0 0 iX12_isChanged 14 [(0, .ref v0)] [] (X12_isChanged_J14 v0) := by
  unfold X12_isChanged_J14
  refine zco_p tkX12_isChanged 8 2 (pc' := 16) (L' := [(0, .ref v0)]) (S' := [.int 2, .ref v0]) rfl ?_
  refine zco_Vi (rc := 0) (rs := 0) (mc := 0) (ms := 0) (As := [.int 2]) (S := []) vmX12_isRefused (mtX12_isRefused l e (by omega) v0 2) q_2212 rfl rfl (Nat.le_of_ble_eq_true rfl) (zdk (cc := cX12_isChanged) (q := (16, .invokevirtual 613, 3)) tkX12_isChanged 10 rfl) (fun y1 => ?_)
  exact zco_zret rfl rfl rfl (zdk (cc := cX12_isChanged) (q := (19, .ireturn, 1)) tkX12_isChanged 11 rfl)
set_option maxHeartbeats 2000000 in
set_option maxRecDepth 20000 in
theorem coX12_isChanged (l : Launch) (e : Nat) (he : 1 ≤ e) (v0 : Nat) (v1 : Int32) (v2 : Int32) (v3 : Int32) : zCo l (e + 1) 0 0 iX12_isChanged 0 [(0, .ref v0), (1, .int v1), (2, .int v2), (3, .int v3)] [] (X12_isChanged v0 v1 v2 v3) := by
  unfold X12_isChanged
  refine zco_p tkX12_isChanged 0 1 (pc' := 1) (L' := [(0, .ref v0), (1, .int v1), (2, .int v2), (3, .int v3)]) (S' := [.int v1]) rfl ?_
  refine zco_if_eq (tgt := 14) (zdk (cc := cX12_isChanged) (q := (1, .ifCond .eq 13, 3)) tkX12_isChanged 1 rfl) rfl ?_ ?_
  · exact zco_sub [0] rfl (coX12_isChanged_J14 l e he v0)
  · refine zco_p tkX12_isChanged 2 1 (pc' := 5) (L' := [(0, .ref v0), (1, .int v1), (2, .int v2), (3, .int v3)]) (S' := [.ref v0]) rfl ?_
    refine zco_gr fl_12_134 rfl (zdk (cc := cX12_isChanged) (q := (5, .getfield 134, 3)) tkX12_isChanged 3 rfl) (fun x1 => ?_)
    refine zco_p tkX12_isChanged 4 1 (pc' := 9) (L' := [(0, .ref v0), (1, .int v1), (2, .int v2), (3, .int v3)]) (S' := [.int v2, .ref x1]) rfl ?_
    refine zco_iaload (zdk (cc := cX12_isChanged) (q := (9, .iaload, 1)) tkX12_isChanged 5 rfl) (fun x2 => ?_)
    refine zco_p tkX12_isChanged 6 1 (pc' := 11) (L' := [(0, .ref v0), (1, .int v1), (2, .int v2), (3, .int v3)]) (S' := [.int v3, .int x2]) rfl ?_
    refine zco_icmp_ne (tgt := 20) (zdk (cc := cX12_isChanged) (q := (11, .if_icmp .ne 9, 3)) tkX12_isChanged 7 rfl) rfl ?_ ?_
    · refine zco_p tkX12_isChanged 12 1 (pc' := 21) (L' := [(0, .ref v0), (1, .int v1), (2, .int v2), (3, .int v3)]) (S' := [.ref v0]) rfl ?_
      refine zco_Vv (rc := 0) (rs := 0) (mc := 0) (ms := 0) (As := []) (S := []) vmX12_keeps (mtX12_keeps l e (by omega) v0) q_2204 rfl rfl (Nat.le_of_ble_eq_true rfl) (zdk (cc := cX12_isChanged) (q := (21, .invokevirtual 610, 3)) tkX12_isChanged 13 rfl) ?_
      refine zco_p tkX12_isChanged 14 1 (pc' := 25) (L' := [(0, .ref v0), (1, .int v1), (2, .int v2), (3, .int v3)]) (S' := [.ref v0]) rfl ?_
      refine zco_gr fl_12_134 rfl (zdk (cc := cX12_isChanged) (q := (25, .getfield 134, 3)) tkX12_isChanged 15 rfl) (fun x3 => ?_)
      refine zco_p tkX12_isChanged 16 2 (pc' := 30) (L' := [(0, .ref v0), (1, .int v1), (2, .int v2), (3, .int v3)]) (S' := [.int v3, .int v2, .ref x3]) rfl ?_
      refine zco_iastore (zdk (cc := cX12_isChanged) (q := (30, .iastore, 1)) tkX12_isChanged 18 rfl) ?_
      refine zco_p tkX12_isChanged 19 1 (pc' := 32) (L' := [(0, .ref v0), (1, .int v1), (2, .int v2), (3, .int v3)]) (S' := [.int 1]) rfl ?_
      exact zco_zret rfl rfl rfl (zdk (cc := cX12_isChanged) (q := (32, .ireturn, 1)) tkX12_isChanged 20 rfl)
    · exact zco_sub [0] rfl (coX12_isChanged_J14 l e he v0)
theorem mtX12_isChanged (l : Launch) (d : Nat) (hd : 2 ≤ d) (v0 : Nat) (v1 : Int32) (v2 : Int32) (v3 : Int32) : zMet l d 0 0 yX12_isChanged cX12_isChanged 4 (Option.some .boolean) [.ref v0, .int v1, .int v2, .int v3] (X12_isChanged v0 v1 v2 v3) := by
  obtain ⟨e, rfl⟩ : ∃ e, d = e + 1 := ⟨d - 1, by omega⟩
  exact zmet_of (own := RX12) (ini := false) (by decide +kernel) rfl (fun _ => by contradiction) (Nat.le_of_ble_eq_true rfl) (coX12_isChanged l e (by omega) v0 v1 v2 v3)
abbrev iX12_learn : zI := (RX12, cX12_learn, 5, (Option.some .boolean), false)
def tX12_learn : List (Nat × Instr × Nat) := [(0, .aload_n 0, 1), (1, .iload_n 1, 1), (2, .i2l, 1), (3, .iload_n 2, 1), (4, .i2l, 1), (5, .invokevirtual 545, 3), (8, .ifCond .eq 19, 3), (11, .iload_n 3, 1), (12, .i2l, 1), (13, .lconst 0, 1), (14, .ldc2_w 627, 3), (17, .invokestatic 313, 3), (20, .ifCond .eq 7, 3), (23, .iconst 1, 1), (24, .goto 4, 3), (27, .iconst 0, 1), (28, .istore 4, 2), (30, .aload_n 0, 1), (31, .iload 4, 2), (33, .iload 4, 2), (35, .ifCond .eq 20, 3), (38, .aload_n 0, 1), (39, .aload_n 0, 1), (40, .iload_n 1, 1), (41, .invokevirtual 429, 3), (44, .aload_n 0, 1), (45, .iload_n 2, 1), (46, .invokevirtual 429, 3), (49, .invokevirtual 435, 3), (52, .goto 4, 3), (55, .iconst 0, 1), (56, .iload_n 3, 1), (57, .invokevirtual 629, 3), (60, .ireturn, 1)]
set_option maxRecDepth 100000 in
theorem tkX12_learn : ∀ q ∈ tX12_learn, decode cX12_learn q.1 = .ok q.2 := by decide +kernel
theorem vmX12_learn : zVM yX12_learn cX12_learn 5 (Option.some .boolean) 3 12 := ⟨kX12_learn, q_2233, q_2234, q_162, ⟨_, rfl, rfl⟩, by decide +kernel, by decide⟩
set_option maxHeartbeats 2000000 in
set_option maxRecDepth 20000 in
theorem coX12_learn_J56 (l : Launch) (e : Nat) (he : 4 ≤ e) (v3 : Int32) (s0 : Int32) (s1 : Int32) (s2 : Nat) : zCo l (e + 1) 0 0 iX12_learn 56 [(3, .int v3)] [.int s0, .int s1, .ref s2] (X12_learn_J56 v3 s0 s1 s2) := by
  unfold X12_learn_J56
  refine zco_p tkX12_learn 31 1 (pc' := 57) (L' := [(3, .int v3)]) (S' := [.int v3, .int s0, .int s1, .ref s2]) rfl ?_
  refine zco_Vi (rc := 0) (rs := 0) (mc := 0) (ms := 0) (As := [.int s1, .int s0, .int v3]) (S := []) vmX12_isChanged (mtX12_isChanged l e (by omega) s2 s1 s0 v3) q_2237 rfl rfl (Nat.le_of_ble_eq_true rfl) (zdk (cc := cX12_learn) (q := (57, .invokevirtual 629, 3)) tkX12_learn 32 rfl) (fun y1 => ?_)
  exact zco_zret rfl rfl rfl (zdk (cc := cX12_learn) (q := (60, .ireturn, 1)) tkX12_learn 33 rfl)
set_option maxHeartbeats 2000000 in
set_option maxRecDepth 20000 in
theorem coX12_learn_J28 (l : Launch) (e : Nat) (he : 4 ≤ e) (v0 : Nat) (v1 : Int32) (v2 : Int32) (v3 : Int32) (s0 : Int32) : zCo l (e + 1) 0 0 iX12_learn 28 [(0, .ref v0), (1, .int v1), (2, .int v2), (3, .int v3)] [.int s0] (X12_learn_J28 v0 v1 v2 v3 s0) := by
  unfold X12_learn_J28
  refine zco_p tkX12_learn 16 4 (pc' := 35) (L' := [(4, .int s0), (0, .ref v0), (1, .int v1), (2, .int v2), (3, .int v3)]) (S' := [.int s0, .int s0, .ref v0]) rfl ?_
  refine zco_if_eq (tgt := 55) (zdk (cc := cX12_learn) (q := (35, .ifCond .eq 20, 3)) tkX12_learn 20 rfl) rfl ?_ ?_
  · refine zco_p tkX12_learn 30 1 (pc' := 56) (L' := [(4, .int s0), (0, .ref v0), (1, .int v1), (2, .int v2), (3, .int v3)]) (S' := [.int 0, .int s0, .ref v0]) rfl ?_
    exact zco_sub [4] rfl (coX12_learn_J56 l e he v3 0 s0 v0)
  · refine zco_p tkX12_learn 21 3 (pc' := 41) (L' := [(4, .int s0), (0, .ref v0), (1, .int v1), (2, .int v2), (3, .int v3)]) (S' := [.int v1, .ref v0, .ref v0, .int s0, .ref v0]) rfl ?_
    refine zco_Vi (rc := 0) (rs := 0) (mc := 0) (ms := 0) (As := [.int v1]) (S := [.ref v0, .int s0, .ref v0]) vmX12_codeOf (mtX12_codeOf l e (by omega) v0 v1) q_1948 rfl rfl (Nat.le_of_ble_eq_true rfl) (zdk (cc := cX12_learn) (q := (41, .invokevirtual 429, 3)) tkX12_learn 24 rfl) (fun y1 => ?_)
    refine zco_p tkX12_learn 25 2 (pc' := 46) (L' := [(4, .int s0), (0, .ref v0), (1, .int v1), (2, .int v2), (3, .int v3)]) (S' := [.int v2, .ref v0, .int y1, .ref v0, .int s0, .ref v0]) rfl ?_
    refine zco_Vi (rc := 0) (rs := 0) (mc := 0) (ms := 0) (As := [.int v2]) (S := [.int y1, .ref v0, .int s0, .ref v0]) vmX12_codeOf (mtX12_codeOf l e (by omega) v0 v2) q_1948 rfl rfl (Nat.le_of_ble_eq_true rfl) (zdk (cc := cX12_learn) (q := (46, .invokevirtual 429, 3)) tkX12_learn 27 rfl) (fun y2 => ?_)
    refine zco_Vi (rc := 0) (rs := 0) (mc := 0) (ms := 0) (As := [.int y1, .int y2]) (S := [.int s0, .ref v0]) vmX12_knowingAt (mtX12_knowingAt l e (by omega) v0 y1 y2) q_2012 rfl rfl (Nat.le_of_ble_eq_true rfl) (zdk (cc := cX12_learn) (q := (49, .invokevirtual 435, 3)) tkX12_learn 28 rfl) (fun y3 => ?_)
    refine zco_p tkX12_learn 29 1 (pc' := 56) (L' := [(4, .int s0), (0, .ref v0), (1, .int v1), (2, .int v2), (3, .int v3)]) (S' := [.int y3, .int s0, .ref v0]) rfl ?_
    exact zco_sub [4] rfl (coX12_learn_J56 l e he v3 y3 s0 v0)
set_option maxHeartbeats 2000000 in
set_option maxRecDepth 20000 in
theorem coX12_learn_J27 (l : Launch) (e : Nat) (he : 4 ≤ e) (v0 : Nat) (v1 : Int32) (v2 : Int32) (v3 : Int32) : zCo l (e + 1) 0 0 iX12_learn 27 [(0, .ref v0), (1, .int v1), (2, .int v2), (3, .int v3)] [] (X12_learn_J27 v0 v1 v2 v3) := by
  unfold X12_learn_J27
  refine zco_p tkX12_learn 15 1 (pc' := 28) (L' := [(0, .ref v0), (1, .int v1), (2, .int v2), (3, .int v3)]) (S' := [.int 0]) rfl ?_
  exact zco_sub [0, 1, 2, 3] rfl (coX12_learn_J28 l e he v0 v1 v2 v3 0)
set_option maxHeartbeats 2000000 in
set_option maxRecDepth 20000 in
theorem coX12_learn (l : Launch) (e : Nat) (he : 4 ≤ e) (v0 : Nat) (v1 : Int32) (v2 : Int32) (v3 : Int32) : zCo l (e + 1) 0 0 iX12_learn 0 [(0, .ref v0), (1, .int v1), (2, .int v2), (3, .int v3)] [] (X12_learn v0 v1 v2 v3) := by
  unfold X12_learn
  refine zco_p tkX12_learn 0 5 (pc' := 5) (L' := [(0, .ref v0), (1, .int v1), (2, .int v2), (3, .int v3)]) (S' := [.long v2.toInt64, .long v1.toInt64, .ref v0]) rfl ?_
  refine zco_Vi (rc := 0) (rs := 0) (mc := 0) (ms := 0) (As := [.long v1.toInt64, .long v2.toInt64]) (S := []) vmX12_areTwo (mtX12_areTwo l e (by omega) v0 v1.toInt64 v2.toInt64) q_1992 rfl rfl (Nat.le_of_ble_eq_true rfl) (zdk (cc := cX12_learn) (q := (5, .invokevirtual 545, 3)) tkX12_learn 5 rfl) (fun y1 => ?_)
  refine zco_if_eq (tgt := 27) (zdk (cc := cX12_learn) (q := (8, .ifCond .eq 19, 3)) tkX12_learn 6 rfl) rfl ?_ ?_
  · exact zco_sub [0, 1, 2, 3] rfl (coX12_learn_J27 l e he v0 v1 v2 v3)
  · refine zco_p tkX12_learn 7 3 (pc' := 14) (L' := [(0, .ref v0), (1, .int v1), (2, .int v2), (3, .int v3)]) (S' := [.long 0, .long v3.toInt64]) rfl ?_
    refine zco_ldc2 q_2236 (zdk (cc := cX12_learn) (q := (14, .ldc2_w 627, 3)) tkX12_learn 10 rfl) ?_
    refine zco_Si (rc := 0) (rs := 0) (mc := 0) (ms := 0) (As := [.long v3.toInt64, .long 0, .long 9]) (S := []) vmX12_isIn (mtX12_isIn l e (by omega) v3.toInt64 0 9) q_1799 rfl rfl (Nat.le_of_ble_eq_true rfl) (zdk (cc := cX12_learn) (q := (17, .invokestatic 313, 3)) tkX12_learn 11 rfl) (fun y2 => ?_)
    refine zco_if_eq (tgt := 27) (zdk (cc := cX12_learn) (q := (20, .ifCond .eq 7, 3)) tkX12_learn 12 rfl) rfl ?_ ?_
    · exact zco_sub [0, 1, 2, 3] rfl (coX12_learn_J27 l e he v0 v1 v2 v3)
    · refine zco_p tkX12_learn 13 2 (pc' := 28) (L' := [(0, .ref v0), (1, .int v1), (2, .int v2), (3, .int v3)]) (S' := [.int 1]) rfl ?_
      exact zco_sub [0, 1, 2, 3] rfl (coX12_learn_J28 l e he v0 v1 v2 v3 1)
theorem mtX12_learn (l : Launch) (d : Nat) (hd : 5 ≤ d) (v0 : Nat) (v1 : Int32) (v2 : Int32) (v3 : Int32) : zMet l d 0 0 yX12_learn cX12_learn 5 (Option.some .boolean) [.ref v0, .int v1, .int v2, .int v3] (X12_learn v0 v1 v2 v3) := by
  obtain ⟨e, rfl⟩ : ∃ e, d = e + 1 := ⟨d - 1, by omega⟩
  exact zmet_of (own := RX12) (ini := false) (by decide +kernel) rfl (fun _ => by contradiction) (Nat.le_of_ble_eq_true rfl) (coX12_learn l e (by omega) v0 v1 v2 v3)
abbrev iX12_like : zI := (RX12, cX12_like, 5, (Option.some .boolean), false)
def tX12_like : List (Nat × Instr × Nat) := [(0, .aload_n 0, 1), (1, .iload_n 1, 1), (2, .i2l, 1), (3, .iload_n 2, 1), (4, .i2l, 1), (5, .invokevirtual 545, 3), (8, .ifCond .eq 19, 3), (11, .iload_n 3, 1), (12, .i2l, 1), (13, .lconst 0, 1), (14, .ldc2_w 627, 3), (17, .invokestatic 313, 3), (20, .ifCond .eq 7, 3), (23, .iconst 1, 1), (24, .goto 4, 3), (27, .iconst 0, 1), (28, .istore 4, 2), (30, .aload_n 0, 1), (31, .iload 4, 2), (33, .iload 4, 2), (35, .ifCond .eq 20, 3), (38, .aload_n 0, 1), (39, .aload_n 0, 1), (40, .iload_n 1, 1), (41, .invokevirtual 429, 3), (44, .aload_n 0, 1), (45, .iload_n 2, 1), (46, .invokevirtual 429, 3), (49, .invokevirtual 432, 3), (52, .goto 4, 3), (55, .iconst 0, 1), (56, .iload_n 3, 1), (57, .invokevirtual 629, 3), (60, .ireturn, 1)]
set_option maxRecDepth 100000 in
theorem tkX12_like : ∀ q ∈ tX12_like, decode cX12_like q.1 = .ok q.2 := by decide +kernel
theorem vmX12_like : zVM yX12_like cX12_like 5 (Option.some .boolean) 3 12 := ⟨kX12_like, q_2242, q_2243, q_162, ⟨_, rfl, rfl⟩, by decide +kernel, by decide⟩
set_option maxHeartbeats 2000000 in
set_option maxRecDepth 20000 in
theorem coX12_like_J56 (l : Launch) (e : Nat) (he : 4 ≤ e) (v3 : Int32) (s0 : Int32) (s1 : Int32) (s2 : Nat) : zCo l (e + 1) 0 0 iX12_like 56 [(3, .int v3)] [.int s0, .int s1, .ref s2] (X12_like_J56 v3 s0 s1 s2) := by
  unfold X12_like_J56
  refine zco_p tkX12_like 31 1 (pc' := 57) (L' := [(3, .int v3)]) (S' := [.int v3, .int s0, .int s1, .ref s2]) rfl ?_
  refine zco_Vi (rc := 0) (rs := 0) (mc := 0) (ms := 0) (As := [.int s1, .int s0, .int v3]) (S := []) vmX12_isChanged (mtX12_isChanged l e (by omega) s2 s1 s0 v3) q_2237 rfl rfl (Nat.le_of_ble_eq_true rfl) (zdk (cc := cX12_like) (q := (57, .invokevirtual 629, 3)) tkX12_like 32 rfl) (fun y1 => ?_)
  exact zco_zret rfl rfl rfl (zdk (cc := cX12_like) (q := (60, .ireturn, 1)) tkX12_like 33 rfl)
set_option maxHeartbeats 2000000 in
set_option maxRecDepth 20000 in
theorem coX12_like_J28 (l : Launch) (e : Nat) (he : 4 ≤ e) (v0 : Nat) (v1 : Int32) (v2 : Int32) (v3 : Int32) (s0 : Int32) : zCo l (e + 1) 0 0 iX12_like 28 [(0, .ref v0), (1, .int v1), (2, .int v2), (3, .int v3)] [.int s0] (X12_like_J28 v0 v1 v2 v3 s0) := by
  unfold X12_like_J28
  refine zco_p tkX12_like 16 4 (pc' := 35) (L' := [(4, .int s0), (0, .ref v0), (1, .int v1), (2, .int v2), (3, .int v3)]) (S' := [.int s0, .int s0, .ref v0]) rfl ?_
  refine zco_if_eq (tgt := 55) (zdk (cc := cX12_like) (q := (35, .ifCond .eq 20, 3)) tkX12_like 20 rfl) rfl ?_ ?_
  · refine zco_p tkX12_like 30 1 (pc' := 56) (L' := [(4, .int s0), (0, .ref v0), (1, .int v1), (2, .int v2), (3, .int v3)]) (S' := [.int 0, .int s0, .ref v0]) rfl ?_
    exact zco_sub [4] rfl (coX12_like_J56 l e he v3 0 s0 v0)
  · refine zco_p tkX12_like 21 3 (pc' := 41) (L' := [(4, .int s0), (0, .ref v0), (1, .int v1), (2, .int v2), (3, .int v3)]) (S' := [.int v1, .ref v0, .ref v0, .int s0, .ref v0]) rfl ?_
    refine zco_Vi (rc := 0) (rs := 0) (mc := 0) (ms := 0) (As := [.int v1]) (S := [.ref v0, .int s0, .ref v0]) vmX12_codeOf (mtX12_codeOf l e (by omega) v0 v1) q_1948 rfl rfl (Nat.le_of_ble_eq_true rfl) (zdk (cc := cX12_like) (q := (41, .invokevirtual 429, 3)) tkX12_like 24 rfl) (fun y1 => ?_)
    refine zco_p tkX12_like 25 2 (pc' := 46) (L' := [(4, .int s0), (0, .ref v0), (1, .int v1), (2, .int v2), (3, .int v3)]) (S' := [.int v2, .ref v0, .int y1, .ref v0, .int s0, .ref v0]) rfl ?_
    refine zco_Vi (rc := 0) (rs := 0) (mc := 0) (ms := 0) (As := [.int v2]) (S := [.int y1, .ref v0, .int s0, .ref v0]) vmX12_codeOf (mtX12_codeOf l e (by omega) v0 v2) q_1948 rfl rfl (Nat.le_of_ble_eq_true rfl) (zdk (cc := cX12_like) (q := (46, .invokevirtual 429, 3)) tkX12_like 27 rfl) (fun y2 => ?_)
    refine zco_Vi (rc := 0) (rs := 0) (mc := 0) (ms := 0) (As := [.int y1, .int y2]) (S := [.int s0, .ref v0]) vmX12_likingAt (mtX12_likingAt l e (by omega) v0 y1 y2) q_2004 rfl rfl (Nat.le_of_ble_eq_true rfl) (zdk (cc := cX12_like) (q := (49, .invokevirtual 432, 3)) tkX12_like 28 rfl) (fun y3 => ?_)
    refine zco_p tkX12_like 29 1 (pc' := 56) (L' := [(4, .int s0), (0, .ref v0), (1, .int v1), (2, .int v2), (3, .int v3)]) (S' := [.int y3, .int s0, .ref v0]) rfl ?_
    exact zco_sub [4] rfl (coX12_like_J56 l e he v3 y3 s0 v0)
set_option maxHeartbeats 2000000 in
set_option maxRecDepth 20000 in
theorem coX12_like_J27 (l : Launch) (e : Nat) (he : 4 ≤ e) (v0 : Nat) (v1 : Int32) (v2 : Int32) (v3 : Int32) : zCo l (e + 1) 0 0 iX12_like 27 [(0, .ref v0), (1, .int v1), (2, .int v2), (3, .int v3)] [] (X12_like_J27 v0 v1 v2 v3) := by
  unfold X12_like_J27
  refine zco_p tkX12_like 15 1 (pc' := 28) (L' := [(0, .ref v0), (1, .int v1), (2, .int v2), (3, .int v3)]) (S' := [.int 0]) rfl ?_
  exact zco_sub [0, 1, 2, 3] rfl (coX12_like_J28 l e he v0 v1 v2 v3 0)
set_option maxHeartbeats 2000000 in
set_option maxRecDepth 20000 in
theorem coX12_like (l : Launch) (e : Nat) (he : 4 ≤ e) (v0 : Nat) (v1 : Int32) (v2 : Int32) (v3 : Int32) : zCo l (e + 1) 0 0 iX12_like 0 [(0, .ref v0), (1, .int v1), (2, .int v2), (3, .int v3)] [] (X12_like v0 v1 v2 v3) := by
  unfold X12_like
  refine zco_p tkX12_like 0 5 (pc' := 5) (L' := [(0, .ref v0), (1, .int v1), (2, .int v2), (3, .int v3)]) (S' := [.long v2.toInt64, .long v1.toInt64, .ref v0]) rfl ?_
  refine zco_Vi (rc := 0) (rs := 0) (mc := 0) (ms := 0) (As := [.long v1.toInt64, .long v2.toInt64]) (S := []) vmX12_areTwo (mtX12_areTwo l e (by omega) v0 v1.toInt64 v2.toInt64) q_1992 rfl rfl (Nat.le_of_ble_eq_true rfl) (zdk (cc := cX12_like) (q := (5, .invokevirtual 545, 3)) tkX12_like 5 rfl) (fun y1 => ?_)
  refine zco_if_eq (tgt := 27) (zdk (cc := cX12_like) (q := (8, .ifCond .eq 19, 3)) tkX12_like 6 rfl) rfl ?_ ?_
  · exact zco_sub [0, 1, 2, 3] rfl (coX12_like_J27 l e he v0 v1 v2 v3)
  · refine zco_p tkX12_like 7 3 (pc' := 14) (L' := [(0, .ref v0), (1, .int v1), (2, .int v2), (3, .int v3)]) (S' := [.long 0, .long v3.toInt64]) rfl ?_
    refine zco_ldc2 q_2236 (zdk (cc := cX12_like) (q := (14, .ldc2_w 627, 3)) tkX12_like 10 rfl) ?_
    refine zco_Si (rc := 0) (rs := 0) (mc := 0) (ms := 0) (As := [.long v3.toInt64, .long 0, .long 9]) (S := []) vmX12_isIn (mtX12_isIn l e (by omega) v3.toInt64 0 9) q_1799 rfl rfl (Nat.le_of_ble_eq_true rfl) (zdk (cc := cX12_like) (q := (17, .invokestatic 313, 3)) tkX12_like 11 rfl) (fun y2 => ?_)
    refine zco_if_eq (tgt := 27) (zdk (cc := cX12_like) (q := (20, .ifCond .eq 7, 3)) tkX12_like 12 rfl) rfl ?_ ?_
    · exact zco_sub [0, 1, 2, 3] rfl (coX12_like_J27 l e he v0 v1 v2 v3)
    · refine zco_p tkX12_like 13 2 (pc' := 28) (L' := [(0, .ref v0), (1, .int v1), (2, .int v2), (3, .int v3)]) (S' := [.int 1]) rfl ?_
      exact zco_sub [0, 1, 2, 3] rfl (coX12_like_J28 l e he v0 v1 v2 v3 1)
theorem mtX12_like (l : Launch) (d : Nat) (hd : 5 ≤ d) (v0 : Nat) (v1 : Int32) (v2 : Int32) (v3 : Int32) : zMet l d 0 0 yX12_like cX12_like 5 (Option.some .boolean) [.ref v0, .int v1, .int v2, .int v3] (X12_like v0 v1 v2 v3) := by
  obtain ⟨e, rfl⟩ : ∃ e, d = e + 1 := ⟨d - 1, by omega⟩
  exact zmet_of (own := RX12) (ini := false) (by decide +kernel) rfl (fun _ => by contradiction) (Nat.le_of_ble_eq_true rfl) (coX12_like l e (by omega) v0 v1 v2 v3)
abbrev iX12_swap : zI := (RX12, cX12_swap, 4, (Option.some .boolean), false)
def tX12_swap : List (Nat × Instr × Nat) := [(0, .iload_n 1, 1), (1, .i2l, 1), (2, .lconst 0, 1), (3, .lconst 1, 1), (4, .invokestatic 313, 3), (7, .ifCond .eq 42, 3), (10, .iload_n 2, 1), (11, .i2l, 1), (12, .lconst 0, 1), (13, .aload_n 0, 1), (14, .iload_n 1, 1), (15, .invokevirtual 416, 3), (18, .iconst 1, 1), (19, .isub, 1), (20, .i2l, 1), (21, .invokestatic 313, 3), (24, .ifCond .eq 25, 3), (27, .iload_n 3, 1), (28, .i2l, 1), (29, .lconst 0, 1), (30, .aload_n 0, 1), (31, .iload_n 1, 1), (32, .invokevirtual 416, 3), (35, .iconst 1, 1), (36, .isub, 1), (37, .i2l, 1), (38, .invokestatic 313, 3), (41, .ifCond .eq 8, 3), (44, .iload_n 2, 1), (45, .iload_n 3, 1), (46, .if_icmp .ne 9, 3), (49, .aload_n 0, 1), (50, .iconst 2, 1), (51, .invokevirtual 613, 3), (54, .ireturn, 1), (55, .aload_n 0, 1), (56, .invokevirtual 610, 3), (59, .aload_n 0, 1), (60, .iload_n 1, 1), (61, .iload_n 2, 1), (62, .iload_n 3, 1), (63, .invokevirtual 589, 3), (66, .iconst 1, 1), (67, .ireturn, 1)]
set_option maxRecDepth 100000 in
theorem tkX12_swap : ∀ q ∈ tX12_swap, decode cX12_swap q.1 = .ok q.2 := by decide +kernel
theorem vmX12_swap : zVM yX12_swap cX12_swap 4 (Option.some .boolean) 3 12 := ⟨kX12_swap, q_2246, q_2247, q_162, ⟨_, rfl, rfl⟩, by decide +kernel, by decide⟩
set_option maxHeartbeats 2000000 in
set_option maxRecDepth 20000 in
theorem coX12_swap_J49 (l : Launch) (e : Nat) (he : 1 ≤ e) (v0 : Nat) : zCo l (e + 1) 0 0 iX12_swap 49 [(0, .ref v0)] [] (X12_swap_J49 v0) := by
  unfold X12_swap_J49
  refine zco_p tkX12_swap 31 2 (pc' := 51) (L' := [(0, .ref v0)]) (S' := [.int 2, .ref v0]) rfl ?_
  refine zco_Vi (rc := 0) (rs := 0) (mc := 0) (ms := 0) (As := [.int 2]) (S := []) vmX12_isRefused (mtX12_isRefused l e (by omega) v0 2) q_2212 rfl rfl (Nat.le_of_ble_eq_true rfl) (zdk (cc := cX12_swap) (q := (51, .invokevirtual 613, 3)) tkX12_swap 33 rfl) (fun y1 => ?_)
  exact zco_zret rfl rfl rfl (zdk (cc := cX12_swap) (q := (54, .ireturn, 1)) tkX12_swap 34 rfl)
set_option maxHeartbeats 2000000 in
set_option maxRecDepth 20000 in
theorem coX12_swap (l : Launch) (e : Nat) (he : 1 ≤ e) (v0 : Nat) (v1 : Int32) (v2 : Int32) (v3 : Int32) : zCo l (e + 1) 0 0 iX12_swap 0 [(0, .ref v0), (1, .int v1), (2, .int v2), (3, .int v3)] [] (X12_swap v0 v1 v2 v3) := by
  unfold X12_swap
  refine zco_p tkX12_swap 0 4 (pc' := 4) (L' := [(0, .ref v0), (1, .int v1), (2, .int v2), (3, .int v3)]) (S' := [.long 1, .long 0, .long v1.toInt64]) rfl ?_
  refine zco_Si (rc := 0) (rs := 0) (mc := 0) (ms := 0) (As := [.long v1.toInt64, .long 0, .long 1]) (S := []) vmX12_isIn (mtX12_isIn l e (by omega) v1.toInt64 0 1) q_1799 rfl rfl (Nat.le_of_ble_eq_true rfl) (zdk (cc := cX12_swap) (q := (4, .invokestatic 313, 3)) tkX12_swap 4 rfl) (fun y1 => ?_)
  refine zco_if_eq (tgt := 49) (zdk (cc := cX12_swap) (q := (7, .ifCond .eq 42, 3)) tkX12_swap 5 rfl) rfl ?_ ?_
  · exact zco_sub [0] rfl (coX12_swap_J49 l e he v0)
  · refine zco_p tkX12_swap 6 5 (pc' := 15) (L' := [(0, .ref v0), (1, .int v1), (2, .int v2), (3, .int v3)]) (S' := [.int v1, .ref v0, .long 0, .long v2.toInt64]) rfl ?_
    refine zco_Vi (rc := 0) (rs := 0) (mc := 0) (ms := 0) (As := [.int v1]) (S := [.long 0, .long v2.toInt64]) vmX12_sideMany (mtX12_sideMany l e (by omega) v0 v1) q_1944 rfl rfl (Nat.le_of_ble_eq_true rfl) (zdk (cc := cX12_swap) (q := (15, .invokevirtual 416, 3)) tkX12_swap 11 rfl) (fun y2 => ?_)
    refine zco_p tkX12_swap 12 3 (pc' := 21) (L' := [(0, .ref v0), (1, .int v1), (2, .int v2), (3, .int v3)]) (S' := [.long ((y2 - 1 : Int32).toInt64), .long 0, .long v2.toInt64]) rfl ?_
    refine zco_Si (rc := 0) (rs := 0) (mc := 0) (ms := 0) (As := [.long v2.toInt64, .long 0, .long ((y2 - 1 : Int32).toInt64)]) (S := []) vmX12_isIn (mtX12_isIn l e (by omega) v2.toInt64 0 ((y2 - 1 : Int32).toInt64)) q_1799 rfl rfl (Nat.le_of_ble_eq_true rfl) (zdk (cc := cX12_swap) (q := (21, .invokestatic 313, 3)) tkX12_swap 15 rfl) (fun y3 => ?_)
    refine zco_if_eq (tgt := 49) (zdk (cc := cX12_swap) (q := (24, .ifCond .eq 25, 3)) tkX12_swap 16 rfl) rfl ?_ ?_
    · exact zco_sub [0] rfl (coX12_swap_J49 l e he v0)
    · refine zco_p tkX12_swap 17 5 (pc' := 32) (L' := [(0, .ref v0), (1, .int v1), (2, .int v2), (3, .int v3)]) (S' := [.int v1, .ref v0, .long 0, .long v3.toInt64]) rfl ?_
      refine zco_Vi (rc := 0) (rs := 0) (mc := 0) (ms := 0) (As := [.int v1]) (S := [.long 0, .long v3.toInt64]) vmX12_sideMany (mtX12_sideMany l e (by omega) v0 v1) q_1944 rfl rfl (Nat.le_of_ble_eq_true rfl) (zdk (cc := cX12_swap) (q := (32, .invokevirtual 416, 3)) tkX12_swap 22 rfl) (fun y4 => ?_)
      refine zco_p tkX12_swap 23 3 (pc' := 38) (L' := [(0, .ref v0), (1, .int v1), (2, .int v2), (3, .int v3)]) (S' := [.long ((y4 - 1 : Int32).toInt64), .long 0, .long v3.toInt64]) rfl ?_
      refine zco_Si (rc := 0) (rs := 0) (mc := 0) (ms := 0) (As := [.long v3.toInt64, .long 0, .long ((y4 - 1 : Int32).toInt64)]) (S := []) vmX12_isIn (mtX12_isIn l e (by omega) v3.toInt64 0 ((y4 - 1 : Int32).toInt64)) q_1799 rfl rfl (Nat.le_of_ble_eq_true rfl) (zdk (cc := cX12_swap) (q := (38, .invokestatic 313, 3)) tkX12_swap 26 rfl) (fun y5 => ?_)
      refine zco_if_eq (tgt := 49) (zdk (cc := cX12_swap) (q := (41, .ifCond .eq 8, 3)) tkX12_swap 27 rfl) rfl ?_ ?_
      · exact zco_sub [0] rfl (coX12_swap_J49 l e he v0)
      · refine zco_p tkX12_swap 28 2 (pc' := 46) (L' := [(0, .ref v0), (1, .int v1), (2, .int v2), (3, .int v3)]) (S' := [.int v3, .int v2]) rfl ?_
        refine zco_icmp_ne (tgt := 55) (zdk (cc := cX12_swap) (q := (46, .if_icmp .ne 9, 3)) tkX12_swap 30 rfl) rfl ?_ ?_
        · refine zco_p tkX12_swap 35 1 (pc' := 56) (L' := [(0, .ref v0), (1, .int v1), (2, .int v2), (3, .int v3)]) (S' := [.ref v0]) rfl ?_
          refine zco_Vv (rc := 0) (rs := 0) (mc := 0) (ms := 0) (As := []) (S := []) vmX12_keeps (mtX12_keeps l e (by omega) v0) q_2204 rfl rfl (Nat.le_of_ble_eq_true rfl) (zdk (cc := cX12_swap) (q := (56, .invokevirtual 610, 3)) tkX12_swap 36 rfl) ?_
          refine zco_p tkX12_swap 37 4 (pc' := 63) (L' := [(0, .ref v0), (1, .int v1), (2, .int v2), (3, .int v3)]) (S' := [.int v3, .int v2, .int v1, .ref v0]) rfl ?_
          refine zco_Vv (rc := 0) (rs := 0) (mc := 0) (ms := 0) (As := [.int v1, .int v2, .int v3]) (S := []) vmX12_exchanges (mtX12_exchanges l e (by omega) v0 v1 v2 v3) q_2159 rfl rfl (Nat.le_of_ble_eq_true rfl) (zdk (cc := cX12_swap) (q := (63, .invokevirtual 589, 3)) tkX12_swap 41 rfl) ?_
          refine zco_p tkX12_swap 42 1 (pc' := 67) (L' := [(0, .ref v0), (1, .int v1), (2, .int v2), (3, .int v3)]) (S' := [.int 1]) rfl ?_
          exact zco_zret rfl rfl rfl (zdk (cc := cX12_swap) (q := (67, .ireturn, 1)) tkX12_swap 43 rfl)
        · exact zco_sub [0] rfl (coX12_swap_J49 l e he v0)
theorem mtX12_swap (l : Launch) (d : Nat) (hd : 2 ≤ d) (v0 : Nat) (v1 : Int32) (v2 : Int32) (v3 : Int32) : zMet l d 0 0 yX12_swap cX12_swap 4 (Option.some .boolean) [.ref v0, .int v1, .int v2, .int v3] (X12_swap v0 v1 v2 v3) := by
  obtain ⟨e, rfl⟩ : ∃ e, d = e + 1 := ⟨d - 1, by omega⟩
  exact zmet_of (own := RX12) (ini := false) (by decide +kernel) rfl (fun _ => by contradiction) (Nat.le_of_ble_eq_true rfl) (coX12_swap l e (by omega) v0 v1 v2 v3)
abbrev iX12_qOf : zI := (RX12, cX12_qOf, 5, (Option.some .long), false)
def tX12_qOf : List (Nat × Instr × Nat) := [(0, .iload_n 1, 1), (1, .lookupswitch 44 #[(0, 19)], 19), (20, .aload_n 0, 1), (21, .iload 4, 2), (23, .i2l, 1), (24, .lload_n 2, 1), (25, .invokevirtual 545, 3), (28, .ifCond .eq 15, 3), (31, .aload_n 0, 1), (32, .iload 4, 2), (34, .lload_n 2, 1), (35, .l2i, 1), (36, .invokevirtual 549, 3), (39, .i2l, 1), (40, .goto 4, 3), (43, .lconst 0, 1), (44, .lreturn, 1), (45, .aload_n 0, 1), (46, .iload 4, 2), (48, .i2l, 1), (49, .lload_n 2, 1), (50, .invokevirtual 545, 3), (53, .ifCond .eq 15, 3), (56, .aload_n 0, 1), (57, .iload 4, 2), (59, .lload_n 2, 1), (60, .l2i, 1), (61, .invokevirtual 552, 3), (64, .i2l, 1), (65, .goto 4, 3), (68, .lconst 0, 1), (69, .lreturn, 1)]
set_option maxRecDepth 100000 in
theorem tkX12_qOf : ∀ q ∈ tX12_qOf, decode cX12_qOf q.1 = .ok q.2 := by decide +kernel
theorem vmX12_qOf : zVM yX12_qOf cX12_qOf 5 (Option.some .long) 3 12 := ⟨kX12_qOf, q_2265, q_138, q_162, ⟨_, rfl, rfl⟩, by decide +kernel, by decide⟩
set_option maxHeartbeats 2000000 in
set_option maxRecDepth 20000 in
theorem coX12_qOf (l : Launch) (e : Nat) (he : 4 ≤ e) (v0 : Nat) (v1 : Int32) (v2 : Int64) (v4 : Int32) : zCo l (e + 1) 0 0 iX12_qOf 0 [(0, .ref v0), (1, .int v1), (2, .long v2), (4, .int v4)] [] (X12_qOf v0 v1 v2 v4) := by
  unfold X12_qOf
  refine zco_p tkX12_qOf 0 1 (pc' := 1) (L' := [(0, .ref v0), (1, .int v1), (2, .long v2), (4, .int v4)]) (S' := [.int v1]) rfl ?_
  refine zco_look1 (t1 := 20) (t0 := 45) (zdk (cc := cX12_qOf) (q := (1, .lookupswitch 44 #[(0, 19)], 19)) tkX12_qOf 1 rfl) rfl rfl ?_ ?_
  · refine zco_p tkX12_qOf 2 4 (pc' := 25) (L' := [(0, .ref v0), (1, .int v1), (2, .long v2), (4, .int v4)]) (S' := [.long v2, .long v4.toInt64, .ref v0]) rfl ?_
    refine zco_Vi (rc := 0) (rs := 0) (mc := 0) (ms := 0) (As := [.long v4.toInt64, .long v2]) (S := []) vmX12_areTwo (mtX12_areTwo l e (by omega) v0 v4.toInt64 v2) q_1992 rfl rfl (Nat.le_of_ble_eq_true rfl) (zdk (cc := cX12_qOf) (q := (25, .invokevirtual 545, 3)) tkX12_qOf 6 rfl) (fun y1 => ?_)
    refine zco_if_eq (tgt := 43) (zdk (cc := cX12_qOf) (q := (28, .ifCond .eq 15, 3)) tkX12_qOf 7 rfl) rfl ?_ ?_
    · refine zco_p tkX12_qOf 15 1 (pc' := 44) (L' := [(0, .ref v0), (1, .int v1), (2, .long v2), (4, .int v4)]) (S' := [.long 0]) rfl ?_
      exact zco_lret rfl rfl rfl (zdk (cc := cX12_qOf) (q := (44, .lreturn, 1)) tkX12_qOf 16 rfl)
    · refine zco_p tkX12_qOf 8 4 (pc' := 36) (L' := [(0, .ref v0), (1, .int v1), (2, .long v2), (4, .int v4)]) (S' := [.int v2.toInt32, .int v4, .ref v0]) rfl ?_
      refine zco_Vi (rc := 0) (rs := 0) (mc := 0) (ms := 0) (As := [.int v4, .int v2.toInt32]) (S := []) vmX12_likingOf (mtX12_likingOf l e (by omega) v0 v4 v2.toInt32) q_2000 rfl rfl (Nat.le_of_ble_eq_true rfl) (zdk (cc := cX12_qOf) (q := (36, .invokevirtual 549, 3)) tkX12_qOf 12 rfl) (fun y2 => ?_)
      refine zco_p tkX12_qOf 13 2 (pc' := 44) (L' := [(0, .ref v0), (1, .int v1), (2, .long v2), (4, .int v4)]) (S' := [.long y2.toInt64]) rfl ?_
      exact zco_lret rfl rfl rfl (zdk (cc := cX12_qOf) (q := (44, .lreturn, 1)) tkX12_qOf 16 rfl)
  · refine zco_p tkX12_qOf 17 4 (pc' := 50) (L' := [(0, .ref v0), (1, .int v1), (2, .long v2), (4, .int v4)]) (S' := [.long v2, .long v4.toInt64, .ref v0]) rfl ?_
    refine zco_Vi (rc := 0) (rs := 0) (mc := 0) (ms := 0) (As := [.long v4.toInt64, .long v2]) (S := []) vmX12_areTwo (mtX12_areTwo l e (by omega) v0 v4.toInt64 v2) q_1992 rfl rfl (Nat.le_of_ble_eq_true rfl) (zdk (cc := cX12_qOf) (q := (50, .invokevirtual 545, 3)) tkX12_qOf 21 rfl) (fun y3 => ?_)
    refine zco_if_eq (tgt := 68) (zdk (cc := cX12_qOf) (q := (53, .ifCond .eq 15, 3)) tkX12_qOf 22 rfl) rfl ?_ ?_
    · refine zco_p tkX12_qOf 30 1 (pc' := 69) (L' := [(0, .ref v0), (1, .int v1), (2, .long v2), (4, .int v4)]) (S' := [.long 0]) rfl ?_
      exact zco_lret rfl rfl rfl (zdk (cc := cX12_qOf) (q := (69, .lreturn, 1)) tkX12_qOf 31 rfl)
    · refine zco_p tkX12_qOf 23 4 (pc' := 61) (L' := [(0, .ref v0), (1, .int v1), (2, .long v2), (4, .int v4)]) (S' := [.int v2.toInt32, .int v4, .ref v0]) rfl ?_
      refine zco_Vi (rc := 0) (rs := 0) (mc := 0) (ms := 0) (As := [.int v4, .int v2.toInt32]) (S := []) vmX12_knowingOf (mtX12_knowingOf l e (by omega) v0 v4 v2.toInt32) q_2008 rfl rfl (Nat.le_of_ble_eq_true rfl) (zdk (cc := cX12_qOf) (q := (61, .invokevirtual 552, 3)) tkX12_qOf 27 rfl) (fun y4 => ?_)
      refine zco_p tkX12_qOf 28 2 (pc' := 69) (L' := [(0, .ref v0), (1, .int v1), (2, .long v2), (4, .int v4)]) (S' := [.long y4.toInt64]) rfl ?_
      exact zco_lret rfl rfl rfl (zdk (cc := cX12_qOf) (q := (69, .lreturn, 1)) tkX12_qOf 31 rfl)
theorem mtX12_qOf (l : Launch) (d : Nat) (hd : 5 ≤ d) (v0 : Nat) (v1 : Int32) (v2 : Int64) (v4 : Int32) : zMet l d 0 0 yX12_qOf cX12_qOf 5 (Option.some .long) [.ref v0, .int v1, .long v2, .int v4] (X12_qOf v0 v1 v2 v4) := by
  obtain ⟨e, rfl⟩ : ∃ e, d = e + 1 := ⟨d - 1, by omega⟩
  exact zmet_of (own := RX12) (ini := false) (by decide +kernel) rfl (fun _ => by contradiction) (Nat.le_of_ble_eq_true rfl) (coX12_qOf l e (by omega) v0 v1 v2 v4)
abbrev iX12_qTold : zI := (RX12, cX12_qTold, 4, (Option.some .long), false)
def tX12_qTold : List (Nat × Instr × Nat) := [(0, .aload_n 0, 1), (1, .iconst 0, 1), (2, .putfield 441, 3), (5, .iconst 0, 1), (6, .istore_n 2, 1), (7, .iload_n 2, 1), (8, .aload_n 0, 1), (9, .getfield 353, 3), (12, .if_icmp .ge 156, 3), (15, .aload_n 0, 1), (16, .getfield 255, 3), (19, .iload_n 2, 1), (20, .iaload, 1), (21, .istore_n 3, 1), (22, .iload_n 3, 1), (23, .sipush 1000, 3), (26, .if_icmp .lt 16, 3), (29, .aload_n 0, 1), (30, .iload_n 3, 1), (31, .sipush 1000, 3), (34, .isub, 1), (35, .i2l, 1), (36, .invokevirtual 444, 3), (39, .goto 123, 3), (42, .iload_n 3, 1), (43, .bipush 60, 2), (45, .if_icmp .lt 40, 3), (48, .aload_n 0, 1), (49, .getfield 261, 3), (52, .aload_n 0, 1), (53, .getfield 441, 3), (56, .iconst 1, 1), (57, .isub, 1), (58, .aload_n 0, 1), (59, .iload_n 3, 1), (60, .bipush 60, 2), (62, .isub, 1), (63, .aload_n 0, 1), (64, .getfield 261, 3), (67, .aload_n 0, 1), (68, .getfield 441, 3), (71, .iconst 1, 1), (72, .isub, 1), (73, .laload, 1), (74, .iload_n 1, 1), (75, .invokevirtual 699, 3), (78, .invokestatic 691, 3), (81, .lastore, 1), (82, .goto 80, 3), (85, .iload_n 3, 1), (86, .bipush 40, 2), (88, .if_icmp .lt 22, 3), (91, .aload_n 0, 1), (92, .aload_n 0, 1), (93, .iload_n 3, 1), (94, .bipush 40, 2), (96, .isub, 1), (97, .iload_n 1, 1), (98, .invokevirtual 448, 3), (101, .invokestatic 691, 3), (104, .invokevirtual 444, 3), (107, .goto 55, 3), (110, .iload_n 3, 1), (111, .bipush 13, 2), (113, .if_icmp .ne 11, 3), (116, .aload_n 0, 1), (117, .lconst 1, 1), (118, .invokevirtual 444, 3), (121, .goto 41, 3), (124, .iload_n 3, 1), (125, .bipush 12, 2), (127, .if_icmp .ne 30, 3), (130, .aload_n 0, 1), (131, .getfield 261, 3), (134, .aload_n 0, 1), (135, .getfield 441, 3), (138, .iconst 1, 1), (139, .isub, 1), (140, .lconst 1, 1), (141, .aload_n 0, 1), (142, .getfield 261, 3), (145, .aload_n 0, 1), (146, .getfield 441, 3), (149, .iconst 1, 1), (150, .isub, 1), (151, .laload, 1), (152, .lsub, 1), (153, .lastore, 1), (154, .goto 8, 3), (157, .aload_n 0, 1), (158, .iload_n 3, 1), (159, .invokevirtual 452, 3), (162, .iinc 2 1, 3), (165, .goto (-158), 3), (168, .aload_n 0, 1), (169, .getfield 261, 3), (172, .iconst 0, 1), (173, .laload, 1), (174, .lreturn, 1)]
set_option maxRecDepth 100000 in
theorem tkX12_qTold : ∀ q ∈ tX12_qTold, decode cX12_qTold q.1 = .ok q.2 := by decide +kernel
theorem vmX12_qTold : zVM yX12_qTold cX12_qTold 4 (Option.some .long) 1 12 := ⟨kX12_qTold, q_2261, q_137, q_162, ⟨_, rfl, rfl⟩, by decide +kernel, by decide⟩
set_option maxHeartbeats 2000000 in
set_option maxRecDepth 20000 in
theorem coX12_qTold_J168 (l : Launch) (e : Nat) (he : 5 ≤ e) (v0 : Nat) : zCo l (e + 1) 0 0 iX12_qTold 168 [(0, .ref v0)] [] (X12_qTold_J168 v0) := by
  unfold X12_qTold_J168
  refine zco_p tkX12_qTold 94 1 (pc' := 169) (L' := [(0, .ref v0)]) (S' := [.ref v0]) rfl ?_
  refine zco_gr fl_12_261 rfl (zdk (cc := cX12_qTold) (q := (169, .getfield 261, 3)) tkX12_qTold 95 rfl) (fun x1 => ?_)
  refine zco_p tkX12_qTold 96 1 (pc' := 173) (L' := [(0, .ref v0)]) (S' := [.int 0, .ref x1]) rfl ?_
  refine zco_laload (zdk (cc := cX12_qTold) (q := (173, .laload, 1)) tkX12_qTold 97 rfl) (fun x2 => ?_)
  exact zco_lret rfl rfl rfl (zdk (cc := cX12_qTold) (q := (174, .lreturn, 1)) tkX12_qTold 98 rfl)
set_option maxHeartbeats 2000000 in
set_option maxRecDepth 20000 in
theorem coX12_qTold_J162 (l : Launch) (e : Nat) (he : 5 ≤ e) (v0 : Nat) (v1 : Int32) (v2 : Int32) (r7 : Int32 → zM) (hr7 : ∀ x : Int32, zCo l (e + 1) 0 0 iX12_qTold 7 [(0, .ref v0), (1, .int v1), (2, .int x)] [] (r7 x)) : zCo l (e + 1) 0 0 iX12_qTold 162 [(0, .ref v0), (1, .int v1), (2, .int v2)] [] (X12_qTold_J162 r7 v0 v1 v2) := by
  unfold X12_qTold_J162
  refine zco_p tkX12_qTold 92 2 (pc' := 7) (L' := [(2, .int (v2 + 1)), (0, .ref v0), (1, .int v1)]) (S' := []) rfl ?_
  exact zco_sub [1, 2, 0] rfl (hr7 (v2 + 1))
set_option maxHeartbeats 2000000 in
set_option maxRecDepth 20000 in
theorem coX12_qTold_B7 (l : Launch) (e : Nat) (he : 5 ≤ e) (v0 : Nat) (v1 : Int32) (r7 : Int32 → zM) (hr7 : ∀ x : Int32, zCo l (e + 1) 0 0 iX12_qTold 7 [(0, .ref v0), (1, .int v1), (2, .int x)] [] (r7 x)) (v2 : Int32) : zCo l (e + 1) 0 0 iX12_qTold 7 [(0, .ref v0), (1, .int v1), (2, .int v2)] [] (X12_qTold_B7 v0 v1 r7 v2) := by
  unfold X12_qTold_B7
  refine zco_p tkX12_qTold 5 2 (pc' := 9) (L' := [(0, .ref v0), (1, .int v1), (2, .int v2)]) (S' := [.ref v0, .int v2]) rfl ?_
  refine zco_gi fl_12_353 rfl (zdk (cc := cX12_qTold) (q := (9, .getfield 353, 3)) tkX12_qTold 7 rfl) (fun x1 => ?_)
  refine zco_icmp_ge (tgt := 168) (zdk (cc := cX12_qTold) (q := (12, .if_icmp .ge 156, 3)) tkX12_qTold 8 rfl) rfl ?_ ?_
  · exact zco_sub [0] rfl (coX12_qTold_J168 l e he v0)
  · refine zco_p tkX12_qTold 9 1 (pc' := 16) (L' := [(0, .ref v0), (1, .int v1), (2, .int v2)]) (S' := [.ref v0]) rfl ?_
    refine zco_gr fl_12_255 rfl (zdk (cc := cX12_qTold) (q := (16, .getfield 255, 3)) tkX12_qTold 10 rfl) (fun x2 => ?_)
    refine zco_p tkX12_qTold 11 1 (pc' := 20) (L' := [(0, .ref v0), (1, .int v1), (2, .int v2)]) (S' := [.int v2, .ref x2]) rfl ?_
    refine zco_iaload (zdk (cc := cX12_qTold) (q := (20, .iaload, 1)) tkX12_qTold 12 rfl) (fun x3 => ?_)
    refine zco_p tkX12_qTold 13 3 (pc' := 26) (L' := [(3, .int x3), (0, .ref v0), (1, .int v1), (2, .int v2)]) (S' := [.int 1000, .int x3]) rfl ?_
    refine zco_icmp_lt (tgt := 42) (zdk (cc := cX12_qTold) (q := (26, .if_icmp .lt 16, 3)) tkX12_qTold 16 rfl) rfl ?_ ?_
    · refine zco_p tkX12_qTold 24 2 (pc' := 45) (L' := [(3, .int x3), (0, .ref v0), (1, .int v1), (2, .int v2)]) (S' := [.int 60, .int x3]) rfl ?_
      refine zco_icmp_lt (tgt := 85) (zdk (cc := cX12_qTold) (q := (45, .if_icmp .lt 40, 3)) tkX12_qTold 26 rfl) rfl ?_ ?_
      · refine zco_p tkX12_qTold 49 2 (pc' := 88) (L' := [(3, .int x3), (0, .ref v0), (1, .int v1), (2, .int v2)]) (S' := [.int 40, .int x3]) rfl ?_
        refine zco_icmp_lt (tgt := 110) (zdk (cc := cX12_qTold) (q := (88, .if_icmp .lt 22, 3)) tkX12_qTold 51 rfl) rfl ?_ ?_
        · refine zco_p tkX12_qTold 62 2 (pc' := 113) (L' := [(3, .int x3), (0, .ref v0), (1, .int v1), (2, .int v2)]) (S' := [.int 13, .int x3]) rfl ?_
          refine zco_icmp_ne (tgt := 124) (zdk (cc := cX12_qTold) (q := (113, .if_icmp .ne 11, 3)) tkX12_qTold 64 rfl) rfl ?_ ?_
          · refine zco_p tkX12_qTold 69 2 (pc' := 127) (L' := [(3, .int x3), (0, .ref v0), (1, .int v1), (2, .int v2)]) (S' := [.int 12, .int x3]) rfl ?_
            refine zco_icmp_ne (tgt := 157) (zdk (cc := cX12_qTold) (q := (127, .if_icmp .ne 30, 3)) tkX12_qTold 71 rfl) rfl ?_ ?_
            · refine zco_p tkX12_qTold 89 2 (pc' := 159) (L' := [(3, .int x3), (0, .ref v0), (1, .int v1), (2, .int v2)]) (S' := [.int x3, .ref v0]) rfl ?_
              refine zco_Vv (rc := 0) (rs := 0) (mc := 0) (ms := 0) (As := [.int x3]) (S := []) vmX12_qJoins (mtX12_qJoins l e (by omega) v0 x3) q_2040 rfl rfl (Nat.le_of_ble_eq_true rfl) (zdk (cc := cX12_qTold) (q := (159, .invokevirtual 452, 3)) tkX12_qTold 91 rfl) ?_
              exact zco_sub [1, 2, 3] rfl (coX12_qTold_J162 l e he v0 v1 v2 r7 hr7)
            · refine zco_p tkX12_qTold 72 1 (pc' := 131) (L' := [(3, .int x3), (0, .ref v0), (1, .int v1), (2, .int v2)]) (S' := [.ref v0]) rfl ?_
              refine zco_gr fl_12_261 rfl (zdk (cc := cX12_qTold) (q := (131, .getfield 261, 3)) tkX12_qTold 73 rfl) (fun x4 => ?_)
              refine zco_p tkX12_qTold 74 1 (pc' := 135) (L' := [(3, .int x3), (0, .ref v0), (1, .int v1), (2, .int v2)]) (S' := [.ref v0, .ref x4]) rfl ?_
              refine zco_gi fl_12_441 rfl (zdk (cc := cX12_qTold) (q := (135, .getfield 441, 3)) tkX12_qTold 75 rfl) (fun x5 => ?_)
              refine zco_p tkX12_qTold 76 4 (pc' := 142) (L' := [(3, .int x3), (0, .ref v0), (1, .int v1), (2, .int v2)]) (S' := [.ref v0, .long 1, .int (x5 - 1), .ref x4]) rfl ?_
              refine zco_gr fl_12_261 rfl (zdk (cc := cX12_qTold) (q := (142, .getfield 261, 3)) tkX12_qTold 80 rfl) (fun x6 => ?_)
              refine zco_p tkX12_qTold 81 1 (pc' := 146) (L' := [(3, .int x3), (0, .ref v0), (1, .int v1), (2, .int v2)]) (S' := [.ref v0, .ref x6, .long 1, .int (x5 - 1), .ref x4]) rfl ?_
              refine zco_gi fl_12_441 rfl (zdk (cc := cX12_qTold) (q := (146, .getfield 441, 3)) tkX12_qTold 82 rfl) (fun x7 => ?_)
              refine zco_p tkX12_qTold 83 2 (pc' := 151) (L' := [(3, .int x3), (0, .ref v0), (1, .int v1), (2, .int v2)]) (S' := [.int (x7 - 1), .ref x6, .long 1, .int (x5 - 1), .ref x4]) rfl ?_
              refine zco_laload (zdk (cc := cX12_qTold) (q := (151, .laload, 1)) tkX12_qTold 85 rfl) (fun x8 => ?_)
              refine zco_p tkX12_qTold 86 1 (pc' := 153) (L' := [(3, .int x3), (0, .ref v0), (1, .int v1), (2, .int v2)]) (S' := [.long (1 - x8), .int (x5 - 1), .ref x4]) rfl ?_
              refine zco_lastore (zdk (cc := cX12_qTold) (q := (153, .lastore, 1)) tkX12_qTold 87 rfl) ?_
              refine zco_p tkX12_qTold 88 1 (pc' := 162) (L' := [(3, .int x3), (0, .ref v0), (1, .int v1), (2, .int v2)]) (S' := []) rfl ?_
              exact zco_sub [1, 2, 3] rfl (coX12_qTold_J162 l e he v0 v1 v2 r7 hr7)
          · refine zco_p tkX12_qTold 65 2 (pc' := 118) (L' := [(3, .int x3), (0, .ref v0), (1, .int v1), (2, .int v2)]) (S' := [.long 1, .ref v0]) rfl ?_
            refine zco_Vv (rc := 0) (rs := 0) (mc := 0) (ms := 0) (As := [.long 1]) (S := []) vmX12_qPuts (mtX12_qPuts l e (by omega) v0 1) q_2032 rfl rfl (Nat.le_of_ble_eq_true rfl) (zdk (cc := cX12_qTold) (q := (118, .invokevirtual 444, 3)) tkX12_qTold 67 rfl) ?_
            refine zco_p tkX12_qTold 68 1 (pc' := 162) (L' := [(3, .int x3), (0, .ref v0), (1, .int v1), (2, .int v2)]) (S' := []) rfl ?_
            exact zco_sub [1, 2, 3] rfl (coX12_qTold_J162 l e he v0 v1 v2 r7 hr7)
        · refine zco_p tkX12_qTold 52 6 (pc' := 98) (L' := [(3, .int x3), (0, .ref v0), (1, .int v1), (2, .int v2)]) (S' := [.int v1, .int (x3 - 40), .ref v0, .ref v0]) rfl ?_
          refine zco_Vl (rc := 0) (rs := 0) (mc := 0) (ms := 0) (As := [.int (x3 - 40), .int v1]) (S := [.ref v0]) vmX12_qPartOf (mtX12_qPartOf l e (by omega) v0 (x3 - 40) v1) q_2036 rfl rfl (Nat.le_of_ble_eq_true rfl) (zdk (cc := cX12_qTold) (q := (98, .invokevirtual 448, 3)) tkX12_qTold 58 rfl) (fun y9 => ?_)
          refine zco_Sl (rc := 0) (rs := 0) (mc := 0) (ms := 0) (As := [.long y9]) (S := [.ref v0]) vmX12_qClip (mtX12_qClip l e (by omega) y9) q_2044 rfl rfl (Nat.le_of_ble_eq_true rfl) (zdk (cc := cX12_qTold) (q := (101, .invokestatic 691, 3)) tkX12_qTold 59 rfl) (fun y10 => ?_)
          refine zco_Vv (rc := 0) (rs := 0) (mc := 0) (ms := 0) (As := [.long y10]) (S := []) vmX12_qPuts (mtX12_qPuts l e (by omega) v0 y10) q_2032 rfl rfl (Nat.le_of_ble_eq_true rfl) (zdk (cc := cX12_qTold) (q := (104, .invokevirtual 444, 3)) tkX12_qTold 60 rfl) ?_
          refine zco_p tkX12_qTold 61 1 (pc' := 162) (L' := [(3, .int x3), (0, .ref v0), (1, .int v1), (2, .int v2)]) (S' := []) rfl ?_
          exact zco_sub [1, 2, 3] rfl (coX12_qTold_J162 l e he v0 v1 v2 r7 hr7)
      · refine zco_p tkX12_qTold 27 1 (pc' := 49) (L' := [(3, .int x3), (0, .ref v0), (1, .int v1), (2, .int v2)]) (S' := [.ref v0]) rfl ?_
        refine zco_gr fl_12_261 rfl (zdk (cc := cX12_qTold) (q := (49, .getfield 261, 3)) tkX12_qTold 28 rfl) (fun x11 => ?_)
        refine zco_p tkX12_qTold 29 1 (pc' := 53) (L' := [(3, .int x3), (0, .ref v0), (1, .int v1), (2, .int v2)]) (S' := [.ref v0, .ref x11]) rfl ?_
        refine zco_gi fl_12_441 rfl (zdk (cc := cX12_qTold) (q := (53, .getfield 441, 3)) tkX12_qTold 30 rfl) (fun x12 => ?_)
        refine zco_p tkX12_qTold 31 7 (pc' := 64) (L' := [(3, .int x3), (0, .ref v0), (1, .int v1), (2, .int v2)]) (S' := [.ref v0, .int (x3 - 60), .ref v0, .int (x12 - 1), .ref x11]) rfl ?_
        refine zco_gr fl_12_261 rfl (zdk (cc := cX12_qTold) (q := (64, .getfield 261, 3)) tkX12_qTold 38 rfl) (fun x13 => ?_)
        refine zco_p tkX12_qTold 39 1 (pc' := 68) (L' := [(3, .int x3), (0, .ref v0), (1, .int v1), (2, .int v2)]) (S' := [.ref v0, .ref x13, .int (x3 - 60), .ref v0, .int (x12 - 1), .ref x11]) rfl ?_
        refine zco_gi fl_12_441 rfl (zdk (cc := cX12_qTold) (q := (68, .getfield 441, 3)) tkX12_qTold 40 rfl) (fun x14 => ?_)
        refine zco_p tkX12_qTold 41 2 (pc' := 73) (L' := [(3, .int x3), (0, .ref v0), (1, .int v1), (2, .int v2)]) (S' := [.int (x14 - 1), .ref x13, .int (x3 - 60), .ref v0, .int (x12 - 1), .ref x11]) rfl ?_
        refine zco_laload (zdk (cc := cX12_qTold) (q := (73, .laload, 1)) tkX12_qTold 43 rfl) (fun x15 => ?_)
        refine zco_p tkX12_qTold 44 1 (pc' := 75) (L' := [(3, .int x3), (0, .ref v0), (1, .int v1), (2, .int v2)]) (S' := [.int v1, .long x15, .int (x3 - 60), .ref v0, .int (x12 - 1), .ref x11]) rfl ?_
        refine zco_Vl (rc := 0) (rs := 0) (mc := 0) (ms := 0) (As := [.int (x3 - 60), .long x15, .int v1]) (S := [.int (x12 - 1), .ref x11]) vmX12_qOf (mtX12_qOf l e (by omega) v0 (x3 - 60) x15 v1) q_2263 rfl rfl (Nat.le_of_ble_eq_true rfl) (zdk (cc := cX12_qTold) (q := (75, .invokevirtual 699, 3)) tkX12_qTold 45 rfl) (fun y16 => ?_)
        refine zco_Sl (rc := 0) (rs := 0) (mc := 0) (ms := 0) (As := [.long y16]) (S := [.int (x12 - 1), .ref x11]) vmX12_qClip (mtX12_qClip l e (by omega) y16) q_2044 rfl rfl (Nat.le_of_ble_eq_true rfl) (zdk (cc := cX12_qTold) (q := (78, .invokestatic 691, 3)) tkX12_qTold 46 rfl) (fun y17 => ?_)
        refine zco_lastore (zdk (cc := cX12_qTold) (q := (81, .lastore, 1)) tkX12_qTold 47 rfl) ?_
        refine zco_p tkX12_qTold 48 1 (pc' := 162) (L' := [(3, .int x3), (0, .ref v0), (1, .int v1), (2, .int v2)]) (S' := []) rfl ?_
        exact zco_sub [1, 2, 3] rfl (coX12_qTold_J162 l e he v0 v1 v2 r7 hr7)
    · refine zco_p tkX12_qTold 17 5 (pc' := 36) (L' := [(3, .int x3), (0, .ref v0), (1, .int v1), (2, .int v2)]) (S' := [.long ((x3 - 1000 : Int32).toInt64), .ref v0]) rfl ?_
      refine zco_Vv (rc := 0) (rs := 0) (mc := 0) (ms := 0) (As := [.long ((x3 - 1000 : Int32).toInt64)]) (S := []) vmX12_qPuts (mtX12_qPuts l e (by omega) v0 ((x3 - 1000 : Int32).toInt64)) q_2032 rfl rfl (Nat.le_of_ble_eq_true rfl) (zdk (cc := cX12_qTold) (q := (36, .invokevirtual 444, 3)) tkX12_qTold 22 rfl) ?_
      refine zco_p tkX12_qTold 23 1 (pc' := 162) (L' := [(3, .int x3), (0, .ref v0), (1, .int v1), (2, .int v2)]) (S' := []) rfl ?_
      exact zco_sub [1, 2, 3] rfl (coX12_qTold_J162 l e he v0 v1 v2 r7 hr7)
set_option maxHeartbeats 2000000 in
set_option maxRecDepth 20000 in
theorem coX12_qTold (l : Launch) (e : Nat) (he : 5 ≤ e) (v0 : Nat) (v1 : Int32) : zCo l (e + 1) 0 0 iX12_qTold 0 [(0, .ref v0), (1, .int v1)] [] (X12_qTold v0 v1) := by
  unfold X12_qTold
  refine zco_p tkX12_qTold 0 2 (pc' := 2) (L' := [(0, .ref v0), (1, .int v1)]) (S' := [.int 0, .ref v0]) rfl ?_
  refine zco_pi fl_12_441 rfl rfl (zdk (cc := cX12_qTold) (q := (2, .putfield 441, 3)) tkX12_qTold 2 rfl) ?_
  refine zco_p tkX12_qTold 3 2 (pc' := 7) (L' := [(2, .int 0), (0, .ref v0), (1, .int v1)]) (S' := []) rfl ?_
  exact zco_sub [1, 2, 0] rfl (zco_fix (Lf := fun x : Int32 => [(0, .ref v0), (1, .int v1), (2, .int x)]) (Sf := fun _ => []) (fun r hr x => coX12_qTold_B7 l e he v0 v1 r hr x) zFU 0)
theorem mtX12_qTold (l : Launch) (d : Nat) (hd : 6 ≤ d) (v0 : Nat) (v1 : Int32) : zMet l d 0 0 yX12_qTold cX12_qTold 4 (Option.some .long) [.ref v0, .int v1] (X12_qTold v0 v1) := by
  obtain ⟨e, rfl⟩ : ∃ e, d = e + 1 := ⟨d - 1, by omega⟩
  exact zmet_of (own := RX12) (ini := false) (by decide +kernel) rfl (fun _ => by contradiction) (Nat.le_of_ble_eq_true rfl) (coX12_qTold l e (by omega) v0 v1)
abbrev iX12_qKind : zI := (RX12, cX12_qKind, 2, (Option.some .int), false)
def tX12_qKind : List (Nat × Instr × Nat) := [(0, .aload_n 0, 1), (1, .aload_n 0, 1), (2, .getfield 177, 3), (5, .invokevirtual 297, 3), (8, .ifCond .eq 7, 3), (11, .iconst 0, 1), (12, .goto 64, 3), (15, .aload_n 0, 1), (16, .aload_n 0, 1), (17, .getfield 180, 3), (20, .invokevirtual 297, 3), (23, .ifCond .eq 7, 3), (26, .iconst 1, 1), (27, .goto 49, 3), (30, .aload_n 0, 1), (31, .aload_n 0, 1), (32, .getfield 183, 3), (35, .invokevirtual 297, 3), (38, .ifCond .eq 7, 3), (41, .iconst 2, 1), (42, .goto 34, 3), (45, .aload_n 0, 1), (46, .aload_n 0, 1), (47, .getfield 186, 3), (50, .invokevirtual 297, 3), (53, .ifCond .eq 7, 3), (56, .iconst 3, 1), (57, .goto 19, 3), (60, .aload_n 0, 1), (61, .aload_n 0, 1), (62, .getfield 189, 3), (65, .invokevirtual 297, 3), (68, .ifCond .eq 7, 3), (71, .iconst 4, 1), (72, .goto 4, 3), (75, .iconst 5, 1), (76, .istore_n 1, 1), (77, .iload_n 1, 1), (78, .iconst 5, 1), (79, .if_icmp .ne 11, 3), (82, .aload_n 0, 1), (83, .aload_n 0, 1), (84, .getfield 192, 3), (87, .invokevirtual 341, 3), (90, .iload_n 1, 1), (91, .ireturn, 1)]
set_option maxRecDepth 100000 in
theorem tkX12_qKind : ∀ q ∈ tX12_qKind, decode cX12_qKind q.1 = .ok q.2 := by decide +kernel
theorem vmX12_qKind : zVM yX12_qKind cX12_qKind 2 (Option.some .int) 0 12 := ⟨kX12_qKind, q_2255, q_136, q_162, ⟨_, rfl, rfl⟩, by decide +kernel, by decide⟩
set_option maxHeartbeats 2000000 in
set_option maxRecDepth 20000 in
theorem coX12_qKind_J76 (l : Launch) (e : Nat) (he : 4 ≤ e) (v0 : Nat) (s0 : Int32) : zCo l (e + 1) 0 0 iX12_qKind 76 [(0, .ref v0)] [.int s0] (X12_qKind_J76 v0 s0) := by
  unfold X12_qKind_J76
  refine zco_p tkX12_qKind 36 3 (pc' := 79) (L' := [(1, .int s0), (0, .ref v0)]) (S' := [.int 5, .int s0]) rfl ?_
  refine zco_icmp_ne (tgt := 90) (zdk (cc := cX12_qKind) (q := (79, .if_icmp .ne 11, 3)) tkX12_qKind 39 rfl) rfl ?_ ?_
  · refine zco_p tkX12_qKind 44 1 (pc' := 91) (L' := [(1, .int s0), (0, .ref v0)]) (S' := [.int s0]) rfl ?_
    exact zco_iret rfl rfl rfl (zdk (cc := cX12_qKind) (q := (91, .ireturn, 1)) tkX12_qKind 45 rfl)
  · refine zco_p tkX12_qKind 40 2 (pc' := 84) (L' := [(1, .int s0), (0, .ref v0)]) (S' := [.ref v0, .ref v0]) rfl ?_
    refine zco_gr fl_12_192 rfl (zdk (cc := cX12_qKind) (q := (84, .getfield 192, 3)) tkX12_qKind 42 rfl) (fun x1 => ?_)
    refine zco_Vv (rc := 0) (rs := 0) (mc := 0) (ms := 0) (As := [.ref x1]) (S := []) vmX12_asks (mtX12_asks l e (by omega) v0 x1) q_1788 rfl rfl (Nat.le_of_ble_eq_true rfl) (zdk (cc := cX12_qKind) (q := (87, .invokevirtual 341, 3)) tkX12_qKind 43 rfl) ?_
    refine zco_p tkX12_qKind 44 1 (pc' := 91) (L' := [(1, .int s0), (0, .ref v0)]) (S' := [.int s0]) rfl ?_
    exact zco_iret rfl rfl rfl (zdk (cc := cX12_qKind) (q := (91, .ireturn, 1)) tkX12_qKind 45 rfl)
set_option maxHeartbeats 2000000 in
set_option maxRecDepth 20000 in
theorem coX12_qKind (l : Launch) (e : Nat) (he : 4 ≤ e) (v0 : Nat) : zCo l (e + 1) 0 0 iX12_qKind 0 [(0, .ref v0)] [] (X12_qKind v0) := by
  unfold X12_qKind
  refine zco_p tkX12_qKind 0 2 (pc' := 2) (L' := [(0, .ref v0)]) (S' := [.ref v0, .ref v0]) rfl ?_
  refine zco_gr fl_12_177 rfl (zdk (cc := cX12_qKind) (q := (2, .getfield 177, 3)) tkX12_qKind 2 rfl) (fun x1 => ?_)
  refine zco_Vi (rc := 0) (rs := 0) (mc := 0) (ms := 0) (As := [.ref x1]) (S := []) vmX12_takes (mtX12_takes l e (by omega) v0 x1) q_1763 rfl rfl (Nat.le_of_ble_eq_true rfl) (zdk (cc := cX12_qKind) (q := (5, .invokevirtual 297, 3)) tkX12_qKind 3 rfl) (fun y2 => ?_)
  refine zco_if_eq (tgt := 15) (zdk (cc := cX12_qKind) (q := (8, .ifCond .eq 7, 3)) tkX12_qKind 4 rfl) rfl ?_ ?_
  · refine zco_p tkX12_qKind 7 2 (pc' := 17) (L' := [(0, .ref v0)]) (S' := [.ref v0, .ref v0]) rfl ?_
    refine zco_gr fl_12_180 rfl (zdk (cc := cX12_qKind) (q := (17, .getfield 180, 3)) tkX12_qKind 9 rfl) (fun x3 => ?_)
    refine zco_Vi (rc := 0) (rs := 0) (mc := 0) (ms := 0) (As := [.ref x3]) (S := []) vmX12_takes (mtX12_takes l e (by omega) v0 x3) q_1763 rfl rfl (Nat.le_of_ble_eq_true rfl) (zdk (cc := cX12_qKind) (q := (20, .invokevirtual 297, 3)) tkX12_qKind 10 rfl) (fun y4 => ?_)
    refine zco_if_eq (tgt := 30) (zdk (cc := cX12_qKind) (q := (23, .ifCond .eq 7, 3)) tkX12_qKind 11 rfl) rfl ?_ ?_
    · refine zco_p tkX12_qKind 14 2 (pc' := 32) (L' := [(0, .ref v0)]) (S' := [.ref v0, .ref v0]) rfl ?_
      refine zco_gr fl_12_183 rfl (zdk (cc := cX12_qKind) (q := (32, .getfield 183, 3)) tkX12_qKind 16 rfl) (fun x5 => ?_)
      refine zco_Vi (rc := 0) (rs := 0) (mc := 0) (ms := 0) (As := [.ref x5]) (S := []) vmX12_takes (mtX12_takes l e (by omega) v0 x5) q_1763 rfl rfl (Nat.le_of_ble_eq_true rfl) (zdk (cc := cX12_qKind) (q := (35, .invokevirtual 297, 3)) tkX12_qKind 17 rfl) (fun y6 => ?_)
      refine zco_if_eq (tgt := 45) (zdk (cc := cX12_qKind) (q := (38, .ifCond .eq 7, 3)) tkX12_qKind 18 rfl) rfl ?_ ?_
      · refine zco_p tkX12_qKind 21 2 (pc' := 47) (L' := [(0, .ref v0)]) (S' := [.ref v0, .ref v0]) rfl ?_
        refine zco_gr fl_12_186 rfl (zdk (cc := cX12_qKind) (q := (47, .getfield 186, 3)) tkX12_qKind 23 rfl) (fun x7 => ?_)
        refine zco_Vi (rc := 0) (rs := 0) (mc := 0) (ms := 0) (As := [.ref x7]) (S := []) vmX12_takes (mtX12_takes l e (by omega) v0 x7) q_1763 rfl rfl (Nat.le_of_ble_eq_true rfl) (zdk (cc := cX12_qKind) (q := (50, .invokevirtual 297, 3)) tkX12_qKind 24 rfl) (fun y8 => ?_)
        refine zco_if_eq (tgt := 60) (zdk (cc := cX12_qKind) (q := (53, .ifCond .eq 7, 3)) tkX12_qKind 25 rfl) rfl ?_ ?_
        · refine zco_p tkX12_qKind 28 2 (pc' := 62) (L' := [(0, .ref v0)]) (S' := [.ref v0, .ref v0]) rfl ?_
          refine zco_gr fl_12_189 rfl (zdk (cc := cX12_qKind) (q := (62, .getfield 189, 3)) tkX12_qKind 30 rfl) (fun x9 => ?_)
          refine zco_Vi (rc := 0) (rs := 0) (mc := 0) (ms := 0) (As := [.ref x9]) (S := []) vmX12_takes (mtX12_takes l e (by omega) v0 x9) q_1763 rfl rfl (Nat.le_of_ble_eq_true rfl) (zdk (cc := cX12_qKind) (q := (65, .invokevirtual 297, 3)) tkX12_qKind 31 rfl) (fun y10 => ?_)
          refine zco_if_eq (tgt := 75) (zdk (cc := cX12_qKind) (q := (68, .ifCond .eq 7, 3)) tkX12_qKind 32 rfl) rfl ?_ ?_
          · refine zco_p tkX12_qKind 35 1 (pc' := 76) (L' := [(0, .ref v0)]) (S' := [.int 5]) rfl ?_
            exact zco_sub [0] rfl (coX12_qKind_J76 l e he v0 5)
          · refine zco_p tkX12_qKind 33 2 (pc' := 76) (L' := [(0, .ref v0)]) (S' := [.int 4]) rfl ?_
            exact zco_sub [0] rfl (coX12_qKind_J76 l e he v0 4)
        · refine zco_p tkX12_qKind 26 2 (pc' := 76) (L' := [(0, .ref v0)]) (S' := [.int 3]) rfl ?_
          exact zco_sub [0] rfl (coX12_qKind_J76 l e he v0 3)
      · refine zco_p tkX12_qKind 19 2 (pc' := 76) (L' := [(0, .ref v0)]) (S' := [.int 2]) rfl ?_
        exact zco_sub [0] rfl (coX12_qKind_J76 l e he v0 2)
    · refine zco_p tkX12_qKind 12 2 (pc' := 76) (L' := [(0, .ref v0)]) (S' := [.int 1]) rfl ?_
      exact zco_sub [0] rfl (coX12_qKind_J76 l e he v0 1)
  · refine zco_p tkX12_qKind 5 2 (pc' := 76) (L' := [(0, .ref v0)]) (S' := [.int 0]) rfl ?_
    exact zco_sub [0] rfl (coX12_qKind_J76 l e he v0 0)
theorem mtX12_qKind (l : Launch) (d : Nat) (hd : 5 ≤ d) (v0 : Nat) : zMet l d 0 0 yX12_qKind cX12_qKind 2 (Option.some .int) [.ref v0] (X12_qKind v0) := by
  obtain ⟨e, rfl⟩ : ∃ e, d = e + 1 := ⟨d - 1, by omega⟩
  exact zmet_of (own := RX12) (ini := false) (by decide +kernel) rfl (fun _ => by contradiction) (Nat.le_of_ble_eq_true rfl) (coX12_qKind l e (by omega) v0)
