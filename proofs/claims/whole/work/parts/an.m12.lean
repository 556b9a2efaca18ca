abbrev iX12_isIn : zI := (RX12, cX12_isIn, 6, (Option.some .boolean), false)
def tX12_isIn : List (Nat × Instr × Nat) := [(0, .lload_n 0, 1), (1, .lload_n 2, 1), (2, .lcmp, 1), (3, .ifCond .lt 14, 3), (6, .lload_n 0, 1), (7, .lload 4, 2), (9, .lcmp, 1), (10, .ifCond .gt 7, 3), (13, .iconst 1, 1), (14, .goto 4, 3), (17, .iconst 0, 1), (18, .ireturn, 1)]
set_option maxRecDepth 100000 in
theorem tkX12_isIn : ∀ q ∈ tX12_isIn, decode cX12_isIn q.1 = .ok q.2 := by decide +kernel
theorem vmX12_isIn : zSM yX12_isIn cX12_isIn 6 (Option.some .boolean) 3 := ⟨kX12_isIn, q_1800, q_162, by decide +kernel, by decide⟩
set_option maxHeartbeats 2000000 in
set_option maxRecDepth 20000 in
theorem coX12_isIn (l : Launch) (e : Nat) (he : 0 ≤ e) (v0 : Int64) (v2 : Int64) (v4 : Int64) : zCo l (e + 1) 0 0 iX12_isIn 0 [(0, .long v0), (2, .long v2), (4, .long v4)] [] (X12_isIn v0 v2 v4) := by
  unfold X12_isIn
  refine zco_p tkX12_isIn 0 2 (pc' := 2) (L' := [(0, .long v0), (2, .long v2), (4, .long v4)]) (S' := [.long v2, .long v0]) rfl ?_
  refine zco_lcmp_lt (tgt := 17) (zdk (cc := cX12_isIn) (q := (2, .lcmp, 1)) tkX12_isIn 2 rfl) (zdk (cc := cX12_isIn) (q := (3, .ifCond .lt 14, 3)) tkX12_isIn 3 rfl) rfl ?_ ?_
  · refine zco_p tkX12_isIn 10 1 (pc' := 18) (L' := [(0, .long v0), (2, .long v2), (4, .long v4)]) (S' := [.int 0]) rfl ?_
    exact zco_zret rfl rfl rfl (zdk (cc := cX12_isIn) (q := (18, .ireturn, 1)) tkX12_isIn 11 rfl)
  · refine zco_p tkX12_isIn 4 2 (pc' := 9) (L' := [(0, .long v0), (2, .long v2), (4, .long v4)]) (S' := [.long v4, .long v0]) rfl ?_
    refine zco_lcmp_gt (tgt := 17) (zdk (cc := cX12_isIn) (q := (9, .lcmp, 1)) tkX12_isIn 6 rfl) (zdk (cc := cX12_isIn) (q := (10, .ifCond .gt 7, 3)) tkX12_isIn 7 rfl) rfl ?_ ?_
    · refine zco_p tkX12_isIn 10 1 (pc' := 18) (L' := [(0, .long v0), (2, .long v2), (4, .long v4)]) (S' := [.int 0]) rfl ?_
      exact zco_zret rfl rfl rfl (zdk (cc := cX12_isIn) (q := (18, .ireturn, 1)) tkX12_isIn 11 rfl)
    · refine zco_p tkX12_isIn 8 2 (pc' := 18) (L' := [(0, .long v0), (2, .long v2), (4, .long v4)]) (S' := [.int 1]) rfl ?_
      exact zco_zret rfl rfl rfl (zdk (cc := cX12_isIn) (q := (18, .ireturn, 1)) tkX12_isIn 11 rfl)
theorem mtX12_isIn (l : Launch) (d : Nat) (hd : 1 ≤ d) (v0 : Int64) (v2 : Int64) (v4 : Int64) : zMet l d 0 0 yX12_isIn cX12_isIn 6 (Option.some .boolean) [.long v0, .long v2, .long v4] (X12_isIn v0 v2 v4) := by
  obtain ⟨e, rfl⟩ : ∃ e, d = e + 1 := ⟨d - 1, by omega⟩
  exact zmet_of (own := RX12) (ini := false) (by decide +kernel) rfl (fun _ => by contradiction) (Nat.le_of_ble_eq_true rfl) (coX12_isIn l e (by omega) v0 v2 v4)
abbrev iX12_clamp : zI := (RX12, cX12_clamp, 3, (Option.some .int), false)
def tX12_clamp : List (Nat × Instr × Nat) := [(0, .lload_n 0, 1), (1, .lconst 0, 1), (2, .lcmp, 1), (3, .ifCond .ge 7, 3), (6, .iconst 0, 1), (7, .goto 16, 3), (10, .lload_n 0, 1), (11, .iload_n 2, 1), (12, .i2l, 1), (13, .lcmp, 1), (14, .ifCond .le 7, 3), (17, .iload_n 2, 1), (18, .goto 5, 3), (21, .lload_n 0, 1), (22, .l2i, 1), (23, .ireturn, 1)]
set_option maxRecDepth 100000 in
theorem tkX12_clamp : ∀ q ∈ tX12_clamp, decode cX12_clamp q.1 = .ok q.2 := by decide +kernel
theorem vmX12_clamp : zSM yX12_clamp cX12_clamp 3 (Option.some .int) 2 := ⟨kX12_clamp, q_2053, q_162, by decide +kernel, by decide⟩
set_option maxHeartbeats 2000000 in
set_option maxRecDepth 20000 in
theorem coX12_clamp (l : Launch) (e : Nat) (he : 0 ≤ e) (v0 : Int64) (v2 : Int32) : zCo l (e + 1) 0 0 iX12_clamp 0 [(0, .long v0), (2, .int v2)] [] (X12_clamp v0 v2) := by
  unfold X12_clamp
  refine zco_p tkX12_clamp 0 2 (pc' := 2) (L' := [(0, .long v0), (2, .int v2)]) (S' := [.long 0, .long v0]) rfl ?_
  refine zco_lcmp_ge (tgt := 10) (zdk (cc := cX12_clamp) (q := (2, .lcmp, 1)) tkX12_clamp 2 rfl) (zdk (cc := cX12_clamp) (q := (3, .ifCond .ge 7, 3)) tkX12_clamp 3 rfl) rfl ?_ ?_
  · refine zco_p tkX12_clamp 6 3 (pc' := 13) (L' := [(0, .long v0), (2, .int v2)]) (S' := [.long v2.toInt64, .long v0]) rfl ?_
    refine zco_lcmp_le (tgt := 21) (zdk (cc := cX12_clamp) (q := (13, .lcmp, 1)) tkX12_clamp 9 rfl) (zdk (cc := cX12_clamp) (q := (14, .ifCond .le 7, 3)) tkX12_clamp 10 rfl) rfl ?_ ?_
    · refine zco_p tkX12_clamp 13 2 (pc' := 23) (L' := [(0, .long v0), (2, .int v2)]) (S' := [.int v0.toInt32]) rfl ?_
      exact zco_iret rfl rfl rfl (zdk (cc := cX12_clamp) (q := (23, .ireturn, 1)) tkX12_clamp 15 rfl)
    · refine zco_p tkX12_clamp 11 2 (pc' := 23) (L' := [(0, .long v0), (2, .int v2)]) (S' := [.int v2]) rfl ?_
      exact zco_iret rfl rfl rfl (zdk (cc := cX12_clamp) (q := (23, .ireturn, 1)) tkX12_clamp 15 rfl)
  · refine zco_p tkX12_clamp 4 2 (pc' := 23) (L' := [(0, .long v0), (2, .int v2)]) (S' := [.int 0]) rfl ?_
    exact zco_iret rfl rfl rfl (zdk (cc := cX12_clamp) (q := (23, .ireturn, 1)) tkX12_clamp 15 rfl)
theorem mtX12_clamp (l : Launch) (d : Nat) (hd : 1 ≤ d) (v0 : Int64) (v2 : Int32) : zMet l d 0 0 yX12_clamp cX12_clamp 3 (Option.some .int) [.long v0, .int v2] (X12_clamp v0 v2) := by
  obtain ⟨e, rfl⟩ : ∃ e, d = e + 1 := ⟨d - 1, by omega⟩
  exact zmet_of (own := RX12) (ini := false) (by decide +kernel) rfl (fun _ => by contradiction) (Nat.le_of_ble_eq_true rfl) (coX12_clamp l e (by omega) v0 v2)
abbrev iX12_feed : zI := (RX12, cX12_feed, 8, (Option.some .int), false)
def tX12_feed : List (Nat × Instr × Nat) := [(0, .aload_n 0, 1), (1, .getfield 267, 3), (4, .bipush 20, 2), (6, .iadd, 1), (7, .sipush 1600, 3), (10, .if_icmp .le 15, 3), (13, .aload_n 0, 1), (14, .getfield 17, 3), (17, .iconst 0, 1), (18, .dup2, 1), (19, .iaload, 1), (20, .iconst 1, 1), (21, .iadd, 1), (22, .iastore, 1), (23, .iconst (-1), 1), (24, .ireturn, 1), (25, .iconst 0, 1), (26, .istore 6, 2), (28, .iload 6, 2), (30, .bipush 20, 2), (32, .if_icmp .ge 92, 3), (35, .iload 6, 2), (37, .iconst 4, 1), (38, .if_icmp .ge 7, 3), (41, .iload_n 1, 1), (42, .goto 39, 3), (45, .iload 6, 2), (47, .bipush 8, 2), (49, .if_icmp .ge 7, 3), (52, .iload_n 2, 1), (53, .goto 28, 3), (56, .iload 6, 2), (58, .bipush 12, 2), (60, .if_icmp .ge 7, 3), (63, .iload_n 3, 1), (64, .goto 17, 3), (67, .iload 6, 2), (69, .bipush 16, 2), (71, .if_icmp .ge 8, 3), (74, .iload 4, 2), (76, .goto 5, 3), (79, .iload 5, 2), (81, .istore 7, 2), (83, .aload_n 0, 1), (84, .getfield 7, 3), (87, .aload_n 0, 1), (88, .getfield 267, 3), (91, .iload 7, 2), (93, .bipush 8, 2), (95, .iconst 3, 1), (96, .iload 6, 2), (98, .iconst 4, 1), (99, .irem, 1), (100, .isub, 1), (101, .imul, 1), (102, .ishr, 1), (103, .sipush 255, 3), (106, .iand, 1), (107, .iastore, 1), (108, .aload_n 0, 1), (109, .dup, 1), (110, .getfield 267, 3), (113, .iconst 1, 1), (114, .iadd, 1), (115, .putfield 267, 3), (118, .iinc 6 1, 3), (121, .goto (-93), 3), (124, .aload_n 0, 1), (125, .getfield 267, 3), (128, .ireturn, 1)]
set_option maxRecDepth 100000 in
theorem tkX12_feed : ∀ q ∈ tX12_feed, decode cX12_feed q.1 = .ok q.2 := by decide +kernel
theorem vmX12_feed : zVM yX12_feed cX12_feed 8 (Option.some .int) 5 12 := ⟨kX12_feed, q_1740, q_1741, q_162, ⟨_, rfl, rfl⟩, by decide +kernel, by decide⟩
set_option maxHeartbeats 2000000 in
set_option maxRecDepth 20000 in
theorem coX12_feed_J124 (l : Launch) (e : Nat) (he : 0 ≤ e) (v0 : Nat) : zCo l (e + 1) 0 0 iX12_feed 124 [(0, .ref v0)] [] (X12_feed_J124 v0) := by
  unfold X12_feed_J124
  refine zco_p tkX12_feed 67 1 (pc' := 125) (L' := [(0, .ref v0)]) (S' := [.ref v0]) rfl ?_
  refine zco_gi fl_12_267 rfl (zdk (cc := cX12_feed) (q := (125, .getfield 267, 3)) tkX12_feed 68 rfl) (fun x1 => ?_)
  exact zco_iret rfl rfl rfl (zdk (cc := cX12_feed) (q := (128, .ireturn, 1)) tkX12_feed 69 rfl)
set_option maxHeartbeats 2000000 in
set_option maxRecDepth 20000 in
theorem coX12_feed_J81 (l : Launch) (e : Nat) (he : 0 ≤ e) (v0 : Nat) (v1 : Int32) (v2 : Int32) (v3 : Int32) (v4 : Int32) (v5 : Int32) (v6 : Int32) (r28 : Int32 → zM) (hr28 : ∀ x : Int32, zCo l (e + 1) 0 0 iX12_feed 28 [(0, .ref v0), (1, .int v1), (2, .int v2), (3, .int v3), (4, .int v4), (5, .int v5), (6, .int x)] [] (r28 x)) (s0 : Int32) : zCo l (e + 1) 0 0 iX12_feed 81 [(0, .ref v0), (1, .int v1), (2, .int v2), (3, .int v3), (4, .int v4), (5, .int v5), (6, .int v6)] [.int s0] (X12_feed_J81 r28 v0 v1 v2 v3 v4 v5 v6 s0) := by
  unfold X12_feed_J81
  refine zco_p tkX12_feed 42 2 (pc' := 84) (L' := [(7, .int s0), (0, .ref v0), (1, .int v1), (2, .int v2), (3, .int v3), (4, .int v4), (5, .int v5), (6, .int v6)]) (S' := [.ref v0]) rfl ?_
  refine zco_gr fl_12_7 rfl (zdk (cc := cX12_feed) (q := (84, .getfield 7, 3)) tkX12_feed 44 rfl) (fun x1 => ?_)
  refine zco_p tkX12_feed 45 1 (pc' := 88) (L' := [(7, .int s0), (0, .ref v0), (1, .int v1), (2, .int v2), (3, .int v3), (4, .int v4), (5, .int v5), (6, .int v6)]) (S' := [.ref v0, .ref x1]) rfl ?_
  refine zco_gi fl_12_267 rfl (zdk (cc := cX12_feed) (q := (88, .getfield 267, 3)) tkX12_feed 46 rfl) (fun x2 => ?_)
  refine zco_p tkX12_feed 47 5 (pc' := 99) (L' := [(7, .int s0), (0, .ref v0), (1, .int v1), (2, .int v2), (3, .int v3), (4, .int v4), (5, .int v5), (6, .int v6)]) (S' := [.int 4, .int v6, .int 3, .int 8, .int s0, .int x2, .ref x1]) rfl ?_
  refine zco_irem (zdk (cc := cX12_feed) (q := (99, .irem, 1)) tkX12_feed 52 rfl) ?_
  refine zco_p tkX12_feed 53 5 (pc' := 107) (L' := [(7, .int s0), (0, .ref v0), (1, .int v1), (2, .int v2), (3, .int v3), (4, .int v4), (5, .int v5), (6, .int v6)]) (S' := [.int ((s0 >>> ((8 * (3 - (v6 - v6 / 4 * 4))) &&& 31)) &&& 255), .int x2, .ref x1]) rfl ?_
  refine zco_iastore (zdk (cc := cX12_feed) (q := (107, .iastore, 1)) tkX12_feed 58 rfl) ?_
  refine zco_p tkX12_feed 59 2 (pc' := 110) (L' := [(7, .int s0), (0, .ref v0), (1, .int v1), (2, .int v2), (3, .int v3), (4, .int v4), (5, .int v5), (6, .int v6)]) (S' := [.ref v0, .ref v0]) rfl ?_
  refine zco_gi fl_12_267 rfl (zdk (cc := cX12_feed) (q := (110, .getfield 267, 3)) tkX12_feed 61 rfl) (fun x3 => ?_)
  refine zco_p tkX12_feed 62 2 (pc' := 115) (L' := [(7, .int s0), (0, .ref v0), (1, .int v1), (2, .int v2), (3, .int v3), (4, .int v4), (5, .int v5), (6, .int v6)]) (S' := [.int (x3 + 1), .ref v0]) rfl ?_
  refine zco_pi fl_12_267 rfl rfl (zdk (cc := cX12_feed) (q := (115, .putfield 267, 3)) tkX12_feed 64 rfl) ?_
  refine zco_p tkX12_feed 65 2 (pc' := 28) (L' := [(6, .int (v6 + 1)), (7, .int s0), (0, .ref v0), (1, .int v1), (2, .int v2), (3, .int v3), (4, .int v4), (5, .int v5)]) (S' := []) rfl ?_
  exact zco_sub [2, 3, 4, 5, 6, 7, 0] rfl (hr28 (v6 + 1))
set_option maxHeartbeats 2000000 in
set_option maxRecDepth 20000 in
theorem coX12_feed_B28 (l : Launch) (e : Nat) (he : 0 ≤ e) (v0 : Nat) (v1 : Int32) (v2 : Int32) (v3 : Int32) (v4 : Int32) (v5 : Int32) (r28 : Int32 → zM) (hr28 : ∀ x : Int32, zCo l (e + 1) 0 0 iX12_feed 28 [(0, .ref v0), (1, .int v1), (2, .int v2), (3, .int v3), (4, .int v4), (5, .int v5), (6, .int x)] [] (r28 x)) (v6 : Int32) : zCo l (e + 1) 0 0 iX12_feed 28 [(0, .ref v0), (1, .int v1), (2, .int v2), (3, .int v3), (4, .int v4), (5, .int v5), (6, .int v6)] [] (X12_feed_B28 v0 v1 v2 v3 v4 v5 r28 v6) := by
  unfold X12_feed_B28
  refine zco_p tkX12_feed 18 2 (pc' := 32) (L' := [(0, .ref v0), (1, .int v1), (2, .int v2), (3, .int v3), (4, .int v4), (5, .int v5), (6, .int v6)]) (S' := [.int 20, .int v6]) rfl ?_
  refine zco_icmp_ge (tgt := 124) (zdk (cc := cX12_feed) (q := (32, .if_icmp .ge 92, 3)) tkX12_feed 20 rfl) rfl ?_ ?_
  · exact zco_sub [0] rfl (coX12_feed_J124 l e he v0)
  · refine zco_p tkX12_feed 21 2 (pc' := 38) (L' := [(0, .ref v0), (1, .int v1), (2, .int v2), (3, .int v3), (4, .int v4), (5, .int v5), (6, .int v6)]) (S' := [.int 4, .int v6]) rfl ?_
    refine zco_icmp_ge (tgt := 45) (zdk (cc := cX12_feed) (q := (38, .if_icmp .ge 7, 3)) tkX12_feed 23 rfl) rfl ?_ ?_
    · refine zco_p tkX12_feed 26 2 (pc' := 49) (L' := [(0, .ref v0), (1, .int v1), (2, .int v2), (3, .int v3), (4, .int v4), (5, .int v5), (6, .int v6)]) (S' := [.int 8, .int v6]) rfl ?_
      refine zco_icmp_ge (tgt := 56) (zdk (cc := cX12_feed) (q := (49, .if_icmp .ge 7, 3)) tkX12_feed 28 rfl) rfl ?_ ?_
      · refine zco_p tkX12_feed 31 2 (pc' := 60) (L' := [(0, .ref v0), (1, .int v1), (2, .int v2), (3, .int v3), (4, .int v4), (5, .int v5), (6, .int v6)]) (S' := [.int 12, .int v6]) rfl ?_
        refine zco_icmp_ge (tgt := 67) (zdk (cc := cX12_feed) (q := (60, .if_icmp .ge 7, 3)) tkX12_feed 33 rfl) rfl ?_ ?_
        · refine zco_p tkX12_feed 36 2 (pc' := 71) (L' := [(0, .ref v0), (1, .int v1), (2, .int v2), (3, .int v3), (4, .int v4), (5, .int v5), (6, .int v6)]) (S' := [.int 16, .int v6]) rfl ?_
          refine zco_icmp_ge (tgt := 79) (zdk (cc := cX12_feed) (q := (71, .if_icmp .ge 8, 3)) tkX12_feed 38 rfl) rfl ?_ ?_
          · refine zco_p tkX12_feed 41 1 (pc' := 81) (L' := [(0, .ref v0), (1, .int v1), (2, .int v2), (3, .int v3), (4, .int v4), (5, .int v5), (6, .int v6)]) (S' := [.int v5]) rfl ?_
            exact zco_sub [0, 1, 2, 3, 4, 5, 6] rfl (coX12_feed_J81 l e he v0 v1 v2 v3 v4 v5 v6 r28 hr28 v5)
          · refine zco_p tkX12_feed 39 2 (pc' := 81) (L' := [(0, .ref v0), (1, .int v1), (2, .int v2), (3, .int v3), (4, .int v4), (5, .int v5), (6, .int v6)]) (S' := [.int v4]) rfl ?_
            exact zco_sub [0, 1, 2, 3, 4, 5, 6] rfl (coX12_feed_J81 l e he v0 v1 v2 v3 v4 v5 v6 r28 hr28 v4)
        · refine zco_p tkX12_feed 34 2 (pc' := 81) (L' := [(0, .ref v0), (1, .int v1), (2, .int v2), (3, .int v3), (4, .int v4), (5, .int v5), (6, .int v6)]) (S' := [.int v3]) rfl ?_
          exact zco_sub [0, 1, 2, 3, 4, 5, 6] rfl (coX12_feed_J81 l e he v0 v1 v2 v3 v4 v5 v6 r28 hr28 v3)
      · refine zco_p tkX12_feed 29 2 (pc' := 81) (L' := [(0, .ref v0), (1, .int v1), (2, .int v2), (3, .int v3), (4, .int v4), (5, .int v5), (6, .int v6)]) (S' := [.int v2]) rfl ?_
        exact zco_sub [0, 1, 2, 3, 4, 5, 6] rfl (coX12_feed_J81 l e he v0 v1 v2 v3 v4 v5 v6 r28 hr28 v2)
    · refine zco_p tkX12_feed 24 2 (pc' := 81) (L' := [(0, .ref v0), (1, .int v1), (2, .int v2), (3, .int v3), (4, .int v4), (5, .int v5), (6, .int v6)]) (S' := [.int v1]) rfl ?_
      exact zco_sub [0, 1, 2, 3, 4, 5, 6] rfl (coX12_feed_J81 l e he v0 v1 v2 v3 v4 v5 v6 r28 hr28 v1)
set_option maxHeartbeats 2000000 in
set_option maxRecDepth 20000 in
theorem coX12_feed (l : Launch) (e : Nat) (he : 0 ≤ e) (v0 : Nat) (v1 : Int32) (v2 : Int32) (v3 : Int32) (v4 : Int32) (v5 : Int32) : zCo l (e + 1) 0 0 iX12_feed 0 [(0, .ref v0), (1, .int v1), (2, .int v2), (3, .int v3), (4, .int v4), (5, .int v5)] [] (X12_feed v0 v1 v2 v3 v4 v5) := by
  unfold X12_feed
  refine zco_p tkX12_feed 0 1 (pc' := 1) (L' := [(0, .ref v0), (1, .int v1), (2, .int v2), (3, .int v3), (4, .int v4), (5, .int v5)]) (S' := [.ref v0]) rfl ?_
  refine zco_gi fl_12_267 rfl (zdk (cc := cX12_feed) (q := (1, .getfield 267, 3)) tkX12_feed 1 rfl) (fun x1 => ?_)
  refine zco_p tkX12_feed 2 3 (pc' := 10) (L' := [(0, .ref v0), (1, .int v1), (2, .int v2), (3, .int v3), (4, .int v4), (5, .int v5)]) (S' := [.int 1600, .int (x1 + 20)]) rfl ?_
  refine zco_icmp_le (tgt := 25) (zdk (cc := cX12_feed) (q := (10, .if_icmp .le 15, 3)) tkX12_feed 5 rfl) rfl ?_ ?_
  · refine zco_p tkX12_feed 16 2 (pc' := 28) (L' := [(6, .int 0), (0, .ref v0), (1, .int v1), (2, .int v2), (3, .int v3), (4, .int v4), (5, .int v5)]) (S' := []) rfl ?_
    exact zco_sub [1, 2, 3, 4, 5, 6, 0] rfl (zco_fix (Lf := fun x : Int32 => [(0, .ref v0), (1, .int v1), (2, .int v2), (3, .int v3), (4, .int v4), (5, .int v5), (6, .int x)]) (Sf := fun _ => []) (fun r hr x => coX12_feed_B28 l e he v0 v1 v2 v3 v4 v5 r hr x) zFU 0)
  · refine zco_p tkX12_feed 6 1 (pc' := 14) (L' := [(0, .ref v0), (1, .int v1), (2, .int v2), (3, .int v3), (4, .int v4), (5, .int v5)]) (S' := [.ref v0]) rfl ?_
    refine zco_gr fl_12_17 rfl (zdk (cc := cX12_feed) (q := (14, .getfield 17, 3)) tkX12_feed 7 rfl) (fun x2 => ?_)
    refine zco_p tkX12_feed 8 2 (pc' := 19) (L' := [(0, .ref v0), (1, .int v1), (2, .int v2), (3, .int v3), (4, .int v4), (5, .int v5)]) (S' := [.int 0, .ref x2, .int 0, .ref x2]) rfl ?_
    refine zco_iaload (zdk (cc := cX12_feed) (q := (19, .iaload, 1)) tkX12_feed 10 rfl) (fun x3 => ?_)
    refine zco_p tkX12_feed 11 2 (pc' := 22) (L' := [(0, .ref v0), (1, .int v1), (2, .int v2), (3, .int v3), (4, .int v4), (5, .int v5)]) (S' := [.int (x3 + 1), .int 0, .ref x2]) rfl ?_
    refine zco_iastore (zdk (cc := cX12_feed) (q := (22, .iastore, 1)) tkX12_feed 13 rfl) ?_
    refine zco_p tkX12_feed 14 1 (pc' := 24) (L' := [(0, .ref v0), (1, .int v1), (2, .int v2), (3, .int v3), (4, .int v4), (5, .int v5)]) (S' := [.int ((-1))]) rfl ?_
    exact zco_iret rfl rfl rfl (zdk (cc := cX12_feed) (q := (24, .ireturn, 1)) tkX12_feed 15 rfl)
theorem mtX12_feed (l : Launch) (d : Nat) (hd : 1 ≤ d) (v0 : Nat) (v1 : Int32) (v2 : Int32) (v3 : Int32) (v4 : Int32) (v5 : Int32) : zMet l d 0 0 yX12_feed cX12_feed 8 (Option.some .int) [.ref v0, .int v1, .int v2, .int v3, .int v4, .int v5] (X12_feed v0 v1 v2 v3 v4 v5) := by
  obtain ⟨e, rfl⟩ : ∃ e, d = e + 1 := ⟨d - 1, by omega⟩
  exact zmet_of (own := RX12) (ini := false) (by decide +kernel) rfl (fun _ => by contradiction) (Nat.le_of_ble_eq_true rfl) (coX12_feed l e (by omega) v0 v1 v2 v3 v4 v5)
abbrev iX12_end : zI := (RX12, cX12_end, 2, (Option.some .boolean), false)
def tX12_end : List (Nat × Instr × Nat) := [(0, .iload_n 1, 1), (1, .ifCond .lt 11, 3), (4, .iload_n 1, 1), (5, .aload_n 0, 1), (6, .getfield 267, 3), (9, .if_icmp .le 15, 3), (12, .aload_n 0, 1), (13, .getfield 17, 3), (16, .iconst 0, 1), (17, .dup2, 1), (18, .iaload, 1), (19, .iconst 1, 1), (20, .iadd, 1), (21, .iastore, 1), (22, .iconst 0, 1), (23, .ireturn, 1), (24, .aload_n 0, 1), (25, .iload_n 1, 1), (26, .putfield 267, 3), (29, .iconst 1, 1), (30, .ireturn, 1)]
set_option maxRecDepth 100000 in
theorem tkX12_end : ∀ q ∈ tX12_end, decode cX12_end q.1 = .ok q.2 := by decide +kernel
theorem vmX12_end : zVM yX12_end cX12_end 2 (Option.some .boolean) 1 12 := ⟨kX12_end, q_1744, q_1745, q_162, ⟨_, rfl, rfl⟩, by decide +kernel, by decide⟩
set_option maxHeartbeats 2000000 in
set_option maxRecDepth 20000 in
theorem coX12_end_J12 (l : Launch) (e : Nat) (he : 0 ≤ e) (v0 : Nat) : zCo l (e + 1) 0 0 iX12_end 12 [(0, .ref v0)] [] (X12_end_J12 v0) := by
  unfold X12_end_J12
  refine zco_p tkX12_end 6 1 (pc' := 13) (L' := [(0, .ref v0)]) (S' := [.ref v0]) rfl ?_
  refine zco_gr fl_12_17 rfl (zdk (cc := cX12_end) (q := (13, .getfield 17, 3)) tkX12_end 7 rfl) (fun x1 => ?_)
  refine zco_p tkX12_end 8 2 (pc' := 18) (L' := [(0, .ref v0)]) (S' := [.int 0, .ref x1, .int 0, .ref x1]) rfl ?_
  refine zco_iaload (zdk (cc := cX12_end) (q := (18, .iaload, 1)) tkX12_end 10 rfl) (fun x2 => ?_)
  refine zco_p tkX12_end 11 2 (pc' := 21) (L' := [(0, .ref v0)]) (S' := [.int (x2 + 1), .int 0, .ref x1]) rfl ?_
  refine zco_iastore (zdk (cc := cX12_end) (q := (21, .iastore, 1)) tkX12_end 13 rfl) ?_
  refine zco_p tkX12_end 14 1 (pc' := 23) (L' := [(0, .ref v0)]) (S' := [.int 0]) rfl ?_
  exact zco_zret rfl rfl rfl (zdk (cc := cX12_end) (q := (23, .ireturn, 1)) tkX12_end 15 rfl)
set_option maxHeartbeats 2000000 in
set_option maxRecDepth 20000 in
theorem coX12_end (l : Launch) (e : Nat) (he : 0 ≤ e) (v0 : Nat) (v1 : Int32) : zCo l (e + 1) 0 0 iX12_end 0 [(0, .ref v0), (1, .int v1)] [] (X12_end v0 v1) := by
  unfold X12_end
  refine zco_p tkX12_end 0 1 (pc' := 1) (L' := [(0, .ref v0), (1, .int v1)]) (S' := [.int v1]) rfl ?_
  refine zco_if_lt (tgt := 12) (zdk (cc := cX12_end) (q := (1, .ifCond .lt 11, 3)) tkX12_end 1 rfl) rfl ?_ ?_
  · exact zco_sub [0] rfl (coX12_end_J12 l e he v0)
  · refine zco_p tkX12_end 2 2 (pc' := 6) (L' := [(0, .ref v0), (1, .int v1)]) (S' := [.ref v0, .int v1]) rfl ?_
    refine zco_gi fl_12_267 rfl (zdk (cc := cX12_end) (q := (6, .getfield 267, 3)) tkX12_end 4 rfl) (fun x1 => ?_)
    refine zco_icmp_le (tgt := 24) (zdk (cc := cX12_end) (q := (9, .if_icmp .le 15, 3)) tkX12_end 5 rfl) rfl ?_ ?_
    · refine zco_p tkX12_end 16 2 (pc' := 26) (L' := [(0, .ref v0), (1, .int v1)]) (S' := [.int v1, .ref v0]) rfl ?_
      refine zco_pi fl_12_267 rfl rfl (zdk (cc := cX12_end) (q := (26, .putfield 267, 3)) tkX12_end 18 rfl) ?_
      refine zco_p tkX12_end 19 1 (pc' := 30) (L' := [(0, .ref v0), (1, .int v1)]) (S' := [.int 1]) rfl ?_
      exact zco_zret rfl rfl rfl (zdk (cc := cX12_end) (q := (30, .ireturn, 1)) tkX12_end 20 rfl)
    · exact zco_sub [0] rfl (coX12_end_J12 l e he v0)
theorem mtX12_end (l : Launch) (d : Nat) (hd : 1 ≤ d) (v0 : Nat) (v1 : Int32) : zMet l d 0 0 yX12_end cX12_end 2 (Option.some .boolean) [.ref v0, .int v1] (X12_end v0 v1) := by
  obtain ⟨e, rfl⟩ : ∃ e, d = e + 1 := ⟨d - 1, by omega⟩
  exact zmet_of (own := RX12) (ini := false) (by decide +kernel) rfl (fun _ => by contradiction) (Nat.le_of_ble_eq_true rfl) (coX12_end l e (by omega) v0 v1)
abbrev iX12_fail : zI := (RX12, cX12_fail, 3, (Option.none : Option FieldType), false)
def tX12_fail : List (Nat × Instr × Nat) := [(0, .aload_n 0, 1), (1, .getfield 270, 3), (4, .ifCond .eq 4, 3), (7, .return_, 1), (8, .aload_n 0, 1), (9, .iload_n 1, 1), (10, .putfield 270, 3), (13, .aload_n 0, 1), (14, .iload_n 2, 1), (15, .putfield 273, 3), (18, .return_, 1)]
set_option maxRecDepth 100000 in
theorem tkX12_fail : ∀ q ∈ tX12_fail, decode cX12_fail q.1 = .ok q.2 := by decide +kernel
theorem vmX12_fail : zVM yX12_fail cX12_fail 3 (Option.none : Option FieldType) 2 12 := ⟨kX12_fail, q_1761, q_49, q_162, ⟨_, rfl, rfl⟩, by decide +kernel, by decide⟩
set_option maxHeartbeats 2000000 in
set_option maxRecDepth 20000 in
theorem coX12_fail (l : Launch) (e : Nat) (he : 0 ≤ e) (v0 : Nat) (v1 : Int32) (v2 : Int32) : zCo l (e + 1) 0 0 iX12_fail 0 [(0, .ref v0), (1, .int v1), (2, .int v2)] [] (X12_fail v0 v1 v2) := by
  unfold X12_fail
  refine zco_p tkX12_fail 0 1 (pc' := 1) (L' := [(0, .ref v0), (1, .int v1), (2, .int v2)]) (S' := [.ref v0]) rfl ?_
  refine zco_gi fl_12_270 rfl (zdk (cc := cX12_fail) (q := (1, .getfield 270, 3)) tkX12_fail 1 rfl) (fun x1 => ?_)
  refine zco_if_eq (tgt := 8) (zdk (cc := cX12_fail) (q := (4, .ifCond .eq 4, 3)) tkX12_fail 2 rfl) rfl ?_ ?_
  · refine zco_p tkX12_fail 4 2 (pc' := 10) (L' := [(0, .ref v0), (1, .int v1), (2, .int v2)]) (S' := [.int v1, .ref v0]) rfl ?_
    refine zco_pi fl_12_270 rfl rfl (zdk (cc := cX12_fail) (q := (10, .putfield 270, 3)) tkX12_fail 6 rfl) ?_
    refine zco_p tkX12_fail 7 2 (pc' := 15) (L' := [(0, .ref v0), (1, .int v1), (2, .int v2)]) (S' := [.int v2, .ref v0]) rfl ?_
    refine zco_pi fl_12_273 rfl rfl (zdk (cc := cX12_fail) (q := (15, .putfield 273, 3)) tkX12_fail 9 rfl) ?_
    exact zco_vret rfl rfl rfl (zdk (cc := cX12_fail) (q := (18, .return_, 1)) tkX12_fail 10 rfl)
  · exact zco_vret rfl rfl rfl (zdk (cc := cX12_fail) (q := (7, .return_, 1)) tkX12_fail 3 rfl)
theorem mtX12_fail (l : Launch) (d : Nat) (hd : 1 ≤ d) (v0 : Nat) (v1 : Int32) (v2 : Int32) : zMet l d 0 0 yX12_fail cX12_fail 3 (Option.none : Option FieldType) [.ref v0, .int v1, .int v2] (X12_fail v0 v1 v2) := by
  obtain ⟨e, rfl⟩ : ∃ e, d = e + 1 := ⟨d - 1, by omega⟩
  exact zmet_of (own := RX12) (ini := false) (by decide +kernel) rfl (fun _ => by contradiction) (Nat.le_of_ble_eq_true rfl) (coX12_fail l e (by omega) v0 v1 v2)
abbrev iX12_isLetter : zI := (RX12, cX12_isLetter, 1, (Option.some .boolean), false)
def tX12_isLetter : List (Nat × Instr × Nat) := [(0, .iload_n 0, 1), (1, .bipush 97, 2), (3, .if_icmp .lt 13, 3), (6, .iload_n 0, 1), (7, .bipush 122, 2), (9, .if_icmp .gt 7, 3), (12, .iconst 1, 1), (13, .goto 4, 3), (16, .iconst 0, 1), (17, .ireturn, 1)]
set_option maxRecDepth 100000 in
theorem tkX12_isLetter : ∀ q ∈ tX12_isLetter, decode cX12_isLetter q.1 = .ok q.2 := by decide +kernel
theorem vmX12_isLetter : zSM yX12_isLetter cX12_isLetter 1 (Option.some .boolean) 1 := ⟨kX12_isLetter, q_1772, q_162, by decide +kernel, by decide⟩
set_option maxHeartbeats 2000000 in
set_option maxRecDepth 20000 in
theorem coX12_isLetter (l : Launch) (e : Nat) (he : 0 ≤ e) (v0 : Int32) : zCo l (e + 1) 0 0 iX12_isLetter 0 [(0, .int v0)] [] (X12_isLetter v0) := by
  unfold X12_isLetter
  refine zco_p tkX12_isLetter 0 2 (pc' := 3) (L' := [(0, .int v0)]) (S' := [.int 97, .int v0]) rfl ?_
  refine zco_icmp_lt (tgt := 16) (zdk (cc := cX12_isLetter) (q := (3, .if_icmp .lt 13, 3)) tkX12_isLetter 2 rfl) rfl ?_ ?_
  · refine zco_p tkX12_isLetter 8 1 (pc' := 17) (L' := [(0, .int v0)]) (S' := [.int 0]) rfl ?_
    exact zco_zret rfl rfl rfl (zdk (cc := cX12_isLetter) (q := (17, .ireturn, 1)) tkX12_isLetter 9 rfl)
  · refine zco_p tkX12_isLetter 3 2 (pc' := 9) (L' := [(0, .int v0)]) (S' := [.int 122, .int v0]) rfl ?_
    refine zco_icmp_gt (tgt := 16) (zdk (cc := cX12_isLetter) (q := (9, .if_icmp .gt 7, 3)) tkX12_isLetter 5 rfl) rfl ?_ ?_
    · refine zco_p tkX12_isLetter 8 1 (pc' := 17) (L' := [(0, .int v0)]) (S' := [.int 0]) rfl ?_
      exact zco_zret rfl rfl rfl (zdk (cc := cX12_isLetter) (q := (17, .ireturn, 1)) tkX12_isLetter 9 rfl)
    · refine zco_p tkX12_isLetter 6 2 (pc' := 17) (L' := [(0, .int v0)]) (S' := [.int 1]) rfl ?_
      exact zco_zret rfl rfl rfl (zdk (cc := cX12_isLetter) (q := (17, .ireturn, 1)) tkX12_isLetter 9 rfl)
theorem mtX12_isLetter (l : Launch) (d : Nat) (hd : 1 ≤ d) (v0 : Int32) : zMet l d 0 0 yX12_isLetter cX12_isLetter 1 (Option.some .boolean) [.int v0] (X12_isLetter v0) := by
  obtain ⟨e, rfl⟩ : ∃ e, d = e + 1 := ⟨d - 1, by omega⟩
  exact zmet_of (own := RX12) (ini := false) (by decide +kernel) rfl (fun _ => by contradiction) (Nat.le_of_ble_eq_true rfl) (coX12_isLetter l e (by omega) v0)
abbrev iX12_isDigit : zI := (RX12, cX12_isDigit, 1, (Option.some .boolean), false)
def tX12_isDigit : List (Nat × Instr × Nat) := [(0, .iload_n 0, 1), (1, .bipush 48, 2), (3, .if_icmp .lt 13, 3), (6, .iload_n 0, 1), (7, .bipush 57, 2), (9, .if_icmp .gt 7, 3), (12, .iconst 1, 1), (13, .goto 4, 3), (16, .iconst 0, 1), (17, .ireturn, 1)]
set_option maxRecDepth 100000 in
theorem tkX12_isDigit : ∀ q ∈ tX12_isDigit, decode cX12_isDigit q.1 = .ok q.2 := by decide +kernel
theorem vmX12_isDigit : zSM yX12_isDigit cX12_isDigit 1 (Option.some .boolean) 1 := ⟨kX12_isDigit, q_1797, q_162, by decide +kernel, by decide⟩
set_option maxHeartbeats 2000000 in
set_option maxRecDepth 20000 in
theorem coX12_isDigit (l : Launch) (e : Nat) (he : 0 ≤ e) (v0 : Int32) : zCo l (e + 1) 0 0 iX12_isDigit 0 [(0, .int v0)] [] (X12_isDigit v0) := by
  unfold X12_isDigit
  refine zco_p tkX12_isDigit 0 2 (pc' := 3) (L' := [(0, .int v0)]) (S' := [.int 48, .int v0]) rfl ?_
  refine zco_icmp_lt (tgt := 16) (zdk (cc := cX12_isDigit) (q := (3, .if_icmp .lt 13, 3)) tkX12_isDigit 2 rfl) rfl ?_ ?_
  · refine zco_p tkX12_isDigit 8 1 (pc' := 17) (L' := [(0, .int v0)]) (S' := [.int 0]) rfl ?_
    exact zco_zret rfl rfl rfl (zdk (cc := cX12_isDigit) (q := (17, .ireturn, 1)) tkX12_isDigit 9 rfl)
  · refine zco_p tkX12_isDigit 3 2 (pc' := 9) (L' := [(0, .int v0)]) (S' := [.int 57, .int v0]) rfl ?_
    refine zco_icmp_gt (tgt := 16) (zdk (cc := cX12_isDigit) (q := (9, .if_icmp .gt 7, 3)) tkX12_isDigit 5 rfl) rfl ?_ ?_
    · refine zco_p tkX12_isDigit 8 1 (pc' := 17) (L' := [(0, .int v0)]) (S' := [.int 0]) rfl ?_
      exact zco_zret rfl rfl rfl (zdk (cc := cX12_isDigit) (q := (17, .ireturn, 1)) tkX12_isDigit 9 rfl)
    · refine zco_p tkX12_isDigit 6 2 (pc' := 17) (L' := [(0, .int v0)]) (S' := [.int 1]) rfl ?_
      exact zco_zret rfl rfl rfl (zdk (cc := cX12_isDigit) (q := (17, .ireturn, 1)) tkX12_isDigit 9 rfl)
theorem mtX12_isDigit (l : Launch) (d : Nat) (hd : 1 ≤ d) (v0 : Int32) : zMet l d 0 0 yX12_isDigit cX12_isDigit 1 (Option.some .boolean) [.int v0] (X12_isDigit v0) := by
  obtain ⟨e, rfl⟩ : ∃ e, d = e + 1 := ⟨d - 1, by omega⟩
  exact zmet_of (own := RX12) (ini := false) (by decide +kernel) rfl (fun _ => by contradiction) (Nat.le_of_ble_eq_true rfl) (coX12_isDigit l e (by omega) v0)
abbrev iX12_look : zI := (RX12, cX12_look, 1, (Option.some .int), false)
def tX12_look : List (Nat × Instr × Nat) := [(0, .aload_n 0, 1), (1, .getfield 276, 3), (4, .aload_n 0, 1), (5, .getfield 279, 3), (8, .if_icmp .ge 44, 3), (11, .aload_n 0, 1), (12, .getfield 7, 3), (15, .aload_n 0, 1), (16, .getfield 276, 3), (19, .iaload, 1), (20, .bipush 10, 2), (22, .if_icmp .eq 17, 3), (25, .aload_n 0, 1), (26, .getfield 7, 3), (29, .aload_n 0, 1), (30, .getfield 276, 3), (33, .iaload, 1), (34, .bipush 32, 2), (36, .if_icmp .ne 16, 3), (39, .aload_n 0, 1), (40, .dup, 1), (41, .getfield 276, 3), (44, .iconst 1, 1), (45, .iadd, 1), (46, .putfield 276, 3), (49, .goto (-49), 3), (52, .aload_n 0, 1), (53, .getfield 276, 3), (56, .aload_n 0, 1), (57, .getfield 279, 3), (60, .if_icmp .ge 15, 3), (63, .aload_n 0, 1), (64, .getfield 7, 3), (67, .aload_n 0, 1), (68, .getfield 276, 3), (71, .iaload, 1), (72, .goto 4, 3), (75, .iconst (-1), 1), (76, .ireturn, 1)]
set_option maxRecDepth 100000 in
theorem tkX12_look : ∀ q ∈ tX12_look, decode cX12_look q.1 = .ok q.2 := by decide +kernel
theorem vmX12_look : zVM yX12_look cX12_look 1 (Option.some .int) 0 12 := ⟨kX12_look, q_1753, q_47, q_162, ⟨_, rfl, rfl⟩, by decide +kernel, by decide⟩
set_option maxHeartbeats 2000000 in
set_option maxRecDepth 20000 in
theorem coX12_look_J52 (l : Launch) (e : Nat) (he : 0 ≤ e) (v0 : Nat) : zCo l (e + 1) 0 0 iX12_look 52 [(0, .ref v0)] [] (X12_look_J52 v0) := by
  unfold X12_look_J52
  refine zco_p tkX12_look 26 1 (pc' := 53) (L' := [(0, .ref v0)]) (S' := [.ref v0]) rfl ?_
  refine zco_gi fl_12_276 rfl (zdk (cc := cX12_look) (q := (53, .getfield 276, 3)) tkX12_look 27 rfl) (fun x1 => ?_)
  refine zco_p tkX12_look 28 1 (pc' := 57) (L' := [(0, .ref v0)]) (S' := [.ref v0, .int x1]) rfl ?_
  refine zco_gi fl_12_279 rfl (zdk (cc := cX12_look) (q := (57, .getfield 279, 3)) tkX12_look 29 rfl) (fun x2 => ?_)
  refine zco_icmp_ge (tgt := 75) (zdk (cc := cX12_look) (q := (60, .if_icmp .ge 15, 3)) tkX12_look 30 rfl) rfl ?_ ?_
  · refine zco_p tkX12_look 37 1 (pc' := 76) (L' := [(0, .ref v0)]) (S' := [.int ((-1))]) rfl ?_
    exact zco_iret rfl rfl rfl (zdk (cc := cX12_look) (q := (76, .ireturn, 1)) tkX12_look 38 rfl)
  · refine zco_p tkX12_look 31 1 (pc' := 64) (L' := [(0, .ref v0)]) (S' := [.ref v0]) rfl ?_
    refine zco_gr fl_12_7 rfl (zdk (cc := cX12_look) (q := (64, .getfield 7, 3)) tkX12_look 32 rfl) (fun x3 => ?_)
    refine zco_p tkX12_look 33 1 (pc' := 68) (L' := [(0, .ref v0)]) (S' := [.ref v0, .ref x3]) rfl ?_
    refine zco_gi fl_12_276 rfl (zdk (cc := cX12_look) (q := (68, .getfield 276, 3)) tkX12_look 34 rfl) (fun x4 => ?_)
    refine zco_iaload (zdk (cc := cX12_look) (q := (71, .iaload, 1)) tkX12_look 35 rfl) (fun x5 => ?_)
    refine zco_p tkX12_look 36 1 (pc' := 76) (L' := [(0, .ref v0)]) (S' := [.int x5]) rfl ?_
    exact zco_iret rfl rfl rfl (zdk (cc := cX12_look) (q := (76, .ireturn, 1)) tkX12_look 38 rfl)
set_option maxHeartbeats 2000000 in
set_option maxRecDepth 20000 in
theorem coX12_look_J39 (l : Launch) (e : Nat) (he : 0 ≤ e) (v0 : Nat) (r0 : Unit → zM) (hr0 : ∀ x : Unit, zCo l (e + 1) 0 0 iX12_look 0 [(0, .ref v0)] [] (r0 x)) : zCo l (e + 1) 0 0 iX12_look 39 [(0, .ref v0)] [] (X12_look_J39 r0 v0) := by
  unfold X12_look_J39
  refine zco_p tkX12_look 19 2 (pc' := 41) (L' := [(0, .ref v0)]) (S' := [.ref v0, .ref v0]) rfl ?_
  refine zco_gi fl_12_276 rfl (zdk (cc := cX12_look) (q := (41, .getfield 276, 3)) tkX12_look 21 rfl) (fun x1 => ?_)
  refine zco_p tkX12_look 22 2 (pc' := 46) (L' := [(0, .ref v0)]) (S' := [.int (x1 + 1), .ref v0]) rfl ?_
  refine zco_pi fl_12_276 rfl rfl (zdk (cc := cX12_look) (q := (46, .putfield 276, 3)) tkX12_look 24 rfl) ?_
  refine zco_p tkX12_look 25 1 (pc' := 0) (L' := [(0, .ref v0)]) (S' := []) rfl ?_
  exact zco_sub [0] rfl (hr0 (()))
set_option maxHeartbeats 2000000 in
set_option maxRecDepth 20000 in
theorem coX12_look_B0 (l : Launch) (e : Nat) (he : 0 ≤ e) (v0 : Nat) (r0 : Unit → zM) (hr0 : ∀ x : Unit, zCo l (e + 1) 0 0 iX12_look 0 [(0, .ref v0)] [] (r0 x)) : zCo l (e + 1) 0 0 iX12_look 0 [(0, .ref v0)] [] (X12_look_B0 v0 r0) := by
  unfold X12_look_B0
  refine zco_p tkX12_look 0 1 (pc' := 1) (L' := [(0, .ref v0)]) (S' := [.ref v0]) rfl ?_
  refine zco_gi fl_12_276 rfl (zdk (cc := cX12_look) (q := (1, .getfield 276, 3)) tkX12_look 1 rfl) (fun x1 => ?_)
  refine zco_p tkX12_look 2 1 (pc' := 5) (L' := [(0, .ref v0)]) (S' := [.ref v0, .int x1]) rfl ?_
  refine zco_gi fl_12_279 rfl (zdk (cc := cX12_look) (q := (5, .getfield 279, 3)) tkX12_look 3 rfl) (fun x2 => ?_)
  refine zco_icmp_ge (tgt := 52) (zdk (cc := cX12_look) (q := (8, .if_icmp .ge 44, 3)) tkX12_look 4 rfl) rfl ?_ ?_
  · exact zco_sub [0] rfl (coX12_look_J52 l e he v0)
  · refine zco_p tkX12_look 5 1 (pc' := 12) (L' := [(0, .ref v0)]) (S' := [.ref v0]) rfl ?_
    refine zco_gr fl_12_7 rfl (zdk (cc := cX12_look) (q := (12, .getfield 7, 3)) tkX12_look 6 rfl) (fun x3 => ?_)
    refine zco_p tkX12_look 7 1 (pc' := 16) (L' := [(0, .ref v0)]) (S' := [.ref v0, .ref x3]) rfl ?_
    refine zco_gi fl_12_276 rfl (zdk (cc := cX12_look) (q := (16, .getfield 276, 3)) tkX12_look 8 rfl) (fun x4 => ?_)
    refine zco_iaload (zdk (cc := cX12_look) (q := (19, .iaload, 1)) tkX12_look 9 rfl) (fun x5 => ?_)
    refine zco_p tkX12_look 10 1 (pc' := 22) (L' := [(0, .ref v0)]) (S' := [.int 10, .int x5]) rfl ?_
    refine zco_icmp_eq (tgt := 39) (zdk (cc := cX12_look) (q := (22, .if_icmp .eq 17, 3)) tkX12_look 11 rfl) rfl ?_ ?_
    · exact zco_sub [0] rfl (coX12_look_J39 l e he v0 r0 hr0)
    · refine zco_p tkX12_look 12 1 (pc' := 26) (L' := [(0, .ref v0)]) (S' := [.ref v0]) rfl ?_
      refine zco_gr fl_12_7 rfl (zdk (cc := cX12_look) (q := (26, .getfield 7, 3)) tkX12_look 13 rfl) (fun x6 => ?_)
      refine zco_p tkX12_look 14 1 (pc' := 30) (L' := [(0, .ref v0)]) (S' := [.ref v0, .ref x6]) rfl ?_
      refine zco_gi fl_12_276 rfl (zdk (cc := cX12_look) (q := (30, .getfield 276, 3)) tkX12_look 15 rfl) (fun x7 => ?_)
      refine zco_iaload (zdk (cc := cX12_look) (q := (33, .iaload, 1)) tkX12_look 16 rfl) (fun x8 => ?_)
      refine zco_p tkX12_look 17 1 (pc' := 36) (L' := [(0, .ref v0)]) (S' := [.int 32, .int x8]) rfl ?_
      refine zco_icmp_ne (tgt := 52) (zdk (cc := cX12_look) (q := (36, .if_icmp .ne 16, 3)) tkX12_look 18 rfl) rfl ?_ ?_
      · exact zco_sub [0] rfl (coX12_look_J52 l e he v0)
      · exact zco_sub [0] rfl (coX12_look_J39 l e he v0 r0 hr0)
set_option maxHeartbeats 2000000 in
set_option maxRecDepth 20000 in
theorem coX12_look (l : Launch) (e : Nat) (he : 0 ≤ e) (v0 : Nat) : zCo l (e + 1) 0 0 iX12_look 0 [(0, .ref v0)] [] (X12_look v0) := by
  unfold X12_look
  exact zco_sub [0] rfl (zco_fix (Lf := fun x : Unit => [(0, .ref v0)]) (Sf := fun _ => []) (fun r hr x => coX12_look_B0 l e he v0 r hr ) zFU (()))
theorem mtX12_look (l : Launch) (d : Nat) (hd : 1 ≤ d) (v0 : Nat) : zMet l d 0 0 yX12_look cX12_look 1 (Option.some .int) [.ref v0] (X12_look v0) := by
  obtain ⟨e, rfl⟩ : ∃ e, d = e + 1 := ⟨d - 1, by omega⟩
  exact zmet_of (own := RX12) (ini := false) (by decide +kernel) rfl (fun _ => by contradiction) (Nat.le_of_ble_eq_true rfl) (coX12_look l e (by omega) v0)
abbrev iX12_isHere : zI := (RX12, cX12_isHere, 4, (Option.some .boolean), false)
def tX12_isHere : List (Nat × Instr × Nat) := [(0, .aload_n 0, 1), (1, .getfield 270, 3), (4, .ifCond .ne 24, 3), (7, .aload_n 0, 1), (8, .invokevirtual 282, 3), (11, .invokestatic 286, 3), (14, .ifCond .eq 14, 3), (17, .aload_n 0, 1), (18, .getfield 276, 3), (21, .aload_n 0, 1), (22, .getfield 290, 3), (25, .if_icmp .ne 5, 3), (28, .iconst 0, 1), (29, .ireturn, 1), (30, .aload_n 0, 1), (31, .getfield 276, 3), (34, .istore_n 2, 1), (35, .iload_n 2, 1), (36, .aload_n 0, 1), (37, .getfield 279, 3), (40, .if_icmp .ge 21, 3), (43, .aload_n 0, 1), (44, .getfield 7, 3), (47, .iload_n 2, 1), (48, .iaload, 1), (49, .invokestatic 286, 3), (52, .ifCond .eq 9, 3), (55, .iinc 2 1, 3), (58, .goto (-23), 3), (61, .iload_n 2, 1), (62, .aload_n 0, 1), (63, .getfield 276, 3), (66, .isub, 1), (67, .aload_n 1, 1), (68, .arraylength, 1), (69, .if_icmp .eq 5, 3), (72, .iconst 0, 1), (73, .ireturn, 1), (74, .iconst 0, 1), (75, .istore_n 3, 1), (76, .iload_n 3, 1), (77, .aload_n 1, 1), (78, .arraylength, 1), (79, .if_icmp .ge 28, 3), (82, .aload_n 0, 1), (83, .getfield 7, 3), (86, .aload_n 0, 1), (87, .getfield 276, 3), (90, .iload_n 3, 1), (91, .iadd, 1), (92, .iaload, 1), (93, .aload_n 1, 1), (94, .iload_n 3, 1), (95, .caload, 1), (96, .if_icmp .eq 5, 3), (99, .iconst 0, 1), (100, .ireturn, 1), (101, .iinc 3 1, 3), (104, .goto (-28), 3), (107, .iconst 1, 1), (108, .ireturn, 1)]
set_option maxRecDepth 100000 in
theorem tkX12_isHere : ∀ q ∈ tX12_isHere, decode cX12_isHere q.1 = .ok q.2 := by decide +kernel
theorem vmX12_isHere : zVM yX12_isHere cX12_isHere 4 (Option.some .boolean) 1 12 := ⟨kX12_isHere, q_1769, q_51, q_162, ⟨_, rfl, rfl⟩, by decide +kernel, by decide⟩
set_option maxHeartbeats 2000000 in
set_option maxRecDepth 20000 in
theorem coX12_isHere_B76 (l : Launch) (e : Nat) (he : 1 ≤ e) (v0 : Nat) (v1 : Nat) (r76 : Int32 → zM) (hr76 : ∀ x : Int32, zCo l (e + 1) 0 0 iX12_isHere 76 [(0, .ref v0), (1, .ref v1), (3, .int x)] [] (r76 x)) (v3 : Int32) : zCo l (e + 1) 0 0 iX12_isHere 76 [(0, .ref v0), (1, .ref v1), (3, .int v3)] [] (X12_isHere_B76 v0 v1 r76 v3) := by
  unfold X12_isHere_B76
  refine zco_p tkX12_isHere 40 2 (pc' := 78) (L' := [(0, .ref v0), (1, .ref v1), (3, .int v3)]) (S' := [.ref v1, .int v3]) rfl ?_
  refine zco_alen (zdk (cc := cX12_isHere) (q := (78, .arraylength, 1)) tkX12_isHere 42 rfl) (fun x1 => ?_)
  refine zco_icmp_ge (tgt := 107) (zdk (cc := cX12_isHere) (q := (79, .if_icmp .ge 28, 3)) tkX12_isHere 43 rfl) rfl ?_ ?_
  · refine zco_p tkX12_isHere 59 1 (pc' := 108) (L' := [(0, .ref v0), (1, .ref v1), (3, .int v3)]) (S' := [.int 1]) rfl ?_
    exact zco_zret rfl rfl rfl (zdk (cc := cX12_isHere) (q := (108, .ireturn, 1)) tkX12_isHere 60 rfl)
  · refine zco_p tkX12_isHere 44 1 (pc' := 83) (L' := [(0, .ref v0), (1, .ref v1), (3, .int v3)]) (S' := [.ref v0]) rfl ?_
    refine zco_gr fl_12_7 rfl (zdk (cc := cX12_isHere) (q := (83, .getfield 7, 3)) tkX12_isHere 45 rfl) (fun x2 => ?_)
    refine zco_p tkX12_isHere 46 1 (pc' := 87) (L' := [(0, .ref v0), (1, .ref v1), (3, .int v3)]) (S' := [.ref v0, .ref x2]) rfl ?_
    refine zco_gi fl_12_276 rfl (zdk (cc := cX12_isHere) (q := (87, .getfield 276, 3)) tkX12_isHere 47 rfl) (fun x3 => ?_)
    refine zco_p tkX12_isHere 48 2 (pc' := 92) (L' := [(0, .ref v0), (1, .ref v1), (3, .int v3)]) (S' := [.int (x3 + v3), .ref x2]) rfl ?_
    refine zco_iaload (zdk (cc := cX12_isHere) (q := (92, .iaload, 1)) tkX12_isHere 50 rfl) (fun x4 => ?_)
    refine zco_p tkX12_isHere 51 2 (pc' := 95) (L' := [(0, .ref v0), (1, .ref v1), (3, .int v3)]) (S' := [.int v3, .ref v1, .int x4]) rfl ?_
    refine zco_caload (zdk (cc := cX12_isHere) (q := (95, .caload, 1)) tkX12_isHere 53 rfl) (fun x5 => ?_)
    refine zco_icmp_eq (tgt := 101) (zdk (cc := cX12_isHere) (q := (96, .if_icmp .eq 5, 3)) tkX12_isHere 54 rfl) rfl ?_ ?_
    · refine zco_p tkX12_isHere 57 2 (pc' := 76) (L' := [(3, .int (v3 + 1)), (0, .ref v0), (1, .ref v1)]) (S' := []) rfl ?_
      exact zco_sub [1, 2, 0] rfl (hr76 (v3 + 1))
    · refine zco_p tkX12_isHere 55 1 (pc' := 100) (L' := [(0, .ref v0), (1, .ref v1), (3, .int v3)]) (S' := [.int 0]) rfl ?_
      exact zco_zret rfl rfl rfl (zdk (cc := cX12_isHere) (q := (100, .ireturn, 1)) tkX12_isHere 56 rfl)
set_option maxHeartbeats 2000000 in
set_option maxRecDepth 20000 in
theorem coX12_isHere_J61 (l : Launch) (e : Nat) (he : 1 ≤ e) (v0 : Nat) (v1 : Nat) (v2 : Int32) : zCo l (e + 1) 0 0 iX12_isHere 61 [(0, .ref v0), (1, .ref v1), (2, .int v2)] [] (X12_isHere_J61 v0 v1 v2) := by
  unfold X12_isHere_J61
  refine zco_p tkX12_isHere 29 2 (pc' := 63) (L' := [(0, .ref v0), (1, .ref v1), (2, .int v2)]) (S' := [.ref v0, .int v2]) rfl ?_
  refine zco_gi fl_12_276 rfl (zdk (cc := cX12_isHere) (q := (63, .getfield 276, 3)) tkX12_isHere 31 rfl) (fun x1 => ?_)
  refine zco_p tkX12_isHere 32 2 (pc' := 68) (L' := [(0, .ref v0), (1, .ref v1), (2, .int v2)]) (S' := [.ref v1, .int (v2 - x1)]) rfl ?_
  refine zco_alen (zdk (cc := cX12_isHere) (q := (68, .arraylength, 1)) tkX12_isHere 34 rfl) (fun x2 => ?_)
  refine zco_icmp_eq (tgt := 74) (zdk (cc := cX12_isHere) (q := (69, .if_icmp .eq 5, 3)) tkX12_isHere 35 rfl) rfl ?_ ?_
  · refine zco_p tkX12_isHere 38 2 (pc' := 76) (L' := [(3, .int 0), (0, .ref v0), (1, .ref v1), (2, .int v2)]) (S' := []) rfl ?_
    exact zco_sub [1, 2, 0] rfl (zco_fix (Lf := fun x : Int32 => [(0, .ref v0), (1, .ref v1), (3, .int x)]) (Sf := fun _ => []) (fun r hr x => coX12_isHere_B76 l e he v0 v1 r hr x) zFU 0)
  · refine zco_p tkX12_isHere 36 1 (pc' := 73) (L' := [(0, .ref v0), (1, .ref v1), (2, .int v2)]) (S' := [.int 0]) rfl ?_
    exact zco_zret rfl rfl rfl (zdk (cc := cX12_isHere) (q := (73, .ireturn, 1)) tkX12_isHere 37 rfl)
set_option maxHeartbeats 2000000 in
set_option maxRecDepth 20000 in
theorem coX12_isHere_B35 (l : Launch) (e : Nat) (he : 1 ≤ e) (v0 : Nat) (v1 : Nat) (r35 : Int32 → zM) (hr35 : ∀ x : Int32, zCo l (e + 1) 0 0 iX12_isHere 35 [(0, .ref v0), (1, .ref v1), (2, .int x)] [] (r35 x)) (v2 : Int32) : zCo l (e + 1) 0 0 iX12_isHere 35 [(0, .ref v0), (1, .ref v1), (2, .int v2)] [] (X12_isHere_B35 v0 v1 r35 v2) := by
  unfold X12_isHere_B35
  refine zco_p tkX12_isHere 17 2 (pc' := 37) (L' := [(0, .ref v0), (1, .ref v1), (2, .int v2)]) (S' := [.ref v0, .int v2]) rfl ?_
  refine zco_gi fl_12_279 rfl (zdk (cc := cX12_isHere) (q := (37, .getfield 279, 3)) tkX12_isHere 19 rfl) (fun x1 => ?_)
  refine zco_icmp_ge (tgt := 61) (zdk (cc := cX12_isHere) (q := (40, .if_icmp .ge 21, 3)) tkX12_isHere 20 rfl) rfl ?_ ?_
  · exact zco_sub [0, 1, 2] rfl (coX12_isHere_J61 l e he v0 v1 v2)
  · refine zco_p tkX12_isHere 21 1 (pc' := 44) (L' := [(0, .ref v0), (1, .ref v1), (2, .int v2)]) (S' := [.ref v0]) rfl ?_
    refine zco_gr fl_12_7 rfl (zdk (cc := cX12_isHere) (q := (44, .getfield 7, 3)) tkX12_isHere 22 rfl) (fun x2 => ?_)
    refine zco_p tkX12_isHere 23 1 (pc' := 48) (L' := [(0, .ref v0), (1, .ref v1), (2, .int v2)]) (S' := [.int v2, .ref x2]) rfl ?_
    refine zco_iaload (zdk (cc := cX12_isHere) (q := (48, .iaload, 1)) tkX12_isHere 24 rfl) (fun x3 => ?_)
    refine zco_Si (rc := 0) (rs := 0) (mc := 0) (ms := 0) (As := [.int x3]) (S := []) vmX12_isLetter (mtX12_isLetter l e (by omega) x3) q_1771 rfl rfl (Nat.le_of_ble_eq_true rfl) (zdk (cc := cX12_isHere) (q := (49, .invokestatic 286, 3)) tkX12_isHere 25 rfl) (fun y4 => ?_)
    refine zco_if_eq (tgt := 61) (zdk (cc := cX12_isHere) (q := (52, .ifCond .eq 9, 3)) tkX12_isHere 26 rfl) rfl ?_ ?_
    · exact zco_sub [0, 1, 2] rfl (coX12_isHere_J61 l e he v0 v1 v2)
    · refine zco_p tkX12_isHere 27 2 (pc' := 35) (L' := [(2, .int (v2 + 1)), (0, .ref v0), (1, .ref v1)]) (S' := []) rfl ?_
      exact zco_sub [1, 2, 0] rfl (hr35 (v2 + 1))
set_option maxHeartbeats 2000000 in
set_option maxRecDepth 20000 in
theorem coX12_isHere (l : Launch) (e : Nat) (he : 1 ≤ e) (v0 : Nat) (v1 : Nat) : zCo l (e + 1) 0 0 iX12_isHere 0 [(0, .ref v0), (1, .ref v1)] [] (X12_isHere v0 v1) := by
  unfold X12_isHere
  refine zco_p tkX12_isHere 0 1 (pc' := 1) (L' := [(0, .ref v0), (1, .ref v1)]) (S' := [.ref v0]) rfl ?_
  refine zco_gi fl_12_270 rfl (zdk (cc := cX12_isHere) (q := (1, .getfield 270, 3)) tkX12_isHere 1 rfl) (fun x1 => ?_)
  refine zco_if_ne (tgt := 28) (zdk (cc := cX12_isHere) (q := (4, .ifCond .ne 24, 3)) tkX12_isHere 2 rfl) rfl ?_ ?_
  · refine zco_p tkX12_isHere 12 1 (pc' := 29) (L' := [(0, .ref v0), (1, .ref v1)]) (S' := [.int 0]) rfl ?_
    exact zco_zret rfl rfl rfl (zdk (cc := cX12_isHere) (q := (29, .ireturn, 1)) tkX12_isHere 13 rfl)
  · refine zco_p tkX12_isHere 3 1 (pc' := 8) (L' := [(0, .ref v0), (1, .ref v1)]) (S' := [.ref v0]) rfl ?_
    refine zco_Vi (rc := 0) (rs := 0) (mc := 0) (ms := 0) (As := []) (S := []) vmX12_look (mtX12_look l e (by omega) v0) q_1751 rfl rfl (Nat.le_of_ble_eq_true rfl) (zdk (cc := cX12_isHere) (q := (8, .invokevirtual 282, 3)) tkX12_isHere 4 rfl) (fun y2 => ?_)
    refine zco_Si (rc := 0) (rs := 0) (mc := 0) (ms := 0) (As := [.int y2]) (S := []) vmX12_isLetter (mtX12_isLetter l e (by omega) y2) q_1771 rfl rfl (Nat.le_of_ble_eq_true rfl) (zdk (cc := cX12_isHere) (q := (11, .invokestatic 286, 3)) tkX12_isHere 5 rfl) (fun y3 => ?_)
    refine zco_if_eq (tgt := 28) (zdk (cc := cX12_isHere) (q := (14, .ifCond .eq 14, 3)) tkX12_isHere 6 rfl) rfl ?_ ?_
    · refine zco_p tkX12_isHere 12 1 (pc' := 29) (L' := [(0, .ref v0), (1, .ref v1)]) (S' := [.int 0]) rfl ?_
      exact zco_zret rfl rfl rfl (zdk (cc := cX12_isHere) (q := (29, .ireturn, 1)) tkX12_isHere 13 rfl)
    · refine zco_p tkX12_isHere 7 1 (pc' := 18) (L' := [(0, .ref v0), (1, .ref v1)]) (S' := [.ref v0]) rfl ?_
      refine zco_gi fl_12_276 rfl (zdk (cc := cX12_isHere) (q := (18, .getfield 276, 3)) tkX12_isHere 8 rfl) (fun x4 => ?_)
      refine zco_p tkX12_isHere 9 1 (pc' := 22) (L' := [(0, .ref v0), (1, .ref v1)]) (S' := [.ref v0, .int x4]) rfl ?_
      refine zco_gi fl_12_290 rfl (zdk (cc := cX12_isHere) (q := (22, .getfield 290, 3)) tkX12_isHere 10 rfl) (fun x5 => ?_)
      refine zco_icmp_ne (tgt := 30) (zdk (cc := cX12_isHere) (q := (25, .if_icmp .ne 5, 3)) tkX12_isHere 11 rfl) rfl ?_ ?_
      · refine zco_p tkX12_isHere 14 1 (pc' := 31) (L' := [(0, .ref v0), (1, .ref v1)]) (S' := [.ref v0]) rfl ?_
        refine zco_gi fl_12_276 rfl (zdk (cc := cX12_isHere) (q := (31, .getfield 276, 3)) tkX12_isHere 15 rfl) (fun x6 => ?_)
        refine zco_p tkX12_isHere 16 1 (pc' := 35) (L' := [(2, .int x6), (0, .ref v0), (1, .ref v1)]) (S' := []) rfl ?_
        exact zco_sub [1, 2, 0] rfl (zco_fix (Lf := fun x : Int32 => [(0, .ref v0), (1, .ref v1), (2, .int x)]) (Sf := fun _ => []) (fun r hr x => coX12_isHere_B35 l e he v0 v1 r hr x) zFU x6)
      · refine zco_p tkX12_isHere 12 1 (pc' := 29) (L' := [(0, .ref v0), (1, .ref v1)]) (S' := [.int 0]) rfl ?_
        exact zco_zret rfl rfl rfl (zdk (cc := cX12_isHere) (q := (29, .ireturn, 1)) tkX12_isHere 13 rfl)
theorem mtX12_isHere (l : Launch) (d : Nat) (hd : 2 ≤ d) (v0 : Nat) (v1 : Nat) : zMet l d 0 0 yX12_isHere cX12_isHere 4 (Option.some .boolean) [.ref v0, .ref v1] (X12_isHere v0 v1) := by
  obtain ⟨e, rfl⟩ : ∃ e, d = e + 1 := ⟨d - 1, by omega⟩
  exact zmet_of (own := RX12) (ini := false) (by decide +kernel) rfl (fun _ => by contradiction) (Nat.le_of_ble_eq_true rfl) (coX12_isHere l e (by omega) v0 v1)
abbrev iX12_takes : zI := (RX12, cX12_takes, 2, (Option.some .boolean), false)
def tX12_takes : List (Nat × Instr × Nat) := [(0, .aload_n 0, 1), (1, .aload_n 1, 1), (2, .invokevirtual 293, 3), (5, .ifCond .ne 5, 3), (8, .iconst 0, 1), (9, .ireturn, 1), (10, .aload_n 0, 1), (11, .dup, 1), (12, .getfield 276, 3), (15, .aload_n 1, 1), (16, .arraylength, 1), (17, .iadd, 1), (18, .putfield 276, 3), (21, .aload_n 0, 1), (22, .aload_n 0, 1), (23, .getfield 276, 3), (26, .putfield 290, 3), (29, .iconst 1, 1), (30, .ireturn, 1)]
set_option maxRecDepth 100000 in
theorem tkX12_takes : ∀ q ∈ tX12_takes, decode cX12_takes q.1 = .ok q.2 := by decide +kernel
theorem vmX12_takes : zVM yX12_takes cX12_takes 2 (Option.some .boolean) 1 12 := ⟨kX12_takes, q_1765, q_50, q_162, ⟨_, rfl, rfl⟩, by decide +kernel, by decide⟩
set_option maxHeartbeats 2000000 in
set_option maxRecDepth 20000 in
theorem coX12_takes (l : Launch) (e : Nat) (he : 2 ≤ e) (v0 : Nat) (v1 : Nat) : zCo l (e + 1) 0 0 iX12_takes 0 [(0, .ref v0), (1, .ref v1)] [] (X12_takes v0 v1) := by
  unfold X12_takes
  refine zco_p tkX12_takes 0 2 (pc' := 2) (L' := [(0, .ref v0), (1, .ref v1)]) (S' := [.ref v1, .ref v0]) rfl ?_
  refine zco_Vi (rc := 0) (rs := 0) (mc := 0) (ms := 0) (As := [.ref v1]) (S := []) vmX12_isHere (mtX12_isHere l e (by omega) v0 v1) q_1767 rfl rfl (Nat.le_of_ble_eq_true rfl) (zdk (cc := cX12_takes) (q := (2, .invokevirtual 293, 3)) tkX12_takes 2 rfl) (fun y1 => ?_)
  refine zco_if_ne (tgt := 10) (zdk (cc := cX12_takes) (q := (5, .ifCond .ne 5, 3)) tkX12_takes 3 rfl) rfl ?_ ?_
  · refine zco_p tkX12_takes 6 2 (pc' := 12) (L' := [(0, .ref v0), (1, .ref v1)]) (S' := [.ref v0, .ref v0]) rfl ?_
    refine zco_gi fl_12_276 rfl (zdk (cc := cX12_takes) (q := (12, .getfield 276, 3)) tkX12_takes 8 rfl) (fun x2 => ?_)
    refine zco_p tkX12_takes 9 1 (pc' := 16) (L' := [(0, .ref v0), (1, .ref v1)]) (S' := [.ref v1, .int x2, .ref v0]) rfl ?_
    refine zco_alen (zdk (cc := cX12_takes) (q := (16, .arraylength, 1)) tkX12_takes 10 rfl) (fun x3 => ?_)
    refine zco_p tkX12_takes 11 1 (pc' := 18) (L' := [(0, .ref v0), (1, .ref v1)]) (S' := [.int (x2 + x3), .ref v0]) rfl ?_
    refine zco_pi fl_12_276 rfl rfl (zdk (cc := cX12_takes) (q := (18, .putfield 276, 3)) tkX12_takes 12 rfl) ?_
    refine zco_p tkX12_takes 13 2 (pc' := 23) (L' := [(0, .ref v0), (1, .ref v1)]) (S' := [.ref v0, .ref v0]) rfl ?_
    refine zco_gi fl_12_276 rfl (zdk (cc := cX12_takes) (q := (23, .getfield 276, 3)) tkX12_takes 15 rfl) (fun x4 => ?_)
    refine zco_pi fl_12_290 rfl rfl (zdk (cc := cX12_takes) (q := (26, .putfield 290, 3)) tkX12_takes 16 rfl) ?_
    refine zco_p tkX12_takes 17 1 (pc' := 30) (L' := [(0, .ref v0), (1, .ref v1)]) (S' := [.int 1]) rfl ?_
    exact zco_zret rfl rfl rfl (zdk (cc := cX12_takes) (q := (30, .ireturn, 1)) tkX12_takes 18 rfl)
  · refine zco_p tkX12_takes 4 1 (pc' := 9) (L' := [(0, .ref v0), (1, .ref v1)]) (S' := [.int 0]) rfl ?_
    exact zco_zret rfl rfl rfl (zdk (cc := cX12_takes) (q := (9, .ireturn, 1)) tkX12_takes 5 rfl)
theorem mtX12_takes (l : Launch) (d : Nat) (hd : 3 ≤ d) (v0 : Nat) (v1 : Nat) : zMet l d 0 0 yX12_takes cX12_takes 2 (Option.some .boolean) [.ref v0, .ref v1] (X12_takes v0 v1) := by
  obtain ⟨e, rfl⟩ : ∃ e, d = e + 1 := ⟨d - 1, by omega⟩
  exact zmet_of (own := RX12) (ini := false) (by decide +kernel) rfl (fun _ => by contradiction) (Nat.le_of_ble_eq_true rfl) (coX12_takes l e (by omega) v0 v1)
abbrev iX12_asks : zI := (RX12, cX12_asks, 2, (Option.none : Option FieldType), false)
def tX12_asks : List (Nat × Instr × Nat) := [(0, .aload_n 0, 1), (1, .getfield 270, 3), (4, .ifCond .ne 20, 3), (7, .aload_n 0, 1), (8, .aload_n 1, 1), (9, .invokevirtual 297, 3), (12, .ifCond .ne 12, 3), (15, .aload_n 0, 1), (16, .iconst 1, 1), (17, .aload_n 0, 1), (18, .getfield 276, 3), (21, .invokevirtual 300, 3), (24, .return_, 1)]
set_option maxRecDepth 100000 in
theorem tkX12_asks : ∀ q ∈ tX12_asks, decode cX12_asks q.1 = .ok q.2 := by decide +kernel
theorem vmX12_asks : zVM yX12_asks cX12_asks 2 (Option.none : Option FieldType) 1 12 := ⟨kX12_asks, q_1790, q_55, q_162, ⟨_, rfl, rfl⟩, by decide +kernel, by decide⟩
set_option maxHeartbeats 2000000 in
set_option maxRecDepth 20000 in
theorem coX12_asks (l : Launch) (e : Nat) (he : 3 ≤ e) (v0 : Nat) (v1 : Nat) : zCo l (e + 1) 0 0 iX12_asks 0 [(0, .ref v0), (1, .ref v1)] [] (X12_asks v0 v1) := by
  unfold X12_asks
  refine zco_p tkX12_asks 0 1 (pc' := 1) (L' := [(0, .ref v0), (1, .ref v1)]) (S' := [.ref v0]) rfl ?_
  refine zco_gi fl_12_270 rfl (zdk (cc := cX12_asks) (q := (1, .getfield 270, 3)) tkX12_asks 1 rfl) (fun x1 => ?_)
  refine zco_if_ne (tgt := 24) (zdk (cc := cX12_asks) (q := (4, .ifCond .ne 20, 3)) tkX12_asks 2 rfl) rfl ?_ ?_
  · exact zco_vret rfl rfl rfl (zdk (cc := cX12_asks) (q := (24, .return_, 1)) tkX12_asks 12 rfl)
  · refine zco_p tkX12_asks 3 2 (pc' := 9) (L' := [(0, .ref v0), (1, .ref v1)]) (S' := [.ref v1, .ref v0]) rfl ?_
    refine zco_Vi (rc := 0) (rs := 0) (mc := 0) (ms := 0) (As := [.ref v1]) (S := []) vmX12_takes (mtX12_takes l e (by omega) v0 v1) q_1763 rfl rfl (Nat.le_of_ble_eq_true rfl) (zdk (cc := cX12_asks) (q := (9, .invokevirtual 297, 3)) tkX12_asks 5 rfl) (fun y2 => ?_)
    refine zco_if_ne (tgt := 24) (zdk (cc := cX12_asks) (q := (12, .ifCond .ne 12, 3)) tkX12_asks 6 rfl) rfl ?_ ?_
    · exact zco_vret rfl rfl rfl (zdk (cc := cX12_asks) (q := (24, .return_, 1)) tkX12_asks 12 rfl)
    · refine zco_p tkX12_asks 7 3 (pc' := 18) (L' := [(0, .ref v0), (1, .ref v1)]) (S' := [.ref v0, .int 1, .ref v0]) rfl ?_
      refine zco_gi fl_12_276 rfl (zdk (cc := cX12_asks) (q := (18, .getfield 276, 3)) tkX12_asks 10 rfl) (fun x3 => ?_)
      refine zco_Vv (rc := 0) (rs := 0) (mc := 0) (ms := 0) (As := [.int 1, .int x3]) (S := []) vmX12_fail (mtX12_fail l e (by omega) v0 1 x3) q_1759 rfl rfl (Nat.le_of_ble_eq_true rfl) (zdk (cc := cX12_asks) (q := (21, .invokevirtual 300, 3)) tkX12_asks 11 rfl) ?_
      exact zco_vret rfl rfl rfl (zdk (cc := cX12_asks) (q := (24, .return_, 1)) tkX12_asks 12 rfl)
theorem mtX12_asks (l : Launch) (d : Nat) (hd : 4 ≤ d) (v0 : Nat) (v1 : Nat) : zMet l d 0 0 yX12_asks cX12_asks 2 (Option.none : Option FieldType) [.ref v0, .ref v1] (X12_asks v0 v1) := by
  obtain ⟨e, rfl⟩ : ∃ e, d = e + 1 := ⟨d - 1, by omega⟩
  exact zmet_of (own := RX12) (ini := false) (by decide +kernel) rfl (fun _ => by contradiction) (Nat.le_of_ble_eq_true rfl) (coX12_asks l e (by omega) v0 v1)
abbrev iX12_takesSign : zI := (RX12, cX12_takesSign, 2, (Option.some .boolean), false)
def tX12_takesSign : List (Nat × Instr × Nat) := [(0, .aload_n 0, 1), (1, .getfield 270, 3), (4, .ifCond .ne 11, 3), (7, .aload_n 0, 1), (8, .invokevirtual 282, 3), (11, .iload_n 1, 1), (12, .if_icmp .eq 5, 3), (15, .iconst 0, 1), (16, .ireturn, 1), (17, .aload_n 0, 1), (18, .dup, 1), (19, .getfield 276, 3), (22, .iconst 1, 1), (23, .iadd, 1), (24, .putfield 276, 3), (27, .iconst 1, 1), (28, .ireturn, 1)]
set_option maxRecDepth 100000 in
theorem tkX12_takesSign : ∀ q ∈ tX12_takesSign, decode cX12_takesSign q.1 = .ok q.2 := by decide +kernel
theorem vmX12_takesSign : zVM yX12_takesSign cX12_takesSign 2 (Option.some .boolean) 1 12 := ⟨kX12_takesSign, q_1863, q_71, q_162, ⟨_, rfl, rfl⟩, by decide +kernel, by decide⟩
set_option maxHeartbeats 2000000 in
set_option maxRecDepth 20000 in
theorem coX12_takesSign (l : Launch) (e : Nat) (he : 1 ≤ e) (v0 : Nat) (v1 : Int32) : zCo l (e + 1) 0 0 iX12_takesSign 0 [(0, .ref v0), (1, .int v1)] [] (X12_takesSign v0 v1) := by
  unfold X12_takesSign
  refine zco_p tkX12_takesSign 0 1 (pc' := 1) (L' := [(0, .ref v0), (1, .int v1)]) (S' := [.ref v0]) rfl ?_
  refine zco_gi fl_12_270 rfl (zdk (cc := cX12_takesSign) (q := (1, .getfield 270, 3)) tkX12_takesSign 1 rfl) (fun x1 => ?_)
  refine zco_if_ne (tgt := 15) (zdk (cc := cX12_takesSign) (q := (4, .ifCond .ne 11, 3)) tkX12_takesSign 2 rfl) rfl ?_ ?_
  · refine zco_p tkX12_takesSign 7 1 (pc' := 16) (L' := [(0, .ref v0), (1, .int v1)]) (S' := [.int 0]) rfl ?_
    exact zco_zret rfl rfl rfl (zdk (cc := cX12_takesSign) (q := (16, .ireturn, 1)) tkX12_takesSign 8 rfl)
  · refine zco_p tkX12_takesSign 3 1 (pc' := 8) (L' := [(0, .ref v0), (1, .int v1)]) (S' := [.ref v0]) rfl ?_
    refine zco_Vi (rc := 0) (rs := 0) (mc := 0) (ms := 0) (As := []) (S := []) vmX12_look (mtX12_look l e (by omega) v0) q_1751 rfl rfl (Nat.le_of_ble_eq_true rfl) (zdk (cc := cX12_takesSign) (q := (8, .invokevirtual 282, 3)) tkX12_takesSign 4 rfl) (fun y2 => ?_)
    refine zco_p tkX12_takesSign 5 1 (pc' := 12) (L' := [(0, .ref v0), (1, .int v1)]) (S' := [.int v1, .int y2]) rfl ?_
    refine zco_icmp_eq (tgt := 17) (zdk (cc := cX12_takesSign) (q := (12, .if_icmp .eq 5, 3)) tkX12_takesSign 6 rfl) rfl ?_ ?_
    · refine zco_p tkX12_takesSign 9 2 (pc' := 19) (L' := [(0, .ref v0), (1, .int v1)]) (S' := [.ref v0, .ref v0]) rfl ?_
      refine zco_gi fl_12_276 rfl (zdk (cc := cX12_takesSign) (q := (19, .getfield 276, 3)) tkX12_takesSign 11 rfl) (fun x3 => ?_)
      refine zco_p tkX12_takesSign 12 2 (pc' := 24) (L' := [(0, .ref v0), (1, .int v1)]) (S' := [.int (x3 + 1), .ref v0]) rfl ?_
      refine zco_pi fl_12_276 rfl rfl (zdk (cc := cX12_takesSign) (q := (24, .putfield 276, 3)) tkX12_takesSign 14 rfl) ?_
      refine zco_p tkX12_takesSign 15 1 (pc' := 28) (L' := [(0, .ref v0), (1, .int v1)]) (S' := [.int 1]) rfl ?_
      exact zco_zret rfl rfl rfl (zdk (cc := cX12_takesSign) (q := (28, .ireturn, 1)) tkX12_takesSign 16 rfl)
    · refine zco_p tkX12_takesSign 7 1 (pc' := 16) (L' := [(0, .ref v0), (1, .int v1)]) (S' := [.int 0]) rfl ?_
      exact zco_zret rfl rfl rfl (zdk (cc := cX12_takesSign) (q := (16, .ireturn, 1)) tkX12_takesSign 8 rfl)
theorem mtX12_takesSign (l : Launch) (d : Nat) (hd : 2 ≤ d) (v0 : Nat) (v1 : Int32) : zMet l d 0 0 yX12_takesSign cX12_takesSign 2 (Option.some .boolean) [.ref v0, .int v1] (X12_takesSign v0 v1) := by
  obtain ⟨e, rfl⟩ : ∃ e, d = e + 1 := ⟨d - 1, by omega⟩
  exact zmet_of (own := RX12) (ini := false) (by decide +kernel) rfl (fun _ => by contradiction) (Nat.le_of_ble_eq_true rfl) (coX12_takesSign l e (by omega) v0 v1)
abbrev iX12_asksSign : zI := (RX12, cX12_asksSign, 2, (Option.none : Option FieldType), false)
def tX12_asksSign : List (Nat × Instr × Nat) := [(0, .aload_n 0, 1), (1, .getfield 270, 3), (4, .ifCond .ne 20, 3), (7, .aload_n 0, 1), (8, .iload_n 1, 1), (9, .invokevirtual 304, 3), (12, .ifCond .ne 12, 3), (15, .aload_n 0, 1), (16, .iconst 1, 1), (17, .aload_n 0, 1), (18, .getfield 276, 3), (21, .invokevirtual 300, 3), (24, .return_, 1)]
set_option maxRecDepth 100000 in
theorem tkX12_asksSign : ∀ q ∈ tX12_asksSign, decode cX12_asksSign q.1 = .ok q.2 := by decide +kernel
theorem vmX12_asksSign : zVM yX12_asksSign cX12_asksSign 2 (Option.none : Option FieldType) 1 12 := ⟨kX12_asksSign, q_1859, q_70, q_162, ⟨_, rfl, rfl⟩, by decide +kernel, by decide⟩
set_option maxHeartbeats 2000000 in
set_option maxRecDepth 20000 in
theorem coX12_asksSign (l : Launch) (e : Nat) (he : 2 ≤ e) (v0 : Nat) (v1 : Int32) : zCo l (e + 1) 0 0 iX12_asksSign 0 [(0, .ref v0), (1, .int v1)] [] (X12_asksSign v0 v1) := by
  unfold X12_asksSign
  refine zco_p tkX12_asksSign 0 1 (pc' := 1) (L' := [(0, .ref v0), (1, .int v1)]) (S' := [.ref v0]) rfl ?_
  refine zco_gi fl_12_270 rfl (zdk (cc := cX12_asksSign) (q := (1, .getfield 270, 3)) tkX12_asksSign 1 rfl) (fun x1 => ?_)
  refine zco_if_ne (tgt := 24) (zdk (cc := cX12_asksSign) (q := (4, .ifCond .ne 20, 3)) tkX12_asksSign 2 rfl) rfl ?_ ?_
  · exact zco_vret rfl rfl rfl (zdk (cc := cX12_asksSign) (q := (24, .return_, 1)) tkX12_asksSign 12 rfl)
  · refine zco_p tkX12_asksSign 3 2 (pc' := 9) (L' := [(0, .ref v0), (1, .int v1)]) (S' := [.int v1, .ref v0]) rfl ?_
    refine zco_Vi (rc := 0) (rs := 0) (mc := 0) (ms := 0) (As := [.int v1]) (S := []) vmX12_takesSign (mtX12_takesSign l e (by omega) v0 v1) q_1861 rfl rfl (Nat.le_of_ble_eq_true rfl) (zdk (cc := cX12_asksSign) (q := (9, .invokevirtual 304, 3)) tkX12_asksSign 5 rfl) (fun y2 => ?_)
    refine zco_if_ne (tgt := 24) (zdk (cc := cX12_asksSign) (q := (12, .ifCond .ne 12, 3)) tkX12_asksSign 6 rfl) rfl ?_ ?_
    · exact zco_vret rfl rfl rfl (zdk (cc := cX12_asksSign) (q := (24, .return_, 1)) tkX12_asksSign 12 rfl)
    · refine zco_p tkX12_asksSign 7 3 (pc' := 18) (L' := [(0, .ref v0), (1, .int v1)]) (S' := [.ref v0, .int 1, .ref v0]) rfl ?_
      refine zco_gi fl_12_276 rfl (zdk (cc := cX12_asksSign) (q := (18, .getfield 276, 3)) tkX12_asksSign 10 rfl) (fun x3 => ?_)
      refine zco_Vv (rc := 0) (rs := 0) (mc := 0) (ms := 0) (As := [.int 1, .int x3]) (S := []) vmX12_fail (mtX12_fail l e (by omega) v0 1 x3) q_1759 rfl rfl (Nat.le_of_ble_eq_true rfl) (zdk (cc := cX12_asksSign) (q := (21, .invokevirtual 300, 3)) tkX12_asksSign 11 rfl) ?_
      exact zco_vret rfl rfl rfl (zdk (cc := cX12_asksSign) (q := (24, .return_, 1)) tkX12_asksSign 12 rfl)
theorem mtX12_asksSign (l : Launch) (d : Nat) (hd : 3 ≤ d) (v0 : Nat) (v1 : Int32) : zMet l d 0 0 yX12_asksSign cX12_asksSign 2 (Option.none : Option FieldType) [.ref v0, .int v1] (X12_asksSign v0 v1) := by
  obtain ⟨e, rfl⟩ : ∃ e, d = e + 1 := ⟨d - 1, by omega⟩
  exact zmet_of (own := RX12) (ini := false) (by decide +kernel) rfl (fun _ => by contradiction) (Nat.le_of_ble_eq_true rfl) (coX12_asksSign l e (by omega) v0 v1)
abbrev iX12_number : zI := (RX12, cX12_number, 5, (Option.some .int), false)
def tX12_number : List (Nat × Instr × Nat) := [(0, .aload_n 0, 1), (1, .getfield 270, 3), (4, .ifCond .eq 5, 3), (7, .iconst 0, 1), (8, .ireturn, 1), (9, .aload_n 0, 1), (10, .invokevirtual 282, 3), (13, .invokestatic 307, 3), (16, .ifCond .eq 14, 3), (19, .aload_n 0, 1), (20, .getfield 276, 3), (23, .aload_n 0, 1), (24, .getfield 290, 3), (27, .if_icmp .ne 14, 3), (30, .aload_n 0, 1), (31, .iconst 1, 1), (32, .aload_n 0, 1), (33, .getfield 276, 3), (36, .invokevirtual 300, 3), (39, .iconst 0, 1), (40, .ireturn, 1), (41, .aload_n 0, 1), (42, .getfield 276, 3), (45, .istore_n 3, 1), (46, .iconst 0, 1), (47, .istore 4, 2), (49, .aload_n 0, 1), (50, .getfield 276, 3), (53, .aload_n 0, 1), (54, .getfield 279, 3), (57, .if_icmp .ge 72, 3), (60, .aload_n 0, 1), (61, .getfield 7, 3), (64, .aload_n 0, 1), (65, .getfield 276, 3), (68, .iaload, 1), (69, .invokestatic 307, 3), (72, .ifCond .eq 57, 3), (75, .aload_n 0, 1), (76, .getfield 276, 3), (79, .iload_n 3, 1), (80, .isub, 1), (81, .iconst 4, 1), (82, .if_icmp .ne 14, 3), (85, .aload_n 0, 1), (86, .iconst 1, 1), (87, .aload_n 0, 1), (88, .getfield 276, 3), (91, .invokevirtual 300, 3), (94, .iconst 0, 1), (95, .ireturn, 1), (96, .bipush 10, 2), (98, .iload 4, 2), (100, .imul, 1), (101, .aload_n 0, 1), (102, .getfield 7, 3), (105, .aload_n 0, 1), (106, .getfield 276, 3), (109, .iaload, 1), (110, .iadd, 1), (111, .bipush 48, 2), (113, .isub, 1), (114, .istore 4, 2), (116, .aload_n 0, 1), (117, .dup, 1), (118, .getfield 276, 3), (121, .iconst 1, 1), (122, .iadd, 1), (123, .putfield 276, 3), (126, .goto (-77), 3), (129, .aload_n 0, 1), (130, .aload_n 0, 1), (131, .getfield 276, 3), (134, .putfield 290, 3), (137, .aload_n 0, 1), (138, .iload_n 3, 1), (139, .putfield 310, 3), (142, .iload 4, 2), (144, .i2l, 1), (145, .iload_n 1, 1), (146, .i2l, 1), (147, .iload_n 2, 1), (148, .i2l, 1), (149, .invokestatic 313, 3), (152, .ifCond .ne 12, 3), (155, .aload_n 0, 1), (156, .iconst 2, 1), (157, .aload_n 0, 1), (158, .getfield 310, 3), (161, .invokevirtual 300, 3), (164, .iload 4, 2), (166, .ireturn, 1)]
set_option maxRecDepth 100000 in
theorem tkX12_number : ∀ q ∈ tX12_number, decode cX12_number q.1 = .ok q.2 := by decide +kernel
theorem vmX12_number : zVM yX12_number cX12_number 5 (Option.some .int) 2 12 := ⟨kX12_number, q_1794, q_56, q_162, ⟨_, rfl, rfl⟩, by decide +kernel, by decide⟩
set_option maxHeartbeats 2000000 in
set_option maxRecDepth 20000 in
theorem coX12_number_J129 (l : Launch) (e : Nat) (he : 1 ≤ e) (v0 : Nat) (v1 : Int32) (v2 : Int32) (v3 : Int32) (v4 : Int32) : zCo l (e + 1) 0 0 iX12_number 129 [(0, .ref v0), (1, .int v1), (2, .int v2), (3, .int v3), (4, .int v4)] [] (X12_number_J129 v0 v1 v2 v3 v4) := by
  unfold X12_number_J129
  refine zco_p tkX12_number 70 2 (pc' := 131) (L' := [(0, .ref v0), (1, .int v1), (2, .int v2), (3, .int v3), (4, .int v4)]) (S' := [.ref v0, .ref v0]) rfl ?_
  refine zco_gi fl_12_276 rfl (zdk (cc := cX12_number) (q := (131, .getfield 276, 3)) tkX12_number 72 rfl) (fun x1 => ?_)
  refine zco_pi fl_12_290 rfl rfl (zdk (cc := cX12_number) (q := (134, .putfield 290, 3)) tkX12_number 73 rfl) ?_
  refine zco_p tkX12_number 74 2 (pc' := 139) (L' := [(0, .ref v0), (1, .int v1), (2, .int v2), (3, .int v3), (4, .int v4)]) (S' := [.int v3, .ref v0]) rfl ?_
  refine zco_pi fl_12_310 rfl rfl (zdk (cc := cX12_number) (q := (139, .putfield 310, 3)) tkX12_number 76 rfl) ?_
  refine zco_p tkX12_number 77 6 (pc' := 149) (L' := [(0, .ref v0), (1, .int v1), (2, .int v2), (3, .int v3), (4, .int v4)]) (S' := [.long v2.toInt64, .long v1.toInt64, .long v4.toInt64]) rfl ?_
  refine zco_Si (rc := 0) (rs := 0) (mc := 0) (ms := 0) (As := [.long v4.toInt64, .long v1.toInt64, .long v2.toInt64]) (S := []) vmX12_isIn (mtX12_isIn l e (by omega) v4.toInt64 v1.toInt64 v2.toInt64) q_1799 rfl rfl (Nat.le_of_ble_eq_true rfl) (zdk (cc := cX12_number) (q := (149, .invokestatic 313, 3)) tkX12_number 83 rfl) (fun y2 => ?_)
  refine zco_if_ne (tgt := 164) (zdk (cc := cX12_number) (q := (152, .ifCond .ne 12, 3)) tkX12_number 84 rfl) rfl ?_ ?_
  · refine zco_p tkX12_number 90 1 (pc' := 166) (L' := [(0, .ref v0), (1, .int v1), (2, .int v2), (3, .int v3), (4, .int v4)]) (S' := [.int v4]) rfl ?_
    exact zco_iret rfl rfl rfl (zdk (cc := cX12_number) (q := (166, .ireturn, 1)) tkX12_number 91 rfl)
  · refine zco_p tkX12_number 85 3 (pc' := 158) (L' := [(0, .ref v0), (1, .int v1), (2, .int v2), (3, .int v3), (4, .int v4)]) (S' := [.ref v0, .int 2, .ref v0]) rfl ?_
    refine zco_gi fl_12_310 rfl (zdk (cc := cX12_number) (q := (158, .getfield 310, 3)) tkX12_number 88 rfl) (fun x3 => ?_)
    refine zco_Vv (rc := 0) (rs := 0) (mc := 0) (ms := 0) (As := [.int 2, .int x3]) (S := []) vmX12_fail (mtX12_fail l e (by omega) v0 2 x3) q_1759 rfl rfl (Nat.le_of_ble_eq_true rfl) (zdk (cc := cX12_number) (q := (161, .invokevirtual 300, 3)) tkX12_number 89 rfl) ?_
    refine zco_p tkX12_number 90 1 (pc' := 166) (L' := [(0, .ref v0), (1, .int v1), (2, .int v2), (3, .int v3), (4, .int v4)]) (S' := [.int v4]) rfl ?_
    exact zco_iret rfl rfl rfl (zdk (cc := cX12_number) (q := (166, .ireturn, 1)) tkX12_number 91 rfl)
set_option maxHeartbeats 2000000 in
set_option maxRecDepth 20000 in
theorem coX12_number_J85 (l : Launch) (e : Nat) (he : 1 ≤ e) (v0 : Nat) : zCo l (e + 1) 0 0 iX12_number 85 [(0, .ref v0)] [] (X12_number_J85 v0) := by
  unfold X12_number_J85
  refine zco_p tkX12_number 44 3 (pc' := 88) (L' := [(0, .ref v0)]) (S' := [.ref v0, .int 1, .ref v0]) rfl ?_
  refine zco_gi fl_12_276 rfl (zdk (cc := cX12_number) (q := (88, .getfield 276, 3)) tkX12_number 47 rfl) (fun x1 => ?_)
  refine zco_Vv (rc := 0) (rs := 0) (mc := 0) (ms := 0) (As := [.int 1, .int x1]) (S := []) vmX12_fail (mtX12_fail l e (by omega) v0 1 x1) q_1759 rfl rfl (Nat.le_of_ble_eq_true rfl) (zdk (cc := cX12_number) (q := (91, .invokevirtual 300, 3)) tkX12_number 48 rfl) ?_
  refine zco_p tkX12_number 49 1 (pc' := 95) (L' := [(0, .ref v0)]) (S' := [.int 0]) rfl ?_
  exact zco_iret rfl rfl rfl (zdk (cc := cX12_number) (q := (95, .ireturn, 1)) tkX12_number 50 rfl)
set_option maxHeartbeats 2000000 in
set_option maxRecDepth 20000 in
theorem coX12_number_B49 (l : Launch) (e : Nat) (he : 1 ≤ e) (v0 : Nat) (v1 : Int32) (v2 : Int32) (v3 : Int32) (r49 : Int32 → zM) (hr49 : ∀ x : Int32, zCo l (e + 1) 0 0 iX12_number 49 [(0, .ref v0), (1, .int v1), (2, .int v2), (3, .int v3), (4, .int x)] [] (r49 x)) (v4 : Int32) : zCo l (e + 1) 0 0 iX12_number 49 [(0, .ref v0), (1, .int v1), (2, .int v2), (3, .int v3), (4, .int v4)] [] (X12_number_B49 v0 v1 v2 v3 r49 v4) := by
  unfold X12_number_B49
  refine zco_p tkX12_number 26 1 (pc' := 50) (L' := [(0, .ref v0), (1, .int v1), (2, .int v2), (3, .int v3), (4, .int v4)]) (S' := [.ref v0]) rfl ?_
  refine zco_gi fl_12_276 rfl (zdk (cc := cX12_number) (q := (50, .getfield 276, 3)) tkX12_number 27 rfl) (fun x1 => ?_)
  refine zco_p tkX12_number 28 1 (pc' := 54) (L' := [(0, .ref v0), (1, .int v1), (2, .int v2), (3, .int v3), (4, .int v4)]) (S' := [.ref v0, .int x1]) rfl ?_
  refine zco_gi fl_12_279 rfl (zdk (cc := cX12_number) (q := (54, .getfield 279, 3)) tkX12_number 29 rfl) (fun x2 => ?_)
  refine zco_icmp_ge (tgt := 129) (zdk (cc := cX12_number) (q := (57, .if_icmp .ge 72, 3)) tkX12_number 30 rfl) rfl ?_ ?_
  · exact zco_sub [0, 1, 2, 3, 4] rfl (coX12_number_J129 l e he v0 v1 v2 v3 v4)
  · refine zco_p tkX12_number 31 1 (pc' := 61) (L' := [(0, .ref v0), (1, .int v1), (2, .int v2), (3, .int v3), (4, .int v4)]) (S' := [.ref v0]) rfl ?_
    refine zco_gr fl_12_7 rfl (zdk (cc := cX12_number) (q := (61, .getfield 7, 3)) tkX12_number 32 rfl) (fun x3 => ?_)
    refine zco_p tkX12_number 33 1 (pc' := 65) (L' := [(0, .ref v0), (1, .int v1), (2, .int v2), (3, .int v3), (4, .int v4)]) (S' := [.ref v0, .ref x3]) rfl ?_
    refine zco_gi fl_12_276 rfl (zdk (cc := cX12_number) (q := (65, .getfield 276, 3)) tkX12_number 34 rfl) (fun x4 => ?_)
    refine zco_iaload (zdk (cc := cX12_number) (q := (68, .iaload, 1)) tkX12_number 35 rfl) (fun x5 => ?_)
    refine zco_Si (rc := 0) (rs := 0) (mc := 0) (ms := 0) (As := [.int x5]) (S := []) vmX12_isDigit (mtX12_isDigit l e (by omega) x5) q_1796 rfl rfl (Nat.le_of_ble_eq_true rfl) (zdk (cc := cX12_number) (q := (69, .invokestatic 307, 3)) tkX12_number 36 rfl) (fun y6 => ?_)
    refine zco_if_eq (tgt := 129) (zdk (cc := cX12_number) (q := (72, .ifCond .eq 57, 3)) tkX12_number 37 rfl) rfl ?_ ?_
    · exact zco_sub [0, 1, 2, 3, 4] rfl (coX12_number_J129 l e he v0 v1 v2 v3 v4)
    · refine zco_p tkX12_number 38 1 (pc' := 76) (L' := [(0, .ref v0), (1, .int v1), (2, .int v2), (3, .int v3), (4, .int v4)]) (S' := [.ref v0]) rfl ?_
      refine zco_gi fl_12_276 rfl (zdk (cc := cX12_number) (q := (76, .getfield 276, 3)) tkX12_number 39 rfl) (fun x7 => ?_)
      refine zco_p tkX12_number 40 3 (pc' := 82) (L' := [(0, .ref v0), (1, .int v1), (2, .int v2), (3, .int v3), (4, .int v4)]) (S' := [.int 4, .int (x7 - v3)]) rfl ?_
      refine zco_icmp_ne (tgt := 96) (zdk (cc := cX12_number) (q := (82, .if_icmp .ne 14, 3)) tkX12_number 43 rfl) rfl ?_ ?_
      · refine zco_p tkX12_number 51 4 (pc' := 102) (L' := [(0, .ref v0), (1, .int v1), (2, .int v2), (3, .int v3), (4, .int v4)]) (S' := [.ref v0, .int (10 * v4)]) rfl ?_
        refine zco_gr fl_12_7 rfl (zdk (cc := cX12_number) (q := (102, .getfield 7, 3)) tkX12_number 55 rfl) (fun x8 => ?_)
        refine zco_p tkX12_number 56 1 (pc' := 106) (L' := [(0, .ref v0), (1, .int v1), (2, .int v2), (3, .int v3), (4, .int v4)]) (S' := [.ref v0, .ref x8, .int (10 * v4)]) rfl ?_
        refine zco_gi fl_12_276 rfl (zdk (cc := cX12_number) (q := (106, .getfield 276, 3)) tkX12_number 57 rfl) (fun x9 => ?_)
        refine zco_iaload (zdk (cc := cX12_number) (q := (109, .iaload, 1)) tkX12_number 58 rfl) (fun x10 => ?_)
        refine zco_p tkX12_number 59 6 (pc' := 118) (L' := [(4, .int (((10 * v4) + x10) - 48)), (0, .ref v0), (1, .int v1), (2, .int v2), (3, .int v3)]) (S' := [.ref v0, .ref v0]) rfl ?_
        refine zco_gi fl_12_276 rfl (zdk (cc := cX12_number) (q := (118, .getfield 276, 3)) tkX12_number 65 rfl) (fun x11 => ?_)
        refine zco_p tkX12_number 66 2 (pc' := 123) (L' := [(4, .int (((10 * v4) + x10) - 48)), (0, .ref v0), (1, .int v1), (2, .int v2), (3, .int v3)]) (S' := [.int (x11 + 1), .ref v0]) rfl ?_
        refine zco_pi fl_12_276 rfl rfl (zdk (cc := cX12_number) (q := (123, .putfield 276, 3)) tkX12_number 68 rfl) ?_
        refine zco_p tkX12_number 69 1 (pc' := 49) (L' := [(4, .int (((10 * v4) + x10) - 48)), (0, .ref v0), (1, .int v1), (2, .int v2), (3, .int v3)]) (S' := []) rfl ?_
        exact zco_sub [1, 2, 3, 4, 0] rfl (hr49 (((10 * v4) + x10) - 48))
      · exact zco_sub [0] rfl (coX12_number_J85 l e he v0)
set_option maxHeartbeats 2000000 in
set_option maxRecDepth 20000 in
theorem coX12_number_J30 (l : Launch) (e : Nat) (he : 1 ≤ e) (v0 : Nat) : zCo l (e + 1) 0 0 iX12_number 30 [(0, .ref v0)] [] (X12_number_J30 v0) := by
  unfold X12_number_J30
  refine zco_p tkX12_number 14 3 (pc' := 33) (L' := [(0, .ref v0)]) (S' := [.ref v0, .int 1, .ref v0]) rfl ?_
  refine zco_gi fl_12_276 rfl (zdk (cc := cX12_number) (q := (33, .getfield 276, 3)) tkX12_number 17 rfl) (fun x1 => ?_)
  refine zco_Vv (rc := 0) (rs := 0) (mc := 0) (ms := 0) (As := [.int 1, .int x1]) (S := []) vmX12_fail (mtX12_fail l e (by omega) v0 1 x1) q_1759 rfl rfl (Nat.le_of_ble_eq_true rfl) (zdk (cc := cX12_number) (q := (36, .invokevirtual 300, 3)) tkX12_number 18 rfl) ?_
  refine zco_p tkX12_number 19 1 (pc' := 40) (L' := [(0, .ref v0)]) (S' := [.int 0]) rfl ?_
  exact zco_iret rfl rfl rfl (zdk (cc := cX12_number) (q := (40, .ireturn, 1)) tkX12_number 20 rfl)
set_option maxHeartbeats 2000000 in
set_option maxRecDepth 20000 in
theorem coX12_number (l : Launch) (e : Nat) (he : 1 ≤ e) (v0 : Nat) (v1 : Int32) (v2 : Int32) : zCo l (e + 1) 0 0 iX12_number 0 [(0, .ref v0), (1, .int v1), (2, .int v2)] [] (X12_number v0 v1 v2) := by
  unfold X12_number
  refine zco_p tkX12_number 0 1 (pc' := 1) (L' := [(0, .ref v0), (1, .int v1), (2, .int v2)]) (S' := [.ref v0]) rfl ?_
  refine zco_gi fl_12_270 rfl (zdk (cc := cX12_number) (q := (1, .getfield 270, 3)) tkX12_number 1 rfl) (fun x1 => ?_)
  refine zco_if_eq (tgt := 9) (zdk (cc := cX12_number) (q := (4, .ifCond .eq 5, 3)) tkX12_number 2 rfl) rfl ?_ ?_
  · refine zco_p tkX12_number 5 1 (pc' := 10) (L' := [(0, .ref v0), (1, .int v1), (2, .int v2)]) (S' := [.ref v0]) rfl ?_
    refine zco_Vi (rc := 0) (rs := 0) (mc := 0) (ms := 0) (As := []) (S := []) vmX12_look (mtX12_look l e (by omega) v0) q_1751 rfl rfl (Nat.le_of_ble_eq_true rfl) (zdk (cc := cX12_number) (q := (10, .invokevirtual 282, 3)) tkX12_number 6 rfl) (fun y2 => ?_)
    refine zco_Si (rc := 0) (rs := 0) (mc := 0) (ms := 0) (As := [.int y2]) (S := []) vmX12_isDigit (mtX12_isDigit l e (by omega) y2) q_1796 rfl rfl (Nat.le_of_ble_eq_true rfl) (zdk (cc := cX12_number) (q := (13, .invokestatic 307, 3)) tkX12_number 7 rfl) (fun y3 => ?_)
    refine zco_if_eq (tgt := 30) (zdk (cc := cX12_number) (q := (16, .ifCond .eq 14, 3)) tkX12_number 8 rfl) rfl ?_ ?_
    · exact zco_sub [0] rfl (coX12_number_J30 l e he v0)
    · refine zco_p tkX12_number 9 1 (pc' := 20) (L' := [(0, .ref v0), (1, .int v1), (2, .int v2)]) (S' := [.ref v0]) rfl ?_
      refine zco_gi fl_12_276 rfl (zdk (cc := cX12_number) (q := (20, .getfield 276, 3)) tkX12_number 10 rfl) (fun x4 => ?_)
      refine zco_p tkX12_number 11 1 (pc' := 24) (L' := [(0, .ref v0), (1, .int v1), (2, .int v2)]) (S' := [.ref v0, .int x4]) rfl ?_
      refine zco_gi fl_12_290 rfl (zdk (cc := cX12_number) (q := (24, .getfield 290, 3)) tkX12_number 12 rfl) (fun x5 => ?_)
      refine zco_icmp_ne (tgt := 41) (zdk (cc := cX12_number) (q := (27, .if_icmp .ne 14, 3)) tkX12_number 13 rfl) rfl ?_ ?_
      · refine zco_p tkX12_number 21 1 (pc' := 42) (L' := [(0, .ref v0), (1, .int v1), (2, .int v2)]) (S' := [.ref v0]) rfl ?_
        refine zco_gi fl_12_276 rfl (zdk (cc := cX12_number) (q := (42, .getfield 276, 3)) tkX12_number 22 rfl) (fun x6 => ?_)
        refine zco_p tkX12_number 23 3 (pc' := 49) (L' := [(4, .int 0), (3, .int x6), (0, .ref v0), (1, .int v1), (2, .int v2)]) (S' := []) rfl ?_
        exact zco_sub [2, 3, 4, 1, 0] rfl (zco_fix (Lf := fun x : Int32 => [(0, .ref v0), (1, .int v1), (2, .int v2), (3, .int x6), (4, .int x)]) (Sf := fun _ => []) (fun r hr x => coX12_number_B49 l e he v0 v1 v2 x6 r hr x) zFU 0)
      · exact zco_sub [0] rfl (coX12_number_J30 l e he v0)
  · refine zco_p tkX12_number 3 1 (pc' := 8) (L' := [(0, .ref v0), (1, .int v1), (2, .int v2)]) (S' := [.int 0]) rfl ?_
    exact zco_iret rfl rfl rfl (zdk (cc := cX12_number) (q := (8, .ireturn, 1)) tkX12_number 4 rfl)
theorem mtX12_number (l : Launch) (d : Nat) (hd : 2 ≤ d) (v0 : Nat) (v1 : Int32) (v2 : Int32) : zMet l d 0 0 yX12_number cX12_number 5 (Option.some .int) [.ref v0, .int v1, .int v2] (X12_number v0 v1 v2) := by
  obtain ⟨e, rfl⟩ : ∃ e, d = e + 1 := ⟨d - 1, by omega⟩
  exact zmet_of (own := RX12) (ini := false) (by decide +kernel) rfl (fun _ => by contradiction) (Nat.le_of_ble_eq_true rfl) (coX12_number l e (by omega) v0 v1 v2)
abbrev iX12_isOwnHere : zI := (RX12, cX12_isOwnHere, 2, (Option.some .boolean), false)
def tX12_isOwnHere_q0 : List (Nat × Instr × Nat) := [(0, .aload_n 0, 1), (1, .aload_n 0, 1), (2, .getfield 20, 3), (5, .invokevirtual 293, 3), (8, .ifCond .ne 58, 3), (11, .aload_n 0, 1), (12, .aload_n 0, 1), (13, .getfield 24, 3), (16, .invokevirtual 293, 3), (19, .ifCond .ne 47, 3), (22, .aload_n 0, 1), (23, .aload_n 0, 1), (24, .getfield 27, 3), (27, .invokevirtual 293, 3), (30, .ifCond .ne 36, 3), (33, .aload_n 0, 1), (34, .aload_n 0, 1), (35, .getfield 30, 3), (38, .invokevirtual 293, 3), (41, .ifCond .ne 25, 3), (44, .aload_n 0, 1), (45, .aload_n 0, 1), (46, .getfield 33, 3), (49, .invokevirtual 293, 3), (52, .ifCond .ne 14, 3), (55, .aload_n 0, 1), (56, .aload_n 0, 1), (57, .getfield 36, 3), (60, .invokevirtual 293, 3), (63, .ifCond .eq 7, 3), (66, .iconst 1, 1), (67, .goto 4, 3), (70, .iconst 0, 1), (71, .istore_n 1, 1), (72, .iload_n 1, 1), (73, .ifCond .ne 69, 3), (76, .aload_n 0, 1), (77, .aload_n 0, 1), (78, .getfield 39, 3), (81, .invokevirtual 293, 3), (84, .ifCond .ne 58, 3), (87, .aload_n 0, 1), (88, .aload_n 0, 1), (89, .getfield 42, 3), (92, .invokevirtual 293, 3), (95, .ifCond .ne 47, 3), (98, .aload_n 0, 1), (99, .aload_n 0, 1), (100, .getfield 45, 3), (103, .invokevirtual 293, 3), (106, .ifCond .ne 36, 3), (109, .aload_n 0, 1), (110, .aload_n 0, 1), (111, .getfield 48, 3), (114, .invokevirtual 293, 3), (117, .ifCond .ne 25, 3), (120, .aload_n 0, 1), (121, .aload_n 0, 1), (122, .getfield 51, 3), (125, .invokevirtual 293, 3), (128, .ifCond .ne 14, 3), (131, .aload_n 0, 1), (132, .aload_n 0, 1), (133, .getfield 54, 3)]
set_option maxRecDepth 100000 in
theorem tkX12_isOwnHere_q0 : ∀ q ∈ tX12_isOwnHere_q0, decode cX12_isOwnHere q.1 = .ok q.2 := by decide +kernel
def tX12_isOwnHere_q1 : List (Nat × Instr × Nat) := [(136, .invokevirtual 293, 3), (139, .ifCond .eq 7, 3), (142, .iconst 1, 1), (143, .goto 4, 3), (146, .iconst 0, 1), (147, .istore_n 1, 1), (148, .iload_n 1, 1), (149, .ifCond .ne 69, 3), (152, .aload_n 0, 1), (153, .aload_n 0, 1), (154, .getfield 57, 3), (157, .invokevirtual 293, 3), (160, .ifCond .ne 58, 3), (163, .aload_n 0, 1), (164, .aload_n 0, 1), (165, .getfield 60, 3), (168, .invokevirtual 293, 3), (171, .ifCond .ne 47, 3), (174, .aload_n 0, 1), (175, .aload_n 0, 1), (176, .getfield 63, 3), (179, .invokevirtual 293, 3), (182, .ifCond .ne 36, 3), (185, .aload_n 0, 1), (186, .aload_n 0, 1), (187, .getfield 66, 3), (190, .invokevirtual 293, 3), (193, .ifCond .ne 25, 3), (196, .aload_n 0, 1), (197, .aload_n 0, 1), (198, .getfield 69, 3), (201, .invokevirtual 293, 3), (204, .ifCond .ne 14, 3), (207, .aload_n 0, 1), (208, .aload_n 0, 1), (209, .getfield 72, 3), (212, .invokevirtual 293, 3), (215, .ifCond .eq 7, 3), (218, .iconst 1, 1), (219, .goto 4, 3), (222, .iconst 0, 1), (223, .istore_n 1, 1), (224, .iload_n 1, 1), (225, .ifCond .ne 69, 3), (228, .aload_n 0, 1), (229, .aload_n 0, 1), (230, .getfield 75, 3), (233, .invokevirtual 293, 3), (236, .ifCond .ne 58, 3), (239, .aload_n 0, 1), (240, .aload_n 0, 1), (241, .getfield 78, 3), (244, .invokevirtual 293, 3), (247, .ifCond .ne 47, 3), (250, .aload_n 0, 1), (251, .aload_n 0, 1), (252, .getfield 81, 3), (255, .invokevirtual 293, 3), (258, .ifCond .ne 36, 3), (261, .aload_n 0, 1), (262, .aload_n 0, 1), (263, .getfield 84, 3), (266, .invokevirtual 293, 3), (269, .ifCond .ne 25, 3)]
set_option maxRecDepth 100000 in
theorem tkX12_isOwnHere_q1 : ∀ q ∈ tX12_isOwnHere_q1, decode cX12_isOwnHere q.1 = .ok q.2 := by decide +kernel
def tX12_isOwnHere_q2 : List (Nat × Instr × Nat) := [(272, .aload_n 0, 1), (273, .aload_n 0, 1), (274, .getfield 87, 3), (277, .invokevirtual 293, 3), (280, .ifCond .ne 14, 3), (283, .aload_n 0, 1), (284, .aload_n 0, 1), (285, .getfield 90, 3), (288, .invokevirtual 293, 3), (291, .ifCond .eq 7, 3), (294, .iconst 1, 1), (295, .goto 4, 3), (298, .iconst 0, 1), (299, .istore_n 1, 1), (300, .iload_n 1, 1), (301, .ifCond .ne 47, 3), (304, .aload_n 0, 1), (305, .aload_n 0, 1), (306, .getfield 93, 3), (309, .invokevirtual 293, 3), (312, .ifCond .ne 36, 3), (315, .aload_n 0, 1), (316, .aload_n 0, 1), (317, .getfield 96, 3), (320, .invokevirtual 293, 3), (323, .ifCond .ne 25, 3), (326, .aload_n 0, 1), (327, .aload_n 0, 1), (328, .getfield 99, 3), (331, .invokevirtual 293, 3), (334, .ifCond .ne 14, 3), (337, .aload_n 0, 1), (338, .aload_n 0, 1), (339, .getfield 102, 3), (342, .invokevirtual 293, 3), (345, .ifCond .eq 7, 3), (348, .iconst 1, 1), (349, .goto 4, 3), (352, .iconst 0, 1), (353, .istore_n 1, 1), (354, .iload_n 1, 1), (355, .ireturn, 1)]
set_option maxRecDepth 100000 in
theorem tkX12_isOwnHere_q2 : ∀ q ∈ tX12_isOwnHere_q2, decode cX12_isOwnHere q.1 = .ok q.2 := by decide +kernel
theorem vmX12_isOwnHere : zVM yX12_isOwnHere cX12_isOwnHere 2 (Option.some .boolean) 0 12 := ⟨kX12_isOwnHere, q_1784, q_54, q_162, ⟨_, rfl, rfl⟩, by decide +kernel, by decide⟩
set_option maxHeartbeats 2000000 in
set_option maxRecDepth 20000 in
theorem coX12_isOwnHere_J348 (l : Launch) (e : Nat) (he : 2 ≤ e)  : zCo l (e + 1) 0 0 iX12_isOwnHere 348 [] [] (X12_isOwnHere_J348 ) := by
  unfold X12_isOwnHere_J348
  refine zco_p tkX12_isOwnHere_q2 36 2 (pc' := 353) (L' := []) (S' := [.int 1]) rfl ?_
  refine zco_p tkX12_isOwnHere_q2 39 2 (pc' := 355) (L' := [(1, .int 1)]) (S' := [.int 1]) rfl ?_
  exact zco_zret rfl rfl rfl (zdk (cc := cX12_isOwnHere) (q := (355, .ireturn, 1)) tkX12_isOwnHere_q2 41 rfl)
set_option maxHeartbeats 2000000 in
set_option maxRecDepth 20000 in
theorem coX12_isOwnHere_J299 (l : Launch) (e : Nat) (he : 2 ≤ e) (v0 : Nat) (s0 : Int32) : zCo l (e + 1) 0 0 iX12_isOwnHere 299 [(0, .ref v0)] [.int s0] (X12_isOwnHere_J299 v0 s0) := by
  unfold X12_isOwnHere_J299
  refine zco_p tkX12_isOwnHere_q2 13 2 (pc' := 301) (L' := [(1, .int s0), (0, .ref v0)]) (S' := [.int s0]) rfl ?_
  refine zco_if_ne (tgt := 348) (zdk (cc := cX12_isOwnHere) (q := (301, .ifCond .ne 47, 3)) tkX12_isOwnHere_q2 15 rfl) rfl ?_ ?_
  · exact zco_sub [] rfl (coX12_isOwnHere_J348 l e he )
  · refine zco_p tkX12_isOwnHere_q2 16 2 (pc' := 306) (L' := [(1, .int s0), (0, .ref v0)]) (S' := [.ref v0, .ref v0]) rfl ?_
    refine zco_gr fl_12_93 rfl (zdk (cc := cX12_isOwnHere) (q := (306, .getfield 93, 3)) tkX12_isOwnHere_q2 18 rfl) (fun x1 => ?_)
    refine zco_Vi (rc := 0) (rs := 0) (mc := 0) (ms := 0) (As := [.ref x1]) (S := []) vmX12_isHere (mtX12_isHere l e (by omega) v0 x1) q_1767 rfl rfl (Nat.le_of_ble_eq_true rfl) (zdk (cc := cX12_isOwnHere) (q := (309, .invokevirtual 293, 3)) tkX12_isOwnHere_q2 19 rfl) (fun y2 => ?_)
    refine zco_if_ne (tgt := 348) (zdk (cc := cX12_isOwnHere) (q := (312, .ifCond .ne 36, 3)) tkX12_isOwnHere_q2 20 rfl) rfl ?_ ?_
    · exact zco_sub [] rfl (coX12_isOwnHere_J348 l e he )
    · refine zco_p tkX12_isOwnHere_q2 21 2 (pc' := 317) (L' := [(1, .int s0), (0, .ref v0)]) (S' := [.ref v0, .ref v0]) rfl ?_
      refine zco_gr fl_12_96 rfl (zdk (cc := cX12_isOwnHere) (q := (317, .getfield 96, 3)) tkX12_isOwnHere_q2 23 rfl) (fun x3 => ?_)
      refine zco_Vi (rc := 0) (rs := 0) (mc := 0) (ms := 0) (As := [.ref x3]) (S := []) vmX12_isHere (mtX12_isHere l e (by omega) v0 x3) q_1767 rfl rfl (Nat.le_of_ble_eq_true rfl) (zdk (cc := cX12_isOwnHere) (q := (320, .invokevirtual 293, 3)) tkX12_isOwnHere_q2 24 rfl) (fun y4 => ?_)
      refine zco_if_ne (tgt := 348) (zdk (cc := cX12_isOwnHere) (q := (323, .ifCond .ne 25, 3)) tkX12_isOwnHere_q2 25 rfl) rfl ?_ ?_
      · exact zco_sub [] rfl (coX12_isOwnHere_J348 l e he )
      · refine zco_p tkX12_isOwnHere_q2 26 2 (pc' := 328) (L' := [(1, .int s0), (0, .ref v0)]) (S' := [.ref v0, .ref v0]) rfl ?_
        refine zco_gr fl_12_99 rfl (zdk (cc := cX12_isOwnHere) (q := (328, .getfield 99, 3)) tkX12_isOwnHere_q2 28 rfl) (fun x5 => ?_)
        refine zco_Vi (rc := 0) (rs := 0) (mc := 0) (ms := 0) (As := [.ref x5]) (S := []) vmX12_isHere (mtX12_isHere l e (by omega) v0 x5) q_1767 rfl rfl (Nat.le_of_ble_eq_true rfl) (zdk (cc := cX12_isOwnHere) (q := (331, .invokevirtual 293, 3)) tkX12_isOwnHere_q2 29 rfl) (fun y6 => ?_)
        refine zco_if_ne (tgt := 348) (zdk (cc := cX12_isOwnHere) (q := (334, .ifCond .ne 14, 3)) tkX12_isOwnHere_q2 30 rfl) rfl ?_ ?_
        · exact zco_sub [] rfl (coX12_isOwnHere_J348 l e he )
        · refine zco_p tkX12_isOwnHere_q2 31 2 (pc' := 339) (L' := [(1, .int s0), (0, .ref v0)]) (S' := [.ref v0, .ref v0]) rfl ?_
          refine zco_gr fl_12_102 rfl (zdk (cc := cX12_isOwnHere) (q := (339, .getfield 102, 3)) tkX12_isOwnHere_q2 33 rfl) (fun x7 => ?_)
          refine zco_Vi (rc := 0) (rs := 0) (mc := 0) (ms := 0) (As := [.ref x7]) (S := []) vmX12_isHere (mtX12_isHere l e (by omega) v0 x7) q_1767 rfl rfl (Nat.le_of_ble_eq_true rfl) (zdk (cc := cX12_isOwnHere) (q := (342, .invokevirtual 293, 3)) tkX12_isOwnHere_q2 34 rfl) (fun y8 => ?_)
          refine zco_if_eq (tgt := 352) (zdk (cc := cX12_isOwnHere) (q := (345, .ifCond .eq 7, 3)) tkX12_isOwnHere_q2 35 rfl) rfl ?_ ?_
          · refine zco_p tkX12_isOwnHere_q2 38 3 (pc' := 355) (L' := [(1, .int 0), (0, .ref v0)]) (S' := [.int 0]) rfl ?_
            exact zco_zret rfl rfl rfl (zdk (cc := cX12_isOwnHere) (q := (355, .ireturn, 1)) tkX12_isOwnHere_q2 41 rfl)
          · exact zco_sub [] rfl (coX12_isOwnHere_J348 l e he )
set_option maxHeartbeats 2000000 in
set_option maxRecDepth 20000 in
theorem coX12_isOwnHere_J294 (l : Launch) (e : Nat) (he : 2 ≤ e) (v0 : Nat) : zCo l (e + 1) 0 0 iX12_isOwnHere 294 [(0, .ref v0)] [] (X12_isOwnHere_J294 v0) := by
  unfold X12_isOwnHere_J294
  refine zco_p tkX12_isOwnHere_q2 10 2 (pc' := 299) (L' := [(0, .ref v0)]) (S' := [.int 1]) rfl ?_
  exact zco_sub [0] rfl (coX12_isOwnHere_J299 l e he v0 1)
set_option maxHeartbeats 2000000 in
set_option maxRecDepth 20000 in
theorem coX12_isOwnHere_J223 (l : Launch) (e : Nat) (he : 2 ≤ e) (v0 : Nat) (s0 : Int32) : zCo l (e + 1) 0 0 iX12_isOwnHere 223 [(0, .ref v0)] [.int s0] (X12_isOwnHere_J223 v0 s0) := by
  unfold X12_isOwnHere_J223
  refine zco_p tkX12_isOwnHere_q1 41 2 (pc' := 225) (L' := [(1, .int s0), (0, .ref v0)]) (S' := [.int s0]) rfl ?_
  refine zco_if_ne (tgt := 294) (zdk (cc := cX12_isOwnHere) (q := (225, .ifCond .ne 69, 3)) tkX12_isOwnHere_q1 43 rfl) rfl ?_ ?_
  · exact zco_sub [1] rfl (coX12_isOwnHere_J294 l e he v0)
  · refine zco_p tkX12_isOwnHere_q1 44 2 (pc' := 230) (L' := [(1, .int s0), (0, .ref v0)]) (S' := [.ref v0, .ref v0]) rfl ?_
    refine zco_gr fl_12_75 rfl (zdk (cc := cX12_isOwnHere) (q := (230, .getfield 75, 3)) tkX12_isOwnHere_q1 46 rfl) (fun x1 => ?_)
    refine zco_Vi (rc := 0) (rs := 0) (mc := 0) (ms := 0) (As := [.ref x1]) (S := []) vmX12_isHere (mtX12_isHere l e (by omega) v0 x1) q_1767 rfl rfl (Nat.le_of_ble_eq_true rfl) (zdk (cc := cX12_isOwnHere) (q := (233, .invokevirtual 293, 3)) tkX12_isOwnHere_q1 47 rfl) (fun y2 => ?_)
    refine zco_if_ne (tgt := 294) (zdk (cc := cX12_isOwnHere) (q := (236, .ifCond .ne 58, 3)) tkX12_isOwnHere_q1 48 rfl) rfl ?_ ?_
    · exact zco_sub [1] rfl (coX12_isOwnHere_J294 l e he v0)
    · refine zco_p tkX12_isOwnHere_q1 49 2 (pc' := 241) (L' := [(1, .int s0), (0, .ref v0)]) (S' := [.ref v0, .ref v0]) rfl ?_
      refine zco_gr fl_12_78 rfl (zdk (cc := cX12_isOwnHere) (q := (241, .getfield 78, 3)) tkX12_isOwnHere_q1 51 rfl) (fun x3 => ?_)
      refine zco_Vi (rc := 0) (rs := 0) (mc := 0) (ms := 0) (As := [.ref x3]) (S := []) vmX12_isHere (mtX12_isHere l e (by omega) v0 x3) q_1767 rfl rfl (Nat.le_of_ble_eq_true rfl) (zdk (cc := cX12_isOwnHere) (q := (244, .invokevirtual 293, 3)) tkX12_isOwnHere_q1 52 rfl) (fun y4 => ?_)
      refine zco_if_ne (tgt := 294) (zdk (cc := cX12_isOwnHere) (q := (247, .ifCond .ne 47, 3)) tkX12_isOwnHere_q1 53 rfl) rfl ?_ ?_
      · exact zco_sub [1] rfl (coX12_isOwnHere_J294 l e he v0)
      · refine zco_p tkX12_isOwnHere_q1 54 2 (pc' := 252) (L' := [(1, .int s0), (0, .ref v0)]) (S' := [.ref v0, .ref v0]) rfl ?_
        refine zco_gr fl_12_81 rfl (zdk (cc := cX12_isOwnHere) (q := (252, .getfield 81, 3)) tkX12_isOwnHere_q1 56 rfl) (fun x5 => ?_)
        refine zco_Vi (rc := 0) (rs := 0) (mc := 0) (ms := 0) (As := [.ref x5]) (S := []) vmX12_isHere (mtX12_isHere l e (by omega) v0 x5) q_1767 rfl rfl (Nat.le_of_ble_eq_true rfl) (zdk (cc := cX12_isOwnHere) (q := (255, .invokevirtual 293, 3)) tkX12_isOwnHere_q1 57 rfl) (fun y6 => ?_)
        refine zco_if_ne (tgt := 294) (zdk (cc := cX12_isOwnHere) (q := (258, .ifCond .ne 36, 3)) tkX12_isOwnHere_q1 58 rfl) rfl ?_ ?_
        · exact zco_sub [1] rfl (coX12_isOwnHere_J294 l e he v0)
        · refine zco_p tkX12_isOwnHere_q1 59 2 (pc' := 263) (L' := [(1, .int s0), (0, .ref v0)]) (S' := [.ref v0, .ref v0]) rfl ?_
          refine zco_gr fl_12_84 rfl (zdk (cc := cX12_isOwnHere) (q := (263, .getfield 84, 3)) tkX12_isOwnHere_q1 61 rfl) (fun x7 => ?_)
          refine zco_Vi (rc := 0) (rs := 0) (mc := 0) (ms := 0) (As := [.ref x7]) (S := []) vmX12_isHere (mtX12_isHere l e (by omega) v0 x7) q_1767 rfl rfl (Nat.le_of_ble_eq_true rfl) (zdk (cc := cX12_isOwnHere) (q := (266, .invokevirtual 293, 3)) tkX12_isOwnHere_q1 62 rfl) (fun y8 => ?_)
          refine zco_if_ne (tgt := 294) (zdk (cc := cX12_isOwnHere) (q := (269, .ifCond .ne 25, 3)) tkX12_isOwnHere_q1 63 rfl) rfl ?_ ?_
          · exact zco_sub [1] rfl (coX12_isOwnHere_J294 l e he v0)
          · refine zco_p tkX12_isOwnHere_q2 0 2 (pc' := 274) (L' := [(1, .int s0), (0, .ref v0)]) (S' := [.ref v0, .ref v0]) rfl ?_
            refine zco_gr fl_12_87 rfl (zdk (cc := cX12_isOwnHere) (q := (274, .getfield 87, 3)) tkX12_isOwnHere_q2 2 rfl) (fun x9 => ?_)
            refine zco_Vi (rc := 0) (rs := 0) (mc := 0) (ms := 0) (As := [.ref x9]) (S := []) vmX12_isHere (mtX12_isHere l e (by omega) v0 x9) q_1767 rfl rfl (Nat.le_of_ble_eq_true rfl) (zdk (cc := cX12_isOwnHere) (q := (277, .invokevirtual 293, 3)) tkX12_isOwnHere_q2 3 rfl) (fun y10 => ?_)
            refine zco_if_ne (tgt := 294) (zdk (cc := cX12_isOwnHere) (q := (280, .ifCond .ne 14, 3)) tkX12_isOwnHere_q2 4 rfl) rfl ?_ ?_
            · exact zco_sub [1] rfl (coX12_isOwnHere_J294 l e he v0)
            · refine zco_p tkX12_isOwnHere_q2 5 2 (pc' := 285) (L' := [(1, .int s0), (0, .ref v0)]) (S' := [.ref v0, .ref v0]) rfl ?_
              refine zco_gr fl_12_90 rfl (zdk (cc := cX12_isOwnHere) (q := (285, .getfield 90, 3)) tkX12_isOwnHere_q2 7 rfl) (fun x11 => ?_)
              refine zco_Vi (rc := 0) (rs := 0) (mc := 0) (ms := 0) (As := [.ref x11]) (S := []) vmX12_isHere (mtX12_isHere l e (by omega) v0 x11) q_1767 rfl rfl (Nat.le_of_ble_eq_true rfl) (zdk (cc := cX12_isOwnHere) (q := (288, .invokevirtual 293, 3)) tkX12_isOwnHere_q2 8 rfl) (fun y12 => ?_)
              refine zco_if_eq (tgt := 298) (zdk (cc := cX12_isOwnHere) (q := (291, .ifCond .eq 7, 3)) tkX12_isOwnHere_q2 9 rfl) rfl ?_ ?_
              · refine zco_p tkX12_isOwnHere_q2 12 1 (pc' := 299) (L' := [(1, .int s0), (0, .ref v0)]) (S' := [.int 0]) rfl ?_
                exact zco_sub [1] rfl (coX12_isOwnHere_J299 l e he v0 0)
              · exact zco_sub [1] rfl (coX12_isOwnHere_J294 l e he v0)
set_option maxHeartbeats 2000000 in
set_option maxRecDepth 20000 in
theorem coX12_isOwnHere_J218 (l : Launch) (e : Nat) (he : 2 ≤ e) (v0 : Nat) : zCo l (e + 1) 0 0 iX12_isOwnHere 218 [(0, .ref v0)] [] (X12_isOwnHere_J218 v0) := by
  unfold X12_isOwnHere_J218
  refine zco_p tkX12_isOwnHere_q1 38 2 (pc' := 223) (L' := [(0, .ref v0)]) (S' := [.int 1]) rfl ?_
  exact zco_sub [0] rfl (coX12_isOwnHere_J223 l e he v0 1)
set_option maxHeartbeats 2000000 in
set_option maxRecDepth 20000 in
theorem coX12_isOwnHere_J147 (l : Launch) (e : Nat) (he : 2 ≤ e) (v0 : Nat) (s0 : Int32) : zCo l (e + 1) 0 0 iX12_isOwnHere 147 [(0, .ref v0)] [.int s0] (X12_isOwnHere_J147 v0 s0) := by
  unfold X12_isOwnHere_J147
  refine zco_p tkX12_isOwnHere_q1 5 2 (pc' := 149) (L' := [(1, .int s0), (0, .ref v0)]) (S' := [.int s0]) rfl ?_
  refine zco_if_ne (tgt := 218) (zdk (cc := cX12_isOwnHere) (q := (149, .ifCond .ne 69, 3)) tkX12_isOwnHere_q1 7 rfl) rfl ?_ ?_
  · exact zco_sub [1] rfl (coX12_isOwnHere_J218 l e he v0)
  · refine zco_p tkX12_isOwnHere_q1 8 2 (pc' := 154) (L' := [(1, .int s0), (0, .ref v0)]) (S' := [.ref v0, .ref v0]) rfl ?_
    refine zco_gr fl_12_57 rfl (zdk (cc := cX12_isOwnHere) (q := (154, .getfield 57, 3)) tkX12_isOwnHere_q1 10 rfl) (fun x1 => ?_)
    refine zco_Vi (rc := 0) (rs := 0) (mc := 0) (ms := 0) (As := [.ref x1]) (S := []) vmX12_isHere (mtX12_isHere l e (by omega) v0 x1) q_1767 rfl rfl (Nat.le_of_ble_eq_true rfl) (zdk (cc := cX12_isOwnHere) (q := (157, .invokevirtual 293, 3)) tkX12_isOwnHere_q1 11 rfl) (fun y2 => ?_)
    refine zco_if_ne (tgt := 218) (zdk (cc := cX12_isOwnHere) (q := (160, .ifCond .ne 58, 3)) tkX12_isOwnHere_q1 12 rfl) rfl ?_ ?_
    · exact zco_sub [1] rfl (coX12_isOwnHere_J218 l e he v0)
    · refine zco_p tkX12_isOwnHere_q1 13 2 (pc' := 165) (L' := [(1, .int s0), (0, .ref v0)]) (S' := [.ref v0, .ref v0]) rfl ?_
      refine zco_gr fl_12_60 rfl (zdk (cc := cX12_isOwnHere) (q := (165, .getfield 60, 3)) tkX12_isOwnHere_q1 15 rfl) (fun x3 => ?_)
      refine zco_Vi (rc := 0) (rs := 0) (mc := 0) (ms := 0) (As := [.ref x3]) (S := []) vmX12_isHere (mtX12_isHere l e (by omega) v0 x3) q_1767 rfl rfl (Nat.le_of_ble_eq_true rfl) (zdk (cc := cX12_isOwnHere) (q := (168, .invokevirtual 293, 3)) tkX12_isOwnHere_q1 16 rfl) (fun y4 => ?_)
      refine zco_if_ne (tgt := 218) (zdk (cc := cX12_isOwnHere) (q := (171, .ifCond .ne 47, 3)) tkX12_isOwnHere_q1 17 rfl) rfl ?_ ?_
      · exact zco_sub [1] rfl (coX12_isOwnHere_J218 l e he v0)
      · refine zco_p tkX12_isOwnHere_q1 18 2 (pc' := 176) (L' := [(1, .int s0), (0, .ref v0)]) (S' := [.ref v0, .ref v0]) rfl ?_
        refine zco_gr fl_12_63 rfl (zdk (cc := cX12_isOwnHere) (q := (176, .getfield 63, 3)) tkX12_isOwnHere_q1 20 rfl) (fun x5 => ?_)
        refine zco_Vi (rc := 0) (rs := 0) (mc := 0) (ms := 0) (As := [.ref x5]) (S := []) vmX12_isHere (mtX12_isHere l e (by omega) v0 x5) q_1767 rfl rfl (Nat.le_of_ble_eq_true rfl) (zdk (cc := cX12_isOwnHere) (q := (179, .invokevirtual 293, 3)) tkX12_isOwnHere_q1 21 rfl) (fun y6 => ?_)
        refine zco_if_ne (tgt := 218) (zdk (cc := cX12_isOwnHere) (q := (182, .ifCond .ne 36, 3)) tkX12_isOwnHere_q1 22 rfl) rfl ?_ ?_
        · exact zco_sub [1] rfl (coX12_isOwnHere_J218 l e he v0)
        · refine zco_p tkX12_isOwnHere_q1 23 2 (pc' := 187) (L' := [(1, .int s0), (0, .ref v0)]) (S' := [.ref v0, .ref v0]) rfl ?_
          refine zco_gr fl_12_66 rfl (zdk (cc := cX12_isOwnHere) (q := (187, .getfield 66, 3)) tkX12_isOwnHere_q1 25 rfl) (fun x7 => ?_)
          refine zco_Vi (rc := 0) (rs := 0) (mc := 0) (ms := 0) (As := [.ref x7]) (S := []) vmX12_isHere (mtX12_isHere l e (by omega) v0 x7) q_1767 rfl rfl (Nat.le_of_ble_eq_true rfl) (zdk (cc := cX12_isOwnHere) (q := (190, .invokevirtual 293, 3)) tkX12_isOwnHere_q1 26 rfl) (fun y8 => ?_)
          refine zco_if_ne (tgt := 218) (zdk (cc := cX12_isOwnHere) (q := (193, .ifCond .ne 25, 3)) tkX12_isOwnHere_q1 27 rfl) rfl ?_ ?_
          · exact zco_sub [1] rfl (coX12_isOwnHere_J218 l e he v0)
          · refine zco_p tkX12_isOwnHere_q1 28 2 (pc' := 198) (L' := [(1, .int s0), (0, .ref v0)]) (S' := [.ref v0, .ref v0]) rfl ?_
            refine zco_gr fl_12_69 rfl (zdk (cc := cX12_isOwnHere) (q := (198, .getfield 69, 3)) tkX12_isOwnHere_q1 30 rfl) (fun x9 => ?_)
            refine zco_Vi (rc := 0) (rs := 0) (mc := 0) (ms := 0) (As := [.ref x9]) (S := []) vmX12_isHere (mtX12_isHere l e (by omega) v0 x9) q_1767 rfl rfl (Nat.le_of_ble_eq_true rfl) (zdk (cc := cX12_isOwnHere) (q := (201, .invokevirtual 293, 3)) tkX12_isOwnHere_q1 31 rfl) (fun y10 => ?_)
            refine zco_if_ne (tgt := 218) (zdk (cc := cX12_isOwnHere) (q := (204, .ifCond .ne 14, 3)) tkX12_isOwnHere_q1 32 rfl) rfl ?_ ?_
            · exact zco_sub [1] rfl (coX12_isOwnHere_J218 l e he v0)
            · refine zco_p tkX12_isOwnHere_q1 33 2 (pc' := 209) (L' := [(1, .int s0), (0, .ref v0)]) (S' := [.ref v0, .ref v0]) rfl ?_
              refine zco_gr fl_12_72 rfl (zdk (cc := cX12_isOwnHere) (q := (209, .getfield 72, 3)) tkX12_isOwnHere_q1 35 rfl) (fun x11 => ?_)
              refine zco_Vi (rc := 0) (rs := 0) (mc := 0) (ms := 0) (As := [.ref x11]) (S := []) vmX12_isHere (mtX12_isHere l e (by omega) v0 x11) q_1767 rfl rfl (Nat.le_of_ble_eq_true rfl) (zdk (cc := cX12_isOwnHere) (q := (212, .invokevirtual 293, 3)) tkX12_isOwnHere_q1 36 rfl) (fun y12 => ?_)
              refine zco_if_eq (tgt := 222) (zdk (cc := cX12_isOwnHere) (q := (215, .ifCond .eq 7, 3)) tkX12_isOwnHere_q1 37 rfl) rfl ?_ ?_
              · refine zco_p tkX12_isOwnHere_q1 40 1 (pc' := 223) (L' := [(1, .int s0), (0, .ref v0)]) (S' := [.int 0]) rfl ?_
                exact zco_sub [1] rfl (coX12_isOwnHere_J223 l e he v0 0)
              · exact zco_sub [1] rfl (coX12_isOwnHere_J218 l e he v0)
set_option maxHeartbeats 2000000 in
set_option maxRecDepth 20000 in
theorem coX12_isOwnHere_J142 (l : Launch) (e : Nat) (he : 2 ≤ e) (v0 : Nat) : zCo l (e + 1) 0 0 iX12_isOwnHere 142 [(0, .ref v0)] [] (X12_isOwnHere_J142 v0) := by
  unfold X12_isOwnHere_J142
  refine zco_p tkX12_isOwnHere_q1 2 2 (pc' := 147) (L' := [(0, .ref v0)]) (S' := [.int 1]) rfl ?_
  exact zco_sub [0] rfl (coX12_isOwnHere_J147 l e he v0 1)
set_option maxHeartbeats 2000000 in
set_option maxRecDepth 20000 in
theorem coX12_isOwnHere_J71 (l : Launch) (e : Nat) (he : 2 ≤ e) (v0 : Nat) (s0 : Int32) : zCo l (e + 1) 0 0 iX12_isOwnHere 71 [(0, .ref v0)] [.int s0] (X12_isOwnHere_J71 v0 s0) := by
  unfold X12_isOwnHere_J71
  refine zco_p tkX12_isOwnHere_q0 33 2 (pc' := 73) (L' := [(1, .int s0), (0, .ref v0)]) (S' := [.int s0]) rfl ?_
  refine zco_if_ne (tgt := 142) (zdk (cc := cX12_isOwnHere) (q := (73, .ifCond .ne 69, 3)) tkX12_isOwnHere_q0 35 rfl) rfl ?_ ?_
  · exact zco_sub [1] rfl (coX12_isOwnHere_J142 l e he v0)
  · refine zco_p tkX12_isOwnHere_q0 36 2 (pc' := 78) (L' := [(1, .int s0), (0, .ref v0)]) (S' := [.ref v0, .ref v0]) rfl ?_
    refine zco_gr fl_12_39 rfl (zdk (cc := cX12_isOwnHere) (q := (78, .getfield 39, 3)) tkX12_isOwnHere_q0 38 rfl) (fun x1 => ?_)
    refine zco_Vi (rc := 0) (rs := 0) (mc := 0) (ms := 0) (As := [.ref x1]) (S := []) vmX12_isHere (mtX12_isHere l e (by omega) v0 x1) q_1767 rfl rfl (Nat.le_of_ble_eq_true rfl) (zdk (cc := cX12_isOwnHere) (q := (81, .invokevirtual 293, 3)) tkX12_isOwnHere_q0 39 rfl) (fun y2 => ?_)
    refine zco_if_ne (tgt := 142) (zdk (cc := cX12_isOwnHere) (q := (84, .ifCond .ne 58, 3)) tkX12_isOwnHere_q0 40 rfl) rfl ?_ ?_
    · exact zco_sub [1] rfl (coX12_isOwnHere_J142 l e he v0)
    · refine zco_p tkX12_isOwnHere_q0 41 2 (pc' := 89) (L' := [(1, .int s0), (0, .ref v0)]) (S' := [.ref v0, .ref v0]) rfl ?_
      refine zco_gr fl_12_42 rfl (zdk (cc := cX12_isOwnHere) (q := (89, .getfield 42, 3)) tkX12_isOwnHere_q0 43 rfl) (fun x3 => ?_)
      refine zco_Vi (rc := 0) (rs := 0) (mc := 0) (ms := 0) (As := [.ref x3]) (S := []) vmX12_isHere (mtX12_isHere l e (by omega) v0 x3) q_1767 rfl rfl (Nat.le_of_ble_eq_true rfl) (zdk (cc := cX12_isOwnHere) (q := (92, .invokevirtual 293, 3)) tkX12_isOwnHere_q0 44 rfl) (fun y4 => ?_)
      refine zco_if_ne (tgt := 142) (zdk (cc := cX12_isOwnHere) (q := (95, .ifCond .ne 47, 3)) tkX12_isOwnHere_q0 45 rfl) rfl ?_ ?_
      · exact zco_sub [1] rfl (coX12_isOwnHere_J142 l e he v0)
      · refine zco_p tkX12_isOwnHere_q0 46 2 (pc' := 100) (L' := [(1, .int s0), (0, .ref v0)]) (S' := [.ref v0, .ref v0]) rfl ?_
        refine zco_gr fl_12_45 rfl (zdk (cc := cX12_isOwnHere) (q := (100, .getfield 45, 3)) tkX12_isOwnHere_q0 48 rfl) (fun x5 => ?_)
        refine zco_Vi (rc := 0) (rs := 0) (mc := 0) (ms := 0) (As := [.ref x5]) (S := []) vmX12_isHere (mtX12_isHere l e (by omega) v0 x5) q_1767 rfl rfl (Nat.le_of_ble_eq_true rfl) (zdk (cc := cX12_isOwnHere) (q := (103, .invokevirtual 293, 3)) tkX12_isOwnHere_q0 49 rfl) (fun y6 => ?_)
        refine zco_if_ne (tgt := 142) (zdk (cc := cX12_isOwnHere) (q := (106, .ifCond .ne 36, 3)) tkX12_isOwnHere_q0 50 rfl) rfl ?_ ?_
        · exact zco_sub [1] rfl (coX12_isOwnHere_J142 l e he v0)
        · refine zco_p tkX12_isOwnHere_q0 51 2 (pc' := 111) (L' := [(1, .int s0), (0, .ref v0)]) (S' := [.ref v0, .ref v0]) rfl ?_
          refine zco_gr fl_12_48 rfl (zdk (cc := cX12_isOwnHere) (q := (111, .getfield 48, 3)) tkX12_isOwnHere_q0 53 rfl) (fun x7 => ?_)
          refine zco_Vi (rc := 0) (rs := 0) (mc := 0) (ms := 0) (As := [.ref x7]) (S := []) vmX12_isHere (mtX12_isHere l e (by omega) v0 x7) q_1767 rfl rfl (Nat.le_of_ble_eq_true rfl) (zdk (cc := cX12_isOwnHere) (q := (114, .invokevirtual 293, 3)) tkX12_isOwnHere_q0 54 rfl) (fun y8 => ?_)
          refine zco_if_ne (tgt := 142) (zdk (cc := cX12_isOwnHere) (q := (117, .ifCond .ne 25, 3)) tkX12_isOwnHere_q0 55 rfl) rfl ?_ ?_
          · exact zco_sub [1] rfl (coX12_isOwnHere_J142 l e he v0)
          · refine zco_p tkX12_isOwnHere_q0 56 2 (pc' := 122) (L' := [(1, .int s0), (0, .ref v0)]) (S' := [.ref v0, .ref v0]) rfl ?_
            refine zco_gr fl_12_51 rfl (zdk (cc := cX12_isOwnHere) (q := (122, .getfield 51, 3)) tkX12_isOwnHere_q0 58 rfl) (fun x9 => ?_)
            refine zco_Vi (rc := 0) (rs := 0) (mc := 0) (ms := 0) (As := [.ref x9]) (S := []) vmX12_isHere (mtX12_isHere l e (by omega) v0 x9) q_1767 rfl rfl (Nat.le_of_ble_eq_true rfl) (zdk (cc := cX12_isOwnHere) (q := (125, .invokevirtual 293, 3)) tkX12_isOwnHere_q0 59 rfl) (fun y10 => ?_)
            refine zco_if_ne (tgt := 142) (zdk (cc := cX12_isOwnHere) (q := (128, .ifCond .ne 14, 3)) tkX12_isOwnHere_q0 60 rfl) rfl ?_ ?_
            · exact zco_sub [1] rfl (coX12_isOwnHere_J142 l e he v0)
            · refine zco_p tkX12_isOwnHere_q0 61 2 (pc' := 133) (L' := [(1, .int s0), (0, .ref v0)]) (S' := [.ref v0, .ref v0]) rfl ?_
              refine zco_gr fl_12_54 rfl (zdk (cc := cX12_isOwnHere) (q := (133, .getfield 54, 3)) tkX12_isOwnHere_q0 63 rfl) (fun x11 => ?_)
              refine zco_Vi (rc := 0) (rs := 0) (mc := 0) (ms := 0) (As := [.ref x11]) (S := []) vmX12_isHere (mtX12_isHere l e (by omega) v0 x11) q_1767 rfl rfl (Nat.le_of_ble_eq_true rfl) (zdk (cc := cX12_isOwnHere) (q := (136, .invokevirtual 293, 3)) tkX12_isOwnHere_q1 0 rfl) (fun y12 => ?_)
              refine zco_if_eq (tgt := 146) (zdk (cc := cX12_isOwnHere) (q := (139, .ifCond .eq 7, 3)) tkX12_isOwnHere_q1 1 rfl) rfl ?_ ?_
              · refine zco_p tkX12_isOwnHere_q1 4 1 (pc' := 147) (L' := [(1, .int s0), (0, .ref v0)]) (S' := [.int 0]) rfl ?_
                exact zco_sub [1] rfl (coX12_isOwnHere_J147 l e he v0 0)
              · exact zco_sub [1] rfl (coX12_isOwnHere_J142 l e he v0)
set_option maxHeartbeats 2000000 in
set_option maxRecDepth 20000 in
theorem coX12_isOwnHere_J66 (l : Launch) (e : Nat) (he : 2 ≤ e) (v0 : Nat) : zCo l (e + 1) 0 0 iX12_isOwnHere 66 [(0, .ref v0)] [] (X12_isOwnHere_J66 v0) := by
  unfold X12_isOwnHere_J66
  refine zco_p tkX12_isOwnHere_q0 30 2 (pc' := 71) (L' := [(0, .ref v0)]) (S' := [.int 1]) rfl ?_
  exact zco_sub [0] rfl (coX12_isOwnHere_J71 l e he v0 1)
set_option maxHeartbeats 2000000 in
set_option maxRecDepth 20000 in
theorem coX12_isOwnHere (l : Launch) (e : Nat) (he : 2 ≤ e) (v0 : Nat) : zCo l (e + 1) 0 0 iX12_isOwnHere 0 [(0, .ref v0)] [] (X12_isOwnHere v0) := by
  unfold X12_isOwnHere
  refine zco_p tkX12_isOwnHere_q0 0 2 (pc' := 2) (L' := [(0, .ref v0)]) (S' := [.ref v0, .ref v0]) rfl ?_
  refine zco_gr fl_12_20 rfl (zdk (cc := cX12_isOwnHere) (q := (2, .getfield 20, 3)) tkX12_isOwnHere_q0 2 rfl) (fun x1 => ?_)
  refine zco_Vi (rc := 0) (rs := 0) (mc := 0) (ms := 0) (As := [.ref x1]) (S := []) vmX12_isHere (mtX12_isHere l e (by omega) v0 x1) q_1767 rfl rfl (Nat.le_of_ble_eq_true rfl) (zdk (cc := cX12_isOwnHere) (q := (5, .invokevirtual 293, 3)) tkX12_isOwnHere_q0 3 rfl) (fun y2 => ?_)
  refine zco_if_ne (tgt := 66) (zdk (cc := cX12_isOwnHere) (q := (8, .ifCond .ne 58, 3)) tkX12_isOwnHere_q0 4 rfl) rfl ?_ ?_
  · exact zco_sub [0] rfl (coX12_isOwnHere_J66 l e he v0)
  · refine zco_p tkX12_isOwnHere_q0 5 2 (pc' := 13) (L' := [(0, .ref v0)]) (S' := [.ref v0, .ref v0]) rfl ?_
    refine zco_gr fl_12_24 rfl (zdk (cc := cX12_isOwnHere) (q := (13, .getfield 24, 3)) tkX12_isOwnHere_q0 7 rfl) (fun x3 => ?_)
    refine zco_Vi (rc := 0) (rs := 0) (mc := 0) (ms := 0) (As := [.ref x3]) (S := []) vmX12_isHere (mtX12_isHere l e (by omega) v0 x3) q_1767 rfl rfl (Nat.le_of_ble_eq_true rfl) (zdk (cc := cX12_isOwnHere) (q := (16, .invokevirtual 293, 3)) tkX12_isOwnHere_q0 8 rfl) (fun y4 => ?_)
    refine zco_if_ne (tgt := 66) (zdk (cc := cX12_isOwnHere) (q := (19, .ifCond .ne 47, 3)) tkX12_isOwnHere_q0 9 rfl) rfl ?_ ?_
    · exact zco_sub [0] rfl (coX12_isOwnHere_J66 l e he v0)
    · refine zco_p tkX12_isOwnHere_q0 10 2 (pc' := 24) (L' := [(0, .ref v0)]) (S' := [.ref v0, .ref v0]) rfl ?_
      refine zco_gr fl_12_27 rfl (zdk (cc := cX12_isOwnHere) (q := (24, .getfield 27, 3)) tkX12_isOwnHere_q0 12 rfl) (fun x5 => ?_)
      refine zco_Vi (rc := 0) (rs := 0) (mc := 0) (ms := 0) (As := [.ref x5]) (S := []) vmX12_isHere (mtX12_isHere l e (by omega) v0 x5) q_1767 rfl rfl (Nat.le_of_ble_eq_true rfl) (zdk (cc := cX12_isOwnHere) (q := (27, .invokevirtual 293, 3)) tkX12_isOwnHere_q0 13 rfl) (fun y6 => ?_)
      refine zco_if_ne (tgt := 66) (zdk (cc := cX12_isOwnHere) (q := (30, .ifCond .ne 36, 3)) tkX12_isOwnHere_q0 14 rfl) rfl ?_ ?_
      · exact zco_sub [0] rfl (coX12_isOwnHere_J66 l e he v0)
      · refine zco_p tkX12_isOwnHere_q0 15 2 (pc' := 35) (L' := [(0, .ref v0)]) (S' := [.ref v0, .ref v0]) rfl ?_
        refine zco_gr fl_12_30 rfl (zdk (cc := cX12_isOwnHere) (q := (35, .getfield 30, 3)) tkX12_isOwnHere_q0 17 rfl) (fun x7 => ?_)
        refine zco_Vi (rc := 0) (rs := 0) (mc := 0) (ms := 0) (As := [.ref x7]) (S := []) vmX12_isHere (mtX12_isHere l e (by omega) v0 x7) q_1767 rfl rfl (Nat.le_of_ble_eq_true rfl) (zdk (cc := cX12_isOwnHere) (q := (38, .invokevirtual 293, 3)) tkX12_isOwnHere_q0 18 rfl) (fun y8 => ?_)
        refine zco_if_ne (tgt := 66) (zdk (cc := cX12_isOwnHere) (q := (41, .ifCond .ne 25, 3)) tkX12_isOwnHere_q0 19 rfl) rfl ?_ ?_
        · exact zco_sub [0] rfl (coX12_isOwnHere_J66 l e he v0)
        · refine zco_p tkX12_isOwnHere_q0 20 2 (pc' := 46) (L' := [(0, .ref v0)]) (S' := [.ref v0, .ref v0]) rfl ?_
          refine zco_gr fl_12_33 rfl (zdk (cc := cX12_isOwnHere) (q := (46, .getfield 33, 3)) tkX12_isOwnHere_q0 22 rfl) (fun x9 => ?_)
          refine zco_Vi (rc := 0) (rs := 0) (mc := 0) (ms := 0) (As := [.ref x9]) (S := []) vmX12_isHere (mtX12_isHere l e (by omega) v0 x9) q_1767 rfl rfl (Nat.le_of_ble_eq_true rfl) (zdk (cc := cX12_isOwnHere) (q := (49, .invokevirtual 293, 3)) tkX12_isOwnHere_q0 23 rfl) (fun y10 => ?_)
          refine zco_if_ne (tgt := 66) (zdk (cc := cX12_isOwnHere) (q := (52, .ifCond .ne 14, 3)) tkX12_isOwnHere_q0 24 rfl) rfl ?_ ?_
          · exact zco_sub [0] rfl (coX12_isOwnHere_J66 l e he v0)
          · refine zco_p tkX12_isOwnHere_q0 25 2 (pc' := 57) (L' := [(0, .ref v0)]) (S' := [.ref v0, .ref v0]) rfl ?_
            refine zco_gr fl_12_36 rfl (zdk (cc := cX12_isOwnHere) (q := (57, .getfield 36, 3)) tkX12_isOwnHere_q0 27 rfl) (fun x11 => ?_)
            refine zco_Vi (rc := 0) (rs := 0) (mc := 0) (ms := 0) (As := [.ref x11]) (S := []) vmX12_isHere (mtX12_isHere l e (by omega) v0 x11) q_1767 rfl rfl (Nat.le_of_ble_eq_true rfl) (zdk (cc := cX12_isOwnHere) (q := (60, .invokevirtual 293, 3)) tkX12_isOwnHere_q0 28 rfl) (fun y12 => ?_)
            refine zco_if_eq (tgt := 70) (zdk (cc := cX12_isOwnHere) (q := (63, .ifCond .eq 7, 3)) tkX12_isOwnHere_q0 29 rfl) rfl ?_ ?_
            · refine zco_p tkX12_isOwnHere_q0 32 1 (pc' := 71) (L' := [(0, .ref v0)]) (S' := [.int 0]) rfl ?_
              exact zco_sub [0] rfl (coX12_isOwnHere_J71 l e he v0 0)
            · exact zco_sub [0] rfl (coX12_isOwnHere_J66 l e he v0)
theorem mtX12_isOwnHere (l : Launch) (d : Nat) (hd : 3 ≤ d) (v0 : Nat) : zMet l d 0 0 yX12_isOwnHere cX12_isOwnHere 2 (Option.some .boolean) [.ref v0] (X12_isOwnHere v0) := by
  obtain ⟨e, rfl⟩ : ∃ e, d = e + 1 := ⟨d - 1, by omega⟩
  exact zmet_of (own := RX12) (ini := false) (by decide +kernel) rfl (fun _ => by contradiction) (Nat.le_of_ble_eq_true rfl) (coX12_isOwnHere l e (by omega) v0)
abbrev iX12_name : zI := (RX12, cX12_name, 3, (Option.some .long), false)
def tX12_name : List (Nat × Instr × Nat) := [(0, .aload_n 0, 1), (1, .getfield 270, 3), (4, .ifCond .eq 5, 3), (7, .lconst 0, 1), (8, .lreturn, 1), (9, .aload_n 0, 1), (10, .invokevirtual 282, 3), (13, .invokestatic 286, 3), (16, .ifCond .eq 21, 3), (19, .aload_n 0, 1), (20, .getfield 276, 3), (23, .aload_n 0, 1), (24, .getfield 290, 3), (27, .if_icmp .eq 10, 3), (30, .aload_n 0, 1), (31, .invokevirtual 317, 3), (34, .ifCond .eq 14, 3), (37, .aload_n 0, 1), (38, .iconst 1, 1), (39, .aload_n 0, 1), (40, .getfield 276, 3), (43, .invokevirtual 300, 3), (46, .lconst 0, 1), (47, .lreturn, 1), (48, .aload_n 0, 1), (49, .aload_n 0, 1), (50, .getfield 276, 3), (53, .putfield 321, 3), (56, .lconst 0, 1), (57, .lstore_n 1, 1), (58, .aload_n 0, 1), (59, .getfield 276, 3), (62, .aload_n 0, 1), (63, .getfield 279, 3), (66, .if_icmp .ge 79, 3), (69, .aload_n 0, 1), (70, .getfield 7, 3), (73, .aload_n 0, 1), (74, .getfield 276, 3), (77, .iaload, 1), (78, .invokestatic 286, 3), (81, .ifCond .eq 64, 3), (84, .aload_n 0, 1), (85, .getfield 276, 3), (88, .aload_n 0, 1), (89, .getfield 321, 3), (92, .isub, 1), (93, .bipush 6, 2), (95, .if_icmp .ne 14, 3), (98, .aload_n 0, 1), (99, .iconst 1, 1), (100, .aload_n 0, 1), (101, .getfield 276, 3), (104, .invokevirtual 300, 3), (107, .lconst 0, 1), (108, .lreturn, 1), (109, .ldc2_w 324, 3), (112, .lload_n 1, 1), (113, .lmul, 1), (114, .aload_n 0, 1), (115, .getfield 7, 3), (118, .aload_n 0, 1), (119, .getfield 276, 3), (122, .iaload, 1), (123, .i2l, 1), (124, .ladd, 1), (125, .ldc2_w 326, 3), (128, .lsub, 1), (129, .lconst 1, 1), (130, .ladd, 1), (131, .lstore_n 1, 1), (132, .aload_n 0, 1), (133, .dup, 1), (134, .getfield 276, 3), (137, .iconst 1, 1), (138, .iadd, 1), (139, .putfield 276, 3), (142, .goto (-84), 3), (145, .aload_n 0, 1), (146, .aload_n 0, 1), (147, .getfield 276, 3), (150, .putfield 290, 3), (153, .lload_n 1, 1), (154, .lreturn, 1)]
set_option maxRecDepth 100000 in
theorem tkX12_name : ∀ q ∈ tX12_name, decode cX12_name q.1 = .ok q.2 := by decide +kernel
theorem vmX12_name : zVM yX12_name cX12_name 3 (Option.some .long) 0 12 := ⟨kX12_name, q_1780, q_53, q_162, ⟨_, rfl, rfl⟩, by decide +kernel, by decide⟩
set_option maxHeartbeats 2000000 in
set_option maxRecDepth 20000 in
theorem coX12_name_J145 (l : Launch) (e : Nat) (he : 3 ≤ e) (v0 : Nat) (v1 : Int64) : zCo l (e + 1) 0 0 iX12_name 145 [(0, .ref v0), (1, .long v1)] [] (X12_name_J145 v0 v1) := by
  unfold X12_name_J145
  refine zco_p tkX12_name 78 2 (pc' := 147) (L' := [(0, .ref v0), (1, .long v1)]) (S' := [.ref v0, .ref v0]) rfl ?_
  refine zco_gi fl_12_276 rfl (zdk (cc := cX12_name) (q := (147, .getfield 276, 3)) tkX12_name 80 rfl) (fun x1 => ?_)
  refine zco_pi fl_12_290 rfl rfl (zdk (cc := cX12_name) (q := (150, .putfield 290, 3)) tkX12_name 81 rfl) ?_
  refine zco_p tkX12_name 82 1 (pc' := 154) (L' := [(0, .ref v0), (1, .long v1)]) (S' := [.long v1]) rfl ?_
  exact zco_lret rfl rfl rfl (zdk (cc := cX12_name) (q := (154, .lreturn, 1)) tkX12_name 83 rfl)
set_option maxHeartbeats 2000000 in
set_option maxRecDepth 20000 in
theorem coX12_name_J98 (l : Launch) (e : Nat) (he : 3 ≤ e) (v0 : Nat) : zCo l (e + 1) 0 0 iX12_name 98 [(0, .ref v0)] [] (X12_name_J98 v0) := by
  unfold X12_name_J98
  refine zco_p tkX12_name 49 3 (pc' := 101) (L' := [(0, .ref v0)]) (S' := [.ref v0, .int 1, .ref v0]) rfl ?_
  refine zco_gi fl_12_276 rfl (zdk (cc := cX12_name) (q := (101, .getfield 276, 3)) tkX12_name 52 rfl) (fun x1 => ?_)
  refine zco_Vv (rc := 0) (rs := 0) (mc := 0) (ms := 0) (As := [.int 1, .int x1]) (S := []) vmX12_fail (mtX12_fail l e (by omega) v0 1 x1) q_1759 rfl rfl (Nat.le_of_ble_eq_true rfl) (zdk (cc := cX12_name) (q := (104, .invokevirtual 300, 3)) tkX12_name 53 rfl) ?_
  refine zco_p tkX12_name 54 1 (pc' := 108) (L' := [(0, .ref v0)]) (S' := [.long 0]) rfl ?_
  exact zco_lret rfl rfl rfl (zdk (cc := cX12_name) (q := (108, .lreturn, 1)) tkX12_name 55 rfl)
set_option maxHeartbeats 2000000 in
set_option maxRecDepth 20000 in
theorem coX12_name_B58 (l : Launch) (e : Nat) (he : 3 ≤ e) (v0 : Nat) (r58 : Int64 → zM) (hr58 : ∀ x : Int64, zCo l (e + 1) 0 0 iX12_name 58 [(0, .ref v0), (1, .long x)] [] (r58 x)) (v1 : Int64) : zCo l (e + 1) 0 0 iX12_name 58 [(0, .ref v0), (1, .long v1)] [] (X12_name_B58 v0 r58 v1) := by
  unfold X12_name_B58
  refine zco_p tkX12_name 30 1 (pc' := 59) (L' := [(0, .ref v0), (1, .long v1)]) (S' := [.ref v0]) rfl ?_
  refine zco_gi fl_12_276 rfl (zdk (cc := cX12_name) (q := (59, .getfield 276, 3)) tkX12_name 31 rfl) (fun x1 => ?_)
  refine zco_p tkX12_name 32 1 (pc' := 63) (L' := [(0, .ref v0), (1, .long v1)]) (S' := [.ref v0, .int x1]) rfl ?_
  refine zco_gi fl_12_279 rfl (zdk (cc := cX12_name) (q := (63, .getfield 279, 3)) tkX12_name 33 rfl) (fun x2 => ?_)
  refine zco_icmp_ge (tgt := 145) (zdk (cc := cX12_name) (q := (66, .if_icmp .ge 79, 3)) tkX12_name 34 rfl) rfl ?_ ?_
  · exact zco_sub [0, 1] rfl (coX12_name_J145 l e he v0 v1)
  · refine zco_p tkX12_name 35 1 (pc' := 70) (L' := [(0, .ref v0), (1, .long v1)]) (S' := [.ref v0]) rfl ?_
    refine zco_gr fl_12_7 rfl (zdk (cc := cX12_name) (q := (70, .getfield 7, 3)) tkX12_name 36 rfl) (fun x3 => ?_)
    refine zco_p tkX12_name 37 1 (pc' := 74) (L' := [(0, .ref v0), (1, .long v1)]) (S' := [.ref v0, .ref x3]) rfl ?_
    refine zco_gi fl_12_276 rfl (zdk (cc := cX12_name) (q := (74, .getfield 276, 3)) tkX12_name 38 rfl) (fun x4 => ?_)
    refine zco_iaload (zdk (cc := cX12_name) (q := (77, .iaload, 1)) tkX12_name 39 rfl) (fun x5 => ?_)
    refine zco_Si (rc := 0) (rs := 0) (mc := 0) (ms := 0) (As := [.int x5]) (S := []) vmX12_isLetter (mtX12_isLetter l e (by omega) x5) q_1771 rfl rfl (Nat.le_of_ble_eq_true rfl) (zdk (cc := cX12_name) (q := (78, .invokestatic 286, 3)) tkX12_name 40 rfl) (fun y6 => ?_)
    refine zco_if_eq (tgt := 145) (zdk (cc := cX12_name) (q := (81, .ifCond .eq 64, 3)) tkX12_name 41 rfl) rfl ?_ ?_
    · exact zco_sub [0, 1] rfl (coX12_name_J145 l e he v0 v1)
    · refine zco_p tkX12_name 42 1 (pc' := 85) (L' := [(0, .ref v0), (1, .long v1)]) (S' := [.ref v0]) rfl ?_
      refine zco_gi fl_12_276 rfl (zdk (cc := cX12_name) (q := (85, .getfield 276, 3)) tkX12_name 43 rfl) (fun x7 => ?_)
      refine zco_p tkX12_name 44 1 (pc' := 89) (L' := [(0, .ref v0), (1, .long v1)]) (S' := [.ref v0, .int x7]) rfl ?_
      refine zco_gi fl_12_321 rfl (zdk (cc := cX12_name) (q := (89, .getfield 321, 3)) tkX12_name 45 rfl) (fun x8 => ?_)
      refine zco_p tkX12_name 46 2 (pc' := 95) (L' := [(0, .ref v0), (1, .long v1)]) (S' := [.int 6, .int (x7 - x8)]) rfl ?_
      refine zco_icmp_ne (tgt := 109) (zdk (cc := cX12_name) (q := (95, .if_icmp .ne 14, 3)) tkX12_name 48 rfl) rfl ?_ ?_
      · refine zco_ldc2 q_1786 (zdk (cc := cX12_name) (q := (109, .ldc2_w 324, 3)) tkX12_name 56 rfl) ?_
        refine zco_p tkX12_name 57 3 (pc' := 115) (L' := [(0, .ref v0), (1, .long v1)]) (S' := [.ref v0, .long (27 * v1)]) rfl ?_
        refine zco_gr fl_12_7 rfl (zdk (cc := cX12_name) (q := (115, .getfield 7, 3)) tkX12_name 60 rfl) (fun x9 => ?_)
        refine zco_p tkX12_name 61 1 (pc' := 119) (L' := [(0, .ref v0), (1, .long v1)]) (S' := [.ref v0, .ref x9, .long (27 * v1)]) rfl ?_
        refine zco_gi fl_12_276 rfl (zdk (cc := cX12_name) (q := (119, .getfield 276, 3)) tkX12_name 62 rfl) (fun x10 => ?_)
        refine zco_iaload (zdk (cc := cX12_name) (q := (122, .iaload, 1)) tkX12_name 63 rfl) (fun x11 => ?_)
        refine zco_p tkX12_name 64 2 (pc' := 125) (L' := [(0, .ref v0), (1, .long v1)]) (S' := [.long ((27 * v1) + x11.toInt64)]) rfl ?_
        refine zco_ldc2 q_1787 (zdk (cc := cX12_name) (q := (125, .ldc2_w 326, 3)) tkX12_name 66 rfl) ?_
        refine zco_p tkX12_name 67 6 (pc' := 134) (L' := [(1, .long ((((27 * v1) + x11.toInt64) - 97) + 1)), (0, .ref v0)]) (S' := [.ref v0, .ref v0]) rfl ?_
        refine zco_gi fl_12_276 rfl (zdk (cc := cX12_name) (q := (134, .getfield 276, 3)) tkX12_name 73 rfl) (fun x12 => ?_)
        refine zco_p tkX12_name 74 2 (pc' := 139) (L' := [(1, .long ((((27 * v1) + x11.toInt64) - 97) + 1)), (0, .ref v0)]) (S' := [.int (x12 + 1), .ref v0]) rfl ?_
        refine zco_pi fl_12_276 rfl rfl (zdk (cc := cX12_name) (q := (139, .putfield 276, 3)) tkX12_name 76 rfl) ?_
        refine zco_p tkX12_name 77 1 (pc' := 58) (L' := [(1, .long ((((27 * v1) + x11.toInt64) - 97) + 1)), (0, .ref v0)]) (S' := []) rfl ?_
        exact zco_sub [1, 0] rfl (hr58 ((((27 * v1) + x11.toInt64) - 97) + 1))
      · exact zco_sub [0] rfl (coX12_name_J98 l e he v0)
set_option maxHeartbeats 2000000 in
set_option maxRecDepth 20000 in
theorem coX12_name_J37 (l : Launch) (e : Nat) (he : 3 ≤ e) (v0 : Nat) : zCo l (e + 1) 0 0 iX12_name 37 [(0, .ref v0)] [] (X12_name_J37 v0) := by
  unfold X12_name_J37
  refine zco_p tkX12_name 17 3 (pc' := 40) (L' := [(0, .ref v0)]) (S' := [.ref v0, .int 1, .ref v0]) rfl ?_
  refine zco_gi fl_12_276 rfl (zdk (cc := cX12_name) (q := (40, .getfield 276, 3)) tkX12_name 20 rfl) (fun x1 => ?_)
  refine zco_Vv (rc := 0) (rs := 0) (mc := 0) (ms := 0) (As := [.int 1, .int x1]) (S := []) vmX12_fail (mtX12_fail l e (by omega) v0 1 x1) q_1759 rfl rfl (Nat.le_of_ble_eq_true rfl) (zdk (cc := cX12_name) (q := (43, .invokevirtual 300, 3)) tkX12_name 21 rfl) ?_
  refine zco_p tkX12_name 22 1 (pc' := 47) (L' := [(0, .ref v0)]) (S' := [.long 0]) rfl ?_
  exact zco_lret rfl rfl rfl (zdk (cc := cX12_name) (q := (47, .lreturn, 1)) tkX12_name 23 rfl)
set_option maxHeartbeats 2000000 in
set_option maxRecDepth 20000 in
theorem coX12_name (l : Launch) (e : Nat) (he : 3 ≤ e) (v0 : Nat) : zCo l (e + 1) 0 0 iX12_name 0 [(0, .ref v0)] [] (X12_name v0) := by
  unfold X12_name
  refine zco_p tkX12_name 0 1 (pc' := 1) (L' := [(0, .ref v0)]) (S' := [.ref v0]) rfl ?_
  refine zco_gi fl_12_270 rfl (zdk (cc := cX12_name) (q := (1, .getfield 270, 3)) tkX12_name 1 rfl) (fun x1 => ?_)
  refine zco_if_eq (tgt := 9) (zdk (cc := cX12_name) (q := (4, .ifCond .eq 5, 3)) tkX12_name 2 rfl) rfl ?_ ?_
  · refine zco_p tkX12_name 5 1 (pc' := 10) (L' := [(0, .ref v0)]) (S' := [.ref v0]) rfl ?_
    refine zco_Vi (rc := 0) (rs := 0) (mc := 0) (ms := 0) (As := []) (S := []) vmX12_look (mtX12_look l e (by omega) v0) q_1751 rfl rfl (Nat.le_of_ble_eq_true rfl) (zdk (cc := cX12_name) (q := (10, .invokevirtual 282, 3)) tkX12_name 6 rfl) (fun y2 => ?_)
    refine zco_Si (rc := 0) (rs := 0) (mc := 0) (ms := 0) (As := [.int y2]) (S := []) vmX12_isLetter (mtX12_isLetter l e (by omega) y2) q_1771 rfl rfl (Nat.le_of_ble_eq_true rfl) (zdk (cc := cX12_name) (q := (13, .invokestatic 286, 3)) tkX12_name 7 rfl) (fun y3 => ?_)
    refine zco_if_eq (tgt := 37) (zdk (cc := cX12_name) (q := (16, .ifCond .eq 21, 3)) tkX12_name 8 rfl) rfl ?_ ?_
    · exact zco_sub [0] rfl (coX12_name_J37 l e he v0)
    · refine zco_p tkX12_name 9 1 (pc' := 20) (L' := [(0, .ref v0)]) (S' := [.ref v0]) rfl ?_
      refine zco_gi fl_12_276 rfl (zdk (cc := cX12_name) (q := (20, .getfield 276, 3)) tkX12_name 10 rfl) (fun x4 => ?_)
      refine zco_p tkX12_name 11 1 (pc' := 24) (L' := [(0, .ref v0)]) (S' := [.ref v0, .int x4]) rfl ?_
      refine zco_gi fl_12_290 rfl (zdk (cc := cX12_name) (q := (24, .getfield 290, 3)) tkX12_name 12 rfl) (fun x5 => ?_)
      refine zco_icmp_eq (tgt := 37) (zdk (cc := cX12_name) (q := (27, .if_icmp .eq 10, 3)) tkX12_name 13 rfl) rfl ?_ ?_
      · exact zco_sub [0] rfl (coX12_name_J37 l e he v0)
      · refine zco_p tkX12_name 14 1 (pc' := 31) (L' := [(0, .ref v0)]) (S' := [.ref v0]) rfl ?_
        refine zco_Vi (rc := 0) (rs := 0) (mc := 0) (ms := 0) (As := []) (S := []) vmX12_isOwnHere (mtX12_isOwnHere l e (by omega) v0) q_1782 rfl rfl (Nat.le_of_ble_eq_true rfl) (zdk (cc := cX12_name) (q := (31, .invokevirtual 317, 3)) tkX12_name 15 rfl) (fun y6 => ?_)
        refine zco_if_eq (tgt := 48) (zdk (cc := cX12_name) (q := (34, .ifCond .eq 14, 3)) tkX12_name 16 rfl) rfl ?_ ?_
        · refine zco_p tkX12_name 24 2 (pc' := 50) (L' := [(0, .ref v0)]) (S' := [.ref v0, .ref v0]) rfl ?_
          refine zco_gi fl_12_276 rfl (zdk (cc := cX12_name) (q := (50, .getfield 276, 3)) tkX12_name 26 rfl) (fun x7 => ?_)
          refine zco_pi fl_12_321 rfl rfl (zdk (cc := cX12_name) (q := (53, .putfield 321, 3)) tkX12_name 27 rfl) ?_
          refine zco_p tkX12_name 28 2 (pc' := 58) (L' := [(1, .long 0), (0, .ref v0)]) (S' := []) rfl ?_
          exact zco_sub [1, 0] rfl (zco_fix (Lf := fun x : Int64 => [(0, .ref v0), (1, .long x)]) (Sf := fun _ => []) (fun r hr x => coX12_name_B58 l e he v0 r hr x) zFU 0)
        · exact zco_sub [0] rfl (coX12_name_J37 l e he v0)
  · refine zco_p tkX12_name 3 1 (pc' := 8) (L' := [(0, .ref v0)]) (S' := [.long 0]) rfl ?_
    exact zco_lret rfl rfl rfl (zdk (cc := cX12_name) (q := (8, .lreturn, 1)) tkX12_name 4 rfl)
theorem mtX12_name (l : Launch) (d : Nat) (hd : 4 ≤ d) (v0 : Nat) : zMet l d 0 0 yX12_name cX12_name 3 (Option.some .long) [.ref v0] (X12_name v0) := by
  obtain ⟨e, rfl⟩ : ∃ e, d = e + 1 := ⟨d - 1, by omega⟩
  exact zmet_of (own := RX12) (ini := false) (by decide +kernel) rfl (fun _ => by contradiction) (Nat.le_of_ble_eq_true rfl) (coX12_name l e (by omega) v0)
