abbrev iX12_qTakes : zI := (RX12, cX12_qTakes, 6, (Option.none : Option FieldType), false)
def tX12_qTakes : List (Nat × Instr × Nat) := [(0, .iload_n 1, 1), (1, .iconst 3, 1), (2, .if_icmp .ge 13, 3), (5, .lload_n 2, 1), (6, .lconst 1, 1), (7, .lcmp, 1), (8, .ifCond .ne 7, 3), (11, .iconst 1, 1), (12, .goto 4, 3), (15, .iconst 0, 1), (16, .istore 5, 2), (18, .iload_n 1, 1), (19, .ifCond .ne 19, 3), (22, .iload 5, 2), (24, .ifCond .eq 14, 3), (27, .aload_n 0, 1), (28, .getfield 703, 3), (31, .ldc2_w 706, 3), (34, .lcmp, 1), (35, .ifCond .eq 13, 3), (38, .iload_n 1, 1), (39, .iconst 1, 1), (40, .if_icmp .ne 15, 3), (43, .iload 5, 2), (45, .ifCond .eq 10, 3), (48, .aload_n 0, 1), (49, .iload 4, 2), (51, .i2l, 1), (52, .putfield 703, 3), (55, .iload_n 1, 1), (56, .iconst 2, 1), (57, .if_icmp .ne 18, 3), (60, .iload 5, 2), (62, .ifCond .eq 13, 3), (65, .aload_n 0, 1), (66, .dup, 1), (67, .getfield 703, 3), (70, .lconst 1, 1), (71, .ladd, 1), (72, .putfield 703, 3), (75, .iload_n 1, 1), (76, .iconst 3, 1), (77, .if_icmp .ne 13, 3), (80, .aload_n 0, 1), (81, .dup, 1), (82, .getfield 703, 3), (85, .lload_n 2, 1), (86, .ladd, 1), (87, .putfield 703, 3), (90, .iload_n 1, 1), (91, .iconst 3, 1), (92, .if_icmp .le 41, 3), (95, .aload_n 0, 1), (96, .getfield 708, 3), (99, .ifCond .ne 29, 3), (102, .iload_n 1, 1), (103, .iconst 4, 1), (104, .if_icmp .ne 15, 3), (107, .lload_n 2, 1), (108, .aload_n 0, 1), (109, .getfield 703, 3), (112, .lcmp, 1), (113, .ifCond .le 20, 3), (116, .goto 12, 3), (119, .lload_n 2, 1), (120, .aload_n 0, 1), (121, .getfield 703, 3), (124, .lcmp, 1), (125, .ifCond .ge 8, 3), (128, .aload_n 0, 1), (129, .lload_n 2, 1), (130, .putfield 703, 3), (133, .aload_n 0, 1), (134, .iconst 0, 1), (135, .putfield 708, 3), (138, .return_, 1)]
set_option maxRecDepth 100000 in
theorem tkX12_qTakes : ∀ q ∈ tX12_qTakes, decode cX12_qTakes q.1 = .ok q.2 := by decide +kernel
theorem vmX12_qTakes : zVM yX12_qTakes cX12_qTakes 6 (Option.none : Option FieldType) 3 12 := ⟨kX12_qTakes, q_2269, q_139, q_162, ⟨_, rfl, rfl⟩, by decide +kernel, by decide⟩
set_option maxHeartbeats 2000000 in
set_option maxRecDepth 20000 in
theorem coX12_qTakes_J133 (l : Launch) (e : Nat) (he : 0 ≤ e) (v0 : Nat) : zCo l (e + 1) 0 0 iX12_qTakes 133 [(0, .ref v0)] [] (X12_qTakes_J133 v0) := by
  unfold X12_qTakes_J133
  refine zco_p tkX12_qTakes 72 2 (pc' := 135) (L' := [(0, .ref v0)]) (S' := [.int 0, .ref v0]) rfl ?_
  refine zco_pb fl_12_708 rfl rfl (zdk (cc := cX12_qTakes) (q := (135, .putfield 708, 3)) tkX12_qTakes 74 rfl) ?_
  exact zco_vret rfl rfl rfl (zdk (cc := cX12_qTakes) (q := (138, .return_, 1)) tkX12_qTakes 75 rfl)
set_option maxHeartbeats 2000000 in
set_option maxRecDepth 20000 in
theorem coX12_qTakes_J128 (l : Launch) (e : Nat) (he : 0 ≤ e) (v0 : Nat) (v2 : Int64) : zCo l (e + 1) 0 0 iX12_qTakes 128 [(0, .ref v0), (2, .long v2)] [] (X12_qTakes_J128 v0 v2) := by
  unfold X12_qTakes_J128
  refine zco_p tkX12_qTakes 69 2 (pc' := 130) (L' := [(0, .ref v0), (2, .long v2)]) (S' := [.long v2, .ref v0]) rfl ?_
  refine zco_pl fl_12_703 rfl rfl (zdk (cc := cX12_qTakes) (q := (130, .putfield 703, 3)) tkX12_qTakes 71 rfl) ?_
  exact zco_sub [0] rfl (coX12_qTakes_J133 l e he v0)
set_option maxHeartbeats 2000000 in
set_option maxRecDepth 20000 in
theorem coX12_qTakes_J90 (l : Launch) (e : Nat) (he : 0 ≤ e) (v0 : Nat) (v1 : Int32) (v2 : Int64) : zCo l (e + 1) 0 0 iX12_qTakes 90 [(0, .ref v0), (1, .int v1), (2, .long v2)] [] (X12_qTakes_J90 v0 v1 v2) := by
  unfold X12_qTakes_J90
  refine zco_p tkX12_qTakes 49 2 (pc' := 92) (L' := [(0, .ref v0), (1, .int v1), (2, .long v2)]) (S' := [.int 3, .int v1]) rfl ?_
  refine zco_icmp_le (tgt := 133) (zdk (cc := cX12_qTakes) (q := (92, .if_icmp .le 41, 3)) tkX12_qTakes 51 rfl) rfl ?_ ?_
  · exact zco_sub [0] rfl (coX12_qTakes_J133 l e he v0)
  · refine zco_p tkX12_qTakes 52 1 (pc' := 96) (L' := [(0, .ref v0), (1, .int v1), (2, .long v2)]) (S' := [.ref v0]) rfl ?_
    refine zco_gi fl_12_708 rfl (zdk (cc := cX12_qTakes) (q := (96, .getfield 708, 3)) tkX12_qTakes 53 rfl) (fun x1 => ?_)
    refine zco_if_ne (tgt := 128) (zdk (cc := cX12_qTakes) (q := (99, .ifCond .ne 29, 3)) tkX12_qTakes 54 rfl) rfl ?_ ?_
    · exact zco_sub [0, 2] rfl (coX12_qTakes_J128 l e he v0 v2)
    · refine zco_p tkX12_qTakes 55 2 (pc' := 104) (L' := [(0, .ref v0), (1, .int v1), (2, .long v2)]) (S' := [.int 4, .int v1]) rfl ?_
      refine zco_icmp_ne (tgt := 119) (zdk (cc := cX12_qTakes) (q := (104, .if_icmp .ne 15, 3)) tkX12_qTakes 57 rfl) rfl ?_ ?_
      · refine zco_p tkX12_qTakes 64 2 (pc' := 121) (L' := [(0, .ref v0), (1, .int v1), (2, .long v2)]) (S' := [.ref v0, .long v2]) rfl ?_
        refine zco_gl fl_12_703 rfl (zdk (cc := cX12_qTakes) (q := (121, .getfield 703, 3)) tkX12_qTakes 66 rfl) (fun x2 => ?_)
        refine zco_lcmp_ge (tgt := 133) (zdk (cc := cX12_qTakes) (q := (124, .lcmp, 1)) tkX12_qTakes 67 rfl) (zdk (cc := cX12_qTakes) (q := (125, .ifCond .ge 8, 3)) tkX12_qTakes 68 rfl) rfl ?_ ?_
        · exact zco_sub [0] rfl (coX12_qTakes_J133 l e he v0)
        · exact zco_sub [0, 2] rfl (coX12_qTakes_J128 l e he v0 v2)
      · refine zco_p tkX12_qTakes 58 2 (pc' := 109) (L' := [(0, .ref v0), (1, .int v1), (2, .long v2)]) (S' := [.ref v0, .long v2]) rfl ?_
        refine zco_gl fl_12_703 rfl (zdk (cc := cX12_qTakes) (q := (109, .getfield 703, 3)) tkX12_qTakes 60 rfl) (fun x3 => ?_)
        refine zco_lcmp_le (tgt := 133) (zdk (cc := cX12_qTakes) (q := (112, .lcmp, 1)) tkX12_qTakes 61 rfl) (zdk (cc := cX12_qTakes) (q := (113, .ifCond .le 20, 3)) tkX12_qTakes 62 rfl) rfl ?_ ?_
        · exact zco_sub [0] rfl (coX12_qTakes_J133 l e he v0)
        · refine zco_p tkX12_qTakes 63 1 (pc' := 128) (L' := [(0, .ref v0), (1, .int v1), (2, .long v2)]) (S' := []) rfl ?_
          exact zco_sub [0, 2] rfl (coX12_qTakes_J128 l e he v0 v2)
set_option maxHeartbeats 2000000 in
set_option maxRecDepth 20000 in
theorem coX12_qTakes_J75 (l : Launch) (e : Nat) (he : 0 ≤ e) (v0 : Nat) (v1 : Int32) (v2 : Int64) : zCo l (e + 1) 0 0 iX12_qTakes 75 [(0, .ref v0), (1, .int v1), (2, .long v2)] [] (X12_qTakes_J75 v0 v1 v2) := by
  unfold X12_qTakes_J75
  refine zco_p tkX12_qTakes 40 2 (pc' := 77) (L' := [(0, .ref v0), (1, .int v1), (2, .long v2)]) (S' := [.int 3, .int v1]) rfl ?_
  refine zco_icmp_ne (tgt := 90) (zdk (cc := cX12_qTakes) (q := (77, .if_icmp .ne 13, 3)) tkX12_qTakes 42 rfl) rfl ?_ ?_
  · exact zco_sub [0, 1, 2] rfl (coX12_qTakes_J90 l e he v0 v1 v2)
  · refine zco_p tkX12_qTakes 43 2 (pc' := 82) (L' := [(0, .ref v0), (1, .int v1), (2, .long v2)]) (S' := [.ref v0, .ref v0]) rfl ?_
    refine zco_gl fl_12_703 rfl (zdk (cc := cX12_qTakes) (q := (82, .getfield 703, 3)) tkX12_qTakes 45 rfl) (fun x1 => ?_)
    refine zco_p tkX12_qTakes 46 2 (pc' := 87) (L' := [(0, .ref v0), (1, .int v1), (2, .long v2)]) (S' := [.long (x1 + v2), .ref v0]) rfl ?_
    refine zco_pl fl_12_703 rfl rfl (zdk (cc := cX12_qTakes) (q := (87, .putfield 703, 3)) tkX12_qTakes 48 rfl) ?_
    exact zco_sub [0, 1, 2] rfl (coX12_qTakes_J90 l e he v0 v1 v2)
set_option maxHeartbeats 2000000 in
set_option maxRecDepth 20000 in
theorem coX12_qTakes_J55 (l : Launch) (e : Nat) (he : 0 ≤ e) (v0 : Nat) (v1 : Int32) (v2 : Int64) (v5 : Int32) : zCo l (e + 1) 0 0 iX12_qTakes 55 [(0, .ref v0), (1, .int v1), (2, .long v2), (5, .int v5)] [] (X12_qTakes_J55 v0 v1 v2 v5) := by
  unfold X12_qTakes_J55
  refine zco_p tkX12_qTakes 29 2 (pc' := 57) (L' := [(0, .ref v0), (1, .int v1), (2, .long v2), (5, .int v5)]) (S' := [.int 2, .int v1]) rfl ?_
  refine zco_icmp_ne (tgt := 75) (zdk (cc := cX12_qTakes) (q := (57, .if_icmp .ne 18, 3)) tkX12_qTakes 31 rfl) rfl ?_ ?_
  · exact zco_sub [0, 1, 2] rfl (coX12_qTakes_J75 l e he v0 v1 v2)
  · refine zco_p tkX12_qTakes 32 1 (pc' := 62) (L' := [(0, .ref v0), (1, .int v1), (2, .long v2), (5, .int v5)]) (S' := [.int v5]) rfl ?_
    refine zco_if_eq (tgt := 75) (zdk (cc := cX12_qTakes) (q := (62, .ifCond .eq 13, 3)) tkX12_qTakes 33 rfl) rfl ?_ ?_
    · exact zco_sub [0, 1, 2] rfl (coX12_qTakes_J75 l e he v0 v1 v2)
    · refine zco_p tkX12_qTakes 34 2 (pc' := 67) (L' := [(0, .ref v0), (1, .int v1), (2, .long v2), (5, .int v5)]) (S' := [.ref v0, .ref v0]) rfl ?_
      refine zco_gl fl_12_703 rfl (zdk (cc := cX12_qTakes) (q := (67, .getfield 703, 3)) tkX12_qTakes 36 rfl) (fun x1 => ?_)
      refine zco_p tkX12_qTakes 37 2 (pc' := 72) (L' := [(0, .ref v0), (1, .int v1), (2, .long v2), (5, .int v5)]) (S' := [.long (x1 + 1), .ref v0]) rfl ?_
      refine zco_pl fl_12_703 rfl rfl (zdk (cc := cX12_qTakes) (q := (72, .putfield 703, 3)) tkX12_qTakes 39 rfl) ?_
      exact zco_sub [0, 1, 2] rfl (coX12_qTakes_J75 l e he v0 v1 v2)
set_option maxHeartbeats 2000000 in
set_option maxRecDepth 20000 in
theorem coX12_qTakes_J48 (l : Launch) (e : Nat) (he : 0 ≤ e) (v0 : Nat) (v1 : Int32) (v2 : Int64) (v4 : Int32) (v5 : Int32) : zCo l (e + 1) 0 0 iX12_qTakes 48 [(0, .ref v0), (1, .int v1), (2, .long v2), (4, .int v4), (5, .int v5)] [] (X12_qTakes_J48 v0 v1 v2 v4 v5) := by
  unfold X12_qTakes_J48
  refine zco_p tkX12_qTakes 25 3 (pc' := 52) (L' := [(0, .ref v0), (1, .int v1), (2, .long v2), (4, .int v4), (5, .int v5)]) (S' := [.long v4.toInt64, .ref v0]) rfl ?_
  refine zco_pl fl_12_703 rfl rfl (zdk (cc := cX12_qTakes) (q := (52, .putfield 703, 3)) tkX12_qTakes 28 rfl) ?_
  exact zco_sub [0, 1, 2, 4] rfl (coX12_qTakes_J55 l e he v0 v1 v2 v5)
set_option maxHeartbeats 2000000 in
set_option maxRecDepth 20000 in
theorem coX12_qTakes_J38 (l : Launch) (e : Nat) (he : 0 ≤ e) (v0 : Nat) (v1 : Int32) (v2 : Int64) (v4 : Int32) (v5 : Int32) : zCo l (e + 1) 0 0 iX12_qTakes 38 [(0, .ref v0), (1, .int v1), (2, .long v2), (4, .int v4), (5, .int v5)] [] (X12_qTakes_J38 v0 v1 v2 v4 v5) := by
  unfold X12_qTakes_J38
  refine zco_p tkX12_qTakes 20 2 (pc' := 40) (L' := [(0, .ref v0), (1, .int v1), (2, .long v2), (4, .int v4), (5, .int v5)]) (S' := [.int 1, .int v1]) rfl ?_
  refine zco_icmp_ne (tgt := 55) (zdk (cc := cX12_qTakes) (q := (40, .if_icmp .ne 15, 3)) tkX12_qTakes 22 rfl) rfl ?_ ?_
  · exact zco_sub [0, 1, 2, 4] rfl (coX12_qTakes_J55 l e he v0 v1 v2 v5)
  · refine zco_p tkX12_qTakes 23 1 (pc' := 45) (L' := [(0, .ref v0), (1, .int v1), (2, .long v2), (4, .int v4), (5, .int v5)]) (S' := [.int v5]) rfl ?_
    refine zco_if_eq (tgt := 55) (zdk (cc := cX12_qTakes) (q := (45, .ifCond .eq 10, 3)) tkX12_qTakes 24 rfl) rfl ?_ ?_
    · exact zco_sub [0, 1, 2, 4] rfl (coX12_qTakes_J55 l e he v0 v1 v2 v5)
    · exact zco_sub [0, 1, 2, 3, 4] rfl (coX12_qTakes_J48 l e he v0 v1 v2 v4 v5)
set_option maxHeartbeats 2000000 in
set_option maxRecDepth 20000 in
theorem coX12_qTakes_J16 (l : Launch) (e : Nat) (he : 0 ≤ e) (v0 : Nat) (v1 : Int32) (v2 : Int64) (v4 : Int32) (s0 : Int32) : zCo l (e + 1) 0 0 iX12_qTakes 16 [(0, .ref v0), (1, .int v1), (2, .long v2), (4, .int v4)] [.int s0] (X12_qTakes_J16 v0 v1 v2 v4 s0) := by
  unfold X12_qTakes_J16
  refine zco_p tkX12_qTakes 10 2 (pc' := 19) (L' := [(5, .int s0), (0, .ref v0), (1, .int v1), (2, .long v2), (4, .int v4)]) (S' := [.int v1]) rfl ?_
  refine zco_if_ne (tgt := 38) (zdk (cc := cX12_qTakes) (q := (19, .ifCond .ne 19, 3)) tkX12_qTakes 12 rfl) rfl ?_ ?_
  · exact zco_sub [1, 2, 3, 4, 0] rfl (coX12_qTakes_J38 l e he v0 v1 v2 v4 s0)
  · refine zco_p tkX12_qTakes 13 1 (pc' := 24) (L' := [(5, .int s0), (0, .ref v0), (1, .int v1), (2, .long v2), (4, .int v4)]) (S' := [.int s0]) rfl ?_
    refine zco_if_eq (tgt := 38) (zdk (cc := cX12_qTakes) (q := (24, .ifCond .eq 14, 3)) tkX12_qTakes 14 rfl) rfl ?_ ?_
    · exact zco_sub [1, 2, 3, 4, 0] rfl (coX12_qTakes_J38 l e he v0 v1 v2 v4 s0)
    · refine zco_p tkX12_qTakes 15 1 (pc' := 28) (L' := [(5, .int s0), (0, .ref v0), (1, .int v1), (2, .long v2), (4, .int v4)]) (S' := [.ref v0]) rfl ?_
      refine zco_gl fl_12_703 rfl (zdk (cc := cX12_qTakes) (q := (28, .getfield 703, 3)) tkX12_qTakes 16 rfl) (fun x1 => ?_)
      refine zco_ldc2 q_2258 (zdk (cc := cX12_qTakes) (q := (31, .ldc2_w 706, 3)) tkX12_qTakes 17 rfl) ?_
      refine zco_lcmp_eq (tgt := 48) (zdk (cc := cX12_qTakes) (q := (34, .lcmp, 1)) tkX12_qTakes 18 rfl) (zdk (cc := cX12_qTakes) (q := (35, .ifCond .eq 13, 3)) tkX12_qTakes 19 rfl) rfl ?_ ?_
      · exact zco_sub [1, 2, 3, 4, 0] rfl (coX12_qTakes_J48 l e he v0 v1 v2 v4 s0)
      · exact zco_sub [1, 2, 3, 4, 0] rfl (coX12_qTakes_J38 l e he v0 v1 v2 v4 s0)
set_option maxHeartbeats 2000000 in
set_option maxRecDepth 20000 in
theorem coX12_qTakes_J15 (l : Launch) (e : Nat) (he : 0 ≤ e) (v0 : Nat) (v1 : Int32) (v2 : Int64) (v4 : Int32) : zCo l (e + 1) 0 0 iX12_qTakes 15 [(0, .ref v0), (1, .int v1), (2, .long v2), (4, .int v4)] [] (X12_qTakes_J15 v0 v1 v2 v4) := by
  unfold X12_qTakes_J15
  refine zco_p tkX12_qTakes 9 1 (pc' := 16) (L' := [(0, .ref v0), (1, .int v1), (2, .long v2), (4, .int v4)]) (S' := [.int 0]) rfl ?_
  exact zco_sub [0, 1, 2, 3] rfl (coX12_qTakes_J16 l e he v0 v1 v2 v4 0)
set_option maxHeartbeats 2000000 in
set_option maxRecDepth 20000 in
theorem coX12_qTakes (l : Launch) (e : Nat) (he : 0 ≤ e) (v0 : Nat) (v1 : Int32) (v2 : Int64) (v4 : Int32) : zCo l (e + 1) 0 0 iX12_qTakes 0 [(0, .ref v0), (1, .int v1), (2, .long v2), (4, .int v4)] [] (X12_qTakes v0 v1 v2 v4) := by
  unfold X12_qTakes
  refine zco_p tkX12_qTakes 0 2 (pc' := 2) (L' := [(0, .ref v0), (1, .int v1), (2, .long v2), (4, .int v4)]) (S' := [.int 3, .int v1]) rfl ?_
  refine zco_icmp_ge (tgt := 15) (zdk (cc := cX12_qTakes) (q := (2, .if_icmp .ge 13, 3)) tkX12_qTakes 2 rfl) rfl ?_ ?_
  · exact zco_sub [0, 1, 2, 3] rfl (coX12_qTakes_J15 l e he v0 v1 v2 v4)
  · refine zco_p tkX12_qTakes 3 2 (pc' := 7) (L' := [(0, .ref v0), (1, .int v1), (2, .long v2), (4, .int v4)]) (S' := [.long 1, .long v2]) rfl ?_
    refine zco_lcmp_ne (tgt := 15) (zdk (cc := cX12_qTakes) (q := (7, .lcmp, 1)) tkX12_qTakes 5 rfl) (zdk (cc := cX12_qTakes) (q := (8, .ifCond .ne 7, 3)) tkX12_qTakes 6 rfl) rfl ?_ ?_
    · exact zco_sub [0, 1, 2, 3] rfl (coX12_qTakes_J15 l e he v0 v1 v2 v4)
    · refine zco_p tkX12_qTakes 7 2 (pc' := 16) (L' := [(0, .ref v0), (1, .int v1), (2, .long v2), (4, .int v4)]) (S' := [.int 1]) rfl ?_
      exact zco_sub [0, 1, 2, 3] rfl (coX12_qTakes_J16 l e he v0 v1 v2 v4 1)
theorem mtX12_qTakes (l : Launch) (d : Nat) (hd : 1 ≤ d) (v0 : Nat) (v1 : Int32) (v2 : Int64) (v4 : Int32) : zMet l d 0 0 yX12_qTakes cX12_qTakes 6 (Option.none : Option FieldType) [.ref v0, .int v1, .long v2, .int v4] (X12_qTakes v0 v1 v2 v4) := by
  obtain ⟨e, rfl⟩ : ∃ e, d = e + 1 := ⟨d - 1, by omega⟩
  exact zmet_of (own := RX12) (ini := false) (by decide +kernel) rfl (fun _ => by contradiction) (Nat.le_of_ble_eq_true rfl) (coX12_qTakes l e (by omega) v0 v1 v2 v4)
abbrev iX12_ask : zI := (RX12, cX12_ask, 3, (Option.some .long), false)
def tX12_ask : List (Nat × Instr × Nat) := [(0, .aload_n 0, 1), (1, .aload_n 0, 1), (2, .getfield 267, 3), (5, .putfield 279, 3), (8, .aload_n 0, 1), (9, .iconst 0, 1), (10, .putfield 267, 3), (13, .aload_n 0, 1), (14, .iconst 0, 1), (15, .putfield 276, 3), (18, .aload_n 0, 1), (19, .iconst (-1), 1), (20, .putfield 290, 3), (23, .aload_n 0, 1), (24, .iconst 0, 1), (25, .putfield 270, 3), (28, .aload_n 0, 1), (29, .iconst (-1), 1), (30, .putfield 273, 3), (33, .aload_n 0, 1), (34, .iconst 3, 1), (35, .putfield 328, 3), (38, .aload_n 0, 1), (39, .iconst 0, 1), (40, .putfield 353, 3), (43, .aload_n 0, 1), (44, .iconst 0, 1), (45, .putfield 356, 3), (48, .aload_n 0, 1), (49, .iconst 0, 1), (50, .putfield 359, 3), (53, .aload_n 0, 1), (54, .iconst 0, 1), (55, .putfield 362, 3), (58, .aload_n 0, 1), (59, .invokevirtual 711, 3), (62, .istore_n 1, 1), (63, .aload_n 0, 1), (64, .getfield 270, 3), (67, .ifCond .ne 15, 3), (70, .iload_n 1, 1), (71, .iconst 3, 1), (72, .if_icmp .ge 10, 3), (75, .aload_n 0, 1), (76, .invokevirtual 365, 3), (79, .goto 14, 3), (82, .aload_n 0, 1), (83, .getfield 270, 3), (86, .ifCond .ne 7, 3), (89, .aload_n 0, 1), (90, .invokevirtual 368, 3), (93, .aload_n 0, 1), (94, .getfield 270, 3), (97, .ifCond .ne 20, 3), (100, .aload_n 0, 1), (101, .invokevirtual 282, 3), (104, .iconst (-1), 1), (105, .if_icmp .eq 12, 3), (108, .aload_n 0, 1), (109, .iconst 1, 1), (110, .aload_n 0, 1), (111, .getfield 276, 3), (114, .invokevirtual 300, 3), (117, .aload_n 0, 1), (118, .aload_n 0, 1), (119, .getfield 270, 3), (122, .putfield 397, 3), (125, .aload_n 0, 1), (126, .aload_n 0, 1), (127, .getfield 273, 3), (130, .putfield 13, 3), (133, .aload_n 0, 1), (134, .getfield 270, 3), (137, .ifCond .eq 7, 3), (140, .ldc2_w 714, 3), (143, .lreturn, 1), (144, .aload_n 0, 1), (145, .iload_n 1, 1), (146, .iconst 2, 1), (147, .if_icmp .ge 9, 3), (150, .ldc2_w 706, 3), (153, .goto 4, 3), (156, .lconst 0, 1), (157, .putfield 703, 3), (160, .aload_n 0, 1), (161, .iconst 1, 1), (162, .putfield 708, 3), (165, .iconst 0, 1), (166, .istore_n 2, 1), (167, .iload_n 2, 1), (168, .aload_n 0, 1), (169, .invokevirtual 419, 3), (172, .if_icmp .ge 30, 3), (175, .aload_n 0, 1), (176, .iload_n 2, 1), (177, .putfield 458, 3), (180, .aload_n 0, 1), (181, .iload_n 2, 1), (182, .putfield 461, 3), (185, .aload_n 0, 1), (186, .iload_n 1, 1), (187, .aload_n 0, 1), (188, .iload_n 2, 1), (189, .invokevirtual 716, 3), (192, .iload_n 2, 1), (193, .invokevirtual 719, 3), (196, .iinc 2 1, 3), (199, .goto (-32), 3), (202, .aload_n 0, 1), (203, .getfield 703, 3), (206, .lreturn, 1)]
set_option maxRecDepth 100000 in
theorem tkX12_ask : ∀ q ∈ tX12_ask, decode cX12_ask q.1 = .ok q.2 := by decide +kernel
theorem vmX12_ask : zVM yX12_ask cX12_ask 3 (Option.some .long) 0 12 := ⟨kX12_ask, q_2250, q_2251, q_162, ⟨_, rfl, rfl⟩, by decide +kernel, by decide⟩
set_option maxHeartbeats 2000000 in
set_option maxRecDepth 20000 in
theorem coX12_ask_J202 (l : Launch) (e : Nat) (he : 9 ≤ e) (v0 : Nat) : zCo l (e + 1) 0 0 iX12_ask 202 [(0, .ref v0)] [] (X12_ask_J202 v0) := by
  unfold X12_ask_J202
  refine zco_p tkX12_ask 108 1 (pc' := 203) (L' := [(0, .ref v0)]) (S' := [.ref v0]) rfl ?_
  refine zco_gl fl_12_703 rfl (zdk (cc := cX12_ask) (q := (203, .getfield 703, 3)) tkX12_ask 109 rfl) (fun x1 => ?_)
  exact zco_lret rfl rfl rfl (zdk (cc := cX12_ask) (q := (206, .lreturn, 1)) tkX12_ask 110 rfl)
set_option maxHeartbeats 2000000 in
set_option maxRecDepth 20000 in
theorem coX12_ask_B167 (l : Launch) (e : Nat) (he : 9 ≤ e) (v0 : Nat) (v1 : Int32) (r167 : Int32 → zM) (hr167 : ∀ x : Int32, zCo l (e + 1) 0 0 iX12_ask 167 [(0, .ref v0), (1, .int v1), (2, .int x)] [] (r167 x)) (v2 : Int32) : zCo l (e + 1) 0 0 iX12_ask 167 [(0, .ref v0), (1, .int v1), (2, .int v2)] [] (X12_ask_B167 v0 v1 r167 v2) := by
  unfold X12_ask_B167
  refine zco_p tkX12_ask 89 2 (pc' := 169) (L' := [(0, .ref v0), (1, .int v1), (2, .int v2)]) (S' := [.ref v0, .int v2]) rfl ?_
  refine zco_Vi (rc := 0) (rs := 0) (mc := 0) (ms := 0) (As := []) (S := [.int v2]) vmX12_peopleMany (mtX12_peopleMany l e (by omega) v0) q_1940 rfl rfl (Nat.le_of_ble_eq_true rfl) (zdk (cc := cX12_ask) (q := (169, .invokevirtual 419, 3)) tkX12_ask 91 rfl) (fun y1 => ?_)
  refine zco_icmp_ge (tgt := 202) (zdk (cc := cX12_ask) (q := (172, .if_icmp .ge 30, 3)) tkX12_ask 92 rfl) rfl ?_ ?_
  · exact zco_sub [0] rfl (coX12_ask_J202 l e he v0)
  · refine zco_p tkX12_ask 93 2 (pc' := 177) (L' := [(0, .ref v0), (1, .int v1), (2, .int v2)]) (S' := [.int v2, .ref v0]) rfl ?_
    refine zco_pi fl_12_458 rfl rfl (zdk (cc := cX12_ask) (q := (177, .putfield 458, 3)) tkX12_ask 95 rfl) ?_
    refine zco_p tkX12_ask 96 2 (pc' := 182) (L' := [(0, .ref v0), (1, .int v1), (2, .int v2)]) (S' := [.int v2, .ref v0]) rfl ?_
    refine zco_pi fl_12_461 rfl rfl (zdk (cc := cX12_ask) (q := (182, .putfield 461, 3)) tkX12_ask 98 rfl) ?_
    refine zco_p tkX12_ask 99 4 (pc' := 189) (L' := [(0, .ref v0), (1, .int v1), (2, .int v2)]) (S' := [.int v2, .ref v0, .int v1, .ref v0]) rfl ?_
    refine zco_Vl (rc := 0) (rs := 0) (mc := 0) (ms := 0) (As := [.int v2]) (S := [.int v1, .ref v0]) vmX12_qTold (mtX12_qTold l e (by omega) v0 v2) q_2259 rfl rfl (Nat.le_of_ble_eq_true rfl) (zdk (cc := cX12_ask) (q := (189, .invokevirtual 716, 3)) tkX12_ask 103 rfl) (fun y2 => ?_)
    refine zco_p tkX12_ask 104 1 (pc' := 193) (L' := [(0, .ref v0), (1, .int v1), (2, .int v2)]) (S' := [.int v2, .long y2, .int v1, .ref v0]) rfl ?_
    refine zco_Vv (rc := 0) (rs := 0) (mc := 0) (ms := 0) (As := [.int v1, .long y2, .int v2]) (S := []) vmX12_qTakes (mtX12_qTakes l e (by omega) v0 v1 y2 v2) q_2267 rfl rfl (Nat.le_of_ble_eq_true rfl) (zdk (cc := cX12_ask) (q := (193, .invokevirtual 719, 3)) tkX12_ask 105 rfl) ?_
    refine zco_p tkX12_ask 106 2 (pc' := 167) (L' := [(2, .int (v2 + 1)), (0, .ref v0), (1, .int v1)]) (S' := []) rfl ?_
    exact zco_sub [1, 2, 0] rfl (hr167 (v2 + 1))
set_option maxHeartbeats 2000000 in
set_option maxRecDepth 20000 in
theorem coX12_ask_J157 (l : Launch) (e : Nat) (he : 9 ≤ e) (v0 : Nat) (v1 : Int32) (s0 : Int64) (s1 : Nat) : zCo l (e + 1) 0 0 iX12_ask 157 [(0, .ref v0), (1, .int v1)] [.long s0, .ref s1] (X12_ask_J157 v0 v1 s0 s1) := by
  unfold X12_ask_J157
  refine zco_pl fl_12_703 rfl rfl (zdk (cc := cX12_ask) (q := (157, .putfield 703, 3)) tkX12_ask 83 rfl) ?_
  refine zco_p tkX12_ask 84 2 (pc' := 162) (L' := [(0, .ref v0), (1, .int v1)]) (S' := [.int 1, .ref v0]) rfl ?_
  refine zco_pb fl_12_708 rfl rfl (zdk (cc := cX12_ask) (q := (162, .putfield 708, 3)) tkX12_ask 86 rfl) ?_
  refine zco_p tkX12_ask 87 2 (pc' := 167) (L' := [(2, .int 0), (0, .ref v0), (1, .int v1)]) (S' := []) rfl ?_
  exact zco_sub [1, 2, 0] rfl (zco_fix (Lf := fun x : Int32 => [(0, .ref v0), (1, .int v1), (2, .int x)]) (Sf := fun _ => []) (fun r hr x => coX12_ask_B167 l e he v0 v1 r hr x) zFU 0)
set_option maxHeartbeats 2000000 in
set_option maxRecDepth 20000 in
theorem coX12_ask_J117 (l : Launch) (e : Nat) (he : 9 ≤ e) (v0 : Nat) (v1 : Int32) : zCo l (e + 1) 0 0 iX12_ask 117 [(0, .ref v0), (1, .int v1)] [] (X12_ask_J117 v0 v1) := by
  unfold X12_ask_J117
  refine zco_p tkX12_ask 63 2 (pc' := 119) (L' := [(0, .ref v0), (1, .int v1)]) (S' := [.ref v0, .ref v0]) rfl ?_
  refine zco_gi fl_12_270 rfl (zdk (cc := cX12_ask) (q := (119, .getfield 270, 3)) tkX12_ask 65 rfl) (fun x1 => ?_)
  refine zco_pi fl_12_397 rfl rfl (zdk (cc := cX12_ask) (q := (122, .putfield 397, 3)) tkX12_ask 66 rfl) ?_
  refine zco_p tkX12_ask 67 2 (pc' := 127) (L' := [(0, .ref v0), (1, .int v1)]) (S' := [.ref v0, .ref v0]) rfl ?_
  refine zco_gi fl_12_273 rfl (zdk (cc := cX12_ask) (q := (127, .getfield 273, 3)) tkX12_ask 69 rfl) (fun x2 => ?_)
  refine zco_pi fl_12_13 rfl rfl (zdk (cc := cX12_ask) (q := (130, .putfield 13, 3)) tkX12_ask 70 rfl) ?_
  refine zco_p tkX12_ask 71 1 (pc' := 134) (L' := [(0, .ref v0), (1, .int v1)]) (S' := [.ref v0]) rfl ?_
  refine zco_gi fl_12_270 rfl (zdk (cc := cX12_ask) (q := (134, .getfield 270, 3)) tkX12_ask 72 rfl) (fun x3 => ?_)
  refine zco_if_eq (tgt := 144) (zdk (cc := cX12_ask) (q := (137, .ifCond .eq 7, 3)) tkX12_ask 73 rfl) rfl ?_ ?_
  · refine zco_p tkX12_ask 76 3 (pc' := 147) (L' := [(0, .ref v0), (1, .int v1)]) (S' := [.int 2, .int v1, .ref v0]) rfl ?_
    refine zco_icmp_ge (tgt := 156) (zdk (cc := cX12_ask) (q := (147, .if_icmp .ge 9, 3)) tkX12_ask 79 rfl) rfl ?_ ?_
    · refine zco_p tkX12_ask 82 1 (pc' := 157) (L' := [(0, .ref v0), (1, .int v1)]) (S' := [.long 0, .ref v0]) rfl ?_
      exact zco_sub [0, 1] rfl (coX12_ask_J157 l e he v0 v1 0 v0)
    · refine zco_ldc2 q_2258 (zdk (cc := cX12_ask) (q := (150, .ldc2_w 706, 3)) tkX12_ask 80 rfl) ?_
      refine zco_p tkX12_ask 81 1 (pc' := 157) (L' := [(0, .ref v0), (1, .int v1)]) (S' := [.long ((-1)), .ref v0]) rfl ?_
      exact zco_sub [0, 1] rfl (coX12_ask_J157 l e he v0 v1 ((-1)) v0)
  · refine zco_ldc2 q_2257 (zdk (cc := cX12_ask) (q := (140, .ldc2_w 714, 3)) tkX12_ask 74 rfl) ?_
    exact zco_lret rfl rfl rfl (zdk (cc := cX12_ask) (q := (143, .lreturn, 1)) tkX12_ask 75 rfl)
set_option maxHeartbeats 2000000 in
set_option maxRecDepth 20000 in
theorem coX12_ask_J93 (l : Launch) (e : Nat) (he : 9 ≤ e) (v0 : Nat) (v1 : Int32) : zCo l (e + 1) 0 0 iX12_ask 93 [(0, .ref v0), (1, .int v1)] [] (X12_ask_J93 v0 v1) := by
  unfold X12_ask_J93
  refine zco_p tkX12_ask 51 1 (pc' := 94) (L' := [(0, .ref v0), (1, .int v1)]) (S' := [.ref v0]) rfl ?_
  refine zco_gi fl_12_270 rfl (zdk (cc := cX12_ask) (q := (94, .getfield 270, 3)) tkX12_ask 52 rfl) (fun x1 => ?_)
  refine zco_if_ne (tgt := 117) (zdk (cc := cX12_ask) (q := (97, .ifCond .ne 20, 3)) tkX12_ask 53 rfl) rfl ?_ ?_
  · exact zco_sub [0, 1] rfl (coX12_ask_J117 l e he v0 v1)
  · refine zco_p tkX12_ask 54 1 (pc' := 101) (L' := [(0, .ref v0), (1, .int v1)]) (S' := [.ref v0]) rfl ?_
    refine zco_Vi (rc := 0) (rs := 0) (mc := 0) (ms := 0) (As := []) (S := []) vmX12_look (mtX12_look l e (by omega) v0) q_1751 rfl rfl (Nat.le_of_ble_eq_true rfl) (zdk (cc := cX12_ask) (q := (101, .invokevirtual 282, 3)) tkX12_ask 55 rfl) (fun y2 => ?_)
    refine zco_p tkX12_ask 56 1 (pc' := 105) (L' := [(0, .ref v0), (1, .int v1)]) (S' := [.int ((-1)), .int y2]) rfl ?_
    refine zco_icmp_eq (tgt := 117) (zdk (cc := cX12_ask) (q := (105, .if_icmp .eq 12, 3)) tkX12_ask 57 rfl) rfl ?_ ?_
    · exact zco_sub [0, 1] rfl (coX12_ask_J117 l e he v0 v1)
    · refine zco_p tkX12_ask 58 3 (pc' := 111) (L' := [(0, .ref v0), (1, .int v1)]) (S' := [.ref v0, .int 1, .ref v0]) rfl ?_
      refine zco_gi fl_12_276 rfl (zdk (cc := cX12_ask) (q := (111, .getfield 276, 3)) tkX12_ask 61 rfl) (fun x3 => ?_)
      refine zco_Vv (rc := 0) (rs := 0) (mc := 0) (ms := 0) (As := [.int 1, .int x3]) (S := []) vmX12_fail (mtX12_fail l e (by omega) v0 1 x3) q_1759 rfl rfl (Nat.le_of_ble_eq_true rfl) (zdk (cc := cX12_ask) (q := (114, .invokevirtual 300, 3)) tkX12_ask 62 rfl) ?_
      exact zco_sub [0, 1] rfl (coX12_ask_J117 l e he v0 v1)
set_option maxHeartbeats 2000000 in
set_option maxRecDepth 20000 in
theorem coX12_ask_J82 (l : Launch) (e : Nat) (he : 9 ≤ e) (v0 : Nat) (v1 : Int32) : zCo l (e + 1) 0 0 iX12_ask 82 [(0, .ref v0), (1, .int v1)] [] (X12_ask_J82 v0 v1) := by
  unfold X12_ask_J82
  refine zco_p tkX12_ask 46 1 (pc' := 83) (L' := [(0, .ref v0), (1, .int v1)]) (S' := [.ref v0]) rfl ?_
  refine zco_gi fl_12_270 rfl (zdk (cc := cX12_ask) (q := (83, .getfield 270, 3)) tkX12_ask 47 rfl) (fun x1 => ?_)
  refine zco_if_ne (tgt := 93) (zdk (cc := cX12_ask) (q := (86, .ifCond .ne 7, 3)) tkX12_ask 48 rfl) rfl ?_ ?_
  · exact zco_sub [0, 1] rfl (coX12_ask_J93 l e he v0 v1)
  · refine zco_p tkX12_ask 49 1 (pc' := 90) (L' := [(0, .ref v0), (1, .int v1)]) (S' := [.ref v0]) rfl ?_
    refine zco_Vv (rc := 0) (rs := 0) (mc := 0) (ms := 0) (As := []) (S := []) vmX12_qSums (mtX12_qSums l e (by omega) v0) q_1834 rfl rfl (Nat.le_of_ble_eq_true rfl) (zdk (cc := cX12_ask) (q := (90, .invokevirtual 368, 3)) tkX12_ask 50 rfl) ?_
    exact zco_sub [0, 1] rfl (coX12_ask_J93 l e he v0 v1)
set_option maxHeartbeats 2000000 in
set_option maxRecDepth 20000 in
theorem coX12_ask (l : Launch) (e : Nat) (he : 9 ≤ e) (v0 : Nat) : zCo l (e + 1) 0 0 iX12_ask 0 [(0, .ref v0)] [] (X12_ask v0) := by
  unfold X12_ask
  refine zco_p tkX12_ask 0 2 (pc' := 2) (L' := [(0, .ref v0)]) (S' := [.ref v0, .ref v0]) rfl ?_
  refine zco_gi fl_12_267 rfl (zdk (cc := cX12_ask) (q := (2, .getfield 267, 3)) tkX12_ask 2 rfl) (fun x1 => ?_)
  refine zco_pi fl_12_279 rfl rfl (zdk (cc := cX12_ask) (q := (5, .putfield 279, 3)) tkX12_ask 3 rfl) ?_
  refine zco_p tkX12_ask 4 2 (pc' := 10) (L' := [(0, .ref v0)]) (S' := [.int 0, .ref v0]) rfl ?_
  refine zco_pi fl_12_267 rfl rfl (zdk (cc := cX12_ask) (q := (10, .putfield 267, 3)) tkX12_ask 6 rfl) ?_
  refine zco_p tkX12_ask 7 2 (pc' := 15) (L' := [(0, .ref v0)]) (S' := [.int 0, .ref v0]) rfl ?_
  refine zco_pi fl_12_276 rfl rfl (zdk (cc := cX12_ask) (q := (15, .putfield 276, 3)) tkX12_ask 9 rfl) ?_
  refine zco_p tkX12_ask 10 2 (pc' := 20) (L' := [(0, .ref v0)]) (S' := [.int ((-1)), .ref v0]) rfl ?_
  refine zco_pi fl_12_290 rfl rfl (zdk (cc := cX12_ask) (q := (20, .putfield 290, 3)) tkX12_ask 12 rfl) ?_
  refine zco_p tkX12_ask 13 2 (pc' := 25) (L' := [(0, .ref v0)]) (S' := [.int 0, .ref v0]) rfl ?_
  refine zco_pi fl_12_270 rfl rfl (zdk (cc := cX12_ask) (q := (25, .putfield 270, 3)) tkX12_ask 15 rfl) ?_
  refine zco_p tkX12_ask 16 2 (pc' := 30) (L' := [(0, .ref v0)]) (S' := [.int ((-1)), .ref v0]) rfl ?_
  refine zco_pi fl_12_273 rfl rfl (zdk (cc := cX12_ask) (q := (30, .putfield 273, 3)) tkX12_ask 18 rfl) ?_
  refine zco_p tkX12_ask 19 2 (pc' := 35) (L' := [(0, .ref v0)]) (S' := [.int 3, .ref v0]) rfl ?_
  refine zco_pi fl_12_328 rfl rfl (zdk (cc := cX12_ask) (q := (35, .putfield 328, 3)) tkX12_ask 21 rfl) ?_
  refine zco_p tkX12_ask 22 2 (pc' := 40) (L' := [(0, .ref v0)]) (S' := [.int 0, .ref v0]) rfl ?_
  refine zco_pi fl_12_353 rfl rfl (zdk (cc := cX12_ask) (q := (40, .putfield 353, 3)) tkX12_ask 24 rfl) ?_
  refine zco_p tkX12_ask 25 2 (pc' := 45) (L' := [(0, .ref v0)]) (S' := [.int 0, .ref v0]) rfl ?_
  refine zco_pi fl_12_356 rfl rfl (zdk (cc := cX12_ask) (q := (45, .putfield 356, 3)) tkX12_ask 27 rfl) ?_
  refine zco_p tkX12_ask 28 2 (pc' := 50) (L' := [(0, .ref v0)]) (S' := [.int 0, .ref v0]) rfl ?_
  refine zco_pi fl_12_359 rfl rfl (zdk (cc := cX12_ask) (q := (50, .putfield 359, 3)) tkX12_ask 30 rfl) ?_
  refine zco_p tkX12_ask 31 2 (pc' := 55) (L' := [(0, .ref v0)]) (S' := [.int 0, .ref v0]) rfl ?_
  refine zco_pi fl_12_362 rfl rfl (zdk (cc := cX12_ask) (q := (55, .putfield 362, 3)) tkX12_ask 33 rfl) ?_
  refine zco_p tkX12_ask 34 1 (pc' := 59) (L' := [(0, .ref v0)]) (S' := [.ref v0]) rfl ?_
  refine zco_Vi (rc := 0) (rs := 0) (mc := 0) (ms := 0) (As := []) (S := []) vmX12_qKind (mtX12_qKind l e (by omega) v0) q_2253 rfl rfl (Nat.le_of_ble_eq_true rfl) (zdk (cc := cX12_ask) (q := (59, .invokevirtual 711, 3)) tkX12_ask 35 rfl) (fun y2 => ?_)
  refine zco_p tkX12_ask 36 2 (pc' := 64) (L' := [(1, .int y2), (0, .ref v0)]) (S' := [.ref v0]) rfl ?_
  refine zco_gi fl_12_270 rfl (zdk (cc := cX12_ask) (q := (64, .getfield 270, 3)) tkX12_ask 38 rfl) (fun x3 => ?_)
  refine zco_if_ne (tgt := 82) (zdk (cc := cX12_ask) (q := (67, .ifCond .ne 15, 3)) tkX12_ask 39 rfl) rfl ?_ ?_
  · exact zco_sub [1, 0] rfl (coX12_ask_J82 l e he v0 y2)
  · refine zco_p tkX12_ask 40 2 (pc' := 72) (L' := [(1, .int y2), (0, .ref v0)]) (S' := [.int 3, .int y2]) rfl ?_
    refine zco_icmp_ge (tgt := 82) (zdk (cc := cX12_ask) (q := (72, .if_icmp .ge 10, 3)) tkX12_ask 42 rfl) rfl ?_ ?_
    · exact zco_sub [1, 0] rfl (coX12_ask_J82 l e he v0 y2)
    · refine zco_p tkX12_ask 43 1 (pc' := 76) (L' := [(1, .int y2), (0, .ref v0)]) (S' := [.ref v0]) rfl ?_
      refine zco_Vv (rc := 0) (rs := 0) (mc := 0) (ms := 0) (As := []) (S := []) vmX12_qTest (mtX12_qTest l e (by omega) v0) q_1818 rfl rfl (Nat.le_of_ble_eq_true rfl) (zdk (cc := cX12_ask) (q := (76, .invokevirtual 365, 3)) tkX12_ask 44 rfl) ?_
      refine zco_p tkX12_ask 45 1 (pc' := 93) (L' := [(1, .int y2), (0, .ref v0)]) (S' := []) rfl ?_
      exact zco_sub [1, 0] rfl (coX12_ask_J93 l e he v0 y2)
theorem mtX12_ask (l : Launch) (d : Nat) (hd : 10 ≤ d) (v0 : Nat) : zMet l d 0 0 yX12_ask cX12_ask 3 (Option.some .long) [.ref v0] (X12_ask v0) := by
  obtain ⟨e, rfl⟩ : ∃ e, d = e + 1 := ⟨d - 1, by omega⟩
  exact zmet_of (own := RX12) (ini := false) (by decide +kernel) rfl (fun _ => by contradiction) (Nat.le_of_ble_eq_true rfl) (coX12_ask l e (by omega) v0)
abbrev iX12_checked : zI := (RX12, cX12_checked, 4, (Option.some .int), false)
def tX12_checked : List (Nat × Instr × Nat) := [(0, .sipush 163, 3), (3, .istore_n 2, 1), (4, .iconst 0, 1), (5, .istore_n 3, 1), (6, .iload_n 3, 1), (7, .iload_n 1, 1), (8, .if_icmp .ge 21, 3), (11, .iconst 3, 1), (12, .iload_n 2, 1), (13, .imul, 1), (14, .aload_n 0, 1), (15, .iload_n 3, 1), (16, .iaload, 1), (17, .iadd, 1), (18, .sipush 251, 3), (21, .irem, 1), (22, .istore_n 2, 1), (23, .iinc 3 1, 3), (26, .goto (-20), 3), (29, .iload_n 2, 1), (30, .ireturn, 1)]
set_option maxRecDepth 100000 in
theorem tkX12_checked : ∀ q ∈ tX12_checked, decode cX12_checked q.1 = .ok q.2 := by decide +kernel
theorem vmX12_checked : zSM yX12_checked cX12_checked 4 (Option.some .int) 2 := ⟨kX12_checked, q_2292, q_162, by decide +kernel, by decide⟩
set_option maxHeartbeats 2000000 in
set_option maxRecDepth 20000 in
theorem coX12_checked_B6 (l : Launch) (e : Nat) (he : 0 ≤ e) (v0 : Nat) (v1 : Int32) (r6 : Int32 × Int32 → zM) (hr6 : ∀ x : Int32 × Int32, zCo l (e + 1) 0 0 iX12_checked 6 [(0, .ref v0), (1, .int v1), (2, .int x.1), (3, .int x.2)] [] (r6 x)) (v2 : Int32) (v3 : Int32) : zCo l (e + 1) 0 0 iX12_checked 6 [(0, .ref v0), (1, .int v1), (2, .int v2), (3, .int v3)] [] (X12_checked_B6 v0 v1 r6 v2 v3) := by
  unfold X12_checked_B6
  refine zco_p tkX12_checked 4 2 (pc' := 8) (L' := [(0, .ref v0), (1, .int v1), (2, .int v2), (3, .int v3)]) (S' := [.int v1, .int v3]) rfl ?_
  refine zco_icmp_ge (tgt := 29) (zdk (cc := cX12_checked) (q := (8, .if_icmp .ge 21, 3)) tkX12_checked 6 rfl) rfl ?_ ?_
  · refine zco_p tkX12_checked 19 1 (pc' := 30) (L' := [(0, .ref v0), (1, .int v1), (2, .int v2), (3, .int v3)]) (S' := [.int v2]) rfl ?_
    exact zco_iret rfl rfl rfl (zdk (cc := cX12_checked) (q := (30, .ireturn, 1)) tkX12_checked 20 rfl)
  · refine zco_p tkX12_checked 7 5 (pc' := 16) (L' := [(0, .ref v0), (1, .int v1), (2, .int v2), (3, .int v3)]) (S' := [.int v3, .ref v0, .int (3 * v2)]) rfl ?_
    refine zco_iaload (zdk (cc := cX12_checked) (q := (16, .iaload, 1)) tkX12_checked 12 rfl) (fun x1 => ?_)
    refine zco_p tkX12_checked 13 2 (pc' := 21) (L' := [(0, .ref v0), (1, .int v1), (2, .int v2), (3, .int v3)]) (S' := [.int 251, .int ((3 * v2) + x1)]) rfl ?_
    refine zco_irem (zdk (cc := cX12_checked) (q := (21, .irem, 1)) tkX12_checked 15 rfl) ?_
    refine zco_p tkX12_checked 16 3 (pc' := 6) (L' := [(3, .int (v3 + 1)), (2, .int (((3 * v2) + x1) - ((3 * v2) + x1) / 251 * 251)), (0, .ref v0), (1, .int v1)]) (S' := []) rfl ?_
    exact zco_sub [2, 3, 1, 0] rfl (hr6 (((3 * v2) + x1) - ((3 * v2) + x1) / 251 * 251, v3 + 1))
set_option maxHeartbeats 2000000 in
set_option maxRecDepth 20000 in
theorem coX12_checked (l : Launch) (e : Nat) (he : 0 ≤ e) (v0 : Nat) (v1 : Int32) : zCo l (e + 1) 0 0 iX12_checked 0 [(0, .ref v0), (1, .int v1)] [] (X12_checked v0 v1) := by
  unfold X12_checked
  refine zco_p tkX12_checked 0 4 (pc' := 6) (L' := [(3, .int 0), (2, .int 163), (0, .ref v0), (1, .int v1)]) (S' := []) rfl ?_
  exact zco_sub [2, 3, 1, 0] rfl (zco_fix (Lf := fun x : Int32 × Int32 => [(0, .ref v0), (1, .int v1), (2, .int x.1), (3, .int x.2)]) (Sf := fun _ => []) (fun r hr x => coX12_checked_B6 l e he v0 v1 r hr x.1 x.2) zFU (163, 0))
theorem mtX12_checked (l : Launch) (d : Nat) (hd : 1 ≤ d) (v0 : Nat) (v1 : Int32) : zMet l d 0 0 yX12_checked cX12_checked 4 (Option.some .int) [.ref v0, .int v1] (X12_checked v0 v1) := by
  obtain ⟨e, rfl⟩ : ∃ e, d = e + 1 := ⟨d - 1, by omega⟩
  exact zmet_of (own := RX12) (ini := false) (by decide +kernel) rfl (fun _ => by contradiction) (Nat.le_of_ble_eq_true rfl) (coX12_checked l e (by omega) v0 v1)
abbrev iX12_writes : zI := (RX12, cX12_writes, 2, (Option.none : Option FieldType), false)
def tX12_writes : List (Nat × Instr × Nat) := [(0, .aload_n 0, 1), (1, .getfield 264, 3), (4, .aload_n 0, 1), (5, .getfield 723, 3), (8, .iload_n 1, 1), (9, .iastore, 1), (10, .aload_n 0, 1), (11, .dup, 1), (12, .getfield 723, 3), (15, .iconst 1, 1), (16, .iadd, 1), (17, .putfield 723, 3), (20, .return_, 1)]
set_option maxRecDepth 100000 in
theorem tkX12_writes : ∀ q ∈ tX12_writes, decode cX12_writes q.1 = .ok q.2 := by decide +kernel
theorem vmX12_writes : zVM yX12_writes cX12_writes 2 (Option.none : Option FieldType) 1 12 := ⟨kX12_writes, q_2289, q_141, q_162, ⟨_, rfl, rfl⟩, by decide +kernel, by decide⟩
set_option maxHeartbeats 2000000 in
set_option maxRecDepth 20000 in
theorem coX12_writes (l : Launch) (e : Nat) (he : 0 ≤ e) (v0 : Nat) (v1 : Int32) : zCo l (e + 1) 0 0 iX12_writes 0 [(0, .ref v0), (1, .int v1)] [] (X12_writes v0 v1) := by
  unfold X12_writes
  refine zco_p tkX12_writes 0 1 (pc' := 1) (L' := [(0, .ref v0), (1, .int v1)]) (S' := [.ref v0]) rfl ?_
  refine zco_gr fl_12_264 rfl (zdk (cc := cX12_writes) (q := (1, .getfield 264, 3)) tkX12_writes 1 rfl) (fun x1 => ?_)
  refine zco_p tkX12_writes 2 1 (pc' := 5) (L' := [(0, .ref v0), (1, .int v1)]) (S' := [.ref v0, .ref x1]) rfl ?_
  refine zco_gi fl_12_723 rfl (zdk (cc := cX12_writes) (q := (5, .getfield 723, 3)) tkX12_writes 3 rfl) (fun x2 => ?_)
  refine zco_p tkX12_writes 4 1 (pc' := 9) (L' := [(0, .ref v0), (1, .int v1)]) (S' := [.int v1, .int x2, .ref x1]) rfl ?_
  refine zco_iastore (zdk (cc := cX12_writes) (q := (9, .iastore, 1)) tkX12_writes 5 rfl) ?_
  refine zco_p tkX12_writes 6 2 (pc' := 12) (L' := [(0, .ref v0), (1, .int v1)]) (S' := [.ref v0, .ref v0]) rfl ?_
  refine zco_gi fl_12_723 rfl (zdk (cc := cX12_writes) (q := (12, .getfield 723, 3)) tkX12_writes 8 rfl) (fun x3 => ?_)
  refine zco_p tkX12_writes 9 2 (pc' := 17) (L' := [(0, .ref v0), (1, .int v1)]) (S' := [.int (x3 + 1), .ref v0]) rfl ?_
  refine zco_pi fl_12_723 rfl rfl (zdk (cc := cX12_writes) (q := (17, .putfield 723, 3)) tkX12_writes 11 rfl) ?_
  exact zco_vret rfl rfl rfl (zdk (cc := cX12_writes) (q := (20, .return_, 1)) tkX12_writes 12 rfl)
theorem mtX12_writes (l : Launch) (d : Nat) (hd : 1 ≤ d) (v0 : Nat) (v1 : Int32) : zMet l d 0 0 yX12_writes cX12_writes 2 (Option.none : Option FieldType) [.ref v0, .int v1] (X12_writes v0 v1) := by
  obtain ⟨e, rfl⟩ : ∃ e, d = e + 1 := ⟨d - 1, by omega⟩
  exact zmet_of (own := RX12) (ini := false) (by decide +kernel) rfl (fun _ => by contradiction) (Nat.le_of_ble_eq_true rfl) (coX12_writes l e (by omega) v0 v1)
abbrev iX12_writesTwo : zI := (RX12, cX12_writesTwo, 2, (Option.none : Option FieldType), false)
def tX12_writesTwo : List (Nat × Instr × Nat) := [(0, .aload_n 0, 1), (1, .iload_n 1, 1), (2, .sipush 256, 3), (5, .idiv, 1), (6, .invokevirtual 726, 3), (9, .aload_n 0, 1), (10, .iload_n 1, 1), (11, .sipush 256, 3), (14, .irem, 1), (15, .invokevirtual 726, 3), (18, .return_, 1)]
set_option maxRecDepth 100000 in
theorem tkX12_writesTwo : ∀ q ∈ tX12_writesTwo, decode cX12_writesTwo q.1 = .ok q.2 := by decide +kernel
theorem vmX12_writesTwo : zVM yX12_writesTwo cX12_writesTwo 2 (Option.none : Option FieldType) 1 12 := ⟨kX12_writesTwo, q_2285, q_140, q_162, ⟨_, rfl, rfl⟩, by decide +kernel, by decide⟩
set_option maxHeartbeats 2000000 in
set_option maxRecDepth 20000 in
theorem coX12_writesTwo (l : Launch) (e : Nat) (he : 1 ≤ e) (v0 : Nat) (v1 : Int32) : zCo l (e + 1) 0 0 iX12_writesTwo 0 [(0, .ref v0), (1, .int v1)] [] (X12_writesTwo v0 v1) := by
  unfold X12_writesTwo
  refine zco_p tkX12_writesTwo 0 3 (pc' := 5) (L' := [(0, .ref v0), (1, .int v1)]) (S' := [.int 256, .int v1, .ref v0]) rfl ?_
  refine zco_idiv (zdk (cc := cX12_writesTwo) (q := (5, .idiv, 1)) tkX12_writesTwo 3 rfl) ?_
  refine zco_Vv (rc := 0) (rs := 0) (mc := 0) (ms := 0) (As := [.int (v1 / 256)]) (S := []) vmX12_writes (mtX12_writes l e (by omega) v0 (v1 / 256)) q_2287 rfl rfl (Nat.le_of_ble_eq_true rfl) (zdk (cc := cX12_writesTwo) (q := (6, .invokevirtual 726, 3)) tkX12_writesTwo 4 rfl) ?_
  refine zco_p tkX12_writesTwo 5 3 (pc' := 14) (L' := [(0, .ref v0), (1, .int v1)]) (S' := [.int 256, .int v1, .ref v0]) rfl ?_
  refine zco_irem (zdk (cc := cX12_writesTwo) (q := (14, .irem, 1)) tkX12_writesTwo 8 rfl) ?_
  refine zco_Vv (rc := 0) (rs := 0) (mc := 0) (ms := 0) (As := [.int (v1 - v1 / 256 * 256)]) (S := []) vmX12_writes (mtX12_writes l e (by omega) v0 (v1 - v1 / 256 * 256)) q_2287 rfl rfl (Nat.le_of_ble_eq_true rfl) (zdk (cc := cX12_writesTwo) (q := (15, .invokevirtual 726, 3)) tkX12_writesTwo 9 rfl) ?_
  exact zco_vret rfl rfl rfl (zdk (cc := cX12_writesTwo) (q := (18, .return_, 1)) tkX12_writesTwo 10 rfl)
theorem mtX12_writesTwo (l : Launch) (d : Nat) (hd : 2 ≤ d) (v0 : Nat) (v1 : Int32) : zMet l d 0 0 yX12_writesTwo cX12_writesTwo 2 (Option.none : Option FieldType) [.ref v0, .int v1] (X12_writesTwo v0 v1) := by
  obtain ⟨e, rfl⟩ : ∃ e, d = e + 1 := ⟨d - 1, by omega⟩
  exact zmet_of (own := RX12) (ini := false) (by decide +kernel) rfl (fun _ => by contradiction) (Nat.le_of_ble_eq_true rfl) (coX12_writesTwo l e (by omega) v0 v1)
abbrev iX12_twoAt : zI := (RX12, cX12_twoAt, 2, (Option.some .int), false)
def tX12_twoAt : List (Nat × Instr × Nat) := [(0, .sipush 256, 3), (3, .aload_n 0, 1), (4, .getfield 7, 3), (7, .iload_n 1, 1), (8, .iaload, 1), (9, .imul, 1), (10, .aload_n 0, 1), (11, .getfield 7, 3), (14, .iload_n 1, 1), (15, .iconst 1, 1), (16, .iadd, 1), (17, .iaload, 1), (18, .iadd, 1), (19, .ireturn, 1)]
set_option maxRecDepth 100000 in
theorem tkX12_twoAt : ∀ q ∈ tX12_twoAt, decode cX12_twoAt q.1 = .ok q.2 := by decide +kernel
theorem vmX12_twoAt : zVM yX12_twoAt cX12_twoAt 2 (Option.some .int) 1 12 := ⟨kX12_twoAt, q_2312, q_145, q_162, ⟨_, rfl, rfl⟩, by decide +kernel, by decide⟩
set_option maxHeartbeats 2000000 in
set_option maxRecDepth 20000 in
theorem coX12_twoAt (l : Launch) (e : Nat) (he : 0 ≤ e) (v0 : Nat) (v1 : Int32) : zCo l (e + 1) 0 0 iX12_twoAt 0 [(0, .ref v0), (1, .int v1)] [] (X12_twoAt v0 v1) := by
  unfold X12_twoAt
  refine zco_p tkX12_twoAt 0 2 (pc' := 4) (L' := [(0, .ref v0), (1, .int v1)]) (S' := [.ref v0, .int 256]) rfl ?_
  refine zco_gr fl_12_7 rfl (zdk (cc := cX12_twoAt) (q := (4, .getfield 7, 3)) tkX12_twoAt 2 rfl) (fun x1 => ?_)
  refine zco_p tkX12_twoAt 3 1 (pc' := 8) (L' := [(0, .ref v0), (1, .int v1)]) (S' := [.int v1, .ref x1, .int 256]) rfl ?_
  refine zco_iaload (zdk (cc := cX12_twoAt) (q := (8, .iaload, 1)) tkX12_twoAt 4 rfl) (fun x2 => ?_)
  refine zco_p tkX12_twoAt 5 2 (pc' := 11) (L' := [(0, .ref v0), (1, .int v1)]) (S' := [.ref v0, .int (256 * x2)]) rfl ?_
  refine zco_gr fl_12_7 rfl (zdk (cc := cX12_twoAt) (q := (11, .getfield 7, 3)) tkX12_twoAt 7 rfl) (fun x3 => ?_)
  refine zco_p tkX12_twoAt 8 3 (pc' := 17) (L' := [(0, .ref v0), (1, .int v1)]) (S' := [.int (v1 + 1), .ref x3, .int (256 * x2)]) rfl ?_
  refine zco_iaload (zdk (cc := cX12_twoAt) (q := (17, .iaload, 1)) tkX12_twoAt 11 rfl) (fun x4 => ?_)
  refine zco_p tkX12_twoAt 12 1 (pc' := 19) (L' := [(0, .ref v0), (1, .int v1)]) (S' := [.int ((256 * x2) + x4)]) rfl ?_
  exact zco_iret rfl rfl rfl (zdk (cc := cX12_twoAt) (q := (19, .ireturn, 1)) tkX12_twoAt 13 rfl)
theorem mtX12_twoAt (l : Launch) (d : Nat) (hd : 1 ≤ d) (v0 : Nat) (v1 : Int32) : zMet l d 0 0 yX12_twoAt cX12_twoAt 2 (Option.some .int) [.ref v0, .int v1] (X12_twoAt v0 v1) := by
  obtain ⟨e, rfl⟩ : ∃ e, d = e + 1 := ⟨d - 1, by omega⟩
  exact zmet_of (own := RX12) (ini := false) (by decide +kernel) rfl (fun _ => by contradiction) (Nat.le_of_ble_eq_true rfl) (coX12_twoAt l e (by omega) v0 v1)
abbrev iX12_octet : zI := (RX12, cX12_octet, 2, (Option.some .int), false)
def tX12_octet : List (Nat × Instr × Nat) := [(0, .iload_n 1, 1), (1, .ifCond .lt 20, 3), (4, .iload_n 1, 1), (5, .aload_n 0, 1), (6, .getfield 723, 3), (9, .if_icmp .ge 12, 3), (12, .aload_n 0, 1), (13, .getfield 264, 3), (16, .iload_n 1, 1), (17, .iaload, 1), (18, .goto 4, 3), (21, .iconst (-1), 1), (22, .ireturn, 1)]
set_option maxRecDepth 100000 in
theorem tkX12_octet : ∀ q ∈ tX12_octet, decode cX12_octet q.1 = .ok q.2 := by decide +kernel
theorem vmX12_octet : zVM yX12_octet cX12_octet 2 (Option.some .int) 1 12 := ⟨kX12_octet, q_2272, q_2273, q_162, ⟨_, rfl, rfl⟩, by decide +kernel, by decide⟩
set_option maxHeartbeats 2000000 in
set_option maxRecDepth 20000 in
theorem coX12_octet (l : Launch) (e : Nat) (he : 0 ≤ e) (v0 : Nat) (v1 : Int32) : zCo l (e + 1) 0 0 iX12_octet 0 [(0, .ref v0), (1, .int v1)] [] (X12_octet v0 v1) := by
  unfold X12_octet
  refine zco_p tkX12_octet 0 1 (pc' := 1) (L' := [(0, .ref v0), (1, .int v1)]) (S' := [.int v1]) rfl ?_
  refine zco_if_lt (tgt := 21) (zdk (cc := cX12_octet) (q := (1, .ifCond .lt 20, 3)) tkX12_octet 1 rfl) rfl ?_ ?_
  · refine zco_p tkX12_octet 11 1 (pc' := 22) (L' := [(0, .ref v0), (1, .int v1)]) (S' := [.int ((-1))]) rfl ?_
    exact zco_iret rfl rfl rfl (zdk (cc := cX12_octet) (q := (22, .ireturn, 1)) tkX12_octet 12 rfl)
  · refine zco_p tkX12_octet 2 2 (pc' := 6) (L' := [(0, .ref v0), (1, .int v1)]) (S' := [.ref v0, .int v1]) rfl ?_
    refine zco_gi fl_12_723 rfl (zdk (cc := cX12_octet) (q := (6, .getfield 723, 3)) tkX12_octet 4 rfl) (fun x1 => ?_)
    refine zco_icmp_ge (tgt := 21) (zdk (cc := cX12_octet) (q := (9, .if_icmp .ge 12, 3)) tkX12_octet 5 rfl) rfl ?_ ?_
    · refine zco_p tkX12_octet 11 1 (pc' := 22) (L' := [(0, .ref v0), (1, .int v1)]) (S' := [.int ((-1))]) rfl ?_
      exact zco_iret rfl rfl rfl (zdk (cc := cX12_octet) (q := (22, .ireturn, 1)) tkX12_octet 12 rfl)
    · refine zco_p tkX12_octet 6 1 (pc' := 13) (L' := [(0, .ref v0), (1, .int v1)]) (S' := [.ref v0]) rfl ?_
      refine zco_gr fl_12_264 rfl (zdk (cc := cX12_octet) (q := (13, .getfield 264, 3)) tkX12_octet 7 rfl) (fun x2 => ?_)
      refine zco_p tkX12_octet 8 1 (pc' := 17) (L' := [(0, .ref v0), (1, .int v1)]) (S' := [.int v1, .ref x2]) rfl ?_
      refine zco_iaload (zdk (cc := cX12_octet) (q := (17, .iaload, 1)) tkX12_octet 9 rfl) (fun x3 => ?_)
      refine zco_p tkX12_octet 10 1 (pc' := 22) (L' := [(0, .ref v0), (1, .int v1)]) (S' := [.int x3]) rfl ?_
      exact zco_iret rfl rfl rfl (zdk (cc := cX12_octet) (q := (22, .ireturn, 1)) tkX12_octet 12 rfl)
theorem mtX12_octet (l : Launch) (d : Nat) (hd : 1 ≤ d) (v0 : Nat) (v1 : Int32) : zMet l d 0 0 yX12_octet cX12_octet 2 (Option.some .int) [.ref v0, .int v1] (X12_octet v0 v1) := by
  obtain ⟨e, rfl⟩ : ∃ e, d = e + 1 := ⟨d - 1, by omega⟩
  exact zmet_of (own := RX12) (ini := false) (by decide +kernel) rfl (fun _ => by contradiction) (Nat.le_of_ble_eq_true rfl) (coX12_octet l e (by omega) v0 v1)
abbrev iX12_status : zI := (RX12, cX12_status, 2, (Option.some .int), false)
def tX12_status : List (Nat × Instr × Nat) := [(0, .iload_n 1, 1), (1, .i2l, 1), (2, .lconst 0, 1), (3, .ldc2_w 331, 3), (6, .invokestatic 313, 3), (9, .ifCond .eq 12, 3), (12, .aload_n 0, 1), (13, .getfield 17, 3), (16, .iload_n 1, 1), (17, .iaload, 1), (18, .goto 4, 3), (21, .iconst (-1), 1), (22, .ireturn, 1)]
set_option maxRecDepth 100000 in
theorem tkX12_status : ∀ q ∈ tX12_status, decode cX12_status q.1 = .ok q.2 := by decide +kernel
theorem vmX12_status : zVM yX12_status cX12_status 2 (Option.some .int) 1 12 := ⟨kX12_status, q_2276, q_2277, q_162, ⟨_, rfl, rfl⟩, by decide +kernel, by decide⟩
set_option maxHeartbeats 2000000 in
set_option maxRecDepth 20000 in
theorem coX12_status (l : Launch) (e : Nat) (he : 1 ≤ e) (v0 : Nat) (v1 : Int32) : zCo l (e + 1) 0 0 iX12_status 0 [(0, .ref v0), (1, .int v1)] [] (X12_status v0 v1) := by
  unfold X12_status
  refine zco_p tkX12_status 0 3 (pc' := 3) (L' := [(0, .ref v0), (1, .int v1)]) (S' := [.long 0, .long v1.toInt64]) rfl ?_
  refine zco_ldc2 q_1854 (zdk (cc := cX12_status) (q := (3, .ldc2_w 331, 3)) tkX12_status 3 rfl) ?_
  refine zco_Si (rc := 0) (rs := 0) (mc := 0) (ms := 0) (As := [.long v1.toInt64, .long 0, .long 5]) (S := []) vmX12_isIn (mtX12_isIn l e (by omega) v1.toInt64 0 5) q_1799 rfl rfl (Nat.le_of_ble_eq_true rfl) (zdk (cc := cX12_status) (q := (6, .invokestatic 313, 3)) tkX12_status 4 rfl) (fun y1 => ?_)
  refine zco_if_eq (tgt := 21) (zdk (cc := cX12_status) (q := (9, .ifCond .eq 12, 3)) tkX12_status 5 rfl) rfl ?_ ?_
  · refine zco_p tkX12_status 11 1 (pc' := 22) (L' := [(0, .ref v0), (1, .int v1)]) (S' := [.int ((-1))]) rfl ?_
    exact zco_iret rfl rfl rfl (zdk (cc := cX12_status) (q := (22, .ireturn, 1)) tkX12_status 12 rfl)
  · refine zco_p tkX12_status 6 1 (pc' := 13) (L' := [(0, .ref v0), (1, .int v1)]) (S' := [.ref v0]) rfl ?_
    refine zco_gr fl_12_17 rfl (zdk (cc := cX12_status) (q := (13, .getfield 17, 3)) tkX12_status 7 rfl) (fun x2 => ?_)
    refine zco_p tkX12_status 8 1 (pc' := 17) (L' := [(0, .ref v0), (1, .int v1)]) (S' := [.int v1, .ref x2]) rfl ?_
    refine zco_iaload (zdk (cc := cX12_status) (q := (17, .iaload, 1)) tkX12_status 9 rfl) (fun x3 => ?_)
    refine zco_p tkX12_status 10 1 (pc' := 22) (L' := [(0, .ref v0), (1, .int v1)]) (S' := [.int x3]) rfl ?_
    exact zco_iret rfl rfl rfl (zdk (cc := cX12_status) (q := (22, .ireturn, 1)) tkX12_status 12 rfl)
theorem mtX12_status (l : Launch) (d : Nat) (hd : 2 ≤ d) (v0 : Nat) (v1 : Int32) : zMet l d 0 0 yX12_status cX12_status 2 (Option.some .int) [.ref v0, .int v1] (X12_status v0 v1) := by
  obtain ⟨e, rfl⟩ : ∃ e, d = e + 1 := ⟨d - 1, by omega⟩
  exact zmet_of (own := RX12) (ini := false) (by decide +kernel) rfl (fun _ => by contradiction) (Nat.le_of_ble_eq_true rfl) (coX12_status l e (by omega) v0 v1)
abbrev iX12_image : zI := (RX12, cX12_image, 4, (Option.some .int), false)
def tX12_image : List (Nat × Instr × Nat) := [(0, .aload_n 0, 1), (1, .iconst 0, 1), (2, .putfield 723, 3), (5, .aload_n 0, 1), (6, .aload_n 0, 1), (7, .getfield 134, 3), (10, .iconst 0, 1), (11, .iaload, 1), (12, .invokevirtual 729, 3), (15, .aload_n 0, 1), (16, .aload_n 0, 1), (17, .getfield 134, 3), (20, .iconst 1, 1), (21, .iaload, 1), (22, .invokevirtual 726, 3), (25, .iconst 0, 1), (26, .istore_n 1, 1), (27, .iload_n 1, 1), (28, .iconst 2, 1), (29, .if_icmp .ge 52, 3), (32, .iconst 0, 1), (33, .istore_n 2, 1), (34, .iload_n 2, 1), (35, .aload_n 0, 1), (36, .iload_n 1, 1), (37, .invokevirtual 416, 3), (40, .if_icmp .ge 35, 3), (43, .aload_n 0, 1), (44, .aload_n 0, 1), (45, .bipush 6, 2), (47, .iload_n 1, 1), (48, .imul, 1), (49, .aload_n 0, 1), (50, .getfield 134, 3), (53, .iconst 2, 1), (54, .bipush 6, 2), (56, .iload_n 1, 1), (57, .imul, 1), (58, .iadd, 1), (59, .iload_n 2, 1), (60, .iadd, 1), (61, .iaload, 1), (62, .iadd, 1), (63, .invokevirtual 455, 3), (66, .invokevirtual 726, 3), (69, .iinc 2 1, 3), (72, .goto (-38), 3), (75, .iinc 1 1, 3), (78, .goto (-51), 3), (81, .iconst 0, 1), (82, .istore_n 1, 1), (83, .iload_n 1, 1), (84, .aload_n 0, 1), (85, .invokevirtual 419, 3), (88, .if_icmp .ge 105, 3), (91, .aload_n 0, 1), (92, .iload_n 1, 1), (93, .invokevirtual 429, 3), (96, .istore_n 2, 1), (97, .aload_n 0, 1), (98, .aload_n 0, 1), (99, .iload_n 1, 1), (100, .invokevirtual 521, 3), (103, .iconst (-1), 1), (104, .if_icmp .ne 9, 3), (107, .sipush 255, 3), (110, .goto 12, 3), (113, .aload_n 0, 1), (114, .aload_n 0, 1), (115, .iload_n 1, 1), (116, .invokevirtual 521, 3), (119, .invokevirtual 455, 3), (122, .invokevirtual 726, 3), (125, .aload_n 0, 1), (126, .aload_n 0, 1), (127, .iload_n 1, 1), (128, .invokevirtual 524, 3), (131, .invokevirtual 726, 3), (134, .iconst 0, 1), (135, .istore_n 3, 1), (136, .iload_n 3, 1), (137, .aload_n 0, 1), (138, .iconst 1, 1), (139, .aload_n 0, 1), (140, .iload_n 1, 1), (141, .invokevirtual 426, 3), (144, .isub, 1), (145, .invokevirtual 416, 3), (148, .if_icmp .ge 39, 3), (151, .aload_n 0, 1), (152, .aload_n 0, 1), (153, .getfield 134, 3), (156, .aload_n 0, 1), (157, .iload_n 2, 1), (158, .iload_n 3, 1), (159, .invokevirtual 432, 3), (162, .iaload, 1), (163, .invokevirtual 726, 3), (166, .aload_n 0, 1), (167, .aload_n 0, 1), (168, .getfield 134, 3), (171, .aload_n 0, 1), (172, .iload_n 2, 1), (173, .iload_n 3, 1), (174, .invokevirtual 435, 3), (177, .iaload, 1), (178, .invokevirtual 726, 3), (181, .iinc 3 1, 3), (184, .goto (-48), 3), (187, .iinc 1 1, 3), (190, .goto (-107), 3), (193, .aload_n 0, 1), (194, .aload_n 0, 1), (195, .getfield 264, 3), (198, .aload_n 0, 1), (199, .getfield 723, 3), (202, .invokestatic 732, 3), (205, .invokevirtual 726, 3), (208, .aload_n 0, 1), (209, .getfield 723, 3), (212, .ireturn, 1)]
set_option maxRecDepth 100000 in
theorem tkX12_image : ∀ q ∈ tX12_image, decode cX12_image q.1 = .ok q.2 := by decide +kernel
theorem vmX12_image : zVM yX12_image cX12_image 4 (Option.some .int) 0 12 := ⟨kX12_image, q_2280, q_2281, q_162, ⟨_, rfl, rfl⟩, by decide +kernel, by decide⟩
set_option maxHeartbeats 2000000 in
set_option maxRecDepth 20000 in
theorem coX12_image_J193 (l : Launch) (e : Nat) (he : 3 ≤ e) (v0 : Nat) : zCo l (e + 1) 0 0 iX12_image 193 [(0, .ref v0)] [] (X12_image_J193 v0) := by
  unfold X12_image_J193
  refine zco_p tkX12_image 111 2 (pc' := 195) (L' := [(0, .ref v0)]) (S' := [.ref v0, .ref v0]) rfl ?_
  refine zco_gr fl_12_264 rfl (zdk (cc := cX12_image) (q := (195, .getfield 264, 3)) tkX12_image 113 rfl) (fun x1 => ?_)
  refine zco_p tkX12_image 114 1 (pc' := 199) (L' := [(0, .ref v0)]) (S' := [.ref v0, .ref x1, .ref v0]) rfl ?_
  refine zco_gi fl_12_723 rfl (zdk (cc := cX12_image) (q := (199, .getfield 723, 3)) tkX12_image 115 rfl) (fun x2 => ?_)
  refine zco_Si (rc := 0) (rs := 0) (mc := 0) (ms := 0) (As := [.ref x1, .int x2]) (S := [.ref v0]) vmX12_checked (mtX12_checked l e (by omega) x1 x2) q_2291 rfl rfl (Nat.le_of_ble_eq_true rfl) (zdk (cc := cX12_image) (q := (202, .invokestatic 732, 3)) tkX12_image 116 rfl) (fun y3 => ?_)
  refine zco_Vv (rc := 0) (rs := 0) (mc := 0) (ms := 0) (As := [.int y3]) (S := []) vmX12_writes (mtX12_writes l e (by omega) v0 y3) q_2287 rfl rfl (Nat.le_of_ble_eq_true rfl) (zdk (cc := cX12_image) (q := (205, .invokevirtual 726, 3)) tkX12_image 117 rfl) ?_
  refine zco_p tkX12_image 118 1 (pc' := 209) (L' := [(0, .ref v0)]) (S' := [.ref v0]) rfl ?_
  refine zco_gi fl_12_723 rfl (zdk (cc := cX12_image) (q := (209, .getfield 723, 3)) tkX12_image 119 rfl) (fun x4 => ?_)
  exact zco_iret rfl rfl rfl (zdk (cc := cX12_image) (q := (212, .ireturn, 1)) tkX12_image 120 rfl)
set_option maxHeartbeats 2000000 in
set_option maxRecDepth 20000 in
theorem coX12_image_J187 (l : Launch) (e : Nat) (he : 3 ≤ e) (v0 : Nat) (v1 : Int32) (r83 : Int32 → zM) (hr83 : ∀ x : Int32, zCo l (e + 1) 0 0 iX12_image 83 [(0, .ref v0), (1, .int x)] [] (r83 x)) : zCo l (e + 1) 0 0 iX12_image 187 [(0, .ref v0), (1, .int v1)] [] (X12_image_J187 r83 v0 v1) := by
  unfold X12_image_J187
  refine zco_p tkX12_image 109 2 (pc' := 83) (L' := [(1, .int (v1 + 1)), (0, .ref v0)]) (S' := []) rfl ?_
  exact zco_sub [1, 0] rfl (hr83 (v1 + 1))
set_option maxHeartbeats 2000000 in
set_option maxRecDepth 20000 in
theorem coX12_image_B136 (l : Launch) (e : Nat) (he : 3 ≤ e) (v0 : Nat) (v1 : Int32) (v2 : Int32) (r83 : Int32 → zM) (hr83 : ∀ x : Int32, zCo l (e + 1) 0 0 iX12_image 83 [(0, .ref v0), (1, .int x)] [] (r83 x)) (r136 : Int32 → zM) (hr136 : ∀ x : Int32, zCo l (e + 1) 0 0 iX12_image 136 [(0, .ref v0), (1, .int v1), (2, .int v2), (3, .int x)] [] (r136 x)) (v3 : Int32) : zCo l (e + 1) 0 0 iX12_image 136 [(0, .ref v0), (1, .int v1), (2, .int v2), (3, .int v3)] [] (X12_image_B136 r83 v0 v1 v2 r136 v3) := by
  unfold X12_image_B136
  refine zco_p tkX12_image 80 5 (pc' := 141) (L' := [(0, .ref v0), (1, .int v1), (2, .int v2), (3, .int v3)]) (S' := [.int v1, .ref v0, .int 1, .ref v0, .int v3]) rfl ?_
  refine zco_Vi (rc := 0) (rs := 0) (mc := 0) (ms := 0) (As := [.int v1]) (S := [.int 1, .ref v0, .int v3]) vmX12_sideOf (mtX12_sideOf l e (by omega) v0 v1) q_1996 rfl rfl (Nat.le_of_ble_eq_true rfl) (zdk (cc := cX12_image) (q := (141, .invokevirtual 426, 3)) tkX12_image 85 rfl) (fun y1 => ?_)
  refine zco_p tkX12_image 86 1 (pc' := 145) (L' := [(0, .ref v0), (1, .int v1), (2, .int v2), (3, .int v3)]) (S' := [.int (1 - y1), .ref v0, .int v3]) rfl ?_
  refine zco_Vi (rc := 0) (rs := 0) (mc := 0) (ms := 0) (As := [.int (1 - y1)]) (S := [.int v3]) vmX12_sideMany (mtX12_sideMany l e (by omega) v0 (1 - y1)) q_1944 rfl rfl (Nat.le_of_ble_eq_true rfl) (zdk (cc := cX12_image) (q := (145, .invokevirtual 416, 3)) tkX12_image 87 rfl) (fun y2 => ?_)
  refine zco_icmp_ge (tgt := 187) (zdk (cc := cX12_image) (q := (148, .if_icmp .ge 39, 3)) tkX12_image 88 rfl) rfl ?_ ?_
  · exact zco_sub [0, 1] rfl (coX12_image_J187 l e he v0 v1 r83 hr83)
  · refine zco_p tkX12_image 89 2 (pc' := 153) (L' := [(0, .ref v0), (1, .int v1), (2, .int v2), (3, .int v3)]) (S' := [.ref v0, .ref v0]) rfl ?_
    refine zco_gr fl_12_134 rfl (zdk (cc := cX12_image) (q := (153, .getfield 134, 3)) tkX12_image 91 rfl) (fun x3 => ?_)
    refine zco_p tkX12_image 92 3 (pc' := 159) (L' := [(0, .ref v0), (1, .int v1), (2, .int v2), (3, .int v3)]) (S' := [.int v3, .int v2, .ref v0, .ref x3, .ref v0]) rfl ?_
    refine zco_Vi (rc := 0) (rs := 0) (mc := 0) (ms := 0) (As := [.int v2, .int v3]) (S := [.ref x3, .ref v0]) vmX12_likingAt (mtX12_likingAt l e (by omega) v0 v2 v3) q_2004 rfl rfl (Nat.le_of_ble_eq_true rfl) (zdk (cc := cX12_image) (q := (159, .invokevirtual 432, 3)) tkX12_image 95 rfl) (fun y4 => ?_)
    refine zco_iaload (zdk (cc := cX12_image) (q := (162, .iaload, 1)) tkX12_image 96 rfl) (fun x5 => ?_)
    refine zco_Vv (rc := 0) (rs := 0) (mc := 0) (ms := 0) (As := [.int x5]) (S := []) vmX12_writes (mtX12_writes l e (by omega) v0 x5) q_2287 rfl rfl (Nat.le_of_ble_eq_true rfl) (zdk (cc := cX12_image) (q := (163, .invokevirtual 726, 3)) tkX12_image 97 rfl) ?_
    refine zco_p tkX12_image 98 2 (pc' := 168) (L' := [(0, .ref v0), (1, .int v1), (2, .int v2), (3, .int v3)]) (S' := [.ref v0, .ref v0]) rfl ?_
    refine zco_gr fl_12_134 rfl (zdk (cc := cX12_image) (q := (168, .getfield 134, 3)) tkX12_image 100 rfl) (fun x6 => ?_)
    refine zco_p tkX12_image 101 3 (pc' := 174) (L' := [(0, .ref v0), (1, .int v1), (2, .int v2), (3, .int v3)]) (S' := [.int v3, .int v2, .ref v0, .ref x6, .ref v0]) rfl ?_
    refine zco_Vi (rc := 0) (rs := 0) (mc := 0) (ms := 0) (As := [.int v2, .int v3]) (S := [.ref x6, .ref v0]) vmX12_knowingAt (mtX12_knowingAt l e (by omega) v0 v2 v3) q_2012 rfl rfl (Nat.le_of_ble_eq_true rfl) (zdk (cc := cX12_image) (q := (174, .invokevirtual 435, 3)) tkX12_image 104 rfl) (fun y7 => ?_)
    refine zco_iaload (zdk (cc := cX12_image) (q := (177, .iaload, 1)) tkX12_image 105 rfl) (fun x8 => ?_)
    refine zco_Vv (rc := 0) (rs := 0) (mc := 0) (ms := 0) (As := [.int x8]) (S := []) vmX12_writes (mtX12_writes l e (by omega) v0 x8) q_2287 rfl rfl (Nat.le_of_ble_eq_true rfl) (zdk (cc := cX12_image) (q := (178, .invokevirtual 726, 3)) tkX12_image 106 rfl) ?_
    refine zco_p tkX12_image 107 2 (pc' := 136) (L' := [(3, .int (v3 + 1)), (0, .ref v0), (1, .int v1), (2, .int v2)]) (S' := []) rfl ?_
    exact zco_sub [1, 2, 3, 0] rfl (hr136 (v3 + 1))
set_option maxHeartbeats 2000000 in
set_option maxRecDepth 20000 in
theorem coX12_image_J122 (l : Launch) (e : Nat) (he : 3 ≤ e) (v0 : Nat) (v1 : Int32) (v2 : Int32) (r83 : Int32 → zM) (hr83 : ∀ x : Int32, zCo l (e + 1) 0 0 iX12_image 83 [(0, .ref v0), (1, .int x)] [] (r83 x)) (s0 : Int32) (s1 : Nat) : zCo l (e + 1) 0 0 iX12_image 122 [(0, .ref v0), (1, .int v1), (2, .int v2)] [.int s0, .ref s1] (X12_image_J122 r83 v0 v1 v2 s0 s1) := by
  unfold X12_image_J122
  refine zco_Vv (rc := 0) (rs := 0) (mc := 0) (ms := 0) (As := [.int s0]) (S := []) vmX12_writes (mtX12_writes l e (by omega) s1 s0) q_2287 rfl rfl (Nat.le_of_ble_eq_true rfl) (zdk (cc := cX12_image) (q := (122, .invokevirtual 726, 3)) tkX12_image 72 rfl) ?_
  refine zco_p tkX12_image 73 3 (pc' := 128) (L' := [(0, .ref v0), (1, .int v1), (2, .int v2)]) (S' := [.int v1, .ref v0, .ref v0]) rfl ?_
  refine zco_Vi (rc := 0) (rs := 0) (mc := 0) (ms := 0) (As := [.int v1]) (S := [.ref v0]) vmX12_waitedOf (mtX12_waitedOf l e (by omega) v0 v1) q_1980 rfl rfl (Nat.le_of_ble_eq_true rfl) (zdk (cc := cX12_image) (q := (128, .invokevirtual 524, 3)) tkX12_image 76 rfl) (fun y1 => ?_)
  refine zco_Vv (rc := 0) (rs := 0) (mc := 0) (ms := 0) (As := [.int y1]) (S := []) vmX12_writes (mtX12_writes l e (by omega) v0 y1) q_2287 rfl rfl (Nat.le_of_ble_eq_true rfl) (zdk (cc := cX12_image) (q := (131, .invokevirtual 726, 3)) tkX12_image 77 rfl) ?_
  refine zco_p tkX12_image 78 2 (pc' := 136) (L' := [(3, .int 0), (0, .ref v0), (1, .int v1), (2, .int v2)]) (S' := []) rfl ?_
  exact zco_sub [1, 2, 3, 0] rfl (zco_fix (Lf := fun x : Int32 => [(0, .ref v0), (1, .int v1), (2, .int v2), (3, .int x)]) (Sf := fun _ => []) (fun r hr x => coX12_image_B136 l e he v0 v1 v2 r83 hr83 r hr x) zFU 0)
set_option maxHeartbeats 2000000 in
set_option maxRecDepth 20000 in
theorem coX12_image_B83 (l : Launch) (e : Nat) (he : 3 ≤ e) (v0 : Nat) (r83 : Int32 → zM) (hr83 : ∀ x : Int32, zCo l (e + 1) 0 0 iX12_image 83 [(0, .ref v0), (1, .int x)] [] (r83 x)) (v1 : Int32) : zCo l (e + 1) 0 0 iX12_image 83 [(0, .ref v0), (1, .int v1)] [] (X12_image_B83 v0 r83 v1) := by
  unfold X12_image_B83
  refine zco_p tkX12_image 51 2 (pc' := 85) (L' := [(0, .ref v0), (1, .int v1)]) (S' := [.ref v0, .int v1]) rfl ?_
  refine zco_Vi (rc := 0) (rs := 0) (mc := 0) (ms := 0) (As := []) (S := [.int v1]) vmX12_peopleMany (mtX12_peopleMany l e (by omega) v0) q_1940 rfl rfl (Nat.le_of_ble_eq_true rfl) (zdk (cc := cX12_image) (q := (85, .invokevirtual 419, 3)) tkX12_image 53 rfl) (fun y1 => ?_)
  refine zco_icmp_ge (tgt := 193) (zdk (cc := cX12_image) (q := (88, .if_icmp .ge 105, 3)) tkX12_image 54 rfl) rfl ?_ ?_
  · exact zco_sub [0] rfl (coX12_image_J193 l e he v0)
  · refine zco_p tkX12_image 55 2 (pc' := 93) (L' := [(0, .ref v0), (1, .int v1)]) (S' := [.int v1, .ref v0]) rfl ?_
    refine zco_Vi (rc := 0) (rs := 0) (mc := 0) (ms := 0) (As := [.int v1]) (S := []) vmX12_codeOf (mtX12_codeOf l e (by omega) v0 v1) q_1948 rfl rfl (Nat.le_of_ble_eq_true rfl) (zdk (cc := cX12_image) (q := (93, .invokevirtual 429, 3)) tkX12_image 57 rfl) (fun y2 => ?_)
    refine zco_p tkX12_image 58 4 (pc' := 100) (L' := [(2, .int y2), (0, .ref v0), (1, .int v1)]) (S' := [.int v1, .ref v0, .ref v0]) rfl ?_
    refine zco_Vi (rc := 0) (rs := 0) (mc := 0) (ms := 0) (As := [.int v1]) (S := [.ref v0]) vmX12_wedTo (mtX12_wedTo l e (by omega) v0 v1) q_1968 rfl rfl (Nat.le_of_ble_eq_true rfl) (zdk (cc := cX12_image) (q := (100, .invokevirtual 521, 3)) tkX12_image 62 rfl) (fun y3 => ?_)
    refine zco_p tkX12_image 63 1 (pc' := 104) (L' := [(2, .int y2), (0, .ref v0), (1, .int v1)]) (S' := [.int ((-1)), .int y3, .ref v0]) rfl ?_
    refine zco_icmp_ne (tgt := 113) (zdk (cc := cX12_image) (q := (104, .if_icmp .ne 9, 3)) tkX12_image 64 rfl) rfl ?_ ?_
    · refine zco_p tkX12_image 67 3 (pc' := 116) (L' := [(2, .int y2), (0, .ref v0), (1, .int v1)]) (S' := [.int v1, .ref v0, .ref v0, .ref v0]) rfl ?_
      refine zco_Vi (rc := 0) (rs := 0) (mc := 0) (ms := 0) (As := [.int v1]) (S := [.ref v0, .ref v0]) vmX12_wedTo (mtX12_wedTo l e (by omega) v0 v1) q_1968 rfl rfl (Nat.le_of_ble_eq_true rfl) (zdk (cc := cX12_image) (q := (116, .invokevirtual 521, 3)) tkX12_image 70 rfl) (fun y4 => ?_)
      refine zco_Vi (rc := 0) (rs := 0) (mc := 0) (ms := 0) (As := [.int y4]) (S := [.ref v0]) vmX12_numberOf (mtX12_numberOf l e (by omega) v0 y4) q_1976 rfl rfl (Nat.le_of_ble_eq_true rfl) (zdk (cc := cX12_image) (q := (119, .invokevirtual 455, 3)) tkX12_image 71 rfl) (fun y5 => ?_)
      exact zco_sub [1, 2, 0] rfl (coX12_image_J122 l e he v0 v1 y2 r83 hr83 y5 v0)
    · refine zco_p tkX12_image 65 2 (pc' := 122) (L' := [(2, .int y2), (0, .ref v0), (1, .int v1)]) (S' := [.int 255, .ref v0]) rfl ?_
      exact zco_sub [1, 2, 0] rfl (coX12_image_J122 l e he v0 v1 y2 r83 hr83 255 v0)
set_option maxHeartbeats 2000000 in
set_option maxRecDepth 20000 in
theorem coX12_image_J81 (l : Launch) (e : Nat) (he : 3 ≤ e) (v0 : Nat) : zCo l (e + 1) 0 0 iX12_image 81 [(0, .ref v0)] [] (X12_image_J81 v0) := by
  unfold X12_image_J81
  refine zco_p tkX12_image 49 2 (pc' := 83) (L' := [(1, .int 0), (0, .ref v0)]) (S' := []) rfl ?_
  exact zco_sub [1, 0] rfl (zco_fix (Lf := fun x : Int32 => [(0, .ref v0), (1, .int x)]) (Sf := fun _ => []) (fun r hr x => coX12_image_B83 l e he v0 r hr x) zFU 0)
set_option maxHeartbeats 2000000 in
set_option maxRecDepth 20000 in
theorem coX12_image_J75 (l : Launch) (e : Nat) (he : 3 ≤ e) (v0 : Nat) (v1 : Int32) (r27 : Int32 → zM) (hr27 : ∀ x : Int32, zCo l (e + 1) 0 0 iX12_image 27 [(0, .ref v0), (1, .int x)] [] (r27 x)) : zCo l (e + 1) 0 0 iX12_image 75 [(0, .ref v0), (1, .int v1)] [] (X12_image_J75 r27 v0 v1) := by
  unfold X12_image_J75
  refine zco_p tkX12_image 47 2 (pc' := 27) (L' := [(1, .int (v1 + 1)), (0, .ref v0)]) (S' := []) rfl ?_
  exact zco_sub [1, 0] rfl (hr27 (v1 + 1))
set_option maxHeartbeats 2000000 in
set_option maxRecDepth 20000 in
theorem coX12_image_B34 (l : Launch) (e : Nat) (he : 3 ≤ e) (v0 : Nat) (v1 : Int32) (r27 : Int32 → zM) (hr27 : ∀ x : Int32, zCo l (e + 1) 0 0 iX12_image 27 [(0, .ref v0), (1, .int x)] [] (r27 x)) (r34 : Int32 → zM) (hr34 : ∀ x : Int32, zCo l (e + 1) 0 0 iX12_image 34 [(0, .ref v0), (1, .int v1), (2, .int x)] [] (r34 x)) (v2 : Int32) : zCo l (e + 1) 0 0 iX12_image 34 [(0, .ref v0), (1, .int v1), (2, .int v2)] [] (X12_image_B34 r27 v0 v1 r34 v2) := by
  unfold X12_image_B34
  refine zco_p tkX12_image 22 3 (pc' := 37) (L' := [(0, .ref v0), (1, .int v1), (2, .int v2)]) (S' := [.int v1, .ref v0, .int v2]) rfl ?_
  refine zco_Vi (rc := 0) (rs := 0) (mc := 0) (ms := 0) (As := [.int v1]) (S := [.int v2]) vmX12_sideMany (mtX12_sideMany l e (by omega) v0 v1) q_1944 rfl rfl (Nat.le_of_ble_eq_true rfl) (zdk (cc := cX12_image) (q := (37, .invokevirtual 416, 3)) tkX12_image 25 rfl) (fun y1 => ?_)
  refine zco_icmp_ge (tgt := 75) (zdk (cc := cX12_image) (q := (40, .if_icmp .ge 35, 3)) tkX12_image 26 rfl) rfl ?_ ?_
  · exact zco_sub [0, 1] rfl (coX12_image_J75 l e he v0 v1 r27 hr27)
  · refine zco_p tkX12_image 27 6 (pc' := 50) (L' := [(0, .ref v0), (1, .int v1), (2, .int v2)]) (S' := [.ref v0, .int (6 * v1), .ref v0, .ref v0]) rfl ?_
    refine zco_gr fl_12_134 rfl (zdk (cc := cX12_image) (q := (50, .getfield 134, 3)) tkX12_image 33 rfl) (fun x2 => ?_)
    refine zco_p tkX12_image 34 7 (pc' := 61) (L' := [(0, .ref v0), (1, .int v1), (2, .int v2)]) (S' := [.int ((2 + (6 * v1)) + v2), .ref x2, .int (6 * v1), .ref v0, .ref v0]) rfl ?_
    refine zco_iaload (zdk (cc := cX12_image) (q := (61, .iaload, 1)) tkX12_image 41 rfl) (fun x3 => ?_)
    refine zco_p tkX12_image 42 1 (pc' := 63) (L' := [(0, .ref v0), (1, .int v1), (2, .int v2)]) (S' := [.int ((6 * v1) + x3), .ref v0, .ref v0]) rfl ?_
    refine zco_Vi (rc := 0) (rs := 0) (mc := 0) (ms := 0) (As := [.int ((6 * v1) + x3)]) (S := [.ref v0]) vmX12_numberOf (mtX12_numberOf l e (by omega) v0 ((6 * v1) + x3)) q_1976 rfl rfl (Nat.le_of_ble_eq_true rfl) (zdk (cc := cX12_image) (q := (63, .invokevirtual 455, 3)) tkX12_image 43 rfl) (fun y4 => ?_)
    refine zco_Vv (rc := 0) (rs := 0) (mc := 0) (ms := 0) (As := [.int y4]) (S := []) vmX12_writes (mtX12_writes l e (by omega) v0 y4) q_2287 rfl rfl (Nat.le_of_ble_eq_true rfl) (zdk (cc := cX12_image) (q := (66, .invokevirtual 726, 3)) tkX12_image 44 rfl) ?_
    refine zco_p tkX12_image 45 2 (pc' := 34) (L' := [(2, .int (v2 + 1)), (0, .ref v0), (1, .int v1)]) (S' := []) rfl ?_
    exact zco_sub [1, 2, 0] rfl (hr34 (v2 + 1))
set_option maxHeartbeats 2000000 in
set_option maxRecDepth 20000 in
theorem coX12_image_B27 (l : Launch) (e : Nat) (he : 3 ≤ e) (v0 : Nat) (r27 : Int32 → zM) (hr27 : ∀ x : Int32, zCo l (e + 1) 0 0 iX12_image 27 [(0, .ref v0), (1, .int x)] [] (r27 x)) (v1 : Int32) : zCo l (e + 1) 0 0 iX12_image 27 [(0, .ref v0), (1, .int v1)] [] (X12_image_B27 v0 r27 v1) := by
  unfold X12_image_B27
  refine zco_p tkX12_image 17 2 (pc' := 29) (L' := [(0, .ref v0), (1, .int v1)]) (S' := [.int 2, .int v1]) rfl ?_
  refine zco_icmp_ge (tgt := 81) (zdk (cc := cX12_image) (q := (29, .if_icmp .ge 52, 3)) tkX12_image 19 rfl) rfl ?_ ?_
  · exact zco_sub [0] rfl (coX12_image_J81 l e he v0)
  · refine zco_p tkX12_image 20 2 (pc' := 34) (L' := [(2, .int 0), (0, .ref v0), (1, .int v1)]) (S' := []) rfl ?_
    exact zco_sub [1, 2, 0] rfl (zco_fix (Lf := fun x : Int32 => [(0, .ref v0), (1, .int v1), (2, .int x)]) (Sf := fun _ => []) (fun r hr x => coX12_image_B34 l e he v0 v1 r27 hr27 r hr x) zFU 0)
set_option maxHeartbeats 2000000 in
set_option maxRecDepth 20000 in
theorem coX12_image (l : Launch) (e : Nat) (he : 3 ≤ e) (v0 : Nat) : zCo l (e + 1) 0 0 iX12_image 0 [(0, .ref v0)] [] (X12_image v0) := by
  unfold X12_image
  refine zco_p tkX12_image 0 2 (pc' := 2) (L' := [(0, .ref v0)]) (S' := [.int 0, .ref v0]) rfl ?_
  refine zco_pi fl_12_723 rfl rfl (zdk (cc := cX12_image) (q := (2, .putfield 723, 3)) tkX12_image 2 rfl) ?_
  refine zco_p tkX12_image 3 2 (pc' := 7) (L' := [(0, .ref v0)]) (S' := [.ref v0, .ref v0]) rfl ?_
  refine zco_gr fl_12_134 rfl (zdk (cc := cX12_image) (q := (7, .getfield 134, 3)) tkX12_image 5 rfl) (fun x1 => ?_)
  refine zco_p tkX12_image 6 1 (pc' := 11) (L' := [(0, .ref v0)]) (S' := [.int 0, .ref x1, .ref v0]) rfl ?_
  refine zco_iaload (zdk (cc := cX12_image) (q := (11, .iaload, 1)) tkX12_image 7 rfl) (fun x2 => ?_)
  refine zco_Vv (rc := 0) (rs := 0) (mc := 0) (ms := 0) (As := [.int x2]) (S := []) vmX12_writesTwo (mtX12_writesTwo l e (by omega) v0 x2) q_2283 rfl rfl (Nat.le_of_ble_eq_true rfl) (zdk (cc := cX12_image) (q := (12, .invokevirtual 729, 3)) tkX12_image 8 rfl) ?_
  refine zco_p tkX12_image 9 2 (pc' := 17) (L' := [(0, .ref v0)]) (S' := [.ref v0, .ref v0]) rfl ?_
  refine zco_gr fl_12_134 rfl (zdk (cc := cX12_image) (q := (17, .getfield 134, 3)) tkX12_image 11 rfl) (fun x3 => ?_)
  refine zco_p tkX12_image 12 1 (pc' := 21) (L' := [(0, .ref v0)]) (S' := [.int 1, .ref x3, .ref v0]) rfl ?_
  refine zco_iaload (zdk (cc := cX12_image) (q := (21, .iaload, 1)) tkX12_image 13 rfl) (fun x4 => ?_)
  refine zco_Vv (rc := 0) (rs := 0) (mc := 0) (ms := 0) (As := [.int x4]) (S := []) vmX12_writes (mtX12_writes l e (by omega) v0 x4) q_2287 rfl rfl (Nat.le_of_ble_eq_true rfl) (zdk (cc := cX12_image) (q := (22, .invokevirtual 726, 3)) tkX12_image 14 rfl) ?_
  refine zco_p tkX12_image 15 2 (pc' := 27) (L' := [(1, .int 0), (0, .ref v0)]) (S' := []) rfl ?_
  exact zco_sub [1, 0] rfl (zco_fix (Lf := fun x : Int32 => [(0, .ref v0), (1, .int x)]) (Sf := fun _ => []) (fun r hr x => coX12_image_B27 l e he v0 r hr x) zFU 0)
theorem mtX12_image (l : Launch) (d : Nat) (hd : 4 ≤ d) (v0 : Nat) : zMet l d 0 0 yX12_image cX12_image 4 (Option.some .int) [.ref v0] (X12_image v0) := by
  obtain ⟨e, rfl⟩ : ∃ e, d = e + 1 := ⟨d - 1, by omega⟩
  exact zmet_of (own := RX12) (ini := false) (by decide +kernel) rfl (fun _ => by contradiction) (Nat.le_of_ble_eq_true rfl) (coX12_image l e (by omega) v0)
abbrev iX12_bytesOf : zI := (RX12, cX12_bytesOf, 2, (Option.some .int), false)
def tX12_bytesOf : List (Nat × Instr × Nat) := [(0, .iconst 2, 1), (1, .iconst 2, 1), (2, .aload_n 0, 1), (3, .iconst 1, 1), (4, .aload_n 0, 1), (5, .iload_n 1, 1), (6, .invokevirtual 426, 3), (9, .isub, 1), (10, .invokevirtual 416, 3), (13, .imul, 1), (14, .iadd, 1), (15, .ireturn, 1)]
set_option maxRecDepth 100000 in
theorem tkX12_bytesOf : ∀ q ∈ tX12_bytesOf, decode cX12_bytesOf q.1 = .ok q.2 := by decide +kernel
theorem vmX12_bytesOf : zVM yX12_bytesOf cX12_bytesOf 2 (Option.some .int) 1 12 := ⟨kX12_bytesOf, q_2308, q_144, q_162, ⟨_, rfl, rfl⟩, by decide +kernel, by decide⟩
set_option maxHeartbeats 2000000 in
set_option maxRecDepth 20000 in
theorem coX12_bytesOf (l : Launch) (e : Nat) (he : 2 ≤ e) (v0 : Nat) (v1 : Int32) : zCo l (e + 1) 0 0 iX12_bytesOf 0 [(0, .ref v0), (1, .int v1)] [] (X12_bytesOf v0 v1) := by
  unfold X12_bytesOf
  refine zco_p tkX12_bytesOf 0 6 (pc' := 6) (L' := [(0, .ref v0), (1, .int v1)]) (S' := [.int v1, .ref v0, .int 1, .ref v0, .int 2, .int 2]) rfl ?_
  refine zco_Vi (rc := 0) (rs := 0) (mc := 0) (ms := 0) (As := [.int v1]) (S := [.int 1, .ref v0, .int 2, .int 2]) vmX12_sideOf (mtX12_sideOf l e (by omega) v0 v1) q_1996 rfl rfl (Nat.le_of_ble_eq_true rfl) (zdk (cc := cX12_bytesOf) (q := (6, .invokevirtual 426, 3)) tkX12_bytesOf 6 rfl) (fun y1 => ?_)
  refine zco_p tkX12_bytesOf 7 1 (pc' := 10) (L' := [(0, .ref v0), (1, .int v1)]) (S' := [.int (1 - y1), .ref v0, .int 2, .int 2]) rfl ?_
  refine zco_Vi (rc := 0) (rs := 0) (mc := 0) (ms := 0) (As := [.int (1 - y1)]) (S := [.int 2, .int 2]) vmX12_sideMany (mtX12_sideMany l e (by omega) v0 (1 - y1)) q_1944 rfl rfl (Nat.le_of_ble_eq_true rfl) (zdk (cc := cX12_bytesOf) (q := (10, .invokevirtual 416, 3)) tkX12_bytesOf 8 rfl) (fun y2 => ?_)
  refine zco_p tkX12_bytesOf 9 2 (pc' := 15) (L' := [(0, .ref v0), (1, .int v1)]) (S' := [.int (2 + (2 * y2))]) rfl ?_
  exact zco_iret rfl rfl rfl (zdk (cc := cX12_bytesOf) (q := (15, .ireturn, 1)) tkX12_bytesOf 11 rfl)
theorem mtX12_bytesOf (l : Launch) (d : Nat) (hd : 3 ≤ d) (v0 : Nat) (v1 : Int32) : zMet l d 0 0 yX12_bytesOf cX12_bytesOf 2 (Option.some .int) [.ref v0, .int v1] (X12_bytesOf v0 v1) := by
  obtain ⟨e, rfl⟩ : ∃ e, d = e + 1 := ⟨d - 1, by omega⟩
  exact zmet_of (own := RX12) (ini := false) (by decide +kernel) rfl (fun _ => by contradiction) (Nat.le_of_ble_eq_true rfl) (coX12_bytesOf l e (by omega) v0 v1)
abbrev iX12_toldAt : zI := (RX12, cX12_toldAt, 4, (Option.some .int), false)
def tX12_toldAt : List (Nat × Instr × Nat) := [(0, .iconst 3, 1), (1, .aload_n 0, 1), (2, .invokevirtual 419, 3), (5, .iadd, 1), (6, .istore_n 2, 1), (7, .iconst 0, 1), (8, .istore_n 3, 1), (9, .iload_n 3, 1), (10, .iload_n 1, 1), (11, .if_icmp .ge 17, 3), (14, .iload_n 2, 1), (15, .aload_n 0, 1), (16, .iload_n 3, 1), (17, .invokevirtual 736, 3), (20, .iadd, 1), (21, .istore_n 2, 1), (22, .iinc 3 1, 3), (25, .goto (-16), 3), (28, .iload_n 2, 1), (29, .ireturn, 1)]
set_option maxRecDepth 100000 in
theorem tkX12_toldAt : ∀ q ∈ tX12_toldAt, decode cX12_toldAt q.1 = .ok q.2 := by decide +kernel
theorem vmX12_toldAt : zVM yX12_toldAt cX12_toldAt 4 (Option.some .int) 1 12 := ⟨kX12_toldAt, q_2304, q_143, q_162, ⟨_, rfl, rfl⟩, by decide +kernel, by decide⟩
set_option maxHeartbeats 2000000 in
set_option maxRecDepth 20000 in
theorem coX12_toldAt_B9 (l : Launch) (e : Nat) (he : 3 ≤ e) (v0 : Nat) (v1 : Int32) (r9 : Int32 × Int32 → zM) (hr9 : ∀ x : Int32 × Int32, zCo l (e + 1) 0 0 iX12_toldAt 9 [(0, .ref v0), (1, .int v1), (2, .int x.1), (3, .int x.2)] [] (r9 x)) (v2 : Int32) (v3 : Int32) : zCo l (e + 1) 0 0 iX12_toldAt 9 [(0, .ref v0), (1, .int v1), (2, .int v2), (3, .int v3)] [] (X12_toldAt_B9 v0 v1 r9 v2 v3) := by
  unfold X12_toldAt_B9
  refine zco_p tkX12_toldAt 7 2 (pc' := 11) (L' := [(0, .ref v0), (1, .int v1), (2, .int v2), (3, .int v3)]) (S' := [.int v1, .int v3]) rfl ?_
  refine zco_icmp_ge (tgt := 28) (zdk (cc := cX12_toldAt) (q := (11, .if_icmp .ge 17, 3)) tkX12_toldAt 9 rfl) rfl ?_ ?_
  · refine zco_p tkX12_toldAt 18 1 (pc' := 29) (L' := [(0, .ref v0), (1, .int v1), (2, .int v2), (3, .int v3)]) (S' := [.int v2]) rfl ?_
    exact zco_iret rfl rfl rfl (zdk (cc := cX12_toldAt) (q := (29, .ireturn, 1)) tkX12_toldAt 19 rfl)
  · refine zco_p tkX12_toldAt 10 3 (pc' := 17) (L' := [(0, .ref v0), (1, .int v1), (2, .int v2), (3, .int v3)]) (S' := [.int v3, .ref v0, .int v2]) rfl ?_
    refine zco_Vi (rc := 0) (rs := 0) (mc := 0) (ms := 0) (As := [.int v3]) (S := [.int v2]) vmX12_bytesOf (mtX12_bytesOf l e (by omega) v0 v3) q_2306 rfl rfl (Nat.le_of_ble_eq_true rfl) (zdk (cc := cX12_toldAt) (q := (17, .invokevirtual 736, 3)) tkX12_toldAt 13 rfl) (fun y1 => ?_)
    refine zco_p tkX12_toldAt 14 4 (pc' := 9) (L' := [(3, .int (v3 + 1)), (2, .int (v2 + y1)), (0, .ref v0), (1, .int v1)]) (S' := []) rfl ?_
    exact zco_sub [2, 3, 1, 0] rfl (hr9 (v2 + y1, v3 + 1))
set_option maxHeartbeats 2000000 in
set_option maxRecDepth 20000 in
theorem coX12_toldAt (l : Launch) (e : Nat) (he : 3 ≤ e) (v0 : Nat) (v1 : Int32) : zCo l (e + 1) 0 0 iX12_toldAt 0 [(0, .ref v0), (1, .int v1)] [] (X12_toldAt v0 v1) := by
  unfold X12_toldAt
  refine zco_p tkX12_toldAt 0 2 (pc' := 2) (L' := [(0, .ref v0), (1, .int v1)]) (S' := [.ref v0, .int 3]) rfl ?_
  refine zco_Vi (rc := 0) (rs := 0) (mc := 0) (ms := 0) (As := []) (S := [.int 3]) vmX12_peopleMany (mtX12_peopleMany l e (by omega) v0) q_1940 rfl rfl (Nat.le_of_ble_eq_true rfl) (zdk (cc := cX12_toldAt) (q := (2, .invokevirtual 419, 3)) tkX12_toldAt 2 rfl) (fun y1 => ?_)
  refine zco_p tkX12_toldAt 3 4 (pc' := 9) (L' := [(3, .int 0), (2, .int (3 + y1)), (0, .ref v0), (1, .int v1)]) (S' := []) rfl ?_
  exact zco_sub [2, 3, 1, 0] rfl (zco_fix (Lf := fun x : Int32 × Int32 => [(0, .ref v0), (1, .int v1), (2, .int x.1), (3, .int x.2)]) (Sf := fun _ => []) (fun r hr x => coX12_toldAt_B9 l e he v0 v1 r hr x.1 x.2) zFU (3 + y1, 0))
theorem mtX12_toldAt (l : Launch) (d : Nat) (hd : 4 ≤ d) (v0 : Nat) (v1 : Int32) : zMet l d 0 0 yX12_toldAt cX12_toldAt 4 (Option.some .int) [.ref v0, .int v1] (X12_toldAt v0 v1) := by
  obtain ⟨e, rfl⟩ : ∃ e, d = e + 1 := ⟨d - 1, by omega⟩
  exact zmet_of (own := RX12) (ini := false) (by decide +kernel) rfl (fun _ => by contradiction) (Nat.le_of_ble_eq_true rfl) (coX12_toldAt l e (by omega) v0 v1)
abbrev iX12_areOrders : zI := (RX12, cX12_areOrders, 4, (Option.some .boolean), false)
def tX12_areOrders : List (Nat × Instr × Nat) := [(0, .iconst 0, 1), (1, .istore_n 1, 1), (2, .iconst 0, 1), (3, .istore_n 2, 1), (4, .iload_n 2, 1), (5, .aload_n 0, 1), (6, .invokevirtual 419, 3), (9, .if_icmp .ge 48, 3), (12, .aload_n 0, 1), (13, .getfield 7, 3), (16, .iconst 3, 1), (17, .iload_n 2, 1), (18, .iadd, 1), (19, .iaload, 1), (20, .istore_n 3, 1), (21, .aload_n 0, 1), (22, .iload_n 3, 1), (23, .i2l, 1), (24, .invokevirtual 422, 3), (27, .ifCond .eq 16, 3), (30, .aload_n 0, 1), (31, .iload_n 3, 1), (32, .invokevirtual 426, 3), (35, .aload_n 0, 1), (36, .iload_n 2, 1), (37, .invokevirtual 426, 3), (40, .if_icmp .eq 5, 3), (43, .iconst 0, 1), (44, .ireturn, 1), (45, .iload_n 1, 1), (46, .iconst 1, 1), (47, .iload_n 3, 1), (48, .ishl, 1), (49, .ior, 1), (50, .istore_n 1, 1), (51, .iinc 2 1, 3), (54, .goto (-50), 3), (57, .iload_n 1, 1), (58, .iconst 1, 1), (59, .aload_n 0, 1), (60, .invokevirtual 419, 3), (63, .ishl, 1), (64, .iconst 1, 1), (65, .isub, 1), (66, .if_icmp .ne 7, 3), (69, .iconst 1, 1), (70, .goto 4, 3), (73, .iconst 0, 1), (74, .ireturn, 1)]
set_option maxRecDepth 100000 in
theorem tkX12_areOrders : ∀ q ∈ tX12_areOrders, decode cX12_areOrders q.1 = .ok q.2 := by decide +kernel
theorem vmX12_areOrders : zVM yX12_areOrders cX12_areOrders 4 (Option.some .boolean) 0 12 := ⟨kX12_areOrders, q_2316, q_146, q_162, ⟨_, rfl, rfl⟩, by decide +kernel, by decide⟩
set_option maxHeartbeats 2000000 in
set_option maxRecDepth 20000 in
theorem coX12_areOrders_J57 (l : Launch) (e : Nat) (he : 3 ≤ e) (v0 : Nat) (v1 : Int32) : zCo l (e + 1) 0 0 iX12_areOrders 57 [(0, .ref v0), (1, .int v1)] [] (X12_areOrders_J57 v0 v1) := by
  unfold X12_areOrders_J57
  refine zco_p tkX12_areOrders 37 3 (pc' := 60) (L' := [(0, .ref v0), (1, .int v1)]) (S' := [.ref v0, .int 1, .int v1]) rfl ?_
  refine zco_Vi (rc := 0) (rs := 0) (mc := 0) (ms := 0) (As := []) (S := [.int 1, .int v1]) vmX12_peopleMany (mtX12_peopleMany l e (by omega) v0) q_1940 rfl rfl (Nat.le_of_ble_eq_true rfl) (zdk (cc := cX12_areOrders) (q := (60, .invokevirtual 419, 3)) tkX12_areOrders 40 rfl) (fun y1 => ?_)
  refine zco_p tkX12_areOrders 41 3 (pc' := 66) (L' := [(0, .ref v0), (1, .int v1)]) (S' := [.int (((1 : Int32) <<< (y1 &&& 31)) - 1), .int v1]) rfl ?_
  refine zco_icmp_ne (tgt := 73) (zdk (cc := cX12_areOrders) (q := (66, .if_icmp .ne 7, 3)) tkX12_areOrders 44 rfl) rfl ?_ ?_
  · refine zco_p tkX12_areOrders 47 1 (pc' := 74) (L' := [(0, .ref v0), (1, .int v1)]) (S' := [.int 0]) rfl ?_
    exact zco_zret rfl rfl rfl (zdk (cc := cX12_areOrders) (q := (74, .ireturn, 1)) tkX12_areOrders 48 rfl)
  · refine zco_p tkX12_areOrders 45 2 (pc' := 74) (L' := [(0, .ref v0), (1, .int v1)]) (S' := [.int 1]) rfl ?_
    exact zco_zret rfl rfl rfl (zdk (cc := cX12_areOrders) (q := (74, .ireturn, 1)) tkX12_areOrders 48 rfl)
set_option maxHeartbeats 2000000 in
set_option maxRecDepth 20000 in
theorem coX12_areOrders_B4 (l : Launch) (e : Nat) (he : 3 ≤ e) (v0 : Nat) (r4 : Int32 × Int32 → zM) (hr4 : ∀ x : Int32 × Int32, zCo l (e + 1) 0 0 iX12_areOrders 4 [(0, .ref v0), (1, .int x.1), (2, .int x.2)] [] (r4 x)) (v1 : Int32) (v2 : Int32) : zCo l (e + 1) 0 0 iX12_areOrders 4 [(0, .ref v0), (1, .int v1), (2, .int v2)] [] (X12_areOrders_B4 v0 r4 v1 v2) := by
  unfold X12_areOrders_B4
  refine zco_p tkX12_areOrders 4 2 (pc' := 6) (L' := [(0, .ref v0), (1, .int v1), (2, .int v2)]) (S' := [.ref v0, .int v2]) rfl ?_
  refine zco_Vi (rc := 0) (rs := 0) (mc := 0) (ms := 0) (As := []) (S := [.int v2]) vmX12_peopleMany (mtX12_peopleMany l e (by omega) v0) q_1940 rfl rfl (Nat.le_of_ble_eq_true rfl) (zdk (cc := cX12_areOrders) (q := (6, .invokevirtual 419, 3)) tkX12_areOrders 6 rfl) (fun y1 => ?_)
  refine zco_icmp_ge (tgt := 57) (zdk (cc := cX12_areOrders) (q := (9, .if_icmp .ge 48, 3)) tkX12_areOrders 7 rfl) rfl ?_ ?_
  · exact zco_sub [0, 1] rfl (coX12_areOrders_J57 l e he v0 v1)
  · refine zco_p tkX12_areOrders 8 1 (pc' := 13) (L' := [(0, .ref v0), (1, .int v1), (2, .int v2)]) (S' := [.ref v0]) rfl ?_
    refine zco_gr fl_12_7 rfl (zdk (cc := cX12_areOrders) (q := (13, .getfield 7, 3)) tkX12_areOrders 9 rfl) (fun x2 => ?_)
    refine zco_p tkX12_areOrders 10 3 (pc' := 19) (L' := [(0, .ref v0), (1, .int v1), (2, .int v2)]) (S' := [.int (3 + v2), .ref x2]) rfl ?_
    refine zco_iaload (zdk (cc := cX12_areOrders) (q := (19, .iaload, 1)) tkX12_areOrders 13 rfl) (fun x3 => ?_)
    refine zco_p tkX12_areOrders 14 4 (pc' := 24) (L' := [(3, .int x3), (0, .ref v0), (1, .int v1), (2, .int v2)]) (S' := [.long x3.toInt64, .ref v0]) rfl ?_
    refine zco_Vi (rc := 0) (rs := 0) (mc := 0) (ms := 0) (As := [.long x3.toInt64]) (S := []) vmX12_isPerson (mtX12_isPerson l e (by omega) v0 x3.toInt64) q_1936 rfl rfl (Nat.le_of_ble_eq_true rfl) (zdk (cc := cX12_areOrders) (q := (24, .invokevirtual 422, 3)) tkX12_areOrders 18 rfl) (fun y4 => ?_)
    refine zco_if_eq (tgt := 43) (zdk (cc := cX12_areOrders) (q := (27, .ifCond .eq 16, 3)) tkX12_areOrders 19 rfl) rfl ?_ ?_
    · refine zco_p tkX12_areOrders 27 1 (pc' := 44) (L' := [(3, .int x3), (0, .ref v0), (1, .int v1), (2, .int v2)]) (S' := [.int 0]) rfl ?_
      exact zco_zret rfl rfl rfl (zdk (cc := cX12_areOrders) (q := (44, .ireturn, 1)) tkX12_areOrders 28 rfl)
    · refine zco_p tkX12_areOrders 20 2 (pc' := 32) (L' := [(3, .int x3), (0, .ref v0), (1, .int v1), (2, .int v2)]) (S' := [.int x3, .ref v0]) rfl ?_
      refine zco_Vi (rc := 0) (rs := 0) (mc := 0) (ms := 0) (As := [.int x3]) (S := []) vmX12_sideOf (mtX12_sideOf l e (by omega) v0 x3) q_1996 rfl rfl (Nat.le_of_ble_eq_true rfl) (zdk (cc := cX12_areOrders) (q := (32, .invokevirtual 426, 3)) tkX12_areOrders 22 rfl) (fun y5 => ?_)
      refine zco_p tkX12_areOrders 23 2 (pc' := 37) (L' := [(3, .int x3), (0, .ref v0), (1, .int v1), (2, .int v2)]) (S' := [.int v2, .ref v0, .int y5]) rfl ?_
      refine zco_Vi (rc := 0) (rs := 0) (mc := 0) (ms := 0) (As := [.int v2]) (S := [.int y5]) vmX12_sideOf (mtX12_sideOf l e (by omega) v0 v2) q_1996 rfl rfl (Nat.le_of_ble_eq_true rfl) (zdk (cc := cX12_areOrders) (q := (37, .invokevirtual 426, 3)) tkX12_areOrders 25 rfl) (fun y6 => ?_)
      refine zco_icmp_eq (tgt := 45) (zdk (cc := cX12_areOrders) (q := (40, .if_icmp .eq 5, 3)) tkX12_areOrders 26 rfl) rfl ?_ ?_
      · refine zco_p tkX12_areOrders 29 8 (pc' := 4) (L' := [(2, .int (v2 + 1)), (1, .int (v1 ||| ((1 : Int32) <<< (x3 &&& 31)))), (3, .int x3), (0, .ref v0)]) (S' := []) rfl ?_
        exact zco_sub [3, 1, 0] rfl (hr4 (v1 ||| ((1 : Int32) <<< (x3 &&& 31)), v2 + 1))
      · refine zco_p tkX12_areOrders 27 1 (pc' := 44) (L' := [(3, .int x3), (0, .ref v0), (1, .int v1), (2, .int v2)]) (S' := [.int 0]) rfl ?_
        exact zco_zret rfl rfl rfl (zdk (cc := cX12_areOrders) (q := (44, .ireturn, 1)) tkX12_areOrders 28 rfl)
set_option maxHeartbeats 2000000 in
set_option maxRecDepth 20000 in
theorem coX12_areOrders (l : Launch) (e : Nat) (he : 3 ≤ e) (v0 : Nat) : zCo l (e + 1) 0 0 iX12_areOrders 0 [(0, .ref v0)] [] (X12_areOrders v0) := by
  unfold X12_areOrders
  refine zco_p tkX12_areOrders 0 4 (pc' := 4) (L' := [(2, .int 0), (1, .int 0), (0, .ref v0)]) (S' := []) rfl ?_
  exact zco_sub [2, 1, 0] rfl (zco_fix (Lf := fun x : Int32 × Int32 => [(0, .ref v0), (1, .int x.1), (2, .int x.2)]) (Sf := fun _ => []) (fun r hr x => coX12_areOrders_B4 l e he v0 r hr x.1 x.2) zFU (0, 0))
theorem mtX12_areOrders (l : Launch) (d : Nat) (hd : 4 ≤ d) (v0 : Nat) : zMet l d 0 0 yX12_areOrders cX12_areOrders 4 (Option.some .boolean) [.ref v0] (X12_areOrders v0) := by
  obtain ⟨e, rfl⟩ : ∃ e, d = e + 1 := ⟨d - 1, by omega⟩
  exact zmet_of (own := RX12) (ini := false) (by decide +kernel) rfl (fun _ => by contradiction) (Nat.le_of_ble_eq_true rfl) (coX12_areOrders l e (by omega) v0)
abbrev iX12_isToldOf : zI := (RX12, cX12_isToldOf, 5, (Option.some .boolean), false)
def tX12_isToldOf : List (Nat × Instr × Nat) := [(0, .aload_n 0, 1), (1, .iload_n 1, 1), (2, .invokevirtual 739, 3), (5, .istore_n 2, 1), (6, .aload_n 0, 1), (7, .getfield 7, 3), (10, .iload_n 2, 1), (11, .iaload, 1), (12, .istore_n 3, 1), (13, .iload_n 3, 1), (14, .sipush 255, 3), (17, .if_icmp .eq 47, 3), (20, .aload_n 0, 1), (21, .iload_n 1, 1), (22, .i2l, 1), (23, .iload_n 3, 1), (24, .i2l, 1), (25, .invokevirtual 545, 3), (28, .ifCond .eq 34, 3), (31, .aload_n 0, 1), (32, .getfield 7, 3), (35, .aload_n 0, 1), (36, .iload_n 3, 1), (37, .invokevirtual 739, 3), (40, .iaload, 1), (41, .iload_n 1, 1), (42, .if_icmp .ne 20, 3), (45, .aload_n 0, 1), (46, .aload_n 0, 1), (47, .iload_n 1, 1), (48, .invokevirtual 429, 3), (51, .aload_n 0, 1), (52, .iload_n 3, 1), (53, .invokevirtual 429, 3), (56, .invokevirtual 496, 3), (59, .ifCond .eq 5, 3), (62, .iconst 0, 1), (63, .ireturn, 1), (64, .aload_n 0, 1), (65, .getfield 7, 3), (68, .iload_n 2, 1), (69, .iconst 1, 1), (70, .iadd, 1), (71, .iaload, 1), (72, .bipush 99, 2), (74, .if_icmp .le 5, 3), (77, .iconst 0, 1), (78, .ireturn, 1), (79, .iconst 2, 1), (80, .istore 4, 2), (82, .iload 4, 2), (84, .aload_n 0, 1), (85, .iload_n 1, 1), (86, .invokevirtual 736, 3), (89, .if_icmp .ge 25, 3), (92, .aload_n 0, 1), (93, .getfield 7, 3), (96, .iload_n 2, 1), (97, .iload 4, 2), (99, .iadd, 1), (100, .iaload, 1), (101, .bipush 9, 2), (103, .if_icmp .le 5, 3), (106, .iconst 0, 1), (107, .ireturn, 1), (108, .iinc 4 1, 3), (111, .goto (-29), 3), (114, .iconst 1, 1), (115, .ireturn, 1)]
set_option maxRecDepth 100000 in
theorem tkX12_isToldOf : ∀ q ∈ tX12_isToldOf, decode cX12_isToldOf q.1 = .ok q.2 := by decide +kernel
theorem vmX12_isToldOf : zVM yX12_isToldOf cX12_isToldOf 5 (Option.some .boolean) 1 12 := ⟨kX12_isToldOf, q_2320, q_147, q_162, ⟨_, rfl, rfl⟩, by decide +kernel, by decide⟩
set_option maxHeartbeats 2000000 in
set_option maxRecDepth 20000 in
theorem coX12_isToldOf_B82 (l : Launch) (e : Nat) (he : 4 ≤ e) (v0 : Nat) (v1 : Int32) (v2 : Int32) (r82 : Int32 → zM) (hr82 : ∀ x : Int32, zCo l (e + 1) 0 0 iX12_isToldOf 82 [(0, .ref v0), (1, .int v1), (2, .int v2), (4, .int x)] [] (r82 x)) (v4 : Int32) : zCo l (e + 1) 0 0 iX12_isToldOf 82 [(0, .ref v0), (1, .int v1), (2, .int v2), (4, .int v4)] [] (X12_isToldOf_B82 v0 v1 v2 r82 v4) := by
  unfold X12_isToldOf_B82
  refine zco_p tkX12_isToldOf 50 3 (pc' := 86) (L' := [(0, .ref v0), (1, .int v1), (2, .int v2), (4, .int v4)]) (S' := [.int v1, .ref v0, .int v4]) rfl ?_
  refine zco_Vi (rc := 0) (rs := 0) (mc := 0) (ms := 0) (As := [.int v1]) (S := [.int v4]) vmX12_bytesOf (mtX12_bytesOf l e (by omega) v0 v1) q_2306 rfl rfl (Nat.le_of_ble_eq_true rfl) (zdk (cc := cX12_isToldOf) (q := (86, .invokevirtual 736, 3)) tkX12_isToldOf 53 rfl) (fun y1 => ?_)
  refine zco_icmp_ge (tgt := 114) (zdk (cc := cX12_isToldOf) (q := (89, .if_icmp .ge 25, 3)) tkX12_isToldOf 54 rfl) rfl ?_ ?_
  · refine zco_p tkX12_isToldOf 67 1 (pc' := 115) (L' := [(0, .ref v0), (1, .int v1), (2, .int v2), (4, .int v4)]) (S' := [.int 1]) rfl ?_
    exact zco_zret rfl rfl rfl (zdk (cc := cX12_isToldOf) (q := (115, .ireturn, 1)) tkX12_isToldOf 68 rfl)
  · refine zco_p tkX12_isToldOf 55 1 (pc' := 93) (L' := [(0, .ref v0), (1, .int v1), (2, .int v2), (4, .int v4)]) (S' := [.ref v0]) rfl ?_
    refine zco_gr fl_12_7 rfl (zdk (cc := cX12_isToldOf) (q := (93, .getfield 7, 3)) tkX12_isToldOf 56 rfl) (fun x2 => ?_)
    refine zco_p tkX12_isToldOf 57 3 (pc' := 100) (L' := [(0, .ref v0), (1, .int v1), (2, .int v2), (4, .int v4)]) (S' := [.int (v2 + v4), .ref x2]) rfl ?_
    refine zco_iaload (zdk (cc := cX12_isToldOf) (q := (100, .iaload, 1)) tkX12_isToldOf 60 rfl) (fun x3 => ?_)
    refine zco_p tkX12_isToldOf 61 1 (pc' := 103) (L' := [(0, .ref v0), (1, .int v1), (2, .int v2), (4, .int v4)]) (S' := [.int 9, .int x3]) rfl ?_
    refine zco_icmp_le (tgt := 108) (zdk (cc := cX12_isToldOf) (q := (103, .if_icmp .le 5, 3)) tkX12_isToldOf 62 rfl) rfl ?_ ?_
    · refine zco_p tkX12_isToldOf 65 2 (pc' := 82) (L' := [(4, .int (v4 + 1)), (0, .ref v0), (1, .int v1), (2, .int v2)]) (S' := []) rfl ?_
      exact zco_sub [1, 2, 3, 0] rfl (hr82 (v4 + 1))
    · refine zco_p tkX12_isToldOf 63 1 (pc' := 107) (L' := [(0, .ref v0), (1, .int v1), (2, .int v2), (4, .int v4)]) (S' := [.int 0]) rfl ?_
      exact zco_zret rfl rfl rfl (zdk (cc := cX12_isToldOf) (q := (107, .ireturn, 1)) tkX12_isToldOf 64 rfl)
set_option maxHeartbeats 2000000 in
set_option maxRecDepth 20000 in
theorem coX12_isToldOf_J64 (l : Launch) (e : Nat) (he : 4 ≤ e) (v0 : Nat) (v1 : Int32) (v2 : Int32) : zCo l (e + 1) 0 0 iX12_isToldOf 64 [(0, .ref v0), (1, .int v1), (2, .int v2)] [] (X12_isToldOf_J64 v0 v1 v2) := by
  unfold X12_isToldOf_J64
  refine zco_p tkX12_isToldOf 38 1 (pc' := 65) (L' := [(0, .ref v0), (1, .int v1), (2, .int v2)]) (S' := [.ref v0]) rfl ?_
  refine zco_gr fl_12_7 rfl (zdk (cc := cX12_isToldOf) (q := (65, .getfield 7, 3)) tkX12_isToldOf 39 rfl) (fun x1 => ?_)
  refine zco_p tkX12_isToldOf 40 3 (pc' := 71) (L' := [(0, .ref v0), (1, .int v1), (2, .int v2)]) (S' := [.int (v2 + 1), .ref x1]) rfl ?_
  refine zco_iaload (zdk (cc := cX12_isToldOf) (q := (71, .iaload, 1)) tkX12_isToldOf 43 rfl) (fun x2 => ?_)
  refine zco_p tkX12_isToldOf 44 1 (pc' := 74) (L' := [(0, .ref v0), (1, .int v1), (2, .int v2)]) (S' := [.int 99, .int x2]) rfl ?_
  refine zco_icmp_le (tgt := 79) (zdk (cc := cX12_isToldOf) (q := (74, .if_icmp .le 5, 3)) tkX12_isToldOf 45 rfl) rfl ?_ ?_
  · refine zco_p tkX12_isToldOf 48 2 (pc' := 82) (L' := [(4, .int 2), (0, .ref v0), (1, .int v1), (2, .int v2)]) (S' := []) rfl ?_
    exact zco_sub [1, 2, 3, 0] rfl (zco_fix (Lf := fun x : Int32 => [(0, .ref v0), (1, .int v1), (2, .int v2), (4, .int x)]) (Sf := fun _ => []) (fun r hr x => coX12_isToldOf_B82 l e he v0 v1 v2 r hr x) zFU 2)
  · refine zco_p tkX12_isToldOf 46 1 (pc' := 78) (L' := [(0, .ref v0), (1, .int v1), (2, .int v2)]) (S' := [.int 0]) rfl ?_
    exact zco_zret rfl rfl rfl (zdk (cc := cX12_isToldOf) (q := (78, .ireturn, 1)) tkX12_isToldOf 47 rfl)
set_option maxHeartbeats 2000000 in
set_option maxRecDepth 20000 in
theorem coX12_isToldOf (l : Launch) (e : Nat) (he : 4 ≤ e) (v0 : Nat) (v1 : Int32) : zCo l (e + 1) 0 0 iX12_isToldOf 0 [(0, .ref v0), (1, .int v1)] [] (X12_isToldOf v0 v1) := by
  unfold X12_isToldOf
  refine zco_p tkX12_isToldOf 0 2 (pc' := 2) (L' := [(0, .ref v0), (1, .int v1)]) (S' := [.int v1, .ref v0]) rfl ?_
  refine zco_Vi (rc := 0) (rs := 0) (mc := 0) (ms := 0) (As := [.int v1]) (S := []) vmX12_toldAt (mtX12_toldAt l e (by omega) v0 v1) q_2302 rfl rfl (Nat.le_of_ble_eq_true rfl) (zdk (cc := cX12_isToldOf) (q := (2, .invokevirtual 739, 3)) tkX12_isToldOf 2 rfl) (fun y1 => ?_)
  refine zco_p tkX12_isToldOf 3 2 (pc' := 7) (L' := [(2, .int y1), (0, .ref v0), (1, .int v1)]) (S' := [.ref v0]) rfl ?_
  refine zco_gr fl_12_7 rfl (zdk (cc := cX12_isToldOf) (q := (7, .getfield 7, 3)) tkX12_isToldOf 5 rfl) (fun x2 => ?_)
  refine zco_p tkX12_isToldOf 6 1 (pc' := 11) (L' := [(2, .int y1), (0, .ref v0), (1, .int v1)]) (S' := [.int y1, .ref x2]) rfl ?_
  refine zco_iaload (zdk (cc := cX12_isToldOf) (q := (11, .iaload, 1)) tkX12_isToldOf 7 rfl) (fun x3 => ?_)
  refine zco_p tkX12_isToldOf 8 3 (pc' := 17) (L' := [(3, .int x3), (2, .int y1), (0, .ref v0), (1, .int v1)]) (S' := [.int 255, .int x3]) rfl ?_
  refine zco_icmp_eq (tgt := 64) (zdk (cc := cX12_isToldOf) (q := (17, .if_icmp .eq 47, 3)) tkX12_isToldOf 11 rfl) rfl ?_ ?_
  · exact zco_sub [2, 3, 1] rfl (coX12_isToldOf_J64 l e he v0 v1 y1)
  · refine zco_p tkX12_isToldOf 12 5 (pc' := 25) (L' := [(3, .int x3), (2, .int y1), (0, .ref v0), (1, .int v1)]) (S' := [.long x3.toInt64, .long v1.toInt64, .ref v0]) rfl ?_
    refine zco_Vi (rc := 0) (rs := 0) (mc := 0) (ms := 0) (As := [.long v1.toInt64, .long x3.toInt64]) (S := []) vmX12_areTwo (mtX12_areTwo l e (by omega) v0 v1.toInt64 x3.toInt64) q_1992 rfl rfl (Nat.le_of_ble_eq_true rfl) (zdk (cc := cX12_isToldOf) (q := (25, .invokevirtual 545, 3)) tkX12_isToldOf 17 rfl) (fun y4 => ?_)
    refine zco_if_eq (tgt := 62) (zdk (cc := cX12_isToldOf) (q := (28, .ifCond .eq 34, 3)) tkX12_isToldOf 18 rfl) rfl ?_ ?_
    · refine zco_p tkX12_isToldOf 36 1 (pc' := 63) (L' := [(3, .int x3), (2, .int y1), (0, .ref v0), (1, .int v1)]) (S' := [.int 0]) rfl ?_
      exact zco_zret rfl rfl rfl (zdk (cc := cX12_isToldOf) (q := (63, .ireturn, 1)) tkX12_isToldOf 37 rfl)
    · refine zco_p tkX12_isToldOf 19 1 (pc' := 32) (L' := [(3, .int x3), (2, .int y1), (0, .ref v0), (1, .int v1)]) (S' := [.ref v0]) rfl ?_
      refine zco_gr fl_12_7 rfl (zdk (cc := cX12_isToldOf) (q := (32, .getfield 7, 3)) tkX12_isToldOf 20 rfl) (fun x5 => ?_)
      refine zco_p tkX12_isToldOf 21 2 (pc' := 37) (L' := [(3, .int x3), (2, .int y1), (0, .ref v0), (1, .int v1)]) (S' := [.int x3, .ref v0, .ref x5]) rfl ?_
      refine zco_Vi (rc := 0) (rs := 0) (mc := 0) (ms := 0) (As := [.int x3]) (S := [.ref x5]) vmX12_toldAt (mtX12_toldAt l e (by omega) v0 x3) q_2302 rfl rfl (Nat.le_of_ble_eq_true rfl) (zdk (cc := cX12_isToldOf) (q := (37, .invokevirtual 739, 3)) tkX12_isToldOf 23 rfl) (fun y6 => ?_)
      refine zco_iaload (zdk (cc := cX12_isToldOf) (q := (40, .iaload, 1)) tkX12_isToldOf 24 rfl) (fun x7 => ?_)
      refine zco_p tkX12_isToldOf 25 1 (pc' := 42) (L' := [(3, .int x3), (2, .int y1), (0, .ref v0), (1, .int v1)]) (S' := [.int v1, .int x7]) rfl ?_
      refine zco_icmp_ne (tgt := 62) (zdk (cc := cX12_isToldOf) (q := (42, .if_icmp .ne 20, 3)) tkX12_isToldOf 26 rfl) rfl ?_ ?_
      · refine zco_p tkX12_isToldOf 36 1 (pc' := 63) (L' := [(3, .int x3), (2, .int y1), (0, .ref v0), (1, .int v1)]) (S' := [.int 0]) rfl ?_
        exact zco_zret rfl rfl rfl (zdk (cc := cX12_isToldOf) (q := (63, .ireturn, 1)) tkX12_isToldOf 37 rfl)
      · refine zco_p tkX12_isToldOf 27 3 (pc' := 48) (L' := [(3, .int x3), (2, .int y1), (0, .ref v0), (1, .int v1)]) (S' := [.int v1, .ref v0, .ref v0]) rfl ?_
        refine zco_Vi (rc := 0) (rs := 0) (mc := 0) (ms := 0) (As := [.int v1]) (S := [.ref v0]) vmX12_codeOf (mtX12_codeOf l e (by omega) v0 v1) q_1948 rfl rfl (Nat.le_of_ble_eq_true rfl) (zdk (cc := cX12_isToldOf) (q := (48, .invokevirtual 429, 3)) tkX12_isToldOf 30 rfl) (fun y8 => ?_)
        refine zco_p tkX12_isToldOf 31 2 (pc' := 53) (L' := [(3, .int x3), (2, .int y1), (0, .ref v0), (1, .int v1)]) (S' := [.int x3, .ref v0, .int y8, .ref v0]) rfl ?_
        refine zco_Vi (rc := 0) (rs := 0) (mc := 0) (ms := 0) (As := [.int x3]) (S := [.int y8, .ref v0]) vmX12_codeOf (mtX12_codeOf l e (by omega) v0 x3) q_1948 rfl rfl (Nat.le_of_ble_eq_true rfl) (zdk (cc := cX12_isToldOf) (q := (53, .invokevirtual 429, 3)) tkX12_isToldOf 33 rfl) (fun y9 => ?_)
        refine zco_Vi (rc := 0) (rs := 0) (mc := 0) (ms := 0) (As := [.int y8, .int y9]) (S := []) vmX12_areKin (mtX12_areKin l e (by omega) v0 y8 y9) q_2059 rfl rfl (Nat.le_of_ble_eq_true rfl) (zdk (cc := cX12_isToldOf) (q := (56, .invokevirtual 496, 3)) tkX12_isToldOf 34 rfl) (fun y10 => ?_)
        refine zco_if_eq (tgt := 64) (zdk (cc := cX12_isToldOf) (q := (59, .ifCond .eq 5, 3)) tkX12_isToldOf 35 rfl) rfl ?_ ?_
        · exact zco_sub [2, 3, 1] rfl (coX12_isToldOf_J64 l e he v0 v1 y1)
        · refine zco_p tkX12_isToldOf 36 1 (pc' := 63) (L' := [(3, .int x3), (2, .int y1), (0, .ref v0), (1, .int v1)]) (S' := [.int 0]) rfl ?_
          exact zco_zret rfl rfl rfl (zdk (cc := cX12_isToldOf) (q := (63, .ireturn, 1)) tkX12_isToldOf 37 rfl)
theorem mtX12_isToldOf (l : Launch) (d : Nat) (hd : 5 ≤ d) (v0 : Nat) (v1 : Int32) : zMet l d 0 0 yX12_isToldOf cX12_isToldOf 5 (Option.some .boolean) [.ref v0, .int v1] (X12_isToldOf v0 v1) := by
  obtain ⟨e, rfl⟩ : ∃ e, d = e + 1 := ⟨d - 1, by omega⟩
  exact zmet_of (own := RX12) (ini := false) (by decide +kernel) rfl (fun _ => by contradiction) (Nat.le_of_ble_eq_true rfl) (coX12_isToldOf l e (by omega) v0 v1)
abbrev iX12_isImage : zI := (RX12, cX12_isImage, 3, (Option.some .boolean), false)
def tX12_isImage : List (Nat × Instr × Nat) := [(0, .iload_n 1, 1), (1, .aload_n 0, 1), (2, .aload_n 0, 1), (3, .invokevirtual 419, 3), (6, .invokevirtual 739, 3), (9, .iconst 1, 1), (10, .iadd, 1), (11, .if_icmp .ne 55, 3), (14, .aload_n 0, 1), (15, .getfield 7, 3), (18, .iload_n 1, 1), (19, .iconst 1, 1), (20, .isub, 1), (21, .iaload, 1), (22, .aload_n 0, 1), (23, .getfield 7, 3), (26, .iload_n 1, 1), (27, .iconst 1, 1), (28, .isub, 1), (29, .invokestatic 732, 3), (32, .if_icmp .ne 34, 3), (35, .aload_n 0, 1), (36, .iconst 0, 1), (37, .invokevirtual 742, 3), (40, .sipush 999, 3), (43, .if_icmp .gt 23, 3), (46, .aload_n 0, 1), (47, .getfield 7, 3), (50, .iconst 2, 1), (51, .iaload, 1), (52, .aload_n 0, 1), (53, .invokevirtual 518, 3), (56, .if_icmp .ge 10, 3), (59, .aload_n 0, 1), (60, .invokevirtual 745, 3), (63, .ifCond .ne 5, 3), (66, .iconst 0, 1), (67, .ireturn, 1), (68, .iconst 0, 1), (69, .istore_n 2, 1), (70, .iload_n 2, 1), (71, .aload_n 0, 1), (72, .invokevirtual 419, 3), (75, .if_icmp .ge 19, 3), (78, .aload_n 0, 1), (79, .iload_n 2, 1), (80, .invokevirtual 748, 3), (83, .ifCond .ne 5, 3), (86, .iconst 0, 1), (87, .ireturn, 1), (88, .iinc 2 1, 3), (91, .goto (-21), 3), (94, .iconst 1, 1), (95, .ireturn, 1)]
set_option maxRecDepth 100000 in
theorem tkX12_isImage : ∀ q ∈ tX12_isImage, decode cX12_isImage q.1 = .ok q.2 := by decide +kernel
theorem vmX12_isImage : zVM yX12_isImage cX12_isImage 3 (Option.some .boolean) 1 12 := ⟨kX12_isImage, q_2300, q_142, q_162, ⟨_, rfl, rfl⟩, by decide +kernel, by decide⟩
set_option maxHeartbeats 2000000 in
set_option maxRecDepth 20000 in
theorem coX12_isImage_B70 (l : Launch) (e : Nat) (he : 5 ≤ e) (v0 : Nat) (r70 : Int32 → zM) (hr70 : ∀ x : Int32, zCo l (e + 1) 0 0 iX12_isImage 70 [(0, .ref v0), (2, .int x)] [] (r70 x)) (v2 : Int32) : zCo l (e + 1) 0 0 iX12_isImage 70 [(0, .ref v0), (2, .int v2)] [] (X12_isImage_B70 v0 r70 v2) := by
  unfold X12_isImage_B70
  refine zco_p tkX12_isImage 40 2 (pc' := 72) (L' := [(0, .ref v0), (2, .int v2)]) (S' := [.ref v0, .int v2]) rfl ?_
  refine zco_Vi (rc := 0) (rs := 0) (mc := 0) (ms := 0) (As := []) (S := [.int v2]) vmX12_peopleMany (mtX12_peopleMany l e (by omega) v0) q_1940 rfl rfl (Nat.le_of_ble_eq_true rfl) (zdk (cc := cX12_isImage) (q := (72, .invokevirtual 419, 3)) tkX12_isImage 42 rfl) (fun y1 => ?_)
  refine zco_icmp_ge (tgt := 94) (zdk (cc := cX12_isImage) (q := (75, .if_icmp .ge 19, 3)) tkX12_isImage 43 rfl) rfl ?_ ?_
  · refine zco_p tkX12_isImage 52 1 (pc' := 95) (L' := [(0, .ref v0), (2, .int v2)]) (S' := [.int 1]) rfl ?_
    exact zco_zret rfl rfl rfl (zdk (cc := cX12_isImage) (q := (95, .ireturn, 1)) tkX12_isImage 53 rfl)
  · refine zco_p tkX12_isImage 44 2 (pc' := 80) (L' := [(0, .ref v0), (2, .int v2)]) (S' := [.int v2, .ref v0]) rfl ?_
    refine zco_Vi (rc := 0) (rs := 0) (mc := 0) (ms := 0) (As := [.int v2]) (S := []) vmX12_isToldOf (mtX12_isToldOf l e (by omega) v0 v2) q_2318 rfl rfl (Nat.le_of_ble_eq_true rfl) (zdk (cc := cX12_isImage) (q := (80, .invokevirtual 748, 3)) tkX12_isImage 46 rfl) (fun y2 => ?_)
    refine zco_if_ne (tgt := 88) (zdk (cc := cX12_isImage) (q := (83, .ifCond .ne 5, 3)) tkX12_isImage 47 rfl) rfl ?_ ?_
    · refine zco_p tkX12_isImage 50 2 (pc' := 70) (L' := [(2, .int (v2 + 1)), (0, .ref v0)]) (S' := []) rfl ?_
      exact zco_sub [1, 0] rfl (hr70 (v2 + 1))
    · refine zco_p tkX12_isImage 48 1 (pc' := 87) (L' := [(0, .ref v0), (2, .int v2)]) (S' := [.int 0]) rfl ?_
      exact zco_zret rfl rfl rfl (zdk (cc := cX12_isImage) (q := (87, .ireturn, 1)) tkX12_isImage 49 rfl)
set_option maxHeartbeats 2000000 in
set_option maxRecDepth 20000 in
theorem coX12_isImage (l : Launch) (e : Nat) (he : 5 ≤ e) (v0 : Nat) (v1 : Int32) : zCo l (e + 1) 0 0 iX12_isImage 0 [(0, .ref v0), (1, .int v1)] [] (X12_isImage v0 v1) := by
  unfold X12_isImage
  refine zco_p tkX12_isImage 0 3 (pc' := 3) (L' := [(0, .ref v0), (1, .int v1)]) (S' := [.ref v0, .ref v0, .int v1]) rfl ?_
  refine zco_Vi (rc := 0) (rs := 0) (mc := 0) (ms := 0) (As := []) (S := [.ref v0, .int v1]) vmX12_peopleMany (mtX12_peopleMany l e (by omega) v0) q_1940 rfl rfl (Nat.le_of_ble_eq_true rfl) (zdk (cc := cX12_isImage) (q := (3, .invokevirtual 419, 3)) tkX12_isImage 3 rfl) (fun y1 => ?_)
  refine zco_Vi (rc := 0) (rs := 0) (mc := 0) (ms := 0) (As := [.int y1]) (S := [.int v1]) vmX12_toldAt (mtX12_toldAt l e (by omega) v0 y1) q_2302 rfl rfl (Nat.le_of_ble_eq_true rfl) (zdk (cc := cX12_isImage) (q := (6, .invokevirtual 739, 3)) tkX12_isImage 4 rfl) (fun y2 => ?_)
  refine zco_p tkX12_isImage 5 2 (pc' := 11) (L' := [(0, .ref v0), (1, .int v1)]) (S' := [.int (y2 + 1), .int v1]) rfl ?_
  refine zco_icmp_ne (tgt := 66) (zdk (cc := cX12_isImage) (q := (11, .if_icmp .ne 55, 3)) tkX12_isImage 7 rfl) rfl ?_ ?_
  · refine zco_p tkX12_isImage 36 1 (pc' := 67) (L' := [(0, .ref v0), (1, .int v1)]) (S' := [.int 0]) rfl ?_
    exact zco_zret rfl rfl rfl (zdk (cc := cX12_isImage) (q := (67, .ireturn, 1)) tkX12_isImage 37 rfl)
  · refine zco_p tkX12_isImage 8 1 (pc' := 15) (L' := [(0, .ref v0), (1, .int v1)]) (S' := [.ref v0]) rfl ?_
    refine zco_gr fl_12_7 rfl (zdk (cc := cX12_isImage) (q := (15, .getfield 7, 3)) tkX12_isImage 9 rfl) (fun x3 => ?_)
    refine zco_p tkX12_isImage 10 3 (pc' := 21) (L' := [(0, .ref v0), (1, .int v1)]) (S' := [.int (v1 - 1), .ref x3]) rfl ?_
    refine zco_iaload (zdk (cc := cX12_isImage) (q := (21, .iaload, 1)) tkX12_isImage 13 rfl) (fun x4 => ?_)
    refine zco_p tkX12_isImage 14 1 (pc' := 23) (L' := [(0, .ref v0), (1, .int v1)]) (S' := [.ref v0, .int x4]) rfl ?_
    refine zco_gr fl_12_7 rfl (zdk (cc := cX12_isImage) (q := (23, .getfield 7, 3)) tkX12_isImage 15 rfl) (fun x5 => ?_)
    refine zco_p tkX12_isImage 16 3 (pc' := 29) (L' := [(0, .ref v0), (1, .int v1)]) (S' := [.int (v1 - 1), .ref x5, .int x4]) rfl ?_
    refine zco_Si (rc := 0) (rs := 0) (mc := 0) (ms := 0) (As := [.ref x5, .int (v1 - 1)]) (S := [.int x4]) vmX12_checked (mtX12_checked l e (by omega) x5 (v1 - 1)) q_2291 rfl rfl (Nat.le_of_ble_eq_true rfl) (zdk (cc := cX12_isImage) (q := (29, .invokestatic 732, 3)) tkX12_isImage 19 rfl) (fun y6 => ?_)
    refine zco_icmp_ne (tgt := 66) (zdk (cc := cX12_isImage) (q := (32, .if_icmp .ne 34, 3)) tkX12_isImage 20 rfl) rfl ?_ ?_
    · refine zco_p tkX12_isImage 36 1 (pc' := 67) (L' := [(0, .ref v0), (1, .int v1)]) (S' := [.int 0]) rfl ?_
      exact zco_zret rfl rfl rfl (zdk (cc := cX12_isImage) (q := (67, .ireturn, 1)) tkX12_isImage 37 rfl)
    · refine zco_p tkX12_isImage 21 2 (pc' := 37) (L' := [(0, .ref v0), (1, .int v1)]) (S' := [.int 0, .ref v0]) rfl ?_
      refine zco_Vi (rc := 0) (rs := 0) (mc := 0) (ms := 0) (As := [.int 0]) (S := []) vmX12_twoAt (mtX12_twoAt l e (by omega) v0 0) q_2310 rfl rfl (Nat.le_of_ble_eq_true rfl) (zdk (cc := cX12_isImage) (q := (37, .invokevirtual 742, 3)) tkX12_isImage 23 rfl) (fun y7 => ?_)
      refine zco_p tkX12_isImage 24 1 (pc' := 43) (L' := [(0, .ref v0), (1, .int v1)]) (S' := [.int 999, .int y7]) rfl ?_
      refine zco_icmp_gt (tgt := 66) (zdk (cc := cX12_isImage) (q := (43, .if_icmp .gt 23, 3)) tkX12_isImage 25 rfl) rfl ?_ ?_
      · refine zco_p tkX12_isImage 36 1 (pc' := 67) (L' := [(0, .ref v0), (1, .int v1)]) (S' := [.int 0]) rfl ?_
        exact zco_zret rfl rfl rfl (zdk (cc := cX12_isImage) (q := (67, .ireturn, 1)) tkX12_isImage 37 rfl)
      · refine zco_p tkX12_isImage 26 1 (pc' := 47) (L' := [(0, .ref v0), (1, .int v1)]) (S' := [.ref v0]) rfl ?_
        refine zco_gr fl_12_7 rfl (zdk (cc := cX12_isImage) (q := (47, .getfield 7, 3)) tkX12_isImage 27 rfl) (fun x8 => ?_)
        refine zco_p tkX12_isImage 28 1 (pc' := 51) (L' := [(0, .ref v0), (1, .int v1)]) (S' := [.int 2, .ref x8]) rfl ?_
        refine zco_iaload (zdk (cc := cX12_isImage) (q := (51, .iaload, 1)) tkX12_isImage 29 rfl) (fun x9 => ?_)
        refine zco_p tkX12_isImage 30 1 (pc' := 53) (L' := [(0, .ref v0), (1, .int v1)]) (S' := [.ref v0, .int x9]) rfl ?_
        refine zco_Vi (rc := 0) (rs := 0) (mc := 0) (ms := 0) (As := []) (S := [.int x9]) vmX12_roundMany (mtX12_roundMany l e (by omega) v0) q_1924 rfl rfl (Nat.le_of_ble_eq_true rfl) (zdk (cc := cX12_isImage) (q := (53, .invokevirtual 518, 3)) tkX12_isImage 31 rfl) (fun y10 => ?_)
        refine zco_icmp_ge (tgt := 66) (zdk (cc := cX12_isImage) (q := (56, .if_icmp .ge 10, 3)) tkX12_isImage 32 rfl) rfl ?_ ?_
        · refine zco_p tkX12_isImage 36 1 (pc' := 67) (L' := [(0, .ref v0), (1, .int v1)]) (S' := [.int 0]) rfl ?_
          exact zco_zret rfl rfl rfl (zdk (cc := cX12_isImage) (q := (67, .ireturn, 1)) tkX12_isImage 37 rfl)
        · refine zco_p tkX12_isImage 33 1 (pc' := 60) (L' := [(0, .ref v0), (1, .int v1)]) (S' := [.ref v0]) rfl ?_
          refine zco_Vi (rc := 0) (rs := 0) (mc := 0) (ms := 0) (As := []) (S := []) vmX12_areOrders (mtX12_areOrders l e (by omega) v0) q_2314 rfl rfl (Nat.le_of_ble_eq_true rfl) (zdk (cc := cX12_isImage) (q := (60, .invokevirtual 745, 3)) tkX12_isImage 34 rfl) (fun y11 => ?_)
          refine zco_if_ne (tgt := 68) (zdk (cc := cX12_isImage) (q := (63, .ifCond .ne 5, 3)) tkX12_isImage 35 rfl) rfl ?_ ?_
          · refine zco_p tkX12_isImage 38 2 (pc' := 70) (L' := [(2, .int 0), (0, .ref v0), (1, .int v1)]) (S' := []) rfl ?_
            exact zco_sub [1, 0] rfl (zco_fix (Lf := fun x : Int32 => [(0, .ref v0), (2, .int x)]) (Sf := fun _ => []) (fun r hr x => coX12_isImage_B70 l e he v0 r hr x) zFU 0)
          · refine zco_p tkX12_isImage 36 1 (pc' := 67) (L' := [(0, .ref v0), (1, .int v1)]) (S' := [.int 0]) rfl ?_
            exact zco_zret rfl rfl rfl (zdk (cc := cX12_isImage) (q := (67, .ireturn, 1)) tkX12_isImage 37 rfl)
theorem mtX12_isImage (l : Launch) (d : Nat) (hd : 6 ≤ d) (v0 : Nat) (v1 : Int32) : zMet l d 0 0 yX12_isImage cX12_isImage 3 (Option.some .boolean) [.ref v0, .int v1] (X12_isImage v0 v1) := by
  obtain ⟨e, rfl⟩ : ∃ e, d = e + 1 := ⟨d - 1, by omega⟩
  exact zmet_of (own := RX12) (ini := false) (by decide +kernel) rfl (fun _ => by contradiction) (Nat.le_of_ble_eq_true rfl) (coX12_isImage l e (by omega) v0 v1)
abbrev iX12_on : zI := (RX12, cX12_on, 6, (Option.some .boolean), false)
def tX12_on_q0 : List (Nat × Instr × Nat) := [(0, .aload_n 0, 1), (1, .getfield 267, 3), (4, .istore_n 1, 1), (5, .aload_n 0, 1), (6, .iconst 0, 1), (7, .putfield 267, 3), (10, .aload_n 0, 1), (11, .iload_n 1, 1), (12, .invokevirtual 751, 3), (15, .ifCond .ne 9, 3), (18, .aload_n 0, 1), (19, .iconst 5, 1), (20, .invokevirtual 613, 3), (23, .ireturn, 1), (24, .aload_n 0, 1), (25, .getfield 134, 3), (28, .iconst 0, 1), (29, .aload_n 0, 1), (30, .iconst 0, 1), (31, .invokevirtual 742, 3), (34, .iastore, 1), (35, .aload_n 0, 1), (36, .getfield 134, 3), (39, .iconst 1, 1), (40, .aload_n 0, 1), (41, .getfield 7, 3), (44, .iconst 2, 1), (45, .iaload, 1), (46, .iastore, 1), (47, .iconst 0, 1), (48, .istore_n 2, 1), (49, .iload_n 2, 1), (50, .aload_n 0, 1), (51, .iconst 0, 1), (52, .invokevirtual 416, 3), (55, .if_icmp .ge 25, 3), (58, .aload_n 0, 1), (59, .getfield 134, 3), (62, .iconst 2, 1), (63, .iload_n 2, 1), (64, .iadd, 1), (65, .aload_n 0, 1), (66, .getfield 7, 3), (69, .iconst 3, 1), (70, .iload_n 2, 1), (71, .iadd, 1), (72, .iaload, 1), (73, .iastore, 1), (74, .iinc 2 1, 3), (77, .goto (-28), 3), (80, .iconst 0, 1), (81, .istore_n 2, 1), (82, .iload_n 2, 1), (83, .aload_n 0, 1), (84, .iconst 1, 1), (85, .invokevirtual 416, 3), (88, .if_icmp .ge 38, 3), (91, .aload_n 0, 1), (92, .getfield 134, 3), (95, .bipush 8, 2), (97, .iload_n 2, 1), (98, .iadd, 1), (99, .aload_n 0, 1), (100, .getfield 7, 3)]
set_option maxRecDepth 100000 in
theorem tkX12_on_q0 : ∀ q ∈ tX12_on_q0, decode cX12_on q.1 = .ok q.2 := by decide +kernel
def tX12_on_q1 : List (Nat × Instr × Nat) := [(103, .iconst 3, 1), (104, .aload_n 0, 1), (105, .iconst 0, 1), (106, .invokevirtual 416, 3), (109, .iadd, 1), (110, .iload_n 2, 1), (111, .iadd, 1), (112, .iaload, 1), (113, .aload_n 0, 1), (114, .iconst 0, 1), (115, .invokevirtual 416, 3), (118, .isub, 1), (119, .iastore, 1), (120, .iinc 2 1, 3), (123, .goto (-41), 3), (126, .iconst 0, 1), (127, .istore_n 2, 1), (128, .iload_n 2, 1), (129, .aload_n 0, 1), (130, .invokevirtual 419, 3), (133, .if_icmp .ge 154, 3), (136, .aload_n 0, 1), (137, .iload_n 2, 1), (138, .invokevirtual 429, 3), (141, .istore_n 3, 1), (142, .aload_n 0, 1), (143, .iload_n 2, 1), (144, .invokevirtual 739, 3), (147, .istore 4, 2), (149, .aload_n 0, 1), (150, .getfield 134, 3), (153, .bipush 14, 2), (155, .iload_n 3, 1), (156, .iadd, 1), (157, .aload_n 0, 1), (158, .getfield 7, 3), (161, .iload 4, 2), (163, .iaload, 1), (164, .sipush 255, 3), (167, .if_icmp .ne 7, 3), (170, .iconst (-1), 1), (171, .goto 14, 3), (174, .aload_n 0, 1), (175, .aload_n 0, 1), (176, .getfield 7, 3), (179, .iload 4, 2), (181, .iaload, 1), (182, .invokevirtual 429, 3), (185, .iastore, 1), (186, .aload_n 0, 1), (187, .getfield 134, 3), (190, .bipush 26, 2), (192, .iload_n 3, 1), (193, .iadd, 1), (194, .aload_n 0, 1), (195, .getfield 7, 3), (198, .iload 4, 2), (200, .iconst 1, 1), (201, .iadd, 1), (202, .iaload, 1), (203, .iastore, 1), (204, .iconst 0, 1), (205, .istore 5, 2), (207, .iload 5, 2)]
set_option maxRecDepth 100000 in
theorem tkX12_on_q1 : ∀ q ∈ tX12_on_q1, decode cX12_on q.1 = .ok q.2 := by decide +kernel
def tX12_on_q2 : List (Nat × Instr × Nat) := [(209, .aload_n 0, 1), (210, .iconst 1, 1), (211, .aload_n 0, 1), (212, .iload_n 2, 1), (213, .invokevirtual 426, 3), (216, .isub, 1), (217, .invokevirtual 416, 3), (220, .if_icmp .ge 61, 3), (223, .aload_n 0, 1), (224, .getfield 134, 3), (227, .aload_n 0, 1), (228, .iload_n 3, 1), (229, .iload 5, 2), (231, .invokevirtual 432, 3), (234, .aload_n 0, 1), (235, .getfield 7, 3), (238, .iload 4, 2), (240, .iconst 2, 1), (241, .iadd, 1), (242, .iconst 2, 1), (243, .iload 5, 2), (245, .imul, 1), (246, .iadd, 1), (247, .iaload, 1), (248, .iastore, 1), (249, .aload_n 0, 1), (250, .getfield 134, 3), (253, .aload_n 0, 1), (254, .iload_n 3, 1), (255, .iload 5, 2), (257, .invokevirtual 435, 3), (260, .aload_n 0, 1), (261, .getfield 7, 3), (264, .iload 4, 2), (266, .iconst 3, 1), (267, .iadd, 1), (268, .iconst 2, 1), (269, .iload 5, 2), (271, .imul, 1), (272, .iadd, 1), (273, .iaload, 1), (274, .iastore, 1), (275, .iinc 5 1, 3), (278, .goto (-71), 3), (281, .iinc 2 1, 3), (284, .goto (-156), 3), (287, .aload_n 0, 1), (288, .getfield 134, 3), (291, .sipush 182, 3), (294, .iconst 0, 1), (295, .iastore, 1), (296, .aload_n 0, 1), (297, .iconst 0, 1), (298, .putfield 410, 3), (301, .iconst 1, 1), (302, .ireturn, 1)]
set_option maxRecDepth 100000 in
theorem tkX12_on_q2 : ∀ q ∈ tX12_on_q2, decode cX12_on q.1 = .ok q.2 := by decide +kernel
theorem vmX12_on : zVM yX12_on cX12_on 6 (Option.some .boolean) 0 12 := ⟨kX12_on, q_2295, q_2296, q_162, ⟨_, rfl, rfl⟩, by decide +kernel, by decide⟩
set_option maxHeartbeats 2000000 in
set_option maxRecDepth 20000 in
theorem coX12_on_J287 (l : Launch) (e : Nat) (he : 6 ≤ e) (v0 : Nat) : zCo l (e + 1) 0 0 iX12_on 287 [(0, .ref v0)] [] (X12_on_J287 v0) := by
  unfold X12_on_J287
  refine zco_p tkX12_on_q2 46 1 (pc' := 288) (L' := [(0, .ref v0)]) (S' := [.ref v0]) rfl ?_
  refine zco_gr fl_12_134 rfl (zdk (cc := cX12_on) (q := (288, .getfield 134, 3)) tkX12_on_q2 47 rfl) (fun x1 => ?_)
  refine zco_p tkX12_on_q2 48 2 (pc' := 295) (L' := [(0, .ref v0)]) (S' := [.int 0, .int 182, .ref x1]) rfl ?_
  refine zco_iastore (zdk (cc := cX12_on) (q := (295, .iastore, 1)) tkX12_on_q2 50 rfl) ?_
  refine zco_p tkX12_on_q2 51 2 (pc' := 298) (L' := [(0, .ref v0)]) (S' := [.int 0, .ref v0]) rfl ?_
  refine zco_pi fl_12_410 rfl rfl (zdk (cc := cX12_on) (q := (298, .putfield 410, 3)) tkX12_on_q2 53 rfl) ?_
  refine zco_p tkX12_on_q2 54 1 (pc' := 302) (L' := [(0, .ref v0)]) (S' := [.int 1]) rfl ?_
  exact zco_zret rfl rfl rfl (zdk (cc := cX12_on) (q := (302, .ireturn, 1)) tkX12_on_q2 55 rfl)
set_option maxHeartbeats 2000000 in
set_option maxRecDepth 20000 in
theorem coX12_on_J281 (l : Launch) (e : Nat) (he : 6 ≤ e) (v0 : Nat) (v2 : Int32) (r128 : Int32 → zM) (hr128 : ∀ x : Int32, zCo l (e + 1) 0 0 iX12_on 128 [(0, .ref v0), (2, .int x)] [] (r128 x)) : zCo l (e + 1) 0 0 iX12_on 281 [(0, .ref v0), (2, .int v2)] [] (X12_on_J281 r128 v0 v2) := by
  unfold X12_on_J281
  refine zco_p tkX12_on_q2 44 2 (pc' := 128) (L' := [(2, .int (v2 + 1)), (0, .ref v0)]) (S' := []) rfl ?_
  exact zco_sub [1, 0] rfl (hr128 (v2 + 1))
set_option maxHeartbeats 2000000 in
set_option maxRecDepth 20000 in
theorem coX12_on_B207 (l : Launch) (e : Nat) (he : 6 ≤ e) (v0 : Nat) (v2 : Int32) (v3 : Int32) (v4 : Int32) (r128 : Int32 → zM) (hr128 : ∀ x : Int32, zCo l (e + 1) 0 0 iX12_on 128 [(0, .ref v0), (2, .int x)] [] (r128 x)) (r207 : Int32 → zM) (hr207 : ∀ x : Int32, zCo l (e + 1) 0 0 iX12_on 207 [(0, .ref v0), (2, .int v2), (3, .int v3), (4, .int v4), (5, .int x)] [] (r207 x)) (v5 : Int32) : zCo l (e + 1) 0 0 iX12_on 207 [(0, .ref v0), (2, .int v2), (3, .int v3), (4, .int v4), (5, .int v5)] [] (X12_on_B207 r128 v0 v2 v3 v4 r207 v5) := by
  unfold X12_on_B207
  refine zco_p tkX12_on_q1 63 1 (pc' := 209) (L' := [(0, .ref v0), (2, .int v2), (3, .int v3), (4, .int v4), (5, .int v5)]) (S' := [.int v5]) rfl ?_
  refine zco_p tkX12_on_q2 0 4 (pc' := 213) (L' := [(0, .ref v0), (2, .int v2), (3, .int v3), (4, .int v4), (5, .int v5)]) (S' := [.int v2, .ref v0, .int 1, .ref v0, .int v5]) rfl ?_
  refine zco_Vi (rc := 0) (rs := 0) (mc := 0) (ms := 0) (As := [.int v2]) (S := [.int 1, .ref v0, .int v5]) vmX12_sideOf (mtX12_sideOf l e (by omega) v0 v2) q_1996 rfl rfl (Nat.le_of_ble_eq_true rfl) (zdk (cc := cX12_on) (q := (213, .invokevirtual 426, 3)) tkX12_on_q2 4 rfl) (fun y1 => ?_)
  refine zco_p tkX12_on_q2 5 1 (pc' := 217) (L' := [(0, .ref v0), (2, .int v2), (3, .int v3), (4, .int v4), (5, .int v5)]) (S' := [.int (1 - y1), .ref v0, .int v5]) rfl ?_
  refine zco_Vi (rc := 0) (rs := 0) (mc := 0) (ms := 0) (As := [.int (1 - y1)]) (S := [.int v5]) vmX12_sideMany (mtX12_sideMany l e (by omega) v0 (1 - y1)) q_1944 rfl rfl (Nat.le_of_ble_eq_true rfl) (zdk (cc := cX12_on) (q := (217, .invokevirtual 416, 3)) tkX12_on_q2 6 rfl) (fun y2 => ?_)
  refine zco_icmp_ge (tgt := 281) (zdk (cc := cX12_on) (q := (220, .if_icmp .ge 61, 3)) tkX12_on_q2 7 rfl) rfl ?_ ?_
  · exact zco_sub [0, 1] rfl (coX12_on_J281 l e he v0 v2 r128 hr128)
  · refine zco_p tkX12_on_q2 8 1 (pc' := 224) (L' := [(0, .ref v0), (2, .int v2), (3, .int v3), (4, .int v4), (5, .int v5)]) (S' := [.ref v0]) rfl ?_
    refine zco_gr fl_12_134 rfl (zdk (cc := cX12_on) (q := (224, .getfield 134, 3)) tkX12_on_q2 9 rfl) (fun x3 => ?_)
    refine zco_p tkX12_on_q2 10 3 (pc' := 231) (L' := [(0, .ref v0), (2, .int v2), (3, .int v3), (4, .int v4), (5, .int v5)]) (S' := [.int v5, .int v3, .ref v0, .ref x3]) rfl ?_
    refine zco_Vi (rc := 0) (rs := 0) (mc := 0) (ms := 0) (As := [.int v3, .int v5]) (S := [.ref x3]) vmX12_likingAt (mtX12_likingAt l e (by omega) v0 v3 v5) q_2004 rfl rfl (Nat.le_of_ble_eq_true rfl) (zdk (cc := cX12_on) (q := (231, .invokevirtual 432, 3)) tkX12_on_q2 13 rfl) (fun y4 => ?_)
    refine zco_p tkX12_on_q2 14 1 (pc' := 235) (L' := [(0, .ref v0), (2, .int v2), (3, .int v3), (4, .int v4), (5, .int v5)]) (S' := [.ref v0, .int y4, .ref x3]) rfl ?_
    refine zco_gr fl_12_7 rfl (zdk (cc := cX12_on) (q := (235, .getfield 7, 3)) tkX12_on_q2 15 rfl) (fun x5 => ?_)
    refine zco_p tkX12_on_q2 16 7 (pc' := 247) (L' := [(0, .ref v0), (2, .int v2), (3, .int v3), (4, .int v4), (5, .int v5)]) (S' := [.int ((v4 + 2) + (2 * v5)), .ref x5, .int y4, .ref x3]) rfl ?_
    refine zco_iaload (zdk (cc := cX12_on) (q := (247, .iaload, 1)) tkX12_on_q2 23 rfl) (fun x6 => ?_)
    refine zco_iastore (zdk (cc := cX12_on) (q := (248, .iastore, 1)) tkX12_on_q2 24 rfl) ?_
    refine zco_p tkX12_on_q2 25 1 (pc' := 250) (L' := [(0, .ref v0), (2, .int v2), (3, .int v3), (4, .int v4), (5, .int v5)]) (S' := [.ref v0]) rfl ?_
    refine zco_gr fl_12_134 rfl (zdk (cc := cX12_on) (q := (250, .getfield 134, 3)) tkX12_on_q2 26 rfl) (fun x7 => ?_)
    refine zco_p tkX12_on_q2 27 3 (pc' := 257) (L' := [(0, .ref v0), (2, .int v2), (3, .int v3), (4, .int v4), (5, .int v5)]) (S' := [.int v5, .int v3, .ref v0, .ref x7]) rfl ?_
    refine zco_Vi (rc := 0) (rs := 0) (mc := 0) (ms := 0) (As := [.int v3, .int v5]) (S := [.ref x7]) vmX12_knowingAt (mtX12_knowingAt l e (by omega) v0 v3 v5) q_2012 rfl rfl (Nat.le_of_ble_eq_true rfl) (zdk (cc := cX12_on) (q := (257, .invokevirtual 435, 3)) tkX12_on_q2 30 rfl) (fun y8 => ?_)
    refine zco_p tkX12_on_q2 31 1 (pc' := 261) (L' := [(0, .ref v0), (2, .int v2), (3, .int v3), (4, .int v4), (5, .int v5)]) (S' := [.ref v0, .int y8, .ref x7]) rfl ?_
    refine zco_gr fl_12_7 rfl (zdk (cc := cX12_on) (q := (261, .getfield 7, 3)) tkX12_on_q2 32 rfl) (fun x9 => ?_)
    refine zco_p tkX12_on_q2 33 7 (pc' := 273) (L' := [(0, .ref v0), (2, .int v2), (3, .int v3), (4, .int v4), (5, .int v5)]) (S' := [.int ((v4 + 3) + (2 * v5)), .ref x9, .int y8, .ref x7]) rfl ?_
    refine zco_iaload (zdk (cc := cX12_on) (q := (273, .iaload, 1)) tkX12_on_q2 40 rfl) (fun x10 => ?_)
    refine zco_iastore (zdk (cc := cX12_on) (q := (274, .iastore, 1)) tkX12_on_q2 41 rfl) ?_
    refine zco_p tkX12_on_q2 42 2 (pc' := 207) (L' := [(5, .int (v5 + 1)), (0, .ref v0), (2, .int v2), (3, .int v3), (4, .int v4)]) (S' := []) rfl ?_
    exact zco_sub [1, 2, 3, 4, 0] rfl (hr207 (v5 + 1))
set_option maxHeartbeats 2000000 in
set_option maxRecDepth 20000 in
theorem coX12_on_J185 (l : Launch) (e : Nat) (he : 6 ≤ e) (v0 : Nat) (v2 : Int32) (v3 : Int32) (v4 : Int32) (r128 : Int32 → zM) (hr128 : ∀ x : Int32, zCo l (e + 1) 0 0 iX12_on 128 [(0, .ref v0), (2, .int x)] [] (r128 x)) (s0 : Int32) (s1 : Int32) (s2 : Nat) : zCo l (e + 1) 0 0 iX12_on 185 [(0, .ref v0), (2, .int v2), (3, .int v3), (4, .int v4)] [.int s0, .int s1, .ref s2] (X12_on_J185 r128 v0 v2 v3 v4 s0 s1 s2) := by
  unfold X12_on_J185
  refine zco_iastore (zdk (cc := cX12_on) (q := (185, .iastore, 1)) tkX12_on_q1 48 rfl) ?_
  refine zco_p tkX12_on_q1 49 1 (pc' := 187) (L' := [(0, .ref v0), (2, .int v2), (3, .int v3), (4, .int v4)]) (S' := [.ref v0]) rfl ?_
  refine zco_gr fl_12_134 rfl (zdk (cc := cX12_on) (q := (187, .getfield 134, 3)) tkX12_on_q1 50 rfl) (fun x1 => ?_)
  refine zco_p tkX12_on_q1 51 4 (pc' := 195) (L' := [(0, .ref v0), (2, .int v2), (3, .int v3), (4, .int v4)]) (S' := [.ref v0, .int (26 + v3), .ref x1]) rfl ?_
  refine zco_gr fl_12_7 rfl (zdk (cc := cX12_on) (q := (195, .getfield 7, 3)) tkX12_on_q1 55 rfl) (fun x2 => ?_)
  refine zco_p tkX12_on_q1 56 3 (pc' := 202) (L' := [(0, .ref v0), (2, .int v2), (3, .int v3), (4, .int v4)]) (S' := [.int (v4 + 1), .ref x2, .int (26 + v3), .ref x1]) rfl ?_
  refine zco_iaload (zdk (cc := cX12_on) (q := (202, .iaload, 1)) tkX12_on_q1 59 rfl) (fun x3 => ?_)
  refine zco_iastore (zdk (cc := cX12_on) (q := (203, .iastore, 1)) tkX12_on_q1 60 rfl) ?_
  refine zco_p tkX12_on_q1 61 2 (pc' := 207) (L' := [(5, .int 0), (0, .ref v0), (2, .int v2), (3, .int v3), (4, .int v4)]) (S' := []) rfl ?_
  exact zco_sub [1, 2, 3, 4, 0] rfl (zco_fix (Lf := fun x : Int32 => [(0, .ref v0), (2, .int v2), (3, .int v3), (4, .int v4), (5, .int x)]) (Sf := fun _ => []) (fun r hr x => coX12_on_B207 l e he v0 v2 v3 v4 r128 hr128 r hr x) zFU 0)
set_option maxHeartbeats 2000000 in
set_option maxRecDepth 20000 in
theorem coX12_on_B128 (l : Launch) (e : Nat) (he : 6 ≤ e) (v0 : Nat) (r128 : Int32 → zM) (hr128 : ∀ x : Int32, zCo l (e + 1) 0 0 iX12_on 128 [(0, .ref v0), (2, .int x)] [] (r128 x)) (v2 : Int32) : zCo l (e + 1) 0 0 iX12_on 128 [(0, .ref v0), (2, .int v2)] [] (X12_on_B128 v0 r128 v2) := by
  unfold X12_on_B128
  refine zco_p tkX12_on_q1 17 2 (pc' := 130) (L' := [(0, .ref v0), (2, .int v2)]) (S' := [.ref v0, .int v2]) rfl ?_
  refine zco_Vi (rc := 0) (rs := 0) (mc := 0) (ms := 0) (As := []) (S := [.int v2]) vmX12_peopleMany (mtX12_peopleMany l e (by omega) v0) q_1940 rfl rfl (Nat.le_of_ble_eq_true rfl) (zdk (cc := cX12_on) (q := (130, .invokevirtual 419, 3)) tkX12_on_q1 19 rfl) (fun y1 => ?_)
  refine zco_icmp_ge (tgt := 287) (zdk (cc := cX12_on) (q := (133, .if_icmp .ge 154, 3)) tkX12_on_q1 20 rfl) rfl ?_ ?_
  · exact zco_sub [0] rfl (coX12_on_J287 l e he v0)
  · refine zco_p tkX12_on_q1 21 2 (pc' := 138) (L' := [(0, .ref v0), (2, .int v2)]) (S' := [.int v2, .ref v0]) rfl ?_
    refine zco_Vi (rc := 0) (rs := 0) (mc := 0) (ms := 0) (As := [.int v2]) (S := []) vmX12_codeOf (mtX12_codeOf l e (by omega) v0 v2) q_1948 rfl rfl (Nat.le_of_ble_eq_true rfl) (zdk (cc := cX12_on) (q := (138, .invokevirtual 429, 3)) tkX12_on_q1 23 rfl) (fun y2 => ?_)
    refine zco_p tkX12_on_q1 24 3 (pc' := 144) (L' := [(3, .int y2), (0, .ref v0), (2, .int v2)]) (S' := [.int v2, .ref v0]) rfl ?_
    refine zco_Vi (rc := 0) (rs := 0) (mc := 0) (ms := 0) (As := [.int v2]) (S := []) vmX12_toldAt (mtX12_toldAt l e (by omega) v0 v2) q_2302 rfl rfl (Nat.le_of_ble_eq_true rfl) (zdk (cc := cX12_on) (q := (144, .invokevirtual 739, 3)) tkX12_on_q1 27 rfl) (fun y3 => ?_)
    refine zco_p tkX12_on_q1 28 2 (pc' := 150) (L' := [(4, .int y3), (3, .int y2), (0, .ref v0), (2, .int v2)]) (S' := [.ref v0]) rfl ?_
    refine zco_gr fl_12_134 rfl (zdk (cc := cX12_on) (q := (150, .getfield 134, 3)) tkX12_on_q1 30 rfl) (fun x4 => ?_)
    refine zco_p tkX12_on_q1 31 4 (pc' := 158) (L' := [(4, .int y3), (3, .int y2), (0, .ref v0), (2, .int v2)]) (S' := [.ref v0, .int (14 + y2), .ref x4]) rfl ?_
    refine zco_gr fl_12_7 rfl (zdk (cc := cX12_on) (q := (158, .getfield 7, 3)) tkX12_on_q1 35 rfl) (fun x5 => ?_)
    refine zco_p tkX12_on_q1 36 1 (pc' := 163) (L' := [(4, .int y3), (3, .int y2), (0, .ref v0), (2, .int v2)]) (S' := [.int y3, .ref x5, .int (14 + y2), .ref x4]) rfl ?_
    refine zco_iaload (zdk (cc := cX12_on) (q := (163, .iaload, 1)) tkX12_on_q1 37 rfl) (fun x6 => ?_)
    refine zco_p tkX12_on_q1 38 1 (pc' := 167) (L' := [(4, .int y3), (3, .int y2), (0, .ref v0), (2, .int v2)]) (S' := [.int 255, .int x6, .int (14 + y2), .ref x4]) rfl ?_
    refine zco_icmp_ne (tgt := 174) (zdk (cc := cX12_on) (q := (167, .if_icmp .ne 7, 3)) tkX12_on_q1 39 rfl) rfl ?_ ?_
    · refine zco_p tkX12_on_q1 42 2 (pc' := 176) (L' := [(4, .int y3), (3, .int y2), (0, .ref v0), (2, .int v2)]) (S' := [.ref v0, .ref v0, .int (14 + y2), .ref x4]) rfl ?_
      refine zco_gr fl_12_7 rfl (zdk (cc := cX12_on) (q := (176, .getfield 7, 3)) tkX12_on_q1 44 rfl) (fun x7 => ?_)
      refine zco_p tkX12_on_q1 45 1 (pc' := 181) (L' := [(4, .int y3), (3, .int y2), (0, .ref v0), (2, .int v2)]) (S' := [.int y3, .ref x7, .ref v0, .int (14 + y2), .ref x4]) rfl ?_
      refine zco_iaload (zdk (cc := cX12_on) (q := (181, .iaload, 1)) tkX12_on_q1 46 rfl) (fun x8 => ?_)
      refine zco_Vi (rc := 0) (rs := 0) (mc := 0) (ms := 0) (As := [.int x8]) (S := [.int (14 + y2), .ref x4]) vmX12_codeOf (mtX12_codeOf l e (by omega) v0 x8) q_1948 rfl rfl (Nat.le_of_ble_eq_true rfl) (zdk (cc := cX12_on) (q := (182, .invokevirtual 429, 3)) tkX12_on_q1 47 rfl) (fun y9 => ?_)
      exact zco_sub [2, 3, 1, 0] rfl (coX12_on_J185 l e he v0 v2 y2 y3 r128 hr128 y9 (14 + y2) x4)
    · refine zco_p tkX12_on_q1 40 2 (pc' := 185) (L' := [(4, .int y3), (3, .int y2), (0, .ref v0), (2, .int v2)]) (S' := [.int ((-1)), .int (14 + y2), .ref x4]) rfl ?_
      exact zco_sub [2, 3, 1, 0] rfl (coX12_on_J185 l e he v0 v2 y2 y3 r128 hr128 ((-1)) (14 + y2) x4)
set_option maxHeartbeats 2000000 in
set_option maxRecDepth 20000 in
theorem coX12_on_J126 (l : Launch) (e : Nat) (he : 6 ≤ e) (v0 : Nat) : zCo l (e + 1) 0 0 iX12_on 126 [(0, .ref v0)] [] (X12_on_J126 v0) := by
  unfold X12_on_J126
  refine zco_p tkX12_on_q1 15 2 (pc' := 128) (L' := [(2, .int 0), (0, .ref v0)]) (S' := []) rfl ?_
  exact zco_sub [1, 0] rfl (zco_fix (Lf := fun x : Int32 => [(0, .ref v0), (2, .int x)]) (Sf := fun _ => []) (fun r hr x => coX12_on_B128 l e he v0 r hr x) zFU 0)
set_option maxHeartbeats 2000000 in
set_option maxRecDepth 20000 in
theorem coX12_on_B82 (l : Launch) (e : Nat) (he : 6 ≤ e) (v0 : Nat) (r82 : Int32 → zM) (hr82 : ∀ x : Int32, zCo l (e + 1) 0 0 iX12_on 82 [(0, .ref v0), (2, .int x)] [] (r82 x)) (v2 : Int32) : zCo l (e + 1) 0 0 iX12_on 82 [(0, .ref v0), (2, .int v2)] [] (X12_on_B82 v0 r82 v2) := by
  unfold X12_on_B82
  refine zco_p tkX12_on_q0 52 3 (pc' := 85) (L' := [(0, .ref v0), (2, .int v2)]) (S' := [.int 1, .ref v0, .int v2]) rfl ?_
  refine zco_Vi (rc := 0) (rs := 0) (mc := 0) (ms := 0) (As := [.int 1]) (S := [.int v2]) vmX12_sideMany (mtX12_sideMany l e (by omega) v0 1) q_1944 rfl rfl (Nat.le_of_ble_eq_true rfl) (zdk (cc := cX12_on) (q := (85, .invokevirtual 416, 3)) tkX12_on_q0 55 rfl) (fun y1 => ?_)
  refine zco_icmp_ge (tgt := 126) (zdk (cc := cX12_on) (q := (88, .if_icmp .ge 38, 3)) tkX12_on_q0 56 rfl) rfl ?_ ?_
  · exact zco_sub [0] rfl (coX12_on_J126 l e he v0)
  · refine zco_p tkX12_on_q0 57 1 (pc' := 92) (L' := [(0, .ref v0), (2, .int v2)]) (S' := [.ref v0]) rfl ?_
    refine zco_gr fl_12_134 rfl (zdk (cc := cX12_on) (q := (92, .getfield 134, 3)) tkX12_on_q0 58 rfl) (fun x2 => ?_)
    refine zco_p tkX12_on_q0 59 4 (pc' := 100) (L' := [(0, .ref v0), (2, .int v2)]) (S' := [.ref v0, .int (8 + v2), .ref x2]) rfl ?_
    refine zco_gr fl_12_7 rfl (zdk (cc := cX12_on) (q := (100, .getfield 7, 3)) tkX12_on_q0 63 rfl) (fun x3 => ?_)
    refine zco_p tkX12_on_q1 0 3 (pc' := 106) (L' := [(0, .ref v0), (2, .int v2)]) (S' := [.int 0, .ref v0, .int 3, .ref x3, .int (8 + v2), .ref x2]) rfl ?_
    refine zco_Vi (rc := 0) (rs := 0) (mc := 0) (ms := 0) (As := [.int 0]) (S := [.int 3, .ref x3, .int (8 + v2), .ref x2]) vmX12_sideMany (mtX12_sideMany l e (by omega) v0 0) q_1944 rfl rfl (Nat.le_of_ble_eq_true rfl) (zdk (cc := cX12_on) (q := (106, .invokevirtual 416, 3)) tkX12_on_q1 3 rfl) (fun y4 => ?_)
    refine zco_p tkX12_on_q1 4 3 (pc' := 112) (L' := [(0, .ref v0), (2, .int v2)]) (S' := [.int ((3 + y4) + v2), .ref x3, .int (8 + v2), .ref x2]) rfl ?_
    refine zco_iaload (zdk (cc := cX12_on) (q := (112, .iaload, 1)) tkX12_on_q1 7 rfl) (fun x5 => ?_)
    refine zco_p tkX12_on_q1 8 2 (pc' := 115) (L' := [(0, .ref v0), (2, .int v2)]) (S' := [.int 0, .ref v0, .int x5, .int (8 + v2), .ref x2]) rfl ?_
    refine zco_Vi (rc := 0) (rs := 0) (mc := 0) (ms := 0) (As := [.int 0]) (S := [.int x5, .int (8 + v2), .ref x2]) vmX12_sideMany (mtX12_sideMany l e (by omega) v0 0) q_1944 rfl rfl (Nat.le_of_ble_eq_true rfl) (zdk (cc := cX12_on) (q := (115, .invokevirtual 416, 3)) tkX12_on_q1 10 rfl) (fun y6 => ?_)
    refine zco_p tkX12_on_q1 11 1 (pc' := 119) (L' := [(0, .ref v0), (2, .int v2)]) (S' := [.int (x5 - y6), .int (8 + v2), .ref x2]) rfl ?_
    refine zco_iastore (zdk (cc := cX12_on) (q := (119, .iastore, 1)) tkX12_on_q1 12 rfl) ?_
    refine zco_p tkX12_on_q1 13 2 (pc' := 82) (L' := [(2, .int (v2 + 1)), (0, .ref v0)]) (S' := []) rfl ?_
    exact zco_sub [1, 0] rfl (hr82 (v2 + 1))
set_option maxHeartbeats 2000000 in
set_option maxRecDepth 20000 in
theorem coX12_on_J80 (l : Launch) (e : Nat) (he : 6 ≤ e) (v0 : Nat) : zCo l (e + 1) 0 0 iX12_on 80 [(0, .ref v0)] [] (X12_on_J80 v0) := by
  unfold X12_on_J80
  refine zco_p tkX12_on_q0 50 2 (pc' := 82) (L' := [(2, .int 0), (0, .ref v0)]) (S' := []) rfl ?_
  exact zco_sub [1, 0] rfl (zco_fix (Lf := fun x : Int32 => [(0, .ref v0), (2, .int x)]) (Sf := fun _ => []) (fun r hr x => coX12_on_B82 l e he v0 r hr x) zFU 0)
set_option maxHeartbeats 2000000 in
set_option maxRecDepth 20000 in
theorem coX12_on_B49 (l : Launch) (e : Nat) (he : 6 ≤ e) (v0 : Nat) (r49 : Int32 → zM) (hr49 : ∀ x : Int32, zCo l (e + 1) 0 0 iX12_on 49 [(0, .ref v0), (2, .int x)] [] (r49 x)) (v2 : Int32) : zCo l (e + 1) 0 0 iX12_on 49 [(0, .ref v0), (2, .int v2)] [] (X12_on_B49 v0 r49 v2) := by
  unfold X12_on_B49
  refine zco_p tkX12_on_q0 31 3 (pc' := 52) (L' := [(0, .ref v0), (2, .int v2)]) (S' := [.int 0, .ref v0, .int v2]) rfl ?_
  refine zco_Vi (rc := 0) (rs := 0) (mc := 0) (ms := 0) (As := [.int 0]) (S := [.int v2]) vmX12_sideMany (mtX12_sideMany l e (by omega) v0 0) q_1944 rfl rfl (Nat.le_of_ble_eq_true rfl) (zdk (cc := cX12_on) (q := (52, .invokevirtual 416, 3)) tkX12_on_q0 34 rfl) (fun y1 => ?_)
  refine zco_icmp_ge (tgt := 80) (zdk (cc := cX12_on) (q := (55, .if_icmp .ge 25, 3)) tkX12_on_q0 35 rfl) rfl ?_ ?_
  · exact zco_sub [0] rfl (coX12_on_J80 l e he v0)
  · refine zco_p tkX12_on_q0 36 1 (pc' := 59) (L' := [(0, .ref v0), (2, .int v2)]) (S' := [.ref v0]) rfl ?_
    refine zco_gr fl_12_134 rfl (zdk (cc := cX12_on) (q := (59, .getfield 134, 3)) tkX12_on_q0 37 rfl) (fun x2 => ?_)
    refine zco_p tkX12_on_q0 38 4 (pc' := 66) (L' := [(0, .ref v0), (2, .int v2)]) (S' := [.ref v0, .int (2 + v2), .ref x2]) rfl ?_
    refine zco_gr fl_12_7 rfl (zdk (cc := cX12_on) (q := (66, .getfield 7, 3)) tkX12_on_q0 42 rfl) (fun x3 => ?_)
    refine zco_p tkX12_on_q0 43 3 (pc' := 72) (L' := [(0, .ref v0), (2, .int v2)]) (S' := [.int (3 + v2), .ref x3, .int (2 + v2), .ref x2]) rfl ?_
    refine zco_iaload (zdk (cc := cX12_on) (q := (72, .iaload, 1)) tkX12_on_q0 46 rfl) (fun x4 => ?_)
    refine zco_iastore (zdk (cc := cX12_on) (q := (73, .iastore, 1)) tkX12_on_q0 47 rfl) ?_
    refine zco_p tkX12_on_q0 48 2 (pc' := 49) (L' := [(2, .int (v2 + 1)), (0, .ref v0)]) (S' := []) rfl ?_
    exact zco_sub [1, 0] rfl (hr49 (v2 + 1))
set_option maxHeartbeats 2000000 in
set_option maxRecDepth 20000 in
theorem coX12_on (l : Launch) (e : Nat) (he : 6 ≤ e) (v0 : Nat) : zCo l (e + 1) 0 0 iX12_on 0 [(0, .ref v0)] [] (X12_on v0) := by
  unfold X12_on
  refine zco_p tkX12_on_q0 0 1 (pc' := 1) (L' := [(0, .ref v0)]) (S' := [.ref v0]) rfl ?_
  refine zco_gi fl_12_267 rfl (zdk (cc := cX12_on) (q := (1, .getfield 267, 3)) tkX12_on_q0 1 rfl) (fun x1 => ?_)
  refine zco_p tkX12_on_q0 2 3 (pc' := 7) (L' := [(1, .int x1), (0, .ref v0)]) (S' := [.int 0, .ref v0]) rfl ?_
  refine zco_pi fl_12_267 rfl rfl (zdk (cc := cX12_on) (q := (7, .putfield 267, 3)) tkX12_on_q0 5 rfl) ?_
  refine zco_p tkX12_on_q0 6 2 (pc' := 12) (L' := [(1, .int x1), (0, .ref v0)]) (S' := [.int x1, .ref v0]) rfl ?_
  refine zco_Vi (rc := 0) (rs := 0) (mc := 0) (ms := 0) (As := [.int x1]) (S := []) vmX12_isImage (mtX12_isImage l e (by omega) v0 x1) q_2298 rfl rfl (Nat.le_of_ble_eq_true rfl) (zdk (cc := cX12_on) (q := (12, .invokevirtual 751, 3)) tkX12_on_q0 8 rfl) (fun y2 => ?_)
  refine zco_if_ne (tgt := 24) (zdk (cc := cX12_on) (q := (15, .ifCond .ne 9, 3)) tkX12_on_q0 9 rfl) rfl ?_ ?_
  · refine zco_p tkX12_on_q0 14 1 (pc' := 25) (L' := [(1, .int x1), (0, .ref v0)]) (S' := [.ref v0]) rfl ?_
    refine zco_gr fl_12_134 rfl (zdk (cc := cX12_on) (q := (25, .getfield 134, 3)) tkX12_on_q0 15 rfl) (fun x3 => ?_)
    refine zco_p tkX12_on_q0 16 3 (pc' := 31) (L' := [(1, .int x1), (0, .ref v0)]) (S' := [.int 0, .ref v0, .int 0, .ref x3]) rfl ?_
    refine zco_Vi (rc := 0) (rs := 0) (mc := 0) (ms := 0) (As := [.int 0]) (S := [.int 0, .ref x3]) vmX12_twoAt (mtX12_twoAt l e (by omega) v0 0) q_2310 rfl rfl (Nat.le_of_ble_eq_true rfl) (zdk (cc := cX12_on) (q := (31, .invokevirtual 742, 3)) tkX12_on_q0 19 rfl) (fun y4 => ?_)
    refine zco_iastore (zdk (cc := cX12_on) (q := (34, .iastore, 1)) tkX12_on_q0 20 rfl) ?_
    refine zco_p tkX12_on_q0 21 1 (pc' := 36) (L' := [(1, .int x1), (0, .ref v0)]) (S' := [.ref v0]) rfl ?_
    refine zco_gr fl_12_134 rfl (zdk (cc := cX12_on) (q := (36, .getfield 134, 3)) tkX12_on_q0 22 rfl) (fun x5 => ?_)
    refine zco_p tkX12_on_q0 23 2 (pc' := 41) (L' := [(1, .int x1), (0, .ref v0)]) (S' := [.ref v0, .int 1, .ref x5]) rfl ?_
    refine zco_gr fl_12_7 rfl (zdk (cc := cX12_on) (q := (41, .getfield 7, 3)) tkX12_on_q0 25 rfl) (fun x6 => ?_)
    refine zco_p tkX12_on_q0 26 1 (pc' := 45) (L' := [(1, .int x1), (0, .ref v0)]) (S' := [.int 2, .ref x6, .int 1, .ref x5]) rfl ?_
    refine zco_iaload (zdk (cc := cX12_on) (q := (45, .iaload, 1)) tkX12_on_q0 27 rfl) (fun x7 => ?_)
    refine zco_iastore (zdk (cc := cX12_on) (q := (46, .iastore, 1)) tkX12_on_q0 28 rfl) ?_
    refine zco_p tkX12_on_q0 29 2 (pc' := 49) (L' := [(2, .int 0), (1, .int x1), (0, .ref v0)]) (S' := []) rfl ?_
    exact zco_sub [2, 0] rfl (zco_fix (Lf := fun x : Int32 => [(0, .ref v0), (2, .int x)]) (Sf := fun _ => []) (fun r hr x => coX12_on_B49 l e he v0 r hr x) zFU 0)
  · refine zco_p tkX12_on_q0 10 2 (pc' := 20) (L' := [(1, .int x1), (0, .ref v0)]) (S' := [.int 5, .ref v0]) rfl ?_
    refine zco_Vi (rc := 0) (rs := 0) (mc := 0) (ms := 0) (As := [.int 5]) (S := []) vmX12_isRefused (mtX12_isRefused l e (by omega) v0 5) q_2212 rfl rfl (Nat.le_of_ble_eq_true rfl) (zdk (cc := cX12_on) (q := (20, .invokevirtual 613, 3)) tkX12_on_q0 12 rfl) (fun y8 => ?_)
    exact zco_zret rfl rfl rfl (zdk (cc := cX12_on) (q := (23, .ireturn, 1)) tkX12_on_q0 13 rfl)
theorem mtX12_on (l : Launch) (d : Nat) (hd : 7 ≤ d) (v0 : Nat) : zMet l d 0 0 yX12_on cX12_on 6 (Option.some .boolean) [.ref v0] (X12_on v0) := by
  obtain ⟨e, rfl⟩ : ∃ e, d = e + 1 := ⟨d - 1, by omega⟩
  exact zmet_of (own := RX12) (ini := false) (by decide +kernel) rfl (fun _ => by contradiction) (Nat.le_of_ble_eq_true rfl) (coX12_on l e (by omega) v0)
