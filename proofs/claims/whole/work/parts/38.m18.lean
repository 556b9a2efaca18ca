abbrev iX12_like : zI := (RX12, cX12_like, 5, (Option.some .boolean), false)
def tX12_like : List (Nat × Instr × Nat) := [(0, .aload_n 0, 1), (1, .iload_n 1, 1), (2, .i2l, 1), (3, .iload_n 2, 1), (4, .i2l, 1), (5, .invokevirtual 545, 3), (8, .ifCond .eq 19, 3), (11, .iload_n 3, 1), (12, .i2l, 1), (13, .lconst 0, 1), (14, .ldc2_w 627, 3), (17, .invokestatic 313, 3), (20, .ifCond .eq 7, 3), (23, .iconst 1, 1), (24, .goto 4, 3), (27, .iconst 0, 1), (28, .istore 4, 2), (30, .aload_n 0, 1), (31, .iload 4, 2), (33, .iload 4, 2), (35, .ifCond .eq 20, 3), (38, .aload_n 0, 1), (39, .aload_n 0, 1), (40, .iload_n 1, 1), (41, .invokevirtual 429, 3), (44, .aload_n 0, 1), (45, .iload_n 2, 1), (46, .invokevirtual 429, 3), (49, .invokevirtual 432, 3), (52, .goto 4, 3), (55, .iconst 0, 1), (56, .iload_n 3, 1), (57, .invokevirtual 629, 3), (60, .ireturn, 1)]
set_option maxRecDepth 100000 in
theorem tkX12_like : ∀ q ∈ tX12_like, decode cX12_like q.1 = .ok q.2 := by decide +kernel
theorem vmX12_like : zVM yX12_like cX12_like 5 (Option.some .boolean) 3 12 := ⟨kX12_like, q_2240, q_2241, q_160, ⟨_, rfl, rfl⟩, by decide +kernel, by decide⟩
def X12_like_J56 (v3 : Int32) (s0 : Int32) (s1 : Int32) (s2 : Nat) : zM := z_rc 12 s2 (z_ci (X12_isChanged s2 s1 s0 v3) fun y1 => z_rb y1)
set_option maxHeartbeats 2000000 in
set_option maxRecDepth 20000 in
theorem coX12_like_J56 (l : Launch) (e : Nat) (he : 4 ≤ e) (v3 : Int32) (s0 : Int32) (s1 : Int32) (s2 : Nat) : zCo l (e + 1) 0 0 iX12_like 56 [(3, .int v3)] [.int s0, .int s1, .ref s2] (X12_like_J56 v3 s0 s1 s2) := by
  unfold X12_like_J56
  refine zco_p tkX12_like 31 1 (pc' := 57) (L' := [(3, .int v3)]) (S' := [.int v3, .int s0, .int s1, .ref s2]) rfl ?_
  refine zco_Vi (rc := 0) (rs := 0) (mc := 0) (ms := 0) (As := [.int s1, .int s0, .int v3]) (S := []) vmX12_isChanged (mtX12_isChanged l e (by omega) s2 s1 s0 v3) q_2235 rfl rfl (Nat.le_of_ble_eq_true rfl) (zdk (cc := cX12_like) (q := (57, .invokevirtual 629, 3)) tkX12_like 32 rfl) (fun y1 => ?_)
  exact zco_zret rfl rfl rfl (zdk (cc := cX12_like) (q := (60, .ireturn, 1)) tkX12_like 33 rfl)
def X12_like_J28 (v0 : Nat) (v1 : Int32) (v2 : Int32) (v3 : Int32) (s0 : Int32) : zM := z_if (s0 = 0) (X12_like_J56 v3 0 s0 v0)
   (z_rc 12 v0 (z_ci (X12_codeOf v0 v1) fun y1 => z_rc 12 v0 (z_ci (X12_codeOf v0 v2) fun y2 => z_rc 12 v0 (z_ci (X12_likingAt v0 y1 y2) fun y3 => X12_like_J56 v3 y3 s0 v0))))
set_option maxHeartbeats 2000000 in
set_option maxRecDepth 20000 in
theorem coX12_like_J28 (l : Launch) (e : Nat) (he : 4 ≤ e) (v0 : Nat) (v1 : Int32) (v2 : Int32) (v3 : Int32) (s0 : Int32) : zCo l (e + 1) 0 0 iX12_like 28 [(0, .ref v0), (1, .int v1), (2, .int v2), (3, .int v3)] [.int s0] (X12_like_J28 v0 v1 v2 v3 s0) := by
  unfold X12_like_J28
  refine zco_p tkX12_like 16 4 (pc' := 35) (L' := [(4, .int s0), (0, .ref v0), (1, .int v1), (2, .int v2), (3, .int v3)]) (S' := [.int s0, .int s0, .ref v0]) rfl ?_
  refine zco_if_eq (tgt := 55) (zdk (cc := cX12_like) (q := (35, .ifCond .eq 20, 3)) tkX12_like 20 rfl) rfl ?_ ?_
  · refine zco_p tkX12_like 30 1 (pc' := 56) (L' := [(4, .int s0), (0, .ref v0), (1, .int v1), (2, .int v2), (3, .int v3)]) (S' := [.int 0, .int s0, .ref v0]) rfl ?_
    exact zco_sub [4] rfl (coX12_like_J56 l e he v3 0 s0 v0)
  · refine zco_p tkX12_like 21 3 (pc' := 41) (L' := [(4, .int s0), (0, .ref v0), (1, .int v1), (2, .int v2), (3, .int v3)]) (S' := [.int v1, .ref v0, .ref v0, .int s0, .ref v0]) rfl ?_
    refine zco_Vi (rc := 0) (rs := 0) (mc := 0) (ms := 0) (As := [.int v1]) (S := [.ref v0, .int s0, .ref v0]) vmX12_codeOf (mtX12_codeOf l e (by omega) v0 v1) q_1946 rfl rfl (Nat.le_of_ble_eq_true rfl) (zdk (cc := cX12_like) (q := (41, .invokevirtual 429, 3)) tkX12_like 24 rfl) (fun y1 => ?_)
    refine zco_p tkX12_like 25 2 (pc' := 46) (L' := [(4, .int s0), (0, .ref v0), (1, .int v1), (2, .int v2), (3, .int v3)]) (S' := [.int v2, .ref v0, .int y1, .ref v0, .int s0, .ref v0]) rfl ?_
    refine zco_Vi (rc := 0) (rs := 0) (mc := 0) (ms := 0) (As := [.int v2]) (S := [.int y1, .ref v0, .int s0, .ref v0]) vmX12_codeOf (mtX12_codeOf l e (by omega) v0 v2) q_1946 rfl rfl (Nat.le_of_ble_eq_true rfl) (zdk (cc := cX12_like) (q := (46, .invokevirtual 429, 3)) tkX12_like 27 rfl) (fun y2 => ?_)
    refine zco_Vi (rc := 0) (rs := 0) (mc := 0) (ms := 0) (As := [.int y1, .int y2]) (S := [.int s0, .ref v0]) vmX12_likingAt (mtX12_likingAt l e (by omega) v0 y1 y2) q_2002 rfl rfl (Nat.le_of_ble_eq_true rfl) (zdk (cc := cX12_like) (q := (49, .invokevirtual 432, 3)) tkX12_like 28 rfl) (fun y3 => ?_)
    refine zco_p tkX12_like 29 1 (pc' := 56) (L' := [(4, .int s0), (0, .ref v0), (1, .int v1), (2, .int v2), (3, .int v3)]) (S' := [.int y3, .int s0, .ref v0]) rfl ?_
    exact zco_sub [4] rfl (coX12_like_J56 l e he v3 y3 s0 v0)
def X12_like_J27 (v0 : Nat) (v1 : Int32) (v2 : Int32) (v3 : Int32) : zM := X12_like_J28 v0 v1 v2 v3 0
set_option maxHeartbeats 2000000 in
set_option maxRecDepth 20000 in
theorem coX12_like_J27 (l : Launch) (e : Nat) (he : 4 ≤ e) (v0 : Nat) (v1 : Int32) (v2 : Int32) (v3 : Int32) : zCo l (e + 1) 0 0 iX12_like 27 [(0, .ref v0), (1, .int v1), (2, .int v2), (3, .int v3)] [] (X12_like_J27 v0 v1 v2 v3) := by
  unfold X12_like_J27
  refine zco_p tkX12_like 15 1 (pc' := 28) (L' := [(0, .ref v0), (1, .int v1), (2, .int v2), (3, .int v3)]) (S' := [.int 0]) rfl ?_
  exact zco_sub [0, 1, 2, 3] rfl (coX12_like_J28 l e he v0 v1 v2 v3 0)
def X12_like (v0 : Nat) (v1 : Int32) (v2 : Int32) (v3 : Int32) : zM := z_rc 12 v0 (z_ci (X12_areTwo v0 v1.toInt64 v2.toInt64) fun y1 => z_if (y1 = 0) (X12_like_J27 v0 v1 v2 v3)
   (z_ci (X12_isIn v3.toInt64 0 9) fun y2 => z_if (y2 = 0) (X12_like_J27 v0 v1 v2 v3)
   (X12_like_J28 v0 v1 v2 v3 1)))
set_option maxHeartbeats 2000000 in
set_option maxRecDepth 20000 in
theorem coX12_like (l : Launch) (e : Nat) (he : 4 ≤ e) (v0 : Nat) (v1 : Int32) (v2 : Int32) (v3 : Int32) : zCo l (e + 1) 0 0 iX12_like 0 [(0, .ref v0), (1, .int v1), (2, .int v2), (3, .int v3)] [] (X12_like v0 v1 v2 v3) := by
  unfold X12_like
  refine zco_p tkX12_like 0 5 (pc' := 5) (L' := [(0, .ref v0), (1, .int v1), (2, .int v2), (3, .int v3)]) (S' := [.long v2.toInt64, .long v1.toInt64, .ref v0]) rfl ?_
  refine zco_Vi (rc := 0) (rs := 0) (mc := 0) (ms := 0) (As := [.long v1.toInt64, .long v2.toInt64]) (S := []) vmX12_areTwo (mtX12_areTwo l e (by omega) v0 v1.toInt64 v2.toInt64) q_1990 rfl rfl (Nat.le_of_ble_eq_true rfl) (zdk (cc := cX12_like) (q := (5, .invokevirtual 545, 3)) tkX12_like 5 rfl) (fun y1 => ?_)
  refine zco_if_eq (tgt := 27) (zdk (cc := cX12_like) (q := (8, .ifCond .eq 19, 3)) tkX12_like 6 rfl) rfl ?_ ?_
  · exact zco_sub [0, 1, 2, 3] rfl (coX12_like_J27 l e he v0 v1 v2 v3)
  · refine zco_p tkX12_like 7 3 (pc' := 14) (L' := [(0, .ref v0), (1, .int v1), (2, .int v2), (3, .int v3)]) (S' := [.long 0, .long v3.toInt64]) rfl ?_
    refine zco_ldc2 q_2234 (zdk (cc := cX12_like) (q := (14, .ldc2_w 627, 3)) tkX12_like 10 rfl) ?_
    refine zco_Si (rc := 0) (rs := 0) (mc := 0) (ms := 0) (As := [.long v3.toInt64, .long 0, .long 9]) (S := []) vmX12_isIn (mtX12_isIn l e (by omega) v3.toInt64 0 9) q_1797 rfl rfl (Nat.le_of_ble_eq_true rfl) (zdk (cc := cX12_like) (q := (17, .invokestatic 313, 3)) tkX12_like 11 rfl) (fun y2 => ?_)
    refine zco_if_eq (tgt := 27) (zdk (cc := cX12_like) (q := (20, .ifCond .eq 7, 3)) tkX12_like 12 rfl) rfl ?_ ?_
    · exact zco_sub [0, 1, 2, 3] rfl (coX12_like_J27 l e he v0 v1 v2 v3)
    · refine zco_p tkX12_like 13 2 (pc' := 28) (L' := [(0, .ref v0), (1, .int v1), (2, .int v2), (3, .int v3)]) (S' := [.int 1]) rfl ?_
      exact zco_sub [0, 1, 2, 3] rfl (coX12_like_J28 l e he v0 v1 v2 v3 1)
theorem mtX12_like (l : Launch) (d : Nat) (hd : 5 ≤ d) (v0 : Nat) (v1 : Int32) (v2 : Int32) (v3 : Int32) : zMet l d 0 0 yX12_like cX12_like 5 (Option.some .boolean) [.ref v0, .int v1, .int v2, .int v3] (X12_like v0 v1 v2 v3) := by
  obtain ⟨e, rfl⟩ : ∃ e, d = e + 1 := ⟨d - 1, by omega⟩
  exact zmet_of (own := RX12) (ini := false) (by decide +kernel) rfl (fun _ => by contradiction) (Nat.le_of_ble_eq_true rfl) (coX12_like l e (by omega) v0 v1 v2 v3)
abbrev iX12_swap : zI := (RX12, cX12_swap, 4, (Option.some .boolean), false)
def tX12_swap : List (Nat × Instr × Nat) := [(0, .iload_n 1, 1), (1, .i2l, 1), (2, .lconst 0, 1), (3, .lconst 1, 1), (4, .invokestatic 313, 3), (7, .ifCond .eq 42, 3), (10, .iload_n 2, 1), (11, .i2l, 1), (12, .lconst 0, 1), (13, .aload_n 0, 1), (14, .iload_n 1, 1), (15, .invokevirtual 416, 3), (18, .iconst 1, 1), (19, .isub, 1), (20, .i2l, 1), (21, .invokestatic 313, 3), (24, .ifCond .eq 25, 3), (27, .iload_n 3, 1), (28, .i2l, 1), (29, .lconst 0, 1), (30, .aload_n 0, 1), (31, .iload_n 1, 1), (32, .invokevirtual 416, 3), (35, .iconst 1, 1), (36, .isub, 1), (37, .i2l, 1), (38, .invokestatic 313, 3), (41, .ifCond .eq 8, 3), (44, .iload_n 2, 1), (45, .iload_n 3, 1), (46, .if_icmp .ne 9, 3), (49, .aload_n 0, 1), (50, .iconst 2, 1), (51, .invokevirtual 613, 3), (54, .ireturn, 1), (55, .aload_n 0, 1), (56, .invokevirtual 610, 3), (59, .aload_n 0, 1), (60, .iload_n 1, 1), (61, .iload_n 2, 1), (62, .iload_n 3, 1), (63, .invokevirtual 589, 3), (66, .iconst 1, 1), (67, .ireturn, 1)]
set_option maxRecDepth 100000 in
theorem tkX12_swap : ∀ q ∈ tX12_swap, decode cX12_swap q.1 = .ok q.2 := by decide +kernel
theorem vmX12_swap : zVM yX12_swap cX12_swap 4 (Option.some .boolean) 3 12 := ⟨kX12_swap, q_2244, q_2245, q_160, ⟨_, rfl, rfl⟩, by decide +kernel, by decide⟩
def X12_swap_J49 (v0 : Nat) : zM := z_rc 12 v0 (z_ci (X12_isRefused v0 2) fun y1 => z_rb y1)
set_option maxHeartbeats 2000000 in
set_option maxRecDepth 20000 in
theorem coX12_swap_J49 (l : Launch) (e : Nat) (he : 1 ≤ e) (v0 : Nat) : zCo l (e + 1) 0 0 iX12_swap 49 [(0, .ref v0)] [] (X12_swap_J49 v0) := by
  unfold X12_swap_J49
  refine zco_p tkX12_swap 31 2 (pc' := 51) (L' := [(0, .ref v0)]) (S' := [.int 2, .ref v0]) rfl ?_
  refine zco_Vi (rc := 0) (rs := 0) (mc := 0) (ms := 0) (As := [.int 2]) (S := []) vmX12_isRefused (mtX12_isRefused l e (by omega) v0 2) q_2210 rfl rfl (Nat.le_of_ble_eq_true rfl) (zdk (cc := cX12_swap) (q := (51, .invokevirtual 613, 3)) tkX12_swap 33 rfl) (fun y1 => ?_)
  exact zco_zret rfl rfl rfl (zdk (cc := cX12_swap) (q := (54, .ireturn, 1)) tkX12_swap 34 rfl)
def X12_swap (v0 : Nat) (v1 : Int32) (v2 : Int32) (v3 : Int32) : zM := z_ci (X12_isIn v1.toInt64 0 1) fun y1 => z_if (y1 = 0) (X12_swap_J49 v0)
   (z_rc 12 v0 (z_ci (X12_sideMany v0 v1) fun y2 => z_ci (X12_isIn v2.toInt64 0 ((y2 - 1 : Int32).toInt64)) fun y3 => z_if (y3 = 0) (X12_swap_J49 v0)
   (z_rc 12 v0 (z_ci (X12_sideMany v0 v1) fun y4 => z_ci (X12_isIn v3.toInt64 0 ((y4 - 1 : Int32).toInt64)) fun y5 => z_if (y5 = 0) (X12_swap_J49 v0)
   (z_if (v2 = v3) (X12_swap_J49 v0)
   (z_rc 12 v0 (z_cv (X12_keeps v0) (z_rc 12 v0 (z_cv (X12_exchanges v0 v1 v2 v3) (z_rb 1))))))))))
set_option maxHeartbeats 2000000 in
set_option maxRecDepth 20000 in
theorem coX12_swap (l : Launch) (e : Nat) (he : 1 ≤ e) (v0 : Nat) (v1 : Int32) (v2 : Int32) (v3 : Int32) : zCo l (e + 1) 0 0 iX12_swap 0 [(0, .ref v0), (1, .int v1), (2, .int v2), (3, .int v3)] [] (X12_swap v0 v1 v2 v3) := by
  unfold X12_swap
  refine zco_p tkX12_swap 0 4 (pc' := 4) (L' := [(0, .ref v0), (1, .int v1), (2, .int v2), (3, .int v3)]) (S' := [.long 1, .long 0, .long v1.toInt64]) rfl ?_
  refine zco_Si (rc := 0) (rs := 0) (mc := 0) (ms := 0) (As := [.long v1.toInt64, .long 0, .long 1]) (S := []) vmX12_isIn (mtX12_isIn l e (by omega) v1.toInt64 0 1) q_1797 rfl rfl (Nat.le_of_ble_eq_true rfl) (zdk (cc := cX12_swap) (q := (4, .invokestatic 313, 3)) tkX12_swap 4 rfl) (fun y1 => ?_)
  refine zco_if_eq (tgt := 49) (zdk (cc := cX12_swap) (q := (7, .ifCond .eq 42, 3)) tkX12_swap 5 rfl) rfl ?_ ?_
  · exact zco_sub [0] rfl (coX12_swap_J49 l e he v0)
  · refine zco_p tkX12_swap 6 5 (pc' := 15) (L' := [(0, .ref v0), (1, .int v1), (2, .int v2), (3, .int v3)]) (S' := [.int v1, .ref v0, .long 0, .long v2.toInt64]) rfl ?_
    refine zco_Vi (rc := 0) (rs := 0) (mc := 0) (ms := 0) (As := [.int v1]) (S := [.long 0, .long v2.toInt64]) vmX12_sideMany (mtX12_sideMany l e (by omega) v0 v1) q_1942 rfl rfl (Nat.le_of_ble_eq_true rfl) (zdk (cc := cX12_swap) (q := (15, .invokevirtual 416, 3)) tkX12_swap 11 rfl) (fun y2 => ?_)
    refine zco_p tkX12_swap 12 3 (pc' := 21) (L' := [(0, .ref v0), (1, .int v1), (2, .int v2), (3, .int v3)]) (S' := [.long ((y2 - 1 : Int32).toInt64), .long 0, .long v2.toInt64]) rfl ?_
    refine zco_Si (rc := 0) (rs := 0) (mc := 0) (ms := 0) (As := [.long v2.toInt64, .long 0, .long ((y2 - 1 : Int32).toInt64)]) (S := []) vmX12_isIn (mtX12_isIn l e (by omega) v2.toInt64 0 ((y2 - 1 : Int32).toInt64)) q_1797 rfl rfl (Nat.le_of_ble_eq_true rfl) (zdk (cc := cX12_swap) (q := (21, .invokestatic 313, 3)) tkX12_swap 15 rfl) (fun y3 => ?_)
    refine zco_if_eq (tgt := 49) (zdk (cc := cX12_swap) (q := (24, .ifCond .eq 25, 3)) tkX12_swap 16 rfl) rfl ?_ ?_
    · exact zco_sub [0] rfl (coX12_swap_J49 l e he v0)
    · refine zco_p tkX12_swap 17 5 (pc' := 32) (L' := [(0, .ref v0), (1, .int v1), (2, .int v2), (3, .int v3)]) (S' := [.int v1, .ref v0, .long 0, .long v3.toInt64]) rfl ?_
      refine zco_Vi (rc := 0) (rs := 0) (mc := 0) (ms := 0) (As := [.int v1]) (S := [.long 0, .long v3.toInt64]) vmX12_sideMany (mtX12_sideMany l e (by omega) v0 v1) q_1942 rfl rfl (Nat.le_of_ble_eq_true rfl) (zdk (cc := cX12_swap) (q := (32, .invokevirtual 416, 3)) tkX12_swap 22 rfl) (fun y4 => ?_)
      refine zco_p tkX12_swap 23 3 (pc' := 38) (L' := [(0, .ref v0), (1, .int v1), (2, .int v2), (3, .int v3)]) (S' := [.long ((y4 - 1 : Int32).toInt64), .long 0, .long v3.toInt64]) rfl ?_
      refine zco_Si (rc := 0) (rs := 0) (mc := 0) (ms := 0) (As := [.long v3.toInt64, .long 0, .long ((y4 - 1 : Int32).toInt64)]) (S := []) vmX12_isIn (mtX12_isIn l e (by omega) v3.toInt64 0 ((y4 - 1 : Int32).toInt64)) q_1797 rfl rfl (Nat.le_of_ble_eq_true rfl) (zdk (cc := cX12_swap) (q := (38, .invokestatic 313, 3)) tkX12_swap 26 rfl) (fun y5 => ?_)
      refine zco_if_eq (tgt := 49) (zdk (cc := cX12_swap) (q := (41, .ifCond .eq 8, 3)) tkX12_swap 27 rfl) rfl ?_ ?_
      · exact zco_sub [0] rfl (coX12_swap_J49 l e he v0)
      · refine zco_p tkX12_swap 28 2 (pc' := 46) (L' := [(0, .ref v0), (1, .int v1), (2, .int v2), (3, .int v3)]) (S' := [.int v3, .int v2]) rfl ?_
        refine zco_icmp_ne (tgt := 55) (zdk (cc := cX12_swap) (q := (46, .if_icmp .ne 9, 3)) tkX12_swap 30 rfl) rfl ?_ ?_
        · refine zco_p tkX12_swap 35 1 (pc' := 56) (L' := [(0, .ref v0), (1, .int v1), (2, .int v2), (3, .int v3)]) (S' := [.ref v0]) rfl ?_
          refine zco_Vv (rc := 0) (rs := 0) (mc := 0) (ms := 0) (As := []) (S := []) vmX12_keeps (mtX12_keeps l e (by omega) v0) q_2202 rfl rfl (Nat.le_of_ble_eq_true rfl) (zdk (cc := cX12_swap) (q := (56, .invokevirtual 610, 3)) tkX12_swap 36 rfl) ?_
          refine zco_p tkX12_swap 37 4 (pc' := 63) (L' := [(0, .ref v0), (1, .int v1), (2, .int v2), (3, .int v3)]) (S' := [.int v3, .int v2, .int v1, .ref v0]) rfl ?_
          refine zco_Vv (rc := 0) (rs := 0) (mc := 0) (ms := 0) (As := [.int v1, .int v2, .int v3]) (S := []) vmX12_exchanges (mtX12_exchanges l e (by omega) v0 v1 v2 v3) q_2157 rfl rfl (Nat.le_of_ble_eq_true rfl) (zdk (cc := cX12_swap) (q := (63, .invokevirtual 589, 3)) tkX12_swap 41 rfl) ?_
          refine zco_p tkX12_swap 42 1 (pc' := 67) (L' := [(0, .ref v0), (1, .int v1), (2, .int v2), (3, .int v3)]) (S' := [.int 1]) rfl ?_
          exact zco_zret rfl rfl rfl (zdk (cc := cX12_swap) (q := (67, .ireturn, 1)) tkX12_swap 43 rfl)
        · exact zco_sub [0] rfl (coX12_swap_J49 l e he v0)
theorem mtX12_swap (l : Launch) (d : Nat) (hd : 2 ≤ d) (v0 : Nat) (v1 : Int32) (v2 : Int32) (v3 : Int32) : zMet l d 0 0 yX12_swap cX12_swap 4 (Option.some .boolean) [.ref v0, .int v1, .int v2, .int v3] (X12_swap v0 v1 v2 v3) := by
  obtain ⟨e, rfl⟩ : ∃ e, d = e + 1 := ⟨d - 1, by omega⟩
  exact zmet_of (own := RX12) (ini := false) (by decide +kernel) rfl (fun _ => by contradiction) (Nat.le_of_ble_eq_true rfl) (coX12_swap l e (by omega) v0 v1 v2 v3)
abbrev iX12_qOf : zI := (RX12, cX12_qOf, 5, (Option.some .long), false)
def tX12_qOf : List (Nat × Instr × Nat) := [(0, .iload_n 1, 1), (1, .lookupswitch 44 #[(0, 19)], 19), (20, .aload_n 0, 1), (21, .iload 4, 2), (23, .i2l, 1), (24, .lload_n 2, 1), (25, .invokevirtual 545, 3), (28, .ifCond .eq 15, 3), (31, .aload_n 0, 1), (32, .iload 4, 2), (34, .lload_n 2, 1), (35, .l2i, 1), (36, .invokevirtual 549, 3), (39, .i2l, 1), (40, .goto 4, 3), (43, .lconst 0, 1), (44, .lreturn, 1), (45, .aload_n 0, 1), (46, .iload 4, 2), (48, .i2l, 1), (49, .lload_n 2, 1), (50, .invokevirtual 545, 3), (53, .ifCond .eq 15, 3), (56, .aload_n 0, 1), (57, .iload 4, 2), (59, .lload_n 2, 1), (60, .l2i, 1), (61, .invokevirtual 552, 3), (64, .i2l, 1), (65, .goto 4, 3), (68, .lconst 0, 1), (69, .lreturn, 1)]
set_option maxRecDepth 100000 in
theorem tkX12_qOf : ∀ q ∈ tX12_qOf, decode cX12_qOf q.1 = .ok q.2 := by decide +kernel
theorem vmX12_qOf : zVM yX12_qOf cX12_qOf 5 (Option.some .long) 3 12 := ⟨kX12_qOf, q_2263, q_136, q_160, ⟨_, rfl, rfl⟩, by decide +kernel, by decide⟩
def X12_qOf (v0 : Nat) (v1 : Int32) (v2 : Int64) (v4 : Int32) : zM := z_if (v1.toInt = 0) (z_rc 12 v0 (z_ci (X12_areTwo v0 v4.toInt64 v2) fun y1 => z_if (y1 = 0) (z_ret (some (.long 0)))
   (z_rc 12 v0 (z_ci (X12_likingOf v0 v4 v2.toInt32) fun y2 => z_ret (some (.long y2.toInt64))))))
   (z_rc 12 v0 (z_ci (X12_areTwo v0 v4.toInt64 v2) fun y3 => z_if (y3 = 0) (z_ret (some (.long 0)))
   (z_rc 12 v0 (z_ci (X12_knowingOf v0 v4 v2.toInt32) fun y4 => z_ret (some (.long y4.toInt64))))))
set_option maxHeartbeats 2000000 in
set_option maxRecDepth 20000 in
theorem coX12_qOf (l : Launch) (e : Nat) (he : 4 ≤ e) (v0 : Nat) (v1 : Int32) (v2 : Int64) (v4 : Int32) : zCo l (e + 1) 0 0 iX12_qOf 0 [(0, .ref v0), (1, .int v1), (2, .long v2), (4, .int v4)] [] (X12_qOf v0 v1 v2 v4) := by
  unfold X12_qOf
  refine zco_p tkX12_qOf 0 1 (pc' := 1) (L' := [(0, .ref v0), (1, .int v1), (2, .long v2), (4, .int v4)]) (S' := [.int v1]) rfl ?_
  refine zco_look1 (t1 := 20) (t0 := 45) (zdk (cc := cX12_qOf) (q := (1, .lookupswitch 44 #[(0, 19)], 19)) tkX12_qOf 1 rfl) rfl rfl ?_ ?_
  · refine zco_p tkX12_qOf 2 4 (pc' := 25) (L' := [(0, .ref v0), (1, .int v1), (2, .long v2), (4, .int v4)]) (S' := [.long v2, .long v4.toInt64, .ref v0]) rfl ?_
    refine zco_Vi (rc := 0) (rs := 0) (mc := 0) (ms := 0) (As := [.long v4.toInt64, .long v2]) (S := []) vmX12_areTwo (mtX12_areTwo l e (by omega) v0 v4.toInt64 v2) q_1990 rfl rfl (Nat.le_of_ble_eq_true rfl) (zdk (cc := cX12_qOf) (q := (25, .invokevirtual 545, 3)) tkX12_qOf 6 rfl) (fun y1 => ?_)
    refine zco_if_eq (tgt := 43) (zdk (cc := cX12_qOf) (q := (28, .ifCond .eq 15, 3)) tkX12_qOf 7 rfl) rfl ?_ ?_
    · refine zco_p tkX12_qOf 15 1 (pc' := 44) (L' := [(0, .ref v0), (1, .int v1), (2, .long v2), (4, .int v4)]) (S' := [.long 0]) rfl ?_
      exact zco_lret rfl rfl rfl (zdk (cc := cX12_qOf) (q := (44, .lreturn, 1)) tkX12_qOf 16 rfl)
    · refine zco_p tkX12_qOf 8 4 (pc' := 36) (L' := [(0, .ref v0), (1, .int v1), (2, .long v2), (4, .int v4)]) (S' := [.int v2.toInt32, .int v4, .ref v0]) rfl ?_
      refine zco_Vi (rc := 0) (rs := 0) (mc := 0) (ms := 0) (As := [.int v4, .int v2.toInt32]) (S := []) vmX12_likingOf (mtX12_likingOf l e (by omega) v0 v4 v2.toInt32) q_1998 rfl rfl (Nat.le_of_ble_eq_true rfl) (zdk (cc := cX12_qOf) (q := (36, .invokevirtual 549, 3)) tkX12_qOf 12 rfl) (fun y2 => ?_)
      refine zco_p tkX12_qOf 13 2 (pc' := 44) (L' := [(0, .ref v0), (1, .int v1), (2, .long v2), (4, .int v4)]) (S' := [.long y2.toInt64]) rfl ?_
      exact zco_lret rfl rfl rfl (zdk (cc := cX12_qOf) (q := (44, .lreturn, 1)) tkX12_qOf 16 rfl)
  · refine zco_p tkX12_qOf 17 4 (pc' := 50) (L' := [(0, .ref v0), (1, .int v1), (2, .long v2), (4, .int v4)]) (S' := [.long v2, .long v4.toInt64, .ref v0]) rfl ?_
    refine zco_Vi (rc := 0) (rs := 0) (mc := 0) (ms := 0) (As := [.long v4.toInt64, .long v2]) (S := []) vmX12_areTwo (mtX12_areTwo l e (by omega) v0 v4.toInt64 v2) q_1990 rfl rfl (Nat.le_of_ble_eq_true rfl) (zdk (cc := cX12_qOf) (q := (50, .invokevirtual 545, 3)) tkX12_qOf 21 rfl) (fun y3 => ?_)
    refine zco_if_eq (tgt := 68) (zdk (cc := cX12_qOf) (q := (53, .ifCond .eq 15, 3)) tkX12_qOf 22 rfl) rfl ?_ ?_
    · refine zco_p tkX12_qOf 30 1 (pc' := 69) (L' := [(0, .ref v0), (1, .int v1), (2, .long v2), (4, .int v4)]) (S' := [.long 0]) rfl ?_
      exact zco_lret rfl rfl rfl (zdk (cc := cX12_qOf) (q := (69, .lreturn, 1)) tkX12_qOf 31 rfl)
    · refine zco_p tkX12_qOf 23 4 (pc' := 61) (L' := [(0, .ref v0), (1, .int v1), (2, .long v2), (4, .int v4)]) (S' := [.int v2.toInt32, .int v4, .ref v0]) rfl ?_
      refine zco_Vi (rc := 0) (rs := 0) (mc := 0) (ms := 0) (As := [.int v4, .int v2.toInt32]) (S := []) vmX12_knowingOf (mtX12_knowingOf l e (by omega) v0 v4 v2.toInt32) q_2006 rfl rfl (Nat.le_of_ble_eq_true rfl) (zdk (cc := cX12_qOf) (q := (61, .invokevirtual 552, 3)) tkX12_qOf 27 rfl) (fun y4 => ?_)
      refine zco_p tkX12_qOf 28 2 (pc' := 69) (L' := [(0, .ref v0), (1, .int v1), (2, .long v2), (4, .int v4)]) (S' := [.long y4.toInt64]) rfl ?_
      exact zco_lret rfl rfl rfl (zdk (cc := cX12_qOf) (q := (69, .lreturn, 1)) tkX12_qOf 31 rfl)
theorem mtX12_qOf (l : Launch) (d : Nat) (hd : 5 ≤ d) (v0 : Nat) (v1 : Int32) (v2 : Int64) (v4 : Int32) : zMet l d 0 0 yX12_qOf cX12_qOf 5 (Option.some .long) [.ref v0, .int v1, .long v2, .int v4] (X12_qOf v0 v1 v2 v4) := by
  obtain ⟨e, rfl⟩ : ∃ e, d = e + 1 := ⟨d - 1, by omega⟩
  exact zmet_of (own := RX12) (ini := false) (by decide +kernel) rfl (fun _ => by contradiction) (Nat.le_of_ble_eq_true rfl) (coX12_qOf l e (by omega) v0 v1 v2 v4)
abbrev iX12_qTold : zI := (RX12, cX12_qTold, 4, (Option.some .long), false)
def tX12_qTold : List (Nat × Instr × Nat) := [(0, .aload_n 0, 1), (1, .iconst 0, 1), (2, .putfield 441, 3), (5, .iconst 0, 1), (6, .istore_n 2, 1), (7, .iload_n 2, 1), (8, .aload_n 0, 1), (9, .getfield 353, 3), (12, .if_icmp .ge 156, 3), (15, .aload_n 0, 1), (16, .getfield 255, 3), (19, .iload_n 2, 1), (20, .iaload, 1), (21, .istore_n 3, 1), (22, .iload_n 3, 1), (23, .sipush 1000, 3), (26, .if_icmp .lt 16, 3), (29, .aload_n 0, 1), (30, .iload_n 3, 1), (31, .sipush 1000, 3), (34, .isub, 1), (35, .i2l, 1), (36, .invokevirtual 444, 3), (39, .goto 123, 3), (42, .iload_n 3, 1), (43, .bipush 60, 2), (45, .if_icmp .lt 40, 3), (48, .aload_n 0, 1), (49, .getfield 261, 3), (52, .aload_n 0, 1), (53, .getfield 441, 3), (56, .iconst 1, 1), (57, .isub, 1), (58, .aload_n 0, 1), (59, .iload_n 3, 1), (60, .bipush 60, 2), (62, .isub, 1), (63, .aload_n 0, 1), (64, .getfield 261, 3), (67, .aload_n 0, 1), (68, .getfield 441, 3), (71, .iconst 1, 1), (72, .isub, 1), (73, .laload, 1), (74, .iload_n 1, 1), (75, .invokevirtual 699, 3), (78, .invokestatic 691, 3), (81, .lastore, 1), (82, .goto 80, 3), (85, .iload_n 3, 1), (86, .bipush 40, 2), (88, .if_icmp .lt 22, 3), (91, .aload_n 0, 1), (92, .aload_n 0, 1), (93, .iload_n 3, 1), (94, .bipush 40, 2), (96, .isub, 1), (97, .iload_n 1, 1), (98, .invokevirtual 448, 3), (101, .invokestatic 691, 3), (104, .invokevirtual 444, 3), (107, .goto 55, 3), (110, .iload_n 3, 1), (111, .bipush 13, 2), (113, .if_icmp .ne 11, 3), (116, .aload_n 0, 1), (117, .lconst 1, 1), (118, .invokevirtual 444, 3), (121, .goto 41, 3), (124, .iload_n 3, 1), (125, .bipush 12, 2), (127, .if_icmp .ne 30, 3), (130, .aload_n 0, 1), (131, .getfield 261, 3), (134, .aload_n 0, 1), (135, .getfield 441, 3), (138, .iconst 1, 1), (139, .isub, 1), (140, .lconst 1, 1), (141, .aload_n 0, 1), (142, .getfield 261, 3), (145, .aload_n 0, 1), (146, .getfield 441, 3), (149, .iconst 1, 1), (150, .isub, 1), (151, .laload, 1), (152, .lsub, 1), (153, .lastore, 1), (154, .goto 8, 3), (157, .aload_n 0, 1), (158, .iload_n 3, 1), (159, .invokevirtual 452, 3), (162, .iinc 2 1, 3), (165, .goto (-158), 3), (168, .aload_n 0, 1), (169, .getfield 261, 3), (172, .iconst 0, 1), (173, .laload, 1), (174, .lreturn, 1)]
set_option maxRecDepth 100000 in
theorem tkX12_qTold : ∀ q ∈ tX12_qTold, decode cX12_qTold q.1 = .ok q.2 := by decide +kernel
theorem vmX12_qTold : zVM yX12_qTold cX12_qTold 4 (Option.some .long) 1 12 := ⟨kX12_qTold, q_2259, q_135, q_160, ⟨_, rfl, rfl⟩, by decide +kernel, by decide⟩
def X12_qTold_J168 (v0 : Nat) : zM := z_gr 12 110 v0 fun x1 => z_ll x1 0 fun x2 => z_ret (some (.long x2))
set_option maxHeartbeats 2000000 in
set_option maxRecDepth 20000 in
theorem coX12_qTold_J168 (l : Launch) (e : Nat) (he : 5 ≤ e) (v0 : Nat) : zCo l (e + 1) 0 0 iX12_qTold 168 [(0, .ref v0)] [] (X12_qTold_J168 v0) := by
  unfold X12_qTold_J168
  refine zco_p tkX12_qTold 94 1 (pc' := 169) (L' := [(0, .ref v0)]) (S' := [.ref v0]) rfl ?_
  refine zco_gr fl_12_261 rfl (zdk (cc := cX12_qTold) (q := (169, .getfield 261, 3)) tkX12_qTold 95 rfl) (fun x1 => ?_)
  refine zco_p tkX12_qTold 96 1 (pc' := 173) (L' := [(0, .ref v0)]) (S' := [.int 0, .ref x1]) rfl ?_
  refine zco_laload (zdk (cc := cX12_qTold) (q := (173, .laload, 1)) tkX12_qTold 97 rfl) (fun x2 => ?_)
  exact zco_lret rfl rfl rfl (zdk (cc := cX12_qTold) (q := (174, .lreturn, 1)) tkX12_qTold 98 rfl)
def X12_qTold_J162 (r7 : Int32 → zM) (v0 : Nat) (v1 : Int32) (v2 : Int32) : zM := r7 (v2 + 1)
set_option maxHeartbeats 2000000 in
set_option maxRecDepth 20000 in
theorem coX12_qTold_J162 (l : Launch) (e : Nat) (he : 5 ≤ e) (v0 : Nat) (v1 : Int32) (v2 : Int32) (r7 : Int32 → zM) (hr7 : ∀ x : Int32, zCo l (e + 1) 0 0 iX12_qTold 7 [(0, .ref v0), (1, .int v1), (2, .int x)] [] (r7 x)) : zCo l (e + 1) 0 0 iX12_qTold 162 [(0, .ref v0), (1, .int v1), (2, .int v2)] [] (X12_qTold_J162 r7 v0 v1 v2) := by
  unfold X12_qTold_J162
  refine zco_p tkX12_qTold 92 2 (pc' := 7) (L' := [(2, .int (v2 + 1)), (0, .ref v0), (1, .int v1)]) (S' := []) rfl ?_
  exact zco_sub [1, 2, 0] rfl (hr7 (v2 + 1))
def X12_qTold_B7 (v0 : Nat) (v1 : Int32) (r7 : Int32 → zM) (v2 : Int32) : zM := z_gi 12 105 v0 fun x1 => z_if (x1 ≤ v2) (X12_qTold_J168 v0)
   (z_gr 12 104 v0 fun x2 => z_la 20 x2 v2 fun x3 => z_if (x3 < 1000) (z_if (x3 < 60) (z_if (x3 < 40) (z_if (x3 = 13) (z_rc 12 v0 (z_cv (X12_qPuts v0 1) (X12_qTold_J162 r7 v0 v1 v2)))
   (z_if (x3 = 12) (z_gr 12 110 v0 fun x4 => z_gi 12 111 v0 fun x5 => z_gr 12 110 v0 fun x6 => z_gi 12 111 v0 fun x7 => z_ll x6 (x7 - 1) fun x8 => z_sl x4 (x5 - 1) (1 - x8) (X12_qTold_J162 r7 v0 v1 v2))
   (z_rc 12 v0 (z_cv (X12_qJoins v0 x3) (X12_qTold_J162 r7 v0 v1 v2)))))
   (z_rc 12 v0 (z_cl (X12_qPartOf v0 (x3 - 40) v1) fun y9 => z_cl (X12_qClip y9) fun y10 => z_rc 12 v0 (z_cv (X12_qPuts v0 y10) (X12_qTold_J162 r7 v0 v1 v2)))))
   (z_gr 12 110 v0 fun x11 => z_gi 12 111 v0 fun x12 => z_gr 12 110 v0 fun x13 => z_gi 12 111 v0 fun x14 => z_ll x13 (x14 - 1) fun x15 => z_rc 12 v0 (z_cl (X12_qOf v0 (x3 - 60) x15 v1) fun y16 => z_cl (X12_qClip y16) fun y17 => z_sl x11 (x12 - 1) y17 (X12_qTold_J162 r7 v0 v1 v2))))
   (z_rc 12 v0 (z_cv (X12_qPuts v0 ((x3 - 1000 : Int32).toInt64)) (X12_qTold_J162 r7 v0 v1 v2))))
set_option maxHeartbeats 2000000 in
set_option maxRecDepth 20000 in
theorem coX12_qTold_B7 (l : Launch) (e : Nat) (he : 5 ≤ e) (v0 : Nat) (v1 : Int32) (r7 : Int32 → zM) (hr7 : ∀ x : Int32, zCo l (e + 1) 0 0 iX12_qTold 7 [(0, .ref v0), (1, .int v1), (2, .int x)] [] (r7 x)) (v2 : Int32) : zCo l (e + 1) 0 0 iX12_qTold 7 [(0, .ref v0), (1, .int v1), (2, .int v2)] [] (X12_qTold_B7 v0 v1 r7 v2) := by
  unfold X12_qTold_B7
  refine zco_p tkX12_qTold 5 2 (pc' := 9) (L' := [(0, .ref v0), (1, .int v1), (2, .int v2)]) (S' := [.ref v0, .int v2]) rfl ?_
  refine zco_gi fl_12_353 rfl (zdk (cc := cX12_qTold) (q := (9, .getfield 353, 3)) tkX12_qTold 7 rfl) (fun x1 => ?_)
  refine zco_icmp_ge (tgt := 168) (zdk (cc := cX12_qTold) (q := (12, .if_icmp .ge 156, 3)) tkX12_qTold 8 rfl) rfl ?_ ?_
  · exact zco_sub [0] rfl (coX12_qTold_J168 l e he v0)
  · refine zco_p tkX12_qTold 9 1 (pc' := 16) (L' := [(0, .ref v0), (1, .int v1), (2, .int v2)]) (S' := [.ref v0]) rfl ?_
    refine zco_gr fl_12_255 rfl (zdk (cc := cX12_qTold) (q := (16, .getfield 255, 3)) tkX12_qTold 10 rfl) (fun x2 => ?_)
    refine zco_p tkX12_qTold 11 1 (pc' := 20) (L' := [(0, .ref v0), (1, .int v1), (2, .int v2)]) (S' := [.int v2, .ref x2]) rfl ?_
    refine zco_iaload (zdk (cc := cX12_qTold) (q := (20, .iaload, 1)) tkX12_qTold 12 rfl) (fun x3 => ?_)
    refine zco_p tkX12_qTold 13 3 (pc' := 26) (L' := [(3, .int x3), (0, .ref v0), (1, .int v1), (2, .int v2)]) (S' := [.int 1000, .int x3]) rfl ?_
    refine zco_icmp_lt (tgt := 42) (zdk (cc := cX12_qTold) (q := (26, .if_icmp .lt 16, 3)) tkX12_qTold 16 rfl) rfl ?_ ?_
    · refine zco_p tkX12_qTold 24 2 (pc' := 45) (L' := [(3, .int x3), (0, .ref v0), (1, .int v1), (2, .int v2)]) (S' := [.int 60, .int x3]) rfl ?_
      refine zco_icmp_lt (tgt := 85) (zdk (cc := cX12_qTold) (q := (45, .if_icmp .lt 40, 3)) tkX12_qTold 26 rfl) rfl ?_ ?_
      · refine zco_p tkX12_qTold 49 2 (pc' := 88) (L' := [(3, .int x3), (0, .ref v0), (1, .int v1), (2, .int v2)]) (S' := [.int 40, .int x3]) rfl ?_
        refine zco_icmp_lt (tgt := 110) (zdk (cc := cX12_qTold) (q := (88, .if_icmp .lt 22, 3)) tkX12_qTold 51 rfl) rfl ?_ ?_
        · refine zco_p tkX12_qTold 62 2 (pc' := 113) (L' := [(3, .int x3), (0, .ref v0), (1, .int v1), (2, .int v2)]) (S' := [.int 13, .int x3]) rfl ?_
          refine zco_icmp_ne (tgt := 124) (zdk (cc := cX12_qTold) (q := (113, .if_icmp .ne 11, 3)) tkX12_qTold 64 rfl) rfl ?_ ?_
          · refine zco_p tkX12_qTold 69 2 (pc' := 127) (L' := [(3, .int x3), (0, .ref v0), (1, .int v1), (2, .int v2)]) (S' := [.int 12, .int x3]) rfl ?_
            refine zco_icmp_ne (tgt := 157) (zdk (cc := cX12_qTold) (q := (127, .if_icmp .ne 30, 3)) tkX12_qTold 71 rfl) rfl ?_ ?_
            · refine zco_p tkX12_qTold 89 2 (pc' := 159) (L' := [(3, .int x3), (0, .ref v0), (1, .int v1), (2, .int v2)]) (S' := [.int x3, .ref v0]) rfl ?_
              refine zco_Vv (rc := 0) (rs := 0) (mc := 0) (ms := 0) (As := [.int x3]) (S := []) vmX12_qJoins (mtX12_qJoins l e (by omega) v0 x3) q_2038 rfl rfl (Nat.le_of_ble_eq_true rfl) (zdk (cc := cX12_qTold) (q := (159, .invokevirtual 452, 3)) tkX12_qTold 91 rfl) ?_
              exact zco_sub [1, 2, 3] rfl (coX12_qTold_J162 l e he v0 v1 v2 r7 hr7)
            · refine zco_p tkX12_qTold 72 1 (pc' := 131) (L' := [(3, .int x3), (0, .ref v0), (1, .int v1), (2, .int v2)]) (S' := [.ref v0]) rfl ?_
              refine zco_gr fl_12_261 rfl (zdk (cc := cX12_qTold) (q := (131, .getfield 261, 3)) tkX12_qTold 73 rfl) (fun x4 => ?_)
              refine zco_p tkX12_qTold 74 1 (pc' := 135) (L' := [(3, .int x3), (0, .ref v0), (1, .int v1), (2, .int v2)]) (S' := [.ref v0, .ref x4]) rfl ?_
              refine zco_gi fl_12_441 rfl (zdk (cc := cX12_qTold) (q := (135, .getfield 441, 3)) tkX12_qTold 75 rfl) (fun x5 => ?_)
              refine zco_p tkX12_qTold 76 4 (pc' := 142) (L' := [(3, .int x3), (0, .ref v0), (1, .int v1), (2, .int v2)]) (S' := [.ref v0, .long 1, .int (x5 - 1), .ref x4]) rfl ?_
              refine zco_gr fl_12_261 rfl (zdk (cc := cX12_qTold) (q := (142, .getfield 261, 3)) tkX12_qTold 80 rfl) (fun x6 => ?_)
              refine zco_p tkX12_qTold 81 1 (pc' := 146) (L' := [(3, .int x3), (0, .ref v0), (1, .int v1), (2, .int v2)]) (S' := [.ref v0, .ref x6, .long 1, .int (x5 - 1), .ref x4]) rfl ?_
              refine zco_gi fl_12_441 rfl (zdk (cc := cX12_qTold) (q := (146, .getfield 441, 3)) tkX12_qTold 82 rfl) (fun x7 => ?_)
              refine zco_p tkX12_qTold 83 2 (pc' := 151) (L' := [(3, .int x3), (0, .ref v0), (1, .int v1), (2, .int v2)]) (S' := [.int (x7 - 1), .ref x6, .long 1, .int (x5 - 1), .ref x4]) rfl ?_
              refine zco_laload (zdk (cc := cX12_qTold) (q := (151, .laload, 1)) tkX12_qTold 85 rfl) (fun x8 => ?_)
              refine zco_p tkX12_qTold 86 1 (pc' := 153) (L' := [(3, .int x3), (0, .ref v0), (1, .int v1), (2, .int v2)]) (S' := [.long (1 - x8), .int (x5 - 1), .ref x4]) rfl ?_
              refine zco_lastore (zdk (cc := cX12_qTold) (q := (153, .lastore, 1)) tkX12_qTold 87 rfl) ?_
              refine zco_p tkX12_qTold 88 1 (pc' := 162) (L' := [(3, .int x3), (0, .ref v0), (1, .int v1), (2, .int v2)]) (S' := []) rfl ?_
              exact zco_sub [1, 2, 3] rfl (coX12_qTold_J162 l e he v0 v1 v2 r7 hr7)
          · refine zco_p tkX12_qTold 65 2 (pc' := 118) (L' := [(3, .int x3), (0, .ref v0), (1, .int v1), (2, .int v2)]) (S' := [.long 1, .ref v0]) rfl ?_
            refine zco_Vv (rc := 0) (rs := 0) (mc := 0) (ms := 0) (As := [.long 1]) (S := []) vmX12_qPuts (mtX12_qPuts l e (by omega) v0 1) q_2030 rfl rfl (Nat.le_of_ble_eq_true rfl) (zdk (cc := cX12_qTold) (q := (118, .invokevirtual 444, 3)) tkX12_qTold 67 rfl) ?_
            refine zco_p tkX12_qTold 68 1 (pc' := 162) (L' := [(3, .int x3), (0, .ref v0), (1, .int v1), (2, .int v2)]) (S' := []) rfl ?_
            exact zco_sub [1, 2, 3] rfl (coX12_qTold_J162 l e he v0 v1 v2 r7 hr7)
        · refine zco_p tkX12_qTold 52 6 (pc' := 98) (L' := [(3, .int x3), (0, .ref v0), (1, .int v1), (2, .int v2)]) (S' := [.int v1, .int (x3 - 40), .ref v0, .ref v0]) rfl ?_
          refine zco_Vl (rc := 0) (rs := 0) (mc := 0) (ms := 0) (As := [.int (x3 - 40), .int v1]) (S := [.ref v0]) vmX12_qPartOf (mtX12_qPartOf l e (by omega) v0 (x3 - 40) v1) q_2034 rfl rfl (Nat.le_of_ble_eq_true rfl) (zdk (cc := cX12_qTold) (q := (98, .invokevirtual 448, 3)) tkX12_qTold 58 rfl) (fun y9 => ?_)
          refine zco_Sl (rc := 0) (rs := 0) (mc := 0) (ms := 0) (As := [.long y9]) (S := [.ref v0]) vmX12_qClip (mtX12_qClip l e (by omega) y9) q_2042 rfl rfl (Nat.le_of_ble_eq_true rfl) (zdk (cc := cX12_qTold) (q := (101, .invokestatic 691, 3)) tkX12_qTold 59 rfl) (fun y10 => ?_)
          refine zco_Vv (rc := 0) (rs := 0) (mc := 0) (ms := 0) (As := [.long y10]) (S := []) vmX12_qPuts (mtX12_qPuts l e (by omega) v0 y10) q_2030 rfl rfl (Nat.le_of_ble_eq_true rfl) (zdk (cc := cX12_qTold) (q := (104, .invokevirtual 444, 3)) tkX12_qTold 60 rfl) ?_
          refine zco_p tkX12_qTold 61 1 (pc' := 162) (L' := [(3, .int x3), (0, .ref v0), (1, .int v1), (2, .int v2)]) (S' := []) rfl ?_
          exact zco_sub [1, 2, 3] rfl (coX12_qTold_J162 l e he v0 v1 v2 r7 hr7)
      · refine zco_p tkX12_qTold 27 1 (pc' := 49) (L' := [(3, .int x3), (0, .ref v0), (1, .int v1), (2, .int v2)]) (S' := [.ref v0]) rfl ?_
        refine zco_gr fl_12_261 rfl (zdk (cc := cX12_qTold) (q := (49, .getfield 261, 3)) tkX12_qTold 28 rfl) (fun x11 => ?_)
        refine zco_p tkX12_qTold 29 1 (pc' := 53) (L' := [(3, .int x3), (0, .ref v0), (1, .int v1), (2, .int v2)]) (S' := [.ref v0, .ref x11]) rfl ?_
        refine zco_gi fl_12_441 rfl (zdk (cc := cX12_qTold) (q := (53, .getfield 441, 3)) tkX12_qTold 30 rfl) (fun x12 => ?_)
        refine zco_p tkX12_qTold 31 7 (pc' := 64) (L' := [(3, .int x3), (0, .ref v0), (1, .int v1), (2, .int v2)]) (S' := [.ref v0, .int (x3 - 60), .ref v0, .int (x12 - 1), .ref x11]) rfl ?_
        refine zco_gr fl_12_261 rfl (zdk (cc := cX12_qTold) (q := (64, .getfield 261, 3)) tkX12_qTold 38 rfl) (fun x13 => ?_)
        refine zco_p tkX12_qTold 39 1 (pc' := 68) (L' := [(3, .int x3), (0, .ref v0), (1, .int v1), (2, .int v2)]) (S' := [.ref v0, .ref x13, .int (x3 - 60), .ref v0, .int (x12 - 1), .ref x11]) rfl ?_
        refine zco_gi fl_12_441 rfl (zdk (cc := cX12_qTold) (q := (68, .getfield 441, 3)) tkX12_qTold 40 rfl) (fun x14 => ?_)
        refine zco_p tkX12_qTold 41 2 (pc' := 73) (L' := [(3, .int x3), (0, .ref v0), (1, .int v1), (2, .int v2)]) (S' := [.int (x14 - 1), .ref x13, .int (x3 - 60), .ref v0, .int (x12 - 1), .ref x11]) rfl ?_
        refine zco_laload (zdk (cc := cX12_qTold) (q := (73, .laload, 1)) tkX12_qTold 43 rfl) (fun x15 => ?_)
        refine zco_p tkX12_qTold 44 1 (pc' := 75) (L' := [(3, .int x3), (0, .ref v0), (1, .int v1), (2, .int v2)]) (S' := [.int v1, .long x15, .int (x3 - 60), .ref v0, .int (x12 - 1), .ref x11]) rfl ?_
        refine zco_Vl (rc := 0) (rs := 0) (mc := 0) (ms := 0) (As := [.int (x3 - 60), .long x15, .int v1]) (S := [.int (x12 - 1), .ref x11]) vmX12_qOf (mtX12_qOf l e (by omega) v0 (x3 - 60) x15 v1) q_2261 rfl rfl (Nat.le_of_ble_eq_true rfl) (zdk (cc := cX12_qTold) (q := (75, .invokevirtual 699, 3)) tkX12_qTold 45 rfl) (fun y16 => ?_)
        refine zco_Sl (rc := 0) (rs := 0) (mc := 0) (ms := 0) (As := [.long y16]) (S := [.int (x12 - 1), .ref x11]) vmX12_qClip (mtX12_qClip l e (by omega) y16) q_2042 rfl rfl (Nat.le_of_ble_eq_true rfl) (zdk (cc := cX12_qTold) (q := (78, .invokestatic 691, 3)) tkX12_qTold 46 rfl) (fun y17 => ?_)
        refine zco_lastore (zdk (cc := cX12_qTold) (q := (81, .lastore, 1)) tkX12_qTold 47 rfl) ?_
        refine zco_p tkX12_qTold 48 1 (pc' := 162) (L' := [(3, .int x3), (0, .ref v0), (1, .int v1), (2, .int v2)]) (S' := []) rfl ?_
        exact zco_sub [1, 2, 3] rfl (coX12_qTold_J162 l e he v0 v1 v2 r7 hr7)
    · refine zco_p tkX12_qTold 17 5 (pc' := 36) (L' := [(3, .int x3), (0, .ref v0), (1, .int v1), (2, .int v2)]) (S' := [.long ((x3 - 1000 : Int32).toInt64), .ref v0]) rfl ?_
      refine zco_Vv (rc := 0) (rs := 0) (mc := 0) (ms := 0) (As := [.long ((x3 - 1000 : Int32).toInt64)]) (S := []) vmX12_qPuts (mtX12_qPuts l e (by omega) v0 ((x3 - 1000 : Int32).toInt64)) q_2030 rfl rfl (Nat.le_of_ble_eq_true rfl) (zdk (cc := cX12_qTold) (q := (36, .invokevirtual 444, 3)) tkX12_qTold 22 rfl) ?_
      refine zco_p tkX12_qTold 23 1 (pc' := 162) (L' := [(3, .int x3), (0, .ref v0), (1, .int v1), (2, .int v2)]) (S' := []) rfl ?_
      exact zco_sub [1, 2, 3] rfl (coX12_qTold_J162 l e he v0 v1 v2 r7 hr7)
def X12_qTold (v0 : Nat) (v1 : Int32) : zM := z_pi 12 111 v0 0 (z_fix (fun r x => X12_qTold_B7 v0 v1 r x) zFU 0)
set_option maxHeartbeats 2000000 in
set_option maxRecDepth 20000 in
theorem coX12_qTold (l : Launch) (e : Nat) (he : 5 ≤ e) (v0 : Nat) (v1 : Int32) : zCo l (e + 1) 0 0 iX12_qTold 0 [(0, .ref v0), (1, .int v1)] [] (X12_qTold v0 v1) := by
  unfold X12_qTold
  refine zco_p tkX12_qTold 0 2 (pc' := 2) (L' := [(0, .ref v0), (1, .int v1)]) (S' := [.int 0, .ref v0]) rfl ?_
  refine zco_pi fl_12_441 rfl rfl (zdk (cc := cX12_qTold) (q := (2, .putfield 441, 3)) tkX12_qTold 2 rfl) ?_
  refine zco_p tkX12_qTold 3 2 (pc' := 7) (L' := [(2, .int 0), (0, .ref v0), (1, .int v1)]) (S' := []) rfl ?_
  exact zco_sub [1, 2, 0] rfl (zco_fix (Lf := fun x : Int32 => [(0, .ref v0), (1, .int v1), (2, .int x)]) (Sf := fun _ => []) (fun r hr x => coX12_qTold_B7 l e he v0 v1 r hr x) zFU 0)
theorem mtX12_qTold (l : Launch) (d : Nat) (hd : 6 ≤ d) (v0 : Nat) (v1 : Int32) : zMet l d 0 0 yX12_qTold cX12_qTold 4 (Option.some .long) [.ref v0, .int v1] (X12_qTold v0 v1) := by
  obtain ⟨e, rfl⟩ : ∃ e, d = e + 1 := ⟨d - 1, by omega⟩
  exact zmet_of (own := RX12) (ini := false) (by decide +kernel) rfl (fun _ => by contradiction) (Nat.le_of_ble_eq_true rfl) (coX12_qTold l e (by omega) v0 v1)
abbrev iX12_qKind : zI := (RX12, cX12_qKind, 2, (Option.some .int), false)
def tX12_qKind : List (Nat × Instr × Nat) := [(0, .aload_n 0, 1), (1, .aload_n 0, 1), (2, .getfield 177, 3), (5, .invokevirtual 297, 3), (8, .ifCond .eq 7, 3), (11, .iconst 0, 1), (12, .goto 64, 3), (15, .aload_n 0, 1), (16, .aload_n 0, 1), (17, .getfield 180, 3), (20, .invokevirtual 297, 3), (23, .ifCond .eq 7, 3), (26, .iconst 1, 1), (27, .goto 49, 3), (30, .aload_n 0, 1), (31, .aload_n 0, 1), (32, .getfield 183, 3), (35, .invokevirtual 297, 3), (38, .ifCond .eq 7, 3), (41, .iconst 2, 1), (42, .goto 34, 3), (45, .aload_n 0, 1), (46, .aload_n 0, 1), (47, .getfield 186, 3), (50, .invokevirtual 297, 3), (53, .ifCond .eq 7, 3), (56, .iconst 3, 1), (57, .goto 19, 3), (60, .aload_n 0, 1), (61, .aload_n 0, 1), (62, .getfield 189, 3), (65, .invokevirtual 297, 3), (68, .ifCond .eq 7, 3), (71, .iconst 4, 1), (72, .goto 4, 3), (75, .iconst 5, 1), (76, .istore_n 1, 1), (77, .iload_n 1, 1), (78, .iconst 5, 1), (79, .if_icmp .ne 11, 3), (82, .aload_n 0, 1), (83, .aload_n 0, 1), (84, .getfield 192, 3), (87, .invokevirtual 341, 3), (90, .iload_n 1, 1), (91, .ireturn, 1)]
set_option maxRecDepth 100000 in
theorem tkX12_qKind : ∀ q ∈ tX12_qKind, decode cX12_qKind q.1 = .ok q.2 := by decide +kernel
theorem vmX12_qKind : zVM yX12_qKind cX12_qKind 2 (Option.some .int) 0 12 := ⟨kX12_qKind, q_2253, q_134, q_160, ⟨_, rfl, rfl⟩, by decide +kernel, by decide⟩
def X12_qKind_J76 (v0 : Nat) (s0 : Int32) : zM := z_if (s0 = 5) (z_gr 12 83 v0 fun x1 => z_rc 12 v0 (z_cv (X12_asks v0 x1) (z_ret (some (.int s0)))))
   (z_ret (some (.int s0)))
set_option maxHeartbeats 2000000 in
set_option maxRecDepth 20000 in
theorem coX12_qKind_J76 (l : Launch) (e : Nat) (he : 4 ≤ e) (v0 : Nat) (s0 : Int32) : zCo l (e + 1) 0 0 iX12_qKind 76 [(0, .ref v0)] [.int s0] (X12_qKind_J76 v0 s0) := by
  unfold X12_qKind_J76
  refine zco_p tkX12_qKind 36 3 (pc' := 79) (L' := [(1, .int s0), (0, .ref v0)]) (S' := [.int 5, .int s0]) rfl ?_
  refine zco_icmp_ne (tgt := 90) (zdk (cc := cX12_qKind) (q := (79, .if_icmp .ne 11, 3)) tkX12_qKind 39 rfl) rfl ?_ ?_
  · refine zco_p tkX12_qKind 44 1 (pc' := 91) (L' := [(1, .int s0), (0, .ref v0)]) (S' := [.int s0]) rfl ?_
    exact zco_iret rfl rfl rfl (zdk (cc := cX12_qKind) (q := (91, .ireturn, 1)) tkX12_qKind 45 rfl)
  · refine zco_p tkX12_qKind 40 2 (pc' := 84) (L' := [(1, .int s0), (0, .ref v0)]) (S' := [.ref v0, .ref v0]) rfl ?_
    refine zco_gr fl_12_192 rfl (zdk (cc := cX12_qKind) (q := (84, .getfield 192, 3)) tkX12_qKind 42 rfl) (fun x1 => ?_)
    refine zco_Vv (rc := 0) (rs := 0) (mc := 0) (ms := 0) (As := [.ref x1]) (S := []) vmX12_asks (mtX12_asks l e (by omega) v0 x1) q_1786 rfl rfl (Nat.le_of_ble_eq_true rfl) (zdk (cc := cX12_qKind) (q := (87, .invokevirtual 341, 3)) tkX12_qKind 43 rfl) ?_
    refine zco_p tkX12_qKind 44 1 (pc' := 91) (L' := [(1, .int s0), (0, .ref v0)]) (S' := [.int s0]) rfl ?_
    exact zco_iret rfl rfl rfl (zdk (cc := cX12_qKind) (q := (91, .ireturn, 1)) tkX12_qKind 45 rfl)
def X12_qKind (v0 : Nat) : zM := z_gr 12 78 v0 fun x1 => z_rc 12 v0 (z_ci (X12_takes v0 x1) fun y2 => z_if (y2 = 0) (z_gr 12 79 v0 fun x3 => z_rc 12 v0 (z_ci (X12_takes v0 x3) fun y4 => z_if (y4 = 0) (z_gr 12 80 v0 fun x5 => z_rc 12 v0 (z_ci (X12_takes v0 x5) fun y6 => z_if (y6 = 0) (z_gr 12 81 v0 fun x7 => z_rc 12 v0 (z_ci (X12_takes v0 x7) fun y8 => z_if (y8 = 0) (z_gr 12 82 v0 fun x9 => z_rc 12 v0 (z_ci (X12_takes v0 x9) fun y10 => z_if (y10 = 0) (X12_qKind_J76 v0 5)
   (X12_qKind_J76 v0 4)))
   (X12_qKind_J76 v0 3)))
   (X12_qKind_J76 v0 2)))
   (X12_qKind_J76 v0 1)))
   (X12_qKind_J76 v0 0))
set_option maxHeartbeats 2000000 in
set_option maxRecDepth 20000 in
theorem coX12_qKind (l : Launch) (e : Nat) (he : 4 ≤ e) (v0 : Nat) : zCo l (e + 1) 0 0 iX12_qKind 0 [(0, .ref v0)] [] (X12_qKind v0) := by
  unfold X12_qKind
  refine zco_p tkX12_qKind 0 2 (pc' := 2) (L' := [(0, .ref v0)]) (S' := [.ref v0, .ref v0]) rfl ?_
  refine zco_gr fl_12_177 rfl (zdk (cc := cX12_qKind) (q := (2, .getfield 177, 3)) tkX12_qKind 2 rfl) (fun x1 => ?_)
  refine zco_Vi (rc := 0) (rs := 0) (mc := 0) (ms := 0) (As := [.ref x1]) (S := []) vmX12_takes (mtX12_takes l e (by omega) v0 x1) q_1761 rfl rfl (Nat.le_of_ble_eq_true rfl) (zdk (cc := cX12_qKind) (q := (5, .invokevirtual 297, 3)) tkX12_qKind 3 rfl) (fun y2 => ?_)
  refine zco_if_eq (tgt := 15) (zdk (cc := cX12_qKind) (q := (8, .ifCond .eq 7, 3)) tkX12_qKind 4 rfl) rfl ?_ ?_
  · refine zco_p tkX12_qKind 7 2 (pc' := 17) (L' := [(0, .ref v0)]) (S' := [.ref v0, .ref v0]) rfl ?_
    refine zco_gr fl_12_180 rfl (zdk (cc := cX12_qKind) (q := (17, .getfield 180, 3)) tkX12_qKind 9 rfl) (fun x3 => ?_)
    refine zco_Vi (rc := 0) (rs := 0) (mc := 0) (ms := 0) (As := [.ref x3]) (S := []) vmX12_takes (mtX12_takes l e (by omega) v0 x3) q_1761 rfl rfl (Nat.le_of_ble_eq_true rfl) (zdk (cc := cX12_qKind) (q := (20, .invokevirtual 297, 3)) tkX12_qKind 10 rfl) (fun y4 => ?_)
    refine zco_if_eq (tgt := 30) (zdk (cc := cX12_qKind) (q := (23, .ifCond .eq 7, 3)) tkX12_qKind 11 rfl) rfl ?_ ?_
    · refine zco_p tkX12_qKind 14 2 (pc' := 32) (L' := [(0, .ref v0)]) (S' := [.ref v0, .ref v0]) rfl ?_
      refine zco_gr fl_12_183 rfl (zdk (cc := cX12_qKind) (q := (32, .getfield 183, 3)) tkX12_qKind 16 rfl) (fun x5 => ?_)
      refine zco_Vi (rc := 0) (rs := 0) (mc := 0) (ms := 0) (As := [.ref x5]) (S := []) vmX12_takes (mtX12_takes l e (by omega) v0 x5) q_1761 rfl rfl (Nat.le_of_ble_eq_true rfl) (zdk (cc := cX12_qKind) (q := (35, .invokevirtual 297, 3)) tkX12_qKind 17 rfl) (fun y6 => ?_)
      refine zco_if_eq (tgt := 45) (zdk (cc := cX12_qKind) (q := (38, .ifCond .eq 7, 3)) tkX12_qKind 18 rfl) rfl ?_ ?_
      · refine zco_p tkX12_qKind 21 2 (pc' := 47) (L' := [(0, .ref v0)]) (S' := [.ref v0, .ref v0]) rfl ?_
        refine zco_gr fl_12_186 rfl (zdk (cc := cX12_qKind) (q := (47, .getfield 186, 3)) tkX12_qKind 23 rfl) (fun x7 => ?_)
        refine zco_Vi (rc := 0) (rs := 0) (mc := 0) (ms := 0) (As := [.ref x7]) (S := []) vmX12_takes (mtX12_takes l e (by omega) v0 x7) q_1761 rfl rfl (Nat.le_of_ble_eq_true rfl) (zdk (cc := cX12_qKind) (q := (50, .invokevirtual 297, 3)) tkX12_qKind 24 rfl) (fun y8 => ?_)
        refine zco_if_eq (tgt := 60) (zdk (cc := cX12_qKind) (q := (53, .ifCond .eq 7, 3)) tkX12_qKind 25 rfl) rfl ?_ ?_
        · refine zco_p tkX12_qKind 28 2 (pc' := 62) (L' := [(0, .ref v0)]) (S' := [.ref v0, .ref v0]) rfl ?_
          refine zco_gr fl_12_189 rfl (zdk (cc := cX12_qKind) (q := (62, .getfield 189, 3)) tkX12_qKind 30 rfl) (fun x9 => ?_)
          refine zco_Vi (rc := 0) (rs := 0) (mc := 0) (ms := 0) (As := [.ref x9]) (S := []) vmX12_takes (mtX12_takes l e (by omega) v0 x9) q_1761 rfl rfl (Nat.le_of_ble_eq_true rfl) (zdk (cc := cX12_qKind) (q := (65, .invokevirtual 297, 3)) tkX12_qKind 31 rfl) (fun y10 => ?_)
          refine zco_if_eq (tgt := 75) (zdk (cc := cX12_qKind) (q := (68, .ifCond .eq 7, 3)) tkX12_qKind 32 rfl) rfl ?_ ?_
          · refine zco_p tkX12_qKind 35 1 (pc' := 76) (L' := [(0, .ref v0)]) (S' := [.int 5]) rfl ?_
            exact zco_sub [0] rfl (coX12_qKind_J76 l e he v0 5)
          · refine zco_p tkX12_qKind 33 2 (pc' := 76) (L' := [(0, .ref v0)]) (S' := [.int 4]) rfl ?_
            exact zco_sub [0] rfl (coX12_qKind_J76 l e he v0 4)
        · refine zco_p tkX12_qKind 26 2 (pc' := 76) (L' := [(0, .ref v0)]) (S' := [.int 3]) rfl ?_
          exact zco_sub [0] rfl (coX12_qKind_J76 l e he v0 3)
      · refine zco_p tkX12_qKind 19 2 (pc' := 76) (L' := [(0, .ref v0)]) (S' := [.int 2]) rfl ?_
        exact zco_sub [0] rfl (coX12_qKind_J76 l e he v0 2)
    · refine zco_p tkX12_qKind 12 2 (pc' := 76) (L' := [(0, .ref v0)]) (S' := [.int 1]) rfl ?_
      exact zco_sub [0] rfl (coX12_qKind_J76 l e he v0 1)
  · refine zco_p tkX12_qKind 5 2 (pc' := 76) (L' := [(0, .ref v0)]) (S' := [.int 0]) rfl ?_
    exact zco_sub [0] rfl (coX12_qKind_J76 l e he v0 0)
theorem mtX12_qKind (l : Launch) (d : Nat) (hd : 5 ≤ d) (v0 : Nat) : zMet l d 0 0 yX12_qKind cX12_qKind 2 (Option.some .int) [.ref v0] (X12_qKind v0) := by
  obtain ⟨e, rfl⟩ : ∃ e, d = e + 1 := ⟨d - 1, by omega⟩
  exact zmet_of (own := RX12) (ini := false) (by decide +kernel) rfl (fun _ => by contradiction) (Nat.le_of_ble_eq_true rfl) (coX12_qKind l e (by omega) v0)
abbrev iX12_qTakes : zI := (RX12, cX12_qTakes, 6, (Option.none : Option FieldType), false)
def tX12_qTakes : List (Nat × Instr × Nat) := [(0, .iload_n 1, 1), (1, .iconst 3, 1), (2, .if_icmp .ge 13, 3), (5, .lload_n 2, 1), (6, .lconst 1, 1), (7, .lcmp, 1), (8, .ifCond .ne 7, 3), (11, .iconst 1, 1), (12, .goto 4, 3), (15, .iconst 0, 1), (16, .istore 5, 2), (18, .iload_n 1, 1), (19, .ifCond .ne 19, 3), (22, .iload 5, 2), (24, .ifCond .eq 14, 3), (27, .aload_n 0, 1), (28, .getfield 703, 3), (31, .ldc2_w 706, 3), (34, .lcmp, 1), (35, .ifCond .eq 13, 3), (38, .iload_n 1, 1), (39, .iconst 1, 1), (40, .if_icmp .ne 15, 3), (43, .iload 5, 2), (45, .ifCond .eq 10, 3), (48, .aload_n 0, 1), (49, .iload 4, 2), (51, .i2l, 1), (52, .putfield 703, 3), (55, .iload_n 1, 1), (56, .iconst 2, 1), (57, .if_icmp .ne 18, 3), (60, .iload 5, 2), (62, .ifCond .eq 13, 3), (65, .aload_n 0, 1), (66, .dup, 1), (67, .getfield 703, 3), (70, .lconst 1, 1), (71, .ladd, 1), (72, .putfield 703, 3), (75, .iload_n 1, 1), (76, .iconst 3, 1), (77, .if_icmp .ne 13, 3), (80, .aload_n 0, 1), (81, .dup, 1), (82, .getfield 703, 3), (85, .lload_n 2, 1), (86, .ladd, 1), (87, .putfield 703, 3), (90, .iload_n 1, 1), (91, .iconst 3, 1), (92, .if_icmp .le 41, 3), (95, .aload_n 0, 1), (96, .getfield 708, 3), (99, .ifCond .ne 29, 3), (102, .iload_n 1, 1), (103, .iconst 4, 1), (104, .if_icmp .ne 15, 3), (107, .lload_n 2, 1), (108, .aload_n 0, 1), (109, .getfield 703, 3), (112, .lcmp, 1), (113, .ifCond .le 20, 3), (116, .goto 12, 3), (119, .lload_n 2, 1), (120, .aload_n 0, 1), (121, .getfield 703, 3), (124, .lcmp, 1), (125, .ifCond .ge 8, 3), (128, .aload_n 0, 1), (129, .lload_n 2, 1), (130, .putfield 703, 3), (133, .aload_n 0, 1), (134, .iconst 0, 1), (135, .putfield 708, 3), (138, .return_, 1)]
set_option maxRecDepth 100000 in
theorem tkX12_qTakes : ∀ q ∈ tX12_qTakes, decode cX12_qTakes q.1 = .ok q.2 := by decide +kernel
theorem vmX12_qTakes : zVM yX12_qTakes cX12_qTakes 6 (Option.none : Option FieldType) 3 12 := ⟨kX12_qTakes, q_2267, q_137, q_160, ⟨_, rfl, rfl⟩, by decide +kernel, by decide⟩
def X12_qTakes_J133 (v0 : Nat) : zM := z_pb 12 113 v0 0 (z_ret none)
set_option maxHeartbeats 2000000 in
set_option maxRecDepth 20000 in
theorem coX12_qTakes_J133 (l : Launch) (e : Nat) (he : 0 ≤ e) (v0 : Nat) : zCo l (e + 1) 0 0 iX12_qTakes 133 [(0, .ref v0)] [] (X12_qTakes_J133 v0) := by
  unfold X12_qTakes_J133
  refine zco_p tkX12_qTakes 72 2 (pc' := 135) (L' := [(0, .ref v0)]) (S' := [.int 0, .ref v0]) rfl ?_
  refine zco_pb fl_12_708 rfl rfl (zdk (cc := cX12_qTakes) (q := (135, .putfield 708, 3)) tkX12_qTakes 74 rfl) ?_
  exact zco_vret rfl rfl rfl (zdk (cc := cX12_qTakes) (q := (138, .return_, 1)) tkX12_qTakes 75 rfl)
def X12_qTakes_J128 (v0 : Nat) (v2 : Int64) : zM := z_pl 12 112 v0 v2 (X12_qTakes_J133 v0)
set_option maxHeartbeats 2000000 in
set_option maxRecDepth 20000 in
theorem coX12_qTakes_J128 (l : Launch) (e : Nat) (he : 0 ≤ e) (v0 : Nat) (v2 : Int64) : zCo l (e + 1) 0 0 iX12_qTakes 128 [(0, .ref v0), (2, .long v2)] [] (X12_qTakes_J128 v0 v2) := by
  unfold X12_qTakes_J128
  refine zco_p tkX12_qTakes 69 2 (pc' := 130) (L' := [(0, .ref v0), (2, .long v2)]) (S' := [.long v2, .ref v0]) rfl ?_
  refine zco_pl fl_12_703 rfl rfl (zdk (cc := cX12_qTakes) (q := (130, .putfield 703, 3)) tkX12_qTakes 71 rfl) ?_
  exact zco_sub [0] rfl (coX12_qTakes_J133 l e he v0)
def X12_qTakes_J90 (v0 : Nat) (v1 : Int32) (v2 : Int64) : zM := z_if (v1 ≤ 3) (X12_qTakes_J133 v0)
   (z_gi 12 113 v0 fun x1 => z_if (x1 = 0) (z_if (v1 = 4) (z_gl 12 112 v0 fun x3 => z_if (x3 < v2) (X12_qTakes_J128 v0 v2)
   (X12_qTakes_J133 v0))
   (z_gl 12 112 v0 fun x2 => z_if (v2 < x2) (X12_qTakes_J128 v0 v2)
   (X12_qTakes_J133 v0)))
   (X12_qTakes_J128 v0 v2))
set_option maxHeartbeats 2000000 in
set_option maxRecDepth 20000 in
theorem coX12_qTakes_J90 (l : Launch) (e : Nat) (he : 0 ≤ e) (v0 : Nat) (v1 : Int32) (v2 : Int64) : zCo l (e + 1) 0 0 iX12_qTakes 90 [(0, .ref v0), (1, .int v1), (2, .long v2)] [] (X12_qTakes_J90 v0 v1 v2) := by
  unfold X12_qTakes_J90
  refine zco_p tkX12_qTakes 49 2 (pc' := 92) (L' := [(0, .ref v0), (1, .int v1), (2, .long v2)]) (S' := [.int 3, .int v1]) rfl ?_
  refine zco_icmp_le (tgt := 133) (zdk (cc := cX12_qTakes) (q := (92, .if_icmp .le 41, 3)) tkX12_qTakes 51 rfl) rfl ?_ ?_
  · exact zco_sub [0] rfl (coX12_qTakes_J133 l e he v0)
  · refine zco_p tkX12_qTakes 52 1 (pc' := 96) (L' := [(0, .ref v0), (1, .int v1), (2, .long v2)]) (S' := [.ref v0]) rfl ?_
    refine zco_gi fl_12_708 rfl (zdk (cc := cX12_qTakes) (q := (96, .getfield 708, 3)) tkX12_qTakes 53 rfl) (fun x1 => ?_)
    refine zco_if_ne (tgt := 128) (zdk (cc := cX12_qTakes) (q := (99, .ifCond .ne 29, 3)) tkX12_qTakes 54 rfl) rfl ?_ ?_
    · exact zco_sub [0, 2] rfl (coX12_qTakes_J128 l e he v0 v2)
    · refine zco_p tkX12_qTakes 55 2 (pc' := 104) (L' := [(0, .ref v0), (1, .int v1), (2, .long v2)]) (S' := [.int 4, .int v1]) rfl ?_
      refine zco_icmp_ne (tgt := 119) (zdk (cc := cX12_qTakes) (q := (104, .if_icmp .ne 15, 3)) tkX12_qTakes 57 rfl) rfl ?_ ?_
      · refine zco_p tkX12_qTakes 64 2 (pc' := 121) (L' := [(0, .ref v0), (1, .int v1), (2, .long v2)]) (S' := [.ref v0, .long v2]) rfl ?_
        refine zco_gl fl_12_703 rfl (zdk (cc := cX12_qTakes) (q := (121, .getfield 703, 3)) tkX12_qTakes 66 rfl) (fun x2 => ?_)
        refine zco_lcmp_ge (tgt := 133) (zdk (cc := cX12_qTakes) (q := (124, .lcmp, 1)) tkX12_qTakes 67 rfl) (zdk (cc := cX12_qTakes) (q := (125, .ifCond .ge 8, 3)) tkX12_qTakes 68 rfl) rfl ?_ ?_
        · exact zco_sub [0] rfl (coX12_qTakes_J133 l e he v0)
        · exact zco_sub [0, 2] rfl (coX12_qTakes_J128 l e he v0 v2)
      · refine zco_p tkX12_qTakes 58 2 (pc' := 109) (L' := [(0, .ref v0), (1, .int v1), (2, .long v2)]) (S' := [.ref v0, .long v2]) rfl ?_
        refine zco_gl fl_12_703 rfl (zdk (cc := cX12_qTakes) (q := (109, .getfield 703, 3)) tkX12_qTakes 60 rfl) (fun x3 => ?_)
        refine zco_lcmp_le (tgt := 133) (zdk (cc := cX12_qTakes) (q := (112, .lcmp, 1)) tkX12_qTakes 61 rfl) (zdk (cc := cX12_qTakes) (q := (113, .ifCond .le 20, 3)) tkX12_qTakes 62 rfl) rfl ?_ ?_
        · exact zco_sub [0] rfl (coX12_qTakes_J133 l e he v0)
        · refine zco_p tkX12_qTakes 63 1 (pc' := 128) (L' := [(0, .ref v0), (1, .int v1), (2, .long v2)]) (S' := []) rfl ?_
          exact zco_sub [0, 2] rfl (coX12_qTakes_J128 l e he v0 v2)
def X12_qTakes_J75 (v0 : Nat) (v1 : Int32) (v2 : Int64) : zM := z_if (v1 = 3) (z_gl 12 112 v0 fun x1 => z_pl 12 112 v0 (x1 + v2) (X12_qTakes_J90 v0 v1 v2))
   (X12_qTakes_J90 v0 v1 v2)
set_option maxHeartbeats 2000000 in
set_option maxRecDepth 20000 in
theorem coX12_qTakes_J75 (l : Launch) (e : Nat) (he : 0 ≤ e) (v0 : Nat) (v1 : Int32) (v2 : Int64) : zCo l (e + 1) 0 0 iX12_qTakes 75 [(0, .ref v0), (1, .int v1), (2, .long v2)] [] (X12_qTakes_J75 v0 v1 v2) := by
  unfold X12_qTakes_J75
  refine zco_p tkX12_qTakes 40 2 (pc' := 77) (L' := [(0, .ref v0), (1, .int v1), (2, .long v2)]) (S' := [.int 3, .int v1]) rfl ?_
  refine zco_icmp_ne (tgt := 90) (zdk (cc := cX12_qTakes) (q := (77, .if_icmp .ne 13, 3)) tkX12_qTakes 42 rfl) rfl ?_ ?_
  · exact zco_sub [0, 1, 2] rfl (coX12_qTakes_J90 l e he v0 v1 v2)
  · refine zco_p tkX12_qTakes 43 2 (pc' := 82) (L' := [(0, .ref v0), (1, .int v1), (2, .long v2)]) (S' := [.ref v0, .ref v0]) rfl ?_
    refine zco_gl fl_12_703 rfl (zdk (cc := cX12_qTakes) (q := (82, .getfield 703, 3)) tkX12_qTakes 45 rfl) (fun x1 => ?_)
    refine zco_p tkX12_qTakes 46 2 (pc' := 87) (L' := [(0, .ref v0), (1, .int v1), (2, .long v2)]) (S' := [.long (x1 + v2), .ref v0]) rfl ?_
    refine zco_pl fl_12_703 rfl rfl (zdk (cc := cX12_qTakes) (q := (87, .putfield 703, 3)) tkX12_qTakes 48 rfl) ?_
    exact zco_sub [0, 1, 2] rfl (coX12_qTakes_J90 l e he v0 v1 v2)
def X12_qTakes_J55 (v0 : Nat) (v1 : Int32) (v2 : Int64) (v5 : Int32) : zM := z_if (v1 = 2) (z_if (v5 = 0) (X12_qTakes_J75 v0 v1 v2)
   (z_gl 12 112 v0 fun x1 => z_pl 12 112 v0 (x1 + 1) (X12_qTakes_J75 v0 v1 v2)))
   (X12_qTakes_J75 v0 v1 v2)
set_option maxHeartbeats 2000000 in
set_option maxRecDepth 20000 in
theorem coX12_qTakes_J55 (l : Launch) (e : Nat) (he : 0 ≤ e) (v0 : Nat) (v1 : Int32) (v2 : Int64) (v5 : Int32) : zCo l (e + 1) 0 0 iX12_qTakes 55 [(0, .ref v0), (1, .int v1), (2, .long v2), (5, .int v5)] [] (X12_qTakes_J55 v0 v1 v2 v5) := by
  unfold X12_qTakes_J55
  refine zco_p tkX12_qTakes 29 2 (pc' := 57) (L' := [(0, .ref v0), (1, .int v1), (2, .long v2), (5, .int v5)]) (S' := [.int 2, .int v1]) rfl ?_
  refine zco_icmp_ne (tgt := 75) (zdk (cc := cX12_qTakes) (q := (57, .if_icmp .ne 18, 3)) tkX12_qTakes 31 rfl) rfl ?_ ?_
  · exact zco_sub [0, 1, 2] rfl (coX12_qTakes_J75 l e he v0 v1 v2)
  · refine zco_p tkX12_qTakes 32 1 (pc' := 62) (L' := [(0, .ref v0), (1, .int v1), (2, .long v2), (5, .int v5)]) (S' := [.int v5]) rfl ?_
    refine zco_if_eq (tgt := 75) (zdk (cc := cX12_qTakes) (q := (62, .ifCond .eq 13, 3)) tkX12_qTakes 33 rfl) rfl ?_ ?_
    · exact zco_sub [0, 1, 2] rfl (coX12_qTakes_J75 l e he v0 v1 v2)
    · refine zco_p tkX12_qTakes 34 2 (pc' := 67) (L' := [(0, .ref v0), (1, .int v1), (2, .long v2), (5, .int v5)]) (S' := [.ref v0, .ref v0]) rfl ?_
      refine zco_gl fl_12_703 rfl (zdk (cc := cX12_qTakes) (q := (67, .getfield 703, 3)) tkX12_qTakes 36 rfl) (fun x1 => ?_)
      refine zco_p tkX12_qTakes 37 2 (pc' := 72) (L' := [(0, .ref v0), (1, .int v1), (2, .long v2), (5, .int v5)]) (S' := [.long (x1 + 1), .ref v0]) rfl ?_
      refine zco_pl fl_12_703 rfl rfl (zdk (cc := cX12_qTakes) (q := (72, .putfield 703, 3)) tkX12_qTakes 39 rfl) ?_
      exact zco_sub [0, 1, 2] rfl (coX12_qTakes_J75 l e he v0 v1 v2)
def X12_qTakes_J48 (v0 : Nat) (v1 : Int32) (v2 : Int64) (v4 : Int32) (v5 : Int32) : zM := z_pl 12 112 v0 v4.toInt64 (X12_qTakes_J55 v0 v1 v2 v5)
set_option maxHeartbeats 2000000 in
set_option maxRecDepth 20000 in
theorem coX12_qTakes_J48 (l : Launch) (e : Nat) (he : 0 ≤ e) (v0 : Nat) (v1 : Int32) (v2 : Int64) (v4 : Int32) (v5 : Int32) : zCo l (e + 1) 0 0 iX12_qTakes 48 [(0, .ref v0), (1, .int v1), (2, .long v2), (4, .int v4), (5, .int v5)] [] (X12_qTakes_J48 v0 v1 v2 v4 v5) := by
  unfold X12_qTakes_J48
  refine zco_p tkX12_qTakes 25 3 (pc' := 52) (L' := [(0, .ref v0), (1, .int v1), (2, .long v2), (4, .int v4), (5, .int v5)]) (S' := [.long v4.toInt64, .ref v0]) rfl ?_
  refine zco_pl fl_12_703 rfl rfl (zdk (cc := cX12_qTakes) (q := (52, .putfield 703, 3)) tkX12_qTakes 28 rfl) ?_
  exact zco_sub [0, 1, 2, 4] rfl (coX12_qTakes_J55 l e he v0 v1 v2 v5)
def X12_qTakes_J38 (v0 : Nat) (v1 : Int32) (v2 : Int64) (v4 : Int32) (v5 : Int32) : zM := z_if (v1 = 1) (z_if (v5 = 0) (X12_qTakes_J55 v0 v1 v2 v5)
   (X12_qTakes_J48 v0 v1 v2 v4 v5))
   (X12_qTakes_J55 v0 v1 v2 v5)
set_option maxHeartbeats 2000000 in
set_option maxRecDepth 20000 in
theorem coX12_qTakes_J38 (l : Launch) (e : Nat) (he : 0 ≤ e) (v0 : Nat) (v1 : Int32) (v2 : Int64) (v4 : Int32) (v5 : Int32) : zCo l (e + 1) 0 0 iX12_qTakes 38 [(0, .ref v0), (1, .int v1), (2, .long v2), (4, .int v4), (5, .int v5)] [] (X12_qTakes_J38 v0 v1 v2 v4 v5) := by
  unfold X12_qTakes_J38
  refine zco_p tkX12_qTakes 20 2 (pc' := 40) (L' := [(0, .ref v0), (1, .int v1), (2, .long v2), (4, .int v4), (5, .int v5)]) (S' := [.int 1, .int v1]) rfl ?_
  refine zco_icmp_ne (tgt := 55) (zdk (cc := cX12_qTakes) (q := (40, .if_icmp .ne 15, 3)) tkX12_qTakes 22 rfl) rfl ?_ ?_
  · exact zco_sub [0, 1, 2, 4] rfl (coX12_qTakes_J55 l e he v0 v1 v2 v5)
  · refine zco_p tkX12_qTakes 23 1 (pc' := 45) (L' := [(0, .ref v0), (1, .int v1), (2, .long v2), (4, .int v4), (5, .int v5)]) (S' := [.int v5]) rfl ?_
    refine zco_if_eq (tgt := 55) (zdk (cc := cX12_qTakes) (q := (45, .ifCond .eq 10, 3)) tkX12_qTakes 24 rfl) rfl ?_ ?_
    · exact zco_sub [0, 1, 2, 4] rfl (coX12_qTakes_J55 l e he v0 v1 v2 v5)
    · exact zco_sub [0, 1, 2, 3, 4] rfl (coX12_qTakes_J48 l e he v0 v1 v2 v4 v5)
def X12_qTakes_J16 (v0 : Nat) (v1 : Int32) (v2 : Int64) (v4 : Int32) (s0 : Int32) : zM := z_if (v1 = 0) (z_if (s0 = 0) (X12_qTakes_J38 v0 v1 v2 v4 s0)
   (z_gl 12 112 v0 fun x1 => z_if (x1 = (-1)) (X12_qTakes_J48 v0 v1 v2 v4 s0)
   (X12_qTakes_J38 v0 v1 v2 v4 s0)))
   (X12_qTakes_J38 v0 v1 v2 v4 s0)
set_option maxHeartbeats 2000000 in
set_option maxRecDepth 20000 in
theorem coX12_qTakes_J16 (l : Launch) (e : Nat) (he : 0 ≤ e) (v0 : Nat) (v1 : Int32) (v2 : Int64) (v4 : Int32) (s0 : Int32) : zCo l (e + 1) 0 0 iX12_qTakes 16 [(0, .ref v0), (1, .int v1), (2, .long v2), (4, .int v4)] [.int s0] (X12_qTakes_J16 v0 v1 v2 v4 s0) := by
  unfold X12_qTakes_J16
  refine zco_p tkX12_qTakes 10 2 (pc' := 19) (L' := [(5, .int s0), (0, .ref v0), (1, .int v1), (2, .long v2), (4, .int v4)]) (S' := [.int v1]) rfl ?_
  refine zco_if_ne (tgt := 38) (zdk (cc := cX12_qTakes) (q := (19, .ifCond .ne 19, 3)) tkX12_qTakes 12 rfl) rfl ?_ ?_
  · exact zco_sub [1, 2, 3, 4, 0] rfl (coX12_qTakes_J38 l e he v0 v1 v2 v4 s0)
  · refine zco_p tkX12_qTakes 13 1 (pc' := 24) (L' := [(5, .int s0), (0, .ref v0), (1, .int v1), (2, .long v2), (4, .int v4)]) (S' := [.int s0]) rfl ?_
    refine zco_if_eq (tgt := 38) (zdk (cc := cX12_qTakes) (q := (24, .ifCond .eq 14, 3)) tkX12_qTakes 14 rfl) rfl ?_ ?_
    · exact zco_sub [1, 2, 3, 4, 0] rfl (coX12_qTakes_J38 l e he v0 v1 v2 v4 s0)
    · refine zco_p tkX12_qTakes 15 1 (pc' := 28) (L' := [(5, .int s0), (0, .ref v0), (1, .int v1), (2, .long v2), (4, .int v4)]) (S' := [.ref v0]) rfl ?_
      refine zco_gl fl_12_703 rfl (zdk (cc := cX12_qTakes) (q := (28, .getfield 703, 3)) tkX12_qTakes 16 rfl) (fun x1 => ?_)
      refine zco_ldc2 q_2256 (zdk (cc := cX12_qTakes) (q := (31, .ldc2_w 706, 3)) tkX12_qTakes 17 rfl) ?_
      refine zco_lcmp_eq (tgt := 48) (zdk (cc := cX12_qTakes) (q := (34, .lcmp, 1)) tkX12_qTakes 18 rfl) (zdk (cc := cX12_qTakes) (q := (35, .ifCond .eq 13, 3)) tkX12_qTakes 19 rfl) rfl ?_ ?_
      · exact zco_sub [1, 2, 3, 4, 0] rfl (coX12_qTakes_J48 l e he v0 v1 v2 v4 s0)
      · exact zco_sub [1, 2, 3, 4, 0] rfl (coX12_qTakes_J38 l e he v0 v1 v2 v4 s0)
def X12_qTakes_J15 (v0 : Nat) (v1 : Int32) (v2 : Int64) (v4 : Int32) : zM := X12_qTakes_J16 v0 v1 v2 v4 0
set_option maxHeartbeats 2000000 in
set_option maxRecDepth 20000 in
theorem coX12_qTakes_J15 (l : Launch) (e : Nat) (he : 0 ≤ e) (v0 : Nat) (v1 : Int32) (v2 : Int64) (v4 : Int32) : zCo l (e + 1) 0 0 iX12_qTakes 15 [(0, .ref v0), (1, .int v1), (2, .long v2), (4, .int v4)] [] (X12_qTakes_J15 v0 v1 v2 v4) := by
  unfold X12_qTakes_J15
  refine zco_p tkX12_qTakes 9 1 (pc' := 16) (L' := [(0, .ref v0), (1, .int v1), (2, .long v2), (4, .int v4)]) (S' := [.int 0]) rfl ?_
  exact zco_sub [0, 1, 2, 3] rfl (coX12_qTakes_J16 l e he v0 v1 v2 v4 0)
def X12_qTakes (v0 : Nat) (v1 : Int32) (v2 : Int64) (v4 : Int32) : zM := z_if (3 ≤ v1) (X12_qTakes_J15 v0 v1 v2 v4)
   (z_if (v2 = 1) (X12_qTakes_J16 v0 v1 v2 v4 1)
   (X12_qTakes_J15 v0 v1 v2 v4))
set_option maxHeartbeats 2000000 in
set_option maxRecDepth 20000 in
theorem coX12_qTakes (l : Launch) (e : Nat) (he : 0 ≤ e) (v0 : Nat) (v1 : Int32) (v2 : Int64) (v4 : Int32) : zCo l (e + 1) 0 0 iX12_qTakes 0 [(0, .ref v0), (1, .int v1), (2, .long v2), (4, .int v4)] [] (X12_qTakes v0 v1 v2 v4) := by
  unfold X12_qTakes
  refine zco_p tkX12_qTakes 0 2 (pc' := 2) (L' := [(0, .ref v0), (1, .int v1), (2, .long v2), (4, .int v4)]) (S' := [.int 3, .int v1]) rfl ?_
  refine zco_icmp_ge (tgt := 15) (zdk (cc := cX12_qTakes) (q := (2, .if_icmp .ge 13, 3)) tkX12_qTakes 2 rfl) rfl ?_ ?_
  · exact zco_sub [0, 1, 2, 3] rfl (coX12_qTakes_J15 l e he v0 v1 v2 v4)
  · refine zco_p tkX12_qTakes 3 2 (pc' := 7) (L' := [(0, .ref v0), (1, .int v1), (2, .long v2), (4, .int v4)]) (S' := [.long 1, .long v2]) rfl ?_
    refine zco_lcmp_ne (tgt := 15) (zdk (cc := cX12_qTakes) (q := (7, .lcmp, 1)) tkX12_qTakes 5 rfl) (zdk (cc := cX12_qTakes) (q := (8, .ifCond .ne 7, 3)) tkX12_qTakes 6 rfl) rfl ?_ ?_
    · exact zco_sub [0, 1, 2, 3] rfl (coX12_qTakes_J15 l e he v0 v1 v2 v4)
    · refine zco_p tkX12_qTakes 7 2 (pc' := 16) (L' := [(0, .ref v0), (1, .int v1), (2, .long v2), (4, .int v4)]) (S' := [.int 1]) rfl ?_
      exact zco_sub [0, 1, 2, 3] rfl (coX12_qTakes_J16 l e he v0 v1 v2 v4 1)
theorem mtX12_qTakes (l : Launch) (d : Nat) (hd : 1 ≤ d) (v0 : Nat) (v1 : Int32) (v2 : Int64) (v4 : Int32) : zMet l d 0 0 yX12_qTakes cX12_qTakes 6 (Option.none : Option FieldType) [.ref v0, .int v1, .long v2, .int v4] (X12_qTakes v0 v1 v2 v4) := by
  obtain ⟨e, rfl⟩ : ∃ e, d = e + 1 := ⟨d - 1, by omega⟩
  exact zmet_of (own := RX12) (ini := false) (by decide +kernel) rfl (fun _ => by contradiction) (Nat.le_of_ble_eq_true rfl) (coX12_qTakes l e (by omega) v0 v1 v2 v4)
abbrev iX12_ask : zI := (RX12, cX12_ask, 3, (Option.some .long), false)
def tX12_ask : List (Nat × Instr × Nat) := [(0, .aload_n 0, 1), (1, .aload_n 0, 1), (2, .getfield 267, 3), (5, .putfield 279, 3), (8, .aload_n 0, 1), (9, .iconst 0, 1), (10, .putfield 267, 3), (13, .aload_n 0, 1), (14, .iconst 0, 1), (15, .putfield 276, 3), (18, .aload_n 0, 1), (19, .iconst (-1), 1), (20, .putfield 290, 3), (23, .aload_n 0, 1), (24, .iconst 0, 1), (25, .putfield 270, 3), (28, .aload_n 0, 1), (29, .iconst (-1), 1), (30, .putfield 273, 3), (33, .aload_n 0, 1), (34, .iconst 3, 1), (35, .putfield 328, 3), (38, .aload_n 0, 1), (39, .iconst 0, 1), (40, .putfield 353, 3), (43, .aload_n 0, 1), (44, .iconst 0, 1), (45, .putfield 356, 3), (48, .aload_n 0, 1), (49, .iconst 0, 1), (50, .putfield 359, 3), (53, .aload_n 0, 1), (54, .iconst 0, 1), (55, .putfield 362, 3), (58, .aload_n 0, 1), (59, .invokevirtual 711, 3), (62, .istore_n 1, 1), (63, .aload_n 0, 1), (64, .getfield 270, 3), (67, .ifCond .ne 15, 3), (70, .iload_n 1, 1), (71, .iconst 3, 1), (72, .if_icmp .ge 10, 3), (75, .aload_n 0, 1), (76, .invokevirtual 365, 3), (79, .goto 14, 3), (82, .aload_n 0, 1), (83, .getfield 270, 3), (86, .ifCond .ne 7, 3), (89, .aload_n 0, 1), (90, .invokevirtual 368, 3), (93, .aload_n 0, 1), (94, .getfield 270, 3), (97, .ifCond .ne 20, 3), (100, .aload_n 0, 1), (101, .invokevirtual 282, 3), (104, .iconst (-1), 1), (105, .if_icmp .eq 12, 3), (108, .aload_n 0, 1), (109, .iconst 1, 1), (110, .aload_n 0, 1), (111, .getfield 276, 3), (114, .invokevirtual 300, 3), (117, .aload_n 0, 1), (118, .aload_n 0, 1), (119, .getfield 270, 3), (122, .putfield 397, 3), (125, .aload_n 0, 1), (126, .aload_n 0, 1), (127, .getfield 273, 3), (130, .putfield 13, 3), (133, .aload_n 0, 1), (134, .getfield 270, 3), (137, .ifCond .eq 7, 3), (140, .ldc2_w 714, 3), (143, .lreturn, 1), (144, .aload_n 0, 1), (145, .iload_n 1, 1), (146, .iconst 2, 1), (147, .if_icmp .ge 9, 3), (150, .ldc2_w 706, 3), (153, .goto 4, 3), (156, .lconst 0, 1), (157, .putfield 703, 3), (160, .aload_n 0, 1), (161, .iconst 1, 1), (162, .putfield 708, 3), (165, .iconst 0, 1), (166, .istore_n 2, 1), (167, .iload_n 2, 1), (168, .aload_n 0, 1), (169, .invokevirtual 419, 3), (172, .if_icmp .ge 30, 3), (175, .aload_n 0, 1), (176, .iload_n 2, 1), (177, .putfield 458, 3), (180, .aload_n 0, 1), (181, .iload_n 2, 1), (182, .putfield 461, 3), (185, .aload_n 0, 1), (186, .iload_n 1, 1), (187, .aload_n 0, 1), (188, .iload_n 2, 1), (189, .invokevirtual 716, 3), (192, .iload_n 2, 1), (193, .invokevirtual 719, 3), (196, .iinc 2 1, 3), (199, .goto (-32), 3), (202, .aload_n 0, 1), (203, .getfield 703, 3), (206, .lreturn, 1)]
set_option maxRecDepth 100000 in
theorem tkX12_ask : ∀ q ∈ tX12_ask, decode cX12_ask q.1 = .ok q.2 := by decide +kernel
theorem vmX12_ask : zVM yX12_ask cX12_ask 3 (Option.some .long) 0 12 := ⟨kX12_ask, q_2248, q_2249, q_160, ⟨_, rfl, rfl⟩, by decide +kernel, by decide⟩
def X12_ask_J202 (v0 : Nat) : zM := z_gl 12 112 v0 fun x1 => z_ret (some (.long x1))
set_option maxHeartbeats 2000000 in
set_option maxRecDepth 20000 in
theorem coX12_ask_J202 (l : Launch) (e : Nat) (he : 9 ≤ e) (v0 : Nat) : zCo l (e + 1) 0 0 iX12_ask 202 [(0, .ref v0)] [] (X12_ask_J202 v0) := by
  unfold X12_ask_J202
  refine zco_p tkX12_ask 108 1 (pc' := 203) (L' := [(0, .ref v0)]) (S' := [.ref v0]) rfl ?_
  refine zco_gl fl_12_703 rfl (zdk (cc := cX12_ask) (q := (203, .getfield 703, 3)) tkX12_ask 109 rfl) (fun x1 => ?_)
  exact zco_lret rfl rfl rfl (zdk (cc := cX12_ask) (q := (206, .lreturn, 1)) tkX12_ask 110 rfl)
def X12_ask_B167 (v0 : Nat) (v1 : Int32) (r167 : Int32 → zM) (v2 : Int32) : zM := z_rc 12 v0 (z_ci (X12_peopleMany v0) fun y1 => z_if (y1 ≤ v2) (X12_ask_J202 v0)
   (z_pi 12 56 v0 v2 (z_pi 12 57 v0 v2 (z_rc 12 v0 (z_cl (X12_qTold v0 v2) fun y2 => z_rc 12 v0 (z_cv (X12_qTakes v0 v1 y2 v2) (r167 (v2 + 1))))))))
set_option maxHeartbeats 2000000 in
set_option maxRecDepth 20000 in
theorem coX12_ask_B167 (l : Launch) (e : Nat) (he : 9 ≤ e) (v0 : Nat) (v1 : Int32) (r167 : Int32 → zM) (hr167 : ∀ x : Int32, zCo l (e + 1) 0 0 iX12_ask 167 [(0, .ref v0), (1, .int v1), (2, .int x)] [] (r167 x)) (v2 : Int32) : zCo l (e + 1) 0 0 iX12_ask 167 [(0, .ref v0), (1, .int v1), (2, .int v2)] [] (X12_ask_B167 v0 v1 r167 v2) := by
  unfold X12_ask_B167
  refine zco_p tkX12_ask 89 2 (pc' := 169) (L' := [(0, .ref v0), (1, .int v1), (2, .int v2)]) (S' := [.ref v0, .int v2]) rfl ?_
  refine zco_Vi (rc := 0) (rs := 0) (mc := 0) (ms := 0) (As := []) (S := [.int v2]) vmX12_peopleMany (mtX12_peopleMany l e (by omega) v0) q_1938 rfl rfl (Nat.le_of_ble_eq_true rfl) (zdk (cc := cX12_ask) (q := (169, .invokevirtual 419, 3)) tkX12_ask 91 rfl) (fun y1 => ?_)
  refine zco_icmp_ge (tgt := 202) (zdk (cc := cX12_ask) (q := (172, .if_icmp .ge 30, 3)) tkX12_ask 92 rfl) rfl ?_ ?_
  · exact zco_sub [0] rfl (coX12_ask_J202 l e he v0)
  · refine zco_p tkX12_ask 93 2 (pc' := 177) (L' := [(0, .ref v0), (1, .int v1), (2, .int v2)]) (S' := [.int v2, .ref v0]) rfl ?_
    refine zco_pi fl_12_458 rfl rfl (zdk (cc := cX12_ask) (q := (177, .putfield 458, 3)) tkX12_ask 95 rfl) ?_
    refine zco_p tkX12_ask 96 2 (pc' := 182) (L' := [(0, .ref v0), (1, .int v1), (2, .int v2)]) (S' := [.int v2, .ref v0]) rfl ?_
    refine zco_pi fl_12_461 rfl rfl (zdk (cc := cX12_ask) (q := (182, .putfield 461, 3)) tkX12_ask 98 rfl) ?_
    refine zco_p tkX12_ask 99 4 (pc' := 189) (L' := [(0, .ref v0), (1, .int v1), (2, .int v2)]) (S' := [.int v2, .ref v0, .int v1, .ref v0]) rfl ?_
    refine zco_Vl (rc := 0) (rs := 0) (mc := 0) (ms := 0) (As := [.int v2]) (S := [.int v1, .ref v0]) vmX12_qTold (mtX12_qTold l e (by omega) v0 v2) q_2257 rfl rfl (Nat.le_of_ble_eq_true rfl) (zdk (cc := cX12_ask) (q := (189, .invokevirtual 716, 3)) tkX12_ask 103 rfl) (fun y2 => ?_)
    refine zco_p tkX12_ask 104 1 (pc' := 193) (L' := [(0, .ref v0), (1, .int v1), (2, .int v2)]) (S' := [.int v2, .long y2, .int v1, .ref v0]) rfl ?_
    refine zco_Vv (rc := 0) (rs := 0) (mc := 0) (ms := 0) (As := [.int v1, .long y2, .int v2]) (S := []) vmX12_qTakes (mtX12_qTakes l e (by omega) v0 v1 y2 v2) q_2265 rfl rfl (Nat.le_of_ble_eq_true rfl) (zdk (cc := cX12_ask) (q := (193, .invokevirtual 719, 3)) tkX12_ask 105 rfl) ?_
    refine zco_p tkX12_ask 106 2 (pc' := 167) (L' := [(2, .int (v2 + 1)), (0, .ref v0), (1, .int v1)]) (S' := []) rfl ?_
    exact zco_sub [1, 2, 0] rfl (hr167 (v2 + 1))
def X12_ask_J157 (v0 : Nat) (v1 : Int32) (s0 : Int64) (s1 : Nat) : zM := z_pl 12 112 s1 s0 (z_pb 12 113 v0 1 (z_fix (fun r x => X12_ask_B167 v0 v1 r x) zFU 0))
set_option maxHeartbeats 2000000 in
set_option maxRecDepth 20000 in
theorem coX12_ask_J157 (l : Launch) (e : Nat) (he : 9 ≤ e) (v0 : Nat) (v1 : Int32) (s0 : Int64) (s1 : Nat) : zCo l (e + 1) 0 0 iX12_ask 157 [(0, .ref v0), (1, .int v1)] [.long s0, .ref s1] (X12_ask_J157 v0 v1 s0 s1) := by
  unfold X12_ask_J157
  refine zco_pl fl_12_703 rfl rfl (zdk (cc := cX12_ask) (q := (157, .putfield 703, 3)) tkX12_ask 83 rfl) ?_
  refine zco_p tkX12_ask 84 2 (pc' := 162) (L' := [(0, .ref v0), (1, .int v1)]) (S' := [.int 1, .ref v0]) rfl ?_
  refine zco_pb fl_12_708 rfl rfl (zdk (cc := cX12_ask) (q := (162, .putfield 708, 3)) tkX12_ask 86 rfl) ?_
  refine zco_p tkX12_ask 87 2 (pc' := 167) (L' := [(2, .int 0), (0, .ref v0), (1, .int v1)]) (S' := []) rfl ?_
  exact zco_sub [1, 2, 0] rfl (zco_fix (Lf := fun x : Int32 => [(0, .ref v0), (1, .int v1), (2, .int x)]) (Sf := fun _ => []) (fun r hr x => coX12_ask_B167 l e he v0 v1 r hr x) zFU 0)
def X12_ask_J117 (v0 : Nat) (v1 : Int32) : zM := z_gi 12 5 v0 fun x1 => z_pi 12 7 v0 x1 (z_gi 12 6 v0 fun x2 => z_pi 12 8 v0 x2 (z_gi 12 5 v0 fun x3 => z_if (x3 = 0) (z_if (2 ≤ v1) (X12_ask_J157 v0 v1 0 v0)
   (X12_ask_J157 v0 v1 ((-1)) v0))
   (z_ret (some (.long ((-1000000000000000)))))))
set_option maxHeartbeats 2000000 in
set_option maxRecDepth 20000 in
theorem coX12_ask_J117 (l : Launch) (e : Nat) (he : 9 ≤ e) (v0 : Nat) (v1 : Int32) : zCo l (e + 1) 0 0 iX12_ask 117 [(0, .ref v0), (1, .int v1)] [] (X12_ask_J117 v0 v1) := by
  unfold X12_ask_J117
  refine zco_p tkX12_ask 63 2 (pc' := 119) (L' := [(0, .ref v0), (1, .int v1)]) (S' := [.ref v0, .ref v0]) rfl ?_
  refine zco_gi fl_12_270 rfl (zdk (cc := cX12_ask) (q := (119, .getfield 270, 3)) tkX12_ask 65 rfl) (fun x1 => ?_)
  refine zco_pi fl_12_397 rfl rfl (zdk (cc := cX12_ask) (q := (122, .putfield 397, 3)) tkX12_ask 66 rfl) ?_
  refine zco_p tkX12_ask 67 2 (pc' := 127) (L' := [(0, .ref v0), (1, .int v1)]) (S' := [.ref v0, .ref v0]) rfl ?_
  refine zco_gi fl_12_273 rfl (zdk (cc := cX12_ask) (q := (127, .getfield 273, 3)) tkX12_ask 69 rfl) (fun x2 => ?_)
  refine zco_pi fl_12_13 rfl rfl (zdk (cc := cX12_ask) (q := (130, .putfield 13, 3)) tkX12_ask 70 rfl) ?_
  refine zco_p tkX12_ask 71 1 (pc' := 134) (L' := [(0, .ref v0), (1, .int v1)]) (S' := [.ref v0]) rfl ?_
  refine zco_gi fl_12_270 rfl (zdk (cc := cX12_ask) (q := (134, .getfield 270, 3)) tkX12_ask 72 rfl) (fun x3 => ?_)
  refine zco_if_eq (tgt := 144) (zdk (cc := cX12_ask) (q := (137, .ifCond .eq 7, 3)) tkX12_ask 73 rfl) rfl ?_ ?_
  · refine zco_p tkX12_ask 76 3 (pc' := 147) (L' := [(0, .ref v0), (1, .int v1)]) (S' := [.int 2, .int v1, .ref v0]) rfl ?_
    refine zco_icmp_ge (tgt := 156) (zdk (cc := cX12_ask) (q := (147, .if_icmp .ge 9, 3)) tkX12_ask 79 rfl) rfl ?_ ?_
    · refine zco_p tkX12_ask 82 1 (pc' := 157) (L' := [(0, .ref v0), (1, .int v1)]) (S' := [.long 0, .ref v0]) rfl ?_
      exact zco_sub [0, 1] rfl (coX12_ask_J157 l e he v0 v1 0 v0)
    · refine zco_ldc2 q_2256 (zdk (cc := cX12_ask) (q := (150, .ldc2_w 706, 3)) tkX12_ask 80 rfl) ?_
      refine zco_p tkX12_ask 81 1 (pc' := 157) (L' := [(0, .ref v0), (1, .int v1)]) (S' := [.long ((-1)), .ref v0]) rfl ?_
      exact zco_sub [0, 1] rfl (coX12_ask_J157 l e he v0 v1 ((-1)) v0)
  · refine zco_ldc2 q_2255 (zdk (cc := cX12_ask) (q := (140, .ldc2_w 714, 3)) tkX12_ask 74 rfl) ?_
    exact zco_lret rfl rfl rfl (zdk (cc := cX12_ask) (q := (143, .lreturn, 1)) tkX12_ask 75 rfl)
def X12_ask_J93 (v0 : Nat) (v1 : Int32) : zM := z_gi 12 5 v0 fun x1 => z_if (x1 = 0) (z_rc 12 v0 (z_ci (X12_look v0) fun y2 => z_if (y2 = ((-1))) (X12_ask_J117 v0 v1)
   (z_gi 12 2 v0 fun x3 => z_rc 12 v0 (z_cv (X12_fail v0 1 x3) (X12_ask_J117 v0 v1)))))
   (X12_ask_J117 v0 v1)
set_option maxHeartbeats 2000000 in
set_option maxRecDepth 20000 in
theorem coX12_ask_J93 (l : Launch) (e : Nat) (he : 9 ≤ e) (v0 : Nat) (v1 : Int32) : zCo l (e + 1) 0 0 iX12_ask 93 [(0, .ref v0), (1, .int v1)] [] (X12_ask_J93 v0 v1) := by
  unfold X12_ask_J93
  refine zco_p tkX12_ask 51 1 (pc' := 94) (L' := [(0, .ref v0), (1, .int v1)]) (S' := [.ref v0]) rfl ?_
  refine zco_gi fl_12_270 rfl (zdk (cc := cX12_ask) (q := (94, .getfield 270, 3)) tkX12_ask 52 rfl) (fun x1 => ?_)
  refine zco_if_ne (tgt := 117) (zdk (cc := cX12_ask) (q := (97, .ifCond .ne 20, 3)) tkX12_ask 53 rfl) rfl ?_ ?_
  · exact zco_sub [0, 1] rfl (coX12_ask_J117 l e he v0 v1)
  · refine zco_p tkX12_ask 54 1 (pc' := 101) (L' := [(0, .ref v0), (1, .int v1)]) (S' := [.ref v0]) rfl ?_
    refine zco_Vi (rc := 0) (rs := 0) (mc := 0) (ms := 0) (As := []) (S := []) vmX12_look (mtX12_look l e (by omega) v0) q_1749 rfl rfl (Nat.le_of_ble_eq_true rfl) (zdk (cc := cX12_ask) (q := (101, .invokevirtual 282, 3)) tkX12_ask 55 rfl) (fun y2 => ?_)
    refine zco_p tkX12_ask 56 1 (pc' := 105) (L' := [(0, .ref v0), (1, .int v1)]) (S' := [.int ((-1)), .int y2]) rfl ?_
    refine zco_icmp_eq (tgt := 117) (zdk (cc := cX12_ask) (q := (105, .if_icmp .eq 12, 3)) tkX12_ask 57 rfl) rfl ?_ ?_
    · exact zco_sub [0, 1] rfl (coX12_ask_J117 l e he v0 v1)
    · refine zco_p tkX12_ask 58 3 (pc' := 111) (L' := [(0, .ref v0), (1, .int v1)]) (S' := [.ref v0, .int 1, .ref v0]) rfl ?_
      refine zco_gi fl_12_276 rfl (zdk (cc := cX12_ask) (q := (111, .getfield 276, 3)) tkX12_ask 61 rfl) (fun x3 => ?_)
      refine zco_Vv (rc := 0) (rs := 0) (mc := 0) (ms := 0) (As := [.int 1, .int x3]) (S := []) vmX12_fail (mtX12_fail l e (by omega) v0 1 x3) q_1757 rfl rfl (Nat.le_of_ble_eq_true rfl) (zdk (cc := cX12_ask) (q := (114, .invokevirtual 300, 3)) tkX12_ask 62 rfl) ?_
      exact zco_sub [0, 1] rfl (coX12_ask_J117 l e he v0 v1)
def X12_ask_J82 (v0 : Nat) (v1 : Int32) : zM := z_gi 12 5 v0 fun x1 => z_if (x1 = 0) (z_rc 12 v0 (z_cv (X12_qSums v0) (X12_ask_J93 v0 v1)))
   (X12_ask_J93 v0 v1)
set_option maxHeartbeats 2000000 in
set_option maxRecDepth 20000 in
theorem coX12_ask_J82 (l : Launch) (e : Nat) (he : 9 ≤ e) (v0 : Nat) (v1 : Int32) : zCo l (e + 1) 0 0 iX12_ask 82 [(0, .ref v0), (1, .int v1)] [] (X12_ask_J82 v0 v1) := by
  unfold X12_ask_J82
  refine zco_p tkX12_ask 46 1 (pc' := 83) (L' := [(0, .ref v0), (1, .int v1)]) (S' := [.ref v0]) rfl ?_
  refine zco_gi fl_12_270 rfl (zdk (cc := cX12_ask) (q := (83, .getfield 270, 3)) tkX12_ask 47 rfl) (fun x1 => ?_)
  refine zco_if_ne (tgt := 93) (zdk (cc := cX12_ask) (q := (86, .ifCond .ne 7, 3)) tkX12_ask 48 rfl) rfl ?_ ?_
  · exact zco_sub [0, 1] rfl (coX12_ask_J93 l e he v0 v1)
  · refine zco_p tkX12_ask 49 1 (pc' := 90) (L' := [(0, .ref v0), (1, .int v1)]) (S' := [.ref v0]) rfl ?_
    refine zco_Vv (rc := 0) (rs := 0) (mc := 0) (ms := 0) (As := []) (S := []) vmX12_qSums (mtX12_qSums l e (by omega) v0) q_1832 rfl rfl (Nat.le_of_ble_eq_true rfl) (zdk (cc := cX12_ask) (q := (90, .invokevirtual 368, 3)) tkX12_ask 50 rfl) ?_
    exact zco_sub [0, 1] rfl (coX12_ask_J93 l e he v0 v1)
def X12_ask (v0 : Nat) : zM := z_gi 12 1 v0 fun x1 => z_pi 12 3 v0 x1 (z_pi 12 1 v0 0 (z_pi 12 2 v0 0 (z_pi 12 4 v0 ((-1)) (z_pi 12 5 v0 0 (z_pi 12 6 v0 ((-1)) (z_pi 12 51 v0 3 (z_pi 12 105 v0 0 (z_pi 12 107 v0 0 (z_pi 12 108 v0 0 (z_pi 12 109 v0 0 (z_rc 12 v0 (z_ci (X12_qKind v0) fun y2 => z_gi 12 5 v0 fun x3 => z_if (x3 = 0) (z_if (3 ≤ y2) (X12_ask_J82 v0 y2)
   (z_rc 12 v0 (z_cv (X12_qTest v0) (X12_ask_J93 v0 y2))))
   (X12_ask_J82 v0 y2)))))))))))))
set_option maxHeartbeats 2000000 in
set_option maxRecDepth 20000 in
theorem coX12_ask (l : Launch) (e : Nat) (he : 9 ≤ e) (v0 : Nat) : zCo l (e + 1) 0 0 iX12_ask 0 [(0, .ref v0)] [] (X12_ask v0) := by
  unfold X12_ask
  refine zco_p tkX12_ask 0 2 (pc' := 2) (L' := [(0, .ref v0)]) (S' := [.ref v0, .ref v0]) rfl ?_
  refine zco_gi fl_12_267 rfl (zdk (cc := cX12_ask) (q := (2, .getfield 267, 3)) tkX12_ask 2 rfl) (fun x1 => ?_)
  refine zco_pi fl_12_279 rfl rfl (zdk (cc := cX12_ask) (q := (5, .putfield 279, 3)) tkX12_ask 3 rfl) ?_
  refine zco_p tkX12_ask 4 2 (pc' := 10) (L' := [(0, .ref v0)]) (S' := [.int 0, .ref v0]) rfl ?_
  refine zco_pi fl_12_267 rfl rfl (zdk (cc := cX12_ask) (q := (10, .putfield 267, 3)) tkX12_ask 6 rfl) ?_
  refine zco_p tkX12_ask 7 2 (pc' := 15) (L' := [(0, .ref v0)]) (S' := [.int 0, .ref v0]) rfl ?_
  refine zco_pi fl_12_276 rfl rfl (zdk (cc := cX12_ask) (q := (15, .putfield 276, 3)) tkX12_ask 9 rfl) ?_
  refine zco_p tkX12_ask 10 2 (pc' := 20) (L' := [(0, .ref v0)]) (S' := [.int ((-1)), .ref v0]) rfl ?_
  refine zco_pi fl_12_290 rfl rfl (zdk (cc := cX12_ask) (q := (20, .putfield 290, 3)) tkX12_ask 12 rfl) ?_
  refine zco_p tkX12_ask 13 2 (pc' := 25) (L' := [(0, .ref v0)]) (S' := [.int 0, .ref v0]) rfl ?_
  refine zco_pi fl_12_270 rfl rfl (zdk (cc := cX12_ask) (q := (25, .putfield 270, 3)) tkX12_ask 15 rfl) ?_
  refine zco_p tkX12_ask 16 2 (pc' := 30) (L' := [(0, .ref v0)]) (S' := [.int ((-1)), .ref v0]) rfl ?_
  refine zco_pi fl_12_273 rfl rfl (zdk (cc := cX12_ask) (q := (30, .putfield 273, 3)) tkX12_ask 18 rfl) ?_
  refine zco_p tkX12_ask 19 2 (pc' := 35) (L' := [(0, .ref v0)]) (S' := [.int 3, .ref v0]) rfl ?_
  refine zco_pi fl_12_328 rfl rfl (zdk (cc := cX12_ask) (q := (35, .putfield 328, 3)) tkX12_ask 21 rfl) ?_
  refine zco_p tkX12_ask 22 2 (pc' := 40) (L' := [(0, .ref v0)]) (S' := [.int 0, .ref v0]) rfl ?_
  refine zco_pi fl_12_353 rfl rfl (zdk (cc := cX12_ask) (q := (40, .putfield 353, 3)) tkX12_ask 24 rfl) ?_
  refine zco_p tkX12_ask 25 2 (pc' := 45) (L' := [(0, .ref v0)]) (S' := [.int 0, .ref v0]) rfl ?_
  refine zco_pi fl_12_356 rfl rfl (zdk (cc := cX12_ask) (q := (45, .putfield 356, 3)) tkX12_ask 27 rfl) ?_
  refine zco_p tkX12_ask 28 2 (pc' := 50) (L' := [(0, .ref v0)]) (S' := [.int 0, .ref v0]) rfl ?_
  refine zco_pi fl_12_359 rfl rfl (zdk (cc := cX12_ask) (q := (50, .putfield 359, 3)) tkX12_ask 30 rfl) ?_
  refine zco_p tkX12_ask 31 2 (pc' := 55) (L' := [(0, .ref v0)]) (S' := [.int 0, .ref v0]) rfl ?_
  refine zco_pi fl_12_362 rfl rfl (zdk (cc := cX12_ask) (q := (55, .putfield 362, 3)) tkX12_ask 33 rfl) ?_
  refine zco_p tkX12_ask 34 1 (pc' := 59) (L' := [(0, .ref v0)]) (S' := [.ref v0]) rfl ?_
  refine zco_Vi (rc := 0) (rs := 0) (mc := 0) (ms := 0) (As := []) (S := []) vmX12_qKind (mtX12_qKind l e (by omega) v0) q_2251 rfl rfl (Nat.le_of_ble_eq_true rfl) (zdk (cc := cX12_ask) (q := (59, .invokevirtual 711, 3)) tkX12_ask 35 rfl) (fun y2 => ?_)
  refine zco_p tkX12_ask 36 2 (pc' := 64) (L' := [(1, .int y2), (0, .ref v0)]) (S' := [.ref v0]) rfl ?_
  refine zco_gi fl_12_270 rfl (zdk (cc := cX12_ask) (q := (64, .getfield 270, 3)) tkX12_ask 38 rfl) (fun x3 => ?_)
  refine zco_if_ne (tgt := 82) (zdk (cc := cX12_ask) (q := (67, .ifCond .ne 15, 3)) tkX12_ask 39 rfl) rfl ?_ ?_
  · exact zco_sub [1, 0] rfl (coX12_ask_J82 l e he v0 y2)
  · refine zco_p tkX12_ask 40 2 (pc' := 72) (L' := [(1, .int y2), (0, .ref v0)]) (S' := [.int 3, .int y2]) rfl ?_
    refine zco_icmp_ge (tgt := 82) (zdk (cc := cX12_ask) (q := (72, .if_icmp .ge 10, 3)) tkX12_ask 42 rfl) rfl ?_ ?_
    · exact zco_sub [1, 0] rfl (coX12_ask_J82 l e he v0 y2)
    · refine zco_p tkX12_ask 43 1 (pc' := 76) (L' := [(1, .int y2), (0, .ref v0)]) (S' := [.ref v0]) rfl ?_
      refine zco_Vv (rc := 0) (rs := 0) (mc := 0) (ms := 0) (As := []) (S := []) vmX12_qTest (mtX12_qTest l e (by omega) v0) q_1816 rfl rfl (Nat.le_of_ble_eq_true rfl) (zdk (cc := cX12_ask) (q := (76, .invokevirtual 365, 3)) tkX12_ask 44 rfl) ?_
      refine zco_p tkX12_ask 45 1 (pc' := 93) (L' := [(1, .int y2), (0, .ref v0)]) (S' := []) rfl ?_
      exact zco_sub [1, 0] rfl (coX12_ask_J93 l e he v0 y2)
theorem mtX12_ask (l : Launch) (d : Nat) (hd : 10 ≤ d) (v0 : Nat) : zMet l d 0 0 yX12_ask cX12_ask 3 (Option.some .long) [.ref v0] (X12_ask v0) := by
  obtain ⟨e, rfl⟩ : ∃ e, d = e + 1 := ⟨d - 1, by omega⟩
  exact zmet_of (own := RX12) (ini := false) (by decide +kernel) rfl (fun _ => by contradiction) (Nat.le_of_ble_eq_true rfl) (coX12_ask l e (by omega) v0)
abbrev iX12_checked : zI := (RX12, cX12_checked, 4, (Option.some .int), false)
def tX12_checked : List (Nat × Instr × Nat) := [(0, .sipush 163, 3), (3, .istore_n 2, 1), (4, .iconst 0, 1), (5, .istore_n 3, 1), (6, .iload_n 3, 1), (7, .iload_n 1, 1), (8, .if_icmp .ge 21, 3), (11, .iconst 3, 1), (12, .iload_n 2, 1), (13, .imul, 1), (14, .aload_n 0, 1), (15, .iload_n 3, 1), (16, .iaload, 1), (17, .iadd, 1), (18, .sipush 251, 3), (21, .irem, 1), (22, .istore_n 2, 1), (23, .iinc 3 1, 3), (26, .goto (-20), 3), (29, .iload_n 2, 1), (30, .ireturn, 1)]
set_option maxRecDepth 100000 in
theorem tkX12_checked : ∀ q ∈ tX12_checked, decode cX12_checked q.1 = .ok q.2 := by decide +kernel
theorem vmX12_checked : zSM yX12_checked cX12_checked 4 (Option.some .int) 2 := ⟨kX12_checked, q_2290, q_160, by decide +kernel, by decide⟩
def X12_checked_B6 (v0 : Nat) (v1 : Int32) (r6 : Int32 × Int32 → zM) (v2 : Int32) (v3 : Int32) : zM := z_if (v1 ≤ v3) (z_ret (some (.int v2)))
   (z_la 20 v0 v3 fun x1 => z_ck (¬ 251 = 0) (r6 (((3 * v2) + x1) - ((3 * v2) + x1) / 251 * 251, v3 + 1)))
set_option maxHeartbeats 2000000 in
set_option maxRecDepth 20000 in
theorem coX12_checked_B6 (l : Launch) (e : Nat) (he : 0 ≤ e) (v0 : Nat) (v1 : Int32) (r6 : Int32 × Int32 → zM) (hr6 : ∀ x : Int32 × Int32, zCo l (e + 1) 0 0 iX12_checked 6 [(0, .ref v0), (1, .int v1), (2, .int x.1), (3, .int x.2)] [] (r6 x)) (v2 : Int32) (v3 : Int32) : zCo l (e + 1) 0 0 iX12_checked 6 [(0, .ref v0), (1, .int v1), (2, .int v2), (3, .int v3)] [] (X12_checked_B6 v0 v1 r6 v2 v3) := by
  unfold X12_checked_B6
  refine zco_p tkX12_checked 4 2 (pc' := 8) (L' := [(0, .ref v0), (1, .int v1), (2, .int v2), (3, .int v3)]) (S' := [.int v1, .int v3]) rfl ?_
  refine zco_icmp_ge (tgt := 29) (zdk (cc := cX12_checked) (q := (8, .if_icmp .ge 21, 3)) tkX12_checked 6 rfl) rfl ?_ ?_
  · refine zco_p tkX12_checked 19 1 (pc' := 30) (L' := [(0, .ref v0), (1, .int v1), (2, .int v2), (3, .int v3)]) (S' := [.int v2]) rfl ?_
    exact zco_iret rfl rfl rfl (zdk (cc := cX12_checked) (q := (30, .ireturn, 1)) tkX12_checked 20 rfl)
  · refine zco_p tkX12_checked 7 5 (pc' := 16) (L' := [(0, .ref v0), (1, .int v1), (2, .int v2), (3, .int v3)]) (S' := [.int v3, .ref v0, .int (3 * v2)]) rfl ?_
    refine zco_iaload (zdk (cc := cX12_checked) (q := (16, .iaload, 1)) tkX12_checked 12 rfl) (fun x1 => ?_)
    refine zco_p tkX12_checked 13 2 (pc' := 21) (L' := [(0, .ref v0), (1, .int v1), (2, .int v2), (3, .int v3)]) (S' := [.int 251, .int ((3 * v2) + x1)]) rfl ?_
    refine zco_irem (zdk (cc := cX12_checked) (q := (21, .irem, 1)) tkX12_checked 15 rfl) ?_
    refine zco_p tkX12_checked 16 3 (pc' := 6) (L' := [(3, .int (v3 + 1)), (2, .int (((3 * v2) + x1) - ((3 * v2) + x1) / 251 * 251)), (0, .ref v0), (1, .int v1)]) (S' := []) rfl ?_
    exact zco_sub [2, 3, 1, 0] rfl (hr6 (((3 * v2) + x1) - ((3 * v2) + x1) / 251 * 251, v3 + 1))
def X12_checked (v0 : Nat) (v1 : Int32) : zM := z_fix (fun r x => X12_checked_B6 v0 v1 r x.1 x.2) zFU (163, 0)
set_option maxHeartbeats 2000000 in
set_option maxRecDepth 20000 in
theorem coX12_checked (l : Launch) (e : Nat) (he : 0 ≤ e) (v0 : Nat) (v1 : Int32) : zCo l (e + 1) 0 0 iX12_checked 0 [(0, .ref v0), (1, .int v1)] [] (X12_checked v0 v1) := by
  unfold X12_checked
  refine zco_p tkX12_checked 0 4 (pc' := 6) (L' := [(3, .int 0), (2, .int 163), (0, .ref v0), (1, .int v1)]) (S' := []) rfl ?_
  exact zco_sub [2, 3, 1, 0] rfl (zco_fix (Lf := fun x : Int32 × Int32 => [(0, .ref v0), (1, .int v1), (2, .int x.1), (3, .int x.2)]) (Sf := fun _ => []) (fun r hr x => coX12_checked_B6 l e he v0 v1 r hr x.1 x.2) zFU (163, 0))
theorem mtX12_checked (l : Launch) (d : Nat) (hd : 1 ≤ d) (v0 : Nat) (v1 : Int32) : zMet l d 0 0 yX12_checked cX12_checked 4 (Option.some .int) [.ref v0, .int v1] (X12_checked v0 v1) := by
  obtain ⟨e, rfl⟩ : ∃ e, d = e + 1 := ⟨d - 1, by omega⟩
  exact zmet_of (own := RX12) (ini := false) (by decide +kernel) rfl (fun _ => by contradiction) (Nat.le_of_ble_eq_true rfl) (coX12_checked l e (by omega) v0 v1)
abbrev iX12_writes : zI := (RX12, cX12_writes, 2, (Option.none : Option FieldType), false)
def tX12_writes : List (Nat × Instr × Nat) := [(0, .aload_n 0, 1), (1, .getfield 264, 3), (4, .aload_n 0, 1), (5, .getfield 723, 3), (8, .iload_n 1, 1), (9, .iastore, 1), (10, .aload_n 0, 1), (11, .dup, 1), (12, .getfield 723, 3), (15, .iconst 1, 1), (16, .iadd, 1), (17, .putfield 723, 3), (20, .return_, 1)]
set_option maxRecDepth 100000 in
theorem tkX12_writes : ∀ q ∈ tX12_writes, decode cX12_writes q.1 = .ok q.2 := by decide +kernel
theorem vmX12_writes : zVM yX12_writes cX12_writes 2 (Option.none : Option FieldType) 1 12 := ⟨kX12_writes, q_2287, q_139, q_160, ⟨_, rfl, rfl⟩, by decide +kernel, by decide⟩
def X12_writes (v0 : Nat) (v1 : Int32) : zM := z_gr 12 114 v0 fun x1 => z_gi 12 115 v0 fun x2 => z_sa 20 x1 x2 v1 (z_gi 12 115 v0 fun x3 => z_pi 12 115 v0 (x3 + 1) (z_ret none))
set_option maxHeartbeats 2000000 in
set_option maxRecDepth 20000 in
theorem coX12_writes (l : Launch) (e : Nat) (he : 0 ≤ e) (v0 : Nat) (v1 : Int32) : zCo l (e + 1) 0 0 iX12_writes 0 [(0, .ref v0), (1, .int v1)] [] (X12_writes v0 v1) := by
  unfold X12_writes
  refine zco_p tkX12_writes 0 1 (pc' := 1) (L' := [(0, .ref v0), (1, .int v1)]) (S' := [.ref v0]) rfl ?_
  refine zco_gr fl_12_264 rfl (zdk (cc := cX12_writes) (q := (1, .getfield 264, 3)) tkX12_writes 1 rfl) (fun x1 => ?_)
  refine zco_p tkX12_writes 2 1 (pc' := 5) (L' := [(0, .ref v0), (1, .int v1)]) (S' := [.ref v0, .ref x1]) rfl ?_
  refine zco_gi fl_12_723 rfl (zdk (cc := cX12_writes) (q := (5, .getfield 723, 3)) tkX12_writes 3 rfl) (fun x2 => ?_)
  refine zco_p tkX12_writes 4 1 (pc' := 9) (L' := [(0, .ref v0), (1, .int v1)]) (S' := [.int v1, .int x2, .ref x1]) rfl ?_
  refine zco_iastore (zdk (cc := cX12_writes) (q := (9, .iastore, 1)) tkX12_writes 5 rfl) ?_
  refine zco_p tkX12_writes 6 2 (pc' := 12) (L' := [(0, .ref v0), (1, .int v1)]) (S' := [.ref v0, .ref v0]) rfl ?_
  refine zco_gi fl_12_723 rfl (zdk (cc := cX12_writes) (q := (12, .getfield 723, 3)) tkX12_writes 8 rfl) (fun x3 => ?_)
  refine zco_p tkX12_writes 9 2 (pc' := 17) (L' := [(0, .ref v0), (1, .int v1)]) (S' := [.int (x3 + 1), .ref v0]) rfl ?_
  refine zco_pi fl_12_723 rfl rfl (zdk (cc := cX12_writes) (q := (17, .putfield 723, 3)) tkX12_writes 11 rfl) ?_
  exact zco_vret rfl rfl rfl (zdk (cc := cX12_writes) (q := (20, .return_, 1)) tkX12_writes 12 rfl)
theorem mtX12_writes (l : Launch) (d : Nat) (hd : 1 ≤ d) (v0 : Nat) (v1 : Int32) : zMet l d 0 0 yX12_writes cX12_writes 2 (Option.none : Option FieldType) [.ref v0, .int v1] (X12_writes v0 v1) := by
  obtain ⟨e, rfl⟩ : ∃ e, d = e + 1 := ⟨d - 1, by omega⟩
  exact zmet_of (own := RX12) (ini := false) (by decide +kernel) rfl (fun _ => by contradiction) (Nat.le_of_ble_eq_true rfl) (coX12_writes l e (by omega) v0 v1)
abbrev iX12_writesTwo : zI := (RX12, cX12_writesTwo, 2, (Option.none : Option FieldType), false)
def tX12_writesTwo : List (Nat × Instr × Nat) := [(0, .aload_n 0, 1), (1, .iload_n 1, 1), (2, .sipush 256, 3), (5, .idiv, 1), (6, .invokevirtual 726, 3), (9, .aload_n 0, 1), (10, .iload_n 1, 1), (11, .sipush 256, 3), (14, .irem, 1), (15, .invokevirtual 726, 3), (18, .return_, 1)]
set_option maxRecDepth 100000 in
theorem tkX12_writesTwo : ∀ q ∈ tX12_writesTwo, decode cX12_writesTwo q.1 = .ok q.2 := by decide +kernel
theorem vmX12_writesTwo : zVM yX12_writesTwo cX12_writesTwo 2 (Option.none : Option FieldType) 1 12 := ⟨kX12_writesTwo, q_2283, q_138, q_160, ⟨_, rfl, rfl⟩, by decide +kernel, by decide⟩
def X12_writesTwo (v0 : Nat) (v1 : Int32) : zM := z_ck (¬ 256 = 0) (z_rc 12 v0 (z_cv (X12_writes v0 (v1 / 256)) (z_ck (¬ 256 = 0) (z_rc 12 v0 (z_cv (X12_writes v0 (v1 - v1 / 256 * 256)) (z_ret none))))))
set_option maxHeartbeats 2000000 in
set_option maxRecDepth 20000 in
theorem coX12_writesTwo (l : Launch) (e : Nat) (he : 1 ≤ e) (v0 : Nat) (v1 : Int32) : zCo l (e + 1) 0 0 iX12_writesTwo 0 [(0, .ref v0), (1, .int v1)] [] (X12_writesTwo v0 v1) := by
  unfold X12_writesTwo
  refine zco_p tkX12_writesTwo 0 3 (pc' := 5) (L' := [(0, .ref v0), (1, .int v1)]) (S' := [.int 256, .int v1, .ref v0]) rfl ?_
  refine zco_idiv (zdk (cc := cX12_writesTwo) (q := (5, .idiv, 1)) tkX12_writesTwo 3 rfl) ?_
  refine zco_Vv (rc := 0) (rs := 0) (mc := 0) (ms := 0) (As := [.int (v1 / 256)]) (S := []) vmX12_writes (mtX12_writes l e (by omega) v0 (v1 / 256)) q_2285 rfl rfl (Nat.le_of_ble_eq_true rfl) (zdk (cc := cX12_writesTwo) (q := (6, .invokevirtual 726, 3)) tkX12_writesTwo 4 rfl) ?_
  refine zco_p tkX12_writesTwo 5 3 (pc' := 14) (L' := [(0, .ref v0), (1, .int v1)]) (S' := [.int 256, .int v1, .ref v0]) rfl ?_
  refine zco_irem (zdk (cc := cX12_writesTwo) (q := (14, .irem, 1)) tkX12_writesTwo 8 rfl) ?_
  refine zco_Vv (rc := 0) (rs := 0) (mc := 0) (ms := 0) (As := [.int (v1 - v1 / 256 * 256)]) (S := []) vmX12_writes (mtX12_writes l e (by omega) v0 (v1 - v1 / 256 * 256)) q_2285 rfl rfl (Nat.le_of_ble_eq_true rfl) (zdk (cc := cX12_writesTwo) (q := (15, .invokevirtual 726, 3)) tkX12_writesTwo 9 rfl) ?_
  exact zco_vret rfl rfl rfl (zdk (cc := cX12_writesTwo) (q := (18, .return_, 1)) tkX12_writesTwo 10 rfl)
theorem mtX12_writesTwo (l : Launch) (d : Nat) (hd : 2 ≤ d) (v0 : Nat) (v1 : Int32) : zMet l d 0 0 yX12_writesTwo cX12_writesTwo 2 (Option.none : Option FieldType) [.ref v0, .int v1] (X12_writesTwo v0 v1) := by
  obtain ⟨e, rfl⟩ : ∃ e, d = e + 1 := ⟨d - 1, by omega⟩
  exact zmet_of (own := RX12) (ini := false) (by decide +kernel) rfl (fun _ => by contradiction) (Nat.le_of_ble_eq_true rfl) (coX12_writesTwo l e (by omega) v0 v1)
abbrev iX12_twoAt : zI := (RX12, cX12_twoAt, 2, (Option.some .int), false)
def tX12_twoAt : List (Nat × Instr × Nat) := [(0, .sipush 256, 3), (3, .aload_n 0, 1), (4, .getfield 7, 3), (7, .iload_n 1, 1), (8, .iaload, 1), (9, .imul, 1), (10, .aload_n 0, 1), (11, .getfield 7, 3), (14, .iload_n 1, 1), (15, .iconst 1, 1), (16, .iadd, 1), (17, .iaload, 1), (18, .iadd, 1), (19, .ireturn, 1)]
set_option maxRecDepth 100000 in
theorem tkX12_twoAt : ∀ q ∈ tX12_twoAt, decode cX12_twoAt q.1 = .ok q.2 := by decide +kernel
theorem vmX12_twoAt : zVM yX12_twoAt cX12_twoAt 2 (Option.some .int) 1 12 := ⟨kX12_twoAt, q_2310, q_143, q_160, ⟨_, rfl, rfl⟩, by decide +kernel, by decide⟩
def X12_twoAt (v0 : Nat) (v1 : Int32) : zM := z_gr 12 0 v0 fun x1 => z_la 20 x1 v1 fun x2 => z_gr 12 0 v0 fun x3 => z_la 20 x3 (v1 + 1) fun x4 => z_ret (some (.int ((256 * x2) + x4)))
set_option maxHeartbeats 2000000 in
set_option maxRecDepth 20000 in
theorem coX12_twoAt (l : Launch) (e : Nat) (he : 0 ≤ e) (v0 : Nat) (v1 : Int32) : zCo l (e + 1) 0 0 iX12_twoAt 0 [(0, .ref v0), (1, .int v1)] [] (X12_twoAt v0 v1) := by
  unfold X12_twoAt
  refine zco_p tkX12_twoAt 0 2 (pc' := 4) (L' := [(0, .ref v0), (1, .int v1)]) (S' := [.ref v0, .int 256]) rfl ?_
  refine zco_gr fl_12_7 rfl (zdk (cc := cX12_twoAt) (q := (4, .getfield 7, 3)) tkX12_twoAt 2 rfl) (fun x1 => ?_)
  refine zco_p tkX12_twoAt 3 1 (pc' := 8) (L' := [(0, .ref v0), (1, .int v1)]) (S' := [.int v1, .ref x1, .int 256]) rfl ?_
  refine zco_iaload (zdk (cc := cX12_twoAt) (q := (8, .iaload, 1)) tkX12_twoAt 4 rfl) (fun x2 => ?_)
  refine zco_p tkX12_twoAt 5 2 (pc' := 11) (L' := [(0, .ref v0), (1, .int v1)]) (S' := [.ref v0, .int (256 * x2)]) rfl ?_
  refine zco_gr fl_12_7 rfl (zdk (cc := cX12_twoAt) (q := (11, .getfield 7, 3)) tkX12_twoAt 7 rfl) (fun x3 => ?_)
  refine zco_p tkX12_twoAt 8 3 (pc' := 17) (L' := [(0, .ref v0), (1, .int v1)]) (S' := [.int (v1 + 1), .ref x3, .int (256 * x2)]) rfl ?_
  refine zco_iaload (zdk (cc := cX12_twoAt) (q := (17, .iaload, 1)) tkX12_twoAt 11 rfl) (fun x4 => ?_)
  refine zco_p tkX12_twoAt 12 1 (pc' := 19) (L' := [(0, .ref v0), (1, .int v1)]) (S' := [.int ((256 * x2) + x4)]) rfl ?_
  exact zco_iret rfl rfl rfl (zdk (cc := cX12_twoAt) (q := (19, .ireturn, 1)) tkX12_twoAt 13 rfl)
theorem mtX12_twoAt (l : Launch) (d : Nat) (hd : 1 ≤ d) (v0 : Nat) (v1 : Int32) : zMet l d 0 0 yX12_twoAt cX12_twoAt 2 (Option.some .int) [.ref v0, .int v1] (X12_twoAt v0 v1) := by
  obtain ⟨e, rfl⟩ : ∃ e, d = e + 1 := ⟨d - 1, by omega⟩
  exact zmet_of (own := RX12) (ini := false) (by decide +kernel) rfl (fun _ => by contradiction) (Nat.le_of_ble_eq_true rfl) (coX12_twoAt l e (by omega) v0 v1)
abbrev iX12_octet : zI := (RX12, cX12_octet, 2, (Option.some .int), false)
def tX12_octet : List (Nat × Instr × Nat) := [(0, .iload_n 1, 1), (1, .ifCond .lt 20, 3), (4, .iload_n 1, 1), (5, .aload_n 0, 1), (6, .getfield 723, 3), (9, .if_icmp .ge 12, 3), (12, .aload_n 0, 1), (13, .getfield 264, 3), (16, .iload_n 1, 1), (17, .iaload, 1), (18, .goto 4, 3), (21, .iconst (-1), 1), (22, .ireturn, 1)]
set_option maxRecDepth 100000 in
theorem tkX12_octet : ∀ q ∈ tX12_octet, decode cX12_octet q.1 = .ok q.2 := by decide +kernel
theorem vmX12_octet : zVM yX12_octet cX12_octet 2 (Option.some .int) 1 12 := ⟨kX12_octet, q_2270, q_2271, q_160, ⟨_, rfl, rfl⟩, by decide +kernel, by decide⟩
def X12_octet (v0 : Nat) (v1 : Int32) : zM := z_if (v1 < 0) (z_ret (some (.int ((-1)))))
   (z_gi 12 115 v0 fun x1 => z_if (x1 ≤ v1) (z_ret (some (.int ((-1)))))
   (z_gr 12 114 v0 fun x2 => z_la 20 x2 v1 fun x3 => z_ret (some (.int x3))))
set_option maxHeartbeats 2000000 in
set_option maxRecDepth 20000 in
theorem coX12_octet (l : Launch) (e : Nat) (he : 0 ≤ e) (v0 : Nat) (v1 : Int32) : zCo l (e + 1) 0 0 iX12_octet 0 [(0, .ref v0), (1, .int v1)] [] (X12_octet v0 v1) := by
  unfold X12_octet
  refine zco_p tkX12_octet 0 1 (pc' := 1) (L' := [(0, .ref v0), (1, .int v1)]) (S' := [.int v1]) rfl ?_
  refine zco_if_lt (tgt := 21) (zdk (cc := cX12_octet) (q := (1, .ifCond .lt 20, 3)) tkX12_octet 1 rfl) rfl ?_ ?_
  · refine zco_p tkX12_octet 11 1 (pc' := 22) (L' := [(0, .ref v0), (1, .int v1)]) (S' := [.int ((-1))]) rfl ?_
    exact zco_iret rfl rfl rfl (zdk (cc := cX12_octet) (q := (22, .ireturn, 1)) tkX12_octet 12 rfl)
  · refine zco_p tkX12_octet 2 2 (pc' := 6) (L' := [(0, .ref v0), (1, .int v1)]) (S' := [.ref v0, .int v1]) rfl ?_
    refine zco_gi fl_12_723 rfl (zdk (cc := cX12_octet) (q := (6, .getfield 723, 3)) tkX12_octet 4 rfl) (fun x1 => ?_)
    refine zco_icmp_ge (tgt := 21) (zdk (cc := cX12_octet) (q := (9, .if_icmp .ge 12, 3)) tkX12_octet 5 rfl) rfl ?_ ?_
    · refine zco_p tkX12_octet 11 1 (pc' := 22) (L' := [(0, .ref v0), (1, .int v1)]) (S' := [.int ((-1))]) rfl ?_
      exact zco_iret rfl rfl rfl (zdk (cc := cX12_octet) (q := (22, .ireturn, 1)) tkX12_octet 12 rfl)
    · refine zco_p tkX12_octet 6 1 (pc' := 13) (L' := [(0, .ref v0), (1, .int v1)]) (S' := [.ref v0]) rfl ?_
      refine zco_gr fl_12_264 rfl (zdk (cc := cX12_octet) (q := (13, .getfield 264, 3)) tkX12_octet 7 rfl) (fun x2 => ?_)
      refine zco_p tkX12_octet 8 1 (pc' := 17) (L' := [(0, .ref v0), (1, .int v1)]) (S' := [.int v1, .ref x2]) rfl ?_
      refine zco_iaload (zdk (cc := cX12_octet) (q := (17, .iaload, 1)) tkX12_octet 9 rfl) (fun x3 => ?_)
      refine zco_p tkX12_octet 10 1 (pc' := 22) (L' := [(0, .ref v0), (1, .int v1)]) (S' := [.int x3]) rfl ?_
      exact zco_iret rfl rfl rfl (zdk (cc := cX12_octet) (q := (22, .ireturn, 1)) tkX12_octet 12 rfl)
theorem mtX12_octet (l : Launch) (d : Nat) (hd : 1 ≤ d) (v0 : Nat) (v1 : Int32) : zMet l d 0 0 yX12_octet cX12_octet 2 (Option.some .int) [.ref v0, .int v1] (X12_octet v0 v1) := by
  obtain ⟨e, rfl⟩ : ∃ e, d = e + 1 := ⟨d - 1, by omega⟩
  exact zmet_of (own := RX12) (ini := false) (by decide +kernel) rfl (fun _ => by contradiction) (Nat.le_of_ble_eq_true rfl) (coX12_octet l e (by omega) v0 v1)
abbrev iX12_status : zI := (RX12, cX12_status, 2, (Option.some .int), false)
def tX12_status : List (Nat × Instr × Nat) := [(0, .iload_n 1, 1), (1, .i2l, 1), (2, .lconst 0, 1), (3, .ldc2_w 331, 3), (6, .invokestatic 313, 3), (9, .ifCond .eq 12, 3), (12, .aload_n 0, 1), (13, .getfield 17, 3), (16, .iload_n 1, 1), (17, .iaload, 1), (18, .goto 4, 3), (21, .iconst (-1), 1), (22, .ireturn, 1)]
set_option maxRecDepth 100000 in
theorem tkX12_status : ∀ q ∈ tX12_status, decode cX12_status q.1 = .ok q.2 := by decide +kernel
theorem vmX12_status : zVM yX12_status cX12_status 2 (Option.some .int) 1 12 := ⟨kX12_status, q_2274, q_2275, q_160, ⟨_, rfl, rfl⟩, by decide +kernel, by decide⟩
def X12_status (v0 : Nat) (v1 : Int32) : zM := z_ci (X12_isIn v1.toInt64 0 5) fun y1 => z_if (y1 = 0) (z_ret (some (.int ((-1)))))
   (z_gr 12 9 v0 fun x2 => z_la 20 x2 v1 fun x3 => z_ret (some (.int x3)))
set_option maxHeartbeats 2000000 in
set_option maxRecDepth 20000 in
theorem coX12_status (l : Launch) (e : Nat) (he : 1 ≤ e) (v0 : Nat) (v1 : Int32) : zCo l (e + 1) 0 0 iX12_status 0 [(0, .ref v0), (1, .int v1)] [] (X12_status v0 v1) := by
  unfold X12_status
  refine zco_p tkX12_status 0 3 (pc' := 3) (L' := [(0, .ref v0), (1, .int v1)]) (S' := [.long 0, .long v1.toInt64]) rfl ?_
  refine zco_ldc2 q_1852 (zdk (cc := cX12_status) (q := (3, .ldc2_w 331, 3)) tkX12_status 3 rfl) ?_
  refine zco_Si (rc := 0) (rs := 0) (mc := 0) (ms := 0) (As := [.long v1.toInt64, .long 0, .long 5]) (S := []) vmX12_isIn (mtX12_isIn l e (by omega) v1.toInt64 0 5) q_1797 rfl rfl (Nat.le_of_ble_eq_true rfl) (zdk (cc := cX12_status) (q := (6, .invokestatic 313, 3)) tkX12_status 4 rfl) (fun y1 => ?_)
  refine zco_if_eq (tgt := 21) (zdk (cc := cX12_status) (q := (9, .ifCond .eq 12, 3)) tkX12_status 5 rfl) rfl ?_ ?_
  · refine zco_p tkX12_status 11 1 (pc' := 22) (L' := [(0, .ref v0), (1, .int v1)]) (S' := [.int ((-1))]) rfl ?_
    exact zco_iret rfl rfl rfl (zdk (cc := cX12_status) (q := (22, .ireturn, 1)) tkX12_status 12 rfl)
  · refine zco_p tkX12_status 6 1 (pc' := 13) (L' := [(0, .ref v0), (1, .int v1)]) (S' := [.ref v0]) rfl ?_
    refine zco_gr fl_12_17 rfl (zdk (cc := cX12_status) (q := (13, .getfield 17, 3)) tkX12_status 7 rfl) (fun x2 => ?_)
    refine zco_p tkX12_status 8 1 (pc' := 17) (L' := [(0, .ref v0), (1, .int v1)]) (S' := [.int v1, .ref x2]) rfl ?_
    refine zco_iaload (zdk (cc := cX12_status) (q := (17, .iaload, 1)) tkX12_status 9 rfl) (fun x3 => ?_)
    refine zco_p tkX12_status 10 1 (pc' := 22) (L' := [(0, .ref v0), (1, .int v1)]) (S' := [.int x3]) rfl ?_
    exact zco_iret rfl rfl rfl (zdk (cc := cX12_status) (q := (22, .ireturn, 1)) tkX12_status 12 rfl)
theorem mtX12_status (l : Launch) (d : Nat) (hd : 2 ≤ d) (v0 : Nat) (v1 : Int32) : zMet l d 0 0 yX12_status cX12_status 2 (Option.some .int) [.ref v0, .int v1] (X12_status v0 v1) := by
  obtain ⟨e, rfl⟩ : ∃ e, d = e + 1 := ⟨d - 1, by omega⟩
  exact zmet_of (own := RX12) (ini := false) (by decide +kernel) rfl (fun _ => by contradiction) (Nat.le_of_ble_eq_true rfl) (coX12_status l e (by omega) v0 v1)
abbrev iX12_image : zI := (RX12, cX12_image, 4, (Option.some .int), false)
def tX12_image : List (Nat × Instr × Nat) := [(0, .aload_n 0, 1), (1, .iconst 0, 1), (2, .putfield 723, 3), (5, .aload_n 0, 1), (6, .aload_n 0, 1), (7, .getfield 134, 3), (10, .iconst 0, 1), (11, .iaload, 1), (12, .invokevirtual 729, 3), (15, .aload_n 0, 1), (16, .aload_n 0, 1), (17, .getfield 134, 3), (20, .iconst 1, 1), (21, .iaload, 1), (22, .invokevirtual 726, 3), (25, .iconst 0, 1), (26, .istore_n 1, 1), (27, .iload_n 1, 1), (28, .iconst 2, 1), (29, .if_icmp .ge 52, 3), (32, .iconst 0, 1), (33, .istore_n 2, 1), (34, .iload_n 2, 1), (35, .aload_n 0, 1), (36, .iload_n 1, 1), (37, .invokevirtual 416, 3), (40, .if_icmp .ge 35, 3), (43, .aload_n 0, 1), (44, .aload_n 0, 1), (45, .bipush 6, 2), (47, .iload_n 1, 1), (48, .imul, 1), (49, .aload_n 0, 1), (50, .getfield 134, 3), (53, .iconst 2, 1), (54, .bipush 6, 2), (56, .iload_n 1, 1), (57, .imul, 1), (58, .iadd, 1), (59, .iload_n 2, 1), (60, .iadd, 1), (61, .iaload, 1), (62, .iadd, 1), (63, .invokevirtual 455, 3), (66, .invokevirtual 726, 3), (69, .iinc 2 1, 3), (72, .goto (-38), 3), (75, .iinc 1 1, 3), (78, .goto (-51), 3), (81, .iconst 0, 1), (82, .istore_n 1, 1), (83, .iload_n 1, 1), (84, .aload_n 0, 1), (85, .invokevirtual 419, 3), (88, .if_icmp .ge 105, 3), (91, .aload_n 0, 1), (92, .iload_n 1, 1), (93, .invokevirtual 429, 3), (96, .istore_n 2, 1), (97, .aload_n 0, 1), (98, .aload_n 0, 1), (99, .iload_n 1, 1), (100, .invokevirtual 521, 3), (103, .iconst (-1), 1), (104, .if_icmp .ne 9, 3), (107, .sipush 255, 3), (110, .goto 12, 3), (113, .aload_n 0, 1), (114, .aload_n 0, 1), (115, .iload_n 1, 1), (116, .invokevirtual 521, 3), (119, .invokevirtual 455, 3), (122, .invokevirtual 726, 3), (125, .aload_n 0, 1), (126, .aload_n 0, 1), (127, .iload_n 1, 1), (128, .invokevirtual 524, 3), (131, .invokevirtual 726, 3), (134, .iconst 0, 1), (135, .istore_n 3, 1), (136, .iload_n 3, 1), (137, .aload_n 0, 1), (138, .iconst 1, 1), (139, .aload_n 0, 1), (140, .iload_n 1, 1), (141, .invokevirtual 426, 3), (144, .isub, 1), (145, .invokevirtual 416, 3), (148, .if_icmp .ge 39, 3), (151, .aload_n 0, 1), (152, .aload_n 0, 1), (153, .getfield 134, 3), (156, .aload_n 0, 1), (157, .iload_n 2, 1), (158, .iload_n 3, 1), (159, .invokevirtual 432, 3), (162, .iaload, 1), (163, .invokevirtual 726, 3), (166, .aload_n 0, 1), (167, .aload_n 0, 1), (168, .getfield 134, 3), (171, .aload_n 0, 1), (172, .iload_n 2, 1), (173, .iload_n 3, 1), (174, .invokevirtual 435, 3), (177, .iaload, 1), (178, .invokevirtual 726, 3), (181, .iinc 3 1, 3), (184, .goto (-48), 3), (187, .iinc 1 1, 3), (190, .goto (-107), 3), (193, .aload_n 0, 1), (194, .aload_n 0, 1), (195, .getfield 264, 3), (198, .aload_n 0, 1), (199, .getfield 723, 3), (202, .invokestatic 732, 3), (205, .invokevirtual 726, 3), (208, .aload_n 0, 1), (209, .getfield 723, 3), (212, .ireturn, 1)]
set_option maxRecDepth 100000 in
theorem tkX12_image : ∀ q ∈ tX12_image, decode cX12_image q.1 = .ok q.2 := by decide +kernel
theorem vmX12_image : zVM yX12_image cX12_image 4 (Option.some .int) 0 12 := ⟨kX12_image, q_2278, q_2279, q_160, ⟨_, rfl, rfl⟩, by decide +kernel, by decide⟩
def X12_image_J193 (v0 : Nat) : zM := z_gr 12 114 v0 fun x1 => z_gi 12 115 v0 fun x2 => z_ci (X12_checked x1 x2) fun y3 => z_rc 12 v0 (z_cv (X12_writes v0 y3) (z_gi 12 115 v0 fun x4 => z_ret (some (.int x4))))
set_option maxHeartbeats 2000000 in
set_option maxRecDepth 20000 in
theorem coX12_image_J193 (l : Launch) (e : Nat) (he : 3 ≤ e) (v0 : Nat) : zCo l (e + 1) 0 0 iX12_image 193 [(0, .ref v0)] [] (X12_image_J193 v0) := by
  unfold X12_image_J193
  refine zco_p tkX12_image 111 2 (pc' := 195) (L' := [(0, .ref v0)]) (S' := [.ref v0, .ref v0]) rfl ?_
  refine zco_gr fl_12_264 rfl (zdk (cc := cX12_image) (q := (195, .getfield 264, 3)) tkX12_image 113 rfl) (fun x1 => ?_)
  refine zco_p tkX12_image 114 1 (pc' := 199) (L' := [(0, .ref v0)]) (S' := [.ref v0, .ref x1, .ref v0]) rfl ?_
  refine zco_gi fl_12_723 rfl (zdk (cc := cX12_image) (q := (199, .getfield 723, 3)) tkX12_image 115 rfl) (fun x2 => ?_)
  refine zco_Si (rc := 0) (rs := 0) (mc := 0) (ms := 0) (As := [.ref x1, .int x2]) (S := [.ref v0]) vmX12_checked (mtX12_checked l e (by omega) x1 x2) q_2289 rfl rfl (Nat.le_of_ble_eq_true rfl) (zdk (cc := cX12_image) (q := (202, .invokestatic 732, 3)) tkX12_image 116 rfl) (fun y3 => ?_)
  refine zco_Vv (rc := 0) (rs := 0) (mc := 0) (ms := 0) (As := [.int y3]) (S := []) vmX12_writes (mtX12_writes l e (by omega) v0 y3) q_2285 rfl rfl (Nat.le_of_ble_eq_true rfl) (zdk (cc := cX12_image) (q := (205, .invokevirtual 726, 3)) tkX12_image 117 rfl) ?_
  refine zco_p tkX12_image 118 1 (pc' := 209) (L' := [(0, .ref v0)]) (S' := [.ref v0]) rfl ?_
  refine zco_gi fl_12_723 rfl (zdk (cc := cX12_image) (q := (209, .getfield 723, 3)) tkX12_image 119 rfl) (fun x4 => ?_)
  exact zco_iret rfl rfl rfl (zdk (cc := cX12_image) (q := (212, .ireturn, 1)) tkX12_image 120 rfl)
def X12_image_J187 (r83 : Int32 → zM) (v0 : Nat) (v1 : Int32) : zM := r83 (v1 + 1)
set_option maxHeartbeats 2000000 in
set_option maxRecDepth 20000 in
theorem coX12_image_J187 (l : Launch) (e : Nat) (he : 3 ≤ e) (v0 : Nat) (v1 : Int32) (r83 : Int32 → zM) (hr83 : ∀ x : Int32, zCo l (e + 1) 0 0 iX12_image 83 [(0, .ref v0), (1, .int x)] [] (r83 x)) : zCo l (e + 1) 0 0 iX12_image 187 [(0, .ref v0), (1, .int v1)] [] (X12_image_J187 r83 v0 v1) := by
  unfold X12_image_J187
  refine zco_p tkX12_image 109 2 (pc' := 83) (L' := [(1, .int (v1 + 1)), (0, .ref v0)]) (S' := []) rfl ?_
  exact zco_sub [1, 0] rfl (hr83 (v1 + 1))
def X12_image_B136 (r83 : Int32 → zM) (v0 : Nat) (v1 : Int32) (v2 : Int32) (r136 : Int32 → zM) (v3 : Int32) : zM := z_rc 12 v0 (z_ci (X12_sideOf v0 v1) fun y1 => z_rc 12 v0 (z_ci (X12_sideMany v0 (1 - y1)) fun y2 => z_if (y2 ≤ v3) (X12_image_J187 r83 v0 v1)
   (z_gr 12 52 v0 fun x3 => z_rc 12 v0 (z_ci (X12_likingAt v0 v2 v3) fun y4 => z_la 20 x3 y4 fun x5 => z_rc 12 v0 (z_cv (X12_writes v0 x5) (z_gr 12 52 v0 fun x6 => z_rc 12 v0 (z_ci (X12_knowingAt v0 v2 v3) fun y7 => z_la 20 x6 y7 fun x8 => z_rc 12 v0 (z_cv (X12_writes v0 x8) (r136 (v3 + 1))))))))))
set_option maxHeartbeats 2000000 in
set_option maxRecDepth 20000 in
theorem coX12_image_B136 (l : Launch) (e : Nat) (he : 3 ≤ e) (v0 : Nat) (v1 : Int32) (v2 : Int32) (r83 : Int32 → zM) (hr83 : ∀ x : Int32, zCo l (e + 1) 0 0 iX12_image 83 [(0, .ref v0), (1, .int x)] [] (r83 x)) (r136 : Int32 → zM) (hr136 : ∀ x : Int32, zCo l (e + 1) 0 0 iX12_image 136 [(0, .ref v0), (1, .int v1), (2, .int v2), (3, .int x)] [] (r136 x)) (v3 : Int32) : zCo l (e + 1) 0 0 iX12_image 136 [(0, .ref v0), (1, .int v1), (2, .int v2), (3, .int v3)] [] (X12_image_B136 r83 v0 v1 v2 r136 v3) := by
  unfold X12_image_B136
  refine zco_p tkX12_image 80 5 (pc' := 141) (L' := [(0, .ref v0), (1, .int v1), (2, .int v2), (3, .int v3)]) (S' := [.int v1, .ref v0, .int 1, .ref v0, .int v3]) rfl ?_
  refine zco_Vi (rc := 0) (rs := 0) (mc := 0) (ms := 0) (As := [.int v1]) (S := [.int 1, .ref v0, .int v3]) vmX12_sideOf (mtX12_sideOf l e (by omega) v0 v1) q_1994 rfl rfl (Nat.le_of_ble_eq_true rfl) (zdk (cc := cX12_image) (q := (141, .invokevirtual 426, 3)) tkX12_image 85 rfl) (fun y1 => ?_)
  refine zco_p tkX12_image 86 1 (pc' := 145) (L' := [(0, .ref v0), (1, .int v1), (2, .int v2), (3, .int v3)]) (S' := [.int (1 - y1), .ref v0, .int v3]) rfl ?_
  refine zco_Vi (rc := 0) (rs := 0) (mc := 0) (ms := 0) (As := [.int (1 - y1)]) (S := [.int v3]) vmX12_sideMany (mtX12_sideMany l e (by omega) v0 (1 - y1)) q_1942 rfl rfl (Nat.le_of_ble_eq_true rfl) (zdk (cc := cX12_image) (q := (145, .invokevirtual 416, 3)) tkX12_image 87 rfl) (fun y2 => ?_)
  refine zco_icmp_ge (tgt := 187) (zdk (cc := cX12_image) (q := (148, .if_icmp .ge 39, 3)) tkX12_image 88 rfl) rfl ?_ ?_
  · exact zco_sub [0, 1] rfl (coX12_image_J187 l e he v0 v1 r83 hr83)
  · refine zco_p tkX12_image 89 2 (pc' := 153) (L' := [(0, .ref v0), (1, .int v1), (2, .int v2), (3, .int v3)]) (S' := [.ref v0, .ref v0]) rfl ?_
    refine zco_gr fl_12_134 rfl (zdk (cc := cX12_image) (q := (153, .getfield 134, 3)) tkX12_image 91 rfl) (fun x3 => ?_)
    refine zco_p tkX12_image 92 3 (pc' := 159) (L' := [(0, .ref v0), (1, .int v1), (2, .int v2), (3, .int v3)]) (S' := [.int v3, .int v2, .ref v0, .ref x3, .ref v0]) rfl ?_
    refine zco_Vi (rc := 0) (rs := 0) (mc := 0) (ms := 0) (As := [.int v2, .int v3]) (S := [.ref x3, .ref v0]) vmX12_likingAt (mtX12_likingAt l e (by omega) v0 v2 v3) q_2002 rfl rfl (Nat.le_of_ble_eq_true rfl) (zdk (cc := cX12_image) (q := (159, .invokevirtual 432, 3)) tkX12_image 95 rfl) (fun y4 => ?_)
    refine zco_iaload (zdk (cc := cX12_image) (q := (162, .iaload, 1)) tkX12_image 96 rfl) (fun x5 => ?_)
    refine zco_Vv (rc := 0) (rs := 0) (mc := 0) (ms := 0) (As := [.int x5]) (S := []) vmX12_writes (mtX12_writes l e (by omega) v0 x5) q_2285 rfl rfl (Nat.le_of_ble_eq_true rfl) (zdk (cc := cX12_image) (q := (163, .invokevirtual 726, 3)) tkX12_image 97 rfl) ?_
    refine zco_p tkX12_image 98 2 (pc' := 168) (L' := [(0, .ref v0), (1, .int v1), (2, .int v2), (3, .int v3)]) (S' := [.ref v0, .ref v0]) rfl ?_
    refine zco_gr fl_12_134 rfl (zdk (cc := cX12_image) (q := (168, .getfield 134, 3)) tkX12_image 100 rfl) (fun x6 => ?_)
    refine zco_p tkX12_image 101 3 (pc' := 174) (L' := [(0, .ref v0), (1, .int v1), (2, .int v2), (3, .int v3)]) (S' := [.int v3, .int v2, .ref v0, .ref x6, .ref v0]) rfl ?_
    refine zco_Vi (rc := 0) (rs := 0) (mc := 0) (ms := 0) (As := [.int v2, .int v3]) (S := [.ref x6, .ref v0]) vmX12_knowingAt (mtX12_knowingAt l e (by omega) v0 v2 v3) q_2010 rfl rfl (Nat.le_of_ble_eq_true rfl) (zdk (cc := cX12_image) (q := (174, .invokevirtual 435, 3)) tkX12_image 104 rfl) (fun y7 => ?_)
    refine zco_iaload (zdk (cc := cX12_image) (q := (177, .iaload, 1)) tkX12_image 105 rfl) (fun x8 => ?_)
    refine zco_Vv (rc := 0) (rs := 0) (mc := 0) (ms := 0) (As := [.int x8]) (S := []) vmX12_writes (mtX12_writes l e (by omega) v0 x8) q_2285 rfl rfl (Nat.le_of_ble_eq_true rfl) (zdk (cc := cX12_image) (q := (178, .invokevirtual 726, 3)) tkX12_image 106 rfl) ?_
    refine zco_p tkX12_image 107 2 (pc' := 136) (L' := [(3, .int (v3 + 1)), (0, .ref v0), (1, .int v1), (2, .int v2)]) (S' := []) rfl ?_
    exact zco_sub [1, 2, 3, 0] rfl (hr136 (v3 + 1))
def X12_image_J122 (r83 : Int32 → zM) (v0 : Nat) (v1 : Int32) (v2 : Int32) (s0 : Int32) (s1 : Nat) : zM := z_rc 12 s1 (z_cv (X12_writes s1 s0) (z_rc 12 v0 (z_ci (X12_waitedOf v0 v1) fun y1 => z_rc 12 v0 (z_cv (X12_writes v0 y1) (z_fix (fun r x => X12_image_B136 r83 v0 v1 v2 r x) zFU 0)))))
set_option maxHeartbeats 2000000 in
set_option maxRecDepth 20000 in
theorem coX12_image_J122 (l : Launch) (e : Nat) (he : 3 ≤ e) (v0 : Nat) (v1 : Int32) (v2 : Int32) (r83 : Int32 → zM) (hr83 : ∀ x : Int32, zCo l (e + 1) 0 0 iX12_image 83 [(0, .ref v0), (1, .int x)] [] (r83 x)) (s0 : Int32) (s1 : Nat) : zCo l (e + 1) 0 0 iX12_image 122 [(0, .ref v0), (1, .int v1), (2, .int v2)] [.int s0, .ref s1] (X12_image_J122 r83 v0 v1 v2 s0 s1) := by
  unfold X12_image_J122
  refine zco_Vv (rc := 0) (rs := 0) (mc := 0) (ms := 0) (As := [.int s0]) (S := []) vmX12_writes (mtX12_writes l e (by omega) s1 s0) q_2285 rfl rfl (Nat.le_of_ble_eq_true rfl) (zdk (cc := cX12_image) (q := (122, .invokevirtual 726, 3)) tkX12_image 72 rfl) ?_
  refine zco_p tkX12_image 73 3 (pc' := 128) (L' := [(0, .ref v0), (1, .int v1), (2, .int v2)]) (S' := [.int v1, .ref v0, .ref v0]) rfl ?_
  refine zco_Vi (rc := 0) (rs := 0) (mc := 0) (ms := 0) (As := [.int v1]) (S := [.ref v0]) vmX12_waitedOf (mtX12_waitedOf l e (by omega) v0 v1) q_1978 rfl rfl (Nat.le_of_ble_eq_true rfl) (zdk (cc := cX12_image) (q := (128, .invokevirtual 524, 3)) tkX12_image 76 rfl) (fun y1 => ?_)
  refine zco_Vv (rc := 0) (rs := 0) (mc := 0) (ms := 0) (As := [.int y1]) (S := []) vmX12_writes (mtX12_writes l e (by omega) v0 y1) q_2285 rfl rfl (Nat.le_of_ble_eq_true rfl) (zdk (cc := cX12_image) (q := (131, .invokevirtual 726, 3)) tkX12_image 77 rfl) ?_
  refine zco_p tkX12_image 78 2 (pc' := 136) (L' := [(3, .int 0), (0, .ref v0), (1, .int v1), (2, .int v2)]) (S' := []) rfl ?_
  exact zco_sub [1, 2, 3, 0] rfl (zco_fix (Lf := fun x : Int32 => [(0, .ref v0), (1, .int v1), (2, .int v2), (3, .int x)]) (Sf := fun _ => []) (fun r hr x => coX12_image_B136 l e he v0 v1 v2 r83 hr83 r hr x) zFU 0)
def X12_image_B83 (v0 : Nat) (r83 : Int32 → zM) (v1 : Int32) : zM := z_rc 12 v0 (z_ci (X12_peopleMany v0) fun y1 => z_if (y1 ≤ v1) (X12_image_J193 v0)
   (z_rc 12 v0 (z_ci (X12_codeOf v0 v1) fun y2 => z_rc 12 v0 (z_ci (X12_wedTo v0 v1) fun y3 => z_if (y3 = ((-1))) (X12_image_J122 r83 v0 v1 y2 255 v0)
   (z_rc 12 v0 (z_ci (X12_wedTo v0 v1) fun y4 => z_rc 12 v0 (z_ci (X12_numberOf v0 y4) fun y5 => X12_image_J122 r83 v0 v1 y2 y5 v0)))))))
set_option maxHeartbeats 2000000 in
set_option maxRecDepth 20000 in
theorem coX12_image_B83 (l : Launch) (e : Nat) (he : 3 ≤ e) (v0 : Nat) (r83 : Int32 → zM) (hr83 : ∀ x : Int32, zCo l (e + 1) 0 0 iX12_image 83 [(0, .ref v0), (1, .int x)] [] (r83 x)) (v1 : Int32) : zCo l (e + 1) 0 0 iX12_image 83 [(0, .ref v0), (1, .int v1)] [] (X12_image_B83 v0 r83 v1) := by
  unfold X12_image_B83
  refine zco_p tkX12_image 51 2 (pc' := 85) (L' := [(0, .ref v0), (1, .int v1)]) (S' := [.ref v0, .int v1]) rfl ?_
  refine zco_Vi (rc := 0) (rs := 0) (mc := 0) (ms := 0) (As := []) (S := [.int v1]) vmX12_peopleMany (mtX12_peopleMany l e (by omega) v0) q_1938 rfl rfl (Nat.le_of_ble_eq_true rfl) (zdk (cc := cX12_image) (q := (85, .invokevirtual 419, 3)) tkX12_image 53 rfl) (fun y1 => ?_)
  refine zco_icmp_ge (tgt := 193) (zdk (cc := cX12_image) (q := (88, .if_icmp .ge 105, 3)) tkX12_image 54 rfl) rfl ?_ ?_
  · exact zco_sub [0] rfl (coX12_image_J193 l e he v0)
  · refine zco_p tkX12_image 55 2 (pc' := 93) (L' := [(0, .ref v0), (1, .int v1)]) (S' := [.int v1, .ref v0]) rfl ?_
    refine zco_Vi (rc := 0) (rs := 0) (mc := 0) (ms := 0) (As := [.int v1]) (S := []) vmX12_codeOf (mtX12_codeOf l e (by omega) v0 v1) q_1946 rfl rfl (Nat.le_of_ble_eq_true rfl) (zdk (cc := cX12_image) (q := (93, .invokevirtual 429, 3)) tkX12_image 57 rfl) (fun y2 => ?_)
    refine zco_p tkX12_image 58 4 (pc' := 100) (L' := [(2, .int y2), (0, .ref v0), (1, .int v1)]) (S' := [.int v1, .ref v0, .ref v0]) rfl ?_
    refine zco_Vi (rc := 0) (rs := 0) (mc := 0) (ms := 0) (As := [.int v1]) (S := [.ref v0]) vmX12_wedTo (mtX12_wedTo l e (by omega) v0 v1) q_1966 rfl rfl (Nat.le_of_ble_eq_true rfl) (zdk (cc := cX12_image) (q := (100, .invokevirtual 521, 3)) tkX12_image 62 rfl) (fun y3 => ?_)
    refine zco_p tkX12_image 63 1 (pc' := 104) (L' := [(2, .int y2), (0, .ref v0), (1, .int v1)]) (S' := [.int ((-1)), .int y3, .ref v0]) rfl ?_
    refine zco_icmp_ne (tgt := 113) (zdk (cc := cX12_image) (q := (104, .if_icmp .ne 9, 3)) tkX12_image 64 rfl) rfl ?_ ?_
    · refine zco_p tkX12_image 67 3 (pc' := 116) (L' := [(2, .int y2), (0, .ref v0), (1, .int v1)]) (S' := [.int v1, .ref v0, .ref v0, .ref v0]) rfl ?_
      refine zco_Vi (rc := 0) (rs := 0) (mc := 0) (ms := 0) (As := [.int v1]) (S := [.ref v0, .ref v0]) vmX12_wedTo (mtX12_wedTo l e (by omega) v0 v1) q_1966 rfl rfl (Nat.le_of_ble_eq_true rfl) (zdk (cc := cX12_image) (q := (116, .invokevirtual 521, 3)) tkX12_image 70 rfl) (fun y4 => ?_)
      refine zco_Vi (rc := 0) (rs := 0) (mc := 0) (ms := 0) (As := [.int y4]) (S := [.ref v0]) vmX12_numberOf (mtX12_numberOf l e (by omega) v0 y4) q_1974 rfl rfl (Nat.le_of_ble_eq_true rfl) (zdk (cc := cX12_image) (q := (119, .invokevirtual 455, 3)) tkX12_image 71 rfl) (fun y5 => ?_)
      exact zco_sub [1, 2, 0] rfl (coX12_image_J122 l e he v0 v1 y2 r83 hr83 y5 v0)
    · refine zco_p tkX12_image 65 2 (pc' := 122) (L' := [(2, .int y2), (0, .ref v0), (1, .int v1)]) (S' := [.int 255, .ref v0]) rfl ?_
      exact zco_sub [1, 2, 0] rfl (coX12_image_J122 l e he v0 v1 y2 r83 hr83 255 v0)
def X12_image_J81 (v0 : Nat) : zM := z_fix (fun r x => X12_image_B83 v0 r x) zFU 0
set_option maxHeartbeats 2000000 in
set_option maxRecDepth 20000 in
theorem coX12_image_J81 (l : Launch) (e : Nat) (he : 3 ≤ e) (v0 : Nat) : zCo l (e + 1) 0 0 iX12_image 81 [(0, .ref v0)] [] (X12_image_J81 v0) := by
  unfold X12_image_J81
  refine zco_p tkX12_image 49 2 (pc' := 83) (L' := [(1, .int 0), (0, .ref v0)]) (S' := []) rfl ?_
  exact zco_sub [1, 0] rfl (zco_fix (Lf := fun x : Int32 => [(0, .ref v0), (1, .int x)]) (Sf := fun _ => []) (fun r hr x => coX12_image_B83 l e he v0 r hr x) zFU 0)
def X12_image_J75 (r27 : Int32 → zM) (v0 : Nat) (v1 : Int32) : zM := r27 (v1 + 1)
set_option maxHeartbeats 2000000 in
set_option maxRecDepth 20000 in
theorem coX12_image_J75 (l : Launch) (e : Nat) (he : 3 ≤ e) (v0 : Nat) (v1 : Int32) (r27 : Int32 → zM) (hr27 : ∀ x : Int32, zCo l (e + 1) 0 0 iX12_image 27 [(0, .ref v0), (1, .int x)] [] (r27 x)) : zCo l (e + 1) 0 0 iX12_image 75 [(0, .ref v0), (1, .int v1)] [] (X12_image_J75 r27 v0 v1) := by
  unfold X12_image_J75
  refine zco_p tkX12_image 47 2 (pc' := 27) (L' := [(1, .int (v1 + 1)), (0, .ref v0)]) (S' := []) rfl ?_
  exact zco_sub [1, 0] rfl (hr27 (v1 + 1))
def X12_image_B34 (r27 : Int32 → zM) (v0 : Nat) (v1 : Int32) (r34 : Int32 → zM) (v2 : Int32) : zM := z_rc 12 v0 (z_ci (X12_sideMany v0 v1) fun y1 => z_if (y1 ≤ v2) (X12_image_J75 r27 v0 v1)
   (z_gr 12 52 v0 fun x2 => z_la 20 x2 ((2 + (6 * v1)) + v2) fun x3 => z_rc 12 v0 (z_ci (X12_numberOf v0 ((6 * v1) + x3)) fun y4 => z_rc 12 v0 (z_cv (X12_writes v0 y4) (r34 (v2 + 1))))))
set_option maxHeartbeats 2000000 in
set_option maxRecDepth 20000 in
theorem coX12_image_B34 (l : Launch) (e : Nat) (he : 3 ≤ e) (v0 : Nat) (v1 : Int32) (r27 : Int32 → zM) (hr27 : ∀ x : Int32, zCo l (e + 1) 0 0 iX12_image 27 [(0, .ref v0), (1, .int x)] [] (r27 x)) (r34 : Int32 → zM) (hr34 : ∀ x : Int32, zCo l (e + 1) 0 0 iX12_image 34 [(0, .ref v0), (1, .int v1), (2, .int x)] [] (r34 x)) (v2 : Int32) : zCo l (e + 1) 0 0 iX12_image 34 [(0, .ref v0), (1, .int v1), (2, .int v2)] [] (X12_image_B34 r27 v0 v1 r34 v2) := by
  unfold X12_image_B34
  refine zco_p tkX12_image 22 3 (pc' := 37) (L' := [(0, .ref v0), (1, .int v1), (2, .int v2)]) (S' := [.int v1, .ref v0, .int v2]) rfl ?_
  refine zco_Vi (rc := 0) (rs := 0) (mc := 0) (ms := 0) (As := [.int v1]) (S := [.int v2]) vmX12_sideMany (mtX12_sideMany l e (by omega) v0 v1) q_1942 rfl rfl (Nat.le_of_ble_eq_true rfl) (zdk (cc := cX12_image) (q := (37, .invokevirtual 416, 3)) tkX12_image 25 rfl) (fun y1 => ?_)
  refine zco_icmp_ge (tgt := 75) (zdk (cc := cX12_image) (q := (40, .if_icmp .ge 35, 3)) tkX12_image 26 rfl) rfl ?_ ?_
  · exact zco_sub [0, 1] rfl (coX12_image_J75 l e he v0 v1 r27 hr27)
  · refine zco_p tkX12_image 27 6 (pc' := 50) (L' := [(0, .ref v0), (1, .int v1), (2, .int v2)]) (S' := [.ref v0, .int (6 * v1), .ref v0, .ref v0]) rfl ?_
    refine zco_gr fl_12_134 rfl (zdk (cc := cX12_image) (q := (50, .getfield 134, 3)) tkX12_image 33 rfl) (fun x2 => ?_)
    refine zco_p tkX12_image 34 7 (pc' := 61) (L' := [(0, .ref v0), (1, .int v1), (2, .int v2)]) (S' := [.int ((2 + (6 * v1)) + v2), .ref x2, .int (6 * v1), .ref v0, .ref v0]) rfl ?_
    refine zco_iaload (zdk (cc := cX12_image) (q := (61, .iaload, 1)) tkX12_image 41 rfl) (fun x3 => ?_)
    refine zco_p tkX12_image 42 1 (pc' := 63) (L' := [(0, .ref v0), (1, .int v1), (2, .int v2)]) (S' := [.int ((6 * v1) + x3), .ref v0, .ref v0]) rfl ?_
    refine zco_Vi (rc := 0) (rs := 0) (mc := 0) (ms := 0) (As := [.int ((6 * v1) + x3)]) (S := [.ref v0]) vmX12_numberOf (mtX12_numberOf l e (by omega) v0 ((6 * v1) + x3)) q_1974 rfl rfl (Nat.le_of_ble_eq_true rfl) (zdk (cc := cX12_image) (q := (63, .invokevirtual 455, 3)) tkX12_image 43 rfl) (fun y4 => ?_)
    refine zco_Vv (rc := 0) (rs := 0) (mc := 0) (ms := 0) (As := [.int y4]) (S := []) vmX12_writes (mtX12_writes l e (by omega) v0 y4) q_2285 rfl rfl (Nat.le_of_ble_eq_true rfl) (zdk (cc := cX12_image) (q := (66, .invokevirtual 726, 3)) tkX12_image 44 rfl) ?_
    refine zco_p tkX12_image 45 2 (pc' := 34) (L' := [(2, .int (v2 + 1)), (0, .ref v0), (1, .int v1)]) (S' := []) rfl ?_
    exact zco_sub [1, 2, 0] rfl (hr34 (v2 + 1))
def X12_image_B27 (v0 : Nat) (r27 : Int32 → zM) (v1 : Int32) : zM := z_if (2 ≤ v1) (X12_image_J81 v0)
   (z_fix (fun r x => X12_image_B34 r27 v0 v1 r x) zFU 0)
set_option maxHeartbeats 2000000 in
set_option maxRecDepth 20000 in
theorem coX12_image_B27 (l : Launch) (e : Nat) (he : 3 ≤ e) (v0 : Nat) (r27 : Int32 → zM) (hr27 : ∀ x : Int32, zCo l (e + 1) 0 0 iX12_image 27 [(0, .ref v0), (1, .int x)] [] (r27 x)) (v1 : Int32) : zCo l (e + 1) 0 0 iX12_image 27 [(0, .ref v0), (1, .int v1)] [] (X12_image_B27 v0 r27 v1) := by
  unfold X12_image_B27
  refine zco_p tkX12_image 17 2 (pc' := 29) (L' := [(0, .ref v0), (1, .int v1)]) (S' := [.int 2, .int v1]) rfl ?_
  refine zco_icmp_ge (tgt := 81) (zdk (cc := cX12_image) (q := (29, .if_icmp .ge 52, 3)) tkX12_image 19 rfl) rfl ?_ ?_
  · exact zco_sub [0] rfl (coX12_image_J81 l e he v0)
  · refine zco_p tkX12_image 20 2 (pc' := 34) (L' := [(2, .int 0), (0, .ref v0), (1, .int v1)]) (S' := []) rfl ?_
    exact zco_sub [1, 2, 0] rfl (zco_fix (Lf := fun x : Int32 => [(0, .ref v0), (1, .int v1), (2, .int x)]) (Sf := fun _ => []) (fun r hr x => coX12_image_B34 l e he v0 v1 r27 hr27 r hr x) zFU 0)
def X12_image (v0 : Nat) : zM := z_pi 12 115 v0 0 (z_gr 12 52 v0 fun x1 => z_la 20 x1 0 fun x2 => z_rc 12 v0 (z_cv (X12_writesTwo v0 x2) (z_gr 12 52 v0 fun x3 => z_la 20 x3 1 fun x4 => z_rc 12 v0 (z_cv (X12_writes v0 x4) (z_fix (fun r x => X12_image_B27 v0 r x) zFU 0)))))
set_option maxHeartbeats 2000000 in
set_option maxRecDepth 20000 in
theorem coX12_image (l : Launch) (e : Nat) (he : 3 ≤ e) (v0 : Nat) : zCo l (e + 1) 0 0 iX12_image 0 [(0, .ref v0)] [] (X12_image v0) := by
  unfold X12_image
  refine zco_p tkX12_image 0 2 (pc' := 2) (L' := [(0, .ref v0)]) (S' := [.int 0, .ref v0]) rfl ?_
  refine zco_pi fl_12_723 rfl rfl (zdk (cc := cX12_image) (q := (2, .putfield 723, 3)) tkX12_image 2 rfl) ?_
  refine zco_p tkX12_image 3 2 (pc' := 7) (L' := [(0, .ref v0)]) (S' := [.ref v0, .ref v0]) rfl ?_
  refine zco_gr fl_12_134 rfl (zdk (cc := cX12_image) (q := (7, .getfield 134, 3)) tkX12_image 5 rfl) (fun x1 => ?_)
  refine zco_p tkX12_image 6 1 (pc' := 11) (L' := [(0, .ref v0)]) (S' := [.int 0, .ref x1, .ref v0]) rfl ?_
  refine zco_iaload (zdk (cc := cX12_image) (q := (11, .iaload, 1)) tkX12_image 7 rfl) (fun x2 => ?_)
  refine zco_Vv (rc := 0) (rs := 0) (mc := 0) (ms := 0) (As := [.int x2]) (S := []) vmX12_writesTwo (mtX12_writesTwo l e (by omega) v0 x2) q_2281 rfl rfl (Nat.le_of_ble_eq_true rfl) (zdk (cc := cX12_image) (q := (12, .invokevirtual 729, 3)) tkX12_image 8 rfl) ?_
  refine zco_p tkX12_image 9 2 (pc' := 17) (L' := [(0, .ref v0)]) (S' := [.ref v0, .ref v0]) rfl ?_
  refine zco_gr fl_12_134 rfl (zdk (cc := cX12_image) (q := (17, .getfield 134, 3)) tkX12_image 11 rfl) (fun x3 => ?_)
  refine zco_p tkX12_image 12 1 (pc' := 21) (L' := [(0, .ref v0)]) (S' := [.int 1, .ref x3, .ref v0]) rfl ?_
  refine zco_iaload (zdk (cc := cX12_image) (q := (21, .iaload, 1)) tkX12_image 13 rfl) (fun x4 => ?_)
  refine zco_Vv (rc := 0) (rs := 0) (mc := 0) (ms := 0) (As := [.int x4]) (S := []) vmX12_writes (mtX12_writes l e (by omega) v0 x4) q_2285 rfl rfl (Nat.le_of_ble_eq_true rfl) (zdk (cc := cX12_image) (q := (22, .invokevirtual 726, 3)) tkX12_image 14 rfl) ?_
  refine zco_p tkX12_image 15 2 (pc' := 27) (L' := [(1, .int 0), (0, .ref v0)]) (S' := []) rfl ?_
  exact zco_sub [1, 0] rfl (zco_fix (Lf := fun x : Int32 => [(0, .ref v0), (1, .int x)]) (Sf := fun _ => []) (fun r hr x => coX12_image_B27 l e he v0 r hr x) zFU 0)
theorem mtX12_image (l : Launch) (d : Nat) (hd : 4 ≤ d) (v0 : Nat) : zMet l d 0 0 yX12_image cX12_image 4 (Option.some .int) [.ref v0] (X12_image v0) := by
  obtain ⟨e, rfl⟩ : ∃ e, d = e + 1 := ⟨d - 1, by omega⟩
  exact zmet_of (own := RX12) (ini := false) (by decide +kernel) rfl (fun _ => by contradiction) (Nat.le_of_ble_eq_true rfl) (coX12_image l e (by omega) v0)
abbrev iX12_bytesOf : zI := (RX12, cX12_bytesOf, 2, (Option.some .int), false)
def tX12_bytesOf : List (Nat × Instr × Nat) := [(0, .iconst 2, 1), (1, .iconst 2, 1), (2, .aload_n 0, 1), (3, .iconst 1, 1), (4, .aload_n 0, 1), (5, .iload_n 1, 1), (6, .invokevirtual 426, 3), (9, .isub, 1), (10, .invokevirtual 416, 3), (13, .imul, 1), (14, .iadd, 1), (15, .ireturn, 1)]
set_option maxRecDepth 100000 in
theorem tkX12_bytesOf : ∀ q ∈ tX12_bytesOf, decode cX12_bytesOf q.1 = .ok q.2 := by decide +kernel
theorem vmX12_bytesOf : zVM yX12_bytesOf cX12_bytesOf 2 (Option.some .int) 1 12 := ⟨kX12_bytesOf, q_2306, q_142, q_160, ⟨_, rfl, rfl⟩, by decide +kernel, by decide⟩
def X12_bytesOf (v0 : Nat) (v1 : Int32) : zM := z_rc 12 v0 (z_ci (X12_sideOf v0 v1) fun y1 => z_rc 12 v0 (z_ci (X12_sideMany v0 (1 - y1)) fun y2 => z_ret (some (.int (2 + (2 * y2))))))
set_option maxHeartbeats 2000000 in
set_option maxRecDepth 20000 in
theorem coX12_bytesOf (l : Launch) (e : Nat) (he : 2 ≤ e) (v0 : Nat) (v1 : Int32) : zCo l (e + 1) 0 0 iX12_bytesOf 0 [(0, .ref v0), (1, .int v1)] [] (X12_bytesOf v0 v1) := by
  unfold X12_bytesOf
  refine zco_p tkX12_bytesOf 0 6 (pc' := 6) (L' := [(0, .ref v0), (1, .int v1)]) (S' := [.int v1, .ref v0, .int 1, .ref v0, .int 2, .int 2]) rfl ?_
  refine zco_Vi (rc := 0) (rs := 0) (mc := 0) (ms := 0) (As := [.int v1]) (S := [.int 1, .ref v0, .int 2, .int 2]) vmX12_sideOf (mtX12_sideOf l e (by omega) v0 v1) q_1994 rfl rfl (Nat.le_of_ble_eq_true rfl) (zdk (cc := cX12_bytesOf) (q := (6, .invokevirtual 426, 3)) tkX12_bytesOf 6 rfl) (fun y1 => ?_)
  refine zco_p tkX12_bytesOf 7 1 (pc' := 10) (L' := [(0, .ref v0), (1, .int v1)]) (S' := [.int (1 - y1), .ref v0, .int 2, .int 2]) rfl ?_
  refine zco_Vi (rc := 0) (rs := 0) (mc := 0) (ms := 0) (As := [.int (1 - y1)]) (S := [.int 2, .int 2]) vmX12_sideMany (mtX12_sideMany l e (by omega) v0 (1 - y1)) q_1942 rfl rfl (Nat.le_of_ble_eq_true rfl) (zdk (cc := cX12_bytesOf) (q := (10, .invokevirtual 416, 3)) tkX12_bytesOf 8 rfl) (fun y2 => ?_)
  refine zco_p tkX12_bytesOf 9 2 (pc' := 15) (L' := [(0, .ref v0), (1, .int v1)]) (S' := [.int (2 + (2 * y2))]) rfl ?_
  exact zco_iret rfl rfl rfl (zdk (cc := cX12_bytesOf) (q := (15, .ireturn, 1)) tkX12_bytesOf 11 rfl)
theorem mtX12_bytesOf (l : Launch) (d : Nat) (hd : 3 ≤ d) (v0 : Nat) (v1 : Int32) : zMet l d 0 0 yX12_bytesOf cX12_bytesOf 2 (Option.some .int) [.ref v0, .int v1] (X12_bytesOf v0 v1) := by
  obtain ⟨e, rfl⟩ : ∃ e, d = e + 1 := ⟨d - 1, by omega⟩
  exact zmet_of (own := RX12) (ini := false) (by decide +kernel) rfl (fun _ => by contradiction) (Nat.le_of_ble_eq_true rfl) (coX12_bytesOf l e (by omega) v0 v1)
abbrev iX12_toldAt : zI := (RX12, cX12_toldAt, 4, (Option.some .int), false)
def tX12_toldAt : List (Nat × Instr × Nat) := [(0, .iconst 3, 1), (1, .aload_n 0, 1), (2, .invokevirtual 419, 3), (5, .iadd, 1), (6, .istore_n 2, 1), (7, .iconst 0, 1), (8, .istore_n 3, 1), (9, .iload_n 3, 1), (10, .iload_n 1, 1), (11, .if_icmp .ge 17, 3), (14, .iload_n 2, 1), (15, .aload_n 0, 1), (16, .iload_n 3, 1), (17, .invokevirtual 736, 3), (20, .iadd, 1), (21, .istore_n 2, 1), (22, .iinc 3 1, 3), (25, .goto (-16), 3), (28, .iload_n 2, 1), (29, .ireturn, 1)]
set_option maxRecDepth 100000 in
theorem tkX12_toldAt : ∀ q ∈ tX12_toldAt, decode cX12_toldAt q.1 = .ok q.2 := by decide +kernel
theorem vmX12_toldAt : zVM yX12_toldAt cX12_toldAt 4 (Option.some .int) 1 12 := ⟨kX12_toldAt, q_2302, q_141, q_160, ⟨_, rfl, rfl⟩, by decide +kernel, by decide⟩
def X12_toldAt_B9 (v0 : Nat) (v1 : Int32) (r9 : Int32 × Int32 → zM) (v2 : Int32) (v3 : Int32) : zM := z_if (v1 ≤ v3) (z_ret (some (.int v2)))
   (z_rc 12 v0 (z_ci (X12_bytesOf v0 v3) fun y1 => r9 (v2 + y1, v3 + 1)))
set_option maxHeartbeats 2000000 in
set_option maxRecDepth 20000 in
theorem coX12_toldAt_B9 (l : Launch) (e : Nat) (he : 3 ≤ e) (v0 : Nat) (v1 : Int32) (r9 : Int32 × Int32 → zM) (hr9 : ∀ x : Int32 × Int32, zCo l (e + 1) 0 0 iX12_toldAt 9 [(0, .ref v0), (1, .int v1), (2, .int x.1), (3, .int x.2)] [] (r9 x)) (v2 : Int32) (v3 : Int32) : zCo l (e + 1) 0 0 iX12_toldAt 9 [(0, .ref v0), (1, .int v1), (2, .int v2), (3, .int v3)] [] (X12_toldAt_B9 v0 v1 r9 v2 v3) := by
  unfold X12_toldAt_B9
  refine zco_p tkX12_toldAt 7 2 (pc' := 11) (L' := [(0, .ref v0), (1, .int v1), (2, .int v2), (3, .int v3)]) (S' := [.int v1, .int v3]) rfl ?_
  refine zco_icmp_ge (tgt := 28) (zdk (cc := cX12_toldAt) (q := (11, .if_icmp .ge 17, 3)) tkX12_toldAt 9 rfl) rfl ?_ ?_
  · refine zco_p tkX12_toldAt 18 1 (pc' := 29) (L' := [(0, .ref v0), (1, .int v1), (2, .int v2), (3, .int v3)]) (S' := [.int v2]) rfl ?_
    exact zco_iret rfl rfl rfl (zdk (cc := cX12_toldAt) (q := (29, .ireturn, 1)) tkX12_toldAt 19 rfl)
  · refine zco_p tkX12_toldAt 10 3 (pc' := 17) (L' := [(0, .ref v0), (1, .int v1), (2, .int v2), (3, .int v3)]) (S' := [.int v3, .ref v0, .int v2]) rfl ?_
    refine zco_Vi (rc := 0) (rs := 0) (mc := 0) (ms := 0) (As := [.int v3]) (S := [.int v2]) vmX12_bytesOf (mtX12_bytesOf l e (by omega) v0 v3) q_2304 rfl rfl (Nat.le_of_ble_eq_true rfl) (zdk (cc := cX12_toldAt) (q := (17, .invokevirtual 736, 3)) tkX12_toldAt 13 rfl) (fun y1 => ?_)
    refine zco_p tkX12_toldAt 14 4 (pc' := 9) (L' := [(3, .int (v3 + 1)), (2, .int (v2 + y1)), (0, .ref v0), (1, .int v1)]) (S' := []) rfl ?_
    exact zco_sub [2, 3, 1, 0] rfl (hr9 (v2 + y1, v3 + 1))
def X12_toldAt (v0 : Nat) (v1 : Int32) : zM := z_rc 12 v0 (z_ci (X12_peopleMany v0) fun y1 => z_fix (fun r x => X12_toldAt_B9 v0 v1 r x.1 x.2) zFU (3 + y1, 0))
set_option maxHeartbeats 2000000 in
set_option maxRecDepth 20000 in
theorem coX12_toldAt (l : Launch) (e : Nat) (he : 3 ≤ e) (v0 : Nat) (v1 : Int32) : zCo l (e + 1) 0 0 iX12_toldAt 0 [(0, .ref v0), (1, .int v1)] [] (X12_toldAt v0 v1) := by
  unfold X12_toldAt
  refine zco_p tkX12_toldAt 0 2 (pc' := 2) (L' := [(0, .ref v0), (1, .int v1)]) (S' := [.ref v0, .int 3]) rfl ?_
  refine zco_Vi (rc := 0) (rs := 0) (mc := 0) (ms := 0) (As := []) (S := [.int 3]) vmX12_peopleMany (mtX12_peopleMany l e (by omega) v0) q_1938 rfl rfl (Nat.le_of_ble_eq_true rfl) (zdk (cc := cX12_toldAt) (q := (2, .invokevirtual 419, 3)) tkX12_toldAt 2 rfl) (fun y1 => ?_)
  refine zco_p tkX12_toldAt 3 4 (pc' := 9) (L' := [(3, .int 0), (2, .int (3 + y1)), (0, .ref v0), (1, .int v1)]) (S' := []) rfl ?_
  exact zco_sub [2, 3, 1, 0] rfl (zco_fix (Lf := fun x : Int32 × Int32 => [(0, .ref v0), (1, .int v1), (2, .int x.1), (3, .int x.2)]) (Sf := fun _ => []) (fun r hr x => coX12_toldAt_B9 l e he v0 v1 r hr x.1 x.2) zFU (3 + y1, 0))
theorem mtX12_toldAt (l : Launch) (d : Nat) (hd : 4 ≤ d) (v0 : Nat) (v1 : Int32) : zMet l d 0 0 yX12_toldAt cX12_toldAt 4 (Option.some .int) [.ref v0, .int v1] (X12_toldAt v0 v1) := by
  obtain ⟨e, rfl⟩ : ∃ e, d = e + 1 := ⟨d - 1, by omega⟩
  exact zmet_of (own := RX12) (ini := false) (by decide +kernel) rfl (fun _ => by contradiction) (Nat.le_of_ble_eq_true rfl) (coX12_toldAt l e (by omega) v0 v1)
abbrev iX12_areOrders : zI := (RX12, cX12_areOrders, 4, (Option.some .boolean), false)
def tX12_areOrders : List (Nat × Instr × Nat) := [(0, .iconst 0, 1), (1, .istore_n 1, 1), (2, .iconst 0, 1), (3, .istore_n 2, 1), (4, .iload_n 2, 1), (5, .aload_n 0, 1), (6, .invokevirtual 419, 3), (9, .if_icmp .ge 48, 3), (12, .aload_n 0, 1), (13, .getfield 7, 3), (16, .iconst 3, 1), (17, .iload_n 2, 1), (18, .iadd, 1), (19, .iaload, 1), (20, .istore_n 3, 1), (21, .aload_n 0, 1), (22, .iload_n 3, 1), (23, .i2l, 1), (24, .invokevirtual 422, 3), (27, .ifCond .eq 16, 3), (30, .aload_n 0, 1), (31, .iload_n 3, 1), (32, .invokevirtual 426, 3), (35, .aload_n 0, 1), (36, .iload_n 2, 1), (37, .invokevirtual 426, 3), (40, .if_icmp .eq 5, 3), (43, .iconst 0, 1), (44, .ireturn, 1), (45, .iload_n 1, 1), (46, .iconst 1, 1), (47, .iload_n 3, 1), (48, .ishl, 1), (49, .ior, 1), (50, .istore_n 1, 1), (51, .iinc 2 1, 3), (54, .goto (-50), 3), (57, .iload_n 1, 1), (58, .iconst 1, 1), (59, .aload_n 0, 1), (60, .invokevirtual 419, 3), (63, .ishl, 1), (64, .iconst 1, 1), (65, .isub, 1), (66, .if_icmp .ne 7, 3), (69, .iconst 1, 1), (70, .goto 4, 3), (73, .iconst 0, 1), (74, .ireturn, 1)]
set_option maxRecDepth 100000 in
theorem tkX12_areOrders : ∀ q ∈ tX12_areOrders, decode cX12_areOrders q.1 = .ok q.2 := by decide +kernel
theorem vmX12_areOrders : zVM yX12_areOrders cX12_areOrders 4 (Option.some .boolean) 0 12 := ⟨kX12_areOrders, q_2314, q_144, q_160, ⟨_, rfl, rfl⟩, by decide +kernel, by decide⟩
def X12_areOrders_J57 (v0 : Nat) (v1 : Int32) : zM := z_rc 12 v0 (z_ci (X12_peopleMany v0) fun y1 => z_if (v1 = (((1 : Int32) <<< (y1 &&& 31)) - 1)) (z_rb 1)
   (z_rb 0))
set_option maxHeartbeats 2000000 in
set_option maxRecDepth 20000 in
theorem coX12_areOrders_J57 (l : Launch) (e : Nat) (he : 3 ≤ e) (v0 : Nat) (v1 : Int32) : zCo l (e + 1) 0 0 iX12_areOrders 57 [(0, .ref v0), (1, .int v1)] [] (X12_areOrders_J57 v0 v1) := by
  unfold X12_areOrders_J57
  refine zco_p tkX12_areOrders 37 3 (pc' := 60) (L' := [(0, .ref v0), (1, .int v1)]) (S' := [.ref v0, .int 1, .int v1]) rfl ?_
  refine zco_Vi (rc := 0) (rs := 0) (mc := 0) (ms := 0) (As := []) (S := [.int 1, .int v1]) vmX12_peopleMany (mtX12_peopleMany l e (by omega) v0) q_1938 rfl rfl (Nat.le_of_ble_eq_true rfl) (zdk (cc := cX12_areOrders) (q := (60, .invokevirtual 419, 3)) tkX12_areOrders 40 rfl) (fun y1 => ?_)
  refine zco_p tkX12_areOrders 41 3 (pc' := 66) (L' := [(0, .ref v0), (1, .int v1)]) (S' := [.int (((1 : Int32) <<< (y1 &&& 31)) - 1), .int v1]) rfl ?_
  refine zco_icmp_ne (tgt := 73) (zdk (cc := cX12_areOrders) (q := (66, .if_icmp .ne 7, 3)) tkX12_areOrders 44 rfl) rfl ?_ ?_
  · refine zco_p tkX12_areOrders 47 1 (pc' := 74) (L' := [(0, .ref v0), (1, .int v1)]) (S' := [.int 0]) rfl ?_
    exact zco_zret rfl rfl rfl (zdk (cc := cX12_areOrders) (q := (74, .ireturn, 1)) tkX12_areOrders 48 rfl)
  · refine zco_p tkX12_areOrders 45 2 (pc' := 74) (L' := [(0, .ref v0), (1, .int v1)]) (S' := [.int 1]) rfl ?_
    exact zco_zret rfl rfl rfl (zdk (cc := cX12_areOrders) (q := (74, .ireturn, 1)) tkX12_areOrders 48 rfl)
def X12_areOrders_B4 (v0 : Nat) (r4 : Int32 × Int32 → zM) (v1 : Int32) (v2 : Int32) : zM := z_rc 12 v0 (z_ci (X12_peopleMany v0) fun y1 => z_if (y1 ≤ v2) (X12_areOrders_J57 v0 v1)
   (z_gr 12 0 v0 fun x2 => z_la 20 x2 (3 + v2) fun x3 => z_rc 12 v0 (z_ci (X12_isPerson v0 x3.toInt64) fun y4 => z_if (y4 = 0) (z_rb 0)
   (z_rc 12 v0 (z_ci (X12_sideOf v0 x3) fun y5 => z_rc 12 v0 (z_ci (X12_sideOf v0 v2) fun y6 => z_if (y5 = y6) (r4 (v1 ||| ((1 : Int32) <<< (x3 &&& 31)), v2 + 1))
   (z_rb 0)))))))
set_option maxHeartbeats 2000000 in
set_option maxRecDepth 20000 in
theorem coX12_areOrders_B4 (l : Launch) (e : Nat) (he : 3 ≤ e) (v0 : Nat) (r4 : Int32 × Int32 → zM) (hr4 : ∀ x : Int32 × Int32, zCo l (e + 1) 0 0 iX12_areOrders 4 [(0, .ref v0), (1, .int x.1), (2, .int x.2)] [] (r4 x)) (v1 : Int32) (v2 : Int32) : zCo l (e + 1) 0 0 iX12_areOrders 4 [(0, .ref v0), (1, .int v1), (2, .int v2)] [] (X12_areOrders_B4 v0 r4 v1 v2) := by
  unfold X12_areOrders_B4
  refine zco_p tkX12_areOrders 4 2 (pc' := 6) (L' := [(0, .ref v0), (1, .int v1), (2, .int v2)]) (S' := [.ref v0, .int v2]) rfl ?_
  refine zco_Vi (rc := 0) (rs := 0) (mc := 0) (ms := 0) (As := []) (S := [.int v2]) vmX12_peopleMany (mtX12_peopleMany l e (by omega) v0) q_1938 rfl rfl (Nat.le_of_ble_eq_true rfl) (zdk (cc := cX12_areOrders) (q := (6, .invokevirtual 419, 3)) tkX12_areOrders 6 rfl) (fun y1 => ?_)
  refine zco_icmp_ge (tgt := 57) (zdk (cc := cX12_areOrders) (q := (9, .if_icmp .ge 48, 3)) tkX12_areOrders 7 rfl) rfl ?_ ?_
  · exact zco_sub [0, 1] rfl (coX12_areOrders_J57 l e he v0 v1)
  · refine zco_p tkX12_areOrders 8 1 (pc' := 13) (L' := [(0, .ref v0), (1, .int v1), (2, .int v2)]) (S' := [.ref v0]) rfl ?_
    refine zco_gr fl_12_7 rfl (zdk (cc := cX12_areOrders) (q := (13, .getfield 7, 3)) tkX12_areOrders 9 rfl) (fun x2 => ?_)
    refine zco_p tkX12_areOrders 10 3 (pc' := 19) (L' := [(0, .ref v0), (1, .int v1), (2, .int v2)]) (S' := [.int (3 + v2), .ref x2]) rfl ?_
    refine zco_iaload (zdk (cc := cX12_areOrders) (q := (19, .iaload, 1)) tkX12_areOrders 13 rfl) (fun x3 => ?_)
    refine zco_p tkX12_areOrders 14 4 (pc' := 24) (L' := [(3, .int x3), (0, .ref v0), (1, .int v1), (2, .int v2)]) (S' := [.long x3.toInt64, .ref v0]) rfl ?_
    refine zco_Vi (rc := 0) (rs := 0) (mc := 0) (ms := 0) (As := [.long x3.toInt64]) (S := []) vmX12_isPerson (mtX12_isPerson l e (by omega) v0 x3.toInt64) q_1934 rfl rfl (Nat.le_of_ble_eq_true rfl) (zdk (cc := cX12_areOrders) (q := (24, .invokevirtual 422, 3)) tkX12_areOrders 18 rfl) (fun y4 => ?_)
    refine zco_if_eq (tgt := 43) (zdk (cc := cX12_areOrders) (q := (27, .ifCond .eq 16, 3)) tkX12_areOrders 19 rfl) rfl ?_ ?_
    · refine zco_p tkX12_areOrders 27 1 (pc' := 44) (L' := [(3, .int x3), (0, .ref v0), (1, .int v1), (2, .int v2)]) (S' := [.int 0]) rfl ?_
      exact zco_zret rfl rfl rfl (zdk (cc := cX12_areOrders) (q := (44, .ireturn, 1)) tkX12_areOrders 28 rfl)
    · refine zco_p tkX12_areOrders 20 2 (pc' := 32) (L' := [(3, .int x3), (0, .ref v0), (1, .int v1), (2, .int v2)]) (S' := [.int x3, .ref v0]) rfl ?_
      refine zco_Vi (rc := 0) (rs := 0) (mc := 0) (ms := 0) (As := [.int x3]) (S := []) vmX12_sideOf (mtX12_sideOf l e (by omega) v0 x3) q_1994 rfl rfl (Nat.le_of_ble_eq_true rfl) (zdk (cc := cX12_areOrders) (q := (32, .invokevirtual 426, 3)) tkX12_areOrders 22 rfl) (fun y5 => ?_)
      refine zco_p tkX12_areOrders 23 2 (pc' := 37) (L' := [(3, .int x3), (0, .ref v0), (1, .int v1), (2, .int v2)]) (S' := [.int v2, .ref v0, .int y5]) rfl ?_
      refine zco_Vi (rc := 0) (rs := 0) (mc := 0) (ms := 0) (As := [.int v2]) (S := [.int y5]) vmX12_sideOf (mtX12_sideOf l e (by omega) v0 v2) q_1994 rfl rfl (Nat.le_of_ble_eq_true rfl) (zdk (cc := cX12_areOrders) (q := (37, .invokevirtual 426, 3)) tkX12_areOrders 25 rfl) (fun y6 => ?_)
      refine zco_icmp_eq (tgt := 45) (zdk (cc := cX12_areOrders) (q := (40, .if_icmp .eq 5, 3)) tkX12_areOrders 26 rfl) rfl ?_ ?_
      · refine zco_p tkX12_areOrders 29 8 (pc' := 4) (L' := [(2, .int (v2 + 1)), (1, .int (v1 ||| ((1 : Int32) <<< (x3 &&& 31)))), (3, .int x3), (0, .ref v0)]) (S' := []) rfl ?_
        exact zco_sub [3, 1, 0] rfl (hr4 (v1 ||| ((1 : Int32) <<< (x3 &&& 31)), v2 + 1))
      · refine zco_p tkX12_areOrders 27 1 (pc' := 44) (L' := [(3, .int x3), (0, .ref v0), (1, .int v1), (2, .int v2)]) (S' := [.int 0]) rfl ?_
        exact zco_zret rfl rfl rfl (zdk (cc := cX12_areOrders) (q := (44, .ireturn, 1)) tkX12_areOrders 28 rfl)
def X12_areOrders (v0 : Nat) : zM := z_fix (fun r x => X12_areOrders_B4 v0 r x.1 x.2) zFU (0, 0)
set_option maxHeartbeats 2000000 in
set_option maxRecDepth 20000 in
theorem coX12_areOrders (l : Launch) (e : Nat) (he : 3 ≤ e) (v0 : Nat) : zCo l (e + 1) 0 0 iX12_areOrders 0 [(0, .ref v0)] [] (X12_areOrders v0) := by
  unfold X12_areOrders
  refine zco_p tkX12_areOrders 0 4 (pc' := 4) (L' := [(2, .int 0), (1, .int 0), (0, .ref v0)]) (S' := []) rfl ?_
  exact zco_sub [2, 1, 0] rfl (zco_fix (Lf := fun x : Int32 × Int32 => [(0, .ref v0), (1, .int x.1), (2, .int x.2)]) (Sf := fun _ => []) (fun r hr x => coX12_areOrders_B4 l e he v0 r hr x.1 x.2) zFU (0, 0))
theorem mtX12_areOrders (l : Launch) (d : Nat) (hd : 4 ≤ d) (v0 : Nat) : zMet l d 0 0 yX12_areOrders cX12_areOrders 4 (Option.some .boolean) [.ref v0] (X12_areOrders v0) := by
  obtain ⟨e, rfl⟩ : ∃ e, d = e + 1 := ⟨d - 1, by omega⟩
  exact zmet_of (own := RX12) (ini := false) (by decide +kernel) rfl (fun _ => by contradiction) (Nat.le_of_ble_eq_true rfl) (coX12_areOrders l e (by omega) v0)
abbrev iX12_isToldOf : zI := (RX12, cX12_isToldOf, 5, (Option.some .boolean), false)
def tX12_isToldOf : List (Nat × Instr × Nat) := [(0, .aload_n 0, 1), (1, .iload_n 1, 1), (2, .invokevirtual 739, 3), (5, .istore_n 2, 1), (6, .aload_n 0, 1), (7, .getfield 7, 3), (10, .iload_n 2, 1), (11, .iaload, 1), (12, .istore_n 3, 1), (13, .iload_n 3, 1), (14, .sipush 255, 3), (17, .if_icmp .eq 47, 3), (20, .aload_n 0, 1), (21, .iload_n 1, 1), (22, .i2l, 1), (23, .iload_n 3, 1), (24, .i2l, 1), (25, .invokevirtual 545, 3), (28, .ifCond .eq 34, 3), (31, .aload_n 0, 1), (32, .getfield 7, 3), (35, .aload_n 0, 1), (36, .iload_n 3, 1), (37, .invokevirtual 739, 3), (40, .iaload, 1), (41, .iload_n 1, 1), (42, .if_icmp .ne 20, 3), (45, .aload_n 0, 1), (46, .aload_n 0, 1), (47, .iload_n 1, 1), (48, .invokevirtual 429, 3), (51, .aload_n 0, 1), (52, .iload_n 3, 1), (53, .invokevirtual 429, 3), (56, .invokevirtual 496, 3), (59, .ifCond .eq 5, 3), (62, .iconst 0, 1), (63, .ireturn, 1), (64, .aload_n 0, 1), (65, .getfield 7, 3), (68, .iload_n 2, 1), (69, .iconst 1, 1), (70, .iadd, 1), (71, .iaload, 1), (72, .bipush 99, 2), (74, .if_icmp .le 5, 3), (77, .iconst 0, 1), (78, .ireturn, 1), (79, .iconst 2, 1), (80, .istore 4, 2), (82, .iload 4, 2), (84, .aload_n 0, 1), (85, .iload_n 1, 1), (86, .invokevirtual 736, 3), (89, .if_icmp .ge 25, 3), (92, .aload_n 0, 1), (93, .getfield 7, 3), (96, .iload_n 2, 1), (97, .iload 4, 2), (99, .iadd, 1), (100, .iaload, 1), (101, .bipush 9, 2), (103, .if_icmp .le 5, 3), (106, .iconst 0, 1), (107, .ireturn, 1), (108, .iinc 4 1, 3), (111, .goto (-29), 3), (114, .iconst 1, 1), (115, .ireturn, 1)]
set_option maxRecDepth 100000 in
theorem tkX12_isToldOf : ∀ q ∈ tX12_isToldOf, decode cX12_isToldOf q.1 = .ok q.2 := by decide +kernel
theorem vmX12_isToldOf : zVM yX12_isToldOf cX12_isToldOf 5 (Option.some .boolean) 1 12 := ⟨kX12_isToldOf, q_2318, q_145, q_160, ⟨_, rfl, rfl⟩, by decide +kernel, by decide⟩
def X12_isToldOf_B82 (v0 : Nat) (v1 : Int32) (v2 : Int32) (r82 : Int32 → zM) (v4 : Int32) : zM := z_rc 12 v0 (z_ci (X12_bytesOf v0 v1) fun y1 => z_if (y1 ≤ v4) (z_rb 1)
   (z_gr 12 0 v0 fun x2 => z_la 20 x2 (v2 + v4) fun x3 => z_if (x3 ≤ 9) (r82 (v4 + 1))
   (z_rb 0)))
set_option maxHeartbeats 2000000 in
set_option maxRecDepth 20000 in
theorem coX12_isToldOf_B82 (l : Launch) (e : Nat) (he : 4 ≤ e) (v0 : Nat) (v1 : Int32) (v2 : Int32) (r82 : Int32 → zM) (hr82 : ∀ x : Int32, zCo l (e + 1) 0 0 iX12_isToldOf 82 [(0, .ref v0), (1, .int v1), (2, .int v2), (4, .int x)] [] (r82 x)) (v4 : Int32) : zCo l (e + 1) 0 0 iX12_isToldOf 82 [(0, .ref v0), (1, .int v1), (2, .int v2), (4, .int v4)] [] (X12_isToldOf_B82 v0 v1 v2 r82 v4) := by
  unfold X12_isToldOf_B82
  refine zco_p tkX12_isToldOf 50 3 (pc' := 86) (L' := [(0, .ref v0), (1, .int v1), (2, .int v2), (4, .int v4)]) (S' := [.int v1, .ref v0, .int v4]) rfl ?_
  refine zco_Vi (rc := 0) (rs := 0) (mc := 0) (ms := 0) (As := [.int v1]) (S := [.int v4]) vmX12_bytesOf (mtX12_bytesOf l e (by omega) v0 v1) q_2304 rfl rfl (Nat.le_of_ble_eq_true rfl) (zdk (cc := cX12_isToldOf) (q := (86, .invokevirtual 736, 3)) tkX12_isToldOf 53 rfl) (fun y1 => ?_)
  refine zco_icmp_ge (tgt := 114) (zdk (cc := cX12_isToldOf) (q := (89, .if_icmp .ge 25, 3)) tkX12_isToldOf 54 rfl) rfl ?_ ?_
  · refine zco_p tkX12_isToldOf 67 1 (pc' := 115) (L' := [(0, .ref v0), (1, .int v1), (2, .int v2), (4, .int v4)]) (S' := [.int 1]) rfl ?_
    exact zco_zret rfl rfl rfl (zdk (cc := cX12_isToldOf) (q := (115, .ireturn, 1)) tkX12_isToldOf 68 rfl)
  · refine zco_p tkX12_isToldOf 55 1 (pc' := 93) (L' := [(0, .ref v0), (1, .int v1), (2, .int v2), (4, .int v4)]) (S' := [.ref v0]) rfl ?_
    refine zco_gr fl_12_7 rfl (zdk (cc := cX12_isToldOf) (q := (93, .getfield 7, 3)) tkX12_isToldOf 56 rfl) (fun x2 => ?_)
    refine zco_p tkX12_isToldOf 57 3 (pc' := 100) (L' := [(0, .ref v0), (1, .int v1), (2, .int v2), (4, .int v4)]) (S' := [.int (v2 + v4), .ref x2]) rfl ?_
    refine zco_iaload (zdk (cc := cX12_isToldOf) (q := (100, .iaload, 1)) tkX12_isToldOf 60 rfl) (fun x3 => ?_)
    refine zco_p tkX12_isToldOf 61 1 (pc' := 103) (L' := [(0, .ref v0), (1, .int v1), (2, .int v2), (4, .int v4)]) (S' := [.int 9, .int x3]) rfl ?_
    refine zco_icmp_le (tgt := 108) (zdk (cc := cX12_isToldOf) (q := (103, .if_icmp .le 5, 3)) tkX12_isToldOf 62 rfl) rfl ?_ ?_
    · refine zco_p tkX12_isToldOf 65 2 (pc' := 82) (L' := [(4, .int (v4 + 1)), (0, .ref v0), (1, .int v1), (2, .int v2)]) (S' := []) rfl ?_
      exact zco_sub [1, 2, 3, 0] rfl (hr82 (v4 + 1))
    · refine zco_p tkX12_isToldOf 63 1 (pc' := 107) (L' := [(0, .ref v0), (1, .int v1), (2, .int v2), (4, .int v4)]) (S' := [.int 0]) rfl ?_
      exact zco_zret rfl rfl rfl (zdk (cc := cX12_isToldOf) (q := (107, .ireturn, 1)) tkX12_isToldOf 64 rfl)
def X12_isToldOf_J64 (v0 : Nat) (v1 : Int32) (v2 : Int32) : zM := z_gr 12 0 v0 fun x1 => z_la 20 x1 (v2 + 1) fun x2 => z_if (x2 ≤ 99) (z_fix (fun r x => X12_isToldOf_B82 v0 v1 v2 r x) zFU 2)
   (z_rb 0)
set_option maxHeartbeats 2000000 in
set_option maxRecDepth 20000 in
theorem coX12_isToldOf_J64 (l : Launch) (e : Nat) (he : 4 ≤ e) (v0 : Nat) (v1 : Int32) (v2 : Int32) : zCo l (e + 1) 0 0 iX12_isToldOf 64 [(0, .ref v0), (1, .int v1), (2, .int v2)] [] (X12_isToldOf_J64 v0 v1 v2) := by
  unfold X12_isToldOf_J64
  refine zco_p tkX12_isToldOf 38 1 (pc' := 65) (L' := [(0, .ref v0), (1, .int v1), (2, .int v2)]) (S' := [.ref v0]) rfl ?_
  refine zco_gr fl_12_7 rfl (zdk (cc := cX12_isToldOf) (q := (65, .getfield 7, 3)) tkX12_isToldOf 39 rfl) (fun x1 => ?_)
  refine zco_p tkX12_isToldOf 40 3 (pc' := 71) (L' := [(0, .ref v0), (1, .int v1), (2, .int v2)]) (S' := [.int (v2 + 1), .ref x1]) rfl ?_
  refine zco_iaload (zdk (cc := cX12_isToldOf) (q := (71, .iaload, 1)) tkX12_isToldOf 43 rfl) (fun x2 => ?_)
  refine zco_p tkX12_isToldOf 44 1 (pc' := 74) (L' := [(0, .ref v0), (1, .int v1), (2, .int v2)]) (S' := [.int 99, .int x2]) rfl ?_
  refine zco_icmp_le (tgt := 79) (zdk (cc := cX12_isToldOf) (q := (74, .if_icmp .le 5, 3)) tkX12_isToldOf 45 rfl) rfl ?_ ?_
  · refine zco_p tkX12_isToldOf 48 2 (pc' := 82) (L' := [(4, .int 2), (0, .ref v0), (1, .int v1), (2, .int v2)]) (S' := []) rfl ?_
    exact zco_sub [1, 2, 3, 0] rfl (zco_fix (Lf := fun x : Int32 => [(0, .ref v0), (1, .int v1), (2, .int v2), (4, .int x)]) (Sf := fun _ => []) (fun r hr x => coX12_isToldOf_B82 l e he v0 v1 v2 r hr x) zFU 2)
  · refine zco_p tkX12_isToldOf 46 1 (pc' := 78) (L' := [(0, .ref v0), (1, .int v1), (2, .int v2)]) (S' := [.int 0]) rfl ?_
    exact zco_zret rfl rfl rfl (zdk (cc := cX12_isToldOf) (q := (78, .ireturn, 1)) tkX12_isToldOf 47 rfl)
def X12_isToldOf (v0 : Nat) (v1 : Int32) : zM := z_rc 12 v0 (z_ci (X12_toldAt v0 v1) fun y1 => z_gr 12 0 v0 fun x2 => z_la 20 x2 y1 fun x3 => z_if (x3 = 255) (X12_isToldOf_J64 v0 v1 y1)
   (z_rc 12 v0 (z_ci (X12_areTwo v0 v1.toInt64 x3.toInt64) fun y4 => z_if (y4 = 0) (z_rb 0)
   (z_gr 12 0 v0 fun x5 => z_rc 12 v0 (z_ci (X12_toldAt v0 x3) fun y6 => z_la 20 x5 y6 fun x7 => z_if (x7 = v1) (z_rc 12 v0 (z_ci (X12_codeOf v0 v1) fun y8 => z_rc 12 v0 (z_ci (X12_codeOf v0 x3) fun y9 => z_rc 12 v0 (z_ci (X12_areKin v0 y8 y9) fun y10 => z_if (y10 = 0) (X12_isToldOf_J64 v0 v1 y1)
   (z_rb 0)))))
   (z_rb 0))))))
set_option maxHeartbeats 2000000 in
set_option maxRecDepth 20000 in
theorem coX12_isToldOf (l : Launch) (e : Nat) (he : 4 ≤ e) (v0 : Nat) (v1 : Int32) : zCo l (e + 1) 0 0 iX12_isToldOf 0 [(0, .ref v0), (1, .int v1)] [] (X12_isToldOf v0 v1) := by
  unfold X12_isToldOf
  refine zco_p tkX12_isToldOf 0 2 (pc' := 2) (L' := [(0, .ref v0), (1, .int v1)]) (S' := [.int v1, .ref v0]) rfl ?_
  refine zco_Vi (rc := 0) (rs := 0) (mc := 0) (ms := 0) (As := [.int v1]) (S := []) vmX12_toldAt (mtX12_toldAt l e (by omega) v0 v1) q_2300 rfl rfl (Nat.le_of_ble_eq_true rfl) (zdk (cc := cX12_isToldOf) (q := (2, .invokevirtual 739, 3)) tkX12_isToldOf 2 rfl) (fun y1 => ?_)
  refine zco_p tkX12_isToldOf 3 2 (pc' := 7) (L' := [(2, .int y1), (0, .ref v0), (1, .int v1)]) (S' := [.ref v0]) rfl ?_
  refine zco_gr fl_12_7 rfl (zdk (cc := cX12_isToldOf) (q := (7, .getfield 7, 3)) tkX12_isToldOf 5 rfl) (fun x2 => ?_)
  refine zco_p tkX12_isToldOf 6 1 (pc' := 11) (L' := [(2, .int y1), (0, .ref v0), (1, .int v1)]) (S' := [.int y1, .ref x2]) rfl ?_
  refine zco_iaload (zdk (cc := cX12_isToldOf) (q := (11, .iaload, 1)) tkX12_isToldOf 7 rfl) (fun x3 => ?_)
  refine zco_p tkX12_isToldOf 8 3 (pc' := 17) (L' := [(3, .int x3), (2, .int y1), (0, .ref v0), (1, .int v1)]) (S' := [.int 255, .int x3]) rfl ?_
  refine zco_icmp_eq (tgt := 64) (zdk (cc := cX12_isToldOf) (q := (17, .if_icmp .eq 47, 3)) tkX12_isToldOf 11 rfl) rfl ?_ ?_
  · exact zco_sub [2, 3, 1] rfl (coX12_isToldOf_J64 l e he v0 v1 y1)
  · refine zco_p tkX12_isToldOf 12 5 (pc' := 25) (L' := [(3, .int x3), (2, .int y1), (0, .ref v0), (1, .int v1)]) (S' := [.long x3.toInt64, .long v1.toInt64, .ref v0]) rfl ?_
    refine zco_Vi (rc := 0) (rs := 0) (mc := 0) (ms := 0) (As := [.long v1.toInt64, .long x3.toInt64]) (S := []) vmX12_areTwo (mtX12_areTwo l e (by omega) v0 v1.toInt64 x3.toInt64) q_1990 rfl rfl (Nat.le_of_ble_eq_true rfl) (zdk (cc := cX12_isToldOf) (q := (25, .invokevirtual 545, 3)) tkX12_isToldOf 17 rfl) (fun y4 => ?_)
    refine zco_if_eq (tgt := 62) (zdk (cc := cX12_isToldOf) (q := (28, .ifCond .eq 34, 3)) tkX12_isToldOf 18 rfl) rfl ?_ ?_
    · refine zco_p tkX12_isToldOf 36 1 (pc' := 63) (L' := [(3, .int x3), (2, .int y1), (0, .ref v0), (1, .int v1)]) (S' := [.int 0]) rfl ?_
      exact zco_zret rfl rfl rfl (zdk (cc := cX12_isToldOf) (q := (63, .ireturn, 1)) tkX12_isToldOf 37 rfl)
    · refine zco_p tkX12_isToldOf 19 1 (pc' := 32) (L' := [(3, .int x3), (2, .int y1), (0, .ref v0), (1, .int v1)]) (S' := [.ref v0]) rfl ?_
      refine zco_gr fl_12_7 rfl (zdk (cc := cX12_isToldOf) (q := (32, .getfield 7, 3)) tkX12_isToldOf 20 rfl) (fun x5 => ?_)
      refine zco_p tkX12_isToldOf 21 2 (pc' := 37) (L' := [(3, .int x3), (2, .int y1), (0, .ref v0), (1, .int v1)]) (S' := [.int x3, .ref v0, .ref x5]) rfl ?_
      refine zco_Vi (rc := 0) (rs := 0) (mc := 0) (ms := 0) (As := [.int x3]) (S := [.ref x5]) vmX12_toldAt (mtX12_toldAt l e (by omega) v0 x3) q_2300 rfl rfl (Nat.le_of_ble_eq_true rfl) (zdk (cc := cX12_isToldOf) (q := (37, .invokevirtual 739, 3)) tkX12_isToldOf 23 rfl) (fun y6 => ?_)
      refine zco_iaload (zdk (cc := cX12_isToldOf) (q := (40, .iaload, 1)) tkX12_isToldOf 24 rfl) (fun x7 => ?_)
      refine zco_p tkX12_isToldOf 25 1 (pc' := 42) (L' := [(3, .int x3), (2, .int y1), (0, .ref v0), (1, .int v1)]) (S' := [.int v1, .int x7]) rfl ?_
      refine zco_icmp_ne (tgt := 62) (zdk (cc := cX12_isToldOf) (q := (42, .if_icmp .ne 20, 3)) tkX12_isToldOf 26 rfl) rfl ?_ ?_
      · refine zco_p tkX12_isToldOf 36 1 (pc' := 63) (L' := [(3, .int x3), (2, .int y1), (0, .ref v0), (1, .int v1)]) (S' := [.int 0]) rfl ?_
        exact zco_zret rfl rfl rfl (zdk (cc := cX12_isToldOf) (q := (63, .ireturn, 1)) tkX12_isToldOf 37 rfl)
      · refine zco_p tkX12_isToldOf 27 3 (pc' := 48) (L' := [(3, .int x3), (2, .int y1), (0, .ref v0), (1, .int v1)]) (S' := [.int v1, .ref v0, .ref v0]) rfl ?_
        refine zco_Vi (rc := 0) (rs := 0) (mc := 0) (ms := 0) (As := [.int v1]) (S := [.ref v0]) vmX12_codeOf (mtX12_codeOf l e (by omega) v0 v1) q_1946 rfl rfl (Nat.le_of_ble_eq_true rfl) (zdk (cc := cX12_isToldOf) (q := (48, .invokevirtual 429, 3)) tkX12_isToldOf 30 rfl) (fun y8 => ?_)
        refine zco_p tkX12_isToldOf 31 2 (pc' := 53) (L' := [(3, .int x3), (2, .int y1), (0, .ref v0), (1, .int v1)]) (S' := [.int x3, .ref v0, .int y8, .ref v0]) rfl ?_
        refine zco_Vi (rc := 0) (rs := 0) (mc := 0) (ms := 0) (As := [.int x3]) (S := [.int y8, .ref v0]) vmX12_codeOf (mtX12_codeOf l e (by omega) v0 x3) q_1946 rfl rfl (Nat.le_of_ble_eq_true rfl) (zdk (cc := cX12_isToldOf) (q := (53, .invokevirtual 429, 3)) tkX12_isToldOf 33 rfl) (fun y9 => ?_)
        refine zco_Vi (rc := 0) (rs := 0) (mc := 0) (ms := 0) (As := [.int y8, .int y9]) (S := []) vmX12_areKin (mtX12_areKin l e (by omega) v0 y8 y9) q_2057 rfl rfl (Nat.le_of_ble_eq_true rfl) (zdk (cc := cX12_isToldOf) (q := (56, .invokevirtual 496, 3)) tkX12_isToldOf 34 rfl) (fun y10 => ?_)
        refine zco_if_eq (tgt := 64) (zdk (cc := cX12_isToldOf) (q := (59, .ifCond .eq 5, 3)) tkX12_isToldOf 35 rfl) rfl ?_ ?_
        · exact zco_sub [2, 3, 1] rfl (coX12_isToldOf_J64 l e he v0 v1 y1)
        · refine zco_p tkX12_isToldOf 36 1 (pc' := 63) (L' := [(3, .int x3), (2, .int y1), (0, .ref v0), (1, .int v1)]) (S' := [.int 0]) rfl ?_
          exact zco_zret rfl rfl rfl (zdk (cc := cX12_isToldOf) (q := (63, .ireturn, 1)) tkX12_isToldOf 37 rfl)
theorem mtX12_isToldOf (l : Launch) (d : Nat) (hd : 5 ≤ d) (v0 : Nat) (v1 : Int32) : zMet l d 0 0 yX12_isToldOf cX12_isToldOf 5 (Option.some .boolean) [.ref v0, .int v1] (X12_isToldOf v0 v1) := by
  obtain ⟨e, rfl⟩ : ∃ e, d = e + 1 := ⟨d - 1, by omega⟩
  exact zmet_of (own := RX12) (ini := false) (by decide +kernel) rfl (fun _ => by contradiction) (Nat.le_of_ble_eq_true rfl) (coX12_isToldOf l e (by omega) v0 v1)
