abbrev iX11_sideOf : zI := (RX11, cX11_sideOf, 1, (Option.some .int), false)
def tX11_sideOf : List (Nat × Instr × Nat) := [(0, .iload_n 0, 1), (1, .bipush 6, 2), (3, .if_icmp .ge 7, 3), (6, .iconst 0, 1), (7, .goto 4, 3), (10, .iconst 1, 1), (11, .ireturn, 1)]
set_option maxRecDepth 100000 in
theorem tkX11_sideOf : ∀ q ∈ tX11_sideOf, decode cX11_sideOf q.1 = .ok q.2 := by decide +kernel
theorem vmX11_sideOf : zSM yX11_sideOf cX11_sideOf 1 (Option.some .int) 1 := ⟨kX11_sideOf, q_803, q_149, by decide +kernel, by decide⟩
set_option maxHeartbeats 2000000 in
set_option maxRecDepth 20000 in
theorem coX11_sideOf (l : Launch) (e : Nat) (he : 0 ≤ e) (v0 : Int32) : zCo l (e + 1) 0 0 iX11_sideOf 0 [(0, .int v0)] [] (X11_sideOf v0) := by
  unfold X11_sideOf
  refine zco_p tkX11_sideOf 0 2 (pc' := 3) (L' := [(0, .int v0)]) (S' := [.int 6, .int v0]) rfl ?_
  refine zco_icmp_ge (tgt := 10) (zdk (cc := cX11_sideOf) (q := (3, .if_icmp .ge 7, 3)) tkX11_sideOf 2 rfl) rfl ?_ ?_
  · refine zco_p tkX11_sideOf 5 1 (pc' := 11) (L' := [(0, .int v0)]) (S' := [.int 1]) rfl ?_
    exact zco_iret rfl rfl rfl (zdk (cc := cX11_sideOf) (q := (11, .ireturn, 1)) tkX11_sideOf 6 rfl)
  · refine zco_p tkX11_sideOf 3 2 (pc' := 11) (L' := [(0, .int v0)]) (S' := [.int 0]) rfl ?_
    exact zco_iret rfl rfl rfl (zdk (cc := cX11_sideOf) (q := (11, .ireturn, 1)) tkX11_sideOf 6 rfl)
theorem mtX11_sideOf (l : Launch) (d : Nat) (hd : 1 ≤ d) (v0 : Int32) : zMet l d 0 0 yX11_sideOf cX11_sideOf 1 (Option.some .int) [.int v0] (X11_sideOf v0) := by
  obtain ⟨e, rfl⟩ : ∃ e, d = e + 1 := ⟨d - 1, by omega⟩
  exact zmet_of (own := RX11) (ini := false) (by decide +kernel) rfl (fun _ => by contradiction) (Nat.le_of_ble_eq_true rfl) (coX11_sideOf l e (by omega) v0)
abbrev iX2_asked : zI := (RX2, cX2_asked, 5, (Option.some .int), false)
def tX2_asked : List (Nat × Instr × Nat) := [(0, .aload_n 0, 1), (1, .getfield 15, 3), (4, .invokevirtual 37, 3), (7, .istore_n 3, 1), (8, .aload_n 0, 1), (9, .getfield 15, 3), (12, .aload_n 0, 1), (13, .getfield 9, 3), (16, .invokevirtual 99, 3), (19, .aload_n 0, 1), (20, .getfield 15, 3), (23, .invokevirtual 28, 3), (26, .ifCond .eq 14, 3), (29, .aload_n 1, 1), (30, .aload_n 0, 1), (31, .getfield 9, 3), (34, .invokevirtual 103, 3), (37, .goto 4, 3), (40, .iconst (-1), 1), (41, .istore 4, 2), (43, .iload 4, 2), (45, .iconst (-1), 1), (46, .if_icmp .eq 20, 3), (49, .iload_n 2, 1), (50, .iconst (-1), 1), (51, .if_icmp .eq 24, 3), (54, .iload 4, 2), (56, .invokestatic 126, 3), (59, .iload_n 2, 1), (60, .invokestatic 126, 3), (63, .if_icmp .ne 12, 3), (66, .aload_n 0, 1), (67, .getfield 15, 3), (70, .iconst 3, 1), (71, .iload_n 3, 1), (72, .invokevirtual 41, 3), (75, .aload_n 0, 1), (76, .getfield 15, 3), (79, .invokevirtual 28, 3), (82, .ifCond .eq 8, 3), (85, .iload 4, 2), (87, .goto 4, 3), (90, .iconst (-1), 1), (91, .ireturn, 1)]
set_option maxRecDepth 100000 in
theorem tkX2_asked : ∀ q ∈ tX2_asked, decode cX2_asked q.1 = .ok q.2 := by decide +kernel
theorem vmX2_asked : zVM yX2_asked cX2_asked 5 (Option.some .int) 2 2 := ⟨kX2_asked, q_800, q_8, q_154, ⟨_, rfl, rfl⟩, by decide +kernel, by decide⟩
set_option maxHeartbeats 2000000 in
set_option maxRecDepth 20000 in
theorem coX2_asked_J75 (l : Launch) (e : Nat) (he : 10 ≤ e) (v0 : Nat) (v4 : Int32) : zCo l (e + 1) 0 0 iX2_asked 75 [(0, .ref v0), (4, .int v4)] [] (X2_asked_J75 v0 v4) := by
  unfold X2_asked_J75
  refine zco_p tkX2_asked 36 1 (pc' := 76) (L' := [(0, .ref v0), (4, .int v4)]) (S' := [.ref v0]) rfl ?_
  refine zco_gr fl_2_15 rfl (zdk (cc := cX2_asked) (q := (76, .getfield 15, 3)) tkX2_asked 37 rfl) (fun x1 => ?_)
  refine zco_Vi (rc := 0) (rs := 0) (mc := 0) (ms := 0) (As := []) (S := []) vmX9_sound (mtX9_sound l e (by omega) x1) q_664 rfl rfl (Nat.le_of_ble_eq_true rfl) (zdk (cc := cX2_asked) (q := (79, .invokevirtual 28, 3)) tkX2_asked 38 rfl) (fun y2 => ?_)
  refine zco_if_eq (tgt := 90) (zdk (cc := cX2_asked) (q := (82, .ifCond .eq 8, 3)) tkX2_asked 39 rfl) rfl ?_ ?_
  · refine zco_p tkX2_asked 42 1 (pc' := 91) (L' := [(0, .ref v0), (4, .int v4)]) (S' := [.int ((-1))]) rfl ?_
    exact zco_iret rfl rfl rfl (zdk (cc := cX2_asked) (q := (91, .ireturn, 1)) tkX2_asked 43 rfl)
  · refine zco_p tkX2_asked 40 2 (pc' := 91) (L' := [(0, .ref v0), (4, .int v4)]) (S' := [.int v4]) rfl ?_
    exact zco_iret rfl rfl rfl (zdk (cc := cX2_asked) (q := (91, .ireturn, 1)) tkX2_asked 43 rfl)
set_option maxHeartbeats 2000000 in
set_option maxRecDepth 20000 in
theorem coX2_asked_J66 (l : Launch) (e : Nat) (he : 10 ≤ e) (v0 : Nat) (v3 : Int32) (v4 : Int32) : zCo l (e + 1) 0 0 iX2_asked 66 [(0, .ref v0), (3, .int v3), (4, .int v4)] [] (X2_asked_J66 v0 v3 v4) := by
  unfold X2_asked_J66
  refine zco_p tkX2_asked 31 1 (pc' := 67) (L' := [(0, .ref v0), (3, .int v3), (4, .int v4)]) (S' := [.ref v0]) rfl ?_
  refine zco_gr fl_2_15 rfl (zdk (cc := cX2_asked) (q := (67, .getfield 15, 3)) tkX2_asked 32 rfl) (fun x1 => ?_)
  refine zco_p tkX2_asked 33 2 (pc' := 72) (L' := [(0, .ref v0), (3, .int v3), (4, .int v4)]) (S' := [.int v3, .int 3, .ref x1]) rfl ?_
  refine zco_Vv (rc := 0) (rs := 0) (mc := 0) (ms := 0) (As := [.int 3, .int v3]) (S := []) vmX9_fail (mtX9_fail l e (by omega) x1 3 v3) q_677 rfl rfl (Nat.le_of_ble_eq_true rfl) (zdk (cc := cX2_asked) (q := (72, .invokevirtual 41, 3)) tkX2_asked 35 rfl) ?_
  exact zco_sub [0, 2] rfl (coX2_asked_J75 l e he v0 v4)
set_option maxHeartbeats 2000000 in
set_option maxRecDepth 20000 in
theorem coX2_asked_J41 (l : Launch) (e : Nat) (he : 10 ≤ e) (v0 : Nat) (v2 : Int32) (v3 : Int32) (s0 : Int32) : zCo l (e + 1) 0 0 iX2_asked 41 [(0, .ref v0), (2, .int v2), (3, .int v3)] [.int s0] (X2_asked_J41 v0 v2 v3 s0) := by
  unfold X2_asked_J41
  refine zco_p tkX2_asked 19 3 (pc' := 46) (L' := [(4, .int s0), (0, .ref v0), (2, .int v2), (3, .int v3)]) (S' := [.int ((-1)), .int s0]) rfl ?_
  refine zco_icmp_eq (tgt := 66) (zdk (cc := cX2_asked) (q := (46, .if_icmp .eq 20, 3)) tkX2_asked 22 rfl) rfl ?_ ?_
  · exact zco_sub [1, 3, 0] rfl (coX2_asked_J66 l e he v0 v3 s0)
  · refine zco_p tkX2_asked 23 2 (pc' := 51) (L' := [(4, .int s0), (0, .ref v0), (2, .int v2), (3, .int v3)]) (S' := [.int ((-1)), .int v2]) rfl ?_
    refine zco_icmp_eq (tgt := 75) (zdk (cc := cX2_asked) (q := (51, .if_icmp .eq 24, 3)) tkX2_asked 25 rfl) rfl ?_ ?_
    · exact zco_sub [1, 0] rfl (coX2_asked_J75 l e he v0 s0)
    · refine zco_p tkX2_asked 26 1 (pc' := 56) (L' := [(4, .int s0), (0, .ref v0), (2, .int v2), (3, .int v3)]) (S' := [.int s0]) rfl ?_
      refine zco_Ni (rc := 0) (rs := 0) (mc := 0) (ms := 0) (As := [.int s0]) (S := []) vmX11_sideOf (mtX11_sideOf l e (by omega) s0) (host := "ClothWedding") (by decide +kernel) rfl rfl (Nat.le_of_ble_eq_true rfl) (zdk (cc := cX2_asked) (q := (56, .invokestatic 126, 3)) tkX2_asked 27 rfl) (fun y1 => ?_)
      refine zco_p tkX2_asked 28 1 (pc' := 60) (L' := [(4, .int s0), (0, .ref v0), (2, .int v2), (3, .int v3)]) (S' := [.int v2, .int y1]) rfl ?_
      refine zco_Ni (rc := 0) (rs := 0) (mc := 0) (ms := 0) (As := [.int v2]) (S := [.int y1]) vmX11_sideOf (mtX11_sideOf l e (by omega) v2) (host := "ClothWedding") (by decide +kernel) rfl rfl (Nat.le_of_ble_eq_true rfl) (zdk (cc := cX2_asked) (q := (60, .invokestatic 126, 3)) tkX2_asked 29 rfl) (fun y2 => ?_)
      refine zco_icmp_ne (tgt := 75) (zdk (cc := cX2_asked) (q := (63, .if_icmp .ne 12, 3)) tkX2_asked 30 rfl) rfl ?_ ?_
      · exact zco_sub [1, 0] rfl (coX2_asked_J75 l e he v0 s0)
      · exact zco_sub [1, 3, 0] rfl (coX2_asked_J66 l e he v0 v3 s0)
set_option maxHeartbeats 2000000 in
set_option maxRecDepth 20000 in
theorem coX2_asked (l : Launch) (e : Nat) (he : 10 ≤ e) (v0 : Nat) (v1 : Nat) (v2 : Int32) : zCo l (e + 1) 0 0 iX2_asked 0 [(0, .ref v0), (1, .ref v1), (2, .int v2)] [] (X2_asked v0 v1 v2) := by
  unfold X2_asked
  refine zco_p tkX2_asked 0 1 (pc' := 1) (L' := [(0, .ref v0), (1, .ref v1), (2, .int v2)]) (S' := [.ref v0]) rfl ?_
  refine zco_gr fl_2_15 rfl (zdk (cc := cX2_asked) (q := (1, .getfield 15, 3)) tkX2_asked 1 rfl) (fun x1 => ?_)
  refine zco_Vi (rc := 0) (rs := 0) (mc := 0) (ms := 0) (As := []) (S := []) vmX9_begin (mtX9_begin l e (by omega) x1) q_676 rfl rfl (Nat.le_of_ble_eq_true rfl) (zdk (cc := cX2_asked) (q := (4, .invokevirtual 37, 3)) tkX2_asked 2 rfl) (fun y2 => ?_)
  refine zco_p tkX2_asked 3 2 (pc' := 9) (L' := [(3, .int y2), (0, .ref v0), (1, .ref v1), (2, .int v2)]) (S' := [.ref v0]) rfl ?_
  refine zco_gr fl_2_15 rfl (zdk (cc := cX2_asked) (q := (9, .getfield 15, 3)) tkX2_asked 5 rfl) (fun x3 => ?_)
  refine zco_p tkX2_asked 6 1 (pc' := 13) (L' := [(3, .int y2), (0, .ref v0), (1, .ref v1), (2, .int v2)]) (S' := [.ref v0, .ref x3]) rfl ?_
  refine zco_gr fl_2_9 rfl (zdk (cc := cX2_asked) (q := (13, .getfield 9, 3)) tkX2_asked 7 rfl) (fun x4 => ?_)
  refine zco_Vv (rc := 0) (rs := 0) (mc := 0) (ms := 0) (As := [.ref x4]) (S := []) vmX9_takeName (mtX9_takeName l e (by omega) x3 x4) q_765 rfl rfl (Nat.le_of_ble_eq_true rfl) (zdk (cc := cX2_asked) (q := (16, .invokevirtual 99, 3)) tkX2_asked 8 rfl) ?_
  refine zco_p tkX2_asked 9 1 (pc' := 20) (L' := [(3, .int y2), (0, .ref v0), (1, .ref v1), (2, .int v2)]) (S' := [.ref v0]) rfl ?_
  refine zco_gr fl_2_15 rfl (zdk (cc := cX2_asked) (q := (20, .getfield 15, 3)) tkX2_asked 10 rfl) (fun x5 => ?_)
  refine zco_Vi (rc := 0) (rs := 0) (mc := 0) (ms := 0) (As := []) (S := []) vmX9_sound (mtX9_sound l e (by omega) x5) q_664 rfl rfl (Nat.le_of_ble_eq_true rfl) (zdk (cc := cX2_asked) (q := (23, .invokevirtual 28, 3)) tkX2_asked 11 rfl) (fun y6 => ?_)
  refine zco_if_eq (tgt := 40) (zdk (cc := cX2_asked) (q := (26, .ifCond .eq 14, 3)) tkX2_asked 12 rfl) rfl ?_ ?_
  · refine zco_p tkX2_asked 18 1 (pc' := 41) (L' := [(3, .int y2), (0, .ref v0), (1, .ref v1), (2, .int v2)]) (S' := [.int ((-1))]) rfl ?_
    exact zco_sub [1, 3, 0] rfl (coX2_asked_J41 l e he v0 v2 y2 ((-1)))
  · refine zco_p tkX2_asked 13 2 (pc' := 31) (L' := [(3, .int y2), (0, .ref v0), (1, .ref v1), (2, .int v2)]) (S' := [.ref v0, .ref v1]) rfl ?_
    refine zco_gr fl_2_9 rfl (zdk (cc := cX2_asked) (q := (31, .getfield 9, 3)) tkX2_asked 15 rfl) (fun x7 => ?_)
    refine zco_Vi (rc := 0) (rs := 0) (mc := 0) (ms := 0) (As := [.ref x7]) (S := []) vmX1_named (mtX1_named l e (by omega) v1 x7) q_771 rfl rfl (Nat.le_of_ble_eq_true rfl) (zdk (cc := cX2_asked) (q := (34, .invokevirtual 103, 3)) tkX2_asked 16 rfl) (fun y8 => ?_)
    refine zco_p tkX2_asked 17 1 (pc' := 41) (L' := [(3, .int y2), (0, .ref v0), (1, .ref v1), (2, .int v2)]) (S' := [.int y8]) rfl ?_
    exact zco_sub [1, 3, 0] rfl (coX2_asked_J41 l e he v0 v2 y2 y8)
theorem mtX2_asked (l : Launch) (d : Nat) (hd : 11 ≤ d) (v0 : Nat) (v1 : Nat) (v2 : Int32) : zMet l d 0 0 yX2_asked cX2_asked 5 (Option.some .int) [.ref v0, .ref v1, .int v2] (X2_asked v0 v1 v2) := by
  obtain ⟨e, rfl⟩ : ∃ e, d = e + 1 := ⟨d - 1, by omega⟩
  exact zmet_of (own := RX2) (ini := false) (by decide +kernel) rfl (fun _ => by contradiction) (Nat.le_of_ble_eq_true rfl) (coX2_asked l e (by omega) v0 v1 v2)
abbrev iX11_cell : zI := (RX11, cX11_cell, 2, (Option.some .int), false)
def tX11_cell : List (Nat × Instr × Nat) := [(0, .iload_n 0, 1), (1, .bipush 6, 2), (3, .imul, 1), (4, .iload_n 1, 1), (5, .bipush 6, 2), (7, .irem, 1), (8, .iadd, 1), (9, .ireturn, 1)]
set_option maxRecDepth 100000 in
theorem tkX11_cell : ∀ q ∈ tX11_cell, decode cX11_cell q.1 = .ok q.2 := by decide +kernel
theorem vmX11_cell : zSM yX11_cell cX11_cell 2 (Option.some .int) 2 := ⟨kX11_cell, q_810, q_149, by decide +kernel, by decide⟩
set_option maxHeartbeats 2000000 in
set_option maxRecDepth 20000 in
theorem coX11_cell (l : Launch) (e : Nat) (he : 0 ≤ e) (v0 : Int32) (v1 : Int32) : zCo l (e + 1) 0 0 iX11_cell 0 [(0, .int v0), (1, .int v1)] [] (X11_cell v0 v1) := by
  unfold X11_cell
  refine zco_p tkX11_cell 0 5 (pc' := 7) (L' := [(0, .int v0), (1, .int v1)]) (S' := [.int 6, .int v1, .int (v0 * 6)]) rfl ?_
  refine zco_irem (zdk (cc := cX11_cell) (q := (7, .irem, 1)) tkX11_cell 5 rfl) ?_
  refine zco_p tkX11_cell 6 1 (pc' := 9) (L' := [(0, .int v0), (1, .int v1)]) (S' := [.int ((v0 * 6) + (v1 - v1 / 6 * 6))]) rfl ?_
  exact zco_iret rfl rfl rfl (zdk (cc := cX11_cell) (q := (9, .ireturn, 1)) tkX11_cell 7 rfl)
theorem mtX11_cell (l : Launch) (d : Nat) (hd : 1 ≤ d) (v0 : Int32) (v1 : Int32) : zMet l d 0 0 yX11_cell cX11_cell 2 (Option.some .int) [.int v0, .int v1] (X11_cell v0 v1) := by
  obtain ⟨e, rfl⟩ : ∃ e, d = e + 1 := ⟨d - 1, by omega⟩
  exact zmet_of (own := RX11) (ini := false) (by decide +kernel) rfl (fun _ => by contradiction) (Nat.le_of_ble_eq_true rfl) (coX11_cell l e (by omega) v0 v1)
abbrev iX1_areKin : zI := (RX1, cX1_areKin, 3, (Option.some .boolean), false)
def tX1_areKin : List (Nat × Instr × Nat) := [(0, .aload_n 0, 1), (1, .getfield 27, 3), (4, .iload_n 1, 1), (5, .iload_n 2, 1), (6, .invokestatic 92, 3), (9, .baload, 1), (10, .ireturn, 1)]
set_option maxRecDepth 100000 in
theorem tkX1_areKin : ∀ q ∈ tX1_areKin, decode cX1_areKin q.1 = .ok q.2 := by decide +kernel
theorem vmX1_areKin : zVM yX1_areKin cX1_areKin 3 (Option.some .boolean) 2 1 := ⟨kX1_areKin, q_806, q_807, q_155, ⟨_, rfl, rfl⟩, by decide +kernel, by decide⟩
set_option maxHeartbeats 2000000 in
set_option maxRecDepth 20000 in
theorem coX1_areKin (l : Launch) (e : Nat) (he : 1 ≤ e) (v0 : Nat) (v1 : Int32) (v2 : Int32) : zCo l (e + 1) 0 0 iX1_areKin 0 [(0, .ref v0), (1, .int v1), (2, .int v2)] [] (X1_areKin v0 v1 v2) := by
  unfold X1_areKin
  refine zco_p tkX1_areKin 0 1 (pc' := 1) (L' := [(0, .ref v0), (1, .int v1), (2, .int v2)]) (S' := [.ref v0]) rfl ?_
  refine zco_gr fl_1_27 rfl (zdk (cc := cX1_areKin) (q := (1, .getfield 27, 3)) tkX1_areKin 1 rfl) (fun x1 => ?_)
  refine zco_p tkX1_areKin 2 2 (pc' := 6) (L' := [(0, .ref v0), (1, .int v1), (2, .int v2)]) (S' := [.int v2, .int v1, .ref x1]) rfl ?_
  refine zco_Ni (rc := 0) (rs := 0) (mc := 0) (ms := 0) (As := [.int v1, .int v2]) (S := [.ref x1]) vmX11_cell (mtX11_cell l e (by omega) v1 v2) (host := "ClothWedding") (by decide +kernel) rfl rfl (Nat.le_of_ble_eq_true rfl) (zdk (cc := cX1_areKin) (q := (6, .invokestatic 92, 3)) tkX1_areKin 4 rfl) (fun y2 => ?_)
  refine zco_baload (zdk (cc := cX1_areKin) (q := (9, .baload, 1)) tkX1_areKin 5 rfl) (fun x3 => ?_)
  exact zco_zret rfl rfl rfl (zdk (cc := cX1_areKin) (q := (10, .ireturn, 1)) tkX1_areKin 6 rfl)
theorem mtX1_areKin (l : Launch) (d : Nat) (hd : 2 ≤ d) (v0 : Nat) (v1 : Int32) (v2 : Int32) : zMet l d 0 0 yX1_areKin cX1_areKin 3 (Option.some .boolean) [.ref v0, .int v1, .int v2] (X1_areKin v0 v1 v2) := by
  obtain ⟨e, rfl⟩ : ∃ e, d = e + 1 := ⟨d - 1, by omega⟩
  exact zmet_of (own := RX1) (ini := false) (by decide +kernel) rfl (fun _ => by contradiction) (Nat.le_of_ble_eq_true rfl) (coX1_areKin l e (by omega) v0 v1 v2)
abbrev iX2_kinship : zI := (RX2, cX2_kinship, 5, (Option.none : Option FieldType), false)
def tX2_kinship : List (Nat × Instr × Nat) := [(0, .aload_n 0, 1), (1, .getfield 15, 3), (4, .invokevirtual 79, 3), (7, .aload_n 0, 1), (8, .aload_n 1, 1), (9, .iconst (-1), 1), (10, .invokevirtual 130, 3), (13, .istore_n 2, 1), (14, .aload_n 0, 1), (15, .getfield 15, 3), (18, .invokevirtual 37, 3), (21, .istore_n 3, 1), (22, .iload_n 2, 1), (23, .iconst (-1), 1), (24, .if_icmp .ne 7, 3), (27, .iconst (-1), 1), (28, .goto 9, 3), (31, .aload_n 0, 1), (32, .aload_n 1, 1), (33, .iload_n 2, 1), (34, .invokevirtual 130, 3), (37, .istore 4, 2), (39, .iload 4, 2), (41, .iconst (-1), 1), (42, .if_icmp .ne 4, 3), (45, .return_, 1), (46, .aload_n 1, 1), (47, .iload_n 2, 1), (48, .iload 4, 2), (50, .invokevirtual 134, 3), (53, .ifCond .eq 13, 3), (56, .aload_n 0, 1), (57, .getfield 15, 3), (60, .iconst 3, 1), (61, .iload_n 3, 1), (62, .invokevirtual 41, 3), (65, .return_, 1), (66, .aload_n 1, 1), (67, .getfield 138, 3), (70, .iload_n 2, 1), (71, .iload 4, 2), (73, .invokestatic 142, 3), (76, .iconst 1, 1), (77, .bastore, 1), (78, .aload_n 1, 1), (79, .getfield 138, 3), (82, .iload 4, 2), (84, .iload_n 2, 1), (85, .invokestatic 142, 3), (88, .iconst 1, 1), (89, .bastore, 1), (90, .aload_n 1, 1), (91, .dup, 1), (92, .getfield 145, 3), (95, .iconst 1, 1), (96, .iadd, 1), (97, .putfield 145, 3), (100, .return_, 1)]
set_option maxRecDepth 100000 in
theorem tkX2_kinship : ∀ q ∈ tX2_kinship, decode cX2_kinship q.1 = .ok q.2 := by decide +kernel
theorem vmX2_kinship : zVM yX2_kinship cX2_kinship 5 (Option.none : Option FieldType) 1 2 := ⟨kX2_kinship, q_796, q_7, q_154, ⟨_, rfl, rfl⟩, by decide +kernel, by decide⟩
set_option maxHeartbeats 2000000 in
set_option maxRecDepth 20000 in
theorem coX2_kinship_J37 (l : Launch) (e : Nat) (he : 11 ≤ e) (v0 : Nat) (v1 : Nat) (v2 : Int32) (v3 : Int32) (s0 : Int32) : zCo l (e + 1) 0 0 iX2_kinship 37 [(0, .ref v0), (1, .ref v1), (2, .int v2), (3, .int v3)] [.int s0] (X2_kinship_J37 v0 v1 v2 v3 s0) := by
  unfold X2_kinship_J37
  refine zco_p tkX2_kinship 21 3 (pc' := 42) (L' := [(4, .int s0), (0, .ref v0), (1, .ref v1), (2, .int v2), (3, .int v3)]) (S' := [.int ((-1)), .int s0]) rfl ?_
  refine zco_icmp_ne (tgt := 46) (zdk (cc := cX2_kinship) (q := (42, .if_icmp .ne 4, 3)) tkX2_kinship 24 rfl) rfl ?_ ?_
  · refine zco_p tkX2_kinship 26 3 (pc' := 50) (L' := [(4, .int s0), (0, .ref v0), (1, .ref v1), (2, .int v2), (3, .int v3)]) (S' := [.int s0, .int v2, .ref v1]) rfl ?_
    refine zco_Vi (rc := 0) (rs := 0) (mc := 0) (ms := 0) (As := [.int v2, .int s0]) (S := []) vmX1_areKin (mtX1_areKin l e (by omega) v1 v2 s0) q_805 rfl rfl (Nat.le_of_ble_eq_true rfl) (zdk (cc := cX2_kinship) (q := (50, .invokevirtual 134, 3)) tkX2_kinship 29 rfl) (fun y1 => ?_)
    refine zco_if_eq (tgt := 66) (zdk (cc := cX2_kinship) (q := (53, .ifCond .eq 13, 3)) tkX2_kinship 30 rfl) rfl ?_ ?_
    · refine zco_p tkX2_kinship 37 1 (pc' := 67) (L' := [(4, .int s0), (0, .ref v0), (1, .ref v1), (2, .int v2), (3, .int v3)]) (S' := [.ref v1]) rfl ?_
      refine zco_gr fl_2_138 rfl (zdk (cc := cX2_kinship) (q := (67, .getfield 138, 3)) tkX2_kinship 38 rfl) (fun x2 => ?_)
      refine zco_p tkX2_kinship 39 2 (pc' := 73) (L' := [(4, .int s0), (0, .ref v0), (1, .ref v1), (2, .int v2), (3, .int v3)]) (S' := [.int s0, .int v2, .ref x2]) rfl ?_
      refine zco_Ni (rc := 0) (rs := 0) (mc := 0) (ms := 0) (As := [.int v2, .int s0]) (S := [.ref x2]) vmX11_cell (mtX11_cell l e (by omega) v2 s0) (host := "ClothWedding") (by decide +kernel) rfl rfl (Nat.le_of_ble_eq_true rfl) (zdk (cc := cX2_kinship) (q := (73, .invokestatic 142, 3)) tkX2_kinship 41 rfl) (fun y3 => ?_)
      refine zco_p tkX2_kinship 42 1 (pc' := 77) (L' := [(4, .int s0), (0, .ref v0), (1, .ref v1), (2, .int v2), (3, .int v3)]) (S' := [.int 1, .int y3, .ref x2]) rfl ?_
      refine zco_bastore (zdk (cc := cX2_kinship) (q := (77, .bastore, 1)) tkX2_kinship 43 rfl) ?_
      refine zco_p tkX2_kinship 44 1 (pc' := 79) (L' := [(4, .int s0), (0, .ref v0), (1, .ref v1), (2, .int v2), (3, .int v3)]) (S' := [.ref v1]) rfl ?_
      refine zco_gr fl_2_138 rfl (zdk (cc := cX2_kinship) (q := (79, .getfield 138, 3)) tkX2_kinship 45 rfl) (fun x4 => ?_)
      refine zco_p tkX2_kinship 46 2 (pc' := 85) (L' := [(4, .int s0), (0, .ref v0), (1, .ref v1), (2, .int v2), (3, .int v3)]) (S' := [.int v2, .int s0, .ref x4]) rfl ?_
      refine zco_Ni (rc := 0) (rs := 0) (mc := 0) (ms := 0) (As := [.int s0, .int v2]) (S := [.ref x4]) vmX11_cell (mtX11_cell l e (by omega) s0 v2) (host := "ClothWedding") (by decide +kernel) rfl rfl (Nat.le_of_ble_eq_true rfl) (zdk (cc := cX2_kinship) (q := (85, .invokestatic 142, 3)) tkX2_kinship 48 rfl) (fun y5 => ?_)
      refine zco_p tkX2_kinship 49 1 (pc' := 89) (L' := [(4, .int s0), (0, .ref v0), (1, .ref v1), (2, .int v2), (3, .int v3)]) (S' := [.int 1, .int y5, .ref x4]) rfl ?_
      refine zco_bastore (zdk (cc := cX2_kinship) (q := (89, .bastore, 1)) tkX2_kinship 50 rfl) ?_
      refine zco_p tkX2_kinship 51 2 (pc' := 92) (L' := [(4, .int s0), (0, .ref v0), (1, .ref v1), (2, .int v2), (3, .int v3)]) (S' := [.ref v1, .ref v1]) rfl ?_
      refine zco_gi fl_2_145 rfl (zdk (cc := cX2_kinship) (q := (92, .getfield 145, 3)) tkX2_kinship 53 rfl) (fun x6 => ?_)
      refine zco_p tkX2_kinship 54 2 (pc' := 97) (L' := [(4, .int s0), (0, .ref v0), (1, .ref v1), (2, .int v2), (3, .int v3)]) (S' := [.int (x6 + 1), .ref v1]) rfl ?_
      refine zco_pi fl_2_145 rfl rfl (zdk (cc := cX2_kinship) (q := (97, .putfield 145, 3)) tkX2_kinship 56 rfl) ?_
      exact zco_vret rfl rfl rfl (zdk (cc := cX2_kinship) (q := (100, .return_, 1)) tkX2_kinship 57 rfl)
    · refine zco_p tkX2_kinship 31 1 (pc' := 57) (L' := [(4, .int s0), (0, .ref v0), (1, .ref v1), (2, .int v2), (3, .int v3)]) (S' := [.ref v0]) rfl ?_
      refine zco_gr fl_2_15 rfl (zdk (cc := cX2_kinship) (q := (57, .getfield 15, 3)) tkX2_kinship 32 rfl) (fun x7 => ?_)
      refine zco_p tkX2_kinship 33 2 (pc' := 62) (L' := [(4, .int s0), (0, .ref v0), (1, .ref v1), (2, .int v2), (3, .int v3)]) (S' := [.int v3, .int 3, .ref x7]) rfl ?_
      refine zco_Vv (rc := 0) (rs := 0) (mc := 0) (ms := 0) (As := [.int 3, .int v3]) (S := []) vmX9_fail (mtX9_fail l e (by omega) x7 3 v3) q_677 rfl rfl (Nat.le_of_ble_eq_true rfl) (zdk (cc := cX2_kinship) (q := (62, .invokevirtual 41, 3)) tkX2_kinship 35 rfl) ?_
      exact zco_vret rfl rfl rfl (zdk (cc := cX2_kinship) (q := (65, .return_, 1)) tkX2_kinship 36 rfl)
  · exact zco_vret rfl rfl rfl (zdk (cc := cX2_kinship) (q := (45, .return_, 1)) tkX2_kinship 25 rfl)
set_option maxHeartbeats 2000000 in
set_option maxRecDepth 20000 in
theorem coX2_kinship (l : Launch) (e : Nat) (he : 11 ≤ e) (v0 : Nat) (v1 : Nat) : zCo l (e + 1) 0 0 iX2_kinship 0 [(0, .ref v0), (1, .ref v1)] [] (X2_kinship v0 v1) := by
  unfold X2_kinship
  refine zco_p tkX2_kinship 0 1 (pc' := 1) (L' := [(0, .ref v0), (1, .ref v1)]) (S' := [.ref v0]) rfl ?_
  refine zco_gr fl_2_15 rfl (zdk (cc := cX2_kinship) (q := (1, .getfield 15, 3)) tkX2_kinship 1 rfl) (fun x1 => ?_)
  refine zco_Vv (rc := 0) (rs := 0) (mc := 0) (ms := 0) (As := []) (S := []) vmX9_passWord (mtX9_passWord l e (by omega) x1) q_761 rfl rfl (Nat.le_of_ble_eq_true rfl) (zdk (cc := cX2_kinship) (q := (4, .invokevirtual 79, 3)) tkX2_kinship 2 rfl) ?_
  refine zco_p tkX2_kinship 3 3 (pc' := 10) (L' := [(0, .ref v0), (1, .ref v1)]) (S' := [.int ((-1)), .ref v1, .ref v0]) rfl ?_
  refine zco_Vi (rc := 0) (rs := 0) (mc := 0) (ms := 0) (As := [.ref v1, .int ((-1))]) (S := []) vmX2_asked (mtX2_asked l e (by omega) v0 v1 ((-1))) q_798 rfl rfl (Nat.le_of_ble_eq_true rfl) (zdk (cc := cX2_kinship) (q := (10, .invokevirtual 130, 3)) tkX2_kinship 6 rfl) (fun y2 => ?_)
  refine zco_p tkX2_kinship 7 2 (pc' := 15) (L' := [(2, .int y2), (0, .ref v0), (1, .ref v1)]) (S' := [.ref v0]) rfl ?_
  refine zco_gr fl_2_15 rfl (zdk (cc := cX2_kinship) (q := (15, .getfield 15, 3)) tkX2_kinship 9 rfl) (fun x3 => ?_)
  refine zco_Vi (rc := 0) (rs := 0) (mc := 0) (ms := 0) (As := []) (S := []) vmX9_begin (mtX9_begin l e (by omega) x3) q_676 rfl rfl (Nat.le_of_ble_eq_true rfl) (zdk (cc := cX2_kinship) (q := (18, .invokevirtual 37, 3)) tkX2_kinship 10 rfl) (fun y4 => ?_)
  refine zco_p tkX2_kinship 11 3 (pc' := 24) (L' := [(3, .int y4), (2, .int y2), (0, .ref v0), (1, .ref v1)]) (S' := [.int ((-1)), .int y2]) rfl ?_
  refine zco_icmp_ne (tgt := 31) (zdk (cc := cX2_kinship) (q := (24, .if_icmp .ne 7, 3)) tkX2_kinship 14 rfl) rfl ?_ ?_
  · refine zco_p tkX2_kinship 17 3 (pc' := 34) (L' := [(3, .int y4), (2, .int y2), (0, .ref v0), (1, .ref v1)]) (S' := [.int y2, .ref v1, .ref v0]) rfl ?_
    refine zco_Vi (rc := 0) (rs := 0) (mc := 0) (ms := 0) (As := [.ref v1, .int y2]) (S := []) vmX2_asked (mtX2_asked l e (by omega) v0 v1 y2) q_798 rfl rfl (Nat.le_of_ble_eq_true rfl) (zdk (cc := cX2_kinship) (q := (34, .invokevirtual 130, 3)) tkX2_kinship 20 rfl) (fun y5 => ?_)
    exact zco_sub [2, 3, 1, 0] rfl (coX2_kinship_J37 l e he v0 v1 y2 y4 y5)
  · refine zco_p tkX2_kinship 15 2 (pc' := 37) (L' := [(3, .int y4), (2, .int y2), (0, .ref v0), (1, .ref v1)]) (S' := [.int ((-1))]) rfl ?_
    exact zco_sub [2, 3, 1, 0] rfl (coX2_kinship_J37 l e he v0 v1 y2 y4 ((-1)))
theorem mtX2_kinship (l : Launch) (d : Nat) (hd : 12 ≤ d) (v0 : Nat) (v1 : Nat) : zMet l d 0 0 yX2_kinship cX2_kinship 5 (Option.none : Option FieldType) [.ref v0, .ref v1] (X2_kinship v0 v1) := by
  obtain ⟨e, rfl⟩ : ∃ e, d = e + 1 := ⟨d - 1, by omega⟩
  exact zmet_of (own := RX2) (ini := false) (by decide +kernel) rfl (fun _ => by contradiction) (Nat.le_of_ble_eq_true rfl) (coX2_kinship l e (by omega) v0 v1)
abbrev iX2_bearing : zI := (RX2, cX2_bearing, 5, (Option.none : Option FieldType), false)
def tX2_bearing : List (Nat × Instr × Nat) := [(0, .aload_n 0, 1), (1, .getfield 15, 3), (4, .invokevirtual 79, 3), (7, .aload_n 0, 1), (8, .aload_n 1, 1), (9, .iconst (-1), 1), (10, .invokevirtual 130, 3), (13, .istore_n 3, 1), (14, .iload_n 3, 1), (15, .iconst (-1), 1), (16, .if_icmp .ne 7, 3), (19, .iconst (-1), 1), (20, .goto 9, 3), (23, .aload_n 0, 1), (24, .aload_n 1, 1), (25, .iload_n 3, 1), (26, .invokevirtual 130, 3), (29, .istore 4, 2), (31, .iload 4, 2), (33, .iconst (-1), 1), (34, .if_icmp .eq 21, 3), (37, .aload_n 2, 1), (38, .iload_n 3, 1), (39, .iload 4, 2), (41, .invokestatic 142, 3), (44, .aload_n 0, 1), (45, .getfield 15, 3), (48, .iconst 0, 1), (49, .bipush 9, 2), (51, .invokevirtual 82, 3), (54, .iastore, 1), (55, .return_, 1)]
set_option maxRecDepth 100000 in
theorem tkX2_bearing : ∀ q ∈ tX2_bearing, decode cX2_bearing q.1 = .ok q.2 := by decide +kernel
theorem vmX2_bearing : zVM yX2_bearing cX2_bearing 5 (Option.none : Option FieldType) 2 2 := ⟨kX2_bearing, q_815, q_9, q_154, ⟨_, rfl, rfl⟩, by decide +kernel, by decide⟩
set_option maxHeartbeats 2000000 in
set_option maxRecDepth 20000 in
theorem coX2_bearing_J29 (l : Launch) (e : Nat) (he : 11 ≤ e) (v0 : Nat) (v2 : Nat) (v3 : Int32) (s0 : Int32) : zCo l (e + 1) 0 0 iX2_bearing 29 [(0, .ref v0), (2, .ref v2), (3, .int v3)] [.int s0] (X2_bearing_J29 v0 v2 v3 s0) := by
  unfold X2_bearing_J29
  refine zco_p tkX2_bearing 17 3 (pc' := 34) (L' := [(4, .int s0), (0, .ref v0), (2, .ref v2), (3, .int v3)]) (S' := [.int ((-1)), .int s0]) rfl ?_
  refine zco_icmp_eq (tgt := 55) (zdk (cc := cX2_bearing) (q := (34, .if_icmp .eq 21, 3)) tkX2_bearing 20 rfl) rfl ?_ ?_
  · exact zco_vret rfl rfl rfl (zdk (cc := cX2_bearing) (q := (55, .return_, 1)) tkX2_bearing 31 rfl)
  · refine zco_p tkX2_bearing 21 3 (pc' := 41) (L' := [(4, .int s0), (0, .ref v0), (2, .ref v2), (3, .int v3)]) (S' := [.int s0, .int v3, .ref v2]) rfl ?_
    refine zco_Ni (rc := 0) (rs := 0) (mc := 0) (ms := 0) (As := [.int v3, .int s0]) (S := [.ref v2]) vmX11_cell (mtX11_cell l e (by omega) v3 s0) (host := "ClothWedding") (by decide +kernel) rfl rfl (Nat.le_of_ble_eq_true rfl) (zdk (cc := cX2_bearing) (q := (41, .invokestatic 142, 3)) tkX2_bearing 24 rfl) (fun y1 => ?_)
    refine zco_p tkX2_bearing 25 1 (pc' := 45) (L' := [(4, .int s0), (0, .ref v0), (2, .ref v2), (3, .int v3)]) (S' := [.ref v0, .int y1, .ref v2]) rfl ?_
    refine zco_gr fl_2_15 rfl (zdk (cc := cX2_bearing) (q := (45, .getfield 15, 3)) tkX2_bearing 26 rfl) (fun x2 => ?_)
    refine zco_p tkX2_bearing 27 2 (pc' := 51) (L' := [(4, .int s0), (0, .ref v0), (2, .ref v2), (3, .int v3)]) (S' := [.int 9, .int 0, .ref x2, .int y1, .ref v2]) rfl ?_
    refine zco_Vi (rc := 0) (rs := 0) (mc := 0) (ms := 0) (As := [.int 0, .int 9]) (S := [.int y1, .ref v2]) vmX9_takeNumber (mtX9_takeNumber l e (by omega) x2 0 9) q_788 rfl rfl (Nat.le_of_ble_eq_true rfl) (zdk (cc := cX2_bearing) (q := (51, .invokevirtual 82, 3)) tkX2_bearing 29 rfl) (fun y3 => ?_)
    refine zco_iastore (zdk (cc := cX2_bearing) (q := (54, .iastore, 1)) tkX2_bearing 30 rfl) ?_
    exact zco_vret rfl rfl rfl (zdk (cc := cX2_bearing) (q := (55, .return_, 1)) tkX2_bearing 31 rfl)
set_option maxHeartbeats 2000000 in
set_option maxRecDepth 20000 in
theorem coX2_bearing (l : Launch) (e : Nat) (he : 11 ≤ e) (v0 : Nat) (v1 : Nat) (v2 : Nat) : zCo l (e + 1) 0 0 iX2_bearing 0 [(0, .ref v0), (1, .ref v1), (2, .ref v2)] [] (X2_bearing v0 v1 v2) := by
  unfold X2_bearing
  refine zco_p tkX2_bearing 0 1 (pc' := 1) (L' := [(0, .ref v0), (1, .ref v1), (2, .ref v2)]) (S' := [.ref v0]) rfl ?_
  refine zco_gr fl_2_15 rfl (zdk (cc := cX2_bearing) (q := (1, .getfield 15, 3)) tkX2_bearing 1 rfl) (fun x1 => ?_)
  refine zco_Vv (rc := 0) (rs := 0) (mc := 0) (ms := 0) (As := []) (S := []) vmX9_passWord (mtX9_passWord l e (by omega) x1) q_761 rfl rfl (Nat.le_of_ble_eq_true rfl) (zdk (cc := cX2_bearing) (q := (4, .invokevirtual 79, 3)) tkX2_bearing 2 rfl) ?_
  refine zco_p tkX2_bearing 3 3 (pc' := 10) (L' := [(0, .ref v0), (1, .ref v1), (2, .ref v2)]) (S' := [.int ((-1)), .ref v1, .ref v0]) rfl ?_
  refine zco_Vi (rc := 0) (rs := 0) (mc := 0) (ms := 0) (As := [.ref v1, .int ((-1))]) (S := []) vmX2_asked (mtX2_asked l e (by omega) v0 v1 ((-1))) q_798 rfl rfl (Nat.le_of_ble_eq_true rfl) (zdk (cc := cX2_bearing) (q := (10, .invokevirtual 130, 3)) tkX2_bearing 6 rfl) (fun y2 => ?_)
  refine zco_p tkX2_bearing 7 3 (pc' := 16) (L' := [(3, .int y2), (0, .ref v0), (1, .ref v1), (2, .ref v2)]) (S' := [.int ((-1)), .int y2]) rfl ?_
  refine zco_icmp_ne (tgt := 23) (zdk (cc := cX2_bearing) (q := (16, .if_icmp .ne 7, 3)) tkX2_bearing 10 rfl) rfl ?_ ?_
  · refine zco_p tkX2_bearing 13 3 (pc' := 26) (L' := [(3, .int y2), (0, .ref v0), (1, .ref v1), (2, .ref v2)]) (S' := [.int y2, .ref v1, .ref v0]) rfl ?_
    refine zco_Vi (rc := 0) (rs := 0) (mc := 0) (ms := 0) (As := [.ref v1, .int y2]) (S := []) vmX2_asked (mtX2_asked l e (by omega) v0 v1 y2) q_798 rfl rfl (Nat.le_of_ble_eq_true rfl) (zdk (cc := cX2_bearing) (q := (26, .invokevirtual 130, 3)) tkX2_bearing 16 rfl) (fun y3 => ?_)
    exact zco_sub [1, 3, 0] rfl (coX2_bearing_J29 l e he v0 v2 y2 y3)
  · refine zco_p tkX2_bearing 11 2 (pc' := 29) (L' := [(3, .int y2), (0, .ref v0), (1, .ref v1), (2, .ref v2)]) (S' := [.int ((-1))]) rfl ?_
    exact zco_sub [1, 3, 0] rfl (coX2_bearing_J29 l e he v0 v2 y2 ((-1)))
theorem mtX2_bearing (l : Launch) (d : Nat) (hd : 12 ≤ d) (v0 : Nat) (v1 : Nat) (v2 : Nat) : zMet l d 0 0 yX2_bearing cX2_bearing 5 (Option.none : Option FieldType) [.ref v0, .ref v1, .ref v2] (X2_bearing v0 v1 v2) := by
  obtain ⟨e, rfl⟩ : ∃ e, d = e + 1 := ⟨d - 1, by omega⟩
  exact zmet_of (own := RX2) (ini := false) (by decide +kernel) rfl (fun _ => by contradiction) (Nat.le_of_ble_eq_true rfl) (coX2_bearing l e (by omega) v0 v1 v2)
abbrev iX4_ofChurch : zI := (RX4, cX4_ofChurch, 3, (Option.none : Option FieldType), false)
def tX4_ofChurch : List (Nat × Instr × Nat) := [(0, .aload_n 0, 1), (1, .aload_n 1, 1), (2, .putfield 29, 3), (5, .aload_n 0, 1), (6, .ldc 9, 2), (8, .putfield 11, 3), (11, .aload_n 0, 1), (12, .iload_n 2, 1), (13, .ifCond .lt 19, 3), (16, .iload_n 2, 1), (17, .getstatic 33, 3), (20, .arraylength, 1), (21, .if_icmp .ge 11, 3), (24, .getstatic 33, 3), (27, .iload_n 2, 1), (28, .iaload, 1), (29, .goto 4, 3), (32, .iconst 0, 1), (33, .putfield 17, 3), (36, .aload_n 0, 1), (37, .iconst 0, 1), (38, .putfield 21, 3), (41, .return_, 1)]
set_option maxRecDepth 100000 in
theorem tkX4_ofChurch : ∀ q ∈ tX4_ofChurch, decode cX4_ofChurch q.1 = .ok q.2 := by decide +kernel
theorem vmX4_ofChurch : zVM yX4_ofChurch cX4_ofChurch 3 (Option.none : Option FieldType) 2 4 := ⟨kX4_ofChurch, q_824, q_825, q_153, ⟨_, rfl, rfl⟩, by decide +kernel, by decide⟩
set_option maxHeartbeats 2000000 in
set_option maxRecDepth 20000 in
theorem coX4_ofChurch_J33 (l : Launch) (e : Nat) (he : 0 ≤ e) (v0 : Nat) (s0 : Int32) (s1 : Nat) : zCo l (e + 1) 0 0 iX4_ofChurch 33 [(0, .ref v0)] [.int s0, .ref s1] (X4_ofChurch_J33 v0 s0 s1) := by
  unfold X4_ofChurch_J33
  refine zco_pi fl_4_17 rfl rfl (zdk (cc := cX4_ofChurch) (q := (33, .putfield 17, 3)) tkX4_ofChurch 18 rfl) ?_
  refine zco_p tkX4_ofChurch 19 2 (pc' := 38) (L' := [(0, .ref v0)]) (S' := [.int 0, .ref v0]) rfl ?_
  refine zco_pb fl_4_21 rfl rfl (zdk (cc := cX4_ofChurch) (q := (38, .putfield 21, 3)) tkX4_ofChurch 21 rfl) ?_
  exact zco_vret rfl rfl rfl (zdk (cc := cX4_ofChurch) (q := (41, .return_, 1)) tkX4_ofChurch 22 rfl)
set_option maxHeartbeats 2000000 in
set_option maxRecDepth 20000 in
theorem coX4_ofChurch_J32 (l : Launch) (e : Nat) (he : 0 ≤ e) (v0 : Nat) (s0 : Nat) : zCo l (e + 1) 0 0 iX4_ofChurch 32 [(0, .ref v0)] [.ref s0] (X4_ofChurch_J32 v0 s0) := by
  unfold X4_ofChurch_J32
  refine zco_p tkX4_ofChurch 17 1 (pc' := 33) (L' := [(0, .ref v0)]) (S' := [.int 0, .ref s0]) rfl ?_
  exact zco_sub [0] rfl (coX4_ofChurch_J33 l e he v0 0 s0)
set_option maxHeartbeats 2000000 in
set_option maxRecDepth 20000 in
theorem coX4_ofChurch (l : Launch) (e : Nat) (he : 0 ≤ e) (v0 : Nat) (v1 : Nat) (v2 : Int32) : zCo l (e + 1) 0 0 iX4_ofChurch 0 [(0, .ref v0), (1, .ref v1), (2, .int v2)] [] (X4_ofChurch v0 v1 v2) := by
  unfold X4_ofChurch
  refine zco_p tkX4_ofChurch 0 2 (pc' := 2) (L' := [(0, .ref v0), (1, .ref v1), (2, .int v2)]) (S' := [.ref v1, .ref v0]) rfl ?_
  refine zco_pr fl_4_29 (Or.inl ⟨_, rfl⟩) rfl (zdk (cc := cX4_ofChurch) (q := (2, .putfield 29, 3)) tkX4_ofChurch 2 rfl) ?_
  refine zco_p tkX4_ofChurch 3 1 (pc' := 6) (L' := [(0, .ref v0), (1, .ref v1), (2, .int v2)]) (S' := [.ref v0]) rfl ?_
  refine zco_ldcS (i := 0) rfl (zdk (cc := cX4_ofChurch) (q := (6, .ldc 9, 2)) tkX4_ofChurch 4 rfl) ?_
  refine zco_pr fl_4_11 (Or.inl ⟨_, rfl⟩) rfl (zdk (cc := cX4_ofChurch) (q := (8, .putfield 11, 3)) tkX4_ofChurch 5 rfl) ?_
  refine zco_p tkX4_ofChurch 6 2 (pc' := 13) (L' := [(0, .ref v0), (1, .ref v1), (2, .int v2)]) (S' := [.int v2, .ref v0]) rfl ?_
  refine zco_if_lt (tgt := 32) (zdk (cc := cX4_ofChurch) (q := (13, .ifCond .lt 19, 3)) tkX4_ofChurch 8 rfl) rfl ?_ ?_
  · exact zco_sub [0] rfl (coX4_ofChurch_J32 l e he v0 v0)
  · refine zco_p tkX4_ofChurch 9 1 (pc' := 17) (L' := [(0, .ref v0), (1, .ref v1), (2, .int v2)]) (S' := [.int v2, .ref v0]) rfl ?_
    refine zco_parts (by decide +kernel) (zdk (cc := cX4_ofChurch) (q := (17, .getstatic 33, 3)) tkX4_ofChurch 10 rfl) ?_
    refine zco_plen (zdk (cc := cX4_ofChurch) (q := (20, .arraylength, 1)) tkX4_ofChurch 11 rfl) ?_
    refine zco_icmp_ge (tgt := 32) (zdk (cc := cX4_ofChurch) (q := (21, .if_icmp .ge 11, 3)) tkX4_ofChurch 12 rfl) rfl ?_ ?_
    · exact zco_sub [0] rfl (coX4_ofChurch_J32 l e he v0 v0)
    · refine zco_parts (by decide +kernel) (zdk (cc := cX4_ofChurch) (q := (24, .getstatic 33, 3)) tkX4_ofChurch 13 rfl) ?_
      refine zco_p tkX4_ofChurch 14 1 (pc' := 28) (L' := [(0, .ref v0), (1, .ref v1), (2, .int v2)]) (S' := [.int v2, .ref (zB + 16), .ref v0]) rfl ?_
      refine zco_pld (zdk (cc := cX4_ofChurch) (q := (28, .iaload, 1)) tkX4_ofChurch 15 rfl) ?_
      refine zco_p tkX4_ofChurch 16 1 (pc' := 33) (L' := [(0, .ref v0), (1, .ref v1), (2, .int v2)]) (S' := [.int (z_parts (v2).toNatClampNeg), .ref v0]) rfl ?_
      exact zco_sub [0] rfl (coX4_ofChurch_J33 l e he v0 (z_parts (v2).toNatClampNeg) v0)
theorem mtX4_ofChurch (l : Launch) (d : Nat) (hd : 1 ≤ d) (v0 : Nat) (v1 : Nat) (v2 : Int32) : zMet l d 0 0 yX4_ofChurch cX4_ofChurch 3 (Option.none : Option FieldType) [.ref v0, .ref v1, .int v2] (X4_ofChurch v0 v1 v2) := by
  obtain ⟨e, rfl⟩ : ∃ e, d = e + 1 := ⟨d - 1, by omega⟩
  exact zmet_of (own := RX4) (ini := false) (by decide +kernel) rfl (fun _ => by contradiction) (Nat.le_of_ble_eq_true rfl) (coX4_ofChurch l e (by omega) v0 v1 v2)
abbrev iX4_mayOpen : zI := (RX4, cX4_mayOpen, 3, (Option.some .boolean), false)
def tX4_mayOpen : List (Nat × Instr × Nat) := [(0, .iload_n 1, 1), (1, .bipush 6, 2), (3, .if_icmp .lt 12, 3), (6, .aload_n 0, 1), (7, .getfield 25, 3), (10, .iconst 4, 1), (11, .iload_n 2, 1), (12, .invokevirtual 93, 3), (15, .aload_n 0, 1), (16, .getfield 25, 3), (19, .invokevirtual 89, 3), (22, .ireturn, 1)]
set_option maxRecDepth 100000 in
theorem tkX4_mayOpen : ∀ q ∈ tX4_mayOpen, decode cX4_mayOpen q.1 = .ok q.2 := by decide +kernel
theorem vmX4_mayOpen : zVM yX4_mayOpen cX4_mayOpen 3 (Option.some .boolean) 2 4 := ⟨kX4_mayOpen, q_846, q_14, q_153, ⟨_, rfl, rfl⟩, by decide +kernel, by decide⟩
set_option maxHeartbeats 2000000 in
set_option maxRecDepth 20000 in
theorem coX4_mayOpen_J15 (l : Launch) (e : Nat) (he : 1 ≤ e) (v0 : Nat) : zCo l (e + 1) 0 0 iX4_mayOpen 15 [(0, .ref v0)] [] (X4_mayOpen_J15 v0) := by
  unfold X4_mayOpen_J15
  refine zco_p tkX4_mayOpen 8 1 (pc' := 16) (L' := [(0, .ref v0)]) (S' := [.ref v0]) rfl ?_
  refine zco_gr fl_4_25 rfl (zdk (cc := cX4_mayOpen) (q := (16, .getfield 25, 3)) tkX4_mayOpen 9 rfl) (fun x1 => ?_)
  refine zco_Vi (rc := 0) (rs := 0) (mc := 0) (ms := 0) (As := []) (S := []) vmX9_sound (mtX9_sound l e (by omega) x1) q_849 rfl rfl (Nat.le_of_ble_eq_true rfl) (zdk (cc := cX4_mayOpen) (q := (19, .invokevirtual 89, 3)) tkX4_mayOpen 10 rfl) (fun y2 => ?_)
  exact zco_zret rfl rfl rfl (zdk (cc := cX4_mayOpen) (q := (22, .ireturn, 1)) tkX4_mayOpen 11 rfl)
set_option maxHeartbeats 2000000 in
set_option maxRecDepth 20000 in
theorem coX4_mayOpen (l : Launch) (e : Nat) (he : 1 ≤ e) (v0 : Nat) (v1 : Int32) (v2 : Int32) : zCo l (e + 1) 0 0 iX4_mayOpen 0 [(0, .ref v0), (1, .int v1), (2, .int v2)] [] (X4_mayOpen v0 v1 v2) := by
  unfold X4_mayOpen
  refine zco_p tkX4_mayOpen 0 2 (pc' := 3) (L' := [(0, .ref v0), (1, .int v1), (2, .int v2)]) (S' := [.int 6, .int v1]) rfl ?_
  refine zco_icmp_lt (tgt := 15) (zdk (cc := cX4_mayOpen) (q := (3, .if_icmp .lt 12, 3)) tkX4_mayOpen 2 rfl) rfl ?_ ?_
  · exact zco_sub [0] rfl (coX4_mayOpen_J15 l e he v0)
  · refine zco_p tkX4_mayOpen 3 1 (pc' := 7) (L' := [(0, .ref v0), (1, .int v1), (2, .int v2)]) (S' := [.ref v0]) rfl ?_
    refine zco_gr fl_4_25 rfl (zdk (cc := cX4_mayOpen) (q := (7, .getfield 25, 3)) tkX4_mayOpen 4 rfl) (fun x1 => ?_)
    refine zco_p tkX4_mayOpen 5 2 (pc' := 12) (L' := [(0, .ref v0), (1, .int v1), (2, .int v2)]) (S' := [.int v2, .int 4, .ref x1]) rfl ?_
    refine zco_Vv (rc := 0) (rs := 0) (mc := 0) (ms := 0) (As := [.int 4, .int v2]) (S := []) vmX9_fail (mtX9_fail l e (by omega) x1 4 v2) q_848 rfl rfl (Nat.le_of_ble_eq_true rfl) (zdk (cc := cX4_mayOpen) (q := (12, .invokevirtual 93, 3)) tkX4_mayOpen 7 rfl) ?_
    exact zco_sub [0] rfl (coX4_mayOpen_J15 l e he v0)
theorem mtX4_mayOpen (l : Launch) (d : Nat) (hd : 2 ≤ d) (v0 : Nat) (v1 : Int32) (v2 : Int32) : zMet l d 0 0 yX4_mayOpen cX4_mayOpen 3 (Option.some .boolean) [.ref v0, .int v1, .int v2] (X4_mayOpen v0 v1 v2) := by
  obtain ⟨e, rfl⟩ : ∃ e, d = e + 1 := ⟨d - 1, by omega⟩
  exact zmet_of (own := RX4) (ini := false) (by decide +kernel) rfl (fun _ => by contradiction) (Nat.le_of_ble_eq_true rfl) (coX4_mayOpen l e (by omega) v0 v1 v2)
abbrev iX9_takeSign : zI := (RX9, cX9_takeSign, 2, (Option.some .boolean), false)
def tX9_takeSign : List (Nat × Instr × Nat) := [(0, .aload_n 0, 1), (1, .invokevirtual 32, 3), (4, .ifCond .eq 15, 3), (7, .aload_n 0, 1), (8, .aload_n 0, 1), (9, .invokevirtual 28, 3), (12, .invokevirtual 36, 3), (15, .iload_n 1, 1), (16, .if_icmp .eq 5, 3), (19, .iconst 0, 1), (20, .ireturn, 1), (21, .aload_n 0, 1), (22, .dup, 1), (23, .getfield 15, 3), (26, .iconst 1, 1), (27, .iadd, 1), (28, .putfield 15, 3), (31, .iconst 1, 1), (32, .ireturn, 1)]
set_option maxRecDepth 100000 in
theorem tkX9_takeSign : ∀ q ∈ tX9_takeSign, decode cX9_takeSign q.1 = .ok q.2 := by decide +kernel
theorem vmX9_takeSign : zVM yX9_takeSign cX9_takeSign 2 (Option.some .boolean) 1 9 := ⟨kX9_takeSign, q_852, q_853, q_150, ⟨_, rfl, rfl⟩, by decide +kernel, by decide⟩
set_option maxHeartbeats 2000000 in
set_option maxRecDepth 20000 in
theorem coX9_takeSign (l : Launch) (e : Nat) (he : 1 ≤ e) (v0 : Nat) (v1 : Int32) : zCo l (e + 1) 0 0 iX9_takeSign 0 [(0, .ref v0), (1, .int v1)] [] (X9_takeSign v0 v1) := by
  unfold X9_takeSign
  refine zco_p tkX9_takeSign 0 1 (pc' := 1) (L' := [(0, .ref v0), (1, .int v1)]) (S' := [.ref v0]) rfl ?_
  refine zco_Vi (rc := 0) (rs := 0) (mc := 0) (ms := 0) (As := []) (S := []) vmX9_sound (mtX9_sound l e (by omega) v0) q_694 rfl rfl (Nat.le_of_ble_eq_true rfl) (zdk (cc := cX9_takeSign) (q := (1, .invokevirtual 32, 3)) tkX9_takeSign 1 rfl) (fun y1 => ?_)
  refine zco_if_eq (tgt := 19) (zdk (cc := cX9_takeSign) (q := (4, .ifCond .eq 15, 3)) tkX9_takeSign 2 rfl) rfl ?_ ?_
  · refine zco_p tkX9_takeSign 9 1 (pc' := 20) (L' := [(0, .ref v0), (1, .int v1)]) (S' := [.int 0]) rfl ?_
    exact zco_zret rfl rfl rfl (zdk (cc := cX9_takeSign) (q := (20, .ireturn, 1)) tkX9_takeSign 10 rfl)
  · refine zco_p tkX9_takeSign 3 2 (pc' := 9) (L' := [(0, .ref v0), (1, .int v1)]) (S' := [.ref v0, .ref v0]) rfl ?_
    refine zco_Vi (rc := 0) (rs := 0) (mc := 0) (ms := 0) (As := []) (S := [.ref v0]) vmX9_begin (mtX9_begin l e (by omega) v0) q_672 rfl rfl (Nat.le_of_ble_eq_true rfl) (zdk (cc := cX9_takeSign) (q := (9, .invokevirtual 28, 3)) tkX9_takeSign 5 rfl) (fun y2 => ?_)
    refine zco_Vi (rc := 0) (rs := 0) (mc := 0) (ms := 0) (As := [.int y2]) (S := []) vmX9_byteAt (mtX9_byteAt l e (by omega) v0 y2) q_695 rfl rfl (Nat.le_of_ble_eq_true rfl) (zdk (cc := cX9_takeSign) (q := (12, .invokevirtual 36, 3)) tkX9_takeSign 6 rfl) (fun y3 => ?_)
    refine zco_p tkX9_takeSign 7 1 (pc' := 16) (L' := [(0, .ref v0), (1, .int v1)]) (S' := [.int v1, .int y3]) rfl ?_
    refine zco_icmp_eq (tgt := 21) (zdk (cc := cX9_takeSign) (q := (16, .if_icmp .eq 5, 3)) tkX9_takeSign 8 rfl) rfl ?_ ?_
    · refine zco_p tkX9_takeSign 11 2 (pc' := 23) (L' := [(0, .ref v0), (1, .int v1)]) (S' := [.ref v0, .ref v0]) rfl ?_
      refine zco_gi fl_9_15 rfl (zdk (cc := cX9_takeSign) (q := (23, .getfield 15, 3)) tkX9_takeSign 13 rfl) (fun x4 => ?_)
      refine zco_p tkX9_takeSign 14 2 (pc' := 28) (L' := [(0, .ref v0), (1, .int v1)]) (S' := [.int (x4 + 1), .ref v0]) rfl ?_
      refine zco_pi fl_9_15 rfl rfl (zdk (cc := cX9_takeSign) (q := (28, .putfield 15, 3)) tkX9_takeSign 16 rfl) ?_
      refine zco_p tkX9_takeSign 17 1 (pc' := 32) (L' := [(0, .ref v0), (1, .int v1)]) (S' := [.int 1]) rfl ?_
      exact zco_zret rfl rfl rfl (zdk (cc := cX9_takeSign) (q := (32, .ireturn, 1)) tkX9_takeSign 18 rfl)
    · refine zco_p tkX9_takeSign 9 1 (pc' := 20) (L' := [(0, .ref v0), (1, .int v1)]) (S' := [.int 0]) rfl ?_
      exact zco_zret rfl rfl rfl (zdk (cc := cX9_takeSign) (q := (20, .ireturn, 1)) tkX9_takeSign 10 rfl)
theorem mtX9_takeSign (l : Launch) (d : Nat) (hd : 2 ≤ d) (v0 : Nat) (v1 : Int32) : zMet l d 0 0 yX9_takeSign cX9_takeSign 2 (Option.some .boolean) [.ref v0, .int v1] (X9_takeSign v0 v1) := by
  obtain ⟨e, rfl⟩ : ∃ e, d = e + 1 := ⟨d - 1, by omega⟩
  exact zmet_of (own := RX9) (ini := false) (by decide +kernel) rfl (fun _ => by contradiction) (Nat.le_of_ble_eq_true rfl) (coX9_takeSign l e (by omega) v0 v1)
abbrev iX9_needSign : zI := (RX9, cX9_needSign, 2, (Option.none : Option FieldType), false)
def tX9_needSign : List (Nat × Instr × Nat) := [(0, .aload_n 0, 1), (1, .iload_n 1, 1), (2, .invokevirtual 40, 3), (5, .ifCond .ne 12, 3), (8, .aload_n 0, 1), (9, .iconst 1, 1), (10, .aload_n 0, 1), (11, .getfield 15, 3), (14, .invokevirtual 44, 3), (17, .return_, 1)]
set_option maxRecDepth 100000 in
theorem tkX9_needSign : ∀ q ∈ tX9_needSign, decode cX9_needSign q.1 = .ok q.2 := by decide +kernel
theorem vmX9_needSign : zVM yX9_needSign cX9_needSign 2 (Option.none : Option FieldType) 1 9 := ⟨kX9_needSign, q_857, q_858, q_150, ⟨_, rfl, rfl⟩, by decide +kernel, by decide⟩
set_option maxHeartbeats 2000000 in
set_option maxRecDepth 20000 in
theorem coX9_needSign (l : Launch) (e : Nat) (he : 2 ≤ e) (v0 : Nat) (v1 : Int32) : zCo l (e + 1) 0 0 iX9_needSign 0 [(0, .ref v0), (1, .int v1)] [] (X9_needSign v0 v1) := by
  unfold X9_needSign
  refine zco_p tkX9_needSign 0 2 (pc' := 2) (L' := [(0, .ref v0), (1, .int v1)]) (S' := [.int v1, .ref v0]) rfl ?_
  refine zco_Vi (rc := 0) (rs := 0) (mc := 0) (ms := 0) (As := [.int v1]) (S := []) vmX9_takeSign (mtX9_takeSign l e (by omega) v0 v1) q_860 rfl rfl (Nat.le_of_ble_eq_true rfl) (zdk (cc := cX9_needSign) (q := (2, .invokevirtual 40, 3)) tkX9_needSign 2 rfl) (fun y1 => ?_)
  refine zco_if_ne (tgt := 17) (zdk (cc := cX9_needSign) (q := (5, .ifCond .ne 12, 3)) tkX9_needSign 3 rfl) rfl ?_ ?_
  · exact zco_vret rfl rfl rfl (zdk (cc := cX9_needSign) (q := (17, .return_, 1)) tkX9_needSign 9 rfl)
  · refine zco_p tkX9_needSign 4 3 (pc' := 11) (L' := [(0, .ref v0), (1, .int v1)]) (S' := [.ref v0, .int 1, .ref v0]) rfl ?_
    refine zco_gi fl_9_15 rfl (zdk (cc := cX9_needSign) (q := (11, .getfield 15, 3)) tkX9_needSign 7 rfl) (fun x2 => ?_)
    refine zco_Vv (rc := 0) (rs := 0) (mc := 0) (ms := 0) (As := [.int 1, .int x2]) (S := []) vmX9_fail (mtX9_fail l e (by omega) v0 1 x2) q_770 rfl rfl (Nat.le_of_ble_eq_true rfl) (zdk (cc := cX9_needSign) (q := (14, .invokevirtual 44, 3)) tkX9_needSign 8 rfl) ?_
    exact zco_vret rfl rfl rfl (zdk (cc := cX9_needSign) (q := (17, .return_, 1)) tkX9_needSign 9 rfl)
theorem mtX9_needSign (l : Launch) (d : Nat) (hd : 3 ≤ d) (v0 : Nat) (v1 : Int32) : zMet l d 0 0 yX9_needSign cX9_needSign 2 (Option.none : Option FieldType) [.ref v0, .int v1] (X9_needSign v0 v1) := by
  obtain ⟨e, rfl⟩ : ∃ e, d = e + 1 := ⟨d - 1, by omega⟩
  exact zmet_of (own := RX9) (ini := false) (by decide +kernel) rfl (fun _ => by contradiction) (Nat.le_of_ble_eq_true rfl) (coX9_needSign l e (by omega) v0 v1)
abbrev iX4_comparison : zI := (RX4, cX4_comparison, 1, (Option.some .int), false)
def tX4_comparison : List (Nat × Instr × Nat) := [(0, .aload_n 0, 1), (1, .getfield 25, 3), (4, .bipush 60, 2), (6, .invokevirtual 71, 3), (9, .ifCond .eq 7, 3), (12, .sipush 20007, 3), (15, .ireturn, 1), (16, .aload_n 0, 1), (17, .getfield 25, 3), (20, .bipush 62, 2), (22, .invokevirtual 71, 3), (25, .ifCond .eq 7, 3), (28, .sipush 20008, 3), (31, .ireturn, 1), (32, .aload_n 0, 1), (33, .getfield 25, 3), (36, .bipush 61, 2), (38, .invokevirtual 78, 3), (41, .sipush 20009, 3), (44, .ireturn, 1)]
set_option maxRecDepth 100000 in
theorem tkX4_comparison : ∀ q ∈ tX4_comparison, decode cX4_comparison q.1 = .ok q.2 := by decide +kernel
theorem vmX4_comparison : zVM yX4_comparison cX4_comparison 1 (Option.some .int) 0 4 := ⟨kX4_comparison, q_893, q_20, q_153, ⟨_, rfl, rfl⟩, by decide +kernel, by decide⟩
set_option maxHeartbeats 2000000 in
set_option maxRecDepth 20000 in
theorem coX4_comparison (l : Launch) (e : Nat) (he : 3 ≤ e) (v0 : Nat) : zCo l (e + 1) 0 0 iX4_comparison 0 [(0, .ref v0)] [] (X4_comparison v0) := by
  unfold X4_comparison
  refine zco_p tkX4_comparison 0 1 (pc' := 1) (L' := [(0, .ref v0)]) (S' := [.ref v0]) rfl ?_
  refine zco_gr fl_4_25 rfl (zdk (cc := cX4_comparison) (q := (1, .getfield 25, 3)) tkX4_comparison 1 rfl) (fun x1 => ?_)
  refine zco_p tkX4_comparison 2 1 (pc' := 6) (L' := [(0, .ref v0)]) (S' := [.int 60, .ref x1]) rfl ?_
  refine zco_Vi (rc := 0) (rs := 0) (mc := 0) (ms := 0) (As := [.int 60]) (S := []) vmX9_takeSign (mtX9_takeSign l e (by omega) x1 60) q_851 rfl rfl (Nat.le_of_ble_eq_true rfl) (zdk (cc := cX4_comparison) (q := (6, .invokevirtual 71, 3)) tkX4_comparison 3 rfl) (fun y2 => ?_)
  refine zco_if_eq (tgt := 16) (zdk (cc := cX4_comparison) (q := (9, .ifCond .eq 7, 3)) tkX4_comparison 4 rfl) rfl ?_ ?_
  · refine zco_p tkX4_comparison 7 1 (pc' := 17) (L' := [(0, .ref v0)]) (S' := [.ref v0]) rfl ?_
    refine zco_gr fl_4_25 rfl (zdk (cc := cX4_comparison) (q := (17, .getfield 25, 3)) tkX4_comparison 8 rfl) (fun x3 => ?_)
    refine zco_p tkX4_comparison 9 1 (pc' := 22) (L' := [(0, .ref v0)]) (S' := [.int 62, .ref x3]) rfl ?_
    refine zco_Vi (rc := 0) (rs := 0) (mc := 0) (ms := 0) (As := [.int 62]) (S := []) vmX9_takeSign (mtX9_takeSign l e (by omega) x3 62) q_851 rfl rfl (Nat.le_of_ble_eq_true rfl) (zdk (cc := cX4_comparison) (q := (22, .invokevirtual 71, 3)) tkX4_comparison 10 rfl) (fun y4 => ?_)
    refine zco_if_eq (tgt := 32) (zdk (cc := cX4_comparison) (q := (25, .ifCond .eq 7, 3)) tkX4_comparison 11 rfl) rfl ?_ ?_
    · refine zco_p tkX4_comparison 14 1 (pc' := 33) (L' := [(0, .ref v0)]) (S' := [.ref v0]) rfl ?_
      refine zco_gr fl_4_25 rfl (zdk (cc := cX4_comparison) (q := (33, .getfield 25, 3)) tkX4_comparison 15 rfl) (fun x5 => ?_)
      refine zco_p tkX4_comparison 16 1 (pc' := 38) (L' := [(0, .ref v0)]) (S' := [.int 61, .ref x5]) rfl ?_
      refine zco_Vv (rc := 0) (rs := 0) (mc := 0) (ms := 0) (As := [.int 61]) (S := []) vmX9_needSign (mtX9_needSign l e (by omega) x5 61) q_856 rfl rfl (Nat.le_of_ble_eq_true rfl) (zdk (cc := cX4_comparison) (q := (38, .invokevirtual 78, 3)) tkX4_comparison 17 rfl) ?_
      refine zco_p tkX4_comparison 18 1 (pc' := 44) (L' := [(0, .ref v0)]) (S' := [.int 20009]) rfl ?_
      exact zco_iret rfl rfl rfl (zdk (cc := cX4_comparison) (q := (44, .ireturn, 1)) tkX4_comparison 19 rfl)
    · refine zco_p tkX4_comparison 12 1 (pc' := 31) (L' := [(0, .ref v0)]) (S' := [.int 20008]) rfl ?_
      exact zco_iret rfl rfl rfl (zdk (cc := cX4_comparison) (q := (31, .ireturn, 1)) tkX4_comparison 13 rfl)
  · refine zco_p tkX4_comparison 5 1 (pc' := 15) (L' := [(0, .ref v0)]) (S' := [.int 20007]) rfl ?_
    exact zco_iret rfl rfl rfl (zdk (cc := cX4_comparison) (q := (15, .ireturn, 1)) tkX4_comparison 6 rfl)
theorem mtX4_comparison (l : Launch) (d : Nat) (hd : 4 ≤ d) (v0 : Nat) : zMet l d 0 0 yX4_comparison cX4_comparison 1 (Option.some .int) [.ref v0] (X4_comparison v0) := by
  obtain ⟨e, rfl⟩ : ∃ e, d = e + 1 := ⟨d - 1, by omega⟩
  exact zmet_of (own := RX4) (ini := false) (by decide +kernel) rfl (fun _ => by contradiction) (Nat.le_of_ble_eq_true rfl) (coX4_comparison l e (by omega) v0)
