abbrev iX11_odds : zI := (RX11, cX11_odds, 3, (Option.some .int), false)
def tX11_odds : List (Nat × Instr × Nat) := [(0, .aload_n 0, 1), (1, .getfield 51, 3), (4, .invokevirtual 287, 3), (7, .ifCond .eq 20, 3), (10, .aload_n 0, 1), (11, .getfield 79, 3), (14, .aload_n 0, 1), (15, .getfield 61, 3), (18, .iconst 1, 1), (19, .iconst 1, 1), (20, .iconst 1, 1), (21, .invokevirtual 248, 3), (24, .ifCond .ne 5, 3), (27, .iconst (-1), 1), (28, .ireturn, 1), (29, .iload_n 1, 1), (30, .iconst (-1), 1), (31, .if_icmp .ne 14, 3), (34, .bipush 100, 2), (36, .aload_n 0, 1), (37, .getfield 51, 3), (40, .invokevirtual 287, 3), (43, .imul, 1), (44, .ireturn, 1), (45, .aload_n 0, 1), (46, .getfield 51, 3), (49, .iload_n 1, 1), (50, .invokevirtual 184, 3), (53, .istore_n 2, 1), (54, .iload_n 2, 1), (55, .iconst (-1), 1), (56, .if_icmp .ne 7, 3), (59, .iconst (-1), 1), (60, .goto 15, 3), (63, .aload_n 0, 1), (64, .getfield 79, 3), (67, .aload_n 0, 1), (68, .getfield 61, 3), (71, .iload_n 2, 1), (72, .invokevirtual 290, 3), (75, .ireturn, 1)]
set_option maxRecDepth 100000 in
theorem tkX11_odds : ∀ q ∈ tX11_odds, decode cX11_odds q.1 = .ok q.2 := by decide +kernel
theorem vmX11_odds : zVM yX11_odds cX11_odds 3 (Option.some .int) 1 11 := ⟨kX11_odds, q_1161, q_1162, q_149, ⟨_, rfl, rfl⟩, by decide +kernel, by decide⟩
set_option maxHeartbeats 2000000 in
set_option maxRecDepth 20000 in
theorem coX11_odds (l : Launch) (e : Nat) (he : 7 ≤ e) (v0 : Nat) (v1 : Int32) : zCo l (e + 1) 0 0 iX11_odds 0 [(0, .ref v0), (1, .int v1)] [] (X11_odds v0 v1) := by
  unfold X11_odds
  refine zco_p tkX11_odds 0 1 (pc' := 1) (L' := [(0, .ref v0), (1, .int v1)]) (S' := [.ref v0]) rfl ?_
  refine zco_gr fl_11_51 rfl (zdk (cc := cX11_odds) (q := (1, .getfield 51, 3)) tkX11_odds 1 rfl) (fun x1 => ?_)
  refine zco_Vi (rc := 0) (rs := 0) (mc := 0) (ms := 0) (As := []) (S := []) vmX1_people (mtX1_people l e (by omega) x1) q_1164 rfl rfl (Nat.le_of_ble_eq_true rfl) (zdk (cc := cX11_odds) (q := (4, .invokevirtual 287, 3)) tkX11_odds 2 rfl) (fun y2 => ?_)
  refine zco_if_eq (tgt := 27) (zdk (cc := cX11_odds) (q := (7, .ifCond .eq 20, 3)) tkX11_odds 3 rfl) rfl ?_ ?_
  · refine zco_p tkX11_odds 13 1 (pc' := 28) (L' := [(0, .ref v0), (1, .int v1)]) (S' := [.int ((-1))]) rfl ?_
    exact zco_iret rfl rfl rfl (zdk (cc := cX11_odds) (q := (28, .ireturn, 1)) tkX11_odds 14 rfl)
  · refine zco_p tkX11_odds 4 1 (pc' := 11) (L' := [(0, .ref v0), (1, .int v1)]) (S' := [.ref v0]) rfl ?_
    refine zco_gr fl_11_79 rfl (zdk (cc := cX11_odds) (q := (11, .getfield 79, 3)) tkX11_odds 5 rfl) (fun x3 => ?_)
    refine zco_p tkX11_odds 6 1 (pc' := 15) (L' := [(0, .ref v0), (1, .int v1)]) (S' := [.ref v0, .ref x3]) rfl ?_
    refine zco_gr fl_11_61 rfl (zdk (cc := cX11_odds) (q := (15, .getfield 61, 3)) tkX11_odds 7 rfl) (fun x4 => ?_)
    refine zco_p tkX11_odds 8 3 (pc' := 21) (L' := [(0, .ref v0), (1, .int v1)]) (S' := [.int 1, .int 1, .int 1, .ref x4, .ref x3]) rfl ?_
    refine zco_Vi (rc := 0) (rs := 0) (mc := 0) (ms := 0) (As := [.ref x4, .int 1, .int 1, .int 1]) (S := []) vmX0_canCome (mtX0_canCome l e (by omega) x3 x4 1 1 1) q_1030 rfl rfl (Nat.le_of_ble_eq_true rfl) (zdk (cc := cX11_odds) (q := (21, .invokevirtual 248, 3)) tkX11_odds 11 rfl) (fun y5 => ?_)
    refine zco_if_ne (tgt := 29) (zdk (cc := cX11_odds) (q := (24, .ifCond .ne 5, 3)) tkX11_odds 12 rfl) rfl ?_ ?_
    · refine zco_p tkX11_odds 15 2 (pc' := 31) (L' := [(0, .ref v0), (1, .int v1)]) (S' := [.int ((-1)), .int v1]) rfl ?_
      refine zco_icmp_ne (tgt := 45) (zdk (cc := cX11_odds) (q := (31, .if_icmp .ne 14, 3)) tkX11_odds 17 rfl) rfl ?_ ?_
      · refine zco_p tkX11_odds 24 1 (pc' := 46) (L' := [(0, .ref v0), (1, .int v1)]) (S' := [.ref v0]) rfl ?_
        refine zco_gr fl_11_51 rfl (zdk (cc := cX11_odds) (q := (46, .getfield 51, 3)) tkX11_odds 25 rfl) (fun x6 => ?_)
        refine zco_p tkX11_odds 26 1 (pc' := 50) (L' := [(0, .ref v0), (1, .int v1)]) (S' := [.int v1, .ref x6]) rfl ?_
        refine zco_Vi (rc := 0) (rs := 0) (mc := 0) (ms := 0) (As := [.int v1]) (S := []) vmX1_slot (mtX1_slot l e (by omega) x6 v1) q_932 rfl rfl (Nat.le_of_ble_eq_true rfl) (zdk (cc := cX11_odds) (q := (50, .invokevirtual 184, 3)) tkX11_odds 27 rfl) (fun y7 => ?_)
        refine zco_p tkX11_odds 28 3 (pc' := 56) (L' := [(2, .int y7), (0, .ref v0), (1, .int v1)]) (S' := [.int ((-1)), .int y7]) rfl ?_
        refine zco_icmp_ne (tgt := 63) (zdk (cc := cX11_odds) (q := (56, .if_icmp .ne 7, 3)) tkX11_odds 31 rfl) rfl ?_ ?_
        · refine zco_p tkX11_odds 34 1 (pc' := 64) (L' := [(2, .int y7), (0, .ref v0), (1, .int v1)]) (S' := [.ref v0]) rfl ?_
          refine zco_gr fl_11_79 rfl (zdk (cc := cX11_odds) (q := (64, .getfield 79, 3)) tkX11_odds 35 rfl) (fun x8 => ?_)
          refine zco_p tkX11_odds 36 1 (pc' := 68) (L' := [(2, .int y7), (0, .ref v0), (1, .int v1)]) (S' := [.ref v0, .ref x8]) rfl ?_
          refine zco_gr fl_11_61 rfl (zdk (cc := cX11_odds) (q := (68, .getfield 61, 3)) tkX11_odds 37 rfl) (fun x9 => ?_)
          refine zco_p tkX11_odds 38 1 (pc' := 72) (L' := [(2, .int y7), (0, .ref v0), (1, .int v1)]) (S' := [.int y7, .ref x9, .ref x8]) rfl ?_
          refine zco_Vi (rc := 0) (rs := 0) (mc := 0) (ms := 0) (As := [.ref x9, .int y7]) (S := []) vmX0_oddsOf (mtX0_oddsOf l e (by omega) x8 x9 y7) q_1165 rfl rfl (Nat.le_of_ble_eq_true rfl) (zdk (cc := cX11_odds) (q := (72, .invokevirtual 290, 3)) tkX11_odds 39 rfl) (fun y10 => ?_)
          exact zco_iret rfl rfl rfl (zdk (cc := cX11_odds) (q := (75, .ireturn, 1)) tkX11_odds 40 rfl)
        · refine zco_p tkX11_odds 32 2 (pc' := 75) (L' := [(2, .int y7), (0, .ref v0), (1, .int v1)]) (S' := [.int ((-1))]) rfl ?_
          exact zco_iret rfl rfl rfl (zdk (cc := cX11_odds) (q := (75, .ireturn, 1)) tkX11_odds 40 rfl)
      · refine zco_p tkX11_odds 18 2 (pc' := 37) (L' := [(0, .ref v0), (1, .int v1)]) (S' := [.ref v0, .int 100]) rfl ?_
        refine zco_gr fl_11_51 rfl (zdk (cc := cX11_odds) (q := (37, .getfield 51, 3)) tkX11_odds 20 rfl) (fun x11 => ?_)
        refine zco_Vi (rc := 0) (rs := 0) (mc := 0) (ms := 0) (As := []) (S := [.int 100]) vmX1_people (mtX1_people l e (by omega) x11) q_1164 rfl rfl (Nat.le_of_ble_eq_true rfl) (zdk (cc := cX11_odds) (q := (40, .invokevirtual 287, 3)) tkX11_odds 21 rfl) (fun y12 => ?_)
        refine zco_p tkX11_odds 22 1 (pc' := 44) (L' := [(0, .ref v0), (1, .int v1)]) (S' := [.int (100 * y12)]) rfl ?_
        exact zco_iret rfl rfl rfl (zdk (cc := cX11_odds) (q := (44, .ireturn, 1)) tkX11_odds 23 rfl)
    · refine zco_p tkX11_odds 13 1 (pc' := 28) (L' := [(0, .ref v0), (1, .int v1)]) (S' := [.int ((-1))]) rfl ?_
      exact zco_iret rfl rfl rfl (zdk (cc := cX11_odds) (q := (28, .ireturn, 1)) tkX11_odds 14 rfl)
theorem mtX11_odds (l : Launch) (d : Nat) (hd : 8 ≤ d) (v0 : Nat) (v1 : Int32) : zMet l d 0 0 yX11_odds cX11_odds 3 (Option.some .int) [.ref v0, .int v1] (X11_odds v0 v1) := by
  obtain ⟨e, rfl⟩ : ∃ e, d = e + 1 := ⟨d - 1, by omega⟩
  exact zmet_of (own := RX11) (ini := false) (by decide +kernel) rfl (fun _ => by contradiction) (Nat.le_of_ble_eq_true rfl) (coX11_odds l e (by omega) v0 v1)
abbrev iX11_tellsSeen : zI := (RX11, cX11_tellsSeen, 3, (Option.some .boolean), false)
def tX11_tellsSeen : List (Nat × Instr × Nat) := [(0, .iconst 0, 1), (1, .istore_n 2, 1), (2, .iload_n 2, 1), (3, .iconst 2, 1), (4, .iadd, 1), (5, .iload_n 1, 1), (6, .if_icmp .ge 53, 3), (9, .aload_n 0, 1), (10, .getfield 9, 3), (13, .iload_n 2, 1), (14, .iaload, 1), (15, .bipush 30, 2), (17, .if_icmp .gt 34, 3), (20, .aload_n 0, 1), (21, .getfield 51, 3), (24, .aload_n 0, 1), (25, .getfield 9, 3), (28, .iload_n 2, 1), (29, .iconst 1, 1), (30, .iadd, 1), (31, .iaload, 1), (32, .invokevirtual 184, 3), (35, .iconst (-1), 1), (36, .if_icmp .eq 15, 3), (39, .aload_n 0, 1), (40, .getfield 9, 3), (43, .iload_n 2, 1), (44, .iconst 2, 1), (45, .iadd, 1), (46, .iaload, 1), (47, .iconst 1, 1), (48, .if_icmp .le 5, 3), (51, .iconst 0, 1), (52, .ireturn, 1), (53, .iinc 2 3, 3), (56, .goto (-54), 3), (59, .iconst 1, 1), (60, .ireturn, 1)]
set_option maxRecDepth 100000 in
theorem tkX11_tellsSeen : ∀ q ∈ tX11_tellsSeen, decode cX11_tellsSeen q.1 = .ok q.2 := by decide +kernel
theorem vmX11_tellsSeen : zVM yX11_tellsSeen cX11_tellsSeen 3 (Option.some .boolean) 1 11 := ⟨kX11_tellsSeen, q_1181, q_33, q_149, ⟨_, rfl, rfl⟩, by decide +kernel, by decide⟩
set_option maxHeartbeats 2000000 in
set_option maxRecDepth 20000 in
theorem coX11_tellsSeen_B2 (l : Launch) (e : Nat) (he : 2 ≤ e) (v0 : Nat) (v1 : Int32) (r2 : Int32 → zM) (hr2 : ∀ x : Int32, zCo l (e + 1) 0 0 iX11_tellsSeen 2 [(0, .ref v0), (1, .int v1), (2, .int x)] [] (r2 x)) (v2 : Int32) : zCo l (e + 1) 0 0 iX11_tellsSeen 2 [(0, .ref v0), (1, .int v1), (2, .int v2)] [] (X11_tellsSeen_B2 v0 v1 r2 v2) := by
  unfold X11_tellsSeen_B2
  refine zco_p tkX11_tellsSeen 2 4 (pc' := 6) (L' := [(0, .ref v0), (1, .int v1), (2, .int v2)]) (S' := [.int v1, .int (v2 + 2)]) rfl ?_
  refine zco_icmp_ge (tgt := 59) (zdk (cc := cX11_tellsSeen) (q := (6, .if_icmp .ge 53, 3)) tkX11_tellsSeen 6 rfl) rfl ?_ ?_
  · refine zco_p tkX11_tellsSeen 36 1 (pc' := 60) (L' := [(0, .ref v0), (1, .int v1), (2, .int v2)]) (S' := [.int 1]) rfl ?_
    exact zco_zret rfl rfl rfl (zdk (cc := cX11_tellsSeen) (q := (60, .ireturn, 1)) tkX11_tellsSeen 37 rfl)
  · refine zco_p tkX11_tellsSeen 7 1 (pc' := 10) (L' := [(0, .ref v0), (1, .int v1), (2, .int v2)]) (S' := [.ref v0]) rfl ?_
    refine zco_gr fl_11_9 rfl (zdk (cc := cX11_tellsSeen) (q := (10, .getfield 9, 3)) tkX11_tellsSeen 8 rfl) (fun x1 => ?_)
    refine zco_p tkX11_tellsSeen 9 1 (pc' := 14) (L' := [(0, .ref v0), (1, .int v1), (2, .int v2)]) (S' := [.int v2, .ref x1]) rfl ?_
    refine zco_iaload (zdk (cc := cX11_tellsSeen) (q := (14, .iaload, 1)) tkX11_tellsSeen 10 rfl) (fun x2 => ?_)
    refine zco_p tkX11_tellsSeen 11 1 (pc' := 17) (L' := [(0, .ref v0), (1, .int v1), (2, .int v2)]) (S' := [.int 30, .int x2]) rfl ?_
    refine zco_icmp_gt (tgt := 51) (zdk (cc := cX11_tellsSeen) (q := (17, .if_icmp .gt 34, 3)) tkX11_tellsSeen 12 rfl) rfl ?_ ?_
    · refine zco_p tkX11_tellsSeen 32 1 (pc' := 52) (L' := [(0, .ref v0), (1, .int v1), (2, .int v2)]) (S' := [.int 0]) rfl ?_
      exact zco_zret rfl rfl rfl (zdk (cc := cX11_tellsSeen) (q := (52, .ireturn, 1)) tkX11_tellsSeen 33 rfl)
    · refine zco_p tkX11_tellsSeen 13 1 (pc' := 21) (L' := [(0, .ref v0), (1, .int v1), (2, .int v2)]) (S' := [.ref v0]) rfl ?_
      refine zco_gr fl_11_51 rfl (zdk (cc := cX11_tellsSeen) (q := (21, .getfield 51, 3)) tkX11_tellsSeen 14 rfl) (fun x3 => ?_)
      refine zco_p tkX11_tellsSeen 15 1 (pc' := 25) (L' := [(0, .ref v0), (1, .int v1), (2, .int v2)]) (S' := [.ref v0, .ref x3]) rfl ?_
      refine zco_gr fl_11_9 rfl (zdk (cc := cX11_tellsSeen) (q := (25, .getfield 9, 3)) tkX11_tellsSeen 16 rfl) (fun x4 => ?_)
      refine zco_p tkX11_tellsSeen 17 3 (pc' := 31) (L' := [(0, .ref v0), (1, .int v1), (2, .int v2)]) (S' := [.int (v2 + 1), .ref x4, .ref x3]) rfl ?_
      refine zco_iaload (zdk (cc := cX11_tellsSeen) (q := (31, .iaload, 1)) tkX11_tellsSeen 20 rfl) (fun x5 => ?_)
      refine zco_Vi (rc := 0) (rs := 0) (mc := 0) (ms := 0) (As := [.int x5]) (S := []) vmX1_slot (mtX1_slot l e (by omega) x3 x5) q_932 rfl rfl (Nat.le_of_ble_eq_true rfl) (zdk (cc := cX11_tellsSeen) (q := (32, .invokevirtual 184, 3)) tkX11_tellsSeen 21 rfl) (fun y6 => ?_)
      refine zco_p tkX11_tellsSeen 22 1 (pc' := 36) (L' := [(0, .ref v0), (1, .int v1), (2, .int v2)]) (S' := [.int ((-1)), .int y6]) rfl ?_
      refine zco_icmp_eq (tgt := 51) (zdk (cc := cX11_tellsSeen) (q := (36, .if_icmp .eq 15, 3)) tkX11_tellsSeen 23 rfl) rfl ?_ ?_
      · refine zco_p tkX11_tellsSeen 32 1 (pc' := 52) (L' := [(0, .ref v0), (1, .int v1), (2, .int v2)]) (S' := [.int 0]) rfl ?_
        exact zco_zret rfl rfl rfl (zdk (cc := cX11_tellsSeen) (q := (52, .ireturn, 1)) tkX11_tellsSeen 33 rfl)
      · refine zco_p tkX11_tellsSeen 24 1 (pc' := 40) (L' := [(0, .ref v0), (1, .int v1), (2, .int v2)]) (S' := [.ref v0]) rfl ?_
        refine zco_gr fl_11_9 rfl (zdk (cc := cX11_tellsSeen) (q := (40, .getfield 9, 3)) tkX11_tellsSeen 25 rfl) (fun x7 => ?_)
        refine zco_p tkX11_tellsSeen 26 3 (pc' := 46) (L' := [(0, .ref v0), (1, .int v1), (2, .int v2)]) (S' := [.int (v2 + 2), .ref x7]) rfl ?_
        refine zco_iaload (zdk (cc := cX11_tellsSeen) (q := (46, .iaload, 1)) tkX11_tellsSeen 29 rfl) (fun x8 => ?_)
        refine zco_p tkX11_tellsSeen 30 1 (pc' := 48) (L' := [(0, .ref v0), (1, .int v1), (2, .int v2)]) (S' := [.int 1, .int x8]) rfl ?_
        refine zco_icmp_le (tgt := 53) (zdk (cc := cX11_tellsSeen) (q := (48, .if_icmp .le 5, 3)) tkX11_tellsSeen 31 rfl) rfl ?_ ?_
        · refine zco_p tkX11_tellsSeen 34 2 (pc' := 2) (L' := [(2, .int (v2 + 3)), (0, .ref v0), (1, .int v1)]) (S' := []) rfl ?_
          exact zco_sub [1, 2, 0] rfl (hr2 (v2 + 3))
        · refine zco_p tkX11_tellsSeen 32 1 (pc' := 52) (L' := [(0, .ref v0), (1, .int v1), (2, .int v2)]) (S' := [.int 0]) rfl ?_
          exact zco_zret rfl rfl rfl (zdk (cc := cX11_tellsSeen) (q := (52, .ireturn, 1)) tkX11_tellsSeen 33 rfl)
set_option maxHeartbeats 2000000 in
set_option maxRecDepth 20000 in
theorem coX11_tellsSeen (l : Launch) (e : Nat) (he : 2 ≤ e) (v0 : Nat) (v1 : Int32) : zCo l (e + 1) 0 0 iX11_tellsSeen 0 [(0, .ref v0), (1, .int v1)] [] (X11_tellsSeen v0 v1) := by
  unfold X11_tellsSeen
  refine zco_p tkX11_tellsSeen 0 2 (pc' := 2) (L' := [(2, .int 0), (0, .ref v0), (1, .int v1)]) (S' := []) rfl ?_
  exact zco_sub [1, 2, 0] rfl (zco_fix (Lf := fun x : Int32 => [(0, .ref v0), (1, .int v1), (2, .int x)]) (Sf := fun _ => []) (fun r hr x => coX11_tellsSeen_B2 l e he v0 v1 r hr x) zFU 0)
theorem mtX11_tellsSeen (l : Launch) (d : Nat) (hd : 3 ≤ d) (v0 : Nat) (v1 : Int32) : zMet l d 0 0 yX11_tellsSeen cX11_tellsSeen 3 (Option.some .boolean) [.ref v0, .int v1] (X11_tellsSeen v0 v1) := by
  obtain ⟨e, rfl⟩ : ∃ e, d = e + 1 := ⟨d - 1, by omega⟩
  exact zmet_of (own := RX11) (ini := false) (by decide +kernel) rfl (fun _ => by contradiction) (Nat.le_of_ble_eq_true rfl) (coX11_tellsSeen l e (by omega) v0 v1)
abbrev iX11_see : zI := (RX11, cX11_see, 3, (Option.some .int), false)
def tX11_see : List (Nat × Instr × Nat) := [(0, .aload_n 0, 1), (1, .invokevirtual 136, 3), (4, .istore_n 1, 1), (5, .iload_n 1, 1), (6, .iconst 3, 1), (7, .if_icmp .lt 23, 3), (10, .iload_n 1, 1), (11, .bipush 48, 2), (13, .if_icmp .gt 17, 3), (16, .iload_n 1, 1), (17, .iconst 3, 1), (18, .irem, 1), (19, .ifCond .ne 11, 3), (22, .aload_n 0, 1), (23, .iload_n 1, 1), (24, .invokevirtual 293, 3), (27, .ifCond .ne 9, 3), (30, .aload_n 0, 1), (31, .iconst 1, 1), (32, .invokevirtual 128, 3), (35, .ireturn, 1), (36, .iconst 0, 1), (37, .istore_n 2, 1), (38, .iload_n 2, 1), (39, .iconst 2, 1), (40, .iadd, 1), (41, .iload_n 1, 1), (42, .if_icmp .ge 60, 3), (45, .aload_n 0, 1), (46, .getfield 97, 3), (49, .iload_n 2, 1), (50, .aload_n 0, 1), (51, .getfield 9, 3), (54, .iload_n 2, 1), (55, .iaload, 1), (56, .iastore, 1), (57, .aload_n 0, 1), (58, .getfield 97, 3), (61, .iload_n 2, 1), (62, .iconst 1, 1), (63, .iadd, 1), (64, .aload_n 0, 1), (65, .getfield 51, 3), (68, .aload_n 0, 1), (69, .getfield 9, 3), (72, .iload_n 2, 1), (73, .iconst 1, 1), (74, .iadd, 1), (75, .iaload, 1), (76, .invokevirtual 184, 3), (79, .iastore, 1), (80, .aload_n 0, 1), (81, .getfield 97, 3), (84, .iload_n 2, 1), (85, .iconst 2, 1), (86, .iadd, 1), (87, .aload_n 0, 1), (88, .getfield 9, 3), (91, .iload_n 2, 1), (92, .iconst 2, 1), (93, .iadd, 1), (94, .iaload, 1), (95, .iastore, 1), (96, .iinc 2 3, 3), (99, .goto (-61), 3), (102, .aload_n 0, 1), (103, .iload_n 1, 1), (104, .iconst 3, 1), (105, .idiv, 1), (106, .putfield 100, 3), (109, .aload_n 0, 1), (110, .getfield 100, 3), (113, .ireturn, 1)]
set_option maxRecDepth 100000 in
theorem tkX11_see : ∀ q ∈ tX11_see, decode cX11_see q.1 = .ok q.2 := by decide +kernel
theorem vmX11_see : zVM yX11_see cX11_see 3 (Option.some .int) 0 11 := ⟨kX11_see, q_1176, q_1177, q_149, ⟨_, rfl, rfl⟩, by decide +kernel, by decide⟩
set_option maxHeartbeats 2000000 in
set_option maxRecDepth 20000 in
theorem coX11_see_J102 (l : Launch) (e : Nat) (he : 3 ≤ e) (v0 : Nat) (v1 : Int32) : zCo l (e + 1) 0 0 iX11_see 102 [(0, .ref v0), (1, .int v1)] [] (X11_see_J102 v0 v1) := by
  unfold X11_see_J102
  refine zco_p tkX11_see 65 3 (pc' := 105) (L' := [(0, .ref v0), (1, .int v1)]) (S' := [.int 3, .int v1, .ref v0]) rfl ?_
  refine zco_idiv (zdk (cc := cX11_see) (q := (105, .idiv, 1)) tkX11_see 68 rfl) ?_
  refine zco_pi fl_11_100 rfl rfl (zdk (cc := cX11_see) (q := (106, .putfield 100, 3)) tkX11_see 69 rfl) ?_
  refine zco_p tkX11_see 70 1 (pc' := 110) (L' := [(0, .ref v0), (1, .int v1)]) (S' := [.ref v0]) rfl ?_
  refine zco_gi fl_11_100 rfl (zdk (cc := cX11_see) (q := (110, .getfield 100, 3)) tkX11_see 71 rfl) (fun x1 => ?_)
  exact zco_iret rfl rfl rfl (zdk (cc := cX11_see) (q := (113, .ireturn, 1)) tkX11_see 72 rfl)
set_option maxHeartbeats 2000000 in
set_option maxRecDepth 20000 in
theorem coX11_see_B38 (l : Launch) (e : Nat) (he : 3 ≤ e) (v0 : Nat) (v1 : Int32) (r38 : Int32 → zM) (hr38 : ∀ x : Int32, zCo l (e + 1) 0 0 iX11_see 38 [(0, .ref v0), (1, .int v1), (2, .int x)] [] (r38 x)) (v2 : Int32) : zCo l (e + 1) 0 0 iX11_see 38 [(0, .ref v0), (1, .int v1), (2, .int v2)] [] (X11_see_B38 v0 v1 r38 v2) := by
  unfold X11_see_B38
  refine zco_p tkX11_see 23 4 (pc' := 42) (L' := [(0, .ref v0), (1, .int v1), (2, .int v2)]) (S' := [.int v1, .int (v2 + 2)]) rfl ?_
  refine zco_icmp_ge (tgt := 102) (zdk (cc := cX11_see) (q := (42, .if_icmp .ge 60, 3)) tkX11_see 27 rfl) rfl ?_ ?_
  · exact zco_sub [0, 1] rfl (coX11_see_J102 l e he v0 v1)
  · refine zco_p tkX11_see 28 1 (pc' := 46) (L' := [(0, .ref v0), (1, .int v1), (2, .int v2)]) (S' := [.ref v0]) rfl ?_
    refine zco_gr fl_11_97 rfl (zdk (cc := cX11_see) (q := (46, .getfield 97, 3)) tkX11_see 29 rfl) (fun x1 => ?_)
    refine zco_p tkX11_see 30 2 (pc' := 51) (L' := [(0, .ref v0), (1, .int v1), (2, .int v2)]) (S' := [.ref v0, .int v2, .ref x1]) rfl ?_
    refine zco_gr fl_11_9 rfl (zdk (cc := cX11_see) (q := (51, .getfield 9, 3)) tkX11_see 32 rfl) (fun x2 => ?_)
    refine zco_p tkX11_see 33 1 (pc' := 55) (L' := [(0, .ref v0), (1, .int v1), (2, .int v2)]) (S' := [.int v2, .ref x2, .int v2, .ref x1]) rfl ?_
    refine zco_iaload (zdk (cc := cX11_see) (q := (55, .iaload, 1)) tkX11_see 34 rfl) (fun x3 => ?_)
    refine zco_iastore (zdk (cc := cX11_see) (q := (56, .iastore, 1)) tkX11_see 35 rfl) ?_
    refine zco_p tkX11_see 36 1 (pc' := 58) (L' := [(0, .ref v0), (1, .int v1), (2, .int v2)]) (S' := [.ref v0]) rfl ?_
    refine zco_gr fl_11_97 rfl (zdk (cc := cX11_see) (q := (58, .getfield 97, 3)) tkX11_see 37 rfl) (fun x4 => ?_)
    refine zco_p tkX11_see 38 4 (pc' := 65) (L' := [(0, .ref v0), (1, .int v1), (2, .int v2)]) (S' := [.ref v0, .int (v2 + 1), .ref x4]) rfl ?_
    refine zco_gr fl_11_51 rfl (zdk (cc := cX11_see) (q := (65, .getfield 51, 3)) tkX11_see 42 rfl) (fun x5 => ?_)
    refine zco_p tkX11_see 43 1 (pc' := 69) (L' := [(0, .ref v0), (1, .int v1), (2, .int v2)]) (S' := [.ref v0, .ref x5, .int (v2 + 1), .ref x4]) rfl ?_
    refine zco_gr fl_11_9 rfl (zdk (cc := cX11_see) (q := (69, .getfield 9, 3)) tkX11_see 44 rfl) (fun x6 => ?_)
    refine zco_p tkX11_see 45 3 (pc' := 75) (L' := [(0, .ref v0), (1, .int v1), (2, .int v2)]) (S' := [.int (v2 + 1), .ref x6, .ref x5, .int (v2 + 1), .ref x4]) rfl ?_
    refine zco_iaload (zdk (cc := cX11_see) (q := (75, .iaload, 1)) tkX11_see 48 rfl) (fun x7 => ?_)
    refine zco_Vi (rc := 0) (rs := 0) (mc := 0) (ms := 0) (As := [.int x7]) (S := [.int (v2 + 1), .ref x4]) vmX1_slot (mtX1_slot l e (by omega) x5 x7) q_932 rfl rfl (Nat.le_of_ble_eq_true rfl) (zdk (cc := cX11_see) (q := (76, .invokevirtual 184, 3)) tkX11_see 49 rfl) (fun y8 => ?_)
    refine zco_iastore (zdk (cc := cX11_see) (q := (79, .iastore, 1)) tkX11_see 50 rfl) ?_
    refine zco_p tkX11_see 51 1 (pc' := 81) (L' := [(0, .ref v0), (1, .int v1), (2, .int v2)]) (S' := [.ref v0]) rfl ?_
    refine zco_gr fl_11_97 rfl (zdk (cc := cX11_see) (q := (81, .getfield 97, 3)) tkX11_see 52 rfl) (fun x9 => ?_)
    refine zco_p tkX11_see 53 4 (pc' := 88) (L' := [(0, .ref v0), (1, .int v1), (2, .int v2)]) (S' := [.ref v0, .int (v2 + 2), .ref x9]) rfl ?_
    refine zco_gr fl_11_9 rfl (zdk (cc := cX11_see) (q := (88, .getfield 9, 3)) tkX11_see 57 rfl) (fun x10 => ?_)
    refine zco_p tkX11_see 58 3 (pc' := 94) (L' := [(0, .ref v0), (1, .int v1), (2, .int v2)]) (S' := [.int (v2 + 2), .ref x10, .int (v2 + 2), .ref x9]) rfl ?_
    refine zco_iaload (zdk (cc := cX11_see) (q := (94, .iaload, 1)) tkX11_see 61 rfl) (fun x11 => ?_)
    refine zco_iastore (zdk (cc := cX11_see) (q := (95, .iastore, 1)) tkX11_see 62 rfl) ?_
    refine zco_p tkX11_see 63 2 (pc' := 38) (L' := [(2, .int (v2 + 3)), (0, .ref v0), (1, .int v1)]) (S' := []) rfl ?_
    exact zco_sub [1, 2, 0] rfl (hr38 (v2 + 3))
set_option maxHeartbeats 2000000 in
set_option maxRecDepth 20000 in
theorem coX11_see_J30 (l : Launch) (e : Nat) (he : 3 ≤ e) (v0 : Nat) : zCo l (e + 1) 0 0 iX11_see 30 [(0, .ref v0)] [] (X11_see_J30 v0) := by
  unfold X11_see_J30
  refine zco_p tkX11_see 17 2 (pc' := 32) (L' := [(0, .ref v0)]) (S' := [.int 1, .ref v0]) rfl ?_
  refine zco_Vi (rc := 0) (rs := 0) (mc := 0) (ms := 0) (As := [.int 1]) (S := []) vmX11_refuse (mtX11_refuse l e (by omega) v0 1) q_624 rfl rfl (Nat.le_of_ble_eq_true rfl) (zdk (cc := cX11_see) (q := (32, .invokevirtual 128, 3)) tkX11_see 19 rfl) (fun y1 => ?_)
  exact zco_iret rfl rfl rfl (zdk (cc := cX11_see) (q := (35, .ireturn, 1)) tkX11_see 20 rfl)
set_option maxHeartbeats 2000000 in
set_option maxRecDepth 20000 in
theorem coX11_see (l : Launch) (e : Nat) (he : 3 ≤ e) (v0 : Nat) : zCo l (e + 1) 0 0 iX11_see 0 [(0, .ref v0)] [] (X11_see v0) := by
  unfold X11_see
  refine zco_p tkX11_see 0 1 (pc' := 1) (L' := [(0, .ref v0)]) (S' := [.ref v0]) rfl ?_
  refine zco_Vi (rc := 0) (rs := 0) (mc := 0) (ms := 0) (As := []) (S := []) vmX11_takeTape (mtX11_takeTape l e (by omega) v0) q_640 rfl rfl (Nat.le_of_ble_eq_true rfl) (zdk (cc := cX11_see) (q := (1, .invokevirtual 136, 3)) tkX11_see 1 rfl) (fun y1 => ?_)
  refine zco_p tkX11_see 2 3 (pc' := 7) (L' := [(1, .int y1), (0, .ref v0)]) (S' := [.int 3, .int y1]) rfl ?_
  refine zco_icmp_lt (tgt := 30) (zdk (cc := cX11_see) (q := (7, .if_icmp .lt 23, 3)) tkX11_see 5 rfl) rfl ?_ ?_
  · exact zco_sub [1] rfl (coX11_see_J30 l e he v0)
  · refine zco_p tkX11_see 6 2 (pc' := 13) (L' := [(1, .int y1), (0, .ref v0)]) (S' := [.int 48, .int y1]) rfl ?_
    refine zco_icmp_gt (tgt := 30) (zdk (cc := cX11_see) (q := (13, .if_icmp .gt 17, 3)) tkX11_see 8 rfl) rfl ?_ ?_
    · exact zco_sub [1] rfl (coX11_see_J30 l e he v0)
    · refine zco_p tkX11_see 9 2 (pc' := 18) (L' := [(1, .int y1), (0, .ref v0)]) (S' := [.int 3, .int y1]) rfl ?_
      refine zco_irem (zdk (cc := cX11_see) (q := (18, .irem, 1)) tkX11_see 11 rfl) ?_
      refine zco_if_ne (tgt := 30) (zdk (cc := cX11_see) (q := (19, .ifCond .ne 11, 3)) tkX11_see 12 rfl) rfl ?_ ?_
      · exact zco_sub [1] rfl (coX11_see_J30 l e he v0)
      · refine zco_p tkX11_see 13 2 (pc' := 24) (L' := [(1, .int y1), (0, .ref v0)]) (S' := [.int y1, .ref v0]) rfl ?_
        refine zco_Vi (rc := 0) (rs := 0) (mc := 0) (ms := 0) (As := [.int y1]) (S := []) vmX11_tellsSeen (mtX11_tellsSeen l e (by omega) v0 y1) q_1179 rfl rfl (Nat.le_of_ble_eq_true rfl) (zdk (cc := cX11_see) (q := (24, .invokevirtual 293, 3)) tkX11_see 15 rfl) (fun y2 => ?_)
        refine zco_if_ne (tgt := 36) (zdk (cc := cX11_see) (q := (27, .ifCond .ne 9, 3)) tkX11_see 16 rfl) rfl ?_ ?_
        · refine zco_p tkX11_see 21 2 (pc' := 38) (L' := [(2, .int 0), (1, .int y1), (0, .ref v0)]) (S' := []) rfl ?_
          exact zco_sub [2, 1, 0] rfl (zco_fix (Lf := fun x : Int32 => [(0, .ref v0), (1, .int y1), (2, .int x)]) (Sf := fun _ => []) (fun r hr x => coX11_see_B38 l e he v0 y1 r hr x) zFU 0)
        · exact zco_sub [1] rfl (coX11_see_J30 l e he v0)
theorem mtX11_see (l : Launch) (d : Nat) (hd : 4 ≤ d) (v0 : Nat) : zMet l d 0 0 yX11_see cX11_see 3 (Option.some .int) [.ref v0] (X11_see v0) := by
  obtain ⟨e, rfl⟩ : ∃ e, d = e + 1 := ⟨d - 1, by omega⟩
  exact zmet_of (own := RX11) (ini := false) (by decide +kernel) rfl (fun _ => by contradiction) (Nat.le_of_ble_eq_true rfl) (coX11_see l e (by omega) v0)
abbrev iX0_isAsSeen : zI := (RX0, cX0_isAsSeen, 7, (Option.some .boolean), false)
def tX0_isAsSeen : List (Nat × Instr × Nat) := [(0, .iconst 0, 1), (1, .istore 4, 2), (3, .iload 4, 2), (5, .iload_n 3, 1), (6, .if_icmp .gt 105, 3), (9, .iconst 0, 1), (10, .istore 5, 2), (12, .iload 5, 2), (14, .iload_n 2, 1), (15, .if_icmp .ge 71, 3), (18, .aload_n 0, 1), (19, .getfield 12, 3), (22, .getfield 69, 3), (25, .aload_n 1, 1), (26, .iconst 3, 1), (27, .iload 5, 2), (29, .imul, 1), (30, .iconst 1, 1), (31, .iadd, 1), (32, .iaload, 1), (33, .iaload, 1), (34, .iconst (-1), 1), (35, .if_icmp .eq 7, 3), (38, .iconst 1, 1), (39, .goto 4, 3), (42, .iconst 0, 1), (43, .istore 6, 2), (45, .aload_n 1, 1), (46, .iconst 3, 1), (47, .iload 5, 2), (49, .imul, 1), (50, .iaload, 1), (51, .iload 4, 2), (53, .if_icmp .ne 27, 3), (56, .iload 6, 2), (58, .aload_n 1, 1), (59, .iconst 3, 1), (60, .iload 5, 2), (62, .imul, 1), (63, .iconst 2, 1), (64, .iadd, 1), (65, .iaload, 1), (66, .iconst 1, 1), (67, .if_icmp .ne 7, 3), (70, .iconst 1, 1), (71, .goto 4, 3), (74, .iconst 0, 1), (75, .if_icmp .eq 5, 3), (78, .iconst 0, 1), (79, .ireturn, 1), (80, .iinc 5 1, 3), (83, .goto (-71), 3), (86, .iload 4, 2), (88, .iload_n 3, 1), (89, .if_icmp .ge 16, 3), (92, .aload_n 0, 1), (93, .getfield 25, 3), (96, .aload_n 0, 1), (97, .getfield 12, 3), (100, .iconst (-1), 1), (101, .invokevirtual 51, 3), (104, .pop, 1), (105, .iinc 4 1, 3), (108, .goto (-105), 3), (111, .iconst 1, 1), (112, .ireturn, 1)]
set_option maxRecDepth 100000 in
theorem tkX0_isAsSeen : ∀ q ∈ tX0_isAsSeen, decode cX0_isAsSeen q.1 = .ok q.2 := by decide +kernel
theorem vmX0_isAsSeen : zVM yX0_isAsSeen cX0_isAsSeen 7 (Option.some .boolean) 3 0 := ⟨kX0_isAsSeen, q_1194, q_34, q_158, ⟨_, rfl, rfl⟩, by decide +kernel, by decide⟩
set_option maxHeartbeats 2000000 in
set_option maxRecDepth 20000 in
theorem coX0_isAsSeen_J105 (l : Launch) (e : Nat) (he : 5 ≤ e) (v0 : Nat) (v1 : Nat) (v2 : Int32) (v3 : Int32) (v4 : Int32) (r3 : Int32 → zM) (hr3 : ∀ x : Int32, zCo l (e + 1) 0 0 iX0_isAsSeen 3 [(0, .ref v0), (1, .ref v1), (2, .int v2), (3, .int v3), (4, .int x)] [] (r3 x)) : zCo l (e + 1) 0 0 iX0_isAsSeen 105 [(0, .ref v0), (1, .ref v1), (2, .int v2), (3, .int v3), (4, .int v4)] [] (X0_isAsSeen_J105 r3 v0 v1 v2 v3 v4) := by
  unfold X0_isAsSeen_J105
  refine zco_p tkX0_isAsSeen 62 2 (pc' := 3) (L' := [(4, .int (v4 + 1)), (0, .ref v0), (1, .ref v1), (2, .int v2), (3, .int v3)]) (S' := []) rfl ?_
  exact zco_sub [1, 2, 3, 4, 0] rfl (hr3 (v4 + 1))
set_option maxHeartbeats 2000000 in
set_option maxRecDepth 20000 in
theorem coX0_isAsSeen_J86 (l : Launch) (e : Nat) (he : 5 ≤ e) (v0 : Nat) (v1 : Nat) (v2 : Int32) (v3 : Int32) (v4 : Int32) (r3 : Int32 → zM) (hr3 : ∀ x : Int32, zCo l (e + 1) 0 0 iX0_isAsSeen 3 [(0, .ref v0), (1, .ref v1), (2, .int v2), (3, .int v3), (4, .int x)] [] (r3 x)) : zCo l (e + 1) 0 0 iX0_isAsSeen 86 [(0, .ref v0), (1, .ref v1), (2, .int v2), (3, .int v3), (4, .int v4)] [] (X0_isAsSeen_J86 r3 v0 v1 v2 v3 v4) := by
  unfold X0_isAsSeen_J86
  refine zco_p tkX0_isAsSeen 52 2 (pc' := 89) (L' := [(0, .ref v0), (1, .ref v1), (2, .int v2), (3, .int v3), (4, .int v4)]) (S' := [.int v3, .int v4]) rfl ?_
  refine zco_icmp_ge (tgt := 105) (zdk (cc := cX0_isAsSeen) (q := (89, .if_icmp .ge 16, 3)) tkX0_isAsSeen 54 rfl) rfl ?_ ?_
  · exact zco_sub [0, 1, 2, 3, 4] rfl (coX0_isAsSeen_J105 l e he v0 v1 v2 v3 v4 r3 hr3)
  · refine zco_p tkX0_isAsSeen 55 1 (pc' := 93) (L' := [(0, .ref v0), (1, .ref v1), (2, .int v2), (3, .int v3), (4, .int v4)]) (S' := [.ref v0]) rfl ?_
    refine zco_gr fl_0_25 rfl (zdk (cc := cX0_isAsSeen) (q := (93, .getfield 25, 3)) tkX0_isAsSeen 56 rfl) (fun x1 => ?_)
    refine zco_p tkX0_isAsSeen 57 1 (pc' := 97) (L' := [(0, .ref v0), (1, .ref v1), (2, .int v2), (3, .int v3), (4, .int v4)]) (S' := [.ref v0, .ref x1]) rfl ?_
    refine zco_gr fl_0_12 rfl (zdk (cc := cX0_isAsSeen) (q := (97, .getfield 12, 3)) tkX0_isAsSeen 58 rfl) (fun x2 => ?_)
    refine zco_p tkX0_isAsSeen 59 1 (pc' := 101) (L' := [(0, .ref v0), (1, .ref v1), (2, .int v2), (3, .int v3), (4, .int v4)]) (S' := [.int ((-1)), .ref x2, .ref x1]) rfl ?_
    refine zco_Vi (rc := 0) (rs := 0) (mc := 0) (ms := 0) (As := [.ref x2, .int ((-1))]) (S := []) vmX10_go (mtX10_go l e (by omega) x1 x2 ((-1))) q_1050 rfl rfl (Nat.le_of_ble_eq_true rfl) (zdk (cc := cX0_isAsSeen) (q := (101, .invokevirtual 51, 3)) tkX0_isAsSeen 60 rfl) (fun y3 => ?_)
    refine zco_p tkX0_isAsSeen 61 1 (pc' := 105) (L' := [(0, .ref v0), (1, .ref v1), (2, .int v2), (3, .int v3), (4, .int v4)]) (S' := []) rfl ?_
    exact zco_sub [0, 1, 2, 3, 4] rfl (coX0_isAsSeen_J105 l e he v0 v1 v2 v3 v4 r3 hr3)
set_option maxHeartbeats 2000000 in
set_option maxRecDepth 20000 in
theorem coX0_isAsSeen_J80 (l : Launch) (e : Nat) (he : 5 ≤ e) (v0 : Nat) (v1 : Nat) (v2 : Int32) (v3 : Int32) (v4 : Int32) (v5 : Int32) (r3 : Int32 → zM) (hr3 : ∀ x : Int32, zCo l (e + 1) 0 0 iX0_isAsSeen 3 [(0, .ref v0), (1, .ref v1), (2, .int v2), (3, .int v3), (4, .int x)] [] (r3 x)) (r12 : Int32 → zM) (hr12 : ∀ x : Int32, zCo l (e + 1) 0 0 iX0_isAsSeen 12 [(0, .ref v0), (1, .ref v1), (2, .int v2), (3, .int v3), (4, .int v4), (5, .int x)] [] (r12 x)) : zCo l (e + 1) 0 0 iX0_isAsSeen 80 [(0, .ref v0), (1, .ref v1), (2, .int v2), (3, .int v3), (4, .int v4), (5, .int v5)] [] (X0_isAsSeen_J80 r3 r12 v0 v1 v2 v3 v4 v5) := by
  unfold X0_isAsSeen_J80
  refine zco_p tkX0_isAsSeen 50 2 (pc' := 12) (L' := [(5, .int (v5 + 1)), (0, .ref v0), (1, .ref v1), (2, .int v2), (3, .int v3), (4, .int v4)]) (S' := []) rfl ?_
  exact zco_sub [1, 2, 3, 4, 5, 0] rfl (hr12 (v5 + 1))
set_option maxHeartbeats 2000000 in
set_option maxRecDepth 20000 in
theorem coX0_isAsSeen_J75 (l : Launch) (e : Nat) (he : 5 ≤ e) (v0 : Nat) (v1 : Nat) (v2 : Int32) (v3 : Int32) (v4 : Int32) (v5 : Int32) (r3 : Int32 → zM) (hr3 : ∀ x : Int32, zCo l (e + 1) 0 0 iX0_isAsSeen 3 [(0, .ref v0), (1, .ref v1), (2, .int v2), (3, .int v3), (4, .int x)] [] (r3 x)) (r12 : Int32 → zM) (hr12 : ∀ x : Int32, zCo l (e + 1) 0 0 iX0_isAsSeen 12 [(0, .ref v0), (1, .ref v1), (2, .int v2), (3, .int v3), (4, .int v4), (5, .int x)] [] (r12 x)) (s0 : Int32) (s1 : Int32) : zCo l (e + 1) 0 0 iX0_isAsSeen 75 [(0, .ref v0), (1, .ref v1), (2, .int v2), (3, .int v3), (4, .int v4), (5, .int v5)] [.int s0, .int s1] (X0_isAsSeen_J75 r3 r12 v0 v1 v2 v3 v4 v5 s0 s1) := by
  unfold X0_isAsSeen_J75
  refine zco_icmp_eq (tgt := 80) (zdk (cc := cX0_isAsSeen) (q := (75, .if_icmp .eq 5, 3)) tkX0_isAsSeen 47 rfl) rfl ?_ ?_
  · exact zco_sub [0, 1, 2, 3, 4, 5] rfl (coX0_isAsSeen_J80 l e he v0 v1 v2 v3 v4 v5 r3 hr3 r12 hr12)
  · refine zco_p tkX0_isAsSeen 48 1 (pc' := 79) (L' := [(0, .ref v0), (1, .ref v1), (2, .int v2), (3, .int v3), (4, .int v4), (5, .int v5)]) (S' := [.int 0]) rfl ?_
    exact zco_zret rfl rfl rfl (zdk (cc := cX0_isAsSeen) (q := (79, .ireturn, 1)) tkX0_isAsSeen 49 rfl)
set_option maxHeartbeats 2000000 in
set_option maxRecDepth 20000 in
theorem coX0_isAsSeen_J43 (l : Launch) (e : Nat) (he : 5 ≤ e) (v0 : Nat) (v1 : Nat) (v2 : Int32) (v3 : Int32) (v4 : Int32) (v5 : Int32) (r3 : Int32 → zM) (hr3 : ∀ x : Int32, zCo l (e + 1) 0 0 iX0_isAsSeen 3 [(0, .ref v0), (1, .ref v1), (2, .int v2), (3, .int v3), (4, .int x)] [] (r3 x)) (r12 : Int32 → zM) (hr12 : ∀ x : Int32, zCo l (e + 1) 0 0 iX0_isAsSeen 12 [(0, .ref v0), (1, .ref v1), (2, .int v2), (3, .int v3), (4, .int v4), (5, .int x)] [] (r12 x)) (s0 : Int32) : zCo l (e + 1) 0 0 iX0_isAsSeen 43 [(0, .ref v0), (1, .ref v1), (2, .int v2), (3, .int v3), (4, .int v4), (5, .int v5)] [.int s0] (X0_isAsSeen_J43 r3 r12 v0 v1 v2 v3 v4 v5 s0) := by
  unfold X0_isAsSeen_J43
  refine zco_p tkX0_isAsSeen 26 5 (pc' := 50) (L' := [(6, .int s0), (0, .ref v0), (1, .ref v1), (2, .int v2), (3, .int v3), (4, .int v4), (5, .int v5)]) (S' := [.int (3 * v5), .ref v1]) rfl ?_
  refine zco_iaload (zdk (cc := cX0_isAsSeen) (q := (50, .iaload, 1)) tkX0_isAsSeen 31 rfl) (fun x1 => ?_)
  refine zco_p tkX0_isAsSeen 32 1 (pc' := 53) (L' := [(6, .int s0), (0, .ref v0), (1, .ref v1), (2, .int v2), (3, .int v3), (4, .int v4), (5, .int v5)]) (S' := [.int v4, .int x1]) rfl ?_
  refine zco_icmp_ne (tgt := 80) (zdk (cc := cX0_isAsSeen) (q := (53, .if_icmp .ne 27, 3)) tkX0_isAsSeen 33 rfl) rfl ?_ ?_
  · exact zco_sub [1, 2, 3, 4, 5, 6] rfl (coX0_isAsSeen_J80 l e he v0 v1 v2 v3 v4 v5 r3 hr3 r12 hr12)
  · refine zco_p tkX0_isAsSeen 34 7 (pc' := 65) (L' := [(6, .int s0), (0, .ref v0), (1, .ref v1), (2, .int v2), (3, .int v3), (4, .int v4), (5, .int v5)]) (S' := [.int ((3 * v5) + 2), .ref v1, .int s0]) rfl ?_
    refine zco_iaload (zdk (cc := cX0_isAsSeen) (q := (65, .iaload, 1)) tkX0_isAsSeen 41 rfl) (fun x2 => ?_)
    refine zco_p tkX0_isAsSeen 42 1 (pc' := 67) (L' := [(6, .int s0), (0, .ref v0), (1, .ref v1), (2, .int v2), (3, .int v3), (4, .int v4), (5, .int v5)]) (S' := [.int 1, .int x2, .int s0]) rfl ?_
    refine zco_icmp_ne (tgt := 74) (zdk (cc := cX0_isAsSeen) (q := (67, .if_icmp .ne 7, 3)) tkX0_isAsSeen 43 rfl) rfl ?_ ?_
    · refine zco_p tkX0_isAsSeen 46 1 (pc' := 75) (L' := [(6, .int s0), (0, .ref v0), (1, .ref v1), (2, .int v2), (3, .int v3), (4, .int v4), (5, .int v5)]) (S' := [.int 0, .int s0]) rfl ?_
      exact zco_sub [1, 2, 3, 4, 5, 6] rfl (coX0_isAsSeen_J75 l e he v0 v1 v2 v3 v4 v5 r3 hr3 r12 hr12 0 s0)
    · refine zco_p tkX0_isAsSeen 44 2 (pc' := 75) (L' := [(6, .int s0), (0, .ref v0), (1, .ref v1), (2, .int v2), (3, .int v3), (4, .int v4), (5, .int v5)]) (S' := [.int 1, .int s0]) rfl ?_
      exact zco_sub [1, 2, 3, 4, 5, 6] rfl (coX0_isAsSeen_J75 l e he v0 v1 v2 v3 v4 v5 r3 hr3 r12 hr12 1 s0)
set_option maxHeartbeats 2000000 in
set_option maxRecDepth 20000 in
theorem coX0_isAsSeen_B12 (l : Launch) (e : Nat) (he : 5 ≤ e) (v0 : Nat) (v1 : Nat) (v2 : Int32) (v3 : Int32) (v4 : Int32) (r3 : Int32 → zM) (hr3 : ∀ x : Int32, zCo l (e + 1) 0 0 iX0_isAsSeen 3 [(0, .ref v0), (1, .ref v1), (2, .int v2), (3, .int v3), (4, .int x)] [] (r3 x)) (r12 : Int32 → zM) (hr12 : ∀ x : Int32, zCo l (e + 1) 0 0 iX0_isAsSeen 12 [(0, .ref v0), (1, .ref v1), (2, .int v2), (3, .int v3), (4, .int v4), (5, .int x)] [] (r12 x)) (v5 : Int32) : zCo l (e + 1) 0 0 iX0_isAsSeen 12 [(0, .ref v0), (1, .ref v1), (2, .int v2), (3, .int v3), (4, .int v4), (5, .int v5)] [] (X0_isAsSeen_B12 r3 v0 v1 v2 v3 v4 r12 v5) := by
  unfold X0_isAsSeen_B12
  refine zco_p tkX0_isAsSeen 7 2 (pc' := 15) (L' := [(0, .ref v0), (1, .ref v1), (2, .int v2), (3, .int v3), (4, .int v4), (5, .int v5)]) (S' := [.int v2, .int v5]) rfl ?_
  refine zco_icmp_ge (tgt := 86) (zdk (cc := cX0_isAsSeen) (q := (15, .if_icmp .ge 71, 3)) tkX0_isAsSeen 9 rfl) rfl ?_ ?_
  · exact zco_sub [0, 1, 2, 3, 4] rfl (coX0_isAsSeen_J86 l e he v0 v1 v2 v3 v4 r3 hr3)
  · refine zco_p tkX0_isAsSeen 10 1 (pc' := 19) (L' := [(0, .ref v0), (1, .ref v1), (2, .int v2), (3, .int v3), (4, .int v4), (5, .int v5)]) (S' := [.ref v0]) rfl ?_
    refine zco_gr fl_0_12 rfl (zdk (cc := cX0_isAsSeen) (q := (19, .getfield 12, 3)) tkX0_isAsSeen 11 rfl) (fun x1 => ?_)
    refine zco_gr fl_0_69 rfl (zdk (cc := cX0_isAsSeen) (q := (22, .getfield 69, 3)) tkX0_isAsSeen 12 rfl) (fun x2 => ?_)
    refine zco_p tkX0_isAsSeen 13 6 (pc' := 32) (L' := [(0, .ref v0), (1, .ref v1), (2, .int v2), (3, .int v3), (4, .int v4), (5, .int v5)]) (S' := [.int ((3 * v5) + 1), .ref v1, .ref x2]) rfl ?_
    refine zco_iaload (zdk (cc := cX0_isAsSeen) (q := (32, .iaload, 1)) tkX0_isAsSeen 19 rfl) (fun x3 => ?_)
    refine zco_iaload (zdk (cc := cX0_isAsSeen) (q := (33, .iaload, 1)) tkX0_isAsSeen 20 rfl) (fun x4 => ?_)
    refine zco_p tkX0_isAsSeen 21 1 (pc' := 35) (L' := [(0, .ref v0), (1, .ref v1), (2, .int v2), (3, .int v3), (4, .int v4), (5, .int v5)]) (S' := [.int ((-1)), .int x4]) rfl ?_
    refine zco_icmp_eq (tgt := 42) (zdk (cc := cX0_isAsSeen) (q := (35, .if_icmp .eq 7, 3)) tkX0_isAsSeen 22 rfl) rfl ?_ ?_
    · refine zco_p tkX0_isAsSeen 25 1 (pc' := 43) (L' := [(0, .ref v0), (1, .ref v1), (2, .int v2), (3, .int v3), (4, .int v4), (5, .int v5)]) (S' := [.int 0]) rfl ?_
      exact zco_sub [0, 1, 2, 3, 4, 5] rfl (coX0_isAsSeen_J43 l e he v0 v1 v2 v3 v4 v5 r3 hr3 r12 hr12 0)
    · refine zco_p tkX0_isAsSeen 23 2 (pc' := 43) (L' := [(0, .ref v0), (1, .ref v1), (2, .int v2), (3, .int v3), (4, .int v4), (5, .int v5)]) (S' := [.int 1]) rfl ?_
      exact zco_sub [0, 1, 2, 3, 4, 5] rfl (coX0_isAsSeen_J43 l e he v0 v1 v2 v3 v4 v5 r3 hr3 r12 hr12 1)
set_option maxHeartbeats 2000000 in
set_option maxRecDepth 20000 in
theorem coX0_isAsSeen_B3 (l : Launch) (e : Nat) (he : 5 ≤ e) (v0 : Nat) (v1 : Nat) (v2 : Int32) (v3 : Int32) (r3 : Int32 → zM) (hr3 : ∀ x : Int32, zCo l (e + 1) 0 0 iX0_isAsSeen 3 [(0, .ref v0), (1, .ref v1), (2, .int v2), (3, .int v3), (4, .int x)] [] (r3 x)) (v4 : Int32) : zCo l (e + 1) 0 0 iX0_isAsSeen 3 [(0, .ref v0), (1, .ref v1), (2, .int v2), (3, .int v3), (4, .int v4)] [] (X0_isAsSeen_B3 v0 v1 v2 v3 r3 v4) := by
  unfold X0_isAsSeen_B3
  refine zco_p tkX0_isAsSeen 2 2 (pc' := 6) (L' := [(0, .ref v0), (1, .ref v1), (2, .int v2), (3, .int v3), (4, .int v4)]) (S' := [.int v3, .int v4]) rfl ?_
  refine zco_icmp_gt (tgt := 111) (zdk (cc := cX0_isAsSeen) (q := (6, .if_icmp .gt 105, 3)) tkX0_isAsSeen 4 rfl) rfl ?_ ?_
  · refine zco_p tkX0_isAsSeen 64 1 (pc' := 112) (L' := [(0, .ref v0), (1, .ref v1), (2, .int v2), (3, .int v3), (4, .int v4)]) (S' := [.int 1]) rfl ?_
    exact zco_zret rfl rfl rfl (zdk (cc := cX0_isAsSeen) (q := (112, .ireturn, 1)) tkX0_isAsSeen 65 rfl)
  · refine zco_p tkX0_isAsSeen 5 2 (pc' := 12) (L' := [(5, .int 0), (0, .ref v0), (1, .ref v1), (2, .int v2), (3, .int v3), (4, .int v4)]) (S' := []) rfl ?_
    exact zco_sub [1, 2, 3, 4, 5, 0] rfl (zco_fix (Lf := fun x : Int32 => [(0, .ref v0), (1, .ref v1), (2, .int v2), (3, .int v3), (4, .int v4), (5, .int x)]) (Sf := fun _ => []) (fun r hr x => coX0_isAsSeen_B12 l e he v0 v1 v2 v3 v4 r3 hr3 r hr x) zFU 0)
set_option maxHeartbeats 2000000 in
set_option maxRecDepth 20000 in
theorem coX0_isAsSeen (l : Launch) (e : Nat) (he : 5 ≤ e) (v0 : Nat) (v1 : Nat) (v2 : Int32) (v3 : Int32) : zCo l (e + 1) 0 0 iX0_isAsSeen 0 [(0, .ref v0), (1, .ref v1), (2, .int v2), (3, .int v3)] [] (X0_isAsSeen v0 v1 v2 v3) := by
  unfold X0_isAsSeen
  refine zco_p tkX0_isAsSeen 0 2 (pc' := 3) (L' := [(4, .int 0), (0, .ref v0), (1, .ref v1), (2, .int v2), (3, .int v3)]) (S' := []) rfl ?_
  exact zco_sub [1, 2, 3, 4, 0] rfl (zco_fix (Lf := fun x : Int32 => [(0, .ref v0), (1, .ref v1), (2, .int v2), (3, .int v3), (4, .int x)]) (Sf := fun _ => []) (fun r hr x => coX0_isAsSeen_B3 l e he v0 v1 v2 v3 r hr x) zFU 0)
theorem mtX0_isAsSeen (l : Launch) (d : Nat) (hd : 6 ≤ d) (v0 : Nat) (v1 : Nat) (v2 : Int32) (v3 : Int32) : zMet l d 0 0 yX0_isAsSeen cX0_isAsSeen 7 (Option.some .boolean) [.ref v0, .ref v1, .int v2, .int v3] (X0_isAsSeen v0 v1 v2 v3) := by
  obtain ⟨e, rfl⟩ : ∃ e, d = e + 1 := ⟨d - 1, by omega⟩
  exact zmet_of (own := RX0) (ini := false) (by decide +kernel) rfl (fun _ => by contradiction) (Nat.le_of_ble_eq_true rfl) (coX0_isAsSeen l e (by omega) v0 v1 v2 v3)
abbrev iX0_sizesLeft : zI := (RX0, cX0_sizesLeft, 8, (Option.some .int), false)
def tX0_sizesLeft : List (Nat × Instr × Nat) := [(0, .iconst 0, 1), (1, .istore 5, 2), (3, .iconst 0, 1), (4, .istore 6, 2), (6, .iload 6, 2), (8, .iload 4, 2), (10, .if_icmp .ge 22, 3), (13, .iload 5, 2), (15, .aload_n 3, 1), (16, .iconst 3, 1), (17, .iload 6, 2), (19, .imul, 1), (20, .iaload, 1), (21, .invokestatic 115, 3), (24, .istore 5, 2), (26, .iinc 6 1, 3), (29, .goto (-23), 3), (32, .iload 5, 2), (34, .aload_n 0, 1), (35, .aload_n 1, 1), (36, .invokevirtual 47, 3), (39, .if_icmp .le 5, 3), (42, .iconst 0, 1), (43, .ireturn, 1), (44, .iconst 0, 1), (45, .istore 6, 2), (47, .iconst 0, 1), (48, .istore 7, 2), (50, .iload 7, 2), (52, .bipush 10, 2), (54, .if_icmp .ge 49, 3), (57, .aload_n 0, 1), (58, .getfield 12, 3), (61, .aload_n 1, 1), (62, .invokevirtual 55, 3), (65, .aload_n 0, 1), (66, .getfield 12, 3), (69, .getfield 118, 3), (72, .iload_n 2, 1), (73, .iload 7, 2), (75, .iastore, 1), (76, .aload_n 0, 1), (77, .aload_n 3, 1), (78, .iload 4, 2), (80, .iload 5, 2), (82, .invokevirtual 121, 3), (85, .ifCond .eq 12, 3), (88, .iload 6, 2), (90, .iconst 1, 1), (91, .iload 7, 2), (93, .ishl, 1), (94, .ior, 1), (95, .istore 6, 2), (97, .iinc 7 1, 3), (100, .goto (-50), 3), (103, .iload 6, 2), (105, .ireturn, 1)]
set_option maxRecDepth 100000 in
theorem tkX0_sizesLeft : ∀ q ∈ tX0_sizesLeft, decode cX0_sizesLeft q.1 = .ok q.2 := by decide +kernel
theorem vmX0_sizesLeft : zVM yX0_sizesLeft cX0_sizesLeft 8 (Option.some .int) 4 0 := ⟨kX0_sizesLeft, q_1188, q_1189, q_158, ⟨_, rfl, rfl⟩, by decide +kernel, by decide⟩
set_option maxHeartbeats 2000000 in
set_option maxRecDepth 20000 in
theorem coX0_sizesLeft_J97 (l : Launch) (e : Nat) (he : 6 ≤ e) (v0 : Nat) (v1 : Nat) (v2 : Int32) (v3 : Nat) (v4 : Int32) (v5 : Int32) (v6 : Int32) (v7 : Int32) (r50 : Int32 × Int32 → zM) (hr50 : ∀ x : Int32 × Int32, zCo l (e + 1) 0 0 iX0_sizesLeft 50 [(0, .ref v0), (1, .ref v1), (2, .int v2), (3, .ref v3), (4, .int v4), (5, .int v5), (6, .int x.1), (7, .int x.2)] [] (r50 x)) : zCo l (e + 1) 0 0 iX0_sizesLeft 97 [(0, .ref v0), (1, .ref v1), (2, .int v2), (3, .ref v3), (4, .int v4), (5, .int v5), (6, .int v6), (7, .int v7)] [] (X0_sizesLeft_J97 r50 v0 v1 v2 v3 v4 v5 v6 v7) := by
  unfold X0_sizesLeft_J97
  refine zco_p tkX0_sizesLeft 53 2 (pc' := 50) (L' := [(7, .int (v7 + 1)), (0, .ref v0), (1, .ref v1), (2, .int v2), (3, .ref v3), (4, .int v4), (5, .int v5), (6, .int v6)]) (S' := []) rfl ?_
  exact zco_sub [1, 2, 3, 4, 5, 6, 7, 0] rfl (hr50 (v6, v7 + 1))
set_option maxHeartbeats 2000000 in
set_option maxRecDepth 20000 in
theorem coX0_sizesLeft_B50 (l : Launch) (e : Nat) (he : 6 ≤ e) (v0 : Nat) (v1 : Nat) (v2 : Int32) (v3 : Nat) (v4 : Int32) (v5 : Int32) (r50 : Int32 × Int32 → zM) (hr50 : ∀ x : Int32 × Int32, zCo l (e + 1) 0 0 iX0_sizesLeft 50 [(0, .ref v0), (1, .ref v1), (2, .int v2), (3, .ref v3), (4, .int v4), (5, .int v5), (6, .int x.1), (7, .int x.2)] [] (r50 x)) (v6 : Int32) (v7 : Int32) : zCo l (e + 1) 0 0 iX0_sizesLeft 50 [(0, .ref v0), (1, .ref v1), (2, .int v2), (3, .ref v3), (4, .int v4), (5, .int v5), (6, .int v6), (7, .int v7)] [] (X0_sizesLeft_B50 v0 v1 v2 v3 v4 v5 r50 v6 v7) := by
  unfold X0_sizesLeft_B50
  refine zco_p tkX0_sizesLeft 28 2 (pc' := 54) (L' := [(0, .ref v0), (1, .ref v1), (2, .int v2), (3, .ref v3), (4, .int v4), (5, .int v5), (6, .int v6), (7, .int v7)]) (S' := [.int 10, .int v7]) rfl ?_
  refine zco_icmp_ge (tgt := 103) (zdk (cc := cX0_sizesLeft) (q := (54, .if_icmp .ge 49, 3)) tkX0_sizesLeft 30 rfl) rfl ?_ ?_
  · refine zco_p tkX0_sizesLeft 55 1 (pc' := 105) (L' := [(0, .ref v0), (1, .ref v1), (2, .int v2), (3, .ref v3), (4, .int v4), (5, .int v5), (6, .int v6), (7, .int v7)]) (S' := [.int v6]) rfl ?_
    exact zco_iret rfl rfl rfl (zdk (cc := cX0_sizesLeft) (q := (105, .ireturn, 1)) tkX0_sizesLeft 56 rfl)
  · refine zco_p tkX0_sizesLeft 31 1 (pc' := 58) (L' := [(0, .ref v0), (1, .ref v1), (2, .int v2), (3, .ref v3), (4, .int v4), (5, .int v5), (6, .int v6), (7, .int v7)]) (S' := [.ref v0]) rfl ?_
    refine zco_gr fl_0_12 rfl (zdk (cc := cX0_sizesLeft) (q := (58, .getfield 12, 3)) tkX0_sizesLeft 32 rfl) (fun x1 => ?_)
    refine zco_p tkX0_sizesLeft 33 1 (pc' := 62) (L' := [(0, .ref v0), (1, .ref v1), (2, .int v2), (3, .ref v3), (4, .int v4), (5, .int v5), (6, .int v6), (7, .int v7)]) (S' := [.ref v1, .ref x1]) rfl ?_
    refine zco_Vv (rc := 0) (rs := 0) (mc := 0) (ms := 0) (As := [.ref v1]) (S := []) vmX8_take (mtX8_take l e (by omega) x1 v1) q_1042 rfl rfl (Nat.le_of_ble_eq_true rfl) (zdk (cc := cX0_sizesLeft) (q := (62, .invokevirtual 55, 3)) tkX0_sizesLeft 34 rfl) ?_
    refine zco_p tkX0_sizesLeft 35 1 (pc' := 66) (L' := [(0, .ref v0), (1, .ref v1), (2, .int v2), (3, .ref v3), (4, .int v4), (5, .int v5), (6, .int v6), (7, .int v7)]) (S' := [.ref v0]) rfl ?_
    refine zco_gr fl_0_12 rfl (zdk (cc := cX0_sizesLeft) (q := (66, .getfield 12, 3)) tkX0_sizesLeft 36 rfl) (fun x2 => ?_)
    refine zco_gr fl_0_118 rfl (zdk (cc := cX0_sizesLeft) (q := (69, .getfield 118, 3)) tkX0_sizesLeft 37 rfl) (fun x3 => ?_)
    refine zco_p tkX0_sizesLeft 38 2 (pc' := 75) (L' := [(0, .ref v0), (1, .ref v1), (2, .int v2), (3, .ref v3), (4, .int v4), (5, .int v5), (6, .int v6), (7, .int v7)]) (S' := [.int v7, .int v2, .ref x3]) rfl ?_
    refine zco_iastore (zdk (cc := cX0_sizesLeft) (q := (75, .iastore, 1)) tkX0_sizesLeft 40 rfl) ?_
    refine zco_p tkX0_sizesLeft 41 4 (pc' := 82) (L' := [(0, .ref v0), (1, .ref v1), (2, .int v2), (3, .ref v3), (4, .int v4), (5, .int v5), (6, .int v6), (7, .int v7)]) (S' := [.int v5, .int v4, .ref v3, .ref v0]) rfl ?_
    refine zco_Vi (rc := 0) (rs := 0) (mc := 0) (ms := 0) (As := [.ref v3, .int v4, .int v5]) (S := []) vmX0_isAsSeen (mtX0_isAsSeen l e (by omega) v0 v3 v4 v5) q_1192 rfl rfl (Nat.le_of_ble_eq_true rfl) (zdk (cc := cX0_sizesLeft) (q := (82, .invokevirtual 121, 3)) tkX0_sizesLeft 45 rfl) (fun y4 => ?_)
    refine zco_if_eq (tgt := 97) (zdk (cc := cX0_sizesLeft) (q := (85, .ifCond .eq 12, 3)) tkX0_sizesLeft 46 rfl) rfl ?_ ?_
    · exact zco_sub [0, 1, 2, 3, 4, 5, 6, 7] rfl (coX0_sizesLeft_J97 l e he v0 v1 v2 v3 v4 v5 v6 v7 r50 hr50)
    · refine zco_p tkX0_sizesLeft 47 6 (pc' := 97) (L' := [(6, .int (v6 ||| ((1 : Int32) <<< (v7 &&& 31)))), (0, .ref v0), (1, .ref v1), (2, .int v2), (3, .ref v3), (4, .int v4), (5, .int v5), (7, .int v7)]) (S' := []) rfl ?_
      exact zco_sub [1, 2, 3, 4, 5, 6, 0, 7] rfl (coX0_sizesLeft_J97 l e he v0 v1 v2 v3 v4 v5 (v6 ||| ((1 : Int32) <<< (v7 &&& 31))) v7 r50 hr50)
set_option maxHeartbeats 2000000 in
set_option maxRecDepth 20000 in
theorem coX0_sizesLeft_J32 (l : Launch) (e : Nat) (he : 6 ≤ e) (v0 : Nat) (v1 : Nat) (v2 : Int32) (v3 : Nat) (v4 : Int32) (v5 : Int32) : zCo l (e + 1) 0 0 iX0_sizesLeft 32 [(0, .ref v0), (1, .ref v1), (2, .int v2), (3, .ref v3), (4, .int v4), (5, .int v5)] [] (X0_sizesLeft_J32 v0 v1 v2 v3 v4 v5) := by
  unfold X0_sizesLeft_J32
  refine zco_p tkX0_sizesLeft 17 3 (pc' := 36) (L' := [(0, .ref v0), (1, .ref v1), (2, .int v2), (3, .ref v3), (4, .int v4), (5, .int v5)]) (S' := [.ref v1, .ref v0, .int v5]) rfl ?_
  refine zco_Vi (rc := 0) (rs := 0) (mc := 0) (ms := 0) (As := [.ref v1]) (S := [.int v5]) vmX0_roundsLeft (mtX0_roundsLeft l e (by omega) v0 v1) q_1034 rfl rfl (Nat.le_of_ble_eq_true rfl) (zdk (cc := cX0_sizesLeft) (q := (36, .invokevirtual 47, 3)) tkX0_sizesLeft 20 rfl) (fun y1 => ?_)
  refine zco_icmp_le (tgt := 44) (zdk (cc := cX0_sizesLeft) (q := (39, .if_icmp .le 5, 3)) tkX0_sizesLeft 21 rfl) rfl ?_ ?_
  · refine zco_p tkX0_sizesLeft 24 4 (pc' := 50) (L' := [(7, .int 0), (6, .int 0), (0, .ref v0), (1, .ref v1), (2, .int v2), (3, .ref v3), (4, .int v4), (5, .int v5)]) (S' := []) rfl ?_
    exact zco_sub [2, 3, 4, 5, 6, 7, 1, 0] rfl (zco_fix (Lf := fun x : Int32 × Int32 => [(0, .ref v0), (1, .ref v1), (2, .int v2), (3, .ref v3), (4, .int v4), (5, .int v5), (6, .int x.1), (7, .int x.2)]) (Sf := fun _ => []) (fun r hr x => coX0_sizesLeft_B50 l e he v0 v1 v2 v3 v4 v5 r hr x.1 x.2) zFU (0, 0))
  · refine zco_p tkX0_sizesLeft 22 1 (pc' := 43) (L' := [(0, .ref v0), (1, .ref v1), (2, .int v2), (3, .ref v3), (4, .int v4), (5, .int v5)]) (S' := [.int 0]) rfl ?_
    exact zco_iret rfl rfl rfl (zdk (cc := cX0_sizesLeft) (q := (43, .ireturn, 1)) tkX0_sizesLeft 23 rfl)
set_option maxHeartbeats 2000000 in
set_option maxRecDepth 20000 in
theorem coX0_sizesLeft_B6 (l : Launch) (e : Nat) (he : 6 ≤ e) (v0 : Nat) (v1 : Nat) (v2 : Int32) (v3 : Nat) (v4 : Int32) (r6 : Int32 × Int32 → zM) (hr6 : ∀ x : Int32 × Int32, zCo l (e + 1) 0 0 iX0_sizesLeft 6 [(0, .ref v0), (1, .ref v1), (2, .int v2), (3, .ref v3), (4, .int v4), (5, .int x.1), (6, .int x.2)] [] (r6 x)) (v5 : Int32) (v6 : Int32) : zCo l (e + 1) 0 0 iX0_sizesLeft 6 [(0, .ref v0), (1, .ref v1), (2, .int v2), (3, .ref v3), (4, .int v4), (5, .int v5), (6, .int v6)] [] (X0_sizesLeft_B6 v0 v1 v2 v3 v4 r6 v5 v6) := by
  unfold X0_sizesLeft_B6
  refine zco_p tkX0_sizesLeft 4 2 (pc' := 10) (L' := [(0, .ref v0), (1, .ref v1), (2, .int v2), (3, .ref v3), (4, .int v4), (5, .int v5), (6, .int v6)]) (S' := [.int v4, .int v6]) rfl ?_
  refine zco_icmp_ge (tgt := 32) (zdk (cc := cX0_sizesLeft) (q := (10, .if_icmp .ge 22, 3)) tkX0_sizesLeft 6 rfl) rfl ?_ ?_
  · exact zco_sub [0, 1, 2, 3, 4, 5] rfl (coX0_sizesLeft_J32 l e he v0 v1 v2 v3 v4 v5)
  · refine zco_p tkX0_sizesLeft 7 5 (pc' := 20) (L' := [(0, .ref v0), (1, .ref v1), (2, .int v2), (3, .ref v3), (4, .int v4), (5, .int v5), (6, .int v6)]) (S' := [.int (3 * v6), .ref v3, .int v5]) rfl ?_
    refine zco_iaload (zdk (cc := cX0_sizesLeft) (q := (20, .iaload, 1)) tkX0_sizesLeft 12 rfl) (fun x1 => ?_)
    refine zco_imax (by omega) q_1191 q_964 q_168 q_imax (Nat.le_of_ble_eq_true rfl) (zdk (cc := cX0_sizesLeft) (q := (21, .invokestatic 115, 3)) tkX0_sizesLeft 13 rfl) ?_
    refine zco_p tkX0_sizesLeft 14 3 (pc' := 6) (L' := [(6, .int (v6 + 1)), (5, .int (if v5 < x1 then x1 else v5)), (0, .ref v0), (1, .ref v1), (2, .int v2), (3, .ref v3), (4, .int v4)]) (S' := []) rfl ?_
    exact zco_sub [2, 3, 4, 5, 6, 1, 0] rfl (hr6 (if v5 < x1 then x1 else v5, v6 + 1))
set_option maxHeartbeats 2000000 in
set_option maxRecDepth 20000 in
theorem coX0_sizesLeft (l : Launch) (e : Nat) (he : 6 ≤ e) (v0 : Nat) (v1 : Nat) (v2 : Int32) (v3 : Nat) (v4 : Int32) : zCo l (e + 1) 0 0 iX0_sizesLeft 0 [(0, .ref v0), (1, .ref v1), (2, .int v2), (3, .ref v3), (4, .int v4)] [] (X0_sizesLeft v0 v1 v2 v3 v4) := by
  unfold X0_sizesLeft
  refine zco_p tkX0_sizesLeft 0 4 (pc' := 6) (L' := [(6, .int 0), (5, .int 0), (0, .ref v0), (1, .ref v1), (2, .int v2), (3, .ref v3), (4, .int v4)]) (S' := []) rfl ?_
  exact zco_sub [2, 3, 4, 5, 6, 1, 0] rfl (zco_fix (Lf := fun x : Int32 × Int32 => [(0, .ref v0), (1, .ref v1), (2, .int v2), (3, .ref v3), (4, .int v4), (5, .int x.1), (6, .int x.2)]) (Sf := fun _ => []) (fun r hr x => coX0_sizesLeft_B6 l e he v0 v1 v2 v3 v4 r hr x.1 x.2) zFU (0, 0))
theorem mtX0_sizesLeft (l : Launch) (d : Nat) (hd : 7 ≤ d) (v0 : Nat) (v1 : Nat) (v2 : Int32) (v3 : Nat) (v4 : Int32) : zMet l d 0 0 yX0_sizesLeft cX0_sizesLeft 8 (Option.some .int) [.ref v0, .ref v1, .int v2, .ref v3, .int v4] (X0_sizesLeft v0 v1 v2 v3 v4) := by
  obtain ⟨e, rfl⟩ : ∃ e, d = e + 1 := ⟨d - 1, by omega⟩
  exact zmet_of (own := RX0) (ini := false) (by decide +kernel) rfl (fun _ => by contradiction) (Nat.le_of_ble_eq_true rfl) (coX0_sizesLeft l e (by omega) v0 v1 v2 v3 v4)
abbrev iX11_sizes : zI := (RX11, cX11_sizes, 3, (Option.some .int), false)
def tX11_sizes : List (Nat × Instr × Nat) := [(0, .aload_n 0, 1), (1, .getfield 51, 3), (4, .iload_n 1, 1), (5, .invokevirtual 184, 3), (8, .istore_n 2, 1), (9, .iload_n 2, 1), (10, .iconst (-1), 1), (11, .if_icmp .ne 7, 3), (14, .iconst (-1), 1), (15, .goto 23, 3), (18, .aload_n 0, 1), (19, .getfield 79, 3), (22, .aload_n 0, 1), (23, .getfield 61, 3), (26, .iload_n 2, 1), (27, .aload_n 0, 1), (28, .getfield 97, 3), (31, .aload_n 0, 1), (32, .getfield 100, 3), (35, .invokevirtual 297, 3), (38, .ireturn, 1)]
set_option maxRecDepth 100000 in
theorem tkX11_sizes : ∀ q ∈ tX11_sizes, decode cX11_sizes q.1 = .ok q.2 := by decide +kernel
theorem vmX11_sizes : zVM yX11_sizes cX11_sizes 3 (Option.some .int) 1 11 := ⟨kX11_sizes, q_1184, q_1185, q_149, ⟨_, rfl, rfl⟩, by decide +kernel, by decide⟩
set_option maxHeartbeats 2000000 in
set_option maxRecDepth 20000 in
theorem coX11_sizes (l : Launch) (e : Nat) (he : 7 ≤ e) (v0 : Nat) (v1 : Int32) : zCo l (e + 1) 0 0 iX11_sizes 0 [(0, .ref v0), (1, .int v1)] [] (X11_sizes v0 v1) := by
  unfold X11_sizes
  refine zco_p tkX11_sizes 0 1 (pc' := 1) (L' := [(0, .ref v0), (1, .int v1)]) (S' := [.ref v0]) rfl ?_
  refine zco_gr fl_11_51 rfl (zdk (cc := cX11_sizes) (q := (1, .getfield 51, 3)) tkX11_sizes 1 rfl) (fun x1 => ?_)
  refine zco_p tkX11_sizes 2 1 (pc' := 5) (L' := [(0, .ref v0), (1, .int v1)]) (S' := [.int v1, .ref x1]) rfl ?_
  refine zco_Vi (rc := 0) (rs := 0) (mc := 0) (ms := 0) (As := [.int v1]) (S := []) vmX1_slot (mtX1_slot l e (by omega) x1 v1) q_932 rfl rfl (Nat.le_of_ble_eq_true rfl) (zdk (cc := cX11_sizes) (q := (5, .invokevirtual 184, 3)) tkX11_sizes 3 rfl) (fun y2 => ?_)
  refine zco_p tkX11_sizes 4 3 (pc' := 11) (L' := [(2, .int y2), (0, .ref v0), (1, .int v1)]) (S' := [.int ((-1)), .int y2]) rfl ?_
  refine zco_icmp_ne (tgt := 18) (zdk (cc := cX11_sizes) (q := (11, .if_icmp .ne 7, 3)) tkX11_sizes 7 rfl) rfl ?_ ?_
  · refine zco_p tkX11_sizes 10 1 (pc' := 19) (L' := [(2, .int y2), (0, .ref v0), (1, .int v1)]) (S' := [.ref v0]) rfl ?_
    refine zco_gr fl_11_79 rfl (zdk (cc := cX11_sizes) (q := (19, .getfield 79, 3)) tkX11_sizes 11 rfl) (fun x3 => ?_)
    refine zco_p tkX11_sizes 12 1 (pc' := 23) (L' := [(2, .int y2), (0, .ref v0), (1, .int v1)]) (S' := [.ref v0, .ref x3]) rfl ?_
    refine zco_gr fl_11_61 rfl (zdk (cc := cX11_sizes) (q := (23, .getfield 61, 3)) tkX11_sizes 13 rfl) (fun x4 => ?_)
    refine zco_p tkX11_sizes 14 2 (pc' := 28) (L' := [(2, .int y2), (0, .ref v0), (1, .int v1)]) (S' := [.ref v0, .int y2, .ref x4, .ref x3]) rfl ?_
    refine zco_gr fl_11_97 rfl (zdk (cc := cX11_sizes) (q := (28, .getfield 97, 3)) tkX11_sizes 16 rfl) (fun x5 => ?_)
    refine zco_p tkX11_sizes 17 1 (pc' := 32) (L' := [(2, .int y2), (0, .ref v0), (1, .int v1)]) (S' := [.ref v0, .ref x5, .int y2, .ref x4, .ref x3]) rfl ?_
    refine zco_gi fl_11_100 rfl (zdk (cc := cX11_sizes) (q := (32, .getfield 100, 3)) tkX11_sizes 18 rfl) (fun x6 => ?_)
    refine zco_Vi (rc := 0) (rs := 0) (mc := 0) (ms := 0) (As := [.ref x4, .int y2, .ref x5, .int x6]) (S := []) vmX0_sizesLeft (mtX0_sizesLeft l e (by omega) x3 x4 y2 x5 x6) q_1187 rfl rfl (Nat.le_of_ble_eq_true rfl) (zdk (cc := cX11_sizes) (q := (35, .invokevirtual 297, 3)) tkX11_sizes 19 rfl) (fun y7 => ?_)
    exact zco_iret rfl rfl rfl (zdk (cc := cX11_sizes) (q := (38, .ireturn, 1)) tkX11_sizes 20 rfl)
  · refine zco_p tkX11_sizes 8 2 (pc' := 38) (L' := [(2, .int y2), (0, .ref v0), (1, .int v1)]) (S' := [.int ((-1))]) rfl ?_
    exact zco_iret rfl rfl rfl (zdk (cc := cX11_sizes) (q := (38, .ireturn, 1)) tkX11_sizes 20 rfl)
theorem mtX11_sizes (l : Launch) (d : Nat) (hd : 8 ≤ d) (v0 : Nat) (v1 : Int32) : zMet l d 0 0 yX11_sizes cX11_sizes 3 (Option.some .int) [.ref v0, .int v1] (X11_sizes v0 v1) := by
  obtain ⟨e, rfl⟩ : ∃ e, d = e + 1 := ⟨d - 1, by omega⟩
  exact zmet_of (own := RX11) (ini := false) (by decide +kernel) rfl (fun _ => by contradiction) (Nat.le_of_ble_eq_true rfl) (coX11_sizes l e (by omega) v0 v1)
abbrev iX0_lookAhead : zI := (RX0, cX0_lookAhead, 8, (Option.none : Option FieldType), false)
def tX0_lookAhead : List (Nat × Instr × Nat) := [(0, .aload_n 0, 1), (1, .getfield 12, 3), (4, .aload_n 1, 1), (5, .invokevirtual 55, 3), (8, .aload_n 0, 1), (9, .getfield 12, 3), (12, .getfield 118, 3), (15, .iload_n 2, 1), (16, .iload_n 3, 1), (17, .iastore, 1), (18, .iconst 1, 1), (19, .istore 5, 2), (21, .iload 5, 2), (23, .iload 4, 2), (25, .if_icmp .gt 78, 3), (28, .aload_n 0, 1), (29, .getfield 25, 3), (32, .aload_n 0, 1), (33, .getfield 12, 3), (36, .iconst (-1), 1), (37, .invokevirtual 51, 3), (40, .pop, 1), (41, .iconst 0, 1), (42, .istore 6, 2), (44, .iconst 0, 1), (45, .istore 7, 2), (47, .iload 7, 2), (49, .bipush 12, 2), (51, .if_icmp .ge 32, 3), (54, .aload_n 0, 1), (55, .getfield 12, 3), (58, .getfield 69, 3), (61, .iload 7, 2), (63, .iaload, 1), (64, .iconst (-1), 1), (65, .if_icmp .eq 12, 3), (68, .iload 6, 2), (70, .iconst 1, 1), (71, .iload 7, 2), (73, .ishl, 1), (74, .ior, 1), (75, .istore 6, 2), (77, .iinc 7 1, 3), (80, .goto (-33), 3), (83, .aload_n 0, 1), (84, .getfield 22, 3), (87, .iload_n 3, 1), (88, .bipush 31, 2), (90, .imul, 1), (91, .iload 5, 2), (93, .iadd, 1), (94, .iload 6, 2), (96, .iastore, 1), (97, .iinc 5 1, 3), (100, .goto (-79), 3), (103, .return_, 1)]
set_option maxRecDepth 100000 in
theorem tkX0_lookAhead : ∀ q ∈ tX0_lookAhead, decode cX0_lookAhead q.1 = .ok q.2 := by decide +kernel
theorem vmX0_lookAhead : zVM yX0_lookAhead cX0_lookAhead 8 (Option.none : Option FieldType) 4 0 := ⟨kX0_lookAhead, q_1206, q_35, q_158, ⟨_, rfl, rfl⟩, by decide +kernel, by decide⟩
set_option maxHeartbeats 2000000 in
set_option maxRecDepth 20000 in
theorem coX0_lookAhead_J83 (l : Launch) (e : Nat) (he : 5 ≤ e) (v0 : Nat) (v3 : Int32) (v4 : Int32) (v5 : Int32) (v6 : Int32) (r21 : Int32 → zM) (hr21 : ∀ x : Int32, zCo l (e + 1) 0 0 iX0_lookAhead 21 [(0, .ref v0), (3, .int v3), (4, .int v4), (5, .int x)] [] (r21 x)) : zCo l (e + 1) 0 0 iX0_lookAhead 83 [(0, .ref v0), (3, .int v3), (4, .int v4), (5, .int v5), (6, .int v6)] [] (X0_lookAhead_J83 r21 v0 v3 v4 v5 v6) := by
  unfold X0_lookAhead_J83
  refine zco_p tkX0_lookAhead 44 1 (pc' := 84) (L' := [(0, .ref v0), (3, .int v3), (4, .int v4), (5, .int v5), (6, .int v6)]) (S' := [.ref v0]) rfl ?_
  refine zco_gr fl_0_22 rfl (zdk (cc := cX0_lookAhead) (q := (84, .getfield 22, 3)) tkX0_lookAhead 45 rfl) (fun x1 => ?_)
  refine zco_p tkX0_lookAhead 46 6 (pc' := 96) (L' := [(0, .ref v0), (3, .int v3), (4, .int v4), (5, .int v5), (6, .int v6)]) (S' := [.int v6, .int ((v3 * 31) + v5), .ref x1]) rfl ?_
  refine zco_iastore (zdk (cc := cX0_lookAhead) (q := (96, .iastore, 1)) tkX0_lookAhead 52 rfl) ?_
  refine zco_p tkX0_lookAhead 53 2 (pc' := 21) (L' := [(5, .int (v5 + 1)), (0, .ref v0), (3, .int v3), (4, .int v4), (6, .int v6)]) (S' := []) rfl ?_
  exact zco_sub [1, 2, 3, 0] rfl (hr21 (v5 + 1))
set_option maxHeartbeats 2000000 in
set_option maxRecDepth 20000 in
theorem coX0_lookAhead_J77 (l : Launch) (e : Nat) (he : 5 ≤ e) (v0 : Nat) (v3 : Int32) (v4 : Int32) (v5 : Int32) (v6 : Int32) (v7 : Int32) (r21 : Int32 → zM) (hr21 : ∀ x : Int32, zCo l (e + 1) 0 0 iX0_lookAhead 21 [(0, .ref v0), (3, .int v3), (4, .int v4), (5, .int x)] [] (r21 x)) (r47 : Int32 × Int32 → zM) (hr47 : ∀ x : Int32 × Int32, zCo l (e + 1) 0 0 iX0_lookAhead 47 [(0, .ref v0), (3, .int v3), (4, .int v4), (5, .int v5), (6, .int x.1), (7, .int x.2)] [] (r47 x)) : zCo l (e + 1) 0 0 iX0_lookAhead 77 [(0, .ref v0), (3, .int v3), (4, .int v4), (5, .int v5), (6, .int v6), (7, .int v7)] [] (X0_lookAhead_J77 r21 r47 v0 v3 v4 v5 v6 v7) := by
  unfold X0_lookAhead_J77
  refine zco_p tkX0_lookAhead 42 2 (pc' := 47) (L' := [(7, .int (v7 + 1)), (0, .ref v0), (3, .int v3), (4, .int v4), (5, .int v5), (6, .int v6)]) (S' := []) rfl ?_
  exact zco_sub [1, 2, 3, 4, 5, 0] rfl (hr47 (v6, v7 + 1))
set_option maxHeartbeats 2000000 in
set_option maxRecDepth 20000 in
theorem coX0_lookAhead_B47 (l : Launch) (e : Nat) (he : 5 ≤ e) (v0 : Nat) (v3 : Int32) (v4 : Int32) (v5 : Int32) (r21 : Int32 → zM) (hr21 : ∀ x : Int32, zCo l (e + 1) 0 0 iX0_lookAhead 21 [(0, .ref v0), (3, .int v3), (4, .int v4), (5, .int x)] [] (r21 x)) (r47 : Int32 × Int32 → zM) (hr47 : ∀ x : Int32 × Int32, zCo l (e + 1) 0 0 iX0_lookAhead 47 [(0, .ref v0), (3, .int v3), (4, .int v4), (5, .int v5), (6, .int x.1), (7, .int x.2)] [] (r47 x)) (v6 : Int32) (v7 : Int32) : zCo l (e + 1) 0 0 iX0_lookAhead 47 [(0, .ref v0), (3, .int v3), (4, .int v4), (5, .int v5), (6, .int v6), (7, .int v7)] [] (X0_lookAhead_B47 r21 v0 v3 v4 v5 r47 v6 v7) := by
  unfold X0_lookAhead_B47
  refine zco_p tkX0_lookAhead 26 2 (pc' := 51) (L' := [(0, .ref v0), (3, .int v3), (4, .int v4), (5, .int v5), (6, .int v6), (7, .int v7)]) (S' := [.int 12, .int v7]) rfl ?_
  refine zco_icmp_ge (tgt := 83) (zdk (cc := cX0_lookAhead) (q := (51, .if_icmp .ge 32, 3)) tkX0_lookAhead 28 rfl) rfl ?_ ?_
  · exact zco_sub [0, 1, 2, 3, 4] rfl (coX0_lookAhead_J83 l e he v0 v3 v4 v5 v6 r21 hr21)
  · refine zco_p tkX0_lookAhead 29 1 (pc' := 55) (L' := [(0, .ref v0), (3, .int v3), (4, .int v4), (5, .int v5), (6, .int v6), (7, .int v7)]) (S' := [.ref v0]) rfl ?_
    refine zco_gr fl_0_12 rfl (zdk (cc := cX0_lookAhead) (q := (55, .getfield 12, 3)) tkX0_lookAhead 30 rfl) (fun x1 => ?_)
    refine zco_gr fl_0_69 rfl (zdk (cc := cX0_lookAhead) (q := (58, .getfield 69, 3)) tkX0_lookAhead 31 rfl) (fun x2 => ?_)
    refine zco_p tkX0_lookAhead 32 1 (pc' := 63) (L' := [(0, .ref v0), (3, .int v3), (4, .int v4), (5, .int v5), (6, .int v6), (7, .int v7)]) (S' := [.int v7, .ref x2]) rfl ?_
    refine zco_iaload (zdk (cc := cX0_lookAhead) (q := (63, .iaload, 1)) tkX0_lookAhead 33 rfl) (fun x3 => ?_)
    refine zco_p tkX0_lookAhead 34 1 (pc' := 65) (L' := [(0, .ref v0), (3, .int v3), (4, .int v4), (5, .int v5), (6, .int v6), (7, .int v7)]) (S' := [.int ((-1)), .int x3]) rfl ?_
    refine zco_icmp_eq (tgt := 77) (zdk (cc := cX0_lookAhead) (q := (65, .if_icmp .eq 12, 3)) tkX0_lookAhead 35 rfl) rfl ?_ ?_
    · exact zco_sub [0, 1, 2, 3, 4, 5] rfl (coX0_lookAhead_J77 l e he v0 v3 v4 v5 v6 v7 r21 hr21 r47 hr47)
    · refine zco_p tkX0_lookAhead 36 6 (pc' := 77) (L' := [(6, .int (v6 ||| ((1 : Int32) <<< (v7 &&& 31)))), (0, .ref v0), (3, .int v3), (4, .int v4), (5, .int v5), (7, .int v7)]) (S' := []) rfl ?_
      exact zco_sub [1, 2, 3, 4, 0, 5] rfl (coX0_lookAhead_J77 l e he v0 v3 v4 v5 (v6 ||| ((1 : Int32) <<< (v7 &&& 31))) v7 r21 hr21 r47 hr47)
set_option maxHeartbeats 2000000 in
set_option maxRecDepth 20000 in
theorem coX0_lookAhead_B21 (l : Launch) (e : Nat) (he : 5 ≤ e) (v0 : Nat) (v3 : Int32) (v4 : Int32) (r21 : Int32 → zM) (hr21 : ∀ x : Int32, zCo l (e + 1) 0 0 iX0_lookAhead 21 [(0, .ref v0), (3, .int v3), (4, .int v4), (5, .int x)] [] (r21 x)) (v5 : Int32) : zCo l (e + 1) 0 0 iX0_lookAhead 21 [(0, .ref v0), (3, .int v3), (4, .int v4), (5, .int v5)] [] (X0_lookAhead_B21 v0 v3 v4 r21 v5) := by
  unfold X0_lookAhead_B21
  refine zco_p tkX0_lookAhead 12 2 (pc' := 25) (L' := [(0, .ref v0), (3, .int v3), (4, .int v4), (5, .int v5)]) (S' := [.int v4, .int v5]) rfl ?_
  refine zco_icmp_gt (tgt := 103) (zdk (cc := cX0_lookAhead) (q := (25, .if_icmp .gt 78, 3)) tkX0_lookAhead 14 rfl) rfl ?_ ?_
  · exact zco_vret rfl rfl rfl (zdk (cc := cX0_lookAhead) (q := (103, .return_, 1)) tkX0_lookAhead 55 rfl)
  · refine zco_p tkX0_lookAhead 15 1 (pc' := 29) (L' := [(0, .ref v0), (3, .int v3), (4, .int v4), (5, .int v5)]) (S' := [.ref v0]) rfl ?_
    refine zco_gr fl_0_25 rfl (zdk (cc := cX0_lookAhead) (q := (29, .getfield 25, 3)) tkX0_lookAhead 16 rfl) (fun x1 => ?_)
    refine zco_p tkX0_lookAhead 17 1 (pc' := 33) (L' := [(0, .ref v0), (3, .int v3), (4, .int v4), (5, .int v5)]) (S' := [.ref v0, .ref x1]) rfl ?_
    refine zco_gr fl_0_12 rfl (zdk (cc := cX0_lookAhead) (q := (33, .getfield 12, 3)) tkX0_lookAhead 18 rfl) (fun x2 => ?_)
    refine zco_p tkX0_lookAhead 19 1 (pc' := 37) (L' := [(0, .ref v0), (3, .int v3), (4, .int v4), (5, .int v5)]) (S' := [.int ((-1)), .ref x2, .ref x1]) rfl ?_
    refine zco_Vi (rc := 0) (rs := 0) (mc := 0) (ms := 0) (As := [.ref x2, .int ((-1))]) (S := []) vmX10_go (mtX10_go l e (by omega) x1 x2 ((-1))) q_1050 rfl rfl (Nat.le_of_ble_eq_true rfl) (zdk (cc := cX0_lookAhead) (q := (37, .invokevirtual 51, 3)) tkX0_lookAhead 20 rfl) (fun y3 => ?_)
    refine zco_p tkX0_lookAhead 21 5 (pc' := 47) (L' := [(7, .int 0), (6, .int 0), (0, .ref v0), (3, .int v3), (4, .int v4), (5, .int v5)]) (S' := []) rfl ?_
    exact zco_sub [2, 3, 4, 5, 1, 0] rfl (zco_fix (Lf := fun x : Int32 × Int32 => [(0, .ref v0), (3, .int v3), (4, .int v4), (5, .int v5), (6, .int x.1), (7, .int x.2)]) (Sf := fun _ => []) (fun r hr x => coX0_lookAhead_B47 l e he v0 v3 v4 v5 r21 hr21 r hr x.1 x.2) zFU (0, 0))
set_option maxHeartbeats 2000000 in
set_option maxRecDepth 20000 in
theorem coX0_lookAhead (l : Launch) (e : Nat) (he : 5 ≤ e) (v0 : Nat) (v1 : Nat) (v2 : Int32) (v3 : Int32) (v4 : Int32) : zCo l (e + 1) 0 0 iX0_lookAhead 0 [(0, .ref v0), (1, .ref v1), (2, .int v2), (3, .int v3), (4, .int v4)] [] (X0_lookAhead v0 v1 v2 v3 v4) := by
  unfold X0_lookAhead
  refine zco_p tkX0_lookAhead 0 1 (pc' := 1) (L' := [(0, .ref v0), (1, .ref v1), (2, .int v2), (3, .int v3), (4, .int v4)]) (S' := [.ref v0]) rfl ?_
  refine zco_gr fl_0_12 rfl (zdk (cc := cX0_lookAhead) (q := (1, .getfield 12, 3)) tkX0_lookAhead 1 rfl) (fun x1 => ?_)
  refine zco_p tkX0_lookAhead 2 1 (pc' := 5) (L' := [(0, .ref v0), (1, .ref v1), (2, .int v2), (3, .int v3), (4, .int v4)]) (S' := [.ref v1, .ref x1]) rfl ?_
  refine zco_Vv (rc := 0) (rs := 0) (mc := 0) (ms := 0) (As := [.ref v1]) (S := []) vmX8_take (mtX8_take l e (by omega) x1 v1) q_1042 rfl rfl (Nat.le_of_ble_eq_true rfl) (zdk (cc := cX0_lookAhead) (q := (5, .invokevirtual 55, 3)) tkX0_lookAhead 3 rfl) ?_
  refine zco_p tkX0_lookAhead 4 1 (pc' := 9) (L' := [(0, .ref v0), (1, .ref v1), (2, .int v2), (3, .int v3), (4, .int v4)]) (S' := [.ref v0]) rfl ?_
  refine zco_gr fl_0_12 rfl (zdk (cc := cX0_lookAhead) (q := (9, .getfield 12, 3)) tkX0_lookAhead 5 rfl) (fun x2 => ?_)
  refine zco_gr fl_0_118 rfl (zdk (cc := cX0_lookAhead) (q := (12, .getfield 118, 3)) tkX0_lookAhead 6 rfl) (fun x3 => ?_)
  refine zco_p tkX0_lookAhead 7 2 (pc' := 17) (L' := [(0, .ref v0), (1, .ref v1), (2, .int v2), (3, .int v3), (4, .int v4)]) (S' := [.int v3, .int v2, .ref x3]) rfl ?_
  refine zco_iastore (zdk (cc := cX0_lookAhead) (q := (17, .iastore, 1)) tkX0_lookAhead 9 rfl) ?_
  refine zco_p tkX0_lookAhead 10 2 (pc' := 21) (L' := [(5, .int 1), (0, .ref v0), (1, .ref v1), (2, .int v2), (3, .int v3), (4, .int v4)]) (S' := []) rfl ?_
  exact zco_sub [1, 4, 5, 0] rfl (zco_fix (Lf := fun x : Int32 => [(0, .ref v0), (3, .int v3), (4, .int v4), (5, .int x)]) (Sf := fun _ => []) (fun r hr x => coX0_lookAhead_B21 l e he v0 v3 v4 r hr x) zFU 1)
theorem mtX0_lookAhead (l : Launch) (d : Nat) (hd : 6 ≤ d) (v0 : Nat) (v1 : Nat) (v2 : Int32) (v3 : Int32) (v4 : Int32) : zMet l d 0 0 yX0_lookAhead cX0_lookAhead 8 (Option.none : Option FieldType) [.ref v0, .ref v1, .int v2, .int v3, .int v4] (X0_lookAhead v0 v1 v2 v3 v4) := by
  obtain ⟨e, rfl⟩ : ∃ e, d = e + 1 := ⟨d - 1, by omega⟩
  exact zmet_of (own := RX0) (ini := false) (by decide +kernel) rfl (fun _ => by contradiction) (Nat.le_of_ble_eq_true rfl) (coX0_lookAhead l e (by omega) v0 v1 v2 v3 v4)
abbrev iX0_mostLeft : zI := (RX0, cX0_mostLeft, 6, (Option.some .int), false)
def tX0_mostLeft : List (Nat × Instr × Nat) := [(0, .iconst 0, 1), (1, .istore 4, 2), (3, .iconst 0, 1), (4, .istore 5, 2), (6, .iload 5, 2), (8, .bipush 10, 2), (10, .if_icmp .ge 40, 3), (13, .iload_n 1, 1), (14, .iload 5, 2), (16, .ishr, 1), (17, .iconst 1, 1), (18, .iand, 1), (19, .iconst 1, 1), (20, .if_icmp .ne 24, 3), (23, .iload 4, 2), (25, .aload_n 0, 1), (26, .getfield 22, 3), (29, .iload 5, 2), (31, .bipush 31, 2), (33, .imul, 1), (34, .iload_n 2, 1), (35, .iadd, 1), (36, .iaload, 1), (37, .iload_n 3, 1), (38, .ishr, 1), (39, .iconst 1, 1), (40, .iand, 1), (41, .iadd, 1), (42, .istore 4, 2), (44, .iinc 5 1, 3), (47, .goto (-41), 3), (50, .iload 4, 2), (52, .iload_n 1, 1), (53, .invokestatic 79, 3), (56, .iload 4, 2), (58, .isub, 1), (59, .invokestatic 115, 3), (62, .ireturn, 1)]
set_option maxRecDepth 100000 in
theorem tkX0_mostLeft : ∀ q ∈ tX0_mostLeft, decode cX0_mostLeft q.1 = .ok q.2 := by decide +kernel
theorem vmX0_mostLeft : zVM yX0_mostLeft cX0_mostLeft 6 (Option.some .int) 3 0 := ⟨kX0_mostLeft, q_1210, q_36, q_158, ⟨_, rfl, rfl⟩, by decide +kernel, by decide⟩
set_option maxHeartbeats 2000000 in
set_option maxRecDepth 20000 in
theorem coX0_mostLeft_J50 (l : Launch) (e : Nat) (he : 1 ≤ e) (v1 : Int32) (v4 : Int32) : zCo l (e + 1) 0 0 iX0_mostLeft 50 [(1, .int v1), (4, .int v4)] [] (X0_mostLeft_J50 v1 v4) := by
  unfold X0_mostLeft_J50
  refine zco_p tkX0_mostLeft 31 2 (pc' := 53) (L' := [(1, .int v1), (4, .int v4)]) (S' := [.int v1, .int v4]) rfl ?_
  refine zco_Si (rc := 0) (rs := 0) (mc := 0) (ms := 0) (As := [.int v1]) (S := [.int v4]) vmJ6_bitCount_0f7a4 (mtJ6_bitCount_0f7a4 l e (by omega) v1) q_1133 rfl rfl (Nat.le_of_ble_eq_true rfl) (zdk (cc := cX0_mostLeft) (q := (53, .invokestatic 79, 3)) tkX0_mostLeft 33 rfl) (fun y1 => ?_)
  refine zco_p tkX0_mostLeft 34 2 (pc' := 59) (L' := [(1, .int v1), (4, .int v4)]) (S' := [.int (y1 - v4), .int v4]) rfl ?_
  refine zco_imax (by omega) q_1191 q_964 q_168 q_imax (Nat.le_of_ble_eq_true rfl) (zdk (cc := cX0_mostLeft) (q := (59, .invokestatic 115, 3)) tkX0_mostLeft 36 rfl) ?_
  exact zco_iret rfl rfl rfl (zdk (cc := cX0_mostLeft) (q := (62, .ireturn, 1)) tkX0_mostLeft 37 rfl)
set_option maxHeartbeats 2000000 in
set_option maxRecDepth 20000 in
theorem coX0_mostLeft_J44 (l : Launch) (e : Nat) (he : 1 ≤ e) (v0 : Nat) (v1 : Int32) (v2 : Int32) (v3 : Int32) (v4 : Int32) (v5 : Int32) (r6 : Int32 × Int32 → zM) (hr6 : ∀ x : Int32 × Int32, zCo l (e + 1) 0 0 iX0_mostLeft 6 [(0, .ref v0), (1, .int v1), (2, .int v2), (3, .int v3), (4, .int x.1), (5, .int x.2)] [] (r6 x)) : zCo l (e + 1) 0 0 iX0_mostLeft 44 [(0, .ref v0), (1, .int v1), (2, .int v2), (3, .int v3), (4, .int v4), (5, .int v5)] [] (X0_mostLeft_J44 r6 v0 v1 v2 v3 v4 v5) := by
  unfold X0_mostLeft_J44
  refine zco_p tkX0_mostLeft 29 2 (pc' := 6) (L' := [(5, .int (v5 + 1)), (0, .ref v0), (1, .int v1), (2, .int v2), (3, .int v3), (4, .int v4)]) (S' := []) rfl ?_
  exact zco_sub [1, 2, 3, 4, 5, 0] rfl (hr6 (v4, v5 + 1))
set_option maxHeartbeats 2000000 in
set_option maxRecDepth 20000 in
theorem coX0_mostLeft_B6 (l : Launch) (e : Nat) (he : 1 ≤ e) (v0 : Nat) (v1 : Int32) (v2 : Int32) (v3 : Int32) (r6 : Int32 × Int32 → zM) (hr6 : ∀ x : Int32 × Int32, zCo l (e + 1) 0 0 iX0_mostLeft 6 [(0, .ref v0), (1, .int v1), (2, .int v2), (3, .int v3), (4, .int x.1), (5, .int x.2)] [] (r6 x)) (v4 : Int32) (v5 : Int32) : zCo l (e + 1) 0 0 iX0_mostLeft 6 [(0, .ref v0), (1, .int v1), (2, .int v2), (3, .int v3), (4, .int v4), (5, .int v5)] [] (X0_mostLeft_B6 v0 v1 v2 v3 r6 v4 v5) := by
  unfold X0_mostLeft_B6
  refine zco_p tkX0_mostLeft 4 2 (pc' := 10) (L' := [(0, .ref v0), (1, .int v1), (2, .int v2), (3, .int v3), (4, .int v4), (5, .int v5)]) (S' := [.int 10, .int v5]) rfl ?_
  refine zco_icmp_ge (tgt := 50) (zdk (cc := cX0_mostLeft) (q := (10, .if_icmp .ge 40, 3)) tkX0_mostLeft 6 rfl) rfl ?_ ?_
  · exact zco_sub [1, 4] rfl (coX0_mostLeft_J50 l e he v1 v4)
  · refine zco_p tkX0_mostLeft 7 6 (pc' := 20) (L' := [(0, .ref v0), (1, .int v1), (2, .int v2), (3, .int v3), (4, .int v4), (5, .int v5)]) (S' := [.int 1, .int ((v1 >>> (v5 &&& 31)) &&& 1)]) rfl ?_
    refine zco_icmp_ne (tgt := 44) (zdk (cc := cX0_mostLeft) (q := (20, .if_icmp .ne 24, 3)) tkX0_mostLeft 13 rfl) rfl ?_ ?_
    · exact zco_sub [0, 1, 2, 3, 4, 5] rfl (coX0_mostLeft_J44 l e he v0 v1 v2 v3 v4 v5 r6 hr6)
    · refine zco_p tkX0_mostLeft 14 2 (pc' := 26) (L' := [(0, .ref v0), (1, .int v1), (2, .int v2), (3, .int v3), (4, .int v4), (5, .int v5)]) (S' := [.ref v0, .int v4]) rfl ?_
      refine zco_gr fl_0_22 rfl (zdk (cc := cX0_mostLeft) (q := (26, .getfield 22, 3)) tkX0_mostLeft 16 rfl) (fun x1 => ?_)
      refine zco_p tkX0_mostLeft 17 5 (pc' := 36) (L' := [(0, .ref v0), (1, .int v1), (2, .int v2), (3, .int v3), (4, .int v4), (5, .int v5)]) (S' := [.int ((v5 * 31) + v2), .ref x1, .int v4]) rfl ?_
      refine zco_iaload (zdk (cc := cX0_mostLeft) (q := (36, .iaload, 1)) tkX0_mostLeft 22 rfl) (fun x2 => ?_)
      refine zco_p tkX0_mostLeft 23 6 (pc' := 44) (L' := [(4, .int (v4 + ((x2 >>> (v3 &&& 31)) &&& 1))), (0, .ref v0), (1, .int v1), (2, .int v2), (3, .int v3), (5, .int v5)]) (S' := []) rfl ?_
      exact zco_sub [1, 2, 3, 4, 0, 5] rfl (coX0_mostLeft_J44 l e he v0 v1 v2 v3 (v4 + ((x2 >>> (v3 &&& 31)) &&& 1)) v5 r6 hr6)
set_option maxHeartbeats 2000000 in
set_option maxRecDepth 20000 in
theorem coX0_mostLeft (l : Launch) (e : Nat) (he : 1 ≤ e) (v0 : Nat) (v1 : Int32) (v2 : Int32) (v3 : Int32) : zCo l (e + 1) 0 0 iX0_mostLeft 0 [(0, .ref v0), (1, .int v1), (2, .int v2), (3, .int v3)] [] (X0_mostLeft v0 v1 v2 v3) := by
  unfold X0_mostLeft
  refine zco_p tkX0_mostLeft 0 4 (pc' := 6) (L' := [(5, .int 0), (4, .int 0), (0, .ref v0), (1, .int v1), (2, .int v2), (3, .int v3)]) (S' := []) rfl ?_
  exact zco_sub [2, 3, 4, 5, 1, 0] rfl (zco_fix (Lf := fun x : Int32 × Int32 => [(0, .ref v0), (1, .int v1), (2, .int v2), (3, .int v3), (4, .int x.1), (5, .int x.2)]) (Sf := fun _ => []) (fun r hr x => coX0_mostLeft_B6 l e he v0 v1 v2 v3 r hr x.1 x.2) zFU (0, 0))
theorem mtX0_mostLeft (l : Launch) (d : Nat) (hd : 2 ≤ d) (v0 : Nat) (v1 : Int32) (v2 : Int32) (v3 : Int32) : zMet l d 0 0 yX0_mostLeft cX0_mostLeft 6 (Option.some .int) [.ref v0, .int v1, .int v2, .int v3] (X0_mostLeft v0 v1 v2 v3) := by
  obtain ⟨e, rfl⟩ : ∃ e, d = e + 1 := ⟨d - 1, by omega⟩
  exact zmet_of (own := RX0) (ini := false) (by decide +kernel) rfl (fun _ => by contradiction) (Nat.le_of_ble_eq_true rfl) (coX0_mostLeft l e (by omega) v0 v1 v2 v3)
abbrev iX0_findTelling : zI := (RX0, cX0_findTelling, 8, (Option.some .boolean), false)
def tX0_findTelling : List (Nat × Instr × Nat) := [(0, .bipush 30, 2), (2, .aload_n 0, 1), (3, .aload_n 1, 1), (4, .invokevirtual 47, 3), (7, .invokestatic 63, 3), (10, .istore 4, 2), (12, .iload_n 3, 1), (13, .ifCond .eq 9, 3), (16, .iload 4, 2), (18, .iconst 1, 1), (19, .if_icmp .ge 5, 3), (22, .iconst 0, 1), (23, .ireturn, 1), (24, .iconst 0, 1), (25, .istore 5, 2), (27, .iload 5, 2), (29, .bipush 10, 2), (31, .if_icmp .ge 29, 3), (34, .iload_n 3, 1), (35, .iload 5, 2), (37, .ishr, 1), (38, .iconst 1, 1), (39, .iand, 1), (40, .iconst 1, 1), (41, .if_icmp .ne 13, 3), (44, .aload_n 0, 1), (45, .aload_n 1, 1), (46, .iload_n 2, 1), (47, .iload 5, 2), (49, .iload 4, 2), (51, .invokevirtual 125, 3), (54, .iinc 5 1, 3), (57, .goto (-30), 3), (60, .aload_n 0, 1), (61, .iconst (-1), 1), (62, .iconst (-1), 1), (63, .bipush 11, 2), (65, .invokevirtual 91, 3), (68, .iconst 1, 1), (69, .istore 5, 2), (71, .iload 5, 2), (73, .iload 4, 2), (75, .if_icmp .gt 75, 3), (78, .iconst 0, 1), (79, .istore 6, 2), (81, .iload 6, 2), (83, .aload_n 0, 1), (84, .getfield 25, 3), (87, .getfield 29, 3), (90, .invokevirtual 102, 3), (93, .if_icmp .ge 51, 3), (96, .aload_n 0, 1), (97, .iload_n 3, 1), (98, .iload 5, 2), (100, .aload_n 0, 1), (101, .getfield 25, 3), (104, .getfield 29, 3), (107, .iload 6, 2), (109, .invokevirtual 105, 3), (112, .invokevirtual 129, 3), (115, .istore 7, 2), (117, .iload 7, 2), (119, .aload_n 0, 1), (120, .getfield 18, 3), (123, .iconst 2, 1), (124, .iaload, 1), (125, .if_icmp .ge 13, 3), (128, .aload_n 0, 1), (129, .iload 5, 2), (131, .iload 6, 2), (133, .iload 7, 2), (135, .invokevirtual 91, 3), (138, .iinc 6 1, 3), (141, .goto (-60), 3), (144, .iinc 5 1, 3), (147, .goto (-76), 3), (150, .iconst 1, 1), (151, .ireturn, 1)]
set_option maxRecDepth 100000 in
theorem tkX0_findTelling : ∀ q ∈ tX0_findTelling, decode cX0_findTelling q.1 = .ok q.2 := by decide +kernel
theorem vmX0_findTelling : zVM yX0_findTelling cX0_findTelling 8 (Option.some .boolean) 3 0 := ⟨kX0_findTelling, q_1201, q_1202, q_158, ⟨_, rfl, rfl⟩, by decide +kernel, by decide⟩
set_option maxHeartbeats 2000000 in
set_option maxRecDepth 20000 in
theorem coX0_findTelling_J144 (l : Launch) (e : Nat) (he : 6 ≤ e) (v0 : Nat) (v3 : Int32) (v4 : Int32) (v5 : Int32) (r71 : Int32 → zM) (hr71 : ∀ x : Int32, zCo l (e + 1) 0 0 iX0_findTelling 71 [(0, .ref v0), (3, .int v3), (4, .int v4), (5, .int x)] [] (r71 x)) : zCo l (e + 1) 0 0 iX0_findTelling 144 [(0, .ref v0), (3, .int v3), (4, .int v4), (5, .int v5)] [] (X0_findTelling_J144 r71 v0 v3 v4 v5) := by
  unfold X0_findTelling_J144
  refine zco_p tkX0_findTelling 74 2 (pc' := 71) (L' := [(5, .int (v5 + 1)), (0, .ref v0), (3, .int v3), (4, .int v4)]) (S' := []) rfl ?_
  exact zco_sub [1, 2, 3, 0] rfl (hr71 (v5 + 1))
set_option maxHeartbeats 2000000 in
set_option maxRecDepth 20000 in
theorem coX0_findTelling_J138 (l : Launch) (e : Nat) (he : 6 ≤ e) (v0 : Nat) (v3 : Int32) (v4 : Int32) (v5 : Int32) (v6 : Int32) (r71 : Int32 → zM) (hr71 : ∀ x : Int32, zCo l (e + 1) 0 0 iX0_findTelling 71 [(0, .ref v0), (3, .int v3), (4, .int v4), (5, .int x)] [] (r71 x)) (r81 : Int32 → zM) (hr81 : ∀ x : Int32, zCo l (e + 1) 0 0 iX0_findTelling 81 [(0, .ref v0), (3, .int v3), (4, .int v4), (5, .int v5), (6, .int x)] [] (r81 x)) : zCo l (e + 1) 0 0 iX0_findTelling 138 [(0, .ref v0), (3, .int v3), (4, .int v4), (5, .int v5), (6, .int v6)] [] (X0_findTelling_J138 r71 r81 v0 v3 v4 v5 v6) := by
  unfold X0_findTelling_J138
  refine zco_p tkX0_findTelling 72 2 (pc' := 81) (L' := [(6, .int (v6 + 1)), (0, .ref v0), (3, .int v3), (4, .int v4), (5, .int v5)]) (S' := []) rfl ?_
  exact zco_sub [1, 2, 3, 4, 0] rfl (hr81 (v6 + 1))
set_option maxHeartbeats 2000000 in
set_option maxRecDepth 20000 in
theorem coX0_findTelling_B81 (l : Launch) (e : Nat) (he : 6 ≤ e) (v0 : Nat) (v3 : Int32) (v4 : Int32) (v5 : Int32) (r71 : Int32 → zM) (hr71 : ∀ x : Int32, zCo l (e + 1) 0 0 iX0_findTelling 71 [(0, .ref v0), (3, .int v3), (4, .int v4), (5, .int x)] [] (r71 x)) (r81 : Int32 → zM) (hr81 : ∀ x : Int32, zCo l (e + 1) 0 0 iX0_findTelling 81 [(0, .ref v0), (3, .int v3), (4, .int v4), (5, .int v5), (6, .int x)] [] (r81 x)) (v6 : Int32) : zCo l (e + 1) 0 0 iX0_findTelling 81 [(0, .ref v0), (3, .int v3), (4, .int v4), (5, .int v5), (6, .int v6)] [] (X0_findTelling_B81 r71 v0 v3 v4 v5 r81 v6) := by
  unfold X0_findTelling_B81
  refine zco_p tkX0_findTelling 45 2 (pc' := 84) (L' := [(0, .ref v0), (3, .int v3), (4, .int v4), (5, .int v5), (6, .int v6)]) (S' := [.ref v0, .int v6]) rfl ?_
  refine zco_gr fl_0_25 rfl (zdk (cc := cX0_findTelling) (q := (84, .getfield 25, 3)) tkX0_findTelling 47 rfl) (fun x1 => ?_)
  refine zco_gr fl_0_29 rfl (zdk (cc := cX0_findTelling) (q := (87, .getfield 29, 3)) tkX0_findTelling 48 rfl) (fun x2 => ?_)
  refine zco_Vi (rc := 0) (rs := 0) (mc := 0) (ms := 0) (As := []) (S := [.int v6]) vmX1_people (mtX1_people l e (by omega) x2) q_1169 rfl rfl (Nat.le_of_ble_eq_true rfl) (zdk (cc := cX0_findTelling) (q := (90, .invokevirtual 102, 3)) tkX0_findTelling 49 rfl) (fun y3 => ?_)
  refine zco_icmp_ge (tgt := 144) (zdk (cc := cX0_findTelling) (q := (93, .if_icmp .ge 51, 3)) tkX0_findTelling 50 rfl) rfl ?_ ?_
  · exact zco_sub [0, 1, 2, 3] rfl (coX0_findTelling_J144 l e he v0 v3 v4 v5 r71 hr71)
  · refine zco_p tkX0_findTelling 51 4 (pc' := 101) (L' := [(0, .ref v0), (3, .int v3), (4, .int v4), (5, .int v5), (6, .int v6)]) (S' := [.ref v0, .int v5, .int v3, .ref v0]) rfl ?_
    refine zco_gr fl_0_25 rfl (zdk (cc := cX0_findTelling) (q := (101, .getfield 25, 3)) tkX0_findTelling 55 rfl) (fun x4 => ?_)
    refine zco_gr fl_0_29 rfl (zdk (cc := cX0_findTelling) (q := (104, .getfield 29, 3)) tkX0_findTelling 56 rfl) (fun x5 => ?_)
    refine zco_p tkX0_findTelling 57 1 (pc' := 109) (L' := [(0, .ref v0), (3, .int v3), (4, .int v4), (5, .int v5), (6, .int v6)]) (S' := [.int v6, .ref x5, .int v5, .int v3, .ref v0]) rfl ?_
    refine zco_Vi (rc := 0) (rs := 0) (mc := 0) (ms := 0) (As := [.int v6]) (S := [.int v5, .int v3, .ref v0]) vmX1_slot (mtX1_slot l e (by omega) x5 v6) q_1170 rfl rfl (Nat.le_of_ble_eq_true rfl) (zdk (cc := cX0_findTelling) (q := (109, .invokevirtual 105, 3)) tkX0_findTelling 58 rfl) (fun y6 => ?_)
    refine zco_Vi (rc := 0) (rs := 0) (mc := 0) (ms := 0) (As := [.int v3, .int v5, .int y6]) (S := []) vmX0_mostLeft (mtX0_mostLeft l e (by omega) v0 v3 v5 y6) q_1208 rfl rfl (Nat.le_of_ble_eq_true rfl) (zdk (cc := cX0_findTelling) (q := (112, .invokevirtual 129, 3)) tkX0_findTelling 59 rfl) (fun y7 => ?_)
    refine zco_p tkX0_findTelling 60 3 (pc' := 120) (L' := [(7, .int y7), (0, .ref v0), (3, .int v3), (4, .int v4), (5, .int v5), (6, .int v6)]) (S' := [.ref v0, .int y7]) rfl ?_
    refine zco_gr fl_0_18 rfl (zdk (cc := cX0_findTelling) (q := (120, .getfield 18, 3)) tkX0_findTelling 63 rfl) (fun x8 => ?_)
    refine zco_p tkX0_findTelling 64 1 (pc' := 124) (L' := [(7, .int y7), (0, .ref v0), (3, .int v3), (4, .int v4), (5, .int v5), (6, .int v6)]) (S' := [.int 2, .ref x8, .int y7]) rfl ?_
    refine zco_iaload (zdk (cc := cX0_findTelling) (q := (124, .iaload, 1)) tkX0_findTelling 65 rfl) (fun x9 => ?_)
    refine zco_icmp_ge (tgt := 138) (zdk (cc := cX0_findTelling) (q := (125, .if_icmp .ge 13, 3)) tkX0_findTelling 66 rfl) rfl ?_ ?_
    · exact zco_sub [1, 2, 3, 4, 5] rfl (coX0_findTelling_J138 l e he v0 v3 v4 v5 v6 r71 hr71 r81 hr81)
    · refine zco_p tkX0_findTelling 67 4 (pc' := 135) (L' := [(7, .int y7), (0, .ref v0), (3, .int v3), (4, .int v4), (5, .int v5), (6, .int v6)]) (S' := [.int y7, .int v6, .int v5, .ref v0]) rfl ?_
      refine zco_Vv (rc := 0) (rs := 0) (mc := 0) (ms := 0) (As := [.int v5, .int v6, .int y7]) (S := []) vmX0_note (mtX0_note l e (by omega) v0 v5 v6 y7) q_1151 rfl rfl (Nat.le_of_ble_eq_true rfl) (zdk (cc := cX0_findTelling) (q := (135, .invokevirtual 91, 3)) tkX0_findTelling 71 rfl) ?_
      exact zco_sub [1, 2, 3, 4, 5] rfl (coX0_findTelling_J138 l e he v0 v3 v4 v5 v6 r71 hr71 r81 hr81)
set_option maxHeartbeats 2000000 in
set_option maxRecDepth 20000 in
theorem coX0_findTelling_B71 (l : Launch) (e : Nat) (he : 6 ≤ e) (v0 : Nat) (v3 : Int32) (v4 : Int32) (r71 : Int32 → zM) (hr71 : ∀ x : Int32, zCo l (e + 1) 0 0 iX0_findTelling 71 [(0, .ref v0), (3, .int v3), (4, .int v4), (5, .int x)] [] (r71 x)) (v5 : Int32) : zCo l (e + 1) 0 0 iX0_findTelling 71 [(0, .ref v0), (3, .int v3), (4, .int v4), (5, .int v5)] [] (X0_findTelling_B71 v0 v3 v4 r71 v5) := by
  unfold X0_findTelling_B71
  refine zco_p tkX0_findTelling 40 2 (pc' := 75) (L' := [(0, .ref v0), (3, .int v3), (4, .int v4), (5, .int v5)]) (S' := [.int v4, .int v5]) rfl ?_
  refine zco_icmp_gt (tgt := 150) (zdk (cc := cX0_findTelling) (q := (75, .if_icmp .gt 75, 3)) tkX0_findTelling 42 rfl) rfl ?_ ?_
  · refine zco_p tkX0_findTelling 76 1 (pc' := 151) (L' := [(0, .ref v0), (3, .int v3), (4, .int v4), (5, .int v5)]) (S' := [.int 1]) rfl ?_
    exact zco_zret rfl rfl rfl (zdk (cc := cX0_findTelling) (q := (151, .ireturn, 1)) tkX0_findTelling 77 rfl)
  · refine zco_p tkX0_findTelling 43 2 (pc' := 81) (L' := [(6, .int 0), (0, .ref v0), (3, .int v3), (4, .int v4), (5, .int v5)]) (S' := []) rfl ?_
    exact zco_sub [1, 2, 3, 4, 0] rfl (zco_fix (Lf := fun x : Int32 => [(0, .ref v0), (3, .int v3), (4, .int v4), (5, .int v5), (6, .int x)]) (Sf := fun _ => []) (fun r hr x => coX0_findTelling_B81 l e he v0 v3 v4 v5 r71 hr71 r hr x) zFU 0)
set_option maxHeartbeats 2000000 in
set_option maxRecDepth 20000 in
theorem coX0_findTelling_J60 (l : Launch) (e : Nat) (he : 6 ≤ e) (v0 : Nat) (v3 : Int32) (v4 : Int32) : zCo l (e + 1) 0 0 iX0_findTelling 60 [(0, .ref v0), (3, .int v3), (4, .int v4)] [] (X0_findTelling_J60 v0 v3 v4) := by
  unfold X0_findTelling_J60
  refine zco_p tkX0_findTelling 33 4 (pc' := 65) (L' := [(0, .ref v0), (3, .int v3), (4, .int v4)]) (S' := [.int 11, .int ((-1)), .int ((-1)), .ref v0]) rfl ?_
  refine zco_Vv (rc := 0) (rs := 0) (mc := 0) (ms := 0) (As := [.int ((-1)), .int ((-1)), .int 11]) (S := []) vmX0_note (mtX0_note l e (by omega) v0 ((-1)) ((-1)) 11) q_1151 rfl rfl (Nat.le_of_ble_eq_true rfl) (zdk (cc := cX0_findTelling) (q := (65, .invokevirtual 91, 3)) tkX0_findTelling 37 rfl) ?_
  refine zco_p tkX0_findTelling 38 2 (pc' := 71) (L' := [(5, .int 1), (0, .ref v0), (3, .int v3), (4, .int v4)]) (S' := []) rfl ?_
  exact zco_sub [1, 2, 3, 0] rfl (zco_fix (Lf := fun x : Int32 => [(0, .ref v0), (3, .int v3), (4, .int v4), (5, .int x)]) (Sf := fun _ => []) (fun r hr x => coX0_findTelling_B71 l e he v0 v3 v4 r hr x) zFU 1)
set_option maxHeartbeats 2000000 in
set_option maxRecDepth 20000 in
theorem coX0_findTelling_J54 (l : Launch) (e : Nat) (he : 6 ≤ e) (v0 : Nat) (v1 : Nat) (v2 : Int32) (v3 : Int32) (v4 : Int32) (v5 : Int32) (r27 : Int32 → zM) (hr27 : ∀ x : Int32, zCo l (e + 1) 0 0 iX0_findTelling 27 [(0, .ref v0), (1, .ref v1), (2, .int v2), (3, .int v3), (4, .int v4), (5, .int x)] [] (r27 x)) : zCo l (e + 1) 0 0 iX0_findTelling 54 [(0, .ref v0), (1, .ref v1), (2, .int v2), (3, .int v3), (4, .int v4), (5, .int v5)] [] (X0_findTelling_J54 r27 v0 v1 v2 v3 v4 v5) := by
  unfold X0_findTelling_J54
  refine zco_p tkX0_findTelling 31 2 (pc' := 27) (L' := [(5, .int (v5 + 1)), (0, .ref v0), (1, .ref v1), (2, .int v2), (3, .int v3), (4, .int v4)]) (S' := []) rfl ?_
  exact zco_sub [1, 2, 3, 4, 5, 0] rfl (hr27 (v5 + 1))
set_option maxHeartbeats 2000000 in
set_option maxRecDepth 20000 in
theorem coX0_findTelling_B27 (l : Launch) (e : Nat) (he : 6 ≤ e) (v0 : Nat) (v1 : Nat) (v2 : Int32) (v3 : Int32) (v4 : Int32) (r27 : Int32 → zM) (hr27 : ∀ x : Int32, zCo l (e + 1) 0 0 iX0_findTelling 27 [(0, .ref v0), (1, .ref v1), (2, .int v2), (3, .int v3), (4, .int v4), (5, .int x)] [] (r27 x)) (v5 : Int32) : zCo l (e + 1) 0 0 iX0_findTelling 27 [(0, .ref v0), (1, .ref v1), (2, .int v2), (3, .int v3), (4, .int v4), (5, .int v5)] [] (X0_findTelling_B27 v0 v1 v2 v3 v4 r27 v5) := by
  unfold X0_findTelling_B27
  refine zco_p tkX0_findTelling 15 2 (pc' := 31) (L' := [(0, .ref v0), (1, .ref v1), (2, .int v2), (3, .int v3), (4, .int v4), (5, .int v5)]) (S' := [.int 10, .int v5]) rfl ?_
  refine zco_icmp_ge (tgt := 60) (zdk (cc := cX0_findTelling) (q := (31, .if_icmp .ge 29, 3)) tkX0_findTelling 17 rfl) rfl ?_ ?_
  · exact zco_sub [0, 3, 4] rfl (coX0_findTelling_J60 l e he v0 v3 v4)
  · refine zco_p tkX0_findTelling 18 6 (pc' := 41) (L' := [(0, .ref v0), (1, .ref v1), (2, .int v2), (3, .int v3), (4, .int v4), (5, .int v5)]) (S' := [.int 1, .int ((v3 >>> (v5 &&& 31)) &&& 1)]) rfl ?_
    refine zco_icmp_ne (tgt := 54) (zdk (cc := cX0_findTelling) (q := (41, .if_icmp .ne 13, 3)) tkX0_findTelling 24 rfl) rfl ?_ ?_
    · exact zco_sub [0, 1, 2, 3, 4, 5] rfl (coX0_findTelling_J54 l e he v0 v1 v2 v3 v4 v5 r27 hr27)
    · refine zco_p tkX0_findTelling 25 5 (pc' := 51) (L' := [(0, .ref v0), (1, .ref v1), (2, .int v2), (3, .int v3), (4, .int v4), (5, .int v5)]) (S' := [.int v4, .int v5, .int v2, .ref v1, .ref v0]) rfl ?_
      refine zco_Vv (rc := 0) (rs := 0) (mc := 0) (ms := 0) (As := [.ref v1, .int v2, .int v5, .int v4]) (S := []) vmX0_lookAhead (mtX0_lookAhead l e (by omega) v0 v1 v2 v5 v4) q_1204 rfl rfl (Nat.le_of_ble_eq_true rfl) (zdk (cc := cX0_findTelling) (q := (51, .invokevirtual 125, 3)) tkX0_findTelling 30 rfl) ?_
      exact zco_sub [0, 1, 2, 3, 4, 5] rfl (coX0_findTelling_J54 l e he v0 v1 v2 v3 v4 v5 r27 hr27)
set_option maxHeartbeats 2000000 in
set_option maxRecDepth 20000 in
theorem coX0_findTelling (l : Launch) (e : Nat) (he : 6 ≤ e) (v0 : Nat) (v1 : Nat) (v2 : Int32) (v3 : Int32) : zCo l (e + 1) 0 0 iX0_findTelling 0 [(0, .ref v0), (1, .ref v1), (2, .int v2), (3, .int v3)] [] (X0_findTelling v0 v1 v2 v3) := by
  unfold X0_findTelling
  refine zco_p tkX0_findTelling 0 3 (pc' := 4) (L' := [(0, .ref v0), (1, .ref v1), (2, .int v2), (3, .int v3)]) (S' := [.ref v1, .ref v0, .int 30]) rfl ?_
  refine zco_Vi (rc := 0) (rs := 0) (mc := 0) (ms := 0) (As := [.ref v1]) (S := [.int 30]) vmX0_roundsLeft (mtX0_roundsLeft l e (by omega) v0 v1) q_1034 rfl rfl (Nat.le_of_ble_eq_true rfl) (zdk (cc := cX0_findTelling) (q := (4, .invokevirtual 47, 3)) tkX0_findTelling 3 rfl) (fun y1 => ?_)
  refine zco_imin (by omega) q_1076 q_926 q_168 q_imin (Nat.le_of_ble_eq_true rfl) (zdk (cc := cX0_findTelling) (q := (7, .invokestatic 63, 3)) tkX0_findTelling 4 rfl) ?_
  refine zco_p tkX0_findTelling 5 2 (pc' := 13) (L' := [(4, .int (if y1 < 30 then y1 else 30)), (0, .ref v0), (1, .ref v1), (2, .int v2), (3, .int v3)]) (S' := [.int v3]) rfl ?_
  refine zco_if_eq (tgt := 22) (zdk (cc := cX0_findTelling) (q := (13, .ifCond .eq 9, 3)) tkX0_findTelling 7 rfl) rfl ?_ ?_
  · refine zco_p tkX0_findTelling 11 1 (pc' := 23) (L' := [(4, .int (if y1 < 30 then y1 else 30)), (0, .ref v0), (1, .ref v1), (2, .int v2), (3, .int v3)]) (S' := [.int 0]) rfl ?_
    exact zco_zret rfl rfl rfl (zdk (cc := cX0_findTelling) (q := (23, .ireturn, 1)) tkX0_findTelling 12 rfl)
  · refine zco_p tkX0_findTelling 8 2 (pc' := 19) (L' := [(4, .int (if y1 < 30 then y1 else 30)), (0, .ref v0), (1, .ref v1), (2, .int v2), (3, .int v3)]) (S' := [.int 1, .int (if y1 < 30 then y1 else 30)]) rfl ?_
    refine zco_icmp_ge (tgt := 24) (zdk (cc := cX0_findTelling) (q := (19, .if_icmp .ge 5, 3)) tkX0_findTelling 10 rfl) rfl ?_ ?_
    · refine zco_p tkX0_findTelling 13 2 (pc' := 27) (L' := [(5, .int 0), (4, .int (if y1 < 30 then y1 else 30)), (0, .ref v0), (1, .ref v1), (2, .int v2), (3, .int v3)]) (S' := []) rfl ?_
      exact zco_sub [2, 3, 4, 5, 1, 0] rfl (zco_fix (Lf := fun x : Int32 => [(0, .ref v0), (1, .ref v1), (2, .int v2), (3, .int v3), (4, .int (if y1 < 30 then y1 else 30)), (5, .int x)]) (Sf := fun _ => []) (fun r hr x => coX0_findTelling_B27 l e he v0 v1 v2 v3 (if y1 < 30 then y1 else 30) r hr x) zFU 0)
    · refine zco_p tkX0_findTelling 11 1 (pc' := 23) (L' := [(4, .int (if y1 < 30 then y1 else 30)), (0, .ref v0), (1, .ref v1), (2, .int v2), (3, .int v3)]) (S' := [.int 0]) rfl ?_
      exact zco_zret rfl rfl rfl (zdk (cc := cX0_findTelling) (q := (23, .ireturn, 1)) tkX0_findTelling 12 rfl)
theorem mtX0_findTelling (l : Launch) (d : Nat) (hd : 7 ≤ d) (v0 : Nat) (v1 : Nat) (v2 : Int32) (v3 : Int32) : zMet l d 0 0 yX0_findTelling cX0_findTelling 8 (Option.some .boolean) [.ref v0, .ref v1, .int v2, .int v3] (X0_findTelling v0 v1 v2 v3) := by
  obtain ⟨e, rfl⟩ : ∃ e, d = e + 1 := ⟨d - 1, by omega⟩
  exact zmet_of (own := RX0) (ini := false) (by decide +kernel) rfl (fun _ => by contradiction) (Nat.le_of_ble_eq_true rfl) (coX0_findTelling l e (by omega) v0 v1 v2 v3)
abbrev iX11_tells : zI := (RX11, cX11_tells, 5, (Option.some .int), false)
def tX11_tells : List (Nat × Instr × Nat) := [(0, .aload_n 0, 1), (1, .getfield 51, 3), (4, .iload_n 1, 1), (5, .invokevirtual 184, 3), (8, .istore_n 3, 1), (9, .iload_n 3, 1), (10, .iconst (-1), 1), (11, .if_icmp .eq 12, 3), (14, .iload_n 2, 1), (15, .ifCond .lt 8, 3), (18, .iload_n 2, 1), (19, .iconst 2, 1), (20, .if_icmp .le 5, 3), (23, .iconst (-1), 1), (24, .ireturn, 1), (25, .aload_n 0, 1), (26, .getfield 79, 3), (29, .aload_n 0, 1), (30, .getfield 61, 3), (33, .iload_n 3, 1), (34, .aload_n 0, 1), (35, .getfield 97, 3), (38, .aload_n 0, 1), (39, .getfield 100, 3), (42, .invokevirtual 297, 3), (45, .istore 4, 2), (47, .aload_n 0, 1), (48, .getfield 79, 3), (51, .aload_n 0, 1), (52, .getfield 61, 3), (55, .iload_n 3, 1), (56, .iload 4, 2), (58, .invokevirtual 301, 3), (61, .ifCond .eq 15, 3), (64, .aload_n 0, 1), (65, .getfield 79, 3), (68, .getfield 284, 3), (71, .iload_n 2, 1), (72, .iaload, 1), (73, .goto 4, 3), (76, .iconst (-1), 1), (77, .ireturn, 1)]
set_option maxRecDepth 100000 in
theorem tkX11_tells : ∀ q ∈ tX11_tells, decode cX11_tells q.1 = .ok q.2 := by decide +kernel
theorem vmX11_tells : zVM yX11_tells cX11_tells 5 (Option.some .int) 2 11 := ⟨kX11_tells, q_1197, q_1198, q_149, ⟨_, rfl, rfl⟩, by decide +kernel, by decide⟩
set_option maxHeartbeats 2000000 in
set_option maxRecDepth 20000 in
theorem coX11_tells (l : Launch) (e : Nat) (he : 7 ≤ e) (v0 : Nat) (v1 : Int32) (v2 : Int32) : zCo l (e + 1) 0 0 iX11_tells 0 [(0, .ref v0), (1, .int v1), (2, .int v2)] [] (X11_tells v0 v1 v2) := by
  unfold X11_tells
  refine zco_p tkX11_tells 0 1 (pc' := 1) (L' := [(0, .ref v0), (1, .int v1), (2, .int v2)]) (S' := [.ref v0]) rfl ?_
  refine zco_gr fl_11_51 rfl (zdk (cc := cX11_tells) (q := (1, .getfield 51, 3)) tkX11_tells 1 rfl) (fun x1 => ?_)
  refine zco_p tkX11_tells 2 1 (pc' := 5) (L' := [(0, .ref v0), (1, .int v1), (2, .int v2)]) (S' := [.int v1, .ref x1]) rfl ?_
  refine zco_Vi (rc := 0) (rs := 0) (mc := 0) (ms := 0) (As := [.int v1]) (S := []) vmX1_slot (mtX1_slot l e (by omega) x1 v1) q_932 rfl rfl (Nat.le_of_ble_eq_true rfl) (zdk (cc := cX11_tells) (q := (5, .invokevirtual 184, 3)) tkX11_tells 3 rfl) (fun y2 => ?_)
  refine zco_p tkX11_tells 4 3 (pc' := 11) (L' := [(3, .int y2), (0, .ref v0), (1, .int v1), (2, .int v2)]) (S' := [.int ((-1)), .int y2]) rfl ?_
  refine zco_icmp_eq (tgt := 23) (zdk (cc := cX11_tells) (q := (11, .if_icmp .eq 12, 3)) tkX11_tells 7 rfl) rfl ?_ ?_
  · refine zco_p tkX11_tells 13 1 (pc' := 24) (L' := [(3, .int y2), (0, .ref v0), (1, .int v1), (2, .int v2)]) (S' := [.int ((-1))]) rfl ?_
    exact zco_iret rfl rfl rfl (zdk (cc := cX11_tells) (q := (24, .ireturn, 1)) tkX11_tells 14 rfl)
  · refine zco_p tkX11_tells 8 1 (pc' := 15) (L' := [(3, .int y2), (0, .ref v0), (1, .int v1), (2, .int v2)]) (S' := [.int v2]) rfl ?_
    refine zco_if_lt (tgt := 23) (zdk (cc := cX11_tells) (q := (15, .ifCond .lt 8, 3)) tkX11_tells 9 rfl) rfl ?_ ?_
    · refine zco_p tkX11_tells 13 1 (pc' := 24) (L' := [(3, .int y2), (0, .ref v0), (1, .int v1), (2, .int v2)]) (S' := [.int ((-1))]) rfl ?_
      exact zco_iret rfl rfl rfl (zdk (cc := cX11_tells) (q := (24, .ireturn, 1)) tkX11_tells 14 rfl)
    · refine zco_p tkX11_tells 10 2 (pc' := 20) (L' := [(3, .int y2), (0, .ref v0), (1, .int v1), (2, .int v2)]) (S' := [.int 2, .int v2]) rfl ?_
      refine zco_icmp_le (tgt := 25) (zdk (cc := cX11_tells) (q := (20, .if_icmp .le 5, 3)) tkX11_tells 12 rfl) rfl ?_ ?_
      · refine zco_p tkX11_tells 15 1 (pc' := 26) (L' := [(3, .int y2), (0, .ref v0), (1, .int v1), (2, .int v2)]) (S' := [.ref v0]) rfl ?_
        refine zco_gr fl_11_79 rfl (zdk (cc := cX11_tells) (q := (26, .getfield 79, 3)) tkX11_tells 16 rfl) (fun x3 => ?_)
        refine zco_p tkX11_tells 17 1 (pc' := 30) (L' := [(3, .int y2), (0, .ref v0), (1, .int v1), (2, .int v2)]) (S' := [.ref v0, .ref x3]) rfl ?_
        refine zco_gr fl_11_61 rfl (zdk (cc := cX11_tells) (q := (30, .getfield 61, 3)) tkX11_tells 18 rfl) (fun x4 => ?_)
        refine zco_p tkX11_tells 19 2 (pc' := 35) (L' := [(3, .int y2), (0, .ref v0), (1, .int v1), (2, .int v2)]) (S' := [.ref v0, .int y2, .ref x4, .ref x3]) rfl ?_
        refine zco_gr fl_11_97 rfl (zdk (cc := cX11_tells) (q := (35, .getfield 97, 3)) tkX11_tells 21 rfl) (fun x5 => ?_)
        refine zco_p tkX11_tells 22 1 (pc' := 39) (L' := [(3, .int y2), (0, .ref v0), (1, .int v1), (2, .int v2)]) (S' := [.ref v0, .ref x5, .int y2, .ref x4, .ref x3]) rfl ?_
        refine zco_gi fl_11_100 rfl (zdk (cc := cX11_tells) (q := (39, .getfield 100, 3)) tkX11_tells 23 rfl) (fun x6 => ?_)
        refine zco_Vi (rc := 0) (rs := 0) (mc := 0) (ms := 0) (As := [.ref x4, .int y2, .ref x5, .int x6]) (S := []) vmX0_sizesLeft (mtX0_sizesLeft l e (by omega) x3 x4 y2 x5 x6) q_1187 rfl rfl (Nat.le_of_ble_eq_true rfl) (zdk (cc := cX11_tells) (q := (42, .invokevirtual 297, 3)) tkX11_tells 24 rfl) (fun y7 => ?_)
        refine zco_p tkX11_tells 25 2 (pc' := 48) (L' := [(4, .int y7), (3, .int y2), (0, .ref v0), (1, .int v1), (2, .int v2)]) (S' := [.ref v0]) rfl ?_
        refine zco_gr fl_11_79 rfl (zdk (cc := cX11_tells) (q := (48, .getfield 79, 3)) tkX11_tells 27 rfl) (fun x8 => ?_)
        refine zco_p tkX11_tells 28 1 (pc' := 52) (L' := [(4, .int y7), (3, .int y2), (0, .ref v0), (1, .int v1), (2, .int v2)]) (S' := [.ref v0, .ref x8]) rfl ?_
        refine zco_gr fl_11_61 rfl (zdk (cc := cX11_tells) (q := (52, .getfield 61, 3)) tkX11_tells 29 rfl) (fun x9 => ?_)
        refine zco_p tkX11_tells 30 2 (pc' := 58) (L' := [(4, .int y7), (3, .int y2), (0, .ref v0), (1, .int v1), (2, .int v2)]) (S' := [.int y7, .int y2, .ref x9, .ref x8]) rfl ?_
        refine zco_Vi (rc := 0) (rs := 0) (mc := 0) (ms := 0) (As := [.ref x9, .int y2, .int y7]) (S := []) vmX0_findTelling (mtX0_findTelling l e (by omega) x8 x9 y2 y7) q_1200 rfl rfl (Nat.le_of_ble_eq_true rfl) (zdk (cc := cX11_tells) (q := (58, .invokevirtual 301, 3)) tkX11_tells 32 rfl) (fun y10 => ?_)
        refine zco_if_eq (tgt := 76) (zdk (cc := cX11_tells) (q := (61, .ifCond .eq 15, 3)) tkX11_tells 33 rfl) rfl ?_ ?_
        · refine zco_p tkX11_tells 40 1 (pc' := 77) (L' := [(4, .int y7), (3, .int y2), (0, .ref v0), (1, .int v1), (2, .int v2)]) (S' := [.int ((-1))]) rfl ?_
          exact zco_iret rfl rfl rfl (zdk (cc := cX11_tells) (q := (77, .ireturn, 1)) tkX11_tells 41 rfl)
        · refine zco_p tkX11_tells 34 1 (pc' := 65) (L' := [(4, .int y7), (3, .int y2), (0, .ref v0), (1, .int v1), (2, .int v2)]) (S' := [.ref v0]) rfl ?_
          refine zco_gr fl_11_79 rfl (zdk (cc := cX11_tells) (q := (65, .getfield 79, 3)) tkX11_tells 35 rfl) (fun x11 => ?_)
          refine zco_gr fl_11_284 rfl (zdk (cc := cX11_tells) (q := (68, .getfield 284, 3)) tkX11_tells 36 rfl) (fun x12 => ?_)
          refine zco_p tkX11_tells 37 1 (pc' := 72) (L' := [(4, .int y7), (3, .int y2), (0, .ref v0), (1, .int v1), (2, .int v2)]) (S' := [.int v2, .ref x12]) rfl ?_
          refine zco_iaload (zdk (cc := cX11_tells) (q := (72, .iaload, 1)) tkX11_tells 38 rfl) (fun x13 => ?_)
          refine zco_p tkX11_tells 39 1 (pc' := 77) (L' := [(4, .int y7), (3, .int y2), (0, .ref v0), (1, .int v1), (2, .int v2)]) (S' := [.int x13]) rfl ?_
          exact zco_iret rfl rfl rfl (zdk (cc := cX11_tells) (q := (77, .ireturn, 1)) tkX11_tells 41 rfl)
      · refine zco_p tkX11_tells 13 1 (pc' := 24) (L' := [(3, .int y2), (0, .ref v0), (1, .int v1), (2, .int v2)]) (S' := [.int ((-1))]) rfl ?_
        exact zco_iret rfl rfl rfl (zdk (cc := cX11_tells) (q := (24, .ireturn, 1)) tkX11_tells 14 rfl)
theorem mtX11_tells (l : Launch) (d : Nat) (hd : 8 ≤ d) (v0 : Nat) (v1 : Int32) (v2 : Int32) : zMet l d 0 0 yX11_tells cX11_tells 5 (Option.some .int) [.ref v0, .int v1, .int v2] (X11_tells v0 v1 v2) := by
  obtain ⟨e, rfl⟩ : ∃ e, d = e + 1 := ⟨d - 1, by omega⟩
  exact zmet_of (own := RX11) (ini := false) (by decide +kernel) rfl (fun _ => by contradiction) (Nat.le_of_ble_eq_true rfl) (coX11_tells l e (by omega) v0 v1 v2)
abbrev iX6_remember : zI := (RX6, cX6_remember, 2, (Option.none : Option FieldType), false)
def tX6_remember : List (Nat × Instr × Nat) := [(0, .aload_n 0, 1), (1, .getfield 20, 3), (4, .aload_n 0, 1), (5, .getfield 15, 3), (8, .aaload, 1), (9, .aload_n 1, 1), (10, .invokevirtual 35, 3), (13, .aload_n 0, 1), (14, .getfield 24, 3), (17, .aload_n 0, 1), (18, .getfield 15, 3), (21, .aload_n 0, 1), (22, .getfield 31, 3), (25, .iastore, 1), (26, .aload_n 0, 1), (27, .aload_n 0, 1), (28, .getfield 15, 3), (31, .iconst 1, 1), (32, .iadd, 1), (33, .bipush 20, 2), (35, .irem, 1), (36, .putfield 15, 3), (39, .aload_n 0, 1), (40, .aload_n 0, 1), (41, .getfield 9, 3), (44, .iconst 1, 1), (45, .iadd, 1), (46, .bipush 20, 2), (48, .invokestatic 39, 3), (51, .putfield 9, 3), (54, .return_, 1)]
set_option maxRecDepth 100000 in
theorem tkX6_remember : ∀ q ∈ tX6_remember, decode cX6_remember q.1 = .ok q.2 := by decide +kernel
theorem vmX6_remember : zVM yX6_remember cX6_remember 2 (Option.none : Option FieldType) 1 6 := ⟨kX6_remember, q_1217, q_1218, q_160, ⟨_, rfl, rfl⟩, by decide +kernel, by decide⟩
set_option maxHeartbeats 2000000 in
set_option maxRecDepth 20000 in
theorem coX6_remember (l : Launch) (e : Nat) (he : 2 ≤ e) (v0 : Nat) (v1 : Nat) : zCo l (e + 1) 0 0 iX6_remember 0 [(0, .ref v0), (1, .ref v1)] [] (X6_remember v0 v1) := by
  unfold X6_remember
  refine zco_p tkX6_remember 0 1 (pc' := 1) (L' := [(0, .ref v0), (1, .ref v1)]) (S' := [.ref v0]) rfl ?_
  refine zco_gr fl_6_20 rfl (zdk (cc := cX6_remember) (q := (1, .getfield 20, 3)) tkX6_remember 1 rfl) (fun x1 => ?_)
  refine zco_p tkX6_remember 2 1 (pc' := 5) (L' := [(0, .ref v0), (1, .ref v1)]) (S' := [.ref v0, .ref x1]) rfl ?_
  refine zco_gi fl_6_15 rfl (zdk (cc := cX6_remember) (q := (5, .getfield 15, 3)) tkX6_remember 3 rfl) (fun x2 => ?_)
  refine zco_aaload (zdk (cc := cX6_remember) (q := (8, .aaload, 1)) tkX6_remember 4 rfl) (fun x3 => ?_)
  refine zco_p tkX6_remember 5 1 (pc' := 10) (L' := [(0, .ref v0), (1, .ref v1)]) (S' := [.ref v1, .ref x3]) rfl ?_
  refine zco_Vv (rc := 0) (rs := 0) (mc := 0) (ms := 0) (As := [.ref v1]) (S := []) vmX8_take (mtX8_take l e (by omega) x3 v1) q_1220 rfl rfl (Nat.le_of_ble_eq_true rfl) (zdk (cc := cX6_remember) (q := (10, .invokevirtual 35, 3)) tkX6_remember 6 rfl) ?_
  refine zco_p tkX6_remember 7 1 (pc' := 14) (L' := [(0, .ref v0), (1, .ref v1)]) (S' := [.ref v0]) rfl ?_
  refine zco_gr fl_6_24 rfl (zdk (cc := cX6_remember) (q := (14, .getfield 24, 3)) tkX6_remember 8 rfl) (fun x4 => ?_)
  refine zco_p tkX6_remember 9 1 (pc' := 18) (L' := [(0, .ref v0), (1, .ref v1)]) (S' := [.ref v0, .ref x4]) rfl ?_
  refine zco_gi fl_6_15 rfl (zdk (cc := cX6_remember) (q := (18, .getfield 15, 3)) tkX6_remember 10 rfl) (fun x5 => ?_)
  refine zco_p tkX6_remember 11 1 (pc' := 22) (L' := [(0, .ref v0), (1, .ref v1)]) (S' := [.ref v0, .int x5, .ref x4]) rfl ?_
  refine zco_gi fl_6_31 rfl (zdk (cc := cX6_remember) (q := (22, .getfield 31, 3)) tkX6_remember 12 rfl) (fun x6 => ?_)
  refine zco_iastore (zdk (cc := cX6_remember) (q := (25, .iastore, 1)) tkX6_remember 13 rfl) ?_
  refine zco_p tkX6_remember 14 2 (pc' := 28) (L' := [(0, .ref v0), (1, .ref v1)]) (S' := [.ref v0, .ref v0]) rfl ?_
  refine zco_gi fl_6_15 rfl (zdk (cc := cX6_remember) (q := (28, .getfield 15, 3)) tkX6_remember 16 rfl) (fun x7 => ?_)
  refine zco_p tkX6_remember 17 3 (pc' := 35) (L' := [(0, .ref v0), (1, .ref v1)]) (S' := [.int 20, .int (x7 + 1), .ref v0]) rfl ?_
  refine zco_irem (zdk (cc := cX6_remember) (q := (35, .irem, 1)) tkX6_remember 20 rfl) ?_
  refine zco_pi fl_6_15 rfl rfl (zdk (cc := cX6_remember) (q := (36, .putfield 15, 3)) tkX6_remember 21 rfl) ?_
  refine zco_p tkX6_remember 22 2 (pc' := 41) (L' := [(0, .ref v0), (1, .ref v1)]) (S' := [.ref v0, .ref v0]) rfl ?_
  refine zco_gi fl_6_9 rfl (zdk (cc := cX6_remember) (q := (41, .getfield 9, 3)) tkX6_remember 24 rfl) (fun x8 => ?_)
  refine zco_p tkX6_remember 25 3 (pc' := 48) (L' := [(0, .ref v0), (1, .ref v1)]) (S' := [.int 20, .int (x8 + 1), .ref v0]) rfl ?_
  refine zco_imin (by omega) q_925 q_926 q_168 q_imin (Nat.le_of_ble_eq_true rfl) (zdk (cc := cX6_remember) (q := (48, .invokestatic 39, 3)) tkX6_remember 28 rfl) ?_
  refine zco_pi fl_6_9 rfl rfl (zdk (cc := cX6_remember) (q := (51, .putfield 9, 3)) tkX6_remember 29 rfl) ?_
  exact zco_vret rfl rfl rfl (zdk (cc := cX6_remember) (q := (54, .return_, 1)) tkX6_remember 30 rfl)
theorem mtX6_remember (l : Launch) (d : Nat) (hd : 3 ≤ d) (v0 : Nat) (v1 : Nat) : zMet l d 0 0 yX6_remember cX6_remember 2 (Option.none : Option FieldType) [.ref v0, .ref v1] (X6_remember v0 v1) := by
  obtain ⟨e, rfl⟩ : ∃ e, d = e + 1 := ⟨d - 1, by omega⟩
  exact zmet_of (own := RX6) (ini := false) (by decide +kernel) rfl (fun _ => by contradiction) (Nat.le_of_ble_eq_true rfl) (coX6_remember l e (by omega) v0 v1)
abbrev iX6_keep : zI := (RX6, cX6_keep, 6, (Option.none : Option FieldType), false)
def tX6_keep : List (Nat × Instr × Nat) := [(0, .aload_n 0, 1), (1, .getfield 31, 3), (4, .sipush 160, 3), (7, .irem, 1), (8, .iconst 4, 1), (9, .imul, 1), (10, .istore 5, 2), (12, .aload_n 0, 1), (13, .getfield 28, 3), (16, .iload 5, 2), (18, .iload_n 1, 1), (19, .iastore, 1), (20, .aload_n 0, 1), (21, .getfield 28, 3), (24, .iload 5, 2), (26, .iconst 1, 1), (27, .iadd, 1), (28, .iload_n 2, 1), (29, .iastore, 1), (30, .aload_n 0, 1), (31, .getfield 28, 3), (34, .iload 5, 2), (36, .iconst 2, 1), (37, .iadd, 1), (38, .iload_n 3, 1), (39, .iastore, 1), (40, .aload_n 0, 1), (41, .getfield 28, 3), (44, .iload 5, 2), (46, .iconst 3, 1), (47, .iadd, 1), (48, .iload 4, 2), (50, .iastore, 1), (51, .aload_n 0, 1), (52, .dup, 1), (53, .getfield 31, 3), (56, .iconst 1, 1), (57, .iadd, 1), (58, .putfield 31, 3), (61, .return_, 1)]
set_option maxRecDepth 100000 in
theorem tkX6_keep : ∀ q ∈ tX6_keep, decode cX6_keep q.1 = .ok q.2 := by decide +kernel
theorem vmX6_keep : zVM yX6_keep cX6_keep 6 (Option.none : Option FieldType) 4 6 := ⟨kX6_keep, q_1227, q_1228, q_160, ⟨_, rfl, rfl⟩, by decide +kernel, by decide⟩
set_option maxHeartbeats 2000000 in
set_option maxRecDepth 20000 in
theorem coX6_keep (l : Launch) (e : Nat) (he : 0 ≤ e) (v0 : Nat) (v1 : Int32) (v2 : Int32) (v3 : Int32) (v4 : Int32) : zCo l (e + 1) 0 0 iX6_keep 0 [(0, .ref v0), (1, .int v1), (2, .int v2), (3, .int v3), (4, .int v4)] [] (X6_keep v0 v1 v2 v3 v4) := by
  unfold X6_keep
  refine zco_p tkX6_keep 0 1 (pc' := 1) (L' := [(0, .ref v0), (1, .int v1), (2, .int v2), (3, .int v3), (4, .int v4)]) (S' := [.ref v0]) rfl ?_
  refine zco_gi fl_6_31 rfl (zdk (cc := cX6_keep) (q := (1, .getfield 31, 3)) tkX6_keep 1 rfl) (fun x1 => ?_)
  refine zco_p tkX6_keep 2 1 (pc' := 7) (L' := [(0, .ref v0), (1, .int v1), (2, .int v2), (3, .int v3), (4, .int v4)]) (S' := [.int 160, .int x1]) rfl ?_
  refine zco_irem (zdk (cc := cX6_keep) (q := (7, .irem, 1)) tkX6_keep 3 rfl) ?_
  refine zco_p tkX6_keep 4 4 (pc' := 13) (L' := [(5, .int ((x1 - x1 / 160 * 160) * 4)), (0, .ref v0), (1, .int v1), (2, .int v2), (3, .int v3), (4, .int v4)]) (S' := [.ref v0]) rfl ?_
  refine zco_gr fl_6_28 rfl (zdk (cc := cX6_keep) (q := (13, .getfield 28, 3)) tkX6_keep 8 rfl) (fun x2 => ?_)
  refine zco_p tkX6_keep 9 2 (pc' := 19) (L' := [(5, .int ((x1 - x1 / 160 * 160) * 4)), (0, .ref v0), (1, .int v1), (2, .int v2), (3, .int v3), (4, .int v4)]) (S' := [.int v1, .int ((x1 - x1 / 160 * 160) * 4), .ref x2]) rfl ?_
  refine zco_iastore (zdk (cc := cX6_keep) (q := (19, .iastore, 1)) tkX6_keep 11 rfl) ?_
  refine zco_p tkX6_keep 12 1 (pc' := 21) (L' := [(5, .int ((x1 - x1 / 160 * 160) * 4)), (0, .ref v0), (1, .int v1), (2, .int v2), (3, .int v3), (4, .int v4)]) (S' := [.ref v0]) rfl ?_
  refine zco_gr fl_6_28 rfl (zdk (cc := cX6_keep) (q := (21, .getfield 28, 3)) tkX6_keep 13 rfl) (fun x3 => ?_)
  refine zco_p tkX6_keep 14 4 (pc' := 29) (L' := [(5, .int ((x1 - x1 / 160 * 160) * 4)), (0, .ref v0), (1, .int v1), (2, .int v2), (3, .int v3), (4, .int v4)]) (S' := [.int v2, .int (((x1 - x1 / 160 * 160) * 4) + 1), .ref x3]) rfl ?_
  refine zco_iastore (zdk (cc := cX6_keep) (q := (29, .iastore, 1)) tkX6_keep 18 rfl) ?_
  refine zco_p tkX6_keep 19 1 (pc' := 31) (L' := [(5, .int ((x1 - x1 / 160 * 160) * 4)), (0, .ref v0), (1, .int v1), (2, .int v2), (3, .int v3), (4, .int v4)]) (S' := [.ref v0]) rfl ?_
  refine zco_gr fl_6_28 rfl (zdk (cc := cX6_keep) (q := (31, .getfield 28, 3)) tkX6_keep 20 rfl) (fun x4 => ?_)
  refine zco_p tkX6_keep 21 4 (pc' := 39) (L' := [(5, .int ((x1 - x1 / 160 * 160) * 4)), (0, .ref v0), (1, .int v1), (2, .int v2), (3, .int v3), (4, .int v4)]) (S' := [.int v3, .int (((x1 - x1 / 160 * 160) * 4) + 2), .ref x4]) rfl ?_
  refine zco_iastore (zdk (cc := cX6_keep) (q := (39, .iastore, 1)) tkX6_keep 25 rfl) ?_
  refine zco_p tkX6_keep 26 1 (pc' := 41) (L' := [(5, .int ((x1 - x1 / 160 * 160) * 4)), (0, .ref v0), (1, .int v1), (2, .int v2), (3, .int v3), (4, .int v4)]) (S' := [.ref v0]) rfl ?_
  refine zco_gr fl_6_28 rfl (zdk (cc := cX6_keep) (q := (41, .getfield 28, 3)) tkX6_keep 27 rfl) (fun x5 => ?_)
  refine zco_p tkX6_keep 28 4 (pc' := 50) (L' := [(5, .int ((x1 - x1 / 160 * 160) * 4)), (0, .ref v0), (1, .int v1), (2, .int v2), (3, .int v3), (4, .int v4)]) (S' := [.int v4, .int (((x1 - x1 / 160 * 160) * 4) + 3), .ref x5]) rfl ?_
  refine zco_iastore (zdk (cc := cX6_keep) (q := (50, .iastore, 1)) tkX6_keep 32 rfl) ?_
  refine zco_p tkX6_keep 33 2 (pc' := 53) (L' := [(5, .int ((x1 - x1 / 160 * 160) * 4)), (0, .ref v0), (1, .int v1), (2, .int v2), (3, .int v3), (4, .int v4)]) (S' := [.ref v0, .ref v0]) rfl ?_
  refine zco_gi fl_6_31 rfl (zdk (cc := cX6_keep) (q := (53, .getfield 31, 3)) tkX6_keep 35 rfl) (fun x6 => ?_)
  refine zco_p tkX6_keep 36 2 (pc' := 58) (L' := [(5, .int ((x1 - x1 / 160 * 160) * 4)), (0, .ref v0), (1, .int v1), (2, .int v2), (3, .int v3), (4, .int v4)]) (S' := [.int (x6 + 1), .ref v0]) rfl ?_
  refine zco_pi fl_6_31 rfl rfl (zdk (cc := cX6_keep) (q := (58, .putfield 31, 3)) tkX6_keep 38 rfl) ?_
  exact zco_vret rfl rfl rfl (zdk (cc := cX6_keep) (q := (61, .return_, 1)) tkX6_keep 39 rfl)
theorem mtX6_keep (l : Launch) (d : Nat) (hd : 1 ≤ d) (v0 : Nat) (v1 : Int32) (v2 : Int32) (v3 : Int32) (v4 : Int32) : zMet l d 0 0 yX6_keep cX6_keep 6 (Option.none : Option FieldType) [.ref v0, .int v1, .int v2, .int v3, .int v4] (X6_keep v0 v1 v2 v3 v4) := by
  obtain ⟨e, rfl⟩ : ∃ e, d = e + 1 := ⟨d - 1, by omega⟩
  exact zmet_of (own := RX6) (ini := false) (by decide +kernel) rfl (fun _ => by contradiction) (Nat.le_of_ble_eq_true rfl) (coX6_keep l e (by omega) v0 v1 v2 v3 v4)
abbrev iX11_actRound : zI := (RX11, cX11_actRound, 7, (Option.some .int), false)
def tX11_actRound : List (Nat × Instr × Nat) := [(0, .aload_n 0, 1), (1, .getfield 61, 3), (4, .getfield 166, 3), (7, .istore_n 2, 1), (8, .aload_n 0, 1), (9, .getfield 61, 3), (12, .getfield 169, 3), (15, .istore_n 3, 1), (16, .aload_n 0, 1), (17, .getfield 70, 3), (20, .aload_n 0, 1), (21, .getfield 61, 3), (24, .iload_n 1, 1), (25, .invokevirtual 317, 3), (28, .istore 4, 2), (30, .iconst 0, 1), (31, .istore 5, 2), (33, .iload 5, 2), (35, .iload 4, 2), (37, .if_icmp .ge 42, 3), (40, .aload_n 0, 1), (41, .getfield 70, 3), (44, .getfield 320, 3), (47, .iload 5, 2), (49, .iaload, 1), (50, .istore 6, 2), (52, .aload_n 0, 1), (53, .getfield 93, 3), (56, .iload_n 2, 1), (57, .iload_n 3, 1), (58, .iload 6, 2), (60, .aload_n 0, 1), (61, .getfield 61, 3), (64, .getfield 199, 3), (67, .iload 6, 2), (69, .iaload, 1), (70, .invokevirtual 323, 3), (73, .iinc 5 1, 3), (76, .goto (-43), 3), (79, .iload 4, 2), (81, .ireturn, 1)]
set_option maxRecDepth 100000 in
theorem tkX11_actRound : ∀ q ∈ tX11_actRound, decode cX11_actRound q.1 = .ok q.2 := by decide +kernel
theorem vmX11_actRound : zVM yX11_actRound cX11_actRound 7 (Option.some .int) 1 11 := ⟨kX11_actRound, q_1223, q_37, q_149, ⟨_, rfl, rfl⟩, by decide +kernel, by decide⟩
set_option maxHeartbeats 2000000 in
set_option maxRecDepth 20000 in
theorem coX11_actRound_B33 (l : Launch) (e : Nat) (he : 5 ≤ e) (v0 : Nat) (v2 : Int32) (v3 : Int32) (v4 : Int32) (r33 : Int32 → zM) (hr33 : ∀ x : Int32, zCo l (e + 1) 0 0 iX11_actRound 33 [(0, .ref v0), (2, .int v2), (3, .int v3), (4, .int v4), (5, .int x)] [] (r33 x)) (v5 : Int32) : zCo l (e + 1) 0 0 iX11_actRound 33 [(0, .ref v0), (2, .int v2), (3, .int v3), (4, .int v4), (5, .int v5)] [] (X11_actRound_B33 v0 v2 v3 v4 r33 v5) := by
  unfold X11_actRound_B33
  refine zco_p tkX11_actRound 17 2 (pc' := 37) (L' := [(0, .ref v0), (2, .int v2), (3, .int v3), (4, .int v4), (5, .int v5)]) (S' := [.int v4, .int v5]) rfl ?_
  refine zco_icmp_ge (tgt := 79) (zdk (cc := cX11_actRound) (q := (37, .if_icmp .ge 42, 3)) tkX11_actRound 19 rfl) rfl ?_ ?_
  · refine zco_p tkX11_actRound 39 1 (pc' := 81) (L' := [(0, .ref v0), (2, .int v2), (3, .int v3), (4, .int v4), (5, .int v5)]) (S' := [.int v4]) rfl ?_
    exact zco_iret rfl rfl rfl (zdk (cc := cX11_actRound) (q := (81, .ireturn, 1)) tkX11_actRound 40 rfl)
  · refine zco_p tkX11_actRound 20 1 (pc' := 41) (L' := [(0, .ref v0), (2, .int v2), (3, .int v3), (4, .int v4), (5, .int v5)]) (S' := [.ref v0]) rfl ?_
    refine zco_gr fl_11_70 rfl (zdk (cc := cX11_actRound) (q := (41, .getfield 70, 3)) tkX11_actRound 21 rfl) (fun x1 => ?_)
    refine zco_gr fl_11_320 rfl (zdk (cc := cX11_actRound) (q := (44, .getfield 320, 3)) tkX11_actRound 22 rfl) (fun x2 => ?_)
    refine zco_p tkX11_actRound 23 1 (pc' := 49) (L' := [(0, .ref v0), (2, .int v2), (3, .int v3), (4, .int v4), (5, .int v5)]) (S' := [.int v5, .ref x2]) rfl ?_
    refine zco_iaload (zdk (cc := cX11_actRound) (q := (49, .iaload, 1)) tkX11_actRound 24 rfl) (fun x3 => ?_)
    refine zco_p tkX11_actRound 25 2 (pc' := 53) (L' := [(6, .int x3), (0, .ref v0), (2, .int v2), (3, .int v3), (4, .int v4), (5, .int v5)]) (S' := [.ref v0]) rfl ?_
    refine zco_gr fl_11_93 rfl (zdk (cc := cX11_actRound) (q := (53, .getfield 93, 3)) tkX11_actRound 27 rfl) (fun x4 => ?_)
    refine zco_p tkX11_actRound 28 4 (pc' := 61) (L' := [(6, .int x3), (0, .ref v0), (2, .int v2), (3, .int v3), (4, .int v4), (5, .int v5)]) (S' := [.ref v0, .int x3, .int v3, .int v2, .ref x4]) rfl ?_
    refine zco_gr fl_11_61 rfl (zdk (cc := cX11_actRound) (q := (61, .getfield 61, 3)) tkX11_actRound 32 rfl) (fun x5 => ?_)
    refine zco_gr fl_11_199 rfl (zdk (cc := cX11_actRound) (q := (64, .getfield 199, 3)) tkX11_actRound 33 rfl) (fun x6 => ?_)
    refine zco_p tkX11_actRound 34 1 (pc' := 69) (L' := [(6, .int x3), (0, .ref v0), (2, .int v2), (3, .int v3), (4, .int v4), (5, .int v5)]) (S' := [.int x3, .ref x6, .int x3, .int v3, .int v2, .ref x4]) rfl ?_
    refine zco_iaload (zdk (cc := cX11_actRound) (q := (69, .iaload, 1)) tkX11_actRound 35 rfl) (fun x7 => ?_)
    refine zco_Vv (rc := 0) (rs := 0) (mc := 0) (ms := 0) (As := [.int v2, .int v3, .int x3, .int x7]) (S := []) vmX6_keep (mtX6_keep l e (by omega) x4 v2 v3 x3 x7) q_1226 rfl rfl (Nat.le_of_ble_eq_true rfl) (zdk (cc := cX11_actRound) (q := (70, .invokevirtual 323, 3)) tkX11_actRound 36 rfl) ?_
    refine zco_p tkX11_actRound 37 2 (pc' := 33) (L' := [(5, .int (v5 + 1)), (6, .int x3), (0, .ref v0), (2, .int v2), (3, .int v3), (4, .int v4)]) (S' := []) rfl ?_
    exact zco_sub [2, 3, 4, 5, 0] rfl (hr33 (v5 + 1))
set_option maxHeartbeats 2000000 in
set_option maxRecDepth 20000 in
theorem coX11_actRound (l : Launch) (e : Nat) (he : 5 ≤ e) (v0 : Nat) (v1 : Int32) : zCo l (e + 1) 0 0 iX11_actRound 0 [(0, .ref v0), (1, .int v1)] [] (X11_actRound v0 v1) := by
  unfold X11_actRound
  refine zco_p tkX11_actRound 0 1 (pc' := 1) (L' := [(0, .ref v0), (1, .int v1)]) (S' := [.ref v0]) rfl ?_
  refine zco_gr fl_11_61 rfl (zdk (cc := cX11_actRound) (q := (1, .getfield 61, 3)) tkX11_actRound 1 rfl) (fun x1 => ?_)
  refine zco_gi fl_11_166 rfl (zdk (cc := cX11_actRound) (q := (4, .getfield 166, 3)) tkX11_actRound 2 rfl) (fun x2 => ?_)
  refine zco_p tkX11_actRound 3 2 (pc' := 9) (L' := [(2, .int x2), (0, .ref v0), (1, .int v1)]) (S' := [.ref v0]) rfl ?_
  refine zco_gr fl_11_61 rfl (zdk (cc := cX11_actRound) (q := (9, .getfield 61, 3)) tkX11_actRound 5 rfl) (fun x3 => ?_)
  refine zco_gi fl_11_169 rfl (zdk (cc := cX11_actRound) (q := (12, .getfield 169, 3)) tkX11_actRound 6 rfl) (fun x4 => ?_)
  refine zco_p tkX11_actRound 7 2 (pc' := 17) (L' := [(3, .int x4), (2, .int x2), (0, .ref v0), (1, .int v1)]) (S' := [.ref v0]) rfl ?_
  refine zco_gr fl_11_70 rfl (zdk (cc := cX11_actRound) (q := (17, .getfield 70, 3)) tkX11_actRound 9 rfl) (fun x5 => ?_)
  refine zco_p tkX11_actRound 10 1 (pc' := 21) (L' := [(3, .int x4), (2, .int x2), (0, .ref v0), (1, .int v1)]) (S' := [.ref v0, .ref x5]) rfl ?_
  refine zco_gr fl_11_61 rfl (zdk (cc := cX11_actRound) (q := (21, .getfield 61, 3)) tkX11_actRound 11 rfl) (fun x6 => ?_)
  refine zco_p tkX11_actRound 12 1 (pc' := 25) (L' := [(3, .int x4), (2, .int x2), (0, .ref v0), (1, .int v1)]) (S' := [.int v1, .ref x6, .ref x5]) rfl ?_
  refine zco_Vi (rc := 0) (rs := 0) (mc := 0) (ms := 0) (As := [.ref x6, .int v1]) (S := []) vmX10_go (mtX10_go l e (by omega) x5 x6 v1) q_1225 rfl rfl (Nat.le_of_ble_eq_true rfl) (zdk (cc := cX11_actRound) (q := (25, .invokevirtual 317, 3)) tkX11_actRound 13 rfl) (fun y7 => ?_)
  refine zco_p tkX11_actRound 14 3 (pc' := 33) (L' := [(5, .int 0), (4, .int y7), (3, .int x4), (2, .int x2), (0, .ref v0), (1, .int v1)]) (S' := []) rfl ?_
  exact zco_sub [4, 3, 2, 1, 0] rfl (zco_fix (Lf := fun x : Int32 => [(0, .ref v0), (2, .int x2), (3, .int x4), (4, .int y7), (5, .int x)]) (Sf := fun _ => []) (fun r hr x => coX11_actRound_B33 l e he v0 x2 x4 y7 r hr x) zFU 0)
theorem mtX11_actRound (l : Launch) (d : Nat) (hd : 6 ≤ d) (v0 : Nat) (v1 : Int32) : zMet l d 0 0 yX11_actRound cX11_actRound 7 (Option.some .int) [.ref v0, .int v1] (X11_actRound v0 v1) := by
  obtain ⟨e, rfl⟩ : ∃ e, d = e + 1 := ⟨d - 1, by omega⟩
  exact zmet_of (own := RX11) (ini := false) (by decide +kernel) rfl (fun _ => by contradiction) (Nat.le_of_ble_eq_true rfl) (coX11_actRound l e (by omega) v0 v1)
