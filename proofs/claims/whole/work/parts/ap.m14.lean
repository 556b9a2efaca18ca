abbrev iX12_qIsBracket : zI := (RX12, cX12_qIsBracket, 1, (Option.some .boolean), false)
def tX12_qIsBracket : List (Nat × Instr × Nat) := [(0, .iload_n 0, 1), (1, .bipush 20, 2), (3, .if_icmp .lt 13, 3), (6, .iload_n 0, 1), (7, .bipush 24, 2), (9, .if_icmp .gt 7, 3), (12, .iconst 1, 1), (13, .goto 4, 3), (16, .iconst 0, 1), (17, .ireturn, 1)]
set_option maxRecDepth 100000 in
theorem tkX12_qIsBracket : ∀ q ∈ tX12_qIsBracket, decode cX12_qIsBracket q.1 = .ok q.2 := by decide +kernel
theorem vmX12_qIsBracket : zSM yX12_qIsBracket cX12_qIsBracket 1 (Option.some .boolean) 1 := ⟨kX12_qIsBracket, q_1886, q_162, by decide +kernel, by decide⟩
set_option maxHeartbeats 2000000 in
set_option maxRecDepth 20000 in
theorem coX12_qIsBracket (l : Launch) (e : Nat) (he : 0 ≤ e) (v0 : Int32) : zCo l (e + 1) 0 0 iX12_qIsBracket 0 [(0, .int v0)] [] (X12_qIsBracket v0) := by
  unfold X12_qIsBracket
  refine zco_p tkX12_qIsBracket 0 2 (pc' := 3) (L' := [(0, .int v0)]) (S' := [.int 20, .int v0]) rfl ?_
  refine zco_icmp_lt (tgt := 16) (zdk (cc := cX12_qIsBracket) (q := (3, .if_icmp .lt 13, 3)) tkX12_qIsBracket 2 rfl) rfl ?_ ?_
  · refine zco_p tkX12_qIsBracket 8 1 (pc' := 17) (L' := [(0, .int v0)]) (S' := [.int 0]) rfl ?_
    exact zco_zret rfl rfl rfl (zdk (cc := cX12_qIsBracket) (q := (17, .ireturn, 1)) tkX12_qIsBracket 9 rfl)
  · refine zco_p tkX12_qIsBracket 3 2 (pc' := 9) (L' := [(0, .int v0)]) (S' := [.int 24, .int v0]) rfl ?_
    refine zco_icmp_gt (tgt := 16) (zdk (cc := cX12_qIsBracket) (q := (9, .if_icmp .gt 7, 3)) tkX12_qIsBracket 5 rfl) rfl ?_ ?_
    · refine zco_p tkX12_qIsBracket 8 1 (pc' := 17) (L' := [(0, .int v0)]) (S' := [.int 0]) rfl ?_
      exact zco_zret rfl rfl rfl (zdk (cc := cX12_qIsBracket) (q := (17, .ireturn, 1)) tkX12_qIsBracket 9 rfl)
    · refine zco_p tkX12_qIsBracket 6 2 (pc' := 17) (L' := [(0, .int v0)]) (S' := [.int 1]) rfl ?_
      exact zco_zret rfl rfl rfl (zdk (cc := cX12_qIsBracket) (q := (17, .ireturn, 1)) tkX12_qIsBracket 9 rfl)
theorem mtX12_qIsBracket (l : Launch) (d : Nat) (hd : 1 ≤ d) (v0 : Int32) : zMet l d 0 0 yX12_qIsBracket cX12_qIsBracket 1 (Option.some .boolean) [.int v0] (X12_qIsBracket v0) := by
  obtain ⟨e, rfl⟩ : ∃ e, d = e + 1 := ⟨d - 1, by omega⟩
  exact zmet_of (own := RX12) (ini := false) (by decide +kernel) rfl (fun _ => by contradiction) (Nat.le_of_ble_eq_true rfl) (coX12_qIsBracket l e (by omega) v0)
abbrev iX12_qBracket : zI := (RX12, cX12_qBracket, 2, (Option.some .int), false)
def tX12_qBracket : List (Nat × Instr × Nat) := [(0, .aload_n 0, 1), (1, .getfield 356, 3), (4, .iconst 1, 1), (5, .isub, 1), (6, .istore_n 1, 1), (7, .iload_n 1, 1), (8, .aload_n 0, 1), (9, .getfield 362, 3), (12, .if_icmp .lt 21, 3), (15, .aload_n 0, 1), (16, .getfield 258, 3), (19, .iload_n 1, 1), (20, .iaload, 1), (21, .invokestatic 636, 3), (24, .ifCond .ne 9, 3), (27, .iinc 1 (-1), 3), (30, .goto (-23), 3), (33, .iload_n 1, 1), (34, .aload_n 0, 1), (35, .getfield 362, 3), (38, .if_icmp .lt 12, 3), (41, .aload_n 0, 1), (42, .getfield 258, 3), (45, .iload_n 1, 1), (46, .iaload, 1), (47, .goto 4, 3), (50, .iconst (-1), 1), (51, .ireturn, 1)]
set_option maxRecDepth 100000 in
theorem tkX12_qBracket : ∀ q ∈ tX12_qBracket, decode cX12_qBracket q.1 = .ok q.2 := by decide +kernel
theorem vmX12_qBracket : zVM yX12_qBracket cX12_qBracket 2 (Option.some .int) 0 12 := ⟨kX12_qBracket, q_1883, q_76, q_162, ⟨_, rfl, rfl⟩, by decide +kernel, by decide⟩
set_option maxHeartbeats 2000000 in
set_option maxRecDepth 20000 in
theorem coX12_qBracket_J33 (l : Launch) (e : Nat) (he : 1 ≤ e) (v0 : Nat) (v1 : Int32) : zCo l (e + 1) 0 0 iX12_qBracket 33 [(0, .ref v0), (1, .int v1)] [] (X12_qBracket_J33 v0 v1) := by
  unfold X12_qBracket_J33
  refine zco_p tkX12_qBracket 17 2 (pc' := 35) (L' := [(0, .ref v0), (1, .int v1)]) (S' := [.ref v0, .int v1]) rfl ?_
  refine zco_gi fl_12_362 rfl (zdk (cc := cX12_qBracket) (q := (35, .getfield 362, 3)) tkX12_qBracket 19 rfl) (fun x1 => ?_)
  refine zco_icmp_lt (tgt := 50) (zdk (cc := cX12_qBracket) (q := (38, .if_icmp .lt 12, 3)) tkX12_qBracket 20 rfl) rfl ?_ ?_
  · refine zco_p tkX12_qBracket 26 1 (pc' := 51) (L' := [(0, .ref v0), (1, .int v1)]) (S' := [.int ((-1))]) rfl ?_
    exact zco_iret rfl rfl rfl (zdk (cc := cX12_qBracket) (q := (51, .ireturn, 1)) tkX12_qBracket 27 rfl)
  · refine zco_p tkX12_qBracket 21 1 (pc' := 42) (L' := [(0, .ref v0), (1, .int v1)]) (S' := [.ref v0]) rfl ?_
    refine zco_gr fl_12_258 rfl (zdk (cc := cX12_qBracket) (q := (42, .getfield 258, 3)) tkX12_qBracket 22 rfl) (fun x2 => ?_)
    refine zco_p tkX12_qBracket 23 1 (pc' := 46) (L' := [(0, .ref v0), (1, .int v1)]) (S' := [.int v1, .ref x2]) rfl ?_
    refine zco_iaload (zdk (cc := cX12_qBracket) (q := (46, .iaload, 1)) tkX12_qBracket 24 rfl) (fun x3 => ?_)
    refine zco_p tkX12_qBracket 25 1 (pc' := 51) (L' := [(0, .ref v0), (1, .int v1)]) (S' := [.int x3]) rfl ?_
    exact zco_iret rfl rfl rfl (zdk (cc := cX12_qBracket) (q := (51, .ireturn, 1)) tkX12_qBracket 27 rfl)
set_option maxHeartbeats 2000000 in
set_option maxRecDepth 20000 in
theorem coX12_qBracket_B7 (l : Launch) (e : Nat) (he : 1 ≤ e) (v0 : Nat) (r7 : Int32 → zM) (hr7 : ∀ x : Int32, zCo l (e + 1) 0 0 iX12_qBracket 7 [(0, .ref v0), (1, .int x)] [] (r7 x)) (v1 : Int32) : zCo l (e + 1) 0 0 iX12_qBracket 7 [(0, .ref v0), (1, .int v1)] [] (X12_qBracket_B7 v0 r7 v1) := by
  unfold X12_qBracket_B7
  refine zco_p tkX12_qBracket 5 2 (pc' := 9) (L' := [(0, .ref v0), (1, .int v1)]) (S' := [.ref v0, .int v1]) rfl ?_
  refine zco_gi fl_12_362 rfl (zdk (cc := cX12_qBracket) (q := (9, .getfield 362, 3)) tkX12_qBracket 7 rfl) (fun x1 => ?_)
  refine zco_icmp_lt (tgt := 33) (zdk (cc := cX12_qBracket) (q := (12, .if_icmp .lt 21, 3)) tkX12_qBracket 8 rfl) rfl ?_ ?_
  · exact zco_sub [0, 1] rfl (coX12_qBracket_J33 l e he v0 v1)
  · refine zco_p tkX12_qBracket 9 1 (pc' := 16) (L' := [(0, .ref v0), (1, .int v1)]) (S' := [.ref v0]) rfl ?_
    refine zco_gr fl_12_258 rfl (zdk (cc := cX12_qBracket) (q := (16, .getfield 258, 3)) tkX12_qBracket 10 rfl) (fun x2 => ?_)
    refine zco_p tkX12_qBracket 11 1 (pc' := 20) (L' := [(0, .ref v0), (1, .int v1)]) (S' := [.int v1, .ref x2]) rfl ?_
    refine zco_iaload (zdk (cc := cX12_qBracket) (q := (20, .iaload, 1)) tkX12_qBracket 12 rfl) (fun x3 => ?_)
    refine zco_Si (rc := 0) (rs := 0) (mc := 0) (ms := 0) (As := [.int x3]) (S := []) vmX12_qIsBracket (mtX12_qIsBracket l e (by omega) x3) q_1885 rfl rfl (Nat.le_of_ble_eq_true rfl) (zdk (cc := cX12_qBracket) (q := (21, .invokestatic 636, 3)) tkX12_qBracket 13 rfl) (fun y4 => ?_)
    refine zco_if_ne (tgt := 33) (zdk (cc := cX12_qBracket) (q := (24, .ifCond .ne 9, 3)) tkX12_qBracket 14 rfl) rfl ?_ ?_
    · exact zco_sub [0, 1] rfl (coX12_qBracket_J33 l e he v0 v1)
    · refine zco_p tkX12_qBracket 15 2 (pc' := 7) (L' := [(1, .int (v1 + (-1))), (0, .ref v0)]) (S' := []) rfl ?_
      exact zco_sub [1, 0] rfl (hr7 (v1 + (-1)))
set_option maxHeartbeats 2000000 in
set_option maxRecDepth 20000 in
theorem coX12_qBracket (l : Launch) (e : Nat) (he : 1 ≤ e) (v0 : Nat) : zCo l (e + 1) 0 0 iX12_qBracket 0 [(0, .ref v0)] [] (X12_qBracket v0) := by
  unfold X12_qBracket
  refine zco_p tkX12_qBracket 0 1 (pc' := 1) (L' := [(0, .ref v0)]) (S' := [.ref v0]) rfl ?_
  refine zco_gi fl_12_356 rfl (zdk (cc := cX12_qBracket) (q := (1, .getfield 356, 3)) tkX12_qBracket 1 rfl) (fun x1 => ?_)
  refine zco_p tkX12_qBracket 2 3 (pc' := 7) (L' := [(1, .int (x1 - 1)), (0, .ref v0)]) (S' := []) rfl ?_
  exact zco_sub [1, 0] rfl (zco_fix (Lf := fun x : Int32 => [(0, .ref v0), (1, .int x)]) (Sf := fun _ => []) (fun r hr x => coX12_qBracket_B7 l e he v0 r hr x) zFU (x1 - 1))
theorem mtX12_qBracket (l : Launch) (d : Nat) (hd : 2 ≤ d) (v0 : Nat) : zMet l d 0 0 yX12_qBracket cX12_qBracket 2 (Option.some .int) [.ref v0] (X12_qBracket v0) := by
  obtain ⟨e, rfl⟩ : ∃ e, d = e + 1 := ⟨d - 1, by omega⟩
  exact zmet_of (own := RX12) (ini := false) (by decide +kernel) rfl (fun _ => by contradiction) (Nat.le_of_ble_eq_true rfl) (coX12_qBracket l e (by omega) v0)
abbrev iX12_qDropsToBracket : zI := (RX12, cX12_qDropsToBracket, 1, (Option.none : Option FieldType), false)
def tX12_qDropsToBracket : List (Nat × Instr × Nat) := [(0, .aload_n 0, 1), (1, .getfield 356, 3), (4, .aload_n 0, 1), (5, .getfield 362, 3), (8, .if_icmp .le 27, 3), (11, .aload_n 0, 1), (12, .getfield 258, 3), (15, .aload_n 0, 1), (16, .getfield 356, 3), (19, .iconst 1, 1), (20, .isub, 1), (21, .iaload, 1), (22, .invokestatic 636, 3), (25, .ifCond .ne 10, 3), (28, .aload_n 0, 1), (29, .invokevirtual 639, 3), (32, .goto (-32), 3), (35, .return_, 1)]
set_option maxRecDepth 100000 in
theorem tkX12_qDropsToBracket : ∀ q ∈ tX12_qDropsToBracket, decode cX12_qDropsToBracket q.1 = .ok q.2 := by decide +kernel
theorem vmX12_qDropsToBracket : zVM yX12_qDropsToBracket cX12_qDropsToBracket 1 (Option.none : Option FieldType) 0 12 := ⟨kX12_qDropsToBracket, q_1890, q_77, q_162, ⟨_, rfl, rfl⟩, by decide +kernel, by decide⟩
set_option maxHeartbeats 2000000 in
set_option maxRecDepth 20000 in
theorem coX12_qDropsToBracket_B0 (l : Launch) (e : Nat) (he : 2 ≤ e) (v0 : Nat) (r0 : Unit → zM) (hr0 : ∀ x : Unit, zCo l (e + 1) 0 0 iX12_qDropsToBracket 0 [(0, .ref v0)] [] (r0 x)) : zCo l (e + 1) 0 0 iX12_qDropsToBracket 0 [(0, .ref v0)] [] (X12_qDropsToBracket_B0 v0 r0) := by
  unfold X12_qDropsToBracket_B0
  refine zco_p tkX12_qDropsToBracket 0 1 (pc' := 1) (L' := [(0, .ref v0)]) (S' := [.ref v0]) rfl ?_
  refine zco_gi fl_12_356 rfl (zdk (cc := cX12_qDropsToBracket) (q := (1, .getfield 356, 3)) tkX12_qDropsToBracket 1 rfl) (fun x1 => ?_)
  refine zco_p tkX12_qDropsToBracket 2 1 (pc' := 5) (L' := [(0, .ref v0)]) (S' := [.ref v0, .int x1]) rfl ?_
  refine zco_gi fl_12_362 rfl (zdk (cc := cX12_qDropsToBracket) (q := (5, .getfield 362, 3)) tkX12_qDropsToBracket 3 rfl) (fun x2 => ?_)
  refine zco_icmp_le (tgt := 35) (zdk (cc := cX12_qDropsToBracket) (q := (8, .if_icmp .le 27, 3)) tkX12_qDropsToBracket 4 rfl) rfl ?_ ?_
  · exact zco_vret rfl rfl rfl (zdk (cc := cX12_qDropsToBracket) (q := (35, .return_, 1)) tkX12_qDropsToBracket 17 rfl)
  · refine zco_p tkX12_qDropsToBracket 5 1 (pc' := 12) (L' := [(0, .ref v0)]) (S' := [.ref v0]) rfl ?_
    refine zco_gr fl_12_258 rfl (zdk (cc := cX12_qDropsToBracket) (q := (12, .getfield 258, 3)) tkX12_qDropsToBracket 6 rfl) (fun x3 => ?_)
    refine zco_p tkX12_qDropsToBracket 7 1 (pc' := 16) (L' := [(0, .ref v0)]) (S' := [.ref v0, .ref x3]) rfl ?_
    refine zco_gi fl_12_356 rfl (zdk (cc := cX12_qDropsToBracket) (q := (16, .getfield 356, 3)) tkX12_qDropsToBracket 8 rfl) (fun x4 => ?_)
    refine zco_p tkX12_qDropsToBracket 9 2 (pc' := 21) (L' := [(0, .ref v0)]) (S' := [.int (x4 - 1), .ref x3]) rfl ?_
    refine zco_iaload (zdk (cc := cX12_qDropsToBracket) (q := (21, .iaload, 1)) tkX12_qDropsToBracket 11 rfl) (fun x5 => ?_)
    refine zco_Si (rc := 0) (rs := 0) (mc := 0) (ms := 0) (As := [.int x5]) (S := []) vmX12_qIsBracket (mtX12_qIsBracket l e (by omega) x5) q_1885 rfl rfl (Nat.le_of_ble_eq_true rfl) (zdk (cc := cX12_qDropsToBracket) (q := (22, .invokestatic 636, 3)) tkX12_qDropsToBracket 12 rfl) (fun y6 => ?_)
    refine zco_if_ne (tgt := 35) (zdk (cc := cX12_qDropsToBracket) (q := (25, .ifCond .ne 10, 3)) tkX12_qDropsToBracket 13 rfl) rfl ?_ ?_
    · exact zco_vret rfl rfl rfl (zdk (cc := cX12_qDropsToBracket) (q := (35, .return_, 1)) tkX12_qDropsToBracket 17 rfl)
    · refine zco_p tkX12_qDropsToBracket 14 1 (pc' := 29) (L' := [(0, .ref v0)]) (S' := [.ref v0]) rfl ?_
      refine zco_Vv (rc := 0) (rs := 0) (mc := 0) (ms := 0) (As := []) (S := []) vmX12_qDrops (mtX12_qDrops l e (by omega) v0) q_1873 rfl rfl (Nat.le_of_ble_eq_true rfl) (zdk (cc := cX12_qDropsToBracket) (q := (29, .invokevirtual 639, 3)) tkX12_qDropsToBracket 15 rfl) ?_
      refine zco_p tkX12_qDropsToBracket 16 1 (pc' := 0) (L' := [(0, .ref v0)]) (S' := []) rfl ?_
      exact zco_sub [0] rfl (hr0 (()))
set_option maxHeartbeats 2000000 in
set_option maxRecDepth 20000 in
theorem coX12_qDropsToBracket (l : Launch) (e : Nat) (he : 2 ≤ e) (v0 : Nat) : zCo l (e + 1) 0 0 iX12_qDropsToBracket 0 [(0, .ref v0)] [] (X12_qDropsToBracket v0) := by
  unfold X12_qDropsToBracket
  exact zco_sub [0] rfl (zco_fix (Lf := fun x : Unit => [(0, .ref v0)]) (Sf := fun _ => []) (fun r hr x => coX12_qDropsToBracket_B0 l e he v0 r hr ) zFU (()))
theorem mtX12_qDropsToBracket (l : Launch) (d : Nat) (hd : 3 ≤ d) (v0 : Nat) : zMet l d 0 0 yX12_qDropsToBracket cX12_qDropsToBracket 1 (Option.none : Option FieldType) [.ref v0] (X12_qDropsToBracket v0) := by
  obtain ⟨e, rfl⟩ : ∃ e, d = e + 1 := ⟨d - 1, by omega⟩
  exact zmet_of (own := RX12) (ini := false) (by decide +kernel) rfl (fun _ => by contradiction) (Nat.le_of_ble_eq_true rfl) (coX12_qDropsToBracket l e (by omega) v0)
abbrev iX12_qIsOn : zI := (RX12, cX12_qIsOn, 2, (Option.some .boolean), false)
def tX12_qIsOn : List (Nat × Instr × Nat) := [(0, .aload_n 0, 1), (1, .getfield 356, 3), (4, .ifCond .le 22, 3), (7, .aload_n 0, 1), (8, .getfield 258, 3), (11, .aload_n 0, 1), (12, .getfield 356, 3), (15, .iconst 1, 1), (16, .isub, 1), (17, .iaload, 1), (18, .iload_n 1, 1), (19, .if_icmp .ne 7, 3), (22, .iconst 1, 1), (23, .goto 4, 3), (26, .iconst 0, 1), (27, .ireturn, 1)]
set_option maxRecDepth 100000 in
theorem tkX12_qIsOn : ∀ q ∈ tX12_qIsOn, decode cX12_qIsOn q.1 = .ok q.2 := by decide +kernel
theorem vmX12_qIsOn : zVM yX12_qIsOn cX12_qIsOn 2 (Option.some .boolean) 1 12 := ⟨kX12_qIsOn, q_1894, q_78, q_162, ⟨_, rfl, rfl⟩, by decide +kernel, by decide⟩
set_option maxHeartbeats 2000000 in
set_option maxRecDepth 20000 in
theorem coX12_qIsOn (l : Launch) (e : Nat) (he : 0 ≤ e) (v0 : Nat) (v1 : Int32) : zCo l (e + 1) 0 0 iX12_qIsOn 0 [(0, .ref v0), (1, .int v1)] [] (X12_qIsOn v0 v1) := by
  unfold X12_qIsOn
  refine zco_p tkX12_qIsOn 0 1 (pc' := 1) (L' := [(0, .ref v0), (1, .int v1)]) (S' := [.ref v0]) rfl ?_
  refine zco_gi fl_12_356 rfl (zdk (cc := cX12_qIsOn) (q := (1, .getfield 356, 3)) tkX12_qIsOn 1 rfl) (fun x1 => ?_)
  refine zco_if_le (tgt := 26) (zdk (cc := cX12_qIsOn) (q := (4, .ifCond .le 22, 3)) tkX12_qIsOn 2 rfl) rfl ?_ ?_
  · refine zco_p tkX12_qIsOn 14 1 (pc' := 27) (L' := [(0, .ref v0), (1, .int v1)]) (S' := [.int 0]) rfl ?_
    exact zco_zret rfl rfl rfl (zdk (cc := cX12_qIsOn) (q := (27, .ireturn, 1)) tkX12_qIsOn 15 rfl)
  · refine zco_p tkX12_qIsOn 3 1 (pc' := 8) (L' := [(0, .ref v0), (1, .int v1)]) (S' := [.ref v0]) rfl ?_
    refine zco_gr fl_12_258 rfl (zdk (cc := cX12_qIsOn) (q := (8, .getfield 258, 3)) tkX12_qIsOn 4 rfl) (fun x2 => ?_)
    refine zco_p tkX12_qIsOn 5 1 (pc' := 12) (L' := [(0, .ref v0), (1, .int v1)]) (S' := [.ref v0, .ref x2]) rfl ?_
    refine zco_gi fl_12_356 rfl (zdk (cc := cX12_qIsOn) (q := (12, .getfield 356, 3)) tkX12_qIsOn 6 rfl) (fun x3 => ?_)
    refine zco_p tkX12_qIsOn 7 2 (pc' := 17) (L' := [(0, .ref v0), (1, .int v1)]) (S' := [.int (x3 - 1), .ref x2]) rfl ?_
    refine zco_iaload (zdk (cc := cX12_qIsOn) (q := (17, .iaload, 1)) tkX12_qIsOn 9 rfl) (fun x4 => ?_)
    refine zco_p tkX12_qIsOn 10 1 (pc' := 19) (L' := [(0, .ref v0), (1, .int v1)]) (S' := [.int v1, .int x4]) rfl ?_
    refine zco_icmp_ne (tgt := 26) (zdk (cc := cX12_qIsOn) (q := (19, .if_icmp .ne 7, 3)) tkX12_qIsOn 11 rfl) rfl ?_ ?_
    · refine zco_p tkX12_qIsOn 14 1 (pc' := 27) (L' := [(0, .ref v0), (1, .int v1)]) (S' := [.int 0]) rfl ?_
      exact zco_zret rfl rfl rfl (zdk (cc := cX12_qIsOn) (q := (27, .ireturn, 1)) tkX12_qIsOn 15 rfl)
    · refine zco_p tkX12_qIsOn 12 2 (pc' := 27) (L' := [(0, .ref v0), (1, .int v1)]) (S' := [.int 1]) rfl ?_
      exact zco_zret rfl rfl rfl (zdk (cc := cX12_qIsOn) (q := (27, .ireturn, 1)) tkX12_qIsOn 15 rfl)
theorem mtX12_qIsOn (l : Launch) (d : Nat) (hd : 1 ≤ d) (v0 : Nat) (v1 : Int32) : zMet l d 0 0 yX12_qIsOn cX12_qIsOn 2 (Option.some .boolean) [.ref v0, .int v1] (X12_qIsOn v0 v1) := by
  obtain ⟨e, rfl⟩ : ∃ e, d = e + 1 := ⟨d - 1, by omega⟩
  exact zmet_of (own := RX12) (ini := false) (by decide +kernel) rfl (fun _ => by contradiction) (Nat.le_of_ble_eq_true rfl) (coX12_qIsOn l e (by omega) v0 v1)
abbrev iX12_qGoesOn : zI := (RX12, cX12_qGoesOn, 2, (Option.some .boolean), false)
def tX12_qGoesOn_q0 : List (Nat × Instr × Nat) := [(0, .aload_n 0, 1), (1, .getfield 270, 3), (4, .ifCond .ne 118, 3), (7, .aload_n 0, 1), (8, .invokevirtual 282, 3), (11, .bipush 41, 2), (13, .if_icmp .ne 109, 3), (16, .aload_n 0, 1), (17, .invokevirtual 660, 3), (20, .bipush 20, 2), (22, .if_icmp .eq 21, 3), (25, .aload_n 0, 1), (26, .invokevirtual 660, 3), (29, .bipush 23, 2), (31, .if_icmp .eq 12, 3), (34, .aload_n 0, 1), (35, .invokevirtual 660, 3), (38, .bipush 24, 2), (40, .if_icmp .ne 82, 3), (43, .aload_n 0, 1), (44, .dup, 1), (45, .getfield 276, 3), (48, .iconst 1, 1), (49, .iadd, 1), (50, .putfield 276, 3), (53, .aload_n 0, 1), (54, .invokevirtual 663, 3), (57, .aload_n 0, 1), (58, .dup, 1), (59, .getfield 356, 3), (62, .iconst 1, 1), (63, .isub, 1), (64, .putfield 356, 3), (67, .aload_n 0, 1), (68, .dup, 1), (69, .getfield 359, 3), (72, .iconst 1, 1), (73, .isub, 1), (74, .putfield 359, 3), (77, .aload_n 0, 1), (78, .getfield 258, 3), (81, .aload_n 0, 1), (82, .getfield 356, 3), (85, .iaload, 1), (86, .bipush 20, 2), (88, .if_icmp .eq 27, 3), (91, .aload_n 0, 1), (92, .aload_n 0, 1), (93, .getfield 258, 3), (96, .aload_n 0, 1), (97, .getfield 356, 3), (100, .iaload, 1), (101, .bipush 23, 2), (103, .if_icmp .ne 7, 3), (106, .iconst 5, 1), (107, .goto 5, 3), (110, .bipush 6, 2), (112, .invokevirtual 633, 3), (115, .aload_n 0, 1), (116, .invokevirtual 657, 3), (119, .goto (-119), 3), (122, .aload_n 0, 1), (123, .bipush 42, 2), (125, .invokevirtual 304, 3)]
set_option maxRecDepth 100000 in
theorem tkX12_qGoesOn_q0 : ∀ q ∈ tX12_qGoesOn_q0, decode cX12_qGoesOn q.1 = .ok q.2 := by decide +kernel
def tX12_qGoesOn_q1 : List (Nat × Instr × Nat) := [(128, .ifCond .ne 12, 3), (131, .aload_n 0, 1), (132, .bipush 47, 2), (134, .invokevirtual 304, 3), (137, .ifCond .eq 70, 3), (140, .aload_n 0, 1), (141, .getfield 7, 3), (144, .aload_n 0, 1), (145, .getfield 276, 3), (148, .iconst 1, 1), (149, .isub, 1), (150, .iaload, 1), (151, .bipush 42, 2), (153, .if_icmp .ne 7, 3), (156, .iconst 3, 1), (157, .goto 4, 3), (160, .iconst 4, 1), (161, .istore_n 1, 1), (162, .aload_n 0, 1), (163, .iconst 3, 1), (164, .invokevirtual 666, 3), (167, .ifCond .ne 11, 3), (170, .aload_n 0, 1), (171, .iconst 4, 1), (172, .invokevirtual 666, 3), (175, .ifCond .eq 10, 3), (178, .aload_n 0, 1), (179, .invokevirtual 639, 3), (182, .goto (-20), 3), (185, .aload_n 0, 1), (186, .getfield 258, 3), (189, .aload_n 0, 1), (190, .getfield 356, 3), (193, .iload_n 1, 1), (194, .iastore, 1), (195, .aload_n 0, 1), (196, .dup, 1), (197, .getfield 356, 3), (200, .iconst 1, 1), (201, .iadd, 1), (202, .putfield 356, 3), (205, .iconst 1, 1), (206, .ireturn, 1), (207, .aload_n 0, 1), (208, .bipush 43, 2), (210, .invokevirtual 304, 3), (213, .ifCond .ne 12, 3), (216, .aload_n 0, 1), (217, .bipush 45, 2), (219, .invokevirtual 304, 3), (222, .ifCond .eq 86, 3), (225, .aload_n 0, 1), (226, .getfield 7, 3), (229, .aload_n 0, 1), (230, .getfield 276, 3), (233, .iconst 1, 1), (234, .isub, 1), (235, .iaload, 1), (236, .bipush 43, 2), (238, .if_icmp .ne 7, 3), (241, .iconst 1, 1), (242, .goto 4, 3), (245, .iconst 2, 1), (246, .istore_n 1, 1)]
set_option maxRecDepth 100000 in
theorem tkX12_qGoesOn_q1 : ∀ q ∈ tX12_qGoesOn_q1, decode cX12_qGoesOn q.1 = .ok q.2 := by decide +kernel
def tX12_qGoesOn_q2 : List (Nat × Instr × Nat) := [(247, .aload_n 0, 1), (248, .iconst 3, 1), (249, .invokevirtual 666, 3), (252, .ifCond .ne 27, 3), (255, .aload_n 0, 1), (256, .iconst 4, 1), (257, .invokevirtual 666, 3), (260, .ifCond .ne 19, 3), (263, .aload_n 0, 1), (264, .iconst 1, 1), (265, .invokevirtual 666, 3), (268, .ifCond .ne 11, 3), (271, .aload_n 0, 1), (272, .iconst 2, 1), (273, .invokevirtual 666, 3), (276, .ifCond .eq 10, 3), (279, .aload_n 0, 1), (280, .invokevirtual 639, 3), (283, .goto (-36), 3), (286, .aload_n 0, 1), (287, .getfield 258, 3), (290, .aload_n 0, 1), (291, .getfield 356, 3), (294, .iload_n 1, 1), (295, .iastore, 1), (296, .aload_n 0, 1), (297, .dup, 1), (298, .getfield 356, 3), (301, .iconst 1, 1), (302, .iadd, 1), (303, .putfield 356, 3), (306, .iconst 1, 1), (307, .ireturn, 1), (308, .aload_n 0, 1), (309, .invokevirtual 660, 3), (312, .bipush 21, 2), (314, .if_icmp .eq 12, 3), (317, .aload_n 0, 1), (318, .invokevirtual 660, 3), (321, .bipush 22, 2), (323, .if_icmp .ne 39, 3), (326, .aload_n 0, 1), (327, .bipush 44, 2), (329, .invokevirtual 390, 3), (332, .aload_n 0, 1), (333, .getfield 270, 3), (336, .ifCond .eq 5, 3), (339, .iconst 0, 1), (340, .ireturn, 1), (341, .aload_n 0, 1), (342, .invokevirtual 663, 3), (345, .aload_n 0, 1), (346, .getfield 258, 3), (349, .aload_n 0, 1), (350, .getfield 356, 3), (353, .iconst 1, 1), (354, .isub, 1), (355, .dup2, 1), (356, .iaload, 1), (357, .iconst 2, 1), (358, .iadd, 1), (359, .iastore, 1), (360, .iconst 1, 1), (361, .ireturn, 1)]
set_option maxRecDepth 100000 in
theorem tkX12_qGoesOn_q2 : ∀ q ∈ tX12_qGoesOn_q2, decode cX12_qGoesOn q.1 = .ok q.2 := by decide +kernel
def tX12_qGoesOn_q3 : List (Nat × Instr × Nat) := [(362, .aload_n 0, 1), (363, .invokevirtual 660, 3), (366, .iconst (-1), 1), (367, .if_icmp .eq 19, 3), (370, .aload_n 0, 1), (371, .getfield 270, 3), (374, .ifCond .ne 12, 3), (377, .aload_n 0, 1), (378, .iconst 1, 1), (379, .aload_n 0, 1), (380, .getfield 276, 3), (383, .invokevirtual 300, 3), (386, .iconst 0, 1), (387, .ireturn, 1)]
set_option maxRecDepth 100000 in
theorem tkX12_qGoesOn_q3 : ∀ q ∈ tX12_qGoesOn_q3, decode cX12_qGoesOn q.1 = .ok q.2 := by decide +kernel
theorem vmX12_qGoesOn : zVM yX12_qGoesOn cX12_qGoesOn 2 (Option.some .boolean) 0 12 := ⟨kX12_qGoesOn, q_1879, q_75, q_162, ⟨_, rfl, rfl⟩, by decide +kernel, by decide⟩
set_option maxHeartbeats 2000000 in
set_option maxRecDepth 20000 in
theorem coX12_qGoesOn_J326 (l : Launch) (e : Nat) (he : 3 ≤ e) (v0 : Nat) : zCo l (e + 1) 0 0 iX12_qGoesOn 326 [(0, .ref v0)] [] (X12_qGoesOn_J326 v0) := by
  unfold X12_qGoesOn_J326
  refine zco_p tkX12_qGoesOn_q2 41 2 (pc' := 329) (L' := [(0, .ref v0)]) (S' := [.int 44, .ref v0]) rfl ?_
  refine zco_Vv (rc := 0) (rs := 0) (mc := 0) (ms := 0) (As := [.int 44]) (S := []) vmX12_asksSign (mtX12_asksSign l e (by omega) v0 44) q_1857 rfl rfl (Nat.le_of_ble_eq_true rfl) (zdk (cc := cX12_qGoesOn) (q := (329, .invokevirtual 390, 3)) tkX12_qGoesOn_q2 43 rfl) ?_
  refine zco_p tkX12_qGoesOn_q2 44 1 (pc' := 333) (L' := [(0, .ref v0)]) (S' := [.ref v0]) rfl ?_
  refine zco_gi fl_12_270 rfl (zdk (cc := cX12_qGoesOn) (q := (333, .getfield 270, 3)) tkX12_qGoesOn_q2 45 rfl) (fun x1 => ?_)
  refine zco_if_eq (tgt := 341) (zdk (cc := cX12_qGoesOn) (q := (336, .ifCond .eq 5, 3)) tkX12_qGoesOn_q2 46 rfl) rfl ?_ ?_
  · refine zco_p tkX12_qGoesOn_q2 49 1 (pc' := 342) (L' := [(0, .ref v0)]) (S' := [.ref v0]) rfl ?_
    refine zco_Vv (rc := 0) (rs := 0) (mc := 0) (ms := 0) (As := []) (S := []) vmX12_qDropsToBracket (mtX12_qDropsToBracket l e (by omega) v0) q_1888 rfl rfl (Nat.le_of_ble_eq_true rfl) (zdk (cc := cX12_qGoesOn) (q := (342, .invokevirtual 663, 3)) tkX12_qGoesOn_q2 50 rfl) ?_
    refine zco_p tkX12_qGoesOn_q2 51 1 (pc' := 346) (L' := [(0, .ref v0)]) (S' := [.ref v0]) rfl ?_
    refine zco_gr fl_12_258 rfl (zdk (cc := cX12_qGoesOn) (q := (346, .getfield 258, 3)) tkX12_qGoesOn_q2 52 rfl) (fun x2 => ?_)
    refine zco_p tkX12_qGoesOn_q2 53 1 (pc' := 350) (L' := [(0, .ref v0)]) (S' := [.ref v0, .ref x2]) rfl ?_
    refine zco_gi fl_12_356 rfl (zdk (cc := cX12_qGoesOn) (q := (350, .getfield 356, 3)) tkX12_qGoesOn_q2 54 rfl) (fun x3 => ?_)
    refine zco_p tkX12_qGoesOn_q2 55 3 (pc' := 356) (L' := [(0, .ref v0)]) (S' := [.int (x3 - 1), .ref x2, .int (x3 - 1), .ref x2]) rfl ?_
    refine zco_iaload (zdk (cc := cX12_qGoesOn) (q := (356, .iaload, 1)) tkX12_qGoesOn_q2 58 rfl) (fun x4 => ?_)
    refine zco_p tkX12_qGoesOn_q2 59 2 (pc' := 359) (L' := [(0, .ref v0)]) (S' := [.int (x4 + 2), .int (x3 - 1), .ref x2]) rfl ?_
    refine zco_iastore (zdk (cc := cX12_qGoesOn) (q := (359, .iastore, 1)) tkX12_qGoesOn_q2 61 rfl) ?_
    refine zco_p tkX12_qGoesOn_q2 62 1 (pc' := 361) (L' := [(0, .ref v0)]) (S' := [.int 1]) rfl ?_
    exact zco_zret rfl rfl rfl (zdk (cc := cX12_qGoesOn) (q := (361, .ireturn, 1)) tkX12_qGoesOn_q2 63 rfl)
  · refine zco_p tkX12_qGoesOn_q2 47 1 (pc' := 340) (L' := [(0, .ref v0)]) (S' := [.int 0]) rfl ?_
    exact zco_zret rfl rfl rfl (zdk (cc := cX12_qGoesOn) (q := (340, .ireturn, 1)) tkX12_qGoesOn_q2 48 rfl)
set_option maxHeartbeats 2000000 in
set_option maxRecDepth 20000 in
theorem coX12_qGoesOn_J286 (l : Launch) (e : Nat) (he : 3 ≤ e) (v0 : Nat) (v1 : Int32) : zCo l (e + 1) 0 0 iX12_qGoesOn 286 [(0, .ref v0), (1, .int v1)] [] (X12_qGoesOn_J286 v0 v1) := by
  unfold X12_qGoesOn_J286
  refine zco_p tkX12_qGoesOn_q2 19 1 (pc' := 287) (L' := [(0, .ref v0), (1, .int v1)]) (S' := [.ref v0]) rfl ?_
  refine zco_gr fl_12_258 rfl (zdk (cc := cX12_qGoesOn) (q := (287, .getfield 258, 3)) tkX12_qGoesOn_q2 20 rfl) (fun x1 => ?_)
  refine zco_p tkX12_qGoesOn_q2 21 1 (pc' := 291) (L' := [(0, .ref v0), (1, .int v1)]) (S' := [.ref v0, .ref x1]) rfl ?_
  refine zco_gi fl_12_356 rfl (zdk (cc := cX12_qGoesOn) (q := (291, .getfield 356, 3)) tkX12_qGoesOn_q2 22 rfl) (fun x2 => ?_)
  refine zco_p tkX12_qGoesOn_q2 23 1 (pc' := 295) (L' := [(0, .ref v0), (1, .int v1)]) (S' := [.int v1, .int x2, .ref x1]) rfl ?_
  refine zco_iastore (zdk (cc := cX12_qGoesOn) (q := (295, .iastore, 1)) tkX12_qGoesOn_q2 24 rfl) ?_
  refine zco_p tkX12_qGoesOn_q2 25 2 (pc' := 298) (L' := [(0, .ref v0), (1, .int v1)]) (S' := [.ref v0, .ref v0]) rfl ?_
  refine zco_gi fl_12_356 rfl (zdk (cc := cX12_qGoesOn) (q := (298, .getfield 356, 3)) tkX12_qGoesOn_q2 27 rfl) (fun x3 => ?_)
  refine zco_p tkX12_qGoesOn_q2 28 2 (pc' := 303) (L' := [(0, .ref v0), (1, .int v1)]) (S' := [.int (x3 + 1), .ref v0]) rfl ?_
  refine zco_pi fl_12_356 rfl rfl (zdk (cc := cX12_qGoesOn) (q := (303, .putfield 356, 3)) tkX12_qGoesOn_q2 30 rfl) ?_
  refine zco_p tkX12_qGoesOn_q2 31 1 (pc' := 307) (L' := [(0, .ref v0), (1, .int v1)]) (S' := [.int 1]) rfl ?_
  exact zco_zret rfl rfl rfl (zdk (cc := cX12_qGoesOn) (q := (307, .ireturn, 1)) tkX12_qGoesOn_q2 32 rfl)
set_option maxHeartbeats 2000000 in
set_option maxRecDepth 20000 in
theorem coX12_qGoesOn_J279 (l : Launch) (e : Nat) (he : 3 ≤ e) (v0 : Nat) (v1 : Int32) (r247 : Unit → zM) (hr247 : ∀ x : Unit, zCo l (e + 1) 0 0 iX12_qGoesOn 247 [(0, .ref v0), (1, .int v1)] [] (r247 x)) : zCo l (e + 1) 0 0 iX12_qGoesOn 279 [(0, .ref v0), (1, .int v1)] [] (X12_qGoesOn_J279 r247 v0 v1) := by
  unfold X12_qGoesOn_J279
  refine zco_p tkX12_qGoesOn_q2 16 1 (pc' := 280) (L' := [(0, .ref v0), (1, .int v1)]) (S' := [.ref v0]) rfl ?_
  refine zco_Vv (rc := 0) (rs := 0) (mc := 0) (ms := 0) (As := []) (S := []) vmX12_qDrops (mtX12_qDrops l e (by omega) v0) q_1873 rfl rfl (Nat.le_of_ble_eq_true rfl) (zdk (cc := cX12_qGoesOn) (q := (280, .invokevirtual 639, 3)) tkX12_qGoesOn_q2 17 rfl) ?_
  refine zco_p tkX12_qGoesOn_q2 18 1 (pc' := 247) (L' := [(0, .ref v0), (1, .int v1)]) (S' := []) rfl ?_
  exact zco_sub [0, 1] rfl (hr247 (()))
set_option maxHeartbeats 2000000 in
set_option maxRecDepth 20000 in
theorem coX12_qGoesOn_B247 (l : Launch) (e : Nat) (he : 3 ≤ e) (v0 : Nat) (v1 : Int32) (r247 : Unit → zM) (hr247 : ∀ x : Unit, zCo l (e + 1) 0 0 iX12_qGoesOn 247 [(0, .ref v0), (1, .int v1)] [] (r247 x)) : zCo l (e + 1) 0 0 iX12_qGoesOn 247 [(0, .ref v0), (1, .int v1)] [] (X12_qGoesOn_B247 v0 v1 r247) := by
  unfold X12_qGoesOn_B247
  refine zco_p tkX12_qGoesOn_q2 0 2 (pc' := 249) (L' := [(0, .ref v0), (1, .int v1)]) (S' := [.int 3, .ref v0]) rfl ?_
  refine zco_Vi (rc := 0) (rs := 0) (mc := 0) (ms := 0) (As := [.int 3]) (S := []) vmX12_qIsOn (mtX12_qIsOn l e (by omega) v0 3) q_1892 rfl rfl (Nat.le_of_ble_eq_true rfl) (zdk (cc := cX12_qGoesOn) (q := (249, .invokevirtual 666, 3)) tkX12_qGoesOn_q2 2 rfl) (fun y1 => ?_)
  refine zco_if_ne (tgt := 279) (zdk (cc := cX12_qGoesOn) (q := (252, .ifCond .ne 27, 3)) tkX12_qGoesOn_q2 3 rfl) rfl ?_ ?_
  · exact zco_sub [0, 1] rfl (coX12_qGoesOn_J279 l e he v0 v1 r247 hr247)
  · refine zco_p tkX12_qGoesOn_q2 4 2 (pc' := 257) (L' := [(0, .ref v0), (1, .int v1)]) (S' := [.int 4, .ref v0]) rfl ?_
    refine zco_Vi (rc := 0) (rs := 0) (mc := 0) (ms := 0) (As := [.int 4]) (S := []) vmX12_qIsOn (mtX12_qIsOn l e (by omega) v0 4) q_1892 rfl rfl (Nat.le_of_ble_eq_true rfl) (zdk (cc := cX12_qGoesOn) (q := (257, .invokevirtual 666, 3)) tkX12_qGoesOn_q2 6 rfl) (fun y2 => ?_)
    refine zco_if_ne (tgt := 279) (zdk (cc := cX12_qGoesOn) (q := (260, .ifCond .ne 19, 3)) tkX12_qGoesOn_q2 7 rfl) rfl ?_ ?_
    · exact zco_sub [0, 1] rfl (coX12_qGoesOn_J279 l e he v0 v1 r247 hr247)
    · refine zco_p tkX12_qGoesOn_q2 8 2 (pc' := 265) (L' := [(0, .ref v0), (1, .int v1)]) (S' := [.int 1, .ref v0]) rfl ?_
      refine zco_Vi (rc := 0) (rs := 0) (mc := 0) (ms := 0) (As := [.int 1]) (S := []) vmX12_qIsOn (mtX12_qIsOn l e (by omega) v0 1) q_1892 rfl rfl (Nat.le_of_ble_eq_true rfl) (zdk (cc := cX12_qGoesOn) (q := (265, .invokevirtual 666, 3)) tkX12_qGoesOn_q2 10 rfl) (fun y3 => ?_)
      refine zco_if_ne (tgt := 279) (zdk (cc := cX12_qGoesOn) (q := (268, .ifCond .ne 11, 3)) tkX12_qGoesOn_q2 11 rfl) rfl ?_ ?_
      · exact zco_sub [0, 1] rfl (coX12_qGoesOn_J279 l e he v0 v1 r247 hr247)
      · refine zco_p tkX12_qGoesOn_q2 12 2 (pc' := 273) (L' := [(0, .ref v0), (1, .int v1)]) (S' := [.int 2, .ref v0]) rfl ?_
        refine zco_Vi (rc := 0) (rs := 0) (mc := 0) (ms := 0) (As := [.int 2]) (S := []) vmX12_qIsOn (mtX12_qIsOn l e (by omega) v0 2) q_1892 rfl rfl (Nat.le_of_ble_eq_true rfl) (zdk (cc := cX12_qGoesOn) (q := (273, .invokevirtual 666, 3)) tkX12_qGoesOn_q2 14 rfl) (fun y4 => ?_)
        refine zco_if_eq (tgt := 286) (zdk (cc := cX12_qGoesOn) (q := (276, .ifCond .eq 10, 3)) tkX12_qGoesOn_q2 15 rfl) rfl ?_ ?_
        · exact zco_sub [0, 1] rfl (coX12_qGoesOn_J286 l e he v0 v1)
        · exact zco_sub [0, 1] rfl (coX12_qGoesOn_J279 l e he v0 v1 r247 hr247)
set_option maxHeartbeats 2000000 in
set_option maxRecDepth 20000 in
theorem coX12_qGoesOn_J246 (l : Launch) (e : Nat) (he : 3 ≤ e) (v0 : Nat) (s0 : Int32) : zCo l (e + 1) 0 0 iX12_qGoesOn 246 [(0, .ref v0)] [.int s0] (X12_qGoesOn_J246 v0 s0) := by
  unfold X12_qGoesOn_J246
  refine zco_p tkX12_qGoesOn_q1 63 1 (pc' := 247) (L' := [(1, .int s0), (0, .ref v0)]) (S' := []) rfl ?_
  exact zco_sub [1, 0] rfl (zco_fix (Lf := fun x : Unit => [(0, .ref v0), (1, .int s0)]) (Sf := fun _ => []) (fun r hr x => coX12_qGoesOn_B247 l e he v0 s0 r hr ) zFU (()))
set_option maxHeartbeats 2000000 in
set_option maxRecDepth 20000 in
theorem coX12_qGoesOn_J225 (l : Launch) (e : Nat) (he : 3 ≤ e) (v0 : Nat) : zCo l (e + 1) 0 0 iX12_qGoesOn 225 [(0, .ref v0)] [] (X12_qGoesOn_J225 v0) := by
  unfold X12_qGoesOn_J225
  refine zco_p tkX12_qGoesOn_q1 51 1 (pc' := 226) (L' := [(0, .ref v0)]) (S' := [.ref v0]) rfl ?_
  refine zco_gr fl_12_7 rfl (zdk (cc := cX12_qGoesOn) (q := (226, .getfield 7, 3)) tkX12_qGoesOn_q1 52 rfl) (fun x1 => ?_)
  refine zco_p tkX12_qGoesOn_q1 53 1 (pc' := 230) (L' := [(0, .ref v0)]) (S' := [.ref v0, .ref x1]) rfl ?_
  refine zco_gi fl_12_276 rfl (zdk (cc := cX12_qGoesOn) (q := (230, .getfield 276, 3)) tkX12_qGoesOn_q1 54 rfl) (fun x2 => ?_)
  refine zco_p tkX12_qGoesOn_q1 55 2 (pc' := 235) (L' := [(0, .ref v0)]) (S' := [.int (x2 - 1), .ref x1]) rfl ?_
  refine zco_iaload (zdk (cc := cX12_qGoesOn) (q := (235, .iaload, 1)) tkX12_qGoesOn_q1 57 rfl) (fun x3 => ?_)
  refine zco_p tkX12_qGoesOn_q1 58 1 (pc' := 238) (L' := [(0, .ref v0)]) (S' := [.int 43, .int x3]) rfl ?_
  refine zco_icmp_ne (tgt := 245) (zdk (cc := cX12_qGoesOn) (q := (238, .if_icmp .ne 7, 3)) tkX12_qGoesOn_q1 59 rfl) rfl ?_ ?_
  · refine zco_p tkX12_qGoesOn_q1 62 1 (pc' := 246) (L' := [(0, .ref v0)]) (S' := [.int 2]) rfl ?_
    exact zco_sub [0] rfl (coX12_qGoesOn_J246 l e he v0 2)
  · refine zco_p tkX12_qGoesOn_q1 60 2 (pc' := 246) (L' := [(0, .ref v0)]) (S' := [.int 1]) rfl ?_
    exact zco_sub [0] rfl (coX12_qGoesOn_J246 l e he v0 1)
set_option maxHeartbeats 2000000 in
set_option maxRecDepth 20000 in
theorem coX12_qGoesOn_J185 (l : Launch) (e : Nat) (he : 3 ≤ e) (v0 : Nat) (v1 : Int32) : zCo l (e + 1) 0 0 iX12_qGoesOn 185 [(0, .ref v0), (1, .int v1)] [] (X12_qGoesOn_J185 v0 v1) := by
  unfold X12_qGoesOn_J185
  refine zco_p tkX12_qGoesOn_q1 29 1 (pc' := 186) (L' := [(0, .ref v0), (1, .int v1)]) (S' := [.ref v0]) rfl ?_
  refine zco_gr fl_12_258 rfl (zdk (cc := cX12_qGoesOn) (q := (186, .getfield 258, 3)) tkX12_qGoesOn_q1 30 rfl) (fun x1 => ?_)
  refine zco_p tkX12_qGoesOn_q1 31 1 (pc' := 190) (L' := [(0, .ref v0), (1, .int v1)]) (S' := [.ref v0, .ref x1]) rfl ?_
  refine zco_gi fl_12_356 rfl (zdk (cc := cX12_qGoesOn) (q := (190, .getfield 356, 3)) tkX12_qGoesOn_q1 32 rfl) (fun x2 => ?_)
  refine zco_p tkX12_qGoesOn_q1 33 1 (pc' := 194) (L' := [(0, .ref v0), (1, .int v1)]) (S' := [.int v1, .int x2, .ref x1]) rfl ?_
  refine zco_iastore (zdk (cc := cX12_qGoesOn) (q := (194, .iastore, 1)) tkX12_qGoesOn_q1 34 rfl) ?_
  refine zco_p tkX12_qGoesOn_q1 35 2 (pc' := 197) (L' := [(0, .ref v0), (1, .int v1)]) (S' := [.ref v0, .ref v0]) rfl ?_
  refine zco_gi fl_12_356 rfl (zdk (cc := cX12_qGoesOn) (q := (197, .getfield 356, 3)) tkX12_qGoesOn_q1 37 rfl) (fun x3 => ?_)
  refine zco_p tkX12_qGoesOn_q1 38 2 (pc' := 202) (L' := [(0, .ref v0), (1, .int v1)]) (S' := [.int (x3 + 1), .ref v0]) rfl ?_
  refine zco_pi fl_12_356 rfl rfl (zdk (cc := cX12_qGoesOn) (q := (202, .putfield 356, 3)) tkX12_qGoesOn_q1 40 rfl) ?_
  refine zco_p tkX12_qGoesOn_q1 41 1 (pc' := 206) (L' := [(0, .ref v0), (1, .int v1)]) (S' := [.int 1]) rfl ?_
  exact zco_zret rfl rfl rfl (zdk (cc := cX12_qGoesOn) (q := (206, .ireturn, 1)) tkX12_qGoesOn_q1 42 rfl)
set_option maxHeartbeats 2000000 in
set_option maxRecDepth 20000 in
theorem coX12_qGoesOn_J178 (l : Launch) (e : Nat) (he : 3 ≤ e) (v0 : Nat) (v1 : Int32) (r162 : Unit → zM) (hr162 : ∀ x : Unit, zCo l (e + 1) 0 0 iX12_qGoesOn 162 [(0, .ref v0), (1, .int v1)] [] (r162 x)) : zCo l (e + 1) 0 0 iX12_qGoesOn 178 [(0, .ref v0), (1, .int v1)] [] (X12_qGoesOn_J178 r162 v0 v1) := by
  unfold X12_qGoesOn_J178
  refine zco_p tkX12_qGoesOn_q1 26 1 (pc' := 179) (L' := [(0, .ref v0), (1, .int v1)]) (S' := [.ref v0]) rfl ?_
  refine zco_Vv (rc := 0) (rs := 0) (mc := 0) (ms := 0) (As := []) (S := []) vmX12_qDrops (mtX12_qDrops l e (by omega) v0) q_1873 rfl rfl (Nat.le_of_ble_eq_true rfl) (zdk (cc := cX12_qGoesOn) (q := (179, .invokevirtual 639, 3)) tkX12_qGoesOn_q1 27 rfl) ?_
  refine zco_p tkX12_qGoesOn_q1 28 1 (pc' := 162) (L' := [(0, .ref v0), (1, .int v1)]) (S' := []) rfl ?_
  exact zco_sub [0, 1] rfl (hr162 (()))
set_option maxHeartbeats 2000000 in
set_option maxRecDepth 20000 in
theorem coX12_qGoesOn_B162 (l : Launch) (e : Nat) (he : 3 ≤ e) (v0 : Nat) (v1 : Int32) (r162 : Unit → zM) (hr162 : ∀ x : Unit, zCo l (e + 1) 0 0 iX12_qGoesOn 162 [(0, .ref v0), (1, .int v1)] [] (r162 x)) : zCo l (e + 1) 0 0 iX12_qGoesOn 162 [(0, .ref v0), (1, .int v1)] [] (X12_qGoesOn_B162 v0 v1 r162) := by
  unfold X12_qGoesOn_B162
  refine zco_p tkX12_qGoesOn_q1 18 2 (pc' := 164) (L' := [(0, .ref v0), (1, .int v1)]) (S' := [.int 3, .ref v0]) rfl ?_
  refine zco_Vi (rc := 0) (rs := 0) (mc := 0) (ms := 0) (As := [.int 3]) (S := []) vmX12_qIsOn (mtX12_qIsOn l e (by omega) v0 3) q_1892 rfl rfl (Nat.le_of_ble_eq_true rfl) (zdk (cc := cX12_qGoesOn) (q := (164, .invokevirtual 666, 3)) tkX12_qGoesOn_q1 20 rfl) (fun y1 => ?_)
  refine zco_if_ne (tgt := 178) (zdk (cc := cX12_qGoesOn) (q := (167, .ifCond .ne 11, 3)) tkX12_qGoesOn_q1 21 rfl) rfl ?_ ?_
  · exact zco_sub [0, 1] rfl (coX12_qGoesOn_J178 l e he v0 v1 r162 hr162)
  · refine zco_p tkX12_qGoesOn_q1 22 2 (pc' := 172) (L' := [(0, .ref v0), (1, .int v1)]) (S' := [.int 4, .ref v0]) rfl ?_
    refine zco_Vi (rc := 0) (rs := 0) (mc := 0) (ms := 0) (As := [.int 4]) (S := []) vmX12_qIsOn (mtX12_qIsOn l e (by omega) v0 4) q_1892 rfl rfl (Nat.le_of_ble_eq_true rfl) (zdk (cc := cX12_qGoesOn) (q := (172, .invokevirtual 666, 3)) tkX12_qGoesOn_q1 24 rfl) (fun y2 => ?_)
    refine zco_if_eq (tgt := 185) (zdk (cc := cX12_qGoesOn) (q := (175, .ifCond .eq 10, 3)) tkX12_qGoesOn_q1 25 rfl) rfl ?_ ?_
    · exact zco_sub [0, 1] rfl (coX12_qGoesOn_J185 l e he v0 v1)
    · exact zco_sub [0, 1] rfl (coX12_qGoesOn_J178 l e he v0 v1 r162 hr162)
set_option maxHeartbeats 2000000 in
set_option maxRecDepth 20000 in
theorem coX12_qGoesOn_J161 (l : Launch) (e : Nat) (he : 3 ≤ e) (v0 : Nat) (s0 : Int32) : zCo l (e + 1) 0 0 iX12_qGoesOn 161 [(0, .ref v0)] [.int s0] (X12_qGoesOn_J161 v0 s0) := by
  unfold X12_qGoesOn_J161
  refine zco_p tkX12_qGoesOn_q1 17 1 (pc' := 162) (L' := [(1, .int s0), (0, .ref v0)]) (S' := []) rfl ?_
  exact zco_sub [1, 0] rfl (zco_fix (Lf := fun x : Unit => [(0, .ref v0), (1, .int s0)]) (Sf := fun _ => []) (fun r hr x => coX12_qGoesOn_B162 l e he v0 s0 r hr ) zFU (()))
set_option maxHeartbeats 2000000 in
set_option maxRecDepth 20000 in
theorem coX12_qGoesOn_J140 (l : Launch) (e : Nat) (he : 3 ≤ e) (v0 : Nat) : zCo l (e + 1) 0 0 iX12_qGoesOn 140 [(0, .ref v0)] [] (X12_qGoesOn_J140 v0) := by
  unfold X12_qGoesOn_J140
  refine zco_p tkX12_qGoesOn_q1 5 1 (pc' := 141) (L' := [(0, .ref v0)]) (S' := [.ref v0]) rfl ?_
  refine zco_gr fl_12_7 rfl (zdk (cc := cX12_qGoesOn) (q := (141, .getfield 7, 3)) tkX12_qGoesOn_q1 6 rfl) (fun x1 => ?_)
  refine zco_p tkX12_qGoesOn_q1 7 1 (pc' := 145) (L' := [(0, .ref v0)]) (S' := [.ref v0, .ref x1]) rfl ?_
  refine zco_gi fl_12_276 rfl (zdk (cc := cX12_qGoesOn) (q := (145, .getfield 276, 3)) tkX12_qGoesOn_q1 8 rfl) (fun x2 => ?_)
  refine zco_p tkX12_qGoesOn_q1 9 2 (pc' := 150) (L' := [(0, .ref v0)]) (S' := [.int (x2 - 1), .ref x1]) rfl ?_
  refine zco_iaload (zdk (cc := cX12_qGoesOn) (q := (150, .iaload, 1)) tkX12_qGoesOn_q1 11 rfl) (fun x3 => ?_)
  refine zco_p tkX12_qGoesOn_q1 12 1 (pc' := 153) (L' := [(0, .ref v0)]) (S' := [.int 42, .int x3]) rfl ?_
  refine zco_icmp_ne (tgt := 160) (zdk (cc := cX12_qGoesOn) (q := (153, .if_icmp .ne 7, 3)) tkX12_qGoesOn_q1 13 rfl) rfl ?_ ?_
  · refine zco_p tkX12_qGoesOn_q1 16 1 (pc' := 161) (L' := [(0, .ref v0)]) (S' := [.int 4]) rfl ?_
    exact zco_sub [0] rfl (coX12_qGoesOn_J161 l e he v0 4)
  · refine zco_p tkX12_qGoesOn_q1 14 2 (pc' := 161) (L' := [(0, .ref v0)]) (S' := [.int 3]) rfl ?_
    exact zco_sub [0] rfl (coX12_qGoesOn_J161 l e he v0 3)
set_option maxHeartbeats 2000000 in
set_option maxRecDepth 20000 in
theorem coX12_qGoesOn_J122 (l : Launch) (e : Nat) (he : 3 ≤ e) (v0 : Nat) : zCo l (e + 1) 0 0 iX12_qGoesOn 122 [(0, .ref v0)] [] (X12_qGoesOn_J122 v0) := by
  unfold X12_qGoesOn_J122
  refine zco_p tkX12_qGoesOn_q0 61 2 (pc' := 125) (L' := [(0, .ref v0)]) (S' := [.int 42, .ref v0]) rfl ?_
  refine zco_Vi (rc := 0) (rs := 0) (mc := 0) (ms := 0) (As := [.int 42]) (S := []) vmX12_takesSign (mtX12_takesSign l e (by omega) v0 42) q_1861 rfl rfl (Nat.le_of_ble_eq_true rfl) (zdk (cc := cX12_qGoesOn) (q := (125, .invokevirtual 304, 3)) tkX12_qGoesOn_q0 63 rfl) (fun y1 => ?_)
  refine zco_if_ne (tgt := 140) (zdk (cc := cX12_qGoesOn) (q := (128, .ifCond .ne 12, 3)) tkX12_qGoesOn_q1 0 rfl) rfl ?_ ?_
  · exact zco_sub [0] rfl (coX12_qGoesOn_J140 l e he v0)
  · refine zco_p tkX12_qGoesOn_q1 1 2 (pc' := 134) (L' := [(0, .ref v0)]) (S' := [.int 47, .ref v0]) rfl ?_
    refine zco_Vi (rc := 0) (rs := 0) (mc := 0) (ms := 0) (As := [.int 47]) (S := []) vmX12_takesSign (mtX12_takesSign l e (by omega) v0 47) q_1861 rfl rfl (Nat.le_of_ble_eq_true rfl) (zdk (cc := cX12_qGoesOn) (q := (134, .invokevirtual 304, 3)) tkX12_qGoesOn_q1 3 rfl) (fun y2 => ?_)
    refine zco_if_eq (tgt := 207) (zdk (cc := cX12_qGoesOn) (q := (137, .ifCond .eq 70, 3)) tkX12_qGoesOn_q1 4 rfl) rfl ?_ ?_
    · refine zco_p tkX12_qGoesOn_q1 43 2 (pc' := 210) (L' := [(0, .ref v0)]) (S' := [.int 43, .ref v0]) rfl ?_
      refine zco_Vi (rc := 0) (rs := 0) (mc := 0) (ms := 0) (As := [.int 43]) (S := []) vmX12_takesSign (mtX12_takesSign l e (by omega) v0 43) q_1861 rfl rfl (Nat.le_of_ble_eq_true rfl) (zdk (cc := cX12_qGoesOn) (q := (210, .invokevirtual 304, 3)) tkX12_qGoesOn_q1 45 rfl) (fun y3 => ?_)
      refine zco_if_ne (tgt := 225) (zdk (cc := cX12_qGoesOn) (q := (213, .ifCond .ne 12, 3)) tkX12_qGoesOn_q1 46 rfl) rfl ?_ ?_
      · exact zco_sub [0] rfl (coX12_qGoesOn_J225 l e he v0)
      · refine zco_p tkX12_qGoesOn_q1 47 2 (pc' := 219) (L' := [(0, .ref v0)]) (S' := [.int 45, .ref v0]) rfl ?_
        refine zco_Vi (rc := 0) (rs := 0) (mc := 0) (ms := 0) (As := [.int 45]) (S := []) vmX12_takesSign (mtX12_takesSign l e (by omega) v0 45) q_1861 rfl rfl (Nat.le_of_ble_eq_true rfl) (zdk (cc := cX12_qGoesOn) (q := (219, .invokevirtual 304, 3)) tkX12_qGoesOn_q1 49 rfl) (fun y4 => ?_)
        refine zco_if_eq (tgt := 308) (zdk (cc := cX12_qGoesOn) (q := (222, .ifCond .eq 86, 3)) tkX12_qGoesOn_q1 50 rfl) rfl ?_ ?_
        · refine zco_p tkX12_qGoesOn_q2 33 1 (pc' := 309) (L' := [(0, .ref v0)]) (S' := [.ref v0]) rfl ?_
          refine zco_Vi (rc := 0) (rs := 0) (mc := 0) (ms := 0) (As := []) (S := []) vmX12_qBracket (mtX12_qBracket l e (by omega) v0) q_1881 rfl rfl (Nat.le_of_ble_eq_true rfl) (zdk (cc := cX12_qGoesOn) (q := (309, .invokevirtual 660, 3)) tkX12_qGoesOn_q2 34 rfl) (fun y5 => ?_)
          refine zco_p tkX12_qGoesOn_q2 35 1 (pc' := 314) (L' := [(0, .ref v0)]) (S' := [.int 21, .int y5]) rfl ?_
          refine zco_icmp_eq (tgt := 326) (zdk (cc := cX12_qGoesOn) (q := (314, .if_icmp .eq 12, 3)) tkX12_qGoesOn_q2 36 rfl) rfl ?_ ?_
          · exact zco_sub [0] rfl (coX12_qGoesOn_J326 l e he v0)
          · refine zco_p tkX12_qGoesOn_q2 37 1 (pc' := 318) (L' := [(0, .ref v0)]) (S' := [.ref v0]) rfl ?_
            refine zco_Vi (rc := 0) (rs := 0) (mc := 0) (ms := 0) (As := []) (S := []) vmX12_qBracket (mtX12_qBracket l e (by omega) v0) q_1881 rfl rfl (Nat.le_of_ble_eq_true rfl) (zdk (cc := cX12_qGoesOn) (q := (318, .invokevirtual 660, 3)) tkX12_qGoesOn_q2 38 rfl) (fun y6 => ?_)
            refine zco_p tkX12_qGoesOn_q2 39 1 (pc' := 323) (L' := [(0, .ref v0)]) (S' := [.int 22, .int y6]) rfl ?_
            refine zco_icmp_ne (tgt := 362) (zdk (cc := cX12_qGoesOn) (q := (323, .if_icmp .ne 39, 3)) tkX12_qGoesOn_q2 40 rfl) rfl ?_ ?_
            · refine zco_p tkX12_qGoesOn_q3 0 1 (pc' := 363) (L' := [(0, .ref v0)]) (S' := [.ref v0]) rfl ?_
              refine zco_Vi (rc := 0) (rs := 0) (mc := 0) (ms := 0) (As := []) (S := []) vmX12_qBracket (mtX12_qBracket l e (by omega) v0) q_1881 rfl rfl (Nat.le_of_ble_eq_true rfl) (zdk (cc := cX12_qGoesOn) (q := (363, .invokevirtual 660, 3)) tkX12_qGoesOn_q3 1 rfl) (fun y7 => ?_)
              refine zco_p tkX12_qGoesOn_q3 2 1 (pc' := 367) (L' := [(0, .ref v0)]) (S' := [.int ((-1)), .int y7]) rfl ?_
              refine zco_icmp_eq (tgt := 386) (zdk (cc := cX12_qGoesOn) (q := (367, .if_icmp .eq 19, 3)) tkX12_qGoesOn_q3 3 rfl) rfl ?_ ?_
              · refine zco_p tkX12_qGoesOn_q3 12 1 (pc' := 387) (L' := [(0, .ref v0)]) (S' := [.int 0]) rfl ?_
                exact zco_zret rfl rfl rfl (zdk (cc := cX12_qGoesOn) (q := (387, .ireturn, 1)) tkX12_qGoesOn_q3 13 rfl)
              · refine zco_p tkX12_qGoesOn_q3 4 1 (pc' := 371) (L' := [(0, .ref v0)]) (S' := [.ref v0]) rfl ?_
                refine zco_gi fl_12_270 rfl (zdk (cc := cX12_qGoesOn) (q := (371, .getfield 270, 3)) tkX12_qGoesOn_q3 5 rfl) (fun x8 => ?_)
                refine zco_if_ne (tgt := 386) (zdk (cc := cX12_qGoesOn) (q := (374, .ifCond .ne 12, 3)) tkX12_qGoesOn_q3 6 rfl) rfl ?_ ?_
                · refine zco_p tkX12_qGoesOn_q3 12 1 (pc' := 387) (L' := [(0, .ref v0)]) (S' := [.int 0]) rfl ?_
                  exact zco_zret rfl rfl rfl (zdk (cc := cX12_qGoesOn) (q := (387, .ireturn, 1)) tkX12_qGoesOn_q3 13 rfl)
                · refine zco_p tkX12_qGoesOn_q3 7 3 (pc' := 380) (L' := [(0, .ref v0)]) (S' := [.ref v0, .int 1, .ref v0]) rfl ?_
                  refine zco_gi fl_12_276 rfl (zdk (cc := cX12_qGoesOn) (q := (380, .getfield 276, 3)) tkX12_qGoesOn_q3 10 rfl) (fun x9 => ?_)
                  refine zco_Vv (rc := 0) (rs := 0) (mc := 0) (ms := 0) (As := [.int 1, .int x9]) (S := []) vmX12_fail (mtX12_fail l e (by omega) v0 1 x9) q_1759 rfl rfl (Nat.le_of_ble_eq_true rfl) (zdk (cc := cX12_qGoesOn) (q := (383, .invokevirtual 300, 3)) tkX12_qGoesOn_q3 11 rfl) ?_
                  refine zco_p tkX12_qGoesOn_q3 12 1 (pc' := 387) (L' := [(0, .ref v0)]) (S' := [.int 0]) rfl ?_
                  exact zco_zret rfl rfl rfl (zdk (cc := cX12_qGoesOn) (q := (387, .ireturn, 1)) tkX12_qGoesOn_q3 13 rfl)
            · exact zco_sub [0] rfl (coX12_qGoesOn_J326 l e he v0)
        · exact zco_sub [0] rfl (coX12_qGoesOn_J225 l e he v0)
    · exact zco_sub [0] rfl (coX12_qGoesOn_J140 l e he v0)
set_option maxHeartbeats 2000000 in
set_option maxRecDepth 20000 in
theorem coX12_qGoesOn_J115 (l : Launch) (e : Nat) (he : 3 ≤ e) (v0 : Nat) (r0 : Unit → zM) (hr0 : ∀ x : Unit, zCo l (e + 1) 0 0 iX12_qGoesOn 0 [(0, .ref v0)] [] (r0 x)) : zCo l (e + 1) 0 0 iX12_qGoesOn 115 [(0, .ref v0)] [] (X12_qGoesOn_J115 r0 v0) := by
  unfold X12_qGoesOn_J115
  refine zco_p tkX12_qGoesOn_q0 58 1 (pc' := 116) (L' := [(0, .ref v0)]) (S' := [.ref v0]) rfl ?_
  refine zco_Vv (rc := 0) (rs := 0) (mc := 0) (ms := 0) (As := []) (S := []) vmX12_qEndsPart (mtX12_qEndsPart l e (by omega) v0) q_1869 rfl rfl (Nat.le_of_ble_eq_true rfl) (zdk (cc := cX12_qGoesOn) (q := (116, .invokevirtual 657, 3)) tkX12_qGoesOn_q0 59 rfl) ?_
  refine zco_p tkX12_qGoesOn_q0 60 1 (pc' := 0) (L' := [(0, .ref v0)]) (S' := []) rfl ?_
  exact zco_sub [0] rfl (hr0 (()))
set_option maxHeartbeats 2000000 in
set_option maxRecDepth 20000 in
theorem coX12_qGoesOn_J112 (l : Launch) (e : Nat) (he : 3 ≤ e) (v0 : Nat) (r0 : Unit → zM) (hr0 : ∀ x : Unit, zCo l (e + 1) 0 0 iX12_qGoesOn 0 [(0, .ref v0)] [] (r0 x)) (s0 : Int32) (s1 : Nat) : zCo l (e + 1) 0 0 iX12_qGoesOn 112 [(0, .ref v0)] [.int s0, .ref s1] (X12_qGoesOn_J112 r0 v0 s0 s1) := by
  unfold X12_qGoesOn_J112
  refine zco_Vv (rc := 0) (rs := 0) (mc := 0) (ms := 0) (As := [.int s0]) (S := []) vmX12_qCode (mtX12_qCode l e (by omega) s1 s0) q_1830 rfl rfl (Nat.le_of_ble_eq_true rfl) (zdk (cc := cX12_qGoesOn) (q := (112, .invokevirtual 633, 3)) tkX12_qGoesOn_q0 57 rfl) ?_
  exact zco_sub [0] rfl (coX12_qGoesOn_J115 l e he v0 r0 hr0)
set_option maxHeartbeats 2000000 in
set_option maxRecDepth 20000 in
theorem coX12_qGoesOn_J43 (l : Launch) (e : Nat) (he : 3 ≤ e) (v0 : Nat) (r0 : Unit → zM) (hr0 : ∀ x : Unit, zCo l (e + 1) 0 0 iX12_qGoesOn 0 [(0, .ref v0)] [] (r0 x)) : zCo l (e + 1) 0 0 iX12_qGoesOn 43 [(0, .ref v0)] [] (X12_qGoesOn_J43 r0 v0) := by
  unfold X12_qGoesOn_J43
  refine zco_p tkX12_qGoesOn_q0 19 2 (pc' := 45) (L' := [(0, .ref v0)]) (S' := [.ref v0, .ref v0]) rfl ?_
  refine zco_gi fl_12_276 rfl (zdk (cc := cX12_qGoesOn) (q := (45, .getfield 276, 3)) tkX12_qGoesOn_q0 21 rfl) (fun x1 => ?_)
  refine zco_p tkX12_qGoesOn_q0 22 2 (pc' := 50) (L' := [(0, .ref v0)]) (S' := [.int (x1 + 1), .ref v0]) rfl ?_
  refine zco_pi fl_12_276 rfl rfl (zdk (cc := cX12_qGoesOn) (q := (50, .putfield 276, 3)) tkX12_qGoesOn_q0 24 rfl) ?_
  refine zco_p tkX12_qGoesOn_q0 25 1 (pc' := 54) (L' := [(0, .ref v0)]) (S' := [.ref v0]) rfl ?_
  refine zco_Vv (rc := 0) (rs := 0) (mc := 0) (ms := 0) (As := []) (S := []) vmX12_qDropsToBracket (mtX12_qDropsToBracket l e (by omega) v0) q_1888 rfl rfl (Nat.le_of_ble_eq_true rfl) (zdk (cc := cX12_qGoesOn) (q := (54, .invokevirtual 663, 3)) tkX12_qGoesOn_q0 26 rfl) ?_
  refine zco_p tkX12_qGoesOn_q0 27 2 (pc' := 59) (L' := [(0, .ref v0)]) (S' := [.ref v0, .ref v0]) rfl ?_
  refine zco_gi fl_12_356 rfl (zdk (cc := cX12_qGoesOn) (q := (59, .getfield 356, 3)) tkX12_qGoesOn_q0 29 rfl) (fun x2 => ?_)
  refine zco_p tkX12_qGoesOn_q0 30 2 (pc' := 64) (L' := [(0, .ref v0)]) (S' := [.int (x2 - 1), .ref v0]) rfl ?_
  refine zco_pi fl_12_356 rfl rfl (zdk (cc := cX12_qGoesOn) (q := (64, .putfield 356, 3)) tkX12_qGoesOn_q0 32 rfl) ?_
  refine zco_p tkX12_qGoesOn_q0 33 2 (pc' := 69) (L' := [(0, .ref v0)]) (S' := [.ref v0, .ref v0]) rfl ?_
  refine zco_gi fl_12_359 rfl (zdk (cc := cX12_qGoesOn) (q := (69, .getfield 359, 3)) tkX12_qGoesOn_q0 35 rfl) (fun x3 => ?_)
  refine zco_p tkX12_qGoesOn_q0 36 2 (pc' := 74) (L' := [(0, .ref v0)]) (S' := [.int (x3 - 1), .ref v0]) rfl ?_
  refine zco_pi fl_12_359 rfl rfl (zdk (cc := cX12_qGoesOn) (q := (74, .putfield 359, 3)) tkX12_qGoesOn_q0 38 rfl) ?_
  refine zco_p tkX12_qGoesOn_q0 39 1 (pc' := 78) (L' := [(0, .ref v0)]) (S' := [.ref v0]) rfl ?_
  refine zco_gr fl_12_258 rfl (zdk (cc := cX12_qGoesOn) (q := (78, .getfield 258, 3)) tkX12_qGoesOn_q0 40 rfl) (fun x4 => ?_)
  refine zco_p tkX12_qGoesOn_q0 41 1 (pc' := 82) (L' := [(0, .ref v0)]) (S' := [.ref v0, .ref x4]) rfl ?_
  refine zco_gi fl_12_356 rfl (zdk (cc := cX12_qGoesOn) (q := (82, .getfield 356, 3)) tkX12_qGoesOn_q0 42 rfl) (fun x5 => ?_)
  refine zco_iaload (zdk (cc := cX12_qGoesOn) (q := (85, .iaload, 1)) tkX12_qGoesOn_q0 43 rfl) (fun x6 => ?_)
  refine zco_p tkX12_qGoesOn_q0 44 1 (pc' := 88) (L' := [(0, .ref v0)]) (S' := [.int 20, .int x6]) rfl ?_
  refine zco_icmp_eq (tgt := 115) (zdk (cc := cX12_qGoesOn) (q := (88, .if_icmp .eq 27, 3)) tkX12_qGoesOn_q0 45 rfl) rfl ?_ ?_
  · exact zco_sub [0] rfl (coX12_qGoesOn_J115 l e he v0 r0 hr0)
  · refine zco_p tkX12_qGoesOn_q0 46 2 (pc' := 93) (L' := [(0, .ref v0)]) (S' := [.ref v0, .ref v0]) rfl ?_
    refine zco_gr fl_12_258 rfl (zdk (cc := cX12_qGoesOn) (q := (93, .getfield 258, 3)) tkX12_qGoesOn_q0 48 rfl) (fun x7 => ?_)
    refine zco_p tkX12_qGoesOn_q0 49 1 (pc' := 97) (L' := [(0, .ref v0)]) (S' := [.ref v0, .ref x7, .ref v0]) rfl ?_
    refine zco_gi fl_12_356 rfl (zdk (cc := cX12_qGoesOn) (q := (97, .getfield 356, 3)) tkX12_qGoesOn_q0 50 rfl) (fun x8 => ?_)
    refine zco_iaload (zdk (cc := cX12_qGoesOn) (q := (100, .iaload, 1)) tkX12_qGoesOn_q0 51 rfl) (fun x9 => ?_)
    refine zco_p tkX12_qGoesOn_q0 52 1 (pc' := 103) (L' := [(0, .ref v0)]) (S' := [.int 23, .int x9, .ref v0]) rfl ?_
    refine zco_icmp_ne (tgt := 110) (zdk (cc := cX12_qGoesOn) (q := (103, .if_icmp .ne 7, 3)) tkX12_qGoesOn_q0 53 rfl) rfl ?_ ?_
    · refine zco_p tkX12_qGoesOn_q0 56 1 (pc' := 112) (L' := [(0, .ref v0)]) (S' := [.int 6, .ref v0]) rfl ?_
      exact zco_sub [0] rfl (coX12_qGoesOn_J112 l e he v0 r0 hr0 6 v0)
    · refine zco_p tkX12_qGoesOn_q0 54 2 (pc' := 112) (L' := [(0, .ref v0)]) (S' := [.int 5, .ref v0]) rfl ?_
      exact zco_sub [0] rfl (coX12_qGoesOn_J112 l e he v0 r0 hr0 5 v0)
set_option maxHeartbeats 2000000 in
set_option maxRecDepth 20000 in
theorem coX12_qGoesOn_B0 (l : Launch) (e : Nat) (he : 3 ≤ e) (v0 : Nat) (r0 : Unit → zM) (hr0 : ∀ x : Unit, zCo l (e + 1) 0 0 iX12_qGoesOn 0 [(0, .ref v0)] [] (r0 x)) : zCo l (e + 1) 0 0 iX12_qGoesOn 0 [(0, .ref v0)] [] (X12_qGoesOn_B0 v0 r0) := by
  unfold X12_qGoesOn_B0
  refine zco_p tkX12_qGoesOn_q0 0 1 (pc' := 1) (L' := [(0, .ref v0)]) (S' := [.ref v0]) rfl ?_
  refine zco_gi fl_12_270 rfl (zdk (cc := cX12_qGoesOn) (q := (1, .getfield 270, 3)) tkX12_qGoesOn_q0 1 rfl) (fun x1 => ?_)
  refine zco_if_ne (tgt := 122) (zdk (cc := cX12_qGoesOn) (q := (4, .ifCond .ne 118, 3)) tkX12_qGoesOn_q0 2 rfl) rfl ?_ ?_
  · exact zco_sub [0] rfl (coX12_qGoesOn_J122 l e he v0)
  · refine zco_p tkX12_qGoesOn_q0 3 1 (pc' := 8) (L' := [(0, .ref v0)]) (S' := [.ref v0]) rfl ?_
    refine zco_Vi (rc := 0) (rs := 0) (mc := 0) (ms := 0) (As := []) (S := []) vmX12_look (mtX12_look l e (by omega) v0) q_1751 rfl rfl (Nat.le_of_ble_eq_true rfl) (zdk (cc := cX12_qGoesOn) (q := (8, .invokevirtual 282, 3)) tkX12_qGoesOn_q0 4 rfl) (fun y2 => ?_)
    refine zco_p tkX12_qGoesOn_q0 5 1 (pc' := 13) (L' := [(0, .ref v0)]) (S' := [.int 41, .int y2]) rfl ?_
    refine zco_icmp_ne (tgt := 122) (zdk (cc := cX12_qGoesOn) (q := (13, .if_icmp .ne 109, 3)) tkX12_qGoesOn_q0 6 rfl) rfl ?_ ?_
    · exact zco_sub [0] rfl (coX12_qGoesOn_J122 l e he v0)
    · refine zco_p tkX12_qGoesOn_q0 7 1 (pc' := 17) (L' := [(0, .ref v0)]) (S' := [.ref v0]) rfl ?_
      refine zco_Vi (rc := 0) (rs := 0) (mc := 0) (ms := 0) (As := []) (S := []) vmX12_qBracket (mtX12_qBracket l e (by omega) v0) q_1881 rfl rfl (Nat.le_of_ble_eq_true rfl) (zdk (cc := cX12_qGoesOn) (q := (17, .invokevirtual 660, 3)) tkX12_qGoesOn_q0 8 rfl) (fun y3 => ?_)
      refine zco_p tkX12_qGoesOn_q0 9 1 (pc' := 22) (L' := [(0, .ref v0)]) (S' := [.int 20, .int y3]) rfl ?_
      refine zco_icmp_eq (tgt := 43) (zdk (cc := cX12_qGoesOn) (q := (22, .if_icmp .eq 21, 3)) tkX12_qGoesOn_q0 10 rfl) rfl ?_ ?_
      · exact zco_sub [0] rfl (coX12_qGoesOn_J43 l e he v0 r0 hr0)
      · refine zco_p tkX12_qGoesOn_q0 11 1 (pc' := 26) (L' := [(0, .ref v0)]) (S' := [.ref v0]) rfl ?_
        refine zco_Vi (rc := 0) (rs := 0) (mc := 0) (ms := 0) (As := []) (S := []) vmX12_qBracket (mtX12_qBracket l e (by omega) v0) q_1881 rfl rfl (Nat.le_of_ble_eq_true rfl) (zdk (cc := cX12_qGoesOn) (q := (26, .invokevirtual 660, 3)) tkX12_qGoesOn_q0 12 rfl) (fun y4 => ?_)
        refine zco_p tkX12_qGoesOn_q0 13 1 (pc' := 31) (L' := [(0, .ref v0)]) (S' := [.int 23, .int y4]) rfl ?_
        refine zco_icmp_eq (tgt := 43) (zdk (cc := cX12_qGoesOn) (q := (31, .if_icmp .eq 12, 3)) tkX12_qGoesOn_q0 14 rfl) rfl ?_ ?_
        · exact zco_sub [0] rfl (coX12_qGoesOn_J43 l e he v0 r0 hr0)
        · refine zco_p tkX12_qGoesOn_q0 15 1 (pc' := 35) (L' := [(0, .ref v0)]) (S' := [.ref v0]) rfl ?_
          refine zco_Vi (rc := 0) (rs := 0) (mc := 0) (ms := 0) (As := []) (S := []) vmX12_qBracket (mtX12_qBracket l e (by omega) v0) q_1881 rfl rfl (Nat.le_of_ble_eq_true rfl) (zdk (cc := cX12_qGoesOn) (q := (35, .invokevirtual 660, 3)) tkX12_qGoesOn_q0 16 rfl) (fun y5 => ?_)
          refine zco_p tkX12_qGoesOn_q0 17 1 (pc' := 40) (L' := [(0, .ref v0)]) (S' := [.int 24, .int y5]) rfl ?_
          refine zco_icmp_ne (tgt := 122) (zdk (cc := cX12_qGoesOn) (q := (40, .if_icmp .ne 82, 3)) tkX12_qGoesOn_q0 18 rfl) rfl ?_ ?_
          · exact zco_sub [0] rfl (coX12_qGoesOn_J122 l e he v0)
          · exact zco_sub [0] rfl (coX12_qGoesOn_J43 l e he v0 r0 hr0)
set_option maxHeartbeats 2000000 in
set_option maxRecDepth 20000 in
theorem coX12_qGoesOn (l : Launch) (e : Nat) (he : 3 ≤ e) (v0 : Nat) : zCo l (e + 1) 0 0 iX12_qGoesOn 0 [(0, .ref v0)] [] (X12_qGoesOn v0) := by
  unfold X12_qGoesOn
  exact zco_sub [0] rfl (zco_fix (Lf := fun x : Unit => [(0, .ref v0)]) (Sf := fun _ => []) (fun r hr x => coX12_qGoesOn_B0 l e he v0 r hr ) zFU (()))
theorem mtX12_qGoesOn (l : Launch) (d : Nat) (hd : 4 ≤ d) (v0 : Nat) : zMet l d 0 0 yX12_qGoesOn cX12_qGoesOn 2 (Option.some .boolean) [.ref v0] (X12_qGoesOn v0) := by
  obtain ⟨e, rfl⟩ : ∃ e, d = e + 1 := ⟨d - 1, by omega⟩
  exact zmet_of (own := RX12) (ini := false) (by decide +kernel) rfl (fun _ => by contradiction) (Nat.le_of_ble_eq_true rfl) (coX12_qGoesOn l e (by omega) v0)
abbrev iX12_qSums : zI := (RX12, cX12_qSums, 3, (Option.none : Option FieldType), false)
def tX12_qSums : List (Nat × Instr × Nat) := [(0, .aload_n 0, 1), (1, .getfield 362, 3), (4, .istore_n 1, 1), (5, .aload_n 0, 1), (6, .aload_n 0, 1), (7, .getfield 356, 3), (10, .putfield 362, 3), (13, .iconst 1, 1), (14, .istore_n 2, 1), (15, .iload_n 2, 1), (16, .ifCond .eq 37, 3), (19, .aload_n 0, 1), (20, .getfield 270, 3), (23, .ifCond .ne 30, 3), (26, .aload_n 0, 1), (27, .invokevirtual 669, 3), (30, .aload_n 0, 1), (31, .getfield 270, 3), (34, .ifCond .ne 14, 3), (37, .aload_n 0, 1), (38, .invokevirtual 672, 3), (41, .ifCond .eq 7, 3), (44, .iconst 1, 1), (45, .goto 4, 3), (48, .iconst 0, 1), (49, .istore_n 2, 1), (50, .goto (-35), 3), (53, .aload_n 0, 1), (54, .getfield 270, 3), (57, .ifCond .ne 21, 3), (60, .aload_n 0, 1), (61, .getfield 356, 3), (64, .aload_n 0, 1), (65, .getfield 362, 3), (68, .if_icmp .le 10, 3), (71, .aload_n 0, 1), (72, .invokevirtual 639, 3), (75, .goto (-22), 3), (78, .aload_n 0, 1), (79, .iload_n 1, 1), (80, .putfield 362, 3), (83, .return_, 1)]
set_option maxRecDepth 100000 in
theorem tkX12_qSums : ∀ q ∈ tX12_qSums, decode cX12_qSums q.1 = .ok q.2 := by decide +kernel
theorem vmX12_qSums : zVM yX12_qSums cX12_qSums 3 (Option.none : Option FieldType) 0 12 := ⟨kX12_qSums, q_1836, q_65, q_162, ⟨_, rfl, rfl⟩, by decide +kernel, by decide⟩
set_option maxHeartbeats 2000000 in
set_option maxRecDepth 20000 in
theorem coX12_qSums_J78 (l : Launch) (e : Nat) (he : 6 ≤ e) (v0 : Nat) (v1 : Int32) : zCo l (e + 1) 0 0 iX12_qSums 78 [(0, .ref v0), (1, .int v1)] [] (X12_qSums_J78 v0 v1) := by
  unfold X12_qSums_J78
  refine zco_p tkX12_qSums 38 2 (pc' := 80) (L' := [(0, .ref v0), (1, .int v1)]) (S' := [.int v1, .ref v0]) rfl ?_
  refine zco_pi fl_12_362 rfl rfl (zdk (cc := cX12_qSums) (q := (80, .putfield 362, 3)) tkX12_qSums 40 rfl) ?_
  exact zco_vret rfl rfl rfl (zdk (cc := cX12_qSums) (q := (83, .return_, 1)) tkX12_qSums 41 rfl)
set_option maxHeartbeats 2000000 in
set_option maxRecDepth 20000 in
theorem coX12_qSums_B53 (l : Launch) (e : Nat) (he : 6 ≤ e) (v0 : Nat) (v1 : Int32) (r53 : Unit → zM) (hr53 : ∀ x : Unit, zCo l (e + 1) 0 0 iX12_qSums 53 [(0, .ref v0), (1, .int v1)] [] (r53 x)) : zCo l (e + 1) 0 0 iX12_qSums 53 [(0, .ref v0), (1, .int v1)] [] (X12_qSums_B53 v0 v1 r53) := by
  unfold X12_qSums_B53
  refine zco_p tkX12_qSums 27 1 (pc' := 54) (L' := [(0, .ref v0), (1, .int v1)]) (S' := [.ref v0]) rfl ?_
  refine zco_gi fl_12_270 rfl (zdk (cc := cX12_qSums) (q := (54, .getfield 270, 3)) tkX12_qSums 28 rfl) (fun x1 => ?_)
  refine zco_if_ne (tgt := 78) (zdk (cc := cX12_qSums) (q := (57, .ifCond .ne 21, 3)) tkX12_qSums 29 rfl) rfl ?_ ?_
  · exact zco_sub [0, 1] rfl (coX12_qSums_J78 l e he v0 v1)
  · refine zco_p tkX12_qSums 30 1 (pc' := 61) (L' := [(0, .ref v0), (1, .int v1)]) (S' := [.ref v0]) rfl ?_
    refine zco_gi fl_12_356 rfl (zdk (cc := cX12_qSums) (q := (61, .getfield 356, 3)) tkX12_qSums 31 rfl) (fun x2 => ?_)
    refine zco_p tkX12_qSums 32 1 (pc' := 65) (L' := [(0, .ref v0), (1, .int v1)]) (S' := [.ref v0, .int x2]) rfl ?_
    refine zco_gi fl_12_362 rfl (zdk (cc := cX12_qSums) (q := (65, .getfield 362, 3)) tkX12_qSums 33 rfl) (fun x3 => ?_)
    refine zco_icmp_le (tgt := 78) (zdk (cc := cX12_qSums) (q := (68, .if_icmp .le 10, 3)) tkX12_qSums 34 rfl) rfl ?_ ?_
    · exact zco_sub [0, 1] rfl (coX12_qSums_J78 l e he v0 v1)
    · refine zco_p tkX12_qSums 35 1 (pc' := 72) (L' := [(0, .ref v0), (1, .int v1)]) (S' := [.ref v0]) rfl ?_
      refine zco_Vv (rc := 0) (rs := 0) (mc := 0) (ms := 0) (As := []) (S := []) vmX12_qDrops (mtX12_qDrops l e (by omega) v0) q_1873 rfl rfl (Nat.le_of_ble_eq_true rfl) (zdk (cc := cX12_qSums) (q := (72, .invokevirtual 639, 3)) tkX12_qSums 36 rfl) ?_
      refine zco_p tkX12_qSums 37 1 (pc' := 53) (L' := [(0, .ref v0), (1, .int v1)]) (S' := []) rfl ?_
      exact zco_sub [0, 1] rfl (hr53 (()))
set_option maxHeartbeats 2000000 in
set_option maxRecDepth 20000 in
theorem coX12_qSums_J49 (l : Launch) (e : Nat) (he : 6 ≤ e) (v0 : Nat) (v1 : Int32) (r15 : Int32 → zM) (hr15 : ∀ x : Int32, zCo l (e + 1) 0 0 iX12_qSums 15 [(0, .ref v0), (1, .int v1), (2, .int x)] [] (r15 x)) (s0 : Int32) : zCo l (e + 1) 0 0 iX12_qSums 49 [(0, .ref v0), (1, .int v1)] [.int s0] (X12_qSums_J49 r15 v0 v1 s0) := by
  unfold X12_qSums_J49
  refine zco_p tkX12_qSums 25 2 (pc' := 15) (L' := [(2, .int s0), (0, .ref v0), (1, .int v1)]) (S' := []) rfl ?_
  exact zco_sub [1, 2, 0] rfl (hr15 s0)
set_option maxHeartbeats 2000000 in
set_option maxRecDepth 20000 in
theorem coX12_qSums_J48 (l : Launch) (e : Nat) (he : 6 ≤ e) (v0 : Nat) (v1 : Int32) (r15 : Int32 → zM) (hr15 : ∀ x : Int32, zCo l (e + 1) 0 0 iX12_qSums 15 [(0, .ref v0), (1, .int v1), (2, .int x)] [] (r15 x)) : zCo l (e + 1) 0 0 iX12_qSums 48 [(0, .ref v0), (1, .int v1)] [] (X12_qSums_J48 r15 v0 v1) := by
  unfold X12_qSums_J48
  refine zco_p tkX12_qSums 24 1 (pc' := 49) (L' := [(0, .ref v0), (1, .int v1)]) (S' := [.int 0]) rfl ?_
  exact zco_sub [0, 1] rfl (coX12_qSums_J49 l e he v0 v1 r15 hr15 0)
set_option maxHeartbeats 2000000 in
set_option maxRecDepth 20000 in
theorem coX12_qSums_B15 (l : Launch) (e : Nat) (he : 6 ≤ e) (v0 : Nat) (v1 : Int32) (r15 : Int32 → zM) (hr15 : ∀ x : Int32, zCo l (e + 1) 0 0 iX12_qSums 15 [(0, .ref v0), (1, .int v1), (2, .int x)] [] (r15 x)) (v2 : Int32) : zCo l (e + 1) 0 0 iX12_qSums 15 [(0, .ref v0), (1, .int v1), (2, .int v2)] [] (X12_qSums_B15 v0 v1 r15 v2) := by
  unfold X12_qSums_B15
  refine zco_p tkX12_qSums 9 1 (pc' := 16) (L' := [(0, .ref v0), (1, .int v1), (2, .int v2)]) (S' := [.int v2]) rfl ?_
  refine zco_if_eq (tgt := 53) (zdk (cc := cX12_qSums) (q := (16, .ifCond .eq 37, 3)) tkX12_qSums 10 rfl) rfl ?_ ?_
  · exact zco_sub [0, 1] rfl (zco_fix (Lf := fun x : Unit => [(0, .ref v0), (1, .int v1)]) (Sf := fun _ => []) (fun r hr x => coX12_qSums_B53 l e he v0 v1 r hr ) zFU (()))
  · refine zco_p tkX12_qSums 11 1 (pc' := 20) (L' := [(0, .ref v0), (1, .int v1), (2, .int v2)]) (S' := [.ref v0]) rfl ?_
    refine zco_gi fl_12_270 rfl (zdk (cc := cX12_qSums) (q := (20, .getfield 270, 3)) tkX12_qSums 12 rfl) (fun x1 => ?_)
    refine zco_if_ne (tgt := 53) (zdk (cc := cX12_qSums) (q := (23, .ifCond .ne 30, 3)) tkX12_qSums 13 rfl) rfl ?_ ?_
    · exact zco_sub [0, 1] rfl (zco_fix (Lf := fun x : Unit => [(0, .ref v0), (1, .int v1)]) (Sf := fun _ => []) (fun r hr x => coX12_qSums_B53 l e he v0 v1 r hr ) zFU (()))
    · refine zco_p tkX12_qSums 14 1 (pc' := 27) (L' := [(0, .ref v0), (1, .int v1), (2, .int v2)]) (S' := [.ref v0]) rfl ?_
      refine zco_Vv (rc := 0) (rs := 0) (mc := 0) (ms := 0) (As := []) (S := []) vmX12_qPartTold (mtX12_qPartTold l e (by omega) v0) q_1838 rfl rfl (Nat.le_of_ble_eq_true rfl) (zdk (cc := cX12_qSums) (q := (27, .invokevirtual 669, 3)) tkX12_qSums 15 rfl) ?_
      refine zco_p tkX12_qSums 16 1 (pc' := 31) (L' := [(0, .ref v0), (1, .int v1), (2, .int v2)]) (S' := [.ref v0]) rfl ?_
      refine zco_gi fl_12_270 rfl (zdk (cc := cX12_qSums) (q := (31, .getfield 270, 3)) tkX12_qSums 17 rfl) (fun x2 => ?_)
      refine zco_if_ne (tgt := 48) (zdk (cc := cX12_qSums) (q := (34, .ifCond .ne 14, 3)) tkX12_qSums 18 rfl) rfl ?_ ?_
      · exact zco_sub [0, 1] rfl (coX12_qSums_J48 l e he v0 v1 r15 hr15)
      · refine zco_p tkX12_qSums 19 1 (pc' := 38) (L' := [(0, .ref v0), (1, .int v1), (2, .int v2)]) (S' := [.ref v0]) rfl ?_
        refine zco_Vi (rc := 0) (rs := 0) (mc := 0) (ms := 0) (As := []) (S := []) vmX12_qGoesOn (mtX12_qGoesOn l e (by omega) v0) q_1877 rfl rfl (Nat.le_of_ble_eq_true rfl) (zdk (cc := cX12_qSums) (q := (38, .invokevirtual 672, 3)) tkX12_qSums 20 rfl) (fun y3 => ?_)
        refine zco_if_eq (tgt := 48) (zdk (cc := cX12_qSums) (q := (41, .ifCond .eq 7, 3)) tkX12_qSums 21 rfl) rfl ?_ ?_
        · exact zco_sub [0, 1] rfl (coX12_qSums_J48 l e he v0 v1 r15 hr15)
        · refine zco_p tkX12_qSums 22 2 (pc' := 49) (L' := [(0, .ref v0), (1, .int v1), (2, .int v2)]) (S' := [.int 1]) rfl ?_
          exact zco_sub [0, 1] rfl (coX12_qSums_J49 l e he v0 v1 r15 hr15 1)
set_option maxHeartbeats 2000000 in
set_option maxRecDepth 20000 in
theorem coX12_qSums (l : Launch) (e : Nat) (he : 6 ≤ e) (v0 : Nat) : zCo l (e + 1) 0 0 iX12_qSums 0 [(0, .ref v0)] [] (X12_qSums v0) := by
  unfold X12_qSums
  refine zco_p tkX12_qSums 0 1 (pc' := 1) (L' := [(0, .ref v0)]) (S' := [.ref v0]) rfl ?_
  refine zco_gi fl_12_362 rfl (zdk (cc := cX12_qSums) (q := (1, .getfield 362, 3)) tkX12_qSums 1 rfl) (fun x1 => ?_)
  refine zco_p tkX12_qSums 2 3 (pc' := 7) (L' := [(1, .int x1), (0, .ref v0)]) (S' := [.ref v0, .ref v0]) rfl ?_
  refine zco_gi fl_12_356 rfl (zdk (cc := cX12_qSums) (q := (7, .getfield 356, 3)) tkX12_qSums 5 rfl) (fun x2 => ?_)
  refine zco_pi fl_12_362 rfl rfl (zdk (cc := cX12_qSums) (q := (10, .putfield 362, 3)) tkX12_qSums 6 rfl) ?_
  refine zco_p tkX12_qSums 7 2 (pc' := 15) (L' := [(2, .int 1), (1, .int x1), (0, .ref v0)]) (S' := []) rfl ?_
  exact zco_sub [2, 1, 0] rfl (zco_fix (Lf := fun x : Int32 => [(0, .ref v0), (1, .int x1), (2, .int x)]) (Sf := fun _ => []) (fun r hr x => coX12_qSums_B15 l e he v0 x1 r hr x) zFU 1)
theorem mtX12_qSums (l : Launch) (d : Nat) (hd : 7 ≤ d) (v0 : Nat) : zMet l d 0 0 yX12_qSums cX12_qSums 3 (Option.none : Option FieldType) [.ref v0] (X12_qSums v0) := by
  obtain ⟨e, rfl⟩ : ∃ e, d = e + 1 := ⟨d - 1, by omega⟩
  exact zmet_of (own := RX12) (ini := false) (by decide +kernel) rfl (fun _ => by contradiction) (Nat.le_of_ble_eq_true rfl) (coX12_qSums l e (by omega) v0)
abbrev iX12_qFact : zI := (RX12, cX12_qFact, 2, (Option.none : Option FieldType), false)
def tX12_qFact : List (Nat × Instr × Nat) := [(0, .aload_n 0, 1), (1, .aload_n 0, 1), (2, .getfield 204, 3), (5, .invokevirtual 297, 3), (8, .ifCond .eq 10, 3), (11, .aload_n 0, 1), (12, .bipush 13, 2), (14, .invokevirtual 633, 3), (17, .return_, 1), (18, .aload_n 0, 1), (19, .invokevirtual 368, 3), (22, .aload_n 0, 1), (23, .getfield 270, 3), (26, .ifCond .eq 4, 3), (29, .return_, 1), (30, .aload_n 0, 1), (31, .invokevirtual 282, 3), (34, .istore_n 1, 1), (35, .iload_n 1, 1), (36, .bipush 60, 2), (38, .if_icmp .eq 25, 3), (41, .iload_n 1, 1), (42, .bipush 62, 2), (44, .if_icmp .eq 19, 3), (47, .iload_n 1, 1), (48, .bipush 61, 2), (50, .if_icmp .eq 13, 3), (53, .aload_n 0, 1), (54, .iconst 1, 1), (55, .aload_n 0, 1), (56, .getfield 276, 3), (59, .invokevirtual 300, 3), (62, .return_, 1), (63, .aload_n 0, 1), (64, .dup, 1), (65, .getfield 276, 3), (68, .iconst 1, 1), (69, .iadd, 1), (70, .putfield 276, 3), (73, .aload_n 0, 1), (74, .invokevirtual 368, 3), (77, .aload_n 0, 1), (78, .iload_n 1, 1), (79, .bipush 60, 2), (81, .if_icmp .ne 8, 3), (84, .bipush 7, 2), (86, .goto 16, 3), (89, .iload_n 1, 1), (90, .bipush 62, 2), (92, .if_icmp .ne 8, 3), (95, .bipush 8, 2), (97, .goto 5, 3), (100, .bipush 9, 2), (102, .invokevirtual 633, 3), (105, .return_, 1)]
set_option maxRecDepth 100000 in
theorem tkX12_qFact : ∀ q ∈ tX12_qFact, decode cX12_qFact q.1 = .ok q.2 := by decide +kernel
theorem vmX12_qFact : zVM yX12_qFact cX12_qFact 2 (Option.none : Option FieldType) 0 12 := ⟨kX12_qFact, q_1828, q_63, q_162, ⟨_, rfl, rfl⟩, by decide +kernel, by decide⟩
set_option maxHeartbeats 2000000 in
set_option maxRecDepth 20000 in
theorem coX12_qFact_J102 (l : Launch) (e : Nat) (he : 7 ≤ e) (s0 : Int32) (s1 : Nat) : zCo l (e + 1) 0 0 iX12_qFact 102 [] [.int s0, .ref s1] (X12_qFact_J102 s0 s1) := by
  unfold X12_qFact_J102
  refine zco_Vv (rc := 0) (rs := 0) (mc := 0) (ms := 0) (As := [.int s0]) (S := []) vmX12_qCode (mtX12_qCode l e (by omega) s1 s0) q_1830 rfl rfl (Nat.le_of_ble_eq_true rfl) (zdk (cc := cX12_qFact) (q := (102, .invokevirtual 633, 3)) tkX12_qFact 53 rfl) ?_
  exact zco_vret rfl rfl rfl (zdk (cc := cX12_qFact) (q := (105, .return_, 1)) tkX12_qFact 54 rfl)
set_option maxHeartbeats 2000000 in
set_option maxRecDepth 20000 in
theorem coX12_qFact_J63 (l : Launch) (e : Nat) (he : 7 ≤ e) (v0 : Nat) (v1 : Int32) : zCo l (e + 1) 0 0 iX12_qFact 63 [(0, .ref v0), (1, .int v1)] [] (X12_qFact_J63 v0 v1) := by
  unfold X12_qFact_J63
  refine zco_p tkX12_qFact 33 2 (pc' := 65) (L' := [(0, .ref v0), (1, .int v1)]) (S' := [.ref v0, .ref v0]) rfl ?_
  refine zco_gi fl_12_276 rfl (zdk (cc := cX12_qFact) (q := (65, .getfield 276, 3)) tkX12_qFact 35 rfl) (fun x1 => ?_)
  refine zco_p tkX12_qFact 36 2 (pc' := 70) (L' := [(0, .ref v0), (1, .int v1)]) (S' := [.int (x1 + 1), .ref v0]) rfl ?_
  refine zco_pi fl_12_276 rfl rfl (zdk (cc := cX12_qFact) (q := (70, .putfield 276, 3)) tkX12_qFact 38 rfl) ?_
  refine zco_p tkX12_qFact 39 1 (pc' := 74) (L' := [(0, .ref v0), (1, .int v1)]) (S' := [.ref v0]) rfl ?_
  refine zco_Vv (rc := 0) (rs := 0) (mc := 0) (ms := 0) (As := []) (S := []) vmX12_qSums (mtX12_qSums l e (by omega) v0) q_1834 rfl rfl (Nat.le_of_ble_eq_true rfl) (zdk (cc := cX12_qFact) (q := (74, .invokevirtual 368, 3)) tkX12_qFact 40 rfl) ?_
  refine zco_p tkX12_qFact 41 3 (pc' := 81) (L' := [(0, .ref v0), (1, .int v1)]) (S' := [.int 60, .int v1, .ref v0]) rfl ?_
  refine zco_icmp_ne (tgt := 89) (zdk (cc := cX12_qFact) (q := (81, .if_icmp .ne 8, 3)) tkX12_qFact 44 rfl) rfl ?_ ?_
  · refine zco_p tkX12_qFact 47 2 (pc' := 92) (L' := [(0, .ref v0), (1, .int v1)]) (S' := [.int 62, .int v1, .ref v0]) rfl ?_
    refine zco_icmp_ne (tgt := 100) (zdk (cc := cX12_qFact) (q := (92, .if_icmp .ne 8, 3)) tkX12_qFact 49 rfl) rfl ?_ ?_
    · refine zco_p tkX12_qFact 52 1 (pc' := 102) (L' := [(0, .ref v0), (1, .int v1)]) (S' := [.int 9, .ref v0]) rfl ?_
      exact zco_sub [] rfl (coX12_qFact_J102 l e he 9 v0)
    · refine zco_p tkX12_qFact 50 2 (pc' := 102) (L' := [(0, .ref v0), (1, .int v1)]) (S' := [.int 8, .ref v0]) rfl ?_
      exact zco_sub [] rfl (coX12_qFact_J102 l e he 8 v0)
  · refine zco_p tkX12_qFact 45 2 (pc' := 102) (L' := [(0, .ref v0), (1, .int v1)]) (S' := [.int 7, .ref v0]) rfl ?_
    exact zco_sub [] rfl (coX12_qFact_J102 l e he 7 v0)
set_option maxHeartbeats 2000000 in
set_option maxRecDepth 20000 in
theorem coX12_qFact (l : Launch) (e : Nat) (he : 7 ≤ e) (v0 : Nat) : zCo l (e + 1) 0 0 iX12_qFact 0 [(0, .ref v0)] [] (X12_qFact v0) := by
  unfold X12_qFact
  refine zco_p tkX12_qFact 0 2 (pc' := 2) (L' := [(0, .ref v0)]) (S' := [.ref v0, .ref v0]) rfl ?_
  refine zco_gr fl_12_204 rfl (zdk (cc := cX12_qFact) (q := (2, .getfield 204, 3)) tkX12_qFact 2 rfl) (fun x1 => ?_)
  refine zco_Vi (rc := 0) (rs := 0) (mc := 0) (ms := 0) (As := [.ref x1]) (S := []) vmX12_takes (mtX12_takes l e (by omega) v0 x1) q_1763 rfl rfl (Nat.le_of_ble_eq_true rfl) (zdk (cc := cX12_qFact) (q := (5, .invokevirtual 297, 3)) tkX12_qFact 3 rfl) (fun y2 => ?_)
  refine zco_if_eq (tgt := 18) (zdk (cc := cX12_qFact) (q := (8, .ifCond .eq 10, 3)) tkX12_qFact 4 rfl) rfl ?_ ?_
  · refine zco_p tkX12_qFact 9 1 (pc' := 19) (L' := [(0, .ref v0)]) (S' := [.ref v0]) rfl ?_
    refine zco_Vv (rc := 0) (rs := 0) (mc := 0) (ms := 0) (As := []) (S := []) vmX12_qSums (mtX12_qSums l e (by omega) v0) q_1834 rfl rfl (Nat.le_of_ble_eq_true rfl) (zdk (cc := cX12_qFact) (q := (19, .invokevirtual 368, 3)) tkX12_qFact 10 rfl) ?_
    refine zco_p tkX12_qFact 11 1 (pc' := 23) (L' := [(0, .ref v0)]) (S' := [.ref v0]) rfl ?_
    refine zco_gi fl_12_270 rfl (zdk (cc := cX12_qFact) (q := (23, .getfield 270, 3)) tkX12_qFact 12 rfl) (fun x3 => ?_)
    refine zco_if_eq (tgt := 30) (zdk (cc := cX12_qFact) (q := (26, .ifCond .eq 4, 3)) tkX12_qFact 13 rfl) rfl ?_ ?_
    · refine zco_p tkX12_qFact 15 1 (pc' := 31) (L' := [(0, .ref v0)]) (S' := [.ref v0]) rfl ?_
      refine zco_Vi (rc := 0) (rs := 0) (mc := 0) (ms := 0) (As := []) (S := []) vmX12_look (mtX12_look l e (by omega) v0) q_1751 rfl rfl (Nat.le_of_ble_eq_true rfl) (zdk (cc := cX12_qFact) (q := (31, .invokevirtual 282, 3)) tkX12_qFact 16 rfl) (fun y4 => ?_)
      refine zco_p tkX12_qFact 17 3 (pc' := 38) (L' := [(1, .int y4), (0, .ref v0)]) (S' := [.int 60, .int y4]) rfl ?_
      refine zco_icmp_eq (tgt := 63) (zdk (cc := cX12_qFact) (q := (38, .if_icmp .eq 25, 3)) tkX12_qFact 20 rfl) rfl ?_ ?_
      · exact zco_sub [1, 0] rfl (coX12_qFact_J63 l e he v0 y4)
      · refine zco_p tkX12_qFact 21 2 (pc' := 44) (L' := [(1, .int y4), (0, .ref v0)]) (S' := [.int 62, .int y4]) rfl ?_
        refine zco_icmp_eq (tgt := 63) (zdk (cc := cX12_qFact) (q := (44, .if_icmp .eq 19, 3)) tkX12_qFact 23 rfl) rfl ?_ ?_
        · exact zco_sub [1, 0] rfl (coX12_qFact_J63 l e he v0 y4)
        · refine zco_p tkX12_qFact 24 2 (pc' := 50) (L' := [(1, .int y4), (0, .ref v0)]) (S' := [.int 61, .int y4]) rfl ?_
          refine zco_icmp_eq (tgt := 63) (zdk (cc := cX12_qFact) (q := (50, .if_icmp .eq 13, 3)) tkX12_qFact 26 rfl) rfl ?_ ?_
          · exact zco_sub [1, 0] rfl (coX12_qFact_J63 l e he v0 y4)
          · refine zco_p tkX12_qFact 27 3 (pc' := 56) (L' := [(1, .int y4), (0, .ref v0)]) (S' := [.ref v0, .int 1, .ref v0]) rfl ?_
            refine zco_gi fl_12_276 rfl (zdk (cc := cX12_qFact) (q := (56, .getfield 276, 3)) tkX12_qFact 30 rfl) (fun x5 => ?_)
            refine zco_Vv (rc := 0) (rs := 0) (mc := 0) (ms := 0) (As := [.int 1, .int x5]) (S := []) vmX12_fail (mtX12_fail l e (by omega) v0 1 x5) q_1759 rfl rfl (Nat.le_of_ble_eq_true rfl) (zdk (cc := cX12_qFact) (q := (59, .invokevirtual 300, 3)) tkX12_qFact 31 rfl) ?_
            exact zco_vret rfl rfl rfl (zdk (cc := cX12_qFact) (q := (62, .return_, 1)) tkX12_qFact 32 rfl)
    · exact zco_vret rfl rfl rfl (zdk (cc := cX12_qFact) (q := (29, .return_, 1)) tkX12_qFact 14 rfl)
  · refine zco_p tkX12_qFact 5 2 (pc' := 14) (L' := [(0, .ref v0)]) (S' := [.int 13, .ref v0]) rfl ?_
    refine zco_Vv (rc := 0) (rs := 0) (mc := 0) (ms := 0) (As := [.int 13]) (S := []) vmX12_qCode (mtX12_qCode l e (by omega) v0 13) q_1830 rfl rfl (Nat.le_of_ble_eq_true rfl) (zdk (cc := cX12_qFact) (q := (14, .invokevirtual 633, 3)) tkX12_qFact 7 rfl) ?_
    exact zco_vret rfl rfl rfl (zdk (cc := cX12_qFact) (q := (17, .return_, 1)) tkX12_qFact 8 rfl)
theorem mtX12_qFact (l : Launch) (d : Nat) (hd : 8 ≤ d) (v0 : Nat) : zMet l d 0 0 yX12_qFact cX12_qFact 2 (Option.none : Option FieldType) [.ref v0] (X12_qFact v0) := by
  obtain ⟨e, rfl⟩ : ∃ e, d = e + 1 := ⟨d - 1, by omega⟩
  exact zmet_of (own := RX12) (ini := false) (by decide +kernel) rfl (fun _ => by contradiction) (Nat.le_of_ble_eq_true rfl) (coX12_qFact l e (by omega) v0)
abbrev iX12_qDropsNots : zI := (RX12, cX12_qDropsNots, 1, (Option.none : Option FieldType), false)
def tX12_qDropsNots : List (Nat × Instr × Nat) := [(0, .aload_n 0, 1), (1, .getfield 270, 3), (4, .ifCond .ne 29, 3), (7, .aload_n 0, 1), (8, .bipush 12, 2), (10, .invokevirtual 666, 3), (13, .ifCond .eq 20, 3), (16, .aload_n 0, 1), (17, .dup, 1), (18, .getfield 359, 3), (21, .iconst 1, 1), (22, .isub, 1), (23, .putfield 359, 3), (26, .aload_n 0, 1), (27, .invokevirtual 639, 3), (30, .goto (-30), 3), (33, .return_, 1)]
set_option maxRecDepth 100000 in
theorem tkX12_qDropsNots : ∀ q ∈ tX12_qDropsNots, decode cX12_qDropsNots q.1 = .ok q.2 := by decide +kernel
theorem vmX12_qDropsNots : zVM yX12_qDropsNots cX12_qDropsNots 1 (Option.none : Option FieldType) 0 12 := ⟨kX12_qDropsNots, q_1898, q_79, q_162, ⟨_, rfl, rfl⟩, by decide +kernel, by decide⟩
set_option maxHeartbeats 2000000 in
set_option maxRecDepth 20000 in
theorem coX12_qDropsNots_B0 (l : Launch) (e : Nat) (he : 2 ≤ e) (v0 : Nat) (r0 : Unit → zM) (hr0 : ∀ x : Unit, zCo l (e + 1) 0 0 iX12_qDropsNots 0 [(0, .ref v0)] [] (r0 x)) : zCo l (e + 1) 0 0 iX12_qDropsNots 0 [(0, .ref v0)] [] (X12_qDropsNots_B0 v0 r0) := by
  unfold X12_qDropsNots_B0
  refine zco_p tkX12_qDropsNots 0 1 (pc' := 1) (L' := [(0, .ref v0)]) (S' := [.ref v0]) rfl ?_
  refine zco_gi fl_12_270 rfl (zdk (cc := cX12_qDropsNots) (q := (1, .getfield 270, 3)) tkX12_qDropsNots 1 rfl) (fun x1 => ?_)
  refine zco_if_ne (tgt := 33) (zdk (cc := cX12_qDropsNots) (q := (4, .ifCond .ne 29, 3)) tkX12_qDropsNots 2 rfl) rfl ?_ ?_
  · exact zco_vret rfl rfl rfl (zdk (cc := cX12_qDropsNots) (q := (33, .return_, 1)) tkX12_qDropsNots 16 rfl)
  · refine zco_p tkX12_qDropsNots 3 2 (pc' := 10) (L' := [(0, .ref v0)]) (S' := [.int 12, .ref v0]) rfl ?_
    refine zco_Vi (rc := 0) (rs := 0) (mc := 0) (ms := 0) (As := [.int 12]) (S := []) vmX12_qIsOn (mtX12_qIsOn l e (by omega) v0 12) q_1892 rfl rfl (Nat.le_of_ble_eq_true rfl) (zdk (cc := cX12_qDropsNots) (q := (10, .invokevirtual 666, 3)) tkX12_qDropsNots 5 rfl) (fun y2 => ?_)
    refine zco_if_eq (tgt := 33) (zdk (cc := cX12_qDropsNots) (q := (13, .ifCond .eq 20, 3)) tkX12_qDropsNots 6 rfl) rfl ?_ ?_
    · exact zco_vret rfl rfl rfl (zdk (cc := cX12_qDropsNots) (q := (33, .return_, 1)) tkX12_qDropsNots 16 rfl)
    · refine zco_p tkX12_qDropsNots 7 2 (pc' := 18) (L' := [(0, .ref v0)]) (S' := [.ref v0, .ref v0]) rfl ?_
      refine zco_gi fl_12_359 rfl (zdk (cc := cX12_qDropsNots) (q := (18, .getfield 359, 3)) tkX12_qDropsNots 9 rfl) (fun x3 => ?_)
      refine zco_p tkX12_qDropsNots 10 2 (pc' := 23) (L' := [(0, .ref v0)]) (S' := [.int (x3 - 1), .ref v0]) rfl ?_
      refine zco_pi fl_12_359 rfl rfl (zdk (cc := cX12_qDropsNots) (q := (23, .putfield 359, 3)) tkX12_qDropsNots 12 rfl) ?_
      refine zco_p tkX12_qDropsNots 13 1 (pc' := 27) (L' := [(0, .ref v0)]) (S' := [.ref v0]) rfl ?_
      refine zco_Vv (rc := 0) (rs := 0) (mc := 0) (ms := 0) (As := []) (S := []) vmX12_qDrops (mtX12_qDrops l e (by omega) v0) q_1873 rfl rfl (Nat.le_of_ble_eq_true rfl) (zdk (cc := cX12_qDropsNots) (q := (27, .invokevirtual 639, 3)) tkX12_qDropsNots 14 rfl) ?_
      refine zco_p tkX12_qDropsNots 15 1 (pc' := 0) (L' := [(0, .ref v0)]) (S' := []) rfl ?_
      exact zco_sub [0] rfl (hr0 (()))
set_option maxHeartbeats 2000000 in
set_option maxRecDepth 20000 in
theorem coX12_qDropsNots (l : Launch) (e : Nat) (he : 2 ≤ e) (v0 : Nat) : zCo l (e + 1) 0 0 iX12_qDropsNots 0 [(0, .ref v0)] [] (X12_qDropsNots v0) := by
  unfold X12_qDropsNots
  exact zco_sub [0] rfl (zco_fix (Lf := fun x : Unit => [(0, .ref v0)]) (Sf := fun _ => []) (fun r hr x => coX12_qDropsNots_B0 l e he v0 r hr ) zFU (()))
theorem mtX12_qDropsNots (l : Launch) (d : Nat) (hd : 3 ≤ d) (v0 : Nat) : zMet l d 0 0 yX12_qDropsNots cX12_qDropsNots 1 (Option.none : Option FieldType) [.ref v0] (X12_qDropsNots v0) := by
  obtain ⟨e, rfl⟩ : ∃ e, d = e + 1 := ⟨d - 1, by omega⟩
  exact zmet_of (own := RX12) (ini := false) (by decide +kernel) rfl (fun _ => by contradiction) (Nat.le_of_ble_eq_true rfl) (coX12_qDropsNots l e (by omega) v0)
abbrev iX12_qHasSquare : zI := (RX12, cX12_qHasSquare, 2, (Option.some .boolean), false)
def tX12_qHasSquare : List (Nat × Instr × Nat) := [(0, .iconst 0, 1), (1, .istore_n 1, 1), (2, .iload_n 1, 1), (3, .aload_n 0, 1), (4, .getfield 356, 3), (7, .if_icmp .ge 22, 3), (10, .aload_n 0, 1), (11, .getfield 258, 3), (14, .iload_n 1, 1), (15, .iaload, 1), (16, .bipush 25, 2), (18, .if_icmp .ne 5, 3), (21, .iconst 1, 1), (22, .ireturn, 1), (23, .iinc 1 1, 3), (26, .goto (-24), 3), (29, .iconst 0, 1), (30, .ireturn, 1)]
set_option maxRecDepth 100000 in
theorem tkX12_qHasSquare : ∀ q ∈ tX12_qHasSquare, decode cX12_qHasSquare q.1 = .ok q.2 := by decide +kernel
theorem vmX12_qHasSquare : zVM yX12_qHasSquare cX12_qHasSquare 2 (Option.some .boolean) 0 12 := ⟨kX12_qHasSquare, q_1906, q_81, q_162, ⟨_, rfl, rfl⟩, by decide +kernel, by decide⟩
set_option maxHeartbeats 2000000 in
set_option maxRecDepth 20000 in
theorem coX12_qHasSquare_B2 (l : Launch) (e : Nat) (he : 0 ≤ e) (v0 : Nat) (r2 : Int32 → zM) (hr2 : ∀ x : Int32, zCo l (e + 1) 0 0 iX12_qHasSquare 2 [(0, .ref v0), (1, .int x)] [] (r2 x)) (v1 : Int32) : zCo l (e + 1) 0 0 iX12_qHasSquare 2 [(0, .ref v0), (1, .int v1)] [] (X12_qHasSquare_B2 v0 r2 v1) := by
  unfold X12_qHasSquare_B2
  refine zco_p tkX12_qHasSquare 2 2 (pc' := 4) (L' := [(0, .ref v0), (1, .int v1)]) (S' := [.ref v0, .int v1]) rfl ?_
  refine zco_gi fl_12_356 rfl (zdk (cc := cX12_qHasSquare) (q := (4, .getfield 356, 3)) tkX12_qHasSquare 4 rfl) (fun x1 => ?_)
  refine zco_icmp_ge (tgt := 29) (zdk (cc := cX12_qHasSquare) (q := (7, .if_icmp .ge 22, 3)) tkX12_qHasSquare 5 rfl) rfl ?_ ?_
  · refine zco_p tkX12_qHasSquare 16 1 (pc' := 30) (L' := [(0, .ref v0), (1, .int v1)]) (S' := [.int 0]) rfl ?_
    exact zco_zret rfl rfl rfl (zdk (cc := cX12_qHasSquare) (q := (30, .ireturn, 1)) tkX12_qHasSquare 17 rfl)
  · refine zco_p tkX12_qHasSquare 6 1 (pc' := 11) (L' := [(0, .ref v0), (1, .int v1)]) (S' := [.ref v0]) rfl ?_
    refine zco_gr fl_12_258 rfl (zdk (cc := cX12_qHasSquare) (q := (11, .getfield 258, 3)) tkX12_qHasSquare 7 rfl) (fun x2 => ?_)
    refine zco_p tkX12_qHasSquare 8 1 (pc' := 15) (L' := [(0, .ref v0), (1, .int v1)]) (S' := [.int v1, .ref x2]) rfl ?_
    refine zco_iaload (zdk (cc := cX12_qHasSquare) (q := (15, .iaload, 1)) tkX12_qHasSquare 9 rfl) (fun x3 => ?_)
    refine zco_p tkX12_qHasSquare 10 1 (pc' := 18) (L' := [(0, .ref v0), (1, .int v1)]) (S' := [.int 25, .int x3]) rfl ?_
    refine zco_icmp_ne (tgt := 23) (zdk (cc := cX12_qHasSquare) (q := (18, .if_icmp .ne 5, 3)) tkX12_qHasSquare 11 rfl) rfl ?_ ?_
    · refine zco_p tkX12_qHasSquare 14 2 (pc' := 2) (L' := [(1, .int (v1 + 1)), (0, .ref v0)]) (S' := []) rfl ?_
      exact zco_sub [1, 0] rfl (hr2 (v1 + 1))
    · refine zco_p tkX12_qHasSquare 12 1 (pc' := 22) (L' := [(0, .ref v0), (1, .int v1)]) (S' := [.int 1]) rfl ?_
      exact zco_zret rfl rfl rfl (zdk (cc := cX12_qHasSquare) (q := (22, .ireturn, 1)) tkX12_qHasSquare 13 rfl)
set_option maxHeartbeats 2000000 in
set_option maxRecDepth 20000 in
theorem coX12_qHasSquare (l : Launch) (e : Nat) (he : 0 ≤ e) (v0 : Nat) : zCo l (e + 1) 0 0 iX12_qHasSquare 0 [(0, .ref v0)] [] (X12_qHasSquare v0) := by
  unfold X12_qHasSquare
  refine zco_p tkX12_qHasSquare 0 2 (pc' := 2) (L' := [(1, .int 0), (0, .ref v0)]) (S' := []) rfl ?_
  exact zco_sub [1, 0] rfl (zco_fix (Lf := fun x : Int32 => [(0, .ref v0), (1, .int x)]) (Sf := fun _ => []) (fun r hr x => coX12_qHasSquare_B2 l e he v0 r hr x) zFU 0)
theorem mtX12_qHasSquare (l : Launch) (d : Nat) (hd : 1 ≤ d) (v0 : Nat) : zMet l d 0 0 yX12_qHasSquare cX12_qHasSquare 2 (Option.some .boolean) [.ref v0] (X12_qHasSquare v0) := by
  obtain ⟨e, rfl⟩ : ∃ e, d = e + 1 := ⟨d - 1, by omega⟩
  exact zmet_of (own := RX12) (ini := false) (by decide +kernel) rfl (fun _ => by contradiction) (Nat.le_of_ble_eq_true rfl) (coX12_qHasSquare l e (by omega) v0)
abbrev iX12_qGoesOnTest : zI := (RX12, cX12_qGoesOnTest, 1, (Option.some .boolean), false)
def tX12_qGoesOnTest : List (Nat × Instr × Nat) := [(0, .aload_n 0, 1), (1, .getfield 270, 3), (4, .ifCond .ne 72, 3), (7, .aload_n 0, 1), (8, .invokevirtual 282, 3), (11, .bipush 93, 2), (13, .if_icmp .ne 63, 3), (16, .aload_n 0, 1), (17, .invokevirtual 684, 3), (20, .ifCond .eq 56, 3), (23, .aload_n 0, 1), (24, .dup, 1), (25, .getfield 276, 3), (28, .iconst 1, 1), (29, .iadd, 1), (30, .putfield 276, 3), (33, .aload_n 0, 1), (34, .bipush 25, 2), (36, .invokevirtual 666, 3), (39, .ifCond .ne 10, 3), (42, .aload_n 0, 1), (43, .invokevirtual 639, 3), (46, .goto (-13), 3), (49, .aload_n 0, 1), (50, .dup, 1), (51, .getfield 356, 3), (54, .iconst 1, 1), (55, .isub, 1), (56, .putfield 356, 3), (59, .aload_n 0, 1), (60, .dup, 1), (61, .getfield 359, 3), (64, .iconst 1, 1), (65, .isub, 1), (66, .putfield 359, 3), (69, .aload_n 0, 1), (70, .invokevirtual 678, 3), (73, .goto (-73), 3), (76, .aload_n 0, 1), (77, .aload_n 0, 1), (78, .getfield 198, 3), (81, .invokevirtual 297, 3), (84, .ifCond .eq 42, 3), (87, .aload_n 0, 1), (88, .bipush 10, 2), (90, .invokevirtual 666, 3), (93, .ifCond .eq 10, 3), (96, .aload_n 0, 1), (97, .invokevirtual 639, 3), (100, .goto (-13), 3), (103, .aload_n 0, 1), (104, .getfield 258, 3), (107, .aload_n 0, 1), (108, .getfield 356, 3), (111, .bipush 10, 2), (113, .iastore, 1), (114, .aload_n 0, 1), (115, .dup, 1), (116, .getfield 356, 3), (119, .iconst 1, 1), (120, .iadd, 1), (121, .putfield 356, 3), (124, .iconst 1, 1), (125, .ireturn, 1), (126, .aload_n 0, 1), (127, .aload_n 0, 1), (128, .getfield 201, 3), (131, .invokevirtual 297, 3), (134, .ifCond .eq 51, 3), (137, .aload_n 0, 1), (138, .bipush 10, 2), (140, .invokevirtual 666, 3), (143, .ifCond .ne 12, 3), (146, .aload_n 0, 1), (147, .bipush 11, 2), (149, .invokevirtual 666, 3), (152, .ifCond .eq 10, 3), (155, .aload_n 0, 1), (156, .invokevirtual 639, 3), (159, .goto (-22), 3), (162, .aload_n 0, 1), (163, .getfield 258, 3), (166, .aload_n 0, 1), (167, .getfield 356, 3), (170, .bipush 11, 2), (172, .iastore, 1), (173, .aload_n 0, 1), (174, .dup, 1), (175, .getfield 356, 3), (178, .iconst 1, 1), (179, .iadd, 1), (180, .putfield 356, 3), (183, .iconst 1, 1), (184, .ireturn, 1), (185, .aload_n 0, 1), (186, .getfield 270, 3), (189, .ifCond .ne 19, 3), (192, .aload_n 0, 1), (193, .invokevirtual 684, 3), (196, .ifCond .eq 12, 3), (199, .aload_n 0, 1), (200, .iconst 1, 1), (201, .aload_n 0, 1), (202, .getfield 276, 3), (205, .invokevirtual 300, 3), (208, .iconst 0, 1), (209, .ireturn, 1)]
set_option maxRecDepth 100000 in
theorem tkX12_qGoesOnTest : ∀ q ∈ tX12_qGoesOnTest, decode cX12_qGoesOnTest q.1 = .ok q.2 := by decide +kernel
theorem vmX12_qGoesOnTest : zVM yX12_qGoesOnTest cX12_qGoesOnTest 1 (Option.some .boolean) 0 12 := ⟨kX12_qGoesOnTest, q_1902, q_80, q_162, ⟨_, rfl, rfl⟩, by decide +kernel, by decide⟩
set_option maxHeartbeats 2000000 in
set_option maxRecDepth 20000 in
theorem coX12_qGoesOnTest_J162 (l : Launch) (e : Nat) (he : 3 ≤ e) (v0 : Nat) : zCo l (e + 1) 0 0 iX12_qGoesOnTest 162 [(0, .ref v0)] [] (X12_qGoesOnTest_J162 v0) := by
  unfold X12_qGoesOnTest_J162
  refine zco_p tkX12_qGoesOnTest 80 1 (pc' := 163) (L' := [(0, .ref v0)]) (S' := [.ref v0]) rfl ?_
  refine zco_gr fl_12_258 rfl (zdk (cc := cX12_qGoesOnTest) (q := (163, .getfield 258, 3)) tkX12_qGoesOnTest 81 rfl) (fun x1 => ?_)
  refine zco_p tkX12_qGoesOnTest 82 1 (pc' := 167) (L' := [(0, .ref v0)]) (S' := [.ref v0, .ref x1]) rfl ?_
  refine zco_gi fl_12_356 rfl (zdk (cc := cX12_qGoesOnTest) (q := (167, .getfield 356, 3)) tkX12_qGoesOnTest 83 rfl) (fun x2 => ?_)
  refine zco_p tkX12_qGoesOnTest 84 1 (pc' := 172) (L' := [(0, .ref v0)]) (S' := [.int 11, .int x2, .ref x1]) rfl ?_
  refine zco_iastore (zdk (cc := cX12_qGoesOnTest) (q := (172, .iastore, 1)) tkX12_qGoesOnTest 85 rfl) ?_
  refine zco_p tkX12_qGoesOnTest 86 2 (pc' := 175) (L' := [(0, .ref v0)]) (S' := [.ref v0, .ref v0]) rfl ?_
  refine zco_gi fl_12_356 rfl (zdk (cc := cX12_qGoesOnTest) (q := (175, .getfield 356, 3)) tkX12_qGoesOnTest 88 rfl) (fun x3 => ?_)
  refine zco_p tkX12_qGoesOnTest 89 2 (pc' := 180) (L' := [(0, .ref v0)]) (S' := [.int (x3 + 1), .ref v0]) rfl ?_
  refine zco_pi fl_12_356 rfl rfl (zdk (cc := cX12_qGoesOnTest) (q := (180, .putfield 356, 3)) tkX12_qGoesOnTest 91 rfl) ?_
  refine zco_p tkX12_qGoesOnTest 92 1 (pc' := 184) (L' := [(0, .ref v0)]) (S' := [.int 1]) rfl ?_
  exact zco_zret rfl rfl rfl (zdk (cc := cX12_qGoesOnTest) (q := (184, .ireturn, 1)) tkX12_qGoesOnTest 93 rfl)
set_option maxHeartbeats 2000000 in
set_option maxRecDepth 20000 in
theorem coX12_qGoesOnTest_J155 (l : Launch) (e : Nat) (he : 3 ≤ e) (v0 : Nat) (r137 : Unit → zM) (hr137 : ∀ x : Unit, zCo l (e + 1) 0 0 iX12_qGoesOnTest 137 [(0, .ref v0)] [] (r137 x)) : zCo l (e + 1) 0 0 iX12_qGoesOnTest 155 [(0, .ref v0)] [] (X12_qGoesOnTest_J155 r137 v0) := by
  unfold X12_qGoesOnTest_J155
  refine zco_p tkX12_qGoesOnTest 77 1 (pc' := 156) (L' := [(0, .ref v0)]) (S' := [.ref v0]) rfl ?_
  refine zco_Vv (rc := 0) (rs := 0) (mc := 0) (ms := 0) (As := []) (S := []) vmX12_qDrops (mtX12_qDrops l e (by omega) v0) q_1873 rfl rfl (Nat.le_of_ble_eq_true rfl) (zdk (cc := cX12_qGoesOnTest) (q := (156, .invokevirtual 639, 3)) tkX12_qGoesOnTest 78 rfl) ?_
  refine zco_p tkX12_qGoesOnTest 79 1 (pc' := 137) (L' := [(0, .ref v0)]) (S' := []) rfl ?_
  exact zco_sub [0] rfl (hr137 (()))
set_option maxHeartbeats 2000000 in
set_option maxRecDepth 20000 in
theorem coX12_qGoesOnTest_B137 (l : Launch) (e : Nat) (he : 3 ≤ e) (v0 : Nat) (r137 : Unit → zM) (hr137 : ∀ x : Unit, zCo l (e + 1) 0 0 iX12_qGoesOnTest 137 [(0, .ref v0)] [] (r137 x)) : zCo l (e + 1) 0 0 iX12_qGoesOnTest 137 [(0, .ref v0)] [] (X12_qGoesOnTest_B137 v0 r137) := by
  unfold X12_qGoesOnTest_B137
  refine zco_p tkX12_qGoesOnTest 69 2 (pc' := 140) (L' := [(0, .ref v0)]) (S' := [.int 10, .ref v0]) rfl ?_
  refine zco_Vi (rc := 0) (rs := 0) (mc := 0) (ms := 0) (As := [.int 10]) (S := []) vmX12_qIsOn (mtX12_qIsOn l e (by omega) v0 10) q_1892 rfl rfl (Nat.le_of_ble_eq_true rfl) (zdk (cc := cX12_qGoesOnTest) (q := (140, .invokevirtual 666, 3)) tkX12_qGoesOnTest 71 rfl) (fun y1 => ?_)
  refine zco_if_ne (tgt := 155) (zdk (cc := cX12_qGoesOnTest) (q := (143, .ifCond .ne 12, 3)) tkX12_qGoesOnTest 72 rfl) rfl ?_ ?_
  · exact zco_sub [0] rfl (coX12_qGoesOnTest_J155 l e he v0 r137 hr137)
  · refine zco_p tkX12_qGoesOnTest 73 2 (pc' := 149) (L' := [(0, .ref v0)]) (S' := [.int 11, .ref v0]) rfl ?_
    refine zco_Vi (rc := 0) (rs := 0) (mc := 0) (ms := 0) (As := [.int 11]) (S := []) vmX12_qIsOn (mtX12_qIsOn l e (by omega) v0 11) q_1892 rfl rfl (Nat.le_of_ble_eq_true rfl) (zdk (cc := cX12_qGoesOnTest) (q := (149, .invokevirtual 666, 3)) tkX12_qGoesOnTest 75 rfl) (fun y2 => ?_)
    refine zco_if_eq (tgt := 162) (zdk (cc := cX12_qGoesOnTest) (q := (152, .ifCond .eq 10, 3)) tkX12_qGoesOnTest 76 rfl) rfl ?_ ?_
    · exact zco_sub [0] rfl (coX12_qGoesOnTest_J162 l e he v0)
    · exact zco_sub [0] rfl (coX12_qGoesOnTest_J155 l e he v0 r137 hr137)
set_option maxHeartbeats 2000000 in
set_option maxRecDepth 20000 in
theorem coX12_qGoesOnTest_J103 (l : Launch) (e : Nat) (he : 3 ≤ e) (v0 : Nat) : zCo l (e + 1) 0 0 iX12_qGoesOnTest 103 [(0, .ref v0)] [] (X12_qGoesOnTest_J103 v0) := by
  unfold X12_qGoesOnTest_J103
  refine zco_p tkX12_qGoesOnTest 50 1 (pc' := 104) (L' := [(0, .ref v0)]) (S' := [.ref v0]) rfl ?_
  refine zco_gr fl_12_258 rfl (zdk (cc := cX12_qGoesOnTest) (q := (104, .getfield 258, 3)) tkX12_qGoesOnTest 51 rfl) (fun x1 => ?_)
  refine zco_p tkX12_qGoesOnTest 52 1 (pc' := 108) (L' := [(0, .ref v0)]) (S' := [.ref v0, .ref x1]) rfl ?_
  refine zco_gi fl_12_356 rfl (zdk (cc := cX12_qGoesOnTest) (q := (108, .getfield 356, 3)) tkX12_qGoesOnTest 53 rfl) (fun x2 => ?_)
  refine zco_p tkX12_qGoesOnTest 54 1 (pc' := 113) (L' := [(0, .ref v0)]) (S' := [.int 10, .int x2, .ref x1]) rfl ?_
  refine zco_iastore (zdk (cc := cX12_qGoesOnTest) (q := (113, .iastore, 1)) tkX12_qGoesOnTest 55 rfl) ?_
  refine zco_p tkX12_qGoesOnTest 56 2 (pc' := 116) (L' := [(0, .ref v0)]) (S' := [.ref v0, .ref v0]) rfl ?_
  refine zco_gi fl_12_356 rfl (zdk (cc := cX12_qGoesOnTest) (q := (116, .getfield 356, 3)) tkX12_qGoesOnTest 58 rfl) (fun x3 => ?_)
  refine zco_p tkX12_qGoesOnTest 59 2 (pc' := 121) (L' := [(0, .ref v0)]) (S' := [.int (x3 + 1), .ref v0]) rfl ?_
  refine zco_pi fl_12_356 rfl rfl (zdk (cc := cX12_qGoesOnTest) (q := (121, .putfield 356, 3)) tkX12_qGoesOnTest 61 rfl) ?_
  refine zco_p tkX12_qGoesOnTest 62 1 (pc' := 125) (L' := [(0, .ref v0)]) (S' := [.int 1]) rfl ?_
  exact zco_zret rfl rfl rfl (zdk (cc := cX12_qGoesOnTest) (q := (125, .ireturn, 1)) tkX12_qGoesOnTest 63 rfl)
set_option maxHeartbeats 2000000 in
set_option maxRecDepth 20000 in
theorem coX12_qGoesOnTest_B87 (l : Launch) (e : Nat) (he : 3 ≤ e) (v0 : Nat) (r87 : Unit → zM) (hr87 : ∀ x : Unit, zCo l (e + 1) 0 0 iX12_qGoesOnTest 87 [(0, .ref v0)] [] (r87 x)) : zCo l (e + 1) 0 0 iX12_qGoesOnTest 87 [(0, .ref v0)] [] (X12_qGoesOnTest_B87 v0 r87) := by
  unfold X12_qGoesOnTest_B87
  refine zco_p tkX12_qGoesOnTest 43 2 (pc' := 90) (L' := [(0, .ref v0)]) (S' := [.int 10, .ref v0]) rfl ?_
  refine zco_Vi (rc := 0) (rs := 0) (mc := 0) (ms := 0) (As := [.int 10]) (S := []) vmX12_qIsOn (mtX12_qIsOn l e (by omega) v0 10) q_1892 rfl rfl (Nat.le_of_ble_eq_true rfl) (zdk (cc := cX12_qGoesOnTest) (q := (90, .invokevirtual 666, 3)) tkX12_qGoesOnTest 45 rfl) (fun y1 => ?_)
  refine zco_if_eq (tgt := 103) (zdk (cc := cX12_qGoesOnTest) (q := (93, .ifCond .eq 10, 3)) tkX12_qGoesOnTest 46 rfl) rfl ?_ ?_
  · exact zco_sub [0] rfl (coX12_qGoesOnTest_J103 l e he v0)
  · refine zco_p tkX12_qGoesOnTest 47 1 (pc' := 97) (L' := [(0, .ref v0)]) (S' := [.ref v0]) rfl ?_
    refine zco_Vv (rc := 0) (rs := 0) (mc := 0) (ms := 0) (As := []) (S := []) vmX12_qDrops (mtX12_qDrops l e (by omega) v0) q_1873 rfl rfl (Nat.le_of_ble_eq_true rfl) (zdk (cc := cX12_qGoesOnTest) (q := (97, .invokevirtual 639, 3)) tkX12_qGoesOnTest 48 rfl) ?_
    refine zco_p tkX12_qGoesOnTest 49 1 (pc' := 87) (L' := [(0, .ref v0)]) (S' := []) rfl ?_
    exact zco_sub [0] rfl (hr87 (()))
set_option maxHeartbeats 2000000 in
set_option maxRecDepth 20000 in
theorem coX12_qGoesOnTest_J76 (l : Launch) (e : Nat) (he : 3 ≤ e) (v0 : Nat) : zCo l (e + 1) 0 0 iX12_qGoesOnTest 76 [(0, .ref v0)] [] (X12_qGoesOnTest_J76 v0) := by
  unfold X12_qGoesOnTest_J76
  refine zco_p tkX12_qGoesOnTest 38 2 (pc' := 78) (L' := [(0, .ref v0)]) (S' := [.ref v0, .ref v0]) rfl ?_
  refine zco_gr fl_12_198 rfl (zdk (cc := cX12_qGoesOnTest) (q := (78, .getfield 198, 3)) tkX12_qGoesOnTest 40 rfl) (fun x1 => ?_)
  refine zco_Vi (rc := 0) (rs := 0) (mc := 0) (ms := 0) (As := [.ref x1]) (S := []) vmX12_takes (mtX12_takes l e (by omega) v0 x1) q_1763 rfl rfl (Nat.le_of_ble_eq_true rfl) (zdk (cc := cX12_qGoesOnTest) (q := (81, .invokevirtual 297, 3)) tkX12_qGoesOnTest 41 rfl) (fun y2 => ?_)
  refine zco_if_eq (tgt := 126) (zdk (cc := cX12_qGoesOnTest) (q := (84, .ifCond .eq 42, 3)) tkX12_qGoesOnTest 42 rfl) rfl ?_ ?_
  · refine zco_p tkX12_qGoesOnTest 64 2 (pc' := 128) (L' := [(0, .ref v0)]) (S' := [.ref v0, .ref v0]) rfl ?_
    refine zco_gr fl_12_201 rfl (zdk (cc := cX12_qGoesOnTest) (q := (128, .getfield 201, 3)) tkX12_qGoesOnTest 66 rfl) (fun x3 => ?_)
    refine zco_Vi (rc := 0) (rs := 0) (mc := 0) (ms := 0) (As := [.ref x3]) (S := []) vmX12_takes (mtX12_takes l e (by omega) v0 x3) q_1763 rfl rfl (Nat.le_of_ble_eq_true rfl) (zdk (cc := cX12_qGoesOnTest) (q := (131, .invokevirtual 297, 3)) tkX12_qGoesOnTest 67 rfl) (fun y4 => ?_)
    refine zco_if_eq (tgt := 185) (zdk (cc := cX12_qGoesOnTest) (q := (134, .ifCond .eq 51, 3)) tkX12_qGoesOnTest 68 rfl) rfl ?_ ?_
    · refine zco_p tkX12_qGoesOnTest 94 1 (pc' := 186) (L' := [(0, .ref v0)]) (S' := [.ref v0]) rfl ?_
      refine zco_gi fl_12_270 rfl (zdk (cc := cX12_qGoesOnTest) (q := (186, .getfield 270, 3)) tkX12_qGoesOnTest 95 rfl) (fun x5 => ?_)
      refine zco_if_ne (tgt := 208) (zdk (cc := cX12_qGoesOnTest) (q := (189, .ifCond .ne 19, 3)) tkX12_qGoesOnTest 96 rfl) rfl ?_ ?_
      · refine zco_p tkX12_qGoesOnTest 105 1 (pc' := 209) (L' := [(0, .ref v0)]) (S' := [.int 0]) rfl ?_
        exact zco_zret rfl rfl rfl (zdk (cc := cX12_qGoesOnTest) (q := (209, .ireturn, 1)) tkX12_qGoesOnTest 106 rfl)
      · refine zco_p tkX12_qGoesOnTest 97 1 (pc' := 193) (L' := [(0, .ref v0)]) (S' := [.ref v0]) rfl ?_
        refine zco_Vi (rc := 0) (rs := 0) (mc := 0) (ms := 0) (As := []) (S := []) vmX12_qHasSquare (mtX12_qHasSquare l e (by omega) v0) q_1904 rfl rfl (Nat.le_of_ble_eq_true rfl) (zdk (cc := cX12_qGoesOnTest) (q := (193, .invokevirtual 684, 3)) tkX12_qGoesOnTest 98 rfl) (fun y6 => ?_)
        refine zco_if_eq (tgt := 208) (zdk (cc := cX12_qGoesOnTest) (q := (196, .ifCond .eq 12, 3)) tkX12_qGoesOnTest 99 rfl) rfl ?_ ?_
        · refine zco_p tkX12_qGoesOnTest 105 1 (pc' := 209) (L' := [(0, .ref v0)]) (S' := [.int 0]) rfl ?_
          exact zco_zret rfl rfl rfl (zdk (cc := cX12_qGoesOnTest) (q := (209, .ireturn, 1)) tkX12_qGoesOnTest 106 rfl)
        · refine zco_p tkX12_qGoesOnTest 100 3 (pc' := 202) (L' := [(0, .ref v0)]) (S' := [.ref v0, .int 1, .ref v0]) rfl ?_
          refine zco_gi fl_12_276 rfl (zdk (cc := cX12_qGoesOnTest) (q := (202, .getfield 276, 3)) tkX12_qGoesOnTest 103 rfl) (fun x7 => ?_)
          refine zco_Vv (rc := 0) (rs := 0) (mc := 0) (ms := 0) (As := [.int 1, .int x7]) (S := []) vmX12_fail (mtX12_fail l e (by omega) v0 1 x7) q_1759 rfl rfl (Nat.le_of_ble_eq_true rfl) (zdk (cc := cX12_qGoesOnTest) (q := (205, .invokevirtual 300, 3)) tkX12_qGoesOnTest 104 rfl) ?_
          refine zco_p tkX12_qGoesOnTest 105 1 (pc' := 209) (L' := [(0, .ref v0)]) (S' := [.int 0]) rfl ?_
          exact zco_zret rfl rfl rfl (zdk (cc := cX12_qGoesOnTest) (q := (209, .ireturn, 1)) tkX12_qGoesOnTest 106 rfl)
    · exact zco_sub [0] rfl (zco_fix (Lf := fun x : Unit => [(0, .ref v0)]) (Sf := fun _ => []) (fun r hr x => coX12_qGoesOnTest_B137 l e he v0 r hr ) zFU (()))
  · exact zco_sub [0] rfl (zco_fix (Lf := fun x : Unit => [(0, .ref v0)]) (Sf := fun _ => []) (fun r hr x => coX12_qGoesOnTest_B87 l e he v0 r hr ) zFU (()))
set_option maxHeartbeats 2000000 in
set_option maxRecDepth 20000 in
theorem coX12_qGoesOnTest_J49 (l : Launch) (e : Nat) (he : 3 ≤ e) (v0 : Nat) (r0 : Unit → zM) (hr0 : ∀ x : Unit, zCo l (e + 1) 0 0 iX12_qGoesOnTest 0 [(0, .ref v0)] [] (r0 x)) : zCo l (e + 1) 0 0 iX12_qGoesOnTest 49 [(0, .ref v0)] [] (X12_qGoesOnTest_J49 r0 v0) := by
  unfold X12_qGoesOnTest_J49
  refine zco_p tkX12_qGoesOnTest 23 2 (pc' := 51) (L' := [(0, .ref v0)]) (S' := [.ref v0, .ref v0]) rfl ?_
  refine zco_gi fl_12_356 rfl (zdk (cc := cX12_qGoesOnTest) (q := (51, .getfield 356, 3)) tkX12_qGoesOnTest 25 rfl) (fun x1 => ?_)
  refine zco_p tkX12_qGoesOnTest 26 2 (pc' := 56) (L' := [(0, .ref v0)]) (S' := [.int (x1 - 1), .ref v0]) rfl ?_
  refine zco_pi fl_12_356 rfl rfl (zdk (cc := cX12_qGoesOnTest) (q := (56, .putfield 356, 3)) tkX12_qGoesOnTest 28 rfl) ?_
  refine zco_p tkX12_qGoesOnTest 29 2 (pc' := 61) (L' := [(0, .ref v0)]) (S' := [.ref v0, .ref v0]) rfl ?_
  refine zco_gi fl_12_359 rfl (zdk (cc := cX12_qGoesOnTest) (q := (61, .getfield 359, 3)) tkX12_qGoesOnTest 31 rfl) (fun x2 => ?_)
  refine zco_p tkX12_qGoesOnTest 32 2 (pc' := 66) (L' := [(0, .ref v0)]) (S' := [.int (x2 - 1), .ref v0]) rfl ?_
  refine zco_pi fl_12_359 rfl rfl (zdk (cc := cX12_qGoesOnTest) (q := (66, .putfield 359, 3)) tkX12_qGoesOnTest 34 rfl) ?_
  refine zco_p tkX12_qGoesOnTest 35 1 (pc' := 70) (L' := [(0, .ref v0)]) (S' := [.ref v0]) rfl ?_
  refine zco_Vv (rc := 0) (rs := 0) (mc := 0) (ms := 0) (As := []) (S := []) vmX12_qDropsNots (mtX12_qDropsNots l e (by omega) v0) q_1896 rfl rfl (Nat.le_of_ble_eq_true rfl) (zdk (cc := cX12_qGoesOnTest) (q := (70, .invokevirtual 678, 3)) tkX12_qGoesOnTest 36 rfl) ?_
  refine zco_p tkX12_qGoesOnTest 37 1 (pc' := 0) (L' := [(0, .ref v0)]) (S' := []) rfl ?_
  exact zco_sub [0] rfl (hr0 (()))
set_option maxHeartbeats 2000000 in
set_option maxRecDepth 20000 in
theorem coX12_qGoesOnTest_B33 (l : Launch) (e : Nat) (he : 3 ≤ e) (v0 : Nat) (r0 : Unit → zM) (hr0 : ∀ x : Unit, zCo l (e + 1) 0 0 iX12_qGoesOnTest 0 [(0, .ref v0)] [] (r0 x)) (r33 : Unit → zM) (hr33 : ∀ x : Unit, zCo l (e + 1) 0 0 iX12_qGoesOnTest 33 [(0, .ref v0)] [] (r33 x)) : zCo l (e + 1) 0 0 iX12_qGoesOnTest 33 [(0, .ref v0)] [] (X12_qGoesOnTest_B33 r0 v0 r33) := by
  unfold X12_qGoesOnTest_B33
  refine zco_p tkX12_qGoesOnTest 16 2 (pc' := 36) (L' := [(0, .ref v0)]) (S' := [.int 25, .ref v0]) rfl ?_
  refine zco_Vi (rc := 0) (rs := 0) (mc := 0) (ms := 0) (As := [.int 25]) (S := []) vmX12_qIsOn (mtX12_qIsOn l e (by omega) v0 25) q_1892 rfl rfl (Nat.le_of_ble_eq_true rfl) (zdk (cc := cX12_qGoesOnTest) (q := (36, .invokevirtual 666, 3)) tkX12_qGoesOnTest 18 rfl) (fun y1 => ?_)
  refine zco_if_ne (tgt := 49) (zdk (cc := cX12_qGoesOnTest) (q := (39, .ifCond .ne 10, 3)) tkX12_qGoesOnTest 19 rfl) rfl ?_ ?_
  · exact zco_sub [0] rfl (coX12_qGoesOnTest_J49 l e he v0 r0 hr0)
  · refine zco_p tkX12_qGoesOnTest 20 1 (pc' := 43) (L' := [(0, .ref v0)]) (S' := [.ref v0]) rfl ?_
    refine zco_Vv (rc := 0) (rs := 0) (mc := 0) (ms := 0) (As := []) (S := []) vmX12_qDrops (mtX12_qDrops l e (by omega) v0) q_1873 rfl rfl (Nat.le_of_ble_eq_true rfl) (zdk (cc := cX12_qGoesOnTest) (q := (43, .invokevirtual 639, 3)) tkX12_qGoesOnTest 21 rfl) ?_
    refine zco_p tkX12_qGoesOnTest 22 1 (pc' := 33) (L' := [(0, .ref v0)]) (S' := []) rfl ?_
    exact zco_sub [0] rfl (hr33 (()))
set_option maxHeartbeats 2000000 in
set_option maxRecDepth 20000 in
theorem coX12_qGoesOnTest_B0 (l : Launch) (e : Nat) (he : 3 ≤ e) (v0 : Nat) (r0 : Unit → zM) (hr0 : ∀ x : Unit, zCo l (e + 1) 0 0 iX12_qGoesOnTest 0 [(0, .ref v0)] [] (r0 x)) : zCo l (e + 1) 0 0 iX12_qGoesOnTest 0 [(0, .ref v0)] [] (X12_qGoesOnTest_B0 v0 r0) := by
  unfold X12_qGoesOnTest_B0
  refine zco_p tkX12_qGoesOnTest 0 1 (pc' := 1) (L' := [(0, .ref v0)]) (S' := [.ref v0]) rfl ?_
  refine zco_gi fl_12_270 rfl (zdk (cc := cX12_qGoesOnTest) (q := (1, .getfield 270, 3)) tkX12_qGoesOnTest 1 rfl) (fun x1 => ?_)
  refine zco_if_ne (tgt := 76) (zdk (cc := cX12_qGoesOnTest) (q := (4, .ifCond .ne 72, 3)) tkX12_qGoesOnTest 2 rfl) rfl ?_ ?_
  · exact zco_sub [0] rfl (coX12_qGoesOnTest_J76 l e he v0)
  · refine zco_p tkX12_qGoesOnTest 3 1 (pc' := 8) (L' := [(0, .ref v0)]) (S' := [.ref v0]) rfl ?_
    refine zco_Vi (rc := 0) (rs := 0) (mc := 0) (ms := 0) (As := []) (S := []) vmX12_look (mtX12_look l e (by omega) v0) q_1751 rfl rfl (Nat.le_of_ble_eq_true rfl) (zdk (cc := cX12_qGoesOnTest) (q := (8, .invokevirtual 282, 3)) tkX12_qGoesOnTest 4 rfl) (fun y2 => ?_)
    refine zco_p tkX12_qGoesOnTest 5 1 (pc' := 13) (L' := [(0, .ref v0)]) (S' := [.int 93, .int y2]) rfl ?_
    refine zco_icmp_ne (tgt := 76) (zdk (cc := cX12_qGoesOnTest) (q := (13, .if_icmp .ne 63, 3)) tkX12_qGoesOnTest 6 rfl) rfl ?_ ?_
    · exact zco_sub [0] rfl (coX12_qGoesOnTest_J76 l e he v0)
    · refine zco_p tkX12_qGoesOnTest 7 1 (pc' := 17) (L' := [(0, .ref v0)]) (S' := [.ref v0]) rfl ?_
      refine zco_Vi (rc := 0) (rs := 0) (mc := 0) (ms := 0) (As := []) (S := []) vmX12_qHasSquare (mtX12_qHasSquare l e (by omega) v0) q_1904 rfl rfl (Nat.le_of_ble_eq_true rfl) (zdk (cc := cX12_qGoesOnTest) (q := (17, .invokevirtual 684, 3)) tkX12_qGoesOnTest 8 rfl) (fun y3 => ?_)
      refine zco_if_eq (tgt := 76) (zdk (cc := cX12_qGoesOnTest) (q := (20, .ifCond .eq 56, 3)) tkX12_qGoesOnTest 9 rfl) rfl ?_ ?_
      · exact zco_sub [0] rfl (coX12_qGoesOnTest_J76 l e he v0)
      · refine zco_p tkX12_qGoesOnTest 10 2 (pc' := 25) (L' := [(0, .ref v0)]) (S' := [.ref v0, .ref v0]) rfl ?_
        refine zco_gi fl_12_276 rfl (zdk (cc := cX12_qGoesOnTest) (q := (25, .getfield 276, 3)) tkX12_qGoesOnTest 12 rfl) (fun x4 => ?_)
        refine zco_p tkX12_qGoesOnTest 13 2 (pc' := 30) (L' := [(0, .ref v0)]) (S' := [.int (x4 + 1), .ref v0]) rfl ?_
        refine zco_pi fl_12_276 rfl rfl (zdk (cc := cX12_qGoesOnTest) (q := (30, .putfield 276, 3)) tkX12_qGoesOnTest 15 rfl) ?_
        exact zco_sub [0] rfl (zco_fix (Lf := fun x : Unit => [(0, .ref v0)]) (Sf := fun _ => []) (fun r hr x => coX12_qGoesOnTest_B33 l e he v0 r0 hr0 r hr ) zFU (()))
set_option maxHeartbeats 2000000 in
set_option maxRecDepth 20000 in
theorem coX12_qGoesOnTest (l : Launch) (e : Nat) (he : 3 ≤ e) (v0 : Nat) : zCo l (e + 1) 0 0 iX12_qGoesOnTest 0 [(0, .ref v0)] [] (X12_qGoesOnTest v0) := by
  unfold X12_qGoesOnTest
  exact zco_sub [0] rfl (zco_fix (Lf := fun x : Unit => [(0, .ref v0)]) (Sf := fun _ => []) (fun r hr x => coX12_qGoesOnTest_B0 l e he v0 r hr ) zFU (()))
theorem mtX12_qGoesOnTest (l : Launch) (d : Nat) (hd : 4 ≤ d) (v0 : Nat) : zMet l d 0 0 yX12_qGoesOnTest cX12_qGoesOnTest 1 (Option.some .boolean) [.ref v0] (X12_qGoesOnTest v0) := by
  obtain ⟨e, rfl⟩ : ∃ e, d = e + 1 := ⟨d - 1, by omega⟩
  exact zmet_of (own := RX12) (ini := false) (by decide +kernel) rfl (fun _ => by contradiction) (Nat.le_of_ble_eq_true rfl) (coX12_qGoesOnTest l e (by omega) v0)
abbrev iX12_qTest : zI := (RX12, cX12_qTest, 3, (Option.none : Option FieldType), false)
def tX12_qTest : List (Nat × Instr × Nat) := [(0, .iconst 1, 1), (1, .istore_n 1, 1), (2, .iload_n 1, 1), (3, .ifCond .eq 107, 3), (6, .aload_n 0, 1), (7, .getfield 270, 3), (10, .ifCond .ne 100, 3), (13, .aload_n 0, 1), (14, .invokevirtual 282, 3), (17, .istore_n 2, 1), (18, .iload_n 2, 1), (19, .bipush 91, 2), (21, .if_icmp .ne 26, 3), (24, .aload_n 0, 1), (25, .bipush 25, 2), (27, .aload_n 0, 1), (28, .getfield 276, 3), (31, .invokevirtual 651, 3), (34, .aload_n 0, 1), (35, .dup, 1), (36, .getfield 276, 3), (39, .iconst 1, 1), (40, .iadd, 1), (41, .putfield 276, 3), (44, .goto (-42), 3), (47, .aload_n 0, 1), (48, .aload_n 0, 1), (49, .getfield 195, 3), (52, .invokevirtual 293, 3), (55, .ifCond .eq 24, 3), (58, .aload_n 0, 1), (59, .bipush 12, 2), (61, .aload_n 0, 1), (62, .getfield 276, 3), (65, .invokevirtual 651, 3), (68, .aload_n 0, 1), (69, .aload_n 0, 1), (70, .getfield 195, 3), (73, .invokevirtual 341, 3), (76, .goto (-74), 3), (79, .aload_n 0, 1), (80, .invokevirtual 675, 3), (83, .aload_n 0, 1), (84, .invokevirtual 678, 3), (87, .aload_n 0, 1), (88, .getfield 270, 3), (91, .ifCond .ne 14, 3), (94, .aload_n 0, 1), (95, .invokevirtual 681, 3), (98, .ifCond .eq 7, 3), (101, .iconst 1, 1), (102, .goto 4, 3), (105, .iconst 0, 1), (106, .istore_n 1, 1), (107, .goto (-105), 3), (110, .aload_n 0, 1), (111, .getfield 270, 3), (114, .ifCond .ne 17, 3), (117, .aload_n 0, 1), (118, .getfield 356, 3), (121, .ifCond .le 10, 3), (124, .aload_n 0, 1), (125, .invokevirtual 639, 3), (128, .goto (-18), 3), (131, .return_, 1)]
set_option maxRecDepth 100000 in
theorem tkX12_qTest : ∀ q ∈ tX12_qTest, decode cX12_qTest q.1 = .ok q.2 := by decide +kernel
theorem vmX12_qTest : zVM yX12_qTest cX12_qTest 3 (Option.none : Option FieldType) 0 12 := ⟨kX12_qTest, q_1820, q_61, q_162, ⟨_, rfl, rfl⟩, by decide +kernel, by decide⟩
set_option maxHeartbeats 2000000 in
set_option maxRecDepth 20000 in
theorem coX12_qTest_B110 (l : Launch) (e : Nat) (he : 8 ≤ e) (v0 : Nat) (r110 : Unit → zM) (hr110 : ∀ x : Unit, zCo l (e + 1) 0 0 iX12_qTest 110 [(0, .ref v0)] [] (r110 x)) : zCo l (e + 1) 0 0 iX12_qTest 110 [(0, .ref v0)] [] (X12_qTest_B110 v0 r110) := by
  unfold X12_qTest_B110
  refine zco_p tkX12_qTest 55 1 (pc' := 111) (L' := [(0, .ref v0)]) (S' := [.ref v0]) rfl ?_
  refine zco_gi fl_12_270 rfl (zdk (cc := cX12_qTest) (q := (111, .getfield 270, 3)) tkX12_qTest 56 rfl) (fun x1 => ?_)
  refine zco_if_ne (tgt := 131) (zdk (cc := cX12_qTest) (q := (114, .ifCond .ne 17, 3)) tkX12_qTest 57 rfl) rfl ?_ ?_
  · exact zco_vret rfl rfl rfl (zdk (cc := cX12_qTest) (q := (131, .return_, 1)) tkX12_qTest 64 rfl)
  · refine zco_p tkX12_qTest 58 1 (pc' := 118) (L' := [(0, .ref v0)]) (S' := [.ref v0]) rfl ?_
    refine zco_gi fl_12_356 rfl (zdk (cc := cX12_qTest) (q := (118, .getfield 356, 3)) tkX12_qTest 59 rfl) (fun x2 => ?_)
    refine zco_if_le (tgt := 131) (zdk (cc := cX12_qTest) (q := (121, .ifCond .le 10, 3)) tkX12_qTest 60 rfl) rfl ?_ ?_
    · exact zco_vret rfl rfl rfl (zdk (cc := cX12_qTest) (q := (131, .return_, 1)) tkX12_qTest 64 rfl)
    · refine zco_p tkX12_qTest 61 1 (pc' := 125) (L' := [(0, .ref v0)]) (S' := [.ref v0]) rfl ?_
      refine zco_Vv (rc := 0) (rs := 0) (mc := 0) (ms := 0) (As := []) (S := []) vmX12_qDrops (mtX12_qDrops l e (by omega) v0) q_1873 rfl rfl (Nat.le_of_ble_eq_true rfl) (zdk (cc := cX12_qTest) (q := (125, .invokevirtual 639, 3)) tkX12_qTest 62 rfl) ?_
      refine zco_p tkX12_qTest 63 1 (pc' := 110) (L' := [(0, .ref v0)]) (S' := []) rfl ?_
      exact zco_sub [0] rfl (hr110 (()))
set_option maxHeartbeats 2000000 in
set_option maxRecDepth 20000 in
theorem coX12_qTest_J106 (l : Launch) (e : Nat) (he : 8 ≤ e) (v0 : Nat) (r2 : Int32 → zM) (hr2 : ∀ x : Int32, zCo l (e + 1) 0 0 iX12_qTest 2 [(0, .ref v0), (1, .int x)] [] (r2 x)) (s0 : Int32) : zCo l (e + 1) 0 0 iX12_qTest 106 [(0, .ref v0)] [.int s0] (X12_qTest_J106 r2 v0 s0) := by
  unfold X12_qTest_J106
  refine zco_p tkX12_qTest 53 2 (pc' := 2) (L' := [(1, .int s0), (0, .ref v0)]) (S' := []) rfl ?_
  exact zco_sub [1, 0] rfl (hr2 s0)
set_option maxHeartbeats 2000000 in
set_option maxRecDepth 20000 in
theorem coX12_qTest_J105 (l : Launch) (e : Nat) (he : 8 ≤ e) (v0 : Nat) (r2 : Int32 → zM) (hr2 : ∀ x : Int32, zCo l (e + 1) 0 0 iX12_qTest 2 [(0, .ref v0), (1, .int x)] [] (r2 x)) : zCo l (e + 1) 0 0 iX12_qTest 105 [(0, .ref v0)] [] (X12_qTest_J105 r2 v0) := by
  unfold X12_qTest_J105
  refine zco_p tkX12_qTest 52 1 (pc' := 106) (L' := [(0, .ref v0)]) (S' := [.int 0]) rfl ?_
  exact zco_sub [0] rfl (coX12_qTest_J106 l e he v0 r2 hr2 0)
set_option maxHeartbeats 2000000 in
set_option maxRecDepth 20000 in
theorem coX12_qTest_B2 (l : Launch) (e : Nat) (he : 8 ≤ e) (v0 : Nat) (r2 : Int32 → zM) (hr2 : ∀ x : Int32, zCo l (e + 1) 0 0 iX12_qTest 2 [(0, .ref v0), (1, .int x)] [] (r2 x)) (v1 : Int32) : zCo l (e + 1) 0 0 iX12_qTest 2 [(0, .ref v0), (1, .int v1)] [] (X12_qTest_B2 v0 r2 v1) := by
  unfold X12_qTest_B2
  refine zco_p tkX12_qTest 2 1 (pc' := 3) (L' := [(0, .ref v0), (1, .int v1)]) (S' := [.int v1]) rfl ?_
  refine zco_if_eq (tgt := 110) (zdk (cc := cX12_qTest) (q := (3, .ifCond .eq 107, 3)) tkX12_qTest 3 rfl) rfl ?_ ?_
  · exact zco_sub [0] rfl (zco_fix (Lf := fun x : Unit => [(0, .ref v0)]) (Sf := fun _ => []) (fun r hr x => coX12_qTest_B110 l e he v0 r hr ) zFU (()))
  · refine zco_p tkX12_qTest 4 1 (pc' := 7) (L' := [(0, .ref v0), (1, .int v1)]) (S' := [.ref v0]) rfl ?_
    refine zco_gi fl_12_270 rfl (zdk (cc := cX12_qTest) (q := (7, .getfield 270, 3)) tkX12_qTest 5 rfl) (fun x1 => ?_)
    refine zco_if_ne (tgt := 110) (zdk (cc := cX12_qTest) (q := (10, .ifCond .ne 100, 3)) tkX12_qTest 6 rfl) rfl ?_ ?_
    · exact zco_sub [0] rfl (zco_fix (Lf := fun x : Unit => [(0, .ref v0)]) (Sf := fun _ => []) (fun r hr x => coX12_qTest_B110 l e he v0 r hr ) zFU (()))
    · refine zco_p tkX12_qTest 7 1 (pc' := 14) (L' := [(0, .ref v0), (1, .int v1)]) (S' := [.ref v0]) rfl ?_
      refine zco_Vi (rc := 0) (rs := 0) (mc := 0) (ms := 0) (As := []) (S := []) vmX12_look (mtX12_look l e (by omega) v0) q_1751 rfl rfl (Nat.le_of_ble_eq_true rfl) (zdk (cc := cX12_qTest) (q := (14, .invokevirtual 282, 3)) tkX12_qTest 8 rfl) (fun y2 => ?_)
      refine zco_p tkX12_qTest 9 3 (pc' := 21) (L' := [(2, .int y2), (0, .ref v0), (1, .int v1)]) (S' := [.int 91, .int y2]) rfl ?_
      refine zco_icmp_ne (tgt := 47) (zdk (cc := cX12_qTest) (q := (21, .if_icmp .ne 26, 3)) tkX12_qTest 12 rfl) rfl ?_ ?_
      · refine zco_p tkX12_qTest 25 2 (pc' := 49) (L' := [(2, .int y2), (0, .ref v0), (1, .int v1)]) (S' := [.ref v0, .ref v0]) rfl ?_
        refine zco_gr fl_12_195 rfl (zdk (cc := cX12_qTest) (q := (49, .getfield 195, 3)) tkX12_qTest 27 rfl) (fun x3 => ?_)
        refine zco_Vi (rc := 0) (rs := 0) (mc := 0) (ms := 0) (As := [.ref x3]) (S := []) vmX12_isHere (mtX12_isHere l e (by omega) v0 x3) q_1767 rfl rfl (Nat.le_of_ble_eq_true rfl) (zdk (cc := cX12_qTest) (q := (52, .invokevirtual 293, 3)) tkX12_qTest 28 rfl) (fun y4 => ?_)
        refine zco_if_eq (tgt := 79) (zdk (cc := cX12_qTest) (q := (55, .ifCond .eq 24, 3)) tkX12_qTest 29 rfl) rfl ?_ ?_
        · refine zco_p tkX12_qTest 40 1 (pc' := 80) (L' := [(2, .int y2), (0, .ref v0), (1, .int v1)]) (S' := [.ref v0]) rfl ?_
          refine zco_Vv (rc := 0) (rs := 0) (mc := 0) (ms := 0) (As := []) (S := []) vmX12_qFact (mtX12_qFact l e (by omega) v0) q_1826 rfl rfl (Nat.le_of_ble_eq_true rfl) (zdk (cc := cX12_qTest) (q := (80, .invokevirtual 675, 3)) tkX12_qTest 41 rfl) ?_
          refine zco_p tkX12_qTest 42 1 (pc' := 84) (L' := [(2, .int y2), (0, .ref v0), (1, .int v1)]) (S' := [.ref v0]) rfl ?_
          refine zco_Vv (rc := 0) (rs := 0) (mc := 0) (ms := 0) (As := []) (S := []) vmX12_qDropsNots (mtX12_qDropsNots l e (by omega) v0) q_1896 rfl rfl (Nat.le_of_ble_eq_true rfl) (zdk (cc := cX12_qTest) (q := (84, .invokevirtual 678, 3)) tkX12_qTest 43 rfl) ?_
          refine zco_p tkX12_qTest 44 1 (pc' := 88) (L' := [(2, .int y2), (0, .ref v0), (1, .int v1)]) (S' := [.ref v0]) rfl ?_
          refine zco_gi fl_12_270 rfl (zdk (cc := cX12_qTest) (q := (88, .getfield 270, 3)) tkX12_qTest 45 rfl) (fun x5 => ?_)
          refine zco_if_ne (tgt := 105) (zdk (cc := cX12_qTest) (q := (91, .ifCond .ne 14, 3)) tkX12_qTest 46 rfl) rfl ?_ ?_
          · exact zco_sub [1] rfl (coX12_qTest_J105 l e he v0 r2 hr2)
          · refine zco_p tkX12_qTest 47 1 (pc' := 95) (L' := [(2, .int y2), (0, .ref v0), (1, .int v1)]) (S' := [.ref v0]) rfl ?_
            refine zco_Vi (rc := 0) (rs := 0) (mc := 0) (ms := 0) (As := []) (S := []) vmX12_qGoesOnTest (mtX12_qGoesOnTest l e (by omega) v0) q_1900 rfl rfl (Nat.le_of_ble_eq_true rfl) (zdk (cc := cX12_qTest) (q := (95, .invokevirtual 681, 3)) tkX12_qTest 48 rfl) (fun y6 => ?_)
            refine zco_if_eq (tgt := 105) (zdk (cc := cX12_qTest) (q := (98, .ifCond .eq 7, 3)) tkX12_qTest 49 rfl) rfl ?_ ?_
            · exact zco_sub [1] rfl (coX12_qTest_J105 l e he v0 r2 hr2)
            · refine zco_p tkX12_qTest 50 2 (pc' := 106) (L' := [(2, .int y2), (0, .ref v0), (1, .int v1)]) (S' := [.int 1]) rfl ?_
              exact zco_sub [1] rfl (coX12_qTest_J106 l e he v0 r2 hr2 1)
        · refine zco_p tkX12_qTest 30 3 (pc' := 62) (L' := [(2, .int y2), (0, .ref v0), (1, .int v1)]) (S' := [.ref v0, .int 12, .ref v0]) rfl ?_
          refine zco_gi fl_12_276 rfl (zdk (cc := cX12_qTest) (q := (62, .getfield 276, 3)) tkX12_qTest 33 rfl) (fun x7 => ?_)
          refine zco_Vv (rc := 0) (rs := 0) (mc := 0) (ms := 0) (As := [.int 12, .int x7]) (S := []) vmX12_qOpens (mtX12_qOpens l e (by omega) v0 12 x7) q_1822 rfl rfl (Nat.le_of_ble_eq_true rfl) (zdk (cc := cX12_qTest) (q := (65, .invokevirtual 651, 3)) tkX12_qTest 34 rfl) ?_
          refine zco_p tkX12_qTest 35 2 (pc' := 70) (L' := [(2, .int y2), (0, .ref v0), (1, .int v1)]) (S' := [.ref v0, .ref v0]) rfl ?_
          refine zco_gr fl_12_195 rfl (zdk (cc := cX12_qTest) (q := (70, .getfield 195, 3)) tkX12_qTest 37 rfl) (fun x8 => ?_)
          refine zco_Vv (rc := 0) (rs := 0) (mc := 0) (ms := 0) (As := [.ref x8]) (S := []) vmX12_asks (mtX12_asks l e (by omega) v0 x8) q_1788 rfl rfl (Nat.le_of_ble_eq_true rfl) (zdk (cc := cX12_qTest) (q := (73, .invokevirtual 341, 3)) tkX12_qTest 38 rfl) ?_
          refine zco_p tkX12_qTest 39 1 (pc' := 2) (L' := [(2, .int y2), (0, .ref v0), (1, .int v1)]) (S' := []) rfl ?_
          exact zco_sub [1, 2] rfl (hr2 v1)
      · refine zco_p tkX12_qTest 13 3 (pc' := 28) (L' := [(2, .int y2), (0, .ref v0), (1, .int v1)]) (S' := [.ref v0, .int 25, .ref v0]) rfl ?_
        refine zco_gi fl_12_276 rfl (zdk (cc := cX12_qTest) (q := (28, .getfield 276, 3)) tkX12_qTest 16 rfl) (fun x9 => ?_)
        refine zco_Vv (rc := 0) (rs := 0) (mc := 0) (ms := 0) (As := [.int 25, .int x9]) (S := []) vmX12_qOpens (mtX12_qOpens l e (by omega) v0 25 x9) q_1822 rfl rfl (Nat.le_of_ble_eq_true rfl) (zdk (cc := cX12_qTest) (q := (31, .invokevirtual 651, 3)) tkX12_qTest 17 rfl) ?_
        refine zco_p tkX12_qTest 18 2 (pc' := 36) (L' := [(2, .int y2), (0, .ref v0), (1, .int v1)]) (S' := [.ref v0, .ref v0]) rfl ?_
        refine zco_gi fl_12_276 rfl (zdk (cc := cX12_qTest) (q := (36, .getfield 276, 3)) tkX12_qTest 20 rfl) (fun x10 => ?_)
        refine zco_p tkX12_qTest 21 2 (pc' := 41) (L' := [(2, .int y2), (0, .ref v0), (1, .int v1)]) (S' := [.int (x10 + 1), .ref v0]) rfl ?_
        refine zco_pi fl_12_276 rfl rfl (zdk (cc := cX12_qTest) (q := (41, .putfield 276, 3)) tkX12_qTest 23 rfl) ?_
        refine zco_p tkX12_qTest 24 1 (pc' := 2) (L' := [(2, .int y2), (0, .ref v0), (1, .int v1)]) (S' := []) rfl ?_
        exact zco_sub [1, 2] rfl (hr2 v1)
set_option maxHeartbeats 2000000 in
set_option maxRecDepth 20000 in
theorem coX12_qTest (l : Launch) (e : Nat) (he : 8 ≤ e) (v0 : Nat) : zCo l (e + 1) 0 0 iX12_qTest 0 [(0, .ref v0)] [] (X12_qTest v0) := by
  unfold X12_qTest
  refine zco_p tkX12_qTest 0 2 (pc' := 2) (L' := [(1, .int 1), (0, .ref v0)]) (S' := []) rfl ?_
  exact zco_sub [1, 0] rfl (zco_fix (Lf := fun x : Int32 => [(0, .ref v0), (1, .int x)]) (Sf := fun _ => []) (fun r hr x => coX12_qTest_B2 l e he v0 r hr x) zFU 1)
theorem mtX12_qTest (l : Launch) (d : Nat) (hd : 9 ≤ d) (v0 : Nat) : zMet l d 0 0 yX12_qTest cX12_qTest 3 (Option.none : Option FieldType) [.ref v0] (X12_qTest v0) := by
  obtain ⟨e, rfl⟩ : ∃ e, d = e + 1 := ⟨d - 1, by omega⟩
  exact zmet_of (own := RX12) (ini := false) (by decide +kernel) rfl (fun _ => by contradiction) (Nat.le_of_ble_eq_true rfl) (coX12_qTest l e (by omega) v0)
