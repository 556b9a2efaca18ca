abbrev iX12_likingOf : zI := (RX12, cX12_likingOf, 3, (Option.some .int), false)
def tX12_likingOf : List (Nat × Instr × Nat) := [(0, .aload_n 0, 1), (1, .getfield 134, 3), (4, .aload_n 0, 1), (5, .aload_n 0, 1), (6, .iload_n 1, 1), (7, .invokevirtual 429, 3), (10, .aload_n 0, 1), (11, .iload_n 2, 1), (12, .invokevirtual 429, 3), (15, .invokevirtual 432, 3), (18, .iaload, 1), (19, .ireturn, 1)]
set_option maxRecDepth 100000 in
theorem tkX12_likingOf : ∀ q ∈ tX12_likingOf, decode cX12_likingOf q.1 = .ok q.2 := by decide +kernel
theorem vmX12_likingOf : zVM yX12_likingOf cX12_likingOf 3 (Option.some .int) 2 12 := ⟨kX12_likingOf, q_2002, q_100, q_162, ⟨_, rfl, rfl⟩, by decide +kernel, by decide⟩
set_option maxHeartbeats 2000000 in
set_option maxRecDepth 20000 in
theorem coX12_likingOf (l : Launch) (e : Nat) (he : 2 ≤ e) (v0 : Nat) (v1 : Int32) (v2 : Int32) : zCo l (e + 1) 0 0 iX12_likingOf 0 [(0, .ref v0), (1, .int v1), (2, .int v2)] [] (X12_likingOf v0 v1 v2) := by
  unfold X12_likingOf
  refine zco_p tkX12_likingOf 0 1 (pc' := 1) (L' := [(0, .ref v0), (1, .int v1), (2, .int v2)]) (S' := [.ref v0]) rfl ?_
  refine zco_gr fl_12_134 rfl (zdk (cc := cX12_likingOf) (q := (1, .getfield 134, 3)) tkX12_likingOf 1 rfl) (fun x1 => ?_)
  refine zco_p tkX12_likingOf 2 3 (pc' := 7) (L' := [(0, .ref v0), (1, .int v1), (2, .int v2)]) (S' := [.int v1, .ref v0, .ref v0, .ref x1]) rfl ?_
  refine zco_Vi (rc := 0) (rs := 0) (mc := 0) (ms := 0) (As := [.int v1]) (S := [.ref v0, .ref x1]) vmX12_codeOf (mtX12_codeOf l e (by omega) v0 v1) q_1948 rfl rfl (Nat.le_of_ble_eq_true rfl) (zdk (cc := cX12_likingOf) (q := (7, .invokevirtual 429, 3)) tkX12_likingOf 5 rfl) (fun y2 => ?_)
  refine zco_p tkX12_likingOf 6 2 (pc' := 12) (L' := [(0, .ref v0), (1, .int v1), (2, .int v2)]) (S' := [.int v2, .ref v0, .int y2, .ref v0, .ref x1]) rfl ?_
  refine zco_Vi (rc := 0) (rs := 0) (mc := 0) (ms := 0) (As := [.int v2]) (S := [.int y2, .ref v0, .ref x1]) vmX12_codeOf (mtX12_codeOf l e (by omega) v0 v2) q_1948 rfl rfl (Nat.le_of_ble_eq_true rfl) (zdk (cc := cX12_likingOf) (q := (12, .invokevirtual 429, 3)) tkX12_likingOf 8 rfl) (fun y3 => ?_)
  refine zco_Vi (rc := 0) (rs := 0) (mc := 0) (ms := 0) (As := [.int y2, .int y3]) (S := [.ref x1]) vmX12_likingAt (mtX12_likingAt l e (by omega) v0 y2 y3) q_2004 rfl rfl (Nat.le_of_ble_eq_true rfl) (zdk (cc := cX12_likingOf) (q := (15, .invokevirtual 432, 3)) tkX12_likingOf 9 rfl) (fun y4 => ?_)
  refine zco_iaload (zdk (cc := cX12_likingOf) (q := (18, .iaload, 1)) tkX12_likingOf 10 rfl) (fun x5 => ?_)
  exact zco_iret rfl rfl rfl (zdk (cc := cX12_likingOf) (q := (19, .ireturn, 1)) tkX12_likingOf 11 rfl)
theorem mtX12_likingOf (l : Launch) (d : Nat) (hd : 3 ≤ d) (v0 : Nat) (v1 : Int32) (v2 : Int32) : zMet l d 0 0 yX12_likingOf cX12_likingOf 3 (Option.some .int) [.ref v0, .int v1, .int v2] (X12_likingOf v0 v1 v2) := by
  obtain ⟨e, rfl⟩ : ∃ e, d = e + 1 := ⟨d - 1, by omega⟩
  exact zmet_of (own := RX12) (ini := false) (by decide +kernel) rfl (fun _ => by contradiction) (Nat.le_of_ble_eq_true rfl) (coX12_likingOf l e (by omega) v0 v1 v2)
abbrev iX12_knowingOf : zI := (RX12, cX12_knowingOf, 3, (Option.some .int), false)
def tX12_knowingOf : List (Nat × Instr × Nat) := [(0, .aload_n 0, 1), (1, .getfield 134, 3), (4, .aload_n 0, 1), (5, .aload_n 0, 1), (6, .iload_n 1, 1), (7, .invokevirtual 429, 3), (10, .aload_n 0, 1), (11, .iload_n 2, 1), (12, .invokevirtual 429, 3), (15, .invokevirtual 435, 3), (18, .iaload, 1), (19, .ireturn, 1)]
set_option maxRecDepth 100000 in
theorem tkX12_knowingOf : ∀ q ∈ tX12_knowingOf, decode cX12_knowingOf q.1 = .ok q.2 := by decide +kernel
theorem vmX12_knowingOf : zVM yX12_knowingOf cX12_knowingOf 3 (Option.some .int) 2 12 := ⟨kX12_knowingOf, q_2010, q_102, q_162, ⟨_, rfl, rfl⟩, by decide +kernel, by decide⟩
set_option maxHeartbeats 2000000 in
set_option maxRecDepth 20000 in
theorem coX12_knowingOf (l : Launch) (e : Nat) (he : 2 ≤ e) (v0 : Nat) (v1 : Int32) (v2 : Int32) : zCo l (e + 1) 0 0 iX12_knowingOf 0 [(0, .ref v0), (1, .int v1), (2, .int v2)] [] (X12_knowingOf v0 v1 v2) := by
  unfold X12_knowingOf
  refine zco_p tkX12_knowingOf 0 1 (pc' := 1) (L' := [(0, .ref v0), (1, .int v1), (2, .int v2)]) (S' := [.ref v0]) rfl ?_
  refine zco_gr fl_12_134 rfl (zdk (cc := cX12_knowingOf) (q := (1, .getfield 134, 3)) tkX12_knowingOf 1 rfl) (fun x1 => ?_)
  refine zco_p tkX12_knowingOf 2 3 (pc' := 7) (L' := [(0, .ref v0), (1, .int v1), (2, .int v2)]) (S' := [.int v1, .ref v0, .ref v0, .ref x1]) rfl ?_
  refine zco_Vi (rc := 0) (rs := 0) (mc := 0) (ms := 0) (As := [.int v1]) (S := [.ref v0, .ref x1]) vmX12_codeOf (mtX12_codeOf l e (by omega) v0 v1) q_1948 rfl rfl (Nat.le_of_ble_eq_true rfl) (zdk (cc := cX12_knowingOf) (q := (7, .invokevirtual 429, 3)) tkX12_knowingOf 5 rfl) (fun y2 => ?_)
  refine zco_p tkX12_knowingOf 6 2 (pc' := 12) (L' := [(0, .ref v0), (1, .int v1), (2, .int v2)]) (S' := [.int v2, .ref v0, .int y2, .ref v0, .ref x1]) rfl ?_
  refine zco_Vi (rc := 0) (rs := 0) (mc := 0) (ms := 0) (As := [.int v2]) (S := [.int y2, .ref v0, .ref x1]) vmX12_codeOf (mtX12_codeOf l e (by omega) v0 v2) q_1948 rfl rfl (Nat.le_of_ble_eq_true rfl) (zdk (cc := cX12_knowingOf) (q := (12, .invokevirtual 429, 3)) tkX12_knowingOf 8 rfl) (fun y3 => ?_)
  refine zco_Vi (rc := 0) (rs := 0) (mc := 0) (ms := 0) (As := [.int y2, .int y3]) (S := [.ref x1]) vmX12_knowingAt (mtX12_knowingAt l e (by omega) v0 y2 y3) q_2012 rfl rfl (Nat.le_of_ble_eq_true rfl) (zdk (cc := cX12_knowingOf) (q := (15, .invokevirtual 435, 3)) tkX12_knowingOf 9 rfl) (fun y4 => ?_)
  refine zco_iaload (zdk (cc := cX12_knowingOf) (q := (18, .iaload, 1)) tkX12_knowingOf 10 rfl) (fun x5 => ?_)
  exact zco_iret rfl rfl rfl (zdk (cc := cX12_knowingOf) (q := (19, .ireturn, 1)) tkX12_knowingOf 11 rfl)
theorem mtX12_knowingOf (l : Launch) (d : Nat) (hd : 3 ≤ d) (v0 : Nat) (v1 : Int32) (v2 : Int32) : zMet l d 0 0 yX12_knowingOf cX12_knowingOf 3 (Option.some .int) [.ref v0, .int v1, .int v2] (X12_knowingOf v0 v1 v2) := by
  obtain ⟨e, rfl⟩ : ∃ e, d = e + 1 := ⟨d - 1, by omega⟩
  exact zmet_of (own := RX12) (ini := false) (by decide +kernel) rfl (fun _ => by contradiction) (Nat.le_of_ble_eq_true rfl) (coX12_knowingOf l e (by omega) v0 v1 v2)
abbrev iX12_wedTo : zI := (RX12, cX12_wedTo, 2, (Option.some .int), false)
def tX12_wedTo : List (Nat × Instr × Nat) := [(0, .aload_n 0, 1), (1, .getfield 134, 3), (4, .bipush 14, 2), (6, .aload_n 0, 1), (7, .iload_n 1, 1), (8, .invokevirtual 429, 3), (11, .iadd, 1), (12, .iaload, 1), (13, .ireturn, 1)]
set_option maxRecDepth 100000 in
theorem tkX12_wedTo : ∀ q ∈ tX12_wedTo, decode cX12_wedTo q.1 = .ok q.2 := by decide +kernel
theorem vmX12_wedTo : zVM yX12_wedTo cX12_wedTo 2 (Option.some .int) 1 12 := ⟨kX12_wedTo, q_1970, q_93, q_162, ⟨_, rfl, rfl⟩, by decide +kernel, by decide⟩
set_option maxHeartbeats 2000000 in
set_option maxRecDepth 20000 in
theorem coX12_wedTo (l : Launch) (e : Nat) (he : 2 ≤ e) (v0 : Nat) (v1 : Int32) : zCo l (e + 1) 0 0 iX12_wedTo 0 [(0, .ref v0), (1, .int v1)] [] (X12_wedTo v0 v1) := by
  unfold X12_wedTo
  refine zco_p tkX12_wedTo 0 1 (pc' := 1) (L' := [(0, .ref v0), (1, .int v1)]) (S' := [.ref v0]) rfl ?_
  refine zco_gr fl_12_134 rfl (zdk (cc := cX12_wedTo) (q := (1, .getfield 134, 3)) tkX12_wedTo 1 rfl) (fun x1 => ?_)
  refine zco_p tkX12_wedTo 2 3 (pc' := 8) (L' := [(0, .ref v0), (1, .int v1)]) (S' := [.int v1, .ref v0, .int 14, .ref x1]) rfl ?_
  refine zco_Vi (rc := 0) (rs := 0) (mc := 0) (ms := 0) (As := [.int v1]) (S := [.int 14, .ref x1]) vmX12_codeOf (mtX12_codeOf l e (by omega) v0 v1) q_1948 rfl rfl (Nat.le_of_ble_eq_true rfl) (zdk (cc := cX12_wedTo) (q := (8, .invokevirtual 429, 3)) tkX12_wedTo 5 rfl) (fun y2 => ?_)
  refine zco_p tkX12_wedTo 6 1 (pc' := 12) (L' := [(0, .ref v0), (1, .int v1)]) (S' := [.int (14 + y2), .ref x1]) rfl ?_
  refine zco_iaload (zdk (cc := cX12_wedTo) (q := (12, .iaload, 1)) tkX12_wedTo 7 rfl) (fun x3 => ?_)
  exact zco_iret rfl rfl rfl (zdk (cc := cX12_wedTo) (q := (13, .ireturn, 1)) tkX12_wedTo 8 rfl)
theorem mtX12_wedTo (l : Launch) (d : Nat) (hd : 3 ≤ d) (v0 : Nat) (v1 : Int32) : zMet l d 0 0 yX12_wedTo cX12_wedTo 2 (Option.some .int) [.ref v0, .int v1] (X12_wedTo v0 v1) := by
  obtain ⟨e, rfl⟩ : ∃ e, d = e + 1 := ⟨d - 1, by omega⟩
  exact zmet_of (own := RX12) (ini := false) (by decide +kernel) rfl (fun _ => by contradiction) (Nat.le_of_ble_eq_true rfl) (coX12_wedTo l e (by omega) v0 v1)
abbrev iX12_waitedOf : zI := (RX12, cX12_waitedOf, 2, (Option.some .int), false)
def tX12_waitedOf : List (Nat × Instr × Nat) := [(0, .aload_n 0, 1), (1, .getfield 134, 3), (4, .bipush 26, 2), (6, .aload_n 0, 1), (7, .iload_n 1, 1), (8, .invokevirtual 429, 3), (11, .iadd, 1), (12, .iaload, 1), (13, .ireturn, 1)]
set_option maxRecDepth 100000 in
theorem tkX12_waitedOf : ∀ q ∈ tX12_waitedOf, decode cX12_waitedOf q.1 = .ok q.2 := by decide +kernel
theorem vmX12_waitedOf : zVM yX12_waitedOf cX12_waitedOf 2 (Option.some .int) 1 12 := ⟨kX12_waitedOf, q_1982, q_96, q_162, ⟨_, rfl, rfl⟩, by decide +kernel, by decide⟩
set_option maxHeartbeats 2000000 in
set_option maxRecDepth 20000 in
theorem coX12_waitedOf (l : Launch) (e : Nat) (he : 2 ≤ e) (v0 : Nat) (v1 : Int32) : zCo l (e + 1) 0 0 iX12_waitedOf 0 [(0, .ref v0), (1, .int v1)] [] (X12_waitedOf v0 v1) := by
  unfold X12_waitedOf
  refine zco_p tkX12_waitedOf 0 1 (pc' := 1) (L' := [(0, .ref v0), (1, .int v1)]) (S' := [.ref v0]) rfl ?_
  refine zco_gr fl_12_134 rfl (zdk (cc := cX12_waitedOf) (q := (1, .getfield 134, 3)) tkX12_waitedOf 1 rfl) (fun x1 => ?_)
  refine zco_p tkX12_waitedOf 2 3 (pc' := 8) (L' := [(0, .ref v0), (1, .int v1)]) (S' := [.int v1, .ref v0, .int 26, .ref x1]) rfl ?_
  refine zco_Vi (rc := 0) (rs := 0) (mc := 0) (ms := 0) (As := [.int v1]) (S := [.int 26, .ref x1]) vmX12_codeOf (mtX12_codeOf l e (by omega) v0 v1) q_1948 rfl rfl (Nat.le_of_ble_eq_true rfl) (zdk (cc := cX12_waitedOf) (q := (8, .invokevirtual 429, 3)) tkX12_waitedOf 5 rfl) (fun y2 => ?_)
  refine zco_p tkX12_waitedOf 6 1 (pc' := 12) (L' := [(0, .ref v0), (1, .int v1)]) (S' := [.int (26 + y2), .ref x1]) rfl ?_
  refine zco_iaload (zdk (cc := cX12_waitedOf) (q := (12, .iaload, 1)) tkX12_waitedOf 7 rfl) (fun x3 => ?_)
  exact zco_iret rfl rfl rfl (zdk (cc := cX12_waitedOf) (q := (13, .ireturn, 1)) tkX12_waitedOf 8 rfl)
theorem mtX12_waitedOf (l : Launch) (d : Nat) (hd : 3 ≤ d) (v0 : Nat) (v1 : Int32) : zMet l d 0 0 yX12_waitedOf cX12_waitedOf 2 (Option.some .int) [.ref v0, .int v1] (X12_waitedOf v0 v1) := by
  obtain ⟨e, rfl⟩ : ∃ e, d = e + 1 := ⟨d - 1, by omega⟩
  exact zmet_of (own := RX12) (ini := false) (by decide +kernel) rfl (fun _ => by contradiction) (Nat.le_of_ble_eq_true rfl) (coX12_waitedOf l e (by omega) v0 v1)
abbrev iX12_areKin : zI := (RX12, cX12_areKin, 3, (Option.some .boolean), false)
def tX12_areKin : List (Nat × Instr × Nat) := [(0, .iload_n 1, 1), (1, .bipush 6, 2), (3, .if_icmp .ge 23, 3), (6, .aload_n 0, 1), (7, .getfield 115, 3), (10, .bipush 36, 2), (12, .bipush 6, 2), (14, .iload_n 1, 1), (15, .imul, 1), (16, .iadd, 1), (17, .iload_n 2, 1), (18, .bipush 6, 2), (20, .irem, 1), (21, .iadd, 1), (22, .baload, 1), (23, .goto 20, 3), (26, .aload_n 0, 1), (27, .getfield 115, 3), (30, .bipush 36, 2), (32, .bipush 6, 2), (34, .iload_n 2, 1), (35, .imul, 1), (36, .iadd, 1), (37, .iload_n 1, 1), (38, .bipush 6, 2), (40, .irem, 1), (41, .iadd, 1), (42, .baload, 1), (43, .ireturn, 1)]
set_option maxRecDepth 100000 in
theorem tkX12_areKin : ∀ q ∈ tX12_areKin, decode cX12_areKin q.1 = .ok q.2 := by decide +kernel
theorem vmX12_areKin : zVM yX12_areKin cX12_areKin 3 (Option.some .boolean) 2 12 := ⟨kX12_areKin, q_2061, q_112, q_162, ⟨_, rfl, rfl⟩, by decide +kernel, by decide⟩
set_option maxHeartbeats 2000000 in
set_option maxRecDepth 20000 in
theorem coX12_areKin (l : Launch) (e : Nat) (he : 0 ≤ e) (v0 : Nat) (v1 : Int32) (v2 : Int32) : zCo l (e + 1) 0 0 iX12_areKin 0 [(0, .ref v0), (1, .int v1), (2, .int v2)] [] (X12_areKin v0 v1 v2) := by
  unfold X12_areKin
  refine zco_p tkX12_areKin 0 2 (pc' := 3) (L' := [(0, .ref v0), (1, .int v1), (2, .int v2)]) (S' := [.int 6, .int v1]) rfl ?_
  refine zco_icmp_ge (tgt := 26) (zdk (cc := cX12_areKin) (q := (3, .if_icmp .ge 23, 3)) tkX12_areKin 2 rfl) rfl ?_ ?_
  · refine zco_p tkX12_areKin 16 1 (pc' := 27) (L' := [(0, .ref v0), (1, .int v1), (2, .int v2)]) (S' := [.ref v0]) rfl ?_
    refine zco_gr fl_12_115 rfl (zdk (cc := cX12_areKin) (q := (27, .getfield 115, 3)) tkX12_areKin 17 rfl) (fun x1 => ?_)
    refine zco_p tkX12_areKin 18 7 (pc' := 40) (L' := [(0, .ref v0), (1, .int v1), (2, .int v2)]) (S' := [.int 6, .int v1, .int (36 + (6 * v2)), .ref x1]) rfl ?_
    refine zco_irem (zdk (cc := cX12_areKin) (q := (40, .irem, 1)) tkX12_areKin 25 rfl) ?_
    refine zco_p tkX12_areKin 26 1 (pc' := 42) (L' := [(0, .ref v0), (1, .int v1), (2, .int v2)]) (S' := [.int ((36 + (6 * v2)) + (v1 - v1 / 6 * 6)), .ref x1]) rfl ?_
    refine zco_baload (zdk (cc := cX12_areKin) (q := (42, .baload, 1)) tkX12_areKin 27 rfl) (fun x2 => ?_)
    exact zco_zret rfl rfl rfl (zdk (cc := cX12_areKin) (q := (43, .ireturn, 1)) tkX12_areKin 28 rfl)
  · refine zco_p tkX12_areKin 3 1 (pc' := 7) (L' := [(0, .ref v0), (1, .int v1), (2, .int v2)]) (S' := [.ref v0]) rfl ?_
    refine zco_gr fl_12_115 rfl (zdk (cc := cX12_areKin) (q := (7, .getfield 115, 3)) tkX12_areKin 4 rfl) (fun x3 => ?_)
    refine zco_p tkX12_areKin 5 7 (pc' := 20) (L' := [(0, .ref v0), (1, .int v1), (2, .int v2)]) (S' := [.int 6, .int v2, .int (36 + (6 * v1)), .ref x3]) rfl ?_
    refine zco_irem (zdk (cc := cX12_areKin) (q := (20, .irem, 1)) tkX12_areKin 12 rfl) ?_
    refine zco_p tkX12_areKin 13 1 (pc' := 22) (L' := [(0, .ref v0), (1, .int v1), (2, .int v2)]) (S' := [.int ((36 + (6 * v1)) + (v2 - v2 / 6 * 6)), .ref x3]) rfl ?_
    refine zco_baload (zdk (cc := cX12_areKin) (q := (22, .baload, 1)) tkX12_areKin 14 rfl) (fun x4 => ?_)
    refine zco_p tkX12_areKin 15 1 (pc' := 43) (L' := [(0, .ref v0), (1, .int v1), (2, .int v2)]) (S' := [.int x4]) rfl ?_
    exact zco_zret rfl rfl rfl (zdk (cc := cX12_areKin) (q := (43, .ireturn, 1)) tkX12_areKin 28 rfl)
theorem mtX12_areKin (l : Launch) (d : Nat) (hd : 1 ≤ d) (v0 : Nat) (v1 : Int32) (v2 : Int32) : zMet l d 0 0 yX12_areKin cX12_areKin 3 (Option.some .boolean) [.ref v0, .int v1, .int v2] (X12_areKin v0 v1 v2) := by
  obtain ⟨e, rfl⟩ : ∃ e, d = e + 1 := ⟨d - 1, by omega⟩
  exact zmet_of (own := RX12) (ini := false) (by decide +kernel) rfl (fun _ => by contradiction) (Nat.le_of_ble_eq_true rfl) (coX12_areKin l e (by omega) v0 v1 v2)
abbrev iX12_handOf : zI := (RX12, cX12_handOf, 3, (Option.some .int), false)
def tX12_handOf : List (Nat × Instr × Nat) := [(0, .iload_n 2, 1), (1, .iconst 2, 1), (2, .if_icmp .ne 18, 3), (5, .iload_n 1, 1), (6, .aload_n 0, 1), (7, .getfield 137, 3), (10, .if_icmp .ne 10, 3), (13, .aload_n 0, 1), (14, .getfield 438, 3), (17, .goto 20, 3), (20, .aload_n 0, 1), (21, .getfield 112, 3), (24, .bipush 36, 2), (26, .iconst 3, 1), (27, .aload_n 0, 1), (28, .iload_n 1, 1), (29, .invokevirtual 429, 3), (32, .imul, 1), (33, .iadd, 1), (34, .iload_n 2, 1), (35, .iadd, 1), (36, .iaload, 1), (37, .ireturn, 1)]
set_option maxRecDepth 100000 in
theorem tkX12_handOf : ∀ q ∈ tX12_handOf, decode cX12_handOf q.1 = .ok q.2 := by decide +kernel
theorem vmX12_handOf : zVM yX12_handOf cX12_handOf 3 (Option.some .int) 2 12 := ⟨kX12_handOf, q_1966, q_92, q_162, ⟨_, rfl, rfl⟩, by decide +kernel, by decide⟩
set_option maxHeartbeats 2000000 in
set_option maxRecDepth 20000 in
theorem coX12_handOf_J20 (l : Launch) (e : Nat) (he : 2 ≤ e) (v0 : Nat) (v1 : Int32) (v2 : Int32) : zCo l (e + 1) 0 0 iX12_handOf 20 [(0, .ref v0), (1, .int v1), (2, .int v2)] [] (X12_handOf_J20 v0 v1 v2) := by
  unfold X12_handOf_J20
  refine zco_p tkX12_handOf 10 1 (pc' := 21) (L' := [(0, .ref v0), (1, .int v1), (2, .int v2)]) (S' := [.ref v0]) rfl ?_
  refine zco_gr fl_12_112 rfl (zdk (cc := cX12_handOf) (q := (21, .getfield 112, 3)) tkX12_handOf 11 rfl) (fun x1 => ?_)
  refine zco_p tkX12_handOf 12 4 (pc' := 29) (L' := [(0, .ref v0), (1, .int v1), (2, .int v2)]) (S' := [.int v1, .ref v0, .int 3, .int 36, .ref x1]) rfl ?_
  refine zco_Vi (rc := 0) (rs := 0) (mc := 0) (ms := 0) (As := [.int v1]) (S := [.int 3, .int 36, .ref x1]) vmX12_codeOf (mtX12_codeOf l e (by omega) v0 v1) q_1948 rfl rfl (Nat.le_of_ble_eq_true rfl) (zdk (cc := cX12_handOf) (q := (29, .invokevirtual 429, 3)) tkX12_handOf 16 rfl) (fun y2 => ?_)
  refine zco_p tkX12_handOf 17 4 (pc' := 36) (L' := [(0, .ref v0), (1, .int v1), (2, .int v2)]) (S' := [.int ((36 + (3 * y2)) + v2), .ref x1]) rfl ?_
  refine zco_iaload (zdk (cc := cX12_handOf) (q := (36, .iaload, 1)) tkX12_handOf 21 rfl) (fun x3 => ?_)
  exact zco_iret rfl rfl rfl (zdk (cc := cX12_handOf) (q := (37, .ireturn, 1)) tkX12_handOf 22 rfl)
set_option maxHeartbeats 2000000 in
set_option maxRecDepth 20000 in
theorem coX12_handOf (l : Launch) (e : Nat) (he : 2 ≤ e) (v0 : Nat) (v1 : Int32) (v2 : Int32) : zCo l (e + 1) 0 0 iX12_handOf 0 [(0, .ref v0), (1, .int v1), (2, .int v2)] [] (X12_handOf v0 v1 v2) := by
  unfold X12_handOf
  refine zco_p tkX12_handOf 0 2 (pc' := 2) (L' := [(0, .ref v0), (1, .int v1), (2, .int v2)]) (S' := [.int 2, .int v2]) rfl ?_
  refine zco_icmp_ne (tgt := 20) (zdk (cc := cX12_handOf) (q := (2, .if_icmp .ne 18, 3)) tkX12_handOf 2 rfl) rfl ?_ ?_
  · exact zco_sub [0, 1, 2] rfl (coX12_handOf_J20 l e he v0 v1 v2)
  · refine zco_p tkX12_handOf 3 2 (pc' := 7) (L' := [(0, .ref v0), (1, .int v1), (2, .int v2)]) (S' := [.ref v0, .int v1]) rfl ?_
    refine zco_gi fl_12_137 rfl (zdk (cc := cX12_handOf) (q := (7, .getfield 137, 3)) tkX12_handOf 5 rfl) (fun x1 => ?_)
    refine zco_icmp_ne (tgt := 20) (zdk (cc := cX12_handOf) (q := (10, .if_icmp .ne 10, 3)) tkX12_handOf 6 rfl) rfl ?_ ?_
    · exact zco_sub [0, 1, 2] rfl (coX12_handOf_J20 l e he v0 v1 v2)
    · refine zco_p tkX12_handOf 7 1 (pc' := 14) (L' := [(0, .ref v0), (1, .int v1), (2, .int v2)]) (S' := [.ref v0]) rfl ?_
      refine zco_gi fl_12_438 rfl (zdk (cc := cX12_handOf) (q := (14, .getfield 438, 3)) tkX12_handOf 8 rfl) (fun x2 => ?_)
      refine zco_p tkX12_handOf 9 1 (pc' := 37) (L' := [(0, .ref v0), (1, .int v1), (2, .int v2)]) (S' := [.int x2]) rfl ?_
      exact zco_iret rfl rfl rfl (zdk (cc := cX12_handOf) (q := (37, .ireturn, 1)) tkX12_handOf 22 rfl)
theorem mtX12_handOf (l : Launch) (d : Nat) (hd : 3 ≤ d) (v0 : Nat) (v1 : Int32) (v2 : Int32) : zMet l d 0 0 yX12_handOf cX12_handOf 3 (Option.some .int) [.ref v0, .int v1, .int v2] (X12_handOf v0 v1 v2) := by
  obtain ⟨e, rfl⟩ : ∃ e, d = e + 1 := ⟨d - 1, by omega⟩
  exact zmet_of (own := RX12) (ini := false) (by decide +kernel) rfl (fun _ => by contradiction) (Nat.le_of_ble_eq_true rfl) (coX12_handOf l e (by omega) v0 v1 v2)
abbrev iX12_isCoded : zI := (RX12, cX12_isCoded, 2, (Option.some .boolean), false)
def tX12_isCoded : List (Nat × Instr × Nat) := [(0, .aload_n 0, 1), (1, .getfield 125, 3), (4, .iconst 3, 1), (5, .iload_n 1, 1), (6, .iadd, 1), (7, .iaload, 1), (8, .iconst (-1), 1), (9, .if_icmp .eq 7, 3), (12, .iconst 1, 1), (13, .goto 4, 3), (16, .iconst 0, 1), (17, .ireturn, 1)]
set_option maxRecDepth 100000 in
theorem tkX12_isCoded : ∀ q ∈ tX12_isCoded, decode cX12_isCoded q.1 = .ok q.2 := by decide +kernel
theorem vmX12_isCoded : zVM yX12_isCoded cX12_isCoded 2 (Option.some .boolean) 1 12 := ⟨kX12_isCoded, q_2026, q_106, q_162, ⟨_, rfl, rfl⟩, by decide +kernel, by decide⟩
set_option maxHeartbeats 2000000 in
set_option maxRecDepth 20000 in
theorem coX12_isCoded (l : Launch) (e : Nat) (he : 0 ≤ e) (v0 : Nat) (v1 : Int32) : zCo l (e + 1) 0 0 iX12_isCoded 0 [(0, .ref v0), (1, .int v1)] [] (X12_isCoded v0 v1) := by
  unfold X12_isCoded
  refine zco_p tkX12_isCoded 0 1 (pc' := 1) (L' := [(0, .ref v0), (1, .int v1)]) (S' := [.ref v0]) rfl ?_
  refine zco_gr fl_12_125 rfl (zdk (cc := cX12_isCoded) (q := (1, .getfield 125, 3)) tkX12_isCoded 1 rfl) (fun x1 => ?_)
  refine zco_p tkX12_isCoded 2 3 (pc' := 7) (L' := [(0, .ref v0), (1, .int v1)]) (S' := [.int (3 + v1), .ref x1]) rfl ?_
  refine zco_iaload (zdk (cc := cX12_isCoded) (q := (7, .iaload, 1)) tkX12_isCoded 5 rfl) (fun x2 => ?_)
  refine zco_p tkX12_isCoded 6 1 (pc' := 9) (L' := [(0, .ref v0), (1, .int v1)]) (S' := [.int ((-1)), .int x2]) rfl ?_
  refine zco_icmp_eq (tgt := 16) (zdk (cc := cX12_isCoded) (q := (9, .if_icmp .eq 7, 3)) tkX12_isCoded 7 rfl) rfl ?_ ?_
  · refine zco_p tkX12_isCoded 10 1 (pc' := 17) (L' := [(0, .ref v0), (1, .int v1)]) (S' := [.int 0]) rfl ?_
    exact zco_zret rfl rfl rfl (zdk (cc := cX12_isCoded) (q := (17, .ireturn, 1)) tkX12_isCoded 11 rfl)
  · refine zco_p tkX12_isCoded 8 2 (pc' := 17) (L' := [(0, .ref v0), (1, .int v1)]) (S' := [.int 1]) rfl ?_
    exact zco_zret rfl rfl rfl (zdk (cc := cX12_isCoded) (q := (17, .ireturn, 1)) tkX12_isCoded 11 rfl)
theorem mtX12_isCoded (l : Launch) (d : Nat) (hd : 1 ≤ d) (v0 : Nat) (v1 : Int32) : zMet l d 0 0 yX12_isCoded cX12_isCoded 2 (Option.some .boolean) [.ref v0, .int v1] (X12_isCoded v0 v1) := by
  obtain ⟨e, rfl⟩ : ∃ e, d = e + 1 := ⟨d - 1, by omega⟩
  exact zmet_of (own := RX12) (ini := false) (by decide +kernel) rfl (fun _ => by contradiction) (Nat.le_of_ble_eq_true rfl) (coX12_isCoded l e (by omega) v0 v1)
abbrev iX12_qPuts : zI := (RX12, cX12_qPuts, 3, (Option.none : Option FieldType), false)
def tX12_qPuts : List (Nat × Instr × Nat) := [(0, .aload_n 0, 1), (1, .getfield 261, 3), (4, .aload_n 0, 1), (5, .getfield 441, 3), (8, .lload_n 1, 1), (9, .lastore, 1), (10, .aload_n 0, 1), (11, .dup, 1), (12, .getfield 441, 3), (15, .iconst 1, 1), (16, .iadd, 1), (17, .putfield 441, 3), (20, .return_, 1)]
set_option maxRecDepth 100000 in
theorem tkX12_qPuts : ∀ q ∈ tX12_qPuts, decode cX12_qPuts q.1 = .ok q.2 := by decide +kernel
theorem vmX12_qPuts : zVM yX12_qPuts cX12_qPuts 3 (Option.none : Option FieldType) 1 12 := ⟨kX12_qPuts, q_2034, q_108, q_162, ⟨_, rfl, rfl⟩, by decide +kernel, by decide⟩
set_option maxHeartbeats 2000000 in
set_option maxRecDepth 20000 in
theorem coX12_qPuts (l : Launch) (e : Nat) (he : 0 ≤ e) (v0 : Nat) (v1 : Int64) : zCo l (e + 1) 0 0 iX12_qPuts 0 [(0, .ref v0), (1, .long v1)] [] (X12_qPuts v0 v1) := by
  unfold X12_qPuts
  refine zco_p tkX12_qPuts 0 1 (pc' := 1) (L' := [(0, .ref v0), (1, .long v1)]) (S' := [.ref v0]) rfl ?_
  refine zco_gr fl_12_261 rfl (zdk (cc := cX12_qPuts) (q := (1, .getfield 261, 3)) tkX12_qPuts 1 rfl) (fun x1 => ?_)
  refine zco_p tkX12_qPuts 2 1 (pc' := 5) (L' := [(0, .ref v0), (1, .long v1)]) (S' := [.ref v0, .ref x1]) rfl ?_
  refine zco_gi fl_12_441 rfl (zdk (cc := cX12_qPuts) (q := (5, .getfield 441, 3)) tkX12_qPuts 3 rfl) (fun x2 => ?_)
  refine zco_p tkX12_qPuts 4 1 (pc' := 9) (L' := [(0, .ref v0), (1, .long v1)]) (S' := [.long v1, .int x2, .ref x1]) rfl ?_
  refine zco_lastore (zdk (cc := cX12_qPuts) (q := (9, .lastore, 1)) tkX12_qPuts 5 rfl) ?_
  refine zco_p tkX12_qPuts 6 2 (pc' := 12) (L' := [(0, .ref v0), (1, .long v1)]) (S' := [.ref v0, .ref v0]) rfl ?_
  refine zco_gi fl_12_441 rfl (zdk (cc := cX12_qPuts) (q := (12, .getfield 441, 3)) tkX12_qPuts 8 rfl) (fun x3 => ?_)
  refine zco_p tkX12_qPuts 9 2 (pc' := 17) (L' := [(0, .ref v0), (1, .long v1)]) (S' := [.int (x3 + 1), .ref v0]) rfl ?_
  refine zco_pi fl_12_441 rfl rfl (zdk (cc := cX12_qPuts) (q := (17, .putfield 441, 3)) tkX12_qPuts 11 rfl) ?_
  exact zco_vret rfl rfl rfl (zdk (cc := cX12_qPuts) (q := (20, .return_, 1)) tkX12_qPuts 12 rfl)
theorem mtX12_qPuts (l : Launch) (d : Nat) (hd : 1 ≤ d) (v0 : Nat) (v1 : Int64) : zMet l d 0 0 yX12_qPuts cX12_qPuts 3 (Option.none : Option FieldType) [.ref v0, .long v1] (X12_qPuts v0 v1) := by
  obtain ⟨e, rfl⟩ : ∃ e, d = e + 1 := ⟨d - 1, by omega⟩
  exact zmet_of (own := RX12) (ini := false) (by decide +kernel) rfl (fun _ => by contradiction) (Nat.le_of_ble_eq_true rfl) (coX12_qPuts l e (by omega) v0 v1)
abbrev iX12_qPartOf : zI := (RX12, cX12_qPartOf, 3, (Option.some .long), false)
def tX12_qPartOf : List (Nat × Instr × Nat) := [(0, .iload_n 1, 1), (1, .tableswitch 152 0 10 #[59, 65, 73, 84, 95, 106, 112, 118, 126, 136, 142], 59), (60, .aload_n 0, 1), (61, .getfield 464, 3), (64, .i2l, 1), (65, .lreturn, 1), (66, .aload_n 0, 1), (67, .getfield 134, 3), (70, .iconst 0, 1), (71, .iaload, 1), (72, .i2l, 1), (73, .lreturn, 1), (74, .aload_n 0, 1), (75, .aload_n 0, 1), (76, .getfield 461, 3), (79, .iconst 0, 1), (80, .invokevirtual 536, 3), (83, .i2l, 1), (84, .lreturn, 1), (85, .aload_n 0, 1), (86, .aload_n 0, 1), (87, .getfield 461, 3), (90, .iconst 1, 1), (91, .invokevirtual 536, 3), (94, .i2l, 1), (95, .lreturn, 1), (96, .aload_n 0, 1), (97, .aload_n 0, 1), (98, .getfield 461, 3), (101, .iconst 2, 1), (102, .invokevirtual 536, 3), (105, .i2l, 1), (106, .lreturn, 1), (107, .aload_n 0, 1), (108, .getfield 467, 3), (111, .i2l, 1), (112, .lreturn, 1), (113, .aload_n 0, 1), (114, .getfield 487, 3), (117, .i2l, 1), (118, .lreturn, 1), (119, .aload_n 0, 1), (120, .getfield 134, 3), (123, .iconst 1, 1), (124, .iaload, 1), (125, .i2l, 1), (126, .lreturn, 1), (127, .aload_n 0, 1), (128, .aload_n 0, 1), (129, .getfield 458, 3), (132, .invokevirtual 524, 3), (135, .i2l, 1), (136, .lreturn, 1), (137, .aload_n 0, 1), (138, .getfield 458, 3), (141, .i2l, 1), (142, .lreturn, 1), (143, .aload_n 0, 1), (144, .aload_n 0, 1), (145, .getfield 458, 3), (148, .invokevirtual 426, 3), (151, .i2l, 1), (152, .lreturn, 1), (153, .aload_n 0, 1), (154, .aload_n 0, 1), (155, .getfield 458, 3), (158, .invokevirtual 521, 3), (161, .iconst (-1), 1), (162, .if_icmp .eq 7, 3), (165, .lconst 1, 1), (166, .goto 4, 3), (169, .lconst 0, 1), (170, .lreturn, 1)]
set_option maxRecDepth 100000 in
theorem tkX12_qPartOf : ∀ q ∈ tX12_qPartOf, decode cX12_qPartOf q.1 = .ok q.2 := by decide +kernel
theorem vmX12_qPartOf : zVM yX12_qPartOf cX12_qPartOf 3 (Option.some .long) 2 12 := ⟨kX12_qPartOf, q_2038, q_109, q_162, ⟨_, rfl, rfl⟩, by decide +kernel, by decide⟩
set_option maxHeartbeats 2000000 in
set_option maxRecDepth 20000 in
theorem coX12_qPartOf (l : Launch) (e : Nat) (he : 3 ≤ e) (v0 : Nat) (v1 : Int32) (v2 : Int32) : zCo l (e + 1) 0 0 iX12_qPartOf 0 [(0, .ref v0), (1, .int v1), (2, .int v2)] [] (X12_qPartOf v0 v1 v2) := by
  unfold X12_qPartOf
  refine zco_p tkX12_qPartOf 0 1 (pc' := 1) (L' := [(0, .ref v0), (1, .int v1), (2, .int v2)]) (S' := [.int v1]) rfl ?_
  refine @zco_tab l (e + 1) 0 0 iX12_qPartOf 1 [(0, .ref v0), (1, .int v1), (2, .int v2)] [] _ v1 152 0 10 #[59, 65, 73, 84, 95, 106, 112, 118, 126, 136, 142] 59 (zdk (cc := cX12_qPartOf) (q := (1, .tableswitch 152 0 10 #[59, 65, 73, 84, 95, 106, 112, 118, 126, 136, 142], 59)) tkX12_qPartOf 1 rfl) 153 rfl [60, 66, 74, 85, 96, 107, 113, 119, 127, 137, 143] (X12_qPartOf_S1 v0) (by decide) (by decide) ?_ (fun j t ht => ?_)
  · refine zco_p tkX12_qPartOf 63 2 (pc' := 155) (L' := [(0, .ref v0), (1, .int v1), (2, .int v2)]) (S' := [.ref v0, .ref v0]) rfl ?_
    refine zco_gi fl_12_458 rfl (zdk (cc := cX12_qPartOf) (q := (155, .getfield 458, 3)) tkX12_qPartOf 65 rfl) (fun x1 => ?_)
    refine zco_Vi (rc := 0) (rs := 0) (mc := 0) (ms := 0) (As := [.int x1]) (S := []) vmX12_wedTo (mtX12_wedTo l e (by omega) v0 x1) q_1968 rfl rfl (Nat.le_of_ble_eq_true rfl) (zdk (cc := cX12_qPartOf) (q := (158, .invokevirtual 521, 3)) tkX12_qPartOf 66 rfl) (fun y2 => ?_)
    refine zco_p tkX12_qPartOf 67 1 (pc' := 162) (L' := [(0, .ref v0), (1, .int v1), (2, .int v2)]) (S' := [.int ((-1)), .int y2]) rfl ?_
    refine zco_icmp_eq (tgt := 169) (zdk (cc := cX12_qPartOf) (q := (162, .if_icmp .eq 7, 3)) tkX12_qPartOf 68 rfl) rfl ?_ ?_
    · refine zco_p tkX12_qPartOf 71 1 (pc' := 170) (L' := [(0, .ref v0), (1, .int v1), (2, .int v2)]) (S' := [.long 0]) rfl ?_
      exact zco_lret rfl rfl rfl (zdk (cc := cX12_qPartOf) (q := (170, .lreturn, 1)) tkX12_qPartOf 72 rfl)
    · refine zco_p tkX12_qPartOf 69 2 (pc' := 170) (L' := [(0, .ref v0), (1, .int v1), (2, .int v2)]) (S' := [.long 1]) rfl ?_
      exact zco_lret rfl rfl rfl (zdk (cc := cX12_qPartOf) (q := (170, .lreturn, 1)) tkX12_qPartOf 72 rfl)
  · match j, ht with
    | 0, ht =>
      cases ht
      show zCo l (e + 1) 0 0 iX12_qPartOf 60 [(0, .ref v0), (1, .int v1), (2, .int v2)] [] (z_gi 12 58 v0 fun x3 => z_ret (some (.long x3.toInt64)))
      refine zco_p tkX12_qPartOf 2 1 (pc' := 61) (L' := [(0, .ref v0), (1, .int v1), (2, .int v2)]) (S' := [.ref v0]) rfl ?_
      refine zco_gi fl_12_464 rfl (zdk (cc := cX12_qPartOf) (q := (61, .getfield 464, 3)) tkX12_qPartOf 3 rfl) (fun x3 => ?_)
      refine zco_p tkX12_qPartOf 4 1 (pc' := 65) (L' := [(0, .ref v0), (1, .int v1), (2, .int v2)]) (S' := [.long x3.toInt64]) rfl ?_
      exact zco_lret rfl rfl rfl (zdk (cc := cX12_qPartOf) (q := (65, .lreturn, 1)) tkX12_qPartOf 5 rfl)
    | 1, ht =>
      cases ht
      show zCo l (e + 1) 0 0 iX12_qPartOf 66 [(0, .ref v0), (1, .int v1), (2, .int v2)] [] (z_gr 12 52 v0 fun x4 => z_la 20 x4 0 fun x5 => z_ret (some (.long x5.toInt64)))
      refine zco_p tkX12_qPartOf 6 1 (pc' := 67) (L' := [(0, .ref v0), (1, .int v1), (2, .int v2)]) (S' := [.ref v0]) rfl ?_
      refine zco_gr fl_12_134 rfl (zdk (cc := cX12_qPartOf) (q := (67, .getfield 134, 3)) tkX12_qPartOf 7 rfl) (fun x4 => ?_)
      refine zco_p tkX12_qPartOf 8 1 (pc' := 71) (L' := [(0, .ref v0), (1, .int v1), (2, .int v2)]) (S' := [.int 0, .ref x4]) rfl ?_
      refine zco_iaload (zdk (cc := cX12_qPartOf) (q := (71, .iaload, 1)) tkX12_qPartOf 9 rfl) (fun x5 => ?_)
      refine zco_p tkX12_qPartOf 10 1 (pc' := 73) (L' := [(0, .ref v0), (1, .int v1), (2, .int v2)]) (S' := [.long x5.toInt64]) rfl ?_
      exact zco_lret rfl rfl rfl (zdk (cc := cX12_qPartOf) (q := (73, .lreturn, 1)) tkX12_qPartOf 11 rfl)
    | 2, ht =>
      cases ht
      show zCo l (e + 1) 0 0 iX12_qPartOf 74 [(0, .ref v0), (1, .int v1), (2, .int v2)] [] (z_gi 12 57 v0 fun x6 => z_rc 12 v0 (z_ci (X12_handOf v0 x6 0) fun y7 => z_ret (some (.long y7.toInt64))))
      refine zco_p tkX12_qPartOf 12 2 (pc' := 76) (L' := [(0, .ref v0), (1, .int v1), (2, .int v2)]) (S' := [.ref v0, .ref v0]) rfl ?_
      refine zco_gi fl_12_461 rfl (zdk (cc := cX12_qPartOf) (q := (76, .getfield 461, 3)) tkX12_qPartOf 14 rfl) (fun x6 => ?_)
      refine zco_p tkX12_qPartOf 15 1 (pc' := 80) (L' := [(0, .ref v0), (1, .int v1), (2, .int v2)]) (S' := [.int 0, .int x6, .ref v0]) rfl ?_
      refine zco_Vi (rc := 0) (rs := 0) (mc := 0) (ms := 0) (As := [.int x6, .int 0]) (S := []) vmX12_handOf (mtX12_handOf l e (by omega) v0 x6 0) q_1964 rfl rfl (Nat.le_of_ble_eq_true rfl) (zdk (cc := cX12_qPartOf) (q := (80, .invokevirtual 536, 3)) tkX12_qPartOf 16 rfl) (fun y7 => ?_)
      refine zco_p tkX12_qPartOf 17 1 (pc' := 84) (L' := [(0, .ref v0), (1, .int v1), (2, .int v2)]) (S' := [.long y7.toInt64]) rfl ?_
      exact zco_lret rfl rfl rfl (zdk (cc := cX12_qPartOf) (q := (84, .lreturn, 1)) tkX12_qPartOf 18 rfl)
    | 3, ht =>
      cases ht
      show zCo l (e + 1) 0 0 iX12_qPartOf 85 [(0, .ref v0), (1, .int v1), (2, .int v2)] [] (z_gi 12 57 v0 fun x8 => z_rc 12 v0 (z_ci (X12_handOf v0 x8 1) fun y9 => z_ret (some (.long y9.toInt64))))
      refine zco_p tkX12_qPartOf 19 2 (pc' := 87) (L' := [(0, .ref v0), (1, .int v1), (2, .int v2)]) (S' := [.ref v0, .ref v0]) rfl ?_
      refine zco_gi fl_12_461 rfl (zdk (cc := cX12_qPartOf) (q := (87, .getfield 461, 3)) tkX12_qPartOf 21 rfl) (fun x8 => ?_)
      refine zco_p tkX12_qPartOf 22 1 (pc' := 91) (L' := [(0, .ref v0), (1, .int v1), (2, .int v2)]) (S' := [.int 1, .int x8, .ref v0]) rfl ?_
      refine zco_Vi (rc := 0) (rs := 0) (mc := 0) (ms := 0) (As := [.int x8, .int 1]) (S := []) vmX12_handOf (mtX12_handOf l e (by omega) v0 x8 1) q_1964 rfl rfl (Nat.le_of_ble_eq_true rfl) (zdk (cc := cX12_qPartOf) (q := (91, .invokevirtual 536, 3)) tkX12_qPartOf 23 rfl) (fun y9 => ?_)
      refine zco_p tkX12_qPartOf 24 1 (pc' := 95) (L' := [(0, .ref v0), (1, .int v1), (2, .int v2)]) (S' := [.long y9.toInt64]) rfl ?_
      exact zco_lret rfl rfl rfl (zdk (cc := cX12_qPartOf) (q := (95, .lreturn, 1)) tkX12_qPartOf 25 rfl)
    | 4, ht =>
      cases ht
      show zCo l (e + 1) 0 0 iX12_qPartOf 96 [(0, .ref v0), (1, .int v1), (2, .int v2)] [] (z_gi 12 57 v0 fun x10 => z_rc 12 v0 (z_ci (X12_handOf v0 x10 2) fun y11 => z_ret (some (.long y11.toInt64))))
      refine zco_p tkX12_qPartOf 26 2 (pc' := 98) (L' := [(0, .ref v0), (1, .int v1), (2, .int v2)]) (S' := [.ref v0, .ref v0]) rfl ?_
      refine zco_gi fl_12_461 rfl (zdk (cc := cX12_qPartOf) (q := (98, .getfield 461, 3)) tkX12_qPartOf 28 rfl) (fun x10 => ?_)
      refine zco_p tkX12_qPartOf 29 1 (pc' := 102) (L' := [(0, .ref v0), (1, .int v1), (2, .int v2)]) (S' := [.int 2, .int x10, .ref v0]) rfl ?_
      refine zco_Vi (rc := 0) (rs := 0) (mc := 0) (ms := 0) (As := [.int x10, .int 2]) (S := []) vmX12_handOf (mtX12_handOf l e (by omega) v0 x10 2) q_1964 rfl rfl (Nat.le_of_ble_eq_true rfl) (zdk (cc := cX12_qPartOf) (q := (102, .invokevirtual 536, 3)) tkX12_qPartOf 30 rfl) (fun y11 => ?_)
      refine zco_p tkX12_qPartOf 31 1 (pc' := 106) (L' := [(0, .ref v0), (1, .int v1), (2, .int v2)]) (S' := [.long y11.toInt64]) rfl ?_
      exact zco_lret rfl rfl rfl (zdk (cc := cX12_qPartOf) (q := (106, .lreturn, 1)) tkX12_qPartOf 32 rfl)
    | 5, ht =>
      cases ht
      show zCo l (e + 1) 0 0 iX12_qPartOf 107 [(0, .ref v0), (1, .int v1), (2, .int v2)] [] (z_gi 12 59 v0 fun x12 => z_ret (some (.long x12.toInt64)))
      refine zco_p tkX12_qPartOf 33 1 (pc' := 108) (L' := [(0, .ref v0), (1, .int v1), (2, .int v2)]) (S' := [.ref v0]) rfl ?_
      refine zco_gi fl_12_467 rfl (zdk (cc := cX12_qPartOf) (q := (108, .getfield 467, 3)) tkX12_qPartOf 34 rfl) (fun x12 => ?_)
      refine zco_p tkX12_qPartOf 35 1 (pc' := 112) (L' := [(0, .ref v0), (1, .int v1), (2, .int v2)]) (S' := [.long x12.toInt64]) rfl ?_
      exact zco_lret rfl rfl rfl (zdk (cc := cX12_qPartOf) (q := (112, .lreturn, 1)) tkX12_qPartOf 36 rfl)
    | 6, ht =>
      cases ht
      show zCo l (e + 1) 0 0 iX12_qPartOf 113 [(0, .ref v0), (1, .int v1), (2, .int v2)] [] (z_gi 12 60 v0 fun x13 => z_ret (some (.long x13.toInt64)))
      refine zco_p tkX12_qPartOf 37 1 (pc' := 114) (L' := [(0, .ref v0), (1, .int v1), (2, .int v2)]) (S' := [.ref v0]) rfl ?_
      refine zco_gi fl_12_487 rfl (zdk (cc := cX12_qPartOf) (q := (114, .getfield 487, 3)) tkX12_qPartOf 38 rfl) (fun x13 => ?_)
      refine zco_p tkX12_qPartOf 39 1 (pc' := 118) (L' := [(0, .ref v0), (1, .int v1), (2, .int v2)]) (S' := [.long x13.toInt64]) rfl ?_
      exact zco_lret rfl rfl rfl (zdk (cc := cX12_qPartOf) (q := (118, .lreturn, 1)) tkX12_qPartOf 40 rfl)
    | 7, ht =>
      cases ht
      show zCo l (e + 1) 0 0 iX12_qPartOf 119 [(0, .ref v0), (1, .int v1), (2, .int v2)] [] (z_gr 12 52 v0 fun x14 => z_la 20 x14 1 fun x15 => z_ret (some (.long x15.toInt64)))
      refine zco_p tkX12_qPartOf 41 1 (pc' := 120) (L' := [(0, .ref v0), (1, .int v1), (2, .int v2)]) (S' := [.ref v0]) rfl ?_
      refine zco_gr fl_12_134 rfl (zdk (cc := cX12_qPartOf) (q := (120, .getfield 134, 3)) tkX12_qPartOf 42 rfl) (fun x14 => ?_)
      refine zco_p tkX12_qPartOf 43 1 (pc' := 124) (L' := [(0, .ref v0), (1, .int v1), (2, .int v2)]) (S' := [.int 1, .ref x14]) rfl ?_
      refine zco_iaload (zdk (cc := cX12_qPartOf) (q := (124, .iaload, 1)) tkX12_qPartOf 44 rfl) (fun x15 => ?_)
      refine zco_p tkX12_qPartOf 45 1 (pc' := 126) (L' := [(0, .ref v0), (1, .int v1), (2, .int v2)]) (S' := [.long x15.toInt64]) rfl ?_
      exact zco_lret rfl rfl rfl (zdk (cc := cX12_qPartOf) (q := (126, .lreturn, 1)) tkX12_qPartOf 46 rfl)
    | 8, ht =>
      cases ht
      show zCo l (e + 1) 0 0 iX12_qPartOf 127 [(0, .ref v0), (1, .int v1), (2, .int v2)] [] (z_gi 12 56 v0 fun x16 => z_rc 12 v0 (z_ci (X12_waitedOf v0 x16) fun y17 => z_ret (some (.long y17.toInt64))))
      refine zco_p tkX12_qPartOf 47 2 (pc' := 129) (L' := [(0, .ref v0), (1, .int v1), (2, .int v2)]) (S' := [.ref v0, .ref v0]) rfl ?_
      refine zco_gi fl_12_458 rfl (zdk (cc := cX12_qPartOf) (q := (129, .getfield 458, 3)) tkX12_qPartOf 49 rfl) (fun x16 => ?_)
      refine zco_Vi (rc := 0) (rs := 0) (mc := 0) (ms := 0) (As := [.int x16]) (S := []) vmX12_waitedOf (mtX12_waitedOf l e (by omega) v0 x16) q_1980 rfl rfl (Nat.le_of_ble_eq_true rfl) (zdk (cc := cX12_qPartOf) (q := (132, .invokevirtual 524, 3)) tkX12_qPartOf 50 rfl) (fun y17 => ?_)
      refine zco_p tkX12_qPartOf 51 1 (pc' := 136) (L' := [(0, .ref v0), (1, .int v1), (2, .int v2)]) (S' := [.long y17.toInt64]) rfl ?_
      exact zco_lret rfl rfl rfl (zdk (cc := cX12_qPartOf) (q := (136, .lreturn, 1)) tkX12_qPartOf 52 rfl)
    | 9, ht =>
      cases ht
      show zCo l (e + 1) 0 0 iX12_qPartOf 137 [(0, .ref v0), (1, .int v1), (2, .int v2)] [] (z_gi 12 56 v0 fun x18 => z_ret (some (.long x18.toInt64)))
      refine zco_p tkX12_qPartOf 53 1 (pc' := 138) (L' := [(0, .ref v0), (1, .int v1), (2, .int v2)]) (S' := [.ref v0]) rfl ?_
      refine zco_gi fl_12_458 rfl (zdk (cc := cX12_qPartOf) (q := (138, .getfield 458, 3)) tkX12_qPartOf 54 rfl) (fun x18 => ?_)
      refine zco_p tkX12_qPartOf 55 1 (pc' := 142) (L' := [(0, .ref v0), (1, .int v1), (2, .int v2)]) (S' := [.long x18.toInt64]) rfl ?_
      exact zco_lret rfl rfl rfl (zdk (cc := cX12_qPartOf) (q := (142, .lreturn, 1)) tkX12_qPartOf 56 rfl)
    | 10, ht =>
      cases ht
      show zCo l (e + 1) 0 0 iX12_qPartOf 143 [(0, .ref v0), (1, .int v1), (2, .int v2)] [] (z_gi 12 56 v0 fun x19 => z_rc 12 v0 (z_ci (X12_sideOf v0 x19) fun y20 => z_ret (some (.long y20.toInt64))))
      refine zco_p tkX12_qPartOf 57 2 (pc' := 145) (L' := [(0, .ref v0), (1, .int v1), (2, .int v2)]) (S' := [.ref v0, .ref v0]) rfl ?_
      refine zco_gi fl_12_458 rfl (zdk (cc := cX12_qPartOf) (q := (145, .getfield 458, 3)) tkX12_qPartOf 59 rfl) (fun x19 => ?_)
      refine zco_Vi (rc := 0) (rs := 0) (mc := 0) (ms := 0) (As := [.int x19]) (S := []) vmX12_sideOf (mtX12_sideOf l e (by omega) v0 x19) q_1996 rfl rfl (Nat.le_of_ble_eq_true rfl) (zdk (cc := cX12_qPartOf) (q := (148, .invokevirtual 426, 3)) tkX12_qPartOf 60 rfl) (fun y20 => ?_)
      refine zco_p tkX12_qPartOf 61 1 (pc' := 152) (L' := [(0, .ref v0), (1, .int v1), (2, .int v2)]) (S' := [.long y20.toInt64]) rfl ?_
      exact zco_lret rfl rfl rfl (zdk (cc := cX12_qPartOf) (q := (152, .lreturn, 1)) tkX12_qPartOf 62 rfl)
    | j + 11, ht => exact absurd ht (by simp)
theorem mtX12_qPartOf (l : Launch) (d : Nat) (hd : 4 ≤ d) (v0 : Nat) (v1 : Int32) (v2 : Int32) : zMet l d 0 0 yX12_qPartOf cX12_qPartOf 3 (Option.some .long) [.ref v0, .int v1, .int v2] (X12_qPartOf v0 v1 v2) := by
  obtain ⟨e, rfl⟩ : ∃ e, d = e + 1 := ⟨d - 1, by omega⟩
  exact zmet_of (own := RX12) (ini := false) (by decide +kernel) rfl (fun _ => by contradiction) (Nat.le_of_ble_eq_true rfl) (coX12_qPartOf l e (by omega) v0 v1 v2)
abbrev iX12_qClip : zI := (RX12, cX12_qClip, 2, (Option.some .long), false)
def tX12_qClip : List (Nat × Instr × Nat) := [(0, .lload_n 0, 1), (1, .ldc2_w 687, 3), (4, .lcmp, 1), (5, .ifCond .le 9, 3), (8, .ldc2_w 687, 3), (11, .goto 18, 3), (14, .lload_n 0, 1), (15, .ldc2_w 689, 3), (18, .lcmp, 1), (19, .ifCond .ge 9, 3), (22, .ldc2_w 689, 3), (25, .goto 4, 3), (28, .lload_n 0, 1), (29, .lreturn, 1)]
set_option maxRecDepth 100000 in
theorem tkX12_qClip : ∀ q ∈ tX12_qClip, decode cX12_qClip q.1 = .ok q.2 := by decide +kernel
theorem vmX12_qClip : zSM yX12_qClip cX12_qClip 2 (Option.some .long) 1 := ⟨kX12_qClip, q_2045, q_162, by decide +kernel, by decide⟩
set_option maxHeartbeats 2000000 in
set_option maxRecDepth 20000 in
theorem coX12_qClip (l : Launch) (e : Nat) (he : 0 ≤ e) (v0 : Int64) : zCo l (e + 1) 0 0 iX12_qClip 0 [(0, .long v0)] [] (X12_qClip v0) := by
  unfold X12_qClip
  refine zco_p tkX12_qClip 0 1 (pc' := 1) (L' := [(0, .long v0)]) (S' := [.long v0]) rfl ?_
  refine zco_ldc2 q_2047 (zdk (cc := cX12_qClip) (q := (1, .ldc2_w 687, 3)) tkX12_qClip 1 rfl) ?_
  refine zco_lcmp_le (tgt := 14) (zdk (cc := cX12_qClip) (q := (4, .lcmp, 1)) tkX12_qClip 2 rfl) (zdk (cc := cX12_qClip) (q := (5, .ifCond .le 9, 3)) tkX12_qClip 3 rfl) rfl ?_ ?_
  · refine zco_p tkX12_qClip 6 1 (pc' := 15) (L' := [(0, .long v0)]) (S' := [.long v0]) rfl ?_
    refine zco_ldc2 q_2048 (zdk (cc := cX12_qClip) (q := (15, .ldc2_w 689, 3)) tkX12_qClip 7 rfl) ?_
    refine zco_lcmp_ge (tgt := 28) (zdk (cc := cX12_qClip) (q := (18, .lcmp, 1)) tkX12_qClip 8 rfl) (zdk (cc := cX12_qClip) (q := (19, .ifCond .ge 9, 3)) tkX12_qClip 9 rfl) rfl ?_ ?_
    · refine zco_p tkX12_qClip 12 1 (pc' := 29) (L' := [(0, .long v0)]) (S' := [.long v0]) rfl ?_
      exact zco_lret rfl rfl rfl (zdk (cc := cX12_qClip) (q := (29, .lreturn, 1)) tkX12_qClip 13 rfl)
    · refine zco_ldc2 q_2048 (zdk (cc := cX12_qClip) (q := (22, .ldc2_w 689, 3)) tkX12_qClip 10 rfl) ?_
      refine zco_p tkX12_qClip 11 1 (pc' := 29) (L' := [(0, .long v0)]) (S' := [.long ((-1000000))]) rfl ?_
      exact zco_lret rfl rfl rfl (zdk (cc := cX12_qClip) (q := (29, .lreturn, 1)) tkX12_qClip 13 rfl)
  · refine zco_ldc2 q_2047 (zdk (cc := cX12_qClip) (q := (8, .ldc2_w 687, 3)) tkX12_qClip 4 rfl) ?_
    refine zco_p tkX12_qClip 5 1 (pc' := 29) (L' := [(0, .long v0)]) (S' := [.long 1000000]) rfl ?_
    exact zco_lret rfl rfl rfl (zdk (cc := cX12_qClip) (q := (29, .lreturn, 1)) tkX12_qClip 13 rfl)
theorem mtX12_qClip (l : Launch) (d : Nat) (hd : 1 ≤ d) (v0 : Int64) : zMet l d 0 0 yX12_qClip cX12_qClip 2 (Option.some .long) [.long v0] (X12_qClip v0) := by
  obtain ⟨e, rfl⟩ : ∃ e, d = e + 1 := ⟨d - 1, by omega⟩
  exact zmet_of (own := RX12) (ini := false) (by decide +kernel) rfl (fun _ => by contradiction) (Nat.le_of_ble_eq_true rfl) (coX12_qClip l e (by omega) v0)
abbrev iX12_qFloor : zI := (RX12, cX12_qFloor, 6, (Option.some .long), false)
def tX12_qFloor : List (Nat × Instr × Nat) := [(0, .lload_n 2, 1), (1, .lconst 0, 1), (2, .lcmp, 1), (3, .ifCond .ne 5, 3), (6, .lconst 0, 1), (7, .lreturn, 1), (8, .lload_n 0, 1), (9, .lload_n 2, 1), (10, .ldiv, 1), (11, .lstore 4, 2), (13, .lload_n 0, 1), (14, .lload_n 2, 1), (15, .lrem, 1), (16, .lconst 0, 1), (17, .lcmp, 1), (18, .ifCond .eq 35, 3), (21, .lload_n 0, 1), (22, .lconst 0, 1), (23, .lcmp, 1), (24, .ifCond .ge 7, 3), (27, .iconst 1, 1), (28, .goto 4, 3), (31, .iconst 0, 1), (32, .lload_n 2, 1), (33, .lconst 0, 1), (34, .lcmp, 1), (35, .ifCond .ge 7, 3), (38, .iconst 1, 1), (39, .goto 4, 3), (42, .iconst 0, 1), (43, .if_icmp .eq 10, 3), (46, .lload 4, 2), (48, .lconst 1, 1), (49, .lsub, 1), (50, .goto 5, 3), (53, .lload 4, 2), (55, .lreturn, 1)]
set_option maxRecDepth 100000 in
theorem tkX12_qFloor : ∀ q ∈ tX12_qFloor, decode cX12_qFloor q.1 = .ok q.2 := by decide +kernel
theorem vmX12_qFloor : zSM yX12_qFloor cX12_qFloor 6 (Option.some .long) 2 := ⟨kX12_qFloor, q_2050, q_162, by decide +kernel, by decide⟩
set_option maxHeartbeats 2000000 in
set_option maxRecDepth 20000 in
theorem coX12_qFloor_J43 (l : Launch) (e : Nat) (he : 0 ≤ e) (v4 : Int64) (s0 : Int32) (s1 : Int32) : zCo l (e + 1) 0 0 iX12_qFloor 43 [(4, .long v4)] [.int s0, .int s1] (X12_qFloor_J43 v4 s0 s1) := by
  unfold X12_qFloor_J43
  refine zco_icmp_eq (tgt := 53) (zdk (cc := cX12_qFloor) (q := (43, .if_icmp .eq 10, 3)) tkX12_qFloor 30 rfl) rfl ?_ ?_
  · refine zco_p tkX12_qFloor 35 1 (pc' := 55) (L' := [(4, .long v4)]) (S' := [.long v4]) rfl ?_
    exact zco_lret rfl rfl rfl (zdk (cc := cX12_qFloor) (q := (55, .lreturn, 1)) tkX12_qFloor 36 rfl)
  · refine zco_p tkX12_qFloor 31 4 (pc' := 55) (L' := [(4, .long v4)]) (S' := [.long (v4 - 1)]) rfl ?_
    exact zco_lret rfl rfl rfl (zdk (cc := cX12_qFloor) (q := (55, .lreturn, 1)) tkX12_qFloor 36 rfl)
set_option maxHeartbeats 2000000 in
set_option maxRecDepth 20000 in
theorem coX12_qFloor_J32 (l : Launch) (e : Nat) (he : 0 ≤ e) (v2 : Int64) (v4 : Int64) (s0 : Int32) : zCo l (e + 1) 0 0 iX12_qFloor 32 [(2, .long v2), (4, .long v4)] [.int s0] (X12_qFloor_J32 v2 v4 s0) := by
  unfold X12_qFloor_J32
  refine zco_p tkX12_qFloor 23 2 (pc' := 34) (L' := [(2, .long v2), (4, .long v4)]) (S' := [.long 0, .long v2, .int s0]) rfl ?_
  refine zco_lcmp_ge (tgt := 42) (zdk (cc := cX12_qFloor) (q := (34, .lcmp, 1)) tkX12_qFloor 25 rfl) (zdk (cc := cX12_qFloor) (q := (35, .ifCond .ge 7, 3)) tkX12_qFloor 26 rfl) rfl ?_ ?_
  · refine zco_p tkX12_qFloor 29 1 (pc' := 43) (L' := [(2, .long v2), (4, .long v4)]) (S' := [.int 0, .int s0]) rfl ?_
    exact zco_sub [1] rfl (coX12_qFloor_J43 l e he v4 0 s0)
  · refine zco_p tkX12_qFloor 27 2 (pc' := 43) (L' := [(2, .long v2), (4, .long v4)]) (S' := [.int 1, .int s0]) rfl ?_
    exact zco_sub [1] rfl (coX12_qFloor_J43 l e he v4 1 s0)
set_option maxHeartbeats 2000000 in
set_option maxRecDepth 20000 in
theorem coX12_qFloor (l : Launch) (e : Nat) (he : 0 ≤ e) (v0 : Int64) (v2 : Int64) : zCo l (e + 1) 0 0 iX12_qFloor 0 [(0, .long v0), (2, .long v2)] [] (X12_qFloor v0 v2) := by
  unfold X12_qFloor
  refine zco_p tkX12_qFloor 0 2 (pc' := 2) (L' := [(0, .long v0), (2, .long v2)]) (S' := [.long 0, .long v2]) rfl ?_
  refine zco_lcmp_ne (tgt := 8) (zdk (cc := cX12_qFloor) (q := (2, .lcmp, 1)) tkX12_qFloor 2 rfl) (zdk (cc := cX12_qFloor) (q := (3, .ifCond .ne 5, 3)) tkX12_qFloor 3 rfl) rfl ?_ ?_
  · refine zco_p tkX12_qFloor 6 2 (pc' := 10) (L' := [(0, .long v0), (2, .long v2)]) (S' := [.long v2, .long v0]) rfl ?_
    refine zco_ldiv (zdk (cc := cX12_qFloor) (q := (10, .ldiv, 1)) tkX12_qFloor 8 rfl) ?_
    refine zco_p tkX12_qFloor 9 3 (pc' := 15) (L' := [(4, .long (v0 / v2)), (0, .long v0), (2, .long v2)]) (S' := [.long v2, .long v0]) rfl ?_
    refine zco_lrem (zdk (cc := cX12_qFloor) (q := (15, .lrem, 1)) tkX12_qFloor 12 rfl) ?_
    refine zco_p tkX12_qFloor 13 1 (pc' := 17) (L' := [(4, .long (v0 / v2)), (0, .long v0), (2, .long v2)]) (S' := [.long 0, .long (v0 - v0 / v2 * v2)]) rfl ?_
    refine zco_lcmp_eq (tgt := 53) (zdk (cc := cX12_qFloor) (q := (17, .lcmp, 1)) tkX12_qFloor 14 rfl) (zdk (cc := cX12_qFloor) (q := (18, .ifCond .eq 35, 3)) tkX12_qFloor 15 rfl) rfl ?_ ?_
    · refine zco_p tkX12_qFloor 35 1 (pc' := 55) (L' := [(4, .long (v0 / v2)), (0, .long v0), (2, .long v2)]) (S' := [.long (v0 / v2)]) rfl ?_
      exact zco_lret rfl rfl rfl (zdk (cc := cX12_qFloor) (q := (55, .lreturn, 1)) tkX12_qFloor 36 rfl)
    · refine zco_p tkX12_qFloor 16 2 (pc' := 23) (L' := [(4, .long (v0 / v2)), (0, .long v0), (2, .long v2)]) (S' := [.long 0, .long v0]) rfl ?_
      refine zco_lcmp_ge (tgt := 31) (zdk (cc := cX12_qFloor) (q := (23, .lcmp, 1)) tkX12_qFloor 18 rfl) (zdk (cc := cX12_qFloor) (q := (24, .ifCond .ge 7, 3)) tkX12_qFloor 19 rfl) rfl ?_ ?_
      · refine zco_p tkX12_qFloor 22 1 (pc' := 32) (L' := [(4, .long (v0 / v2)), (0, .long v0), (2, .long v2)]) (S' := [.int 0]) rfl ?_
        exact zco_sub [2, 0] rfl (coX12_qFloor_J32 l e he v2 (v0 / v2) 0)
      · refine zco_p tkX12_qFloor 20 2 (pc' := 32) (L' := [(4, .long (v0 / v2)), (0, .long v0), (2, .long v2)]) (S' := [.int 1]) rfl ?_
        exact zco_sub [2, 0] rfl (coX12_qFloor_J32 l e he v2 (v0 / v2) 1)
  · refine zco_p tkX12_qFloor 4 1 (pc' := 7) (L' := [(0, .long v0), (2, .long v2)]) (S' := [.long 0]) rfl ?_
    exact zco_lret rfl rfl rfl (zdk (cc := cX12_qFloor) (q := (7, .lreturn, 1)) tkX12_qFloor 5 rfl)
theorem mtX12_qFloor (l : Launch) (d : Nat) (hd : 1 ≤ d) (v0 : Int64) (v2 : Int64) : zMet l d 0 0 yX12_qFloor cX12_qFloor 6 (Option.some .long) [.long v0, .long v2] (X12_qFloor v0 v2) := by
  obtain ⟨e, rfl⟩ : ∃ e, d = e + 1 := ⟨d - 1, by omega⟩
  exact zmet_of (own := RX12) (ini := false) (by decide +kernel) rfl (fun _ => by contradiction) (Nat.le_of_ble_eq_true rfl) (coX12_qFloor l e (by omega) v0 v2)
abbrev iX12_qJoins : zI := (RX12, cX12_qJoins, 6, (Option.none : Option FieldType), false)
def tX12_qJoins : List (Nat × Instr × Nat) := [(0, .aload_n 0, 1), (1, .getfield 261, 3), (4, .aload_n 0, 1), (5, .getfield 441, 3), (8, .iconst 1, 1), (9, .isub, 1), (10, .laload, 1), (11, .lstore_n 2, 1), (12, .aload_n 0, 1), (13, .getfield 261, 3), (16, .aload_n 0, 1), (17, .getfield 441, 3), (20, .iconst 2, 1), (21, .isub, 1), (22, .laload, 1), (23, .lstore 4, 2), (25, .aload_n 0, 1), (26, .dup, 1), (27, .getfield 441, 3), (30, .iconst 2, 1), (31, .isub, 1), (32, .putfield 441, 3), (35, .iload_n 1, 1), (36, .tableswitch 219 1 10 #[56, 70, 84, 98, 111, 131, 151, 170, 189, 208], 56), (92, .aload_n 0, 1), (93, .lload 4, 2), (95, .lload_n 2, 1), (96, .ladd, 1), (97, .invokestatic 691, 3), (100, .invokevirtual 444, 3), (103, .goto 170, 3), (106, .aload_n 0, 1), (107, .lload 4, 2), (109, .lload_n 2, 1), (110, .lsub, 1), (111, .invokestatic 691, 3), (114, .invokevirtual 444, 3), (117, .goto 156, 3), (120, .aload_n 0, 1), (121, .lload 4, 2), (123, .lload_n 2, 1), (124, .lmul, 1), (125, .invokestatic 691, 3), (128, .invokevirtual 444, 3), (131, .goto 142, 3), (134, .aload_n 0, 1), (135, .lload 4, 2), (137, .lload_n 2, 1), (138, .invokestatic 695, 3), (141, .invokevirtual 444, 3), (144, .goto 129, 3), (147, .aload_n 0, 1), (148, .lload 4, 2), (150, .lload_n 2, 1), (151, .lcmp, 1), (152, .ifCond .ge 8, 3), (155, .lload 4, 2), (157, .goto 4, 3), (160, .lload_n 2, 1), (161, .invokevirtual 444, 3), (164, .goto 109, 3), (167, .aload_n 0, 1), (168, .lload 4, 2), (170, .lload_n 2, 1), (171, .lcmp, 1), (172, .ifCond .le 8, 3), (175, .lload 4, 2), (177, .goto 4, 3), (180, .lload_n 2, 1), (181, .invokevirtual 444, 3), (184, .goto 89, 3), (187, .aload_n 0, 1), (188, .lload 4, 2), (190, .lload_n 2, 1), (191, .lcmp, 1), (192, .ifCond .ge 7, 3), (195, .lconst 1, 1), (196, .goto 4, 3), (199, .lconst 0, 1), (200, .invokevirtual 444, 3), (203, .goto 70, 3), (206, .aload_n 0, 1), (207, .lload 4, 2), (209, .lload_n 2, 1), (210, .lcmp, 1), (211, .ifCond .le 7, 3), (214, .lconst 1, 1), (215, .goto 4, 3), (218, .lconst 0, 1), (219, .invokevirtual 444, 3), (222, .goto 51, 3), (225, .aload_n 0, 1), (226, .lload 4, 2), (228, .lload_n 2, 1), (229, .lcmp, 1), (230, .ifCond .ne 7, 3), (233, .lconst 1, 1), (234, .goto 4, 3), (237, .lconst 0, 1), (238, .invokevirtual 444, 3), (241, .goto 32, 3), (244, .aload_n 0, 1), (245, .lload 4, 2), (247, .lload_n 2, 1), (248, .lmul, 1), (249, .invokevirtual 444, 3), (252, .goto 21, 3), (255, .aload_n 0, 1), (256, .lload 4, 2), (258, .lload_n 2, 1), (259, .ladd, 1), (260, .lconst 0, 1), (261, .lcmp, 1), (262, .ifCond .le 7, 3), (265, .lconst 1, 1), (266, .goto 4, 3), (269, .lconst 0, 1), (270, .invokevirtual 444, 3), (273, .return_, 1)]
set_option maxRecDepth 100000 in
theorem tkX12_qJoins : ∀ q ∈ tX12_qJoins, decode cX12_qJoins q.1 = .ok q.2 := by decide +kernel
theorem vmX12_qJoins : zVM yX12_qJoins cX12_qJoins 6 (Option.none : Option FieldType) 1 12 := ⟨kX12_qJoins, q_2042, q_110, q_162, ⟨_, rfl, rfl⟩, by decide +kernel, by decide⟩
set_option maxHeartbeats 2000000 in
set_option maxRecDepth 20000 in
theorem coX12_qJoins_J270 (l : Launch) (e : Nat) (he : 1 ≤ e) (s0 : Int64) (s1 : Nat) : zCo l (e + 1) 0 0 iX12_qJoins 270 [] [.long s0, .ref s1] (X12_qJoins_J270 s0 s1) := by
  unfold X12_qJoins_J270
  refine zco_Vv (rc := 0) (rs := 0) (mc := 0) (ms := 0) (As := [.long s0]) (S := []) vmX12_qPuts (mtX12_qPuts l e (by omega) s1 s0) q_2032 rfl rfl (Nat.le_of_ble_eq_true rfl) (zdk (cc := cX12_qJoins) (q := (270, .invokevirtual 444, 3)) tkX12_qJoins 117 rfl) ?_
  exact zco_vret rfl rfl rfl (zdk (cc := cX12_qJoins) (q := (273, .return_, 1)) tkX12_qJoins 118 rfl)
set_option maxHeartbeats 2000000 in
set_option maxRecDepth 20000 in
theorem coX12_qJoins_J238 (l : Launch) (e : Nat) (he : 1 ≤ e) (s0 : Int64) (s1 : Nat) : zCo l (e + 1) 0 0 iX12_qJoins 238 [] [.long s0, .ref s1] (X12_qJoins_J238 s0 s1) := by
  unfold X12_qJoins_J238
  refine zco_Vv (rc := 0) (rs := 0) (mc := 0) (ms := 0) (As := [.long s0]) (S := []) vmX12_qPuts (mtX12_qPuts l e (by omega) s1 s0) q_2032 rfl rfl (Nat.le_of_ble_eq_true rfl) (zdk (cc := cX12_qJoins) (q := (238, .invokevirtual 444, 3)) tkX12_qJoins 99 rfl) ?_
  refine zco_p tkX12_qJoins 100 1 (pc' := 273) (L' := []) (S' := []) rfl ?_
  exact zco_vret rfl rfl rfl (zdk (cc := cX12_qJoins) (q := (273, .return_, 1)) tkX12_qJoins 118 rfl)
set_option maxHeartbeats 2000000 in
set_option maxRecDepth 20000 in
theorem coX12_qJoins_J219 (l : Launch) (e : Nat) (he : 1 ≤ e) (s0 : Int64) (s1 : Nat) : zCo l (e + 1) 0 0 iX12_qJoins 219 [] [.long s0, .ref s1] (X12_qJoins_J219 s0 s1) := by
  unfold X12_qJoins_J219
  refine zco_Vv (rc := 0) (rs := 0) (mc := 0) (ms := 0) (As := [.long s0]) (S := []) vmX12_qPuts (mtX12_qPuts l e (by omega) s1 s0) q_2032 rfl rfl (Nat.le_of_ble_eq_true rfl) (zdk (cc := cX12_qJoins) (q := (219, .invokevirtual 444, 3)) tkX12_qJoins 89 rfl) ?_
  refine zco_p tkX12_qJoins 90 1 (pc' := 273) (L' := []) (S' := []) rfl ?_
  exact zco_vret rfl rfl rfl (zdk (cc := cX12_qJoins) (q := (273, .return_, 1)) tkX12_qJoins 118 rfl)
set_option maxHeartbeats 2000000 in
set_option maxRecDepth 20000 in
theorem coX12_qJoins_J200 (l : Launch) (e : Nat) (he : 1 ≤ e) (s0 : Int64) (s1 : Nat) : zCo l (e + 1) 0 0 iX12_qJoins 200 [] [.long s0, .ref s1] (X12_qJoins_J200 s0 s1) := by
  unfold X12_qJoins_J200
  refine zco_Vv (rc := 0) (rs := 0) (mc := 0) (ms := 0) (As := [.long s0]) (S := []) vmX12_qPuts (mtX12_qPuts l e (by omega) s1 s0) q_2032 rfl rfl (Nat.le_of_ble_eq_true rfl) (zdk (cc := cX12_qJoins) (q := (200, .invokevirtual 444, 3)) tkX12_qJoins 79 rfl) ?_
  refine zco_p tkX12_qJoins 80 1 (pc' := 273) (L' := []) (S' := []) rfl ?_
  exact zco_vret rfl rfl rfl (zdk (cc := cX12_qJoins) (q := (273, .return_, 1)) tkX12_qJoins 118 rfl)
set_option maxHeartbeats 2000000 in
set_option maxRecDepth 20000 in
theorem coX12_qJoins_J181 (l : Launch) (e : Nat) (he : 1 ≤ e) (s0 : Int64) (s1 : Nat) : zCo l (e + 1) 0 0 iX12_qJoins 181 [] [.long s0, .ref s1] (X12_qJoins_J181 s0 s1) := by
  unfold X12_qJoins_J181
  refine zco_Vv (rc := 0) (rs := 0) (mc := 0) (ms := 0) (As := [.long s0]) (S := []) vmX12_qPuts (mtX12_qPuts l e (by omega) s1 s0) q_2032 rfl rfl (Nat.le_of_ble_eq_true rfl) (zdk (cc := cX12_qJoins) (q := (181, .invokevirtual 444, 3)) tkX12_qJoins 69 rfl) ?_
  refine zco_p tkX12_qJoins 70 1 (pc' := 273) (L' := []) (S' := []) rfl ?_
  exact zco_vret rfl rfl rfl (zdk (cc := cX12_qJoins) (q := (273, .return_, 1)) tkX12_qJoins 118 rfl)
set_option maxHeartbeats 2000000 in
set_option maxRecDepth 20000 in
theorem coX12_qJoins_J161 (l : Launch) (e : Nat) (he : 1 ≤ e) (s0 : Int64) (s1 : Nat) : zCo l (e + 1) 0 0 iX12_qJoins 161 [] [.long s0, .ref s1] (X12_qJoins_J161 s0 s1) := by
  unfold X12_qJoins_J161
  refine zco_Vv (rc := 0) (rs := 0) (mc := 0) (ms := 0) (As := [.long s0]) (S := []) vmX12_qPuts (mtX12_qPuts l e (by omega) s1 s0) q_2032 rfl rfl (Nat.le_of_ble_eq_true rfl) (zdk (cc := cX12_qJoins) (q := (161, .invokevirtual 444, 3)) tkX12_qJoins 59 rfl) ?_
  refine zco_p tkX12_qJoins 60 1 (pc' := 273) (L' := []) (S' := []) rfl ?_
  exact zco_vret rfl rfl rfl (zdk (cc := cX12_qJoins) (q := (273, .return_, 1)) tkX12_qJoins 118 rfl)
set_option maxHeartbeats 2000000 in
set_option maxRecDepth 20000 in
theorem coX12_qJoins (l : Launch) (e : Nat) (he : 1 ≤ e) (v0 : Nat) (v1 : Int32) : zCo l (e + 1) 0 0 iX12_qJoins 0 [(0, .ref v0), (1, .int v1)] [] (X12_qJoins v0 v1) := by
  unfold X12_qJoins
  refine zco_p tkX12_qJoins 0 1 (pc' := 1) (L' := [(0, .ref v0), (1, .int v1)]) (S' := [.ref v0]) rfl ?_
  refine zco_gr fl_12_261 rfl (zdk (cc := cX12_qJoins) (q := (1, .getfield 261, 3)) tkX12_qJoins 1 rfl) (fun x1 => ?_)
  refine zco_p tkX12_qJoins 2 1 (pc' := 5) (L' := [(0, .ref v0), (1, .int v1)]) (S' := [.ref v0, .ref x1]) rfl ?_
  refine zco_gi fl_12_441 rfl (zdk (cc := cX12_qJoins) (q := (5, .getfield 441, 3)) tkX12_qJoins 3 rfl) (fun x2 => ?_)
  refine zco_p tkX12_qJoins 4 2 (pc' := 10) (L' := [(0, .ref v0), (1, .int v1)]) (S' := [.int (x2 - 1), .ref x1]) rfl ?_
  refine zco_laload (zdk (cc := cX12_qJoins) (q := (10, .laload, 1)) tkX12_qJoins 6 rfl) (fun x3 => ?_)
  refine zco_p tkX12_qJoins 7 2 (pc' := 13) (L' := [(2, .long x3), (0, .ref v0), (1, .int v1)]) (S' := [.ref v0]) rfl ?_
  refine zco_gr fl_12_261 rfl (zdk (cc := cX12_qJoins) (q := (13, .getfield 261, 3)) tkX12_qJoins 9 rfl) (fun x4 => ?_)
  refine zco_p tkX12_qJoins 10 1 (pc' := 17) (L' := [(2, .long x3), (0, .ref v0), (1, .int v1)]) (S' := [.ref v0, .ref x4]) rfl ?_
  refine zco_gi fl_12_441 rfl (zdk (cc := cX12_qJoins) (q := (17, .getfield 441, 3)) tkX12_qJoins 11 rfl) (fun x5 => ?_)
  refine zco_p tkX12_qJoins 12 2 (pc' := 22) (L' := [(2, .long x3), (0, .ref v0), (1, .int v1)]) (S' := [.int (x5 - 2), .ref x4]) rfl ?_
  refine zco_laload (zdk (cc := cX12_qJoins) (q := (22, .laload, 1)) tkX12_qJoins 14 rfl) (fun x6 => ?_)
  refine zco_p tkX12_qJoins 15 3 (pc' := 27) (L' := [(4, .long x6), (2, .long x3), (0, .ref v0), (1, .int v1)]) (S' := [.ref v0, .ref v0]) rfl ?_
  refine zco_gi fl_12_441 rfl (zdk (cc := cX12_qJoins) (q := (27, .getfield 441, 3)) tkX12_qJoins 18 rfl) (fun x7 => ?_)
  refine zco_p tkX12_qJoins 19 2 (pc' := 32) (L' := [(4, .long x6), (2, .long x3), (0, .ref v0), (1, .int v1)]) (S' := [.int (x7 - 2), .ref v0]) rfl ?_
  refine zco_pi fl_12_441 rfl rfl (zdk (cc := cX12_qJoins) (q := (32, .putfield 441, 3)) tkX12_qJoins 21 rfl) ?_
  refine zco_p tkX12_qJoins 22 1 (pc' := 36) (L' := [(4, .long x6), (2, .long x3), (0, .ref v0), (1, .int v1)]) (S' := [.int v1]) rfl ?_
  refine @zco_tab l (e + 1) 0 0 iX12_qJoins 36 [(4, .long x6), (2, .long x3), (0, .ref v0), (1, .int v1)] [] _ v1 219 1 10 #[56, 70, 84, 98, 111, 131, 151, 170, 189, 208] 56 (zdk (cc := cX12_qJoins) (q := (36, .tableswitch 219 1 10 #[56, 70, 84, 98, 111, 131, 151, 170, 189, 208], 56)) tkX12_qJoins 23 rfl) 255 rfl [92, 106, 120, 134, 147, 167, 187, 206, 225, 244] (X12_qJoins_S36 x6 x3 v0) (by decide) (by decide) ?_ (fun j t ht => ?_)
  · refine zco_p tkX12_qJoins 107 5 (pc' := 261) (L' := [(4, .long x6), (2, .long x3), (0, .ref v0), (1, .int v1)]) (S' := [.long 0, .long (x6 + x3), .ref v0]) rfl ?_
    refine zco_lcmp_le (tgt := 269) (zdk (cc := cX12_qJoins) (q := (261, .lcmp, 1)) tkX12_qJoins 112 rfl) (zdk (cc := cX12_qJoins) (q := (262, .ifCond .le 7, 3)) tkX12_qJoins 113 rfl) rfl ?_ ?_
    · refine zco_p tkX12_qJoins 116 1 (pc' := 270) (L' := [(4, .long x6), (2, .long x3), (0, .ref v0), (1, .int v1)]) (S' := [.long 0, .ref v0]) rfl ?_
      exact zco_sub [] rfl (coX12_qJoins_J270 l e he 0 v0)
    · refine zco_p tkX12_qJoins 114 2 (pc' := 270) (L' := [(4, .long x6), (2, .long x3), (0, .ref v0), (1, .int v1)]) (S' := [.long 1, .ref v0]) rfl ?_
      exact zco_sub [] rfl (coX12_qJoins_J270 l e he 1 v0)
  · match j, ht with
    | 0, ht =>
      cases ht
      show zCo l (e + 1) 0 0 iX12_qJoins 92 [(4, .long x6), (2, .long x3), (0, .ref v0), (1, .int v1)] [] (z_cl (X12_qClip (x6 + x3)) fun y8 => z_rc 12 v0 (z_cv (X12_qPuts v0 y8) (z_ret none)))
      refine zco_p tkX12_qJoins 24 4 (pc' := 97) (L' := [(4, .long x6), (2, .long x3), (0, .ref v0), (1, .int v1)]) (S' := [.long (x6 + x3), .ref v0]) rfl ?_
      refine zco_Sl (rc := 0) (rs := 0) (mc := 0) (ms := 0) (As := [.long (x6 + x3)]) (S := [.ref v0]) vmX12_qClip (mtX12_qClip l e (by omega) (x6 + x3)) q_2044 rfl rfl (Nat.le_of_ble_eq_true rfl) (zdk (cc := cX12_qJoins) (q := (97, .invokestatic 691, 3)) tkX12_qJoins 28 rfl) (fun y8 => ?_)
      refine zco_Vv (rc := 0) (rs := 0) (mc := 0) (ms := 0) (As := [.long y8]) (S := []) vmX12_qPuts (mtX12_qPuts l e (by omega) v0 y8) q_2032 rfl rfl (Nat.le_of_ble_eq_true rfl) (zdk (cc := cX12_qJoins) (q := (100, .invokevirtual 444, 3)) tkX12_qJoins 29 rfl) ?_
      refine zco_p tkX12_qJoins 30 1 (pc' := 273) (L' := [(4, .long x6), (2, .long x3), (0, .ref v0), (1, .int v1)]) (S' := []) rfl ?_
      exact zco_vret rfl rfl rfl (zdk (cc := cX12_qJoins) (q := (273, .return_, 1)) tkX12_qJoins 118 rfl)
    | 1, ht =>
      cases ht
      show zCo l (e + 1) 0 0 iX12_qJoins 106 [(4, .long x6), (2, .long x3), (0, .ref v0), (1, .int v1)] [] (z_cl (X12_qClip (x6 - x3)) fun y9 => z_rc 12 v0 (z_cv (X12_qPuts v0 y9) (z_ret none)))
      refine zco_p tkX12_qJoins 31 4 (pc' := 111) (L' := [(4, .long x6), (2, .long x3), (0, .ref v0), (1, .int v1)]) (S' := [.long (x6 - x3), .ref v0]) rfl ?_
      refine zco_Sl (rc := 0) (rs := 0) (mc := 0) (ms := 0) (As := [.long (x6 - x3)]) (S := [.ref v0]) vmX12_qClip (mtX12_qClip l e (by omega) (x6 - x3)) q_2044 rfl rfl (Nat.le_of_ble_eq_true rfl) (zdk (cc := cX12_qJoins) (q := (111, .invokestatic 691, 3)) tkX12_qJoins 35 rfl) (fun y9 => ?_)
      refine zco_Vv (rc := 0) (rs := 0) (mc := 0) (ms := 0) (As := [.long y9]) (S := []) vmX12_qPuts (mtX12_qPuts l e (by omega) v0 y9) q_2032 rfl rfl (Nat.le_of_ble_eq_true rfl) (zdk (cc := cX12_qJoins) (q := (114, .invokevirtual 444, 3)) tkX12_qJoins 36 rfl) ?_
      refine zco_p tkX12_qJoins 37 1 (pc' := 273) (L' := [(4, .long x6), (2, .long x3), (0, .ref v0), (1, .int v1)]) (S' := []) rfl ?_
      exact zco_vret rfl rfl rfl (zdk (cc := cX12_qJoins) (q := (273, .return_, 1)) tkX12_qJoins 118 rfl)
    | 2, ht =>
      cases ht
      show zCo l (e + 1) 0 0 iX12_qJoins 120 [(4, .long x6), (2, .long x3), (0, .ref v0), (1, .int v1)] [] (z_cl (X12_qClip (x6 * x3)) fun y10 => z_rc 12 v0 (z_cv (X12_qPuts v0 y10) (z_ret none)))
      refine zco_p tkX12_qJoins 38 4 (pc' := 125) (L' := [(4, .long x6), (2, .long x3), (0, .ref v0), (1, .int v1)]) (S' := [.long (x6 * x3), .ref v0]) rfl ?_
      refine zco_Sl (rc := 0) (rs := 0) (mc := 0) (ms := 0) (As := [.long (x6 * x3)]) (S := [.ref v0]) vmX12_qClip (mtX12_qClip l e (by omega) (x6 * x3)) q_2044 rfl rfl (Nat.le_of_ble_eq_true rfl) (zdk (cc := cX12_qJoins) (q := (125, .invokestatic 691, 3)) tkX12_qJoins 42 rfl) (fun y10 => ?_)
      refine zco_Vv (rc := 0) (rs := 0) (mc := 0) (ms := 0) (As := [.long y10]) (S := []) vmX12_qPuts (mtX12_qPuts l e (by omega) v0 y10) q_2032 rfl rfl (Nat.le_of_ble_eq_true rfl) (zdk (cc := cX12_qJoins) (q := (128, .invokevirtual 444, 3)) tkX12_qJoins 43 rfl) ?_
      refine zco_p tkX12_qJoins 44 1 (pc' := 273) (L' := [(4, .long x6), (2, .long x3), (0, .ref v0), (1, .int v1)]) (S' := []) rfl ?_
      exact zco_vret rfl rfl rfl (zdk (cc := cX12_qJoins) (q := (273, .return_, 1)) tkX12_qJoins 118 rfl)
    | 3, ht =>
      cases ht
      show zCo l (e + 1) 0 0 iX12_qJoins 134 [(4, .long x6), (2, .long x3), (0, .ref v0), (1, .int v1)] [] (z_cl (X12_qFloor x6 x3) fun y11 => z_rc 12 v0 (z_cv (X12_qPuts v0 y11) (z_ret none)))
      refine zco_p tkX12_qJoins 45 3 (pc' := 138) (L' := [(4, .long x6), (2, .long x3), (0, .ref v0), (1, .int v1)]) (S' := [.long x3, .long x6, .ref v0]) rfl ?_
      refine zco_Sl (rc := 0) (rs := 0) (mc := 0) (ms := 0) (As := [.long x6, .long x3]) (S := [.ref v0]) vmX12_qFloor (mtX12_qFloor l e (by omega) x6 x3) q_2049 rfl rfl (Nat.le_of_ble_eq_true rfl) (zdk (cc := cX12_qJoins) (q := (138, .invokestatic 695, 3)) tkX12_qJoins 48 rfl) (fun y11 => ?_)
      refine zco_Vv (rc := 0) (rs := 0) (mc := 0) (ms := 0) (As := [.long y11]) (S := []) vmX12_qPuts (mtX12_qPuts l e (by omega) v0 y11) q_2032 rfl rfl (Nat.le_of_ble_eq_true rfl) (zdk (cc := cX12_qJoins) (q := (141, .invokevirtual 444, 3)) tkX12_qJoins 49 rfl) ?_
      refine zco_p tkX12_qJoins 50 1 (pc' := 273) (L' := [(4, .long x6), (2, .long x3), (0, .ref v0), (1, .int v1)]) (S' := []) rfl ?_
      exact zco_vret rfl rfl rfl (zdk (cc := cX12_qJoins) (q := (273, .return_, 1)) tkX12_qJoins 118 rfl)
    | 4, ht =>
      cases ht
      show zCo l (e + 1) 0 0 iX12_qJoins 147 [(4, .long x6), (2, .long x3), (0, .ref v0), (1, .int v1)] [] (z_if (x6 < x3) (X12_qJoins_J161 x6 v0)  (X12_qJoins_J161 x3 v0))
      refine zco_p tkX12_qJoins 51 3 (pc' := 151) (L' := [(4, .long x6), (2, .long x3), (0, .ref v0), (1, .int v1)]) (S' := [.long x3, .long x6, .ref v0]) rfl ?_
      refine zco_lcmp_ge (tgt := 160) (zdk (cc := cX12_qJoins) (q := (151, .lcmp, 1)) tkX12_qJoins 54 rfl) (zdk (cc := cX12_qJoins) (q := (152, .ifCond .ge 8, 3)) tkX12_qJoins 55 rfl) rfl ?_ ?_
      · refine zco_p tkX12_qJoins 58 1 (pc' := 161) (L' := [(4, .long x6), (2, .long x3), (0, .ref v0), (1, .int v1)]) (S' := [.long x3, .ref v0]) rfl ?_
        exact zco_sub [] rfl (coX12_qJoins_J161 l e he x3 v0)
      · refine zco_p tkX12_qJoins 56 2 (pc' := 161) (L' := [(4, .long x6), (2, .long x3), (0, .ref v0), (1, .int v1)]) (S' := [.long x6, .ref v0]) rfl ?_
        exact zco_sub [] rfl (coX12_qJoins_J161 l e he x6 v0)
    | 5, ht =>
      cases ht
      show zCo l (e + 1) 0 0 iX12_qJoins 167 [(4, .long x6), (2, .long x3), (0, .ref v0), (1, .int v1)] [] (z_if (x3 < x6) (X12_qJoins_J181 x6 v0)  (X12_qJoins_J181 x3 v0))
      refine zco_p tkX12_qJoins 61 3 (pc' := 171) (L' := [(4, .long x6), (2, .long x3), (0, .ref v0), (1, .int v1)]) (S' := [.long x3, .long x6, .ref v0]) rfl ?_
      refine zco_lcmp_le (tgt := 180) (zdk (cc := cX12_qJoins) (q := (171, .lcmp, 1)) tkX12_qJoins 64 rfl) (zdk (cc := cX12_qJoins) (q := (172, .ifCond .le 8, 3)) tkX12_qJoins 65 rfl) rfl ?_ ?_
      · refine zco_p tkX12_qJoins 68 1 (pc' := 181) (L' := [(4, .long x6), (2, .long x3), (0, .ref v0), (1, .int v1)]) (S' := [.long x3, .ref v0]) rfl ?_
        exact zco_sub [] rfl (coX12_qJoins_J181 l e he x3 v0)
      · refine zco_p tkX12_qJoins 66 2 (pc' := 181) (L' := [(4, .long x6), (2, .long x3), (0, .ref v0), (1, .int v1)]) (S' := [.long x6, .ref v0]) rfl ?_
        exact zco_sub [] rfl (coX12_qJoins_J181 l e he x6 v0)
    | 6, ht =>
      cases ht
      show zCo l (e + 1) 0 0 iX12_qJoins 187 [(4, .long x6), (2, .long x3), (0, .ref v0), (1, .int v1)] [] (z_if (x6 < x3) (X12_qJoins_J200 1 v0)  (X12_qJoins_J200 0 v0))
      refine zco_p tkX12_qJoins 71 3 (pc' := 191) (L' := [(4, .long x6), (2, .long x3), (0, .ref v0), (1, .int v1)]) (S' := [.long x3, .long x6, .ref v0]) rfl ?_
      refine zco_lcmp_ge (tgt := 199) (zdk (cc := cX12_qJoins) (q := (191, .lcmp, 1)) tkX12_qJoins 74 rfl) (zdk (cc := cX12_qJoins) (q := (192, .ifCond .ge 7, 3)) tkX12_qJoins 75 rfl) rfl ?_ ?_
      · refine zco_p tkX12_qJoins 78 1 (pc' := 200) (L' := [(4, .long x6), (2, .long x3), (0, .ref v0), (1, .int v1)]) (S' := [.long 0, .ref v0]) rfl ?_
        exact zco_sub [] rfl (coX12_qJoins_J200 l e he 0 v0)
      · refine zco_p tkX12_qJoins 76 2 (pc' := 200) (L' := [(4, .long x6), (2, .long x3), (0, .ref v0), (1, .int v1)]) (S' := [.long 1, .ref v0]) rfl ?_
        exact zco_sub [] rfl (coX12_qJoins_J200 l e he 1 v0)
    | 7, ht =>
      cases ht
      show zCo l (e + 1) 0 0 iX12_qJoins 206 [(4, .long x6), (2, .long x3), (0, .ref v0), (1, .int v1)] [] (z_if (x3 < x6) (X12_qJoins_J219 1 v0)  (X12_qJoins_J219 0 v0))
      refine zco_p tkX12_qJoins 81 3 (pc' := 210) (L' := [(4, .long x6), (2, .long x3), (0, .ref v0), (1, .int v1)]) (S' := [.long x3, .long x6, .ref v0]) rfl ?_
      refine zco_lcmp_le (tgt := 218) (zdk (cc := cX12_qJoins) (q := (210, .lcmp, 1)) tkX12_qJoins 84 rfl) (zdk (cc := cX12_qJoins) (q := (211, .ifCond .le 7, 3)) tkX12_qJoins 85 rfl) rfl ?_ ?_
      · refine zco_p tkX12_qJoins 88 1 (pc' := 219) (L' := [(4, .long x6), (2, .long x3), (0, .ref v0), (1, .int v1)]) (S' := [.long 0, .ref v0]) rfl ?_
        exact zco_sub [] rfl (coX12_qJoins_J219 l e he 0 v0)
      · refine zco_p tkX12_qJoins 86 2 (pc' := 219) (L' := [(4, .long x6), (2, .long x3), (0, .ref v0), (1, .int v1)]) (S' := [.long 1, .ref v0]) rfl ?_
        exact zco_sub [] rfl (coX12_qJoins_J219 l e he 1 v0)
    | 8, ht =>
      cases ht
      show zCo l (e + 1) 0 0 iX12_qJoins 225 [(4, .long x6), (2, .long x3), (0, .ref v0), (1, .int v1)] [] (z_if (x6 = x3) (X12_qJoins_J238 1 v0)  (X12_qJoins_J238 0 v0))
      refine zco_p tkX12_qJoins 91 3 (pc' := 229) (L' := [(4, .long x6), (2, .long x3), (0, .ref v0), (1, .int v1)]) (S' := [.long x3, .long x6, .ref v0]) rfl ?_
      refine zco_lcmp_ne (tgt := 237) (zdk (cc := cX12_qJoins) (q := (229, .lcmp, 1)) tkX12_qJoins 94 rfl) (zdk (cc := cX12_qJoins) (q := (230, .ifCond .ne 7, 3)) tkX12_qJoins 95 rfl) rfl ?_ ?_
      · refine zco_p tkX12_qJoins 98 1 (pc' := 238) (L' := [(4, .long x6), (2, .long x3), (0, .ref v0), (1, .int v1)]) (S' := [.long 0, .ref v0]) rfl ?_
        exact zco_sub [] rfl (coX12_qJoins_J238 l e he 0 v0)
      · refine zco_p tkX12_qJoins 96 2 (pc' := 238) (L' := [(4, .long x6), (2, .long x3), (0, .ref v0), (1, .int v1)]) (S' := [.long 1, .ref v0]) rfl ?_
        exact zco_sub [] rfl (coX12_qJoins_J238 l e he 1 v0)
    | 9, ht =>
      cases ht
      show zCo l (e + 1) 0 0 iX12_qJoins 244 [(4, .long x6), (2, .long x3), (0, .ref v0), (1, .int v1)] [] (z_rc 12 v0 (z_cv (X12_qPuts v0 (x6 * x3)) (z_ret none)))
      refine zco_p tkX12_qJoins 101 4 (pc' := 249) (L' := [(4, .long x6), (2, .long x3), (0, .ref v0), (1, .int v1)]) (S' := [.long (x6 * x3), .ref v0]) rfl ?_
      refine zco_Vv (rc := 0) (rs := 0) (mc := 0) (ms := 0) (As := [.long (x6 * x3)]) (S := []) vmX12_qPuts (mtX12_qPuts l e (by omega) v0 (x6 * x3)) q_2032 rfl rfl (Nat.le_of_ble_eq_true rfl) (zdk (cc := cX12_qJoins) (q := (249, .invokevirtual 444, 3)) tkX12_qJoins 105 rfl) ?_
      refine zco_p tkX12_qJoins 106 1 (pc' := 273) (L' := [(4, .long x6), (2, .long x3), (0, .ref v0), (1, .int v1)]) (S' := []) rfl ?_
      exact zco_vret rfl rfl rfl (zdk (cc := cX12_qJoins) (q := (273, .return_, 1)) tkX12_qJoins 118 rfl)
    | j + 10, ht => exact absurd ht (by simp)
theorem mtX12_qJoins (l : Launch) (d : Nat) (hd : 2 ≤ d) (v0 : Nat) (v1 : Int32) : zMet l d 0 0 yX12_qJoins cX12_qJoins 6 (Option.none : Option FieldType) [.ref v0, .int v1] (X12_qJoins v0 v1) := by
  obtain ⟨e, rfl⟩ : ∃ e, d = e + 1 := ⟨d - 1, by omega⟩
  exact zmet_of (own := RX12) (ini := false) (by decide +kernel) rfl (fun _ => by contradiction) (Nat.le_of_ble_eq_true rfl) (coX12_qJoins l e (by omega) v0 v1)
abbrev iX12_codesTell : zI := (RX12, cX12_codesTell, 4, (Option.some .long), false)
def tX12_codesTell : List (Nat × Instr × Nat) := [(0, .aload_n 0, 1), (1, .iload_n 1, 1), (2, .putfield 328, 3), (5, .aload_n 0, 1), (6, .iconst 0, 1), (7, .putfield 441, 3), (10, .aload_n 0, 1), (11, .getfield 125, 3), (14, .iconst 3, 1), (15, .iload_n 1, 1), (16, .iadd, 1), (17, .iaload, 1), (18, .istore_n 2, 1), (19, .iload_n 2, 1), (20, .aload_n 0, 1), (21, .getfield 128, 3), (24, .iconst 3, 1), (25, .iload_n 1, 1), (26, .iadd, 1), (27, .iaload, 1), (28, .if_icmp .ge 114, 3), (31, .aload_n 0, 1), (32, .getfield 131, 3), (35, .sipush 1600, 3), (38, .iload_n 2, 1), (39, .iadd, 1), (40, .iaload, 1), (41, .istore_n 3, 1), (42, .iload_n 3, 1), (43, .sipush 1000, 3), (46, .if_icmp .lt 16, 3), (49, .aload_n 0, 1), (50, .iload_n 3, 1), (51, .sipush 1000, 3), (54, .isub, 1), (55, .i2l, 1), (56, .invokevirtual 444, 3), (59, .goto 77, 3), (62, .iload_n 3, 1), (63, .bipush 40, 2), (65, .if_icmp .lt 19, 3), (68, .aload_n 0, 1), (69, .aload_n 0, 1), (70, .iload_n 3, 1), (71, .bipush 40, 2), (73, .isub, 1), (74, .iconst 0, 1), (75, .invokevirtual 448, 3), (78, .invokevirtual 444, 3), (81, .goto 55, 3), (84, .iload_n 3, 1), (85, .bipush 13, 2), (87, .if_icmp .ne 11, 3), (90, .aload_n 0, 1), (91, .lconst 1, 1), (92, .invokevirtual 444, 3), (95, .goto 41, 3), (98, .iload_n 3, 1), (99, .bipush 12, 2), (101, .if_icmp .ne 30, 3), (104, .aload_n 0, 1), (105, .getfield 261, 3), (108, .aload_n 0, 1), (109, .getfield 441, 3), (112, .iconst 1, 1), (113, .isub, 1), (114, .lconst 1, 1), (115, .aload_n 0, 1), (116, .getfield 261, 3), (119, .aload_n 0, 1), (120, .getfield 441, 3), (123, .iconst 1, 1), (124, .isub, 1), (125, .laload, 1), (126, .lsub, 1), (127, .lastore, 1), (128, .goto 8, 3), (131, .aload_n 0, 1), (132, .iload_n 3, 1), (133, .invokevirtual 452, 3), (136, .iinc 2 1, 3), (139, .goto (-120), 3), (142, .aload_n 0, 1), (143, .getfield 261, 3), (146, .iconst 0, 1), (147, .laload, 1), (148, .lreturn, 1)]
set_option maxRecDepth 100000 in
theorem tkX12_codesTell : ∀ q ∈ tX12_codesTell, decode cX12_codesTell q.1 = .ok q.2 := by decide +kernel
theorem vmX12_codesTell : zVM yX12_codesTell cX12_codesTell 4 (Option.some .long) 1 12 := ⟨kX12_codesTell, q_2030, q_107, q_162, ⟨_, rfl, rfl⟩, by decide +kernel, by decide⟩
set_option maxHeartbeats 2000000 in
set_option maxRecDepth 20000 in
theorem coX12_codesTell_J142 (l : Launch) (e : Nat) (he : 4 ≤ e) (v0 : Nat) : zCo l (e + 1) 0 0 iX12_codesTell 142 [(0, .ref v0)] [] (X12_codesTell_J142 v0) := by
  unfold X12_codesTell_J142
  refine zco_p tkX12_codesTell 82 1 (pc' := 143) (L' := [(0, .ref v0)]) (S' := [.ref v0]) rfl ?_
  refine zco_gr fl_12_261 rfl (zdk (cc := cX12_codesTell) (q := (143, .getfield 261, 3)) tkX12_codesTell 83 rfl) (fun x1 => ?_)
  refine zco_p tkX12_codesTell 84 1 (pc' := 147) (L' := [(0, .ref v0)]) (S' := [.int 0, .ref x1]) rfl ?_
  refine zco_laload (zdk (cc := cX12_codesTell) (q := (147, .laload, 1)) tkX12_codesTell 85 rfl) (fun x2 => ?_)
  exact zco_lret rfl rfl rfl (zdk (cc := cX12_codesTell) (q := (148, .lreturn, 1)) tkX12_codesTell 86 rfl)
set_option maxHeartbeats 2000000 in
set_option maxRecDepth 20000 in
theorem coX12_codesTell_J136 (l : Launch) (e : Nat) (he : 4 ≤ e) (v0 : Nat) (v1 : Int32) (v2 : Int32) (r19 : Int32 → zM) (hr19 : ∀ x : Int32, zCo l (e + 1) 0 0 iX12_codesTell 19 [(0, .ref v0), (1, .int v1), (2, .int x)] [] (r19 x)) : zCo l (e + 1) 0 0 iX12_codesTell 136 [(0, .ref v0), (1, .int v1), (2, .int v2)] [] (X12_codesTell_J136 r19 v0 v1 v2) := by
  unfold X12_codesTell_J136
  refine zco_p tkX12_codesTell 80 2 (pc' := 19) (L' := [(2, .int (v2 + 1)), (0, .ref v0), (1, .int v1)]) (S' := []) rfl ?_
  exact zco_sub [1, 2, 0] rfl (hr19 (v2 + 1))
set_option maxHeartbeats 2000000 in
set_option maxRecDepth 20000 in
theorem coX12_codesTell_B19 (l : Launch) (e : Nat) (he : 4 ≤ e) (v0 : Nat) (v1 : Int32) (r19 : Int32 → zM) (hr19 : ∀ x : Int32, zCo l (e + 1) 0 0 iX12_codesTell 19 [(0, .ref v0), (1, .int v1), (2, .int x)] [] (r19 x)) (v2 : Int32) : zCo l (e + 1) 0 0 iX12_codesTell 19 [(0, .ref v0), (1, .int v1), (2, .int v2)] [] (X12_codesTell_B19 v0 v1 r19 v2) := by
  unfold X12_codesTell_B19
  refine zco_p tkX12_codesTell 13 2 (pc' := 21) (L' := [(0, .ref v0), (1, .int v1), (2, .int v2)]) (S' := [.ref v0, .int v2]) rfl ?_
  refine zco_gr fl_12_128 rfl (zdk (cc := cX12_codesTell) (q := (21, .getfield 128, 3)) tkX12_codesTell 15 rfl) (fun x1 => ?_)
  refine zco_p tkX12_codesTell 16 3 (pc' := 27) (L' := [(0, .ref v0), (1, .int v1), (2, .int v2)]) (S' := [.int (3 + v1), .ref x1, .int v2]) rfl ?_
  refine zco_iaload (zdk (cc := cX12_codesTell) (q := (27, .iaload, 1)) tkX12_codesTell 19 rfl) (fun x2 => ?_)
  refine zco_icmp_ge (tgt := 142) (zdk (cc := cX12_codesTell) (q := (28, .if_icmp .ge 114, 3)) tkX12_codesTell 20 rfl) rfl ?_ ?_
  · exact zco_sub [0] rfl (coX12_codesTell_J142 l e he v0)
  · refine zco_p tkX12_codesTell 21 1 (pc' := 32) (L' := [(0, .ref v0), (1, .int v1), (2, .int v2)]) (S' := [.ref v0]) rfl ?_
    refine zco_gr fl_12_131 rfl (zdk (cc := cX12_codesTell) (q := (32, .getfield 131, 3)) tkX12_codesTell 22 rfl) (fun x3 => ?_)
    refine zco_p tkX12_codesTell 23 3 (pc' := 40) (L' := [(0, .ref v0), (1, .int v1), (2, .int v2)]) (S' := [.int (1600 + v2), .ref x3]) rfl ?_
    refine zco_iaload (zdk (cc := cX12_codesTell) (q := (40, .iaload, 1)) tkX12_codesTell 26 rfl) (fun x4 => ?_)
    refine zco_p tkX12_codesTell 27 3 (pc' := 46) (L' := [(3, .int x4), (0, .ref v0), (1, .int v1), (2, .int v2)]) (S' := [.int 1000, .int x4]) rfl ?_
    refine zco_icmp_lt (tgt := 62) (zdk (cc := cX12_codesTell) (q := (46, .if_icmp .lt 16, 3)) tkX12_codesTell 30 rfl) rfl ?_ ?_
    · refine zco_p tkX12_codesTell 38 2 (pc' := 65) (L' := [(3, .int x4), (0, .ref v0), (1, .int v1), (2, .int v2)]) (S' := [.int 40, .int x4]) rfl ?_
      refine zco_icmp_lt (tgt := 84) (zdk (cc := cX12_codesTell) (q := (65, .if_icmp .lt 19, 3)) tkX12_codesTell 40 rfl) rfl ?_ ?_
      · refine zco_p tkX12_codesTell 50 2 (pc' := 87) (L' := [(3, .int x4), (0, .ref v0), (1, .int v1), (2, .int v2)]) (S' := [.int 13, .int x4]) rfl ?_
        refine zco_icmp_ne (tgt := 98) (zdk (cc := cX12_codesTell) (q := (87, .if_icmp .ne 11, 3)) tkX12_codesTell 52 rfl) rfl ?_ ?_
        · refine zco_p tkX12_codesTell 57 2 (pc' := 101) (L' := [(3, .int x4), (0, .ref v0), (1, .int v1), (2, .int v2)]) (S' := [.int 12, .int x4]) rfl ?_
          refine zco_icmp_ne (tgt := 131) (zdk (cc := cX12_codesTell) (q := (101, .if_icmp .ne 30, 3)) tkX12_codesTell 59 rfl) rfl ?_ ?_
          · refine zco_p tkX12_codesTell 77 2 (pc' := 133) (L' := [(3, .int x4), (0, .ref v0), (1, .int v1), (2, .int v2)]) (S' := [.int x4, .ref v0]) rfl ?_
            refine zco_Vv (rc := 0) (rs := 0) (mc := 0) (ms := 0) (As := [.int x4]) (S := []) vmX12_qJoins (mtX12_qJoins l e (by omega) v0 x4) q_2040 rfl rfl (Nat.le_of_ble_eq_true rfl) (zdk (cc := cX12_codesTell) (q := (133, .invokevirtual 452, 3)) tkX12_codesTell 79 rfl) ?_
            exact zco_sub [1, 2, 3] rfl (coX12_codesTell_J136 l e he v0 v1 v2 r19 hr19)
          · refine zco_p tkX12_codesTell 60 1 (pc' := 105) (L' := [(3, .int x4), (0, .ref v0), (1, .int v1), (2, .int v2)]) (S' := [.ref v0]) rfl ?_
            refine zco_gr fl_12_261 rfl (zdk (cc := cX12_codesTell) (q := (105, .getfield 261, 3)) tkX12_codesTell 61 rfl) (fun x5 => ?_)
            refine zco_p tkX12_codesTell 62 1 (pc' := 109) (L' := [(3, .int x4), (0, .ref v0), (1, .int v1), (2, .int v2)]) (S' := [.ref v0, .ref x5]) rfl ?_
            refine zco_gi fl_12_441 rfl (zdk (cc := cX12_codesTell) (q := (109, .getfield 441, 3)) tkX12_codesTell 63 rfl) (fun x6 => ?_)
            refine zco_p tkX12_codesTell 64 4 (pc' := 116) (L' := [(3, .int x4), (0, .ref v0), (1, .int v1), (2, .int v2)]) (S' := [.ref v0, .long 1, .int (x6 - 1), .ref x5]) rfl ?_
            refine zco_gr fl_12_261 rfl (zdk (cc := cX12_codesTell) (q := (116, .getfield 261, 3)) tkX12_codesTell 68 rfl) (fun x7 => ?_)
            refine zco_p tkX12_codesTell 69 1 (pc' := 120) (L' := [(3, .int x4), (0, .ref v0), (1, .int v1), (2, .int v2)]) (S' := [.ref v0, .ref x7, .long 1, .int (x6 - 1), .ref x5]) rfl ?_
            refine zco_gi fl_12_441 rfl (zdk (cc := cX12_codesTell) (q := (120, .getfield 441, 3)) tkX12_codesTell 70 rfl) (fun x8 => ?_)
            refine zco_p tkX12_codesTell 71 2 (pc' := 125) (L' := [(3, .int x4), (0, .ref v0), (1, .int v1), (2, .int v2)]) (S' := [.int (x8 - 1), .ref x7, .long 1, .int (x6 - 1), .ref x5]) rfl ?_
            refine zco_laload (zdk (cc := cX12_codesTell) (q := (125, .laload, 1)) tkX12_codesTell 73 rfl) (fun x9 => ?_)
            refine zco_p tkX12_codesTell 74 1 (pc' := 127) (L' := [(3, .int x4), (0, .ref v0), (1, .int v1), (2, .int v2)]) (S' := [.long (1 - x9), .int (x6 - 1), .ref x5]) rfl ?_
            refine zco_lastore (zdk (cc := cX12_codesTell) (q := (127, .lastore, 1)) tkX12_codesTell 75 rfl) ?_
            refine zco_p tkX12_codesTell 76 1 (pc' := 136) (L' := [(3, .int x4), (0, .ref v0), (1, .int v1), (2, .int v2)]) (S' := []) rfl ?_
            exact zco_sub [1, 2, 3] rfl (coX12_codesTell_J136 l e he v0 v1 v2 r19 hr19)
        · refine zco_p tkX12_codesTell 53 2 (pc' := 92) (L' := [(3, .int x4), (0, .ref v0), (1, .int v1), (2, .int v2)]) (S' := [.long 1, .ref v0]) rfl ?_
          refine zco_Vv (rc := 0) (rs := 0) (mc := 0) (ms := 0) (As := [.long 1]) (S := []) vmX12_qPuts (mtX12_qPuts l e (by omega) v0 1) q_2032 rfl rfl (Nat.le_of_ble_eq_true rfl) (zdk (cc := cX12_codesTell) (q := (92, .invokevirtual 444, 3)) tkX12_codesTell 55 rfl) ?_
          refine zco_p tkX12_codesTell 56 1 (pc' := 136) (L' := [(3, .int x4), (0, .ref v0), (1, .int v1), (2, .int v2)]) (S' := []) rfl ?_
          exact zco_sub [1, 2, 3] rfl (coX12_codesTell_J136 l e he v0 v1 v2 r19 hr19)
      · refine zco_p tkX12_codesTell 41 6 (pc' := 75) (L' := [(3, .int x4), (0, .ref v0), (1, .int v1), (2, .int v2)]) (S' := [.int 0, .int (x4 - 40), .ref v0, .ref v0]) rfl ?_
        refine zco_Vl (rc := 0) (rs := 0) (mc := 0) (ms := 0) (As := [.int (x4 - 40), .int 0]) (S := [.ref v0]) vmX12_qPartOf (mtX12_qPartOf l e (by omega) v0 (x4 - 40) 0) q_2036 rfl rfl (Nat.le_of_ble_eq_true rfl) (zdk (cc := cX12_codesTell) (q := (75, .invokevirtual 448, 3)) tkX12_codesTell 47 rfl) (fun y10 => ?_)
        refine zco_Vv (rc := 0) (rs := 0) (mc := 0) (ms := 0) (As := [.long y10]) (S := []) vmX12_qPuts (mtX12_qPuts l e (by omega) v0 y10) q_2032 rfl rfl (Nat.le_of_ble_eq_true rfl) (zdk (cc := cX12_codesTell) (q := (78, .invokevirtual 444, 3)) tkX12_codesTell 48 rfl) ?_
        refine zco_p tkX12_codesTell 49 1 (pc' := 136) (L' := [(3, .int x4), (0, .ref v0), (1, .int v1), (2, .int v2)]) (S' := []) rfl ?_
        exact zco_sub [1, 2, 3] rfl (coX12_codesTell_J136 l e he v0 v1 v2 r19 hr19)
    · refine zco_p tkX12_codesTell 31 5 (pc' := 56) (L' := [(3, .int x4), (0, .ref v0), (1, .int v1), (2, .int v2)]) (S' := [.long ((x4 - 1000 : Int32).toInt64), .ref v0]) rfl ?_
      refine zco_Vv (rc := 0) (rs := 0) (mc := 0) (ms := 0) (As := [.long ((x4 - 1000 : Int32).toInt64)]) (S := []) vmX12_qPuts (mtX12_qPuts l e (by omega) v0 ((x4 - 1000 : Int32).toInt64)) q_2032 rfl rfl (Nat.le_of_ble_eq_true rfl) (zdk (cc := cX12_codesTell) (q := (56, .invokevirtual 444, 3)) tkX12_codesTell 36 rfl) ?_
      refine zco_p tkX12_codesTell 37 1 (pc' := 136) (L' := [(3, .int x4), (0, .ref v0), (1, .int v1), (2, .int v2)]) (S' := []) rfl ?_
      exact zco_sub [1, 2, 3] rfl (coX12_codesTell_J136 l e he v0 v1 v2 r19 hr19)
set_option maxHeartbeats 2000000 in
set_option maxRecDepth 20000 in
theorem coX12_codesTell (l : Launch) (e : Nat) (he : 4 ≤ e) (v0 : Nat) (v1 : Int32) : zCo l (e + 1) 0 0 iX12_codesTell 0 [(0, .ref v0), (1, .int v1)] [] (X12_codesTell v0 v1) := by
  unfold X12_codesTell
  refine zco_p tkX12_codesTell 0 2 (pc' := 2) (L' := [(0, .ref v0), (1, .int v1)]) (S' := [.int v1, .ref v0]) rfl ?_
  refine zco_pi fl_12_328 rfl rfl (zdk (cc := cX12_codesTell) (q := (2, .putfield 328, 3)) tkX12_codesTell 2 rfl) ?_
  refine zco_p tkX12_codesTell 3 2 (pc' := 7) (L' := [(0, .ref v0), (1, .int v1)]) (S' := [.int 0, .ref v0]) rfl ?_
  refine zco_pi fl_12_441 rfl rfl (zdk (cc := cX12_codesTell) (q := (7, .putfield 441, 3)) tkX12_codesTell 5 rfl) ?_
  refine zco_p tkX12_codesTell 6 1 (pc' := 11) (L' := [(0, .ref v0), (1, .int v1)]) (S' := [.ref v0]) rfl ?_
  refine zco_gr fl_12_125 rfl (zdk (cc := cX12_codesTell) (q := (11, .getfield 125, 3)) tkX12_codesTell 7 rfl) (fun x1 => ?_)
  refine zco_p tkX12_codesTell 8 3 (pc' := 17) (L' := [(0, .ref v0), (1, .int v1)]) (S' := [.int (3 + v1), .ref x1]) rfl ?_
  refine zco_iaload (zdk (cc := cX12_codesTell) (q := (17, .iaload, 1)) tkX12_codesTell 11 rfl) (fun x2 => ?_)
  refine zco_p tkX12_codesTell 12 1 (pc' := 19) (L' := [(2, .int x2), (0, .ref v0), (1, .int v1)]) (S' := []) rfl ?_
  exact zco_sub [1, 2, 0] rfl (zco_fix (Lf := fun x : Int32 => [(0, .ref v0), (1, .int v1), (2, .int x)]) (Sf := fun _ => []) (fun r hr x => coX12_codesTell_B19 l e he v0 v1 r hr x) zFU x2)
theorem mtX12_codesTell (l : Launch) (d : Nat) (hd : 5 ≤ d) (v0 : Nat) (v1 : Int32) : zMet l d 0 0 yX12_codesTell cX12_codesTell 4 (Option.some .long) [.ref v0, .int v1] (X12_codesTell v0 v1) := by
  obtain ⟨e, rfl⟩ : ∃ e, d = e + 1 := ⟨d - 1, by omega⟩
  exact zmet_of (own := RX12) (ini := false) (by decide +kernel) rfl (fun _ => by contradiction) (Nat.le_of_ble_eq_true rfl) (coX12_codesTell l e (by omega) v0 v1)
abbrev iX12_asksOf : zI := (RX12, cX12_asksOf, 3, (Option.none : Option FieldType), false)
def tX12_asksOf : List (Nat × Instr × Nat) := [(0, .aload_n 0, 1), (1, .aload_n 0, 1), (2, .iload_n 1, 1), (3, .invokevirtual 455, 3), (6, .putfield 458, 3), (9, .aload_n 0, 1), (10, .aload_n 0, 1), (11, .iload_n 2, 1), (12, .invokevirtual 455, 3), (15, .putfield 461, 3), (18, .aload_n 0, 1), (19, .aload_n 0, 1), (20, .getfield 134, 3), (23, .aload_n 0, 1), (24, .iload_n 1, 1), (25, .iload_n 2, 1), (26, .invokevirtual 435, 3), (29, .iaload, 1), (30, .putfield 464, 3), (33, .aload_n 0, 1), (34, .aload_n 0, 1), (35, .getfield 134, 3), (38, .aload_n 0, 1), (39, .iload_n 1, 1), (40, .iload_n 2, 1), (41, .invokevirtual 432, 3), (44, .iaload, 1), (45, .putfield 467, 3), (48, .return_, 1)]
set_option maxRecDepth 100000 in
theorem tkX12_asksOf : ∀ q ∈ tX12_asksOf, decode cX12_asksOf q.1 = .ok q.2 := by decide +kernel
theorem vmX12_asksOf : zVM yX12_asksOf cX12_asksOf 3 (Option.none : Option FieldType) 2 12 := ⟨kX12_asksOf, q_2022, q_105, q_162, ⟨_, rfl, rfl⟩, by decide +kernel, by decide⟩
set_option maxHeartbeats 2000000 in
set_option maxRecDepth 20000 in
theorem coX12_asksOf (l : Launch) (e : Nat) (he : 2 ≤ e) (v0 : Nat) (v1 : Int32) (v2 : Int32) : zCo l (e + 1) 0 0 iX12_asksOf 0 [(0, .ref v0), (1, .int v1), (2, .int v2)] [] (X12_asksOf v0 v1 v2) := by
  unfold X12_asksOf
  refine zco_p tkX12_asksOf 0 3 (pc' := 3) (L' := [(0, .ref v0), (1, .int v1), (2, .int v2)]) (S' := [.int v1, .ref v0, .ref v0]) rfl ?_
  refine zco_Vi (rc := 0) (rs := 0) (mc := 0) (ms := 0) (As := [.int v1]) (S := [.ref v0]) vmX12_numberOf (mtX12_numberOf l e (by omega) v0 v1) q_1976 rfl rfl (Nat.le_of_ble_eq_true rfl) (zdk (cc := cX12_asksOf) (q := (3, .invokevirtual 455, 3)) tkX12_asksOf 3 rfl) (fun y1 => ?_)
  refine zco_pi fl_12_458 rfl rfl (zdk (cc := cX12_asksOf) (q := (6, .putfield 458, 3)) tkX12_asksOf 4 rfl) ?_
  refine zco_p tkX12_asksOf 5 3 (pc' := 12) (L' := [(0, .ref v0), (1, .int v1), (2, .int v2)]) (S' := [.int v2, .ref v0, .ref v0]) rfl ?_
  refine zco_Vi (rc := 0) (rs := 0) (mc := 0) (ms := 0) (As := [.int v2]) (S := [.ref v0]) vmX12_numberOf (mtX12_numberOf l e (by omega) v0 v2) q_1976 rfl rfl (Nat.le_of_ble_eq_true rfl) (zdk (cc := cX12_asksOf) (q := (12, .invokevirtual 455, 3)) tkX12_asksOf 8 rfl) (fun y2 => ?_)
  refine zco_pi fl_12_461 rfl rfl (zdk (cc := cX12_asksOf) (q := (15, .putfield 461, 3)) tkX12_asksOf 9 rfl) ?_
  refine zco_p tkX12_asksOf 10 2 (pc' := 20) (L' := [(0, .ref v0), (1, .int v1), (2, .int v2)]) (S' := [.ref v0, .ref v0]) rfl ?_
  refine zco_gr fl_12_134 rfl (zdk (cc := cX12_asksOf) (q := (20, .getfield 134, 3)) tkX12_asksOf 12 rfl) (fun x3 => ?_)
  refine zco_p tkX12_asksOf 13 3 (pc' := 26) (L' := [(0, .ref v0), (1, .int v1), (2, .int v2)]) (S' := [.int v2, .int v1, .ref v0, .ref x3, .ref v0]) rfl ?_
  refine zco_Vi (rc := 0) (rs := 0) (mc := 0) (ms := 0) (As := [.int v1, .int v2]) (S := [.ref x3, .ref v0]) vmX12_knowingAt (mtX12_knowingAt l e (by omega) v0 v1 v2) q_2012 rfl rfl (Nat.le_of_ble_eq_true rfl) (zdk (cc := cX12_asksOf) (q := (26, .invokevirtual 435, 3)) tkX12_asksOf 16 rfl) (fun y4 => ?_)
  refine zco_iaload (zdk (cc := cX12_asksOf) (q := (29, .iaload, 1)) tkX12_asksOf 17 rfl) (fun x5 => ?_)
  refine zco_pi fl_12_464 rfl rfl (zdk (cc := cX12_asksOf) (q := (30, .putfield 464, 3)) tkX12_asksOf 18 rfl) ?_
  refine zco_p tkX12_asksOf 19 2 (pc' := 35) (L' := [(0, .ref v0), (1, .int v1), (2, .int v2)]) (S' := [.ref v0, .ref v0]) rfl ?_
  refine zco_gr fl_12_134 rfl (zdk (cc := cX12_asksOf) (q := (35, .getfield 134, 3)) tkX12_asksOf 21 rfl) (fun x6 => ?_)
  refine zco_p tkX12_asksOf 22 3 (pc' := 41) (L' := [(0, .ref v0), (1, .int v1), (2, .int v2)]) (S' := [.int v2, .int v1, .ref v0, .ref x6, .ref v0]) rfl ?_
  refine zco_Vi (rc := 0) (rs := 0) (mc := 0) (ms := 0) (As := [.int v1, .int v2]) (S := [.ref x6, .ref v0]) vmX12_likingAt (mtX12_likingAt l e (by omega) v0 v1 v2) q_2004 rfl rfl (Nat.le_of_ble_eq_true rfl) (zdk (cc := cX12_asksOf) (q := (41, .invokevirtual 432, 3)) tkX12_asksOf 25 rfl) (fun y7 => ?_)
  refine zco_iaload (zdk (cc := cX12_asksOf) (q := (44, .iaload, 1)) tkX12_asksOf 26 rfl) (fun x8 => ?_)
  refine zco_pi fl_12_467 rfl rfl (zdk (cc := cX12_asksOf) (q := (45, .putfield 467, 3)) tkX12_asksOf 27 rfl) ?_
  exact zco_vret rfl rfl rfl (zdk (cc := cX12_asksOf) (q := (48, .return_, 1)) tkX12_asksOf 28 rfl)
theorem mtX12_asksOf (l : Launch) (d : Nat) (hd : 3 ≤ d) (v0 : Nat) (v1 : Int32) (v2 : Int32) : zMet l d 0 0 yX12_asksOf cX12_asksOf 3 (Option.none : Option FieldType) [.ref v0, .int v1, .int v2] (X12_asksOf v0 v1 v2) := by
  obtain ⟨e, rfl⟩ : ∃ e, d = e + 1 := ⟨d - 1, by omega⟩
  exact zmet_of (own := RX12) (ini := false) (by decide +kernel) rfl (fun _ => by contradiction) (Nat.le_of_ble_eq_true rfl) (coX12_asksOf l e (by omega) v0 v1 v2)
abbrev iX12_feltBy : zI := (RX12, cX12_feltBy, 3, (Option.some .int), false)
def tX12_feltBy : List (Nat × Instr × Nat) := [(0, .aload_n 0, 1), (1, .iload_n 1, 1), (2, .iload_n 2, 1), (3, .invokevirtual 470, 3), (6, .aload_n 0, 1), (7, .iconst 0, 1), (8, .invokevirtual 473, 3), (11, .ifCond .eq 11, 3), (14, .aload_n 0, 1), (15, .iconst 0, 1), (16, .invokevirtual 476, 3), (19, .goto 13, 3), (22, .aload_n 0, 1), (23, .getfield 467, 3), (26, .aload_n 0, 1), (27, .getfield 464, 3), (30, .iadd, 1), (31, .i2l, 1), (32, .bipush 99, 2), (34, .invokestatic 480, 3), (37, .ireturn, 1)]
set_option maxRecDepth 100000 in
theorem tkX12_feltBy : ∀ q ∈ tX12_feltBy, decode cX12_feltBy q.1 = .ok q.2 := by decide +kernel
theorem vmX12_feltBy : zVM yX12_feltBy cX12_feltBy 3 (Option.some .int) 2 12 := ⟨kX12_feltBy, q_2018, q_104, q_162, ⟨_, rfl, rfl⟩, by decide +kernel, by decide⟩
set_option maxHeartbeats 2000000 in
set_option maxRecDepth 20000 in
theorem coX12_feltBy_J32 (l : Launch) (e : Nat) (he : 5 ≤ e) (s0 : Int64) : zCo l (e + 1) 0 0 iX12_feltBy 32 [] [.long s0] (X12_feltBy_J32 s0) := by
  unfold X12_feltBy_J32
  refine zco_p tkX12_feltBy 18 1 (pc' := 34) (L' := []) (S' := [.int 99, .long s0]) rfl ?_
  refine zco_Si (rc := 0) (rs := 0) (mc := 0) (ms := 0) (As := [.long s0, .int 99]) (S := []) vmX12_clamp (mtX12_clamp l e (by omega) s0 99) q_2052 rfl rfl (Nat.le_of_ble_eq_true rfl) (zdk (cc := cX12_feltBy) (q := (34, .invokestatic 480, 3)) tkX12_feltBy 19 rfl) (fun y1 => ?_)
  exact zco_iret rfl rfl rfl (zdk (cc := cX12_feltBy) (q := (37, .ireturn, 1)) tkX12_feltBy 20 rfl)
set_option maxHeartbeats 2000000 in
set_option maxRecDepth 20000 in
theorem coX12_feltBy (l : Launch) (e : Nat) (he : 5 ≤ e) (v0 : Nat) (v1 : Int32) (v2 : Int32) : zCo l (e + 1) 0 0 iX12_feltBy 0 [(0, .ref v0), (1, .int v1), (2, .int v2)] [] (X12_feltBy v0 v1 v2) := by
  unfold X12_feltBy
  refine zco_p tkX12_feltBy 0 3 (pc' := 3) (L' := [(0, .ref v0), (1, .int v1), (2, .int v2)]) (S' := [.int v2, .int v1, .ref v0]) rfl ?_
  refine zco_Vv (rc := 0) (rs := 0) (mc := 0) (ms := 0) (As := [.int v1, .int v2]) (S := []) vmX12_asksOf (mtX12_asksOf l e (by omega) v0 v1 v2) q_2020 rfl rfl (Nat.le_of_ble_eq_true rfl) (zdk (cc := cX12_feltBy) (q := (3, .invokevirtual 470, 3)) tkX12_feltBy 3 rfl) ?_
  refine zco_p tkX12_feltBy 4 2 (pc' := 8) (L' := [(0, .ref v0), (1, .int v1), (2, .int v2)]) (S' := [.int 0, .ref v0]) rfl ?_
  refine zco_Vi (rc := 0) (rs := 0) (mc := 0) (ms := 0) (As := [.int 0]) (S := []) vmX12_isCoded (mtX12_isCoded l e (by omega) v0 0) q_2024 rfl rfl (Nat.le_of_ble_eq_true rfl) (zdk (cc := cX12_feltBy) (q := (8, .invokevirtual 473, 3)) tkX12_feltBy 6 rfl) (fun y1 => ?_)
  refine zco_if_eq (tgt := 22) (zdk (cc := cX12_feltBy) (q := (11, .ifCond .eq 11, 3)) tkX12_feltBy 7 rfl) rfl ?_ ?_
  · refine zco_p tkX12_feltBy 12 1 (pc' := 23) (L' := [(0, .ref v0), (1, .int v1), (2, .int v2)]) (S' := [.ref v0]) rfl ?_
    refine zco_gi fl_12_467 rfl (zdk (cc := cX12_feltBy) (q := (23, .getfield 467, 3)) tkX12_feltBy 13 rfl) (fun x2 => ?_)
    refine zco_p tkX12_feltBy 14 1 (pc' := 27) (L' := [(0, .ref v0), (1, .int v1), (2, .int v2)]) (S' := [.ref v0, .int x2]) rfl ?_
    refine zco_gi fl_12_464 rfl (zdk (cc := cX12_feltBy) (q := (27, .getfield 464, 3)) tkX12_feltBy 15 rfl) (fun x3 => ?_)
    refine zco_p tkX12_feltBy 16 2 (pc' := 32) (L' := [(0, .ref v0), (1, .int v1), (2, .int v2)]) (S' := [.long ((x2 + x3 : Int32).toInt64)]) rfl ?_
    exact zco_sub [] rfl (coX12_feltBy_J32 l e he ((x2 + x3 : Int32).toInt64))
  · refine zco_p tkX12_feltBy 8 2 (pc' := 16) (L' := [(0, .ref v0), (1, .int v1), (2, .int v2)]) (S' := [.int 0, .ref v0]) rfl ?_
    refine zco_Vl (rc := 0) (rs := 0) (mc := 0) (ms := 0) (As := [.int 0]) (S := []) vmX12_codesTell (mtX12_codesTell l e (by omega) v0 0) q_2028 rfl rfl (Nat.le_of_ble_eq_true rfl) (zdk (cc := cX12_feltBy) (q := (16, .invokevirtual 476, 3)) tkX12_feltBy 10 rfl) (fun y4 => ?_)
    refine zco_p tkX12_feltBy 11 1 (pc' := 32) (L' := [(0, .ref v0), (1, .int v1), (2, .int v2)]) (S' := [.long y4]) rfl ?_
    exact zco_sub [] rfl (coX12_feltBy_J32 l e he y4)
theorem mtX12_feltBy (l : Launch) (d : Nat) (hd : 6 ≤ d) (v0 : Nat) (v1 : Int32) (v2 : Int32) : zMet l d 0 0 yX12_feltBy cX12_feltBy 3 (Option.some .int) [.ref v0, .int v1, .int v2] (X12_feltBy v0 v1 v2) := by
  obtain ⟨e, rfl⟩ : ∃ e, d = e + 1 := ⟨d - 1, by omega⟩
  exact zmet_of (own := RX12) (ini := false) (by decide +kernel) rfl (fun _ => by contradiction) (Nat.le_of_ble_eq_true rfl) (coX12_feltBy l e (by omega) v0 v1 v2)
abbrev iX12_doesLet : zI := (RX12, cX12_doesLet, 4, (Option.some .boolean), false)
def tX12_doesLet : List (Nat × Instr × Nat) := [(0, .aload_n 0, 1), (1, .iload_n 1, 1), (2, .iload_n 2, 1), (3, .invokevirtual 484, 3), (6, .istore_n 3, 1), (7, .aload_n 0, 1), (8, .iload_n 1, 1), (9, .iload_n 2, 1), (10, .invokevirtual 470, 3), (13, .aload_n 0, 1), (14, .iload_n 3, 1), (15, .putfield 487, 3), (18, .aload_n 0, 1), (19, .iconst 1, 1), (20, .invokevirtual 473, 3), (23, .ifCond .eq 21, 3), (26, .aload_n 0, 1), (27, .iconst 1, 1), (28, .invokevirtual 476, 3), (31, .lconst 1, 1), (32, .lcmp, 1), (33, .ifCond .ne 7, 3), (36, .iconst 1, 1), (37, .goto 18, 3), (40, .iconst 0, 1), (41, .goto 14, 3), (44, .iload_n 3, 1), (45, .bipush 8, 2), (47, .if_icmp .ge 7, 3), (50, .iconst 1, 1), (51, .goto 4, 3), (54, .iconst 0, 1), (55, .ireturn, 1)]
set_option maxRecDepth 100000 in
theorem tkX12_doesLet : ∀ q ∈ tX12_doesLet, decode cX12_doesLet q.1 = .ok q.2 := by decide +kernel
theorem vmX12_doesLet : zVM yX12_doesLet cX12_doesLet 4 (Option.some .boolean) 2 12 := ⟨kX12_doesLet, q_2057, q_111, q_162, ⟨_, rfl, rfl⟩, by decide +kernel, by decide⟩
set_option maxHeartbeats 2000000 in
set_option maxRecDepth 20000 in
theorem coX12_doesLet (l : Launch) (e : Nat) (he : 6 ≤ e) (v0 : Nat) (v1 : Int32) (v2 : Int32) : zCo l (e + 1) 0 0 iX12_doesLet 0 [(0, .ref v0), (1, .int v1), (2, .int v2)] [] (X12_doesLet v0 v1 v2) := by
  unfold X12_doesLet
  refine zco_p tkX12_doesLet 0 3 (pc' := 3) (L' := [(0, .ref v0), (1, .int v1), (2, .int v2)]) (S' := [.int v2, .int v1, .ref v0]) rfl ?_
  refine zco_Vi (rc := 0) (rs := 0) (mc := 0) (ms := 0) (As := [.int v1, .int v2]) (S := []) vmX12_feltBy (mtX12_feltBy l e (by omega) v0 v1 v2) q_2016 rfl rfl (Nat.le_of_ble_eq_true rfl) (zdk (cc := cX12_doesLet) (q := (3, .invokevirtual 484, 3)) tkX12_doesLet 3 rfl) (fun y1 => ?_)
  refine zco_p tkX12_doesLet 4 4 (pc' := 10) (L' := [(3, .int y1), (0, .ref v0), (1, .int v1), (2, .int v2)]) (S' := [.int v2, .int v1, .ref v0]) rfl ?_
  refine zco_Vv (rc := 0) (rs := 0) (mc := 0) (ms := 0) (As := [.int v1, .int v2]) (S := []) vmX12_asksOf (mtX12_asksOf l e (by omega) v0 v1 v2) q_2020 rfl rfl (Nat.le_of_ble_eq_true rfl) (zdk (cc := cX12_doesLet) (q := (10, .invokevirtual 470, 3)) tkX12_doesLet 8 rfl) ?_
  refine zco_p tkX12_doesLet 9 2 (pc' := 15) (L' := [(3, .int y1), (0, .ref v0), (1, .int v1), (2, .int v2)]) (S' := [.int y1, .ref v0]) rfl ?_
  refine zco_pi fl_12_487 rfl rfl (zdk (cc := cX12_doesLet) (q := (15, .putfield 487, 3)) tkX12_doesLet 11 rfl) ?_
  refine zco_p tkX12_doesLet 12 2 (pc' := 20) (L' := [(3, .int y1), (0, .ref v0), (1, .int v1), (2, .int v2)]) (S' := [.int 1, .ref v0]) rfl ?_
  refine zco_Vi (rc := 0) (rs := 0) (mc := 0) (ms := 0) (As := [.int 1]) (S := []) vmX12_isCoded (mtX12_isCoded l e (by omega) v0 1) q_2024 rfl rfl (Nat.le_of_ble_eq_true rfl) (zdk (cc := cX12_doesLet) (q := (20, .invokevirtual 473, 3)) tkX12_doesLet 14 rfl) (fun y2 => ?_)
  refine zco_if_eq (tgt := 44) (zdk (cc := cX12_doesLet) (q := (23, .ifCond .eq 21, 3)) tkX12_doesLet 15 rfl) rfl ?_ ?_
  · refine zco_p tkX12_doesLet 26 2 (pc' := 47) (L' := [(3, .int y1), (0, .ref v0), (1, .int v1), (2, .int v2)]) (S' := [.int 8, .int y1]) rfl ?_
    refine zco_icmp_ge (tgt := 54) (zdk (cc := cX12_doesLet) (q := (47, .if_icmp .ge 7, 3)) tkX12_doesLet 28 rfl) rfl ?_ ?_
    · refine zco_p tkX12_doesLet 31 1 (pc' := 55) (L' := [(3, .int y1), (0, .ref v0), (1, .int v1), (2, .int v2)]) (S' := [.int 0]) rfl ?_
      exact zco_zret rfl rfl rfl (zdk (cc := cX12_doesLet) (q := (55, .ireturn, 1)) tkX12_doesLet 32 rfl)
    · refine zco_p tkX12_doesLet 29 2 (pc' := 55) (L' := [(3, .int y1), (0, .ref v0), (1, .int v1), (2, .int v2)]) (S' := [.int 1]) rfl ?_
      exact zco_zret rfl rfl rfl (zdk (cc := cX12_doesLet) (q := (55, .ireturn, 1)) tkX12_doesLet 32 rfl)
  · refine zco_p tkX12_doesLet 16 2 (pc' := 28) (L' := [(3, .int y1), (0, .ref v0), (1, .int v1), (2, .int v2)]) (S' := [.int 1, .ref v0]) rfl ?_
    refine zco_Vl (rc := 0) (rs := 0) (mc := 0) (ms := 0) (As := [.int 1]) (S := []) vmX12_codesTell (mtX12_codesTell l e (by omega) v0 1) q_2028 rfl rfl (Nat.le_of_ble_eq_true rfl) (zdk (cc := cX12_doesLet) (q := (28, .invokevirtual 476, 3)) tkX12_doesLet 18 rfl) (fun y3 => ?_)
    refine zco_p tkX12_doesLet 19 1 (pc' := 32) (L' := [(3, .int y1), (0, .ref v0), (1, .int v1), (2, .int v2)]) (S' := [.long 1, .long y3]) rfl ?_
    refine zco_lcmp_ne (tgt := 40) (zdk (cc := cX12_doesLet) (q := (32, .lcmp, 1)) tkX12_doesLet 20 rfl) (zdk (cc := cX12_doesLet) (q := (33, .ifCond .ne 7, 3)) tkX12_doesLet 21 rfl) rfl ?_ ?_
    · refine zco_p tkX12_doesLet 24 2 (pc' := 55) (L' := [(3, .int y1), (0, .ref v0), (1, .int v1), (2, .int v2)]) (S' := [.int 0]) rfl ?_
      exact zco_zret rfl rfl rfl (zdk (cc := cX12_doesLet) (q := (55, .ireturn, 1)) tkX12_doesLet 32 rfl)
    · refine zco_p tkX12_doesLet 22 2 (pc' := 55) (L' := [(3, .int y1), (0, .ref v0), (1, .int v1), (2, .int v2)]) (S' := [.int 1]) rfl ?_
      exact zco_zret rfl rfl rfl (zdk (cc := cX12_doesLet) (q := (55, .ireturn, 1)) tkX12_doesLet 32 rfl)
theorem mtX12_doesLet (l : Launch) (d : Nat) (hd : 7 ≤ d) (v0 : Nat) (v1 : Int32) (v2 : Int32) : zMet l d 0 0 yX12_doesLet cX12_doesLet 4 (Option.some .boolean) [.ref v0, .int v1, .int v2] (X12_doesLet v0 v1 v2) := by
  obtain ⟨e, rfl⟩ : ∃ e, d = e + 1 := ⟨d - 1, by omega⟩
  exact zmet_of (own := RX12) (ini := false) (by decide +kernel) rfl (fun _ => by contradiction) (Nat.le_of_ble_eq_true rfl) (coX12_doesLet l e (by omega) v0 v1 v2)
abbrev iX12_learnt : zI := (RX12, cX12_learnt, 4, (Option.some .int), false)
def tX12_learnt : List (Nat × Instr × Nat) := [(0, .aload_n 0, 1), (1, .iload_n 1, 1), (2, .iload_n 2, 1), (3, .invokevirtual 484, 3), (6, .istore_n 3, 1), (7, .aload_n 0, 1), (8, .iload_n 1, 1), (9, .iload_n 2, 1), (10, .invokevirtual 470, 3), (13, .aload_n 0, 1), (14, .iload_n 3, 1), (15, .putfield 487, 3), (18, .aload_n 0, 1), (19, .iconst 2, 1), (20, .invokevirtual 473, 3), (23, .ifCond .eq 11, 3), (26, .aload_n 0, 1), (27, .iconst 2, 1), (28, .invokevirtual 476, 3), (31, .goto 10, 3), (34, .aload_n 0, 1), (35, .getfield 464, 3), (38, .iconst 1, 1), (39, .iadd, 1), (40, .i2l, 1), (41, .bipush 9, 2), (43, .invokestatic 480, 3), (46, .ireturn, 1)]
set_option maxRecDepth 100000 in
theorem tkX12_learnt : ∀ q ∈ tX12_learnt, decode cX12_learnt q.1 = .ok q.2 := by decide +kernel
theorem vmX12_learnt : zVM yX12_learnt cX12_learnt 4 (Option.some .int) 2 12 := ⟨kX12_learnt, q_2090, q_117, q_162, ⟨_, rfl, rfl⟩, by decide +kernel, by decide⟩
set_option maxHeartbeats 2000000 in
set_option maxRecDepth 20000 in
theorem coX12_learnt_J41 (l : Launch) (e : Nat) (he : 6 ≤ e) (s0 : Int64) : zCo l (e + 1) 0 0 iX12_learnt 41 [] [.long s0] (X12_learnt_J41 s0) := by
  unfold X12_learnt_J41
  refine zco_p tkX12_learnt 25 1 (pc' := 43) (L' := []) (S' := [.int 9, .long s0]) rfl ?_
  refine zco_Si (rc := 0) (rs := 0) (mc := 0) (ms := 0) (As := [.long s0, .int 9]) (S := []) vmX12_clamp (mtX12_clamp l e (by omega) s0 9) q_2052 rfl rfl (Nat.le_of_ble_eq_true rfl) (zdk (cc := cX12_learnt) (q := (43, .invokestatic 480, 3)) tkX12_learnt 26 rfl) (fun y1 => ?_)
  exact zco_iret rfl rfl rfl (zdk (cc := cX12_learnt) (q := (46, .ireturn, 1)) tkX12_learnt 27 rfl)
set_option maxHeartbeats 2000000 in
set_option maxRecDepth 20000 in
theorem coX12_learnt (l : Launch) (e : Nat) (he : 6 ≤ e) (v0 : Nat) (v1 : Int32) (v2 : Int32) : zCo l (e + 1) 0 0 iX12_learnt 0 [(0, .ref v0), (1, .int v1), (2, .int v2)] [] (X12_learnt v0 v1 v2) := by
  unfold X12_learnt
  refine zco_p tkX12_learnt 0 3 (pc' := 3) (L' := [(0, .ref v0), (1, .int v1), (2, .int v2)]) (S' := [.int v2, .int v1, .ref v0]) rfl ?_
  refine zco_Vi (rc := 0) (rs := 0) (mc := 0) (ms := 0) (As := [.int v1, .int v2]) (S := []) vmX12_feltBy (mtX12_feltBy l e (by omega) v0 v1 v2) q_2016 rfl rfl (Nat.le_of_ble_eq_true rfl) (zdk (cc := cX12_learnt) (q := (3, .invokevirtual 484, 3)) tkX12_learnt 3 rfl) (fun y1 => ?_)
  refine zco_p tkX12_learnt 4 4 (pc' := 10) (L' := [(3, .int y1), (0, .ref v0), (1, .int v1), (2, .int v2)]) (S' := [.int v2, .int v1, .ref v0]) rfl ?_
  refine zco_Vv (rc := 0) (rs := 0) (mc := 0) (ms := 0) (As := [.int v1, .int v2]) (S := []) vmX12_asksOf (mtX12_asksOf l e (by omega) v0 v1 v2) q_2020 rfl rfl (Nat.le_of_ble_eq_true rfl) (zdk (cc := cX12_learnt) (q := (10, .invokevirtual 470, 3)) tkX12_learnt 8 rfl) ?_
  refine zco_p tkX12_learnt 9 2 (pc' := 15) (L' := [(3, .int y1), (0, .ref v0), (1, .int v1), (2, .int v2)]) (S' := [.int y1, .ref v0]) rfl ?_
  refine zco_pi fl_12_487 rfl rfl (zdk (cc := cX12_learnt) (q := (15, .putfield 487, 3)) tkX12_learnt 11 rfl) ?_
  refine zco_p tkX12_learnt 12 2 (pc' := 20) (L' := [(3, .int y1), (0, .ref v0), (1, .int v1), (2, .int v2)]) (S' := [.int 2, .ref v0]) rfl ?_
  refine zco_Vi (rc := 0) (rs := 0) (mc := 0) (ms := 0) (As := [.int 2]) (S := []) vmX12_isCoded (mtX12_isCoded l e (by omega) v0 2) q_2024 rfl rfl (Nat.le_of_ble_eq_true rfl) (zdk (cc := cX12_learnt) (q := (20, .invokevirtual 473, 3)) tkX12_learnt 14 rfl) (fun y2 => ?_)
  refine zco_if_eq (tgt := 34) (zdk (cc := cX12_learnt) (q := (23, .ifCond .eq 11, 3)) tkX12_learnt 15 rfl) rfl ?_ ?_
  · refine zco_p tkX12_learnt 20 1 (pc' := 35) (L' := [(3, .int y1), (0, .ref v0), (1, .int v1), (2, .int v2)]) (S' := [.ref v0]) rfl ?_
    refine zco_gi fl_12_464 rfl (zdk (cc := cX12_learnt) (q := (35, .getfield 464, 3)) tkX12_learnt 21 rfl) (fun x3 => ?_)
    refine zco_p tkX12_learnt 22 3 (pc' := 41) (L' := [(3, .int y1), (0, .ref v0), (1, .int v1), (2, .int v2)]) (S' := [.long ((x3 + 1 : Int32).toInt64)]) rfl ?_
    exact zco_sub [] rfl (coX12_learnt_J41 l e he ((x3 + 1 : Int32).toInt64))
  · refine zco_p tkX12_learnt 16 2 (pc' := 28) (L' := [(3, .int y1), (0, .ref v0), (1, .int v1), (2, .int v2)]) (S' := [.int 2, .ref v0]) rfl ?_
    refine zco_Vl (rc := 0) (rs := 0) (mc := 0) (ms := 0) (As := [.int 2]) (S := []) vmX12_codesTell (mtX12_codesTell l e (by omega) v0 2) q_2028 rfl rfl (Nat.le_of_ble_eq_true rfl) (zdk (cc := cX12_learnt) (q := (28, .invokevirtual 476, 3)) tkX12_learnt 18 rfl) (fun y4 => ?_)
    refine zco_p tkX12_learnt 19 1 (pc' := 41) (L' := [(3, .int y1), (0, .ref v0), (1, .int v1), (2, .int v2)]) (S' := [.long y4]) rfl ?_
    exact zco_sub [] rfl (coX12_learnt_J41 l e he y4)
theorem mtX12_learnt (l : Launch) (d : Nat) (hd : 7 ≤ d) (v0 : Nat) (v1 : Int32) (v2 : Int32) : zMet l d 0 0 yX12_learnt cX12_learnt 4 (Option.some .int) [.ref v0, .int v1, .int v2] (X12_learnt v0 v1 v2) := by
  obtain ⟨e, rfl⟩ : ∃ e, d = e + 1 := ⟨d - 1, by omega⟩
  exact zmet_of (own := RX12) (ini := false) (by decide +kernel) rfl (fun _ => by contradiction) (Nat.le_of_ble_eq_true rfl) (coX12_learnt l e (by omega) v0 v1 v2)
abbrev iX12_laysWaiting : zI := (RX12, cX12_laysWaiting, 5, (Option.some .int), false)
def tX12_laysWaiting : List (Nat × Instr × Nat) := [(0, .iconst 0, 1), (1, .istore_n 2, 1), (2, .iconst 0, 1), (3, .istore_n 3, 1), (4, .iload_n 3, 1), (5, .aload_n 0, 1), (6, .iload_n 1, 1), (7, .invokevirtual 416, 3), (10, .if_icmp .ge 62, 3), (13, .bipush 6, 2), (15, .iload_n 1, 1), (16, .imul, 1), (17, .aload_n 0, 1), (18, .getfield 134, 3), (21, .iconst 2, 1), (22, .bipush 6, 2), (24, .iload_n 1, 1), (25, .imul, 1), (26, .iadd, 1), (27, .iload_n 3, 1), (28, .iadd, 1), (29, .iaload, 1), (30, .iadd, 1), (31, .istore 4, 2), (33, .aload_n 0, 1), (34, .getfield 134, 3), (37, .bipush 14, 2), (39, .iload 4, 2), (41, .iadd, 1), (42, .iaload, 1), (43, .iconst (-1), 1), (44, .if_icmp .eq 6, 3), (47, .goto 19, 3), (50, .aload_n 0, 1), (51, .getfield 143, 3), (54, .bipush 6, 2), (56, .iload_n 1, 1), (57, .imul, 1), (58, .iload_n 2, 1), (59, .iadd, 1), (60, .iload 4, 2), (62, .iastore, 1), (63, .iinc 2 1, 3), (66, .iinc 3 1, 3), (69, .goto (-65), 3), (72, .iload_n 2, 1), (73, .ireturn, 1)]
set_option maxRecDepth 100000 in
theorem tkX12_laysWaiting : ∀ q ∈ tX12_laysWaiting, decode cX12_laysWaiting q.1 = .ok q.2 := by decide +kernel
theorem vmX12_laysWaiting : zVM yX12_laysWaiting cX12_laysWaiting 5 (Option.some .int) 1 12 := ⟨kX12_laysWaiting, q_1962, q_91, q_162, ⟨_, rfl, rfl⟩, by decide +kernel, by decide⟩
set_option maxHeartbeats 2000000 in
set_option maxRecDepth 20000 in
theorem coX12_laysWaiting_J66 (l : Launch) (e : Nat) (he : 1 ≤ e) (v0 : Nat) (v1 : Int32) (v2 : Int32) (v3 : Int32) (r4 : Int32 × Int32 → zM) (hr4 : ∀ x : Int32 × Int32, zCo l (e + 1) 0 0 iX12_laysWaiting 4 [(0, .ref v0), (1, .int v1), (2, .int x.1), (3, .int x.2)] [] (r4 x)) : zCo l (e + 1) 0 0 iX12_laysWaiting 66 [(0, .ref v0), (1, .int v1), (2, .int v2), (3, .int v3)] [] (X12_laysWaiting_J66 r4 v0 v1 v2 v3) := by
  unfold X12_laysWaiting_J66
  refine zco_p tkX12_laysWaiting 43 2 (pc' := 4) (L' := [(3, .int (v3 + 1)), (0, .ref v0), (1, .int v1), (2, .int v2)]) (S' := []) rfl ?_
  exact zco_sub [1, 2, 3, 0] rfl (hr4 (v2, v3 + 1))
set_option maxHeartbeats 2000000 in
set_option maxRecDepth 20000 in
theorem coX12_laysWaiting_B4 (l : Launch) (e : Nat) (he : 1 ≤ e) (v0 : Nat) (v1 : Int32) (r4 : Int32 × Int32 → zM) (hr4 : ∀ x : Int32 × Int32, zCo l (e + 1) 0 0 iX12_laysWaiting 4 [(0, .ref v0), (1, .int v1), (2, .int x.1), (3, .int x.2)] [] (r4 x)) (v2 : Int32) (v3 : Int32) : zCo l (e + 1) 0 0 iX12_laysWaiting 4 [(0, .ref v0), (1, .int v1), (2, .int v2), (3, .int v3)] [] (X12_laysWaiting_B4 v0 v1 r4 v2 v3) := by
  unfold X12_laysWaiting_B4
  refine zco_p tkX12_laysWaiting 4 3 (pc' := 7) (L' := [(0, .ref v0), (1, .int v1), (2, .int v2), (3, .int v3)]) (S' := [.int v1, .ref v0, .int v3]) rfl ?_
  refine zco_Vi (rc := 0) (rs := 0) (mc := 0) (ms := 0) (As := [.int v1]) (S := [.int v3]) vmX12_sideMany (mtX12_sideMany l e (by omega) v0 v1) q_1944 rfl rfl (Nat.le_of_ble_eq_true rfl) (zdk (cc := cX12_laysWaiting) (q := (7, .invokevirtual 416, 3)) tkX12_laysWaiting 7 rfl) (fun y1 => ?_)
  refine zco_icmp_ge (tgt := 72) (zdk (cc := cX12_laysWaiting) (q := (10, .if_icmp .ge 62, 3)) tkX12_laysWaiting 8 rfl) rfl ?_ ?_
  · refine zco_p tkX12_laysWaiting 45 1 (pc' := 73) (L' := [(0, .ref v0), (1, .int v1), (2, .int v2), (3, .int v3)]) (S' := [.int v2]) rfl ?_
    exact zco_iret rfl rfl rfl (zdk (cc := cX12_laysWaiting) (q := (73, .ireturn, 1)) tkX12_laysWaiting 46 rfl)
  · refine zco_p tkX12_laysWaiting 9 4 (pc' := 18) (L' := [(0, .ref v0), (1, .int v1), (2, .int v2), (3, .int v3)]) (S' := [.ref v0, .int (6 * v1)]) rfl ?_
    refine zco_gr fl_12_134 rfl (zdk (cc := cX12_laysWaiting) (q := (18, .getfield 134, 3)) tkX12_laysWaiting 13 rfl) (fun x2 => ?_)
    refine zco_p tkX12_laysWaiting 14 7 (pc' := 29) (L' := [(0, .ref v0), (1, .int v1), (2, .int v2), (3, .int v3)]) (S' := [.int ((2 + (6 * v1)) + v3), .ref x2, .int (6 * v1)]) rfl ?_
    refine zco_iaload (zdk (cc := cX12_laysWaiting) (q := (29, .iaload, 1)) tkX12_laysWaiting 21 rfl) (fun x3 => ?_)
    refine zco_p tkX12_laysWaiting 22 3 (pc' := 34) (L' := [(4, .int ((6 * v1) + x3)), (0, .ref v0), (1, .int v1), (2, .int v2), (3, .int v3)]) (S' := [.ref v0]) rfl ?_
    refine zco_gr fl_12_134 rfl (zdk (cc := cX12_laysWaiting) (q := (34, .getfield 134, 3)) tkX12_laysWaiting 25 rfl) (fun x4 => ?_)
    refine zco_p tkX12_laysWaiting 26 3 (pc' := 42) (L' := [(4, .int ((6 * v1) + x3)), (0, .ref v0), (1, .int v1), (2, .int v2), (3, .int v3)]) (S' := [.int (14 + ((6 * v1) + x3)), .ref x4]) rfl ?_
    refine zco_iaload (zdk (cc := cX12_laysWaiting) (q := (42, .iaload, 1)) tkX12_laysWaiting 29 rfl) (fun x5 => ?_)
    refine zco_p tkX12_laysWaiting 30 1 (pc' := 44) (L' := [(4, .int ((6 * v1) + x3)), (0, .ref v0), (1, .int v1), (2, .int v2), (3, .int v3)]) (S' := [.int ((-1)), .int x5]) rfl ?_
    refine zco_icmp_eq (tgt := 50) (zdk (cc := cX12_laysWaiting) (q := (44, .if_icmp .eq 6, 3)) tkX12_laysWaiting 31 rfl) rfl ?_ ?_
    · refine zco_p tkX12_laysWaiting 33 1 (pc' := 51) (L' := [(4, .int ((6 * v1) + x3)), (0, .ref v0), (1, .int v1), (2, .int v2), (3, .int v3)]) (S' := [.ref v0]) rfl ?_
      refine zco_gr fl_12_143 rfl (zdk (cc := cX12_laysWaiting) (q := (51, .getfield 143, 3)) tkX12_laysWaiting 34 rfl) (fun x6 => ?_)
      refine zco_p tkX12_laysWaiting 35 6 (pc' := 62) (L' := [(4, .int ((6 * v1) + x3)), (0, .ref v0), (1, .int v1), (2, .int v2), (3, .int v3)]) (S' := [.int ((6 * v1) + x3), .int ((6 * v1) + v2), .ref x6]) rfl ?_
      refine zco_iastore (zdk (cc := cX12_laysWaiting) (q := (62, .iastore, 1)) tkX12_laysWaiting 41 rfl) ?_
      refine zco_p tkX12_laysWaiting 42 1 (pc' := 66) (L' := [(2, .int (v2 + 1)), (4, .int ((6 * v1) + x3)), (0, .ref v0), (1, .int v1), (3, .int v3)]) (S' := []) rfl ?_
      exact zco_sub [2, 3, 0, 4] rfl (coX12_laysWaiting_J66 l e he v0 v1 (v2 + 1) v3 r4 hr4)
    · refine zco_p tkX12_laysWaiting 32 1 (pc' := 66) (L' := [(4, .int ((6 * v1) + x3)), (0, .ref v0), (1, .int v1), (2, .int v2), (3, .int v3)]) (S' := []) rfl ?_
      exact zco_sub [1, 2, 3, 4] rfl (coX12_laysWaiting_J66 l e he v0 v1 v2 v3 r4 hr4)
set_option maxHeartbeats 2000000 in
set_option maxRecDepth 20000 in
theorem coX12_laysWaiting (l : Launch) (e : Nat) (he : 1 ≤ e) (v0 : Nat) (v1 : Int32) : zCo l (e + 1) 0 0 iX12_laysWaiting 0 [(0, .ref v0), (1, .int v1)] [] (X12_laysWaiting v0 v1) := by
  unfold X12_laysWaiting
  refine zco_p tkX12_laysWaiting 0 4 (pc' := 4) (L' := [(3, .int 0), (2, .int 0), (0, .ref v0), (1, .int v1)]) (S' := []) rfl ?_
  exact zco_sub [2, 3, 1, 0] rfl (zco_fix (Lf := fun x : Int32 × Int32 => [(0, .ref v0), (1, .int v1), (2, .int x.1), (3, .int x.2)]) (Sf := fun _ => []) (fun r hr x => coX12_laysWaiting_B4 l e he v0 v1 r hr x.1 x.2) zFU (0, 0))
theorem mtX12_laysWaiting (l : Launch) (d : Nat) (hd : 2 ≤ d) (v0 : Nat) (v1 : Int32) : zMet l d 0 0 yX12_laysWaiting cX12_laysWaiting 5 (Option.some .int) [.ref v0, .int v1] (X12_laysWaiting v0 v1) := by
  obtain ⟨e, rfl⟩ : ∃ e, d = e + 1 := ⟨d - 1, by omega⟩
  exact zmet_of (own := RX12) (ini := false) (by decide +kernel) rfl (fun _ => by contradiction) (Nat.le_of_ble_eq_true rfl) (coX12_laysWaiting l e (by omega) v0 v1)
abbrev iX12_laysHands : zI := (RX12, cX12_laysHands, 6, (Option.none : Option FieldType), false)
def tX12_laysHands : List (Nat × Instr × Nat) := [(0, .iconst 0, 1), (1, .istore_n 1, 1), (2, .iload_n 1, 1), (3, .bipush 12, 2), (5, .if_icmp .ge 16, 3), (8, .aload_n 0, 1), (9, .getfield 140, 3), (12, .iload_n 1, 1), (13, .iconst (-1), 1), (14, .iastore, 1), (15, .iinc 1 1, 3), (18, .goto (-16), 3), (21, .aload_n 0, 1), (22, .iconst 0, 1), (23, .invokevirtual 490, 3), (26, .istore_n 1, 1), (27, .aload_n 0, 1), (28, .iconst 1, 1), (29, .invokevirtual 490, 3), (32, .istore_n 2, 1), (33, .iload_n 1, 1), (34, .iload_n 2, 1), (35, .if_icmp .le 7, 3), (38, .iload_n 1, 1), (39, .goto 4, 3), (42, .iload_n 2, 1), (43, .istore_n 3, 1), (44, .iconst 0, 1), (45, .istore 4, 2), (47, .iload 4, 2), (49, .iload_n 1, 1), (50, .if_icmp .ge 75, 3), (53, .iload 4, 2), (55, .aload_n 0, 1), (56, .getfield 134, 3), (59, .iconst 1, 1), (60, .iaload, 1), (61, .iadd, 1), (62, .iload_n 3, 1), (63, .irem, 1), (64, .istore 5, 2), (66, .iload 5, 2), (68, .iload_n 2, 1), (69, .if_icmp .lt 6, 3), (72, .goto 47, 3), (75, .aload_n 0, 1), (76, .getfield 140, 3), (79, .aload_n 0, 1), (80, .getfield 143, 3), (83, .iload 4, 2), (85, .iaload, 1), (86, .aload_n 0, 1), (87, .getfield 143, 3), (90, .bipush 6, 2), (92, .iload 5, 2), (94, .iadd, 1), (95, .iaload, 1), (96, .iastore, 1), (97, .aload_n 0, 1), (98, .getfield 140, 3), (101, .aload_n 0, 1), (102, .getfield 143, 3), (105, .bipush 6, 2), (107, .iload 5, 2), (109, .iadd, 1), (110, .iaload, 1), (111, .aload_n 0, 1), (112, .getfield 143, 3), (115, .iload 4, 2), (117, .iaload, 1), (118, .iastore, 1), (119, .iinc 4 1, 3), (122, .goto (-75), 3), (125, .return_, 1)]
set_option maxRecDepth 100000 in
theorem tkX12_laysHands : ∀ q ∈ tX12_laysHands, decode cX12_laysHands q.1 = .ok q.2 := by decide +kernel
theorem vmX12_laysHands : zVM yX12_laysHands cX12_laysHands 6 (Option.none : Option FieldType) 0 12 := ⟨kX12_laysHands, q_1958, q_90, q_162, ⟨_, rfl, rfl⟩, by decide +kernel, by decide⟩
set_option maxHeartbeats 2000000 in
set_option maxRecDepth 20000 in
theorem coX12_laysHands_J119 (l : Launch) (e : Nat) (he : 2 ≤ e) (v0 : Nat) (v1 : Int32) (v2 : Int32) (v3 : Int32) (v4 : Int32) (r47 : Int32 → zM) (hr47 : ∀ x : Int32, zCo l (e + 1) 0 0 iX12_laysHands 47 [(0, .ref v0), (1, .int v1), (2, .int v2), (3, .int v3), (4, .int x)] [] (r47 x)) : zCo l (e + 1) 0 0 iX12_laysHands 119 [(0, .ref v0), (1, .int v1), (2, .int v2), (3, .int v3), (4, .int v4)] [] (X12_laysHands_J119 r47 v0 v1 v2 v3 v4) := by
  unfold X12_laysHands_J119
  refine zco_p tkX12_laysHands 71 2 (pc' := 47) (L' := [(4, .int (v4 + 1)), (0, .ref v0), (1, .int v1), (2, .int v2), (3, .int v3)]) (S' := []) rfl ?_
  exact zco_sub [1, 2, 3, 4, 0] rfl (hr47 (v4 + 1))
set_option maxHeartbeats 2000000 in
set_option maxRecDepth 20000 in
theorem coX12_laysHands_B47 (l : Launch) (e : Nat) (he : 2 ≤ e) (v0 : Nat) (v1 : Int32) (v2 : Int32) (v3 : Int32) (r47 : Int32 → zM) (hr47 : ∀ x : Int32, zCo l (e + 1) 0 0 iX12_laysHands 47 [(0, .ref v0), (1, .int v1), (2, .int v2), (3, .int v3), (4, .int x)] [] (r47 x)) (v4 : Int32) : zCo l (e + 1) 0 0 iX12_laysHands 47 [(0, .ref v0), (1, .int v1), (2, .int v2), (3, .int v3), (4, .int v4)] [] (X12_laysHands_B47 v0 v1 v2 v3 r47 v4) := by
  unfold X12_laysHands_B47
  refine zco_p tkX12_laysHands 29 2 (pc' := 50) (L' := [(0, .ref v0), (1, .int v1), (2, .int v2), (3, .int v3), (4, .int v4)]) (S' := [.int v1, .int v4]) rfl ?_
  refine zco_icmp_ge (tgt := 125) (zdk (cc := cX12_laysHands) (q := (50, .if_icmp .ge 75, 3)) tkX12_laysHands 31 rfl) rfl ?_ ?_
  · exact zco_vret rfl rfl rfl (zdk (cc := cX12_laysHands) (q := (125, .return_, 1)) tkX12_laysHands 73 rfl)
  · refine zco_p tkX12_laysHands 32 2 (pc' := 56) (L' := [(0, .ref v0), (1, .int v1), (2, .int v2), (3, .int v3), (4, .int v4)]) (S' := [.ref v0, .int v4]) rfl ?_
    refine zco_gr fl_12_134 rfl (zdk (cc := cX12_laysHands) (q := (56, .getfield 134, 3)) tkX12_laysHands 34 rfl) (fun x1 => ?_)
    refine zco_p tkX12_laysHands 35 1 (pc' := 60) (L' := [(0, .ref v0), (1, .int v1), (2, .int v2), (3, .int v3), (4, .int v4)]) (S' := [.int 1, .ref x1, .int v4]) rfl ?_
    refine zco_iaload (zdk (cc := cX12_laysHands) (q := (60, .iaload, 1)) tkX12_laysHands 36 rfl) (fun x2 => ?_)
    refine zco_p tkX12_laysHands 37 2 (pc' := 63) (L' := [(0, .ref v0), (1, .int v1), (2, .int v2), (3, .int v3), (4, .int v4)]) (S' := [.int v3, .int (v4 + x2)]) rfl ?_
    refine zco_irem (zdk (cc := cX12_laysHands) (q := (63, .irem, 1)) tkX12_laysHands 39 rfl) ?_
    refine zco_p tkX12_laysHands 40 3 (pc' := 69) (L' := [(5, .int ((v4 + x2) - (v4 + x2) / v3 * v3)), (0, .ref v0), (1, .int v1), (2, .int v2), (3, .int v3), (4, .int v4)]) (S' := [.int v2, .int ((v4 + x2) - (v4 + x2) / v3 * v3)]) rfl ?_
    refine zco_icmp_lt (tgt := 75) (zdk (cc := cX12_laysHands) (q := (69, .if_icmp .lt 6, 3)) tkX12_laysHands 43 rfl) rfl ?_ ?_
    · refine zco_p tkX12_laysHands 45 1 (pc' := 76) (L' := [(5, .int ((v4 + x2) - (v4 + x2) / v3 * v3)), (0, .ref v0), (1, .int v1), (2, .int v2), (3, .int v3), (4, .int v4)]) (S' := [.ref v0]) rfl ?_
      refine zco_gr fl_12_140 rfl (zdk (cc := cX12_laysHands) (q := (76, .getfield 140, 3)) tkX12_laysHands 46 rfl) (fun x3 => ?_)
      refine zco_p tkX12_laysHands 47 1 (pc' := 80) (L' := [(5, .int ((v4 + x2) - (v4 + x2) / v3 * v3)), (0, .ref v0), (1, .int v1), (2, .int v2), (3, .int v3), (4, .int v4)]) (S' := [.ref v0, .ref x3]) rfl ?_
      refine zco_gr fl_12_143 rfl (zdk (cc := cX12_laysHands) (q := (80, .getfield 143, 3)) tkX12_laysHands 48 rfl) (fun x4 => ?_)
      refine zco_p tkX12_laysHands 49 1 (pc' := 85) (L' := [(5, .int ((v4 + x2) - (v4 + x2) / v3 * v3)), (0, .ref v0), (1, .int v1), (2, .int v2), (3, .int v3), (4, .int v4)]) (S' := [.int v4, .ref x4, .ref x3]) rfl ?_
      refine zco_iaload (zdk (cc := cX12_laysHands) (q := (85, .iaload, 1)) tkX12_laysHands 50 rfl) (fun x5 => ?_)
      refine zco_p tkX12_laysHands 51 1 (pc' := 87) (L' := [(5, .int ((v4 + x2) - (v4 + x2) / v3 * v3)), (0, .ref v0), (1, .int v1), (2, .int v2), (3, .int v3), (4, .int v4)]) (S' := [.ref v0, .int x5, .ref x3]) rfl ?_
      refine zco_gr fl_12_143 rfl (zdk (cc := cX12_laysHands) (q := (87, .getfield 143, 3)) tkX12_laysHands 52 rfl) (fun x6 => ?_)
      refine zco_p tkX12_laysHands 53 3 (pc' := 95) (L' := [(5, .int ((v4 + x2) - (v4 + x2) / v3 * v3)), (0, .ref v0), (1, .int v1), (2, .int v2), (3, .int v3), (4, .int v4)]) (S' := [.int (6 + ((v4 + x2) - (v4 + x2) / v3 * v3)), .ref x6, .int x5, .ref x3]) rfl ?_
      refine zco_iaload (zdk (cc := cX12_laysHands) (q := (95, .iaload, 1)) tkX12_laysHands 56 rfl) (fun x7 => ?_)
      refine zco_iastore (zdk (cc := cX12_laysHands) (q := (96, .iastore, 1)) tkX12_laysHands 57 rfl) ?_
      refine zco_p tkX12_laysHands 58 1 (pc' := 98) (L' := [(5, .int ((v4 + x2) - (v4 + x2) / v3 * v3)), (0, .ref v0), (1, .int v1), (2, .int v2), (3, .int v3), (4, .int v4)]) (S' := [.ref v0]) rfl ?_
      refine zco_gr fl_12_140 rfl (zdk (cc := cX12_laysHands) (q := (98, .getfield 140, 3)) tkX12_laysHands 59 rfl) (fun x8 => ?_)
      refine zco_p tkX12_laysHands 60 1 (pc' := 102) (L' := [(5, .int ((v4 + x2) - (v4 + x2) / v3 * v3)), (0, .ref v0), (1, .int v1), (2, .int v2), (3, .int v3), (4, .int v4)]) (S' := [.ref v0, .ref x8]) rfl ?_
      refine zco_gr fl_12_143 rfl (zdk (cc := cX12_laysHands) (q := (102, .getfield 143, 3)) tkX12_laysHands 61 rfl) (fun x9 => ?_)
      refine zco_p tkX12_laysHands 62 3 (pc' := 110) (L' := [(5, .int ((v4 + x2) - (v4 + x2) / v3 * v3)), (0, .ref v0), (1, .int v1), (2, .int v2), (3, .int v3), (4, .int v4)]) (S' := [.int (6 + ((v4 + x2) - (v4 + x2) / v3 * v3)), .ref x9, .ref x8]) rfl ?_
      refine zco_iaload (zdk (cc := cX12_laysHands) (q := (110, .iaload, 1)) tkX12_laysHands 65 rfl) (fun x10 => ?_)
      refine zco_p tkX12_laysHands 66 1 (pc' := 112) (L' := [(5, .int ((v4 + x2) - (v4 + x2) / v3 * v3)), (0, .ref v0), (1, .int v1), (2, .int v2), (3, .int v3), (4, .int v4)]) (S' := [.ref v0, .int x10, .ref x8]) rfl ?_
      refine zco_gr fl_12_143 rfl (zdk (cc := cX12_laysHands) (q := (112, .getfield 143, 3)) tkX12_laysHands 67 rfl) (fun x11 => ?_)
      refine zco_p tkX12_laysHands 68 1 (pc' := 117) (L' := [(5, .int ((v4 + x2) - (v4 + x2) / v3 * v3)), (0, .ref v0), (1, .int v1), (2, .int v2), (3, .int v3), (4, .int v4)]) (S' := [.int v4, .ref x11, .int x10, .ref x8]) rfl ?_
      refine zco_iaload (zdk (cc := cX12_laysHands) (q := (117, .iaload, 1)) tkX12_laysHands 69 rfl) (fun x12 => ?_)
      refine zco_iastore (zdk (cc := cX12_laysHands) (q := (118, .iastore, 1)) tkX12_laysHands 70 rfl) ?_
      exact zco_sub [1, 2, 3, 4, 5] rfl (coX12_laysHands_J119 l e he v0 v1 v2 v3 v4 r47 hr47)
    · refine zco_p tkX12_laysHands 44 1 (pc' := 119) (L' := [(5, .int ((v4 + x2) - (v4 + x2) / v3 * v3)), (0, .ref v0), (1, .int v1), (2, .int v2), (3, .int v3), (4, .int v4)]) (S' := []) rfl ?_
      exact zco_sub [1, 2, 3, 4, 5] rfl (coX12_laysHands_J119 l e he v0 v1 v2 v3 v4 r47 hr47)
set_option maxHeartbeats 2000000 in
set_option maxRecDepth 20000 in
theorem coX12_laysHands_J43 (l : Launch) (e : Nat) (he : 2 ≤ e) (v0 : Nat) (v1 : Int32) (v2 : Int32) (s0 : Int32) : zCo l (e + 1) 0 0 iX12_laysHands 43 [(0, .ref v0), (1, .int v1), (2, .int v2)] [.int s0] (X12_laysHands_J43 v0 v1 v2 s0) := by
  unfold X12_laysHands_J43
  refine zco_p tkX12_laysHands 26 3 (pc' := 47) (L' := [(4, .int 0), (3, .int s0), (0, .ref v0), (1, .int v1), (2, .int v2)]) (S' := []) rfl ?_
  exact zco_sub [2, 3, 4, 1, 0] rfl (zco_fix (Lf := fun x : Int32 => [(0, .ref v0), (1, .int v1), (2, .int v2), (3, .int s0), (4, .int x)]) (Sf := fun _ => []) (fun r hr x => coX12_laysHands_B47 l e he v0 v1 v2 s0 r hr x) zFU 0)
set_option maxHeartbeats 2000000 in
set_option maxRecDepth 20000 in
theorem coX12_laysHands_J21 (l : Launch) (e : Nat) (he : 2 ≤ e) (v0 : Nat) : zCo l (e + 1) 0 0 iX12_laysHands 21 [(0, .ref v0)] [] (X12_laysHands_J21 v0) := by
  unfold X12_laysHands_J21
  refine zco_p tkX12_laysHands 12 2 (pc' := 23) (L' := [(0, .ref v0)]) (S' := [.int 0, .ref v0]) rfl ?_
  refine zco_Vi (rc := 0) (rs := 0) (mc := 0) (ms := 0) (As := [.int 0]) (S := []) vmX12_laysWaiting (mtX12_laysWaiting l e (by omega) v0 0) q_1960 rfl rfl (Nat.le_of_ble_eq_true rfl) (zdk (cc := cX12_laysHands) (q := (23, .invokevirtual 490, 3)) tkX12_laysHands 14 rfl) (fun y1 => ?_)
  refine zco_p tkX12_laysHands 15 3 (pc' := 29) (L' := [(1, .int y1), (0, .ref v0)]) (S' := [.int 1, .ref v0]) rfl ?_
  refine zco_Vi (rc := 0) (rs := 0) (mc := 0) (ms := 0) (As := [.int 1]) (S := []) vmX12_laysWaiting (mtX12_laysWaiting l e (by omega) v0 1) q_1960 rfl rfl (Nat.le_of_ble_eq_true rfl) (zdk (cc := cX12_laysHands) (q := (29, .invokevirtual 490, 3)) tkX12_laysHands 18 rfl) (fun y2 => ?_)
  refine zco_p tkX12_laysHands 19 3 (pc' := 35) (L' := [(2, .int y2), (1, .int y1), (0, .ref v0)]) (S' := [.int y2, .int y1]) rfl ?_
  refine zco_icmp_le (tgt := 42) (zdk (cc := cX12_laysHands) (q := (35, .if_icmp .le 7, 3)) tkX12_laysHands 22 rfl) rfl ?_ ?_
  · refine zco_p tkX12_laysHands 25 1 (pc' := 43) (L' := [(2, .int y2), (1, .int y1), (0, .ref v0)]) (S' := [.int y2]) rfl ?_
    exact zco_sub [2, 1, 0] rfl (coX12_laysHands_J43 l e he v0 y1 y2 y2)
  · refine zco_p tkX12_laysHands 23 2 (pc' := 43) (L' := [(2, .int y2), (1, .int y1), (0, .ref v0)]) (S' := [.int y1]) rfl ?_
    exact zco_sub [2, 1, 0] rfl (coX12_laysHands_J43 l e he v0 y1 y2 y1)
set_option maxHeartbeats 2000000 in
set_option maxRecDepth 20000 in
theorem coX12_laysHands_B2 (l : Launch) (e : Nat) (he : 2 ≤ e) (v0 : Nat) (r2 : Int32 → zM) (hr2 : ∀ x : Int32, zCo l (e + 1) 0 0 iX12_laysHands 2 [(0, .ref v0), (1, .int x)] [] (r2 x)) (v1 : Int32) : zCo l (e + 1) 0 0 iX12_laysHands 2 [(0, .ref v0), (1, .int v1)] [] (X12_laysHands_B2 v0 r2 v1) := by
  unfold X12_laysHands_B2
  refine zco_p tkX12_laysHands 2 2 (pc' := 5) (L' := [(0, .ref v0), (1, .int v1)]) (S' := [.int 12, .int v1]) rfl ?_
  refine zco_icmp_ge (tgt := 21) (zdk (cc := cX12_laysHands) (q := (5, .if_icmp .ge 16, 3)) tkX12_laysHands 4 rfl) rfl ?_ ?_
  · exact zco_sub [0] rfl (coX12_laysHands_J21 l e he v0)
  · refine zco_p tkX12_laysHands 5 1 (pc' := 9) (L' := [(0, .ref v0), (1, .int v1)]) (S' := [.ref v0]) rfl ?_
    refine zco_gr fl_12_140 rfl (zdk (cc := cX12_laysHands) (q := (9, .getfield 140, 3)) tkX12_laysHands 6 rfl) (fun x1 => ?_)
    refine zco_p tkX12_laysHands 7 2 (pc' := 14) (L' := [(0, .ref v0), (1, .int v1)]) (S' := [.int ((-1)), .int v1, .ref x1]) rfl ?_
    refine zco_iastore (zdk (cc := cX12_laysHands) (q := (14, .iastore, 1)) tkX12_laysHands 9 rfl) ?_
    refine zco_p tkX12_laysHands 10 2 (pc' := 2) (L' := [(1, .int (v1 + 1)), (0, .ref v0)]) (S' := []) rfl ?_
    exact zco_sub [1, 0] rfl (hr2 (v1 + 1))
set_option maxHeartbeats 2000000 in
set_option maxRecDepth 20000 in
theorem coX12_laysHands (l : Launch) (e : Nat) (he : 2 ≤ e) (v0 : Nat) : zCo l (e + 1) 0 0 iX12_laysHands 0 [(0, .ref v0)] [] (X12_laysHands v0) := by
  unfold X12_laysHands
  refine zco_p tkX12_laysHands 0 2 (pc' := 2) (L' := [(1, .int 0), (0, .ref v0)]) (S' := []) rfl ?_
  exact zco_sub [1, 0] rfl (zco_fix (Lf := fun x : Int32 => [(0, .ref v0), (1, .int x)]) (Sf := fun _ => []) (fun r hr x => coX12_laysHands_B2 l e he v0 r hr x) zFU 0)
theorem mtX12_laysHands (l : Launch) (d : Nat) (hd : 3 ≤ d) (v0 : Nat) : zMet l d 0 0 yX12_laysHands cX12_laysHands 6 (Option.none : Option FieldType) [.ref v0] (X12_laysHands v0) := by
  obtain ⟨e, rfl⟩ : ∃ e, d = e + 1 := ⟨d - 1, by omega⟩
  exact zmet_of (own := RX12) (ini := false) (by decide +kernel) rfl (fun _ => by contradiction) (Nat.le_of_ble_eq_true rfl) (coX12_laysHands l e (by omega) v0)
