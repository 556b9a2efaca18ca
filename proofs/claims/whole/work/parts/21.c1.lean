abbrev iX11_isDigit : zI := (RX11, cX11_isDigit, 1, (Option.some .boolean), false)
def tX11_isDigit : List (Nat × Instr × Nat) := [(0, .iload_n 0, 1), (1, .bipush 48, 2), (3, .if_icmp .lt 13, 3), (6, .iload_n 0, 1), (7, .bipush 57, 2), (9, .if_icmp .gt 7, 3), (12, .iconst 1, 1), (13, .goto 4, 3), (16, .iconst 0, 1), (17, .ireturn, 1)]
set_option maxRecDepth 100000 in
theorem tkX11_isDigit : ∀ q ∈ tX11_isDigit, decode cX11_isDigit q.1 = .ok q.2 := by decide +kernel
theorem vmX11_isDigit : zSM yX11_isDigit cX11_isDigit 1 (Option.some .boolean) 1 := ⟨kX11_isDigit, q_698, q_147, by decide +kernel, by decide⟩
def X11_isDigit (v0 : Int32) : zM := z_if (v0 < 48) (z_rb 0)
   (z_if (57 < v0) (z_rb 0)
   (z_rb 1))
set_option maxHeartbeats 2000000 in
set_option maxRecDepth 20000 in
theorem coX11_isDigit (l : Launch) (e : Nat) (he : 0 ≤ e) (v0 : Int32) : zCo l (e + 1) 0 0 iX11_isDigit 0 [(0, .int v0)] [] (X11_isDigit v0) := by
  unfold X11_isDigit
  refine zco_p tkX11_isDigit 0 2 (pc' := 3) (L' := [(0, .int v0)]) (S' := [.int 48, .int v0]) rfl ?_
  refine zco_icmp_lt (tgt := 16) (zdk (cc := cX11_isDigit) (q := (3, .if_icmp .lt 13, 3)) tkX11_isDigit 2 rfl) rfl ?_ ?_
  · refine zco_p tkX11_isDigit 8 1 (pc' := 17) (L' := [(0, .int v0)]) (S' := [.int 0]) rfl ?_
    exact zco_zret rfl rfl rfl (zdk (cc := cX11_isDigit) (q := (17, .ireturn, 1)) tkX11_isDigit 9 rfl)
  · refine zco_p tkX11_isDigit 3 2 (pc' := 9) (L' := [(0, .int v0)]) (S' := [.int 57, .int v0]) rfl ?_
    refine zco_icmp_gt (tgt := 16) (zdk (cc := cX11_isDigit) (q := (9, .if_icmp .gt 7, 3)) tkX11_isDigit 5 rfl) rfl ?_ ?_
    · refine zco_p tkX11_isDigit 8 1 (pc' := 17) (L' := [(0, .int v0)]) (S' := [.int 0]) rfl ?_
      exact zco_zret rfl rfl rfl (zdk (cc := cX11_isDigit) (q := (17, .ireturn, 1)) tkX11_isDigit 9 rfl)
    · refine zco_p tkX11_isDigit 6 2 (pc' := 17) (L' := [(0, .int v0)]) (S' := [.int 1]) rfl ?_
      exact zco_zret rfl rfl rfl (zdk (cc := cX11_isDigit) (q := (17, .ireturn, 1)) tkX11_isDigit 9 rfl)
theorem mtX11_isDigit (l : Launch) (d : Nat) (hd : 1 ≤ d) (v0 : Int32) : zMet l d 0 0 yX11_isDigit cX11_isDigit 1 (Option.some .boolean) [.int v0] (X11_isDigit v0) := by
  obtain ⟨e, rfl⟩ : ∃ e, d = e + 1 := ⟨d - 1, by omega⟩
  exact zmet_of (own := RX11) (ini := false) (by decide +kernel) rfl (fun _ => by contradiction) (Nat.le_of_ble_eq_true rfl) (coX11_isDigit l e (by omega) v0)
abbrev iX11_isLetter : zI := (RX11, cX11_isLetter, 1, (Option.some .boolean), false)
def tX11_isLetter : List (Nat × Instr × Nat) := [(0, .iload_n 0, 1), (1, .bipush 97, 2), (3, .if_icmp .lt 13, 3), (6, .iload_n 0, 1), (7, .bipush 122, 2), (9, .if_icmp .gt 7, 3), (12, .iconst 1, 1), (13, .goto 4, 3), (16, .iconst 0, 1), (17, .ireturn, 1)]
set_option maxRecDepth 100000 in
theorem tkX11_isLetter : ∀ q ∈ tX11_isLetter, decode cX11_isLetter q.1 = .ok q.2 := by decide +kernel
theorem vmX11_isLetter : zSM yX11_isLetter cX11_isLetter 1 (Option.some .boolean) 1 := ⟨kX11_isLetter, q_701, q_147, by decide +kernel, by decide⟩
def X11_isLetter (v0 : Int32) : zM := z_if (v0 < 97) (z_rb 0)
   (z_if (122 < v0) (z_rb 0)
   (z_rb 1))
set_option maxHeartbeats 2000000 in
set_option maxRecDepth 20000 in
theorem coX11_isLetter (l : Launch) (e : Nat) (he : 0 ≤ e) (v0 : Int32) : zCo l (e + 1) 0 0 iX11_isLetter 0 [(0, .int v0)] [] (X11_isLetter v0) := by
  unfold X11_isLetter
  refine zco_p tkX11_isLetter 0 2 (pc' := 3) (L' := [(0, .int v0)]) (S' := [.int 97, .int v0]) rfl ?_
  refine zco_icmp_lt (tgt := 16) (zdk (cc := cX11_isLetter) (q := (3, .if_icmp .lt 13, 3)) tkX11_isLetter 2 rfl) rfl ?_ ?_
  · refine zco_p tkX11_isLetter 8 1 (pc' := 17) (L' := [(0, .int v0)]) (S' := [.int 0]) rfl ?_
    exact zco_zret rfl rfl rfl (zdk (cc := cX11_isLetter) (q := (17, .ireturn, 1)) tkX11_isLetter 9 rfl)
  · refine zco_p tkX11_isLetter 3 2 (pc' := 9) (L' := [(0, .int v0)]) (S' := [.int 122, .int v0]) rfl ?_
    refine zco_icmp_gt (tgt := 16) (zdk (cc := cX11_isLetter) (q := (9, .if_icmp .gt 7, 3)) tkX11_isLetter 5 rfl) rfl ?_ ?_
    · refine zco_p tkX11_isLetter 8 1 (pc' := 17) (L' := [(0, .int v0)]) (S' := [.int 0]) rfl ?_
      exact zco_zret rfl rfl rfl (zdk (cc := cX11_isLetter) (q := (17, .ireturn, 1)) tkX11_isLetter 9 rfl)
    · refine zco_p tkX11_isLetter 6 2 (pc' := 17) (L' := [(0, .int v0)]) (S' := [.int 1]) rfl ?_
      exact zco_zret rfl rfl rfl (zdk (cc := cX11_isLetter) (q := (17, .ireturn, 1)) tkX11_isLetter 9 rfl)
theorem mtX11_isLetter (l : Launch) (d : Nat) (hd : 1 ≤ d) (v0 : Int32) : zMet l d 0 0 yX11_isLetter cX11_isLetter 1 (Option.some .boolean) [.int v0] (X11_isLetter v0) := by
  obtain ⟨e, rfl⟩ : ∃ e, d = e + 1 := ⟨d - 1, by omega⟩
  exact zmet_of (own := RX11) (ini := false) (by decide +kernel) rfl (fun _ => by contradiction) (Nat.le_of_ble_eq_true rfl) (coX11_isLetter l e (by omega) v0)
abbrev iX9_wordLength : zI := (RX9, cX9_wordLength, 3, (Option.some .int), false)
def tX9_wordLength : List (Nat × Instr × Nat) := [(0, .aload_n 0, 1), (1, .invokevirtual 28, 3), (4, .istore_n 1, 1), (5, .aload_n 0, 1), (6, .invokevirtual 32, 3), (9, .ifCond .eq 16, 3), (12, .aload_n 0, 1), (13, .iload_n 1, 1), (14, .iconst 1, 1), (15, .isub, 1), (16, .invokevirtual 36, 3), (19, .invokestatic 48, 3), (22, .ifCond .eq 5, 3), (25, .iconst 0, 1), (26, .ireturn, 1), (27, .iload_n 1, 1), (28, .istore_n 2, 1), (29, .iload_n 2, 1), (30, .aload_n 0, 1), (31, .getfield 9, 3), (34, .if_icmp .ge 20, 3), (37, .aload_n 0, 1), (38, .iload_n 2, 1), (39, .invokevirtual 36, 3), (42, .invokestatic 51, 3), (45, .ifCond .eq 9, 3), (48, .iinc 2 1, 3), (51, .goto (-22), 3), (54, .iload_n 2, 1), (55, .iload_n 1, 1), (56, .isub, 1), (57, .ireturn, 1)]
set_option maxRecDepth 100000 in
theorem tkX9_wordLength : ∀ q ∈ tX9_wordLength, decode cX9_wordLength q.1 = .ok q.2 := by decide +kernel
theorem vmX9_wordLength : zVM yX9_wordLength cX9_wordLength 3 (Option.some .int) 0 9 := ⟨kX9_wordLength, q_689, q_690, q_148, ⟨_, rfl, rfl⟩, by decide +kernel, by decide⟩
def X9_wordLength_B29 (v0 : Nat) (v1 : Int32) (r29 : Int32 → zM) (v2 : Int32) : zM := z_gi 9 1 v0 fun x1 => z_if (x1 ≤ v2) (z_ret (some (.int (v2 - v1))))
   (z_rc 9 v0 (z_ci (X9_byteAt v0 v2) fun y2 => z_ci (X11_isLetter y2) fun y3 => z_if (y3 = 0) (z_ret (some (.int (v2 - v1))))
   (r29 (v2 + 1))))
set_option maxHeartbeats 2000000 in
set_option maxRecDepth 20000 in
theorem coX9_wordLength_B29 (l : Launch) (e : Nat) (he : 1 ≤ e) (v0 : Nat) (v1 : Int32) (r29 : Int32 → zM) (hr29 : ∀ x : Int32, zCo l (e + 1) 0 0 iX9_wordLength 29 [(0, .ref v0), (1, .int v1), (2, .int x)] [] (r29 x)) (v2 : Int32) : zCo l (e + 1) 0 0 iX9_wordLength 29 [(0, .ref v0), (1, .int v1), (2, .int v2)] [] (X9_wordLength_B29 v0 v1 r29 v2) := by
  unfold X9_wordLength_B29
  refine zco_p tkX9_wordLength 17 2 (pc' := 31) (L' := [(0, .ref v0), (1, .int v1), (2, .int v2)]) (S' := [.ref v0, .int v2]) rfl ?_
  refine zco_gi fl_9_9 rfl (zdk (cc := cX9_wordLength) (q := (31, .getfield 9, 3)) tkX9_wordLength 19 rfl) (fun x1 => ?_)
  refine zco_icmp_ge (tgt := 54) (zdk (cc := cX9_wordLength) (q := (34, .if_icmp .ge 20, 3)) tkX9_wordLength 20 rfl) rfl ?_ ?_
  · refine zco_p tkX9_wordLength 28 3 (pc' := 57) (L' := [(0, .ref v0), (1, .int v1), (2, .int v2)]) (S' := [.int (v2 - v1)]) rfl ?_
    exact zco_iret rfl rfl rfl (zdk (cc := cX9_wordLength) (q := (57, .ireturn, 1)) tkX9_wordLength 31 rfl)
  · refine zco_p tkX9_wordLength 21 2 (pc' := 39) (L' := [(0, .ref v0), (1, .int v1), (2, .int v2)]) (S' := [.int v2, .ref v0]) rfl ?_
    refine zco_Vi (rc := 0) (rs := 0) (mc := 0) (ms := 0) (As := [.int v2]) (S := []) vmX9_byteAt (mtX9_byteAt l e (by omega) v0 v2) q_693 rfl rfl (Nat.le_of_ble_eq_true rfl) (zdk (cc := cX9_wordLength) (q := (39, .invokevirtual 36, 3)) tkX9_wordLength 23 rfl) (fun y2 => ?_)
    refine zco_Ni (rc := 0) (rs := 0) (mc := 0) (ms := 0) (As := [.int y2]) (S := []) vmX11_isLetter (mtX11_isLetter l e (by omega) y2) (host := "ClothWedding") (by decide +kernel) rfl rfl (Nat.le_of_ble_eq_true rfl) (zdk (cc := cX9_wordLength) (q := (42, .invokestatic 51, 3)) tkX9_wordLength 24 rfl) (fun y3 => ?_)
    refine zco_if_eq (tgt := 54) (zdk (cc := cX9_wordLength) (q := (45, .ifCond .eq 9, 3)) tkX9_wordLength 25 rfl) rfl ?_ ?_
    · refine zco_p tkX9_wordLength 28 3 (pc' := 57) (L' := [(0, .ref v0), (1, .int v1), (2, .int v2)]) (S' := [.int (v2 - v1)]) rfl ?_
      exact zco_iret rfl rfl rfl (zdk (cc := cX9_wordLength) (q := (57, .ireturn, 1)) tkX9_wordLength 31 rfl)
    · refine zco_p tkX9_wordLength 26 2 (pc' := 29) (L' := [(2, .int (v2 + 1)), (0, .ref v0), (1, .int v1)]) (S' := []) rfl ?_
      exact zco_sub [1, 2, 0] rfl (hr29 (v2 + 1))
def X9_wordLength (v0 : Nat) : zM := z_rc 9 v0 (z_ci (X9_begin v0) fun y1 => z_rc 9 v0 (z_ci (X9_sound v0) fun y2 => z_if (y2 = 0) (z_ret (some (.int 0)))
   (z_rc 9 v0 (z_ci (X9_byteAt v0 (y1 - 1)) fun y3 => z_ci (X11_isDigit y3) fun y4 => z_if (y4 = 0) (z_fix (fun r x => X9_wordLength_B29 v0 y1 r x) zFU y1)
   (z_ret (some (.int 0)))))))
set_option maxHeartbeats 2000000 in
set_option maxRecDepth 20000 in
theorem coX9_wordLength (l : Launch) (e : Nat) (he : 1 ≤ e) (v0 : Nat) : zCo l (e + 1) 0 0 iX9_wordLength 0 [(0, .ref v0)] [] (X9_wordLength v0) := by
  unfold X9_wordLength
  refine zco_p tkX9_wordLength 0 1 (pc' := 1) (L' := [(0, .ref v0)]) (S' := [.ref v0]) rfl ?_
  refine zco_Vi (rc := 0) (rs := 0) (mc := 0) (ms := 0) (As := []) (S := []) vmX9_begin (mtX9_begin l e (by omega) v0) q_670 rfl rfl (Nat.le_of_ble_eq_true rfl) (zdk (cc := cX9_wordLength) (q := (1, .invokevirtual 28, 3)) tkX9_wordLength 1 rfl) (fun y1 => ?_)
  refine zco_p tkX9_wordLength 2 2 (pc' := 6) (L' := [(1, .int y1), (0, .ref v0)]) (S' := [.ref v0]) rfl ?_
  refine zco_Vi (rc := 0) (rs := 0) (mc := 0) (ms := 0) (As := []) (S := []) vmX9_sound (mtX9_sound l e (by omega) v0) q_692 rfl rfl (Nat.le_of_ble_eq_true rfl) (zdk (cc := cX9_wordLength) (q := (6, .invokevirtual 32, 3)) tkX9_wordLength 4 rfl) (fun y2 => ?_)
  refine zco_if_eq (tgt := 25) (zdk (cc := cX9_wordLength) (q := (9, .ifCond .eq 16, 3)) tkX9_wordLength 5 rfl) rfl ?_ ?_
  · refine zco_p tkX9_wordLength 13 1 (pc' := 26) (L' := [(1, .int y1), (0, .ref v0)]) (S' := [.int 0]) rfl ?_
    exact zco_iret rfl rfl rfl (zdk (cc := cX9_wordLength) (q := (26, .ireturn, 1)) tkX9_wordLength 14 rfl)
  · refine zco_p tkX9_wordLength 6 4 (pc' := 16) (L' := [(1, .int y1), (0, .ref v0)]) (S' := [.int (y1 - 1), .ref v0]) rfl ?_
    refine zco_Vi (rc := 0) (rs := 0) (mc := 0) (ms := 0) (As := [.int (y1 - 1)]) (S := []) vmX9_byteAt (mtX9_byteAt l e (by omega) v0 (y1 - 1)) q_693 rfl rfl (Nat.le_of_ble_eq_true rfl) (zdk (cc := cX9_wordLength) (q := (16, .invokevirtual 36, 3)) tkX9_wordLength 10 rfl) (fun y3 => ?_)
    refine zco_Ni (rc := 0) (rs := 0) (mc := 0) (ms := 0) (As := [.int y3]) (S := []) vmX11_isDigit (mtX11_isDigit l e (by omega) y3) (host := "ClothWedding") (by decide +kernel) rfl rfl (Nat.le_of_ble_eq_true rfl) (zdk (cc := cX9_wordLength) (q := (19, .invokestatic 48, 3)) tkX9_wordLength 11 rfl) (fun y4 => ?_)
    refine zco_if_eq (tgt := 27) (zdk (cc := cX9_wordLength) (q := (22, .ifCond .eq 5, 3)) tkX9_wordLength 12 rfl) rfl ?_ ?_
    · refine zco_p tkX9_wordLength 15 2 (pc' := 29) (L' := [(2, .int y1), (1, .int y1), (0, .ref v0)]) (S' := []) rfl ?_
      exact zco_sub [2, 1, 0] rfl (zco_fix (Lf := fun x : Int32 => [(0, .ref v0), (1, .int y1), (2, .int x)]) (Sf := fun _ => []) (fun r hr x => coX9_wordLength_B29 l e he v0 y1 r hr x) zFU y1)
    · refine zco_p tkX9_wordLength 13 1 (pc' := 26) (L' := [(1, .int y1), (0, .ref v0)]) (S' := [.int 0]) rfl ?_
      exact zco_iret rfl rfl rfl (zdk (cc := cX9_wordLength) (q := (26, .ireturn, 1)) tkX9_wordLength 14 rfl)
theorem mtX9_wordLength (l : Launch) (d : Nat) (hd : 2 ≤ d) (v0 : Nat) : zMet l d 0 0 yX9_wordLength cX9_wordLength 3 (Option.some .int) [.ref v0] (X9_wordLength v0) := by
  obtain ⟨e, rfl⟩ : ∃ e, d = e + 1 := ⟨d - 1, by omega⟩
  exact zmet_of (own := RX9) (ini := false) (by decide +kernel) rfl (fun _ => by contradiction) (Nat.le_of_ble_eq_true rfl) (coX9_wordLength l e (by omega) v0)
abbrev iX9_listed : zI := (RX9, cX9_listed, 7, (Option.some .int), false)
def tX9_listed : List (Nat × Instr × Nat) := [(0, .iconst 0, 1), (1, .istore_n 3, 1), (2, .iconst 0, 1), (3, .istore 4, 2), (5, .iload_n 2, 1), (6, .ifCond .le 7, 3), (9, .iconst 1, 1), (10, .goto 4, 3), (13, .iconst 0, 1), (14, .istore 5, 2), (16, .iconst 0, 1), (17, .istore 6, 2), (19, .iload 6, 2), (21, .aload_n 1, 1), (22, .invokevirtual 61, 3), (25, .if_icmp .gt 103, 3), (28, .iload 6, 2), (30, .aload_n 1, 1), (31, .invokevirtual 61, 3), (34, .if_icmp .ge 52, 3), (37, .aload_n 1, 1), (38, .iload 6, 2), (40, .invokevirtual 65, 3), (43, .bipush 32, 2), (45, .if_icmp .eq 41, 3), (48, .iload 5, 2), (50, .ifCond .eq 30, 3), (53, .aload_n 1, 1), (54, .iload 6, 2), (56, .invokevirtual 65, 3), (59, .aload_n 0, 1), (60, .aload_n 0, 1), (61, .getfield 15, 3), (64, .iload 6, 2), (66, .iadd, 1), (67, .iload 4, 2), (69, .isub, 1), (70, .invokevirtual 36, 3), (73, .if_icmp .ne 7, 3), (76, .iconst 1, 1), (77, .goto 4, 3), (80, .iconst 0, 1), (81, .istore 5, 2), (83, .goto 39, 3), (86, .iload 5, 2), (88, .ifCond .eq 14, 3), (91, .iload 6, 2), (93, .iload 4, 2), (95, .isub, 1), (96, .iload_n 2, 1), (97, .if_icmp .ne 5, 3), (100, .iload_n 3, 1), (101, .ireturn, 1), (102, .iinc 3 1, 3), (105, .iload 6, 2), (107, .iconst 1, 1), (108, .iadd, 1), (109, .istore 4, 2), (111, .iload_n 2, 1), (112, .ifCond .le 7, 3), (115, .iconst 1, 1), (116, .goto 4, 3), (119, .iconst 0, 1), (120, .istore 5, 2), (122, .iinc 6 1, 3), (125, .goto (-106), 3), (128, .iconst (-1), 1), (129, .ireturn, 1)]
set_option maxRecDepth 100000 in
theorem tkX9_listed : ∀ q ∈ tX9_listed, decode cX9_listed q.1 = .ok q.2 := by decide +kernel
theorem vmX9_listed : zVM yX9_listed cX9_listed 7 (Option.some .int) 2 9 := ⟨kX9_listed, q_705, q_5, q_148, ⟨_, rfl, rfl⟩, by decide +kernel, by decide⟩
def X9_listed_J122 (r19 : Int32 × Int32 × Int32 × Int32 → zM) (v0 : Nat) (v1 : Nat) (v2 : Int32) (v3 : Int32) (v4 : Int32) (v5 : Int32) (v6 : Int32) : zM := r19 (v3, v4, v5, v6 + 1)
set_option maxHeartbeats 2000000 in
set_option maxRecDepth 20000 in
theorem coX9_listed_J122 (l : Launch) (e : Nat) (he : 8 ≤ e) (v0 : Nat) (v1 : Nat) (v2 : Int32) (v3 : Int32) (v4 : Int32) (v5 : Int32) (v6 : Int32) (r19 : Int32 × Int32 × Int32 × Int32 → zM) (hr19 : ∀ x : Int32 × Int32 × Int32 × Int32, zCo l (e + 1) 0 0 iX9_listed 19 [(0, .ref v0), (1, .ref v1), (2, .int v2), (3, .int x.1), (4, .int x.2.1), (5, .int x.2.2.1), (6, .int x.2.2.2)] [] (r19 x)) : zCo l (e + 1) 0 0 iX9_listed 122 [(0, .ref v0), (1, .ref v1), (2, .int v2), (3, .int v3), (4, .int v4), (5, .int v5), (6, .int v6)] [] (X9_listed_J122 r19 v0 v1 v2 v3 v4 v5 v6) := by
  unfold X9_listed_J122
  refine zco_p tkX9_listed 64 2 (pc' := 19) (L' := [(6, .int (v6 + 1)), (0, .ref v0), (1, .ref v1), (2, .int v2), (3, .int v3), (4, .int v4), (5, .int v5)]) (S' := []) rfl ?_
  exact zco_sub [1, 2, 3, 4, 5, 6, 0] rfl (hr19 (v3, v4, v5, v6 + 1))
def X9_listed_J120 (r19 : Int32 × Int32 × Int32 × Int32 → zM) (v0 : Nat) (v1 : Nat) (v2 : Int32) (v3 : Int32) (v4 : Int32) (v6 : Int32) (s0 : Int32) : zM := X9_listed_J122 r19 v0 v1 v2 v3 v4 s0 v6
set_option maxHeartbeats 2000000 in
set_option maxRecDepth 20000 in
theorem coX9_listed_J120 (l : Launch) (e : Nat) (he : 8 ≤ e) (v0 : Nat) (v1 : Nat) (v2 : Int32) (v3 : Int32) (v4 : Int32) (v6 : Int32) (r19 : Int32 × Int32 × Int32 × Int32 → zM) (hr19 : ∀ x : Int32 × Int32 × Int32 × Int32, zCo l (e + 1) 0 0 iX9_listed 19 [(0, .ref v0), (1, .ref v1), (2, .int v2), (3, .int x.1), (4, .int x.2.1), (5, .int x.2.2.1), (6, .int x.2.2.2)] [] (r19 x)) (s0 : Int32) : zCo l (e + 1) 0 0 iX9_listed 120 [(0, .ref v0), (1, .ref v1), (2, .int v2), (3, .int v3), (4, .int v4), (6, .int v6)] [.int s0] (X9_listed_J120 r19 v0 v1 v2 v3 v4 v6 s0) := by
  unfold X9_listed_J120
  refine zco_p tkX9_listed 63 1 (pc' := 122) (L' := [(5, .int s0), (0, .ref v0), (1, .ref v1), (2, .int v2), (3, .int v3), (4, .int v4), (6, .int v6)]) (S' := []) rfl ?_
  exact zco_sub [1, 2, 3, 4, 5, 0, 6] rfl (coX9_listed_J122 l e he v0 v1 v2 v3 v4 s0 v6 r19 hr19)
def X9_listed_J102 (r19 : Int32 × Int32 × Int32 × Int32 → zM) (v0 : Nat) (v1 : Nat) (v2 : Int32) (v3 : Int32) (v6 : Int32) : zM := z_if (v2 ≤ 0) (X9_listed_J120 r19 v0 v1 v2 (v3 + 1) (v6 + 1) v6 0)
   (X9_listed_J120 r19 v0 v1 v2 (v3 + 1) (v6 + 1) v6 1)
set_option maxHeartbeats 2000000 in
set_option maxRecDepth 20000 in
theorem coX9_listed_J102 (l : Launch) (e : Nat) (he : 8 ≤ e) (v0 : Nat) (v1 : Nat) (v2 : Int32) (v3 : Int32) (v6 : Int32) (r19 : Int32 × Int32 × Int32 × Int32 → zM) (hr19 : ∀ x : Int32 × Int32 × Int32 × Int32, zCo l (e + 1) 0 0 iX9_listed 19 [(0, .ref v0), (1, .ref v1), (2, .int v2), (3, .int x.1), (4, .int x.2.1), (5, .int x.2.2.1), (6, .int x.2.2.2)] [] (r19 x)) : zCo l (e + 1) 0 0 iX9_listed 102 [(0, .ref v0), (1, .ref v1), (2, .int v2), (3, .int v3), (6, .int v6)] [] (X9_listed_J102 r19 v0 v1 v2 v3 v6) := by
  unfold X9_listed_J102
  refine zco_p tkX9_listed 53 6 (pc' := 112) (L' := [(4, .int (v6 + 1)), (3, .int (v3 + 1)), (0, .ref v0), (1, .ref v1), (2, .int v2), (6, .int v6)]) (S' := [.int v2]) rfl ?_
  refine zco_if_le (tgt := 119) (zdk (cc := cX9_listed) (q := (112, .ifCond .le 7, 3)) tkX9_listed 59 rfl) rfl ?_ ?_
  · refine zco_p tkX9_listed 62 1 (pc' := 120) (L' := [(4, .int (v6 + 1)), (3, .int (v3 + 1)), (0, .ref v0), (1, .ref v1), (2, .int v2), (6, .int v6)]) (S' := [.int 0]) rfl ?_
    exact zco_sub [2, 3, 4, 1, 0, 5] rfl (coX9_listed_J120 l e he v0 v1 v2 (v3 + 1) (v6 + 1) v6 r19 hr19 0)
  · refine zco_p tkX9_listed 60 2 (pc' := 120) (L' := [(4, .int (v6 + 1)), (3, .int (v3 + 1)), (0, .ref v0), (1, .ref v1), (2, .int v2), (6, .int v6)]) (S' := [.int 1]) rfl ?_
    exact zco_sub [2, 3, 4, 1, 0, 5] rfl (coX9_listed_J120 l e he v0 v1 v2 (v3 + 1) (v6 + 1) v6 r19 hr19 1)
def X9_listed_J86 (r19 : Int32 × Int32 × Int32 × Int32 → zM) (v0 : Nat) (v1 : Nat) (v2 : Int32) (v3 : Int32) (v4 : Int32) (v5 : Int32) (v6 : Int32) : zM := z_if (v5 = 0) (X9_listed_J102 r19 v0 v1 v2 v3 v6)
   (z_if ((v6 - v4) = v2) (z_ret (some (.int v3)))
   (X9_listed_J102 r19 v0 v1 v2 v3 v6))
set_option maxHeartbeats 2000000 in
set_option maxRecDepth 20000 in
theorem coX9_listed_J86 (l : Launch) (e : Nat) (he : 8 ≤ e) (v0 : Nat) (v1 : Nat) (v2 : Int32) (v3 : Int32) (v4 : Int32) (v5 : Int32) (v6 : Int32) (r19 : Int32 × Int32 × Int32 × Int32 → zM) (hr19 : ∀ x : Int32 × Int32 × Int32 × Int32, zCo l (e + 1) 0 0 iX9_listed 19 [(0, .ref v0), (1, .ref v1), (2, .int v2), (3, .int x.1), (4, .int x.2.1), (5, .int x.2.2.1), (6, .int x.2.2.2)] [] (r19 x)) : zCo l (e + 1) 0 0 iX9_listed 86 [(0, .ref v0), (1, .ref v1), (2, .int v2), (3, .int v3), (4, .int v4), (5, .int v5), (6, .int v6)] [] (X9_listed_J86 r19 v0 v1 v2 v3 v4 v5 v6) := by
  unfold X9_listed_J86
  refine zco_p tkX9_listed 44 1 (pc' := 88) (L' := [(0, .ref v0), (1, .ref v1), (2, .int v2), (3, .int v3), (4, .int v4), (5, .int v5), (6, .int v6)]) (S' := [.int v5]) rfl ?_
  refine zco_if_eq (tgt := 102) (zdk (cc := cX9_listed) (q := (88, .ifCond .eq 14, 3)) tkX9_listed 45 rfl) rfl ?_ ?_
  · exact zco_sub [0, 1, 2, 3, 6] rfl (coX9_listed_J102 l e he v0 v1 v2 v3 v6 r19 hr19)
  · refine zco_p tkX9_listed 46 4 (pc' := 97) (L' := [(0, .ref v0), (1, .ref v1), (2, .int v2), (3, .int v3), (4, .int v4), (5, .int v5), (6, .int v6)]) (S' := [.int v2, .int (v6 - v4)]) rfl ?_
    refine zco_icmp_ne (tgt := 102) (zdk (cc := cX9_listed) (q := (97, .if_icmp .ne 5, 3)) tkX9_listed 50 rfl) rfl ?_ ?_
    · exact zco_sub [0, 1, 2, 3, 6] rfl (coX9_listed_J102 l e he v0 v1 v2 v3 v6 r19 hr19)
    · refine zco_p tkX9_listed 51 1 (pc' := 101) (L' := [(0, .ref v0), (1, .ref v1), (2, .int v2), (3, .int v3), (4, .int v4), (5, .int v5), (6, .int v6)]) (S' := [.int v3]) rfl ?_
      exact zco_iret rfl rfl rfl (zdk (cc := cX9_listed) (q := (101, .ireturn, 1)) tkX9_listed 52 rfl)
def X9_listed_J81 (r19 : Int32 × Int32 × Int32 × Int32 → zM) (v0 : Nat) (v1 : Nat) (v2 : Int32) (v3 : Int32) (v4 : Int32) (v6 : Int32) (s0 : Int32) : zM := X9_listed_J122 r19 v0 v1 v2 v3 v4 s0 v6
set_option maxHeartbeats 2000000 in
set_option maxRecDepth 20000 in
theorem coX9_listed_J81 (l : Launch) (e : Nat) (he : 8 ≤ e) (v0 : Nat) (v1 : Nat) (v2 : Int32) (v3 : Int32) (v4 : Int32) (v6 : Int32) (r19 : Int32 × Int32 × Int32 × Int32 → zM) (hr19 : ∀ x : Int32 × Int32 × Int32 × Int32, zCo l (e + 1) 0 0 iX9_listed 19 [(0, .ref v0), (1, .ref v1), (2, .int v2), (3, .int x.1), (4, .int x.2.1), (5, .int x.2.2.1), (6, .int x.2.2.2)] [] (r19 x)) (s0 : Int32) : zCo l (e + 1) 0 0 iX9_listed 81 [(0, .ref v0), (1, .ref v1), (2, .int v2), (3, .int v3), (4, .int v4), (6, .int v6)] [.int s0] (X9_listed_J81 r19 v0 v1 v2 v3 v4 v6 s0) := by
  unfold X9_listed_J81
  refine zco_p tkX9_listed 42 2 (pc' := 122) (L' := [(5, .int s0), (0, .ref v0), (1, .ref v1), (2, .int v2), (3, .int v3), (4, .int v4), (6, .int v6)]) (S' := []) rfl ?_
  exact zco_sub [1, 2, 3, 4, 5, 0, 6] rfl (coX9_listed_J122 l e he v0 v1 v2 v3 v4 s0 v6 r19 hr19)
def X9_listed_J80 (r19 : Int32 × Int32 × Int32 × Int32 → zM) (v0 : Nat) (v1 : Nat) (v2 : Int32) (v3 : Int32) (v4 : Int32) (v6 : Int32) : zM := X9_listed_J81 r19 v0 v1 v2 v3 v4 v6 0
set_option maxHeartbeats 2000000 in
set_option maxRecDepth 20000 in
theorem coX9_listed_J80 (l : Launch) (e : Nat) (he : 8 ≤ e) (v0 : Nat) (v1 : Nat) (v2 : Int32) (v3 : Int32) (v4 : Int32) (v6 : Int32) (r19 : Int32 × Int32 × Int32 × Int32 → zM) (hr19 : ∀ x : Int32 × Int32 × Int32 × Int32, zCo l (e + 1) 0 0 iX9_listed 19 [(0, .ref v0), (1, .ref v1), (2, .int v2), (3, .int x.1), (4, .int x.2.1), (5, .int x.2.2.1), (6, .int x.2.2.2)] [] (r19 x)) : zCo l (e + 1) 0 0 iX9_listed 80 [(0, .ref v0), (1, .ref v1), (2, .int v2), (3, .int v3), (4, .int v4), (6, .int v6)] [] (X9_listed_J80 r19 v0 v1 v2 v3 v4 v6) := by
  unfold X9_listed_J80
  refine zco_p tkX9_listed 41 1 (pc' := 81) (L' := [(0, .ref v0), (1, .ref v1), (2, .int v2), (3, .int v3), (4, .int v4), (6, .int v6)]) (S' := [.int 0]) rfl ?_
  exact zco_sub [0, 1, 2, 3, 4, 5] rfl (coX9_listed_J81 l e he v0 v1 v2 v3 v4 v6 r19 hr19 0)
def X9_listed_B19 (v0 : Nat) (v1 : Nat) (v2 : Int32) (r19 : Int32 × Int32 × Int32 × Int32 → zM) (v3 : Int32) (v4 : Int32) (v5 : Int32) (v6 : Int32) : zM := z_slen v1 fun x1 => z_if (x1 < v6) (z_ret (some (.int ((-1)))))
   (z_slen v1 fun x2 => z_if (x2 ≤ v6) (X9_listed_J86 r19 v0 v1 v2 v3 v4 v5 v6)
   (z_sch v1 v6 fun x3 => z_if (x3 = 32) (X9_listed_J86 r19 v0 v1 v2 v3 v4 v5 v6)
   (z_if (v5 = 0) (X9_listed_J80 r19 v0 v1 v2 v3 v4 v6)
   (z_sch v1 v6 fun x4 => z_gi 9 2 v0 fun x5 => z_rc 9 v0 (z_ci (X9_byteAt v0 ((x5 + v6) - v4)) fun y6 => z_if (x4 = y6) (X9_listed_J81 r19 v0 v1 v2 v3 v4 v6 1)
   (X9_listed_J80 r19 v0 v1 v2 v3 v4 v6))))))
set_option maxHeartbeats 2000000 in
set_option maxRecDepth 20000 in
theorem coX9_listed_B19 (l : Launch) (e : Nat) (he : 8 ≤ e) (v0 : Nat) (v1 : Nat) (v2 : Int32) (r19 : Int32 × Int32 × Int32 × Int32 → zM) (hr19 : ∀ x : Int32 × Int32 × Int32 × Int32, zCo l (e + 1) 0 0 iX9_listed 19 [(0, .ref v0), (1, .ref v1), (2, .int v2), (3, .int x.1), (4, .int x.2.1), (5, .int x.2.2.1), (6, .int x.2.2.2)] [] (r19 x)) (v3 : Int32) (v4 : Int32) (v5 : Int32) (v6 : Int32) : zCo l (e + 1) 0 0 iX9_listed 19 [(0, .ref v0), (1, .ref v1), (2, .int v2), (3, .int v3), (4, .int v4), (5, .int v5), (6, .int v6)] [] (X9_listed_B19 v0 v1 v2 r19 v3 v4 v5 v6) := by
  unfold X9_listed_B19
  refine zco_p tkX9_listed 12 2 (pc' := 22) (L' := [(0, .ref v0), (1, .ref v1), (2, .int v2), (3, .int v3), (4, .int v4), (5, .int v5), (6, .int v6)]) (S' := [.ref v1, .int v6]) rfl ?_
  refine zco_slen (by omega) q_707 (Nat.le_of_ble_eq_true rfl) (zdk (cc := cX9_listed) (q := (22, .invokevirtual 61, 3)) tkX9_listed 14 rfl) (fun x1 => ?_)
  refine zco_icmp_gt (tgt := 128) (zdk (cc := cX9_listed) (q := (25, .if_icmp .gt 103, 3)) tkX9_listed 15 rfl) rfl ?_ ?_
  · refine zco_p tkX9_listed 66 1 (pc' := 129) (L' := [(0, .ref v0), (1, .ref v1), (2, .int v2), (3, .int v3), (4, .int v4), (5, .int v5), (6, .int v6)]) (S' := [.int ((-1))]) rfl ?_
    exact zco_iret rfl rfl rfl (zdk (cc := cX9_listed) (q := (129, .ireturn, 1)) tkX9_listed 67 rfl)
  · refine zco_p tkX9_listed 16 2 (pc' := 31) (L' := [(0, .ref v0), (1, .ref v1), (2, .int v2), (3, .int v3), (4, .int v4), (5, .int v5), (6, .int v6)]) (S' := [.ref v1, .int v6]) rfl ?_
    refine zco_slen (by omega) q_707 (Nat.le_of_ble_eq_true rfl) (zdk (cc := cX9_listed) (q := (31, .invokevirtual 61, 3)) tkX9_listed 18 rfl) (fun x2 => ?_)
    refine zco_icmp_ge (tgt := 86) (zdk (cc := cX9_listed) (q := (34, .if_icmp .ge 52, 3)) tkX9_listed 19 rfl) rfl ?_ ?_
    · exact zco_sub [0, 1, 2, 3, 4, 5, 6] rfl (coX9_listed_J86 l e he v0 v1 v2 v3 v4 v5 v6 r19 hr19)
    · refine zco_p tkX9_listed 20 2 (pc' := 40) (L' := [(0, .ref v0), (1, .ref v1), (2, .int v2), (3, .int v3), (4, .int v4), (5, .int v5), (6, .int v6)]) (S' := [.int v6, .ref v1]) rfl ?_
      refine zco_sch (by omega) q_717 (Nat.le_of_ble_eq_true rfl) (zdk (cc := cX9_listed) (q := (40, .invokevirtual 65, 3)) tkX9_listed 22 rfl) (fun x3 => ?_)
      refine zco_p tkX9_listed 23 1 (pc' := 45) (L' := [(0, .ref v0), (1, .ref v1), (2, .int v2), (3, .int v3), (4, .int v4), (5, .int v5), (6, .int v6)]) (S' := [.int 32, .int x3]) rfl ?_
      refine zco_icmp_eq (tgt := 86) (zdk (cc := cX9_listed) (q := (45, .if_icmp .eq 41, 3)) tkX9_listed 24 rfl) rfl ?_ ?_
      · exact zco_sub [0, 1, 2, 3, 4, 5, 6] rfl (coX9_listed_J86 l e he v0 v1 v2 v3 v4 v5 v6 r19 hr19)
      · refine zco_p tkX9_listed 25 1 (pc' := 50) (L' := [(0, .ref v0), (1, .ref v1), (2, .int v2), (3, .int v3), (4, .int v4), (5, .int v5), (6, .int v6)]) (S' := [.int v5]) rfl ?_
        refine zco_if_eq (tgt := 80) (zdk (cc := cX9_listed) (q := (50, .ifCond .eq 30, 3)) tkX9_listed 26 rfl) rfl ?_ ?_
        · exact zco_sub [0, 1, 2, 3, 4, 6] rfl (coX9_listed_J80 l e he v0 v1 v2 v3 v4 v6 r19 hr19)
        · refine zco_p tkX9_listed 27 2 (pc' := 56) (L' := [(0, .ref v0), (1, .ref v1), (2, .int v2), (3, .int v3), (4, .int v4), (5, .int v5), (6, .int v6)]) (S' := [.int v6, .ref v1]) rfl ?_
          refine zco_sch (by omega) q_717 (Nat.le_of_ble_eq_true rfl) (zdk (cc := cX9_listed) (q := (56, .invokevirtual 65, 3)) tkX9_listed 29 rfl) (fun x4 => ?_)
          refine zco_p tkX9_listed 30 2 (pc' := 61) (L' := [(0, .ref v0), (1, .ref v1), (2, .int v2), (3, .int v3), (4, .int v4), (5, .int v5), (6, .int v6)]) (S' := [.ref v0, .ref v0, .int x4]) rfl ?_
          refine zco_gi fl_9_15 rfl (zdk (cc := cX9_listed) (q := (61, .getfield 15, 3)) tkX9_listed 32 rfl) (fun x5 => ?_)
          refine zco_p tkX9_listed 33 4 (pc' := 70) (L' := [(0, .ref v0), (1, .ref v1), (2, .int v2), (3, .int v3), (4, .int v4), (5, .int v5), (6, .int v6)]) (S' := [.int ((x5 + v6) - v4), .ref v0, .int x4]) rfl ?_
          refine zco_Vi (rc := 0) (rs := 0) (mc := 0) (ms := 0) (As := [.int ((x5 + v6) - v4)]) (S := [.int x4]) vmX9_byteAt (mtX9_byteAt l e (by omega) v0 ((x5 + v6) - v4)) q_693 rfl rfl (Nat.le_of_ble_eq_true rfl) (zdk (cc := cX9_listed) (q := (70, .invokevirtual 36, 3)) tkX9_listed 37 rfl) (fun y6 => ?_)
          refine zco_icmp_ne (tgt := 80) (zdk (cc := cX9_listed) (q := (73, .if_icmp .ne 7, 3)) tkX9_listed 38 rfl) rfl ?_ ?_
          · exact zco_sub [0, 1, 2, 3, 4, 6] rfl (coX9_listed_J80 l e he v0 v1 v2 v3 v4 v6 r19 hr19)
          · refine zco_p tkX9_listed 39 2 (pc' := 81) (L' := [(0, .ref v0), (1, .ref v1), (2, .int v2), (3, .int v3), (4, .int v4), (5, .int v5), (6, .int v6)]) (S' := [.int 1]) rfl ?_
            exact zco_sub [0, 1, 2, 3, 4, 6] rfl (coX9_listed_J81 l e he v0 v1 v2 v3 v4 v6 r19 hr19 1)
def X9_listed_J14 (v0 : Nat) (v1 : Nat) (v2 : Int32) (v3 : Int32) (v4 : Int32) (s0 : Int32) : zM := z_fix (fun r x => X9_listed_B19 v0 v1 v2 r x.1 x.2.1 x.2.2.1 x.2.2.2) zFU (v3, v4, s0, 0)
set_option maxHeartbeats 2000000 in
set_option maxRecDepth 20000 in
theorem coX9_listed_J14 (l : Launch) (e : Nat) (he : 8 ≤ e) (v0 : Nat) (v1 : Nat) (v2 : Int32) (v3 : Int32) (v4 : Int32) (s0 : Int32) : zCo l (e + 1) 0 0 iX9_listed 14 [(0, .ref v0), (1, .ref v1), (2, .int v2), (3, .int v3), (4, .int v4)] [.int s0] (X9_listed_J14 v0 v1 v2 v3 v4 s0) := by
  unfold X9_listed_J14
  refine zco_p tkX9_listed 9 3 (pc' := 19) (L' := [(6, .int 0), (5, .int s0), (0, .ref v0), (1, .ref v1), (2, .int v2), (3, .int v3), (4, .int v4)]) (S' := []) rfl ?_
  exact zco_sub [2, 3, 4, 5, 6, 1, 0] rfl (zco_fix (Lf := fun x : Int32 × Int32 × Int32 × Int32 => [(0, .ref v0), (1, .ref v1), (2, .int v2), (3, .int x.1), (4, .int x.2.1), (5, .int x.2.2.1), (6, .int x.2.2.2)]) (Sf := fun _ => []) (fun r hr x => coX9_listed_B19 l e he v0 v1 v2 r hr x.1 x.2.1 x.2.2.1 x.2.2.2) zFU (v3, v4, s0, 0))
def X9_listed (v0 : Nat) (v1 : Nat) (v2 : Int32) : zM := z_if (v2 ≤ 0) (X9_listed_J14 v0 v1 v2 0 0 0)
   (X9_listed_J14 v0 v1 v2 0 0 1)
set_option maxHeartbeats 2000000 in
set_option maxRecDepth 20000 in
theorem coX9_listed (l : Launch) (e : Nat) (he : 8 ≤ e) (v0 : Nat) (v1 : Nat) (v2 : Int32) : zCo l (e + 1) 0 0 iX9_listed 0 [(0, .ref v0), (1, .ref v1), (2, .int v2)] [] (X9_listed v0 v1 v2) := by
  unfold X9_listed
  refine zco_p tkX9_listed 0 5 (pc' := 6) (L' := [(4, .int 0), (3, .int 0), (0, .ref v0), (1, .ref v1), (2, .int v2)]) (S' := [.int v2]) rfl ?_
  refine zco_if_le (tgt := 13) (zdk (cc := cX9_listed) (q := (6, .ifCond .le 7, 3)) tkX9_listed 5 rfl) rfl ?_ ?_
  · refine zco_p tkX9_listed 8 1 (pc' := 14) (L' := [(4, .int 0), (3, .int 0), (0, .ref v0), (1, .ref v1), (2, .int v2)]) (S' := [.int 0]) rfl ?_
    exact zco_sub [2, 3, 4, 1, 0] rfl (coX9_listed_J14 l e he v0 v1 v2 0 0 0)
  · refine zco_p tkX9_listed 6 2 (pc' := 14) (L' := [(4, .int 0), (3, .int 0), (0, .ref v0), (1, .ref v1), (2, .int v2)]) (S' := [.int 1]) rfl ?_
    exact zco_sub [2, 3, 4, 1, 0] rfl (coX9_listed_J14 l e he v0 v1 v2 0 0 1)
theorem mtX9_listed (l : Launch) (d : Nat) (hd : 9 ≤ d) (v0 : Nat) (v1 : Nat) (v2 : Int32) : zMet l d 0 0 yX9_listed cX9_listed 7 (Option.some .int) [.ref v0, .ref v1, .int v2] (X9_listed v0 v1 v2) := by
  obtain ⟨e, rfl⟩ : ∃ e, d = e + 1 := ⟨d - 1, by omega⟩
  exact zmet_of (own := RX9) (ini := false) (by decide +kernel) rfl (fun _ => by contradiction) (Nat.le_of_ble_eq_true rfl) (coX9_listed l e (by omega) v0 v1 v2)
abbrev iX9_wordIn : zI := (RX9, cX9_wordIn, 2, (Option.some .int), false)
def tX9_wordIn : List (Nat × Instr × Nat) := [(0, .aload_n 0, 1), (1, .aload_n 1, 1), (2, .aload_n 0, 1), (3, .invokevirtual 54, 3), (6, .invokevirtual 57, 3), (9, .ireturn, 1)]
set_option maxRecDepth 100000 in
theorem tkX9_wordIn : ∀ q ∈ tX9_wordIn, decode cX9_wordIn q.1 = .ok q.2 := by decide +kernel
theorem vmX9_wordIn : zVM yX9_wordIn cX9_wordIn 2 (Option.some .int) 1 9 := ⟨kX9_wordIn, q_685, q_686, q_148, ⟨_, rfl, rfl⟩, by decide +kernel, by decide⟩
def X9_wordIn (v0 : Nat) (v1 : Nat) : zM := z_rc 9 v0 (z_ci (X9_wordLength v0) fun y1 => z_rc 9 v0 (z_ci (X9_listed v0 v1 y1) fun y2 => z_ret (some (.int y2))))
set_option maxHeartbeats 2000000 in
set_option maxRecDepth 20000 in
theorem coX9_wordIn (l : Launch) (e : Nat) (he : 9 ≤ e) (v0 : Nat) (v1 : Nat) : zCo l (e + 1) 0 0 iX9_wordIn 0 [(0, .ref v0), (1, .ref v1)] [] (X9_wordIn v0 v1) := by
  unfold X9_wordIn
  refine zco_p tkX9_wordIn 0 3 (pc' := 3) (L' := [(0, .ref v0), (1, .ref v1)]) (S' := [.ref v0, .ref v1, .ref v0]) rfl ?_
  refine zco_Vi (rc := 0) (rs := 0) (mc := 0) (ms := 0) (As := []) (S := [.ref v1, .ref v0]) vmX9_wordLength (mtX9_wordLength l e (by omega) v0) q_688 rfl rfl (Nat.le_of_ble_eq_true rfl) (zdk (cc := cX9_wordIn) (q := (3, .invokevirtual 54, 3)) tkX9_wordIn 3 rfl) (fun y1 => ?_)
  refine zco_Vi (rc := 0) (rs := 0) (mc := 0) (ms := 0) (As := [.ref v1, .int y1]) (S := []) vmX9_listed (mtX9_listed l e (by omega) v0 v1 y1) q_703 rfl rfl (Nat.le_of_ble_eq_true rfl) (zdk (cc := cX9_wordIn) (q := (6, .invokevirtual 57, 3)) tkX9_wordIn 4 rfl) (fun y2 => ?_)
  exact zco_iret rfl rfl rfl (zdk (cc := cX9_wordIn) (q := (9, .ireturn, 1)) tkX9_wordIn 5 rfl)
theorem mtX9_wordIn (l : Launch) (d : Nat) (hd : 10 ≤ d) (v0 : Nat) (v1 : Nat) : zMet l d 0 0 yX9_wordIn cX9_wordIn 2 (Option.some .int) [.ref v0, .ref v1] (X9_wordIn v0 v1) := by
  obtain ⟨e, rfl⟩ : ∃ e, d = e + 1 := ⟨d - 1, by omega⟩
  exact zmet_of (own := RX9) (ini := false) (by decide +kernel) rfl (fun _ => by contradiction) (Nat.le_of_ble_eq_true rfl) (coX9_wordIn l e (by omega) v0 v1)
abbrev iX9_passWord : zI := (RX9, cX9_passWord, 1, (Option.none : Option FieldType), false)
def tX9_passWord : List (Nat × Instr × Nat) := [(0, .aload_n 0, 1), (1, .dup, 1), (2, .getfield 15, 3), (5, .aload_n 0, 1), (6, .invokevirtual 54, 3), (9, .iadd, 1), (10, .putfield 15, 3), (13, .return_, 1)]
set_option maxRecDepth 100000 in
theorem tkX9_passWord : ∀ q ∈ tX9_passWord, decode cX9_passWord q.1 = .ok q.2 := by decide +kernel
theorem vmX9_passWord : zVM yX9_passWord cX9_passWord 1 (Option.none : Option FieldType) 0 9 := ⟨kX9_passWord, q_760, q_761, q_148, ⟨_, rfl, rfl⟩, by decide +kernel, by decide⟩
def X9_passWord (v0 : Nat) : zM := z_gi 9 2 v0 fun x1 => z_rc 9 v0 (z_ci (X9_wordLength v0) fun y2 => z_pi 9 2 v0 (x1 + y2) (z_ret none))
set_option maxHeartbeats 2000000 in
set_option maxRecDepth 20000 in
theorem coX9_passWord (l : Launch) (e : Nat) (he : 2 ≤ e) (v0 : Nat) : zCo l (e + 1) 0 0 iX9_passWord 0 [(0, .ref v0)] [] (X9_passWord v0) := by
  unfold X9_passWord
  refine zco_p tkX9_passWord 0 2 (pc' := 2) (L' := [(0, .ref v0)]) (S' := [.ref v0, .ref v0]) rfl ?_
  refine zco_gi fl_9_15 rfl (zdk (cc := cX9_passWord) (q := (2, .getfield 15, 3)) tkX9_passWord 2 rfl) (fun x1 => ?_)
  refine zco_p tkX9_passWord 3 1 (pc' := 6) (L' := [(0, .ref v0)]) (S' := [.ref v0, .int x1, .ref v0]) rfl ?_
  refine zco_Vi (rc := 0) (rs := 0) (mc := 0) (ms := 0) (As := []) (S := [.int x1, .ref v0]) vmX9_wordLength (mtX9_wordLength l e (by omega) v0) q_688 rfl rfl (Nat.le_of_ble_eq_true rfl) (zdk (cc := cX9_passWord) (q := (6, .invokevirtual 54, 3)) tkX9_passWord 4 rfl) (fun y2 => ?_)
  refine zco_p tkX9_passWord 5 1 (pc' := 10) (L' := [(0, .ref v0)]) (S' := [.int (x1 + y2), .ref v0]) rfl ?_
  refine zco_pi fl_9_15 rfl rfl (zdk (cc := cX9_passWord) (q := (10, .putfield 15, 3)) tkX9_passWord 6 rfl) ?_
  exact zco_vret rfl rfl rfl (zdk (cc := cX9_passWord) (q := (13, .return_, 1)) tkX9_passWord 7 rfl)
theorem mtX9_passWord (l : Launch) (d : Nat) (hd : 3 ≤ d) (v0 : Nat) : zMet l d 0 0 yX9_passWord cX9_passWord 1 (Option.none : Option FieldType) [.ref v0] (X9_passWord v0) := by
  obtain ⟨e, rfl⟩ : ∃ e, d = e + 1 := ⟨d - 1, by omega⟩
  exact zmet_of (own := RX9) (ini := false) (by decide +kernel) rfl (fun _ => by contradiction) (Nat.le_of_ble_eq_true rfl) (coX9_passWord l e (by omega) v0)
abbrev iX9_takeName : zI := (RX9, cX9_takeName, 4, (Option.none : Option FieldType), false)
def tX9_takeName : List (Nat × Instr × Nat) := [(0, .aload_n 0, 1), (1, .invokevirtual 54, 3), (4, .istore_n 2, 1), (5, .iload_n 2, 1), (6, .ifCond .eq 14, 3), (9, .aload_n 0, 1), (10, .ldc 73, 2), (12, .iload_n 2, 1), (13, .invokevirtual 57, 3), (16, .iconst (-1), 1), (17, .if_icmp .eq 15, 3), (20, .aload_n 0, 1), (21, .iconst 1, 1), (22, .aload_n 0, 1), (23, .getfield 15, 3), (26, .invokevirtual 44, 3), (29, .goto 21, 3), (32, .iload_n 2, 1), (33, .bipush 6, 2), (35, .if_icmp .le 15, 3), (38, .aload_n 0, 1), (39, .iconst 1, 1), (40, .aload_n 0, 1), (41, .getfield 15, 3), (44, .bipush 6, 2), (46, .iadd, 1), (47, .invokevirtual 44, 3), (50, .iconst 0, 1), (51, .istore_n 3, 1), (52, .iload_n 3, 1), (53, .bipush 6, 2), (55, .if_icmp .ge 49, 3), (58, .iload_n 3, 1), (59, .aload_n 1, 1), (60, .arraylength, 1), (61, .if_icmp .ge 43, 3), (64, .aload_n 1, 1), (65, .iload_n 3, 1), (66, .aload_n 0, 1), (67, .invokevirtual 32, 3), (70, .ifCond .eq 26, 3), (73, .iload_n 3, 1), (74, .iload_n 2, 1), (75, .if_icmp .ge 21, 3), (78, .aload_n 0, 1), (79, .aload_n 0, 1), (80, .getfield 15, 3), (83, .iload_n 3, 1), (84, .iadd, 1), (85, .invokevirtual 36, 3), (88, .bipush 97, 2), (90, .isub, 1), (91, .iconst 1, 1), (92, .iadd, 1), (93, .goto 4, 3), (96, .iconst 0, 1), (97, .iastore, 1), (98, .iinc 3 1, 3), (101, .goto (-49), 3), (104, .aload_n 0, 1), (105, .dup, 1), (106, .getfield 15, 3), (109, .iload_n 2, 1), (110, .iadd, 1), (111, .putfield 15, 3), (114, .return_, 1)]
set_option maxRecDepth 100000 in
theorem tkX9_takeName : ∀ q ∈ tX9_takeName, decode cX9_takeName q.1 = .ok q.2 := by decide +kernel
theorem vmX9_takeName : zVM yX9_takeName cX9_takeName 4 (Option.none : Option FieldType) 1 9 := ⟨kX9_takeName, q_764, q_765, q_148, ⟨_, rfl, rfl⟩, by decide +kernel, by decide⟩
def X9_takeName_J104 (v0 : Nat) (v2 : Int32) : zM := z_gi 9 2 v0 fun x1 => z_pi 9 2 v0 (x1 + v2) (z_ret none)
set_option maxHeartbeats 2000000 in
set_option maxRecDepth 20000 in
theorem coX9_takeName_J104 (l : Launch) (e : Nat) (he : 9 ≤ e) (v0 : Nat) (v2 : Int32) : zCo l (e + 1) 0 0 iX9_takeName 104 [(0, .ref v0), (2, .int v2)] [] (X9_takeName_J104 v0 v2) := by
  unfold X9_takeName_J104
  refine zco_p tkX9_takeName 59 2 (pc' := 106) (L' := [(0, .ref v0), (2, .int v2)]) (S' := [.ref v0, .ref v0]) rfl ?_
  refine zco_gi fl_9_15 rfl (zdk (cc := cX9_takeName) (q := (106, .getfield 15, 3)) tkX9_takeName 61 rfl) (fun x1 => ?_)
  refine zco_p tkX9_takeName 62 2 (pc' := 111) (L' := [(0, .ref v0), (2, .int v2)]) (S' := [.int (x1 + v2), .ref v0]) rfl ?_
  refine zco_pi fl_9_15 rfl rfl (zdk (cc := cX9_takeName) (q := (111, .putfield 15, 3)) tkX9_takeName 64 rfl) ?_
  exact zco_vret rfl rfl rfl (zdk (cc := cX9_takeName) (q := (114, .return_, 1)) tkX9_takeName 65 rfl)
def X9_takeName_J97 (r52 : Int32 → zM) (v0 : Nat) (v1 : Nat) (v2 : Int32) (v3 : Int32) (s0 : Int32) (s1 : Int32) (s2 : Nat) : zM := z_sa 20 s2 s1 s0 (r52 (v3 + 1))
set_option maxHeartbeats 2000000 in
set_option maxRecDepth 20000 in
theorem coX9_takeName_J97 (l : Launch) (e : Nat) (he : 9 ≤ e) (v0 : Nat) (v1 : Nat) (v2 : Int32) (v3 : Int32) (r52 : Int32 → zM) (hr52 : ∀ x : Int32, zCo l (e + 1) 0 0 iX9_takeName 52 [(0, .ref v0), (1, .ref v1), (2, .int v2), (3, .int x)] [] (r52 x)) (s0 : Int32) (s1 : Int32) (s2 : Nat) : zCo l (e + 1) 0 0 iX9_takeName 97 [(0, .ref v0), (1, .ref v1), (2, .int v2), (3, .int v3)] [.int s0, .int s1, .ref s2] (X9_takeName_J97 r52 v0 v1 v2 v3 s0 s1 s2) := by
  unfold X9_takeName_J97
  refine zco_iastore (zdk (cc := cX9_takeName) (q := (97, .iastore, 1)) tkX9_takeName 56 rfl) ?_
  refine zco_p tkX9_takeName 57 2 (pc' := 52) (L' := [(3, .int (v3 + 1)), (0, .ref v0), (1, .ref v1), (2, .int v2)]) (S' := []) rfl ?_
  exact zco_sub [1, 2, 3, 0] rfl (hr52 (v3 + 1))
def X9_takeName_J96 (r52 : Int32 → zM) (v0 : Nat) (v1 : Nat) (v2 : Int32) (v3 : Int32) (s0 : Int32) (s1 : Nat) : zM := X9_takeName_J97 r52 v0 v1 v2 v3 0 s0 s1
set_option maxHeartbeats 2000000 in
set_option maxRecDepth 20000 in
theorem coX9_takeName_J96 (l : Launch) (e : Nat) (he : 9 ≤ e) (v0 : Nat) (v1 : Nat) (v2 : Int32) (v3 : Int32) (r52 : Int32 → zM) (hr52 : ∀ x : Int32, zCo l (e + 1) 0 0 iX9_takeName 52 [(0, .ref v0), (1, .ref v1), (2, .int v2), (3, .int x)] [] (r52 x)) (s0 : Int32) (s1 : Nat) : zCo l (e + 1) 0 0 iX9_takeName 96 [(0, .ref v0), (1, .ref v1), (2, .int v2), (3, .int v3)] [.int s0, .ref s1] (X9_takeName_J96 r52 v0 v1 v2 v3 s0 s1) := by
  unfold X9_takeName_J96
  refine zco_p tkX9_takeName 55 1 (pc' := 97) (L' := [(0, .ref v0), (1, .ref v1), (2, .int v2), (3, .int v3)]) (S' := [.int 0, .int s0, .ref s1]) rfl ?_
  exact zco_sub [0, 1, 2, 3] rfl (coX9_takeName_J97 l e he v0 v1 v2 v3 r52 hr52 0 s0 s1)
def X9_takeName_B52 (v0 : Nat) (v1 : Nat) (v2 : Int32) (r52 : Int32 → zM) (v3 : Int32) : zM := z_if (6 ≤ v3) (X9_takeName_J104 v0 v2)
   (z_len v1 fun x1 => z_if (x1 ≤ v3) (X9_takeName_J104 v0 v2)
   (z_rc 9 v0 (z_ci (X9_sound v0) fun y2 => z_if (y2 = 0) (X9_takeName_J96 r52 v0 v1 v2 v3 v3 v1)
   (z_if (v2 ≤ v3) (X9_takeName_J96 r52 v0 v1 v2 v3 v3 v1)
   (z_gi 9 2 v0 fun x3 => z_rc 9 v0 (z_ci (X9_byteAt v0 (x3 + v3)) fun y4 => X9_takeName_J97 r52 v0 v1 v2 v3 ((y4 - 97) + 1) v3 v1))))))
set_option maxHeartbeats 2000000 in
set_option maxRecDepth 20000 in
theorem coX9_takeName_B52 (l : Launch) (e : Nat) (he : 9 ≤ e) (v0 : Nat) (v1 : Nat) (v2 : Int32) (r52 : Int32 → zM) (hr52 : ∀ x : Int32, zCo l (e + 1) 0 0 iX9_takeName 52 [(0, .ref v0), (1, .ref v1), (2, .int v2), (3, .int x)] [] (r52 x)) (v3 : Int32) : zCo l (e + 1) 0 0 iX9_takeName 52 [(0, .ref v0), (1, .ref v1), (2, .int v2), (3, .int v3)] [] (X9_takeName_B52 v0 v1 v2 r52 v3) := by
  unfold X9_takeName_B52
  refine zco_p tkX9_takeName 29 2 (pc' := 55) (L' := [(0, .ref v0), (1, .ref v1), (2, .int v2), (3, .int v3)]) (S' := [.int 6, .int v3]) rfl ?_
  refine zco_icmp_ge (tgt := 104) (zdk (cc := cX9_takeName) (q := (55, .if_icmp .ge 49, 3)) tkX9_takeName 31 rfl) rfl ?_ ?_
  · exact zco_sub [0, 2] rfl (coX9_takeName_J104 l e he v0 v2)
  · refine zco_p tkX9_takeName 32 2 (pc' := 60) (L' := [(0, .ref v0), (1, .ref v1), (2, .int v2), (3, .int v3)]) (S' := [.ref v1, .int v3]) rfl ?_
    refine zco_alen (zdk (cc := cX9_takeName) (q := (60, .arraylength, 1)) tkX9_takeName 34 rfl) (fun x1 => ?_)
    refine zco_icmp_ge (tgt := 104) (zdk (cc := cX9_takeName) (q := (61, .if_icmp .ge 43, 3)) tkX9_takeName 35 rfl) rfl ?_ ?_
    · exact zco_sub [0, 2] rfl (coX9_takeName_J104 l e he v0 v2)
    · refine zco_p tkX9_takeName 36 3 (pc' := 67) (L' := [(0, .ref v0), (1, .ref v1), (2, .int v2), (3, .int v3)]) (S' := [.ref v0, .int v3, .ref v1]) rfl ?_
      refine zco_Vi (rc := 0) (rs := 0) (mc := 0) (ms := 0) (As := []) (S := [.int v3, .ref v1]) vmX9_sound (mtX9_sound l e (by omega) v0) q_692 rfl rfl (Nat.le_of_ble_eq_true rfl) (zdk (cc := cX9_takeName) (q := (67, .invokevirtual 32, 3)) tkX9_takeName 39 rfl) (fun y2 => ?_)
      refine zco_if_eq (tgt := 96) (zdk (cc := cX9_takeName) (q := (70, .ifCond .eq 26, 3)) tkX9_takeName 40 rfl) rfl ?_ ?_
      · exact zco_sub [0, 1, 2, 3] rfl (coX9_takeName_J96 l e he v0 v1 v2 v3 r52 hr52 v3 v1)
      · refine zco_p tkX9_takeName 41 2 (pc' := 75) (L' := [(0, .ref v0), (1, .ref v1), (2, .int v2), (3, .int v3)]) (S' := [.int v2, .int v3, .int v3, .ref v1]) rfl ?_
        refine zco_icmp_ge (tgt := 96) (zdk (cc := cX9_takeName) (q := (75, .if_icmp .ge 21, 3)) tkX9_takeName 43 rfl) rfl ?_ ?_
        · exact zco_sub [0, 1, 2, 3] rfl (coX9_takeName_J96 l e he v0 v1 v2 v3 r52 hr52 v3 v1)
        · refine zco_p tkX9_takeName 44 2 (pc' := 80) (L' := [(0, .ref v0), (1, .ref v1), (2, .int v2), (3, .int v3)]) (S' := [.ref v0, .ref v0, .int v3, .ref v1]) rfl ?_
          refine zco_gi fl_9_15 rfl (zdk (cc := cX9_takeName) (q := (80, .getfield 15, 3)) tkX9_takeName 46 rfl) (fun x3 => ?_)
          refine zco_p tkX9_takeName 47 2 (pc' := 85) (L' := [(0, .ref v0), (1, .ref v1), (2, .int v2), (3, .int v3)]) (S' := [.int (x3 + v3), .ref v0, .int v3, .ref v1]) rfl ?_
          refine zco_Vi (rc := 0) (rs := 0) (mc := 0) (ms := 0) (As := [.int (x3 + v3)]) (S := [.int v3, .ref v1]) vmX9_byteAt (mtX9_byteAt l e (by omega) v0 (x3 + v3)) q_693 rfl rfl (Nat.le_of_ble_eq_true rfl) (zdk (cc := cX9_takeName) (q := (85, .invokevirtual 36, 3)) tkX9_takeName 49 rfl) (fun y4 => ?_)
          refine zco_p tkX9_takeName 50 5 (pc' := 97) (L' := [(0, .ref v0), (1, .ref v1), (2, .int v2), (3, .int v3)]) (S' := [.int ((y4 - 97) + 1), .int v3, .ref v1]) rfl ?_
          exact zco_sub [0, 1, 2, 3] rfl (coX9_takeName_J97 l e he v0 v1 v2 v3 r52 hr52 ((y4 - 97) + 1) v3 v1)
def X9_takeName_J50 (v0 : Nat) (v1 : Nat) (v2 : Int32) : zM := z_fix (fun r x => X9_takeName_B52 v0 v1 v2 r x) zFU 0
set_option maxHeartbeats 2000000 in
set_option maxRecDepth 20000 in
theorem coX9_takeName_J50 (l : Launch) (e : Nat) (he : 9 ≤ e) (v0 : Nat) (v1 : Nat) (v2 : Int32) : zCo l (e + 1) 0 0 iX9_takeName 50 [(0, .ref v0), (1, .ref v1), (2, .int v2)] [] (X9_takeName_J50 v0 v1 v2) := by
  unfold X9_takeName_J50
  refine zco_p tkX9_takeName 27 2 (pc' := 52) (L' := [(3, .int 0), (0, .ref v0), (1, .ref v1), (2, .int v2)]) (S' := []) rfl ?_
  exact zco_sub [1, 2, 3, 0] rfl (zco_fix (Lf := fun x : Int32 => [(0, .ref v0), (1, .ref v1), (2, .int v2), (3, .int x)]) (Sf := fun _ => []) (fun r hr x => coX9_takeName_B52 l e he v0 v1 v2 r hr x) zFU 0)
def X9_takeName_J20 (v0 : Nat) (v1 : Nat) (v2 : Int32) : zM := z_gi 9 2 v0 fun x1 => z_rc 9 v0 (z_cv (X9_fail v0 1 x1) (X9_takeName_J50 v0 v1 v2))
set_option maxHeartbeats 2000000 in
set_option maxRecDepth 20000 in
theorem coX9_takeName_J20 (l : Launch) (e : Nat) (he : 9 ≤ e) (v0 : Nat) (v1 : Nat) (v2 : Int32) : zCo l (e + 1) 0 0 iX9_takeName 20 [(0, .ref v0), (1, .ref v1), (2, .int v2)] [] (X9_takeName_J20 v0 v1 v2) := by
  unfold X9_takeName_J20
  refine zco_p tkX9_takeName 11 3 (pc' := 23) (L' := [(0, .ref v0), (1, .ref v1), (2, .int v2)]) (S' := [.ref v0, .int 1, .ref v0]) rfl ?_
  refine zco_gi fl_9_15 rfl (zdk (cc := cX9_takeName) (q := (23, .getfield 15, 3)) tkX9_takeName 14 rfl) (fun x1 => ?_)
  refine zco_Vv (rc := 0) (rs := 0) (mc := 0) (ms := 0) (As := [.int 1, .int x1]) (S := []) vmX9_fail (mtX9_fail l e (by omega) v0 1 x1) q_768 rfl rfl (Nat.le_of_ble_eq_true rfl) (zdk (cc := cX9_takeName) (q := (26, .invokevirtual 44, 3)) tkX9_takeName 15 rfl) ?_
  refine zco_p tkX9_takeName 16 1 (pc' := 50) (L' := [(0, .ref v0), (1, .ref v1), (2, .int v2)]) (S' := []) rfl ?_
  exact zco_sub [0, 1, 2] rfl (coX9_takeName_J50 l e he v0 v1 v2)
def X9_takeName (v0 : Nat) (v1 : Nat) : zM := z_rc 9 v0 (z_ci (X9_wordLength v0) fun y1 => z_if (y1 = 0) (X9_takeName_J20 v0 v1 y1)
   (z_rc 9 v0 (z_ci (X9_listed v0 (zB + 2) y1) fun y2 => z_if (y2 = ((-1))) (z_if (y1 ≤ 6) (X9_takeName_J50 v0 v1 y1)
   (z_gi 9 2 v0 fun x3 => z_rc 9 v0 (z_cv (X9_fail v0 1 (x3 + 6)) (X9_takeName_J50 v0 v1 y1))))
   (X9_takeName_J20 v0 v1 y1))))
set_option maxHeartbeats 2000000 in
set_option maxRecDepth 20000 in
theorem coX9_takeName (l : Launch) (e : Nat) (he : 9 ≤ e) (v0 : Nat) (v1 : Nat) : zCo l (e + 1) 0 0 iX9_takeName 0 [(0, .ref v0), (1, .ref v1)] [] (X9_takeName v0 v1) := by
  unfold X9_takeName
  refine zco_p tkX9_takeName 0 1 (pc' := 1) (L' := [(0, .ref v0), (1, .ref v1)]) (S' := [.ref v0]) rfl ?_
  refine zco_Vi (rc := 0) (rs := 0) (mc := 0) (ms := 0) (As := []) (S := []) vmX9_wordLength (mtX9_wordLength l e (by omega) v0) q_688 rfl rfl (Nat.le_of_ble_eq_true rfl) (zdk (cc := cX9_takeName) (q := (1, .invokevirtual 54, 3)) tkX9_takeName 1 rfl) (fun y1 => ?_)
  refine zco_p tkX9_takeName 2 2 (pc' := 6) (L' := [(2, .int y1), (0, .ref v0), (1, .ref v1)]) (S' := [.int y1]) rfl ?_
  refine zco_if_eq (tgt := 20) (zdk (cc := cX9_takeName) (q := (6, .ifCond .eq 14, 3)) tkX9_takeName 4 rfl) rfl ?_ ?_
  · exact zco_sub [1, 2, 0] rfl (coX9_takeName_J20 l e he v0 v1 y1)
  · refine zco_p tkX9_takeName 5 1 (pc' := 10) (L' := [(2, .int y1), (0, .ref v0), (1, .ref v1)]) (S' := [.ref v0]) rfl ?_
    refine zco_ldcS (i := 2) rfl (zdk (cc := cX9_takeName) (q := (10, .ldc 73, 2)) tkX9_takeName 6 rfl) ?_
    refine zco_p tkX9_takeName 7 1 (pc' := 13) (L' := [(2, .int y1), (0, .ref v0), (1, .ref v1)]) (S' := [.int y1, .ref (zB + 2), .ref v0]) rfl ?_
    refine zco_Vi (rc := 0) (rs := 0) (mc := 0) (ms := 0) (As := [.ref (zB + 2), .int y1]) (S := []) vmX9_listed (mtX9_listed l e (by omega) v0 (zB + 2) y1) q_703 rfl rfl (Nat.le_of_ble_eq_true rfl) (zdk (cc := cX9_takeName) (q := (13, .invokevirtual 57, 3)) tkX9_takeName 8 rfl) (fun y2 => ?_)
    refine zco_p tkX9_takeName 9 1 (pc' := 17) (L' := [(2, .int y1), (0, .ref v0), (1, .ref v1)]) (S' := [.int ((-1)), .int y2]) rfl ?_
    refine zco_icmp_eq (tgt := 32) (zdk (cc := cX9_takeName) (q := (17, .if_icmp .eq 15, 3)) tkX9_takeName 10 rfl) rfl ?_ ?_
    · refine zco_p tkX9_takeName 17 2 (pc' := 35) (L' := [(2, .int y1), (0, .ref v0), (1, .ref v1)]) (S' := [.int 6, .int y1]) rfl ?_
      refine zco_icmp_le (tgt := 50) (zdk (cc := cX9_takeName) (q := (35, .if_icmp .le 15, 3)) tkX9_takeName 19 rfl) rfl ?_ ?_
      · exact zco_sub [1, 2, 0] rfl (coX9_takeName_J50 l e he v0 v1 y1)
      · refine zco_p tkX9_takeName 20 3 (pc' := 41) (L' := [(2, .int y1), (0, .ref v0), (1, .ref v1)]) (S' := [.ref v0, .int 1, .ref v0]) rfl ?_
        refine zco_gi fl_9_15 rfl (zdk (cc := cX9_takeName) (q := (41, .getfield 15, 3)) tkX9_takeName 23 rfl) (fun x3 => ?_)
        refine zco_p tkX9_takeName 24 2 (pc' := 47) (L' := [(2, .int y1), (0, .ref v0), (1, .ref v1)]) (S' := [.int (x3 + 6), .int 1, .ref v0]) rfl ?_
        refine zco_Vv (rc := 0) (rs := 0) (mc := 0) (ms := 0) (As := [.int 1, .int (x3 + 6)]) (S := []) vmX9_fail (mtX9_fail l e (by omega) v0 1 (x3 + 6)) q_768 rfl rfl (Nat.le_of_ble_eq_true rfl) (zdk (cc := cX9_takeName) (q := (47, .invokevirtual 44, 3)) tkX9_takeName 26 rfl) ?_
        exact zco_sub [1, 2, 0] rfl (coX9_takeName_J50 l e he v0 v1 y1)
    · exact zco_sub [1, 2, 0] rfl (coX9_takeName_J20 l e he v0 v1 y1)
theorem mtX9_takeName (l : Launch) (d : Nat) (hd : 10 ≤ d) (v0 : Nat) (v1 : Nat) : zMet l d 0 0 yX9_takeName cX9_takeName 4 (Option.none : Option FieldType) [.ref v0, .ref v1] (X9_takeName v0 v1) := by
  obtain ⟨e, rfl⟩ : ∃ e, d = e + 1 := ⟨d - 1, by omega⟩
  exact zmet_of (own := RX9) (ini := false) (by decide +kernel) rfl (fun _ => by contradiction) (Nat.le_of_ble_eq_true rfl) (coX9_takeName l e (by omega) v0 v1)
abbrev iX1_isThere : zI := (RX1, cX1_isThere, 2, (Option.some .boolean), false)
def tX1_isThere : List (Nat × Instr × Nat) := [(0, .iload_n 1, 1), (1, .bipush 6, 2), (3, .if_icmp .ge 21, 3), (6, .iload_n 1, 1), (7, .aload_n 0, 1), (8, .getfield 9, 3), (11, .iconst 0, 1), (12, .iaload, 1), (13, .if_icmp .ge 7, 3), (16, .iconst 1, 1), (17, .goto 25, 3), (20, .iconst 0, 1), (21, .goto 21, 3), (24, .iload_n 1, 1), (25, .bipush 6, 2), (27, .isub, 1), (28, .aload_n 0, 1), (29, .getfield 9, 3), (32, .iconst 1, 1), (33, .iaload, 1), (34, .if_icmp .ge 7, 3), (37, .iconst 1, 1), (38, .goto 4, 3), (41, .iconst 0, 1), (42, .ireturn, 1)]
set_option maxRecDepth 100000 in
theorem tkX1_isThere : ∀ q ∈ tX1_isThere, decode cX1_isThere q.1 = .ok q.2 := by decide +kernel
theorem vmX1_isThere : zVM yX1_isThere cX1_isThere 2 (Option.some .boolean) 1 1 := ⟨kX1_isThere, q_774, q_775, q_153, ⟨_, rfl, rfl⟩, by decide +kernel, by decide⟩
def X1_isThere (v0 : Nat) (v1 : Int32) : zM := z_if (6 ≤ v1) (z_gr 1 0 v0 fun x1 => z_la 20 x1 1 fun x2 => z_if (x2 ≤ (v1 - 6)) (z_rb 0)
   (z_rb 1))
   (z_gr 1 0 v0 fun x3 => z_la 20 x3 0 fun x4 => z_if (x4 ≤ v1) (z_rb 0)
   (z_rb 1))
set_option maxHeartbeats 2000000 in
set_option maxRecDepth 20000 in
theorem coX1_isThere (l : Launch) (e : Nat) (he : 0 ≤ e) (v0 : Nat) (v1 : Int32) : zCo l (e + 1) 0 0 iX1_isThere 0 [(0, .ref v0), (1, .int v1)] [] (X1_isThere v0 v1) := by
  unfold X1_isThere
  refine zco_p tkX1_isThere 0 2 (pc' := 3) (L' := [(0, .ref v0), (1, .int v1)]) (S' := [.int 6, .int v1]) rfl ?_
  refine zco_icmp_ge (tgt := 24) (zdk (cc := cX1_isThere) (q := (3, .if_icmp .ge 21, 3)) tkX1_isThere 2 rfl) rfl ?_ ?_
  · refine zco_p tkX1_isThere 13 4 (pc' := 29) (L' := [(0, .ref v0), (1, .int v1)]) (S' := [.ref v0, .int (v1 - 6)]) rfl ?_
    refine zco_gr fl_1_9 rfl (zdk (cc := cX1_isThere) (q := (29, .getfield 9, 3)) tkX1_isThere 17 rfl) (fun x1 => ?_)
    refine zco_p tkX1_isThere 18 1 (pc' := 33) (L' := [(0, .ref v0), (1, .int v1)]) (S' := [.int 1, .ref x1, .int (v1 - 6)]) rfl ?_
    refine zco_iaload (zdk (cc := cX1_isThere) (q := (33, .iaload, 1)) tkX1_isThere 19 rfl) (fun x2 => ?_)
    refine zco_icmp_ge (tgt := 41) (zdk (cc := cX1_isThere) (q := (34, .if_icmp .ge 7, 3)) tkX1_isThere 20 rfl) rfl ?_ ?_
    · refine zco_p tkX1_isThere 23 1 (pc' := 42) (L' := [(0, .ref v0), (1, .int v1)]) (S' := [.int 0]) rfl ?_
      exact zco_zret rfl rfl rfl (zdk (cc := cX1_isThere) (q := (42, .ireturn, 1)) tkX1_isThere 24 rfl)
    · refine zco_p tkX1_isThere 21 2 (pc' := 42) (L' := [(0, .ref v0), (1, .int v1)]) (S' := [.int 1]) rfl ?_
      exact zco_zret rfl rfl rfl (zdk (cc := cX1_isThere) (q := (42, .ireturn, 1)) tkX1_isThere 24 rfl)
  · refine zco_p tkX1_isThere 3 2 (pc' := 8) (L' := [(0, .ref v0), (1, .int v1)]) (S' := [.ref v0, .int v1]) rfl ?_
    refine zco_gr fl_1_9 rfl (zdk (cc := cX1_isThere) (q := (8, .getfield 9, 3)) tkX1_isThere 5 rfl) (fun x3 => ?_)
    refine zco_p tkX1_isThere 6 1 (pc' := 12) (L' := [(0, .ref v0), (1, .int v1)]) (S' := [.int 0, .ref x3, .int v1]) rfl ?_
    refine zco_iaload (zdk (cc := cX1_isThere) (q := (12, .iaload, 1)) tkX1_isThere 7 rfl) (fun x4 => ?_)
    refine zco_icmp_ge (tgt := 20) (zdk (cc := cX1_isThere) (q := (13, .if_icmp .ge 7, 3)) tkX1_isThere 8 rfl) rfl ?_ ?_
    · refine zco_p tkX1_isThere 11 2 (pc' := 42) (L' := [(0, .ref v0), (1, .int v1)]) (S' := [.int 0]) rfl ?_
      exact zco_zret rfl rfl rfl (zdk (cc := cX1_isThere) (q := (42, .ireturn, 1)) tkX1_isThere 24 rfl)
    · refine zco_p tkX1_isThere 9 2 (pc' := 42) (L' := [(0, .ref v0), (1, .int v1)]) (S' := [.int 1]) rfl ?_
      exact zco_zret rfl rfl rfl (zdk (cc := cX1_isThere) (q := (42, .ireturn, 1)) tkX1_isThere 24 rfl)
theorem mtX1_isThere (l : Launch) (d : Nat) (hd : 1 ≤ d) (v0 : Nat) (v1 : Int32) : zMet l d 0 0 yX1_isThere cX1_isThere 2 (Option.some .boolean) [.ref v0, .int v1] (X1_isThere v0 v1) := by
  obtain ⟨e, rfl⟩ : ∃ e, d = e + 1 := ⟨d - 1, by omega⟩
  exact zmet_of (own := RX1) (ini := false) (by decide +kernel) rfl (fun _ => by contradiction) (Nat.le_of_ble_eq_true rfl) (coX1_isThere l e (by omega) v0 v1)
abbrev iX1_named : zI := (RX1, cX1_named, 5, (Option.some .int), false)
def tX1_named : List (Nat × Instr × Nat) := [(0, .iconst 0, 1), (1, .istore_n 2, 1), (2, .iload_n 2, 1), (3, .bipush 12, 2), (5, .if_icmp .ge 66, 3), (8, .aload_n 0, 1), (9, .iload_n 2, 1), (10, .invokevirtual 96, 3), (13, .istore_n 3, 1), (14, .iconst 0, 1), (15, .istore 4, 2), (17, .iload 4, 2), (19, .bipush 6, 2), (21, .if_icmp .ge 38, 3), (24, .iload_n 3, 1), (25, .ifCond .eq 34, 3), (28, .aload_n 0, 1), (29, .getfield 15, 3), (32, .iload_n 2, 1), (33, .bipush 6, 2), (35, .imul, 1), (36, .iload 4, 2), (38, .iadd, 1), (39, .iaload, 1), (40, .aload_n 1, 1), (41, .iload 4, 2), (43, .iaload, 1), (44, .if_icmp .ne 7, 3), (47, .iconst 1, 1), (48, .goto 4, 3), (51, .iconst 0, 1), (52, .istore_n 3, 1), (53, .iinc 4 1, 3), (56, .goto (-39), 3), (59, .iload_n 3, 1), (60, .ifCond .eq 5, 3), (63, .iload_n 2, 1), (64, .ireturn, 1), (65, .iinc 2 1, 3), (68, .goto (-66), 3), (71, .iconst (-1), 1), (72, .ireturn, 1)]
set_option maxRecDepth 100000 in
theorem tkX1_named : ∀ q ∈ tX1_named, decode cX1_named q.1 = .ok q.2 := by decide +kernel
theorem vmX1_named : zVM yX1_named cX1_named 5 (Option.some .int) 1 1 := ⟨kX1_named, q_770, q_771, q_153, ⟨_, rfl, rfl⟩, by decide +kernel, by decide⟩
def X1_named_J59 (r2 : Int32 → zM) (v0 : Nat) (v1 : Nat) (v2 : Int32) (v3 : Int32) : zM := z_if (v3 = 0) (r2 (v2 + 1))
   (z_ret (some (.int v2)))
set_option maxHeartbeats 2000000 in
set_option maxRecDepth 20000 in
theorem coX1_named_J59 (l : Launch) (e : Nat) (he : 1 ≤ e) (v0 : Nat) (v1 : Nat) (v2 : Int32) (v3 : Int32) (r2 : Int32 → zM) (hr2 : ∀ x : Int32, zCo l (e + 1) 0 0 iX1_named 2 [(0, .ref v0), (1, .ref v1), (2, .int x)] [] (r2 x)) : zCo l (e + 1) 0 0 iX1_named 59 [(0, .ref v0), (1, .ref v1), (2, .int v2), (3, .int v3)] [] (X1_named_J59 r2 v0 v1 v2 v3) := by
  unfold X1_named_J59
  refine zco_p tkX1_named 34 1 (pc' := 60) (L' := [(0, .ref v0), (1, .ref v1), (2, .int v2), (3, .int v3)]) (S' := [.int v3]) rfl ?_
  refine zco_if_eq (tgt := 65) (zdk (cc := cX1_named) (q := (60, .ifCond .eq 5, 3)) tkX1_named 35 rfl) rfl ?_ ?_
  · refine zco_p tkX1_named 38 2 (pc' := 2) (L' := [(2, .int (v2 + 1)), (0, .ref v0), (1, .ref v1), (3, .int v3)]) (S' := []) rfl ?_
    exact zco_sub [1, 2, 0] rfl (hr2 (v2 + 1))
  · refine zco_p tkX1_named 36 1 (pc' := 64) (L' := [(0, .ref v0), (1, .ref v1), (2, .int v2), (3, .int v3)]) (S' := [.int v2]) rfl ?_
    exact zco_iret rfl rfl rfl (zdk (cc := cX1_named) (q := (64, .ireturn, 1)) tkX1_named 37 rfl)
def X1_named_J52 (r2 : Int32 → zM) (r17 : Int32 × Int32 → zM) (v0 : Nat) (v1 : Nat) (v2 : Int32) (v4 : Int32) (s0 : Int32) : zM := r17 (s0, v4 + 1)
set_option maxHeartbeats 2000000 in
set_option maxRecDepth 20000 in
theorem coX1_named_J52 (l : Launch) (e : Nat) (he : 1 ≤ e) (v0 : Nat) (v1 : Nat) (v2 : Int32) (v4 : Int32) (r2 : Int32 → zM) (hr2 : ∀ x : Int32, zCo l (e + 1) 0 0 iX1_named 2 [(0, .ref v0), (1, .ref v1), (2, .int x)] [] (r2 x)) (r17 : Int32 × Int32 → zM) (hr17 : ∀ x : Int32 × Int32, zCo l (e + 1) 0 0 iX1_named 17 [(0, .ref v0), (1, .ref v1), (2, .int v2), (3, .int x.1), (4, .int x.2)] [] (r17 x)) (s0 : Int32) : zCo l (e + 1) 0 0 iX1_named 52 [(0, .ref v0), (1, .ref v1), (2, .int v2), (4, .int v4)] [.int s0] (X1_named_J52 r2 r17 v0 v1 v2 v4 s0) := by
  unfold X1_named_J52
  refine zco_p tkX1_named 31 3 (pc' := 17) (L' := [(4, .int (v4 + 1)), (3, .int s0), (0, .ref v0), (1, .ref v1), (2, .int v2)]) (S' := []) rfl ?_
  exact zco_sub [2, 3, 4, 1, 0] rfl (hr17 (s0, v4 + 1))
def X1_named_B17 (r2 : Int32 → zM) (v0 : Nat) (v1 : Nat) (v2 : Int32) (r17 : Int32 × Int32 → zM) (v3 : Int32) (v4 : Int32) : zM := z_if (6 ≤ v4) (X1_named_J59 r2 v0 v1 v2 v3)
   (z_if (v3 = 0) (X1_named_J59 r2 v0 v1 v2 v3)
   (z_gr 1 1 v0 fun x1 => z_la 20 x1 ((v2 * 6) + v4) fun x2 => z_la 20 v1 v4 fun x3 => z_if (x2 = x3) (X1_named_J52 r2 r17 v0 v1 v2 v4 1)
   (X1_named_J52 r2 r17 v0 v1 v2 v4 0)))
set_option maxHeartbeats 2000000 in
set_option maxRecDepth 20000 in
theorem coX1_named_B17 (l : Launch) (e : Nat) (he : 1 ≤ e) (v0 : Nat) (v1 : Nat) (v2 : Int32) (r2 : Int32 → zM) (hr2 : ∀ x : Int32, zCo l (e + 1) 0 0 iX1_named 2 [(0, .ref v0), (1, .ref v1), (2, .int x)] [] (r2 x)) (r17 : Int32 × Int32 → zM) (hr17 : ∀ x : Int32 × Int32, zCo l (e + 1) 0 0 iX1_named 17 [(0, .ref v0), (1, .ref v1), (2, .int v2), (3, .int x.1), (4, .int x.2)] [] (r17 x)) (v3 : Int32) (v4 : Int32) : zCo l (e + 1) 0 0 iX1_named 17 [(0, .ref v0), (1, .ref v1), (2, .int v2), (3, .int v3), (4, .int v4)] [] (X1_named_B17 r2 v0 v1 v2 r17 v3 v4) := by
  unfold X1_named_B17
  refine zco_p tkX1_named 11 2 (pc' := 21) (L' := [(0, .ref v0), (1, .ref v1), (2, .int v2), (3, .int v3), (4, .int v4)]) (S' := [.int 6, .int v4]) rfl ?_
  refine zco_icmp_ge (tgt := 59) (zdk (cc := cX1_named) (q := (21, .if_icmp .ge 38, 3)) tkX1_named 13 rfl) rfl ?_ ?_
  · exact zco_sub [0, 1, 2, 3] rfl (coX1_named_J59 l e he v0 v1 v2 v3 r2 hr2)
  · refine zco_p tkX1_named 14 1 (pc' := 25) (L' := [(0, .ref v0), (1, .ref v1), (2, .int v2), (3, .int v3), (4, .int v4)]) (S' := [.int v3]) rfl ?_
    refine zco_if_eq (tgt := 59) (zdk (cc := cX1_named) (q := (25, .ifCond .eq 34, 3)) tkX1_named 15 rfl) rfl ?_ ?_
    · exact zco_sub [0, 1, 2, 3] rfl (coX1_named_J59 l e he v0 v1 v2 v3 r2 hr2)
    · refine zco_p tkX1_named 16 1 (pc' := 29) (L' := [(0, .ref v0), (1, .ref v1), (2, .int v2), (3, .int v3), (4, .int v4)]) (S' := [.ref v0]) rfl ?_
      refine zco_gr fl_1_15 rfl (zdk (cc := cX1_named) (q := (29, .getfield 15, 3)) tkX1_named 17 rfl) (fun x1 => ?_)
      refine zco_p tkX1_named 18 5 (pc' := 39) (L' := [(0, .ref v0), (1, .ref v1), (2, .int v2), (3, .int v3), (4, .int v4)]) (S' := [.int ((v2 * 6) + v4), .ref x1]) rfl ?_
      refine zco_iaload (zdk (cc := cX1_named) (q := (39, .iaload, 1)) tkX1_named 23 rfl) (fun x2 => ?_)
      refine zco_p tkX1_named 24 2 (pc' := 43) (L' := [(0, .ref v0), (1, .ref v1), (2, .int v2), (3, .int v3), (4, .int v4)]) (S' := [.int v4, .ref v1, .int x2]) rfl ?_
      refine zco_iaload (zdk (cc := cX1_named) (q := (43, .iaload, 1)) tkX1_named 26 rfl) (fun x3 => ?_)
      refine zco_icmp_ne (tgt := 51) (zdk (cc := cX1_named) (q := (44, .if_icmp .ne 7, 3)) tkX1_named 27 rfl) rfl ?_ ?_
      · refine zco_p tkX1_named 30 1 (pc' := 52) (L' := [(0, .ref v0), (1, .ref v1), (2, .int v2), (3, .int v3), (4, .int v4)]) (S' := [.int 0]) rfl ?_
        exact zco_sub [0, 1, 2, 4] rfl (coX1_named_J52 l e he v0 v1 v2 v4 r2 hr2 r17 hr17 0)
      · refine zco_p tkX1_named 28 2 (pc' := 52) (L' := [(0, .ref v0), (1, .ref v1), (2, .int v2), (3, .int v3), (4, .int v4)]) (S' := [.int 1]) rfl ?_
        exact zco_sub [0, 1, 2, 4] rfl (coX1_named_J52 l e he v0 v1 v2 v4 r2 hr2 r17 hr17 1)
def X1_named_B2 (v0 : Nat) (v1 : Nat) (r2 : Int32 → zM) (v2 : Int32) : zM := z_if (12 ≤ v2) (z_ret (some (.int ((-1)))))
   (z_rc 1 v0 (z_ci (X1_isThere v0 v2) fun y1 => z_fix (fun r x => X1_named_B17 r2 v0 v1 v2 r x.1 x.2) zFU (y1, 0)))
set_option maxHeartbeats 2000000 in
set_option maxRecDepth 20000 in
theorem coX1_named_B2 (l : Launch) (e : Nat) (he : 1 ≤ e) (v0 : Nat) (v1 : Nat) (r2 : Int32 → zM) (hr2 : ∀ x : Int32, zCo l (e + 1) 0 0 iX1_named 2 [(0, .ref v0), (1, .ref v1), (2, .int x)] [] (r2 x)) (v2 : Int32) : zCo l (e + 1) 0 0 iX1_named 2 [(0, .ref v0), (1, .ref v1), (2, .int v2)] [] (X1_named_B2 v0 v1 r2 v2) := by
  unfold X1_named_B2
  refine zco_p tkX1_named 2 2 (pc' := 5) (L' := [(0, .ref v0), (1, .ref v1), (2, .int v2)]) (S' := [.int 12, .int v2]) rfl ?_
  refine zco_icmp_ge (tgt := 71) (zdk (cc := cX1_named) (q := (5, .if_icmp .ge 66, 3)) tkX1_named 4 rfl) rfl ?_ ?_
  · refine zco_p tkX1_named 40 1 (pc' := 72) (L' := [(0, .ref v0), (1, .ref v1), (2, .int v2)]) (S' := [.int ((-1))]) rfl ?_
    exact zco_iret rfl rfl rfl (zdk (cc := cX1_named) (q := (72, .ireturn, 1)) tkX1_named 41 rfl)
  · refine zco_p tkX1_named 5 2 (pc' := 10) (L' := [(0, .ref v0), (1, .ref v1), (2, .int v2)]) (S' := [.int v2, .ref v0]) rfl ?_
    refine zco_Vi (rc := 0) (rs := 0) (mc := 0) (ms := 0) (As := [.int v2]) (S := []) vmX1_isThere (mtX1_isThere l e (by omega) v0 v2) q_773 rfl rfl (Nat.le_of_ble_eq_true rfl) (zdk (cc := cX1_named) (q := (10, .invokevirtual 96, 3)) tkX1_named 7 rfl) (fun y1 => ?_)
    refine zco_p tkX1_named 8 3 (pc' := 17) (L' := [(4, .int 0), (3, .int y1), (0, .ref v0), (1, .ref v1), (2, .int v2)]) (S' := []) rfl ?_
    exact zco_sub [2, 3, 4, 1, 0] rfl (zco_fix (Lf := fun x : Int32 × Int32 => [(0, .ref v0), (1, .ref v1), (2, .int v2), (3, .int x.1), (4, .int x.2)]) (Sf := fun _ => []) (fun r hr x => coX1_named_B17 l e he v0 v1 v2 r2 hr2 r hr x.1 x.2) zFU (y1, 0))
def X1_named (v0 : Nat) (v1 : Nat) : zM := z_fix (fun r x => X1_named_B2 v0 v1 r x) zFU 0
set_option maxHeartbeats 2000000 in
set_option maxRecDepth 20000 in
theorem coX1_named (l : Launch) (e : Nat) (he : 1 ≤ e) (v0 : Nat) (v1 : Nat) : zCo l (e + 1) 0 0 iX1_named 0 [(0, .ref v0), (1, .ref v1)] [] (X1_named v0 v1) := by
  unfold X1_named
  refine zco_p tkX1_named 0 2 (pc' := 2) (L' := [(2, .int 0), (0, .ref v0), (1, .ref v1)]) (S' := []) rfl ?_
  exact zco_sub [1, 2, 0] rfl (zco_fix (Lf := fun x : Int32 => [(0, .ref v0), (1, .ref v1), (2, .int x)]) (Sf := fun _ => []) (fun r hr x => coX1_named_B2 l e he v0 v1 r hr x) zFU 0)
theorem mtX1_named (l : Launch) (d : Nat) (hd : 2 ≤ d) (v0 : Nat) (v1 : Nat) : zMet l d 0 0 yX1_named cX1_named 5 (Option.some .int) [.ref v0, .ref v1] (X1_named v0 v1) := by
  obtain ⟨e, rfl⟩ : ∃ e, d = e + 1 := ⟨d - 1, by omega⟩
  exact zmet_of (own := RX1) (ini := false) (by decide +kernel) rfl (fun _ => by contradiction) (Nat.le_of_ble_eq_true rfl) (coX1_named l e (by omega) v0 v1)
abbrev iX9_takeWord : zI := (RX9, cX9_takeWord, 3, (Option.some .boolean), false)
def tX9_takeWord : List (Nat × Instr × Nat) := [(0, .aload_n 0, 1), (1, .invokevirtual 54, 3), (4, .istore_n 2, 1), (5, .iload_n 2, 1), (6, .aload_n 1, 1), (7, .invokevirtual 61, 3), (10, .if_icmp .ne 13, 3), (13, .aload_n 0, 1), (14, .aload_n 1, 1), (15, .iload_n 2, 1), (16, .invokevirtual 57, 3), (19, .iconst (-1), 1), (20, .if_icmp .ne 5, 3), (23, .iconst 0, 1), (24, .ireturn, 1), (25, .aload_n 0, 1), (26, .dup, 1), (27, .getfield 15, 3), (30, .iload_n 2, 1), (31, .iadd, 1), (32, .putfield 15, 3), (35, .iconst 1, 1), (36, .ireturn, 1)]
set_option maxRecDepth 100000 in
theorem tkX9_takeWord : ∀ q ∈ tX9_takeWord, decode cX9_takeWord q.1 = .ok q.2 := by decide +kernel
theorem vmX9_takeWord : zVM yX9_takeWord cX9_takeWord 3 (Option.some .boolean) 1 9 := ⟨kX9_takeWord, q_783, q_784, q_148, ⟨_, rfl, rfl⟩, by decide +kernel, by decide⟩
def X9_takeWord (v0 : Nat) (v1 : Nat) : zM := z_rc 9 v0 (z_ci (X9_wordLength v0) fun y1 => z_slen v1 fun x2 => z_if (y1 = x2) (z_rc 9 v0 (z_ci (X9_listed v0 v1 y1) fun y3 => z_if (y3 = ((-1))) (z_rb 0)
   (z_gi 9 2 v0 fun x4 => z_pi 9 2 v0 (x4 + y1) (z_rb 1))))
   (z_rb 0))
set_option maxHeartbeats 2000000 in
set_option maxRecDepth 20000 in
theorem coX9_takeWord (l : Launch) (e : Nat) (he : 9 ≤ e) (v0 : Nat) (v1 : Nat) : zCo l (e + 1) 0 0 iX9_takeWord 0 [(0, .ref v0), (1, .ref v1)] [] (X9_takeWord v0 v1) := by
  unfold X9_takeWord
  refine zco_p tkX9_takeWord 0 1 (pc' := 1) (L' := [(0, .ref v0), (1, .ref v1)]) (S' := [.ref v0]) rfl ?_
  refine zco_Vi (rc := 0) (rs := 0) (mc := 0) (ms := 0) (As := []) (S := []) vmX9_wordLength (mtX9_wordLength l e (by omega) v0) q_688 rfl rfl (Nat.le_of_ble_eq_true rfl) (zdk (cc := cX9_takeWord) (q := (1, .invokevirtual 54, 3)) tkX9_takeWord 1 rfl) (fun y1 => ?_)
  refine zco_p tkX9_takeWord 2 3 (pc' := 7) (L' := [(2, .int y1), (0, .ref v0), (1, .ref v1)]) (S' := [.ref v1, .int y1]) rfl ?_
  refine zco_slen (by omega) q_707 (Nat.le_of_ble_eq_true rfl) (zdk (cc := cX9_takeWord) (q := (7, .invokevirtual 61, 3)) tkX9_takeWord 5 rfl) (fun x2 => ?_)
  refine zco_icmp_ne (tgt := 23) (zdk (cc := cX9_takeWord) (q := (10, .if_icmp .ne 13, 3)) tkX9_takeWord 6 rfl) rfl ?_ ?_
  · refine zco_p tkX9_takeWord 13 1 (pc' := 24) (L' := [(2, .int y1), (0, .ref v0), (1, .ref v1)]) (S' := [.int 0]) rfl ?_
    exact zco_zret rfl rfl rfl (zdk (cc := cX9_takeWord) (q := (24, .ireturn, 1)) tkX9_takeWord 14 rfl)
  · refine zco_p tkX9_takeWord 7 3 (pc' := 16) (L' := [(2, .int y1), (0, .ref v0), (1, .ref v1)]) (S' := [.int y1, .ref v1, .ref v0]) rfl ?_
    refine zco_Vi (rc := 0) (rs := 0) (mc := 0) (ms := 0) (As := [.ref v1, .int y1]) (S := []) vmX9_listed (mtX9_listed l e (by omega) v0 v1 y1) q_703 rfl rfl (Nat.le_of_ble_eq_true rfl) (zdk (cc := cX9_takeWord) (q := (16, .invokevirtual 57, 3)) tkX9_takeWord 10 rfl) (fun y3 => ?_)
    refine zco_p tkX9_takeWord 11 1 (pc' := 20) (L' := [(2, .int y1), (0, .ref v0), (1, .ref v1)]) (S' := [.int ((-1)), .int y3]) rfl ?_
    refine zco_icmp_ne (tgt := 25) (zdk (cc := cX9_takeWord) (q := (20, .if_icmp .ne 5, 3)) tkX9_takeWord 12 rfl) rfl ?_ ?_
    · refine zco_p tkX9_takeWord 15 2 (pc' := 27) (L' := [(2, .int y1), (0, .ref v0), (1, .ref v1)]) (S' := [.ref v0, .ref v0]) rfl ?_
      refine zco_gi fl_9_15 rfl (zdk (cc := cX9_takeWord) (q := (27, .getfield 15, 3)) tkX9_takeWord 17 rfl) (fun x4 => ?_)
      refine zco_p tkX9_takeWord 18 2 (pc' := 32) (L' := [(2, .int y1), (0, .ref v0), (1, .ref v1)]) (S' := [.int (x4 + y1), .ref v0]) rfl ?_
      refine zco_pi fl_9_15 rfl rfl (zdk (cc := cX9_takeWord) (q := (32, .putfield 15, 3)) tkX9_takeWord 20 rfl) ?_
      refine zco_p tkX9_takeWord 21 1 (pc' := 36) (L' := [(2, .int y1), (0, .ref v0), (1, .ref v1)]) (S' := [.int 1]) rfl ?_
      exact zco_zret rfl rfl rfl (zdk (cc := cX9_takeWord) (q := (36, .ireturn, 1)) tkX9_takeWord 22 rfl)
    · refine zco_p tkX9_takeWord 13 1 (pc' := 24) (L' := [(2, .int y1), (0, .ref v0), (1, .ref v1)]) (S' := [.int 0]) rfl ?_
      exact zco_zret rfl rfl rfl (zdk (cc := cX9_takeWord) (q := (24, .ireturn, 1)) tkX9_takeWord 14 rfl)
theorem mtX9_takeWord (l : Launch) (d : Nat) (hd : 10 ≤ d) (v0 : Nat) (v1 : Nat) : zMet l d 0 0 yX9_takeWord cX9_takeWord 3 (Option.some .boolean) [.ref v0, .ref v1] (X9_takeWord v0 v1) := by
  obtain ⟨e, rfl⟩ : ∃ e, d = e + 1 := ⟨d - 1, by omega⟩
  exact zmet_of (own := RX9) (ini := false) (by decide +kernel) rfl (fun _ => by contradiction) (Nat.le_of_ble_eq_true rfl) (coX9_takeWord l e (by omega) v0 v1)
abbrev iX9_needWord : zI := (RX9, cX9_needWord, 2, (Option.none : Option FieldType), false)
def tX9_needWord : List (Nat × Instr × Nat) := [(0, .aload_n 0, 1), (1, .aload_n 1, 1), (2, .invokevirtual 69, 3), (5, .ifCond .ne 12, 3), (8, .aload_n 0, 1), (9, .iconst 1, 1), (10, .aload_n 0, 1), (11, .getfield 15, 3), (14, .invokevirtual 44, 3), (17, .return_, 1)]
set_option maxRecDepth 100000 in
theorem tkX9_needWord : ∀ q ∈ tX9_needWord, decode cX9_needWord q.1 = .ok q.2 := by decide +kernel
theorem vmX9_needWord : zVM yX9_needWord cX9_needWord 2 (Option.none : Option FieldType) 1 9 := ⟨kX9_needWord, q_779, q_780, q_148, ⟨_, rfl, rfl⟩, by decide +kernel, by decide⟩
def X9_needWord (v0 : Nat) (v1 : Nat) : zM := z_rc 9 v0 (z_ci (X9_takeWord v0 v1) fun y1 => z_if (y1 = 0) (z_gi 9 2 v0 fun x2 => z_rc 9 v0 (z_cv (X9_fail v0 1 x2) (z_ret none)))
   (z_ret none))
set_option maxHeartbeats 2000000 in
set_option maxRecDepth 20000 in
theorem coX9_needWord (l : Launch) (e : Nat) (he : 10 ≤ e) (v0 : Nat) (v1 : Nat) : zCo l (e + 1) 0 0 iX9_needWord 0 [(0, .ref v0), (1, .ref v1)] [] (X9_needWord v0 v1) := by
  unfold X9_needWord
  refine zco_p tkX9_needWord 0 2 (pc' := 2) (L' := [(0, .ref v0), (1, .ref v1)]) (S' := [.ref v1, .ref v0]) rfl ?_
  refine zco_Vi (rc := 0) (rs := 0) (mc := 0) (ms := 0) (As := [.ref v1]) (S := []) vmX9_takeWord (mtX9_takeWord l e (by omega) v0 v1) q_782 rfl rfl (Nat.le_of_ble_eq_true rfl) (zdk (cc := cX9_needWord) (q := (2, .invokevirtual 69, 3)) tkX9_needWord 2 rfl) (fun y1 => ?_)
  refine zco_if_ne (tgt := 17) (zdk (cc := cX9_needWord) (q := (5, .ifCond .ne 12, 3)) tkX9_needWord 3 rfl) rfl ?_ ?_
  · exact zco_vret rfl rfl rfl (zdk (cc := cX9_needWord) (q := (17, .return_, 1)) tkX9_needWord 9 rfl)
  · refine zco_p tkX9_needWord 4 3 (pc' := 11) (L' := [(0, .ref v0), (1, .ref v1)]) (S' := [.ref v0, .int 1, .ref v0]) rfl ?_
    refine zco_gi fl_9_15 rfl (zdk (cc := cX9_needWord) (q := (11, .getfield 15, 3)) tkX9_needWord 7 rfl) (fun x2 => ?_)
    refine zco_Vv (rc := 0) (rs := 0) (mc := 0) (ms := 0) (As := [.int 1, .int x2]) (S := []) vmX9_fail (mtX9_fail l e (by omega) v0 1 x2) q_768 rfl rfl (Nat.le_of_ble_eq_true rfl) (zdk (cc := cX9_needWord) (q := (14, .invokevirtual 44, 3)) tkX9_needWord 8 rfl) ?_
    exact zco_vret rfl rfl rfl (zdk (cc := cX9_needWord) (q := (17, .return_, 1)) tkX9_needWord 9 rfl)
theorem mtX9_needWord (l : Launch) (d : Nat) (hd : 11 ≤ d) (v0 : Nat) (v1 : Nat) : zMet l d 0 0 yX9_needWord cX9_needWord 2 (Option.none : Option FieldType) [.ref v0, .ref v1] (X9_needWord v0 v1) := by
  obtain ⟨e, rfl⟩ : ∃ e, d = e + 1 := ⟨d - 1, by omega⟩
  exact zmet_of (own := RX9) (ini := false) (by decide +kernel) rfl (fun _ => by contradiction) (Nat.le_of_ble_eq_true rfl) (coX9_needWord l e (by omega) v0 v1)
abbrev iX9_takeNumber : zI := (RX9, cX9_takeNumber, 6, (Option.some .int), false)
def tX9_takeNumber : List (Nat × Instr × Nat) := [(0, .aload_n 0, 1), (1, .invokevirtual 28, 3), (4, .istore_n 3, 1), (5, .aload_n 0, 1), (6, .iload_n 3, 1), (7, .invokevirtual 36, 3), (10, .invokestatic 48, 3), (13, .ifCond .eq 16, 3), (16, .aload_n 0, 1), (17, .iload_n 3, 1), (18, .iconst 1, 1), (19, .isub, 1), (20, .invokevirtual 36, 3), (23, .invokestatic 51, 3), (26, .ifCond .eq 11, 3), (29, .aload_n 0, 1), (30, .iconst 1, 1), (31, .iload_n 3, 1), (32, .invokevirtual 44, 3), (35, .iload_n 1, 1), (36, .ireturn, 1), (37, .iconst 0, 1), (38, .istore 4, 2), (40, .iload_n 3, 1), (41, .istore 5, 2), (43, .iload 5, 2), (45, .iload_n 3, 1), (46, .iconst 4, 1), (47, .iadd, 1), (48, .if_icmp .ge 38, 3), (51, .aload_n 0, 1), (52, .iload 5, 2), (54, .invokevirtual 36, 3), (57, .invokestatic 48, 3), (60, .ifCond .eq 26, 3), (63, .iload 4, 2), (65, .bipush 10, 2), (67, .imul, 1), (68, .aload_n 0, 1), (69, .iload 5, 2), (71, .invokevirtual 36, 3), (74, .iadd, 1), (75, .bipush 48, 2), (77, .isub, 1), (78, .istore 4, 2), (80, .iinc 5 1, 3), (83, .goto (-40), 3), (86, .aload_n 0, 1), (87, .iload 5, 2), (89, .invokevirtual 36, 3), (92, .invokestatic 48, 3), (95, .ifCond .eq 13, 3), (98, .aload_n 0, 1), (99, .iconst 1, 1), (100, .iload 5, 2), (102, .invokevirtual 44, 3), (105, .goto 21, 3), (108, .iload 4, 2), (110, .iload_n 1, 1), (111, .if_icmp .lt 9, 3), (114, .iload 4, 2), (116, .iload_n 2, 1), (117, .if_icmp .le 9, 3), (120, .aload_n 0, 1), (121, .iconst 2, 1), (122, .iload_n 3, 1), (123, .invokevirtual 44, 3), (126, .aload_n 0, 1), (127, .iload 5, 2), (129, .putfield 15, 3), (132, .aload_n 0, 1), (133, .invokevirtual 32, 3), (136, .ifCond .eq 8, 3), (139, .iload 4, 2), (141, .goto 4, 3), (144, .iload_n 1, 1), (145, .ireturn, 1)]
set_option maxRecDepth 100000 in
theorem tkX9_takeNumber : ∀ q ∈ tX9_takeNumber, decode cX9_takeNumber q.1 = .ok q.2 := by decide +kernel
theorem vmX9_takeNumber : zVM yX9_takeNumber cX9_takeNumber 6 (Option.some .int) 2 9 := ⟨kX9_takeNumber, q_787, q_788, q_148, ⟨_, rfl, rfl⟩, by decide +kernel, by decide⟩
def X9_takeNumber_J126 (v0 : Nat) (v1 : Int32) (v4 : Int32) (v5 : Int32) : zM := z_pi 9 2 v0 v5 (z_rc 9 v0 (z_ci (X9_sound v0) fun y1 => z_if (y1 = 0) (z_ret (some (.int v1)))
   (z_ret (some (.int v4)))))
set_option maxHeartbeats 2000000 in
set_option maxRecDepth 20000 in
theorem coX9_takeNumber_J126 (l : Launch) (e : Nat) (he : 1 ≤ e) (v0 : Nat) (v1 : Int32) (v4 : Int32) (v5 : Int32) : zCo l (e + 1) 0 0 iX9_takeNumber 126 [(0, .ref v0), (1, .int v1), (4, .int v4), (5, .int v5)] [] (X9_takeNumber_J126 v0 v1 v4 v5) := by
  unfold X9_takeNumber_J126
  refine zco_p tkX9_takeNumber 67 2 (pc' := 129) (L' := [(0, .ref v0), (1, .int v1), (4, .int v4), (5, .int v5)]) (S' := [.int v5, .ref v0]) rfl ?_
  refine zco_pi fl_9_15 rfl rfl (zdk (cc := cX9_takeNumber) (q := (129, .putfield 15, 3)) tkX9_takeNumber 69 rfl) ?_
  refine zco_p tkX9_takeNumber 70 1 (pc' := 133) (L' := [(0, .ref v0), (1, .int v1), (4, .int v4), (5, .int v5)]) (S' := [.ref v0]) rfl ?_
  refine zco_Vi (rc := 0) (rs := 0) (mc := 0) (ms := 0) (As := []) (S := []) vmX9_sound (mtX9_sound l e (by omega) v0) q_692 rfl rfl (Nat.le_of_ble_eq_true rfl) (zdk (cc := cX9_takeNumber) (q := (133, .invokevirtual 32, 3)) tkX9_takeNumber 71 rfl) (fun y1 => ?_)
  refine zco_if_eq (tgt := 144) (zdk (cc := cX9_takeNumber) (q := (136, .ifCond .eq 8, 3)) tkX9_takeNumber 72 rfl) rfl ?_ ?_
  · refine zco_p tkX9_takeNumber 75 1 (pc' := 145) (L' := [(0, .ref v0), (1, .int v1), (4, .int v4), (5, .int v5)]) (S' := [.int v1]) rfl ?_
    exact zco_iret rfl rfl rfl (zdk (cc := cX9_takeNumber) (q := (145, .ireturn, 1)) tkX9_takeNumber 76 rfl)
  · refine zco_p tkX9_takeNumber 73 2 (pc' := 145) (L' := [(0, .ref v0), (1, .int v1), (4, .int v4), (5, .int v5)]) (S' := [.int v4]) rfl ?_
    exact zco_iret rfl rfl rfl (zdk (cc := cX9_takeNumber) (q := (145, .ireturn, 1)) tkX9_takeNumber 76 rfl)
def X9_takeNumber_J120 (v0 : Nat) (v1 : Int32) (v3 : Int32) (v4 : Int32) (v5 : Int32) : zM := z_rc 9 v0 (z_cv (X9_fail v0 2 v3) (X9_takeNumber_J126 v0 v1 v4 v5))
set_option maxHeartbeats 2000000 in
set_option maxRecDepth 20000 in
theorem coX9_takeNumber_J120 (l : Launch) (e : Nat) (he : 1 ≤ e) (v0 : Nat) (v1 : Int32) (v3 : Int32) (v4 : Int32) (v5 : Int32) : zCo l (e + 1) 0 0 iX9_takeNumber 120 [(0, .ref v0), (1, .int v1), (3, .int v3), (4, .int v4), (5, .int v5)] [] (X9_takeNumber_J120 v0 v1 v3 v4 v5) := by
  unfold X9_takeNumber_J120
  refine zco_p tkX9_takeNumber 63 3 (pc' := 123) (L' := [(0, .ref v0), (1, .int v1), (3, .int v3), (4, .int v4), (5, .int v5)]) (S' := [.int v3, .int 2, .ref v0]) rfl ?_
  refine zco_Vv (rc := 0) (rs := 0) (mc := 0) (ms := 0) (As := [.int 2, .int v3]) (S := []) vmX9_fail (mtX9_fail l e (by omega) v0 2 v3) q_768 rfl rfl (Nat.le_of_ble_eq_true rfl) (zdk (cc := cX9_takeNumber) (q := (123, .invokevirtual 44, 3)) tkX9_takeNumber 66 rfl) ?_
  exact zco_sub [0, 1, 3, 4] rfl (coX9_takeNumber_J126 l e he v0 v1 v4 v5)
def X9_takeNumber_J86 (v0 : Nat) (v1 : Int32) (v2 : Int32) (v3 : Int32) (v4 : Int32) (v5 : Int32) : zM := z_rc 9 v0 (z_ci (X9_byteAt v0 v5) fun y1 => z_ci (X11_isDigit y1) fun y2 => z_if (y2 = 0) (z_if (v4 < v1) (X9_takeNumber_J120 v0 v1 v3 v4 v5)
   (z_if (v4 ≤ v2) (X9_takeNumber_J126 v0 v1 v4 v5)
   (X9_takeNumber_J120 v0 v1 v3 v4 v5)))
   (z_rc 9 v0 (z_cv (X9_fail v0 1 v5) (X9_takeNumber_J126 v0 v1 v4 v5))))
set_option maxHeartbeats 2000000 in
set_option maxRecDepth 20000 in
theorem coX9_takeNumber_J86 (l : Launch) (e : Nat) (he : 1 ≤ e) (v0 : Nat) (v1 : Int32) (v2 : Int32) (v3 : Int32) (v4 : Int32) (v5 : Int32) : zCo l (e + 1) 0 0 iX9_takeNumber 86 [(0, .ref v0), (1, .int v1), (2, .int v2), (3, .int v3), (4, .int v4), (5, .int v5)] [] (X9_takeNumber_J86 v0 v1 v2 v3 v4 v5) := by
  unfold X9_takeNumber_J86
  refine zco_p tkX9_takeNumber 47 2 (pc' := 89) (L' := [(0, .ref v0), (1, .int v1), (2, .int v2), (3, .int v3), (4, .int v4), (5, .int v5)]) (S' := [.int v5, .ref v0]) rfl ?_
  refine zco_Vi (rc := 0) (rs := 0) (mc := 0) (ms := 0) (As := [.int v5]) (S := []) vmX9_byteAt (mtX9_byteAt l e (by omega) v0 v5) q_693 rfl rfl (Nat.le_of_ble_eq_true rfl) (zdk (cc := cX9_takeNumber) (q := (89, .invokevirtual 36, 3)) tkX9_takeNumber 49 rfl) (fun y1 => ?_)
  refine zco_Ni (rc := 0) (rs := 0) (mc := 0) (ms := 0) (As := [.int y1]) (S := []) vmX11_isDigit (mtX11_isDigit l e (by omega) y1) (host := "ClothWedding") (by decide +kernel) rfl rfl (Nat.le_of_ble_eq_true rfl) (zdk (cc := cX9_takeNumber) (q := (92, .invokestatic 48, 3)) tkX9_takeNumber 50 rfl) (fun y2 => ?_)
  refine zco_if_eq (tgt := 108) (zdk (cc := cX9_takeNumber) (q := (95, .ifCond .eq 13, 3)) tkX9_takeNumber 51 rfl) rfl ?_ ?_
  · refine zco_p tkX9_takeNumber 57 2 (pc' := 111) (L' := [(0, .ref v0), (1, .int v1), (2, .int v2), (3, .int v3), (4, .int v4), (5, .int v5)]) (S' := [.int v1, .int v4]) rfl ?_
    refine zco_icmp_lt (tgt := 120) (zdk (cc := cX9_takeNumber) (q := (111, .if_icmp .lt 9, 3)) tkX9_takeNumber 59 rfl) rfl ?_ ?_
    · exact zco_sub [0, 1, 3, 4, 5] rfl (coX9_takeNumber_J120 l e he v0 v1 v3 v4 v5)
    · refine zco_p tkX9_takeNumber 60 2 (pc' := 117) (L' := [(0, .ref v0), (1, .int v1), (2, .int v2), (3, .int v3), (4, .int v4), (5, .int v5)]) (S' := [.int v2, .int v4]) rfl ?_
      refine zco_icmp_le (tgt := 126) (zdk (cc := cX9_takeNumber) (q := (117, .if_icmp .le 9, 3)) tkX9_takeNumber 62 rfl) rfl ?_ ?_
      · exact zco_sub [0, 1, 4, 5] rfl (coX9_takeNumber_J126 l e he v0 v1 v4 v5)
      · exact zco_sub [0, 1, 3, 4, 5] rfl (coX9_takeNumber_J120 l e he v0 v1 v3 v4 v5)
  · refine zco_p tkX9_takeNumber 52 3 (pc' := 102) (L' := [(0, .ref v0), (1, .int v1), (2, .int v2), (3, .int v3), (4, .int v4), (5, .int v5)]) (S' := [.int v5, .int 1, .ref v0]) rfl ?_
    refine zco_Vv (rc := 0) (rs := 0) (mc := 0) (ms := 0) (As := [.int 1, .int v5]) (S := []) vmX9_fail (mtX9_fail l e (by omega) v0 1 v5) q_768 rfl rfl (Nat.le_of_ble_eq_true rfl) (zdk (cc := cX9_takeNumber) (q := (102, .invokevirtual 44, 3)) tkX9_takeNumber 55 rfl) ?_
    refine zco_p tkX9_takeNumber 56 1 (pc' := 126) (L' := [(0, .ref v0), (1, .int v1), (2, .int v2), (3, .int v3), (4, .int v4), (5, .int v5)]) (S' := []) rfl ?_
    exact zco_sub [0, 1, 4, 5] rfl (coX9_takeNumber_J126 l e he v0 v1 v4 v5)
def X9_takeNumber_B43 (v0 : Nat) (v1 : Int32) (v2 : Int32) (v3 : Int32) (r43 : Int32 × Int32 → zM) (v4 : Int32) (v5 : Int32) : zM := z_if ((v3 + 4) ≤ v5) (X9_takeNumber_J86 v0 v1 v2 v3 v4 v5)
   (z_rc 9 v0 (z_ci (X9_byteAt v0 v5) fun y1 => z_ci (X11_isDigit y1) fun y2 => z_if (y2 = 0) (X9_takeNumber_J86 v0 v1 v2 v3 v4 v5)
   (z_rc 9 v0 (z_ci (X9_byteAt v0 v5) fun y3 => r43 (((v4 * 10) + y3) - 48, v5 + 1)))))
set_option maxHeartbeats 2000000 in
set_option maxRecDepth 20000 in
theorem coX9_takeNumber_B43 (l : Launch) (e : Nat) (he : 1 ≤ e) (v0 : Nat) (v1 : Int32) (v2 : Int32) (v3 : Int32) (r43 : Int32 × Int32 → zM) (hr43 : ∀ x : Int32 × Int32, zCo l (e + 1) 0 0 iX9_takeNumber 43 [(0, .ref v0), (1, .int v1), (2, .int v2), (3, .int v3), (4, .int x.1), (5, .int x.2)] [] (r43 x)) (v4 : Int32) (v5 : Int32) : zCo l (e + 1) 0 0 iX9_takeNumber 43 [(0, .ref v0), (1, .int v1), (2, .int v2), (3, .int v3), (4, .int v4), (5, .int v5)] [] (X9_takeNumber_B43 v0 v1 v2 v3 r43 v4 v5) := by
  unfold X9_takeNumber_B43
  refine zco_p tkX9_takeNumber 25 4 (pc' := 48) (L' := [(0, .ref v0), (1, .int v1), (2, .int v2), (3, .int v3), (4, .int v4), (5, .int v5)]) (S' := [.int (v3 + 4), .int v5]) rfl ?_
  refine zco_icmp_ge (tgt := 86) (zdk (cc := cX9_takeNumber) (q := (48, .if_icmp .ge 38, 3)) tkX9_takeNumber 29 rfl) rfl ?_ ?_
  · exact zco_sub [0, 1, 2, 3, 4, 5] rfl (coX9_takeNumber_J86 l e he v0 v1 v2 v3 v4 v5)
  · refine zco_p tkX9_takeNumber 30 2 (pc' := 54) (L' := [(0, .ref v0), (1, .int v1), (2, .int v2), (3, .int v3), (4, .int v4), (5, .int v5)]) (S' := [.int v5, .ref v0]) rfl ?_
    refine zco_Vi (rc := 0) (rs := 0) (mc := 0) (ms := 0) (As := [.int v5]) (S := []) vmX9_byteAt (mtX9_byteAt l e (by omega) v0 v5) q_693 rfl rfl (Nat.le_of_ble_eq_true rfl) (zdk (cc := cX9_takeNumber) (q := (54, .invokevirtual 36, 3)) tkX9_takeNumber 32 rfl) (fun y1 => ?_)
    refine zco_Ni (rc := 0) (rs := 0) (mc := 0) (ms := 0) (As := [.int y1]) (S := []) vmX11_isDigit (mtX11_isDigit l e (by omega) y1) (host := "ClothWedding") (by decide +kernel) rfl rfl (Nat.le_of_ble_eq_true rfl) (zdk (cc := cX9_takeNumber) (q := (57, .invokestatic 48, 3)) tkX9_takeNumber 33 rfl) (fun y2 => ?_)
    refine zco_if_eq (tgt := 86) (zdk (cc := cX9_takeNumber) (q := (60, .ifCond .eq 26, 3)) tkX9_takeNumber 34 rfl) rfl ?_ ?_
    · exact zco_sub [0, 1, 2, 3, 4, 5] rfl (coX9_takeNumber_J86 l e he v0 v1 v2 v3 v4 v5)
    · refine zco_p tkX9_takeNumber 35 5 (pc' := 71) (L' := [(0, .ref v0), (1, .int v1), (2, .int v2), (3, .int v3), (4, .int v4), (5, .int v5)]) (S' := [.int v5, .ref v0, .int (v4 * 10)]) rfl ?_
      refine zco_Vi (rc := 0) (rs := 0) (mc := 0) (ms := 0) (As := [.int v5]) (S := [.int (v4 * 10)]) vmX9_byteAt (mtX9_byteAt l e (by omega) v0 v5) q_693 rfl rfl (Nat.le_of_ble_eq_true rfl) (zdk (cc := cX9_takeNumber) (q := (71, .invokevirtual 36, 3)) tkX9_takeNumber 40 rfl) (fun y3 => ?_)
      refine zco_p tkX9_takeNumber 41 6 (pc' := 43) (L' := [(5, .int (v5 + 1)), (4, .int (((v4 * 10) + y3) - 48)), (0, .ref v0), (1, .int v1), (2, .int v2), (3, .int v3)]) (S' := []) rfl ?_
      exact zco_sub [2, 3, 4, 5, 1, 0] rfl (hr43 (((v4 * 10) + y3) - 48, v5 + 1))
def X9_takeNumber_J29 (v0 : Nat) (v1 : Int32) (v3 : Int32) : zM := z_rc 9 v0 (z_cv (X9_fail v0 1 v3) (z_ret (some (.int v1))))
set_option maxHeartbeats 2000000 in
set_option maxRecDepth 20000 in
theorem coX9_takeNumber_J29 (l : Launch) (e : Nat) (he : 1 ≤ e) (v0 : Nat) (v1 : Int32) (v3 : Int32) : zCo l (e + 1) 0 0 iX9_takeNumber 29 [(0, .ref v0), (1, .int v1), (3, .int v3)] [] (X9_takeNumber_J29 v0 v1 v3) := by
  unfold X9_takeNumber_J29
  refine zco_p tkX9_takeNumber 15 3 (pc' := 32) (L' := [(0, .ref v0), (1, .int v1), (3, .int v3)]) (S' := [.int v3, .int 1, .ref v0]) rfl ?_
  refine zco_Vv (rc := 0) (rs := 0) (mc := 0) (ms := 0) (As := [.int 1, .int v3]) (S := []) vmX9_fail (mtX9_fail l e (by omega) v0 1 v3) q_768 rfl rfl (Nat.le_of_ble_eq_true rfl) (zdk (cc := cX9_takeNumber) (q := (32, .invokevirtual 44, 3)) tkX9_takeNumber 18 rfl) ?_
  refine zco_p tkX9_takeNumber 19 1 (pc' := 36) (L' := [(0, .ref v0), (1, .int v1), (3, .int v3)]) (S' := [.int v1]) rfl ?_
  exact zco_iret rfl rfl rfl (zdk (cc := cX9_takeNumber) (q := (36, .ireturn, 1)) tkX9_takeNumber 20 rfl)
def X9_takeNumber (v0 : Nat) (v1 : Int32) (v2 : Int32) : zM := z_rc 9 v0 (z_ci (X9_begin v0) fun y1 => z_rc 9 v0 (z_ci (X9_byteAt v0 y1) fun y2 => z_ci (X11_isDigit y2) fun y3 => z_if (y3 = 0) (X9_takeNumber_J29 v0 v1 y1)
   (z_rc 9 v0 (z_ci (X9_byteAt v0 (y1 - 1)) fun y4 => z_ci (X11_isLetter y4) fun y5 => z_if (y5 = 0) (z_fix (fun r x => X9_takeNumber_B43 v0 v1 v2 y1 r x.1 x.2) zFU (0, y1))
   (X9_takeNumber_J29 v0 v1 y1)))))
set_option maxHeartbeats 2000000 in
set_option maxRecDepth 20000 in
theorem coX9_takeNumber (l : Launch) (e : Nat) (he : 1 ≤ e) (v0 : Nat) (v1 : Int32) (v2 : Int32) : zCo l (e + 1) 0 0 iX9_takeNumber 0 [(0, .ref v0), (1, .int v1), (2, .int v2)] [] (X9_takeNumber v0 v1 v2) := by
  unfold X9_takeNumber
  refine zco_p tkX9_takeNumber 0 1 (pc' := 1) (L' := [(0, .ref v0), (1, .int v1), (2, .int v2)]) (S' := [.ref v0]) rfl ?_
  refine zco_Vi (rc := 0) (rs := 0) (mc := 0) (ms := 0) (As := []) (S := []) vmX9_begin (mtX9_begin l e (by omega) v0) q_670 rfl rfl (Nat.le_of_ble_eq_true rfl) (zdk (cc := cX9_takeNumber) (q := (1, .invokevirtual 28, 3)) tkX9_takeNumber 1 rfl) (fun y1 => ?_)
  refine zco_p tkX9_takeNumber 2 3 (pc' := 7) (L' := [(3, .int y1), (0, .ref v0), (1, .int v1), (2, .int v2)]) (S' := [.int y1, .ref v0]) rfl ?_
  refine zco_Vi (rc := 0) (rs := 0) (mc := 0) (ms := 0) (As := [.int y1]) (S := []) vmX9_byteAt (mtX9_byteAt l e (by omega) v0 y1) q_693 rfl rfl (Nat.le_of_ble_eq_true rfl) (zdk (cc := cX9_takeNumber) (q := (7, .invokevirtual 36, 3)) tkX9_takeNumber 5 rfl) (fun y2 => ?_)
  refine zco_Ni (rc := 0) (rs := 0) (mc := 0) (ms := 0) (As := [.int y2]) (S := []) vmX11_isDigit (mtX11_isDigit l e (by omega) y2) (host := "ClothWedding") (by decide +kernel) rfl rfl (Nat.le_of_ble_eq_true rfl) (zdk (cc := cX9_takeNumber) (q := (10, .invokestatic 48, 3)) tkX9_takeNumber 6 rfl) (fun y3 => ?_)
  refine zco_if_eq (tgt := 29) (zdk (cc := cX9_takeNumber) (q := (13, .ifCond .eq 16, 3)) tkX9_takeNumber 7 rfl) rfl ?_ ?_
  · exact zco_sub [1, 2, 0] rfl (coX9_takeNumber_J29 l e he v0 v1 y1)
  · refine zco_p tkX9_takeNumber 8 4 (pc' := 20) (L' := [(3, .int y1), (0, .ref v0), (1, .int v1), (2, .int v2)]) (S' := [.int (y1 - 1), .ref v0]) rfl ?_
    refine zco_Vi (rc := 0) (rs := 0) (mc := 0) (ms := 0) (As := [.int (y1 - 1)]) (S := []) vmX9_byteAt (mtX9_byteAt l e (by omega) v0 (y1 - 1)) q_693 rfl rfl (Nat.le_of_ble_eq_true rfl) (zdk (cc := cX9_takeNumber) (q := (20, .invokevirtual 36, 3)) tkX9_takeNumber 12 rfl) (fun y4 => ?_)
    refine zco_Ni (rc := 0) (rs := 0) (mc := 0) (ms := 0) (As := [.int y4]) (S := []) vmX11_isLetter (mtX11_isLetter l e (by omega) y4) (host := "ClothWedding") (by decide +kernel) rfl rfl (Nat.le_of_ble_eq_true rfl) (zdk (cc := cX9_takeNumber) (q := (23, .invokestatic 51, 3)) tkX9_takeNumber 13 rfl) (fun y5 => ?_)
    refine zco_if_eq (tgt := 37) (zdk (cc := cX9_takeNumber) (q := (26, .ifCond .eq 11, 3)) tkX9_takeNumber 14 rfl) rfl ?_ ?_
    · refine zco_p tkX9_takeNumber 21 4 (pc' := 43) (L' := [(5, .int y1), (4, .int 0), (3, .int y1), (0, .ref v0), (1, .int v1), (2, .int v2)]) (S' := []) rfl ?_
      exact zco_sub [3, 4, 5, 2, 1, 0] rfl (zco_fix (Lf := fun x : Int32 × Int32 => [(0, .ref v0), (1, .int v1), (2, .int v2), (3, .int y1), (4, .int x.1), (5, .int x.2)]) (Sf := fun _ => []) (fun r hr x => coX9_takeNumber_B43 l e he v0 v1 v2 y1 r hr x.1 x.2) zFU (0, y1))
    · exact zco_sub [1, 2, 0] rfl (coX9_takeNumber_J29 l e he v0 v1 y1)
theorem mtX9_takeNumber (l : Launch) (d : Nat) (hd : 2 ≤ d) (v0 : Nat) (v1 : Int32) (v2 : Int32) : zMet l d 0 0 yX9_takeNumber cX9_takeNumber 6 (Option.some .int) [.ref v0, .int v1, .int v2] (X9_takeNumber v0 v1 v2) := by
  obtain ⟨e, rfl⟩ : ∃ e, d = e + 1 := ⟨d - 1, by omega⟩
  exact zmet_of (own := RX9) (ini := false) (by decide +kernel) rfl (fun _ => by contradiction) (Nat.le_of_ble_eq_true rfl) (coX9_takeNumber l e (by omega) v0 v1 v2)
abbrev iX2_someone : zI := (RX2, cX2_someone, 7, (Option.none : Option FieldType), false)
def tX2_someone : List (Nat × Instr × Nat) := [(0, .aload_n 1, 1), (1, .getfield 96, 3), (4, .iload_n 2, 1), (5, .iaload, 1), (6, .bipush 6, 2), (8, .if_icmp .lt 13, 3), (11, .aload_n 0, 1), (12, .getfield 15, 3), (15, .iconst 5, 1), (16, .iload_n 3, 1), (17, .invokevirtual 41, 3), (20, .return_, 1), (21, .aload_n 0, 1), (22, .getfield 15, 3), (25, .invokevirtual 79, 3), (28, .iload_n 2, 1), (29, .bipush 6, 2), (31, .imul, 1), (32, .aload_n 1, 1), (33, .getfield 96, 3), (36, .iload_n 2, 1), (37, .iaload, 1), (38, .iadd, 1), (39, .istore 4, 2), (41, .aload_n 0, 1), (42, .getfield 15, 3), (45, .invokevirtual 37, 3), (48, .istore 5, 2), (50, .aload_n 0, 1), (51, .getfield 15, 3), (54, .aload_n 0, 1), (55, .getfield 9, 3), (58, .invokevirtual 99, 3), (61, .aload_n 0, 1), (62, .getfield 15, 3), (65, .invokevirtual 28, 3), (68, .ifCond .eq 25, 3), (71, .aload_n 1, 1), (72, .aload_n 0, 1), (73, .getfield 9, 3), (76, .invokevirtual 103, 3), (79, .iconst (-1), 1), (80, .if_icmp .eq 13, 3), (83, .aload_n 0, 1), (84, .getfield 15, 3), (87, .iconst 3, 1), (88, .iload 5, 2), (90, .invokevirtual 41, 3), (93, .iconst 0, 1), (94, .istore 6, 2), (96, .iload 6, 2), (98, .bipush 6, 2), (100, .if_icmp .ge 29, 3), (103, .aload_n 1, 1), (104, .getfield 107, 3), (107, .iload 4, 2), (109, .bipush 6, 2), (111, .imul, 1), (112, .iload 6, 2), (114, .iadd, 1), (115, .aload_n 0, 1), (116, .getfield 9, 3), (119, .iload 6, 2), (121, .iaload, 1), (122, .iastore, 1), (123, .iinc 6 1, 3), (126, .goto (-30), 3), (129, .aload_n 1, 1), (130, .getfield 96, 3), (133, .iload_n 2, 1), (134, .dup2, 1), (135, .iaload, 1), (136, .iconst 1, 1), (137, .iadd, 1), (138, .iastore, 1), (139, .aload_n 0, 1), (140, .getfield 15, 3), (143, .ldc 110, 2), (145, .invokevirtual 112, 3), (148, .aload_n 1, 1), (149, .getfield 116, 3), (152, .iload 4, 2), (154, .aload_n 0, 1), (155, .getfield 15, 3), (158, .iconst 0, 1), (159, .bipush 9, 2), (161, .invokevirtual 82, 3), (164, .iastore, 1), (165, .aload_n 0, 1), (166, .getfield 15, 3), (169, .ldc 118, 2), (171, .invokevirtual 112, 3), (174, .aload_n 1, 1), (175, .getfield 120, 3), (178, .iload 4, 2), (180, .aload_n 0, 1), (181, .getfield 15, 3), (184, .iconst 0, 1), (185, .bipush 9, 2), (187, .invokevirtual 82, 3), (190, .iastore, 1), (191, .aload_n 0, 1), (192, .getfield 15, 3), (195, .ldc 122, 2), (197, .invokevirtual 112, 3), (200, .aload_n 1, 1), (201, .getfield 124, 3), (204, .iload 4, 2), (206, .aload_n 0, 1), (207, .getfield 15, 3), (210, .iconst 0, 1), (211, .bipush 9, 2), (213, .invokevirtual 82, 3), (216, .iastore, 1), (217, .return_, 1)]
set_option maxRecDepth 100000 in
theorem tkX2_someone : ∀ q ∈ tX2_someone, decode cX2_someone q.1 = .ok q.2 := by decide +kernel
theorem vmX2_someone : zVM yX2_someone cX2_someone 7 (Option.none : Option FieldType) 3 2 := ⟨kX2_someone, q_757, q_6, q_152, ⟨_, rfl, rfl⟩, by decide +kernel, by decide⟩
def X2_someone_J129 (v0 : Nat) (v1 : Nat) (v2 : Int32) (v4 : Int32) : zM := z_gr 1 0 v1 fun x1 => z_la 20 x1 v2 fun x2 => z_sa 20 x1 v2 (x2 + 1) (z_gr 2 0 v0 fun x3 => z_rc 9 x3 (z_cv (X9_needWord x3 (zB + 3)) (z_gr 1 2 v1 fun x4 => z_gr 2 0 v0 fun x5 => z_rc 9 x5 (z_ci (X9_takeNumber x5 0 9) fun y6 => z_sa 20 x4 v4 y6 (z_gr 2 0 v0 fun x7 => z_rc 9 x7 (z_cv (X9_needWord x7 (zB + 4)) (z_gr 1 3 v1 fun x8 => z_gr 2 0 v0 fun x9 => z_rc 9 x9 (z_ci (X9_takeNumber x9 0 9) fun y10 => z_sa 20 x8 v4 y10 (z_gr 2 0 v0 fun x11 => z_rc 9 x11 (z_cv (X9_needWord x11 (zB + 5)) (z_gr 1 4 v1 fun x12 => z_gr 2 0 v0 fun x13 => z_rc 9 x13 (z_ci (X9_takeNumber x13 0 9) fun y14 => z_sa 20 x12 v4 y14 (z_ret none)))))))))))))
set_option maxHeartbeats 2000000 in
set_option maxRecDepth 20000 in
theorem coX2_someone_J129 (l : Launch) (e : Nat) (he : 11 ≤ e) (v0 : Nat) (v1 : Nat) (v2 : Int32) (v4 : Int32) : zCo l (e + 1) 0 0 iX2_someone 129 [(0, .ref v0), (1, .ref v1), (2, .int v2), (4, .int v4)] [] (X2_someone_J129 v0 v1 v2 v4) := by
  unfold X2_someone_J129
  refine zco_p tkX2_someone 67 1 (pc' := 130) (L' := [(0, .ref v0), (1, .ref v1), (2, .int v2), (4, .int v4)]) (S' := [.ref v1]) rfl ?_
  refine zco_gr fl_2_96 rfl (zdk (cc := cX2_someone) (q := (130, .getfield 96, 3)) tkX2_someone 68 rfl) (fun x1 => ?_)
  refine zco_p tkX2_someone 69 2 (pc' := 135) (L' := [(0, .ref v0), (1, .ref v1), (2, .int v2), (4, .int v4)]) (S' := [.int v2, .ref x1, .int v2, .ref x1]) rfl ?_
  refine zco_iaload (zdk (cc := cX2_someone) (q := (135, .iaload, 1)) tkX2_someone 71 rfl) (fun x2 => ?_)
  refine zco_p tkX2_someone 72 2 (pc' := 138) (L' := [(0, .ref v0), (1, .ref v1), (2, .int v2), (4, .int v4)]) (S' := [.int (x2 + 1), .int v2, .ref x1]) rfl ?_
  refine zco_iastore (zdk (cc := cX2_someone) (q := (138, .iastore, 1)) tkX2_someone 74 rfl) ?_
  refine zco_p tkX2_someone 75 1 (pc' := 140) (L' := [(0, .ref v0), (1, .ref v1), (2, .int v2), (4, .int v4)]) (S' := [.ref v0]) rfl ?_
  refine zco_gr fl_2_15 rfl (zdk (cc := cX2_someone) (q := (140, .getfield 15, 3)) tkX2_someone 76 rfl) (fun x3 => ?_)
  refine zco_ldcS (i := 3) rfl (zdk (cc := cX2_someone) (q := (143, .ldc 110, 2)) tkX2_someone 77 rfl) ?_
  refine zco_Vv (rc := 0) (rs := 0) (mc := 0) (ms := 0) (As := [.ref (zB + 3)]) (S := []) vmX9_needWord (mtX9_needWord l e (by omega) x3 (zB + 3)) q_778 rfl rfl (Nat.le_of_ble_eq_true rfl) (zdk (cc := cX2_someone) (q := (145, .invokevirtual 112, 3)) tkX2_someone 78 rfl) ?_
  refine zco_p tkX2_someone 79 1 (pc' := 149) (L' := [(0, .ref v0), (1, .ref v1), (2, .int v2), (4, .int v4)]) (S' := [.ref v1]) rfl ?_
  refine zco_gr fl_2_116 rfl (zdk (cc := cX2_someone) (q := (149, .getfield 116, 3)) tkX2_someone 80 rfl) (fun x4 => ?_)
  refine zco_p tkX2_someone 81 2 (pc' := 155) (L' := [(0, .ref v0), (1, .ref v1), (2, .int v2), (4, .int v4)]) (S' := [.ref v0, .int v4, .ref x4]) rfl ?_
  refine zco_gr fl_2_15 rfl (zdk (cc := cX2_someone) (q := (155, .getfield 15, 3)) tkX2_someone 83 rfl) (fun x5 => ?_)
  refine zco_p tkX2_someone 84 2 (pc' := 161) (L' := [(0, .ref v0), (1, .ref v1), (2, .int v2), (4, .int v4)]) (S' := [.int 9, .int 0, .ref x5, .int v4, .ref x4]) rfl ?_
  refine zco_Vi (rc := 0) (rs := 0) (mc := 0) (ms := 0) (As := [.int 0, .int 9]) (S := [.int v4, .ref x4]) vmX9_takeNumber (mtX9_takeNumber l e (by omega) x5 0 9) q_786 rfl rfl (Nat.le_of_ble_eq_true rfl) (zdk (cc := cX2_someone) (q := (161, .invokevirtual 82, 3)) tkX2_someone 86 rfl) (fun y6 => ?_)
  refine zco_iastore (zdk (cc := cX2_someone) (q := (164, .iastore, 1)) tkX2_someone 87 rfl) ?_
  refine zco_p tkX2_someone 88 1 (pc' := 166) (L' := [(0, .ref v0), (1, .ref v1), (2, .int v2), (4, .int v4)]) (S' := [.ref v0]) rfl ?_
  refine zco_gr fl_2_15 rfl (zdk (cc := cX2_someone) (q := (166, .getfield 15, 3)) tkX2_someone 89 rfl) (fun x7 => ?_)
  refine zco_ldcS (i := 4) rfl (zdk (cc := cX2_someone) (q := (169, .ldc 118, 2)) tkX2_someone 90 rfl) ?_
  refine zco_Vv (rc := 0) (rs := 0) (mc := 0) (ms := 0) (As := [.ref (zB + 4)]) (S := []) vmX9_needWord (mtX9_needWord l e (by omega) x7 (zB + 4)) q_778 rfl rfl (Nat.le_of_ble_eq_true rfl) (zdk (cc := cX2_someone) (q := (171, .invokevirtual 112, 3)) tkX2_someone 91 rfl) ?_
  refine zco_p tkX2_someone 92 1 (pc' := 175) (L' := [(0, .ref v0), (1, .ref v1), (2, .int v2), (4, .int v4)]) (S' := [.ref v1]) rfl ?_
  refine zco_gr fl_2_120 rfl (zdk (cc := cX2_someone) (q := (175, .getfield 120, 3)) tkX2_someone 93 rfl) (fun x8 => ?_)
  refine zco_p tkX2_someone 94 2 (pc' := 181) (L' := [(0, .ref v0), (1, .ref v1), (2, .int v2), (4, .int v4)]) (S' := [.ref v0, .int v4, .ref x8]) rfl ?_
  refine zco_gr fl_2_15 rfl (zdk (cc := cX2_someone) (q := (181, .getfield 15, 3)) tkX2_someone 96 rfl) (fun x9 => ?_)
  refine zco_p tkX2_someone 97 2 (pc' := 187) (L' := [(0, .ref v0), (1, .ref v1), (2, .int v2), (4, .int v4)]) (S' := [.int 9, .int 0, .ref x9, .int v4, .ref x8]) rfl ?_
  refine zco_Vi (rc := 0) (rs := 0) (mc := 0) (ms := 0) (As := [.int 0, .int 9]) (S := [.int v4, .ref x8]) vmX9_takeNumber (mtX9_takeNumber l e (by omega) x9 0 9) q_786 rfl rfl (Nat.le_of_ble_eq_true rfl) (zdk (cc := cX2_someone) (q := (187, .invokevirtual 82, 3)) tkX2_someone 99 rfl) (fun y10 => ?_)
  refine zco_iastore (zdk (cc := cX2_someone) (q := (190, .iastore, 1)) tkX2_someone 100 rfl) ?_
  refine zco_p tkX2_someone 101 1 (pc' := 192) (L' := [(0, .ref v0), (1, .ref v1), (2, .int v2), (4, .int v4)]) (S' := [.ref v0]) rfl ?_
  refine zco_gr fl_2_15 rfl (zdk (cc := cX2_someone) (q := (192, .getfield 15, 3)) tkX2_someone 102 rfl) (fun x11 => ?_)
  refine zco_ldcS (i := 5) rfl (zdk (cc := cX2_someone) (q := (195, .ldc 122, 2)) tkX2_someone 103 rfl) ?_
  refine zco_Vv (rc := 0) (rs := 0) (mc := 0) (ms := 0) (As := [.ref (zB + 5)]) (S := []) vmX9_needWord (mtX9_needWord l e (by omega) x11 (zB + 5)) q_778 rfl rfl (Nat.le_of_ble_eq_true rfl) (zdk (cc := cX2_someone) (q := (197, .invokevirtual 112, 3)) tkX2_someone 104 rfl) ?_
  refine zco_p tkX2_someone 105 1 (pc' := 201) (L' := [(0, .ref v0), (1, .ref v1), (2, .int v2), (4, .int v4)]) (S' := [.ref v1]) rfl ?_
  refine zco_gr fl_2_124 rfl (zdk (cc := cX2_someone) (q := (201, .getfield 124, 3)) tkX2_someone 106 rfl) (fun x12 => ?_)
  refine zco_p tkX2_someone 107 2 (pc' := 207) (L' := [(0, .ref v0), (1, .ref v1), (2, .int v2), (4, .int v4)]) (S' := [.ref v0, .int v4, .ref x12]) rfl ?_
  refine zco_gr fl_2_15 rfl (zdk (cc := cX2_someone) (q := (207, .getfield 15, 3)) tkX2_someone 109 rfl) (fun x13 => ?_)
  refine zco_p tkX2_someone 110 2 (pc' := 213) (L' := [(0, .ref v0), (1, .ref v1), (2, .int v2), (4, .int v4)]) (S' := [.int 9, .int 0, .ref x13, .int v4, .ref x12]) rfl ?_
  refine zco_Vi (rc := 0) (rs := 0) (mc := 0) (ms := 0) (As := [.int 0, .int 9]) (S := [.int v4, .ref x12]) vmX9_takeNumber (mtX9_takeNumber l e (by omega) x13 0 9) q_786 rfl rfl (Nat.le_of_ble_eq_true rfl) (zdk (cc := cX2_someone) (q := (213, .invokevirtual 82, 3)) tkX2_someone 112 rfl) (fun y14 => ?_)
  refine zco_iastore (zdk (cc := cX2_someone) (q := (216, .iastore, 1)) tkX2_someone 113 rfl) ?_
  exact zco_vret rfl rfl rfl (zdk (cc := cX2_someone) (q := (217, .return_, 1)) tkX2_someone 114 rfl)
def X2_someone_B96 (v0 : Nat) (v1 : Nat) (v2 : Int32) (v4 : Int32) (r96 : Int32 → zM) (v6 : Int32) : zM := z_if (6 ≤ v6) (X2_someone_J129 v0 v1 v2 v4)
   (z_gr 1 1 v1 fun x1 => z_gr 2 2 v0 fun x2 => z_la 20 x2 v6 fun x3 => z_sa 20 x1 ((v4 * 6) + v6) x3 (r96 (v6 + 1)))
set_option maxHeartbeats 2000000 in
set_option maxRecDepth 20000 in
theorem coX2_someone_B96 (l : Launch) (e : Nat) (he : 11 ≤ e) (v0 : Nat) (v1 : Nat) (v2 : Int32) (v4 : Int32) (r96 : Int32 → zM) (hr96 : ∀ x : Int32, zCo l (e + 1) 0 0 iX2_someone 96 [(0, .ref v0), (1, .ref v1), (2, .int v2), (4, .int v4), (6, .int x)] [] (r96 x)) (v6 : Int32) : zCo l (e + 1) 0 0 iX2_someone 96 [(0, .ref v0), (1, .ref v1), (2, .int v2), (4, .int v4), (6, .int v6)] [] (X2_someone_B96 v0 v1 v2 v4 r96 v6) := by
  unfold X2_someone_B96
  refine zco_p tkX2_someone 50 2 (pc' := 100) (L' := [(0, .ref v0), (1, .ref v1), (2, .int v2), (4, .int v4), (6, .int v6)]) (S' := [.int 6, .int v6]) rfl ?_
  refine zco_icmp_ge (tgt := 129) (zdk (cc := cX2_someone) (q := (100, .if_icmp .ge 29, 3)) tkX2_someone 52 rfl) rfl ?_ ?_
  · exact zco_sub [0, 1, 2, 3] rfl (coX2_someone_J129 l e he v0 v1 v2 v4)
  · refine zco_p tkX2_someone 53 1 (pc' := 104) (L' := [(0, .ref v0), (1, .ref v1), (2, .int v2), (4, .int v4), (6, .int v6)]) (S' := [.ref v1]) rfl ?_
    refine zco_gr fl_2_107 rfl (zdk (cc := cX2_someone) (q := (104, .getfield 107, 3)) tkX2_someone 54 rfl) (fun x1 => ?_)
    refine zco_p tkX2_someone 55 6 (pc' := 116) (L' := [(0, .ref v0), (1, .ref v1), (2, .int v2), (4, .int v4), (6, .int v6)]) (S' := [.ref v0, .int ((v4 * 6) + v6), .ref x1]) rfl ?_
    refine zco_gr fl_2_9 rfl (zdk (cc := cX2_someone) (q := (116, .getfield 9, 3)) tkX2_someone 61 rfl) (fun x2 => ?_)
    refine zco_p tkX2_someone 62 1 (pc' := 121) (L' := [(0, .ref v0), (1, .ref v1), (2, .int v2), (4, .int v4), (6, .int v6)]) (S' := [.int v6, .ref x2, .int ((v4 * 6) + v6), .ref x1]) rfl ?_
    refine zco_iaload (zdk (cc := cX2_someone) (q := (121, .iaload, 1)) tkX2_someone 63 rfl) (fun x3 => ?_)
    refine zco_iastore (zdk (cc := cX2_someone) (q := (122, .iastore, 1)) tkX2_someone 64 rfl) ?_
    refine zco_p tkX2_someone 65 2 (pc' := 96) (L' := [(6, .int (v6 + 1)), (0, .ref v0), (1, .ref v1), (2, .int v2), (4, .int v4)]) (S' := []) rfl ?_
    exact zco_sub [1, 2, 3, 4, 0] rfl (hr96 (v6 + 1))
def X2_someone_J93 (v0 : Nat) (v1 : Nat) (v2 : Int32) (v4 : Int32) : zM := z_fix (fun r x => X2_someone_B96 v0 v1 v2 v4 r x) zFU 0
set_option maxHeartbeats 2000000 in
set_option maxRecDepth 20000 in
theorem coX2_someone_J93 (l : Launch) (e : Nat) (he : 11 ≤ e) (v0 : Nat) (v1 : Nat) (v2 : Int32) (v4 : Int32) : zCo l (e + 1) 0 0 iX2_someone 93 [(0, .ref v0), (1, .ref v1), (2, .int v2), (4, .int v4)] [] (X2_someone_J93 v0 v1 v2 v4) := by
  unfold X2_someone_J93
  refine zco_p tkX2_someone 48 2 (pc' := 96) (L' := [(6, .int 0), (0, .ref v0), (1, .ref v1), (2, .int v2), (4, .int v4)]) (S' := []) rfl ?_
  exact zco_sub [1, 2, 3, 4, 0] rfl (zco_fix (Lf := fun x : Int32 => [(0, .ref v0), (1, .ref v1), (2, .int v2), (4, .int v4), (6, .int x)]) (Sf := fun _ => []) (fun r hr x => coX2_someone_B96 l e he v0 v1 v2 v4 r hr x) zFU 0)
def X2_someone (v0 : Nat) (v1 : Nat) (v2 : Int32) (v3 : Int32) : zM := z_gr 1 0 v1 fun x1 => z_la 20 x1 v2 fun x2 => z_if (x2 < 6) (z_gr 2 0 v0 fun x3 => z_rc 9 x3 (z_cv (X9_passWord x3) (z_gr 1 0 v1 fun x4 => z_la 20 x4 v2 fun x5 => z_gr 2 0 v0 fun x6 => z_rc 9 x6 (z_ci (X9_begin x6) fun y7 => z_gr 2 0 v0 fun x8 => z_gr 2 2 v0 fun x9 => z_rc 9 x8 (z_cv (X9_takeName x8 x9) (z_gr 2 0 v0 fun x10 => z_rc 9 x10 (z_ci (X9_sound x10) fun y11 => z_if (y11 = 0) (X2_someone_J93 v0 v1 v2 ((v2 * 6) + x5))
   (z_gr 2 2 v0 fun x12 => z_rc 1 v1 (z_ci (X1_named v1 x12) fun y13 => z_if (y13 = ((-1))) (X2_someone_J93 v0 v1 v2 ((v2 * 6) + x5))
   (z_gr 2 0 v0 fun x14 => z_rc 9 x14 (z_cv (X9_fail x14 3 y7) (X2_someone_J93 v0 v1 v2 ((v2 * 6) + x5)))))))))))))
   (z_gr 2 0 v0 fun x15 => z_rc 9 x15 (z_cv (X9_fail x15 5 v3) (z_ret none)))
set_option maxHeartbeats 2000000 in
set_option maxRecDepth 20000 in
theorem coX2_someone (l : Launch) (e : Nat) (he : 11 ≤ e) (v0 : Nat) (v1 : Nat) (v2 : Int32) (v3 : Int32) : zCo l (e + 1) 0 0 iX2_someone 0 [(0, .ref v0), (1, .ref v1), (2, .int v2), (3, .int v3)] [] (X2_someone v0 v1 v2 v3) := by
  unfold X2_someone
  refine zco_p tkX2_someone 0 1 (pc' := 1) (L' := [(0, .ref v0), (1, .ref v1), (2, .int v2), (3, .int v3)]) (S' := [.ref v1]) rfl ?_
  refine zco_gr fl_2_96 rfl (zdk (cc := cX2_someone) (q := (1, .getfield 96, 3)) tkX2_someone 1 rfl) (fun x1 => ?_)
  refine zco_p tkX2_someone 2 1 (pc' := 5) (L' := [(0, .ref v0), (1, .ref v1), (2, .int v2), (3, .int v3)]) (S' := [.int v2, .ref x1]) rfl ?_
  refine zco_iaload (zdk (cc := cX2_someone) (q := (5, .iaload, 1)) tkX2_someone 3 rfl) (fun x2 => ?_)
  refine zco_p tkX2_someone 4 1 (pc' := 8) (L' := [(0, .ref v0), (1, .ref v1), (2, .int v2), (3, .int v3)]) (S' := [.int 6, .int x2]) rfl ?_
  refine zco_icmp_lt (tgt := 21) (zdk (cc := cX2_someone) (q := (8, .if_icmp .lt 13, 3)) tkX2_someone 5 rfl) rfl ?_ ?_
  · refine zco_p tkX2_someone 12 1 (pc' := 22) (L' := [(0, .ref v0), (1, .ref v1), (2, .int v2), (3, .int v3)]) (S' := [.ref v0]) rfl ?_
    refine zco_gr fl_2_15 rfl (zdk (cc := cX2_someone) (q := (22, .getfield 15, 3)) tkX2_someone 13 rfl) (fun x3 => ?_)
    refine zco_Vv (rc := 0) (rs := 0) (mc := 0) (ms := 0) (As := []) (S := []) vmX9_passWord (mtX9_passWord l e (by omega) x3) q_759 rfl rfl (Nat.le_of_ble_eq_true rfl) (zdk (cc := cX2_someone) (q := (25, .invokevirtual 79, 3)) tkX2_someone 14 rfl) ?_
    refine zco_p tkX2_someone 15 4 (pc' := 33) (L' := [(0, .ref v0), (1, .ref v1), (2, .int v2), (3, .int v3)]) (S' := [.ref v1, .int (v2 * 6)]) rfl ?_
    refine zco_gr fl_2_96 rfl (zdk (cc := cX2_someone) (q := (33, .getfield 96, 3)) tkX2_someone 19 rfl) (fun x4 => ?_)
    refine zco_p tkX2_someone 20 1 (pc' := 37) (L' := [(0, .ref v0), (1, .ref v1), (2, .int v2), (3, .int v3)]) (S' := [.int v2, .ref x4, .int (v2 * 6)]) rfl ?_
    refine zco_iaload (zdk (cc := cX2_someone) (q := (37, .iaload, 1)) tkX2_someone 21 rfl) (fun x5 => ?_)
    refine zco_p tkX2_someone 22 3 (pc' := 42) (L' := [(4, .int ((v2 * 6) + x5)), (0, .ref v0), (1, .ref v1), (2, .int v2), (3, .int v3)]) (S' := [.ref v0]) rfl ?_
    refine zco_gr fl_2_15 rfl (zdk (cc := cX2_someone) (q := (42, .getfield 15, 3)) tkX2_someone 25 rfl) (fun x6 => ?_)
    refine zco_Vi (rc := 0) (rs := 0) (mc := 0) (ms := 0) (As := []) (S := []) vmX9_begin (mtX9_begin l e (by omega) x6) q_674 rfl rfl (Nat.le_of_ble_eq_true rfl) (zdk (cc := cX2_someone) (q := (45, .invokevirtual 37, 3)) tkX2_someone 26 rfl) (fun y7 => ?_)
    refine zco_p tkX2_someone 27 2 (pc' := 51) (L' := [(5, .int y7), (4, .int ((v2 * 6) + x5)), (0, .ref v0), (1, .ref v1), (2, .int v2), (3, .int v3)]) (S' := [.ref v0]) rfl ?_
    refine zco_gr fl_2_15 rfl (zdk (cc := cX2_someone) (q := (51, .getfield 15, 3)) tkX2_someone 29 rfl) (fun x8 => ?_)
    refine zco_p tkX2_someone 30 1 (pc' := 55) (L' := [(5, .int y7), (4, .int ((v2 * 6) + x5)), (0, .ref v0), (1, .ref v1), (2, .int v2), (3, .int v3)]) (S' := [.ref v0, .ref x8]) rfl ?_
    refine zco_gr fl_2_9 rfl (zdk (cc := cX2_someone) (q := (55, .getfield 9, 3)) tkX2_someone 31 rfl) (fun x9 => ?_)
    refine zco_Vv (rc := 0) (rs := 0) (mc := 0) (ms := 0) (As := [.ref x9]) (S := []) vmX9_takeName (mtX9_takeName l e (by omega) x8 x9) q_763 rfl rfl (Nat.le_of_ble_eq_true rfl) (zdk (cc := cX2_someone) (q := (58, .invokevirtual 99, 3)) tkX2_someone 32 rfl) ?_
    refine zco_p tkX2_someone 33 1 (pc' := 62) (L' := [(5, .int y7), (4, .int ((v2 * 6) + x5)), (0, .ref v0), (1, .ref v1), (2, .int v2), (3, .int v3)]) (S' := [.ref v0]) rfl ?_
    refine zco_gr fl_2_15 rfl (zdk (cc := cX2_someone) (q := (62, .getfield 15, 3)) tkX2_someone 34 rfl) (fun x10 => ?_)
    refine zco_Vi (rc := 0) (rs := 0) (mc := 0) (ms := 0) (As := []) (S := []) vmX9_sound (mtX9_sound l e (by omega) x10) q_662 rfl rfl (Nat.le_of_ble_eq_true rfl) (zdk (cc := cX2_someone) (q := (65, .invokevirtual 28, 3)) tkX2_someone 35 rfl) (fun y11 => ?_)
    refine zco_if_eq (tgt := 93) (zdk (cc := cX2_someone) (q := (68, .ifCond .eq 25, 3)) tkX2_someone 36 rfl) rfl ?_ ?_
    · exact zco_sub [2, 3, 4, 1] rfl (coX2_someone_J93 l e he v0 v1 v2 ((v2 * 6) + x5))
    · refine zco_p tkX2_someone 37 2 (pc' := 73) (L' := [(5, .int y7), (4, .int ((v2 * 6) + x5)), (0, .ref v0), (1, .ref v1), (2, .int v2), (3, .int v3)]) (S' := [.ref v0, .ref v1]) rfl ?_
      refine zco_gr fl_2_9 rfl (zdk (cc := cX2_someone) (q := (73, .getfield 9, 3)) tkX2_someone 39 rfl) (fun x12 => ?_)
      refine zco_Vi (rc := 0) (rs := 0) (mc := 0) (ms := 0) (As := [.ref x12]) (S := []) vmX1_named (mtX1_named l e (by omega) v1 x12) q_769 rfl rfl (Nat.le_of_ble_eq_true rfl) (zdk (cc := cX2_someone) (q := (76, .invokevirtual 103, 3)) tkX2_someone 40 rfl) (fun y13 => ?_)
      refine zco_p tkX2_someone 41 1 (pc' := 80) (L' := [(5, .int y7), (4, .int ((v2 * 6) + x5)), (0, .ref v0), (1, .ref v1), (2, .int v2), (3, .int v3)]) (S' := [.int ((-1)), .int y13]) rfl ?_
      refine zco_icmp_eq (tgt := 93) (zdk (cc := cX2_someone) (q := (80, .if_icmp .eq 13, 3)) tkX2_someone 42 rfl) rfl ?_ ?_
      · exact zco_sub [2, 3, 4, 1] rfl (coX2_someone_J93 l e he v0 v1 v2 ((v2 * 6) + x5))
      · refine zco_p tkX2_someone 43 1 (pc' := 84) (L' := [(5, .int y7), (4, .int ((v2 * 6) + x5)), (0, .ref v0), (1, .ref v1), (2, .int v2), (3, .int v3)]) (S' := [.ref v0]) rfl ?_
        refine zco_gr fl_2_15 rfl (zdk (cc := cX2_someone) (q := (84, .getfield 15, 3)) tkX2_someone 44 rfl) (fun x14 => ?_)
        refine zco_p tkX2_someone 45 2 (pc' := 90) (L' := [(5, .int y7), (4, .int ((v2 * 6) + x5)), (0, .ref v0), (1, .ref v1), (2, .int v2), (3, .int v3)]) (S' := [.int y7, .int 3, .ref x14]) rfl ?_
        refine zco_Vv (rc := 0) (rs := 0) (mc := 0) (ms := 0) (As := [.int 3, .int y7]) (S := []) vmX9_fail (mtX9_fail l e (by omega) x14 3 y7) q_675 rfl rfl (Nat.le_of_ble_eq_true rfl) (zdk (cc := cX2_someone) (q := (90, .invokevirtual 41, 3)) tkX2_someone 47 rfl) ?_
        exact zco_sub [2, 3, 4, 1] rfl (coX2_someone_J93 l e he v0 v1 v2 ((v2 * 6) + x5))
  · refine zco_p tkX2_someone 6 1 (pc' := 12) (L' := [(0, .ref v0), (1, .ref v1), (2, .int v2), (3, .int v3)]) (S' := [.ref v0]) rfl ?_
    refine zco_gr fl_2_15 rfl (zdk (cc := cX2_someone) (q := (12, .getfield 15, 3)) tkX2_someone 7 rfl) (fun x15 => ?_)
    refine zco_p tkX2_someone 8 2 (pc' := 17) (L' := [(0, .ref v0), (1, .ref v1), (2, .int v2), (3, .int v3)]) (S' := [.int v3, .int 5, .ref x15]) rfl ?_
    refine zco_Vv (rc := 0) (rs := 0) (mc := 0) (ms := 0) (As := [.int 5, .int v3]) (S := []) vmX9_fail (mtX9_fail l e (by omega) x15 5 v3) q_675 rfl rfl (Nat.le_of_ble_eq_true rfl) (zdk (cc := cX2_someone) (q := (17, .invokevirtual 41, 3)) tkX2_someone 10 rfl) ?_
    exact zco_vret rfl rfl rfl (zdk (cc := cX2_someone) (q := (20, .return_, 1)) tkX2_someone 11 rfl)
theorem mtX2_someone (l : Launch) (d : Nat) (hd : 12 ≤ d) (v0 : Nat) (v1 : Nat) (v2 : Int32) (v3 : Int32) : zMet l d 0 0 yX2_someone cX2_someone 7 (Option.none : Option FieldType) [.ref v0, .ref v1, .int v2, .int v3] (X2_someone v0 v1 v2 v3) := by
  obtain ⟨e, rfl⟩ : ∃ e, d = e + 1 := ⟨d - 1, by omega⟩
  exact zmet_of (own := RX2) (ini := false) (by decide +kernel) rfl (fun _ => by contradiction) (Nat.le_of_ble_eq_true rfl) (coX2_someone l e (by omega) v0 v1 v2 v3)
abbrev iX11_sideOf : zI := (RX11, cX11_sideOf, 1, (Option.some .int), false)
def tX11_sideOf : List (Nat × Instr × Nat) := [(0, .iload_n 0, 1), (1, .bipush 6, 2), (3, .if_icmp .ge 7, 3), (6, .iconst 0, 1), (7, .goto 4, 3), (10, .iconst 1, 1), (11, .ireturn, 1)]
set_option maxRecDepth 100000 in
theorem tkX11_sideOf : ∀ q ∈ tX11_sideOf, decode cX11_sideOf q.1 = .ok q.2 := by decide +kernel
theorem vmX11_sideOf : zSM yX11_sideOf cX11_sideOf 1 (Option.some .int) 1 := ⟨kX11_sideOf, q_801, q_147, by decide +kernel, by decide⟩
def X11_sideOf (v0 : Int32) : zM := z_if (6 ≤ v0) (z_ret (some (.int 1)))
   (z_ret (some (.int 0)))
set_option maxHeartbeats 2000000 in
set_option maxRecDepth 20000 in
theorem coX11_sideOf (l : Launch) (e : Nat) (he : 0 ≤ e) (v0 : Int32) : zCo l (e + 1) 0 0 iX11_sideOf 0 [(0, .int v0)] [] (X11_sideOf v0) := by
  unfold X11_sideOf
  refine zco_p tkX11_sideOf 0 2 (pc' := 3) (L' := [(0, .int v0)]) (S' := [.int 6, .int v0]) rfl ?_
  refine zco_icmp_ge (tgt := 10) (zdk (cc := cX11_sideOf) (q := (3, .if_icmp .ge 7, 3)) tkX11_sideOf 2 rfl) rfl ?_ ?_
  · refine zco_p tkX11_sideOf 5 1 (pc' := 11) (L' := [(0, .int v0)]) (S' := [.int 1]) rfl ?_
    exact zco_iret rfl rfl rfl (zdk (cc := cX11_sideOf) (q := (11, .ireturn, 1)) tkX11_sideOf 6 rfl)
  · refine zco_p tkX11_sideOf 3 2 (pc' := 11) (L' := [(0, .int v0)]) (S' := [.int 0]) rfl ?_
    exact zco_iret rfl rfl rfl (zdk (cc := cX11_sideOf) (q := (11, .ireturn, 1)) tkX11_sideOf 6 rfl)
theorem mtX11_sideOf (l : Launch) (d : Nat) (hd : 1 ≤ d) (v0 : Int32) : zMet l d 0 0 yX11_sideOf cX11_sideOf 1 (Option.some .int) [.int v0] (X11_sideOf v0) := by
  obtain ⟨e, rfl⟩ : ∃ e, d = e + 1 := ⟨d - 1, by omega⟩
  exact zmet_of (own := RX11) (ini := false) (by decide +kernel) rfl (fun _ => by contradiction) (Nat.le_of_ble_eq_true rfl) (coX11_sideOf l e (by omega) v0)
abbrev iX2_asked : zI := (RX2, cX2_asked, 5, (Option.some .int), false)
def tX2_asked : List (Nat × Instr × Nat) := [(0, .aload_n 0, 1), (1, .getfield 15, 3), (4, .invokevirtual 37, 3), (7, .istore_n 3, 1), (8, .aload_n 0, 1), (9, .getfield 15, 3), (12, .aload_n 0, 1), (13, .getfield 9, 3), (16, .invokevirtual 99, 3), (19, .aload_n 0, 1), (20, .getfield 15, 3), (23, .invokevirtual 28, 3), (26, .ifCond .eq 14, 3), (29, .aload_n 1, 1), (30, .aload_n 0, 1), (31, .getfield 9, 3), (34, .invokevirtual 103, 3), (37, .goto 4, 3), (40, .iconst (-1), 1), (41, .istore 4, 2), (43, .iload 4, 2), (45, .iconst (-1), 1), (46, .if_icmp .eq 20, 3), (49, .iload_n 2, 1), (50, .iconst (-1), 1), (51, .if_icmp .eq 24, 3), (54, .iload 4, 2), (56, .invokestatic 126, 3), (59, .iload_n 2, 1), (60, .invokestatic 126, 3), (63, .if_icmp .ne 12, 3), (66, .aload_n 0, 1), (67, .getfield 15, 3), (70, .iconst 3, 1), (71, .iload_n 3, 1), (72, .invokevirtual 41, 3), (75, .aload_n 0, 1), (76, .getfield 15, 3), (79, .invokevirtual 28, 3), (82, .ifCond .eq 8, 3), (85, .iload 4, 2), (87, .goto 4, 3), (90, .iconst (-1), 1), (91, .ireturn, 1)]
set_option maxRecDepth 100000 in
theorem tkX2_asked : ∀ q ∈ tX2_asked, decode cX2_asked q.1 = .ok q.2 := by decide +kernel
theorem vmX2_asked : zVM yX2_asked cX2_asked 5 (Option.some .int) 2 2 := ⟨kX2_asked, q_798, q_8, q_152, ⟨_, rfl, rfl⟩, by decide +kernel, by decide⟩
def X2_asked_J75 (v0 : Nat) (v4 : Int32) : zM := z_gr 2 0 v0 fun x1 => z_rc 9 x1 (z_ci (X9_sound x1) fun y2 => z_if (y2 = 0) (z_ret (some (.int ((-1)))))
   (z_ret (some (.int v4))))
set_option maxHeartbeats 2000000 in
set_option maxRecDepth 20000 in
theorem coX2_asked_J75 (l : Launch) (e : Nat) (he : 10 ≤ e) (v0 : Nat) (v4 : Int32) : zCo l (e + 1) 0 0 iX2_asked 75 [(0, .ref v0), (4, .int v4)] [] (X2_asked_J75 v0 v4) := by
  unfold X2_asked_J75
  refine zco_p tkX2_asked 36 1 (pc' := 76) (L' := [(0, .ref v0), (4, .int v4)]) (S' := [.ref v0]) rfl ?_
  refine zco_gr fl_2_15 rfl (zdk (cc := cX2_asked) (q := (76, .getfield 15, 3)) tkX2_asked 37 rfl) (fun x1 => ?_)
  refine zco_Vi (rc := 0) (rs := 0) (mc := 0) (ms := 0) (As := []) (S := []) vmX9_sound (mtX9_sound l e (by omega) x1) q_662 rfl rfl (Nat.le_of_ble_eq_true rfl) (zdk (cc := cX2_asked) (q := (79, .invokevirtual 28, 3)) tkX2_asked 38 rfl) (fun y2 => ?_)
  refine zco_if_eq (tgt := 90) (zdk (cc := cX2_asked) (q := (82, .ifCond .eq 8, 3)) tkX2_asked 39 rfl) rfl ?_ ?_
  · refine zco_p tkX2_asked 42 1 (pc' := 91) (L' := [(0, .ref v0), (4, .int v4)]) (S' := [.int ((-1))]) rfl ?_
    exact zco_iret rfl rfl rfl (zdk (cc := cX2_asked) (q := (91, .ireturn, 1)) tkX2_asked 43 rfl)
  · refine zco_p tkX2_asked 40 2 (pc' := 91) (L' := [(0, .ref v0), (4, .int v4)]) (S' := [.int v4]) rfl ?_
    exact zco_iret rfl rfl rfl (zdk (cc := cX2_asked) (q := (91, .ireturn, 1)) tkX2_asked 43 rfl)
def X2_asked_J66 (v0 : Nat) (v3 : Int32) (v4 : Int32) : zM := z_gr 2 0 v0 fun x1 => z_rc 9 x1 (z_cv (X9_fail x1 3 v3) (X2_asked_J75 v0 v4))
set_option maxHeartbeats 2000000 in
set_option maxRecDepth 20000 in
theorem coX2_asked_J66 (l : Launch) (e : Nat) (he : 10 ≤ e) (v0 : Nat) (v3 : Int32) (v4 : Int32) : zCo l (e + 1) 0 0 iX2_asked 66 [(0, .ref v0), (3, .int v3), (4, .int v4)] [] (X2_asked_J66 v0 v3 v4) := by
  unfold X2_asked_J66
  refine zco_p tkX2_asked 31 1 (pc' := 67) (L' := [(0, .ref v0), (3, .int v3), (4, .int v4)]) (S' := [.ref v0]) rfl ?_
  refine zco_gr fl_2_15 rfl (zdk (cc := cX2_asked) (q := (67, .getfield 15, 3)) tkX2_asked 32 rfl) (fun x1 => ?_)
  refine zco_p tkX2_asked 33 2 (pc' := 72) (L' := [(0, .ref v0), (3, .int v3), (4, .int v4)]) (S' := [.int v3, .int 3, .ref x1]) rfl ?_
  refine zco_Vv (rc := 0) (rs := 0) (mc := 0) (ms := 0) (As := [.int 3, .int v3]) (S := []) vmX9_fail (mtX9_fail l e (by omega) x1 3 v3) q_675 rfl rfl (Nat.le_of_ble_eq_true rfl) (zdk (cc := cX2_asked) (q := (72, .invokevirtual 41, 3)) tkX2_asked 35 rfl) ?_
  exact zco_sub [0, 2] rfl (coX2_asked_J75 l e he v0 v4)
def X2_asked_J41 (v0 : Nat) (v2 : Int32) (v3 : Int32) (s0 : Int32) : zM := z_if (s0 = ((-1))) (X2_asked_J66 v0 v3 s0)
   (z_if (v2 = ((-1))) (X2_asked_J75 v0 s0)
   (z_ci (X11_sideOf s0) fun y1 => z_ci (X11_sideOf v2) fun y2 => z_if (y1 = y2) (X2_asked_J66 v0 v3 s0)
   (X2_asked_J75 v0 s0)))
set_option maxHeartbeats 2000000 in
set_option maxRecDepth 20000 in
theorem coX2_asked_J41 (l : Launch) (e : Nat) (he : 10 ≤ e) (v0 : Nat) (v2 : Int32) (v3 : Int32) (s0 : Int32) : zCo l (e + 1) 0 0 iX2_asked 41 [(0, .ref v0), (2, .int v2), (3, .int v3)] [.int s0] (X2_asked_J41 v0 v2 v3 s0) := by
  unfold X2_asked_J41
  refine zco_p tkX2_asked 19 3 (pc' := 46) (L' := [(4, .int s0), (0, .ref v0), (2, .int v2), (3, .int v3)]) (S' := [.int ((-1)), .int s0]) rfl ?_
  refine zco_icmp_eq (tgt := 66) (zdk (cc := cX2_asked) (q := (46, .if_icmp .eq 20, 3)) tkX2_asked 22 rfl) rfl ?_ ?_
  · exact zco_sub [1, 3, 0] rfl (coX2_asked_J66 l e he v0 v3 s0)
  · refine zco_p tkX2_asked 23 2 (pc' := 51) (L' := [(4, .int s0), (0, .ref v0), (2, .int v2), (3, .int v3)]) (S' := [.int ((-1)), .int v2]) rfl ?_
    refine zco_icmp_eq (tgt := 75) (zdk (cc := cX2_asked) (q := (51, .if_icmp .eq 24, 3)) tkX2_asked 25 rfl) rfl ?_ ?_
    · exact zco_sub [1, 0] rfl (coX2_asked_J75 l e he v0 s0)
    · refine zco_p tkX2_asked 26 1 (pc' := 56) (L' := [(4, .int s0), (0, .ref v0), (2, .int v2), (3, .int v3)]) (S' := [.int s0]) rfl ?_
      refine zco_Ni (rc := 0) (rs := 0) (mc := 0) (ms := 0) (As := [.int s0]) (S := []) vmX11_sideOf (mtX11_sideOf l e (by omega) s0) (host := "ClothWedding") (by decide +kernel) rfl rfl (Nat.le_of_ble_eq_true rfl) (zdk (cc := cX2_asked) (q := (56, .invokestatic 126, 3)) tkX2_asked 27 rfl) (fun y1 => ?_)
      refine zco_p tkX2_asked 28 1 (pc' := 60) (L' := [(4, .int s0), (0, .ref v0), (2, .int v2), (3, .int v3)]) (S' := [.int v2, .int y1]) rfl ?_
      refine zco_Ni (rc := 0) (rs := 0) (mc := 0) (ms := 0) (As := [.int v2]) (S := [.int y1]) vmX11_sideOf (mtX11_sideOf l e (by omega) v2) (host := "ClothWedding") (by decide +kernel) rfl rfl (Nat.le_of_ble_eq_true rfl) (zdk (cc := cX2_asked) (q := (60, .invokestatic 126, 3)) tkX2_asked 29 rfl) (fun y2 => ?_)
      refine zco_icmp_ne (tgt := 75) (zdk (cc := cX2_asked) (q := (63, .if_icmp .ne 12, 3)) tkX2_asked 30 rfl) rfl ?_ ?_
      · exact zco_sub [1, 0] rfl (coX2_asked_J75 l e he v0 s0)
      · exact zco_sub [1, 3, 0] rfl (coX2_asked_J66 l e he v0 v3 s0)
def X2_asked (v0 : Nat) (v1 : Nat) (v2 : Int32) : zM := z_gr 2 0 v0 fun x1 => z_rc 9 x1 (z_ci (X9_begin x1) fun y2 => z_gr 2 0 v0 fun x3 => z_gr 2 2 v0 fun x4 => z_rc 9 x3 (z_cv (X9_takeName x3 x4) (z_gr 2 0 v0 fun x5 => z_rc 9 x5 (z_ci (X9_sound x5) fun y6 => z_if (y6 = 0) (X2_asked_J41 v0 v2 y2 ((-1)))
   (z_gr 2 2 v0 fun x7 => z_rc 1 v1 (z_ci (X1_named v1 x7) fun y8 => X2_asked_J41 v0 v2 y2 y8))))))
set_option maxHeartbeats 2000000 in
set_option maxRecDepth 20000 in
theorem coX2_asked (l : Launch) (e : Nat) (he : 10 ≤ e) (v0 : Nat) (v1 : Nat) (v2 : Int32) : zCo l (e + 1) 0 0 iX2_asked 0 [(0, .ref v0), (1, .ref v1), (2, .int v2)] [] (X2_asked v0 v1 v2) := by
  unfold X2_asked
  refine zco_p tkX2_asked 0 1 (pc' := 1) (L' := [(0, .ref v0), (1, .ref v1), (2, .int v2)]) (S' := [.ref v0]) rfl ?_
  refine zco_gr fl_2_15 rfl (zdk (cc := cX2_asked) (q := (1, .getfield 15, 3)) tkX2_asked 1 rfl) (fun x1 => ?_)
  refine zco_Vi (rc := 0) (rs := 0) (mc := 0) (ms := 0) (As := []) (S := []) vmX9_begin (mtX9_begin l e (by omega) x1) q_674 rfl rfl (Nat.le_of_ble_eq_true rfl) (zdk (cc := cX2_asked) (q := (4, .invokevirtual 37, 3)) tkX2_asked 2 rfl) (fun y2 => ?_)
  refine zco_p tkX2_asked 3 2 (pc' := 9) (L' := [(3, .int y2), (0, .ref v0), (1, .ref v1), (2, .int v2)]) (S' := [.ref v0]) rfl ?_
  refine zco_gr fl_2_15 rfl (zdk (cc := cX2_asked) (q := (9, .getfield 15, 3)) tkX2_asked 5 rfl) (fun x3 => ?_)
  refine zco_p tkX2_asked 6 1 (pc' := 13) (L' := [(3, .int y2), (0, .ref v0), (1, .ref v1), (2, .int v2)]) (S' := [.ref v0, .ref x3]) rfl ?_
  refine zco_gr fl_2_9 rfl (zdk (cc := cX2_asked) (q := (13, .getfield 9, 3)) tkX2_asked 7 rfl) (fun x4 => ?_)
  refine zco_Vv (rc := 0) (rs := 0) (mc := 0) (ms := 0) (As := [.ref x4]) (S := []) vmX9_takeName (mtX9_takeName l e (by omega) x3 x4) q_763 rfl rfl (Nat.le_of_ble_eq_true rfl) (zdk (cc := cX2_asked) (q := (16, .invokevirtual 99, 3)) tkX2_asked 8 rfl) ?_
  refine zco_p tkX2_asked 9 1 (pc' := 20) (L' := [(3, .int y2), (0, .ref v0), (1, .ref v1), (2, .int v2)]) (S' := [.ref v0]) rfl ?_
  refine zco_gr fl_2_15 rfl (zdk (cc := cX2_asked) (q := (20, .getfield 15, 3)) tkX2_asked 10 rfl) (fun x5 => ?_)
  refine zco_Vi (rc := 0) (rs := 0) (mc := 0) (ms := 0) (As := []) (S := []) vmX9_sound (mtX9_sound l e (by omega) x5) q_662 rfl rfl (Nat.le_of_ble_eq_true rfl) (zdk (cc := cX2_asked) (q := (23, .invokevirtual 28, 3)) tkX2_asked 11 rfl) (fun y6 => ?_)
  refine zco_if_eq (tgt := 40) (zdk (cc := cX2_asked) (q := (26, .ifCond .eq 14, 3)) tkX2_asked 12 rfl) rfl ?_ ?_
  · refine zco_p tkX2_asked 18 1 (pc' := 41) (L' := [(3, .int y2), (0, .ref v0), (1, .ref v1), (2, .int v2)]) (S' := [.int ((-1))]) rfl ?_
    exact zco_sub [1, 3, 0] rfl (coX2_asked_J41 l e he v0 v2 y2 ((-1)))
  · refine zco_p tkX2_asked 13 2 (pc' := 31) (L' := [(3, .int y2), (0, .ref v0), (1, .ref v1), (2, .int v2)]) (S' := [.ref v0, .ref v1]) rfl ?_
    refine zco_gr fl_2_9 rfl (zdk (cc := cX2_asked) (q := (31, .getfield 9, 3)) tkX2_asked 15 rfl) (fun x7 => ?_)
    refine zco_Vi (rc := 0) (rs := 0) (mc := 0) (ms := 0) (As := [.ref x7]) (S := []) vmX1_named (mtX1_named l e (by omega) v1 x7) q_769 rfl rfl (Nat.le_of_ble_eq_true rfl) (zdk (cc := cX2_asked) (q := (34, .invokevirtual 103, 3)) tkX2_asked 16 rfl) (fun y8 => ?_)
    refine zco_p tkX2_asked 17 1 (pc' := 41) (L' := [(3, .int y2), (0, .ref v0), (1, .ref v1), (2, .int v2)]) (S' := [.int y8]) rfl ?_
    exact zco_sub [1, 3, 0] rfl (coX2_asked_J41 l e he v0 v2 y2 y8)
theorem mtX2_asked (l : Launch) (d : Nat) (hd : 11 ≤ d) (v0 : Nat) (v1 : Nat) (v2 : Int32) : zMet l d 0 0 yX2_asked cX2_asked 5 (Option.some .int) [.ref v0, .ref v1, .int v2] (X2_asked v0 v1 v2) := by
  obtain ⟨e, rfl⟩ : ∃ e, d = e + 1 := ⟨d - 1, by omega⟩
  exact zmet_of (own := RX2) (ini := false) (by decide +kernel) rfl (fun _ => by contradiction) (Nat.le_of_ble_eq_true rfl) (coX2_asked l e (by omega) v0 v1 v2)
abbrev iX11_cell : zI := (RX11, cX11_cell, 2, (Option.some .int), false)
def tX11_cell : List (Nat × Instr × Nat) := [(0, .iload_n 0, 1), (1, .bipush 6, 2), (3, .imul, 1), (4, .iload_n 1, 1), (5, .bipush 6, 2), (7, .irem, 1), (8, .iadd, 1), (9, .ireturn, 1)]
set_option maxRecDepth 100000 in
theorem tkX11_cell : ∀ q ∈ tX11_cell, decode cX11_cell q.1 = .ok q.2 := by decide +kernel
theorem vmX11_cell : zSM yX11_cell cX11_cell 2 (Option.some .int) 2 := ⟨kX11_cell, q_808, q_147, by decide +kernel, by decide⟩
def X11_cell (v0 : Int32) (v1 : Int32) : zM := z_ck (¬ 6 = 0) (z_ret (some (.int ((v0 * 6) + (v1 - v1 / 6 * 6)))))
set_option maxHeartbeats 2000000 in
set_option maxRecDepth 20000 in
theorem coX11_cell (l : Launch) (e : Nat) (he : 0 ≤ e) (v0 : Int32) (v1 : Int32) : zCo l (e + 1) 0 0 iX11_cell 0 [(0, .int v0), (1, .int v1)] [] (X11_cell v0 v1) := by
  unfold X11_cell
  refine zco_p tkX11_cell 0 5 (pc' := 7) (L' := [(0, .int v0), (1, .int v1)]) (S' := [.int 6, .int v1, .int (v0 * 6)]) rfl ?_
  refine zco_irem (zdk (cc := cX11_cell) (q := (7, .irem, 1)) tkX11_cell 5 rfl) ?_
  refine zco_p tkX11_cell 6 1 (pc' := 9) (L' := [(0, .int v0), (1, .int v1)]) (S' := [.int ((v0 * 6) + (v1 - v1 / 6 * 6))]) rfl ?_
  exact zco_iret rfl rfl rfl (zdk (cc := cX11_cell) (q := (9, .ireturn, 1)) tkX11_cell 7 rfl)
theorem mtX11_cell (l : Launch) (d : Nat) (hd : 1 ≤ d) (v0 : Int32) (v1 : Int32) : zMet l d 0 0 yX11_cell cX11_cell 2 (Option.some .int) [.int v0, .int v1] (X11_cell v0 v1) := by
  obtain ⟨e, rfl⟩ : ∃ e, d = e + 1 := ⟨d - 1, by omega⟩
  exact zmet_of (own := RX11) (ini := false) (by decide +kernel) rfl (fun _ => by contradiction) (Nat.le_of_ble_eq_true rfl) (coX11_cell l e (by omega) v0 v1)
abbrev iX1_areKin : zI := (RX1, cX1_areKin, 3, (Option.some .boolean), false)
def tX1_areKin : List (Nat × Instr × Nat) := [(0, .aload_n 0, 1), (1, .getfield 27, 3), (4, .iload_n 1, 1), (5, .iload_n 2, 1), (6, .invokestatic 92, 3), (9, .baload, 1), (10, .ireturn, 1)]
set_option maxRecDepth 100000 in
theorem tkX1_areKin : ∀ q ∈ tX1_areKin, decode cX1_areKin q.1 = .ok q.2 := by decide +kernel
theorem vmX1_areKin : zVM yX1_areKin cX1_areKin 3 (Option.some .boolean) 2 1 := ⟨kX1_areKin, q_804, q_805, q_153, ⟨_, rfl, rfl⟩, by decide +kernel, by decide⟩
def X1_areKin (v0 : Nat) (v1 : Int32) (v2 : Int32) : zM := z_gr 1 5 v0 fun x1 => z_ci (X11_cell v1 v2) fun y2 => z_la 21 x1 y2 fun x3 => z_rb x3
set_option maxHeartbeats 2000000 in
set_option maxRecDepth 20000 in
theorem coX1_areKin (l : Launch) (e : Nat) (he : 1 ≤ e) (v0 : Nat) (v1 : Int32) (v2 : Int32) : zCo l (e + 1) 0 0 iX1_areKin 0 [(0, .ref v0), (1, .int v1), (2, .int v2)] [] (X1_areKin v0 v1 v2) := by
  unfold X1_areKin
  refine zco_p tkX1_areKin 0 1 (pc' := 1) (L' := [(0, .ref v0), (1, .int v1), (2, .int v2)]) (S' := [.ref v0]) rfl ?_
  refine zco_gr fl_1_27 rfl (zdk (cc := cX1_areKin) (q := (1, .getfield 27, 3)) tkX1_areKin 1 rfl) (fun x1 => ?_)
  refine zco_p tkX1_areKin 2 2 (pc' := 6) (L' := [(0, .ref v0), (1, .int v1), (2, .int v2)]) (S' := [.int v2, .int v1, .ref x1]) rfl ?_
  refine zco_Ni (rc := 0) (rs := 0) (mc := 0) (ms := 0) (As := [.int v1, .int v2]) (S := [.ref x1]) vmX11_cell (mtX11_cell l e (by omega) v1 v2) (host := "ClothWedding") (by decide +kernel) rfl rfl (Nat.le_of_ble_eq_true rfl) (zdk (cc := cX1_areKin) (q := (6, .invokestatic 92, 3)) tkX1_areKin 4 rfl) (fun y2 => ?_)
  refine zco_baload (zdk (cc := cX1_areKin) (q := (9, .baload, 1)) tkX1_areKin 5 rfl) (fun x3 => ?_)
  exact zco_zret rfl rfl rfl (zdk (cc := cX1_areKin) (q := (10, .ireturn, 1)) tkX1_areKin 6 rfl)
theorem mtX1_areKin (l : Launch) (d : Nat) (hd : 2 ≤ d) (v0 : Nat) (v1 : Int32) (v2 : Int32) : zMet l d 0 0 yX1_areKin cX1_areKin 3 (Option.some .boolean) [.ref v0, .int v1, .int v2] (X1_areKin v0 v1 v2) := by
  obtain ⟨e, rfl⟩ : ∃ e, d = e + 1 := ⟨d - 1, by omega⟩
  exact zmet_of (own := RX1) (ini := false) (by decide +kernel) rfl (fun _ => by contradiction) (Nat.le_of_ble_eq_true rfl) (coX1_areKin l e (by omega) v0 v1 v2)
abbrev iX2_kinship : zI := (RX2, cX2_kinship, 5, (Option.none : Option FieldType), false)
def tX2_kinship : List (Nat × Instr × Nat) := [(0, .aload_n 0, 1), (1, .getfield 15, 3), (4, .invokevirtual 79, 3), (7, .aload_n 0, 1), (8, .aload_n 1, 1), (9, .iconst (-1), 1), (10, .invokevirtual 130, 3), (13, .istore_n 2, 1), (14, .aload_n 0, 1), (15, .getfield 15, 3), (18, .invokevirtual 37, 3), (21, .istore_n 3, 1), (22, .iload_n 2, 1), (23, .iconst (-1), 1), (24, .if_icmp .ne 7, 3), (27, .iconst (-1), 1), (28, .goto 9, 3), (31, .aload_n 0, 1), (32, .aload_n 1, 1), (33, .iload_n 2, 1), (34, .invokevirtual 130, 3), (37, .istore 4, 2), (39, .iload 4, 2), (41, .iconst (-1), 1), (42, .if_icmp .ne 4, 3), (45, .return_, 1), (46, .aload_n 1, 1), (47, .iload_n 2, 1), (48, .iload 4, 2), (50, .invokevirtual 134, 3), (53, .ifCond .eq 13, 3), (56, .aload_n 0, 1), (57, .getfield 15, 3), (60, .iconst 3, 1), (61, .iload_n 3, 1), (62, .invokevirtual 41, 3), (65, .return_, 1), (66, .aload_n 1, 1), (67, .getfield 138, 3), (70, .iload_n 2, 1), (71, .iload 4, 2), (73, .invokestatic 142, 3), (76, .iconst 1, 1), (77, .bastore, 1), (78, .aload_n 1, 1), (79, .getfield 138, 3), (82, .iload 4, 2), (84, .iload_n 2, 1), (85, .invokestatic 142, 3), (88, .iconst 1, 1), (89, .bastore, 1), (90, .aload_n 1, 1), (91, .dup, 1), (92, .getfield 145, 3), (95, .iconst 1, 1), (96, .iadd, 1), (97, .putfield 145, 3), (100, .return_, 1)]
set_option maxRecDepth 100000 in
theorem tkX2_kinship : ∀ q ∈ tX2_kinship, decode cX2_kinship q.1 = .ok q.2 := by decide +kernel
theorem vmX2_kinship : zVM yX2_kinship cX2_kinship 5 (Option.none : Option FieldType) 1 2 := ⟨kX2_kinship, q_794, q_7, q_152, ⟨_, rfl, rfl⟩, by decide +kernel, by decide⟩
def X2_kinship_J37 (v0 : Nat) (v1 : Nat) (v2 : Int32) (v3 : Int32) (s0 : Int32) : zM := z_if (s0 = ((-1))) (z_ret none)
   (z_rc 1 v1 (z_ci (X1_areKin v1 v2 s0) fun y1 => z_if (y1 = 0) (z_gr 1 5 v1 fun x2 => z_ci (X11_cell v2 s0) fun y3 => z_sa 21 x2 y3 (vp_nar .boolean 1) (z_gr 1 5 v1 fun x4 => z_ci (X11_cell s0 v2) fun y5 => z_sa 21 x4 y5 (vp_nar .boolean 1) (z_gi 1 6 v1 fun x6 => z_pi 1 6 v1 (x6 + 1) (z_ret none))))
   (z_gr 2 0 v0 fun x7 => z_rc 9 x7 (z_cv (X9_fail x7 3 v3) (z_ret none)))))
set_option maxHeartbeats 2000000 in
set_option maxRecDepth 20000 in
theorem coX2_kinship_J37 (l : Launch) (e : Nat) (he : 11 ≤ e) (v0 : Nat) (v1 : Nat) (v2 : Int32) (v3 : Int32) (s0 : Int32) : zCo l (e + 1) 0 0 iX2_kinship 37 [(0, .ref v0), (1, .ref v1), (2, .int v2), (3, .int v3)] [.int s0] (X2_kinship_J37 v0 v1 v2 v3 s0) := by
  unfold X2_kinship_J37
  refine zco_p tkX2_kinship 21 3 (pc' := 42) (L' := [(4, .int s0), (0, .ref v0), (1, .ref v1), (2, .int v2), (3, .int v3)]) (S' := [.int ((-1)), .int s0]) rfl ?_
  refine zco_icmp_ne (tgt := 46) (zdk (cc := cX2_kinship) (q := (42, .if_icmp .ne 4, 3)) tkX2_kinship 24 rfl) rfl ?_ ?_
  · refine zco_p tkX2_kinship 26 3 (pc' := 50) (L' := [(4, .int s0), (0, .ref v0), (1, .ref v1), (2, .int v2), (3, .int v3)]) (S' := [.int s0, .int v2, .ref v1]) rfl ?_
    refine zco_Vi (rc := 0) (rs := 0) (mc := 0) (ms := 0) (As := [.int v2, .int s0]) (S := []) vmX1_areKin (mtX1_areKin l e (by omega) v1 v2 s0) q_803 rfl rfl (Nat.le_of_ble_eq_true rfl) (zdk (cc := cX2_kinship) (q := (50, .invokevirtual 134, 3)) tkX2_kinship 29 rfl) (fun y1 => ?_)
    refine zco_if_eq (tgt := 66) (zdk (cc := cX2_kinship) (q := (53, .ifCond .eq 13, 3)) tkX2_kinship 30 rfl) rfl ?_ ?_
    · refine zco_p tkX2_kinship 37 1 (pc' := 67) (L' := [(4, .int s0), (0, .ref v0), (1, .ref v1), (2, .int v2), (3, .int v3)]) (S' := [.ref v1]) rfl ?_
      refine zco_gr fl_2_138 rfl (zdk (cc := cX2_kinship) (q := (67, .getfield 138, 3)) tkX2_kinship 38 rfl) (fun x2 => ?_)
      refine zco_p tkX2_kinship 39 2 (pc' := 73) (L' := [(4, .int s0), (0, .ref v0), (1, .ref v1), (2, .int v2), (3, .int v3)]) (S' := [.int s0, .int v2, .ref x2]) rfl ?_
      refine zco_Ni (rc := 0) (rs := 0) (mc := 0) (ms := 0) (As := [.int v2, .int s0]) (S := [.ref x2]) vmX11_cell (mtX11_cell l e (by omega) v2 s0) (host := "ClothWedding") (by decide +kernel) rfl rfl (Nat.le_of_ble_eq_true rfl) (zdk (cc := cX2_kinship) (q := (73, .invokestatic 142, 3)) tkX2_kinship 41 rfl) (fun y3 => ?_)
      refine zco_p tkX2_kinship 42 1 (pc' := 77) (L' := [(4, .int s0), (0, .ref v0), (1, .ref v1), (2, .int v2), (3, .int v3)]) (S' := [.int 1, .int y3, .ref x2]) rfl ?_
      refine zco_bastore (zdk (cc := cX2_kinship) (q := (77, .bastore, 1)) tkX2_kinship 43 rfl) ?_
      refine zco_p tkX2_kinship 44 1 (pc' := 79) (L' := [(4, .int s0), (0, .ref v0), (1, .ref v1), (2, .int v2), (3, .int v3)]) (S' := [.ref v1]) rfl ?_
      refine zco_gr fl_2_138 rfl (zdk (cc := cX2_kinship) (q := (79, .getfield 138, 3)) tkX2_kinship 45 rfl) (fun x4 => ?_)
      refine zco_p tkX2_kinship 46 2 (pc' := 85) (L' := [(4, .int s0), (0, .ref v0), (1, .ref v1), (2, .int v2), (3, .int v3)]) (S' := [.int v2, .int s0, .ref x4]) rfl ?_
      refine zco_Ni (rc := 0) (rs := 0) (mc := 0) (ms := 0) (As := [.int s0, .int v2]) (S := [.ref x4]) vmX11_cell (mtX11_cell l e (by omega) s0 v2) (host := "ClothWedding") (by decide +kernel) rfl rfl (Nat.le_of_ble_eq_true rfl) (zdk (cc := cX2_kinship) (q := (85, .invokestatic 142, 3)) tkX2_kinship 48 rfl) (fun y5 => ?_)
      refine zco_p tkX2_kinship 49 1 (pc' := 89) (L' := [(4, .int s0), (0, .ref v0), (1, .ref v1), (2, .int v2), (3, .int v3)]) (S' := [.int 1, .int y5, .ref x4]) rfl ?_
      refine zco_bastore (zdk (cc := cX2_kinship) (q := (89, .bastore, 1)) tkX2_kinship 50 rfl) ?_
      refine zco_p tkX2_kinship 51 2 (pc' := 92) (L' := [(4, .int s0), (0, .ref v0), (1, .ref v1), (2, .int v2), (3, .int v3)]) (S' := [.ref v1, .ref v1]) rfl ?_
      refine zco_gi fl_2_145 rfl (zdk (cc := cX2_kinship) (q := (92, .getfield 145, 3)) tkX2_kinship 53 rfl) (fun x6 => ?_)
      refine zco_p tkX2_kinship 54 2 (pc' := 97) (L' := [(4, .int s0), (0, .ref v0), (1, .ref v1), (2, .int v2), (3, .int v3)]) (S' := [.int (x6 + 1), .ref v1]) rfl ?_
      refine zco_pi fl_2_145 rfl rfl (zdk (cc := cX2_kinship) (q := (97, .putfield 145, 3)) tkX2_kinship 56 rfl) ?_
      exact zco_vret rfl rfl rfl (zdk (cc := cX2_kinship) (q := (100, .return_, 1)) tkX2_kinship 57 rfl)
    · refine zco_p tkX2_kinship 31 1 (pc' := 57) (L' := [(4, .int s0), (0, .ref v0), (1, .ref v1), (2, .int v2), (3, .int v3)]) (S' := [.ref v0]) rfl ?_
      refine zco_gr fl_2_15 rfl (zdk (cc := cX2_kinship) (q := (57, .getfield 15, 3)) tkX2_kinship 32 rfl) (fun x7 => ?_)
      refine zco_p tkX2_kinship 33 2 (pc' := 62) (L' := [(4, .int s0), (0, .ref v0), (1, .ref v1), (2, .int v2), (3, .int v3)]) (S' := [.int v3, .int 3, .ref x7]) rfl ?_
      refine zco_Vv (rc := 0) (rs := 0) (mc := 0) (ms := 0) (As := [.int 3, .int v3]) (S := []) vmX9_fail (mtX9_fail l e (by omega) x7 3 v3) q_675 rfl rfl (Nat.le_of_ble_eq_true rfl) (zdk (cc := cX2_kinship) (q := (62, .invokevirtual 41, 3)) tkX2_kinship 35 rfl) ?_
      exact zco_vret rfl rfl rfl (zdk (cc := cX2_kinship) (q := (65, .return_, 1)) tkX2_kinship 36 rfl)
  · exact zco_vret rfl rfl rfl (zdk (cc := cX2_kinship) (q := (45, .return_, 1)) tkX2_kinship 25 rfl)
def X2_kinship (v0 : Nat) (v1 : Nat) : zM := z_gr 2 0 v0 fun x1 => z_rc 9 x1 (z_cv (X9_passWord x1) (z_rc 2 v0 (z_ci (X2_asked v0 v1 ((-1))) fun y2 => z_gr 2 0 v0 fun x3 => z_rc 9 x3 (z_ci (X9_begin x3) fun y4 => z_if (y2 = ((-1))) (X2_kinship_J37 v0 v1 y2 y4 ((-1)))
   (z_rc 2 v0 (z_ci (X2_asked v0 v1 y2) fun y5 => X2_kinship_J37 v0 v1 y2 y4 y5))))))
set_option maxHeartbeats 2000000 in
set_option maxRecDepth 20000 in
theorem coX2_kinship (l : Launch) (e : Nat) (he : 11 ≤ e) (v0 : Nat) (v1 : Nat) : zCo l (e + 1) 0 0 iX2_kinship 0 [(0, .ref v0), (1, .ref v1)] [] (X2_kinship v0 v1) := by
  unfold X2_kinship
  refine zco_p tkX2_kinship 0 1 (pc' := 1) (L' := [(0, .ref v0), (1, .ref v1)]) (S' := [.ref v0]) rfl ?_
  refine zco_gr fl_2_15 rfl (zdk (cc := cX2_kinship) (q := (1, .getfield 15, 3)) tkX2_kinship 1 rfl) (fun x1 => ?_)
  refine zco_Vv (rc := 0) (rs := 0) (mc := 0) (ms := 0) (As := []) (S := []) vmX9_passWord (mtX9_passWord l e (by omega) x1) q_759 rfl rfl (Nat.le_of_ble_eq_true rfl) (zdk (cc := cX2_kinship) (q := (4, .invokevirtual 79, 3)) tkX2_kinship 2 rfl) ?_
  refine zco_p tkX2_kinship 3 3 (pc' := 10) (L' := [(0, .ref v0), (1, .ref v1)]) (S' := [.int ((-1)), .ref v1, .ref v0]) rfl ?_
  refine zco_Vi (rc := 0) (rs := 0) (mc := 0) (ms := 0) (As := [.ref v1, .int ((-1))]) (S := []) vmX2_asked (mtX2_asked l e (by omega) v0 v1 ((-1))) q_796 rfl rfl (Nat.le_of_ble_eq_true rfl) (zdk (cc := cX2_kinship) (q := (10, .invokevirtual 130, 3)) tkX2_kinship 6 rfl) (fun y2 => ?_)
  refine zco_p tkX2_kinship 7 2 (pc' := 15) (L' := [(2, .int y2), (0, .ref v0), (1, .ref v1)]) (S' := [.ref v0]) rfl ?_
  refine zco_gr fl_2_15 rfl (zdk (cc := cX2_kinship) (q := (15, .getfield 15, 3)) tkX2_kinship 9 rfl) (fun x3 => ?_)
  refine zco_Vi (rc := 0) (rs := 0) (mc := 0) (ms := 0) (As := []) (S := []) vmX9_begin (mtX9_begin l e (by omega) x3) q_674 rfl rfl (Nat.le_of_ble_eq_true rfl) (zdk (cc := cX2_kinship) (q := (18, .invokevirtual 37, 3)) tkX2_kinship 10 rfl) (fun y4 => ?_)
  refine zco_p tkX2_kinship 11 3 (pc' := 24) (L' := [(3, .int y4), (2, .int y2), (0, .ref v0), (1, .ref v1)]) (S' := [.int ((-1)), .int y2]) rfl ?_
  refine zco_icmp_ne (tgt := 31) (zdk (cc := cX2_kinship) (q := (24, .if_icmp .ne 7, 3)) tkX2_kinship 14 rfl) rfl ?_ ?_
  · refine zco_p tkX2_kinship 17 3 (pc' := 34) (L' := [(3, .int y4), (2, .int y2), (0, .ref v0), (1, .ref v1)]) (S' := [.int y2, .ref v1, .ref v0]) rfl ?_
    refine zco_Vi (rc := 0) (rs := 0) (mc := 0) (ms := 0) (As := [.ref v1, .int y2]) (S := []) vmX2_asked (mtX2_asked l e (by omega) v0 v1 y2) q_796 rfl rfl (Nat.le_of_ble_eq_true rfl) (zdk (cc := cX2_kinship) (q := (34, .invokevirtual 130, 3)) tkX2_kinship 20 rfl) (fun y5 => ?_)
    exact zco_sub [2, 3, 1, 0] rfl (coX2_kinship_J37 l e he v0 v1 y2 y4 y5)
  · refine zco_p tkX2_kinship 15 2 (pc' := 37) (L' := [(3, .int y4), (2, .int y2), (0, .ref v0), (1, .ref v1)]) (S' := [.int ((-1))]) rfl ?_
    exact zco_sub [2, 3, 1, 0] rfl (coX2_kinship_J37 l e he v0 v1 y2 y4 ((-1)))
theorem mtX2_kinship (l : Launch) (d : Nat) (hd : 12 ≤ d) (v0 : Nat) (v1 : Nat) : zMet l d 0 0 yX2_kinship cX2_kinship 5 (Option.none : Option FieldType) [.ref v0, .ref v1] (X2_kinship v0 v1) := by
  obtain ⟨e, rfl⟩ : ∃ e, d = e + 1 := ⟨d - 1, by omega⟩
  exact zmet_of (own := RX2) (ini := false) (by decide +kernel) rfl (fun _ => by contradiction) (Nat.le_of_ble_eq_true rfl) (coX2_kinship l e (by omega) v0 v1)
abbrev iX2_bearing : zI := (RX2, cX2_bearing, 5, (Option.none : Option FieldType), false)
def tX2_bearing : List (Nat × Instr × Nat) := [(0, .aload_n 0, 1), (1, .getfield 15, 3), (4, .invokevirtual 79, 3), (7, .aload_n 0, 1), (8, .aload_n 1, 1), (9, .iconst (-1), 1), (10, .invokevirtual 130, 3), (13, .istore_n 3, 1), (14, .iload_n 3, 1), (15, .iconst (-1), 1), (16, .if_icmp .ne 7, 3), (19, .iconst (-1), 1), (20, .goto 9, 3), (23, .aload_n 0, 1), (24, .aload_n 1, 1), (25, .iload_n 3, 1), (26, .invokevirtual 130, 3), (29, .istore 4, 2), (31, .iload 4, 2), (33, .iconst (-1), 1), (34, .if_icmp .eq 21, 3), (37, .aload_n 2, 1), (38, .iload_n 3, 1), (39, .iload 4, 2), (41, .invokestatic 142, 3), (44, .aload_n 0, 1), (45, .getfield 15, 3), (48, .iconst 0, 1), (49, .bipush 9, 2), (51, .invokevirtual 82, 3), (54, .iastore, 1), (55, .return_, 1)]
set_option maxRecDepth 100000 in
theorem tkX2_bearing : ∀ q ∈ tX2_bearing, decode cX2_bearing q.1 = .ok q.2 := by decide +kernel
theorem vmX2_bearing : zVM yX2_bearing cX2_bearing 5 (Option.none : Option FieldType) 2 2 := ⟨kX2_bearing, q_813, q_9, q_152, ⟨_, rfl, rfl⟩, by decide +kernel, by decide⟩
def X2_bearing_J29 (v0 : Nat) (v2 : Nat) (v3 : Int32) (s0 : Int32) : zM := z_if (s0 = ((-1))) (z_ret none)
   (z_ci (X11_cell v3 s0) fun y1 => z_gr 2 0 v0 fun x2 => z_rc 9 x2 (z_ci (X9_takeNumber x2 0 9) fun y3 => z_sa 20 v2 y1 y3 (z_ret none)))
set_option maxHeartbeats 2000000 in
set_option maxRecDepth 20000 in
theorem coX2_bearing_J29 (l : Launch) (e : Nat) (he : 11 ≤ e) (v0 : Nat) (v2 : Nat) (v3 : Int32) (s0 : Int32) : zCo l (e + 1) 0 0 iX2_bearing 29 [(0, .ref v0), (2, .ref v2), (3, .int v3)] [.int s0] (X2_bearing_J29 v0 v2 v3 s0) := by
  unfold X2_bearing_J29
  refine zco_p tkX2_bearing 17 3 (pc' := 34) (L' := [(4, .int s0), (0, .ref v0), (2, .ref v2), (3, .int v3)]) (S' := [.int ((-1)), .int s0]) rfl ?_
  refine zco_icmp_eq (tgt := 55) (zdk (cc := cX2_bearing) (q := (34, .if_icmp .eq 21, 3)) tkX2_bearing 20 rfl) rfl ?_ ?_
  · exact zco_vret rfl rfl rfl (zdk (cc := cX2_bearing) (q := (55, .return_, 1)) tkX2_bearing 31 rfl)
  · refine zco_p tkX2_bearing 21 3 (pc' := 41) (L' := [(4, .int s0), (0, .ref v0), (2, .ref v2), (3, .int v3)]) (S' := [.int s0, .int v3, .ref v2]) rfl ?_
    refine zco_Ni (rc := 0) (rs := 0) (mc := 0) (ms := 0) (As := [.int v3, .int s0]) (S := [.ref v2]) vmX11_cell (mtX11_cell l e (by omega) v3 s0) (host := "ClothWedding") (by decide +kernel) rfl rfl (Nat.le_of_ble_eq_true rfl) (zdk (cc := cX2_bearing) (q := (41, .invokestatic 142, 3)) tkX2_bearing 24 rfl) (fun y1 => ?_)
    refine zco_p tkX2_bearing 25 1 (pc' := 45) (L' := [(4, .int s0), (0, .ref v0), (2, .ref v2), (3, .int v3)]) (S' := [.ref v0, .int y1, .ref v2]) rfl ?_
    refine zco_gr fl_2_15 rfl (zdk (cc := cX2_bearing) (q := (45, .getfield 15, 3)) tkX2_bearing 26 rfl) (fun x2 => ?_)
    refine zco_p tkX2_bearing 27 2 (pc' := 51) (L' := [(4, .int s0), (0, .ref v0), (2, .ref v2), (3, .int v3)]) (S' := [.int 9, .int 0, .ref x2, .int y1, .ref v2]) rfl ?_
    refine zco_Vi (rc := 0) (rs := 0) (mc := 0) (ms := 0) (As := [.int 0, .int 9]) (S := [.int y1, .ref v2]) vmX9_takeNumber (mtX9_takeNumber l e (by omega) x2 0 9) q_786 rfl rfl (Nat.le_of_ble_eq_true rfl) (zdk (cc := cX2_bearing) (q := (51, .invokevirtual 82, 3)) tkX2_bearing 29 rfl) (fun y3 => ?_)
    refine zco_iastore (zdk (cc := cX2_bearing) (q := (54, .iastore, 1)) tkX2_bearing 30 rfl) ?_
    exact zco_vret rfl rfl rfl (zdk (cc := cX2_bearing) (q := (55, .return_, 1)) tkX2_bearing 31 rfl)
def X2_bearing (v0 : Nat) (v1 : Nat) (v2 : Nat) : zM := z_gr 2 0 v0 fun x1 => z_rc 9 x1 (z_cv (X9_passWord x1) (z_rc 2 v0 (z_ci (X2_asked v0 v1 ((-1))) fun y2 => z_if (y2 = ((-1))) (X2_bearing_J29 v0 v2 y2 ((-1)))
   (z_rc 2 v0 (z_ci (X2_asked v0 v1 y2) fun y3 => X2_bearing_J29 v0 v2 y2 y3)))))
set_option maxHeartbeats 2000000 in
set_option maxRecDepth 20000 in
theorem coX2_bearing (l : Launch) (e : Nat) (he : 11 ≤ e) (v0 : Nat) (v1 : Nat) (v2 : Nat) : zCo l (e + 1) 0 0 iX2_bearing 0 [(0, .ref v0), (1, .ref v1), (2, .ref v2)] [] (X2_bearing v0 v1 v2) := by
  unfold X2_bearing
  refine zco_p tkX2_bearing 0 1 (pc' := 1) (L' := [(0, .ref v0), (1, .ref v1), (2, .ref v2)]) (S' := [.ref v0]) rfl ?_
  refine zco_gr fl_2_15 rfl (zdk (cc := cX2_bearing) (q := (1, .getfield 15, 3)) tkX2_bearing 1 rfl) (fun x1 => ?_)
  refine zco_Vv (rc := 0) (rs := 0) (mc := 0) (ms := 0) (As := []) (S := []) vmX9_passWord (mtX9_passWord l e (by omega) x1) q_759 rfl rfl (Nat.le_of_ble_eq_true rfl) (zdk (cc := cX2_bearing) (q := (4, .invokevirtual 79, 3)) tkX2_bearing 2 rfl) ?_
  refine zco_p tkX2_bearing 3 3 (pc' := 10) (L' := [(0, .ref v0), (1, .ref v1), (2, .ref v2)]) (S' := [.int ((-1)), .ref v1, .ref v0]) rfl ?_
  refine zco_Vi (rc := 0) (rs := 0) (mc := 0) (ms := 0) (As := [.ref v1, .int ((-1))]) (S := []) vmX2_asked (mtX2_asked l e (by omega) v0 v1 ((-1))) q_796 rfl rfl (Nat.le_of_ble_eq_true rfl) (zdk (cc := cX2_bearing) (q := (10, .invokevirtual 130, 3)) tkX2_bearing 6 rfl) (fun y2 => ?_)
  refine zco_p tkX2_bearing 7 3 (pc' := 16) (L' := [(3, .int y2), (0, .ref v0), (1, .ref v1), (2, .ref v2)]) (S' := [.int ((-1)), .int y2]) rfl ?_
  refine zco_icmp_ne (tgt := 23) (zdk (cc := cX2_bearing) (q := (16, .if_icmp .ne 7, 3)) tkX2_bearing 10 rfl) rfl ?_ ?_
  · refine zco_p tkX2_bearing 13 3 (pc' := 26) (L' := [(3, .int y2), (0, .ref v0), (1, .ref v1), (2, .ref v2)]) (S' := [.int y2, .ref v1, .ref v0]) rfl ?_
    refine zco_Vi (rc := 0) (rs := 0) (mc := 0) (ms := 0) (As := [.ref v1, .int y2]) (S := []) vmX2_asked (mtX2_asked l e (by omega) v0 v1 y2) q_796 rfl rfl (Nat.le_of_ble_eq_true rfl) (zdk (cc := cX2_bearing) (q := (26, .invokevirtual 130, 3)) tkX2_bearing 16 rfl) (fun y3 => ?_)
    exact zco_sub [1, 3, 0] rfl (coX2_bearing_J29 l e he v0 v2 y2 y3)
  · refine zco_p tkX2_bearing 11 2 (pc' := 29) (L' := [(3, .int y2), (0, .ref v0), (1, .ref v1), (2, .ref v2)]) (S' := [.int ((-1))]) rfl ?_
    exact zco_sub [1, 3, 0] rfl (coX2_bearing_J29 l e he v0 v2 y2 ((-1)))
theorem mtX2_bearing (l : Launch) (d : Nat) (hd : 12 ≤ d) (v0 : Nat) (v1 : Nat) (v2 : Nat) : zMet l d 0 0 yX2_bearing cX2_bearing 5 (Option.none : Option FieldType) [.ref v0, .ref v1, .ref v2] (X2_bearing v0 v1 v2) := by
  obtain ⟨e, rfl⟩ : ∃ e, d = e + 1 := ⟨d - 1, by omega⟩
  exact zmet_of (own := RX2) (ini := false) (by decide +kernel) rfl (fun _ => by contradiction) (Nat.le_of_ble_eq_true rfl) (coX2_bearing l e (by omega) v0 v1 v2)
abbrev iX4_ofChurch : zI := (RX4, cX4_ofChurch, 3, (Option.none : Option FieldType), false)
def tX4_ofChurch : List (Nat × Instr × Nat) := [(0, .aload_n 0, 1), (1, .aload_n 1, 1), (2, .putfield 29, 3), (5, .aload_n 0, 1), (6, .ldc 9, 2), (8, .putfield 11, 3), (11, .aload_n 0, 1), (12, .iload_n 2, 1), (13, .ifCond .lt 19, 3), (16, .iload_n 2, 1), (17, .getstatic 33, 3), (20, .arraylength, 1), (21, .if_icmp .ge 11, 3), (24, .getstatic 33, 3), (27, .iload_n 2, 1), (28, .iaload, 1), (29, .goto 4, 3), (32, .iconst 0, 1), (33, .putfield 17, 3), (36, .aload_n 0, 1), (37, .iconst 0, 1), (38, .putfield 21, 3), (41, .return_, 1)]
set_option maxRecDepth 100000 in
theorem tkX4_ofChurch : ∀ q ∈ tX4_ofChurch, decode cX4_ofChurch q.1 = .ok q.2 := by decide +kernel
theorem vmX4_ofChurch : zVM yX4_ofChurch cX4_ofChurch 3 (Option.none : Option FieldType) 2 4 := ⟨kX4_ofChurch, q_822, q_823, q_151, ⟨_, rfl, rfl⟩, by decide +kernel, by decide⟩
def X4_ofChurch_J33 (v0 : Nat) (s0 : Int32) (s1 : Nat) : zM := z_pi 4 3 s1 s0 (z_pb 4 4 v0 0 (z_ret none))
set_option maxHeartbeats 2000000 in
set_option maxRecDepth 20000 in
theorem coX4_ofChurch_J33 (l : Launch) (e : Nat) (he : 0 ≤ e) (v0 : Nat) (s0 : Int32) (s1 : Nat) : zCo l (e + 1) 0 0 iX4_ofChurch 33 [(0, .ref v0)] [.int s0, .ref s1] (X4_ofChurch_J33 v0 s0 s1) := by
  unfold X4_ofChurch_J33
  refine zco_pi fl_4_17 rfl rfl (zdk (cc := cX4_ofChurch) (q := (33, .putfield 17, 3)) tkX4_ofChurch 18 rfl) ?_
  refine zco_p tkX4_ofChurch 19 2 (pc' := 38) (L' := [(0, .ref v0)]) (S' := [.int 0, .ref v0]) rfl ?_
  refine zco_pb fl_4_21 rfl rfl (zdk (cc := cX4_ofChurch) (q := (38, .putfield 21, 3)) tkX4_ofChurch 21 rfl) ?_
  exact zco_vret rfl rfl rfl (zdk (cc := cX4_ofChurch) (q := (41, .return_, 1)) tkX4_ofChurch 22 rfl)
def X4_ofChurch_J32 (v0 : Nat) (s0 : Nat) : zM := X4_ofChurch_J33 v0 0 s0
set_option maxHeartbeats 2000000 in
set_option maxRecDepth 20000 in
theorem coX4_ofChurch_J32 (l : Launch) (e : Nat) (he : 0 ≤ e) (v0 : Nat) (s0 : Nat) : zCo l (e + 1) 0 0 iX4_ofChurch 32 [(0, .ref v0)] [.ref s0] (X4_ofChurch_J32 v0 s0) := by
  unfold X4_ofChurch_J32
  refine zco_p tkX4_ofChurch 17 1 (pc' := 33) (L' := [(0, .ref v0)]) (S' := [.int 0, .ref s0]) rfl ?_
  exact zco_sub [0] rfl (coX4_ofChurch_J33 l e he v0 0 s0)
def X4_ofChurch (v0 : Nat) (v1 : Nat) (v2 : Int32) : zM := z_pr 4 1 v0 v1 (z_pr 4 2 v0 (zB + 0) (z_if (v2 < 0) (X4_ofChurch_J32 v0 v0)
   (z_if (3 ≤ v2) (X4_ofChurch_J32 v0 v0)
   (z_ck (0 ≤ (v2).toInt ∧ (v2).toInt < 3) (X4_ofChurch_J33 v0 (z_parts (v2).toNatClampNeg) v0)))))
set_option maxHeartbeats 2000000 in
set_option maxRecDepth 20000 in
theorem coX4_ofChurch (l : Launch) (e : Nat) (he : 0 ≤ e) (v0 : Nat) (v1 : Nat) (v2 : Int32) : zCo l (e + 1) 0 0 iX4_ofChurch 0 [(0, .ref v0), (1, .ref v1), (2, .int v2)] [] (X4_ofChurch v0 v1 v2) := by
  unfold X4_ofChurch
  refine zco_p tkX4_ofChurch 0 2 (pc' := 2) (L' := [(0, .ref v0), (1, .ref v1), (2, .int v2)]) (S' := [.ref v1, .ref v0]) rfl ?_
  refine zco_pr fl_4_29 (Or.inl ⟨_, rfl⟩) rfl (zdk (cc := cX4_ofChurch) (q := (2, .putfield 29, 3)) tkX4_ofChurch 2 rfl) ?_
  refine zco_p tkX4_ofChurch 3 1 (pc' := 6) (L' := [(0, .ref v0), (1, .ref v1), (2, .int v2)]) (S' := [.ref v0]) rfl ?_
  refine zco_ldcS (i := 0) rfl (zdk (cc := cX4_ofChurch) (q := (6, .ldc 9, 2)) tkX4_ofChurch 4 rfl) ?_
  refine zco_pr fl_4_11 (Or.inl ⟨_, rfl⟩) rfl (zdk (cc := cX4_ofChurch) (q := (8, .putfield 11, 3)) tkX4_ofChurch 5 rfl) ?_
  refine zco_p tkX4_ofChurch 6 2 (pc' := 13) (L' := [(0, .ref v0), (1, .ref v1), (2, .int v2)]) (S' := [.int v2, .ref v0]) rfl ?_
  refine zco_if_lt (tgt := 32) (zdk (cc := cX4_ofChurch) (q := (13, .ifCond .lt 19, 3)) tkX4_ofChurch 8 rfl) rfl ?_ ?_
  · exact zco_sub [0] rfl (coX4_ofChurch_J32 l e he v0 v0)
  · refine zco_p tkX4_ofChurch 9 1 (pc' := 17) (L' := [(0, .ref v0), (1, .ref v1), (2, .int v2)]) (S' := [.int v2, .ref v0]) rfl ?_
    refine zco_parts (by decide +kernel) (zdk (cc := cX4_ofChurch) (q := (17, .getstatic 33, 3)) tkX4_ofChurch 10 rfl) ?_
    refine zco_plen (zdk (cc := cX4_ofChurch) (q := (20, .arraylength, 1)) tkX4_ofChurch 11 rfl) ?_
    refine zco_icmp_ge (tgt := 32) (zdk (cc := cX4_ofChurch) (q := (21, .if_icmp .ge 11, 3)) tkX4_ofChurch 12 rfl) rfl ?_ ?_
    · exact zco_sub [0] rfl (coX4_ofChurch_J32 l e he v0 v0)
    · refine zco_parts (by decide +kernel) (zdk (cc := cX4_ofChurch) (q := (24, .getstatic 33, 3)) tkX4_ofChurch 13 rfl) ?_
      refine zco_p tkX4_ofChurch 14 1 (pc' := 28) (L' := [(0, .ref v0), (1, .ref v1), (2, .int v2)]) (S' := [.int v2, .ref (zB + 16), .ref v0]) rfl ?_
      refine zco_pld (zdk (cc := cX4_ofChurch) (q := (28, .iaload, 1)) tkX4_ofChurch 15 rfl) ?_
      refine zco_p tkX4_ofChurch 16 1 (pc' := 33) (L' := [(0, .ref v0), (1, .ref v1), (2, .int v2)]) (S' := [.int (z_parts (v2).toNatClampNeg), .ref v0]) rfl ?_
      exact zco_sub [0] rfl (coX4_ofChurch_J33 l e he v0 (z_parts (v2).toNatClampNeg) v0)
theorem mtX4_ofChurch (l : Launch) (d : Nat) (hd : 1 ≤ d) (v0 : Nat) (v1 : Nat) (v2 : Int32) : zMet l d 0 0 yX4_ofChurch cX4_ofChurch 3 (Option.none : Option FieldType) [.ref v0, .ref v1, .int v2] (X4_ofChurch v0 v1 v2) := by
  obtain ⟨e, rfl⟩ : ∃ e, d = e + 1 := ⟨d - 1, by omega⟩
  exact zmet_of (own := RX4) (ini := false) (by decide +kernel) rfl (fun _ => by contradiction) (Nat.le_of_ble_eq_true rfl) (coX4_ofChurch l e (by omega) v0 v1 v2)
abbrev iX4_mayOpen : zI := (RX4, cX4_mayOpen, 3, (Option.some .boolean), false)
def tX4_mayOpen : List (Nat × Instr × Nat) := [(0, .iload_n 1, 1), (1, .bipush 6, 2), (3, .if_icmp .lt 12, 3), (6, .aload_n 0, 1), (7, .getfield 25, 3), (10, .iconst 4, 1), (11, .iload_n 2, 1), (12, .invokevirtual 93, 3), (15, .aload_n 0, 1), (16, .getfield 25, 3), (19, .invokevirtual 89, 3), (22, .ireturn, 1)]
set_option maxRecDepth 100000 in
theorem tkX4_mayOpen : ∀ q ∈ tX4_mayOpen, decode cX4_mayOpen q.1 = .ok q.2 := by decide +kernel
theorem vmX4_mayOpen : zVM yX4_mayOpen cX4_mayOpen 3 (Option.some .boolean) 2 4 := ⟨kX4_mayOpen, q_844, q_13, q_151, ⟨_, rfl, rfl⟩, by decide +kernel, by decide⟩
def X4_mayOpen_J15 (v0 : Nat) : zM := z_gr 4 0 v0 fun x1 => z_rc 9 x1 (z_ci (X9_sound x1) fun y2 => z_rb y2)
set_option maxHeartbeats 2000000 in
set_option maxRecDepth 20000 in
theorem coX4_mayOpen_J15 (l : Launch) (e : Nat) (he : 1 ≤ e) (v0 : Nat) : zCo l (e + 1) 0 0 iX4_mayOpen 15 [(0, .ref v0)] [] (X4_mayOpen_J15 v0) := by
  unfold X4_mayOpen_J15
  refine zco_p tkX4_mayOpen 8 1 (pc' := 16) (L' := [(0, .ref v0)]) (S' := [.ref v0]) rfl ?_
  refine zco_gr fl_4_25 rfl (zdk (cc := cX4_mayOpen) (q := (16, .getfield 25, 3)) tkX4_mayOpen 9 rfl) (fun x1 => ?_)
  refine zco_Vi (rc := 0) (rs := 0) (mc := 0) (ms := 0) (As := []) (S := []) vmX9_sound (mtX9_sound l e (by omega) x1) q_847 rfl rfl (Nat.le_of_ble_eq_true rfl) (zdk (cc := cX4_mayOpen) (q := (19, .invokevirtual 89, 3)) tkX4_mayOpen 10 rfl) (fun y2 => ?_)
  exact zco_zret rfl rfl rfl (zdk (cc := cX4_mayOpen) (q := (22, .ireturn, 1)) tkX4_mayOpen 11 rfl)
def X4_mayOpen (v0 : Nat) (v1 : Int32) (v2 : Int32) : zM := z_if (v1 < 6) (X4_mayOpen_J15 v0)
   (z_gr 4 0 v0 fun x1 => z_rc 9 x1 (z_cv (X9_fail x1 4 v2) (X4_mayOpen_J15 v0)))
set_option maxHeartbeats 2000000 in
set_option maxRecDepth 20000 in
theorem coX4_mayOpen (l : Launch) (e : Nat) (he : 1 ≤ e) (v0 : Nat) (v1 : Int32) (v2 : Int32) : zCo l (e + 1) 0 0 iX4_mayOpen 0 [(0, .ref v0), (1, .int v1), (2, .int v2)] [] (X4_mayOpen v0 v1 v2) := by
  unfold X4_mayOpen
  refine zco_p tkX4_mayOpen 0 2 (pc' := 3) (L' := [(0, .ref v0), (1, .int v1), (2, .int v2)]) (S' := [.int 6, .int v1]) rfl ?_
  refine zco_icmp_lt (tgt := 15) (zdk (cc := cX4_mayOpen) (q := (3, .if_icmp .lt 12, 3)) tkX4_mayOpen 2 rfl) rfl ?_ ?_
  · exact zco_sub [0] rfl (coX4_mayOpen_J15 l e he v0)
  · refine zco_p tkX4_mayOpen 3 1 (pc' := 7) (L' := [(0, .ref v0), (1, .int v1), (2, .int v2)]) (S' := [.ref v0]) rfl ?_
    refine zco_gr fl_4_25 rfl (zdk (cc := cX4_mayOpen) (q := (7, .getfield 25, 3)) tkX4_mayOpen 4 rfl) (fun x1 => ?_)
    refine zco_p tkX4_mayOpen 5 2 (pc' := 12) (L' := [(0, .ref v0), (1, .int v1), (2, .int v2)]) (S' := [.int v2, .int 4, .ref x1]) rfl ?_
    refine zco_Vv (rc := 0) (rs := 0) (mc := 0) (ms := 0) (As := [.int 4, .int v2]) (S := []) vmX9_fail (mtX9_fail l e (by omega) x1 4 v2) q_846 rfl rfl (Nat.le_of_ble_eq_true rfl) (zdk (cc := cX4_mayOpen) (q := (12, .invokevirtual 93, 3)) tkX4_mayOpen 7 rfl) ?_
    exact zco_sub [0] rfl (coX4_mayOpen_J15 l e he v0)
theorem mtX4_mayOpen (l : Launch) (d : Nat) (hd : 2 ≤ d) (v0 : Nat) (v1 : Int32) (v2 : Int32) : zMet l d 0 0 yX4_mayOpen cX4_mayOpen 3 (Option.some .boolean) [.ref v0, .int v1, .int v2] (X4_mayOpen v0 v1 v2) := by
  obtain ⟨e, rfl⟩ : ∃ e, d = e + 1 := ⟨d - 1, by omega⟩
  exact zmet_of (own := RX4) (ini := false) (by decide +kernel) rfl (fun _ => by contradiction) (Nat.le_of_ble_eq_true rfl) (coX4_mayOpen l e (by omega) v0 v1 v2)
abbrev iX9_takeSign : zI := (RX9, cX9_takeSign, 2, (Option.some .boolean), false)
def tX9_takeSign : List (Nat × Instr × Nat) := [(0, .aload_n 0, 1), (1, .invokevirtual 32, 3), (4, .ifCond .eq 15, 3), (7, .aload_n 0, 1), (8, .aload_n 0, 1), (9, .invokevirtual 28, 3), (12, .invokevirtual 36, 3), (15, .iload_n 1, 1), (16, .if_icmp .eq 5, 3), (19, .iconst 0, 1), (20, .ireturn, 1), (21, .aload_n 0, 1), (22, .dup, 1), (23, .getfield 15, 3), (26, .iconst 1, 1), (27, .iadd, 1), (28, .putfield 15, 3), (31, .iconst 1, 1), (32, .ireturn, 1)]
set_option maxRecDepth 100000 in
theorem tkX9_takeSign : ∀ q ∈ tX9_takeSign, decode cX9_takeSign q.1 = .ok q.2 := by decide +kernel
theorem vmX9_takeSign : zVM yX9_takeSign cX9_takeSign 2 (Option.some .boolean) 1 9 := ⟨kX9_takeSign, q_850, q_851, q_148, ⟨_, rfl, rfl⟩, by decide +kernel, by decide⟩
def X9_takeSign (v0 : Nat) (v1 : Int32) : zM := z_rc 9 v0 (z_ci (X9_sound v0) fun y1 => z_if (y1 = 0) (z_rb 0)
   (z_rc 9 v0 (z_ci (X9_begin v0) fun y2 => z_rc 9 v0 (z_ci (X9_byteAt v0 y2) fun y3 => z_if (y3 = v1) (z_gi 9 2 v0 fun x4 => z_pi 9 2 v0 (x4 + 1) (z_rb 1))
   (z_rb 0)))))
set_option maxHeartbeats 2000000 in
set_option maxRecDepth 20000 in
theorem coX9_takeSign (l : Launch) (e : Nat) (he : 1 ≤ e) (v0 : Nat) (v1 : Int32) : zCo l (e + 1) 0 0 iX9_takeSign 0 [(0, .ref v0), (1, .int v1)] [] (X9_takeSign v0 v1) := by
  unfold X9_takeSign
  refine zco_p tkX9_takeSign 0 1 (pc' := 1) (L' := [(0, .ref v0), (1, .int v1)]) (S' := [.ref v0]) rfl ?_
  refine zco_Vi (rc := 0) (rs := 0) (mc := 0) (ms := 0) (As := []) (S := []) vmX9_sound (mtX9_sound l e (by omega) v0) q_692 rfl rfl (Nat.le_of_ble_eq_true rfl) (zdk (cc := cX9_takeSign) (q := (1, .invokevirtual 32, 3)) tkX9_takeSign 1 rfl) (fun y1 => ?_)
  refine zco_if_eq (tgt := 19) (zdk (cc := cX9_takeSign) (q := (4, .ifCond .eq 15, 3)) tkX9_takeSign 2 rfl) rfl ?_ ?_
  · refine zco_p tkX9_takeSign 9 1 (pc' := 20) (L' := [(0, .ref v0), (1, .int v1)]) (S' := [.int 0]) rfl ?_
    exact zco_zret rfl rfl rfl (zdk (cc := cX9_takeSign) (q := (20, .ireturn, 1)) tkX9_takeSign 10 rfl)
  · refine zco_p tkX9_takeSign 3 2 (pc' := 9) (L' := [(0, .ref v0), (1, .int v1)]) (S' := [.ref v0, .ref v0]) rfl ?_
    refine zco_Vi (rc := 0) (rs := 0) (mc := 0) (ms := 0) (As := []) (S := [.ref v0]) vmX9_begin (mtX9_begin l e (by omega) v0) q_670 rfl rfl (Nat.le_of_ble_eq_true rfl) (zdk (cc := cX9_takeSign) (q := (9, .invokevirtual 28, 3)) tkX9_takeSign 5 rfl) (fun y2 => ?_)
    refine zco_Vi (rc := 0) (rs := 0) (mc := 0) (ms := 0) (As := [.int y2]) (S := []) vmX9_byteAt (mtX9_byteAt l e (by omega) v0 y2) q_693 rfl rfl (Nat.le_of_ble_eq_true rfl) (zdk (cc := cX9_takeSign) (q := (12, .invokevirtual 36, 3)) tkX9_takeSign 6 rfl) (fun y3 => ?_)
    refine zco_p tkX9_takeSign 7 1 (pc' := 16) (L' := [(0, .ref v0), (1, .int v1)]) (S' := [.int v1, .int y3]) rfl ?_
    refine zco_icmp_eq (tgt := 21) (zdk (cc := cX9_takeSign) (q := (16, .if_icmp .eq 5, 3)) tkX9_takeSign 8 rfl) rfl ?_ ?_
    · refine zco_p tkX9_takeSign 11 2 (pc' := 23) (L' := [(0, .ref v0), (1, .int v1)]) (S' := [.ref v0, .ref v0]) rfl ?_
      refine zco_gi fl_9_15 rfl (zdk (cc := cX9_takeSign) (q := (23, .getfield 15, 3)) tkX9_takeSign 13 rfl) (fun x4 => ?_)
      refine zco_p tkX9_takeSign 14 2 (pc' := 28) (L' := [(0, .ref v0), (1, .int v1)]) (S' := [.int (x4 + 1), .ref v0]) rfl ?_
      refine zco_pi fl_9_15 rfl rfl (zdk (cc := cX9_takeSign) (q := (28, .putfield 15, 3)) tkX9_takeSign 16 rfl) ?_
      refine zco_p tkX9_takeSign 17 1 (pc' := 32) (L' := [(0, .ref v0), (1, .int v1)]) (S' := [.int 1]) rfl ?_
      exact zco_zret rfl rfl rfl (zdk (cc := cX9_takeSign) (q := (32, .ireturn, 1)) tkX9_takeSign 18 rfl)
    · refine zco_p tkX9_takeSign 9 1 (pc' := 20) (L' := [(0, .ref v0), (1, .int v1)]) (S' := [.int 0]) rfl ?_
      exact zco_zret rfl rfl rfl (zdk (cc := cX9_takeSign) (q := (20, .ireturn, 1)) tkX9_takeSign 10 rfl)
theorem mtX9_takeSign (l : Launch) (d : Nat) (hd : 2 ≤ d) (v0 : Nat) (v1 : Int32) : zMet l d 0 0 yX9_takeSign cX9_takeSign 2 (Option.some .boolean) [.ref v0, .int v1] (X9_takeSign v0 v1) := by
  obtain ⟨e, rfl⟩ : ∃ e, d = e + 1 := ⟨d - 1, by omega⟩
  exact zmet_of (own := RX9) (ini := false) (by decide +kernel) rfl (fun _ => by contradiction) (Nat.le_of_ble_eq_true rfl) (coX9_takeSign l e (by omega) v0 v1)
