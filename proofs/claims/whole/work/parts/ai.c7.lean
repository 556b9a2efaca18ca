abbrev iX11_steady : zI := (RX11, cX11_steady, 3, (Option.some .int), false)
def tX11_steady : List (Nat × Instr × Nat) := [(0, .aload_n 0, 1), (1, .getfield 51, 3), (4, .iload_n 1, 1), (5, .invokevirtual 184, 3), (8, .istore_n 2, 1), (9, .iload_n 2, 1), (10, .iconst (-1), 1), (11, .if_icmp .ne 5, 3), (14, .iconst (-1), 1), (15, .ireturn, 1), (16, .aload_n 0, 1), (17, .getfield 86, 3), (20, .aload_n 0, 1), (21, .getfield 51, 3), (24, .aload_n 0, 1), (25, .getfield 61, 3), (28, .invokevirtual 267, 3), (31, .aload_n 0, 1), (32, .getfield 51, 3), (35, .aload_n 0, 1), (36, .getfield 86, 3), (39, .getfield 264, 3), (42, .iload_n 2, 1), (43, .iaload, 1), (44, .invokevirtual 202, 3), (47, .ireturn, 1)]
set_option maxRecDepth 100000 in
theorem tkX11_steady : ∀ q ∈ tX11_steady, decode cX11_steady q.1 = .ok q.2 := by decide +kernel
theorem vmX11_steady : zVM yX11_steady cX11_steady 3 (Option.some .int) 1 11 := ⟨kX11_steady, q_1102, q_1103, q_149, ⟨_, rfl, rfl⟩, by decide +kernel, by decide⟩
set_option maxHeartbeats 2000000 in
set_option maxRecDepth 20000 in
theorem coX11_steady (l : Launch) (e : Nat) (he : 4 ≤ e) (v0 : Nat) (v1 : Int32) : zCo l (e + 1) 0 0 iX11_steady 0 [(0, .ref v0), (1, .int v1)] [] (X11_steady v0 v1) := by
  unfold X11_steady
  refine zco_p tkX11_steady 0 1 (pc' := 1) (L' := [(0, .ref v0), (1, .int v1)]) (S' := [.ref v0]) rfl ?_
  refine zco_gr fl_11_51 rfl (zdk (cc := cX11_steady) (q := (1, .getfield 51, 3)) tkX11_steady 1 rfl) (fun x1 => ?_)
  refine zco_p tkX11_steady 2 1 (pc' := 5) (L' := [(0, .ref v0), (1, .int v1)]) (S' := [.int v1, .ref x1]) rfl ?_
  refine zco_Vi (rc := 0) (rs := 0) (mc := 0) (ms := 0) (As := [.int v1]) (S := []) vmX1_slot (mtX1_slot l e (by omega) x1 v1) q_932 rfl rfl (Nat.le_of_ble_eq_true rfl) (zdk (cc := cX11_steady) (q := (5, .invokevirtual 184, 3)) tkX11_steady 3 rfl) (fun y2 => ?_)
  refine zco_p tkX11_steady 4 3 (pc' := 11) (L' := [(2, .int y2), (0, .ref v0), (1, .int v1)]) (S' := [.int ((-1)), .int y2]) rfl ?_
  refine zco_icmp_ne (tgt := 16) (zdk (cc := cX11_steady) (q := (11, .if_icmp .ne 5, 3)) tkX11_steady 7 rfl) rfl ?_ ?_
  · refine zco_p tkX11_steady 10 1 (pc' := 17) (L' := [(2, .int y2), (0, .ref v0), (1, .int v1)]) (S' := [.ref v0]) rfl ?_
    refine zco_gr fl_11_86 rfl (zdk (cc := cX11_steady) (q := (17, .getfield 86, 3)) tkX11_steady 11 rfl) (fun x3 => ?_)
    refine zco_p tkX11_steady 12 1 (pc' := 21) (L' := [(2, .int y2), (0, .ref v0), (1, .int v1)]) (S' := [.ref v0, .ref x3]) rfl ?_
    refine zco_gr fl_11_51 rfl (zdk (cc := cX11_steady) (q := (21, .getfield 51, 3)) tkX11_steady 13 rfl) (fun x4 => ?_)
    refine zco_p tkX11_steady 14 1 (pc' := 25) (L' := [(2, .int y2), (0, .ref v0), (1, .int v1)]) (S' := [.ref v0, .ref x4, .ref x3]) rfl ?_
    refine zco_gr fl_11_61 rfl (zdk (cc := cX11_steady) (q := (25, .getfield 61, 3)) tkX11_steady 15 rfl) (fun x5 => ?_)
    refine zco_Vv (rc := 0) (rs := 0) (mc := 0) (ms := 0) (As := [.ref x4, .ref x5]) (S := []) vmX5_findSteady (mtX5_findSteady l e (by omega) x3 x4 x5) q_1105 rfl rfl (Nat.le_of_ble_eq_true rfl) (zdk (cc := cX11_steady) (q := (28, .invokevirtual 267, 3)) tkX11_steady 16 rfl) ?_
    refine zco_p tkX11_steady 17 1 (pc' := 32) (L' := [(2, .int y2), (0, .ref v0), (1, .int v1)]) (S' := [.ref v0]) rfl ?_
    refine zco_gr fl_11_51 rfl (zdk (cc := cX11_steady) (q := (32, .getfield 51, 3)) tkX11_steady 18 rfl) (fun x6 => ?_)
    refine zco_p tkX11_steady 19 1 (pc' := 36) (L' := [(2, .int y2), (0, .ref v0), (1, .int v1)]) (S' := [.ref v0, .ref x6]) rfl ?_
    refine zco_gr fl_11_86 rfl (zdk (cc := cX11_steady) (q := (36, .getfield 86, 3)) tkX11_steady 20 rfl) (fun x7 => ?_)
    refine zco_gr fl_11_264 rfl (zdk (cc := cX11_steady) (q := (39, .getfield 264, 3)) tkX11_steady 21 rfl) (fun x8 => ?_)
    refine zco_p tkX11_steady 22 1 (pc' := 43) (L' := [(2, .int y2), (0, .ref v0), (1, .int v1)]) (S' := [.int y2, .ref x8, .ref x6]) rfl ?_
    refine zco_iaload (zdk (cc := cX11_steady) (q := (43, .iaload, 1)) tkX11_steady 23 rfl) (fun x9 => ?_)
    refine zco_Vi (rc := 0) (rs := 0) (mc := 0) (ms := 0) (As := [.int x9]) (S := []) vmX1_number (mtX1_number l e (by omega) x6 x9) q_944 rfl rfl (Nat.le_of_ble_eq_true rfl) (zdk (cc := cX11_steady) (q := (44, .invokevirtual 202, 3)) tkX11_steady 24 rfl) (fun y10 => ?_)
    exact zco_iret rfl rfl rfl (zdk (cc := cX11_steady) (q := (47, .ireturn, 1)) tkX11_steady 25 rfl)
  · refine zco_p tkX11_steady 8 1 (pc' := 15) (L' := [(2, .int y2), (0, .ref v0), (1, .int v1)]) (S' := [.int ((-1))]) rfl ?_
    exact zco_iret rfl rfl rfl (zdk (cc := cX11_steady) (q := (15, .ireturn, 1)) tkX11_steady 9 rfl)
theorem mtX11_steady (l : Launch) (d : Nat) (hd : 5 ≤ d) (v0 : Nat) (v1 : Int32) : zMet l d 0 0 yX11_steady cX11_steady 3 (Option.some .int) [.ref v0, .int v1] (X11_steady v0 v1) := by
  obtain ⟨e, rfl⟩ : ∃ e, d = e + 1 := ⟨d - 1, by omega⟩
  exact zmet_of (own := RX11) (ini := false) (by decide +kernel) rfl (fun _ => by contradiction) (Nat.le_of_ble_eq_true rfl) (coX11_steady l e (by omega) v0 v1)
abbrev iX5_prefers : zI := (RX5, cX5_prefers, 4, (Option.some .boolean), false)
def tX5_prefers : List (Nat × Instr × Nat) := [(0, .aload_n 0, 1), (1, .getfield 69, 3), (4, .iload_n 1, 1), (5, .iaload, 1), (6, .istore_n 3, 1), (7, .iload_n 3, 1), (8, .iconst (-1), 1), (9, .if_icmp .eq 26, 3), (12, .aload_n 0, 1), (13, .getfield 53, 3), (16, .iload_n 1, 1), (17, .iload_n 2, 1), (18, .invokestatic 58, 3), (21, .iaload, 1), (22, .aload_n 0, 1), (23, .getfield 53, 3), (26, .iload_n 1, 1), (27, .iload_n 3, 1), (28, .invokestatic 58, 3), (31, .iaload, 1), (32, .if_icmp .le 7, 3), (35, .iconst 1, 1), (36, .goto 4, 3), (39, .iconst 0, 1), (40, .ireturn, 1)]
set_option maxRecDepth 100000 in
theorem tkX5_prefers : ∀ q ∈ tX5_prefers, decode cX5_prefers q.1 = .ok q.2 := by decide +kernel
theorem vmX5_prefers : zSM yX5_prefers cX5_prefers 4 (Option.some .boolean) 3 := ⟨kX5_prefers, q_1122, q_159, by decide +kernel, by decide⟩
set_option maxHeartbeats 2000000 in
set_option maxRecDepth 20000 in
theorem coX5_prefers_J35 (l : Launch) (e : Nat) (he : 1 ≤ e)  : zCo l (e + 1) 0 0 iX5_prefers 35 [] [] (X5_prefers_J35 ) := by
  unfold X5_prefers_J35
  refine zco_p tkX5_prefers 21 2 (pc' := 40) (L' := []) (S' := [.int 1]) rfl ?_
  exact zco_zret rfl rfl rfl (zdk (cc := cX5_prefers) (q := (40, .ireturn, 1)) tkX5_prefers 24 rfl)
set_option maxHeartbeats 2000000 in
set_option maxRecDepth 20000 in
theorem coX5_prefers (l : Launch) (e : Nat) (he : 1 ≤ e) (v0 : Nat) (v1 : Int32) (v2 : Int32) : zCo l (e + 1) 0 0 iX5_prefers 0 [(0, .ref v0), (1, .int v1), (2, .int v2)] [] (X5_prefers v0 v1 v2) := by
  unfold X5_prefers
  refine zco_p tkX5_prefers 0 1 (pc' := 1) (L' := [(0, .ref v0), (1, .int v1), (2, .int v2)]) (S' := [.ref v0]) rfl ?_
  refine zco_gr fl_5_69 rfl (zdk (cc := cX5_prefers) (q := (1, .getfield 69, 3)) tkX5_prefers 1 rfl) (fun x1 => ?_)
  refine zco_p tkX5_prefers 2 1 (pc' := 5) (L' := [(0, .ref v0), (1, .int v1), (2, .int v2)]) (S' := [.int v1, .ref x1]) rfl ?_
  refine zco_iaload (zdk (cc := cX5_prefers) (q := (5, .iaload, 1)) tkX5_prefers 3 rfl) (fun x2 => ?_)
  refine zco_p tkX5_prefers 4 3 (pc' := 9) (L' := [(3, .int x2), (0, .ref v0), (1, .int v1), (2, .int v2)]) (S' := [.int ((-1)), .int x2]) rfl ?_
  refine zco_icmp_eq (tgt := 35) (zdk (cc := cX5_prefers) (q := (9, .if_icmp .eq 26, 3)) tkX5_prefers 7 rfl) rfl ?_ ?_
  · exact zco_sub [] rfl (coX5_prefers_J35 l e he )
  · refine zco_p tkX5_prefers 8 1 (pc' := 13) (L' := [(3, .int x2), (0, .ref v0), (1, .int v1), (2, .int v2)]) (S' := [.ref v0]) rfl ?_
    refine zco_gr fl_5_53 rfl (zdk (cc := cX5_prefers) (q := (13, .getfield 53, 3)) tkX5_prefers 9 rfl) (fun x3 => ?_)
    refine zco_p tkX5_prefers 10 2 (pc' := 18) (L' := [(3, .int x2), (0, .ref v0), (1, .int v1), (2, .int v2)]) (S' := [.int v2, .int v1, .ref x3]) rfl ?_
    refine zco_Ni (rc := 0) (rs := 0) (mc := 0) (ms := 0) (As := [.int v1, .int v2]) (S := [.ref x3]) vmX11_cell (mtX11_cell l e (by omega) v1 v2) (host := "ClothWedding") (by decide +kernel) rfl rfl (Nat.le_of_ble_eq_true rfl) (zdk (cc := cX5_prefers) (q := (18, .invokestatic 58, 3)) tkX5_prefers 12 rfl) (fun y4 => ?_)
    refine zco_iaload (zdk (cc := cX5_prefers) (q := (21, .iaload, 1)) tkX5_prefers 13 rfl) (fun x5 => ?_)
    refine zco_p tkX5_prefers 14 1 (pc' := 23) (L' := [(3, .int x2), (0, .ref v0), (1, .int v1), (2, .int v2)]) (S' := [.ref v0, .int x5]) rfl ?_
    refine zco_gr fl_5_53 rfl (zdk (cc := cX5_prefers) (q := (23, .getfield 53, 3)) tkX5_prefers 15 rfl) (fun x6 => ?_)
    refine zco_p tkX5_prefers 16 2 (pc' := 28) (L' := [(3, .int x2), (0, .ref v0), (1, .int v1), (2, .int v2)]) (S' := [.int x2, .int v1, .ref x6, .int x5]) rfl ?_
    refine zco_Ni (rc := 0) (rs := 0) (mc := 0) (ms := 0) (As := [.int v1, .int x2]) (S := [.ref x6, .int x5]) vmX11_cell (mtX11_cell l e (by omega) v1 x2) (host := "ClothWedding") (by decide +kernel) rfl rfl (Nat.le_of_ble_eq_true rfl) (zdk (cc := cX5_prefers) (q := (28, .invokestatic 58, 3)) tkX5_prefers 18 rfl) (fun y7 => ?_)
    refine zco_iaload (zdk (cc := cX5_prefers) (q := (31, .iaload, 1)) tkX5_prefers 19 rfl) (fun x8 => ?_)
    refine zco_icmp_le (tgt := 39) (zdk (cc := cX5_prefers) (q := (32, .if_icmp .le 7, 3)) tkX5_prefers 20 rfl) rfl ?_ ?_
    · refine zco_p tkX5_prefers 23 1 (pc' := 40) (L' := [(3, .int x2), (0, .ref v0), (1, .int v1), (2, .int v2)]) (S' := [.int 0]) rfl ?_
      exact zco_zret rfl rfl rfl (zdk (cc := cX5_prefers) (q := (40, .ireturn, 1)) tkX5_prefers 24 rfl)
    · exact zco_sub [] rfl (coX5_prefers_J35 l e he )
theorem mtX5_prefers (l : Launch) (d : Nat) (hd : 2 ≤ d) (v0 : Nat) (v1 : Int32) (v2 : Int32) : zMet l d 0 0 yX5_prefers cX5_prefers 4 (Option.some .boolean) [.ref v0, .int v1, .int v2] (X5_prefers v0 v1 v2) := by
  obtain ⟨e, rfl⟩ : ∃ e, d = e + 1 := ⟨d - 1, by omega⟩
  exact zmet_of (own := RX5) (ini := false) (by decide +kernel) rfl (fun _ => by contradiction) (Nat.le_of_ble_eq_true rfl) (coX5_prefers l e (by omega) v0 v1 v2)
abbrev iX5_findRather : zI := (RX5, cX5_findRather, 6, (Option.some .int), false)
def tX5_findRather : List (Nat × Instr × Nat) := [(0, .iconst 0, 1), (1, .istore_n 3, 1), (2, .iconst 0, 1), (3, .istore 4, 2), (5, .iload 4, 2), (7, .aload_n 1, 1), (8, .getfield 30, 3), (11, .iconst 0, 1), (12, .iaload, 1), (13, .if_icmp .ge 91, 3), (16, .bipush 6, 2), (18, .istore 5, 2), (20, .iload 5, 2), (22, .bipush 6, 2), (24, .aload_n 1, 1), (25, .getfield 30, 3), (28, .iconst 1, 1), (29, .iaload, 1), (30, .iadd, 1), (31, .if_icmp .ge 67, 3), (34, .aload_n 1, 1), (35, .iload 4, 2), (37, .iload 5, 2), (39, .invokevirtual 49, 3), (42, .ifCond .ne 50, 3), (45, .aload_n 2, 1), (46, .iload 4, 2), (48, .iload 5, 2), (50, .invokestatic 65, 3), (53, .ifCond .eq 39, 3), (56, .aload_n 2, 1), (57, .iload 5, 2), (59, .iload 4, 2), (61, .invokestatic 65, 3), (64, .ifCond .eq 28, 3), (67, .aload_n 0, 1), (68, .getfield 15, 3), (71, .iconst 2, 1), (72, .iload_n 3, 1), (73, .imul, 1), (74, .iload 4, 2), (76, .iastore, 1), (77, .aload_n 0, 1), (78, .getfield 15, 3), (81, .iconst 2, 1), (82, .iload_n 3, 1), (83, .imul, 1), (84, .iconst 1, 1), (85, .iadd, 1), (86, .iload 5, 2), (88, .iastore, 1), (89, .iinc 3 1, 3), (92, .iinc 5 1, 3), (95, .goto (-75), 3), (98, .iinc 4 1, 3), (101, .goto (-96), 3), (104, .iload_n 3, 1), (105, .ireturn, 1)]
set_option maxRecDepth 100000 in
theorem tkX5_findRather : ∀ q ∈ tX5_findRather, decode cX5_findRather q.1 = .ok q.2 := by decide +kernel
theorem vmX5_findRather : zVM yX5_findRather cX5_findRather 6 (Option.some .int) 2 5 := ⟨kX5_findRather, q_1118, q_1119, q_159, ⟨_, rfl, rfl⟩, by decide +kernel, by decide⟩
set_option maxHeartbeats 2000000 in
set_option maxRecDepth 20000 in
theorem coX5_findRather_J98 (l : Launch) (e : Nat) (he : 2 ≤ e) (v0 : Nat) (v1 : Nat) (v2 : Nat) (v3 : Int32) (v4 : Int32) (r5 : Int32 × Int32 → zM) (hr5 : ∀ x : Int32 × Int32, zCo l (e + 1) 0 0 iX5_findRather 5 [(0, .ref v0), (1, .ref v1), (2, .ref v2), (3, .int x.1), (4, .int x.2)] [] (r5 x)) : zCo l (e + 1) 0 0 iX5_findRather 98 [(0, .ref v0), (1, .ref v1), (2, .ref v2), (3, .int v3), (4, .int v4)] [] (X5_findRather_J98 r5 v0 v1 v2 v3 v4) := by
  unfold X5_findRather_J98
  refine zco_p tkX5_findRather 54 2 (pc' := 5) (L' := [(4, .int (v4 + 1)), (0, .ref v0), (1, .ref v1), (2, .ref v2), (3, .int v3)]) (S' := []) rfl ?_
  exact zco_sub [1, 2, 3, 4, 0] rfl (hr5 (v3, v4 + 1))
set_option maxHeartbeats 2000000 in
set_option maxRecDepth 20000 in
theorem coX5_findRather_J92 (l : Launch) (e : Nat) (he : 2 ≤ e) (v0 : Nat) (v1 : Nat) (v2 : Nat) (v3 : Int32) (v4 : Int32) (v5 : Int32) (r5 : Int32 × Int32 → zM) (hr5 : ∀ x : Int32 × Int32, zCo l (e + 1) 0 0 iX5_findRather 5 [(0, .ref v0), (1, .ref v1), (2, .ref v2), (3, .int x.1), (4, .int x.2)] [] (r5 x)) (r20 : Int32 × Int32 → zM) (hr20 : ∀ x : Int32 × Int32, zCo l (e + 1) 0 0 iX5_findRather 20 [(0, .ref v0), (1, .ref v1), (2, .ref v2), (3, .int x.1), (4, .int v4), (5, .int x.2)] [] (r20 x)) : zCo l (e + 1) 0 0 iX5_findRather 92 [(0, .ref v0), (1, .ref v1), (2, .ref v2), (3, .int v3), (4, .int v4), (5, .int v5)] [] (X5_findRather_J92 r5 r20 v0 v1 v2 v3 v4 v5) := by
  unfold X5_findRather_J92
  refine zco_p tkX5_findRather 52 2 (pc' := 20) (L' := [(5, .int (v5 + 1)), (0, .ref v0), (1, .ref v1), (2, .ref v2), (3, .int v3), (4, .int v4)]) (S' := []) rfl ?_
  exact zco_sub [1, 2, 3, 4, 5, 0] rfl (hr20 (v3, v5 + 1))
set_option maxHeartbeats 2000000 in
set_option maxRecDepth 20000 in
theorem coX5_findRather_B20 (l : Launch) (e : Nat) (he : 2 ≤ e) (v0 : Nat) (v1 : Nat) (v2 : Nat) (v4 : Int32) (r5 : Int32 × Int32 → zM) (hr5 : ∀ x : Int32 × Int32, zCo l (e + 1) 0 0 iX5_findRather 5 [(0, .ref v0), (1, .ref v1), (2, .ref v2), (3, .int x.1), (4, .int x.2)] [] (r5 x)) (r20 : Int32 × Int32 → zM) (hr20 : ∀ x : Int32 × Int32, zCo l (e + 1) 0 0 iX5_findRather 20 [(0, .ref v0), (1, .ref v1), (2, .ref v2), (3, .int x.1), (4, .int v4), (5, .int x.2)] [] (r20 x)) (v3 : Int32) (v5 : Int32) : zCo l (e + 1) 0 0 iX5_findRather 20 [(0, .ref v0), (1, .ref v1), (2, .ref v2), (3, .int v3), (4, .int v4), (5, .int v5)] [] (X5_findRather_B20 r5 v0 v1 v2 v4 r20 v3 v5) := by
  unfold X5_findRather_B20
  refine zco_p tkX5_findRather 12 3 (pc' := 25) (L' := [(0, .ref v0), (1, .ref v1), (2, .ref v2), (3, .int v3), (4, .int v4), (5, .int v5)]) (S' := [.ref v1, .int 6, .int v5]) rfl ?_
  refine zco_gr fl_5_30 rfl (zdk (cc := cX5_findRather) (q := (25, .getfield 30, 3)) tkX5_findRather 15 rfl) (fun x1 => ?_)
  refine zco_p tkX5_findRather 16 1 (pc' := 29) (L' := [(0, .ref v0), (1, .ref v1), (2, .ref v2), (3, .int v3), (4, .int v4), (5, .int v5)]) (S' := [.int 1, .ref x1, .int 6, .int v5]) rfl ?_
  refine zco_iaload (zdk (cc := cX5_findRather) (q := (29, .iaload, 1)) tkX5_findRather 17 rfl) (fun x2 => ?_)
  refine zco_p tkX5_findRather 18 1 (pc' := 31) (L' := [(0, .ref v0), (1, .ref v1), (2, .ref v2), (3, .int v3), (4, .int v4), (5, .int v5)]) (S' := [.int (6 + x2), .int v5]) rfl ?_
  refine zco_icmp_ge (tgt := 98) (zdk (cc := cX5_findRather) (q := (31, .if_icmp .ge 67, 3)) tkX5_findRather 19 rfl) rfl ?_ ?_
  · exact zco_sub [0, 1, 2, 3, 4] rfl (coX5_findRather_J98 l e he v0 v1 v2 v3 v4 r5 hr5)
  · refine zco_p tkX5_findRather 20 3 (pc' := 39) (L' := [(0, .ref v0), (1, .ref v1), (2, .ref v2), (3, .int v3), (4, .int v4), (5, .int v5)]) (S' := [.int v5, .int v4, .ref v1]) rfl ?_
    refine zco_Vi (rc := 0) (rs := 0) (mc := 0) (ms := 0) (As := [.int v4, .int v5]) (S := []) vmX1_areKin (mtX1_areKin l e (by omega) v1 v4 v5) q_1094 rfl rfl (Nat.le_of_ble_eq_true rfl) (zdk (cc := cX5_findRather) (q := (39, .invokevirtual 49, 3)) tkX5_findRather 23 rfl) (fun y3 => ?_)
    refine zco_if_ne (tgt := 92) (zdk (cc := cX5_findRather) (q := (42, .ifCond .ne 50, 3)) tkX5_findRather 24 rfl) rfl ?_ ?_
    · exact zco_sub [0, 1, 2, 3, 4, 5] rfl (coX5_findRather_J92 l e he v0 v1 v2 v3 v4 v5 r5 hr5 r20 hr20)
    · refine zco_p tkX5_findRather 25 3 (pc' := 50) (L' := [(0, .ref v0), (1, .ref v1), (2, .ref v2), (3, .int v3), (4, .int v4), (5, .int v5)]) (S' := [.int v5, .int v4, .ref v2]) rfl ?_
      refine zco_Si (rc := 0) (rs := 0) (mc := 0) (ms := 0) (As := [.ref v2, .int v4, .int v5]) (S := []) vmX5_prefers (mtX5_prefers l e (by omega) v2 v4 v5) q_1121 rfl rfl (Nat.le_of_ble_eq_true rfl) (zdk (cc := cX5_findRather) (q := (50, .invokestatic 65, 3)) tkX5_findRather 28 rfl) (fun y4 => ?_)
      refine zco_if_eq (tgt := 92) (zdk (cc := cX5_findRather) (q := (53, .ifCond .eq 39, 3)) tkX5_findRather 29 rfl) rfl ?_ ?_
      · exact zco_sub [0, 1, 2, 3, 4, 5] rfl (coX5_findRather_J92 l e he v0 v1 v2 v3 v4 v5 r5 hr5 r20 hr20)
      · refine zco_p tkX5_findRather 30 3 (pc' := 61) (L' := [(0, .ref v0), (1, .ref v1), (2, .ref v2), (3, .int v3), (4, .int v4), (5, .int v5)]) (S' := [.int v4, .int v5, .ref v2]) rfl ?_
        refine zco_Si (rc := 0) (rs := 0) (mc := 0) (ms := 0) (As := [.ref v2, .int v5, .int v4]) (S := []) vmX5_prefers (mtX5_prefers l e (by omega) v2 v5 v4) q_1121 rfl rfl (Nat.le_of_ble_eq_true rfl) (zdk (cc := cX5_findRather) (q := (61, .invokestatic 65, 3)) tkX5_findRather 33 rfl) (fun y5 => ?_)
        refine zco_if_eq (tgt := 92) (zdk (cc := cX5_findRather) (q := (64, .ifCond .eq 28, 3)) tkX5_findRather 34 rfl) rfl ?_ ?_
        · exact zco_sub [0, 1, 2, 3, 4, 5] rfl (coX5_findRather_J92 l e he v0 v1 v2 v3 v4 v5 r5 hr5 r20 hr20)
        · refine zco_p tkX5_findRather 35 1 (pc' := 68) (L' := [(0, .ref v0), (1, .ref v1), (2, .ref v2), (3, .int v3), (4, .int v4), (5, .int v5)]) (S' := [.ref v0]) rfl ?_
          refine zco_gr fl_5_15 rfl (zdk (cc := cX5_findRather) (q := (68, .getfield 15, 3)) tkX5_findRather 36 rfl) (fun x6 => ?_)
          refine zco_p tkX5_findRather 37 4 (pc' := 76) (L' := [(0, .ref v0), (1, .ref v1), (2, .ref v2), (3, .int v3), (4, .int v4), (5, .int v5)]) (S' := [.int v4, .int (2 * v3), .ref x6]) rfl ?_
          refine zco_iastore (zdk (cc := cX5_findRather) (q := (76, .iastore, 1)) tkX5_findRather 41 rfl) ?_
          refine zco_p tkX5_findRather 42 1 (pc' := 78) (L' := [(0, .ref v0), (1, .ref v1), (2, .ref v2), (3, .int v3), (4, .int v4), (5, .int v5)]) (S' := [.ref v0]) rfl ?_
          refine zco_gr fl_5_15 rfl (zdk (cc := cX5_findRather) (q := (78, .getfield 15, 3)) tkX5_findRather 43 rfl) (fun x7 => ?_)
          refine zco_p tkX5_findRather 44 6 (pc' := 88) (L' := [(0, .ref v0), (1, .ref v1), (2, .ref v2), (3, .int v3), (4, .int v4), (5, .int v5)]) (S' := [.int v5, .int ((2 * v3) + 1), .ref x7]) rfl ?_
          refine zco_iastore (zdk (cc := cX5_findRather) (q := (88, .iastore, 1)) tkX5_findRather 50 rfl) ?_
          refine zco_p tkX5_findRather 51 1 (pc' := 92) (L' := [(3, .int (v3 + 1)), (0, .ref v0), (1, .ref v1), (2, .ref v2), (4, .int v4), (5, .int v5)]) (S' := []) rfl ?_
          exact zco_sub [1, 2, 3, 0, 4, 5] rfl (coX5_findRather_J92 l e he v0 v1 v2 (v3 + 1) v4 v5 r5 hr5 r20 hr20)
set_option maxHeartbeats 2000000 in
set_option maxRecDepth 20000 in
theorem coX5_findRather_B5 (l : Launch) (e : Nat) (he : 2 ≤ e) (v0 : Nat) (v1 : Nat) (v2 : Nat) (r5 : Int32 × Int32 → zM) (hr5 : ∀ x : Int32 × Int32, zCo l (e + 1) 0 0 iX5_findRather 5 [(0, .ref v0), (1, .ref v1), (2, .ref v2), (3, .int x.1), (4, .int x.2)] [] (r5 x)) (v3 : Int32) (v4 : Int32) : zCo l (e + 1) 0 0 iX5_findRather 5 [(0, .ref v0), (1, .ref v1), (2, .ref v2), (3, .int v3), (4, .int v4)] [] (X5_findRather_B5 v0 v1 v2 r5 v3 v4) := by
  unfold X5_findRather_B5
  refine zco_p tkX5_findRather 4 2 (pc' := 8) (L' := [(0, .ref v0), (1, .ref v1), (2, .ref v2), (3, .int v3), (4, .int v4)]) (S' := [.ref v1, .int v4]) rfl ?_
  refine zco_gr fl_5_30 rfl (zdk (cc := cX5_findRather) (q := (8, .getfield 30, 3)) tkX5_findRather 6 rfl) (fun x1 => ?_)
  refine zco_p tkX5_findRather 7 1 (pc' := 12) (L' := [(0, .ref v0), (1, .ref v1), (2, .ref v2), (3, .int v3), (4, .int v4)]) (S' := [.int 0, .ref x1, .int v4]) rfl ?_
  refine zco_iaload (zdk (cc := cX5_findRather) (q := (12, .iaload, 1)) tkX5_findRather 8 rfl) (fun x2 => ?_)
  refine zco_icmp_ge (tgt := 104) (zdk (cc := cX5_findRather) (q := (13, .if_icmp .ge 91, 3)) tkX5_findRather 9 rfl) rfl ?_ ?_
  · refine zco_p tkX5_findRather 56 1 (pc' := 105) (L' := [(0, .ref v0), (1, .ref v1), (2, .ref v2), (3, .int v3), (4, .int v4)]) (S' := [.int v3]) rfl ?_
    exact zco_iret rfl rfl rfl (zdk (cc := cX5_findRather) (q := (105, .ireturn, 1)) tkX5_findRather 57 rfl)
  · refine zco_p tkX5_findRather 10 2 (pc' := 20) (L' := [(5, .int 6), (0, .ref v0), (1, .ref v1), (2, .ref v2), (3, .int v3), (4, .int v4)]) (S' := []) rfl ?_
    exact zco_sub [1, 2, 3, 4, 5, 0] rfl (zco_fix (Lf := fun x : Int32 × Int32 => [(0, .ref v0), (1, .ref v1), (2, .ref v2), (3, .int x.1), (4, .int v4), (5, .int x.2)]) (Sf := fun _ => []) (fun r hr x => coX5_findRather_B20 l e he v0 v1 v2 v4 r5 hr5 r hr x.1 x.2) zFU (v3, 6))
set_option maxHeartbeats 2000000 in
set_option maxRecDepth 20000 in
theorem coX5_findRather (l : Launch) (e : Nat) (he : 2 ≤ e) (v0 : Nat) (v1 : Nat) (v2 : Nat) : zCo l (e + 1) 0 0 iX5_findRather 0 [(0, .ref v0), (1, .ref v1), (2, .ref v2)] [] (X5_findRather v0 v1 v2) := by
  unfold X5_findRather
  refine zco_p tkX5_findRather 0 4 (pc' := 5) (L' := [(4, .int 0), (3, .int 0), (0, .ref v0), (1, .ref v1), (2, .ref v2)]) (S' := []) rfl ?_
  exact zco_sub [2, 3, 4, 1, 0] rfl (zco_fix (Lf := fun x : Int32 × Int32 => [(0, .ref v0), (1, .ref v1), (2, .ref v2), (3, .int x.1), (4, .int x.2)]) (Sf := fun _ => []) (fun r hr x => coX5_findRather_B5 l e he v0 v1 v2 r hr x.1 x.2) zFU (0, 0))
theorem mtX5_findRather (l : Launch) (d : Nat) (hd : 3 ≤ d) (v0 : Nat) (v1 : Nat) (v2 : Nat) : zMet l d 0 0 yX5_findRather cX5_findRather 6 (Option.some .int) [.ref v0, .ref v1, .ref v2] (X5_findRather v0 v1 v2) := by
  obtain ⟨e, rfl⟩ : ∃ e, d = e + 1 := ⟨d - 1, by omega⟩
  exact zmet_of (own := RX5) (ini := false) (by decide +kernel) rfl (fun _ => by contradiction) (Nat.le_of_ble_eq_true rfl) (coX5_findRather l e (by omega) v0 v1 v2)
abbrev iX11_rather : zI := (RX11, cX11_rather, 4, (Option.some .int), false)
def tX11_rather : List (Nat × Instr × Nat) := [(0, .aload_n 0, 1), (1, .getfield 86, 3), (4, .aload_n 0, 1), (5, .getfield 51, 3), (8, .aload_n 0, 1), (9, .getfield 61, 3), (12, .invokevirtual 271, 3), (15, .istore_n 3, 1), (16, .iload_n 1, 1), (17, .iconst (-1), 1), (18, .if_icmp .ne 5, 3), (21, .iload_n 3, 1), (22, .ireturn, 1), (23, .iload_n 1, 1), (24, .ifCond .lt 17, 3), (27, .iload_n 1, 1), (28, .iload_n 3, 1), (29, .if_icmp .ge 12, 3), (32, .iload_n 2, 1), (33, .ifCond .lt 8, 3), (36, .iload_n 2, 1), (37, .iconst 1, 1), (38, .if_icmp .le 5, 3), (41, .iconst (-1), 1), (42, .ireturn, 1), (43, .aload_n 0, 1), (44, .getfield 51, 3), (47, .aload_n 0, 1), (48, .getfield 86, 3), (51, .getfield 274, 3), (54, .iconst 2, 1), (55, .iload_n 1, 1), (56, .imul, 1), (57, .iload_n 2, 1), (58, .iadd, 1), (59, .iaload, 1), (60, .invokevirtual 202, 3), (63, .ireturn, 1)]
set_option maxRecDepth 100000 in
theorem tkX11_rather : ∀ q ∈ tX11_rather, decode cX11_rather q.1 = .ok q.2 := by decide +kernel
theorem vmX11_rather : zVM yX11_rather cX11_rather 4 (Option.some .int) 2 11 := ⟨kX11_rather, q_1114, q_1115, q_149, ⟨_, rfl, rfl⟩, by decide +kernel, by decide⟩
set_option maxHeartbeats 2000000 in
set_option maxRecDepth 20000 in
theorem coX11_rather (l : Launch) (e : Nat) (he : 3 ≤ e) (v0 : Nat) (v1 : Int32) (v2 : Int32) : zCo l (e + 1) 0 0 iX11_rather 0 [(0, .ref v0), (1, .int v1), (2, .int v2)] [] (X11_rather v0 v1 v2) := by
  unfold X11_rather
  refine zco_p tkX11_rather 0 1 (pc' := 1) (L' := [(0, .ref v0), (1, .int v1), (2, .int v2)]) (S' := [.ref v0]) rfl ?_
  refine zco_gr fl_11_86 rfl (zdk (cc := cX11_rather) (q := (1, .getfield 86, 3)) tkX11_rather 1 rfl) (fun x1 => ?_)
  refine zco_p tkX11_rather 2 1 (pc' := 5) (L' := [(0, .ref v0), (1, .int v1), (2, .int v2)]) (S' := [.ref v0, .ref x1]) rfl ?_
  refine zco_gr fl_11_51 rfl (zdk (cc := cX11_rather) (q := (5, .getfield 51, 3)) tkX11_rather 3 rfl) (fun x2 => ?_)
  refine zco_p tkX11_rather 4 1 (pc' := 9) (L' := [(0, .ref v0), (1, .int v1), (2, .int v2)]) (S' := [.ref v0, .ref x2, .ref x1]) rfl ?_
  refine zco_gr fl_11_61 rfl (zdk (cc := cX11_rather) (q := (9, .getfield 61, 3)) tkX11_rather 5 rfl) (fun x3 => ?_)
  refine zco_Vi (rc := 0) (rs := 0) (mc := 0) (ms := 0) (As := [.ref x2, .ref x3]) (S := []) vmX5_findRather (mtX5_findRather l e (by omega) x1 x2 x3) q_1117 rfl rfl (Nat.le_of_ble_eq_true rfl) (zdk (cc := cX11_rather) (q := (12, .invokevirtual 271, 3)) tkX11_rather 6 rfl) (fun y4 => ?_)
  refine zco_p tkX11_rather 7 3 (pc' := 18) (L' := [(3, .int y4), (0, .ref v0), (1, .int v1), (2, .int v2)]) (S' := [.int ((-1)), .int v1]) rfl ?_
  refine zco_icmp_ne (tgt := 23) (zdk (cc := cX11_rather) (q := (18, .if_icmp .ne 5, 3)) tkX11_rather 10 rfl) rfl ?_ ?_
  · refine zco_p tkX11_rather 13 1 (pc' := 24) (L' := [(3, .int y4), (0, .ref v0), (1, .int v1), (2, .int v2)]) (S' := [.int v1]) rfl ?_
    refine zco_if_lt (tgt := 41) (zdk (cc := cX11_rather) (q := (24, .ifCond .lt 17, 3)) tkX11_rather 14 rfl) rfl ?_ ?_
    · refine zco_p tkX11_rather 23 1 (pc' := 42) (L' := [(3, .int y4), (0, .ref v0), (1, .int v1), (2, .int v2)]) (S' := [.int ((-1))]) rfl ?_
      exact zco_iret rfl rfl rfl (zdk (cc := cX11_rather) (q := (42, .ireturn, 1)) tkX11_rather 24 rfl)
    · refine zco_p tkX11_rather 15 2 (pc' := 29) (L' := [(3, .int y4), (0, .ref v0), (1, .int v1), (2, .int v2)]) (S' := [.int y4, .int v1]) rfl ?_
      refine zco_icmp_ge (tgt := 41) (zdk (cc := cX11_rather) (q := (29, .if_icmp .ge 12, 3)) tkX11_rather 17 rfl) rfl ?_ ?_
      · refine zco_p tkX11_rather 23 1 (pc' := 42) (L' := [(3, .int y4), (0, .ref v0), (1, .int v1), (2, .int v2)]) (S' := [.int ((-1))]) rfl ?_
        exact zco_iret rfl rfl rfl (zdk (cc := cX11_rather) (q := (42, .ireturn, 1)) tkX11_rather 24 rfl)
      · refine zco_p tkX11_rather 18 1 (pc' := 33) (L' := [(3, .int y4), (0, .ref v0), (1, .int v1), (2, .int v2)]) (S' := [.int v2]) rfl ?_
        refine zco_if_lt (tgt := 41) (zdk (cc := cX11_rather) (q := (33, .ifCond .lt 8, 3)) tkX11_rather 19 rfl) rfl ?_ ?_
        · refine zco_p tkX11_rather 23 1 (pc' := 42) (L' := [(3, .int y4), (0, .ref v0), (1, .int v1), (2, .int v2)]) (S' := [.int ((-1))]) rfl ?_
          exact zco_iret rfl rfl rfl (zdk (cc := cX11_rather) (q := (42, .ireturn, 1)) tkX11_rather 24 rfl)
        · refine zco_p tkX11_rather 20 2 (pc' := 38) (L' := [(3, .int y4), (0, .ref v0), (1, .int v1), (2, .int v2)]) (S' := [.int 1, .int v2]) rfl ?_
          refine zco_icmp_le (tgt := 43) (zdk (cc := cX11_rather) (q := (38, .if_icmp .le 5, 3)) tkX11_rather 22 rfl) rfl ?_ ?_
          · refine zco_p tkX11_rather 25 1 (pc' := 44) (L' := [(3, .int y4), (0, .ref v0), (1, .int v1), (2, .int v2)]) (S' := [.ref v0]) rfl ?_
            refine zco_gr fl_11_51 rfl (zdk (cc := cX11_rather) (q := (44, .getfield 51, 3)) tkX11_rather 26 rfl) (fun x5 => ?_)
            refine zco_p tkX11_rather 27 1 (pc' := 48) (L' := [(3, .int y4), (0, .ref v0), (1, .int v1), (2, .int v2)]) (S' := [.ref v0, .ref x5]) rfl ?_
            refine zco_gr fl_11_86 rfl (zdk (cc := cX11_rather) (q := (48, .getfield 86, 3)) tkX11_rather 28 rfl) (fun x6 => ?_)
            refine zco_gr fl_11_274 rfl (zdk (cc := cX11_rather) (q := (51, .getfield 274, 3)) tkX11_rather 29 rfl) (fun x7 => ?_)
            refine zco_p tkX11_rather 30 5 (pc' := 59) (L' := [(3, .int y4), (0, .ref v0), (1, .int v1), (2, .int v2)]) (S' := [.int ((2 * v1) + v2), .ref x7, .ref x5]) rfl ?_
            refine zco_iaload (zdk (cc := cX11_rather) (q := (59, .iaload, 1)) tkX11_rather 35 rfl) (fun x8 => ?_)
            refine zco_Vi (rc := 0) (rs := 0) (mc := 0) (ms := 0) (As := [.int x8]) (S := []) vmX1_number (mtX1_number l e (by omega) x5 x8) q_944 rfl rfl (Nat.le_of_ble_eq_true rfl) (zdk (cc := cX11_rather) (q := (60, .invokevirtual 202, 3)) tkX11_rather 36 rfl) (fun y9 => ?_)
            exact zco_iret rfl rfl rfl (zdk (cc := cX11_rather) (q := (63, .ireturn, 1)) tkX11_rather 37 rfl)
          · refine zco_p tkX11_rather 23 1 (pc' := 42) (L' := [(3, .int y4), (0, .ref v0), (1, .int v1), (2, .int v2)]) (S' := [.int ((-1))]) rfl ?_
            exact zco_iret rfl rfl rfl (zdk (cc := cX11_rather) (q := (42, .ireturn, 1)) tkX11_rather 24 rfl)
  · refine zco_p tkX11_rather 11 1 (pc' := 22) (L' := [(3, .int y4), (0, .ref v0), (1, .int v1), (2, .int v2)]) (S' := [.int y4]) rfl ?_
    exact zco_iret rfl rfl rfl (zdk (cc := cX11_rather) (q := (22, .ireturn, 1)) tkX11_rather 12 rfl)
theorem mtX11_rather (l : Launch) (d : Nat) (hd : 4 ≤ d) (v0 : Nat) (v1 : Int32) (v2 : Int32) : zMet l d 0 0 yX11_rather cX11_rather 4 (Option.some .int) [.ref v0, .int v1, .int v2] (X11_rather v0 v1 v2) := by
  obtain ⟨e, rfl⟩ : ∃ e, d = e + 1 := ⟨d - 1, by omega⟩
  exact zmet_of (own := RX11) (ini := false) (by decide +kernel) rfl (fun _ => by contradiction) (Nat.le_of_ble_eq_true rfl) (coX11_rather l e (by omega) v0 v1 v2)
abbrev iJ6_bitCount_0f7a4 : zI := (RJ6, cJ6_bitCount_0f7a4, 1, (Option.some .int), false)
def tJ6_bitCount_0f7a4 : List (Nat × Instr × Nat) := [(0, .iload_n 0, 1), (1, .iload_n 0, 1), (2, .iconst 1, 1), (3, .iushr, 1), (4, .ldc_w 265, 3), (7, .iand, 1), (8, .isub, 1), (9, .istore_n 0, 1), (10, .iload_n 0, 1), (11, .ldc_w 266, 3), (14, .iand, 1), (15, .iload_n 0, 1), (16, .iconst 2, 1), (17, .iushr, 1), (18, .ldc_w 266, 3), (21, .iand, 1), (22, .iadd, 1), (23, .istore_n 0, 1), (24, .iload_n 0, 1), (25, .iload_n 0, 1), (26, .iconst 4, 1), (27, .iushr, 1), (28, .iadd, 1), (29, .ldc_w 267, 3), (32, .iand, 1), (33, .istore_n 0, 1), (34, .iload_n 0, 1), (35, .iload_n 0, 1), (36, .bipush 8, 2), (38, .iushr, 1), (39, .iadd, 1), (40, .istore_n 0, 1), (41, .iload_n 0, 1), (42, .iload_n 0, 1), (43, .bipush 16, 2), (45, .iushr, 1), (46, .iadd, 1), (47, .istore_n 0, 1), (48, .iload_n 0, 1), (49, .bipush 63, 2), (51, .iand, 1), (52, .ireturn, 1)]
set_option maxRecDepth 100000 in
theorem tkJ6_bitCount_0f7a4 : ∀ q ∈ tJ6_bitCount_0f7a4, decode cJ6_bitCount_0f7a4 q.1 = .ok q.2 := by decide +kernel
theorem vmJ6_bitCount_0f7a4 : zSM yJ6_bitCount_0f7a4 cJ6_bitCount_0f7a4 1 (Option.some .int) 1 := ⟨kJ6_bitCount_0f7a4, q_1134, q_169, by decide +kernel, by decide⟩
set_option maxHeartbeats 2000000 in
set_option maxRecDepth 20000 in
theorem coJ6_bitCount_0f7a4 (l : Launch) (e : Nat) (he : 0 ≤ e) (v0 : Int32) : zCo l (e + 1) 0 0 iJ6_bitCount_0f7a4 0 [(0, .int v0)] [] (J6_bitCount_0f7a4 v0) := by
  unfold J6_bitCount_0f7a4
  refine zco_p tkJ6_bitCount_0f7a4 0 4 (pc' := 4) (L' := [(0, .int v0)]) (S' := [.int ((v0.toUInt32 >>> ((1 : Int32).toUInt32 &&& Int32.toUInt32 31)).toInt32), .int v0]) rfl ?_
  refine zco_ldcw q_1136 (zdk (cc := cJ6_bitCount_0f7a4) (q := (4, .ldc_w 265, 3)) tkJ6_bitCount_0f7a4 4 rfl) ?_
  refine zco_p tkJ6_bitCount_0f7a4 5 4 (pc' := 11) (L' := [(0, .int (v0 - (((v0.toUInt32 >>> ((1 : Int32).toUInt32 &&& Int32.toUInt32 31)).toInt32) &&& 1431655765)))]) (S' := [.int (v0 - (((v0.toUInt32 >>> ((1 : Int32).toUInt32 &&& Int32.toUInt32 31)).toInt32) &&& 1431655765))]) rfl ?_
  refine zco_ldcw q_1137 (zdk (cc := cJ6_bitCount_0f7a4) (q := (11, .ldc_w 266, 3)) tkJ6_bitCount_0f7a4 9 rfl) ?_
  refine zco_p tkJ6_bitCount_0f7a4 10 4 (pc' := 18) (L' := [(0, .int (v0 - (((v0.toUInt32 >>> ((1 : Int32).toUInt32 &&& Int32.toUInt32 31)).toInt32) &&& 1431655765)))]) (S' := [.int (((v0 - (((v0.toUInt32 >>> ((1 : Int32).toUInt32 &&& Int32.toUInt32 31)).toInt32) &&& 1431655765) : Int32).toUInt32 >>> ((2 : Int32).toUInt32 &&& Int32.toUInt32 31)).toInt32), .int ((v0 - (((v0.toUInt32 >>> ((1 : Int32).toUInt32 &&& Int32.toUInt32 31)).toInt32) &&& 1431655765)) &&& 858993459)]) rfl ?_
  refine zco_ldcw q_1137 (zdk (cc := cJ6_bitCount_0f7a4) (q := (18, .ldc_w 266, 3)) tkJ6_bitCount_0f7a4 14 rfl) ?_
  refine zco_p tkJ6_bitCount_0f7a4 15 8 (pc' := 29) (L' := [(0, .int (((v0 - (((v0.toUInt32 >>> ((1 : Int32).toUInt32 &&& Int32.toUInt32 31)).toInt32) &&& 1431655765)) &&& 858993459) + ((((v0 - (((v0.toUInt32 >>> ((1 : Int32).toUInt32 &&& Int32.toUInt32 31)).toInt32) &&& 1431655765) : Int32).toUInt32 >>> ((2 : Int32).toUInt32 &&& Int32.toUInt32 31)).toInt32) &&& 858993459)))]) (S' := [.int ((((v0 - (((v0.toUInt32 >>> ((1 : Int32).toUInt32 &&& Int32.toUInt32 31)).toInt32) &&& 1431655765)) &&& 858993459) + ((((v0 - (((v0.toUInt32 >>> ((1 : Int32).toUInt32 &&& Int32.toUInt32 31)).toInt32) &&& 1431655765) : Int32).toUInt32 >>> ((2 : Int32).toUInt32 &&& Int32.toUInt32 31)).toInt32) &&& 858993459)) + (((((v0 - (((v0.toUInt32 >>> ((1 : Int32).toUInt32 &&& Int32.toUInt32 31)).toInt32) &&& 1431655765)) &&& 858993459) + ((((v0 - (((v0.toUInt32 >>> ((1 : Int32).toUInt32 &&& Int32.toUInt32 31)).toInt32) &&& 1431655765) : Int32).toUInt32 >>> ((2 : Int32).toUInt32 &&& Int32.toUInt32 31)).toInt32) &&& 858993459) : Int32).toUInt32 >>> ((4 : Int32).toUInt32 &&& Int32.toUInt32 31)).toInt32))]) rfl ?_
  refine zco_ldcw q_1138 (zdk (cc := cJ6_bitCount_0f7a4) (q := (29, .ldc_w 267, 3)) tkJ6_bitCount_0f7a4 23 rfl) ?_
  refine zco_p tkJ6_bitCount_0f7a4 24 17 (pc' := 52) (L' := [(0, .int (((((((v0 - (((v0.toUInt32 >>> ((1 : Int32).toUInt32 &&& Int32.toUInt32 31)).toInt32) &&& 1431655765)) &&& 858993459) + ((((v0 - (((v0.toUInt32 >>> ((1 : Int32).toUInt32 &&& Int32.toUInt32 31)).toInt32) &&& 1431655765) : Int32).toUInt32 >>> ((2 : Int32).toUInt32 &&& Int32.toUInt32 31)).toInt32) &&& 858993459)) + (((((v0 - (((v0.toUInt32 >>> ((1 : Int32).toUInt32 &&& Int32.toUInt32 31)).toInt32) &&& 1431655765)) &&& 858993459) + ((((v0 - (((v0.toUInt32 >>> ((1 : Int32).toUInt32 &&& Int32.toUInt32 31)).toInt32) &&& 1431655765) : Int32).toUInt32 >>> ((2 : Int32).toUInt32 &&& Int32.toUInt32 31)).toInt32) &&& 858993459) : Int32).toUInt32 >>> ((4 : Int32).toUInt32 &&& Int32.toUInt32 31)).toInt32)) &&& 252645135) + (((((((v0 - (((v0.toUInt32 >>> ((1 : Int32).toUInt32 &&& Int32.toUInt32 31)).toInt32) &&& 1431655765)) &&& 858993459) + ((((v0 - (((v0.toUInt32 >>> ((1 : Int32).toUInt32 &&& Int32.toUInt32 31)).toInt32) &&& 1431655765) : Int32).toUInt32 >>> ((2 : Int32).toUInt32 &&& Int32.toUInt32 31)).toInt32) &&& 858993459)) + (((((v0 - (((v0.toUInt32 >>> ((1 : Int32).toUInt32 &&& Int32.toUInt32 31)).toInt32) &&& 1431655765)) &&& 858993459) + ((((v0 - (((v0.toUInt32 >>> ((1 : Int32).toUInt32 &&& Int32.toUInt32 31)).toInt32) &&& 1431655765) : Int32).toUInt32 >>> ((2 : Int32).toUInt32 &&& Int32.toUInt32 31)).toInt32) &&& 858993459) : Int32).toUInt32 >>> ((4 : Int32).toUInt32 &&& Int32.toUInt32 31)).toInt32)) &&& 252645135 : Int32).toUInt32 >>> ((8 : Int32).toUInt32 &&& Int32.toUInt32 31)).toInt32)) + ((((((((v0 - (((v0.toUInt32 >>> ((1 : Int32).toUInt32 &&& Int32.toUInt32 31)).toInt32) &&& 1431655765)) &&& 858993459) + ((((v0 - (((v0.toUInt32 >>> ((1 : Int32).toUInt32 &&& Int32.toUInt32 31)).toInt32) &&& 1431655765) : Int32).toUInt32 >>> ((2 : Int32).toUInt32 &&& Int32.toUInt32 31)).toInt32) &&& 858993459)) + (((((v0 - (((v0.toUInt32 >>> ((1 : Int32).toUInt32 &&& Int32.toUInt32 31)).toInt32) &&& 1431655765)) &&& 858993459) + ((((v0 - (((v0.toUInt32 >>> ((1 : Int32).toUInt32 &&& Int32.toUInt32 31)).toInt32) &&& 1431655765) : Int32).toUInt32 >>> ((2 : Int32).toUInt32 &&& Int32.toUInt32 31)).toInt32) &&& 858993459) : Int32).toUInt32 >>> ((4 : Int32).toUInt32 &&& Int32.toUInt32 31)).toInt32)) &&& 252645135) + (((((((v0 - (((v0.toUInt32 >>> ((1 : Int32).toUInt32 &&& Int32.toUInt32 31)).toInt32) &&& 1431655765)) &&& 858993459) + ((((v0 - (((v0.toUInt32 >>> ((1 : Int32).toUInt32 &&& Int32.toUInt32 31)).toInt32) &&& 1431655765) : Int32).toUInt32 >>> ((2 : Int32).toUInt32 &&& Int32.toUInt32 31)).toInt32) &&& 858993459)) + (((((v0 - (((v0.toUInt32 >>> ((1 : Int32).toUInt32 &&& Int32.toUInt32 31)).toInt32) &&& 1431655765)) &&& 858993459) + ((((v0 - (((v0.toUInt32 >>> ((1 : Int32).toUInt32 &&& Int32.toUInt32 31)).toInt32) &&& 1431655765) : Int32).toUInt32 >>> ((2 : Int32).toUInt32 &&& Int32.toUInt32 31)).toInt32) &&& 858993459) : Int32).toUInt32 >>> ((4 : Int32).toUInt32 &&& Int32.toUInt32 31)).toInt32)) &&& 252645135 : Int32).toUInt32 >>> ((8 : Int32).toUInt32 &&& Int32.toUInt32 31)).toInt32) : Int32).toUInt32 >>> ((16 : Int32).toUInt32 &&& Int32.toUInt32 31)).toInt32)))]) (S' := [.int ((((((((v0 - (((v0.toUInt32 >>> ((1 : Int32).toUInt32 &&& Int32.toUInt32 31)).toInt32) &&& 1431655765)) &&& 858993459) + ((((v0 - (((v0.toUInt32 >>> ((1 : Int32).toUInt32 &&& Int32.toUInt32 31)).toInt32) &&& 1431655765) : Int32).toUInt32 >>> ((2 : Int32).toUInt32 &&& Int32.toUInt32 31)).toInt32) &&& 858993459)) + (((((v0 - (((v0.toUInt32 >>> ((1 : Int32).toUInt32 &&& Int32.toUInt32 31)).toInt32) &&& 1431655765)) &&& 858993459) + ((((v0 - (((v0.toUInt32 >>> ((1 : Int32).toUInt32 &&& Int32.toUInt32 31)).toInt32) &&& 1431655765) : Int32).toUInt32 >>> ((2 : Int32).toUInt32 &&& Int32.toUInt32 31)).toInt32) &&& 858993459) : Int32).toUInt32 >>> ((4 : Int32).toUInt32 &&& Int32.toUInt32 31)).toInt32)) &&& 252645135) + (((((((v0 - (((v0.toUInt32 >>> ((1 : Int32).toUInt32 &&& Int32.toUInt32 31)).toInt32) &&& 1431655765)) &&& 858993459) + ((((v0 - (((v0.toUInt32 >>> ((1 : Int32).toUInt32 &&& Int32.toUInt32 31)).toInt32) &&& 1431655765) : Int32).toUInt32 >>> ((2 : Int32).toUInt32 &&& Int32.toUInt32 31)).toInt32) &&& 858993459)) + (((((v0 - (((v0.toUInt32 >>> ((1 : Int32).toUInt32 &&& Int32.toUInt32 31)).toInt32) &&& 1431655765)) &&& 858993459) + ((((v0 - (((v0.toUInt32 >>> ((1 : Int32).toUInt32 &&& Int32.toUInt32 31)).toInt32) &&& 1431655765) : Int32).toUInt32 >>> ((2 : Int32).toUInt32 &&& Int32.toUInt32 31)).toInt32) &&& 858993459) : Int32).toUInt32 >>> ((4 : Int32).toUInt32 &&& Int32.toUInt32 31)).toInt32)) &&& 252645135 : Int32).toUInt32 >>> ((8 : Int32).toUInt32 &&& Int32.toUInt32 31)).toInt32)) + ((((((((v0 - (((v0.toUInt32 >>> ((1 : Int32).toUInt32 &&& Int32.toUInt32 31)).toInt32) &&& 1431655765)) &&& 858993459) + ((((v0 - (((v0.toUInt32 >>> ((1 : Int32).toUInt32 &&& Int32.toUInt32 31)).toInt32) &&& 1431655765) : Int32).toUInt32 >>> ((2 : Int32).toUInt32 &&& Int32.toUInt32 31)).toInt32) &&& 858993459)) + (((((v0 - (((v0.toUInt32 >>> ((1 : Int32).toUInt32 &&& Int32.toUInt32 31)).toInt32) &&& 1431655765)) &&& 858993459) + ((((v0 - (((v0.toUInt32 >>> ((1 : Int32).toUInt32 &&& Int32.toUInt32 31)).toInt32) &&& 1431655765) : Int32).toUInt32 >>> ((2 : Int32).toUInt32 &&& Int32.toUInt32 31)).toInt32) &&& 858993459) : Int32).toUInt32 >>> ((4 : Int32).toUInt32 &&& Int32.toUInt32 31)).toInt32)) &&& 252645135) + (((((((v0 - (((v0.toUInt32 >>> ((1 : Int32).toUInt32 &&& Int32.toUInt32 31)).toInt32) &&& 1431655765)) &&& 858993459) + ((((v0 - (((v0.toUInt32 >>> ((1 : Int32).toUInt32 &&& Int32.toUInt32 31)).toInt32) &&& 1431655765) : Int32).toUInt32 >>> ((2 : Int32).toUInt32 &&& Int32.toUInt32 31)).toInt32) &&& 858993459)) + (((((v0 - (((v0.toUInt32 >>> ((1 : Int32).toUInt32 &&& Int32.toUInt32 31)).toInt32) &&& 1431655765)) &&& 858993459) + ((((v0 - (((v0.toUInt32 >>> ((1 : Int32).toUInt32 &&& Int32.toUInt32 31)).toInt32) &&& 1431655765) : Int32).toUInt32 >>> ((2 : Int32).toUInt32 &&& Int32.toUInt32 31)).toInt32) &&& 858993459) : Int32).toUInt32 >>> ((4 : Int32).toUInt32 &&& Int32.toUInt32 31)).toInt32)) &&& 252645135 : Int32).toUInt32 >>> ((8 : Int32).toUInt32 &&& Int32.toUInt32 31)).toInt32) : Int32).toUInt32 >>> ((16 : Int32).toUInt32 &&& Int32.toUInt32 31)).toInt32)) &&& 63)]) rfl ?_
  exact zco_iret rfl rfl rfl (zdk (cc := cJ6_bitCount_0f7a4) (q := (52, .ireturn, 1)) tkJ6_bitCount_0f7a4 41 rfl)
theorem mtJ6_bitCount_0f7a4 (l : Launch) (d : Nat) (hd : 1 ≤ d) (v0 : Int32) : zMet l d 0 0 yJ6_bitCount_0f7a4 cJ6_bitCount_0f7a4 1 (Option.some .int) [.int v0] (J6_bitCount_0f7a4 v0) := by
  obtain ⟨e, rfl⟩ : ∃ e, d = e + 1 := ⟨d - 1, by omega⟩
  exact zmet_of (own := RJ6) (ini := false) (by decide +kernel) rfl (fun _ => by contradiction) (Nat.le_of_ble_eq_true rfl) (coJ6_bitCount_0f7a4 l e (by omega) v0)
abbrev iX0_wedIfTaught : zI := (RX0, cX0_wedIfTaught, 6, (Option.some .boolean), false)
def tX0_wedIfTaught : List (Nat × Instr × Nat) := [(0, .aload_n 0, 1), (1, .getfield 12, 3), (4, .aload_n 1, 1), (5, .invokevirtual 55, 3), (8, .iconst 0, 1), (9, .istore 5, 2), (11, .iload 5, 2), (13, .bipush 6, 2), (15, .if_icmp .ge 36, 3), (18, .iload_n 3, 1), (19, .iload 5, 2), (21, .ishr, 1), (22, .iconst 1, 1), (23, .iand, 1), (24, .iconst 1, 1), (25, .if_icmp .ne 20, 3), (28, .aload_n 0, 1), (29, .getfield 12, 3), (32, .getfield 88, 3), (35, .iload_n 2, 1), (36, .bipush 6, 2), (38, .imul, 1), (39, .iload 5, 2), (41, .iadd, 1), (42, .bipush 9, 2), (44, .iastore, 1), (45, .iinc 5 1, 3), (48, .goto (-37), 3), (51, .iconst 0, 1), (52, .istore 5, 2), (54, .iload 5, 2), (56, .iload 4, 2), (58, .if_icmp .ge 35, 3), (61, .aload_n 0, 1), (62, .getfield 12, 3), (65, .getfield 69, 3), (68, .iload_n 2, 1), (69, .iaload, 1), (70, .iconst (-1), 1), (71, .if_icmp .ne 22, 3), (74, .aload_n 0, 1), (75, .getfield 25, 3), (78, .aload_n 0, 1), (79, .getfield 12, 3), (82, .iconst (-1), 1), (83, .invokevirtual 51, 3), (86, .pop, 1), (87, .iinc 5 1, 3), (90, .goto (-36), 3), (93, .aload_n 0, 1), (94, .getfield 12, 3), (97, .getfield 69, 3), (100, .iload_n 2, 1), (101, .iaload, 1), (102, .iconst (-1), 1), (103, .if_icmp .eq 7, 3), (106, .iconst 1, 1), (107, .goto 4, 3), (110, .iconst 0, 1), (111, .ireturn, 1)]
set_option maxRecDepth 100000 in
theorem tkX0_wedIfTaught : ∀ q ∈ tX0_wedIfTaught, decode cX0_wedIfTaught q.1 = .ok q.2 := by decide +kernel
theorem vmX0_wedIfTaught : zVM yX0_wedIfTaught cX0_wedIfTaught 6 (Option.some .boolean) 4 0 := ⟨kX0_wedIfTaught, q_1141, q_30, q_158, ⟨_, rfl, rfl⟩, by decide +kernel, by decide⟩
set_option maxHeartbeats 2000000 in
set_option maxRecDepth 20000 in
theorem coX0_wedIfTaught_J93 (l : Launch) (e : Nat) (he : 5 ≤ e) (v0 : Nat) (v2 : Int32) : zCo l (e + 1) 0 0 iX0_wedIfTaught 93 [(0, .ref v0), (2, .int v2)] [] (X0_wedIfTaught_J93 v0 v2) := by
  unfold X0_wedIfTaught_J93
  refine zco_p tkX0_wedIfTaught 49 1 (pc' := 94) (L' := [(0, .ref v0), (2, .int v2)]) (S' := [.ref v0]) rfl ?_
  refine zco_gr fl_0_12 rfl (zdk (cc := cX0_wedIfTaught) (q := (94, .getfield 12, 3)) tkX0_wedIfTaught 50 rfl) (fun x1 => ?_)
  refine zco_gr fl_0_69 rfl (zdk (cc := cX0_wedIfTaught) (q := (97, .getfield 69, 3)) tkX0_wedIfTaught 51 rfl) (fun x2 => ?_)
  refine zco_p tkX0_wedIfTaught 52 1 (pc' := 101) (L' := [(0, .ref v0), (2, .int v2)]) (S' := [.int v2, .ref x2]) rfl ?_
  refine zco_iaload (zdk (cc := cX0_wedIfTaught) (q := (101, .iaload, 1)) tkX0_wedIfTaught 53 rfl) (fun x3 => ?_)
  refine zco_p tkX0_wedIfTaught 54 1 (pc' := 103) (L' := [(0, .ref v0), (2, .int v2)]) (S' := [.int ((-1)), .int x3]) rfl ?_
  refine zco_icmp_eq (tgt := 110) (zdk (cc := cX0_wedIfTaught) (q := (103, .if_icmp .eq 7, 3)) tkX0_wedIfTaught 55 rfl) rfl ?_ ?_
  · refine zco_p tkX0_wedIfTaught 58 1 (pc' := 111) (L' := [(0, .ref v0), (2, .int v2)]) (S' := [.int 0]) rfl ?_
    exact zco_zret rfl rfl rfl (zdk (cc := cX0_wedIfTaught) (q := (111, .ireturn, 1)) tkX0_wedIfTaught 59 rfl)
  · refine zco_p tkX0_wedIfTaught 56 2 (pc' := 111) (L' := [(0, .ref v0), (2, .int v2)]) (S' := [.int 1]) rfl ?_
    exact zco_zret rfl rfl rfl (zdk (cc := cX0_wedIfTaught) (q := (111, .ireturn, 1)) tkX0_wedIfTaught 59 rfl)
set_option maxHeartbeats 2000000 in
set_option maxRecDepth 20000 in
theorem coX0_wedIfTaught_B54 (l : Launch) (e : Nat) (he : 5 ≤ e) (v0 : Nat) (v2 : Int32) (v4 : Int32) (r54 : Int32 → zM) (hr54 : ∀ x : Int32, zCo l (e + 1) 0 0 iX0_wedIfTaught 54 [(0, .ref v0), (2, .int v2), (4, .int v4), (5, .int x)] [] (r54 x)) (v5 : Int32) : zCo l (e + 1) 0 0 iX0_wedIfTaught 54 [(0, .ref v0), (2, .int v2), (4, .int v4), (5, .int v5)] [] (X0_wedIfTaught_B54 v0 v2 v4 r54 v5) := by
  unfold X0_wedIfTaught_B54
  refine zco_p tkX0_wedIfTaught 30 2 (pc' := 58) (L' := [(0, .ref v0), (2, .int v2), (4, .int v4), (5, .int v5)]) (S' := [.int v4, .int v5]) rfl ?_
  refine zco_icmp_ge (tgt := 93) (zdk (cc := cX0_wedIfTaught) (q := (58, .if_icmp .ge 35, 3)) tkX0_wedIfTaught 32 rfl) rfl ?_ ?_
  · exact zco_sub [0, 1] rfl (coX0_wedIfTaught_J93 l e he v0 v2)
  · refine zco_p tkX0_wedIfTaught 33 1 (pc' := 62) (L' := [(0, .ref v0), (2, .int v2), (4, .int v4), (5, .int v5)]) (S' := [.ref v0]) rfl ?_
    refine zco_gr fl_0_12 rfl (zdk (cc := cX0_wedIfTaught) (q := (62, .getfield 12, 3)) tkX0_wedIfTaught 34 rfl) (fun x1 => ?_)
    refine zco_gr fl_0_69 rfl (zdk (cc := cX0_wedIfTaught) (q := (65, .getfield 69, 3)) tkX0_wedIfTaught 35 rfl) (fun x2 => ?_)
    refine zco_p tkX0_wedIfTaught 36 1 (pc' := 69) (L' := [(0, .ref v0), (2, .int v2), (4, .int v4), (5, .int v5)]) (S' := [.int v2, .ref x2]) rfl ?_
    refine zco_iaload (zdk (cc := cX0_wedIfTaught) (q := (69, .iaload, 1)) tkX0_wedIfTaught 37 rfl) (fun x3 => ?_)
    refine zco_p tkX0_wedIfTaught 38 1 (pc' := 71) (L' := [(0, .ref v0), (2, .int v2), (4, .int v4), (5, .int v5)]) (S' := [.int ((-1)), .int x3]) rfl ?_
    refine zco_icmp_ne (tgt := 93) (zdk (cc := cX0_wedIfTaught) (q := (71, .if_icmp .ne 22, 3)) tkX0_wedIfTaught 39 rfl) rfl ?_ ?_
    · exact zco_sub [0, 1] rfl (coX0_wedIfTaught_J93 l e he v0 v2)
    · refine zco_p tkX0_wedIfTaught 40 1 (pc' := 75) (L' := [(0, .ref v0), (2, .int v2), (4, .int v4), (5, .int v5)]) (S' := [.ref v0]) rfl ?_
      refine zco_gr fl_0_25 rfl (zdk (cc := cX0_wedIfTaught) (q := (75, .getfield 25, 3)) tkX0_wedIfTaught 41 rfl) (fun x4 => ?_)
      refine zco_p tkX0_wedIfTaught 42 1 (pc' := 79) (L' := [(0, .ref v0), (2, .int v2), (4, .int v4), (5, .int v5)]) (S' := [.ref v0, .ref x4]) rfl ?_
      refine zco_gr fl_0_12 rfl (zdk (cc := cX0_wedIfTaught) (q := (79, .getfield 12, 3)) tkX0_wedIfTaught 43 rfl) (fun x5 => ?_)
      refine zco_p tkX0_wedIfTaught 44 1 (pc' := 83) (L' := [(0, .ref v0), (2, .int v2), (4, .int v4), (5, .int v5)]) (S' := [.int ((-1)), .ref x5, .ref x4]) rfl ?_
      refine zco_Vi (rc := 0) (rs := 0) (mc := 0) (ms := 0) (As := [.ref x5, .int ((-1))]) (S := []) vmX10_go (mtX10_go l e (by omega) x4 x5 ((-1))) q_1050 rfl rfl (Nat.le_of_ble_eq_true rfl) (zdk (cc := cX0_wedIfTaught) (q := (83, .invokevirtual 51, 3)) tkX0_wedIfTaught 45 rfl) (fun y6 => ?_)
      refine zco_p tkX0_wedIfTaught 46 3 (pc' := 54) (L' := [(5, .int (v5 + 1)), (0, .ref v0), (2, .int v2), (4, .int v4)]) (S' := []) rfl ?_
      exact zco_sub [1, 2, 3, 0] rfl (hr54 (v5 + 1))
set_option maxHeartbeats 2000000 in
set_option maxRecDepth 20000 in
theorem coX0_wedIfTaught_J51 (l : Launch) (e : Nat) (he : 5 ≤ e) (v0 : Nat) (v2 : Int32) (v4 : Int32) : zCo l (e + 1) 0 0 iX0_wedIfTaught 51 [(0, .ref v0), (2, .int v2), (4, .int v4)] [] (X0_wedIfTaught_J51 v0 v2 v4) := by
  unfold X0_wedIfTaught_J51
  refine zco_p tkX0_wedIfTaught 28 2 (pc' := 54) (L' := [(5, .int 0), (0, .ref v0), (2, .int v2), (4, .int v4)]) (S' := []) rfl ?_
  exact zco_sub [1, 2, 3, 0] rfl (zco_fix (Lf := fun x : Int32 => [(0, .ref v0), (2, .int v2), (4, .int v4), (5, .int x)]) (Sf := fun _ => []) (fun r hr x => coX0_wedIfTaught_B54 l e he v0 v2 v4 r hr x) zFU 0)
set_option maxHeartbeats 2000000 in
set_option maxRecDepth 20000 in
theorem coX0_wedIfTaught_J45 (l : Launch) (e : Nat) (he : 5 ≤ e) (v0 : Nat) (v2 : Int32) (v3 : Int32) (v4 : Int32) (v5 : Int32) (r11 : Int32 → zM) (hr11 : ∀ x : Int32, zCo l (e + 1) 0 0 iX0_wedIfTaught 11 [(0, .ref v0), (2, .int v2), (3, .int v3), (4, .int v4), (5, .int x)] [] (r11 x)) : zCo l (e + 1) 0 0 iX0_wedIfTaught 45 [(0, .ref v0), (2, .int v2), (3, .int v3), (4, .int v4), (5, .int v5)] [] (X0_wedIfTaught_J45 r11 v0 v2 v3 v4 v5) := by
  unfold X0_wedIfTaught_J45
  refine zco_p tkX0_wedIfTaught 26 2 (pc' := 11) (L' := [(5, .int (v5 + 1)), (0, .ref v0), (2, .int v2), (3, .int v3), (4, .int v4)]) (S' := []) rfl ?_
  exact zco_sub [1, 2, 3, 4, 0] rfl (hr11 (v5 + 1))
set_option maxHeartbeats 2000000 in
set_option maxRecDepth 20000 in
theorem coX0_wedIfTaught_B11 (l : Launch) (e : Nat) (he : 5 ≤ e) (v0 : Nat) (v2 : Int32) (v3 : Int32) (v4 : Int32) (r11 : Int32 → zM) (hr11 : ∀ x : Int32, zCo l (e + 1) 0 0 iX0_wedIfTaught 11 [(0, .ref v0), (2, .int v2), (3, .int v3), (4, .int v4), (5, .int x)] [] (r11 x)) (v5 : Int32) : zCo l (e + 1) 0 0 iX0_wedIfTaught 11 [(0, .ref v0), (2, .int v2), (3, .int v3), (4, .int v4), (5, .int v5)] [] (X0_wedIfTaught_B11 v0 v2 v3 v4 r11 v5) := by
  unfold X0_wedIfTaught_B11
  refine zco_p tkX0_wedIfTaught 6 2 (pc' := 15) (L' := [(0, .ref v0), (2, .int v2), (3, .int v3), (4, .int v4), (5, .int v5)]) (S' := [.int 6, .int v5]) rfl ?_
  refine zco_icmp_ge (tgt := 51) (zdk (cc := cX0_wedIfTaught) (q := (15, .if_icmp .ge 36, 3)) tkX0_wedIfTaught 8 rfl) rfl ?_ ?_
  · exact zco_sub [0, 1, 3] rfl (coX0_wedIfTaught_J51 l e he v0 v2 v4)
  · refine zco_p tkX0_wedIfTaught 9 6 (pc' := 25) (L' := [(0, .ref v0), (2, .int v2), (3, .int v3), (4, .int v4), (5, .int v5)]) (S' := [.int 1, .int ((v3 >>> (v5 &&& 31)) &&& 1)]) rfl ?_
    refine zco_icmp_ne (tgt := 45) (zdk (cc := cX0_wedIfTaught) (q := (25, .if_icmp .ne 20, 3)) tkX0_wedIfTaught 15 rfl) rfl ?_ ?_
    · exact zco_sub [0, 1, 2, 3, 4] rfl (coX0_wedIfTaught_J45 l e he v0 v2 v3 v4 v5 r11 hr11)
    · refine zco_p tkX0_wedIfTaught 16 1 (pc' := 29) (L' := [(0, .ref v0), (2, .int v2), (3, .int v3), (4, .int v4), (5, .int v5)]) (S' := [.ref v0]) rfl ?_
      refine zco_gr fl_0_12 rfl (zdk (cc := cX0_wedIfTaught) (q := (29, .getfield 12, 3)) tkX0_wedIfTaught 17 rfl) (fun x1 => ?_)
      refine zco_gr fl_0_88 rfl (zdk (cc := cX0_wedIfTaught) (q := (32, .getfield 88, 3)) tkX0_wedIfTaught 18 rfl) (fun x2 => ?_)
      refine zco_p tkX0_wedIfTaught 19 6 (pc' := 44) (L' := [(0, .ref v0), (2, .int v2), (3, .int v3), (4, .int v4), (5, .int v5)]) (S' := [.int 9, .int ((v2 * 6) + v5), .ref x2]) rfl ?_
      refine zco_iastore (zdk (cc := cX0_wedIfTaught) (q := (44, .iastore, 1)) tkX0_wedIfTaught 25 rfl) ?_
      exact zco_sub [0, 1, 2, 3, 4] rfl (coX0_wedIfTaught_J45 l e he v0 v2 v3 v4 v5 r11 hr11)
set_option maxHeartbeats 2000000 in
set_option maxRecDepth 20000 in
theorem coX0_wedIfTaught (l : Launch) (e : Nat) (he : 5 ≤ e) (v0 : Nat) (v1 : Nat) (v2 : Int32) (v3 : Int32) (v4 : Int32) : zCo l (e + 1) 0 0 iX0_wedIfTaught 0 [(0, .ref v0), (1, .ref v1), (2, .int v2), (3, .int v3), (4, .int v4)] [] (X0_wedIfTaught v0 v1 v2 v3 v4) := by
  unfold X0_wedIfTaught
  refine zco_p tkX0_wedIfTaught 0 1 (pc' := 1) (L' := [(0, .ref v0), (1, .ref v1), (2, .int v2), (3, .int v3), (4, .int v4)]) (S' := [.ref v0]) rfl ?_
  refine zco_gr fl_0_12 rfl (zdk (cc := cX0_wedIfTaught) (q := (1, .getfield 12, 3)) tkX0_wedIfTaught 1 rfl) (fun x1 => ?_)
  refine zco_p tkX0_wedIfTaught 2 1 (pc' := 5) (L' := [(0, .ref v0), (1, .ref v1), (2, .int v2), (3, .int v3), (4, .int v4)]) (S' := [.ref v1, .ref x1]) rfl ?_
  refine zco_Vv (rc := 0) (rs := 0) (mc := 0) (ms := 0) (As := [.ref v1]) (S := []) vmX8_take (mtX8_take l e (by omega) x1 v1) q_1042 rfl rfl (Nat.le_of_ble_eq_true rfl) (zdk (cc := cX0_wedIfTaught) (q := (5, .invokevirtual 55, 3)) tkX0_wedIfTaught 3 rfl) ?_
  refine zco_p tkX0_wedIfTaught 4 2 (pc' := 11) (L' := [(5, .int 0), (0, .ref v0), (1, .ref v1), (2, .int v2), (3, .int v3), (4, .int v4)]) (S' := []) rfl ?_
  exact zco_sub [1, 3, 4, 5, 0] rfl (zco_fix (Lf := fun x : Int32 => [(0, .ref v0), (2, .int v2), (3, .int v3), (4, .int v4), (5, .int x)]) (Sf := fun _ => []) (fun r hr x => coX0_wedIfTaught_B11 l e he v0 v2 v3 v4 r hr x) zFU 0)
theorem mtX0_wedIfTaught (l : Launch) (d : Nat) (hd : 6 ≤ d) (v0 : Nat) (v1 : Nat) (v2 : Int32) (v3 : Int32) (v4 : Int32) : zMet l d 0 0 yX0_wedIfTaught cX0_wedIfTaught 6 (Option.some .boolean) [.ref v0, .ref v1, .int v2, .int v3, .int v4] (X0_wedIfTaught v0 v1 v2 v3 v4) := by
  obtain ⟨e, rfl⟩ : ∃ e, d = e + 1 := ⟨d - 1, by omega⟩
  exact zmet_of (own := RX0) (ini := false) (by decide +kernel) rfl (fun _ => by contradiction) (Nat.le_of_ble_eq_true rfl) (coX0_wedIfTaught l e (by omega) v0 v1 v2 v3 v4)
abbrev iX0_lessons : zI := (RX0, cX0_lessons, 7, (Option.some .int), false)
def tX0_lessons : List (Nat × Instr × Nat) := [(0, .aload_n 0, 1), (1, .getfield 25, 3), (4, .getfield 29, 3), (7, .getfield 72, 3), (10, .iconst 1, 1), (11, .iload_n 2, 1), (12, .invokestatic 75, 3), (15, .isub, 1), (16, .iaload, 1), (17, .istore 4, 2), (19, .iconst 0, 1), (20, .istore 5, 2), (22, .iload 5, 2), (24, .iload 4, 2), (26, .if_icmp .gt 52, 3), (29, .iconst 0, 1), (30, .istore 6, 2), (32, .iload 6, 2), (34, .iconst 1, 1), (35, .iload 4, 2), (37, .ishl, 1), (38, .if_icmp .ge 34, 3), (41, .iload 6, 2), (43, .invokestatic 79, 3), (46, .iload 5, 2), (48, .if_icmp .ne 18, 3), (51, .aload_n 0, 1), (52, .aload_n 1, 1), (53, .iload_n 2, 1), (54, .iload 6, 2), (56, .iload_n 3, 1), (57, .invokevirtual 84, 3), (60, .ifCond .eq 6, 3), (63, .iload 6, 2), (65, .ireturn, 1), (66, .iinc 6 1, 3), (69, .goto (-37), 3), (72, .iinc 5 1, 3), (75, .goto (-53), 3), (78, .iconst (-1), 1), (79, .ireturn, 1)]
set_option maxRecDepth 100000 in
theorem tkX0_lessons : ∀ q ∈ tX0_lessons, decode cX0_lessons q.1 = .ok q.2 := by decide +kernel
theorem vmX0_lessons : zVM yX0_lessons cX0_lessons 7 (Option.some .int) 3 0 := ⟨kX0_lessons, q_1129, q_1130, q_158, ⟨_, rfl, rfl⟩, by decide +kernel, by decide⟩
set_option maxHeartbeats 2000000 in
set_option maxRecDepth 20000 in
theorem coX0_lessons_J72 (l : Launch) (e : Nat) (he : 6 ≤ e) (v0 : Nat) (v1 : Nat) (v2 : Int32) (v3 : Int32) (v4 : Int32) (v5 : Int32) (r22 : Int32 → zM) (hr22 : ∀ x : Int32, zCo l (e + 1) 0 0 iX0_lessons 22 [(0, .ref v0), (1, .ref v1), (2, .int v2), (3, .int v3), (4, .int v4), (5, .int x)] [] (r22 x)) : zCo l (e + 1) 0 0 iX0_lessons 72 [(0, .ref v0), (1, .ref v1), (2, .int v2), (3, .int v3), (4, .int v4), (5, .int v5)] [] (X0_lessons_J72 r22 v0 v1 v2 v3 v4 v5) := by
  unfold X0_lessons_J72
  refine zco_p tkX0_lessons 37 2 (pc' := 22) (L' := [(5, .int (v5 + 1)), (0, .ref v0), (1, .ref v1), (2, .int v2), (3, .int v3), (4, .int v4)]) (S' := []) rfl ?_
  exact zco_sub [1, 2, 3, 4, 5, 0] rfl (hr22 (v5 + 1))
set_option maxHeartbeats 2000000 in
set_option maxRecDepth 20000 in
theorem coX0_lessons_J66 (l : Launch) (e : Nat) (he : 6 ≤ e) (v0 : Nat) (v1 : Nat) (v2 : Int32) (v3 : Int32) (v4 : Int32) (v5 : Int32) (v6 : Int32) (r22 : Int32 → zM) (hr22 : ∀ x : Int32, zCo l (e + 1) 0 0 iX0_lessons 22 [(0, .ref v0), (1, .ref v1), (2, .int v2), (3, .int v3), (4, .int v4), (5, .int x)] [] (r22 x)) (r32 : Int32 → zM) (hr32 : ∀ x : Int32, zCo l (e + 1) 0 0 iX0_lessons 32 [(0, .ref v0), (1, .ref v1), (2, .int v2), (3, .int v3), (4, .int v4), (5, .int v5), (6, .int x)] [] (r32 x)) : zCo l (e + 1) 0 0 iX0_lessons 66 [(0, .ref v0), (1, .ref v1), (2, .int v2), (3, .int v3), (4, .int v4), (5, .int v5), (6, .int v6)] [] (X0_lessons_J66 r22 r32 v0 v1 v2 v3 v4 v5 v6) := by
  unfold X0_lessons_J66
  refine zco_p tkX0_lessons 35 2 (pc' := 32) (L' := [(6, .int (v6 + 1)), (0, .ref v0), (1, .ref v1), (2, .int v2), (3, .int v3), (4, .int v4), (5, .int v5)]) (S' := []) rfl ?_
  exact zco_sub [1, 2, 3, 4, 5, 6, 0] rfl (hr32 (v6 + 1))
set_option maxHeartbeats 2000000 in
set_option maxRecDepth 20000 in
theorem coX0_lessons_B32 (l : Launch) (e : Nat) (he : 6 ≤ e) (v0 : Nat) (v1 : Nat) (v2 : Int32) (v3 : Int32) (v4 : Int32) (v5 : Int32) (r22 : Int32 → zM) (hr22 : ∀ x : Int32, zCo l (e + 1) 0 0 iX0_lessons 22 [(0, .ref v0), (1, .ref v1), (2, .int v2), (3, .int v3), (4, .int v4), (5, .int x)] [] (r22 x)) (r32 : Int32 → zM) (hr32 : ∀ x : Int32, zCo l (e + 1) 0 0 iX0_lessons 32 [(0, .ref v0), (1, .ref v1), (2, .int v2), (3, .int v3), (4, .int v4), (5, .int v5), (6, .int x)] [] (r32 x)) (v6 : Int32) : zCo l (e + 1) 0 0 iX0_lessons 32 [(0, .ref v0), (1, .ref v1), (2, .int v2), (3, .int v3), (4, .int v4), (5, .int v5), (6, .int v6)] [] (X0_lessons_B32 r22 v0 v1 v2 v3 v4 v5 r32 v6) := by
  unfold X0_lessons_B32
  refine zco_p tkX0_lessons 17 4 (pc' := 38) (L' := [(0, .ref v0), (1, .ref v1), (2, .int v2), (3, .int v3), (4, .int v4), (5, .int v5), (6, .int v6)]) (S' := [.int ((1 : Int32) <<< (v4 &&& 31)), .int v6]) rfl ?_
  refine zco_icmp_ge (tgt := 72) (zdk (cc := cX0_lessons) (q := (38, .if_icmp .ge 34, 3)) tkX0_lessons 21 rfl) rfl ?_ ?_
  · exact zco_sub [0, 1, 2, 3, 4, 5] rfl (coX0_lessons_J72 l e he v0 v1 v2 v3 v4 v5 r22 hr22)
  · refine zco_p tkX0_lessons 22 1 (pc' := 43) (L' := [(0, .ref v0), (1, .ref v1), (2, .int v2), (3, .int v3), (4, .int v4), (5, .int v5), (6, .int v6)]) (S' := [.int v6]) rfl ?_
    refine zco_Si (rc := 0) (rs := 0) (mc := 0) (ms := 0) (As := [.int v6]) (S := []) vmJ6_bitCount_0f7a4 (mtJ6_bitCount_0f7a4 l e (by omega) v6) q_1133 rfl rfl (Nat.le_of_ble_eq_true rfl) (zdk (cc := cX0_lessons) (q := (43, .invokestatic 79, 3)) tkX0_lessons 23 rfl) (fun y1 => ?_)
    refine zco_p tkX0_lessons 24 1 (pc' := 48) (L' := [(0, .ref v0), (1, .ref v1), (2, .int v2), (3, .int v3), (4, .int v4), (5, .int v5), (6, .int v6)]) (S' := [.int v5, .int y1]) rfl ?_
    refine zco_icmp_ne (tgt := 66) (zdk (cc := cX0_lessons) (q := (48, .if_icmp .ne 18, 3)) tkX0_lessons 25 rfl) rfl ?_ ?_
    · exact zco_sub [0, 1, 2, 3, 4, 5, 6] rfl (coX0_lessons_J66 l e he v0 v1 v2 v3 v4 v5 v6 r22 hr22 r32 hr32)
    · refine zco_p tkX0_lessons 26 5 (pc' := 57) (L' := [(0, .ref v0), (1, .ref v1), (2, .int v2), (3, .int v3), (4, .int v4), (5, .int v5), (6, .int v6)]) (S' := [.int v3, .int v6, .int v2, .ref v1, .ref v0]) rfl ?_
      refine zco_Vi (rc := 0) (rs := 0) (mc := 0) (ms := 0) (As := [.ref v1, .int v2, .int v6, .int v3]) (S := []) vmX0_wedIfTaught (mtX0_wedIfTaught l e (by omega) v0 v1 v2 v6 v3) q_1139 rfl rfl (Nat.le_of_ble_eq_true rfl) (zdk (cc := cX0_lessons) (q := (57, .invokevirtual 84, 3)) tkX0_lessons 31 rfl) (fun y2 => ?_)
      refine zco_if_eq (tgt := 66) (zdk (cc := cX0_lessons) (q := (60, .ifCond .eq 6, 3)) tkX0_lessons 32 rfl) rfl ?_ ?_
      · exact zco_sub [0, 1, 2, 3, 4, 5, 6] rfl (coX0_lessons_J66 l e he v0 v1 v2 v3 v4 v5 v6 r22 hr22 r32 hr32)
      · refine zco_p tkX0_lessons 33 1 (pc' := 65) (L' := [(0, .ref v0), (1, .ref v1), (2, .int v2), (3, .int v3), (4, .int v4), (5, .int v5), (6, .int v6)]) (S' := [.int v6]) rfl ?_
        exact zco_iret rfl rfl rfl (zdk (cc := cX0_lessons) (q := (65, .ireturn, 1)) tkX0_lessons 34 rfl)
set_option maxHeartbeats 2000000 in
set_option maxRecDepth 20000 in
theorem coX0_lessons_B22 (l : Launch) (e : Nat) (he : 6 ≤ e) (v0 : Nat) (v1 : Nat) (v2 : Int32) (v3 : Int32) (v4 : Int32) (r22 : Int32 → zM) (hr22 : ∀ x : Int32, zCo l (e + 1) 0 0 iX0_lessons 22 [(0, .ref v0), (1, .ref v1), (2, .int v2), (3, .int v3), (4, .int v4), (5, .int x)] [] (r22 x)) (v5 : Int32) : zCo l (e + 1) 0 0 iX0_lessons 22 [(0, .ref v0), (1, .ref v1), (2, .int v2), (3, .int v3), (4, .int v4), (5, .int v5)] [] (X0_lessons_B22 v0 v1 v2 v3 v4 r22 v5) := by
  unfold X0_lessons_B22
  refine zco_p tkX0_lessons 12 2 (pc' := 26) (L' := [(0, .ref v0), (1, .ref v1), (2, .int v2), (3, .int v3), (4, .int v4), (5, .int v5)]) (S' := [.int v4, .int v5]) rfl ?_
  refine zco_icmp_gt (tgt := 78) (zdk (cc := cX0_lessons) (q := (26, .if_icmp .gt 52, 3)) tkX0_lessons 14 rfl) rfl ?_ ?_
  · refine zco_p tkX0_lessons 39 1 (pc' := 79) (L' := [(0, .ref v0), (1, .ref v1), (2, .int v2), (3, .int v3), (4, .int v4), (5, .int v5)]) (S' := [.int ((-1))]) rfl ?_
    exact zco_iret rfl rfl rfl (zdk (cc := cX0_lessons) (q := (79, .ireturn, 1)) tkX0_lessons 40 rfl)
  · refine zco_p tkX0_lessons 15 2 (pc' := 32) (L' := [(6, .int 0), (0, .ref v0), (1, .ref v1), (2, .int v2), (3, .int v3), (4, .int v4), (5, .int v5)]) (S' := []) rfl ?_
    exact zco_sub [1, 2, 3, 4, 5, 6, 0] rfl (zco_fix (Lf := fun x : Int32 => [(0, .ref v0), (1, .ref v1), (2, .int v2), (3, .int v3), (4, .int v4), (5, .int v5), (6, .int x)]) (Sf := fun _ => []) (fun r hr x => coX0_lessons_B32 l e he v0 v1 v2 v3 v4 v5 r22 hr22 r hr x) zFU 0)
set_option maxHeartbeats 2000000 in
set_option maxRecDepth 20000 in
theorem coX0_lessons (l : Launch) (e : Nat) (he : 6 ≤ e) (v0 : Nat) (v1 : Nat) (v2 : Int32) (v3 : Int32) : zCo l (e + 1) 0 0 iX0_lessons 0 [(0, .ref v0), (1, .ref v1), (2, .int v2), (3, .int v3)] [] (X0_lessons v0 v1 v2 v3) := by
  unfold X0_lessons
  refine zco_p tkX0_lessons 0 1 (pc' := 1) (L' := [(0, .ref v0), (1, .ref v1), (2, .int v2), (3, .int v3)]) (S' := [.ref v0]) rfl ?_
  refine zco_gr fl_0_25 rfl (zdk (cc := cX0_lessons) (q := (1, .getfield 25, 3)) tkX0_lessons 1 rfl) (fun x1 => ?_)
  refine zco_gr fl_0_29 rfl (zdk (cc := cX0_lessons) (q := (4, .getfield 29, 3)) tkX0_lessons 2 rfl) (fun x2 => ?_)
  refine zco_gr fl_0_72 rfl (zdk (cc := cX0_lessons) (q := (7, .getfield 72, 3)) tkX0_lessons 3 rfl) (fun x3 => ?_)
  refine zco_p tkX0_lessons 4 2 (pc' := 12) (L' := [(0, .ref v0), (1, .ref v1), (2, .int v2), (3, .int v3)]) (S' := [.int v2, .int 1, .ref x3]) rfl ?_
  refine zco_Ni (rc := 0) (rs := 0) (mc := 0) (ms := 0) (As := [.int v2]) (S := [.int 1, .ref x3]) vmX11_sideOf (mtX11_sideOf l e (by omega) v2) (host := "ClothWedding") (by decide +kernel) rfl rfl (Nat.le_of_ble_eq_true rfl) (zdk (cc := cX0_lessons) (q := (12, .invokestatic 75, 3)) tkX0_lessons 6 rfl) (fun y4 => ?_)
  refine zco_p tkX0_lessons 7 1 (pc' := 16) (L' := [(0, .ref v0), (1, .ref v1), (2, .int v2), (3, .int v3)]) (S' := [.int (1 - y4), .ref x3]) rfl ?_
  refine zco_iaload (zdk (cc := cX0_lessons) (q := (16, .iaload, 1)) tkX0_lessons 8 rfl) (fun x5 => ?_)
  refine zco_p tkX0_lessons 9 3 (pc' := 22) (L' := [(5, .int 0), (4, .int x5), (0, .ref v0), (1, .ref v1), (2, .int v2), (3, .int v3)]) (S' := []) rfl ?_
  exact zco_sub [2, 3, 4, 5, 1, 0] rfl (zco_fix (Lf := fun x : Int32 => [(0, .ref v0), (1, .ref v1), (2, .int v2), (3, .int v3), (4, .int x5), (5, .int x)]) (Sf := fun _ => []) (fun r hr x => coX0_lessons_B22 l e he v0 v1 v2 v3 x5 r hr x) zFU 0)
theorem mtX0_lessons (l : Launch) (d : Nat) (hd : 7 ≤ d) (v0 : Nat) (v1 : Nat) (v2 : Int32) (v3 : Int32) : zMet l d 0 0 yX0_lessons cX0_lessons 7 (Option.some .int) [.ref v0, .ref v1, .int v2, .int v3] (X0_lessons v0 v1 v2 v3) := by
  obtain ⟨e, rfl⟩ : ∃ e, d = e + 1 := ⟨d - 1, by omega⟩
  exact zmet_of (own := RX0) (ini := false) (by decide +kernel) rfl (fun _ => by contradiction) (Nat.le_of_ble_eq_true rfl) (coX0_lessons l e (by omega) v0 v1 v2 v3)
abbrev iX11_teach : zI := (RX11, cX11_teach, 4, (Option.some .int), false)
def tX11_teach : List (Nat × Instr × Nat) := [(0, .aload_n 0, 1), (1, .getfield 51, 3), (4, .iload_n 1, 1), (5, .invokevirtual 184, 3), (8, .istore_n 3, 1), (9, .iload_n 3, 1), (10, .iconst (-1), 1), (11, .if_icmp .eq 37, 3), (14, .aload_n 0, 1), (15, .getfield 79, 3), (18, .aload_n 0, 1), (19, .getfield 61, 3), (22, .iload_n 2, 1), (23, .iconst 1, 1), (24, .bipush 40, 2), (26, .invokevirtual 248, 3), (29, .ifCond .eq 19, 3), (32, .aload_n 0, 1), (33, .getfield 79, 3), (36, .aload_n 0, 1), (37, .getfield 61, 3), (40, .iload_n 3, 1), (41, .iload_n 2, 1), (42, .invokevirtual 277, 3), (45, .goto 4, 3), (48, .iconst (-1), 1), (49, .ireturn, 1)]
set_option maxRecDepth 100000 in
theorem tkX11_teach : ∀ q ∈ tX11_teach, decode cX11_teach q.1 = .ok q.2 := by decide +kernel
theorem vmX11_teach : zVM yX11_teach cX11_teach 4 (Option.some .int) 2 11 := ⟨kX11_teach, q_1125, q_1126, q_149, ⟨_, rfl, rfl⟩, by decide +kernel, by decide⟩
set_option maxHeartbeats 2000000 in
set_option maxRecDepth 20000 in
theorem coX11_teach (l : Launch) (e : Nat) (he : 7 ≤ e) (v0 : Nat) (v1 : Int32) (v2 : Int32) : zCo l (e + 1) 0 0 iX11_teach 0 [(0, .ref v0), (1, .int v1), (2, .int v2)] [] (X11_teach v0 v1 v2) := by
  unfold X11_teach
  refine zco_p tkX11_teach 0 1 (pc' := 1) (L' := [(0, .ref v0), (1, .int v1), (2, .int v2)]) (S' := [.ref v0]) rfl ?_
  refine zco_gr fl_11_51 rfl (zdk (cc := cX11_teach) (q := (1, .getfield 51, 3)) tkX11_teach 1 rfl) (fun x1 => ?_)
  refine zco_p tkX11_teach 2 1 (pc' := 5) (L' := [(0, .ref v0), (1, .int v1), (2, .int v2)]) (S' := [.int v1, .ref x1]) rfl ?_
  refine zco_Vi (rc := 0) (rs := 0) (mc := 0) (ms := 0) (As := [.int v1]) (S := []) vmX1_slot (mtX1_slot l e (by omega) x1 v1) q_932 rfl rfl (Nat.le_of_ble_eq_true rfl) (zdk (cc := cX11_teach) (q := (5, .invokevirtual 184, 3)) tkX11_teach 3 rfl) (fun y2 => ?_)
  refine zco_p tkX11_teach 4 3 (pc' := 11) (L' := [(3, .int y2), (0, .ref v0), (1, .int v1), (2, .int v2)]) (S' := [.int ((-1)), .int y2]) rfl ?_
  refine zco_icmp_eq (tgt := 48) (zdk (cc := cX11_teach) (q := (11, .if_icmp .eq 37, 3)) tkX11_teach 7 rfl) rfl ?_ ?_
  · refine zco_p tkX11_teach 25 1 (pc' := 49) (L' := [(3, .int y2), (0, .ref v0), (1, .int v1), (2, .int v2)]) (S' := [.int ((-1))]) rfl ?_
    exact zco_iret rfl rfl rfl (zdk (cc := cX11_teach) (q := (49, .ireturn, 1)) tkX11_teach 26 rfl)
  · refine zco_p tkX11_teach 8 1 (pc' := 15) (L' := [(3, .int y2), (0, .ref v0), (1, .int v1), (2, .int v2)]) (S' := [.ref v0]) rfl ?_
    refine zco_gr fl_11_79 rfl (zdk (cc := cX11_teach) (q := (15, .getfield 79, 3)) tkX11_teach 9 rfl) (fun x3 => ?_)
    refine zco_p tkX11_teach 10 1 (pc' := 19) (L' := [(3, .int y2), (0, .ref v0), (1, .int v1), (2, .int v2)]) (S' := [.ref v0, .ref x3]) rfl ?_
    refine zco_gr fl_11_61 rfl (zdk (cc := cX11_teach) (q := (19, .getfield 61, 3)) tkX11_teach 11 rfl) (fun x4 => ?_)
    refine zco_p tkX11_teach 12 3 (pc' := 26) (L' := [(3, .int y2), (0, .ref v0), (1, .int v1), (2, .int v2)]) (S' := [.int 40, .int 1, .int v2, .ref x4, .ref x3]) rfl ?_
    refine zco_Vi (rc := 0) (rs := 0) (mc := 0) (ms := 0) (As := [.ref x4, .int v2, .int 1, .int 40]) (S := []) vmX0_canCome (mtX0_canCome l e (by omega) x3 x4 v2 1 40) q_1030 rfl rfl (Nat.le_of_ble_eq_true rfl) (zdk (cc := cX11_teach) (q := (26, .invokevirtual 248, 3)) tkX11_teach 15 rfl) (fun y5 => ?_)
    refine zco_if_eq (tgt := 48) (zdk (cc := cX11_teach) (q := (29, .ifCond .eq 19, 3)) tkX11_teach 16 rfl) rfl ?_ ?_
    · refine zco_p tkX11_teach 25 1 (pc' := 49) (L' := [(3, .int y2), (0, .ref v0), (1, .int v1), (2, .int v2)]) (S' := [.int ((-1))]) rfl ?_
      exact zco_iret rfl rfl rfl (zdk (cc := cX11_teach) (q := (49, .ireturn, 1)) tkX11_teach 26 rfl)
    · refine zco_p tkX11_teach 17 1 (pc' := 33) (L' := [(3, .int y2), (0, .ref v0), (1, .int v1), (2, .int v2)]) (S' := [.ref v0]) rfl ?_
      refine zco_gr fl_11_79 rfl (zdk (cc := cX11_teach) (q := (33, .getfield 79, 3)) tkX11_teach 18 rfl) (fun x6 => ?_)
      refine zco_p tkX11_teach 19 1 (pc' := 37) (L' := [(3, .int y2), (0, .ref v0), (1, .int v1), (2, .int v2)]) (S' := [.ref v0, .ref x6]) rfl ?_
      refine zco_gr fl_11_61 rfl (zdk (cc := cX11_teach) (q := (37, .getfield 61, 3)) tkX11_teach 20 rfl) (fun x7 => ?_)
      refine zco_p tkX11_teach 21 2 (pc' := 42) (L' := [(3, .int y2), (0, .ref v0), (1, .int v1), (2, .int v2)]) (S' := [.int v2, .int y2, .ref x7, .ref x6]) rfl ?_
      refine zco_Vi (rc := 0) (rs := 0) (mc := 0) (ms := 0) (As := [.ref x7, .int y2, .int v2]) (S := []) vmX0_lessons (mtX0_lessons l e (by omega) x6 x7 y2 v2) q_1128 rfl rfl (Nat.le_of_ble_eq_true rfl) (zdk (cc := cX11_teach) (q := (42, .invokevirtual 277, 3)) tkX11_teach 23 rfl) (fun y8 => ?_)
      refine zco_p tkX11_teach 24 1 (pc' := 49) (L' := [(3, .int y2), (0, .ref v0), (1, .int v1), (2, .int v2)]) (S' := [.int y8]) rfl ?_
      exact zco_iret rfl rfl rfl (zdk (cc := cX11_teach) (q := (49, .ireturn, 1)) tkX11_teach 26 rfl)
theorem mtX11_teach (l : Launch) (d : Nat) (hd : 8 ≤ d) (v0 : Nat) (v1 : Int32) (v2 : Int32) : zMet l d 0 0 yX11_teach cX11_teach 4 (Option.some .int) [.ref v0, .int v1, .int v2] (X11_teach v0 v1 v2) := by
  obtain ⟨e, rfl⟩ : ∃ e, d = e + 1 := ⟨d - 1, by omega⟩
  exact zmet_of (own := RX11) (ini := false) (by decide +kernel) rfl (fun _ => by contradiction) (Nat.le_of_ble_eq_true rfl) (coX11_teach l e (by omega) v0 v1 v2)
abbrev iX0_note : zI := (RX0, cX0_note, 4, (Option.none : Option FieldType), false)
def tX0_note : List (Nat × Instr × Nat) := [(0, .aload_n 0, 1), (1, .getfield 18, 3), (4, .iconst 0, 1), (5, .iload_n 1, 1), (6, .iastore, 1), (7, .aload_n 0, 1), (8, .getfield 18, 3), (11, .iconst 1, 1), (12, .iload_n 2, 1), (13, .iastore, 1), (14, .aload_n 0, 1), (15, .getfield 18, 3), (18, .iconst 2, 1), (19, .iload_n 3, 1), (20, .iastore, 1), (21, .return_, 1)]
set_option maxRecDepth 100000 in
theorem tkX0_note : ∀ q ∈ tX0_note, decode cX0_note q.1 = .ok q.2 := by decide +kernel
theorem vmX0_note : zVM yX0_note cX0_note 4 (Option.none : Option FieldType) 3 0 := ⟨kX0_note, q_1153, q_31, q_158, ⟨_, rfl, rfl⟩, by decide +kernel, by decide⟩
set_option maxHeartbeats 2000000 in
set_option maxRecDepth 20000 in
theorem coX0_note (l : Launch) (e : Nat) (he : 0 ≤ e) (v0 : Nat) (v1 : Int32) (v2 : Int32) (v3 : Int32) : zCo l (e + 1) 0 0 iX0_note 0 [(0, .ref v0), (1, .int v1), (2, .int v2), (3, .int v3)] [] (X0_note v0 v1 v2 v3) := by
  unfold X0_note
  refine zco_p tkX0_note 0 1 (pc' := 1) (L' := [(0, .ref v0), (1, .int v1), (2, .int v2), (3, .int v3)]) (S' := [.ref v0]) rfl ?_
  refine zco_gr fl_0_18 rfl (zdk (cc := cX0_note) (q := (1, .getfield 18, 3)) tkX0_note 1 rfl) (fun x1 => ?_)
  refine zco_p tkX0_note 2 2 (pc' := 6) (L' := [(0, .ref v0), (1, .int v1), (2, .int v2), (3, .int v3)]) (S' := [.int v1, .int 0, .ref x1]) rfl ?_
  refine zco_iastore (zdk (cc := cX0_note) (q := (6, .iastore, 1)) tkX0_note 4 rfl) ?_
  refine zco_p tkX0_note 5 1 (pc' := 8) (L' := [(0, .ref v0), (1, .int v1), (2, .int v2), (3, .int v3)]) (S' := [.ref v0]) rfl ?_
  refine zco_gr fl_0_18 rfl (zdk (cc := cX0_note) (q := (8, .getfield 18, 3)) tkX0_note 6 rfl) (fun x2 => ?_)
  refine zco_p tkX0_note 7 2 (pc' := 13) (L' := [(0, .ref v0), (1, .int v1), (2, .int v2), (3, .int v3)]) (S' := [.int v2, .int 1, .ref x2]) rfl ?_
  refine zco_iastore (zdk (cc := cX0_note) (q := (13, .iastore, 1)) tkX0_note 9 rfl) ?_
  refine zco_p tkX0_note 10 1 (pc' := 15) (L' := [(0, .ref v0), (1, .int v1), (2, .int v2), (3, .int v3)]) (S' := [.ref v0]) rfl ?_
  refine zco_gr fl_0_18 rfl (zdk (cc := cX0_note) (q := (15, .getfield 18, 3)) tkX0_note 11 rfl) (fun x3 => ?_)
  refine zco_p tkX0_note 12 2 (pc' := 20) (L' := [(0, .ref v0), (1, .int v1), (2, .int v2), (3, .int v3)]) (S' := [.int v3, .int 2, .ref x3]) rfl ?_
  refine zco_iastore (zdk (cc := cX0_note) (q := (20, .iastore, 1)) tkX0_note 14 rfl) ?_
  exact zco_vret rfl rfl rfl (zdk (cc := cX0_note) (q := (21, .return_, 1)) tkX0_note 15 rfl)
theorem mtX0_note (l : Launch) (d : Nat) (hd : 1 ≤ d) (v0 : Nat) (v1 : Int32) (v2 : Int32) (v3 : Int32) : zMet l d 0 0 yX0_note cX0_note 4 (Option.none : Option FieldType) [.ref v0, .int v1, .int v2, .int v3] (X0_note v0 v1 v2 v3) := by
  obtain ⟨e, rfl⟩ : ∃ e, d = e + 1 := ⟨d - 1, by omega⟩
  exact zmet_of (own := RX0) (ini := false) (by decide +kernel) rfl (fun _ => by contradiction) (Nat.le_of_ble_eq_true rfl) (coX0_note l e (by omega) v0 v1 v2 v3)
abbrev iX8_exchange : zI := (RX8, cX8_exchange, 5, (Option.none : Option FieldType), false)
def tX8_exchange : List (Nat × Instr × Nat) := [(0, .aload_n 0, 1), (1, .getfield 18, 3), (4, .iload_n 1, 1), (5, .bipush 6, 2), (7, .imul, 1), (8, .iload_n 2, 1), (9, .iadd, 1), (10, .iaload, 1), (11, .istore 4, 2), (13, .aload_n 0, 1), (14, .getfield 18, 3), (17, .iload_n 1, 1), (18, .bipush 6, 2), (20, .imul, 1), (21, .iload_n 2, 1), (22, .iadd, 1), (23, .aload_n 0, 1), (24, .getfield 18, 3), (27, .iload_n 1, 1), (28, .bipush 6, 2), (30, .imul, 1), (31, .iload_n 3, 1), (32, .iadd, 1), (33, .iaload, 1), (34, .iastore, 1), (35, .aload_n 0, 1), (36, .getfield 18, 3), (39, .iload_n 1, 1), (40, .bipush 6, 2), (42, .imul, 1), (43, .iload_n 3, 1), (44, .iadd, 1), (45, .iload 4, 2), (47, .iastore, 1), (48, .return_, 1)]
set_option maxRecDepth 100000 in
theorem tkX8_exchange : ∀ q ∈ tX8_exchange, decode cX8_exchange q.1 = .ok q.2 := by decide +kernel
theorem vmX8_exchange : zVM yX8_exchange cX8_exchange 5 (Option.none : Option FieldType) 3 8 := ⟨kX8_exchange, q_1157, q_1158, q_156, ⟨_, rfl, rfl⟩, by decide +kernel, by decide⟩
set_option maxHeartbeats 2000000 in
set_option maxRecDepth 20000 in
theorem coX8_exchange (l : Launch) (e : Nat) (he : 0 ≤ e) (v0 : Nat) (v1 : Int32) (v2 : Int32) (v3 : Int32) : zCo l (e + 1) 0 0 iX8_exchange 0 [(0, .ref v0), (1, .int v1), (2, .int v2), (3, .int v3)] [] (X8_exchange v0 v1 v2 v3) := by
  unfold X8_exchange
  refine zco_p tkX8_exchange 0 1 (pc' := 1) (L' := [(0, .ref v0), (1, .int v1), (2, .int v2), (3, .int v3)]) (S' := [.ref v0]) rfl ?_
  refine zco_gr fl_8_18 rfl (zdk (cc := cX8_exchange) (q := (1, .getfield 18, 3)) tkX8_exchange 1 rfl) (fun x1 => ?_)
  refine zco_p tkX8_exchange 2 5 (pc' := 10) (L' := [(0, .ref v0), (1, .int v1), (2, .int v2), (3, .int v3)]) (S' := [.int ((v1 * 6) + v2), .ref x1]) rfl ?_
  refine zco_iaload (zdk (cc := cX8_exchange) (q := (10, .iaload, 1)) tkX8_exchange 7 rfl) (fun x2 => ?_)
  refine zco_p tkX8_exchange 8 2 (pc' := 14) (L' := [(4, .int x2), (0, .ref v0), (1, .int v1), (2, .int v2), (3, .int v3)]) (S' := [.ref v0]) rfl ?_
  refine zco_gr fl_8_18 rfl (zdk (cc := cX8_exchange) (q := (14, .getfield 18, 3)) tkX8_exchange 10 rfl) (fun x3 => ?_)
  refine zco_p tkX8_exchange 11 6 (pc' := 24) (L' := [(4, .int x2), (0, .ref v0), (1, .int v1), (2, .int v2), (3, .int v3)]) (S' := [.ref v0, .int ((v1 * 6) + v2), .ref x3]) rfl ?_
  refine zco_gr fl_8_18 rfl (zdk (cc := cX8_exchange) (q := (24, .getfield 18, 3)) tkX8_exchange 17 rfl) (fun x4 => ?_)
  refine zco_p tkX8_exchange 18 5 (pc' := 33) (L' := [(4, .int x2), (0, .ref v0), (1, .int v1), (2, .int v2), (3, .int v3)]) (S' := [.int ((v1 * 6) + v3), .ref x4, .int ((v1 * 6) + v2), .ref x3]) rfl ?_
  refine zco_iaload (zdk (cc := cX8_exchange) (q := (33, .iaload, 1)) tkX8_exchange 23 rfl) (fun x5 => ?_)
  refine zco_iastore (zdk (cc := cX8_exchange) (q := (34, .iastore, 1)) tkX8_exchange 24 rfl) ?_
  refine zco_p tkX8_exchange 25 1 (pc' := 36) (L' := [(4, .int x2), (0, .ref v0), (1, .int v1), (2, .int v2), (3, .int v3)]) (S' := [.ref v0]) rfl ?_
  refine zco_gr fl_8_18 rfl (zdk (cc := cX8_exchange) (q := (36, .getfield 18, 3)) tkX8_exchange 26 rfl) (fun x6 => ?_)
  refine zco_p tkX8_exchange 27 6 (pc' := 47) (L' := [(4, .int x2), (0, .ref v0), (1, .int v1), (2, .int v2), (3, .int v3)]) (S' := [.int x2, .int ((v1 * 6) + v3), .ref x6]) rfl ?_
  refine zco_iastore (zdk (cc := cX8_exchange) (q := (47, .iastore, 1)) tkX8_exchange 33 rfl) ?_
  exact zco_vret rfl rfl rfl (zdk (cc := cX8_exchange) (q := (48, .return_, 1)) tkX8_exchange 34 rfl)
theorem mtX8_exchange (l : Launch) (d : Nat) (hd : 1 ≤ d) (v0 : Nat) (v1 : Int32) (v2 : Int32) (v3 : Int32) : zMet l d 0 0 yX8_exchange cX8_exchange 5 (Option.none : Option FieldType) [.ref v0, .int v1, .int v2, .int v3] (X8_exchange v0 v1 v2 v3) := by
  obtain ⟨e, rfl⟩ : ∃ e, d = e + 1 := ⟨d - 1, by omega⟩
  exact zmet_of (own := RX8) (ini := false) (by decide +kernel) rfl (fun _ => by contradiction) (Nat.le_of_ble_eq_true rfl) (coX8_exchange l e (by omega) v0 v1 v2 v3)
abbrev iX0_findChange : zI := (RX0, cX0_findChange, 7, (Option.none : Option FieldType), false)
def tX0_findChange : List (Nat × Instr × Nat) := [(0, .aload_n 0, 1), (1, .iconst (-1), 1), (2, .iconst (-1), 1), (3, .iconst (-1), 1), (4, .invokevirtual 91, 3), (7, .aload_n 0, 1), (8, .getfield 12, 3), (11, .aload_n 1, 1), (12, .invokevirtual 55, 3), (15, .aload_n 0, 1), (16, .iload_n 2, 1), (17, .invokevirtual 59, 3), (20, .aload_n 0, 1), (21, .getfield 18, 3), (24, .iconst 3, 1), (25, .aload_n 0, 1), (26, .getfield 12, 3), (29, .invokevirtual 95, 3), (32, .iastore, 1), (33, .iconst 0, 1), (34, .istore_n 3, 1), (35, .iload_n 3, 1), (36, .iconst 2, 1), (37, .if_icmp .ge 121, 3), (40, .aload_n 0, 1), (41, .getfield 25, 3), (44, .getfield 29, 3), (47, .getfield 72, 3), (50, .iload_n 3, 1), (51, .iaload, 1), (52, .istore 4, 2), (54, .iconst 0, 1), (55, .istore 5, 2), (57, .iload 5, 2), (59, .iload 4, 2), (61, .if_icmp .ge 91, 3), (64, .iload 5, 2), (66, .iconst 1, 1), (67, .iadd, 1), (68, .istore 6, 2), (70, .iload 6, 2), (72, .iload 4, 2), (74, .if_icmp .ge 72, 3), (77, .aload_n 0, 1), (78, .getfield 12, 3), (81, .aload_n 1, 1), (82, .invokevirtual 55, 3), (85, .aload_n 0, 1), (86, .getfield 12, 3), (89, .iload_n 3, 1), (90, .iload 5, 2), (92, .iload 6, 2), (94, .invokevirtual 99, 3), (97, .aload_n 0, 1), (98, .iload_n 2, 1), (99, .invokevirtual 59, 3), (102, .aload_n 0, 1), (103, .getfield 12, 3), (106, .invokevirtual 95, 3), (109, .aload_n 0, 1), (110, .getfield 18, 3), (113, .iconst 3, 1), (114, .iaload, 1), (115, .if_icmp .le 25, 3), (118, .aload_n 0, 1), (119, .iload_n 3, 1), (120, .iload 5, 2), (122, .iload 6, 2), (124, .invokevirtual 91, 3), (127, .aload_n 0, 1), (128, .getfield 18, 3), (131, .iconst 3, 1), (132, .aload_n 0, 1), (133, .getfield 12, 3), (136, .invokevirtual 95, 3), (139, .iastore, 1), (140, .iinc 6 1, 3), (143, .goto (-73), 3), (146, .iinc 5 1, 3), (149, .goto (-92), 3), (152, .iinc 3 1, 3), (155, .goto (-120), 3), (158, .return_, 1)]
set_option maxRecDepth 100000 in
theorem tkX0_findChange : ∀ q ∈ tX0_findChange, decode cX0_findChange q.1 = .ok q.2 := by decide +kernel
theorem vmX0_findChange : zVM yX0_findChange cX0_findChange 7 (Option.none : Option FieldType) 2 0 := ⟨kX0_findChange, q_1148, q_1149, q_158, ⟨_, rfl, rfl⟩, by decide +kernel, by decide⟩
set_option maxHeartbeats 2000000 in
set_option maxRecDepth 20000 in
theorem coX0_findChange_J152 (l : Launch) (e : Nat) (he : 6 ≤ e) (v0 : Nat) (v1 : Nat) (v2 : Int32) (v3 : Int32) (r35 : Int32 → zM) (hr35 : ∀ x : Int32, zCo l (e + 1) 0 0 iX0_findChange 35 [(0, .ref v0), (1, .ref v1), (2, .int v2), (3, .int x)] [] (r35 x)) : zCo l (e + 1) 0 0 iX0_findChange 152 [(0, .ref v0), (1, .ref v1), (2, .int v2), (3, .int v3)] [] (X0_findChange_J152 r35 v0 v1 v2 v3) := by
  unfold X0_findChange_J152
  refine zco_p tkX0_findChange 80 2 (pc' := 35) (L' := [(3, .int (v3 + 1)), (0, .ref v0), (1, .ref v1), (2, .int v2)]) (S' := []) rfl ?_
  exact zco_sub [1, 2, 3, 0] rfl (hr35 (v3 + 1))
set_option maxHeartbeats 2000000 in
set_option maxRecDepth 20000 in
theorem coX0_findChange_J146 (l : Launch) (e : Nat) (he : 6 ≤ e) (v0 : Nat) (v1 : Nat) (v2 : Int32) (v3 : Int32) (v4 : Int32) (v5 : Int32) (r35 : Int32 → zM) (hr35 : ∀ x : Int32, zCo l (e + 1) 0 0 iX0_findChange 35 [(0, .ref v0), (1, .ref v1), (2, .int v2), (3, .int x)] [] (r35 x)) (r57 : Int32 → zM) (hr57 : ∀ x : Int32, zCo l (e + 1) 0 0 iX0_findChange 57 [(0, .ref v0), (1, .ref v1), (2, .int v2), (3, .int v3), (4, .int v4), (5, .int x)] [] (r57 x)) : zCo l (e + 1) 0 0 iX0_findChange 146 [(0, .ref v0), (1, .ref v1), (2, .int v2), (3, .int v3), (4, .int v4), (5, .int v5)] [] (X0_findChange_J146 r35 r57 v0 v1 v2 v3 v4 v5) := by
  unfold X0_findChange_J146
  refine zco_p tkX0_findChange 78 2 (pc' := 57) (L' := [(5, .int (v5 + 1)), (0, .ref v0), (1, .ref v1), (2, .int v2), (3, .int v3), (4, .int v4)]) (S' := []) rfl ?_
  exact zco_sub [1, 2, 3, 4, 5, 0] rfl (hr57 (v5 + 1))
set_option maxHeartbeats 2000000 in
set_option maxRecDepth 20000 in
theorem coX0_findChange_J140 (l : Launch) (e : Nat) (he : 6 ≤ e) (v0 : Nat) (v1 : Nat) (v2 : Int32) (v3 : Int32) (v4 : Int32) (v5 : Int32) (v6 : Int32) (r35 : Int32 → zM) (hr35 : ∀ x : Int32, zCo l (e + 1) 0 0 iX0_findChange 35 [(0, .ref v0), (1, .ref v1), (2, .int v2), (3, .int x)] [] (r35 x)) (r57 : Int32 → zM) (hr57 : ∀ x : Int32, zCo l (e + 1) 0 0 iX0_findChange 57 [(0, .ref v0), (1, .ref v1), (2, .int v2), (3, .int v3), (4, .int v4), (5, .int x)] [] (r57 x)) (r70 : Int32 → zM) (hr70 : ∀ x : Int32, zCo l (e + 1) 0 0 iX0_findChange 70 [(0, .ref v0), (1, .ref v1), (2, .int v2), (3, .int v3), (4, .int v4), (5, .int v5), (6, .int x)] [] (r70 x)) : zCo l (e + 1) 0 0 iX0_findChange 140 [(0, .ref v0), (1, .ref v1), (2, .int v2), (3, .int v3), (4, .int v4), (5, .int v5), (6, .int v6)] [] (X0_findChange_J140 r35 r57 r70 v0 v1 v2 v3 v4 v5 v6) := by
  unfold X0_findChange_J140
  refine zco_p tkX0_findChange 76 2 (pc' := 70) (L' := [(6, .int (v6 + 1)), (0, .ref v0), (1, .ref v1), (2, .int v2), (3, .int v3), (4, .int v4), (5, .int v5)]) (S' := []) rfl ?_
  exact zco_sub [1, 2, 3, 4, 5, 6, 0] rfl (hr70 (v6 + 1))
set_option maxHeartbeats 2000000 in
set_option maxRecDepth 20000 in
theorem coX0_findChange_B70 (l : Launch) (e : Nat) (he : 6 ≤ e) (v0 : Nat) (v1 : Nat) (v2 : Int32) (v3 : Int32) (v4 : Int32) (v5 : Int32) (r35 : Int32 → zM) (hr35 : ∀ x : Int32, zCo l (e + 1) 0 0 iX0_findChange 35 [(0, .ref v0), (1, .ref v1), (2, .int v2), (3, .int x)] [] (r35 x)) (r57 : Int32 → zM) (hr57 : ∀ x : Int32, zCo l (e + 1) 0 0 iX0_findChange 57 [(0, .ref v0), (1, .ref v1), (2, .int v2), (3, .int v3), (4, .int v4), (5, .int x)] [] (r57 x)) (r70 : Int32 → zM) (hr70 : ∀ x : Int32, zCo l (e + 1) 0 0 iX0_findChange 70 [(0, .ref v0), (1, .ref v1), (2, .int v2), (3, .int v3), (4, .int v4), (5, .int v5), (6, .int x)] [] (r70 x)) (v6 : Int32) : zCo l (e + 1) 0 0 iX0_findChange 70 [(0, .ref v0), (1, .ref v1), (2, .int v2), (3, .int v3), (4, .int v4), (5, .int v5), (6, .int v6)] [] (X0_findChange_B70 r35 r57 v0 v1 v2 v3 v4 v5 r70 v6) := by
  unfold X0_findChange_B70
  refine zco_p tkX0_findChange 40 2 (pc' := 74) (L' := [(0, .ref v0), (1, .ref v1), (2, .int v2), (3, .int v3), (4, .int v4), (5, .int v5), (6, .int v6)]) (S' := [.int v4, .int v6]) rfl ?_
  refine zco_icmp_ge (tgt := 146) (zdk (cc := cX0_findChange) (q := (74, .if_icmp .ge 72, 3)) tkX0_findChange 42 rfl) rfl ?_ ?_
  · exact zco_sub [0, 1, 2, 3, 4, 5] rfl (coX0_findChange_J146 l e he v0 v1 v2 v3 v4 v5 r35 hr35 r57 hr57)
  · refine zco_p tkX0_findChange 43 1 (pc' := 78) (L' := [(0, .ref v0), (1, .ref v1), (2, .int v2), (3, .int v3), (4, .int v4), (5, .int v5), (6, .int v6)]) (S' := [.ref v0]) rfl ?_
    refine zco_gr fl_0_12 rfl (zdk (cc := cX0_findChange) (q := (78, .getfield 12, 3)) tkX0_findChange 44 rfl) (fun x1 => ?_)
    refine zco_p tkX0_findChange 45 1 (pc' := 82) (L' := [(0, .ref v0), (1, .ref v1), (2, .int v2), (3, .int v3), (4, .int v4), (5, .int v5), (6, .int v6)]) (S' := [.ref v1, .ref x1]) rfl ?_
    refine zco_Vv (rc := 0) (rs := 0) (mc := 0) (ms := 0) (As := [.ref v1]) (S := []) vmX8_take (mtX8_take l e (by omega) x1 v1) q_1042 rfl rfl (Nat.le_of_ble_eq_true rfl) (zdk (cc := cX0_findChange) (q := (82, .invokevirtual 55, 3)) tkX0_findChange 46 rfl) ?_
    refine zco_p tkX0_findChange 47 1 (pc' := 86) (L' := [(0, .ref v0), (1, .ref v1), (2, .int v2), (3, .int v3), (4, .int v4), (5, .int v5), (6, .int v6)]) (S' := [.ref v0]) rfl ?_
    refine zco_gr fl_0_12 rfl (zdk (cc := cX0_findChange) (q := (86, .getfield 12, 3)) tkX0_findChange 48 rfl) (fun x2 => ?_)
    refine zco_p tkX0_findChange 49 3 (pc' := 94) (L' := [(0, .ref v0), (1, .ref v1), (2, .int v2), (3, .int v3), (4, .int v4), (5, .int v5), (6, .int v6)]) (S' := [.int v6, .int v5, .int v3, .ref x2]) rfl ?_
    refine zco_Vv (rc := 0) (rs := 0) (mc := 0) (ms := 0) (As := [.int v3, .int v5, .int v6]) (S := []) vmX8_exchange (mtX8_exchange l e (by omega) x2 v3 v5 v6) q_1156 rfl rfl (Nat.le_of_ble_eq_true rfl) (zdk (cc := cX0_findChange) (q := (94, .invokevirtual 99, 3)) tkX0_findChange 52 rfl) ?_
    refine zco_p tkX0_findChange 53 2 (pc' := 99) (L' := [(0, .ref v0), (1, .ref v1), (2, .int v2), (3, .int v3), (4, .int v4), (5, .int v5), (6, .int v6)]) (S' := [.int v2, .ref v0]) rfl ?_
    refine zco_Vv (rc := 0) (rs := 0) (mc := 0) (ms := 0) (As := [.int v2]) (S := []) vmX0_goOn (mtX0_goOn l e (by omega) v0 v2) q_1046 rfl rfl (Nat.le_of_ble_eq_true rfl) (zdk (cc := cX0_findChange) (q := (99, .invokevirtual 59, 3)) tkX0_findChange 55 rfl) ?_
    refine zco_p tkX0_findChange 56 1 (pc' := 103) (L' := [(0, .ref v0), (1, .ref v1), (2, .int v2), (3, .int v3), (4, .int v4), (5, .int v5), (6, .int v6)]) (S' := [.ref v0]) rfl ?_
    refine zco_gr fl_0_12 rfl (zdk (cc := cX0_findChange) (q := (103, .getfield 12, 3)) tkX0_findChange 57 rfl) (fun x3 => ?_)
    refine zco_Vi (rc := 0) (rs := 0) (mc := 0) (ms := 0) (As := []) (S := []) vmX8_wedPairs (mtX8_wedPairs l e (by omega) x3) q_1155 rfl rfl (Nat.le_of_ble_eq_true rfl) (zdk (cc := cX0_findChange) (q := (106, .invokevirtual 95, 3)) tkX0_findChange 58 rfl) (fun y4 => ?_)
    refine zco_p tkX0_findChange 59 1 (pc' := 110) (L' := [(0, .ref v0), (1, .ref v1), (2, .int v2), (3, .int v3), (4, .int v4), (5, .int v5), (6, .int v6)]) (S' := [.ref v0, .int y4]) rfl ?_
    refine zco_gr fl_0_18 rfl (zdk (cc := cX0_findChange) (q := (110, .getfield 18, 3)) tkX0_findChange 60 rfl) (fun x5 => ?_)
    refine zco_p tkX0_findChange 61 1 (pc' := 114) (L' := [(0, .ref v0), (1, .ref v1), (2, .int v2), (3, .int v3), (4, .int v4), (5, .int v5), (6, .int v6)]) (S' := [.int 3, .ref x5, .int y4]) rfl ?_
    refine zco_iaload (zdk (cc := cX0_findChange) (q := (114, .iaload, 1)) tkX0_findChange 62 rfl) (fun x6 => ?_)
    refine zco_icmp_le (tgt := 140) (zdk (cc := cX0_findChange) (q := (115, .if_icmp .le 25, 3)) tkX0_findChange 63 rfl) rfl ?_ ?_
    · exact zco_sub [0, 1, 2, 3, 4, 5, 6] rfl (coX0_findChange_J140 l e he v0 v1 v2 v3 v4 v5 v6 r35 hr35 r57 hr57 r70 hr70)
    · refine zco_p tkX0_findChange 64 4 (pc' := 124) (L' := [(0, .ref v0), (1, .ref v1), (2, .int v2), (3, .int v3), (4, .int v4), (5, .int v5), (6, .int v6)]) (S' := [.int v6, .int v5, .int v3, .ref v0]) rfl ?_
      refine zco_Vv (rc := 0) (rs := 0) (mc := 0) (ms := 0) (As := [.int v3, .int v5, .int v6]) (S := []) vmX0_note (mtX0_note l e (by omega) v0 v3 v5 v6) q_1151 rfl rfl (Nat.le_of_ble_eq_true rfl) (zdk (cc := cX0_findChange) (q := (124, .invokevirtual 91, 3)) tkX0_findChange 68 rfl) ?_
      refine zco_p tkX0_findChange 69 1 (pc' := 128) (L' := [(0, .ref v0), (1, .ref v1), (2, .int v2), (3, .int v3), (4, .int v4), (5, .int v5), (6, .int v6)]) (S' := [.ref v0]) rfl ?_
      refine zco_gr fl_0_18 rfl (zdk (cc := cX0_findChange) (q := (128, .getfield 18, 3)) tkX0_findChange 70 rfl) (fun x7 => ?_)
      refine zco_p tkX0_findChange 71 2 (pc' := 133) (L' := [(0, .ref v0), (1, .ref v1), (2, .int v2), (3, .int v3), (4, .int v4), (5, .int v5), (6, .int v6)]) (S' := [.ref v0, .int 3, .ref x7]) rfl ?_
      refine zco_gr fl_0_12 rfl (zdk (cc := cX0_findChange) (q := (133, .getfield 12, 3)) tkX0_findChange 73 rfl) (fun x8 => ?_)
      refine zco_Vi (rc := 0) (rs := 0) (mc := 0) (ms := 0) (As := []) (S := [.int 3, .ref x7]) vmX8_wedPairs (mtX8_wedPairs l e (by omega) x8) q_1155 rfl rfl (Nat.le_of_ble_eq_true rfl) (zdk (cc := cX0_findChange) (q := (136, .invokevirtual 95, 3)) tkX0_findChange 74 rfl) (fun y9 => ?_)
      refine zco_iastore (zdk (cc := cX0_findChange) (q := (139, .iastore, 1)) tkX0_findChange 75 rfl) ?_
      exact zco_sub [0, 1, 2, 3, 4, 5, 6] rfl (coX0_findChange_J140 l e he v0 v1 v2 v3 v4 v5 v6 r35 hr35 r57 hr57 r70 hr70)
set_option maxHeartbeats 2000000 in
set_option maxRecDepth 20000 in
theorem coX0_findChange_B57 (l : Launch) (e : Nat) (he : 6 ≤ e) (v0 : Nat) (v1 : Nat) (v2 : Int32) (v3 : Int32) (v4 : Int32) (r35 : Int32 → zM) (hr35 : ∀ x : Int32, zCo l (e + 1) 0 0 iX0_findChange 35 [(0, .ref v0), (1, .ref v1), (2, .int v2), (3, .int x)] [] (r35 x)) (r57 : Int32 → zM) (hr57 : ∀ x : Int32, zCo l (e + 1) 0 0 iX0_findChange 57 [(0, .ref v0), (1, .ref v1), (2, .int v2), (3, .int v3), (4, .int v4), (5, .int x)] [] (r57 x)) (v5 : Int32) : zCo l (e + 1) 0 0 iX0_findChange 57 [(0, .ref v0), (1, .ref v1), (2, .int v2), (3, .int v3), (4, .int v4), (5, .int v5)] [] (X0_findChange_B57 r35 v0 v1 v2 v3 v4 r57 v5) := by
  unfold X0_findChange_B57
  refine zco_p tkX0_findChange 33 2 (pc' := 61) (L' := [(0, .ref v0), (1, .ref v1), (2, .int v2), (3, .int v3), (4, .int v4), (5, .int v5)]) (S' := [.int v4, .int v5]) rfl ?_
  refine zco_icmp_ge (tgt := 152) (zdk (cc := cX0_findChange) (q := (61, .if_icmp .ge 91, 3)) tkX0_findChange 35 rfl) rfl ?_ ?_
  · exact zco_sub [0, 1, 2, 3] rfl (coX0_findChange_J152 l e he v0 v1 v2 v3 r35 hr35)
  · refine zco_p tkX0_findChange 36 4 (pc' := 70) (L' := [(6, .int (v5 + 1)), (0, .ref v0), (1, .ref v1), (2, .int v2), (3, .int v3), (4, .int v4), (5, .int v5)]) (S' := []) rfl ?_
    exact zco_sub [1, 2, 3, 4, 5, 6, 0] rfl (zco_fix (Lf := fun x : Int32 => [(0, .ref v0), (1, .ref v1), (2, .int v2), (3, .int v3), (4, .int v4), (5, .int v5), (6, .int x)]) (Sf := fun _ => []) (fun r hr x => coX0_findChange_B70 l e he v0 v1 v2 v3 v4 v5 r35 hr35 r57 hr57 r hr x) zFU (v5 + 1))
set_option maxHeartbeats 2000000 in
set_option maxRecDepth 20000 in
theorem coX0_findChange_B35 (l : Launch) (e : Nat) (he : 6 ≤ e) (v0 : Nat) (v1 : Nat) (v2 : Int32) (r35 : Int32 → zM) (hr35 : ∀ x : Int32, zCo l (e + 1) 0 0 iX0_findChange 35 [(0, .ref v0), (1, .ref v1), (2, .int v2), (3, .int x)] [] (r35 x)) (v3 : Int32) : zCo l (e + 1) 0 0 iX0_findChange 35 [(0, .ref v0), (1, .ref v1), (2, .int v2), (3, .int v3)] [] (X0_findChange_B35 v0 v1 v2 r35 v3) := by
  unfold X0_findChange_B35
  refine zco_p tkX0_findChange 21 2 (pc' := 37) (L' := [(0, .ref v0), (1, .ref v1), (2, .int v2), (3, .int v3)]) (S' := [.int 2, .int v3]) rfl ?_
  refine zco_icmp_ge (tgt := 158) (zdk (cc := cX0_findChange) (q := (37, .if_icmp .ge 121, 3)) tkX0_findChange 23 rfl) rfl ?_ ?_
  · exact zco_vret rfl rfl rfl (zdk (cc := cX0_findChange) (q := (158, .return_, 1)) tkX0_findChange 82 rfl)
  · refine zco_p tkX0_findChange 24 1 (pc' := 41) (L' := [(0, .ref v0), (1, .ref v1), (2, .int v2), (3, .int v3)]) (S' := [.ref v0]) rfl ?_
    refine zco_gr fl_0_25 rfl (zdk (cc := cX0_findChange) (q := (41, .getfield 25, 3)) tkX0_findChange 25 rfl) (fun x1 => ?_)
    refine zco_gr fl_0_29 rfl (zdk (cc := cX0_findChange) (q := (44, .getfield 29, 3)) tkX0_findChange 26 rfl) (fun x2 => ?_)
    refine zco_gr fl_0_72 rfl (zdk (cc := cX0_findChange) (q := (47, .getfield 72, 3)) tkX0_findChange 27 rfl) (fun x3 => ?_)
    refine zco_p tkX0_findChange 28 1 (pc' := 51) (L' := [(0, .ref v0), (1, .ref v1), (2, .int v2), (3, .int v3)]) (S' := [.int v3, .ref x3]) rfl ?_
    refine zco_iaload (zdk (cc := cX0_findChange) (q := (51, .iaload, 1)) tkX0_findChange 29 rfl) (fun x4 => ?_)
    refine zco_p tkX0_findChange 30 3 (pc' := 57) (L' := [(5, .int 0), (4, .int x4), (0, .ref v0), (1, .ref v1), (2, .int v2), (3, .int v3)]) (S' := []) rfl ?_
    exact zco_sub [2, 3, 4, 5, 1, 0] rfl (zco_fix (Lf := fun x : Int32 => [(0, .ref v0), (1, .ref v1), (2, .int v2), (3, .int v3), (4, .int x4), (5, .int x)]) (Sf := fun _ => []) (fun r hr x => coX0_findChange_B57 l e he v0 v1 v2 v3 x4 r35 hr35 r hr x) zFU 0)
set_option maxHeartbeats 2000000 in
set_option maxRecDepth 20000 in
theorem coX0_findChange (l : Launch) (e : Nat) (he : 6 ≤ e) (v0 : Nat) (v1 : Nat) (v2 : Int32) : zCo l (e + 1) 0 0 iX0_findChange 0 [(0, .ref v0), (1, .ref v1), (2, .int v2)] [] (X0_findChange v0 v1 v2) := by
  unfold X0_findChange
  refine zco_p tkX0_findChange 0 4 (pc' := 4) (L' := [(0, .ref v0), (1, .ref v1), (2, .int v2)]) (S' := [.int ((-1)), .int ((-1)), .int ((-1)), .ref v0]) rfl ?_
  refine zco_Vv (rc := 0) (rs := 0) (mc := 0) (ms := 0) (As := [.int ((-1)), .int ((-1)), .int ((-1))]) (S := []) vmX0_note (mtX0_note l e (by omega) v0 ((-1)) ((-1)) ((-1))) q_1151 rfl rfl (Nat.le_of_ble_eq_true rfl) (zdk (cc := cX0_findChange) (q := (4, .invokevirtual 91, 3)) tkX0_findChange 4 rfl) ?_
  refine zco_p tkX0_findChange 5 1 (pc' := 8) (L' := [(0, .ref v0), (1, .ref v1), (2, .int v2)]) (S' := [.ref v0]) rfl ?_
  refine zco_gr fl_0_12 rfl (zdk (cc := cX0_findChange) (q := (8, .getfield 12, 3)) tkX0_findChange 6 rfl) (fun x1 => ?_)
  refine zco_p tkX0_findChange 7 1 (pc' := 12) (L' := [(0, .ref v0), (1, .ref v1), (2, .int v2)]) (S' := [.ref v1, .ref x1]) rfl ?_
  refine zco_Vv (rc := 0) (rs := 0) (mc := 0) (ms := 0) (As := [.ref v1]) (S := []) vmX8_take (mtX8_take l e (by omega) x1 v1) q_1042 rfl rfl (Nat.le_of_ble_eq_true rfl) (zdk (cc := cX0_findChange) (q := (12, .invokevirtual 55, 3)) tkX0_findChange 8 rfl) ?_
  refine zco_p tkX0_findChange 9 2 (pc' := 17) (L' := [(0, .ref v0), (1, .ref v1), (2, .int v2)]) (S' := [.int v2, .ref v0]) rfl ?_
  refine zco_Vv (rc := 0) (rs := 0) (mc := 0) (ms := 0) (As := [.int v2]) (S := []) vmX0_goOn (mtX0_goOn l e (by omega) v0 v2) q_1046 rfl rfl (Nat.le_of_ble_eq_true rfl) (zdk (cc := cX0_findChange) (q := (17, .invokevirtual 59, 3)) tkX0_findChange 11 rfl) ?_
  refine zco_p tkX0_findChange 12 1 (pc' := 21) (L' := [(0, .ref v0), (1, .ref v1), (2, .int v2)]) (S' := [.ref v0]) rfl ?_
  refine zco_gr fl_0_18 rfl (zdk (cc := cX0_findChange) (q := (21, .getfield 18, 3)) tkX0_findChange 13 rfl) (fun x2 => ?_)
  refine zco_p tkX0_findChange 14 2 (pc' := 26) (L' := [(0, .ref v0), (1, .ref v1), (2, .int v2)]) (S' := [.ref v0, .int 3, .ref x2]) rfl ?_
  refine zco_gr fl_0_12 rfl (zdk (cc := cX0_findChange) (q := (26, .getfield 12, 3)) tkX0_findChange 16 rfl) (fun x3 => ?_)
  refine zco_Vi (rc := 0) (rs := 0) (mc := 0) (ms := 0) (As := []) (S := [.int 3, .ref x2]) vmX8_wedPairs (mtX8_wedPairs l e (by omega) x3) q_1155 rfl rfl (Nat.le_of_ble_eq_true rfl) (zdk (cc := cX0_findChange) (q := (29, .invokevirtual 95, 3)) tkX0_findChange 17 rfl) (fun y4 => ?_)
  refine zco_iastore (zdk (cc := cX0_findChange) (q := (32, .iastore, 1)) tkX0_findChange 18 rfl) ?_
  refine zco_p tkX0_findChange 19 2 (pc' := 35) (L' := [(3, .int 0), (0, .ref v0), (1, .ref v1), (2, .int v2)]) (S' := []) rfl ?_
  exact zco_sub [1, 2, 3, 0] rfl (zco_fix (Lf := fun x : Int32 => [(0, .ref v0), (1, .ref v1), (2, .int v2), (3, .int x)]) (Sf := fun _ => []) (fun r hr x => coX0_findChange_B35 l e he v0 v1 v2 r hr x) zFU 0)
theorem mtX0_findChange (l : Launch) (d : Nat) (hd : 7 ≤ d) (v0 : Nat) (v1 : Nat) (v2 : Int32) : zMet l d 0 0 yX0_findChange cX0_findChange 7 (Option.none : Option FieldType) [.ref v0, .ref v1, .int v2] (X0_findChange v0 v1 v2) := by
  obtain ⟨e, rfl⟩ : ∃ e, d = e + 1 := ⟨d - 1, by omega⟩
  exact zmet_of (own := RX0) (ini := false) (by decide +kernel) rfl (fun _ => by contradiction) (Nat.le_of_ble_eq_true rfl) (coX0_findChange l e (by omega) v0 v1 v2)
abbrev iX11_change : zI := (RX11, cX11_change, 3, (Option.some .int), false)
def tX11_change : List (Nat × Instr × Nat) := [(0, .iload_n 2, 1), (1, .ifCond .lt 26, 3), (4, .iload_n 2, 1), (5, .iconst 3, 1), (6, .if_icmp .gt 21, 3), (9, .aload_n 0, 1), (10, .getfield 79, 3), (13, .aload_n 0, 1), (14, .getfield 61, 3), (17, .iload_n 1, 1), (18, .iconst 1, 1), (19, .bipush 40, 2), (21, .invokevirtual 248, 3), (24, .ifCond .ne 5, 3), (27, .iconst (-1), 1), (28, .ireturn, 1), (29, .aload_n 0, 1), (30, .getfield 79, 3), (33, .aload_n 0, 1), (34, .getfield 61, 3), (37, .iload_n 1, 1), (38, .invokevirtual 280, 3), (41, .aload_n 0, 1), (42, .getfield 79, 3), (45, .getfield 284, 3), (48, .iload_n 2, 1), (49, .iaload, 1), (50, .ireturn, 1)]
set_option maxRecDepth 100000 in
theorem tkX11_change : ∀ q ∈ tX11_change, decode cX11_change q.1 = .ok q.2 := by decide +kernel
theorem vmX11_change : zVM yX11_change cX11_change 3 (Option.some .int) 2 11 := ⟨kX11_change, q_1144, q_1145, q_149, ⟨_, rfl, rfl⟩, by decide +kernel, by decide⟩
set_option maxHeartbeats 2000000 in
set_option maxRecDepth 20000 in
theorem coX11_change (l : Launch) (e : Nat) (he : 7 ≤ e) (v0 : Nat) (v1 : Int32) (v2 : Int32) : zCo l (e + 1) 0 0 iX11_change 0 [(0, .ref v0), (1, .int v1), (2, .int v2)] [] (X11_change v0 v1 v2) := by
  unfold X11_change
  refine zco_p tkX11_change 0 1 (pc' := 1) (L' := [(0, .ref v0), (1, .int v1), (2, .int v2)]) (S' := [.int v2]) rfl ?_
  refine zco_if_lt (tgt := 27) (zdk (cc := cX11_change) (q := (1, .ifCond .lt 26, 3)) tkX11_change 1 rfl) rfl ?_ ?_
  · refine zco_p tkX11_change 14 1 (pc' := 28) (L' := [(0, .ref v0), (1, .int v1), (2, .int v2)]) (S' := [.int ((-1))]) rfl ?_
    exact zco_iret rfl rfl rfl (zdk (cc := cX11_change) (q := (28, .ireturn, 1)) tkX11_change 15 rfl)
  · refine zco_p tkX11_change 2 2 (pc' := 6) (L' := [(0, .ref v0), (1, .int v1), (2, .int v2)]) (S' := [.int 3, .int v2]) rfl ?_
    refine zco_icmp_gt (tgt := 27) (zdk (cc := cX11_change) (q := (6, .if_icmp .gt 21, 3)) tkX11_change 4 rfl) rfl ?_ ?_
    · refine zco_p tkX11_change 14 1 (pc' := 28) (L' := [(0, .ref v0), (1, .int v1), (2, .int v2)]) (S' := [.int ((-1))]) rfl ?_
      exact zco_iret rfl rfl rfl (zdk (cc := cX11_change) (q := (28, .ireturn, 1)) tkX11_change 15 rfl)
    · refine zco_p tkX11_change 5 1 (pc' := 10) (L' := [(0, .ref v0), (1, .int v1), (2, .int v2)]) (S' := [.ref v0]) rfl ?_
      refine zco_gr fl_11_79 rfl (zdk (cc := cX11_change) (q := (10, .getfield 79, 3)) tkX11_change 6 rfl) (fun x1 => ?_)
      refine zco_p tkX11_change 7 1 (pc' := 14) (L' := [(0, .ref v0), (1, .int v1), (2, .int v2)]) (S' := [.ref v0, .ref x1]) rfl ?_
      refine zco_gr fl_11_61 rfl (zdk (cc := cX11_change) (q := (14, .getfield 61, 3)) tkX11_change 8 rfl) (fun x2 => ?_)
      refine zco_p tkX11_change 9 3 (pc' := 21) (L' := [(0, .ref v0), (1, .int v1), (2, .int v2)]) (S' := [.int 40, .int 1, .int v1, .ref x2, .ref x1]) rfl ?_
      refine zco_Vi (rc := 0) (rs := 0) (mc := 0) (ms := 0) (As := [.ref x2, .int v1, .int 1, .int 40]) (S := []) vmX0_canCome (mtX0_canCome l e (by omega) x1 x2 v1 1 40) q_1030 rfl rfl (Nat.le_of_ble_eq_true rfl) (zdk (cc := cX11_change) (q := (21, .invokevirtual 248, 3)) tkX11_change 12 rfl) (fun y3 => ?_)
      refine zco_if_ne (tgt := 29) (zdk (cc := cX11_change) (q := (24, .ifCond .ne 5, 3)) tkX11_change 13 rfl) rfl ?_ ?_
      · refine zco_p tkX11_change 16 1 (pc' := 30) (L' := [(0, .ref v0), (1, .int v1), (2, .int v2)]) (S' := [.ref v0]) rfl ?_
        refine zco_gr fl_11_79 rfl (zdk (cc := cX11_change) (q := (30, .getfield 79, 3)) tkX11_change 17 rfl) (fun x4 => ?_)
        refine zco_p tkX11_change 18 1 (pc' := 34) (L' := [(0, .ref v0), (1, .int v1), (2, .int v2)]) (S' := [.ref v0, .ref x4]) rfl ?_
        refine zco_gr fl_11_61 rfl (zdk (cc := cX11_change) (q := (34, .getfield 61, 3)) tkX11_change 19 rfl) (fun x5 => ?_)
        refine zco_p tkX11_change 20 1 (pc' := 38) (L' := [(0, .ref v0), (1, .int v1), (2, .int v2)]) (S' := [.int v1, .ref x5, .ref x4]) rfl ?_
        refine zco_Vv (rc := 0) (rs := 0) (mc := 0) (ms := 0) (As := [.ref x5, .int v1]) (S := []) vmX0_findChange (mtX0_findChange l e (by omega) x4 x5 v1) q_1147 rfl rfl (Nat.le_of_ble_eq_true rfl) (zdk (cc := cX11_change) (q := (38, .invokevirtual 280, 3)) tkX11_change 21 rfl) ?_
        refine zco_p tkX11_change 22 1 (pc' := 42) (L' := [(0, .ref v0), (1, .int v1), (2, .int v2)]) (S' := [.ref v0]) rfl ?_
        refine zco_gr fl_11_79 rfl (zdk (cc := cX11_change) (q := (42, .getfield 79, 3)) tkX11_change 23 rfl) (fun x6 => ?_)
        refine zco_gr fl_11_284 rfl (zdk (cc := cX11_change) (q := (45, .getfield 284, 3)) tkX11_change 24 rfl) (fun x7 => ?_)
        refine zco_p tkX11_change 25 1 (pc' := 49) (L' := [(0, .ref v0), (1, .int v1), (2, .int v2)]) (S' := [.int v2, .ref x7]) rfl ?_
        refine zco_iaload (zdk (cc := cX11_change) (q := (49, .iaload, 1)) tkX11_change 26 rfl) (fun x8 => ?_)
        exact zco_iret rfl rfl rfl (zdk (cc := cX11_change) (q := (50, .ireturn, 1)) tkX11_change 27 rfl)
      · refine zco_p tkX11_change 14 1 (pc' := 28) (L' := [(0, .ref v0), (1, .int v1), (2, .int v2)]) (S' := [.int ((-1))]) rfl ?_
        exact zco_iret rfl rfl rfl (zdk (cc := cX11_change) (q := (28, .ireturn, 1)) tkX11_change 15 rfl)
theorem mtX11_change (l : Launch) (d : Nat) (hd : 8 ≤ d) (v0 : Nat) (v1 : Int32) (v2 : Int32) : zMet l d 0 0 yX11_change cX11_change 3 (Option.some .int) [.ref v0, .int v1, .int v2] (X11_change v0 v1 v2) := by
  obtain ⟨e, rfl⟩ : ∃ e, d = e + 1 := ⟨d - 1, by omega⟩
  exact zmet_of (own := RX11) (ini := false) (by decide +kernel) rfl (fun _ => by contradiction) (Nat.le_of_ble_eq_true rfl) (coX11_change l e (by omega) v0 v1 v2)
abbrev iX0_wedNext : zI := (RX0, cX0_wedNext, 4, (Option.some .int), false)
def tX0_wedNext : List (Nat × Instr × Nat) := [(0, .aload_n 0, 1), (1, .getfield 12, 3), (4, .aload_n 1, 1), (5, .invokevirtual 55, 3), (8, .aload_n 0, 1), (9, .getfield 25, 3), (12, .aload_n 0, 1), (13, .getfield 12, 3), (16, .iload_n 3, 1), (17, .invokevirtual 51, 3), (20, .pop, 1), (21, .aload_n 0, 1), (22, .getfield 12, 3), (25, .getfield 69, 3), (28, .iload_n 2, 1), (29, .iaload, 1), (30, .iconst (-1), 1), (31, .if_icmp .eq 7, 3), (34, .iconst 1, 1), (35, .goto 4, 3), (38, .iconst 0, 1), (39, .ireturn, 1)]
set_option maxRecDepth 100000 in
theorem tkX0_wedNext : ∀ q ∈ tX0_wedNext, decode cX0_wedNext q.1 = .ok q.2 := by decide +kernel
theorem vmX0_wedNext : zVM yX0_wedNext cX0_wedNext 4 (Option.some .int) 3 0 := ⟨kX0_wedNext, q_1173, q_32, q_158, ⟨_, rfl, rfl⟩, by decide +kernel, by decide⟩
set_option maxHeartbeats 2000000 in
set_option maxRecDepth 20000 in
theorem coX0_wedNext (l : Launch) (e : Nat) (he : 5 ≤ e) (v0 : Nat) (v1 : Nat) (v2 : Int32) (v3 : Int32) : zCo l (e + 1) 0 0 iX0_wedNext 0 [(0, .ref v0), (1, .ref v1), (2, .int v2), (3, .int v3)] [] (X0_wedNext v0 v1 v2 v3) := by
  unfold X0_wedNext
  refine zco_p tkX0_wedNext 0 1 (pc' := 1) (L' := [(0, .ref v0), (1, .ref v1), (2, .int v2), (3, .int v3)]) (S' := [.ref v0]) rfl ?_
  refine zco_gr fl_0_12 rfl (zdk (cc := cX0_wedNext) (q := (1, .getfield 12, 3)) tkX0_wedNext 1 rfl) (fun x1 => ?_)
  refine zco_p tkX0_wedNext 2 1 (pc' := 5) (L' := [(0, .ref v0), (1, .ref v1), (2, .int v2), (3, .int v3)]) (S' := [.ref v1, .ref x1]) rfl ?_
  refine zco_Vv (rc := 0) (rs := 0) (mc := 0) (ms := 0) (As := [.ref v1]) (S := []) vmX8_take (mtX8_take l e (by omega) x1 v1) q_1042 rfl rfl (Nat.le_of_ble_eq_true rfl) (zdk (cc := cX0_wedNext) (q := (5, .invokevirtual 55, 3)) tkX0_wedNext 3 rfl) ?_
  refine zco_p tkX0_wedNext 4 1 (pc' := 9) (L' := [(0, .ref v0), (1, .ref v1), (2, .int v2), (3, .int v3)]) (S' := [.ref v0]) rfl ?_
  refine zco_gr fl_0_25 rfl (zdk (cc := cX0_wedNext) (q := (9, .getfield 25, 3)) tkX0_wedNext 5 rfl) (fun x2 => ?_)
  refine zco_p tkX0_wedNext 6 1 (pc' := 13) (L' := [(0, .ref v0), (1, .ref v1), (2, .int v2), (3, .int v3)]) (S' := [.ref v0, .ref x2]) rfl ?_
  refine zco_gr fl_0_12 rfl (zdk (cc := cX0_wedNext) (q := (13, .getfield 12, 3)) tkX0_wedNext 7 rfl) (fun x3 => ?_)
  refine zco_p tkX0_wedNext 8 1 (pc' := 17) (L' := [(0, .ref v0), (1, .ref v1), (2, .int v2), (3, .int v3)]) (S' := [.int v3, .ref x3, .ref x2]) rfl ?_
  refine zco_Vi (rc := 0) (rs := 0) (mc := 0) (ms := 0) (As := [.ref x3, .int v3]) (S := []) vmX10_go (mtX10_go l e (by omega) x2 x3 v3) q_1050 rfl rfl (Nat.le_of_ble_eq_true rfl) (zdk (cc := cX0_wedNext) (q := (17, .invokevirtual 51, 3)) tkX0_wedNext 9 rfl) (fun y4 => ?_)
  refine zco_p tkX0_wedNext 10 2 (pc' := 22) (L' := [(0, .ref v0), (1, .ref v1), (2, .int v2), (3, .int v3)]) (S' := [.ref v0]) rfl ?_
  refine zco_gr fl_0_12 rfl (zdk (cc := cX0_wedNext) (q := (22, .getfield 12, 3)) tkX0_wedNext 12 rfl) (fun x5 => ?_)
  refine zco_gr fl_0_69 rfl (zdk (cc := cX0_wedNext) (q := (25, .getfield 69, 3)) tkX0_wedNext 13 rfl) (fun x6 => ?_)
  refine zco_p tkX0_wedNext 14 1 (pc' := 29) (L' := [(0, .ref v0), (1, .ref v1), (2, .int v2), (3, .int v3)]) (S' := [.int v2, .ref x6]) rfl ?_
  refine zco_iaload (zdk (cc := cX0_wedNext) (q := (29, .iaload, 1)) tkX0_wedNext 15 rfl) (fun x7 => ?_)
  refine zco_p tkX0_wedNext 16 1 (pc' := 31) (L' := [(0, .ref v0), (1, .ref v1), (2, .int v2), (3, .int v3)]) (S' := [.int ((-1)), .int x7]) rfl ?_
  refine zco_icmp_eq (tgt := 38) (zdk (cc := cX0_wedNext) (q := (31, .if_icmp .eq 7, 3)) tkX0_wedNext 17 rfl) rfl ?_ ?_
  · refine zco_p tkX0_wedNext 20 1 (pc' := 39) (L' := [(0, .ref v0), (1, .ref v1), (2, .int v2), (3, .int v3)]) (S' := [.int 0]) rfl ?_
    exact zco_iret rfl rfl rfl (zdk (cc := cX0_wedNext) (q := (39, .ireturn, 1)) tkX0_wedNext 21 rfl)
  · refine zco_p tkX0_wedNext 18 2 (pc' := 39) (L' := [(0, .ref v0), (1, .ref v1), (2, .int v2), (3, .int v3)]) (S' := [.int 1]) rfl ?_
    exact zco_iret rfl rfl rfl (zdk (cc := cX0_wedNext) (q := (39, .ireturn, 1)) tkX0_wedNext 21 rfl)
theorem mtX0_wedNext (l : Launch) (d : Nat) (hd : 6 ≤ d) (v0 : Nat) (v1 : Nat) (v2 : Int32) (v3 : Int32) : zMet l d 0 0 yX0_wedNext cX0_wedNext 4 (Option.some .int) [.ref v0, .ref v1, .int v2, .int v3] (X0_wedNext v0 v1 v2 v3) := by
  obtain ⟨e, rfl⟩ : ∃ e, d = e + 1 := ⟨d - 1, by omega⟩
  exact zmet_of (own := RX0) (ini := false) (by decide +kernel) rfl (fun _ => by contradiction) (Nat.le_of_ble_eq_true rfl) (coX0_wedNext l e (by omega) v0 v1 v2 v3)
abbrev iX0_oddsOf : zI := (RX0, cX0_oddsOf, 7, (Option.some .int), false)
def tX0_oddsOf : List (Nat × Instr × Nat) := [(0, .aload_n 0, 1), (1, .getfield 25, 3), (4, .getfield 29, 3), (7, .astore_n 3, 1), (8, .aload_n 3, 1), (9, .invokevirtual 102, 3), (12, .istore 4, 2), (14, .iconst 0, 1), (15, .istore 5, 2), (17, .iconst 0, 1), (18, .istore 6, 2), (20, .iload 6, 2), (22, .iload 4, 2), (24, .if_icmp .ge 26, 3), (27, .iload 5, 2), (29, .aload_n 0, 1), (30, .aload_n 1, 1), (31, .iload_n 2, 1), (32, .aload_n 3, 1), (33, .iload 6, 2), (35, .invokevirtual 105, 3), (38, .invokevirtual 108, 3), (41, .iadd, 1), (42, .istore 5, 2), (44, .iinc 6 1, 3), (47, .goto (-27), 3), (50, .aload_n 3, 1), (51, .getfield 112, 3), (54, .iload 5, 2), (56, .imul, 1), (57, .bipush 100, 2), (59, .aload_n 3, 1), (60, .getfield 112, 3), (63, .isub, 1), (64, .iload 4, 2), (66, .imul, 1), (67, .aload_n 0, 1), (68, .aload_n 1, 1), (69, .iload_n 2, 1), (70, .iconst (-1), 1), (71, .invokevirtual 108, 3), (74, .imul, 1), (75, .iadd, 1), (76, .ireturn, 1)]
set_option maxRecDepth 100000 in
theorem tkX0_oddsOf : ∀ q ∈ tX0_oddsOf, decode cX0_oddsOf q.1 = .ok q.2 := by decide +kernel
theorem vmX0_oddsOf : zVM yX0_oddsOf cX0_oddsOf 7 (Option.some .int) 2 0 := ⟨kX0_oddsOf, q_1166, q_1167, q_158, ⟨_, rfl, rfl⟩, by decide +kernel, by decide⟩
set_option maxHeartbeats 2000000 in
set_option maxRecDepth 20000 in
theorem coX0_oddsOf_J50 (l : Launch) (e : Nat) (he : 6 ≤ e) (v0 : Nat) (v1 : Nat) (v2 : Int32) (v3 : Nat) (v4 : Int32) (v5 : Int32) : zCo l (e + 1) 0 0 iX0_oddsOf 50 [(0, .ref v0), (1, .ref v1), (2, .int v2), (3, .ref v3), (4, .int v4), (5, .int v5)] [] (X0_oddsOf_J50 v0 v1 v2 v3 v4 v5) := by
  unfold X0_oddsOf_J50
  refine zco_p tkX0_oddsOf 26 1 (pc' := 51) (L' := [(0, .ref v0), (1, .ref v1), (2, .int v2), (3, .ref v3), (4, .int v4), (5, .int v5)]) (S' := [.ref v3]) rfl ?_
  refine zco_gi fl_0_112 rfl (zdk (cc := cX0_oddsOf) (q := (51, .getfield 112, 3)) tkX0_oddsOf 27 rfl) (fun x1 => ?_)
  refine zco_p tkX0_oddsOf 28 4 (pc' := 60) (L' := [(0, .ref v0), (1, .ref v1), (2, .int v2), (3, .ref v3), (4, .int v4), (5, .int v5)]) (S' := [.ref v3, .int 100, .int (x1 * v5)]) rfl ?_
  refine zco_gi fl_0_112 rfl (zdk (cc := cX0_oddsOf) (q := (60, .getfield 112, 3)) tkX0_oddsOf 32 rfl) (fun x2 => ?_)
  refine zco_p tkX0_oddsOf 33 7 (pc' := 71) (L' := [(0, .ref v0), (1, .ref v1), (2, .int v2), (3, .ref v3), (4, .int v4), (5, .int v5)]) (S' := [.int ((-1)), .int v2, .ref v1, .ref v0, .int ((100 - x2) * v4), .int (x1 * v5)]) rfl ?_
  refine zco_Vi (rc := 0) (rs := 0) (mc := 0) (ms := 0) (As := [.ref v1, .int v2, .int ((-1))]) (S := [.int ((100 - x2) * v4), .int (x1 * v5)]) vmX0_wedNext (mtX0_wedNext l e (by omega) v0 v1 v2 ((-1))) q_1171 rfl rfl (Nat.le_of_ble_eq_true rfl) (zdk (cc := cX0_oddsOf) (q := (71, .invokevirtual 108, 3)) tkX0_oddsOf 40 rfl) (fun y3 => ?_)
  refine zco_p tkX0_oddsOf 41 2 (pc' := 76) (L' := [(0, .ref v0), (1, .ref v1), (2, .int v2), (3, .ref v3), (4, .int v4), (5, .int v5)]) (S' := [.int ((x1 * v5) + (((100 - x2) * v4) * y3))]) rfl ?_
  exact zco_iret rfl rfl rfl (zdk (cc := cX0_oddsOf) (q := (76, .ireturn, 1)) tkX0_oddsOf 43 rfl)
set_option maxHeartbeats 2000000 in
set_option maxRecDepth 20000 in
theorem coX0_oddsOf_B20 (l : Launch) (e : Nat) (he : 6 ≤ e) (v0 : Nat) (v1 : Nat) (v2 : Int32) (v3 : Nat) (v4 : Int32) (r20 : Int32 × Int32 → zM) (hr20 : ∀ x : Int32 × Int32, zCo l (e + 1) 0 0 iX0_oddsOf 20 [(0, .ref v0), (1, .ref v1), (2, .int v2), (3, .ref v3), (4, .int v4), (5, .int x.1), (6, .int x.2)] [] (r20 x)) (v5 : Int32) (v6 : Int32) : zCo l (e + 1) 0 0 iX0_oddsOf 20 [(0, .ref v0), (1, .ref v1), (2, .int v2), (3, .ref v3), (4, .int v4), (5, .int v5), (6, .int v6)] [] (X0_oddsOf_B20 v0 v1 v2 v3 v4 r20 v5 v6) := by
  unfold X0_oddsOf_B20
  refine zco_p tkX0_oddsOf 11 2 (pc' := 24) (L' := [(0, .ref v0), (1, .ref v1), (2, .int v2), (3, .ref v3), (4, .int v4), (5, .int v5), (6, .int v6)]) (S' := [.int v4, .int v6]) rfl ?_
  refine zco_icmp_ge (tgt := 50) (zdk (cc := cX0_oddsOf) (q := (24, .if_icmp .ge 26, 3)) tkX0_oddsOf 13 rfl) rfl ?_ ?_
  · exact zco_sub [0, 1, 2, 3, 4, 5] rfl (coX0_oddsOf_J50 l e he v0 v1 v2 v3 v4 v5)
  · refine zco_p tkX0_oddsOf 14 6 (pc' := 35) (L' := [(0, .ref v0), (1, .ref v1), (2, .int v2), (3, .ref v3), (4, .int v4), (5, .int v5), (6, .int v6)]) (S' := [.int v6, .ref v3, .int v2, .ref v1, .ref v0, .int v5]) rfl ?_
    refine zco_Vi (rc := 0) (rs := 0) (mc := 0) (ms := 0) (As := [.int v6]) (S := [.int v2, .ref v1, .ref v0, .int v5]) vmX1_slot (mtX1_slot l e (by omega) v3 v6) q_1170 rfl rfl (Nat.le_of_ble_eq_true rfl) (zdk (cc := cX0_oddsOf) (q := (35, .invokevirtual 105, 3)) tkX0_oddsOf 20 rfl) (fun y1 => ?_)
    refine zco_Vi (rc := 0) (rs := 0) (mc := 0) (ms := 0) (As := [.ref v1, .int v2, .int y1]) (S := [.int v5]) vmX0_wedNext (mtX0_wedNext l e (by omega) v0 v1 v2 y1) q_1171 rfl rfl (Nat.le_of_ble_eq_true rfl) (zdk (cc := cX0_oddsOf) (q := (38, .invokevirtual 108, 3)) tkX0_oddsOf 21 rfl) (fun y2 => ?_)
    refine zco_p tkX0_oddsOf 22 4 (pc' := 20) (L' := [(6, .int (v6 + 1)), (5, .int (v5 + y2)), (0, .ref v0), (1, .ref v1), (2, .int v2), (3, .ref v3), (4, .int v4)]) (S' := []) rfl ?_
    exact zco_sub [2, 3, 4, 5, 6, 1, 0] rfl (hr20 (v5 + y2, v6 + 1))
set_option maxHeartbeats 2000000 in
set_option maxRecDepth 20000 in
theorem coX0_oddsOf (l : Launch) (e : Nat) (he : 6 ≤ e) (v0 : Nat) (v1 : Nat) (v2 : Int32) : zCo l (e + 1) 0 0 iX0_oddsOf 0 [(0, .ref v0), (1, .ref v1), (2, .int v2)] [] (X0_oddsOf v0 v1 v2) := by
  unfold X0_oddsOf
  refine zco_p tkX0_oddsOf 0 1 (pc' := 1) (L' := [(0, .ref v0), (1, .ref v1), (2, .int v2)]) (S' := [.ref v0]) rfl ?_
  refine zco_gr fl_0_25 rfl (zdk (cc := cX0_oddsOf) (q := (1, .getfield 25, 3)) tkX0_oddsOf 1 rfl) (fun x1 => ?_)
  refine zco_gr fl_0_29 rfl (zdk (cc := cX0_oddsOf) (q := (4, .getfield 29, 3)) tkX0_oddsOf 2 rfl) (fun x2 => ?_)
  refine zco_p tkX0_oddsOf 3 2 (pc' := 9) (L' := [(3, .ref x2), (0, .ref v0), (1, .ref v1), (2, .int v2)]) (S' := [.ref x2]) rfl ?_
  refine zco_Vi (rc := 0) (rs := 0) (mc := 0) (ms := 0) (As := []) (S := []) vmX1_people (mtX1_people l e (by omega) x2) q_1169 rfl rfl (Nat.le_of_ble_eq_true rfl) (zdk (cc := cX0_oddsOf) (q := (9, .invokevirtual 102, 3)) tkX0_oddsOf 5 rfl) (fun y3 => ?_)
  refine zco_p tkX0_oddsOf 6 5 (pc' := 20) (L' := [(6, .int 0), (5, .int 0), (4, .int y3), (3, .ref x2), (0, .ref v0), (1, .ref v1), (2, .int v2)]) (S' := []) rfl ?_
  exact zco_sub [4, 5, 6, 3, 2, 1, 0] rfl (zco_fix (Lf := fun x : Int32 × Int32 => [(0, .ref v0), (1, .ref v1), (2, .int v2), (3, .ref x2), (4, .int y3), (5, .int x.1), (6, .int x.2)]) (Sf := fun _ => []) (fun r hr x => coX0_oddsOf_B20 l e he v0 v1 v2 x2 y3 r hr x.1 x.2) zFU (0, 0))
theorem mtX0_oddsOf (l : Launch) (d : Nat) (hd : 7 ≤ d) (v0 : Nat) (v1 : Nat) (v2 : Int32) : zMet l d 0 0 yX0_oddsOf cX0_oddsOf 7 (Option.some .int) [.ref v0, .ref v1, .int v2] (X0_oddsOf v0 v1 v2) := by
  obtain ⟨e, rfl⟩ : ∃ e, d = e + 1 := ⟨d - 1, by omega⟩
  exact zmet_of (own := RX0) (ini := false) (by decide +kernel) rfl (fun _ => by contradiction) (Nat.le_of_ble_eq_true rfl) (coX0_oddsOf l e (by omega) v0 v1 v2)
