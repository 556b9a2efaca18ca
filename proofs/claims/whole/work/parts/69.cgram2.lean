/-! the class's grammar is the grammar: all of it -/
section B69
variable {I I0 : Nat → Nat → Int32} {L L0 : Nat → Nat → Int64} {ρ : zRh} {h : zH} {b : Nat → Nat} {n a x cd u0 kd : Nat} {cs0 : List Nat} {e : Nat × Nat}
theorem S_cmp (hcd : cdk cd) {cs : List Nat} (hU : gU cd u0 kd I ρ b n cs0 (.inr (a, cs))) : ∃ J v, X4_comparison 10 (hp I L ρ) = some (some (.int (nI v)), hp J L ρ) ∧ gU cd u0 kd J ρ b n cs0 (match p_cmp (t_c b n a) with | none => .inl (1, a) | some _ => .inr (sk b n (a + 1), cs)) ∧ gfr cd u0 I J ∧ (∀ op, p_cmp (t_c b n a) = some op → v = op) := by
  obtain ⟨J1, a1, a2, a3⟩ := S_sign (L := L) (c := 60) hcd (by omega) hU
  unfold X4_comparison
  rw [gr_10_0, rc_2, show (60 : Int32) = nI 60 from rfl, h_ci a1, h_if]
  by_cases c : t_c b n a = 60
  · rw [if_pos c] at a2
    rw [decide_eq_true c, if_neg (show ¬ bI true = 0 by decide), show p_cmp (t_c b n a) = some 20007 by rw [c]; rfl]
    exact ⟨J1, 20007, rfl, a2, a3, fun op ho => by cases ho; rfl⟩
  · rw [if_neg c] at a2
    obtain ⟨J2, b1, b2, b3⟩ := S_sign (L := L) (c := 62) hcd (by omega) a2
    rw [decide_eq_false c, bF, if_pos rfl, gr_10_0, rc_2, show (62 : Int32) = nI 62 from rfl, h_ci b1, h_if]
    by_cases c2 : t_c b n a = 62
    · rw [if_pos c2] at b2
      rw [decide_eq_true c2, if_neg (show ¬ bI true = 0 by decide), show p_cmp (t_c b n a) = some 20008 by rw [c2]; rfl]
      exact ⟨J2, 20008, rfl, b2, gfr_trans a3 b3, fun op ho => by cases ho; rfl⟩
    · rw [if_neg c2] at b2
      obtain ⟨J3, d1, d2, d3⟩ := S_need (L := L) (c := 61) hcd (by omega) b2
      rw [decide_eq_false c2, bF, if_pos rfl, gr_10_0, rc_2, show (61 : Int32) = nI 61 from rfl, h_cv d1]
      unfold p_sg at d2
      by_cases c3 : t_c b n a = 61
      · rw [if_pos c3] at d2
        rw [show p_cmp (t_c b n a) = some 20009 by rw [c3]; rfl]
        exact ⟨J3, 20009, rfl, d2, gfr_trans (gfr_trans a3 b3) d3, fun op ho => by cases ho; rfl⟩
      · rw [if_neg c3] at d2
        have e0 : p_cmp (t_c b n a) = none := by unfold p_cmp; rw [if_neg c, if_neg c2, if_neg c3]
        rw [e0]
        exact ⟨J3, 20009, rfl, d2, gfr_trans (gfr_trans a3 b3) d3, fun op ho => by cases ho⟩
theorem S_191 (hcd : cdk cd) {gr : Nat → Nat → Int32 → Int32 → Int32 → zM} {cs : List Nat} (hU : gU cd u0 kd I ρ b n cs0 (.inr (a, cs))) : ∃ J, X4_oneOf_J191 gr 10 (nI a) (hp I L ρ) = some (none, hp J L ρ) ∧ gU cd u0 kd J ρ b n cs0 (pA (p_wd b n kd a) cs) ∧ gfr cd u0 I J := by
  obtain ⟨y, y1, y2, y3⟩ := hU.2.2.2.1
  have y3' : sk b n y = a := y3
  obtain ⟨s1, s2, s3⟩ := S_cnt hU
  have hn := hU.1.2.1
  have hs : I 2 3 = 0 := hU.2.2.1
  have hw := X9_wordIn_s (L := L) (ρ := ρ) hU.1 y1 y2 hs (k := if kd = 3 then 14 else 0) (by split <;> omega)
  have hws : wsK (if kd = 3 then 14 else 0) = pws kd := by unfold pws; split <;> rfl
  rw [y3', hws] at hw
  have hf1 : gfr cd u0 I (u2 I 2 2 (nI a)) := gfr_2 hcd (by omega)
  have hU1 := gU_of hcd hU (gS_mv hcd hU.2.2 s2 s3 (Nat.le_refl _)) hf1
  have hno : ∃ J, X4_oneOf_J219 gr 10 (nI a) (hp (u2 I 2 2 (nI a)) L ρ) = some (none, hp J L ρ) ∧ gU cd u0 kd J ρ b n cs0 (.inl (1, a)) ∧ gfr cd u0 I J := by
    unfold X4_oneOf_J219
    rw [gr_10_0, rc_2, h_cv (X9_fail_s (i2_23 hs) _ _)]
    exact ⟨_, rfl, gU_of hcd hU (gS_flt (k := 1) hcd hU.2.2 hn s2 (by omega)) (gfr_flt hcd (by decide)), gfr_flt hcd (by decide)⟩
  unfold X4_oneOf_J191
  rw [gr_10_0, gr_10_2, hU.2.1.2.1, rc_2, h_ci hw, h_if]
  unfold p_wd
  rcases q : t_in b n a (pws kd) 0 with _ | k
  · rw [oI_none, if_pos rfl]
    exact hno
  · have hk := (t_in_lt q).1
    have hlen : (pws kd).length = 9 := by unfold pws; split <;> rfl
    have hkd := hU.2.1.2.2.2.2
    have hmk : pmk kd < 4096 := by unfold pmk; split; omega; split; omega; split <;> omega
    have hb2 : b_k (pmk kd) k < 2 := Nat.mod_lt _ (by omega)
    rw [oI_some, if_neg (nI_nm1 (by omega)), gi_10, hU1.2.1.2.2.1, h_if, b_test12 k (by omega) _ hmk]
    show ∃ J, _ ∧ gU cd u0 kd J ρ b n cs0 (pA (if b_k (pmk kd) k = 1 then .inr (sk b n (a + wl b n a), [10000 + k]) else .inl (1, a)) cs) ∧ _
    by_cases c : b_k (pmk kd) k = 1
    · rw [c, if_neg (by decide), if_pos rfl, gr_10_0, rc_2, h_cv (X9_passWord_s hU1.1 s2 i22 (i2_23 hs) s3), u2_u2]
      have hwl := wl_le (b := b) s2
      have hpos := (t_in_lt q).2.1
      have hsk := sk_ge (b := b) (n := n) (a := a + wl b n a)
      have hf2 : gfr cd u0 I (u2 I 2 2 (nI (a + wl b n a))) := gfr_2 hcd (by omega)
      have hU2 := gU_of hcd hU (gS_mv (a1 := sk b n (a + wl b n a)) hcd hU.2.2 hwl rfl (by omega)) hf2
      obtain ⟨J, d1, d2, d3⟩ := S_put (L := L) (op := 10000 + k) hcd hU2 (by omega)
      rw [gr_10_1, hU.2.1.1, rc_cd hcd, show (10000 : Int32) = nI 10000 from rfl, nI_add, h_cv d1]
      exact ⟨J, rfl, d2, gfr_trans hf2 d3⟩
    · rw [if_pos (show nI (b_k (pmk kd) k) = 0 by rw [show b_k (pmk kd) k = 0 by omega]; rfl), if_neg c]
      exact hno
theorem pq_6h {m o x op : Nat} (h1 h2 : Nat) : pq b n kd m 6 o x h1 op = pq b n kd m 6 o x h2 op := by
  cases m <;> rfl
theorem S_all (hcd : cdk cd) : ∀ m k o a hr op v1 v2 cs I, k ≤ 7 → pc k o ≤ m → o ≤ 6 → hr ≤ n → (k = 6 → v1 = nI op) → (k = 7 → v1 = nI hr ∧ v2 = nI op ∧ u0 + (cs0 ++ cs).length + 1 ≤ a) → gU cd u0 kd I ρ b n cs0 (.inr (a, cs)) → ∃ J, zg_run m k 10 (nI o) v1 v2 (hp I L ρ) = some (none, hp J L ρ) ∧ gU cd u0 kd J ρ b n cs0 (pA (pq b n kd m k o a hr op) cs) ∧ gfr cd u0 I J
  | 0, k, o, a, hr, op, v1, v2, cs, I, hk, h1, h2, _, _, _, hU => by unfold pc at h1; omega
  | m + 1, k, o, a, hr, op, v1, v2, cs, I, hk, h1, h2, h3, h6, h7, hU => by
    have up := fun k' o' (q0 : k' < 6) (q1 : pc k' o' ≤ m) (q2 : o' ≤ 6) x cs I (q3 : gU cd u0 kd I ρ b n cs0 (.inr (x, cs))) => S_all hcd m k' o' x 0 0 0 0 cs I (by omega) q1 q2 (Nat.zero_le _) (fun q => by omega) (fun q => by omega) q3
    have ug := fun k' o' (q0 : k' < 7) (q1 : pc k' o' ≤ m) (q2 : o' ≤ 6) x (q3 : x ≤ n) => pq_G (b := b) (n := n) (kd := kd) m k' o' x 0 0 (by omega) q1 q2 q3 (Nat.zero_le _)
    have ug0 : ∀ k' o' (q0 : k' < 7) (q1 : pc k' o' ≤ m) (q2 : o' ≤ 6) x (q3 : x ≤ n), pG b n 0 x (pq b n kd m k' o' x 0 0) := fun k' o' q0 q1 q2 x q3 => by
      have := ug k' o' q0 q1 q2 x q3
      rw [if_neg (by omega)] at this
      exact this
    obtain ⟨s1, s2, s3⟩ := S_cnt hU
    have hn := hU.1.2.1
    match k, h1, hk, h6, h7 with
    | 0, h1, hk, h6, h7 =>
      unfold pc at h1
      obtain ⟨J1, a1, a2, a3⟩ := up 1 o (by omega) (by unfold pc; omega) h2 a cs I hU
      have hG := ug0 1 o (by omega) (by unfold pc; omega) h2 a s2
      show ∃ J, X4_test_E (zg_run m) 10 (nI o) (hp I L ρ) = _ ∧ gU cd u0 kd J ρ b n cs0 (pA (qq_0 b n kd (pq b n kd m) o a hr op) cs) ∧ _
      unfold X4_test_E qq_0
      rw [rc_10, h_cv a1]
      rcases q : pq b n kd m 1 o a 0 0 with e | r
      · rw [q] at a2
        obtain ⟨J2, b1, b2, b3⟩ := U_testlp (L := L) (gr := zg_run m) (v1 := nI o) (v2 := 0) (f := 999999) hcd a2
        exact ⟨J2, b1, b2, gfr_trans a3 b3⟩
      · rw [q] at a2 hG
        obtain ⟨J2, b1, b2, b3⟩ := S_testlp (L := L) (gr := zg_run m) (o := o) (f := fun x => pq b n kd m 1 o x 0 0) (cs := cs) hcd (fun x cs I q3 => up 1 o (by omega) (by unfold pc; omega) h2 x cs I q3) (fun x hx => ug0 1 o (by omega) (by unfold pc; omega) h2 x hx) (n + 1) 0 zFU J1 r.1 r.2 (by omega) (by have := hG.1; omega) (by unfold zFU; omega) a2
        exact ⟨J2, b1, b2, gfr_trans a3 b3⟩
    | 1, h1, hk, h6, h7 =>
      unfold pc at h1
      obtain ⟨J1, a1, a2, a3⟩ := up 2 o (by omega) (by unfold pc; omega) h2 a cs I hU
      have hG := ug0 2 o (by omega) (by unfold pc; omega) h2 a s2
      show ∃ J, X4_both_E (zg_run m) 10 (nI o) (hp I L ρ) = _ ∧ gU cd u0 kd J ρ b n cs0 (pA (qq_1 b n kd (pq b n kd m) o a hr op) cs) ∧ _
      unfold X4_both_E qq_1
      rw [rc_10, h_cv a1]
      rcases q : pq b n kd m 2 o a 0 0 with e | r
      · rw [q] at a2
        obtain ⟨J2, b1, b2, b3⟩ := U_bothlp (L := L) (gr := zg_run m) (v1 := nI o) (v2 := 0) (f := 999999) hcd a2
        exact ⟨J2, b1, b2, gfr_trans a3 b3⟩
      · rw [q] at a2 hG
        obtain ⟨J2, b1, b2, b3⟩ := S_bothlp (L := L) (gr := zg_run m) (o := o) (f := fun x => pq b n kd m 2 o x 0 0) (cs := cs) hcd (fun x cs I q3 => up 2 o (by omega) (by unfold pc; omega) h2 x cs I q3) (fun x hx => ug0 2 o (by omega) (by unfold pc; omega) h2 x hx) (n + 1) 0 zFU J1 r.1 r.2 (by omega) (by have := hG.1; omega) (by unfold zFU; omega) a2
        exact ⟨J2, b1, b2, gfr_trans a3 b3⟩
    | 2, h1, hk, h6, h7 =>
      unfold pc at h1
      obtain ⟨J1, a1, a2, a3, -⟩ := S_begin (L := L) hcd hU
      obtain ⟨J2, b1, b2, b3⟩ := S_word (L := L) (k := 6) (w := w_not) hcd (by omega) rfl rfl a2
      have f2 := gfr_trans a3 b3
      show ∃ J, X4_oneFact_E (zg_run m) 10 (nI o) (hp I L ρ) = _ ∧ gU cd u0 kd J ρ b n cs0 (pA (qq_2 b n kd (pq b n kd m) o a hr op) cs) ∧ _
      unfold X4_oneFact_E qq_2
      rw [gr_10_0, rc_2, h_ci a1, gr_10_0, rc_2, h_ci b1, h_if]
      by_cases c : isW b n a w_not = true
      · rw [if_pos c] at b2
        have hl := isW_l c
        have hl3 : a + 3 ≤ n := hl.1
        have hsk := sk_ge (b := b) (n := n) (a := a + 3)
        have hle := sk_le (b := b) hl3
        have b2' : gU cd u0 kd J2 ρ b n cs0 (.inr (sk b n (a + 3), cs)) := b2
        obtain ⟨J3, d1, d2, d3⟩ := S_may (L := L) (o := o) (hr := a) hcd h2 b2'
        rw [c, if_neg (show ¬ bI true = 0 by decide), if_pos rfl, rc_10, h_ci d1, h_if]
        by_cases c2 : 6 ≤ o
        · rw [if_pos c2] at d2
          rw [decide_eq_false (by omega), bF, if_pos rfl, if_pos c2]
          exact ⟨J3, rfl, d2, gfr_trans f2 d3⟩
        · rw [if_neg c2] at d2
          obtain ⟨J4, g1, g2, g3⟩ := up 2 (o + 1) (by omega) (by unfold pc; omega) (by omega) _ cs J3 d2
          have hG := ug0 2 (o + 1) (by omega) (by unfold pc; omega) (by omega) _ hle
          rw [decide_eq_true (by omega), if_neg (show ¬ bI true = 0 by decide), if_neg c2, nI_1, rc_10, h_cv g1]
          rcases q : pq b n kd m 2 (o + 1) (sk b n (a + 3)) 0 0 with e | r
          · rw [q] at g2
            have g2' : gU cd u0 kd J4 ρ b n cs0 (.inl e) := g2
            obtain ⟨J5, i1, i2, i3⟩ := U_put (L := L) (v := 30001) hcd g2'
            rw [gr_10_1, hU.2.1.1, rc_cd hcd, h_cv i1]
            exact ⟨J5, rfl, i2, gfr_trans (gfr_trans f2 d3) (gfr_trans g3 i3)⟩
          · rw [q] at g2 hG
            have g2' : gU cd u0 kd J4 ρ b n cs0 (.inr (r.1, cs ++ r.2)) := g2
            have hG' : sk b n (a + 3) < r.1 ∧ r.1 ≤ n ∧ sk b n r.1 = r.1 ∧ sk b n (a + 3) + r.2.length ≤ r.1 + 0 := hG
            obtain ⟨J5, i1, i2, i3⟩ := S_put (L := L) (op := 30001) hcd g2' (by rw [l_app]; omega)
            rw [List.append_assoc] at i2
            rw [gr_10_1, hU.2.1.1, rc_cd hcd, show (30001 : Int32) = nI 30001 from rfl, h_cv i1]
            exact ⟨J5, rfl, i2, gfr_trans (gfr_trans f2 d3) (gfr_trans g3 i3)⟩
      · have c' : isW b n a w_not = false := by simpa using c
        rw [if_neg c] at b2
        obtain ⟨J3, d1, d2, d3⟩ := S_sign (L := L) (c := 91) hcd (by omega) b2
        have f3 := gfr_trans f2 d3
        rw [c', bF, if_pos rfl, if_neg (show ¬ (false = true) by decide), gr_10_0, rc_2, show (91 : Int32) = nI 91 from rfl, h_ci d1, h_if]
        by_cases c2 : t_c b n a = 91
        · rw [if_pos c2] at d2
          have hl := t_c_in c2 (by omega)
          have hsk := sk_ge (b := b) (n := n) (a := a + 1)
          have hle := sk_le (b := b) (show a + 1 ≤ n by omega)
          obtain ⟨J4, g1, g2, g3⟩ := S_may (L := L) (o := o) (hr := a) hcd h2 d2
          rw [decide_eq_true c2, if_neg (show ¬ bI true = 0 by decide), if_pos c2, rc_10, h_ci g1, h_if]
          by_cases c3 : 6 ≤ o
          · rw [if_pos c3] at g2
            rw [decide_eq_false (by omega), bF, if_pos rfl, if_pos c3]
            exact ⟨J4, rfl, g2, gfr_trans f3 g3⟩
          · rw [if_neg c3] at g2
            obtain ⟨J5, i1, i2, i3⟩ := up 0 (o + 1) (by omega) (by unfold pc; omega) (by omega) _ cs J4 g2
            rw [decide_eq_true (by omega), if_neg (show ¬ bI true = 0 by decide), if_neg c3, nI_1, rc_10, h_cv i1]
            rcases q : pq b n kd m 0 (o + 1) (sk b n (a + 1)) 0 0 with e | r
            · rw [q] at i2
              have i2' : gU cd u0 kd J5 ρ b n cs0 (.inl e) := i2
              rw [gr_10_0, rc_2, h_cv (T_need_u i2'.2.2)]
              exact ⟨J5, rfl, i2', gfr_trans (gfr_trans f3 g3) i3⟩
            · rw [q] at i2
              have i2' : gU cd u0 kd J5 ρ b n cs0 (.inr (r.1, cs ++ r.2)) := i2
              obtain ⟨J6, j1, j2, j3⟩ := S_need (L := L) (c := 93) hcd (by omega) i2'
              have ej : p_sg b n 93 r.1 (cs ++ r.2) = pA (p_sg b n 93 r.1 r.2) cs := by unfold p_sg; split <;> rfl
              rw [ej] at j2
              rw [gr_10_0, rc_2, show (93 : Int32) = nI 93 from rfl, h_cv j1]
              exact ⟨J6, rfl, j2, gfr_trans (gfr_trans f3 g3) (gfr_trans i3 j3)⟩
        · rw [if_neg c2] at d2
          obtain ⟨J4, g1, g2, g3⟩ := S_word (L := L) (k := 7) (w := w_all) hcd (by omega) rfl rfl d2
          have f4 := gfr_trans f3 g3
          rw [decide_eq_false c2, bF, if_pos rfl, if_neg c2, gr_10_0, rc_2, h_ci g1, h_if]
          by_cases c3 : isW b n a w_all = true
          · rw [if_pos c3] at g2
            have hl := isW_l c3
            have hl3 : a + 3 ≤ n := hl.1
            have hsk := sk_ge (b := b) (n := n) (a := a + 3)
            have g2' : gU cd u0 kd J4 ρ b n cs0 (.inr (sk b n (a + 3), cs)) := g2
            obtain ⟨J5, i1, i2, i3⟩ := S_put (L := L) (op := 1) hcd g2' (by omega)
            rw [c3, if_neg (show ¬ bI true = 0 by decide), if_pos rfl, gr_10_1, hU.2.1.1, rc_cd hcd, show (1 : Int32) = nI 1 from rfl, h_cv i1]
            exact ⟨J5, rfl, i2, gfr_trans f4 i3⟩
          · have c3' : isW b n a w_all = false := by simpa using c3
            rw [if_neg c3] at g2
            obtain ⟨J5, i1, i2, i3⟩ := up 3 o (by omega) (by unfold pc; omega) h2 a cs J4 g2
            have hG := ug0 3 o (by omega) (by unfold pc; omega) h2 a s2
            rw [c3', bF, if_pos rfl, if_neg (show ¬ (false = true) by decide), rc_10, h_cv i1]
            rcases q : pq b n kd m 3 o a 0 0 with e | r
            · rw [q] at i2
              have i2' : gU cd u0 kd J5 ρ b n cs0 (.inl e) := i2
              rw [rc_10, h_ci (U_cmp i2'), gr_10_0, rc_2, h_ci (T_snd_u i2'.2.2), h_if, if_pos rfl]
              exact ⟨J5, rfl, i2', gfr_trans f4 i3⟩
            · rw [q] at i2 hG
              have i2' : gU cd u0 kd J5 ρ b n cs0 (.inr (r.1, cs ++ r.2)) := i2
              have hG' : a < r.1 ∧ r.1 ≤ n ∧ sk b n r.1 = r.1 ∧ a + r.2.length ≤ r.1 + 0 := hG
              obtain ⟨J6, v, j1, j2, j3, j4⟩ := S_cmp (L := L) hcd i2'
              have f6 := gfr_trans f4 (gfr_trans i3 j3)
              rw [rc_10, h_ci j1, gr_10_0, rc_2]
              show ∃ J, _ ∧ gU cd u0 kd J ρ b n cs0 (pA (match p_cmp (t_c b n r.1) with | none => .inl (1, r.1) | some op => pB (pq b n kd m 3 o (sk b n (r.1 + 1)) 0 0) (fun a2 c2 => .inr (a2, r.2 ++ c2 ++ [op]))) cs) ∧ _
              rcases q2 : p_cmp (t_c b n r.1) with _ | op2
              · rw [q2] at j2
                have j2' : gU cd u0 kd J6 ρ b n cs0 (.inl (1, r.1)) := j2
                rw [h_ci (T_snd_u j2'.2.2), h_if, if_pos rfl]
                exact ⟨J6, rfl, j2', f6⟩
              · rw [q2] at j2
                have j2' : gU cd u0 kd J6 ρ b n cs0 (.inr (sk b n (r.1 + 1), cs ++ r.2)) := j2
                have hv := j4 op2 q2
                have hl : r.1 < n := by
                  by_cases z : r.1 < n
                  · exact z
                  · rw [t_c_ge (by omega)] at q2; cases q2
                have hsk := sk_ge (b := b) (n := n) (a := r.1 + 1)
                have hle := sk_le (b := b) (show r.1 + 1 ≤ n by omega)
                obtain ⟨J7, l1, l2, l3⟩ := up 3 o (by omega) (by unfold pc; omega) h2 _ (cs ++ r.2) J6 j2'
                have hG2 := ug0 3 o (by omega) (by unfold pc; omega) h2 _ hle
                rw [h_ci (T_snd_s j2'.2.2), h_if, if_neg (by decide), rc_10, h_cv l1]
                rcases q3 : pq b n kd m 3 o (sk b n (r.1 + 1)) 0 0 with e | z
                · rw [q3] at l2
                  have l2' : gU cd u0 kd J7 ρ b n cs0 (.inl e) := l2
                  obtain ⟨J8, m1, m2, m3⟩ := U_put (L := L) (v := nI v) hcd l2'
                  rw [gr_10_1, hU.2.1.1, rc_cd hcd, h_cv m1]
                  exact ⟨J8, rfl, m2, gfr_trans f6 (gfr_trans l3 m3)⟩
                · rw [q3] at l2 hG2
                  have l2' : gU cd u0 kd J7 ρ b n cs0 (.inr (z.1, (cs ++ r.2) ++ z.2)) := l2
                  have hG2' : sk b n (r.1 + 1) < z.1 ∧ z.1 ≤ n ∧ sk b n z.1 = z.1 ∧ sk b n (r.1 + 1) + z.2.length ≤ z.1 + 0 := hG2
                  obtain ⟨J8, m1, m2, m3⟩ := S_put (L := L) (op := v) hcd l2' (by rw [l_app, l_app]; omega)
                  rw [gr_10_1, hU.2.1.1, rc_cd hcd, h_cv m1]
                  refine ⟨J8, rfl, ?_, gfr_trans f6 (gfr_trans l3 m3)⟩
                  have ecs : (cs ++ r.2) ++ z.2 ++ [v] = cs ++ (r.2 ++ z.2 ++ [op2]) := by rw [hv]; simp only [List.append_assoc]
                  rw [ecs] at m2
                  exact m2
    | 3, h1, hk, h6, h7 =>
      unfold pc at h1
      obtain ⟨J1, a1, a2, a3⟩ := up 4 o (by omega) (by unfold pc; omega) h2 a cs I hU
      have hG := ug0 4 o (by omega) (by unfold pc; omega) h2 a s2
      show ∃ J, X4_sum_E (zg_run m) 10 (nI o) (hp I L ρ) = _ ∧ gU cd u0 kd J ρ b n cs0 (pA (qq_3 b n kd (pq b n kd m) o a hr op) cs) ∧ _
      unfold X4_sum_E qq_3
      rw [rc_10, h_cv a1]
      rcases q : pq b n kd m 4 o a 0 0 with e | r
      · rw [q] at a2
        have a2' : gU cd u0 kd J1 ρ b n cs0 (.inl e) := a2
        exact ⟨J1, U_sumlp (f := 999999) a2', a2', a3⟩
      · rw [q] at a2 hG
        obtain ⟨J2, b1, b2, b3⟩ := S_sumlp (L := L) (gr := zg_run m) (o := o) (f := fun x => pq b n kd m 4 o x 0 0) (cs := cs) hcd (fun x cs I q3 => up 4 o (by omega) (by unfold pc; omega) h2 x cs I q3) (fun x hx => ug0 4 o (by omega) (by unfold pc; omega) h2 x hx) (n + 1) 0 zFU J1 r.1 r.2 (by omega) (by have := hG.1; omega) (by unfold zFU; omega) a2
        exact ⟨J2, b1, b2, gfr_trans a3 b3⟩
    | 4, h1, hk, h6, h7 =>
      unfold pc at h1
      obtain ⟨J1, a1, a2, a3⟩ := up 5 o (by omega) (by unfold pc; omega) h2 a cs I hU
      have hG := ug0 5 o (by omega) (by unfold pc; omega) h2 a s2
      show ∃ J, X4_product_E (zg_run m) 10 (nI o) (hp I L ρ) = _ ∧ gU cd u0 kd J ρ b n cs0 (pA (qq_4 b n kd (pq b n kd m) o a hr op) cs) ∧ _
      unfold X4_product_E qq_4
      rw [rc_10, h_cv a1]
      rcases q : pq b n kd m 5 o a 0 0 with e | r
      · rw [q] at a2
        have a2' : gU cd u0 kd J1 ρ b n cs0 (.inl e) := a2
        exact ⟨J1, U_prodlp (f := 999999) a2', a2', a3⟩
      · rw [q] at a2 hG
        obtain ⟨J2, b1, b2, b3⟩ := S_productlp (L := L) (gr := zg_run m) (o := o) (f := fun x => pq b n kd m 5 o x 0 0) (cs := cs) hcd (fun x cs I q3 => up 5 o (by omega) (by unfold pc; omega) h2 x cs I q3) (fun x hx => ug0 5 o (by omega) (by unfold pc; omega) h2 x hx) (n + 1) 0 zFU J1 r.1 r.2 (by omega) (by have := hG.1; omega) (by unfold zFU; omega) a2
        exact ⟨J2, b1, b2, gfr_trans a3 b3⟩
    | 5, h1, hk, h6, h7 =>
      unfold pc at h1
      obtain ⟨J1, a1, a2, a3, a4⟩ := S_begin (L := L) hcd hU
      have hu67 := fun k' (q0 : k' = 6 ∨ k' = 7) x op (q2 : k' = 7 → u0 + (cs0 ++ cs).length + 1 ≤ x) I (q3 : gU cd u0 kd I ρ b n cs0 (.inr (x, cs))) => S_all hcd m k' o x a op (if k' = 6 then nI op else nI a) (if k' = 6 then 0 else nI op) cs I (by omega) (by unfold pc; omega) h2 s2 (fun q => by rw [if_pos q]) (fun q => by rw [if_neg (by omega), if_neg (by omega)]; exact ⟨rfl, rfl, q2 q⟩) q3
      show ∃ J, X4_oneOf_E (zg_run m) 10 (nI o) (hp I L ρ) = _ ∧ gU cd u0 kd J ρ b n cs0 (pA (qq_5 b n kd (pq b n kd m) o a hr op) cs) ∧ _
      unfold X4_oneOf_E qq_5
      rw [gr_10_0, rc_2, h_ci a1, gr_10_0, rc_2, h_ci (X9_byteAt_h a2.1 (by omega)), h_ci (X11_isDigit_by (tx_hb a2.1) _), h_if]
      by_cases c1 : isD (t_c b n a) = true
      · rw [c1, if_neg (show ¬ bI true = 0 by decide), if_pos rfl, gr_10_1, hU.2.1.1, gr_10_0, rc_2]
        rcases q : p_num b n 0 9999 a with e | r
        · obtain ⟨y, n1, n2, n3⟩ := X9_num_no (L := L) (ρ := ρ) (lo := 0) (hi := 9999) (k := e.1) (p := e.2) a2.1 s2 a4 a2.2.2.1 (by omega) (by omega) (by rw [s3]; exact q)
          have hf := gfr_flt (u0 := u0) (I := J1) (y := y) (v := nI e.1) (w := nI e.2) hcd (fun z => by have := (nI_inj (b := 0) (by omega) (by omega)).mp z; omega)
          have hU2 := gU_of hcd a2 (gS_flt (k := e.1) (p := e.2) hcd a2.2.2 hn n2 (by omega)) hf
          obtain ⟨J2, b1, b2, b3⟩ := U_put (L := L) (v := nI 0) hcd hU2
          rw [show (0 : Int32) = nI 0 from rfl, show (9999 : Int32) = nI 9999 from rfl, h_ci n1, rc_cd hcd]
          have b1' : X3_put cd (nI 0) (hp (flt J1 y e.1 e.2) L ρ) = some (none, hp J2 L ρ) := b1
          rw [h_cv b1']
          exact ⟨J2, rfl, b2, gfr_trans a3 (gfr_trans hf b3)⟩
        · obtain ⟨n1, n2, n3, n4, n5⟩ := X9_num_ok (L := L) (ρ := ρ) (lo := 0) (hi := 9999) (v := r.1) (e := r.2) a2.1 s2 a4 a2.2.2.1 (by omega) (by omega) (by rw [s3]; exact q)
          rw [s3] at n2
          have hsk := sk_ge (b := b) (n := n) (a := r.2)
          have hf : gfr cd u0 J1 (u2 J1 2 2 (nI r.2)) := gfr_2 hcd (by omega)
          have hU2 := gU_of hcd a2 (gS_mv (a1 := sk b n r.2) hcd a2.2.2 n3 rfl (by omega)) hf
          obtain ⟨J2, b1, b2, b3⟩ := S_put (L := L) (op := r.1) hcd hU2 (by omega)
          rw [show (0 : Int32) = nI 0 from rfl, show (9999 : Int32) = nI 9999 from rfl, h_ci n1, rc_cd hcd, h_cv b1]
          exact ⟨J2, rfl, b2, gfr_trans a3 (gfr_trans hf b3)⟩
      · have c1' : isD (t_c b n a) = false := by simpa using c1
        obtain ⟨J2, b1, b2, b3⟩ := S_sign (L := L) (c := 40) hcd (by omega) a2
        have f2 := gfr_trans a3 b3
        rw [c1', bF, if_pos rfl, if_neg (show ¬ (false = true) by decide), gr_10_0, rc_2, show (40 : Int32) = nI 40 from rfl, h_ci b1, h_if]
        by_cases c2 : t_c b n a = 40
        · rw [if_pos c2] at b2
          have hl := t_c_in c2 (by omega)
          have hsk := sk_ge (b := b) (n := n) (a := a + 1)
          have hle := sk_le (b := b) (show a + 1 ≤ n by omega)
          obtain ⟨J4, g1, g2, g3⟩ := S_may (L := L) (o := o) (hr := a) hcd h2 b2
          rw [decide_eq_true c2, if_neg (show ¬ bI true = 0 by decide), if_pos c2, rc_10, h_ci g1, h_if]
          by_cases c3 : 6 ≤ o
          · rw [if_pos c3] at g2
            rw [decide_eq_false (by omega), bF, if_pos rfl, if_pos c3]
            exact ⟨J4, rfl, g2, gfr_trans f2 g3⟩
          · rw [if_neg c3] at g2
            obtain ⟨J5, i1, i2, i3⟩ := up 3 (o + 1) (by omega) (by unfold pc; omega) (by omega) _ cs J4 g2
            rw [decide_eq_true (by omega), if_neg (show ¬ bI true = 0 by decide), if_neg c3, nI_1, rc_10, h_cv i1]
            rcases q : pq b n kd m 3 (o + 1) (sk b n (a + 1)) 0 0 with e | r
            · rw [q] at i2
              have i2' : gU cd u0 kd J5 ρ b n cs0 (.inl e) := i2
              rw [gr_10_0, rc_2, h_cv (T_need_u i2'.2.2)]
              exact ⟨J5, rfl, i2', gfr_trans (gfr_trans f2 g3) i3⟩
            · rw [q] at i2
              have i2' : gU cd u0 kd J5 ρ b n cs0 (.inr (r.1, cs ++ r.2)) := i2
              obtain ⟨J6, j1, j2, j3⟩ := S_need (L := L) (c := 41) hcd (by omega) i2'
              have ej : p_sg b n 41 r.1 (cs ++ r.2) = pA (p_sg b n 41 r.1 r.2) cs := by unfold p_sg; split <;> rfl
              rw [ej] at j2
              rw [gr_10_0, rc_2, show (41 : Int32) = nI 41 from rfl, h_cv j1]
              exact ⟨J6, rfl, j2, gfr_trans (gfr_trans f2 g3) (gfr_trans i3 j3)⟩
        · rw [if_neg c2] at b2
          obtain ⟨J3, d1, d2, d3⟩ := S_word (L := L) (k := 8) (w := w_min) hcd (by omega) rfl rfl b2
          have f3 := gfr_trans f2 d3
          rw [decide_eq_false c2, bF, if_pos rfl, if_neg c2, gr_10_0, rc_2, h_ci d1, h_if]
          by_cases c3 : isW b n a w_min = true
          · rw [if_pos c3] at d2
            obtain ⟨J4, g1, g2, g3⟩ := hu67 6 (Or.inl rfl) (sk b n (a + 3)) 20005 (fun q => by omega) J3 d2
            rw [c3, if_neg (show ¬ bI true = 0 by decide), if_pos rfl, rc_10]
            have g1' : zg_run m 6 10 (nI o) 20005 0 (hp J3 L ρ) = some (none, hp J4 L ρ) := g1
            rw [h_cv g1']
            refine ⟨J4, rfl, ?_, gfr_trans f3 g3⟩
            rw [pq_6h a 0] at g2
            exact g2
          · have c3' : isW b n a w_min = false := by simpa using c3
            rw [if_neg c3] at d2
            obtain ⟨J4, g1, g2, g3⟩ := S_word (L := L) (k := 9) (w := w_max) hcd (by omega) rfl rfl d2
            have f4 := gfr_trans f3 g3
            rw [c3', bF, if_pos rfl, if_neg (show ¬ (false = true) by decide), gr_10_0, rc_2, h_ci g1, h_if]
            by_cases c4 : isW b n a w_max = true
            · rw [if_pos c4] at g2
              obtain ⟨J5, i1, i2, i3⟩ := hu67 6 (Or.inl rfl) (sk b n (a + 3)) 20006 (fun q => by omega) J4 g2
              rw [c4, if_neg (show ¬ bI true = 0 by decide), if_pos rfl, rc_10]
              have i1' : zg_run m 6 10 (nI o) 20006 0 (hp J4 L ρ) = some (none, hp J5 L ρ) := i1
              rw [h_cv i1']
              refine ⟨J5, rfl, ?_, gfr_trans f4 i3⟩
              rw [pq_6h a 0] at i2
              exact i2
            · have c4' : isW b n a w_max = false := by simpa using c4
              rw [if_neg c4] at g2
              rw [c4', bF, if_pos rfl, if_neg (show ¬ (false = true) by decide), gi_10, g2.2.1.2.2.2.1, h_if]
              by_cases ck3 : kd = 3
              · rw [decide_eq_true ck3, if_neg (show ¬ bI true = 0 by decide), gr_10_0, rc_2]
                obtain ⟨J5, i1, i2, i3⟩ := S_word (L := L) (k := 10) (w := w_likes) hcd (by omega) rfl rfl g2
                have f5 := gfr_trans f4 i3
                rw [h_ci i1, h_if]
                by_cases c5 : isW b n a w_likes = true
                · rw [if_pos c5] at i2
                  have hl := isW_l c5
                  have hl5 : a + 5 ≤ n := hl.1
                  have hsk := sk_ge (b := b) (n := n) (a := a + 5)
                  obtain ⟨J6, j1, j2, j3⟩ := hu67 7 (Or.inr rfl) (sk b n (a + 5)) 30002 (fun _ => by omega) J5 i2
                  rw [c5, if_neg (show ¬ bI true = 0 by decide), if_pos ⟨ck3, rfl⟩, rc_10]
                  have j1' : zg_run m 7 10 (nI o) (nI a) 30002 (hp J5 L ρ) = some (none, hp J6 L ρ) := j1
                  rw [h_cv j1']
                  exact ⟨J6, rfl, j2, gfr_trans f5 j3⟩
                · have c5' : isW b n a w_likes = false := by simpa using c5
                  rw [if_neg c5] at i2
                  rw [c5', bF, if_pos rfl, if_neg (fun q : kd = 3 ∧ false = true => absurd q.2 (by decide))]
                  unfold X4_oneOf_J160
                  rw [gi_10, i2.2.1.2.2.2.1, decide_eq_true ck3, h_if, if_neg (show ¬ bI true = 0 by decide), gr_10_0, rc_2]
                  obtain ⟨J6, j1, j2, j3⟩ := S_word (L := L) (k := 11) (w := w_knows) hcd (by omega) rfl rfl i2
                  have f6 := gfr_trans f5 j3
                  rw [h_ci j1, h_if]
                  by_cases c6 : isW b n a w_knows = true
                  · rw [if_pos c6] at j2
                    have hl := isW_l c6
                    have hl5 : a + 5 ≤ n := hl.1
                    have hsk := sk_ge (b := b) (n := n) (a := a + 5)
                    obtain ⟨J7, l1, l2, l3⟩ := hu67 7 (Or.inr rfl) (sk b n (a + 5)) 30003 (fun _ => by omega) J6 j2
                    rw [c6, if_neg (show ¬ bI true = 0 by decide), if_pos ⟨ck3, rfl⟩, rc_10]
                    have l1' : zg_run m 7 10 (nI o) (nI a) 30003 (hp J6 L ρ) = some (none, hp J7 L ρ) := l1
                    rw [h_cv l1']
                    exact ⟨J7, rfl, l2, gfr_trans f6 l3⟩
                  · have c6' : isW b n a w_knows = false := by simpa using c6
                    rw [if_neg c6] at j2
                    obtain ⟨J7, l1, l2, l3⟩ := S_191 (L := L) (gr := zg_run m) hcd j2
                    rw [c6', bF, if_pos rfl, if_neg (fun q : kd = 3 ∧ false = true => absurd q.2 (by decide)), l1]
                    exact ⟨J7, rfl, l2, gfr_trans f6 l3⟩
              · rw [decide_eq_false ck3, bF, if_pos rfl, if_neg (fun q => ck3 q.1), if_neg (fun q => ck3 q.1)]
                unfold X4_oneOf_J160
                obtain ⟨J5, i1, i2, i3⟩ := S_191 (L := L) (gr := zg_run m) hcd g2
                rw [gi_10, g2.2.1.2.2.2.1, decide_eq_false ck3, bF, h_if, if_pos rfl, i1]
                exact ⟨J5, rfl, i2, gfr_trans f4 i3⟩
    | 6, h1, hk, h6, h7 =>
      unfold pc at h1
      obtain ⟨J1, a1, a2, a3, -⟩ := S_begin (L := L) hcd hU
      obtain ⟨J2, b1, b2, b3⟩ := S_need (L := L) (c := 40) hcd (by omega) a2
      have f2 := gfr_trans a3 b3
      have hv1 := h6 rfl
      show ∃ J, X4_ofTwoSums_E (zg_run m) 10 (nI o) v1 (hp I L ρ) = _ ∧ gU cd u0 kd J ρ b n cs0 (pA (qq_6 b n kd (pq b n kd m) o a hr op) cs) ∧ _
      unfold X4_ofTwoSums_E qq_6
      rw [gr_10_0, rc_2, h_ci a1, gr_10_0, rc_2, show (40 : Int32) = nI 40 from rfl, h_cv b1, rc_10]
      -- behind a fault
      have h42 : ∀ J e, gU cd u0 kd J ρ b n cs0 (.inl e) → X4_ofTwoSums_J42 (zg_run m) 10 (nI o) v1 (hp J L ρ) = some (none, hp J L ρ) := by
        intro J e hJ
        unfold X4_ofTwoSums_J42
        rw [gr_10_0, rc_2, h_ci (T_snd_u hJ.2.2), h_if, if_pos rfl]; rfl
      unfold p_sg at b2
      by_cases c : t_c b n a = 40
      · rw [if_pos c] at b2
        have hl := t_c_in c (by omega)
        have hsk := sk_ge (b := b) (n := n) (a := a + 1)
        have hle := sk_le (b := b) (show a + 1 ≤ n by omega)
        obtain ⟨J3, d1, d2, d3⟩ := S_may (L := L) (o := o) (hr := a) hcd h2 b2
        have f3 := gfr_trans f2 d3
        rw [h_ci d1, h_if, if_pos c]
        by_cases c2 : 6 ≤ o
        · rw [if_pos c2] at d2
          rw [decide_eq_false (by omega), bF, if_pos rfl, if_pos c2, h42 J3 _ d2]
          exact ⟨J3, rfl, d2, f3⟩
        · rw [if_neg c2] at d2
          obtain ⟨J4, g1, g2, g3⟩ := up 3 (o + 1) (by omega) (by unfold pc; omega) (by omega) _ cs J3 d2
          have hG := ug0 3 (o + 1) (by omega) (by unfold pc; omega) (by omega) _ hle
          have f4 := gfr_trans f3 g3
          rw [decide_eq_true (by omega), if_neg (show ¬ bI true = 0 by decide), if_neg c2, nI_1, rc_10, h_cv g1, gr_10_0, rc_2]
          rcases q : pq b n kd m 3 (o + 1) (sk b n (a + 1)) 0 0 with e | r
          · rw [q] at g2
            have g2' : gU cd u0 kd J4 ρ b n cs0 (.inl e) := g2
            rw [h_cv (T_need_u g2'.2.2), h42 J4 _ g2']
            exact ⟨J4, rfl, g2', f4⟩
          · rw [q] at g2 hG
            have g2' : gU cd u0 kd J4 ρ b n cs0 (.inr (r.1, cs ++ r.2)) := g2
            have hG' : sk b n (a + 1) < r.1 ∧ r.1 ≤ n ∧ sk b n r.1 = r.1 ∧ sk b n (a + 1) + r.2.length ≤ r.1 + 0 := hG
            obtain ⟨J5, i1, i2, i3⟩ := S_need (L := L) (c := 44) hcd (by omega) g2'
            have f5 := gfr_trans f4 i3
            rw [show (44 : Int32) = nI 44 from rfl, h_cv i1]
            show ∃ J, _ ∧ gU cd u0 kd J ρ b n cs0 (pA (if t_c b n r.1 = 44 then pB (pq b n kd m 3 (o + 1) (sk b n (r.1 + 1)) 0 0) (fun a2 c2 => p_sg b n 41 a2 (r.2 ++ c2 ++ [op])) else .inl (1, r.1)) cs) ∧ _
            unfold p_sg at i2
            by_cases c3 : t_c b n r.1 = 44
            · rw [if_pos c3] at i2
              have hl2 := t_c_in c3 (by omega)
              have hsk2 := sk_ge (b := b) (n := n) (a := r.1 + 1)
              have hle2 := sk_le (b := b) (show r.1 + 1 ≤ n by omega)
              obtain ⟨J6, j1, j2, j3⟩ := up 3 (o + 1) (by omega) (by unfold pc; omega) (by omega) _ (cs ++ r.2) J5 i2
              have hG2 := ug0 3 (o + 1) (by omega) (by unfold pc; omega) (by omega) _ hle2
              have f6 := gfr_trans f5 j3
              unfold X4_ofTwoSums_J42
              rw [if_pos c3, gr_10_0, rc_2, h_ci (T_snd_s i2.2.2), h_if, if_neg (by decide), nI_1, rc_10, h_cv j1, gr_10_0, rc_2]
              rcases q2 : pq b n kd m 3 (o + 1) (sk b n (r.1 + 1)) 0 0 with e | z
              · rw [q2] at j2
                have j2' : gU cd u0 kd J6 ρ b n cs0 (.inl e) := j2
                obtain ⟨J7, l1, l2, l3⟩ := U_put (L := L) (v := v1) hcd j2'
                rw [h_cv (T_need_u j2'.2.2), gr_10_1, hU.2.1.1, rc_cd hcd, h_cv l1]
                exact ⟨J7, rfl, l2, gfr_trans f6 l3⟩
              · rw [q2] at j2 hG2
                have j2' : gU cd u0 kd J6 ρ b n cs0 (.inr (z.1, (cs ++ r.2) ++ z.2)) := j2
                have hG2' : sk b n (r.1 + 1) < z.1 ∧ z.1 ≤ n ∧ sk b n z.1 = z.1 ∧ sk b n (r.1 + 1) + z.2.length ≤ z.1 + 0 := hG2
                obtain ⟨J7, l1, l2, l3⟩ := S_need (L := L) (c := 41) hcd (by omega) j2'
                have f7 := gfr_trans f6 l3
                rw [show (41 : Int32) = nI 41 from rfl, h_cv l1, gr_10_1, hU.2.1.1, rc_cd hcd]
                show ∃ J, _ ∧ gU cd u0 kd J ρ b n cs0 (pA (p_sg b n 41 z.1 (r.2 ++ z.2 ++ [op])) cs) ∧ _
                unfold p_sg at l2 ⊢
                by_cases c4 : t_c b n z.1 = 41
                · rw [if_pos c4] at l2
                  have hsk3 := sk_ge (b := b) (n := n) (a := z.1 + 1)
                  obtain ⟨J8, m1, m2, m3⟩ := S_put (L := L) (op := op) hcd l2 (by rw [l_app, l_app]; omega)
                  have ecs : (cs ++ r.2) ++ z.2 ++ [op] = cs ++ (r.2 ++ z.2 ++ [op]) := by simp only [List.append_assoc]
                  rw [ecs] at m2
                  rw [if_pos c4, hv1, h_cv m1]
                  exact ⟨J8, rfl, m2, gfr_trans f7 m3⟩
                · rw [if_neg c4] at l2
                  obtain ⟨J8, m1, m2, m3⟩ := U_put (L := L) (v := v1) hcd l2
                  rw [if_neg c4, h_cv m1]
                  exact ⟨J8, rfl, m2, gfr_trans f7 m3⟩
            · rw [if_neg c3] at i2
              rw [if_neg c3, h42 J5 _ i2]
              exact ⟨J5, rfl, i2, f5⟩
      · rw [if_neg c] at b2
        rw [h_ci (T_may_u b2.2.2), h_if, if_pos rfl, if_neg c, h42 J2 _ b2]
        exact ⟨J2, rfl, b2, f2⟩
    | 7, h1, hk, h6, h7 =>
      unfold pc at h1
      obtain ⟨q1, q2, q3⟩ := h7 rfl
      obtain ⟨J1, a1, a2, a3⟩ := S_may (L := L) (o := o) (hr := hr) hcd h2 hU
      show ∃ J, X4_ofAnother_E (zg_run m) 10 (nI o) v1 v2 (hp I L ρ) = _ ∧ gU cd u0 kd J ρ b n cs0 (pA (qq_7 b n kd (pq b n kd m) o a hr op) cs) ∧ _
      unfold X4_ofAnother_E qq_7
      rw [q1, rc_10, h_ci a1, h_if]
      by_cases c2 : 6 ≤ o
      · rw [if_pos c2] at a2
        rw [decide_eq_false (by omega), bF, if_pos rfl, if_pos c2]
        exact ⟨J1, rfl, a2, a3⟩
      · rw [if_neg c2] at a2
        obtain ⟨J2, b1, b2, b3⟩ := up 5 (o + 1) (by omega) (by unfold pc; omega) (by omega) _ cs J1 a2
        have hG := ug0 5 (o + 1) (by omega) (by unfold pc; omega) (by omega) _ s2
        rw [decide_eq_true (by omega), if_neg (show ¬ bI true = 0 by decide), if_neg c2, nI_1, rc_10, h_cv b1, gr_10_1, hU.2.1.1, rc_cd hcd]
        rcases q : pq b n kd m 5 (o + 1) a 0 0 with e | r
        · rw [q] at b2
          obtain ⟨J3, d1, d2, d3⟩ := U_put (L := L) (v := v2) hcd b2
          rw [h_cv d1]
          exact ⟨J3, rfl, d2, gfr_trans (gfr_trans a3 b3) d3⟩
        · rw [q] at b2 hG
          have b2' : gU cd u0 kd J2 ρ b n cs0 (.inr (r.1, cs ++ r.2)) := b2
          have hG' : a < r.1 ∧ r.1 ≤ n ∧ sk b n r.1 = r.1 ∧ a + r.2.length ≤ r.1 + 0 := hG
          obtain ⟨J3, d1, d2, d3⟩ := S_put (L := L) (op := op) hcd b2' (by rw [l_app]; omega)
          rw [List.append_assoc] at d2
          rw [q2, h_cv d1]
          exact ⟨J3, rfl, d2, gfr_trans (gfr_trans a3 b3) d3⟩
    | k + 8, h1, hk, h6, h7 => omega
end B69
