/-! change: the reference -/
section B58
variable {I I0 : Nat → Nat → Int32} {L L0 : Nat → Nat → Int64} {ρ : zRh} {h : zH} {A : aT} {N : Nat} {C : cT} {s : sT} {tr : Option Nat}
theorem MT_exch (hok : okA A) (hT : thM I I0 L L0 A s) {side x y : Nat} (hside : side < 2) (hxn : x < k_n (a_C A) side) (hyn : y < k_n (a_C A) side) : ∃ I', X12_exchanges 215 (nI side) (nI x) (nI y) (hp I L ρ) = some (none, hp I' L ρ) ∧ thM I' I0 L L0 A (sSw s (6 * side + x) (6 * side + y)) := by
  have hk := hok.1
  have hn6 := k_n_le hk side
  obtain ⟨h1, ⟨f1, f2, f3⟩, h2, ⟨h3, h4⟩, h5, h6⟩ := hT
  obtain ⟨g1, g2, g3⟩ := stM_N h3
  obtain ⟨J, hJ⟩ : ∃ J, J = u2 (u2 I 255 (2 + 6 * side + x) (I 255 (2 + 6 * side + y))) 255 (2 + 6 * side + y) (I 255 (2 + 6 * side + x)) := ⟨_, rfl⟩
  have jo : ∀ a, a ≠ 255 → J a = I a := fun a ha => by rw [hJ, u2r ha, u2r ha]
  have eo : ∀ i, i ≠ 2 + 6 * side + x → i ≠ 2 + 6 * side + y → J 255 i = I 255 i := fun i h1 h2 => by rw [hJ, u2_ap, if_neg (by omega), u2_ap, if_neg (by omega)]
  have e215 := jo 215 (by omega)
  have e258 := jo 258 (by omega)
  have e248 := jo 248 (by omega)
  have ey : J 255 (2 + 6 * side + y) = I 255 (2 + 6 * side + x) := by rw [hJ, u2_ap, if_pos ⟨rfl, rfl⟩]
  have ex : J 255 (2 + 6 * side + x) = I 255 (2 + 6 * side + y) := by
    by_cases c : x = y
    · subst c
      exact ey
    · rw [hJ, u2_ap, if_neg (by omega), u2_ap, if_pos ⟨rfl, rfl⟩]
  refine ⟨J, ?_, ⟨h1, ⟨fun a ha hb => by rw [jo a hb]; exact f1 a ha hb, fun k a b c => by rw [e215]; exact f2 k a b c, f3⟩, by rw [e215]; exact h2, ⟨stM_of ⟨⟨by rw [eo _ (by omega) (by omega)]; exact g1.1, by rw [eo _ (by omega) (by omega)]; exact g1.2⟩, fun sd k x1 x2 => ?_, fun a ha => ?_⟩ (fun a ha => by rw [e215, e248]; exact stM_sz h3 a ha), fun ht a ha hna => ?_⟩, by rw [e258]; exact h5, kpM_eq (fun j x1 x2 => eo j (by omega) (by omega)) h6⟩⟩
  · unfold X12_exchanges
    rw [gr_215_52, show (6 : Int32) = nI 6 from rfl, pk_mul, show (2 : Int32) = nI 2 from rfl, nI_add, nI_add, nI_add, la_255 (by omega), gr_215_52, gr_215_52, la_255 (by omega), sa_255 (by omega), gr_215_52, sa_255 (by omega), h_ret, hJ]
  · have := k_n_le hk sd
    rw [sSw_ord]
    unfold t_sw
    by_cases cs : sd = side
    · rw [cs] at x2 ⊢
      by_cases c2 : k = x
      · rw [c2, ex, if_pos rfl]
        exact g2 side y hside hyn
      · by_cases c1 : k = y
        · rw [c1, ey, if_neg (by omega), if_pos rfl]
          exact g2 side x hside hxn
        · rw [eo _ (by omega) (by omega), if_neg (by omega), if_neg (by omega)]
          exact g2 side k hside x2
    · rw [eo _ (by omega) (by omega), if_neg (by omega), if_neg (by omega)]
      exact g2 sd k x1 x2
  · have := k_th_lt hk ha
    obtain ⟨r1, r2, r3⟩ := g3 a ha
    refine ⟨by rw [eo _ (by omega) (by omega)]; exact r1, by rw [eo _ (by omega) (by omega)]; exact r2, fun k hk6 => ?_⟩
    rw [eo _ (by omega) (by omega), eo _ (by omega) (by omega)]
    exact r3 k hk6
  · rw [eo _ (by omega) (by omega)]
    exact h4 ht a ha hna
abbrev f5 (F : fT) (k : Nat) : Int32 × Int32 × Int32 × Int32 × Int32 := (F.1.1, F.1.2.1, F.1.2.2, nI F.2, nI k)
theorem X12_ch_step (hok : okA A) {n side O a b : Nat} {v2 : Int32} {F : fT} {r55 r64 rec : Int32 × Int32 × Int32 × Int32 × Int32 → zM} (hn : n ≤ 40) (hside : side < 2) (hO : O = k_n (a_C A) side) (hab : a < b ∧ b < O) (hT : thM I I0 L L0 A (a_s A)) (hF : F.2 ≤ 6) : ∃ I' L', X12_change_B81 r55 r64 215 (nI n) v2 (nI side) (nI a) rec F.1.1 F.1.2.1 F.1.2.2 (nI F.2) (nI b) (hp I L ρ) = rec (f5 (c_st (a_C A) (a_s A) n side a b F) (b + 1)) (hp I' L' ρ) ∧ thM I' I0 L' L0 A (a_s A) := by
  have hk := hok.1
  have h999 := hok.2.2.1.2.1
  have hO6 := k_n_le hk side
  have ta := k_th_of (C := a_C A) hside (show a < k_n (a_C A) side by omega)
  have tb := k_th_of (C := a_C A) hside (show b < k_n (a_C A) side by omega)
  have hS := (okT_Sw hok.2.2.1 ta tb (by omega)).1
  obtain ⟨I1, e1, e2⟩ := MT_exch (ρ := ρ) hok hT hside (x := a) (y := b) (by omega) (by omega)
  obtain ⟨I2, L2, f1, f2, f3, f4⟩ := MT_gos (ρ := ρ) hok (n := n) (by omega) hS (by show s_sp (a_s A) + n ≤ 2000; omega) e2
  have hSn := (p_gos_ok hk n hS (by show s_sp (a_s A) + n ≤ 2000; omega)).1
  obtain ⟨I3, g1, g2, g3⟩ := MT_anew (ρ := ρ) (s' := a_s A) hok f2 (szM_eq (gos_siz (a_C A) n (sSw (a_s A) (6 * side + a) (6 * side + b))) (stM_sz f2.2.2.2.1.1)) (fun f hf => hf)
  refine ⟨I3, L2, ?_, g2⟩
  have hw2 : c_w (a_C A) (a_s A) n side a b ≤ 6 := p_wc_le _
  unfold X12_change_B81 X12_change_J142 c_st
  rw [rc_215, h_ci (X12_sideMany_h (thM_ch hT) hside), h_if, if_neg (show ¬ nI (k_n (a_C A) side) ≤ nI b from nI_ge (by omega) (by omega)), rc_215, h_cv e1, rc_215, h_cv f1, rc_215, h_ci (X12_wedMany_g hSn (thM_ch f2) f2.2.2.2.1.1 f2.2.2.2.1.2), rc_215, h_cv g1, h_if]
  by_cases c : F.2 < c_w (a_C A) (a_s A) n side a b
  · rw [if_pos (show nI F.2 < nI (p_wc (p_gos (a_C A) n (sSw (a_s A) (6 * side + a) (6 * side + b)))) from nI_lt c (show p_wc _ < 2 ^ 31 by have := p_wc_le (p_gos (a_C A) n (sSw (a_s A) (6 * side + a) (6 * side + b))); omega)), if_pos c, nI_1]; rfl
  · rw [if_neg (show ¬ nI F.2 < nI (p_wc (p_gos (a_C A) n (sSw (a_s A) (6 * side + a) (6 * side + b)))) from fun e => c ((nI_lt' (by omega) (show p_wc _ < 2147483648 by have := p_wc_le (p_gos (a_C A) n (sSw (a_s A) (6 * side + a) (6 * side + b))); omega)).mp e)), if_neg c, nI_1]
theorem X12_ch_b (hok : okA A) {n side O a : Nat} {v2 : Int32} {r55 r64 : Int32 × Int32 × Int32 × Int32 × Int32 → zM} (hn : n ≤ 40) (hside : side < 2) (hO : O = k_n (a_C A) side) : ∀ (m b fuel : Nat) (I : Nat → Nat → Int32) (L : Nat → Nat → Int64) (F : fT), b + m = O → m < fuel → a < b → thM I I0 L L0 A (a_s A) → F.2 ≤ 6 → ∃ I' L', z_fix (fun r x => X12_change_B81 r55 r64 215 (nI n) v2 (nI side) (nI a) r x.1 x.2.1 x.2.2.1 x.2.2.2.1 x.2.2.2.2) fuel (f5 F b) (hp I L ρ) = r64 (f5 (c_b (a_C A) (a_s A) n side a m b F) (a + 1)) (hp I' L' ρ) ∧ thM I' I0 L' L0 A (a_s A) ∧ (c_b (a_C A) (a_s A) n side a m b F).2 ≤ 6 := by
  have hO6 := k_n_le hok.1 side
  intro m
  induction m with
  | zero =>
    intro b fuel I L F h1 h2 h3 h4 h5
    obtain ⟨f, rfl⟩ : ∃ f, fuel = f + 1 := ⟨fuel - 1, by omega⟩
    refine ⟨I, L, ?_, h4, h5⟩
    rw [h_fix]
    show X12_change_B81 r55 r64 215 (nI n) v2 (nI side) (nI a) _ F.1.1 F.1.2.1 F.1.2.2 (nI F.2) (nI b) (hp I L ρ) = _
    unfold X12_change_B81 X12_change_J148
    rw [rc_215, h_ci (X12_sideMany_h (thM_ch h4) hside), h_if, if_pos (nI_le (by omega) (by omega)), nI_1]; rfl
  | succ m ih =>
    intro b fuel I L F h1 h2 h3 h4 h5
    obtain ⟨f, rfl⟩ : ∃ f, fuel = f + 1 := ⟨fuel - 1, by omega⟩
    rw [h_fix]
    generalize hg : z_fix (fun r x => X12_change_B81 r55 r64 215 (nI n) v2 (nI side) (nI a) r x.1 x.2.1 x.2.2.1 x.2.2.2.1 x.2.2.2.2) f = rec
    obtain ⟨I1, L1, e1, e2⟩ := X12_ch_step (ρ := ρ) (r55 := r55) (r64 := r64) (rec := rec) (v2 := v2) hok hn hside hO (a := a) (b := b) (by omega) h4 h5
    obtain ⟨I', L', r1, r2⟩ := ih (b + 1) f I1 L1 _ (by omega) (by omega) (by omega) e2 (c_st_le _ _ _ _ _ _ h5)
    refine ⟨I', L', ?_, r2⟩
    show X12_change_B81 r55 r64 215 (nI n) v2 (nI side) (nI a) rec F.1.1 F.1.2.1 F.1.2.2 (nI F.2) (nI b) (hp I L ρ) = _
    rw [e1, ← hg]
    exact r1
theorem X12_ch_a (hok : okA A) {n side O : Nat} {v2 : Int32} {r55 : Int32 × Int32 × Int32 × Int32 × Int32 → zM} (hn : n ≤ 40) (hside : side < 2) (hO : O = k_n (a_C A) side) : ∀ (m a fuel : Nat) (I : Nat → Nat → Int32) (L : Nat → Nat → Int64) (F : fT), a + m = O → m < fuel → thM I I0 L L0 A (a_s A) → F.2 ≤ 6 → ∃ I' L', z_fix (fun r x => X12_change_B64 r55 215 (nI n) v2 (nI side) r x.1 x.2.1 x.2.2.1 x.2.2.2.1 x.2.2.2.2) fuel (f5 F a) (hp I L ρ) = r55 (f5 (c_a (a_C A) (a_s A) n side O m a F) (side + 1)) (hp I' L' ρ) ∧ thM I' I0 L' L0 A (a_s A) ∧ (c_a (a_C A) (a_s A) n side O m a F).2 ≤ 6 := by
  have hO6 := k_n_le hok.1 side
  intro m
  induction m with
  | zero =>
    intro a fuel I L F h1 h2 h4 h5
    obtain ⟨f, rfl⟩ : ∃ f, fuel = f + 1 := ⟨fuel - 1, by omega⟩
    refine ⟨I, L, ?_, h4, h5⟩
    rw [h_fix]
    show X12_change_B64 r55 215 (nI n) v2 (nI side) _ F.1.1 F.1.2.1 F.1.2.2 (nI F.2) (nI a) (hp I L ρ) = _
    unfold X12_change_B64 X12_change_J154
    rw [rc_215, h_ci (X12_sideMany_h (thM_ch h4) hside), h_if, if_pos (nI_le (by omega) (by omega)), nI_1]; rfl
  | succ m ih =>
    intro a fuel I L F h1 h2 h4 h5
    obtain ⟨f, rfl⟩ : ∃ f, fuel = f + 1 := ⟨fuel - 1, by omega⟩
    rw [h_fix]
    generalize hg : z_fix (fun r x => X12_change_B64 r55 215 (nI n) v2 (nI side) r x.1 x.2.1 x.2.2.1 x.2.2.2.1 x.2.2.2.2) f = rec
    obtain ⟨I1, L1, e1, e2, e3⟩ := X12_ch_b (ρ := ρ) (r55 := r55) (r64 := rec) (v2 := v2) hok hn hside hO (a := a) (O - (a + 1)) (a + 1) zFU I L F (by omega) (by unfold zFU; omega) (by omega) h4 h5
    obtain ⟨I', L', r1, r2⟩ := ih (a + 1) f I1 L1 _ (by omega) (by omega) e2 e3
    refine ⟨I', L', ?_, r2⟩
    show X12_change_B64 r55 215 (nI n) v2 (nI side) rec F.1.1 F.1.2.1 F.1.2.2 (nI F.2) (nI a) (hp I L ρ) = _
    unfold X12_change_B64
    rw [rc_215, h_ci (X12_sideMany_h (thM_ch h4) hside), h_if, if_neg (show ¬ nI (k_n (a_C A) side) ≤ nI a from nI_ge (by omega) (by omega)), nI_1]
    show z_fix (fun r x => X12_change_B81 r55 rec 215 (nI n) v2 (nI side) (nI a) r x.1 x.2.1 x.2.2.1 x.2.2.2.1 x.2.2.2.2) zFU (f5 F (a + 1)) (hp I L ρ) = _
    rw [e1, ← hg]
    exact r1
def r_ch (F : fT) (j : Nat) : Int32 := if j = 0 then F.1.1 else if j = 1 then F.1.2.1 else if j = 2 then F.1.2.2 else nI F.2
theorem change_b (hok : okA A) (v w : Int32) : both (X11_change 0 v w) (X12_change 215 v w) A N := by
  have hk := hok.1
  have h999 := hok.2.2.1.2.1
  have eX : ∀ {I : Nat → Nat → Int32} {L : Nat → Nat → Int64} {ρ : zRh}, RelX I L ρ A N → X0_canCome 53 41 v 1 40 (hp I L ρ) = some (some (.int (bI (p_can A v 1 40))), hp I L ρ) := fun hX => X0_can_h hok hX (lo := 1) (hi := 40) (by omega) v
  have eM : ∀ {I : Nat → Nat → Int32} {L : Nat → Nat → Int64} {ρ : zRh}, RelM I L A → X12_isAhead 215 v 1 40 (hp I L ρ) = some (some (.int (bI (p_can A v 1 40))), hp I L ρ) := fun hM => X12_ahead_h hok hM (lo := 1) (hi := 40) (by omega) v
  by_cases c1 : 0 ≤ w.toInt ∧ w.toInt ≤ 3
  · obtain ⟨j, hj9, rfl⟩ := Int32_in9 (v := w) (by omega)
    rw [nI_toI (by omega)] at c1
    have hj : j ≤ 3 := by omega
    by_cases c : p_can A v 1 40 = true
    · obtain ⟨n, rfl, n1, n2, n3, n4⟩ := can_n hok c
      refine both_thinks hok (.int (r_ch (c_all (a_C A) (a_s A) n) j)) (fun I L ρ hX => ?_) (fun I L ρ hM => ?_)
      · obtain ⟨I', e1, e2, e3⟩ := X0_ch_h (L := L) (ρ := ρ) hok hX n2
        refine ⟨I', ?_, e2⟩
        unfold X11_change
        rw [h_if, if_neg (show ¬ nI j < 0 by rw [v_neg, nI_toI (by omega)]; omega), h_if, if_neg (show ¬ (3 : Int32) < nI j from fun e => absurd ((nI_lt' (a := 3) (by omega) (by omega)).mp e) (by omega)), gr_0_9, gr_0_7, rc_53, h_ci (eX hX), c, h_if, if_neg (by decide), gr_0_9, gr_0_7, rc_53, h_cv e1, gr_0_9, gr_53_1, la_61 (by omega), h_ret]
        obtain ⟨⟨q0, q1, q2⟩, q3, -⟩ := e3
        unfold r_ch
        have hc : j = 0 ∨ j = 1 ∨ j = 2 ∨ j = 3 := by omega
        rcases hc with rfl | rfl | rfl | rfl
        · rw [if_pos rfl, q0]
        · rw [if_neg (by omega), if_pos rfl, q1]
        · rw [if_neg (by omega), if_neg (by omega), if_pos rfl, q2]
        · rw [if_neg (by omega), if_neg (by omega), if_neg (by omega), q3]
      · obtain ⟨I1, e1, e2, e3⟩ := MT_puts (ρ := ρ) hok hM
        obtain ⟨I2, L2, f1, f2, f3, f4⟩ := MT_gos (ρ := ρ) hok (n := n) (by omega) hok.2.2.1.1 (by omega) e2
        have hSn := (p_gos_ok hk n hok.2.2.1.1 (by omega)).1
        obtain ⟨I3, g1, g2, g3⟩ := MT_anew (ρ := ρ) (s' := a_s A) hok f2 (szM_eq (gos_siz (a_C A) n (a_s A)) (stM_sz f2.2.2.2.1.1)) (fun f hf => hf)
        obtain ⟨g, hgz⟩ : ∃ g, zFU = g + 1 + 1 + 1 := ⟨999997, rfl⟩
        obtain ⟨I4, L4, a1, a2, a3⟩ := X12_ch_a (ρ := ρ) (v2 := nI j) (r55 := z_fix (fun r x => X12_change_B55 215 (nI n) (nI j) r x.1 x.2.1 x.2.2.1 x.2.2.2.1 x.2.2.2.2) (g + 1 + 1)) hok n2 (side := 0) (by omega) rfl (k_n (a_C A) 0) 0 zFU I3 L2 ((-1, -1, -1), p_wc (p_gos (a_C A) n (a_s A))) (by omega) (by have := k_n_le hk 0; unfold zFU; omega) g2 (p_wc_le _)
        obtain ⟨I5, L5, b1, b2, b3⟩ := X12_ch_a (ρ := ρ) (v2 := nI j) (r55 := z_fix (fun r x => X12_change_B55 215 (nI n) (nI j) r x.1 x.2.1 x.2.2.1 x.2.2.2.1 x.2.2.2.2) (g + 1)) hok n2 (side := 1) (by omega) rfl (k_n (a_C A) 1) 0 zFU I4 L4 _ (by omega) (by have := k_n_le hk 1; unfold zFU; omega) a2 a3
        obtain ⟨I6, d1, d2, d3⟩ := MT_back (ρ := ρ) hok b2
        refine ⟨I6, L5, ?_, d2, d3⟩
        have hfin : z_fix (fun r x => X12_change_B55 215 (nI n) (nI j) r x.1 x.2.1 x.2.2.1 x.2.2.2.1 x.2.2.2.2) zFU (f5 ((-1, -1, -1), p_wc (p_gos (a_C A) n (a_s A))) 0) (hp I3 L2 ρ) = some (some (.int (r_ch (c_all (a_C A) (a_s A) n) j)), hp I6 L5 ρ) := by
          have s0 : ∀ {rec : Int32 × Int32 × Int32 × Int32 × Int32 → zM} {F : fT} {side : Nat} {h : zH}, side < 2 → X12_change_B55 215 (nI n) (nI j) rec F.1.1 F.1.2.1 F.1.2.2 (nI F.2) (nI side) h = z_fix (fun r x => X12_change_B64 rec 215 (nI n) (nI j) (nI side) r x.1 x.2.1 x.2.2.1 x.2.2.2.1 x.2.2.2.2) zFU (f5 F 0) h := by
            intro rec F side h hs
            unfold X12_change_B55
            rw [h_if, if_neg (show ¬ (2 : Int32) ≤ nI side from nI_ge (b := 2) (by omega) (by omega))]; rfl
          have u1 : ∀ (k : Nat) (F : fT) (x : Nat) (h : zH), z_fix (fun r x => X12_change_B55 215 (nI n) (nI j) r x.1 x.2.1 x.2.2.1 x.2.2.2.1 x.2.2.2.2) (k + 1) (f5 F x) h = X12_change_B55 215 (nI n) (nI j) (z_fix (fun r x => X12_change_B55 215 (nI n) (nI j) r x.1 x.2.1 x.2.2.1 x.2.2.2.1 x.2.2.2.2) k) F.1.1 F.1.2.1 F.1.2.2 (nI F.2) (nI x) h := fun k F x h => rfl
          rw [show z_fix (fun r x => X12_change_B55 215 (nI n) (nI j) r x.1 x.2.1 x.2.2.1 x.2.2.2.1 x.2.2.2.2) zFU = z_fix (fun r x => X12_change_B55 215 (nI n) (nI j) r x.1 x.2.1 x.2.2.1 x.2.2.2.1 x.2.2.2.2) (g + 1 + 1 + 1) by rw [← hgz], u1, s0 (by omega), a1, u1, s0 (by omega), b1, u1]
          unfold X12_change_B55 X12_change_J160
          rw [h_if, if_pos (by decide), rc_215, h_cv d1, h_if]
          unfold c_all
          generalize c_a (a_C A) (a_s A) n 1 (k_n (a_C A) 1) (k_n (a_C A) 1) 0 (c_a (a_C A) (a_s A) n 0 (k_n (a_C A) 0) (k_n (a_C A) 0) 0 ((-1, -1, -1), p_wc (p_gos (a_C A) n (a_s A)))) = F2
          have hc : j = 0 ∨ j = 1 ∨ j = 2 ∨ j = 3 := by omega
          rcases hc with rfl | rfl | rfl | rfl <;> rfl
        unfold X12_change
        rw [rc_215, h_ci (eM hM), c, h_if, if_neg (by decide), i64_of, show (0 : Int64) = cl 0 from rfl, h_ci (show X12_isIn _ _ 3 _ = _ from X12_isIn_h (b := 3) (i32_in _) (by omega) (by omega)), h_if, decide_eq_true (by rw [nI_toI (by omega)]; omega), if_neg (by decide), rc_215, h_cv e1, rc_215, h_cv f1, rc_215, h_ci (X12_wedMany_g hSn (thM_ch f2) f2.2.2.2.1.1 f2.2.2.2.1.2), rc_215, h_cv g1]
        exact hfin
    · have c4 : p_can A v 1 40 = false := by simpa using c
      refine both_still hok (.int (-1)) (fun I L ρ hX => ?_) (fun I L ρ hM => ?_)
      · unfold X11_change
        rw [h_if, if_neg (show ¬ nI j < 0 by rw [v_neg, nI_toI (by omega)]; omega), h_if, if_neg (show ¬ (3 : Int32) < nI j from fun e => absurd ((nI_lt' (a := 3) (by omega) (by omega)).mp e) (by omega)), gr_0_9, gr_0_7, rc_53, h_ci (eX hX), c4, bF, h_if, if_pos rfl]; rfl
      · unfold X12_change
        rw [rc_215, h_ci (eM hM), c4, bF, h_if, if_pos rfl]; rfl
  · refine both_still hok (.int (-1)) (fun I L ρ hX => ?_) (fun I L ρ hM => ?_)
    · unfold X11_change
      rw [h_if]
      by_cases c2 : w < 0
      · rw [if_pos c2]; rfl
      · rw [if_neg c2, h_if]
        obtain ⟨j, hj, rfl⟩ := Int32_of c2
        rw [nI_toI hj] at c1
        rw [if_pos (show (3 : Int32) < nI j from nI_lt (a := 3) (by omega) (by omega))]; rfl
    · unfold X12_change
      rw [rc_215, h_ci (eM hM), h_if]
      split
      · rfl
      · rw [i64_of, show (0 : Int64) = cl 0 from rfl, h_ci (show X12_isIn _ _ 3 _ = _ from X12_isIn_h (b := 3) (i32_in _) (by omega) (by omega)), h_if, decide_eq_false c1, bF, if_pos rfl]; rfl
end B58
