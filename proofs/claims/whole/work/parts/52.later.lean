/-! later, pairs, when -/
section B52
variable {I I0 : Nat → Nat → Int32} {L L0 : Nat → Nat → Int64} {ρ : zRh} {h : zH} {A : aT} {N : Nat} {C : cT} {s : sT} {tr : Option Nat}
theorem MT_gos_lp (hok : okA A) {n : Nat} (hn1 : n ≤ 1000) (hS : okS (a_C A) s) (hn : s_sp s + n ≤ 2000) : ∀ (m k fuel : Nat) (I : Nat → Nat → Int32) (L : Nat → Nat → Int64), k + m = n → m < fuel → thM I I0 L L0 A (p_gos (a_C A) k s) → ∃ I' L', z_fix (fun r x => X12_roundsGo_B7 215 (nI n) r x) fuel (nI k) (hp I L ρ) = some (none, hp I' L' ρ) ∧ thM I' I0 L' L0 A (p_gos (a_C A) n s) ∧ I' 215 54 = I 215 54 ∧ I' 215 55 = I 215 55 := by
  intro m
  induction m with
  | zero =>
    intro k fuel I L h1 h2 h3
    obtain ⟨f, rfl⟩ : ∃ f, fuel = f + 1 := ⟨fuel - 1, by omega⟩
    obtain rfl : k = n := by omega
    refine ⟨I, L, ?_, h3, rfl, rfl⟩
    rw [h_fix]
    show X12_roundsGo_B7 215 (nI k) _ (nI k) (hp I L ρ) = _
    unfold X12_roundsGo_B7
    rw [h_if, if_pos (nI_le (Nat.le_refl _) (by omega))]; rfl
  | succ m ih =>
    intro k fuel I L h1 h2 h3
    obtain ⟨f, rfl⟩ : ∃ f, fuel = f + 1 := ⟨fuel - 1, by omega⟩
    rw [h_fix]
    generalize hg : z_fix (fun r x => X12_roundsGo_B7 215 (nI n) r x) f = rec
    have hk := (p_gos_ok hok.1 k hS (by omega)).1
    obtain ⟨I1, L1, e1, e2, e3, e4⟩ := MT_go (ρ := ρ) (tr := none) hok hk (by simp) h3
    obtain ⟨I', L', r1, r2, r3, r4⟩ := ih (k + 1) f I1 L1 (by omega) (by omega) (by rw [p_gos_succ]; exact e2)
    refine ⟨I', L', ?_, r2, by rw [r3, e3], by rw [r4, e4]⟩
    show X12_roundsGo_B7 215 (nI n) rec (nI k) (hp I L ρ) = _
    unfold X12_roundsGo_B7
    rw [h_if, if_neg (nI_ge (by omega) (by omega)), rc_215, h_cv (show X12_roundGoes 215 (-1) _ = _ from e1), nI_1, ← hg]
    exact r1
theorem thM_63 (hT : thM I I0 L L0 A s) {v : Int32} : thM (u2 I 215 63 v) I0 L L0 A s := by
  obtain ⟨h1, ⟨f1, f2, f3⟩, h2, ⟨h3, h4⟩, h5, h6⟩ := hT
  have e : ∀ k, k ≠ 63 → (u2 I 215 63 v) 215 k = I 215 k := fun k hk => by rw [u2_ap, if_neg (by omega)]
  refine ⟨h1, ⟨fun a ha hb => by rw [u2r (by unfold lastM at ha; omega)]; exact f1 a ha hb, fun k a b c => by rw [e k (by unfold fieldM at a; omega)]; exact f2 k a b c, f3⟩, by rw [e 64 (by omega)]; exact h2, ⟨stM_fr (u2r (by decide)) (e 54 (by omega)) (e 55 (by omega)) (u2r (by decide)) h3, by rw [u2r (by decide)]; exact h4⟩, by rw [u2r (by decide)]; exact h5, by rw [u2r (by decide)]; exact h6⟩
theorem MT_gos (hok : okA A) {n : Nat} (hn1 : n ≤ 1000) (hS : okS (a_C A) s) (hn : s_sp s + n ≤ 2000) (hT : thM I I0 L L0 A s) : ∃ I' L', X12_roundsGo 215 (nI n) (hp I L ρ) = some (none, hp I' L' ρ) ∧ thM I' I0 L' L0 A (p_gos (a_C A) n s) ∧ I' 215 54 = I 215 54 ∧ I' 215 55 = I 215 55 := by
  obtain ⟨I', L', r1, r2, r3, r4⟩ := MT_gos_lp (ρ := ρ) hok hn1 hS hn n 0 zFU (u2 I 215 63 0) L (by omega) (by unfold zFU; omega) (thM_63 hT)
  refine ⟨I', L', ?_, r2, by rw [r3, u2_ap, if_neg (by omega)], by rw [r4, u2_ap, if_neg (by omega)]⟩
  unfold X12_roundsGo
  rw [pi_215]
  exact r1
theorem can_n (hok : okA A) {v : Int32} {lo hi : Nat} (h : p_can A v lo hi = true) : ∃ n, v = nI n ∧ lo ≤ n ∧ n ≤ hi ∧ s_cnt (a_C A) (a_s A) + n < 1000 * k_rt (a_C A) ∧ n < 2147483648 := by
  unfold p_can at h
  have c3 := of_decide_eq_true h
  obtain ⟨n, hn, rfl⟩ := Int32_of (v := v) (by rw [v_neg]; omega)
  rw [nI_toI hn] at c3
  exact ⟨n, rfl, by omega, by omega, by omega, hn⟩
/-- both only think: class's part, reference's part -/
theorem both_thinks {g f : zM} (hok : okA A) (r : Value) (h1 : ∀ I L ρ, RelX I L ρ A N → ∃ I', g (hp I L ρ) = some (some r, hp I' L ρ) ∧ ∀ a, lastX a ∨ 215 ≤ a → I' a = I a) (h2 : ∀ I L ρ, RelM I L A → ∃ I' L', f (hp I L ρ) = some (some r, hp I' L' ρ) ∧ RelM I' L' A ∧ ∀ a, a < 215 → I' a = I a ∧ L' a = L a) : both g f A N := by
  refine ⟨r, A, N, fun I L ρ hX => ?_, fun I L ρ hM => ?_, hok, by omega⟩
  · obtain ⟨I', e, fr⟩ := h1 I L ρ hX
    exact runX_same hX e fr
  · obtain ⟨I', L', e, f1, f2⟩ := h2 I L ρ hM
    exact ⟨I', L', e, f1, f2⟩
theorem later_b (hok : okA A) (v w : Int32) : both (X11_later 0 v w) (X12_later 215 v w) A N := by
  have hk := hok.1
  have h12 := hk.1
  have h999 := hok.2.2.1.2.1
  rcases k_sl_c hk v with ⟨q, q1⟩ | ⟨a, p, q, rfl, q1, q2, q3, q4, q5⟩
  · refine both_still hok (.int (-1)) (fun I L ρ hX => ?_) (fun I L ρ hM => ?_)
    · unfold X11_later
      rw [gr_0_5, rcc (cu_ρ hX), h_ci (XC_slot hX hk _), q, oI_none, h_if, if_pos rfl]; rfl
    · unfold X12_later
      rw [rc_215, h_ci (X12_isPerson_v hk hM.1 _), q, bI_none, h_if, if_pos rfl]; rfl
  · have eX : ∀ {I : Nat → Nat → Int32} {L : Nat → Nat → Int64} {ρ : zRh}, RelX I L ρ A N → X0_canCome 53 41 w 0 60 (hp I L ρ) = some (some (.int (bI (p_can A w 0 60))), hp I L ρ) := fun hX => X0_can_h hok hX (lo := 0) (hi := 60) (by omega) w
    have eM : ∀ {I : Nat → Nat → Int32} {L : Nat → Nat → Int64} {ρ : zRh}, RelM I L A → X12_isAhead 215 w 0 60 (hp I L ρ) = some (some (.int (bI (p_can A w 0 60))), hp I L ρ) := fun hM => X12_ahead_h hok hM (lo := 0) (hi := 60) (by omega) w
    by_cases c : p_can A w 0 60 = true
    · obtain ⟨n, rfl, -, n2, n3, n4⟩ := can_n hok c
      have hSn := (p_gos_ok hk n hok.2.2.1.1 (by omega)).1
      have ho : ∀ b, s_wed (p_gos (a_C A) n (a_s A)) a = some b → b < 12 := fun b e => k_th_lt hk (hSn.2.2.2.1 a b e).2.1
      refine both_thinks hok (.int (oI ((s_wed (p_gos (a_C A) n (a_s A)) a).map (k_num (a_C A))))) (fun I L ρ hX => ?_) (fun I L ρ hM => ?_)
      · obtain ⟨I', e1, e2, e3, e4⟩ := X0_behind_h hok hX (n := n) (by omega)
        refine ⟨I', ?_, e2⟩
        unfold X11_later
        rw [gr_0_5, rcc (cu_ρ hX), h_ci (XC_slot hX hk _), q, oI_some, h_if, if_neg (nI_nm1 (by omega)), gr_0_9, gr_0_7, rc_53, h_ci (eX hX), c, h_if, if_neg (by decide), gr_0_5, gr_0_9, gr_0_7, rc_53, h_cr e1, gr_54_3, la_56 q5, e3.2.2.1 a q5, rcc (cu_ρ hX), h_ci (XC_number e4 hk ho)]; rfl
      · obtain ⟨I1, e1, e2, e3⟩ := MT_puts (ρ := ρ) hok hM
        obtain ⟨I2, L2, f1, f2, f3, f4⟩ := MT_gos (ρ := ρ) hok (n := n) (by omega) hok.2.2.1.1 (by omega) e2
        obtain ⟨I3, g1, g2, g3⟩ := MT_back (ρ := ρ) hok f2
        refine ⟨I3, L2, ?_, g2, g3⟩
        unfold X12_later
        rw [rc_215, h_ci (X12_isPerson_v hk hM.1 _), q, bI_some, h_if, if_neg (by decide), rc_215, h_ci (eM hM), c, h_if, if_neg (by decide), rc_215, h_cv e1, rc_215, h_cv f1, rc_215, ← q4, h_ci (X12_wedTo_h hk (thM_ch f2) f2.2.2.2.1.1 q3), rc_215, h_ci (X12_told_h hk (thM_ch f2) ho), rc_215, h_cv g1]; rfl
    · have c4 : p_can A w 0 60 = false := by simpa using c
      refine both_still hok (.int (-1)) (fun I L ρ hX => ?_) (fun I L ρ hM => ?_)
      · unfold X11_later
        rw [gr_0_5, rcc (cu_ρ hX), h_ci (XC_slot hX hk _), q, oI_some, h_if, if_neg (nI_nm1 (by omega)), gr_0_9, gr_0_7, rc_53, h_ci (eX hX), c4, bF, h_if, if_pos rfl]; rfl
      · unfold X12_later
        rw [rc_215, h_ci (X12_isPerson_v hk hM.1 _), q, bI_some, h_if, if_neg (by decide), rc_215, h_ci (eM hM), c4, bF, h_if, if_pos rfl]; rfl
/-! pairs -/
theorem X8_pairs54_lp : ∀ (m k fuel : Nat), k + m = 6 → m < fuel → z_fix (fun r x => X8_wedPairs_B4 54 r x.1 x.2) fuel (nI (c_nt (I 56) k), nI k) (hp I L ρ) = some (some (.int (nI (c_nt (I 56) 6))), hp I L ρ) := by
  intro m
  induction m with
  | zero =>
    intro k fuel h1 h2
    obtain ⟨f, rfl⟩ : ∃ f, fuel = f + 1 := ⟨fuel - 1, by omega⟩
    obtain rfl : k = 6 := by omega
    rw [h_fix]
    show X8_wedPairs_B4 54 _ (nI (c_nt (I 56) 6)) (nI 6) (hp I L ρ) = _
    unfold X8_wedPairs_B4
    rw [h_if, if_pos (by decide)]; rfl
  | succ m ih =>
    intro k fuel h1 h2
    obtain ⟨f, rfl⟩ : ∃ f, fuel = f + 1 := ⟨fuel - 1, by omega⟩
    rw [h_fix]
    generalize hg : z_fix (fun r x => X8_wedPairs_B4 54 r x.1 x.2) f = rec
    show X8_wedPairs_B4 54 rec (nI (c_nt (I 56) k)) (nI k) (hp I L ρ) = _
    unfold X8_wedPairs_B4 X8_wedPairs_J23
    rw [h_if, if_neg (show ¬ (6 : Int32) ≤ nI k from nI_ge (b := 6) (by omega) (by omega)), gr_54_3, la_56 (by omega), h_if]
    have hi := ih (k + 1) f (by omega) (by omega)
    rw [hg] at hi
    by_cases c : I 56 k = -1
    · rw [if_pos c, nI_1, ← hi]
      show _ = rec (nI (c_nt (I 56) k + (if I 56 k = -1 then 0 else 1)), nI (k + 1)) _
      rw [if_pos c]; rfl
    · rw [if_neg c, nI_1, nI_1, ← hi]
      show _ = rec (nI (c_nt (I 56) k + (if I 56 k = -1 then 0 else 1)), nI (k + 1)) _
      rw [if_neg c]
theorem X8_pairs54_h (hs : stX 54 I s) : X8_wedPairs 54 (hp I L ρ) = some (some (.int (nI (p_wc s))), hp I L ρ) := by
  unfold X8_wedPairs
  rw [show ((0 : Int32), (0 : Int32)) = (nI (c_nt (I 56) 0), nI 0) from rfl, X8_pairs54_lp 6 0 zFU (by omega) (by unfold zFU; omega)]
  unfold p_wc
  rw [c_nt_eq 6 (fun i hi => by rw [hs.2.2.1 i (by omega)])]
theorem X12_wedMany_g (hS : okS C s) (hM : chM I C) (hs : stM I C s) (ht : tdM (I 255) C) : X12_wedMany 215 (hp I L ρ) = some (some (.int (nI (p_wc s))), hp I L ρ) := by
  unfold X12_wedMany
  rw [show ((0 : Int32), (0 : Int32)) = (nI (c_nt (fun i => I 255 (14 + i)) 0), nI 0) from rfl, X12_wedMany_lp 6 0 zFU (by omega) (by unfold zFU; omega)]
  unfold X12_wedMany_J32 p_wc
  rw [gi_215, h_if]
  rcases hM.2.1 with ⟨q1, -, q2⟩ | ⟨q1, -, q2, q3, -⟩
  · rw [q1, if_neg (by decide), h_ret, c_nt_eq 6 (g := fun i => oI (s_wed s i))]
    intro i hi
    show I 255 (14 + i) = -1 ↔ oI (s_wed s i) = -1
    by_cases c : k_th C i
    · rw [(hs.2.2 i c).1]
    · rw [ht q2 i (by omega) c, wed_th hS c]; simp [oI_none]
  · rw [q1, if_pos rfl, h_ret, c_nt_0 6]
    · rfl
    · intro i hi
      show oI (s_wed s i) = -1
      rw [wed_th hS (show ¬ k_th C i by unfold k_th; omega)]; rfl
theorem pairs_b (hok : okA A) (w : Int32) : both (X11_pairs 0 w) (X12_pairs 215 w) A N := by
  have hk := hok.1
  have h12 := hk.1
  have h999 := hok.2.2.1.2.1
  have eX : ∀ {I : Nat → Nat → Int32} {L : Nat → Nat → Int64} {ρ : zRh}, RelX I L ρ A N → X0_canCome 53 41 w 0 60 (hp I L ρ) = some (some (.int (bI (p_can A w 0 60))), hp I L ρ) := fun hX => X0_can_h hok hX (lo := 0) (hi := 60) (by omega) w
  have eM : ∀ {I : Nat → Nat → Int32} {L : Nat → Nat → Int64} {ρ : zRh}, RelM I L A → X12_isAhead 215 w 0 60 (hp I L ρ) = some (some (.int (bI (p_can A w 0 60))), hp I L ρ) := fun hM => X12_ahead_h hok hM (lo := 0) (hi := 60) (by omega) w
  by_cases c : p_can A w 0 60 = true
  · obtain ⟨n, rfl, -, n2, n3, n4⟩ := can_n hok c
    have hSn := (p_gos_ok hk n hok.2.2.1.1 (by omega)).1
    refine both_thinks hok (.int (nI (p_wc (p_gos (a_C A) n (a_s A))))) (fun I L ρ hX => ?_) (fun I L ρ hM => ?_)
    · obtain ⟨I', e1, e2, e3, e4⟩ := X0_behind_h hok hX (n := n) (by omega)
      refine ⟨I', ?_, e2⟩
      unfold X11_pairs
      rw [gr_0_9, gr_0_7, rc_53, h_ci (eX hX), c, h_if, if_neg (by decide), gr_0_9, gr_0_7, rc_53, h_cr e1, rc_54, h_ci (X8_pairs54_h e3)]; rfl
    · obtain ⟨I1, e1, e2, e3⟩ := MT_puts (ρ := ρ) hok hM
      obtain ⟨I2, L2, f1, f2, f3, f4⟩ := MT_gos (ρ := ρ) hok (n := n) (by omega) hok.2.2.1.1 (by omega) e2
      obtain ⟨I3, g1, g2, g3⟩ := MT_back (ρ := ρ) hok f2
      refine ⟨I3, L2, ?_, g2, g3⟩
      unfold X12_pairs
      rw [rc_215, h_ci (eM hM), c, h_if, if_neg (by decide), rc_215, h_cv e1, rc_215, h_cv f1, rc_215, h_ci (X12_wedMany_g hSn (thM_ch f2) f2.2.2.2.1.1 f2.2.2.2.1.2), rc_215, h_cv g1]; rfl
  · have c4 : p_can A w 0 60 = false := by simpa using c
    refine both_still hok (.int (-1)) (fun I L ρ hX => ?_) (fun I L ρ hM => ?_)
    · unfold X11_pairs
      rw [gr_0_9, gr_0_7, rc_53, h_ci (eX hX), c4, bF, h_if, if_pos rfl]; rfl
    · unfold X12_pairs
      rw [rc_215, h_ci (eM hM), c4, bF, h_if, if_pos rfl]; rfl
end B52
