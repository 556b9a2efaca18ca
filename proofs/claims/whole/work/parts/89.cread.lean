/-! the class reads a church -/
section B89
variable {I I0 : Nat → Nat → Int32} {L L0 : Nat → Nat → Int64} {ρ : zRh} {h : zH} {b : Nat → Nat} {n a x j k ch side here u w : Nat} {r : rP} {S : nT}
theorem rhE_0 : rhE ρ ρ := ⟨rfl, rfl, rfl⟩
theorem rhE_tr {ρ1 ρ2 : zRh} (h1 : rhE ρ ρ1) (h2 : rhE ρ1 ρ2) : rhE ρ ρ2 := ⟨h2.1.trans h1.1, h2.2.1.trans h1.2.1, h2.2.2.trans h1.2.2⟩
theorem of_cd {q : Nat × nT} {a0 : Nat} (h6 : ¬ (6 ≤ k ∧ k < 9)) (h : s_of b n S k here a0 = .inr q) : n_cd q.2 = n_cd S := by
  unfold s_of at h
  by_cases c1 : k < 2
  · rw [if_pos c1] at h
    unfold s_one at h
    split at h
    · cases h
    · obtain ⟨a1, h1, h2⟩ := bd_in h
      cases h2; rfl
  rw [if_neg c1] at h
  by_cases c2 : k = 2
  · rw [if_pos c2] at h
    obtain ⟨a1, h1, h2⟩ := bd_in h
    obtain ⟨a2, h3, h4⟩ := bd_in h2
    have h4 : (if n_kin S (6 * v_ask b n S a0 + v_ask b n S a1 % 6) = true then Sum.inl (3, a1) else Sum.inr (a2, n_kn S (v_ask b n S a0) (v_ask b n S a1)) : nR) = Sum.inr q := h4
    split at h4
    · cases h4
    · cases h4; rfl
  rw [if_neg c2] at h
  by_cases c3 : k < 5
  · rw [if_pos c3] at h
    obtain ⟨a1, h1, h2⟩ := bd_in h
    obtain ⟨a2, h3, h4⟩ := bd_in h2
    obtain ⟨a3, h5, h6⟩ := bd_in h4
    cases h6; rfl
  rw [if_neg c3] at h
  by_cases c4 : k = 5
  · rw [if_pos c4] at h
    obtain ⟨a1, h1, h2⟩ := bd_in h
    cases h2; rfl
  rw [if_neg c4] at h
  by_cases c5 : k < 9
  · omega
  · rw [if_neg c5] at h
    obtain ⟨a1, h1, h2⟩ := bd_in h
    cases h2; rfl
theorem X2_statement_h (hc : chk ch) (hT : tX I b n (.inr a)) (hok : okN S) (hK : kX ch I S) (hC : kC ch I S u) (hu : u ≤ a) (hkc : n_kc S < 1000) : ∃ I' ρ', X2_statement 11 ch (hp I L ρ) = some (none, hp I' L ρ') ∧ rhE ρ ρ' ∧ sF ch I I' ∧ stC ch I' b n (s_st b n S a) := by
  have hn := hT.1.2.1
  have ha := (tX_le hT).1
  obtain ⟨I1, y, b1, b2, b3, b4, b5⟩ := tX_begin (L := L) (ρ := ρ) hT
  obtain ⟨b4, b6⟩ := b4 _ rfl
  subst b4
  obtain ⟨I2, c1, c2, c3, c4⟩ := tX_in (L := L) (ρ := ρ) (k := 1) (by omega) b2
  have hF := fX_tr b3 c3
  have hK2 := kX_fX hc hF hK
  have hC2 := kC_fX hc hF hC
  unfold X2_statement
  rw [gr_11_0, rc_2, h_ci b1, gr_11_0, rc_2, h_ci c1, h_if]
  rcases e : t_in b n y (wsK 1) 0 with _ | k
  · obtain ⟨I3, d1, d2, d3⟩ := tX_fail (L := L) (ρ := ρ) (k := 1) (p := y) (by omega) c2
    have e0 : s_st b n S y = .inl (1, y) := by unfold s_st; rw [e]
    rw [e0, if_pos (Or.inl (by decide)), gr_11_0, rc_2, show (1 : Int32) = nI 1 from rfl, h_cv d1]
    exact ⟨I3, ρ, rfl, rhE_0, sF_fX (fX_tr hF d3), d2, kU_of hok (by omega) (kX_fX hc d3 hK2) (kC_fX hc d3 hC2)⟩
  · have e0 : s_st b n S y = s_of b n S k y (sk b n (y + wl b n y)) := by unfold s_st; rw [e]
    have hk : k < 10 := by
      have := (t_in_lt e).1.2
      have : (wsK 1).length = 10 := by decide
      omega
    rw [oI_some, nI_toI (by omega), if_neg (by omega), show ((k : Int) - 0).toNat = k by omega, e0]
    have hS : ∀ q, s_of b n S k y (sk b n (y + wl b n y)) = .inr q → y ≤ q.1 := fun q hq => (st_ok hok ha (e0.trans hq)).2.1
    have fin : ¬ (6 ≤ k ∧ k < 9) → ∀ g : zM, (∃ I', g (hp I2 L ρ) = some (none, hp I' L ρ) ∧ sF ch I2 I' ∧ cdr ch I2 I' ∧ stR ch I' b n (s_of b n S k y (sk b n (y + wl b n y)))) → ∃ I' ρ', g (hp I2 L ρ) = some (none, hp I' L ρ') ∧ rhE ρ ρ' ∧ sF ch I I' ∧ stC ch I' b n (s_of b n S k y (sk b n (y + wl b n y))) := by
      intro h6 g ⟨I', g1, g2, g3, g4⟩
      exact ⟨I', ρ, g1, rhE_0, sF_tr (sF_fX hF) g2, stC_of g3 hC2 hu (by omega) (fun q hq => ⟨hS q hq, of_cd h6 hq⟩) g4⟩
    have one : ∀ k', k' < 2 → k = k' → ∃ I' ρ', X2_statement_J72 11 ch (nI y) (nI k') (hp I2 L ρ) = some (none, hp I' L ρ') ∧ rhE ρ ρ' ∧ sF ch I I' ∧ stC ch I' b n (s_of b n S k y (sk b n (y + wl b n y))) := by
      intro k' h1 h2
      refine fin (by omega) _ ?_
      obtain ⟨I', g1, g2, g3, g4⟩ := X2_someone_h (L := L) (ρ := ρ) (here := y) hc c2 c4 hok hK2 h1
      refine ⟨I', ?_, g2, g3, ?_⟩
      · unfold X2_statement_J72
        rw [rc_11, h_cv g1]; rfl
      · unfold s_of
        rw [if_pos (by omega), h2]; exact g4
    have frm : ∀ w, w < 3 → k = 6 + w → ∃ I' ρ', X2_statement_J138 11 ch (nI y) (nI k) (hp I2 L ρ) = some (none, hp I' L ρ') ∧ rhE ρ ρ' ∧ sF ch I I' ∧ stC ch I' b n (s_of b n S k y (sk b n (y + wl b n y))) := by
      intro w h1 h2
      obtain ⟨I', ρ', g1, g2, g3, g4⟩ := X2_formula_h (L := L) (ρ := ρ) (here := y) hc h1 c2 c4 hok hK2 hC2 hu
      refine ⟨I', ρ', ?_, g2, sF_tr (sF_fX hF) g3, ?_⟩
      · unfold X2_statement_J138
        rw [rc_11, show (nI k : Int32) - 6 = nI w by rw [show (6 : Int32) = nI 6 from rfl, pk_sub (by omega), h2, Nat.add_sub_cancel_left], h_cv g1]; rfl
      · unfold s_of
        rw [if_neg (by omega), if_neg (by omega), if_neg (by omega), if_neg (by omega), if_pos (by omega), show k - 6 = w by omega]
        exact g4
    rcases (show k = 0 ∨ k = 1 ∨ k = 2 ∨ k = 3 ∨ k = 4 ∨ k = 5 ∨ k = 6 ∨ k = 7 ∨ k = 8 ∨ k = 9 by omega) with rfl | rfl | rfl | rfl | rfl | rfl | rfl | rfl | rfl | rfl
    · exact one 0 (by omega) rfl
    · exact one 1 (by omega) rfl
    · refine fin (by omega) _ ?_
      obtain ⟨I', g1, g2, g3, g4⟩ := X2_kinship_h (L := L) (ρ := ρ) hc c2 c4 hok hK2 hkc
      refine ⟨I', ?_, g2, g3, g4⟩
      show (z_rc 2 11 (z_cv (X2_kinship 11 ch) (z_ret none))) _ = _
      rw [rc_11, h_cv g1]; rfl
    · refine fin (by omega) _ ?_
      obtain ⟨I', g1, g2, g3, g4⟩ := bear_h (L := L) (ρ := ρ) (k := 0) hc (by omega) c2 c4 hok hK2
      refine ⟨I', ?_, g2, g3, g4⟩
      show (z_gr 1 7 ch fun x6 => z_rc 2 11 (z_cv (X2_bearing 11 ch x6) (z_ret none))) _ = _
      rw [ck_g7 hc, rc_11, h_cv g1]; rfl
    · refine fin (by omega) _ ?_
      obtain ⟨I', g1, g2, g3, g4⟩ := bear_h (L := L) (ρ := ρ) (k := 1) hc (by omega) c2 c4 hok hK2
      refine ⟨I', ?_, g2, g3, g4⟩
      show (z_gr 1 8 ch fun x6 => z_rc 2 11 (z_cv (X2_bearing 11 ch x6) (z_ret none))) _ = _
      rw [ck_g8 hc, rc_11, h_cv g1]; rfl
    · refine fin (by omega) _ ?_
      obtain ⟨I', g1, g2, g3, g4⟩ := rts_h (L := L) (ρ := ρ) hc c2 c4 hok hK2
      exact ⟨I', g1, g2, g3, g4⟩
    · exact frm 0 (by omega) rfl
    · exact frm 1 (by omega) rfl
    · exact frm 2 (by omega) rfl
    · refine fin (by omega) _ ?_
      obtain ⟨I', g1, g2, g3, g4⟩ := sls_h (L := L) (ρ := ρ) hc c2 c4 hok hK2
      exact ⟨I', g1, g2, g3, g4⟩
/-- where a church's text ends -/
def lpC (ch : Nat) (I : Nat → Nat → Int32) (b : Nat → Nat) (n : Nat) (v : Int32) (R : Sum (Nat × Nat) (Nat × nT)) : Prop := match R with
  | .inl e => tX I b n (.inl e) ∧ kU ch I
  | .inr q => I 2 3 = 0 ∧ I 2 4 = -1 ∧ v = nI q.1 ∧ q.1 ≤ 60 ∧ okN q.2 ∧ n_kc q.2 ≤ 60 ∧ kX ch I q.2 ∧ ∃ u, kC ch I q.2 u ∧ u ≤ 1600
end B89
