/-! likings: who would rather -/
section B5h
variable {I I0 : Nat → Nat → Int32} {L L0 : Nat → Nat → Int64} {ρ : zRh} {h : zH} {A : aT} {N : Nat} {C : cT} {s : sT}
/-- a would rather have b than whom a is wed to -/
def p_pre (s : sT) (a b : Nat) : Bool := match s_wed s a with | none => true | some x => decide (s_lik s (6 * a + x % 6) < s_lik s (6 * a + b % 6))
theorem X5_pre_h (hok : okA A) (hX : RelX I L ρ A N) {a b : Nat} (ha : a < 12) (hb : b < 12) : X5_prefers 41 (nI a) (nI b) (hp I L ρ) = some (some (.int (bI (p_pre (a_s A) a b))), hp I L ρ) := by
  have hS := hok.2.2.1.1
  have hl := hS.2.2.2.2.2
  unfold X5_prefers X5_prefers_J35 p_pre
  rw [gr_41_3, la_43 ha, hX.2.2.1.2.2.1 a ha, h_if]
  rcases q : s_wed (a_s A) a with _ | x
  · rw [oI_none, if_pos rfl, h_rb1]; rfl
  · have hx := k_th_lt hok.1 (hS.2.2.2.1 a x q).2.1
    have l1 := (hl (6 * a + b % 6) (by omega)).1
    have l2 := (hl (6 * a + x % 6) (by omega)).1
    rw [oI_some, if_neg (nI_nm1 (by omega)), gr_41_6, h_ci (X11_cell_h (by omega) (by omega)), la_46 (by omega), hX.2.2.1.2.2.2.2.2.1 _ (by omega), gr_41_6, h_ci (X11_cell_h (by omega) (by omega)), la_46 (by omega), hX.2.2.1.2.2.2.2.2.1 _ (by omega), h_if]
    simp only [nI_le' (show s_lik (a_s A) (6 * a + b % 6) < 2147483648 by omega) (show s_lik (a_s A) (6 * a + x % 6) < 2147483648 by omega)]
    by_cases c : s_lik (a_s A) (6 * a + b % 6) ≤ s_lik (a_s A) (6 * a + x % 6)
    · rw [if_pos c, h_rb0, decide_eq_false (by omega)]; rfl
    · rw [if_neg c, h_rb1, decide_eq_true (by omega)]; rfl
theorem X12_pre_h (hok : okA A) (hM : RelM I L A) {a b : Nat} (ha : k_th (a_C A) a) (hb : b < 12) : X12_isBetter 215 (nI a) (nI b) (hp I L ρ) = some (some (.int (bI (p_pre (a_s A) a b))), hp I L ρ) := by
  have hS := hok.2.2.1.1
  have hl := hS.2.2.2.2.2
  have ha12 := k_th_lt hok.1 ha
  obtain ⟨r1, r2, r3⟩ := hM.2.2.2.1.1.1.2.2 a ha
  have hw : I 255 (14 + a) = oI (s_wed (a_s A) a) := r1
  unfold X12_isBetter X12_isBetter_J46 p_pre
  rw [gr_215_52, show (14 : Int32) = nI 14 from rfl, nI_add, la_255 (by omega), hw, h_if]
  rcases q : s_wed (a_s A) a with _ | x
  · rw [oI_none, if_pos rfl, h_rb1]; rfl
  · have hx := k_th_lt hok.1 (hS.2.2.2.1 a x q).2.1
    have l1 := (hl (6 * a + b % 6) (by omega)).1
    have l2 := (hl (6 * a + x % 6) (by omega)).1
    rw [q, oI_some] at hw
    rw [oI_some, if_neg (nI_nm1 (by omega)), gr_215_52, rc_215, h_ci (X12_likingAt_h (by omega) (by omega)), la_255 (by omega), (r3 (b % 6) (by omega)).1, gr_215_52, gr_215_52, la_255 (by omega), hw, rc_215, h_ci (X12_likingAt_h (by omega) (by omega)), la_255 (by omega), (r3 (x % 6) (by omega)).1, h_if]
    simp only [nI_le' (show s_lik (a_s A) (6 * a + b % 6) < 2147483648 by omega) (show s_lik (a_s A) (6 * a + x % 6) < 2147483648 by omega)]
    by_cases c : s_lik (a_s A) (6 * a + b % 6) ≤ s_lik (a_s A) (6 * a + x % 6)
    · rw [if_pos c, h_rb0, decide_eq_false (by omega)]; rfl
    · rw [if_neg c, h_rb1, decide_eq_true (by omega)]; rfl
end B5h
