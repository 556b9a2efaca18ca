/-! behind a round all is well again -/
section B23
variable {C : cT} {s : sT} {tr : Option Nat}
theorem p_new_hold {a b : Nat} (h : p_new C s tr a = some b) : p_hold C s a = some b ∧ p_let C s tr a b = false ∧ p_let C s tr b a = false ∧ k_kn C a b = false := by
  unfold p_new at h
  split at h
  · rename_i e he
    split at h
    · rename_i c
      cases h
      exact ⟨he, c⟩
    · cases h
  · cases h
theorem p_new_sym (hk : okC C) (hS : okS C s) {a b : Nat} (h : p_new C s tr a = some b) : p_new C s tr b = some a := by
  obtain ⟨h1, h2, h3, h4⟩ := p_new_hold h
  have h5 := p_hold_spec hk hS h1
  rw [p_new_some h5.2.2.2.2, if_pos ⟨h3, h2, by rw [← k_kn_sym hk h5.2.1.1 h5.2.1.2 h5.2.2.1]; exact h4⟩]
theorem p_wed_cases {a b : Nat} (h : p_wed C s tr a = some b) : p_new C s tr a = some b ∨ (p_new C s tr a = none ∧ s_wed s a = some b) := by
  unfold p_wed at h
  split at h
  · rename_i e he
    cases h
    exact Or.inl he
  · rename_i he
    exact Or.inr ⟨he, h⟩
/-- who is wed stays so -/
theorem p_wed_old (hk : okC C) (hS : okS C s) {a b : Nat} (h : s_wed s a = some b) : p_new C s tr a = none ∧ p_wed C s tr a = some b := by
  have h1 : p_new C s tr a = none := by
    cases e : p_new C s tr a with
    | none => rfl
    | some c =>
      have h2 := (p_hold_spec hk hS (p_new_hold e).1).2.2.2.1.1
      rw [h] at h2
      cases h2
  refine ⟨h1, ?_⟩
  unfold p_wed
  rw [h1]
  exact h
theorem p_wed_ok (hk : okC C) (hS : okS C s) {a b : Nat} (h : p_wed C s tr a = some b) : k_th C a ∧ k_th C b ∧ (a < 6 ↔ 6 ≤ b) ∧ p_wed C s tr b = some a ∧ k_kn C a b = false := by
  rcases p_wed_cases h with h1 | ⟨h1, h2⟩
  · obtain ⟨e1, e2, e3, e4⟩ := p_new_hold h1
    have h5 := p_hold_spec hk hS e1
    refine ⟨h5.1.1, h5.1.2, h5.2.2.1, ?_, e4⟩
    unfold p_wed
    rw [p_new_sym hk hS h1]
  · have h3 := hS.2.2.2.1 a b h2
    exact ⟨h3.1, h3.2.1, h3.2.2.1, (p_wed_old hk hS h3.2.2.2.1).2, h3.2.2.2.2⟩
theorem p_go_wed : s_wed (p_go C s tr) = p_wed C s tr := by
  unfold p_go p_time
  split <;> rfl
theorem p_go_ord : s_ord (p_go C s tr) = s_ord s := by
  unfold p_go p_time
  split <;> rfl
theorem p_go_siz : s_siz (p_go C s tr) = s_siz s := by
  unfold p_go p_time
  split <;> rfl
theorem p_go_lik : s_lik (p_go C s tr) = s_lik s := by
  unfold p_go p_time
  split <;> rfl
theorem p_go_kno : s_kno (p_go C s tr) = p_kno C s := by
  unfold p_go p_time
  split <;> rfl
theorem p_go_sp : s_sp (p_go C s tr) ≤ s_sp s + 1 := by
  unfold p_go p_time
  split
  · exact Nat.le_succ _
  · exact Nat.le_refl _
/-- rounds that have been, counted through -/
def s_cnt (C : cT) (s : sT) : Nat := s_sp s * k_rt C + s_rd s
theorem p_go_cnt (hS : okS C s) : s_cnt C (p_go C s tr) = s_cnt C s + 1 := by
  have h1 := hS.1.2
  have e1 : s_rd (s.1, s_ord s, p_wed C s tr, s_wai s, s_siz s, s_lik s, p_kno C s) = s_rd s := rfl
  have e2 : s_sp (s.1, s_ord s, p_wed C s tr, s_wai s, s_siz s, s_lik s, p_kno C s) = s_sp s := rfl
  unfold s_cnt p_go p_time
  rw [e1, e2]
  split
  · show s_sp s * k_rt C + (s_rd s + 1) = _
    omega
  · show (s_sp s + 1) * k_rt C + 0 = _
    rw [Nat.add_mul]
    omega
theorem p_go_rd (hk : okC C) : s_rd (p_go C s tr) < k_rt C := by
  have := hk.2.1
  unfold p_go p_time
  split
  · rename_i h; exact h
  · show 0 < k_rt C; omega
theorem p_go_ok (hk : okC C) (hS : okS C s) (hsp : s_sp s < 2000) : okS C (p_go C s tr) := by
  refine ⟨⟨by have := p_go_sp (C := C) (s := s) (tr := tr); omega, p_go_rd hk⟩, ?_, ?_, ?_, ?_, ?_⟩
  · rw [p_go_ord]; exact hS.2.1
  · rw [p_go_ord]; exact hS.2.2.1
  · rw [p_go_wed]; exact fun a b h => p_wed_ok hk hS h
  · intro a ha
    rw [p_go_siz]
    refine ⟨?_, (hS.2.2.2.2.1 a ha).2⟩
    have h9 := (hS.2.2.2.2.1 a ha).1
    unfold p_go p_time
    split
    · exact h9
    · show (if k_th C a ∧ _ = none then (if 99 < s_wai s a + 1 then 99 else s_wai s a + 1) else s_wai s a) ≤ 99
      split
      · split <;> omega
      · exact h9
  · intro j hj
    rw [p_go_lik, p_go_kno]
    exact ⟨(hS.2.2.2.2.2 j hj).1, p_kno_le (okS_bn hk hS) hj⟩
/-! many rounds -/
def p_gos (C : cT) : Nat → sT → sT
  | 0, s => s
  | n + 1, s => p_gos C n (p_go C s none)
theorem p_gos_ok (hk : okC C) : ∀ (n : Nat) {s : sT}, okS C s → s_sp s + n ≤ 2000 → okS C (p_gos C n s) ∧ s_sp (p_gos C n s) ≤ s_sp s + n := by
  intro n
  induction n with
  | zero => intro s hS h; exact ⟨hS, Nat.le_refl _⟩
  | succ n ih =>
    intro s hS h
    have h1 := p_go_sp (C := C) (s := s) (tr := none)
    have h2 := ih (p_go_ok (tr := none) hk hS (by omega)) (by omega)
    exact ⟨h2.1, by have := h2.2; show s_sp (p_gos C n (p_go C s none)) ≤ _; omega⟩
theorem p_gos_succ : ∀ (n : Nat) (s : sT), p_gos C (n + 1) s = p_go C (p_gos C n s) none := by
  intro n
  induction n with
  | zero => intro s; rfl
  | succ n ih =>
    intro s
    show p_gos C (n + 1) (p_go C s none) = p_go C (p_gos C n (p_go C s none)) none
    exact ih _
end B23
