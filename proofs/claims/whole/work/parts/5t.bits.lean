/-! sets of twelve, in bits -/
section B5t
theorem m_set_lor : ∀ k, k < 12 → ∀ S, S < 4096 → m_set S k = S ||| 2 ^ k := by
  have h : ∀ k, k < 12 → ((List.range 4096).all fun S => decide (m_set S k = S ||| 2 ^ k)) = true := by decide +kernel
  intro k hk S hS
  have := List.all_eq_true.mp (h k hk) S (List.mem_range.mpr hS)
  exact of_decide_eq_true this
theorem m_set_or12 : ∀ k, k < 12 → ∀ S, S < 4096 → nI S ||| ((1 : Int32) <<< (nI k &&& 31)) = nI (m_set S k) := by
  have h : ∀ k, k < 12 → ((List.range 4096).all fun S => decide (nI S ||| ((1 : Int32) <<< (nI k &&& 31)) = nI (m_set S k))) = true := by decide +kernel
  intro k hk S hS
  have := List.all_eq_true.mp (h k hk) S (List.mem_range.mpr hS)
  exact of_decide_eq_true this
def b_p12 (S : Nat) : Nat := b_pt S + b_k S 10 + b_k S 11
theorem b_p12_set : ∀ k, k < 12 → ∀ S, S < 4096 → b_k S k = 0 → b_p12 (m_set S k) = b_p12 S + 1 := by
  have h : ∀ k, k < 12 → ((List.range 4096).all fun S => decide (b_k S k = 0 → b_p12 (m_set S k) = b_p12 S + 1)) = true := by decide +kernel
  intro k hk S hS
  have := List.all_eq_true.mp (h k hk) S (List.mem_range.mpr hS)
  exact of_decide_eq_true this
theorem b_full : ∀ P, P < 13 → ∀ S, S < 2 ^ P → (S = 2 ^ P - 1 ↔ b_p12 S = P) := by
  have h : ∀ P, P < 13 → ((List.range (2 ^ P)).all fun S => decide (S = 2 ^ P - 1 ↔ b_p12 S = P)) = true := by decide +kernel
  intro P hP S hS
  have := List.all_eq_true.mp (h P hP) S (List.mem_range.mpr hS)
  exact of_decide_eq_true this
end B5t
