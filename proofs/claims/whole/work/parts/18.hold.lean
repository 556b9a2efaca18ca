/-! who holds whom: one another; what a round leaves as it was -/
section B18
variable {C : cT} {s : sT}
def injL (l : List Nat) : Prop := ∀ i j, i < l.length → j < l.length → l.getD i 0 = l.getD j 0 → i = j
theorem getD_mem {l : List Nat} {i : Nat} (h : i < l.length) : l.getD i 0 ∈ l := by
  rw [List.getD_eq_getElem?_getD, List.getElem?_eq_getElem h, Option.getD_some]
  exact List.getElem_mem h
theorem getD_of_mem {l : List Nat} {x : Nat} (h : x ∈ l) : ∃ i, i < l.length ∧ l.getD i 0 = x := by
  obtain ⟨i, hi, e⟩ := List.getElem_of_mem h
  exact ⟨i, hi, by rw [List.getD_eq_getElem?_getD, List.getElem?_eq_getElem hi, Option.getD_some, e]⟩
theorem getD_snoc (l : List Nat) (x : Nat) : (l ++ [x]).getD l.length 0 = x := by simp
theorem injL_snoc {l : List Nat} {x : Nat} (h : injL l) (hx : x ∉ l) : injL (l ++ [x]) := by
  intro i j hi hj e
  rw [List.length_append, List.length_singleton] at hi hj
  by_cases c1 : i < l.length <;> by_cases c2 : j < l.length
  · rw [getD_app c1, getD_app c2] at e
    exact h i j c1 c2 e
  · have : j = l.length := by omega
    subst this
    rw [getD_app c1, getD_snoc] at e
    exact absurd (e ▸ getD_mem c1) hx
  · have : i = l.length := by omega
    subst this
    rw [getD_app c2, getD_snoc] at e
    exact absurd (e ▸ getD_mem c2) hx
  · omega
theorem p_fr_inj (hS : okS C s) {side : Nat} (hs : side < 2) : ∀ k, k ≤ k_n C side → injL (p_fr s side k) := by
  intro k
  induction k with
  | zero => intro _ i j hi; simp [p_fr] at hi
  | succ k ih =>
    intro hk
    unfold p_fr
    split
    · refine injL_snoc (ih (by omega)) fun hm => ?_
      obtain ⟨i, h1, h2, -⟩ := p_fr_mem hm
      have := hS.2.2.1 _ _ (k_th_of (C := C) hs (show k < k_n C side by omega)) (k_th_of (C := C) hs (show i < k_n C side by omega)) h2
      omega
    · exact ih (by omega)
theorem mod_inj {i j r p : Nat} (hi : i < p) (hj : j < p) (h : (i + r) % p = (j + r) % p) : i = j := by
  have h1 := Nat.sub_mod_eq_zero_of_mod_eq h
  have h2 := Nat.sub_mod_eq_zero_of_mod_eq h.symm
  rw [Nat.mod_eq_of_lt (by omega)] at h1 h2
  omega
theorem p_hs_inv {FL FR : List Nat} {rd pl : Nat} : ∀ {k a b : Nat}, p_hs FL FR rd pl k a = some b → ∃ i, i < k ∧ (i + rd) % pl < FR.length ∧ ((a = FR.getD ((i + rd) % pl) 0 ∧ b = FL.getD i 0) ∨ (a = FL.getD i 0 ∧ b = FR.getD ((i + rd) % pl) 0)) := by
  intro k
  induction k with
  | zero => intro a b h; cases h
  | succ k ih =>
    intro a b h
    unfold p_hs at h
    split at h
    · rename_i q
      split at h
      · rename_i q2
        cases h
        exact ⟨k, by omega, q, Or.inl ⟨q2, rfl⟩⟩
      · split at h
        · rename_i q3
          cases h
          exact ⟨k, by omega, q, Or.inr ⟨q3, rfl⟩⟩
        · obtain ⟨i, h1, h2⟩ := ih h
          exact ⟨i, by omega, h2⟩
    · obtain ⟨i, h1, h2⟩ := ih h
      exact ⟨i, by omega, h2⟩
theorem p_hs_of {FL FR : List Nat} {rd pl : Nat} (hL : injL FL) (hR : injL FR) (hd : ∀ x y, x ∈ FL → y ∈ FR → x ≠ y) : ∀ {k i : Nat}, k ≤ FL.length → k ≤ pl → i < k → (i + rd) % pl < FR.length → p_hs FL FR rd pl k (FL.getD i 0) = some (FR.getD ((i + rd) % pl) 0) ∧ p_hs FL FR rd pl k (FR.getD ((i + rd) % pl) 0) = some (FL.getD i 0) := by
  intro k
  induction k with
  | zero => intro i h0 h2 h1; omega
  | succ k ih =>
    intro i h0 h2 h1 hi
    have d := hd (FL.getD i 0) (FR.getD ((i + rd) % pl) 0) (getD_mem (by omega)) (getD_mem hi)
    by_cases c : i = k
    · subst c
      constructor
      · rw [p_hs, if_pos hi, if_neg d, if_pos rfl]
      · rw [p_hs, if_pos hi, if_pos rfl]
    · have hk := ih (i := i) (by omega) (by omega) (by omega) hi
      rw [p_hs, p_hs]
      by_cases q : (k + rd) % pl < FR.length
      · have d2 := hd (FL.getD i 0) (FR.getD ((k + rd) % pl) 0) (getD_mem (by omega)) (getD_mem q)
        have d3 := hd (FL.getD k 0) (FR.getD ((i + rd) % pl) 0) (getD_mem (by omega)) (getD_mem hi)
        rw [if_pos q, if_pos q, if_neg d2, if_neg (fun e => c (hL _ _ (by omega) (by omega) e)), if_neg (fun e => c (mod_inj (by omega) (by omega) (hR _ _ hi q e))), if_neg (fun e => d3 e.symm)]
        exact hk
      · rw [if_neg q, if_neg q]
        exact hk
theorem p_free_inj (hS : okS C s) {side : Nat} (hs : side < 2) : injL (p_free C s side) := p_fr_inj hS hs _ (Nat.le_refl _)
theorem p_free_dis (hk : okC C) (hS : okS C s) : ∀ x y, x ∈ p_free C s 0 → y ∈ p_free C s 1 → x ≠ y := by
  intro x y hx hy e
  subst e
  have h1 := (p_free_mem hk hS (by omega) hx).2.1
  have h2 := (p_free_mem hk hS (by omega) hy).2.1
  omega
/-- they hold one another's, one of the left, one of the right, who are free -/
theorem p_hold_spec (hk : okC C) (hS : okS C s) {a b : Nat} (h : p_hold C s a = some b) : (k_th C a ∧ k_th C b) ∧ (a < 12 ∧ b < 12) ∧ (a < 6 ↔ 6 ≤ b) ∧ (s_wed s a = none ∧ s_wed s b = none) ∧ p_hold C s b = some a := by
  unfold p_hold at h
  obtain ⟨i, h1, h2, h3⟩ := p_hs_inv h
  have hp : (p_free C s 0).length ≤ (if (p_free C s 0).length < (p_free C s 1).length then (p_free C s 1).length else (p_free C s 0).length) := by split <;> omega
  have h4 := p_hs_of (rd := s_rd s) (p_free_inj (C := C) hS (side := 0) (by omega)) (p_free_inj (C := C) hS (side := 1) (by omega)) (p_free_dis hk hS) (Nat.le_refl _) hp h1 h2
  have m0 := p_free_at hk hS (side := 0) (by omega) h1
  have m1 := p_free_at hk hS (side := 1) (by omega) h2
  rcases h3 with ⟨e1, e2⟩ | ⟨e1, e2⟩
  · rw [← e1] at m1 h4
    rw [← e2] at m0 h4
    exact ⟨⟨m1.1.1, m0.1.1⟩, ⟨m1.1.2, m0.1.2⟩, by omega, ⟨m1.2.2, m0.2.2⟩, h4.1⟩
  · rw [← e1] at m0 h4
    rw [← e2] at m1 h4
    exact ⟨⟨m0.1.1, m1.1.1⟩, ⟨m0.1.2, m1.1.2⟩, by omega, ⟨m0.2.2, m1.2.2⟩, h4.2⟩
/-- bounds alone -/
def bnS (s : sT) : Prop := (s_sp s ≤ 2000 ∧ s_rd s ≤ 12) ∧ (∀ a, a < 12 → s_wai s a ≤ 99 ∧ s_siz s a ≤ 9) ∧ ∀ j, j < 72 → s_lik s j ≤ 9 ∧ s_kno s j ≤ 9
theorem okS_bn (hk : okC C) (hS : okS C s) : bnS s := ⟨⟨hS.1.1, by have := hS.1.2; have := hk.2.1; omega⟩, hS.2.2.2.2.1, hS.2.2.2.2.2⟩
theorem p_fx_in (hk : okC C) (hB : bnS s) {a b : Nat} (ha : a < 12) (hb : b < 12) (k : Nat) : -1000000 ≤ p_fx C s a b k ∧ p_fx C s a b k ≤ 1000000 := by
  have h1 := hB.2.2 (6 * a + b % 6) (by omega)
  have h2 := hB.2.1 a ha
  have h3 := hB.2.1 b hb
  have h4 := hB.1
  have h5 := hk.2.2.2.1 b hb
  unfold p_fx
  repeat' split
  all_goals omega
theorem p_feel_in (a b : Nat) : 0 ≤ p_feel C s a b ∧ p_feel C s a b ≤ 99 := p_lim_in _ (by omega)
theorem p_fy_in (hk : okC C) (hB : bnS s) {a b : Nat} (ha : a < 12) (hb : b < 12) (k : Nat) : -1000000 ≤ p_fy C s a b k ∧ p_fy C s a b k ≤ 1000000 := by
  unfold p_fy
  split
  · have := p_feel_in (C := C) (s := s) a b
    omega
  · exact p_fx_in hk hB ha hb k
theorem p_learn_le (a b : Nat) : p_learn C s a b ≤ 9 := by
  unfold p_learn
  have := p_lim_in (e_val (p_fy C s a b) (k_code C 2)) (m := 9) (by omega)
  omega
theorem p_learn_ci (a b : Nat) : nI (p_learn C s a b) = ci (p_lim (e_val (p_fy C s a b) (k_code C 2)) 9) := by
  rw [ci_nat]
  unfold p_learn
  have := p_lim_in (e_val (p_fy C s a b) (k_code C 2)) (m := 9) (by omega)
  congr 1
  omega
theorem p_fx9 (a b : Nat) {k : Nat} (h : 9 ≤ k) : p_fx C s a b k = 0 := by
  unfold p_fx
  repeat' split
  all_goals omega
theorem p_fy9 (a b : Nat) {k : Nat} (h : 9 ≤ k) : p_fy C s a b k = 0 := by
  unfold p_fy
  rw [if_neg (by omega), p_fx9 a b h]
/-- how a hand feels depends on little of the state -/
theorem p_fx_eq {s' : sT} {a b : Nat} (h1 : s_sp s' = s_sp s) (h2 : s_rd s' = s_rd s) (h3 : s_kno s' (6 * a + b % 6) = s_kno s (6 * a + b % 6)) (h4 : s_lik s' = s_lik s) (h5 : s_siz s' = s_siz s) (h6 : s_wai s' = s_wai s) : p_fx C s' a b = p_fx C s a b := by
  funext k
  unfold p_fx
  rw [h1, h2, h3, h4, h5, h6]
theorem p_fy_eq {s' : sT} {a b : Nat} (h : p_fx C s' a b = p_fx C s a b) : p_fy C s' a b = p_fy C s a b := by
  funext k
  unfold p_fy p_feel
  rw [h]
theorem e_val_in {F : Nat → Int} (hF : ∀ k, -1000000 ≤ F k ∧ F k ≤ 1000000) {l : List Nat} {b : Bool} (h : w_ok l b) : -1000000 ≤ e_val F l ∧ e_val F l ≤ 1000000 := by
  obtain ⟨a, h2, h3⟩ := h
  have hr := w_rel_run hF (st := []) h2 trivial
  unfold e_val
  cases hs : e_run F l [] with
  | nil => rw [hs] at hr; exact hr.elim
  | cons v t => rw [hs] at hr; exact hr.1.2
end B18
