/-! on: what an image must hold -/
section B5u
variable {I I0 : Nat → Nat → Int32} {L L0 : Nat → Nat → Int64} {ρ : zRh} {h : zH} {A : aT} {N : Nat} {C : cT} {s : sT} {t : Nat → Nat}
theorem b_k_bit (S k : Nat) : b_k S k = if S.testBit k = true then 1 else 0 := by
  unfold b_k
  rw [Nat.testBit_eq_decide_div_mod_eq]
  by_cases c : S / 2 ^ k % 2 = 1
  · rw [if_pos (by simp [c]), c]
  · rw [if_neg (by simp [c])]; omega
theorem b_k_set {S k : Nat} (hS : S < 4096) (hk : k < 12) (j : Nat) : b_k (m_set S k) j = if j = k then 1 else b_k S j := by
  rw [m_set_lor k hk S hS, b_k_bit, b_k_bit, Nat.testBit_or, Nat.testBit_two_pow]
  by_cases c : j = k
  · rw [if_pos c, if_pos (by simp [c])]
  · rw [if_neg c]
    have : decide (k = j) = false := decide_eq_false (fun e => c e.symm)
    rw [this, Bool.or_false]
theorem m_set_lt12 {P S k : Nat} (hP : P ≤ 12) (hk : k < P) (hS : S < 2 ^ P) : m_set S k < 2 ^ P := by
  have h1 : 2 ^ P ≤ 2 ^ 12 := Nat.pow_le_pow_right (by omega) hP
  rw [m_set_lor k (by omega) S (by omega)]
  exact Nat.or_lt_two_pow hS (Nat.pow_lt_pow_right (by omega) hk)
/-! the orders -/
def o_1 (C : cT) (t : Nat → Nat) (p : Nat) : Bool := decide (t (3 + p) < k_L C + k_R C ∧ (k_L C ≤ t (3 + p) ↔ k_L C ≤ p))
def oX (C : cT) (t : Nat → Nat) : Nat → Nat → Nat → Bool
  | 0, _, _ => true
  | m + 1, p, S => o_1 C t p && (decide (b_k S (k_cd C (t (3 + p))) = 0) && oX C t m (p + 1) (m_set S (k_cd C (t (3 + p)))))
def oN (C : cT) (t : Nat → Nat) : Nat → Nat → Nat → Bool
  | 0, _, _ => true
  | m + 1, p, S => o_1 C t p && (decide (b_k S (t (3 + p)) = 0) && oN C t m (p + 1) (m_set S (t (3 + p))))
def oM (C : cT) (t : Nat → Nat) : Nat → Nat → Nat → Bool
  | 0, _, S => decide (S = 2 ^ (k_L C + k_R C) - 1)
  | m + 1, p, S => o_1 C t p && oM C t m (p + 1) (m_set S (t (3 + p)))
theorem k_cd_inj (hk : okC C) {x y : Nat} (hx : x < k_L C + k_R C) (hy : y < k_L C + k_R C) (h : k_cd C x = k_cd C y) : x = y := by
  rw [← (k_cd_th hx hk).2.1, ← (k_cd_th hy hk).2.1, h]
theorem k_cd_12 (hk : okC C) {x : Nat} (hx : x < k_L C + k_R C) : k_cd C x < 12 := k_th_lt hk (k_cd_th hx hk).1
theorem p2_4096 {P : Nat} (h : P ≤ 12) : 2 ^ P ≤ 4096 := Nat.pow_le_pow_right (by omega) h
theorem m_set_4096 {S k : Nat} (hS : S < 4096) (hk : k < 12) : m_set S k < 4096 := m_set_lt12 (P := 12) (by omega) hk hS
theorem oX_oN (hk : okC C) : ∀ m p S S', S < 4096 → S' < 4096 → (∀ x, x < k_L C + k_R C → b_k S (k_cd C x) = b_k S' x) → oX C t m p S = oN C t m p S'
  | 0, _, _, _, _, _, _ => rfl
  | m + 1, p, S, S', h1, h2, h3 => by
    have h12 := hk.1
    show (o_1 C t p && (decide (b_k S (k_cd C (t (3 + p))) = 0) && oX C t m (p + 1) (m_set S (k_cd C (t (3 + p)))))) = (o_1 C t p && (decide (b_k S' (t (3 + p)) = 0) && oN C t m (p + 1) (m_set S' (t (3 + p)))))
    by_cases c : t (3 + p) < k_L C + k_R C
    · rw [h3 _ c, oX_oN hk m (p + 1) (m_set S (k_cd C (t (3 + p)))) (m_set S' (t (3 + p))) (m_set_4096 h1 (k_cd_12 hk c)) (m_set_4096 h2 (by omega)) (fun x hx => by
        rw [b_k_set h1 (k_cd_12 hk c), b_k_set h2 (by omega)]
        by_cases d : x = t (3 + p)
        · rw [if_pos (by rw [d]), if_pos d]
        · rw [if_neg (fun e => d (k_cd_inj hk hx c e)), if_neg d, h3 x hx])]
    · have : o_1 C t p = false := decide_eq_false (fun e => c e.1)
      rw [this]; rfl
theorem oM_oN (hk : okC C) : ∀ m p S, p + m = k_L C + k_R C → S < 2 ^ (k_L C + k_R C) → b_p12 S ≤ p → oM C t m p S = (decide (b_p12 S = p) && oN C t m p S)
  | 0, p, S, h1, h2, h3 => by
    have h12 := hk.1
    show decide (S = 2 ^ (k_L C + k_R C) - 1) = (decide (b_p12 S = p) && true)
    have := b_full (k_L C + k_R C) (by omega) S h2
    rw [Bool.and_true, show p = k_L C + k_R C by omega]
    exact decide_eq_decide.mpr this
  | m + 1, p, S, h1, h2, h3 => by
    have h12 := hk.1
    have hS : S < 4096 := Nat.lt_of_lt_of_le h2 (p2_4096 (by omega))
    show (o_1 C t p && oM C t m (p + 1) (m_set S (t (3 + p)))) = (decide (b_p12 S = p) && (o_1 C t p && (decide (b_k S (t (3 + p)) = 0) && oN C t m (p + 1) (m_set S (t (3 + p))))))
    by_cases c : t (3 + p) < k_L C + k_R C
    · by_cases d : b_k S (t (3 + p)) = 0
      · have e := b_p12_set (t (3 + p)) (by omega) S hS d
        rw [oM_oN hk m (p + 1) _ (by omega) (m_set_lt12 (by omega) c h2) (by omega), e, decide_eq_true d, Bool.true_and]
        have : decide (b_p12 S + 1 = p + 1) = decide (b_p12 S = p) := decide_eq_decide.mpr (by omega)
        rw [this]
        cases o_1 C t p <;> cases decide (b_p12 S = p) <;> rfl
      · have hm : m_set S (t (3 + p)) = S := by
          unfold m_set
          have : b_k S (t (3 + p)) < 2 := Nat.mod_lt _ (by omega)
          rw [if_pos (by omega)]
        rw [hm, oM_oN hk m (p + 1) S (by omega) h2 (by omega), decide_eq_false d, decide_eq_false (show ¬ b_p12 S = p + 1 by omega)]
        cases o_1 C t p <;> cases decide (b_p12 S = p) <;> rfl
    · have : o_1 C t p = false := decide_eq_false (fun e => c e.1)
      rw [this]
      cases decide (b_p12 S = p) <;> rfl
theorem oX_oM (hk : okC C) : oX C t (k_L C + k_R C) 0 0 = oM C t (k_L C + k_R C) 0 0 := by
  have h0 : ∀ x, b_k 0 x = 0 := fun x => by unfold b_k; simp
  rw [oM_oN hk _ 0 0 (by omega) (Nat.two_pow_pos _) (by decide), oX_oN hk _ 0 0 0 (by omega) (by omega) (fun x _ => by rw [h0, h0])]
  rfl
theorem oN_ok : ∀ m p S, S < 4096 → k_L C + k_R C ≤ 12 → oN C t m p S = true → (∀ j, p ≤ j → j < p + m → o_1 C t j = true ∧ b_k S (t (3 + j)) = 0) ∧ ∀ i j, p ≤ i → i < j → j < p + m → t (3 + i) ≠ t (3 + j)
  | 0, p, S, _, _, _ => ⟨fun j _ _ => by omega, fun i j _ _ _ => by omega⟩
  | m + 1, p, S, hS, hP, h => by
    have h' : (o_1 C t p && (decide (b_k S (t (3 + p)) = 0) && oN C t m (p + 1) (m_set S (t (3 + p))))) = true := h
    rw [Bool.and_eq_true, Bool.and_eq_true, decide_eq_true_eq] at h'
    obtain ⟨h1, h2, h3⟩ := h'
    have hv : t (3 + p) < 12 := by
      have := (of_decide_eq_true h1).1
      omega
    obtain ⟨i1, i2⟩ := oN_ok m (p + 1) _ (m_set_4096 hS hv) hP h3
    have hj : ∀ j, p + 1 ≤ j → j < p + (m + 1) → o_1 C t j = true ∧ b_k S (t (3 + j)) = 0 ∧ t (3 + p) ≠ t (3 + j) := by
      intro j j1 j2
      obtain ⟨q1, q2⟩ := i1 j j1 (by omega)
      rw [b_k_set hS hv] at q2
      by_cases c : t (3 + j) = t (3 + p)
      · rw [if_pos c] at q2; omega
      · rw [if_neg c] at q2
        exact ⟨q1, q2, fun e => c e.symm⟩
    refine ⟨fun j j1 j2 => ?_, fun i j q1 q2 q3 => ?_⟩
    · by_cases c : j = p
      · rw [c]; exact ⟨h1, h2⟩
      · have := hj j (by omega) j2
        exact ⟨this.1, this.2.1⟩
    · by_cases c : i = p
      · rw [c]; exact (hj j (by omega) q3).2.2
      · exact i2 i j (by omega) q2 (by omega)
theorem oX_ok (hk : okC C) (h : oX C t (k_L C + k_R C) 0 0 = true) : (∀ j, j < k_L C + k_R C → o_1 C t j = true) ∧ ∀ i j, i < j → j < k_L C + k_R C → t (3 + i) ≠ t (3 + j) := by
  have h12 := hk.1
  have h0 : ∀ x, b_k 0 x = 0 := fun x => by unfold b_k; simp
  rw [oX_oN hk _ 0 0 0 (by omega) (by omega) (fun x _ => by rw [h0, h0])] at h
  obtain ⟨h1, h2⟩ := oN_ok _ 0 0 (by omega) (by omega) h
  exact ⟨fun j hj => (h1 j (Nat.zero_le _) (by omega)).1, fun i j q1 q2 => h2 i j (Nat.zero_le _) q1 (by omega)⟩
/-! what is told of each -/
def al (f : Nat → Bool) : Nat → Nat → Bool
  | 0, _ => true
  | m + 1, p => f p && al f m (p + 1)
theorem al_iff {f : Nat → Bool} : ∀ m p, al f m p = true ↔ ∀ j, p ≤ j → j < p + m → f j = true
  | 0, p => ⟨fun _ j _ _ => by omega, fun _ => rfl⟩
  | m + 1, p => by
    show (f p && al f m (p + 1)) = true ↔ _
    rw [Bool.and_eq_true, al_iff m (p + 1)]
    refine ⟨fun h j h1 h2 => ?_, fun h => ⟨h p (Nat.le_refl _) (by omega), fun j h1 h2 => h j (by omega) (by omega)⟩⟩
    by_cases c : j = p
    · rw [c]; exact h.1
    · exact h.2 j (by omega) (by omega)
def o_at (C : cT) (p : Nat) : Nat := 3 + (k_L C + k_R C) + im_at C p
def o_k (C : cT) (t : Nat → Nat) (p : Nat) : Bool := al (fun k => decide (t (o_at C p + 2 + 2 * k) ≤ 9) && decide (t (o_at C p + 3 + 2 * k) ≤ 9)) (k_ot C (k_cd C p)) 0
def o_kM (C : cT) (t : Nat → Nat) (p : Nat) : Bool := al (fun k => decide (t (o_at C p + k) ≤ 9)) (2 * k_ot C (k_cd C p)) 2
def o_wd (C : cT) (t : Nat → Nat) (p : Nat) : Option Nat := if t (o_at C p) = 255 then none else some (k_cd C (t (o_at C p)))
def o_2 (C : cT) (t : Nat → Nat) (p : Nat) : Bool := decide (t (o_at C p) = 255 ∨ (t (o_at C p) < k_L C + k_R C ∧ ¬ (k_L C ≤ t (o_at C p) ↔ k_L C ≤ p)))
def o_Xx (C : cT) (t : Nat → Nat) (p : Nat) : Bool := o_2 C t p && (decide (t (o_at C p + 1) ≤ 99) && o_k C t p)
def o_3 (C : cT) (t : Nat → Nat) (p : Nat) : Bool := decide (t (o_at C p) = 255 ∨ (t (o_at C p) < k_L C + k_R C ∧ ¬ (k_L C ≤ t (o_at C p) ↔ k_L C ≤ p)) ∧ t (o_at C (t (o_at C p))) = p ∧ k_kn C (k_cd C p) (k_cd C (t (o_at C p))) = false)
def o_Mm (C : cT) (t : Nat → Nat) (p : Nat) : Bool := o_3 C t p && (decide (t (o_at C p + 1) ≤ 99) && o_kM C t p)
/-- weddings hold, by slots -/
def o_v (C : cT) (t : Nat → Nat) (a : Nat) : Bool := decide (k_th C a → ∀ b, o_wd C t (k_num C a) = some b → o_wd C t (k_num C b) = some a ∧ k_kn C a b = false)
theorem o_k_M {p : Nat} : o_k C t p = o_kM C t p := by
  rw [Bool.eq_iff_iff]
  unfold o_k o_kM
  rw [al_iff, al_iff]
  refine ⟨fun h j h1 h2 => ?_, fun h j h1 h2 => ?_⟩
  · have h3 := h ((j - 2) / 2) (Nat.zero_le _) (by omega)
    rw [Bool.and_eq_true, decide_eq_true_eq, decide_eq_true_eq] at h3
    rw [decide_eq_true_eq]
    by_cases c : (j - 2) % 2 = 0
    · rw [show o_at C p + j = o_at C p + 2 + 2 * ((j - 2) / 2) by omega]; exact h3.1
    · rw [show o_at C p + j = o_at C p + 3 + 2 * ((j - 2) / 2) by omega]; exact h3.2
  · have h3 := h (2 + 2 * j) (by omega) (by omega)
    have h4 := h (3 + 2 * j) (by omega) (by omega)
    rw [decide_eq_true_eq] at h3 h4
    rw [Bool.and_eq_true, decide_eq_true_eq, decide_eq_true_eq, show o_at C p + 2 + 2 * j = o_at C p + (2 + 2 * j) by omega, show o_at C p + 3 + 2 * j = o_at C p + (3 + 2 * j) by omega]
    exact ⟨h3, h4⟩
theorem o_all (hk : okC C) : (al (o_Xx C t) (k_L C + k_R C) 0 && al (o_v C t) 12 0) = al (o_Mm C t) (k_L C + k_R C) 0 := by
  have h12 := hk.1
  rw [Bool.eq_iff_iff, Bool.and_eq_true, al_iff, al_iff, al_iff]
  refine ⟨fun ⟨h1, h2⟩ p _ hp2 => ?_, fun h => ⟨fun p _ hp2 => ?_, fun a _ ha => ?_⟩⟩
  · have hX := h1 p (Nat.zero_le _) hp2
    have hX' : (o_2 C t p && (decide (t (o_at C p + 1) ≤ 99) && o_k C t p)) = true := hX
    rw [Bool.and_eq_true] at hX'
    show (o_3 C t p && (decide (t (o_at C p + 1) ≤ 99) && o_kM C t p)) = true
    rw [Bool.and_eq_true, ← o_k_M]
    refine ⟨?_, hX'.2⟩
    have hp3 : p < k_L C + k_R C := by omega
    unfold o_3
    rw [decide_eq_true_eq]
    rcases of_decide_eq_true hX'.1 with c | c
    · exact Or.inl c
    · refine Or.inr ⟨c, ?_⟩
      obtain ⟨q1, q2, -⟩ := k_cd_th hp3 hk
      obtain ⟨r1, r2, -⟩ := k_cd_th c.1 hk
      have hv := of_decide_eq_true (h2 (k_cd C p) (Nat.zero_le _) (by have := k_th_lt hk q1; omega)) q1 (k_cd C (t (o_at C p))) (by
        rw [q2]
        unfold o_wd
        rw [if_neg (by omega)])
      rw [r2] at hv
      refine ⟨?_, hv.2⟩
      have h3 := hv.1
      unfold o_wd at h3
      by_cases d : t (o_at C (t (o_at C p))) = 255
      · rw [if_pos d] at h3; cases h3
      · rw [if_neg d] at h3
        have h4 : k_cd C (t (o_at C (t (o_at C p)))) = k_cd C p := by simpa using h3
        have hX2 : (o_2 C t (t (o_at C p)) && (decide (t (o_at C (t (o_at C p)) + 1) ≤ 99) && o_k C t (t (o_at C p)))) = true := h1 (t (o_at C p)) (Nat.zero_le _) (by omega)
        rw [Bool.and_eq_true] at hX2
        rcases of_decide_eq_true hX2.1 with e | e
        · exact absurd e d
        · exact k_cd_inj hk e.1 hp3 h4
  · have hM : (o_3 C t p && (decide (t (o_at C p + 1) ≤ 99) && o_kM C t p)) = true := h p (Nat.zero_le _) hp2
    rw [Bool.and_eq_true, ← o_k_M] at hM
    show (o_2 C t p && (decide (t (o_at C p + 1) ≤ 99) && o_k C t p)) = true
    rw [Bool.and_eq_true]
    refine ⟨?_, hM.2⟩
    unfold o_2
    rw [decide_eq_true_eq]
    rcases of_decide_eq_true hM.1 with c | c
    · exact Or.inl c
    · exact Or.inr c.1
  · unfold o_v
    rw [decide_eq_true_eq]
    intro hth b hb
    obtain ⟨n1, n2⟩ := k_num_th hth hk
    have hM : (o_3 C t (k_num C a) && (decide (t (o_at C (k_num C a) + 1) ≤ 99) && o_kM C t (k_num C a))) = true := h (k_num C a) (Nat.zero_le _) (by omega)
    rw [Bool.and_eq_true] at hM
    unfold o_wd at hb
    by_cases d : t (o_at C (k_num C a)) = 255
    · rw [if_pos d] at hb; cases hb
    · rw [if_neg d] at hb
      have hb2 : k_cd C (t (o_at C (k_num C a))) = b := by simpa using hb
      rcases of_decide_eq_true hM.1 with e | ⟨e1, e2, e3⟩
      · exact absurd e d
      · obtain ⟨r1, r2, -⟩ := k_cd_th e1.1 hk
        rw [← hb2, r2]
        rw [n2] at e3
        refine ⟨?_, e3⟩
        unfold o_wd
        rw [e2, if_neg (by omega), n2]
end B5u
