/-! sizes: both alike -/
section B5d
variable {I I0 : Nat → Nat → Int32} {L L0 : Nat → Nat → Int64} {ρ : zRh} {h : zH} {A : aT} {N : Nat} {C : cT} {s : sT} {V : vT}
theorem m_rows_iff {n : Nat} : ∀ {m i}, m_rows s V n m i = true ↔ ∀ j, i ≤ j → j < i + m → (v_at V j).1 = n → s_sp s ≤ 999 ∧ v_row s (v_at V j) = true
  | 0, i => ⟨fun _ j h1 h2 => by omega, fun _ => rfl⟩
  | m + 1, i => by
    show ((decide ((v_at V i).1 ≠ n) || (decide (s_sp s ≤ 999) && v_row s (v_at V i))) && m_rows s V n m (i + 1)) = true ↔ _
    rw [Bool.and_eq_true, m_rows_iff, Bool.or_eq_true, Bool.and_eq_true, decide_eq_true_iff, decide_eq_true_iff]
    constructor
    · rintro ⟨h1, h2⟩ j h3 h4 h5
      by_cases c : j = i
      · rw [c] at h5 ⊢
        rcases h1 with h1 | h1
        · exact absurd h5 h1
        · exact h1
      · exact h2 j (by omega) (by omega) h5
    · intro h1
      refine ⟨?_, fun j h3 h4 h5 => h1 j (by omega) (by omega) h5⟩
      by_cases c : (v_at V i).1 = n
      · exact Or.inr (h1 i (by omega) (by omega) c)
      · exact Or.inl c
theorem v_rows_iff {n : Nat} : ∀ {m i}, v_rows s V n m i = true ↔ ∀ j, i ≤ j → j < i + m → (v_at V j).1 = n → v_row s (v_at V j) = true
  | 0, i => ⟨fun _ j h1 h2 => by omega, fun _ => rfl⟩
  | m + 1, i => by
    show ((decide ((v_at V i).1 ≠ n) || v_row s (v_at V i)) && v_rows s V n m (i + 1)) = true ↔ _
    rw [Bool.and_eq_true, v_rows_iff, Bool.or_eq_true, decide_eq_true_iff]
    constructor
    · rintro ⟨h1, h2⟩ j h3 h4 h5
      by_cases c : j = i
      · rw [c] at h5 ⊢
        rcases h1 with h1 | h1
        · exact absurd h5 h1
        · exact h1
      · exact h2 j (by omega) (by omega) h5
    · intro h1
      refine ⟨?_, fun j h3 h4 h5 => h1 j (by omega) (by omega) h5⟩
      by_cases c : (v_at V i).1 = n
      · exact Or.inr (h1 i (by omega) (by omega) c)
      · exact Or.inl c
theorem m_all_iff : ∀ {m n}, m_all C s V m n = true ↔ ∀ k, n ≤ k → k < n + m → m_rows (p_gos C k s) V k V.length 0 = true
  | 0, n => ⟨fun _ j h1 h2 => by omega, fun _ => rfl⟩
  | m + 1, n => by
    show (m_rows (p_gos C n s) V n V.length 0 && m_all C s V m (n + 1)) = true ↔ _
    rw [Bool.and_eq_true, m_all_iff]
    constructor
    · rintro ⟨h1, h2⟩ k h3 h4
      by_cases c : k = n
      · rw [c]; exact h1
      · exact h2 k (by omega) (by omega)
    · intro h1
      exact ⟨h1 n (by omega) (by omega), fun k h3 h4 => h1 k (by omega) (by omega)⟩
theorem v_all_iff : ∀ {m n}, v_all C s V m n = true ↔ ∀ k, n ≤ k → k ≤ n + m → v_rows (p_gos C k s) V k V.length 0 = true
  | 0, n => by
    show v_rows (p_gos C n s) V n V.length 0 = true ↔ _
    constructor
    · intro h k h1 h2
      rw [show k = n by omega]; exact h
    · intro h
      exact h n (by omega) (by omega)
  | m + 1, n => by
    show (v_rows (p_gos C n s) V n V.length 0 && v_all C s V m (n + 1)) = true ↔ _
    rw [Bool.and_eq_true, v_all_iff]
    constructor
    · rintro ⟨h1, h2⟩ k h3 h4
      by_cases c : k = n
      · rw [c]; exact h1
      · exact h2 k (by omega) (by omega)
    · intro h1
      exact ⟨h1 n (by omega) (by omega), fun k h3 h4 => h1 k (by omega) (by omega)⟩
theorem z_b_eq {f g : Nat → Bool} : ∀ n, (∀ k, k < n → f k = g k) → z_b f n = z_b g n
  | 0, _ => rfl
  | n + 1, h => by
    show (if f n = true then z_b f n + 2 ^ n else z_b f n) = (if g n = true then z_b g n + 2 ^ n else z_b g n)
    rw [z_b_eq n (fun k hk => h k (by omega)), h n (by omega)]
theorem z_b_no {f : Nat → Bool} : ∀ n, (∀ k, k < n → f k = false) → z_b f n = 0
  | 0, _ => rfl
  | n + 1, h => by
    show (if f n = true then z_b f n + 2 ^ n else z_b f n) = 0
    rw [z_b_no n (fun k hk => h k (by omega)), h n (by omega)]
    rfl
theorem z_left_m (hok : okA A) (a : Nat) : z_b (m_fit A a) 10 = z_left A a := by
  have hk := hok.1
  have h999 := hok.2.2.1.2.1
  have hV := okV_of hok
  have hmx := v_mx_le hV _ (Nat.le_refl _)
  have hrt := hk.2.1
  have hcn := cnt_le hok
  have hcnt : ∀ z k, z < 10 → k ≤ 31 → s_cnt (a_C A) (p_gos (a_C A) k (sSz (a_s A) a z)) = s_cnt (a_C A) (a_s A) + k ∧ s_rd (p_gos (a_C A) k (sSz (a_s A) a z)) < k_rt (a_C A) := by
    intro z k hz hk31
    have hS := okS_Sz (a := a) hok.2.2.1.1 (show z ≤ 9 by omega)
    exact ⟨gos_cnt hk k hS (show s_sp (a_s A) + k ≤ 2000 by omega), (p_gos_ok hk k hS (show s_sp (a_s A) + k ≤ 2000 by omega)).1.1.2⟩
  unfold z_left
  by_cases c : s_cnt (a_C A) (a_s A) + v_mx (a_V A) (a_V A).length < 1000 * k_rt (a_C A)
  · rw [if_pos c]
    refine z_b_eq 10 (fun z hz => ?_)
    rw [Bool.eq_iff_iff]
    unfold m_fit z_fit
    rw [m_all_iff, v_all_iff]
    constructor
    · intro h1 k h2 h3
      have := h1 k (by omega) (by omega)
      rw [m_rows_iff] at this
      rw [v_rows_iff]
      exact fun j a1 a2 a3 => (this j a1 a2 a3).2
    · intro h1 k h2 h3
      rw [m_rows_iff]
      intro j a1 a2 a3
      have hge := v_mx_ge (a_V A) (show j < (a_V A).length by omega)
      have := h1 k (by omega) (by omega)
      rw [v_rows_iff] at this
      refine ⟨?_, this j a1 a2 a3⟩
      obtain ⟨q1, q2⟩ := hcnt z k hz (by omega)
      have h5 : s_sp (p_gos (a_C A) k (sSz (a_s A) a z)) * k_rt (a_C A) < 1000 * k_rt (a_C A) := by
        unfold s_cnt at q1 c
        omega
      have := Nat.lt_of_mul_lt_mul_right h5
      omega
  · rw [if_neg c]
    refine z_b_no 10 (fun z hz => ?_)
    rcases v_mx_at (a_V A) (a_V A).length with h0 | ⟨i, h1, h2⟩
    · omega
    · rcases q : m_fit A a z with _ | _
      · rfl
      · exfalso
        unfold m_fit at q
        rw [m_all_iff] at q
        have := q (v_mx (a_V A) (a_V A).length) (by omega) (by omega)
        rw [m_rows_iff] at this
        have h3 := (this i (by omega) (by omega) h2).1
        obtain ⟨q1, q2⟩ := hcnt z (v_mx (a_V A) (a_V A).length) hz (by omega)
        have h5 : s_sp (p_gos (a_C A) (v_mx (a_V A) (a_V A).length) (sSz (a_s A) a z)) * k_rt (a_C A) ≤ 999 * k_rt (a_C A) := Nat.mul_le_mul_right _ h3
        unfold s_cnt at q1 c
        omega
theorem sizes_b (hok : okA A) (v : Int32) : both (X11_sizes 0 v) (X12_sizes 215 v) A N := by
  have hk := hok.1
  have h12 := hk.1
  rcases k_sl_c hk v with ⟨q, q1⟩ | ⟨a, p, q, rfl, q1, q2, q3, q4, q5⟩
  · refine both_still hok (.int (-1)) (fun I L ρ hX => ?_) (fun I L ρ hM => ?_)
    · unfold X11_sizes
      rw [gr_0_5, rcc (cu_ρ hX), h_ci (XC_slot hX hk _), q, oI_none, h_if, if_pos rfl]; rfl
    · unfold X12_sizes
      rw [rc_215, h_ci (X12_isPerson_v hk hM.1 _), q, bI_none, h_if, if_pos rfl]; rfl
  · refine both_thinks hok (.int (nI (z_left A a))) (fun I L ρ hX => ?_) (fun I L ρ hM => ?_)
    · obtain ⟨I', e1, e2, e3⟩ := X0_sizes_h (L := L) (ρ := ρ) hok hX q5
      refine ⟨I', ?_, fun x hx => e2 x (l61 hx)⟩
      unfold X11_sizes
      rw [gr_0_5, rcc (cu_ρ hX), h_ci (XC_slot hX hk _), q, oI_some, h_if, if_neg (nI_nm1 (by omega)), gr_0_9, gr_0_7, gr_0_12, gi_0, hX.2.2.2.2.1.1, rc_53, h_ci e1]; rfl
    · obtain ⟨I', L', e1, ⟨e2, -⟩, e3⟩ := X12_sizeSet_h (ρ := ρ) hok hM q3 q4
      refine ⟨I', L', ?_, e2, e3⟩
      rw [z_left_m hok a] at e1
      unfold X12_sizes
      rw [rc_215, h_ci (X12_isPerson_v hk hM.1 _), q, bI_some, h_if, if_neg (by decide), rc_215, h_ci e1]; rfl
end B5d
