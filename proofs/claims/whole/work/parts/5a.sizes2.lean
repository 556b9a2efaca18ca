/-! sizes: the reference -/
section B5a
variable {I I0 : Nat → Nat → Int32} {L L0 : Nat → Nat → Int64} {ρ : zRh} {h : zH} {A : aT} {N : Nat} {C : cT} {s : sT} {tr : Option Nat}
/-- who is wed, by number -/
def w_f (C : cT) (s : sT) (p : Nat) : Bool := decide (s_wed s (k_cd C p) ≠ none)
def w_set (C : cT) (s : sT) : Nat := z_b (w_f C s) (k_L C + k_R C)
theorem X12_wedSet_lp (hk : okC C) (hS : okS C s) (hM : chM I C) (hs : stM I C s) : ∀ (m p fuel : Nat), p + m = k_L C + k_R C → m < fuel → z_fix (fun r x => X12_wedSet_B4 215 r x.1 x.2) fuel (nI (z_b (w_f C s) p), nI p) (hp I L ρ) = some (some (.int (nI (w_set C s))), hp I L ρ) := by
  have h12 := hk.1
  intro m
  induction m with
  | zero =>
    intro p fuel h1 h2
    obtain ⟨f, rfl⟩ : ∃ f, fuel = f + 1 := ⟨fuel - 1, by omega⟩
    obtain rfl : p = k_L C + k_R C := by omega
    rw [h_fix]
    show X12_wedSet_B4 215 _ (nI (z_b (w_f C s) (k_L C + k_R C))) (nI (k_L C + k_R C)) (hp I L ρ) = _
    unfold X12_wedSet_B4
    rw [rc_215, h_ci (X12_peopleMany_h hM), h_if, if_pos (nI_le (Nat.le_refl _) (by omega))]; rfl
  | succ m ih =>
    intro p fuel h1 h2
    obtain ⟨f, rfl⟩ : ∃ f, fuel = f + 1 := ⟨fuel - 1, by omega⟩
    have hi := ih (p + 1) f (by omega) (by omega)
    obtain ⟨q1, q2, q3⟩ := k_cd_th (show p < k_L C + k_R C by omega) hk
    rw [h_fix]
    generalize hg : z_fix (fun r x => X12_wedSet_B4 215 r x.1 x.2) f = rec at hi
    show X12_wedSet_B4 215 rec (nI (z_b (w_f C s) p)) (nI p) (hp I L ρ) = _
    have hw := X12_wedTo_h (I := I) (L := L) (ρ := ρ) hk hM hs q1
    rw [q2] at hw
    have ho := z_b_or (w_f C s) (k := p) (by omega)
    unfold X12_wedSet_B4 X12_wedSet_J27
    rw [rc_215, h_ci (X12_peopleMany_h hM), h_if, if_neg (nI_ge (by omega) (by omega)), rc_215, h_ci hw, h_if, nI_1]
    simp only [oI_wed hk hS]
    by_cases c : s_wed s (k_cd C p) = none
    · rw [if_pos c, ← hi, ← ho, if_neg (show ¬ w_f C s p = true by unfold w_f; rw [decide_eq_false (fun e => e c)]; decide)]
    · rw [if_neg c, ← hi, ← ho, if_pos (show w_f C s p = true from decide_eq_true c)]
theorem X12_wedSet_h (hk : okC C) (hS : okS C s) (hM : chM I C) (hs : stM I C s) : X12_wedSet 215 (hp I L ρ) = some (some (.int (nI (w_set C s))), hp I L ρ) :=
  X12_wedSet_lp hk hS hM hs (k_L C + k_R C) 0 zFU (by omega) (by have := hk.1; unfold zFU; omega)
theorem z_b_bit (f : Nat → Bool) : ∀ n, n ≤ 12 → ∀ k, k < n → b_k (z_b f n) k = if f k = true then 1 else 0 := by
  intro n
  induction n with
  | zero => intro _ k hk; omega
  | succ n ih =>
    intro hn k hk
    have hl := z_b_lt f n
    show b_k (if f n = true then z_b f n + 2 ^ n else z_b f n) k = _
    by_cases c : k = n
    · rw [c]
      unfold b_k
      by_cases d : f n = true
      · rw [if_pos d, if_pos d, Nat.add_div_right _ (Nat.pow_pos (by decide)), Nat.div_eq_of_lt hl]
      · rw [if_neg d, if_neg d, Nat.div_eq_of_lt hl]
    · have hi := ih (by omega) k (by omega)
      by_cases d : f n = true
      · rw [if_pos d, ← hi]
        unfold b_k
        obtain ⟨j, hj⟩ : ∃ j, n = k + (j + 1) := ⟨n - k - 1, by omega⟩
        have e : 2 ^ n = 2 ^ k * (2 * 2 ^ j) := by rw [hj, Nat.pow_add, Nat.pow_succ, Nat.mul_comm (2 ^ j) 2]
        rw [e, Nat.add_mul_div_left _ _ (Nat.pow_pos (by decide))]
        omega
      · rw [if_neg d]; exact hi
theorem b_test12 : ∀ k, k < 12 → ∀ b, b < 4096 → ((nI b >>> (nI k &&& 31)) &&& 1) = nI (b_k b k) := by
  have h : ∀ k, k < 12 → ((List.range 4096).all fun b => decide (((nI b >>> (nI k &&& 31)) &&& 1) = nI (b_k b k))) = true := by decide +kernel
  intro k hk b hb
  have := List.all_eq_true.mp (h k hk) b (List.mem_range.mpr hb)
  exact of_decide_eq_true this
theorem w_set_bit (hk : okC C) {p : Nat} (hp2 : p < k_L C + k_R C) : ((nI (w_set C s) >>> (nI p &&& 31)) &&& 1) = bI (decide (s_wed s (k_cd C p) ≠ none)) ∧ w_set C s < 4096 := by
  have h12 := hk.1
  have hl : w_set C s < 4096 := Nat.lt_of_lt_of_le (z_b_lt _ _) (show 2 ^ (k_L C + k_R C) ≤ 2 ^ 12 from Nat.pow_le_pow_right (by decide) (by omega))
  refine ⟨?_, hl⟩
  rw [b_test12 p (by omega) _ hl]
  unfold w_set
  rw [z_b_bit _ _ (by omega) p hp2]
  unfold w_f
  cases decide (s_wed s (k_cd C p) ≠ none) <;> rfl
def vM (I : Nat → Nat → Int32) (C : cT) (V : vT) : Prop := I 215 71 = nI V.length ∧ ∀ i, i < V.length → I 264 (3 * i) = nI (v_at V i).1 ∧ I 264 (3 * i + 1) = nI (k_num C (v_at V i).2.1) ∧ I 264 (3 * i + 2) = nI (v_at V i).2.2
theorem vM_of (h : thM I I0 L L0 A s) : vM I (a_C A) (a_V A) := by
  have e1 : I 264 = I0 264 := h.2.1.1 264 (by unfold lastM; omega) (by omega)
  have e2 : I 215 71 = I0 215 71 := h.2.1.2.1 71 (by unfold fieldM; omega) (by omega) (by omega)
  refine ⟨by rw [e2]; exact h.1.2.2.2.2.2.2.1.1, fun i hi => ?_⟩
  rw [e1]
  exact h.1.2.2.2.2.2.2.1.2 i _ (v_get (a_V A) hi)
/-- rows of round n, where the spring is one that comes -/
def m_rows (s : sT) (V : vT) (n : Nat) : Nat → Nat → Bool
  | 0, _ => true
  | m + 1, i => (decide ((v_at V i).1 ≠ n) || (decide (s_sp s ≤ 999) && v_row s (v_at V i))) && m_rows s V n m (i + 1)
theorem X12_rows_lp {V : vT} (hk : okC C) (hS : okS C s) (hV : okV C V) (hvM : vM I C V) (hs : stM I C s) {n : Nat} (hl : n ≤ 30) : ∀ (m i fuel : Nat), i + m = V.length → m < fuel → z_fix (fun r x => X12_isAsSeen_B2 215 (nI n) (nI (w_set C s)) r x) fuel (nI i) (hp I L ρ) = some (some (.int (bI (m_rows s V n m i))), hp I L ρ) := by
  have hV1 := hV.1
  intro m
  induction m with
  | zero =>
    intro i fuel h1 h2
    obtain ⟨f, rfl⟩ : ∃ f, fuel = f + 1 := ⟨fuel - 1, by omega⟩
    rw [h_fix]
    show X12_isAsSeen_B2 215 (nI n) (nI (w_set C s)) _ (nI i) (hp I L ρ) = _
    unfold X12_isAsSeen_B2
    rw [gi_215, hvM.1, h_if, if_pos (nI_le (by omega) (by omega)), h_rb1]; rfl
  | succ m ih =>
    intro i fuel h1 h2
    obtain ⟨f, rfl⟩ : ∃ f, fuel = f + 1 := ⟨fuel - 1, by omega⟩
    obtain ⟨v1, v2, v3⟩ := hV.2 i (by omega)
    obtain ⟨x1, x2, x3⟩ := hvM.2 i (by omega)
    have hq12 := k_th_lt hk v2
    have hn := k_num_th v2 hk
    have h12 := hk.1
    obtain ⟨w1, w2⟩ := w_set_bit (s := s) hk hn.1
    rw [hn.2] at w1
    have hsp := hS.1.1
    have hi := ih (i + 1) f (by omega) (by omega)
    rw [h_fix]
    generalize hg : z_fix (fun r x => X12_isAsSeen_B2 215 (nI n) (nI (w_set C s)) r x) f = rec at hi
    show X12_isAsSeen_B2 215 (nI n) (nI (w_set C s)) rec (nI i) (hp I L ρ) = some (some (.int (bI ((decide ((v_at V i).1 ≠ n) || (decide (s_sp s ≤ 999) && v_row s (v_at V i))) && m_rows s V n m (i + 1)))), hp I L ρ)
    unfold X12_isAsSeen_B2 X12_isAsSeen_J63
    rw [gi_215, hvM.1, h_if, if_neg (nI_ge (by omega) (by omega)), gr_215_72, show (3 : Int32) = nI 3 from rfl, pk_mul, la_264 (by omega), x1, h_if]
    simp only [nI_inj (show (v_at V i).1 < 2147483648 by omega) (show n < 2147483648 by omega)]
    by_cases c : (v_at V i).1 = n
    · rw [if_pos c, gr_215_52, lal_0, la_255 (by omega), hs.1.1, h_if]
      by_cases d : s_sp s ≤ 999
      · rw [if_neg (show ¬ (999 : Int32) < nI (s_sp s) from fun e => absurd ((nI_lt' (a := 999) (by omega) (by omega)).mp e) (by omega)), gr_215_72, nI_1, la_264 (by omega), x2, gr_215_72, show (2 : Int32) = nI 2 from rfl, nI_add, la_264 (by omega), x3, w1, h_if, nI_1, hi]
        unfold v_row
        have e1 : ∀ w : Bool, (bI w = nI (v_at V i).2.2) ↔ (w = true ↔ (v_at V i).2.2 = 1) := by
          intro w
          have h01 : (v_at V i).2.2 = 0 ∨ (v_at V i).2.2 = 1 := by omega
          rcases h01 with h0 | h0
          · rw [h0]; cases w <;> simp [bI, show (nI 0 : Int32) = 0 from rfl]
          · rw [h0]; cases w <;> simp [bI, show (nI 1 : Int32) = 1 from rfl]
        simp only [e1]
        by_cases g : (s_wed s (v_at V i).2.1 ≠ none ↔ (v_at V i).2.2 = 1)
        · rw [if_pos (by rw [decide_eq_true_iff]; exact g)]
          simp [c, d, g]
        · rw [if_neg (by rw [decide_eq_true_iff]; exact g), h_rb0]
          simp [c, d, g, bI]
      · rw [if_pos (show (999 : Int32) < nI (s_sp s) from nI_lt (a := 999) (by omega) (by omega)), h_rb0]
        simp [c, d, bI]
    · rw [if_neg c, nI_1, hi]
      simp [c]
end B5a
