/-! match: what is most, and the class's table of it -/
section B5k
variable {I I0 : Nat → Nat → Int32} {L L0 : Nat → Nat → Int64} {ρ : zRh} {h : zH} {A : aT} {N : Nat} {C : cT} {s : sT}
theorem b_shl6 : ∀ l, l < 8 → (nI l : Int32) <<< ((6 : Int32) &&& 31) = nI (64 * l) := by decide +kernel
theorem nI_m1lt {n : Nat} (h : n < 2147483648) : ¬ (nI n : Int32) < -1 := by
  rw [Int32.lt_iff_toInt_lt, nI_toI h, show (-1 : Int32).toInt = -1 by decide]
  omega
/-- a set and one more in it -/
def m_set (S k : Nat) : Nat := if b_k S k = 1 then S else S + 2 ^ k
theorem m_set_or : ∀ k, k < 6 → ∀ S, S < 64 → nI S ||| ((1 : Int32) <<< (nI k &&& 31)) = nI (m_set S k) := by decide +kernel
theorem m_set_lt : ∀ R, R < 7 → ∀ k, k < R → ∀ S, S < 2 ^ R → m_set S k < 2 ^ R := by decide +kernel
theorem p2_64 : ∀ R, R < 7 → 2 ^ R ≤ 64 := by decide
def m_lk (s : sT) (l k : Nat) : Nat := s_lik s (6 * l + (6 + k) % 6) + s_lik s (6 * (6 + k) + l % 6)
def m_max (v : Nat) : Option Nat → Nat
  | none => v
  | some x => if v < x then x else v
/-- the most with one more pair, the rest by f -/
def m_by (C : cT) (s : sT) (f : Nat → Nat) (l S k : Nat) : Option Nat := if b_k S k = 1 ∨ k_kn C l (6 + k) = true then none else some (m_lk s l k + f (m_set S k))
def m_mx (C : cT) (s : sT) (f : Nat → Nat) (l S : Nat) : Nat → Nat
  | 0 => f S
  | k + 1 => m_max (m_mx C s f l S k) (m_by C s f l S k)
/-- the most of the last d of the left, S being taken -/
def m_v (C : cT) (s : sT) : Nat → Nat → Nat
  | 0, _ => 0
  | d + 1, S => m_mx C s (m_v C s d) (k_L C - (d + 1)) S (k_R C)
theorem m_lk_le (hS : okS C s) {l k : Nat} (hl : l < 6) (hk : k < 6) : m_lk s l k ≤ 18 := by
  have h1 := (hS.2.2.2.2.2 (6 * l + (6 + k) % 6) (by omega)).1
  have h2 := (hS.2.2.2.2.2 (6 * (6 + k) + l % 6) (by omega)).1
  unfold m_lk
  omega
theorem m_by_le (hS : okS C s) {f : Nat → Nat} {b l S k : Nat} (hl : l < 6) (hk : k < 6) (hf : ∀ S, f S ≤ b) : ∀ x, m_by C s f l S k = some x → x ≤ b + 18 := by
  intro x hx
  unfold m_by at hx
  split at hx
  · cases hx
  · cases hx
    have h1 := m_lk_le hS hl hk
    have h2 := hf (m_set S k)
    omega
theorem m_mx_le (hS : okS C s) {f : Nat → Nat} {b l S : Nat} (hl : l < 6) (hf : ∀ S, f S ≤ b) : ∀ k, k ≤ 6 → m_mx C s f l S k ≤ b + 18
  | 0, _ => by have := hf S; show f S ≤ _; omega
  | k + 1, hk => by
    have h1 := m_mx_le hS hl hf (S := S) k (by omega)
    show m_max (m_mx C s f l S k) (m_by C s f l S k) ≤ _
    rcases q : m_by C s f l S k with _ | x
    · exact h1
    · have h2 := m_by_le hS hl (show k < 6 by omega) hf x q
      show (if m_mx C s f l S k < x then x else m_mx C s f l S k) ≤ _
      split <;> omega
theorem m_v_le (hk : okC C) (hS : okS C s) : ∀ d S, d ≤ k_L C → m_v C s d S ≤ 18 * d
  | 0, S, _ => Nat.le_refl _
  | d + 1, S, hd => by
    have h12 := hk.1
    have h1 := m_mx_le hS (l := k_L C - (d + 1)) (by omega) (fun S => m_v_le hk hS d S (by omega)) (k_R C) (by omega) (S := S)
    show m_mx C s (m_v C s d) (k_L C - (d + 1)) S (k_R C) ≤ _
    omega
/-- a row of the class's table -/
def mrX (I : Nat → Nat → Int32) (C : cT) (s : sT) (l : Nat) : Prop := ∀ S, S < 2 ^ k_R C → I 66 (64 * l + S) = nI (m_v C s (k_L C - l) S)
theorem X5_with_h (hok : okA A) (hX : RelX I L ρ A N) {l S k : Nat} (hl : l < k_L (a_C A)) (hS : S < 2 ^ k_R (a_C A)) (hk2 : k < k_R (a_C A)) (hr : mrX I (a_C A) (a_s A) (l + 1)) : X5_withRight 63 ρ.1 41 (nI l) (nI k) (nI S) (hp I L ρ) = some (some (.int (oI (m_by (a_C A) (a_s A) (m_v (a_C A) (a_s A) (k_L (a_C A) - (l + 1))) l S k))), hp I L ρ) := by
  have hk := hok.1
  have h12 := hk.1
  have hR6 := p2_64 (k_R (a_C A)) (by omega)
  have hlt := m_set_lt (k_R (a_C A)) (by omega) k hk2 S hS
  have hlik := hX.2.2.1.2.2.2.2.2.1
  have l1 := (hok.2.2.1.1.2.2.2.2.2 (6 * l + (6 + k) % 6) (by omega)).1
  have l2 := (hok.2.2.1.1.2.2.2.2.2 (6 * (6 + k) + l % 6) (by omega)).1
  have hkin := XC_areKin (L := L) hX (show l < 12 by omega) (show 6 + k < 12 by omega)
  have hb := b_test S (by omega) k (by omega)
  unfold X5_withRight m_by
  rw [h_if]
  by_cases c : b_k S k = 1
  · rw [if_pos (hb.mpr c), if_pos (Or.inl c)]; rfl
  · rw [if_neg (fun e => c (hb.mp e)), show (6 : Int32) = nI 6 from rfl, nI_add, rcc (cu_ρ hX), h_ci hkin, h_if]
    cases q : k_kn (a_C A) l (6 + k) with
    | true => rw [if_neg (by decide), if_pos (Or.inr rfl)]; rfl
    | false =>
      rw [if_pos (by decide), if_neg (by simp [c]), gr_41_6, h_ci (X11_cell_h (by omega) (by omega)), la_46 (by omega), hlik _ (by omega), gr_41_6, h_ci (X11_cell_h (by omega) (by omega)), la_46 (by omega), hlik _ (by omega), gr_63_2, nI_1, show (nI 6 : Int32) = (6 : Int32) from rfl, b_shl6 (l + 1) (by omega), m_set_or k (by omega) S (by omega), nI_add, la_66 (by omega), hr _ hlt, h_ret, nI_add, nI_add]; rfl
/-- the class's loop over one row's rights -/
theorem X5_match_k (hok : okA A) (hX : RelX I L ρ A N) {l S : Nat} (hl : l < k_L (a_C A)) (hS : S < 2 ^ k_R (a_C A)) (hr : mrX I (a_C A) (a_s A) (l + 1)) {r60 r68 : Int32 → zM} {v3 : Int32} : ∀ (m k fuel : Nat), k + m = k_R (a_C A) → m < fuel → z_fix (fun r x => X5_findMatch_B94 r60 r68 63 ρ.1 41 v3 (nI l) (nI S) r x.1 x.2) fuel (nI (m_mx (a_C A) (a_s A) (m_v (a_C A) (a_s A) (k_L (a_C A) - (l + 1))) l S k), nI k) (hp I L ρ) = r68 (nI (S + 1)) (hp (u2 I 66 (64 * l + S) (nI (m_mx (a_C A) (a_s A) (m_v (a_C A) (a_s A) (k_L (a_C A) - (l + 1))) l S (k_R (a_C A))))) L ρ) := by
  have hk := hok.1
  have h12 := hk.1
  have hR6 := p2_64 (k_R (a_C A)) (by omega)
  have hle := fun k hk6 => m_mx_le hok.2.2.1.1 (f := m_v (a_C A) (a_s A) (k_L (a_C A) - (l + 1))) (l := l) (by omega) (fun S => m_v_le hk hok.2.2.1.1 (k_L (a_C A) - (l + 1)) S (by omega)) k hk6 (S := S)
  intro m
  induction m with
  | zero =>
    intro k fuel h1 h2
    obtain ⟨f, rfl⟩ : ∃ f, fuel = f + 1 := ⟨fuel - 1, by omega⟩
    obtain rfl : k = k_R (a_C A) := by omega
    rw [h_fix]
    show X5_findMatch_B94 r60 r68 63 ρ.1 41 v3 (nI l) (nI S) _ (nI _) (nI (k_R (a_C A))) (hp I L ρ) = _
    unfold X5_findMatch_B94 X5_findMatch_J130
    rw [gc_0 (cu_ρ hX), show (1 : Int32) = nI 1 from rfl, lac_1 (cu_ρ hX) (by omega), (cu_ch hX).1.2, h_if, if_pos (nI_le (by omega) (by omega)), gr_63_2, b_shl6 l (by omega), nI_add, sa_66 (by omega), nI_add]
  | succ m ih =>
    intro k fuel h1 h2
    obtain ⟨f, rfl⟩ : ∃ f, fuel = f + 1 := ⟨fuel - 1, by omega⟩
    have hi := ih (k + 1) f (by omega) (by omega)
    rw [h_fix]
    generalize hg : z_fix (fun r x => X5_findMatch_B94 r60 r68 63 ρ.1 41 v3 (nI l) (nI S) r x.1 x.2) f = rec at hi
    rw [← hi]
    show X5_findMatch_B94 r60 r68 63 ρ.1 41 v3 (nI l) (nI S) rec (nI _) (nI k) (hp I L ρ) = _
    unfold X5_findMatch_B94
    rw [gc_0 (cu_ρ hX), show (1 : Int32) = nI 1 from rfl, lac_1 (cu_ρ hX) (by omega), (cu_ch hX).1.2, h_if, if_neg (nI_ge (by omega) (by omega)), rc_63, h_ci (X5_with_h hok hX hl hS (by omega) hr), nI_add]
    show rec (if nI (m_mx _ _ _ l S k) < oI (m_by _ _ _ l S k) then oI (m_by _ _ _ l S k) else nI (m_mx _ _ _ l S k), nI (k + 1)) _ = rec (nI (m_max (m_mx _ _ _ l S k) (m_by _ _ _ l S k)), nI (k + 1)) _
    have hle1 := hle k (by omega)
    rcases q : m_by (a_C A) (a_s A) (m_v (a_C A) (a_s A) (k_L (a_C A) - (l + 1))) l S k with _ | x
    · rw [oI_none, if_neg (fun e => nI_m1lt (by omega) e)]; rfl
    · have hx := m_by_le hok.2.2.1.1 (show l < 6 by omega) (show k < 6 by omega) (fun S => m_v_le hk hok.2.2.1.1 (k_L (a_C A) - (l + 1)) S (by omega)) x q
      rw [oI_some]
      simp only [nI_lt' (show m_mx (a_C A) (a_s A) (m_v (a_C A) (a_s A) (k_L (a_C A) - (l + 1))) l S k < 2147483648 by omega) (show x < 2147483648 by omega), m_max]
      by_cases c : m_mx (a_C A) (a_s A) (m_v (a_C A) (a_s A) (k_L (a_C A) - (l + 1))) l S k < x
      · rw [if_pos c, if_pos c]
      · rw [if_neg c, if_neg c]
end B5k
