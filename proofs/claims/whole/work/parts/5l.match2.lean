/-! match: the class's table, and who is chosen -/
section B5l
variable {I I0 : Nat → Nat → Int32} {L L0 : Nat → Nat → Int64} {ρ : zRh} {h : zH} {A : aT} {N : Nat} {C : cT} {s : sT}
theorem m_v_s {C : cT} {s : sT} {l : Nat} (hl : l < k_L C) (S : Nat) : m_mx C s (m_v C s (k_L C - (l + 1))) l S (k_R C) = m_v C s (k_L C - l) S := by
  have e1 : k_L C - l = (k_L C - (l + 1)) + 1 := by omega
  have e2 : k_L C - ((k_L C - (l + 1)) + 1) = l := by omega
  rw [e1]
  show _ = m_mx C s (m_v C s (k_L C - (l + 1))) (k_L C - ((k_L C - (l + 1)) + 1)) S (k_R C)
  rw [e2]
theorem X5_match_S (hok : okA A) {l : Nat} (hl : l < k_L (a_C A)) {r60 : Int32 → zM} : ∀ (m S fuel : Nat) (I : Nat → Nat → Int32), S + m = 2 ^ k_R (a_C A) → m < fuel → RelX I L ρ A N → mrX I (a_C A) (a_s A) (l + 1) → (∀ T, T < S → I 66 (64 * l + T) = nI (m_v (a_C A) (a_s A) (k_L (a_C A) - l) T)) → ∃ I', z_fix (fun r x => X5_findMatch_B68 r60 63 ρ.1 41 (nI (2 ^ k_R (a_C A))) (nI l) r x) fuel (nI S) (hp I L ρ) = r60 (nI l + (-1)) (hp I' L ρ) ∧ (∀ x, x ≠ 66 → I' x = I x) ∧ (∀ j, 64 * (l + 1) ≤ j → I' 66 j = I 66 j) ∧ mrX I' (a_C A) (a_s A) l := by
  have h12 := hok.1.1
  have hR6 := p2_64 (k_R (a_C A)) (by omega)
  intro m
  induction m with
  | zero =>
    intro S fuel I h1 h2 hX hr hd
    obtain ⟨f, rfl⟩ : ∃ f, fuel = f + 1 := ⟨fuel - 1, by omega⟩
    obtain rfl : S = 2 ^ k_R (a_C A) := by omega
    refine ⟨I, ?_, fun _ _ => rfl, fun _ _ => rfl, hd⟩
    rw [h_fix]
    show X5_findMatch_B68 r60 63 ρ.1 41 _ (nI l) _ _ _ = _
    unfold X5_findMatch_B68 X5_findMatch_J151
    rw [h_if, if_pos (nI_le (by omega) (by omega))]
  | succ m ih =>
    intro S fuel I h1 h2 hX hr hd
    obtain ⟨f, rfl⟩ : ∃ f, fuel = f + 1 := ⟨fuel - 1, by omega⟩
    have hS : S < 2 ^ k_R (a_C A) := by omega
    have e0 := X5_match_k (L := L) hok hX hl hS hr (r60 := r60) (r68 := fun x => z_fix (fun r x => X5_findMatch_B68 r60 63 ρ.1 41 (nI (2 ^ k_R (a_C A))) (nI l) r x) f x) (v3 := nI (2 ^ k_R (a_C A))) (k_R (a_C A)) 0 zFU (by omega) (by unfold zFU; omega)
    have hX1 : RelX (u2 I 66 (64 * l + S) (nI (m_mx (a_C A) (a_s A) (m_v (a_C A) (a_s A) (k_L (a_C A) - (l + 1))) l S (k_R (a_C A))))) L ρ A N := RelX_fr (fun x hx => u2r (by unfold lastX at hx; omega)) rfl (Nat.le_refl _) hX
    have hval : m_mx (a_C A) (a_s A) (m_v (a_C A) (a_s A) (k_L (a_C A) - (l + 1))) l S (k_R (a_C A)) = m_v (a_C A) (a_s A) (k_L (a_C A) - l) S := m_v_s hl S
    obtain ⟨I', r1, r2, r3, r4⟩ := ih (S + 1) f _ (by omega) (by omega) hX1 (fun T hT => by rw [u2_ap, if_neg (by omega)]; exact hr T hT) (fun T hT => by
      rw [u2_ap]
      by_cases c : T = S
      · rw [if_pos ⟨rfl, by omega⟩, c, hval]
      · rw [if_neg (by omega)]; exact hd T (by omega))
    refine ⟨I', ?_, fun x hx => by rw [r2 x hx, u2r hx], fun j hj => by rw [r3 j hj, u2_ap, if_neg (by omega)], r4⟩
    rw [h_fix, ← r1]
    show X5_findMatch_B68 r60 63 ρ.1 41 (nI (2 ^ k_R (a_C A))) (nI l) _ (nI S) (hp I L ρ) = _
    rw [← e0]
    unfold X5_findMatch_B68
    rw [h_if, if_neg (nI_ge (by omega) (by omega)), gr_63_2, nI_1, b_shl6 (l + 1) (by omega), nI_add, la_66 (by omega), hr S hS]; rfl
theorem nI_dec (l : Nat) (h : l < 1000) : (nI (l + 1) : Int32) + (-1) = nI l := by
  rw [← Int32.toInt_inj, Int32.toInt_add, nI_toI (by omega), nI_toI (by omega), show (-1 : Int32).toInt = -1 by decide]
  show Int.bmod _ _ = _
  rw [show ((l + 1 : Nat) : Int) + -1 = (l : Int) by omega]
  exact Int.bmod_eq_of_le (by omega) (by omega)
/-- all lefts from l on are laid -/
def mtX (I : Nat → Nat → Int32) (C : cT) (s : sT) (l : Nat) : Prop := ∀ x, l ≤ x → x ≤ k_L C → mrX I C s x
theorem X5_match_l (hok : okA A) : ∀ (l fuel : Nat) (I : Nat → Nat → Int32), l ≤ k_L (a_C A) → l < fuel → RelX I L ρ A N → mtX I (a_C A) (a_s A) l → ∃ I', z_fix (fun r x => X5_findMatch_B60 63 ρ.1 41 (nI (2 ^ k_R (a_C A))) r x) fuel (nI l + (-1)) (hp I L ρ) = X5_findMatch_J157 63 ρ.1 41 (hp I' L ρ) ∧ (∀ x, x ≠ 66 → I' x = I x) ∧ mtX I' (a_C A) (a_s A) 0 := by
  have h12 := hok.1.1
  have hR6 := p2_64 (k_R (a_C A)) (by omega)
  intro l
  induction l with
  | zero =>
    intro fuel I h1 h2 hX hr
    obtain ⟨f, rfl⟩ : ∃ f, fuel = f + 1 := ⟨fuel - 1, by omega⟩
    refine ⟨I, ?_, fun _ _ => rfl, hr⟩
    rw [h_fix]
    show X5_findMatch_B60 63 ρ.1 41 _ _ (nI 0 + (-1)) _ = _
    unfold X5_findMatch_B60
    rw [h_if, if_pos (by decide)]
  | succ l ih =>
    intro fuel I h1 h2 hX hr
    obtain ⟨f, rfl⟩ : ∃ f, fuel = f + 1 := ⟨fuel - 1, by omega⟩
    obtain ⟨I1, e1, e2, e3, e4⟩ := X5_match_S (L := L) hok (l := l) (by omega) (r60 := fun x => z_fix (fun r x => X5_findMatch_B60 63 ρ.1 41 (nI (2 ^ k_R (a_C A))) r x) f x) (2 ^ k_R (a_C A)) 0 zFU I (by omega) (by unfold zFU; omega) hX (hr (l + 1) (Nat.le_refl _) h1) (fun T hT => absurd hT (by omega))
    have hX1 : RelX I1 L ρ A N := RelX_fr (fun x hx => e2 x (by unfold lastX at hx; omega)) rfl (Nat.le_refl _) hX
    obtain ⟨I', r1, r2, r3⟩ := ih f I1 (by omega) (by omega) hX1 (fun x h3 h4 => by
      by_cases c : x = l
      · rw [c]; exact e4
      · intro S hS
        rw [e3 _ (by omega)]
        exact hr x (by omega) h4 S hS)
    refine ⟨I', ?_, fun x hx => by rw [r2 x hx, e2 x hx], r3⟩
    rw [h_fix, ← r1, ← e1]
    show X5_findMatch_B60 63 ρ.1 41 _ _ (nI (l + 1) + (-1)) _ = _
    unfold X5_findMatch_B60
    rw [nI_dec l (by omega), h_if, if_neg (nI_pos (by omega))]; rfl
theorem X5_match_0 (hok : okA A) : ∀ (m S fuel : Nat) (I : Nat → Nat → Int32), S + m = 2 ^ k_R (a_C A) → m < fuel → RelX I L ρ A N → (∀ T, T < S → I 66 (64 * k_L (a_C A) + T) = nI 0) → ∃ I', z_fix (fun r x => X5_findMatch_B28 63 ρ.1 41 (nI (2 ^ k_R (a_C A))) (nI (k_L (a_C A))) r x) fuel (nI S) (hp I L ρ) = X5_findMatch_J54 63 ρ.1 41 (nI (2 ^ k_R (a_C A))) (nI (k_L (a_C A))) (hp I' L ρ) ∧ (∀ x, x ≠ 66 → I' x = I x) ∧ mrX I' (a_C A) (a_s A) (k_L (a_C A)) := by
  have h12 := hok.1.1
  have hR6 := p2_64 (k_R (a_C A)) (by omega)
  intro m
  induction m with
  | zero =>
    intro S fuel I h1 h2 hX hd
    obtain ⟨f, rfl⟩ : ∃ f, fuel = f + 1 := ⟨fuel - 1, by omega⟩
    obtain rfl : S = 2 ^ k_R (a_C A) := by omega
    refine ⟨I, ?_, fun _ _ => rfl, fun T hT => by rw [hd T hT, Nat.sub_self]; rfl⟩
    rw [h_fix]
    show X5_findMatch_B28 63 ρ.1 41 _ _ _ _ _ = _
    unfold X5_findMatch_B28
    rw [h_if, if_pos (nI_le (by omega) (by omega))]
  | succ m ih =>
    intro S fuel I h1 h2 hX hd
    obtain ⟨f, rfl⟩ : ∃ f, fuel = f + 1 := ⟨fuel - 1, by omega⟩
    have hX1 : RelX (u2 I 66 (64 * k_L (a_C A) + S) 0) L ρ A N := RelX_fr (fun x hx => u2r (by unfold lastX at hx; omega)) rfl (Nat.le_refl _) hX
    obtain ⟨I', r1, r2, r3⟩ := ih (S + 1) f _ (by omega) (by omega) hX1 (fun T hT => by
      rw [u2_ap]
      by_cases c : T = S
      · rw [if_pos ⟨rfl, by omega⟩]; rfl
      · rw [if_neg (by omega)]; exact hd T (by omega))
    refine ⟨I', ?_, fun x hx => by rw [r2 x hx, u2r hx], r3⟩
    rw [h_fix, ← r1]
    show X5_findMatch_B28 63 ρ.1 41 _ _ _ (nI S) _ = _
    unfold X5_findMatch_B28
    rw [h_if, if_neg (nI_ge (by omega) (by omega)), gr_63_2, b_shl6 _ (by omega), nI_add, sa_66 (by omega), nI_1]
/-! who is chosen -/
def m_pk (C : cT) (s : sT) (f : Nat → Nat) (l S v : Nat) : Nat → Nat → Option Nat
  | 0, _ => none
  | m + 1, k => if m_by C s f l S k = some v then some k else m_pk C s f l S v m (k + 1)
/-- whom one of the left has, S being taken -/
def m_ch (C : cT) (s : sT) (l S : Nat) : Option Nat := if m_v C s (k_L C - (l + 1)) S = m_v C s (k_L C - l) S then none else m_pk C s (m_v C s (k_L C - (l + 1))) l S (m_v C s (k_L C - l) S) (k_R C) 0
def m_nx (S : Nat) : Option Nat → Nat
  | none => S
  | some k => m_set S k
/-- what is taken by the first l of the left -/
def m_to (C : cT) (s : sT) : Nat → Nat
  | 0 => 0
  | l + 1 => m_nx (m_to C s l) (m_ch C s l (m_to C s l))
theorem m_pk_in {C : cT} {s : sT} {f : Nat → Nat} {l S v : Nat} : ∀ {m k x}, m_pk C s f l S v m k = some x → k ≤ x ∧ x < k + m
  | 0, k, x, h => by cases h
  | m + 1, k, x, h => by
    unfold m_pk at h
    split at h
    · cases h; omega
    · have := m_pk_in h; omega
theorem m_ch_lt {C : cT} {s : sT} {l S k : Nat} (h : m_ch C s l S = some k) : k < k_R C := by
  unfold m_ch at h
  split at h
  · cases h
  · have := m_pk_in h; omega
theorem m_to_lt {C : cT} {s : sT} (hR : k_R C < 7) : ∀ l, m_to C s l < 2 ^ k_R C
  | 0 => Nat.two_pow_pos _
  | l + 1 => by
    have h1 := m_to_lt (s := s) hR l
    show m_nx (m_to C s l) (m_ch C s l (m_to C s l)) < _
    rcases q : m_ch C s l (m_to C s l) with _ | k
    · exact h1
    · exact m_set_lt _ hR k (m_ch_lt q) _ h1
def m_w (I : Nat → Nat → Int32) (l : Nat) : Option Nat → Nat → Nat → Int32
  | none => I
  | some x => u2 I 64 l (nI (6 + x))
theorem m_w_ne {l x : Nat} {o : Option Nat} (h : x ≠ 64) : m_w I l o x = I x := by
  cases o with
  | none => rfl
  | some k => exact u2r h
theorem X5_ch_1 (hX : RelX I L ρ A N) {l S k : Nat} (h12 : k_R (a_C A) ≤ 6) (hk2 : k < 100) {v5 : Int32} {r5 : Int32 × Int32 → zM} {fuel : Nat} (hf : 0 < fuel) : z_fix (fun r x => X5_chooseFirst_B59 r5 63 ρ.1 41 (nI l) v5 r x.1 x.2.1 x.2.2) fuel (nI S, 1, nI k) (hp I L ρ) = r5 (nI S, nI (l + 1)) (hp I L ρ) := by
  obtain ⟨f, rfl⟩ : ∃ f, fuel = f + 1 := ⟨fuel - 1, by omega⟩
  rw [h_fix]
  show X5_chooseFirst_B59 r5 63 ρ.1 41 (nI l) v5 _ (nI S) 1 (nI k) (hp I L ρ) = _
  unfold X5_chooseFirst_B59 X5_chooseFirst_J119
  rw [gc_0 (cu_ρ hX), show (1 : Int32) = nI 1 from rfl, lac_1 (cu_ρ hX) (by omega), (cu_ch hX).1.2, h_if]
  split
  · rw [nI_add]
  · rw [h_if, if_neg (by decide), nI_add]
theorem X5_ch_k (hok : okA A) (hX : RelX I L ρ A N) {l S v : Nat} (hl : l < k_L (a_C A)) (hS : S < 2 ^ k_R (a_C A)) (hv : v < 1000) (hr : mrX I (a_C A) (a_s A) (l + 1)) {r5 : Int32 × Int32 → zM} : ∀ (m k fuel : Nat), k + m = k_R (a_C A) → m + 1 < fuel → z_fix (fun r x => X5_chooseFirst_B59 r5 63 ρ.1 41 (nI l) (nI v) r x.1 x.2.1 x.2.2) fuel (nI S, 0, nI k) (hp I L ρ) = r5 (nI (m_nx S (m_pk (a_C A) (a_s A) (m_v (a_C A) (a_s A) (k_L (a_C A) - (l + 1))) l S v m k)), nI (l + 1)) (hp (m_w I l (m_pk (a_C A) (a_s A) (m_v (a_C A) (a_s A) (k_L (a_C A) - (l + 1))) l S v m k)) L ρ) := by
  have hk := hok.1
  have h12 := hk.1
  have hR6 := p2_64 (k_R (a_C A)) (by omega)
  intro m
  induction m with
  | zero =>
    intro k fuel h1 h2
    obtain ⟨f, rfl⟩ : ∃ f, fuel = f + 1 := ⟨fuel - 1, by omega⟩
    rw [h_fix]
    show X5_chooseFirst_B59 r5 63 ρ.1 41 (nI l) (nI v) _ (nI S) 0 (nI k) (hp I L ρ) = r5 (nI S, nI (l + 1)) (hp I L ρ)
    unfold X5_chooseFirst_B59 X5_chooseFirst_J119
    rw [gc_0 (cu_ρ hX), show (1 : Int32) = nI 1 from rfl, lac_1 (cu_ρ hX) (by omega), (cu_ch hX).1.2, h_if, if_pos (nI_le (by omega) (by omega)), nI_add]
  | succ m ih =>
    intro k fuel h1 h2
    obtain ⟨f, rfl⟩ : ∃ f, fuel = f + 1 := ⟨fuel - 1, by omega⟩
    have hi := ih (k + 1) f (by omega) (by omega)
    have ho := X5_ch_1 (L := L) hX (l := l) (S := m_set S k) (k := k + 1) (v5 := nI v) (r5 := r5) (fuel := f) h12.2 (by omega) (by omega)
    have hmb := m_by_le hok.2.2.1.1 (f := m_v (a_C A) (a_s A) (k_L (a_C A) - (l + 1))) (l := l) (S := S) (k := k) (by omega) (by omega) (fun S => m_v_le hk hok.2.2.1.1 (k_L (a_C A) - (l + 1)) S (by omega))
    rw [h_fix]
    show X5_chooseFirst_B59 r5 63 ρ.1 41 (nI l) (nI v) _ (nI S) 0 (nI k) (hp I L ρ) = _
    unfold X5_chooseFirst_B59
    rw [gc_0 (cu_ρ hX), show (1 : Int32) = nI 1 from rfl, lac_1 (cu_ρ hX) (by omega), (cu_ch hX).1.2, h_if, if_neg (nI_ge (by omega) (by omega)), h_if, if_pos rfl, rc_63, h_ci (X5_with_h hok hX hl hS (by omega) hr), h_if]
    unfold m_pk
    by_cases c : m_by (a_C A) (a_s A) (m_v (a_C A) (a_s A) (k_L (a_C A) - (l + 1))) l S k = some v
    · rw [c, oI_some, if_pos rfl, if_pos rfl, show (6 : Int32) = nI 6 from rfl, nI_add, gr_63_0, sa_64 (by omega)]
      have hX1 : RelX (u2 I 64 l (nI (6 + k))) L ρ A N := RelX_fr (fun x hx => u2r (by unfold lastX at hx; omega)) rfl (Nat.le_refl _) hX
      unfold X5_chooseFirst_J113
      rw [show (nI 1 : Int32) = (1 : Int32) from rfl, m_set_or k (by omega) S (by omega), nI_1]
      exact X5_ch_1 hX1 h12.2 (by omega) (by omega)
    · rw [if_neg c, if_neg (fun e => c (by
        rcases q : m_by (a_C A) (a_s A) (m_v (a_C A) (a_s A) (k_L (a_C A) - (l + 1))) l S k with _ | x
        · rw [q, oI_none] at e; exact absurd e.symm (nI_nm1 (by omega))
        · have := hmb x q
          rw [q, oI_some, nI_inj (by omega) (by omega)] at e
          rw [e]))]
      unfold X5_chooseFirst_J113
      rw [nI_1]
      exact hi
def m_one (C : cT) (s : sT) (x : Nat) : Option Nat := (m_ch C s x (m_to C s x)).map (6 + ·)
def mmX (I : Nat → Nat → Int32) (C : cT) (s : sT) (l : Nat) : Prop := ∀ x, x < 12 → I 64 x = if x < l then oI (m_one C s x) else -1
theorem X5_ch_l (hok : okA A) : ∀ (m l fuel : Nat) (I : Nat → Nat → Int32), l + m = k_L (a_C A) → m < fuel → RelX I L ρ A N → mtX I (a_C A) (a_s A) 0 → mmX I (a_C A) (a_s A) l → ∃ I', z_fix (fun r x => X5_chooseFirst_B5 63 ρ.1 41 r x.1 x.2) fuel (nI (m_to (a_C A) (a_s A) l), nI l) (hp I L ρ) = some (none, hp I' L ρ) ∧ (∀ x, x ≠ 64 → I' x = I x) ∧ mmX I' (a_C A) (a_s A) (k_L (a_C A)) := by
  have hk := hok.1
  have h12 := hk.1
  have hR6 := p2_64 (k_R (a_C A)) (by omega)
  intro m
  induction m with
  | zero =>
    intro l fuel I h1 h2 hX hr hm
    obtain ⟨f, rfl⟩ : ∃ f, fuel = f + 1 := ⟨fuel - 1, by omega⟩
    obtain rfl : l = k_L (a_C A) := by omega
    refine ⟨I, ?_, fun _ _ => rfl, hm⟩
    rw [h_fix]
    show X5_chooseFirst_B5 63 ρ.1 41 _ (nI _) (nI _) (hp I L ρ) = _
    unfold X5_chooseFirst_B5
    rw [gc_0 (cu_ρ hX), show (0 : Int32) = nI 0 from rfl, lac_1 (cu_ρ hX) (by omega), (cu_ch hX).1.1, h_if, if_pos (nI_le (by omega) (by omega))]; rfl
  | succ m ih =>
    intro l fuel I h1 h2 hX hr hm
    obtain ⟨f, rfl⟩ : ∃ f, fuel = f + 1 := ⟨fuel - 1, by omega⟩
    have hS := m_to_lt (s := a_s A) (C := a_C A) (by omega) l
    have hv := m_v_le hk hok.2.2.1.1 (k_L (a_C A) - l) (m_to (a_C A) (a_s A) l) (by omega)
    have hv2 := m_v_le hk hok.2.2.1.1 (k_L (a_C A) - (l + 1)) (m_to (a_C A) (a_s A) l) (by omega)
    have e1 := hr l (by omega) (by omega) _ hS
    have e2 := hr (l + 1) (by omega) (by omega) _ hS
    have step : X5_chooseFirst_B5 63 ρ.1 41 (fun x => z_fix (fun r x => X5_chooseFirst_B5 63 ρ.1 41 r x.1 x.2) f x) (nI (m_to (a_C A) (a_s A) l)) (nI l) (hp I L ρ) = z_fix (fun r x => X5_chooseFirst_B5 63 ρ.1 41 r x.1 x.2) f (nI (m_to (a_C A) (a_s A) (l + 1)), nI (l + 1)) (hp (m_w I l (m_ch (a_C A) (a_s A) l (m_to (a_C A) (a_s A) l))) L ρ) := by
      unfold X5_chooseFirst_B5 X5_chooseFirst_J54
      rw [gc_0 (cu_ρ hX), show (0 : Int32) = nI 0 from rfl, lac_1 (cu_ρ hX) (by omega), (cu_ch hX).1.1, h_if, if_neg (nI_ge (by omega) (by omega)), gr_63_2, b_shl6 l (by omega), nI_add, la_66 (by omega), e1, gr_63_2, nI_1, b_shl6 (l + 1) (by omega), nI_add, la_66 (by omega), e2, h_if]
      show _ = z_fix _ f (nI (m_nx (m_to (a_C A) (a_s A) l) (m_ch (a_C A) (a_s A) l (m_to (a_C A) (a_s A) l))), nI (l + 1)) _
      unfold m_ch
      by_cases c : m_v (a_C A) (a_s A) (k_L (a_C A) - (l + 1)) (m_to (a_C A) (a_s A) l) = m_v (a_C A) (a_s A) (k_L (a_C A) - l) (m_to (a_C A) (a_s A) l)
      · rw [if_pos (by rw [c]), if_pos c]
        exact X5_ch_1 (r5 := fun x => z_fix (fun r x => X5_chooseFirst_B5 63 ρ.1 41 r x.1 x.2) f x) hX h12.2 (by omega) (by unfold zFU; omega)
      · rw [if_neg (fun e => c ((nI_inj (by omega) (by omega)).mp e)), if_neg c]
        exact X5_ch_k (r5 := fun x => z_fix (fun r x => X5_chooseFirst_B5 63 ρ.1 41 r x.1 x.2) f x) hok hX (by omega) hS (by omega) (hr (l + 1) (by omega) (by omega)) (k_R (a_C A)) 0 zFU (by omega) (by unfold zFU; omega)
    have hX1 : RelX (m_w I l (m_ch (a_C A) (a_s A) l (m_to (a_C A) (a_s A) l))) L ρ A N := RelX_fr (fun x hx => m_w_ne (by unfold lastX at hx; omega)) rfl (Nat.le_refl _) hX
    obtain ⟨I', r1, r2, r3⟩ := ih (l + 1) f _ (by omega) (by omega) hX1 (fun x q1 q2 S hS2 => by rw [m_w_ne (by omega)]; exact hr x q1 q2 S hS2) (fun x hx => by
      have h0 := hm x hx
      rcases q : m_ch (a_C A) (a_s A) l (m_to (a_C A) (a_s A) l) with _ | k
      · show I 64 x = _
        rw [h0]
        by_cases c : x = l
        · rw [if_neg (by omega), if_pos (by omega), c]
          unfold m_one
          rw [q]; rfl
        · by_cases c2 : x < l
          · rw [if_pos c2, if_pos (by omega)]
          · rw [if_neg c2, if_neg (by omega)]
      · show u2 I 64 l (nI (6 + k)) 64 x = _
        rw [u2_ap]
        by_cases c : x = l
        · rw [if_pos ⟨rfl, c⟩, if_pos (by omega), c]
          unfold m_one
          rw [q]; rfl
        · rw [if_neg (by omega), h0]
          by_cases c2 : x < l
          · rw [if_pos c2, if_pos (by omega)]
          · rw [if_neg c2, if_neg (by omega)])
    refine ⟨I', ?_, fun x hx => by rw [r2 x hx, m_w_ne hx], r3⟩
    rw [h_fix, ← r1, ← step]
/-- the class's match -/
theorem X5_match_h (hok : okA A) (hX : RelX I L ρ A N) : ∃ I', X5_findMatch 63 ρ.1 41 (hp I L ρ) = some (some (.int (nI (m_v (a_C A) (a_s A) (k_L (a_C A)) 0))), hp I' L ρ) ∧ (∀ x, x ≠ 64 → x ≠ 66 → I' x = I x) ∧ mmX I' (a_C A) (a_s A) (k_L (a_C A)) := by
  have hk := hok.1
  have h12 := hk.1
  have hR6 := p2_64 (k_R (a_C A)) (by omega)
  have hfill : ∃ Iz, J7_fill_53178 64 (-1) (hp I L ρ) = some (none, hp Iz L ρ) ∧ (∀ x, x ≠ 64 → Iz x = I x) ∧ ∀ x, x < 12 → Iz 64 x = -1 := ⟨_, J7_fill_h (by decide) rfl (by decide), fun x hx => by
    funext i
    show (if x = 64 ∧ i < 12 then (-1 : Int32) else I x i) = I x i
    rw [if_neg (by omega)], fun x hx => by
    show (if 64 = 64 ∧ x < 12 then (-1 : Int32) else I 64 x) = -1
    rw [if_pos ⟨rfl, hx⟩]⟩
  obtain ⟨Iz, z1, z2, z3⟩ := hfill
  have hX0 : RelX Iz L ρ A N := RelX_fr (fun x hx => z2 x (by unfold lastX at hx; omega)) rfl (Nat.le_refl _) hX
  obtain ⟨I1, e1, e2, e3⟩ := X5_match_0 (L := L) hok (2 ^ k_R (a_C A)) 0 zFU _ (by omega) (by unfold zFU; omega) hX0 (fun T hT => absurd hT (by omega))
  have hX1 : RelX I1 L ρ A N := RelX_fr (fun x hx => e2 x (by unfold lastX at hx; omega)) rfl (Nat.le_refl _) hX0
  obtain ⟨I2, f1, f2, f3⟩ := X5_match_l (L := L) hok (k_L (a_C A)) zFU I1 (Nat.le_refl _) (by unfold zFU; omega) hX1 (fun x q1 q2 => by
    obtain rfl : x = k_L (a_C A) := by omega
    exact e3)
  have hX2 : RelX I2 L ρ A N := RelX_fr (fun x hx => f2 x (by unfold lastX at hx; omega)) rfl (Nat.le_refl _) hX1
  obtain ⟨I3, g1, g2, g3⟩ := X5_ch_l (L := L) hok (k_L (a_C A)) 0 zFU I2 (by omega) (by unfold zFU; omega) hX2 f3 (fun x hx => by
    rw [f2 64 (by omega), e2 64 (by omega), z3 x hx, if_neg (by omega)])
  have hbest : I3 66 0 = nI (m_v (a_C A) (a_s A) (k_L (a_C A)) 0) := by
    rw [g2 66 (by omega)]
    exact f3 0 (Nat.le_refl _) (Nat.zero_le _) 0 (Nat.two_pow_pos _)
  refine ⟨I3, ?_, fun x h1 h2 => by
    rw [g2 x h1, f2 x h2, e2 x h2, z2 x h1], g3⟩
  unfold X5_findMatch
  rw [gr_63_0, h_cv z1, gc_0 (cu_ρ hX0), show (1 : Int32) = nI 1 from rfl, lac_1 (cu_ρ hX0) (by omega), (cu_ch hX0).1.2, gc_0 (cu_ρ hX0), show (0 : Int32) = nI 0 from rfl, lac_1 (cu_ρ hX0) (by omega), (cu_ch hX0).1.1, show (nI 1 : Int32) = (1 : Int32) from rfl, b_shl _ (by omega), e1]
  unfold X5_findMatch_J54
  rw [Int32.sub_eq_add_neg, f1]
  unfold X5_findMatch_J157 X5_chooseFirst
  have g1' : z_fix (fun r x => X5_chooseFirst_B5 63 ρ.1 41 r x.1 x.2) zFU (0, 0) (hp I2 L ρ) = some (none, hp I3 L ρ) := g1
  rw [rc_63, h_cv g1', gr_63_2, show (0 : Int32) = nI 0 from rfl, la_66 (by omega), hbest]; rfl
end B5l
