/-! match: the reference's table -/
section B5m
variable {I I0 : Nat → Nat → Int32} {L L0 : Nat → Nat → Int64} {ρ : zRh} {h : zH} {A : aT} {N : Nat} {C : cT} {s : sT}
/-- a row of the reference's table -/
def mrM (I : Nat → Nat → Int32) (C : cT) (s : sT) (l : Nat) : Prop := ∀ S, S < 64 → I 261 (64 * l + S) = nI (m_v C s (k_L C - l) S)
theorem RelM_261 {I' : Nat → Nat → Int32} {A : aT} (hM : RelM I L A) (h : ∀ x, x ≠ 261 → I' x = I x) : RelM I' L A := RelM_fr (fun x hx => h x (by unfold lastM at hx; omega)) (fun k _ => by rw [h 215 (by omega)]) (fun _ _ => rfl) hM
theorem X12_by_n {l S : Nat} (hl : l < 6) (hS : S < 64) (hr : mrM I C s (l + 1)) : X12_matchBy 215 (nI l) (nI S) (-1) (hp I L ρ) = some (some (.int (nI (m_v C s (k_L C - (l + 1)) S))), hp I L ρ) := by
  unfold X12_matchBy
  rw [h_if, if_pos rfl, gr_215_68, nI_1, show (64 : Int32) = nI 64 from rfl, pk_mul, nI_add, la_261 (by omega), hr S hS]; rfl
theorem X12_by_h (hok : okA A) (hM : RelM I L A) {l S k : Nat} (hl : l < k_L (a_C A)) (hS : S < 64) (hk2 : k < k_R (a_C A)) (hr : mrM I (a_C A) (a_s A) (l + 1)) : X12_matchBy 215 (nI l) (nI S) (nI k) (hp I L ρ) = some (some (.int (oI (m_by (a_C A) (a_s A) (m_v (a_C A) (a_s A) (k_L (a_C A) - (l + 1))) l S k))), hp I L ρ) := by
  have hk := hok.1
  have h12 := hk.1
  have hlt : m_set S k < 64 := m_set_lt 6 (by omega) k (by omega) S hS
  have hb := b_test S (by omega) k (by omega)
  have v1 := (hM.2.2.2.1.1.1.2.2 l (Or.inl hl)).2.2 ((6 + k) % 6) (by omega)
  have v2 := (hM.2.2.2.1.1.1.2.2 (6 + k) (Or.inr ⟨by omega, by omega⟩)).2.2 (l % 6) (by omega)
  unfold X12_matchBy m_by
  rw [h_if, if_neg (nI_nm1 (by omega)), h_if]
  by_cases c : b_k S k = 1
  · rw [if_pos (hb.mpr c), if_pos (Or.inl c)]; rfl
  · rw [if_neg (fun e => c (hb.mp e)), show (6 : Int32) = nI 6 from rfl, nI_add, rc_215, h_ci (X12_areKin_h hk hM.1 (by omega) (by omega) (by omega)), h_if]
    cases q : k_kn (a_C A) l (6 + k) with
    | true => rw [if_neg (by decide), if_pos (Or.inr rfl)]; rfl
    | false =>
      rw [if_pos (by decide), if_neg (by simp [c]), gr_215_52, rc_215, h_ci (X12_likingAt_h (by omega) (by omega)), la_255 (by omega), v1.1, gr_215_52, rc_215, h_ci (X12_likingAt_h (by omega) (by omega)), la_255 (by omega), v2.1, gr_215_68, nI_1, m_set_or k (by omega) S (by omega), show (64 : Int32) = nI 64 from rfl, pk_mul, nI_add, la_261 (by omega), hr _ hlt, h_ret, nI_add, nI_add]; rfl
/-- over one row's rights -/
theorem X12_match_k (hok : okA A) (hM : RelM I L A) {l S : Nat} (hl : l < k_L (a_C A)) (hS : S < 64) (hr : mrM I (a_C A) (a_s A) (l + 1)) {r38 r44 : Int32 → zM} : ∀ (m k fuel : Nat), k + m = k_R (a_C A) → m < fuel → z_fix (fun r x => X12_laysMatch_B55 r38 r44 215 (nI l) (nI S) r x.1 x.2) fuel (nI (m_mx (a_C A) (a_s A) (m_v (a_C A) (a_s A) (k_L (a_C A) - (l + 1))) l S k), nI k) (hp I L ρ) = r44 (nI (S + 1)) (hp (u2 I 261 (64 * l + S) (nI (m_mx (a_C A) (a_s A) (m_v (a_C A) (a_s A) (k_L (a_C A) - (l + 1))) l S (k_R (a_C A))))) L ρ) := by
  have hk := hok.1
  have h12 := hk.1
  have hle := fun k hk6 => m_mx_le hok.2.2.1.1 (f := m_v (a_C A) (a_s A) (k_L (a_C A) - (l + 1))) (l := l) (by omega) (fun S => m_v_le hk hok.2.2.1.1 (k_L (a_C A) - (l + 1)) S (by omega)) k hk6 (S := S)
  intro m
  induction m with
  | zero =>
    intro k fuel h1 h2
    obtain ⟨f, rfl⟩ : ∃ f, fuel = f + 1 := ⟨fuel - 1, by omega⟩
    obtain rfl : k = k_R (a_C A) := by omega
    rw [h_fix]
    show X12_laysMatch_B55 r38 r44 215 (nI l) (nI S) _ (nI _) (nI (k_R (a_C A))) (hp I L ρ) = _
    unfold X12_laysMatch_B55 X12_laysMatch_J92
    rw [rc_215, h_ci (X12_side1 hM.1), h_if, if_pos (nI_le (by omega) (by omega)), gr_215_68, show (64 : Int32) = nI 64 from rfl, pk_mul, nI_add, sa_261 (by omega), nI_1]
  | succ m ih =>
    intro k fuel h1 h2
    obtain ⟨f, rfl⟩ : ∃ f, fuel = f + 1 := ⟨fuel - 1, by omega⟩
    have hi := ih (k + 1) f (by omega) (by omega)
    have hby := X12_by_h (L := L) (ρ := ρ) hok hM hl hS (show k < k_R (a_C A) by omega) hr
    rw [h_fix]
    generalize hg : z_fix (fun r x => X12_laysMatch_B55 r38 r44 215 (nI l) (nI S) r x.1 x.2) f = rec at hi
    rw [← hi]
    show X12_laysMatch_B55 r38 r44 215 (nI l) (nI S) rec (nI _) (nI k) (hp I L ρ) = _
    unfold X12_laysMatch_B55 X12_laysMatch_J86
    rw [rc_215, h_ci (X12_side1 hM.1), h_if, if_neg (nI_ge (by omega) (by omega)), rc_215, h_ci hby, h_if]
    show _ = rec (nI (m_max (m_mx _ _ _ l S k) (m_by _ _ _ l S k)), nI (k + 1)) _
    have hle1 := hle k (by omega)
    rcases q : m_by (a_C A) (a_s A) (m_v (a_C A) (a_s A) (k_L (a_C A) - (l + 1))) l S k with _ | x
    · rw [oI_none, if_pos (by rw [Int32.le_iff_toInt_le, nI_toI (by omega), show (-1 : Int32).toInt = -1 by decide]; omega), nI_1]; rfl
    · have hx := m_by_le hok.2.2.1.1 (show l < 6 by omega) (show k < 6 by omega) (fun S => m_v_le hk hok.2.2.1.1 (k_L (a_C A) - (l + 1)) S (by omega)) x q
      rw [q] at hby
      rw [oI_some]
      simp only [nI_le' (show x < 2147483648 by omega) (show m_mx (a_C A) (a_s A) (m_v (a_C A) (a_s A) (k_L (a_C A) - (l + 1))) l S k < 2147483648 by omega), m_max]
      by_cases c : x ≤ m_mx (a_C A) (a_s A) (m_v (a_C A) (a_s A) (k_L (a_C A) - (l + 1))) l S k
      · rw [if_pos c, if_neg (by omega), nI_1]
      · rw [if_neg c, if_pos (by omega), rc_215, h_ci hby, oI_some, nI_1]
theorem X12_match_S (hok : okA A) {l : Nat} (hl : l < k_L (a_C A)) {r38 : Int32 → zM} : ∀ (m S fuel : Nat) (I : Nat → Nat → Int32), S + m = 64 → m < fuel → RelM I L A → mrM I (a_C A) (a_s A) (l + 1) → (∀ T, T < S → I 261 (64 * l + T) = nI (m_v (a_C A) (a_s A) (k_L (a_C A) - l) T)) → ∃ I', z_fix (fun r x => X12_laysMatch_B44 r38 215 (nI l) r x) fuel (nI S) (hp I L ρ) = r38 (nI l + (-1)) (hp I' L ρ) ∧ (∀ x, x ≠ 261 → I' x = I x) ∧ (∀ j, 64 * (l + 1) ≤ j → I' 261 j = I 261 j) ∧ mrM I' (a_C A) (a_s A) l := by
  have hk := hok.1
  have h12 := hok.1.1
  intro m
  induction m with
  | zero =>
    intro S fuel I h1 h2 hM hr hd
    obtain ⟨f, rfl⟩ : ∃ f, fuel = f + 1 := ⟨fuel - 1, by omega⟩
    obtain rfl : S = 64 := by omega
    refine ⟨I, ?_, fun _ _ => rfl, fun _ _ => rfl, hd⟩
    rw [h_fix]
    show X12_laysMatch_B44 r38 215 (nI l) _ (nI 64) _ = _
    unfold X12_laysMatch_B44 X12_laysMatch_J110
    rw [h_if, if_pos (by decide)]
  | succ m ih =>
    intro S fuel I h1 h2 hM hr hd
    obtain ⟨f, rfl⟩ : ∃ f, fuel = f + 1 := ⟨fuel - 1, by omega⟩
    have hS : S < 64 := by omega
    have hv := m_v_le hk hok.2.2.1.1 (k_L (a_C A) - (l + 1)) S (by omega)
    have e0 := X12_match_k (L := L) (ρ := ρ) hok hM hl hS hr (r38 := r38) (r44 := fun x => z_fix (fun r x => X12_laysMatch_B44 r38 215 (nI l) r x) f x) (k_R (a_C A)) 0 999999 (by omega) (by omega)
    have e00 : z_fix (fun r x => X12_laysMatch_B55 r38 (fun x => z_fix (fun r x => X12_laysMatch_B44 r38 215 (nI l) r x) f x) 215 (nI l) (nI S) r x.1 x.2) zFU (0, -1) (hp I L ρ) = z_fix (fun r x => X12_laysMatch_B55 r38 (fun x => z_fix (fun r x => X12_laysMatch_B44 r38 215 (nI l) r x) f x) 215 (nI l) (nI S) r x.1 x.2) 999999 (nI (m_mx (a_C A) (a_s A) (m_v (a_C A) (a_s A) (k_L (a_C A) - (l + 1))) l S 0), nI 0) (hp I L ρ) := by
      rw [show zFU = 999999 + 1 from rfl, h_fix]
      generalize z_fix (fun r x => X12_laysMatch_B55 r38 (fun x => z_fix (fun r x => X12_laysMatch_B44 r38 215 (nI l) r x) f x) 215 (nI l) (nI S) r x.1 x.2) 999999 = rec
      show X12_laysMatch_B55 r38 _ 215 (nI l) (nI S) rec 0 (-1) (hp I L ρ) = rec (nI (m_v (a_C A) (a_s A) (k_L (a_C A) - (l + 1)) S), nI 0) (hp I L ρ)
      unfold X12_laysMatch_B55 X12_laysMatch_J86
      rw [rc_215, h_ci (X12_side1 hM.1), h_if, if_neg (by rw [Int32.le_iff_toInt_le, nI_toI (by omega), show (-1 : Int32).toInt = -1 by decide]; omega), rc_215, h_ci (X12_by_n (by omega) hS hr), h_if, show (-1 : Int32) + 1 = nI 0 by decide]
      by_cases c : m_v (a_C A) (a_s A) (k_L (a_C A) - (l + 1)) S = 0
      · rw [c, if_pos (by decide)]; rfl
      · rw [if_neg (by rw [show (0 : Int32) = nI 0 from rfl, nI_le' (by omega) (by omega)]; omega), rc_215, h_ci (X12_by_n (by omega) hS hr)]
    have hM1 : RelM (u2 I 261 (64 * l + S) (nI (m_mx (a_C A) (a_s A) (m_v (a_C A) (a_s A) (k_L (a_C A) - (l + 1))) l S (k_R (a_C A))))) L A := RelM_261 hM (fun x hx => u2r hx)
    have hval : m_mx (a_C A) (a_s A) (m_v (a_C A) (a_s A) (k_L (a_C A) - (l + 1))) l S (k_R (a_C A)) = m_v (a_C A) (a_s A) (k_L (a_C A) - l) S := m_v_s hl S
    obtain ⟨I', r1, r2, r3, r4⟩ := ih (S + 1) f _ (by omega) (by omega) hM1 (fun T hT => by rw [u2_ap, if_neg (by omega)]; exact hr T hT) (fun T hT => by
      rw [u2_ap]
      by_cases c : T = S
      · rw [if_pos ⟨rfl, by omega⟩, c, hval]
      · rw [if_neg (by omega)]; exact hd T (by omega))
    refine ⟨I', ?_, fun x hx => by rw [r2 x hx, u2r hx], fun j hj => by rw [r3 j hj, u2_ap, if_neg (by omega)], r4⟩
    rw [h_fix, ← r1]
    show X12_laysMatch_B44 r38 215 (nI l) _ (nI S) (hp I L ρ) = _
    unfold X12_laysMatch_B44
    rw [h_if, if_neg (by rw [show (64 : Int32) = nI 64 from rfl, nI_le' (by omega) (by omega)]; omega)]
    exact e00.trans e0
def mtM (I : Nat → Nat → Int32) (C : cT) (s : sT) (l : Nat) : Prop := ∀ x, l ≤ x → x ≤ k_L C → mrM I C s x
theorem X12_match_l (hok : okA A) : ∀ (l fuel : Nat) (I : Nat → Nat → Int32), l ≤ k_L (a_C A) → l < fuel → RelM I L A → mtM I (a_C A) (a_s A) l → ∃ I', z_fix (fun r x => X12_laysMatch_B38 215 r x) fuel (nI l + (-1)) (hp I L ρ) = some (none, hp I' L ρ) ∧ (∀ x, x ≠ 261 → I' x = I x) ∧ mtM I' (a_C A) (a_s A) 0 := by
  have h12 := hok.1.1
  intro l
  induction l with
  | zero =>
    intro fuel I h1 h2 hM hr
    obtain ⟨f, rfl⟩ : ∃ f, fuel = f + 1 := ⟨fuel - 1, by omega⟩
    refine ⟨I, ?_, fun _ _ => rfl, hr⟩
    rw [h_fix]
    show X12_laysMatch_B38 215 _ (nI 0 + (-1)) _ = _
    unfold X12_laysMatch_B38
    rw [h_if, if_pos (by decide)]; rfl
  | succ l ih =>
    intro fuel I h1 h2 hM hr
    obtain ⟨f, rfl⟩ : ∃ f, fuel = f + 1 := ⟨fuel - 1, by omega⟩
    obtain ⟨I1, e1, e2, e3, e4⟩ := X12_match_S (L := L) (ρ := ρ) hok (l := l) (by omega) (r38 := fun x => z_fix (fun r x => X12_laysMatch_B38 215 r x) f x) 64 0 zFU I (by omega) (by unfold zFU; omega) hM (hr (l + 1) (Nat.le_refl _) h1) (fun T hT => absurd hT (by omega))
    have hM1 : RelM I1 L A := RelM_261 hM e2
    obtain ⟨I', r1, r2, r3⟩ := ih f I1 (by omega) (by omega) hM1 (fun x h3 h4 => by
      by_cases c : x = l
      · rw [c]; exact e4
      · intro S hS
        rw [e3 _ (by omega)]
        exact hr x (by omega) h4 S hS)
    refine ⟨I', ?_, fun x hx => by rw [r2 x hx, e2 x hx], r3⟩
    rw [h_fix, ← r1, ← e1]
    show X12_laysMatch_B38 215 _ (nI (l + 1) + (-1)) _ = _
    unfold X12_laysMatch_B38
    rw [nI_dec l (by omega), h_if, if_neg (nI_pos (by omega))]; rfl
theorem X12_match_0 (hok : okA A) : ∀ (m S fuel : Nat) (I : Nat → Nat → Int32), S + m = 64 → m < fuel → RelM I L A → (∀ T, T < S → I 261 (64 * k_L (a_C A) + T) = nI 0) → ∃ I', z_fix (fun r x => X12_laysMatch_B2 215 r x) fuel (nI S) (hp I L ρ) = X12_laysMatch_J30 215 (hp I' L ρ) ∧ (∀ x, x ≠ 261 → I' x = I x) ∧ mrM I' (a_C A) (a_s A) (k_L (a_C A)) := by
  have h12 := hok.1.1
  intro m
  induction m with
  | zero =>
    intro S fuel I h1 h2 hM hd
    obtain ⟨f, rfl⟩ : ∃ f, fuel = f + 1 := ⟨fuel - 1, by omega⟩
    obtain rfl : S = 64 := by omega
    refine ⟨I, ?_, fun _ _ => rfl, fun T hT => by rw [hd T hT, Nat.sub_self]; rfl⟩
    rw [h_fix]
    show X12_laysMatch_B2 215 _ (nI 64) _ = _
    unfold X12_laysMatch_B2
    rw [h_if, if_pos (by decide)]
  | succ m ih =>
    intro S fuel I h1 h2 hM hd
    obtain ⟨f, rfl⟩ : ∃ f, fuel = f + 1 := ⟨fuel - 1, by omega⟩
    have hM1 : RelM (u2 I 261 (64 * k_L (a_C A) + S) 0) L A := RelM_261 hM (fun x hx => u2r hx)
    obtain ⟨I', r1, r2, r3⟩ := ih (S + 1) f _ (by omega) (by omega) hM1 (fun T hT => by
      rw [u2_ap]
      by_cases c : T = S
      · rw [if_pos ⟨rfl, by omega⟩]; rfl
      · rw [if_neg (by omega)]; exact hd T (by omega))
    refine ⟨I', ?_, fun x hx => by rw [r2 x hx, u2r hx], r3⟩
    rw [h_fix, ← r1]
    show X12_laysMatch_B2 215 _ (nI S) _ = _
    unfold X12_laysMatch_B2
    rw [h_if, if_neg (by rw [show (64 : Int32) = nI 64 from rfl, nI_le' (by omega) (by omega)]; omega), gr_215_68, rc_215, h_ci (X12_side0 hM.1), show (64 : Int32) = nI 64 from rfl, pk_mul, nI_add, sa_261 (by omega), nI_1]
theorem X12_laysM_h (hok : okA A) (hM : RelM I L A) : ∃ I', X12_laysMatch 215 (hp I L ρ) = some (none, hp I' L ρ) ∧ (∀ x, x ≠ 261 → I' x = I x) ∧ mtM I' (a_C A) (a_s A) 0 := by
  have h12 := hok.1.1
  obtain ⟨I1, e1, e2, e3⟩ := X12_match_0 (L := L) (ρ := ρ) hok 64 0 zFU I (by omega) (by unfold zFU; omega) hM (fun T hT => absurd hT (by omega))
  have hM1 : RelM I1 L A := RelM_261 hM e2
  obtain ⟨I2, f1, f2, f3⟩ := X12_match_l (L := L) (ρ := ρ) hok (k_L (a_C A)) zFU I1 (Nat.le_refl _) (by unfold zFU; omega) hM1 (fun x q1 q2 => by
    obtain rfl : x = k_L (a_C A) := by omega
    exact e3)
  refine ⟨I2, ?_, fun x hx => by rw [f2 x hx, e2 x hx], f3⟩
  have e1' : X12_laysMatch 215 (hp I L ρ) = X12_laysMatch_J30 215 (hp I1 L ρ) := e1
  rw [e1']
  unfold X12_laysMatch_J30
  rw [rc_215, h_ci (X12_side0 hM1.1), Int32.sub_eq_add_neg]
  exact f1
end B5m
