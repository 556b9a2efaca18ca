/-! match: the call -/
section B5n
variable {I I0 : Nat → Nat → Int32} {L L0 : Nat → Nat → Int64} {ρ : zRh} {h : zH} {A : aT} {N : Nat} {C : cT} {s : sT}
theorem m_mx_ex {C : cT} {s : sT} {f : Nat → Nat} {l S : Nat} : ∀ k, m_mx C s f l S k = f S ∨ ∃ j, j < k ∧ m_by C s f l S j = some (m_mx C s f l S k)
  | 0 => Or.inl rfl
  | k + 1 => by
    have h := m_mx_ex (C := C) (s := s) (f := f) (l := l) (S := S) k
    show m_max (m_mx C s f l S k) (m_by C s f l S k) = f S ∨ ∃ j, j < k + 1 ∧ m_by C s f l S j = some (m_max (m_mx C s f l S k) (m_by C s f l S k))
    rcases q : m_by C s f l S k with _ | x
    · rcases h with h | ⟨j, h1, h2⟩
      · exact Or.inl h
      · exact Or.inr ⟨j, by omega, h2⟩
    · show (if m_mx C s f l S k < x then x else m_mx C s f l S k) = f S ∨ ∃ j, j < k + 1 ∧ m_by C s f l S j = some (if m_mx C s f l S k < x then x else m_mx C s f l S k)
      by_cases c : m_mx C s f l S k < x
      · rw [if_pos c]; exact Or.inr ⟨k, by omega, q⟩
      · rw [if_neg c]
        rcases h with h | ⟨j, h1, h2⟩
        · exact Or.inl h
        · exact Or.inr ⟨j, by omega, h2⟩
/-- the reference looks for who is chosen -/
theorem X12_pk_k (hok : okA A) (hM : RelM I L A) {l S v : Nat} (hl : l < k_L (a_C A)) (hS : S < 64) (hv : v < 1000) (hr : mrM I (a_C A) (a_s A) (l + 1)) (hv2 : I 261 (64 * l + S) = nI v) {v1 : Int32} {r47 : Int32 × Int32 × Int32 → zM} : ∀ (m k fuel : Nat), k + m = k_R (a_C A) → m < fuel → (∃ j, k ≤ j ∧ j < k_R (a_C A) ∧ m_by (a_C A) (a_s A) (m_v (a_C A) (a_s A) (k_L (a_C A) - (l + 1))) l S j = some v) → ∃ x, m_pk (a_C A) (a_s A) (m_v (a_C A) (a_s A) (k_L (a_C A) - (l + 1))) l S v m k = some x ∧ x < 6 ∧ z_fix (fun r x => X12_match_B55 r47 215 v1 (nI S) (nI l) r x) fuel (nI k) (hp I L ρ) = r47 (nI (m_set S x), nI x, nI (l + 1)) (hp I L ρ) := by
  have hk := hok.1
  have h12 := hk.1
  intro m
  induction m with
  | zero =>
    intro k fuel h1 h2 h3
    obtain ⟨j, j1, j2, -⟩ := h3
    omega
  | succ m ih =>
    intro k fuel h1 h2 h3
    obtain ⟨f, rfl⟩ : ∃ f, fuel = f + 1 := ⟨fuel - 1, by omega⟩
    have hby := X12_by_h (L := L) (ρ := ρ) hok hM hl hS (show k < k_R (a_C A) by omega) hr
    have hmb := m_by_le hok.2.2.1.1 (f := m_v (a_C A) (a_s A) (k_L (a_C A) - (l + 1))) (l := l) (S := S) (k := k) (by omega) (by omega) (fun S => m_v_le hk hok.2.2.1.1 (k_L (a_C A) - (l + 1)) S (by omega))
    unfold m_pk
    rw [h_fix]
    by_cases c : m_by (a_C A) (a_s A) (m_v (a_C A) (a_s A) (k_L (a_C A) - (l + 1))) l S k = some v
    · refine ⟨k, by rw [if_pos c], by omega, ?_⟩
      show X12_match_B55 r47 215 v1 (nI S) (nI l) _ (nI k) (hp I L ρ) = _
      unfold X12_match_B55 X12_match_J84 X12_match_J95
      rw [rc_215, h_ci hby, c, gr_215_68, show (64 : Int32) = nI 64 from rfl, pk_mul, nI_add, la_261 (by omega), hv2, oI_some, h_if, if_pos rfl, h_if, if_neg (nI_nm1 (by omega)), m_set_or k (by omega) S (by omega), nI_1]
    · have h3' : ∃ j, k + 1 ≤ j ∧ j < k_R (a_C A) ∧ m_by (a_C A) (a_s A) (m_v (a_C A) (a_s A) (k_L (a_C A) - (l + 1))) l S j = some v := by
        obtain ⟨j, j1, j2, j3⟩ := h3
        refine ⟨j, ?_, j2, j3⟩
        by_cases d : j = k
        · rw [d] at j3; exact absurd j3 c
        · omega
      obtain ⟨x, x1, x2, x3⟩ := ih (k + 1) f (by omega) (by omega) h3'
      refine ⟨x, by rw [if_neg c]; exact x1, x2, ?_⟩
      rw [← x3]
      show X12_match_B55 r47 215 v1 (nI S) (nI l) _ (nI k) (hp I L ρ) = _
      unfold X12_match_B55
      rw [rc_215, h_ci hby, gr_215_68, show (64 : Int32) = nI 64 from rfl, pk_mul, nI_add, la_261 (by omega), hv2, h_if, if_neg (fun e => c (by
        rcases q : m_by (a_C A) (a_s A) (m_v (a_C A) (a_s A) (k_L (a_C A) - (l + 1))) l S k with _ | y
        · rw [q, oI_none] at e; exact absurd e.symm (nI_nm1 (by omega))
        · have := hmb y q
          rw [q, oI_some, nI_inj (by omega) (by omega)] at e
          rw [e])), nI_1]
theorem X12_ch_h (hok : okA A) (hM : RelM I L A) (hr : mtM I (a_C A) (a_s A) 0) {l S : Nat} (hl : l < k_L (a_C A)) (hS : S < 64) {v1 : Int32} {r47 : Int32 × Int32 × Int32 → zM} : z_fix (fun r x => X12_match_B55 r47 215 v1 (nI S) (nI l) r x) zFU (-1) (hp I L ρ) = r47 (nI (m_nx S (m_ch (a_C A) (a_s A) l S)), oI (m_ch (a_C A) (a_s A) l S), nI (l + 1)) (hp I L ρ) := by
  have hk := hok.1
  have h12 := hk.1
  have hv := m_v_le hk hok.2.2.1.1 (k_L (a_C A) - l) S (by omega)
  have hv2 := m_v_le hk hok.2.2.1.1 (k_L (a_C A) - (l + 1)) S (by omega)
  have e1 := hr l (Nat.zero_le _) (by omega) S hS
  have e2 := hr (l + 1) (Nat.zero_le _) (by omega)
  have hx := m_mx_ex (C := a_C A) (s := a_s A) (f := m_v (a_C A) (a_s A) (k_L (a_C A) - (l + 1))) (l := l) (S := S) (k_R (a_C A))
  rw [m_v_s hl S] at hx
  rw [show zFU = 999999 + 1 from rfl, h_fix]
  show X12_match_B55 r47 215 v1 (nI S) (nI l) _ (-1) (hp I L ρ) = _
  unfold m_ch
  by_cases c : m_v (a_C A) (a_s A) (k_L (a_C A) - (l + 1)) S = m_v (a_C A) (a_s A) (k_L (a_C A) - l) S
  · rw [if_pos c]
    unfold X12_match_B55 X12_match_J84 X12_match_J95
    rw [rc_215, h_ci (X12_by_n (by omega) hS e2), gr_215_68, show (64 : Int32) = nI 64 from rfl, pk_mul, nI_add, la_261 (by omega), e1, h_if, if_pos (by rw [c]), h_if, if_pos rfl, nI_1]; rfl
  · rw [if_neg c]
    rcases hx with hx | ⟨j, j1, j2⟩
    · exact absurd hx.symm c
    obtain ⟨x, x1, x2, x3⟩ := X12_pk_k (L := L) (ρ := ρ) hok hM hl hS (show m_v (a_C A) (a_s A) (k_L (a_C A) - l) S < 1000 by omega) e2 e1 (v1 := v1) (r47 := r47) (k_R (a_C A)) 0 999999 (by omega) (by omega) ⟨j, Nat.zero_le _, j1, j2⟩
    rw [x1]
    show _ = r47 (nI (m_set S x), nI x, nI (l + 1)) _
    rw [← x3]
    unfold X12_match_B55
    rw [rc_215, h_ci (X12_by_n (by omega) hS e2), gr_215_68, show (64 : Int32) = nI 64 from rfl, pk_mul, nI_add, la_261 (by omega), e1, h_if, if_neg (fun e => c ((nI_inj (by omega) (by omega)).mp e))]; rfl
theorem X12_match_lp (hok : okA A) (hM : RelM I L A) (hr : mtM I (a_C A) (a_s A) 0) {p : Nat} (hp2 : p < k_L (a_C A)) : ∀ (m l fuel : Nat) (o : Option Nat), l + m = p + 1 → m < fuel → z_fix (fun r x => X12_match_B47 215 (nI p) r x.1 x.2.1 x.2.2) fuel (nI (m_to (a_C A) (a_s A) l), oI o, nI l) (hp I L ρ) = X12_match_J101 215 (oI (if m = 0 then o else m_ch (a_C A) (a_s A) p (m_to (a_C A) (a_s A) p))) (hp I L ρ) := by
  have hk := hok.1
  have h12 := hk.1
  have hR6 := p2_64 (k_R (a_C A)) (by omega)
  intro m
  induction m with
  | zero =>
    intro l fuel o h1 h2
    obtain ⟨f, rfl⟩ : ∃ f, fuel = f + 1 := ⟨fuel - 1, by omega⟩
    rw [h_fix]
    show X12_match_B47 215 (nI p) _ _ (oI o) (nI l) (hp I L ρ) = X12_match_J101 215 (oI o) _
    unfold X12_match_B47
    rw [h_if, if_pos (by rw [nI_lt' (by omega) (by omega)]; omega)]
  | succ m ih =>
    intro l fuel o h1 h2
    obtain ⟨f, rfl⟩ : ∃ f, fuel = f + 1 := ⟨fuel - 1, by omega⟩
    have hS := m_to_lt (s := a_s A) (C := a_C A) (by omega) l
    have hi := ih (l + 1) f (m_ch (a_C A) (a_s A) l (m_to (a_C A) (a_s A) l)) (by omega) (by omega)
    rw [if_neg (Nat.succ_ne_zero m)]
    have hc : (if m = 0 then m_ch (a_C A) (a_s A) l (m_to (a_C A) (a_s A) l) else m_ch (a_C A) (a_s A) p (m_to (a_C A) (a_s A) p)) = m_ch (a_C A) (a_s A) p (m_to (a_C A) (a_s A) p) := by
      by_cases c : m = 0
      · obtain rfl : l = p := by omega
        rw [if_pos c]
      · rw [if_neg c]
    rw [hc] at hi
    rw [h_fix, ← hi]
    show X12_match_B47 215 (nI p) _ _ (oI o) (nI l) (hp I L ρ) = _
    unfold X12_match_B47
    rw [h_if, if_neg (by rw [nI_lt' (by omega) (by omega)]; omega)]
    exact X12_ch_h hok hM hr (by omega) (by omega)
theorem m_one_in {C : cT} {s : sT} (hR : k_R C ≤ 6) {a b : Nat} (h : m_one C s a = some b) : b < 12 := by
  unfold m_one at h
  rcases q : m_ch C s a (m_to C s a) with _ | k
  · rw [q] at h; cases h
  · rw [q] at h
    have := m_ch_lt q
    have e : 6 + k = b := by simpa using h
    omega
theorem match_b (hok : okA A) (v : Int32) : both (X11_match 0 v) (X12_match 215 v) A N := by
  have hk := hok.1
  have h12 := hk.1
  have hX0 : ∀ {I L ρ}, RelX I L ρ A N → ∃ I', (∀ F, z_ci (X5_findMatch 63 ρ.1 41) F (hp I L ρ) = F (nI (m_v (a_C A) (a_s A) (k_L (a_C A)) 0)) (hp I' L ρ)) ∧ (∀ a, lastX a ∨ 215 ≤ a → I' a = I a) ∧ RelX I' L ρ A N ∧ mmX I' (a_C A) (a_s A) (k_L (a_C A)) := by
    intro I L ρ hX
    obtain ⟨I', e1, e2, e3⟩ := X5_match_h hok hX
    exact ⟨I', fun F => h_ci e1, fun a ha => e2 a (by unfold lastX at ha; omega) (by unfold lastX at ha; omega), RelX_fr (fun a ha => e2 a (by unfold lastX at ha; omega) (by unfold lastX at ha; omega)) rfl (Nat.le_refl _) hX, e3⟩
  have hM0 : ∀ {I L ρ}, RelM I L A → ∃ I', (∀ F, z_cv (X12_laysMatch 215) F (hp I L ρ) = F (hp I' L ρ)) ∧ (∀ a, lastM a ∨ a < 215 → I' a = I a) ∧ (∀ k, fieldM k → I' 215 k = I 215 k) ∧ RelM I' L A ∧ mtM I' (a_C A) (a_s A) 0 := by
    intro I L ρ hM
    obtain ⟨I', e1, e2, e3⟩ := X12_laysM_h (ρ := ρ) hok hM
    exact ⟨I', fun F => h_cv e1, fun a ha => e2 a (by unfold lastM at ha; omega), fun k _ => by rw [e2 215 (by omega)], RelM_261 hM e2, e3⟩
  by_cases c1 : v = -1
  · refine both_same hok (.int (nI (m_v (a_C A) (a_s A) (k_L (a_C A)) 0))) (fun I L ρ hX => ?_) (fun I L ρ hM => ?_)
    · obtain ⟨I', e1, e2, -⟩ := hX0 hX
      refine ⟨I', ?_, e2⟩
      unfold X11_match
      rw [gr_0_10, gr_0_5, gr_0_7, rc_63, e1, h_if, if_pos c1]; rfl
    · obtain ⟨I', e1, e2, e3, e4, e5⟩ := hM0 (ρ := ρ) hM
      refine ⟨I', L, ?_, e2, e3, fun _ _ => rfl⟩
      unfold X12_match X12_match_J24
      rw [h_if, if_pos c1, rc_215, e1, h_if, if_pos c1, gr_215_68, show (0 : Int32) = nI 0 from rfl, la_261 (by omega), show I' 261 0 = _ from e5 0 (Nat.le_refl _) (Nat.zero_le _) 0 (by omega)]; rfl
  by_cases c2 : 0 ≤ v.toInt ∧ v.toInt < k_L (a_C A)
  · obtain ⟨p, hp2, rfl⟩ := Int32_of (v := v) (by rw [v_neg]; omega)
    rw [nI_toI hp2] at c2
    have hsl : k_sl (a_C A) (nI p) = some p := by
      unfold k_sl k_slot
      rw [if_neg (nI_pos (by omega)), nI_clamp (by omega), if_pos (by omega)]
    refine both_same hok (.int (oI ((m_one (a_C A) (a_s A) p).map (k_num (a_C A))))) (fun I L ρ hX => ?_) (fun I L ρ hM => ?_)
    · obtain ⟨I', e1, e2, e3, e4⟩ := hX0 hX
      refine ⟨I', ?_, e2⟩
      have hm := e4 p (by omega)
      rw [if_pos (by omega)] at hm
      unfold X11_match
      rw [gr_0_10, gr_0_5, gr_0_7, rc_63, e1, h_if, if_neg c1, gr_0_5, rcc (cu_ρ e3), h_ci (XC_slot e3 hk _), hsl, oI_some, h_if, if_neg (nI_nm1 (by omega)), h_if, if_pos (by rw [show (6 : Int32) = nI 6 from rfl, nI_lt' (by omega) (by omega)]; omega), gr_0_5, gr_0_10, gr_63_0, la_64 (by omega), hm, rcc (cu_ρ e3), h_ci (XC_number e3 hk (fun a ha => m_one_in h12.2 ha))]; rfl
    · obtain ⟨I', e1, e2, e3, e4, e5⟩ := hM0 (ρ := ρ) hM
      refine ⟨I', L, ?_, e2, e3, fun _ _ => rfl⟩
      have el := X12_match_lp (L := L) (ρ := ρ) hok e4 e5 (p := p) (by omega) (p + 1) 0 zFU none (by omega) (by unfold zFU; omega)
      rw [if_neg (Nat.succ_ne_zero p)] at el
      have el' : z_fix (fun r x => X12_match_B47 215 (nI p) r x.1 x.2.1 x.2.2) zFU (0, -1, 0) (hp I' L ρ) = _ := el
      unfold X12_match X12_match_J24
      rw [h_if, if_neg c1, rc_215, h_ci (X12_side0 hM.1), i64_of, nI_m1 _ (by omega), show (0 : Int64) = cl 0 from rfl, h_ci (X12_isIn_h (i32_in _) (by omega) (by omega)), h_if, decide_eq_true (by rw [nI_toI (by omega)]; omega), if_neg (by decide), rc_215, e1, h_if, if_neg c1, el']
      unfold X12_match_J101 m_one
      rw [h_if]
      rcases q : m_ch (a_C A) (a_s A) p (m_to (a_C A) (a_s A) p) with _ | k
      · rw [oI_none, if_pos rfl]; rfl
      · have := m_ch_lt q
        rw [oI_some, if_neg (nI_nm1 (by omega)), show (6 : Int32) = nI 6 from rfl, nI_add, rc_215, h_ci (X12_numberOf_h hk e4.1 (by omega))]; rfl
  · refine both_same hok (.int (-1)) (fun I L ρ hX => ?_) (fun I L ρ hM => ⟨I, L, ?_, fun _ _ => rfl, fun _ _ => rfl, fun _ _ => rfl⟩)
    · obtain ⟨I', e1, e2, e3, e4⟩ := hX0 hX
      refine ⟨I', ?_, e2⟩
      unfold X11_match X11_match_J43
      rw [gr_0_10, gr_0_5, gr_0_7, rc_63, e1, h_if, if_neg c1, gr_0_5, rcc (cu_ρ e3), h_ci (XC_slot e3 hk _)]
      rcases k_sl_c hk v with ⟨q, -⟩ | ⟨a, p, q, rfl, q2, q3, q4, q5, q6⟩
      · rw [q, oI_none, h_if, if_pos rfl]; rfl
      · rw [nI_toI (by omega)] at c2
        have ha6 : 6 ≤ a := by
          rw [q3]
          unfold k_cd
          rw [if_pos (by omega)]
          omega
        rw [q, oI_some, h_if, if_neg (nI_nm1 (by omega)), h_if, if_neg (by rw [show (6 : Int32) = nI 6 from rfl, nI_lt' (by omega) (by omega)]; omega)]; rfl
    · unfold X12_match
      rw [h_if, if_neg c1, rc_215, h_ci (X12_side0 hM.1), i64_of, nI_m1 _ (by omega), show (0 : Int64) = cl 0 from rfl, h_ci (X12_isIn_h (i32_in _) (by omega) (by omega)), h_if, decide_eq_false (by omega), bF, if_pos rfl]; rfl
end B5n
