/-! the reference: a church is read -/
section B8m
variable {I I0 : Nat → Nat → Int32} {L L0 : Nat → Nat → Int64} {ρ : zRh} {h : zH} {b : Nat → Nat} {n a x j k u w t side here : Nat} {r : rP} {S : nT}
/-- what stands when all has been read -/
def lpM (I : Nat → Nat → Int32) (L : Nat → Nat → Int64) (n : Nat) (R : Sum (Nat × Nat) (Nat × nT)) : Prop := match R with
  | .inl e => unM I n e.1 e.2
  | .inr q => I 215 5 = 0 ∧ I 215 50 = nI q.1 ∧ q.1 ≤ 60 ∧ okN q.2 ∧ n_kc q.2 ≤ 60 ∧ jX I L q.2 ∧ ∃ u, jC I q.2 u ∧ u ≤ 1600
def jS (I I' : Nat → Nat → Int32) (L L' : Nat → Nat → Int64) : Prop := ∃ v, jF (u2 I 215 50 v) I' L L'
theorem jS_f {I' : Nat → Nat → Int32} {L' : Nat → Nat → Int64} (h : jF I I' L L') : jS I I' L L' := ⟨I 215 50, by rw [u2_self rfl]; exact h⟩
theorem jS_tr {I1 I' : Nat → Nat → Int32} {L1 L' : Nat → Nat → Int64} (h1 : jS I I1 L L1) (h2 : jS I1 I' L1 L') : jS I I' L L' := by
  obtain ⟨v, h1⟩ := h1
  obtain ⟨w, h2⟩ := h2
  have h3 := jF_50 (v := w) h1
  rw [u2_u2] at h3
  exact ⟨w, jF_tr h3 h2⟩
theorem byI_m1 {n j : Nat} (hb : ∀ i, i < n → b i < 256) : byI b n j = -1 ↔ n ≤ j := by
  unfold byI
  by_cases c : j < n
  · rw [if_pos c]
    have := hb j c
    exact ⟨fun q => absurd q (nI_nm1 (by omega)), fun q => by omega⟩
  · rw [if_neg c]
    exact ⟨fun _ => by omega, fun _ => rfl⟩
theorem lp_u {e : Nat × Nat} (hU : unM I n e.1 e.2) {f : Nat} : z_fix (fun r x => X12_church_B133 215 r ) (f + 1) (()) (hp I L ρ) = X12_church_J155 215 (hp I L ρ) := by
  rw [h_fix]
  show X12_church_B133 215 _ (hp I L ρ) = _
  unfold X12_church_B133
  rw [gi_215, h_if, if_neg (unM_ne hU)]
theorem lp_M : ∀ g t a S u (I : Nat → Nat → Int32) (L : Nat → Nat → Int64) fuel, t + g = 62 → t ≤ 60 → g < fuel → wdM I → tQ I b n (.inr a) → okN S → n_kc S ≤ t → jX I L S → jC I S u → u ≤ a → I 215 50 = nI t → ∃ I' L', z_fix (fun r x => X12_church_B133 215 r ) fuel (()) (hp I L ρ) = X12_church_J155 215 (hp I' L' ρ) ∧ jS I I' L L' ∧ lpM I' L' n (s_lp b n g t a S) := by
  intro g
  induction g with
  | zero => intro t a S u I L fuel h1 h2; omega
  | succ g ih =>
    intro t a S u I L fuel h1 h2 hf hw hT hok hkc hX hC hu h50
    obtain ⟨f, rfl⟩ : ∃ f, fuel = f + 1 := ⟨fuel - 1, by omega⟩
    have ha := (tQ_le hT).1
    have h5 : I 215 5 = 0 := by obtain ⟨x, -, -, h3⟩ := hT; exact h3
    have hi := fun a S u I L => ih (t + 1) a S u I L f (by omega)
    have hiu : ∀ (I : Nat → Nat → Int32) (L : Nat → Nat → Int64) (e : Nat × Nat), unM I n e.1 e.2 → z_fix (fun r x => X12_church_B133 215 r ) f (()) (hp I L ρ) = X12_church_J155 215 (hp I L ρ) := by
      intro I L e hU
      obtain ⟨f', rfl⟩ : ∃ f', f = f' + 1 := ⟨f - 1, by omega⟩
      exact lp_u hU
    obtain ⟨I1, b1, b2, b3, b4⟩ := tQ_look (L := L) (ρ := ρ) hT
    have hT1 := tQ_at b2 b3 (tQ_le hT).2
    have hX1 := jX_fx b4 hX
    have hC1 := jC_fx b4 hC
    have h501 : I1 215 50 = nI t := by rw [b4.2.1 50 (by omega) (by omega) (by omega) (by omega) (by omega) (by omega)]; exact h50
    rw [h_fix]
    show ∃ I' L', X12_church_B133 215 _ (hp I L ρ) = _ ∧ _ ∧ lpM I' L' n (if n ≤ a then .inr (t, S) else if t = 60 then .inl (5, a) else match s_sg b n (s_st b n S a) with | .inl e => .inl e | .inr q => s_lp b n g (t + 1) q.1 q.2)
    generalize z_fix (fun r x => X12_church_B133 215 r ) f = rec at hi hiu
    unfold X12_church_B133
    rw [gi_215, h_if, if_pos h5, rc_215, h_ci b1, h_if]
    have hby := byI_m1 (b := b) (n := n) (j := a) (tm_hb b2.1)
    by_cases c : n ≤ a
    · rw [if_pos (hby.mpr c), if_pos c]
      exact ⟨I1, L, rfl, jS_f (jF_fx b4), b3, h501, h2, hok, by show n_kc S ≤ 60; omega, hX1, u, hC1, by omega⟩
    · rw [if_neg (fun q => c (hby.mp q)), if_neg c, rc_215]
      by_cases c2 : t = 60
      · rw [if_pos c2]
        obtain ⟨I2, d1, d2, d3⟩ := tQ_fail (L := L) (ρ := ρ) (k := 5) (p := a) (by omega) (by omega) hT1
        have d2 : unM I2 n 5 a := d2
        have eS : X12_statementTold 215 (hp I1 L ρ) = some (none, hp I2 L ρ) := by
          unfold X12_statementTold
          rw [gi_215, b2.2.2.1, gi_215, h501, h_if, if_pos (show nI t = 60 by rw [c2]; rfl), rc_215, show X12_fail 215 5 (nI a) = X12_fail 215 (nI 5) (nI a) from rfl, h_cv d1]; rfl
        rw [h_cv eS]
        exact ⟨I2, L, hiu I2 L (5, a) d2, jS_f (jF_fx (fxM_trans b4 d3)), d2⟩
      · rw [if_neg c2]
        obtain ⟨I2, L2, e1, e2, e3, e4⟩ := X12_statementTold_h (ρ := ρ) (wdM_f hw b4) hok hX1 hC1 hu (by omega) h501 (by omega) b2.2.2.1 hT1
        rw [h_cv e1]
        have F : jS I I2 L L2 := jS_tr (jS_f (jF_fx b4)) ⟨_, e2⟩
        rcases q : s_sg b n (s_st b n S a) with e | q1
        · rw [q] at e3
          exact ⟨I2, L2, hiu I2 L2 e e3, F, e3⟩
        · rw [q] at e3
          obtain ⟨k1, k2, u2', k3, k4⟩ := e3
          have hq : ∃ q0, s_st b n S a = .inr q0 ∧ q1.2 = q0.2 := by
            rcases z : s_st b n S a with e | q0
            · rw [z] at q; cases q
            · rw [z] at q
              have q : (if t_c b n q0.1 = 59 then .inr (sk b n (q0.1 + 1), q0.2) else .inl (1, q0.1) : nR) = .inr q1 := q
              by_cases c3 : t_c b n q0.1 = 59
              · rw [if_pos c3] at q
                cases q
                exact ⟨q0, rfl, rfl⟩
              · rw [if_neg c3] at q; cases q
          obtain ⟨q0, g1, g2⟩ := hq
          have gs := st_ok hok ha.1 g1
          have hw2 : wdM I2 := wdM_j (fun q hq i hi => by rw [u2r (wdL_R _ hq).2.2.2.2.2.1]; exact wdM_f hw b4 q hq i hi) e2
          obtain ⟨I3, L3, m1, m2, m3⟩ := hi q1.1 q1.2 u2' I2 L2 (by omega) (by omega) hw2 k1 (by rw [g2]; exact gs.1) (by rw [g2]; have := gs.2.2; omega) k2 k3 k4 e4
          exact ⟨I3, L3, m1, jS_tr F m2, m3⟩
/-! the start -/
theorem ch_40 : ∀ m i fuel (I : Nat → Nat → Int32), i + m = 5 → m < fuel → ∃ I', z_fix (fun r x => X12_church_B40 215 r x) fuel (nI i) (hp I L ρ) = X12_church_J67 215 (hp I' L ρ) ∧ (∀ k, i ≤ k → k < 5 → I' 246 k = if k = 3 then 3 else 0) ∧ ∀ c j, c ≠ 246 ∨ j < i ∨ 5 ≤ j → I' c j = I c j := by
  intro m
  induction m with
  | zero =>
    intro i fuel I hi hf
    obtain ⟨f, rfl⟩ : ∃ f, fuel = f + 1 := ⟨fuel - 1, by omega⟩
    refine ⟨I, ?_, fun k _ _ => by omega, fun _ _ _ => rfl⟩
    rw [h_fix]
    show X12_church_B40 215 _ (nI i) (hp I L ρ) = _
    unfold X12_church_B40
    rw [h_if, if_pos (show (5 : Int32) ≤ nI i from (nI_le' (a := 5) (b := i) (by omega) (by omega)).mpr (by omega))]
  | succ m ih =>
    intro i fuel I hi hf
    obtain ⟨f, rfl⟩ : ∃ f, fuel = f + 1 := ⟨fuel - 1, by omega⟩
    obtain ⟨I', hr, p1, p2⟩ := ih (i + 1) f (u2 I 246 i (if i = 3 then 3 else 0)) (by omega) (by omega)
    refine ⟨I', ?_, fun k h1 h2 => ?_, fun c j hc => ?_⟩
    · rw [h_fix]
      show X12_church_B40 215 _ (nI i) (hp I L ρ) = _
      generalize z_fix (fun r x => X12_church_B40 215 r x) f = rec at hr
      unfold X12_church_B40 X12_church_J60
      rw [h_if, if_neg (show ¬ (5 : Int32) ≤ nI i from fun q => by have := (nI_le' (a := 5) (b := i) (by omega) (by omega)).mp q; omega), gr_215_40, h_if]
      by_cases c : i = 3
      · rw [if_pos c] at hr
        rw [if_pos (show nI i = 3 by rw [c]; rfl), sa_246 (by omega), nI_1]; exact hr
      · rw [if_neg c] at hr
        rw [if_neg (show ¬ nI i = 3 from fun q => c ((nI_inj (b := 3) (by omega) (by omega)).mp q)), sa_246 (by omega), nI_1]; exact hr
    · by_cases c : k = i
      · rw [c, p2 246 i (by omega), u2_ap, if_pos ⟨rfl, rfl⟩]
      · exact p1 k (by omega) h2
    · rw [p2 c j (by omega), u2_ap, if_neg (by omega)]
theorem ch_69 : ∀ m i fuel (I : Nat → Nat → Int32), i + m = 72 → m < fuel → ∃ I', z_fix (fun r x => X12_church_B69 215 r x) fuel (nI i) (hp I L ρ) = X12_church_J108 215 (hp I' L ρ) ∧ (∀ k, i ≤ k → k < 72 → (k < 36 → I' 249 k = 0) ∧ I' 250 k = 5 ∧ I' 251 k = 0) ∧ ∀ c j, (c ≠ 249 ∨ 36 ≤ j ∨ j < i) → (c ≠ 250 ∨ j < i) → (c ≠ 251 ∨ j < i) → I' c j = I c j := by
  intro m
  induction m with
  | zero =>
    intro i fuel I hi hf
    obtain ⟨f, rfl⟩ : ∃ f, fuel = f + 1 := ⟨fuel - 1, by omega⟩
    refine ⟨I, ?_, fun k _ _ => by omega, fun _ _ _ _ _ => rfl⟩
    rw [h_fix]
    show X12_church_B69 215 _ (nI i) (hp I L ρ) = _
    unfold X12_church_B69
    rw [h_if, if_pos (show (72 : Int32) ≤ nI i from (nI_le' (a := 72) (b := i) (by omega) (by omega)).mpr (by omega))]
  | succ m ih =>
    intro i fuel I hi hf
    obtain ⟨f, rfl⟩ : ∃ f, fuel = f + 1 := ⟨fuel - 1, by omega⟩
    obtain ⟨I', hr, p1, p2⟩ := ih (i + 1) f (u2 (u2 (if 36 ≤ i then I else u2 I 249 i 0) 250 i 5) 251 i 0) (by omega) (by omega)
    refine ⟨I', ?_, fun k h1 h2 => ?_, fun c j hc1 hc2 hc3 => ?_⟩
    · rw [h_fix]
      show X12_church_B69 215 _ (nI i) (hp I L ρ) = _
      generalize z_fix (fun r x => X12_church_B69 215 r x) f = rec at hr
      unfold X12_church_B69 X12_church_J88
      rw [h_if, if_neg (show ¬ (72 : Int32) ≤ nI i from fun q => by have := (nI_le' (a := 72) (b := i) (by omega) (by omega)).mp q; omega), h_if]
      by_cases c : 36 ≤ i
      · rw [if_pos c] at hr
        rw [if_pos (show (36 : Int32) ≤ nI i from (nI_le' (a := 36) (b := i) (by omega) (by omega)).mpr c), gr_215_44, sa_250 (by omega), gr_215_45, sa_251 (by omega), nI_1]; exact hr
      · rw [if_neg c] at hr
        rw [if_neg (show ¬ (36 : Int32) ≤ nI i from fun q => c ((nI_le' (a := 36) (b := i) (by omega) (by omega)).mp q)), gr_215_43, sa_249 (by omega), show vp_nar .boolean 0 = (0 : Int32) from rfl, gr_215_44, sa_250 (by omega), gr_215_45, sa_251 (by omega), nI_1]; exact hr
    · by_cases c : k = i
      · subst c
        refine ⟨fun q => ?_, ?_, ?_⟩
        · rw [p2 249 k (by omega) (by omega) (by omega), u2r (by omega), u2r (by omega), if_neg (by omega), u2_ap, if_pos ⟨rfl, rfl⟩]
        · rw [p2 250 k (by omega) (by omega) (by omega), u2r (by omega), u2_ap, if_pos ⟨rfl, rfl⟩]
        · rw [p2 251 k (by omega) (by omega) (by omega), u2_ap, if_pos ⟨rfl, rfl⟩]
      · exact p1 k (by omega) h2
    · rw [p2 c j (by omega) (by omega) (by omega), u2_ap, if_neg (by omega), u2_ap, if_neg (by omega)]
      by_cases c : 36 ≤ i
      · rw [if_pos c]
      · rw [if_neg c, u2_ap, if_neg (by omega)]
theorem ch_110 : ∀ m i fuel (I : Nat → Nat → Int32), i + m = 3 → m < fuel → ∃ I', z_fix (fun r x => X12_church_B110 215 r x) fuel (nI i) (hp I L ρ) = X12_church_J128 215 (hp I' L ρ) ∧ (∀ k, i ≤ k → k < 3 → I' 252 k = -1) ∧ ∀ c j, c ≠ 252 ∨ j < i ∨ 3 ≤ j → I' c j = I c j := by
  intro m
  induction m with
  | zero =>
    intro i fuel I hi hf
    obtain ⟨f, rfl⟩ : ∃ f, fuel = f + 1 := ⟨fuel - 1, by omega⟩
    refine ⟨I, ?_, fun k _ _ => by omega, fun _ _ _ => rfl⟩
    rw [h_fix]
    show X12_church_B110 215 _ (nI i) (hp I L ρ) = _
    unfold X12_church_B110
    rw [h_if, if_pos (show (3 : Int32) ≤ nI i from (nI_le' (a := 3) (b := i) (by omega) (by omega)).mpr (by omega))]
  | succ m ih =>
    intro i fuel I hi hf
    obtain ⟨f, rfl⟩ : ∃ f, fuel = f + 1 := ⟨fuel - 1, by omega⟩
    obtain ⟨I', hr, p1, p2⟩ := ih (i + 1) f (u2 I 252 i (-1)) (by omega) (by omega)
    refine ⟨I', ?_, fun k h1 h2 => ?_, fun c j hc => ?_⟩
    · rw [h_fix]
      show X12_church_B110 215 _ (nI i) (hp I L ρ) = _
      generalize z_fix (fun r x => X12_church_B110 215 r x) f = rec at hr
      unfold X12_church_B110
      rw [h_if, if_neg (show ¬ (3 : Int32) ≤ nI i from fun q => by have := (nI_le' (a := 3) (b := i) (by omega) (by omega)).mp q; omega), gr_215_46, sa_252 (by omega), nI_1]; exact hr
    · by_cases c : k = i
      · rw [c, p2 252 i (by omega), u2_ap, if_pos ⟨rfl, rfl⟩]
      · exact p1 k (by omega) h2
    · rw [p2 c j (by omega), u2_ap, if_neg (by omega)]
end B8m
