/-! rather: the call -/
section B5j
variable {I I0 : Nat → Nat → Int32} {L L0 : Nat → Nat → Int64} {ρ : zRh} {h : zH} {A : aT} {N : Nat} {C : cT} {s : sT}
theorem r_b_in {C : cT} {s : sT} {l : Nat} (hl : l < 12) : ∀ {m r : Nat} {acc : List (Nat × Nat)}, r + m ≤ 12 → (∀ q ∈ acc, q.1 < 12 ∧ q.2 < 12) → ∀ q ∈ r_b C s l m r acc, q.1 < 12 ∧ q.2 < 12
  | 0, r, acc, _, h => h
  | m + 1, r, acc, hr, h => by
    show ∀ q ∈ r_b C s l m (r + 1) (if r_ok C s l r = true then acc ++ [(l, r)] else acc), _
    refine r_b_in hl (by omega) (fun q hq => ?_)
    split at hq
    · rw [List.mem_append] at hq
      rcases hq with hq | hq
      · exact h q hq
      · have e : q = (l, r) := by simpa using hq
        rw [e]
        exact ⟨hl, by show r < 12; omega⟩
    · exact h q hq
theorem r_a_in {C : cT} {s : sT} (hR : k_R C ≤ 6) : ∀ {m l : Nat} {acc : List (Nat × Nat)}, l + m ≤ 12 → (∀ q ∈ acc, q.1 < 12 ∧ q.2 < 12) → ∀ q ∈ r_a C s m l acc, q.1 < 12 ∧ q.2 < 12
  | 0, l, acc, _, h => h
  | m + 1, l, acc, hl, h => by
    show ∀ q ∈ r_a C s m (l + 1) (r_b C s l (k_R C) 6 acc), _
    exact r_a_in hR (by omega) (r_b_in (by omega) (by omega) h)
theorem r_all_in (hok : okA A) : ∀ q ∈ r_all A, q.1 < 12 ∧ q.2 < 12 := by
  have h12 := hok.1.1
  exact r_a_in (by omega) (by omega) (fun q hq => by simp at hq)
theorem X12_rather_lp (hok : okA A) (hM : RelM I L A) {j : Nat} (hj : j < 2) {t : Option Nat} (ht : ∀ k, t = some k → k < 2147483648) {v2 : Int32} (hv : t ≠ none → v2 = nI j) : X12_rather_J22 215 (oI t) v2 (hp I L ρ) = (match t.bind fun k => (r_all A)[k]? with | some q => some (some (r_q (a_C A) j q), hp I L ρ) | none => X12_rather_J141 (oI t) (nI (r_all A).length) (hp I L ρ)) :=
  X12_ra_a hok hM hj ht hv (k_L (a_C A)) 0 zFU [] (by omega) (by have := hok.1.1; unfold zFU; omega) (Nat.zero_le _) (fun _ _ => Nat.zero_le _)
theorem neg_1 {v : Int32} (h : v < 0) (h1 : ¬ v = -1) : v < -1 := by
  rw [v_neg] at h
  rw [Int32.lt_iff_toInt_lt]
  rw [← Int32.toInt_inj] at h1
  have e : (-1 : Int32).toInt = -1 := by decide
  rw [e] at h1 ⊢
  omega
theorem rather_b (hok : okA A) (v w : Int32) : both (X11_rather 0 v w) (X12_rather 215 v w) A N := by
  have hk := hok.1
  have hX0 : ∀ {I L ρ}, RelX I L ρ A N → ∃ I', (∀ F, z_ci (X5_findRather 63 ρ.1 41) F (hp I L ρ) = F (nI (r_all A).length) (hp I' L ρ)) ∧ (∀ a, lastX a ∨ 215 ≤ a → I' a = I a) ∧ RelX I' L ρ A N ∧ raX I' (r_all A) ∧ (r_all A).length ≤ 36 := by
    intro I L ρ hX
    obtain ⟨I', e1, e2, e3, e4⟩ := X5_rather_h hok hX
    exact ⟨I', fun F => h_ci e1, fun a ha => e2 a (by unfold lastX at ha; omega), RelX_fr (fun a ha => e2 a (by unfold lastX at ha; omega)) rfl (Nat.le_refl _) hX, e3, e4⟩
  by_cases c1 : v = -1
  · refine both_same hok (.int (nI (r_all A).length)) (fun I L ρ hX => ?_) (fun I L ρ hM => ⟨I, L, ?_, fun _ _ => rfl, fun _ _ => rfl, fun _ _ => rfl⟩)
    · obtain ⟨I', e1, e2, -⟩ := hX0 hX
      refine ⟨I', ?_, e2⟩
      unfold X11_rather
      rw [gr_0_10, gr_0_5, gr_0_7, rc_63, e1, h_if, if_pos c1]; rfl
    · unfold X12_rather
      rw [c1, h_if, if_neg (by decide), h_if, if_pos rfl]
      rw [show X12_rather_J22 215 (-1) w (hp I L ρ) = _ from X12_rather_lp hok hM (j := 0) (by omega) (t := none) (fun k hk => by simp at hk) (fun hn => absurd rfl hn)]
      show X12_rather_J141 (-1) _ _ = _
      unfold X12_rather_J141
      rw [h_if, if_pos rfl]; rfl
  by_cases c2 : v < 0
  · refine both_same hok (.int (-1)) (fun I L ρ hX => ?_) (fun I L ρ hM => ⟨I, L, ?_, fun _ _ => rfl, fun _ _ => rfl, fun _ _ => rfl⟩)
    · obtain ⟨I', e1, e2, -⟩ := hX0 hX
      refine ⟨I', ?_, e2⟩
      unfold X11_rather
      rw [gr_0_10, gr_0_5, gr_0_7, rc_63, e1, h_if, if_neg c1, h_if, if_pos c2]; rfl
    · unfold X12_rather
      rw [h_if, if_pos (neg_1 c2 c1)]; rfl
  obtain ⟨k, hk2, rfl⟩ := Int32_of c2
  have hm1 : ¬ (nI k : Int32) < -1 := by
    rw [Int32.lt_iff_toInt_lt, nI_toI hk2, show (-1 : Int32).toInt = -1 by decide]; omega
  by_cases c3 : 0 ≤ w.toInt ∧ w.toInt ≤ 1
  · have c4 : ¬ w < 0 := by rw [v_neg]; omega
    obtain ⟨j, hj2, rfl⟩ := Int32_of c4
    rw [nI_toI hj2] at c3
    have hj : j < 2 := by omega
    have eM : ∀ {I L ρ}, RelM I L A → X12_rather 215 (nI k) (nI j) (hp I L ρ) = (match (r_all A)[k]? with | some q => some (some (r_q (a_C A) j q), hp I L ρ) | none => X12_rather_J141 (nI k) (nI (r_all A).length) (hp I L ρ)) := by
      intro I L ρ hM
      unfold X12_rather
      rw [h_if, if_neg hm1, h_if, if_neg c1, i64_of, show (0 : Int64) = cl 0 from rfl, h_ci (show X12_isIn _ _ 1 _ = _ from X12_isIn_h (b := 1) (i32_in _) (by omega) (by omega)), h_if, decide_eq_true (by rw [nI_toI (by omega)]; omega), if_neg (by decide)]
      exact X12_rather_lp hok hM hj (t := some k) (fun k' e => by simp at e; omega) (fun _ => rfl)
    have c4' : ¬ (1 : Int32) < nI j := by rw [show (1 : Int32) = nI 1 from rfl, nI_lt' (by omega) (by omega)]; omega
    have c5 : (nI j : Int32) ≤ 1 := by rw [show (1 : Int32) = nI 1 from rfl, nI_le' (by omega) (by omega)]; omega
    rcases q : (r_all A)[k]? with _ | q'
    · have hl := List.getElem?_eq_none_iff.mp q
      refine both_same hok (.int (-1)) (fun I L ρ hX => ?_) (fun I L ρ hM => ⟨I, L, ?_, fun _ _ => rfl, fun _ _ => rfl, fun _ _ => rfl⟩)
      · obtain ⟨I', e1, e2, e3, e4, e5⟩ := hX0 hX
        refine ⟨I', ?_, e2⟩
        unfold X11_rather
        rw [gr_0_10, gr_0_5, gr_0_7, rc_63, e1, h_if, if_neg c1, h_if, if_neg c2, h_if, if_pos ((nI_le' (by omega) (by omega)).mpr hl)]; rfl
      · rw [eM hM, q]
        show X12_rather_J141 (nI k) _ _ = _
        unfold X12_rather_J141
        rw [h_if, if_neg c1]; rfl
    · have hl := (List.getElem?_eq_some_iff.mp q).1
      have hin := r_all_in hok q' (List.mem_of_getElem? q)
      refine both_same hok (r_q (a_C A) j q') (fun I L ρ hX => ?_) (fun I L ρ hM => ⟨I, L, ?_, fun _ _ => rfl, fun _ _ => rfl, fun _ _ => rfl⟩)
      · obtain ⟨I', e1, e2, e3, e4, e5⟩ := hX0 hX
        refine ⟨I', ?_, e2⟩
        have hr := e4 k q' q
        unfold X11_rather
        rw [gr_0_10, gr_0_5, gr_0_7, rc_63, e1, h_if, if_neg c1, h_if, if_neg c2, h_if, if_neg (by rw [nI_le' (by omega) (by omega)]; omega), h_if, if_neg c4, h_if, if_pos c5, gr_0_5, gr_0_10, gr_63_1, show (2 : Int32) = nI 2 from rfl, pk_mul, nI_add, la_65 (by omega)]
        have hv : I' 65 (2 * k + j) = oI (some (if j = 0 then q'.1 else q'.2)) := by
          have hc : j = 0 ∨ j = 1 := by omega
          rcases hc with rfl | rfl
          · exact hr.1
          · exact hr.2
        rw [hv, rcc (cu_ρ e3), h_ci (XC_number e3 hk (fun a ha => by
          have e : (if j = 0 then q'.1 else q'.2) = a := by simpa using ha
          rw [← e]; split <;> omega))]; rfl
      · rw [eM hM, q]
  · have c6 : ¬ (0 ≤ w.toInt ∧ w.toInt ≤ 1) := c3
    refine both_same hok (.int (-1)) (fun I L ρ hX => ?_) (fun I L ρ hM => ⟨I, L, ?_, fun _ _ => rfl, fun _ _ => rfl, fun _ _ => rfl⟩)
    · obtain ⟨I', e1, e2, e3, e4, e5⟩ := hX0 hX
      refine ⟨I', ?_, e2⟩
      unfold X11_rather
      rw [gr_0_10, gr_0_5, gr_0_7, rc_63, e1, h_if, if_neg c1, h_if, if_neg c2, h_if]
      by_cases d : (nI (r_all A).length : Int32) ≤ nI k
      · rw [if_pos d]; rfl
      · rw [if_neg d, h_if]
        by_cases d2 : w < 0
        · rw [if_pos d2]; rfl
        · rw [if_neg d2, h_if, if_neg (by rw [Int32.le_iff_toInt_le, show (1 : Int32).toInt = 1 by decide]; rw [v_neg] at d2; omega)]; rfl
    · unfold X12_rather
      rw [h_if, if_neg hm1, h_if, if_neg c1, i64_of, show (0 : Int64) = cl 0 from rfl, h_ci (show X12_isIn _ _ 1 _ = _ from X12_isIn_h (b := 1) (i32_in _) (by omega) (by omega)), h_if, decide_eq_false c6, bF, if_pos rfl]; rfl
end B5j
