/-! rather: the loops -/
section B5i
variable {I I0 : Nat → Nat → Int32} {L L0 : Nat → Nat → Int64} {ρ : zRh} {h : zH} {A : aT} {N : Nat} {C : cT} {s : sT}
theorem X5_ra_a (hok : okA A) : ∀ (m l fuel : Nat) (I : Nat → Nat → Int32) (acc : List (Nat × Nat)), l + m = k_L (a_C A) → m < fuel → acc.length ≤ 6 * l → RelX I L ρ A N → raX I acc → ∃ I', z_fix (fun r x => X5_findRather_B5 63 ρ.1 41 r x.1 x.2) fuel (nI acc.length, nI l) (hp I L ρ) = some (some (.int (nI (r_a (a_C A) (a_s A) m l acc).length)), hp I' L ρ) ∧ (∀ x, x ≠ 65 → I' x = I x) ∧ raX I' (r_a (a_C A) (a_s A) m l acc) ∧ (r_a (a_C A) (a_s A) m l acc).length ≤ 36 := by
  have h12 := hok.1.1
  intro m
  induction m with
  | zero =>
    intro l fuel I acc h1 h2 h3 h4 h5
    obtain ⟨f, rfl⟩ : ∃ f, fuel = f + 1 := ⟨fuel - 1, by omega⟩
    refine ⟨I, ?_, fun _ _ => rfl, h5, by show acc.length ≤ 36; omega⟩
    rw [h_fix]
    show X5_findRather_B5 63 ρ.1 41 _ (nI acc.length) (nI l) (hp I L ρ) = some (some (.int (nI acc.length)), hp I L ρ)
    unfold X5_findRather_B5
    rw [gc_0 (cu_ρ h4), show (0 : Int32) = nI 0 from rfl, lac_1 (cu_ρ h4) (by omega), (cu_ch h4).1.1, h_if, if_pos (nI_le (by omega) (by omega))]; rfl
  | succ m ih =>
    intro l fuel I acc h1 h2 h3 h4 h5
    obtain ⟨f, rfl⟩ : ∃ f, fuel = f + 1 := ⟨fuel - 1, by omega⟩
    rw [h_fix]
    generalize hg : z_fix (fun r x => X5_findRather_B5 63 ρ.1 41 r x.1 x.2) f = rec
    obtain ⟨I1, e1, e2, e3, e4⟩ := X5_ra_b (L := L) (ρ := ρ) (r5 := rec) hok (l := l) (by omega) (k_R (a_C A)) 6 zFU I acc (by omega) (by unfold zFU; omega) (by omega) h4 h5
    have hX1 : RelX I1 L ρ A N := RelX_fr (fun x hx => e2 x (by unfold lastX at hx; omega)) rfl (Nat.le_refl _) h4
    obtain ⟨I', r1, r2, r3⟩ := ih (l + 1) f I1 _ (by omega) (by omega) (by omega) hX1 e3
    refine ⟨I', ?_, fun x hx => by rw [r2 x hx, e2 x hx], r3⟩
    show X5_findRather_B5 63 ρ.1 41 rec (nI acc.length) (nI l) (hp I L ρ) = _
    unfold X5_findRather_B5
    rw [gc_0 (cu_ρ h4), show (0 : Int32) = nI 0 from rfl, lac_1 (cu_ρ h4) (by omega), (cu_ch h4).1.1, h_if, if_neg (nI_ge (by omega) (by omega)), show (6 : Int32) = nI 6 from rfl, e1, ← hg]
    exact r1
def r_all (A : aT) : List (Nat × Nat) := r_a (a_C A) (a_s A) (k_L (a_C A)) 0 []
theorem X5_rather_h (hok : okA A) (hX : RelX I L ρ A N) : ∃ I', X5_findRather 63 ρ.1 41 (hp I L ρ) = some (some (.int (nI (r_all A).length)), hp I' L ρ) ∧ (∀ x, x ≠ 65 → I' x = I x) ∧ raX I' (r_all A) ∧ (r_all A).length ≤ 36 :=
  X5_ra_a hok (k_L (a_C A)) 0 zFU I [] (by omega) (by have := hok.1.1; unfold zFU; omega) (Nat.zero_le _) hX (fun i q hq => by simp at hq)
theorem r_b_pre {C : cT} {s : sT} {l : Nat} : ∀ {m r : Nat} {acc : List (Nat × Nat)}, acc.length ≤ (r_b C s l m r acc).length ∧ ∀ i, i < acc.length → (r_b C s l m r acc)[i]? = acc[i]?
  | 0, r, acc => ⟨Nat.le_refl _, fun _ _ => rfl⟩
  | m + 1, r, acc => by
    have h := r_b_pre (C := C) (s := s) (l := l) (m := m) (r := r + 1) (acc := if r_ok C s l r = true then acc ++ [(l, r)] else acc)
    have hl : acc.length ≤ (if r_ok C s l r = true then acc ++ [(l, r)] else acc).length := by
      split
      · rw [List.length_append]; omega
      · omega
    refine ⟨Nat.le_trans hl h.1, fun i hi => ?_⟩
    show (r_b C s l m (r + 1) (if r_ok C s l r = true then acc ++ [(l, r)] else acc))[i]? = acc[i]?
    rw [h.2 i (by omega)]
    split
    · rw [List.getElem?_append_left hi]
    · rfl
/-- whom the k-th one tells of -/
def r_q (C : cT) (j : Nat) (q : Nat × Nat) : Value := .int (nI (k_num C (if j = 0 then q.1 else q.2)))
theorem X12_ra_b (hok : okA A) (hM : RelM I L A) {l j : Nat} (hl : k_th (a_C A) l ∧ l < 6) (hj : j < 2) {t : Option Nat} (ht : ∀ k, t = some k → k < 2147483648) {v2 : Int32} (hv : t ≠ none → v2 = nI j) {r27 : Int32 × Int32 → zM} : ∀ (m r fuel : Nat) (acc : List (Nat × Nat)), r + m = 6 + k_R (a_C A) → 6 ≤ r → m < fuel → acc.length + m ≤ 1000 → (∀ k, t = some k → acc.length ≤ k) → z_fix (fun r x => X12_rather_B41 r27 215 (oI t) v2 (nI l) r x.1 x.2) fuel (nI acc.length, nI r) (hp I L ρ) = (match t.bind fun k => (r_b (a_C A) (a_s A) l m r acc)[k]? with | some q => some (some (r_q (a_C A) j q), hp I L ρ) | none => r27 (nI (r_b (a_C A) (a_s A) l m r acc).length, nI (l + 1)) (hp I L ρ)) := by
  have hk := hok.1
  have h12 := hk.1
  have hS := hok.2.2.1.1
  have h255 : I 255 (14 + l) = oI (s_wed (a_s A) l) := (hM.2.2.2.1.1.1.2.2 l hl.1).1
  intro m
  induction m with
  | zero =>
    intro r fuel acc h1 h0 h2 h3 h4
    obtain ⟨f, rfl⟩ : ∃ f, fuel = f + 1 := ⟨fuel - 1, by omega⟩
    have hn : (t.bind fun k => (r_b (a_C A) (a_s A) l 0 r acc)[k]?) = none := by
      rcases t with _ | k
      · rfl
      · exact List.getElem?_eq_none (h4 k rfl)
    rw [hn, h_fix]
    show X12_rather_B41 r27 215 (oI t) v2 (nI l) _ (nI acc.length) (nI r) (hp I L ρ) = r27 (nI acc.length, nI (l + 1)) _
    unfold X12_rather_B41 X12_rather_J135
    rw [rc_215, h_ci (X12_side1 hM.1), show (6 : Int32) = nI 6 from rfl, nI_add, h_if, if_pos (nI_le (by omega) (by omega)), nI_1]
  | succ m ih =>
    intro r fuel acc h1 h0 h2 h3 h4
    obtain ⟨f, rfl⟩ : ∃ f, fuel = f + 1 := ⟨fuel - 1, by omega⟩
    have hr : k_th (a_C A) r := Or.inr ⟨h0, by omega⟩
    have hi := fun acc h3 h4 => ih (r + 1) f acc (by omega) (by omega) (by omega) h3 h4
    rw [h_fix]
    generalize hg : z_fix (fun r x => X12_rather_B41 r27 215 (oI t) v2 (nI l) r x.1 x.2) f = rec at hi
    show X12_rather_B41 r27 215 (oI t) v2 (nI l) rec (nI acc.length) (nI r) (hp I L ρ) = (match t.bind fun k => (r_b (a_C A) (a_s A) l m (r + 1) (if r_ok (a_C A) (a_s A) l r = true then acc ++ [(l, r)] else acc))[k]? with | some q => some (some (r_q (a_C A) j q), hp I L ρ) | none => r27 (nI (r_b (a_C A) (a_s A) l m (r + 1) (if r_ok (a_C A) (a_s A) l r = true then acc ++ [(l, r)] else acc)).length, nI (l + 1)) (hp I L ρ))
    have e0 : X12_rather_B41 r27 215 (oI t) v2 (nI l) rec (nI acc.length) (nI r) (hp I L ρ) = (if r_ok (a_C A) (a_s A) l r = true then (if nI acc.length = oI t then X12_rather_J110 215 v2 (nI l) (nI r) (hp I L ρ) else rec (nI (acc.length + 1), nI (r + 1)) (hp I L ρ)) else rec (nI acc.length, nI (r + 1)) (hp I L ρ)) := by
      unfold X12_rather_B41 X12_rather_J129 r_ok
      rw [rc_215, h_ci (X12_side1 hM.1), show (6 : Int32) = nI 6 from rfl, nI_add, h_if, if_neg (nI_ge (by omega) (by omega)), rc_215, h_ci (X12_areKin_h hk hM.1 (by omega) (by omega) (by omega)), h_if]
      cases k_kn (a_C A) l r with
      | true => rw [if_neg (by decide), nI_1]; rfl
      | false =>
        rw [if_pos (by decide), gr_215_52, show (14 : Int32) = nI 14 from rfl, nI_add, la_255 (by omega), h255, h_if]
        by_cases cw : oI (s_wed (a_s A) l) = nI r
        · have hw : s_wed (a_s A) l = some r := by
            rcases q : s_wed (a_s A) l with _ | x
            · rw [q, oI_none] at cw; exact absurd cw.symm (nI_nm1 (by omega))
            · have hx := k_th_lt hk (hS.2.2.2.1 l x q).2.1
              rw [q, oI_some] at cw
              rw [(nI_inj (by omega) (by omega)).mp cw]
          have hp0 : p_pre (a_s A) l r = false := by
            unfold p_pre
            rw [hw]
            exact decide_eq_false (by omega)
          rw [if_pos cw, hp0, nI_1]; rfl
        · rw [if_neg cw, rc_215, h_ci (X12_pre_h hok hM hl.1 (by omega)), h_if]
          cases p_pre (a_s A) l r with
          | false => rw [if_pos (by decide), nI_1]; rfl
          | true =>
            rw [if_neg (by decide), rc_215, h_ci (X12_pre_h hok hM hr (by omega)), h_if]
            cases p_pre (a_s A) r l with
            | false => rw [if_pos (by decide), nI_1]; rfl
            | true => rw [if_neg (by decide), h_if, nI_1, nI_1]; rfl
    rw [e0]
    by_cases c : r_ok (a_C A) (a_s A) l r = true
    · rw [if_pos c, if_pos c]
      have hlen : (acc ++ [(l, r)]).length = acc.length + 1 := by rw [List.length_append]; rfl
      by_cases d : t = some acc.length
      · have hpre := (r_b_pre (C := a_C A) (s := a_s A) (l := l) (m := m) (r := r + 1) (acc := acc ++ [(l, r)])).2 acc.length (by omega)
        rw [List.getElem?_append_right (Nat.le_refl _), Nat.sub_self] at hpre
        have hb : (t.bind fun k => (r_b (a_C A) (a_s A) l m (r + 1) (acc ++ [(l, r)]))[k]?) = some (l, r) := by rw [d]; exact hpre
        rw [hb, if_pos (by rw [d]; rfl), hv (by rw [d]; simp)]
        unfold X12_rather_J110 X12_rather_J122 r_q
        rw [h_if]
        have hc : j = 0 ∨ j = 1 := by omega
        rcases hc with rfl | rfl
        · rw [if_pos (show (nI 0 : Int32) = 0 from rfl), rc_215, h_ci (X12_numberOf_h hk hM.1 (by omega))]; rfl
        · rw [if_neg (show ¬ (nI 1 : Int32) = 0 by decide), rc_215, h_ci (X12_numberOf_h hk hM.1 (by omega))]; rfl
      · have hne : ¬ nI acc.length = oI t := by
          rcases t with _ | k
          · exact nI_nm1 (by omega)
          · intro e
            have h5 := ht k rfl
            exact d (by rw [(nI_inj (by omega) h5).mp e])
        rw [if_neg hne, ← hlen]
        exact hi _ (by omega) (fun k hk2 => by
          have := h4 k hk2
          have : k ≠ acc.length := fun e => d (by rw [hk2, e])
          omega)
    · rw [if_neg c, if_neg c]
      exact hi _ (by omega) h4
theorem r_b_len {C : cT} {s : sT} {l : Nat} : ∀ {m r : Nat} {acc : List (Nat × Nat)}, (r_b C s l m r acc).length ≤ acc.length + m
  | 0, r, acc => Nat.le_refl _
  | m + 1, r, acc => by
    have h := r_b_len (C := C) (s := s) (l := l) (m := m) (r := r + 1) (acc := if r_ok C s l r = true then acc ++ [(l, r)] else acc)
    have hl : (if r_ok C s l r = true then acc ++ [(l, r)] else acc).length ≤ acc.length + 1 := by
      split
      · rw [List.length_append]; show acc.length + 1 ≤ _; omega
      · omega
    show (r_b C s l m (r + 1) (if r_ok C s l r = true then acc ++ [(l, r)] else acc)).length ≤ _
    omega
theorem r_a_pre {C : cT} {s : sT} : ∀ {m l : Nat} {acc : List (Nat × Nat)}, ∀ i, i < acc.length → (r_a C s m l acc)[i]? = acc[i]?
  | 0, l, acc, _, _ => rfl
  | m + 1, l, acc, i, hi => by
    have h := r_b_pre (C := C) (s := s) (l := l) (m := k_R C) (r := 6) (acc := acc)
    show (r_a C s m (l + 1) (r_b C s l (k_R C) 6 acc))[i]? = acc[i]?
    rw [r_a_pre i (by omega), h.2 i hi]
theorem X12_ra_a (hok : okA A) (hM : RelM I L A) {j : Nat} (hj : j < 2) {t : Option Nat} (ht : ∀ k, t = some k → k < 2147483648) {v2 : Int32} (hv : t ≠ none → v2 = nI j) : ∀ (m l fuel : Nat) (acc : List (Nat × Nat)), l + m = k_L (a_C A) → m < fuel → acc.length ≤ 6 * l → (∀ k, t = some k → acc.length ≤ k) → z_fix (fun r x => X12_rather_B27 215 (oI t) v2 r x.1 x.2) fuel (nI acc.length, nI l) (hp I L ρ) = (match t.bind fun k => (r_a (a_C A) (a_s A) m l acc)[k]? with | some q => some (some (r_q (a_C A) j q), hp I L ρ) | none => X12_rather_J141 (oI t) (nI (r_a (a_C A) (a_s A) m l acc).length) (hp I L ρ)) := by
  have h12 := hok.1.1
  intro m
  induction m with
  | zero =>
    intro l fuel acc h1 h2 h3 h4
    obtain ⟨f, rfl⟩ : ∃ f, fuel = f + 1 := ⟨fuel - 1, by omega⟩
    have hn : (t.bind fun k => (r_a (a_C A) (a_s A) 0 l acc)[k]?) = none := by
      rcases t with _ | k
      · rfl
      · exact List.getElem?_eq_none (h4 k rfl)
    rw [hn, h_fix]
    show X12_rather_B27 215 (oI t) v2 _ (nI acc.length) (nI l) (hp I L ρ) = X12_rather_J141 (oI t) (nI acc.length) (hp I L ρ)
    unfold X12_rather_B27
    rw [rc_215, h_ci (X12_side0 hM.1), h_if, if_pos (nI_le (by omega) (by omega))]
  | succ m ih =>
    intro l fuel acc h1 h2 h3 h4
    obtain ⟨f, rfl⟩ : ∃ f, fuel = f + 1 := ⟨fuel - 1, by omega⟩
    rw [h_fix]
    generalize hg : z_fix (fun r x => X12_rather_B27 215 (oI t) v2 r x.1 x.2) f = rec
    have hlb := r_b_len (C := a_C A) (s := a_s A) (l := l) (m := k_R (a_C A)) (r := 6) (acc := acc)
    have e1 := X12_ra_b (L := L) (ρ := ρ) (r27 := rec) hok hM (l := l) (j := j) ⟨Or.inl (by omega), by omega⟩ hj ht hv (k_R (a_C A)) 6 zFU acc (by omega) (by omega) (by unfold zFU; omega) (by omega) h4
    have e0 : X12_rather_B27 215 (oI t) v2 rec (nI acc.length) (nI l) (hp I L ρ) = (match t.bind fun k => (r_b (a_C A) (a_s A) l (k_R (a_C A)) 6 acc)[k]? with | some q => some (some (r_q (a_C A) j q), hp I L ρ) | none => rec (nI (r_b (a_C A) (a_s A) l (k_R (a_C A)) 6 acc).length, nI (l + 1)) (hp I L ρ)) := by
      rw [← e1]
      unfold X12_rather_B27
      rw [rc_215, h_ci (X12_side0 hM.1), h_if, if_neg (nI_ge (by omega) (by omega))]; rfl
    show X12_rather_B27 215 (oI t) v2 rec (nI acc.length) (nI l) (hp I L ρ) = (match t.bind fun k => (r_a (a_C A) (a_s A) m (l + 1) (r_b (a_C A) (a_s A) l (k_R (a_C A)) 6 acc))[k]? with | some q => some (some (r_q (a_C A) j q), hp I L ρ) | none => X12_rather_J141 (oI t) (nI (r_a (a_C A) (a_s A) m (l + 1) (r_b (a_C A) (a_s A) l (k_R (a_C A)) 6 acc)).length) (hp I L ρ))
    rw [e0]
    rcases hb : (t.bind fun k => (r_b (a_C A) (a_s A) l (k_R (a_C A)) 6 acc)[k]?) with _ | q
    · have hi := ih (l + 1) f (r_b (a_C A) (a_s A) l (k_R (a_C A)) 6 acc) (by omega) (by omega) (by omega) (fun k hk2 => by
        rw [hk2] at hb
        have hb2 : (r_b (a_C A) (a_s A) l (k_R (a_C A)) 6 acc)[k]? = none := hb
        exact List.getElem?_eq_none_iff.mp hb2)
      rw [hg] at hi
      exact hi
    · rcases t with _ | k
      · simp at hb
      · have hb2 : (r_b (a_C A) (a_s A) l (k_R (a_C A)) 6 acc)[k]? = some q := hb
        have hk2 := (List.getElem?_eq_some_iff.mp hb2).1
        have : (((some k).bind fun k => (r_a (a_C A) (a_s A) m (l + 1) (r_b (a_C A) (a_s A) l (k_R (a_C A)) 6 acc))[k]?) : Option (Nat × Nat)) = some q := by
          show (r_a (a_C A) (a_s A) m (l + 1) (r_b (a_C A) (a_s A) l (k_R (a_C A)) 6 acc))[k]? = some q
          rw [r_a_pre k hk2, hb2]
        rw [this]
end B5i
