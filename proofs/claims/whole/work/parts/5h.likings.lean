/-! likings: who would rather -/
section B5h
variable {I I0 : Nat → Nat → Int32} {L L0 : Nat → Nat → Int64} {ρ : zRh} {h : zH} {A : aT} {N : Nat} {C : cT} {s : sT}
/-- a would rather have b than whom a is wed to -/
def p_pre (s : sT) (a b : Nat) : Bool := match s_wed s a with | none => true | some x => decide (s_lik s (6 * a + x % 6) < s_lik s (6 * a + b % 6))
theorem X5_pre_h (hok : okA A) (hX : RelX I L ρ A N) {a b : Nat} (ha : a < 12) (hb : b < 12) : X5_prefers 41 (nI a) (nI b) (hp I L ρ) = some (some (.int (bI (p_pre (a_s A) a b))), hp I L ρ) := by
  have hS := hok.2.2.1.1
  have hl := hS.2.2.2.2.2
  unfold X5_prefers X5_prefers_J35 p_pre
  rw [gr_41_3, la_43 ha, hX.2.2.1.2.2.1 a ha, h_if]
  rcases q : s_wed (a_s A) a with _ | x
  · rw [oI_none, if_pos rfl, h_rb1]; rfl
  · have hx := k_th_lt hok.1 (hS.2.2.2.1 a x q).2.1
    have l1 := (hl (6 * a + b % 6) (by omega)).1
    have l2 := (hl (6 * a + x % 6) (by omega)).1
    rw [oI_some, if_neg (nI_nm1 (by omega)), gr_41_6, h_ci (X11_cell_h (by omega) (by omega)), la_46 (by omega), hX.2.2.1.2.2.2.2.2.1 _ (by omega), gr_41_6, h_ci (X11_cell_h (by omega) (by omega)), la_46 (by omega), hX.2.2.1.2.2.2.2.2.1 _ (by omega), h_if]
    simp only [nI_le' (show s_lik (a_s A) (6 * a + b % 6) < 2147483648 by omega) (show s_lik (a_s A) (6 * a + x % 6) < 2147483648 by omega)]
    by_cases c : s_lik (a_s A) (6 * a + b % 6) ≤ s_lik (a_s A) (6 * a + x % 6)
    · rw [if_pos c, h_rb0, decide_eq_false (by omega)]; rfl
    · rw [if_neg c, h_rb1, decide_eq_true (by omega)]; rfl
theorem X12_pre_h (hok : okA A) (hM : RelM I L A) {a b : Nat} (ha : k_th (a_C A) a) (hb : b < 12) : X12_isBetter 215 (nI a) (nI b) (hp I L ρ) = some (some (.int (bI (p_pre (a_s A) a b))), hp I L ρ) := by
  have hS := hok.2.2.1.1
  have hl := hS.2.2.2.2.2
  have ha12 := k_th_lt hok.1 ha
  obtain ⟨r1, r2, r3⟩ := hM.2.2.2.1.1.1.2.2 a ha
  have hw : I 255 (14 + a) = oI (s_wed (a_s A) a) := r1
  unfold X12_isBetter X12_isBetter_J46 p_pre
  rw [gr_215_52, show (14 : Int32) = nI 14 from rfl, nI_add, la_255 (by omega), hw, h_if]
  rcases q : s_wed (a_s A) a with _ | x
  · rw [oI_none, if_pos rfl, h_rb1]; rfl
  · have hx := k_th_lt hok.1 (hS.2.2.2.1 a x q).2.1
    have l1 := (hl (6 * a + b % 6) (by omega)).1
    have l2 := (hl (6 * a + x % 6) (by omega)).1
    rw [q, oI_some] at hw
    rw [oI_some, if_neg (nI_nm1 (by omega)), gr_215_52, rc_215, h_ci (X12_likingAt_h (by omega) (by omega)), la_255 (by omega), (r3 (b % 6) (by omega)).1, gr_215_52, gr_215_52, la_255 (by omega), hw, rc_215, h_ci (X12_likingAt_h (by omega) (by omega)), la_255 (by omega), (r3 (x % 6) (by omega)).1, h_if]
    simp only [nI_le' (show s_lik (a_s A) (6 * a + b % 6) < 2147483648 by omega) (show s_lik (a_s A) (6 * a + x % 6) < 2147483648 by omega)]
    by_cases c : s_lik (a_s A) (6 * a + b % 6) ≤ s_lik (a_s A) (6 * a + x % 6)
    · rw [if_pos c, h_rb0, decide_eq_false (by omega)]; rfl
    · rw [if_neg c, h_rb1, decide_eq_true (by omega)]; rfl
def r_ok (C : cT) (s : sT) (l r : Nat) : Bool := (! k_kn C l r) && (p_pre s l r && p_pre s r l)
def r_b (C : cT) (s : sT) (l : Nat) : Nat → Nat → List (Nat × Nat) → List (Nat × Nat)
  | 0, _, acc => acc
  | m + 1, r, acc => r_b C s l m (r + 1) (if r_ok C s l r = true then acc ++ [(l, r)] else acc)
def r_a (C : cT) (s : sT) : Nat → Nat → List (Nat × Nat) → List (Nat × Nat)
  | 0, _, acc => acc
  | m + 1, l, acc => r_a C s m (l + 1) (r_b C s l (k_R C) 6 acc)
def raX (I : Nat → Nat → Int32) (acc : List (Nat × Nat)) : Prop := ∀ i q, acc[i]? = some q → I 65 (2 * i) = nI q.1 ∧ I 65 (2 * i + 1) = nI q.2
theorem raX_add {acc : List (Nat × Nat)} {l r : Nat} (h : raX I acc) : raX (u2 (u2 I 65 (2 * acc.length) (nI l)) 65 (2 * acc.length + 1) (nI r)) (acc ++ [(l, r)]) := by
  intro i q hq
  by_cases c : i < acc.length
  · rw [List.getElem?_append_left c] at hq
    obtain ⟨h1, h2⟩ := h i q hq
    rw [u2_ap, if_neg (by omega), u2_ap, if_neg (by omega), u2_ap, if_neg (by omega), u2_ap, if_neg (by omega)]
    exact ⟨h1, h2⟩
  · have hl := (List.getElem?_eq_some_iff.mp hq).1
    rw [List.length_append] at hl
    have hl2 : i < acc.length + 1 := hl
    obtain rfl : i = acc.length := by omega
    rw [List.getElem?_append_right (Nat.le_refl _), Nat.sub_self] at hq
    have e : (l, r) = q := by simpa using hq
    rw [← e, u2_ap, if_neg (by omega), u2_ap, if_pos ⟨rfl, rfl⟩, u2_ap, if_pos ⟨rfl, rfl⟩]
    exact ⟨rfl, rfl⟩
theorem X5_ra_b (hok : okA A) {l : Nat} (hl : l < 6) {r5 : Int32 × Int32 → zM} : ∀ (m r fuel : Nat) (I : Nat → Nat → Int32) (acc : List (Nat × Nat)), r + m = 6 + k_R (a_C A) → m < fuel → acc.length + m ≤ 6 * (l + 1) → RelX I L ρ A N → raX I acc → ∃ I', z_fix (fun r x => X5_findRather_B20 r5 63 ρ.1 41 (nI l) r x.1 x.2) fuel (nI acc.length, nI r) (hp I L ρ) = r5 (nI (r_b (a_C A) (a_s A) l m r acc).length, nI (l + 1)) (hp I' L ρ) ∧ (∀ x, x ≠ 65 → I' x = I x) ∧ raX I' (r_b (a_C A) (a_s A) l m r acc) ∧ (r_b (a_C A) (a_s A) l m r acc).length ≤ acc.length + m := by
  have h12 := hok.1.1
  intro m
  induction m with
  | zero =>
    intro r fuel I acc h1 h2 h3 h4 h5
    obtain ⟨f, rfl⟩ : ∃ f, fuel = f + 1 := ⟨fuel - 1, by omega⟩
    refine ⟨I, ?_, fun _ _ => rfl, h5, by show acc.length ≤ _; omega⟩
    rw [h_fix]
    show X5_findRather_B20 r5 63 ρ.1 41 (nI l) _ (nI acc.length) (nI r) (hp I L ρ) = r5 (nI acc.length, nI (l + 1)) _
    unfold X5_findRather_B20 X5_findRather_J98
    rw [gc_0 (cu_ρ h4), show (1 : Int32) = nI 1 from rfl, lac_1 (cu_ρ h4) (by omega), (cu_ch h4).1.2, show (6 : Int32) = nI 6 from rfl, nI_add, h_if, if_pos (nI_le (by omega) (by omega)), nI_add]
  | succ m ih =>
    intro r fuel I acc h1 h2 h3 h4 h5
    obtain ⟨f, rfl⟩ : ∃ f, fuel = f + 1 := ⟨fuel - 1, by omega⟩
    have hkin := XC_areKin (L := L) h4 (show l < 12 by omega) (show r < 12 by omega)
    rw [h_fix]
    generalize hg : z_fix (fun r x => X5_findRather_B20 r5 63 ρ.1 41 (nI l) r x.1 x.2) f = rec
    have step : ∃ I1, X5_findRather_B20 r5 63 ρ.1 41 (nI l) rec (nI acc.length) (nI r) (hp I L ρ) = rec (nI (if r_ok (a_C A) (a_s A) l r = true then acc ++ [(l, r)] else acc).length, nI (r + 1)) (hp I1 L ρ) ∧ (∀ x, x ≠ 65 → I1 x = I x) ∧ raX I1 (if r_ok (a_C A) (a_s A) l r = true then acc ++ [(l, r)] else acc) := by
      have e0 : X5_findRather_B20 r5 63 ρ.1 41 (nI l) rec (nI acc.length) (nI r) (hp I L ρ) = (if r_ok (a_C A) (a_s A) l r = true then rec (nI (acc.length + 1), nI (r + 1)) (hp (u2 (u2 I 65 (2 * acc.length) (nI l)) 65 (2 * acc.length + 1) (nI r)) L ρ) else rec (nI acc.length, nI (r + 1)) (hp I L ρ)) := by
        unfold X5_findRather_B20 X5_findRather_J92 r_ok
        rw [gc_0 (cu_ρ h4), show (1 : Int32) = nI 1 from rfl, lac_1 (cu_ρ h4) (by omega), (cu_ch h4).1.2, show (6 : Int32) = nI 6 from rfl, nI_add, h_if, if_neg (nI_ge (by omega) (by omega)), rcc (cu_ρ h4), h_ci hkin, h_if]
        cases k_kn (a_C A) l r with
        | true => rw [if_neg (by decide), nI_add]; rfl
        | false =>
          rw [if_pos (by decide), h_ci (X5_pre_h hok h4 (by omega) (by omega)), h_if]
          cases p_pre (a_s A) l r with
          | false => rw [if_pos (by decide), nI_add]; rfl
          | true =>
            rw [if_neg (by decide), h_ci (X5_pre_h hok h4 (by omega) (by omega)), h_if]
            cases p_pre (a_s A) r l with
            | false => rw [if_pos (by decide), nI_add]; rfl
            | true => rw [if_neg (by decide), gr_63_1, show (2 : Int32) = nI 2 from rfl, pk_mul, nI_add, sa_65 (by omega), gr_63_1, sa_65 (by omega), nI_add, nI_add]; rfl
      by_cases c : r_ok (a_C A) (a_s A) l r = true
      · refine ⟨u2 (u2 I 65 (2 * acc.length) (nI l)) 65 (2 * acc.length + 1) (nI r), ?_, fun x hx => by rw [u2r hx, u2r hx], by rw [if_pos c]; exact raX_add h5⟩
        rw [e0, if_pos c, if_pos c, List.length_append]; rfl
      · refine ⟨I, ?_, fun _ _ => rfl, by rw [if_neg c]; exact h5⟩
        rw [e0, if_neg c, if_neg c]
    obtain ⟨I1, e1, e2, e3⟩ := step
    have hlen : (if r_ok (a_C A) (a_s A) l r = true then acc ++ [(l, r)] else acc).length ≤ acc.length + 1 := by
      split
      · rw [List.length_append]; show acc.length + 1 ≤ _; omega
      · omega
    have hX1 : RelX I1 L ρ A N := RelX_fr (fun x hx => e2 x (by unfold lastX at hx; omega)) rfl (Nat.le_refl _) h4
    obtain ⟨I', r1, r2, r3, r4⟩ := ih (r + 1) f I1 _ (by omega) (by omega) (by omega) hX1 e3
    refine ⟨I', ?_, fun x hx => by rw [r2 x hx, e2 x hx], r3, by show (r_b (a_C A) (a_s A) l m (r + 1) _).length ≤ _; omega⟩
    show X5_findRather_B20 r5 63 ρ.1 41 (nI l) rec (nI acc.length) (nI r) (hp I L ρ) = _
    rw [e1, ← hg]
    exact r1
end B5h
