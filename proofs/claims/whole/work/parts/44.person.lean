/-! person, pair -/
section B44
variable {I : Nat → Nat → Int32} {L : Nat → Nat → Int64} {ρ : zRh} {h : zH} {A : aT} {N : Nat} {C : cT} {s : sT}
theorem inj_surj : ∀ (n : Nat) (f : Nat → Nat), (∀ i, i < n → f i < n) → (∀ i j, i < n → j < n → f i = f j → i = j) → ∀ a, a < n → ∃ i, i < n ∧ f i = a := by
  intro n
  induction n with
  | zero => intro f _ _ a ha; omega
  | succ n ih =>
    intro f h1 h2 a ha
    have hc := h1 n (by omega)
    obtain ⟨g, hg⟩ : ∃ g : Nat → Nat, ∀ i, g i = if f i = n then f n else f i := ⟨_, fun _ => rfl⟩
    have g1 : ∀ i, i < n → g i < n := by
      intro i hi
      rw [hg]
      have := h1 i (by omega)
      have q := h2 i n (by omega) (by omega)
      split <;> omega
    have g2 : ∀ i j, i < n → j < n → g i = g j → i = j := by
      intro i j hi hj
      rw [hg, hg]
      have q1 := h2 i n (by omega) (by omega)
      have q2 := h2 j n (by omega) (by omega)
      have q3 := h2 i j (by omega) (by omega)
      split <;> split <;> intro e <;> omega
    have key : ∀ b, b < n → b ≠ f n → ∃ i, i < n ∧ f i = b := by
      intro b hb hbn
      obtain ⟨i, hi, e⟩ := ih g g1 g2 b hb
      rw [hg] at e
      refine ⟨i, hi, ?_⟩
      split at e
      · omega
      · exact e
    by_cases c : a = f n
    · exact ⟨n, by omega, c.symm⟩
    · by_cases c2 : a < n
      · obtain ⟨i, hi, e⟩ := key a c2 c
        exact ⟨i, by omega, e⟩
      · -- a = n, and f n is below n: then g reaches f n only from where f is n
        obtain ⟨i, hi, e⟩ := ih g g1 g2 (f n) (by omega)
        rw [hg] at e
        have q := h2 i n (by omega) (by omega)
        split at e
        · exact ⟨i, by omega, by omega⟩
        · omega
/-- each who is there stands at one place -/
theorem ord_at (hk : okC C) (hS : okS C s) {a : Nat} (ha : k_th C a) : ∃ k, k < k_n C (a / 6) ∧ s_ord s (6 * (a / 6) + k) = a ∧ (∀ i, i < k → s_ord s (6 * (a / 6) + i) ≠ a) ∧ k < 6 := by
  have h12 := hk.1
  have ha12 := k_th_lt hk ha
  have hside : a / 6 < 2 := by omega
  have hn6 := k_n_le hk (a / 6)
  have hth : ∀ i, i < k_n C (a / 6) → k_th C (6 * (a / 6) + i) := fun i hi => k_th_of hside hi
  have hrng : ∀ x, k_th C x → (x < 6 ↔ a < 6) → 6 * (a / 6) ≤ x ∧ x - 6 * (a / 6) < k_n C (a / 6) := by
    intro x hx hxa
    unfold k_n
    unfold k_th at hx
    have hx12 := k_th_lt hk hx
    by_cases c : a < 6
    · rw [show a / 6 = 0 by omega, if_pos rfl]; omega
    · rw [show a / 6 = 1 by omega, if_neg (by omega)]; omega
  have f1 : ∀ i, i < k_n C (a / 6) → s_ord s (6 * (a / 6) + i) - 6 * (a / 6) < k_n C (a / 6) ∧ 6 * (a / 6) ≤ s_ord s (6 * (a / 6) + i) := by
    intro i hi
    obtain ⟨q1, q2⟩ := hS.2.1 _ (hth i hi)
    have := hrng _ q1 (by rw [← q2]; omega)
    exact ⟨this.2, this.1⟩
  obtain ⟨k, hk1, hk2⟩ := inj_surj (k_n C (a / 6)) (fun i => s_ord s (6 * (a / 6) + i) - 6 * (a / 6)) (fun i hi => (f1 i hi).1) (fun i j hi hj e => by
    have e2 := hS.2.2.1 _ _ (hth i hi) (hth j hj) (by have q1 := (f1 i hi).2; have q2 := (f1 j hj).2; omega)
    omega) (a - 6 * (a / 6)) (hrng a ha Iff.rfl).2
  have hk3 : s_ord s (6 * (a / 6) + k) = a := by
    have := (f1 k hk1).2
    omega
  refine ⟨k, hk1, hk3, fun i hi e => ?_, by omega⟩
  have := hS.2.2.1 _ _ (hth i (by omega)) (hth k hk1) (by rw [e, hk3])
  omega
theorem X8_place_lp {a k side m0 : Nat} (hm : k < m0 ∧ m0 ≤ 6) (hside : side < 2) (ha : a < 12) (h1 : I 42 (6 * side + k) = nI a) (h2 : ∀ i, i < k → I 42 (6 * side + i) ≠ nI a) : ∀ (m i fuel : Nat), i + m = k → m < fuel → z_fix (fun r x => X8_place_B8 41 (nI a) (nI m0) (nI side) r x) fuel (nI i) (hp I L ρ) = some (some (.int (nI k)), hp I L ρ) := by
  intro m
  induction m with
  | zero =>
    intro i fuel q1 q2
    obtain ⟨g, rfl⟩ : ∃ g, fuel = g + 1 := ⟨fuel - 1, by omega⟩
    obtain rfl : i = k := by omega
    rw [h_fix]
    show X8_place_B8 41 (nI a) (nI m0) (nI side) _ (nI i) (hp I L ρ) = _
    unfold X8_place_B8
    rw [h_if, if_neg (nI_ge hm.1 (by omega)), h_if, if_neg (show ¬ (6 : Int32) ≤ nI i from nI_ge (b := 6) (by omega) (by omega)), gr_41_2, show (6 : Int32) = nI 6 from rfl, pk_mul, nI_add, Nat.mul_comm side 6, la_42 (by omega), h_if, if_pos h1]; rfl
  | succ m ih =>
    intro i fuel q1 q2
    obtain ⟨g, rfl⟩ : ∃ g, fuel = g + 1 := ⟨fuel - 1, by omega⟩
    rw [h_fix]
    generalize hg : z_fix (fun r x => X8_place_B8 41 (nI a) (nI m0) (nI side) r x) g = rec
    show X8_place_B8 41 (nI a) (nI m0) (nI side) rec (nI i) (hp I L ρ) = _
    unfold X8_place_B8
    rw [h_if, if_neg (nI_ge (by omega) (by omega)), h_if, if_neg (show ¬ (6 : Int32) ≤ nI i from nI_ge (b := 6) (by omega) (by omega)), gr_41_2, show (6 : Int32) = nI 6 from rfl, pk_mul, nI_add, Nat.mul_comm side 6, la_42 (by omega), h_if, if_neg (h2 i (by omega)), nI_1, ← hg]
    exact ih (i + 1) g (by omega) (by omega)
theorem X12_place_lp {a k : Nat} (hk6 : k < 6) (ha : a < 12) (h1 : I 255 (2 + 6 * (a / 6) + k) = nI (a % 6)) (h2 : ∀ i, i < k → I 255 (2 + 6 * (a / 6) + i) ≠ nI (a % 6)) : ∀ (m i fuel : Nat), i + m = k → m < fuel → z_fix (fun r x => X12_placeOf_B12 215 (nI a) (nI (2 + 6 * (a / 6))) r x) fuel (nI i) (hp I L ρ) = some (some (.int (nI k)), hp I L ρ) := by
  intro m
  induction m with
  | zero =>
    intro i fuel q1 q2
    obtain ⟨g, rfl⟩ : ∃ g, fuel = g + 1 := ⟨fuel - 1, by omega⟩
    obtain rfl : i = k := by omega
    rw [h_fix]
    show X12_placeOf_B12 215 (nI a) (nI (2 + 6 * (a / 6))) _ (nI i) (hp I L ρ) = _
    unfold X12_placeOf_B12
    rw [gr_215_52, nI_add, la_255 (by omega), h_ck (by decide), h_if, show (6 : Int32) = nI 6 from rfl, pk_rem (by omega) (by omega) (by omega), if_pos h1]; rfl
  | succ m ih =>
    intro i fuel q1 q2
    obtain ⟨g, rfl⟩ : ∃ g, fuel = g + 1 := ⟨fuel - 1, by omega⟩
    rw [h_fix]
    generalize hg : z_fix (fun r x => X12_placeOf_B12 215 (nI a) (nI (2 + 6 * (a / 6))) r x) g = rec
    show X12_placeOf_B12 215 (nI a) (nI (2 + 6 * (a / 6))) rec (nI i) (hp I L ρ) = _
    unfold X12_placeOf_B12
    rw [gr_215_52, nI_add, la_255 (by omega), h_ck (by decide), h_if, show (6 : Int32) = nI 6 from rfl, pk_rem (by omega) (by omega) (by omega), if_neg (h2 i (by omega)), nI_1, ← hg]
    exact ih (i + 1) g (by omega) (by omega)
theorem XC_give (hok : okA A) (hX : RelX I L ρ A N) : ∃ I', X10_giveHands 48 41 (hp I L ρ) = some (none, hp I' L ρ) ∧ (∀ a, a ≠ 49 → a ≠ 52 → I' a = I a) ∧ ∀ j, j < 12 → I' 49 j = oI (p_hold (a_C A) (a_s A) j) := by
  have hC := cu_ch hX
  have hw := cu_w hX
  rcases cu_ρ hX with e | e
  · rw [e] at hC hw; exact X10_give_13_41 hok.1 hok.2.2.1.1 hw hC hX.2.2.1
  · rw [e] at hC hw; exact X10_give_27_41 hok.1 hok.2.2.1.1 hw hC hX.2.2.1
theorem XC_feel (hok : okA A) (hX : RelX I L ρ A N) {a b : Nat} (ha : a < 12) (hb : b < 12) : ∃ I', X10_feel 48 41 (nI a) (nI b) (hp I L ρ) = some (some (.int (ci (p_feel (a_C A) (a_s A) a b))), hp I' L ρ) ∧ (∀ x, x ≠ 51 → x ≠ 26 → x ≠ 40 → I' x = I x) ∧ ∀ k, k < 9 → I' 51 k = ci (p_fy (a_C A) (a_s A) a b k) := by
  have hC := cu_ch hX
  have hw := cu_w hX
  have hB := okS_bn hok.1 hok.2.2.1.1
  rcases cu_ρ hX with e | e
  · rw [e] at hC hw
    obtain ⟨I', q1, q2, q3⟩ := X10_feel_13_41 (L := L) (ρ := ρ) hok.1 hB hw hC hX.2.2.1 ha hb
    exact ⟨I', q1, fun x h1 h2 h3 => q2 x (by omega) (by omega), q3⟩
  · rw [e] at hC hw
    obtain ⟨I', q1, q2, q3⟩ := X10_feel_27_41 (L := L) (ρ := ρ) hok.1 hB hw hC hX.2.2.1 ha hb
    exact ⟨I', q1, fun x h1 h2 h3 => q2 x (by omega) (by omega), q3⟩
theorem XC_letsGo (hok : okA A) (hX : RelX I L ρ A N) {a b : Nat} (ha : a < 12) (hb : b < 12) (hf : ∀ k, k < 9 → I 51 k = ci (p_fy (a_C A) (a_s A) a b k)) : ∃ I', X10_letsGo 48 (hp I L ρ) = some (some (.int (bI (p_lets (a_C A) (a_s A) a b))), hp I' L ρ) ∧ ∀ x, x ≠ 26 → x ≠ 40 → I' x = I x := by
  have hC := cu_ch hX
  have hw := cu_w hX
  have hB := okS_bn hok.1 hok.2.2.1.1
  rcases cu_ρ hX with e | e
  · rw [e] at hC hw
    obtain ⟨I', q1, q2⟩ := X10_letsGo_13 (L := L) (ρ := ρ) hok.1 hB hw hC ha hb hf
    exact ⟨I', q1, fun x h1 h2 => q2 x (by omega)⟩
  · rw [e] at hC hw
    obtain ⟨I', q1, q2⟩ := X10_letsGo_27 (L := L) (ρ := ρ) hok.1 hB hw hC ha hb hf
    exact ⟨I', q1, fun x h1 h2 => q2 x (by omega)⟩
theorem hold_lt (hk : okC C) (hS : okS C s) {a b : Nat} (h : p_hold C s a = some b) : b < 12 := (p_hold_spec hk hS h).2.1.2
theorem X12_told_h (hk : okC C) (hM : chM I C) {o : Option Nat} (ho : ∀ b, o = some b → b < 12) : X12_toldOf 215 (oI o) (hp I L ρ) = some (some (.int (oI (o.map (k_num C)))), hp I L ρ) := by
  unfold X12_toldOf
  rw [h_if]
  rcases o with _ | b
  · rw [oI_none, if_pos rfl]; rfl
  · have := ho b rfl
    rw [oI_some, if_neg (nI_nm1 (by omega)), rc_215, h_ci (X12_numberOf_h hk hM (by omega))]; rfl
theorem person_of (hok : okA A) {p a j : Nat} (hp2 : p < 12) (q : k_sl (a_C A) (nI p) = some a) (hj : j ≤ 6) (r : Int32) (h1 : ∀ I L ρ, RelX I L ρ A N → ∃ I', X11_person_S17 0 (nI a) j (hp I L ρ) = some (some (.int r), hp I' L ρ) ∧ ∀ x, lastX x ∨ 215 ≤ x → I' x = I x) (h2 : ∀ I L ρ, RelM I L A → (∀ k, k < 12 → I 256 k = oI (p_hold (a_C A) (a_s A) k)) → X12_person_S16 215 (nI p) (nI j) j (hp I L ρ) = some (some (.int r), hp I L ρ)) : both (X11_person 0 (nI p) (nI j)) (X12_person 215 (nI p) (nI j)) A N := by
  have hk := hok.1
  have ha : a < 12 := by
    rcases k_sl_c hk (nI p) with ⟨q0, -⟩ | ⟨a', p', q0, -, -, -, -, -, q5⟩
    · rw [q0] at q; simp at q
    · rw [q0] at q; simp at q; omega
  refine both_same hok (.int r) (fun I L ρ hX => ?_) (fun I L ρ hM => ?_)
  · obtain ⟨I', e1, e2⟩ := h1 I L ρ hX
    refine ⟨I', ?_, e2⟩
    unfold X11_person
    rw [gr_0_5, rcc (cu_ρ hX), h_ci (XC_slot hX hk _), q, oI_some, h_if, if_neg (nI_nm1 (by omega)), h_if, if_neg (by rw [nI_toI (by omega)]; omega), nI_toI (by omega), show ((j : Int) - 0).toNat = j by omega]
    exact e1
  · obtain ⟨I', e1, e2, e3⟩ := X12_lays_h (L := L) (ρ := ρ) hk hok.2.2.1.1 hM.1 (RelM_st hok hM)
    have hM1 : RelM I' L A := RelM_fr (fun x hx => e2 x (by unfold lastM at hx; omega) (by unfold lastM at hx; omega)) (fun k _ => by rw [e2 215 (by omega) (by omega)]) (fun _ _ => rfl) hM
    refine ⟨I', L, ?_, fun x hx => e2 x (by unfold lastM at hx; omega) (by unfold lastM at hx; omega), fun k _ => by rw [e2 215 (by omega) (by omega)], fun _ _ => rfl⟩
    unfold X12_person
    rw [rc_215, h_ci (X12_isPerson_v hk hM.1 _), q, bI_some, h_if, if_neg (by decide), rc_215, h_cv e1, h_if, if_neg (by rw [nI_toI (by omega)]; omega), nI_toI (by omega), show ((j : Int) - 0).toNat = j by omega]
    exact h2 I' L ρ hM1 e3
theorem person_b (hok : okA A) (v w : Int32) : both (X11_person 0 v w) (X12_person 215 v w) A N := by
  have hk := hok.1
  have h12 := hk.1
  have hS := hok.2.2.1.1
  have hB := okS_bn hk hS
  rcases k_sl_c hk v with ⟨q, q1⟩ | ⟨a, p, q, rfl, q1, q2, q3, q4, q5⟩
  · refine both_still hok (.int (-1)) (fun I L ρ hX => ?_) (fun I L ρ hM => ?_)
    · unfold X11_person
      rw [gr_0_5, rcc (cu_ρ hX), h_ci (XC_slot hX hk v), q, oI_none, h_if, if_pos rfl]; rfl
    · unfold X12_person
      rw [rc_215, h_ci (X12_isPerson_v hk hM.1 _), q, bI_none, h_if, if_pos rfl]; rfl
  · by_cases c : w.toInt < 0 ∨ 6 < w.toInt
    · refine both_same hok (.int (-1)) (fun I L ρ hX => ⟨I, ?_, fun _ _ => rfl⟩) (fun I L ρ hM => ?_)
      · unfold X11_person
        rw [gr_0_5, rcc (cu_ρ hX), h_ci (XC_slot hX hk _), q, oI_some, h_if, if_neg (nI_nm1 (by omega)), h_if, if_pos c]; rfl
      · obtain ⟨I', e1, e2, e3⟩ := X12_lays_h (L := L) (ρ := ρ) hk hS hM.1 (RelM_st hok hM)
        refine ⟨I', L, ?_, fun x hx => e2 x (by unfold lastM at hx; omega) (by unfold lastM at hx; omega), fun k _ => by rw [e2 215 (by omega) (by omega)], fun _ _ => rfl⟩
        unfold X12_person
        rw [rc_215, h_ci (X12_isPerson_v hk hM.1 _), q, bI_some, h_if, if_neg (by decide), rc_215, h_cv e1, h_if, if_pos c]; rfl
    · obtain ⟨j, hj, rfl⟩ := Int32_of (v := w) (by rw [v_neg]; omega)
      rw [nI_toI hj] at c
      have hc : j = 0 ∨ j = 1 ∨ j = 2 ∨ j = 3 ∨ j = 4 ∨ j = 5 ∨ j = 6 := by omega
      rcases hc with rfl | rfl | rfl | rfl | rfl | rfl | rfl
      · refine person_of hok (by omega) q (by omega) (nI (k_warm (a_C A) a)) (fun I L ρ hX => ⟨I, ?_, fun _ _ => rfl⟩) (fun I L ρ hM hH => ?_)
        · rw [X11_person_S17_0, gr_0_5, gc_2 (cu_ρ hX), lac_3 (cu_ρ hX) q5, (cu_ch hX).2.2.1 a q5]; rfl
        · show X12_person_J60 215 (nI p) 0 _ = _
          unfold X12_person_J60
          rw [rc_215, ← q4, h_ci (X12_hand0 hk hM.1 q3)]; rfl
      · refine person_of hok (by omega) q (by omega) (nI (k_work (a_C A) a)) (fun I L ρ hX => ⟨I, ?_, fun _ _ => rfl⟩) (fun I L ρ hM hH => ?_)
        · rw [X11_person_S17_1, gr_0_5, gc_3 (cu_ρ hX), lac_4 (cu_ρ hX) q5, (cu_ch hX).2.2.2.1 a q5]; rfl
        · show X12_person_J60 215 (nI p) 1 _ = _
          unfold X12_person_J60
          rw [rc_215, ← q4, h_ci (X12_hand1 hk hM.1 q3)]; rfl
      · refine person_of hok (by omega) q (by omega) (nI (k_size (a_C A) a)) (fun I L ρ hX => ⟨I, ?_, fun _ _ => rfl⟩) (fun I L ρ hM hH => ?_)
        · rw [X11_person_S17_2, gr_0_5, gc_4 (cu_ρ hX), lac_5 (cu_ρ hX) q5, (cu_ch hX).2.2.2.2.1 a q5]; rfl
        · show X12_person_J60 215 (nI p) 2 _ = _
          unfold X12_person_J60
          rw [rc_215, ← q4, h_ci (X12_hand2 hk hM.1 (RelM_st hok hM) q3), hok.2.2.1.2.2 a q5]; rfl
      · have hw : ∀ b, s_wed (a_s A) a = some b → b < 12 := fun b e => k_th_lt hk (hS.2.2.2.1 a b e).2.1
        refine person_of hok (by omega) q (by omega) (oI ((s_wed (a_s A) a).map (k_num (a_C A)))) (fun I L ρ hX => ⟨I, ?_, fun _ _ => rfl⟩) (fun I L ρ hM hH => ?_)
        · rw [X11_person_S17_3, gr_0_5, gr_0_7, gr_41_3, la_43 q5, hX.2.2.1.2.2.1 a q5, rcc (cu_ρ hX), h_ci (XC_number hX hk hw)]; rfl
        · rw [X12_person_S16_3, rc_215, ← q4, h_ci (X12_wedTo_h hk hM.1 (RelM_st hok hM) q3), rc_215, h_ci (X12_told_h hk hM.1 hw)]; rfl
      · refine person_of hok (by omega) q (by omega) (nI (s_wai (a_s A) a)) (fun I L ρ hX => ⟨I, ?_, fun _ _ => rfl⟩) (fun I L ρ hM hH => ?_)
        · rw [X11_person_S17_4, gr_0_7, gr_41_4, la_44 q5, hX.2.2.1.2.2.2.1 a q5]; rfl
        · rw [X12_person_S16_4, rc_215, ← q4, h_ci (X12_waitedOf_h hk hM.1 (RelM_st hok hM) q3)]; rfl
      · obtain ⟨k, k1, k2, k3, k4⟩ := ord_at hk hS q3
        have hn6 := k_n_le hk (a / 6)
        refine person_of hok (by omega) q (by omega) (nI k) (fun I L ρ hX => ⟨I, ?_, fun _ _ => rfl⟩) (fun I L ρ hM hH => ?_)
        · have hside : (if 6 ≤ a then (1 : Int32) else 0) = nI (a / 6) := by
            by_cases c6 : 6 ≤ a
            · rw [if_pos c6, show a / 6 = 1 by omega]; rfl
            · rw [if_neg c6, show a / 6 = 0 by omega]; rfl
          have hcnt : I (ρ.1 + 1) (a / 6) = nI (k_n (a_C A) (a / 6)) := by
            have := (cu_ch hX).1
            unfold k_n
            by_cases c6 : 6 ≤ a
            · rw [show a / 6 = 1 by omega, if_neg (by omega)]; exact this.2
            · rw [show a / 6 = 0 by omega, if_pos rfl]; exact this.1
          have hpl := X8_place_lp (I := I) (L := L) (ρ := ρ) (a := a) (k := k) (side := a / 6) (m0 := k_n (a_C A) (a / 6)) ⟨k1, hn6⟩ (by omega) q5 (by rw [hX.2.2.1.2.1 _ (by omega), k2]) (fun i hi e => by
            rw [hX.2.2.1.2.1 _ (by omega)] at e
            have h3 := k3 i hi
            have hth := (hS.2.1 _ (k_th_of (C := a_C A) (side := a / 6) (k := i) (by omega) (by omega))).1
            exact h3 ((nI_inj (by have := k_th_lt hk hth; omega) (by omega)).mp e)) k 0 zFU (by omega) (by unfold zFU; omega)
          have hpl2 : X8_place 41 (nI a) (nI (k_n (a_C A) (a / 6))) (hp I L ρ) = some (some (.int (nI k)), hp I L ρ) := by
            unfold X8_place
            rw [h_ci (X11_sideOf_h (by omega)), hside]
            exact hpl
          rw [X11_person_S17_5, gr_0_7, gr_0_5, gc_0 (cu_ρ hX), h_ci (X11_sideOf_h (by omega)), hside, lac_1 (cu_ρ hX) (by omega), hcnt, rc_41, h_ci hpl2]; rfl
        · have hrow : ∀ i, i < k_n (a_C A) (a / 6) → I 255 (2 + 6 * (a / 6) + i) = nI (s_ord (a_s A) (6 * (a / 6) + i) - 6 * (a / 6)) := fun i hi => hM.2.2.2.1.1.1.2.1 (a / 6) i (by omega) hi
          have hpl := X12_place_lp (I := I) (L := L) (ρ := ρ) (a := a) (k := k) k4 q5 (by rw [hrow k k1, k2]; congr 1; omega) (fun i hi e => by
            rw [hrow i (by omega)] at e
            have h3 := k3 i hi
            have hth := hS.2.1 _ (k_th_of (C := a_C A) (side := a / 6) (k := i) (by omega) (by omega))
            have hlt := k_th_lt hk hth.1
            have e2 := (nI_inj (by omega) (by omega)).mp e
            omega) k 0 zFU (by omega) (by unfold zFU; omega)
          rw [X12_person_S16_5, rc_215, h_ci (X12_codeOf_h hk hM.1 (by omega)), ← q2, rc_215]
          unfold z_ci X12_placeOf
          rw [h_ck (by decide), show (6 : Int32) = nI 6 from rfl, pk_div (by omega) (by omega) (by omega), pk_mul, show (2 : Int32) = nI 2 from rfl, nI_add, show (0 : Int32) = nI 0 from rfl, hpl]; rfl
      · have hw : ∀ b, p_hold (a_C A) (a_s A) a = some b → b < 12 := fun b e => hold_lt hk hS e
        refine person_of hok (by omega) q (by omega) (oI ((p_hold (a_C A) (a_s A) a).map (k_num (a_C A)))) (fun I L ρ hX => ?_) (fun I L ρ hM hH => ?_)
        · obtain ⟨I', e1, e2, e3⟩ := XC_give hok hX
          have hX1 : RelX I' L ρ A N := RelX_fr (fun x hx => e2 x (by unfold lastX at hx; omega) (by unfold lastX at hx; omega)) rfl (Nat.le_refl _) hX
          refine ⟨I', ?_, fun x hx => e2 x (by unfold lastX at hx; omega) (by unfold lastX at hx; omega)⟩
          rw [X11_person_S17_6, gr_0_8, gr_0_7, rc_48, h_cv e1, gr_0_5, gr_0_8, gr_48_1, la_49 q5, e3 a q5, rcc (cu_ρ hX1), h_ci (XC_number hX1 hk hw)]; rfl
        · rw [X12_person_S16_6, gr_215_61, rc_215, h_ci (X12_codeOf_h hk hM.1 (by omega)), ← q2, la_256 q5, hH a q5, rc_215, h_ci (X12_told_h hk hM.1 hw)]; rfl
/-! pair -/
theorem k_ac_c (hk : okC C) (v w : Int32) : k_ac C v w = none ∨ ∃ a b p o, (k_sl C v = some a ∧ k_sl C w = some b ∧ k_ac C v w = some b) ∧ (v = nI p ∧ w = nI o ∧ p < 12 ∧ o < 12) ∧ (a = k_cd C p ∧ b = k_cd C o) ∧ (k_th C a ∧ k_th C b ∧ a < 12 ∧ b < 12) ∧ (k_num C a = p ∧ k_num C b = o) ∧ (a < 6 ↔ 6 ≤ b) := by
  have h12 := hk.1
  unfold k_ac
  rcases k_sl_c hk v with ⟨q, -⟩ | ⟨a, p, q, q0, q1, q2, q3, q4, q5⟩
  · rw [q]; exact Or.inl rfl
  · rcases k_sl_c hk w with ⟨r, -⟩ | ⟨b, o, r, r0, r1, r2, r3, r4, r5⟩
    · rw [q, r]; exact Or.inl rfl
    · rw [q, r]
      by_cases c : a < 6 ↔ b < 6
      · exact Or.inl (if_pos c)
      · exact Or.inr ⟨a, b, p, o, ⟨rfl, rfl, if_neg c⟩, ⟨q0, r0, by omega, by omega⟩, ⟨q2, r2⟩, ⟨q3, r3, q5, r5⟩, ⟨q4, r4⟩, by omega⟩
theorem frM_last {I I' : Nat → Nat → Int32} {L L' : Nat → Nat → Int64} (h : frM I I' L L') : (∀ a, lastM a ∨ a < 215 → I' a = I a) ∧ (∀ k, fieldM k → I' 215 k = I 215 k) ∧ ∀ a, a ≠ 295 → L' a = L a :=
  ⟨fun a ha => h.1 a (by unfold lastM at ha; omega), fun k hk => h.2.1 k (by unfold fieldM at hk; omega) (by unfold fieldM at hk; omega) (by unfold fieldM at hk; omega) (by unfold fieldM at hk; omega) (by unfold fieldM at hk; omega) (by unfold fieldM at hk; omega) (by unfold fieldM at hk; omega), h.2.2⟩
theorem pair_of (hok : okA A) {p o a b j : Nat} (hp2 : p < 12 ∧ o < 12 ∧ a < 12 ∧ b < 12) (q : k_sl (a_C A) (nI p) = some a ∧ k_ac (a_C A) (nI p) (nI o) = some b) (hj : j ≤ 4) (r : Int32) (h1 : ∀ I L ρ, RelX I L ρ A N → ∃ I', X11_pair_S31 0 (nI a) (nI b) j (hp I L ρ) = some (some (.int r), hp I' L ρ) ∧ ∀ x, lastX x ∨ 215 ≤ x → I' x = I x) (h2 : ∀ I L ρ, RelM I L A → ∃ I' L', X12_pair_S14 215 (nI p) (nI o) j (hp I L ρ) = some (some (.int r), hp I' L' ρ) ∧ (∀ a, lastM a ∨ a < 215 → I' a = I a) ∧ (∀ k, fieldM k → I' 215 k = I 215 k) ∧ ∀ a, a ≠ 295 → L' a = L a) : both (X11_pair 0 (nI p) (nI o) (nI j)) (X12_pair 215 (nI p) (nI o) (nI j)) A N := by
  have hk := hok.1
  refine both_same hok (.int r) (fun I L ρ hX => ?_) (fun I L ρ hM => ?_)
  · obtain ⟨I', e1, e2⟩ := h1 I L ρ hX
    refine ⟨I', ?_, e2⟩
    unfold X11_pair
    rw [gr_0_5, rcc (cu_ρ hX), h_ci (XC_slot hX hk _), gr_0_5, rcc (cu_ρ hX), h_ci (XC_across hX hk _ _), q.1, q.2, oI_some, oI_some, h_if, if_neg (nI_nm1 (by omega)), h_if, if_neg (by rw [nI_toI (by omega)]; omega), nI_toI (by omega), show ((j : Int) - 0).toNat = j by omega]
    exact e1
  · obtain ⟨I', L', e1, e2⟩ := h2 I L ρ hM
    refine ⟨I', L', ?_, e2⟩
    unfold X12_pair
    rw [rc_215, h_ci (X12_areTwo_v hk hM.1 _ _), q.2, bI_some, h_if, if_neg (by decide), h_if, if_neg (by rw [nI_toI (by omega)]; omega), nI_toI (by omega), show ((j : Int) - 0).toNat = j by omega]
    exact e1
theorem X12_likingOf_h (hok : okA A) (hM : RelM I L A) {p o a b : Nat} (hp2 : p < 12 ∧ o < 12 ∧ b < 12) (q6 : a = k_cd (a_C A) p) (q7 : b = k_cd (a_C A) o) (q8 : k_th (a_C A) a) : X12_likingOf 215 (nI p) (nI o) (hp I L ρ) = some (some (.int (nI (s_lik (a_s A) (6 * a + b % 6)))), hp I L ρ) := by
  have q10 := k_th_lt hok.1 q8
  have := ((hM.2.2.2.1.1.1.2.2 a q8).2.2 (b % 6) (by omega)).1
  unfold X12_likingOf
  rw [gr_215_52, rc_215, h_ci (X12_codeOf_h hok.1 hM.1 (by omega)), rc_215, h_ci (X12_codeOf_h hok.1 hM.1 (by omega)), ← q6, ← q7, rc_215, h_ci (X12_likingAt_h (by omega) (by omega)), la_255 (by omega), this]; rfl
theorem X12_knowingOf_h (hok : okA A) (hM : RelM I L A) {p o a b : Nat} (hp2 : p < 12 ∧ o < 12 ∧ b < 12) (q6 : a = k_cd (a_C A) p) (q7 : b = k_cd (a_C A) o) (q8 : k_th (a_C A) a) : X12_knowingOf 215 (nI p) (nI o) (hp I L ρ) = some (some (.int (nI (s_kno (a_s A) (6 * a + b % 6)))), hp I L ρ) := by
  have q10 := k_th_lt hok.1 q8
  have := ((hM.2.2.2.1.1.1.2.2 a q8).2.2 (b % 6) (by omega)).2
  unfold X12_knowingOf
  rw [gr_215_52, rc_215, h_ci (X12_codeOf_h hok.1 hM.1 (by omega)), rc_215, h_ci (X12_codeOf_h hok.1 hM.1 (by omega)), ← q6, ← q7, rc_215, h_ci (X12_knowingAt_h (by omega) (by omega)), la_255 (by omega), this]; rfl
theorem pair_b (hok : okA A) (v w u : Int32) : both (X11_pair 0 v w u) (X12_pair 215 v w u) A N := by
  have hk := hok.1
  have h12 := hk.1
  have hS := hok.2.2.1.1
  have hB := okS_bn hk hS
  rcases k_ac_c hk v w with q | ⟨a, b, p, o, ⟨q1, q2, q3⟩, ⟨rfl, rfl, q4, q5⟩, ⟨q6, q7⟩, ⟨q8, q9, q10, q11⟩, ⟨q12, q13⟩, q14⟩
  · refine both_still hok (.int (-1)) (fun I L ρ hX => ?_) (fun I L ρ hM => ?_)
    · unfold X11_pair
      rw [gr_0_5, rcc (cu_ρ hX), h_ci (XC_slot hX hk v), gr_0_5, rcc (cu_ρ hX), h_ci (XC_across hX hk v w), q, oI_none, h_if, if_pos rfl]; rfl
    · unfold X12_pair
      rw [rc_215, h_ci (X12_areTwo_v hk hM.1 _ _), q, bI_none, h_if, if_pos rfl]; rfl
  · by_cases c : u.toInt < 0 ∨ 4 < u.toInt
    · refine both_still hok (.int (-1)) (fun I L ρ hX => ?_) (fun I L ρ hM => ?_)
      · unfold X11_pair
        rw [gr_0_5, rcc (cu_ρ hX), h_ci (XC_slot hX hk _), gr_0_5, rcc (cu_ρ hX), h_ci (XC_across hX hk _ _), q3, oI_some, h_if, if_neg (nI_nm1 (by omega)), h_if, if_pos c]; rfl
      · unfold X12_pair
        rw [rc_215, h_ci (X12_areTwo_v hk hM.1 _ _), q3, bI_some, h_if, if_neg (by decide), h_if, if_pos c]; rfl
    · obtain ⟨j, hj, rfl⟩ := Int32_of (v := u) (by rw [v_neg]; omega)
      rw [nI_toI hj] at c
      have hj72 : 6 * a + b % 6 < 72 := by omega
      have hc : j = 0 ∨ j = 1 ∨ j = 2 ∨ j = 3 ∨ j = 4 := by omega
      rcases hc with rfl | rfl | rfl | rfl | rfl
      · refine pair_of hok ⟨q4, q5, q10, q11⟩ ⟨q1, q3⟩ (by omega) (nI (s_lik (a_s A) (6 * a + b % 6))) (fun I L ρ hX => ⟨I, ?_, fun _ _ => rfl⟩) (fun I L ρ hM => ⟨I, L, ?_, fun _ _ => rfl, fun _ _ => rfl, fun _ _ => rfl⟩)
        · rw [X11_pair_S31_0, gr_0_7, gr_41_6, h_ci (X11_cell_h (by omega) (by omega)), la_46 hj72, hX.2.2.1.2.2.2.2.2.1 _ hj72]; rfl
        · rw [X12_pair_S14_0, rc_215, h_ci (X12_likingOf_h hok hM ⟨by omega, by omega, q11⟩ q6 q7 q8)]; rfl
      · refine pair_of hok ⟨q4, q5, q10, q11⟩ ⟨q1, q3⟩ (by omega) (nI (s_kno (a_s A) (6 * a + b % 6))) (fun I L ρ hX => ⟨I, ?_, fun _ _ => rfl⟩) (fun I L ρ hM => ⟨I, L, ?_, fun _ _ => rfl, fun _ _ => rfl, fun _ _ => rfl⟩)
        · rw [X11_pair_S31_1, gr_0_7, gr_41_7, h_ci (X11_cell_h (by omega) (by omega)), la_47 hj72, hX.2.2.1.2.2.2.2.2.2 _ hj72]; rfl
        · rw [X12_pair_S14_1, rc_215, h_ci (X12_knowingOf_h hok hM ⟨by omega, by omega, q11⟩ q6 q7 q8)]; rfl
      · refine pair_of hok ⟨q4, q5, q10, q11⟩ ⟨q1, q3⟩ (by omega) (ci (p_feel (a_C A) (a_s A) a b)) (fun I L ρ hX => ?_) (fun I L ρ hM => ?_)
        · obtain ⟨I', e1, e2, e3⟩ := XC_feel hok hX q10 q11
          refine ⟨I', ?_, fun x hx => e2 x (by unfold lastX at hx; omega) (by unfold lastX at hx; omega) (by unfold lastX at hx; omega)⟩
          rw [X11_pair_S31_2, gr_0_8, gr_0_7, rc_48, h_ci e1]; rfl
        · obtain ⟨I', L', e1, e2⟩ := X12_feltBy_h (L := L) (ρ := ρ) hk hB hM.1 (RelM_st hok hM) q8 q9
          refine ⟨I', L', ?_, frM_last e2⟩
          rw [X12_pair_S14_2, rc_215, h_ci (X12_codeOf_h hk hM.1 (by omega)), rc_215, h_ci (X12_codeOf_h hk hM.1 (by omega)), ← q6, ← q7, rc_215, h_ci e1]; rfl
      · refine pair_of hok ⟨q4, q5, q10, q11⟩ ⟨q1, q3⟩ (by omega) (bI (p_lets (a_C A) (a_s A) a b)) (fun I L ρ hX => ?_) (fun I L ρ hM => ?_)
        · obtain ⟨I', e1, e2, e3⟩ := XC_feel hok hX q10 q11
          have hX1 : RelX I' L ρ A N := RelX_fr (fun x hx => e2 x (by unfold lastX at hx; omega) (by unfold lastX at hx; omega) (by unfold lastX at hx; omega)) rfl (Nat.le_refl _) hX
          obtain ⟨I2, f1, f2⟩ := XC_letsGo hok hX1 q10 q11 e3
          refine ⟨I2, ?_, fun x hx => by rw [f2 x (by unfold lastX at hx; omega) (by unfold lastX at hx; omega)]; exact e2 x (by unfold lastX at hx; omega) (by unfold lastX at hx; omega) (by unfold lastX at hx; omega)⟩
          rw [X11_pair_S31_3, gr_0_8, gr_0_7, rc_48, h_ci e1, gr_0_8, rc_48, h_ci f1, h_if]
          cases p_lets (a_C A) (a_s A) a b <;> rfl
        · obtain ⟨I', L', e1, e2⟩ := X12_doesLet_h (L := L) (ρ := ρ) hk hB hM.1 (RelM_st hok hM) q8 q9
          refine ⟨I', L', ?_, frM_last e2⟩
          rw [X12_pair_S14_3, rc_215, h_ci (X12_codeOf_h hk hM.1 (by omega)), rc_215, h_ci (X12_codeOf_h hk hM.1 (by omega)), ← q6, ← q7, rc_215, h_ci e1, h_if]
          cases p_lets (a_C A) (a_s A) a b <;> rfl
      · refine pair_of hok ⟨q4, q5, q10, q11⟩ ⟨q1, q3⟩ (by omega) (bI (k_kn (a_C A) a b)) (fun I L ρ hX => ⟨I, ?_, fun _ _ => rfl⟩) (fun I L ρ hM => ⟨I, L, ?_, fun _ _ => rfl, fun _ _ => rfl, fun _ _ => rfl⟩)
        · rw [X11_pair_S31_4, gr_0_5, rcc (cu_ρ hX), h_ci (XC_areKin hX q10 q11), h_if]
          cases k_kn (a_C A) a b <;> rfl
        · rw [X12_pair_S14_4, rc_215, h_ci (X12_codeOf_h hk hM.1 (by omega)), rc_215, h_ci (X12_codeOf_h hk hM.1 (by omega)), ← q6, ← q7, rc_215, h_ci (X12_areKin_h hk hM.1 q10 q11 q14), h_if]
          cases k_kn (a_C A) a b <;> rfl
end B44
