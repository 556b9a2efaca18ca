/-! teach -/
section B55
variable {I I0 : Nat → Nat → Int32} {L L0 : Nat → Nat → Int64} {ρ : zRh} {h : zH} {A : aT} {N : Nat} {C : cT} {s : sT} {tr : Option Nat}
def b_k (b k : Nat) : Nat := b / 2 ^ k % 2
def b_pc (b : Nat) : Nat := b_k b 0 + b_k b 1 + b_k b 2 + b_k b 3 + b_k b 4 + b_k b 5
theorem b_test : ∀ b, b < 64 → ∀ k, k < 6 → ((((nI b >>> (nI k &&& 31)) &&& 1) = 1) ↔ b_k b k = 1) := by decide +kernel
theorem b_shl : ∀ o, o ≤ 6 → (1 : Int32) <<< (nI o &&& 31) = nI (2 ^ o) := by decide +kernel
theorem b_low : ∀ b, b < 64 → 0 < b → nI b &&& (nI b - 1) = nI (b &&& (b - 1)) ∧ b &&& (b - 1) < b ∧ b_pc (b &&& (b - 1)) + 1 = b_pc b := by decide +kernel
theorem J6_bits_h : ∀ b, b < 64 → J6_bitCount_0f7a4 (nI b) h = some (some (.int (nI (b_pc b))), h) := by
  intro b hb
  unfold J6_bitCount_0f7a4
  apply congrArg (fun x => some (some (Value.int x), h))
  revert hb
  revert b
  decide +kernel
theorem X12_bits_lp : ∀ (b n fuel : Nat), b < 64 → b < fuel → z_fix (fun r x => X12_bits_B4 r x.1 x.2) fuel (nI n, nI b) h = some (some (.int (nI (n + b_pc b))), h) := by
  intro b
  induction b using Nat.strongRecOn with
  | _ b ih =>
    intro n fuel h1 h3
    obtain ⟨f, rfl⟩ : ∃ f, fuel = f + 1 := ⟨fuel - 1, by omega⟩
    rw [h_fix]
    generalize hg : z_fix (fun r x => X12_bits_B4 r x.1 x.2) f = rec
    show X12_bits_B4 rec (nI n) (nI b) h = _
    unfold X12_bits_B4
    rw [h_if]
    by_cases c : b = 0
    · rw [c, show (nI 0 : Int32) = 0 from rfl, if_pos rfl]; rfl
    · obtain ⟨q1, q2, q3⟩ := b_low b h1 (by omega)
      rw [if_neg (show ¬ nI b = 0 from fun e => c ((nI_inj (b := 0) (by omega) (by omega)).mp e)), q1, nI_1, ← hg, ih _ q2 (n + 1) f (by omega) (by omega), ← q3, show n + (b_pc (b &&& (b - 1)) + 1) = n + 1 + b_pc (b &&& (b - 1)) by omega]
theorem X12_bits_h {b : Nat} (hb : b < 64) : X12_bits (nI b) h = some (some (.int (nI (b_pc b))), h) := by
  have := X12_bits_lp (h := h) b 0 zFU hb (by unfold zFU; omega)
  rw [Nat.zero_add] at this
  exact this
/-- a knows well all the others below k that bits tell -/
def sTe (s : sT) (a b k : Nat) : sT := (s.1, s_ord s, s_wed s, s_wai s, s_siz s, s_lik s, fun i => if i / 6 = a ∧ i % 6 < k ∧ b_k b (i % 6) = 1 then 9 else s_kno s i)
theorem sTe_0 (s : sT) (a b : Nat) : sTe s a b 0 = s := by
  unfold sTe
  have : (fun i => if i / 6 = a ∧ i % 6 < 0 ∧ b_k b (i % 6) = 1 then 9 else s_kno s i) = s_kno s := by
    funext i
    rw [if_neg (by omega)]
  rw [this]; rfl
theorem sTe_s1 (s : sT) (a b k : Nat) (hk6 : k < 6) (h : b_k b k = 1) : sTe s a b (k + 1) = sK (sTe s a b k) (6 * a + k) 9 := by
  have fe : (fun i => if i / 6 = a ∧ i % 6 < k + 1 ∧ b_k b (i % 6) = 1 then 9 else s_kno s i) = fun i => if i = 6 * a + k then 9 else if i / 6 = a ∧ i % 6 < k ∧ b_k b (i % 6) = 1 then 9 else s_kno s i := by
    funext i
    by_cases c : i = 6 * a + k
    · rw [if_pos c, if_pos ⟨by omega, by omega, by rw [show i % 6 = k by omega]; exact h⟩]
    · rw [if_neg c]
      by_cases c2 : i / 6 = a ∧ i % 6 < k ∧ b_k b (i % 6) = 1
      · rw [if_pos c2, if_pos ⟨c2.1, by omega, c2.2.2⟩]
      · rw [if_neg c2, if_neg]
        rintro ⟨h1, h2, h3⟩
        exact c2 ⟨h1, by omega, h3⟩
  show (s.1, s_ord s, s_wed s, s_wai s, s_siz s, s_lik s, (fun i => if i / 6 = a ∧ i % 6 < k + 1 ∧ b_k b (i % 6) = 1 then 9 else s_kno s i)) = (s.1, s_ord s, s_wed s, s_wai s, s_siz s, s_lik s, (fun i => if i = 6 * a + k then 9 else if i / 6 = a ∧ i % 6 < k ∧ b_k b (i % 6) = 1 then 9 else s_kno s i))
  rw [fe]
theorem sTe_s0 (s : sT) (a b k : Nat) (h : ¬ b_k b k = 1) : sTe s a b (k + 1) = sTe s a b k := by
  unfold sTe
  congr 6
  funext i
  by_cases c2 : i / 6 = a ∧ i % 6 < k ∧ b_k b (i % 6) = 1
  · rw [if_pos c2, if_pos ⟨c2.1, by omega, c2.2.2⟩]
  · rw [if_neg c2, if_neg]
    rintro ⟨h1, h2, h3⟩
    by_cases c : i % 6 = k
    · rw [c] at h3; exact h h3
    · exact c2 ⟨h1, by omega, h3⟩
theorem sTe_o (s : sT) (a b o : Nat) (ho : o ≤ 6) (hb : b < 2 ^ o) : sTe s a b o = sTe s a b 6 := by
  unfold sTe
  congr 6
  funext i
  have h6 : i % 6 < 6 := Nat.mod_lt _ (by omega)
  by_cases c : i % 6 < o
  · simp only [c, h6]
  · have hz : b_k b (i % 6) = 0 := by
      unfold b_k
      have : 2 ^ o ≤ 2 ^ (i % 6) := Nat.pow_le_pow_right (by decide) (by omega)
      rw [Nat.div_eq_of_lt (by omega)]
    rw [if_neg (by omega), if_neg (by omega)]
theorem okS_Te (hS : okS C s) (a b k : Nat) : okS C (sTe s a b k) := by
  obtain ⟨h1, h2, h3, h4, h5, h6⟩ := hS
  refine ⟨h1, h2, h3, h4, h5, fun i hi => ⟨(h6 i hi).1, ?_⟩⟩
  show (if i / 6 = a ∧ i % 6 < k ∧ b_k b (i % 6) = 1 then 9 else s_kno s i) ≤ 9
  split
  · omega
  · exact (h6 i hi).2
/-- who is wed stays so -/
theorem wed_stays (hk : okC C) : ∀ (n : Nat), okS C s → s_sp s + n ≤ 2000 → ∀ a, s_wed s a ≠ none → s_wed (p_gos C n s) a ≠ none
  | 0, _, _, _, h => h
  | n + 1, hS, hn, a, h => by
    have h1 := p_gos_ok hk n hS (by omega)
    have h2 := wed_stays hk n hS (by omega) a h
    rw [p_gos_succ, p_go_wed]
    rcases q : s_wed (p_gos C n s) a with _ | x
    · exact absurd q h2
    · rw [(p_wed_old hk h1.1 q).2]; simp
def t_w (C : cT) (s : sT) (a n b : Nat) : Bool := decide (s_wed (p_gos C n (sTe s a b 6)) a ≠ none)
theorem X0_taught_go (hok : okA A) {a n : Nat} (ha : a < 12) (hn : n ≤ 40) (hS : okS (a_C A) s) (hsp : s_sp s ≤ 999) : ∀ (m i fuel : Nat) (I : Nat → Nat → Int32), i + m = n → m < fuel → RelX I L ρ A N → stX 54 I (p_gos (a_C A) i s) → ∃ I', z_fix (fun r x => X0_wedIfTaught_B54 53 (nI a) (nI n) r x) fuel (nI i) (hp I L ρ) = some (some (.int (bI (decide (s_wed (p_gos (a_C A) n s) a ≠ none)))), hp I' L ρ) ∧ (∀ x, lastX x ∨ 215 ≤ x → I' x = I x) ∧ RelX I' L ρ A N := by
  have j93 : ∀ {i : Nat} {I : Nat → Nat → Int32}, i ≤ n → stX 54 I (p_gos (a_C A) i s) → X0_wedIfTaught_J93 53 (nI a) (hp I L ρ) = some (some (.int (bI (decide (s_wed (p_gos (a_C A) i s) a ≠ none)))), hp I L ρ) := by
    intro i I hi hs
    have hSi := (p_gos_ok hok.1 i hS (by omega)).1
    unfold X0_wedIfTaught_J93
    rw [gr_53_0, gr_54_3, la_56 ha, hs.2.2.1 a ha, h_if]
    simp only [oI_wed hok.1 hSi]
    by_cases c : s_wed (p_gos (a_C A) i s) a = none
    · rw [if_pos c, h_rb0, decide_eq_false (fun e => e c)]; rfl
    · rw [if_neg c, h_rb1, decide_eq_true c]; rfl
  intro m
  induction m with
  | zero =>
    intro i fuel I h1 h2 h3 h4
    obtain ⟨f, rfl⟩ : ∃ f, fuel = f + 1 := ⟨fuel - 1, by omega⟩
    obtain rfl : i = n := by omega
    refine ⟨I, ?_, fun _ _ => rfl, h3⟩
    rw [h_fix]
    show X0_wedIfTaught_B54 53 (nI a) (nI i) _ (nI i) (hp I L ρ) = _
    unfold X0_wedIfTaught_B54
    rw [h_if, if_pos (nI_le (Nat.le_refl _) (by omega))]
    exact j93 (by omega) h4
  | succ m ih =>
    intro i fuel I h1 h2 h3 h4
    obtain ⟨f, rfl⟩ : ∃ f, fuel = f + 1 := ⟨fuel - 1, by omega⟩
    rw [h_fix]
    generalize hg : z_fix (fun r x => X0_wedIfTaught_B54 53 (nI a) (nI n) r x) f = rec
    have hSi := p_gos_ok hok.1 i hS (by omega)
    have e0 : X0_wedIfTaught_B54 53 (nI a) (nI n) rec (nI i) (hp I L ρ) = (if s_wed (p_gos (a_C A) i s) a = none then z_ci (X10_go 48 54 (-1)) (fun y6 => rec (nI i + 1)) (hp I L ρ) else X0_wedIfTaught_J93 53 (nI a) (hp I L ρ)) := by
      unfold X0_wedIfTaught_B54
      rw [h_if, if_neg (nI_ge (by omega) (by omega)), gr_53_0, gr_54_3, la_56 ha, h4.2.2.1 a ha, h_if]
      simp only [oI_wed hok.1 hSi.1]
      by_cases c : s_wed (p_gos (a_C A) i s) a = none
      · rw [if_pos c, if_pos c, gr_53_2, gr_53_0, rc_48]
      · rw [if_neg c, if_neg c]
    by_cases c : s_wed (p_gos (a_C A) i s) a = none
    · obtain ⟨I1, e1, e2, e3, e4⟩ := XT_go (tr := none) hok h3 hSi.1 h4 (by simp)
      obtain ⟨I', r1, r2, r3⟩ := ih (i + 1) f I1 (by omega) (by omega) e4 (by rw [p_gos_succ]; exact e3)
      refine ⟨I', ?_, fun x hx => by rw [r2 x hx, e2 x hx], r3⟩
      show X0_wedIfTaught_B54 53 (nI a) (nI n) rec (nI i) (hp I L ρ) = _
      rw [e0, if_pos c, h_ci (show X10_go 48 54 (-1) _ = _ from e1), nI_1, ← hg]
      exact r1
    · refine ⟨I, ?_, fun _ _ => rfl, h3⟩
      show X0_wedIfTaught_B54 53 (nI a) (nI n) rec (nI i) (hp I L ρ) = _
      have hw : s_wed (p_gos (a_C A) n s) a ≠ none := by
        have e : ∀ k j, p_gos (a_C A) (k + j) s = p_gos (a_C A) k (p_gos (a_C A) j s) := by
          intro k
          induction k with
          | zero => intro j; rw [Nat.zero_add]; rfl
          | succ k ihk => intro j; rw [show k + 1 + j = k + j + 1 by omega, p_gos_succ, ihk, ← p_gos_succ]
        have := wed_stays (s := p_gos (a_C A) i s) hok.1 (m + 1) hSi.1 (by have := hSi.2; omega) a c
        rw [← e, show m + 1 + i = n by omega] at this
        exact this
      rw [e0, if_neg c, j93 (by omega) h4, decide_eq_true c, decide_eq_true hw]
theorem X0_taught_set {a b n : Nat} (ha : a < 12) (hb : b < 64) {s0 : sT} (hok : okA A) : ∀ (m k fuel : Nat) (I : Nat → Nat → Int32), k + m = 6 → m < fuel → RelX I L ρ A N → stX 54 I (sTe s0 a b k) → ∃ I', z_fix (fun r x => X0_wedIfTaught_B11 53 (nI a) (nI b) (nI n) r x) fuel (nI k) (hp I L ρ) = X0_wedIfTaught_J51 53 (nI a) (nI n) (hp I' L ρ) ∧ (∀ x, lastX x ∨ 215 ≤ x → I' x = I x) ∧ RelX I' L ρ A N ∧ stX 54 I' (sTe s0 a b 6) := by
  intro m
  induction m with
  | zero =>
    intro k fuel I h1 h2 h3 h4
    obtain ⟨f, rfl⟩ : ∃ f, fuel = f + 1 := ⟨fuel - 1, by omega⟩
    obtain rfl : k = 6 := by omega
    refine ⟨I, ?_, fun _ _ => rfl, h3, h4⟩
    rw [h_fix]
    show X0_wedIfTaught_B11 53 (nI a) (nI b) (nI n) _ (nI 6) (hp I L ρ) = _
    unfold X0_wedIfTaught_B11
    rw [h_if, if_pos (by decide)]
  | succ m ih =>
    intro k fuel I h1 h2 h3 h4
    obtain ⟨f, rfl⟩ : ∃ f, fuel = f + 1 := ⟨fuel - 1, by omega⟩
    rw [h_fix]
    generalize hg : z_fix (fun r x => X0_wedIfTaught_B11 53 (nI a) (nI b) (nI n) r x) f = rec
    have ht := b_test b hb k (by omega)
    by_cases c : b_k b k = 1
    · have hX2 : RelX (u2 I 60 (6 * a + k) 9) L ρ A N := RelX_fr (fun x hx => u2r (by unfold lastX at hx; omega)) rfl (Nat.le_refl _) h3
      obtain ⟨I', r1, r2, r3, r4⟩ := ih (k + 1) f (u2 I 60 (6 * a + k) 9) (by omega) (by omega) hX2 (by rw [sTe_s1 _ _ _ _ (by omega) c]; exact stX_K (b := 54) (v := 9) h4)
      refine ⟨I', ?_, fun x hx => by rw [r2 x hx, u2r (by unfold lastX at hx; omega)], r3, r4⟩
      show X0_wedIfTaught_B11 53 (nI a) (nI b) (nI n) rec (nI k) (hp I L ρ) = _
      unfold X0_wedIfTaught_B11 X0_wedIfTaught_J45
      rw [h_if, if_neg (show ¬ (6 : Int32) ≤ nI k from nI_ge (b := 6) (by omega) (by omega)), h_if, if_pos (ht.mpr c), gr_53_0, gr_54_7, show (6 : Int32) = nI 6 from rfl, pk_mul, nI_add, Nat.mul_comm a 6, sa_60 (by omega), nI_1, ← hg]
      exact r1
    · obtain ⟨I', r1, r2, r3, r4⟩ := ih (k + 1) f I (by omega) (by omega) h3 (by rw [sTe_s0 _ _ _ _ c]; exact h4)
      refine ⟨I', ?_, r2, r3, r4⟩
      show X0_wedIfTaught_B11 53 (nI a) (nI b) (nI n) rec (nI k) (hp I L ρ) = _
      unfold X0_wedIfTaught_B11 X0_wedIfTaught_J45
      rw [h_if, if_neg (show ¬ (6 : Int32) ≤ nI k from nI_ge (b := 6) (by omega) (by omega)), h_if, if_neg (fun e => c (ht.mp e)), nI_1, ← hg]
      exact r1
theorem X0_taught_h (hok : okA A) (hX : RelX I L ρ A N) {a b n : Nat} (ha : a < 12) (hb : b < 64) (hn : n ≤ 40) : ∃ I', X0_wedIfTaught 53 41 (nI a) (nI b) (nI n) (hp I L ρ) = some (some (.int (bI (t_w (a_C A) (a_s A) a n b))), hp I' L ρ) ∧ (∀ x, lastX x ∨ 215 ≤ x → I' x = I x) ∧ RelX I' L ρ A N := by
  obtain ⟨I1, e1, e2, e3, e4⟩ := XT_take hok hX
  obtain ⟨I2, f1, f2, f3, f4⟩ := X0_taught_set (L := L) (ρ := ρ) (n := n) ha hb (s0 := a_s A) hok 6 0 zFU I1 (by omega) (by unfold zFU; omega) e4 (by rw [sTe_0]; exact e3)
  obtain ⟨I3, g1, g2, g3⟩ := X0_taught_go (L := L) (ρ := ρ) hok ha hn (okS_Te hok.2.2.1.1 a b 6) hok.2.2.1.2.1 n 0 zFU I2 (by omega) (by unfold zFU; omega) f3 f4
  refine ⟨I3, ?_, fun x hx => by rw [g2 x hx, f2 x hx, e2 x hx], g3⟩
  unfold X0_wedIfTaught
  rw [gr_53_0, rc_54, h_cv e1, show (0 : Int32) = nI 0 from rfl, f1]
  exact g1
/-! the class's search -/
theorem X0_less_in (hok : okA A) {a n O M : Nat} (ha : a < 12) (hO : O ≤ 6) (hM1 : M < 1000) (hn : n ≤ 40) {r22 : Int32 → zM} : ∀ (m b fuel : Nat) (I : Nat → Nat → Int32), b + m ≤ 2 ^ O → m ≤ fuel → RelX I L ρ A N → (∀ x, b ≤ x → x < b + m → b_pc x = M → t_w (a_C A) (a_s A) a n x = false) → ∃ I', z_fix (fun r x => X0_lessons_B32 r22 53 41 (nI a) (nI n) (nI O) (nI M) r x) fuel (nI b) (hp I L ρ) = z_fix (fun r x => X0_lessons_B32 r22 53 41 (nI a) (nI n) (nI O) (nI M) r x) (fuel - m) (nI (b + m)) (hp I' L ρ) ∧ (∀ x, lastX x ∨ 215 ≤ x → I' x = I x) ∧ RelX I' L ρ A N := by
  have hO6 : 2 ^ O ≤ 64 := Nat.pow_le_pow_right (by decide) hO
  intro m
  induction m with
  | zero => intro b fuel I h1 h2 h3 h4; exact ⟨I, rfl, fun _ _ => rfl, h3⟩
  | succ m ih =>
    intro b fuel I h1 h2 h3 h4
    obtain ⟨f, rfl⟩ : ∃ f, fuel = f + 1 := ⟨fuel - 1, by omega⟩
    have step : ∃ I1, z_fix (fun r x => X0_lessons_B32 r22 53 41 (nI a) (nI n) (nI O) (nI M) r x) (f + 1) (nI b) (hp I L ρ) = z_fix (fun r x => X0_lessons_B32 r22 53 41 (nI a) (nI n) (nI O) (nI M) r x) f (nI (b + 1)) (hp I1 L ρ) ∧ (∀ x, lastX x ∨ 215 ≤ x → I1 x = I x) ∧ RelX I1 L ρ A N := by
      rw [h_fix]
      generalize hg : z_fix (fun r x => X0_lessons_B32 r22 53 41 (nI a) (nI n) (nI O) (nI M) r x) f = rec
      show ∃ I1, X0_lessons_B32 r22 53 41 (nI a) (nI n) (nI O) (nI M) rec (nI b) (hp I L ρ) = _ ∧ _
      have hpc : b_pc b < 1000 := by unfold b_pc b_k; omega
      have e0 : X0_lessons_B32 r22 53 41 (nI a) (nI n) (nI O) (nI M) rec (nI b) (hp I L ρ) = z_if (nI (b_pc b) = nI M) (z_rc 0 53 (z_ci (X0_wedIfTaught 53 41 (nI a) (nI b) (nI n)) fun y2 => z_if (y2 = 0) (rec (nI b + 1)) (z_ret (some (.int (nI b)))))) (rec (nI b + 1)) (hp I L ρ) := by
        unfold X0_lessons_B32 X0_lessons_J66
        rw [h_if, b_shl O hO, if_neg (nI_ge (by omega) (by omega)), h_ci (J6_bits_h b (by omega))]
      by_cases c : nI (b_pc b) = nI M
      · obtain ⟨I1, e1, e2, e3⟩ := X0_taught_h (L := L) (ρ := ρ) hok h3 (b := b) ha (by omega) hn
        refine ⟨I1, ?_, e2, e3⟩
        have hw : t_w (a_C A) (a_s A) a n b = false := by
          by_cases cM : b_pc b = M
          · exact h4 b (by omega) (by omega) cM
          · exact absurd ((nI_inj (by omega) (by omega)).mp c) cM
        rw [e0, h_if, if_pos c, rc_53, h_ci e1, hw, bF, h_if, if_pos rfl, nI_1]
      · refine ⟨I, ?_, fun _ _ => rfl, h3⟩
        rw [e0, h_if, if_neg c, nI_1]
    obtain ⟨I1, e1, e2, e3⟩ := step
    obtain ⟨I', r1, r2, r3⟩ := ih (b + 1) f I1 (by omega) (by omega) e3 (fun x x1 x2 => h4 x (by omega) (by omega))
    refine ⟨I', ?_, fun x hx => by rw [r2 x hx, e2 x hx], r3⟩
    rw [e1, r1, show f + 1 - (m + 1) = f - m by omega, show b + (m + 1) = b + 1 + m by omega]
theorem X0_less_skip (hok : okA A) {a n O M : Nat} (ha : a < 12) (hO : O ≤ 6) (hn : n ≤ 40) (hMO : M ≤ O) {rec : Int32 → zM} (hX : RelX I L ρ A N) (hno : ∀ x, x < 2 ^ O → b_pc x = M → t_w (a_C A) (a_s A) a n x = false) : ∃ I', X0_lessons_B22 53 41 (nI a) (nI n) (nI O) rec (nI M) (hp I L ρ) = rec (nI (M + 1)) (hp I' L ρ) ∧ (∀ x, lastX x ∨ 215 ≤ x → I' x = I x) ∧ RelX I' L ρ A N := by
  have hO6 : 2 ^ O ≤ 64 := Nat.pow_le_pow_right (by decide) hO
  obtain ⟨I', r1, r2, r3⟩ := X0_less_in (L := L) (ρ := ρ) (r22 := rec) (M := M) hok ha hO (by omega) hn (2 ^ O) 0 zFU I (by omega) (by unfold zFU; omega) hX (fun x _ h2 => hno x (by omega))
  refine ⟨I', ?_, r2, r3⟩
  obtain ⟨f, hf⟩ : ∃ f, zFU - 2 ^ O = f + 1 := ⟨zFU - 2 ^ O - 1, by unfold zFU; omega⟩
  unfold X0_lessons_B22
  rw [h_if, if_neg (show ¬ nI O < nI M from fun e => absurd ((nI_lt' (by omega) (by omega)).mp e) (by omega)), show (0 : Int32) = nI 0 from rfl, r1, hf, h_fix]
  show X0_lessons_B32 rec 53 41 (nI a) (nI n) (nI O) (nI M) _ (nI (0 + 2 ^ O)) (hp I' L ρ) = _
  unfold X0_lessons_B32 X0_lessons_J72
  rw [h_if, b_shl O hO, if_pos (nI_le (by omega) (by omega)), nI_1]
theorem X0_less_hit (hok : okA A) {a n O b : Nat} (ha : a < 12) (hO : O ≤ 6) (hn : n ≤ 40) {rec : Int32 → zM} (hX : RelX I L ρ A N) (hb : b < 2 ^ O) (hMO : b_pc b ≤ O) (hyes : t_w (a_C A) (a_s A) a n b = true) (hno : ∀ x, x < b → b_pc x = b_pc b → t_w (a_C A) (a_s A) a n x = false) : ∃ I', X0_lessons_B22 53 41 (nI a) (nI n) (nI O) rec (nI (b_pc b)) (hp I L ρ) = some (some (.int (nI b)), hp I' L ρ) ∧ (∀ x, lastX x ∨ 215 ≤ x → I' x = I x) := by
  have hO6 : 2 ^ O ≤ 64 := Nat.pow_le_pow_right (by decide) hO
  obtain ⟨I1, r1, r2, r3⟩ := X0_less_in (L := L) (ρ := ρ) (r22 := rec) (M := b_pc b) hok ha hO (by omega) hn b 0 zFU I (by omega) (by unfold zFU; omega) hX (fun x _ h2 => hno x (by omega))
  obtain ⟨I2, e1, e2, e3⟩ := X0_taught_h (L := L) (ρ := ρ) hok r3 (b := b) ha (by omega) hn
  refine ⟨I2, ?_, fun x hx => by rw [e2 x hx, r2 x hx]⟩
  obtain ⟨f, hf⟩ : ∃ f, zFU - b = f + 1 := ⟨zFU - b - 1, by unfold zFU; omega⟩
  unfold X0_lessons_B22
  rw [h_if, if_neg (show ¬ nI O < nI (b_pc b) from fun e => absurd ((nI_lt' (by omega) (by omega)).mp e) (by omega)), show (0 : Int32) = nI 0 from rfl, r1, hf, h_fix]
  show X0_lessons_B32 rec 53 41 (nI a) (nI n) (nI O) (nI (b_pc b)) _ (nI (0 + b)) (hp I1 L ρ) = _
  unfold X0_lessons_B32
  rw [Nat.zero_add, h_if, b_shl O hO, if_neg (nI_ge hb (by omega)), h_ci (J6_bits_h b (by omega)), h_if, if_pos rfl, rc_53, h_ci e1, hyes, h_if, if_neg (by decide)]
  rfl
/-- the best of those below n that are good: the fewest, then the least -/
def t_best (g : Nat → Bool) : Nat → Option Nat
  | 0 => none
  | n + 1 => match t_best g n with
    | none => if g n = true then some n else none
    | some b => if g n = true ∧ b_pc n < b_pc b then some n else some b
theorem t_best_none {g : Nat → Bool} : ∀ {n}, t_best g n = none → ∀ x, x < n → g x = false
  | 0, _, x, h => by omega
  | n + 1, h, x, hx => by
    change (match t_best g n with | none => if g n = true then some n else none | some b => if g n = true ∧ b_pc n < b_pc b then some n else some b) = none at h
    rcases q : t_best g n with _ | b
    · rw [q] at h
      by_cases c : x = n
      · rw [c]
        simpa using h
      · exact t_best_none q x (by omega)
    · rw [q] at h
      by_cases c : g n = true ∧ b_pc n < b_pc b
      · simp only [c, and_self, if_true] at h; simp at h
      · simp only [c, if_false] at h; simp at h
theorem t_best_some {g : Nat → Bool} : ∀ {n b}, t_best g n = some b → b < n ∧ g b = true ∧ ∀ x, x < n → g x = true → b_pc b < b_pc x ∨ (b_pc b = b_pc x ∧ b ≤ x)
  | 0, b, h => by simp [t_best] at h
  | n + 1, b, h => by
    change (match t_best g n with | none => if g n = true then some n else none | some b => if g n = true ∧ b_pc n < b_pc b then some n else some b) = some b at h
    rcases q : t_best g n with _ | b0
    · rw [q] at h
      have hno := t_best_none q
      by_cases c : g n = true
      · simp only [c, if_true] at h
        have e : n = b := by simpa using h
        rw [← e]
        refine ⟨by omega, c, fun x hx hgx => ?_⟩
        by_cases c2 : x = n
        · rw [c2]; exact Or.inr ⟨rfl, Nat.le_refl _⟩
        · have := hno x (by omega)
          rw [this] at hgx; simp at hgx
      · simp only [c] at h; simp at h
    · rw [q] at h
      obtain ⟨h1, h2, h3⟩ := t_best_some q
      by_cases c : g n = true ∧ b_pc n < b_pc b0
      · simp only [c, and_self, if_true] at h
        have e : n = b := by simpa using h
        rw [← e]
        refine ⟨by omega, c.1, fun x hx hgx => ?_⟩
        by_cases c2 : x = n
        · rw [c2]; exact Or.inr ⟨rfl, Nat.le_refl _⟩
        · rcases h3 x (by omega) hgx with h4 | h4
          · left; omega
          · left; omega
      · simp only [c, if_false] at h
        have e : b0 = b := by simpa using h
        rw [← e]
        refine ⟨by omega, h2, fun x hx hgx => ?_⟩
        by_cases c2 : x = n
        · rw [c2] at hgx ⊢
          have : ¬ b_pc n < b_pc b0 := fun c3 => c ⟨hgx, c3⟩
          omega
        · exact h3 x (by omega) hgx
theorem b_pc_le : ∀ o, o ≤ 6 → ∀ b, b < 2 ^ o → b_pc b ≤ o := by decide +kernel
theorem X0_less_out (hok : okA A) {a n O : Nat} (ha : a < 12) (hO : O ≤ 6) (hn : n ≤ 40) : ∀ (m M fuel : Nat) (I : Nat → Nat → Int32), M + m = O + 1 → m < fuel → RelX I L ρ A N → (∀ x, x < 2 ^ O → b_pc x < M → t_w (a_C A) (a_s A) a n x = false) → ∃ I', z_fix (fun r x => X0_lessons_B22 53 41 (nI a) (nI n) (nI O) r x) fuel (nI M) (hp I L ρ) = some (some (.int (oI (t_best (t_w (a_C A) (a_s A) a n) (2 ^ O)))), hp I' L ρ) ∧ (∀ x, lastX x ∨ 215 ≤ x → I' x = I x) := by
  have hO6 : 2 ^ O ≤ 64 := Nat.pow_le_pow_right (by decide) hO
  intro m
  induction m with
  | zero =>
    intro M fuel I h1 h2 h3 h4
    obtain ⟨f, rfl⟩ : ∃ f, fuel = f + 1 := ⟨fuel - 1, by omega⟩
    refine ⟨I, ?_, fun _ _ => rfl⟩
    rw [h_fix]
    show X0_lessons_B22 53 41 (nI a) (nI n) (nI O) _ (nI M) (hp I L ρ) = _
    unfold X0_lessons_B22
    rw [h_if, if_pos (nI_lt (by omega) (by omega)), h_ret]
    rcases q : t_best (t_w (a_C A) (a_s A) a n) (2 ^ O) with _ | b
    · rfl
    · obtain ⟨b1, b2, b3⟩ := t_best_some q
      have := b_pc_le O hO b b1
      rw [h4 b b1 (by omega)] at b2
      simp at b2
  | succ m ih =>
    intro M fuel I h1 h2 h3 h4
    obtain ⟨f, rfl⟩ : ∃ f, fuel = f + 1 := ⟨fuel - 1, by omega⟩
    rw [h_fix]
    generalize hg : z_fix (fun r x => X0_lessons_B22 53 41 (nI a) (nI n) (nI O) r x) f = rec
    show ∃ I', X0_lessons_B22 53 41 (nI a) (nI n) (nI O) rec (nI M) (hp I L ρ) = _ ∧ _
    by_cases c : ∀ x, x < 2 ^ O → b_pc x = M → t_w (a_C A) (a_s A) a n x = false
    · obtain ⟨I1, e1, e2, e3⟩ := X0_less_skip (L := L) (ρ := ρ) (rec := rec) hok ha hO hn (by omega) h3 c
      obtain ⟨I', r1, r2⟩ := ih (M + 1) f I1 (by omega) (by omega) e3 (fun x x1 x2 => by
        by_cases c2 : b_pc x = M
        · exact c x x1 c2
        · exact h4 x x1 (by omega))
      exact ⟨I', by rw [e1, ← hg]; exact r1, fun x hx => by rw [r2 x hx, e2 x hx]⟩
    · rcases q : t_best (t_w (a_C A) (a_s A) a n) (2 ^ O) with _ | b
      · exact absurd (fun x x1 _ => t_best_none q x x1) c
      · obtain ⟨b1, b2, b3⟩ := t_best_some q
        have hbM : b_pc b = M := by
          apply Classical.byContradiction
          intro hne
          apply c
          intro x x1 x2
          rcases q3 : t_w (a_C A) (a_s A) a n x with _ | _
          · rfl
          · exfalso
            by_cases c4 : b_pc b < M
            · rw [h4 b b1 c4] at b2; simp at b2
            · rcases b3 x x1 q3 with h5 | h5 <;> omega
        obtain ⟨I', e1, e2⟩ := X0_less_hit (L := L) (ρ := ρ) (rec := rec) (b := b) hok ha hO hn h3 b1 (by omega) b2 (fun x x1 x2 => by
          rcases q3 : t_w (a_C A) (a_s A) a n x with _ | _
          · rfl
          · exfalso
            rcases b3 x (by omega) q3 with h5 | h5 <;> omega)
        rw [hbM] at e1
        exact ⟨I', e1, e2⟩
end B55
