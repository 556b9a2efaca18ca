/-! change -/
section B57
variable {I I0 : Nat → Nat → Int32} {L L0 : Nat → Nat → Int64} {ρ : zRh} {h : zH} {A : aT} {N : Nat} {C : cT} {s : sT} {tr : Option Nat}
theorem XY_go (hok : okA A) (hX : RelX I L ρ A N) (hS : okS (a_C A) s) (hs : stX 54 I s) (ht : ∀ b, tr = some b → b < 12) : ∃ I', X10_go 48 54 (oI tr) (hp I L ρ) = some (some (.int (nI (p_fresh (a_C A) s tr 6).length)), hp I' L ρ) ∧ (∀ x, lastX x ∨ 61 ≤ x → I' x = I x) ∧ stX 54 I' (p_go (a_C A) s tr) ∧ RelX I' L ρ A N := by
  have hC := cu_ch hX
  have hw := cu_w hX
  rcases cu_ρ hX with e | e
  · rw [e] at hC hw
    obtain ⟨I', q1, q2, q3, -⟩ := X10_go_13_54 (L := L) (ρ := ρ) hok.1 hS ht hw hC hs
    have hf : ∀ x, lastX x ∨ 61 ≤ x → I' x = I x := fun x h1 => q2 x (by unfold goF_13_54; unfold lastX at h1; omega)
    exact ⟨I', q1, hf, q3, RelX_fr (fun a ha => hf a (Or.inl ha)) rfl (Nat.le_refl _) hX⟩
  · rw [e] at hC hw
    obtain ⟨I', q1, q2, q3, -⟩ := X10_go_27_54 (L := L) (ρ := ρ) hok.1 hS ht hw hC hs
    have hf : ∀ x, lastX x ∨ 61 ≤ x → I' x = I x := fun x h1 => q2 x (by unfold goF_27_54; unfold lastX at h1; omega)
    exact ⟨I', q1, hf, q3, RelX_fr (fun a ha => hf a (Or.inl ha)) rfl (Nat.le_refl _) hX⟩
theorem XY_goOn_lp (hok : okA A) {n : Nat} (hS : okS (a_C A) s) (hn : s_sp s + n ≤ 2000) : ∀ (m k fuel : Nat) (I : Nat → Nat → Int32), k + m = n → m < fuel → RelX I L ρ A N → stX 54 I (p_gos (a_C A) k s) → ∃ I', z_fix (fun r x => X0_goOn_B2 53 (nI n) r x) fuel (nI k) (hp I L ρ) = some (none, hp I' L ρ) ∧ (∀ x, lastX x ∨ 61 ≤ x → I' x = I x) ∧ stX 54 I' (p_gos (a_C A) n s) ∧ RelX I' L ρ A N := by
  intro m
  induction m with
  | zero =>
    intro k fuel I h1 h2 h3 h4
    obtain ⟨f, rfl⟩ : ∃ f, fuel = f + 1 := ⟨fuel - 1, by omega⟩
    obtain rfl : k = n := by omega
    refine ⟨I, ?_, fun _ _ => rfl, h4, h3⟩
    rw [h_fix]
    show X0_goOn_B2 53 (nI k) _ (nI k) (hp I L ρ) = _
    unfold X0_goOn_B2
    rw [h_if, if_pos (nI_le (Nat.le_refl _) (by omega))]; rfl
  | succ m ih =>
    intro k fuel I h1 h2 h3 h4
    obtain ⟨f, rfl⟩ : ∃ f, fuel = f + 1 := ⟨fuel - 1, by omega⟩
    rw [h_fix]
    generalize hg : z_fix (fun r x => X0_goOn_B2 53 (nI n) r x) f = rec
    have hk := (p_gos_ok hok.1 k hS (by omega)).1
    obtain ⟨I1, e1, e2, e3, e4⟩ := XY_go (tr := none) hok h3 hk h4 (by simp)
    obtain ⟨I', r1, r2, r3, r4⟩ := ih (k + 1) f I1 (by omega) (by omega) e4 (by rw [p_gos_succ]; exact e3)
    refine ⟨I', ?_, fun x hx => by rw [r2 x hx, e2 x hx], r3, r4⟩
    show X0_goOn_B2 53 (nI n) rec (nI k) (hp I L ρ) = _
    unfold X0_goOn_B2
    rw [h_if, if_neg (nI_ge (by omega) (by omega)), gr_53_2, gr_53_0, rc_48, h_ci (show X10_go 48 54 (-1) _ = _ from e1), nI_1, ← hg]
    exact r1
theorem XY_take (hok : okA A) (hX : RelX I L ρ A N) : ∃ I', X8_take 54 41 (hp I L ρ) = some (none, hp I' L ρ) ∧ (∀ x, lastX x ∨ 61 ≤ x → I' x = I x) ∧ stX 54 I' (a_s A) ∧ RelX I' L ρ A N := by
  obtain ⟨I1, e1, e2, e3⟩ := X8_take_h (I := I) (L := L) (ρ := ρ) (b := 54) (c := 41) isSt_54 (Or.inl rfl) (by omega)
  have hf : ∀ x, lastX x ∨ 61 ≤ x → I1 x = I x := fun x h1 => e2 x (by unfold lastX at h1; omega)
  exact ⟨I1, e1, hf, e3 hX.2.2.1, RelX_fr (fun a ha => hf a (Or.inl ha)) rfl (Nat.le_refl _) hX⟩
theorem l61 {x : Nat} (h : lastX x ∨ 215 ≤ x) : lastX x ∨ 61 ≤ x := by
  rcases h with h | h
  · exact Or.inl h
  · exact Or.inr (by omega)
theorem c_nt_le (f : Nat → Int32) : ∀ n, c_nt f n ≤ n
  | 0 => Nat.le_refl _
  | n + 1 => by
    have := c_nt_le f n
    show c_nt f n + (if f n = -1 then 0 else 1) ≤ n + 1
    split <;> omega
theorem p_wc_le (s : sT) : p_wc s ≤ 6 := c_nt_le _ 6
abbrev fT : Type := (Int32 × Int32 × Int32) × Nat
def c_w (C : cT) (s : sT) (n side a b : Nat) : Nat := p_wc (p_gos C n (sSw s (6 * side + a) (6 * side + b)))
def c_st (C : cT) (s : sT) (n side a b : Nat) (F : fT) : fT := if F.2 < c_w C s n side a b then ((nI side, nI a, nI b), c_w C s n side a b) else F
def c_b (C : cT) (s : sT) (n side a : Nat) : Nat → Nat → fT → fT
  | 0, _, F => F
  | m + 1, b, F => c_b C s n side a m (b + 1) (c_st C s n side a b F)
def c_a (C : cT) (s : sT) (n side O : Nat) : Nat → Nat → fT → fT
  | 0, _, F => F
  | m + 1, a, F => c_a C s n side O m (a + 1) (c_b C s n side a (O - (a + 1)) (a + 1) F)
def c_all (C : cT) (s : sT) (n : Nat) : fT := c_a C s n 1 (k_n C 1) (k_n C 1) 0 (c_a C s n 0 (k_n C 0) (k_n C 0) 0 ((-1, -1, -1), p_wc (p_gos C n s)))
def fdX (I : Nat → Nat → Int32) (F : fT) : Prop := (I 61 0 = F.1.1 ∧ I 61 1 = F.1.2.1 ∧ I 61 2 = F.1.2.2) ∧ I 61 3 = nI F.2 ∧ F.2 ≤ 6
theorem c_st_le {F : fT} (C : cT) (s : sT) (n side a b : Nat) (h : F.2 ≤ 6) : (c_st C s n side a b F).2 ≤ 6 := by
  unfold c_st
  split
  · exact p_wc_le _
  · exact h
theorem XY_exch {side a b : Nat} (hside : side < 2) (ha : a < 6) (hb : b < 6) (hs : stX 54 I s) : ∃ I', X8_exchange 54 (nI side) (nI a) (nI b) (hp I L ρ) = some (none, hp I' L ρ) ∧ (∀ x, x ≠ 55 → I' x = I x) ∧ (a ≠ b → stX 54 I' (sSw s (6 * side + a) (6 * side + b))) := by
  obtain ⟨g1, g2, g3, g4, g5, g6, g7⟩ := hs
  refine ⟨u2 (u2 I 55 (6 * side + a) (I 55 (6 * side + b))) 55 (6 * side + b) (I 55 (6 * side + a)), ?_, fun x hx => by rw [u2r hx, u2r hx], fun hab => ⟨by rw [u2r (by omega), u2r (by omega)]; exact g1, fun i hi => ?_, by rw [u2r (by omega), u2r (by omega)]; exact g3, by rw [u2r (by omega), u2r (by omega)]; exact g4, by rw [u2r (by omega), u2r (by omega)]; exact g5, by rw [u2r (by omega), u2r (by omega)]; exact g6, by rw [u2r (by omega), u2r (by omega)]; exact g7⟩⟩
  · unfold X8_exchange
    rw [gr_54_2, show (6 : Int32) = nI 6 from rfl, pk_mul, nI_add, nI_add, Nat.mul_comm side 6, la_55 (by omega), gr_54_2, gr_54_2, la_55 (by omega), sa_55 (by omega), gr_54_2, sa_55 (by omega), h_ret]
  · rw [sSw_ord, u2_ap, u2_ap]
    unfold t_sw
    by_cases c1 : i = 6 * side + b
    · rw [if_pos ⟨rfl, c1⟩, if_neg (by omega), if_pos c1]
      exact g2 _ (by omega)
    · rw [if_neg (fun e => c1 e.2)]
      by_cases c2 : i = 6 * side + a
      · rw [if_pos ⟨rfl, c2⟩, if_pos c2]
        exact g2 _ (by omega)
      · rw [if_neg (fun e => c2 e.2), if_neg c2, if_neg c1]
        exact g2 i hi
theorem X0_note_h (x y z : Int32) : X0_note 53 x y z (hp I L ρ) = some (none, hp (u2 (u2 (u2 I 61 0 x) 61 1 y) 61 2 z) L ρ) := by
  unfold X0_note
  rw [gr_53_1, show (0 : Int32) = nI 0 from rfl, show (1 : Int32) = nI 1 from rfl, show (2 : Int32) = nI 2 from rfl, sa_61 (by omega), gr_53_1, sa_61 (by omega), gr_53_1, sa_61 (by omega), h_ret]
/-- one exchange tried -/
theorem X0_ch_step (hok : okA A) {n side O a b : Nat} {F : fT} {r35 r57 rec : Int32 → zM} (hn : n ≤ 40) (hside : side < 2) (hO : O = k_n (a_C A) side) (hab : a < b ∧ b < O) (hX : RelX I L ρ A N) (hF : fdX I F) : ∃ I', X0_findChange_B70 r35 r57 53 41 (nI n) (nI side) (nI O) (nI a) rec (nI b) (hp I L ρ) = rec (nI (b + 1)) (hp I' L ρ) ∧ (∀ x, lastX x ∨ 215 ≤ x → I' x = I x) ∧ RelX I' L ρ A N ∧ fdX I' (c_st (a_C A) (a_s A) n side a b F) := by
  have hk := hok.1
  have h999 := hok.2.2.1.2.1
  have hO6 := k_n_le hk side
  have ta := k_th_of (C := a_C A) hside (show a < k_n (a_C A) side by omega)
  have tb := k_th_of (C := a_C A) hside (show b < k_n (a_C A) side by omega)
  have hS := (okT_Sw hok.2.2.1 ta tb (by omega)).1
  obtain ⟨I1, e1, e2, e3, e4⟩ := XY_take hok hX
  obtain ⟨I2, f1, f2, f3⟩ := XY_exch (L := L) (ρ := ρ) hside (a := a) (b := b) (by omega) (by omega) e3
  have hX2 : RelX I2 L ρ A N := RelX_fr (fun x hx => f2 x (by unfold lastX at hx; omega)) rfl (Nat.le_refl _) e4
  obtain ⟨I3, g1, g2, g3, g4⟩ := XY_goOn_lp (L := L) (ρ := ρ) hok (n := n) hS (by show s_sp (a_s A) + n ≤ 2000; omega) n 0 zFU I2 (by omega) (by unfold zFU; omega) hX2 (f3 (by omega))
  have hfr : ∀ x, lastX x ∨ 61 ≤ x → I3 x = I x := fun x hx => by rw [g2 x hx, f2 x (by unfold lastX at hx; omega), e2 x hx]
  have r61 : I3 61 = I 61 := hfr 61 (Or.inr (Nat.le_refl _))
  have e0 : X0_findChange_B70 r35 r57 53 41 (nI n) (nI side) (nI O) (nI a) rec (nI b) (hp I L ρ) = z_if (nI (c_w (a_C A) (a_s A) n side a b) ≤ nI F.2) (rec (nI (b + 1))) (z_rc 0 53 (z_cv (X0_note 53 (nI side) (nI a) (nI b)) (z_gr 0 1 53 fun x7 => z_gr 0 0 53 fun x8 => z_rc 8 x8 (z_ci (X8_wedPairs x8) fun y9 => z_sa 20 x7 3 y9 (rec (nI (b + 1))))))) (hp I3 L ρ) := by
    unfold X0_findChange_B70 X0_findChange_J140
    rw [h_if, if_neg (nI_ge (by omega) (by omega)), gr_53_0, rc_54, h_cv e1, gr_53_0, rc_54, h_cv f1, rc_53, h_cv (show X0_goOn 53 (nI n) _ = _ from g1), gr_53_0, rc_54, h_ci (X8_pairs54_h g3), gr_53_1, show (3 : Int32) = nI 3 from rfl, la_61 (by omega), r61, hF.2.1, nI_1]
    rfl
  have hw := p_wc_le (p_gos (a_C A) n (sSw (a_s A) (6 * side + a) (6 * side + b)))
  have hw2 : c_w (a_C A) (a_s A) n side a b ≤ 6 := hw
  have hF2 := hF.2.2
  unfold c_st
  by_cases c : F.2 < c_w (a_C A) (a_s A) n side a b
  · refine ⟨u2 (u2 (u2 (u2 I3 61 0 (nI side)) 61 1 (nI a)) 61 2 (nI b)) 61 3 (nI (c_w (a_C A) (a_s A) n side a b)), ?_, fun x hx => by rw [u2r (by unfold lastX at hx; omega), u2r (by unfold lastX at hx; omega), u2r (by unfold lastX at hx; omega), u2r (by unfold lastX at hx; omega)]; exact hfr x (l61 hx), RelX_fr (fun x hx => by rw [u2r (by unfold lastX at hx; omega), u2r (by unfold lastX at hx; omega), u2r (by unfold lastX at hx; omega), u2r (by unfold lastX at hx; omega)]) rfl (Nat.le_refl _) g4, ?_⟩
    · have hs3 : stX 54 (u2 (u2 (u2 I3 61 0 (nI side)) 61 1 (nI a)) 61 2 (nI b)) (p_gos (a_C A) n (sSw (a_s A) (6 * side + a) (6 * side + b))) := stX_fr (fun x h1 h2 => by rw [u2r (by omega), u2r (by omega), u2r (by omega)]) g3
      rw [e0, h_if, if_neg (nI_ge c (by omega)), rc_53, h_cv (X0_note_h _ _ _), gr_53_1, gr_53_0, rc_54, h_ci (X8_pairs54_h hs3), show (3 : Int32) = nI 3 from rfl, sa_61 (by omega)]
      rfl
    · rw [if_pos c]
      refine ⟨⟨?_, ?_, ?_⟩, ?_, hw2⟩
      · rw [u2_ap, if_neg (by omega), u2_ap, if_neg (by omega), u2_ap, if_neg (by omega), u2_ap, if_pos ⟨rfl, rfl⟩]
      · rw [u2_ap, if_neg (by omega), u2_ap, if_neg (by omega), u2_ap, if_pos ⟨rfl, rfl⟩]
      · rw [u2_ap, if_neg (by omega), u2_ap, if_pos ⟨rfl, rfl⟩]
      · rw [u2_ap, if_pos ⟨rfl, rfl⟩]
  · refine ⟨I3, ?_, fun x hx => hfr x (l61 hx), g4, ?_⟩
    · rw [e0, h_if, if_pos (nI_le (by omega) (by omega))]
    · rw [if_neg c]
      unfold fdX
      rw [r61]
      exact hF
theorem X0_ch_b (hok : okA A) {n side O a : Nat} {r35 r57 : Int32 → zM} (hn : n ≤ 40) (hside : side < 2) (hO : O = k_n (a_C A) side) : ∀ (m b fuel : Nat) (I : Nat → Nat → Int32) (F : fT), b + m = O → m < fuel → a < b → RelX I L ρ A N → fdX I F → ∃ I', z_fix (fun r x => X0_findChange_B70 r35 r57 53 41 (nI n) (nI side) (nI O) (nI a) r x) fuel (nI b) (hp I L ρ) = r57 (nI (a + 1)) (hp I' L ρ) ∧ (∀ x, lastX x ∨ 215 ≤ x → I' x = I x) ∧ RelX I' L ρ A N ∧ fdX I' (c_b (a_C A) (a_s A) n side a m b F) := by
  have hO6 := k_n_le hok.1 side
  intro m
  induction m with
  | zero =>
    intro b fuel I F h1 h2 h3 h4 h5
    obtain ⟨f, rfl⟩ : ∃ f, fuel = f + 1 := ⟨fuel - 1, by omega⟩
    refine ⟨I, ?_, fun _ _ => rfl, h4, h5⟩
    rw [h_fix]
    show X0_findChange_B70 r35 r57 53 41 (nI n) (nI side) (nI O) (nI a) _ (nI b) (hp I L ρ) = _
    unfold X0_findChange_B70 X0_findChange_J146
    rw [h_if, if_pos (nI_le (by omega) (by omega)), nI_1]
  | succ m ih =>
    intro b fuel I F h1 h2 h3 h4 h5
    obtain ⟨f, rfl⟩ : ∃ f, fuel = f + 1 := ⟨fuel - 1, by omega⟩
    rw [h_fix]
    generalize hg : z_fix (fun r x => X0_findChange_B70 r35 r57 53 41 (nI n) (nI side) (nI O) (nI a) r x) f = rec
    obtain ⟨I1, e1, e2, e3, e4⟩ := X0_ch_step (L := L) (ρ := ρ) (r35 := r35) (r57 := r57) (rec := rec) hok hn hside hO (a := a) (b := b) (by omega) h4 h5
    obtain ⟨I', r1, r2, r3, r4⟩ := ih (b + 1) f I1 _ (by omega) (by omega) (by omega) e3 e4
    refine ⟨I', ?_, fun x hx => by rw [r2 x hx, e2 x hx], r3, r4⟩
    show X0_findChange_B70 r35 r57 53 41 (nI n) (nI side) (nI O) (nI a) rec (nI b) (hp I L ρ) = _
    rw [e1, ← hg]
    exact r1
theorem X0_ch_a (hok : okA A) {n side O : Nat} {r35 : Int32 → zM} (hn : n ≤ 40) (hside : side < 2) (hO : O = k_n (a_C A) side) : ∀ (m a fuel : Nat) (I : Nat → Nat → Int32) (F : fT), a + m = O → m < fuel → RelX I L ρ A N → fdX I F → ∃ I', z_fix (fun r x => X0_findChange_B57 r35 53 41 (nI n) (nI side) (nI O) r x) fuel (nI a) (hp I L ρ) = r35 (nI (side + 1)) (hp I' L ρ) ∧ (∀ x, lastX x ∨ 215 ≤ x → I' x = I x) ∧ RelX I' L ρ A N ∧ fdX I' (c_a (a_C A) (a_s A) n side O m a F) := by
  have hO6 := k_n_le hok.1 side
  intro m
  induction m with
  | zero =>
    intro a fuel I F h1 h2 h4 h5
    obtain ⟨f, rfl⟩ : ∃ f, fuel = f + 1 := ⟨fuel - 1, by omega⟩
    refine ⟨I, ?_, fun _ _ => rfl, h4, h5⟩
    rw [h_fix]
    show X0_findChange_B57 r35 53 41 (nI n) (nI side) (nI O) _ (nI a) (hp I L ρ) = _
    unfold X0_findChange_B57 X0_findChange_J152
    rw [h_if, if_pos (nI_le (by omega) (by omega)), nI_1]
  | succ m ih =>
    intro a fuel I F h1 h2 h4 h5
    obtain ⟨f, rfl⟩ : ∃ f, fuel = f + 1 := ⟨fuel - 1, by omega⟩
    rw [h_fix]
    generalize hg : z_fix (fun r x => X0_findChange_B57 r35 53 41 (nI n) (nI side) (nI O) r x) f = rec
    obtain ⟨I1, e1, e2, e3, e4⟩ := X0_ch_b (L := L) (ρ := ρ) (r35 := r35) (r57 := rec) hok hn hside hO (a := a) (O - (a + 1)) (a + 1) zFU I F (by omega) (by unfold zFU; omega) (by omega) h4 h5
    obtain ⟨I', r1, r2, r3, r4⟩ := ih (a + 1) f I1 _ (by omega) (by omega) e3 e4
    refine ⟨I', ?_, fun x hx => by rw [r2 x hx, e2 x hx], r3, r4⟩
    show X0_findChange_B57 r35 53 41 (nI n) (nI side) (nI O) rec (nI a) (hp I L ρ) = _
    unfold X0_findChange_B57
    rw [h_if, if_neg (nI_ge (by omega) (by omega)), nI_1, e1, ← hg]
    exact r1
theorem X0_ch_h (hok : okA A) (hX : RelX I L ρ A N) {n : Nat} (hn : n ≤ 40) : ∃ I', X0_findChange 53 41 (nI n) (hp I L ρ) = some (none, hp I' L ρ) ∧ (∀ x, lastX x ∨ 215 ≤ x → I' x = I x) ∧ fdX I' (c_all (a_C A) (a_s A) n) := by
  have h999 := hok.2.2.1.2.1
  obtain ⟨J, hJ⟩ : ∃ J, J = u2 (u2 (u2 I 61 0 (-1)) 61 1 (-1)) 61 2 (-1) := ⟨_, rfl⟩
  have j0 : ∀ x, x ≠ 61 → J x = I x := fun x hx => by rw [hJ, u2r hx, u2r hx, u2r hx]
  have hXJ : RelX J L ρ A N := RelX_fr (fun x hx => j0 x (by unfold lastX at hx; omega)) rfl (Nat.le_refl _) hX
  obtain ⟨I1, e1, e2, e3, e4⟩ := XY_take hok hXJ
  obtain ⟨I2, f1, f2, f3, f4⟩ := XY_goOn_lp (L := L) (ρ := ρ) hok (n := n) hok.2.2.1.1 (by omega) n 0 zFU I1 (by omega) (by unfold zFU; omega) e4 e3
  have r61 : I2 61 = J 61 := by rw [f2 61 (Or.inr (Nat.le_refl _)), e2 61 (Or.inr (Nat.le_refl _))]
  obtain ⟨K, hK⟩ : ∃ K, K = u2 I2 61 3 (nI (p_wc (p_gos (a_C A) n (a_s A)))) := ⟨_, rfl⟩
  have k0 : ∀ x, x ≠ 61 → K x = I2 x := fun x hx => by rw [hK, u2r hx]
  have hXK : RelX K L ρ A N := RelX_fr (fun x hx => k0 x (by unfold lastX at hx; omega)) rfl (Nat.le_refl _) f4
  have hFK : fdX K ((-1, -1, -1), p_wc (p_gos (a_C A) n (a_s A))) := by
    refine ⟨⟨?_, ?_, ?_⟩, by rw [hK, u2_ap, if_pos ⟨rfl, rfl⟩], p_wc_le _⟩
    · rw [hK, u2_ap, if_neg (by omega), r61, hJ, u2_ap, if_neg (by omega), u2_ap, if_neg (by omega), u2_ap, if_pos ⟨rfl, rfl⟩]
    · rw [hK, u2_ap, if_neg (by omega), r61, hJ, u2_ap, if_neg (by omega), u2_ap, if_pos ⟨rfl, rfl⟩]
    · rw [hK, u2_ap, if_neg (by omega), r61, hJ, u2_ap, if_pos ⟨rfl, rfl⟩]
  have side_h : ∀ {rec : Int32 → zM} {side : Nat} {J : Nat → Nat → Int32} {F : fT}, side < 2 → RelX J L ρ A N → fdX J F → ∃ I', X0_findChange_B35 53 41 (nI n) rec (nI side) (hp J L ρ) = rec (nI (side + 1)) (hp I' L ρ) ∧ (∀ x, lastX x ∨ 215 ≤ x → I' x = J x) ∧ RelX I' L ρ A N ∧ fdX I' (c_a (a_C A) (a_s A) n side (k_n (a_C A) side) (k_n (a_C A) side) 0 F) := by
    intro rec side J F hs hXJ hFJ
    have hO6 := k_n_le hok.1 side
    obtain ⟨I', q1, q2, q3, q4⟩ := X0_ch_a (L := L) (ρ := ρ) (r35 := rec) hok hn hs (O := k_n (a_C A) side) rfl (k_n (a_C A) side) 0 zFU J F (by omega) (by unfold zFU; omega) hXJ hFJ
    refine ⟨I', ?_, q2, q3, q4⟩
    have hcnt : J (ρ.1 + 1) side = nI (k_n (a_C A) side) := by
      have := (cu_ch hXJ).1
      unfold k_n
      by_cases c : side = 0
      · rw [c, if_pos rfl]; exact this.1
      · rw [if_neg c, show side = 1 by omega]; exact this.2
    unfold X0_findChange_B35
    rw [h_if, if_neg (show ¬ (2 : Int32) ≤ nI side from nI_ge (b := 2) (by omega) (by omega)), gr_53_2, gr_48_0, cu_w hXJ, gc_0 (cu_ρ hXJ), lac_1 (cu_ρ hXJ) hs, hcnt]
    exact q1
  obtain ⟨g, hgz⟩ : ∃ g, zFU = g + 1 + 1 + 1 := ⟨999997, rfl⟩
  generalize hr0 : z_fix (fun r x => X0_findChange_B35 53 41 (nI n) r x) (g + 1) = rec1
  obtain ⟨I3, a1, a2, a3, a4⟩ := side_h (rec := z_fix (fun r x => X0_findChange_B35 53 41 (nI n) r x) (g + 1 + 1)) (side := 0) (by omega) hXK hFK
  obtain ⟨I4, b1, b2, b3, b4⟩ := side_h (rec := z_fix (fun r x => X0_findChange_B35 53 41 (nI n) r x) (g + 1)) (side := 1) (by omega) a3 a4
  have hfin : z_fix (fun r x => X0_findChange_B35 53 41 (nI n) r x) zFU 0 (hp K L ρ) = some (none, hp I4 L ρ) := by
    rw [hgz, h_fix]
    show X0_findChange_B35 53 41 (nI n) (z_fix (fun r x => X0_findChange_B35 53 41 (nI n) r x) (g + 1 + 1)) (nI 0) (hp K L ρ) = _
    rw [a1, h_fix]
    show X0_findChange_B35 53 41 (nI n) (z_fix (fun r x => X0_findChange_B35 53 41 (nI n) r x) (g + 1)) (nI 1) (hp I3 L ρ) = _
    rw [b1, h_fix]
    show X0_findChange_B35 53 41 (nI n) (z_fix (fun r x => X0_findChange_B35 53 41 (nI n) r x) g) (nI 2) (hp I4 L ρ) = _
    unfold X0_findChange_B35
    rw [h_if, if_pos (by decide)]; rfl
  refine ⟨I4, ?_, fun x hx => by rw [b2 x hx, a2 x hx, k0 x (by unfold lastX at hx; omega), f2 x (l61 hx), e2 x (l61 hx), j0 x (by unfold lastX at hx; omega)], b4⟩
  unfold X0_findChange
  rw [rc_53, h_cv (X0_note_h _ _ _), ← hJ, gr_53_0, rc_54, h_cv e1, rc_53, h_cv (show X0_goOn 53 (nI n) _ = _ from f1), gr_53_1, gr_53_0, rc_54, h_ci (X8_pairs54_h f3), show (3 : Int32) = nI 3 from rfl, sa_61 (by omega), ← hK]
  exact hfin
end B57
