/-! tells: whom to look at -/
section B5f
variable {I I0 : Nat → Nat → Int32} {L L0 : Nat → Nat → Int64} {ρ : zRh} {h : zH} {A : aT} {N : Nat} {C : cT} {s : sT} {V : vT}
def g_p (A : aT) (a n p z : Nat) : Bool := w_g (p_gos (a_C A) n (sSz (a_s A) a z)) (k_cd (a_C A) p)
def t_of (A : aT) (a S n p : Nat) : Nat := t_most S (g_p A a n p)
theorem z_left_lt (A : aT) (a : Nat) : z_left A a < 1024 := by
  unfold z_left
  split
  · exact z_b_lt _ 10
  · omega
theorem X0_most_lp {a S last n p : Nat} (hS : S < 1024) (hn : 1 ≤ n ∧ n ≤ last ∧ last ≤ 30) (hp2 : k_cd (a_C A) p < 12) (hlo : loX I A a S last 10) : ∀ (m z fuel : Nat), z + m = 10 → m < fuel → z_fix (fun r x => X0_mostLeft_B6 53 (nI S) (nI n) (nI (k_cd (a_C A) p)) r x.1 x.2) fuel (nI (c_f S (g_p A a n p) z), nI z) (hp I L ρ) = some (some (.int (nI (t_of A a S n p))), hp I L ρ) := by
  intro m
  induction m with
  | zero =>
    intro z fuel h1 h2
    obtain ⟨f, rfl⟩ : ∃ f, fuel = f + 1 := ⟨fuel - 1, by omega⟩
    obtain rfl : z = 10 := by omega
    have hpt := c_f_pt S (g_p A a n p)
    have hp10 := b_pt_le S
    rw [h_fix]
    show X0_mostLeft_B6 53 (nI S) (nI n) (nI (k_cd (a_C A) p)) _ (nI (c_f S (g_p A a n p) 10)) (nI 10) (hp I L ρ) = _
    unfold X0_mostLeft_B6 X0_mostLeft_J50 t_of t_most
    rw [h_if, if_pos (by decide), h_ci (J6_bits10 S hS), h_ret, pk_sub hpt]
    simp only [nI_lt' (show c_f S (g_p A a n p) 10 < 2147483648 by omega) (show b_pt S - c_f S (g_p A a n p) 10 < 2147483648 by omega)]
    split <;> rfl
  | succ m ih =>
    intro z fuel h1 h2
    obtain ⟨f, rfl⟩ : ∃ f, fuel = f + 1 := ⟨fuel - 1, by omega⟩
    have hi := ih (z + 1) f (by omega) (by omega)
    rw [h_fix]
    generalize hg : z_fix (fun r x => X0_mostLeft_B6 53 (nI S) (nI n) (nI (k_cd (a_C A) p)) r x.1 x.2) f = rec at hi
    show X0_mostLeft_B6 53 (nI S) (nI n) (nI (k_cd (a_C A) p)) rec (nI (c_f S (g_p A a n p) z)) (nI z) (hp I L ρ) = _
    have hb := b_test12 z (by omega) S (by omega)
    have hb01 : b_k S z < 2 := Nat.mod_lt _ (by omega)
    have ec : c_f S (g_p A a n p) (z + 1) = c_f S (g_p A a n p) z + (if b_k S z = 1 ∧ g_p A a n p z = true then 1 else 0) := rfl
    unfold X0_mostLeft_B6 X0_mostLeft_J44
    rw [h_if, if_neg (show ¬ (10 : Int32) ≤ nI z from nI_ge (b := 10) (by omega) (by omega)), h_if, hb]
    have e1 : nI (b_k S z) = 1 ↔ b_k S z = 1 := nI_inj (b := 1) (by omega) (by omega)
    simp only [e1]
    by_cases c : b_k S z = 1
    · have hr := hlo z n (by omega) c hn.1 hn.2.1
      have hl12 : z_b (w_g (p_gos (a_C A) n (sSz (a_s A) a z))) 12 < 4096 := z_b_lt _ 12
      rw [if_pos c, gr_53_3, show (31 : Int32) = nI 31 from rfl, pk_mul, nI_add, Nat.mul_comm z 31, la_62 (by omega), hr, show (nI 31 : Int32) = 31 from rfl, b_test12 _ hp2 _ hl12, z_b_bit _ 12 (by omega) _ hp2, nI_add, nI_1, ← hi, ec]
      by_cases d : g_p A a n p z = true
      · rw [if_pos (show w_g (p_gos (a_C A) n (sSz (a_s A) a z)) (k_cd (a_C A) p) = true from d), if_pos ⟨c, d⟩]
      · rw [if_neg (show ¬ w_g (p_gos (a_C A) n (sSz (a_s A) a z)) (k_cd (a_C A) p) = true from d), if_neg (fun e => d e.2)]
    · rw [if_neg c, nI_1, ← hi, ec, if_neg (fun e => c e.1)]; rfl
theorem X12_most_lp (hk : okC (a_C A)) {a S n p : Nat} (hS : S < 1024) (hn : n ≤ 30) (hp2 : p < k_L (a_C A) + k_R (a_C A)) (hwy : wyM I A a 10) : ∀ (m z fuel : Nat), z + m = 10 → m < fuel → z_fix (fun r x => X12_mostAlike_B6 215 (nI S) (nI n) (nI p) r x.1 x.2) fuel (nI (c_f S (g_p A a n p) z), nI z) (hp I L ρ) = some (some (.int (nI (t_of A a S n p))), hp I L ρ) := by
  intro m
  induction m with
  | zero =>
    intro z fuel h1 h2
    obtain ⟨f, rfl⟩ : ∃ f, fuel = f + 1 := ⟨fuel - 1, by omega⟩
    obtain rfl : z = 10 := by omega
    have hpt := c_f_pt S (g_p A a n p)
    have hp10 := b_pt_le S
    rw [h_fix]
    show X12_mostAlike_B6 215 (nI S) (nI n) (nI p) _ (nI (c_f S (g_p A a n p) 10)) (nI 10) (hp I L ρ) = _
    unfold X12_mostAlike_B6 X12_mostAlike_J50 t_of t_most
    rw [h_if, if_pos (by decide), h_ci (X12_bits10 hS), h_if, pk_sub hpt]
    simp only [nI_le' (show b_pt S - c_f S (g_p A a n p) 10 < 2147483648 by omega) (show c_f S (g_p A a n p) 10 < 2147483648 by omega)]
    by_cases c : b_pt S - c_f S (g_p A a n p) 10 ≤ c_f S (g_p A a n p) 10
    · rw [if_pos c, if_neg (by omega)]; rfl
    · rw [if_neg c, if_pos (by omega)]; rfl
  | succ m ih =>
    intro z fuel h1 h2
    obtain ⟨f, rfl⟩ : ∃ f, fuel = f + 1 := ⟨fuel - 1, by omega⟩
    have hi := ih (z + 1) f (by omega) (by omega)
    rw [h_fix]
    generalize hg : z_fix (fun r x => X12_mostAlike_B6 215 (nI S) (nI n) (nI p) r x.1 x.2) f = rec at hi
    show X12_mostAlike_B6 215 (nI S) (nI n) (nI p) rec (nI (c_f S (g_p A a n p) z)) (nI z) (hp I L ρ) = _
    have h12 := hk.1
    have hb := b_test12 z (by omega) S (by omega)
    have hb01 : b_k S z < 2 := Nat.mod_lt _ (by omega)
    have ec : c_f S (g_p A a n p) (z + 1) = c_f S (g_p A a n p) z + (if b_k S z = 1 ∧ g_p A a n p z = true then 1 else 0) := rfl
    unfold X12_mostAlike_B6 X12_mostAlike_J44
    rw [h_if, if_neg (show ¬ (9 : Int32) < nI z from fun e => absurd ((nI_lt' (a := 9) (by omega) (by omega)).mp e) (by omega)), h_if, hb]
    have e1 : nI (b_k S z) = 1 ↔ b_k S z = 1 := nI_inj (b := 1) (by omega) (by omega)
    simp only [e1]
    by_cases c : b_k S z = 1
    · have hr := hwy z n (by omega) (by omega)
      obtain ⟨w1, w2⟩ := w_set_bit (s := p_gos (a_C A) n (sSz (a_s A) a z)) hk hp2
      rw [if_pos c, gr_215_73, show (31 : Int32) = nI 31 from rfl, pk_mul, nI_add, la_265 (by omega), hr, show (nI 31 : Int32) = 31 from rfl, w1, nI_1, ← hi, ec]
      by_cases d : g_p A a n p z = true
      · have d2 : decide (s_wed (p_gos (a_C A) n (sSz (a_s A) a z)) (k_cd (a_C A) p) ≠ none) = true := d
        rw [d2, if_pos ⟨c, d⟩, show bI true = nI 1 from rfl, nI_add]
      · have d2 : decide (s_wed (p_gos (a_C A) n (sSz (a_s A) a z)) (k_cd (a_C A) p) ≠ none) = false := by
          have : ¬ w_g (p_gos (a_C A) n (sSz (a_s A) a z)) (k_cd (a_C A) p) = true := d
          show w_g (p_gos (a_C A) n (sSz (a_s A) a z)) (k_cd (a_C A) p) = false
          simpa using this
        rw [d2, if_neg (fun e => d e.2), show bI false = nI 0 from rfl, nI_add]
    · rw [if_neg c, nI_1, ← hi, ec, if_neg (fun e => c e.1)]; rfl
abbrev gT : Type := (Int32 × Int32) × Nat
def q_st (A : aT) (a S n p : Nat) (F : gT) : gT := if t_of A a S n p < F.2 then ((nI n, nI p), t_of A a S n p) else F
def q_p (A : aT) (a S n : Nat) : Nat → Nat → gT → gT
  | 0, _, F => F
  | m + 1, p, F => q_p A a S n m (p + 1) (q_st A a S n p F)
def q_n (A : aT) (a S : Nat) : Nat → Nat → gT → gT
  | 0, _, F => F
  | m + 1, n, F => q_n A a S m (n + 1) (q_p A a S n (k_L (a_C A) + k_R (a_C A)) 0 F)
def okF (F : gT) : Prop := (F.2 = 11 ∧ F.1 = (-1, -1)) ∨ (F.2 ≤ 10 ∧ ∃ n, n ≤ 30 ∧ F.1.1 = nI n)
theorem q_st_ok {a S n p : Nat} {F : gT} (hn : n ≤ 30) (h : okF F) : okF (q_st A a S n p F) ∧ (q_st A a S n p F).2 ≤ 10 := by
  have ht := t_most_le S (g_p A a n p)
  unfold q_st t_of
  by_cases c : t_most S (g_p A a n p) < F.2
  · rw [if_pos c]
    exact ⟨Or.inr ⟨ht, n, hn, rfl⟩, ht⟩
  · rw [if_neg c]
    rcases h with h | h
    · omega
    · exact ⟨Or.inr h, h.1⟩
def fgX (I : Nat → Nat → Int32) (F : gT) : Prop := I 61 0 = F.1.1 ∧ I 61 1 = F.1.2 ∧ I 61 2 = nI F.2
theorem X0_tell_p (hok : okA A) {a S n last : Nat} {r71 : Int32 → zM} (hS : S < 1024) (hn : 1 ≤ n ∧ n ≤ last ∧ last ≤ 30) : ∀ (m p fuel : Nat) (I : Nat → Nat → Int32) (F : gT), p + m = k_L (a_C A) + k_R (a_C A) → m < fuel → RelX I L ρ A N → loX I A a S last 10 → fgX I F → okF F → ∃ I', z_fix (fun r x => X0_findTelling_B81 r71 53 (nI S) (nI last) (nI n) r x) fuel (nI p) (hp I L ρ) = r71 (nI (n + 1)) (hp I' L ρ) ∧ (∀ x, x ≠ 61 → I' x = I x) ∧ fgX I' (q_p A a S n m p F) ∧ okF (q_p A a S n m p F) := by
  have hk := hok.1
  have h12 := hk.1
  have eP : ∀ {I : Nat → Nat → Int32} {L : Nat → Nat → Int64} {ρ : zRh}, RelX I L ρ A N → X1_people ρ.1 (hp I L ρ) = some (some (.int (nI (k_L (a_C A) + k_R (a_C A)))), hp I L ρ) := by
    intro I L ρ hX
    have hC := cu_ch hX
    rcases cu_ρ hX with e | e
    · rw [e] at hC ⊢; exact X1_people_13 hC hk
    · rw [e] at hC ⊢; exact X1_people_27 hC hk
  intro m
  induction m with
  | zero =>
    intro p fuel I F h1 h2 h3 h4 h5 h6
    obtain ⟨f, rfl⟩ : ∃ f, fuel = f + 1 := ⟨fuel - 1, by omega⟩
    refine ⟨I, ?_, fun _ _ => rfl, h5, h6⟩
    rw [h_fix]
    show X0_findTelling_B81 r71 53 (nI S) (nI last) (nI n) _ (nI p) (hp I L ρ) = _
    unfold X0_findTelling_B81 X0_findTelling_J144
    rw [gr_53_2, gr_48_0, cu_w h3, rcc (cu_ρ h3), h_ci (eP h3), h_if, if_pos (nI_le (by omega) (by omega)), nI_1]
  | succ m ih =>
    intro p fuel I F h1 h2 h3 h4 h5 h6
    obtain ⟨f, rfl⟩ : ∃ f, fuel = f + 1 := ⟨fuel - 1, by omega⟩
    rw [h_fix]
    generalize hg : z_fix (fun r x => X0_findTelling_B81 r71 53 (nI S) (nI last) (nI n) r x) f = rec
    have hcd := k_th_lt hk (k_cd_th (show p < k_L (a_C A) + k_R (a_C A) by omega) hk).1
    have ht := t_most_le S (g_p A a n p)
    have ht2 : t_of A a S n p ≤ 10 := ht
    have hF11 : F.2 ≤ 11 := by rcases h6 with h | h <;> omega
    have hml : X0_mostLeft 53 (nI S) (nI n) (nI (k_cd (a_C A) p)) (hp I L ρ) = some (some (.int (nI (t_of A a S n p))), hp I L ρ) := X0_most_lp hS hn hcd h4 10 0 zFU (by omega) (by unfold zFU; omega)
    obtain ⟨q1, q2⟩ := q_st_ok (A := A) (a := a) (S := S) (n := n) (p := p) (by omega) h6
    have e0 : X0_findTelling_B81 r71 53 (nI S) (nI last) (nI n) rec (nI p) (hp I L ρ) = z_if (nI F.2 ≤ nI (t_of A a S n p)) (rec (nI (p + 1))) (z_rc 0 53 (z_cv (X0_note 53 (nI n) (nI p) (nI (t_of A a S n p))) (rec (nI (p + 1))))) (hp I L ρ) := by
      unfold X0_findTelling_B81 X0_findTelling_J138
      rw [gr_53_2, gr_48_0, cu_w h3, rcc (cu_ρ h3), h_ci (eP h3), h_if, if_neg (nI_ge (by omega) (by omega)), gr_53_2, gr_48_0, cu_w h3, rcc (cu_ρ h3), h_ci (XC_slot h3 hk _), sl_nI hk (by omega), oI_some, rc_53, h_ci hml, gr_53_1, show (2 : Int32) = nI 2 from rfl, la_61 (by omega), h5.2.2, nI_1]
    have hstep : ∃ I1, X0_findTelling_B81 r71 53 (nI S) (nI last) (nI n) rec (nI p) (hp I L ρ) = rec (nI (p + 1)) (hp I1 L ρ) ∧ (∀ x, x ≠ 61 → I1 x = I x) ∧ fgX I1 (q_st A a S n p F) := by
      unfold q_st
      by_cases c : t_of A a S n p < F.2
      · refine ⟨u2 (u2 (u2 I 61 0 (nI n)) 61 1 (nI p)) 61 2 (nI (t_of A a S n p)), ?_, fun x hx => by rw [u2r hx, u2r hx, u2r hx], ?_⟩
        · rw [e0, h_if, if_neg (nI_ge c (by omega)), rc_53, h_cv (X0_note_h _ _ _)]
        · rw [if_pos c]
          refine ⟨?_, ?_, ?_⟩
          · rw [u2_ap, if_neg (by omega), u2_ap, if_neg (by omega), u2_ap, if_pos ⟨rfl, rfl⟩]
          · rw [u2_ap, if_neg (by omega), u2_ap, if_pos ⟨rfl, rfl⟩]
          · rw [u2_ap, if_pos ⟨rfl, rfl⟩]
      · refine ⟨I, ?_, fun _ _ => rfl, by rw [if_neg c]; exact h5⟩
        rw [e0, h_if, if_pos (nI_le (by omega) (by omega))]
    obtain ⟨I1, e1, e2, e3⟩ := hstep
    have hX1 : RelX I1 L ρ A N := RelX_fr (fun x hx => e2 x (by unfold lastX at hx; omega)) rfl (Nat.le_refl _) h3
    obtain ⟨I', r1, r2, r3⟩ := ih (p + 1) f I1 _ (by omega) (by omega) hX1 (by unfold loX; rw [e2 62 (by omega)]; exact h4) e3 q1
    refine ⟨I', ?_, fun x hx => by rw [r2 x hx, e2 x hx], r3⟩
    show X0_findTelling_B81 r71 53 (nI S) (nI last) (nI n) rec (nI p) (hp I L ρ) = _
    rw [e1, ← hg]
    exact r1
theorem X0_tell_n (hok : okA A) {a S last : Nat} (hS : S < 1024) (hl : last ≤ 30) : ∀ (m n fuel : Nat) (I : Nat → Nat → Int32) (F : gT), n + m = last + 1 → 1 ≤ n → m < fuel → RelX I L ρ A N → loX I A a S last 10 → fgX I F → okF F → ∃ I', z_fix (fun r x => X0_findTelling_B71 53 (nI S) (nI last) r x) fuel (nI n) (hp I L ρ) = some (some (.int 1), hp I' L ρ) ∧ (∀ x, x ≠ 61 → I' x = I x) ∧ fgX I' (q_n A a S m n F) ∧ okF (q_n A a S m n F) := by
  have hk := hok.1
  intro m
  induction m with
  | zero =>
    intro n fuel I F h1 h0 h2 h3 h4 h5 h6
    obtain ⟨f, rfl⟩ : ∃ f, fuel = f + 1 := ⟨fuel - 1, by omega⟩
    refine ⟨I, ?_, fun _ _ => rfl, h5, h6⟩
    rw [h_fix]
    show X0_findTelling_B71 53 (nI S) (nI last) _ (nI n) (hp I L ρ) = _
    unfold X0_findTelling_B71
    rw [h_if, if_pos (nI_lt (by omega) (by omega)), h_rb1]
  | succ m ih =>
    intro n fuel I F h1 h0 h2 h3 h4 h5 h6
    obtain ⟨f, rfl⟩ : ∃ f, fuel = f + 1 := ⟨fuel - 1, by omega⟩
    rw [h_fix]
    generalize hg : z_fix (fun r x => X0_findTelling_B71 53 (nI S) (nI last) r x) f = rec
    obtain ⟨I1, e1, e2, e3, e4⟩ := X0_tell_p (L := L) (ρ := ρ) (r71 := rec) hok hS (n := n) (last := last) (a := a) (by omega) (k_L (a_C A) + k_R (a_C A)) 0 zFU I F (by omega) (by have := hk.1; unfold zFU; omega) h3 h4 h5 h6
    have hX1 : RelX I1 L ρ A N := RelX_fr (fun x hx => e2 x (by unfold lastX at hx; omega)) rfl (Nat.le_refl _) h3
    obtain ⟨I', r1, r2, r3⟩ := ih (n + 1) f I1 _ (by omega) (by omega) (by omega) hX1 (by unfold loX; rw [e2 62 (by omega)]; exact h4) e3 e4
    refine ⟨I', ?_, fun x hx => by rw [r2 x hx, e2 x hx], r3⟩
    show X0_findTelling_B71 53 (nI S) (nI last) rec (nI n) (hp I L ρ) = _
    unfold X0_findTelling_B71
    rw [h_if, if_neg (show ¬ nI last < nI n from fun e => absurd ((nI_lt' (by omega) (by omega)).mp e) (by omega)), show (0 : Int32) = nI 0 from rfl, e1, ← hg]
    exact r1
theorem X0_tell_z (hok : okA A) {a S last : Nat} (ha : a < 12) (hS : S < 1024) (hl : last ≤ 30) : ∀ (m z fuel : Nat) (I : Nat → Nat → Int32), z + m = 10 → m < fuel → RelX I L ρ A N → loX I A a S last z → ∃ I', z_fix (fun r x => X0_findTelling_B27 53 41 (nI a) (nI S) (nI last) r x) fuel (nI z) (hp I L ρ) = X0_findTelling_J60 53 (nI S) (nI last) (hp I' L ρ) ∧ (∀ x, (lastX x ∨ 61 ≤ x) → x ≠ 62 → I' x = I x) ∧ RelX I' L ρ A N ∧ loX I' A a S last 10 := by
  intro m
  induction m with
  | zero =>
    intro z fuel I h1 h2 h3 h4
    obtain ⟨f, rfl⟩ : ∃ f, fuel = f + 1 := ⟨fuel - 1, by omega⟩
    obtain rfl : z = 10 := by omega
    refine ⟨I, ?_, fun _ _ _ => rfl, h3, h4⟩
    rw [h_fix]
    show X0_findTelling_B27 53 41 (nI a) (nI S) (nI last) _ (nI 10) (hp I L ρ) = _
    unfold X0_findTelling_B27
    rw [h_if, if_pos (by decide)]
  | succ m ih =>
    intro z fuel I h1 h2 h3 h4
    obtain ⟨f, rfl⟩ : ∃ f, fuel = f + 1 := ⟨fuel - 1, by omega⟩
    rw [h_fix]
    generalize hg : z_fix (fun r x => X0_findTelling_B27 53 41 (nI a) (nI S) (nI last) r x) f = rec
    have hb := b_test12 z (by omega) S (by omega)
    have hb01 : b_k S z < 2 := Nat.mod_lt _ (by omega)
    have e1 : nI (b_k S z) = 1 ↔ b_k S z = 1 := nI_inj (b := 1) (by omega) (by omega)
    by_cases c : b_k S z = 1
    · obtain ⟨I1, q1, q2, q3, q4⟩ := X0_look_h (L := L) (ρ := ρ) hok h3 ha (z := z) (last := last) (S := S) (by omega) hl h4
      obtain ⟨I', r1, r2, r3⟩ := ih (z + 1) f I1 (by omega) (by omega) q3 q4
      refine ⟨I', ?_, fun x hx h62 => by rw [r2 x hx h62, q2 x hx h62], r3⟩
      show X0_findTelling_B27 53 41 (nI a) (nI S) (nI last) rec (nI z) (hp I L ρ) = _
      unfold X0_findTelling_B27 X0_findTelling_J54
      rw [h_if, if_neg (show ¬ (10 : Int32) ≤ nI z from nI_ge (b := 10) (by omega) (by omega)), h_if, hb, if_pos (e1.mpr c), rc_53, h_cv q1, nI_1, ← hg]
      exact r1
    · obtain ⟨I', r1, r2, r3⟩ := ih (z + 1) f I (by omega) (by omega) h3 (fun y k q1 q2 q3 q4 => by
        by_cases d : y = z
        · rw [d] at q2; exact absurd q2 c
        · exact h4 y k (by omega) q2 q3 q4)
      refine ⟨I', ?_, r2, r3⟩
      show X0_findTelling_B27 53 41 (nI a) (nI S) (nI last) rec (nI z) (hp I L ρ) = _
      unfold X0_findTelling_B27 X0_findTelling_J54
      rw [h_if, if_neg (show ¬ (10 : Int32) ≤ nI z from nI_ge (b := 10) (by omega) (by omega)), h_if, hb, if_neg (fun e => c (e1.mp e)), nI_1, ← hg]
      exact r1
def l_30 (A : aT) : Nat := if 1000 * k_rt (a_C A) - 1 - s_cnt (a_C A) (a_s A) < 30 then 1000 * k_rt (a_C A) - 1 - s_cnt (a_C A) (a_s A) else 30
def q_end (A : aT) (a S : Nat) : gT := q_n A a S (l_30 A) 1 ((-1, -1), 11)
theorem X0_telling_h (hok : okA A) (hX : RelX I L ρ A N) {a S : Nat} (ha : a < 12) (hS : S < 1024) : ∃ I', X0_findTelling 53 41 (nI a) (nI S) (hp I L ρ) = some (some (.int (bI (decide (S ≠ 0 ∧ 1 ≤ l_30 A)))), hp I' L ρ) ∧ (∀ x, lastX x ∨ 215 ≤ x → I' x = I x) ∧ (S ≠ 0 → 1 ≤ l_30 A → fgX I' (q_end A a S) ∧ okF (q_end A a S)) := by
  have hc := cnt_le hok
  have hl30 : l_30 A ≤ 30 := by unfold l_30; split <;> omega
  have hif : (if nI (1000 * k_rt (a_C A) - 1 - s_cnt (a_C A) (a_s A)) < (30 : Int32) then nI (1000 * k_rt (a_C A) - 1 - s_cnt (a_C A) (a_s A)) else 30) = nI (l_30 A) := by
    unfold l_30
    by_cases c : 1000 * k_rt (a_C A) - 1 - s_cnt (a_C A) (a_s A) < 30
    · rw [if_pos (show nI _ < (30 : Int32) from nI_lt (b := 30) c (by omega)), if_pos c]
    · rw [if_neg (show ¬ nI _ < (30 : Int32) from fun e => c ((nI_lt' (b := 30) (by omega) (by omega)).mp e)), if_neg c]; rfl
  have e0 : X0_findTelling 53 41 (nI a) (nI S) (hp I L ρ) = (if S = 0 then some (some (.int 0), hp I L ρ) else if 1 ≤ l_30 A then z_fix (fun r x => X0_findTelling_B27 53 41 (nI a) (nI S) (nI (l_30 A)) r x) zFU 0 (hp I L ρ) else some (some (.int 0), hp I L ρ)) := by
    unfold X0_findTelling
    rw [rc_53, h_ci (X0_left_h hok hX), hif, h_if]
    have e1 : nI S = 0 ↔ S = 0 := nI_inj (b := 0) (by omega) (by omega)
    simp only [e1]
    by_cases c : S = 0
    · rw [if_pos c, if_pos c, h_rb0]
    · rw [if_neg c, if_neg c, h_if]
      by_cases d : 1 ≤ l_30 A
      · rw [if_pos (show (1 : Int32) ≤ nI (l_30 A) from nI_le (a := 1) d (by omega)), if_pos d]
      · rw [if_neg (show ¬ (1 : Int32) ≤ nI (l_30 A) from nI_ge (b := 1) (by omega) (by omega)), if_neg d, h_rb0]
  by_cases c : S = 0
  · exact ⟨I, by rw [e0, if_pos c, decide_eq_false (by omega)]; rfl, fun _ _ => rfl, fun h => absurd c h⟩
  · by_cases d : 1 ≤ l_30 A
    · obtain ⟨I1, q1, q2, q3, q4⟩ := X0_tell_z (L := L) (ρ := ρ) hok ha hS hl30 10 0 zFU I (by omega) (by unfold zFU; omega) hX (fun y k h => by omega)
      obtain ⟨J, hJ⟩ : ∃ J, J = u2 (u2 (u2 I1 61 0 (-1)) 61 1 (-1)) 61 2 11 := ⟨_, rfl⟩
      have j0 : ∀ x, x ≠ 61 → J x = I1 x := fun x hx => by rw [hJ, u2r hx, u2r hx, u2r hx]
      have hXJ : RelX J L ρ A N := RelX_fr (fun x hx => j0 x (by unfold lastX at hx; omega)) rfl (Nat.le_refl _) q3
      have hF : fgX J ((-1, -1), 11) := by
        refine ⟨?_, ?_, ?_⟩
        · rw [hJ, u2_ap, if_neg (by omega), u2_ap, if_neg (by omega), u2_ap, if_pos ⟨rfl, rfl⟩]
        · rw [hJ, u2_ap, if_neg (by omega), u2_ap, if_pos ⟨rfl, rfl⟩]
        · rw [hJ, u2_ap, if_pos ⟨rfl, rfl⟩]; rfl
      obtain ⟨I2, r1, r2, r3, r4⟩ := X0_tell_n (L := L) (ρ := ρ) hok hS hl30 (l_30 A) 1 zFU J _ (by omega) (by omega) (by unfold zFU; omega) hXJ (by unfold loX; rw [j0 62 (by omega)]; exact q4) hF (Or.inl ⟨rfl, rfl⟩)
      refine ⟨I2, ?_, fun x hx => by rw [r2 x (by unfold lastX at hx; omega), j0 x (by unfold lastX at hx; omega), q2 x (l61 hx) (by unfold lastX at hx; omega)], fun _ _ => ⟨r3, r4⟩⟩
      rw [e0, if_neg c, if_pos d, decide_eq_true ⟨c, d⟩, show (0 : Int32) = nI 0 from rfl, q1]
      unfold X0_findTelling_J60
      rw [rc_53, h_cv (X0_note_h _ _ _), ← hJ]
      exact r1
    · exact ⟨I, by rw [e0, if_neg c, if_neg d, decide_eq_false (by omega)]; rfl, fun _ _ => rfl, fun _ h => absurd h d⟩
end B5f
