/-! odds -/
section B54
variable {I I0 : Nat → Nat → Int32} {L L0 : Nat → Nat → Int64} {ρ : zRh} {h : zH} {A : aT} {N : Nat} {C : cT} {s : sT} {tr : Option Nat}
def o_w (C : cT) (s : sT) (a : Nat) (tr : Option Nat) : Nat := if s_wed (p_go C s tr) a = none then 0 else 1
def o_T (C : cT) (s : sT) (a : Nat) : Nat → Nat
  | 0 => 0
  | p + 1 => o_T C s a p + o_w C s a (some (k_cd C p))
theorem o_w_le (C : cT) (s : sT) (a : Nat) (tr : Option Nat) : o_w C s a tr ≤ 1 := by unfold o_w; split <;> omega
theorem o_T_le (C : cT) (s : sT) (a : Nat) : ∀ p, o_T C s a p ≤ p
  | 0 => Nat.le_refl _
  | p + 1 => by
    have h1 := o_T_le C s a p
    have h2 := o_w_le C s a (some (k_cd C p))
    show o_T C s a p + o_w C s a (some (k_cd C p)) ≤ p + 1
    omega
theorem szM_eq {s s' : sT} (h : s_siz s = s_siz s') (hz : szM I C s) : szM I C s' := fun a ha => by rw [← h]; exact hz a ha
theorem go_okS (hok : okA A) (ht : ∀ b, tr = some b → b < 12) : okS (a_C A) (p_go (a_C A) (a_s A) tr) := p_go_ok hok.1 hok.2.2.1.1 (by have := hok.2.2.1.2.1; omega)
theorem X0_next_h (hok : okA A) (hX : RelX I L ρ A N) {a : Nat} (ha : a < 12) (ht : ∀ b, tr = some b → b < 12) : ∃ I', X0_wedNext 53 41 (nI a) (oI tr) (hp I L ρ) = some (some (.int (nI (o_w (a_C A) (a_s A) a tr))), hp I' L ρ) ∧ (∀ x, lastX x ∨ 215 ≤ x → I' x = I x) ∧ RelX I' L ρ A N := by
  obtain ⟨I1, e1, e2, e3, e4⟩ := XT_take hok hX
  obtain ⟨I2, f1, f2, f3, f4⟩ := XT_go hok e4 hok.2.2.1.1 e3 ht
  refine ⟨I2, ?_, fun x hx => by rw [f2 x hx, e2 x hx], f4⟩
  unfold X0_wedNext o_w
  rw [gr_53_0, rc_54, h_cv e1, gr_53_2, gr_53_0, rc_48, h_ci f1, gr_53_0, gr_54_3, la_56 ha, f3.2.2.1 a ha, h_if]
  simp only [oI_wed hok.1 (go_okS hok ht)]
  by_cases c : s_wed (p_go (a_C A) (a_s A) tr) a = none
  · rw [if_pos c, if_pos c]; rfl
  · rw [if_neg c, if_neg c]; rfl
theorem cd_lt (hk : okC C) {p : Nat} (hp2 : p < k_L C + k_R C) : ∀ b, some (k_cd C p) = some b → b < 12 := fun b e => by
  have e2 : k_cd C p = b := by simpa using e
  rw [← e2]; exact k_th_lt hk (k_cd_th hp2 hk).1
theorem sl_nI (hk : okC C) {p : Nat} (hp2 : p < k_L C + k_R C) : k_sl C (nI p) = some (k_cd C p) := by
  have := hk.1
  unfold k_sl
  rw [if_neg (by rw [v_neg, nI_toI (by omega)]; omega), nI_clamp (by omega)]
  exact (k_cd_th hp2 hk).2.2
theorem X0_odds_lp (hok : okA A) {a : Nat} (ha : a < 12) : ∀ (m p fuel : Nat) (I : Nat → Nat → Int32), p + m = k_L (a_C A) + k_R (a_C A) → m < fuel → RelX I L ρ A N → ∃ I', z_fix (fun r x => X0_oddsOf_B20 53 41 (nI a) ρ.1 (nI (k_L (a_C A) + k_R (a_C A))) r x.1 x.2) fuel (nI (o_T (a_C A) (a_s A) a p), nI p) (hp I L ρ) = some (some (.int (nI (k_slip (a_C A) * o_T (a_C A) (a_s A) a (k_L (a_C A) + k_R (a_C A)) + (100 - k_slip (a_C A)) * (k_L (a_C A) + k_R (a_C A)) * o_w (a_C A) (a_s A) a none))), hp I' L ρ) ∧ (∀ x, lastX x ∨ 215 ≤ x → I' x = I x) := by
  have hk := hok.1
  have h12 := hk.1
  have hsl := hk.2.2.1
  intro m
  induction m with
  | zero =>
    intro p fuel I h1 h2 h3
    obtain ⟨f, rfl⟩ : ∃ f, fuel = f + 1 := ⟨fuel - 1, by omega⟩
    obtain rfl : p = k_L (a_C A) + k_R (a_C A) := by omega
    obtain ⟨I1, e1, e2, e3⟩ := X0_next_h (tr := none) hok h3 ha (by simp)
    refine ⟨I1, ?_, e2⟩
    rw [h_fix]
    show X0_oddsOf_B20 53 41 (nI a) ρ.1 (nI (k_L (a_C A) + k_R (a_C A))) _ (nI (o_T (a_C A) (a_s A) a (k_L (a_C A) + k_R (a_C A)))) (nI (k_L (a_C A) + k_R (a_C A))) (hp I L ρ) = _
    unfold X0_oddsOf_B20 X0_oddsOf_J50
    rw [h_if, if_pos (nI_le (Nat.le_refl _) (by omega)), gic (cu_ρ h3), (cu_ch h3).2.1.2, gic (cu_ρ h3), (cu_ch h3).2.1.2, rc_53, h_ci (show X0_wedNext 53 41 (nI a) (-1) _ = _ from e1), h_ret, show (100 : Int32) = nI 100 from rfl, pk_mul, pk_sub hsl, pk_mul, pk_mul, nI_add]
  | succ m ih =>
    intro p fuel I h1 h2 h3
    obtain ⟨f, rfl⟩ : ∃ f, fuel = f + 1 := ⟨fuel - 1, by omega⟩
    rw [h_fix]
    generalize hg : z_fix (fun r x => X0_oddsOf_B20 53 41 (nI a) ρ.1 (nI (k_L (a_C A) + k_R (a_C A))) r x.1 x.2) f = rec
    obtain ⟨I1, e1, e2, e3⟩ := X0_next_h (tr := some (k_cd (a_C A) p)) hok h3 ha (cd_lt hk (by omega))
    obtain ⟨I', r1, r2⟩ := ih (p + 1) f I1 (by omega) (by omega) e3
    refine ⟨I', ?_, fun x hx => by rw [r2 x hx, e2 x hx]⟩
    show X0_oddsOf_B20 53 41 (nI a) ρ.1 (nI (k_L (a_C A) + k_R (a_C A))) rec (nI (o_T (a_C A) (a_s A) a p)) (nI p) (hp I L ρ) = _
    unfold X0_oddsOf_B20
    rw [h_if, if_neg (nI_ge (by omega) (by omega)), rcc (cu_ρ h3), h_ci (XC_slot h3 hk _), sl_nI hk (by omega), rc_53, h_ci e1, nI_add, nI_1, ← hg]
    exact r1
/-- what the reference has added up when it has come to person p -/
def o_M (C : cT) (s : sT) (a p : Nat) : Nat := (100 - k_slip C) * (k_L C + k_R C) * o_w C s a none + k_slip C * o_T C s a p
theorem o_M_le (hk : okC C) (s : sT) (a p : Nat) (hp2 : p ≤ 12) : o_M C s a p ≤ 100000 := by
  have h12 := hk.1
  have h1 := o_T_le C s a p
  have h2 := o_w_le C s a none
  have h3 := hk.2.2.1
  unfold o_M
  have a1 : (100 - k_slip C) * (k_L C + k_R C) ≤ 100 * 12 := Nat.mul_le_mul (by omega) (by omega)
  have a2 : (100 - k_slip C) * (k_L C + k_R C) * o_w C s a none ≤ 100 * 12 * 1 := Nat.mul_le_mul a1 h2
  have a3 : k_slip C * o_T C s a p ≤ 100 * 12 := Nat.mul_le_mul h3 (by omega)
  omega
theorem X12_next_h {I1 : Nat → Nat → Int32} {L1 : Nat → Nat → Int64} {rec : Int32 × Int32 → zM} (hok : okA A) {a q : Nat} {v3 acc : Int32} (ha : k_th (a_C A) a) (hq : k_num (a_C A) a = q) (ht : ∀ b, tr = some b → b < 12) (hT : thM I1 I0 L1 L0 A (a_s A)) : ∃ I' L', thM I' I0 L' L0 A (a_s A) ∧ X12_odds_J77 rec 215 (nI q) acc v3 (oI tr) 215 (hp I1 L1 ρ) = rec (acc + (if o_w (a_C A) (a_s A) a tr = 0 then 0 else if v3 = -1 then nI ((100 - k_slip (a_C A)) * (k_L (a_C A) + k_R (a_C A))) else nI (k_slip (a_C A))), v3 + 1) (hp I' L' ρ) := by
  have hk := hok.1
  have hsl := hk.2.2.1
  obtain ⟨I2, L2, f1, f2, f3, f4⟩ := MT_go (ρ := ρ) hok hok.2.2.1.1 ht hT
  obtain ⟨I3, g1, g2, g3⟩ := MT_anew (ρ := ρ) (s' := a_s A) hok f2 (szM_eq (p_go_siz (C := a_C A) (s := a_s A) (tr := tr)) (stM_sz f2.2.2.2.1.1)) (fun f hf => hf)
  refine ⟨I3, L2, g2, ?_⟩
  unfold X12_odds_J77 X12_odds_J120 X12_odds_J122 o_w
  have hch := thM_ch f2
  rw [rc_215, h_cv f1, rc_215, ← hq, h_ci (X12_wedTo_h hk hch f2.2.2.2.1.1 ha), h_if]
  simp only [oI_wed hk (go_okS hok ht)]
  by_cases c : s_wed (p_go (a_C A) (a_s A) tr) a = none
  · rw [if_pos c, if_pos c, if_pos rfl, rc_215, h_cv g1, Int32.add_zero]
  · rw [if_neg c, if_neg c, if_neg (by decide), h_if]
    by_cases c2 : v3 = -1
    · rw [if_pos c2, if_pos c2, gr_215_40, show (10 : Int32) = nI 10 from rfl, la_246 (by omega), hch.2.2.1, rc_215, h_ci (X12_peopleMany_h hch), show (100 : Int32) = nI 100 from rfl, pk_sub hsl, pk_mul, rc_215, h_cv g1]
    · rw [if_neg c2, if_neg c2, gr_215_40, show (10 : Int32) = nI 10 from rfl, la_246 (by omega), hch.2.2.1, rc_215, h_cv g1]
theorem X12_odds_lp (hok : okA A) {a q : Nat} (ha : k_th (a_C A) a) (hq : k_num (a_C A) a = q) : ∀ (m p fuel : Nat) (I : Nat → Nat → Int32) (L : Nat → Nat → Int64), p + m = k_L (a_C A) + k_R (a_C A) → m < fuel → thM I I0 L L0 A (a_s A) → ∃ I' L', z_fix (fun r x => X12_odds_B54 215 (nI q) r x.1 x.2) fuel (nI (o_M (a_C A) (a_s A) a p), nI p) (hp I L ρ) = some (some (.int (nI (o_M (a_C A) (a_s A) a (k_L (a_C A) + k_R (a_C A))))), hp I' L' ρ) ∧ RelM I' L' A ∧ ∀ x, x < 215 → I' x = I0 x ∧ L' x = L0 x := by
  have hk := hok.1
  have h12 := hk.1
  intro m
  induction m with
  | zero =>
    intro p fuel I L h1 h2 h3
    obtain ⟨f, rfl⟩ : ∃ f, fuel = f + 1 := ⟨fuel - 1, by omega⟩
    obtain rfl : p = k_L (a_C A) + k_R (a_C A) := by omega
    obtain ⟨I3, g1, g2, g3⟩ := MT_back (ρ := ρ) hok h3
    refine ⟨I3, L, ?_, g2, g3⟩
    rw [h_fix]
    show X12_odds_B54 215 (nI q) _ (nI _) (nI (k_L (a_C A) + k_R (a_C A))) (hp I L ρ) = _
    unfold X12_odds_B54 X12_odds_J132
    rw [rc_215, h_ci (X12_peopleMany_h (thM_ch h3)), h_if, if_pos (nI_le (Nat.le_refl _) (by omega)), rc_215, h_cv g1]; rfl
  | succ m ih =>
    intro p fuel I L h1 h2 h3
    obtain ⟨f, rfl⟩ : ∃ f, fuel = f + 1 := ⟨fuel - 1, by omega⟩
    rw [h_fix]
    generalize hg : z_fix (fun r x => X12_odds_B54 215 (nI q) r x.1 x.2) f = rec
    obtain ⟨I1, L1, e1, e2⟩ := X12_next_h (ρ := ρ) (rec := rec) (v3 := nI p) (acc := nI (o_M (a_C A) (a_s A) a p)) (tr := some (k_cd (a_C A) p)) hok ha hq (cd_lt hk (by omega)) h3
    obtain ⟨I', L', r1, r2⟩ := ih (p + 1) f I1 L1 (by omega) (by omega) e1
    refine ⟨I', L', ?_, r2⟩
    show X12_odds_B54 215 (nI q) rec (nI (o_M (a_C A) (a_s A) a p)) (nI p) (hp I L ρ) = _
    unfold X12_odds_B54
    rw [rc_215, h_ci (X12_peopleMany_h (thM_ch h3)), h_if, if_neg (nI_ge (by omega) (by omega)), h_if, if_neg (nI_nm1 (by omega)), rc_215, h_ci (X12_codeOf_h hk (thM_ch h3) (by omega))]
    have e2' := e2
    rw [if_neg (nI_nm1 (by omega)), nI_1] at e2'
    have hadd : nI (o_M (a_C A) (a_s A) a p) + (if o_w (a_C A) (a_s A) a (some (k_cd (a_C A) p)) = 0 then 0 else nI (k_slip (a_C A))) = nI (o_M (a_C A) (a_s A) a (p + 1)) := by
      have hw := o_w_le (a_C A) (a_s A) a (some (k_cd (a_C A) p))
      have e : o_M (a_C A) (a_s A) a (p + 1) = o_M (a_C A) (a_s A) a p + k_slip (a_C A) * o_w (a_C A) (a_s A) a (some (k_cd (a_C A) p)) := by
        unfold o_M
        show _ + k_slip (a_C A) * (o_T (a_C A) (a_s A) a p + o_w (a_C A) (a_s A) a (some (k_cd (a_C A) p))) = _
        rw [Nat.mul_add (k_slip (a_C A)), ← Nat.add_assoc]
      rw [e]
      by_cases c : o_w (a_C A) (a_s A) a (some (k_cd (a_C A) p)) = 0
      · rw [if_pos c, c, Nat.mul_zero, Int32.add_zero]; rfl
      · rw [if_neg c, show o_w (a_C A) (a_s A) a (some (k_cd (a_C A) p)) = 1 by omega, Nat.mul_one, nI_add]
    rw [hadd, ← hg] at e2'
    rw [← hg]
    exact e2'.trans r1
theorem odds_b (hok : okA A) (v : Int32) : both (X11_odds 0 v) (X12_odds 215 v) A N := by
  have hk := hok.1
  have h12 := hk.1
  have eP : ∀ {I : Nat → Nat → Int32} {L : Nat → Nat → Int64} {ρ : zRh}, RelX I L ρ A N → X1_people ρ.1 (hp I L ρ) = some (some (.int (nI (k_L (a_C A) + k_R (a_C A)))), hp I L ρ) := by
    intro I L ρ hX
    have hC := cu_ch hX
    rcases cu_ρ hX with e | e
    · rw [e] at hC ⊢; exact X1_people_13 hC hk
    · rw [e] at hC ⊢; exact X1_people_27 hC hk
  have eX : ∀ {I : Nat → Nat → Int32} {L : Nat → Nat → Int64} {ρ : zRh}, RelX I L ρ A N → X0_canCome 53 41 1 1 1 (hp I L ρ) = some (some (.int (bI (p_can A 1 1 1))), hp I L ρ) := fun hX => X0_can_h hok hX (lo := 1) (hi := 1) (by omega) 1
  have eM : ∀ {I : Nat → Nat → Int32} {L : Nat → Nat → Int64} {ρ : zRh}, RelM I L A → X12_isAhead 215 1 1 1 (hp I L ρ) = some (some (.int (bI (p_can A 1 1 1))), hp I L ρ) := fun hM => X12_ahead_h hok hM (lo := 1) (hi := 1) (by omega) 1
  have p0 : nI (k_L (a_C A) + k_R (a_C A)) = 0 ↔ k_L (a_C A) + k_R (a_C A) = 0 := nI_inj (b := 0) (by omega) (by omega)
  by_cases c1 : k_L (a_C A) + k_R (a_C A) = 0
  · refine both_still hok (.int (-1)) (fun I L ρ hX => ?_) (fun I L ρ hM => ?_)
    · unfold X11_odds
      rw [gr_0_5, rcc (cu_ρ hX), h_ci (eP hX), h_if, if_pos (p0.mpr c1)]; rfl
    · have j14 : X12_odds_J14 215 v (hp I L ρ) = some (some (.int (-1)), hp I L ρ) := by
        unfold X12_odds_J14
        rw [rc_215, h_ci (X12_peopleMany_h hM.1), h_if, if_pos (p0.mpr c1)]; rfl
      unfold X12_odds
      rw [h_if]
      split
      · exact j14
      · rw [rc_215, h_ci (X12_isPerson_v hk hM.1 _), h_if]
        split
        · rfl
        · exact j14
  · by_cases c2 : p_can A 1 1 1 = true
    · by_cases c3 : v = -1
      · refine both_still hok (.int (nI (100 * (k_L (a_C A) + k_R (a_C A))))) (fun I L ρ hX => ?_) (fun I L ρ hM => ?_)
        · unfold X11_odds
          rw [gr_0_5, rcc (cu_ρ hX), h_ci (eP hX), h_if, if_neg (fun e => c1 (p0.mp e)), gr_0_9, gr_0_7, rc_53, h_ci (eX hX), c2, h_if, if_neg (by decide), h_if, if_pos c3, gr_0_5, rcc (cu_ρ hX), h_ci (eP hX), show (100 : Int32) = nI 100 from rfl, pk_mul]; rfl
        · unfold X12_odds X12_odds_J14
          rw [h_if, if_pos c3, rc_215, h_ci (X12_peopleMany_h hM.1), h_if, if_neg (fun e => c1 (p0.mp e)), rc_215, h_ci (eM hM), c2, h_if, if_neg (by decide), h_if, if_pos c3, rc_215, h_ci (X12_peopleMany_h hM.1), show (100 : Int32) = nI 100 from rfl, pk_mul]; rfl
      · rcases k_sl_c hk v with ⟨q, q1⟩ | ⟨a, p, q, rfl, q1, q2, q3, q4, q5⟩
        · refine both_still hok (.int (-1)) (fun I L ρ hX => ?_) (fun I L ρ hM => ?_)
          · unfold X11_odds
            rw [gr_0_5, rcc (cu_ρ hX), h_ci (eP hX), h_if, if_neg (fun e => c1 (p0.mp e)), gr_0_9, gr_0_7, rc_53, h_ci (eX hX), c2, h_if, if_neg (by decide), h_if, if_neg c3, gr_0_5, rcc (cu_ρ hX), h_ci (XC_slot hX hk _), q, oI_none, h_if, if_pos rfl]; rfl
          · unfold X12_odds
            rw [h_if, if_neg c3, rc_215, h_ci (X12_isPerson_v hk hM.1 _), q, bI_none, h_if, if_pos rfl]; rfl
        · refine both_thinks hok (.int (nI (o_M (a_C A) (a_s A) a (k_L (a_C A) + k_R (a_C A))))) (fun I L ρ hX => ?_) (fun I L ρ hM => ?_)
          · obtain ⟨I', r1, r2⟩ := X0_odds_lp (L := L) (ρ := ρ) hok q5 (k_L (a_C A) + k_R (a_C A)) 0 zFU I (by omega) (by unfold zFU; omega) hX
            refine ⟨I', ?_, r2⟩
            have ho : X0_oddsOf 53 41 (nI a) (hp I L ρ) = some (some (.int (nI (o_M (a_C A) (a_s A) a (k_L (a_C A) + k_R (a_C A))))), hp I' L ρ) := by
              unfold X0_oddsOf
              rw [gr_53_2, gr_48_0, cu_w hX, rcc (cu_ρ hX), h_ci (eP hX)]
              unfold o_M
              rw [Nat.add_comm ((100 - k_slip (a_C A)) * (k_L (a_C A) + k_R (a_C A)) * o_w (a_C A) (a_s A) a none)]
              exact r1
            unfold X11_odds
            rw [gr_0_5, rcc (cu_ρ hX), h_ci (eP hX), h_if, if_neg (fun e => c1 (p0.mp e)), gr_0_9, gr_0_7, rc_53, h_ci (eX hX), c2, h_if, if_neg (by decide), h_if, if_neg c3, gr_0_5, rcc (cu_ρ hX), h_ci (XC_slot hX hk _), q, oI_some, h_if, if_neg (nI_nm1 (by omega)), gr_0_9, gr_0_7, rc_53, h_ci ho]; rfl
          · obtain ⟨I1, e1, e2, e3⟩ := MT_puts (ρ := ρ) hok hM
            obtain ⟨g, hgz⟩ : ∃ g, zFU = g + 1 := ⟨999999, rfl⟩
            generalize hg : z_fix (fun r x => X12_odds_B54 215 (nI p) r x.1 x.2) g = rec
            obtain ⟨I2, L2, f1, f2⟩ := X12_next_h (ρ := ρ) (rec := rec) (v3 := -1) (acc := 0) (tr := none) hok q3 q4 (by simp) e2
            obtain ⟨I', L', r1, r2, r3⟩ := X12_odds_lp (ρ := ρ) hok q3 q4 (k_L (a_C A) + k_R (a_C A)) 0 g I2 L2 (by omega) (by unfold zFU at hgz; omega) f1
            refine ⟨I', L', ?_, r2, r3⟩
            have hw := o_w_le (a_C A) (a_s A) a none
            have hadd : (0 : Int32) + (if o_w (a_C A) (a_s A) a none = 0 then 0 else nI ((100 - k_slip (a_C A)) * (k_L (a_C A) + k_R (a_C A)))) = nI (o_M (a_C A) (a_s A) a 0) := by
              unfold o_M
              show _ = nI (_ + k_slip (a_C A) * 0)
              rw [Int32.zero_add]
              by_cases c : o_w (a_C A) (a_s A) a none = 0
              · rw [if_pos c, c]; rfl
              · rw [if_neg c, show o_w (a_C A) (a_s A) a none = 1 by omega, Nat.mul_one]; rfl
            rw [if_pos rfl, hadd, show (-1 : Int32) + 1 = nI 0 from rfl, ← hg] at f2
            unfold X12_odds X12_odds_J14
            rw [h_if, if_neg c3, rc_215, h_ci (X12_isPerson_v hk hM.1 _), q, bI_some, h_if, if_neg (by decide), rc_215, h_ci (X12_peopleMany_h hM.1), h_if, if_neg (fun e => c1 (p0.mp e)), rc_215, h_ci (eM hM), c2, h_if, if_neg (by decide), h_if, if_neg c3, rc_215, h_cv e1, hgz, h_fix]
            show X12_odds_B54 215 (nI p) _ 0 (-1) (hp I1 L ρ) = _
            unfold X12_odds_B54
            rw [rc_215, h_ci (X12_peopleMany_h (thM_ch e2)), h_if, if_neg (show ¬ nI (k_L (a_C A) + k_R (a_C A)) ≤ -1 by rw [Int32.le_iff_toInt_le, nI_toI (by omega)]; show ¬ _ ≤ (-1 : Int); omega), h_if, if_pos rfl]
            exact f2.trans r1
    · have c4 : p_can A 1 1 1 = false := by simpa using c2
      refine both_still hok (.int (-1)) (fun I L ρ hX => ?_) (fun I L ρ hM => ?_)
      · unfold X11_odds
        rw [gr_0_5, rcc (cu_ρ hX), h_ci (eP hX), h_if, if_neg (fun e => c1 (p0.mp e)), gr_0_9, gr_0_7, rc_53, h_ci (eX hX), c4, bF, h_if, if_pos rfl]; rfl
      · have j14 : X12_odds_J14 215 v (hp I L ρ) = some (some (.int (-1)), hp I L ρ) := by
          unfold X12_odds_J14
          rw [rc_215, h_ci (X12_peopleMany_h hM.1), h_if, if_neg (fun e => c1 (p0.mp e)), rc_215, h_ci (eM hM), c4, bF, h_if, if_pos rfl]; rfl
        unfold X12_odds
        rw [h_if]
        split
        · exact j14
        · rw [rc_215, h_ci (X12_isPerson_v hk hM.1 _), h_if]
          split
          · rfl
          · exact j14
end B54
