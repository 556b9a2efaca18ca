/-! acts: chance -/
section B49
variable {I : Nat → Nat → Int32} {L : Nat → Nat → Int64} {ρ : zRh} {h : zH} {A : aT} {N : Nat} {C : cT} {s : sT} {tr : Option Nat}
def drw (d : Nat) : Nat := (1103515245 * d + 12345) % 2147483648
theorem drw_lt (d : Nat) : drw d < 2147483648 := Nat.mod_lt _ (by decide)
theorem lN_and (a : Nat) : lN a &&& 2147483647 = lN (a % 2147483648) := by
  apply Int64.toBitVec_inj.mp
  show BitVec.ofNat 64 a &&& BitVec.ofNat 64 2147483647 = BitVec.ofNat 64 (a % 2147483648)
  apply BitVec.eq_of_toNat_eq
  rw [BitVec.toNat_and, BitVec.toNat_ofNat, BitVec.toNat_ofNat, BitVec.toNat_ofNat, show 2147483647 % 2 ^ 64 = 2 ^ 31 - 1 from rfl, Nat.and_two_pow_sub_one_eq_mod, Nat.mod_mod_of_dvd _ (by decide)]
  have : a % 2147483648 < 2147483648 := Nat.mod_lt _ (by decide)
  rw [Nat.mod_eq_of_lt (show a % 2147483648 < 2 ^ 64 by omega)]
theorem RelX_D (hX : RelX I L ρ A N) {d : Nat} : RelX I (u2 L 0 19 (lN d)) ρ (wD A d) N := by
  obtain ⟨h1, h2, h3, h4, h5, h6, h7, h8, h9⟩ := hX
  exact ⟨cur_of (A := A) rfl rfl rfl (fun _ _ _ => rfl) h1, h2, h3, h4, h5, h6, h7, h8, by rw [u2_ap, if_pos ⟨rfl, rfl⟩, lN_cl]; rfl⟩
theorem RelM_D (hM : RelM I L A) {d : Nat} : RelM I (u2 L 215 77 (lN d)) (wD A d) := by
  obtain ⟨h1, h2, h3, h4, h5, h6, h7, h8, h9, h10, h11, h12⟩ := hM
  exact ⟨h1, by rw [u2r (show (247 : Nat) ≠ 215 by decide)]; exact h2, h3, h4, h5, h6, h7, h8, h9, h10, by rw [u2_ap, if_pos ⟨rfl, rfl⟩, lN_cl]; rfl, h12⟩
theorem X11_draw_h {d o : Nat} (hd : d < 2147483648) (ho : 0 < o ∧ o < 1000) (hL : L 0 19 = lN d) : X11_draw 0 (nI o) (hp I L ρ) = some (some (.int (nI (drw d / 64 % o))), hp I (u2 L 0 19 (lN (drw d))) ρ) := by
  have h1 := drw_lt d
  unfold X11_draw
  rw [gl_0, hL, show (1103515245 : Int64) = lN 1103515245 from rfl, show (12345 : Int64) = lN 12345 from rfl, lN_mul, lN_add, lN_and, pl_0, h_if, if_neg (show ¬ nI o ≤ 0 from nI_ge (a := 0) ho.1 (by omega)), gl_0, u2_ap, if_pos ⟨rfl, rfl⟩, h_ck (by decide), show (1103515245 * d + 12345) % 2147483648 = drw d from rfl, show (64 : Int64) = lN 64 from rfl, nI_l (by omega), pk_lDiv (by omega) (by omega) (by omega), h_ck (show ¬ lN o = 0 from fun e => absurd ((pk_lEQ (b := 0) (by omega) (by omega)).mp e) (by omega)), pk_lRem (by omega) (by omega) (by omega), lN_i]
  rfl
theorem X12_draw_h {d o : Nat} (hd : d < 2147483648) (ho : 0 < o ∧ o < 1000) (hL : L 215 77 = lN d) : X12_drawOf 215 (nI o) (hp I L ρ) = some (some (.int (nI (drw d / 64 % o))), hp I (u2 L 215 77 (lN (drw d))) ρ) := by
  have h1 := drw_lt d
  unfold X12_drawOf
  rw [gl_215, hL, h_ck (by decide), show (1103515245 : Int64) = lN 1103515245 from rfl, show (12345 : Int64) = lN 12345 from rfl, lN_mul, lN_add, show (2147483648 : Int64) = lN 2147483648 from rfl, pk_lRem (by omega) (by omega) (by omega), pl_215, gl_215, u2_ap, if_pos ⟨rfl, rfl⟩, h_ck (by decide), show (1103515245 * d + 12345) % 2147483648 = drw d from rfl, show (64 : Int64) = lN 64 from rfl, nI_l (by omega), pk_lDiv (by omega) (by omega) (by omega), h_ck (show ¬ lN o = 0 from fun e => absurd ((pk_lEQ (b := 0) (by omega) (by omega)).mp e) (by omega)), pk_lRem (by omega) (by omega) (by omega), lN_i]
  rfl
/-- who trembles, and what is drawn then -/
def c_tr (C : cT) (d : Nat) : Option Nat × Nat := if k_slip C ≤ drw d / 64 % 100 ∨ k_L C + k_R C = 0 then (none, drw d) else (some (k_cd C (drw (drw d) / 64 % (k_L C + k_R C))), drw (drw d))
def f_ch (C : cT) (s : sT) (K : kT) (d : Nat) : Nat → sT × kT × Nat × Nat
  | 0 => (s, K, 0, d)
  | i + 1 => (p_go C (f_ch C s K d i).1 (c_tr C (f_ch C s K d i).2.2.2).1, p_kept C (f_ch C s K d i).1 (c_tr C (f_ch C s K d i).2.2.2).1 (f_ch C s K d i).2.1 6, (f_ch C s K d i).2.2.1 + (if (c_tr C (f_ch C s K d i).2.2.2).1 = none then 0 else 1), (c_tr C (f_ch C s K d i).2.2.2).2)
def q_ch (A : aT) (k : Nat) : sT × kT × Nat × Nat := f_ch (a_C A) (a_s A) (a_K A) (a_D A).toNat k
def wCh (A : aT) (k : Nat) : aT := wD (wS A (q_ch A k).1 (q_ch A k).2.1 (a_P A)) ((q_ch A k).2.2.2 : Nat)
theorem wCh_0 (hok : okA A) : wCh A 0 = A := by
  have h := hok.2.2.2.2.2.2.2.1.1
  unfold wCh
  show wD (wS A (a_s A) (a_K A) (a_P A)) ((a_D A).toNat : Int) = A
  rw [Int.toNat_of_nonneg h]
  rfl
theorem c_tr_in (hk : okC C) (d : Nat) : (∀ b, (c_tr C d).1 = some b → b < 12) ∧ (c_tr C d).2 < 2147483648 := by
  unfold c_tr
  split
  · exact ⟨by simp, drw_lt _⟩
  · rename_i c
    refine ⟨fun b hb => ?_, drw_lt _⟩
    have e : k_cd C (drw (drw d) / 64 % (k_L C + k_R C)) = b := by simpa using hb
    rw [← e]
    exact k_th_lt hk (k_cd_th (Nat.mod_lt _ (by omega)) hk).1
def q_W (A : aT) (k : Nat) : Nat := w_n (q_ch A k).1 6 - w_n (a_s A) 6
theorem q_ch_ok (hok : okA A) : ∀ k, s_cnt (a_C A) (a_s A) + k < 1000 * k_rt (a_C A) → okA (wCh A k) ∧ s_cnt (a_C A) (q_ch A k).1 = s_cnt (a_C A) (a_s A) + k ∧ w_n (a_s A) 6 ≤ w_n (q_ch A k).1 6 ∧ (q_ch A k).2.2.2 < 2147483648
  | 0, _ => ⟨by rw [wCh_0 hok]; exact hok, rfl, Nat.le_refl _, by have h := hok.2.2.2.2.2.2.2.1; show (a_D A).toNat < _; omega⟩
  | k + 1, h => by
    obtain ⟨q1, q2, q3, q4⟩ := q_ch_ok hok k (by omega)
    have hS : okS (a_C A) (q_ch A k).1 := q1.2.2.1.1
    have hd := (c_tr_in hok.1 (q_ch A k).2.2.2).2
    have e := okA_go (A := wCh A k) (tr := (c_tr (a_C A) (q_ch A k).2.2.2).1) q1 (by show s_cnt (a_C A) (q_ch A k).1 + 1 < 1000 * k_rt (a_C A); omega)
    have e2 := okA_wD (d := ((c_tr (a_C A) (q_ch A k).2.2.2).2 : Nat)) e (by omega) (by omega)
    refine ⟨e2, ?_, ?_, hd⟩
    · show s_cnt (a_C A) (p_go (a_C A) (q_ch A k).1 (c_tr (a_C A) (q_ch A k).2.2.2).1) = _
      rw [p_go_cnt hS, q2]; rfl
    · show _ ≤ w_n (p_go (a_C A) (q_ch A k).1 (c_tr (a_C A) (q_ch A k).2.2.2).1) 6
      rw [w_n_go hok.1 hS]
      omega
theorem q_W_s (hok : okA A) {k : Nat} (h : s_cnt (a_C A) (a_s A) + k < 1000 * k_rt (a_C A)) : q_W A (k + 1) = q_W A k + (p_fresh (a_C A) (q_ch A k).1 (c_tr (a_C A) (q_ch A k).2.2.2).1 6).length := by
  obtain ⟨q1, q2, q3, q4⟩ := q_ch_ok hok k h
  have hS : okS (a_C A) (q_ch A k).1 := q1.2.2.1.1
  unfold q_W
  show w_n (p_go (a_C A) (q_ch A k).1 (c_tr (a_C A) (q_ch A k).2.2.2).1) 6 - _ = _
  rw [w_n_go hok.1 hS]
  omega
theorem q_W_le (A : aT) (k : Nat) : q_W A k ≤ 6 := by
  have := w_n_le (q_ch A k).1 6
  unfold q_W
  omega
theorem people_0 {n : Nat} (hn : n < 2147483648) : (nI n ≤ 0) ↔ n = 0 := by
  constructor
  · intro e
    have := (nI_le' (b := 0) hn (by omega)).mp e
    omega
  · intro e
    rw [e]; decide
/-- one round of chance, before it goes -/
theorem X11_pick_h {rec : Int32 × Int32 → zM} {n k T d : Nat} (hok : okA A) (hX : RelX I L ρ A N) (hnk : k < n ∧ n < 1000) (hd : d < 2147483648) (hD : a_D A = (d : Int)) : ∃ L', X11_chance_B39 0 (nI n) rec (nI T) (nI k) (hp I L ρ) = X11_chance_J96 rec 0 (nI n) (nI (T + (if (c_tr (a_C A) d).1 = none then 0 else 1))) (nI k) (oI (c_tr (a_C A) d).1) (hp I L' ρ) ∧ (∀ x, 215 ≤ x → L' x = L x) ∧ RelX I L' ρ (wD A ((c_tr (a_C A) d).2 : Nat)) N := by
  have hk := hok.1
  have h12 := hk.1
  have hsl := hk.2.2.1
  have hL : L 0 19 = lN d := by rw [hX.2.2.2.2.2.2.2.2, hD, lN_cl]
  have hX1 : RelX I (u2 L 0 19 (lN (drw d))) ρ (wD A (drw d : Nat)) N := RelX_D hX
  have hm : drw d / 64 % 100 < 100 := Nat.mod_lt _ (by omega)
  have e0 : X11_chance_B39 0 (nI n) rec (nI T) (nI k) (hp I L ρ) = z_if (nI (k_slip (a_C A)) ≤ nI (drw d / 64 % 100)) (X11_chance_J96 rec 0 (nI n) (nI T) (nI k) (-1)) (z_if (nI (k_L (a_C A) + k_R (a_C A)) ≤ 0) (X11_chance_J96 rec 0 (nI n) (nI T) (nI k) (-1)) (z_gr 11 5 0 fun x6 => z_gr 11 5 0 fun x7 => z_rc 1 x7 (z_ci (X1_people x7) fun y8 => z_rc 11 0 (z_ci (X11_draw 0 y8) fun y9 => z_rc 1 x6 (z_ci (X1_slot x6 y9) fun y10 => X11_chance_J96 rec 0 (nI n) (nI T + 1) (nI k) y10))))) (hp I (u2 L 0 19 (lN (drw d))) ρ) := by
    unfold X11_chance_B39
    rw [h_if, if_neg (nI_ge hnk.1 (by omega)), rc_0, h_ci (show X11_draw 0 100 _ = _ from X11_draw_h (o := 100) hd (by omega) hL), gr_0_5, gic (cu_ρ hX), (cu_ch hX).2.1.2, h_if, h_if]
    by_cases c : nI (k_slip (a_C A)) ≤ nI (drw d / 64 % 100)
    · rw [if_pos c, if_pos c]
    · rw [if_neg c, if_neg c, gr_0_5, rcc (cu_ρ hX)]
      have hpe : X1_people ρ.1 (hp I (u2 L 0 19 (lN (drw d))) ρ) = some (some (.int (nI (k_L (a_C A) + k_R (a_C A)))), hp I (u2 L 0 19 (lN (drw d))) ρ) := by
        have hC := cu_ch hX
        rcases cu_ρ hX with e | e
        · rw [e] at hC ⊢; exact X1_people_13 hC hk
        · rw [e] at hC ⊢; exact X1_people_27 hC hk
      rw [h_ci hpe]
  unfold c_tr
  rw [e0, h_if]
  simp only [nI_le' (show k_slip (a_C A) < 2147483648 by omega) (show drw d / 64 % 100 < 2147483648 by omega)]
  by_cases c1 : k_slip (a_C A) ≤ drw d / 64 % 100
  · refine ⟨u2 L 0 19 (lN (drw d)), ?_, fun x hx => u2r (by omega), ?_⟩
    · rw [if_pos c1, if_pos (Or.inl c1), if_pos rfl]; rfl
    · rw [if_pos (Or.inl c1)]; exact hX1
  · rw [if_neg c1, h_if]
    simp only [people_0 (show k_L (a_C A) + k_R (a_C A) < 2147483648 by omega)]
    by_cases c2 : k_L (a_C A) + k_R (a_C A) = 0
    · refine ⟨u2 L 0 19 (lN (drw d)), ?_, fun x hx => u2r (by omega), ?_⟩
      · rw [if_pos c2, if_pos (Or.inr c2), if_pos rfl]; rfl
      · rw [if_pos (Or.inr c2)]; exact hX1
    · have hd1 := drw_lt d
      have hno : ¬ (k_slip (a_C A) ≤ drw d / 64 % 100 ∨ k_L (a_C A) + k_R (a_C A) = 0) := by omega
      have hX2 : RelX I (u2 (u2 L 0 19 (lN (drw d))) 0 19 (lN (drw (drw d)))) ρ (wD A (drw (drw d) : Nat)) N := RelX_D hX1
      refine ⟨u2 (u2 L 0 19 (lN (drw d))) 0 19 (lN (drw (drw d))), ?_, fun x hx => by rw [u2r (by omega), u2r (by omega)], ?_⟩
      · have hpe : X1_people ρ.1 (hp I (u2 L 0 19 (lN (drw d))) ρ) = some (some (.int (nI (k_L (a_C A) + k_R (a_C A)))), hp I (u2 L 0 19 (lN (drw d))) ρ) := by
          have hC := cu_ch hX
          rcases cu_ρ hX with e | e
          · rw [e] at hC ⊢; exact X1_people_13 hC hk
          · rw [e] at hC ⊢; exact X1_people_27 hC hk
        have hlt : drw (drw d) / 64 % (k_L (a_C A) + k_R (a_C A)) < k_L (a_C A) + k_R (a_C A) := Nat.mod_lt _ (by omega)
        have hsl2 : k_sl (a_C A) (nI (drw (drw d) / 64 % (k_L (a_C A) + k_R (a_C A)))) = some (k_cd (a_C A) (drw (drw d) / 64 % (k_L (a_C A) + k_R (a_C A)))) := by
          unfold k_sl
          rw [if_neg (by rw [v_neg, nI_toI (by omega)]; omega), nI_clamp (by omega)]
          exact (k_cd_th hlt hk).2.2
        rw [if_neg c2, if_neg hno, gr_0_5, gr_0_5, rcc (cu_ρ hX), h_ci hpe, rc_0, h_ci (X11_draw_h hd1 (by omega) (by rw [u2_ap, if_pos ⟨rfl, rfl⟩])), rcc (cu_ρ hX), h_ci (XC_slot hX2 hk _)]
        show X11_chance_J96 rec 0 (nI n) (nI T + 1) (nI k) (oI (k_sl (a_C A) (nI (drw (drw d) / 64 % (k_L (a_C A) + k_R (a_C A)))))) _ = _
        rw [hsl2, nI_1, if_neg (by simp)]
      · rw [if_neg hno]; exact hX2
theorem X12_pick_h {rec : Int32 × Int32 → zM} {n k T d : Nat} (hok : okA A) (hM : RelM I L A) (hnk : k < n ∧ n < 1000) (hd : d < 2147483648) (hD : a_D A = (d : Int)) : ∃ L', X12_chance_B25 215 (nI n) rec (nI T) (nI k) (hp I L ρ) = X12_chance_J73 rec 215 (nI n) (nI (T + (if (c_tr (a_C A) d).1 = none then 0 else 1))) (nI k) (oI (c_tr (a_C A) d).1) (hp I L' ρ) ∧ (∀ x, x < 215 → L' x = L x) ∧ RelM I L' (wD A ((c_tr (a_C A) d).2 : Nat)) := by
  have hk := hok.1
  have h12 := hk.1
  have hsl := hk.2.2.1
  have hL : L 215 77 = lN d := by rw [hM.2.2.2.2.2.2.2.2.2.2.1, hD, lN_cl]
  have hM1 : RelM I (u2 L 215 77 (lN (drw d))) (wD A (drw d : Nat)) := RelM_D hM
  have hm : drw d / 64 % 100 < 100 := Nat.mod_lt _ (by omega)
  unfold c_tr X12_chance_B25
  rw [h_if, if_neg (nI_ge hnk.1 (by omega)), rc_215, h_ci (show X12_drawOf 215 100 _ = _ from X12_draw_h (o := 100) hd (by omega) hL), gr_215_40, show (10 : Int32) = nI 10 from rfl, la_246 (by omega), hM.1.2.2.1, h_if]
  simp only [nI_le' (show k_slip (a_C A) < 2147483648 by omega) (show drw d / 64 % 100 < 2147483648 by omega)]
  by_cases c1 : k_slip (a_C A) ≤ drw d / 64 % 100
  · refine ⟨u2 L 215 77 (lN (drw d)), ?_, fun x hx => u2r (by omega), ?_⟩
    · rw [if_pos c1, if_pos (Or.inl c1), if_pos rfl]; rfl
    · rw [if_pos (Or.inl c1)]; exact hM1
  · rw [if_neg c1, rc_215, h_ci (X12_peopleMany_h hM.1), h_if]
    simp only [people_0 (show k_L (a_C A) + k_R (a_C A) < 2147483648 by omega)]
    by_cases c2 : k_L (a_C A) + k_R (a_C A) = 0
    · refine ⟨u2 L 215 77 (lN (drw d)), ?_, fun x hx => u2r (by omega), ?_⟩
      · rw [if_pos c2, if_pos (Or.inr c2), if_pos rfl]; rfl
      · rw [if_pos (Or.inr c2)]; exact hM1
    · have hd1 := drw_lt d
      have hno : ¬ (k_slip (a_C A) ≤ drw d / 64 % 100 ∨ k_L (a_C A) + k_R (a_C A) = 0) := by omega
      have hM2 : RelM I (u2 (u2 L 215 77 (lN (drw d))) 215 77 (lN (drw (drw d)))) (wD A (drw (drw d) : Nat)) := RelM_D hM1
      have hlt : drw (drw d) / 64 % (k_L (a_C A) + k_R (a_C A)) < k_L (a_C A) + k_R (a_C A) := Nat.mod_lt _ (by omega)
      refine ⟨u2 (u2 L 215 77 (lN (drw d))) 215 77 (lN (drw (drw d))), ?_, fun x hx => by rw [u2r (by omega), u2r (by omega)], ?_⟩
      · rw [if_neg c2, if_neg hno, rc_215, h_ci (X12_peopleMany_h hM.1), rc_215, h_ci (X12_draw_h hd1 (by omega) (by rw [u2_ap, if_pos ⟨rfl, rfl⟩])), rc_215, h_ci (X12_codeOf_h hk hM.1 (by omega)), nI_1, if_neg (by simp)]; rfl
      · rw [if_neg hno]; exact hM2
theorem X11_chance_lp (hok : okA A) (hN : N < 999998000) {n : Nat} (hn : n ≤ 100) (hc : s_cnt (a_C A) (a_s A) + n < 1000 * k_rt (a_C A)) : ∀ (m k fuel : Nat) (I : Nat → Nat → Int32) (L : Nat → Nat → Int64), k + m = n → m < fuel → RelX I L ρ (wCh A k) (N + q_W A k) → paG (q_W A k) I (q_ch A k).2.1 (a_P A) (N + q_W A k) →
    ∃ I' L', z_fix (fun r x => X11_chance_B39 0 (nI n) r x.1 x.2) fuel (nI (q_ch A k).2.2.1, nI k) (hp I L ρ) = some (some (.int (nI (q_ch A n).2.2.1)), hp I' L' ρ) ∧ (∀ x, 215 ≤ x → I' x = I x ∧ L' x = L x) ∧ RelX I' L' ρ (wCh A n) (N + q_W A n) := by
  intro m
  induction m with
  | zero =>
    intro k fuel I L h1 h2 h3 h4
    obtain ⟨f, rfl⟩ : ∃ f, fuel = f + 1 := ⟨fuel - 1, by omega⟩
    obtain rfl : k = n := by omega
    refine ⟨I, L, ?_, fun _ _ => ⟨rfl, rfl⟩, h3⟩
    rw [h_fix]
    show X11_chance_B39 0 (nI k) _ (nI _) (nI k) (hp I L ρ) = _
    unfold X11_chance_B39
    rw [h_if, if_pos (nI_le (Nat.le_refl _) (by omega))]; rfl
  | succ m ih =>
    intro k fuel I L h1 h2 h3 h4
    obtain ⟨f, rfl⟩ : ∃ f, fuel = f + 1 := ⟨fuel - 1, by omega⟩
    rw [h_fix]
    generalize hg : z_fix (fun r x => X11_chance_B39 0 (nI n) r x.1 x.2) f = rec
    obtain ⟨q1, q2, q3, q4⟩ := q_ch_ok hok k (by omega)
    have hd2 := c_tr_in hok.1 (q_ch A k).2.2.2
    have ws := q_W_s hok (k := k) (by omega)
    have w2 := q_W_le A (k + 1)
    have w1 := q_W_le A k
    obtain ⟨L1, e1, e2, e3⟩ := X11_pick_h (rec := rec) (n := n) (k := k) (T := (q_ch A k).2.2.1) (d := (q_ch A k).2.2.2) q1 h3 (by omega) q4 rfl
    have q5 : okA (wD (wCh A k) ((c_tr (a_C A) (q_ch A k).2.2.2).2 : Nat)) := okA_wD q1 (by omega) (by omega)
    obtain ⟨I1, g1, g2, g3, g4⟩ := X11_actRound_h (tr := (c_tr (a_C A) (q_ch A k).2.2.2).1) (A := wD (wCh A k) ((c_tr (a_C A) (q_ch A k).2.2.2).2 : Nat)) q5 (by omega) hd2.1 e3 h4 (by
      show q_W A k + (p_fresh (a_C A) (q_ch A k).1 (c_tr (a_C A) (q_ch A k).2.2.2).1 6).length ≤ 6
      omega)
    have eN : N + q_W A (k + 1) = N + q_W A k + (p_fresh (a_C A) (q_ch A k).1 (c_tr (a_C A) (q_ch A k).2.2.2).1 6).length := by omega
    obtain ⟨I', L', r1, r2, r3⟩ := ih (k + 1) f I1 L1 (by omega) (by omega) (by rw [eN]; exact g3) (by rw [eN, ws]; exact g4)
    refine ⟨I', L', ?_, fun x hx => ⟨by rw [(r2 x hx).1, g2 x hx], by rw [(r2 x hx).2, e2 x hx]⟩, r3⟩
    have e1' : X11_chance_B39 0 (nI n) rec (nI (q_ch A k).2.2.1) (nI k) (hp I L ρ) = X11_chance_J96 rec 0 (nI n) (nI (q_ch A (k + 1)).2.2.1) (nI k) (oI (c_tr (a_C A) (q_ch A k).2.2.2).1) (hp I L1 ρ) := e1
    show X11_chance_B39 0 (nI n) rec (nI (q_ch A k).2.2.1) (nI k) (hp I L ρ) = _
    rw [e1']
    unfold X11_chance_J96
    rw [rc_0, h_ci g1, nI_1, ← hg]
    exact r1
theorem X12_chance_lp (hok : okA A) {n : Nat} (hn : n ≤ 100) (hc : s_cnt (a_C A) (a_s A) + n < 1000 * k_rt (a_C A)) : ∀ (m k fuel : Nat) (I : Nat → Nat → Int32) (L : Nat → Nat → Int64), k + m = n → m < fuel → RelM I L (wCh A k) →
    ∃ I' L', z_fix (fun r x => X12_chance_B25 215 (nI n) r x.1 x.2) fuel (nI (q_ch A k).2.2.1, nI k) (hp I L ρ) = some (some (.int (nI (q_ch A n).2.2.1)), hp I' L' ρ) ∧ (∀ x, x < 215 → I' x = I x ∧ L' x = L x) ∧ RelM I' L' (wCh A n) := by
  intro m
  induction m with
  | zero =>
    intro k fuel I L h1 h2 h3
    obtain ⟨f, rfl⟩ : ∃ f, fuel = f + 1 := ⟨fuel - 1, by omega⟩
    obtain rfl : k = n := by omega
    refine ⟨I, L, ?_, fun _ _ => ⟨rfl, rfl⟩, h3⟩
    rw [h_fix]
    show X12_chance_B25 215 (nI k) _ (nI _) (nI k) (hp I L ρ) = _
    unfold X12_chance_B25
    rw [h_if, if_pos (nI_le (Nat.le_refl _) (by omega))]; rfl
  | succ m ih =>
    intro k fuel I L h1 h2 h3
    obtain ⟨f, rfl⟩ : ∃ f, fuel = f + 1 := ⟨fuel - 1, by omega⟩
    rw [h_fix]
    generalize hg : z_fix (fun r x => X12_chance_B25 215 (nI n) r x.1 x.2) f = rec
    obtain ⟨q1, q2, q3, q4⟩ := q_ch_ok hok k (by omega)
    have hd2 := c_tr_in hok.1 (q_ch A k).2.2.2
    obtain ⟨L1, e1, e2, e3⟩ := X12_pick_h (ρ := ρ) (rec := rec) (n := n) (k := k) (T := (q_ch A k).2.2.1) (d := (q_ch A k).2.2.2) q1 h3 (by omega) q4 rfl
    have q5 : okA (wD (wCh A k) ((c_tr (a_C A) (q_ch A k).2.2.2).2 : Nat)) := okA_wD q1 (by omega) (by omega)
    obtain ⟨n0, hn0⟩ := Int32_any (I 215 63)
    obtain ⟨I1, L2, g1, g2, g3, g4⟩ := X12_act_h (ρ := ρ) (tr := (c_tr (a_C A) (q_ch A k).2.2.2).1) (A := wD (wCh A k) ((c_tr (a_C A) (q_ch A k).2.2.2).2 : Nat)) q5 hd2.1 e3 hn0
    obtain ⟨I', L', r1, r2, r3⟩ := ih (k + 1) f I1 L2 (by omega) (by omega) g4
    refine ⟨I', L', ?_, fun x hx => ⟨by rw [(r2 x hx).1, (g2 x hx).1], by rw [(r2 x hx).2, (g2 x hx).2, e2 x hx]⟩, r3⟩
    have e1' : X12_chance_B25 215 (nI n) rec (nI (q_ch A k).2.2.1) (nI k) (hp I L ρ) = X12_chance_J73 rec 215 (nI n) (nI (q_ch A (k + 1)).2.2.1) (nI k) (oI (c_tr (a_C A) (q_ch A k).2.2.2).1) (hp I L1 ρ) := e1
    show X12_chance_B25 215 (nI n) rec (nI (q_ch A k).2.2.1) (nI k) (hp I L ρ) = _
    rw [e1']
    unfold X12_chance_J73
    rw [rc_215, h_cv g1, nI_1, ← hg]
    exact r1
theorem chance_b (hok : okA A) (hN : N < 999998000) (v : Int32) : both (X11_chance 0 v) (X12_chance 215 v) A N := by
  have hcn := cnt_le hok
  have eX : ∀ {I : Nat → Nat → Int32} {L : Nat → Nat → Int64} {ρ : zRh}, RelX I L ρ A N → X0_canCome 53 41 v 1 100 (hp I L ρ) = some (some (.int (bI (p_can A v 1 100))), hp I L ρ) := fun hX => X0_can_h hok hX (lo := 1) (hi := 100) (by omega) v
  have eM : ∀ {I : Nat → Nat → Int32} {L : Nat → Nat → Int64} {ρ : zRh}, RelM I L A → X12_isAhead 215 v 1 100 (hp I L ρ) = some (some (.int (bI (p_can A v 1 100))), hp I L ρ) := fun hM => X12_ahead_h hok hM (lo := 1) (hi := 100) (by omega) v
  by_cases c : p_can A v 1 100 = true
  · have c2 := c
    unfold p_can at c2
    have c3 := of_decide_eq_true c2
    obtain ⟨n, hn, rfl⟩ := Int32_of (v := v) (by rw [v_neg]; omega)
    rw [nI_toI hn] at c3
    obtain ⟨A1, hA1⟩ : ∃ A1, A1 = wS A (a_s A) (a_K A) (p_push (a_s A, a_K A) (a_P A)) := ⟨_, rfl⟩
    have hok1 : okA A1 := by rw [hA1]; exact okA_push hok
    have hcc : s_cnt (a_C A1) (a_s A1) + n < 1000 * k_rt (a_C A1) := by
      rw [hA1]
      show s_cnt (a_C A) (a_s A) + n < 1000 * k_rt (a_C A)
      omega
    have w := q_W_le A1 n
    have hw0 : q_W A1 0 = 0 := Nat.sub_self _
    refine ⟨.int (nI (q_ch A1 n).2.2.1), wCh A1 n, N + q_W A1 n, fun I L ρ hX => ?_, fun I L ρ hM => ?_, (q_ch_ok hok1 n hcc).1, by omega⟩
    · obtain ⟨I1, e1, e2, e3, e4⟩ := X_push hok hX
      rw [← hA1] at e3
      obtain ⟨I', L', r1, r2, r3⟩ := X11_chance_lp (ρ := ρ) hok1 hN (by omega) hcc n 0 zFU I1 L (by omega) (by unfold zFU; omega) (by rw [hw0, wCh_0 hok1]; exact e3) (by
        rw [hw0, hA1]; exact e4)
      refine ⟨I', L', ρ, ?_, r3, fun x hx => ⟨by rw [(r2 x hx).1, e2 x hx], (r2 x hx).2⟩⟩
      unfold X11_chance
      rw [gr_0_9, gr_0_7, rc_53, h_ci (eX hX), c, h_if, if_neg (by decide), gr_0_11, gr_0_7, rc_68, h_cv e1]
      exact r1
    · obtain ⟨I1, e1, e2, e3⟩ := M_push (ρ := ρ) hok hM
      rw [← hA1] at e3
      obtain ⟨I', L', r1, r2, r3⟩ := X12_chance_lp (ρ := ρ) hok1 (by omega) hcc n 0 zFU I1 L (by omega) (by unfold zFU; omega) (by rw [wCh_0 hok1]; exact e3)
      refine ⟨I', L', ?_, r3, fun x hx => ⟨by rw [(r2 x hx).1, e2 x hx], (r2 x hx).2⟩⟩
      unfold X12_chance
      rw [rc_215, h_ci (eM hM), c, h_if, if_neg (by decide), rc_215, h_cv e1]
      exact r1
  · have c4 : p_can A v 1 100 = false := by simpa using c
    refine both_refused hok (j := 3) (by omega) (-1) (fun I L ρ hX => ?_) (fun I L ρ hM => ?_)
    · unfold X11_chance
      rw [gr_0_9, gr_0_7, rc_53, h_ci (eX hX), c4, bF, h_if, if_pos rfl, rc_0, h_ci (show X11_refuse 0 3 _ = _ from X11_refuse_h (j := 3) (by omega))]; rfl
    · unfold X12_chance X12_refuses
      rw [rc_215, h_ci (eM hM), c4, bF, h_if, if_pos rfl, rc_215]
      have e : (z_gr 12 9 215 fun x1 => z_la 20 x1 3 fun x2 => z_sa 20 x1 3 (x2 + 1) (z_ret (some (.int (-1))))) (hp I L ρ) = some (some (.int (-1)), hp (u2 I 217 3 (I 217 3 + 1)) L ρ) := by
        rw [gr_215_9, show (3 : Int32) = nI 3 from rfl, la_217 (by decide), sa_217 (by decide)]; rfl
      rw [h_ci e]; rfl
end B49
