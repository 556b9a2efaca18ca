/-! when -/
section B53
variable {I I0 : Nat → Nat → Int32} {L L0 : Nat → Nat → Int64} {ρ : zRh} {h : zH} {A : aT} {N : Nat} {C : cT} {s : sT} {tr : Option Nat}
theorem X12_ahead_g (hk : okC C) (hM : chM I C) (h0 : I 255 0 = nI (s_sp s)) (h1 : I 255 1 = nI (s_rd s)) (hc : s_cnt C s + 1 ≤ 1000 * k_rt C) {lo hi : Nat} (hhi : lo < 1000 ∧ hi < 1000) (v : Int32) : X12_isAhead 215 v (nI lo) (nI hi) (hp I L ρ) = some (some (.int (bI (decide ((lo : Int) ≤ v.toInt ∧ v.toInt ≤ hi ∧ v.toInt + s_cnt C s < 1000 * k_rt C)))), hp I L ρ) := by
  have h4 := hk.2.1
  unfold X12_isAhead
  rw [i64_of, nI_cl (by omega), nI_cl (by omega), h_ci (X12_isIn_h (i32_in v) (by omega) (by omega)), h_if]
  by_cases c1 : (lo : Int) ≤ v.toInt ∧ v.toInt ≤ hi
  · rw [decide_eq_true c1, if_neg (by decide), rc_215, h_ci (X12_roundMany_h hM), gr_215_52, lal_0, la_255 (by omega), h0, gr_215_52, lal_1, la_255 (by omega), h1, rc_215, h_ci (X12_roundMany_h hM), h_if]
    obtain ⟨n, hn, rfl⟩ := Int32_of (v := v) (by rw [v_neg]; omega)
    rw [nI_toI hn] at c1 ⊢
    rw [show (1000 : Int32) = nI 1000 from rfl, pk_mul, pk_mul, nI_add, nI_add]
    unfold s_cnt at hc ⊢
    rw [Nat.mul_comm (s_sp s) (k_rt C)] at hc ⊢
    simp only [nI_le' (show k_rt C * 1000 < 2147483648 by omega) (show k_rt C * s_sp s + s_rd s + n < 2147483648 by omega)]
    by_cases c2 : k_rt C * 1000 ≤ k_rt C * s_sp s + s_rd s + n
    · rw [if_pos c2, h_rb0, decide_eq_false (by omega)]; rfl
    · rw [if_neg c2, h_rb1, decide_eq_true (by omega)]; rfl
  · rw [decide_eq_false c1, bF, if_pos rfl, h_rb0, decide_eq_false (by omega)]; rfl
theorem gos_cnt (hk : okC C) : ∀ (n : Nat), okS C s → s_sp s + n ≤ 2000 → s_cnt C (p_gos C n s) = s_cnt C s + n
  | 0, _, _ => rfl
  | n + 1, hS, hn => by
    have h1 := p_gos_ok hk n hS (by omega)
    rw [p_gos_succ, p_go_cnt h1.1, gos_cnt hk n hS (by omega)]; rfl
def f_when (C : cT) (s : sT) (a : Nat) : Nat → Nat → Int32
  | 0, n => if s_wed (p_gos C n s) a = none then -1 else nI n
  | m + 1, n => if s_wed (p_gos C n s) a = none then f_when C s a m (n + 1) else nI n
theorem X0_first_lp (hok : okA A) {last a : Nat} (hl : last ≤ 60) (ha : a < 12) : ∀ (m n fuel : Nat) (I : Nat → Nat → Int32), n + m = last → m + 1 < fuel → RelX I L ρ A N → stX 54 I (p_gos (a_C A) n (a_s A)) → ∃ I', z_fix (fun r x => X0_firstWed_B22 53 (nI a) (nI last) r x) fuel (nI n) (hp I L ρ) = some (some (.int (f_when (a_C A) (a_s A) a m n)), hp I' L ρ) ∧ ∀ x, lastX x ∨ 215 ≤ x → I' x = I x := by
  have h999 := hok.2.2.1.2.1
  have hS := hok.2.2.1.1
  intro m
  induction m with
  | zero =>
    intro n fuel I h1 h2 h3 h4
    obtain ⟨f, rfl⟩ : ∃ f, fuel = f + 1 + 1 := ⟨fuel - 2, by omega⟩
    obtain rfl : n = last := by omega
    have hSn := (p_gos_ok hok.1 n hS (by omega)).1
    refine ⟨I, ?_, fun _ _ => rfl⟩
    rw [h_fix]
    generalize hg : z_fix (fun r x => X0_firstWed_B22 53 (nI a) (nI n) r x) (f + 1) = rec
    show X0_firstWed_B22 53 (nI a) (nI n) rec (nI n) (hp I L ρ) = some (some (.int (if s_wed (p_gos (a_C A) n (a_s A)) a = none then -1 else nI n)), hp I L ρ)
    unfold X0_firstWed_B22 X0_firstWed_J63
    rw [h_if, if_neg (show ¬ nI n < nI n from fun e => absurd ((nI_lt' (by omega) (by omega)).mp e) (by omega)), gr_53_0, gr_54_3, la_56 ha, h4.2.2.1 a ha, h_if]
    simp only [oI_wed hok.1 hSn]
    by_cases c : s_wed (p_gos (a_C A) n (a_s A)) a = none
    · rw [if_pos c, if_pos c, h_if, if_pos (nI_le (Nat.le_refl _) (by omega)), nI_1, ← hg, h_fix]
      show X0_firstWed_B22 53 (nI a) (nI n) _ (nI (n + 1)) (hp I L ρ) = _
      unfold X0_firstWed_B22
      rw [h_if, if_pos (nI_lt (by omega) (by omega))]; rfl
    · rw [if_neg c, if_neg c]; rfl
  | succ m ih =>
    intro n fuel I h1 h2 h3 h4
    obtain ⟨f, rfl⟩ : ∃ f, fuel = f + 1 := ⟨fuel - 1, by omega⟩
    have hSn := (p_gos_ok hok.1 n hS (by omega)).1
    rw [h_fix]
    generalize hg : z_fix (fun r x => X0_firstWed_B22 53 (nI a) (nI last) r x) f = rec
    show ∃ I', X0_firstWed_B22 53 (nI a) (nI last) rec (nI n) (hp I L ρ) = some (some (.int (if s_wed (p_gos (a_C A) n (a_s A)) a = none then f_when (a_C A) (a_s A) a m (n + 1) else nI n)), hp I' L ρ) ∧ _
    have e0 : X0_firstWed_B22 53 (nI a) (nI last) rec (nI n) (hp I L ρ) = (if s_wed (p_gos (a_C A) n (a_s A)) a = none then z_ci (X10_go 48 54 (-1)) (fun y6 => rec (nI n + 1)) (hp I L ρ) else some (some (.int (nI n)), hp I L ρ)) := by
      unfold X0_firstWed_B22 X0_firstWed_J63
      rw [h_if, if_neg (show ¬ nI last < nI n from fun e => absurd ((nI_lt' (by omega) (by omega)).mp e) (by omega)), gr_53_0, gr_54_3, la_56 ha, h4.2.2.1 a ha, h_if]
      simp only [oI_wed hok.1 hSn]
      by_cases c : s_wed (p_gos (a_C A) n (a_s A)) a = none
      · rw [if_pos c, if_pos c, h_if, if_neg (nI_ge (by omega) (by omega)), gr_53_2, gr_53_0, rc_48]
      · rw [if_neg c, if_neg c]; rfl
    by_cases c : s_wed (p_gos (a_C A) n (a_s A)) a = none
    · obtain ⟨I1, e1, e2, e3, e4⟩ := XT_go (tr := none) hok h3 hSn h4 (by simp)
      obtain ⟨I', r1, r2⟩ := ih (n + 1) f I1 (by omega) (by omega) e4 (by rw [p_gos_succ]; exact e3)
      refine ⟨I', ?_, fun x hx => by rw [r2 x hx, e2 x hx]⟩
      rw [e0, if_pos c, if_pos c, h_ci (show X10_go 48 54 (-1) _ = _ from e1), nI_1, ← hg]
      exact r1
    · refine ⟨I, ?_, fun _ _ => rfl⟩
      rw [e0, if_neg c, if_neg c]
theorem X12_when_lp (hok : okA A) {last p a : Nat} (hl : last ≤ 60) (hlast : last = 60 ∨ s_cnt (a_C A) (a_s A) + last + 1 = 1000 * k_rt (a_C A)) (hlc : s_cnt (a_C A) (a_s A) + last + 1 ≤ 1000 * k_rt (a_C A)) (ha : k_th (a_C A) a) (hp2 : k_num (a_C A) a = p) : ∀ (m n fuel : Nat) (I : Nat → Nat → Int32) (L : Nat → Nat → Int64), n + m = last → m + 1 < fuel → thM I I0 L L0 A (p_gos (a_C A) n (a_s A)) → ∃ I' L', z_fix (fun r x => X12_when_B17 215 (nI p) r x) fuel (nI n) (hp I L ρ) = some (some (.int (f_when (a_C A) (a_s A) a m n)), hp I' L' ρ) ∧ RelM I' L' A ∧ ∀ x, x < 215 → I' x = I0 x ∧ L' x = L0 x := by
  have h999 := hok.2.2.1.2.1
  have hS := hok.2.2.1.1
  -- the end
  have fin : ∀ {n : Nat} {I : Nat → Nat → Int32} {L : Nat → Nat → Int64}, n ≤ 60 → thM I I0 L L0 A (p_gos (a_C A) n (a_s A)) → ∃ I', X12_when_J53 215 (nI p) (nI n) (hp I L ρ) = some (some (.int (if s_wed (p_gos (a_C A) n (a_s A)) a = none then -1 else nI n)), hp I' L ρ) ∧ RelM I' L A ∧ ∀ x, x < 215 → I' x = I0 x ∧ L x = L0 x := by
    intro n I L hn hT
    have hSn := (p_gos_ok hok.1 n hS (by omega)).1
    obtain ⟨I3, g1, g2, g3⟩ := MT_back (ρ := ρ) hok hT
    refine ⟨I3, ?_, g2, g3⟩
    unfold X12_when_J53 X12_when_J67
    rw [rc_215, ← hp2, h_ci (X12_wedTo_h hok.1 (thM_ch hT) hT.2.2.2.1.1 ha), h_if]
    simp only [oI_wed hok.1 hSn]
    by_cases c : s_wed (p_gos (a_C A) n (a_s A)) a = none
    · rw [if_pos c, if_pos c, rc_215, h_cv g1, h_if, if_pos rfl]; rfl
    · rw [if_neg c, if_neg c, rc_215, h_cv g1, h_if, if_neg (by decide)]; rfl
  have pre : ∀ {n : Nat} {rec : Int32 → zM} {I : Nat → Nat → Int32} {L : Nat → Nat → Int64}, n ≤ last → thM I I0 L L0 A (p_gos (a_C A) n (a_s A)) → X12_when_B17 215 (nI p) rec (nI n) (hp I L ρ) = (if s_wed (p_gos (a_C A) n (a_s A)) a = none then (if n = last then X12_when_J53 215 (nI p) (nI n) (hp I L ρ) else z_cv (X12_roundGoes 215 (-1)) (rec (nI n + 1)) (hp I L ρ)) else X12_when_J53 215 (nI p) (nI n) (hp I L ρ)) := by
    intro n rec I L hn hT
    have hSn := (p_gos_ok hok.1 n hS (by omega)).1
    have hcn := gos_cnt hok.1 n hS (by omega)
    have e1 : X12_isAhead 215 1 1 1 (hp I L ρ) = _ := X12_ahead_g (L := L) (ρ := ρ) hok.1 (thM_ch hT) hT.2.2.2.1.1.1.1 hT.2.2.2.1.1.1.2 (by omega) (lo := 1) (hi := 1) (by omega) 1
    have e2 : ((1 : Nat) : Int) ≤ (1 : Int32).toInt ∧ (1 : Int32).toInt ≤ ((1 : Nat) : Int) ∧ (1 : Int32).toInt + (s_cnt (a_C A) (p_gos (a_C A) n (a_s A)) : Int) < 1000 * k_rt (a_C A) ↔ s_cnt (a_C A) (a_s A) + n + 1 < 1000 * k_rt (a_C A) := by
      rw [hcn, show (1 : Int32).toInt = 1 from rfl]
      omega
    simp only [e2] at e1
    unfold X12_when_B17
    rw [rc_215, ← hp2, h_ci (X12_wedTo_h hok.1 (thM_ch hT) hT.2.2.2.1.1 ha), h_if]
    simp only [oI_wed hok.1 hSn]
    by_cases c : s_wed (p_gos (a_C A) n (a_s A)) a = none
    · rw [if_pos c, if_pos c, h_if]
      by_cases c60 : n = 60
      · rw [if_pos (show (60 : Int32) ≤ nI n from nI_le (a := 60) (by omega) (by omega)), if_pos (by omega)]
      · rw [if_neg (show ¬ (60 : Int32) ≤ nI n from nI_ge (b := 60) (by omega) (by omega)), rc_215, h_ci e1, h_if]
        by_cases cl2 : n = last
        · rw [decide_eq_false (by omega), bF, if_pos rfl, if_pos cl2]
        · rw [decide_eq_true (by omega), if_neg (by decide), if_neg cl2, rc_215]
    · rw [if_neg c, if_neg c]
  intro m
  induction m with
  | zero =>
    intro n fuel I L h1 h2 h3
    obtain ⟨f, rfl⟩ : ∃ f, fuel = f + 1 := ⟨fuel - 1, by omega⟩
    obtain ⟨I', g1, g2, g3⟩ := fin (n := n) (by omega) h3
    refine ⟨I', L, ?_, g2, g3⟩
    rw [h_fix]
    show X12_when_B17 215 (nI p) _ (nI n) (hp I L ρ) = some (some (.int (if s_wed (p_gos (a_C A) n (a_s A)) a = none then -1 else nI n)), hp I' L ρ)
    rw [pre (by omega) h3, if_pos (show n = last by omega), ite_self]
    exact g1
  | succ m ih =>
    intro n fuel I L h1 h2 h3
    obtain ⟨f, rfl⟩ : ∃ f, fuel = f + 1 := ⟨fuel - 1, by omega⟩
    have hSn := (p_gos_ok hok.1 n hS (by omega)).1
    rw [h_fix]
    generalize hg : z_fix (fun r x => X12_when_B17 215 (nI p) r x) f = rec
    show ∃ I' L', X12_when_B17 215 (nI p) rec (nI n) (hp I L ρ) = some (some (.int (if s_wed (p_gos (a_C A) n (a_s A)) a = none then f_when (a_C A) (a_s A) a m (n + 1) else nI n)), hp I' L' ρ) ∧ _
    rw [pre (by omega) h3]
    by_cases c : s_wed (p_gos (a_C A) n (a_s A)) a = none
    · obtain ⟨I1, L1, e1, e2, e3, e4⟩ := MT_go (ρ := ρ) (tr := none) hok hSn (by simp) h3
      obtain ⟨I', L', r1, r2, r3⟩ := ih (n + 1) f I1 L1 (by omega) (by omega) (by rw [p_gos_succ]; exact e2)
      refine ⟨I', L', ?_, r2, r3⟩
      rw [if_pos c, if_neg (by omega), if_pos c, h_cv (show X12_roundGoes 215 (-1) _ = _ from e1), nI_1, ← hg]
      exact r1
    · obtain ⟨I', g1, g2, g3⟩ := fin (n := n) (by omega) h3
      refine ⟨I', L, ?_, g2, g3⟩
      rw [if_neg c, if_neg c]
      rw [if_neg c] at g1
      exact g1
theorem when_b (hok : okA A) (v : Int32) : both (X11_when 0 v) (X12_when 215 v) A N := by
  have hk := hok.1
  have h12 := hk.1
  have hc := cnt_le hok
  rcases k_sl_c hk v with ⟨q, q1⟩ | ⟨a, p, q, rfl, q1, q2, q3, q4, q5⟩
  · refine both_still hok (.int (-1)) (fun I L ρ hX => ?_) (fun I L ρ hM => ?_)
    · unfold X11_when
      rw [gr_0_5, rcc (cu_ρ hX), h_ci (XC_slot hX hk _), q, oI_none, h_if, if_pos rfl]; rfl
    · unfold X12_when
      rw [rc_215, h_ci (X12_isPerson_v hk hM.1 _), q, bI_none, h_if, if_pos rfl]; rfl
  · obtain ⟨left, hleft⟩ : ∃ left, left = 1000 * k_rt (a_C A) - 1 - s_cnt (a_C A) (a_s A) := ⟨_, rfl⟩
    obtain ⟨last, hlast⟩ : ∃ last, last = if left < 60 then left else 60 := ⟨_, rfl⟩
    have hl : last ≤ 60 ∧ last ≤ left ∧ (last = 60 ∨ last = left) := by rw [hlast]; split <;> omega
    refine both_thinks hok (.int (f_when (a_C A) (a_s A) a last 0)) (fun I L ρ hX => ?_) (fun I L ρ hM => ?_)
    · obtain ⟨I1, e1, e2, e3, e4⟩ := XT_take hok hX
      obtain ⟨I', r1, r2⟩ := X0_first_lp (L := L) (ρ := ρ) hok (last := last) (a := a) hl.1 q5 last 0 zFU I1 (by omega) (by unfold zFU; omega) e4 e3
      refine ⟨I', ?_, fun x hx => by rw [r2 x hx, e2 x hx]⟩
      have hif : (if nI left < (60 : Int32) then nI left else 60) = nI last := by
        by_cases c : left < 60
        · rw [if_pos (show nI left < (60 : Int32) from nI_lt (b := 60) c (by omega)), hlast, if_pos c]
        · rw [if_neg (show ¬ nI left < (60 : Int32) from fun e => c ((nI_lt' (b := 60) (by omega) (by omega)).mp e)), hlast, if_neg c]; rfl
      have hf : X0_firstWed 53 41 (nI a) (hp I L ρ) = some (some (.int (f_when (a_C A) (a_s A) a last 0)), hp I' L ρ) := by
        unfold X0_firstWed
        rw [rc_53, h_ci (X0_left_h hok hX), gr_53_0, rc_54, h_cv e1, ← hleft, hif]
        exact r1
      unfold X11_when
      rw [gr_0_5, rcc (cu_ρ hX), h_ci (XC_slot hX hk _), q, oI_some, h_if, if_neg (nI_nm1 (by omega)), gr_0_9, gr_0_7, rc_53, h_ci hf]; rfl
    · obtain ⟨I1, e1, e2, e3⟩ := MT_puts (ρ := ρ) hok hM
      obtain ⟨I', L', r1, r2, r3⟩ := X12_when_lp (ρ := ρ) hok (last := last) hl.1 (by omega) (by omega) q3 q4 last 0 zFU I1 L (by omega) (by unfold zFU; omega) e2
      refine ⟨I', L', ?_, r2, r3⟩
      unfold X12_when
      rw [rc_215, h_ci (X12_isPerson_v hk hM.1 _), q, bI_some, h_if, if_neg (by decide), rc_215, h_cv e1]
      exact r1
end B53
