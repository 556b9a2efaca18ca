/-! acts: part, swap -/
section B47
variable {I : Nat → Nat → Int32} {L : Nat → Nat → Int64} {ρ : zRh} {h : zH} {A : aT} {N : Nat} {C : cT} {s : sT}
def sPt (s : sT) (a b : Nat) : sT := (s.1, s_ord s, (fun i => if i = a ∨ i = b then none else s_wed s i), (fun i => if i = a ∨ i = b then 0 else s_wai s i), s_siz s, s_lik s, s_kno s)
theorem okT_Pt (h : okT C s) {a b : Nat} (hab : s_wed s a = some b) : okT C (sPt s a b) := by
  obtain ⟨⟨h1, h2, h3, h4, h5, h6⟩, h7, h8⟩ := h
  have hba := (h4 a b hab).2.2.2.1
  refine ⟨⟨h1, h2, h3, fun x y hxy => ?_, fun x hx => ⟨?_, (h5 x hx).2⟩, h6⟩, h7, h8⟩
  · change (if x = a ∨ x = b then none else s_wed s x) = some y at hxy
    by_cases c : x = a ∨ x = b
    · rw [if_pos c] at hxy; simp at hxy
    · rw [if_neg c] at hxy
      obtain ⟨q1, q2, q3, q4, q5⟩ := h4 x y hxy
      refine ⟨q1, q2, q3, ?_, q5⟩
      show (if y = a ∨ y = b then none else s_wed s y) = some x
      rw [if_neg]
      · exact q4
      · rintro (rfl | rfl)
        · rw [hab] at q4; simp at q4; omega
        · rw [hba] at q4; simp at q4; omega
  · show (if x = a ∨ x = b then 0 else s_wai s x) ≤ 99
    split
    · omega
    · exact (h5 x hx).1
theorem part_b (hok : okA A) (v : Int32) : both (X11_part 0 v) (X12_part 215 v) A N := by
  have hk := hok.1
  have h12 := hk.1
  have hS := hok.2.2.1.1
  have hj27 : ∀ {I : Nat → Nat → Int32} {L : Nat → Nat → Int64} {ρ : zRh} (y : Int32), X11_part_J27 0 y (-1) (hp I L ρ) = some (some (.int 0), hp (u2 I 214 2 (I 214 2 + 1)) L ρ) := by
    intro I L ρ y
    unfold X11_part_J27
    rw [h_if, if_pos rfl, rc_0, h_ci (show X11_refuse 0 2 _ = _ from X11_refuse_h (j := 2) (by omega)), h_rb0]
  have hj18 : ∀ {I : Nat → Nat → Int32} {L : Nat → Nat → Int64} {ρ : zRh}, X12_part_J18 215 (hp I L ρ) = some (some (.int 0), hp (u2 I 217 2 (I 217 2 + 1)) L ρ) := by
    intro I L ρ
    unfold X12_part_J18
    rw [rc_215, h_ci (show X12_isRefused 215 2 _ = _ from X12_isRefused_h (j := 2) (by omega)), h_rb0]
  rcases k_sl_c hk v with ⟨q, q1⟩ | ⟨a, p, q, rfl, q1, q2, q3, q4, q5⟩
  · refine both_refused hok (j := 2) (by omega) 0 (fun I L ρ hX => ?_) (fun I L ρ hM => ?_)
    · unfold X11_part
      rw [gr_0_5, rcc (cu_ρ hX), h_ci (XC_slot hX hk _), q, oI_none, h_if, if_pos rfl, hj27]
    · unfold X12_part
      rw [rc_215, h_ci (X12_isPerson_v hk hM.1 _), q, bI_none, h_if, if_pos rfl, hj18]
  · have hX0 : ∀ {I : Nat → Nat → Int32} {L : Nat → Nat → Int64} {ρ : zRh}, RelX I L ρ A N → X11_part 0 (nI p) (hp I L ρ) = X11_part_J27 0 (nI a) (oI (s_wed (a_s A) a)) (hp I L ρ) := by
      intro I L ρ hX
      unfold X11_part
      rw [gr_0_5, rcc (cu_ρ hX), h_ci (XC_slot hX hk _), q, oI_some, h_if, if_neg (nI_nm1 (by omega)), gr_0_7, gr_41_3, la_43 q5, hX.2.2.1.2.2.1 a q5]
    have hM0 : ∀ {I : Nat → Nat → Int32} {L : Nat → Nat → Int64} {ρ : zRh}, RelM I L A → X12_part 215 (nI p) (hp I L ρ) = z_if (oI (s_wed (a_s A) a) = -1) (X12_part_J18 215) (z_rc 12 215 (z_cv (X12_keeps 215) (z_rc 12 215 (z_ci (X12_codeOf 215 (nI p)) fun y3 => z_gr 12 52 215 fun x4 => z_la 20 x4 (14 + y3) fun x5 => z_gr 12 52 215 fun x6 => z_sa 20 x6 (14 + y3) ((-1)) (z_gr 12 52 215 fun x7 => z_sa 20 x7 (14 + x5) ((-1)) (z_gr 12 52 215 fun x8 => z_sa 20 x8 (26 + y3) 0 (z_gr 12 52 215 fun x9 => z_sa 20 x9 (26 + x5) 0 (z_rb 1)))))))) (hp I L ρ) := by
      intro I L ρ hM
      unfold X12_part
      rw [rc_215, h_ci (X12_isPerson_v hk hM.1 _), q, bI_some, h_if, if_neg (by decide), rc_215, ← q4, h_ci (X12_wedTo_h hk hM.1 (RelM_st hok hM) q3)]
    rcases hw : s_wed (a_s A) a with _ | b
    · refine both_refused hok (j := 2) (by omega) 0 (fun I L ρ hX => ?_) (fun I L ρ hM => ?_)
      · rw [hX0 hX, hw, oI_none, hj27]
      · rw [hM0 hM, hw, oI_none, h_if, if_pos rfl, hj18]
    · have hb := hS.2.2.2.1 a b hw
      have hb12 := k_th_lt hk hb.2.1
      have hab : a ≠ b := by omega
      refine both_act (s := sPt (a_s A) a b) (gX := z_gr 11 7 0 fun x3 => z_gr 8 3 x3 fun x4 => z_sa 20 x4 (nI a) ((-1)) (z_gr 11 7 0 fun x5 => z_gr 8 3 x5 fun x6 => z_sa 20 x6 (nI b) ((-1)) (z_gr 11 7 0 fun x7 => z_gr 8 4 x7 fun x8 => z_sa 20 x8 (nI a) 0 (z_gr 11 7 0 fun x9 => z_gr 8 4 x9 fun x10 => z_sa 20 x10 (nI b) 0 (z_rb 1))))) (fM := z_gr 12 52 215 fun x4 => z_la 20 x4 (14 + nI a) fun x5 => z_gr 12 52 215 fun x6 => z_sa 20 x6 (14 + nI a) ((-1)) (z_gr 12 52 215 fun x7 => z_sa 20 x7 (14 + x5) ((-1)) (z_gr 12 52 215 fun x8 => z_sa 20 x8 (26 + nI a) 0 (z_gr 12 52 215 fun x9 => z_sa 20 x9 (26 + x5) 0 (z_rb 1))))) hok (okT_Pt hok.2.2.1 hw) (fun I L ρ hX I1 he => ?_) (fun I L ρ hs => ?_) (fun I L ρ hM I1 he hC => ?_) (fun I L ρ hC hs => ?_)
      · rw [hX0 hX, hw, oI_some]
        unfold X11_part_J27
        rw [h_if, if_neg (nI_nm1 (by omega)), gr_0_11, gr_0_7, rc_68, h_cv he]
      · refine ⟨u2 (u2 (u2 (u2 I 43 a (-1)) 43 b (-1)) 44 a 0) 44 b 0, ?_, ?_, fun x hx => by rw [u2r (by omega), u2r (by omega), u2r (by omega), u2r (by omega)]⟩
        · rw [gr_0_7, gr_41_3, sa_43 q5, gr_0_7, gr_41_3, sa_43 hb12, gr_0_7, gr_41_4, sa_44 q5, gr_0_7, gr_41_4, sa_44 hb12, h_rb1]
        · obtain ⟨g1, g2, g3, g4, g5, g6, g7⟩ := hs
          refine ⟨?_, ?_, fun i hi => ?_, fun i hi => ?_, ?_, ?_, ?_⟩
          · rw [u2r (by omega), u2r (by omega), u2r (by omega), u2r (by omega)]; exact g1
          · rw [u2r (by omega), u2r (by omega), u2r (by omega), u2r (by omega)]; exact g2
          · show _ = oI (if i = a ∨ i = b then none else s_wed (a_s A) i)
            rw [u2r (by omega), u2r (by omega), u2_ap, u2_ap]
            by_cases c1 : i = b
            · rw [if_pos ⟨rfl, c1⟩, if_pos (Or.inr c1)]; rfl
            · rw [if_neg (fun e => c1 e.2)]
              by_cases c2 : i = a
              · rw [if_pos ⟨rfl, c2⟩, if_pos (Or.inl c2)]; rfl
              · rw [if_neg (fun e => c2 e.2), if_neg (by omega)]; exact g3 i hi
          · show _ = nI (if i = a ∨ i = b then 0 else s_wai (a_s A) i)
            rw [u2_ap, u2_ap]
            by_cases c1 : i = b
            · rw [if_pos ⟨rfl, c1⟩, if_pos (Or.inr c1)]; rfl
            · rw [if_neg (fun e => c1 e.2)]
              by_cases c2 : i = a
              · rw [if_pos ⟨rfl, c2⟩, if_pos (Or.inl c2)]; rfl
              · rw [if_neg (fun e => c2 e.2), if_neg (by omega), u2r (by omega), u2r (by omega)]; exact g4 i hi
          · rw [u2r (by omega), u2r (by omega), u2r (by omega), u2r (by omega)]; exact g5
          · rw [u2r (by omega), u2r (by omega), u2r (by omega), u2r (by omega)]; exact g6
          · rw [u2r (by omega), u2r (by omega), u2r (by omega), u2r (by omega)]; exact g7
      · rw [hM0 hM, hw, oI_some, h_if, if_neg (nI_nm1 (by omega)), rc_215, h_cv he, rc_215, h_ci (X12_codeOf_h hk hC (by omega)), ← q2]
      · obtain ⟨⟨⟨g1, g2, g3⟩, g4⟩, g5⟩ := hs
        have hrb : I 255 (14 + a) = nI b := by rw [(g3 a q3).1, hw]; rfl
        refine ⟨u2 (u2 (u2 (u2 I 255 (14 + a) (-1)) 255 (14 + b) (-1)) 255 (26 + a) 0) 255 (26 + b) 0, ?_, ?_, fun x hx => by rw [u2r hx, u2r hx, u2r hx, u2r hx]⟩
        · rw [gr_215_52, show (14 : Int32) = nI 14 from rfl, show (26 : Int32) = nI 26 from rfl, nI_add, nI_add, la_255 (by omega), hrb, nI_add, nI_add, gr_215_52, sa_255 (by omega), gr_215_52, sa_255 (by omega), gr_215_52, sa_255 (by omega), gr_215_52, sa_255 (by omega), h_rb1]
        · have ev : ∀ i, (u2 (u2 (u2 (u2 I 255 (14 + a) (-1)) 255 (14 + b) (-1)) 255 (26 + a) 0) 255 (26 + b) 0) 255 i = if i = 26 + b ∨ i = 26 + a then 0 else if i = 14 + b ∨ i = 14 + a then -1 else I 255 i := by
            intro i
            rw [u2_ap, u2_ap, u2_ap, u2_ap]
            by_cases c1 : i = 26 + b
            · rw [if_pos ⟨rfl, c1⟩, if_pos (Or.inl c1)]
            · rw [if_neg (fun e => c1 e.2)]
              by_cases c2 : i = 26 + a
              · rw [if_pos ⟨rfl, c2⟩, if_pos (Or.inr c2)]
              · rw [if_neg (fun e => c2 e.2), if_neg (show ¬ (i = 26 + b ∨ i = 26 + a) by omega)]
                by_cases c3 : i = 14 + b
                · rw [if_pos ⟨rfl, c3⟩, if_pos (Or.inl c3)]
                · rw [if_neg (fun e => c3 e.2)]
                  by_cases c4 : i = 14 + a
                  · rw [if_pos ⟨rfl, c4⟩, if_pos (Or.inr c4)]
                  · rw [if_neg (fun e => c4 e.2), if_neg (show ¬ (i = 14 + b ∨ i = 14 + a) by omega)]
          have eo : ∀ i, i ≠ 14 + a → i ≠ 14 + b → i ≠ 26 + a → i ≠ 26 + b → (u2 (u2 (u2 (u2 I 255 (14 + a) (-1)) 255 (14 + b) (-1)) 255 (26 + a) 0) 255 (26 + b) 0) 255 i = I 255 i := fun i h1 h2 h3 h4 => by rw [ev, if_neg (by omega), if_neg (by omega)]
          refine ⟨⟨⟨⟨by rw [eo _ (by omega) (by omega) (by omega) (by omega)]; exact g1.1, by rw [eo _ (by omega) (by omega) (by omega) (by omega)]; exact g1.2⟩, fun side k x1 x2 => ?_, fun y hy => ?_⟩, fun ht y hy hny => ?_⟩, kpM_eq (fun j x1 x2 => eo j (by omega) (by omega) (by omega) (by omega)) g5⟩
          · have := k_n_le hk side
            rw [eo _ (by omega) (by omega) (by omega) (by omega)]; exact g2 side k x1 x2
          · have hy12 := k_th_lt hk hy
            obtain ⟨r1, r2, r3⟩ := g3 y hy
            refine ⟨?_, ?_, fun k hk6 => ?_⟩
            · show _ = oI (if y = a ∨ y = b then none else s_wed (a_s A) y)
              rw [ev, if_neg (by omega)]
              by_cases c : y = a ∨ y = b
              · rw [if_pos c, if_pos (by omega)]; rfl
              · rw [if_neg c, if_neg (by omega)]; exact r1
            · show _ = nI (if y = a ∨ y = b then 0 else s_wai (a_s A) y)
              rw [ev]
              by_cases c : y = a ∨ y = b
              · rw [if_pos c, if_pos (by omega)]; rfl
              · rw [if_neg c, if_neg (by omega), if_neg (by omega)]; exact r2
            · rw [eo _ (by omega) (by omega) (by omega) (by omega), eo _ (by omega) (by omega) (by omega) (by omega)]; exact r3 k hk6
          · have hna : y ≠ a := fun e => hny (by rw [e]; exact q3)
            have hnb : y ≠ b := fun e => hny (by rw [e]; exact hb.2.1)
            rw [eo _ (by omega) (by omega) (by omega) (by omega)]
            exact g4 ht y hy hny
/-! swap -/
def sSw (s : sT) (x y : Nat) : sT := (s.1, (fun i => if i = x then s_ord s y else if i = y then s_ord s x else s_ord s i), s_wed s, s_wai s, s_siz s, s_lik s, s_kno s)
def t_sw (x y i : Nat) : Nat := if i = x then y else if i = y then x else i
theorem t_sw_inj {x y a b : Nat} (h : t_sw x y a = t_sw x y b) : a = b := by
  unfold t_sw at h
  split at h <;> split at h <;> (try split at h) <;> (try split at h) <;> omega
theorem sSw_ord (s : sT) (x y i : Nat) : s_ord (sSw s x y) i = s_ord s (t_sw x y i) := by
  show (if i = x then s_ord s y else if i = y then s_ord s x else s_ord s i) = _
  unfold t_sw
  split
  · rfl
  · split <;> rfl
theorem okT_Sw (h : okT C s) {x y : Nat} (hx : k_th C x) (hy : k_th C y) (hxy : x < 6 ↔ y < 6) : okT C (sSw s x y) := by
  obtain ⟨⟨h1, h2, h3, h4, h5, h6⟩, h7, h8⟩ := h
  have ht : ∀ a, k_th C a → k_th C (t_sw x y a) ∧ (a < 6 ↔ t_sw x y a < 6) := by
    intro a ha
    unfold t_sw
    by_cases c1 : a = x
    · rw [if_pos c1]; exact ⟨hy, by rw [c1]; exact hxy⟩
    · rw [if_neg c1]
      by_cases c2 : a = y
      · rw [if_pos c2]; exact ⟨hx, by rw [c2]; exact hxy.symm⟩
      · rw [if_neg c2]; exact ⟨ha, Iff.rfl⟩
  refine ⟨⟨h1, fun a ha => ?_, fun a b ha hb e => ?_, h4, h5, h6⟩, h7, h8⟩
  · rw [sSw_ord]
    obtain ⟨q1, q2⟩ := ht a ha
    have := h2 _ q1
    exact ⟨this.1, q2.trans this.2⟩
  · rw [sSw_ord, sSw_ord] at e
    exact t_sw_inj (h3 _ _ (ht a ha).1 (ht b hb).1 e)
theorem swap_b (hok : okA A) (v w u : Int32) : both (X11_swap 0 v w u) (X12_swap 215 v w u) A N := by
  have hk := hok.1
  have h12 := hk.1
  have hS := hok.2.2.1.1
  have j32 : ∀ {I : Nat → Nat → Int32} {L : Nat → Nat → Int64} {ρ : zRh}, X11_swap_J32 0 (hp I L ρ) = some (some (.int 0), hp (u2 I 214 2 (I 214 2 + 1)) L ρ) := by
    intro I L ρ
    unfold X11_swap_J32
    rw [rc_0, h_ci (show X11_refuse 0 2 _ = _ from X11_refuse_h (j := 2) (by omega)), h_rb0]
  have j49 : ∀ {I : Nat → Nat → Int32} {L : Nat → Nat → Int64} {ρ : zRh}, X12_swap_J49 215 (hp I L ρ) = some (some (.int 0), hp (u2 I 217 2 (I 217 2 + 1)) L ρ) := by
    intro I L ρ
    unfold X12_swap_J49
    rw [rc_215, h_ci (show X12_isRefused 215 2 _ = _ from X12_isRefused_h (j := 2) (by omega)), h_rb0]
  by_cases c0 : 0 ≤ v.toInt ∧ v.toInt ≤ 1
  · obtain ⟨side, hs9, rfl⟩ := Int32_in9 (v := v) (by omega)
    rw [nI_toI (by omega)] at c0
    have hside : side < 2 := by omega
    have hn6 := k_n_le hk side
    have hcnt : ∀ {I : Nat → Nat → Int32} {L : Nat → Nat → Int64} {ρ : zRh}, RelX I L ρ A N → I (ρ.1 + 1) side = nI (k_n (a_C A) side) := by
      intro I L ρ hX
      have := (cu_ch hX).1
      unfold k_n
      by_cases c : side = 0
      · rw [c, if_pos rfl]; exact this.1
      · rw [if_neg c, show side = 1 by omega]; exact this.2
    have hpl : ∀ {I : Nat → Nat → Int32} {L : Nat → Nat → Int64} {ρ : zRh} (x : Int32), RelX I L ρ A N → X11_isPlace 0 (nI side) x (hp I L ρ) = some (some (.int (bI (decide (0 ≤ x.toInt ∧ x.toInt < k_n (a_C A) side)))), hp I L ρ) := by
      intro I L ρ x hX
      unfold X11_isPlace
      rw [h_if]
      by_cases c : x < 0
      · rw [if_pos c, h_rb0]
        rw [v_neg] at c
        rw [decide_eq_false (by omega)]; rfl
      · rw [if_neg c, gr_0_5, gc_0 (cu_ρ hX), lac_1 (cu_ρ hX) hside, hcnt hX, h_if]
        obtain ⟨j, hj, rfl⟩ := Int32_of c
        rw [nI_toI hj]
        simp only [nI_le' (show k_n (a_C A) side < 2147483648 by omega) hj]
        by_cases c2 : k_n (a_C A) side ≤ j
        · rw [if_pos c2, h_rb0, decide_eq_false (by omega)]; rfl
        · rw [if_neg c2, h_rb1, decide_eq_true (by omega)]; rfl
    have hin : ∀ {h : zH} (x : Int32), X12_isIn x.toInt64 0 ((nI (k_n (a_C A) side) - 1 : Int32).toInt64) h = some (some (.int (bI (decide (0 ≤ x.toInt ∧ x.toInt < k_n (a_C A) side)))), h) := by
      intro h x
      rw [i64_of, nI_m1 _ (by omega), show (0 : Int64) = cl 0 from rfl, X12_isIn_h (i32_in x) (by omega) (by omega)]
      have : (0 ≤ x.toInt ∧ x.toInt ≤ (k_n (a_C A) side : Int) - 1) ↔ (0 ≤ x.toInt ∧ x.toInt < (k_n (a_C A) side : Int)) := by omega
      simp only [this]
    have hX0 : ∀ {I : Nat → Nat → Int32} {L : Nat → Nat → Int64} {ρ : zRh}, RelX I L ρ A N → X11_swap 0 (nI side) w u (hp I L ρ) = (if w = u ∨ ¬ (0 ≤ w.toInt ∧ w.toInt < k_n (a_C A) side) ∨ ¬ (0 ≤ u.toInt ∧ u.toInt < k_n (a_C A) side) then X11_swap_J32 0 (hp I L ρ) else (z_gr 11 11 0 fun x3 => z_gr 11 7 0 fun x4 => z_rc 6 x3 (z_cv (X6_remember x3 x4) (z_gr 11 7 0 fun x5 => z_rc 8 x5 (z_cv (X8_exchange x5 (nI side) w u) (z_rb 1))))) (hp I L ρ)) := by
      intro I L ρ hX
      unfold X11_swap
      rw [h_if, if_neg (show ¬ nI side < 0 by rw [v_neg, nI_toI (by omega)]; omega), h_if, if_neg (show ¬ (1 : Int32) < nI side from fun e => absurd ((nI_lt' (a := 1) (by omega) (by omega)).mp e) (by omega)), h_if]
      by_cases c1 : w = u
      · rw [if_pos c1, if_pos (Or.inl c1)]
      · rw [if_neg c1, rc_0, h_ci (hpl w hX), h_if]
        by_cases c2 : 0 ≤ w.toInt ∧ w.toInt < k_n (a_C A) side
        · rw [decide_eq_true c2, if_neg (by decide), rc_0, h_ci (hpl u hX), h_if]
          by_cases c3 : 0 ≤ u.toInt ∧ u.toInt < k_n (a_C A) side
          · rw [decide_eq_true c3, if_neg (by decide), if_neg (by rintro (q | q | q); exact c1 q; exact q c2; exact q c3)]
          · rw [decide_eq_false c3, bF, if_pos rfl, if_pos (Or.inr (Or.inr c3))]
        · rw [decide_eq_false c2, bF, if_pos rfl, if_pos (Or.inr (Or.inl c2))]
    have hM0 : ∀ {I : Nat → Nat → Int32} {L : Nat → Nat → Int64} {ρ : zRh}, RelM I L A → X12_swap 215 (nI side) w u (hp I L ρ) = (if w = u ∨ ¬ (0 ≤ w.toInt ∧ w.toInt < k_n (a_C A) side) ∨ ¬ (0 ≤ u.toInt ∧ u.toInt < k_n (a_C A) side) then X12_swap_J49 215 (hp I L ρ) else (z_rc 12 215 (z_cv (X12_keeps 215) (z_rc 12 215 (z_cv (X12_exchanges 215 (nI side) w u) (z_rb 1))))) (hp I L ρ)) := by
      intro I L ρ hM
      unfold X12_swap
      rw [i64_of, show (0 : Int64) = cl 0 from rfl, h_ci (show X12_isIn _ _ 1 _ = _ from X12_isIn_h (b := 1) (i32_in _) (by omega) (by omega)), h_if, decide_eq_true (by rw [nI_toI (by omega)]; omega), if_neg (by decide), rc_215, h_ci (X12_sideMany_h hM.1 hside), show cl 0 = (0 : Int64) from rfl, h_ci (hin w), h_if]
      by_cases c2 : 0 ≤ w.toInt ∧ w.toInt < k_n (a_C A) side
      · rw [decide_eq_true c2, if_neg (by decide), rc_215, h_ci (X12_sideMany_h hM.1 hside), h_ci (hin u), h_if]
        by_cases c3 : 0 ≤ u.toInt ∧ u.toInt < k_n (a_C A) side
        · rw [decide_eq_true c3, if_neg (by decide), h_if]
          by_cases c1 : w = u
          · rw [if_pos c1, if_pos (Or.inl c1)]
          · rw [if_neg c1, if_neg (by rintro (q | q | q); exact c1 q; exact q c2; exact q c3)]
        · rw [decide_eq_false c3, bF, if_pos rfl, if_pos (Or.inr (Or.inr c3))]
      · rw [decide_eq_false c2, bF, if_pos rfl, if_pos (Or.inr (Or.inl c2))]
    by_cases c : w = u ∨ ¬ (0 ≤ w.toInt ∧ w.toInt < k_n (a_C A) side) ∨ ¬ (0 ≤ u.toInt ∧ u.toInt < k_n (a_C A) side)
    · exact both_refused hok (j := 2) (by omega) 0 (fun I L ρ hX => by rw [hX0 hX, if_pos c, j32]) (fun I L ρ hM => by rw [hM0 hM, if_pos c, j49])
    · obtain ⟨x, hx9, rfl⟩ := Int32_in9 (v := w) (by omega)
      obtain ⟨y, hy9, rfl⟩ := Int32_in9 (v := u) (by omega)
      have hxn : x < k_n (a_C A) side := by
        apply Classical.byContradiction
        intro q
        exact c (Or.inr (Or.inl (by rw [nI_toI (by omega)]; omega)))
      have hyn : y < k_n (a_C A) side := by
        apply Classical.byContradiction
        intro q
        exact c (Or.inr (Or.inr (by rw [nI_toI (by omega)]; omega)))
      have hxy : x ≠ y := fun e => c (Or.inl (by rw [e]))
      have tx := k_th_of (C := a_C A) hside hxn
      have ty := k_th_of (C := a_C A) hside hyn
      refine both_act (s := sSw (a_s A) (6 * side + x) (6 * side + y)) (gX := z_gr 11 7 0 fun x5 => z_rc 8 x5 (z_cv (X8_exchange x5 (nI side) (nI x) (nI y)) (z_rb 1))) (fM := z_rc 12 215 (z_cv (X12_exchanges 215 (nI side) (nI x) (nI y)) (z_rb 1))) hok (okT_Sw hok.2.2.1 tx ty (by omega)) (fun I L ρ hX I1 he => ?_) (fun I L ρ hs => ?_) (fun I L ρ hM I1 he hC => ?_) (fun I L ρ hC hs => ?_)
      · rw [hX0 hX, if_neg c, gr_0_11, gr_0_7, rc_68, h_cv he]
      · obtain ⟨g1, g2, g3, g4, g5, g6, g7⟩ := hs
        have e : X8_exchange 41 (nI side) (nI x) (nI y) (hp I L ρ) = some (none, hp (u2 (u2 I 42 (6 * side + x) (I 42 (6 * side + y))) 42 (6 * side + y) (I 42 (6 * side + x))) L ρ) := by
          unfold X8_exchange
          rw [gr_41_2, show (6 : Int32) = nI 6 from rfl, pk_mul, nI_add, nI_add, Nat.mul_comm side 6, la_42 (by omega), gr_41_2, gr_41_2, la_42 (by omega), sa_42 (by omega), gr_41_2, sa_42 (by omega), h_ret]
        refine ⟨_, by rw [gr_0_7, rc_41, h_cv e, h_rb1], ⟨by rw [u2r (by omega), u2r (by omega)]; exact g1, fun i hi => ?_, by rw [u2r (by omega), u2r (by omega)]; exact g3, by rw [u2r (by omega), u2r (by omega)]; exact g4, by rw [u2r (by omega), u2r (by omega)]; exact g5, by rw [u2r (by omega), u2r (by omega)]; exact g6, by rw [u2r (by omega), u2r (by omega)]; exact g7⟩, fun a ha => by rw [u2r (by omega), u2r (by omega)]⟩
        rw [sSw_ord, u2_ap, u2_ap]
        unfold t_sw
        by_cases c1 : i = 6 * side + y
        · rw [if_pos ⟨rfl, c1⟩, if_neg (by omega), if_pos c1]
          exact g2 _ (by omega)
        · rw [if_neg (fun e => c1 e.2)]
          by_cases c2 : i = 6 * side + x
          · rw [if_pos ⟨rfl, c2⟩, if_pos c2]
            exact g2 _ (by omega)
          · rw [if_neg (fun e => c2 e.2), if_neg c2, if_neg c1]
            exact g2 i hi
      · rw [hM0 hM, if_neg c, rc_215, h_cv he]
      · obtain ⟨⟨⟨g1, g2, g3⟩, g4⟩, g5⟩ := hs
        have e : X12_exchanges 215 (nI side) (nI x) (nI y) (hp I L ρ) = some (none, hp (u2 (u2 I 255 (2 + 6 * side + x) (I 255 (2 + 6 * side + y))) 255 (2 + 6 * side + y) (I 255 (2 + 6 * side + x))) L ρ) := by
          unfold X12_exchanges
          rw [gr_215_52, show (6 : Int32) = nI 6 from rfl, pk_mul, show (2 : Int32) = nI 2 from rfl, nI_add, nI_add, nI_add, la_255 (by omega), gr_215_52, gr_215_52, la_255 (by omega), sa_255 (by omega), gr_215_52, sa_255 (by omega), h_ret]
        have eo : ∀ i, i ≠ 2 + 6 * side + x → i ≠ 2 + 6 * side + y → (u2 (u2 I 255 (2 + 6 * side + x) (I 255 (2 + 6 * side + y))) 255 (2 + 6 * side + y) (I 255 (2 + 6 * side + x))) 255 i = I 255 i := fun i h1 h2 => by rw [u2_ap, if_neg (by omega), u2_ap, if_neg (by omega)]
        refine ⟨_, by rw [rc_215, h_cv e, h_rb1], ⟨⟨⟨⟨by rw [eo _ (by omega) (by omega)]; exact g1.1, by rw [eo _ (by omega) (by omega)]; exact g1.2⟩, fun sd k x1 x2 => ?_, fun a ha => ?_⟩, fun ht a ha hna => ?_⟩, kpM_eq (fun j x1 x2 => eo j (by omega) (by omega)) g5⟩, fun a ha => by rw [u2r ha, u2r ha]⟩
        · have := k_n_le hk sd
          rw [sSw_ord]
          unfold t_sw
          by_cases cs : sd = side
          · rw [cs] at x2 ⊢
            by_cases c1 : k = y
            · rw [c1, u2_ap, if_pos ⟨rfl, rfl⟩, if_neg (by omega), if_pos rfl]
              exact g2 side x hside hxn
            · by_cases c2 : k = x
              · rw [c2, u2_ap, if_neg (by omega), u2_ap, if_pos ⟨rfl, rfl⟩, if_pos rfl]
                exact g2 side y hside hyn
              · rw [eo _ (by omega) (by omega), if_neg (by omega), if_neg (by omega)]
                exact g2 side k hside x2
          · rw [eo _ (by omega) (by omega), if_neg (by omega), if_neg (by omega)]
            exact g2 sd k x1 x2
        · have := k_th_lt hk ha
          obtain ⟨r1, r2, r3⟩ := g3 a ha
          refine ⟨by rw [eo _ (by omega) (by omega)]; exact r1, by rw [eo _ (by omega) (by omega)]; exact r2, fun k hk6 => ?_⟩
          rw [eo _ (by omega) (by omega), eo _ (by omega) (by omega)]
          exact r3 k hk6
        · rw [eo _ (by omega) (by omega)]
          exact g4 ht a ha hna
  · refine both_refused hok (j := 2) (by omega) 0 (fun I L ρ hX => ?_) (fun I L ρ hM => ?_)
    · unfold X11_swap
      rw [h_if]
      by_cases c1 : v < 0
      · rw [if_pos c1, j32]
      · rw [if_neg c1, h_if]
        obtain ⟨n, hn, rfl⟩ := Int32_of c1
        rw [nI_toI hn] at c0
        rw [if_pos (show (1 : Int32) < nI n from nI_lt (a := 1) (by omega) (by omega)), j32]
    · unfold X12_swap
      rw [i64_of, show (0 : Int64) = cl 0 from rfl, h_ci (show X12_isIn _ _ 1 _ = _ from X12_isIn_h (b := 1) (i32_in _) (by omega) (by omega)), h_if, decide_eq_false c0, bF, if_pos rfl, j49]
end B47
