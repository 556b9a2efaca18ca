/-! the class reads a church: the loop, what is not told -/
section B8a
variable {I I0 : Nat → Nat → Int32} {L L0 : Nat → Nat → Int64} {ρ : zRh} {h : zH} {b : Nat → Nat} {n a x j k ch side here u w : Nat} {r : rP} {S : nT}
theorem fC_m1 {I' : Nat → Nat → Int32} (h : fC I I') (h0 : I' 2 3 = 0) (h4 : I 2 4 = -1) : I' 2 4 = -1 := by rw [(h.2 h0).2]; exact h4
/-- where a church's text ends -/
def lpE (ch : Nat) (I : Nat → Nat → Int32) (b : Nat → Nat) (n : Nat) (v : Int32) (R : Sum (Nat × Nat) (Nat × nT)) : Prop := match R with
  | .inl e => tX I b n (.inl e) ∧ kU ch I
  | .inr q => I 2 3 = 0 ∧ v = nI q.1 ∧ q.1 ≤ 60 ∧ okN q.2 ∧ n_kc q.2 ≤ 60 ∧ kX ch I q.2 ∧ ∃ u, kC ch I q.2 u ∧ u ≤ 1600
theorem read_u (hc : chk ch) {e : Nat × Nat} {t i : Int32} (hi : i.toInt ≤ 1600) (hT : tX I b n (.inl e)) {f : Nat} : z_fix (fun r x => X2_read_B8 11 ch r x.1 x.2) (f + 1) (t, i) (hp I L ρ) = X2_read_J82 ch t (hp I L ρ) := by
  rw [h_fix]
  show X2_read_B8 11 ch _ t i (hp I L ρ) = _
  unfold X2_read_B8
  rw [h_if, if_neg (show ¬ (1600 : Int32) < i from fun q => by
    rw [Int32.lt_iff_toInt_lt] at q
    have : (1600 : Int32).toInt = 1600 := by decide
    omega), gr_11_0, rc_2, h_ci (tX_sound hT), h_if, show sdI (Sum.inl e : rP) = 0 from rfl, if_pos rfl]
theorem read_lp (hc : chk ch) : ∀ g t a S u (I : Nat → Nat → Int32) (ρ : zRh) fuel, t + g = 62 → t ≤ 60 → g < fuel → tX I b n (.inr a) → okN S → n_kc S ≤ t → kX ch I S → kC ch I S u → u ≤ a → ∃ I' ρ' v, z_fix (fun r x => X2_read_B8 11 ch r x.1 x.2) fuel (nI t, nI t) (hp I L ρ) = X2_read_J82 ch v (hp I' L ρ') ∧ rhE ρ ρ' ∧ sF ch I I' ∧ lpE ch I' b n v (s_lp b n g t a S) := by
  intro g
  induction g with
  | zero => intro t a S u I ρ fuel h1 h2; omega
  | succ g ih =>
    intro t a S u I ρ fuel h1 h2 hf hT hok hkc hK hC hu
    obtain ⟨f, rfl⟩ : ∃ f, fuel = f + 1 := ⟨fuel - 1, by omega⟩
    have hn := hT.1.2.1
    have ha := (tX_le hT).1
    have hi := fun a S u I ρ => ih (t + 1) a S u I ρ f (by omega)
    have hiu : ∀ (I : Nat → Nat → Int32) (ρ : zRh) (e : Nat × Nat) (v w : Int32), w.toInt ≤ 1600 → tX I b n (.inl e) → z_fix (fun r x => X2_read_B8 11 ch r x.1 x.2) f (v, w) (hp I L ρ) = X2_read_J82 ch v (hp I L ρ) := by
      intro I ρ e v w hw hT
      obtain ⟨f', rfl⟩ : ∃ f', f = f' + 1 := ⟨f - 1, by omega⟩
      exact read_u hc hw hT
    obtain ⟨I1, b1, b2, b3⟩ := tX_ended (L := L) (ρ := ρ) hT
    rw [h_fix]
    show ∃ I' ρ' v, X2_read_B8 11 ch _ (nI t) (nI t) (hp I L ρ) = _ ∧ _ ∧ _ ∧ lpE ch I' b n v (if n ≤ a then .inr (t, S) else if t = 60 then .inl (5, a) else match s_sg b n (s_st b n S a) with | .inl e => .inl e | .inr q => s_lp b n g (t + 1) q.1 q.2)
    generalize z_fix (fun r x => X2_read_B8 11 ch r x.1 x.2) f = rec at hi hiu
    unfold X2_read_B8 X2_read_J76
    rw [h_if, if_neg (show ¬ (1600 : Int32) < nI t from fun q => by have := (nI_lt' (a := 1600) (by omega) (by omega)).mp q; omega), gr_11_0, rc_2, h_ci (tX_sound hT), h_if, show sdI (Sum.inr a : rP) = 1 from rfl, if_neg (by decide), gr_11_0, rc_2, h_ci b1, h_if]
    have hK1 := kX_fX hc b3 hK
    have hC1 := kC_fX hc b3 hC
    by_cases c : n ≤ a
    · rw [decide_eq_true c, if_neg (by decide), if_pos c]
      exact ⟨I1, ρ, nI t, rfl, rhE_0, sF_fX b3, b2.2.1, rfl, h2, hok, by show n_kc S ≤ 60; omega, hK1, u, hC1, by omega⟩
    · rw [decide_eq_false c, bF, if_pos rfl, if_neg c, h_if]
      by_cases c2 : t = 60
      · obtain ⟨I2, y, c1, c3, c4, c5, c6⟩ := tX_begin (L := L) (ρ := ρ) b2
        obtain ⟨c5, c7⟩ := c5 _ rfl
        subst c5
        obtain ⟨I3, d1, d2, d3⟩ := tX_fail (L := L) (ρ := ρ) (k := 5) (p := y) (by omega) c3
        have hF := fX_tr b3 (fX_tr c4 d3)
        rw [if_pos (show nI t = 60 by rw [c2]; rfl), gr_11_0, gr_11_0, rc_2, h_ci c1, rc_2, show (5 : Int32) = nI 5 from rfl, h_cv d1, if_pos c2]
        refine ⟨I3, ρ, nI t, ?_, rhE_0, sF_fX hF, d2, kU_of hok (by omega) (kX_fX hc hF hK) (kC_fX hc hF hC)⟩
        exact hiu I3 ρ (5, y) (nI t) _ (by rw [nI_1, nI_toI (by omega)]; omega) d2
      · rw [if_neg (show ¬ nI t = 60 from fun q => c2 ((nI_inj (b := 60) (by omega) (by omega)).mp q)), if_neg c2]
        obtain ⟨I2, ρ2, d1, d2, d3, d4⟩ := X2_statement_h (L := L) (ρ := ρ) hc b2 hok hK1 hC1 hu (by omega)
        have hF2 := sF_tr (sF_fX b3) d3
        rw [rc_11, h_cv d1, gr_11_0, rc_2]
        rcases q : s_st b n S a with e | q1
        · rw [q] at d4
          obtain ⟨d4, d5⟩ := d4
          obtain ⟨I3, e1, e2, e3⟩ := tX_need (L := L) (ρ := ρ2) (c := 59) (by omega) d4
          have e2 : tX I3 b n (.inl e) := e2
          rw [show (59 : Int32) = nI 59 from rfl, h_cv e1]
          refine ⟨I3, ρ2, nI t + 1, hiu I3 ρ2 e _ _ (by rw [nI_1, nI_toI (by omega)]; omega) e2, d2, sF_tr hF2 (sF_fX e3), e2, kU_fX hc e3 d5⟩
        · have hst := st_ok hok ha q
          rw [q] at d4
          obtain ⟨d4, d5, u', d6, d7⟩ := d4
          obtain ⟨I3, e1, e2, e3⟩ := tX_need (L := L) (ρ := ρ2) (c := 59) (by omega) d4
          have e2 : tX I3 b n (if t_c b n q1.1 = 59 then .inr (sk b n (q1.1 + 1)) else .inl (1, q1.1)) := e2
          have hK3 := kX_fX hc e3 d5
          have hC3 := kC_fX hc e3 d6
          have hn1 := (tX_le d4).1
          rw [show (59 : Int32) = nI 59 from rfl, h_cv e1]
          show ∃ I' ρ' v, _ ∧ _ ∧ _ ∧ lpE ch I' b n v (match (if t_c b n q1.1 = 59 then .inr (sk b n (q1.1 + 1), q1.2) else .inl (1, q1.1) : nR) with | .inl e => .inl e | .inr q => s_lp b n g (t + 1) q.1 q.2)
          by_cases c3 : t_c b n q1.1 = 59
          · rw [if_pos c3] at e2 ⊢
            have hsk := sk_ge (b := b) (n := n) (a := q1.1 + 1)
            obtain ⟨I4, ρ4, v, k1, k2, k3, k4⟩ := hi (sk b n (q1.1 + 1)) q1.2 u' I3 ρ2 (by omega) (by omega) e2 hst.1 (by have := hst.2.2; omega) hK3 hC3 (by omega)
            rw [nI_1]
            exact ⟨I4, ρ4, v, k1, rhE_tr d2 k2, sF_tr hF2 (sF_tr (sF_fX e3) k3), k4⟩
          · rw [if_neg c3] at e2 ⊢
            refine ⟨I3, ρ2, nI t + 1, hiu I3 ρ2 _ _ _ (by rw [nI_1, nI_toI (by omega)]; omega) e2, d2, sF_tr hF2 (sF_fX e3), e2, kU_of hst.1 (by omega) hK3 hC3⟩
/-! what is not told -/
def cdF (ch : Nat) (I I' : Nat → Nat → Int32) : Prop := ∀ x, (x < ch + 9 ∨ ch + 12 < x) → I' x = I x
theorem cdF_0 : cdF ch I I := fun _ _ => rfl
theorem cdF_tr {I1 I2 : Nat → Nat → Int32} (h1 : cdF ch I I1) (h2 : cdF ch I1 I2) : cdF ch I I2 := fun x q => by rw [h2 x q, h1 x q]
theorem cdF_u {c : Nat} {v : Int32} (h : ch + 9 ≤ c ∧ c ≤ ch + 12) : cdF ch I (u2 I c k v) := fun x q => u2r (by omega)
theorem sF_cdF (hc : chk ch) {I' : Nat → Nat → Int32} (h : cdF ch I I') : sF ch I I' := by
  have hcc : ch = 13 ∨ ch = 27 := hc
  exact ⟨fun x _ _ _ q => h x (by omega), fC_r (h 2 (by omega))⟩
theorem put_u (hc : chk ch) {v : Int32} (hu : u ≤ 1616) (h1 : I (ch + 9) 1 = nI u) : ∃ I' u', X3_put (ch + 9) v (hp I L ρ) = some (none, hp I' L ρ) ∧ cdF ch I I' ∧ u' ≤ 1616 ∧ I' (ch + 9) 1 = nI u' := by
  have e := put_at (L := L) (ρ := ρ) (chk_cd hc) hu h1 v
  by_cases c : u < 1616
  · rw [if_pos c] at e
    exact ⟨_, u + 1, e, cdF_tr (cdF_u (by omega)) (cdF_u (by omega)), by omega, by rw [u2_ap, if_pos ⟨rfl, rfl⟩]⟩
  · rw [if_neg c] at e
    exact ⟨I, u, e, cdF_0, hu, h1⟩
theorem fall_u (hc : chk ch) (hw : w < 3) {v2 v3 v4 : Int32} (hU : kU ch I) : ∃ I', X1_fallBack ch (nI w) v2 v3 v4 (hp I L ρ) = some (none, hp I' L ρ) ∧ cdF ch I I' ∧ kU ch I' := by
  obtain ⟨hs, u, hu, h1⟩ := hU
  have eh : ∃ y, X3_holds (ch + 9) (nI w) (hp I L ρ) = some (some (.int y), hp I L ρ) := by
    unfold X3_holds
    rw [cc_g2 hc, ck_l11 hc hw, h_if]
    by_cases c : I (ch + 11) w = -1
    · rw [if_pos c]; exact ⟨0, rfl⟩
    · rw [if_neg c]; exact ⟨1, rfl⟩
  obtain ⟨y, ey⟩ := eh
  unfold X1_fallBack
  rw [ck_g11 hc, cc_rc hc, h_ci ey, h_if]
  by_cases c : y = 0
  · rw [if_pos c]
    have eB : X3_begin (ch + 9) (nI w) (hp I L ρ) = some (none, hp (u2 I (ch + 11) w (nI u)) L ρ) := by
      unfold X3_begin
      rw [cc_g2 hc, cc_gi hc, h1, ck_s11 hc hw]; rfl
    obtain ⟨I2, u2', a1, a2, a3, a4⟩ := put_u (L := L) (ρ := ρ) (v := v2) (I := u2 I (ch + 11) w (nI u)) hc hu (by rw [u2r (by omega)]; exact h1)
    obtain ⟨I3, u3, b1, b2, b3, b4⟩ := put_u (L := L) (ρ := ρ) (v := v3) hc a3 a4
    obtain ⟨I4, u4, c1, c2, c3, c4⟩ := put_u (L := L) (ρ := ρ) (v := v4) hc b3 b4
    have eF : X3_finish (ch + 9) (nI w) (hp I4 L ρ) = some (none, hp (u2 I4 (ch + 12) w (nI u4)) L ρ) := by
      unfold X3_finish
      rw [cc_g3 hc, cc_gi hc, c4, ck_s12 hc hw]; rfl
    have hF : cdF ch I (u2 I4 (ch + 12) w (nI u4)) := cdF_tr (cdF_u (by omega)) (cdF_tr a2 (cdF_tr b2 (cdF_tr c2 (cdF_u (by omega)))))
    refine ⟨_, ?_, hF, spX_fr (hF _ (by omega)) (hF _ (by omega)) (hF _ (by omega)) hs, u4, c3, by rw [u2r (by omega)]; exact c4⟩
    rw [ck_g11 hc, cc_rc hc, h_cv eB, ck_g11 hc, cc_rc hc, h_cv a1, ck_g11 hc, cc_rc hc, h_cv b1, ck_g11 hc, cc_rc hc, h_cv c1, ck_g11 hc, cc_rc hc, h_cv eF]; rfl
  · rw [if_neg c]
    exact ⟨I, rfl, cdF_0, hs, u, hu, h1⟩
theorem X1_complete_u (hc : chk ch) (hU : kU ch I) : ∃ I', X1_complete ch (hp I L ρ) = some (none, hp I' L ρ) ∧ cdF ch I I' ∧ kU ch I' := by
  obtain ⟨I1, a1, a2, a3⟩ := fall_u (L := L) (ρ := ρ) (w := 0) (v2 := 10002) (v3 := 10000) (v4 := 20001) hc (by omega) hU
  obtain ⟨I2, b1, b2, b3⟩ := fall_u (L := L) (ρ := ρ) (w := 1) (v2 := 10006) (v3 := 8) (v4 := 20007) hc (by omega) a3
  obtain ⟨I3, c1, c2, c3⟩ := fall_u (L := L) (ρ := ρ) (w := 2) (v2 := 10000) (v3 := 1) (v4 := 20001) hc (by omega) b3
  refine ⟨I3, ?_, cdF_tr a2 (cdF_tr b2 c2), c3⟩
  unfold X1_complete
  rw [ck_rc hc, show X1_fallBack ch 0 10002 10000 20001 = X1_fallBack ch (nI 0) 10002 10000 20001 from rfl, h_cv a1, ck_rc hc, show X1_fallBack ch 1 10006 8 20007 = X1_fallBack ch (nI 1) 10006 8 20007 from rfl, h_cv b1, ck_rc hc, show X1_fallBack ch 2 10000 1 20001 = X1_fallBack ch (nI 2) 10000 1 20001 from rfl, h_cv c1]; rfl
def n_fb (S : nT) (w : Nat) (l : List Nat) : nT := if n_cd S w = none then n_st S w l else S
theorem fall_s (hc : chk ch) (hw : w < 3) {c0 c1 c2 : Nat} (hC : kC ch I S u) (hu : u + 3 ≤ 1616) : ∃ I' u', X1_fallBack ch (nI w) (nI c0) (nI c1) (nI c2) (hp I L ρ) = some (none, hp I' L ρ) ∧ cdF ch I I' ∧ kC ch I' (n_fb S w [c0, c1, c2]) u' ∧ u' ≤ u + 3 := by
  unfold X1_fallBack n_fb
  rw [ck_g11 hc, cc_rc hc, h_ci (X3_holds_h hc hw hC (by omega)), h_if]
  by_cases c : n_cd S w = none
  · rw [decide_eq_false (fun z => z c), bF, if_pos rfl, if_pos c]
    have eB : X3_begin (ch + 9) (nI w) (hp I L ρ) = some (none, hp (u2 I (ch + 11) w (nI u)) L ρ) := by
      unfold X3_begin
      rw [cc_g2 hc, cc_gi hc, hC.1, ck_s11 hc hw]; rfl
    have e1 := put_at (L := L) (ρ := ρ) (I := u2 I (ch + 11) w (nI u)) (chk_cd hc) (show u ≤ 1616 by omega) (by rw [u2r (by omega)]; exact hC.1) (nI c0)
    rw [if_pos (by omega)] at e1
    have e2 := put_at (L := L) (ρ := ρ) (I := u2 (u2 (u2 I (ch + 11) w (nI u)) (ch + 9 + 1) u (nI c0)) (ch + 9) 1 (nI (u + 1))) (chk_cd hc) (show u + 1 ≤ 1616 by omega) (by rw [u2_ap, if_pos ⟨rfl, rfl⟩]) (nI c1)
    rw [if_pos (by omega)] at e2
    have e3 := put_at (L := L) (ρ := ρ) (I := u2 (u2 (u2 (u2 (u2 I (ch + 11) w (nI u)) (ch + 9 + 1) u (nI c0)) (ch + 9) 1 (nI (u + 1))) (ch + 9 + 1) (u + 1) (nI c1)) (ch + 9) 1 (nI (u + 1 + 1))) (chk_cd hc) (show u + 1 + 1 ≤ 1616 by omega) (by rw [u2_ap, if_pos ⟨rfl, rfl⟩]) (nI c2)
    rw [if_pos (by omega)] at e3
    have hF : cdF ch I (u2 (u2 (u2 (u2 (u2 (u2 (u2 I (ch + 11) w (nI u)) (ch + 9 + 1) u (nI c0)) (ch + 9) 1 (nI (u + 1))) (ch + 9 + 1) (u + 1) (nI c1)) (ch + 9) 1 (nI (u + 1 + 1))) (ch + 9 + 1) (u + 1 + 1) (nI c2)) (ch + 9) 1 (nI (u + 1 + 1 + 1))) := cdF_tr (cdF_u (by omega)) (cdF_tr (cdF_u (by omega)) (cdF_tr (cdF_u (by omega)) (cdF_tr (cdF_u (by omega)) (cdF_tr (cdF_u (by omega)) (cdF_tr (cdF_u (by omega)) (cdF_u (by omega)))))))
    have g1 : (u2 (u2 (u2 (u2 (u2 (u2 (u2 I (ch + 11) w (nI u)) (ch + 9 + 1) u (nI c0)) (ch + 9) 1 (nI (u + 1))) (ch + 9 + 1) (u + 1) (nI c1)) (ch + 9) 1 (nI (u + 1 + 1))) (ch + 9 + 1) (u + 1 + 1) (nI c2)) (ch + 9) 1 (nI (u + 1 + 1 + 1))) (ch + 9) 1 = nI (u + 3) := by rw [u2_ap, if_pos ⟨rfl, rfl⟩]
    have g2 : ∀ j, (u2 (u2 (u2 (u2 (u2 (u2 (u2 I (ch + 11) w (nI u)) (ch + 9 + 1) u (nI c0)) (ch + 9) 1 (nI (u + 1))) (ch + 9 + 1) (u + 1) (nI c1)) (ch + 9) 1 (nI (u + 1 + 1))) (ch + 9 + 1) (u + 1 + 1) (nI c2)) (ch + 9) 1 (nI (u + 1 + 1 + 1))) (ch + 11) j = if j = w then nI u else I (ch + 11) j := fun j => by
      rw [u2r (by omega), u2r (by omega), u2r (by omega), u2r (by omega), u2r (by omega), u2r (by omega), u2_ap]
      by_cases z : j = w
      · rw [if_pos ⟨rfl, z⟩, if_pos z]
      · rw [if_neg (fun y => z y.2), if_neg z]
    have g3 : ∀ j, (u2 (u2 (u2 (u2 (u2 (u2 (u2 I (ch + 11) w (nI u)) (ch + 9 + 1) u (nI c0)) (ch + 9) 1 (nI (u + 1))) (ch + 9 + 1) (u + 1) (nI c1)) (ch + 9) 1 (nI (u + 1 + 1))) (ch + 9 + 1) (u + 1 + 1) (nI c2)) (ch + 9) 1 (nI (u + 1 + 1 + 1))) (ch + 10) j = if j = u then nI c0 else if j = u + 1 then nI c1 else if j = u + 1 + 1 then nI c2 else I (ch + 10) j := fun j => by
      rw [u2r (by omega), u2_ap, u2r (by omega), u2_ap, u2r (by omega), u2_ap, u2r (by omega)]
      by_cases z1 : j = u + 1 + 1
      · rw [if_pos ⟨by omega, z1⟩, if_neg (by omega), if_neg (by omega), if_pos z1]
      · rw [if_neg (fun y => z1 y.2)]
        by_cases z2 : j = u + 1
        · rw [if_pos ⟨by omega, z2⟩, if_neg (by omega), if_pos z2]
        · rw [if_neg (fun y => z2 y.2)]
          by_cases z3 : j = u
          · rw [if_pos ⟨by omega, z3⟩, if_pos z3]
          · rw [if_neg (fun y => z3 y.2), if_neg z3, if_neg z2, if_neg z1]
    have g4 : ∀ j, (u2 (u2 (u2 (u2 (u2 (u2 (u2 I (ch + 11) w (nI u)) (ch + 9 + 1) u (nI c0)) (ch + 9) 1 (nI (u + 1))) (ch + 9 + 1) (u + 1) (nI c1)) (ch + 9) 1 (nI (u + 1 + 1))) (ch + 9 + 1) (u + 1 + 1) (nI c2)) (ch + 9) 1 (nI (u + 1 + 1 + 1))) (ch + 12) j = I (ch + 12) j := fun j => by rw [u2r (by omega), u2r (by omega), u2r (by omega), u2r (by omega), u2r (by omega), u2r (by omega), u2r (by omega)]
    rw [ck_g11 hc, cc_rc hc, h_cv eB, ck_g11 hc, cc_rc hc, h_cv e1, ck_g11 hc, cc_rc hc, h_cv e2, ck_g11 hc, cc_rc hc, h_cv e3]
    generalize (u2 (u2 (u2 (u2 (u2 (u2 (u2 I (ch + 11) w (nI u)) (ch + 9 + 1) u (nI c0)) (ch + 9) 1 (nI (u + 1))) (ch + 9 + 1) (u + 1) (nI c1)) (ch + 9) 1 (nI (u + 1 + 1))) (ch + 9 + 1) (u + 1 + 1) (nI c2)) (ch + 9) 1 (nI (u + 1 + 1 + 1))) = J at hF g1 g2 g3 g4
    have eF : X3_finish (ch + 9) (nI w) (hp J L ρ) = some (none, hp (u2 J (ch + 12) w (nI (u + 3))) L ρ) := by
      unfold X3_finish
      rw [cc_g3 hc, cc_gi hc, g1, ck_s12 hc hw]; rfl
    refine ⟨u2 J (ch + 12) w (nI (u + 3)), u + 3, ?_, cdF_tr hF (cdF_u (by omega)), ⟨by rw [u2r (by omega)]; exact g1, fun w' hw' => ?_⟩, Nat.le_refl _⟩
    · rw [ck_g11 hc, cc_rc hc, h_cv eF]; rfl
    · show match upn (n_cd S) w (some [c0, c1, c2]) w' with
        | none => u2 J (ch + 12) w (nI (u + 3)) (ch + 11) w' = -1
        | some l => ∃ q, u2 J (ch + 12) w (nI (u + 3)) (ch + 11) w' = nI q ∧ u2 J (ch + 12) w (nI (u + 3)) (ch + 12) w' = nI (q + l.length) ∧ q + l.length ≤ u + 3 ∧ ∀ i, i < l.length → u2 J (ch + 12) w (nI (u + 3)) (ch + 10) (q + i) = nI (l.getD i 0)
      rw [u2r (show ch + 11 ≠ ch + 12 by omega), u2r (show ch + 10 ≠ ch + 12 by omega), g2]
      by_cases z : w' = w
      · rw [z, upn_s, if_pos rfl]
        refine ⟨u, rfl, by rw [u2_ap, if_pos ⟨rfl, rfl⟩]; rfl, Nat.le_refl _, fun i hi => ?_⟩
        have hi : i < 3 := hi
        rw [g3]
        rcases (show i = 0 ∨ i = 1 ∨ i = 2 by omega) with rfl | rfl | rfl
        · rw [if_pos (by omega)]; rfl
        · rw [if_neg (by omega), if_pos (by omega)]; rfl
        · rw [if_neg (by omega), if_neg (by omega), if_pos (by omega)]; rfl
      · rw [upn_n z, if_neg z]
        have hO := hC.2 w' hw'
        rcases t : n_cd S w' with _ | l
        · rw [t] at hO; exact hO
        · rw [t] at hO
          obtain ⟨q', o1, o2, o3, o4⟩ := hO
          refine ⟨q', o1, by rw [u2_ap, if_neg (fun y => z y.2), g4]; exact o2, by omega, fun i hi => ?_⟩
          rw [g3, if_neg (by omega), if_neg (by omega), if_neg (by omega)]
          exact o4 i hi
  · rw [decide_eq_true c, if_neg (show ¬ bI true = 0 by decide), if_neg c]
    exact ⟨I, u, rfl, cdF_0, hC, by omega⟩
def n_dn (S : nT) : nT := n_fb (n_fb (n_fb S 0 (p_dflt 0)) 1 (p_dflt 1)) 2 (p_dflt 2)
theorem X1_complete_s (hc : chk ch) (hC : kC ch I S u) (hu : u ≤ 1600) : ∃ I' u', X1_complete ch (hp I L ρ) = some (none, hp I' L ρ) ∧ cdF ch I I' ∧ kC ch I' (n_dn S) u' ∧ u' ≤ 1609 := by
  obtain ⟨I1, u1, a1, a2, a3, a4⟩ := fall_s (L := L) (ρ := ρ) (w := 0) (c0 := 10002) (c1 := 10000) (c2 := 20001) hc (by omega) hC (by omega)
  obtain ⟨I2, u2', b1, b2, b3, b4⟩ := fall_s (L := L) (ρ := ρ) (w := 1) (c0 := 10006) (c1 := 8) (c2 := 20007) hc (by omega) a3 (by omega)
  obtain ⟨I3, u3, c1, c2, c3, c4⟩ := fall_s (L := L) (ρ := ρ) (w := 2) (c0 := 10000) (c1 := 1) (c2 := 20001) hc (by omega) b3 (by omega)
  refine ⟨I3, u3, ?_, cdF_tr a2 (cdF_tr b2 c2), c3, by omega⟩
  unfold X1_complete
  rw [ck_rc hc, show X1_fallBack ch 0 10002 10000 20001 = X1_fallBack ch (nI 0) (nI 10002) (nI 10000) (nI 20001) from rfl, h_cv a1, ck_rc hc, show X1_fallBack ch 1 10006 8 20007 = X1_fallBack ch (nI 1) (nI 10006) (nI 8) (nI 20007) from rfl, h_cv b1, ck_rc hc, show X1_fallBack ch 2 10000 1 20001 = X1_fallBack ch (nI 2) (nI 10000) (nI 1) (nI 20001) from rfl, h_cv c1]; rfl
end B8a
