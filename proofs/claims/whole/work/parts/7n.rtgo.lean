/-! the reference's test goes on behind a fact -/
section B7n
variable {I I0 : Nat → Nat → Int32} {L L0 : Nat → Nat → Int64} {ρ : zRh} {h : zH} {b : Nat → Nat} {n a x o bs kd : Nat} {V W W0 Q : List Nat}
def tG (I I' : Nat → Nat → Int32) (b : Nat → Nat) (n kd a : Nat) (t : mO) (v : Int32) : Prop := qF I I' ∧ ((v = 1 ∧ ∃ x W Q o, a < sk b n x ∧ t = .A (sk b n x) W Q o ∧ tP I' b n kd x W Q o) ∨ (v = 0 ∧ ((∃ k p, t = .f k p ∧ unM I' n k p) ∨ ∃ x W Q o, t = .e (sk b n x) W Q o ∧ tP I' b n kd x W Q o ∧ tHas W = false)))
theorem q_takes_0 (hS : qS I b n a V bs Q o) (hk : sk b n a = a) (hw : wdM I) {q : Nat} {w : List Nat} (hq : (q, w) ∈ wdL) (c : ¬ isW b n a w = true) : X12_takes 215 q (hp I L ρ) = some (some (.int 0), hp I L ρ) := by
  have e := q_takes_n (L := L) (ρ := ρ) hS hw hq (by rw [hk]; exact c)
  rw [hk, u2_self hS.1.2.2.1] at e
  exact e
theorem qk51 {I1 : Nat → Nat → Int32} (hkd : I 215 51 = nI kd ∧ kd < 4) (hF : qF I I1) : I1 215 51 = nI kd ∧ kd < 4 := ⟨by rw [hF.2.1 51 (by decide) (by decide) (by decide) (by decide) (by decide) (by decide) (by decide)]; exact hkd.1, hkd.2⟩
theorem tP_op {p : Nat → Bool} {v y : Nat} {I1 : Nat → Nat → Int32} {R : List Nat} (hP : tP I b n kd a W Q o) (hpp : ∀ x, p x = true → x = 10 ∨ x = 11 ∨ x = 12) (hv : v = 10 ∨ v = 11) (hF : qF I I1) (hR : cdR kd R Q) (hS : qS I1 b n y (v :: dw p W) 0 (R ++ tw p W) o) (hl : W.length + Q.length < sk b n y) : tP I1 b n kd y (v :: dw p W) (Q ++ (tw p W).map wc) o := by
  obtain ⟨-, hw, hkd, -, ho, hW⟩ := hP
  have h1 := tw_len (p := p) W
  have h2 := opn_dw (p := p) W
  refine ⟨⟨R ++ tw p W, cdR_app hR (cdR_wc (fun x hx => hpp x (tw_in hx).2)), hS⟩, wdM_q hw hF, qk51 hkd hF, ?_, ?_, fun x hx => ?_⟩
  · rw [List.length_append, List.length_map, List.length_cons]; omega
  · show (if v = 12 ∨ 20 ≤ v then 1 else 0) + opn (dw p W) ≤ o
    rw [if_neg (by omega)]; omega
  · rcases List.mem_cons.mp hx with q | q
    · omega
    · exact tW_dw hW x q
theorem goesT_76 (hP : tP I b n kd a W Q o) (hk : sk b n a = a) (hc : ¬ (t_c b n a = 93 ∧ tHas W = true)) : ∃ I' v, X12_qGoesOnTest_J76 215 (hp I L ρ) = some (some (.int v), hp I' L ρ) ∧ tG I I' b n kd a (tB b n a W Q o) v := by
  have hP0 := hP
  obtain ⟨⟨R, hR, hS⟩, hw, hkd, hl, ho, hW⟩ := hP
  have hn := hS.1.1.2.1
  have han := hS.1.2.1
  have hRl := cdR_l hR
  rw [hk] at hl
  have q85 : (274, w_and) ∈ wdL := by decide +kernel
  have q86 : (275, w_or) ∈ wdL := by decide +kernel
  unfold X12_qGoesOnTest_J76 tB
  rw [if_neg hc, gr_215_85, rc_215]
  by_cases c1 : isW b n a w_and = true
  · obtain ⟨I1, r1, r2, r3⟩ := q_takes_y (L := L) (ρ := ρ) hS hw q85 (by rw [hk]; exact c1)
    rw [hk] at r3
    have r3 : qS I1 b n (a + 3) W 0 R o := r3
    have hlt := r3.1.2.1
    have hg := sk_ge (b := b) (n := n) (a := a + 3)
    obtain ⟨I2, s1, s2, s3⟩ := t_dr87 (L := L) (ρ := ρ) W R zFU I1 r3 (by unfold zFU; omega) (by omega)
    rw [if_pos c1, h_ci r1, h_if, if_neg (by decide)]
    have hF := qF_tr (qF_fx r2) s2
    exact ⟨I2, 1, s1, hF, Or.inl ⟨rfl, a + 3, _, _, _, by omega, rfl, tP_op hP0 (fun x hx => Or.inl (of_decide_eq_true hx)) (Or.inl rfl) hF hR s3 (by omega)⟩⟩
  rw [if_neg c1, h_ci (q_takes_0 hS hk hw q85 c1), h_if, if_pos rfl, gr_215_86, rc_215]
  by_cases c2 : isW b n a w_or = true
  · obtain ⟨I1, r1, r2, r3⟩ := q_takes_y (L := L) (ρ := ρ) hS hw q86 (by rw [hk]; exact c2)
    rw [hk] at r3
    have r3 : qS I1 b n (a + 2) W 0 R o := r3
    have hlt := r3.1.2.1
    have hg := sk_ge (b := b) (n := n) (a := a + 2)
    obtain ⟨I2, s1, s2, s3⟩ := t_dr137 (L := L) (ρ := ρ) W R zFU I1 r3 (by unfold zFU; omega) (by omega)
    rw [if_pos c2, h_ci r1, h_if, if_neg (by decide)]
    have hF := qF_tr (qF_fx r2) s2
    exact ⟨I2, 1, s1, hF, Or.inl ⟨rfl, a + 2, _, _, _, by omega, rfl, tP_op hP0 (fun x hx => by have := of_decide_eq_true hx; omega) (Or.inr rfl) hF hR s3 (by omega)⟩⟩
  rw [if_neg c2, h_ci (q_takes_0 hS hk hw q86 c2), h_if, if_pos rfl, gi_215, h_if, if_pos hS.2.1, rc_215, h_ci (X12_qHasSquare_h hS), h_if]
  cases c3 : tHas W with
  | false =>
    rw [bF, if_pos rfl, h_rb0, if_neg (by decide)]
    exact ⟨I, 0, rfl, qF_0, Or.inr ⟨rfl, Or.inr ⟨a, W, Q, o, by rw [hk], hP0, c3⟩⟩⟩
  | true =>
    rw [if_neg (show ¬ bI true = 0 by decide), gi_215, hS.1.2.2.1, rc_215, h_cv (X12_fail_s hS.2.1 _ _), h_rb0, if_pos rfl]
    exact ⟨_, 0, rfl, qF_fx (fxM_56 (by decide)), Or.inr ⟨rfl, Or.inl ⟨1, a, rfl, by rw [u2_ap, if_neg (by omega), u2_ap, if_pos ⟨rfl, rfl⟩]; rfl, by omega, by rw [u2_ap, if_pos ⟨rfl, rfl⟩], by omega, a, han, by rw [u2_ap, if_neg (by omega), u2_ap, if_neg (by omega)]; exact hS.1.2.2.1⟩⟩⟩
theorem has_dw : ∀ {W : List Nat}, tHas W = true → dw p25 W = 25 :: (dw p25 W).tail
  | [], h => by cases h
  | v :: W, h => by
    have h2 : (decide (v = 25) || tHas W) = true := h
    by_cases c : v = 25
    · have e3 : tw p25 (v :: W) = [] := tw_hd (by unfold p25; rw [decide_eq_true c]; rfl)
      rw [dw_no e3, c]; rfl
    · have e4 : dw p25 (v :: W) = dw p25 W := if_pos (by unfold p25; rw [decide_eq_false c]; rfl)
      rw [decide_eq_false c] at h2
      rw [e4]
      exact has_dw h2
theorem tP_look (hP : tP I b n kd x W Q o) : tP (u2 I 215 2 (nI (sk b n x))) b n kd (sk b n x) W Q o := by
  obtain ⟨⟨R, hR, hS⟩, hw, hkd, hl, ho, hW⟩ := hP
  obtain ⟨hS1, hF1⟩ := q_look hS
  exact ⟨⟨R, hR, hS1⟩, wdM_q hw (qF_fx hF1), qk51 hkd (qF_fx hF1), by rw [sk_sk]; exact hl, ho, hW⟩
theorem goesT_lp : ∀ (m fuel x : Nat) (I : Nat → Nat → Int32) (W Q : List Nat) (o : Nat), m < fuel → n - sk b n x < m → tP I b n kd x W Q o → ∃ I' t v, z_fix (fun r x => X12_qGoesOnTest_B0 215 r ) fuel (()) (hp I L ρ) = some (some (.int v), hp I' L ρ) ∧ tr b n kd (.B (sk b n x) W Q o) t ∧ tG I I' b n kd (sk b n x) t v := by
  intro m
  induction m with
  | zero => intro fuel x I W Q o _ h; omega
  | succ m ih =>
    intro fuel x I W Q o hf hm hP
    obtain ⟨f, rfl⟩ : ∃ f, fuel = f + 1 := ⟨fuel - 1, by omega⟩
    have hi : ∀ (y : Nat) (I : Nat → Nat → Int32) (W Q : List Nat) (o : Nat), n - sk b n y < m → tP I b n kd y W Q o → ∃ I' t v, z_fix (fun r x => X12_qGoesOnTest_B0 215 r ) f (()) (hp I L ρ) = some (some (.int v), hp I' L ρ) ∧ tr b n kd (.B (sk b n y) W Q o) t ∧ tG I I' b n kd (sk b n y) t v := fun y I W Q o h1 h2 => ih f y I W Q o (by omega) h1 h2
    rw [h_fix]
    show ∃ I' t v, X12_qGoesOnTest_B0 215 _ (hp I L ρ) = _ ∧ _
    generalize z_fix (fun r x => X12_qGoesOnTest_B0 215 r ) f = rec at hi
    have hP1 := tP_look hP
    obtain ⟨⟨R0, hR0, hS⟩, -⟩ := hP
    have hn := hS.1.1.2.1
    have hb := tm_hb hS.1.1
    have hle := sk_le (b := b) hS.1.2.1
    have eL := X12_look_h (L := L) (ρ := ρ) hS.1
    have e93 := byI_c hb (j := sk b n x) (c := 93) (by omega)
    have hF01 := qF_fx (q_look hS).2
    have hsk : sk b n (sk b n x) = sk b n x := sk_sk
    unfold X12_qGoesOnTest_B0
    rw [gi_215, h_if, if_pos hS.2.1, rc_215, h_ci eL, h_if]
    generalize u2 I 215 2 (nI (sk b n x)) = I1 at hF01 hP1
    generalize sk b n x = a at hsk hle eL e93 hP1 hm
    have j76 : ¬ (t_c b n a = 93 ∧ tHas W = true) → ∃ I' t v, X12_qGoesOnTest_J76 215 (hp I1 L ρ) = some (some (.int v), hp I' L ρ) ∧ tr b n kd (.B a W Q o) t ∧ tG I I' b n kd a t v := by
      intro hc
      obtain ⟨I', v, s1, s2, s3⟩ := goesT_76 (L := L) (ρ := ρ) hP1 hsk hc
      exact ⟨I', _, v, s1, tr_st rfl tr_0, qF_tr hF01 s2, s3⟩
    by_cases c : t_c b n a = 93
    · have hP2 := hP1
      obtain ⟨⟨R, hR, hS1⟩, hw, hkd, hl, ho, hW⟩ := hP1
      rw [hsk] at hl
      rw [if_pos (show byI b n a = 93 from e93.mpr c), rc_215, h_ci (X12_qHasSquare_h hS1), h_if]
      cases c2 : tHas W with
      | false =>
        rw [bF, if_pos rfl]
        exact j76 (fun q => by rw [c2] at q; cases q.2)
      | true =>
        have hlt := t_c_in c (by omega)
        have hge := sk_ge (b := b) (n := n) (a := a + 1)
        have hRl := cdR_l hR
        obtain ⟨hS2, hF2⟩ := q_sign hS1 hlt (c40_no (by omega))
        obtain ⟨I3, r1, r2, r3⟩ := sq_33 (L := L) (ρ := ρ) (r0 := rec) W R zFU (u2 I1 215 2 (nI (a + 1))) hS2 c2 (by have := qS_l hS1; unfold zFU; omega)
        have hd := has_dw c2
        have h1 := tw_len (p := p25) W
        have h2 := opn_dw (p := p25) W
        have hWd := tW_dw (p := p25) hW
        have hst : tS b n kd (.B a W Q o) = tBe (sk b n (a + 1)) (dw p25 W).tail (Q ++ (tw p25 W).map wc) (o - 1) := by
          show tB b n a W Q o = _
          unfold tB
          rw [if_pos ⟨c, c2⟩]
        rw [hd] at h1 h2 hWd
        generalize (dw p25 W).tail = W1 at r3 h1 h2 hWd hst
        obtain ⟨p1, p2, p3⟩ := qS_pop r3
        have t1 := (qS_top r3).1
        have h3 : opn (25 :: W1) = 1 + opn W1 := rfl
        have p4 := qS_o (o' := o - 1) (by have := hS1.2.2.2.2.2.2.2; omega) p1
        have hF14 := qF_tr (qF_fx hF2) (qF_tr r2 (qF_tr (qF_u (k := 107) (v := nI W1.length) (by omega)) (qF_u (k := 108) (v := nI (o - 1)) (by omega))))
        have hF4 := qF_tr hF01 hF14
        have hR2 : cdR kd (R ++ tw p25 W) (Q ++ (tw p25 W).map wc) := cdR_app hR (cdR_wc (fun v hv => by
          have q1 := hW v (tw_in hv).1
          have q2 := (tw_in hv).2
          by_cases z : v = 25
          · unfold p25 at q2
            rw [decide_eq_true z] at q2; cases q2
          · omega))
        rw [List.length_cons] at h1
        obtain ⟨I5, s1, s2, W', Q', o', s3, s4⟩ := tBe_h (L := L) (ρ := ρ) (x := a + 1) (W := W1) (Q := Q ++ (tw p25 W).map wc) (o := o - 1) hR2 p4 (wdM_q hw hF14) (qk51 hkd hF14) (by rw [List.length_append, List.length_map]; omega) (by omega) (tW_tl hWd)
        obtain ⟨I6, t, v, u1, u2', u3, u4⟩ := hi (a + 1) I5 W' Q' o' (by omega) s4
        refine ⟨I6, t, v, ?_, tr_st (hst.trans s3) u2', qF_tr hF4 (qF_tr s2 u3), ?_⟩
        · rw [if_neg (show ¬ bI true = 0 by decide), gi_215, hS1.1.2.2.1, nI_1, pi_215, r1]
          unfold X12_qGoesOnTest_J49
          rw [gi_215, t1, nI_s1, pi_215, gi_215, p1.2.2.2.2.1, show (nI o : Int32) - 1 = nI (o - 1) by rw [show (1 : Int32) = nI 1 from rfl, pk_sub (by omega)], pi_215, rc_215, h_cv s1]
          exact u1
        · rcases u4 with ⟨w1, y, Wy, Qy, oy, w2, w3, w4⟩ | w
          · exact Or.inl ⟨w1, y, Wy, Qy, oy, by omega, w3, w4⟩
          · exact Or.inr w
    · rw [if_neg (show ¬ byI b n a = 93 from fun q => c (e93.mp q))]
      exact j76 (fun q => c q.1)
theorem X12_qGoesOnTest_h (hP : tP I b n kd x W Q o) : ∃ I' t v, X12_qGoesOnTest 215 (hp I L ρ) = some (some (.int v), hp I' L ρ) ∧ tr b n kd (.B (sk b n x) W Q o) t ∧ tG I I' b n kd (sk b n x) t v := goesT_lp (n + 1) zFU x I W Q o (by have := hP.1.choose_spec.2.1.1.2.1; unfold zFU; omega) (by omega) hP
end B7n
