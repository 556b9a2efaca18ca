/-! the reference reads a test -/
section B7o
variable {I I0 : Nat → Nat → Int32} {L L0 : Nat → Nat → Int64} {ρ : zRh} {h : zH} {b : Nat → Nat} {n a x o bs kd : Nat} {V W W0 Q : List Nat}
theorem q_asks_y (hS : qS I b n x V bs Q o) (hw : wdM I) {q : Nat} {w : List Nat} (hq : (q, w) ∈ wdL) (c : isW b n (sk b n x) w = true) : ∃ I', X12_asks 215 q (hp I L ρ) = some (none, hp I' L ρ) ∧ fxM I I' ∧ qS I' b n (sk b n x + w.length) V bs Q o := by
  obtain ⟨I', r1, r2, r3⟩ := q_takes_y (L := L) (ρ := ρ) hS hw hq c
  refine ⟨I', ?_, r2, r3⟩
  unfold X12_asks
  rw [gi_215, h_if, if_pos hS.2.1, rc_215, h_ci r1, h_if, if_neg (by decide)]; rfl
def tE (I I' : Nat → Nat → Int32) (b : Nat → Nat) (n kd : Nat) (t : mO) : Prop := qF I I' ∧ ((∃ k p, t = .f k p ∧ unM I' n k p) ∨ ∃ y W Q o, t = .e (sk b n y) W Q o ∧ ∃ R, cdR kd R (Q ++ W.map wc) ∧ qS I' b n y [] 0 R o ∧ R.length ≤ sk b n y)
theorem tA_91 (c : t_c b n a = 91) : tA b n kd a W Q o = mOp (sk b n (a + 1)) 25 a W Q o := by
  unfold tA
  rw [if_neg (fun q => (isW_93 q).2 c), if_pos c]
theorem tP_open {v y : Nat} {I1 : Nat → Nat → Int32} {R : List Nat} (hP : tP I b n kd a W Q o) (hv : v = 12 ∨ v = 25) (hF : qF I I1) (hR : cdR kd R Q) (hS : qS I1 b n y (v :: W) 0 R (o + 1)) (hl : W.length + Q.length < sk b n y) : tP I1 b n kd y (v :: W) Q (o + 1) := by
  obtain ⟨-, hw, hkd, -, ho, hW⟩ := hP
  refine ⟨⟨R, hR, hS⟩, wdM_q hw hF, qk51 hkd hF, ?_, ?_, fun x hx => ?_⟩
  · rw [List.length_cons]; omega
  · show (if v = 12 ∨ 20 ≤ v then 1 else 0) + opn W ≤ o + 1
    rw [if_pos (by omega)]; omega
  · rcases List.mem_cons.mp hx with q | q
    · omega
    · exact hW x q
theorem test_lp : ∀ (m fuel x : Nat) (I : Nat → Nat → Int32) (W Q : List Nat) (o : Nat), m < fuel → n - sk b n x < m → tP I b n kd x W Q o → ∃ I' t, z_fix (fun r x => X12_qTest_B2 215 r x) fuel 1 (hp I L ρ) = some (none, hp I' L ρ) ∧ tr b n kd (.A (sk b n x) W Q o) t ∧ tE I I' b n kd t := by
  intro m
  induction m with
  | zero => intro fuel x I W Q o _ h; omega
  | succ m ih =>
    intro fuel x I W Q o hf hm hP
    obtain ⟨f, rfl⟩ : ∃ f, fuel = f + 1 := ⟨fuel - 1, by omega⟩
    have hi : ∀ (y : Nat) (I : Nat → Nat → Int32) (W Q : List Nat) (o : Nat), n - sk b n y < m → tP I b n kd y W Q o → ∃ I' t, z_fix (fun r x => X12_qTest_B2 215 r x) f 1 (hp I L ρ) = some (none, hp I' L ρ) ∧ tr b n kd (.A (sk b n y) W Q o) t ∧ tE I I' b n kd t := fun y I W Q o h1 h2 => ih f y I W Q o (by omega) h1 h2
    have h0 : ∀ I : Nat → Nat → Int32, z_fix (fun r x => X12_qTest_B2 215 r x) f 0 (hp I L ρ) = z_fix (fun r x => X12_qTest_B110 215 r ) zFU (()) (hp I L ρ) := by
      intro I
      obtain ⟨g, rfl⟩ : ∃ g, f = g + 1 := ⟨f - 1, by omega⟩
      rw [h_fix]
      show X12_qTest_B2 215 _ 0 (hp I L ρ) = _
      unfold X12_qTest_B2
      rw [h_if, if_pos rfl]
    have hu : ∀ (I : Nat → Nat → Int32) (k p : Nat), unM I n k p → z_fix (fun r x => X12_qTest_B2 215 r x) f 1 (hp I L ρ) = some (none, hp I L ρ) := by
      intro I k p hU
      obtain ⟨g, rfl⟩ : ∃ g, f = g + 1 := ⟨f - 1, by omega⟩
      rw [h_fix]
      show X12_qTest_B2 215 _ 1 (hp I L ρ) = _
      unfold X12_qTest_B2
      rw [h_if, if_neg (by decide), gi_215, h_if, if_neg (unM_ne hU)]
      exact t_110u (f := zFU - 1) hU
    rw [h_fix]
    show ∃ I' t, X12_qTest_B2 215 _ 1 (hp I L ρ) = _ ∧ _
    generalize z_fix (fun r x => X12_qTest_B2 215 r x) f = rec at hi h0 hu
    have hP1 := tP_look hP
    obtain ⟨⟨R0, hR0, hS⟩, -⟩ := hP
    have hn := hS.1.1.2.1
    have hb := tm_hb hS.1.1
    have hle := sk_le (b := b) hS.1.2.1
    have eL := X12_look_h (L := L) (ρ := ρ) hS.1
    have e91 := byI_c hb (j := sk b n x) (c := 91) (by omega)
    have hF01 := qF_fx (q_look hS).2
    have hsk : sk b n (sk b n x) = sk b n x := sk_sk
    unfold X12_qTest_B2
    rw [h_if, if_neg (by decide), gi_215, h_if, if_pos hS.2.1, rc_215, h_ci eL, h_if]
    generalize u2 I 215 2 (nI (sk b n x)) = I1 at hF01 hP1
    generalize sk b n x = a at hsk hle eL e91 hP1 hm
    have hP2 := hP1
    obtain ⟨⟨R, hR, hS1⟩, hw, hkd, hl, ho, hW⟩ := hP1
    rw [hsk] at hl
    have hRl := cdR_l hR
    have hx1 := hS1.1.2.2.1
    by_cases c : t_c b n a = 91
    · have hlt := t_c_in c (by omega)
      have hge := sk_ge (b := b) (n := n) (a := a + 1)
      have hst : tS b n kd (.A a W Q o) = mOp (sk b n (a + 1)) 25 a W Q o := tA_91 c
      rw [if_pos (show byI b n a = 91 from e91.mpr c), gi_215, hx1, rc_215]
      unfold mOp at hst
      by_cases c6 : 6 ≤ o
      · rw [if_pos c6] at hst
        have hU : unM (u2 (u2 (u2 I1 215 5 4) 215 6 (nI a)) 215 2 (nI (a + 1))) n 4 a := ⟨by rw [u2_ap, if_neg (by omega), u2_ap, if_neg (by omega), u2_ap, if_pos ⟨rfl, rfl⟩]; rfl, by omega, by rw [u2_ap, if_neg (by omega), u2_ap, if_pos ⟨rfl, rfl⟩], by omega, a + 1, by omega, by rw [u2_ap, if_pos ⟨rfl, rfl⟩]⟩
        rw [show X12_qOpens 215 25 (nI a) = X12_qOpens 215 (nI 25) (nI a) from rfl, h_cv (X12_qOpens_g c6 hS1), gi_215, u2_ap, if_neg (by omega), u2_ap, if_neg (by omega), hx1, nI_1, pi_215, hu _ _ _ hU]
        exact ⟨_, _, rfl, tr_st hst tr_0, qF_tr hF01 (qF_fx (fxM_trans (fxM_56 (by decide)) (fxM_u (by omega)))), Or.inl ⟨4, a, rfl, hU⟩⟩
      · rw [if_neg c6] at hst
        obtain ⟨I2, r1, r2, r3⟩ := X12_qOpens_h (L := L) (ρ := ρ) (v := 25) (p := nI a) (by omega) (by omega) (by omega) hS1
        obtain ⟨hS3, hF3⟩ := q_sign r3 hlt (c40_no (by omega))
        have hF13 := qF_tr r2 (qF_fx hF3)
        obtain ⟨I4, t, s1, s2, s3⟩ := hi (a + 1) _ (25 :: W) Q (o + 1) (by omega) (tP_open hP2 (Or.inr rfl) hF13 hR hS3 (by omega))
        rw [show X12_qOpens 215 25 (nI a) = X12_qOpens 215 (nI 25) (nI a) from rfl, h_cv r1, gi_215, r3.1.2.2.1, nI_1, pi_215]
        exact ⟨I4, t, s1, tr_st hst s2, qF_tr hF01 (qF_tr hF13 s3.1), s3.2⟩
    rw [if_neg (show ¬ byI b n a = 91 from fun q => c (e91.mp q)), gr_215_84, rc_215]
    have q84 : (273, w_not) ∈ wdL := by decide +kernel
    rw [h_ci (X12_here_k hS1.1 hsk hS1.2.1 hw q84), h_if]
    have hst0 : tS b n kd (.A a W Q o) = tA b n kd a W Q o := rfl
    unfold tA at hst0
    cases c2 : isW b n a w_not with
    | true =>
      obtain ⟨l1, l2, l3⟩ := isW_l c2
      have l1 : a + 3 ≤ n := l1
      have hge := sk_ge (b := b) (n := n) (a := a + 3)
      rw [if_pos c2] at hst0
      unfold mOp at hst0
      rw [if_neg (show ¬ bI true = 0 by decide), gi_215, hx1, rc_215]
      by_cases c6 : 6 ≤ o
      · rw [if_pos c6] at hst0
        have hU : unM (u2 (u2 I1 215 5 4) 215 6 (nI a)) n 4 a := ⟨by rw [u2_ap, if_neg (by omega), u2_ap, if_pos ⟨rfl, rfl⟩]; rfl, by omega, by rw [u2_ap, if_pos ⟨rfl, rfl⟩], by omega, a, by omega, by rw [u2_ap, if_neg (by omega), u2_ap, if_neg (by omega)]; exact hx1⟩
        rw [show X12_qOpens 215 12 (nI a) = X12_qOpens 215 (nI 12) (nI a) from rfl, h_cv (X12_qOpens_g c6 hS1), gr_215_84, rc_215, h_cv (X12_asks_u (unM_ne hU)), hu _ _ _ hU]
        exact ⟨_, _, rfl, tr_st hst0 tr_0, qF_tr hF01 (qF_fx (fxM_56 (by decide))), Or.inl ⟨4, a, rfl, hU⟩⟩
      · rw [if_neg c6] at hst0
        obtain ⟨I2, r1, r2, r3⟩ := X12_qOpens_h (L := L) (ρ := ρ) (v := 12) (p := nI a) (by omega) (by omega) (by omega) hS1
        obtain ⟨I3, g1, g2, g3⟩ := q_asks_y (L := L) (ρ := ρ) r3 (wdM_q hw r2) q84 (by rw [hsk]; exact c2)
        rw [hsk] at g3
        have hF13 := qF_tr r2 (qF_fx g2)
        obtain ⟨I4, t, s1, s2, s3⟩ := hi (a + 3) I3 (12 :: W) Q (o + 1) (by omega) (tP_open hP2 (Or.inl rfl) hF13 hR g3 (by omega))
        rw [show X12_qOpens 215 12 (nI a) = X12_qOpens 215 (nI 12) (nI a) from rfl, h_cv r1, gr_215_84, rc_215, h_cv g1]
        exact ⟨I4, t, s1, tr_st hst0 s2, qF_tr hF01 (qF_tr hF13 s3.1), s3.2⟩
    | false =>
      rw [if_neg (by rw [c2]; decide), if_neg c] at hst0
      have ho6 := hS1.2.2.2.2.2.2.2
      obtain ⟨g1, g2⟩ := X12_qFact_h (L := L) (ρ := ρ) (m := 60) (tW_14 hW) hS1 hw hkd (by rw [hsk]; omega) (by unfold pc; omega)
      rw [hsk] at g1 g2
      rw [bF, if_pos rfl, rc_215]
      rcases q1 : p_fct b n kd 60 o a with e | q
      · obtain ⟨I2, r1, r2, r3⟩ := g1 e q1
        rw [q1] at hst0
        rw [h_cv r1, rc_215, h_cv (X12_qDropsNots_u (unM_ne r3)), gi_215, h_if, if_neg (unM_ne r3)]
        unfold X12_qTest_J105 X12_qTest_J106
        rw [h0]
        exact ⟨I2, _, t_110u (f := zFU - 1) r3, tr_st hst0 tr_0, qF_tr hF01 r2, Or.inl ⟨e.1, e.2, rfl, r3⟩⟩
      · obtain ⟨hgr, I2, y, R1, r1, r2, r3, r4, r5, r6⟩ := g2 q q1
        rw [q1] at hst0
        have hR1l := cdR_l r3
        rw [List.length_append] at r6
        obtain ⟨I3, s1, s2, W', Q', o', s3, s4⟩ := tBe_h (L := L) (ρ := ρ) (cdR_app hR r3) r5 (wdM_q hw r2) (qk51 hkd r2) (by rw [List.length_append]; omega) ho hW
        have hst1 : tS b n kd (.A a W Q o) = .B (sk b n y) W' Q' o' := by
          rw [hst0, ← s3, r4]
        obtain ⟨I4, t, v, u1, u2', u3, u4⟩ := X12_qGoesOnTest_h (L := L) (ρ := ρ) s4
        have hF04 := qF_tr hF01 (qF_tr r2 (qF_tr s2 u3))
        have htr := tr_st hst1 u2'
        rw [h_cv r1, rc_215, h_cv s1, gi_215, h_if, if_pos s4.1.choose_spec.2.2.1, rc_215, h_ci u1, h_if]
        unfold X12_qTest_J105 X12_qTest_J106
        rcases u4 with ⟨rfl, z, Wz, Qz, oz, w2, w3, w4⟩ | ⟨rfl, ⟨k, p, w2, w3⟩ | ⟨z, Wz, Qz, oz, w2, w3, w4⟩⟩
        · rw [if_neg (by decide)]
          subst w3
          have hzn := sk_le (b := b) w4.1.choose_spec.2.1.2.1
          obtain ⟨I5, t5, k1, k2, k3⟩ := hi z I4 Wz Qz oz (by omega) w4
          exact ⟨I5, t5, k1, tr_tr htr k2, qF_tr hF04 k3.1, k3.2⟩
        · rw [if_pos rfl, h0]
          exact ⟨I4, t, t_110u (f := zFU - 1) w3, htr, hF04, Or.inl ⟨k, p, w2, w3⟩⟩
        · rw [if_pos rfl, h0]
          obtain ⟨⟨Rz, z1, z2⟩, -, -, z3, -, z5⟩ := w3
          have z6 := cdR_l z1
          obtain ⟨I5, k1, k2, k3⟩ := t_dr110 (L := L) (ρ := ρ) Wz Rz zFU I4 z2 (by have := qS_l z2; unfold zFU; omega)
          refine ⟨I5, t, k1, htr, qF_tr hF04 k2, Or.inr ⟨z, Wz, Qz, oz, w2, Rz ++ Wz, cdR_app z1 (cdR_wc (fun v hv => ?_)), k3, by rw [List.length_append]; omega⟩⟩
          rcases z5 v hv with q | q | q | q
          · omega
          · omega
          · omega
          · exfalso
            have : tHas Wz = true := by
              unfold tHas
              rw [List.any_eq_true]
              exact ⟨v, hv, decide_eq_true q⟩
            rw [w4] at this
            cases this
theorem X12_qTest_h {m : Nat} (hS : qS I b n x [] 0 [] 0) (hw : wdM I) (hkd : I 215 51 = nI kd ∧ kd < 4) (hm : pc 0 0 ≤ m) : (∀ e, pq b n kd m 0 0 (sk b n x) 0 0 = .inl e → ∃ I', X12_qTest 215 (hp I L ρ) = some (none, hp I' L ρ) ∧ qF I I' ∧ unM I' n e.1 e.2) ∧ ∀ q, pq b n kd m 0 0 (sk b n x) 0 0 = .inr q → ∃ I' y R, X12_qTest 215 (hp I L ρ) = some (none, hp I' L ρ) ∧ qF I I' ∧ cdR kd R q.2 ∧ sk b n y = q.1 ∧ qS I' b n y [] 0 R 0 := by
  have hn := hS.1.1.2.1
  have hle := sk_le (b := b) hS.1.2.1
  have hP : tP I b n kd x [] [] 0 := ⟨⟨[], ⟨rfl, fun r hr => by cases hr⟩, hS⟩, hw, hkd, Nat.zero_le _, Nat.zero_le _, fun v hv => by cases hv⟩
  obtain ⟨I', t, r1, r2, r3, r4⟩ := test_lp (L := L) (ρ := ρ) (n + 1) zFU x I [] [] 0 (by unfold zFU; omega) (by omega) hP
  obtain ⟨h1, h2⟩ := T_test (b := b) (n := n) (kd := kd) hm (show 0 ≤ 6 by omega) hle
  have hz : mZ t := by
    rcases r4 with ⟨k, p, e, -⟩ | ⟨y, W1, Q1, o1, e, -⟩
    · rw [e]; show 2 ≤ 3; omega
    · rw [e]; show 2 ≤ 2; omega
  refine ⟨fun e he => ?_, fun q hq => ?_⟩
  · have ht := tr_u r2 (h1 e he) hz (show 2 ≤ 3 by omega)
    rcases r4 with ⟨k, p, e2, hU⟩ | ⟨y, W1, Q1, o1, e2, -⟩
    · rw [e2] at ht
      have q1 : k = e.1 := congrArg (fun c : mO => c.2.2.2.2) ht
      have q2 : p = e.2 := congrArg (fun c : mO => c.2.1) ht
      exact ⟨I', r1, r3, by rw [← q1, ← q2]; exact hU⟩
    · rw [e2] at ht
      exact absurd (congrArg (fun c : mO => c.1) ht) (by show ¬ (2 : Nat) = 3; omega)
  · obtain ⟨R, M, hR, -, hr⟩ := h2 q hq
    have ht := tr_u r2 hr hz (show 2 ≤ 2 by omega)
    rcases r4 with ⟨k, p, e2, hU⟩ | ⟨y, W1, Q1, o1, e2, Ry, s1, s2, s3⟩
    · rw [e2] at ht
      exact absurd (congrArg (fun c : mO => c.1) ht) (by show ¬ (3 : Nat) = 2; omega)
    · rw [e2] at ht
      have q1 : sk b n y = q.1 := congrArg (fun c : mO => c.2.1) ht
      have q2 : W1 = M := congrArg (fun c : mO => c.2.2.1) ht
      have q3 : Q1 = R := congrArg (fun c : mO => c.2.2.2.1) ht
      have q4 : o1 = 0 := congrArg (fun c : mO => c.2.2.2.2) ht
      subst q2 q3 q4
      rw [hR] at s1
      exact ⟨I', y, Ry, r1, r3, s1, q1, s2⟩
end B7o
