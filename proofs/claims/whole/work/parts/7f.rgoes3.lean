/-! the reference goes on behind a part: closing brackets, the loop -/
section B7f
variable {I I0 : Nat → Nat → Int32} {L L0 : Nat → Nat → Int64} {ρ : zRh} {h : zH} {b : Nat → Nat} {n a x o bs kd : Nat} {V W W0 Q : List Nat}
theorem goes_115 {I1 : Nat → Nat → Int32} {rec : Unit → zM} {m y : Nat} (hi : ∀ (y : Nat) (I : Nat → Nat → Int32) (W Q : List Nat) (o : Nat), n - y < m → qP I b n kd y W W0 Q o → ∃ I' t v, rec () (hp I L ρ) = some (some (.int v), hp I' L ρ) ∧ mr b n kd (.B (sk b n y) W Q o) t ∧ qG I I' b n kd W0 t v) (hw : wdM I) (hkd : I 215 51 = nI kd ∧ kd < 4) (hF : qF I I1) (hS : qS I1 b n y (W ++ W0) W0.length Q o) (hm : n - y < m) (hl : (W ++ W0).length + Q.length ≤ y) (ho : opn W ≤ o) : ∃ I' t v, X12_qGoesOn_J115 rec 215 (hp I1 L ρ) = some (some (.int v), hp I' L ρ) ∧ mr b n kd (mBe (sk b n y) W Q o) t ∧ qG I I' b n kd W0 t v := by
  have hE := opn_E W
  have h1 := tw_len (p := pE) W
  obtain ⟨I2, r1, r2, r3⟩ := X12_qEndsPart_h (L := L) (ρ := ρ) hS (by omega)
  have hF2 := qF_tr hF r2
  obtain ⟨I', t, v, s1, s2, s3, s4⟩ := hi y I2 (dw pE W) (Q ++ tw pE W) (o - (tw pE W).length) hm (qP_at (I1 := I) hw hkd hF2 r3 (by
    rw [List.length_append] at hl
    rw [List.length_append, List.length_append]; omega) (by omega))
  unfold X12_qGoesOn_J115
  rw [rc_215, h_cv r1]
  exact ⟨I', t, v, s1, s2, qF_tr hF2 s3, s4⟩
theorem goes_112 {I1 : Nat → Nat → Int32} {rec : Unit → zM} {m y c : Nat} (hi : ∀ (y : Nat) (I : Nat → Nat → Int32) (W Q : List Nat) (o : Nat), n - y < m → qP I b n kd y W W0 Q o → ∃ I' t v, rec () (hp I L ρ) = some (some (.int v), hp I' L ρ) ∧ mr b n kd (.B (sk b n y) W Q o) t ∧ qG I I' b n kd W0 t v) (hw : wdM I) (hkd : I 215 51 = nI kd ∧ kd < 4) (hF : qF I I1) (hS : qS I1 b n y (W ++ W0) W0.length Q o) (hm : n - y < m) (hl : (W ++ W0).length + Q.length < y) (ho : opn W ≤ o) : ∃ I' t v, X12_qGoesOn_J112 rec 215 (nI c) 215 (hp I1 L ρ) = some (some (.int v), hp I' L ρ) ∧ mr b n kd (mBe (sk b n y) W (Q ++ [c]) o) t ∧ qG I I' b n kd W0 t v := by
  have hn := hS.1.1.2.1
  have hy := hS.1.2.1
  obtain ⟨I2, r1, r2, r3⟩ := X12_qCode_h (L := L) (ρ := ρ) (c := c) (by omega) hS
  unfold X12_qGoesOn_J112
  rw [rc_215, h_cv r1]
  exact goes_115 hi hw hkd (qF_tr hF r2) r3 hm (by rw [show (Q ++ [c]).length = Q.length + 1 from List.length_append ..]; show (W ++ W0).length + (Q.length + 1) ≤ y; omega) ho
theorem goes_43 {rec : Unit → zM} {m : Nat} (hi : ∀ (y : Nat) (I : Nat → Nat → Int32) (W Q : List Nat) (o : Nat), n - y < m → qP I b n kd y W W0 Q o → ∃ I' t v, rec () (hp I L ρ) = some (some (.int v), hp I' L ρ) ∧ mr b n kd (.B (sk b n y) W Q o) t ∧ qG I I' b n kd W0 t v) (hP : qP I b n kd a W W0 Q o) (hm : n - a < m + 1) (hc : t_c b n a = 41) (hb : mBr W = 20 ∨ mBr W = 23 ∨ mBr W = 24) : ∃ I' t v, X12_qGoesOn_J43 rec 215 (hp I L ρ) = some (some (.int v), hp I' L ρ) ∧ mr b n kd (mBe (sk b n (a + 1)) (dw pN W).tail (Q ++ tw pN W ++ (if mBr W = 20 then [] else if mBr W = 23 then [5] else [6])) (o - 1)) t ∧ qG I I' b n kd W0 t v := by
  obtain ⟨hS, hw, hkd, hl, ho⟩ := hP
  have hn := hS.1.1.2.1
  have hlt := t_c_in hc (by omega)
  obtain ⟨hS1, hF1⟩ := q_sign hS hlt (c40_no (by omega))
  obtain ⟨I2, r1, r2, r3⟩ := X12_qDropsToBracket_h (L := L) (ρ := ρ) hS1
  have hbr := br_ne (W := W) (by omega)
  have h1 := tw_len (p := pN) W
  have h2 := opn_dw (p := pN) W
  rw [hbr.2] at r3 h1 h2
  generalize (dw pN W).tail = W1 at r3 h1 h2
  have r3 : qS I2 b n (a + 1) (mBr W :: (W1 ++ W0)) W0.length (Q ++ tw pN W) o := r3
  have t1 := (qS_top r3).1
  obtain ⟨p1, p2, p3⟩ := qS_pop r3
  have h3 : opn (mBr W :: W1) = (if mBr W = 12 ∨ 20 ≤ mBr W then 1 else 0) + opn W1 := rfl
  rw [if_pos (by omega)] at h3
  have p4 := qS_o (o' := o - 1) (by have := hS.2.2.2.2.2.2.2; omega) p1
  have hF4 := qF_tr (qF_fx hF1) (qF_tr r2 (qF_tr (qF_u (k := 107) (v := nI (W1 ++ W0).length) (by omega)) (qF_u (k := 108) (v := nI (o - 1)) (by omega))))
  have hlen := qS_l p1
  have e6 : ∀ F : Int32 → zM, (z_gr 12 106 215 fun x4 => z_gi 12 107 215 fun x5 => z_la 20 x4 x5 F) (hp (u2 (u2 I2 215 107 (nI (W1 ++ W0).length)) 215 108 (nI (o - 1))) L ρ) = F (nI (mBr W)) (hp (u2 (u2 I2 215 107 (nI (W1 ++ W0).length)) 215 108 (nI (o - 1))) L ρ) := by
    intro F
    rw [gr_215_106, gi_215, p4.2.2.1.1, la_294 (by omega), u2r (by omega), u2r (by omega), p2]
  have hl2 : (W1 ++ W0).length + (Q ++ tw pN W).length < a + 1 := by
    rw [List.length_cons] at h1
    rw [List.length_append] at hl
    rw [List.length_append, List.length_append]
    omega
  unfold X12_qGoesOn_J43
  rw [gi_215, hS.1.2.2.1, nI_1, pi_215, rc_215, h_cv r1, gi_215, t1, nI_s1, pi_215, gi_215, p1.2.2.2.2.1, show (nI o : Int32) - 1 = nI (o - 1) by rw [show (1 : Int32) = nI 1 from rfl, pk_sub (by omega)], pi_215, e6, h_if]
  rcases hb with q | q | q
  · rw [if_pos (show nI (mBr W) = 20 by rw [q]; rfl), if_pos q, List.append_nil]
    exact goes_115 hi hw hkd hF4 p4 (by omega) (by omega) (by omega)
  · rw [if_neg (show ¬ nI (mBr W) = 20 by rw [q]; decide), e6, h_if, if_pos (show nI (mBr W) = 23 by rw [q]; rfl), if_neg (by omega), if_pos q]
    exact goes_112 (c := 5) hi hw hkd hF4 p4 (by omega) hl2 (by omega)
  · rw [if_neg (show ¬ nI (mBr W) = 20 by rw [q]; decide), e6, h_if, if_neg (show ¬ nI (mBr W) = 23 by rw [q]; decide), if_neg (by omega), if_neg (by omega)]
    exact goes_112 (c := 6) hi hw hkd hF4 p4 (by omega) hl2 (by omega)
theorem X12_goes_lp (hW0 : tw p14 W0 = []) : ∀ (m fuel x : Nat) (I : Nat → Nat → Int32) (W Q : List Nat) (o : Nat), m < fuel → n - x < m → qP I b n kd x W W0 Q o → ∃ I' t v, z_fix (fun r x => X12_qGoesOn_B0 215 r ) fuel (()) (hp I L ρ) = some (some (.int v), hp I' L ρ) ∧ mr b n kd (.B (sk b n x) W Q o) t ∧ qG I I' b n kd W0 t v := by
  intro m
  induction m with
  | zero => intro fuel x I W Q o _ h; omega
  | succ m ih =>
    intro fuel x I W Q o hf hm hP
    obtain ⟨f, rfl⟩ : ∃ f, fuel = f + 1 := ⟨fuel - 1, by omega⟩
    have hi : ∀ (y : Nat) (I : Nat → Nat → Int32) (W Q : List Nat) (o : Nat), n - y < m → qP I b n kd y W W0 Q o → ∃ I' t v, z_fix (fun r x => X12_qGoesOn_B0 215 r ) f (()) (hp I L ρ) = some (some (.int v), hp I' L ρ) ∧ mr b n kd (.B (sk b n y) W Q o) t ∧ qG I I' b n kd W0 t v := fun y I W Q o h1 h2 => ih f y I W Q o (by omega) h1 h2
    rw [h_fix]
    show ∃ I' t v, X12_qGoesOn_B0 215 _ (hp I L ρ) = _ ∧ _
    generalize z_fix (fun r x => X12_qGoesOn_B0 215 r ) f = rec at hi
    obtain ⟨hS, hw, hkd, hl, ho⟩ := hP
    have hn := hS.1.1.2.1
    have hb := tm_hb hS.1.1
    have hge := sk_ge (b := b) (n := n) (a := x)
    have hle := sk_le (b := b) hS.1.2.1
    obtain ⟨hS1, hF1⟩ := q_look hS
    have eL := X12_look_h (L := L) (ρ := ρ) hS.1
    have e41 := byI_c hb (j := sk b n x) (c := 41) (by omega)
    have hF01 := qF_fx hF1
    have hP1 := qP_at (I := I) (I1 := I) hw hkd hF01 hS1 (by omega) ho
    have hsk : sk b n (sk b n x) = sk b n x := sk_sk
    unfold X12_qGoesOn_B0
    rw [gi_215, h_if, if_pos hS.2.1, rc_215, h_ci eL, h_if]
    generalize u2 I 215 2 (nI (sk b n x)) = I1 at hS1 hF1 hF01 hP1
    generalize sk b n x = a at hsk hge hle hS1 eL e41 hP1
    have j122 : ¬ (t_c b n a = 41 ∧ (mBr W = 20 ∨ mBr W = 23 ∨ mBr W = 24)) → ∃ I' t v, X12_qGoesOn_J122 215 (hp I1 L ρ) = some (some (.int v), hp I' L ρ) ∧ mr b n kd (.B a W Q o) t ∧ qG I I' b n kd W0 t v := by
      intro hc
      obtain ⟨I', v, s1, s2, s3⟩ := goes_122 (L := L) (ρ := ρ) hP1 hsk hW0 hc
      exact ⟨I', _, v, s1, mr_st rfl mr_0, qF_tr hF01 s2, s3⟩
    by_cases c : t_c b n a = 41
    · have j43 : (mBr W = 20 ∨ mBr W = 23 ∨ mBr W = 24) → ∃ I' t v, X12_qGoesOn_J43 rec 215 (hp I1 L ρ) = some (some (.int v), hp I' L ρ) ∧ mr b n kd (.B a W Q o) t ∧ qG I I' b n kd W0 t v := by
        intro hb
        obtain ⟨I', t, v, s1, s2, s3, s4⟩ := goes_43 hi hP1 (by omega) c hb
        refine ⟨I', t, v, s1, mr_st ?_ s2, qF_tr hF01 s3, s4⟩
        show mB b n a W Q o = _
        unfold mB
        rw [if_pos ⟨c, hb⟩]
      rw [if_pos (show byI b n a = 41 from e41.mpr c), rc_215, h_ci (X12_qBracket_h hS1), h_if]
      by_cases d1 : mBr W = 20
      · rw [if_pos (show brI W = 20 from (brI_eq (z := 20) (by omega)).mpr d1)]
        exact j43 (Or.inl d1)
      rw [if_neg (show ¬ brI W = 20 from fun q => d1 ((brI_eq (z := 20) (by omega)).mp q)), rc_215, h_ci (X12_qBracket_h hS1), h_if]
      by_cases d2 : mBr W = 23
      · rw [if_pos (show brI W = 23 from (brI_eq (z := 23) (by omega)).mpr d2)]
        exact j43 (Or.inr (Or.inl d2))
      rw [if_neg (show ¬ brI W = 23 from fun q => d2 ((brI_eq (z := 23) (by omega)).mp q)), rc_215, h_ci (X12_qBracket_h hS1), h_if]
      by_cases d3 : mBr W = 24
      · rw [if_pos (show brI W = 24 from (brI_eq (z := 24) (by omega)).mpr d3)]
        exact j43 (Or.inr (Or.inr d3))
      rw [if_neg (show ¬ brI W = 24 from fun q => d3 ((brI_eq (z := 24) (by omega)).mp q))]
      exact j122 (fun q => by have := q.2; omega)
    · rw [if_neg (show ¬ byI b n a = 41 from fun q => c (e41.mp q))]
      exact j122 (fun q => c q.1)
theorem X12_qGoesOn_h (hW0 : tw p14 W0 = []) (hP : qP I b n kd x W W0 Q o) : ∃ I' t v, X12_qGoesOn 215 (hp I L ρ) = some (some (.int v), hp I' L ρ) ∧ mr b n kd (.B (sk b n x) W Q o) t ∧ qG I I' b n kd W0 t v := X12_goes_lp hW0 (n + 1) zFU x I W Q o (by have := hP.1.1.1.2.1; unfold zFU; omega) (by omega) hP
end B7f
