/-! the reference goes on behind a part: signs and brackets -/
section B7e
variable {I I0 : Nat → Nat → Int32} {L L0 : Nat → Nat → Int64} {ρ : zRh} {h : zH} {b : Nat → Nat} {n a x o bs kd : Nat} {V W W0 Q : List Nat}
def qG (I I' : Nat → Nat → Int32) (b : Nat → Nat) (n kd : Nat) (W0 : List Nat) (t : mO) (v : Int32) : Prop := qF I I' ∧ ((v = 1 ∧ ∃ x W Q o, t = .A (sk b n x) W Q o ∧ qP I' b n kd x W W0 Q o) ∨ (v = 0 ∧ ((∃ k p, t = .f k p ∧ unQ I' n k p) ∨ ∃ x W Q o, t = .e (sk b n x) W Q o ∧ qP I' b n kd x W W0 Q o)))
theorem dw_hd {p : Nat → Bool} {z : Nat} {W1 : List Nat} : ∀ {W : List Nat}, dw p W = z :: W1 → p z = false
  | [], h => by cases h
  | v :: W, h => by
    have h2 : (if p v = true then dw p W else v :: W) = z :: W1 := h
    by_cases c : p v = true
    · rw [if_pos c] at h2; exact dw_hd h2
    · rw [if_neg c] at h2
      cases h2
      simpa using c
/-- the open bracket, and what lies under it -/
theorem br_ne (h : mBr W ≠ 0) : (20 ≤ mBr W ∧ mBr W ≤ 24) ∧ dw pN W = mBr W :: (dw pN W).tail := by
  unfold mBr at h ⊢
  rcases q : dw pN W with _ | ⟨z, W1⟩
  · rw [q] at h; exact absurd rfl h
  · have h1 := dw_hd q
    unfold pN at h1
    refine ⟨?_, rfl⟩
    show 20 ≤ z ∧ z ≤ 24
    by_cases c : 20 ≤ z ∧ z ≤ 24
    · exact c
    · rw [decide_eq_false c] at h1; cases h1
theorem brI_eq {z : Nat} (hz : 0 < z ∧ z < 100) : brI W = nI z ↔ mBr W = z := by
  unfold brI
  by_cases c : mBr W = 0
  · rw [if_pos c]
    exact ⟨fun q => absurd q.symm (nI_nm1 (by omega)), fun q => by omega⟩
  · have := (br_ne c).1
    rw [if_neg c]
    exact nI_inj (by omega) (by omega)
theorem brI_n : brI W = -1 ↔ mBr W = 0 := by
  unfold brI
  by_cases c : mBr W = 0
  · rw [if_pos c]; exact ⟨fun _ => c, fun _ => rfl⟩
  · have := (br_ne c).1
    rw [if_neg c]
    exact ⟨fun q => absurd q (nI_nm1 (by omega)), fun q => absurd q c⟩
theorem tk_n (hS : qS I b n a V bs Q o) (hk : sk b n a = a) {c : Nat} (hc : 0 < c ∧ c < 1000) (h : ¬ t_c b n a = c) : X12_takesSign 215 (nI c) (hp I L ρ) = some (some (.int 0), hp I L ρ) := by
  have e := X12_takesSign_s (L := L) (ρ := ρ) hS.1 hS.2.1 hc
  rw [hk, if_neg h, decide_eq_false h, bF, u2_self hS.1.2.2.1] at e
  exact e
theorem tk_y (hS : qS I b n a V bs Q o) (hk : sk b n a = a) {c : Nat} (hc : 0 < c ∧ c < 1000) (h : t_c b n a = c) : X12_takesSign 215 (nI c) (hp I L ρ) = some (some (.int 1), hp (u2 I 215 2 (nI (a + 1))) L ρ) := by
  have e := X12_takesSign_s (L := L) (ρ := ρ) hS.1 hS.2.1 hc
  rw [hk, if_pos h, decide_eq_true h] at e
  exact e
/-- what was passed -/
theorem la_last {F : Int32 → zM} (hS : qS I b n (a + 1) V bs Q o) (hl : a < n) : (z_gr 12 0 215 fun x1 => z_gi 12 2 215 fun x2 => z_la 20 x1 (x2 - 1) F) (hp I L ρ) = F (nI (t_c b n a)) (hp I L ρ) := by
  have hn := hS.1.1.2.1
  rw [gr_215_0, gi_215, hS.1.2.2.1, nI_s1, la_216 (by omega), (hS.1.1.2.2 a hl).2, t_c_lt hl]
theorem qS_set {v w : Nat} (hw : w < 100) (hS : qS I b n x (v :: V) bs Q o) : qS (u2 I 294 V.length (nI w)) b n x (w :: V) bs Q o := by
  obtain ⟨⟨v1, v2, v3⟩, ⟨q1, q2⟩, h3, h4, h5, h6⟩ := hS.2.2
  refine ⟨tkM_fr (u2r (by omega)) (by rw [u2r (by omega)]) (by rw [u2r (by omega)]) (by rw [u2r (by omega)]) hS.1, by rw [u2r (by omega)]; exact hS.2.1, ⟨by rw [u2r (by omega)]; exact v1, ⟨by rw [u2_ap, if_pos ⟨rfl, rfl⟩], stk_fr (fun i hi => by rw [u2_ap, if_neg (by omega)]) v2.2⟩, fun y hy => ?_⟩, ⟨by rw [u2r (by omega)]; exact q1, by rw [u2r (by omega)]; exact q2⟩, by rw [u2r (by omega)]; exact h3, by rw [u2r (by omega)]; exact h4, h5, h6⟩
  rcases List.mem_cons.mp hy with q | q
  · rw [q]; exact hw
  · exact v3 y (List.mem_cons_of_mem _ q)
/-- an operator, behind its sign -/
theorem q_op {p : Nat → Bool} {v : Nat} {I1 : Nat → Nat → Int32} (hP : qP I b n kd a W W0 Q o) (hW0 : tw p W0 = []) (hv : v < 12) (hF : qF I I1) (hS : qS I1 b n (a + 1) (v :: dw p (W ++ W0)) W0.length (Q ++ tw p (W ++ W0)) o) : qG I I1 b n kd W0 (.A (sk b n (a + 1)) (v :: dw p W) (Q ++ tw p W) o) 1 := by
  obtain ⟨-, hw, hkd, hl, ho⟩ := hP
  obtain ⟨e1, e2⟩ := twW hW0 W
  rw [e1, e2] at hS
  have h1 := tw_len (p := p) W
  have h2 := opn_dw (p := p) W
  refine ⟨hF, Or.inl ⟨rfl, a + 1, v :: dw p W, Q ++ tw p W, o, rfl, qP_at (I1 := I1) hw hkd hF hS ?_ ?_⟩⟩
  · rw [List.length_append] at hl
    rw [List.length_append, List.length_append]
    show (dw p W).length + 1 + W0.length + (Q.length + (tw p W).length) ≤ a + 1
    omega
  · show (if v = 12 ∨ 20 ≤ v then 1 else 0) + opn (dw p W) ≤ o
    rw [if_neg (by omega)]; omega
theorem goes_122 (hP : qP I b n kd a W W0 Q o) (hk : sk b n a = a) (hW0 : tw p14 W0 = []) (hc : ¬ (t_c b n a = 41 ∧ (mBr W = 20 ∨ mBr W = 23 ∨ mBr W = 24))) : ∃ I' v, X12_qGoesOn_J122 215 (hp I L ρ) = some (some (.int v), hp I' L ρ) ∧ qG I I' b n kd W0 (mB b n a W Q o) v := by
  have hP0 := hP
  obtain ⟨hS, hw, hkd, hl, ho⟩ := hP
  have hn := hS.1.1.2.1
  have han := hS.1.2.1
  have hVl : (W ++ W0).length = W.length + W0.length := List.length_append ..
  unfold mB X12_qGoesOn_J122
  rw [if_neg hc, rc_215, show (42 : Int32) = nI 42 from rfl, show (47 : Int32) = nI 47 from rfl, show (43 : Int32) = nI 43 from rfl, show (45 : Int32) = nI 45 from rfl]
  have sgn : ∀ c, (c = 42 ∨ c = 47 ∨ c = 43 ∨ c = 45) → t_c b n a = c → a < n ∧ qS (u2 I 215 2 (nI (a + 1))) b n (a + 1) (W ++ W0) W0.length Q o ∧ qF I (u2 I 215 2 (nI (a + 1))) := by
    intro c hc h
    have hlt := t_c_in h (by omega)
    obtain ⟨q1, q2⟩ := q_sign hS hlt (c40_no (by omega))
    exact ⟨hlt, q1, qF_fx q2⟩
  by_cases c1 : t_c b n a = 42
  · obtain ⟨hlt, hS1, hF1⟩ := sgn 42 (by omega) c1
    obtain ⟨I2, r1, r2, r3⟩ := X12_dr34 (L := L) (ρ := ρ) (v := 3) (by omega) (W ++ W0) Q zFU _ hS1 (by unfold zFU; omega) (by omega)
    rw [if_pos c1, h_ci (tk_y hS hk (by omega) c1), h_if, if_neg (by decide)]
    unfold X12_qGoesOn_J140
    rw [la_last hS1 hlt, h_if, c1, if_pos (show nI 42 = 42 from rfl)]
    exact ⟨I2, 1, r1, q_op hP0 (tw_34_14 hW0) (by omega) (qF_tr hF1 r2) r3⟩
  rw [if_neg c1, h_ci (tk_n hS hk (by omega) c1), h_if, if_pos rfl, rc_215]
  by_cases c2 : t_c b n a = 47
  · obtain ⟨hlt, hS1, hF1⟩ := sgn 47 (by omega) c2
    obtain ⟨I2, r1, r2, r3⟩ := X12_dr34 (L := L) (ρ := ρ) (v := 4) (by omega) (W ++ W0) Q zFU _ hS1 (by unfold zFU; omega) (by omega)
    rw [if_pos c2, h_ci (tk_y hS hk (by omega) c2), h_if, if_neg (by decide)]
    unfold X12_qGoesOn_J140
    rw [la_last hS1 hlt, h_if, c2, if_neg (by decide)]
    exact ⟨I2, 1, r1, q_op hP0 (tw_34_14 hW0) (by omega) (qF_tr hF1 r2) r3⟩
  rw [if_neg c2, h_ci (tk_n hS hk (by omega) c2), h_if, if_pos rfl, rc_215]
  by_cases c3 : t_c b n a = 43
  · obtain ⟨hlt, hS1, hF1⟩ := sgn 43 (by omega) c3
    obtain ⟨I2, r1, r2, r3⟩ := X12_dr14 (L := L) (ρ := ρ) (v := 1) (by omega) (W ++ W0) Q zFU _ hS1 (by unfold zFU; omega) (by omega)
    rw [if_pos c3, h_ci (tk_y hS hk (by omega) c3), h_if, if_neg (by decide)]
    unfold X12_qGoesOn_J225
    rw [la_last hS1 hlt, h_if, c3, if_pos (show nI 43 = 43 from rfl)]
    exact ⟨I2, 1, r1, q_op hP0 hW0 (by omega) (qF_tr hF1 r2) r3⟩
  rw [if_neg c3, h_ci (tk_n hS hk (by omega) c3), h_if, if_pos rfl, rc_215]
  by_cases c4 : t_c b n a = 45
  · obtain ⟨hlt, hS1, hF1⟩ := sgn 45 (by omega) c4
    obtain ⟨I2, r1, r2, r3⟩ := X12_dr14 (L := L) (ρ := ρ) (v := 2) (by omega) (W ++ W0) Q zFU _ hS1 (by unfold zFU; omega) (by omega)
    rw [if_pos c4, h_ci (tk_y hS hk (by omega) c4), h_if, if_neg (by decide)]
    unfold X12_qGoesOn_J225
    rw [la_last hS1 hlt, h_if, c4, if_neg (by decide)]
    exact ⟨I2, 1, r1, q_op hP0 hW0 (by omega) (qF_tr hF1 r2) r3⟩
  rw [if_neg c4, h_ci (tk_n hS hk (by omega) c4), h_if, if_pos rfl, rc_215, h_ci (X12_qBracket_h hS), h_if]
  have comma : (mBr W = 21 ∨ mBr W = 22) → ∃ I' v, X12_qGoesOn_J326 215 (hp I L ρ) = some (some (.int v), hp I' L ρ) ∧ qG I I' b n kd W0 (if t_c b n a = 44 then .A (sk b n (a + 1)) ((mBr W + 2) :: (dw pN W).tail) (Q ++ tw pN W) o else .f 1 a) v := by
    intro hb
    have eS := X12_asksSign_s (L := L) (ρ := ρ) hS.1 hS.2.1 (c := 44) (by omega)
    rw [hk] at eS
    unfold X12_qGoesOn_J326
    by_cases c5 : t_c b n a = 44
    · have hlt := t_c_in c5 (by omega)
      obtain ⟨hS1, hF1⟩ := q_sign hS hlt (c40_no (by omega))
      obtain ⟨I2, r1, r2, r3⟩ := X12_qDropsToBracket_h (L := L) (ρ := ρ) hS1
      have hbr := br_ne (W := W) (by omega)
      have h1 := tw_len (p := pN) W
      have h2 := opn_dw (p := pN) W
      rw [hbr.2] at r3 h1 h2
      have r3 : qS I2 b n (a + 1) (mBr W :: ((dw pN W).tail ++ W0)) W0.length (Q ++ tw pN W) o := r3
      obtain ⟨t1, t2, t3, t4⟩ := qS_top r3
      have hF2 := qF_tr (qF_fx hF1) r2
      have hS3 := qS_set (w := mBr W + 2) (by omega) r3
      have hF3 : qF I (u2 I2 294 ((dw pN W).tail ++ W0).length (nI (mBr W + 2))) := qF_tr hF2 qF_4
      rw [if_pos c5] at eS ⊢
      rw [rc_215, show (44 : Int32) = nI 44 from rfl, h_cv eS, gi_215, h_if, if_pos hS1.2.1, rc_215, h_cv r1, gr_215_106, gi_215, t1, nI_s1, la_294 (by omega), t2, show (2 : Int32) = nI 2 from rfl, nI_add, sa_294 (by omega), h_rb1]
      refine ⟨_, _, rfl, hF3, Or.inl ⟨rfl, a + 1, (mBr W + 2) :: (dw pN W).tail, Q ++ tw pN W, o, rfl, qP_at (I1 := I) hw hkd hF3 hS3 ?_ ?_⟩⟩
      · rw [List.length_cons] at h1
        rw [List.length_append, List.length_append]
        show (dw pN W).tail.length + 1 + W0.length + (Q.length + (tw pN W).length) ≤ a + 1
        omega
      · have h3 : opn (mBr W :: (dw pN W).tail) = (if mBr W = 12 ∨ 20 ≤ mBr W then 1 else 0) + opn (dw pN W).tail := rfl
        show (if mBr W + 2 = 12 ∨ 20 ≤ mBr W + 2 then 1 else 0) + opn (dw pN W).tail ≤ o
        rw [if_pos (by omega)] at h3 ⊢
        omega
    · rw [if_neg c5] at eS ⊢
      have hU : unQ (u2 (u2 (u2 I 215 2 (nI a)) 215 5 1) 215 6 (nI a)) n 1 a := unM_g (by omega) (by omega) (by omega) han (by rw [u2_ap, if_neg (by omega), u2_ap, if_pos ⟨rfl, rfl⟩]; rfl) (by rw [u2_ap, if_pos ⟨rfl, rfl⟩]) (by rw [u2_ap, if_neg (by omega), u2_ap, if_neg (by omega), m22]) (q105_3 (by decide) (by decide) (by decide) hS)
      rw [rc_215, show (44 : Int32) = nI 44 from rfl, h_cv eS, gi_215, h_if, if_neg (unM_ne hU.1), h_rb0]
      exact ⟨_, _, rfl, qF_fx (fxM_trans (fxM_u (by omega)) (fxM_56 (by decide))), Or.inr ⟨rfl, Or.inl ⟨1, a, rfl, hU⟩⟩⟩
  by_cases d1 : mBr W = 21
  · rw [if_pos (show brI W = 21 from (brI_eq (z := 21) (by omega)).mpr d1), if_pos (Or.inl d1)]
    exact comma (Or.inl d1)
  rw [if_neg (show ¬ brI W = 21 from fun q => d1 ((brI_eq (z := 21) (by omega)).mp q)), rc_215, h_ci (X12_qBracket_h hS), h_if]
  by_cases d2 : mBr W = 22
  · rw [if_pos (show brI W = 22 from (brI_eq (z := 22) (by omega)).mpr d2), if_pos (Or.inr d2)]
    exact comma (Or.inr d2)
  rw [if_neg (show ¬ brI W = 22 from fun q => d2 ((brI_eq (z := 22) (by omega)).mp q)), rc_215, h_ci (X12_qBracket_h hS), h_if, if_neg (show ¬ (mBr W = 21 ∨ mBr W = 22) from by omega)]
  by_cases d3 : mBr W = 0
  · rw [if_pos (brI_n.mpr d3), if_pos d3, h_rb0]
    refine ⟨I, 0, rfl, qF_0, Or.inr ⟨rfl, Or.inr ⟨a, W, Q, o, by rw [hk], hP0⟩⟩⟩
  · have hU : unQ (u2 (u2 I 215 5 1) 215 6 (nI a)) n 1 a := unM_g (by omega) (by omega) (by omega) han (by rw [u2_ap, if_neg (by omega), u2_ap, if_pos ⟨rfl, rfl⟩]; rfl) (by rw [u2_ap, if_pos ⟨rfl, rfl⟩]) (by rw [u2_ap, if_neg (by omega), u2_ap, if_neg (by omega)]; exact hS.1.2.2.1) (q105_2 (by decide) (by decide) hS)
    rw [if_neg (fun q => d3 (brI_n.mp q)), if_neg d3, gi_215, h_if, if_pos hS.2.1, gi_215, hS.1.2.2.1, rc_215, h_cv (X12_fail_s hS.2.1 _ _), h_rb0]
    exact ⟨_, _, rfl, qF_fx (fxM_56 (by decide)), Or.inr ⟨rfl, Or.inl ⟨1, a, rfl, hU⟩⟩⟩
end B7e
