/-! the reference reads a part -/
section B7a
variable {I I0 : Nat → Nat → Int32} {L L0 : Nat → Nat → Int64} {ρ : zRh} {h : zH} {b : Nat → Nat} {n a x o bs kd : Nat} {V W W0 Q : List Nat}
def opn : List Nat → Nat
  | [] => 0
  | v :: W => (if v = 12 ∨ 20 ≤ v then 1 else 0) + opn W
theorem opn_E : ∀ W : List Nat, (tw pE W).length + opn (dw pE W) = opn W
  | [] => rfl
  | v :: W => by
    by_cases c : 60 ≤ v
    · have e2 : pE v = true := decide_eq_true c
      have e3 : tw pE (v :: W) = v :: tw pE W := if_pos e2
      have e4 : dw pE (v :: W) = dw pE W := if_pos e2
      have := opn_E W
      rw [e3, e4, List.length_cons]
      show _ = (if v = 12 ∨ 20 ≤ v then 1 else 0) + opn W
      rw [if_pos (by omega)]; omega
    · have e3 : tw pE (v :: W) = [] := tw_hd (decide_eq_false c)
      rw [e3, dw_no e3]
      exact Nat.zero_add _
/-- a fault stands, and few codes -/
def unQ (I : Nat → Nat → Int32) (n k p : Nat) : Prop := unM I n k p ∧ ∃ c, c ≤ 1650 ∧ I 215 105 = nI c
theorem q105_2 {k1 k2 : Nat} {v w : Int32} (h1 : k1 ≠ 105) (h2 : k2 ≠ 105) (hS : qS I b n x V bs Q o) : ∃ c, c ≤ 1650 ∧ u2 (u2 I 215 k1 v) 215 k2 w 215 105 = nI c := ⟨Q.length, by have := qS_l hS; omega, by rw [u2_ap, if_neg (by omega), u2_ap, if_neg (by omega)]; exact hS.2.2.2.1.1⟩
theorem q105_3 {k1 k2 k3 : Nat} {v w z : Int32} (h1 : k1 ≠ 105) (h2 : k2 ≠ 105) (h3 : k3 ≠ 105) (hS : qS I b n x V bs Q o) : ∃ c, c ≤ 1650 ∧ u2 (u2 (u2 I 215 k1 v) 215 k2 w) 215 k3 z 215 105 = nI c := ⟨Q.length, by have := qS_l hS; omega, by rw [u2_ap, if_neg (by omega), u2_ap, if_neg (by omega), u2_ap, if_neg (by omega)]; exact hS.2.2.2.1.1⟩
/-- a formula of kind kd is being read -/
def qP (I : Nat → Nat → Int32) (b : Nat → Nat) (n kd x : Nat) (W W0 Q : List Nat) (o : Nat) : Prop := qS I b n x (W ++ W0) W0.length Q o ∧ wdM I ∧ (I 215 51 = nI kd ∧ kd < 4) ∧ (W ++ W0).length + Q.length ≤ x ∧ opn W ≤ o
/-- how it is, behind some of the reading -/
def qO (I I' : Nat → Nat → Int32) (b : Nat → Nat) (n kd : Nat) (W0 : List Nat) (t : mO) : Prop := qF I I' ∧ ((∃ k p, t = .f k p ∧ unQ I' n k p) ∨ ∃ x W Q o, t = .B (sk b n x) W Q o ∧ qP I' b n kd x W W0 Q o)
theorem unM_fr {I' : Nat → Nat → Int32} {k p : Nat} (h5 : I' 215 5 = I 215 5) (h6 : I' 215 6 = I 215 6) (h2 : I' 215 2 = I 215 2) (h : unM I n k p) : unM I' n k p := by
  unfold unM
  rw [h5, h6, h2]
  exact h
/-- behind a part -/
theorem q_part {I1 : Nat → Nat → Int32} {y c : Nat} {W Q : List Nat} (hF : qF I I1) (hS : qS I1 b n y (W ++ W0) W0.length Q o) (hw : wdM I) (hk : I 215 51 = nI kd ∧ kd < 4) (hl : (W ++ W0).length + Q.length < y) (ho : opn W ≤ o) : ∃ I', X12_qPartTold_J237 215 (nI c) 215 (hp I1 L ρ) = some (none, hp I' L ρ) ∧ qO I I' b n kd W0 (mBe (sk b n y) W (Q ++ [c]) o) := by
  have hn := hS.1.1.2.1
  have hyn := hS.1.2.1
  have hE := opn_E W
  obtain ⟨I2, r1, r2, r3⟩ := X12_qCode_h (L := L) (ρ := ρ) (c := c) (by omega) hS
  obtain ⟨I3, s1, s2, s3⟩ := X12_qEndsPart_h (L := L) (ρ := ρ) r3 (by omega)
  have hF3 := qF_tr hF (qF_tr r2 s2)
  refine ⟨I3, ?_, hF3, Or.inr ⟨y, dw pE W, Q ++ [c] ++ tw pE W, o - (tw pE W).length, rfl, s3, wdM_q hw hF3, ⟨by rw [hF3.2.1 51 (by decide) (by decide) (by decide) (by decide) (by decide) (by decide) (by decide)]; exact hk.1, hk.2⟩, ?_, by omega⟩⟩
  · unfold X12_qPartTold_J237
    rw [rc_215, h_cv r1, rc_215, h_cv s1]; rfl
  · have h1 := tw_len (p := pE) W
    rw [List.length_append] at hl
    rw [List.length_append, List.length_append, List.length_append]
    show (dw pE W).length + W0.length + (Q.length + 1 + (tw pE W).length) ≤ y
    omega
theorem X12_part_186 (hP : qP I b n kd a W W0 Q o) (hk : sk b n a = a) : ∃ I', X12_qPartTold_J186 215 (hp I L ρ) = some (none, hp I' L ρ) ∧ qO I I' b n kd W0 (match mPart b n kd a with | .inl e => .f e.1 e.2 | .inr q => mBe q.1 W (Q ++ [q.2]) o) := by
  obtain ⟨hS, hw, hkd, hl, ho⟩ := hP
  have hT := hS.1
  have hn := hT.1.2.1
  have han := hT.2.1
  have hs := hS.2.1
  have eW := X12_qWordOf_h (L := L) (ρ := ρ) (lo := 0) (hi := 12) hT hk hs hw hkd.1 hkd.2 (by omega) (by omega)
  unfold X12_qPartTold_J186
  rw [gi_215, h_if, if_pos hs, rc_215, show X12_qWordOf 215 0 12 = X12_qWordOf 215 (nI 0) (nI 12) from rfl, h_ci eW, h_if]
  have hpw := pw_wof (b := b) (n := n) (a := a) hkd.2
  rcases q : wof b n kd a 0 12 with _ | y
  · rw [q] at hpw
    rw [oI_none, if_pos rfl]
    unfold X12_qPartTold_J212
    rw [h_if, if_pos rfl, rc_215]
    rcases z : p_num b n 0 9999 a with ⟨k, p⟩ | ⟨v, e⟩
    · obtain ⟨I1, v, r1, r2, r3, r4⟩ := X12_num_no (L := L) (ρ := ρ) hT hs (lo := 0) (hi := 9999) (by omega) (by omega) (by rw [hk]; exact z)
      have hF : qF I (u2 (u2 I1 293 Q.length (nI 1000 + nI v)) 215 105 (nI (Q.length + 1))) := qF_tr (qF_fx r2) (qF_tr qF_3 (qF_u (by omega)))
      have eC := X12_qCode_u (I := I1) (L := L) (ρ := ρ) (c := nI 1000 + nI v) (k := Q.length) (by rw [r2.2.1 105 (by decide) (by decide) (by decide) (by decide) (by decide) (by decide)]; exact hS.2.2.2.1.1) (by omega)
      have hU : unM (u2 (u2 I1 293 Q.length (nI 1000 + nI v)) 215 105 (nI (Q.length + 1))) n k p := unM_fr (by rw [u2_ap, if_neg (by omega), u2r (by omega)]) (by rw [u2_ap, if_neg (by omega), u2r (by omega)]) (by rw [u2_ap, if_neg (by omega), u2r (by omega)]) r3
      refine ⟨u2 (u2 I1 293 Q.length (nI 1000 + nI v)) 215 105 (nI (Q.length + 1)), ?_, hF, Or.inl ⟨k, p, ?_, hU, Q.length + 1, by have := qS_l hS; omega, by rw [u2_ap, if_pos ⟨rfl, rfl⟩]⟩⟩
      · rw [show X12_number 215 0 9999 = X12_number 215 (nI 0) (nI 9999) from rfl, h_ci r1]
        unfold X12_qPartTold_J237
        rw [rc_215, show (1000 : Int32) + nI v = nI 1000 + nI v from rfl, h_cv eC, rc_215, h_cv (X12_qEndsPart_u (unM_ne hU))]; rfl
      · by_cases c : isD (t_c b n a) = true
        · unfold mPart
          rw [if_pos c, z]
        · rw [mPart_n c hpw]
          unfold p_num at z
          rw [if_pos (Or.inl c)] at z
          cases z; rfl
    · obtain ⟨r1, r2⟩ := X12_num_ok (L := L) (ρ := ρ) hT hs (lo := 0) (hi := 9999) (v := v) (e := e) (by omega) (by omega) (by rw [hk]; exact z)
      rw [hk] at r1 r2
      have c : isD (t_c b n a) = true := by
        cases c : isD (t_c b n a) with
        | true => rfl
        | false =>
          unfold p_num at z
          rw [if_pos (Or.inl (by rw [c]; decide))] at z
          cases z
      have hge : a < e := by
        unfold p_num at z
        have := (t_n_in (b := b) (n := n) 3 (0 * 10 + (t_c b n a - 48)) (a + 1) (by have := isD_lt c; omega)).1.1
        have e4 : t_n b n 4 0 a = t_n b n 3 (0 * 10 + (t_c b n a - 48)) (a + 1) := if_pos c
        split at z
        · cases z
        · split at z
          · cases z
          · split at z
            · cases z
            · cases z
              rw [e4]; exact this
      have hF : fxM I (u2 (u2 (u2 I 215 2 (nI e)) 215 4 (nI e)) 215 10 (nI a)) := fxM_trans (fxM_trans (fxM_u (by omega)) (fxM_u (by omega))) (fxM_u (by omega))
      have hS1 := qS_fx hF r2 (by rw [u2_ap, if_neg (by omega), u2_ap, if_neg (by omega), m25]; exact hs) hS
      obtain ⟨I', s1, s2⟩ := q_part (L := L) (ρ := ρ) (c := 1000 + v) (qF_fx hF) hS1 hw hkd (by omega) ho
      refine ⟨I', ?_, ?_⟩
      · rw [show X12_number 215 0 9999 = X12_number 215 (nI 0) (nI 9999) from rfl, h_ci r1, show (1000 : Int32) = nI 1000 from rfl, nI_add]
        exact s1
      · have : mPart b n kd a = .inr (sk b n e, 1000 + v) := by
          unfold mPart
          rw [if_pos c, z]
        rw [this]
        exact s2
  · rw [q] at hpw
    obtain ⟨w1, w2, w3, w4, w5⟩ := wof_w q
    have hl1 := isW_le w1 han
    obtain ⟨I1, r1, r2, r3⟩ := X12_qAsksWord_h (L := L) (ρ := ρ) hS hk hw w2 w1
    have c : ¬ isD (t_c b n a) = true := fun c => by
      have := hl1.2.2
      have h0 := hl1.1
      have h2 := wl_L (b := b) (n := n) (a := a) (by omega) 0 (by omega)
      rw [Nat.add_zero] at h2
      rw [LD_no h2] at c
      cases c
    obtain ⟨I', s1, s2⟩ := q_part (L := L) (ρ := ρ) (c := 40 + y) (qF_fx r2) r3 hw hkd (by omega) ho
    refine ⟨I', ?_, ?_⟩
    · rw [oI_some, if_neg (nI_nm1 (by omega)), rc_215, h_cv r1]
      unfold X12_qPartTold_J212
      rw [h_if, if_neg (nI_nm1 (by omega)), show (40 : Int32) = nI 40 from rfl, nI_add]
      exact s1
    · rw [mPart_s c hpw]
      exact s2
end B7a
