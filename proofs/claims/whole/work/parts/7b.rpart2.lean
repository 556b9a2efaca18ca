/-! the reference reads a part, with what stands before it -/
section B7b
variable {I I0 : Nat → Nat → Int32} {L L0 : Nat → Nat → Int64} {ρ : zRh} {h : zH} {b : Nat → Nat} {n a x o bs kd : Nat} {V W W0 Q : List Nat}
theorem isW_D {w : List Nat} (h : isW b n a w = true) : ¬ isD (t_c b n a) = true := fun c => by
  obtain ⟨l1, l2, l3⟩ := isW_l h
  have hl := (isW_le h (by omega)).2.2
  have h2 := wl_L (b := b) (n := n) (a := a) (by omega) 0 (by omega)
  rw [Nat.add_zero] at h2
  rw [LD_no h2] at c
  cases c
theorem X12_qOpens_g {v : Int32} {p : Nat} (ho : 6 ≤ o) (hS : qS I b n x V bs Q o) : X12_qOpens 215 v (nI p) (hp I L ρ) = some (none, hp (u2 (u2 I 215 5 4) 215 6 (nI p)) L ρ) := by
  have h6 := hS.2.2.2.2.2.2.2
  unfold X12_qOpens
  rw [gi_215, h_if, if_pos hS.2.1, gi_215, hS.2.2.2.2.1, h_if, if_pos (show nI o = 6 by rw [show o = 6 by omega]; rfl), rc_215, h_cv (X12_fail_s hS.2.1 _ _)]; rfl
/-- a fault, and where the reference then stands -/
theorem unM_g {k p y : Nat} (h1 : 1 ≤ k) (h2 : k ≤ 5) (hp : p ≤ 2000) (hy : y ≤ n) (h5 : I 215 5 = nI k) (h6 : I 215 6 = nI p) (hx : I 215 2 = nI y) (hq : ∃ c, c ≤ 1650 ∧ I 215 105 = nI c) : unQ I n k p := ⟨⟨h5, ⟨h1, h2⟩, h6, hp, y, hy, hx⟩, hq⟩
theorem qP_at {I1 I2 : Nat → Nat → Int32} {y : Nat} (hw : wdM I) (hkd : I 215 51 = nI kd ∧ kd < 4) (hF : qF I I2) (hS : qS I2 b n y (W ++ W0) W0.length Q o) (hl : (W ++ W0).length + Q.length ≤ y) (ho : opn W ≤ o) : qP I2 b n kd y W W0 Q o := ⟨hS, wdM_q hw hF, ⟨by rw [hF.2.1 51 (by decide) (by decide) (by decide) (by decide) (by decide) (by decide) (by decide)]; exact hkd.1, hkd.2⟩, hl, ho⟩
/-- an opening sign is passed -/
theorem q_sign (hS : qS I b n a V bs Q o) (hl : a < n) (h0 : isD (t_c b n a) = false ∧ isL (t_c b n a) = false) : qS (u2 I 215 2 (nI (a + 1))) b n (a + 1) V bs Q o ∧ fxM I (u2 I 215 2 (nI (a + 1))) := by
  have hF : fxM I (u2 I 215 2 (nI (a + 1))) := fxM_u (by omega)
  exact ⟨qS_fx hF (tkM_sign hS.1 hl h0 (hF.1 216 (by decide)) (by rw [u2_ap, if_neg (by omega)]) m22 (by rw [u2_ap, if_neg (by omega)])) (by rw [m25]; exact hS.2.1) hS, hF⟩
theorem q_look (hS : qS I b n x V bs Q o) : qS (u2 I 215 2 (nI (sk b n x))) b n (sk b n x) V bs Q o ∧ fxM I (u2 I 215 2 (nI (sk b n x))) := by
  have hF : fxM I (u2 I 215 2 (nI (sk b n x))) := fxM_u (by omega)
  exact ⟨qS_fx hF (tkM_sk hS.1) (by rw [m25]; exact hS.2.1) hS, hF⟩
theorem c40_no {c : Nat} (h : c = 40 ∨ c = 41 ∨ c = 42 ∨ c = 43 ∨ c = 44 ∨ c = 45 ∨ c = 47 ∨ c = 91 ∨ c = 93 ∨ c = 60 ∨ c = 61 ∨ c = 62) : isD c = false ∧ isL c = false := by
  rcases h with rfl | rfl | rfl | rfl | rfl | rfl | rfl | rfl | rfl | rfl | rfl | rfl <;> decide
/-- behind min, max -/
theorem q_mm {I1 : Nat → Nat → Int32} {rec : Int32 → zM} {m v : Nat} {v4 : Int32} (hi : ∀ (y : Nat) (I : Nat → Nat → Int32) (W Q : List Nat) (o : Nat), n - y < m → qP I b n kd y W W0 Q o → ∃ I' t, rec 1 (hp I L ρ) = some (none, hp I' L ρ) ∧ mr b n kd (.A (sk b n y) W Q o) t ∧ qO I I' b n kd W0 t) (hu : ∀ I : Nat → Nat → Int32, ¬ I 215 5 = 0 → rec 1 (hp I L ρ) = some (none, hp I L ρ)) (hv : v4 = 0 ∧ v = 22 ∨ v4 = 1 ∧ v = 21) (hw : wdM I) (hkd : I 215 51 = nI kd ∧ kd < 4) (hF : qF I I1) (hS : qS I1 b n x (W ++ W0) W0.length Q o) (hm : n - x < m + 1) (hl : (W ++ W0).length + Q.length < x) (ho : opn W ≤ o) : ∃ I' t, X12_qPartTold_J101 rec 215 1 v4 (hp I1 L ρ) = some (none, hp I' L ρ) ∧ mr b n kd (mMM b n v (sk b n x) W Q o) t ∧ qO I I' b n kd W0 t := by
  have hn := hS.1.1.2.1
  have hb := tm_hb hS.1.1
  have hge := sk_ge (b := b) (n := n) (a := x)
  have hle := sk_le (b := b) hS.1.2.1
  obtain ⟨hS2, hF2⟩ := q_look hS
  have hx2 := hS2.1.2.2.1
  have hF02 := qF_tr hF (qF_fx hF2)
  have eL := X12_look_h (L := L) (ρ := ρ) hS.1
  have e40 := byI_c hb (j := sk b n x) (c := 40) (by omega)
  unfold X12_qPartTold_J101 mMM
  rw [rc_215, h_ci eL, h_if]
  generalize u2 I1 215 2 (nI (sk b n x)) = I2 at hS2 hF2 hx2 hF02
  have eS := X12_asksSign_s (L := L) (ρ := ρ) hS2.1 hS2.2.1 (c := 40) (by omega)
  rw [sk_sk] at eS
  by_cases c : t_c b n (sk b n x) = 40
  · have hlt := t_c_in c (by omega)
    rw [if_pos (show byI b n (sk b n x) = 40 from e40.mpr c), gi_215, hx2, if_pos c]
    unfold X12_qPartTold_J118 X12_qPartTold_J139 X12_qPartTold_J144 X12_qPartTold_J183 mOp
    rw [h_if, if_neg (nI_nm1 (by omega))]
    have key : ∃ I' t, (z_rc 12 215 (z_cv (X12_qOpens 215 (nI v) (nI (sk b n x))) (z_rc 12 215 (z_cv (X12_asksSign 215 40) (rec 1))))) (hp I2 L ρ) = some (none, hp I' L ρ) ∧ mr b n kd (if 6 ≤ o then .f 4 (sk b n x) else .A (sk b n (sk b n x + 1)) (v :: W) Q (o + 1)) t ∧ qO I I' b n kd W0 t := by
      by_cases c6 : 6 ≤ o
      · have eO := X12_qOpens_g (L := L) (ρ := ρ) (v := nI v) (p := sk b n x) c6 hS2
        have hU : unQ (u2 (u2 I2 215 5 4) 215 6 (nI (sk b n x))) n 4 (sk b n x) := unM_g (by omega) (by omega) (by omega) hle (by rw [u2_ap, if_neg (by omega), u2_ap, if_pos ⟨rfl, rfl⟩]; rfl) (by rw [u2_ap, if_pos ⟨rfl, rfl⟩]) (by rw [u2_ap, if_neg (by omega), u2_ap, if_neg (by omega)]; exact hx2) (q105_2 (by decide) (by decide) hS2)
        rw [if_pos c6, rc_215, h_cv eO, rc_215, h_cv (X12_asksSign_u (unM_ne hU.1) _), hu _ (unM_ne hU.1)]
        exact ⟨_, _, rfl, mr_0, qF_tr hF02 (qF_fx (fxM_56 (by decide))), Or.inl ⟨4, _, rfl, hU⟩⟩
      · obtain ⟨I3, r1, r2, r3⟩ := X12_qOpens_h (L := L) (ρ := ρ) (v := v) (p := nI (sk b n x)) (by omega) (by omega) (by omega) hS2
        have eS3 := X12_asksSign_s (L := L) (ρ := ρ) r3.1 r3.2.1 (c := 40) (by omega)
        rw [sk_sk, if_pos c] at eS3
        obtain ⟨hS4, hF4⟩ := q_sign r3 hlt (c40_no (Or.inl c))
        have hF04 := qF_tr hF02 (qF_tr r2 (qF_fx hF4))
        obtain ⟨I', t, s1, s2, s3, s4⟩ := hi (sk b n x + 1) _ (v :: W) Q (o + 1) (by omega) (qP_at (I1 := I1) hw hkd hF04 hS4 (by show (W ++ W0).length + 1 + Q.length ≤ _; omega) (by
          show (if v = 12 ∨ 20 ≤ v then 1 else 0) + opn W ≤ o + 1
          split <;> omega))
        rw [if_neg c6, rc_215, h_cv r1, rc_215, show (40 : Int32) = nI 40 from rfl, h_cv eS3]
        exact ⟨I', t, s1, s2, qF_tr hF04 s3, s4⟩
    rcases hv with ⟨z1, z2⟩ | ⟨z1, z2⟩
    · subst z1 z2
      rw [h_if, if_pos rfl]
      exact key
    · subst z1 z2
      rw [h_if, if_neg (by decide)]
      exact key
  · rw [if_neg (show ¬ byI b n (sk b n x) = 40 from fun q => c (e40.mp q)), if_neg c]
    rw [if_neg c] at eS
    unfold X12_qPartTold_J118 X12_qPartTold_J144 X12_qPartTold_J183
    have hU : unQ (u2 (u2 (u2 I2 215 2 (nI (sk b n x))) 215 5 1) 215 6 (nI (sk b n x))) n 1 (sk b n x) := unM_g (by omega) (by omega) (by omega) hle (by rw [u2_ap, if_neg (by omega), u2_ap, if_pos ⟨rfl, rfl⟩]; rfl) (by rw [u2_ap, if_pos ⟨rfl, rfl⟩]) (by rw [u2_ap, if_neg (by omega), u2_ap, if_neg (by omega), m22]) (q105_3 (by decide) (by decide) (by decide) hS2)
    rw [h_if, if_pos rfl, rc_215, show (40 : Int32) = nI 40 from rfl, h_cv eS, hu _ (unM_ne hU.1)]
    exact ⟨_, _, rfl, mr_0, qF_tr hF02 (qF_fx (fxM_trans (fxM_u (by omega)) (fxM_56 (by decide)))), Or.inl ⟨1, _, rfl, hU⟩⟩
end B7b
