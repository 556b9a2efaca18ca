/-! the reference reads a part: its loop -/
section B7c
variable {I I0 : Nat → Nat → Int32} {L L0 : Nat → Nat → Int64} {ρ : zRh} {h : zH} {b : Nat → Nat} {n a x o bs kd : Nat} {V W W0 Q : List Nat}
theorem part_u {rec : Int32 → zM} (hs : ¬ I 215 5 = 0) : X12_qPartTold_B2 215 rec 1 (hp I L ρ) = some (none, hp I L ρ) := by
  unfold X12_qPartTold_B2 X12_qPartTold_J186
  rw [h_if, if_neg (by decide), gi_215, h_if, if_neg hs, gi_215, h_if, if_neg hs]; rfl
theorem part_0 {rec : Int32 → zM} : X12_qPartTold_B2 215 rec 0 (hp I L ρ) = X12_qPartTold_J186 215 (hp I L ρ) := by
  unfold X12_qPartTold_B2
  rw [h_if, if_pos rfl]
theorem X12_part_lp : ∀ (m fuel x : Nat) (I : Nat → Nat → Int32) (W Q : List Nat) (o : Nat), m < fuel → n - x < m → qP I b n kd x W W0 Q o → ∃ I' t, z_fix (fun r x => X12_qPartTold_B2 215 r x) fuel 1 (hp I L ρ) = some (none, hp I' L ρ) ∧ mr b n kd (.A (sk b n x) W Q o) t ∧ qO I I' b n kd W0 t := by
  intro m
  induction m with
  | zero => intro fuel x I W Q o _ h; omega
  | succ m ih =>
    intro fuel x I W Q o hf hm hP
    obtain ⟨f, rfl⟩ : ∃ f, fuel = f + 1 := ⟨fuel - 1, by omega⟩
    have hi : ∀ (y : Nat) (I : Nat → Nat → Int32) (W Q : List Nat) (o : Nat), n - y < m → qP I b n kd y W W0 Q o → ∃ I' t, z_fix (fun r x => X12_qPartTold_B2 215 r x) f 1 (hp I L ρ) = some (none, hp I' L ρ) ∧ mr b n kd (.A (sk b n y) W Q o) t ∧ qO I I' b n kd W0 t := fun y I W Q o h1 h2 => ih f y I W Q o (by omega) h1 h2
    have hu : ∀ I : Nat → Nat → Int32, ¬ I 215 5 = 0 → z_fix (fun r x => X12_qPartTold_B2 215 r x) f 1 (hp I L ρ) = some (none, hp I L ρ) := by
      intro I hs
      obtain ⟨g, rfl⟩ : ∃ g, f = g + 1 := ⟨f - 1, by omega⟩
      rw [h_fix]
      exact part_u hs
    have h0 : ∀ I : Nat → Nat → Int32, z_fix (fun r x => X12_qPartTold_B2 215 r x) f 0 (hp I L ρ) = X12_qPartTold_J186 215 (hp I L ρ) := by
      intro I
      obtain ⟨g, rfl⟩ : ∃ g, f = g + 1 := ⟨f - 1, by omega⟩
      rw [h_fix]
      exact part_0
    rw [h_fix]
    show ∃ I' t, X12_qPartTold_B2 215 _ 1 (hp I L ρ) = _ ∧ _
    generalize z_fix (fun r x => X12_qPartTold_B2 215 r x) f = rec at hi hu h0
    obtain ⟨hS, hw, hkd, hl, ho⟩ := hP
    have hn := hS.1.1.2.1
    have hb := tm_hb hS.1.1
    have hge := sk_ge (b := b) (n := n) (a := x)
    have hle := sk_le (b := b) hS.1.2.1
    obtain ⟨hS1, hF1⟩ := q_look hS
    have hx1 := hS1.1.2.2.1
    have eL := X12_look_h (L := L) (ρ := ρ) hS.1
    have e40 := byI_c hb (j := sk b n x) (c := 40) (by omega)
    have hst : ∀ t, mr b n kd (mA b n kd (sk b n x) W Q o) t → mr b n kd (.A (sk b n x) W Q o) t := fun t h => mr_st mS_A h
    have hF01 := qF_fx hF1
    have hw1 := wdM_q hw hF01
    have hkd1 : u2 I 215 2 (nI (sk b n x)) 215 51 = nI kd ∧ kd < 4 := ⟨by rw [hF01.2.1 51 (by decide) (by decide) (by decide) (by decide) (by decide) (by decide) (by decide)]; exact hkd.1, hkd.2⟩
    unfold X12_qPartTold_B2
    rw [h_if, if_neg (by decide), gi_215, h_if, if_pos hS.2.1, rc_215, h_ci eL, rc_215]
    generalize u2 I 215 2 (nI (sk b n x)) = I1 at hS1 hx1 hF1 hF01 hw1 hkd1
    have hsk : sk b n (sk b n x) = sk b n x := sk_sk
    generalize sk b n x = a at hsk hge hle hS1 hx1 eL e40 hst
    have eW := X12_qWordOf_h (L := L) (ρ := ρ) (lo := 12) (hi := 14) hS1.1 hsk hS1.2.1 hw1 hkd1.1 hkd1.2 (by omega) (by omega)
    rw [show X12_qWordOf 215 12 14 = X12_qWordOf 215 (nI 12) (nI 14) from rfl, h_ci eW, h_if]
    have eH : ∀ (q : Nat) (w : List Nat), (q, w) ∈ wdL → X12_isHere 215 q (hp I1 L ρ) = some (some (.int (bI (isW b n a w))), hp I1 L ρ) := fun q w hq => X12_here_k hS1.1 hsk hS1.2.1 hw1 hq
    by_cases c40 : t_c b n a = 40
    · have hlt := t_c_in c40 (by omega)
      have hD : ¬ isD (t_c b n a) = true := by rw [c40]; decide
      rw [if_pos (show byI b n a = 40 from e40.mpr c40), gi_215, hx1, rc_215]
      unfold mA mOp at hst
      rw [if_neg hD, if_pos c40] at hst
      by_cases c6 : 6 ≤ o
      · have eO := X12_qOpens_g (L := L) (ρ := ρ) (v := 20) (p := a) c6 hS1
        have hU : unQ (u2 (u2 (u2 I1 215 5 4) 215 6 (nI a)) 215 2 (nI (a + 1))) n 4 a := unM_g (by omega) (by omega) (by omega) (show a + 1 ≤ n by omega) (by rw [u2_ap, if_neg (by omega), u2_ap, if_neg (by omega), u2_ap, if_pos ⟨rfl, rfl⟩]; rfl) (by rw [u2_ap, if_neg (by omega), u2_ap, if_pos ⟨rfl, rfl⟩]) m22 (q105_3 (by decide) (by decide) (by decide) hS1)
        have e2 : u2 (u2 I1 215 5 4) 215 6 (nI a) 215 2 = nI a := by rw [u2_ap, if_neg (by omega), u2_ap, if_neg (by omega)]; exact hx1
        unfold X12_qPartTold_J183
        rw [if_pos c6] at hst
        rw [h_cv eO, gi_215, e2, nI_1, pi_215, hu _ (unM_ne hU.1)]
        exact ⟨_, _, rfl, hst _ mr_0, qF_tr hF01 (qF_fx (fxM_trans (fxM_56 (by decide)) (fxM_u (by omega)))), Or.inl ⟨4, _, rfl, hU⟩⟩
      · obtain ⟨I3, r1, r2, r3⟩ := X12_qOpens_h (L := L) (ρ := ρ) (v := 20) (p := nI a) (by omega) (by omega) (by omega) hS1
        obtain ⟨hS4, hF4⟩ := q_sign r3 hlt (c40_no (Or.inl c40))
        have hF04 := qF_tr hF01 (qF_tr r2 (qF_fx hF4))
        obtain ⟨I', t, s1, s2, s3, s4⟩ := hi (a + 1) _ (20 :: W) Q (o + 1) (by omega) (qP_at (I1 := I1) hw hkd hF04 hS4 (by show (W ++ W0).length + 1 + Q.length ≤ _; omega) (by
          show (if 20 = 12 ∨ 20 ≤ 20 then 1 else 0) + opn W ≤ o + 1
          rw [if_pos (by omega)]; omega))
        unfold X12_qPartTold_J183
        rw [if_neg c6] at hst
        rw [show X12_qOpens 215 20 (nI a) = X12_qOpens 215 (nI 20) (nI a) from rfl, h_cv r1, gi_215, r3.1.2.2.1, nI_1, pi_215]
        exact ⟨I', t, s1, hst _ s2, qF_tr hF04 s3, s4⟩
    · rw [if_neg (show ¬ byI b n a = 40 from fun q => c40 (e40.mp q)), gr_215_88, rc_215, h_ci (eH 277 w_min (by decide)), h_if]
      have hmin := X12_takes_s (L := L) (ρ := ρ) hS1.1 hS1.2.1 (q := 277) (wdM_R hw1 (w := w_min) (by decide)) (by decide)
      rw [hsk] at hmin
      have word : ∀ w, isW b n a w = true → w.length = 3 → qS (u2 (u2 I1 215 2 (nI (a + w.length))) 215 4 (nI (a + w.length))) b n (a + 3) (W ++ W0) W0.length Q o ∧ fxM I1 (u2 (u2 I1 215 2 (nI (a + w.length))) 215 4 (nI (a + w.length))) ∧ a + 3 ≤ n := by
        intro w hW h3
        have hl3 := isW_le hW hS1.1.2.1
        have hF2 : fxM I1 (u2 (u2 I1 215 2 (nI (a + w.length))) 215 4 (nI (a + w.length))) := fxM_trans (fxM_u (by omega)) (fxM_u (by omega))
        have hTW := tkM_word hS1.1 (by omega) (hF2.1 216 (by decide)) (hF2.2.1 3 (by decide) (by decide) (by decide) (by decide) (by decide) (by decide)) (by rw [u2_ap, if_neg (by omega), m22, hl3.2.2]) (by rw [u2_ap, if_pos ⟨rfl, rfl⟩, hl3.2.2])
        rw [hl3.2.2, h3] at hTW
        refine ⟨qS_fx hF2 ?_ (by rw [u2_ap, if_neg (by omega), m25]; exact hS1.2.1) hS1, hF2, by omega⟩
        rw [h3]; exact hTW
      by_cases c3 : isW b n a w_min = true
      · obtain ⟨hS2, hF2, h3n⟩ := word w_min c3 rfl
        unfold mA at hst
        rw [if_neg (isW_D c3), if_neg c40, if_pos c3] at hst
        rw [if_pos c3] at hmin
        obtain ⟨I', t, s1, s2, s3⟩ := q_mm (I := I) (v4 := 1) (v := 21) hi hu (Or.inr ⟨rfl, rfl⟩) hw hkd (qF_tr hF01 (qF_fx hF2)) hS2 (by omega) (by omega) ho
        rw [if_neg (by rw [c3]; decide)]
        unfold X12_qPartTold_J78
        rw [gr_215_88, rc_215, h_ci hmin, h_if, if_neg (by rw [c3]; decide), c3]
        exact ⟨I', t, s1, hst _ s2, s3⟩
      · have c3f : isW b n a w_min = false := by simpa using c3
        rw [if_neg c3, u2_self hx1] at hmin
        rw [if_pos (by rw [c3f]; rfl), gr_215_89, rc_215, h_ci (eH 278 w_max (by decide)), h_if]
        have hmax := X12_asks_s (L := L) (ρ := ρ) hS1.1 hS1.2.1 (q := 278) (wdM_R hw1 (w := w_max) (by decide)) (by decide)
        rw [hsk] at hmax
        by_cases c4 : isW b n a w_max = true
        · obtain ⟨hS2, hF2, h3n⟩ := word w_max c4 rfl
          unfold mA at hst
          rw [if_neg (isW_D c4), if_neg c40, if_neg c3, if_pos c4] at hst
          rw [if_pos c4] at hmax
          obtain ⟨I', t, s1, s2, s3⟩ := q_mm (I := I) (v4 := 0) (v := 22) hi hu (Or.inl ⟨rfl, rfl⟩) hw hkd (qF_tr hF01 (qF_fx hF2)) hS2 (by omega) (by omega) ho
          rw [if_neg (by rw [c4]; decide)]
          unfold X12_qPartTold_J78
          rw [gr_215_88, rc_215, h_ci hmin, c3f, bF, h_if, if_pos rfl, gr_215_89, rc_215, h_cv hmax]
          exact ⟨I', t, s1, hst _ s2, s3⟩
        · have c4f : isW b n a w_max = false := by simpa using c4
          rw [if_pos (by rw [c4f]; rfl), h_if]
          have hlk := wof_lk (b := b) (n := n) (a := a) hkd.2
          have ano : ∀ y v w, (y = 12 ∧ v = 60 ∨ y = 13 ∧ v = 61) → rws.getD y [] = w → w.length = 5 → isW b n a w = true → (∀ t, mr b n kd (mOp (sk b n (a + 5)) v a W Q o) t → mr b n kd (.A a W Q o) t) → ∃ I' t, z_rc 12 215 (z_cv (X12_qOpens 215 (nI v) (nI a)) (z_rc 12 215 (z_cv (X12_qAsksWord 215 (nI y)) (rec 1)))) (hp I1 L ρ) = some (none, hp I' L ρ) ∧ mr b n kd (.A a W Q o) t ∧ qO I I' b n kd W0 t := by
            intro y v w hy hyw h5 hW hst
            unfold mOp at hst
            have hl3 := isW_le hW hS1.1.2.1
            by_cases c6 : 6 ≤ o
            · have eO := X12_qOpens_g (L := L) (ρ := ρ) (v := nI v) (p := a) c6 hS1
              have hU : unQ (u2 (u2 I1 215 5 4) 215 6 (nI a)) n 4 a := unM_g (by omega) (by omega) (by omega) hle (by rw [u2_ap, if_neg (by omega), u2_ap, if_pos ⟨rfl, rfl⟩]; rfl) (by rw [u2_ap, if_pos ⟨rfl, rfl⟩]) (by rw [u2_ap, if_neg (by omega), u2_ap, if_neg (by omega)]; exact hx1) (q105_2 (by decide) (by decide) hS1)
              rw [if_pos c6] at hst
              rw [rc_215, h_cv eO, rc_215, h_cv (X12_qAsksWord_u (unM_ne hU.1) (by omega)), hu _ (unM_ne hU.1)]
              exact ⟨_, _, rfl, hst _ mr_0, qF_tr hF01 (qF_fx (fxM_56 (by decide))), Or.inl ⟨4, _, rfl, hU⟩⟩
            · obtain ⟨I3, r1, r2, r3⟩ := X12_qOpens_h (L := L) (ρ := ρ) (v := v) (p := nI a) (by omega) (by omega) (by omega) hS1
              obtain ⟨I4, q1, q2, q3⟩ := X12_qAsksWord_h (L := L) (ρ := ρ) r3 hsk (wdM_q hw1 r2) (show y < 14 by omega) (by rw [hyw]; exact hW)
              have hF04 := qF_tr hF01 (qF_tr r2 (qF_fx q2))
              obtain ⟨I', t, s1, s2, s3, s4⟩ := hi (a + wl b n a) I4 (v :: W) Q (o + 1) (by omega) (qP_at (I1 := I1) hw hkd hF04 q3 (by show (W ++ W0).length + 1 + Q.length ≤ _; omega) (by
                show (if v = 12 ∨ 20 ≤ v then 1 else 0) + opn W ≤ o + 1
                rw [if_pos (by omega)]; omega))
              rw [if_neg c6] at hst
              rw [hl3.2.2, h5] at s2
              rw [rc_215, h_cv r1, rc_215, h_cv q1]
              exact ⟨I', t, s1, hst _ s2, qF_tr hF04 s3, s4⟩
          by_cases c5 : kd = 3 ∧ isW b n a w_likes = true
          · rw [if_pos c5] at hlk
            unfold mA at hst
            rw [if_neg (isW_D c5.2), if_neg c40, if_neg c3, if_neg c4, if_pos c5] at hst
            rw [hlk, oI_some, if_neg (nI_nm1 (by omega)), gi_215, hx1]
            exact ano 12 60 w_likes (Or.inl ⟨rfl, rfl⟩) rfl rfl c5.2 hst
          · rw [if_neg c5] at hlk
            by_cases c6 : kd = 3 ∧ isW b n a w_knows = true
            · rw [if_pos c6] at hlk
              unfold mA at hst
              rw [if_neg (isW_D c6.2), if_neg c40, if_neg c3, if_neg c4, if_neg c5, if_pos c6] at hst
              rw [hlk, oI_some, if_neg (nI_nm1 (by omega)), gi_215, hx1]
              exact ano 13 61 w_knows (Or.inr ⟨rfl, rfl⟩) rfl rfl c6.2 hst
            · rw [if_neg c6] at hlk
              obtain ⟨I', s1, s2⟩ := X12_part_186 (L := L) (ρ := ρ) (qP_at (I := I1) (I1 := I1) hw1 hkd1 qF_0 hS1 (by omega) ho) hsk
              unfold mA at hst
              rw [if_neg c40, if_neg c3, if_neg c4, if_neg c5, if_neg c6, ite_self] at hst
              rw [hlk, oI_none, if_pos rfl]
              unfold X12_qPartTold_J183
              rw [h0]
              exact ⟨I', _, s1, hst _ mr_0, qF_tr hF01 s2.1, s2.2⟩
theorem X12_qPartTold_h (hP : qP I b n kd x W W0 Q o) : ∃ I' t, X12_qPartTold 215 (hp I L ρ) = some (none, hp I' L ρ) ∧ mr b n kd (.A (sk b n x) W Q o) t ∧ qO I I' b n kd W0 t := X12_part_lp (n + 1) zFU x I W Q o (by have := hP.1.1.1.2.1; unfold zFU; omega) (by omega) hP
end B7c
