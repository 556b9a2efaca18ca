/-! on: the call -/
section B5z
variable {I I0 : Nat → Nat → Int32} {L L0 : Nat → Nat → Int64} {ρ : zRh} {h : zH} {A : aT} {N : Nat} {C : cT} {s : sT} {t : Nat → Nat}
theorem o_V_parts {n : Nat} (h : o_V C t n = true) : n = o_len C ∧ t 0 * 256 + t 1 < 1000 ∧ t 2 < k_rt C ∧ oX C t (k_L C + k_R C) 0 0 = true ∧ al (o_Xx C t) (k_L C + k_R C) 0 = true ∧ al (o_v C t) 12 0 = true := by
  unfold o_V at h
  rw [Bool.and_eq_true, Bool.and_eq_true, Bool.and_eq_true, Bool.and_eq_true, Bool.and_eq_true, Bool.and_eq_true, decide_eq_true_eq, decide_eq_true_eq, decide_eq_true_eq] at h
  exact ⟨h.1, h.2.2.1, of_decide_eq_true h.2.2.2.1, h.2.2.2.2.1, h.2.2.2.2.2.1, h.2.2.2.2.2.2⟩
theorem side6 (hk : okC C) {y : Nat} (hy : y < k_L C + k_R C) : 6 ≤ k_cd C y ↔ k_L C ≤ y := by
  have h12 := hk.1
  by_cases c : y < k_L C
  · rw [((k_cd_6 hk).1 c).1]; omega
  · rw [((k_cd_6 (p := y) hk).2 (by omega)).1]; omega
theorem on_okT (hk : okC C) (hs : okT C s) {n : Nat} (h : o_V C t n = true) : okT C (on_s C s t) := by
  obtain ⟨-, v1, v2, v3, v4, v5⟩ := o_V_parts h
  obtain ⟨w1, w2⟩ := oX_ok hk v3
  rw [al_iff] at v4 v5
  have h12 := hk.1
  have hS := hs.1
  have hxx : ∀ a, k_th C a → o_Xx C t (k_num C a) = true := fun a ha => v4 _ (Nat.zero_le _) (by have := (k_num_th ha hk).1; omega)
  have hx1 : ∀ a, k_th C a → o_2 C t (k_num C a) = true ∧ t (o_at C (k_num C a) + 1) ≤ 99 ∧ o_k C t (k_num C a) = true := by
    intro a ha
    have hX' : (o_2 C t (k_num C a) && (decide (t (o_at C (k_num C a) + 1) ≤ 99) && o_k C t (k_num C a))) = true := hxx a ha
    rw [Bool.and_eq_true, Bool.and_eq_true, decide_eq_true_eq] at hX'
    exact hX'
  have ho : ∀ a, k_th C a → t (3 + k_num C a) < k_L C + k_R C ∧ (k_L C ≤ t (3 + k_num C a) ↔ k_L C ≤ k_num C a) := fun a ha => of_decide_eq_true (w1 _ (k_num_th ha hk).1)
  refine ⟨⟨⟨?_, v2⟩, ?_, ?_, ?_, ?_, ?_⟩, ?_, ?_⟩
  · show t 0 * 256 + t 1 ≤ 2000
    omega
  · intro a ha
    show k_th C (if k_th C a then k_cd C (t (3 + k_num C a)) else s_ord s a) ∧ (a < 6 ↔ (if k_th C a then k_cd C (t (3 + k_num C a)) else s_ord s a) < 6)
    rw [if_pos ha]
    obtain ⟨o1, o2⟩ := ho a ha
    obtain ⟨n1, n2⟩ := k_num_th ha hk
    have s1 := side6 hk o1
    have s2 := side6 hk n1
    rw [n2] at s2
    exact ⟨(k_cd_th o1 hk).1, by omega⟩
  · intro a b ha hb
    show (if k_th C a then k_cd C (t (3 + k_num C a)) else s_ord s a) = (if k_th C b then k_cd C (t (3 + k_num C b)) else s_ord s b) → a = b
    rw [if_pos ha, if_pos hb]
    intro e
    have e2 := k_cd_inj hk (ho a ha).1 (ho b hb).1 e
    obtain ⟨n1, n2⟩ := k_num_th ha hk
    obtain ⟨m1, m2⟩ := k_num_th hb hk
    by_cases c : k_num C a = k_num C b
    · rw [← n2, ← m2, c]
    · by_cases d : k_num C a < k_num C b
      · exact absurd e2 (w2 _ _ d m1)
      · exact absurd e2.symm (w2 _ _ (by omega) n1)
  · intro a b
    show (if k_th C a then o_wd C t (k_num C a) else s_wed s a) = some b → k_th C a ∧ k_th C b ∧ (a < 6 ↔ 6 ≤ b) ∧ (if k_th C b then o_wd C t (k_num C b) else s_wed s b) = some a ∧ k_kn C a b = false
    by_cases ha : k_th C a
    · rw [if_pos ha]
      intro hb
      obtain ⟨b1, b2⟩ := o_wd_in hk (hxx a ha) hb
      obtain ⟨n1, n2⟩ := k_num_th ha hk
      have ha12 := k_th_lt hk ha
      have hv := of_decide_eq_true (v5 a (Nat.zero_le _) (by omega)) ha b hb
      rw [if_pos b1]
      refine ⟨ha, b1, ?_, hv.1, hv.2⟩
      have hb3 := hb
      unfold o_wd at hb3
      by_cases c : t (o_at C (k_num C a)) = 255
      · rw [if_pos c] at hb3; cases hb3
      · rw [if_neg c] at hb3
        have hb4 : k_cd C (t (o_at C (k_num C a))) = b := by simpa using hb3
        rcases of_decide_eq_true (hx1 a ha).1 with e | e
        · exact absurd e c
        · have s1 := side6 hk e.1
          have s2 := side6 hk n1
          rw [n2] at s2
          rw [hb4] at s1
          omega
    · rw [if_neg ha]
      intro hb
      exact absurd (hS.2.2.2.1 a b hb).1 ha
  · intro a ha
    show (if k_th C a then t (o_at C (k_num C a) + 1) else s_wai s a) ≤ 99 ∧ s_siz s a ≤ 9
    refine ⟨?_, (hS.2.2.2.2.1 a ha).2⟩
    by_cases c : k_th C a
    · rw [if_pos c]; exact (hx1 a c).2.1
    · rw [if_neg c]; exact (hS.2.2.2.2.1 a ha).1
  · intro j hj
    show (if k_th C (j / 6) ∧ j % 6 < k_ot C (j / 6) then t (o_at C (k_num C (j / 6)) + 2 + 2 * (j % 6)) else s_lik s j) ≤ 9 ∧ (if k_th C (j / 6) ∧ j % 6 < k_ot C (j / 6) then t (o_at C (k_num C (j / 6)) + 3 + 2 * (j % 6)) else s_kno s j) ≤ 9
    by_cases c : k_th C (j / 6) ∧ j % 6 < k_ot C (j / 6)
    · rw [if_pos c, if_pos c]
      have h3 := (hx1 _ c.1).2.2
      unfold o_k at h3
      rw [al_iff, (k_num_th c.1 hk).2] at h3
      have h4 := h3 (j % 6) (Nat.zero_le _) (by omega)
      rw [Bool.and_eq_true, decide_eq_true_eq, decide_eq_true_eq] at h4
      exact h4
    · rw [if_neg c, if_neg c]; exact hS.2.2.2.2.2 j hj
  · show t 0 * 256 + t 1 ≤ 999
    omega
  · exact hs.2.2
theorem X12_on_true (hk : okC C) {n : Nat} (hs : okT C s) (h : o_V C t n = true) (hM : chM I C) (hT : tpX 216 I t n) (hN : stN (I 255) C s) (hd : tdM (I 255) C) (hn : I 215 1 = nI n) : ∃ I', X12_on 215 (hp I L ρ) = some (some (.int 1), hp I' L ρ) ∧ (∀ x, x ≠ 255 → x ≠ 215 → I' x = I x) ∧ (∀ k, k ≠ 1 → k ≠ 75 → I' 215 k = I 215 k) ∧ I' 215 1 = 0 ∧ I' 215 75 = 0 ∧ stN (I' 255) C (on_s C s t) ∧ tdM (I' 255) C ∧ I' 255 182 = 0 := by
  have h12 := hk.1
  obtain ⟨v0, v1, v2, v3, v4, v5⟩ := o_V_parts h
  obtain ⟨w1, w2⟩ := oX_ok hk v3
  have v4' := v4
  rw [al_iff] at v4'
  have hol : o_len C ≤ 184 ∧ 4 ≤ o_len C ∧ 3 + (k_L C + k_R C) ≤ o_len C := by
    have := k_LR hk
    unfold o_len
    omega
  obtain ⟨J, hJ⟩ : ∃ J, J = u2 (u2 (u2 I 215 1 0) 255 0 (nI (t 0 * 256 + t 1))) 255 1 (nI (t 2)) := ⟨_, rfl⟩
  have frJ : ∀ x, x ≠ 255 → x ≠ 215 → J x = I x := fun x q1 q2 => by rw [hJ, u2r q1, u2r q1, u2r q2]
  have f0 : ∀ k, k ≠ 1 → u2 I 215 1 0 215 k = I 215 k := fun k hk => by rw [u2_ap, if_neg (by omega)]
  have hM0 : chM (u2 I 215 1 0) C := chM_fr (fun a ha => u2r (by omega)) (f0 53 (by omega)) hM
  have hT0 : tpX 216 (u2 I 215 1 0) t n := tpX_fr (u2r (by omega)) hT
  have hMJ : chM J C := chM_fr (fun a ha => frJ a (by omega) (by omega)) (by rw [hJ, u2r (by omega), u2r (by omega)]; exact f0 53 (by omega)) hM
  have hTJ : tpX 216 J t n := tpX_fr (frJ 216 (by omega) (by omega)) hT
  obtain ⟨d1, d2⟩ := hT0 2 (by omega)
  have hge : ∀ k, k < k_R C → k_L C ≤ t (3 + k_L C + k) := fun k hk2 => by
    have := (of_decide_eq_true (w1 (k_L C + k) (by omega))).2
    rw [show 3 + (k_L C + k) = 3 + k_L C + k by omega] at this
    omega
  obtain ⟨I1, a1, a2, a3⟩ := X12_on_1 (L := L) (ρ := ρ) hk (n := n) (by omega) (by omega) (k_L C) 0 zFU J (by omega) (by unfold zFU; omega) hMJ hTJ
  have hM1 : chM I1 C := chM_fr (fun a ha => a2 a (by omega)) (by rw [a2 215 (by omega)]) hMJ
  obtain ⟨I2, b1, b2, b3⟩ := X12_on_2 (L := L) (ρ := ρ) hk (n := n) (by omega) (by omega) hge (k_R C) 0 zFU I1 (by omega) (by unfold zFU; omega) hM1 (tpX_fr (a2 216 (by omega)) hTJ)
  have hM2 : chM I2 C := chM_fr (fun a ha => b2 a (by omega)) (by rw [b2 215 (by omega)]) hM1
  obtain ⟨I3, c1, c2, c3, c4, c5⟩ := X12_on_p (L := L) (ρ := ρ) hk v0 (k_L C + k_R C) 0 zFU I2 (by omega) (by unfold zFU; omega) (fun j _ q => v4' j (Nat.zero_le _) (by omega)) hM2 (tpX_fr (by rw [b2 216 (by omega), a2 216 (by omega)]) hTJ)
  have f3 : ∀ x, x ≠ 255 → I3 x = J x := fun x q => by rw [c2 x q, b2 x q, a2 x q]
  have hJ255 : ∀ j, 2 ≤ j → J 255 j = I 255 j := fun j hj => by rw [hJ, u2_ap, if_neg (by omega), u2_ap, if_neg (by omega), u2r (by omega)]
  -- what stands in the row ahead of what is told of each
  have g2 : ∀ j, (14 ≤ j) → I2 255 j = I 255 j := fun j hj => by rw [b3, if_neg (by omega), a3, if_neg (by omega), hJ255 j (by omega)]
  refine ⟨u2 (u2 I3 255 182 0) 215 75 0, ?_, fun x q1 q2 => by rw [u2r q2, u2r q1, f3 x q1, frJ x q1 q2], fun k q1 q2 => by rw [u2_ap, if_neg (by omega), u2r (by omega), f3 215 (by omega), hJ, u2r (by omega), u2r (by omega)]; exact f0 k q1, by rw [u2_ap, if_neg (by omega), u2r (by omega), f3 215 (by omega), hJ, u2r (by omega), u2r (by omega), u2_ap, if_pos ⟨rfl, rfl⟩], by rw [u2_ap, if_pos ⟨rfl, rfl⟩], ?_, ?_, by rw [u2r (by omega), u2_ap, if_pos ⟨rfl, rfl⟩]⟩
  · have c1' : X12_on_J126 215 (hp I2 L ρ) = X12_on_J287 215 (hp I3 L ρ) := c1
    have b1' : X12_on_J80 215 (hp I1 L ρ) = X12_on_J126 215 (hp I2 L ρ) := b1
    have a1' : z_fix (fun r x => X12_on_B49 215 r x) zFU 0 (hp J L ρ) = X12_on_J80 215 (hp I1 L ρ) := a1
    unfold X12_on
    rw [gi_215, hn, pi_215, rc_215, h_ci (X12_isImage_h hk hM0 (by omega) hT0), h, h_if, if_neg (show ¬ bI true = 0 by decide), gr_215_52, rc_215, h_ci (X12_two_h (n := n) (by omega) hT0), show (0 : Int32) = nI 0 from rfl, sa_255 (by omega), gr_215_52, gr_215_0, lal_2, la_216 (by omega), u2r (show 216 ≠ 255 by omega), show (nI 0 : Int32) = (0 : Int32) from rfl, d2, show (1 : Int32) = nI 1 from rfl, sa_255 (by omega), ← hJ, a1', b1', c1']
    unfold X12_on_J287
    rw [gr_215_52, show (182 : Int32) = nI 182 from rfl, sa_255 (by omega), pi_215, h_rb1]; rfl
  · have hX : ∀ j, j ≠ 182 → u2 (u2 I3 255 182 0) 215 75 0 255 j = I3 255 j := fun j hj => by rw [u2r (by omega), u2_ap, if_neg (by omega)]
    refine ⟨⟨?_, ?_⟩, fun side k hside hk2 => ?_, fun a ha => ?_⟩
    · rw [hX 0 (by omega), c4 0 (by omega), b3, if_neg (by omega), a3, if_neg (by omega), hJ, u2_ap, if_neg (by omega), u2_ap, if_pos ⟨rfl, rfl⟩]; rfl
    · rw [hX 1 (by omega), c4 1 (by omega), b3, if_neg (by omega), a3, if_neg (by omega), hJ, u2_ap, if_pos ⟨rfl, rfl⟩]; rfl
    · have hn6 := k_n_le hk side
      have hth := k_th_of hside hk2
      rw [hX _ (by omega), c4 _ (by omega), b3]
      show _ = nI ((if k_th C (6 * side + k) then k_cd C (t (3 + k_num C (6 * side + k))) else s_ord s (6 * side + k)) - 6 * side)
      rw [if_pos hth]
      have hc : side = 0 ∨ side = 1 := by omega
      rcases hc with rfl | rfl
      · have hkL : k < k_L C := hk2
        have hnum : k_num C (6 * 0 + k) = k := by unfold k_num; rw [if_pos (by omega)]; omega
        obtain ⟨o1, o2⟩ := of_decide_eq_true (w1 k (by omega))
        rw [if_neg (by omega), a3, if_pos (by omega), hnum, show 3 + (2 + 6 * 0 + k - 2) = 3 + k by omega, ((k_cd_6 hk).1 (show t (3 + k) < k_L C by omega)).1]
        rfl
      · have hkR : k < k_R C := hk2
        have hnum : k_num C (6 * 1 + k) = k_L C + k := by unfold k_num; rw [if_neg (by omega)]; omega
        have := hge k hkR
        rw [if_pos (by omega), hnum, show 3 + k_L C + (2 + 6 * 1 + k - 8) = 3 + k_L C + k by omega, show 3 + (k_L C + k) = 3 + k_L C + k by omega, ((k_cd_6 hk).2 this).1]
        congr 1
        omega
    · have ha12 := k_th_lt hk ha
      obtain ⟨s1, s2, s3⟩ := c3 a ha
      rw [if_pos (Nat.zero_le _)] at s1 s2
      obtain ⟨-, -, n3⟩ := hN.2.2 a ha
      refine ⟨?_, ?_, fun i hi => ?_⟩
      · rw [hX _ (by omega), s1]
        show _ = oI (if k_th C a then o_wd C t (k_num C a) else s_wed s a)
        rw [if_pos ha]
      · rw [hX _ (by omega), s2]
        show _ = nI (if k_th C a then t (o_at C (k_num C a) + 1) else s_wai s a)
        rw [if_pos ha]
      · obtain ⟨u1, u2⟩ := s3 i hi
        obtain ⟨m1, m2⟩ := n3 i hi
        have e6 : (6 * a + i) / 6 = a := by omega
        have e7 : (6 * a + i) % 6 = i := by omega
        rw [hX _ (by omega), hX _ (by omega), u1, u2, g2 _ (by omega), g2 _ (by omega), m1, m2]
        show _ = nI (if k_th C ((6 * a + i) / 6) ∧ (6 * a + i) % 6 < k_ot C ((6 * a + i) / 6) then t (o_at C (k_num C ((6 * a + i) / 6)) + 2 + 2 * ((6 * a + i) % 6)) else s_lik s (6 * a + i)) ∧ _ = nI (if k_th C ((6 * a + i) / 6) ∧ (6 * a + i) % 6 < k_ot C ((6 * a + i) / 6) then t (o_at C (k_num C ((6 * a + i) / 6)) + 3 + 2 * ((6 * a + i) % 6)) else s_kno s (6 * a + i))
        rw [e6, e7]
        by_cases c : i < k_ot C a
        · rw [if_pos ⟨Nat.zero_le _, c⟩, if_pos ⟨ha, c⟩, if_pos ⟨Nat.zero_le _, c⟩, if_pos ⟨ha, c⟩]
          exact ⟨rfl, rfl⟩
        · rw [if_neg (fun q => c q.2), if_neg (fun q => c q.2), if_neg (fun q => c q.2), if_neg (fun q => c q.2)]
          exact ⟨rfl, rfl⟩
  · intro htd a ha hna
    rw [u2r (by omega), u2_ap, if_neg (by omega), c5 a ha hna, g2 _ (by omega)]
    exact hd htd a ha hna
theorem on_b (hok : okA A) : both (X11_on 0) (X12_on 215) A N := by
  have hk := hok.1
  have hn := hok.2.1.1
  have hs := hok.2.2.1
  have hTX : ∀ {I L ρ}, RelX I L ρ A N → tpX 1 I (t_b A) (a_n A) := fun hX j hj => ⟨(t_b_h hok hj).1, by rw [hX.2.1.2 j hj]; exact (t_b_h hok hj).2⟩
  have hTM : ∀ {I L}, RelM I L A → tpX 216 I (t_b A) (a_n A) := fun hM j hj => ⟨(t_b_h hok hj).1, by rw [hM.2.2.1.2 j hj]; exact (t_b_h hok hj).2⟩
  -- the class, as far as reading goes
  have hX0 : ∀ {I L ρ}, RelX I L ρ A N → ∃ I1, X11_on 0 (hp I L ρ) = (if o_V (a_C A) (t_b A) (a_n A) = true then z_gr 11 7 0 fun x8 => z_rc 8 x8 (z_cv (X8_take x8 54) (z_gr 11 11 0 fun x9 => z_rc 6 x9 (z_cv (X6_forget x9) (z_rb 1)))) else z_rc 11 0 (z_ci (X11_refuse 0 5) fun _ => z_rb 0)) (hp I1 L ρ) ∧ RelX I1 L ρ (wT A (a_T A) 0) N ∧ (∀ x, 215 ≤ x → I1 x = I x) ∧ (o_V (a_C A) (t_b A) (a_n A) = true → stX 54 I1 (on_s (a_C A) (a_s A) (t_b A))) := by
    intro I L ρ hX
    obtain ⟨e1, e2⟩ := X_take hX
    have hT1 : tpX 1 (u2 I 0 1 0) (t_b A) (a_n A) := tpX_fr (u2r (by omega)) (hTX hX)
    obtain ⟨I2, f1, f2, f3⟩ := X8_take_h (I := u2 I 0 1 0) (L := L) (ρ := ρ) (b := 54) (c := 41) isSt_54 (Or.inl rfl) (by omega)
    have hs54 : stX 54 I2 (a_s A) := f3 e2.2.2.1
    have hX2 : RelX I2 L ρ (wT A (a_T A) 0) N := RelX_fr (fun x hx => f2 x (by unfold lastX at hx; omega)) rfl (Nat.le_refl _) e2
    obtain ⟨I3, g1, g2, g3⟩ := X8_read_h (C := a_C A) (s := a_s A) (t := t_b A) (L := L) hk hn (show cwX I2 ρ (a_C A) from cwX_of (A := wT A (a_T A) 0) hX2) (tpX_fr (f2 1 (by omega)) hT1) hs54
    refine ⟨I3, ?_, RelX_fr (fun x hx => g2 x (by unfold lastX at hx; omega)) rfl (Nat.le_refl _) hX2, fun x hx => by rw [g2 x (by omega), f2 x (by omega), u2r (by omega)], g3⟩
    have g1' : X8_read 54 ρ.1 1 (nI (a_n A)) (hp I2 L ρ) = _ := g1
    unfold X11_on
    rw [rc_0, h_ci e1, gr_0_9, gr_53_0, gr_0_7, rc_54, h_cv f1, gr_0_5, gr_0_0, rc_54, h_ci g1', h_if]
    cases o_V (a_C A) (t_b A) (a_n A) with
    | true => rw [if_neg (show ¬ bI true = 0 by decide), if_pos rfl]
    | false => rw [bF, if_pos rfl, if_neg (by decide)]
  cases hV : o_V (a_C A) (t_b A) (a_n A) with
  | false =>
    refine ⟨.int 0, rfA (wT A (a_T A) 0) 5, N, fun I L ρ hX => ?_, fun I L ρ hM => ?_, okA_rf (okA_w0 hok), by omega⟩
    · obtain ⟨I1, e1, e2, e3, -⟩ := hX0 hX
      rw [hV, if_neg (by decide)] at e1
      refine ⟨u2 I1 214 5 (I1 214 5 + 1), L, ρ, ?_, X11_refuse_A e2 (by omega), fun a ha => ⟨by rw [u2r (by omega), e3 a ha], rfl⟩⟩
      rw [e1, rc_0, h_ci (show X11_refuse 0 5 _ = _ from X11_refuse_h (j := 5) (by omega)), h_rb0]
    · have hM1 := M_take hM
      refine ⟨u2 (u2 I 215 1 0) 217 5 (u2 I 215 1 0 217 5 + 1), L, ?_, refuse_M hM1 (by omega), fun a ha => ⟨by rw [u2r (by omega), u2r (by omega)], rfl⟩⟩
      have hT0 : tpX 216 (u2 I 215 1 0) (t_b A) (a_n A) := tpX_fr (u2r (by omega)) (hTM hM)
      have hi : X12_isImage 215 (nI (a_n A)) (hp (u2 I 215 1 0) L ρ) = some (some (.int (bI (o_V (a_C A) (t_b A) (a_n A)))), hp (u2 I 215 1 0) L ρ) := X12_isImage_h hk hM1.1 hn hT0
      unfold X12_on
      rw [gi_215, hM.2.2.1.1, pi_215, rc_215, h_ci hi, hV, bF, h_if, if_pos rfl, rc_215, h_ci (show X12_isRefused 215 5 _ = _ from X12_isRefused_h (j := 5) (by omega)), h_rb0]
  | true =>
    have hok' : okT (a_C A) (on_s (a_C A) (a_s A) (t_b A)) := on_okT hk hs hV
    refine ⟨.int 1, wS (wT A (a_T A) 0) (on_s (a_C A) (a_s A) (t_b A)) [] [], N, fun I L ρ hX => ?_, fun I L ρ hM => ?_, okA_wS (okA_w0 hok) hok' ⟨by simp, fun q hq => by simp at hq⟩ ⟨by simp, fun q hq => by simp at hq⟩, by omega⟩
    · obtain ⟨I1, e1, e2, e3, e4⟩ := hX0 hX
      rw [hV, if_pos rfl] at e1
      obtain ⟨I2, f1, f2, f3⟩ := X8_take_h (I := I1) (L := L) (ρ := ρ) (b := 41) (c := 54) (Or.inl rfl) isSt_54 (by omega)
      have h41 := f3 (e4 hV)
      obtain ⟨J, hJ⟩ : ∃ J, J = u2 (u2 I2 68 0 0) 68 5 0 := ⟨_, rfl⟩
      have frJ : ∀ x, x ≠ 68 → J x = I2 x := fun x hx => by rw [hJ, u2r hx, u2r hx]
      refine ⟨J, L, ρ, ?_, X_act e2 ?_ (stX_fr (fun a x y => frJ a (by omega)) h41) (fun a q1 q2 q3 => by rw [frJ a (by omega), f2 a (by omega)]), fun a ha => ⟨by rw [frJ a (by omega), f2 a (by omega), e3 a ha], rfl⟩⟩
      · rw [e1, gr_0_7, rc_41, h_cv f1, gr_0_11, rc_68]
        unfold X6_forget
        rw [show z_cv (z_pi 6 0 68 0 (z_pi 6 5 68 0 (z_ret none))) (z_rb 1) (hp I2 L ρ) = z_rb 1 (hp J L ρ) from h_cv (by rw [pi_68, pi_68, hJ]; rfl), h_rb1]
      · obtain ⟨hw, nx, lg, κ, p1, -⟩ := e2.2.2.2.1
        refine ⟨0, nx, lg, fun _ => 0, ⟨by rw [hJ, u2_ap, if_pos ⟨rfl, rfl⟩]; rfl, by rw [hJ, u2_ap, if_neg (by omega), u2_ap, if_pos ⟨rfl, rfl⟩]; rfl, ?_, p1.2.2.2⟩, fun i hi _ => absurd hi (by omega), ⟨Nat.le_refl 0, Nat.zero_le _, Nat.zero_le _⟩, ⟨by simp, fun i hi => by simp at hi⟩, fun i q hq => by simp at hq, fun i j _ _ => ⟨Nat.le_refl 0, fun _ => Nat.zero_le _, fun _ => Nat.zero_le _⟩⟩
        rw [hJ, u2_ap, if_neg (by omega), u2_ap, if_neg (by omega), f2 68 (by omega)]
        exact p1.2.2.1
    · obtain ⟨I', e1, e2, e3, e4, e5, e6, e7, e8⟩ := X12_on_true (L := L) (ρ := ρ) hk hs hV hM.1 (hTM hM) hM.2.2.2.1.1.1 hM.2.2.2.1.1.2 hM.2.2.1.1
      refine ⟨I', L, e1, ?_, fun a ha => ⟨e2 a (by omega) (by omega), rfl⟩⟩
      refine M_act (M_take hM) ⟨⟨e6, e7⟩, ⟨e8, by simp, fun i q hq => by simp at hq⟩⟩ ?_ (fun a q1 q2 q3 => ?_) (fun k q1 q2 q3 => ?_) (fun _ _ => rfl)
      · obtain ⟨-, nw, n1, n2, -⟩ := hM.2.2.2.2.2.1
        exact ⟨e5, nw, n1, by rw [e3 76 (by omega) (by omega)]; exact n2, fun i q hq => by simp at hq⟩
      · have : a ≠ 215 := by unfold lastM at q1; omega
        rw [e2 a q2 this, u2r this]
      · rw [u2_ap]
        by_cases c : k = 1
        · rw [if_pos ⟨rfl, c⟩, c, e4]
        · rw [if_neg (by omega), e3 k c q2]
end B5z
