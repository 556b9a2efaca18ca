/-! church: both sides -/
section B8q
variable {I I0 : Nat → Nat → Int32} {L L0 : Nat → Nat → Int64} {ρ : zRh} {h : zH} {b : Nat → Nat} {n a x j k u w t side here : Nat} {r : rP} {S : nT} {A : aT} {N : Nat}
/-- a church that stands is the church that was read -/
theorem M_chu {I' K : Nat → Nat → Int32} {L1 L' : Nat → Nat → Int64} (hok : okN S) (hX : jX I' L1 S) (hC : jC I' S u) (hu : u ≤ 1600) (p1 : ∀ k, k < 5 → K 246 (6 + k) = I' 246 k) (p2 : ∀ k, k < 3 → K 252 (3 + k) = I' 252 k ∧ K 253 (3 + k) = I' 253 k) (p3 : ∀ k, k < 36 → K 248 (36 + k) = I' 248 k ∧ K 249 (36 + k) = I' 249 k) (p4 : ∀ k, k < u → K 254 (1600 + k) = I' 254 k) (p5 : (K 255 0 = 0 ∧ K 255 1 = 0 ∧ K 255 182 = 0) ∧ (∀ k, k < 6 → K 255 (2 + k) = nI k ∧ K 255 (8 + k) = nI k) ∧ (∀ k, k < 12 → K 255 (14 + k) = -1 ∧ K 255 (26 + k) = 0) ∧ ∀ k, k < 72 → K 255 (38 + k) = I' 250 k ∧ K 255 (110 + k) = I' 251 k) (p6 : ∀ k, k < 12 → L' 247 (12 + k) = L1 247 k) (p8 : K 215 53 = 1 ∧ K 215 71 = 0 ∧ K 215 75 = 0) (o1 : K 215 1 = 0) (o7 : K 215 7 = 0) (o8 : K 215 8 = -1) (o54 : K 215 54 = -1) (o64 : K 215 64 = 0) (o76 : ∃ nw, nw < 20 ∧ K 215 76 = nI nw) (o115 : K 215 115 = nI (a_m A) ∧ ∀ k, k < a_m A → K 296 k = a_O A k) (o217 : ∀ j, j < 6 → K 217 j = nI (a_R A j)) (oL : L' 215 77 = cl (a_D A)) (hw : wdM K) : RelM K L' (wChu A S) := by
  obtain ⟨⟨h1, h2⟩, ⟨h3, h4, h5⟩, h7, h8, h9⟩ := hX
  have t12 : ∀ a, n_th S a → a < 12 := fun a ha => n_th_lt hok ha
  refine ⟨?_, ⟨?_, fun a ha => ?_⟩, ⟨o1, fun i hi => absurd hi (Nat.not_lt_zero i)⟩, ⟨⟨?_, fun _ a ha _ => (p5.2.2.1 a ha).1⟩, ?_⟩, ⟨o54, o64⟩, ⟨p8.2.2, ?_⟩, ⟨p8.2.1, fun i q hq => by cases hq⟩, o115, o217, ⟨o7, o8⟩, oL, hw⟩
  · show chM K (n_C S)
    refine ⟨⟨(p1 0 (by omega)).trans h1, (p1 1 (by omega)).trans h2⟩, Or.inl ⟨p8.1, (p1 3 (by omega)).trans h4, rfl⟩, (p1 4 (by omega)).trans h5, fun a ha => ?_, fun j hj => ?_, fun w hw => ?_⟩
    · have ha : n_th S a := ha
      have := t12 a ha
      obtain ⟨k1, k2, k3, k4⟩ := h7 a ha
      rw [Nat.add_assoc, Nat.add_assoc, (p3 (3 * a) (by omega)).1, (p3 (3 * a + 1) (by omega)).1, (p3 (3 * a + 2) (by omega)).1]
      exact ⟨k2, k3, k4⟩
    · rw [(p3 j hj).2]; exact h8 j hj
    · rw [n_C_code hw]
      have := hC.2 w hw
      unfold cdM
      rw [(p2 w hw).1, (p2 w hw).2]
      rcases z : n_cd S w with _ | l
      · rw [z] at this
        exact Or.inl ⟨this, rfl⟩
      · rw [z] at this
        obtain ⟨q, R, d1, d2, d3, d4, d5, d6⟩ := this
        exact Or.inr ⟨q, R, d1, d2, by omega, d4, d5, fun i hi => by rw [p4 _ (by omega)]; exact d6 i hi⟩
  · exact (p1 2 (by omega)).trans h3
  · have ha : n_th S a := ha
    rw [p6 a (t12 a ha)]
    exact (h7 a ha).1
  · refine ⟨⟨p5.1.1, p5.1.2.1⟩, fun side k hs hk => ?_, fun a ha => ?_⟩
    · have e : s_ord (a_s (wChu A S)) (6 * side + k) - 6 * side = k := Nat.add_sub_cancel_left _ _
      rw [e]
      have hk6 : k < 6 := by
        have hk : k < (if side = 0 then n_n S 0 else n_n S 1) := hk
        have := hok.1
        split at hk <;> omega
      rcases (show side = 0 ∨ side = 1 by omega) with rfl | rfl
      · exact (p5.2.1 k hk6).1
      · exact (p5.2.1 k hk6).2
    · have ha : n_th S a := ha
      have := t12 a ha
      refine ⟨(p5.2.2.1 a this).1, (p5.2.2.1 a this).2, fun k hk => ?_⟩
      rw [Nat.add_assoc, Nat.add_assoc, (p5.2.2.2 (6 * a + k) (by omega)).1, (p5.2.2.2 (6 * a + k) (by omega)).2]
      exact h9 (6 * a + k) (by omega)
  · exact ⟨p5.1.2.2, Nat.zero_le _, fun i q hq => by cases hq⟩
  · obtain ⟨nw, z1, z2⟩ := o76
    exact ⟨nw, z1, z2, fun i q hq => by cases hq⟩
theorem church_M (hok : okA A) (hM : RelM I L A) {wm wk sz : Nat → Nat} (hs : ∀ j, j < 12 → wm j ≤ 9 ∧ wk j ≤ 9 ∧ sz j ≤ 9) : runM (X12_church 215) I L ρ (dnV (s_lp (t_b A) (a_n A) 62 0 (sk (t_b A) (a_n A) 0) (n_0 wm wk sz))) (dnX A (s_lp (t_b A) (a_n A) 62 0 (sk (t_b A) (a_n A) 0) (n_0 wm wk sz))) := by
  obtain ⟨J0, hJ0⟩ : ∃ J0, J0 = u2 (u2 (u2 (u2 (u2 (u2 (u2 I 215 3 (nI (a_n A))) 215 1 0) 215 2 0) 215 4 (-1)) 215 5 0) 215 6 (-1)) 215 49 0 := ⟨_, rfl⟩
  obtain ⟨J1, r1, p1, q1⟩ := ch_40 (L := L) (ρ := ρ) 5 0 zFU J0 rfl (by unfold zFU; omega)
  obtain ⟨J2, r2, p2, q2⟩ := ch_69 (L := L) (ρ := ρ) 72 0 zFU J1 rfl (by unfold zFU; omega)
  obtain ⟨J3, r3, p3, q3⟩ := ch_110 (L := L) (ρ := ρ) 3 0 zFU J2 rfl (by unfold zFU; omega)
  obtain ⟨J4, hJ4⟩ : ∃ J4, J4 = u2 J3 215 50 0 := ⟨_, rfl⟩
  have g3 : ∀ c j, c ≠ 252 → J3 c j = J2 c j := fun c j h1 => q3 c j (by omega)
  have g0 : ∀ c j, c ≠ 252 → c ≠ 249 → c ≠ 250 → c ≠ 251 → c ≠ 246 → J3 c j = J0 c j := fun c j h1 h2 h3 h4 h5 => by rw [g3 c j h1, q2 c j (by omega) (by omega) (by omega), q1 c j (by omega)]
  have f5 : ∀ k, k ≠ 50 → J4 215 k = J0 215 k := fun k hk => by rw [hJ4, u2_ap, if_neg (by omega), g0 215 k (by omega) (by omega) (by omega) (by omega) (by omega)]
  have f5' : ∀ k, k ≠ 50 → k ≠ 49 → k ≠ 6 → k ≠ 5 → k ≠ 4 → k ≠ 2 → k ≠ 1 → k ≠ 3 → J4 215 k = I 215 k := fun k h1 h2 h3 h4 h5 h6 h7 h8 => by
    rw [f5 k h1, hJ0, u2_ap, if_neg (by omega), u2_ap, if_neg (by omega), u2_ap, if_neg (by omega), u2_ap, if_neg (by omega), u2_ap, if_neg (by omega), u2_ap, if_neg (by omega), u2_ap, if_neg (by omega)]
  have c49 : J4 215 49 = 0 := by rw [f5 49 (by omega), hJ0, u2_ap, if_pos ⟨rfl, rfl⟩]
  have c6 : J4 215 6 = -1 := by rw [f5 6 (by omega), hJ0, u2_ap, if_neg (by omega), u2_ap, if_pos ⟨rfl, rfl⟩]
  have c5 : J4 215 5 = 0 := by rw [f5 5 (by omega), hJ0, u2_ap, if_neg (by omega), u2_ap, if_neg (by omega), u2_ap, if_pos ⟨rfl, rfl⟩]
  have c4 : J4 215 4 = -1 := by rw [f5 4 (by omega), hJ0, u2_ap, if_neg (by omega), u2_ap, if_neg (by omega), u2_ap, if_neg (by omega), u2_ap, if_pos ⟨rfl, rfl⟩]
  have c2 : J4 215 2 = 0 := by rw [f5 2 (by omega), hJ0, u2_ap, if_neg (by omega), u2_ap, if_neg (by omega), u2_ap, if_neg (by omega), u2_ap, if_neg (by omega), u2_ap, if_pos ⟨rfl, rfl⟩]
  have c1 : J4 215 1 = 0 := by rw [f5 1 (by omega), hJ0, u2_ap, if_neg (by omega), u2_ap, if_neg (by omega), u2_ap, if_neg (by omega), u2_ap, if_neg (by omega), u2_ap, if_neg (by omega), u2_ap, if_pos ⟨rfl, rfl⟩]
  have c3 : J4 215 3 = nI (a_n A) := by rw [f5 3 (by omega), hJ0, u2_ap, if_neg (by omega), u2_ap, if_neg (by omega), u2_ap, if_neg (by omega), u2_ap, if_neg (by omega), u2_ap, if_neg (by omega), u2_ap, if_neg (by omega), u2_ap, if_pos ⟨rfl, rfl⟩]
  have c50 : J4 215 50 = nI 0 := by rw [hJ4, u2_ap, if_pos ⟨rfl, rfl⟩]; rfl
  have w4 : ∀ c j, c ≠ 215 → J4 c j = J3 c j := fun c j hc => by rw [hJ4, u2r hc]
  have i0 : ∀ c j, c ≠ 215 → J0 c j = I c j := fun c j hc => by rw [hJ0, u2r hc, u2r hc, u2r hc, u2r hc, u2r hc, u2r hc, u2r hc]
  have rr : ∀ c, c ≠ 215 → c ≠ 252 → c ≠ 249 → c ≠ 250 → c ≠ 251 → c ≠ 246 → J4 c = I c := fun c h0 h1 h2 h3 h4 h5 => by
    funext j
    rw [w4 c j h0, g0 c j h1 h2 h3 h4 h5, i0 c j h0]
  have r246 : ∀ j, J4 246 j = J1 246 j := fun j => by rw [w4 246 j (by omega), g3 246 j (by omega), q2 246 j (by omega) (by omega) (by omega)]
  have r249 : ∀ j, J4 249 j = J2 249 j := fun j => by rw [w4 249 j (by omega), g3 249 j (by omega)]
  have r250 : ∀ j, J4 250 j = J2 250 j := fun j => by rw [w4 250 j (by omega), g3 250 j (by omega)]
  have r251 : ∀ j, J4 251 j = J2 251 j := fun j => by rw [w4 251 j (by omega), g3 251 j (by omega)]
  have r252 : ∀ j, J4 252 j = J3 252 j := fun j => w4 252 j (by omega)
  have hT := M_begin hok hM c3 c2 c4 c5 (rr 216 (by omega) (by omega) (by omega) (by omega) (by omega) (by omega))
  have hw4 : wdM J4 := by
    intro q hq i hi
    have := wdL_at q hq
    rw [rr q.1 (by omega) (by omega) (by omega) (by omega) (by omega) (by omega)]
    exact hM.2.2.2.2.2.2.2.2.2.2.2 q hq i hi
  have hX4 : jX J4 L (n_0 wm wk sz) := by
    refine ⟨⟨?_, ?_⟩, ⟨?_, ?_, ?_⟩, fun a ha => ?_, fun j hj => ?_, fun j hj => ⟨?_, ?_⟩⟩
    · rw [r246, p1 0 (by omega) (by omega)]; rfl
    · rw [r246, p1 1 (by omega) (by omega)]; rfl
    · rw [r246, p1 2 (by omega) (by omega)]; rfl
    · rw [r246, p1 3 (by omega) (by omega)]; rfl
    · rw [r246, p1 4 (by omega) (by omega)]; rfl
    · have ha : a < 0 ∨ (6 ≤ a ∧ a < 6 + 0) := ha
      omega
    · rw [r249, (p2 j (by omega) (by omega)).1 hj]; rfl
    · rw [r250, (p2 j (by omega) (by omega)).2.1]; rfl
    · rw [r251, (p2 j (by omega) (by omega)).2.2]; rfl
  have hC4 : jC J4 (n_0 wm wk sz) 0 := ⟨c49, fun w hw => by
    show J4 252 w = -1
    rw [r252, p3 w (by omega) hw]⟩
  obtain ⟨I1, L1, m1, m2, m3⟩ := lp_M (ρ := ρ) 62 0 (sk (t_b A) (a_n A) 0) (n_0 wm wk sz) 0 J4 L zFU rfl (by omega) (by unfold zFU; omega) hw4 hT (okN_0 hs) (Nat.zero_le _) hX4 hC4 (Nat.zero_le _) c50
  have run : X12_church 215 (hp I L ρ) = X12_church_J155 215 (hp I1 L1 ρ) := by
    unfold X12_church
    rw [gi_215, hM.2.2.1.1, pi_215, pi_215, pi_215, pi_215, pi_215, pi_215, pi_215, ← hJ0]
    show z_fix (fun r x => X12_church_B40 215 r x) zFU (nI 0) (hp J0 L ρ) = _
    rw [r1]
    unfold X12_church_J67
    show z_fix (fun r x => X12_church_B69 215 r x) zFU (nI 0) (hp J1 L ρ) = _
    rw [r2]
    unfold X12_church_J108
    show z_fix (fun r x => X12_church_B110 215 r x) zFU (nI 0) (hp J2 L ρ) = _
    rw [r3]
    unfold X12_church_J128
    rw [pi_215, ← hJ4, m1]
  -- what is as it was
  obtain ⟨v, ⟨hF1, hF2, hF3⟩, ⟨hF4, hF5, hF6, hF7⟩, hF8, hF9⟩ := m2
  have rw1 : ∀ c, c ≠ 215 → (c < 246 ∨ 254 < c) → c ≠ 293 → c ≠ 294 → I1 c = I c := fun c h1 h2 h3 h4 => by rw [hF1 c h1 h2 h3 h4, u2r h1, rr c h1 (by omega) (by omega) (by omega) (by omega) (by omega)]
  have fl1 : ∀ k, fieldM k → k ≠ 1 → I1 215 k = I 215 k := fun k hk h1 => by
    unfold fieldM at hk
    rw [hF2 k (by omega) (by omega) (by omega) (by omega) (by omega) (by omega) (by omega) (by omega) (by omega), u2_ap, if_neg (by omega), f5' k (by omega) (by omega) (by omega) (by omega) (by omega) (by omega) (by omega) (by omega)]
  have fl11 : I1 215 1 = 0 := by rw [hF2 1 (by omega) (by omega) (by omega) (by omega) (by omega) (by omega) (by omega) (by omega) (by omega), u2_ap, if_neg (by omega), c1]
  have h246 : ∀ j, 5 ≤ j → I1 246 j = I 246 j := fun j hj => by rw [hF4 j hj, u2r (by omega), r246, q1 246 j (by omega), i0 246 j (by omega)]
  have h248 : ∀ j, 36 ≤ j → I1 248 j = I 248 j := fun j hj => by rw [(hF5 j hj).1, u2r (by omega), rr 248 (by omega) (by omega) (by omega) (by omega) (by omega) (by omega)]
  have h249 : ∀ j, 36 ≤ j → I1 249 j = I 249 j := fun j hj => by rw [(hF5 j hj).2, u2r (by omega), r249, q2 249 j (by omega) (by omega) (by omega), q1 249 j (by omega), i0 249 j (by omega)]
  have h252 : ∀ j, 3 ≤ j → I1 252 j = I 252 j := fun j hj => by rw [(hF6 j hj).1, u2r (by omega), r252, q3 252 j (by omega), q2 252 j (by omega) (by omega) (by omega), q1 252 j (by omega), i0 252 j (by omega)]
  have h253 : ∀ j, 3 ≤ j → I1 253 j = I 253 j := fun j hj => by rw [(hF6 j hj).2, u2r (by omega), rr 253 (by omega) (by omega) (by omega) (by omega) (by omega) (by omega)]
  have h254 : ∀ j, 1600 ≤ j → I1 254 j = I 254 j := fun j hj => by rw [hF7 j hj, u2r (by omega), rr 254 (by omega) (by omega) (by omega) (by omega) (by omega) (by omega)]
  rcases z : s_lp (t_b A) (a_n A) 62 0 (sk (t_b A) (a_n A) 0) (n_0 wm wk sz) with e | q
  · rw [z] at m3
    have m3 : unM I1 (a_n A) e.1 e.2 := m3
    have hR : RelM (u2 (u2 I1 215 7 (nI e.1)) 215 8 (nI e.2)) L1 (wFl A e) := by
      refine M_flt hM (fun c h1 h2 h2' h3 h4 h5 h6 h7 => ?_) (fun j hj => by rw [u2r (by omega), u2r (by omega)]; exact h246 j hj) (fun j hj => by rw [u2r (by omega), u2r (by omega), u2r (by omega), u2r (by omega)]; exact ⟨h248 j hj, h249 j hj⟩) (fun j hj => by rw [u2r (by omega), u2r (by omega), u2r (by omega), u2r (by omega)]; exact ⟨h252 j hj, h253 j hj⟩) (fun j hj => by rw [u2r (by omega), u2r (by omega)]; exact h254 j hj) (fun k h1 h2 h3 h4 => by rw [u2_ap, if_neg (by omega), u2_ap, if_neg (by omega)]; exact fl1 k h1 h2) (by rw [u2_ap, if_neg (by omega), u2_ap, if_neg (by omega)]; exact fl11) (by rw [u2_ap, if_neg (by omega), u2_ap, if_pos ⟨rfl, rfl⟩]) (by rw [u2_ap, if_pos ⟨rfl, rfl⟩]) hF8 hF9
      unfold lastM at h1
      rw [u2r (by omega), u2r (by omega)]
      exact rw1 c (by omega) (by omega) (by omega) (by omega)
    refine ⟨_, L1, ?_, refuse_M hR (j := 1) (by omega), fun a ha => ⟨?_, hF8 a (by omega)⟩⟩
    · rw [run]
      unfold X12_church_J155
      rw [gi_215, pi_215, gi_215, u2_ap, if_neg (by omega), pi_215, gi_215, u2_ap, if_neg (by omega), u2_ap, if_neg (by omega), m3.1, m3.2.2.1, h_if, if_neg (nI_n0 m3.2.1), rc_215, h_ci (show X12_refuses 215 1 _ = _ from X12_refuses_h (j := 1) (by omega))]; rfl
    · rw [u2r (by omega), u2r (by omega), u2r (by omega)]
      exact rw1 a (by omega) (by omega) (by omega) (by omega)
  · rw [z] at m3
    obtain ⟨k1, k2, k3, k4, k5, k6, u, k7, k8⟩ := m3
    have k0 : I1 215 6 = -1 := by rw [(hF3 k1).2, u2_ap, if_neg (by omega), c6]
    obtain ⟨K0, hK0⟩ : ∃ K0, K0 = u2 (u2 I1 215 7 0) 215 8 (-1) := ⟨_, rfl⟩
    have kr : ∀ c, c ≠ 215 → K0 c = I1 c := fun c hc => by rw [hK0, u2r hc, u2r hc]
    have kf : ∀ k, k ≠ 7 → k ≠ 8 → K0 215 k = I1 215 k := fun k h1 h2 => by rw [hK0, u2_ap, if_neg (by omega), u2_ap, if_neg (by omega)]
    obtain ⟨K, L2, s1, s2, s3, s4, s5, s6, ⟨s7, s8⟩, s9, s10, s11⟩ := X12_stands_h (I := K0) (L := L1) (ρ := ρ) (u := u) (by rw [kf 49 (by omega) (by omega)]; exact k7.1) k8 (fun j hj => ⟨_, by rw [kr 249 (by omega)]; exact k6.2.2.2.1 j hj⟩)
    have X0 : jX K0 L1 q.2 := jX_fr (fun d h1 h2 => kr d (by omega)) k6
    have C0 : jC K0 q.2 u := jC_fr (kf 49 (by omega) (by omega)) (kr 252 (by omega)) (kr 253 (by omega)) (kr 254 (by omega)) rfl k7
    have Kr : ∀ c, c ≠ 215 → (c < 246 ∨ 255 < c) → c ≠ 293 → c ≠ 294 → K c = I c := fun c h1 h2 h3 h4 => by rw [s9 c h1 (by omega) (by omega) (by omega) (by omega) (by omega) (by omega) (by omega), kr c h1, rw1 c h1 (by omega) h3 h4]
    have Kf : ∀ k, fieldM k → k ≠ 1 → k ≠ 7 → k ≠ 8 → k ≠ 53 → k ≠ 71 → k ≠ 75 → K 215 k = I 215 k := fun k h1 h2 h3 h4 h5 h6 h7 => by rw [s10 k h5 h6 h7, kf k h3 h4, fl1 k h1 h2]
    obtain ⟨m1', m2', m3', m4', m5', m6', m7', m8', m9', m10', m11', m12'⟩ := hM
    refine ⟨K, L2, ?_, M_chu k4 X0 C0 k8 s2 s3 s4 s5 s6 s7 s11 (by rw [s10 1 (by omega) (by omega) (by omega), kf 1 (by omega) (by omega)]; exact fl11) (by rw [s10 7 (by omega) (by omega) (by omega), hK0, u2_ap, if_neg (by omega), u2_ap, if_pos ⟨rfl, rfl⟩]) (by rw [s10 8 (by omega) (by omega) (by omega), hK0, u2_ap, if_pos ⟨rfl, rfl⟩]) (by rw [Kf 54 (by unfold fieldM; omega) (by omega) (by omega) (by omega) (by omega) (by omega) (by omega)]; exact m5'.1) (by rw [Kf 64 (by unfold fieldM; omega) (by omega) (by omega) (by omega) (by omega) (by omega) (by omega)]; exact m5'.2) ?_ ?_ ?_ ?_ ?_, fun a ha => ⟨Kr a (by omega) (by omega) (by omega) (by omega), by rw [s8 a (by omega), hF8 a (by omega)]⟩⟩
    · rw [run]
      unfold X12_church_J155
      rw [gi_215, pi_215, gi_215, u2_ap, if_neg (by omega), pi_215, gi_215, u2_ap, if_neg (by omega), u2_ap, if_neg (by omega), k1, k0, h_if, if_pos rfl, rc_215, ← hK0, h_cv s1, gi_215, s10 50 (by omega) (by omega) (by omega), kf 50 (by omega) (by omega), k2]; rfl
    · obtain ⟨-, nw, z1, z2, -⟩ := m6'
      exact ⟨nw, z1, by rw [Kf 76 (by unfold fieldM; omega) (by omega) (by omega) (by omega) (by omega) (by omega) (by omega)]; exact z2⟩
    · rw [Kf 115 (by unfold fieldM; omega) (by omega) (by omega) (by omega) (by omega) (by omega) (by omega), Kr 296 (by omega) (by omega) (by omega) (by omega)]; exact m8'
    · rw [Kr 217 (by omega) (by omega) (by omega) (by omega)]; exact m9'
    · rw [s8 215 (by omega), hF8 215 (by omega)]; exact m11'
    · intro q hq i hi
      have h1 := wdL_R _ hq
      have h2 := wdL_at q hq
      rw [Kr q.1 h1.2.2.2.2.2.1 (by omega) h1.2.2.2.2.2.2.1 h1.2.2.2.2.2.2.2]
      exact m12' q hq i hi
/-- both answer alike, and hold the same again; what they hold may hang upon what the class has laid by -/
def both2 (g f : zM) (A : aT) (N : Nat) : Prop := ∀ I L ρ, RelX I L ρ A N → ∃ r A' N', runX g I L ρ r A' N' ∧ (∀ I L ρ, RelM I L A → runM f I L ρ r A') ∧ okA A' ∧ N' ≤ N + 600
theorem both_2 {g f : zM} (h : both g f A N) : both2 g f A N := by
  obtain ⟨r, A', N', h1, h2, h3, h4⟩ := h
  exact fun I L ρ hX => ⟨r, A', N', h1 I L ρ hX, h2, h3, h4⟩
theorem lp_ok : ∀ g t a (S : nT), t + g = 62 → t ≤ 60 → a ≤ n → okN S → n_kc S ≤ t → ∀ q, s_lp b n g t a S = .inr q → okN q.2 ∧ n_kc q.2 ≤ 60 := by
  intro g
  induction g with
  | zero => intro t a S h1 h2; omega
  | succ g ih =>
    intro t a S h1 h2 ha hok hk q hq
    have hq : (if n ≤ a then .inr (t, S) else if t = 60 then .inl (5, a) else match s_sg b n (s_st b n S a) with | .inl e => .inl e | .inr q => s_lp b n g (t + 1) q.1 q.2 : Sum (Nat × Nat) (Nat × nT)) = .inr q := hq
    by_cases c : n ≤ a
    · rw [if_pos c] at hq
      cases hq
      exact ⟨hok, by show n_kc S ≤ 60; omega⟩
    · rw [if_neg c] at hq
      by_cases c2 : t = 60
      · rw [if_pos c2] at hq; cases hq
      · rw [if_neg c2] at hq
        rcases z : s_st b n S a with e | q0
        · rw [z] at hq; cases hq
        · rw [z] at hq
          have gs := st_ok hok ha z
          by_cases c3 : t_c b n q0.1 = 59
          · have e : s_sg b n (.inr q0) = .inr (sk b n (q0.1 + 1), q0.2) := if_pos c3
            rw [e] at hq
            have hl := t_c_in c3 (by omega)
            exact ih (t + 1) _ _ (by omega) (by omega) (sk_le (by omega)) gs.1 (by have := gs.2.2; omega) q hq
          · have e : s_sg b n (.inr q0) = .inl (1, q0.1) := if_neg c3
            rw [e] at hq; cases hq
theorem church_b (hok : okA A) : both2 (X11_church 0) (X12_church 215) A N := by
  intro I L ρ hX
  obtain ⟨wm, wk, sz, hs, h1⟩ := church_X hok hX
  refine ⟨_, _, N, h1, fun I L ρ hM => church_M hok hM hs, ?_, by omega⟩
  rcases z : s_lp (t_b A) (a_n A) 62 0 (sk (t_b A) (a_n A) 0) (n_0 wm wk sz) with e | q
  · exact okA_rf (okA_Fl hok)
  · have := lp_ok 62 0 _ _ rfl (by omega) (sk_le (Nat.zero_le _)) (okN_0 hs) (Nat.zero_le _) q z
    exact okA_Ch hok this.1 this.2
end B8q
