/-! the reference: one of the left, of the right, all of it -/
section B8h
variable {I I0 : Nat → Nat → Int32} {L L0 : Nat → Nat → Int64} {ρ : zRh} {h : zH} {b : Nat → Nat} {n a x j k u side here : Nat} {r : rP} {S : nT}
def o99 (b : Nat → Nat) (n : Nat) (r : rP) : rP := br (br (br (br (br (br r (r_w b n w_wa)) (r_num b n 0 9)) (r_w b n w_wo)) (r_num b n 0 9)) (r_w b n w_si)) (r_num b n 0 9)
def o99x (b : Nat → Nat) (n : Nat) (r : rP) : Nat := vl b n 0 9 (br r (r_w b n w_wa))
def o99y (b : Nat → Nat) (n : Nat) (r : rP) : Nat := vl b n 0 9 (br (br (br r (r_w b n w_wa)) (r_num b n 0 9)) (r_w b n w_wo))
def o99z (b : Nat → Nat) (n : Nat) (r : rP) : Nat := vl b n 0 9 (br (br (br (br (br r (r_w b n w_wa)) (r_num b n 0 9)) (r_w b n w_wo)) (r_num b n 0 9)) (r_w b n w_si))
theorem br_st {F : Nat → rP} {q : Nat} (h : br r F = .inr q) : ∃ q', r = .inr q' := by
  rcases r with e | a
  · cases h
  · exact ⟨a, rfl⟩
theorem br_l {F : Nat → rP} {e : Nat × Nat} (h : r = .inl e) : br r F = .inl e := by rw [h]; rfl
theorem one_99 (hw : wdM I) (h : tQ I b n r) {v : Int64} : ∃ I', fxM I I' ∧ tQ I' b n (o99 b n r) ∧ (∀ e, o99 b n r = .inl e → X12_oneTold_J99 215 (nI side) v (hp I L ρ) = some (none, hp I' L ρ)) ∧ ∀ q c, o99 b n r = .inr q → side < 2 → c < 6 → I 246 side = nI c → X12_oneTold_J99 215 (nI side) v (hp I L ρ) = some (none, hp (u2 (u2 (u2 (u2 I' 248 (3 * (6 * side + c)) (nI (o99x b n r))) 248 (3 * (6 * side + c) + 1) (nI (o99y b n r))) 248 (3 * (6 * side + c) + 2) (nI (o99z b n r))) 246 side (nI (c + 1))) (u2 L 247 (6 * side + c) v) ρ) := by
  obtain ⟨I1, a1, a2, a3⟩ := tQ_asks (L := L) (ρ := ρ) hw (q := 220) (w := w_wa) (by decide +kernel) h
  have w1 := wdM_f hw a3
  obtain ⟨I2, x, b1, b2, b3, b4, b5⟩ := tQ_num (L := L) (ρ := ρ) (lo := 0) (hi := 9) (by omega) (by omega) a2
  have w2 := wdM_f w1 b3
  obtain ⟨I3, c1, c2, c3⟩ := tQ_asks (L := L) (ρ := ρ) w2 (q := 221) (w := w_wo) (by decide +kernel) b2
  have w3 := wdM_f w2 c3
  obtain ⟨I4, y, d1, d2, d3, d4, d5⟩ := tQ_num (L := L) (ρ := ρ) (lo := 0) (hi := 9) (by omega) (by omega) c2
  have w4 := wdM_f w3 d3
  obtain ⟨I5, e1, e2, e3⟩ := tQ_asks (L := L) (ρ := ρ) w4 (q := 222) (w := w_si) (by decide +kernel) d2
  obtain ⟨I6, z, f1, f2, f3, f4, f5⟩ := tQ_num (L := L) (ρ := ρ) (lo := 0) (hi := 9) (by omega) (by omega) e2
  have hF : fxM I I6 := fxM_trans a3 (fxM_trans b3 (fxM_trans c3 (fxM_trans d3 (fxM_trans e3 f3))))
  have run : X12_oneTold_J99 215 (nI side) v (hp I L ρ) = (z_if (I6 215 5 = 0) (z_gr 12 40 215 fun x8 => z_la 20 x8 (nI side) fun x9 => z_gr 12 41 215 fun x10 => z_sl x10 ((6 * nI side) + x9) v (z_gr 12 42 215 fun x11 => z_sa 20 x11 (3 * ((6 * nI side) + x9)) (nI x) (z_gr 12 42 215 fun x12 => z_sa 20 x12 ((3 * ((6 * nI side) + x9)) + 1) (nI y) (z_gr 12 42 215 fun x13 => z_sa 20 x13 ((3 * ((6 * nI side) + x9)) + 2) (nI z) (z_gr 12 40 215 fun x14 => z_la 20 x14 (nI side) fun x15 => z_sa 20 x14 (nI side) (x15 + 1) (z_ret none)))))) (z_ret none)) (hp I6 L ρ) := by
    unfold X12_oneTold_J99
    rw [gr_215_13, rc_215, h_cv a1, rc_215, show X12_number 215 0 9 = X12_number 215 (nI 0) (nI 9) from rfl, h_ci b1, gr_215_14, rc_215, h_cv c1, rc_215, h_ci d1, gr_215_15, rc_215, h_cv e1, rc_215, h_ci f1, gi_215]
  refine ⟨I6, hF, f2, fun e he => ?_, fun q c hq hs hc hI => ?_⟩
  · have f2 : tQ I6 b n (o99 b n r) := f2
    rw [he] at f2
    rw [run, h_if, if_neg (unM_ne f2)]; rfl
  · have g2 : tQ I6 b n (o99 b n r) := f2
    rw [hq] at g2
    have h5 : I6 215 5 = 0 := by obtain ⟨x, -, -, h3⟩ := g2; exact h3
    have hI6 : I6 246 side = nI c := by rw [hF.1 246 (by decide)]; exact hI
    have t6 : ∃ q', br (br (br (br (br r (r_w b n w_wa)) (r_num b n 0 9)) (r_w b n w_wo)) (r_num b n 0 9)) (r_w b n w_si) = .inr q' := br_st hq
    obtain ⟨p5, t5⟩ := t6
    obtain ⟨p4, t4⟩ := br_st t5
    obtain ⟨p3, t3⟩ := br_st t4
    obtain ⟨p2, t2⟩ := br_st t3
    have ex : x = o99x b n r := b5 _ t2
    have ey : y = o99y b n r := d5 _ t4
    have ez : z = o99z b n r := f5 _ hq
    rw [run, h_if, if_pos h5, gr_215_40, la_246 (by omega), hI6, show (6 : Int32) = nI 6 from rfl, show (3 : Int32) = nI 3 from rfl, show (2 : Int32) = nI 2 from rfl, pk_mul, nI_add, pk_mul, nI_add, nI_1, gr_215_41, sl_247 (by omega), gr_215_42, sa_248 (by omega), gr_215_42, sa_248 (by omega), gr_215_42, sa_248 (by omega), gr_215_40, la_246 (by omega), u2r (by omega), u2r (by omega), u2r (by omega), hI6, nI_1, sa_246 (by omega), ex, ey, ez]; rfl
theorem jX_add {nm : Nat → Nat} {x y z : Nat} {I' : Nat → Nat → Int32} {L' : Nat → Nat → Int64} (hok : okN S) (hs : side < 2) (h6 : n_n S side < 6) (hX : jX I L S) (hI : ∀ d, 246 ≤ d → d ≤ 251 → I' d = u2 (u2 (u2 (u2 I 248 (3 * (6 * side + n_n S side)) (nI x)) 248 (3 * (6 * side + n_n S side) + 1) (nI y)) 248 (3 * (6 * side + n_n S side) + 2) (nI z)) 246 side (nI (n_n S side + 1)) d) (hL : L' 247 = u2 L 247 (6 * side + n_n S side) (cl (p_nmv nm 6 : Nat)) 247) : jX I' L' (n_add S side nm x y z) := by
  obtain ⟨⟨h1, h2⟩, ⟨h3, h4, h5⟩, h7, h8, h9⟩ := hX
  have o : ∀ c, n_th S c → c ≠ 6 * side + n_n S side := fun c => n_new_no hok hs h6
  have u := fun (f : Nat → Nat) (k v j : Nat) => (rfl : upn f k v j = if j = k then v else f j)
  unfold jX
  rw [hI 246 (by omega) (by omega), hI 248 (by omega) (by omega), hI 249 (by omega) (by omega), hI 250 (by omega) (by omega), hI 251 (by omega) (by omega), hL]
  refine ⟨?_, ⟨?_, ?_, ?_⟩, fun c hc => ?_, fun j hj => ?_, fun j hj => ?_⟩
  · show _ = nI (upn (n_n S) side (n_n S side + 1) 0) ∧ _ = nI (upn (n_n S) side (n_n S side + 1) 1)
    rcases (show side = 0 ∨ side = 1 by omega) with rfl | rfl
    · rw [upn_s, upn_n (by omega), u2_ap, if_pos ⟨rfl, rfl⟩, u2_ap, if_neg (by omega), u2r (by omega), u2r (by omega), u2r (by omega)]
      exact ⟨rfl, h2⟩
    · rw [upn_s, upn_n (by omega)]
      refine ⟨?_, ?_⟩
      · rw [u2_ap, if_neg (by omega), u2r (by omega), u2r (by omega), u2r (by omega)]; exact h1
      · rw [u2_ap, if_pos ⟨rfl, rfl⟩]
  · rw [u2_ap, if_neg (by omega), u2r (by omega), u2r (by omega), u2r (by omega)]; exact h3
  · rw [u2_ap, if_neg (by omega), u2r (by omega), u2r (by omega), u2r (by omega)]; exact h4
  · rw [u2_ap, if_neg (by omega), u2r (by omega), u2r (by omega), u2r (by omega)]; exact h5
  · have e1 : n_wm (n_add S side nm x y z) = upn (n_wm S) (6 * side + n_n S side) x := rfl
    have e2 : n_wk (n_add S side nm x y z) = upn (n_wk S) (6 * side + n_n S side) y := rfl
    have e3 : n_sz (n_add S side nm x y z) = upn (n_sz S) (6 * side + n_n S side) z := rfl
    rw [e1, e2, e3]
    rcases (n_add_th hs h6).mp hc with q | q
    · have oc := o c q
      obtain ⟨k1, k2, k3, k4⟩ := h7 c q
      rw [upn_n oc, upn_n oc, upn_n oc]
      refine ⟨?_, ?_, ?_, ?_⟩
      · rw [u2_ap, if_neg (by omega), k1, nmv_cg 6 (fun i hi => (n_add_o oc hi).symm)]
      · rw [u2r (by omega), u2_ap, if_neg (by omega), u2_ap, if_neg (by omega), u2_ap, if_neg (by omega)]; exact k2
      · rw [u2r (by omega), u2_ap, if_neg (by omega), u2_ap, if_neg (by omega), u2_ap, if_neg (by omega)]; exact k3
      · rw [u2r (by omega), u2_ap, if_neg (by omega), u2_ap, if_neg (by omega), u2_ap, if_neg (by omega)]; exact k4
    · subst q
      rw [upn_s, upn_s, upn_s]
      refine ⟨?_, ?_, ?_, ?_⟩
      · rw [u2_ap, if_pos ⟨rfl, rfl⟩, nmv_cg 6 (fun i hi => n_add_s hi)]
      · rw [u2r (by omega), u2_ap, if_neg (by omega), u2_ap, if_neg (by omega), u2_ap, if_pos ⟨rfl, rfl⟩]
      · rw [u2r (by omega), u2_ap, if_neg (by omega), u2_ap, if_pos ⟨rfl, rfl⟩]
      · rw [u2r (by omega), u2_ap, if_pos ⟨rfl, rfl⟩]
  · rw [u2r (by omega), u2r (by omega), u2r (by omega), u2r (by omega)]; exact h8 j hj
  · rw [u2r (by omega), u2r (by omega), u2r (by omega), u2r (by omega), u2r (by omega), u2r (by omega), u2r (by omega), u2r (by omega)]; exact h9 j hj
theorem X12_oneTold_h (hw : wdM I) (hok : okN S) (hX : jX I L S) (hC : jC I S u) (hu : u ≤ a) (hs : side < 2) (hh : here ≤ 1600) (h : tQ I b n (.inr a)) : ∃ I' L', X12_oneTold 215 (nI side) (nI here) (hp I L ρ) = some (none, hp I' L' ρ) ∧ jF I I' L L' ∧ jN I' L' b n (s_one b n S side here a) := by
  have h5 : I 215 5 = 0 := by obtain ⟨x, -, -, h3⟩ := h; exact h3
  have hn := hok.1
  have hn6 : n_n S side ≤ 6 := by rcases (show side = 0 ∨ side = 1 by omega) with rfl | rfl <;> omega
  have hI : I 246 side = nI (n_n S side) := by
    rcases (show side = 0 ∨ side = 1 by omega) with rfl | rfl
    · exact hX.1.1
    · exact hX.1.2
  obtain ⟨r0, hr0⟩ : ∃ r0 : rP, r0 = if 6 ≤ n_n S side then .inl (5, here) else .inr a := ⟨_, rfl⟩
  have s0 : ∃ I0, X12_oneTold 215 (nI side) (nI here) (hp I L ρ) = X12_oneTold_J24 215 (nI side) (hp I0 L ρ) ∧ tQ I0 b n r0 ∧ fxM I I0 := by
    unfold X12_oneTold
    rw [gi_215, h_if, if_pos h5, gr_215_40, la_246 (by omega), hI, h_if]
    by_cases c : 6 ≤ n_n S side
    · obtain ⟨I0, f1, f2, f3⟩ := tQ_fail (L := L) (ρ := ρ) (k := 5) (p := here) (by omega) (by omega) h
      rw [if_pos (show nI (n_n S side) = 6 by rw [show n_n S side = 6 by omega]; rfl), rc_215, show X12_fail 215 5 (nI here) = X12_fail 215 (nI 5) (nI here) from rfl, h_cv f1]
      exact ⟨I0, rfl, by rw [hr0, if_pos c]; exact f2, f3⟩
    · rw [if_neg (show ¬ nI (n_n S side) = 6 from fun q => by have := (nI_inj (b := 6) (by omega) (by omega)).mp q; omega)]
      exact ⟨I, rfl, by rw [hr0, if_neg c]; exact h, fxM_refl⟩
  obtain ⟨I0, z1, z2, z3⟩ := s0
  obtain ⟨I1, v, a1, a2, a3, a4⟩ := tQ_name (L := L) (ρ := ρ) (wdM_f hw z3) z2
  have F1 := fxM_trans z3 a3
  have X1 := jX_fx F1 hX
  -- the names that are told
  have s2 : ∃ I2, z_fix (fun r x => X12_oneTold_B32 215 (nI side) v r x) zFU 0 (hp I1 L ρ) = X12_oneTold_J99 215 (nI side) v (hp I2 L ρ) ∧ tQ I2 b n (br r0 (r_nn b n S)) ∧ fxM I1 I2 ∧ ∀ a2, br r0 (r_nn b n S) = .inr a2 → v = cl (p_nmv (p_nml b n a) 6 : Nat) := by
    rcases q : br r0 (r_nm b n) with e | a1'
    · rw [q] at a2
      have e2 : br r0 (r_nn b n S) = .inl e := by
        rcases r0 with e1 | a0
        · exact q
        · show br (r_nm b n a0) _ = _
          have q : r_nm b n a0 = .inl e := q
          rw [q]; rfl
      exact ⟨I1, one_8u hok X1.1 (unM_ne a2), by rw [e2]; exact a2, fxM_refl, fun a2 q2 => by rw [e2] at q2; cases q2⟩
    · rw [q] at a2
      have c6 : ¬ 6 ≤ n_n S side := fun c => by rw [hr0, if_pos c] at q; cases q
      rw [if_neg c6] at hr0
      subst hr0
      have q : r_nm b n a = .inr a1' := q
      obtain ⟨hv, h39⟩ := a4 a a1' rfl q
      have h51 : I1 215 5 = 0 := by obtain ⟨x, -, -, h3⟩ := a2; exact h3
      have hm := (okm_nml (r_nm_in q).1).1
      have ha := (tQ_le h).1
      have e := one_8s (L := L) (ρ := ρ) (v := v) (v1 := nI side) hok X1.1 h51
      have hP : ∀ y, n_th S y → (decide (L 247 y = v) = true ↔ ∀ i, i < 6 → n_nm S (6 * y + i) = p_nml b n a i) := by
        intro y hy
        rw [decide_eq_true_eq, (X1.2.2.1 y hy).1, hv]
        exact nmv_eq (hok.2.1 y hy) hm
      have er : r_nn b n S a = if n_fd S (p_nml b n a) 12 0 = none then .inr a1' else .inl (3, a) := by
        show br (r_nm b n a) _ = _
        rw [q]; rfl
      show ∃ I2, _ ∧ tQ I2 b n (r_nn b n S a) ∧ _
      rcases t : fsA (fun y => decide (L 247 y = v)) S with _ | y
      · rw [t] at e
        have no : n_fd S (p_nml b n a) 12 0 = none := by
          rcases z : n_fd S (p_nml b n a) 12 0 with _ | w
          · rfl
          · have z1 := n_fd_s _ _ _ z
            exact absurd ((hP w z1.2.1).mpr z1.2.2) (fsA_n t z1.2.1)
        rw [if_pos no] at er
        exact ⟨I1, e, by rw [er]; exact a2, fxM_refl, fun _ _ => hv⟩
      · rw [t] at e
        have t1 := fsA_s t
        have yes : ¬ n_fd S (p_nml b n a) 12 0 = none := fun z => n_fd_n 12 0 y z (Nat.zero_le _) (by have := n_th_lt hok t1.1; omega) t1.1 ((hP y t1.1).mp t1.2)
        rw [if_neg yes] at er
        have e : z_fix (fun r x => X12_oneTold_B32 215 (nI side) v r x) zFU 0 (hp I1 L ρ) = X12_oneTold_J99 215 (nI side) v (hp (u2 (u2 I1 215 5 3) 215 6 (I1 215 39)) L ρ) := e
        obtain ⟨I2, f1, f2, f3⟩ := tQ_fail (L := L) (ρ := ρ) (k := 3) (p := a) (by omega) (by omega) a2
        have e2 : hp I2 L ρ = hp (u2 (u2 I1 215 5 3) 215 6 (I1 215 39)) L ρ := by
          have := X12_fail_s (L := L) (ρ := ρ) h51 (nI 3) (nI a)
          rw [f1] at this
          rw [h39]
          exact congrArg Prod.snd (Option.some.inj this)
        rw [← e2] at e
        exact ⟨I2, e, by rw [er]; exact f2, f3, fun a2 q2 => by have q2 : r_nn b n S a = .inr a2 := q2; rw [er] at q2; cases q2⟩
  obtain ⟨I2, b1, b2, b3, b4⟩ := s2
  have F2 := fxM_trans F1 b3
  have X2 := jX_fx F2 hX
  obtain ⟨I3, c1, c2, c3, c4⟩ := one_99 (side := side) (L := L) (ρ := ρ) (wdM_f hw F2) b2 (v := v)
  have F3 := fxM_trans F2 c1
  have run : X12_oneTold 215 (nI side) (nI here) (hp I L ρ) = X12_oneTold_J99 215 (nI side) v (hp I2 L ρ) := by
    rw [z1]
    unfold X12_oneTold_J24
    rw [rc_215, h_cl a1, b1]
  rw [run]
  have so : s_one b n S side here a = bd (o99 b n (br r0 (r_nn b n S))) (fun a1 => .inr (a1, n_add S side (p_nml b n a) (o99x b n (br r0 (r_nn b n S))) (o99y b n (br r0 (r_nn b n S))) (o99z b n (br r0 (r_nn b n S))))) := by
    unfold s_one
    by_cases c : 6 ≤ n_n S side
    · rw [if_pos c, hr0, if_pos c]; rfl
    · rw [if_neg c, hr0, if_neg c]; rfl
  rw [so]
  rcases q : o99 b n (br r0 (r_nn b n S)) with e | a9
  · rw [q] at c2
    exact ⟨I3, L, c3 e q, jF_fx F3, c2⟩
  · rw [q] at c2
    have c6 : n_n S side < 6 := by
      by_cases c : 6 ≤ n_n S side
      · rw [hr0, if_pos c] at q; cases q
      · omega
    have e := c4 a9 (n_n S side) q hs c6 (by rw [F2.1 246 (by decide)]; exact hI)
    have q2 : ∃ a2, br r0 (r_nn b n S) = .inr a2 := by
      obtain ⟨p5, t5⟩ := br_st q
      obtain ⟨p4, t4⟩ := br_st t5
      obtain ⟨p3, t3⟩ := br_st t4
      obtain ⟨p2, t2⟩ := br_st t3
      obtain ⟨p1, t1⟩ := br_st t2
      exact br_st t1
    obtain ⟨a2', q2⟩ := q2
    have hv := b4 a2' q2
    have hle : a ≤ a9 := by
      rw [hr0, if_neg (by omega)] at q
      have := (one_in (S := S) (tQ_le h).1.1 (show ot_6 b n S a = .inr a9 from q)).2
      exact this
    refine ⟨_, _, e, jF_tr (jF_fx F3) (jF_tr (jF_tr (jF_u (by omega)) (jF_tr (jF_u (by omega)) (jF_tr (jF_u (by omega)) (jF_u (by omega))))) (jF_L (by omega))), ?_⟩
    refine ⟨tQ_fr (by rw [u2r (by omega), u2r (by omega), u2r (by omega), u2r (by omega)]) (by rw [u2r (by omega), u2r (by omega), u2r (by omega), u2r (by omega)]) c2, jX_add hok hs c6 (jX_fx F3 hX) (fun d _ _ => rfl) (by rw [hv]), u, ?_, by show u ≤ a9; omega⟩
    exact jC_fr (by rw [u2r (by omega), u2r (by omega), u2r (by omega), u2r (by omega)]) (by rw [u2r (by omega), u2r (by omega), u2r (by omega), u2r (by omega)]) (by rw [u2r (by omega), u2r (by omega), u2r (by omega), u2r (by omega)]) (by rw [u2r (by omega), u2r (by omega), u2r (by omega), u2r (by omega)]) rfl (jC_fx F3 hC)
end B8h
