/-! the reference: a statement, whichever it is -/
section B8l
variable {I I0 : Nat → Nat → Int32} {L L0 : Nat → Nat → Int64} {ρ : zRh} {h : zH} {b : Nat → Nat} {n a x j k u w t side here : Nat} {r : rP} {S : nT}
theorem ws1 : wsK 1 = [[108, 101, 102, 116], [114, 105, 103, 104, 116], [107, 105, 110], [108, 105, 107, 101, 115], [107, 110, 111, 119, 115], [114, 111, 117, 110, 100, 115], [102, 101, 101, 108, 115], [108, 101, 116, 115], [108, 101, 97, 114, 110, 115], [115, 108, 105, 112]] := rfl
def stG (I : Nat → Nat → Int32) (L : Nat → Nat → Int64) (ρ : zRh) (b : Nat → Nat) (n t : Nat) (R : nR) (m : zM) (J : Nat → Nat → Int32) : Prop := ∃ I' L', m (hp J L ρ) = some (none, hp I' L' ρ) ∧ jF (u2 I 215 50 (nI (t + 1))) I' L L' ∧ jN I' L' b n (s_sg b n R) ∧ I' 215 50 = nI (t + 1)
theorem st_end {J : Nat → Nat → Int32} {R R' : nR} {m : zM} (ht : I 215 50 = nI t) (hF : fxM I J) (hR : R' = R) (h : ∃ I' L', m (hp J L ρ) = some (none, hp I' L' ρ) ∧ jF (u2 J 215 50 (J 215 50 + 1)) I' L L' ∧ jN I' L' b n (s_sg b n R) ∧ I' 215 50 = J 215 50 + 1) : stG I L ρ b n t R' m J := by
  obtain ⟨I', L', a1, a2, a3, a4⟩ := h
  have e : J 215 50 + 1 = nI (t + 1) := by
    rw [hF.2.1 50 (by omega) (by omega) (by omega) (by omega) (by omega) (by omega), ht, nI_1]
  rw [e] at a2 a4
  exact ⟨I', L', a1, jF_50x hF a2, by rw [hR]; exact a3, a4⟩
theorem s_st_k {k : Nat} (h : t_in b n a (wsK 1) 0 = some k) : s_st b n S a = s_of b n S k a (sk b n (a + wl b n a)) := by
  unfold s_st
  rw [h]
theorem X12_statementTold_h (hw : wdM I) (hok : okN S) (hX : jX I L S) (hC : jC I S u) (hu : u ≤ a) (hk : n_kc S < 1000) (ht : I 215 50 = nI t) (ht60 : t < 60) (h2 : I 215 2 = nI a) (h : tQ I b n (.inr a)) : stG I L ρ b n t (s_st b n S a) (X12_statementTold 215) I := by
  have ha := (tQ_le h).1
  have hg := sk_ge (b := b) (n := n) (a := a + wl b n a)
  have hu0 : u ≤ sk b n (a + wl b n a) := by omega
  unfold stG X12_statementTold
  rw [gi_215, h2, gi_215, ht, h_if, if_neg (show ¬ nI t = 60 from fun q => by have := (nI_inj (b := 60) (by omega) (by omega)).mp q; omega)]
  have F0 : fxM I I := fxM_refl
  have T0 := h
  obtain hh0 := st_take (L := L) (ρ := ρ) (wdM_f hw F0) (q := 218) (w := [108, 101, 102, 116]) (by decide +kernel) T0
  rcases hh0 with ⟨c0, J, p1, p2, p3⟩ | ⟨c0, J1, p1, T1, p3⟩
  · rw [gr_215_11, rc_215, h_ci p1, h_if, if_neg (by decide)]
    have F := fxM_trans F0 p3
    have tin : t_in b n a (wsK 1) 0 = some 0 := by rw [ws1, t_in_c, if_pos c0]
    refine st_end ht F (s_st_k tin) ?_
    obtain ⟨I', L', e1, e2, e3⟩ := X12_oneTold_h (ρ := ρ) (side := 0) (here := a) (wdM_f hw F) hok (jX_fx F hX) (jC_fx F hC) hu0 (by omega) (by omega) p2
    exact st_go e1 e2 e3
  rw [gr_215_11, rc_215, h_ci p1, h_if, if_pos rfl]
  have F1 := fxM_trans F0 p3
  clear p1 p3
  obtain hh1 := st_take (L := L) (ρ := ρ) (wdM_f hw F1) (q := 219) (w := [114, 105, 103, 104, 116]) (by decide +kernel) T1
  rcases hh1 with ⟨c1, J, p1, p2, p3⟩ | ⟨c1, J2, p1, T2, p3⟩
  · rw [gr_215_12, rc_215, h_ci p1, h_if, if_neg (by decide)]
    have F := fxM_trans F1 p3
    have tin : t_in b n a (wsK 1) 0 = some 1 := by rw [ws1, t_in_c, if_neg c0, t_in_c, if_pos c1]
    refine st_end ht F (s_st_k tin) ?_
    obtain ⟨I', L', e1, e2, e3⟩ := X12_oneTold_h (ρ := ρ) (side := 1) (here := a) (wdM_f hw F) hok (jX_fx F hX) (jC_fx F hC) hu0 (by omega) (by omega) p2
    exact st_go e1 e2 e3
  rw [gr_215_12, rc_215, h_ci p1, h_if, if_pos rfl]
  have F2 := fxM_trans F1 p3
  clear p1 p3
  obtain hh2 := st_take (L := L) (ρ := ρ) (wdM_f hw F2) (q := 223) (w := [107, 105, 110]) (by decide +kernel) T2
  rcases hh2 with ⟨c2, J, p1, p2, p3⟩ | ⟨c2, J3, p1, T3, p3⟩
  · rw [gr_215_16, rc_215, h_ci p1, h_if, if_neg (by decide)]
    have F := fxM_trans F2 p3
    have tin : t_in b n a (wsK 1) 0 = some 2 := by rw [ws1, t_in_c, if_neg c0, t_in_c, if_neg c1, t_in_c, if_pos c2]
    refine st_end ht F (s_st_k tin) ?_
    obtain ⟨I', L', e1, e2, e3⟩ := X12_kinTold_h (ρ := ρ) (wdM_f hw F) hok (jX_fx F hX) (jC_fx F hC) hu0 hk p2
    exact st_go e1 e2 e3
  rw [gr_215_16, rc_215, h_ci p1, h_if, if_pos rfl]
  have F3 := fxM_trans F2 p3
  clear p1 p3
  obtain hh3 := st_take (L := L) (ρ := ρ) (wdM_f hw F3) (q := 224) (w := [108, 105, 107, 101, 115]) (by decide +kernel) T3
  rcases hh3 with ⟨c3, J, p1, p2, p3⟩ | ⟨c3, J4, p1, T4, p3⟩
  · rw [gr_215_17, rc_215, h_ci p1, h_if, if_neg (by decide)]
    have F := fxM_trans F3 p3
    have tin : t_in b n a (wsK 1) 0 = some 3 := by rw [ws1, t_in_c, if_neg c0, t_in_c, if_neg c1, t_in_c, if_neg c2, t_in_c, if_pos c3]
    refine st_end ht F (s_st_k tin) ?_
    obtain ⟨I', L', e1, e2, e3⟩ := X12_feltTold_h (ρ := ρ) (q := 250) (k := 0) (wdM_f hw F) hok (jX_fx F hX) (jC_fx F hC) hu0 (by omega) p2
    rw [gr_215_44]
    exact st_go e1 e2 e3
  rw [gr_215_17, rc_215, h_ci p1, h_if, if_pos rfl]
  have F4 := fxM_trans F3 p3
  clear p1 p3
  obtain hh4 := st_take (L := L) (ρ := ρ) (wdM_f hw F4) (q := 225) (w := [107, 110, 111, 119, 115]) (by decide +kernel) T4
  rcases hh4 with ⟨c4, J, p1, p2, p3⟩ | ⟨c4, J5, p1, T5, p3⟩
  · rw [gr_215_18, rc_215, h_ci p1, h_if, if_neg (by decide)]
    have F := fxM_trans F4 p3
    have tin : t_in b n a (wsK 1) 0 = some 4 := by rw [ws1, t_in_c, if_neg c0, t_in_c, if_neg c1, t_in_c, if_neg c2, t_in_c, if_neg c3, t_in_c, if_pos c4]
    refine st_end ht F (s_st_k tin) ?_
    obtain ⟨I', L', e1, e2, e3⟩ := X12_feltTold_h (ρ := ρ) (q := 251) (k := 1) (wdM_f hw F) hok (jX_fx F hX) (jC_fx F hC) hu0 (by omega) p2
    rw [gr_215_45]
    exact st_go e1 e2 e3
  rw [gr_215_18, rc_215, h_ci p1, h_if, if_pos rfl]
  have F5 := fxM_trans F4 p3
  clear p1 p3
  obtain hh5 := st_take (L := L) (ρ := ρ) (wdM_f hw F5) (q := 226) (w := [114, 111, 117, 110, 100, 115]) (by decide +kernel) T5
  rcases hh5 with ⟨c5, J, p1, p2, p3⟩ | ⟨c5, J6, p1, T6, p3⟩
  · rw [gr_215_19, rc_215, h_ci p1, h_if, if_neg (by decide)]
    have F := fxM_trans F5 p3
    have tin : t_in b n a (wsK 1) 0 = some 5 := by rw [ws1, t_in_c, if_neg c0, t_in_c, if_neg c1, t_in_c, if_neg c2, t_in_c, if_neg c3, t_in_c, if_neg c4, t_in_c, if_pos c5]
    refine st_end ht F (s_st_k tin) ?_
    exact st_num (i := 3) (lo := 1) (hi := 12) (F := fun v => n_rts S v) (by omega) (by omega) (by omega) (fun v => rfl) (jX_fx F hX) (jC_fx F hC) hu0 p2
  rw [gr_215_19, rc_215, h_ci p1, h_if, if_pos rfl]
  have F6 := fxM_trans F5 p3
  clear p1 p3
  obtain hh6 := st_take (L := L) (ρ := ρ) (wdM_f hw F6) (q := 227) (w := [102, 101, 101, 108, 115]) (by decide +kernel) T6
  rcases hh6 with ⟨c6, J, p1, p2, p3⟩ | ⟨c6, J7, p1, T7, p3⟩
  · rw [gr_215_20, rc_215, h_ci p1, h_if, if_neg (by decide)]
    have F := fxM_trans F6 p3
    have tin : t_in b n a (wsK 1) 0 = some 6 := by rw [ws1, t_in_c, if_neg c0, t_in_c, if_neg c1, t_in_c, if_neg c2, t_in_c, if_neg c3, t_in_c, if_neg c4, t_in_c, if_neg c5, t_in_c, if_pos c6]
    refine st_end ht F (s_st_k tin) ?_
    obtain ⟨I', L', e1, e2, e3⟩ := X12_codesTold_h (ρ := ρ) (w := 0) (here := a) (wdM_f hw F) (jX_fx F hX) (jC_fx F hC) hu0 (by omega) (by omega) p2
    exact st_go e1 e2 e3
  rw [gr_215_20, rc_215, h_ci p1, h_if, if_pos rfl]
  have F7 := fxM_trans F6 p3
  clear p1 p3
  obtain hh7 := st_take (L := L) (ρ := ρ) (wdM_f hw F7) (q := 228) (w := [108, 101, 116, 115]) (by decide +kernel) T7
  rcases hh7 with ⟨c7, J, p1, p2, p3⟩ | ⟨c7, J8, p1, T8, p3⟩
  · rw [gr_215_21, rc_215, h_ci p1, h_if, if_neg (by decide)]
    have F := fxM_trans F7 p3
    have tin : t_in b n a (wsK 1) 0 = some 7 := by rw [ws1, t_in_c, if_neg c0, t_in_c, if_neg c1, t_in_c, if_neg c2, t_in_c, if_neg c3, t_in_c, if_neg c4, t_in_c, if_neg c5, t_in_c, if_neg c6, t_in_c, if_pos c7]
    refine st_end ht F (s_st_k tin) ?_
    obtain ⟨I', L', e1, e2, e3⟩ := X12_codesTold_h (ρ := ρ) (w := 1) (here := a) (wdM_f hw F) (jX_fx F hX) (jC_fx F hC) hu0 (by omega) (by omega) p2
    exact st_go e1 e2 e3
  rw [gr_215_21, rc_215, h_ci p1, h_if, if_pos rfl]
  have F8 := fxM_trans F7 p3
  clear p1 p3
  obtain hh8 := st_take (L := L) (ρ := ρ) (wdM_f hw F8) (q := 229) (w := [108, 101, 97, 114, 110, 115]) (by decide +kernel) T8
  rcases hh8 with ⟨c8, J, p1, p2, p3⟩ | ⟨c8, J9, p1, T9, p3⟩
  · rw [gr_215_22, rc_215, h_ci p1, h_if, if_neg (by decide)]
    have F := fxM_trans F8 p3
    have tin : t_in b n a (wsK 1) 0 = some 8 := by rw [ws1, t_in_c, if_neg c0, t_in_c, if_neg c1, t_in_c, if_neg c2, t_in_c, if_neg c3, t_in_c, if_neg c4, t_in_c, if_neg c5, t_in_c, if_neg c6, t_in_c, if_neg c7, t_in_c, if_pos c8]
    refine st_end ht F (s_st_k tin) ?_
    obtain ⟨I', L', e1, e2, e3⟩ := X12_codesTold_h (ρ := ρ) (w := 2) (here := a) (wdM_f hw F) (jX_fx F hX) (jC_fx F hC) hu0 (by omega) (by omega) p2
    exact st_go e1 e2 e3
  rw [gr_215_22, rc_215, h_ci p1, h_if, if_pos rfl]
  have F9 := fxM_trans F8 p3
  clear p1 p3
  obtain ⟨J, p1, p2, p3⟩ := tQ_asks (L := L) (ρ := ρ) (wdM_f hw F9) (q := 230) (w := [115, 108, 105, 112]) (by decide +kernel) T9
  have F := fxM_trans F9 p3
  have p2 : tQ J b n (r_w b n [115, 108, 105, 112] a) := p2
  rw [gr_215_23, rc_215, h_cv p1]
  by_cases c9 : isW b n a [115, 108, 105, 112] = true
  · have tin : t_in b n a (wsK 1) 0 = some 9 := by rw [ws1, t_in_c, if_neg c0, t_in_c, if_neg c1, t_in_c, if_neg c2, t_in_c, if_neg c3, t_in_c, if_neg c4, t_in_c, if_neg c5, t_in_c, if_neg c6, t_in_c, if_neg c7, t_in_c, if_neg c8, t_in_c, if_pos c9]
    have er : r_w b n [115, 108, 105, 112] a = .inr (sk b n (a + wl b n a)) := by
      unfold r_w
      rw [if_pos c9, (isW_le c9 ha.1).2.2]
    rw [er] at p2
    refine st_end ht F (s_st_k tin) ?_
    exact st_num (i := 4) (lo := 0) (hi := 100) (F := fun v => n_sls S v) (by omega) (by omega) (by omega) (fun v => rfl) (jX_fx F hX) (jC_fx F hC) hu0 p2
  · have tin : t_in b n a (wsK 1) 0 = none := by
      rw [ws1, t_in_c, if_neg c0, t_in_c, if_neg c1, t_in_c, if_neg c2, t_in_c, if_neg c3, t_in_c, if_neg c4, t_in_c, if_neg c5, t_in_c, if_neg c6, t_in_c, if_neg c7, t_in_c, if_neg c8, t_in_c, if_neg c9]; rfl
    have er : r_w b n [115, 108, 105, 112] a = .inl (1, a) := by
      unfold r_w
      rw [if_neg c9]
    rw [er] at p2
    have es : s_st b n S a = .inl (1, a) := by
      unfold s_st
      rw [tin]
    refine st_end ht F es ?_
    obtain ⟨I1, v, a1, a2, a3, -⟩ := tQ_num (L := L) (ρ := ρ) (lo := 0) (hi := 100) (by omega) (by omega) p2
    have a2 : unM I1 n 1 a := a2
    have hT : jN (u2 I1 246 4 (nI v)) L b n (.inl (1, a)) := by
      obtain ⟨q1, q2, q3, q4, q5⟩ := a2
      exact ⟨by rw [u2r (by omega)]; exact q1, q2, by rw [u2r (by omega)]; exact q3, q4, by rw [u2r (by omega)]; exact q5⟩
    have e50 : u2 I1 246 4 (nI v) 215 50 = J 215 50 := by rw [u2r (by omega)]; exact a3.2.1 50 (by omega) (by omega) (by omega) (by omega) (by omega) (by omega)
    obtain ⟨I2, b1, b2, b3, b4⟩ := st_231 (ρ := ρ) hT
    rw [e50] at b2 b4
    refine ⟨I2, L, ?_, jF_tr (jF_50 (jF_tr (jF_fx a3) (jF_u (by omega)))) b2, b3, b4⟩
    rw [gr_215_40, rc_215, show X12_number 215 0 100 = X12_number 215 (nI 0) (nI 100) from rfl, h_ci a1, sal_4, sa_246 (by omega), b1]
end B8l
