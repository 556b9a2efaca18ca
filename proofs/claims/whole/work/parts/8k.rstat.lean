/-! the reference: a statement -/
section B8k
variable {I I0 : Nat → Nat → Int32} {L L0 : Nat → Nat → Int64} {ρ : zRh} {h : zH} {b : Nat → Nat} {n a x j k u w side here : Nat} {r : rP} {S : nT}
theorem jF_50 {I' : Nat → Nat → Int32} {L' : Nat → Nat → Int64} {v : Int32} (h : jF I I' L L') : jF (u2 I 215 50 v) (u2 I' 215 50 v) L L' := by
  obtain ⟨⟨a1, a2, a3⟩, ⟨a4, a5, a6, a7⟩, a8, a9⟩ := h
  refine ⟨⟨fun x q1 q2 q3 q4 => by rw [u2r q1, u2r q1]; exact a1 x q1 q2 q3 q4, fun k q1 q2 q3 q4 q5 q6 q7 q8 q9 => ?_, fun z => ?_⟩, ⟨fun j hj => by rw [u2r (by omega), u2r (by omega)]; exact a4 j hj, fun j hj => by rw [u2r (by omega), u2r (by omega), u2r (by omega), u2r (by omega)]; exact a5 j hj, fun j hj => by rw [u2r (by omega), u2r (by omega), u2r (by omega), u2r (by omega)]; exact a6 j hj, fun j hj => by rw [u2r (by omega), u2r (by omega)]; exact a7 j hj⟩, a8, a9⟩
  · by_cases c : k = 50
    · rw [c, u2_ap, if_pos ⟨rfl, rfl⟩, u2_ap, if_pos ⟨rfl, rfl⟩]
    · rw [u2_ap, if_neg (by omega), u2_ap, if_neg (by omega)]
      exact a2 k q1 q2 q3 q4 q5 q6 q7 q8 q9
  · rw [u2_ap, if_neg (by omega)] at z
    rw [u2_ap, if_neg (by omega), u2_ap, if_neg (by omega), u2_ap, if_neg (by omega)]
    exact a3 z
theorem jN_50 {v : Int32} {R : nR} (h : jN I L b n R) : jN (u2 I 215 50 v) L b n R := by
  have f : ∀ k, k < 50 → u2 I 215 50 v 215 k = I 215 k := fun k hk => by rw [u2_ap, if_neg (by omega)]
  rcases R with e | q
  · obtain ⟨q1, q2, q3, q4, q5⟩ := h
    exact ⟨by rw [f 5 (by omega)]; exact q1, q2, by rw [f 6 (by omega)]; exact q3, q4, by rw [f 2 (by omega)]; exact q5⟩
  · obtain ⟨h1, h2, u, h3, h4⟩ := h
    exact ⟨tQ_fr2 (fun k hk => f k (by omega)) (u2r (by omega)) h1, jX_fr (fun d _ _ => u2r (by omega)) h2, u, jC_fr (f 49 (by omega)) (u2r (by omega)) (u2r (by omega)) (u2r (by omega)) rfl h3, h4⟩
/-- behind a statement -/
theorem st_231 {R : nR} (h : jN I L b n R) : ∃ I', X12_statementTold_J231 215 (hp I L ρ) = some (none, hp I' L ρ) ∧ jF (u2 I 215 50 (I 215 50 + 1)) I' L L ∧ jN I' L b n (s_sg b n R) ∧ I' 215 50 = I 215 50 + 1 := by
  have key : ∀ (I1 : Nat → Nat → Int32), X12_asksSign 215 59 (hp I L ρ) = some (none, hp I1 L ρ) → fxM I I1 → jN I1 L b n (s_sg b n R) → ∃ I', X12_statementTold_J231 215 (hp I L ρ) = some (none, hp I' L ρ) ∧ jF (u2 I 215 50 (I 215 50 + 1)) I' L L ∧ jN I' L b n (s_sg b n R) ∧ I' 215 50 = I 215 50 + 1 := by
    intro I1 e1 e2 e3
    have e50 : I1 215 50 = I 215 50 := e2.2.1 50 (by omega) (by omega) (by omega) (by omega) (by omega) (by omega)
    refine ⟨u2 I1 215 50 (I 215 50 + 1), ?_, jF_50 (jF_fx e2), jN_50 e3, by rw [u2_ap, if_pos ⟨rfl, rfl⟩]⟩
    unfold X12_statementTold_J231
    rw [rc_215, h_cv e1, gi_215, e50, pi_215]; rfl
  rcases R with e | q
  · exact key I (X12_asksSign_u (unM_ne h) _) fxM_refl h
  · obtain ⟨h1, h2, u, h3, h4⟩ := h
    obtain ⟨I1, a1, a2, a3⟩ := tQ_sign (L := L) (ρ := ρ) (c := 59) (by omega) (by decide) h1
    refine key I1 a1 a3 ?_
    have a2 : tQ I1 b n (if t_c b n q.1 = 59 then .inr (sk b n (q.1 + 1)) else .inl (1, q.1)) := a2
    show jN I1 L b n (if t_c b n q.1 = 59 then .inr (sk b n (q.1 + 1), q.2) else .inl (1, q.1))
    by_cases c : t_c b n q.1 = 59
    · rw [if_pos c] at a2 ⊢
      exact ⟨a2, jX_fx a3 h2, u, jC_fx a3 h3, by have := sk_ge (b := b) (n := n) (a := q.1 + 1); show u ≤ sk b n (q.1 + 1); omega⟩
    · rw [if_neg c] at a2 ⊢
      exact a2
theorem st_go {m : zM} {R : nR} {I' : Nat → Nat → Int32} {L' : Nat → Nat → Int64} (h1 : m (hp I L ρ) = some (none, hp I' L' ρ)) (h2 : jF I I' L L') (h3 : jN I' L' b n R) : ∃ I2 L2, z_rc 12 215 (z_cv m (X12_statementTold_J231 215)) (hp I L ρ) = some (none, hp I2 L2 ρ) ∧ jF (u2 I 215 50 (I 215 50 + 1)) I2 L L2 ∧ jN I2 L2 b n (s_sg b n R) ∧ I2 215 50 = I 215 50 + 1 := by
  obtain ⟨I2, a1, a2, a3, a4⟩ := st_231 (ρ := ρ) h3
  have e50 : I' 215 50 = I 215 50 := h2.1.2.1 50 (by omega) (by omega) (by omega) (by omega) (by omega) (by omega) (by omega) (by omega) (by omega)
  rw [e50] at a2 a4
  exact ⟨I2, L', by rw [rc_215, h_cv h1, a1], jF_tr (jF_50 h2) a2, a3, a4⟩
/-- a number into the row of the church -/
theorem st_num {i lo hi : Nat} {F : Nat → nT} (hi3 : i = 3 ∨ i = 4) (hlo : lo < 1000) (hhi : hi < 1000) (hF : ∀ v, F v = if i = 3 then n_rts S v else n_sls S v) (hX : jX I L S) (hC : jC I S u) (hu : u ≤ a) (h : tQ I b n (.inr a)) : ∃ I' L', (z_gr 12 40 215 fun x24 => z_rc 12 215 (z_ci (X12_number 215 (nI lo) (nI hi)) fun y25 => z_sa 20 x24 (nI i) y25 (X12_statementTold_J231 215))) (hp I L ρ) = some (none, hp I' L' ρ) ∧ jF (u2 I 215 50 (I 215 50 + 1)) I' L L' ∧ jN I' L' b n (s_sg b n (bd (r_num b n lo hi a) (fun a1 => .inr (a1, F (v_num b n lo hi a))))) ∧ I' 215 50 = I 215 50 + 1 := by
  obtain ⟨I1, v, a1, a2, a3, a4, a5⟩ := tQ_num (L := L) (ρ := ρ) (lo := lo) (hi := hi) (by omega) (by omega) h
  have e50 : u2 I1 246 i (nI v) 215 50 = I 215 50 := by rw [u2r (by omega)]; exact a3.2.1 50 (by omega) (by omega) (by omega) (by omega) (by omega) (by omega)
  have hT : jN (u2 I1 246 i (nI v)) L b n (bd (r_num b n lo hi a) (fun a1 => .inr (a1, F (v_num b n lo hi a)))) := by
    have a2 : tQ I1 b n (r_num b n lo hi a) := a2
    rcases q : r_num b n lo hi a with e | x
    · rw [q] at a2
      obtain ⟨q1, q2, q3, q4, q5⟩ := a2
      exact ⟨by rw [u2r (by omega)]; exact q1, q2, by rw [u2r (by omega)]; exact q3, q4, by rw [u2r (by omega)]; exact q5⟩
    · rw [q] at a2
      have ev : v = v_num b n lo hi a := a5 x q
      have hx := (v_num_in q (tQ_le h).1.1).2
      refine ⟨tQ_fr (u2r (by omega)) (u2r (by omega)) a2, ?_, u, jC_fr (by rw [u2r (by omega)]) (u2r (by omega)) (u2r (by omega)) (u2r (by omega)) ?_ (jC_fx a3 hC), by show u ≤ x; omega⟩
      · obtain ⟨⟨h1, h2⟩, ⟨h3, h4, h5⟩, h7, h8, h9⟩ := jX_fx a3 hX
        show jX _ L (F (v_num b n lo hi a))
        rw [hF, ← ev]
        unfold jX
        rw [u2r (show (248 : Nat) ≠ 246 by omega), u2r (show (249 : Nat) ≠ 246 by omega), u2r (show (250 : Nat) ≠ 246 by omega), u2r (show (251 : Nat) ≠ 246 by omega)]
        rcases hi3 with rfl | rfl
        · rw [if_pos rfl, u2_ap, if_neg (by omega), u2_ap, if_neg (by omega), u2_ap, if_neg (by omega), u2_ap, if_pos ⟨rfl, rfl⟩, u2_ap, if_neg (by omega)]
          exact ⟨⟨h1, h2⟩, ⟨h3, rfl, h5⟩, h7, h8, h9⟩
        · rw [if_neg (by omega), u2_ap, if_neg (by omega), u2_ap, if_neg (by omega), u2_ap, if_neg (by omega), u2_ap, if_neg (by omega), u2_ap, if_pos ⟨rfl, rfl⟩]
          exact ⟨⟨h1, h2⟩, ⟨h3, h4, rfl⟩, h7, h8, h9⟩
      · show n_cd (F _) = n_cd S
        rw [hF]
        split <;> rfl
  obtain ⟨I2, b1, b2, b3, b4⟩ := st_231 (ρ := ρ) hT
  rw [e50] at b2 b4
  exact ⟨I2, L, by rw [gr_215_40, rc_215, h_ci a1, sa_246 (by omega), b1], jF_tr (jF_50 (jF_tr (jF_fx a3) (jF_u (by omega)))) b2, b3, b4⟩
/-- a word of a statement -/
def st_w : List (Nat × List Nat) := [(218, [108, 101, 102, 116]), (219, [114, 105, 103, 104, 116]), (223, [107, 105, 110]), (224, [108, 105, 107, 101, 115]), (225, [107, 110, 111, 119, 115]), (226, [114, 111, 117, 110, 100, 115]), (227, [102, 101, 101, 108, 115]), (228, [108, 101, 116, 115]), (229, [108, 101, 97, 114, 110, 115])]
theorem st_take {q : Nat} {w : List Nat} (hw : wdM I) (hq : (q, w) ∈ wdL) (h : tQ I b n (.inr a)) : (isW b n a w = true ∧ ∃ I', X12_takes 215 q (hp I L ρ) = some (some (.int 1), hp I' L ρ) ∧ tQ I' b n (.inr (sk b n (a + wl b n a))) ∧ fxM I I') ∨ (¬ isW b n a w = true ∧ ∃ I', X12_takes 215 q (hp I L ρ) = some (some (.int 0), hp I' L ρ) ∧ tQ I' b n (.inr a) ∧ fxM I I') := by
  obtain ⟨I', a1, a2, a3⟩ := tQ_takes (L := L) (ρ := ρ) hw hq h
  have a1 : X12_takes 215 q (hp I L ρ) = some (some (.int (bI (isW b n a w))), hp I' L ρ) := a1
  have a2 : tQ I' b n (.inr (if isW b n a w = true then sk b n (a + w.length) else a)) := a2
  by_cases c : isW b n a w = true
  · rw [if_pos c] at a2
    rw [c] at a1
    have hl := isW_le c (tQ_le h).1.1
    rw [← hl.2.2] at a2
    exact Or.inl ⟨c, I', a1, a2, a3⟩
  · rw [if_neg c] at a2
    rw [show isW b n a w = false by simpa using c] at a1
    exact Or.inr ⟨c, I', a1, a2, a3⟩
theorem jF_50x {I1 I2 : Nat → Nat → Int32} {L2 : Nat → Nat → Int64} {v : Int32} (h1 : fxM I I1) (h2 : jF (u2 I1 215 50 v) I2 L L2) : jF (u2 I 215 50 v) I2 L L2 := jF_tr (jF_50 (jF_fx h1)) h2
end B8k
