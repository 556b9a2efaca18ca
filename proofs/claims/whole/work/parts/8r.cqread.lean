/-! the class reads a question -/
section B8r
variable {I I0 : Nat → Nat → Int32} {L L0 : Nat → Nat → Int64} {ρ : zRh} {h : zH} {b : Nat → Nat} {n a x j k u w t side here : Nat} {r : rP} {S : nT} {A : aT} {N : Nat}
def q_en (n k : Nat) (r : pR) : Sum (Nat × Nat) (Nat × List Nat) := match r with
  | .inl e => .inl e
  | .inr q => if n ≤ q.1 then .inr (k, q.2) else .inl (1, q.1)
def q_pq (b : Nat → Nat) (n a k : Nat) : pR := pq b n 3 60 (if 2 < k then 3 else 0) 0 (sk b n (a + wl b n a)) 0 0
def q_rd (b : Nat → Nat) (n a : Nat) : Sum (Nat × Nat) (Nat × List Nat) := match t_in b n a (wsK 15) 0 with
  | none => .inl (1, a)
  | some k => q_en n k (q_pq b n a k)
def qX (I : Nat → Nat → Int32) (b : Nat → Nat) (n : Nat) (R : Sum (Nat × Nat) (Nat × List Nat)) : Prop := match R with
  | .inl e => tX I b n (.inl e)
  | .inr q => I 2 3 = 0 ∧ I 3 4 = nI q.1 ∧ (I 6 0 = nI 0 ∧ I 7 0 = nI (0 + q.2.length) ∧ I 4 1 = nI q.2.length ∧ q.2.length ≤ 1616) ∧ ∀ i, i < q.2.length → I 5 (0 + i) = nI (q.2.getD i 0)
def qfr (I I' : Nat → Nat → Int32) : Prop := (∀ d, d ≠ 2 → d ≠ 3 → d ≠ 4 → d ≠ 5 → d ≠ 6 → d ≠ 7 → d ≠ 10 → d ≠ 12 → I' d = I d) ∧ fC I I'
theorem qfr_tr {I1 I2 : Nat → Nat → Int32} (h1 : qfr I I1) (h2 : qfr I1 I2) : qfr I I2 := ⟨fun d a c e f g i j l => by rw [h2.1 d a c e f g i j l, h1.1 d a c e f g i j l], fC_tr h1.2 h2.2⟩
theorem qfr_fX {I' : Nat → Nat → Int32} (h : fX I I') : qfr I I' := ⟨fun d a _ _ _ _ _ _ c => h.1 d a c, h.2⟩
theorem qfr_u {c k : Nat} {v : Int32} (hc : (3 ≤ c ∧ c ≤ 7) ∨ c = 10) : qfr I (u2 I c k v) := ⟨fun d _ _ _ _ _ _ _ _ => u2r (by omega), fC_u (by omega)⟩
theorem tX_end (h : tX I b n r) : ∃ I' v, X9_ended 2 (hp I L ρ) = some (some (.int (bI v)), hp I' L ρ) ∧ tX I' b n r ∧ fX I I' ∧ ∀ a, r = .inr a → v = decide (n ≤ a) := by
  obtain ⟨I', y, r1, r2, r3, r4, r5⟩ := tX_begin (L := L) (ρ := ρ) h
  have hn := h.1.2.1
  refine ⟨I', decide (n ≤ y), ?_, r2, r3, fun a q => by rw [(r4 a q).1]⟩
  unfold X9_ended
  rw [rc_2, h_ci r1, gi_2, r2.1.1, h_if]
  by_cases c : n ≤ y
  · rw [if_neg (fun q => by have := (nI_lt' (by omega) (by omega)).mp q; omega), h_rb1, decide_eq_true c]; rfl
  · rw [if_pos ((nI_lt' (by omega) (by omega)).mpr (by omega)), h_rb0, decide_eq_false c]; rfl
theorem tX_fr7 {I' : Nat → Nat → Int32} (h1 : I' 2 = I 2) (h2 : I' 1 = I 1) (h : tX I b n r) : tX I' b n r := by
  refine ⟨txX_fr h2 (by rw [h1]) h.1, ?_⟩
  have := h.2
  rcases r with e | a
  · rw [h1]; exact this
  · rw [h1]; exact this
/-- behind the formula of a question -/
theorem rd_97 {q : pR} (hU : gU 4 0 3 I ρ b n [] q) (hk : I 3 4 = nI k) (h6 : I 6 0 = nI 0) (hl : ∀ z, q = .inr z → z.2.length ≤ 1600) : ∃ I', X7_read_J97 3 (hp I L ρ) = some (none, hp I' L ρ) ∧ qfr I I' ∧ qX I' b n (q_en n k q) := by
  obtain ⟨y1, y2, y3⟩ := hU
  obtain ⟨r, u, hr, hu, hT, hru⟩ : ∃ (r : rP) (u : Nat), I 4 1 = nI u ∧ u ≤ 1616 ∧ tX I b n r ∧ match q with
      | .inl e => r = .inl e
      | .inr z => r = .inr z.1 ∧ u = z.2.length := by
    rcases q with e | z
    · obtain ⟨w1, w2, w3, w4, u, w5, w6, w7⟩ := y3
      exact ⟨.inl e, u, w7, w6, ⟨y1, w1, w2, w3, w4⟩, rfl⟩
    · obtain ⟨w1, w2, w3, w4, w5⟩ := y3
      have w3 : I 4 1 = nI (0 + z.2.length) := w3
      rw [Nat.zero_add] at w3
      have := hl z rfl
      exact ⟨.inr z.1, z.2.length, w3, by omega, ⟨y1, w1, w2⟩, rfl, rfl⟩
  have hT1 : tX (u2 I 7 0 (nI u)) b n r := tX_fr7 (u2r (by omega)) (u2r (by omega)) hT
  obtain ⟨I1, v, a1, a2, a3, a4⟩ := tX_end (L := L) (ρ := ρ) hT1
  have eF : X3_finish 4 0 (hp I L ρ) = some (none, hp (u2 I 7 0 (nI u)) L ρ) := by
    unfold X3_finish
    rw [gr_4_3, gi_4, hr, sal_0, sa_7 (by omega)]; rfl
  have run : X7_read_J97 3 (hp I L ρ) = (z_if (bI v = 0) (z_gr 7 0 3 fun x4 => z_gr 7 0 3 fun x5 => z_rc 9 x5 (z_ci (X9_begin x5) fun y6 => z_rc 9 x4 (z_cv (X9_fail x4 1 y6) (z_ret none)))) (z_ret none)) (hp I1 L ρ) := by
    unfold X7_read_J97
    rw [gr_3_1, rc_4, h_cv eF, gr_3_0, rc_2, h_ci a1]
  have F1 : qfr I I1 := qfr_tr (qfr_u (by omega)) (qfr_fX a3)
  have rows : ∀ d, d ≠ 2 → d ≠ 12 → d ≠ 7 → I1 d = I d := fun d h1 h2 h3 => by rw [a3.1 d h1 h2, u2r h3]
  have I17 : I1 7 0 = nI u := by rw [a3.1 7 (by omega) (by omega), u2_ap, if_pos ⟨rfl, rfl⟩]
  rw [run, h_if]
  have done : v = true ∨ (∃ e, r = .inl e) → qX I1 b n (q_en n k q) → ∃ I', (if bI v = 0 then (z_gr 7 0 3 fun x4 => z_gr 7 0 3 fun x5 => z_rc 9 x5 (z_ci (X9_begin x5) fun y6 => z_rc 9 x4 (z_cv (X9_fail x4 1 y6) (z_ret none)))) (hp I1 L ρ) else (z_ret none) (hp I1 L ρ)) = some (none, hp I' L ρ) ∧ qfr I I' ∧ ((∃ e, r = .inl e) → tX I' b n r) ∧ (v = true → I' = I1) := by
    intro _ hq
    cases hv : v with
    | true => exact ⟨I1, by rw [if_neg (show ¬ bI true = 0 by decide)]; rfl, F1, fun _ => a2, fun _ => rfl⟩
    | false =>
      rw [bF, if_pos rfl]
      obtain ⟨I2, y, b1, b2, b3, b4, b5⟩ := tX_begin (L := L) (ρ := ρ) a2
      obtain ⟨I3, c1, c2, c3⟩ := tX_fail (L := L) (ρ := ρ) (k := 1) (p := y) (by omega) b2
      refine ⟨I3, ?_, qfr_tr F1 (qfr_fX (fX_tr b3 c3)), fun ⟨e, he⟩ => ?_, fun z => by cases z⟩
      · rw [gr_3_0, gr_3_0, rc_2, h_ci b1, rc_2, show X9_fail 2 1 (nI y) = X9_fail 2 (nI 1) (nI y) from rfl, h_cv c1]; rfl
      · rw [he] at c2 ⊢
        exact c2
  rcases q with e | z
  · have hru : r = .inl e := hru
    subst hru
    obtain ⟨I', g1, g2, g3, -⟩ := done (Or.inr ⟨e, rfl⟩) a2
    exact ⟨I', g1, g2, g3 ⟨e, rfl⟩⟩
  · obtain ⟨hr1, hr2⟩ := hru
    subst hr1
    have hv := a4 z.1 rfl
    by_cases c : n ≤ z.1
    · rw [decide_eq_true c] at hv
      have eq : q_en n k (.inr z) = .inr (k, z.2) := if_pos c
      obtain ⟨w1, w2, w3, w4, w5⟩ := y3
      have hq : qX I1 b n (.inr (k, z.2)) := by
        have := hl z rfl
        refine ⟨a2.2.1, by rw [rows 3 (by omega) (by omega) (by omega)]; exact hk, ⟨by rw [rows 6 (by omega) (by omega) (by omega)]; exact h6, by rw [I17, hr2, Nat.zero_add], by rw [rows 4 (by omega) (by omega) (by omega), hr, hr2], by show z.2.length ≤ 1616; omega⟩, fun i hi => ?_⟩
        rw [rows 5 (by omega) (by omega) (by omega)]
        exact w4 i hi
      obtain ⟨I', g1, g2, -, g4⟩ := done (Or.inl hv) (by rw [eq]; exact hq)
      refine ⟨I', g1, g2, ?_⟩
      rw [g4 hv, eq]; exact hq
    · rw [decide_eq_false c] at hv
      have eq : q_en n k (.inr z) = .inl (1, z.1) := if_neg c
      rw [hv, bF, if_pos rfl, eq]
      obtain ⟨I2, y, b1, b2, b3, b4, b5⟩ := tX_begin (L := L) (ρ := ρ) a2
      obtain ⟨I3, c1, c2, c3⟩ := tX_fail (L := L) (ρ := ρ) (k := 1) (p := y) (by omega) b2
      have hy := (b4 z.1 rfl).1
      rw [hy] at c2
      refine ⟨I3, ?_, qfr_tr F1 (qfr_fX (fX_tr b3 c3)), c2⟩
      rw [gr_3_0, gr_3_0, rc_2, h_ci b1, rc_2, show X9_fail 2 1 (nI y) = X9_fail 2 (nI 1) (nI y) from rfl, h_cv c1]; rfl
theorem pA_nil {q : pR} : pA q [] = q := by
  rcases q with e | z
  · rfl
  · rfl
theorem X7_read_h (hT : tX I b n (.inr a)) : ∃ I' ρ', X7_read 3 (hp I L ρ) = some (none, hp I' L ρ') ∧ rhE ρ ρ' ∧ qfr I I' ∧ qX I' b n (q_rd b n a) := by
  have hn := hT.1.2.1
  have ha := (tX_le hT).1
  obtain ⟨I1, hI1⟩ : ∃ I1, I1 = u2 I 4 1 0 := ⟨_, rfl⟩
  obtain ⟨I2, hI2⟩ : ∃ I2 : Nat → Nat → Int32, I2 = fun b i => if b = 6 ∧ i < 3 then -1 else I1 b i := ⟨_, rfl⟩
  obtain ⟨I3, hI3⟩ : ∃ I3 : Nat → Nat → Int32, I3 = fun b i => if b = 7 ∧ i < 3 then -1 else I2 b i := ⟨_, rfl⟩
  have eC : X3_clear 4 (hp I L ρ) = some (none, hp I3 L ρ) := by
    unfold X3_clear
    rw [pi_4, ← hI1, gr_4_2, h_cv (J7_fill_h (a := 6) (n := 3) (by decide) rfl (by decide)), ← hI2, gr_4_3, h_cv (J7_fill_h (a := 7) (n := 3) (by decide) rfl (by decide)), ← hI3]; rfl
  have r3 : ∀ c j, c ≠ 7 → c ≠ 6 → I3 c j = I1 c j := fun c j q1 q2 => by
    rw [hI3]
    show (if c = 7 ∧ j < 3 then -1 else I2 c j) = _
    rw [if_neg (fun z => q1 z.1), hI2]
    exact if_neg (fun z => q2 z.1)
  obtain ⟨I4, hI4⟩ : ∃ I4, I4 = u2 (u2 I3 10 3 511) 10 4 1 := ⟨_, rfl⟩
  have eQ : X4_ofQuestion 10 4 (hp I3 L ρ) = some (none, hp I4 L (ρ.1, ρ.2.1, ρ.2.2.1, 4, zB + 14)) := by
    unfold X4_ofQuestion
    rw [pr_10_1, pr_10_2, pi_10, h_pb (c := 4) (a := 10) (by decide) rfl (Or.inr rfl), hI4]; rfl
  have f4 : ∀ d, d ≠ 4 → d ≠ 6 → d ≠ 7 → d ≠ 10 → I4 d = I d := fun d q1 q2 q3 q4 => by
    funext j
    rw [hI4, u2r q4, u2r q4, r3 d j q3 q2, hI1, u2r q1]
  have F4 : qfr I I4 := ⟨fun d q1 q2 q3 q4 q5 q6 q7 q8 => f4 d q3 q5 q6 q7, fC_r (f4 2 (by omega) (by omega) (by omega) (by omega))⟩
  have T4 : tX I4 b n (.inr a) := tX_fr7 (f4 2 (by omega) (by omega) (by omega) (by omega)) (f4 1 (by omega) (by omega) (by omega) (by omega)) hT
  obtain ⟨ρ', hρ'⟩ : ∃ ρ' : zRh, ρ' = (ρ.1, ρ.2.1, ρ.2.2.1, 4, zB + 14) := ⟨_, rfl⟩
  rw [← hρ'] at eQ
  obtain ⟨I5, a1, a2, a3, a4⟩ := tX_in (k := 15) (L := L) (ρ := ρ') (by omega) T4
  have hE : rhE ρ ρ' := by rw [hρ']; exact ⟨rfl, rfl, rfl⟩
  unfold X7_read
  rw [gr_3_1, rc_4, h_cv eC, gr_3_2, gr_3_1, rc_10, h_cv eQ, gr_3_0, rc_2, h_ci a1, pi_3, gi_3, u2_ap, if_pos ⟨rfl, rfl⟩, h_if]
  have T6 : tX (u2 I5 3 4 (oI (t_in b n a (wsK 15) 0))) b n (.inr a) := tX_fr7 (u2r (by omega)) (u2r (by omega)) a2
  have F6 : qfr I (u2 I5 3 4 (oI (t_in b n a (wsK 15) 0))) := qfr_tr F4 (qfr_tr (qfr_fX a3) (qfr_u (by omega)))
  unfold q_rd
  rcases tin : t_in b n a (wsK 15) 0 with _ | k
  · rw [tin] at T6 F6
    rw [oI_none, if_pos rfl]
    obtain ⟨I7, y, b1, b2, b3, b4, b5⟩ := tX_begin (L := L) (ρ := ρ') T6
    obtain ⟨I8, c1, c2, c3⟩ := tX_fail (L := L) (ρ := ρ') (k := 1) (p := y) (by omega) b2
    rw [(b4 a rfl).1] at c2
    refine ⟨I8, ρ', ?_, hE, qfr_tr F6 (qfr_fX (fX_tr b3 c3)), c2⟩
    rw [oI_none] at b1
    rw [gr_3_0, gr_3_0, rc_2, h_ci b1, rc_2, show X9_fail 2 1 (nI y) = X9_fail 2 (nI 1) (nI y) from rfl, h_cv c1]; rfl
  · rw [tin] at T6 F6
    have hk6 : k < 6 := by
      have := (t_in_lt tin).1.2
      have : (wsK 15).length = 6 := by decide
      omega
    rw [oI_some] at T6 F6 ⊢
    have goalE : (match some k with | none => .inl (1, a) | some k => q_en n k (q_pq b n a k) : Sum (Nat × Nat) (Nat × List Nat)) = q_en n k (q_pq b n a k) := rfl
    rw [goalE]
    clear goalE
    rw [if_neg (show ¬ nI k = -1 from nI_nm1 (by omega))]
    obtain ⟨I7, b1, b2, b3⟩ := tX_pass (L := L) (ρ := ρ') T6 (by rw [u2r (by omega)]; exact a4)
    have hle := (tX_le b2).1
    have I74 : I7 4 1 = nI 0 := by
      rw [b3.1 4 (by omega) (by omega), u2r (by omega), a3.1 4 (by omega) (by omega), hI4, u2r (by omega), u2r (by omega), r3 4 1 (by omega) (by omega), hI1, u2_ap, if_pos ⟨rfl, rfl⟩]; rfl
    have I73 : I7 3 4 = nI k := by rw [b3.1 3 (by omega) (by omega), u2_ap, if_pos ⟨rfl, rfl⟩]
    have I10 : I7 10 3 = nI (pmk 3) ∧ I7 10 4 = bI (decide (3 = 3)) := by
      rw [b3.1 10 (by omega) (by omega), u2r (by omega), a3.1 10 (by omega) (by omega), hI4]
      exact ⟨by rw [u2_ap, if_neg (by omega), u2_ap, if_pos ⟨rfl, rfl⟩]; rfl, by rw [u2_ap, if_pos ⟨rfl, rfl⟩]; rfl⟩
    have eB : X3_begin 4 0 (hp I7 L ρ') = some (none, hp (u2 I7 6 0 (nI 0)) L ρ') := by
      unfold X3_begin
      rw [gr_4_2, gi_4, I74, sal_0, sa_6 (by omega)]; rfl
    have F8 : qfr I (u2 I7 6 0 (nI 0)) := qfr_tr F6 (qfr_tr (qfr_fX b3) (qfr_u (by omega)))
    have T8 : tX (u2 I7 6 0 (nI 0)) b n (.inr (sk b n (a + wl b n a))) := tX_fr7 (u2r (by omega)) (u2r (by omega)) b2
    have hU : gU 4 0 3 (u2 I7 6 0 (nI 0)) ρ' b n [] (.inr (sk b n (a + wl b n a), [])) := by
      refine ⟨T8.1, ⟨by rw [hρ'], by rw [hρ']; rfl, by rw [u2r (by omega)]; exact I10.1, by rw [u2r (by omega)]; exact I10.2, Nat.le_refl _⟩, T8.2.1, T8.2.2, by rw [u2r (by omega)]; exact I74, fun i hi => absurd hi (Nat.not_lt_zero i), Nat.zero_le _⟩
    rw [gr_3_0, rc_2, h_cv b1, gr_3_1, rc_4, h_cv eB, gi_3, u2r (by omega), I73, h_if]
    have key : ∀ kk, kk = (if 2 < k then 3 else 0) → ∃ I' ρ2, (z_cv (zg kk 10 0 0 0) (X7_read_J97 3)) (hp (u2 I7 6 0 (nI 0)) L ρ') = some (none, hp I' L ρ2) ∧ rhE ρ ρ2 ∧ qfr I I' ∧ qX I' b n (q_en n k (q_pq b n a k)) := by
      intro kk hkk
      have hk03 : kk = 0 ∨ kk = 3 := by rw [hkk]; split <;> omega
      obtain ⟨J, z1, z2, z3⟩ := S_all (L := L) (cd := 4) (Or.inl rfl) 60 kk 0 (sk b n (a + wl b n a)) 0 0 0 0 [] _ (by omega) (by unfold pc; omega) (by omega) (Nat.zero_le _) (by omega) (by omega) hU
      have z1 : zg kk 10 0 0 0 (hp (u2 I7 6 0 (nI 0)) L ρ') = some (none, hp J L ρ') := z1
      rw [pA_nil] at z2
      have hl : ∀ z, pq b n 3 60 kk 0 (sk b n (a + wl b n a)) 0 0 = .inr z → z.2.length ≤ 1600 := by
        intro z hz
        have hG := pq_G (b := b) (n := n) (kd := 3) 60 kk 0 (sk b n (a + wl b n a)) 0 0 (by omega) (by unfold pc; omega) (by omega) hle (Nat.zero_le _)
        rw [if_neg (by omega), hz] at hG
        have h1 := hG.2.1
        have h2 : sk b n (a + wl b n a) + z.2.length ≤ z.1 + 0 := hG.2.2.2
        omega
      have J3 : J 3 4 = nI k := by rw [z3.1 3 (by omega) (by omega) (by omega), u2r (by omega)]; exact I73
      have J6 : J 6 0 = nI 0 := by rw [z3.1 6 (by omega) (by omega) (by omega), u2_ap, if_pos ⟨rfl, rfl⟩]
      obtain ⟨I9, d1, d2, d3⟩ := rd_97 (L := L) z2 J3 J6 hl
      have FJ : qfr (u2 I7 6 0 (nI 0)) J := ⟨fun d q1 q2 q3 q4 q5 q6 q7 q8 => z3.1 d q1 q3 q4, z3.2.1 1 (by omega) (by omega) (by omega), z3.2.2.2.2⟩
      refine ⟨I9, ρ', ?_, hE, qfr_tr F8 (qfr_tr FJ d2), ?_⟩
      · rw [h_cv z1, d1]
      · unfold q_pq
        rw [← hkk]; exact d3
    by_cases c : 2 < k
    · rw [if_pos (show (2 : Int32) < nI k from (nI_lt' (a := 2) (b := k) (by omega) (by omega)).mpr c)]
      rw [gr_3_2, rc_10]
      have := key 3 (by rw [if_pos c])
      exact this
    · rw [if_neg (show ¬ (2 : Int32) < nI k from fun q => c ((nI_lt' (a := 2) (b := k) (by omega) (by omega)).mp q))]
      rw [gr_3_2, rc_10]
      have := key 0 (by rw [if_neg c])
      exact this
end B8r
