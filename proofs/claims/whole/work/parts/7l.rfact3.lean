/-! the reference reads a fact -/
section B7l
variable {I I0 : Nat → Nat → Int32} {L L0 : Nat → Nat → Int64} {ρ : zRh} {h : zH} {b : Nat → Nat} {n a x o bs kd : Nat} {V W W0 Q : List Nat}
/-- a word that is taken, a word that is not, a word that is here -/
theorem q_takes_y (hS : qS I b n x V bs Q o) (hw : wdM I) {q : Nat} {w : List Nat} (hq : (q, w) ∈ wdL) (c : isW b n (sk b n x) w = true) : ∃ I', X12_takes 215 q (hp I L ρ) = some (some (.int 1), hp I' L ρ) ∧ fxM I I' ∧ qS I' b n (sk b n x + w.length) V bs Q o := by
  have e := X12_takes_s (L := L) (ρ := ρ) hS.1 hS.2.1 (wdM_R hw hq) (wdL_R _ hq).2.2.2.2.2.1
  have hle := sk_le (b := b) hS.1.2.1
  have hl := isW_le c hle
  obtain ⟨hS1, hF1⟩ := q_look hS
  rw [if_pos c, c] at e
  have hF : fxM I (u2 (u2 I 215 2 (nI (sk b n x + w.length))) 215 4 (nI (sk b n x + w.length))) := fxM_trans (fxM_u (by omega)) (fxM_u (by omega))
  have hk := tkM_word (b := b) (n := n) (a := sk b n x) hS1.1 (by omega) (f := u2 (u2 I 215 2 (nI (sk b n x + w.length))) 215 4 (nI (sk b n x + w.length))) (by rw [u2r (by omega), u2r (by omega), u2r (by omega)]) (by rw [u2_ap, if_neg (by omega), u2_ap, if_neg (by omega), u2_ap, if_neg (by omega)]) (by rw [u2_ap, if_neg (by omega), m22, hl.2.2]) (by rw [u2_ap, if_pos ⟨rfl, rfl⟩, hl.2.2])
  rw [hl.2.2] at hk
  exact ⟨_, e, hF, qS_fx hF hk (by rw [u2_ap, if_neg (by omega), m25]; exact hS.2.1) hS⟩
theorem q_takes_n (hS : qS I b n x V bs Q o) (hw : wdM I) {q : Nat} {w : List Nat} (hq : (q, w) ∈ wdL) (c : ¬ isW b n (sk b n x) w = true) : X12_takes 215 q (hp I L ρ) = some (some (.int 0), hp (u2 I 215 2 (nI (sk b n x))) L ρ) := by
  have e := X12_takes_s (L := L) (ρ := ρ) hS.1 hS.2.1 (wdM_R hw hq) (wdL_R _ hq).2.2.2.2.2.1
  rw [if_neg c, show isW b n (sk b n x) w = false by simpa using c] at e
  exact e
theorem cdR_l {R cs : List Nat} (h : cdR kd R cs) : R.length = cs.length := by rw [← h.1, List.length_map]
theorem fact_63 {m c d : Nat} (hcd : c = 60 ∧ d = 7 ∨ c = 62 ∧ d = 8 ∨ c = 61 ∧ d = 9) (ht : t_c b n a = c) (hV : tw p14 V = []) (hS : qS I b n a V bs Q o) (hw : wdM I) (hkd : I 215 51 = nI kd ∧ kd < 4) (hl : V.length + Q.length ≤ a) (hm : pc 3 o ≤ m) : (∀ e, pq b n kd m 3 o (sk b n (a + 1)) 0 0 = .inl e → ∃ I', X12_qFact_J63 215 (nI c) (hp I L ρ) = some (none, hp I' L ρ) ∧ qF I I' ∧ unM I' n e.1 e.2) ∧ ∀ q, pq b n kd m 3 o (sk b n (a + 1)) 0 0 = .inr q → ∃ I' y R, X12_qFact_J63 215 (nI c) (hp I L ρ) = some (none, hp I' L ρ) ∧ qF I I' ∧ cdR kd R q.2 ∧ sk b n y = q.1 ∧ qS I' b n y V bs (Q ++ R ++ [d]) o ∧ V.length + (Q ++ R ++ [d]).length ≤ sk b n y := by
  have hn := hS.1.1.2.1
  have hlt := t_c_in ht (by omega)
  have ho := hS.2.2.2.2.2.2.2
  obtain ⟨hS1, hF1⟩ := q_sign hS hlt (c40_no (by omega))
  have e3 : ∀ h, (z_if (nI c = 60) (X12_qFact_J102 7 215) (z_if (nI c = 62) (X12_qFact_J102 8 215) (X12_qFact_J102 9 215))) h = X12_qFact_J102 (nI d) 215 h := by
    intro h
    rcases hcd with ⟨rfl, rfl⟩ | ⟨rfl, rfl⟩ | ⟨rfl, rfl⟩
    · rw [h_if, if_pos (show nI 60 = 60 from rfl)]; rfl
    · rw [h_if, if_neg (show ¬ nI 62 = 60 by decide), h_if, if_pos (show nI 62 = 62 from rfl)]; rfl
    · rw [h_if, if_neg (show ¬ nI 61 = 60 by decide), h_if, if_neg (show ¬ nI 61 = 62 by decide)]; rfl
  have hkd1 : u2 I 215 2 (nI (a + 1)) 215 51 = nI kd ∧ kd < 4 := ⟨by rw [u2_ap, if_neg (by omega)]; exact hkd.1, hkd.2⟩
  obtain ⟨g1, g2⟩ := X12_qSums_h (L := L) (ρ := ρ) hV hS1 (wdM_q hw (qF_fx hF1)) hkd1 (by omega) hm
  have hG := pq_G (b := b) (n := n) (kd := kd) m 3 o (sk b n (a + 1)) 0 0 (by omega) hm ho (sk_le (by omega)) (Nat.zero_le _)
  have hge := sk_ge (b := b) (n := n) (a := a + 1)
  unfold X12_qFact_J63
  rw [gi_215, hS.1.2.2.1, nI_1, pi_215, rc_215]
  refine ⟨fun e he => ?_, fun q hq => ?_⟩
  · obtain ⟨I1, r1, r2, r3⟩ := g1 e he
    obtain ⟨I2, s1, s2, s3⟩ := fact_102u (L := L) (ρ := ρ) (c := d) r3
    refine ⟨I2, ?_, qF_tr (qF_fx hF1) (qF_tr r2 s2), s3⟩
    rw [h_cv r1, e3]
    exact s1
  · obtain ⟨I1, y, R, r1, r2, r3, r4, r5, r6⟩ := g2 q hq
    rw [hq] at hG
    rw [if_neg (by omega)] at hG
    have h4 := hG.2.2.2
    have h5 := hG.2.1
    have h6 := cdR_l r3
    rw [List.length_append] at r6
    have hb : V.length + (Q ++ R).length < q.1 := by
      rw [List.length_append]; omega
    obtain ⟨I2, s1, s2, s3⟩ := fact_102 (L := L) (ρ := ρ) (c := d) (by omega) r5
    refine ⟨I2, y, R, ?_, qF_tr (qF_fx hF1) (qF_tr r2 s2), r3, r4, s3, ?_⟩
    · rw [h_cv r1, e3]
      exact s1
    · rw [r4, List.length_append]
      show V.length + ((Q ++ R).length + 1) ≤ q.1
      omega
theorem X12_qFact_h {m : Nat} (hV : tw p14 V = []) (hS : qS I b n x V bs Q o) (hw : wdM I) (hkd : I 215 51 = nI kd ∧ kd < 4) (hl : V.length + Q.length ≤ sk b n x) (hm : pc 3 o ≤ m) : (∀ e, p_fct b n kd m o (sk b n x) = .inl e → ∃ I', X12_qFact 215 (hp I L ρ) = some (none, hp I' L ρ) ∧ qF I I' ∧ unM I' n e.1 e.2) ∧ ∀ q, p_fct b n kd m o (sk b n x) = .inr q → sk b n x < q.1 ∧ ∃ I' y R, X12_qFact 215 (hp I L ρ) = some (none, hp I' L ρ) ∧ qF I I' ∧ cdR kd R q.2 ∧ sk b n y = q.1 ∧ qS I' b n y V bs (Q ++ R) o ∧ V.length + (Q ++ R).length ≤ sk b n y := by
  have hn := hS.1.1.2.1
  have hb := tm_hb hS.1.1
  have hle := sk_le (b := b) hS.1.2.1
  have ho := hS.2.2.2.2.2.2.2
  have hq : (276, w_all) ∈ wdL := by decide +kernel
  obtain ⟨hS1, hF1⟩ := q_look hS
  have hskk : sk b n (sk b n x) = sk b n x := sk_sk
  unfold X12_qFact p_fct
  rw [gr_215_87, rc_215]
  by_cases c : isW b n (sk b n x) w_all = true
  · obtain ⟨I1, r1, r2, r3⟩ := q_takes_y (L := L) (ρ := ρ) hS hw hq c
    have hl3 := isW_le c hle
    have r3 : qS I1 b n (sk b n x + 3) V bs Q o := r3
    have hl3 : 0 < 3 ∧ sk b n x + 3 ≤ n ∧ _ := hl3
    have hg3 := sk_ge (b := b) (n := n) (a := sk b n x + 3)
    obtain ⟨I2, s1, s2, s3⟩ := X12_qCode_h (L := L) (ρ := ρ) (c := 13) (by omega) r3
    rw [if_pos c]
    refine ⟨fun e he => (by cases he), fun q he => ?_⟩
    cases he
    refine ⟨show sk b n x < sk b n (sk b n x + 3) by omega, I2, sk b n x + 3, [13], ?_, qF_tr (qF_fx r2) s2, cdR_all, rfl, s3, ?_⟩
    · rw [h_ci r1, h_if, if_neg (by decide), rc_215, show X12_qCode 215 13 = X12_qCode 215 (nI 13) from rfl, h_cv s1]; rfl
    · rw [List.length_append]
      show V.length + (Q.length + 1) ≤ _
      omega
  · rw [h_ci (q_takes_n hS hw hq c), h_if, if_pos rfl, rc_215, if_neg c]
    have hkd1 : u2 I 215 2 (nI (sk b n x)) 215 51 = nI kd ∧ kd < 4 := ⟨by rw [u2_ap, if_neg (by omega)]; exact hkd.1, hkd.2⟩
    have hw1 := wdM_q hw (qF_fx hF1)
    obtain ⟨g1, g2⟩ := X12_qSums_h (L := L) (ρ := ρ) hV hS1 hw1 hkd1 hl hm
    have hG := pq_G (b := b) (n := n) (kd := kd) m 3 o (sk b n x) 0 0 (by omega) hm ho hle (Nat.zero_le _)
    rw [hskk] at g1 g2
    have hF1 := qF_fx hF1
    generalize u2 I 215 2 (nI (sk b n x)) = I1 at hS1 hF1 hkd1 hw1 g1 g2
    rcases q1 : pq b n kd m 3 o (sk b n x) 0 0 with e | q
    · obtain ⟨I2, r1, r2, r3⟩ := g1 e q1
      refine ⟨fun e2 he => ?_, fun q he => (by cases he)⟩
      cases he
      refine ⟨I2, ?_, qF_tr hF1 r2, r3.1⟩
      rw [h_cv r1, gi_215, h_if, if_neg (unM_ne r3.1)]; rfl
    · obtain ⟨I2, y, R, r1, r2, r3, r4, r5, r6⟩ := g2 q q1
      rw [q1] at hG
      rw [if_neg (by omega)] at hG
      have h3 := hG.1
      have h4 := hG.2.2.2
      have h5 := hG.2.1
      have h6 := cdR_l r3
      obtain ⟨hS3, hF3⟩ := q_look r5
      have eL := X12_look_h (L := L) (ρ := ρ) r5.1
      have hx3 := hS3.1.2.2.1
      rw [r4] at eL hS3 hF3 hx3
      have hF13 := qF_tr hF1 (qF_tr r2 (qF_fx hF3))
      have e60 := byI_c hb (j := q.1) (c := 60) (by omega)
      have e61 := byI_c hb (j := q.1) (c := 61) (by omega)
      have e62 := byI_c hb (j := q.1) (c := 62) (by omega)
      have hlq : V.length + (Q ++ R).length ≤ q.1 := by rw [List.length_append]; omega
      have hkd3 : u2 I2 215 2 (nI q.1) 215 51 = nI kd ∧ kd < 4 := ⟨by rw [hF13.2.1 51 (by decide) (by decide) (by decide) (by decide) (by decide) (by decide) (by decide)]; exact hkd.1, hkd.2⟩
      have hw3 := wdM_q hw hF13
      rw [h_cv r1, gi_215, h_if, if_pos r5.2.1, rc_215, h_ci eL, h_if]
      generalize u2 I2 215 2 (nI q.1) = I3 at hS3 hF3 hF13 hkd3 hw3 hx3
      show (∀ e, ((match p_cmp (t_c b n q.1) with | none => .inl (1, q.1) | some op => pB (pq b n kd m 3 o (sk b n (q.1 + 1)) 0 0) (fun a2 c2 => .inr (a2, q.2 ++ c2 ++ [op]))) : pR) = .inl e → _) ∧ ∀ q', ((match p_cmp (t_c b n q.1) with | none => .inl (1, q.1) | some op => pB (pq b n kd m 3 o (sk b n (q.1 + 1)) 0 0) (fun a2 c2 => .inr (a2, q.2 ++ c2 ++ [op]))) : pR) = .inr q' → _
      have key : ∀ c d, (c = 60 ∧ d = 7 ∨ c = 62 ∧ d = 8 ∨ c = 61 ∧ d = 9) → t_c b n q.1 = c → (∀ e, pB (pq b n kd m 3 o (sk b n (q.1 + 1)) 0 0) (fun a2 c2 => .inr (a2, q.2 ++ c2 ++ [20000 + d])) = .inl e → ∃ I', X12_qFact_J63 215 (byI b n q.1) (hp I3 L ρ) = some (none, hp I' L ρ) ∧ qF I I' ∧ unM I' n e.1 e.2) ∧ ∀ q', pB (pq b n kd m 3 o (sk b n (q.1 + 1)) 0 0) (fun a2 c2 => .inr (a2, q.2 ++ c2 ++ [20000 + d])) = .inr q' → sk b n x < q'.1 ∧ ∃ I' y R, X12_qFact_J63 215 (byI b n q.1) (hp I3 L ρ) = some (none, hp I' L ρ) ∧ qF I I' ∧ cdR kd R q'.2 ∧ sk b n y = q'.1 ∧ qS I' b n y V bs (Q ++ R) o ∧ V.length + (Q ++ R).length ≤ sk b n y := by
        intro c d hcd ht
        obtain ⟨k1, k2⟩ := fact_63 (L := L) (ρ := ρ) hcd ht hV hS3 hw3 hkd3 hlq hm
        have hlt := t_c_in ht (by omega)
        have hG2 := pq_G (b := b) (n := n) (kd := kd) m 3 o (sk b n (q.1 + 1)) 0 0 (by omega) hm ho (sk_le (by omega)) (Nat.zero_le _)
        have hge := sk_ge (b := b) (n := n) (a := q.1 + 1)
        rw [show byI b n q.1 = nI c from (byI_c hb (by omega)).mpr ht]
        rcases q2 : pq b n kd m 3 o (sk b n (q.1 + 1)) 0 0 with e | r
        · refine ⟨fun e2 he => ?_, fun q he => (by cases he)⟩
          cases he
          obtain ⟨I4, t1, t2, t3⟩ := k1 e q2
          exact ⟨I4, t1, qF_tr hF13 t2, t3⟩
        · refine ⟨fun e2 he => (by cases he), fun q' he => ?_⟩
          cases he
          rw [q2] at hG2
          have h7 := hG2.1
          obtain ⟨I4, z, R2, t1, t2, t3, t4, t5, t6⟩ := k2 r q2
          refine ⟨show sk b n x < r.1 by omega, I4, z, R ++ R2 ++ [d], t1, qF_tr hF13 t2, cdR_app (cdR_app r3 t3) (cdR_op (by omega) (by omega)), t4, ?_, ?_⟩
          · rw [show Q ++ (R ++ R2 ++ [d]) = Q ++ R ++ R2 ++ [d] by simp only [List.append_assoc]]
            exact t5
          · rw [show Q ++ (R ++ R2 ++ [d]) = Q ++ R ++ R2 ++ [d] by simp only [List.append_assoc]]
            exact t6
      unfold p_cmp
      by_cases c1 : t_c b n q.1 = 60
      · rw [if_pos (show byI b n q.1 = 60 from e60.mpr c1), if_pos c1]
        exact key 60 7 (by omega) c1
      rw [if_neg (show ¬ byI b n q.1 = 60 from fun z => c1 (e60.mp z)), if_neg c1, h_if]
      by_cases c2 : t_c b n q.1 = 62
      · rw [if_pos (show byI b n q.1 = 62 from e62.mpr c2), if_pos c2]
        exact key 62 8 (by omega) c2
      rw [if_neg (show ¬ byI b n q.1 = 62 from fun z => c2 (e62.mp z)), if_neg c2, h_if]
      by_cases c3 : t_c b n q.1 = 61
      · rw [if_pos (show byI b n q.1 = 61 from e61.mpr c3), if_pos c3]
        exact key 61 9 (by omega) c3
      rw [if_neg (show ¬ byI b n q.1 = 61 from fun z => c3 (e61.mp z)), if_neg c3, gi_215, hx3, rc_215, h_cv (X12_fail_s hS3.2.1 _ _)]
      refine ⟨fun e he => ?_, fun q he => (by cases he)⟩
      cases he
      refine ⟨_, rfl, qF_tr hF13 (qF_fx (fxM_56 (by decide))), ⟨by rw [u2_ap, if_neg (by omega), u2_ap, if_pos ⟨rfl, rfl⟩]; rfl, by omega, by rw [u2_ap, if_pos ⟨rfl, rfl⟩], show q.1 ≤ 2000 by omega, q.1, h5, by rw [u2_ap, if_neg (by omega), u2_ap, if_neg (by omega)]; exact hx3⟩⟩
end B7l
