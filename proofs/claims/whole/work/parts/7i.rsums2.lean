/-! the reference's sum is the parser's -/
section B7i
variable {I I0 : Nat → Nat → Int32} {L L0 : Nat → Nat → Int64} {ρ : zRh} {h : zH} {b : Nat → Nat} {n a x o bs kd : Nat} {V W W0 Q : List Nat}
theorem M_sumQ {m : Nat} (hm : pc 3 o ≤ m) (ho : o ≤ 6) (ha : a ≤ n) (Q : List Nat) : (∀ e, pq b n kd m 3 o a 0 0 = .inl e → mr b n kd (.A a [] Q o) (.f e.1 e.2)) ∧ ∀ q, pq b n kd m 3 o a 0 0 = .inr q → ∃ R M, cdR kd (R ++ M) q.2 ∧ mr b n kd (.A a [] Q o) (.e q.1 M (Q ++ R) o) := by
  obtain ⟨h1, h2⟩ := (M_all m o ho a ha 0 0).2.2 hm [] Q rfl rfl
  refine ⟨h1, fun q hq => ?_⟩
  obtain ⟨ht, R, M, hR, hM, hr⟩ := h2 q hq
  refine ⟨R, M, hR, mr_tr hr (mr_st ?_ mr_0)⟩
  rw [List.append_nil]
  exact mB_e hM ht
theorem X12_qSums_h {m : Nat} (hV : tw p14 V = []) (hS : qS I b n x V bs Q o) (hw : wdM I) (hkd : I 215 51 = nI kd ∧ kd < 4) (hl : V.length + Q.length ≤ x) (hm : pc 3 o ≤ m) : (∀ e, pq b n kd m 3 o (sk b n x) 0 0 = .inl e → ∃ I', X12_qSums 215 (hp I L ρ) = some (none, hp I' L ρ) ∧ qF I I' ∧ unQ I' n e.1 e.2) ∧ ∀ q, pq b n kd m 3 o (sk b n x) 0 0 = .inr q → ∃ I' y R, X12_qSums 215 (hp I L ρ) = some (none, hp I' L ρ) ∧ qF I I' ∧ cdR kd R q.2 ∧ sk b n y = q.1 ∧ qS I' b n y V bs (Q ++ R) o ∧ V.length + (Q ++ R).length ≤ y := by
  have hn := hS.1.1.2.1
  have hle := sk_le (b := b) hS.1.2.1
  have ho := hS.2.2.2.2.2.2.2
  have hS1 := qS_bs (bs' := V.length) hS
  have hF1 : qF I (u2 I 215 109 (nI V.length)) := qF_u (by omega)
  have hP : qP (u2 I 215 109 (nI V.length)) b n kd x [] V Q o := qP_at (I1 := I) hw hkd hF1 hS1 hl (Nat.zero_le _)
  obtain ⟨I', t, r1, r2, r3, r4⟩ := sums_lp (bs := bs) (L := L) (ρ := ρ) hV (n + 1) zFU x _ [] Q o (by unfold zFU; omega) (by omega) hP
  have hF := qF_tr hF1 r3
  have e0 : X12_qSums 215 (hp I L ρ) = some (none, hp I' L ρ) := by
    unfold X12_qSums
    rw [gi_215, hS.2.2.2.2.2.1, gi_215, hS.2.2.1.1, pi_215]
    exact r1
  obtain ⟨h1, h2⟩ := M_sumQ (b := b) (n := n) (kd := kd) hm ho hle Q
  have hz : mZ t := by
    rcases r4 with ⟨k, p, e, -⟩ | ⟨y, W1, Q1, o1, e, -, -⟩
    · rw [e]; show 2 ≤ 3; omega
    · rw [e]; show 2 ≤ 2; omega
  refine ⟨fun e he => ?_, fun q hq => ?_⟩
  · have ht := mr_u r2 (h1 e he) hz (show 2 ≤ 3 by omega)
    rcases r4 with ⟨k, p, e2, hU⟩ | ⟨y, W1, Q1, o1, e2, -, -⟩
    · rw [e2] at ht
      have q1 : k = e.1 := congrArg (fun c : mO => c.2.2.2.2) ht
      have q2 : p = e.2 := congrArg (fun c : mO => c.2.1) ht
      exact ⟨I', e0, hF, by rw [← q1, ← q2]; exact hU⟩
    · rw [e2] at ht
      exact absurd (congrArg (fun c : mO => c.1) ht) (by show ¬ (2 : Nat) = 3; omega)
  · obtain ⟨R, M, hR, hr⟩ := h2 q hq
    have ht := mr_u r2 hr hz (show 2 ≤ 2 by omega)
    rcases r4 with ⟨k, p, e2, hU⟩ | ⟨y, W1, Q1, o1, e2, s1, s2⟩
    · rw [e2] at ht
      exact absurd (congrArg (fun c : mO => c.1) ht) (by show ¬ (3 : Nat) = 2; omega)
    · rw [e2] at ht
      have q1 : sk b n y = q.1 := congrArg (fun c : mO => c.2.1) ht
      have q2 : W1 = M := congrArg (fun c : mO => c.2.2.1) ht
      have q3 : Q1 = Q ++ R := congrArg (fun c : mO => c.2.2.2.1) ht
      have q4 : o1 = o := congrArg (fun c : mO => c.2.2.2.2) ht
      subst q2 q3 q4
      rw [List.append_assoc] at s1 s2
      exact ⟨I', y, R ++ W1, e0, hF, hR, q1, s1, s2⟩
end B7i
