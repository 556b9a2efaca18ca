/-! the reference reads a sum -/
section B7h
variable {I I0 : Nat → Nat → Int32} {L L0 : Nat → Nat → Int64} {ρ : zRh} {h : zH} {b : Nat → Nat} {n a x o bs kd : Nat} {V W W0 Q : List Nat}
theorem sums_53 : ∀ (W Q : List Nat) (fuel : Nat) (I : Nat → Nat → Int32), qS I b n x (W ++ W0) W0.length Q o → W.length < fuel → ∃ I', z_fix (fun r x => X12_qSums_B53 215 (nI bs) r ) fuel (()) (hp I L ρ) = some (none, hp I' L ρ) ∧ qF I I' ∧ qS I' b n x W0 bs (Q ++ W) o := by
  intro W
  induction W with
  | nil =>
    intro Q fuel I hS hf
    obtain ⟨f, rfl⟩ : ∃ f, fuel = f + 1 := ⟨fuel - 1, by omega⟩
    have hS : qS I b n x W0 W0.length Q o := hS
    refine ⟨u2 I 215 109 (nI bs), ?_, qF_u (by omega), by rw [List.append_nil]; exact qS_bs hS⟩
    rw [h_fix]
    show X12_qSums_B53 215 (nI bs) _ (hp I L ρ) = _
    unfold X12_qSums_B53 X12_qSums_J78
    rw [gi_215, h_if, if_pos hS.2.1, gi_215, gi_215, hS.2.2.1.1, hS.2.2.2.2.2.1, h_if, if_pos ((nI_le' (by have := qS_l hS; omega) (by have := qS_l hS; omega)).mpr (Nat.le_refl W0.length)), pi_215]; rfl
  | cons v W ih =>
    intro Q fuel I hS hf
    obtain ⟨f, rfl⟩ : ∃ f, fuel = f + 1 := ⟨fuel - 1, by omega⟩
    rw [List.length_cons] at hf
    have hS : qS I b n x (v :: (W ++ W0)) W0.length Q o := hS
    obtain ⟨t1, t2, t3, t4⟩ := qS_top hS
    have hWl : (W ++ W0).length = W.length + W0.length := List.length_append ..
    have e1 : ¬ nI ((W ++ W0).length + 1) ≤ nI W0.length := fun q => by
      have := (nI_le' (by omega) (by omega)).mp q
      omega
    obtain ⟨I1, r1, r2, r3⟩ := X12_qDrops_h (L := L) (ρ := ρ) hS
    obtain ⟨I2, s1, s2, s3⟩ := ih (Q ++ [v]) f I1 r3 (by omega)
    rw [h_fix]
    show ∃ I', X12_qSums_B53 215 (nI bs) _ (hp I L ρ) = _ ∧ _
    unfold X12_qSums_B53
    rw [gi_215, h_if, if_pos hS.2.1, gi_215, gi_215, t1, hS.2.2.2.2.2.1, h_if, if_neg e1, rc_215, h_cv r1]
    refine ⟨I2, s1, qF_tr r2 s2, ?_⟩
    rw [show Q ++ v :: W = Q ++ [v] ++ W by simp only [List.append_assoc]; rfl]
    exact s3
theorem sums_53u {k p : Nat} (hU : unQ I n k p) : ∃ I', z_fix (fun r x => X12_qSums_B53 215 (nI bs) r ) zFU (()) (hp I L ρ) = some (none, hp I' L ρ) ∧ qF I I' ∧ unQ I' n k p := by
  refine ⟨u2 I 215 109 (nI bs), ?_, qF_u (by omega), unM_fr (by rw [u2_ap, if_neg (by omega)]) (by rw [u2_ap, if_neg (by omega)]) (by rw [u2_ap, if_neg (by omega)]) hU.1, hU.2.elim (fun c hc => ⟨c, hc.1, by rw [u2_ap, if_neg (by omega)]; exact hc.2⟩)⟩
  rw [show zFU = (zFU - 1) + 1 from rfl, h_fix]
  show X12_qSums_B53 215 (nI bs) _ (hp I L ρ) = _
  unfold X12_qSums_B53 X12_qSums_J78
  rw [gi_215, h_if, if_neg (unM_ne hU.1), pi_215]; rfl
theorem sums_lp (hW0 : tw p14 W0 = []) : ∀ (m fuel x : Nat) (I : Nat → Nat → Int32) (W Q : List Nat) (o : Nat), m < fuel → n - sk b n x < m → qP I b n kd x W W0 Q o → ∃ I' t, z_fix (fun r x => X12_qSums_B15 215 (nI bs) r x) fuel 1 (hp I L ρ) = some (none, hp I' L ρ) ∧ mr b n kd (.A (sk b n x) W Q o) t ∧ qF I I' ∧ ((∃ k p, t = .f k p ∧ unQ I' n k p) ∨ ∃ y W Q o, t = .e (sk b n y) W Q o ∧ qS I' b n y W0 bs (Q ++ W) o ∧ W0.length + (Q ++ W).length ≤ y) := by
  intro m
  induction m with
  | zero => intro fuel x I W Q o _ h; omega
  | succ m ih =>
    intro fuel x I W Q o hf hm hP
    obtain ⟨f, rfl⟩ : ∃ f, fuel = f + 1 := ⟨fuel - 1, by omega⟩
    have hi := fun y I W Q o h1 h2 => ih f y I W Q o (by omega) h1 h2
    have h0 : ∀ I : Nat → Nat → Int32, z_fix (fun r x => X12_qSums_B15 215 (nI bs) r x) f 0 (hp I L ρ) = z_fix (fun r x => X12_qSums_B53 215 (nI bs) r ) zFU (()) (hp I L ρ) := by
      intro I
      obtain ⟨g, rfl⟩ : ∃ g, f = g + 1 := ⟨f - 1, by omega⟩
      rw [h_fix]
      show X12_qSums_B15 215 (nI bs) _ 0 (hp I L ρ) = _
      unfold X12_qSums_B15
      rw [h_if, if_pos rfl]
    have hle := sk_le (b := b) hP.1.1.2.1
    rw [h_fix]
    show ∃ I' t, X12_qSums_B15 215 (nI bs) _ 1 (hp I L ρ) = _ ∧ _
    generalize z_fix (fun r x => X12_qSums_B15 215 (nI bs) r x) f = rec at hi h0
    obtain ⟨I1, t1, r1, r2, r3, r4⟩ := X12_qPartTold_h (L := L) (ρ := ρ) hP
    unfold X12_qSums_B15 X12_qSums_J48 X12_qSums_J49
    rw [h_if, if_neg (by decide), gi_215, h_if, if_pos hP.1.2.1, rc_215, h_cv r1, gi_215, h_if]
    rcases r4 with ⟨k, p, e, hU⟩ | ⟨y, W1, Q1, o1, e, hP1⟩
    · obtain ⟨I2, s1, s2, s3⟩ := sums_53u (bs := bs) (L := L) (ρ := ρ) hU
      rw [if_neg (unM_ne hU.1), h0]
      exact ⟨I2, t1, s1, r2, qF_tr r3 s2, Or.inl ⟨k, p, e, s3⟩⟩
    · subst e
      have g1 := mr_AB r2 hle
      obtain ⟨I2, t2, v, s1, s2, s3, s4⟩ := X12_qGoesOn_h (L := L) (ρ := ρ) hW0 hP1
      have r5 := mr_tr r2 s2
      rw [if_pos hP1.1.2.1, rc_215, h_ci s1, h_if]
      rcases s4 with ⟨rfl, z, W2, Q2, o2, e, hP2⟩ | ⟨rfl, ⟨k, p, e, hU⟩ | ⟨z, W2, Q2, o2, e, hP2⟩⟩
      · subst e
        have g2 := mr_BA s2 g1.2
        obtain ⟨I3, t3, q1, q2, q3, q4⟩ := hi z I2 W2 Q2 o2 (by omega) hP2
        rw [if_neg (by decide)]
        exact ⟨I3, t3, q1, mr_tr r5 q2, qF_tr r3 (qF_tr s3 q3), q4⟩
      · obtain ⟨I3, q1, q2, q3⟩ := sums_53u (bs := bs) (L := L) (ρ := ρ) hU
        rw [if_pos rfl, h0]
        exact ⟨I3, t2, q1, r5, qF_tr r3 (qF_tr s3 q2), Or.inl ⟨k, p, e, q3⟩⟩
      · obtain ⟨I3, q1, q2, q3⟩ := sums_53 (bs := bs) (L := L) (ρ := ρ) W2 Q2 zFU I2 hP2.1 (by have := qS_l hP2.1; rw [List.length_append] at this; unfold zFU; omega)
        rw [if_pos rfl, h0]
        refine ⟨I3, t2, q1, r5, qF_tr r3 (qF_tr s3 q2), Or.inr ⟨z, W2, Q2, o2, e, q3, ?_⟩⟩
        have := hP2.2.2.2.1
        rw [List.length_append] at this ⊢
        omega
end B7h
