/-! the reference reads a fact, behind a fault -/
section B7k
variable {I I0 : Nat → Nat → Int32} {L L0 : Nat → Nat → Int64} {ρ : zRh} {h : zH} {b : Nat → Nat} {n a x o bs kd : Nat} {V W W0 Q : List Nat}
/-- the code of a comparison, behind a fault -/
theorem fact_102u {k p c : Nat} (hU : unQ I n k p) : ∃ I', X12_qFact_J102 (nI c) 215 (hp I L ρ) = some (none, hp I' L ρ) ∧ qF I I' ∧ unM I' n k p := by
  obtain ⟨hM, d, d1, d2⟩ := hU
  have e := X12_qCode_u (I := I) (L := L) (ρ := ρ) (c := nI c) d2 (by omega)
  refine ⟨u2 (u2 I 293 d (nI c)) 215 105 (nI (d + 1)), ?_, qF_tr qF_3 (qF_u (by omega)), unM_fr (by rw [u2_ap, if_neg (by omega), u2r (by omega)]) (by rw [u2_ap, if_neg (by omega), u2r (by omega)]) (by rw [u2_ap, if_neg (by omega), u2r (by omega)]) hM⟩
  unfold X12_qFact_J102
  rw [rc_215, h_cv e]; rfl
theorem fact_102 {c : Nat} (hl : V.length + Q.length < 1600) (hS : qS I b n x V bs Q o) : ∃ I', X12_qFact_J102 (nI c) 215 (hp I L ρ) = some (none, hp I' L ρ) ∧ qF I I' ∧ qS I' b n x V bs (Q ++ [c]) o := by
  obtain ⟨I', r1, r2, r3⟩ := X12_qCode_h (L := L) (ρ := ρ) (c := c) hl hS
  refine ⟨I', ?_, r2, r3⟩
  unfold X12_qFact_J102
  rw [rc_215, h_cv r1]; rfl
end B7k
