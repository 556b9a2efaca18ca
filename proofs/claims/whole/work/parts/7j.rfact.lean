/-! the reference reads a fact -/
section B7j
variable {I I0 : Nat → Nat → Int32} {L L0 : Nat → Nat → Int64} {ρ : zRh} {h : zH} {b : Nat → Nat} {n a x o bs kd : Nat} {V W W0 Q : List Nat}
theorem cdR_all : cdR kd [13] [1] := by
  refine cdR_1 ?_ (Or.inr (Or.inl ⟨by omega, by omega⟩))
  unfold c_dd
  by_cases k : kd = 3
  · rw [if_pos k]; rfl
  · rw [if_neg k]; rfl
/-- sums behind a fault -/
theorem X12_qSums_u {k p : Nat} (hU : unM I n k p) (h1 : I 215 109 = nI bs) : ∃ I', X12_qSums 215 (hp I L ρ) = some (none, hp I' L ρ) ∧ qF I I' ∧ unM I' n k p ∧ I' 215 105 = I 215 105 := by
  have hU1 : unM (u2 I 215 109 (I 215 107)) n k p := unM_fr (by rw [u2_ap, if_neg (by omega)]) (by rw [u2_ap, if_neg (by omega)]) (by rw [u2_ap, if_neg (by omega)]) hU
  have hs := unM_ne hU1
  refine ⟨u2 (u2 I 215 109 (I 215 107)) 215 109 (nI bs), ?_, qF_tr (qF_u (by omega)) (qF_u (by omega)), unM_fr (by rw [u2_ap, if_neg (by omega)]) (by rw [u2_ap, if_neg (by omega)]) (by rw [u2_ap, if_neg (by omega)]) hU1, by rw [u2_ap, if_neg (by omega), u2_ap, if_neg (by omega)]⟩
  unfold X12_qSums
  rw [gi_215, h1, gi_215, pi_215, show zFU = (zFU - 1) + 1 from rfl, h_fix]
  show X12_qSums_B15 215 (nI bs) _ 1 (hp (u2 I 215 109 (I 215 107)) L ρ) = _
  unfold X12_qSums_B15
  rw [h_if, if_neg (by decide), gi_215, h_if, if_neg hs, show zFU = (zFU - 1) + 1 from rfl, h_fix]
  show X12_qSums_B53 215 (nI bs) _ (hp (u2 I 215 109 (I 215 107)) L ρ) = _
  unfold X12_qSums_B53 X12_qSums_J78
  rw [gi_215, h_if, if_neg hs, pi_215]; rfl
end B7j
