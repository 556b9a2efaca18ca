/-! the reference: a church that stands, all of it -/
section B8o
variable {I I0 : Nat → Nat → Int32} {L L0 : Nat → Nat → Int64} {ρ : zRh} {h : zH} {b : Nat → Nat} {n a x j k u w t side here : Nat} {r : rP} {S : nT}
theorem X12_stands_h (h49 : I 215 49 = nI u) (hu : u ≤ 1600) (hb : ∀ j, j < 36 → ∃ v, I 249 j = bI v) : ∃ K L', X12_stands 215 (hp I L ρ) = some (none, hp K L' ρ) ∧ (∀ k, k < 5 → K 246 (6 + k) = I 246 k) ∧ (∀ k, k < 3 → K 252 (3 + k) = I 252 k ∧ K 253 (3 + k) = I 253 k) ∧ (∀ k, k < 36 → K 248 (36 + k) = I 248 k ∧ K 249 (36 + k) = I 249 k) ∧ (∀ k, k < u → K 254 (1600 + k) = I 254 k) ∧ ((K 255 0 = 0 ∧ K 255 1 = 0 ∧ K 255 182 = 0) ∧ (∀ k, k < 6 → K 255 (2 + k) = nI k ∧ K 255 (8 + k) = nI k) ∧ (∀ k, k < 12 → K 255 (14 + k) = -1 ∧ K 255 (26 + k) = 0) ∧ ∀ k, k < 72 → K 255 (38 + k) = I 250 k ∧ K 255 (110 + k) = I 251 k) ∧ ((∀ k, k < 12 → L' 247 (12 + k) = L 247 k) ∧ ∀ c, c ≠ 247 → L' c = L c) ∧ (∀ c, c ≠ 215 → c ≠ 246 → c ≠ 248 → c ≠ 249 → c ≠ 252 → c ≠ 253 → c ≠ 254 → c ≠ 255 → K c = I c) ∧ (∀ k, k ≠ 53 → k ≠ 71 → k ≠ 75 → K 215 k = I 215 k) ∧ (K 215 53 = 1 ∧ K 215 71 = 0 ∧ K 215 75 = 0) := by
  obtain ⟨K0, hK0⟩ : ∃ K0, K0 = u2 I 215 53 1 := ⟨_, rfl⟩
  have f0 : ∀ c, c ≠ 215 → K0 c = I c := fun c hc => by rw [hK0, u2r hc]
  have f0' : ∀ k, k ≠ 53 → K0 215 k = I 215 k := fun k hk => by rw [hK0, u2_ap, if_neg (by omega)]
  obtain ⟨K1, r1, p1, q1⟩ := cp_7 (L := L) (ρ := ρ) 5 0 zFU K0 rfl (by unfold zFU; omega)
  obtain ⟨K2, r2, p2, q2⟩ := cp_35 (L := L) (ρ := ρ) 3 0 zFU K1 rfl (by unfold zFU; omega)
  obtain ⟨L1, r3, p3, q3⟩ := cp_76 (I := K2) (ρ := ρ) 12 0 zFU L rfl (by unfold zFU; omega)
  have hb2 : ∀ j, j < 36 → ∃ v, K2 249 j = bI v := fun j hj => by rw [q2 249 j (by omega) (by omega), q1 249 j (by omega), f0 249 (by omega)]; exact hb j hj
  obtain ⟨K3, r4, p4, q4⟩ := cp_105 (L := L1) (ρ := ρ) 36 0 zFU K2 rfl (by unfold zFU; omega) hb2
  have h493 : K3 215 49 = nI u := by rw [q4 215 49 (by omega) (by omega), q2 215 49 (by omega) (by omega), q1 215 49 (by omega), f0' 49 (by omega)]; exact h49
  obtain ⟨K4, r5, p5, q5⟩ := cp_149 (u := u) (L := L1) (ρ := ρ) u 0 zFU K3 (by omega) (by unfold zFU; omega) hu h493
  obtain ⟨K5, r6, p6, q6⟩ := cp_181 (L := L1) (ρ := ρ) 343 0 zFU K4 rfl (by unfold zFU; omega)
  obtain ⟨K6, r7, p7, q7⟩ := cp_203 (L := L1) (ρ := ρ) 6 0 zFU K5 rfl (by unfold zFU; omega)
  obtain ⟨K7, r8, p8, q8⟩ := cp_236 (L := L1) (ρ := ρ) 12 0 zFU K6 rfl (by unfold zFU; omega)
  obtain ⟨K8, r9, p9, q9⟩ := cp_260 (L := L1) (ρ := ρ) 72 0 zFU K7 rfl (by unfold zFU; omega)
  -- rows
  have g5 : ∀ c j, c ≠ 255 → K8 c j = K4 c j := fun c j hc => by rw [q9 c j (by omega) (by omega), q8 c j (by omega), q7 c j (by omega) (by omega), q6 c j (by omega)]
  have g4 : ∀ c j, c ≠ 255 → c ≠ 254 → K8 c j = K3 c j := fun c j h1 h2 => by rw [g5 c j h1, q5 c j (by omega)]
  have g3 : ∀ c j, c ≠ 255 → c ≠ 254 → c ≠ 248 → c ≠ 249 → K8 c j = K2 c j := fun c j h1 h2 h3 h4 => by rw [g4 c j h1 h2, q4 c j (by omega) (by omega)]
  have g2 : ∀ c j, c ≠ 255 → c ≠ 254 → c ≠ 248 → c ≠ 249 → c ≠ 252 → c ≠ 253 → K8 c j = K1 c j := fun c j h1 h2 h3 h4 h5 h6 => by rw [g3 c j h1 h2 h3 h4, q2 c j (by omega) (by omega)]
  have g1 : ∀ c j, c ≠ 255 → c ≠ 254 → c ≠ 248 → c ≠ 249 → c ≠ 252 → c ≠ 253 → c ≠ 246 → K8 c j = K0 c j := fun c j h1 h2 h3 h4 h5 h6 h7 => by rw [g2 c j h1 h2 h3 h4 h5 h6, q1 c j (by omega)]
  have e7 : ∀ j, K2 252 j = K2 252 j := fun _ => rfl
  have a0 : ∀ c j, c ≠ 215 → c ≠ 246 → c ≠ 252 → c ≠ 253 → K2 c j = I c j := fun c j h1 h2 h3 h4 => by rw [q2 c j (by omega) (by omega), q1 c j (by omega), f0 c h1]
  have b5 : ∀ j, 343 ≤ j ∨ j < 343 := fun j => by omega
  have s255 : ∀ j, (j < 38 ∨ 182 ≤ j) → K8 255 j = K7 255 j := fun j hj => q9 255 j (by omega) (by omega)
  have s6 : ∀ j, j < 14 ∨ 26 ≤ j → K7 255 j = K6 255 j := fun j hj => q8 255 j (by omega)
  have s7 : ∀ j, j < 2 ∨ 14 ≤ j → K6 255 j = K5 255 j := fun j hj => q7 255 j (by omega) (by omega)
  have z5 : ∀ j, j < 343 → K5 255 j = 0 := fun j hj => p6 j (by omega) hj
  have fin : ∀ c j, c ≠ 215 → u2 (u2 K8 215 75 0) 215 71 0 c j = K8 c j := fun c j hc => by rw [u2r hc, u2r hc]
  refine ⟨u2 (u2 K8 215 75 0) 215 71 0, L1, ?_, fun k hk => ?_, fun k hk => ⟨?_, ?_⟩, fun k hk => ⟨?_, ?_⟩, fun k hk => ?_, ⟨⟨?_, ?_, ?_⟩, fun k hk => ⟨?_, ?_⟩, fun k hk => ⟨?_, ?_⟩, fun k hk => ⟨?_, ?_⟩⟩, ⟨fun k hk => p3 k (by omega) hk, fun c hc => ?_⟩, fun c h1 h2 h3 h4 h5 h6 h7 h8 => ?_, fun k h1 h2 h3 => ?_, ?_, ?_, ?_⟩
  · unfold X12_stands
    rw [pb1_215, ← hK0]
    show z_fix (fun r x => X12_stands_B7 215 r x) zFU (nI 0) (hp K0 L ρ) = _
    rw [r1]
    unfold X12_stands_J33
    show z_fix (fun r x => X12_stands_B35 215 r x) zFU (nI 0) (hp K1 L ρ) = _
    rw [r2]
    unfold X12_stands_J74
    show z_fix (fun r x => X12_stands_B76 215 r x) zFU (nI 0) (hp K2 L ρ) = _
    rw [r3]
    unfold X12_stands_J103
    show z_fix (fun r x => X12_stands_B105 215 r x) zFU (nI 0) (hp K2 L1 ρ) = _
    rw [r4]
    unfold X12_stands_J147
    show z_fix (fun r x => X12_stands_B149 215 r x) zFU (nI 0) (hp K3 L1 ρ) = _
    rw [r5]
    unfold X12_stands_J179
    show z_fix (fun r x => X12_stands_B181 215 r x) zFU (nI 0) (hp K4 L1 ρ) = _
    rw [r6]
    unfold X12_stands_J201
    show z_fix (fun r x => X12_stands_B203 215 r x) zFU (nI 0) (hp K5 L1 ρ) = _
    rw [r7]
    unfold X12_stands_J234
    show z_fix (fun r x => X12_stands_B236 215 r x) zFU (nI 0) (hp K6 L1 ρ) = _
    rw [r8]
    unfold X12_stands_J258
    show z_fix (fun r x => X12_stands_B260 215 r x) zFU (nI 0) (hp K7 L1 ρ) = _
    rw [r9]
    unfold X12_stands_J302
    rw [pi_215, pi_215]; rfl
  · rw [fin 246 _ (by omega), g2 246 _ (by omega) (by omega) (by omega) (by omega) (by omega) (by omega), p1 k (by omega) hk, f0 246 (by omega)]
  · rw [fin 252 _ (by omega), g3 252 _ (by omega) (by omega) (by omega) (by omega), (p2 k (by omega) hk).1, q1 252 _ (by omega), f0 252 (by omega)]
  · rw [fin 253 _ (by omega), g3 253 _ (by omega) (by omega) (by omega) (by omega), (p2 k (by omega) hk).2, q1 253 _ (by omega), f0 253 (by omega)]
  · rw [fin 248 _ (by omega), g4 248 _ (by omega) (by omega), (p4 k (by omega) hk).1, a0 248 _ (by omega) (by omega) (by omega) (by omega)]
  · rw [fin 249 _ (by omega), g4 249 _ (by omega) (by omega), (p4 k (by omega) hk).2, a0 249 _ (by omega) (by omega) (by omega) (by omega)]
  · rw [fin 254 _ (by omega), g5 254 _ (by omega), p5 k (by omega) hk, q4 254 _ (by omega) (by omega), a0 254 _ (by omega) (by omega) (by omega) (by omega)]
  · rw [fin 255 _ (by omega), s255 _ (by omega), s6 _ (by omega), s7 _ (by omega), z5 _ (by omega)]
  · rw [fin 255 _ (by omega), s255 _ (by omega), s6 _ (by omega), s7 _ (by omega), z5 _ (by omega)]
  · rw [fin 255 _ (by omega), s255 _ (by omega), s6 _ (by omega), s7 _ (by omega), z5 _ (by omega)]
  · rw [fin 255 _ (by omega), s255 _ (by omega), s6 _ (by omega), (p7 k (by omega) hk).1]
  · rw [fin 255 _ (by omega), s255 _ (by omega), s6 _ (by omega), (p7 k (by omega) hk).2]
  · rw [fin 255 _ (by omega), s255 _ (by omega), p8 k (by omega) hk]
  · rw [fin 255 _ (by omega), s255 _ (by omega), s6 _ (by omega), s7 _ (by omega), z5 _ (by omega)]
  · rw [fin 255 _ (by omega), (p9 k (by omega) hk).1, q8 250 _ (by omega), q7 250 _ (by omega) (by omega), q6 250 _ (by omega), q5 250 _ (by omega), q4 250 _ (by omega) (by omega), a0 250 _ (by omega) (by omega) (by omega) (by omega)]
  · rw [fin 255 _ (by omega), (p9 k (by omega) hk).2, q8 251 _ (by omega), q7 251 _ (by omega) (by omega), q6 251 _ (by omega), q5 251 _ (by omega), q4 251 _ (by omega) (by omega), a0 251 _ (by omega) (by omega) (by omega) (by omega)]
  · funext j
    exact q3 c j (by omega)
  · funext j
    rw [fin c j h1, g1 c j h8 h7 h3 h4 h5 h6 h2, f0 c h1]
  · rw [u2_ap, if_neg (by omega), u2_ap, if_neg (by omega), g1 215 k (by omega) (by omega) (by omega) (by omega) (by omega) (by omega) (by omega), f0' k h1]
  · rw [u2_ap, if_neg (by omega), u2_ap, if_neg (by omega), g1 215 53 (by omega) (by omega) (by omega) (by omega) (by omega) (by omega) (by omega), hK0, u2_ap, if_pos ⟨rfl, rfl⟩]
  · rw [u2_ap, if_pos ⟨rfl, rfl⟩]
  · rw [u2_ap, if_neg (by omega), u2_ap, if_pos ⟨rfl, rfl⟩]
end B8o
