/-! the reference: hands of a round -/
section B33
variable {I : Nat → Nat → Int32} {L : Nat → Nat → Int64} {ρ : zRh} {h : zH} {C : cT} {s : sT}
theorem k_th_wed (hk : okC C) (hS : okS C s) {a b : Nat} (h : s_wed s a = some b) : b < 2147483648 := by
  have := k_th_lt hk (hS.2.2.2.1 a b h).2.1
  omega
theorem ord_side (hS : okS C s) {side k : Nat} (hs : side < 2) (h : k < k_n C side) : 6 * side ≤ s_ord s (6 * side + k) := by
  have h1 := (hS.2.1 _ (k_th_of (C := C) hs h)).2
  have : side = 0 ∨ side = 1 := by omega
  rcases this with rfl | rfl
  · omega
  · omega
theorem X12_wait_lp (hk : okC C) (hS : okS C s) {side : Nat} (hs : side < 2) : ∀ (m k : Nat) (I : Nat → Nat → Int32) (fuel : Nat), k + m = k_n C side → m < fuel → chM I C → stM I C s → frX (I 257) (6 * side) (p_fr s side k) →
    ∃ I', z_fix (fun r x => X12_laysWaiting_B4 215 (nI side) r x.1 x.2) fuel (nI (p_fr s side k).length, nI k) (hp I L ρ) = some (some (.int (nI (p_free C s side).length)), hp I' L ρ) ∧ (∀ a, a ≠ 257 → I' a = I a) ∧ (∀ i, (i < 6 * side ∨ 6 * side + 6 ≤ i) → I' 257 i = I 257 i) ∧ frX (I' 257) (6 * side) (p_free C s side) := by
  intro m
  induction m with
  | zero =>
    intro k I fuel h1 h2 hM hX hF
    obtain ⟨f, rfl⟩ : ∃ f, fuel = f + 1 := ⟨fuel - 1, by omega⟩
    have hk6 := k_n_le hk side
    refine ⟨I, ?_, fun _ _ => rfl, fun _ _ => rfl, ?_⟩
    · rw [h_fix]
      show X12_laysWaiting_B4 215 (nI side) _ (nI (p_fr s side k).length) (nI k) (hp I L ρ) = _
      unfold X12_laysWaiting_B4
      rw [rc_215, h_ci (X12_sideMany_h hM hs), h_if, if_pos (nI_le (by omega) (by omega)), show k = k_n C side by omega]
      rfl
    · unfold p_free
      rw [show k_n C side = k by omega]
      exact hF
  | succ m ih =>
    intro k I fuel h1 h2 hM hX hF
    obtain ⟨f, rfl⟩ : ∃ f, fuel = f + 1 := ⟨fuel - 1, by omega⟩
    have hk6 := k_n_le hk side
    have hkn : k < k_n C side := by omega
    have hth := k_th_of (C := C) hs hkn
    have ho := hS.2.1 _ hth
    have ho12 := k_th_lt hk ho.1
    have hos := ord_side hS hs hkn
    have hlen := p_fr_le (s := s) side k
    rw [h_fix]
    generalize hg : z_fix (fun r x => X12_laysWaiting_B4 215 (nI side) r x.1 x.2) f = rec
    have step : ∀ (I1 : Nat → Nat → Int32), (∀ a, a ≠ 257 → I1 a = I a) → (∀ i, (i < 6 * side ∨ 6 * side + 6 ≤ i) → I1 257 i = I 257 i) → frX (I1 257) (6 * side) (p_fr s side (k + 1)) → ∃ I', rec (nI (p_fr s side (k + 1)).length, nI (k + 1)) (hp I1 L ρ) = some (some (.int (nI (p_free C s side).length)), hp I' L ρ) ∧ (∀ a, a ≠ 257 → I' a = I a) ∧ (∀ i, (i < 6 * side ∨ 6 * side + 6 ≤ i) → I' 257 i = I 257 i) ∧ frX (I' 257) (6 * side) (p_free C s side) := by
      intro I1 e1 e2 e3
      obtain ⟨I', q1, q2, q3, q4⟩ := ih (k + 1) I1 f (by omega) (by omega) (chM_fr (fun a ha => e1 a (by omega)) (by rw [e1 215 (by omega)]) hM) (stM_fr (e1 255 (by omega)) (by rw [e1 215 (by omega)]) (by rw [e1 215 (by omega)]) (e1 248 (by omega)) hX) e3
      exact ⟨I', by rw [← hg]; exact q1, fun a ha => by rw [q2 a ha, e1 a ha], fun i hi => by rw [q3 i hi, e2 i hi], q4⟩
    show ∃ I', X12_laysWaiting_B4 215 (nI side) rec (nI (p_fr s side k).length) (nI k) (hp I L ρ) = _ ∧ _
    unfold X12_laysWaiting_B4 X12_laysWaiting_J66
    rw [rc_215, h_ci (X12_sideMany_h hM hs), h_if, if_neg (nI_ge (by omega) (by omega)), gr_215_52, show (6 : Int32) = nI 6 from rfl, show (2 : Int32) = nI 2 from rfl, pk_mul, nI_add, nI_add, la_255 (by omega), hX.2.1 side k hs hkn, gr_215_52, show (14 : Int32) = nI 14 from rfl, nI_add, nI_add, show 6 * side + (s_ord s (6 * side + k) - 6 * side) = s_ord s (6 * side + k) by omega, la_255 (by omega), (hX.2.2 _ ho.1).1, h_if]
    simp only [oI_m1 (fun b e => k_th_wed hk hS e)]
    by_cases q : s_wed s (s_ord s (6 * side + k)) = none
    · have e : p_fr s side (k + 1) = p_fr s side k ++ [s_ord s (6 * side + k)] := by rw [p_fr, if_pos q]
      rw [if_pos q, gr_215_62, nI_add, sa_257 (by omega), nI_1, nI_1]
      have st := step (u2 I 257 (6 * side + (p_fr s side k).length) (nI (s_ord s (6 * side + k)))) (fun a ha => u2r ha) (fun i hi => by rw [u2_ap, if_neg (by omega)]) (by rw [e]; exact frX_snoc hF (by simp [u2]) (fun i hi => by rw [u2_ap, if_neg (by omega)]))
      rw [e, List.length_append, List.length_singleton] at st
      exact st
    · have e : p_fr s side (k + 1) = p_fr s side k := by rw [p_fr, if_neg q]
      rw [if_neg q, nI_1]
      have st := step I (fun _ _ => rfl) (fun _ _ => rfl) (by rw [e]; exact hF)
      rw [e] at st
      exact st
theorem X12_wait_h (hk : okC C) (hS : okS C s) {side : Nat} (hs : side < 2) (hM : chM I C) (hX : stM I C s) : ∃ I', X12_laysWaiting 215 (nI side) (hp I L ρ) = some (some (.int (nI (p_free C s side).length)), hp I' L ρ) ∧ (∀ a, a ≠ 257 → I' a = I a) ∧ (∀ i, (i < 6 * side ∨ 6 * side + 6 ≤ i) → I' 257 i = I 257 i) ∧ frX (I' 257) (6 * side) (p_free C s side) :=
  X12_wait_lp hk hS hs (k_n C side) 0 I zFU (by omega) (by have := k_n_le hk side; unfold zFU; omega) hM hX (fun i hi => absurd hi (by simp [p_fr]))
theorem X12_lays_lp (hk : okC C) (hS : okS C s) {pl : Nat} (hpl : pl = if (p_free C s 0).length < (p_free C s 1).length then (p_free C s 1).length else (p_free C s 0).length) : ∀ (m k : Nat) (I : Nat → Nat → Int32) (fuel : Nat), k + m = (p_free C s 0).length → m < fuel → I 255 1 = nI (s_rd s) → frX (I 257) 0 (p_free C s 0) → frX (I 257) 6 (p_free C s 1) → (∀ j, j < 12 → I 256 j = oI (p_hs (p_free C s 0) (p_free C s 1) (s_rd s) pl k j)) →
    ∃ I', z_fix (fun r x => X12_laysHands_B47 215 (nI (p_free C s 0).length) (nI (p_free C s 1).length) (nI pl) r x) fuel (nI k) (hp I L ρ) = some (none, hp I' L ρ) ∧ (∀ a, a ≠ 256 → I' a = I a) ∧ ∀ j, j < 12 → I' 256 j = oI (p_hold C s j) := by
  have l0 := p_fr_le (s := s) 0 (k_n C 0)
  have l1 := p_fr_le (s := s) 1 (k_n C 1)
  have l2 := k_n_le hk 0
  have l3 := k_n_le hk 1
  have hpl6 : pl ≤ 6 := by rw [hpl]; unfold p_free; split <;> omega
  intro m
  induction m with
  | zero =>
    intro k I fuel h1 h2 hrd hF0 hF1 hH
    obtain ⟨f, rfl⟩ : ∃ f, fuel = f + 1 := ⟨fuel - 1, by omega⟩
    refine ⟨I, ?_, fun _ _ => rfl, ?_⟩
    · rw [h_fix]
      show X12_laysHands_B47 215 _ _ _ _ (nI k) (hp I L ρ) = _
      unfold X12_laysHands_B47
      rw [h_if, if_pos (nI_le (by omega) (by unfold p_free at h1; omega))]
      rfl
    · intro j hj
      rw [hH j hj]
      unfold p_hold
      rw [← hpl, show k = (p_free C s 0).length by omega]
  | succ m ih =>
    intro k I fuel h1 h2 hrd hF0 hF1 hH
    obtain ⟨f, rfl⟩ : ∃ f, fuel = f + 1 := ⟨fuel - 1, by omega⟩
    have hrt := hk.2.1
    have hrd2 := hS.1.2
    have hpl0 : k < pl := by rw [hpl]; split <;> omega
    have hl6 : (p_free C s 0).length ≤ 6 := by unfold p_free; omega
    have hr6 : (p_free C s 1).length ≤ 6 := by unfold p_free; omega
    rw [h_fix]
    generalize hg : z_fix (fun r x => X12_laysHands_B47 215 (nI (p_free C s 0).length) (nI (p_free C s 1).length) (nI pl) r x) f = rec
    show ∃ I', X12_laysHands_B47 215 _ _ _ rec (nI k) (hp I L ρ) = _ ∧ _
    unfold X12_laysHands_B47 X12_laysHands_J119
    rw [h_if, if_neg (nI_ge (by omega) (by omega)), gr_215_52, lal_1, la_255 (by decide), hrd, h_ck (nI_ne0 (by omega) (by omega)), nI_add, pk_rem (by omega) (by omega) (by omega), h_if]
    have ho : (k + s_rd s) % pl < pl := Nat.mod_lt _ (by omega)
    simp only [nI_lt' (show (k + s_rd s) % pl < 2147483648 by omega) (show (p_free C s 1).length < 2147483648 by omega)]
    by_cases q : (k + s_rd s) % pl < (p_free C s 1).length
    · have fl := p_free_at hk hS (side := 0) (by omega) (show k < _ by omega)
      have fr := p_free_at hk hS (side := 1) (by omega) q
      have e0 := hF0 k (by omega)
      have e1 := hF1 ((k + s_rd s) % pl) q
      rw [Nat.zero_add] at e0
      rw [if_pos q, gr_215_61, gr_215_62, la_257 (by omega), e0, gr_215_62, show (6 : Int32) = nI 6 from rfl, nI_add, la_257 (by omega), e1, sa_256 (by omega), gr_215_61, gr_215_62, la_257 (by omega), u2r (show (257 : Nat) ≠ 256 by decide), e1, gr_215_62, la_257 (by omega), u2r (show (257 : Nat) ≠ 256 by decide), e0, sa_256 (by omega), nI_1, ← hg]
      obtain ⟨I', q1, q2, q3⟩ := ih (k + 1) (u2 (u2 I 256 ((p_free C s 0).getD k 0) (nI ((p_free C s 1).getD ((k + s_rd s) % pl) 0))) 256 ((p_free C s 1).getD ((k + s_rd s) % pl) 0) (nI ((p_free C s 0).getD k 0))) f (by omega) (by omega) (by rw [u2r (by omega), u2r (by omega)]; exact hrd) (fun i hi => by rw [u2r (by omega), u2r (by omega)]; exact hF0 i hi) (fun i hi => by rw [u2r (by omega), u2r (by omega)]; exact hF1 i hi) (fun j hj => by
        rw [u2_ap, u2_ap, p_hs, if_pos (show (k + s_rd s) % pl < (p_free C s 1).length by omega)]
        by_cases c1 : j = (p_free C s 1).getD ((k + s_rd s) % pl) 0
        · rw [if_pos ⟨rfl, c1⟩, if_pos c1]; rfl
        · rw [if_neg (fun c => c1 c.2), if_neg c1]
          by_cases c2 : j = (p_free C s 0).getD k 0
          · rw [if_pos ⟨rfl, c2⟩, if_pos c2]; rfl
          · rw [if_neg (fun c => c2 c.2), if_neg c2, hH j hj])
      exact ⟨I', q1, fun a ha => by rw [q2 a ha, u2r ha, u2r ha], q3⟩
    · rw [if_neg q, nI_1, ← hg]
      exact ih (k + 1) I f (by omega) (by omega) hrd hF0 hF1 (fun j hj => by rw [hH j hj, p_hs, if_neg q])
theorem X12_none_lp : ∀ (m k : Nat) (I : Nat → Nat → Int32) (fuel : Nat), k + m = 12 → m < fuel → (∀ j, j < k → I 256 j = -1) → ∃ I', z_fix (fun r x => X12_laysHands_B2 215 r x) fuel (nI k) (hp I L ρ) = X12_laysHands_J21 215 (hp I' L ρ) ∧ (∀ a, a ≠ 256 → I' a = I a) ∧ ∀ j, j < 12 → I' 256 j = -1 := by
  intro m
  induction m with
  | zero =>
    intro k I fuel h1 h2 hH
    obtain ⟨f, rfl⟩ : ∃ f, fuel = f + 1 := ⟨fuel - 1, by omega⟩
    obtain rfl : k = 12 := by omega
    refine ⟨I, ?_, fun _ _ => rfl, hH⟩
    rw [h_fix]
    show X12_laysHands_B2 215 _ (nI 12) (hp I L ρ) = _
    unfold X12_laysHands_B2
    rw [h_if, if_pos (by decide)]
  | succ m ih =>
    intro k I fuel h1 h2 hH
    obtain ⟨f, rfl⟩ : ∃ f, fuel = f + 1 := ⟨fuel - 1, by omega⟩
    rw [h_fix]
    generalize hg : z_fix (fun r x => X12_laysHands_B2 215 r x) f = rec
    show ∃ I', X12_laysHands_B2 215 rec (nI k) (hp I L ρ) = _ ∧ _
    unfold X12_laysHands_B2
    rw [h_if, if_neg (show ¬ (12 : Int32) ≤ nI k from nI_ge (b := 12) (by omega) (by omega)), gr_215_61, sa_256 (by omega), nI_1, ← hg]
    obtain ⟨I', q1, q2, q3⟩ := ih (k + 1) (u2 I 256 k (-1)) f (by omega) (by omega) (fun j hj => by
      rw [u2_ap]
      by_cases q : j = k
      · rw [if_pos ⟨rfl, q⟩]
      · rw [if_neg (fun c => q c.2), hH j (by omega)])
    exact ⟨I', q1, fun a ha => by rw [q2 a ha, u2r ha], q3⟩
theorem X12_lays_h (hk : okC C) (hS : okS C s) (hM : chM I C) (hX : stM I C s) : ∃ I', X12_laysHands 215 (hp I L ρ) = some (none, hp I' L ρ) ∧ (∀ a, a ≠ 256 → a ≠ 257 → I' a = I a) ∧ ∀ j, j < 12 → I' 256 j = oI (p_hold C s j) := by
  obtain ⟨I1, e1, f1, h49⟩ := X12_none_lp (L := L) (ρ := ρ) 12 0 I zFU (by omega) (by unfold zFU; omega) (fun j hj => by omega)
  obtain ⟨I2, a1, a2, a3, a4⟩ := X12_wait_h (L := L) (ρ := ρ) hk hS (side := 0) (by omega) (chM_fr (I' := I1) (fun a ha => f1 a (by omega)) (by rw [f1 215 (by omega)]) hM) (stM_fr (f1 255 (by omega)) (by rw [f1 215 (by omega)]) (by rw [f1 215 (by omega)]) (f1 248 (by omega)) hX)
  have f2 : ∀ a, a ≠ 256 → a ≠ 257 → I2 a = I a := fun a h1 h2 => by rw [a2 a h2, f1 a h1]
  obtain ⟨I3, b1, b2, b3, b4⟩ := X12_wait_h (L := L) (ρ := ρ) hk hS (side := 1) (by omega) (chM_fr (I' := I2) (fun a ha => f2 a (by omega) (by omega)) (by rw [f2 215 (by omega) (by omega)]) hM) (stM_fr (f2 255 (by omega) (by omega)) (by rw [f2 215 (by omega) (by omega)]) (by rw [f2 215 (by omega) (by omega)]) (f2 248 (by omega) (by omega)) hX)
  have f3 : ∀ a, a ≠ 256 → a ≠ 257 → I3 a = I a := fun a h1 h2 => by rw [b2 a h2, f2 a h1 h2]
  have hl6 : (p_free C s 0).length ≤ 6 := Nat.le_trans (p_fr_le (s := s) 0 (k_n C 0)) (k_n_le hk 0)
  have hr6 : (p_free C s 1).length ≤ 6 := Nat.le_trans (p_fr_le (s := s) 1 (k_n C 1)) (k_n_le hk 1)
  obtain ⟨I4, c1, c2, c3⟩ := X12_lays_lp (L := L) (ρ := ρ) hk hS rfl (p_free C s 0).length 0 I3 zFU (by omega) (by unfold zFU; omega) (by rw [f3 255 (by omega) (by omega)]; exact hX.1.2) (fun i hi => by
    rw [b3 _ (by omega)]
    exact a4 i hi) b4 (fun j hj => by rw [b2 _ (by omega), a2 _ (by omega), h49 j hj]; rfl)
  refine ⟨I4, ?_, fun a h1 h2 => by rw [c2 a h1, f3 a h1 h2], c3⟩
  unfold X12_laysHands
  refine e1.trans ?_
  unfold X12_laysHands_J21 X12_laysHands_J43
  rw [rc_215, h_ci (show X12_laysWaiting 215 0 _ = _ from a1), rc_215, h_ci (show X12_laysWaiting 215 1 _ = _ from b1), h_if]
  simp only [nI_le' (show (p_free C s 0).length < 2147483648 by omega) (show (p_free C s 1).length < 2147483648 by omega)]
  by_cases c : (p_free C s 0).length < (p_free C s 1).length
  · rw [if_pos (by omega)]
    rw [if_pos c] at c1
    exact c1
  · rw [if_neg c] at c1
    by_cases c' : (p_free C s 0).length ≤ (p_free C s 1).length
    · rw [if_pos c']
      rw [show (p_free C s 0).length = (p_free C s 1).length by omega] at c1 ⊢
      exact c1
    · rw [if_neg c']
      exact c1
end B33
