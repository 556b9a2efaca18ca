/-! the reference: one of the left, of the right -/
section B8g
variable {I I0 : Nat → Nat → Int32} {L L0 : Nat → Nat → Int64} {ρ : zRh} {h : zH} {b : Nat → Nat} {n a x j k u side here : Nat} {r : rP} {S : nT}
/-- a church that is being read stands in the reference, or a fault -/
def jN (I : Nat → Nat → Int32) (L : Nat → Nat → Int64) (b : Nat → Nat) (n : Nat) (R : nR) : Prop := match R with
  | .inl e => unM I n e.1 e.2
  | .inr q => tQ I b n (.inr q.1) ∧ jX I L q.2 ∧ ∃ u, jC I q.2 u ∧ u ≤ q.1
theorem nmv_cg {f g : Nat → Nat} : ∀ m, (∀ i, i < m → f i = g i) → p_nmv f m = p_nmv g m
  | 0, _ => rfl
  | m + 1, h => by
    show (if f m = 0 then p_nmv f m else 27 * p_nmv f m + f m) = (if g m = 0 then p_nmv g m else 27 * p_nmv g m + g m)
    rw [h m (by omega), nmv_cg m (fun i hi => h i (by omega))]
theorem jC_fr {I' : Nat → Nat → Int32} {S' : nT} (h1 : I' 215 49 = I 215 49) (h2 : I' 252 = I 252) (h3 : I' 253 = I 253) (h4 : I' 254 = I 254) (h5 : n_cd S' = n_cd S) (h : jC I S u) : jC I' S' u := by
  unfold jC
  rw [h1, h2, h3, h4, h5]
  exact h
theorem tQ_fr {I' : Nat → Nat → Int32} (h1 : I' 215 = I 215) (h2 : I' 216 = I 216) (h : tQ I b n r) : tQ I' b n r := by
  rcases r with e | a
  · obtain ⟨q1, q2, q3, q4, q5⟩ := h
    exact ⟨by rw [h1]; exact q1, q2, by rw [h1]; exact q3, q4, by rw [h1]; exact q5⟩
  · obtain ⟨x, q1, q2, q3⟩ := h
    exact ⟨x, tkM_fr h2 (by rw [h1]) (by rw [h1]) (by rw [h1]) q1, q2, by rw [h1]; exact q3⟩
/-! names that are told -/
def oneI (I : Nat → Nat → Int32) (o : Option Nat) : Nat → Nat → Int32 := match o with
  | none => I
  | some _ => u2 (u2 I 215 5 3) 215 6 (I 215 39)
theorem one_u {v : Int64} {v1 : Int32} {s c : Nat} {r32 : Int32 → zM} (hc : c ≤ 6) (h1 : I 246 s = nI c) (hs : s < 2) (h5 : ¬ I 215 5 = 0) : ∀ m v6 fuel, v6 + m = c → m < fuel → z_fix (fun r x => X12_oneTold_B41 r32 215 v1 v (nI s) r x) fuel (nI v6) (hp I L ρ) = r32 (nI (s + 1)) (hp I L ρ) := by
  intro m
  induction m with
  | zero =>
    intro v6 fuel hv hf
    obtain ⟨f, rfl⟩ : ∃ f, fuel = f + 1 := ⟨fuel - 1, by omega⟩
    rw [h_fix]
    show X12_oneTold_B41 r32 215 v1 v (nI s) _ (nI v6) (hp I L ρ) = _
    unfold X12_oneTold_B41 X12_oneTold_J93
    rw [gr_215_40, la_246 (by omega), h1, h_if, if_pos ((nI_le' (by omega) (by omega)).mpr (by omega)), nI_1]
  | succ m ih =>
    intro v6 fuel hv hf
    obtain ⟨f, rfl⟩ : ∃ f, fuel = f + 1 := ⟨fuel - 1, by omega⟩
    have hr := ih (v6 + 1) f (by omega) (by omega)
    rw [h_fix]
    show X12_oneTold_B41 r32 215 v1 v (nI s) _ (nI v6) (hp I L ρ) = _
    generalize z_fix (fun r x => X12_oneTold_B41 r32 215 v1 v (nI s) r x) f = rec at hr
    unfold X12_oneTold_B41 X12_oneTold_J87
    rw [gr_215_40, la_246 (by omega), h1, h_if, if_neg (fun q => by have := (nI_le' (by omega) (by omega)).mp q; omega), gi_215, h_if, if_neg h5, nI_1, hr]
theorem one_s {v : Int64} {v1 : Int32} {s c : Nat} {r32 : Int32 → zM} (hc : c ≤ 6) (h1 : I 246 s = nI c) (hs : s < 2) (h5 : I 215 5 = 0) : ∀ m v6 fuel, v6 + m = c → m < fuel → z_fix (fun r x => X12_oneTold_B41 r32 215 v1 v (nI s) r x) fuel (nI v6) (hp I L ρ) = r32 (nI (s + 1)) (hp (oneI I (fsP (fun y => decide (L 247 y = v)) m (6 * s + v6))) L ρ) := by
  intro m
  induction m with
  | zero =>
    intro v6 fuel hv hf
    obtain ⟨f, rfl⟩ : ∃ f, fuel = f + 1 := ⟨fuel - 1, by omega⟩
    rw [h_fix]
    show X12_oneTold_B41 r32 215 v1 v (nI s) _ (nI v6) (hp I L ρ) = r32 (nI (s + 1)) (hp I L ρ)
    unfold X12_oneTold_B41 X12_oneTold_J93
    rw [gr_215_40, la_246 (by omega), h1, h_if, if_pos ((nI_le' (by omega) (by omega)).mpr (by omega)), nI_1]
  | succ m ih =>
    intro v6 fuel hv hf
    obtain ⟨f, rfl⟩ : ∃ f, fuel = f + 1 := ⟨fuel - 1, by omega⟩
    have hr := ih (v6 + 1) f (by omega) (by omega)
    have e3 : ¬ u2 (u2 I 215 5 3) 215 6 (I 215 39) 215 5 = 0 := by
      rw [u2_ap, if_neg (by omega), u2_ap, if_pos ⟨rfl, rfl⟩]; decide
    have hu := one_u (L := L) (ρ := ρ) (v := v) (v1 := v1) (r32 := r32) (I := u2 (u2 I 215 5 3) 215 6 (I 215 39)) hc (by rw [u2r (by omega), u2r (by omega)]; exact h1) hs e3 m (v6 + 1) f (by omega) (by omega)
    rw [h_fix]
    show X12_oneTold_B41 r32 215 v1 v (nI s) _ (nI v6) (hp I L ρ) = r32 (nI (s + 1)) (hp (oneI I (if decide (L 247 (6 * s + v6) = v) = true then some (6 * s + v6) else fsP (fun y => decide (L 247 y = v)) m (6 * s + v6 + 1))) L ρ)
    generalize z_fix (fun r x => X12_oneTold_B41 r32 215 v1 v (nI s) r x) f = rec at hr hu
    unfold X12_oneTold_B41 X12_oneTold_J87
    rw [gr_215_40, la_246 (by omega), h1, h_if, if_neg (fun q => by have := (nI_le' (by omega) (by omega)).mp q; omega), gi_215, h_if, if_pos h5, gr_215_41, show (6 : Int32) = nI 6 from rfl, pk_mul, nI_add, ll_247 (by omega), h_if, nI_1]
    by_cases c : L 247 (6 * s + v6) = v
    · rw [if_pos c, decide_eq_true c, if_pos rfl, gi_215, rc_215, h_cv (X12_fail_s h5 _ _), hu]; rfl
    · rw [if_neg c, decide_eq_false c, if_neg (by decide), hr]; rfl
theorem one_8u {v : Int64} {v1 : Int32} (hok : okN S) (hX : I 246 0 = nI (n_n S 0) ∧ I 246 1 = nI (n_n S 1)) (h5 : ¬ I 215 5 = 0) : z_fix (fun r x => X12_oneTold_B32 215 v1 v r x) zFU 0 (hp I L ρ) = X12_oneTold_J99 215 v1 v (hp I L ρ) := by
  have h0 := hok.1
  have i0 := fun r8 => one_u (L := L) (ρ := ρ) (v := v) (v1 := v1) (r32 := r8) h0.1 hX.1 (show 0 < 2 by omega) h5 (n_n S 0) 0 zFU (by omega) (by unfold zFU; omega)
  have i1 := fun r8 => one_u (L := L) (ρ := ρ) (v := v) (v1 := v1) (r32 := r8) h0.2 hX.2 (show 1 < 2 by omega) h5 (n_n S 1) 0 zFU (by omega) (by unfold zFU; omega)
  have e2 : ∀ f, z_fix (fun r x => X12_oneTold_B32 215 v1 v r x) (f + 1) (nI (1 + 1)) (hp I L ρ) = X12_oneTold_J99 215 v1 v (hp I L ρ) := by
    intro f
    rw [h_fix]
    show X12_oneTold_B32 215 v1 v _ (nI (1 + 1)) (hp I L ρ) = _
    unfold X12_oneTold_B32
    rw [h_if, if_pos (by decide)]
  have e1 : ∀ f, z_fix (fun r x => X12_oneTold_B32 215 v1 v r x) (f + 2) (nI (0 + 1)) (hp I L ρ) = X12_oneTold_J99 215 v1 v (hp I L ρ) := by
    intro f
    have g2 := e2 f
    rw [h_fix]
    show X12_oneTold_B32 215 v1 v _ (nI (0 + 1)) (hp I L ρ) = _
    generalize z_fix (fun r x => X12_oneTold_B32 215 v1 v r x) (f + 1) = rec at g2
    unfold X12_oneTold_B32
    rw [h_if, if_neg (by decide)]
    exact (i1 rec).trans g2
  have g2 := e1 (zFU - 3)
  rw [show zFU = (zFU - 3 + 2) + 1 from rfl, h_fix]
  show X12_oneTold_B32 215 v1 v _ 0 (hp I L ρ) = _
  generalize z_fix (fun r x => X12_oneTold_B32 215 v1 v r x) (zFU - 3 + 2) = rec at g2
  unfold X12_oneTold_B32
  rw [h_if, if_neg (by decide)]
  exact (i0 rec).trans g2
theorem one_8s {v : Int64} {v1 : Int32} (hok : okN S) (hX : I 246 0 = nI (n_n S 0) ∧ I 246 1 = nI (n_n S 1)) (h5 : I 215 5 = 0) : z_fix (fun r x => X12_oneTold_B32 215 v1 v r x) zFU 0 (hp I L ρ) = X12_oneTold_J99 215 v1 v (hp (oneI I (fsA (fun y => decide (L 247 y = v)) S)) L ρ) := by
  have h0 := hok.1
  have i0 := fun r8 => one_s (L := L) (ρ := ρ) (v := v) (v1 := v1) (r32 := r8) h0.1 hX.1 (show 0 < 2 by omega) h5 (n_n S 0) 0 zFU (by omega) (by unfold zFU; omega)
  have i1 := fun r8 => one_s (L := L) (ρ := ρ) (v := v) (v1 := v1) (r32 := r8) h0.2 hX.2 (show 1 < 2 by omega) h5 (n_n S 1) 0 zFU (by omega) (by unfold zFU; omega)
  have e3 : ¬ u2 (u2 I 215 5 3) 215 6 (I 215 39) 215 5 = 0 := by
    rw [u2_ap, if_neg (by omega), u2_ap, if_pos ⟨rfl, rfl⟩]; decide
  have u1 := fun r8 => one_u (L := L) (ρ := ρ) (v := v) (v1 := v1) (r32 := r8) (I := u2 (u2 I 215 5 3) 215 6 (I 215 39)) h0.2 (by rw [u2r (by omega), u2r (by omega)]; exact hX.2) (show 1 < 2 by omega) e3 (n_n S 1) 0 zFU (by omega) (by unfold zFU; omega)
  have e2 : ∀ f J, z_fix (fun r x => X12_oneTold_B32 215 v1 v r x) (f + 1) (nI (1 + 1)) (hp J L ρ) = X12_oneTold_J99 215 v1 v (hp J L ρ) := by
    intro f J
    rw [h_fix]
    show X12_oneTold_B32 215 v1 v _ (nI (1 + 1)) (hp J L ρ) = _
    unfold X12_oneTold_B32
    rw [h_if, if_pos (by decide)]
  have e1 : ∀ f, z_fix (fun r x => X12_oneTold_B32 215 v1 v r x) (f + 2) (nI (0 + 1)) (hp I L ρ) = X12_oneTold_J99 215 v1 v (hp (oneI I (fsP (fun y => decide (L 247 y = v)) (n_n S 1) 6)) L ρ) := by
    intro f
    have g2 := e2 f
    rw [h_fix]
    show X12_oneTold_B32 215 v1 v _ (nI (0 + 1)) (hp I L ρ) = _
    generalize z_fix (fun r x => X12_oneTold_B32 215 v1 v r x) (f + 1) = rec at g2
    unfold X12_oneTold_B32
    rw [h_if, if_neg (by decide)]
    exact (i1 rec).trans (g2 _)
  have e1u : ∀ f, z_fix (fun r x => X12_oneTold_B32 215 v1 v r x) (f + 2) (nI (0 + 1)) (hp (u2 (u2 I 215 5 3) 215 6 (I 215 39)) L ρ) = X12_oneTold_J99 215 v1 v (hp (u2 (u2 I 215 5 3) 215 6 (I 215 39)) L ρ) := by
    intro f
    have g2 := e2 f
    rw [h_fix]
    show X12_oneTold_B32 215 v1 v _ (nI (0 + 1)) (hp (u2 (u2 I 215 5 3) 215 6 (I 215 39)) L ρ) = _
    generalize z_fix (fun r x => X12_oneTold_B32 215 v1 v r x) (f + 1) = rec at g2
    unfold X12_oneTold_B32
    rw [h_if, if_neg (by decide)]
    exact (u1 rec).trans (g2 _)
  have g2 := e1 (zFU - 3)
  have g2u := e1u (zFU - 3)
  rw [show zFU = (zFU - 3 + 2) + 1 from rfl, h_fix]
  show X12_oneTold_B32 215 v1 v _ 0 (hp I L ρ) = _
  generalize z_fix (fun r x => X12_oneTold_B32 215 v1 v r x) (zFU - 3 + 2) = rec at g2 g2u
  unfold X12_oneTold_B32 fsA
  rw [h_if, if_neg (by decide)]
  have g1 := i0 rec
  rcases q : fsP (fun y => decide (L 247 y = v)) (n_n S 0) 0 with _ | y
  · have q' : fsP (fun y => decide (L 247 y = v)) (n_n S 0) (6 * 0 + 0) = none := q
    rw [q'] at g1
    exact g1.trans g2
  · have q' : fsP (fun y => decide (L 247 y = v)) (n_n S 0) (6 * 0 + 0) = some y := q
    rw [q'] at g1
    exact g1.trans g2u
end B8g
