/-! the reference: a church that is being read, who has a name -/
section B8f
variable {I I0 : Nat → Nat → Int32} {L L0 : Nat → Nat → Int64} {ρ : zRh} {h : zH} {b : Nat → Nat} {n a x j k : Nat} {r : rP} {S : nT}
def jX (I : Nat → Nat → Int32) (L : Nat → Nat → Int64) (S : nT) : Prop := (I 246 0 = nI (n_n S 0) ∧ I 246 1 = nI (n_n S 1)) ∧ (I 246 2 = nI (n_kc S) ∧ I 246 3 = nI (n_rt S) ∧ I 246 4 = nI (n_sl S)) ∧ (∀ a, n_th S a → L 247 a = cl (p_nmv (fun k => n_nm S (6 * a + k)) 6 : Nat) ∧ I 248 (3 * a) = nI (n_wm S a) ∧ I 248 (3 * a + 1) = nI (n_wk S a) ∧ I 248 (3 * a + 2) = nI (n_sz S a)) ∧ (∀ j, j < 36 → I 249 j = bI (n_kin S j)) ∧ ∀ j, j < 72 → I 250 j = nI (n_lk S j) ∧ I 251 j = nI (n_kw S j)
def jC (I : Nat → Nat → Int32) (S : nT) (u : Nat) : Prop := I 215 49 = nI u ∧ ∀ w, w < 3 → match n_cd S w with
  | none => I 252 w = -1
  | some l => ∃ (q : Nat) (R : List Nat), I 252 w = nI q ∧ I 253 w = nI (q + R.length) ∧ q + R.length ≤ u ∧ R.map c_cc = l ∧ (∀ r ∈ R, c_ok r) ∧ ∀ i, i < R.length → I 254 (q + i) = nI (R.getD i 0)
/-- what reading a church changes -/
def jF (I I' : Nat → Nat → Int32) (L L' : Nat → Nat → Int64) : Prop := ((∀ x, x ≠ 215 → (x < 246 ∨ 254 < x) → x ≠ 293 → x ≠ 294 → I' x = I x) ∧ (∀ k, k ≠ 2 → k ≠ 4 → k ≠ 5 → k ≠ 6 → k ≠ 10 → k ≠ 39 → k ≠ 49 → k ≠ 51 → (k < 105 ∨ 109 < k) → I' 215 k = I 215 k) ∧ rC I I') ∧ ((∀ j, 5 ≤ j → I' 246 j = I 246 j) ∧ (∀ j, 36 ≤ j → I' 248 j = I 248 j ∧ I' 249 j = I 249 j) ∧ (∀ j, 3 ≤ j → I' 252 j = I 252 j ∧ I' 253 j = I 253 j) ∧ ∀ j, 1600 ≤ j → I' 254 j = I 254 j) ∧ (∀ x, x ≠ 247 → L' x = L x) ∧ ∀ j, 12 ≤ j → L' 247 j = L 247 j
theorem jF_0 : jF I I L L := ⟨⟨fun _ _ _ _ _ => rfl, fun _ _ _ _ _ _ _ _ _ _ => rfl, rC_0⟩, ⟨fun _ _ => rfl, fun _ _ => ⟨rfl, rfl⟩, fun _ _ => ⟨rfl, rfl⟩, fun _ _ => rfl⟩, fun _ _ => rfl, fun _ _ => rfl⟩
theorem jF_tr {I1 I2 : Nat → Nat → Int32} {L1 L2 : Nat → Nat → Int64} (h1 : jF I I1 L L1) (h2 : jF I1 I2 L1 L2) : jF I I2 L L2 := by
  obtain ⟨⟨a1, a2, a3⟩, ⟨a4, a5, a6, a7⟩, a8, a9⟩ := h1
  obtain ⟨⟨b1, b2, b3⟩, ⟨b4, b5, b6, b7⟩, b8, b9⟩ := h2
  exact ⟨⟨fun x c d e f => by rw [b1 x c d e f, a1 x c d e f], fun k c d e f g i j l o => by rw [b2 k c d e f g i j l o, a2 k c d e f g i j l o], rC_tr a3 b3⟩, ⟨fun j c => by rw [b4 j c, a4 j c], fun j c => by rw [(b5 j c).1, (b5 j c).2, (a5 j c).1, (a5 j c).2]; exact ⟨rfl, rfl⟩, fun j c => by rw [(b6 j c).1, (b6 j c).2, (a6 j c).1, (a6 j c).2]; exact ⟨rfl, rfl⟩, fun j c => by rw [b7 j c, a7 j c]⟩, fun x c => by rw [b8 x c, a8 x c], fun j c => by rw [b9 j c, a9 j c]⟩
theorem jF_q {I' : Nat → Nat → Int32} (h : qF I I') : jF I I' L L := by
  have e : ∀ x, (246 ≤ x ∧ x ≤ 254) → I' x = I x := fun x hx => h.1 x (by omega) (by omega) (by omega)
  exact ⟨⟨fun x c d e f => h.1 x c e f, fun k c d e f g i _ _ o => h.2.1 k c d e f g i o, h.2.2⟩, ⟨fun j _ => by rw [e 246 (by omega)], fun j _ => ⟨by rw [e 248 (by omega)], by rw [e 249 (by omega)]⟩, fun j _ => ⟨by rw [e 252 (by omega)], by rw [e 253 (by omega)]⟩, fun j _ => by rw [e 254 (by omega)]⟩, fun _ _ => rfl, fun _ _ => rfl⟩
theorem jF_fx {I' : Nat → Nat → Int32} (h : fxM I I') : jF I I' L L := jF_q (qF_fx h)
theorem jF_u {c k : Nat} {v : Int32} (h : (c = 246 ∧ k < 5) ∨ ((c = 248 ∨ c = 249) ∧ k < 36) ∨ c = 250 ∨ c = 251 ∨ ((c = 252 ∨ c = 253) ∧ k < 3) ∨ (c = 254 ∧ k < 1600) ∨ (c = 215 ∧ (k = 49 ∨ k = 51 ∨ (105 ≤ k ∧ k ≤ 109)))) : jF I (u2 I c k v) L L := by
  have e : ∀ x y, x ≠ c ∨ y ≠ k → u2 I c k v x y = I x y := fun x y q => by rw [u2_ap, if_neg (by omega)]
  refine ⟨⟨fun x q1 q2 q3 q4 => u2r (by omega), fun y q1 q2 q3 q4 q5 q6 q7 q8 q9 => e _ _ (by omega), rC_u (by omega)⟩, ⟨fun y q => e _ _ (by omega), fun y q => ⟨e _ _ (by omega), e _ _ (by omega)⟩, fun y q => ⟨e _ _ (by omega), e _ _ (by omega)⟩, fun y q => e _ _ (by omega)⟩, fun _ _ => rfl, fun _ _ => rfl⟩
theorem jF_L {k : Nat} {v : Int64} (h : k < 12) : jF I I L (u2 L 247 k v) := ⟨⟨fun _ _ _ _ _ => rfl, fun _ _ _ _ _ _ _ _ _ _ => rfl, rC_0⟩, ⟨fun _ _ => rfl, fun _ _ => ⟨rfl, rfl⟩, fun _ _ => ⟨rfl, rfl⟩, fun _ _ => rfl⟩, fun x hx => u2r hx, fun j hj => by rw [u2_ap, if_neg (by omega)]⟩
theorem wdM_j {I' : Nat → Nat → Int32} {L' : Nat → Nat → Int64} (hw : wdM I) (hF : jF I I' L L') : wdM I' := fun q hq i hi => by
  have h := wdL_at q hq
  obtain ⟨-, -, -, -, -, h1, h2, h3⟩ := wdL_R _ hq
  rw [hF.1.1 q.1 h1 (by omega) h2 h3]
  exact hw q hq i hi
theorem jX_fr {I' : Nat → Nat → Int32} (h : ∀ x, 246 ≤ x → x ≤ 251 → I' x = I x) (hX : jX I L S) : jX I' L S := by
  unfold jX
  rw [h 246 (by omega) (by omega), h 248 (by omega) (by omega), h 249 (by omega) (by omega), h 250 (by omega) (by omega), h 251 (by omega) (by omega)]
  exact hX
theorem jX_fx {I' : Nat → Nat → Int32} (h : fxM I I') (hX : jX I L S) : jX I' L S := jX_fr (fun x _ _ => h.1 x (by omega)) hX
theorem jC_fx {I' : Nat → Nat → Int32} {u : Nat} (h : fxM I I') (hC : jC I S u) : jC I' S u := by
  unfold jC
  rw [h.2.1 49 (by decide) (by decide) (by decide) (by decide) (by decide) (by decide), h.1 252 (by decide), h.1 253 (by decide), h.1 254 (by decide)]
  exact hC
/-! names as numbers -/
theorem nmv_lt {f : Nat → Nat} : ∀ m, (∀ i, i < m → f i ≤ 26) → p_nmv f m < 27 ^ m
  | 0, _ => by show (0 : Nat) < 1; omega
  | m + 1, h => by
    have h1 := nmv_lt m (fun i hi => h i (by omega))
    have h2 := h m (by omega)
    show (if f m = 0 then p_nmv f m else 27 * p_nmv f m + f m) < 27 ^ (m + 1)
    rw [Nat.pow_succ]
    split <;> omega
theorem nmv_ge {f : Nat → Nat} : ∀ m, (∀ i, i ≤ m → 1 ≤ f i) → 27 ^ m ≤ p_nmv f (m + 1)
  | 0, h => by
    show 27 ^ 0 ≤ (if f 0 = 0 then 0 else 27 * 0 + f 0)
    have := h 0 (by omega)
    rw [if_neg (by omega)]; omega
  | m + 1, h => by
    have h1 := nmv_ge m (fun i hi => h i (by omega))
    have h2 := h (m + 1) (by omega)
    show 27 ^ (m + 1) ≤ (if f (m + 1) = 0 then p_nmv f (m + 1) else 27 * p_nmv f (m + 1) + f (m + 1))
    rw [if_neg (by omega), Nat.pow_succ]
    omega
def zt (f : Nat → Nat) (m : Nat) : Prop := (∀ i, i < m → f i ≤ 26) ∧ ∀ i, i + 1 < m → f i = 0 → f (i + 1) = 0
theorem zt_1 {f : Nat → Nat} {m : Nat} (h : zt f (m + 1)) : zt f m := ⟨fun i hi => h.1 i (by omega), fun i hi => h.2 i (by omega)⟩
theorem zt_all {f : Nat → Nat} {m : Nat} (h : zt f (m + 1)) (h0 : f m ≠ 0) : ∀ d i, i + d = m → 1 ≤ f i
  | 0, i, e => by rw [show i = m by omega]; omega
  | d + 1, i, e => by
    have h1 := zt_all h h0 d (i + 1) (by omega)
    have h2 := h.2 i (by omega)
    by_cases c : f i = 0
    · have := h2 c; omega
    · omega
theorem nmv_inj {f g : Nat → Nat} : ∀ m, zt f m → zt g m → p_nmv f m = p_nmv g m → ∀ i, i < m → f i = g i
  | 0, _, _, _, i, hi => by omega
  | m + 1, hf, hg, h, i, hi => by
    have h : (if f m = 0 then p_nmv f m else 27 * p_nmv f m + f m) = (if g m = 0 then p_nmv g m else 27 * p_nmv g m + g m) := h
    have b1 := hf.1 m (by omega)
    have b2 := hg.1 m (by omega)
    have l1 := nmv_lt m (zt_1 hf).1
    have l2 := nmv_lt m (zt_1 hg).1
    have e : p_nmv f m = p_nmv g m ∧ f m = g m := by
      by_cases c1 : f m = 0
      · by_cases c2 : g m = 0
        · rw [if_pos c1, if_pos c2] at h
          exact ⟨h, by omega⟩
        · have := nmv_ge m (fun i hi => zt_all hg c2 (m - i) i (by omega))
          have e2 : p_nmv g (m + 1) = 27 * p_nmv g m + g m := if_neg c2
          rw [if_pos c1, if_neg c2] at h
          omega
      · by_cases c2 : g m = 0
        · have := nmv_ge m (fun i hi => zt_all hf c1 (m - i) i (by omega))
          have e2 : p_nmv f (m + 1) = 27 * p_nmv f m + f m := if_neg c1
          rw [if_neg c1, if_pos c2] at h
          omega
        · rw [if_neg c1, if_neg c2] at h
          omega
    by_cases c : i = m
    · rw [c]; exact e.2
    · exact nmv_inj m (zt_1 hf) (zt_1 hg) e.1 i (by omega)
theorem okm_zt {f : Nat → Nat} (h : okm f) : zt f 6 := ⟨h.1, h.2.2⟩
theorem nmv_eq {f g : Nat → Nat} (hf : okm f) (hg : okm g) : cl (p_nmv f 6 : Nat) = cl (p_nmv g 6 : Nat) ↔ ∀ i, i < 6 → f i = g i := by
  have l1 := nmv_lt 6 hf.1
  have l2 := nmv_lt 6 hg.1
  rw [show 27 ^ 6 = 387420489 by decide] at l1 l2
  refine ⟨fun h => ?_, fun h => ?_⟩
  · have := (cl_eq (by omega) (by omega) (by omega) (by omega)).mp h
    exact nmv_inj 6 (okm_zt hf) (okm_zt hg) (by omega)
  · have e : ∀ m, m ≤ 6 → p_nmv f m = p_nmv g m := by
      intro m
      induction m with
      | zero => intro _; rfl
      | succ m ih =>
        intro hm
        show (if f m = 0 then p_nmv f m else 27 * p_nmv f m + f m) = (if g m = 0 then p_nmv g m else 27 * p_nmv g m + g m)
        rw [h m (by omega), ih (by omega)]
    rw [e 6 (Nat.le_refl _)]
/-! the first of some -/
def fsP (P : Nat → Bool) : Nat → Nat → Option Nat
  | 0, _ => none
  | m + 1, a => if P a = true then some a else fsP P m (a + 1)
theorem fsP_s {P : Nat → Bool} : ∀ m a y, fsP P m a = some y → (a ≤ y ∧ y < a + m) ∧ P y = true
  | 0, a, y, h => by cases h
  | m + 1, a, y, h => by
    have h : (if P a = true then some a else fsP P m (a + 1)) = some y := h
    by_cases c : P a = true
    · rw [if_pos c] at h; cases h
      exact ⟨⟨Nat.le_refl _, by omega⟩, c⟩
    · rw [if_neg c] at h
      have := fsP_s m (a + 1) y h
      exact ⟨by omega, this.2⟩
theorem fsP_n {P : Nat → Bool} : ∀ m a y, fsP P m a = none → a ≤ y → y < a + m → ¬ P y = true
  | 0, a, y, h, h1, h2 => by omega
  | m + 1, a, y, h, h1, h2 => by
    have h : (if P a = true then some a else fsP P m (a + 1)) = none := h
    by_cases c : P a = true
    · rw [if_pos c] at h; cases h
    · rw [if_neg c] at h
      by_cases e : y = a
      · rw [e]; exact c
      · exact fsP_n m (a + 1) y h (by omega) (by omega)
def sdO (o : Option Nat) (y : Nat) : Bool := match o with
  | none => true
  | some s => decide (y / 6 = s)
def nmP (L : Nat → Nat → Int64) (v : Int64) (o : Option Nat) (y : Nat) : Bool := sdO o y && decide (L 247 y = v)
theorem nmd_in {o : Option Nat} {v : Int64} {s c : Nat} {r8 : Int32 → zM} (ho : ∀ s', o = some s' → s' < 2) (hs : s < 2) (hc : c ≤ 6) (h1 : I 246 s = nI c) : ∀ m v5 fuel, v5 + m = c → m < fuel → z_fix (fun r x => X12_named_B17 r8 215 (oI o) v (nI s) r x) fuel (nI v5) (hp I L ρ) = match fsP (nmP L v o) m (6 * s + v5) with
    | some y => some (some (.int (nI y)), hp I L ρ)
    | none => r8 (nI (s + 1)) (hp I L ρ) := by
  intro m
  induction m with
  | zero =>
    intro v5 fuel hv hf
    obtain ⟨f, rfl⟩ : ∃ f, fuel = f + 1 := ⟨fuel - 1, by omega⟩
    rw [h_fix]
    show X12_named_B17 r8 215 (oI o) v (nI s) _ (nI v5) (hp I L ρ) = r8 (nI (s + 1)) (hp I L ρ)
    unfold X12_named_B17 X12_named_J73
    rw [gr_215_40, la_246 (by omega), h1, h_if, if_pos ((nI_le' (by omega) (by omega)).mpr (by omega)), nI_1]
  | succ m ih =>
    intro v5 fuel hv hf
    obtain ⟨f, rfl⟩ : ∃ f, fuel = f + 1 := ⟨fuel - 1, by omega⟩
    have hr := ih (v5 + 1) f (by omega) (by omega)
    rw [h_fix]
    show X12_named_B17 r8 215 (oI o) v (nI s) _ (nI v5) (hp I L ρ) = match (if nmP L v o (6 * s + v5) = true then some (6 * s + v5) else fsP (nmP L v o) m (6 * s + v5 + 1)) with
      | some y => some (some (.int (nI y)), hp I L ρ)
      | none => r8 (nI (s + 1)) (hp I L ρ)
    generalize z_fix (fun r x => X12_named_B17 r8 215 (oI o) v (nI s) r x) f = rec at hr
    have e40 : X12_named_J40 r8 rec 215 (oI o) v (nI s) (nI v5) (hp I L ρ) = if L 247 (6 * s + v5) = v then some (some (.int (nI (6 * s + v5))), hp I L ρ) else rec (nI (v5 + 1)) (hp I L ρ) := by
      unfold X12_named_J40 X12_named_J58 X12_named_J67
      rw [gr_215_41, show (6 : Int32) = nI 6 from rfl, pk_mul, nI_add, ll_247 (by omega), h_if]
      by_cases c : L 247 (6 * s + v5) = v
      · rw [if_pos c, if_pos c]; rfl
      · rw [if_neg c, if_neg c, nI_1]
    have e67 : X12_named_J67 r8 rec 215 (oI o) v (nI s) (nI v5) (hp I L ρ) = rec (nI (v5 + 1)) (hp I L ρ) := by
      unfold X12_named_J67
      rw [nI_1]
    unfold X12_named_B17
    rw [gr_215_40, la_246 (by omega), h1, h_if, if_neg (fun q => by have := (nI_le' (by omega) (by omega)).mp q; omega), h_if]
    have hd : (6 * s + v5) / 6 = s := by omega
    rcases o with _ | s'
    · rw [oI_none, if_pos rfl, ← oI_none, e40, show nmP L v none (6 * s + v5) = decide (L 247 (6 * s + v5) = v) from rfl]
      by_cases c : L 247 (6 * s + v5) = v
      · rw [if_pos c, decide_eq_true c, if_pos rfl]
      · rw [if_neg c, decide_eq_false c, if_neg (by decide), hr]; rfl
    · have hs' := ho s' rfl
      have eP : nmP L v (some s') (6 * s + v5) = (decide (s = s') && decide (L 247 (6 * s + v5) = v)) := by
        show (decide ((6 * s + v5) / 6 = s') && _) = _
        rw [hd]
      rw [eP, oI_some, if_neg (nI_nm1 (by omega)), h_if]
      by_cases d : s = s'
      · rw [if_pos (by rw [d]), ← oI_some, e40, decide_eq_true d, Bool.true_and]
        by_cases c : L 247 (6 * s + v5) = v
        · rw [if_pos c, decide_eq_true c, if_pos rfl]
        · rw [if_neg c, decide_eq_false c, if_neg (by decide), hr]; rfl
      · rw [if_neg (fun q => d ((nI_inj (by omega) (by omega)).mp q)), ← oI_some, e67, decide_eq_false d, Bool.false_and, if_neg (by decide), hr]; rfl
/-- the first of all who are there -/
def fsA (P : Nat → Bool) (S : nT) : Option Nat := match fsP P (n_n S 0) 0 with
  | some y => some y
  | none => fsP P (n_n S 1) 6
theorem fsA_s {P : Nat → Bool} {y : Nat} (h : fsA P S = some y) : n_th S y ∧ P y = true := by
  unfold fsA at h
  rcases q : fsP P (n_n S 0) 0 with _ | z
  · rw [q] at h
    have := fsP_s _ _ _ h
    exact ⟨Or.inr (by omega), this.2⟩
  · rw [q] at h
    cases h
    have := fsP_s _ _ _ q
    exact ⟨Or.inl (by omega), this.2⟩
theorem fsA_n {P : Nat → Bool} {y : Nat} (h : fsA P S = none) (hy : n_th S y) : ¬ P y = true := by
  unfold fsA at h
  rcases q : fsP P (n_n S 0) 0 with _ | z
  · rw [q] at h
    rcases hy with hy | hy
    · exact fsP_n _ _ _ q (by omega) (by omega)
    · exact fsP_n _ _ _ h (by omega) (by omega)
  · rw [q] at h; cases h
theorem nmd_8 {o : Option Nat} {v : Int64} (ho : ∀ s', o = some s' → s' < 2) (hok : okN S) (hX : I 246 0 = nI (n_n S 0) ∧ I 246 1 = nI (n_n S 1)) : z_fix (fun r x => X12_named_B8 215 (oI o) v r x) zFU 0 (hp I L ρ) = match fsA (nmP L v o) S with
    | some y => some (some (.int (nI y)), hp I L ρ)
    | none => X12_named_J79 215 (hp I L ρ) := by
  have h0 := hok.1
  have i0 := fun r8 => nmd_in (L := L) (ρ := ρ) (v := v) (r8 := r8) ho (show 0 < 2 by omega) h0.1 hX.1 (n_n S 0) 0 zFU (by omega) (by unfold zFU; omega)
  have i1 := fun r8 => nmd_in (L := L) (ρ := ρ) (v := v) (r8 := r8) ho (show 1 < 2 by omega) h0.2 hX.2 (n_n S 1) 0 zFU (by omega) (by unfold zFU; omega)
  have e2 : ∀ f, z_fix (fun r x => X12_named_B8 215 (oI o) v r x) (f + 1) (nI (1 + 1)) (hp I L ρ) = X12_named_J79 215 (hp I L ρ) := by
    intro f
    rw [h_fix]
    show X12_named_B8 215 (oI o) v _ (nI (1 + 1)) (hp I L ρ) = _
    unfold X12_named_B8
    rw [h_if, if_pos (by decide)]
  have e1 : ∀ f, z_fix (fun r x => X12_named_B8 215 (oI o) v r x) (f + 2) (nI (0 + 1)) (hp I L ρ) = match fsP (nmP L v o) (n_n S 1) 6 with
      | some y => some (some (.int (nI y)), hp I L ρ)
      | none => X12_named_J79 215 (hp I L ρ) := by
    intro f
    have g2 := e2 f
    rw [h_fix]
    show X12_named_B8 215 (oI o) v _ (nI (0 + 1)) (hp I L ρ) = _
    generalize z_fix (fun r x => X12_named_B8 215 (oI o) v r x) (f + 1) = rec at g2
    unfold X12_named_B8
    rw [h_if, if_neg (by decide)]
    have g1 := i1 rec
    rcases q : fsP (nmP L v o) (n_n S 1) 6 with _ | y
    · have q' : fsP (nmP L v o) (n_n S 1) (6 * 1 + 0) = none := q
      rw [q'] at g1
      exact g1.trans g2
    · have q' : fsP (nmP L v o) (n_n S 1) (6 * 1 + 0) = some y := q
      rw [q'] at g1
      exact g1
  have g2 := e1 (zFU - 3)
  rw [show zFU = (zFU - 3 + 2) + 1 from rfl, h_fix]
  show X12_named_B8 215 (oI o) v _ 0 (hp I L ρ) = _
  generalize z_fix (fun r x => X12_named_B8 215 (oI o) v r x) (zFU - 3 + 2) = rec at g2
  unfold X12_named_B8 fsA
  rw [h_if, if_neg (by decide)]
  have g1 := i0 rec
  rcases q : fsP (nmP L v o) (n_n S 0) 0 with _ | y
  · have q' : fsP (nmP L v o) (n_n S 0) (6 * 0 + 0) = none := q
    rw [q'] at g1
    exact g1.trans g2
  · have q' : fsP (nmP L v o) (n_n S 0) (6 * 0 + 0) = some y := q
    rw [q'] at g1
    exact g1
/-- one who is asked for -/
theorem tQ_named {o : Option Nat} {acr : Nat → Bool} (ho : ∀ s', o = some s' → s' < 2) (hac : ∀ y, y < 12 → acr y = sdO o y) (hw : wdM I) (hok : okN S) (hX : jX I L S) (h : tQ I b n r) : ∃ I' v, X12_named 215 (oI o) (hp I L ρ) = some (some (.int (nI v)), hp I' L ρ) ∧ v < 12 ∧ tQ I' b n (br r (r_ask b n S acr)) ∧ fxM I I' ∧ ∀ a a1, r = .inr a → r_ask b n S acr a = .inr a1 → v = v_ask b n S a ∧ I' 215 39 = nI a := by
  obtain ⟨I1, v, a1, a2, a3, a4⟩ := tQ_name (L := L) (ρ := ρ) hw h
  have hX1 := jX_fx a3 hX
  have e8 := nmd_8 (L := L) (ρ := ρ) (v := v) ho hok hX1.1
  unfold X12_named
  rw [rc_215, h_cl a1, e8]
  have lt12 : ∀ y, fsA (nmP L v o) S = some y → y < 12 := fun y hy => n_th_lt hok (fsA_s hy).1
  have u79 : ∀ e, tQ I1 b n (.inl e) → X12_named_J79 215 (hp I1 L ρ) = some (some (.int 0), hp I1 L ρ) := by
    intro e hU
    unfold X12_named_J79
    rw [gi_215, h_if, if_neg (unM_ne hU)]; rfl
  have faulty : ∀ e, br r (r_nm b n) = .inl e → ∃ I' w, (match fsA (nmP L v o) S with | some y => some (some (.int (nI y)), hp I1 L ρ) | none => X12_named_J79 215 (hp I1 L ρ)) = some (some (.int (nI w)), hp I' L ρ) ∧ w < 12 ∧ tQ I' b n (br r (r_ask b n S acr)) ∧ fxM I I' ∧ ∀ a a1, r = .inr a → r_ask b n S acr a = .inr a1 → w = v_ask b n S a ∧ I' 215 39 = nI a := by
    intro e he
    rw [he] at a2
    have er : br r (r_ask b n S acr) = .inl e := by
      rcases r with e1 | a
      · exact he
      · show br (r_nm b n a) _ = _
        have he : r_nm b n a = .inl e := he
        rw [he]; rfl
    have no : ∀ a a1, r = .inr a → r_ask b n S acr a = .inr a1 → False := by
      intro a a1 q1 q2
      rw [q1] at er
      have er : r_ask b n S acr a = .inl e := er
      rw [q2] at er; cases er
    rcases q : fsA (nmP L v o) S with _ | y
    · exact ⟨I1, 0, u79 e a2, by omega, by rw [er]; exact a2, a3, fun a a1 q1 q2 => absurd (no a a1 q1 q2) id⟩
    · exact ⟨I1, y, rfl, lt12 y q, by rw [er]; exact a2, a3, fun a a1 q1 q2 => absurd (no a a1 q1 q2) id⟩
  rcases q : br r (r_nm b n) with e | a1'
  · exact faulty e q
  · rcases r with e1 | a
    · cases q
    · have q : r_nm b n a = .inr a1' := q
      rw [show br (.inr a) (r_nm b n) = .inr a1' from q] at a2
      obtain ⟨hv, h39⟩ := a4 a a1' rfl q
      have hm := (okm_nml (r_nm_in q).1).1
      have ha := (tQ_le h).1
      have hP : ∀ y, n_th S y → (nmP L v o y = true ↔ sdO o y = true ∧ ∀ i, i < 6 → n_nm S (6 * y + i) = p_nml b n a i) := by
        intro y hy
        have hL := (hX.2.2.1 y hy).1
        unfold nmP
        rw [Bool.and_eq_true, decide_eq_true_eq, hL, hv]
        have := nmv_eq (hok.2.1 y hy) hm
        rw [this]
      have er : r_ask b n S acr a = match n_fd S (p_nml b n a) 12 0 with
          | none => .inl (3, a)
          | some y => if acr y = true then .inr a1' else .inl (3, a) := by
        unfold r_ask
        rw [q]; rfl
      have f79 : ∃ I', X12_named_J79 215 (hp I1 L ρ) = some (some (.int 0), hp I' L ρ) ∧ tQ I' b n (.inl (3, a)) ∧ fxM I1 I' := by
        obtain ⟨I2, b1, b2, b3⟩ := tQ_fail (L := L) (ρ := ρ) (k := 3) (p := a) (by omega) (by omega) a2
        have h5 : I1 215 5 = 0 := by obtain ⟨x, -, -, h3⟩ := a2; exact h3
        refine ⟨I2, ?_, b2, b3⟩
        unfold X12_named_J79
        rw [gi_215, h_if, if_pos h5, gi_215, h39, rc_215, show X12_fail 215 3 (nI a) = X12_fail 215 (nI 3) (nI a) from rfl, h_cv b1]; rfl
      show ∃ I' w, _ ∧ w < 12 ∧ tQ I' b n (r_ask b n S acr a) ∧ _
      have nohit : r_ask b n S acr a = .inl (3, a) → fsA (nmP L v o) S = none → ∃ I' w, (match fsA (nmP L v o) S with | some y => some (some (Value.int (nI y)), hp I1 L ρ) | none => X12_named_J79 215 (hp I1 L ρ)) = some (some (.int (nI w)), hp I' L ρ) ∧ w < 12 ∧ tQ I' b n (r_ask b n S acr a) ∧ fxM I I' ∧ ∀ c a1, (.inr a : rP) = .inr c → r_ask b n S acr c = .inr a1 → w = v_ask b n S c ∧ I' 215 39 = nI c := by
        intro g1 g2
        obtain ⟨I2, b1, b2, b3⟩ := f79
        refine ⟨I2, 0, by rw [g2]; exact b1, by omega, by rw [g1]; exact b2, fxM_trans a3 b3, fun c a1 q1 q2 => ?_⟩
        cases q1
        rw [g1] at q2; cases q2
      rcases z : n_fd S (p_nml b n a) 12 0 with _ | y
      · rw [z] at er
        refine nohit er ?_
        rcases t : fsA (nmP L v o) S with _ | y
        · rfl
        · have t1 := fsA_s t
          exact absurd ((hP y t1.1).mp t1.2).2 (n_fd_n 12 0 y z (Nat.zero_le _) (by have := n_th_lt hok t1.1; omega) t1.1)
      · have z1 := n_fd_s _ _ _ z
        rw [z] at er
        have er2 : r_ask b n S acr a = if acr y = true then .inr a1' else .inl (3, a) := er
        have uniq : ∀ w, n_th S w → nmP L v o w = true → w = y := fun w hw1 hw2 => hok.2.2.1 w y hw1 z1.2.1 (fun i hi => by rw [((hP w hw1).mp hw2).2 i hi, z1.2.2 i hi])
        by_cases c : acr y = true
        · rw [if_pos c] at er2
          have hs : sdO o y = true := by rw [← hac y (by omega)]; exact c
          have hy := (hP y z1.2.1).mpr ⟨hs, z1.2.2⟩
          rcases t : fsA (nmP L v o) S with _ | w
          · exact absurd hy (fsA_n t z1.2.1)
          · have t1 := fsA_s t
            have := uniq w t1.1 t1.2
            subst this
            refine ⟨I1, w, rfl, by omega, by rw [er2]; exact a2, a3, fun c a1 q1 q2 => ?_⟩
            cases q1
            exact ⟨by unfold v_ask; rw [z]; rfl, h39⟩
        · rw [if_neg c] at er2
          refine nohit er2 ?_
          rcases t : fsA (nmP L v o) S with _ | w
          · rfl
          · have t1 := fsA_s t
            have := uniq w t1.1 t1.2
            subst this
            have := ((hP w t1.1).mp t1.2).1
            rw [← hac w (by omega)] at this
            exact absurd this c
end B8f
