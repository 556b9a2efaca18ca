/-! tells: bits of ten sizes; the class looks ahead -/
section B5e
variable {I I0 : Nat → Nat → Int32} {L L0 : Nat → Nat → Int64} {ρ : zRh} {h : zH} {A : aT} {N : Nat} {C : cT} {s : sT} {V : vT}
def b_pt (b : Nat) : Nat := b_k b 0 + b_k b 1 + b_k b 2 + b_k b 3 + b_k b 4 + b_k b 5 + b_k b 6 + b_k b 7 + b_k b 8 + b_k b 9
theorem b_low10 : ∀ b, b < 1024 → 0 < b → nI b &&& (nI b - 1) = nI (b &&& (b - 1)) ∧ b &&& (b - 1) < b ∧ b_pt (b &&& (b - 1)) + 1 = b_pt b := by
  have h : ((List.range 1024).all fun b => decide (0 < b → nI b &&& (nI b - 1) = nI (b &&& (b - 1)) ∧ b &&& (b - 1) < b ∧ b_pt (b &&& (b - 1)) + 1 = b_pt b)) = true := by decide +kernel
  intro b hb
  exact of_decide_eq_true (List.all_eq_true.mp h b (List.mem_range.mpr hb))
theorem J6_bits10 : ∀ b, b < 1024 → J6_bitCount_0f7a4 (nI b) h = some (some (.int (nI (b_pt b))), h) := by
  intro b hb
  unfold J6_bitCount_0f7a4
  apply congrArg (fun x => some (some (Value.int x), h))
  revert hb
  revert b
  decide +kernel
theorem X12_bits10_lp : ∀ (b n fuel : Nat), b < 1024 → b < fuel → z_fix (fun r x => X12_bits_B4 r x.1 x.2) fuel (nI n, nI b) h = some (some (.int (nI (n + b_pt b))), h) := by
  intro b
  induction b using Nat.strongRecOn with
  | _ b ih =>
    intro n fuel h1 h3
    obtain ⟨f, rfl⟩ : ∃ f, fuel = f + 1 := ⟨fuel - 1, by omega⟩
    rw [h_fix]
    generalize hg : z_fix (fun r x => X12_bits_B4 r x.1 x.2) f = rec
    show X12_bits_B4 rec (nI n) (nI b) h = _
    unfold X12_bits_B4
    rw [h_if]
    by_cases c : b = 0
    · rw [c, show (nI 0 : Int32) = 0 from rfl, if_pos rfl]; rfl
    · obtain ⟨q1, q2, q3⟩ := b_low10 b h1 (by omega)
      rw [if_neg (show ¬ nI b = 0 from fun e => c ((nI_inj (b := 0) (by omega) (by omega)).mp e)), q1, nI_1, ← hg, ih _ q2 (n + 1) f (by omega) (by omega), ← q3, show n + (b_pt (b &&& (b - 1)) + 1) = n + 1 + b_pt (b &&& (b - 1)) by omega]
theorem X12_bits10 {b : Nat} (hb : b < 1024) : X12_bits (nI b) h = some (some (.int (nI (b_pt b))), h) := by
  have := X12_bits10_lp (h := h) b 0 zFU hb (by unfold zFU; omega)
  rw [Nat.zero_add] at this
  exact this
theorem b_pt_le (b : Nat) : b_pt b ≤ 10 := by unfold b_pt b_k; omega
/-- of the sizes in S, with how many f is so -/
def c_f (S : Nat) (f : Nat → Bool) : Nat → Nat
  | 0 => 0
  | z + 1 => c_f S f z + (if b_k S z = 1 ∧ f z = true then 1 else 0)
theorem c_f_le (S : Nat) (f : Nat → Bool) : ∀ z, c_f S f z ≤ z
  | 0 => Nat.le_refl _
  | z + 1 => by
    have := c_f_le S f z
    show c_f S f z + (if b_k S z = 1 ∧ f z = true then 1 else 0) ≤ z + 1
    split <;> omega
def t_most (S : Nat) (f : Nat → Bool) : Nat := if c_f S f 10 < b_pt S - c_f S f 10 then b_pt S - c_f S f 10 else c_f S f 10
theorem t_most_le (S : Nat) (f : Nat → Bool) : t_most S f ≤ 10 := by
  have h1 := c_f_le S f 10
  have h2 := b_pt_le S
  unfold t_most
  split <;> omega
def b_s (S : Nat) : Nat → Nat
  | 0 => 0
  | z + 1 => b_s S z + b_k S z
theorem c_f_s (S : Nat) (f : Nat → Bool) : ∀ z, c_f S f z ≤ b_s S z
  | 0 => Nat.le_refl _
  | z + 1 => by
    have := c_f_s S f z
    show c_f S f z + (if b_k S z = 1 ∧ f z = true then 1 else 0) ≤ b_s S z + b_k S z
    split <;> omega
theorem b_s_pt (S : Nat) : b_s S 10 = b_pt S := by
  show 0 + b_k S 0 + b_k S 1 + b_k S 2 + b_k S 3 + b_k S 4 + b_k S 5 + b_k S 6 + b_k S 7 + b_k S 8 + b_k S 9 = b_pt S
  unfold b_pt
  rw [Nat.zero_add]
theorem c_f_pt (S : Nat) (f : Nat → Bool) : c_f S f 10 ≤ b_pt S := by
  rw [← b_s_pt]
  exact c_f_s S f 10
/-- bits of who is wed, by slot -/
def w_g (s : sT) (i : Nat) : Bool := decide (s_wed s i ≠ none)
theorem X0_look_bits (hk : okC C) (hS : okS C s) (hs : stX 54 I s) {z last n : Nat} {r21 : Int32 → zM} : ∀ (m i fuel : Nat), i + m = 12 → m < fuel → z_fix (fun r x => X0_lookAhead_B47 r21 53 (nI z) (nI last) (nI n) r x.1 x.2) fuel (nI (z_b (w_g s) i), nI i) (hp I L ρ) = X0_lookAhead_J83 r21 53 (nI z) (nI last) (nI n) (nI (z_b (w_g s) 12)) (hp I L ρ) := by
  intro m
  induction m with
  | zero =>
    intro i fuel h1 h2
    obtain ⟨f, rfl⟩ : ∃ f, fuel = f + 1 := ⟨fuel - 1, by omega⟩
    obtain rfl : i = 12 := by omega
    rw [h_fix]
    show X0_lookAhead_B47 r21 53 (nI z) (nI last) (nI n) _ (nI (z_b (w_g s) 12)) (nI 12) (hp I L ρ) = _
    unfold X0_lookAhead_B47
    rw [h_if, if_pos (by decide)]
  | succ m ih =>
    intro i fuel h1 h2
    obtain ⟨f, rfl⟩ : ∃ f, fuel = f + 1 := ⟨fuel - 1, by omega⟩
    have hi := ih (i + 1) f (by omega) (by omega)
    rw [h_fix]
    generalize hg : z_fix (fun r x => X0_lookAhead_B47 r21 53 (nI z) (nI last) (nI n) r x.1 x.2) f = rec at hi
    show X0_lookAhead_B47 r21 53 (nI z) (nI last) (nI n) rec (nI (z_b (w_g s) i)) (nI i) (hp I L ρ) = _
    have ho := z_b_or (w_g s) (k := i) (by omega)
    unfold X0_lookAhead_B47 X0_lookAhead_J77
    rw [h_if, if_neg (show ¬ (12 : Int32) ≤ nI i from nI_ge (b := 12) (by omega) (by omega)), gr_53_0, gr_54_3, la_56 (by omega), hs.2.2.1 i (by omega), h_if, nI_1]
    simp only [oI_wed hk hS]
    by_cases c : s_wed s i = none
    · rw [if_pos c, ← hi, ← ho, if_neg (show ¬ w_g s i = true by unfold w_g; rw [decide_eq_false (fun e => e c)]; decide)]
    · rw [if_neg c, ← hi, ← ho, if_pos (show w_g s i = true from decide_eq_true c)]
/-- one size looked ahead -/
theorem X0_look_lp (hok : okA A) {s0 : sT} (hS : okS (a_C A) s0) (hsp : s_sp s0 ≤ 999) {z last : Nat} (hz : z ≤ 9) (hl : last ≤ 30) : ∀ (m n fuel : Nat) (I : Nat → Nat → Int32), n + m = last → m < fuel → RelX I L ρ A N → stX 54 I (p_gos (a_C A) n s0) → ∃ I', z_fix (fun r x => X0_lookAhead_B21 53 (nI z) (nI last) r x) fuel (nI (n + 1)) (hp I L ρ) = some (none, hp I' L ρ) ∧ (∀ x, (lastX x ∨ 61 ≤ x) → x ≠ 62 → I' x = I x) ∧ RelX I' L ρ A N ∧ (∀ j, (j < 31 * z + n + 1 ∨ 31 * z + last < j) → I' 62 j = I 62 j) ∧ ∀ k, n < k → k ≤ last → I' 62 (31 * z + k) = nI (z_b (w_g (p_gos (a_C A) k s0)) 12) := by
  have hk := hok.1
  intro m
  induction m with
  | zero =>
    intro n fuel I h1 h2 h3 h4
    obtain ⟨f, rfl⟩ : ∃ f, fuel = f + 1 := ⟨fuel - 1, by omega⟩
    obtain rfl : n = last := by omega
    refine ⟨I, ?_, fun _ _ _ => rfl, h3, fun _ _ => rfl, fun k _ _ => by omega⟩
    rw [h_fix]
    show X0_lookAhead_B21 53 (nI z) (nI n) _ (nI (n + 1)) (hp I L ρ) = _
    unfold X0_lookAhead_B21
    rw [h_if, if_pos (nI_lt (by omega) (by omega))]; rfl
  | succ m ih =>
    intro n fuel I h1 h2 h3 h4
    obtain ⟨f, rfl⟩ : ∃ f, fuel = f + 1 := ⟨fuel - 1, by omega⟩
    have hSn := (p_gos_ok hk n hS (by omega)).1
    have hSn1 := (p_gos_ok hk (n + 1) hS (by omega)).1
    rw [h_fix]
    generalize hg : z_fix (fun r x => X0_lookAhead_B21 53 (nI z) (nI last) r x) f = rec
    obtain ⟨I1, e1, e2, e3, e4⟩ := XY_go (tr := none) hok h3 hSn h4 (by simp)
    rw [← p_gos_succ] at e3
    obtain ⟨J, hJ⟩ : ∃ J, J = u2 I1 62 (31 * z + (n + 1)) (nI (z_b (w_g (p_gos (a_C A) (n + 1) s0)) 12)) := ⟨_, rfl⟩
    have j0 : ∀ x, x ≠ 62 → J x = I1 x := fun x hx => by rw [hJ, u2r hx]
    have hXJ : RelX J L ρ A N := RelX_fr (fun x hx => j0 x (by unfold lastX at hx; omega)) rfl (Nat.le_refl _) e4
    obtain ⟨I', r1, r2, r3, r4, r5⟩ := ih (n + 1) f J (by omega) (by omega) hXJ (stX_fr (fun a x y => j0 a (by omega)) e3)
    refine ⟨I', ?_, fun x hx h62 => by rw [r2 x hx h62, j0 x h62, e2 x hx], r3, fun j hj => by rw [r4 j (by omega), hJ, u2_ap, if_neg (by omega), e2 62 (Or.inr (by omega))], fun k k1 k2 => ?_⟩
    · show X0_lookAhead_B21 53 (nI z) (nI last) rec (nI (n + 1)) (hp I L ρ) = _
      unfold X0_lookAhead_B21
      rw [h_if, if_neg (show ¬ nI last < nI (n + 1) from fun e => absurd ((nI_lt' (by omega) (by omega)).mp e) (by omega)), gr_53_2, gr_53_0, rc_48, h_ci (show X10_go 48 54 (-1) _ = _ from e1), show ((0 : Int32), (0 : Int32)) = (nI (z_b (w_g (p_gos (a_C A) (n + 1) s0)) 0), nI 0) from rfl, X0_look_bits hk hSn1 e3 12 0 zFU (by omega) (by unfold zFU; omega)]
      unfold X0_lookAhead_J83
      rw [gr_53_3, show (31 : Int32) = nI 31 from rfl, pk_mul, nI_add, Nat.mul_comm z 31, sa_62 (by omega), ← hJ, nI_1, ← hg]
      exact r1
    · by_cases c : k = n + 1
      · rw [c, r4 _ (by omega), hJ, u2_ap, if_pos ⟨rfl, rfl⟩]
      · exact r5 k (by omega) k2
/-- rows 62 are written for the sizes of S below z -/
def loX (I : Nat → Nat → Int32) (A : aT) (a S last z : Nat) : Prop := ∀ y k, y < z → b_k S y = 1 → 1 ≤ k → k ≤ last → I 62 (31 * y + k) = nI (z_b (w_g (p_gos (a_C A) k (sSz (a_s A) a y))) 12)
theorem X0_look_h (hok : okA A) (hX : RelX I L ρ A N) {a z last S : Nat} (ha : a < 12) (hz : z ≤ 9) (hl : last ≤ 30) (hlo : loX I A a S last z) : ∃ I', X0_lookAhead 53 41 (nI a) (nI z) (nI last) (hp I L ρ) = some (none, hp I' L ρ) ∧ (∀ x, (lastX x ∨ 61 ≤ x) → x ≠ 62 → I' x = I x) ∧ RelX I' L ρ A N ∧ loX I' A a S last (z + 1) := by
  obtain ⟨I1, e1, e2, e3, e4⟩ := XY_take hok hX
  have hX2 : RelX (u2 I1 58 a (nI z)) L ρ A N := RelX_fr (fun x hx => u2r (by unfold lastX at hx; omega)) rfl (Nat.le_refl _) e4
  have hs2 : stX 54 (u2 I1 58 a (nI z)) (sSz (a_s A) a z) := stX_Sz (b := 54) e3
  obtain ⟨I', r1, r2, r3, r4, r5⟩ := X0_look_lp (L := L) (ρ := ρ) hok (okS_Sz (a := a) hok.2.2.1.1 hz) hok.2.2.1.2.1 hz hl last 0 zFU (u2 I1 58 a (nI z)) (by omega) (by unfold zFU; omega) hX2 hs2
  refine ⟨I', ?_, fun x hx h62 => by rw [r2 x hx h62, u2r (by unfold lastX at hx; omega), e2 x hx], r3, fun y k q1 q2 q3 q4 => ?_⟩
  · unfold X0_lookAhead
    rw [gr_53_0, rc_54, h_cv e1, gr_53_0, gr_54_5, sa_58 ha]
    exact r1
  · by_cases c : y = z
    · rw [c]; exact r5 k (by omega) q4
    · rw [r4 _ (by omega), u2r (by decide), e2 62 (Or.inr (by omega))]
      exact hlo y k (by omega) q2 q3 q4
end B5e
