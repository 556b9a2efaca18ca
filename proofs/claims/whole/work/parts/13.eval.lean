/-! the class's formulas are those -/
section B13
variable {I : Nat → Nat → Int32} {L : Nat → Nat → Int64} {ρ : zRh} {h : zH}
theorem X3_bounded_h {x : Int} (h1 : -9000000000000000000 ≤ x) (h2 : x < 9000000000000000000) : X3_bounded (cl x) h = some (some (.int (ci (e_clip x))), h) := by
  unfold X3_bounded e_clip
  rw [h_if, show (-1000000 : Int64) = cl (-1000000) from rfl, show (1000000 : Int64) = cl 1000000 from rfl]
  simp only [cl_lt (show -9223372036854775808 ≤ (1000000 : Int) by omega) (by omega) (show -9223372036854775808 ≤ x by omega) (by omega)]
  split
  · rfl
  · rw [h_if]
    simp only [cl_lt (show -9223372036854775808 ≤ x by omega) (by omega) (show -9223372036854775808 ≤ (-1000000 : Int) by omega) (by omega)]
    split
    · rfl
    · rw [h_ret, ci_cl]
theorem ci_tdiv {x y : Int} (hx : -1000000 ≤ x ∧ x ≤ 1000000) (hy : -1000000 ≤ y ∧ y ≤ 1000000) : ci x / ci y = ci (Int.tdiv x y) := by
  have h1 : (Int.tdiv x y).natAbs = x.natAbs / y.natAbs := Int.natAbs_tdiv x y
  have h2 : x.natAbs / y.natAbs ≤ x.natAbs := Nat.div_le_self _ _
  rw [← Int32.toInt_inj, ci_toInt (x := Int.tdiv x y) (by omega) (by omega), Int32.toInt_div, ci_toInt (by omega) (by omega), ci_toInt (by omega) (by omega)]
  simp only [Int.bmod_def, Int32.size]
  omega
theorem ci_xor_neg {x y : Int} (hx : -1000000 ≤ x ∧ x ≤ 1000000) (hy : -1000000 ≤ y ∧ y ≤ 1000000) : 0 ≤ ci x ^^^ ci y ↔ ((x < 0) ↔ (y < 0)) := by
  have e : ∀ z : Int, -1000000 ≤ z ∧ z ≤ 1000000 → ((ci z).toBitVec.msb = true ↔ z < 0) := fun z hz => by
    rw [BitVec.msb_eq_toInt, show (ci z).toBitVec.toInt = (ci z).toInt from rfl, ci_toInt (by omega) (by omega)]
    simp
  have e2 : 0 ≤ ci x ^^^ ci y ↔ ¬ (ci x ^^^ ci y).toBitVec.msb = true := by
    rw [Int32.le_iff_toInt_le, BitVec.msb_eq_toInt, show (ci x ^^^ ci y).toBitVec.toInt = (ci x ^^^ ci y).toInt from rfl, show (0 : Int32).toInt = 0 from rfl]
    simp
  rw [e2, Int32.toBitVec_xor, BitVec.msb_xor, ← e x hx, ← e y hy]
  cases (ci x).toBitVec.msb <;> cases (ci y).toBitVec.msb <;> simp
theorem J9_floorDiv_h {x y : Int} (hx : -1000000 ≤ x ∧ x ≤ 1000000) (hy : -1000000 ≤ y ∧ y ≤ 1000000) (h0 : ¬ y = 0) : J9_floorDiv_7cf53 (ci x) (ci y) h = some (some (.int (ci (e_div x y))), h) := by
  have h1 : (Int.tdiv x y).natAbs = x.natAbs / y.natAbs := Int.natAbs_tdiv x y
  have h2 : x.natAbs / y.natAbs ≤ x.natAbs := Nat.div_le_self _ _
  unfold J9_floorDiv_7cf53 e_div
  rw [h_ck (by rw [show (0 : Int32) = ci 0 from rfl, ci_eq (by omega) (by omega) (by omega) (by omega)]; exact h0), h_if]
  simp only [ci_xor_neg hx hy, ci_tdiv hx hy]
  by_cases q : (x < 0) ↔ (y < 0)
  · rw [if_pos q, if_neg (fun q2 => q2.2 q)]
    rfl
  · rw [if_neg q, h_if, ci_mul]
    by_cases q2 : Int.tdiv x y * y = x
    · rw [if_pos (by rw [q2]), if_neg (fun q3 => q3.1 q2)]
      rfl
    · have hb : -2000000 ≤ Int.tdiv x y * y ∧ Int.tdiv x y * y ≤ 2000000 := by
        have h3 : (Int.tdiv x y * y).natAbs ≤ x.natAbs := by
          rw [Int.natAbs_mul, h1]
          exact Nat.div_mul_le_self _ _
        omega
      rw [if_neg (by rw [ci_eq (by omega) (by omega) (by omega) (by omega)]; exact q2), if_pos ⟨q2, q⟩, show (1 : Int32) = ci 1 from rfl, ci_sub]
      rfl
theorem X3_ofTwo_h {op : Nat} {x y : Int} (h1 : 20001 ≤ op) (h2 : op ≤ 20011) (hx : -1000000 ≤ x ∧ x ≤ 1000000) (hy : -1000000 ≤ y ∧ y ≤ 1000000) (h3 : op = 20010 ∨ op = 20011 → (x = 0 ∨ x = 1) ∧ (y = 0 ∨ y = 1)) : X3_ofTwo (nI op) (ci x) (ci y) h = some (some (.int (ci (e_two op x y))), h) := by
  have hm : -2000000000000 ≤ x * y ∧ x * y ≤ 2000000000000 := by
    have h4 : (x * y).natAbs ≤ 1000000 * 1000000 := by
      rw [Int.natAbs_mul]
      exact Nat.mul_le_mul (by omega) (by omega)
    omega
  have e1 := cl_ci (x := x) (by omega) (by omega)
  have e2 := cl_ci (x := y) (by omega) (by omega)
  have hop : op = 20001 ∨ op = 20002 ∨ op = 20003 ∨ op = 20004 ∨ op = 20005 ∨ op = 20006 ∨ op = 20007 ∨ op = 20008 ∨ op = 20009 ∨ op = 20010 ∨ op = 20011 := by omega
  have l1 := ci_lt (x := x) (y := y) (by omega) (by omega) (by omega) (by omega)
  have l2 := ci_lt (x := y) (y := x) (by omega) (by omega) (by omega) (by omega)
  have l3 := ci_le (x := x) (y := y) (by omega) (by omega) (by omega) (by omega)
  have l4 := ci_le (x := y) (y := x) (by omega) (by omega) (by omega) (by omega)
  have l5 := ci_eq (x := x) (y := y) (by omega) (by omega) (by omega) (by omega)
  have l6 : ci y = 0 ↔ y = 0 := ci_eq (x := y) (y := 0) (by omega) (by omega) (by omega) (by omega)
  unfold X3_ofTwo
  rw [h_if, nI_toInt (by omega)]
  rcases hop with rfl | rfl | rfl | rfl | rfl | rfl | rfl | rfl | rfl | rfl | rfl
  · rw [if_neg (by omega), show (((20001 : Nat) : Int) - 20001).toNat = 0 from by omega]
    show z_ci _ _ h = _
    rw [e1, e2, cl_add, h_ci (X3_bounded_h (by omega) (by omega)), e_two_1]
    exact h_ret _ _
  · rw [if_neg (by omega), show (((20002 : Nat) : Int) - 20001).toNat = 1 from by omega]
    show z_ci _ _ h = _
    rw [e1, e2, cl_sub, h_ci (X3_bounded_h (by omega) (by omega)), e_two_2]
    exact h_ret _ _
  · rw [if_neg (by omega), show (((20003 : Nat) : Int) - 20001).toNat = 2 from by omega]
    show z_ci _ _ h = _
    rw [e1, e2, cl_mul, h_ci (X3_bounded_h (by omega) (by omega)), e_two_3]
    exact h_ret _ _
  · rw [if_neg (by omega), show (((20004 : Nat) : Int) - 20001).toNat = 3 from by omega]
    show z_if _ _ _ h = _
    rw [h_if, e_two_4]
    by_cases q : y = 0
    · rw [if_pos (l6.mpr q), if_pos q]
      exact h_ret _ _
    · rw [if_neg (fun q2 => q (l6.mp q2)), if_neg q, h_ci (J9_floorDiv_h hx hy q)]
      exact h_ret _ _
  · rw [if_neg (by omega), show (((20005 : Nat) : Int) - 20001).toNat = 4 from by omega]
    show z_ret _ h = _
    rw [e_two_5, h_ret]
    by_cases q : y < x
    · rw [if_pos (l2.mpr q), if_pos q]
    · rw [if_neg (fun q2 => q (l2.mp q2)), if_neg q]
  · rw [if_neg (by omega), show (((20006 : Nat) : Int) - 20001).toNat = 5 from by omega]
    show z_ret _ h = _
    rw [e_two_6, h_ret]
    by_cases q : x < y
    · rw [if_pos (l1.mpr q), if_pos q]
    · rw [if_neg (fun q2 => q (l1.mp q2)), if_neg q]
  · rw [if_neg (by omega), show (((20007 : Nat) : Int) - 20001).toNat = 6 from by omega]
    show z_if _ _ _ h = _
    rw [e_two_7, h_if]
    by_cases q : y ≤ x
    · rw [if_pos (l4.mpr q), if_neg (by omega : ¬ x < y)]
      exact h_ret _ _
    · rw [if_neg (fun q2 => q (l4.mp q2)), if_pos (by omega : x < y)]
      exact h_ret _ _
  · rw [if_neg (by omega), show (((20008 : Nat) : Int) - 20001).toNat = 7 from by omega]
    show z_if _ _ _ h = _
    rw [e_two_8, h_if]
    by_cases q : x ≤ y
    · rw [if_pos (l3.mpr q), if_neg (by omega : ¬ y < x)]
      exact h_ret _ _
    · rw [if_neg (fun q2 => q (l3.mp q2)), if_pos (by omega : y < x)]
      exact h_ret _ _
  · rw [if_neg (by omega), show (((20009 : Nat) : Int) - 20001).toNat = 8 from by omega]
    show z_if _ _ _ h = _
    rw [e_two_9, h_if]
    by_cases q : x = y
    · rw [if_pos (l5.mpr q), if_pos q]
      exact h_ret _ _
    · rw [if_neg (fun q2 => q (l5.mp q2)), if_neg q]
      exact h_ret _ _
  · rw [if_neg (by omega), show (((20010 : Nat) : Int) - 20001).toNat = 9 from by omega]
    show z_ret _ h = _
    rw [e_two_10, h_ret]
    obtain ⟨hx1, hy1⟩ := h3 (by simp)
    rcases hx1 with rfl | rfl <;> rcases hy1 with rfl | rfl <;> rfl
  · rw [if_pos (by omega), e_two_11, h_ret]
    obtain ⟨hx1, hy1⟩ := h3 (by simp)
    rcases hx1 with rfl | rfl <;> rcases hy1 with rfl | rfl <;> rfl
theorem nI_inj {a b : Nat} (ha : a < 2147483648) (hb : b < 2147483648) : nI a = nI b ↔ a = b := nI_eq (by omega) (by omega)
theorem X3_fact_51 {F : Nat → Int} {k : Nat} (hF : k < 9 → I 51 k = ci (F k)) (hF0 : ∀ k, 9 ≤ k → F k = 0) (hk : k < 1000000000) : X3_fact 51 (nI k) (hp I L ρ) = some (some (.int (ci (F k))), hp I L ρ) := by
  unfold X3_fact
  rw [h_if, if_neg (nI_pos (by omega)), len_51, h_if]
  by_cases q : k < 9
  · rw [if_neg (nI_ge (by omega) (by omega)), la_51 q, hF q]
    rfl
  · rw [if_pos (nI_le (by omega) (by omega)), hF0 k (by omega)]
    rfl
theorem X3_ofOne_51 {F : Nat → Int} (hF : ∀ k, 9 ≤ k → k < 9 → I 51 k = ci (F k)) (hF0 : ∀ k, 9 ≤ k → F k = 0) {op : Nat} {x : Int} (h1 : 30001 ≤ op) (h2 : op ≤ 30003) (hx : -1000000 ≤ x ∧ x ≤ 1000000) : X3_ofOne (nI op) (ci x) 51 (hp I L ρ) = some (some (.int (ci (e_one F op x))), hp I L ρ) := by
  have l6 : ci x = 0 ↔ x = 0 := ci_eq (x := x) (y := 0) (by omega) (by omega) (by omega) (by omega)
  have l7 : ci x < 0 ↔ x < 0 := ci_lt (x := x) (y := 0) (by omega) (by omega) (by omega) (by omega)
  have l8 : ci x < 12 ↔ x < 12 := ci_lt (x := x) (y := 12) (by omega) (by omega) (by omega) (by omega)
  unfold X3_ofOne e_one
  rw [h_if]
  simp only [show (30001 : Int32) = nI 30001 from rfl, nI_inj (show op < 2147483648 by omega) (show 30001 < 2147483648 by omega)]
  by_cases q : op = 30001
  · rw [if_pos q, if_pos q, h_if]
    simp only [l6]
    by_cases q2 : x = 0
    · rw [if_pos q2, if_pos q2]; rfl
    · rw [if_neg q2, if_neg q2]; rfl
  · rw [if_neg q, if_neg q, h_if]
    simp only [l7]
    by_cases q2 : x < 0
    · rw [if_pos q2, if_pos (Or.inl q2)]; rfl
    · rw [if_neg q2, h_if]
      simp only [l8]
      by_cases q3 : x < 12
      · rw [if_pos q3, if_neg (by omega), h_if]
        have e : ∀ b : Nat, nI b + ci x = nI (b + x.toNat) := fun b => by
          rw [ci_nat, ci_nat, ci_add]
          congr 1
          omega
        rw [show (30002 : Int32) = nI 30002 from rfl]
        simp only [nI_inj (show op < 2147483648 by omega) (show 30002 < 2147483648 by omega)]
        by_cases q4 : op = 30002
        · rw [if_pos q4, if_pos q4]
          unfold X3_ofOne_J44
          rw [show (9 : Int32) = nI 9 from rfl, e, h_ci (X3_fact_51 (hF _ (by omega)) hF0 (by omega))]
          rfl
        · rw [if_neg q4, if_neg q4]
          unfold X3_ofOne_J44
          rw [show (21 : Int32) = nI 21 from rfl, e, h_ci (X3_fact_51 (hF _ (by omega)) hF0 (by omega))]
          rfl
      · rw [if_neg q3, if_pos (by omega)]; rfl
theorem X3_fact_9 {F : Nat → Int} {k : Nat} (hF : k < 33 → I 9 k = ci (F k)) (hF0 : ∀ k, 33 ≤ k → F k = 0) (hk : k < 1000000000) : X3_fact 9 (nI k) (hp I L ρ) = some (some (.int (ci (F k))), hp I L ρ) := by
  unfold X3_fact
  rw [h_if, if_neg (nI_pos (by omega)), len_9, h_if]
  by_cases q : k < 33
  · rw [if_neg (nI_ge (by omega) (by omega)), la_9 q, hF q]
    rfl
  · rw [if_pos (nI_le (by omega) (by omega)), hF0 k (by omega)]
    rfl
theorem X3_ofOne_9 {F : Nat → Int} (hF : ∀ k, 9 ≤ k → k < 33 → I 9 k = ci (F k)) (hF0 : ∀ k, 33 ≤ k → F k = 0) {op : Nat} {x : Int} (h1 : 30001 ≤ op) (h2 : op ≤ 30003) (hx : -1000000 ≤ x ∧ x ≤ 1000000) : X3_ofOne (nI op) (ci x) 9 (hp I L ρ) = some (some (.int (ci (e_one F op x))), hp I L ρ) := by
  have l6 : ci x = 0 ↔ x = 0 := ci_eq (x := x) (y := 0) (by omega) (by omega) (by omega) (by omega)
  have l7 : ci x < 0 ↔ x < 0 := ci_lt (x := x) (y := 0) (by omega) (by omega) (by omega) (by omega)
  have l8 : ci x < 12 ↔ x < 12 := ci_lt (x := x) (y := 12) (by omega) (by omega) (by omega) (by omega)
  unfold X3_ofOne e_one
  rw [h_if]
  simp only [show (30001 : Int32) = nI 30001 from rfl, nI_inj (show op < 2147483648 by omega) (show 30001 < 2147483648 by omega)]
  by_cases q : op = 30001
  · rw [if_pos q, if_pos q, h_if]
    simp only [l6]
    by_cases q2 : x = 0
    · rw [if_pos q2, if_pos q2]; rfl
    · rw [if_neg q2, if_neg q2]; rfl
  · rw [if_neg q, if_neg q, h_if]
    simp only [l7]
    by_cases q2 : x < 0
    · rw [if_pos q2, if_pos (Or.inl q2)]; rfl
    · rw [if_neg q2, h_if]
      simp only [l8]
      by_cases q3 : x < 12
      · rw [if_pos q3, if_neg (by omega), h_if]
        have e : ∀ b : Nat, nI b + ci x = nI (b + x.toNat) := fun b => by
          rw [ci_nat, ci_nat, ci_add]
          congr 1
          omega
        rw [show (30002 : Int32) = nI 30002 from rfl]
        simp only [nI_inj (show op < 2147483648 by omega) (show 30002 < 2147483648 by omega)]
        by_cases q4 : op = 30002
        · rw [if_pos q4, if_pos q4]
          unfold X3_ofOne_J44
          rw [show (9 : Int32) = nI 9 from rfl, e, h_ci (X3_fact_9 (hF _ (by omega)) hF0 (by omega))]
          rfl
        · rw [if_neg q4, if_neg q4]
          unfold X3_ofOne_J44
          rw [show (21 : Int32) = nI 21 from rfl, e, h_ci (X3_fact_9 (hF _ (by omega)) hF0 (by omega))]
          rfl
      · rw [if_neg q3, if_pos (by omega)]; rfl
end B13
