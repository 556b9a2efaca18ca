/-! the class: slots, numbers, hands -/
section B16
variable {I : Nat → Nat → Int32} {L : Nat → Nat → Int64} {ρ : zRh} {h : zH} {C : cT} {s : sT}
def cdX (cd : Nat) (I : Nat → Nat → Int32) (w : Nat) (l : List Nat) : Prop := ∃ q u, I (cd + 2) w = nI q ∧ I (cd + 3) w = nI (q + l.length) ∧ I cd 1 = nI u ∧ q + l.length ≤ u ∧ u ≤ 1616 ∧ ∀ i, i < l.length → I (cd + 1) (q + i) = nI (l.getD i 0)
def chX (ch : Nat) (I : Nat → Nat → Int32) (C : cT) : Prop := (I (ch + 1) 0 = nI (k_L C) ∧ I (ch + 1) 1 = nI (k_R C)) ∧ (I ch 9 = nI (k_rt C) ∧ I ch 10 = nI (k_slip C)) ∧ (∀ j, j < 12 → I (ch + 3) j = nI (k_warm C j)) ∧ (∀ j, j < 12 → I (ch + 4) j = nI (k_work C j)) ∧ (∀ j, j < 12 → I (ch + 5) j = nI (k_size C j)) ∧ (∀ j, j < 72 → I (ch + 6) j = bI (k_kin C j)) ∧ ∀ w, w < 3 → cdX (ch + 9) I w (k_code C w)
def stX (b : Nat) (I : Nat → Nat → Int32) (s : sT) : Prop := (I b 0 = nI (s_sp s) ∧ I b 1 = nI (s_rd s)) ∧ (∀ j, j < 12 → I (b + 1) j = nI (s_ord s j)) ∧ (∀ j, j < 12 → I (b + 2) j = oI (s_wed s j)) ∧ (∀ j, j < 12 → I (b + 3) j = nI (s_wai s j)) ∧ (∀ j, j < 12 → I (b + 4) j = nI (s_siz s j)) ∧ (∀ j, j < 72 → I (b + 5) j = nI (s_lik s j)) ∧ ∀ j, j < 72 → I (b + 6) j = nI (s_kno s j)
theorem cdX_fr {cd : Nat} {I I' : Nat → Nat → Int32} {w : Nat} {l : List Nat} (h : ∀ a, cd ≤ a → a < cd + 4 → I' a = I a) (hX : cdX cd I w l) : cdX cd I' w l := by
  unfold cdX
  rw [h cd (by omega) (by omega), h (cd + 1) (by omega) (by omega), h (cd + 2) (by omega) (by omega), h (cd + 3) (by omega) (by omega)]
  exact hX
theorem chX_fr {ch : Nat} {I I' : Nat → Nat → Int32} {C : cT} (h : ∀ a, ch ≤ a → a < ch + 13 → I' a = I a) (hX : chX ch I C) : chX ch I' C := by
  obtain ⟨h1, h2, h3, h4, h5, h6, h7⟩ := hX
  refine ⟨?_, ?_, ?_, ?_, ?_, ?_, fun w hw => cdX_fr (fun a h1 h2 => h a (by omega) (by omega)) (h7 w hw)⟩
  · rw [h (ch + 1) (by omega) (by omega)]; exact h1
  · rw [h ch (by omega) (by omega)]; exact h2
  · rw [h (ch + 3) (by omega) (by omega)]; exact h3
  · rw [h (ch + 4) (by omega) (by omega)]; exact h4
  · rw [h (ch + 5) (by omega) (by omega)]; exact h5
  · rw [h (ch + 6) (by omega) (by omega)]; exact h6
theorem stX_fr {b : Nat} {I I' : Nat → Nat → Int32} {s : sT} (h : ∀ a, b ≤ a → a < b + 7 → I' a = I a) (hX : stX b I s) : stX b I' s := by
  unfold stX
  rw [h b (by omega) (by omega), h (b + 1) (by omega) (by omega), h (b + 2) (by omega) (by omega), h (b + 3) (by omega) (by omega), h (b + 4) (by omega) (by omega), h (b + 5) (by omega) (by omega), h (b + 6) (by omega) (by omega)]
  exact hX
theorem bI01 (b : Bool) : bI b = 0 ∨ bI b = 1 := by cases b <;> simp [bI]
theorem nI_lt' {a b : Nat} (ha : a < 2147483648) (hb : b < 2147483648) : nI a < nI b ↔ a < b := nI_ltI (by omega) (by omega)
theorem nI_le' {a b : Nat} (ha : a < 2147483648) (hb : b < 2147483648) : nI a ≤ nI b ↔ a ≤ b := nI_leI (by omega) (by omega)
theorem oI_none : oI none = -1 := rfl
theorem oI_some (b : Nat) : oI (some b) = nI b := rfl
theorem nI_nm1 {b : Nat} (hb : b < 2147483648) : ¬ nI b = -1 := fun e => by
  have h1 := nI_pos (n := b) (by omega)
  rw [e] at h1
  exact h1 (by decide)
theorem oI_m1 {o : Option Nat} (hb : ∀ b, o = some b → b < 2147483648) : oI o = -1 ↔ o = none := by
  cases o with
  | none => simp [oI]
  | some b => simp only [oI, reduceCtorEq, iff_false]; exact nI_nm1 (hb b rfl)
theorem X11_cell_h {a b : Nat} (ha : a < 1000) (hb : b < 1000) : X11_cell (nI a) (nI b) h = some (some (.int (nI (6 * a + b % 6))), h) := by
  unfold X11_cell
  rw [h_ck (by decide), h_ret, show (6 : Int32) = nI 6 from rfl, pk_rem (by omega) (by omega) (by omega), pk_mul, nI_add, Nat.mul_comm]
theorem X11_sideOf_h {a : Nat} (ha : a < 1000) : X11_sideOf (nI a) h = some (some (.int (if 6 ≤ a then 1 else 0)), h) := by
  unfold X11_sideOf
  rw [h_if, show (6 : Int32) = nI 6 from rfl]
  simp only [nI_le' (show 6 < 2147483648 by omega) (show a < 2147483648 by omega)]
  split <;> rfl
theorem X11_within_h {x : Int} (h1 : -1000000 ≤ x ∧ x ≤ 1000000) {m : Nat} (hm : m < 1000) : X11_within (ci x) (nI m) h = some (some (.int (ci (p_lim x m))), h) := by
  unfold X11_within p_lim
  rw [h_ret, ci_nat]
  have e1 := ci_lt (x := (m : Int)) (y := x) (by omega) (by omega) (by omega) (by omega)
  simp only [e1]
  have e2 : (if (m : Int) < x then ci (m : Int) else ci x) = ci (if (m : Int) < x then (m : Int) else x) := by split <;> rfl
  rw [e2, show (0 : Int32) = ci 0 from rfl]
  have e3 : -1000000 ≤ (if (m : Int) < x then (m : Int) else x) ∧ (if (m : Int) < x then (m : Int) else x) ≤ 1000000 := by split <;> omega
  simp only [ci_lt (x := 0) (y := if (m : Int) < x then (m : Int) else x) (by omega) (by omega) (by omega) (by omega)]
  split <;> split <;> rfl
theorem p_lim_in (x : Int) {m : Int} (hm : 0 ≤ m) : 0 ≤ p_lim x m ∧ p_lim x m ≤ m := by
  unfold p_lim
  split <;> split <;> omega
theorem Int32_of {v : Int32} (h : ¬ v < 0) : ∃ j, j < 2147483648 ∧ v = nI j := nI_of h
theorem X1_people_13 (hC : chX 13 I C) (hk : okC C) : X1_people 13 (hp I L ρ) = some (some (.int (nI (k_L C + k_R C))), hp I L ρ) := by
  have hL : I 14 0 = nI (k_L C) := hC.1.1
  have hR : I 14 1 = nI (k_R C) := hC.1.2
  unfold X1_people
  rw [gr_13_0, lal_0, la_14 (by decide), gr_13_0, lal_1, la_14 (by decide), h_ret, hL, hR, nI_add]
theorem X1_slot_13 (hC : chX 13 I C) (hk : okC C) (v : Int32) : X1_slot 13 v (hp I L ρ) = some (some (.int (oI (k_sl C v))), hp I L ρ) := by
  have hL : I 14 0 = nI (k_L C) := hC.1.1
  obtain ⟨⟨b1, b2⟩, -⟩ := id hk
  unfold X1_slot k_sl
  rw [h_if]
  by_cases q : v < 0
  · rw [if_pos q, if_pos q]; rfl
  · rw [if_neg q, if_neg q, rc_13, h_ci (X1_people_13 hC hk), h_if]
    obtain ⟨j, hj, rfl⟩ := Int32_of q
    rw [nI_clamp (by omega)]
    unfold k_slot
    simp only [nI_lt' hj (show k_L C + k_R C < 2147483648 by omega)]
    by_cases q2 : j < k_L C + k_R C
    · rw [if_pos q2, gr_13_0, lal_0, la_14 (by decide), hL, h_if]
      simp only [nI_le' (show k_L C < 2147483648 by omega) hj]
      by_cases q3 : k_L C ≤ j
      · rw [if_pos q3, if_neg (by omega), if_pos q2, gr_13_0, lal_0, la_14 (by decide), hL, show (6 : Int32) = nI 6 from rfl, nI_add, pk_sub (by omega)]
        rfl
      · rw [if_neg q3, if_pos (by omega)]
        rfl
    · rw [if_neg q2, if_neg (by omega), if_neg q2]
      rfl
theorem X1_number_13 (hC : chX 13 I C) (hk : okC C) {o : Option Nat} (ho : ∀ a, o = some a → a < 12) : X1_number 13 (oI o) (hp I L ρ) = some (some (.int (oI (o.map (k_num C)))), hp I L ρ) := by
  have hL : I 14 0 = nI (k_L C) := hC.1.1
  obtain ⟨⟨b1, b2⟩, -⟩ := id hk
  unfold X1_number
  cases o with
  | none => rfl
  | some a =>
    have ha := ho a rfl
    rw [h_if, oI_some, show (6 : Int32) = nI 6 from rfl]
    simp only [nI_le' (show 6 < 2147483648 by omega) (show a < 2147483648 by omega), Option.map_some, oI_some, k_num]
    by_cases q : 6 ≤ a
    · rw [if_pos q, if_neg (by omega), gr_13_0, lal_0, la_14 (by decide), hL, nI_add, pk_sub (by omega)]
      rfl
    · rw [if_neg q, if_pos (by omega)]
      rfl
theorem X1_isThere_13 (hC : chX 13 I C) (hk : okC C) {a : Nat} (ha : a < 12) : X1_isThere 13 (nI a) (hp I L ρ) = some (some (.int (bI (decide (k_th C a)))), hp I L ρ) := by
  have hL : I 14 0 = nI (k_L C) := hC.1.1
  have hR : I 14 1 = nI (k_R C) := hC.1.2
  obtain ⟨⟨b1, b2⟩, -⟩ := id hk
  unfold X1_isThere
  rw [h_if, show (6 : Int32) = nI 6 from rfl]
  simp only [nI_le' (show 6 < 2147483648 by omega) (show a < 2147483648 by omega)]
  by_cases q : 6 ≤ a
  · rw [if_pos q, gr_13_0, lal_1, la_14 (by decide), hR, pk_sub q, h_if]
    simp only [nI_le' (show k_R C < 2147483648 by omega) (show a - 6 < 2147483648 by omega)]
    by_cases q2 : k_R C ≤ a - 6
    · rw [if_pos q2, decide_eq_false (by omega)]; rfl
    · rw [if_neg q2, decide_eq_true (by omega)]; rfl
  · rw [if_neg q, gr_13_0, lal_0, la_14 (by decide), hL, h_if]
    simp only [nI_le' (show k_L C < 2147483648 by omega) (show a < 2147483648 by omega)]
    by_cases q2 : k_L C ≤ a
    · rw [if_pos q2, decide_eq_false (by omega)]; rfl
    · rw [if_neg q2, decide_eq_true (by omega)]; rfl
theorem X1_areKin_13 (hC : chX 13 I C) {a b : Nat} (ha : a < 12) (hb : b < 12) : X1_areKin 13 (nI a) (nI b) (hp I L ρ) = some (some (.int (bI (k_kn C a b))), hp I L ρ) := by
  have hK : ∀ j, j < 72 → I 19 j = bI (k_kin C j) := hC.2.2.2.2.2.1
  unfold X1_areKin
  rw [gr_13_5, h_ci (X11_cell_h (by omega) (by omega)), la_19 (by omega), hK _ (by omega), h_rb (bI01 _)]
  rfl
theorem X1_across_13 (hC : chX 13 I C) (hk : okC C) {o : Option Nat} (ho : ∀ a, o = some a → a < 12) (v : Int32) : X1_across 13 (oI o) v (hp I L ρ) = some (some (.int (oI (match o, k_sl C v with | some a, some b => if (a < 6 ↔ b < 6) then none else some b | _, _ => none))), hp I L ρ) := by
  obtain ⟨⟨b1, b2⟩, -⟩ := id hk
  have hb : ∀ b, k_sl C v = some b → b < 12 := by
    intro b hb
    unfold k_sl k_slot at hb
    split at hb
    · cases hb
    · split at hb
      · cases hb; omega
      · split at hb
        · cases hb; omega
        · cases hb
  unfold X1_across X1_across_J27
  rw [rc_13, h_ci (X1_slot_13 hC hk v), h_if]
  simp only [oI_m1 (fun b e => Nat.lt_trans (ho b e) (by decide))]
  cases o with
  | none => rfl
  | some a =>
    have ha := ho a rfl
    rw [if_neg (by simp), h_if]
    simp only [oI_m1 (fun b e => Nat.lt_trans (hb b e) (by decide))]
    cases e : k_sl C v with
    | none => rfl
    | some b =>
      have hb1 := hb b e
      rw [if_neg (by simp), oI_some, h_ci (X11_sideOf_h (by omega)), oI_some, h_ci (X11_sideOf_h (by omega)), h_if]
      by_cases q1 : a < 6 <;> by_cases q2 : b < 6
      · rw [if_neg (by omega : ¬ 6 ≤ a), if_neg (by omega : ¬ 6 ≤ b)]; simp only [q1, q2]; rfl
      · rw [if_neg (by omega : ¬ 6 ≤ a), if_pos (by omega : 6 ≤ b)]; simp only [q1, q2]; rfl
      · rw [if_pos (by omega : 6 ≤ a), if_neg (by omega : ¬ 6 ≤ b)]; simp only [q1, q2]; rfl
      · rw [if_pos (by omega : 6 ≤ a), if_pos (by omega : 6 ≤ b)]; simp only [q1, q2]; rfl
theorem X1_people_27 (hC : chX 27 I C) (hk : okC C) : X1_people 27 (hp I L ρ) = some (some (.int (nI (k_L C + k_R C))), hp I L ρ) := by
  have hL : I 28 0 = nI (k_L C) := hC.1.1
  have hR : I 28 1 = nI (k_R C) := hC.1.2
  unfold X1_people
  rw [gr_27_0, lal_0, la_28 (by decide), gr_27_0, lal_1, la_28 (by decide), h_ret, hL, hR, nI_add]
theorem X1_slot_27 (hC : chX 27 I C) (hk : okC C) (v : Int32) : X1_slot 27 v (hp I L ρ) = some (some (.int (oI (k_sl C v))), hp I L ρ) := by
  have hL : I 28 0 = nI (k_L C) := hC.1.1
  obtain ⟨⟨b1, b2⟩, -⟩ := id hk
  unfold X1_slot k_sl
  rw [h_if]
  by_cases q : v < 0
  · rw [if_pos q, if_pos q]; rfl
  · rw [if_neg q, if_neg q, rc_27, h_ci (X1_people_27 hC hk), h_if]
    obtain ⟨j, hj, rfl⟩ := Int32_of q
    rw [nI_clamp (by omega)]
    unfold k_slot
    simp only [nI_lt' hj (show k_L C + k_R C < 2147483648 by omega)]
    by_cases q2 : j < k_L C + k_R C
    · rw [if_pos q2, gr_27_0, lal_0, la_28 (by decide), hL, h_if]
      simp only [nI_le' (show k_L C < 2147483648 by omega) hj]
      by_cases q3 : k_L C ≤ j
      · rw [if_pos q3, if_neg (by omega), if_pos q2, gr_27_0, lal_0, la_28 (by decide), hL, show (6 : Int32) = nI 6 from rfl, nI_add, pk_sub (by omega)]
        rfl
      · rw [if_neg q3, if_pos (by omega)]
        rfl
    · rw [if_neg q2, if_neg (by omega), if_neg q2]
      rfl
theorem X1_number_27 (hC : chX 27 I C) (hk : okC C) {o : Option Nat} (ho : ∀ a, o = some a → a < 12) : X1_number 27 (oI o) (hp I L ρ) = some (some (.int (oI (o.map (k_num C)))), hp I L ρ) := by
  have hL : I 28 0 = nI (k_L C) := hC.1.1
  obtain ⟨⟨b1, b2⟩, -⟩ := id hk
  unfold X1_number
  cases o with
  | none => rfl
  | some a =>
    have ha := ho a rfl
    rw [h_if, oI_some, show (6 : Int32) = nI 6 from rfl]
    simp only [nI_le' (show 6 < 2147483648 by omega) (show a < 2147483648 by omega), Option.map_some, oI_some, k_num]
    by_cases q : 6 ≤ a
    · rw [if_pos q, if_neg (by omega), gr_27_0, lal_0, la_28 (by decide), hL, nI_add, pk_sub (by omega)]
      rfl
    · rw [if_neg q, if_pos (by omega)]
      rfl
theorem X1_isThere_27 (hC : chX 27 I C) (hk : okC C) {a : Nat} (ha : a < 12) : X1_isThere 27 (nI a) (hp I L ρ) = some (some (.int (bI (decide (k_th C a)))), hp I L ρ) := by
  have hL : I 28 0 = nI (k_L C) := hC.1.1
  have hR : I 28 1 = nI (k_R C) := hC.1.2
  obtain ⟨⟨b1, b2⟩, -⟩ := id hk
  unfold X1_isThere
  rw [h_if, show (6 : Int32) = nI 6 from rfl]
  simp only [nI_le' (show 6 < 2147483648 by omega) (show a < 2147483648 by omega)]
  by_cases q : 6 ≤ a
  · rw [if_pos q, gr_27_0, lal_1, la_28 (by decide), hR, pk_sub q, h_if]
    simp only [nI_le' (show k_R C < 2147483648 by omega) (show a - 6 < 2147483648 by omega)]
    by_cases q2 : k_R C ≤ a - 6
    · rw [if_pos q2, decide_eq_false (by omega)]; rfl
    · rw [if_neg q2, decide_eq_true (by omega)]; rfl
  · rw [if_neg q, gr_27_0, lal_0, la_28 (by decide), hL, h_if]
    simp only [nI_le' (show k_L C < 2147483648 by omega) (show a < 2147483648 by omega)]
    by_cases q2 : k_L C ≤ a
    · rw [if_pos q2, decide_eq_false (by omega)]; rfl
    · rw [if_neg q2, decide_eq_true (by omega)]; rfl
theorem X1_areKin_27 (hC : chX 27 I C) {a b : Nat} (ha : a < 12) (hb : b < 12) : X1_areKin 27 (nI a) (nI b) (hp I L ρ) = some (some (.int (bI (k_kn C a b))), hp I L ρ) := by
  have hK : ∀ j, j < 72 → I 33 j = bI (k_kin C j) := hC.2.2.2.2.2.1
  unfold X1_areKin
  rw [gr_27_5, h_ci (X11_cell_h (by omega) (by omega)), la_33 (by omega), hK _ (by omega), h_rb (bI01 _)]
  rfl
theorem X1_across_27 (hC : chX 27 I C) (hk : okC C) {o : Option Nat} (ho : ∀ a, o = some a → a < 12) (v : Int32) : X1_across 27 (oI o) v (hp I L ρ) = some (some (.int (oI (match o, k_sl C v with | some a, some b => if (a < 6 ↔ b < 6) then none else some b | _, _ => none))), hp I L ρ) := by
  obtain ⟨⟨b1, b2⟩, -⟩ := id hk
  have hb : ∀ b, k_sl C v = some b → b < 12 := by
    intro b hb
    unfold k_sl k_slot at hb
    split at hb
    · cases hb
    · split at hb
      · cases hb; omega
      · split at hb
        · cases hb; omega
        · cases hb
  unfold X1_across X1_across_J27
  rw [rc_27, h_ci (X1_slot_27 hC hk v), h_if]
  simp only [oI_m1 (fun b e => Nat.lt_trans (ho b e) (by decide))]
  cases o with
  | none => rfl
  | some a =>
    have ha := ho a rfl
    rw [if_neg (by simp), h_if]
    simp only [oI_m1 (fun b e => Nat.lt_trans (hb b e) (by decide))]
    cases e : k_sl C v with
    | none => rfl
    | some b =>
      have hb1 := hb b e
      rw [if_neg (by simp), oI_some, h_ci (X11_sideOf_h (by omega)), oI_some, h_ci (X11_sideOf_h (by omega)), h_if]
      by_cases q1 : a < 6 <;> by_cases q2 : b < 6
      · rw [if_neg (by omega : ¬ 6 ≤ a), if_neg (by omega : ¬ 6 ≤ b)]; simp only [q1, q2]; rfl
      · rw [if_neg (by omega : ¬ 6 ≤ a), if_pos (by omega : 6 ≤ b)]; simp only [q1, q2]; rfl
      · rw [if_pos (by omega : 6 ≤ a), if_neg (by omega : ¬ 6 ≤ b)]; simp only [q1, q2]; rfl
      · rw [if_pos (by omega : 6 ≤ a), if_pos (by omega : 6 ≤ b)]; simp only [q1, q2]; rfl
end B16
