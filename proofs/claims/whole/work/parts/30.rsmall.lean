/-! the reference: how it holds a church and a state; its small questions -/
section B30
variable {I : Nat → Nat → Int32} {L : Nat → Nat → Int64} {ρ : zRh} {h : zH} {C : cT} {s : sT}
def p_dflt (w : Nat) : List Nat := if w = 0 then [10002, 10000, 20001] else if w = 1 then [10006, 8, 20007] else [10000, 1, 20001]
def c_cc (r : Nat) : Nat := if 1000 ≤ r then r - 1000 else if 40 ≤ r then (if r = 42 then 10003 else if r = 43 then 10004 else if r = 44 then 10005 else if r = 45 then 10002 else 10000 + (r - 40)) else if r = 13 then 1 else if r = 12 then 30001 else 20000 + r
def c_ok (r : Nat) : Prop := (1000 ≤ r ∧ r < 11000) ∨ (40 ≤ r ∧ r ≤ 48) ∨ (1 ≤ r ∧ r ≤ 13)
def cdM (I : Nat → Nat → Int32) (w : Nat) (l : List Nat) : Prop := (I 252 (3 + w) = -1 ∧ l = p_dflt w) ∨ ∃ (q : Nat) (R : List Nat), I 252 (3 + w) = nI q ∧ I 253 (3 + w) = nI (q + R.length) ∧ q + R.length ≤ 1600 ∧ R.map c_cc = l ∧ (∀ r ∈ R, c_ok r) ∧ ∀ i, i < R.length → I 254 (1600 + (q + i)) = nI (R.getD i 0)
def chM (I : Nat → Nat → Int32) (C : cT) : Prop := (I 246 6 = nI (k_L C) ∧ I 246 7 = nI (k_R C)) ∧ ((I 215 53 = 1 ∧ I 246 9 = nI (k_rt C) ∧ k_td C = true) ∨ (I 215 53 = 0 ∧ k_rt C = 3 ∧ k_L C = 0 ∧ k_R C = 0 ∧ k_td C = false)) ∧ I 246 10 = nI (k_slip C) ∧ (∀ a, k_th C a → I 248 (36 + 3 * a) = nI (k_warm C a) ∧ I 248 (36 + 3 * a + 1) = nI (k_work C a) ∧ I 248 (36 + 3 * a + 2) = nI (k_size C a)) ∧ (∀ j, j < 36 → I 249 (36 + j) = bI (k_kin C j)) ∧ ∀ w, w < 3 → cdM I w (k_code C w)
def stM (I : Nat → Nat → Int32) (C : cT) (s : sT) : Prop := (I 255 0 = nI (s_sp s) ∧ I 255 1 = nI (s_rd s)) ∧ (∀ side k, side < 2 → k < k_n C side → I 255 (2 + 6 * side + k) = nI (s_ord s (6 * side + k) - 6 * side)) ∧ ∀ a, k_th C a → I 255 (14 + a) = oI (s_wed s a) ∧ I 255 (26 + a) = nI (s_wai s a) ∧ (∀ k, k < 6 → I 255 (38 + 6 * a + k) = nI (s_lik s (6 * a + k)) ∧ I 255 (110 + 6 * a + k) = nI (s_kno s (6 * a + k))) ∧ (if I 215 54 = nI (k_num C a) then I 215 55 else I 248 (36 + 3 * a + 2)) = nI (s_siz s a)
theorem chM_fr {I I' : Nat → Nat → Int32} (h1 : ∀ a, (a = 246 ∨ a = 248 ∨ a = 249 ∨ a = 252 ∨ a = 253 ∨ a = 254) → I' a = I a) (h2 : I' 215 53 = I 215 53) (hM : chM I C) : chM I' C := by
  unfold chM cdM
  rw [h1 246 (by simp), h1 248 (by simp), h1 249 (by simp), h1 252 (by simp), h1 253 (by simp), h1 254 (by simp), h2]
  exact hM
theorem stM_fr {I I' : Nat → Nat → Int32} (h1 : I' 255 = I 255) (h2 : I' 215 54 = I 215 54) (h3 : I' 215 55 = I 215 55) (h4 : I' 248 = I 248) (hM : stM I C s) : stM I' C s := by
  unfold stM
  rw [h1, h2, h3, h4]
  exact hM
theorem h_cl2 {g : zM} {F : Int64 → zM} {x : Int64} {h h1 : zH} (e : g h = some (some (.long x), h1)) : z_cl g F h = F x h1 := h_cl e
theorem X12_isIn_h {x a b : Int} (hx : -2147483648 ≤ x ∧ x < 2147483648) (ha : -2147483648 ≤ a ∧ a < 2147483648) (hb : -2147483648 ≤ b ∧ b < 2147483648) : X12_isIn (cl x) (cl a) (cl b) h = some (some (.int (bI (decide (a ≤ x ∧ x ≤ b)))), h) := by
  unfold X12_isIn
  rw [h_if]
  simp only [cl_lt (x := x) (y := a) (by omega) (by omega) (by omega) (by omega)]
  by_cases c1 : x < a
  · rw [if_pos c1, decide_eq_false (by omega)]; rfl
  · rw [if_neg c1, h_if]
    simp only [cl_lt (x := b) (y := x) (by omega) (by omega) (by omega) (by omega)]
    by_cases c2 : b < x
    · rw [if_pos c2, decide_eq_false (by omega)]; rfl
    · rw [if_neg c2, decide_eq_true (by omega)]; rfl
theorem X12_clamp_h {x : Int} (hx : -9000000000000000000 ≤ x ∧ x < 9000000000000000000) {m : Nat} (hm : m < 1000) : X12_clamp (cl x) (nI m) h = some (some (.int (ci (p_lim x m))), h) := by
  unfold X12_clamp p_lim
  rw [h_if, show (0 : Int64) = cl 0 from rfl]
  simp only [cl_lt (x := x) (y := 0) (by omega) (by omega) (by omega) (by omega)]
  by_cases c1 : x < 0
  · rw [if_pos c1, if_neg (show ¬ (m : Int) < x by omega), if_neg (show ¬ 0 < x by omega)]; rfl
  · rw [if_neg c1, h_if, nI_l (by omega), show lN m = cl (m : Int) from (Int64.ofInt_eq_ofNat).symm]
    simp only [cl_lt (x := (m : Int)) (y := x) (by omega) (by omega) (by omega) (by omega)]
    by_cases c2 : (m : Int) < x
    · rw [if_pos c2, if_pos c2, h_ret]
      by_cases c3 : (0 : Int) < m
      · rw [if_pos c3, ci_nat]
      · rw [if_neg c3, show m = 0 by omega]; rfl
    · rw [if_neg c2, if_neg c2, h_ret, ci_cl]
      by_cases c3 : 0 < x
      · rw [if_pos c3]
      · rw [if_neg c3, show x = 0 by omega]
theorem X12_sideMany_h (hM : chM I C) {side : Nat} (hs : side < 2) : X12_sideMany 215 (nI side) (hp I L ρ) = some (some (.int (nI (k_n C side))), hp I L ρ) := by
  unfold X12_sideMany
  rw [gr_215_40, show (6 : Int32) = nI 6 from rfl, nI_add, la_246 (by omega), h_ret]
  have : side = 0 ∨ side = 1 := by omega
  rcases this with rfl | rfl
  · rw [hM.1.1]; rfl
  · rw [hM.1.2]; rfl
theorem X12_side0 (hM : chM I C) : X12_sideMany 215 0 (hp I L ρ) = some (some (.int (nI (k_L C))), hp I L ρ) := X12_sideMany_h hM (side := 0) (by omega)
theorem X12_side1 (hM : chM I C) : X12_sideMany 215 1 (hp I L ρ) = some (some (.int (nI (k_R C))), hp I L ρ) := X12_sideMany_h hM (side := 1) (by omega)
theorem X12_peopleMany_h (hM : chM I C) : X12_peopleMany 215 (hp I L ρ) = some (some (.int (nI (k_L C + k_R C))), hp I L ρ) := by
  unfold X12_peopleMany
  rw [rc_215, h_ci (X12_side0 hM), rc_215, h_ci (X12_side1 hM), h_ret, nI_add]
theorem X12_roundMany_h (hM : chM I C) : X12_roundMany 215 (hp I L ρ) = some (some (.int (nI (k_rt C))), hp I L ρ) := by
  unfold X12_roundMany
  rw [gi_215, h_if]
  rcases hM.2.1 with ⟨h1, h2, -⟩ | ⟨h1, h2, -⟩
  · rw [h1, if_neg (by decide), gr_215_40, lal_9, la_246 (by decide), h2]; rfl
  · rw [h1, if_pos rfl, h2]; rfl
theorem X12_isPerson_h (hk : okC C) (hM : chM I C) {p : Int} (hp2 : -2147483648 ≤ p ∧ p < 2147483648) : X12_isPerson 215 (cl p) (hp I L ρ) = some (some (.int (bI (decide (0 ≤ p ∧ p < k_L C + k_R C)))), hp I L ρ) := by
  obtain ⟨⟨b1, b2⟩, -⟩ := id hk
  unfold X12_isPerson
  rw [rc_215, h_ci (X12_peopleMany_h hM)]
  have e : (nI (k_L C + k_R C) - 1 : Int32).toInt64 = cl (((k_L C + k_R C : Nat) : Int) - 1) := by
    rw [ci_nat, show (1 : Int32) = ci 1 from rfl, ci_sub, cl_ci (by omega) (by omega)]
  rw [e, show (0 : Int64) = cl 0 from rfl, h_ci (X12_isIn_h hp2 (by omega) (by omega)), h_rb (bI01 _)]
  have : (0 ≤ p ∧ p ≤ ((k_L C + k_R C : Nat) : Int) - 1) ↔ (0 ≤ p ∧ p < (k_L C : Int) + k_R C) := by omega
  simp only [this]
theorem X12_sideOf_h (hk : okC C) (hM : chM I C) {p : Nat} (hp2 : p < 2147483648) : X12_sideOf 215 (nI p) (hp I L ρ) = some (some (.int (if k_L C ≤ p then 1 else 0)), hp I L ρ) := by
  obtain ⟨⟨b1, b2⟩, -⟩ := id hk
  unfold X12_sideOf
  rw [rc_215, h_ci (X12_side0 hM), h_if]
  simp only [nI_le' (show k_L C < 2147483648 by omega) hp2]
  split <;> rfl
def k_cd (C : cT) (p : Nat) : Nat := if k_L C ≤ p then 6 + p - k_L C else p
theorem X12_codeOf_h (hk : okC C) (hM : chM I C) {p : Nat} (hp2 : p < 1000) : X12_codeOf 215 (nI p) (hp I L ρ) = some (some (.int (nI (k_cd C p))), hp I L ρ) := by
  obtain ⟨⟨b1, b2⟩, -⟩ := id hk
  unfold X12_codeOf k_cd
  rw [rc_215, h_ci (X12_side0 hM), h_if]
  simp only [nI_le' (show k_L C < 2147483648 by omega) (show p < 2147483648 by omega)]
  by_cases c : k_L C ≤ p
  · rw [if_pos c, if_pos c, rc_215, h_ci (X12_side0 hM), h_ret, show (6 : Int32) = nI 6 from rfl, nI_add, pk_sub (by omega)]
  · rw [if_neg c, if_neg c]; rfl
theorem X12_numberOf_h (hk : okC C) (hM : chM I C) {a : Nat} (ha : a < 1000) : X12_numberOf 215 (nI a) (hp I L ρ) = some (some (.int (nI (k_num C a))), hp I L ρ) := by
  obtain ⟨⟨b1, b2⟩, -⟩ := id hk
  unfold X12_numberOf k_num
  rw [h_if, show (6 : Int32) = nI 6 from rfl]
  simp only [nI_le' (show 6 < 2147483648 by omega) (show a < 2147483648 by omega)]
  by_cases c : 6 ≤ a
  · rw [if_pos c, if_neg (by omega), rc_215, h_ci (X12_side0 hM), h_ret, nI_add, pk_sub (by omega)]
  · rw [if_neg c, if_pos (by omega)]; rfl
theorem k_num_th {a : Nat} (h : k_th C a) (hk : okC C) : k_num C a < k_L C + k_R C ∧ k_cd C (k_num C a) = a := by
  obtain ⟨⟨b1, b2⟩, -⟩ := id hk
  unfold k_num k_cd
  rcases h with h | ⟨h1, h2⟩
  · rw [if_pos (by omega), if_neg (by omega)]; omega
  · rw [if_neg (by omega), if_pos (by omega)]; omega
theorem k_cd_th {p : Nat} (h : p < k_L C + k_R C) (hk : okC C) : k_th C (k_cd C p) ∧ k_num C (k_cd C p) = p ∧ k_slot C p = some (k_cd C p) := by
  obtain ⟨⟨b1, b2⟩, -⟩ := id hk
  unfold k_num k_cd k_slot
  by_cases c : k_L C ≤ p
  · rw [if_pos c, if_neg (by omega), if_neg (by omega), if_pos (by omega)]
    exact ⟨Or.inr ⟨by omega, by omega⟩, by omega, rfl⟩
  · rw [if_neg c, if_pos (by omega), if_pos (by omega)]
    exact ⟨Or.inl (by omega), rfl, rfl⟩
theorem X12_likingAt_h {a b : Nat} (ha : a < 1000) (hb : b < 1000) : X12_likingAt 215 (nI a) (nI b) h = some (some (.int (nI (38 + 6 * a + b % 6))), h) := by
  unfold X12_likingAt
  rw [h_ck (by decide), h_ret, show (6 : Int32) = nI 6 from rfl, show (38 : Int32) = nI 38 from rfl, pk_rem (by omega) (by omega) (by omega), pk_mul, nI_add, nI_add]
theorem X12_knowingAt_h {a b : Nat} (ha : a < 1000) (hb : b < 1000) : X12_knowingAt 215 (nI a) (nI b) h = some (some (.int (nI (110 + 6 * a + b % 6))), h) := by
  unfold X12_knowingAt
  rw [h_ck (by decide), h_ret, show (6 : Int32) = nI 6 from rfl, show (110 : Int32) = nI 110 from rfl, pk_rem (by omega) (by omega) (by omega), pk_mul, nI_add, nI_add]
theorem X12_wedTo_h (hk : okC C) (hM : chM I C) (hS : stM I C s) {a : Nat} (ha : k_th C a) : X12_wedTo 215 (nI (k_num C a)) (hp I L ρ) = some (some (.int (oI (s_wed s a))), hp I L ρ) := by
  have h1 := k_num_th ha hk
  have h2 := k_th_lt hk ha
  obtain ⟨⟨b1, b2⟩, -⟩ := id hk
  unfold X12_wedTo
  rw [gr_215_52, rc_215, h_ci (X12_codeOf_h hk hM (by omega)), h1.2, show (14 : Int32) = nI 14 from rfl, nI_add, la_255 (by omega), (hS.2.2 a ha).1]
  rfl
theorem X12_waitedOf_h (hk : okC C) (hM : chM I C) (hS : stM I C s) {a : Nat} (ha : k_th C a) : X12_waitedOf 215 (nI (k_num C a)) (hp I L ρ) = some (some (.int (nI (s_wai s a))), hp I L ρ) := by
  have h1 := k_num_th ha hk
  have h2 := k_th_lt hk ha
  obtain ⟨⟨b1, b2⟩, -⟩ := id hk
  unfold X12_waitedOf
  rw [gr_215_52, rc_215, h_ci (X12_codeOf_h hk hM (by omega)), h1.2, show (26 : Int32) = nI 26 from rfl, nI_add, la_255 (by omega), (hS.2.2 a ha).2.1]
  rfl
theorem X12_areKin_h (hk : okC C) (hM : chM I C) {a b : Nat} (ha : a < 12) (hb : b < 12) (hab : a < 6 ↔ 6 ≤ b) : X12_areKin 215 (nI a) (nI b) (hp I L ρ) = some (some (.int (bI (k_kn C a b))), hp I L ρ) := by
  unfold X12_areKin
  rw [h_if, show (6 : Int32) = nI 6 from rfl]
  simp only [nI_le' (show 6 < 2147483648 by omega) (show a < 2147483648 by omega)]
  by_cases c : 6 ≤ a
  · rw [if_pos c, gr_215_43, h_ck (by decide), show (36 : Int32) = nI 36 from rfl, pk_rem (by omega) (by omega) (by omega), pk_mul, nI_add, nI_add, la_249 (by omega), Nat.add_assoc, hM.2.2.2.2.1 _ (by omega), h_rb (bI01 _), k_kn_sym hk ha hb hab]
    rfl
  · rw [if_neg c, gr_215_43, h_ck (by decide), show (36 : Int32) = nI 36 from rfl, pk_rem (by omega) (by omega) (by omega), pk_mul, nI_add, nI_add, la_249 (by omega), Nat.add_assoc, hM.2.2.2.2.1 _ (by omega), h_rb (bI01 _)]
    rfl
theorem X12_hand0 (hk : okC C) (hM : chM I C) {a : Nat} (ha : k_th C a) : X12_handOf 215 (nI (k_num C a)) 0 (hp I L ρ) = some (some (.int (nI (k_warm C a))), hp I L ρ) := by
  have h1 := k_num_th ha hk
  have h2 := k_th_lt hk ha
  obtain ⟨⟨b1, b2⟩, -⟩ := id hk
  unfold X12_handOf X12_handOf_J20
  rw [h_if, if_neg (by decide), gr_215_42, rc_215, h_ci (X12_codeOf_h hk hM (by omega)), h1.2, show (36 : Int32) = nI 36 from rfl, show (3 : Int32) = nI 3 from rfl, show (0 : Int32) = nI 0 from rfl, pk_mul, nI_add, nI_add, la_248 (by omega), Nat.add_zero, (hM.2.2.2.1 a ha).1]
  rfl
theorem X12_hand1 (hk : okC C) (hM : chM I C) {a : Nat} (ha : k_th C a) : X12_handOf 215 (nI (k_num C a)) 1 (hp I L ρ) = some (some (.int (nI (k_work C a))), hp I L ρ) := by
  have h1 := k_num_th ha hk
  have h2 := k_th_lt hk ha
  obtain ⟨⟨b1, b2⟩, -⟩ := id hk
  unfold X12_handOf X12_handOf_J20
  rw [h_if, if_neg (by decide), gr_215_42, rc_215, h_ci (X12_codeOf_h hk hM (by omega)), h1.2, show (36 : Int32) = nI 36 from rfl, show (3 : Int32) = nI 3 from rfl, show (1 : Int32) = nI 1 from rfl, pk_mul, nI_add, nI_add, la_248 (by omega), (hM.2.2.2.1 a ha).2.1]
  rfl
theorem X12_hand2 (hk : okC C) (hM : chM I C) (hS : stM I C s) {a : Nat} (ha : k_th C a) : X12_handOf 215 (nI (k_num C a)) 2 (hp I L ρ) = some (some (.int (nI (s_siz s a))), hp I L ρ) := by
  have h1 := k_num_th ha hk
  have h2 := k_th_lt hk ha
  obtain ⟨⟨b1, b2⟩, -⟩ := id hk
  have h3 := (hS.2.2 a ha).2.2.2
  unfold X12_handOf X12_handOf_J20
  rw [h_if, if_pos rfl, gi_215, h_if]
  by_cases c : I 215 54 = nI (k_num C a)
  · rw [if_pos c.symm, gi_215]
    rw [if_pos c] at h3
    rw [h3]
    rfl
  · rw [if_neg (fun e => c e.symm), gr_215_42, rc_215, h_ci (X12_codeOf_h hk hM (by omega)), h1.2, show (36 : Int32) = nI 36 from rfl, show (3 : Int32) = nI 3 from rfl, show (2 : Int32) = nI 2 from rfl, pk_mul, nI_add, nI_add, la_248 (by omega)]
    rw [if_neg c] at h3
    rw [h3]
    rfl
theorem X12_asksOf_h (hk : okC C) (hM : chM I C) (hS : stM I C s) {a b : Nat} (ha : k_th C a) (hb : b < 12) : ∃ I', X12_asksOf 215 (nI a) (nI b) (hp I L ρ) = some (none, hp I' L ρ) ∧ (∀ x, x ≠ 215 → I' x = I x) ∧ (∀ k, k ≠ 56 → k ≠ 57 → k ≠ 58 → k ≠ 59 → I' 215 k = I 215 k) ∧ I' 215 56 = nI (k_num C a) ∧ I' 215 57 = nI (k_num C b) ∧ I' 215 58 = nI (s_kno s (6 * a + b % 6)) ∧ I' 215 59 = nI (s_lik s (6 * a + b % 6)) := by
  have h2 := k_th_lt hk ha
  have hc := (hS.2.2 a ha).2.2.1 (b % 6) (by omega)
  unfold X12_asksOf
  rw [rc_215, h_ci (X12_numberOf_h hk hM (by omega)), pi_215]
  have hM1 : chM (u2 I 215 56 (nI (k_num C a))) C := chM_fr (fun x hx => u2r (by omega)) (by rw [u2_ap, if_neg (by omega)]) hM
  rw [rc_215, h_ci (X12_numberOf_h hk hM1 (by omega)), pi_215, gr_215_52, rc_215, h_ci (X12_knowingAt_h (by omega) (by omega)), la_255 (by omega), u2r (show (255 : Nat) ≠ 215 by decide), u2r (show (255 : Nat) ≠ 215 by decide), hc.2, pi_215, gr_215_52, rc_215, h_ci (X12_likingAt_h (by omega) (by omega)), la_255 (by omega), u2r (show (255 : Nat) ≠ 215 by decide), u2r (show (255 : Nat) ≠ 215 by decide), u2r (show (255 : Nat) ≠ 215 by decide), hc.1, pi_215, h_ret]
  refine ⟨_, rfl, fun x hx => ?_, fun k h1 h2 h3 h4 => ?_, ?_, ?_, ?_, ?_⟩
  · rw [u2r hx, u2r hx, u2r hx, u2r hx]
  · rw [u2_ap, if_neg (by omega), u2_ap, if_neg (by omega), u2_ap, if_neg (by omega), u2_ap, if_neg (by omega)]
  · simp [u2_ap]
  · simp [u2_ap]
  · simp [u2_ap]
  · simp [u2_ap]
end B30
