/-! in the midst of a round -/
section B20
variable {C : cT} {s : sT} {tr : Option Nat}
theorem p_done_0 (a : Nat) : p_done C s 0 a = false := by
  unfold p_done
  split
  · simp
  · cases p_hold C s a <;> simp
theorem p_mid_0 : p_mid C s tr 0 = s := by
  unfold p_mid
  simp only [p_done_0]
  rfl
theorem p_none_wed {a : Nat} (h : p_hold C s a = none) : p_wed C s tr a = s_wed s a := by
  unfold p_wed p_new
  rw [h]
theorem p_none_kno {j : Nat} (h : p_hold C s (j / 6) = none) : p_kno C s j = s_kno s j := by
  unfold p_kno
  rw [h]
theorem p_done_6 (hk : okC C) (hS : okS C s) {a b : Nat} (h : p_hold C s a = some b) : p_done C s 6 a = true := by
  have h1 := p_hold_spec hk hS h
  unfold p_done
  split
  · simp; omega
  · rw [h]; simp; omega
theorem p_mid_6 (hk : okC C) (hS : okS C s) : p_mid C s tr 6 = (s.1, s_ord s, p_wed C s tr, s_wai s, s_siz s, s_lik s, p_kno C s) := by
  have e1 : (fun a => if p_done C s 6 a = true then p_wed C s tr a else s_wed s a) = p_wed C s tr := by
    funext a
    cases h : p_hold C s a with
    | none => rw [p_none_wed h]; simp
    | some b => rw [if_pos (p_done_6 hk hS h)]
  have e2 : (fun j => if p_done C s 6 (j / 6) = true then p_kno C s j else s_kno s j) = p_kno C s := by
    funext j
    cases h : p_hold C s (j / 6) with
    | none => rw [p_none_kno h]; simp
    | some b => rw [if_pos (p_done_6 hk hS h)]
  unfold p_mid
  rw [e1, e2]
theorem p_done_self {k : Nat} (hk6 : k < 6) : p_done C s k k = false := by
  unfold p_done
  rw [if_pos hk6]
  simp
theorem p_done_right (hk : okC C) (hS : okS C s) {k r : Nat} (hk6 : k < 6) (h : p_hold C s k = some r) : p_done C s k r = false := by
  have h1 := p_hold_spec hk hS h
  unfold p_done
  rw [if_neg (by omega), h1.2.2.2.2]
  simp
theorem p_done_succ (hk : okC C) (hS : okS C s) {k a : Nat} (hk6 : k < 6) (h1 : a ≠ k) (h2 : p_hold C s k ≠ some a) : p_done C s (k + 1) a = p_done C s k a := by
  unfold p_done
  split
  · have : (a < k + 1) ↔ (a < k) := by omega
    simp only [this]
  · cases h : p_hold C s a with
    | none => rfl
    | some l =>
      have h3 := p_hold_spec hk hS h
      have : l ≠ k := fun e => h2 (by rw [← e]; exact h3.2.2.2.2)
      have : (l < k + 1) ↔ (l < k) := by omega
      simp only [this]
theorem p_done_new (hk : okC C) (hS : okS C s) {k r : Nat} (hk6 : k < 6) (h : p_hold C s k = some r) : p_done C s (k + 1) k = true ∧ p_done C s (k + 1) r = true := by
  have h1 := p_hold_spec hk hS h
  unfold p_done
  constructor
  · rw [if_pos hk6]; simp
  · rw [if_neg (by omega), h1.2.2.2.2]; simp
theorem p_mid_none (hk : okC C) (hS : okS C s) {k : Nat} (hk6 : k < 6) (h : p_hold C s k = none) : p_mid C s tr (k + 1) = p_mid C s tr k := by
  have e1 : (fun a => if p_done C s (k + 1) a = true then p_wed C s tr a else s_wed s a) = fun a => if p_done C s k a = true then p_wed C s tr a else s_wed s a := by
    funext a
    by_cases q : a = k
    · rw [q, p_none_wed h]; simp
    · rw [p_done_succ hk hS hk6 q (by rw [h]; simp)]
  have e2 : (fun j => if p_done C s (k + 1) (j / 6) = true then p_kno C s j else s_kno s j) = fun j => if p_done C s k (j / 6) = true then p_kno C s j else s_kno s j := by
    funext j
    by_cases q : j / 6 = k
    · rw [p_none_kno (by rw [q]; exact h)]; simp
    · rw [p_done_succ hk hS hk6 q (by rw [h]; simp)]
  unfold p_mid
  rw [e1, e2]
theorem p_fresh_none {k : Nat} (h : p_hold C s k = none) : p_fresh C s tr (k + 1) = p_fresh C s tr k := by
  have : p_new C s tr k = none := by unfold p_new; rw [h]
  rw [p_fresh, if_pos this]
theorem p_new_some {a b : Nat} (h : p_hold C s a = some b) : p_new C s tr a = if p_let C s tr a b = false ∧ p_let C s tr b a = false ∧ k_kn C a b = false then some b else none := by
  unfold p_new
  rw [h]
theorem k_kn_sym (hk : okC C) {a b : Nat} (ha : a < 12) (hb : b < 12) (h : a < 6 ↔ 6 ≤ b) : k_kn C a b = k_kn C b a := by
  by_cases q : a < 6
  · exact hk.2.2.2.2.1 a b q (by omega) hb
  · exact (hk.2.2.2.2.1 b a (by omega) (by omega) ha).symm
theorem p_mid_kno (hk : okC C) (hS : okS C s) {k r : Nat} (hk6 : k < 6) (h : p_hold C s k = some r) : (fun j => if p_done C s (k + 1) (j / 6) = true then p_kno C s j else s_kno s j) = fun i => if i = 6 * r + k % 6 then p_learn C s r k else if i = 6 * k + r % 6 then p_learn C s k r else (if p_done C s k (i / 6) = true then p_kno C s i else s_kno s i) := by
  have h1 := p_hold_spec hk hS h
  have hn := p_done_new hk hS hk6 h
  funext i
  by_cases q1 : i / 6 = k
  · have lhs : p_kno C s i = if r % 6 = i % 6 then p_learn C s k r else s_kno s i := by
      unfold p_kno
      rw [q1, h]
    rw [q1, hn.1, p_done_self hk6, if_pos rfl, if_neg (show ¬ false = true by simp), lhs]
    by_cases q2 : r % 6 = i % 6
    · rw [if_pos q2, if_neg (show ¬ i = 6 * r + k % 6 by omega), if_pos (show i = 6 * k + r % 6 by omega)]
    · rw [if_neg q2, if_neg (show ¬ i = 6 * r + k % 6 by omega), if_neg (show ¬ i = 6 * k + r % 6 by omega)]
  · by_cases q3 : i / 6 = r
    · have lhs : p_kno C s i = if k % 6 = i % 6 then p_learn C s r k else s_kno s i := by
        unfold p_kno
        rw [q3, h1.2.2.2.2]
      rw [q3, hn.2, p_done_right hk hS hk6 h, if_pos rfl, if_neg (show ¬ false = true by simp), lhs]
      by_cases q2 : k % 6 = i % 6
      · rw [if_pos q2, if_pos (show i = 6 * r + k % 6 by omega)]
      · rw [if_neg q2, if_neg (show ¬ i = 6 * r + k % 6 by omega), if_neg (show ¬ i = 6 * k + r % 6 by omega)]
    · rw [p_done_succ hk hS hk6 q1 (fun e => q3 (by rw [h] at e; cases e; rfl)), if_neg (show ¬ i = 6 * r + k % 6 by omega), if_neg (show ¬ i = 6 * k + r % 6 by omega)]
theorem p_mid_wed (hk : okC C) (hS : okS C s) {k r : Nat} (hk6 : k < 6) (h : p_hold C s k = some r) : (fun a => if p_done C s (k + 1) a = true then p_wed C s tr a else s_wed s a) = if p_new C s tr k = none then (fun a => if p_done C s k a = true then p_wed C s tr a else s_wed s a) else fun i => if i = r then some k else if i = k then some r else (if p_done C s k i = true then p_wed C s tr i else s_wed s i) := by
  have h1 := p_hold_spec hk hS h
  have hn := p_done_new hk hS hk6 h
  have e1 := p_new_some (tr := tr) h
  have e2 := p_new_some (tr := tr) h1.2.2.2.2
  have e3 := k_kn_sym hk h1.2.1.1 h1.2.1.2 h1.2.2.1
  have ew : ∀ a, p_wed C s tr a = (match p_new C s tr a with | some b => some b | none => s_wed s a) := fun a => rfl
  by_cases c : p_let C s tr k r = false ∧ p_let C s tr r k = false ∧ k_kn C k r = false
  · rw [if_pos c] at e1
    rw [if_pos ⟨c.2.1, c.1, by rw [← e3]; exact c.2.2⟩] at e2
    rw [e1, if_neg (by simp)]
    funext a
    by_cases q1 : a = r
    · rw [q1, if_pos hn.2, if_pos rfl, ew, e2]
    · by_cases q2 : a = k
      · rw [q2, if_pos hn.1, if_neg (by omega), if_pos rfl, ew, e1]
      · rw [if_neg q1, if_neg q2, p_done_succ hk hS hk6 q2 (fun e => q1 (by rw [h] at e; cases e; rfl))]
  · rw [if_neg c] at e1
    rw [if_neg (fun c2 => c ⟨c2.2.1, c2.1, by rw [e3]; exact c2.2.2⟩)] at e2
    rw [if_pos e1]
    funext a
    by_cases q1 : a = r
    · rw [q1, hn.2, p_done_right hk hS hk6 h, ew, e2]
      simp
    · by_cases q2 : a = k
      · rw [q2, hn.1, p_done_self hk6, ew, e1]
        simp
      · rw [p_done_succ hk hS hk6 q2 (fun e => q1 (by rw [h] at e; cases e; rfl))]
theorem p_mid_some (hk : okC C) (hS : okS C s) {k r : Nat} (hk6 : k < 6) (h : p_hold C s k = some r) : p_mid C s tr (k + 1) = if p_new C s tr k = none then sK (sK (p_mid C s tr k) (6 * k + r % 6) (p_learn C s k r)) (6 * r + k % 6) (p_learn C s r k) else sW (sW (sK (sK (p_mid C s tr k) (6 * k + r % 6) (p_learn C s k r)) (6 * r + k % 6) (p_learn C s r k)) k (some r)) r (some k) := by
  have e : p_mid C s tr (k + 1) = (s.1, s_ord s, (fun a => if p_done C s (k + 1) a = true then p_wed C s tr a else s_wed s a), s_wai s, s_siz s, s_lik s, fun j => if p_done C s (k + 1) (j / 6) = true then p_kno C s j else s_kno s j) := rfl
  rw [e, p_mid_kno hk hS hk6 h, p_mid_wed hk hS hk6 h]
  by_cases c : p_new C s tr k = none
  · rw [if_pos c, if_pos c]
    rfl
  · rw [if_neg c, if_neg c]
    rfl
theorem bnS_K {s : sT} (hB : bnS s) (j : Nat) {v : Nat} (hv : v ≤ 9) : bnS (sK s j v) := by
  refine ⟨hB.1, hB.2.1, fun i hi => ⟨(hB.2.2 i hi).1, ?_⟩⟩
  show (if i = j then v else s_kno s i) ≤ 9
  split
  · exact hv
  · exact (hB.2.2 i hi).2
theorem p_kno_le (hB : bnS s) {j : Nat} (hj : j < 72) : p_kno C s j ≤ 9 := by
  unfold p_kno
  have h := (hB.2.2 j hj).2
  split
  · split
    · exact p_learn_le _ _
    · exact h
  · exact h
theorem p_mid_bn (hB : bnS s) (k : Nat) : bnS (p_mid C s tr k) := by
  refine ⟨hB.1, hB.2.1, fun i hi => ⟨(hB.2.2 i hi).1, ?_⟩⟩
  show (if p_done C s k (i / 6) = true then p_kno C s i else s_kno s i) ≤ 9
  split
  · exact p_kno_le hB hi
  · exact (hB.2.2 i hi).2
theorem stX_K {b : Nat} {I : Nat → Nat → Int32} {s : sT} (h : stX b I s) {j v : Nat} : stX b (u2 I (b + 6) j (nI v)) (sK s j v) := by
  obtain ⟨h1, h2, h3, h4, h5, h6, h7⟩ := h
  refine ⟨?_, ?_, ?_, ?_, ?_, ?_, fun i hi => ?_⟩
  · rw [u2r (by omega)]; exact h1
  · rw [u2r (by omega)]; exact h2
  · rw [u2r (by omega)]; exact h3
  · rw [u2r (by omega)]; exact h4
  · rw [u2r (by omega)]; exact h5
  · rw [u2r (by omega)]; exact h6
  · rw [u2_ap]
    show _ = nI (if i = j then v else s_kno s i)
    by_cases q : i = j
    · rw [if_pos ⟨rfl, q⟩, if_pos q]
    · rw [if_neg (fun c => q c.2), if_neg q, h7 i hi]
theorem stX_W {b : Nat} {I : Nat → Nat → Int32} {s : sT} (h : stX b I s) {a : Nat} {v : Option Nat} : stX b (u2 I (b + 2) a (oI v)) (sW s a v) := by
  obtain ⟨h1, h2, h3, h4, h5, h6, h7⟩ := h
  refine ⟨?_, ?_, fun i hi => ?_, ?_, ?_, ?_, ?_⟩
  · rw [u2r (by omega)]; exact h1
  · rw [u2r (by omega)]; exact h2
  · rw [u2_ap]
    show _ = oI (if i = a then v else s_wed s i)
    by_cases q : i = a
    · rw [if_pos ⟨rfl, q⟩, if_pos q]
    · rw [if_neg (fun c => q c.2), if_neg q, h3 i hi]
  · rw [u2r (by omega)]; exact h4
  · rw [u2r (by omega)]; exact h5
  · rw [u2r (by omega)]; exact h6
  · rw [u2r (by omega)]; exact h7
end B20
