/-! image: the bytes of it, the byte of check; a church in itself -/
section B5q
variable {I I0 : Nat → Nat → Int32} {L L0 : Nat → Nat → Int64} {ρ : zRh} {h : zH} {A : aT} {N : Nat} {C : cT} {s : sT}
/-- the church that is, without the rest -/
def cwX (I : Nat → Nat → Int32) (ρ : zRh) (C : cT) : Prop := (ρ.1 = 13 ∨ ρ.1 = 27) ∧ chX ρ.1 I C
theorem cwX_of (hX : RelX I L ρ A N) : cwX I ρ (a_C A) := ⟨cu_ρ hX, cu_ch hX⟩
theorem cwX_fr {I' : Nat → Nat → Int32} (h : ∀ a, 13 ≤ a → a ≤ 39 → I' a = I a) (hw : cwX I ρ C) : cwX I' ρ C := ⟨hw.1, chX_fr (fun a q1 q2 => h a (by rcases hw.1 with e | e <;> omega) (by rcases hw.1 with e | e <;> omega)) hw.2⟩
theorem YC_people (hw : cwX I ρ C) (hk : okC C) : X1_people ρ.1 (hp I L ρ) = some (some (.int (nI (k_L C + k_R C))), hp I L ρ) := by
  obtain ⟨e | e, hC⟩ := hw
  · rw [e] at hC ⊢; exact X1_people_13 hC hk
  · rw [e] at hC ⊢; exact X1_people_27 hC hk
theorem YC_slot (hw : cwX I ρ C) (hk : okC C) (v : Int32) : X1_slot ρ.1 v (hp I L ρ) = some (some (.int (oI (k_sl C v))), hp I L ρ) := by
  obtain ⟨e | e, hC⟩ := hw
  · rw [e] at hC ⊢; exact X1_slot_13 hC hk v
  · rw [e] at hC ⊢; exact X1_slot_27 hC hk v
theorem YC_number (hw : cwX I ρ C) (hk : okC C) {o : Option Nat} (ho : ∀ a, o = some a → a < 12) : X1_number ρ.1 (oI o) (hp I L ρ) = some (some (.int (oI (o.map (k_num C)))), hp I L ρ) := by
  obtain ⟨e | e, hC⟩ := hw
  · rw [e] at hC ⊢; exact X1_number_13 hC hk ho
  · rw [e] at hC ⊢; exact X1_number_27 hC hk ho
theorem YC_isThere (hw : cwX I ρ C) (hk : okC C) {a : Nat} (ha : a < 12) : X1_isThere ρ.1 (nI a) (hp I L ρ) = some (some (.int (bI (decide (k_th C a)))), hp I L ρ) := by
  obtain ⟨e | e, hC⟩ := hw
  · rw [e] at hC ⊢; exact X1_isThere_13 hC hk ha
  · rw [e] at hC ⊢; exact X1_isThere_27 hC hk ha
theorem YC_areKin (hw : cwX I ρ C) {a b : Nat} (ha : a < 12) (hb : b < 12) : X1_areKin ρ.1 (nI a) (nI b) (hp I L ρ) = some (some (.int (bI (k_kn C a b))), hp I L ρ) := by
  obtain ⟨e | e, hC⟩ := hw
  · rw [e] at hC ⊢; exact X1_areKin_13 hC ha hb
  · rw [e] at hC ⊢; exact X1_areKin_27 hC ha hb
theorem k_sl_nI {p : Nat} (h : p < 1000) : k_sl C (nI p) = k_slot C p := by
  unfold k_sl
  rw [if_neg (nI_pos (by omega)), nI_clamp (by omega)]
theorem k_sl_cd (hk : okC C) {p : Nat} (h : p < k_L C + k_R C) : k_sl C (nI p) = some (k_cd C p) := by
  have := hk.1
  rw [k_sl_nI (by omega), (k_slot_some hk).1 h]
theorem YC_across (hw : cwX I ρ C) (hk : okC C) {o : Option Nat} (ho : ∀ a, o = some a → a < 12) (v : Int32) : X1_across ρ.1 (oI o) v (hp I L ρ) = some (some (.int (oI (match o, k_sl C v with | some a, some b => if (a < 6 ↔ b < 6) then none else some b | _, _ => none))), hp I L ρ) := by
  obtain ⟨e | e, hC⟩ := hw
  · rw [e] at hC ⊢; exact X1_across_13 hC hk ho v
  · rw [e] at hC ⊢; exact X1_across_27 hC hk ho v
theorem YC_side (hw : cwX I ρ C) (hk : okC C) {j : Nat} (hj : j < 2) {F : Int32 → zM} : z_la 20 (ρ.1 + 1) (nI j) F (hp I L ρ) = F (nI (k_n C j)) (hp I L ρ) := by
  rw [lac_1 hw.1 hj]
  have hc : j = 0 ∨ j = 1 := by omega
  rcases hc with rfl | rfl
  · rw [hw.2.1.1]; rfl
  · rw [hw.2.1.2]; rfl
/-! the byte of check -/
def ck (g : Nat → Nat) : Nat → Nat
  | 0 => 163
  | i + 1 => (3 * ck g i + g i) % 251
theorem ck_lt (g : Nat → Nat) : ∀ i, ck g i < 251
  | 0 => by show 163 < 251; omega
  | i + 1 => Nat.mod_lt _ (by omega)
theorem ck_eq {g f : Nat → Nat} : ∀ n, (∀ i, i < n → g i = f i) → ck g n = ck f n
  | 0, _ => rfl
  | n + 1, h => by
    show (3 * ck g n + g n) % 251 = (3 * ck f n + f n) % 251
    rw [ck_eq n (fun i hi => h i (by omega)), h n (by omega)]
theorem X8_check_lp {a n z : Nat} {g : Nat → Nat} (ha : a < 297) (hk : zK a = (20, z)) (hz : z < 100000) (hn : n ≤ z) (hg : ∀ i, i < n → g i < 256 ∧ I a i = nI (g i)) : ∀ (m i fuel : Nat), i + m = n → m < fuel → z_fix (fun r x => X8_checkByte_B6 a (nI n) r x.1 x.2) fuel (nI (ck g i), nI i) (hp I L ρ) = some (some (.int (nI (ck g n))), hp I L ρ) := by
  intro m
  induction m with
  | zero =>
    intro i fuel h1 h2
    obtain ⟨f, rfl⟩ : ∃ f, fuel = f + 1 := ⟨fuel - 1, by omega⟩
    obtain rfl : i = n := by omega
    rw [h_fix]
    show X8_checkByte_B6 a (nI i) _ (nI (ck g i)) (nI i) (hp I L ρ) = _
    unfold X8_checkByte_B6
    rw [h_if, if_pos (nI_le (by omega) (by omega))]; rfl
  | succ m ih =>
    intro i fuel h1 h2
    obtain ⟨f, rfl⟩ : ∃ f, fuel = f + 1 := ⟨fuel - 1, by omega⟩
    have hi := ih (i + 1) f (by omega) (by omega)
    have hc := ck_lt g i
    obtain ⟨g1, g2⟩ := hg i (by omega)
    rw [h_fix, ← hi]
    show X8_checkByte_B6 a (nI n) _ (nI (ck g i)) (nI i) (hp I L ρ) = _
    unfold X8_checkByte_B6
    rw [h_if, if_neg (nI_ge (by omega) (by omega)), h_len ha (by rw [hk]; show 20 ≤ 20; omega) (by rw [hk]; show 20 < 25; omega), hk, h_if, if_neg (nI_ge (by show i < z; omega) (by show z < _; omega)), h_la ha (by rw [hk]) (by rw [hk]; show i < z; omega) (by rw [hk]; show z < _; omega), g2, h_ck (by decide), show (3 : Int32) = nI 3 from rfl, show (251 : Int32) = nI 251 from rfl, pk_mul, nI_add, pk_rem (by omega) (by omega) (by omega), nI_1]; rfl
theorem X8_check_h {a n z : Nat} {g : Nat → Nat} (ha : a < 297) (hk : zK a = (20, z)) (hz : z < 100000) (hn : n ≤ z) (hg : ∀ i, i < n → g i < 256 ∧ I a i = nI (g i)) : X8_checkByte a (nI n) (hp I L ρ) = some (some (.int (nI (ck g n))), hp I L ρ) := X8_check_lp ha hk hz hn hg n 0 zFU (by omega) (by unfold zFU; omega)
theorem X12_check_lp {a n z : Nat} {g : Nat → Nat} (ha : a < 297) (hk : zK a = (20, z)) (hz : z < 100000) (hn : n ≤ z) (hg : ∀ i, i < n → g i < 256 ∧ I a i = nI (g i)) : ∀ (m i fuel : Nat), i + m = n → m < fuel → z_fix (fun r x => X12_checked_B6 a (nI n) r x.1 x.2) fuel (nI (ck g i), nI i) (hp I L ρ) = some (some (.int (nI (ck g n))), hp I L ρ) := by
  intro m
  induction m with
  | zero =>
    intro i fuel h1 h2
    obtain ⟨f, rfl⟩ : ∃ f, fuel = f + 1 := ⟨fuel - 1, by omega⟩
    obtain rfl : i = n := by omega
    rw [h_fix]
    show X12_checked_B6 a (nI i) _ (nI (ck g i)) (nI i) (hp I L ρ) = _
    unfold X12_checked_B6
    rw [h_if, if_pos (nI_le (by omega) (by omega))]; rfl
  | succ m ih =>
    intro i fuel h1 h2
    obtain ⟨f, rfl⟩ : ∃ f, fuel = f + 1 := ⟨fuel - 1, by omega⟩
    have hi := ih (i + 1) f (by omega) (by omega)
    have hc := ck_lt g i
    obtain ⟨g1, g2⟩ := hg i (by omega)
    rw [h_fix, ← hi]
    show X12_checked_B6 a (nI n) _ (nI (ck g i)) (nI i) (hp I L ρ) = _
    unfold X12_checked_B6
    rw [h_if, if_neg (nI_ge (by omega) (by omega)), h_la ha (by rw [hk]) (by rw [hk]; show i < z; omega) (by rw [hk]; show z < _; omega), g2, h_ck (by decide), show (3 : Int32) = nI 3 from rfl, show (251 : Int32) = nI 251 from rfl, pk_mul, nI_add, pk_rem (by omega) (by omega) (by omega), nI_1]; rfl
theorem X12_check_h {a n z : Nat} {g : Nat → Nat} (ha : a < 297) (hk : zK a = (20, z)) (hz : z < 100000) (hn : n ≤ z) (hg : ∀ i, i < n → g i < 256 ∧ I a i = nI (g i)) : X12_checked a (nI n) (hp I L ρ) = some (some (.int (nI (ck g n))), hp I L ρ) := X12_check_lp ha hk hz hn hg n 0 zFU (by omega) (by unfold zFU; omega)
/-! the bytes -/
def im_h (s : sT) : List Nat := [s_sp s / 256, s_sp s % 256, s_rd s]
def im_o (C : cT) (s : sT) : Nat → Nat → List Nat → List Nat
  | 0, _, acc => acc
  | m + 1, p, acc => im_o C s m (p + 1) (acc ++ [k_num C (s_ord s (k_cd C p))])
def im_w (C : cT) (s : sT) (a : Nat) : Nat := match s_wed s a with | none => 255 | some b => k_num C b
def im_k (s : sT) (a : Nat) : Nat → Nat → List Nat → List Nat
  | 0, _, acc => acc
  | m + 1, k, acc => im_k s a m (k + 1) (acc ++ [s_lik s (6 * a + k)] ++ [s_kno s (6 * a + k)])
/-- how many there are across from one -/
def k_ot (C : cT) (a : Nat) : Nat := if a < 6 then k_R C else k_L C
def im_1 (C : cT) (s : sT) (a : Nat) (acc : List Nat) : List Nat := im_k s a (k_ot C a) 0 (acc ++ [im_w C s a] ++ [s_wai s a])
def im_p (C : cT) (s : sT) : Nat → Nat → List Nat → List Nat
  | 0, _, acc => acc
  | m + 1, p, acc => im_p C s m (p + 1) (im_1 C s (k_cd C p) acc)
def im_b (C : cT) (s : sT) : List Nat := im_p C s (k_L C + k_R C) 0 (im_o C s (k_L C + k_R C) 0 (im_h s))
def gD (l : List Nat) (i : Nat) : Nat := l.getD i 0
def im_all (C : cT) (s : sT) : List Nat := im_b C s ++ [ck (gD (im_b C s)) (im_b C s).length]
theorem im_o_add {C : cT} {s : sT} : ∀ m n p acc, im_o C s (m + n) p acc = im_o C s n (p + m) (im_o C s m p acc)
  | 0, n, p, acc => by rw [Nat.zero_add]; rfl
  | m + 1, n, p, acc => by
    rw [show m + 1 + n = (m + n) + 1 by omega]
    show im_o C s (m + n) (p + 1) _ = im_o C s n (p + (m + 1)) (im_o C s m (p + 1) _)
    rw [im_o_add m n (p + 1), show p + 1 + m = p + (m + 1) by omega]
theorem im_o_len {C : cT} {s : sT} : ∀ m p acc, (im_o C s m p acc).length = acc.length + m
  | 0, _, _ => rfl
  | m + 1, p, acc => by
    show (im_o C s m (p + 1) _).length = _
    rw [im_o_len m, List.length_append]
    show acc.length + 1 + m = _
    omega
theorem im_k_len {s : sT} {a : Nat} : ∀ m k acc, (im_k s a m k acc).length = acc.length + 2 * m
  | 0, _, _ => rfl
  | m + 1, k, acc => by
    show (im_k s a m (k + 1) _).length = _
    rw [im_k_len m, List.length_append, List.length_append]
    show acc.length + 1 + 1 + 2 * m = _
    omega
theorem im_1_len {C : cT} {s : sT} {a : Nat} {acc : List Nat} : (im_1 C s a acc).length = acc.length + (2 + 2 * k_ot C a) := by
  unfold im_1
  rw [im_k_len, List.length_append, List.length_append]
  show acc.length + 1 + 1 + 2 * _ = _
  omega
/-- where one is told of, behind the orders -/
def im_at (C : cT) : Nat → Nat
  | 0 => 0
  | p + 1 => im_at C p + (2 + 2 * k_ot C (k_cd C p))
theorem im_p_len {C : cT} {s : sT} : ∀ m p acc, (im_p C s m p acc).length + im_at C p = acc.length + im_at C (p + m)
  | 0, _, _ => rfl
  | m + 1, p, acc => by
    have h := im_p_len (C := C) (s := s) m (p + 1) (im_1 C s (k_cd C p) acc)
    rw [im_1_len] at h
    show (im_p C s m (p + 1) _).length + im_at C p = _
    rw [show p + (m + 1) = p + 1 + m by omega]
    have e : im_at C (p + 1) = im_at C p + (2 + 2 * k_ot C (k_cd C p)) := rfl
    omega
theorem k_cd_6 {p : Nat} (hk : okC C) : (p < k_L C → k_cd C p = p ∧ k_ot C (k_cd C p) = k_R C) ∧ (k_L C ≤ p → k_cd C p = 6 + p - k_L C ∧ k_ot C (k_cd C p) = k_L C) := by
  have h12 := hk.1
  refine ⟨fun h => ?_, fun h => ?_⟩
  · have e : k_cd C p = p := by unfold k_cd; rw [if_neg (by omega)]
    rw [e]
    exact ⟨rfl, by unfold k_ot; rw [if_pos (by omega)]⟩
  · have e : k_cd C p = 6 + p - k_L C := by unfold k_cd; rw [if_pos h]
    rw [e]
    exact ⟨rfl, by unfold k_ot; rw [if_neg (by omega)]⟩
theorem im_at_L (hk : okC C) : ∀ p, p ≤ k_L C → im_at C p = 2 * p + 2 * (p * k_R C)
  | 0, _ => by simp [im_at]
  | p + 1, h => by
    show im_at C p + (2 + 2 * k_ot C (k_cd C p)) = _
    have e : (p + 1) * k_R C = p * k_R C + k_R C := Nat.succ_mul _ _
    rw [im_at_L hk p (by omega), ((k_cd_6 hk).1 (by omega)).2]
    omega
theorem im_at_R (hk : okC C) : ∀ q, im_at C (k_L C + q) = 2 * (k_L C + q) + 2 * (k_L C * k_R C) + 2 * (q * k_L C)
  | 0 => by rw [Nat.add_zero, im_at_L hk _ (Nat.le_refl _), Nat.zero_mul, Nat.mul_zero, Nat.add_zero]
  | q + 1 => by
    show im_at C (k_L C + q) + (2 + 2 * k_ot C (k_cd C (k_L C + q))) = _
    have e : (q + 1) * k_L C = q * k_L C + k_L C := Nat.succ_mul _ _
    rw [im_at_R hk q, ((k_cd_6 hk).2 (by omega)).2]
    omega
theorem im_at_all (hk : okC C) : im_at C (k_L C + k_R C) = 2 * (k_L C + k_R C) + 4 * (k_L C * k_R C) := by
  rw [im_at_R hk, Nat.mul_comm (k_R C)]
  omega
theorem k_LR (hk : okC C) : k_L C * k_R C ≤ 36 := Nat.mul_le_mul hk.1.1 hk.1.2
theorem im_b_len (hk : okC C) : (im_b C s).length = 3 + 3 * (k_L C + k_R C) + 4 * (k_L C * k_R C) ∧ (im_b C s).length ≤ 183 := by
  have h := im_p_len (C := C) (s := s) (k_L C + k_R C) 0 (im_o C s (k_L C + k_R C) 0 (im_h s))
  have h2 : (im_b C s).length + im_at C 0 = _ := h
  rw [im_o_len, Nat.zero_add, im_at_all hk] at h2
  have e : (im_h s).length = 3 := rfl
  have e0 : im_at C 0 = 0 := rfl
  have := k_LR hk
  have := hk.1
  omega
/-- all are bytes -/
def byL (l : List Nat) : Prop := ∀ b ∈ l, b < 256
theorem byL_add {l : List Nat} {b : Nat} (h : byL l) (hb : b < 256) : byL (l ++ [b]) := by
  intro x hx
  rw [List.mem_append] at hx
  rcases hx with hx | hx
  · exact h x hx
  · have e : x = b := by simpa using hx
    rw [e]; exact hb
theorem byL_at {l : List Nat} (h : byL l) (i : Nat) : gD l i < 256 := by
  unfold gD
  rw [List.getD_eq_getElem?_getD]
  rcases q : l[i]? with _ | x
  · show 0 < 256; omega
  · exact h x (List.mem_of_getElem? q)
theorem k_num_lt (hk : okC C) {a : Nat} (ha : a < 12) : k_num C a < 12 := by
  have := hk.1
  unfold k_num
  split <;> omega
/-- what has been written -/
def wrL (c : Nat) (I : Nat → Nat → Int32) (l : List Nat) : Prop := ∀ i, i < l.length → I c i = nI (gD l i)
theorem wrL_add {c : Nat} {l : List Nat} {b : Nat} (h : wrL c I l) : wrL c (u2 I c l.length (nI b)) (l ++ [b]) := by
  intro i hi
  rw [List.length_append] at hi
  have hi2 : i < l.length + 1 := hi
  unfold gD
  rw [u2_ap]
  by_cases e : i = l.length
  · rw [if_pos ⟨rfl, e⟩, e, List.getD_eq_getElem?_getD, List.getElem?_append_right (Nat.le_refl _), Nat.sub_self]; rfl
  · rw [if_neg (by omega), List.getD_eq_getElem?_getD, List.getElem?_append_left (by omega), ← List.getD_eq_getElem?_getD]
    exact h i (by omega)
end B5q
