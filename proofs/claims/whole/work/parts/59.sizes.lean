/-! sizes: the class -/
section B59
variable {I I0 : Nat → Nat → Int32} {L L0 : Nat → Nat → Int64} {ρ : zRh} {h : zH} {A : aT} {N : Nat} {C : cT} {s : sT} {tr : Option Nat}
abbrev vT : Type := List (Nat × Nat × Nat)
def v_at (V : vT) (i : Nat) : Nat × Nat × Nat := V.getD i (0, 0, 0)
theorem v_get (V : vT) {i : Nat} (hi : i < V.length) : V[i]? = some (v_at V i) := by
  unfold v_at
  rw [List.getD_eq_getElem?_getD, List.getElem?_eq_getElem hi]; rfl
/-- the last round that rows tell of -/
def v_mx (V : vT) : Nat → Nat
  | 0 => 0
  | i + 1 => if v_mx V i < (v_at V i).1 then (v_at V i).1 else v_mx V i
theorem v_mx_ge (V : vT) : ∀ {k i}, i < k → (v_at V i).1 ≤ v_mx V k
  | 0, i, h => by omega
  | k + 1, i, h => by
    show _ ≤ (if v_mx V k < (v_at V k).1 then (v_at V k).1 else v_mx V k)
    by_cases c : i = k
    · rw [c]; split <;> omega
    · have := v_mx_ge V (show i < k by omega)
      split <;> omega
theorem v_mx_at (V : vT) : ∀ k, v_mx V k = 0 ∨ ∃ i, i < k ∧ (v_at V i).1 = v_mx V k
  | 0 => Or.inl rfl
  | k + 1 => by
    show (if v_mx V k < (v_at V k).1 then (v_at V k).1 else v_mx V k) = 0 ∨ ∃ i, i < k + 1 ∧ (v_at V i).1 = (if v_mx V k < (v_at V k).1 then (v_at V k).1 else v_mx V k)
    by_cases c : v_mx V k < (v_at V k).1
    · rw [if_pos c]; exact Or.inr ⟨k, by omega, rfl⟩
    · rw [if_neg c]
      rcases v_mx_at V k with h | ⟨i, h1, h2⟩
      · exact Or.inl h
      · exact Or.inr ⟨i, by omega, h2⟩
def v_row (s : sT) (q : Nat × Nat × Nat) : Bool := decide (s_wed s q.2.1 ≠ none ↔ q.2.2 = 1)
/-- m rows from i on are so, where they tell of round n -/
def v_rows (s : sT) (V : vT) (n : Nat) : Nat → Nat → Bool
  | 0, _ => true
  | m + 1, i => (decide ((v_at V i).1 ≠ n) || v_row s (v_at V i)) && v_rows s V n m (i + 1)
def v_all (C : cT) (s : sT) (V : vT) : Nat → Nat → Bool
  | 0, n => v_rows (p_gos C n s) V n V.length 0
  | m + 1, n => v_rows (p_gos C n s) V n V.length 0 && v_all C s V m (n + 1)
def sSz (s : sT) (a z : Nat) : sT := (s.1, s_ord s, s_wed s, s_wai s, (fun i => if i = a then z else s_siz s i), s_lik s, s_kno s)
theorem okS_Sz (hS : okS C s) {a z : Nat} (hz : z ≤ 9) : okS C (sSz s a z) := by
  obtain ⟨h1, h2, h3, h4, h5, h6⟩ := hS
  refine ⟨h1, h2, h3, h4, fun i hi => ⟨(h5 i hi).1, ?_⟩, h6⟩
  show (if i = a then z else s_siz s i) ≤ 9
  split
  · exact hz
  · exact (h5 i hi).2
theorem stX_Sz {b : Nat} {I : Nat → Nat → Int32} {s : sT} (h : stX b I s) {a z : Nat} : stX b (u2 I (b + 4) a (nI z)) (sSz s a z) := by
  obtain ⟨h1, h2, h3, h4, h5, h6, h7⟩ := h
  refine ⟨?_, ?_, ?_, ?_, fun i hi => ?_, ?_, ?_⟩
  · rw [u2r (show b ≠ b + 4 by omega)]; exact h1
  · rw [u2r (show b + 1 ≠ b + 4 by omega)]; exact h2
  · rw [u2r (show b + 2 ≠ b + 4 by omega)]; exact h3
  · rw [u2r (show b + 3 ≠ b + 4 by omega)]; exact h4
  · rw [u2_ap]
    show _ = nI (if i = a then z else s_siz s i)
    by_cases c : i = a
    · rw [if_pos ⟨rfl, c⟩, if_pos c]
    · rw [if_neg (fun q => c q.2), if_neg c]; exact h5 i hi
  · rw [u2r (show b + 5 ≠ b + 4 by omega)]; exact h6
  · rw [u2r (show b + 6 ≠ b + 4 by omega)]; exact h7
def vX (I : Nat → Nat → Int32) (V : vT) : Prop := ∀ i, i < V.length → I 212 (3 * i) = nI (v_at V i).1 ∧ I 212 (3 * i + 1) = nI (v_at V i).2.1 ∧ I 212 (3 * i + 2) = nI (v_at V i).2.2
theorem vX_of (hX : RelX I L ρ A N) : vX I (a_V A) := fun i hi => hX.2.2.2.2.1.2 i _ (v_get (a_V A) hi)
def okV (C : cT) (V : vT) : Prop := V.length ≤ 16 ∧ ∀ i, i < V.length → (v_at V i).1 ≤ 30 ∧ k_th C (v_at V i).2.1 ∧ (v_at V i).2.2 ≤ 1
theorem okV_of (hok : okA A) : okV (a_C A) (a_V A) := ⟨hok.2.2.2.2.2.1.1, fun i hi => hok.2.2.2.2.2.1.2 _ (List.mem_of_getElem? (v_get (a_V A) hi))⟩
theorem X0_rows_lp {V : vT} (hk : okC C) (hS : okS C s) (hV : okV C V) (hvX : vX I V) (hs : stX 54 I s) {n last : Nat} (hl : n ≤ last ∧ last ≤ 30) {r3 : Int32 → zM} : ∀ (m i fuel : Nat), i + m = V.length → m < fuel → z_fix (fun r x => X0_isAsSeen_B12 r3 53 212 (nI V.length) (nI last) (nI n) r x) fuel (nI i) (hp I L ρ) = (if v_rows s V n m i = true then X0_isAsSeen_J86 r3 53 212 (nI V.length) (nI last) (nI n) (hp I L ρ) else some (some (.int 0), hp I L ρ)) := by
  have hV1 := hV.1
  intro m
  induction m with
  | zero =>
    intro i fuel h1 h2
    obtain ⟨f, rfl⟩ : ∃ f, fuel = f + 1 := ⟨fuel - 1, by omega⟩
    rw [h_fix]
    show X0_isAsSeen_B12 r3 53 212 (nI V.length) (nI last) (nI n) _ (nI i) (hp I L ρ) = _
    unfold X0_isAsSeen_B12
    rw [h_if, if_pos (nI_le (by omega) (by omega)), if_pos (show v_rows s V n 0 i = true from rfl)]
  | succ m ih =>
    intro i fuel h1 h2
    obtain ⟨f, rfl⟩ : ∃ f, fuel = f + 1 := ⟨fuel - 1, by omega⟩
    obtain ⟨v1, v2, v3⟩ := hV.2 i (by omega)
    obtain ⟨x1, x2, x3⟩ := hvX i (by omega)
    have hq12 := k_th_lt hk v2
    have hi := ih (i + 1) f (by omega) (by omega)
    rw [h_fix]
    generalize hg : z_fix (fun r x => X0_isAsSeen_B12 r3 53 212 (nI V.length) (nI last) (nI n) r x) f = rec at hi
    show X0_isAsSeen_B12 r3 53 212 (nI V.length) (nI last) (nI n) rec (nI i) (hp I L ρ) = (if ((decide ((v_at V i).1 ≠ n) || v_row s (v_at V i)) && v_rows s V n m (i + 1)) = true then _ else _)
    have j43 : ∀ w : Bool, X0_isAsSeen_J43 r3 rec 53 212 (nI V.length) (nI last) (nI n) (nI i) (bI w) (hp I L ρ) = (if (v_at V i).1 = n then (if (w = true ↔ (v_at V i).2.2 = 1) then rec (nI (i + 1)) (hp I L ρ) else some (some (.int 0), hp I L ρ)) else rec (nI (i + 1)) (hp I L ρ)) := by
      intro w
      unfold X0_isAsSeen_J43 X0_isAsSeen_J75 X0_isAsSeen_J80
      rw [show (3 : Int32) = nI 3 from rfl, pk_mul, la_212 (by omega), x1, h_if]
      simp only [nI_inj (show (v_at V i).1 < 2147483648 by omega) (show n < 2147483648 by omega)]
      by_cases c : (v_at V i).1 = n
      · rw [if_pos c, if_pos c, show (2 : Int32) = nI 2 from rfl, nI_add, la_212 (by omega), x3, h_if]
        have e1 : nI (v_at V i).2.2 = 1 ↔ (v_at V i).2.2 = 1 := nI_inj (b := 1) (by omega) (by omega)
        simp only [e1]
        by_cases d : (v_at V i).2.2 = 1
        · rw [if_pos d, h_if]
          cases w
          · rw [if_neg (by decide), if_neg (by simp [d]), h_rb0]
          · rw [if_pos (by decide), if_pos (by simp [d]), nI_1]
        · rw [if_neg d, h_if]
          cases w
          · rw [if_pos (by decide), if_pos (by simp [d]), nI_1]
          · rw [if_neg (by decide), if_neg (by simp [d]), h_rb0]
      · rw [if_neg c, if_neg c, nI_1]
    have e0 : X0_isAsSeen_B12 r3 53 212 (nI V.length) (nI last) (nI n) rec (nI i) (hp I L ρ) = X0_isAsSeen_J43 r3 rec 53 212 (nI V.length) (nI last) (nI n) (nI i) (bI (decide (s_wed s (v_at V i).2.1 ≠ none))) (hp I L ρ) := by
      unfold X0_isAsSeen_B12
      rw [h_if, if_neg (nI_ge (by omega) (by omega)), gr_53_0, gr_54_3, show (3 : Int32) = nI 3 from rfl, pk_mul, show nI (3 * i) + 1 = nI (3 * i + 1) from nI_1 _, la_212 (by omega), x2, la_56 hq12, hs.2.2.1 _ hq12, h_if]
      simp only [oI_wed hk hS]
      by_cases c : s_wed s (v_at V i).2.1 = none
      · rw [if_pos c, decide_eq_false (fun e => e c)]; rfl
      · rw [if_neg c, decide_eq_true c]; rfl
    rw [e0, j43]
    unfold v_row
    by_cases c : (v_at V i).1 = n
    · rw [if_pos c]
      by_cases d : (s_wed s (v_at V i).2.1 ≠ none ↔ (v_at V i).2.2 = 1)
      · rw [if_pos (by rw [decide_eq_true_iff]; exact d), hi]
        simp [c, d]
      · rw [if_neg (by rw [decide_eq_true_iff]; exact d)]
        simp [c, d]
    · rw [if_neg c, hi]
      simp [c]
theorem X0_seen_lp (hok : okA A) (hS : okS (a_C A) s) (hsp : s_sp s ≤ 999) {last : Nat} (hl : last ≤ 30) : ∀ (m n fuel : Nat) (I : Nat → Nat → Int32), n + m = last → m + 1 < fuel → RelX I L ρ A N → stX 54 I (p_gos (a_C A) n s) → ∃ I', z_fix (fun r x => X0_isAsSeen_B3 53 212 (nI (a_V A).length) (nI last) r x) fuel (nI n) (hp I L ρ) = some (some (.int (bI (v_all (a_C A) s (a_V A) m n))), hp I' L ρ) ∧ (∀ x, lastX x ∨ 61 ≤ x → I' x = I x) ∧ RelX I' L ρ A N := by
  have hk := hok.1
  have hV := okV_of hok
  have hV1 := hV.1
  intro m
  induction m with
  | zero =>
    intro n fuel I h1 h2 h3 h4
    obtain ⟨f, rfl⟩ : ∃ f, fuel = f + 1 + 1 := ⟨fuel - 2, by omega⟩
    obtain rfl : n = last := by omega
    have hSn := (p_gos_ok hk n hS (by omega)).1
    refine ⟨I, ?_, fun _ _ => rfl, h3⟩
    rw [h_fix]
    generalize hg : z_fix (fun r x => X0_isAsSeen_B3 53 212 (nI (a_V A).length) (nI n) r x) (f + 1) = rec
    show X0_isAsSeen_B3 53 212 (nI (a_V A).length) (nI n) rec (nI n) (hp I L ρ) = some (some (.int (bI (v_rows (p_gos (a_C A) n s) (a_V A) n (a_V A).length 0))), hp I L ρ)
    unfold X0_isAsSeen_B3
    rw [h_if, if_neg (show ¬ nI n < nI n from fun e => absurd ((nI_lt' (by omega) (by omega)).mp e) (by omega)), show (0 : Int32) = nI 0 from rfl, X0_rows_lp hk hSn hV (vX_of h3) h4 (by omega) (a_V A).length 0 zFU (by omega) (by unfold zFU; omega)]
    by_cases c : v_rows (p_gos (a_C A) n s) (a_V A) n (a_V A).length 0 = true
    · rw [if_pos c, c]
      unfold X0_isAsSeen_J86 X0_isAsSeen_J105
      rw [h_if, if_pos (nI_le (Nat.le_refl _) (by omega)), nI_1, ← hg, h_fix]
      show X0_isAsSeen_B3 53 212 (nI (a_V A).length) (nI n) _ (nI (n + 1)) (hp I L ρ) = _
      unfold X0_isAsSeen_B3
      rw [h_if, if_pos (nI_lt (by omega) (by omega)), h_rb1]; rfl
    · rw [if_neg c, show v_rows (p_gos (a_C A) n s) (a_V A) n (a_V A).length 0 = false by simpa using c]; rfl
  | succ m ih =>
    intro n fuel I h1 h2 h3 h4
    obtain ⟨f, rfl⟩ : ∃ f, fuel = f + 1 := ⟨fuel - 1, by omega⟩
    have hSn := (p_gos_ok hk n hS (by omega)).1
    rw [h_fix]
    generalize hg : z_fix (fun r x => X0_isAsSeen_B3 53 212 (nI (a_V A).length) (nI last) r x) f = rec
    show ∃ I', X0_isAsSeen_B3 53 212 (nI (a_V A).length) (nI last) rec (nI n) (hp I L ρ) = some (some (.int (bI (v_rows (p_gos (a_C A) n s) (a_V A) n (a_V A).length 0 && v_all (a_C A) s (a_V A) m (n + 1)))), hp I' L ρ) ∧ _
    have e0 : X0_isAsSeen_B3 53 212 (nI (a_V A).length) (nI last) rec (nI n) (hp I L ρ) = (if v_rows (p_gos (a_C A) n s) (a_V A) n (a_V A).length 0 = true then z_ci (X10_go 48 54 (-1)) (fun y3 => rec (nI n + 1)) (hp I L ρ) else some (some (.int 0), hp I L ρ)) := by
      unfold X0_isAsSeen_B3
      rw [h_if, if_neg (show ¬ nI last < nI n from fun e => absurd ((nI_lt' (by omega) (by omega)).mp e) (by omega)), show (0 : Int32) = nI 0 from rfl, X0_rows_lp hk hSn hV (vX_of h3) h4 (by omega) (a_V A).length 0 zFU (by omega) (by unfold zFU; omega)]
      by_cases c : v_rows (p_gos (a_C A) n s) (a_V A) n (a_V A).length 0 = true
      · rw [if_pos c, if_pos c]
        unfold X0_isAsSeen_J86 X0_isAsSeen_J105
        rw [h_if, if_neg (nI_ge (by omega) (by omega)), gr_53_2, gr_53_0, rc_48]
      · rw [if_neg c, if_neg c]; rfl
    by_cases c : v_rows (p_gos (a_C A) n s) (a_V A) n (a_V A).length 0 = true
    · obtain ⟨I1, e1, e2, e3, e4⟩ := XY_go (tr := none) hok h3 hSn h4 (by simp)
      obtain ⟨I', r1, r2, r3⟩ := ih (n + 1) f I1 (by omega) (by omega) e4 (by rw [p_gos_succ]; exact e3)
      refine ⟨I', ?_, fun x hx => by rw [r2 x hx, e2 x hx], r3⟩
      rw [e0, if_pos c, c, h_ci (show X10_go 48 54 (-1) _ = _ from e1), nI_1, ← hg, Bool.true_and]
      exact r1
    · refine ⟨I, ?_, fun _ _ => rfl, h3⟩
      rw [e0, if_neg c, show v_rows (p_gos (a_C A) n s) (a_V A) n (a_V A).length 0 = false by simpa using c]; rfl
/-- bits of those that are so -/
def z_b (f : Nat → Bool) : Nat → Nat
  | 0 => 0
  | k + 1 => if f k = true then z_b f k + 2 ^ k else z_b f k
theorem z_b_lt (f : Nat → Bool) : ∀ k, z_b f k < 2 ^ k
  | 0 => by show 0 < 1; omega
  | k + 1 => by
    have := z_b_lt f k
    show (if f k = true then z_b f k + 2 ^ k else z_b f k) < 2 ^ (k + 1)
    rw [Nat.pow_succ]
    split <;> omega
theorem or_bit : ∀ k, k < 12 → ∀ x, x < 2 ^ k → nI x ||| ((1 : Int32) <<< (nI k &&& 31)) = nI (x + 2 ^ k) := by
  have h : ∀ k, k < 12 → ((List.range (2 ^ k)).all fun x => decide (nI x ||| ((1 : Int32) <<< (nI k &&& 31)) = nI (x + 2 ^ k))) = true := by decide +kernel
  intro k hk x hx
  have := List.all_eq_true.mp (h k hk) x (List.mem_range.mpr hx)
  exact of_decide_eq_true this
theorem z_b_or (f : Nat → Bool) {k : Nat} (hk : k < 12) : (if f k = true then nI (z_b f k) ||| ((1 : Int32) <<< (nI k &&& 31)) else nI (z_b f k)) = nI (z_b f (k + 1)) := by
  show _ = nI (if f k = true then z_b f k + 2 ^ k else z_b f k)
  by_cases c : f k = true
  · rw [if_pos c, if_pos c, or_bit k hk _ (z_b_lt f k)]
  · rw [if_neg c, if_neg c]
def z_fit (A : aT) (a z : Nat) : Bool := v_all (a_C A) (sSz (a_s A) a z) (a_V A) (v_mx (a_V A) (a_V A).length) 0
theorem v_mx_le {V : vT} (hV : okV C V) : ∀ k, k ≤ V.length → v_mx V k ≤ 30
  | 0, _ => by show 0 ≤ 30; omega
  | k + 1, h => by
    have h1 := v_mx_le hV k (by omega)
    have h2 := (hV.2 k (by omega)).1
    show (if v_mx V k < (v_at V k).1 then (v_at V k).1 else v_mx V k) ≤ 30
    split <;> omega
theorem X0_size_lp (hok : okA A) {a : Nat} (ha : a < 12) : ∀ (m z fuel : Nat) (I : Nat → Nat → Int32), z + m = 10 → m < fuel → RelX I L ρ A N → ∃ I', z_fix (fun r x => X0_sizesLeft_B50 53 41 (nI a) 212 (nI (a_V A).length) (nI (v_mx (a_V A) (a_V A).length)) r x.1 x.2) fuel (nI (z_b (z_fit A a) z), nI z) (hp I L ρ) = some (some (.int (nI (z_b (z_fit A a) 10))), hp I' L ρ) ∧ (∀ x, lastX x ∨ 61 ≤ x → I' x = I x) ∧ RelX I' L ρ A N := by
  have hk := hok.1
  have hV := okV_of hok
  have hV1 := hV.1
  have hmx := v_mx_le hV _ (Nat.le_refl _)
  intro m
  induction m with
  | zero =>
    intro z fuel I h1 h2 h3
    obtain ⟨f, rfl⟩ : ∃ f, fuel = f + 1 := ⟨fuel - 1, by omega⟩
    obtain rfl : z = 10 := by omega
    refine ⟨I, ?_, fun _ _ => rfl, h3⟩
    rw [h_fix]
    show X0_sizesLeft_B50 53 41 (nI a) 212 (nI (a_V A).length) (nI (v_mx (a_V A) (a_V A).length)) _ (nI (z_b (z_fit A a) 10)) (nI 10) (hp I L ρ) = _
    unfold X0_sizesLeft_B50
    rw [h_if, if_pos (by decide)]; rfl
  | succ m ih =>
    intro z fuel I h1 h2 h3
    obtain ⟨f, rfl⟩ : ∃ f, fuel = f + 1 := ⟨fuel - 1, by omega⟩
    rw [h_fix]
    generalize hg : z_fix (fun r x => X0_sizesLeft_B50 53 41 (nI a) 212 (nI (a_V A).length) (nI (v_mx (a_V A) (a_V A).length)) r x.1 x.2) f = rec
    obtain ⟨I1, e1, e2, e3, e4⟩ := XY_take hok h3
    have hX2 : RelX (u2 I1 58 a (nI z)) L ρ A N := RelX_fr (fun x hx => u2r (by unfold lastX at hx; omega)) rfl (Nat.le_refl _) e4
    have hs2 : stX 54 (u2 I1 58 a (nI z)) (sSz (a_s A) a z) := stX_Sz (b := 54) e3
    obtain ⟨I2, f1, f2, f3⟩ := X0_seen_lp (L := L) (ρ := ρ) (s := sSz (a_s A) a z) hok (okS_Sz hok.2.2.1.1 (by omega)) hok.2.2.1.2.1 hmx (v_mx (a_V A) (a_V A).length) 0 zFU (u2 I1 58 a (nI z)) (by omega) (by unfold zFU; omega) hX2 hs2
    obtain ⟨I', r1, r2, r3⟩ := ih (z + 1) f I2 (by omega) (by omega) f3
    refine ⟨I', ?_, fun x hx => by rw [r2 x hx, f2 x hx, u2r (by unfold lastX at hx; omega), e2 x hx], r3⟩
    show X0_sizesLeft_B50 53 41 (nI a) 212 (nI (a_V A).length) (nI (v_mx (a_V A) (a_V A).length)) rec (nI (z_b (z_fit A a) z)) (nI z) (hp I L ρ) = _
    unfold X0_sizesLeft_B50 X0_sizesLeft_J97
    rw [h_if, if_neg (show ¬ (10 : Int32) ≤ nI z from nI_ge (b := 10) (by omega) (by omega)), gr_53_0, rc_54, h_cv e1, gr_53_0, gr_54_5, sa_58 ha, rc_53, h_ci (show X0_isAsSeen 53 212 (nI (a_V A).length) (nI (v_mx (a_V A) (a_V A).length)) _ = _ from f1), h_if]
    have ho := z_b_or (z_fit A a) (k := z) (by omega)
    rw [hg] at r1
    by_cases c : z_fit A a z = true
    · rw [if_pos c] at ho
      rw [show v_all (a_C A) (sSz (a_s A) a z) (a_V A) (v_mx (a_V A) (a_V A).length) 0 = true from c, if_neg (by decide), ho, nI_1]
      exact r1
    · rw [if_neg c] at ho
      rw [show v_all (a_C A) (sSz (a_s A) a z) (a_V A) (v_mx (a_V A) (a_V A).length) 0 = false from (show z_fit A a z = false by simpa using c), bF, if_pos rfl, ho, nI_1]
      exact r1
theorem X0_last_lp (hok : okA A) (hX : RelX I L ρ A N) {a : Nat} : ∀ (m i fuel : Nat), i + m = (a_V A).length → m < fuel → z_fix (fun r x => X0_sizesLeft_B6 53 41 (nI a) 212 (nI (a_V A).length) r x.1 x.2) fuel (nI (v_mx (a_V A) i), nI i) (hp I L ρ) = X0_sizesLeft_J32 53 41 (nI a) 212 (nI (a_V A).length) (nI (v_mx (a_V A) (a_V A).length)) (hp I L ρ) := by
  have hV := okV_of hok
  have hV1 := hV.1
  have hvX := vX_of hX
  intro m
  induction m with
  | zero =>
    intro i fuel h1 h2
    obtain ⟨f, rfl⟩ : ∃ f, fuel = f + 1 := ⟨fuel - 1, by omega⟩
    obtain rfl : i = (a_V A).length := by omega
    rw [h_fix]
    show X0_sizesLeft_B6 53 41 (nI a) 212 (nI (a_V A).length) _ (nI _) (nI (a_V A).length) (hp I L ρ) = _
    unfold X0_sizesLeft_B6
    rw [h_if, if_pos (nI_le (Nat.le_refl _) (by omega))]
  | succ m ih =>
    intro i fuel h1 h2
    obtain ⟨f, rfl⟩ : ∃ f, fuel = f + 1 := ⟨fuel - 1, by omega⟩
    have hi := ih (i + 1) f (by omega) (by omega)
    have hm := v_mx_le hV i (by omega)
    have hv := (hV.2 i (by omega)).1
    rw [h_fix]
    generalize hg : z_fix (fun r x => X0_sizesLeft_B6 53 41 (nI a) 212 (nI (a_V A).length) r x.1 x.2) f = rec at hi
    show X0_sizesLeft_B6 53 41 (nI a) 212 (nI (a_V A).length) rec (nI (v_mx (a_V A) i)) (nI i) (hp I L ρ) = _
    unfold X0_sizesLeft_B6
    rw [h_if, if_neg (nI_ge (by omega) (by omega)), show (3 : Int32) = nI 3 from rfl, pk_mul, la_212 (by omega), (hvX i (by omega)).1, nI_1, ← hi]
    have e : (if nI (v_mx (a_V A) i) < nI (v_at (a_V A) i).1 then nI (v_at (a_V A) i).1 else nI (v_mx (a_V A) i)) = nI (v_mx (a_V A) (i + 1)) := by
      show _ = nI (if v_mx (a_V A) i < (v_at (a_V A) i).1 then (v_at (a_V A) i).1 else v_mx (a_V A) i)
      simp only [nI_lt' (show v_mx (a_V A) i < 2147483648 by omega) (show (v_at (a_V A) i).1 < 2147483648 by omega)]
      split <;> rfl
    rw [e]
/-- the sizes that are left -/
def z_left (A : aT) (a : Nat) : Nat := if s_cnt (a_C A) (a_s A) + v_mx (a_V A) (a_V A).length < 1000 * k_rt (a_C A) then z_b (z_fit A a) 10 else 0
theorem X0_sizes_h (hok : okA A) (hX : RelX I L ρ A N) {a : Nat} (ha : a < 12) : ∃ I', X0_sizesLeft 53 41 (nI a) 212 (nI (a_V A).length) (hp I L ρ) = some (some (.int (nI (z_left A a))), hp I' L ρ) ∧ (∀ x, lastX x ∨ 61 ≤ x → I' x = I x) ∧ RelX I' L ρ A N := by
  have hc := cnt_le hok
  have hV := okV_of hok
  have hV1 := hV.1
  have hmx := v_mx_le hV _ (Nat.le_refl _)
  have e0 : X0_sizesLeft 53 41 (nI a) 212 (nI (a_V A).length) (hp I L ρ) = X0_sizesLeft_J32 53 41 (nI a) 212 (nI (a_V A).length) (nI (v_mx (a_V A) (a_V A).length)) (hp I L ρ) := X0_last_lp hok hX (a_V A).length 0 zFU (by omega) (by unfold zFU; omega)
  unfold z_left
  rw [e0]
  unfold X0_sizesLeft_J32
  rw [rc_53, h_ci (X0_left_h hok hX), h_if]
  by_cases c : s_cnt (a_C A) (a_s A) + v_mx (a_V A) (a_V A).length < 1000 * k_rt (a_C A)
  · rw [if_pos (nI_le (by omega) (by omega)), if_pos c]
    exact X0_size_lp hok ha 10 0 zFU I (by omega) (by unfold zFU; omega) hX
  · rw [if_neg (nI_ge (by omega) (by omega)), if_neg c]
    exact ⟨I, rfl, fun _ _ => rfl, hX⟩
end B59
