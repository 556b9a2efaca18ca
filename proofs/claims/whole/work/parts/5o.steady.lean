/-! steady: how pairs are found -/
section B5o
variable {I I0 : Nat → Nat → Int32} {L L0 : Nat → Nat → Int64} {ρ : zRh} {h : zH} {A : aT} {N : Nat} {C : cT} {s : sT}
/-- whom each has, whom each of the left has asked -/
abbrev dT : Type := (Nat → Option Nat) × (Nat → Nat)
def d_op (C : cT) (T : dT) (l k : Nat) : Bool := decide (b_k (T.2 l) k = 0) && ! k_kn C l (6 + k)
def d_bt (s : sT) (l : Nat) (o : Option Nat) (k : Nat) : Bool := match o with | none => true | some x => decide (s_lik s (6 * l + (6 + x) % 6) < s_lik s (6 * l + (6 + k) % 6))
theorem d_bt_s {s : sT} {l x k : Nat} : (d_bt s l (some x) k = true) ↔ s_lik s (6 * l + (6 + x) % 6) < s_lik s (6 * l + (6 + k) % 6) := by
  show decide _ = true ↔ _
  exact decide_eq_true_iff
/-- whom one asks next, of the first k -/
def d_b (C : cT) (s : sT) (T : dT) (l : Nat) : Nat → Option Nat
  | 0 => none
  | k + 1 => if d_op C T l k = true ∧ d_bt s l (d_b C s T l k) k = true then some k else d_b C s T l k
def d_d (C : cT) (s : sT) (T : dT) (l : Nat) : Option Nat := if T.1 l = none then d_b C s T l (k_R C) else none
def d_w (C : cT) (s : sT) (T : dT) : Nat → Nat → Option (Nat × Nat)
  | 0, _ => none
  | m + 1, l => match d_d C s T l with
    | some k => some (l, k)
    | none => d_w C s T m (l + 1)
def d_m2 (f : Nat → Option Nat) (l r : Nat) : Nat → Option Nat := fun x => if x = r then some l else if x = l then some r else f x
def d_mv (s : sT) (T : dT) (l k : Nat) : Nat → Option Nat := match T.1 (6 + k) with
  | none => d_m2 T.1 l (6 + k)
  | some y => if s_lik s (6 * (6 + k) + y % 6) < s_lik s (6 * (6 + k) + l % 6) then (fun x => if x = y then none else d_m2 T.1 l (6 + k) x) else T.1
def d_st (s : sT) (T : dT) (q : Nat × Nat) : dT := (d_mv s T q.1 q.2, fun i => if i = q.1 then m_set (T.2 i) q.2 else T.2 i)
def d_run (C : cT) (s : sT) : Nat → dT → dT
  | 0, T => T
  | n + 1, T => match d_w C s T (k_L C) 0 with
    | none => T
    | some q => d_run C s n (d_st s T q)
def d_ct (T : dT) : Nat := b_pc (T.2 0) + b_pc (T.2 1) + b_pc (T.2 2) + b_pc (T.2 3) + b_pc (T.2 4) + b_pc (T.2 5)
def okD (T : dT) : Prop := (∀ a b, T.1 a = some b → a < 12 ∧ b < 12 ∧ (a < 6 ↔ 6 ≤ b) ∧ T.1 b = some a) ∧ ∀ l, l < 6 → T.2 l < 64
theorem d_b_in {C : cT} {s : sT} {T : dT} {l : Nat} : ∀ k x, d_b C s T l k = some x → x < k ∧ b_k (T.2 l) x = 0
  | 0, x, h => by cases h
  | k + 1, x, h => by
    have h2 : (if d_op C T l k = true ∧ d_bt s l (d_b C s T l k) k = true then some k else d_b C s T l k) = some x := h
    by_cases c : d_op C T l k = true ∧ d_bt s l (d_b C s T l k) k = true
    · rw [if_pos c] at h2
      cases h2
      have h3 := c.1
      unfold d_op at h3
      rw [Bool.and_eq_true, decide_eq_true_eq] at h3
      exact ⟨by omega, h3.1⟩
    · rw [if_neg c] at h2
      have := d_b_in k x h2
      exact ⟨by omega, this.2⟩
theorem d_w_in {C : cT} {s : sT} {T : dT} : ∀ {m l q}, d_w C s T m l = some q → (l ≤ q.1 ∧ q.1 < l + m) ∧ T.1 q.1 = none ∧ q.2 < k_R C ∧ b_k (T.2 q.1) q.2 = 0
  | 0, l, q, h => by cases h
  | m + 1, l, q, h => by
    unfold d_w at h
    rcases e : d_d C s T l with _ | k
    · rw [e] at h
      have := d_w_in h
      exact ⟨by omega, this.2⟩
    · rw [e] at h
      have hq : (l, k) = q := by simpa using h
      rw [← hq]
      unfold d_d at e
      by_cases c : T.1 l = none
      · rw [if_pos c] at e
        have := d_b_in _ _ e
        exact ⟨by show l ≤ l ∧ l < _; omega, c, this.1, this.2⟩
      · rw [if_neg c] at e; cases e
theorem m_set_bit : ∀ k, k < 6 → ∀ S, S < 64 → b_k S k = 0 → b_pc (m_set S k) = b_pc S + 1 := by decide +kernel
theorem m_set_at : ∀ k, k < 6 → ∀ S, S < 64 → ∀ j, j < 6 → b_k (m_set S k) j = if j = k then 1 else b_k S j := by decide +kernel
theorem b_pc6 (S : Nat) : b_pc S ≤ 6 := by unfold b_pc b_k; omega
theorem d_ct_le (T : dT) : d_ct T ≤ 36 := by
  have h0 := b_pc6 (T.2 0)
  have h1 := b_pc6 (T.2 1)
  have h2 := b_pc6 (T.2 2)
  have h3 := b_pc6 (T.2 3)
  have h4 := b_pc6 (T.2 4)
  have h5 := b_pc6 (T.2 5)
  unfold d_ct
  omega
theorem d_ct_st {T : dT} {q : Nat × Nat} (hT : okD T) (h1 : q.1 < 6) (h2 : q.2 < 6) (h3 : b_k (T.2 q.1) q.2 = 0) : d_ct (d_st s T q) = d_ct T + 1 := by
  have e := m_set_bit q.2 h2 _ (hT.2 q.1 h1) h3
  have hh : ∀ i, b_pc ((d_st s T q).2 i) = if i = q.1 then b_pc (T.2 i) + 1 else b_pc (T.2 i) := by
    intro i
    show b_pc (if i = q.1 then m_set (T.2 i) q.2 else T.2 i) = _
    by_cases c : i = q.1
    · rw [if_pos c, if_pos c, c, e]
    · rw [if_neg c, if_neg c]
  unfold d_ct
  rw [hh, hh, hh, hh, hh, hh]
  have hc : q.1 = 0 ∨ q.1 = 1 ∨ q.1 = 2 ∨ q.1 = 3 ∨ q.1 = 4 ∨ q.1 = 5 := by omega
  rcases hc with c | c | c | c | c | c <;> rw [c] <;> simp <;> omega
theorem okD_st {T : dT} {q : Nat × Nat} (hT : okD T) (h1 : q.1 < 6) (h2 : q.2 < 6) (h3 : T.1 q.1 = none) : okD (d_st s T q) := by
  refine ⟨?_, fun l hl => ?_⟩
  · show ∀ a b, d_mv s T q.1 q.2 a = some b → a < 12 ∧ b < 12 ∧ (a < 6 ↔ 6 ≤ b) ∧ d_mv s T q.1 q.2 b = some a
    unfold d_mv
    rcases e : T.1 (6 + q.2) with _ | y
    · show ∀ a b, d_m2 T.1 q.1 (6 + q.2) a = some b → a < 12 ∧ b < 12 ∧ (a < 6 ↔ 6 ≤ b) ∧ d_m2 T.1 q.1 (6 + q.2) b = some a
      intro a b h
      unfold d_m2 at h ⊢
      by_cases c1 : a = 6 + q.2
      · rw [if_pos c1] at h
        cases h
        rw [if_neg (by omega), if_pos rfl]
        exact ⟨by omega, by omega, by omega, by rw [c1]⟩
      · rw [if_neg c1] at h
        by_cases c2 : a = q.1
        · rw [if_pos c2] at h
          cases h
          rw [if_pos rfl]
          exact ⟨by omega, by omega, by omega, by rw [c2]⟩
        · rw [if_neg c2] at h
          have hh := hT.1 a b h
          have n1 : b ≠ 6 + q.2 := fun c => by rw [c, e] at hh; exact absurd hh.2.2.2 (by simp)
          have n2 : b ≠ q.1 := fun c => by rw [c, h3] at hh; exact absurd hh.2.2.2 (by simp)
          rw [if_neg n1, if_neg n2]
          exact hh
    · by_cases c : s_lik s (6 * (6 + q.2) + y % 6) < s_lik s (6 * (6 + q.2) + q.1 % 6)
      · simp only [if_pos c]
        have hy := hT.1 _ _ e
        have hyq : y ≠ q.1 := fun c => by rw [c, h3] at hy; exact absurd hy.2.2.2 (by simp)
        intro a b h
        unfold d_m2 at h ⊢
        by_cases c0 : a = y
        · rw [if_pos c0] at h; cases h
        · rw [if_neg c0] at h
          by_cases c1 : a = 6 + q.2
          · rw [if_pos c1] at h
            cases h
            rw [if_neg (fun c => hyq c.symm), if_neg (by omega), if_pos rfl]
            exact ⟨by omega, by omega, by omega, by rw [c1]⟩
          · rw [if_neg c1] at h
            by_cases c2 : a = q.1
            · rw [if_pos c2] at h
              cases h
              rw [if_neg (by omega), if_pos rfl]
              exact ⟨by omega, by omega, by omega, by rw [c2]⟩
            · rw [if_neg c2] at h
              have hh := hT.1 a b h
              have n0 : b ≠ y := fun c => by
                rw [c, hy.2.2.2] at hh
                have := hh.2.2.2
                cases this
                exact c1 rfl
              have n1 : b ≠ 6 + q.2 := fun c => by
                rw [c, e] at hh
                have := hh.2.2.2
                cases this
                exact c0 rfl
              have n2 : b ≠ q.1 := fun c => by rw [c, h3] at hh; exact absurd hh.2.2.2 (by simp)
              rw [if_neg n0, if_neg n1, if_neg n2]
              exact hh
      · simp only [if_neg c]
        exact hT.1
  · show (if l = q.1 then m_set (T.2 l) q.2 else T.2 l) < 64
    split
    · exact m_set_lt 6 (by omega) q.2 h2 _ (hT.2 l hl)
    · exact hT.2 l hl
/-! the class -/
def dX (I : Nat → Nat → Int32) (T : dT) : Prop := (∀ x, x < 12 → I 64 x = oI (T.1 x)) ∧ ∀ l, l < 6 → I 67 l = nI (T.2 l)
theorem b_off {S k : Nat} (hS : S < 64) (hk : k < 6) : (((nI S >>> (nI k &&& 31)) &&& 1) = 0) ↔ b_k S k = 0 := by
  rw [b_test12 k (by omega) S (by omega)]
  have : b_k S k < 2 := Nat.mod_lt _ (by omega)
  exact nI_inj (b := 0) (by omega) (by omega)
theorem d_b_lt {C : cT} {s : sT} {T : dT} {l k x : Nat} (h : d_b C s T l k = some x) : x < k := (d_b_in k x h).1
theorem X5_nx_k (hok : okA A) (hX : RelX I L ρ A N) {T : dT} (hT : okD T) (hD : dX I T) {l : Nat} (hl : l < k_L (a_C A)) : ∀ (m k fuel : Nat), k + m = k_R (a_C A) → m < fuel → z_fix (fun r x => X5_nextToAsk_B7 63 ρ.1 41 (nI l) r x.1 x.2) fuel (oI ((d_b (a_C A) (a_s A) T l k).map (6 + ·)), nI (6 + k)) (hp I L ρ) = some (some (.int (oI ((d_b (a_C A) (a_s A) T l (k_R (a_C A))).map (6 + ·)))), hp I L ρ) := by
  have hk := hok.1
  have h12 := hk.1
  have hlik := hX.2.2.1.2.2.2.2.2.1
  have hl9 := hok.2.2.1.1.2.2.2.2.2
  intro m
  induction m with
  | zero =>
    intro k fuel h1 h2
    obtain ⟨f, rfl⟩ : ∃ f, fuel = f + 1 := ⟨fuel - 1, by omega⟩
    obtain rfl : k = k_R (a_C A) := by omega
    rw [h_fix]
    show X5_nextToAsk_B7 63 ρ.1 41 (nI l) _ _ _ _ = _
    unfold X5_nextToAsk_B7
    rw [gc_0 (cu_ρ hX), show (1 : Int32) = nI 1 from rfl, lac_1 (cu_ρ hX) (by omega), (cu_ch hX).1.2, show (6 : Int32) = nI 6 from rfl, nI_add, h_if, if_pos (nI_le (by omega) (by omega))]; rfl
  | succ m ih =>
    intro k fuel h1 h2
    obtain ⟨f, rfl⟩ : ∃ f, fuel = f + 1 := ⟨fuel - 1, by omega⟩
    have hi := ih (k + 1) f (by omega) (by omega)
    have hkin := XC_areKin (L := L) hX (show l < 12 by omega) (show 6 + k < 12 by omega)
    have hS := hT.2 l (by omega)
    rw [h_fix, ← hi]
    show X5_nextToAsk_B7 63 ρ.1 41 (nI l) _ _ (nI (6 + k)) (hp I L ρ) = _
    generalize z_fix (fun r x => X5_nextToAsk_B7 63 ρ.1 41 (nI l) r x.1 x.2) f = rec
    show _ = rec (oI ((if d_op (a_C A) T l k = true ∧ d_bt (a_s A) l (d_b (a_C A) (a_s A) T l k) k = true then some k else d_b (a_C A) (a_s A) T l k).map (6 + ·)), nI (6 + (k + 1))) (hp I L ρ)
    have e53 : X5_nextToAsk_J53 (fun x => rec x) 63 ρ.1 41 (nI l) (oI ((d_b (a_C A) (a_s A) T l k).map (6 + ·))) (nI (6 + k)) 1 (hp I L ρ) = rec (oI ((if d_bt (a_s A) l (d_b (a_C A) (a_s A) T l k) k = true then some k else d_b (a_C A) (a_s A) T l k).map (6 + ·)), nI (6 + (k + 1))) (hp I L ρ) := by
      unfold X5_nextToAsk_J53 X5_nextToAsk_J91 X5_nextToAsk_J95
      rw [h_if, if_neg (by decide), h_if]
      rcases q : d_b (a_C A) (a_s A) T l k with _ | x
      · show (if (-1 : Int32) = -1 then _ else _) = _
        rw [if_pos rfl, nI_1]; rfl
      · have hx := d_b_lt q
        have l1 := (hl9 (6 * l + (6 + k) % 6) (by omega)).1
        have l2 := (hl9 (6 * l + (6 + x) % 6) (by omega)).1
        show (if nI (6 + x) = -1 then _ else _) = _
        rw [if_neg (nI_nm1 (by omega)), gr_41_6, h_ci (X11_cell_h (by omega) (by omega)), la_46 (by omega), hlik _ (by omega), gr_41_6, show oI (Option.map (6 + ·) (some x)) = nI (6 + x) from rfl, h_ci (X11_cell_h (by omega) (by omega)), la_46 (by omega), hlik _ (by omega), h_if]
        simp only [nI_le' (show s_lik (a_s A) (6 * l + (6 + k) % 6) < 2147483648 by omega) (show s_lik (a_s A) (6 * l + (6 + x) % 6) < 2147483648 by omega)]
        by_cases c : s_lik (a_s A) (6 * l + (6 + k) % 6) ≤ s_lik (a_s A) (6 * l + (6 + x) % 6)
        · rw [if_pos c, if_neg (by rw [d_bt_s]; omega), nI_1]; rfl
        · rw [if_neg c, if_pos (by rw [d_bt_s]; omega), nI_1]; rfl
    unfold X5_nextToAsk_B7 X5_nextToAsk_J52
    rw [gc_0 (cu_ρ hX), show (1 : Int32) = nI 1 from rfl, lac_1 (cu_ρ hX) (by omega), (cu_ch hX).1.2, show (nI 1 : Int32) = (1 : Int32) from rfl, show (6 : Int32) = nI 6 from rfl, nI_add, h_if, if_neg (nI_ge (by omega) (by omega)), gr_63_3, la_67 (by omega), hD.2 l (by omega), pk_sub (by omega), Nat.add_sub_cancel_left, h_if]
    have e0 : X5_nextToAsk_J53 (fun x => rec x) 63 ρ.1 41 (nI l) (oI ((d_b (a_C A) (a_s A) T l k).map (6 + ·))) (nI (6 + k)) 0 (hp I L ρ) = rec (oI ((d_b (a_C A) (a_s A) T l k).map (6 + ·)), nI (6 + (k + 1))) (hp I L ρ) := by
      unfold X5_nextToAsk_J53 X5_nextToAsk_J95
      rw [h_if, if_pos rfl, nI_1]; rfl
    unfold d_op
    by_cases c : b_k (T.2 l) k = 0
    · rw [if_pos ((b_off hS (by omega)).mpr c), rcc (cu_ρ hX), h_ci hkin, h_if]
      cases q : k_kn (a_C A) l (6 + k) with
      | true => rw [if_neg (by decide), if_neg (by simp)]; exact e0
      | false =>
        rw [if_pos (by decide)]
        refine e53.trans ?_
        simp only [c]
        simp
    · rw [if_neg (fun e => c ((b_off hS (by omega)).mp e)), if_neg (by simp [c])]; exact e0
theorem X5_nx_h (hok : okA A) (hX : RelX I L ρ A N) {T : dT} (hT : okD T) (hD : dX I T) {l : Nat} (hl : l < k_L (a_C A)) : X5_nextToAsk 63 ρ.1 41 (nI l) (hp I L ρ) = some (some (.int (oI ((d_b (a_C A) (a_s A) T l (k_R (a_C A))).map (6 + ·)))), hp I L ρ) :=
  X5_nx_k hok hX hT hD hl (k_R (a_C A)) 0 zFU (by omega) (by have := hok.1.1; unfold zFU; omega)
theorem X5_st_w (hok : okA A) (hX : RelX I L ρ A N) {T : dT} (hT : okD T) (hD : dX I T) {r18 : Int32 → zM} {v3 : Int32} : ∀ (m l fuel : Nat) (v4 : Int32), l + m = k_L (a_C A) → m + 1 < fuel → z_fix (fun r x => X5_findSteady_B33 r18 63 ρ.1 41 v3 r x.1 x.2.1 x.2.2) fuel (v4, -1, nI l) (hp I L ρ) = (match d_w (a_C A) (a_s A) T m l with | none => some (none, hp I L ρ) | some q => X5_findSteady_J85 r18 63 ρ.1 41 v3 (nI q.1) (nI (6 + q.2)) (hp I L ρ)) := by
  have hk := hok.1
  have h12 := hk.1
  intro m
  induction m with
  | zero =>
    intro l fuel v4 h1 h2
    obtain ⟨f, rfl⟩ : ∃ f, fuel = f + 1 := ⟨fuel - 1, by omega⟩
    rw [h_fix]
    show X5_findSteady_B33 r18 63 ρ.1 41 v3 _ v4 (-1) (nI l) (hp I L ρ) = some (none, hp I L ρ)
    unfold X5_findSteady_B33 X5_findSteady_J85 X5_findSteady_J91
    rw [gc_0 (cu_ρ hX), show (0 : Int32) = nI 0 from rfl, lac_1 (cu_ρ hX) (by omega), (cu_ch hX).1.1, h_if, if_pos (nI_le (by omega) (by omega)), h_if, if_pos rfl]; rfl
  | succ m ih =>
    intro l fuel v4 h1 h2
    obtain ⟨f, rfl⟩ : ∃ f, fuel = f + 1 := ⟨fuel - 1, by omega⟩
    have hi := ih (l + 1) f (nI l) (by omega) (by omega)
    have hd : (if T.1 l = none then d_b (a_C A) (a_s A) T l (k_R (a_C A)) else none) = d_d (a_C A) (a_s A) T l := rfl
    rw [h_fix]
    show X5_findSteady_B33 r18 63 ρ.1 41 v3 _ v4 (-1) (nI l) (hp I L ρ) = _
    have e1 : ∀ rec : Int32 × Int32 × Int32 → zM, X5_findSteady_B33 r18 63 ρ.1 41 v3 rec v4 (-1) (nI l) (hp I L ρ) = rec (nI l, oI ((d_d (a_C A) (a_s A) T l).map (6 + ·)), nI (l + 1)) (hp I L ρ) := by
      intro rec
      unfold X5_findSteady_B33 X5_findSteady_J77
      rw [gc_0 (cu_ρ hX), show (0 : Int32) = nI 0 from rfl, lac_1 (cu_ρ hX) (by omega), (cu_ch hX).1.1, h_if, if_neg (nI_ge (by omega) (by omega)), h_if, if_pos rfl, gr_63_0, la_64 (by omega), hD.1 l (by omega), h_if]
      unfold d_d
      rcases q : T.1 l with _ | y
      · rw [oI_none, if_pos rfl, if_pos rfl, rc_63, h_ci (X5_nx_h hok hX hT hD (by omega)), nI_1]
      · have := hT.1 l y q
        rw [oI_some, if_neg (nI_nm1 (by omega)), if_neg (by simp), nI_1]; rfl
    rw [e1]
    unfold d_w
    rcases q : d_d (a_C A) (a_s A) T l with _ | k
    · exact hi
    · have hk6 : k < k_R (a_C A) := by
        unfold d_d at q
        by_cases c : T.1 l = none
        · rw [if_pos c] at q; exact d_b_lt q
        · rw [if_neg c] at q; cases q
      obtain ⟨f2, rfl⟩ : ∃ f2, f = f2 + 1 := ⟨f - 1, by omega⟩
      show z_fix _ (f2 + 1) (nI l, nI (6 + k), nI (l + 1)) (hp I L ρ) = X5_findSteady_J85 r18 63 ρ.1 41 v3 (nI l) (nI (6 + k)) (hp I L ρ)
      rw [h_fix]
      show X5_findSteady_B33 r18 63 ρ.1 41 v3 _ (nI l) (nI (6 + k)) (nI (l + 1)) (hp I L ρ) = _
      unfold X5_findSteady_B33
      rw [gc_0 (cu_ρ hX), show (0 : Int32) = nI 0 from rfl, lac_1 (cu_ρ hX) (by omega), (cu_ch hX).1.1, h_if]
      split
      · rfl
      · rw [h_if, if_neg (nI_nm1 (by omega))]
end B5o
