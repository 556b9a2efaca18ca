/-! the reference's formulas are those, too -/
section B31
variable {I : Nat → Nat → Int32} {L : Nat → Nat → Int64} {ρ : zRh} {h : zH} {C : cT} {s : sT}
def l_pile (f : Nat → Int64) (st : List Int) : Prop := ∀ i, i < st.length → f i = cl (st.getD (st.length - 1 - i) 0)
theorem l_pile_push {f g : Nat → Int64} {v : Int} {st : List Int} (h : l_pile f st) (h1 : g st.length = cl v) (h2 : ∀ i, i < st.length → g i = f i) : l_pile g (v :: st) := by
  intro i hi
  simp only [List.length_cons] at hi ⊢
  by_cases q : i = st.length
  · subst q
    rw [h1]
    simp
  · rw [h2 i (by omega), h i (by omega), show st.length + 1 - 1 - i = (st.length - 1 - i) + 1 by omega, getD_cons_succ']
theorem l_pile_tail {f : Nat → Int64} {v : Int} {st : List Int} (h : l_pile f (v :: st)) : l_pile f st := by
  intro i hi
  have h1 := h i (by simp only [List.length_cons]; omega)
  rw [h1]
  simp only [List.length_cons]
  rw [show st.length + 1 - 1 - i = (st.length - 1 - i) + 1 by omega, getD_cons_succ']
theorem l_pile_top {f : Nat → Int64} {v : Int} {st : List Int} (h : l_pile f (v :: st)) : f st.length = cl v := by
  have h1 := h st.length (by simp)
  rw [h1]
  simp
theorem X12_qPuts_h {n : Nat} (hn : I 215 111 = nI n) (hb : n < 1700) {v : Int64} : X12_qPuts 215 v (hp I L ρ) = some (none, hp (u2 I 215 111 (nI (n + 1))) (u2 L 295 n v) ρ) := by
  unfold X12_qPuts
  rw [gr_215_110, gi_215, hn, sl_295 hb, gi_215, hn, pi_215, nI_1, h_ret]
theorem X12_qClip_h {x : Int} (h1 : -9000000000000000000 ≤ x) (h2 : x < 9000000000000000000) : X12_qClip (cl x) h = some (some (.long (cl (e_clip x))), h) := by
  unfold X12_qClip e_clip
  rw [h_if, show (-1000000 : Int64) = cl (-1000000) from rfl, show (1000000 : Int64) = cl 1000000 from rfl]
  simp only [cl_lt (show -9223372036854775808 ≤ (1000000 : Int) by omega) (by omega) (show -9223372036854775808 ≤ x by omega) (by omega)]
  split
  · rfl
  · rw [h_if]
    simp only [cl_lt (show -9223372036854775808 ≤ x by omega) (by omega) (show -9223372036854775808 ≤ (-1000000 : Int) by omega) (by omega)]
    split
    · rfl
    · rw [h_ret]
theorem cl_tdiv {x y : Int} (hx : -1000000 ≤ x ∧ x ≤ 1000000) (hy : -1000000 ≤ y ∧ y ≤ 1000000) : cl x / cl y = cl (Int.tdiv x y) := by
  have h1 : (Int.tdiv x y).natAbs = x.natAbs / y.natAbs := Int.natAbs_tdiv x y
  have h2 : x.natAbs / y.natAbs ≤ x.natAbs := Nat.div_le_self _ _
  rw [← Int64.toInt_inj, cl_toInt (x := Int.tdiv x y) (by omega) (by omega), Int64.toInt_div, cl_toInt (by omega) (by omega), cl_toInt (by omega) (by omega)]
  simp only [Int.bmod_def, Int64.size]
  omega
theorem X12_qFloor_h {x y : Int} (hx : -1000000 ≤ x ∧ x ≤ 1000000) (hy : -1000000 ≤ y ∧ y ≤ 1000000) : X12_qFloor (cl x) (cl y) h = some (some (.long (cl (if y = 0 then 0 else e_div x y))), h) := by
  have h1 : (Int.tdiv x y).natAbs = x.natAbs / y.natAbs := Int.natAbs_tdiv x y
  have h2 : x.natAbs / y.natAbs ≤ x.natAbs := Nat.div_le_self _ _
  have hb : -2000000 ≤ Int.tdiv x y * y ∧ Int.tdiv x y * y ≤ 2000000 := by
    have h3 : (Int.tdiv x y * y).natAbs ≤ x.natAbs := by
      rw [Int.natAbs_mul, h1]
      exact Nat.div_mul_le_self _ _
    omega
  have e0 : cl y = 0 ↔ y = 0 := cl_eq (x := y) (y := 0) (by omega) (by omega) (by omega) (by omega)
  have e1 : cl x < 0 ↔ x < 0 := cl_lt (x := x) (y := 0) (by omega) (by omega) (by omega) (by omega)
  have e2 : cl y < 0 ↔ y < 0 := cl_lt (x := y) (y := 0) (by omega) (by omega) (by omega) (by omega)
  have e3 : cl (x - Int.tdiv x y * y) = 0 ↔ x - Int.tdiv x y * y = 0 := cl_eq (y := 0) (by omega) (by omega) (by omega) (by omega)
  unfold X12_qFloor
  rw [h_if]
  simp only [e0]
  by_cases c : y = 0
  · rw [if_pos c, if_pos c]; rfl
  · rw [if_neg c, if_neg c, h_ck (show ¬ y = 0 from c), h_ck (show ¬ cl y = 0 from fun e => c (e0.mp e)), h_if, cl_tdiv hx hy, cl_mul, cl_sub]
    simp only [e3]
    unfold e_div X12_qFloor_J32 X12_qFloor_J43
    by_cases c1 : Int.tdiv x y * y = x
    · rw [if_pos (show x - Int.tdiv x y * y = 0 by omega), if_neg (fun f => f.1 c1)]; rfl
    · rw [if_neg (show ¬ x - Int.tdiv x y * y = 0 by omega), h_if]
      simp only [e1]
      by_cases c2 : x < 0
      · rw [if_pos c2, h_if]
        simp only [e2]
        by_cases c3 : y < 0
        · rw [if_pos c3, h_if, if_pos trivial, if_neg (fun f => f.2 (by simp [c2, c3]))]; rfl
        · rw [if_neg c3, h_if, if_neg (by decide), if_pos ⟨c1, by simp [c2, c3]⟩, show (1 : Int64) = cl 1 from rfl, cl_sub]; rfl
      · rw [if_neg c2, h_if]
        simp only [e2]
        by_cases c3 : y < 0
        · rw [if_pos c3, h_if, if_neg (by decide), if_pos ⟨c1, by simp [c2, c3]⟩, show (1 : Int64) = cl 1 from rfl, cl_sub]; rfl
        · rw [if_neg c3, h_if, if_pos trivial, if_neg (fun f => f.2 (by simp [c2, c3]))]; rfl
theorem X12_qJoins_h {r n : Nat} {x y : Int} (h1 : 1 ≤ r) (h2 : r ≤ 11) (hx : -1000000 ≤ x ∧ x ≤ 1000000) (hy : -1000000 ≤ y ∧ y ≤ 1000000) (h3 : r = 10 ∨ r = 11 → (x = 0 ∨ x = 1) ∧ (y = 0 ∨ y = 1)) (hn : I 215 111 = nI (n + 2)) (hb : n + 2 ≤ 1700) (hL1 : L 295 (n + 1) = cl y) (hL2 : L 295 n = cl x) :
    ∃ I' L', X12_qJoins 215 (nI r) (hp I L ρ) = some (none, hp I' L' ρ) ∧ (∀ a, a ≠ 215 → I' a = I a) ∧ (∀ k, k ≠ 111 → I' 215 k = I 215 k) ∧ I' 215 111 = nI (n + 1) ∧ (∀ a, a ≠ 295 → L' a = L a) ∧ L' 295 n = cl (e_two (20000 + r) x y) ∧ ∀ i, i < n → L' 295 i = L 295 i := by
  have hm : -2000000000000 ≤ x * y ∧ x * y ≤ 2000000000000 := by
    have h4 : (x * y).natAbs ≤ 1000000 * 1000000 := by
      rw [Int.natAbs_mul]
      exact Nat.mul_le_mul (by omega) (by omega)
    omega
  have key : ∀ z : Int, z = e_two (20000 + r) x y → ∃ I' L', X12_qPuts 215 (cl z) (hp (u2 I 215 111 (nI n)) L ρ) = some (none, hp I' L' ρ) ∧ (∀ a, a ≠ 215 → I' a = I a) ∧ (∀ k, k ≠ 111 → I' 215 k = I 215 k) ∧ I' 215 111 = nI (n + 1) ∧ (∀ a, a ≠ 295 → L' a = L a) ∧ L' 295 n = cl (e_two (20000 + r) x y) ∧ ∀ i, i < n → L' 295 i = L 295 i := by
    intro z hz
    refine ⟨_, _, X12_qPuts_h (n := n) (by rw [u2_ap, if_pos ⟨rfl, rfl⟩]) (by omega), fun a ha => by rw [u2r ha, u2r ha], fun k hk => by rw [u2_ap, if_neg (by omega), u2_ap, if_neg (by omega)], by rw [u2_ap, if_pos ⟨rfl, rfl⟩], fun a ha => u2r ha, by rw [u2_ap, if_pos ⟨rfl, rfl⟩, hz], fun i hi => by rw [u2_ap, if_neg (by omega)]⟩
  have key2 : ∀ z : Int, z = e_two (20000 + r) x y → ∃ I' L', z_rc 12 215 (z_cv (X12_qPuts 215 (cl z)) (z_ret none)) (hp (u2 I 215 111 (nI n)) L ρ) = some (none, hp I' L' ρ) ∧ (∀ a, a ≠ 215 → I' a = I a) ∧ (∀ k, k ≠ 111 → I' 215 k = I 215 k) ∧ I' 215 111 = nI (n + 1) ∧ (∀ a, a ≠ 295 → L' a = L a) ∧ L' 295 n = cl (e_two (20000 + r) x y) ∧ ∀ i, i < n → L' 295 i = L 295 i := by
    intro z hz
    obtain ⟨I', L', q1, q2⟩ := key z hz
    exact ⟨I', L', by rw [rc_215, h_cv q1, h_ret], q2⟩
  have l1 := cl_lt (x := x) (y := y) (by omega) (by omega) (by omega) (by omega)
  have l2 := cl_lt (x := y) (y := x) (by omega) (by omega) (by omega) (by omega)
  have l5 := cl_eq (x := x) (y := y) (by omega) (by omega) (by omega) (by omega)
  unfold X12_qJoins
  rw [gr_215_110, gi_215, hn, show (2 : Int32) = nI 2 from rfl, show (1 : Int32) = nI 1 from rfl, pk_sub (by omega), ll_295 (by omega), show n + 2 - 1 = n + 1 by omega, hL1, gr_215_110, gi_215, hn, pk_sub (by omega), show n + 2 - 2 = n by omega, ll_295 (by omega), hL2, gi_215, hn, pk_sub (by omega), show n + 2 - 2 = n by omega, pi_215, h_if, nI_toInt (by omega)]
  have hop : r = 1 ∨ r = 2 ∨ r = 3 ∨ r = 4 ∨ r = 5 ∨ r = 6 ∨ r = 7 ∨ r = 8 ∨ r = 9 ∨ r = 10 ∨ r = 11 := by omega
  rcases hop with rfl | rfl | rfl | rfl | rfl | rfl | rfl | rfl | rfl | rfl | rfl
  · rw [if_neg (by omega), show (((1 : Nat) : Int) - 1).toNat = 0 from by omega]
    show ∃ I' L', z_cl _ _ (hp (u2 I 215 111 (nI n)) L ρ) = _ ∧ _
    rw [cl_add, h_cl (X12_qClip_h (by omega) (by omega))]
    exact key2 _ (e_two_1 x y).symm
  · rw [if_neg (by omega), show (((2 : Nat) : Int) - 1).toNat = 1 from by omega]
    show ∃ I' L', z_cl _ _ (hp (u2 I 215 111 (nI n)) L ρ) = _ ∧ _
    rw [cl_sub, h_cl (X12_qClip_h (by omega) (by omega))]
    exact key2 _ (e_two_2 x y).symm
  · rw [if_neg (by omega), show (((3 : Nat) : Int) - 1).toNat = 2 from by omega]
    show ∃ I' L', z_cl _ _ (hp (u2 I 215 111 (nI n)) L ρ) = _ ∧ _
    rw [cl_mul, h_cl (X12_qClip_h (by omega) (by omega))]
    exact key2 _ (e_two_3 x y).symm
  · rw [if_neg (by omega), show (((4 : Nat) : Int) - 1).toNat = 3 from by omega]
    show ∃ I' L', z_cl _ _ (hp (u2 I 215 111 (nI n)) L ρ) = _ ∧ _
    rw [h_cl (X12_qFloor_h hx hy)]
    exact key2 _ (e_two_4 x y).symm
  · rw [if_neg (by omega), show (((5 : Nat) : Int) - 1).toNat = 4 from by omega]
    show ∃ I' L', z_if _ _ _ (hp (u2 I 215 111 (nI n)) L ρ) = _ ∧ _
    rw [h_if]
    by_cases c : x < y
    · rw [if_pos (l1.mpr c)]
      exact key2 _ (by rw [e_two_5, if_neg (by omega)])
    · rw [if_neg (fun e => c (l1.mp e))]
      exact key2 _ (by rw [e_two_5]; split <;> omega)
  · rw [if_neg (by omega), show (((6 : Nat) : Int) - 1).toNat = 5 from by omega]
    show ∃ I' L', z_if _ _ _ (hp (u2 I 215 111 (nI n)) L ρ) = _ ∧ _
    rw [h_if]
    by_cases c : y < x
    · rw [if_pos (l2.mpr c)]
      exact key2 _ (by rw [e_two_6, if_neg (by omega)])
    · rw [if_neg (fun e => c (l2.mp e))]
      exact key2 _ (by rw [e_two_6]; split <;> omega)
  · rw [if_neg (by omega), show (((7 : Nat) : Int) - 1).toNat = 6 from by omega]
    show ∃ I' L', z_if _ _ _ (hp (u2 I 215 111 (nI n)) L ρ) = _ ∧ _
    rw [h_if]
    by_cases c : x < y
    · rw [if_pos (l1.mpr c)]
      exact key2 1 (by rw [e_two_7, if_pos c])
    · rw [if_neg (fun e => c (l1.mp e))]
      exact key2 0 (by rw [e_two_7, if_neg c])
  · rw [if_neg (by omega), show (((8 : Nat) : Int) - 1).toNat = 7 from by omega]
    show ∃ I' L', z_if _ _ _ (hp (u2 I 215 111 (nI n)) L ρ) = _ ∧ _
    rw [h_if]
    by_cases c : y < x
    · rw [if_pos (l2.mpr c)]
      exact key2 1 (by rw [e_two_8, if_pos c])
    · rw [if_neg (fun e => c (l2.mp e))]
      exact key2 0 (by rw [e_two_8, if_neg c])
  · rw [if_neg (by omega), show (((9 : Nat) : Int) - 1).toNat = 8 from by omega]
    show ∃ I' L', z_if _ _ _ (hp (u2 I 215 111 (nI n)) L ρ) = _ ∧ _
    rw [h_if]
    by_cases c : x = y
    · rw [if_pos (l5.mpr c)]
      exact key2 1 (by rw [e_two_9, if_pos c])
    · rw [if_neg (fun e => c (l5.mp e))]
      exact key2 0 (by rw [e_two_9, if_neg c])
  · rw [if_neg (by omega), show (((10 : Nat) : Int) - 1).toNat = 9 from by omega]
    obtain ⟨hx1, hy1⟩ := h3 (Or.inl rfl)
    show ∃ I' L', z_rc _ _ _ (hp (u2 I 215 111 (nI n)) L ρ) = _ ∧ _
    rw [cl_mul]
    exact key2 _ (by rw [e_two_10]; rcases hx1 with rfl | rfl <;> rcases hy1 with rfl | rfl <;> rfl)
  · rw [if_pos (by omega), h_if]
    obtain ⟨hx1, hy1⟩ := h3 (Or.inr rfl)
    have l6 : (0 : Int64) < cl x + cl y ↔ 0 < x + y := by
      rw [cl_add]
      exact cl_lt (x := 0) (by omega) (by omega) (by omega) (by omega)
    by_cases c : 0 < x + y
    · rw [if_pos (l6.mpr c)]
      exact key2 1 (by rw [e_two_11, if_neg (by omega)])
    · rw [if_neg (fun e => c (l6.mp e))]
      exact key2 0 (by rw [e_two_11, if_pos (by omega)])
theorem w_step_cc {r : Nat} (h : c_ok r) : (1000 ≤ r → c_cc r = r - 1000 ∧ c_cc r < 10000) ∧ (40 ≤ r → r < 1000 → 10000 ≤ c_cc r ∧ c_cc r < 10009) ∧ (r = 13 → c_cc r = 1) ∧ (r = 12 → c_cc r = 30001) ∧ (r < 12 → c_cc r = 20000 + r ∧ 1 ≤ r) := by
  unfold c_ok at h
  unfold c_cc
  refine ⟨fun q => ?_, fun q1 q2 => ?_, fun q => ?_, fun q => ?_, fun q => ?_⟩
  · rw [if_pos q]; omega
  · rw [if_neg (by omega), if_pos q1]
    repeat' split
    all_goals omega
  · subst q; rfl
  · subst q; rfl
  · rw [if_neg (by omega), if_neg (by omega), if_neg (by omega), if_neg (by omega)]; omega
set_option maxHeartbeats 4000000 in
theorem X12_codes_lp {F : Nat → Int} (hFb : ∀ k, -1000000 ≤ F k ∧ F k ≤ 1000000) {w x9 : Nat} (hw : w < 3) (I0 : Nat → Nat → Int32) (hP : ∀ (I' : Nat → Nat → Int32) (L' : Nat → Nat → Int64) (r : Nat), (∀ x, x ≠ 215 → I' x = I0 x) → (∀ k, k ≠ 111 → I' 215 k = I0 215 k) → 40 ≤ r → r ≤ 48 → c_cc r ≠ 10000 + x9 → X12_qPartOf 215 (nI (r - 40)) 0 (hp I' L' ρ) = some (some (.long (cl (F (c_cc r - 10000)))), hp I' L' ρ)) :
    ∀ (R : List Nat) (st : List Int) (fl out : List Bool) (q : Nat) (I : Nat → Nat → Int32) (L : Nat → Nat → Int64) (fuel : Nat),
    w_run (R.map c_cc) fl = some out → fl.length ≤ 40 → w_rel fl st → l_pile (L 295) st → I 215 111 = nI st.length → (∀ i, i < R.length → I 254 (1600 + (q + i)) = nI (R.getD i 0)) → (∀ r ∈ R, c_ok r) → (∀ r ∈ R, c_cc r ≠ 10000 + x9) → I 253 (3 + w) = nI (q + R.length) → q + R.length ≤ 1600 → R.length < fuel → (∀ x, x ≠ 215 → I x = I0 x) → (∀ k, k ≠ 111 → I 215 k = I0 215 k) →
    ∃ I' L', z_fix (fun r x => X12_codesTell_B19 215 (nI w) r x) fuel (nI q) (hp I L ρ) = X12_codesTell_J142 215 (hp I' L' ρ) ∧ (∀ x, x ≠ 215 → I' x = I0 x) ∧ (∀ k, k ≠ 111 → I' 215 k = I0 215 k) ∧ (∀ a, a ≠ 295 → L' a = L a) ∧ l_pile (L' 295) (e_run F (R.map c_cc) st) := by
  intro R
  induction R with
  | nil =>
    intro st fl out q I L fuel h1 hl hr hp0 hn hc hok hx hto hq hfu f1 f2
    obtain ⟨n, rfl⟩ : ∃ n, fuel = n + 1 := ⟨fuel - 1, by omega⟩
    refine ⟨I, L, ?_, f1, f2, fun _ _ => rfl, hp0⟩
    rw [h_fix]
    show X12_codesTell_B19 215 (nI w) _ (nI q) (hp I L ρ) = _
    unfold X12_codesTell_B19
    rw [gr_215_47, show (3 : Int32) = nI 3 from rfl, nI_add, la_253 (by omega), hto, h_if, if_pos (nI_le (by simp) (by simp at hq ⊢; omega))]
  | cons r R ih =>
    intro st fl out q I L fuel h1 hl hr hp0 hn hc hok hx hto hq hfu f1 f2
    obtain ⟨n, rfl⟩ : ∃ n, fuel = n + 1 := ⟨fuel - 1, by omega⟩
    simp only [List.length_cons] at hc hto hq hfu
    have hst := w_rel_len hr
    have hokr := hok r List.mem_cons_self
    have hcc := w_step_cc hokr
    have hxr := hx r List.mem_cons_self
    rw [List.map_cons] at h1
    unfold w_run at h1
    cases hs : w_step (c_cc r) fl with
    | none => rw [hs] at h1; cases h1
    | some fl1 =>
      rw [hs] at h1
      have hr1 := w_rel_step hFb hs hr
      have hl1 := w_step_len hs hl
      have hst1 := w_rel_len hr1
      have hop : I 254 (1600 + q) = nI r := by
        have := hc 0 (by omega)
        simpa using this
      have hrb : r < 11000 := by unfold c_ok at hokr; omega
      rw [h_fix]
      generalize hg : z_fix (fun r x => X12_codesTell_B19 215 (nI w) r x) n = rec
      have step : ∀ (I1 : Nat → Nat → Int32) (L1 : Nat → Nat → Int64), (∀ x, x ≠ 215 → I1 x = I x) → (∀ k, k ≠ 111 → I1 215 k = I 215 k) → I1 215 111 = nI (e_step F (c_cc r) st).length → (∀ a, a ≠ 295 → L1 a = L a) → l_pile (L1 295) (e_step F (c_cc r) st) → ∃ I' L', rec (nI q + 1) (hp I1 L1 ρ) = X12_codesTell_J142 215 (hp I' L' ρ) ∧ (∀ x, x ≠ 215 → I' x = I0 x) ∧ (∀ k, k ≠ 111 → I' 215 k = I0 215 k) ∧ (∀ a, a ≠ 295 → L' a = L a) ∧ l_pile (L' 295) (e_run F ((r :: R).map c_cc) st) := by
        intro I1 L1 g1 g2 g3 g4 g5
        obtain ⟨I', L', a1, a2, a3, a4, a5⟩ := ih (e_step F (c_cc r) st) fl1 out (q + 1) I1 L1 n h1 hl1 hr1 g5 g3 (fun i hi => by
          rw [g1 254 (by omega), show q + 1 + i = q + (i + 1) by omega, hc (i + 1) (by omega), List.getD_cons_succ]) (fun x hx => hok x (List.mem_cons_of_mem _ hx)) (fun x hx2 => hx x (List.mem_cons_of_mem _ hx2)) (by rw [g1 253 (by omega), hto]; congr 1; omega) (by omega) (by omega) (fun x hx => by rw [g1 x hx, f1 x hx]) (fun k hk => by rw [g2 k hk, f2 k hk])
        exact ⟨I', L', by rw [nI_1, ← hg]; exact a1, a2, a3, fun a ha => by rw [a4 a ha, g4 a ha], a5⟩
      have push : ∀ v : Int, e_step F (c_cc r) st = v :: st → ∃ I' L', z_rc 12 215 (z_cv (X12_qPuts 215 (cl v)) (rec (nI q + 1))) (hp I L ρ) = X12_codesTell_J142 215 (hp I' L' ρ) ∧ (∀ x, x ≠ 215 → I' x = I0 x) ∧ (∀ k, k ≠ 111 → I' 215 k = I0 215 k) ∧ (∀ a, a ≠ 295 → L' a = L a) ∧ l_pile (L' 295) (e_run F ((r :: R).map c_cc) st) := by
        intro v hv
        rw [rc_215, h_cv (X12_qPuts_h hn (by omega))]
        refine step _ _ (fun x hx => u2r hx) (fun k hk => by rw [u2_ap, if_neg (by omega)]) (by rw [u2_ap, if_pos ⟨rfl, rfl⟩, hv, List.length_cons]) (fun a ha => u2r ha) ?_
        rw [hv]
        exact l_pile_push (f := L 295) hp0 (by rw [u2_ap, if_pos ⟨rfl, rfl⟩]) (fun i hi => by rw [u2_ap, if_neg (by omega)])
      show ∃ I' L', X12_codesTell_B19 215 (nI w) rec (nI q) (hp I L ρ) = _ ∧ _
      unfold X12_codesTell_B19 X12_codesTell_J136
      rw [gr_215_47, show (3 : Int32) = nI 3 from rfl, nI_add, la_253 (by omega), hto, h_if, if_neg (nI_ge (by omega) (by omega)), gr_215_48, show (1600 : Int32) = nI 1600 from rfl, nI_add, la_254 (by omega), hop, h_if, show (1000 : Int32) = nI 1000 from rfl]
      simp only [nI_lt' (show r < 2147483648 by omega) (show 1000 < 2147483648 by omega)]
      by_cases c1 : r < 1000
      · rw [if_pos c1, h_if, show (40 : Int32) = nI 40 from rfl]
        simp only [nI_lt' (show r < 2147483648 by omega) (show 40 < 2147483648 by omega)]
        by_cases c2 : r < 40
        · rw [if_pos c2, h_if, show (13 : Int32) = nI 13 from rfl]
          simp only [nI_inj (show r < 2147483648 by omega) (show 13 < 2147483648 by omega)]
          by_cases c3 : r = 13
          · rw [if_pos c3]
            exact push 1 (by rw [hcc.2.2.1 c3]; rfl)
          · rw [if_neg c3, h_if, show (12 : Int32) = nI 12 from rfl]
            simp only [nI_inj (show r < 2147483648 by omega) (show 12 < 2147483648 by omega)]
            by_cases c4 : r = 12
            · rw [if_pos c4]
              have e0 := hcc.2.2.2.1 c4
              rw [e0] at hs hr1 hst1 step
              match fl, st, hr, hs, hp0, hst, hr1, hst1, hn, step with
              | a :: fr, x :: t, hr, hs, hp0, hst, hr1, hst1, hn, step =>
                have e1 : e_step F 30001 (x :: t) = (if x = 0 then 1 else 0) :: t := by
                  simp [e_step, e_one]
                have hx01 : x = 0 ∨ x = 1 := by
                  simp only [w_step] at hs
                  by_cases qa : a = true
                  · exact hr.1.1 qa
                  · simp [qa] at hs
                rw [e1] at step
                simp only [List.length_cons] at hst hl hn
                rw [gr_215_110, gi_215, hn, nI_pred, gr_215_110, gi_215, hn, nI_pred, ll_295 (by omega), l_pile_top hp0, sl_295 (by omega), show (1 : Int64) - cl x = cl (1 - x) from by rw [show (1 : Int64) = cl 1 from rfl, cl_sub]]
                refine step _ _ (fun x _ => rfl) (fun k _ => rfl) (by rw [hn, List.length_cons]) (fun a ha => u2r ha) ?_
                refine l_pile_push (f := L 295) (l_pile_tail hp0) ?_ (fun i hi => by rw [u2_ap, if_neg (by omega)])
                rw [u2_ap, if_pos ⟨rfl, rfl⟩]
                rcases hx01 with rfl | rfl <;> rfl
              | [], [], _, hs, _, _, _, _, _, _ => simp [w_step] at hs
            · rw [if_neg c4]
              have e0 := hcc.2.2.2.2 (by unfold c_ok at hokr; omega)
              have hop2 : 20001 ≤ c_cc r ∧ c_cc r ≤ 20011 := by unfold c_ok at hokr; omega
              unfold w_step at hs
              rw [if_neg (by omega), if_pos (by omega)] at hs
              match fl, st, hr, hs, hp0, hst, hr1, hst1, hn, step with
              | b :: a :: fr, y :: x :: t, hr, hs, hp0, hst, hr1, hst1, hn, step =>
                have e1 : e_step F (c_cc r) (y :: x :: t) = e_two (c_cc r) x y :: t := by
                  unfold e_step
                  rw [if_neg (by omega), if_neg (by omega), if_pos (by omega)]
                rw [e1] at step
                obtain ⟨⟨b1, b2⟩, ⟨a1, a2⟩, hr⟩ := hr
                have h21 : r = 10 ∨ r = 11 → (x = 0 ∨ x = 1) ∧ (y = 0 ∨ y = 1) := by
                  simp only at hs
                  split at hs
                  · intro q; omega
                  · split at hs
                    · intro q; omega
                    · split at hs
                      · rename_i q
                        exact fun _ => ⟨a1 q.2.1, b1 q.2.2⟩
                      · cases hs
                simp only [List.length_cons] at hst hl hn
                obtain ⟨I1, L1, q1, q2, q3, q4, q5, q6, q7⟩ := X12_qJoins_h (L := L) (ρ := ρ) (r := r) (n := t.length) (x := x) (y := y) (by omega) (by omega) a2 b2 h21 hn (by omega) (l_pile_top hp0) (l_pile_top (l_pile_tail hp0))
                rw [rc_215, h_cv q1]
                refine step I1 L1 q2 q3 (by rw [q4, List.length_cons]) q5 ?_
                rw [e0.1]
                exact l_pile_push (f := L 295) (l_pile_tail (l_pile_tail hp0)) q6 q7
              | [_], [_], _, hs, _, _, _, _, _, _ => cases hs
              | [], [], _, hs, _, _, _, _, _, _ => cases hs
              | [_], _ :: _ :: _, hr, _, _, _, _, _, _, _ => exact hr.2.elim
        · have e0 := hcc.2.1 (by omega) c1
          rw [if_neg c2, rc_215, pk_sub (by omega), h_cl (hP I L r f1 f2 (by omega) (by unfold c_ok at hokr; omega) hxr)]
          exact push _ (by unfold e_step; rw [if_neg (by omega), if_pos (by omega)])
      · have e0 := hcc.1 (by omega)
        rw [if_neg c1, pk_sub (by omega), nI_l (by omega), show lN (r - 1000) = cl ((r - 1000 : Nat) : Int) from (Int64.ofInt_eq_ofNat).symm]
        exact push _ (by unfold e_step; rw [if_pos (by omega), e0.1])
end B31
