/-! small calls: fault, status, octet, kept, seed, end, feed -/
section B41
variable {I : Nat → Nat → Int32} {L : Nat → Nat → Int64} {ρ : zRh} {h : zH} {A : aT} {N : Nat}
def mkA (T : Nat → Int32) (n : Nat) (C : cT) (nm : Nat → Nat) (kc : Nat) (s : sT) (K : kT) (P : List (sT × kT)) (V : List (Nat × Nat × Nat)) (O : Nat → Int32) (m : Nat) (R : Nat → Nat) (f : Int32 × Int32) (D : Int) : aT := ((T, n), C, (nm, kc), s, K, P, V, (O, m), R, f, D)
def wT (A : aT) (T : Nat → Int32) (n : Nat) : aT := mkA T n (a_C A) (a_nm A) (a_kc A) (a_s A) (a_K A) (a_P A) (a_V A) (a_O A) (a_m A) (a_R A) (a_f A) (a_D A)
def wR (A : aT) (R : Nat → Nat) : aT := mkA (a_T A) (a_n A) (a_C A) (a_nm A) (a_kc A) (a_s A) (a_K A) (a_P A) (a_V A) (a_O A) (a_m A) R (a_f A) (a_D A)
def wD (A : aT) (D : Int) : aT := mkA (a_T A) (a_n A) (a_C A) (a_nm A) (a_kc A) (a_s A) (a_K A) (a_P A) (a_V A) (a_O A) (a_m A) (a_R A) (a_f A) D
/-- one refusal more -/
def rfA (A : aT) (j : Nat) : aT := wR A (fun i => if i = j then a_R A i + 1 else a_R A i)
theorem okA_rf {j : Nat} (h : okA A) : okA (rfA A j) := h
theorem okA_wD {d : Int} (h : okA A) (h1 : 0 ≤ d) (h2 : d < 2147483648) : okA (wD A d) := ⟨h.1, h.2.1, h.2.2.1, h.2.2.2.1, h.2.2.2.2.1, h.2.2.2.2.2.1, h.2.2.2.2.2.2.1, ⟨h1, h2⟩, h.2.2.2.2.2.2.2.2⟩
theorem okA_wT {T : Nat → Int32} {n : Nat} (h : okA A) (h1 : n ≤ 1600) (h2 : ∀ j, j < n → ∃ b, b < 256 ∧ T j = nI b) : okA (wT A T n) := ⟨h.1, ⟨h1, h2⟩, h.2.2⟩
theorem cur_A {c c' : Nat} {B : aT} (hc : a_C B = a_C A) (hn : a_nm B = a_nm A) (hk : a_kc B = a_kc A) (h : curX c c' I ρ A) : curX c c' I ρ B := by
  unfold curX
  rw [hc, hn, hk]
  exact h
/-- the church's part, where its rows stay -/
theorem cur_of {I I' : Nat → Nat → Int32} {B : aT} (hc : a_C B = a_C A) (hn : a_nm B = a_nm A) (hk : a_kc B = a_kc A) (h : ∀ a, 13 ≤ a → a ≤ 39 → I' a = I a) (hX : curX 13 27 I ρ A ∨ curX 27 13 I ρ A) : curX 13 27 I' ρ B ∨ curX 27 13 I' ρ B := by
  rcases hX with h1 | h1
  · exact Or.inl (cur_A (A := A) hc hn hk (cur_fr (Or.inl ⟨rfl, rfl⟩) (fun a ha => h a (by omega) (by omega)) h1))
  · exact Or.inr (cur_A (A := A) hc hn hk (cur_fr (Or.inr ⟨rfl, rfl⟩) (fun a ha => h a (by omega) (by omega)) h1))
theorem X11_refuse_A (hX : RelX I L ρ A N) {j : Nat} (hj : j < 6) : RelX (u2 I 214 j (I 214 j + 1)) L ρ (rfA A j) N := by
  obtain ⟨h1, h2, h3, h4, h5, h6, h7, h8, h9⟩ := hX
  refine ⟨cur_of (A := A) rfl rfl rfl (fun a x y => u2r (by omega)) h1, ?_, stX_fr (fun a x y => u2r (by omega)) h3, pa_fr (fun a x y => u2r (by omega)) (Nat.le_refl _) h4, ?_, ?_, fun i hi => ?_, ?_, h9⟩
  · rw [u2r (show (0 : Nat) ≠ 214 by decide), u2r (show (1 : Nat) ≠ 214 by decide)]; exact h2
  · rw [u2r (show (0 : Nat) ≠ 214 by decide), u2r (show (212 : Nat) ≠ 214 by decide)]; exact h5
  · rw [u2r (show (0 : Nat) ≠ 214 by decide), u2r (show (213 : Nat) ≠ 214 by decide)]; exact h6
  · rw [u2_ap]
    show _ = nI (if i = j then a_R A i + 1 else a_R A i)
    by_cases q : i = j
    · rw [if_pos ⟨rfl, q⟩, if_pos q, ← q, h7 i hi, nI_1]
    · rw [if_neg (fun c => q c.2), if_neg q, h7 i hi]
  · rw [u2r (show (0 : Nat) ≠ 214 by decide)]; exact h8
theorem X11_refuse_run (hX : RelX I L ρ A N) {j : Nat} (hj : j < 6) : runX (X11_refuse 0 (nI j)) I L ρ (.int (-1)) (rfA A j) N :=
  ⟨_, _, ρ, X11_refuse_h hj, X11_refuse_A hX hj, fun a ha => ⟨u2r (by omega), rfl⟩⟩
theorem refuse_M (hM : RelM I L A) {j : Nat} (hj : j < 6) : RelM (u2 I 217 j (I 217 j + 1)) L (rfA A j) := by
  obtain ⟨h1, h2, h3, h4, h5, h6, h7, h8, h9, h10, h11, h12⟩ := hM
  refine ⟨chM_fr (fun a ha => u2r (by omega)) (by rw [u2r (by decide)]) h1, ?_, ?_, ?_, ?_, ?_, ?_, ?_, fun i hi => ?_, ?_, h11, ?_⟩
  · rw [u2r (show (246 : Nat) ≠ 217 by decide)]; exact h2
  · rw [u2r (show (215 : Nat) ≠ 217 by decide), u2r (show (216 : Nat) ≠ 217 by decide)]; exact h3
  · rw [u2r (show (255 : Nat) ≠ 217 by decide)]; exact h4
  · rw [u2r (show (215 : Nat) ≠ 217 by decide)]; exact h5
  · unfold paM
    rw [u2r (show (215 : Nat) ≠ 217 by decide), u2r (show (266 : Nat) ≠ 217 by decide)]; exact h6
  · rw [u2r (show (215 : Nat) ≠ 217 by decide), u2r (show (264 : Nat) ≠ 217 by decide)]; exact h7
  · rw [u2r (show (215 : Nat) ≠ 217 by decide), u2r (show (296 : Nat) ≠ 217 by decide)]; exact h8
  · rw [u2_ap]
    show _ = nI (if i = j then a_R A i + 1 else a_R A i)
    by_cases q : i = j
    · rw [if_pos ⟨rfl, q⟩, if_pos q, ← q, h9 i hi, nI_1]
    · rw [if_neg (fun c => q c.2), if_neg q, h9 i hi]
  · rw [u2r (show (215 : Nat) ≠ 217 by decide)]; exact h10
  · intro q hq i hi
    have := wdL_at q hq
    rw [u2r (by omega)]
    exact h12 q hq i hi
theorem i32_in (v : Int32) : -2147483648 ≤ v.toInt ∧ v.toInt < 2147483648 := by
  have h1 := v.le_toInt
  have h2 := v.toInt_lt
  omega
theorem i64_of (v : Int32) : v.toInt64 = cl v.toInt := by
  have h := i32_in v
  have e := cl_ci (x := v.toInt) h.1 h.2
  rw [ci_of] at e
  exact e
theorem v_neg {v : Int32} : v < 0 ↔ v.toInt < 0 := by
  rw [Int32.lt_iff_toInt_lt]
  rfl
theorem nI_toI {j : Nat} (h : j < 2147483648) : (nI j).toInt = j := nI_toInt (by omega)
/-! fault -/
def r_fault (A : aT) (v : Int32) : Int32 := if v = 0 then (a_f A).1 else if v = 1 then (a_f A).2 else -1
theorem X11_fault_r (hX : RelX I L ρ A N) (v : Int32) : runX (X11_fault 0 v) I L ρ (.int (r_fault A v)) A N := by
  refine runX_same (I' := I) hX ?_ (fun _ _ => rfl)
  unfold X11_fault r_fault
  rw [h_if]
  by_cases c : v = 0
  · rw [if_pos c, if_pos c, gi_0, hX.2.2.2.2.2.2.2.1.1]; rfl
  · rw [if_neg c, if_neg c, h_if]
    by_cases c2 : v = 1
    · rw [if_pos c2, if_pos c2, gi_0, hX.2.2.2.2.2.2.2.1.2]; rfl
    · rw [if_neg c2, if_neg c2]; rfl
theorem X12_fault_r (hM : RelM I L A) (v : Int32) : runM (X12_fault 215 v) I L ρ (.int (r_fault A v)) A := by
  refine runM_same (I' := I) (L' := L) hM ?_ (fun _ _ => rfl) (fun _ _ => rfl) (fun _ _ => rfl)
  unfold X12_fault r_fault
  rw [h_if]
  by_cases c : v = 0
  · rw [if_pos c, if_pos c, gi_215, hM.2.2.2.2.2.2.2.2.2.1.1]; rfl
  · rw [if_neg c, if_neg c, h_if]
    by_cases c2 : v = 1
    · rw [if_pos c2, if_pos c2, gi_215, hM.2.2.2.2.2.2.2.2.2.1.2]; rfl
    · rw [if_neg c2, if_neg c2]; rfl
/-! status -/
def r_status (A : aT) (v : Int32) : Int32 := if v < 0 then -1 else if v.toNatClampNeg < 6 then nI (a_R A v.toNatClampNeg) else -1
theorem X11_status_r (hX : RelX I L ρ A N) (v : Int32) : runX (X11_status 0 v) I L ρ (.int (r_status A v)) A N := by
  refine runX_same (I' := I) hX ?_ (fun _ _ => rfl)
  unfold X11_status r_status
  rw [h_if]
  by_cases c : v < 0
  · rw [if_pos c, if_pos c]; rfl
  · rw [if_neg c, if_neg c]
    obtain ⟨j, hj, rfl⟩ := Int32_of c
    rw [gr_0_16, len_214, h_if, nI_clamp (by omega)]
    simp only [nI_le' (show 6 < 2147483648 by omega) hj]
    by_cases c2 : j < 6
    · rw [if_neg (by omega), if_pos c2, gr_0_16, la_214 c2, hX.2.2.2.2.2.2.1 j c2]; rfl
    · rw [if_pos (by omega), if_neg c2]; rfl
theorem X12_status_r (hM : RelM I L A) (v : Int32) : runM (X12_status 215 v) I L ρ (.int (r_status A v)) A := by
  refine runM_same (I' := I) (L' := L) hM ?_ (fun _ _ => rfl) (fun _ _ => rfl) (fun _ _ => rfl)
  have hv := i32_in v
  unfold X12_status r_status
  rw [i64_of, h_ci (show X12_isIn _ 0 5 _ = _ from X12_isIn_h (a := 0) (b := 5) hv (by omega) (by omega)), h_if]
  simp only [bI_0, decide_eq_false_iff_not, v_neg]
  by_cases c : v.toInt < 0
  · rw [if_pos (by omega), if_pos c]; rfl
  · rw [if_neg c]
    obtain ⟨j, hj, rfl⟩ := Int32_of (fun h => c (v_neg.mp h))
    rw [nI_clamp (by omega), nI_toI hj]
    by_cases c2 : j < 6
    · rw [if_neg (by omega), if_pos c2, gr_215_9, la_217 c2, hM.2.2.2.2.2.2.2.2.1 j c2]; rfl
    · rw [if_pos (by omega), if_neg c2]; rfl
/-! octet -/
def r_octet (A : aT) (v : Int32) : Int32 := if v < 0 then -1 else if v.toNatClampNeg < a_m A then a_O A v.toNatClampNeg else -1
theorem X11_octet_r (hok : okA A) (hX : RelX I L ρ A N) (v : Int32) : runX (X11_octet 0 v) I L ρ (.int (r_octet A v)) A N := by
  refine runX_same (I' := I) hX ?_ (fun _ _ => rfl)
  have hm := hok.2.2.2.2.2.2.1
  unfold X11_octet r_octet
  rw [h_if]
  by_cases c : v < 0
  · rw [if_pos c, if_pos c]; rfl
  · rw [if_neg c, if_neg c]
    obtain ⟨j, hj, rfl⟩ := Int32_of c
    rw [gi_0, hX.2.2.2.2.2.1.1, h_if, nI_clamp (by omega)]
    simp only [nI_le' (show a_m A < 2147483648 by omega) hj]
    by_cases c2 : j < a_m A
    · rw [if_neg (by omega), if_pos c2, gr_0_14, la_213 (by omega), hX.2.2.2.2.2.1.2 j c2]; rfl
    · rw [if_pos (by omega), if_neg c2]; rfl
theorem X12_octet_r (hok : okA A) (hM : RelM I L A) (v : Int32) : runM (X12_octet 215 v) I L ρ (.int (r_octet A v)) A := by
  refine runM_same (I' := I) (L' := L) hM ?_ (fun _ _ => rfl) (fun _ _ => rfl) (fun _ _ => rfl)
  have hm := hok.2.2.2.2.2.2.1
  unfold X12_octet r_octet
  rw [h_if]
  by_cases c : v < 0
  · rw [if_pos c, if_pos c]; rfl
  · rw [if_neg c, if_neg c]
    obtain ⟨j, hj, rfl⟩ := Int32_of c
    rw [gi_215, hM.2.2.2.2.2.2.2.1.1, h_if, nI_clamp (by omega)]
    simp only [nI_le' (show a_m A < 2147483648 by omega) hj]
    by_cases c2 : j < a_m A
    · rw [if_neg (by omega), if_pos c2, gr_215_114, la_296 (by omega), hM.2.2.2.2.2.2.2.1.2 j c2]; rfl
    · rw [if_pos (by omega), if_neg c2]; rfl
/-! seed -/
def r_seed (v : Int32) : Int32 := if 0 ≤ v then 1 else 0
def n_seed (A : aT) (v : Int32) : aT := if 0 ≤ v then wD A v.toInt else rfA A 5
theorem seed_ok (hok : okA A) (v : Int32) : okA (n_seed A v) := by
  unfold n_seed
  split
  · rename_i c
    have h := i32_in v
    have : 0 ≤ v.toInt := by rw [Int32.le_iff_toInt_le] at c; exact c
    exact okA_wD hok this h.2
  · exact okA_rf hok
theorem X11_seed_r (hX : RelX I L ρ A N) (v : Int32) : runX (X11_seed 0 v) I L ρ (.int (r_seed v)) (n_seed A v) N := by
  unfold X11_seed r_seed n_seed
  by_cases c : 0 ≤ v
  · refine ⟨I, u2 L 0 19 (cl v.toInt), ρ, ?_, ?_, fun a ha => ⟨rfl, u2r (by omega)⟩⟩
    · rw [h_if, if_pos c, pl_0, if_pos c, i64_of]; rfl
    · rw [if_pos c]
      obtain ⟨h1, h2, h3, h4, h5, h6, h7, h8, h9⟩ := hX
      exact ⟨cur_of (A := A) rfl rfl rfl (fun _ _ _ => rfl) h1, h2, h3, h4, h5, h6, h7, h8, by rw [u2_ap, if_pos ⟨rfl, rfl⟩]; rfl⟩
  · refine ⟨u2 I 214 5 (I 214 5 + 1), L, ρ, ?_, ?_, fun a ha => ⟨u2r (by omega), rfl⟩⟩
    · rw [h_if, if_neg c, rc_0, h_ci (show X11_refuse 0 5 _ = _ from X11_refuse_h (j := 5) (by omega)), if_neg c]; rfl
    · rw [if_neg c]
      exact X11_refuse_A hX (by omega)
theorem X12_seed_r (hM : RelM I L A) (v : Int32) : runM (X12_seed 215 v) I L ρ (.int (r_seed v)) (n_seed A v) := by
  unfold X12_seed r_seed n_seed
  by_cases c : 0 ≤ v
  · refine ⟨I, u2 L 215 77 (cl v.toInt), ?_, ?_, fun a ha => ⟨rfl, u2r (by omega)⟩⟩
    · rw [h_if, if_pos c, pl_215, if_pos c, i64_of]; rfl
    · rw [if_pos c]
      obtain ⟨h1, h2, h3, h4, h5, h6, h7, h8, h9, h10, h11, h12⟩ := hM
      exact ⟨h1, by rw [u2r (show (247 : Nat) ≠ 215 by decide)]; exact h2, h3, h4, h5, h6, h7, h8, h9, h10, by rw [u2_ap, if_pos ⟨rfl, rfl⟩]; rfl, h12⟩
  · refine ⟨u2 I 217 5 (I 217 5 + 1), L, ?_, ?_, fun a ha => ⟨u2r (by omega), rfl⟩⟩
    · rw [h_if, if_neg c, rc_215, h_ci (show X12_isRefused 215 5 _ = _ from X12_isRefused_h (j := 5) (by omega)), if_neg c]; rfl
    · rw [if_neg c]
      exact refuse_M hM (by omega)
/-! end -/
def r_end (A : aT) (v : Int32) : Int32 := if v < 0 ∨ a_n A < v.toNatClampNeg then 0 else 1
def n_end (A : aT) (v : Int32) : aT := if v < 0 ∨ a_n A < v.toNatClampNeg then rfA A 0 else wT A (a_T A) v.toNatClampNeg
theorem end_ok (hok : okA A) (v : Int32) : okA (n_end A v) := by
  unfold n_end
  split
  · exact okA_rf hok
  · rename_i c
    have h1 := hok.2.1
    exact okA_wT hok (by omega) (fun j hj => h1.2 j (by omega))
theorem X11_end_r (hok : okA A) (hX : RelX I L ρ A N) (v : Int32) : runX (X11_end 0 v) I L ρ (.int (r_end A v)) (n_end A v) N := by
  have hn := hok.2.1.1
  have hj0 : X11_end_J12 0 (hp I L ρ) = some (some (.int 0), hp (u2 I 214 0 (I 214 0 + 1)) L ρ) := by
    unfold X11_end_J12
    rw [rc_0, h_ci (show X11_refuse 0 0 _ = _ from X11_refuse_h (j := 0) (by omega))]; rfl
  unfold X11_end r_end n_end
  by_cases c : v < 0
  · refine ⟨_, L, ρ, by rw [h_if, if_pos c, if_pos (Or.inl c)]; exact hj0, ?_, fun a ha => ⟨u2r (by omega), rfl⟩⟩
    rw [if_pos (Or.inl c)]
    exact X11_refuse_A hX (by omega)
  · obtain ⟨j, hj, rfl⟩ := Int32_of c
    rw [nI_clamp (by omega)]
    by_cases c2 : a_n A < j
    · refine ⟨u2 I 214 0 (I 214 0 + 1), L, ρ, ?_, ?_, fun a ha => ⟨u2r (by omega), rfl⟩⟩
      · rw [h_if, if_neg c, if_pos (Or.inr c2), gi_0, hX.2.1.1, h_if, if_neg (nI_ge c2 (by omega))]; exact hj0
      · rw [if_pos (Or.inr c2)]
        exact X11_refuse_A hX (by omega)
    · refine ⟨u2 I 0 1 (nI j), L, ρ, ?_, ?_, fun a ha => ⟨u2r (by omega), rfl⟩⟩
      · rw [h_if, if_neg c, if_neg (by rintro (q | q); exact c q; exact c2 q), gi_0, hX.2.1.1, h_if, if_pos (nI_le (by omega) (by omega)), pi_0]; rfl
      · rw [if_neg (by rintro (q | q); exact c q; exact c2 q)]
        obtain ⟨h1, h2, h3, h4, h5, h6, h7, h8, h9⟩ := hX
        refine ⟨cur_of (A := A) rfl rfl rfl (fun a x y => u2r (by omega)) h1, ⟨by rw [u2_ap, if_pos ⟨rfl, rfl⟩]; rfl, fun k hk => ?_⟩, stX_fr (fun a x y => u2r (by omega)) h3, pa_fr (fun a x y => u2r (by omega)) (Nat.le_refl _) h4, ?_, ?_, ?_, ?_, h9⟩
        · rw [u2r (show (1 : Nat) ≠ 0 by decide)]
          exact h2.2 k (Nat.lt_of_lt_of_le hk (by show j ≤ a_n A; omega))
        · rw [u2_ap, if_neg (by omega), u2r (show (212 : Nat) ≠ 0 by decide)]; exact h5
        · rw [u2_ap, if_neg (by omega), u2r (show (213 : Nat) ≠ 0 by decide)]; exact h6
        · rw [u2r (show (214 : Nat) ≠ 0 by decide)]; exact h7
        · rw [u2_ap, if_neg (by omega), u2_ap, if_neg (by omega)]; exact h8
/-- a field of the reference's that is none of what lasts is another -/
theorem fieldM_M {I' : Nat → Nat → Int32} {B : aT} (hM : RelM I L A) (h0 : ∀ a, a ≠ 215 → I' a = I a) (hf : ∀ k, fieldM k → k ≠ 1 → I' 215 k = I 215 k) (hB : B = wT A (a_T B) (a_n B)) (ht : I' 215 1 = nI (a_n B) ∧ ∀ j, j < a_n B → I' 216 j = a_T B j) : RelM I' L B := by
  obtain ⟨h1, h2, h3, h4, h5, h6, h7, h8, h9, h10, h11, h12⟩ := hM
  have e : ∀ {X : aT → Prop}, X (wT A (a_T B) (a_n B)) → X B := fun {X} h => by rw [hB]; exact h
  rw [hB]
  have q : ∀ k, fieldM k → k ≠ 1 → I' 215 k = I 215 k := hf
  refine ⟨chM_fr (fun a ha => h0 a (by omega)) (q 53 (by unfold fieldM; omega) (by omega)) h1, ?_, ?_, ?_, ?_, ?_, ?_, ?_, ?_, ?_, h11, ?_⟩
  · rw [h0 246 (by omega)]; exact h2
  · exact ht
  · rw [h0 255 (by omega)]; exact h4
  · rw [q 54 (by unfold fieldM; omega) (by omega), q 64 (by unfold fieldM; omega) (by omega)]; exact h5
  · unfold paM
    rw [q 75 (by unfold fieldM; omega) (by omega), q 76 (by unfold fieldM; omega) (by omega), h0 266 (by omega)]; exact h6
  · rw [q 71 (by unfold fieldM; omega) (by omega), h0 264 (by omega)]; exact h7
  · rw [q 115 (by unfold fieldM; omega) (by omega), h0 296 (by omega)]; exact h8
  · rw [h0 217 (by omega)]; exact h9
  · rw [q 7 (by unfold fieldM; omega) (by omega), q 8 (by unfold fieldM; omega) (by omega)]; exact h10
  · intro x hx i hi
    have := wdL_at x hx
    rw [h0 x.1 (by omega)]
    exact h12 x hx i hi
theorem X12_end_r (hok : okA A) (hM : RelM I L A) (v : Int32) : runM (X12_end 215 v) I L ρ (.int (r_end A v)) (n_end A v) := by
  have hn := hok.2.1.1
  have hj0 : X12_end_J12 215 (hp I L ρ) = some (some (.int 0), hp (u2 I 217 0 (I 217 0 + 1)) L ρ) := by
    unfold X12_end_J12
    rw [gr_215_9, lal_0, la_217 (by decide), sal_0, sa_217 (by decide)]; rfl
  unfold X12_end r_end n_end
  by_cases c : v < 0
  · refine ⟨_, L, by rw [h_if, if_pos c, if_pos (Or.inl c)]; exact hj0, ?_, fun a ha => ⟨u2r (by omega), rfl⟩⟩
    rw [if_pos (Or.inl c)]
    exact refuse_M hM (by omega)
  · obtain ⟨j, hj, rfl⟩ := Int32_of c
    rw [nI_clamp (by omega)]
    by_cases c2 : a_n A < j
    · refine ⟨u2 I 217 0 (I 217 0 + 1), L, ?_, ?_, fun a ha => ⟨u2r (by omega), rfl⟩⟩
      · rw [h_if, if_neg c, if_pos (Or.inr c2), gi_215, hM.2.2.1.1, h_if, if_neg (nI_ge c2 (by omega))]; exact hj0
      · rw [if_pos (Or.inr c2)]
        exact refuse_M hM (by omega)
    · refine ⟨u2 I 215 1 (nI j), L, ?_, ?_, fun a ha => ⟨u2r (by omega), rfl⟩⟩
      · rw [h_if, if_neg c, if_neg (by rintro (q | q); exact c q; exact c2 q), gi_215, hM.2.2.1.1, h_if, if_pos (nI_le (by omega) (by omega)), pi_215]; rfl
      · rw [if_neg (by rintro (q | q); exact c q; exact c2 q)]
        refine fieldM_M hM (fun a ha => u2r ha) (fun k hk h1 => by rw [u2_ap, if_neg (by omega)]) rfl ⟨by rw [u2_ap, if_pos ⟨rfl, rfl⟩]; rfl, fun k hk => ?_⟩
        rw [u2r (show (216 : Nat) ≠ 215 by decide)]
        exact hM.2.2.1.2 k (Nat.lt_of_lt_of_le hk (by show j ≤ a_n A; omega))
end B41
