/-! the whole: what both hold between the calls -/
section B40
variable {I : Nat → Nat → Int32} {L : Nat → Nat → Int64} {ρ : zRh} {h : zH} {C : cT} {s : sT} {K : kT}
/-- a state in a row of numbers, but the sizes -/
def stN (f : Nat → Int32) (C : cT) (s : sT) : Prop := (f 0 = nI (s_sp s) ∧ f 1 = nI (s_rd s)) ∧ (∀ side k, side < 2 → k < k_n C side → f (2 + 6 * side + k) = nI (s_ord s (6 * side + k) - 6 * side)) ∧ ∀ a, k_th C a → f (14 + a) = oI (s_wed s a) ∧ f (26 + a) = nI (s_wai s a) ∧ ∀ k, k < 6 → f (38 + 6 * a + k) = nI (s_lik s (6 * a + k)) ∧ f (110 + 6 * a + k) = nI (s_kno s (6 * a + k))
/-- who is not there is not wed, where a church is told -/
def tdM (f : Nat → Int32) (C : cT) : Prop := k_td C = true → ∀ a, a < 12 → ¬ k_th C a → f (14 + a) = -1
def szM (I : Nat → Nat → Int32) (C : cT) (s : sT) : Prop := ∀ a, k_th C a → (if I 215 54 = nI (k_num C a) then I 215 55 else I 248 (36 + 3 * a + 2)) = nI (s_siz s a)
theorem stM_of (h1 : stN (I 255) C s) (h2 : szM I C s) : stM I C s := ⟨h1.1, h1.2.1, fun a ha => ⟨(h1.2.2 a ha).1, (h1.2.2 a ha).2.1, (h1.2.2 a ha).2.2, h2 a ha⟩⟩
theorem stM_N (h : stM I C s) : stN (I 255) C s := ⟨h.1, h.2.1, fun a ha => ⟨(h.2.2 a ha).1, (h.2.2 a ha).2.1, (h.2.2 a ha).2.2.1⟩⟩
theorem stM_sz (h : stM I C s) : szM I C s := fun a ha => (h.2.2 a ha).2.2.2
theorem k_th_182 (hk : okC C) {a : Nat} (ha : k_th C a) : a < 12 := k_th_lt hk ha
theorem stN_eq (hk : okC C) {f g : Nat → Int32} (h : ∀ j, j < 182 → g j = f j) (hX : stN f C s) : stN g C s := by
  obtain ⟨⟨h1, h2⟩, h3, h4⟩ := hX
  refine ⟨⟨by rw [h 0 (by omega)]; exact h1, by rw [h 1 (by omega)]; exact h2⟩, fun side k a b => ?_, fun a ha => ?_⟩
  · have := k_n_le hk side
    rw [h _ (by omega)]
    exact h3 side k a b
  · have := k_th_lt hk ha
    obtain ⟨q1, q2, q3⟩ := h4 a ha
    refine ⟨by rw [h _ (by omega)]; exact q1, by rw [h _ (by omega)]; exact q2, fun k hk6 => ?_⟩
    rw [h _ (by omega), h _ (by omega)]
    exact q3 k hk6
theorem kpM_eq {f g : Nat → Int32} (h : ∀ j, 182 ≤ j → j < 343 → g j = f j) (hX : kpM f C K) : kpM g C K := by
  obtain ⟨h1, h2, h3⟩ := hX
  refine ⟨by rw [h 182 (by omega) (by omega)]; exact h1, h2, fun i q hq => ?_⟩
  have := (List.getElem?_eq_some_iff.mp hq).1
  rw [h _ (by omega) (by omega), h _ (by omega) (by omega), h _ (by omega) (by omega), h _ (by omega) (by omega)]
  exact h3 i q hq
/-- all that calls show: tape; church; names, how many kin; state; what is kept; the past; what is seen; the picture; refusals; fault; seed -/
abbrev aT : Type := ((Nat → Int32) × Nat) × cT × ((Nat → Nat) × Nat) × sT × kT × List (sT × kT) × List (Nat × Nat × Nat) × ((Nat → Int32) × Nat) × (Nat → Nat) × (Int32 × Int32) × Int
def a_T (A : aT) : Nat → Int32 := A.1.1
def a_n (A : aT) : Nat := A.1.2
def a_C (A : aT) : cT := A.2.1
def a_nm (A : aT) : Nat → Nat := A.2.2.1.1
def a_kc (A : aT) : Nat := A.2.2.1.2
def a_s (A : aT) : sT := A.2.2.2.1
def a_K (A : aT) : kT := A.2.2.2.2.1
def a_P (A : aT) : List (sT × kT) := A.2.2.2.2.2.1
def a_V (A : aT) : List (Nat × Nat × Nat) := A.2.2.2.2.2.2.1
def a_O (A : aT) : Nat → Int32 := A.2.2.2.2.2.2.2.1.1
def a_m (A : aT) : Nat := A.2.2.2.2.2.2.2.1.2
def a_R (A : aT) : Nat → Nat := A.2.2.2.2.2.2.2.2.1
def a_f (A : aT) : Int32 × Int32 := A.2.2.2.2.2.2.2.2.2.1
def a_D (A : aT) : Int := A.2.2.2.2.2.2.2.2.2.2
def okK (K : kT) : Prop := K.length ≤ 40 ∧ ∀ q ∈ K, q.2.2.1 < 12 ∧ q.2.2.2 < 12
def okT (C : cT) (s : sT) : Prop := okS C s ∧ s_sp s ≤ 999 ∧ ∀ a, a < 12 → s_siz s a = k_size C a
def okA (A : aT) : Prop := okC (a_C A) ∧ (a_n A ≤ 1600 ∧ ∀ j, j < a_n A → ∃ b, b < 256 ∧ a_T A j = nI b) ∧ okT (a_C A) (a_s A) ∧ okK (a_K A) ∧ ((a_P A).length ≤ 20 ∧ ∀ q ∈ a_P A, okT (a_C A) q.1 ∧ okK q.2) ∧ ((a_V A).length ≤ 16 ∧ ∀ q ∈ a_V A, q.1 ≤ 30 ∧ k_th (a_C A) q.2.1 ∧ q.2.2 ≤ 1) ∧ a_m A ≤ 184 ∧ (0 ≤ a_D A ∧ a_D A < 2147483648) ∧ (∀ a, k_th (a_C A) a → (∀ k, k < 6 → a_nm A (6 * a + k) ≤ 26) ∧ 1 ≤ a_nm A (6 * a) ∧ ∀ k, k + 1 < 6 → a_nm A (6 * a + k) = 0 → a_nm A (6 * a + (k + 1)) = 0) ∧ a_kc A ≤ 60
/-! the class -/
/-- what stands where a log of what is kept is written around -/
def lgX (I : Nat → Nat → Int32) (hw : Nat) (lg : Nat → Nat × Nat × Nat × Nat) : Prop := ∀ i, i < hw → hw ≤ i + 160 → I 71 (4 * (i % 160)) = nI (lg i).1 ∧ I 71 (4 * (i % 160) + 1) = nI (lg i).2.1 ∧ I 71 (4 * (i % 160) + 2) = nI (lg i).2.2.1 ∧ I 71 (4 * (i % 160) + 3) = nI (lg i).2.2.2
/-- the last of a log up to k -/
def lgK (lg : Nat → Nat × Nat × Nat × Nat) (k : Nat) (K : kT) : Prop := K.length = min k 40 ∧ ∀ i, i < K.length → K[i]? = some (lg (k - K.length + i))
/-- the past: what was kept at each act (κ 0: now), and a high mark of what was written; g: how many are kept since the newest act -/
def paG (g : Nat) (I : Nat → Nat → Int32) (K : kT) (P : List (sT × kT)) (N : Nat) : Prop := ∃ (hw nx : Nat) (lg : Nat → Nat × Nat × Nat × Nat) (κ : Nat → Nat), (I 68 5 = nI (κ 0) ∧ I 68 0 = nI P.length ∧ I 68 1 = nI nx ∧ nx < 20) ∧ lgX I hw lg ∧ (κ 0 ≤ hw ∧ hw ≤ κ 0 + 120 ∧ hw ≤ N) ∧ lgK lg (κ 0) K ∧ (∀ i q, P[i]? = some q → stX (72 + 7 * ((nx + 19 - i) % 20)) I q.1 ∧ I 70 ((nx + 19 - i) % 20) = nI (κ (i + 1)) ∧ hw ≤ κ (i + 1) + 120 ∧ lgK lg (κ (i + 1)) q.2) ∧ (∀ i j, i ≤ j → j ≤ P.length → κ j ≤ κ i ∧ (1 ≤ i → κ i ≤ κ j + 6 * (j - i)) ∧ (1 ≤ j → κ 0 ≤ κ j + 6 * (j - 1) + g))
abbrev paX (I : Nat → Nat → Int32) (K : kT) (P : List (sT × kT)) (N : Nat) : Prop := paG 6 I K P N
def spX (c : Nat) (I : Nat → Nat → Int32) : Prop := ∀ j, j < 12 → ∃ x y z, (x ≤ 9 ∧ y ≤ 9 ∧ z ≤ 9) ∧ I (c + 3) j = nI x ∧ I (c + 4) j = nI y ∧ I (c + 5) j = nI z
def curX (c c' : Nat) (I : Nat → Nat → Int32) (ρ : zRh) (A : aT) : Prop := (ρ.1 = c ∧ ρ.2.1 = c' ∧ ρ.2.2.1 = c) ∧ chX c I (a_C A) ∧ (I c 6 = nI (a_kc A) ∧ ∀ a k, k_th (a_C A) a → k < 6 → I (c + 2) (6 * a + k) = nI (a_nm A (6 * a + k))) ∧ spX c' I
def RelX (I : Nat → Nat → Int32) (L : Nat → Nat → Int64) (ρ : zRh) (A : aT) (N : Nat) : Prop := (curX 13 27 I ρ A ∨ curX 27 13 I ρ A) ∧ (I 0 1 = nI (a_n A) ∧ ∀ j, j < a_n A → I 1 j = a_T A j) ∧ stX 41 I (a_s A) ∧ paX I (a_K A) (a_P A) N ∧ (I 0 13 = nI (a_V A).length ∧ ∀ i q, (a_V A)[i]? = some q → I 212 (3 * i) = nI q.1 ∧ I 212 (3 * i + 1) = nI q.2.1 ∧ I 212 (3 * i + 2) = nI q.2.2) ∧ (I 0 15 = nI (a_m A) ∧ ∀ k, k < a_m A → I 213 k = a_O A k) ∧ (∀ j, j < 6 → I 214 j = nI (a_R A j)) ∧ (I 0 17 = (a_f A).1 ∧ I 0 18 = (a_f A).2) ∧ L 0 19 = cl (a_D A)
/-- rows that last between the calls -/
def lastX (a : Nat) : Prop := a < 2 ∨ (13 ≤ a ∧ a ≤ 25) ∨ (27 ≤ a ∧ a ≤ 39) ∨ (41 ≤ a ∧ a ≤ 47) ∨ (68 ≤ a ∧ a < 215)
theorem cur_fr {c c' : Nat} {I I' : Nat → Nat → Int32} {A : aT} (hc : (c = 13 ∧ c' = 27) ∨ (c = 27 ∧ c' = 13)) (h : ∀ a, (13 ≤ a ∧ a ≤ 25) ∨ (27 ≤ a ∧ a ≤ 39) → I' a = I a) (hX : curX c c' I ρ A) : curX c c' I' ρ A := by
  obtain ⟨h1, h2, h3, h4⟩ := hX
  have hh : ∀ a, (c ≤ a ∧ a < c + 13) ∨ (c' ≤ a ∧ a < c' + 13) → I' a = I a := fun a ha => h a (by omega)
  refine ⟨h1, chX_fr (fun a q1 q2 => hh a (by omega)) h2, ?_, ?_⟩
  · rw [hh c (by omega), hh (c + 2) (by omega)]; exact h3
  · unfold spX
    rw [hh (c' + 3) (by omega), hh (c' + 4) (by omega), hh (c' + 5) (by omega)]
    exact h4
theorem pa_fr {g : Nat} {I I' : Nat → Nat → Int32} {P : List (sT × kT)} {N N' : Nat} (h : ∀ a, 68 ≤ a → a < 212 → I' a = I a) (hN : N ≤ N') (hX : paG g I K P N) : paG g I' K P N' := by
  obtain ⟨hw, nx, lg, κ, h1, h2, h3, h4, h5, h6⟩ := hX
  refine ⟨hw, nx, lg, κ, ?_, ?_, ⟨h3.1, h3.2.1, by omega⟩, h4, fun i q hq => ?_, h6⟩
  · rw [h 68 (by omega) (by omega)]; exact h1
  · unfold lgX
    rw [h 71 (by omega) (by omega)]
    exact h2
  · obtain ⟨q1, q2, q3⟩ := h5 i q hq
    have hm : (nx + 19 - i) % 20 < 20 := Nat.mod_lt _ (by omega)
    refine ⟨stX_fr (fun a x y => h a (by omega) (by omega)) q1, ?_, q3⟩
    rw [h 70 (by omega) (by omega)]
    exact q2
theorem RelX_fr {I I' : Nat → Nat → Int32} {L L' : Nat → Nat → Int64} {A : aT} {N N' : Nat} (h : ∀ a, lastX a → I' a = I a) (hL : L' 0 = L 0) (hN : N ≤ N') (hX : RelX I L ρ A N) : RelX I' L' ρ A N' := by
  obtain ⟨h1, h2, h3, h4, h5, h6, h7, h8, h9⟩ := hX
  have e0 : I' 0 = I 0 := h 0 (by unfold lastX; omega)
  have e1 : I' 1 = I 1 := h 1 (by unfold lastX; omega)
  refine ⟨?_, ?_, stX_fr (fun a x y => h a (by unfold lastX; omega)) h3, pa_fr (fun a x y => h a (by unfold lastX; omega)) hN h4, ?_, ?_, ?_, ?_, ?_⟩
  · rcases h1 with h1 | h1
    · exact Or.inl (cur_fr (Or.inl ⟨rfl, rfl⟩) (fun a ha => h a (by unfold lastX; omega)) h1)
    · exact Or.inr (cur_fr (Or.inr ⟨rfl, rfl⟩) (fun a ha => h a (by unfold lastX; omega)) h1)
  · rw [e0, e1]; exact h2
  · rw [e0, h 212 (by unfold lastX; omega)]; exact h5
  · rw [e0, h 213 (by unfold lastX; omega)]; exact h6
  · rw [h 214 (by unfold lastX; omega)]; exact h7
  · rw [e0]; exact h8
  · rw [hL]; exact h9
/-! the reference -/
/-- a name as a number: its letters, 27 to each -/
def p_nmv (f : Nat → Nat) : Nat → Nat
  | 0 => 0
  | k + 1 => if f k = 0 then p_nmv f k else 27 * p_nmv f k + f k
def wdL : List (Nat × List Nat) := [(218, [108, 101, 102, 116]), (219, [114, 105, 103, 104, 116]), (220, [119, 97, 114, 109]), (221, [119, 111, 114, 107]), (222, [115, 105, 122, 101]), (223, [107, 105, 110]), (224, [108, 105, 107, 101, 115]), (225, [107, 110, 111, 119, 115]), (226, [114, 111, 117, 110, 100, 115]), (227, [102, 101, 101, 108, 115]), (228, [108, 101, 116, 115]), (229, [108, 101, 97, 114, 110, 115]), (230, [115, 108, 105, 112]), (231, [108, 105, 107, 105, 110, 103]), (232, [107, 110, 111, 119, 110]), (233, [102, 101, 101, 108]), (234, [114, 111, 117, 110, 100]), (235, [115, 112, 114, 105, 110, 103]), (236, [119, 97, 105, 116, 101, 100]), (237, [110, 117, 109, 98, 101, 114]), (238, [115, 105, 100, 101]), (239, [119, 101, 100]), (240, [111, 114]), (241, [97, 110, 100]), (242, [110, 111, 116]), (243, [97, 108, 108]), (244, [109, 105, 110]), (245, [109, 97, 120]), (267, [102, 105, 114, 115, 116]), (268, [108, 97, 115, 116]), (269, [111, 102, 116, 101, 110]), (270, [116, 111, 116, 97, 108]), (271, [109, 111, 115, 116]), (272, [108, 101, 97, 115, 116]), (273, [110, 111, 116]), (274, [97, 110, 100]), (275, [111, 114]), (276, [97, 108, 108]), (277, [109, 105, 110]), (278, [109, 97, 120]), (279, [107, 110, 111, 119, 110]), (280, [115, 112, 114, 105, 110, 103]), (281, [119, 97, 114, 109]), (282, [119, 111, 114, 107]), (283, [115, 105, 122, 101]), (284, [108, 105, 107, 105, 110, 103]), (285, [102, 101, 101, 108]), (286, [114, 111, 117, 110, 100]), (287, [119, 97, 105, 116, 101, 100]), (288, [110, 117, 109, 98, 101, 114]), (289, [115, 105, 100, 101]), (290, [119, 101, 100]), (291, [108, 105, 107, 101, 115]), (292, [107, 110, 111, 119, 115])]
def wdM (I : Nat → Nat → Int32) : Prop := ∀ q ∈ wdL, ∀ i, i < q.2.length → I q.1 i = nI (q.2.getD i 0)
def paM (I : Nat → Nat → Int32) (C : cT) (P : List (sT × kT)) : Prop := I 215 75 = nI P.length ∧ ∃ nw, nw < 20 ∧ I 215 76 = nI nw ∧ ∀ i q, P[i]? = some q → (stN (fun j => I 266 (343 * ((nw + 20 - i) % 20) + j)) C q.1 ∧ tdM (fun j => I 266 (343 * ((nw + 20 - i) % 20) + j)) C) ∧ kpM (fun j => I 266 (343 * ((nw + 20 - i) % 20) + j)) C q.2
def RelM (I : Nat → Nat → Int32) (L : Nat → Nat → Int64) (A : aT) : Prop := chM I (a_C A) ∧ (I 246 8 = nI (a_kc A) ∧ ∀ a, k_th (a_C A) a → L 247 (12 + a) = cl (p_nmv (fun k => a_nm A (6 * a + k)) 6 : Nat)) ∧ (I 215 1 = nI (a_n A) ∧ ∀ j, j < a_n A → I 216 j = a_T A j) ∧ ((stN (I 255) (a_C A) (a_s A) ∧ tdM (I 255) (a_C A)) ∧ kpM (I 255) (a_C A) (a_K A)) ∧ (I 215 54 = -1 ∧ I 215 64 = 0) ∧ paM I (a_C A) (a_P A) ∧ (I 215 71 = nI (a_V A).length ∧ ∀ i q, (a_V A)[i]? = some q → I 264 (3 * i) = nI q.1 ∧ I 264 (3 * i + 1) = nI (k_num (a_C A) q.2.1) ∧ I 264 (3 * i + 2) = nI q.2.2) ∧ (I 215 115 = nI (a_m A) ∧ ∀ k, k < a_m A → I 296 k = a_O A k) ∧ (∀ j, j < 6 → I 217 j = nI (a_R A j)) ∧ (I 215 7 = (a_f A).1 ∧ I 215 8 = (a_f A).2) ∧ L 215 77 = cl (a_D A) ∧ wdM I
def lastM (a : Nat) : Prop := (216 ≤ a ∧ a ≤ 249) ∨ (252 ≤ a ∧ a ≤ 255) ∨ a = 264 ∨ (266 ≤ a ∧ a ≤ 292) ∨ a = 296
def fieldM (k : Nat) : Prop := k = 1 ∨ k = 7 ∨ k = 8 ∨ k = 53 ∨ k = 54 ∨ k = 64 ∨ k = 71 ∨ k = 75 ∨ k = 76 ∨ k = 115
theorem wdL_at : ∀ q ∈ wdL, (218 ≤ q.1 ∧ q.1 ≤ 245) ∨ (267 ≤ q.1 ∧ q.1 ≤ 292) := by decide
theorem RelM_fr {I I' : Nat → Nat → Int32} {L L' : Nat → Nat → Int64} {A : aT} (h : ∀ a, lastM a → I' a = I a) (hf : ∀ k, fieldM k → I' 215 k = I 215 k) (hL : ∀ a, a = 215 ∨ a = 247 → L' a = L a) (hM : RelM I L A) : RelM I' L' A := by
  obtain ⟨h1, h2, h3, h4, h5, h6, h7, h8, h9, h10, h11, h12⟩ := hM
  have e : ∀ a, lastM a → I' a = I a := h
  refine ⟨chM_fr (fun a ha => e a (by unfold lastM; omega)) (hf 53 (by unfold fieldM; omega)) h1, ?_, ?_, ?_, ?_, ?_, ?_, ?_, ?_, ?_, ?_, ?_⟩
  · rw [e 246 (by unfold lastM; omega), hL 247 (by omega)]; exact h2
  · rw [hf 1 (by unfold fieldM; omega), e 216 (by unfold lastM; omega)]; exact h3
  · rw [e 255 (by unfold lastM; omega)]; exact h4
  · rw [hf 54 (by unfold fieldM; omega), hf 64 (by unfold fieldM; omega)]; exact h5
  · unfold paM
    rw [hf 75 (by unfold fieldM; omega), hf 76 (by unfold fieldM; omega), e 266 (by unfold lastM; omega)]; exact h6
  · rw [hf 71 (by unfold fieldM; omega), e 264 (by unfold lastM; omega)]; exact h7
  · rw [hf 115 (by unfold fieldM; omega), e 296 (by unfold lastM; omega)]; exact h8
  · rw [e 217 (by unfold lastM; omega)]; exact h9
  · rw [hf 7 (by unfold fieldM; omega), hf 8 (by unfold fieldM; omega)]; exact h10
  · rw [hL 215 (by omega)]; exact h11
  · intro q hq i hi
    have := wdL_at q hq
    rw [e q.1 (by unfold lastM; omega)]
    exact h12 q hq i hi
theorem RelM_sz {A : aT} (hok : okA A) (h : RelM I L A) : szM I (a_C A) (a_s A) := by
  intro a ha
  have h2 := k_th_lt hok.1 ha
  have h3 := (k_num_th ha hok.1).1
  have := hok.1.1
  rw [h.2.2.2.2.1.1, if_neg (fun e => nI_nm1 (b := k_num (a_C A) a) (by omega) e.symm), (h.1.2.2.2.1 a ha).2.2, hok.2.2.1.2.2 a h2]
theorem RelM_st {A : aT} (hok : okA A) (h : RelM I L A) : stM I (a_C A) (a_s A) := stM_of h.2.2.2.1.1.1 (RelM_sz hok h)
/-- a call of the class's, of the reference's -/
def runX (g : zM) (I : Nat → Nat → Int32) (L : Nat → Nat → Int64) (ρ : zRh) (r : Value) (A' : aT) (N' : Nat) : Prop := ∃ I' L' ρ', g (hp I L ρ) = some (some r, hp I' L' ρ') ∧ RelX I' L' ρ' A' N' ∧ ∀ a, 215 ≤ a → I' a = I a ∧ L' a = L a
def runM (g : zM) (I : Nat → Nat → Int32) (L : Nat → Nat → Int64) (ρ : zRh) (r : Value) (A' : aT) : Prop := ∃ I' L', g (hp I L ρ) = some (some r, hp I' L' ρ) ∧ RelM I' L' A' ∧ ∀ a, a < 215 → I' a = I a ∧ L' a = L a
/-- the class's part that only thinks -/
theorem runX_same {g : zM} {I I' : Nat → Nat → Int32} {L : Nat → Nat → Int64} {r : Value} {A : aT} {N : Nat} (hX : RelX I L ρ A N) (e : g (hp I L ρ) = some (some r, hp I' L ρ)) (h : ∀ a, lastX a ∨ 215 ≤ a → I' a = I a) : runX g I L ρ r A N :=
  ⟨I', L, ρ, e, RelX_fr (fun a ha => h a (Or.inl ha)) rfl (Nat.le_refl _) hX, fun a ha => ⟨h a (Or.inr ha), rfl⟩⟩
theorem runM_same {g : zM} {I I' : Nat → Nat → Int32} {L L' : Nat → Nat → Int64} {r : Value} {A : aT} (hM : RelM I L A) (e : g (hp I L ρ) = some (some r, hp I' L' ρ)) (h : ∀ a, lastM a ∨ a < 215 → I' a = I a) (hf : ∀ k, fieldM k → I' 215 k = I 215 k) (hL : ∀ a, a ≠ 295 → L' a = L a) : runM g I L ρ r A :=
  ⟨I', L', e, RelM_fr (fun a ha => h a (Or.inl ha)) hf (fun a ha => hL a (by omega)) hM, fun a ha => ⟨h a (Or.inr ha), hL a (by omega)⟩⟩
theorem goM_last {I I' : Nat → Nat → Int32} {L L' : Nat → Nat → Int64} (h : goM I I' L L') {a : Nat} (ha : lastM a ∨ a < 215) (h255 : a ≠ 255) : I' a = I a := h.1 a (by unfold lastM at ha; omega) h255 (by unfold lastM at ha; omega) (by unfold lastM at ha; omega) (by unfold lastM at ha; omega) (by unfold lastM at ha; omega)
theorem goM_field {I I' : Nat → Nat → Int32} {L L' : Nat → Nat → Int64} (h : goM I I' L L') {k : Nat} (hk : fieldM k) : I' 215 k = I 215 k := h.2.1 k (by unfold fieldM at hk; omega) (by unfold fieldM at hk; omega) (by unfold fieldM at hk; omega) (by unfold fieldM at hk; omega) (by unfold fieldM at hk; omega) (by unfold fieldM at hk; omega) (by unfold fieldM at hk; omega) (by unfold fieldM at hk; omega)
end B40
