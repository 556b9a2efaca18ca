/-! the reference: a church that has been read stands -/
section B8n
variable {I I0 : Nat → Nat → Int32} {L L0 : Nat → Nat → Int64} {ρ : zRh} {h : zH} {b : Nat → Nat} {n a x j k u w t side here : Nat} {r : rP} {S : nT}
theorem cp_7 : ∀ m i fuel (I : Nat → Nat → Int32), i + m = 5 → m < fuel → ∃ I', z_fix (fun r x => X12_stands_B7 215 r x) fuel (nI i) (hp I L ρ) = X12_stands_J33 215 (hp I' L ρ) ∧ (∀ k, i ≤ k → k < 5 → I' 246 (6 + k) = I 246 k) ∧ ∀ c j, (c ≠ 246 ∨ j < 6 + i ∨ 6 + 5 ≤ j) → I' c j = I c j := by
  intro m
  induction m with
  | zero =>
    intro i fuel I hi hf 
    obtain ⟨f, rfl⟩ : ∃ f, fuel = f + 1 := ⟨fuel - 1, by omega⟩
    refine ⟨I, ?_, fun k _ _ => by omega, fun _ _ _ => rfl⟩
    rw [h_fix]
    show X12_stands_B7 215 _ (nI i) (hp I L ρ) = _
    unfold X12_stands_B7
    rw [h_if, if_pos (show (5 : Int32) ≤ nI i from (nI_le' (a := 5) (b := i) (by omega) (by omega)).mpr (by omega))]
  | succ m ih =>
    intro i fuel I hi hf 
    obtain ⟨f, rfl⟩ : ∃ f, fuel = f + 1 := ⟨fuel - 1, by omega⟩
    obtain ⟨I', hr, p1, p2⟩ := ih (i + 1) f (u2 I 246 (6 + i) (I 246 i)) (by omega) (by omega) 
    refine ⟨I', ?_, fun k h1 h2 => ?_, fun c j hc0 => ?_⟩
    · rw [h_fix]
      show X12_stands_B7 215 _ (nI i) (hp I L ρ) = _
      generalize z_fix (fun r x => X12_stands_B7 215 r x) f = rec at hr
      unfold X12_stands_B7
      rw [h_if, if_neg (show ¬ (5 : Int32) ≤ nI i from fun q => by have := (nI_le' (a := 5) (b := i) (by omega) (by omega)).mp q; omega), gr_215_40, gr_215_40, la_246 (by omega), show (6 : Int32) = nI 6 from rfl, nI_add, sa_246 (by omega), nI_1]; exact hr
    · by_cases c : k = i
      · subst c
        · rw [p2 246 (6 + k) (by omega), u2_ap, if_pos ⟨rfl, rfl⟩]
      · have := p1 k (by omega) h2
        refine ?_
        · rw [this, u2_ap, if_neg (by omega)]
    · rw [p2 c j (by omega), u2_ap, if_neg (by omega)]
theorem cp_35 : ∀ m i fuel (I : Nat → Nat → Int32), i + m = 3 → m < fuel → ∃ I', z_fix (fun r x => X12_stands_B35 215 r x) fuel (nI i) (hp I L ρ) = X12_stands_J74 215 (hp I' L ρ) ∧ (∀ k, i ≤ k → k < 3 → I' 252 (3 + k) = I 252 k ∧ I' 253 (3 + k) = I 253 k) ∧ ∀ c j, (c ≠ 252 ∨ j < 3 + i ∨ 3 + 3 ≤ j) → (c ≠ 253 ∨ j < 3 + i ∨ 3 + 3 ≤ j) → I' c j = I c j := by
  intro m
  induction m with
  | zero =>
    intro i fuel I hi hf 
    obtain ⟨f, rfl⟩ : ∃ f, fuel = f + 1 := ⟨fuel - 1, by omega⟩
    refine ⟨I, ?_, fun k _ _ => by omega, fun _ _ _ _ => rfl⟩
    rw [h_fix]
    show X12_stands_B35 215 _ (nI i) (hp I L ρ) = _
    unfold X12_stands_B35
    rw [h_if, if_pos (show (3 : Int32) ≤ nI i from (nI_le' (a := 3) (b := i) (by omega) (by omega)).mpr (by omega))]
  | succ m ih =>
    intro i fuel I hi hf 
    obtain ⟨f, rfl⟩ : ∃ f, fuel = f + 1 := ⟨fuel - 1, by omega⟩
    obtain ⟨I', hr, p1, p2⟩ := ih (i + 1) f (u2 (u2 I 252 (3 + i) (I 252 i)) 253 (3 + i) (I 253 i)) (by omega) (by omega) 
    refine ⟨I', ?_, fun k h1 h2 => ?_, fun c j hc0 hc1 => ?_⟩
    · rw [h_fix]
      show X12_stands_B35 215 _ (nI i) (hp I L ρ) = _
      generalize z_fix (fun r x => X12_stands_B35 215 r x) f = rec at hr
      unfold X12_stands_B35
      rw [h_if, if_neg (show ¬ (3 : Int32) ≤ nI i from fun q => by have := (nI_le' (a := 3) (b := i) (by omega) (by omega)).mp q; omega), gr_215_46, gr_215_46, la_252 (by omega), show (3 : Int32) = nI 3 from rfl, nI_add, sa_252 (by omega), gr_215_47, gr_215_47, la_253 (by omega), sa_253 (by omega), u2r (show (253 : Nat) ≠ 252 by omega), nI_1]; exact hr
    · by_cases c : k = i
      · subst c
        refine ⟨?_, ?_⟩
        · rw [p2 252 (3 + k) (by omega) (by omega), u2_ap, if_neg (by omega), u2_ap, if_pos ⟨rfl, rfl⟩]
        · rw [p2 253 (3 + k) (by omega) (by omega), u2_ap, if_pos ⟨rfl, rfl⟩]
      · have := p1 k (by omega) h2
        refine ⟨?_, ?_⟩
        · rw [this.1, u2_ap, if_neg (by omega), u2_ap, if_neg (by omega)]
        · rw [this.2, u2_ap, if_neg (by omega), u2_ap, if_neg (by omega)]
    · rw [p2 c j (by omega) (by omega), u2_ap, if_neg (by omega), u2_ap, if_neg (by omega)]
theorem cp_105 : ∀ m i fuel (I : Nat → Nat → Int32), i + m = 36 → m < fuel → (∀ j, j < 36 → ∃ v, I 249 j = bI v) → ∃ I', z_fix (fun r x => X12_stands_B105 215 r x) fuel (nI i) (hp I L ρ) = X12_stands_J147 215 (hp I' L ρ) ∧ (∀ k, i ≤ k → k < 36 → I' 248 (36 + k) = I 248 k ∧ I' 249 (36 + k) = I 249 k) ∧ ∀ c j, (c ≠ 248 ∨ j < 36 + i ∨ 36 + 36 ≤ j) → (c ≠ 249 ∨ j < 36 + i ∨ 36 + 36 ≤ j) → I' c j = I c j := by
  intro m
  induction m with
  | zero =>
    intro i fuel I hi hf hb
    obtain ⟨f, rfl⟩ : ∃ f, fuel = f + 1 := ⟨fuel - 1, by omega⟩
    refine ⟨I, ?_, fun k _ _ => by omega, fun _ _ _ _ => rfl⟩
    rw [h_fix]
    show X12_stands_B105 215 _ (nI i) (hp I L ρ) = _
    unfold X12_stands_B105
    rw [h_if, if_pos (show (36 : Int32) ≤ nI i from (nI_le' (a := 36) (b := i) (by omega) (by omega)).mpr (by omega))]
  | succ m ih =>
    intro i fuel I hi hf hb
    obtain ⟨f, rfl⟩ : ∃ f, fuel = f + 1 := ⟨fuel - 1, by omega⟩
    obtain ⟨I', hr, p1, p2⟩ := ih (i + 1) f (u2 (u2 I 248 (36 + i) (I 248 i)) 249 (36 + i) (I 249 i)) (by omega) (by omega) (fun j hj => by rw [u2_ap, if_neg (by omega), u2_ap, if_neg (by omega)]; exact hb j hj)
    refine ⟨I', ?_, fun k h1 h2 => ?_, fun c j hc0 hc1 => ?_⟩
    · rw [h_fix]
      show X12_stands_B105 215 _ (nI i) (hp I L ρ) = _
      generalize z_fix (fun r x => X12_stands_B105 215 r x) f = rec at hr
      unfold X12_stands_B105
      rw [h_if, if_neg (show ¬ (36 : Int32) ≤ nI i from fun q => by have := (nI_le' (a := 36) (b := i) (by omega) (by omega)).mp q; omega), gr_215_42, gr_215_42, la_248 (by omega), show (36 : Int32) = nI 36 from rfl, nI_add, sa_248 (by omega), gr_215_43, gr_215_43, la_249 (by omega), u2r (show (249 : Nat) ≠ 248 by omega), show vp_nar .boolean (I 249 i) = I 249 i by obtain ⟨v, e⟩ := hb i (by omega); rw [e, nar01], sa_249 (by omega), nI_1]; exact hr
    · by_cases c : k = i
      · subst c
        refine ⟨?_, ?_⟩
        · rw [p2 248 (36 + k) (by omega) (by omega), u2_ap, if_neg (by omega), u2_ap, if_pos ⟨rfl, rfl⟩]
        · rw [p2 249 (36 + k) (by omega) (by omega), u2_ap, if_pos ⟨rfl, rfl⟩]
      · have := p1 k (by omega) h2
        refine ⟨?_, ?_⟩
        · rw [this.1, u2_ap, if_neg (by omega), u2_ap, if_neg (by omega)]
        · rw [this.2, u2_ap, if_neg (by omega), u2_ap, if_neg (by omega)]
    · rw [p2 c j (by omega) (by omega), u2_ap, if_neg (by omega), u2_ap, if_neg (by omega)]
theorem cp_149 : ∀ m i fuel (I : Nat → Nat → Int32), i + m = u → m < fuel → u ≤ 1600 → I 215 49 = nI u → ∃ I', z_fix (fun r x => X12_stands_B149 215 r x) fuel (nI i) (hp I L ρ) = X12_stands_J179 215 (hp I' L ρ) ∧ (∀ k, i ≤ k → k < u → I' 254 (1600 + k) = I 254 k) ∧ ∀ c j, (c ≠ 254 ∨ j < 1600 + i ∨ 1600 + u ≤ j) → I' c j = I c j := by
  intro m
  induction m with
  | zero =>
    intro i fuel I hi hf hu h49
    obtain ⟨f, rfl⟩ : ∃ f, fuel = f + 1 := ⟨fuel - 1, by omega⟩
    refine ⟨I, ?_, fun k _ _ => by omega, fun _ _ _ => rfl⟩
    rw [h_fix]
    show X12_stands_B149 215 _ (nI i) (hp I L ρ) = _
    unfold X12_stands_B149
    rw [gi_215, h49, h_if, if_pos ((nI_le' (by omega) (by omega)).mpr (by omega))]
  | succ m ih =>
    intro i fuel I hi hf hu h49
    obtain ⟨f, rfl⟩ : ∃ f, fuel = f + 1 := ⟨fuel - 1, by omega⟩
    obtain ⟨I', hr, p1, p2⟩ := ih (i + 1) f (u2 I 254 (1600 + i) (I 254 i)) (by omega) (by omega) hu (by rw [u2r (by omega)]; exact h49)
    refine ⟨I', ?_, fun k h1 h2 => ?_, fun c j hc0 => ?_⟩
    · rw [h_fix]
      show X12_stands_B149 215 _ (nI i) (hp I L ρ) = _
      generalize z_fix (fun r x => X12_stands_B149 215 r x) f = rec at hr
      unfold X12_stands_B149
      rw [gi_215, h49, h_if, if_neg (fun q => by have := (nI_le' (by omega) (by omega)).mp q; omega), gr_215_48, gr_215_48, la_254 (by omega), show (1600 : Int32) = nI 1600 from rfl, nI_add, sa_254 (by omega), nI_1]; exact hr
    · by_cases c : k = i
      · subst c
        · rw [p2 254 (1600 + k) (by omega), u2_ap, if_pos ⟨rfl, rfl⟩]
      · have := p1 k (by omega) h2
        refine ?_
        · rw [this, u2_ap, if_neg (by omega)]
    · rw [p2 c j (by omega), u2_ap, if_neg (by omega)]
theorem cp_181 : ∀ m i fuel (I : Nat → Nat → Int32), i + m = 343 → m < fuel → ∃ I', z_fix (fun r x => X12_stands_B181 215 r x) fuel (nI i) (hp I L ρ) = X12_stands_J201 215 (hp I' L ρ) ∧ (∀ k, i ≤ k → k < 343 → I' 255 k = 0) ∧ ∀ c j, (c ≠ 255 ∨ j < i ∨ 343 ≤ j) → I' c j = I c j := by
  intro m
  induction m with
  | zero =>
    intro i fuel I hi hf 
    obtain ⟨f, rfl⟩ : ∃ f, fuel = f + 1 := ⟨fuel - 1, by omega⟩
    refine ⟨I, ?_, fun k _ _ => by omega, fun _ _ _ => rfl⟩
    rw [h_fix]
    show X12_stands_B181 215 _ (nI i) (hp I L ρ) = _
    unfold X12_stands_B181
    rw [h_if, if_pos (show (343 : Int32) ≤ nI i from (nI_le' (a := 343) (b := i) (by omega) (by omega)).mpr (by omega))]
  | succ m ih =>
    intro i fuel I hi hf 
    obtain ⟨f, rfl⟩ : ∃ f, fuel = f + 1 := ⟨fuel - 1, by omega⟩
    obtain ⟨I', hr, p1, p2⟩ := ih (i + 1) f (u2 I 255 i (0)) (by omega) (by omega) 
    refine ⟨I', ?_, fun k h1 h2 => ?_, fun c j hc0 => ?_⟩
    · rw [h_fix]
      show X12_stands_B181 215 _ (nI i) (hp I L ρ) = _
      generalize z_fix (fun r x => X12_stands_B181 215 r x) f = rec at hr
      unfold X12_stands_B181
      rw [h_if, if_neg (show ¬ (343 : Int32) ≤ nI i from fun q => by have := (nI_le' (a := 343) (b := i) (by omega) (by omega)).mp q; omega), gr_215_52, sa_255 (by omega), nI_1]; exact hr
    · by_cases c : k = i
      · subst c
        · rw [p2 255 k (by omega), u2_ap, if_pos ⟨rfl, rfl⟩]
      · have := p1 k (by omega) h2
        exact this
    · rw [p2 c j (by omega), u2_ap, if_neg (by omega)]
theorem cp_203 : ∀ m i fuel (I : Nat → Nat → Int32), i + m = 6 → m < fuel → ∃ I', z_fix (fun r x => X12_stands_B203 215 r x) fuel (nI i) (hp I L ρ) = X12_stands_J234 215 (hp I' L ρ) ∧ (∀ k, i ≤ k → k < 6 → I' 255 (2 + k) = nI k ∧ I' 255 (8 + k) = nI k) ∧ ∀ c j, (c ≠ 255 ∨ j < 2 + i ∨ 2 + 6 ≤ j) → (c ≠ 255 ∨ j < 8 + i ∨ 8 + 6 ≤ j) → I' c j = I c j := by
  intro m
  induction m with
  | zero =>
    intro i fuel I hi hf 
    obtain ⟨f, rfl⟩ : ∃ f, fuel = f + 1 := ⟨fuel - 1, by omega⟩
    refine ⟨I, ?_, fun k _ _ => by omega, fun _ _ _ _ => rfl⟩
    rw [h_fix]
    show X12_stands_B203 215 _ (nI i) (hp I L ρ) = _
    unfold X12_stands_B203
    rw [h_if, if_pos (show (6 : Int32) ≤ nI i from (nI_le' (a := 6) (b := i) (by omega) (by omega)).mpr (by omega))]
  | succ m ih =>
    intro i fuel I hi hf 
    obtain ⟨f, rfl⟩ : ∃ f, fuel = f + 1 := ⟨fuel - 1, by omega⟩
    obtain ⟨I', hr, p1, p2⟩ := ih (i + 1) f (u2 (u2 I 255 (2 + i) (nI i)) 255 (8 + i) (nI i)) (by omega) (by omega) 
    refine ⟨I', ?_, fun k h1 h2 => ?_, fun c j hc0 hc1 => ?_⟩
    · rw [h_fix]
      show X12_stands_B203 215 _ (nI i) (hp I L ρ) = _
      generalize z_fix (fun r x => X12_stands_B203 215 r x) f = rec at hr
      unfold X12_stands_B203
      rw [h_if, if_neg (show ¬ (6 : Int32) ≤ nI i from fun q => by have := (nI_le' (a := 6) (b := i) (by omega) (by omega)).mp q; omega), gr_215_52, show (2 : Int32) = nI 2 from rfl, nI_add, sa_255 (by omega), gr_215_52, show (8 : Int32) = nI 8 from rfl, nI_add, sa_255 (by omega), nI_1]; exact hr
    · by_cases c : k = i
      · subst c
        refine ⟨?_, ?_⟩
        · rw [p2 255 (2 + k) (by omega) (by omega), u2_ap, if_neg (by omega), u2_ap, if_pos ⟨rfl, rfl⟩]
        · rw [p2 255 (8 + k) (by omega) (by omega), u2_ap, if_pos ⟨rfl, rfl⟩]
      · have := p1 k (by omega) h2
        exact this
    · rw [p2 c j (by omega) (by omega), u2_ap, if_neg (by omega), u2_ap, if_neg (by omega)]
theorem cp_236 : ∀ m i fuel (I : Nat → Nat → Int32), i + m = 12 → m < fuel → ∃ I', z_fix (fun r x => X12_stands_B236 215 r x) fuel (nI i) (hp I L ρ) = X12_stands_J258 215 (hp I' L ρ) ∧ (∀ k, i ≤ k → k < 12 → I' 255 (14 + k) = -1) ∧ ∀ c j, (c ≠ 255 ∨ j < 14 + i ∨ 14 + 12 ≤ j) → I' c j = I c j := by
  intro m
  induction m with
  | zero =>
    intro i fuel I hi hf 
    obtain ⟨f, rfl⟩ : ∃ f, fuel = f + 1 := ⟨fuel - 1, by omega⟩
    refine ⟨I, ?_, fun k _ _ => by omega, fun _ _ _ => rfl⟩
    rw [h_fix]
    show X12_stands_B236 215 _ (nI i) (hp I L ρ) = _
    unfold X12_stands_B236
    rw [h_if, if_pos (show (12 : Int32) ≤ nI i from (nI_le' (a := 12) (b := i) (by omega) (by omega)).mpr (by omega))]
  | succ m ih =>
    intro i fuel I hi hf 
    obtain ⟨f, rfl⟩ : ∃ f, fuel = f + 1 := ⟨fuel - 1, by omega⟩
    obtain ⟨I', hr, p1, p2⟩ := ih (i + 1) f (u2 I 255 (14 + i) (-1)) (by omega) (by omega) 
    refine ⟨I', ?_, fun k h1 h2 => ?_, fun c j hc0 => ?_⟩
    · rw [h_fix]
      show X12_stands_B236 215 _ (nI i) (hp I L ρ) = _
      generalize z_fix (fun r x => X12_stands_B236 215 r x) f = rec at hr
      unfold X12_stands_B236
      rw [h_if, if_neg (show ¬ (12 : Int32) ≤ nI i from fun q => by have := (nI_le' (a := 12) (b := i) (by omega) (by omega)).mp q; omega), gr_215_52, show (14 : Int32) = nI 14 from rfl, nI_add, sa_255 (by omega), nI_1]; exact hr
    · by_cases c : k = i
      · subst c
        · rw [p2 255 (14 + k) (by omega), u2_ap, if_pos ⟨rfl, rfl⟩]
      · have := p1 k (by omega) h2
        exact this
    · rw [p2 c j (by omega), u2_ap, if_neg (by omega)]
theorem cp_260 : ∀ m i fuel (I : Nat → Nat → Int32), i + m = 72 → m < fuel → ∃ I', z_fix (fun r x => X12_stands_B260 215 r x) fuel (nI i) (hp I L ρ) = X12_stands_J302 215 (hp I' L ρ) ∧ (∀ k, i ≤ k → k < 72 → I' 255 (38 + k) = I 250 k ∧ I' 255 (110 + k) = I 251 k) ∧ ∀ c j, (c ≠ 255 ∨ j < 38 + i ∨ 38 + 72 ≤ j) → (c ≠ 255 ∨ j < 110 + i ∨ 110 + 72 ≤ j) → I' c j = I c j := by
  intro m
  induction m with
  | zero =>
    intro i fuel I hi hf 
    obtain ⟨f, rfl⟩ : ∃ f, fuel = f + 1 := ⟨fuel - 1, by omega⟩
    refine ⟨I, ?_, fun k _ _ => by omega, fun _ _ _ _ => rfl⟩
    rw [h_fix]
    show X12_stands_B260 215 _ (nI i) (hp I L ρ) = _
    unfold X12_stands_B260
    rw [h_if, if_pos (show (72 : Int32) ≤ nI i from (nI_le' (a := 72) (b := i) (by omega) (by omega)).mpr (by omega))]
  | succ m ih =>
    intro i fuel I hi hf 
    obtain ⟨f, rfl⟩ : ∃ f, fuel = f + 1 := ⟨fuel - 1, by omega⟩
    obtain ⟨I', hr, p1, p2⟩ := ih (i + 1) f (u2 (u2 I 255 (38 + i) (I 250 i)) 255 (110 + i) (I 251 i)) (by omega) (by omega) 
    refine ⟨I', ?_, fun k h1 h2 => ?_, fun c j hc0 hc1 => ?_⟩
    · rw [h_fix]
      show X12_stands_B260 215 _ (nI i) (hp I L ρ) = _
      generalize z_fix (fun r x => X12_stands_B260 215 r x) f = rec at hr
      unfold X12_stands_B260
      rw [h_if, if_neg (show ¬ (72 : Int32) ≤ nI i from fun q => by have := (nI_le' (a := 72) (b := i) (by omega) (by omega)).mp q; omega), gr_215_52, gr_215_44, la_250 (by omega), show (38 : Int32) = nI 38 from rfl, nI_add, sa_255 (by omega), gr_215_52, gr_215_45, la_251 (by omega), u2r (show (251 : Nat) ≠ 255 by omega), show (110 : Int32) = nI 110 from rfl, nI_add, sa_255 (by omega), nI_1]; exact hr
    · by_cases c : k = i
      · subst c
        refine ⟨?_, ?_⟩
        · rw [p2 255 (38 + k) (by omega) (by omega), u2_ap, if_neg (by omega), u2_ap, if_pos ⟨rfl, rfl⟩]
        · rw [p2 255 (110 + k) (by omega) (by omega), u2_ap, if_pos ⟨rfl, rfl⟩]
      · have := p1 k (by omega) h2
        refine ⟨?_, ?_⟩
        · rw [this.1, u2_ap, if_neg (by omega), u2_ap, if_neg (by omega)]
        · rw [this.2, u2_ap, if_neg (by omega), u2_ap, if_neg (by omega)]
    · rw [p2 c j (by omega) (by omega), u2_ap, if_neg (by omega), u2_ap, if_neg (by omega)]
theorem cp_76 : ∀ m i fuel (L : Nat → Nat → Int64), i + m = 12 → m < fuel → ∃ L', z_fix (fun r x => X12_stands_B76 215 r x) fuel (nI i) (hp I L ρ) = X12_stands_J103 215 (hp I L' ρ) ∧ (∀ k, i ≤ k → k < 12 → L' 247 (12 + k) = L 247 k) ∧ ∀ c j, (c ≠ 247 ∨ j < 12 + i ∨ 12 + 12 ≤ j) → L' c j = L c j := by
  intro m
  induction m with
  | zero =>
    intro i fuel L hi hf
    obtain ⟨f, rfl⟩ : ∃ f, fuel = f + 1 := ⟨fuel - 1, by omega⟩
    refine ⟨L, ?_, fun k _ _ => by omega, fun _ _ _ => rfl⟩
    rw [h_fix]
    show X12_stands_B76 215 _ (nI i) (hp I L ρ) = _
    unfold X12_stands_B76
    rw [h_if, if_pos (show (12 : Int32) ≤ nI i from (nI_le' (a := 12) (b := i) (by omega) (by omega)).mpr (by omega))]
  | succ m ih =>
    intro i fuel L hi hf
    obtain ⟨f, rfl⟩ : ∃ f, fuel = f + 1 := ⟨fuel - 1, by omega⟩
    obtain ⟨L', hr, p1, p2⟩ := ih (i + 1) f (u2 L 247 (12 + i) (L 247 i)) (by omega) (by omega)
    refine ⟨L', ?_, fun k h1 h2 => ?_, fun c j hc => ?_⟩
    · rw [h_fix]
      show X12_stands_B76 215 _ (nI i) (hp I L ρ) = _
      generalize z_fix (fun r x => X12_stands_B76 215 r x) f = rec at hr
      unfold X12_stands_B76
      rw [h_if, if_neg (show ¬ (12 : Int32) ≤ nI i from fun q => by have := (nI_le' (a := 12) (b := i) (by omega) (by omega)).mp q; omega), gr_215_41, gr_215_41, ll_247 (by omega), show (12 : Int32) = nI 12 from rfl, nI_add, sl_247 (by omega), nI_1]; exact hr
    · by_cases c : k = i
      · subst c
        rw [p2 247 (12 + k) (by omega), u2_ap, if_pos ⟨rfl, rfl⟩]
      · have := p1 k (by omega) h2
        rw [this, u2_ap, if_neg (by omega)]
    · rw [p2 c j (by omega), u2_ap, if_neg (by omega)]
end B8n
