/-! on: the reference takes an image; the call -/
section B5y
variable {I I0 : Nat → Nat → Int32} {L L0 : Nat → Nat → Int64} {ρ : zRh} {h : zH} {A : aT} {N : Nat} {C : cT} {s : sT} {t : Nat → Nat}
theorem X12_on_1 (hk : okC C) {n : Nat} (hn : 3 + (k_L C + k_R C) ≤ n) (hn2 : n ≤ 184) : ∀ (m k fuel : Nat) (I : Nat → Nat → Int32), k + m = k_L C → m < fuel → chM I C → tpX 216 I t n → ∃ I', z_fix (fun r x => X12_on_B49 215 r x) fuel (nI k) (hp I L ρ) = X12_on_J80 215 (hp I' L ρ) ∧ (∀ x, x ≠ 255 → I' x = I x) ∧ ∀ j, I' 255 j = if 2 + k ≤ j ∧ j < 2 + k_L C then nI (t (3 + (j - 2))) else I 255 j := by
  have h12 := hk.1
  intro m
  induction m with
  | zero =>
    intro k fuel I h1 h2 hM hT
    obtain ⟨f, rfl⟩ : ∃ f, fuel = f + 1 := ⟨fuel - 1, by omega⟩
    refine ⟨I, ?_, fun _ _ => rfl, fun j => by rw [if_neg (by omega)]⟩
    rw [h_fix]
    show X12_on_B49 215 _ (nI k) (hp I L ρ) = _
    unfold X12_on_B49
    rw [rc_215, h_ci (X12_side0 hM), h_if, if_pos (nI_le (by omega) (by omega))]
  | succ m ih =>
    intro k fuel I h1 h2 hM hT
    obtain ⟨f, rfl⟩ : ∃ f, fuel = f + 1 := ⟨fuel - 1, by omega⟩
    obtain ⟨t1, t2⟩ := hT (3 + k) (by omega)
    obtain ⟨I', r1, r2, r3⟩ := ih (k + 1) f (u2 I 255 (2 + k) (nI (t (3 + k)))) (by omega) (by omega) (chM_fr (fun a ha => u2r (by omega)) (by rw [u2r (by omega)]) hM) (tpX_fr (u2r (by omega)) hT)
    refine ⟨I', ?_, fun x hx => by rw [r2 x hx, u2r hx], fun j => ?_⟩
    · rw [h_fix, ← r1]
      show X12_on_B49 215 _ (nI k) (hp I L ρ) = _
      unfold X12_on_B49
      rw [rc_215, h_ci (X12_side0 hM), h_if, if_neg (nI_ge (by omega) (by omega)), gr_215_52, gr_215_0, show (3 : Int32) = nI 3 from rfl, nI_add, la_216 (by omega), t2, show (2 : Int32) = nI 2 from rfl, nI_add, sa_255 (by omega), nI_1]
    · rw [r3, u2_ap]
      by_cases c : j = 2 + k
      · rw [if_neg (by omega), if_pos ⟨rfl, c⟩, if_pos (by omega), show 3 + (j - 2) = 3 + k by omega]
      · by_cases c2 : 2 + (k + 1) ≤ j ∧ j < 2 + k_L C
        · rw [if_pos c2, if_pos (by omega)]
        · rw [if_neg c2, if_neg (fun q => c q.2), if_neg (by omega)]
theorem X12_on_2 (hk : okC C) {n : Nat} (hn : 3 + (k_L C + k_R C) ≤ n) (hn2 : n ≤ 184) (hge : ∀ k, k < k_R C → k_L C ≤ t (3 + k_L C + k)) : ∀ (m k fuel : Nat) (I : Nat → Nat → Int32), k + m = k_R C → m < fuel → chM I C → tpX 216 I t n → ∃ I', z_fix (fun r x => X12_on_B82 215 r x) fuel (nI k) (hp I L ρ) = X12_on_J126 215 (hp I' L ρ) ∧ (∀ x, x ≠ 255 → I' x = I x) ∧ ∀ j, I' 255 j = if 8 + k ≤ j ∧ j < 8 + k_R C then nI (t (3 + k_L C + (j - 8)) - k_L C) else I 255 j := by
  have h12 := hk.1
  intro m
  induction m with
  | zero =>
    intro k fuel I h1 h2 hM hT
    obtain ⟨f, rfl⟩ : ∃ f, fuel = f + 1 := ⟨fuel - 1, by omega⟩
    refine ⟨I, ?_, fun _ _ => rfl, fun j => by rw [if_neg (by omega)]⟩
    rw [h_fix]
    show X12_on_B82 215 _ (nI k) (hp I L ρ) = _
    unfold X12_on_B82
    rw [rc_215, h_ci (X12_side1 hM), h_if, if_pos (nI_le (by omega) (by omega))]
  | succ m ih =>
    intro k fuel I h1 h2 hM hT
    obtain ⟨f, rfl⟩ : ∃ f, fuel = f + 1 := ⟨fuel - 1, by omega⟩
    obtain ⟨t1, t2⟩ := hT (3 + k_L C + k) (by omega)
    obtain ⟨I', r1, r2, r3⟩ := ih (k + 1) f (u2 I 255 (8 + k) (nI (t (3 + k_L C + k) - k_L C))) (by omega) (by omega) (chM_fr (fun a ha => u2r (by omega)) (by rw [u2r (by omega)]) hM) (tpX_fr (u2r (by omega)) hT)
    refine ⟨I', ?_, fun x hx => by rw [r2 x hx, u2r hx], fun j => ?_⟩
    · rw [h_fix, ← r1]
      show X12_on_B82 215 _ (nI k) (hp I L ρ) = _
      unfold X12_on_B82
      rw [rc_215, h_ci (X12_side1 hM), h_if, if_neg (nI_ge (by omega) (by omega)), gr_215_52, gr_215_0, rc_215, h_ci (X12_side0 hM), show (3 : Int32) = nI 3 from rfl, nI_add, nI_add, la_216 (by omega), t2, rc_215, h_ci (X12_side0 hM), pk_sub (hge k (by omega)), show (8 : Int32) = nI 8 from rfl, nI_add, sa_255 (by omega), nI_1]
    · rw [r3, u2_ap]
      by_cases c : j = 8 + k
      · rw [if_neg (by omega), if_pos ⟨rfl, c⟩, if_pos (by omega), show 3 + k_L C + (j - 8) = 3 + k_L C + k by omega]
      · by_cases c2 : 8 + (k + 1) ≤ j ∧ j < 8 + k_R C
        · rw [if_pos c2, if_pos (by omega)]
        · rw [if_neg c2, if_neg (fun q => c q.2), if_neg (by omega)]
theorem X12_on_k (hk : okC C) {p n : Nat} (hp2 : p < k_L C + k_R C) (hn : n = o_len C) {r128 : Int32 → zM} : ∀ (m k fuel : Nat) (I : Nat → Nat → Int32), k + m = k_ot C (k_cd C p) → m < fuel → chM I C → tpX 216 I t n → ∃ I', z_fix (fun r x => X12_on_B207 r128 215 (nI p) (nI (k_cd C p)) (nI (o_at C p)) r x) fuel (nI k) (hp I L ρ) = r128 (nI (p + 1)) (hp I' L ρ) ∧ (∀ x, x ≠ 255 → I' x = I x) ∧ ∀ j, I' 255 j = if 38 + 6 * k_cd C p + k ≤ j ∧ j < 38 + 6 * k_cd C p + k_ot C (k_cd C p) then nI (t (o_at C p + 2 + 2 * (j - (38 + 6 * k_cd C p)))) else if 110 + 6 * k_cd C p + k ≤ j ∧ j < 110 + 6 * k_cd C p + k_ot C (k_cd C p) then nI (t (o_at C p + 3 + 2 * (j - (110 + 6 * k_cd C p)))) else I 255 j := by
  have h12 := hk.1
  have hot := k_ot_le hk (k_cd C p)
  have hcd := k_cd_12 hk hp2
  obtain ⟨hat, hn184⟩ := o_at_lt hk hp2 hn
  intro m
  induction m with
  | zero =>
    intro k fuel I h1 h2 hM hT
    obtain ⟨f, rfl⟩ : ∃ f, fuel = f + 1 := ⟨fuel - 1, by omega⟩
    refine ⟨I, ?_, fun _ _ => rfl, fun j => by rw [if_neg (by omega), if_neg (by omega)]⟩
    rw [h_fix]
    show X12_on_B207 r128 215 (nI p) (nI (k_cd C p)) (nI (o_at C p)) _ (nI k) (hp I L ρ) = _
    unfold X12_on_B207 X12_on_J281
    rw [YM_other hk hM hp2, h_if, if_pos (nI_le (by omega) (by omega)), nI_1]
  | succ m ih =>
    intro k fuel I h1 h2 hM hT
    obtain ⟨f, rfl⟩ : ∃ f, fuel = f + 1 := ⟨fuel - 1, by omega⟩
    obtain ⟨a1, a2⟩ := hT (o_at C p + 2 + 2 * k) (by omega)
    obtain ⟨b1, b2⟩ := hT (o_at C p + 3 + 2 * k) (by omega)
    obtain ⟨I', r1, r2, r3⟩ := ih (k + 1) f (u2 (u2 I 255 (38 + 6 * k_cd C p + k) (nI (t (o_at C p + 2 + 2 * k)))) 255 (110 + 6 * k_cd C p + k) (nI (t (o_at C p + 3 + 2 * k)))) (by omega) (by omega) (chM_fr (fun a ha => by rw [u2r (by omega), u2r (by omega)]) (by rw [u2r (by omega), u2r (by omega)]) hM) (tpX_fr (by rw [u2r (by omega), u2r (by omega)]) hT)
    refine ⟨I', ?_, fun x hx => by rw [r2 x hx, u2r hx, u2r hx], fun j => ?_⟩
    · rw [h_fix, ← r1]
      show X12_on_B207 r128 215 (nI p) (nI (k_cd C p)) (nI (o_at C p)) _ (nI k) (hp I L ρ) = _
      unfold X12_on_B207
      rw [YM_other hk hM hp2, h_if, if_neg (nI_ge (by omega) (by omega)), gr_215_52, rc_215, h_ci (X12_likingAt_h (by omega) (by omega)), gr_215_0, show (2 : Int32) = nI 2 from rfl, nI_add, pk_mul, nI_add, la_216 (by omega), a2, Nat.mod_eq_of_lt (show k < 6 by omega), sa_255 (by omega), gr_215_52, rc_215, h_ci (X12_knowingAt_h (by omega) (by omega)), gr_215_0, show (3 : Int32) = nI 3 from rfl, nI_add, nI_add, la_216 (by omega), u2r (show 216 ≠ 255 by omega), b2, Nat.mod_eq_of_lt (show k < 6 by omega), sa_255 (by omega), nI_1]
    · rw [r3, u2_ap, u2_ap]
      by_cases c : j = 38 + 6 * k_cd C p + k
      · rw [if_neg (by omega), if_neg (by omega), if_neg (by omega), if_pos ⟨rfl, c⟩, if_pos (by omega), show j - (38 + 6 * k_cd C p) = k by omega]
      · by_cases c2 : j = 110 + 6 * k_cd C p + k
        · rw [if_neg (by omega), if_neg (by omega), if_pos ⟨rfl, c2⟩, if_neg (by omega), if_pos (by omega), show j - (110 + 6 * k_cd C p) = k by omega]
        · rw [if_neg (fun q : 255 = 255 ∧ j = 110 + 6 * k_cd C p + k => c2 q.2), if_neg (fun q : 255 = 255 ∧ j = 38 + 6 * k_cd C p + k => c q.2)]
          by_cases c3 : 38 + 6 * k_cd C p + (k + 1) ≤ j ∧ j < 38 + 6 * k_cd C p + k_ot C (k_cd C p)
          · rw [if_pos c3, if_pos (by omega)]
          · rw [if_neg c3, if_neg (show ¬ (38 + 6 * k_cd C p + k ≤ j ∧ j < 38 + 6 * k_cd C p + k_ot C (k_cd C p)) by omega)]
            by_cases c4 : 110 + 6 * k_cd C p + (k + 1) ≤ j ∧ j < 110 + 6 * k_cd C p + k_ot C (k_cd C p)
            · rw [if_pos c4, if_pos (by omega)]
            · rw [if_neg c4, if_neg (show ¬ (110 + 6 * k_cd C p + k ≤ j ∧ j < 110 + 6 * k_cd C p + k_ot C (k_cd C p)) by omega)]
/-- what stands of those from p on -/
def rdM (G G' : Nat → Int32) (C : cT) (t : Nat → Nat) (p : Nat) : Prop := (∀ a, k_th C a → G' (14 + a) = (if p ≤ k_num C a then oI (o_wd C t (k_num C a)) else G (14 + a)) ∧ G' (26 + a) = (if p ≤ k_num C a then nI (t (o_at C (k_num C a) + 1)) else G (26 + a)) ∧ ∀ i, i < 6 → G' (38 + 6 * a + i) = (if p ≤ k_num C a ∧ i < k_ot C a then nI (t (o_at C (k_num C a) + 2 + 2 * i)) else G (38 + 6 * a + i)) ∧ G' (110 + 6 * a + i) = (if p ≤ k_num C a ∧ i < k_ot C a then nI (t (o_at C (k_num C a) + 3 + 2 * i)) else G (110 + 6 * a + i))) ∧ (∀ j, j < 14 ∨ 182 ≤ j → G' j = G j) ∧ ∀ a, a < 12 → ¬ k_th C a → G' (14 + a) = G (14 + a)
theorem X12_on_p (hk : okC C) {n : Nat} (hn : n = o_len C) : ∀ (m p fuel : Nat) (I : Nat → Nat → Int32), p + m = k_L C + k_R C → m < fuel → (∀ j, p ≤ j → j < k_L C + k_R C → o_Xx C t j = true) → chM I C → tpX 216 I t n → ∃ I', z_fix (fun r x => X12_on_B128 215 r x) fuel (nI p) (hp I L ρ) = X12_on_J287 215 (hp I' L ρ) ∧ (∀ x, x ≠ 255 → I' x = I x) ∧ rdM (I 255) (I' 255) C t p := by
  have h12 := hk.1
  intro m
  induction m with
  | zero =>
    intro p fuel I h1 h2 h3 hM hT
    obtain ⟨f, rfl⟩ : ∃ f, fuel = f + 1 := ⟨fuel - 1, by omega⟩
    refine ⟨I, ?_, fun _ _ => rfl, fun a ha => ?_, fun _ _ => rfl, fun _ _ _ => rfl⟩
    · rw [h_fix]
      show X12_on_B128 215 _ (nI p) (hp I L ρ) = _
      unfold X12_on_B128
      rw [rc_215, h_ci (X12_peopleMany_h hM), h_if, if_pos (nI_le (by omega) (by omega))]
    · have := (k_num_th ha hk).1
      rw [if_neg (by omega), if_neg (by omega)]
      exact ⟨rfl, rfl, fun i _ => by rw [if_neg (by omega), if_neg (by omega)]; exact ⟨rfl, rfl⟩⟩
  | succ m ih =>
    intro p fuel I h1 h2 h3 hM hT
    obtain ⟨f, rfl⟩ : ∃ f, fuel = f + 1 := ⟨fuel - 1, by omega⟩
    have hp2 : p < k_L C + k_R C := by omega
    obtain ⟨hth, hnum, -⟩ := k_cd_th hp2 hk
    have hcd := k_th_lt hk hth
    have hot := k_ot_le hk (k_cd C p)
    obtain ⟨hat, hn184⟩ := o_at_lt hk hp2 hn
    obtain ⟨a1, a2⟩ := hT (o_at C p) (by omega)
    obtain ⟨b1, b2⟩ := hT (o_at C p + 1) (by omega)
    obtain ⟨J, hJ⟩ : ∃ J, J = u2 (u2 I 255 (14 + k_cd C p) (oI (o_wd C t p))) 255 (26 + k_cd C p) (nI (t (o_at C p + 1))) := ⟨_, rfl⟩
    have fr : ∀ x, x ≠ 255 → J x = I x := fun x hx => by rw [hJ, u2r hx, u2r hx]
    have hM1 : chM J C := chM_fr (fun a ha => fr a (by omega)) (by rw [fr 215 (by omega)]) hM
    have hT1 : tpX 216 J t n := tpX_fr (fr 216 (by omega)) hT
    obtain ⟨I1, e1, e2, e3⟩ := X12_on_k (L := L) (ρ := ρ) hk hp2 hn (r128 := fun x => z_fix (fun r x => X12_on_B128 215 r x) f x) (k_ot C (k_cd C p)) 0 zFU J (by omega) (by unfold zFU; omega) hM1 hT1
    have e185 : X12_on_J185 (fun x => z_fix (fun r x => X12_on_B128 215 r x) f x) 215 (nI p) (nI (k_cd C p)) (nI (o_at C p)) (oI (o_wd C t p)) (14 + nI (k_cd C p)) 255 (hp I L ρ) = z_fix (fun r x => X12_on_B128 215 r x) f (nI (p + 1)) (hp I1 L ρ) := by
      unfold X12_on_J185
      rw [show (14 : Int32) = nI 14 from rfl, nI_add, sa_255 (by omega), gr_215_52, gr_215_0, nI_1, la_216 (by omega), u2r (show 216 ≠ 255 by omega), b2, show (26 : Int32) = nI 26 from rfl, nI_add, sa_255 (by omega), ← hJ]
      exact e1
    obtain ⟨I', r1, r2, r3, r4, r5⟩ := ih (p + 1) f I1 (by omega) (by omega) (fun j q1 q2 => h3 j (by omega) q2) (chM_fr (fun a ha => e2 a (by omega)) (by rw [e2 215 (by omega)]) hM1) (tpX_fr (e2 216 (by omega)) hT1)
    have hJat : ∀ j, J 255 j = if j = 26 + k_cd C p then nI (t (o_at C p + 1)) else if j = 14 + k_cd C p then oI (o_wd C t p) else I 255 j := by
      intro j
      rw [hJ, u2_ap, u2_ap]
      by_cases c : j = 26 + k_cd C p
      · rw [if_pos ⟨rfl, c⟩, if_pos c]
      · rw [if_neg (fun q : 255 = 255 ∧ j = 26 + k_cd C p => c q.2), if_neg c]
        by_cases c2 : j = 14 + k_cd C p
        · rw [if_pos ⟨rfl, c2⟩, if_pos c2]
        · rw [if_neg (fun q : 255 = 255 ∧ j = 14 + k_cd C p => c2 q.2), if_neg c2]
    refine ⟨I', ?_, fun x hx => by rw [r2 x hx, e2 x hx, fr x hx], fun a ha => ?_, fun j hj => ?_, fun a ha hna => ?_⟩
    · rw [h_fix, ← r1]
      show X12_on_B128 215 _ (nI p) (hp I L ρ) = _
      unfold X12_on_B128
      rw [rc_215, h_ci (X12_peopleMany_h hM), h_if, if_neg (nI_ge (by omega) (by omega)), rc_215, h_ci (X12_codeOf_h hk hM (by omega)), rc_215, h_ci (X12_toldAt_h hk hM (by omega)), gr_215_52, gr_215_0, la_216 (by omega), a2, h_if]
      unfold o_wd at e185
      by_cases c : t (o_at C p) = 255
      · rw [if_pos c] at e185
        rw [if_pos (by rw [c]; rfl)]
        exact e185
      · rw [if_neg c] at e185
        rw [if_neg (show ¬ nI (t (o_at C p)) = 255 from fun e => c ((nI_inj (b := 255) (by omega) (by omega)).mp e)), gr_215_0, la_216 (by omega), a2, rc_215, h_ci (X12_codeOf_h hk hM (by omega))]
        exact e185
    · obtain ⟨s1, s2, s3⟩ := r3 a ha
      have ha12 := k_th_lt hk ha
      by_cases c : a = k_cd C p
      · have hna : k_num C a = p := by rw [c, hnum]
        rw [s1, s2, hna, if_neg (show ¬ p + 1 ≤ p by omega), if_neg (show ¬ p + 1 ≤ p by omega), if_pos (Nat.le_refl p), if_pos (Nat.le_refl p), e3, e3, if_neg (show ¬ (38 + 6 * k_cd C p + 0 ≤ 14 + a ∧ 14 + a < 38 + 6 * k_cd C p + k_ot C (k_cd C p)) by omega), if_neg (show ¬ (110 + 6 * k_cd C p + 0 ≤ 14 + a ∧ 14 + a < 110 + 6 * k_cd C p + k_ot C (k_cd C p)) by omega), if_neg (show ¬ (38 + 6 * k_cd C p + 0 ≤ 26 + a ∧ 26 + a < 38 + 6 * k_cd C p + k_ot C (k_cd C p)) by omega), if_neg (show ¬ (110 + 6 * k_cd C p + 0 ≤ 26 + a ∧ 26 + a < 110 + 6 * k_cd C p + k_ot C (k_cd C p)) by omega), hJat, hJat, if_neg (show ¬ 14 + a = 26 + k_cd C p by omega), if_pos (show 14 + a = 14 + k_cd C p by omega), if_pos (show 26 + a = 26 + k_cd C p by omega)]
        refine ⟨rfl, rfl, fun i hi => ?_⟩
        obtain ⟨u1, u2⟩ := s3 i hi
        rw [u1, u2, hna, if_neg (show ¬ (p + 1 ≤ p ∧ i < k_ot C a) by omega), if_neg (show ¬ (p + 1 ≤ p ∧ i < k_ot C a) by omega), e3, e3, c]
        by_cases d : i < k_ot C (k_cd C p)
        · rw [if_pos (by omega), if_pos ⟨Nat.le_refl p, d⟩, if_neg (by omega), if_pos (by omega), if_pos ⟨Nat.le_refl p, d⟩, show 38 + 6 * k_cd C p + i - (38 + 6 * k_cd C p) = i by omega, show 110 + 6 * k_cd C p + i - (110 + 6 * k_cd C p) = i by omega]
          exact ⟨rfl, rfl⟩
        · rw [if_neg (by omega), if_neg (by omega), if_neg (fun q => d q.2), if_neg (by omega), if_neg (by omega), if_neg (fun q => d q.2), hJat, hJat, if_neg (by omega), if_neg (by omega), if_neg (by omega), if_neg (by omega)]
          exact ⟨rfl, rfl⟩
      · have hna : k_num C a ≠ p := fun e => c (by rw [← e, (k_num_th ha hk).2])
        have hle : (p + 1 ≤ k_num C a) = (p ≤ k_num C a) := by
          apply propext
          omega
        rw [s1, s2, e3, e3, if_neg (show ¬ (38 + 6 * k_cd C p + 0 ≤ 14 + a ∧ 14 + a < 38 + 6 * k_cd C p + k_ot C (k_cd C p)) by omega), if_neg (show ¬ (110 + 6 * k_cd C p + 0 ≤ 14 + a ∧ 14 + a < 110 + 6 * k_cd C p + k_ot C (k_cd C p)) by omega), if_neg (show ¬ (38 + 6 * k_cd C p + 0 ≤ 26 + a ∧ 26 + a < 38 + 6 * k_cd C p + k_ot C (k_cd C p)) by omega), if_neg (show ¬ (110 + 6 * k_cd C p + 0 ≤ 26 + a ∧ 26 + a < 110 + 6 * k_cd C p + k_ot C (k_cd C p)) by omega), hJat, hJat, if_neg (show ¬ 14 + a = 26 + k_cd C p by omega), if_neg (show ¬ 14 + a = 14 + k_cd C p by omega), if_neg (show ¬ 26 + a = 26 + k_cd C p by omega), if_neg (show ¬ 26 + a = 14 + k_cd C p by omega)]
        simp only [hle]
        refine ⟨trivial, trivial, fun i hi => ?_⟩
        obtain ⟨u1, u2⟩ := s3 i hi
        rw [u1, u2, e3, e3, if_neg (show ¬ (38 + 6 * k_cd C p + 0 ≤ 38 + 6 * a + i ∧ 38 + 6 * a + i < 38 + 6 * k_cd C p + k_ot C (k_cd C p)) by omega), if_neg (show ¬ (110 + 6 * k_cd C p + 0 ≤ 38 + 6 * a + i ∧ 38 + 6 * a + i < 110 + 6 * k_cd C p + k_ot C (k_cd C p)) by omega), if_neg (show ¬ (38 + 6 * k_cd C p + 0 ≤ 110 + 6 * a + i ∧ 110 + 6 * a + i < 38 + 6 * k_cd C p + k_ot C (k_cd C p)) by omega), if_neg (show ¬ (110 + 6 * k_cd C p + 0 ≤ 110 + 6 * a + i ∧ 110 + 6 * a + i < 110 + 6 * k_cd C p + k_ot C (k_cd C p)) by omega), hJat, hJat, if_neg (show ¬ 38 + 6 * a + i = 26 + k_cd C p by omega), if_neg (show ¬ 38 + 6 * a + i = 14 + k_cd C p by omega), if_neg (show ¬ 110 + 6 * a + i = 26 + k_cd C p by omega), if_neg (show ¬ 110 + 6 * a + i = 14 + k_cd C p by omega)]
        simp only [hle]
        exact ⟨trivial, trivial⟩
    · rw [r4 j hj, e3, if_neg (by omega), if_neg (by omega), hJat, if_neg (by omega), if_neg (by omega)]
    · rw [r5 a ha hna, e3, if_neg (by omega), if_neg (by omega), hJat, if_neg (by omega), if_neg (fun e => hna (by rw [show a = k_cd C p by omega]; exact hth))]
end B5y
