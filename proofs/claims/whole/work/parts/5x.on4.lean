/-! on: the reference looks at an image -/
section B5x
variable {I I0 : Nat → Nat → Int32} {L L0 : Nat → Nat → Int64} {ρ : zRh} {h : zH} {A : aT} {N : Nat} {C : cT} {s : sT} {t : Nat → Nat}
theorem YM_other (hk : okC C) (hM : chM I C) {p : Nat} (hp2 : p < k_L C + k_R C) {F : Int32 → zM} : z_rc 12 215 (z_ci (X12_sideOf 215 (nI p)) fun y1 => z_rc 12 215 (z_ci (X12_sideMany 215 (1 - y1)) F)) (hp I L ρ) = F (nI (k_ot C (k_cd C p))) (hp I L ρ) := by
  have h12 := hk.1
  rw [rc_215, h_ci (X12_sideOf_h hk hM (by omega)), rc_215]
  by_cases c : k_L C ≤ p
  · rw [if_pos c, ((k_cd_6 hk).2 c).2, show (1 : Int32) - 1 = 0 by decide, h_ci (X12_side0 hM)]
  · rw [if_neg c, ((k_cd_6 (p := p) hk).1 (by omega)).2, show (1 : Int32) - 0 = 1 by decide, h_ci (X12_side1 hM)]
theorem X12_bytesOf_h (hk : okC C) (hM : chM I C) {p : Nat} (hp2 : p < k_L C + k_R C) : X12_bytesOf 215 (nI p) (hp I L ρ) = some (some (.int (nI (2 + 2 * k_ot C (k_cd C p)))), hp I L ρ) := by
  unfold X12_bytesOf
  rw [YM_other hk hM hp2, h_ret, show (2 : Int32) = nI 2 from rfl, pk_mul, nI_add]
theorem X12_toldAt_lp (hk : okC C) (hM : chM I C) {q : Nat} (hq : q ≤ k_L C + k_R C) : ∀ (m p fuel : Nat), p + m = q → m < fuel → z_fix (fun r x => X12_toldAt_B9 215 (nI q) r x.1 x.2) fuel (nI (o_at C p), nI p) (hp I L ρ) = some (some (.int (nI (o_at C q))), hp I L ρ) := by
  have h12 := hk.1
  intro m
  induction m with
  | zero =>
    intro p fuel h1 h2
    obtain ⟨f, rfl⟩ : ∃ f, fuel = f + 1 := ⟨fuel - 1, by omega⟩
    obtain rfl : p = q := by omega
    rw [h_fix]
    show X12_toldAt_B9 215 (nI p) _ (nI (o_at C p)) (nI p) (hp I L ρ) = _
    unfold X12_toldAt_B9
    rw [h_if, if_pos (nI_le (by omega) (by omega))]; rfl
  | succ m ih =>
    intro p fuel h1 h2
    obtain ⟨f, rfl⟩ : ∃ f, fuel = f + 1 := ⟨fuel - 1, by omega⟩
    have hi := ih (p + 1) f (by omega) (by omega)
    have e5 : o_at C (p + 1) = o_at C p + (2 + 2 * k_ot C (k_cd C p)) := by
      unfold o_at
      rw [show im_at C (p + 1) = im_at C p + (2 + 2 * k_ot C (k_cd C p)) from rfl]
      omega
    rw [h_fix, ← hi]
    show X12_toldAt_B9 215 (nI q) _ (nI (o_at C p)) (nI p) (hp I L ρ) = _
    unfold X12_toldAt_B9
    rw [h_if, if_neg (nI_ge (by omega) (by omega)), rc_215, h_ci (X12_bytesOf_h hk hM (by omega)), nI_add, nI_1, e5]
theorem X12_toldAt_h (hk : okC C) (hM : chM I C) {q : Nat} (hq : q ≤ k_L C + k_R C) : X12_toldAt 215 (nI q) (hp I L ρ) = some (some (.int (nI (o_at C q))), hp I L ρ) := by
  have h12 := hk.1
  unfold X12_toldAt
  rw [rc_215, h_ci (X12_peopleMany_h hM), show (3 : Int32) = nI 3 from rfl, nI_add]
  exact X12_toldAt_lp hk hM hq q 0 zFU (by omega) (by unfold zFU; omega)
theorem sd_iffM {x p : Nat} : ((if k_L C ≤ x then (1 : Int32) else 0) = (if k_L C ≤ p then 1 else 0)) ↔ (k_L C ≤ x ↔ k_L C ≤ p) := by
  by_cases c1 : k_L C ≤ x
  · by_cases c2 : k_L C ≤ p
    · rw [if_pos c1, if_pos c2]; exact ⟨fun _ => ⟨fun _ => c2, fun _ => c1⟩, fun _ => rfl⟩
    · rw [if_pos c1, if_neg c2]; exact ⟨fun h => absurd h (by decide), fun h => absurd (h.mp c1) c2⟩
  · by_cases c2 : k_L C ≤ p
    · rw [if_neg c1, if_pos c2]; exact ⟨fun h => absurd h (by decide), fun h => absurd (h.mpr c2) c1⟩
    · rw [if_neg c1, if_neg c2]; exact ⟨fun _ => ⟨fun q => absurd q c1, fun q => absurd q c2⟩, fun _ => rfl⟩
theorem b_pow : ∀ P, P < 13 → ((1 : Int32) <<< (nI P &&& 31)) - 1 = nI (2 ^ P - 1) := by decide +kernel
theorem X12_or_lp (hk : okC C) (hM : chM I C) (hT : tpX 216 I t (3 + (k_L C + k_R C))) : ∀ (m p fuel S : Nat), p + m = k_L C + k_R C → m < fuel → S < 2 ^ (k_L C + k_R C) → z_fix (fun r x => X12_areOrders_B4 215 r x.1 x.2) fuel (nI S, nI p) (hp I L ρ) = some (some (.int (bI (oM C t m p S))), hp I L ρ) := by
  have h12 := hk.1
  have h4 := p2_4096 (P := k_L C + k_R C) (by omega)
  intro m
  induction m with
  | zero =>
    intro p fuel S h1 h2 hS
    obtain ⟨f, rfl⟩ : ∃ f, fuel = f + 1 := ⟨fuel - 1, by omega⟩
    rw [h_fix]
    show X12_areOrders_B4 215 _ (nI S) (nI p) (hp I L ρ) = some (some (.int (bI (decide (S = 2 ^ (k_L C + k_R C) - 1)))), hp I L ρ)
    unfold X12_areOrders_B4 X12_areOrders_J57
    rw [rc_215, h_ci (X12_peopleMany_h hM), h_if, if_pos (nI_le (by omega) (by omega)), rc_215, h_ci (X12_peopleMany_h hM), b_pow _ (by omega), h_if]
    by_cases c : S = 2 ^ (k_L C + k_R C) - 1
    · rw [if_pos (by rw [c]), h_rb1, decide_eq_true c]; rfl
    · rw [if_neg (fun e => c ((nI_inj (by omega) (by omega)).mp e)), h_rb0, decide_eq_false c]; rfl
  | succ m ih =>
    intro p fuel S h1 h2 hS
    obtain ⟨f, rfl⟩ : ∃ f, fuel = f + 1 := ⟨fuel - 1, by omega⟩
    obtain ⟨t1, t2⟩ := hT (3 + p) (by omega)
    have e0 : ∀ rec : Int32 × Int32 → zM, X12_areOrders_B4 215 rec (nI S) (nI p) (hp I L ρ) = if o_1 C t p = true then rec (nI (m_set S (t (3 + p))), nI (p + 1)) (hp I L ρ) else some (some (.int 0), hp I L ρ) := by
      intro rec
      unfold X12_areOrders_B4
      rw [rc_215, h_ci (X12_peopleMany_h hM), h_if, if_neg (nI_ge (by omega) (by omega)), gr_215_0, show (3 : Int32) = nI 3 from rfl, nI_add, la_216 (by omega), t2, rc_215, nI_cl (by omega), h_ci (X12_isPerson_h hk hM (by omega)), h_if]
      by_cases c1 : t (3 + p) < k_L C + k_R C
      · rw [decide_eq_true (by omega), if_neg (by decide), rc_215, h_ci (X12_sideOf_h hk hM (by omega)), rc_215, h_ci (X12_sideOf_h hk hM (by omega)), h_if]
        by_cases c2 : k_L C ≤ t (3 + p) ↔ k_L C ≤ p
        · rw [if_pos (sd_iffM.mpr c2), show o_1 C t p = true from decide_eq_true ⟨c1, c2⟩, if_pos rfl, m_set_or12 _ (by omega) _ (by omega), nI_1]
        · rw [if_neg (fun e => c2 (sd_iffM.mp e)), h_rb0, show o_1 C t p = false from decide_eq_false (fun e => c2 e.2), if_neg (by decide)]
      · rw [decide_eq_false (by omega), bF, if_pos rfl, h_rb0, show o_1 C t p = false from decide_eq_false (fun e => c1 e.1), if_neg (by decide)]
    rw [h_fix]
    show X12_areOrders_B4 215 _ (nI S) (nI p) (hp I L ρ) = some (some (.int (bI (o_1 C t p && oM C t m (p + 1) (m_set S (t (3 + p)))))), hp I L ρ)
    rw [e0]
    cases c : o_1 C t p with
    | false => rw [if_neg (by decide)]; rfl
    | true =>
      rw [if_pos rfl, Bool.true_and]
      exact ih (p + 1) f _ (by omega) (by omega) (m_set_lt12 (by omega) (of_decide_eq_true c).1 hS)
theorem X12_to_k (hk : okC C) (hM : chM I C) {p n : Nat} (hp2 : p < k_L C + k_R C) (hn : o_at C p + 2 + 2 * k_ot C (k_cd C p) ≤ n) (hn2 : n ≤ 1600) (hT : tpX 216 I t n) : ∀ (m k fuel : Nat), k + m = 2 + 2 * k_ot C (k_cd C p) → m < fuel → z_fix (fun r x => X12_isToldOf_B82 215 (nI p) (nI (o_at C p)) r x) fuel (nI k) (hp I L ρ) = some (some (.int (bI (al (fun k => decide (t (o_at C p + k) ≤ 9)) m k))), hp I L ρ) := by
  have hot := k_ot_le hk (k_cd C p)
  intro m
  induction m with
  | zero =>
    intro k fuel h1 h2
    obtain ⟨f, rfl⟩ : ∃ f, fuel = f + 1 := ⟨fuel - 1, by omega⟩
    rw [h_fix]
    show X12_isToldOf_B82 215 (nI p) (nI (o_at C p)) _ (nI k) (hp I L ρ) = _
    unfold X12_isToldOf_B82
    rw [rc_215, h_ci (X12_bytesOf_h hk hM hp2), h_if, if_pos (nI_le (by omega) (by omega)), h_rb1]; rfl
  | succ m ih =>
    intro k fuel h1 h2
    obtain ⟨f, rfl⟩ : ∃ f, fuel = f + 1 := ⟨fuel - 1, by omega⟩
    have hi := ih (k + 1) f (by omega) (by omega)
    obtain ⟨t1, t2⟩ := hT (o_at C p + k) (by omega)
    rw [h_fix]
    show X12_isToldOf_B82 215 (nI p) (nI (o_at C p)) _ (nI k) (hp I L ρ) = some (some (.int (bI (decide (t (o_at C p + k) ≤ 9) && al (fun k => decide (t (o_at C p + k) ≤ 9)) m (k + 1)))), hp I L ρ)
    unfold X12_isToldOf_B82
    rw [rc_215, h_ci (X12_bytesOf_h hk hM hp2), h_if, if_neg (nI_ge (by omega) (by omega)), gr_215_0, nI_add, la_216 (by omega), t2, h_if]
    by_cases c : t (o_at C p + k) ≤ 9
    · rw [if_pos (show nI _ ≤ (9 : Int32) from (nI_le' (b := 9) (by omega) (by omega)).mpr c), decide_eq_true c, Bool.true_and, nI_1]
      exact hi
    · rw [if_neg (show ¬ nI _ ≤ (9 : Int32) from fun e => c ((nI_le' (b := 9) (by omega) (by omega)).mp e)), h_rb0, decide_eq_false c]; rfl
theorem o_at_lt (hk : okC C) {p : Nat} (hp2 : p < k_L C + k_R C) {n : Nat} (hn : n = o_len C) : o_at C p + 2 + 2 * k_ot C (k_cd C p) ≤ n - 1 ∧ n ≤ 184 := by
  have h1 := o_at_le hk hp2
  have h2 := k_LR hk
  have h12 := hk.1
  unfold o_len at hn
  omega
theorem X12_to_h (hk : okC C) (hM : chM I C) {p n : Nat} (hp2 : p < k_L C + k_R C) (hn : n = o_len C) (hT : tpX 216 I t n) : X12_isToldOf 215 (nI p) (hp I L ρ) = some (some (.int (bI (o_Mm C t p))), hp I L ρ) := by
  have h12 := hk.1
  obtain ⟨hat, hn184⟩ := o_at_lt hk hp2 hn
  have hot := k_ot_le hk (k_cd C p)
  obtain ⟨a1, a2⟩ := hT (o_at C p) (by omega)
  obtain ⟨b1, b2⟩ := hT (o_at C p + 1) (by omega)
  obtain ⟨hth, hnum, -⟩ := k_cd_th hp2 hk
  have hcd := k_th_lt hk hth
  have e64 : X12_isToldOf_J64 215 (nI p) (nI (o_at C p)) (hp I L ρ) = some (some (.int (bI (decide (t (o_at C p + 1) ≤ 99) && o_kM C t p))), hp I L ρ) := by
    unfold X12_isToldOf_J64
    rw [gr_215_0, nI_1, la_216 (by omega), b2, h_if]
    by_cases c : t (o_at C p + 1) ≤ 99
    · rw [if_pos (show nI _ ≤ (99 : Int32) from (nI_le' (b := 99) (by omega) (by omega)).mpr c), decide_eq_true c, Bool.true_and]
      exact X12_to_k hk hM hp2 (by omega) (by omega) hT (2 * k_ot C (k_cd C p)) 2 zFU (by omega) (by unfold zFU; omega)
    · rw [if_neg (show ¬ nI _ ≤ (99 : Int32) from fun e => c ((nI_le' (b := 99) (by omega) (by omega)).mp e)), h_rb0, decide_eq_false c]; rfl
  have side6 : ∀ y, y < k_L C + k_R C → (6 ≤ k_cd C y ↔ k_L C ≤ y) := by
    intro y hy
    by_cases c : y < k_L C
    · rw [((k_cd_6 hk).1 c).1]; omega
    · rw [((k_cd_6 (p := y) hk).2 (by omega)).1]; omega
  unfold X12_isToldOf o_Mm
  rw [rc_215, h_ci (X12_toldAt_h hk hM (by omega)), gr_215_0, la_216 (by omega), a2, h_if]
  by_cases c : t (o_at C p) = 255
  · rw [if_pos (by rw [c]; rfl), show o_3 C t p = true from decide_eq_true (Or.inl c), Bool.true_and]
    exact e64
  · rw [if_neg (show ¬ nI (t (o_at C p)) = 255 from fun e => c ((nI_inj (b := 255) (by omega) (by omega)).mp e)), rc_215, h_ci (X12_areTwo_v hk hM _ _), h_if]
    have hac : (k_ac C (nI p) (nI (t (o_at C p)))).isSome = decide (t (o_at C p) < k_L C + k_R C ∧ ¬ (k_L C ≤ t (o_at C p) ↔ k_L C ≤ p)) := by
      unfold k_ac
      rw [k_sl_cd hk hp2, k_sl_nI (by omega)]
      by_cases c1 : t (o_at C p) < k_L C + k_R C
      · rw [(k_slot_some hk).1 c1]
        have s1 := side6 _ c1
        have s2 := side6 _ hp2
        show (if (k_cd C p < 6 ↔ k_cd C (t (o_at C p)) < 6) then none else some (k_cd C (t (o_at C p))) : Option Nat).isSome = _
        by_cases c2 : k_cd C p < 6 ↔ k_cd C (t (o_at C p)) < 6
        · rw [if_pos c2, decide_eq_false (by omega)]; rfl
        · rw [if_neg c2, decide_eq_true (by omega)]; rfl
      · rw [(k_slot_some hk).2 c1, decide_eq_false (by omega)]; rfl
    rw [hac]
    by_cases c2 : t (o_at C p) < k_L C + k_R C ∧ ¬ (k_L C ≤ t (o_at C p) ↔ k_L C ≤ p)
    · have hat2 := (o_at_lt hk c2.1 hn).1
      obtain ⟨d1, d2⟩ := hT (o_at C (t (o_at C p))) (by omega)
      have hv := k_cd_12 hk c2.1
      have s1 := side6 _ c2.1
      have s2 := side6 _ hp2
      rw [decide_eq_true c2, if_neg (by decide), gr_215_0, rc_215, h_ci (X12_toldAt_h hk hM (by omega)), la_216 (by omega), d2, h_if]
      by_cases c3 : t (o_at C (t (o_at C p))) = p
      · rw [if_pos (by rw [c3]), rc_215, h_ci (X12_codeOf_h hk hM (by omega)), rc_215, h_ci (X12_codeOf_h hk hM (by omega)), rc_215, h_ci (X12_areKin_h hk hM hcd hv (by omega)), h_if]
        cases q : k_kn C (k_cd C p) (k_cd C (t (o_at C p))) with
        | false =>
          rw [bF, if_pos rfl, show o_3 C t p = true from decide_eq_true (Or.inr ⟨c2, c3, q⟩), Bool.true_and]
          exact e64
        | true =>
          rw [if_neg (show ¬ bI true = 0 by decide), h_rb0, show o_3 C t p = false from decide_eq_false (fun e => by
            rcases e with e | e
            · exact c e
            · rw [q] at e; exact absurd e.2.2 (by simp))]; rfl
      · rw [if_neg (fun e => c3 ((nI_inj (by omega) (by omega)).mp e)), h_rb0, show o_3 C t p = false from decide_eq_false (fun e => by
            rcases e with e | e
            · exact c e
            · exact c3 e.2.1)]; rfl
    · rw [decide_eq_false c2, bF, if_pos rfl, h_rb0, show o_3 C t p = false from decide_eq_false (fun e => by
            rcases e with e | e
            · exact c e
            · exact c2 e.1)]; rfl
theorem X12_im_lp (hk : okC C) (hM : chM I C) {n : Nat} (hn : n = o_len C) (hT : tpX 216 I t n) : ∀ (m p fuel : Nat), p + m = k_L C + k_R C → m < fuel → z_fix (fun r x => X12_isImage_B70 215 r x) fuel (nI p) (hp I L ρ) = some (some (.int (bI (al (o_Mm C t) m p))), hp I L ρ) := by
  have h12 := hk.1
  intro m
  induction m with
  | zero =>
    intro p fuel h1 h2
    obtain ⟨f, rfl⟩ : ∃ f, fuel = f + 1 := ⟨fuel - 1, by omega⟩
    rw [h_fix]
    show X12_isImage_B70 215 _ (nI p) (hp I L ρ) = _
    unfold X12_isImage_B70
    rw [rc_215, h_ci (X12_peopleMany_h hM), h_if, if_pos (nI_le (by omega) (by omega)), h_rb1]; rfl
  | succ m ih =>
    intro p fuel h1 h2
    obtain ⟨f, rfl⟩ : ∃ f, fuel = f + 1 := ⟨fuel - 1, by omega⟩
    have hi := ih (p + 1) f (by omega) (by omega)
    rw [h_fix]
    show X12_isImage_B70 215 _ (nI p) (hp I L ρ) = some (some (.int (bI (o_Mm C t p && al (o_Mm C t) m (p + 1)))), hp I L ρ)
    unfold X12_isImage_B70
    rw [rc_215, h_ci (X12_peopleMany_h hM), h_if, if_neg (nI_ge (by omega) (by omega)), rc_215, h_ci (X12_to_h hk hM (by omega) hn hT), h_if]
    cases o_Mm C t p with
    | true => rw [if_neg (show ¬ bI true = 0 by decide), nI_1]; exact hi
    | false => rw [bF, if_pos rfl, h_rb0]; rfl
theorem X12_two_h {n : Nat} (hn : 4 ≤ n) (hT : tpX 216 I t n) : X12_twoAt 215 0 (hp I L ρ) = some (some (.int (nI (t 0 * 256 + t 1))), hp I L ρ) := by
  obtain ⟨a1, a2⟩ := hT 0 (by omega)
  obtain ⟨b1, b2⟩ := hT 1 (by omega)
  unfold X12_twoAt
  rw [gr_215_0, lal_0, la_216 (by omega), a2, gr_215_0, show (0 : Int32) + 1 = nI 1 by decide, la_216 (by omega), b2, h_ret, show (256 : Int32) = nI 256 from rfl, pk_mul, nI_add, Nat.mul_comm]
theorem X12_isImage_h (hk : okC C) (hM : chM I C) {n : Nat} (hn2 : n ≤ 1600) (hT : tpX 216 I t n) : X12_isImage 215 (nI n) (hp I L ρ) = some (some (.int (bI (o_V C t n))), hp I L ρ) := by
  have h12 := hk.1
  have hLR := k_LR hk
  have hrt := hk.2.1
  have hol : o_len C ≤ 184 ∧ 4 ≤ o_len C := by unfold o_len; omega
  have hat : o_at C (k_L C + k_R C) + 1 = o_len C := by
    unfold o_at o_len
    rw [im_at_all hk]
    omega
  unfold X12_isImage o_V
  rw [rc_215, h_ci (X12_peopleMany_h hM), rc_215, h_ci (X12_toldAt_h hk hM (Nat.le_refl _)), nI_1, hat, h_if]
  by_cases c1 : n = o_len C
  · have hn4 : 4 ≤ n := by omega
    have hn184 : n ≤ 184 := by omega
    obtain ⟨t1, t2⟩ := hT (n - 1) (by omega)
    have hck := ck_lt t (n - 1)
    have hol3 : 3 + (k_L C + k_R C) ≤ n := by unfold o_len at c1; omega
    obtain ⟨d1, d2⟩ := hT 2 (by omega)
    obtain ⟨a1, a2⟩ := hT 0 (by omega)
    obtain ⟨b1, b2⟩ := hT 1 (by omega)
    rw [if_pos (by rw [c1]), decide_eq_true c1, Bool.true_and, gr_215_0, show (1 : Int32) = nI 1 from rfl, pk_sub (by omega), la_216 (by omega), t2, gr_215_0, h_ci (X12_check_h (a := 216) (z := 1600) (n := n - 1) (g := t) (by decide) rfl (by decide) (by omega) (fun i hi => hT i (by omega))), h_if]
    by_cases c2 : t (n - 1) = ck t (n - 1)
    · rw [if_pos (by rw [c2]), decide_eq_true c2, Bool.true_and, rc_215, h_ci (X12_two_h hn4 hT), h_if]
      by_cases c3 : t 0 * 256 + t 1 < 1000
      · rw [if_neg (show ¬ (999 : Int32) < nI _ from fun e => absurd ((nI_lt' (a := 999) (by omega) (by omega)).mp e) (by omega)), decide_eq_true c3, Bool.true_and, gr_215_0, lal_2, la_216 (by omega), d2, rc_215, h_ci (X12_roundMany_h hM), h_if]
        by_cases c4 : t 2 < k_rt C
        · rw [if_neg (nI_ge (by omega) (by omega)), decide_eq_true c4, Bool.true_and, rc_215]
          have e1 := X12_or_lp (L := L) (ρ := ρ) hk hM (t := t) (fun j hj => hT j (by omega)) (k_L C + k_R C) 0 zFU 0 (by omega) (by unfold zFU; omega) (Nat.two_pow_pos _)
          have e1' : X12_areOrders 215 (hp I L ρ) = _ := e1
          rw [h_ci e1', h_if, oX_oM hk]
          cases oM C t (k_L C + k_R C) 0 0 with
          | false => rw [bF, if_pos rfl, h_rb0]; rfl
          | true =>
            rw [if_neg (show ¬ bI true = 0 by decide), Bool.true_and, o_all hk]
            exact X12_im_lp hk hM c1 hT (k_L C + k_R C) 0 zFU (by omega) (by unfold zFU; omega)
        · rw [if_pos (nI_le (by omega) (by omega)), h_rb0, decide_eq_false c4]; rfl
      · rw [if_pos (show (999 : Int32) < nI _ from (nI_lt' (a := 999) (by omega) (by omega)).mpr (by omega)), h_rb0, decide_eq_false c3]; rfl
    · rw [if_neg (fun e => c2 ((nI_inj (by omega) (by omega)).mp e)), h_rb0, decide_eq_false c2]; rfl
  · rw [if_neg (fun e => c1 ((nI_inj (by omega) (by omega)).mp e)), h_rb0, decide_eq_false c1]; rfl
end B5x
