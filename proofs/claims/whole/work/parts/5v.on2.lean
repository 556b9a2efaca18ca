/-! on: the class reads an image -/
section B5v
variable {I I0 : Nat → Nat → Int32} {L L0 : Nat → Nat → Int64} {ρ : zRh} {h : zH} {A : aT} {N : Nat} {C : cT} {s : sT} {t : Nat → Nat}
/-- the first n bytes of a tape -/
def tpX (c : Nat) (I : Nat → Nat → Int32) (t : Nat → Nat) (n : Nat) : Prop := ∀ j, j < n → t j < 256 ∧ I c j = nI (t j)
theorem tpX_fr {c n : Nat} {I' : Nat → Nat → Int32} (h : I' c = I c) (hT : tpX c I t n) : tpX c I' t n := by
  unfold tpX
  rw [h]
  exact hT
theorem im_at_mono {C : cT} {p : Nat} : ∀ q, im_at C p ≤ im_at C (p + q)
  | 0 => Nat.le_refl _
  | q + 1 => by
    have := im_at_mono (C := C) (p := p) q
    show _ ≤ im_at C (p + q) + (2 + 2 * k_ot C (k_cd C (p + q)))
    omega
theorem o_at_le {p : Nat} (hk : okC C) (hp2 : p < k_L C + k_R C) : o_at C p + 2 + 2 * k_ot C (k_cd C p) ≤ 3 + 3 * (k_L C + k_R C) + 4 * (k_L C * k_R C) := by
  have h1 := im_at_mono (C := C) (p := p + 1) (k_L C + k_R C - (p + 1))
  rw [show p + 1 + (k_L C + k_R C - (p + 1)) = k_L C + k_R C by omega, im_at_all hk] at h1
  have h2 : im_at C (p + 1) = im_at C p + (2 + 2 * k_ot C (k_cd C p)) := rfl
  unfold o_at
  omega
theorem sd_iff (hk : okC C) {x p : Nat} (hx : x < k_L C + k_R C) (hp2 : p < k_L C + k_R C) : ((if 6 ≤ k_cd C x then (1 : Int32) else 0) = (if 6 ≤ k_cd C p then 1 else 0)) ↔ (k_L C ≤ x ↔ k_L C ≤ p) := by
  have h12 := hk.1
  have e : ∀ y, y < k_L C + k_R C → (6 ≤ k_cd C y ↔ k_L C ≤ y) := by
    intro y hy
    by_cases c : y < k_L C
    · rw [((k_cd_6 hk).1 c).1]; omega
    · rw [((k_cd_6 (p := y) hk).2 (by omega)).1]; omega
  have e1 := e x hx
  have e2 := e p hp2
  by_cases c1 : 6 ≤ k_cd C x
  · by_cases c2 : 6 ≤ k_cd C p
    · rw [if_pos c1, if_pos c2]
      exact ⟨fun _ => ⟨fun _ => e2.mp c2, fun _ => e1.mp c1⟩, fun _ => rfl⟩
    · rw [if_pos c1, if_neg c2]
      exact ⟨fun h => absurd h (by decide), fun h => absurd (e2.mpr (h.mp (e1.mp c1))) c2⟩
  · by_cases c2 : 6 ≤ k_cd C p
    · rw [if_neg c1, if_pos c2]
      exact ⟨fun h => absurd h (by decide), fun h => absurd (e1.mpr (h.mpr (e2.mp c2))) c1⟩
    · rw [if_neg c1, if_neg c2]
      exact ⟨fun _ => ⟨fun q => absurd (e1.mpr q) c1, fun q => absurd (e2.mpr q) c2⟩, fun _ => rfl⟩
theorem b_on12 {S k : Nat} (hS : S < 4096) (hk : k < 12) : (((nI S >>> (nI k &&& 31)) &&& 1) = 1) ↔ ¬ b_k S k = 0 := by
  rw [b_test12 k hk S hS]
  have h2 : b_k S k < 2 := Nat.mod_lt _ (by omega)
  rw [show ((nI (b_k S k) = 1) ↔ b_k S k = 1) from nI_inj (b := 1) (by omega) (by omega)]
  omega
theorem X8_ro_lp (hk : okC C) : ∀ (m p fuel : Nat) (I : Nat → Nat → Int32) (S : Nat), p + m = k_L C + k_R C → m < fuel → S < 4096 → cwX I ρ C → tpX 1 I t (3 + (k_L C + k_R C)) → ∃ I', z_fix (fun r x => X8_readOrders_B5 54 ρ.1 1 r x.1 x.2) fuel (nI S, nI p) (hp I L ρ) = some (some (.int (bI (oX C t m p S))), hp I' L ρ) ∧ (∀ x, x ≠ 55 → I' x = I x) ∧ (oX C t m p S = true → ∀ a, k_th C a → I' 55 a = if p ≤ k_num C a then nI (k_cd C (t (3 + k_num C a))) else I 55 a) ∧ ∀ a, ¬ k_th C a → I' 55 a = I 55 a := by
  have h12 := hk.1
  intro m
  induction m with
  | zero =>
    intro p fuel I S h1 h2 hS hC hT
    obtain ⟨f, rfl⟩ : ∃ f, fuel = f + 1 := ⟨fuel - 1, by omega⟩
    refine ⟨I, ?_, fun _ _ => rfl, fun _ a ha => ?_, fun _ _ => rfl⟩
    · rw [h_fix]
      show X8_readOrders_B5 54 ρ.1 1 _ (nI S) (nI p) (hp I L ρ) = _
      unfold X8_readOrders_B5
      rw [rcc hC.1, h_ci (YC_people hC hk), h_if, if_pos (nI_le (by omega) (by omega)), h_rb1]; rfl
    · have := (k_num_th ha hk).1
      rw [if_neg (by omega)]
  | succ m ih =>
    intro p fuel I S h1 h2 hS hC hT
    obtain ⟨f, rfl⟩ : ∃ f, fuel = f + 1 := ⟨fuel - 1, by omega⟩
    have hp2 : p < k_L C + k_R C := by omega
    obtain ⟨hth, hnum, -⟩ := k_cd_th hp2 hk
    have ha := k_th_lt hk hth
    obtain ⟨t1, t2⟩ := hT (3 + p) (by omega)
    rw [h_fix]
    show ∃ I', X8_readOrders_B5 54 ρ.1 1 _ (nI S) (nI p) (hp I L ρ) = some (some (.int (bI (o_1 C t p && (decide (b_k S (k_cd C (t (3 + p))) = 0) && oX C t m (p + 1) (m_set S (k_cd C (t (3 + p)))))))), hp I' L ρ) ∧ (∀ x, x ≠ 55 → I' x = I x) ∧ ((o_1 C t p && (decide (b_k S (k_cd C (t (3 + p))) = 0) && oX C t m (p + 1) (m_set S (k_cd C (t (3 + p)))))) = true → ∀ a, k_th C a → I' 55 a = if p ≤ k_num C a then nI (k_cd C (t (3 + k_num C a))) else I 55 a) ∧ ∀ a, ¬ k_th C a → I' 55 a = I 55 a
    unfold X8_readOrders_B5
    rw [rcc hC.1, h_ci (YC_people hC hk), h_if, if_neg (nI_ge (by omega) (by omega)), rcc hC.1, h_ci (YC_slot hC hk _), k_sl_cd hk hp2, oI_some, show (3 : Int32) = nI 3 from rfl, nI_add, la_1 (by omega), t2, rcc hC.1, h_ci (YC_slot hC hk _), k_sl_nI (by omega), h_if]
    by_cases c1 : t (3 + p) < k_L C + k_R C
    · have hv := k_cd_12 hk c1
      rw [(k_slot_some hk).1 c1, oI_some, if_neg (nI_nm1 (by omega)), h_ci (X11_sideOf_h (by omega)), h_ci (X11_sideOf_h (by omega)), h_if]
      by_cases c2 : k_L C ≤ t (3 + p) ↔ k_L C ≤ p
      · rw [if_pos ((sd_iff hk c1 hp2).mpr c2), h_if, show o_1 C t p = true from decide_eq_true ⟨c1, c2⟩]
        by_cases c3 : b_k S (k_cd C (t (3 + p))) = 0
        · rw [if_neg (fun e => (b_on12 hS hv).mp e c3), gr_54_2, sa_55 ha, m_set_or12 _ hv _ hS, nI_1, decide_eq_true c3]
          obtain ⟨I', r1, r2, r3, r4⟩ := ih (p + 1) f (u2 I 55 (k_cd C p) (nI (k_cd C (t (3 + p))))) (m_set S (k_cd C (t (3 + p)))) (by omega) (by omega) (m_set_4096 hS hv) (cwX_fr (fun x q1 q2 => u2r (by omega)) hC) (tpX_fr (u2r (by omega)) hT)
          refine ⟨I', r1, fun x hx => by rw [r2 x hx, u2r hx], fun hb a hta => ?_, fun a hna => by rw [r4 a hna, u2_ap, if_neg (fun e => hna (by rw [e.2]; exact hth))]⟩
          rw [r3 hb a hta, u2_ap]
          by_cases d : k_num C a = p
          · have e : a = k_cd C p := by rw [← d, (k_num_th hta hk).2]
            rw [if_neg (by omega), if_pos ⟨rfl, e⟩, if_pos (by omega), d]
          · have e : a ≠ k_cd C p := fun e => d (by rw [e, hnum])
            by_cases d2 : p ≤ k_num C a
            · rw [if_pos (by omega), if_pos d2]
            · rw [if_neg (by omega), if_neg (fun q => e q.2), if_neg d2]
        · rw [if_pos ((b_on12 hS hv).mpr c3), h_rb0, decide_eq_false c3]
          exact ⟨I, rfl, fun _ _ => rfl, fun hb => absurd hb (by simp), fun _ _ => rfl⟩
      · rw [if_neg (fun e => c2 ((sd_iff hk c1 hp2).mp e)), h_rb0, show o_1 C t p = false from decide_eq_false (fun e => c2 e.2)]
        exact ⟨I, rfl, fun _ _ => rfl, fun hb => absurd hb (by simp), fun _ _ => rfl⟩
    · rw [(k_slot_some hk).2 c1, oI_none, if_pos rfl, h_rb0, show o_1 C t p = false from decide_eq_false (fun e => c1 e.1)]
      exact ⟨I, rfl, fun _ _ => rfl, fun hb => absurd hb (by simp), fun _ _ => rfl⟩
def o_kf (C : cT) (t : Nat → Nat) (p k : Nat) : Bool := decide (t (o_at C p + 2 + 2 * k) ≤ 9) && decide (t (o_at C p + 3 + 2 * k) ≤ 9)
theorem X8_r1_k {a p K n : Nat} (ha : a < 12) (hK : K ≤ 6) (hn : o_at C p + 2 + 2 * K ≤ n) (hn2 : n ≤ 1600) : ∀ (m k fuel : Nat) (I : Nat → Nat → Int32), k + m = K → m < fuel → tpX 1 I t n → ∃ I', z_fix (fun r x => X8_readOne_B90 54 (nI a) 1 (nI (o_at C p)) (nI K) r x) fuel (nI k) (hp I L ρ) = some (some (.int (bI (al (o_kf C t p) m k))), hp I' L ρ) ∧ (∀ x, x ≠ 59 → x ≠ 60 → I' x = I x) ∧ (al (o_kf C t p) m k = true → ∀ j, I' 59 j = (if j / 6 = a ∧ k ≤ j % 6 ∧ j % 6 < K then nI (t (o_at C p + 2 + 2 * (j % 6))) else I 59 j) ∧ I' 60 j = (if j / 6 = a ∧ k ≤ j % 6 ∧ j % 6 < K then nI (t (o_at C p + 3 + 2 * (j % 6))) else I 60 j)) := by
  intro m
  induction m with
  | zero =>
    intro k fuel I h1 h2 hT
    obtain ⟨f, rfl⟩ : ∃ f, fuel = f + 1 := ⟨fuel - 1, by omega⟩
    refine ⟨I, ?_, fun _ _ _ => rfl, fun _ j => by rw [if_neg (by omega), if_neg (by omega)]; exact ⟨rfl, rfl⟩⟩
    rw [h_fix]
    show X8_readOne_B90 54 (nI a) 1 (nI (o_at C p)) (nI K) _ (nI k) (hp I L ρ) = _
    unfold X8_readOne_B90
    rw [h_if, if_pos (nI_le (by omega) (by omega)), h_rb1]; rfl
  | succ m ih =>
    intro k fuel I h1 h2 hT
    obtain ⟨f, rfl⟩ : ∃ f, fuel = f + 1 := ⟨fuel - 1, by omega⟩
    obtain ⟨a1, a2⟩ := hT (o_at C p + 2 + 2 * k) (by omega)
    obtain ⟨b1, b2⟩ := hT (o_at C p + 3 + 2 * k) (by omega)
    rw [h_fix]
    show ∃ I', X8_readOne_B90 54 (nI a) 1 (nI (o_at C p)) (nI K) _ (nI k) (hp I L ρ) = some (some (.int (bI (o_kf C t p k && al (o_kf C t p) m (k + 1)))), hp I' L ρ) ∧ (∀ x, x ≠ 59 → x ≠ 60 → I' x = I x) ∧ ((o_kf C t p k && al (o_kf C t p) m (k + 1)) = true → ∀ j, I' 59 j = (if j / 6 = a ∧ k ≤ j % 6 ∧ j % 6 < K then nI (t (o_at C p + 2 + 2 * (j % 6))) else I 59 j) ∧ I' 60 j = (if j / 6 = a ∧ k ≤ j % 6 ∧ j % 6 < K then nI (t (o_at C p + 3 + 2 * (j % 6))) else I 60 j))
    have e0 : ∀ rec : Int32 → zM, X8_readOne_B90 54 (nI a) 1 (nI (o_at C p)) (nI K) rec (nI k) (hp I L ρ) = if o_kf C t p k = true then rec (nI (k + 1)) (hp (u2 (u2 I 59 (a * 6 + k) (nI (t (o_at C p + 2 + 2 * k)))) 60 (a * 6 + k) (nI (t (o_at C p + 3 + 2 * k)))) L ρ) else some (some (.int 0), hp I L ρ) := by
      intro rec
      unfold X8_readOne_B90
      rw [h_if, if_neg (nI_ge (by omega) (by omega)), show (2 : Int32) = nI 2 from rfl, show (3 : Int32) = nI 3 from rfl, nI_add, pk_mul, nI_add, la_1 (by omega), a2, nI_add, nI_add, la_1 (by omega), b2, h_if]
      by_cases c1 : t (o_at C p + 2 + 2 * k) ≤ 9
      · rw [if_neg (show ¬ (9 : Int32) < nI _ from fun e => absurd ((nI_lt' (a := 9) (by omega) (by omega)).mp e) (by omega)), h_if]
        by_cases c2 : t (o_at C p + 3 + 2 * k) ≤ 9
        · rw [if_pos (show nI _ ≤ (9 : Int32) from (nI_le' (b := 9) (by omega) (by omega)).mpr c2), gr_54_6, show (6 : Int32) = nI 6 from rfl, pk_mul, nI_add, sa_59 (by omega), gr_54_7, sa_60 (by omega), nI_1, show o_kf C t p k = true by unfold o_kf; rw [decide_eq_true c1, decide_eq_true c2]; rfl, if_pos rfl]
        · rw [if_neg (show ¬ nI _ ≤ (9 : Int32) from fun e => c2 ((nI_le' (b := 9) (by omega) (by omega)).mp e)), h_rb0, show o_kf C t p k = false by unfold o_kf; rw [decide_eq_false c2, Bool.and_false], if_neg (by decide)]
      · rw [if_pos (show (9 : Int32) < nI _ from (nI_lt' (a := 9) (by omega) (by omega)).mpr (by omega)), h_rb0, show o_kf C t p k = false by unfold o_kf; rw [decide_eq_false c1, Bool.false_and], if_neg (by decide)]
    rw [e0]
    cases hkf : o_kf C t p k with
    | false => exact ⟨I, rfl, fun _ _ _ => rfl, fun hb => absurd hb (by simp)⟩
    | true =>
      obtain ⟨I', r1, r2, r3⟩ := ih (k + 1) f (u2 (u2 I 59 (a * 6 + k) (nI (t (o_at C p + 2 + 2 * k)))) 60 (a * 6 + k) (nI (t (o_at C p + 3 + 2 * k)))) (by omega) (by omega) (tpX_fr (by rw [u2r (by omega), u2r (by omega)]) hT)
      refine ⟨I', r1, fun x q1 q2 => by rw [r2 x q1 q2, u2r q2, u2r q1], fun hb j => ?_⟩
      obtain ⟨s1, s2⟩ := r3 hb j
      rw [s1, s2, u2r (show 59 ≠ 60 by omega), u2_ap, u2_ap, u2r (show 60 ≠ 59 by omega)]
      by_cases d : j = a * 6 + k
      · have e1 : j % 6 = k := by omega
        rw [if_neg (by omega), if_pos ⟨rfl, d⟩, if_pos (by omega), if_neg (by omega), if_pos ⟨rfl, d⟩, if_pos (by omega), e1]
        exact ⟨rfl, rfl⟩
      · rw [if_neg (fun q : 59 = 59 ∧ j = a * 6 + k => d q.2), if_neg (fun q : 60 = 60 ∧ j = a * 6 + k => d q.2)]
        by_cases d2 : j / 6 = a ∧ k ≤ j % 6 ∧ j % 6 < K
        · rw [if_pos (by omega), if_pos d2, if_pos (by omega), if_pos d2]
          exact ⟨rfl, rfl⟩
        · rw [if_neg (by omega), if_neg d2, if_neg (by omega), if_neg d2]
          exact ⟨rfl, rfl⟩
/-- across from one of the slots -/
theorem YC_other (hw : cwX I ρ C) (hk : okC C) {a : Nat} (ha : a < 12) {F : Int32 → zM} : (z_gr 1 0 ρ.1 fun x3 => z_ci (X11_sideOf (nI a)) fun y4 => z_la 20 x3 (1 - y4) F) (hp I L ρ) = F (nI (k_ot C a)) (hp I L ρ) := by
  rw [gc_0 hw.1, h_ci (X11_sideOf_h (by omega))]
  unfold k_ot
  by_cases c : 6 ≤ a
  · rw [if_pos c, if_neg (by omega), show (1 : Int32) - 1 = nI 0 by decide, YC_side hw hk (by omega)]; rfl
  · rw [if_neg c, if_pos (by omega), show (1 : Int32) - 0 = nI 1 by decide, YC_side hw hk (by omega)]; rfl
theorem X8_r1_h (hk : okC C) {p n : Nat} (hp2 : p < k_L C + k_R C) (hn : o_at C p + 2 + 2 * k_ot C (k_cd C p) ≤ n) (hn2 : n ≤ 1600) (hC : cwX I ρ C) (hT : tpX 1 I t n) : ∃ I', X8_readOne 54 ρ.1 (nI (k_cd C p)) 1 (nI (o_at C p)) (hp I L ρ) = some (some (.int (bI (o_Xx C t p))), hp I' L ρ) ∧ (∀ x, x ≠ 56 → x ≠ 57 → x ≠ 59 → x ≠ 60 → I' x = I x) ∧ (o_Xx C t p = true → ∀ j, I' 56 j = (if j = k_cd C p then oI (o_wd C t p) else I 56 j) ∧ I' 57 j = (if j = k_cd C p then nI (t (o_at C p + 1)) else I 57 j) ∧ I' 59 j = (if j / 6 = k_cd C p ∧ j % 6 < k_ot C (k_cd C p) then nI (t (o_at C p + 2 + 2 * (j % 6))) else I 59 j) ∧ I' 60 j = (if j / 6 = k_cd C p ∧ j % 6 < k_ot C (k_cd C p) then nI (t (o_at C p + 3 + 2 * (j % 6))) else I 60 j)) := by
  have h12 := hk.1
  obtain ⟨hth, hnum, -⟩ := k_cd_th hp2 hk
  have ha := k_th_lt hk hth
  have hot := k_ot_le hk (k_cd C p)
  obtain ⟨a1, a2⟩ := hT (o_at C p) (by omega)
  obtain ⟨b1, b2⟩ := hT (o_at C p + 1) (by omega)
  -- behind what is told of whom
  have h61 : ∀ (v : Int32) (I1 : Nat → Nat → Int32), I1 = u2 (u2 I 56 (k_cd C p) v) 57 (k_cd C p) (nI (t (o_at C p + 1))) → ∃ I', X8_readOne_J61 54 ρ.1 (nI (k_cd C p)) 1 (nI (o_at C p)) (hp I1 L ρ) = some (some (.int (bI (decide (t (o_at C p + 1) ≤ 99) && o_k C t p))), hp I' L ρ) ∧ (∀ x, x ≠ 56 → x ≠ 57 → x ≠ 59 → x ≠ 60 → I' x = I x) ∧ ((decide (t (o_at C p + 1) ≤ 99) && o_k C t p) = true → ∀ j, I' 56 j = (if j = k_cd C p then v else I 56 j) ∧ I' 57 j = (if j = k_cd C p then nI (t (o_at C p + 1)) else I 57 j) ∧ I' 59 j = (if j / 6 = k_cd C p ∧ j % 6 < k_ot C (k_cd C p) then nI (t (o_at C p + 2 + 2 * (j % 6))) else I 59 j) ∧ I' 60 j = (if j / 6 = k_cd C p ∧ j % 6 < k_ot C (k_cd C p) then nI (t (o_at C p + 3 + 2 * (j % 6))) else I 60 j)) := by
    intro v I1 hI1
    have fr : ∀ x, x ≠ 56 → x ≠ 57 → I1 x = I x := fun x q1 q2 => by rw [hI1, u2r q2, u2r q1]
    have hC1 : cwX I1 ρ C := cwX_fr (fun x q1 q2 => fr x (by omega) (by omega)) hC
    have hT1 : tpX 1 I1 t n := tpX_fr (fr 1 (by omega) (by omega)) hT
    have e57 : I1 57 (k_cd C p) = nI (t (o_at C p + 1)) := by rw [hI1, u2_ap, if_pos ⟨rfl, rfl⟩]
    unfold X8_readOne_J61
    rw [gr_54_4, la_57 ha, e57, h_if]
    by_cases c : t (o_at C p + 1) ≤ 99
    · obtain ⟨I', r1, r2, r3⟩ := X8_r1_k (C := C) (L := L) (ρ := ρ) (p := p) ha hot hn hn2 (k_ot C (k_cd C p)) 0 zFU I1 (by omega) (by unfold zFU; omega) hT1
      rw [if_pos (show nI _ ≤ (99 : Int32) from (nI_le' (b := 99) (by omega) (by omega)).mpr c), YC_other hC1 hk ha, decide_eq_true c, Bool.true_and]
      refine ⟨I', r1, fun x q1 q2 q3 q4 => by rw [r2 x q3 q4, fr x q1 q2], fun hb j => ?_⟩
      obtain ⟨s1, s2⟩ := r3 hb j
      rw [s1, s2, r2 56 (by omega) (by omega), r2 57 (by omega) (by omega), fr 59 (by omega) (by omega), fr 60 (by omega) (by omega), hI1]
      refine ⟨?_, ?_, ?_, ?_⟩
      · rw [u2r (show 56 ≠ 57 by omega), u2_ap]
        by_cases d : j = k_cd C p
        · rw [if_pos ⟨rfl, d⟩, if_pos d]
        · rw [if_neg (fun q => d q.2), if_neg d]
      · rw [u2_ap]
        by_cases d : j = k_cd C p
        · rw [if_pos ⟨rfl, d⟩, if_pos d]
        · rw [if_neg (fun q => d q.2), if_neg d, u2r (show 57 ≠ 56 by omega)]
      · by_cases d : j / 6 = k_cd C p ∧ j % 6 < k_ot C (k_cd C p)
        · rw [if_pos ⟨d.1, Nat.zero_le _, d.2⟩, if_pos d]
        · rw [if_neg (fun q => d ⟨q.1, q.2.2⟩), if_neg d]
      · by_cases d : j / 6 = k_cd C p ∧ j % 6 < k_ot C (k_cd C p)
        · rw [if_pos ⟨d.1, Nat.zero_le _, d.2⟩, if_pos d]
        · rw [if_neg (fun q => d ⟨q.1, q.2.2⟩), if_neg d]
    · rw [if_neg (show ¬ nI _ ≤ (99 : Int32) from fun e => c ((nI_le' (b := 99) (by omega) (by omega)).mp e)), h_rb0, decide_eq_false c, Bool.false_and]
      exact ⟨I1, rfl, fun x q1 q2 _ _ => fr x q1 q2, fun hb => absurd hb (by simp)⟩
  -- whom he is told to be wed to
  have h30 : ∀ v : Int32, ∃ F : zM, X8_readOne_J30 54 ρ.1 (nI (k_cd C p)) 1 (nI (o_at C p)) (nI (t (o_at C p))) v (nI (k_cd C p)) 56 (hp I L ρ) = F (hp (u2 (u2 I 56 (k_cd C p) v) 57 (k_cd C p) (nI (t (o_at C p + 1)))) L ρ) ∧ F = (if t (o_at C p) = 255 then X8_readOne_J61 54 ρ.1 (nI (k_cd C p)) 1 (nI (o_at C p)) else if v = -1 then z_rb 0 else X8_readOne_J61 54 ρ.1 (nI (k_cd C p)) 1 (nI (o_at C p))) := by
    intro v
    refine ⟨_, ?_, rfl⟩
    unfold X8_readOne_J30
    rw [sa_56 ha, gr_54_4, nI_1, la_1 (by omega), u2r (show 1 ≠ 56 by omega), b2, sa_57 ha, h_if]
    by_cases c : t (o_at C p) = 255
    · rw [if_pos (by rw [c]; rfl), if_pos c]
    · rw [if_neg (show ¬ nI (t (o_at C p)) = 255 from fun e => c ((nI_inj (b := 255) (by omega) (by omega)).mp e)), if_neg c, gr_54_3, la_56 ha, u2r (show 56 ≠ 57 by omega), u2_ap, if_pos ⟨rfl, rfl⟩, h_if]
      split <;> rfl
  unfold X8_readOne
  rw [la_1 (by omega), a2, gr_54_3, h_if]
  by_cases c : t (o_at C p) = 255
  · obtain ⟨F, e1, e2⟩ := h30 (-1)
    obtain ⟨I', r1, r2, r3⟩ := h61 (-1) _ rfl
    rw [if_pos c] at e2
    rw [if_pos (by rw [c]; rfl), e1, e2]
    have ex : o_Xx C t p = (decide (t (o_at C p + 1) ≤ 99) && o_k C t p) := by
      unfold o_Xx
      rw [show o_2 C t p = true from decide_eq_true (Or.inl c), Bool.true_and]
    have ew : o_wd C t p = none := by unfold o_wd; rw [if_pos c]
    rw [ex, ew]
    exact ⟨I', r1, r2, r3⟩
  · rw [if_neg (show ¬ nI (t (o_at C p)) = 255 from fun e => c ((nI_inj (b := 255) (by omega) (by omega)).mp e)), rcc hC.1, show nI (k_cd C p) = oI (some (k_cd C p)) from rfl, h_ci (YC_across hC hk (fun x hx => by cases hx; exact ha) _), k_sl_nI (by omega)]
    by_cases c1 : t (o_at C p) < k_L C + k_R C
    · have hv := k_cd_12 hk c1
      rw [(k_slot_some hk).1 c1]
      have hsd : (k_cd C p < 6 ↔ k_cd C (t (o_at C p)) < 6) ↔ (k_L C ≤ t (o_at C p) ↔ k_L C ≤ p) := by
        have e : ∀ y, y < k_L C + k_R C → (6 ≤ k_cd C y ↔ k_L C ≤ y) := by
          intro y hy
          by_cases c : y < k_L C
          · rw [((k_cd_6 hk).1 c).1]; omega
          · rw [((k_cd_6 (p := y) hk).2 (by omega)).1]; omega
        have e1 := e _ c1
        have e2 := e p hp2
        omega
      show ∃ I', X8_readOne_J30 54 ρ.1 (nI (k_cd C p)) 1 (nI (o_at C p)) (nI (t (o_at C p))) (oI (if (k_cd C p < 6 ↔ k_cd C (t (o_at C p)) < 6) then none else some (k_cd C (t (o_at C p))))) (nI (k_cd C p)) 56 (hp I L ρ) = _ ∧ _
      by_cases c2 : k_L C ≤ t (o_at C p) ↔ k_L C ≤ p
      · rw [if_pos (hsd.mpr c2)]
        obtain ⟨F, e1, e2⟩ := h30 (-1)
        rw [if_neg c, if_pos rfl] at e2
        rw [oI_none, e1, e2, h_rb0]
        have ex : o_Xx C t p = false := by
          unfold o_Xx
          rw [show o_2 C t p = false from decide_eq_false (fun q => by rcases q with q | q; exact c q; exact q.2 c2), Bool.false_and]
        rw [ex]
        exact ⟨_, rfl, fun x q1 q2 _ _ => by rw [u2r q2, u2r q1], fun hb => absurd hb (by simp)⟩
      · rw [if_neg (fun q => c2 (hsd.mp q))]
        obtain ⟨F, e1, e2⟩ := h30 (nI (k_cd C (t (o_at C p))))
        rw [if_neg c, if_neg (nI_nm1 (by omega))] at e2
        obtain ⟨I', r1, r2, r3⟩ := h61 (nI (k_cd C (t (o_at C p)))) _ rfl
        rw [oI_some, e1, e2]
        have ex : o_Xx C t p = (decide (t (o_at C p + 1) ≤ 99) && o_k C t p) := by
          unfold o_Xx
          rw [show o_2 C t p = true from decide_eq_true (Or.inr ⟨c1, c2⟩), Bool.true_and]
        have ew : o_wd C t p = some (k_cd C (t (o_at C p))) := by unfold o_wd; rw [if_neg c]
        rw [ex, ew]
        exact ⟨I', r1, r2, r3⟩
    · rw [(k_slot_some hk).2 c1]
      obtain ⟨F, e1, e2⟩ := h30 (-1)
      rw [if_neg c, if_pos rfl] at e2
      show ∃ I', X8_readOne_J30 54 ρ.1 (nI (k_cd C p)) 1 (nI (o_at C p)) (nI (t (o_at C p))) (-1) (nI (k_cd C p)) 56 (hp I L ρ) = _ ∧ _
      rw [e1, e2, h_rb0]
      have ex : o_Xx C t p = false := by
        unfold o_Xx
        rw [show o_2 C t p = false from decide_eq_false (fun q => by rcases q with q | q; exact c q; exact c1 q.1), Bool.false_and]
      rw [ex]
      exact ⟨_, rfl, fun x q1 q2 _ _ => by rw [u2r q2, u2r q1], fun hb => absurd hb (by simp)⟩
end B5v
