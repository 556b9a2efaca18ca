/-! the class: a round -/
section B21
variable {I : Nat → Nat → Int32} {L : Nat → Nat → Int64} {ρ : zRh} {C : cT} {s : sT} {tr : Option Nat}
theorem bI_0 {b : Bool} : bI b = 0 ↔ b = false := by cases b <;> simp [bI]
theorem tr_eq {a : Nat} (ha : a < 12) (ht : ∀ b, tr = some b → b < 12) : nI a = oI tr ↔ tr = some a := by
  cases tr with
  | none => simp only [oI, reduceCtorEq, iff_false]; exact nI_nm1 (by omega)
  | some b =>
    have := ht b rfl
    simp only [oI, Option.some.injEq]
    rw [nI_inj (by omega) (by omega)]
    exact eq_comm
def p_waK (C : cT) (s : sT) (k a : Nat) : Nat := if a < k ∧ (k_th C a ∧ s_wed s a = none) then (if 99 < s_wai s a + 1 then 99 else s_wai s a + 1) else s_wai s a
theorem X10_time_lp_13_41 (hk : okC C) (hB : bnS s) (hW : ∀ a c, s_wed s a = some c → c < 12) (hρ : ρ.2.2.1 = 13) : ∀ (m k : Nat) (I : Nat → Nat → Int32) (fuel : Nat), k + m = 12 → m < fuel → chX 13 I C → (∀ j, j < 12 → I 43 j = oI (s_wed s j)) → (∀ j, j < 12 → I 44 j = nI (p_waK C s k j)) →
    ∃ I', z_fix (fun r x => X10_passTime_B42 48 41 r x) fuel (nI k) (hp I L ρ) = some (none, hp I' L ρ) ∧ (∀ a, a ≠ 44 → I' a = I a) ∧ ∀ j, j < 12 → I' 44 j = nI (p_waK C s 12 j) := by
  intro m
  induction m with
  | zero =>
    intro k I fuel h1 h2 hC hw ha
    obtain ⟨f, rfl⟩ : ∃ f, fuel = f + 1 := ⟨fuel - 1, by omega⟩
    obtain rfl : k = 12 := by omega
    refine ⟨I, ?_, fun _ _ => rfl, ha⟩
    rw [h_fix]
    show X10_passTime_B42 48 41 _ (nI 12) (hp I L ρ) = _
    unfold X10_passTime_B42
    rw [h_if, if_pos (by decide)]
    rfl
  | succ m ih =>
    intro k I fuel h1 h2 hC hw ha
    obtain ⟨f, rfl⟩ : ∃ f, fuel = f + 1 := ⟨fuel - 1, by omega⟩
    have hk12 : k < 12 := by omega
    have hwk := (hB.2.1 k hk12).1
    rw [h_fix]
    generalize hg : z_fix (fun r x => X10_passTime_B42 48 41 r x) f = rec
    show ∃ I', X10_passTime_B42 48 41 rec (nI k) (hp I L ρ) = _ ∧ _
    have hkk : p_waK C s k k = s_wai s k := by unfold p_waK; rw [if_neg (by omega)]
    have hsame : ∀ j, j ≠ k → p_waK C s (k + 1) j = p_waK C s k j := fun j hj => by
      unfold p_waK
      have : (j < k + 1 ∧ (k_th C j ∧ s_wed s j = none)) ↔ (j < k ∧ (k_th C j ∧ s_wed s j = none)) := by constructor <;> (intro h; exact ⟨by omega, h.2⟩)
      simp only [this]
    unfold X10_passTime_B42 X10_passTime_J88
    rw [h_if, if_neg (show ¬ (12 : Int32) ≤ nI k from nI_ge (b := 12) (by omega) (by omega)), gr_48_0, hρ, rc_13, h_ci (X1_isThere_13 hC hk hk12), h_if]
    simp only [bI_0, decide_eq_false_iff_not]
    by_cases c1 : k_th C k
    · rw [if_neg (fun f => f c1), gr_41_3, la_43 hk12, hw k hk12, h_if]
      simp only [oI_m1 (fun c e => Nat.lt_trans (hW _ c e) (by decide))]
      by_cases c2 : s_wed s k = none
      · rw [if_pos c2, gr_41_4, gr_41_4, la_44 hk12, ha k hk12, hkk, nI_1, sa_44 hk12, nI_1, ← hg]
        have e : (if (99 : Int32) < nI (s_wai s k + 1) then 99 else nI (s_wai s k + 1)) = nI (if 99 < s_wai s k + 1 then 99 else s_wai s k + 1) := by
          rw [show (99 : Int32) = nI 99 from rfl]
          simp only [nI_lt' (show 99 < 2147483648 by omega) (show s_wai s k + 1 < 2147483648 by omega)]
          split <;> rfl
        rw [e]
        obtain ⟨I', q1, q2, q3⟩ := ih (k + 1) (u2 I 44 k (nI (if 99 < s_wai s k + 1 then 99 else s_wai s k + 1))) f (by omega) (by omega) (chX_fr (fun a h1 h2 => u2r (by omega)) hC) (fun j hj => by rw [u2r (by omega)]; exact hw j hj) (fun j hj => by
          rw [u2_ap]
          by_cases q : j = k
          · rw [if_pos ⟨rfl, q⟩, q]
            unfold p_waK
            rw [if_pos (show k < k + 1 ∧ (k_th C k ∧ s_wed s k = none) from ⟨by omega, c1, c2⟩)]
          · rw [if_neg (fun c => q c.2), hsame j q, ha j hj])
        exact ⟨I', q1, fun a h => by rw [q2 a h, u2r h], q3⟩
      · rw [if_neg c2, nI_1, ← hg]
        exact ih (k + 1) I f (by omega) (by omega) hC hw (fun j hj => by
          by_cases q : j = k
          · rw [ha j hj, q]
            unfold p_waK
            rw [if_neg (by omega), if_neg (fun c => c2 c.2.2)]
          · rw [hsame j q, ha j hj])
    · rw [if_pos c1, nI_1, ← hg]
      exact ih (k + 1) I f (by omega) (by omega) hC hw (fun j hj => by
        by_cases q : j = k
        · rw [ha j hj, q]
          unfold p_waK
          rw [if_neg (by omega), if_neg (fun c => c1 c.2.1)]
        · rw [hsame j q, ha j hj])
theorem X10_time_13_41 (hk : okC C) (hB : bnS s) (hW : ∀ a c, s_wed s a = some c → c < 12) (hρ : ρ.2.2.1 = 13) (hC : chX 13 I C) (hX : stX 41 I s) : ∃ I', X10_passTime 48 41 (hp I L ρ) = some (none, hp I' L ρ) ∧ (∀ a, a ≠ 41 → a ≠ 44 → I' a = I a) ∧ stX 41 I' (p_time C s) := by
  have hrt : I 13 9 = nI (k_rt C) := hC.2.1.1
  have hk2 := hk.2.1
  have hb1 := hB.1
  obtain ⟨⟨x1, x2⟩, x3, x4, x5, x6, x7, x8⟩ := hX
  unfold X10_passTime
  rw [gi_41, x2, pi_41, gi_41, gr_48_0, hρ, gi_13, u2r (show (13 : Nat) ≠ 41 by decide), hrt, u2_ap, if_pos ⟨rfl, rfl⟩, nI_1, h_if]
  simp only [nI_le' (show k_rt C < 2147483648 by omega) (show s_rd s + 1 < 2147483648 by omega)]
  unfold p_time
  by_cases c : k_rt C ≤ s_rd s + 1
  · rw [if_pos c, if_neg (by omega), pi_41, gi_41, pi_41]
    generalize hI1 : u2 (u2 (u2 I 41 1 (nI (s_rd s + 1))) 41 1 0) 41 0 (u2 (u2 I 41 1 (nI (s_rd s + 1))) 41 1 0 41 0 + 1) = I1
    have f1 : ∀ a, a ≠ 41 → I1 a = I a := fun a ha => by rw [← hI1, u2r ha, u2r ha, u2r ha]
    have g0 : I1 41 0 = nI (s_sp s + 1) := by rw [← hI1, u2_ap, if_pos ⟨rfl, rfl⟩, u2_ap, if_neg (by omega), u2_ap, if_neg (by omega), x1, nI_1]
    have g1 : I1 41 1 = nI 0 := by rw [← hI1, u2_ap, if_neg (by omega), u2_ap, if_pos ⟨rfl, rfl⟩]; rfl
    obtain ⟨I', e1, e2, e3⟩ := X10_time_lp_13_41 (L := L) (ρ := ρ) hk hB hW hρ 12 0 I1 zFU (by omega) (by unfold zFU; omega) (chX_fr (fun a h1 h2 => f1 a (by omega)) hC) (fun j hj => by rw [f1 _ (by omega)]; exact x4 j hj) (fun j hj => by
      rw [f1 _ (by omega)]
      unfold p_waK
      rw [if_neg (by omega)]
      exact x5 j hj)
    refine ⟨I', e1, fun a h1 h2 => by rw [e2 a h2, f1 a h1], ⟨?_, ?_⟩, ?_, ?_, fun j hj => ?_, ?_, ?_, ?_⟩
    · rw [e2 _ (by omega), g0]; rfl
    · rw [e2 _ (by omega), g1]; rfl
    · intro j hj; rw [e2 _ (by omega), f1 _ (by omega)]; exact x3 j hj
    · intro j hj; rw [e2 _ (by omega), f1 _ (by omega)]; exact x4 j hj
    · rw [e3 j hj]
      show _ = nI (if k_th C j ∧ s_wed s j = none then (if 99 < s_wai s j + 1 then 99 else s_wai s j + 1) else s_wai s j)
      unfold p_waK
      have : (j < 12 ∧ (k_th C j ∧ s_wed s j = none)) ↔ (k_th C j ∧ s_wed s j = none) := ⟨fun h => h.2, fun h => ⟨hj, h⟩⟩
      simp only [this]
    · intro j hj; rw [e2 _ (by omega), f1 _ (by omega)]; exact x6 j hj
    · intro j hj; rw [e2 _ (by omega), f1 _ (by omega)]; exact x7 j hj
    · intro j hj; rw [e2 _ (by omega), f1 _ (by omega)]; exact x8 j hj
  · rw [if_neg c, if_pos (by omega)]
    refine ⟨_, rfl, fun a h1 h2 => u2r h1, ⟨?_, ?_⟩, ?_, ?_, ?_, ?_, ?_, ?_⟩
    · rw [u2_ap, if_neg (by omega)]; exact x1
    · rw [u2_ap, if_pos ⟨rfl, rfl⟩]; rfl
    · intro j hj; rw [u2r (by omega)]; exact x3 j hj
    · intro j hj; rw [u2r (by omega)]; exact x4 j hj
    · intro j hj; rw [u2r (by omega)]; exact x5 j hj
    · intro j hj; rw [u2r (by omega)]; exact x6 j hj
    · intro j hj; rw [u2r (by omega)]; exact x7 j hj
    · intro j hj; rw [u2r (by omega)]; exact x8 j hj
theorem X10_time_lp_13_54 (hk : okC C) (hB : bnS s) (hW : ∀ a c, s_wed s a = some c → c < 12) (hρ : ρ.2.2.1 = 13) : ∀ (m k : Nat) (I : Nat → Nat → Int32) (fuel : Nat), k + m = 12 → m < fuel → chX 13 I C → (∀ j, j < 12 → I 56 j = oI (s_wed s j)) → (∀ j, j < 12 → I 57 j = nI (p_waK C s k j)) →
    ∃ I', z_fix (fun r x => X10_passTime_B42 48 54 r x) fuel (nI k) (hp I L ρ) = some (none, hp I' L ρ) ∧ (∀ a, a ≠ 57 → I' a = I a) ∧ ∀ j, j < 12 → I' 57 j = nI (p_waK C s 12 j) := by
  intro m
  induction m with
  | zero =>
    intro k I fuel h1 h2 hC hw ha
    obtain ⟨f, rfl⟩ : ∃ f, fuel = f + 1 := ⟨fuel - 1, by omega⟩
    obtain rfl : k = 12 := by omega
    refine ⟨I, ?_, fun _ _ => rfl, ha⟩
    rw [h_fix]
    show X10_passTime_B42 48 54 _ (nI 12) (hp I L ρ) = _
    unfold X10_passTime_B42
    rw [h_if, if_pos (by decide)]
    rfl
  | succ m ih =>
    intro k I fuel h1 h2 hC hw ha
    obtain ⟨f, rfl⟩ : ∃ f, fuel = f + 1 := ⟨fuel - 1, by omega⟩
    have hk12 : k < 12 := by omega
    have hwk := (hB.2.1 k hk12).1
    rw [h_fix]
    generalize hg : z_fix (fun r x => X10_passTime_B42 48 54 r x) f = rec
    show ∃ I', X10_passTime_B42 48 54 rec (nI k) (hp I L ρ) = _ ∧ _
    have hkk : p_waK C s k k = s_wai s k := by unfold p_waK; rw [if_neg (by omega)]
    have hsame : ∀ j, j ≠ k → p_waK C s (k + 1) j = p_waK C s k j := fun j hj => by
      unfold p_waK
      have : (j < k + 1 ∧ (k_th C j ∧ s_wed s j = none)) ↔ (j < k ∧ (k_th C j ∧ s_wed s j = none)) := by constructor <;> (intro h; exact ⟨by omega, h.2⟩)
      simp only [this]
    unfold X10_passTime_B42 X10_passTime_J88
    rw [h_if, if_neg (show ¬ (12 : Int32) ≤ nI k from nI_ge (b := 12) (by omega) (by omega)), gr_48_0, hρ, rc_13, h_ci (X1_isThere_13 hC hk hk12), h_if]
    simp only [bI_0, decide_eq_false_iff_not]
    by_cases c1 : k_th C k
    · rw [if_neg (fun f => f c1), gr_54_3, la_56 hk12, hw k hk12, h_if]
      simp only [oI_m1 (fun c e => Nat.lt_trans (hW _ c e) (by decide))]
      by_cases c2 : s_wed s k = none
      · rw [if_pos c2, gr_54_4, gr_54_4, la_57 hk12, ha k hk12, hkk, nI_1, sa_57 hk12, nI_1, ← hg]
        have e : (if (99 : Int32) < nI (s_wai s k + 1) then 99 else nI (s_wai s k + 1)) = nI (if 99 < s_wai s k + 1 then 99 else s_wai s k + 1) := by
          rw [show (99 : Int32) = nI 99 from rfl]
          simp only [nI_lt' (show 99 < 2147483648 by omega) (show s_wai s k + 1 < 2147483648 by omega)]
          split <;> rfl
        rw [e]
        obtain ⟨I', q1, q2, q3⟩ := ih (k + 1) (u2 I 57 k (nI (if 99 < s_wai s k + 1 then 99 else s_wai s k + 1))) f (by omega) (by omega) (chX_fr (fun a h1 h2 => u2r (by omega)) hC) (fun j hj => by rw [u2r (by omega)]; exact hw j hj) (fun j hj => by
          rw [u2_ap]
          by_cases q : j = k
          · rw [if_pos ⟨rfl, q⟩, q]
            unfold p_waK
            rw [if_pos (show k < k + 1 ∧ (k_th C k ∧ s_wed s k = none) from ⟨by omega, c1, c2⟩)]
          · rw [if_neg (fun c => q c.2), hsame j q, ha j hj])
        exact ⟨I', q1, fun a h => by rw [q2 a h, u2r h], q3⟩
      · rw [if_neg c2, nI_1, ← hg]
        exact ih (k + 1) I f (by omega) (by omega) hC hw (fun j hj => by
          by_cases q : j = k
          · rw [ha j hj, q]
            unfold p_waK
            rw [if_neg (by omega), if_neg (fun c => c2 c.2.2)]
          · rw [hsame j q, ha j hj])
    · rw [if_pos c1, nI_1, ← hg]
      exact ih (k + 1) I f (by omega) (by omega) hC hw (fun j hj => by
        by_cases q : j = k
        · rw [ha j hj, q]
          unfold p_waK
          rw [if_neg (by omega), if_neg (fun c => c1 c.2.1)]
        · rw [hsame j q, ha j hj])
theorem X10_time_13_54 (hk : okC C) (hB : bnS s) (hW : ∀ a c, s_wed s a = some c → c < 12) (hρ : ρ.2.2.1 = 13) (hC : chX 13 I C) (hX : stX 54 I s) : ∃ I', X10_passTime 48 54 (hp I L ρ) = some (none, hp I' L ρ) ∧ (∀ a, a ≠ 54 → a ≠ 57 → I' a = I a) ∧ stX 54 I' (p_time C s) := by
  have hrt : I 13 9 = nI (k_rt C) := hC.2.1.1
  have hk2 := hk.2.1
  have hb1 := hB.1
  obtain ⟨⟨x1, x2⟩, x3, x4, x5, x6, x7, x8⟩ := hX
  unfold X10_passTime
  rw [gi_54, x2, pi_54, gi_54, gr_48_0, hρ, gi_13, u2r (show (13 : Nat) ≠ 54 by decide), hrt, u2_ap, if_pos ⟨rfl, rfl⟩, nI_1, h_if]
  simp only [nI_le' (show k_rt C < 2147483648 by omega) (show s_rd s + 1 < 2147483648 by omega)]
  unfold p_time
  by_cases c : k_rt C ≤ s_rd s + 1
  · rw [if_pos c, if_neg (by omega), pi_54, gi_54, pi_54]
    generalize hI1 : u2 (u2 (u2 I 54 1 (nI (s_rd s + 1))) 54 1 0) 54 0 (u2 (u2 I 54 1 (nI (s_rd s + 1))) 54 1 0 54 0 + 1) = I1
    have f1 : ∀ a, a ≠ 54 → I1 a = I a := fun a ha => by rw [← hI1, u2r ha, u2r ha, u2r ha]
    have g0 : I1 54 0 = nI (s_sp s + 1) := by rw [← hI1, u2_ap, if_pos ⟨rfl, rfl⟩, u2_ap, if_neg (by omega), u2_ap, if_neg (by omega), x1, nI_1]
    have g1 : I1 54 1 = nI 0 := by rw [← hI1, u2_ap, if_neg (by omega), u2_ap, if_pos ⟨rfl, rfl⟩]; rfl
    obtain ⟨I', e1, e2, e3⟩ := X10_time_lp_13_54 (L := L) (ρ := ρ) hk hB hW hρ 12 0 I1 zFU (by omega) (by unfold zFU; omega) (chX_fr (fun a h1 h2 => f1 a (by omega)) hC) (fun j hj => by rw [f1 _ (by omega)]; exact x4 j hj) (fun j hj => by
      rw [f1 _ (by omega)]
      unfold p_waK
      rw [if_neg (by omega)]
      exact x5 j hj)
    refine ⟨I', e1, fun a h1 h2 => by rw [e2 a h2, f1 a h1], ⟨?_, ?_⟩, ?_, ?_, fun j hj => ?_, ?_, ?_, ?_⟩
    · rw [e2 _ (by omega), g0]; rfl
    · rw [e2 _ (by omega), g1]; rfl
    · intro j hj; rw [e2 _ (by omega), f1 _ (by omega)]; exact x3 j hj
    · intro j hj; rw [e2 _ (by omega), f1 _ (by omega)]; exact x4 j hj
    · rw [e3 j hj]
      show _ = nI (if k_th C j ∧ s_wed s j = none then (if 99 < s_wai s j + 1 then 99 else s_wai s j + 1) else s_wai s j)
      unfold p_waK
      have : (j < 12 ∧ (k_th C j ∧ s_wed s j = none)) ↔ (k_th C j ∧ s_wed s j = none) := ⟨fun h => h.2, fun h => ⟨hj, h⟩⟩
      simp only [this]
    · intro j hj; rw [e2 _ (by omega), f1 _ (by omega)]; exact x6 j hj
    · intro j hj; rw [e2 _ (by omega), f1 _ (by omega)]; exact x7 j hj
    · intro j hj; rw [e2 _ (by omega), f1 _ (by omega)]; exact x8 j hj
  · rw [if_neg c, if_pos (by omega)]
    refine ⟨_, rfl, fun a h1 h2 => u2r h1, ⟨?_, ?_⟩, ?_, ?_, ?_, ?_, ?_, ?_⟩
    · rw [u2_ap, if_neg (by omega)]; exact x1
    · rw [u2_ap, if_pos ⟨rfl, rfl⟩]; rfl
    · intro j hj; rw [u2r (by omega)]; exact x3 j hj
    · intro j hj; rw [u2r (by omega)]; exact x4 j hj
    · intro j hj; rw [u2r (by omega)]; exact x5 j hj
    · intro j hj; rw [u2r (by omega)]; exact x6 j hj
    · intro j hj; rw [u2r (by omega)]; exact x7 j hj
    · intro j hj; rw [u2r (by omega)]; exact x8 j hj
theorem X10_time_lp_27_41 (hk : okC C) (hB : bnS s) (hW : ∀ a c, s_wed s a = some c → c < 12) (hρ : ρ.2.2.1 = 27) : ∀ (m k : Nat) (I : Nat → Nat → Int32) (fuel : Nat), k + m = 12 → m < fuel → chX 27 I C → (∀ j, j < 12 → I 43 j = oI (s_wed s j)) → (∀ j, j < 12 → I 44 j = nI (p_waK C s k j)) →
    ∃ I', z_fix (fun r x => X10_passTime_B42 48 41 r x) fuel (nI k) (hp I L ρ) = some (none, hp I' L ρ) ∧ (∀ a, a ≠ 44 → I' a = I a) ∧ ∀ j, j < 12 → I' 44 j = nI (p_waK C s 12 j) := by
  intro m
  induction m with
  | zero =>
    intro k I fuel h1 h2 hC hw ha
    obtain ⟨f, rfl⟩ : ∃ f, fuel = f + 1 := ⟨fuel - 1, by omega⟩
    obtain rfl : k = 12 := by omega
    refine ⟨I, ?_, fun _ _ => rfl, ha⟩
    rw [h_fix]
    show X10_passTime_B42 48 41 _ (nI 12) (hp I L ρ) = _
    unfold X10_passTime_B42
    rw [h_if, if_pos (by decide)]
    rfl
  | succ m ih =>
    intro k I fuel h1 h2 hC hw ha
    obtain ⟨f, rfl⟩ : ∃ f, fuel = f + 1 := ⟨fuel - 1, by omega⟩
    have hk12 : k < 12 := by omega
    have hwk := (hB.2.1 k hk12).1
    rw [h_fix]
    generalize hg : z_fix (fun r x => X10_passTime_B42 48 41 r x) f = rec
    show ∃ I', X10_passTime_B42 48 41 rec (nI k) (hp I L ρ) = _ ∧ _
    have hkk : p_waK C s k k = s_wai s k := by unfold p_waK; rw [if_neg (by omega)]
    have hsame : ∀ j, j ≠ k → p_waK C s (k + 1) j = p_waK C s k j := fun j hj => by
      unfold p_waK
      have : (j < k + 1 ∧ (k_th C j ∧ s_wed s j = none)) ↔ (j < k ∧ (k_th C j ∧ s_wed s j = none)) := by constructor <;> (intro h; exact ⟨by omega, h.2⟩)
      simp only [this]
    unfold X10_passTime_B42 X10_passTime_J88
    rw [h_if, if_neg (show ¬ (12 : Int32) ≤ nI k from nI_ge (b := 12) (by omega) (by omega)), gr_48_0, hρ, rc_27, h_ci (X1_isThere_27 hC hk hk12), h_if]
    simp only [bI_0, decide_eq_false_iff_not]
    by_cases c1 : k_th C k
    · rw [if_neg (fun f => f c1), gr_41_3, la_43 hk12, hw k hk12, h_if]
      simp only [oI_m1 (fun c e => Nat.lt_trans (hW _ c e) (by decide))]
      by_cases c2 : s_wed s k = none
      · rw [if_pos c2, gr_41_4, gr_41_4, la_44 hk12, ha k hk12, hkk, nI_1, sa_44 hk12, nI_1, ← hg]
        have e : (if (99 : Int32) < nI (s_wai s k + 1) then 99 else nI (s_wai s k + 1)) = nI (if 99 < s_wai s k + 1 then 99 else s_wai s k + 1) := by
          rw [show (99 : Int32) = nI 99 from rfl]
          simp only [nI_lt' (show 99 < 2147483648 by omega) (show s_wai s k + 1 < 2147483648 by omega)]
          split <;> rfl
        rw [e]
        obtain ⟨I', q1, q2, q3⟩ := ih (k + 1) (u2 I 44 k (nI (if 99 < s_wai s k + 1 then 99 else s_wai s k + 1))) f (by omega) (by omega) (chX_fr (fun a h1 h2 => u2r (by omega)) hC) (fun j hj => by rw [u2r (by omega)]; exact hw j hj) (fun j hj => by
          rw [u2_ap]
          by_cases q : j = k
          · rw [if_pos ⟨rfl, q⟩, q]
            unfold p_waK
            rw [if_pos (show k < k + 1 ∧ (k_th C k ∧ s_wed s k = none) from ⟨by omega, c1, c2⟩)]
          · rw [if_neg (fun c => q c.2), hsame j q, ha j hj])
        exact ⟨I', q1, fun a h => by rw [q2 a h, u2r h], q3⟩
      · rw [if_neg c2, nI_1, ← hg]
        exact ih (k + 1) I f (by omega) (by omega) hC hw (fun j hj => by
          by_cases q : j = k
          · rw [ha j hj, q]
            unfold p_waK
            rw [if_neg (by omega), if_neg (fun c => c2 c.2.2)]
          · rw [hsame j q, ha j hj])
    · rw [if_pos c1, nI_1, ← hg]
      exact ih (k + 1) I f (by omega) (by omega) hC hw (fun j hj => by
        by_cases q : j = k
        · rw [ha j hj, q]
          unfold p_waK
          rw [if_neg (by omega), if_neg (fun c => c1 c.2.1)]
        · rw [hsame j q, ha j hj])
theorem X10_time_27_41 (hk : okC C) (hB : bnS s) (hW : ∀ a c, s_wed s a = some c → c < 12) (hρ : ρ.2.2.1 = 27) (hC : chX 27 I C) (hX : stX 41 I s) : ∃ I', X10_passTime 48 41 (hp I L ρ) = some (none, hp I' L ρ) ∧ (∀ a, a ≠ 41 → a ≠ 44 → I' a = I a) ∧ stX 41 I' (p_time C s) := by
  have hrt : I 27 9 = nI (k_rt C) := hC.2.1.1
  have hk2 := hk.2.1
  have hb1 := hB.1
  obtain ⟨⟨x1, x2⟩, x3, x4, x5, x6, x7, x8⟩ := hX
  unfold X10_passTime
  rw [gi_41, x2, pi_41, gi_41, gr_48_0, hρ, gi_27, u2r (show (27 : Nat) ≠ 41 by decide), hrt, u2_ap, if_pos ⟨rfl, rfl⟩, nI_1, h_if]
  simp only [nI_le' (show k_rt C < 2147483648 by omega) (show s_rd s + 1 < 2147483648 by omega)]
  unfold p_time
  by_cases c : k_rt C ≤ s_rd s + 1
  · rw [if_pos c, if_neg (by omega), pi_41, gi_41, pi_41]
    generalize hI1 : u2 (u2 (u2 I 41 1 (nI (s_rd s + 1))) 41 1 0) 41 0 (u2 (u2 I 41 1 (nI (s_rd s + 1))) 41 1 0 41 0 + 1) = I1
    have f1 : ∀ a, a ≠ 41 → I1 a = I a := fun a ha => by rw [← hI1, u2r ha, u2r ha, u2r ha]
    have g0 : I1 41 0 = nI (s_sp s + 1) := by rw [← hI1, u2_ap, if_pos ⟨rfl, rfl⟩, u2_ap, if_neg (by omega), u2_ap, if_neg (by omega), x1, nI_1]
    have g1 : I1 41 1 = nI 0 := by rw [← hI1, u2_ap, if_neg (by omega), u2_ap, if_pos ⟨rfl, rfl⟩]; rfl
    obtain ⟨I', e1, e2, e3⟩ := X10_time_lp_27_41 (L := L) (ρ := ρ) hk hB hW hρ 12 0 I1 zFU (by omega) (by unfold zFU; omega) (chX_fr (fun a h1 h2 => f1 a (by omega)) hC) (fun j hj => by rw [f1 _ (by omega)]; exact x4 j hj) (fun j hj => by
      rw [f1 _ (by omega)]
      unfold p_waK
      rw [if_neg (by omega)]
      exact x5 j hj)
    refine ⟨I', e1, fun a h1 h2 => by rw [e2 a h2, f1 a h1], ⟨?_, ?_⟩, ?_, ?_, fun j hj => ?_, ?_, ?_, ?_⟩
    · rw [e2 _ (by omega), g0]; rfl
    · rw [e2 _ (by omega), g1]; rfl
    · intro j hj; rw [e2 _ (by omega), f1 _ (by omega)]; exact x3 j hj
    · intro j hj; rw [e2 _ (by omega), f1 _ (by omega)]; exact x4 j hj
    · rw [e3 j hj]
      show _ = nI (if k_th C j ∧ s_wed s j = none then (if 99 < s_wai s j + 1 then 99 else s_wai s j + 1) else s_wai s j)
      unfold p_waK
      have : (j < 12 ∧ (k_th C j ∧ s_wed s j = none)) ↔ (k_th C j ∧ s_wed s j = none) := ⟨fun h => h.2, fun h => ⟨hj, h⟩⟩
      simp only [this]
    · intro j hj; rw [e2 _ (by omega), f1 _ (by omega)]; exact x6 j hj
    · intro j hj; rw [e2 _ (by omega), f1 _ (by omega)]; exact x7 j hj
    · intro j hj; rw [e2 _ (by omega), f1 _ (by omega)]; exact x8 j hj
  · rw [if_neg c, if_pos (by omega)]
    refine ⟨_, rfl, fun a h1 h2 => u2r h1, ⟨?_, ?_⟩, ?_, ?_, ?_, ?_, ?_, ?_⟩
    · rw [u2_ap, if_neg (by omega)]; exact x1
    · rw [u2_ap, if_pos ⟨rfl, rfl⟩]; rfl
    · intro j hj; rw [u2r (by omega)]; exact x3 j hj
    · intro j hj; rw [u2r (by omega)]; exact x4 j hj
    · intro j hj; rw [u2r (by omega)]; exact x5 j hj
    · intro j hj; rw [u2r (by omega)]; exact x6 j hj
    · intro j hj; rw [u2r (by omega)]; exact x7 j hj
    · intro j hj; rw [u2r (by omega)]; exact x8 j hj
theorem X10_time_lp_27_54 (hk : okC C) (hB : bnS s) (hW : ∀ a c, s_wed s a = some c → c < 12) (hρ : ρ.2.2.1 = 27) : ∀ (m k : Nat) (I : Nat → Nat → Int32) (fuel : Nat), k + m = 12 → m < fuel → chX 27 I C → (∀ j, j < 12 → I 56 j = oI (s_wed s j)) → (∀ j, j < 12 → I 57 j = nI (p_waK C s k j)) →
    ∃ I', z_fix (fun r x => X10_passTime_B42 48 54 r x) fuel (nI k) (hp I L ρ) = some (none, hp I' L ρ) ∧ (∀ a, a ≠ 57 → I' a = I a) ∧ ∀ j, j < 12 → I' 57 j = nI (p_waK C s 12 j) := by
  intro m
  induction m with
  | zero =>
    intro k I fuel h1 h2 hC hw ha
    obtain ⟨f, rfl⟩ : ∃ f, fuel = f + 1 := ⟨fuel - 1, by omega⟩
    obtain rfl : k = 12 := by omega
    refine ⟨I, ?_, fun _ _ => rfl, ha⟩
    rw [h_fix]
    show X10_passTime_B42 48 54 _ (nI 12) (hp I L ρ) = _
    unfold X10_passTime_B42
    rw [h_if, if_pos (by decide)]
    rfl
  | succ m ih =>
    intro k I fuel h1 h2 hC hw ha
    obtain ⟨f, rfl⟩ : ∃ f, fuel = f + 1 := ⟨fuel - 1, by omega⟩
    have hk12 : k < 12 := by omega
    have hwk := (hB.2.1 k hk12).1
    rw [h_fix]
    generalize hg : z_fix (fun r x => X10_passTime_B42 48 54 r x) f = rec
    show ∃ I', X10_passTime_B42 48 54 rec (nI k) (hp I L ρ) = _ ∧ _
    have hkk : p_waK C s k k = s_wai s k := by unfold p_waK; rw [if_neg (by omega)]
    have hsame : ∀ j, j ≠ k → p_waK C s (k + 1) j = p_waK C s k j := fun j hj => by
      unfold p_waK
      have : (j < k + 1 ∧ (k_th C j ∧ s_wed s j = none)) ↔ (j < k ∧ (k_th C j ∧ s_wed s j = none)) := by constructor <;> (intro h; exact ⟨by omega, h.2⟩)
      simp only [this]
    unfold X10_passTime_B42 X10_passTime_J88
    rw [h_if, if_neg (show ¬ (12 : Int32) ≤ nI k from nI_ge (b := 12) (by omega) (by omega)), gr_48_0, hρ, rc_27, h_ci (X1_isThere_27 hC hk hk12), h_if]
    simp only [bI_0, decide_eq_false_iff_not]
    by_cases c1 : k_th C k
    · rw [if_neg (fun f => f c1), gr_54_3, la_56 hk12, hw k hk12, h_if]
      simp only [oI_m1 (fun c e => Nat.lt_trans (hW _ c e) (by decide))]
      by_cases c2 : s_wed s k = none
      · rw [if_pos c2, gr_54_4, gr_54_4, la_57 hk12, ha k hk12, hkk, nI_1, sa_57 hk12, nI_1, ← hg]
        have e : (if (99 : Int32) < nI (s_wai s k + 1) then 99 else nI (s_wai s k + 1)) = nI (if 99 < s_wai s k + 1 then 99 else s_wai s k + 1) := by
          rw [show (99 : Int32) = nI 99 from rfl]
          simp only [nI_lt' (show 99 < 2147483648 by omega) (show s_wai s k + 1 < 2147483648 by omega)]
          split <;> rfl
        rw [e]
        obtain ⟨I', q1, q2, q3⟩ := ih (k + 1) (u2 I 57 k (nI (if 99 < s_wai s k + 1 then 99 else s_wai s k + 1))) f (by omega) (by omega) (chX_fr (fun a h1 h2 => u2r (by omega)) hC) (fun j hj => by rw [u2r (by omega)]; exact hw j hj) (fun j hj => by
          rw [u2_ap]
          by_cases q : j = k
          · rw [if_pos ⟨rfl, q⟩, q]
            unfold p_waK
            rw [if_pos (show k < k + 1 ∧ (k_th C k ∧ s_wed s k = none) from ⟨by omega, c1, c2⟩)]
          · rw [if_neg (fun c => q c.2), hsame j q, ha j hj])
        exact ⟨I', q1, fun a h => by rw [q2 a h, u2r h], q3⟩
      · rw [if_neg c2, nI_1, ← hg]
        exact ih (k + 1) I f (by omega) (by omega) hC hw (fun j hj => by
          by_cases q : j = k
          · rw [ha j hj, q]
            unfold p_waK
            rw [if_neg (by omega), if_neg (fun c => c2 c.2.2)]
          · rw [hsame j q, ha j hj])
    · rw [if_pos c1, nI_1, ← hg]
      exact ih (k + 1) I f (by omega) (by omega) hC hw (fun j hj => by
        by_cases q : j = k
        · rw [ha j hj, q]
          unfold p_waK
          rw [if_neg (by omega), if_neg (fun c => c1 c.2.1)]
        · rw [hsame j q, ha j hj])
theorem X10_time_27_54 (hk : okC C) (hB : bnS s) (hW : ∀ a c, s_wed s a = some c → c < 12) (hρ : ρ.2.2.1 = 27) (hC : chX 27 I C) (hX : stX 54 I s) : ∃ I', X10_passTime 48 54 (hp I L ρ) = some (none, hp I' L ρ) ∧ (∀ a, a ≠ 54 → a ≠ 57 → I' a = I a) ∧ stX 54 I' (p_time C s) := by
  have hrt : I 27 9 = nI (k_rt C) := hC.2.1.1
  have hk2 := hk.2.1
  have hb1 := hB.1
  obtain ⟨⟨x1, x2⟩, x3, x4, x5, x6, x7, x8⟩ := hX
  unfold X10_passTime
  rw [gi_54, x2, pi_54, gi_54, gr_48_0, hρ, gi_27, u2r (show (27 : Nat) ≠ 54 by decide), hrt, u2_ap, if_pos ⟨rfl, rfl⟩, nI_1, h_if]
  simp only [nI_le' (show k_rt C < 2147483648 by omega) (show s_rd s + 1 < 2147483648 by omega)]
  unfold p_time
  by_cases c : k_rt C ≤ s_rd s + 1
  · rw [if_pos c, if_neg (by omega), pi_54, gi_54, pi_54]
    generalize hI1 : u2 (u2 (u2 I 54 1 (nI (s_rd s + 1))) 54 1 0) 54 0 (u2 (u2 I 54 1 (nI (s_rd s + 1))) 54 1 0 54 0 + 1) = I1
    have f1 : ∀ a, a ≠ 54 → I1 a = I a := fun a ha => by rw [← hI1, u2r ha, u2r ha, u2r ha]
    have g0 : I1 54 0 = nI (s_sp s + 1) := by rw [← hI1, u2_ap, if_pos ⟨rfl, rfl⟩, u2_ap, if_neg (by omega), u2_ap, if_neg (by omega), x1, nI_1]
    have g1 : I1 54 1 = nI 0 := by rw [← hI1, u2_ap, if_neg (by omega), u2_ap, if_pos ⟨rfl, rfl⟩]; rfl
    obtain ⟨I', e1, e2, e3⟩ := X10_time_lp_27_54 (L := L) (ρ := ρ) hk hB hW hρ 12 0 I1 zFU (by omega) (by unfold zFU; omega) (chX_fr (fun a h1 h2 => f1 a (by omega)) hC) (fun j hj => by rw [f1 _ (by omega)]; exact x4 j hj) (fun j hj => by
      rw [f1 _ (by omega)]
      unfold p_waK
      rw [if_neg (by omega)]
      exact x5 j hj)
    refine ⟨I', e1, fun a h1 h2 => by rw [e2 a h2, f1 a h1], ⟨?_, ?_⟩, ?_, ?_, fun j hj => ?_, ?_, ?_, ?_⟩
    · rw [e2 _ (by omega), g0]; rfl
    · rw [e2 _ (by omega), g1]; rfl
    · intro j hj; rw [e2 _ (by omega), f1 _ (by omega)]; exact x3 j hj
    · intro j hj; rw [e2 _ (by omega), f1 _ (by omega)]; exact x4 j hj
    · rw [e3 j hj]
      show _ = nI (if k_th C j ∧ s_wed s j = none then (if 99 < s_wai s j + 1 then 99 else s_wai s j + 1) else s_wai s j)
      unfold p_waK
      have : (j < 12 ∧ (k_th C j ∧ s_wed s j = none)) ↔ (k_th C j ∧ s_wed s j = none) := ⟨fun h => h.2, fun h => ⟨hj, h⟩⟩
      simp only [this]
    · intro j hj; rw [e2 _ (by omega), f1 _ (by omega)]; exact x6 j hj
    · intro j hj; rw [e2 _ (by omega), f1 _ (by omega)]; exact x7 j hj
    · intro j hj; rw [e2 _ (by omega), f1 _ (by omega)]; exact x8 j hj
  · rw [if_neg c, if_pos (by omega)]
    refine ⟨_, rfl, fun a h1 h2 => u2r h1, ⟨?_, ?_⟩, ?_, ?_, ?_, ?_, ?_, ?_⟩
    · rw [u2_ap, if_neg (by omega)]; exact x1
    · rw [u2_ap, if_pos ⟨rfl, rfl⟩]; rfl
    · intro j hj; rw [u2r (by omega)]; exact x3 j hj
    · intro j hj; rw [u2r (by omega)]; exact x4 j hj
    · intro j hj; rw [u2r (by omega)]; exact x5 j hj
    · intro j hj; rw [u2r (by omega)]; exact x6 j hj
    · intro j hj; rw [u2r (by omega)]; exact x7 j hj
    · intro j hj; rw [u2r (by omega)]; exact x8 j hj
end B21
