/-! the law's turns on the small machine: both answer alike, and hold the same again -/
section Bb8
variable {A : aT} {N : Nat} {I : Nat → Nat → Int32} {L : Nat → Nat → Int64} {ρ : zRh}
/-- both answer alike with an int, and hold the same again -/
def lwI (g f : zM) (A : aT) (N : Nat) : Prop := ∀ I L ρ, RelX I L ρ A N → ∃ (x : Int32) (A' : aT) (N' : Nat), runX g I L ρ (.int x) A' N' ∧ (∀ I L ρ, RelM I L A → runM f I L ρ (.int x) A') ∧ okA A' ∧ N' ≤ N + 600
theorem b_I {g f : zM} (hi : zInt g) (h : both2 g f A N) : lwI g f A N := by
  intro I L ρ hX
  obtain ⟨r, A', N', ⟨I', L', ρ', e, h5, h6⟩, h2, h3, h4⟩ := h I L ρ hX
  obtain ⟨x, hx⟩ := zI_use hi e
  have hx : r = .int x := Option.some.inj hx
  subst hx
  exact ⟨x, A', N', ⟨I', L', ρ', e, h5, h6⟩, h2, h3, h4⟩
/-- a turn's end: both hold the same again -/
def lwN (I : Nat → Nat → Int32) (L : Nat → Nat → Int64) (ρ : zRh) (N : Nat) : Prop := ∃ (A' : aT) (N' : Nat), RelX I L ρ A' N' ∧ RelM I L A' ∧ okA A' ∧ N' ≤ N + 600
theorem lw_ci {g f : zM} (hb : lwI g f A N) (hX : RelX I L ρ A N) (hM : RelM I L A) : ∃ (y : Int32) (I1 : Nat → Nat → Int32) (L1 : Nat → Nat → Int64) (ρ1 : zRh) (I2 : Nat → Nat → Int32) (L2 : Nat → Nat → Int64), (∀ F : Int32 → zM, z_rc 11 0 (z_ci g F) (hp I L ρ) = F y (hp I1 L1 ρ1)) ∧ (∀ F : Int32 → zM, z_rc 12 215 (z_ci f F) (hp I1 L1 ρ1) = F y (hp I2 L2 ρ1)) ∧ lwN I2 L2 ρ1 N := by
  obtain ⟨x, A', N', ⟨I1, L1, ρ1, e1, x1, f1⟩, h2, h3, h4⟩ := hb I L ρ hX
  have hM1 : RelM I1 L1 A := RelM_fr (fun a ha => (f1 a (by unfold lastM at ha; omega)).1) (fun k _ => by rw [(f1 215 (by omega)).1]) (fun a ha => (f1 a (by omega)).2) hM
  obtain ⟨I2, L2, e2, m2, f2⟩ := h2 I1 L1 ρ1 hM1
  refine ⟨x, I1, L1, ρ1, I2, L2, fun F => by rw [rc_0, h_ci e1], fun F => by rw [rc_215, h_ci e2], A', N', ?_, m2, h3, h4⟩
  exact RelX_fr (fun a ha => (f2 a (by unfold lastX at ha; omega)).1) (f2 0 (by omega)).2 (Nat.le_refl _) x1
theorem lw_cl {g f : zM} {y : Int64} {A' : aT} (h1 : ∀ I L ρ, RelX I L ρ A N → runX g I L ρ (.long y) A' N) (h2 : ∀ I L ρ, RelM I L A → runM f I L ρ (.long y) A') (h3 : okA A') (hX : RelX I L ρ A N) (hM : RelM I L A) : ∃ (y : Int64) (I1 : Nat → Nat → Int32) (L1 : Nat → Nat → Int64) (ρ1 : zRh) (I2 : Nat → Nat → Int32) (L2 : Nat → Nat → Int64), (∀ F : Int64 → zM, z_rc 11 0 (z_cl g F) (hp I L ρ) = F y (hp I1 L1 ρ1)) ∧ (∀ F : Int64 → zM, z_rc 12 215 (z_cl f F) (hp I1 L1 ρ1) = F y (hp I2 L2 ρ1)) ∧ lwN I2 L2 ρ1 N := by
  obtain ⟨I1, L1, ρ1, e1, x1, f1⟩ := h1 I L ρ hX
  have hM1 : RelM I1 L1 A := RelM_fr (fun a ha => (f1 a (by unfold lastM at ha; omega)).1) (fun k _ => by rw [(f1 215 (by omega)).1]) (fun a ha => (f1 a (by omega)).2) hM
  obtain ⟨I2, L2, e2, m2, f2⟩ := h2 I1 L1 ρ1 hM1
  refine ⟨y, I1, L1, ρ1, I2, L2, fun F => by rw [rc_0, h_cl e1], fun F => by rw [rc_215, h_cl e2], A', N, ?_, m2, h3, by omega⟩
  exact RelX_fr (fun a ha => (f2 a (by unfold lastX at ha; omega)).1) (f2 0 (by omega)).2 (Nat.le_refl _) x1
theorem aqV_long (A : aT) (R : Sum (Nat × Nat) (Nat × List Nat)) : ∃ y : Int64, aqV A R = .long y := by
  unfold aqV
  split
  · exact ⟨_, rfl⟩
  · exact ⟨_, rfl⟩
theorem h_ld {n0 : Nat} {xs : Nat → Int32} {i : Int32} {F : Int32 → zM} (hi : 0 ≤ i.toInt ∧ i.toInt < n0) (h : zH) : z_ld n0 xs i F h = F (xs i.toNatClampNeg) h := if_pos hi
variable {n0 : Nat} {xs : Nat → Int32} {r : Int32 → zM} {i : Int32}

theorem lw_k0 (hok : okA A) (hN : N < 999998000) (hX : RelX I L ρ A N) (hM : RelM I L A) (hl : ∀ j : Int32, 1 ≤ j.toInt → j.toInt ≤ 5 → 0 ≤ (i + j).toInt ∧ (i + j).toInt < n0) : ∃ (I2 : Nat → Nat → Int32) (L2 : Nat → Nat → Int64) (ρ1 : zRh), lw_c0 n0 xs r 0 215 i (hp I L ρ) = r (i + 6) (hp I2 L2 ρ1) ∧ lwN I2 L2 ρ1 N := by
  obtain ⟨y, I1, L1, ρ1, I2, L2, e1, e2, e3⟩ := lw_ci (b_I (zi_X11_feed 0 (xs (i + 1).toNatClampNeg) (xs (i + 2).toNatClampNeg) (xs (i + 3).toNatClampNeg) (xs (i + 4).toNatClampNeg) (xs (i + 5).toNatClampNeg)) (both_2 (feed_b hok (xs (i + 1).toNatClampNeg) (xs (i + 2).toNatClampNeg) (xs (i + 3).toNatClampNeg) (xs (i + 4).toNatClampNeg) (xs (i + 5).toNatClampNeg)))) hX hM
  refine ⟨I2, L2, ρ1, ?_, e3⟩
  unfold lw_c0
  rw [h_ld (hl 1 (by decide) (by decide)), h_ld (hl 2 (by decide) (by decide)), h_ld (hl 3 (by decide) (by decide)), h_ld (hl 4 (by decide) (by decide)), h_ld (hl 5 (by decide) (by decide)), e1, h_ld (hl 1 (by decide) (by decide)), h_ld (hl 2 (by decide) (by decide)), h_ld (hl 3 (by decide) (by decide)), h_ld (hl 4 (by decide) (by decide)), h_ld (hl 5 (by decide) (by decide)), e2, h_if, if_pos rfl]

theorem lw_k1 (hok : okA A) (hN : N < 999998000) (hX : RelX I L ρ A N) (hM : RelM I L A) (hl : ∀ j : Int32, 1 ≤ j.toInt → j.toInt ≤ 5 → 0 ≤ (i + j).toInt ∧ (i + j).toInt < n0) : ∃ (I2 : Nat → Nat → Int32) (L2 : Nat → Nat → Int64) (ρ1 : zRh), lw_c1 n0 xs r 0 215 i (hp I L ρ) = r (i + 6) (hp I2 L2 ρ1) ∧ lwN I2 L2 ρ1 N := by
  obtain ⟨y, I1, L1, ρ1, I2, L2, e1, e2, e3⟩ := lw_ci (b_I (zi_X11_end 0 (xs (i + 1).toNatClampNeg)) (both_2 (end_b hok (xs (i + 1).toNatClampNeg)))) hX hM
  refine ⟨I2, L2, ρ1, ?_, e3⟩
  unfold lw_c1
  rw [h_ld (hl 1 (by decide) (by decide)), e1, h_ld (hl 1 (by decide) (by decide)), e2, h_if, if_pos rfl]

theorem lw_k2 (hok : okA A) (hN : N < 999998000) (hX : RelX I L ρ A N) (hM : RelM I L A) (hl : ∀ j : Int32, 1 ≤ j.toInt → j.toInt ≤ 5 → 0 ≤ (i + j).toInt ∧ (i + j).toInt < n0) : ∃ (I2 : Nat → Nat → Int32) (L2 : Nat → Nat → Int64) (ρ1 : zRh), lw_c2 n0 xs r 0 215 i (hp I L ρ) = r (i + 6) (hp I2 L2 ρ1) ∧ lwN I2 L2 ρ1 N := by
  obtain ⟨y, I1, L1, ρ1, I2, L2, e1, e2, e3⟩ := lw_ci (b_I (zi_X11_church 0 ) (church_b hok )) hX hM
  refine ⟨I2, L2, ρ1, ?_, e3⟩
  unfold lw_c2
  rw [e1, e2, h_if, if_pos rfl]

theorem lw_k3 (hok : okA A) (hN : N < 999998000) (hX : RelX I L ρ A N) (hM : RelM I L A) (hl : ∀ j : Int32, 1 ≤ j.toInt → j.toInt ≤ 5 → 0 ≤ (i + j).toInt ∧ (i + j).toInt < n0) : ∃ (I2 : Nat → Nat → Int32) (L2 : Nat → Nat → Int64) (ρ1 : zRh), lw_c3 n0 xs r 0 215 i (hp I L ρ) = r (i + 6) (hp I2 L2 ρ1) ∧ lwN I2 L2 ρ1 N := by
  obtain ⟨y, I1, L1, ρ1, I2, L2, e1, e2, e3⟩ := lw_ci (b_I (zi_X11_fault 0 (xs (i + 1).toNatClampNeg)) (both_2 (fault_b hok (xs (i + 1).toNatClampNeg)))) hX hM
  refine ⟨I2, L2, ρ1, ?_, e3⟩
  unfold lw_c3
  rw [h_ld (hl 1 (by decide) (by decide)), e1, h_ld (hl 1 (by decide) (by decide)), e2, h_if, if_pos rfl]

theorem lw_k4 (hok : okA A) (hN : N < 999998000) (hX : RelX I L ρ A N) (hM : RelM I L A) (hl : ∀ j : Int32, 1 ≤ j.toInt → j.toInt ≤ 5 → 0 ≤ (i + j).toInt ∧ (i + j).toInt < n0) : ∃ (I2 : Nat → Nat → Int32) (L2 : Nat → Nat → Int64) (ρ1 : zRh), lw_c4 n0 xs r 0 215 i (hp I L ρ) = r (i + 6) (hp I2 L2 ρ1) ∧ lwN I2 L2 ρ1 N := by
  obtain ⟨y, I1, L1, ρ1, I2, L2, e1, e2, e3⟩ := lw_ci (b_I (zi_X11_has 0 (xs (i + 1).toNatClampNeg)) (both_2 (has_b hok (by omega) (xs (i + 1).toNatClampNeg)))) hX hM
  refine ⟨I2, L2, ρ1, ?_, e3⟩
  unfold lw_c4
  rw [h_ld (hl 1 (by decide) (by decide)), e1, h_ld (hl 1 (by decide) (by decide)), e2, h_if, if_pos rfl]

theorem lw_k5 (hok : okA A) (hN : N < 999998000) (hX : RelX I L ρ A N) (hM : RelM I L A) (hl : ∀ j : Int32, 1 ≤ j.toInt → j.toInt ≤ 5 → 0 ≤ (i + j).toInt ∧ (i + j).toInt < n0) : ∃ (I2 : Nat → Nat → Int32) (L2 : Nat → Nat → Int64) (ρ1 : zRh), lw_c5 n0 xs r 0 215 i (hp I L ρ) = r (i + 6) (hp I2 L2 ρ1) ∧ lwN I2 L2 ρ1 N := by
  obtain ⟨y, I1, L1, ρ1, I2, L2, e1, e2, e3⟩ := lw_ci (b_I (zi_X11_letter 0 (xs (i + 1).toNatClampNeg) (xs (i + 2).toNatClampNeg)) (both_2 (letter_b hok (xs (i + 1).toNatClampNeg) (xs (i + 2).toNatClampNeg)))) hX hM
  refine ⟨I2, L2, ρ1, ?_, e3⟩
  unfold lw_c5
  rw [h_ld (hl 1 (by decide) (by decide)), h_ld (hl 2 (by decide) (by decide)), e1, h_ld (hl 1 (by decide) (by decide)), h_ld (hl 2 (by decide) (by decide)), e2, h_if, if_pos rfl]

theorem lw_k6 (hok : okA A) (hN : N < 999998000) (hX : RelX I L ρ A N) (hM : RelM I L A) (hl : ∀ j : Int32, 1 ≤ j.toInt → j.toInt ≤ 5 → 0 ≤ (i + j).toInt ∧ (i + j).toInt < n0) : ∃ (I2 : Nat → Nat → Int32) (L2 : Nat → Nat → Int64) (ρ1 : zRh), lw_c6 n0 xs r 0 215 i (hp I L ρ) = r (i + 6) (hp I2 L2 ρ1) ∧ lwN I2 L2 ρ1 N := by
  obtain ⟨y, I1, L1, ρ1, I2, L2, e1, e2, e3⟩ := lw_ci (b_I (zi_X11_person 0 (xs (i + 1).toNatClampNeg) (xs (i + 2).toNatClampNeg)) (both_2 (person_b hok (xs (i + 1).toNatClampNeg) (xs (i + 2).toNatClampNeg)))) hX hM
  refine ⟨I2, L2, ρ1, ?_, e3⟩
  unfold lw_c6
  rw [h_ld (hl 1 (by decide) (by decide)), h_ld (hl 2 (by decide) (by decide)), e1, h_ld (hl 1 (by decide) (by decide)), h_ld (hl 2 (by decide) (by decide)), e2, h_if, if_pos rfl]

theorem lw_k7 (hok : okA A) (hN : N < 999998000) (hX : RelX I L ρ A N) (hM : RelM I L A) (hl : ∀ j : Int32, 1 ≤ j.toInt → j.toInt ≤ 5 → 0 ≤ (i + j).toInt ∧ (i + j).toInt < n0) : ∃ (I2 : Nat → Nat → Int32) (L2 : Nat → Nat → Int64) (ρ1 : zRh), lw_c7 n0 xs r 0 215 i (hp I L ρ) = r (i + 6) (hp I2 L2 ρ1) ∧ lwN I2 L2 ρ1 N := by
  obtain ⟨y, I1, L1, ρ1, I2, L2, e1, e2, e3⟩ := lw_ci (b_I (zi_X11_pair 0 (xs (i + 1).toNatClampNeg) (xs (i + 2).toNatClampNeg) (xs (i + 3).toNatClampNeg)) (both_2 (pair_b hok (xs (i + 1).toNatClampNeg) (xs (i + 2).toNatClampNeg) (xs (i + 3).toNatClampNeg)))) hX hM
  refine ⟨I2, L2, ρ1, ?_, e3⟩
  unfold lw_c7
  rw [h_ld (hl 1 (by decide) (by decide)), h_ld (hl 2 (by decide) (by decide)), h_ld (hl 3 (by decide) (by decide)), e1, h_ld (hl 1 (by decide) (by decide)), h_ld (hl 2 (by decide) (by decide)), h_ld (hl 3 (by decide) (by decide)), e2, h_if, if_pos rfl]

theorem lw_k8 (hok : okA A) (hN : N < 999998000) (hX : RelX I L ρ A N) (hM : RelM I L A) (hl : ∀ j : Int32, 1 ≤ j.toInt → j.toInt ≤ 5 → 0 ≤ (i + j).toInt ∧ (i + j).toInt < n0) : ∃ (I2 : Nat → Nat → Int32) (L2 : Nat → Nat → Int64) (ρ1 : zRh), lw_c8 n0 xs r 0 215 i (hp I L ρ) = r (i + 6) (hp I2 L2 ρ1) ∧ lwN I2 L2 ρ1 N := by
  obtain ⟨y, I1, L1, ρ1, I2, L2, e1, e2, e3⟩ := lw_ci (b_I (zi_X11_kept 0 (xs (i + 1).toNatClampNeg) (xs (i + 2).toNatClampNeg)) (both_2 (kept_b hok (by omega) (xs (i + 1).toNatClampNeg) (xs (i + 2).toNatClampNeg)))) hX hM
  refine ⟨I2, L2, ρ1, ?_, e3⟩
  unfold lw_c8
  rw [h_ld (hl 1 (by decide) (by decide)), h_ld (hl 2 (by decide) (by decide)), e1, h_ld (hl 1 (by decide) (by decide)), h_ld (hl 2 (by decide) (by decide)), e2, h_if, if_pos rfl]

theorem lw_k9 (hok : okA A) (hN : N < 999998000) (hX : RelX I L ρ A N) (hM : RelM I L A) (hl : ∀ j : Int32, 1 ≤ j.toInt → j.toInt ≤ 5 → 0 ≤ (i + j).toInt ∧ (i + j).toInt < n0) : ∃ (I2 : Nat → Nat → Int32) (L2 : Nat → Nat → Int64) (ρ1 : zRh), lw_c9 n0 xs r 0 215 i (hp I L ρ) = r (i + 6) (hp I2 L2 ρ1) ∧ lwN I2 L2 ρ1 N := by
  obtain ⟨y, I1, L1, ρ1, I2, L2, e1, e2, e3⟩ := lw_ci (b_I (zi_X11_later 0 (xs (i + 1).toNatClampNeg) (xs (i + 2).toNatClampNeg)) (both_2 (later_b hok (xs (i + 1).toNatClampNeg) (xs (i + 2).toNatClampNeg)))) hX hM
  refine ⟨I2, L2, ρ1, ?_, e3⟩
  unfold lw_c9
  rw [h_ld (hl 1 (by decide) (by decide)), h_ld (hl 2 (by decide) (by decide)), e1, h_ld (hl 1 (by decide) (by decide)), h_ld (hl 2 (by decide) (by decide)), e2, h_if, if_pos rfl]

theorem lw_k10 (hok : okA A) (hN : N < 999998000) (hX : RelX I L ρ A N) (hM : RelM I L A) (hl : ∀ j : Int32, 1 ≤ j.toInt → j.toInt ≤ 5 → 0 ≤ (i + j).toInt ∧ (i + j).toInt < n0) : ∃ (I2 : Nat → Nat → Int32) (L2 : Nat → Nat → Int64) (ρ1 : zRh), lw_c10 n0 xs r 0 215 i (hp I L ρ) = r (i + 6) (hp I2 L2 ρ1) ∧ lwN I2 L2 ρ1 N := by
  obtain ⟨y, I1, L1, ρ1, I2, L2, e1, e2, e3⟩ := lw_ci (b_I (zi_X11_when 0 (xs (i + 1).toNatClampNeg)) (both_2 (when_b hok (xs (i + 1).toNatClampNeg)))) hX hM
  refine ⟨I2, L2, ρ1, ?_, e3⟩
  unfold lw_c10
  rw [h_ld (hl 1 (by decide) (by decide)), e1, h_ld (hl 1 (by decide) (by decide)), e2, h_if, if_pos rfl]

theorem lw_k11 (hok : okA A) (hN : N < 999998000) (hX : RelX I L ρ A N) (hM : RelM I L A) (hl : ∀ j : Int32, 1 ≤ j.toInt → j.toInt ≤ 5 → 0 ≤ (i + j).toInt ∧ (i + j).toInt < n0) : ∃ (I2 : Nat → Nat → Int32) (L2 : Nat → Nat → Int64) (ρ1 : zRh), lw_c11 n0 xs r 0 215 i (hp I L ρ) = r (i + 6) (hp I2 L2 ρ1) ∧ lwN I2 L2 ρ1 N := by
  obtain ⟨y, I1, L1, ρ1, I2, L2, e1, e2, e3⟩ := lw_ci (b_I (zi_X11_pairs 0 (xs (i + 1).toNatClampNeg)) (both_2 (pairs_b hok (xs (i + 1).toNatClampNeg)))) hX hM
  refine ⟨I2, L2, ρ1, ?_, e3⟩
  unfold lw_c11
  rw [h_ld (hl 1 (by decide) (by decide)), e1, h_ld (hl 1 (by decide) (by decide)), e2, h_if, if_pos rfl]

theorem lw_k12 (hok : okA A) (hN : N < 999998000) (hX : RelX I L ρ A N) (hM : RelM I L A) (hl : ∀ j : Int32, 1 ≤ j.toInt → j.toInt ≤ 5 → 0 ≤ (i + j).toInt ∧ (i + j).toInt < n0) : ∃ (I2 : Nat → Nat → Int32) (L2 : Nat → Nat → Int64) (ρ1 : zRh), lw_c12 n0 xs r 0 215 i (hp I L ρ) = r (i + 6) (hp I2 L2 ρ1) ∧ lwN I2 L2 ρ1 N := by
  obtain ⟨y, I1, L1, ρ1, I2, L2, e1, e2, e3⟩ := lw_ci (b_I (zi_X11_match 0 (xs (i + 1).toNatClampNeg)) (both_2 (match_b hok (xs (i + 1).toNatClampNeg)))) hX hM
  refine ⟨I2, L2, ρ1, ?_, e3⟩
  unfold lw_c12
  rw [h_ld (hl 1 (by decide) (by decide)), e1, h_ld (hl 1 (by decide) (by decide)), e2, h_if, if_pos rfl]

theorem lw_k13 (hok : okA A) (hN : N < 999998000) (hX : RelX I L ρ A N) (hM : RelM I L A) (hl : ∀ j : Int32, 1 ≤ j.toInt → j.toInt ≤ 5 → 0 ≤ (i + j).toInt ∧ (i + j).toInt < n0) : ∃ (I2 : Nat → Nat → Int32) (L2 : Nat → Nat → Int64) (ρ1 : zRh), lw_c13 n0 xs r 0 215 i (hp I L ρ) = r (i + 6) (hp I2 L2 ρ1) ∧ lwN I2 L2 ρ1 N := by
  obtain ⟨y, I1, L1, ρ1, I2, L2, e1, e2, e3⟩ := lw_ci (b_I (zi_X11_steady 0 (xs (i + 1).toNatClampNeg)) (both_2 (steady_b hok (xs (i + 1).toNatClampNeg)))) hX hM
  refine ⟨I2, L2, ρ1, ?_, e3⟩
  unfold lw_c13
  rw [h_ld (hl 1 (by decide) (by decide)), e1, h_ld (hl 1 (by decide) (by decide)), e2, h_if, if_pos rfl]

theorem lw_k14 (hok : okA A) (hN : N < 999998000) (hX : RelX I L ρ A N) (hM : RelM I L A) (hl : ∀ j : Int32, 1 ≤ j.toInt → j.toInt ≤ 5 → 0 ≤ (i + j).toInt ∧ (i + j).toInt < n0) : ∃ (I2 : Nat → Nat → Int32) (L2 : Nat → Nat → Int64) (ρ1 : zRh), lw_c14 n0 xs r 0 215 i (hp I L ρ) = r (i + 6) (hp I2 L2 ρ1) ∧ lwN I2 L2 ρ1 N := by
  obtain ⟨y, I1, L1, ρ1, I2, L2, e1, e2, e3⟩ := lw_ci (b_I (zi_X11_rather 0 (xs (i + 1).toNatClampNeg) (xs (i + 2).toNatClampNeg)) (both_2 (rather_b hok (xs (i + 1).toNatClampNeg) (xs (i + 2).toNatClampNeg)))) hX hM
  refine ⟨I2, L2, ρ1, ?_, e3⟩
  unfold lw_c14
  rw [h_ld (hl 1 (by decide) (by decide)), h_ld (hl 2 (by decide) (by decide)), e1, h_ld (hl 1 (by decide) (by decide)), h_ld (hl 2 (by decide) (by decide)), e2, h_if, if_pos rfl]

theorem lw_k15 (hok : okA A) (hN : N < 999998000) (hX : RelX I L ρ A N) (hM : RelM I L A) (hl : ∀ j : Int32, 1 ≤ j.toInt → j.toInt ≤ 5 → 0 ≤ (i + j).toInt ∧ (i + j).toInt < n0) : ∃ (I2 : Nat → Nat → Int32) (L2 : Nat → Nat → Int64) (ρ1 : zRh), lw_c15 n0 xs r 0 215 i (hp I L ρ) = r (i + 6) (hp I2 L2 ρ1) ∧ lwN I2 L2 ρ1 N := by
  obtain ⟨y, I1, L1, ρ1, I2, L2, e1, e2, e3⟩ := lw_ci (b_I (zi_X11_teach 0 (xs (i + 1).toNatClampNeg) (xs (i + 2).toNatClampNeg)) (both_2 (teach_b hok (xs (i + 1).toNatClampNeg) (xs (i + 2).toNatClampNeg)))) hX hM
  refine ⟨I2, L2, ρ1, ?_, e3⟩
  unfold lw_c15
  rw [h_ld (hl 1 (by decide) (by decide)), h_ld (hl 2 (by decide) (by decide)), e1, h_ld (hl 1 (by decide) (by decide)), h_ld (hl 2 (by decide) (by decide)), e2, h_if, if_pos rfl]

theorem lw_k16 (hok : okA A) (hN : N < 999998000) (hX : RelX I L ρ A N) (hM : RelM I L A) (hl : ∀ j : Int32, 1 ≤ j.toInt → j.toInt ≤ 5 → 0 ≤ (i + j).toInt ∧ (i + j).toInt < n0) : ∃ (I2 : Nat → Nat → Int32) (L2 : Nat → Nat → Int64) (ρ1 : zRh), lw_c16 n0 xs r 0 215 i (hp I L ρ) = r (i + 6) (hp I2 L2 ρ1) ∧ lwN I2 L2 ρ1 N := by
  obtain ⟨y, I1, L1, ρ1, I2, L2, e1, e2, e3⟩ := lw_ci (b_I (zi_X11_change 0 (xs (i + 1).toNatClampNeg) (xs (i + 2).toNatClampNeg)) (both_2 (change_b hok (xs (i + 1).toNatClampNeg) (xs (i + 2).toNatClampNeg)))) hX hM
  refine ⟨I2, L2, ρ1, ?_, e3⟩
  unfold lw_c16
  rw [h_ld (hl 1 (by decide) (by decide)), h_ld (hl 2 (by decide) (by decide)), e1, h_ld (hl 1 (by decide) (by decide)), h_ld (hl 2 (by decide) (by decide)), e2, h_if, if_pos rfl]

theorem lw_k17 (hok : okA A) (hN : N < 999998000) (hX : RelX I L ρ A N) (hM : RelM I L A) (hl : ∀ j : Int32, 1 ≤ j.toInt → j.toInt ≤ 5 → 0 ≤ (i + j).toInt ∧ (i + j).toInt < n0) : ∃ (I2 : Nat → Nat → Int32) (L2 : Nat → Nat → Int64) (ρ1 : zRh), lw_c17 n0 xs r 0 215 i (hp I L ρ) = r (i + 6) (hp I2 L2 ρ1) ∧ lwN I2 L2 ρ1 N := by
  obtain ⟨y, I1, L1, ρ1, I2, L2, e1, e2, e3⟩ := lw_ci (b_I (zi_X11_odds 0 (xs (i + 1).toNatClampNeg)) (both_2 (odds_b hok (xs (i + 1).toNatClampNeg)))) hX hM
  refine ⟨I2, L2, ρ1, ?_, e3⟩
  unfold lw_c17
  rw [h_ld (hl 1 (by decide) (by decide)), e1, h_ld (hl 1 (by decide) (by decide)), e2, h_if, if_pos rfl]

theorem lw_k18 (hok : okA A) (hN : N < 999998000) (hX : RelX I L ρ A N) (hM : RelM I L A) (hl : ∀ j : Int32, 1 ≤ j.toInt → j.toInt ≤ 5 → 0 ≤ (i + j).toInt ∧ (i + j).toInt < n0) : ∃ (I2 : Nat → Nat → Int32) (L2 : Nat → Nat → Int64) (ρ1 : zRh), lw_c18 n0 xs r 0 215 i (hp I L ρ) = r (i + 6) (hp I2 L2 ρ1) ∧ lwN I2 L2 ρ1 N := by
  obtain ⟨y, I1, L1, ρ1, I2, L2, e1, e2, e3⟩ := lw_ci (b_I (zi_X11_see 0 ) (both_2 (see_b hok ))) hX hM
  refine ⟨I2, L2, ρ1, ?_, e3⟩
  unfold lw_c18
  rw [e1, e2, h_if, if_pos rfl]

theorem lw_k19 (hok : okA A) (hN : N < 999998000) (hX : RelX I L ρ A N) (hM : RelM I L A) (hl : ∀ j : Int32, 1 ≤ j.toInt → j.toInt ≤ 5 → 0 ≤ (i + j).toInt ∧ (i + j).toInt < n0) : ∃ (I2 : Nat → Nat → Int32) (L2 : Nat → Nat → Int64) (ρ1 : zRh), lw_c19 n0 xs r 0 215 i (hp I L ρ) = r (i + 6) (hp I2 L2 ρ1) ∧ lwN I2 L2 ρ1 N := by
  obtain ⟨y, I1, L1, ρ1, I2, L2, e1, e2, e3⟩ := lw_ci (b_I (zi_X11_sizes 0 (xs (i + 1).toNatClampNeg)) (both_2 (sizes_b hok (xs (i + 1).toNatClampNeg)))) hX hM
  refine ⟨I2, L2, ρ1, ?_, e3⟩
  unfold lw_c19
  rw [h_ld (hl 1 (by decide) (by decide)), e1, h_ld (hl 1 (by decide) (by decide)), e2, h_if, if_pos rfl]

theorem lw_k20 (hok : okA A) (hN : N < 999998000) (hX : RelX I L ρ A N) (hM : RelM I L A) (hl : ∀ j : Int32, 1 ≤ j.toInt → j.toInt ≤ 5 → 0 ≤ (i + j).toInt ∧ (i + j).toInt < n0) : ∃ (I2 : Nat → Nat → Int32) (L2 : Nat → Nat → Int64) (ρ1 : zRh), lw_c20 n0 xs r 0 215 i (hp I L ρ) = r (i + 6) (hp I2 L2 ρ1) ∧ lwN I2 L2 ρ1 N := by
  obtain ⟨y, I1, L1, ρ1, I2, L2, e1, e2, e3⟩ := lw_ci (b_I (zi_X11_tells 0 (xs (i + 1).toNatClampNeg) (xs (i + 2).toNatClampNeg)) (both_2 (tells_b hok (xs (i + 1).toNatClampNeg) (xs (i + 2).toNatClampNeg)))) hX hM
  refine ⟨I2, L2, ρ1, ?_, e3⟩
  unfold lw_c20
  rw [h_ld (hl 1 (by decide) (by decide)), h_ld (hl 2 (by decide) (by decide)), e1, h_ld (hl 1 (by decide) (by decide)), h_ld (hl 2 (by decide) (by decide)), e2, h_if, if_pos rfl]

theorem lw_k21 (hok : okA A) (hN : N < 999998000) (hX : RelX I L ρ A N) (hM : RelM I L A) (hl : ∀ j : Int32, 1 ≤ j.toInt → j.toInt ≤ 5 → 0 ≤ (i + j).toInt ∧ (i + j).toInt < n0) : ∃ (I2 : Nat → Nat → Int32) (L2 : Nat → Nat → Int64) (ρ1 : zRh), lw_c21 n0 xs r 0 215 i (hp I L ρ) = r (i + 6) (hp I2 L2 ρ1) ∧ lwN I2 L2 ρ1 N := by
  obtain ⟨y, I1, L1, ρ1, I2, L2, e1, e2, e3⟩ := lw_ci (b_I (zi_X11_rounds 0 (xs (i + 1).toNatClampNeg)) (both_2 (rounds_b hok hN (xs (i + 1).toNatClampNeg)))) hX hM
  refine ⟨I2, L2, ρ1, ?_, e3⟩
  unfold lw_c21
  rw [h_ld (hl 1 (by decide) (by decide)), e1, h_ld (hl 1 (by decide) (by decide)), e2, h_if, if_pos rfl]

theorem lw_k22 (hok : okA A) (hN : N < 999998000) (hX : RelX I L ρ A N) (hM : RelM I L A) (hl : ∀ j : Int32, 1 ≤ j.toInt → j.toInt ≤ 5 → 0 ≤ (i + j).toInt ∧ (i + j).toInt < n0) : ∃ (I2 : Nat → Nat → Int32) (L2 : Nat → Nat → Int64) (ρ1 : zRh), lw_c22 n0 xs r 0 215 i (hp I L ρ) = r (i + 6) (hp I2 L2 ρ1) ∧ lwN I2 L2 ρ1 N := by
  obtain ⟨y, I1, L1, ρ1, I2, L2, e1, e2, e3⟩ := lw_ci (b_I (zi_X11_chance 0 (xs (i + 1).toNatClampNeg)) (both_2 (chance_b hok hN (xs (i + 1).toNatClampNeg)))) hX hM
  refine ⟨I2, L2, ρ1, ?_, e3⟩
  unfold lw_c22
  rw [h_ld (hl 1 (by decide) (by decide)), e1, h_ld (hl 1 (by decide) (by decide)), e2, h_if, if_pos rfl]

theorem lw_k23 (hok : okA A) (hN : N < 999998000) (hX : RelX I L ρ A N) (hM : RelM I L A) (hl : ∀ j : Int32, 1 ≤ j.toInt → j.toInt ≤ 5 → 0 ≤ (i + j).toInt ∧ (i + j).toInt < n0) : ∃ (I2 : Nat → Nat → Int32) (L2 : Nat → Nat → Int64) (ρ1 : zRh), lw_c23 n0 xs r 0 215 i (hp I L ρ) = r (i + 6) (hp I2 L2 ρ1) ∧ lwN I2 L2 ρ1 N := by
  obtain ⟨y, I1, L1, ρ1, I2, L2, e1, e2, e3⟩ := lw_ci (b_I (zi_X11_part 0 (xs (i + 1).toNatClampNeg)) (both_2 (part_b hok (xs (i + 1).toNatClampNeg)))) hX hM
  refine ⟨I2, L2, ρ1, ?_, e3⟩
  unfold lw_c23
  rw [h_ld (hl 1 (by decide) (by decide)), e1, h_ld (hl 1 (by decide) (by decide)), e2, h_if, if_pos rfl]

theorem lw_k24 (hok : okA A) (hN : N < 999998000) (hX : RelX I L ρ A N) (hM : RelM I L A) (hl : ∀ j : Int32, 1 ≤ j.toInt → j.toInt ≤ 5 → 0 ≤ (i + j).toInt ∧ (i + j).toInt < n0) : ∃ (I2 : Nat → Nat → Int32) (L2 : Nat → Nat → Int64) (ρ1 : zRh), lw_c24 n0 xs r 0 215 i (hp I L ρ) = r (i + 6) (hp I2 L2 ρ1) ∧ lwN I2 L2 ρ1 N := by
  obtain ⟨y, I1, L1, ρ1, I2, L2, e1, e2, e3⟩ := lw_ci (b_I (zi_X11_learn 0 (xs (i + 1).toNatClampNeg) (xs (i + 2).toNatClampNeg) (xs (i + 3).toNatClampNeg)) (both_2 (learn_b hok (xs (i + 1).toNatClampNeg) (xs (i + 2).toNatClampNeg) (xs (i + 3).toNatClampNeg)))) hX hM
  refine ⟨I2, L2, ρ1, ?_, e3⟩
  unfold lw_c24
  rw [h_ld (hl 1 (by decide) (by decide)), h_ld (hl 2 (by decide) (by decide)), h_ld (hl 3 (by decide) (by decide)), e1, h_ld (hl 1 (by decide) (by decide)), h_ld (hl 2 (by decide) (by decide)), h_ld (hl 3 (by decide) (by decide)), e2, h_if, if_pos rfl]

theorem lw_k25 (hok : okA A) (hN : N < 999998000) (hX : RelX I L ρ A N) (hM : RelM I L A) (hl : ∀ j : Int32, 1 ≤ j.toInt → j.toInt ≤ 5 → 0 ≤ (i + j).toInt ∧ (i + j).toInt < n0) : ∃ (I2 : Nat → Nat → Int32) (L2 : Nat → Nat → Int64) (ρ1 : zRh), lw_c25 n0 xs r 0 215 i (hp I L ρ) = r (i + 6) (hp I2 L2 ρ1) ∧ lwN I2 L2 ρ1 N := by
  obtain ⟨y, I1, L1, ρ1, I2, L2, e1, e2, e3⟩ := lw_ci (b_I (zi_X11_like 0 (xs (i + 1).toNatClampNeg) (xs (i + 2).toNatClampNeg) (xs (i + 3).toNatClampNeg)) (both_2 (like_b hok (xs (i + 1).toNatClampNeg) (xs (i + 2).toNatClampNeg) (xs (i + 3).toNatClampNeg)))) hX hM
  refine ⟨I2, L2, ρ1, ?_, e3⟩
  unfold lw_c25
  rw [h_ld (hl 1 (by decide) (by decide)), h_ld (hl 2 (by decide) (by decide)), h_ld (hl 3 (by decide) (by decide)), e1, h_ld (hl 1 (by decide) (by decide)), h_ld (hl 2 (by decide) (by decide)), h_ld (hl 3 (by decide) (by decide)), e2, h_if, if_pos rfl]

theorem lw_k26 (hok : okA A) (hN : N < 999998000) (hX : RelX I L ρ A N) (hM : RelM I L A) (hl : ∀ j : Int32, 1 ≤ j.toInt → j.toInt ≤ 5 → 0 ≤ (i + j).toInt ∧ (i + j).toInt < n0) : ∃ (I2 : Nat → Nat → Int32) (L2 : Nat → Nat → Int64) (ρ1 : zRh), lw_c26 n0 xs r 0 215 i (hp I L ρ) = r (i + 6) (hp I2 L2 ρ1) ∧ lwN I2 L2 ρ1 N := by
  obtain ⟨y, I1, L1, ρ1, I2, L2, e1, e2, e3⟩ := lw_ci (b_I (zi_X11_swap 0 (xs (i + 1).toNatClampNeg) (xs (i + 2).toNatClampNeg) (xs (i + 3).toNatClampNeg)) (both_2 (swap_b hok (xs (i + 1).toNatClampNeg) (xs (i + 2).toNatClampNeg) (xs (i + 3).toNatClampNeg)))) hX hM
  refine ⟨I2, L2, ρ1, ?_, e3⟩
  unfold lw_c26
  rw [h_ld (hl 1 (by decide) (by decide)), h_ld (hl 2 (by decide) (by decide)), h_ld (hl 3 (by decide) (by decide)), e1, h_ld (hl 1 (by decide) (by decide)), h_ld (hl 2 (by decide) (by decide)), h_ld (hl 3 (by decide) (by decide)), e2, h_if, if_pos rfl]

theorem lw_k27 (hok : okA A) (hN : N < 999998000) (hX : RelX I L ρ A N) (hM : RelM I L A) (hl : ∀ j : Int32, 1 ≤ j.toInt → j.toInt ≤ 5 → 0 ≤ (i + j).toInt ∧ (i + j).toInt < n0) : ∃ (I2 : Nat → Nat → Int32) (L2 : Nat → Nat → Int64) (ρ1 : zRh), lw_c27 n0 xs r 0 215 i (hp I L ρ) = r (i + 6) (hp I2 L2 ρ1) ∧ lwN I2 L2 ρ1 N := by
  obtain ⟨y, I1, L1, ρ1, I2, L2, e1, e2, e3⟩ := lw_ci (b_I (zi_X11_undo 0 ) (both_2 (undo_b hok ))) hX hM
  refine ⟨I2, L2, ρ1, ?_, e3⟩
  unfold lw_c27
  rw [e1, e2, h_if, if_pos rfl]

theorem lw_k28 (hok : okA A) (hN : N < 999998000) (hX : RelX I L ρ A N) (hM : RelM I L A) (hl : ∀ j : Int32, 1 ≤ j.toInt → j.toInt ≤ 5 → 0 ≤ (i + j).toInt ∧ (i + j).toInt < n0) : ∃ (I2 : Nat → Nat → Int32) (L2 : Nat → Nat → Int64) (ρ1 : zRh), lw_c28 n0 xs r 0 215 i (hp I L ρ) = r (i + 6) (hp I2 L2 ρ1) ∧ lwN I2 L2 ρ1 N := by
  obtain ⟨y, I1, L1, ρ1, I2, L2, e1, e2, e3⟩ := lw_ci (b_I (zi_X11_seed 0 (xs (i + 1).toNatClampNeg)) (both_2 (seed_b hok (xs (i + 1).toNatClampNeg)))) hX hM
  refine ⟨I2, L2, ρ1, ?_, e3⟩
  unfold lw_c28
  rw [h_ld (hl 1 (by decide) (by decide)), e1, h_ld (hl 1 (by decide) (by decide)), e2, h_if, if_pos rfl]

theorem lw_k29 (hok : okA A) (hN : N < 999998000) (hX : RelX I L ρ A N) (hM : RelM I L A) (hl : ∀ j : Int32, 1 ≤ j.toInt → j.toInt ≤ 5 → 0 ≤ (i + j).toInt ∧ (i + j).toInt < n0) : ∃ (I2 : Nat → Nat → Int32) (L2 : Nat → Nat → Int64) (ρ1 : zRh), lw_c29 n0 xs r 0 215 i (hp I L ρ) = r (i + 6) (hp I2 L2 ρ1) ∧ lwN I2 L2 ρ1 N := by
  obtain ⟨y0, hy⟩ := aqV_long A (q_rd (t_b A) (a_n A) (sk (t_b A) (a_n A) 0))
  obtain ⟨y, I1, L1, ρ1, I2, L2, e1, e2, e3⟩ := lw_cl (y := y0) (fun I L ρ hX => hy ▸ ask_X hok hX) (fun I L ρ hM => hy ▸ ask_M hok hM) (okA_F2 hok) hX hM
  refine ⟨I2, L2, ρ1, ?_, e3⟩
  unfold lw_c29
  rw [e1, e2, h_if, if_pos rfl]

theorem lw_k30 (hok : okA A) (hN : N < 999998000) (hX : RelX I L ρ A N) (hM : RelM I L A) (hl : ∀ j : Int32, 1 ≤ j.toInt → j.toInt ≤ 5 → 0 ≤ (i + j).toInt ∧ (i + j).toInt < n0) : ∃ (I2 : Nat → Nat → Int32) (L2 : Nat → Nat → Int64) (ρ1 : zRh), lw_c30 n0 xs r 0 215 i (hp I L ρ) = r (i + 6) (hp I2 L2 ρ1) ∧ lwN I2 L2 ρ1 N := by
  obtain ⟨y, I1, L1, ρ1, I2, L2, e1, e2, e3⟩ := lw_ci (b_I (zi_X11_image 0 ) (both_2 (image_b hok ))) hX hM
  refine ⟨I2, L2, ρ1, ?_, e3⟩
  unfold lw_c30
  rw [e1, e2, h_if, if_pos rfl]

theorem lw_k31 (hok : okA A) (hN : N < 999998000) (hX : RelX I L ρ A N) (hM : RelM I L A) (hl : ∀ j : Int32, 1 ≤ j.toInt → j.toInt ≤ 5 → 0 ≤ (i + j).toInt ∧ (i + j).toInt < n0) : ∃ (I2 : Nat → Nat → Int32) (L2 : Nat → Nat → Int64) (ρ1 : zRh), lw_c31 n0 xs r 0 215 i (hp I L ρ) = r (i + 6) (hp I2 L2 ρ1) ∧ lwN I2 L2 ρ1 N := by
  obtain ⟨y, I1, L1, ρ1, I2, L2, e1, e2, e3⟩ := lw_ci (b_I (zi_X11_octet 0 (xs (i + 1).toNatClampNeg)) (both_2 (octet_b hok (xs (i + 1).toNatClampNeg)))) hX hM
  refine ⟨I2, L2, ρ1, ?_, e3⟩
  unfold lw_c31
  rw [h_ld (hl 1 (by decide) (by decide)), e1, h_ld (hl 1 (by decide) (by decide)), e2, h_if, if_pos rfl]

theorem lw_k32 (hok : okA A) (hN : N < 999998000) (hX : RelX I L ρ A N) (hM : RelM I L A) (hl : ∀ j : Int32, 1 ≤ j.toInt → j.toInt ≤ 5 → 0 ≤ (i + j).toInt ∧ (i + j).toInt < n0) : ∃ (I2 : Nat → Nat → Int32) (L2 : Nat → Nat → Int64) (ρ1 : zRh), lw_c32 n0 xs r 0 215 i (hp I L ρ) = r (i + 6) (hp I2 L2 ρ1) ∧ lwN I2 L2 ρ1 N := by
  obtain ⟨y, I1, L1, ρ1, I2, L2, e1, e2, e3⟩ := lw_ci (b_I (zi_X11_on 0 ) (both_2 (on_b hok ))) hX hM
  refine ⟨I2, L2, ρ1, ?_, e3⟩
  unfold lw_c32
  rw [e1, e2, h_if, if_pos rfl]

theorem lw_k33 (hok : okA A) (hN : N < 999998000) (hX : RelX I L ρ A N) (hM : RelM I L A) (hl : ∀ j : Int32, 1 ≤ j.toInt → j.toInt ≤ 5 → 0 ≤ (i + j).toInt ∧ (i + j).toInt < n0) : ∃ (I2 : Nat → Nat → Int32) (L2 : Nat → Nat → Int64) (ρ1 : zRh), lw_c33 n0 xs r 0 215 i (hp I L ρ) = r (i + 6) (hp I2 L2 ρ1) ∧ lwN I2 L2 ρ1 N := by
  obtain ⟨y, I1, L1, ρ1, I2, L2, e1, e2, e3⟩ := lw_ci (b_I (zi_X11_status 0 (xs (i + 1).toNatClampNeg)) (both_2 (status_b hok (xs (i + 1).toNatClampNeg)))) hX hM
  refine ⟨I2, L2, ρ1, ?_, e3⟩
  unfold lw_c33
  rw [h_ld (hl 1 (by decide) (by decide)), e1, h_ld (hl 1 (by decide) (by decide)), e2, h_if, if_pos rfl]

theorem lw_t (hok : okA A) (hN : N < 999998000) (hX : RelX I L ρ A N) (hM : RelM I L A) (h0 : 0 ≤ i.toInt ∧ i.toInt < n0) (hg : ¬ Int32.ofNat n0 - 6 < i) (hl : ∀ j : Int32, 1 ≤ j.toInt → j.toInt ≤ 5 → 0 ≤ (i + j).toInt ∧ (i + j).toInt < n0) : ∃ (I2 : Nat → Nat → Int32) (L2 : Nat → Nat → Int64) (ρ1 : zRh), lw_B n0 xs 0 215 r i (hp I L ρ) = r (i + 6) (hp I2 L2 ρ1) ∧ lwN I2 L2 ρ1 N := by
  have e0 : lw_B n0 xs 0 215 r i (hp I L ρ) = (if (xs i.toNatClampNeg &&& 63).toInt < 0 ∨ 33 < (xs i.toNatClampNeg &&& 63).toInt then r (i + 6) else lw_S n0 xs r 0 215 i ((xs i.toNatClampNeg &&& 63).toInt - 0).toNat) (hp I L ρ) := by
    unfold lw_B
    rw [h_if, if_neg hg, h_ld h0, h_if]
    split <;> rfl
  rw [e0]
  generalize (xs i.toNatClampNeg &&& 63).toInt = x
  by_cases c : x < 0 ∨ 33 < x
  · rw [if_pos c]
    exact ⟨I, L, ρ, rfl, A, N, hX, hM, hok, by omega⟩
  · rw [if_neg c]
    have hj : (x - 0).toNat < 34 := by omega
    generalize (x - 0).toNat = j at hj
    match j, hj with
    | 0, _ => exact lw_k0 (xs := xs) (r := r) hok hN hX hM hl
    | 1, _ => exact lw_k1 (xs := xs) (r := r) hok hN hX hM hl
    | 2, _ => exact lw_k2 (xs := xs) (r := r) hok hN hX hM hl
    | 3, _ => exact lw_k3 (xs := xs) (r := r) hok hN hX hM hl
    | 4, _ => exact lw_k4 (xs := xs) (r := r) hok hN hX hM hl
    | 5, _ => exact lw_k5 (xs := xs) (r := r) hok hN hX hM hl
    | 6, _ => exact lw_k6 (xs := xs) (r := r) hok hN hX hM hl
    | 7, _ => exact lw_k7 (xs := xs) (r := r) hok hN hX hM hl
    | 8, _ => exact lw_k8 (xs := xs) (r := r) hok hN hX hM hl
    | 9, _ => exact lw_k9 (xs := xs) (r := r) hok hN hX hM hl
    | 10, _ => exact lw_k10 (xs := xs) (r := r) hok hN hX hM hl
    | 11, _ => exact lw_k11 (xs := xs) (r := r) hok hN hX hM hl
    | 12, _ => exact lw_k12 (xs := xs) (r := r) hok hN hX hM hl
    | 13, _ => exact lw_k13 (xs := xs) (r := r) hok hN hX hM hl
    | 14, _ => exact lw_k14 (xs := xs) (r := r) hok hN hX hM hl
    | 15, _ => exact lw_k15 (xs := xs) (r := r) hok hN hX hM hl
    | 16, _ => exact lw_k16 (xs := xs) (r := r) hok hN hX hM hl
    | 17, _ => exact lw_k17 (xs := xs) (r := r) hok hN hX hM hl
    | 18, _ => exact lw_k18 (xs := xs) (r := r) hok hN hX hM hl
    | 19, _ => exact lw_k19 (xs := xs) (r := r) hok hN hX hM hl
    | 20, _ => exact lw_k20 (xs := xs) (r := r) hok hN hX hM hl
    | 21, _ => exact lw_k21 (xs := xs) (r := r) hok hN hX hM hl
    | 22, _ => exact lw_k22 (xs := xs) (r := r) hok hN hX hM hl
    | 23, _ => exact lw_k23 (xs := xs) (r := r) hok hN hX hM hl
    | 24, _ => exact lw_k24 (xs := xs) (r := r) hok hN hX hM hl
    | 25, _ => exact lw_k25 (xs := xs) (r := r) hok hN hX hM hl
    | 26, _ => exact lw_k26 (xs := xs) (r := r) hok hN hX hM hl
    | 27, _ => exact lw_k27 (xs := xs) (r := r) hok hN hX hM hl
    | 28, _ => exact lw_k28 (xs := xs) (r := r) hok hN hX hM hl
    | 29, _ => exact lw_k29 (xs := xs) (r := r) hok hN hX hM hl
    | 30, _ => exact lw_k30 (xs := xs) (r := r) hok hN hX hM hl
    | 31, _ => exact lw_k31 (xs := xs) (r := r) hok hN hX hM hl
    | 32, _ => exact lw_k32 (xs := xs) (r := r) hok hN hX hM hl
    | 33, _ => exact lw_k33 (xs := xs) (r := r) hok hN hX hM hl
    | k + 34, q => omega
end Bb8
