/-! the law's loop on the small machine, and its run from the start -/
section Bb9
variable {A : aT} {N : Nat} {I : Nat → Nat → Int32} {L : Nat → Nat → Int64} {ρ : zRh} {n0 : Nat} {xs : Nat → Int32}
theorem i_n (n : Nat) (h : n < 2147483648) : (Int32.ofNat n).toInt = n := nI_toI h
theorem i_sub6 (n : Nat) (h : n ≤ 3072) : (Int32.ofNat n - 6).toInt = (n : Int) - 6 := by
  rw [Int32.toInt_sub, i_n n (by omega), show (6 : Int32).toInt = 6 by decide]
  exact Int.bmod_eq_of_le (by omega) (by omega)
theorem i_addj (n : Nat) (h : n ≤ 3072) (j : Int32) (h1 : 0 ≤ j.toInt) (h2 : j.toInt ≤ 6) : (nI n + j).toInt = (n : Int) + j.toInt := by
  rw [Int32.toInt_add, nI_toI (by omega)]
  exact Int.bmod_eq_of_le (by omega) (by omega)
theorem i_next (n : Nat) (h : n ≤ 3072) : (nI n + 6 : Int32) = nI (n + 6) := by
  rw [← Int32.toInt_inj, i_addj n h 6 (by decide) (by decide), nI_toI (by omega)]
  show (n : Int) + 6 = _
  omega
theorem lw_all (hn0 : n0 ≤ 3072) : ∀ (u F k : Nat) (A : aT) (N : Nat) (I : Nat → Nat → Int32) (L : Nat → Nat → Int64) (ρ : zRh), 6 * k ≤ n0 → n0 < 6 * (k + u) → N ≤ 600 * k → okA A → RelX I L ρ A N → RelM I L A → ∃ h', z_fix (fun r i => lw_B n0 xs 0 215 r i) (F + u) (nI (6 * k)) (hp I L ρ) = some (some (Value.int 1), h') := by
  intro u
  induction u with
  | zero => intro F k A N I L ρ h1 h2; omega
  | succ u ih =>
    intro F k A N I L ρ h1 h2 hN hok hX hM
    have hi : (nI (6 * k)).toInt = (6 * k : Nat) := nI_toI (by omega)
    show ∃ h', lw_B n0 xs 0 215 (z_fix (fun r i => lw_B n0 xs 0 215 r i) (F + u)) (nI (6 * k)) (hp I L ρ) = _
    have hlt : (Int32.ofNat n0 - 6 < (nI (6 * k) : Int32)) ↔ ((n0 : Int) - 6 < (6 * k : Nat)) := by
      rw [Int32.lt_iff_toInt_lt, i_sub6 n0 hn0, hi]
    by_cases c : 6 * k + 6 ≤ n0
    · have hg : ¬ Int32.ofNat n0 - 6 < (nI (6 * k) : Int32) := fun q => by have := hlt.mp q; omega
      obtain ⟨I2, L2, ρ1, e, A', N', x1, m1, ok1, hN1⟩ := lw_t (r := z_fix (fun r i => lw_B n0 xs 0 215 r i) (F + u)) (xs := xs) hok (by omega) hX hM ⟨by omega, by omega⟩ hg (fun j q1 q2 => by rw [i_addj (6 * k) (by omega) j (by omega) (by omega)]; omega)
      rw [e, i_next (6 * k) (by omega), show 6 * k + 6 = 6 * (k + 1) by omega]
      exact ih F (k + 1) A' N' I2 L2 ρ1 (by omega) (by omega) (by omega) ok1 x1 m1
    · have hg : Int32.ofNat n0 - 6 < (nI (6 * k) : Int32) := hlt.mpr (by omega)
      refine ⟨hp I L ρ, ?_⟩
      unfold lw_B
      rw [h_if, if_pos hg]
      rfl
/-- the law's program, from nothing: it answers 1 -/
theorem lw_run (hn0 : n0 ≤ 3072) : ∃ h', lw_M n0 xs (hq 0 z32 z64 (rB [])) = some (some (Value.int 1), h') := by
  obtain ⟨I2, L2, I3, L3, e1, c1, c2, e2, hX, hM⟩ := start_XM
  unfold lw_M
  rw [q_new (n2 := 1) (I := z32) (L := z64) (R := rB []) rfl rfl (by decide) (fun _ _ _ => rfl) (fun _ _ _ => rfl) (fun _ _ _ => rfl)]
  rw [h_cv e1, q_new (n2 := 216) rfl rfl (by decide) c1 c2 (rB_c wR_102 (by decide +kernel)), h_cv e2]
  exact lw_all hn0 513 (zFU - 513) 0 A00 0 I3 L3 ρ0 (by omega) (by omega) (by omega) okA_00 hX hM
end Bb9
