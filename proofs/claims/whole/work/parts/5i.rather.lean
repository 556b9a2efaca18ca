/-! rather: the loops -/
section B5i
variable {I I0 : Nat → Nat → Int32} {L L0 : Nat → Nat → Int64} {ρ : zRh} {h : zH} {A : aT} {N : Nat} {C : cT} {s : sT}
theorem X5_ra_a (hok : okA A) : ∀ (m l fuel : Nat) (I : Nat → Nat → Int32) (acc : List (Nat × Nat)), l + m = k_L (a_C A) → m < fuel → acc.length ≤ 6 * l → RelX I L ρ A N → raX I acc → ∃ I', z_fix (fun r x => X5_findRather_B5 63 ρ.1 41 r x.1 x.2) fuel (nI acc.length, nI l) (hp I L ρ) = some (some (.int (nI (r_a (a_C A) (a_s A) m l acc).length)), hp I' L ρ) ∧ (∀ x, x ≠ 65 → I' x = I x) ∧ raX I' (r_a (a_C A) (a_s A) m l acc) ∧ (r_a (a_C A) (a_s A) m l acc).length ≤ 36 := by
  have h12 := hok.1.1
  intro m
  induction m with
  | zero =>
    intro l fuel I acc h1 h2 h3 h4 h5
    obtain ⟨f, rfl⟩ : ∃ f, fuel = f + 1 := ⟨fuel - 1, by omega⟩
    refine ⟨I, ?_, fun _ _ => rfl, h5, by show acc.length ≤ 36; omega⟩
    rw [h_fix]
    show X5_findRather_B5 63 ρ.1 41 _ (nI acc.length) (nI l) (hp I L ρ) = some (some (.int (nI acc.length)), hp I L ρ)
    unfold X5_findRather_B5
    rw [gc_0 (cu_ρ h4), show (0 : Int32) = nI 0 from rfl, lac_1 (cu_ρ h4) (by omega), (cu_ch h4).1.1, h_if, if_pos (nI_le (by omega) (by omega))]; rfl
  | succ m ih =>
    intro l fuel I acc h1 h2 h3 h4 h5
    obtain ⟨f, rfl⟩ : ∃ f, fuel = f + 1 := ⟨fuel - 1, by omega⟩
    rw [h_fix]
    generalize hg : z_fix (fun r x => X5_findRather_B5 63 ρ.1 41 r x.1 x.2) f = rec
    obtain ⟨I1, e1, e2, e3, e4⟩ := X5_ra_b (L := L) (ρ := ρ) (r5 := rec) hok (l := l) (by omega) (k_R (a_C A)) 6 zFU I acc (by omega) (by unfold zFU; omega) (by omega) h4 h5
    have hX1 : RelX I1 L ρ A N := RelX_fr (fun x hx => e2 x (by unfold lastX at hx; omega)) rfl (Nat.le_refl _) h4
    obtain ⟨I', r1, r2, r3⟩ := ih (l + 1) f I1 _ (by omega) (by omega) (by omega) hX1 e3
    refine ⟨I', ?_, fun x hx => by rw [r2 x hx, e2 x hx], r3⟩
    show X5_findRather_B5 63 ρ.1 41 rec (nI acc.length) (nI l) (hp I L ρ) = _
    unfold X5_findRather_B5
    rw [gc_0 (cu_ρ h4), show (0 : Int32) = nI 0 from rfl, lac_1 (cu_ρ h4) (by omega), (cu_ch h4).1.1, h_if, if_neg (nI_ge (by omega) (by omega)), show (6 : Int32) = nI 6 from rfl, e1, ← hg]
    exact r1
def r_all (A : aT) : List (Nat × Nat) := r_a (a_C A) (a_s A) (k_L (a_C A)) 0 []
theorem X5_rather_h (hok : okA A) (hX : RelX I L ρ A N) : ∃ I', X5_findRather 63 ρ.1 41 (hp I L ρ) = some (some (.int (nI (r_all A).length)), hp I' L ρ) ∧ (∀ x, x ≠ 65 → I' x = I x) ∧ raX I' (r_all A) ∧ (r_all A).length ≤ 36 :=
  X5_ra_a hok (k_L (a_C A)) 0 zFU I [] (by omega) (by have := hok.1.1; unfold zFU; omega) (Nat.zero_le _) hX (fun i q hq => by simp at hq)
theorem r_b_pre {C : cT} {s : sT} {l : Nat} : ∀ {m r : Nat} {acc : List (Nat × Nat)}, acc.length ≤ (r_b C s l m r acc).length ∧ ∀ i, i < acc.length → (r_b C s l m r acc)[i]? = acc[i]?
  | 0, r, acc => ⟨Nat.le_refl _, fun _ _ => rfl⟩
  | m + 1, r, acc => by
    have h := r_b_pre (C := C) (s := s) (l := l) (m := m) (r := r + 1) (acc := if r_ok C s l r = true then acc ++ [(l, r)] else acc)
    have hl : acc.length ≤ (if r_ok C s l r = true then acc ++ [(l, r)] else acc).length := by
      split
      · rw [List.length_append]; omega
      · omega
    refine ⟨Nat.le_trans hl h.1, fun i hi => ?_⟩
    show (r_b C s l m (r + 1) (if r_ok C s l r = true then acc ++ [(l, r)] else acc))[i]? = acc[i]?
    rw [h.2 i (by omega)]
    split
    · rw [List.getElem?_append_left hi]
    · rfl
end B5i
