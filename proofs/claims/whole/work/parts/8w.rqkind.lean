/-! the reference reads a question -/
section B8w
variable {I I0 : Nat → Nat → Int32} {L L0 : Nat → Nat → Int64} {ρ : zRh} {h : zH} {b : Nat → Nat} {n a x j k u w t p m side here : Nat} {r : rP} {S : nT} {A : aT} {N : Nat} {C : cT} {s : sT}
theorem ws15 : wsK 15 = [[102, 105, 114, 115, 116], [108, 97, 115, 116], [111, 102, 116, 101, 110], [116, 111, 116, 97, 108], [109, 111, 115, 116], [108, 101, 97, 115, 116]] := rfl
theorem qk_76 {v : Nat} (hv : v < 5) : X12_qKind_J76 215 (nI v) (hp I L ρ) = some (some (.int (nI v)), hp I L ρ) := by
  unfold X12_qKind_J76
  rw [h_if, if_neg (show ¬ nI v = 5 from fun q => by have := (nI_inj (b := 5) (by omega) (by omega)).mp q; omega)]; rfl
/-- the kind of a question, or a fault where none is -/
def qkR (b : Nat → Nat) (n a : Nat) : rP := match t_in b n a (wsK 15) 0 with
  | none => .inl (1, a)
  | some _ => .inr (sk b n (a + wl b n a))
theorem X12_qKind_h (hw : wdM I) (h : tQ I b n (.inr a)) : ∃ I' v, X12_qKind 215 (hp I L ρ) = some (some (.int (nI v)), hp I' L ρ) ∧ tQ I' b n (qkR b n a) ∧ fxM I I' ∧ v < 6 ∧ ∀ k, t_in b n a (wsK 15) 0 = some k → v = k := by
  have ha := (tQ_le h).1
  unfold X12_qKind qkR
  have F0 : fxM I I := fxM_refl
  have T0 := h
  obtain hh0 := st_take (L := L) (ρ := ρ) (wdM_f hw F0) (q := 267) (w := [102,105,114,115,116]) (by decide +kernel) T0
  rcases hh0 with ⟨c0, J, p1, p2, p3⟩ | ⟨c0, J1, p1, T1, p3⟩
  · rw [gr_215_78, rc_215, h_ci p1, h_if, if_neg (by decide)]
    have F := fxM_trans F0 p3
    have tin : t_in b n a (wsK 15) 0 = some 0 := by
      rw [ws15]
      first
        | rw [t_in_c, if_pos c0]
        | rw [t_in_c, if_neg c0, t_in_c, if_pos c1]
        | rw [t_in_c, if_neg c0, t_in_c, if_neg c1, t_in_c, if_pos c2]
        | rw [t_in_c, if_neg c0, t_in_c, if_neg c1, t_in_c, if_neg c2, t_in_c, if_pos c3]
        | rw [t_in_c, if_neg c0, t_in_c, if_neg c1, t_in_c, if_neg c2, t_in_c, if_neg c3, t_in_c, if_pos c4]
    rw [tin]
    exact ⟨J, 0, qk_76 (v := 0) (by omega), p2, F, by omega, fun k hk => by cases hk; rfl⟩
  rw [gr_215_78, rc_215, h_ci p1, h_if, if_pos rfl]
  have F1 := fxM_trans F0 p3
  clear p1 p3
  obtain hh1 := st_take (L := L) (ρ := ρ) (wdM_f hw F1) (q := 268) (w := [108,97,115,116]) (by decide +kernel) T1
  rcases hh1 with ⟨c1, J, p1, p2, p3⟩ | ⟨c1, J2, p1, T2, p3⟩
  · rw [gr_215_79, rc_215, h_ci p1, h_if, if_neg (by decide)]
    have F := fxM_trans F1 p3
    have tin : t_in b n a (wsK 15) 0 = some 1 := by
      rw [ws15]
      first
        | rw [t_in_c, if_pos c0]
        | rw [t_in_c, if_neg c0, t_in_c, if_pos c1]
        | rw [t_in_c, if_neg c0, t_in_c, if_neg c1, t_in_c, if_pos c2]
        | rw [t_in_c, if_neg c0, t_in_c, if_neg c1, t_in_c, if_neg c2, t_in_c, if_pos c3]
        | rw [t_in_c, if_neg c0, t_in_c, if_neg c1, t_in_c, if_neg c2, t_in_c, if_neg c3, t_in_c, if_pos c4]
    rw [tin]
    exact ⟨J, 1, qk_76 (v := 1) (by omega), p2, F, by omega, fun k hk => by cases hk; rfl⟩
  rw [gr_215_79, rc_215, h_ci p1, h_if, if_pos rfl]
  have F2 := fxM_trans F1 p3
  clear p1 p3
  obtain hh2 := st_take (L := L) (ρ := ρ) (wdM_f hw F2) (q := 269) (w := [111,102,116,101,110]) (by decide +kernel) T2
  rcases hh2 with ⟨c2, J, p1, p2, p3⟩ | ⟨c2, J3, p1, T3, p3⟩
  · rw [gr_215_80, rc_215, h_ci p1, h_if, if_neg (by decide)]
    have F := fxM_trans F2 p3
    have tin : t_in b n a (wsK 15) 0 = some 2 := by
      rw [ws15]
      first
        | rw [t_in_c, if_pos c0]
        | rw [t_in_c, if_neg c0, t_in_c, if_pos c1]
        | rw [t_in_c, if_neg c0, t_in_c, if_neg c1, t_in_c, if_pos c2]
        | rw [t_in_c, if_neg c0, t_in_c, if_neg c1, t_in_c, if_neg c2, t_in_c, if_pos c3]
        | rw [t_in_c, if_neg c0, t_in_c, if_neg c1, t_in_c, if_neg c2, t_in_c, if_neg c3, t_in_c, if_pos c4]
    rw [tin]
    exact ⟨J, 2, qk_76 (v := 2) (by omega), p2, F, by omega, fun k hk => by cases hk; rfl⟩
  rw [gr_215_80, rc_215, h_ci p1, h_if, if_pos rfl]
  have F3 := fxM_trans F2 p3
  clear p1 p3
  obtain hh3 := st_take (L := L) (ρ := ρ) (wdM_f hw F3) (q := 270) (w := [116,111,116,97,108]) (by decide +kernel) T3
  rcases hh3 with ⟨c3, J, p1, p2, p3⟩ | ⟨c3, J4, p1, T4, p3⟩
  · rw [gr_215_81, rc_215, h_ci p1, h_if, if_neg (by decide)]
    have F := fxM_trans F3 p3
    have tin : t_in b n a (wsK 15) 0 = some 3 := by
      rw [ws15]
      first
        | rw [t_in_c, if_pos c0]
        | rw [t_in_c, if_neg c0, t_in_c, if_pos c1]
        | rw [t_in_c, if_neg c0, t_in_c, if_neg c1, t_in_c, if_pos c2]
        | rw [t_in_c, if_neg c0, t_in_c, if_neg c1, t_in_c, if_neg c2, t_in_c, if_pos c3]
        | rw [t_in_c, if_neg c0, t_in_c, if_neg c1, t_in_c, if_neg c2, t_in_c, if_neg c3, t_in_c, if_pos c4]
    rw [tin]
    exact ⟨J, 3, qk_76 (v := 3) (by omega), p2, F, by omega, fun k hk => by cases hk; rfl⟩
  rw [gr_215_81, rc_215, h_ci p1, h_if, if_pos rfl]
  have F4 := fxM_trans F3 p3
  clear p1 p3
  obtain hh4 := st_take (L := L) (ρ := ρ) (wdM_f hw F4) (q := 271) (w := [109,111,115,116]) (by decide +kernel) T4
  rcases hh4 with ⟨c4, J, p1, p2, p3⟩ | ⟨c4, J5, p1, T5, p3⟩
  · rw [gr_215_82, rc_215, h_ci p1, h_if, if_neg (by decide)]
    have F := fxM_trans F4 p3
    have tin : t_in b n a (wsK 15) 0 = some 4 := by
      rw [ws15]
      first
        | rw [t_in_c, if_pos c0]
        | rw [t_in_c, if_neg c0, t_in_c, if_pos c1]
        | rw [t_in_c, if_neg c0, t_in_c, if_neg c1, t_in_c, if_pos c2]
        | rw [t_in_c, if_neg c0, t_in_c, if_neg c1, t_in_c, if_neg c2, t_in_c, if_pos c3]
        | rw [t_in_c, if_neg c0, t_in_c, if_neg c1, t_in_c, if_neg c2, t_in_c, if_neg c3, t_in_c, if_pos c4]
    rw [tin]
    exact ⟨J, 4, qk_76 (v := 4) (by omega), p2, F, by omega, fun k hk => by cases hk; rfl⟩
  rw [gr_215_82, rc_215, h_ci p1, h_if, if_pos rfl]
  have F5 := fxM_trans F4 p3
  clear p1 p3
  obtain ⟨J, p1, p2, p3⟩ := tQ_asks (L := L) (ρ := ρ) (wdM_f hw F5) (q := 272) (w := [108, 101, 97, 115, 116]) (by decide +kernel) T5
  have F := fxM_trans F5 p3
  have p2 : tQ J b n (r_w b n [108, 101, 97, 115, 116] a) := p2
  have run : X12_qKind_J76 215 5 (hp J5 L ρ) = some (some (.int (nI 5)), hp J L ρ) := by
    unfold X12_qKind_J76
    rw [h_if, if_pos rfl, gr_215_83, rc_215, h_cv p1]; rfl
  rw [run]
  by_cases c5 : isW b n a [108, 101, 97, 115, 116] = true
  · have tin : t_in b n a (wsK 15) 0 = some 5 := by rw [ws15, t_in_c, if_neg c0, t_in_c, if_neg c1, t_in_c, if_neg c2, t_in_c, if_neg c3, t_in_c, if_neg c4, t_in_c, if_pos c5]
    have er : r_w b n [108, 101, 97, 115, 116] a = .inr (sk b n (a + wl b n a)) := by
      unfold r_w
      rw [if_pos c5, (isW_le c5 ha.1).2.2]
    rw [er] at p2
    rw [tin]
    exact ⟨J, 5, rfl, p2, F, by omega, fun k hk => by cases hk; rfl⟩
  · have tin : t_in b n a (wsK 15) 0 = none := by
      rw [ws15, t_in_c, if_neg c0, t_in_c, if_neg c1, t_in_c, if_neg c2, t_in_c, if_neg c3, t_in_c, if_neg c4, t_in_c, if_neg c5]; rfl
    have er : r_w b n [108, 101, 97, 115, 116] a = .inl (1, a) := by
      unfold r_w
      rw [if_neg c5]
    rw [er] at p2
    rw [tin]
    exact ⟨J, 5, rfl, p2, F, by omega, fun k hk => by cases hk⟩
end B8w
