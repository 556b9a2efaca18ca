/-! both objects, as their constructors leave them -/
section Bb3
def z32 : Nat → Nat → Int32 := fun _ _ => 0
def z64 : Nat → Nat → Int64 := fun _ _ => 0
def S00 : nT := (fun _ => 0, (fun _ => 0, 0), (fun _ => 0, fun _ => 0, fun _ => 0), fun _ => false, (fun _ => 0, fun _ => 0), (3, 0), fun _ => none)
def C00 : cT := ((0, 0), (3, 0, false), fun _ => 0, fun _ => 0, fun _ => 0, fun _ => false, fun w => (n_cd (n_dn S00) w).getD [])
def A00 : aT := mkA (fun _ => 0) 0 C00 (fun _ => 0) 0 (n_s S00) [] [] [] (fun _ => 0) 0 (fun _ => 0) (0, -1) 1
theorem iB_row {α : Type} {f : Nat → Nat → α} {a : Nat} : ∀ (ws : List (Nat × Nat × α)), ws.all (fun w => decide (w.1 ≠ a)) = true → iB f ws a = f a
  | [], _ => rfl
  | w :: ws, h => by
    have h : (decide (w.1 ≠ a) && ws.all (fun w => decide (w.1 ≠ a))) = true := h
    rw [Bool.and_eq_true] at h
    have h1 : w.1 ≠ a := of_decide_eq_true h.1
    show u2 (iB f ws) w.1 w.2.1 w.2.2 a = f a
    rw [u2r (fun e => h1 e.symm)]
    exact iB_row ws h.2
theorem iB_base {α : Type} {f g : Nat → Nat → α} {a j : Nat} (h : f a j = g a j) : ∀ (ws : List (Nat × Nat × α)), iB f ws a j = iB g ws a j
  | [] => h
  | w :: ws => by
    show u2 (iB f ws) w.1 w.2.1 w.2.2 a j = u2 (iB g ws) w.1 w.2.1 w.2.2 a j
    rw [u2_ap, u2_ap, iB_base h ws]
theorem okN_00 : okN S00 := by
  refine ⟨⟨Nat.zero_le _, Nat.zero_le _⟩, fun a ha => ?_, fun a c ha => ?_, fun j hj => ⟨Nat.zero_le _, Nat.zero_le _, Nat.zero_le _⟩, fun x y _ _ _ => rfl, fun j hj => ⟨Nat.zero_le _, Nat.zero_le _⟩, ⟨by decide, by decide⟩, Nat.zero_le _, fun w hw l h => (by cases h)⟩
  · have ha : a < 0 ∨ (6 ≤ a ∧ a < 6 + 0) := ha
    omega
  · have ha : a < 0 ∨ (6 ≤ a ∧ a < 6 + 0) := ha
    omega
theorem okA_00 : okA A00 := by
  have h1 := okC_n okN_00
  have h2 := okT_n okN_00
  have hc : okC C00 := h1
  have ht : okT C00 (n_s S00) := h2
  refine ⟨hc, ⟨Nat.zero_le _, fun j hj => absurd hj (Nat.not_lt_zero j)⟩, ht, ⟨Nat.zero_le _, fun q hq => by cases hq⟩, ⟨Nat.zero_le _, fun q hq => by cases hq⟩, ⟨Nat.zero_le _, fun q hq => by cases hq⟩, Nat.zero_le _, ⟨by decide, by decide⟩, fun a ha => ?_, Nat.zero_le _⟩
  have ha : a < 0 ∨ (6 ≤ a ∧ a < 6 + 0) := ha
  omega
theorem rB_102 : ∀ a, a < 215 → rB wR_102 a = zRf ρ0 a := rB_eq (by decide +kernel) (by decide +kernel)
theorem rB_105 : rB wR_105 = zRf ρ0 := by
  funext a
  by_cases h : a < 297
  · exact rB_eq (N := 297) (by decide +kernel) (by decide +kernel) a h
  · funext k
    rw [rB_c (n := 297) wR_105 (by decide +kernel) a (by omega) k]
    show none = ((zRl ρ0).getD a []).getD k none
    have hl : (zRl ρ0).length ≤ 297 := by decide +kernel
    rw [List.getD_eq_getElem?_getD (l := zRl ρ0), List.getElem?_eq_none (show (zRl ρ0).length ≤ a by omega)]
    rfl
theorem row0 {a : Nat} (h : wI_101.all (fun w => decide (w.1 ≠ a)) = true) (ha : a ≠ 0) {v : Int32} (j : Nat) : u2 (iB z32 wI_101) 0 18 v a j = 0 := by
  rw [u2r ha, iB_row wI_101 h]; rfl
/-- the class's constructor -/
theorem start_X : ∃ (I2 : Nat → Nat → Int32) (L2 : Nat → Nat → Int64), X11_init 0 (hq 1 z32 z64 (rB [])) = some (none, hq 215 I2 L2 (rB wR_102)) ∧ clF 215 I2 ∧ clF 215 L2 ∧ L2 0 19 = 1 ∧ chX 13 I2 C00 ∧ stX 41 I2 (n_s S00) ∧ (I2 13 6 = 0 ∧ (∀ j, I2 30 j = 0 ∧ I2 31 j = 0 ∧ I2 32 j = 0) ∧ (I2 68 5 = 0 ∧ I2 68 0 = 0 ∧ I2 68 1 = 0) ∧ (∀ j, I2 214 j = 0) ∧ (I2 0 1 = 0 ∧ I2 0 13 = 0 ∧ I2 0 15 = 0 ∧ I2 0 17 = 0 ∧ I2 0 18 = -1)) := by
  obtain ⟨I, hI⟩ : ∃ I, I = u2 (iB z32 wI_101) 0 18 (-1) := ⟨_, rfl⟩
  obtain ⟨L, hL⟩ : ∃ L, L = u2 z64 0 19 1 := ⟨_, rfl⟩
  have cz : clF 0 z32 := fun _ _ _ => rfl
  have cz' : clF 0 z64 := fun _ _ _ => rfl
  have c1 : clF 215 I := by
    rw [hI]
    intro a ha j
    rw [u2r (by omega)]
    exact iB_c (n := 215) (f := z32) (fun _ _ _ => rfl) wI_101 (by decide +kernel) a ha j
  have c2 : clF 215 L := by
    rw [hL]
    intro a ha j
    rw [u2r (by omega)]; rfl
  have r0 : ∀ a, a ≠ 0 → wI_101.all (fun w => decide (w.1 ≠ a)) = true → ∀ j, I a j = 0 := fun a ha h j => by rw [hI]; exact row0 h ha j
  have rv : ∀ a j, a ≠ 0 → I a j = iB z32 wI_101 a j := fun a j h => by rw [hI, u2r h]
  have v0 : ∀ j, j ≠ 18 → I 0 j = iB z32 wI_101 0 j := fun j h => by rw [hI, u2_ap, if_neg (by omega)]
  have hK : kX 13 I S00 := by
    refine ⟨fun s hs => ?_, fun d hd => ?_, fun j hj => ⟨?_, ?_, ?_⟩, fun j hj => ⟨?_, ?_, ?_⟩, ?_, ?_, ?_⟩
    · exact r0 14 (by omega) (by decide +kernel) s
    · have hd : d < 0 ∨ (6 ≤ d ∧ d < 6 + 0) := hd
      omega
    · exact r0 16 (by omega) (by decide +kernel) j
    · exact r0 17 (by omega) (by decide +kernel) j
    · exact r0 18 (by omega) (by decide +kernel) j
    · exact r0 19 (by omega) (by decide +kernel) j
    · exact r0 20 (by omega) (by decide +kernel) j
    · exact r0 21 (by omega) (by decide +kernel) j
    · rw [rv 13 6 (by omega)]; decide +kernel
    · rw [rv 13 9 (by omega)]; decide +kernel
    · rw [rv 13 10 (by omega)]; decide +kernel
  have hC : kC 13 I S00 0 := by
    refine ⟨?_, fun w hw => ?_⟩
    · show I 22 1 = nI 0
      rw [rv 22 1 (by omega)]; decide +kernel
    · show I 24 w = -1
      rw [rv 24 w (by omega)]
      have : ∀ w, w < 3 → iB z32 wI_101 24 w = -1 := by decide +kernel
      exact this w hw
  obtain ⟨I1, u, e1, e2, e3, e4⟩ := X1_complete_s (L := L) (ρ := ρ0) (Or.inl rfl) hC (Nat.zero_le _)
  have k1 := (Tl_complete I L (rB wR_102) rB_102 none _ e1).1
  have f1 : ∀ x, x < 22 ∨ 25 < x → I1 x = I x := fun x hx => e2 x (by omega)
  have hK1 : kX 13 I1 S00 := kX_fr (fun x q1 q2 => f1 x (by omega)) hK
  obtain ⟨I2, b1, b2, b3⟩ := X8_begin_h (L := L) (ρ := ρ0) (Or.inl rfl) hK1
  have k2 := (Tl_begin8 I1 L (rB wR_102) rB_102 none _ b1).1
  have f2 : ∀ x, (x < 22 ∨ 25 < x) → (x < 41 ∨ 47 < x) → I2 x = I x := fun x h1 h2 => by rw [b3 x h2, f1 x h1]
  have hK2 : kX 13 I2 S00 := kX_fr (fun x q1 q2 => b3 x (by omega)) hK1
  have hC2 : kC 13 I2 (n_dn S00) u := kC_fr (fun x q1 q2 => b3 x (by omega)) e3
  refine ⟨I2, L, ?_, fun a ha j => by rw [f2 a (by omega) (by omega)]; exact c1 a ha j, c2, by rw [hL]; rfl, chX_n hK2 hC2 (by omega), b2, hK2.2.2.2.2.1, fun j => ⟨?_, ?_, ?_⟩, ⟨?_, ?_, ?_⟩, fun j => ?_, ?_, ?_, ?_, ?_, ?_⟩
  · have e := ct_X11 cz cz'
    have e : X11_init 0 (hq 1 z32 z64 (rB [])) = X11_init_J195 0 (hq 215 (iB z32 wI_101) z64 (rB wR_102)) := e
    have g5 : rB wR_102 0 5 = some 13 := by decide +kernel
    have g7 : rB wR_102 0 7 = some 41 := by decide +kernel
    rw [e]
    unfold X11_init_J195
    rw [q_pi (N := 215) (a := 0) (c := 11) (by decide) rfl, ← hI, q_pl (N := 215) (a := 0) (c := 11) (by decide) rfl, ← hL, q_gr (N := 215) (a := 0) (c := 11) (by decide) rfl g5, q_rc (N := 215) (a := 13) (c := 1) (by decide) rfl, h_cv k1, q_gr (N := 215) (a := 0) (c := 11) (by decide) rfl g7, q_gr (N := 215) (a := 0) (c := 11) (by decide) rfl g5, q_rc (N := 215) (a := 41) (c := 8) (by decide) rfl, h_cv k2]; rfl
  · rw [f2 30 (by omega) (by omega)]; exact r0 30 (by omega) (by decide +kernel) j
  · rw [f2 31 (by omega) (by omega)]; exact r0 31 (by omega) (by decide +kernel) j
  · rw [f2 32 (by omega) (by omega)]; exact r0 32 (by omega) (by decide +kernel) j
  · rw [f2 68 (by omega) (by omega), rv 68 5 (by omega)]; decide +kernel
  · rw [f2 68 (by omega) (by omega), rv 68 0 (by omega)]; decide +kernel
  · rw [f2 68 (by omega) (by omega), rv 68 1 (by omega)]; decide +kernel
  · rw [f2 214 (by omega) (by omega)]; exact r0 214 (by omega) (by decide +kernel) j
  · rw [f2 0 (by omega) (by omega), v0 1 (by omega)]; decide +kernel
  · rw [f2 0 (by omega) (by omega), v0 13 (by omega)]; decide +kernel
  · rw [f2 0 (by omega) (by omega), v0 15 (by omega)]; decide +kernel
  · rw [f2 0 (by omega) (by omega), v0 17 (by omega)]; decide +kernel
  · rw [f2 0 (by omega) (by omega), hI, u2_ap, if_pos ⟨rfl, rfl⟩]
/-- both constructors -/
theorem start_XM : ∃ (I2 : Nat → Nat → Int32) (L2 : Nat → Nat → Int64) (I3 : Nat → Nat → Int32) (L3 : Nat → Nat → Int64), X11_init 0 (hq 1 z32 z64 (rB [])) = some (none, hq 215 I2 L2 (rB wR_102)) ∧ clF 215 I2 ∧ clF 215 L2 ∧ X12_init 215 (hq 216 I2 L2 (rB wR_102)) = some (none, hp I3 L3 ρ0) ∧ RelX I3 L3 ρ0 A00 0 ∧ RelM I3 L3 A00 := by
  obtain ⟨I2, L2, a1, a2, a3, a4, a5, a6, a7, a8, a9, a10, a11, a12, a13, a14, a15⟩ := start_X
  have e := ct_X12 a2 a3
  have e : X12_init 215 (hq 216 I2 L2 (rB wR_102)) = some (none, hq 297 (iB I2 wI_103) (iB L2 wL_104) (rB wR_105)) := e
  rw [rB_105] at e
  obtain ⟨I3, hI3⟩ : ∃ I3, I3 = iB I2 wI_103 := ⟨_, rfl⟩
  obtain ⟨L3, hL3⟩ : ∃ L3, L3 = iB L2 wL_104 := ⟨_, rfl⟩
  rw [← hI3, ← hL3] at e
  have all215 : wI_103.all (fun w => decide (215 ≤ w.1)) = true := by decide +kernel
  have lo : ∀ a, a < 215 → I3 a = I2 a := fun a ha => by
    rw [hI3]
    refine iB_row wI_103 ?_
    rw [List.all_eq_true] at all215 ⊢
    intro w hw
    have := of_decide_eq_true (all215 w hw)
    exact decide_eq_true (by omega)
  have hi : ∀ a j, 215 ≤ a → I3 a j = iB z32 wI_103 a j := fun a j ha => by
    rw [hI3]
    exact iB_base (a2 a ha j) wI_103
  have hz : ∀ a, 215 ≤ a → wI_103.all (fun w => decide (w.1 ≠ a)) = true → ∀ j, I3 a j = 0 := fun a ha h j => by
    rw [hi a j ha, iB_row wI_103 h]; rfl
  have no : ∀ a, ¬ k_th C00 a := fun a ha => by
    have ha : a < 0 ∨ (6 ≤ a ∧ a < 6 + 0) := ha
    omega
  refine ⟨I2, L2, I3, L3, a1, a2, a3, e, ⟨Or.inl ⟨⟨rfl, rfl, rfl⟩, chX_fr (fun x q1 q2 => lo x (by omega)) a5, ⟨?_, fun a k ha => absurd ha (no a)⟩, fun j hj => ⟨0, 0, 0, ⟨by omega, by omega, by omega⟩, ?_, ?_, ?_⟩⟩, ⟨?_, fun j hj => absurd hj (Nat.not_lt_zero j)⟩, stX_fr (fun x q1 q2 => lo x (by omega)) a6, ?_, ⟨?_, fun i q hq => by cases hq⟩, ⟨?_, fun j hj => absurd hj (Nat.not_lt_zero j)⟩, fun j hj => ?_, ⟨?_, ?_⟩, ?_⟩, ?_⟩
  · rw [lo 13 (by omega)]; exact a7
  · rw [lo 30 (by omega)]; exact (a8 j).1
  · rw [lo 31 (by omega)]; exact (a8 j).2.1
  · rw [lo 32 (by omega)]; exact (a8 j).2.2
  · rw [lo 0 (by omega)]; exact a11
  · refine ⟨0, 0, fun _ => (0, 0, 0, 0), fun _ => 0, ⟨?_, ?_, ?_, by omega⟩, fun i hi => absurd hi (Nat.not_lt_zero i), ⟨Nat.le_refl 0, Nat.zero_le _, Nat.zero_le _⟩, ⟨rfl, fun i hi => absurd hi (Nat.not_lt_zero i)⟩, fun i q hq => (by cases hq), fun i j _ _ => ⟨Nat.le_refl 0, fun _ => Nat.zero_le _, fun _ => Nat.zero_le _⟩⟩
    · rw [lo 68 (by omega)]; exact a9.1
    · rw [lo 68 (by omega)]; exact a9.2.1
    · rw [lo 68 (by omega)]; exact a9.2.2
  · rw [lo 0 (by omega)]; exact a12
  · rw [lo 0 (by omega)]; exact a13
  · rw [lo 214 (by omega)]; exact a10 j
  · rw [lo 0 (by omega)]; exact a14
  · rw [lo 0 (by omega)]; exact a15
  · rw [hL3, iB_row wL_104 (by decide +kernel), a4]; rfl
  · refine ⟨⟨⟨?_, ?_⟩, Or.inr ⟨?_, rfl, rfl, rfl, rfl⟩, ?_, fun a ha => absurd ha (no a), fun j hj => ?_, fun w hw => Or.inl ⟨?_, ?_⟩⟩, ⟨?_, fun a ha => absurd ha (no a)⟩, ⟨?_, fun j hj => absurd hj (Nat.not_lt_zero j)⟩, ⟨⟨⟨⟨?_, ?_⟩, fun side k hs hk => ?_, fun a ha => absurd ha (no a)⟩, fun q => by cases q⟩, ?_, Nat.zero_le _, fun i q hq => by cases hq⟩, ⟨?_, ?_⟩, ⟨?_, 0, by omega, ?_, fun i q hq => by cases hq⟩, ⟨?_, fun i q hq => by cases hq⟩, ⟨?_, fun j hj => absurd hj (Nat.not_lt_zero j)⟩, fun j hj => ?_, ⟨?_, ?_⟩, ?_, fun q hq i hi2 => ?_⟩
    · exact hz 246 (by omega) (by decide +kernel) 6
    · exact hz 246 (by omega) (by decide +kernel) 7
    · rw [hi 215 53 (by omega)]; decide +kernel
    · exact hz 246 (by omega) (by decide +kernel) 10
    · exact hz 249 (by omega) (by decide +kernel) (36 + j)
    · rw [hi 252 (3 + w) (by omega)]
      have : ∀ w, w < 3 → iB z32 wI_103 252 (3 + w) = -1 := by decide +kernel
      exact this w hw
    · have : k_code C00 w = (n_cd S00 w).getD (p_dflt w) := n_C_code (S := S00) hw
      exact this
    · exact hz 246 (by omega) (by decide +kernel) 8
    · rw [hi 215 1 (by omega)]; decide +kernel
    · exact hz 255 (by omega) (by decide +kernel) 0
    · exact hz 255 (by omega) (by decide +kernel) 1
    · have hk : k < (if side = 0 then 0 else 0) := hk
      split at hk <;> omega
    · exact hz 255 (by omega) (by decide +kernel) 182
    · rw [hi 215 54 (by omega)]; decide +kernel
    · rw [hi 215 64 (by omega)]; decide +kernel
    · rw [hi 215 75 (by omega)]; decide +kernel
    · rw [hi 215 76 (by omega)]; decide +kernel
    · rw [hi 215 71 (by omega)]; decide +kernel
    · rw [hi 215 115 (by omega)]; decide +kernel
    · exact hz 217 (by omega) (by decide +kernel) j
    · rw [hi 215 7 (by omega)]; decide +kernel
    · rw [hi 215 8 (by omega)]; decide +kernel
    · rw [hL3]; rfl
    · have hw : ∀ q ∈ wdL, ∀ i, i < q.2.length → iB z32 wI_103 q.1 i = nI (q.2.getD i 0) := by decide +kernel
      have := wdL_at q hq
      rw [hi q.1 i (by omega)]
      exact hw q hq i hi2
end Bb3
