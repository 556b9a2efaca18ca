/-! what comes, thought ahead: later, pairs, when -/
section B51
variable {I I0 : Nat → Nat → Int32} {L L0 : Nat → Nat → Int64} {ρ : zRh} {h : zH} {A : aT} {N : Nat} {C : cT} {s : sT} {tr : Option Nat}
theorem XT_go (hok : okA A) (hX : RelX I L ρ A N) (hS : okS (a_C A) s) (hs : stX 54 I s) (ht : ∀ b, tr = some b → b < 12) : ∃ I', X10_go 48 54 (oI tr) (hp I L ρ) = some (some (.int (nI (p_fresh (a_C A) s tr 6).length)), hp I' L ρ) ∧ (∀ x, lastX x ∨ 215 ≤ x → I' x = I x) ∧ stX 54 I' (p_go (a_C A) s tr) ∧ RelX I' L ρ A N := by
  have hC := cu_ch hX
  have hw := cu_w hX
  rcases cu_ρ hX with e | e
  · rw [e] at hC hw
    obtain ⟨I', q1, q2, q3, -⟩ := X10_go_13_54 (L := L) (ρ := ρ) hok.1 hS ht hw hC hs
    have hf : ∀ x, lastX x ∨ 215 ≤ x → I' x = I x := fun x h1 => q2 x (by unfold goF_13_54; unfold lastX at h1; omega)
    exact ⟨I', q1, hf, q3, RelX_fr (fun a ha => hf a (Or.inl ha)) rfl (Nat.le_refl _) hX⟩
  · rw [e] at hC hw
    obtain ⟨I', q1, q2, q3, -⟩ := X10_go_27_54 (L := L) (ρ := ρ) hok.1 hS ht hw hC hs
    have hf : ∀ x, lastX x ∨ 215 ≤ x → I' x = I x := fun x h1 => q2 x (by unfold goF_27_54; unfold lastX at h1; omega)
    exact ⟨I', q1, hf, q3, RelX_fr (fun a ha => hf a (Or.inl ha)) rfl (Nat.le_refl _) hX⟩
theorem X0_goOn_lp (hok : okA A) {n : Nat} (hS : okS (a_C A) s) (hn : s_sp s + n ≤ 2000) : ∀ (m k fuel : Nat) (I : Nat → Nat → Int32), k + m = n → m < fuel → RelX I L ρ A N → stX 54 I (p_gos (a_C A) k s) → ∃ I', z_fix (fun r x => X0_goOn_B2 53 (nI n) r x) fuel (nI k) (hp I L ρ) = some (none, hp I' L ρ) ∧ (∀ x, lastX x ∨ 215 ≤ x → I' x = I x) ∧ stX 54 I' (p_gos (a_C A) n s) ∧ RelX I' L ρ A N := by
  intro m
  induction m with
  | zero =>
    intro k fuel I h1 h2 h3 h4
    obtain ⟨f, rfl⟩ : ∃ f, fuel = f + 1 := ⟨fuel - 1, by omega⟩
    obtain rfl : k = n := by omega
    refine ⟨I, ?_, fun _ _ => rfl, h4, h3⟩
    rw [h_fix]
    show X0_goOn_B2 53 (nI k) _ (nI k) (hp I L ρ) = _
    unfold X0_goOn_B2
    rw [h_if, if_pos (nI_le (Nat.le_refl _) (by omega))]; rfl
  | succ m ih =>
    intro k fuel I h1 h2 h3 h4
    obtain ⟨f, rfl⟩ : ∃ f, fuel = f + 1 := ⟨fuel - 1, by omega⟩
    rw [h_fix]
    generalize hg : z_fix (fun r x => X0_goOn_B2 53 (nI n) r x) f = rec
    have hk := (p_gos_ok hok.1 k hS (by omega)).1
    obtain ⟨I1, e1, e2, e3, e4⟩ := XT_go (tr := none) hok h3 hk h4 (by simp)
    obtain ⟨I', r1, r2, r3, r4⟩ := ih (k + 1) f I1 (by omega) (by omega) e4 (by rw [p_gos_succ]; exact e3)
    refine ⟨I', ?_, fun x hx => by rw [r2 x hx, e2 x hx], r3, r4⟩
    show X0_goOn_B2 53 (nI n) rec (nI k) (hp I L ρ) = _
    unfold X0_goOn_B2
    rw [h_if, if_neg (nI_ge (by omega) (by omega)), gr_53_2, gr_53_0, rc_48, h_ci (show X10_go 48 54 (-1) _ = _ from e1), nI_1, ← hg]
    exact r1
theorem isSt_54 : isSt 54 := Or.inr (Or.inl rfl)
theorem XT_take (hok : okA A) (hX : RelX I L ρ A N) : ∃ I', X8_take 54 41 (hp I L ρ) = some (none, hp I' L ρ) ∧ (∀ x, lastX x ∨ 215 ≤ x → I' x = I x) ∧ stX 54 I' (a_s A) ∧ RelX I' L ρ A N := by
  obtain ⟨I1, e1, e2, e3⟩ := X8_take_h (I := I) (L := L) (ρ := ρ) (b := 54) (c := 41) isSt_54 (Or.inl rfl) (by omega)
  have hf : ∀ x, lastX x ∨ 215 ≤ x → I1 x = I x := fun x h1 => e2 x (by unfold lastX at h1; omega)
  exact ⟨I1, e1, hf, e3 hX.2.2.1, RelX_fr (fun a ha => hf a (Or.inl ha)) rfl (Nat.le_refl _) hX⟩
theorem X0_behind_h (hok : okA A) (hX : RelX I L ρ A N) {n : Nat} (hn : n ≤ 1000) : ∃ I', X0_behind 53 41 (nI n) (hp I L ρ) = some (some (.ref 54), hp I' L ρ) ∧ (∀ x, lastX x ∨ 215 ≤ x → I' x = I x) ∧ stX 54 I' (p_gos (a_C A) n (a_s A)) ∧ RelX I' L ρ A N := by
  have h999 := hok.2.2.1.2.1
  obtain ⟨I1, e1, e2, e3, e4⟩ := XT_take hok hX
  obtain ⟨I', r1, r2, r3, r4⟩ := X0_goOn_lp (L := L) (ρ := ρ) hok (n := n) hok.2.2.1.1 (by omega) n 0 zFU I1 (by omega) (by unfold zFU; omega) e4 e3
  refine ⟨I', ?_, fun x hx => by rw [r2 x hx, e2 x hx], r3, r4⟩
  unfold X0_behind
  rw [gr_53_0, rc_54, h_cv e1, rc_53, h_cv (show X0_goOn 53 (nI n) _ = _ from r1), gr_53_0]
  rfl
/-! the reference, thinking -/
def thF (I I0 : Nat → Nat → Int32) (L L0 : Nat → Nat → Int64) : Prop := (∀ a, lastM a ∨ a < 215 → a ≠ 255 → I a = I0 a) ∧ (∀ k, fieldM k → k ≠ 54 → k ≠ 64 → I 215 k = I0 215 k) ∧ ∀ a, a = 215 ∨ a = 247 ∨ a < 215 → L a = L0 a
def thM (I I0 : Nat → Nat → Int32) (L L0 : Nat → Nat → Int64) (A : aT) (s : sT) : Prop := RelM I0 L0 A ∧ thF I I0 L L0 ∧ I 215 64 = 1 ∧ (stM I (a_C A) s ∧ tdM (I 255) (a_C A)) ∧ (stN (I 258) (a_C A) (a_s A) ∧ tdM (I 258) (a_C A)) ∧ kpM (I 255) (a_C A) (a_K A)
theorem thM_ch (h : thM I I0 L L0 A s) : chM I (a_C A) := chM_fr (fun a ha => h.2.1.1 a (by unfold lastM; omega) (by omega)) (h.2.1.2.1 53 (by unfold fieldM; omega) (by omega) (by omega)) h.1.1
theorem td_eq {f g : Nat → Int32} (h : ∀ j, j < 182 → g j = f j) (ht : tdM f C) : tdM g C := fun h1 a ha hn => by rw [h _ (by omega)]; exact ht h1 a ha hn
theorem X12_puts_lp : ∀ (m k fuel : Nat) (I : Nat → Nat → Int32), k + m = 182 → m < fuel → ∃ I', z_fix (fun r x => X12_putsAside_B7 215 r x) fuel (nI k) (hp I L ρ) = some (none, hp I' L ρ) ∧ (∀ x, x ≠ 258 → I' x = I x) ∧ (∀ j, j < k → I' 258 j = I 258 j) ∧ ∀ j, k ≤ j → j < 182 → I' 258 j = I 255 j := by
  intro m
  induction m with
  | zero =>
    intro k fuel I h1 h2
    obtain ⟨f, rfl⟩ : ∃ f, fuel = f + 1 := ⟨fuel - 1, by omega⟩
    obtain rfl : k = 182 := by omega
    refine ⟨I, ?_, fun _ _ => rfl, fun _ _ => rfl, fun j _ _ => by omega⟩
    rw [h_fix]
    show X12_putsAside_B7 215 _ (nI 182) (hp I L ρ) = _
    unfold X12_putsAside_B7
    rw [h_if, if_pos (by decide)]; rfl
  | succ m ih =>
    intro k fuel I h1 h2
    obtain ⟨f, rfl⟩ : ∃ f, fuel = f + 1 := ⟨fuel - 1, by omega⟩
    rw [h_fix]
    generalize hg : z_fix (fun r x => X12_putsAside_B7 215 r x) f = rec
    obtain ⟨I', q1, q2, q3, q4⟩ := ih (k + 1) f (u2 I 258 k (I 255 k)) (by omega) (by omega)
    refine ⟨I', ?_, fun x hx => by rw [q2 x hx, u2r hx], fun j hj => by rw [q3 j (by omega), u2_ap, if_neg (by omega)], fun j hj hj2 => ?_⟩
    · show X12_putsAside_B7 215 rec (nI k) (hp I L ρ) = _
      unfold X12_putsAside_B7
      rw [h_if, if_neg (show ¬ (182 : Int32) ≤ nI k from nI_ge (b := 182) (by omega) (by omega)), gr_215_65, gr_215_52, la_255 (by omega), sa_258 (by omega), nI_1, ← hg]
      exact q1
    · by_cases c : j = k
      · rw [c, q3 _ (by omega), u2_ap, if_pos ⟨rfl, rfl⟩]
      · rw [q4 j (by omega) hj2, u2r (show (255 : Nat) ≠ 258 by decide)]
theorem X12_anew_lp : ∀ (m k fuel : Nat) (I : Nat → Nat → Int32), k + m = 182 → m < fuel → ∃ I', z_fix (fun r x => X12_triesAnew_B2 215 r x) fuel (nI k) (hp I L ρ) = some (none, hp I' L ρ) ∧ (∀ x, x ≠ 255 → I' x = I x) ∧ (∀ j, (j < k ∨ 182 ≤ j) → I' 255 j = I 255 j) ∧ ∀ j, k ≤ j → j < 182 → I' 255 j = I 258 j := by
  intro m
  induction m with
  | zero =>
    intro k fuel I h1 h2
    obtain ⟨f, rfl⟩ : ∃ f, fuel = f + 1 := ⟨fuel - 1, by omega⟩
    obtain rfl : k = 182 := by omega
    refine ⟨I, ?_, fun _ _ => rfl, fun _ _ => rfl, fun j _ _ => by omega⟩
    rw [h_fix]
    show X12_triesAnew_B2 215 _ (nI 182) (hp I L ρ) = _
    unfold X12_triesAnew_B2
    rw [h_if, if_pos (by decide)]; rfl
  | succ m ih =>
    intro k fuel I h1 h2
    obtain ⟨f, rfl⟩ : ∃ f, fuel = f + 1 := ⟨fuel - 1, by omega⟩
    rw [h_fix]
    generalize hg : z_fix (fun r x => X12_triesAnew_B2 215 r x) f = rec
    obtain ⟨I', q1, q2, q3, q4⟩ := ih (k + 1) f (u2 I 255 k (I 258 k)) (by omega) (by omega)
    refine ⟨I', ?_, fun x hx => by rw [q2 x hx, u2r hx], fun j hj => by rw [q3 j (by omega), u2_ap, if_neg (by omega)], fun j hj hj2 => ?_⟩
    · show X12_triesAnew_B2 215 rec (nI k) (hp I L ρ) = _
      unfold X12_triesAnew_B2
      rw [h_if, if_neg (show ¬ (182 : Int32) ≤ nI k from nI_ge (b := 182) (by omega) (by omega)), gr_215_52, gr_215_65, la_258 (by omega), sa_255 (by omega), nI_1, ← hg]
      exact q1
    · by_cases c : j = k
      · rw [c, q3 _ (by omega), u2_ap, if_pos ⟨rfl, rfl⟩]
      · rw [q4 j (by omega) hj2, u2r (show (258 : Nat) ≠ 255 by decide)]
theorem MT_puts (hok : okA A) (hM : RelM I L A) : ∃ I', X12_putsAside 215 (hp I L ρ) = some (none, hp I' L ρ) ∧ thM I' I L L A (a_s A) ∧ I' 215 54 = -1 := by
  obtain ⟨I', q1, q2, q3, q4⟩ := X12_puts_lp (L := L) (ρ := ρ) 182 0 zFU (u2 I 215 64 1) (by omega) (by unfold zFU; omega)
  have r215 : ∀ k, k ≠ 64 → I' 215 k = I 215 k := fun k hk => by rw [q2 215 (by omega), u2_ap, if_neg (by omega)]
  have r255 : I' 255 = I 255 := by rw [q2 255 (by omega), u2r (by decide)]
  have r258 : ∀ j, j < 182 → I' 258 j = I 255 j := fun j hj => by rw [q4 j (by omega) hj, u2r (by decide)]
  refine ⟨I', ?_, ⟨hM, ⟨fun a ha h1 => ?_, fun k h1 h2 h3 => r215 k h3, fun _ _ => rfl⟩, ?_, ⟨?_, ?_⟩, ⟨stN_eq hok.1 r258 hM.2.2.2.1.1.1, td_eq r258 hM.2.2.2.1.1.2⟩, ?_⟩, by rw [r215 54 (by omega)]; exact hM.2.2.2.2.1.1⟩
  · unfold X12_putsAside
    rw [pb1_215]
    exact q1
  · rw [q2 a (by unfold lastM at ha; omega), u2r (by unfold lastM at ha; omega)]
  · rw [q2 215 (by omega), u2_ap, if_pos ⟨rfl, rfl⟩]
  · exact stM_fr r255 (r215 54 (by omega)) (r215 55 (by omega)) (by rw [q2 248 (by omega), u2r (by decide)]) (RelM_st hok hM)
  · rw [r255]; exact hM.2.2.2.1.1.2
  · rw [r255]; exact hM.2.2.2.1.2
theorem MT_go (hok : okA A) (hS : okS (a_C A) s) (ht : ∀ b, tr = some b → b < 12) (hT : thM I I0 L L0 A s) : ∃ I' L', X12_roundGoes 215 (oI tr) (hp I L ρ) = some (none, hp I' L' ρ) ∧ thM I' I0 L' L0 A (p_go (a_C A) s tr) ∧ I' 215 54 = I 215 54 ∧ I' 215 55 = I 215 55 := by
  obtain ⟨n0, hn0⟩ := Int32_any (I 215 63)
  obtain ⟨I', L', e1, e2, e3, e4, e5, e6⟩ := X12_round_h (L := L) (ρ := ρ) hok.1 hS ht (thM_ch hT) hT.2.2.2.1.1 (th := true) hT.2.2.1 hn0 (K := []) (by simp)
  have e5' : ∀ j, 182 ≤ j → I' 255 j = I 255 j := e5
  have f215 : ∀ k, (fieldM k ∨ k = 54 ∨ k = 55 ∨ k = 64) → I' 215 k = I 215 k := fun k hk => by
    unfold fieldM at hk
    exact e2.2.1 k (by omega) (by omega) (by omega) (by omega) (by omega) (by omega) (by omega) (by omega)
  have r258 : I' 258 = I 258 := e2.1 258 (by omega) (by omega) (by omega) (by omega) (by omega) (by omega)
  refine ⟨I', L', e1, ⟨hT.1, ⟨fun a ha h1 => ?_, fun k h1 h2 h3 => ?_, fun a ha => ?_⟩, ?_, ⟨e3, fun h1 a ha hn => ?_⟩, ?_, kpM_eq (fun j h1 h2 => e5' j h1) hT.2.2.2.2.2⟩, f215 54 (by omega), f215 55 (by omega)⟩
  · rw [goM_last e2 ha h1]; exact hT.2.1.1 a ha h1
  · rw [f215 k (Or.inl h1)]; exact hT.2.1.2.1 k h1 h2 h3
  · rw [e2.2.2 a (by omega)]; exact hT.2.1.2.2 a ha
  · rw [f215 64 (by omega)]; exact hT.2.2.1
  · rw [e6 a ha hn]; exact hT.2.2.2.1.2 h1 a ha hn
  · rw [r258]; exact hT.2.2.2.2.1
theorem MT_anew (hok : okA A) (hT : thM I I0 L L0 A s) {s' : sT} (hz : szM I (a_C A) s') (hs : ∀ f, stN f (a_C A) (a_s A) → stN f (a_C A) s') : ∃ I', X12_triesAnew 215 (hp I L ρ) = some (none, hp I' L ρ) ∧ thM I' I0 L L0 A s' ∧ I' 215 = I 215 := by
  obtain ⟨I', q1, q2, q3, q4⟩ := X12_anew_lp (L := L) (ρ := ρ) 182 0 zFU I (by omega) (by unfold zFU; omega)
  have r215 : I' 215 = I 215 := q2 215 (by omega)
  have r258 : I' 258 = I 258 := q2 258 (by omega)
  have r248 : I' 248 = I 248 := q2 248 (by omega)
  have hr : ∀ j, j < 182 → I' 255 j = I 258 j := fun j hj => q4 j (by omega) hj
  refine ⟨I', q1, ⟨hT.1, ⟨fun a ha h1 => by rw [q2 a h1]; exact hT.2.1.1 a ha h1, fun k h1 h2 h3 => by rw [r215]; exact hT.2.1.2.1 k h1 h2 h3, hT.2.1.2.2⟩, by rw [r215]; exact hT.2.2.1, ⟨stM_of (stN_eq hok.1 hr (hs _ hT.2.2.2.2.1.1)) (fun a ha => by rw [r215, r248]; exact hz a ha), td_eq hr hT.2.2.2.2.1.2⟩, by rw [r258]; exact hT.2.2.2.2.1, kpM_eq (fun j h1 h2 => q3 j (by omega)) hT.2.2.2.2.2⟩, r215⟩
/-- the thinking ends -/
theorem MT_back (hok : okA A) (hT : thM I I0 L L0 A s) : ∃ I', X12_takesBack 215 (hp I L ρ) = some (none, hp I' L ρ) ∧ RelM I' L A ∧ ∀ a, a < 215 → I' a = I0 a ∧ L a = L0 a := by
  obtain ⟨I1, q1, q2, q3, q4⟩ := X12_anew_lp (L := L) (ρ := ρ) 182 0 zFU I (by omega) (by unfold zFU; omega)
  have hr : ∀ j, j < 182 → I1 255 j = I 258 j := fun j hj => q4 j (by omega) hj
  obtain ⟨hM, ⟨f1, f2, f3⟩, -, -, hs, hK⟩ := hT
  have hx : ∀ a, lastM a ∨ a < 215 → a ≠ 255 → (u2 (u2 I1 215 54 (-1)) 215 64 0) a = I0 a := fun a ha h1 => by
    rw [u2r (by unfold lastM at ha; omega), u2r (by unfold lastM at ha; omega), q2 a h1]; exact f1 a ha h1
  have hf : ∀ k, fieldM k → (u2 (u2 I1 215 54 (-1)) 215 64 0) 215 k = I0 215 k := fun k hk => by
    by_cases c1 : k = 64
    · rw [c1, u2_ap, if_pos ⟨rfl, rfl⟩]; exact hM.2.2.2.2.1.2.symm
    · rw [u2_ap, if_neg (by omega)]
      by_cases c2 : k = 54
      · rw [c2, u2_ap, if_pos ⟨rfl, rfl⟩]; exact hM.2.2.2.2.1.1.symm
      · rw [u2_ap, if_neg (by omega), q2 215 (by omega)]; exact f2 k hk c2 c1
  have h255 : (u2 (u2 I1 215 54 (-1)) 215 64 0) 255 = I1 255 := by rw [u2r (by decide), u2r (by decide)]
  have hA : RelM (u2 (u2 I1 215 54 (-1)) 215 64 0) L (wS A (a_s A) (a_K A) (a_P A)) := by
    refine M_act hM ⟨⟨?_, ?_⟩, ?_⟩ ?_ (fun a h1 h2 h3 => hx a (Or.inl h1) h2) (fun k h1 h2 h3 => hf k h1) (fun a ha => f3 a (by omega))
    · rw [h255]; exact stN_eq hok.1 hr hs.1
    · rw [h255]; exact td_eq hr hs.2
    · rw [h255]; exact kpM_eq (fun j h1 h2 => q3 j (by omega)) hK
    · unfold paM
      rw [hf 75 (by unfold fieldM; omega), hf 76 (by unfold fieldM; omega), hx 266 (by unfold lastM; omega) (by omega)]
      exact hM.2.2.2.2.2.1
  refine ⟨u2 (u2 I1 215 54 (-1)) 215 64 0, ?_, hA, fun a ha => ⟨hx a (Or.inr ha) (by omega), f3 a (by omega)⟩⟩
  unfold X12_takesBack
  rw [rc_215, h_cv (show X12_triesAnew 215 _ = _ from q1), pi_215, pb0_215]; rfl
end B51
