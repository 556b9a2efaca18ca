/-! sizes -/
section B5c
variable {I I0 : Nat → Nat → Int32} {L L0 : Nat → Nat → Int64} {ρ : zRh} {h : zH} {A : aT} {N : Nat} {C : cT} {s : sT} {tr : Option Nat}
theorem MT_anew2 (hok : okA A) (hT : thM I I0 L L0 A s) {s' : sT} (hz : szM I (a_C A) s') (hs : ∀ f, stN f (a_C A) (a_s A) → stN f (a_C A) s') : ∃ I', X12_triesAnew 215 (hp I L ρ) = some (none, hp I' L ρ) ∧ thM I' I0 L L0 A s' ∧ I' 215 = I 215 ∧ I' 265 = I 265 := by
  obtain ⟨I', q1, q2, q3, q4⟩ := X12_anew_lp (L := L) (ρ := ρ) 182 0 zFU I (by omega) (by unfold zFU; omega)
  have r215 : I' 215 = I 215 := q2 215 (by omega)
  have r258 : I' 258 = I 258 := q2 258 (by omega)
  have r248 : I' 248 = I 248 := q2 248 (by omega)
  have hr : ∀ j, j < 182 → I' 255 j = I 258 j := fun j hj => q4 j (by omega) hj
  refine ⟨I', q1, ⟨hT.1, ⟨fun a ha h1 => by rw [q2 a h1]; exact hT.2.1.1 a ha h1, fun k h1 h2 h3 => by rw [r215]; exact hT.2.1.2.1 k h1 h2 h3, hT.2.1.2.2⟩, by rw [r215]; exact hT.2.2.1, ⟨stM_of (stN_eq hok.1 hr (hs _ hT.2.2.2.2.1.1)) (fun a ha => by rw [r215, r248]; exact hz a ha), td_eq hr hT.2.2.2.2.1.2⟩, by rw [r258]; exact hT.2.2.2.2.1, kpM_eq (fun j h1 h2 => q3 j (by omega)) hT.2.2.2.2.2⟩, r215, q2 265 (by omega)⟩
theorem MT_back2 (hok : okA A) (hT : thM I I0 L L0 A s) : ∃ I', X12_takesBack 215 (hp I L ρ) = some (none, hp I' L ρ) ∧ (RelM I' L A ∧ I' 265 = I 265) ∧ ∀ a, a < 215 → I' a = I0 a ∧ L a = L0 a := by
  obtain ⟨I1, q1, q2, q3, q4⟩ := X12_anew_lp (L := L) (ρ := ρ) 182 0 zFU I (by omega) (by unfold zFU; omega)
  have hr : ∀ j, j < 182 → I1 255 j = I 258 j := fun j hj => q4 j (by omega) hj
  obtain ⟨hM, ⟨f1, f2, f3⟩, -, -, hs, hK⟩ := hT
  have hx : ∀ a, lastM a ∨ a < 215 → a ≠ 255 → (u2 (u2 I1 215 54 (-1)) 215 64 0) a = I0 a := fun a ha h1 => by
    rw [u2r (by unfold lastM at ha; omega), u2r (by unfold lastM at ha; omega), q2 a h1]; exact f1 a ha h1
  have hf : ∀ k, fieldM k → (u2 (u2 I1 215 54 (-1)) 215 64 0) 215 k = I0 215 k := fun k hk => by
    by_cases c1 : k = 64
    · rw [c1, u2_ap, if_pos ⟨rfl, rfl⟩]; exact hM.2.2.2.2.1.2.symm
    · rw [u2_ap, if_neg (by omega)]
      by_cases c2 : k = 54
      · rw [c2, u2_ap, if_pos ⟨rfl, rfl⟩]; exact hM.2.2.2.2.1.1.symm
      · rw [u2_ap, if_neg (by omega), q2 215 (by omega)]; exact f2 k hk c2 c1
  have h255 : (u2 (u2 I1 215 54 (-1)) 215 64 0) 255 = I1 255 := by rw [u2r (by decide), u2r (by decide)]
  have hA : RelM (u2 (u2 I1 215 54 (-1)) 215 64 0) L (wS A (a_s A) (a_K A) (a_P A)) := by
    refine M_act hM ⟨⟨?_, ?_⟩, ?_⟩ ?_ (fun a h1 h2 h3 => hx a (Or.inl h1) h2) (fun k h1 h2 h3 => hf k h1) (fun a ha => f3 a (by omega))
    · rw [h255]; exact stN_eq hok.1 hr hs.1
    · rw [h255]; exact td_eq hr hs.2
    · rw [h255]; exact kpM_eq (fun j h1 h2 => q3 j (by omega)) hK
    · unfold paM
      rw [hf 75 (by unfold fieldM; omega), hf 76 (by unfold fieldM; omega), hx 266 (by unfold lastM; omega) (by omega)]
      exact hM.2.2.2.2.2.1
  refine ⟨u2 (u2 I1 215 54 (-1)) 215 64 0, ?_, ⟨hA, by rw [u2r (by decide), u2r (by decide), q2 265 (by omega)]⟩, fun a ha => ⟨hx a (Or.inr ha) (by omega), f3 a (by omega)⟩⟩
  unfold X12_takesBack
  rw [rc_215, h_cv (show X12_triesAnew 215 _ = _ from q1), pi_215, pb0_215]; rfl
def m_fit (A : aT) (a z : Nat) : Bool := m_all (a_C A) (sSz (a_s A) a z) (a_V A) 31 0
/-- what is written of who is wed when, for sizes below z -/
def wyM (I : Nat → Nat → Int32) (A : aT) (a z : Nat) : Prop := ∀ y k, y < z → k < 31 → I 265 (31 * y + k) = nI (w_set (a_C A) (p_gos (a_C A) k (sSz (a_s A) a y)))
theorem X12_set_size_lp (hok : okA A) {a p : Nat} (ha : k_th (a_C A) a) (hp2 : k_num (a_C A) a = p) : ∀ (m z fuel z' : Nat) (I : Nat → Nat → Int32) (L : Nat → Nat → Int64), z + m = 10 → m < fuel → thM I I0 L L0 A (sSz (a_s A) a z') → I 215 54 = nI p → wyM I A a z →
    ∃ I' L', z_fix (fun r x => X12_sizeSet_B13 215 r x.1 x.2) fuel (nI (z_b (m_fit A a) z), nI z) (hp I L ρ) = some (some (.int (nI (z_b (m_fit A a) 10))), hp I' L' ρ) ∧ (RelM I' L' A ∧ wyM I' A a 10) ∧ ∀ x, x < 215 → I' x = I0 x ∧ L' x = L0 x := by
  have hk := hok.1
  have h999 := hok.2.2.1.2.1
  intro m
  induction m with
  | zero =>
    intro z fuel z' I L h1 h2 h3 h4 h5
    obtain ⟨f, rfl⟩ : ∃ f, fuel = f + 1 := ⟨fuel - 1, by omega⟩
    obtain rfl : z = 10 := by omega
    obtain ⟨I3, g1, ⟨g2, g4⟩, g3⟩ := MT_back2 (ρ := ρ) hok h3
    refine ⟨I3, L, ?_, ⟨g2, fun y k q1 q2 => by rw [g4]; exact h5 y k q1 q2⟩, g3⟩
    rw [h_fix]
    show X12_sizeSet_B13 215 _ (nI (z_b (m_fit A a) 10)) (nI 10) (hp I L ρ) = _
    unfold X12_sizeSet_B13 X12_sizeSet_J112
    rw [h_if, if_pos (by decide), rc_215, h_cv g1]; rfl
  | succ m ih =>
    intro z fuel z' I L h1 h2 h3 h4 h5
    obtain ⟨f, rfl⟩ : ∃ f, fuel = f + 1 := ⟨fuel - 1, by omega⟩
    rw [h_fix]
    generalize hg : z_fix (fun r x => X12_sizeSet_B13 215 r x.1 x.2) f = rec
    have hT1 := tz_set (z := z) hok ha hp2 (tz_of h3 h4)
    have j54 : (u2 I 215 55 (nI z)) 215 54 = nI p := by rw [u2_ap, if_neg (by omega)]; exact h4
    have j55 : (u2 I 215 55 (nI z)) 215 55 = nI z := by rw [u2_ap, if_pos ⟨rfl, rfl⟩]
    obtain ⟨I1, L1, e1, e2, e3, e4, e5, e6⟩ := X12_fit_lp (ρ := ρ) (acc := nI (z_b (m_fit A a) z)) (r13 := rec) hok ha hp2 (z := z) (by omega) 31 0 zFU true (u2 I 215 55 (nI z)) L (by omega) (by unfold zFU; omega) hT1 j54 j55
    obtain ⟨I2, f1, f2, f3, f4⟩ := MT_anew2 (ρ := ρ) (s' := sSz (a_s A) a z) hok e2 (szM_eq (gos_siz (a_C A) 31 (sSz (a_s A) a z)) (stM_sz e2.2.2.2.1.1)) (fun f hf => hf)
    have hw2 : wyM I2 A a (z + 1) := by
      intro y k q1 q2
      rw [f4]
      by_cases c : y = z
      · rw [c]; exact e6 k (by omega) q2
      · rw [e5 _ (by omega), u2r (by decide)]
        exact h5 y k (by omega) q2
    obtain ⟨I', L', r1, r2⟩ := ih (z + 1) f z I2 L1 (by omega) (by omega) f2 (by rw [f3]; exact e3) hw2
    refine ⟨I', L', ?_, r2⟩
    show X12_sizeSet_B13 215 rec (nI (z_b (m_fit A a) z)) (nI z) (hp I L ρ) = _
    unfold X12_sizeSet_B13
    rw [h_if, if_neg (show ¬ (9 : Int32) < nI z from fun e => absurd ((nI_lt' (a := 9) (by omega) (by omega)).mp e) (by omega)), pi_215, show ((1 : Int32), (0 : Int32)) = (bI true, nI 0) from rfl, e1, Bool.true_and]
    unfold X12_sizeSet_J91 X12_sizeSet_J106
    have ho := z_b_or (m_fit A a) (k := z) (by omega)
    rw [hg] at r1
    rw [rc_215, h_cv f1, h_if]
    by_cases c : m_fit A a z = true
    · rw [if_pos c] at ho
      rw [show m_all (a_C A) (sSz (a_s A) a z) (a_V A) 31 0 = true from c, if_neg (by decide), ho, nI_1]
      exact r1
    · rw [if_neg c] at ho
      rw [show m_all (a_C A) (sSz (a_s A) a z) (a_V A) 31 0 = false from (show m_fit A a z = false by simpa using c), bF, if_pos rfl, ho, nI_1]
      exact r1
theorem X12_sizeSet_h (hok : okA A) (hM : RelM I L A) {a p : Nat} (ha : k_th (a_C A) a) (hp2 : k_num (a_C A) a = p) : ∃ I' L', X12_sizeSet 215 (nI p) (hp I L ρ) = some (some (.int (nI (z_b (m_fit A a) 10))), hp I' L' ρ) ∧ (RelM I' L' A ∧ wyM I' A a 10) ∧ ∀ x, x < 215 → I' x = I x ∧ L' x = L x := by
  obtain ⟨I1, e1, e2, e3⟩ := MT_puts (ρ := ρ) hok hM
  obtain ⟨J, hJ⟩ : ∃ J, J = u2 I1 215 54 (nI p) := ⟨_, rfl⟩
  have hz : tzM J I L L A p := by
    obtain ⟨h1, ⟨f1, f2, f3⟩, h2, ⟨h3, h4⟩, h5, h6⟩ := e2
    rw [hJ]
    exact ⟨h1, ⟨fun x hx hb => by rw [u2r (by unfold lastM at hx; omega)]; exact f1 x hx hb, fun k x b c => by rw [u2_ap, if_neg (by omega)]; exact f2 k x b c, f3⟩, by rw [u2_ap, if_neg (by omega)]; exact h2, ⟨by rw [u2r (by decide)]; exact stM_N h3, by rw [u2r (by decide)]; exact h4⟩, by rw [u2r (by decide)]; exact h5, by rw [u2r (by decide)]; exact h6, by rw [u2_ap, if_pos ⟨rfl, rfl⟩]⟩
  obtain ⟨n, hn⟩ := Int32_any (J 215 55)
  have hT := tz_set (z := n) hok ha hp2 hz
  have hJ2 : u2 J 215 55 (nI n) = J := by
    funext x j
    rw [u2_ap]
    by_cases c : x = 215 ∧ j = 55
    · rw [if_pos c, c.1, c.2, hn]
    · rw [if_neg c]
  rw [hJ2] at hT
  obtain ⟨I', L', r1, r2, r3⟩ := X12_set_size_lp (ρ := ρ) hok ha hp2 10 0 zFU n J L (by omega) (by unfold zFU; omega) hT (by rw [hJ, u2_ap, if_pos ⟨rfl, rfl⟩]) (fun y k q1 q2 => by omega)
  refine ⟨I', L', ?_, r2, r3⟩
  unfold X12_sizeSet
  rw [rc_215, h_cv e1, pi_215, ← hJ]
  exact r1
end B5c
