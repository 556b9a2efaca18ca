/-! the reference: a round -/
section B34
variable {I : Nat → Nat → Int32} {L : Nat → Nat → Int64} {ρ : zRh} {h : zH} {C : cT} {s : sT} {tr : Option Nat}
def frR (I I' : Nat → Nat → Int32) (L L' : Nat → Nat → Int64) : Prop := (∀ x, x ≠ 215 → x ≠ 259 → x ≠ 260 → I' x = I x) ∧ (∀ k, k ≠ 51 → k ≠ 56 → k ≠ 57 → k ≠ 58 → k ≠ 59 → k ≠ 60 → k ≠ 111 → I' 215 k = I 215 k) ∧ ∀ x, x ≠ 295 → L' x = L x
theorem frR_ch {I I' : Nat → Nat → Int32} {L L' : Nat → Nat → Int64} (h : frR I I' L L') (hM : chM I C) : chM I' C := chM_fr (fun a ha => h.1 a (by omega) (by omega) (by omega)) (h.2.1 53 (by omega) (by omega) (by omega) (by omega) (by omega) (by omega) (by omega)) hM
theorem frR_st {I I' : Nat → Nat → Int32} {L L' : Nat → Nat → Int64} (h : frR I I' L L') (hS : stM I C s) : stM I' C s := stM_fr (h.1 255 (by omega) (by omega) (by omega)) (h.2.1 54 (by omega) (by omega) (by omega) (by omega) (by omega) (by omega) (by omega)) (h.2.1 55 (by omega) (by omega) (by omega) (by omega) (by omega) (by omega) (by omega)) (h.1 248 (by omega) (by omega) (by omega)) hS
theorem frR_of {I I' : Nat → Nat → Int32} {L L' : Nat → Nat → Int64} (h : frM I I' L L') : frR I I' L L' := ⟨fun x h1 _ _ => h.1 x h1, h.2.1, h.2.2⟩
theorem frR_tr {I I1 I2 : Nat → Nat → Int32} {L L1 L2 : Nat → Nat → Int64} (h : frR I I1 L L1) (h2 : frR I1 I2 L1 L2) : frR I I2 L L2 := ⟨fun x a b c => by rw [h2.1 x a b c, h.1 x a b c], fun k a b c d e f g => by rw [h2.2.1 k a b c d e f g, h.2.1 k a b c d e f g], fun x hx => by rw [h2.2.2 x hx, h.2.2 x hx]⟩
theorem frR_row {I : Nat → Nat → Int32} {L : Nat → Nat → Int64} {a j : Nat} {v : Int32} (ha : a = 259 ∨ a = 260) : frR I (u2 I a j v) L L := ⟨fun x h1 h2 h3 => u2r (by omega), fun k _ _ _ _ _ _ _ => by rw [u2r (show 215 ≠ a by omega)], fun _ _ => rfl⟩
theorem nar01 (b : Bool) : vp_nar .boolean (bI b) = bI b := by cases b <;> rfl
/-- what the first walk of a round lays -/
def letM (I : Nat → Nat → Int32) (C : cT) (s : sT) (tr : Option Nat) (k : Nat) : Prop := ∀ a b, a < k → p_hold C s a = some b → I 259 a = bI (p_let C s tr a b) ∧ I 260 a = nI (p_learn C s a b)
theorem X12_let_lp (hk : okC C) (hS : okS C s) (ht : ∀ b, tr = some b → b < 12) : ∀ (m k : Nat) (I : Nat → Nat → Int32) (L : Nat → Nat → Int64) (fuel : Nat), k + m = 12 → m < fuel → chM I C → stM I C s → (∀ j, j < 12 → I 256 j = oI (p_hold C s j)) → letM I C s tr k →
    ∃ I' L', z_fix (fun r x => X12_roundGoes_B6 215 (oI tr) r x) fuel (nI k) (hp I L ρ) = X12_roundGoes_J78 215 (hp I' L' ρ) ∧ frR I I' L L' ∧ letM I' C s tr 12 := by
  intro m
  induction m with
  | zero =>
    intro k I L fuel h1 h2 hM hX hH hl
    obtain ⟨f, rfl⟩ : ∃ f, fuel = f + 1 := ⟨fuel - 1, by omega⟩
    obtain rfl : k = 12 := by omega
    refine ⟨I, L, ?_, ⟨fun _ _ _ _ => rfl, fun _ _ _ _ _ _ _ _ => rfl, fun _ _ => rfl⟩, hl⟩
    rw [h_fix]
    show X12_roundGoes_B6 215 (oI tr) _ (nI 12) (hp I L ρ) = _
    unfold X12_roundGoes_B6
    rw [h_if, if_pos (by decide)]
  | succ m ih =>
    intro k I L fuel h1 h2 hM hX hH hl
    obtain ⟨f, rfl⟩ : ∃ f, fuel = f + 1 := ⟨fuel - 1, by omega⟩
    have hB := okS_bn hk hS
    rw [h_fix]
    generalize hg : z_fix (fun r x => X12_roundGoes_B6 215 (oI tr) r x) f = rec
    show ∃ I' L', X12_roundGoes_B6 215 (oI tr) rec (nI k) (hp I L ρ) = _ ∧ _
    have step : ∀ (I1 : Nat → Nat → Int32) (L1 : Nat → Nat → Int64), frR I I1 L L1 → letM I1 C s tr (k + 1) → ∃ I' L', rec (nI (k + 1)) (hp I1 L1 ρ) = X12_roundGoes_J78 215 (hp I' L' ρ) ∧ frR I I' L L' ∧ letM I' C s tr 12 := by
      intro I1 L1 g1 g2
      obtain ⟨I', L', q1, q2, q3⟩ := ih (k + 1) I1 L1 f (by omega) (by omega) (frR_ch g1 hM) (frR_st g1 hX) (fun j hj => by rw [g1.1 256 (by omega) (by omega) (by omega)]; exact hH j hj) g2
      exact ⟨I', L', by rw [← hg]; exact q1, frR_tr g1 q2, q3⟩
    unfold X12_roundGoes_B6 X12_roundGoes_J72
    rw [h_if, if_neg (show ¬ (12 : Int32) ≤ nI k from nI_ge (b := 12) (by omega) (by omega)), gr_215_61, la_256 (by omega), hH k (by omega), h_if, nI_1]
    cases hh : p_hold C s k with
    | none =>
      rw [oI_none, if_pos rfl]
      refine step I L ⟨fun _ _ _ _ => rfl, fun _ _ _ _ _ _ _ _ => rfl, fun _ _ => rfl⟩ fun a b h1 h2 => ?_
      by_cases q : a = k
      · rw [q, hh] at h2; cases h2
      · exact hl a b (by omega) h2
    | some b =>
      have hsp := p_hold_spec hk hS hh
      rw [oI_some, if_neg (nI_nm1 (by omega)), gr_215_66, h_if]
      simp only [tr_eq (show k < 12 by omega) ht]
      -- behind what is told of letting go
      have tail : ∀ (I1 : Nat → Nat → Int32) (L1 : Nat → Nat → Int64), frM I I1 L L1 → ∃ I' L', X12_roundGoes_J54 rec 215 (oI tr) (nI k) (bI (p_let C s tr k b)) (nI k) 259 (hp I1 L1 ρ) = X12_roundGoes_J78 215 (hp I' L' ρ) ∧ frR I I' L L' ∧ letM I' C s tr 12 := by
        intro I1 L1 g1
        have g2 := frR_of g1
        have g3 := frR_tr g2 (frR_row (L := L1) (j := k) (v := bI (p_let C s tr k b)) (Or.inl rfl))
        obtain ⟨I2, L2, e2, g4⟩ := X12_learnt_h (L := L1) (ρ := ρ) hk hB (frR_ch g3 hM) (frR_st g3 hX) hsp.1.1 hsp.1.2
        have g5 := frR_tr g3 (frR_of g4)
        unfold X12_roundGoes_J54 X12_roundGoes_J72
        rw [nar01, sa_259 (by omega), gr_215_67, gr_215_61, la_256 (by omega), u2r (show (256 : Nat) ≠ 259 by decide), g1.1 256 (by omega), hH k (by omega), hh, oI_some, rc_215, h_ci e2, sa_260 (by omega), nI_1]
        refine step _ L2 (frR_tr g5 (frR_row (Or.inr rfl))) fun x y h1 h2 => ?_
        by_cases q : x = k
        · subst q
          rw [hh] at h2
          cases h2
          refine ⟨?_, by rw [u2_ap, if_pos ⟨rfl, rfl⟩]⟩
          rw [u2r (show (259 : Nat) ≠ 260 by decide), g4.1 259 (by omega), u2_ap, if_pos ⟨rfl, rfl⟩]
        · have h3 := hl x y (by omega) h2
          refine ⟨?_, ?_⟩
          · rw [u2r (show (259 : Nat) ≠ 260 by decide), g4.1 259 (by omega), u2_ap, if_neg (fun c => q c.2), g1.1 259 (by omega)]
            exact h3.1
          · rw [u2_ap, if_neg (fun c => q c.2), g4.1 260 (by omega), u2r (show (260 : Nat) ≠ 259 by decide), g1.1 260 (by omega)]
            exact h3.2
      by_cases c : tr = some k
      · rw [if_pos c]
        unfold X12_roundGoes_J49
        have e : p_let C s tr k b = true := by unfold p_let; rw [decide_eq_true c, Bool.true_or]
        have t := tail I L ⟨fun _ _ => rfl, fun _ _ _ _ _ _ _ _ => rfl, fun _ _ => rfl⟩
        rw [e] at t
        exact t
      · obtain ⟨I1, L1, e1, g1⟩ := X12_doesLet_h (L := L) (ρ := ρ) hk hB hM hX hsp.1.1 hsp.1.2
        rw [if_neg c, gr_215_61, la_256 (by omega), hH k (by omega), hh, oI_some, rc_215, h_ci e1, h_if]
        have e : p_let C s tr k b = p_lets C s k b := by unfold p_let; rw [decide_eq_false c, Bool.false_or]
        have t := tail I1 L1 g1
        rw [e] at t
        unfold X12_roundGoes_J49
        cases hq : p_lets C s k b with
        | true => rw [hq] at t; exact t
        | false => rw [hq] at t; exact t
/-! what is kept -/
abbrev kT : Type := List (Nat × Nat × Nat × Nat)
def kpM (f : Nat → Int32) (C : cT) (K : kT) : Prop := f 182 = nI K.length ∧ K.length ≤ 40 ∧ ∀ i q, K[i]? = some q → f (183 + 4 * i) = nI q.1 ∧ f (183 + 4 * i + 1) = nI q.2.1 ∧ f (183 + 4 * i + 2) = nI (k_num C q.2.2.1) ∧ f (183 + 4 * i + 3) = nI (k_num C q.2.2.2)
def p_keep (K : kT) (q : Nat × Nat × Nat × Nat) : kT := (if K.length = 40 then K.tail else K) ++ [q]
theorem p_keep_le {K : kT} {q : Nat × Nat × Nat × Nat} (h : K.length ≤ 40) : (p_keep K q).length ≤ 40 := by
  unfold p_keep
  rw [List.length_append, List.length_singleton]
  split
  · rw [List.length_tail]; omega
  · omega
theorem X12_shift_lp {a b : Int32} : ∀ (m k : Nat) (I : Nat → Nat → Int32) (fuel : Nat), k + m = 339 → 183 ≤ k → m < fuel → ∃ I', z_fix (fun r x => X12_isKept_B25 215 a b r x) fuel (nI k) (hp I L ρ) = X12_isKept_J67 215 a b (hp I' L ρ) ∧ (∀ x, x ≠ 255 → I' x = I x) ∧ (∀ j, j < k ∨ 339 ≤ j → I' 255 j = I 255 j) ∧ ∀ j, k ≤ j → j < 339 → I' 255 j = I 255 (j + 4) := by
  intro m
  induction m with
  | zero =>
    intro k I fuel h1 h0 h2
    obtain ⟨f, rfl⟩ : ∃ f, fuel = f + 1 := ⟨fuel - 1, by omega⟩
    obtain rfl : k = 339 := by omega
    refine ⟨I, ?_, fun _ _ => rfl, fun _ _ => rfl, fun j h1 h2 => by omega⟩
    rw [h_fix]
    show X12_isKept_B25 215 a b _ (nI 339) (hp I L ρ) = _
    unfold X12_isKept_B25 X12_isKept_J52
    rw [h_if, if_pos (by decide)]
  | succ m ih =>
    intro k I fuel h1 h0 h2
    obtain ⟨f, rfl⟩ : ∃ f, fuel = f + 1 := ⟨fuel - 1, by omega⟩
    rw [h_fix]
    generalize hg : z_fix (fun r x => X12_isKept_B25 215 a b r x) f = rec
    show ∃ I', X12_isKept_B25 215 a b rec (nI k) (hp I L ρ) = _ ∧ _
    unfold X12_isKept_B25
    rw [h_if, if_neg (show ¬ (339 : Int32) ≤ nI k from nI_ge (b := 339) (by omega) (by omega)), gr_215_52, gr_215_52, show (4 : Int32) = nI 4 from rfl, nI_add, la_255 (by omega), sa_255 (by omega), nI_1, ← hg]
    obtain ⟨I', q1, q2, q3, q4⟩ := ih (k + 1) (u2 I 255 k (I 255 (k + 4))) f (by omega) (by omega) (by omega)
    refine ⟨I', q1, fun x hx => by rw [q2 x hx, u2r hx], fun j hj => by rw [q3 j (by omega), u2_ap, if_neg (by omega)], fun j h1 h2 => ?_⟩
    by_cases q : j = k
    · rw [q3 j (by omega), u2_ap, if_pos ⟨rfl, q⟩, q]
    · rw [q4 j (by omega) h2, u2_ap, if_neg (by omega)]
theorem X12_isKept67 (hk : okC C) (hM : chM I C) {K0 : kT} {sp rd a b : Nat} (h0 : I 255 0 = nI sp) (h1 : I 255 1 = nI rd) (ha : a < 12) (hb : b < 12) (hn : I 255 182 = nI (K0.length + 1)) (hle : K0.length + 1 ≤ 40) (hK : ∀ i q, K0[i]? = some q → I 255 (183 + 4 * i) = nI q.1 ∧ I 255 (183 + 4 * i + 1) = nI q.2.1 ∧ I 255 (183 + 4 * i + 2) = nI (k_num C q.2.2.1) ∧ I 255 (183 + 4 * i + 3) = nI (k_num C q.2.2.2)) : ∃ I', X12_isKept_J67 215 (nI a) (nI b) (hp I L ρ) = some (none, hp I' L ρ) ∧ (∀ x, x ≠ 255 → I' x = I x) ∧ (∀ j, j < 182 → I' 255 j = I 255 j) ∧ kpM (I' 255) C (K0 ++ [(sp, rd, a, b)]) := by
  have e : ∀ z : Int32, z = nI (K0.length + 1) → nI 183 + nI 4 * z - nI 4 = nI (183 + 4 * K0.length) := fun z hz => by
    rw [hz, pk_mul, nI_add, pk_sub (by omega)]
    congr 1
  unfold X12_isKept_J67
  rw [gr_215_52, show (182 : Int32) = nI 182 from rfl, la_255 (by decide), hn, show (183 : Int32) = nI 183 from rfl, show (4 : Int32) = nI 4 from rfl, e _ rfl, gr_215_52, gr_215_52, lal_0, la_255 (by decide), h0, sa_255 (by omega), gr_215_52, gr_215_52, lal_1, la_255 (by decide), nI_1, show (2 : Int32) = nI 2 from rfl, show (3 : Int32) = nI 3 from rfl, nI_add, nI_add]
  have hM1 : ∀ (I1 : Nat → Nat → Int32), (∀ x, x ≠ 255 → I1 x = I x) → chM I1 C := fun I1 h => chM_fr (fun x hx => h x (by omega)) (by rw [h 215 (by omega)]) hM
  rw [u2_ap, if_neg (by omega), h1, sa_255 (by omega), gr_215_52, rc_215, h_ci (X12_numberOf_h hk (hM1 _ (fun x hx => by rw [u2r hx, u2r hx])) (by omega)), sa_255 (by omega), gr_215_52, rc_215, h_ci (X12_numberOf_h hk (hM1 _ (fun x hx => by rw [u2r hx, u2r hx, u2r hx])) (by omega)), sa_255 (by omega), h_ret]
  refine ⟨_, rfl, fun x hx => by rw [u2r hx, u2r hx, u2r hx, u2r hx], fun j hj => by rw [u2_ap, if_neg (by omega), u2_ap, if_neg (by omega), u2_ap, if_neg (by omega), u2_ap, if_neg (by omega)], ?_, ?_, fun i q hq => ?_⟩
  · rw [u2_ap, if_neg (by omega), u2_ap, if_neg (by omega), u2_ap, if_neg (by omega), u2_ap, if_neg (by omega), hn, List.length_append, List.length_singleton]
  · rw [List.length_append, List.length_singleton]; exact hle
  · by_cases c : i < K0.length
    · rw [List.getElem?_append_left c] at hq
      have h2 := hK i q hq
      refine ⟨?_, ?_, ?_, ?_⟩
      · rw [u2_ap, if_neg (by omega), u2_ap, if_neg (by omega), u2_ap, if_neg (by omega), u2_ap, if_neg (by omega)]; exact h2.1
      · rw [u2_ap, if_neg (by omega), u2_ap, if_neg (by omega), u2_ap, if_neg (by omega), u2_ap, if_neg (by omega)]; exact h2.2.1
      · rw [u2_ap, if_neg (by omega), u2_ap, if_neg (by omega), u2_ap, if_neg (by omega), u2_ap, if_neg (by omega)]; exact h2.2.2.1
      · rw [u2_ap, if_neg (by omega), u2_ap, if_neg (by omega), u2_ap, if_neg (by omega), u2_ap, if_neg (by omega)]; exact h2.2.2.2
    · have hi := (List.getElem?_eq_some_iff.mp hq).1
      rw [List.length_append, List.length_singleton] at hi
      obtain rfl : i = K0.length := by omega
      rw [List.getElem?_append_right (by omega), Nat.sub_self] at hq
      cases hq
      refine ⟨?_, ?_, ?_, ?_⟩
      · rw [u2_ap, if_neg (by omega), u2_ap, if_neg (by omega), u2_ap, if_neg (by omega), u2_ap, if_pos ⟨rfl, rfl⟩]
      · rw [u2_ap, if_neg (by omega), u2_ap, if_neg (by omega), u2_ap, if_pos ⟨rfl, rfl⟩]
      · rw [u2_ap, if_neg (by omega), u2_ap, if_pos ⟨rfl, rfl⟩]
      · rw [u2_ap, if_pos ⟨rfl, rfl⟩]
theorem X12_isKept_h (hk : okC C) (hM : chM I C) {K : kT} {sp rd a b : Nat} (hth : I 215 64 = 0) (h0 : I 255 0 = nI sp) (h1 : I 255 1 = nI rd) (ha : a < 12) (hb : b < 12) (hK : kpM (I 255) C K) : ∃ I', X12_isKept 215 (nI a) (nI b) (hp I L ρ) = some (none, hp I' L ρ) ∧ (∀ x, x ≠ 255 → I' x = I x) ∧ (∀ j, j < 182 → I' 255 j = I 255 j) ∧ kpM (I' 255) C (p_keep K (sp, rd, a, b)) := by
  obtain ⟨k1, k2, k3⟩ := hK
  unfold X12_isKept
  rw [gi_215, hth, h_if, if_pos rfl, gr_215_52, show (182 : Int32) = nI 182 from rfl, la_255 (by decide), k1, h_if, show (40 : Int32) = nI 40 from rfl]
  simp only [nI_inj (show K.length < 2147483648 by omega) (show 40 < 2147483648 by omega)]
  by_cases c : K.length = 40
  · rw [if_pos c]
    obtain ⟨I1, e1, f1, f2, f3⟩ := X12_shift_lp (L := L) (ρ := ρ) (a := nI a) (b := nI b) 156 183 I zFU (by omega) (by omega) (by unfold zFU; omega)
    have hl : K.tail.length = 39 := by rw [List.length_tail]; omega
    obtain ⟨I2, e2, g1, g2, g3⟩ := X12_isKept67 (I := I1) (L := L) (ρ := ρ) hk (chM_fr (fun x hx => f1 x (by omega)) (by rw [f1 215 (by omega)]) hM) (K0 := K.tail) (sp := sp) (rd := rd) (by rw [f2 0 (by omega)]; exact h0) (by rw [f2 1 (by omega)]; exact h1) ha hb (by rw [f2 182 (by omega), k1, c, hl]) (by omega) (fun i q hq => by
      have hi := (List.getElem?_eq_some_iff.mp hq).1
      rw [List.getElem?_tail] at hq
      have h2 := k3 (i + 1) q hq
      rw [f3 _ (by omega) (by omega), f3 _ (by omega) (by omega), f3 _ (by omega) (by omega), f3 _ (by omega) (by omega)]
      exact h2)
    refine ⟨I2, ?_, fun x hx => by rw [g1 x hx, f1 x hx], fun j hj => by rw [g2 j hj, f2 j (by omega)], ?_⟩
    · exact (show z_fix _ zFU (nI 183) (hp I L ρ) = _ from e1).trans e2
    · unfold p_keep
      rw [if_pos c]
      exact g3
  · rw [if_neg c, gr_215_52, la_255 (by decide), k1, sa_255 (by decide), nI_1]
    obtain ⟨I2, e2, g1, g2, g3⟩ := X12_isKept67 (I := u2 I 255 182 (nI (K.length + 1))) (L := L) (ρ := ρ) hk (chM_fr (fun x hx => u2r (by omega)) (by rw [u2r (by omega)]) hM) (K0 := K) (sp := sp) (rd := rd) (by rw [u2_ap, if_neg (by omega)]; exact h0) (by rw [u2_ap, if_neg (by omega)]; exact h1) ha hb (by rw [u2_ap, if_pos ⟨rfl, rfl⟩]) (by omega) (fun i q hq => by
      rw [u2_ap, if_neg (by omega), u2_ap, if_neg (by omega), u2_ap, if_neg (by omega), u2_ap, if_neg (by omega)]
      exact k3 i q hq)
    refine ⟨I2, e2, fun x hx => by rw [g1 x hx, u2r hx], fun j hj => by rw [g2 j hj, u2_ap, if_neg (by omega)], ?_⟩
    unfold p_keep
    rw [if_neg c]
    exact g3
end B34
