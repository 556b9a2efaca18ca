/-! the reference: who is wed in a round, what is learnt, time -/
section B35
variable {I : Nat → Nat → Int32} {L : Nat → Nat → Int64} {ρ : zRh} {h : zH} {C : cT} {s : sT} {tr : Option Nat}
def p_kept (C : cT) (s : sT) (tr : Option Nat) (K : kT) : Nat → kT
  | 0 => K
  | k + 1 => match p_new C s tr k with | none => p_kept C s tr K k | some b => p_keep (p_kept C s tr K k) (s_sp s, s_rd s, k, b)
def p_wk (C : cT) (s : sT) (tr : Option Nat) (k a : Nat) : Option Nat := if p_done C s k a = true then p_wed C s tr a else s_wed s a
/-- in the midst of the second walk -/
def wedM (I : Nat → Nat → Int32) (f0 : Nat → Int32) (C : cT) (s : sT) (tr : Option Nat) (th : Bool) (K : kT) (n0 k : Nat) : Prop := (∀ a, k_th C a → I 255 (14 + a) = oI (p_wk C s tr k a)) ∧ (∀ j, j < 182 → (j < 14 ∨ 26 ≤ j ∨ ¬ k_th C (j - 14)) → I 255 j = f0 j) ∧ I 215 63 = nI (n0 + (p_fresh C s tr k).length) ∧ (if th = true then (∀ j, 182 ≤ j → I 255 j = f0 j) else kpM (I 255) C (p_kept C s tr K k))
theorem p_wk_none (hk : okC C) (hS : okS C s) {k : Nat} (hk6 : k < 6) (h : p_hold C s k = none) : p_wk C s tr (k + 1) = p_wk C s tr k := by
  have e := congrArg s_wed (p_mid_none (tr := tr) hk hS hk6 h)
  exact e
theorem p_wk_some (hk : okC C) (hS : okS C s) {k r : Nat} (hk6 : k < 6) (h : p_hold C s k = some r) : p_wk C s tr (k + 1) = if p_new C s tr k = none then p_wk C s tr k else fun i => if i = r then some k else if i = k then some r else p_wk C s tr k i := p_mid_wed hk hS hk6 h
theorem X12_wed_lp (hk : okC C) (hS : okS C s) {th : Bool} {K : kT} {n0 : Nat} {f0 : Nat → Int32} (hf0 : f0 0 = nI (s_sp s) ∧ f0 1 = nI (s_rd s)) : ∀ (m k : Nat) (I : Nat → Nat → Int32) (fuel : Nat), k + m = 6 → m < fuel → chM I C → (∀ j, j < 12 → I 256 j = oI (p_hold C s j)) → letM I C s tr 12 → I 215 64 = bI th → wedM I f0 C s tr th K n0 k →
    ∃ I', z_fix (fun r x => X12_roundGoes_B80 215 r x) fuel (nI k) (hp I L ρ) = X12_roundGoes_J97 215 (hp I' L ρ) ∧ (∀ x, x ≠ 215 → x ≠ 255 → I' x = I x) ∧ (∀ q, q ≠ 63 → I' 215 q = I 215 q) ∧ wedM I' f0 C s tr th K n0 6 := by
  intro m
  induction m with
  | zero =>
    intro k I fuel h1 h2 hM hH hl hth hw
    obtain ⟨f, rfl⟩ : ∃ f, fuel = f + 1 := ⟨fuel - 1, by omega⟩
    obtain rfl : k = 6 := by omega
    refine ⟨I, ?_, fun _ _ _ => rfl, fun _ _ => rfl, hw⟩
    rw [h_fix]
    show X12_roundGoes_B80 215 _ (nI 6) (hp I L ρ) = _
    unfold X12_roundGoes_B80
    rw [h_if, if_pos (by decide)]
  | succ m ih =>
    intro k I fuel h1 h2 hM hH hl hth hw
    obtain ⟨f, rfl⟩ : ∃ f, fuel = f + 1 := ⟨fuel - 1, by omega⟩
    have hk6 : k < 6 := by omega
    rw [h_fix]
    generalize hg : z_fix (fun r x => X12_roundGoes_B80 215 r x) f = rec
    have step : ∀ (I1 : Nat → Nat → Int32), (∀ x, x ≠ 215 → x ≠ 255 → I1 x = I x) → (∀ q, q ≠ 63 → I1 215 q = I 215 q) → wedM I1 f0 C s tr th K n0 (k + 1) → ∃ I', rec (nI (k + 1)) (hp I1 L ρ) = X12_roundGoes_J97 215 (hp I' L ρ) ∧ (∀ x, x ≠ 215 → x ≠ 255 → I' x = I x) ∧ (∀ q, q ≠ 63 → I' 215 q = I 215 q) ∧ wedM I' f0 C s tr th K n0 6 := by
      intro I1 g1 g2 g3
      obtain ⟨I', q1, q2, q3, q4⟩ := ih (k + 1) I1 f (by omega) (by omega) (chM_fr (fun x hx => g1 x (by omega) (by omega)) (g2 53 (by omega)) hM) (fun j hj => by rw [g1 256 (by omega) (by omega)]; exact hH j hj) (fun a b h1 h2 => by rw [g1 259 (by omega) (by omega), g1 260 (by omega) (by omega)]; exact hl a b h1 h2) (by rw [g2 64 (by omega)]; exact hth) g3
      exact ⟨I', by rw [← hg]; exact q1, fun x a b => by rw [q2 x a b, g1 x a b], fun q hq => by rw [q3 q hq, g2 q hq], q4⟩
    show ∃ I', X12_roundGoes_B80 215 rec (nI k) (hp I L ρ) = _ ∧ _
    unfold X12_roundGoes_B80
    rw [h_if, if_neg (show ¬ (6 : Int32) ≤ nI k from nI_ge (b := 6) hk6 (by omega)), nI_1]
    obtain ⟨w1, w2, w3, w4⟩ := hw
    cases hh : p_hold C s k with
    | none =>
      have e0 : X12_weds 215 (nI k) (hp I L ρ) = some (none, hp I L ρ) := by
        unfold X12_weds
        rw [gr_215_61, la_256 (by omega), hH k (by omega), hh, h_if, oI_none, if_pos rfl]
        rfl
      have en : p_new C s tr k = none := by unfold p_new; rw [hh]
      rw [rc_215, h_cv e0]
      refine step I (fun _ _ _ => rfl) (fun _ _ => rfl) ⟨fun a ha => by rw [p_wk_none hk hS hk6 hh]; exact w1 a ha, w2, by rw [p_fresh, if_pos en]; exact w3, ?_⟩
      cases th with
      | true => exact w4
      | false =>
        show kpM (I 255) C (p_kept C s tr K (k + 1))
        rw [p_kept, en]
        exact w4
    | some r =>
      have hsp := p_hold_spec hk hS hh
      have hk12 := hsp.2.1.1
      have hr12 := hsp.2.1.2
      have ek := hl k r hk12 hh
      have er := hl r k hr12 hsp.2.2.2.2
      have hnew := p_new_some (tr := tr) hh
      have hwk := p_wk_some (tr := tr) hk hS hk6 hh
      -- nothing new
      have out : p_new C s tr k = none → X12_weds 215 (nI k) (hp I L ρ) = some (none, hp I L ρ) → ∃ I', z_rc 12 215 (z_cv (X12_weds 215 (nI k)) (rec (nI (k + 1)))) (hp I L ρ) = X12_roundGoes_J97 215 (hp I' L ρ) ∧ (∀ x, x ≠ 215 → x ≠ 255 → I' x = I x) ∧ (∀ q, q ≠ 63 → I' 215 q = I 215 q) ∧ wedM I' f0 C s tr th K n0 6 := by
        intro en e0
        rw [rc_215, h_cv e0]
        refine step I (fun _ _ _ => rfl) (fun _ _ => rfl) ⟨fun a ha => by rw [hwk, if_pos en]; exact w1 a ha, w2, by rw [p_fresh, if_pos en]; exact w3, ?_⟩
        cases th with
        | true => exact w4
        | false =>
          show kpM (I 255) C (p_kept C s tr K (k + 1))
          rw [p_kept, en]
          exact w4
      by_cases c1 : p_let C s tr k r = false
      · by_cases c2 : p_let C s tr r k = false
        · by_cases c3 : k_kn C k r = false
          · have en : p_new C s tr k = some r := by rw [hnew, if_pos ⟨c1, c2, c3⟩]
            rw [if_neg (by rw [en]; simp)] at hwk
            have efr : p_fresh C s tr (k + 1) = p_fresh C s tr k ++ [k] := by rw [p_fresh, if_neg (by rw [en]; simp)]
            generalize hI3 : u2 (u2 (u2 I 255 (14 + k) (nI r)) 255 (14 + r) (nI k)) 215 63 (nI (n0 + (p_fresh C s tr k).length + 1)) = I3
            have g1 : ∀ x, x ≠ 215 → x ≠ 255 → I3 x = I x := fun x a b => by rw [← hI3, u2r a, u2r b, u2r b]
            have g2 : ∀ q, q ≠ 63 → I3 215 q = I 215 q := fun q hq => by rw [← hI3, u2_ap, if_neg (by omega), u2_ap, if_neg (by omega), u2_ap, if_neg (by omega)]
            have g3 : I3 215 63 = nI (n0 + (p_fresh C s tr k).length + 1) := by rw [← hI3, u2_ap, if_pos ⟨rfl, rfl⟩]
            have hth1 := hsp.1.1
            have hth2 := hsp.1.2
            have g4 : ∀ j, (j < 14 ∨ 26 ≤ j ∨ ¬ k_th C (j - 14)) → I3 255 j = I 255 j := fun j hj => by
              have n1 : ¬ (14 + r = j ∨ 14 + k = j) := by
                rintro (e | e)
                · rcases hj with q | q | q
                  · omega
                  · omega
                  · exact q (by rw [← e, Nat.add_sub_cancel_left]; exact hth2)
                · rcases hj with q | q | q
                  · omega
                  · omega
                  · exact q (by rw [← e, Nat.add_sub_cancel_left]; exact hth1)
              rw [← hI3, u2_ap, if_neg (by omega), u2_ap, if_neg (by omega), u2_ap, if_neg (by omega)]
            have g5 : ∀ a, k_th C a → I3 255 (14 + a) = oI (p_wk C s tr (k + 1) a) := fun a ha => by
              rw [hwk, ← hI3, u2_ap, if_neg (by omega), u2_ap]
              by_cases q1 : a = r
              · rw [if_pos ⟨rfl, by omega⟩, q1]; simp [oI]
              · rw [if_neg (by omega), u2_ap]
                by_cases q2 : a = k
                · rw [if_pos ⟨rfl, by omega⟩, q2]; simp only [if_neg (show ¬ k = r by omega), if_true, oI]
                · rw [if_neg (by omega), w1 a ha]; simp only [if_neg q1, if_neg q2]
            have hM3 : chM I3 C := chM_fr (fun x hx => g1 x (by omega) (by omega)) (g2 53 (by omega)) hM
            have e0 : X12_weds 215 (nI k) (hp I L ρ) = (z_rc 12 215 (z_cv (X12_isKept 215 (nI k) (nI r)) (z_ret none))) (hp I3 L ρ) := by
              unfold X12_weds
              rw [gr_215_61, la_256 hk12, hH k hk12, hh, oI_some, h_if, if_neg (nI_nm1 (by omega)), gr_215_66, la_259 hk12, ek.1, h_if, if_pos (bI_0.mpr c1), gr_215_66, la_259 hr12, er.1, h_if, if_pos (bI_0.mpr c2), rc_215, h_ci (X12_areKin_h hk hM hk12 hr12 hsp.2.2.1), h_if, if_pos (bI_0.mpr c3), gr_215_52, show (14 : Int32) = nI 14 from rfl, nI_add, sa_255 (by omega), gr_215_52, nI_add, sa_255 (by omega), gi_215, u2r (show (215 : Nat) ≠ 255 by decide), u2r (show (215 : Nat) ≠ 255 by decide), w3, nI_1, pi_215, hI3]
            cases th with
            | true =>
              have e1 : X12_isKept 215 (nI k) (nI r) (hp I3 L ρ) = some (none, hp I3 L ρ) := by
                unfold X12_isKept
                rw [gi_215, g2 64 (by omega), hth, h_if, if_neg (by decide)]
                rfl
              have e2 : X12_weds 215 (nI k) (hp I L ρ) = some (none, hp I3 L ρ) := by rw [e0, rc_215, h_cv e1, h_ret]
              rw [rc_215, h_cv e2]
              refine step I3 g1 g2 ⟨g5, fun j hj hj2 => by rw [g4 j hj2]; exact w2 j hj hj2, by rw [g3, efr, List.length_append, List.length_singleton, Nat.add_assoc], ?_⟩
              show ∀ j, 182 ≤ j → I3 255 j = f0 j
              intro j hj
              rw [g4 j (by omega)]
              exact w4 j hj
            | false =>
              have w4' : kpM (I3 255) C (p_kept C s tr K k) := by
                have w5 : kpM (I 255) C (p_kept C s tr K k) := w4
                obtain ⟨k1, k2, k3⟩ := w5
                refine ⟨by rw [g4 182 (by omega)]; exact k1, k2, fun i q hq => ?_⟩
                rw [g4 _ (by omega), g4 _ (by omega), g4 _ (by omega), g4 _ (by omega)]
                exact k3 i q hq
              obtain ⟨I4, e1, d1, d2, d3⟩ := X12_isKept_h (L := L) (ρ := ρ) hk hM3 (sp := s_sp s) (rd := s_rd s) (by rw [g2 64 (by omega), hth]; rfl) (by rw [g4 0 (by omega), w2 0 (by omega) (by omega)]; exact hf0.1) (by rw [g4 1 (by omega), w2 1 (by omega) (by omega)]; exact hf0.2) hk12 hr12 w4'
              have e2 : X12_weds 215 (nI k) (hp I L ρ) = some (none, hp I4 L ρ) := by rw [e0, rc_215, h_cv e1, h_ret]
              rw [rc_215, h_cv e2]
              refine step I4 (fun x a b => by rw [d1 x b, g1 x a b]) (fun q hq => by rw [d1 215 (by omega), g2 q hq]) ⟨fun a ha => ?_, fun j hj hj2 => by rw [d2 j hj, g4 j hj2]; exact w2 j hj hj2, by rw [d1 215 (by omega), g3, efr, List.length_append, List.length_singleton, Nat.add_assoc], ?_⟩
              · have := k_th_lt hk ha
                rw [d2 _ (by omega)]
                exact g5 a ha
              · show kpM (I4 255) C (p_kept C s tr K (k + 1))
                rw [p_kept, en]
                exact d3
          · refine out (by rw [hnew, if_neg (fun c => c3 c.2.2)]) ?_
            unfold X12_weds
            rw [gr_215_61, la_256 hk12, hH k hk12, hh, oI_some, h_if, if_neg (nI_nm1 (by omega)), gr_215_66, la_259 hk12, ek.1, h_if, if_pos (bI_0.mpr c1), gr_215_66, la_259 hr12, er.1, h_if, if_pos (bI_0.mpr c2), rc_215, h_ci (X12_areKin_h hk hM hk12 hr12 hsp.2.2.1), h_if, if_neg (fun c => c3 (bI_0.mp c)), h_ret]
        · refine out (by rw [hnew, if_neg (fun c => c2 c.2.1)]) ?_
          unfold X12_weds
          rw [gr_215_61, la_256 hk12, hH k hk12, hh, oI_some, h_if, if_neg (nI_nm1 (by omega)), gr_215_66, la_259 hk12, ek.1, h_if, if_pos (bI_0.mpr c1), gr_215_66, la_259 hr12, er.1, h_if, if_neg (fun c => c2 (bI_0.mp c)), h_ret]
      · refine out (by rw [hnew, if_neg (fun c => c1 c.1)]) ?_
        unfold X12_weds
        rw [gr_215_61, la_256 hk12, hH k hk12, hh, oI_some, h_if, if_neg (nI_nm1 (by omega)), gr_215_66, la_259 hk12, ek.1, h_if, if_neg (fun c => c1 (bI_0.mp c)), h_ret]
/-- the third walk: what is learnt -/
theorem X12_know_lp (hk : okC C) (hS : okS C s) : ∀ (m k : Nat) (I : Nat → Nat → Int32) (fuel : Nat), k + m = 12 → m < fuel → (∀ j, j < 12 → I 256 j = oI (p_hold C s j)) → letM I C s tr 12 → (∀ a, k_th C a → ∀ i, i < 6 → I 255 (110 + 6 * a + i) = nI (if a < k then p_kno C s (6 * a + i) else s_kno s (6 * a + i))) →
    ∃ I', z_fix (fun r x => X12_roundGoes_B99 215 r x) fuel (nI k) (hp I L ρ) = X12_roundGoes_J143 215 (hp I' L ρ) ∧ (∀ x, x ≠ 255 → I' x = I x) ∧ (∀ j, (j < 110 ∨ 182 ≤ j) → I' 255 j = I 255 j) ∧ ∀ a, k_th C a → ∀ i, i < 6 → I' 255 (110 + 6 * a + i) = nI (p_kno C s (6 * a + i)) := by
  intro m
  induction m with
  | zero =>
    intro k I fuel h1 h2 hH hl hK
    obtain ⟨f, rfl⟩ : ∃ f, fuel = f + 1 := ⟨fuel - 1, by omega⟩
    obtain rfl : k = 12 := by omega
    refine ⟨I, ?_, fun _ _ => rfl, fun _ _ => rfl, fun a ha i hi => ?_⟩
    · rw [h_fix]
      show X12_roundGoes_B99 215 _ (nI 12) (hp I L ρ) = _
      unfold X12_roundGoes_B99
      rw [h_if, if_pos (by decide)]
    · rw [hK a ha i hi, if_pos (k_th_lt hk ha)]
  | succ m ih =>
    intro k I fuel h1 h2 hH hl hK
    obtain ⟨f, rfl⟩ : ∃ f, fuel = f + 1 := ⟨fuel - 1, by omega⟩
    have hk12 : k < 12 := by omega
    rw [h_fix]
    generalize hg : z_fix (fun r x => X12_roundGoes_B99 215 r x) f = rec
    show ∃ I', X12_roundGoes_B99 215 rec (nI k) (hp I L ρ) = _ ∧ _
    unfold X12_roundGoes_B99 X12_roundGoes_J137
    rw [h_if, if_neg (show ¬ (12 : Int32) ≤ nI k from nI_ge (b := 12) hk12 (by omega)), gr_215_61, la_256 hk12, hH k hk12, h_if, nI_1]
    cases hh : p_hold C s k with
    | none =>
      rw [oI_none, if_pos rfl, ← hg]
      exact ih (k + 1) I f (by omega) (by omega) hH hl (fun a ha i hi => by
        rw [hK a ha i hi]
        by_cases q : a = k
        · rw [if_neg (by omega), if_pos (by omega), p_none_kno (by rw [show (6 * a + i) / 6 = k by omega]; exact hh)]
        · by_cases q2 : a < k
          · rw [if_pos q2, if_pos (by omega)]
          · rw [if_neg q2, if_neg (by omega)])
    | some r =>
      have hsp := p_hold_spec hk hS hh
      rw [oI_some, if_neg (nI_nm1 (by omega)), gr_215_52, gr_215_61, la_256 hk12, hH k hk12, hh, oI_some, rc_215, h_ci (X12_knowingAt_h (by omega) (by omega)), gr_215_67, la_260 hk12, (hl k r hk12 hh).2, sa_255 (by omega), ← hg]
      obtain ⟨I', q1, q2, q3, q4⟩ := ih (k + 1) (u2 I 255 (110 + 6 * k + r % 6) (nI (p_learn C s k r))) f (by omega) (by omega) (fun j hj => by rw [u2r (by omega)]; exact hH j hj) (fun a b h1 h2 => by rw [u2r (by omega), u2r (by omega)]; exact hl a b h1 h2) (fun a ha i hi => by
        rw [u2_ap]
        by_cases q : a = k
        · subst q
          have e : p_kno C s (6 * a + i) = if r % 6 = i then p_learn C s a r else s_kno s (6 * a + i) := by
            unfold p_kno
            rw [show (6 * a + i) / 6 = a by omega, hh, show (6 * a + i) % 6 = i by omega]
          rw [if_pos (show a < a + 1 by omega), e]
          by_cases q2 : r % 6 = i
          · rw [if_pos ⟨rfl, by omega⟩, if_pos q2]
          · rw [if_neg (by omega), if_neg q2, hK a ha i hi, if_neg (by omega)]
        · rw [if_neg (by omega), hK a ha i hi]
          by_cases q2 : a < k
          · rw [if_pos q2, if_pos (by omega)]
          · rw [if_neg q2, if_neg (by omega)])
      exact ⟨I', q1, fun x hx => by rw [q2 x hx, u2r hx], fun j hj => by rw [q3 j hj, u2_ap, if_neg (by omega)], q4⟩
theorem k_cd_lt {p a : Nat} (hk : okC C) (ha : k_th C a) (hp : p < k_L C + k_R C) : k_cd C p = a ↔ k_num C a = p := by
  have h1 := k_num_th ha hk
  have h2 := k_cd_th hp hk
  constructor
  · intro e; rw [← e]; exact h2.2.1
  · intro e; rw [← e]; exact h1.2
/-- time: those who are not wed wait -/
theorem X12_wai_lp (hk : okC C) (hS : bnS s) (hW : ∀ a c, s_wed s a = some c → c < 12) : ∀ (m p : Nat) (I : Nat → Nat → Int32) (fuel : Nat), p + m = k_L C + k_R C → m < fuel → chM I C → (∀ a, k_th C a → I 255 (14 + a) = oI (s_wed s a)) → (∀ a, k_th C a → I 255 (26 + a) = nI (if k_num C a < p ∧ s_wed s a = none then (if 99 < s_wai s a + 1 then 99 else s_wai s a + 1) else s_wai s a)) →
    ∃ I', z_fix (fun r x => X12_roundGoes_B186 215 r x) fuel (nI p) (hp I L ρ) = some (none, hp I' L ρ) ∧ (∀ x, x ≠ 255 → I' x = I x) ∧ (∀ j, (j < 26 ∨ 38 ≤ j) → I' 255 j = I 255 j) ∧ ∀ a, k_th C a → I' 255 (26 + a) = nI (if s_wed s a = none then (if 99 < s_wai s a + 1 then 99 else s_wai s a + 1) else s_wai s a) := by
  intro m
  induction m with
  | zero =>
    intro p I fuel h1 h2 hM hw hq
    obtain ⟨f, rfl⟩ : ∃ f, fuel = f + 1 := ⟨fuel - 1, by omega⟩
    obtain ⟨⟨b1, b2⟩, -⟩ := id hk
    refine ⟨I, ?_, fun _ _ => rfl, fun _ _ => rfl, fun a ha => ?_⟩
    · rw [h_fix]
      show X12_roundGoes_B186 215 _ (nI p) (hp I L ρ) = _
      unfold X12_roundGoes_B186
      rw [rc_215, h_ci (X12_peopleMany_h hM), h_if, if_pos (nI_le (by omega) (by omega)), h_ret]
    · rw [hq a ha]
      have := (k_num_th ha hk).1
      have e : (k_num C a < p ∧ s_wed s a = none) ↔ s_wed s a = none := ⟨fun h => h.2, fun h => ⟨by omega, h⟩⟩
      simp only [e]
  | succ m ih =>
    intro p I fuel h1 h2 hM hw hq
    obtain ⟨f, rfl⟩ : ∃ f, fuel = f + 1 := ⟨fuel - 1, by omega⟩
    obtain ⟨⟨b1, b2⟩, -⟩ := id hk
    have hp0 : p < k_L C + k_R C := by omega
    have hcd := k_cd_th hp0 hk
    generalize hc : k_cd C p = c at hcd
    have hc12 := k_th_lt hk hcd.1
    have hwc := (hS.2.1 c hc12).1
    rw [h_fix]
    generalize hg : z_fix (fun r x => X12_roundGoes_B186 215 r x) f = rec
    show ∃ I', X12_roundGoes_B186 215 rec (nI p) (hp I L ρ) = _ ∧ _
    have eW : X12_wedTo 215 (nI p) (hp I L ρ) = some (some (.int (oI (s_wed s c))), hp I L ρ) := by
      unfold X12_wedTo
      rw [gr_215_52, rc_215, h_ci (X12_codeOf_h hk hM (by omega)), hc, show (14 : Int32) = nI 14 from rfl, nI_add, la_255 (by omega), hw c hcd.1]
      rfl
    have hqc := hq c hcd.1
    rw [if_neg (by omega)] at hqc
    have eA : X12_waitedOf 215 (nI p) (hp I L ρ) = some (some (.int (nI (s_wai s c))), hp I L ρ) := by
      unfold X12_waitedOf
      rw [gr_215_52, rc_215, h_ci (X12_codeOf_h hk hM (by omega)), hc, show (26 : Int32) = nI 26 from rfl, nI_add, la_255 (by omega), hqc]
      rfl
    have hother : ∀ a, k_th C a → a ≠ c → (k_num C a < p + 1 ∧ s_wed s a = none ↔ k_num C a < p ∧ s_wed s a = none) := fun a ha hne => by
      have : k_num C a ≠ p := fun e => hne (by rw [← hc]; exact ((k_cd_lt hk ha hp0).mpr e).symm)
      constructor
      · intro h; exact ⟨by omega, h.2⟩
      · intro h; exact ⟨by omega, h.2⟩
    unfold X12_roundGoes_B186 X12_roundGoes_J230
    rw [rc_215, h_ci (X12_peopleMany_h hM), h_if, if_neg (nI_ge hp0 (by omega)), rc_215, h_ci eW, h_if]
    simp only [oI_m1 (fun b e => Nat.lt_trans (hW _ b e) (by decide)), nI_1]
    by_cases c1 : s_wed s c = none
    · rw [if_pos c1, rc_215, h_ci eA, h_if]
      have l99 : (99 : Int32) ≤ nI (s_wai s c) ↔ 99 ≤ s_wai s c := nI_le' (a := 99) (by omega) (by omega)
      simp only [l99]
      by_cases c2 : 99 ≤ s_wai s c
      · rw [if_pos c2, ← hg]
        exact ih (p + 1) I f (by omega) (by omega) hM hw (fun a ha => by
          rw [hq a ha]
          by_cases q : a = c
          · subst q
            rw [if_neg (by omega), if_pos ⟨by omega, c1⟩, if_pos (by omega)]
            congr 1; omega
          · simp only [hother a ha q])
      · rw [if_neg c2, gr_215_52, rc_215, h_ci (X12_codeOf_h hk hM (by omega)), hc, show (26 : Int32) = nI 26 from rfl, nI_add, la_255 (by omega), hqc, nI_1, sa_255 (by omega), ← hg]
        obtain ⟨I', q1, q2, q3, q4⟩ := ih (p + 1) (u2 I 255 (26 + c) (nI (s_wai s c + 1))) f (by omega) (by omega) (chM_fr (fun x hx => u2r (by omega)) (by rw [u2r (by omega)]) hM) (fun a ha => by have := k_th_lt hk ha; rw [u2_ap, if_neg (by omega)]; exact hw a ha) (fun a ha => by
          rw [u2_ap]
          by_cases q : a = c
          · subst q
            rw [if_pos ⟨rfl, rfl⟩, if_pos ⟨by omega, c1⟩, if_neg (by omega)]
          · rw [if_neg (by omega), hq a ha]
            simp only [hother a ha q])
        exact ⟨I', q1, fun x hx => by rw [q2 x hx, u2r hx], fun j hj => by rw [q3 j hj, u2_ap, if_neg (by omega)], q4⟩
    · rw [if_neg c1, ← hg]
      exact ih (p + 1) I f (by omega) (by omega) hM hw (fun a ha => by
        rw [hq a ha]
        by_cases q : a = c
        · subst q
          rw [if_neg (fun h => c1 h.2), if_neg (fun h => c1 h.2)]
        · simp only [hother a ha q])
end B35
