/-! the class: a round, those of the left one by one -/
section B22
variable {I : Nat → Nat → Int32} {L : Nat → Nat → Int64} {ρ : zRh} {C : cT} {s : sT} {tr : Option Nat}
theorem p_fresh_le : ∀ k, (p_fresh C s tr k).length ≤ k := by
  intro k
  induction k with
  | zero => simp [p_fresh]
  | succ k ih =>
    unfold p_fresh
    split
    · omega
    · rw [List.length_append]; simp; omega
def goF_13_41 (x : Nat) : Prop := x ≠ 49 ∧ x ≠ 50 ∧ x ≠ 51 ∧ x ≠ 52 ∧ x ≠ 26 ∧ x ≠ 41 ∧ x ≠ 43 ∧ x ≠ 44 ∧ x ≠ 47
set_option maxHeartbeats 4000000 in
theorem X10_go_step_13_41 (hk : okC C) (hS : okS C s) (ht : ∀ b, tr = some b → b < 12) (hρ : ρ.2.2.1 = 13) {k r : Nat} (hk6 : k < 6) (hr : p_hold C s k = some r) (hC : chX 13 I C) (hX : stX 41 I (p_mid C s tr k)) (hH : ∀ j, j < 12 → I 49 j = oI (p_hold C s j)) (hF : frX (I 50) 0 (p_fresh C s tr k)) (rec : Int32 × Int32 → zM) :
    ∃ I', X10_go_B10 48 41 (oI tr) rec (nI (p_fresh C s tr k).length) (nI k) (hp I L ρ) = rec (nI (p_fresh C s tr (k + 1)).length, nI (k + 1)) (hp I' L ρ) ∧ (∀ x, x ≠ 50 → x ≠ 51 → x ≠ 26 → x ≠ 43 → x ≠ 47 → I' x = I x) ∧ stX 41 I' (p_mid C s tr (k + 1)) ∧ frX (I' 50) 0 (p_fresh C s tr (k + 1)) := by
  have hB := okS_bn hk hS
  have hsp := p_hold_spec hk hS hr
  have hk12 := hsp.2.1.1
  have hr12 := hsp.2.1.2
  have hr6 : 6 ≤ r := by omega
  have hB0 : bnS (p_mid C s tr k) := p_mid_bn hB k
  have hfl := p_fresh_le (C := C) (s := s) (tr := tr) k
  -- how it feels to the left one
  have x0 : p_fx C (p_mid C s tr k) k r = p_fx C s k r := p_fx_eq rfl rfl (by
    show (if p_done C s k ((6 * k + r % 6) / 6) = true then _ else _) = _
    rw [show (6 * k + r % 6) / 6 = k by omega, p_done_self hk6, if_neg (by simp)]) rfl rfl rfl
  have y0 := p_fy_eq x0
  obtain ⟨I1, e1, f1, g1⟩ := X10_feel_13_41 (L := L) hk hB0 hρ hC hX hk12 hr12
  have hC1 : chX 13 I1 C := chX_fr (fun a h1 h2 => f1 a (by omega) (by omega)) hC
  have hX1 : stX 41 I1 (p_mid C s tr k) := stX_fr (fun a h1 h2 => f1 a (by omega) (by omega)) hX
  rw [y0] at g1
  -- whether the left one lets it go
  have first : ∃ I2, X10_go_B10 48 41 (oI tr) rec (nI (p_fresh C s tr k).length) (nI k) (hp I L ρ) = X10_go_J60 rec 48 41 (oI tr) (nI (p_fresh C s tr k).length) (nI k) (nI r) (bI (!p_let C s tr k r)) (hp I2 L ρ) ∧ (∀ x, x ≠ 51 → x ≠ 26 → I2 x = I x) ∧ ∀ j, j < 9 → I2 51 j = ci (p_fy C s k r j) := by
    unfold X10_go_B10
    rw [h_if, if_neg (show ¬ (6 : Int32) ≤ nI k from nI_ge (b := 6) hk6 (by omega)), gr_48_1, la_49 hk12, hH k hk12, hr, oI_some, h_if, if_neg (nI_nm1 (by omega)), rc_48, h_ci e1, h_if]
    simp only [tr_eq hk12 ht]
    by_cases c : tr = some k
    · rw [if_pos c]
      refine ⟨I1, ?_, f1, g1⟩
      unfold X10_go_J59 p_let
      rw [decide_eq_true c]
      rfl
    · obtain ⟨I2, e2, f2⟩ := X10_letsGo_13 (L := L) hk hB hρ hC1 hk12 hr12 g1
      rw [if_neg c, rc_48, h_ci e2, h_if]
      refine ⟨I2, ?_, fun x h1 h2 => by rw [f2 x h2, f1 x h1 h2], fun j hj => by rw [f2 _ (by omega)]; exact g1 j hj⟩
      unfold p_let
      rw [decide_eq_false c, Bool.false_or]
      cases p_lets C s k r <;> rfl
  obtain ⟨I2, e2, f2, g2⟩ := first
  have hC2 : chX 13 I2 C := chX_fr (fun a h1 h2 => f2 a (by omega) (by omega)) hC
  have hX2 : stX 41 I2 (p_mid C s tr k) := stX_fr (fun a h1 h2 => f2 a (by omega) (by omega)) hX
  obtain ⟨I3, e3, f3⟩ := X10_learnt_13 (L := L) hk hB hρ hC2 hk12 hr12 g2
  have hX3 : stX 41 I3 (p_mid C s tr k) := stX_fr (fun a h1 h2 => f3 a (by omega)) hX2
  have hX4 := stX_K (j := 6 * k + r % 6) (v := p_learn C s k r) hX3
  have hC3 : chX 13 I3 C := chX_fr (fun a h1 h2 => f3 a (by omega)) hC2
  have hC4 : chX 13 (u2 I3 47 (6 * k + r % 6) (nI (p_learn C s k r))) C := chX_fr (fun a h1 h2 => u2r (by omega)) hC3
  have hB4 := bnS_K hB0 (6 * k + r % 6) (p_learn_le (C := C) (s := s) k r)
  -- how it feels to the right one
  have x4 : p_fx C (sK (p_mid C s tr k) (6 * k + r % 6) (p_learn C s k r)) r k = p_fx C s r k := p_fx_eq rfl rfl (by
    show (if 6 * r + k % 6 = 6 * k + r % 6 then _ else (if p_done C s k ((6 * r + k % 6) / 6) = true then _ else _)) = _
    rw [if_neg (by omega), show (6 * r + k % 6) / 6 = r by omega, p_done_right hk hS hk6 hr, if_neg (by simp)]) rfl rfl rfl
  have y4 := p_fy_eq x4
  obtain ⟨I5, e5, f5, g5⟩ := X10_feel_13_41 (L := L) hk hB4 hρ hC4 hX4 hr12 hk12
  rw [y4] at g5
  have hC5 : chX 13 I5 C := chX_fr (fun a h1 h2 => f5 a (by omega) (by omega)) hC4
  have second : ∃ I6, X10_go_J60 rec 48 41 (oI tr) (nI (p_fresh C s tr k).length) (nI k) (nI r) (bI (!p_let C s tr k r)) (hp I2 L ρ) = X10_go_J106 rec 48 41 (oI tr) (nI (p_fresh C s tr k).length) (nI k) (nI r) (bI (!p_let C s tr k r)) (bI (!p_let C s tr r k)) (hp I6 L ρ) ∧ (∀ x, x ≠ 51 → x ≠ 26 → I6 x = u2 I3 47 (6 * k + r % 6) (nI (p_learn C s k r)) x) ∧ ∀ j, j < 9 → I6 51 j = ci (p_fy C s r k j) := by
    unfold X10_go_J60
    rw [gr_41_7, h_ci (X11_cell_h (by omega) (by omega)), rc_48, h_ci e3, sa_47 (by omega), rc_48, h_ci e5, h_if]
    simp only [tr_eq hr12 ht]
    by_cases c : tr = some r
    · rw [if_pos c]
      refine ⟨I5, ?_, f5, g5⟩
      unfold X10_go_J105
      have : p_let C s tr r k = true := by
        unfold p_let
        rw [decide_eq_true c, Bool.true_or]
      rw [this]
      rfl
    · obtain ⟨I6, e6, f6⟩ := X10_letsGo_13 (L := L) hk hB hρ hC5 hr12 hk12 g5
      rw [if_neg c, rc_48, h_ci e6, h_if]
      refine ⟨I6, ?_, fun x h1 h2 => by rw [f6 x h2, f5 x h1 h2], fun j hj => by rw [f6 _ (by omega)]; exact g5 j hj⟩
      unfold X10_go_J105
      have : p_let C s tr r k = p_lets C s r k := by
        unfold p_let
        rw [decide_eq_false c, Bool.false_or]
      rw [this]
      cases p_lets C s r k <;> rfl
  obtain ⟨I6, e6, f6, g6⟩ := second
  have hC6 : chX 13 I6 C := chX_fr (fun a h1 h2 => f6 a (by omega) (by omega)) hC4
  have hX6 : stX 41 I6 _ := stX_fr (fun a h1 h2 => f6 a (by omega) (by omega)) hX4
  obtain ⟨I7, e7, f7⟩ := X10_learnt_13 (L := L) hk hB hρ hC6 hr12 hk12 g6
  have hX7 : stX 41 I7 _ := stX_fr (fun a h1 h2 => f7 a (by omega)) hX6
  have hX8 := stX_K (j := 6 * r + k % 6) (v := p_learn C s r k) hX7
  have hC7 : chX 13 I7 C := chX_fr (fun a h1 h2 => f7 a (by omega)) hC6
  have hC8 : chX 13 (u2 I7 47 (6 * r + k % 6) (nI (p_learn C s r k))) C := chX_fr (fun a h1 h2 => u2r (by omega)) hC7
  have f8 : ∀ x, x ≠ 51 → x ≠ 26 → x ≠ 47 → u2 I7 47 (6 * r + k % 6) (nI (p_learn C s r k)) x = I x := fun x h1 h2 h3 => by
    rw [u2r h3, f7 x h2, f6 x h1 h2, u2r h3, f3 x h2, f2 x h1 h2]
  have hmid := p_mid_some (tr := tr) hk hS hk6 hr
  have hnew := p_new_some (tr := tr) hr
  rw [e2, e6]
  unfold X10_go_J106 X10_go_J177
  rw [gr_41_7, h_ci (X11_cell_h (by omega) (by omega)), rc_48, h_ci e7, sa_47 (by omega), h_if]
  simp only [bI_0]
  have out : p_new C s tr k = none → ∃ I', rec (nI (p_fresh C s tr k).length, nI k + 1) (hp (u2 I7 47 (6 * r + k % 6) (nI (p_learn C s r k))) L ρ) = rec (nI (p_fresh C s tr (k + 1)).length, nI (k + 1)) (hp I' L ρ) ∧ (∀ x, x ≠ 50 → x ≠ 51 → x ≠ 26 → x ≠ 43 → x ≠ 47 → I' x = I x) ∧ stX 41 I' (p_mid C s tr (k + 1)) ∧ frX (I' 50) 0 (p_fresh C s tr (k + 1)) := by
    intro hn
    have ef : p_fresh C s tr (k + 1) = p_fresh C s tr k := by rw [p_fresh, if_pos hn]
    rw [if_pos hn] at hmid
    refine ⟨_, by rw [ef, nI_1], fun x _ h1 h2 _ h3 => f8 x h1 h2 h3, by rw [hmid]; exact hX8, ?_⟩
    rw [ef, f8 50 (by omega) (by omega) (by omega)]
    exact hF
  by_cases c1 : p_let C s tr k r = false
  · rw [if_neg (by simp [c1]), h_if]
    by_cases c2 : p_let C s tr r k = false
    · rw [if_neg (by simp [c2]), gr_48_0, hρ, rc_13, h_ci (X1_areKin_13 hC8 hk12 hr12), h_if]
      by_cases c3 : k_kn C k r = false
      · rw [if_pos (bI_0.mpr c3), gr_41_3, sa_43 hk12, gr_41_3, sa_43 hr12, gr_48_2, sa_50 (by omega), nI_1, nI_1]
        have hn : p_new C s tr k = some r := by rw [hnew, if_pos ⟨c1, c2, c3⟩]
        have ef : p_fresh C s tr (k + 1) = p_fresh C s tr k ++ [k] := by rw [p_fresh, if_neg (by rw [hn]; simp)]
        rw [if_neg (by rw [hn]; simp)] at hmid
        have hX9 := stX_W (a := r) (v := some k) (stX_W (a := k) (v := some r) hX8)
        refine ⟨_, by rw [ef, List.length_append, List.length_singleton], fun x h0 h1 h2 h4 h3 => by rw [u2r h0, u2r h4, u2r h4, f8 x h1 h2 h3], ?_, ?_⟩
        · rw [hmid]
          exact stX_fr (fun a h1 h2 => u2r (by omega)) hX9
        · rw [ef]
          refine frX_snoc hF ?_ fun i hi => ?_
          · rw [u2_ap, if_pos ⟨rfl, by omega⟩]
          · rw [u2_ap, if_neg (by omega), u2r (show (50 : Nat) ≠ 43 by decide), u2r (show (50 : Nat) ≠ 43 by decide), f8 50 (by omega) (by omega) (by omega)]
      · rw [if_neg (fun c => c3 (bI_0.mp c))]
        exact out (by rw [hnew, if_neg (fun c => c3 c.2.2)])
    · rw [if_pos (by simp [c2])]
      exact out (by rw [hnew, if_neg (fun c => c2 c.2.1)])
  · rw [if_pos (by simp [c1])]
    exact out (by rw [hnew, if_neg (fun c => c1 c.1)])
theorem X10_go_lp_13_41 (hk : okC C) (hS : okS C s) (ht : ∀ b, tr = some b → b < 12) (hρ : ρ.2.2.1 = 13) : ∀ (m k : Nat) (I : Nat → Nat → Int32) (fuel : Nat), k + m = 6 → m < fuel → chX 13 I C → stX 41 I (p_mid C s tr k) → (∀ j, j < 12 → I 49 j = oI (p_hold C s j)) → frX (I 50) 0 (p_fresh C s tr k) →
    ∃ I', z_fix (fun r x => X10_go_B10 48 41 (oI tr) r x.1 x.2) fuel (nI (p_fresh C s tr k).length, nI k) (hp I L ρ) = X10_go_J183 48 41 (nI (p_fresh C s tr 6).length) (hp I' L ρ) ∧ (∀ x, x ≠ 50 → x ≠ 51 → x ≠ 26 → x ≠ 43 → x ≠ 47 → I' x = I x) ∧ stX 41 I' (p_mid C s tr 6) ∧ frX (I' 50) 0 (p_fresh C s tr 6) := by
  intro m
  induction m with
  | zero =>
    intro k I fuel h1 h2 hC hX hH hF
    obtain ⟨f, rfl⟩ : ∃ f, fuel = f + 1 := ⟨fuel - 1, by omega⟩
    obtain rfl : k = 6 := by omega
    refine ⟨I, ?_, fun _ _ _ _ _ _ => rfl, hX, hF⟩
    rw [h_fix]
    show X10_go_B10 48 41 (oI tr) _ (nI (p_fresh C s tr 6).length) (nI 6) (hp I L ρ) = _
    unfold X10_go_B10
    rw [h_if, if_pos (by decide)]
  | succ m ih =>
    intro k I fuel h1 h2 hC hX hH hF
    obtain ⟨f, rfl⟩ : ∃ f, fuel = f + 1 := ⟨fuel - 1, by omega⟩
    have hk6 : k < 6 := by omega
    rw [h_fix]
    generalize hg : z_fix (fun r x => X10_go_B10 48 41 (oI tr) r x.1 x.2) f = rec
    show ∃ I', X10_go_B10 48 41 (oI tr) rec (nI (p_fresh C s tr k).length) (nI k) (hp I L ρ) = _ ∧ _
    cases hh : p_hold C s k with
    | none =>
      have e1 := p_mid_none (tr := tr) hk hS hk6 hh
      have e2 := p_fresh_none (tr := tr) hh
      unfold X10_go_B10 X10_go_J177
      rw [h_if, if_neg (show ¬ (6 : Int32) ≤ nI k from nI_ge (b := 6) hk6 (by omega)), gr_48_1, la_49 (by omega), hH k (by omega), hh, oI_none, h_if, if_pos rfl, nI_1, ← hg, ← e2]
      exact ih (k + 1) I f (by omega) (by omega) hC (by rw [e1]; exact hX) hH (by rw [e2]; exact hF)
    | some r =>
      obtain ⟨I1, a1, a2, a3, a4⟩ := X10_go_step_13_41 (L := L) hk hS ht hρ hk6 hh hC hX hH hF rec
      obtain ⟨I2, b1, b2, b3, b4⟩ := ih (k + 1) I1 f (by omega) (by omega) (chX_fr (fun a h1 h2 => a2 a (by omega) (by omega) (by omega) (by omega) (by omega)) hC) a3 (fun j hj => by rw [a2 49 (by omega) (by omega) (by omega) (by omega) (by omega)]; exact hH j hj) a4
      exact ⟨I2, by rw [a1, ← hg]; exact b1, fun x h1 h2 h3 h4 h5 => by rw [b2 x h1 h2 h3 h4 h5, a2 x h1 h2 h3 h4 h5], b3, b4⟩
/-- a round: how many are wed in it, who (the lefts), the state behind it -/
theorem X10_go_13_41 (hk : okC C) (hS : okS C s) (ht : ∀ b, tr = some b → b < 12) (hρ : ρ.2.2.1 = 13) (hC : chX 13 I C) (hX : stX 41 I s) : ∃ I', X10_go 48 41 (oI tr) (hp I L ρ) = some (some (.int (nI (p_fresh C s tr 6).length)), hp I' L ρ) ∧ (∀ x, goF_13_41 x → I' x = I x) ∧ stX 41 I' (p_go C s tr) ∧ frX (I' 50) 0 (p_fresh C s tr 6) := by
  obtain ⟨I1, a1, a2, a3⟩ := X10_give_13_41 (L := L) hk hS hρ hC hX
  have hC1 : chX 13 I1 C := chX_fr (fun a h1 h2 => a2 a (by omega) (by omega)) hC
  have hX1 : stX 41 I1 s := stX_fr (fun a h1 h2 => a2 a (by omega) (by omega)) hX
  obtain ⟨I2, b1, b2, b3, b4⟩ := X10_go_lp_13_41 (L := L) (ρ := ρ) (tr := tr) hk hS ht hρ 6 0 I1 zFU (by omega) (by unfold zFU; omega) hC1 (by rw [p_mid_0]; exact hX1) a3 (fun i hi => absurd hi (by simp [p_fresh]))
  rw [p_mid_6 hk hS] at b3
  have hC2 : chX 13 I2 C := chX_fr (fun a h1 h2 => b2 a (by omega) (by omega) (by omega) (by omega) (by omega)) hC1
  have hB := okS_bn hk hS
  obtain ⟨I3, c1, c2, c3⟩ := X10_time_13_41 (L := L) hk (s := (s.1, s_ord s, p_wed C s tr, s_wai s, s_siz s, s_lik s, p_kno C s)) ⟨hB.1, hB.2.1, fun j hj => ⟨(hB.2.2 j hj).1, p_kno_le hB hj⟩⟩ (fun a c h => by
    have h2 : p_wed C s tr a = some c := h
    unfold p_wed at h2
    split at h2
    · rename_i d hd
      cases h2
      unfold p_new at hd
      split at hd
      · rename_i e he
        split at hd
        · cases hd
          exact (p_hold_spec hk hS he).2.1.2
        · cases hd
      · cases hd
    · exact k_th_lt hk (hS.2.2.2.1 _ _ h2).2.1) hρ hC2 b3
  refine ⟨I3, ?_, fun x hx => ?_, c3, ?_⟩
  · unfold X10_go
    rw [rc_48, h_cv a1]
    refine b1.trans ?_
    unfold X10_go_J183
    rw [rc_48, h_cv c1]
    rfl
  · obtain ⟨h1, h2, h3, h4, h5, h6, h7, h8, h9⟩ := hx
    rw [c2 x h6 h8, b2 x h2 h3 h5 h7 h9, a2 x h1 h4]
  · rw [c2 50 (by omega) (by omega)]
    exact b4
def goF_13_54 (x : Nat) : Prop := x ≠ 49 ∧ x ≠ 50 ∧ x ≠ 51 ∧ x ≠ 52 ∧ x ≠ 26 ∧ x ≠ 54 ∧ x ≠ 56 ∧ x ≠ 57 ∧ x ≠ 60
set_option maxHeartbeats 4000000 in
theorem X10_go_step_13_54 (hk : okC C) (hS : okS C s) (ht : ∀ b, tr = some b → b < 12) (hρ : ρ.2.2.1 = 13) {k r : Nat} (hk6 : k < 6) (hr : p_hold C s k = some r) (hC : chX 13 I C) (hX : stX 54 I (p_mid C s tr k)) (hH : ∀ j, j < 12 → I 49 j = oI (p_hold C s j)) (hF : frX (I 50) 0 (p_fresh C s tr k)) (rec : Int32 × Int32 → zM) :
    ∃ I', X10_go_B10 48 54 (oI tr) rec (nI (p_fresh C s tr k).length) (nI k) (hp I L ρ) = rec (nI (p_fresh C s tr (k + 1)).length, nI (k + 1)) (hp I' L ρ) ∧ (∀ x, x ≠ 50 → x ≠ 51 → x ≠ 26 → x ≠ 56 → x ≠ 60 → I' x = I x) ∧ stX 54 I' (p_mid C s tr (k + 1)) ∧ frX (I' 50) 0 (p_fresh C s tr (k + 1)) := by
  have hB := okS_bn hk hS
  have hsp := p_hold_spec hk hS hr
  have hk12 := hsp.2.1.1
  have hr12 := hsp.2.1.2
  have hr6 : 6 ≤ r := by omega
  have hB0 : bnS (p_mid C s tr k) := p_mid_bn hB k
  have hfl := p_fresh_le (C := C) (s := s) (tr := tr) k
  -- how it feels to the left one
  have x0 : p_fx C (p_mid C s tr k) k r = p_fx C s k r := p_fx_eq rfl rfl (by
    show (if p_done C s k ((6 * k + r % 6) / 6) = true then _ else _) = _
    rw [show (6 * k + r % 6) / 6 = k by omega, p_done_self hk6, if_neg (by simp)]) rfl rfl rfl
  have y0 := p_fy_eq x0
  obtain ⟨I1, e1, f1, g1⟩ := X10_feel_13_54 (L := L) hk hB0 hρ hC hX hk12 hr12
  have hC1 : chX 13 I1 C := chX_fr (fun a h1 h2 => f1 a (by omega) (by omega)) hC
  have hX1 : stX 54 I1 (p_mid C s tr k) := stX_fr (fun a h1 h2 => f1 a (by omega) (by omega)) hX
  rw [y0] at g1
  -- whether the left one lets it go
  have first : ∃ I2, X10_go_B10 48 54 (oI tr) rec (nI (p_fresh C s tr k).length) (nI k) (hp I L ρ) = X10_go_J60 rec 48 54 (oI tr) (nI (p_fresh C s tr k).length) (nI k) (nI r) (bI (!p_let C s tr k r)) (hp I2 L ρ) ∧ (∀ x, x ≠ 51 → x ≠ 26 → I2 x = I x) ∧ ∀ j, j < 9 → I2 51 j = ci (p_fy C s k r j) := by
    unfold X10_go_B10
    rw [h_if, if_neg (show ¬ (6 : Int32) ≤ nI k from nI_ge (b := 6) hk6 (by omega)), gr_48_1, la_49 hk12, hH k hk12, hr, oI_some, h_if, if_neg (nI_nm1 (by omega)), rc_48, h_ci e1, h_if]
    simp only [tr_eq hk12 ht]
    by_cases c : tr = some k
    · rw [if_pos c]
      refine ⟨I1, ?_, f1, g1⟩
      unfold X10_go_J59 p_let
      rw [decide_eq_true c]
      rfl
    · obtain ⟨I2, e2, f2⟩ := X10_letsGo_13 (L := L) hk hB hρ hC1 hk12 hr12 g1
      rw [if_neg c, rc_48, h_ci e2, h_if]
      refine ⟨I2, ?_, fun x h1 h2 => by rw [f2 x h2, f1 x h1 h2], fun j hj => by rw [f2 _ (by omega)]; exact g1 j hj⟩
      unfold p_let
      rw [decide_eq_false c, Bool.false_or]
      cases p_lets C s k r <;> rfl
  obtain ⟨I2, e2, f2, g2⟩ := first
  have hC2 : chX 13 I2 C := chX_fr (fun a h1 h2 => f2 a (by omega) (by omega)) hC
  have hX2 : stX 54 I2 (p_mid C s tr k) := stX_fr (fun a h1 h2 => f2 a (by omega) (by omega)) hX
  obtain ⟨I3, e3, f3⟩ := X10_learnt_13 (L := L) hk hB hρ hC2 hk12 hr12 g2
  have hX3 : stX 54 I3 (p_mid C s tr k) := stX_fr (fun a h1 h2 => f3 a (by omega)) hX2
  have hX4 := stX_K (j := 6 * k + r % 6) (v := p_learn C s k r) hX3
  have hC3 : chX 13 I3 C := chX_fr (fun a h1 h2 => f3 a (by omega)) hC2
  have hC4 : chX 13 (u2 I3 60 (6 * k + r % 6) (nI (p_learn C s k r))) C := chX_fr (fun a h1 h2 => u2r (by omega)) hC3
  have hB4 := bnS_K hB0 (6 * k + r % 6) (p_learn_le (C := C) (s := s) k r)
  -- how it feels to the right one
  have x4 : p_fx C (sK (p_mid C s tr k) (6 * k + r % 6) (p_learn C s k r)) r k = p_fx C s r k := p_fx_eq rfl rfl (by
    show (if 6 * r + k % 6 = 6 * k + r % 6 then _ else (if p_done C s k ((6 * r + k % 6) / 6) = true then _ else _)) = _
    rw [if_neg (by omega), show (6 * r + k % 6) / 6 = r by omega, p_done_right hk hS hk6 hr, if_neg (by simp)]) rfl rfl rfl
  have y4 := p_fy_eq x4
  obtain ⟨I5, e5, f5, g5⟩ := X10_feel_13_54 (L := L) hk hB4 hρ hC4 hX4 hr12 hk12
  rw [y4] at g5
  have hC5 : chX 13 I5 C := chX_fr (fun a h1 h2 => f5 a (by omega) (by omega)) hC4
  have second : ∃ I6, X10_go_J60 rec 48 54 (oI tr) (nI (p_fresh C s tr k).length) (nI k) (nI r) (bI (!p_let C s tr k r)) (hp I2 L ρ) = X10_go_J106 rec 48 54 (oI tr) (nI (p_fresh C s tr k).length) (nI k) (nI r) (bI (!p_let C s tr k r)) (bI (!p_let C s tr r k)) (hp I6 L ρ) ∧ (∀ x, x ≠ 51 → x ≠ 26 → I6 x = u2 I3 60 (6 * k + r % 6) (nI (p_learn C s k r)) x) ∧ ∀ j, j < 9 → I6 51 j = ci (p_fy C s r k j) := by
    unfold X10_go_J60
    rw [gr_54_7, h_ci (X11_cell_h (by omega) (by omega)), rc_48, h_ci e3, sa_60 (by omega), rc_48, h_ci e5, h_if]
    simp only [tr_eq hr12 ht]
    by_cases c : tr = some r
    · rw [if_pos c]
      refine ⟨I5, ?_, f5, g5⟩
      unfold X10_go_J105
      have : p_let C s tr r k = true := by
        unfold p_let
        rw [decide_eq_true c, Bool.true_or]
      rw [this]
      rfl
    · obtain ⟨I6, e6, f6⟩ := X10_letsGo_13 (L := L) hk hB hρ hC5 hr12 hk12 g5
      rw [if_neg c, rc_48, h_ci e6, h_if]
      refine ⟨I6, ?_, fun x h1 h2 => by rw [f6 x h2, f5 x h1 h2], fun j hj => by rw [f6 _ (by omega)]; exact g5 j hj⟩
      unfold X10_go_J105
      have : p_let C s tr r k = p_lets C s r k := by
        unfold p_let
        rw [decide_eq_false c, Bool.false_or]
      rw [this]
      cases p_lets C s r k <;> rfl
  obtain ⟨I6, e6, f6, g6⟩ := second
  have hC6 : chX 13 I6 C := chX_fr (fun a h1 h2 => f6 a (by omega) (by omega)) hC4
  have hX6 : stX 54 I6 _ := stX_fr (fun a h1 h2 => f6 a (by omega) (by omega)) hX4
  obtain ⟨I7, e7, f7⟩ := X10_learnt_13 (L := L) hk hB hρ hC6 hr12 hk12 g6
  have hX7 : stX 54 I7 _ := stX_fr (fun a h1 h2 => f7 a (by omega)) hX6
  have hX8 := stX_K (j := 6 * r + k % 6) (v := p_learn C s r k) hX7
  have hC7 : chX 13 I7 C := chX_fr (fun a h1 h2 => f7 a (by omega)) hC6
  have hC8 : chX 13 (u2 I7 60 (6 * r + k % 6) (nI (p_learn C s r k))) C := chX_fr (fun a h1 h2 => u2r (by omega)) hC7
  have f8 : ∀ x, x ≠ 51 → x ≠ 26 → x ≠ 60 → u2 I7 60 (6 * r + k % 6) (nI (p_learn C s r k)) x = I x := fun x h1 h2 h3 => by
    rw [u2r h3, f7 x h2, f6 x h1 h2, u2r h3, f3 x h2, f2 x h1 h2]
  have hmid := p_mid_some (tr := tr) hk hS hk6 hr
  have hnew := p_new_some (tr := tr) hr
  rw [e2, e6]
  unfold X10_go_J106 X10_go_J177
  rw [gr_54_7, h_ci (X11_cell_h (by omega) (by omega)), rc_48, h_ci e7, sa_60 (by omega), h_if]
  simp only [bI_0]
  have out : p_new C s tr k = none → ∃ I', rec (nI (p_fresh C s tr k).length, nI k + 1) (hp (u2 I7 60 (6 * r + k % 6) (nI (p_learn C s r k))) L ρ) = rec (nI (p_fresh C s tr (k + 1)).length, nI (k + 1)) (hp I' L ρ) ∧ (∀ x, x ≠ 50 → x ≠ 51 → x ≠ 26 → x ≠ 56 → x ≠ 60 → I' x = I x) ∧ stX 54 I' (p_mid C s tr (k + 1)) ∧ frX (I' 50) 0 (p_fresh C s tr (k + 1)) := by
    intro hn
    have ef : p_fresh C s tr (k + 1) = p_fresh C s tr k := by rw [p_fresh, if_pos hn]
    rw [if_pos hn] at hmid
    refine ⟨_, by rw [ef, nI_1], fun x _ h1 h2 _ h3 => f8 x h1 h2 h3, by rw [hmid]; exact hX8, ?_⟩
    rw [ef, f8 50 (by omega) (by omega) (by omega)]
    exact hF
  by_cases c1 : p_let C s tr k r = false
  · rw [if_neg (by simp [c1]), h_if]
    by_cases c2 : p_let C s tr r k = false
    · rw [if_neg (by simp [c2]), gr_48_0, hρ, rc_13, h_ci (X1_areKin_13 hC8 hk12 hr12), h_if]
      by_cases c3 : k_kn C k r = false
      · rw [if_pos (bI_0.mpr c3), gr_54_3, sa_56 hk12, gr_54_3, sa_56 hr12, gr_48_2, sa_50 (by omega), nI_1, nI_1]
        have hn : p_new C s tr k = some r := by rw [hnew, if_pos ⟨c1, c2, c3⟩]
        have ef : p_fresh C s tr (k + 1) = p_fresh C s tr k ++ [k] := by rw [p_fresh, if_neg (by rw [hn]; simp)]
        rw [if_neg (by rw [hn]; simp)] at hmid
        have hX9 := stX_W (a := r) (v := some k) (stX_W (a := k) (v := some r) hX8)
        refine ⟨_, by rw [ef, List.length_append, List.length_singleton], fun x h0 h1 h2 h4 h3 => by rw [u2r h0, u2r h4, u2r h4, f8 x h1 h2 h3], ?_, ?_⟩
        · rw [hmid]
          exact stX_fr (fun a h1 h2 => u2r (by omega)) hX9
        · rw [ef]
          refine frX_snoc hF ?_ fun i hi => ?_
          · rw [u2_ap, if_pos ⟨rfl, by omega⟩]
          · rw [u2_ap, if_neg (by omega), u2r (show (50 : Nat) ≠ 56 by decide), u2r (show (50 : Nat) ≠ 56 by decide), f8 50 (by omega) (by omega) (by omega)]
      · rw [if_neg (fun c => c3 (bI_0.mp c))]
        exact out (by rw [hnew, if_neg (fun c => c3 c.2.2)])
    · rw [if_pos (by simp [c2])]
      exact out (by rw [hnew, if_neg (fun c => c2 c.2.1)])
  · rw [if_pos (by simp [c1])]
    exact out (by rw [hnew, if_neg (fun c => c1 c.1)])
theorem X10_go_lp_13_54 (hk : okC C) (hS : okS C s) (ht : ∀ b, tr = some b → b < 12) (hρ : ρ.2.2.1 = 13) : ∀ (m k : Nat) (I : Nat → Nat → Int32) (fuel : Nat), k + m = 6 → m < fuel → chX 13 I C → stX 54 I (p_mid C s tr k) → (∀ j, j < 12 → I 49 j = oI (p_hold C s j)) → frX (I 50) 0 (p_fresh C s tr k) →
    ∃ I', z_fix (fun r x => X10_go_B10 48 54 (oI tr) r x.1 x.2) fuel (nI (p_fresh C s tr k).length, nI k) (hp I L ρ) = X10_go_J183 48 54 (nI (p_fresh C s tr 6).length) (hp I' L ρ) ∧ (∀ x, x ≠ 50 → x ≠ 51 → x ≠ 26 → x ≠ 56 → x ≠ 60 → I' x = I x) ∧ stX 54 I' (p_mid C s tr 6) ∧ frX (I' 50) 0 (p_fresh C s tr 6) := by
  intro m
  induction m with
  | zero =>
    intro k I fuel h1 h2 hC hX hH hF
    obtain ⟨f, rfl⟩ : ∃ f, fuel = f + 1 := ⟨fuel - 1, by omega⟩
    obtain rfl : k = 6 := by omega
    refine ⟨I, ?_, fun _ _ _ _ _ _ => rfl, hX, hF⟩
    rw [h_fix]
    show X10_go_B10 48 54 (oI tr) _ (nI (p_fresh C s tr 6).length) (nI 6) (hp I L ρ) = _
    unfold X10_go_B10
    rw [h_if, if_pos (by decide)]
  | succ m ih =>
    intro k I fuel h1 h2 hC hX hH hF
    obtain ⟨f, rfl⟩ : ∃ f, fuel = f + 1 := ⟨fuel - 1, by omega⟩
    have hk6 : k < 6 := by omega
    rw [h_fix]
    generalize hg : z_fix (fun r x => X10_go_B10 48 54 (oI tr) r x.1 x.2) f = rec
    show ∃ I', X10_go_B10 48 54 (oI tr) rec (nI (p_fresh C s tr k).length) (nI k) (hp I L ρ) = _ ∧ _
    cases hh : p_hold C s k with
    | none =>
      have e1 := p_mid_none (tr := tr) hk hS hk6 hh
      have e2 := p_fresh_none (tr := tr) hh
      unfold X10_go_B10 X10_go_J177
      rw [h_if, if_neg (show ¬ (6 : Int32) ≤ nI k from nI_ge (b := 6) hk6 (by omega)), gr_48_1, la_49 (by omega), hH k (by omega), hh, oI_none, h_if, if_pos rfl, nI_1, ← hg, ← e2]
      exact ih (k + 1) I f (by omega) (by omega) hC (by rw [e1]; exact hX) hH (by rw [e2]; exact hF)
    | some r =>
      obtain ⟨I1, a1, a2, a3, a4⟩ := X10_go_step_13_54 (L := L) hk hS ht hρ hk6 hh hC hX hH hF rec
      obtain ⟨I2, b1, b2, b3, b4⟩ := ih (k + 1) I1 f (by omega) (by omega) (chX_fr (fun a h1 h2 => a2 a (by omega) (by omega) (by omega) (by omega) (by omega)) hC) a3 (fun j hj => by rw [a2 49 (by omega) (by omega) (by omega) (by omega) (by omega)]; exact hH j hj) a4
      exact ⟨I2, by rw [a1, ← hg]; exact b1, fun x h1 h2 h3 h4 h5 => by rw [b2 x h1 h2 h3 h4 h5, a2 x h1 h2 h3 h4 h5], b3, b4⟩
/-- a round: how many are wed in it, who (the lefts), the state behind it -/
theorem X10_go_13_54 (hk : okC C) (hS : okS C s) (ht : ∀ b, tr = some b → b < 12) (hρ : ρ.2.2.1 = 13) (hC : chX 13 I C) (hX : stX 54 I s) : ∃ I', X10_go 48 54 (oI tr) (hp I L ρ) = some (some (.int (nI (p_fresh C s tr 6).length)), hp I' L ρ) ∧ (∀ x, goF_13_54 x → I' x = I x) ∧ stX 54 I' (p_go C s tr) ∧ frX (I' 50) 0 (p_fresh C s tr 6) := by
  obtain ⟨I1, a1, a2, a3⟩ := X10_give_13_54 (L := L) hk hS hρ hC hX
  have hC1 : chX 13 I1 C := chX_fr (fun a h1 h2 => a2 a (by omega) (by omega)) hC
  have hX1 : stX 54 I1 s := stX_fr (fun a h1 h2 => a2 a (by omega) (by omega)) hX
  obtain ⟨I2, b1, b2, b3, b4⟩ := X10_go_lp_13_54 (L := L) (ρ := ρ) (tr := tr) hk hS ht hρ 6 0 I1 zFU (by omega) (by unfold zFU; omega) hC1 (by rw [p_mid_0]; exact hX1) a3 (fun i hi => absurd hi (by simp [p_fresh]))
  rw [p_mid_6 hk hS] at b3
  have hC2 : chX 13 I2 C := chX_fr (fun a h1 h2 => b2 a (by omega) (by omega) (by omega) (by omega) (by omega)) hC1
  have hB := okS_bn hk hS
  obtain ⟨I3, c1, c2, c3⟩ := X10_time_13_54 (L := L) hk (s := (s.1, s_ord s, p_wed C s tr, s_wai s, s_siz s, s_lik s, p_kno C s)) ⟨hB.1, hB.2.1, fun j hj => ⟨(hB.2.2 j hj).1, p_kno_le hB hj⟩⟩ (fun a c h => by
    have h2 : p_wed C s tr a = some c := h
    unfold p_wed at h2
    split at h2
    · rename_i d hd
      cases h2
      unfold p_new at hd
      split at hd
      · rename_i e he
        split at hd
        · cases hd
          exact (p_hold_spec hk hS he).2.1.2
        · cases hd
      · cases hd
    · exact k_th_lt hk (hS.2.2.2.1 _ _ h2).2.1) hρ hC2 b3
  refine ⟨I3, ?_, fun x hx => ?_, c3, ?_⟩
  · unfold X10_go
    rw [rc_48, h_cv a1]
    refine b1.trans ?_
    unfold X10_go_J183
    rw [rc_48, h_cv c1]
    rfl
  · obtain ⟨h1, h2, h3, h4, h5, h6, h7, h8, h9⟩ := hx
    rw [c2 x h6 h8, b2 x h2 h3 h5 h7 h9, a2 x h1 h4]
  · rw [c2 50 (by omega) (by omega)]
    exact b4
def goF_27_41 (x : Nat) : Prop := x ≠ 49 ∧ x ≠ 50 ∧ x ≠ 51 ∧ x ≠ 52 ∧ x ≠ 40 ∧ x ≠ 41 ∧ x ≠ 43 ∧ x ≠ 44 ∧ x ≠ 47
set_option maxHeartbeats 4000000 in
theorem X10_go_step_27_41 (hk : okC C) (hS : okS C s) (ht : ∀ b, tr = some b → b < 12) (hρ : ρ.2.2.1 = 27) {k r : Nat} (hk6 : k < 6) (hr : p_hold C s k = some r) (hC : chX 27 I C) (hX : stX 41 I (p_mid C s tr k)) (hH : ∀ j, j < 12 → I 49 j = oI (p_hold C s j)) (hF : frX (I 50) 0 (p_fresh C s tr k)) (rec : Int32 × Int32 → zM) :
    ∃ I', X10_go_B10 48 41 (oI tr) rec (nI (p_fresh C s tr k).length) (nI k) (hp I L ρ) = rec (nI (p_fresh C s tr (k + 1)).length, nI (k + 1)) (hp I' L ρ) ∧ (∀ x, x ≠ 50 → x ≠ 51 → x ≠ 40 → x ≠ 43 → x ≠ 47 → I' x = I x) ∧ stX 41 I' (p_mid C s tr (k + 1)) ∧ frX (I' 50) 0 (p_fresh C s tr (k + 1)) := by
  have hB := okS_bn hk hS
  have hsp := p_hold_spec hk hS hr
  have hk12 := hsp.2.1.1
  have hr12 := hsp.2.1.2
  have hr6 : 6 ≤ r := by omega
  have hB0 : bnS (p_mid C s tr k) := p_mid_bn hB k
  have hfl := p_fresh_le (C := C) (s := s) (tr := tr) k
  -- how it feels to the left one
  have x0 : p_fx C (p_mid C s tr k) k r = p_fx C s k r := p_fx_eq rfl rfl (by
    show (if p_done C s k ((6 * k + r % 6) / 6) = true then _ else _) = _
    rw [show (6 * k + r % 6) / 6 = k by omega, p_done_self hk6, if_neg (by simp)]) rfl rfl rfl
  have y0 := p_fy_eq x0
  obtain ⟨I1, e1, f1, g1⟩ := X10_feel_27_41 (L := L) hk hB0 hρ hC hX hk12 hr12
  have hC1 : chX 27 I1 C := chX_fr (fun a h1 h2 => f1 a (by omega) (by omega)) hC
  have hX1 : stX 41 I1 (p_mid C s tr k) := stX_fr (fun a h1 h2 => f1 a (by omega) (by omega)) hX
  rw [y0] at g1
  -- whether the left one lets it go
  have first : ∃ I2, X10_go_B10 48 41 (oI tr) rec (nI (p_fresh C s tr k).length) (nI k) (hp I L ρ) = X10_go_J60 rec 48 41 (oI tr) (nI (p_fresh C s tr k).length) (nI k) (nI r) (bI (!p_let C s tr k r)) (hp I2 L ρ) ∧ (∀ x, x ≠ 51 → x ≠ 40 → I2 x = I x) ∧ ∀ j, j < 9 → I2 51 j = ci (p_fy C s k r j) := by
    unfold X10_go_B10
    rw [h_if, if_neg (show ¬ (6 : Int32) ≤ nI k from nI_ge (b := 6) hk6 (by omega)), gr_48_1, la_49 hk12, hH k hk12, hr, oI_some, h_if, if_neg (nI_nm1 (by omega)), rc_48, h_ci e1, h_if]
    simp only [tr_eq hk12 ht]
    by_cases c : tr = some k
    · rw [if_pos c]
      refine ⟨I1, ?_, f1, g1⟩
      unfold X10_go_J59 p_let
      rw [decide_eq_true c]
      rfl
    · obtain ⟨I2, e2, f2⟩ := X10_letsGo_27 (L := L) hk hB hρ hC1 hk12 hr12 g1
      rw [if_neg c, rc_48, h_ci e2, h_if]
      refine ⟨I2, ?_, fun x h1 h2 => by rw [f2 x h2, f1 x h1 h2], fun j hj => by rw [f2 _ (by omega)]; exact g1 j hj⟩
      unfold p_let
      rw [decide_eq_false c, Bool.false_or]
      cases p_lets C s k r <;> rfl
  obtain ⟨I2, e2, f2, g2⟩ := first
  have hC2 : chX 27 I2 C := chX_fr (fun a h1 h2 => f2 a (by omega) (by omega)) hC
  have hX2 : stX 41 I2 (p_mid C s tr k) := stX_fr (fun a h1 h2 => f2 a (by omega) (by omega)) hX
  obtain ⟨I3, e3, f3⟩ := X10_learnt_27 (L := L) hk hB hρ hC2 hk12 hr12 g2
  have hX3 : stX 41 I3 (p_mid C s tr k) := stX_fr (fun a h1 h2 => f3 a (by omega)) hX2
  have hX4 := stX_K (j := 6 * k + r % 6) (v := p_learn C s k r) hX3
  have hC3 : chX 27 I3 C := chX_fr (fun a h1 h2 => f3 a (by omega)) hC2
  have hC4 : chX 27 (u2 I3 47 (6 * k + r % 6) (nI (p_learn C s k r))) C := chX_fr (fun a h1 h2 => u2r (by omega)) hC3
  have hB4 := bnS_K hB0 (6 * k + r % 6) (p_learn_le (C := C) (s := s) k r)
  -- how it feels to the right one
  have x4 : p_fx C (sK (p_mid C s tr k) (6 * k + r % 6) (p_learn C s k r)) r k = p_fx C s r k := p_fx_eq rfl rfl (by
    show (if 6 * r + k % 6 = 6 * k + r % 6 then _ else (if p_done C s k ((6 * r + k % 6) / 6) = true then _ else _)) = _
    rw [if_neg (by omega), show (6 * r + k % 6) / 6 = r by omega, p_done_right hk hS hk6 hr, if_neg (by simp)]) rfl rfl rfl
  have y4 := p_fy_eq x4
  obtain ⟨I5, e5, f5, g5⟩ := X10_feel_27_41 (L := L) hk hB4 hρ hC4 hX4 hr12 hk12
  rw [y4] at g5
  have hC5 : chX 27 I5 C := chX_fr (fun a h1 h2 => f5 a (by omega) (by omega)) hC4
  have second : ∃ I6, X10_go_J60 rec 48 41 (oI tr) (nI (p_fresh C s tr k).length) (nI k) (nI r) (bI (!p_let C s tr k r)) (hp I2 L ρ) = X10_go_J106 rec 48 41 (oI tr) (nI (p_fresh C s tr k).length) (nI k) (nI r) (bI (!p_let C s tr k r)) (bI (!p_let C s tr r k)) (hp I6 L ρ) ∧ (∀ x, x ≠ 51 → x ≠ 40 → I6 x = u2 I3 47 (6 * k + r % 6) (nI (p_learn C s k r)) x) ∧ ∀ j, j < 9 → I6 51 j = ci (p_fy C s r k j) := by
    unfold X10_go_J60
    rw [gr_41_7, h_ci (X11_cell_h (by omega) (by omega)), rc_48, h_ci e3, sa_47 (by omega), rc_48, h_ci e5, h_if]
    simp only [tr_eq hr12 ht]
    by_cases c : tr = some r
    · rw [if_pos c]
      refine ⟨I5, ?_, f5, g5⟩
      unfold X10_go_J105
      have : p_let C s tr r k = true := by
        unfold p_let
        rw [decide_eq_true c, Bool.true_or]
      rw [this]
      rfl
    · obtain ⟨I6, e6, f6⟩ := X10_letsGo_27 (L := L) hk hB hρ hC5 hr12 hk12 g5
      rw [if_neg c, rc_48, h_ci e6, h_if]
      refine ⟨I6, ?_, fun x h1 h2 => by rw [f6 x h2, f5 x h1 h2], fun j hj => by rw [f6 _ (by omega)]; exact g5 j hj⟩
      unfold X10_go_J105
      have : p_let C s tr r k = p_lets C s r k := by
        unfold p_let
        rw [decide_eq_false c, Bool.false_or]
      rw [this]
      cases p_lets C s r k <;> rfl
  obtain ⟨I6, e6, f6, g6⟩ := second
  have hC6 : chX 27 I6 C := chX_fr (fun a h1 h2 => f6 a (by omega) (by omega)) hC4
  have hX6 : stX 41 I6 _ := stX_fr (fun a h1 h2 => f6 a (by omega) (by omega)) hX4
  obtain ⟨I7, e7, f7⟩ := X10_learnt_27 (L := L) hk hB hρ hC6 hr12 hk12 g6
  have hX7 : stX 41 I7 _ := stX_fr (fun a h1 h2 => f7 a (by omega)) hX6
  have hX8 := stX_K (j := 6 * r + k % 6) (v := p_learn C s r k) hX7
  have hC7 : chX 27 I7 C := chX_fr (fun a h1 h2 => f7 a (by omega)) hC6
  have hC8 : chX 27 (u2 I7 47 (6 * r + k % 6) (nI (p_learn C s r k))) C := chX_fr (fun a h1 h2 => u2r (by omega)) hC7
  have f8 : ∀ x, x ≠ 51 → x ≠ 40 → x ≠ 47 → u2 I7 47 (6 * r + k % 6) (nI (p_learn C s r k)) x = I x := fun x h1 h2 h3 => by
    rw [u2r h3, f7 x h2, f6 x h1 h2, u2r h3, f3 x h2, f2 x h1 h2]
  have hmid := p_mid_some (tr := tr) hk hS hk6 hr
  have hnew := p_new_some (tr := tr) hr
  rw [e2, e6]
  unfold X10_go_J106 X10_go_J177
  rw [gr_41_7, h_ci (X11_cell_h (by omega) (by omega)), rc_48, h_ci e7, sa_47 (by omega), h_if]
  simp only [bI_0]
  have out : p_new C s tr k = none → ∃ I', rec (nI (p_fresh C s tr k).length, nI k + 1) (hp (u2 I7 47 (6 * r + k % 6) (nI (p_learn C s r k))) L ρ) = rec (nI (p_fresh C s tr (k + 1)).length, nI (k + 1)) (hp I' L ρ) ∧ (∀ x, x ≠ 50 → x ≠ 51 → x ≠ 40 → x ≠ 43 → x ≠ 47 → I' x = I x) ∧ stX 41 I' (p_mid C s tr (k + 1)) ∧ frX (I' 50) 0 (p_fresh C s tr (k + 1)) := by
    intro hn
    have ef : p_fresh C s tr (k + 1) = p_fresh C s tr k := by rw [p_fresh, if_pos hn]
    rw [if_pos hn] at hmid
    refine ⟨_, by rw [ef, nI_1], fun x _ h1 h2 _ h3 => f8 x h1 h2 h3, by rw [hmid]; exact hX8, ?_⟩
    rw [ef, f8 50 (by omega) (by omega) (by omega)]
    exact hF
  by_cases c1 : p_let C s tr k r = false
  · rw [if_neg (by simp [c1]), h_if]
    by_cases c2 : p_let C s tr r k = false
    · rw [if_neg (by simp [c2]), gr_48_0, hρ, rc_27, h_ci (X1_areKin_27 hC8 hk12 hr12), h_if]
      by_cases c3 : k_kn C k r = false
      · rw [if_pos (bI_0.mpr c3), gr_41_3, sa_43 hk12, gr_41_3, sa_43 hr12, gr_48_2, sa_50 (by omega), nI_1, nI_1]
        have hn : p_new C s tr k = some r := by rw [hnew, if_pos ⟨c1, c2, c3⟩]
        have ef : p_fresh C s tr (k + 1) = p_fresh C s tr k ++ [k] := by rw [p_fresh, if_neg (by rw [hn]; simp)]
        rw [if_neg (by rw [hn]; simp)] at hmid
        have hX9 := stX_W (a := r) (v := some k) (stX_W (a := k) (v := some r) hX8)
        refine ⟨_, by rw [ef, List.length_append, List.length_singleton], fun x h0 h1 h2 h4 h3 => by rw [u2r h0, u2r h4, u2r h4, f8 x h1 h2 h3], ?_, ?_⟩
        · rw [hmid]
          exact stX_fr (fun a h1 h2 => u2r (by omega)) hX9
        · rw [ef]
          refine frX_snoc hF ?_ fun i hi => ?_
          · rw [u2_ap, if_pos ⟨rfl, by omega⟩]
          · rw [u2_ap, if_neg (by omega), u2r (show (50 : Nat) ≠ 43 by decide), u2r (show (50 : Nat) ≠ 43 by decide), f8 50 (by omega) (by omega) (by omega)]
      · rw [if_neg (fun c => c3 (bI_0.mp c))]
        exact out (by rw [hnew, if_neg (fun c => c3 c.2.2)])
    · rw [if_pos (by simp [c2])]
      exact out (by rw [hnew, if_neg (fun c => c2 c.2.1)])
  · rw [if_pos (by simp [c1])]
    exact out (by rw [hnew, if_neg (fun c => c1 c.1)])
theorem X10_go_lp_27_41 (hk : okC C) (hS : okS C s) (ht : ∀ b, tr = some b → b < 12) (hρ : ρ.2.2.1 = 27) : ∀ (m k : Nat) (I : Nat → Nat → Int32) (fuel : Nat), k + m = 6 → m < fuel → chX 27 I C → stX 41 I (p_mid C s tr k) → (∀ j, j < 12 → I 49 j = oI (p_hold C s j)) → frX (I 50) 0 (p_fresh C s tr k) →
    ∃ I', z_fix (fun r x => X10_go_B10 48 41 (oI tr) r x.1 x.2) fuel (nI (p_fresh C s tr k).length, nI k) (hp I L ρ) = X10_go_J183 48 41 (nI (p_fresh C s tr 6).length) (hp I' L ρ) ∧ (∀ x, x ≠ 50 → x ≠ 51 → x ≠ 40 → x ≠ 43 → x ≠ 47 → I' x = I x) ∧ stX 41 I' (p_mid C s tr 6) ∧ frX (I' 50) 0 (p_fresh C s tr 6) := by
  intro m
  induction m with
  | zero =>
    intro k I fuel h1 h2 hC hX hH hF
    obtain ⟨f, rfl⟩ : ∃ f, fuel = f + 1 := ⟨fuel - 1, by omega⟩
    obtain rfl : k = 6 := by omega
    refine ⟨I, ?_, fun _ _ _ _ _ _ => rfl, hX, hF⟩
    rw [h_fix]
    show X10_go_B10 48 41 (oI tr) _ (nI (p_fresh C s tr 6).length) (nI 6) (hp I L ρ) = _
    unfold X10_go_B10
    rw [h_if, if_pos (by decide)]
  | succ m ih =>
    intro k I fuel h1 h2 hC hX hH hF
    obtain ⟨f, rfl⟩ : ∃ f, fuel = f + 1 := ⟨fuel - 1, by omega⟩
    have hk6 : k < 6 := by omega
    rw [h_fix]
    generalize hg : z_fix (fun r x => X10_go_B10 48 41 (oI tr) r x.1 x.2) f = rec
    show ∃ I', X10_go_B10 48 41 (oI tr) rec (nI (p_fresh C s tr k).length) (nI k) (hp I L ρ) = _ ∧ _
    cases hh : p_hold C s k with
    | none =>
      have e1 := p_mid_none (tr := tr) hk hS hk6 hh
      have e2 := p_fresh_none (tr := tr) hh
      unfold X10_go_B10 X10_go_J177
      rw [h_if, if_neg (show ¬ (6 : Int32) ≤ nI k from nI_ge (b := 6) hk6 (by omega)), gr_48_1, la_49 (by omega), hH k (by omega), hh, oI_none, h_if, if_pos rfl, nI_1, ← hg, ← e2]
      exact ih (k + 1) I f (by omega) (by omega) hC (by rw [e1]; exact hX) hH (by rw [e2]; exact hF)
    | some r =>
      obtain ⟨I1, a1, a2, a3, a4⟩ := X10_go_step_27_41 (L := L) hk hS ht hρ hk6 hh hC hX hH hF rec
      obtain ⟨I2, b1, b2, b3, b4⟩ := ih (k + 1) I1 f (by omega) (by omega) (chX_fr (fun a h1 h2 => a2 a (by omega) (by omega) (by omega) (by omega) (by omega)) hC) a3 (fun j hj => by rw [a2 49 (by omega) (by omega) (by omega) (by omega) (by omega)]; exact hH j hj) a4
      exact ⟨I2, by rw [a1, ← hg]; exact b1, fun x h1 h2 h3 h4 h5 => by rw [b2 x h1 h2 h3 h4 h5, a2 x h1 h2 h3 h4 h5], b3, b4⟩
/-- a round: how many are wed in it, who (the lefts), the state behind it -/
theorem X10_go_27_41 (hk : okC C) (hS : okS C s) (ht : ∀ b, tr = some b → b < 12) (hρ : ρ.2.2.1 = 27) (hC : chX 27 I C) (hX : stX 41 I s) : ∃ I', X10_go 48 41 (oI tr) (hp I L ρ) = some (some (.int (nI (p_fresh C s tr 6).length)), hp I' L ρ) ∧ (∀ x, goF_27_41 x → I' x = I x) ∧ stX 41 I' (p_go C s tr) ∧ frX (I' 50) 0 (p_fresh C s tr 6) := by
  obtain ⟨I1, a1, a2, a3⟩ := X10_give_27_41 (L := L) hk hS hρ hC hX
  have hC1 : chX 27 I1 C := chX_fr (fun a h1 h2 => a2 a (by omega) (by omega)) hC
  have hX1 : stX 41 I1 s := stX_fr (fun a h1 h2 => a2 a (by omega) (by omega)) hX
  obtain ⟨I2, b1, b2, b3, b4⟩ := X10_go_lp_27_41 (L := L) (ρ := ρ) (tr := tr) hk hS ht hρ 6 0 I1 zFU (by omega) (by unfold zFU; omega) hC1 (by rw [p_mid_0]; exact hX1) a3 (fun i hi => absurd hi (by simp [p_fresh]))
  rw [p_mid_6 hk hS] at b3
  have hC2 : chX 27 I2 C := chX_fr (fun a h1 h2 => b2 a (by omega) (by omega) (by omega) (by omega) (by omega)) hC1
  have hB := okS_bn hk hS
  obtain ⟨I3, c1, c2, c3⟩ := X10_time_27_41 (L := L) hk (s := (s.1, s_ord s, p_wed C s tr, s_wai s, s_siz s, s_lik s, p_kno C s)) ⟨hB.1, hB.2.1, fun j hj => ⟨(hB.2.2 j hj).1, p_kno_le hB hj⟩⟩ (fun a c h => by
    have h2 : p_wed C s tr a = some c := h
    unfold p_wed at h2
    split at h2
    · rename_i d hd
      cases h2
      unfold p_new at hd
      split at hd
      · rename_i e he
        split at hd
        · cases hd
          exact (p_hold_spec hk hS he).2.1.2
        · cases hd
      · cases hd
    · exact k_th_lt hk (hS.2.2.2.1 _ _ h2).2.1) hρ hC2 b3
  refine ⟨I3, ?_, fun x hx => ?_, c3, ?_⟩
  · unfold X10_go
    rw [rc_48, h_cv a1]
    refine b1.trans ?_
    unfold X10_go_J183
    rw [rc_48, h_cv c1]
    rfl
  · obtain ⟨h1, h2, h3, h4, h5, h6, h7, h8, h9⟩ := hx
    rw [c2 x h6 h8, b2 x h2 h3 h5 h7 h9, a2 x h1 h4]
  · rw [c2 50 (by omega) (by omega)]
    exact b4
def goF_27_54 (x : Nat) : Prop := x ≠ 49 ∧ x ≠ 50 ∧ x ≠ 51 ∧ x ≠ 52 ∧ x ≠ 40 ∧ x ≠ 54 ∧ x ≠ 56 ∧ x ≠ 57 ∧ x ≠ 60
set_option maxHeartbeats 4000000 in
theorem X10_go_step_27_54 (hk : okC C) (hS : okS C s) (ht : ∀ b, tr = some b → b < 12) (hρ : ρ.2.2.1 = 27) {k r : Nat} (hk6 : k < 6) (hr : p_hold C s k = some r) (hC : chX 27 I C) (hX : stX 54 I (p_mid C s tr k)) (hH : ∀ j, j < 12 → I 49 j = oI (p_hold C s j)) (hF : frX (I 50) 0 (p_fresh C s tr k)) (rec : Int32 × Int32 → zM) :
    ∃ I', X10_go_B10 48 54 (oI tr) rec (nI (p_fresh C s tr k).length) (nI k) (hp I L ρ) = rec (nI (p_fresh C s tr (k + 1)).length, nI (k + 1)) (hp I' L ρ) ∧ (∀ x, x ≠ 50 → x ≠ 51 → x ≠ 40 → x ≠ 56 → x ≠ 60 → I' x = I x) ∧ stX 54 I' (p_mid C s tr (k + 1)) ∧ frX (I' 50) 0 (p_fresh C s tr (k + 1)) := by
  have hB := okS_bn hk hS
  have hsp := p_hold_spec hk hS hr
  have hk12 := hsp.2.1.1
  have hr12 := hsp.2.1.2
  have hr6 : 6 ≤ r := by omega
  have hB0 : bnS (p_mid C s tr k) := p_mid_bn hB k
  have hfl := p_fresh_le (C := C) (s := s) (tr := tr) k
  -- how it feels to the left one
  have x0 : p_fx C (p_mid C s tr k) k r = p_fx C s k r := p_fx_eq rfl rfl (by
    show (if p_done C s k ((6 * k + r % 6) / 6) = true then _ else _) = _
    rw [show (6 * k + r % 6) / 6 = k by omega, p_done_self hk6, if_neg (by simp)]) rfl rfl rfl
  have y0 := p_fy_eq x0
  obtain ⟨I1, e1, f1, g1⟩ := X10_feel_27_54 (L := L) hk hB0 hρ hC hX hk12 hr12
  have hC1 : chX 27 I1 C := chX_fr (fun a h1 h2 => f1 a (by omega) (by omega)) hC
  have hX1 : stX 54 I1 (p_mid C s tr k) := stX_fr (fun a h1 h2 => f1 a (by omega) (by omega)) hX
  rw [y0] at g1
  -- whether the left one lets it go
  have first : ∃ I2, X10_go_B10 48 54 (oI tr) rec (nI (p_fresh C s tr k).length) (nI k) (hp I L ρ) = X10_go_J60 rec 48 54 (oI tr) (nI (p_fresh C s tr k).length) (nI k) (nI r) (bI (!p_let C s tr k r)) (hp I2 L ρ) ∧ (∀ x, x ≠ 51 → x ≠ 40 → I2 x = I x) ∧ ∀ j, j < 9 → I2 51 j = ci (p_fy C s k r j) := by
    unfold X10_go_B10
    rw [h_if, if_neg (show ¬ (6 : Int32) ≤ nI k from nI_ge (b := 6) hk6 (by omega)), gr_48_1, la_49 hk12, hH k hk12, hr, oI_some, h_if, if_neg (nI_nm1 (by omega)), rc_48, h_ci e1, h_if]
    simp only [tr_eq hk12 ht]
    by_cases c : tr = some k
    · rw [if_pos c]
      refine ⟨I1, ?_, f1, g1⟩
      unfold X10_go_J59 p_let
      rw [decide_eq_true c]
      rfl
    · obtain ⟨I2, e2, f2⟩ := X10_letsGo_27 (L := L) hk hB hρ hC1 hk12 hr12 g1
      rw [if_neg c, rc_48, h_ci e2, h_if]
      refine ⟨I2, ?_, fun x h1 h2 => by rw [f2 x h2, f1 x h1 h2], fun j hj => by rw [f2 _ (by omega)]; exact g1 j hj⟩
      unfold p_let
      rw [decide_eq_false c, Bool.false_or]
      cases p_lets C s k r <;> rfl
  obtain ⟨I2, e2, f2, g2⟩ := first
  have hC2 : chX 27 I2 C := chX_fr (fun a h1 h2 => f2 a (by omega) (by omega)) hC
  have hX2 : stX 54 I2 (p_mid C s tr k) := stX_fr (fun a h1 h2 => f2 a (by omega) (by omega)) hX
  obtain ⟨I3, e3, f3⟩ := X10_learnt_27 (L := L) hk hB hρ hC2 hk12 hr12 g2
  have hX3 : stX 54 I3 (p_mid C s tr k) := stX_fr (fun a h1 h2 => f3 a (by omega)) hX2
  have hX4 := stX_K (j := 6 * k + r % 6) (v := p_learn C s k r) hX3
  have hC3 : chX 27 I3 C := chX_fr (fun a h1 h2 => f3 a (by omega)) hC2
  have hC4 : chX 27 (u2 I3 60 (6 * k + r % 6) (nI (p_learn C s k r))) C := chX_fr (fun a h1 h2 => u2r (by omega)) hC3
  have hB4 := bnS_K hB0 (6 * k + r % 6) (p_learn_le (C := C) (s := s) k r)
  -- how it feels to the right one
  have x4 : p_fx C (sK (p_mid C s tr k) (6 * k + r % 6) (p_learn C s k r)) r k = p_fx C s r k := p_fx_eq rfl rfl (by
    show (if 6 * r + k % 6 = 6 * k + r % 6 then _ else (if p_done C s k ((6 * r + k % 6) / 6) = true then _ else _)) = _
    rw [if_neg (by omega), show (6 * r + k % 6) / 6 = r by omega, p_done_right hk hS hk6 hr, if_neg (by simp)]) rfl rfl rfl
  have y4 := p_fy_eq x4
  obtain ⟨I5, e5, f5, g5⟩ := X10_feel_27_54 (L := L) hk hB4 hρ hC4 hX4 hr12 hk12
  rw [y4] at g5
  have hC5 : chX 27 I5 C := chX_fr (fun a h1 h2 => f5 a (by omega) (by omega)) hC4
  have second : ∃ I6, X10_go_J60 rec 48 54 (oI tr) (nI (p_fresh C s tr k).length) (nI k) (nI r) (bI (!p_let C s tr k r)) (hp I2 L ρ) = X10_go_J106 rec 48 54 (oI tr) (nI (p_fresh C s tr k).length) (nI k) (nI r) (bI (!p_let C s tr k r)) (bI (!p_let C s tr r k)) (hp I6 L ρ) ∧ (∀ x, x ≠ 51 → x ≠ 40 → I6 x = u2 I3 60 (6 * k + r % 6) (nI (p_learn C s k r)) x) ∧ ∀ j, j < 9 → I6 51 j = ci (p_fy C s r k j) := by
    unfold X10_go_J60
    rw [gr_54_7, h_ci (X11_cell_h (by omega) (by omega)), rc_48, h_ci e3, sa_60 (by omega), rc_48, h_ci e5, h_if]
    simp only [tr_eq hr12 ht]
    by_cases c : tr = some r
    · rw [if_pos c]
      refine ⟨I5, ?_, f5, g5⟩
      unfold X10_go_J105
      have : p_let C s tr r k = true := by
        unfold p_let
        rw [decide_eq_true c, Bool.true_or]
      rw [this]
      rfl
    · obtain ⟨I6, e6, f6⟩ := X10_letsGo_27 (L := L) hk hB hρ hC5 hr12 hk12 g5
      rw [if_neg c, rc_48, h_ci e6, h_if]
      refine ⟨I6, ?_, fun x h1 h2 => by rw [f6 x h2, f5 x h1 h2], fun j hj => by rw [f6 _ (by omega)]; exact g5 j hj⟩
      unfold X10_go_J105
      have : p_let C s tr r k = p_lets C s r k := by
        unfold p_let
        rw [decide_eq_false c, Bool.false_or]
      rw [this]
      cases p_lets C s r k <;> rfl
  obtain ⟨I6, e6, f6, g6⟩ := second
  have hC6 : chX 27 I6 C := chX_fr (fun a h1 h2 => f6 a (by omega) (by omega)) hC4
  have hX6 : stX 54 I6 _ := stX_fr (fun a h1 h2 => f6 a (by omega) (by omega)) hX4
  obtain ⟨I7, e7, f7⟩ := X10_learnt_27 (L := L) hk hB hρ hC6 hr12 hk12 g6
  have hX7 : stX 54 I7 _ := stX_fr (fun a h1 h2 => f7 a (by omega)) hX6
  have hX8 := stX_K (j := 6 * r + k % 6) (v := p_learn C s r k) hX7
  have hC7 : chX 27 I7 C := chX_fr (fun a h1 h2 => f7 a (by omega)) hC6
  have hC8 : chX 27 (u2 I7 60 (6 * r + k % 6) (nI (p_learn C s r k))) C := chX_fr (fun a h1 h2 => u2r (by omega)) hC7
  have f8 : ∀ x, x ≠ 51 → x ≠ 40 → x ≠ 60 → u2 I7 60 (6 * r + k % 6) (nI (p_learn C s r k)) x = I x := fun x h1 h2 h3 => by
    rw [u2r h3, f7 x h2, f6 x h1 h2, u2r h3, f3 x h2, f2 x h1 h2]
  have hmid := p_mid_some (tr := tr) hk hS hk6 hr
  have hnew := p_new_some (tr := tr) hr
  rw [e2, e6]
  unfold X10_go_J106 X10_go_J177
  rw [gr_54_7, h_ci (X11_cell_h (by omega) (by omega)), rc_48, h_ci e7, sa_60 (by omega), h_if]
  simp only [bI_0]
  have out : p_new C s tr k = none → ∃ I', rec (nI (p_fresh C s tr k).length, nI k + 1) (hp (u2 I7 60 (6 * r + k % 6) (nI (p_learn C s r k))) L ρ) = rec (nI (p_fresh C s tr (k + 1)).length, nI (k + 1)) (hp I' L ρ) ∧ (∀ x, x ≠ 50 → x ≠ 51 → x ≠ 40 → x ≠ 56 → x ≠ 60 → I' x = I x) ∧ stX 54 I' (p_mid C s tr (k + 1)) ∧ frX (I' 50) 0 (p_fresh C s tr (k + 1)) := by
    intro hn
    have ef : p_fresh C s tr (k + 1) = p_fresh C s tr k := by rw [p_fresh, if_pos hn]
    rw [if_pos hn] at hmid
    refine ⟨_, by rw [ef, nI_1], fun x _ h1 h2 _ h3 => f8 x h1 h2 h3, by rw [hmid]; exact hX8, ?_⟩
    rw [ef, f8 50 (by omega) (by omega) (by omega)]
    exact hF
  by_cases c1 : p_let C s tr k r = false
  · rw [if_neg (by simp [c1]), h_if]
    by_cases c2 : p_let C s tr r k = false
    · rw [if_neg (by simp [c2]), gr_48_0, hρ, rc_27, h_ci (X1_areKin_27 hC8 hk12 hr12), h_if]
      by_cases c3 : k_kn C k r = false
      · rw [if_pos (bI_0.mpr c3), gr_54_3, sa_56 hk12, gr_54_3, sa_56 hr12, gr_48_2, sa_50 (by omega), nI_1, nI_1]
        have hn : p_new C s tr k = some r := by rw [hnew, if_pos ⟨c1, c2, c3⟩]
        have ef : p_fresh C s tr (k + 1) = p_fresh C s tr k ++ [k] := by rw [p_fresh, if_neg (by rw [hn]; simp)]
        rw [if_neg (by rw [hn]; simp)] at hmid
        have hX9 := stX_W (a := r) (v := some k) (stX_W (a := k) (v := some r) hX8)
        refine ⟨_, by rw [ef, List.length_append, List.length_singleton], fun x h0 h1 h2 h4 h3 => by rw [u2r h0, u2r h4, u2r h4, f8 x h1 h2 h3], ?_, ?_⟩
        · rw [hmid]
          exact stX_fr (fun a h1 h2 => u2r (by omega)) hX9
        · rw [ef]
          refine frX_snoc hF ?_ fun i hi => ?_
          · rw [u2_ap, if_pos ⟨rfl, by omega⟩]
          · rw [u2_ap, if_neg (by omega), u2r (show (50 : Nat) ≠ 56 by decide), u2r (show (50 : Nat) ≠ 56 by decide), f8 50 (by omega) (by omega) (by omega)]
      · rw [if_neg (fun c => c3 (bI_0.mp c))]
        exact out (by rw [hnew, if_neg (fun c => c3 c.2.2)])
    · rw [if_pos (by simp [c2])]
      exact out (by rw [hnew, if_neg (fun c => c2 c.2.1)])
  · rw [if_pos (by simp [c1])]
    exact out (by rw [hnew, if_neg (fun c => c1 c.1)])
theorem X10_go_lp_27_54 (hk : okC C) (hS : okS C s) (ht : ∀ b, tr = some b → b < 12) (hρ : ρ.2.2.1 = 27) : ∀ (m k : Nat) (I : Nat → Nat → Int32) (fuel : Nat), k + m = 6 → m < fuel → chX 27 I C → stX 54 I (p_mid C s tr k) → (∀ j, j < 12 → I 49 j = oI (p_hold C s j)) → frX (I 50) 0 (p_fresh C s tr k) →
    ∃ I', z_fix (fun r x => X10_go_B10 48 54 (oI tr) r x.1 x.2) fuel (nI (p_fresh C s tr k).length, nI k) (hp I L ρ) = X10_go_J183 48 54 (nI (p_fresh C s tr 6).length) (hp I' L ρ) ∧ (∀ x, x ≠ 50 → x ≠ 51 → x ≠ 40 → x ≠ 56 → x ≠ 60 → I' x = I x) ∧ stX 54 I' (p_mid C s tr 6) ∧ frX (I' 50) 0 (p_fresh C s tr 6) := by
  intro m
  induction m with
  | zero =>
    intro k I fuel h1 h2 hC hX hH hF
    obtain ⟨f, rfl⟩ : ∃ f, fuel = f + 1 := ⟨fuel - 1, by omega⟩
    obtain rfl : k = 6 := by omega
    refine ⟨I, ?_, fun _ _ _ _ _ _ => rfl, hX, hF⟩
    rw [h_fix]
    show X10_go_B10 48 54 (oI tr) _ (nI (p_fresh C s tr 6).length) (nI 6) (hp I L ρ) = _
    unfold X10_go_B10
    rw [h_if, if_pos (by decide)]
  | succ m ih =>
    intro k I fuel h1 h2 hC hX hH hF
    obtain ⟨f, rfl⟩ : ∃ f, fuel = f + 1 := ⟨fuel - 1, by omega⟩
    have hk6 : k < 6 := by omega
    rw [h_fix]
    generalize hg : z_fix (fun r x => X10_go_B10 48 54 (oI tr) r x.1 x.2) f = rec
    show ∃ I', X10_go_B10 48 54 (oI tr) rec (nI (p_fresh C s tr k).length) (nI k) (hp I L ρ) = _ ∧ _
    cases hh : p_hold C s k with
    | none =>
      have e1 := p_mid_none (tr := tr) hk hS hk6 hh
      have e2 := p_fresh_none (tr := tr) hh
      unfold X10_go_B10 X10_go_J177
      rw [h_if, if_neg (show ¬ (6 : Int32) ≤ nI k from nI_ge (b := 6) hk6 (by omega)), gr_48_1, la_49 (by omega), hH k (by omega), hh, oI_none, h_if, if_pos rfl, nI_1, ← hg, ← e2]
      exact ih (k + 1) I f (by omega) (by omega) hC (by rw [e1]; exact hX) hH (by rw [e2]; exact hF)
    | some r =>
      obtain ⟨I1, a1, a2, a3, a4⟩ := X10_go_step_27_54 (L := L) hk hS ht hρ hk6 hh hC hX hH hF rec
      obtain ⟨I2, b1, b2, b3, b4⟩ := ih (k + 1) I1 f (by omega) (by omega) (chX_fr (fun a h1 h2 => a2 a (by omega) (by omega) (by omega) (by omega) (by omega)) hC) a3 (fun j hj => by rw [a2 49 (by omega) (by omega) (by omega) (by omega) (by omega)]; exact hH j hj) a4
      exact ⟨I2, by rw [a1, ← hg]; exact b1, fun x h1 h2 h3 h4 h5 => by rw [b2 x h1 h2 h3 h4 h5, a2 x h1 h2 h3 h4 h5], b3, b4⟩
/-- a round: how many are wed in it, who (the lefts), the state behind it -/
theorem X10_go_27_54 (hk : okC C) (hS : okS C s) (ht : ∀ b, tr = some b → b < 12) (hρ : ρ.2.2.1 = 27) (hC : chX 27 I C) (hX : stX 54 I s) : ∃ I', X10_go 48 54 (oI tr) (hp I L ρ) = some (some (.int (nI (p_fresh C s tr 6).length)), hp I' L ρ) ∧ (∀ x, goF_27_54 x → I' x = I x) ∧ stX 54 I' (p_go C s tr) ∧ frX (I' 50) 0 (p_fresh C s tr 6) := by
  obtain ⟨I1, a1, a2, a3⟩ := X10_give_27_54 (L := L) hk hS hρ hC hX
  have hC1 : chX 27 I1 C := chX_fr (fun a h1 h2 => a2 a (by omega) (by omega)) hC
  have hX1 : stX 54 I1 s := stX_fr (fun a h1 h2 => a2 a (by omega) (by omega)) hX
  obtain ⟨I2, b1, b2, b3, b4⟩ := X10_go_lp_27_54 (L := L) (ρ := ρ) (tr := tr) hk hS ht hρ 6 0 I1 zFU (by omega) (by unfold zFU; omega) hC1 (by rw [p_mid_0]; exact hX1) a3 (fun i hi => absurd hi (by simp [p_fresh]))
  rw [p_mid_6 hk hS] at b3
  have hC2 : chX 27 I2 C := chX_fr (fun a h1 h2 => b2 a (by omega) (by omega) (by omega) (by omega) (by omega)) hC1
  have hB := okS_bn hk hS
  obtain ⟨I3, c1, c2, c3⟩ := X10_time_27_54 (L := L) hk (s := (s.1, s_ord s, p_wed C s tr, s_wai s, s_siz s, s_lik s, p_kno C s)) ⟨hB.1, hB.2.1, fun j hj => ⟨(hB.2.2 j hj).1, p_kno_le hB hj⟩⟩ (fun a c h => by
    have h2 : p_wed C s tr a = some c := h
    unfold p_wed at h2
    split at h2
    · rename_i d hd
      cases h2
      unfold p_new at hd
      split at hd
      · rename_i e he
        split at hd
        · cases hd
          exact (p_hold_spec hk hS he).2.1.2
        · cases hd
      · cases hd
    · exact k_th_lt hk (hS.2.2.2.1 _ _ h2).2.1) hρ hC2 b3
  refine ⟨I3, ?_, fun x hx => ?_, c3, ?_⟩
  · unfold X10_go
    rw [rc_48, h_cv a1]
    refine b1.trans ?_
    unfold X10_go_J183
    rw [rc_48, h_cv c1]
    rfl
  · obtain ⟨h1, h2, h3, h4, h5, h6, h7, h8, h9⟩ := hx
    rw [c2 x h6 h8, b2 x h2 h3 h5 h7 h9, a2 x h1 h4]
  · rw [c2 50 (by omega) (by omega)]
    exact b4
end B22
