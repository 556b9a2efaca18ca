/-! the reference goes on behind a part: what drops by rank -/
section B7d
variable {I I0 : Nat → Nat → Int32} {L L0 : Nat → Nat → Int64} {ρ : zRh} {h : zH} {b : Nat → Nat} {n a x o bs kd : Nat} {V W W0 Q : List Nat}
theorem twW {p : Nat → Bool} (h : tw p W0 = []) : ∀ W : List Nat, tw p (W ++ W0) = tw p W ∧ dw p (W ++ W0) = dw p W ++ W0
  | [] => ⟨h, dw_no h⟩
  | v :: W => by
    obtain ⟨h1, h2⟩ := twW h W
    show (if p v = true then v :: tw p (W ++ W0) else []) = (if p v = true then v :: tw p W else []) ∧ (if p v = true then dw p (W ++ W0) else v :: (W ++ W0)) = (if p v = true then dw p W else v :: W) ++ W0
    by_cases c : p v = true
    · rw [if_pos c, if_pos c, if_pos c, if_pos c, h1, h2]; exact ⟨rfl, rfl⟩
    · rw [if_neg c, if_neg c, if_neg c, if_neg c]; exact ⟨rfl, rfl⟩
theorem opn_dw {p : Nat → Bool} : ∀ W : List Nat, opn (dw p W) ≤ opn W
  | [] => Nat.le_refl _
  | v :: W => by
    by_cases c : p v = true
    · have e : dw p (v :: W) = dw p W := if_pos c
      have := opn_dw (p := p) W
      rw [e]
      show _ ≤ (if v = 12 ∨ 20 ≤ v then 1 else 0) + opn W
      omega
    · have e : dw p (v :: W) = v :: W := if_neg c
      rw [e]
      exact Nat.le_refl _
theorem isOn_0 {v : Nat} : decide (([] : List Nat).head? = some v) = false := rfl
theorem isOn_n {v w : Nat} : decide ((w :: V).head? = some v) = decide (w = v) := by
  by_cases c : w = v
  · rw [decide_eq_true c, decide_eq_true (by rw [c]; rfl)]
  · rw [decide_eq_false c, decide_eq_false (fun q => c (by cases q; rfl))]
/-- an operator waits -/
theorem q_push {v : Nat} (hv : v < 100) (hl : V.length + Q.length < 1600) (hS : qS I b n x V bs Q o) : ∃ I', (z_gr 12 106 215 fun x1 => z_gi 12 107 215 fun x2 => z_sa 20 x1 x2 (nI v) (z_gi 12 107 215 fun x3 => z_pi 12 107 215 (x3 + 1) (z_rb 1))) (hp I L ρ) = some (some (.int 1), hp I' L ρ) ∧ qF I I' ∧ qS I' b n x (v :: V) bs Q o := by
  refine ⟨_, ?_, qF_tr qF_4 (qF_u (by omega)), qS_push hv hl hS⟩
  rw [gr_215_106, gi_215, hS.2.2.1.1, sa_294 (by omega), gi_215, u2r (by omega), hS.2.2.1.1, nI_1, pi_215, h_rb1]
theorem X12_dr34 {v : Nat} (hv : v < 100) : ∀ (V Q : List Nat) (fuel : Nat) (I : Nat → Nat → Int32), qS I b n x V bs Q o → V.length < fuel → V.length + Q.length < 1600 → ∃ I', z_fix (fun r x => X12_qGoesOn_B162 215 (nI v) r ) fuel (()) (hp I L ρ) = some (some (.int 1), hp I' L ρ) ∧ qF I I' ∧ qS I' b n x (v :: dw p34 V) bs (Q ++ tw p34 V) o := by
  intro V
  induction V with
  | nil =>
    intro Q fuel I hS hf hl
    obtain ⟨f, rfl⟩ : ∃ f, fuel = f + 1 := ⟨fuel - 1, by omega⟩
    obtain ⟨I1, r1, r2, r3⟩ := q_push (L := L) (ρ := ρ) hv hl hS
    refine ⟨I1, ?_, r2, by rw [show Q ++ tw p34 [] = Q from List.append_nil _]; exact r3⟩
    rw [h_fix]
    show X12_qGoesOn_B162 215 (nI v) _ (hp I L ρ) = _
    unfold X12_qGoesOn_B162 X12_qGoesOn_J185
    rw [rc_215, show (3 : Int32) = nI 3 from rfl, h_ci (X12_qIsOn_h (by omega) hS), h_if, isOn_0, bF, if_pos rfl, rc_215, show (4 : Int32) = nI 4 from rfl, h_ci (X12_qIsOn_h (by omega) hS), h_if, isOn_0, bF, if_pos rfl]
    exact r1
  | cons w V ih =>
    intro Q fuel I hS hf hl
    obtain ⟨f, rfl⟩ : ∃ f, fuel = f + 1 := ⟨fuel - 1, by omega⟩
    rw [List.length_cons] at hf hl
    rw [h_fix]
    show ∃ I', X12_qGoesOn_B162 215 (nI v) _ (hp I L ρ) = _ ∧ _
    obtain ⟨I1, r1, r2, r3⟩ := X12_qDrops_h (L := L) (ρ := ρ) hS
    obtain ⟨I2, s1, s2, s3⟩ := ih (Q ++ [w]) f I1 r3 (by omega) (by rw [List.length_append]; show V.length + (Q.length + 1) < 1600; omega)
    have hd : p34 w = true → tw p34 (w :: V) = w :: tw p34 V ∧ dw p34 (w :: V) = dw p34 V := fun c => ⟨if_pos c, if_pos c⟩
    have fin : p34 w = true → qF I I2 ∧ qS I2 b n x (v :: dw p34 (w :: V)) bs (Q ++ tw p34 (w :: V)) o := fun c => by
      refine ⟨qF_tr r2 s2, ?_⟩
      rw [(hd c).1, (hd c).2, show Q ++ w :: tw p34 V = Q ++ [w] ++ tw p34 V by simp only [List.append_assoc]; rfl]
      exact s3
    unfold X12_qGoesOn_B162 X12_qGoesOn_J178 X12_qGoesOn_J185
    rw [rc_215, show (3 : Int32) = nI 3 from rfl, h_ci (X12_qIsOn_h (by omega) hS), h_if, isOn_n]
    by_cases c3 : w = 3
    · rw [decide_eq_true c3, if_neg (by decide), rc_215, h_cv r1]
      exact ⟨I2, s1, fin (decide_eq_true (by omega))⟩
    · rw [decide_eq_false c3, bF, if_pos rfl, rc_215, show (4 : Int32) = nI 4 from rfl, h_ci (X12_qIsOn_h (by omega) hS), h_if, isOn_n]
      by_cases c4 : w = 4
      · rw [decide_eq_true c4, if_neg (by decide), rc_215, h_cv r1]
        exact ⟨I2, s1, fin (decide_eq_true (by omega))⟩
      · rw [decide_eq_false c4, bF, if_pos rfl]
        have e : tw p34 (w :: V) = [] := tw_hd (decide_eq_false (by omega))
        obtain ⟨I3, q1, q2, q3⟩ := q_push (L := L) (ρ := ρ) hv (by rw [List.length_cons]; exact hl) hS
        refine ⟨I3, q1, q2, ?_⟩
        rw [e, dw_no e, List.append_nil]
        exact q3
theorem X12_dr14 {v : Nat} (hv : v < 100) : ∀ (V Q : List Nat) (fuel : Nat) (I : Nat → Nat → Int32), qS I b n x V bs Q o → V.length < fuel → V.length + Q.length < 1600 → ∃ I', z_fix (fun r x => X12_qGoesOn_B247 215 (nI v) r ) fuel (()) (hp I L ρ) = some (some (.int 1), hp I' L ρ) ∧ qF I I' ∧ qS I' b n x (v :: dw p14 V) bs (Q ++ tw p14 V) o := by
  intro V
  induction V with
  | nil =>
    intro Q fuel I hS hf hl
    obtain ⟨f, rfl⟩ : ∃ f, fuel = f + 1 := ⟨fuel - 1, by omega⟩
    obtain ⟨I1, r1, r2, r3⟩ := q_push (L := L) (ρ := ρ) hv hl hS
    refine ⟨I1, ?_, r2, by rw [show Q ++ tw p14 [] = Q from List.append_nil _]; exact r3⟩
    rw [h_fix]
    show X12_qGoesOn_B247 215 (nI v) _ (hp I L ρ) = _
    unfold X12_qGoesOn_B247 X12_qGoesOn_J286
    rw [rc_215, show (3 : Int32) = nI 3 from rfl, h_ci (X12_qIsOn_h (by omega) hS), h_if, isOn_0, bF, if_pos rfl, rc_215, show (4 : Int32) = nI 4 from rfl, h_ci (X12_qIsOn_h (by omega) hS), h_if, isOn_0, bF, if_pos rfl, rc_215, show X12_qIsOn 215 1 = X12_qIsOn 215 (nI 1) from rfl, h_ci (X12_qIsOn_h (by omega) hS), h_if, isOn_0, bF, if_pos rfl, rc_215, show X12_qIsOn 215 2 = X12_qIsOn 215 (nI 2) from rfl, h_ci (X12_qIsOn_h (by omega) hS), h_if, isOn_0, bF, if_pos rfl]
    exact r1
  | cons w V ih =>
    intro Q fuel I hS hf hl
    obtain ⟨f, rfl⟩ : ∃ f, fuel = f + 1 := ⟨fuel - 1, by omega⟩
    rw [List.length_cons] at hf hl
    rw [h_fix]
    show ∃ I', X12_qGoesOn_B247 215 (nI v) _ (hp I L ρ) = _ ∧ _
    obtain ⟨I1, r1, r2, r3⟩ := X12_qDrops_h (L := L) (ρ := ρ) hS
    obtain ⟨I2, s1, s2, s3⟩ := ih (Q ++ [w]) f I1 r3 (by omega) (by rw [List.length_append]; show V.length + (Q.length + 1) < 1600; omega)
    have hd : p14 w = true → tw p14 (w :: V) = w :: tw p14 V ∧ dw p14 (w :: V) = dw p14 V := fun c => ⟨if_pos c, if_pos c⟩
    have fin : p14 w = true → qF I I2 ∧ qS I2 b n x (v :: dw p14 (w :: V)) bs (Q ++ tw p14 (w :: V)) o := fun c => by
      refine ⟨qF_tr r2 s2, ?_⟩
      rw [(hd c).1, (hd c).2, show Q ++ w :: tw p14 V = Q ++ [w] ++ tw p14 V by simp only [List.append_assoc]; rfl]
      exact s3
    unfold X12_qGoesOn_B247 X12_qGoesOn_J279 X12_qGoesOn_J286
    rw [rc_215, show (3 : Int32) = nI 3 from rfl, h_ci (X12_qIsOn_h (by omega) hS), h_if, isOn_n]
    by_cases c3 : w = 3
    · rw [decide_eq_true c3, if_neg (by decide), rc_215, h_cv r1]
      exact ⟨I2, s1, fin (decide_eq_true (by omega))⟩
    · rw [decide_eq_false c3, bF, if_pos rfl, rc_215, show (4 : Int32) = nI 4 from rfl, h_ci (X12_qIsOn_h (by omega) hS), h_if, isOn_n]
      by_cases c4 : w = 4
      · rw [decide_eq_true c4, if_neg (by decide), rc_215, h_cv r1]
        exact ⟨I2, s1, fin (decide_eq_true (by omega))⟩
      · rw [decide_eq_false c4, bF, if_pos rfl, rc_215, show X12_qIsOn 215 1 = X12_qIsOn 215 (nI 1) from rfl, h_ci (X12_qIsOn_h (by omega) hS), h_if, isOn_n]
        by_cases c1 : w = 1
        · rw [decide_eq_true c1, if_neg (by decide), rc_215, h_cv r1]
          exact ⟨I2, s1, fin (decide_eq_true (by omega))⟩
        · rw [decide_eq_false c1, bF, if_pos rfl, rc_215, show X12_qIsOn 215 2 = X12_qIsOn 215 (nI 2) from rfl, h_ci (X12_qIsOn_h (by omega) hS), h_if, isOn_n]
          by_cases c2 : w = 2
          · rw [decide_eq_true c2, if_neg (by decide), rc_215, h_cv r1]
            exact ⟨I2, s1, fin (decide_eq_true (by omega))⟩
          · rw [decide_eq_false c2, bF, if_pos rfl]
            have e : tw p14 (w :: V) = [] := tw_hd (decide_eq_false (by omega))
            obtain ⟨I3, q1, q2, q3⟩ := q_push (L := L) (ρ := ρ) hv (by rw [List.length_cons]; exact hl) hS
            refine ⟨I3, q1, q2, ?_⟩
            rw [e, dw_no e, List.append_nil]
            exact q3
end B7d
