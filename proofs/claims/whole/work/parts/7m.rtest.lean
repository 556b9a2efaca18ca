/-! the reference's test: what waits -/
section B7m
variable {I I0 : Nat → Nat → Int32} {L L0 : Nat → Nat → Int64} {ρ : zRh} {h : zH} {b : Nat → Nat} {n a x o bs kd : Nat} {V W W0 Q : List Nat}
def tW (W : List Nat) : Prop := ∀ v ∈ W, v = 10 ∨ v = 11 ∨ v = 12 ∨ v = 25
def tP (I : Nat → Nat → Int32) (b : Nat → Nat) (n kd x : Nat) (W Q : List Nat) (o : Nat) : Prop := (∃ R, cdR kd R Q ∧ qS I b n x W 0 R o) ∧ wdM I ∧ (I 215 51 = nI kd ∧ kd < 4) ∧ W.length + Q.length ≤ sk b n x ∧ opn W ≤ o ∧ tW W
theorem tw_in {p : Nat → Bool} {v : Nat} : ∀ {W : List Nat}, v ∈ tw p W → v ∈ W ∧ p v = true
  | [], h => by cases h
  | w :: W, h => by
    have h : v ∈ (if p w = true then w :: tw p W else []) := h
    by_cases c : p w = true
    · rw [if_pos c] at h
      rcases List.mem_cons.mp h with q | q
      · rw [q]; exact ⟨List.mem_cons_self .., c⟩
      · exact ⟨List.mem_cons_of_mem _ (tw_in q).1, (tw_in q).2⟩
    · rw [if_neg c] at h; cases h
theorem dw_in {p : Nat → Bool} {v : Nat} : ∀ {W : List Nat}, v ∈ dw p W → v ∈ W
  | [], h => by cases h
  | w :: W, h => by
    have h : v ∈ (if p w = true then dw p W else w :: W) := h
    by_cases c : p w = true
    · rw [if_pos c] at h
      exact List.mem_cons_of_mem _ (dw_in h)
    · rw [if_neg c] at h; exact h
theorem tW_dw {p : Nat → Bool} (h : tW W) : tW (dw p W) := fun v hv => h v (dw_in hv)
theorem tW_tl {v : Nat} (h : tW (v :: W)) : tW W := fun w hw => h w (List.mem_cons_of_mem _ hw)
theorem tW_14 (h : tW W) : tw p14 W = [] := by
  rcases W with _ | ⟨v, W⟩
  · rfl
  · have := h v (List.mem_cons_self ..)
    exact tw_hd (decide_eq_false (by omega))
theorem cdR_wc : ∀ {M : List Nat}, (∀ v ∈ M, v = 10 ∨ v = 11 ∨ v = 12) → cdR kd M (M.map wc)
  | [], _ => ⟨rfl, fun r hr => by cases hr⟩
  | v :: M, h => by
    have h1 := cdR_wc (M := M) (fun w hw => h w (List.mem_cons_of_mem _ hw))
    have h0 : cdR kd [v] [wc v] := by
      rcases h v (List.mem_cons_self ..) with q | q | q
      · rw [q]; exact cdR_op (r := 10) (by omega) (by omega)
      · rw [q]; exact cdR_op (r := 11) (by omega) (by omega)
      · rw [q]
        refine cdR_1 ?_ (Or.inr (Or.inl ⟨by omega, by omega⟩))
        unfold c_dd
        by_cases k : kd = 3
        · rw [if_pos k]; rfl
        · rw [if_neg k]; rfl
    exact cdR_app h0 h1
theorem opn_12 : ∀ W : List Nat, (tw p12 W).length + opn (dw p12 W) = opn W
  | [] => rfl
  | v :: W => by
    by_cases c : v = 12
    · have e2 : p12 v = true := decide_eq_true c
      have e3 : tw p12 (v :: W) = v :: tw p12 W := if_pos e2
      have e4 : dw p12 (v :: W) = dw p12 W := if_pos e2
      have := opn_12 W
      rw [e3, e4, List.length_cons]
      show _ = (if v = 12 ∨ 20 ≤ v then 1 else 0) + opn W
      rw [if_pos (by omega)]; omega
    · have e3 : tw p12 (v :: W) = [] := tw_hd (decide_eq_false c)
      rw [e3, dw_no e3]
      exact Nat.zero_add _
/-- nots drop -/
theorem nots_lp : ∀ (W Q : List Nat) (o fuel : Nat) (I : Nat → Nat → Int32), qS I b n x W bs Q o → (tw p12 W).length ≤ o → W.length < fuel → ∃ I', z_fix (fun r x => X12_qDropsNots_B0 215 r ) fuel (()) (hp I L ρ) = some (none, hp I' L ρ) ∧ qF I I' ∧ qS I' b n x (dw p12 W) bs (Q ++ tw p12 W) (o - (tw p12 W).length) := by
  intro W
  induction W with
  | nil =>
    intro Q o fuel I hS ho hf
    obtain ⟨f, rfl⟩ : ∃ f, fuel = f + 1 := ⟨fuel - 1, by omega⟩
    refine ⟨I, ?_, qF_0, by rw [show Q ++ tw p12 [] = Q from List.append_nil _]; exact hS⟩
    rw [h_fix]
    show X12_qDropsNots_B0 215 _ (hp I L ρ) = _
    unfold X12_qDropsNots_B0
    rw [gi_215, h_if, if_pos hS.2.1, rc_215, show X12_qIsOn 215 12 = X12_qIsOn 215 (nI 12) from rfl, h_ci (X12_qIsOn_h (by omega) hS), h_if, isOn_0, bF, if_pos rfl]; rfl
  | cons v W ih =>
    intro Q o fuel I hS ho hf
    obtain ⟨f, rfl⟩ : ∃ f, fuel = f + 1 := ⟨fuel - 1, by omega⟩
    rw [List.length_cons] at hf
    have hi := ih (Q ++ [v]) (o - 1) f
    rw [h_fix]
    show ∃ I', X12_qDropsNots_B0 215 _ (hp I L ρ) = _ ∧ _
    generalize z_fix (fun r x => X12_qDropsNots_B0 215 r ) f = rec at hi
    unfold X12_qDropsNots_B0
    rw [gi_215, h_if, if_pos hS.2.1, rc_215, show X12_qIsOn 215 12 = X12_qIsOn 215 (nI 12) from rfl, h_ci (X12_qIsOn_h (by omega) hS), h_if, isOn_n]
    by_cases c : v = 12
    · have e2 : p12 v = true := decide_eq_true c
      have e3 : tw p12 (v :: W) = v :: tw p12 W := if_pos e2
      have e4 : dw p12 (v :: W) = dw p12 W := if_pos e2
      rw [e3, List.length_cons] at ho
      have h8 := hS.2.2.2.2.1
      obtain ⟨I1, r1, r2, r3⟩ := X12_qDrops_h (L := L) (ρ := ρ) (qS_o (o' := o - 1) (by have := hS.2.2.2.2.2.2.2; omega) hS)
      obtain ⟨I2, s1, s2, s3⟩ := hi I1 r3 (by omega) (by omega)
      rw [decide_eq_true c, if_neg (by decide), gi_215, h8, show (nI o : Int32) - 1 = nI (o - 1) by rw [show (1 : Int32) = nI 1 from rfl, pk_sub (by omega)], pi_215, rc_215, h_cv r1]
      refine ⟨I2, s1, qF_tr (qF_u (by omega)) (qF_tr r2 s2), ?_⟩
      rw [e3, e4, List.length_cons, show o - ((tw p12 W).length + 1) = o - 1 - (tw p12 W).length by omega, show Q ++ v :: tw p12 W = Q ++ [v] ++ tw p12 W by simp only [List.append_assoc]; rfl]
      exact s3
    · have e3 : tw p12 (v :: W) = [] := tw_hd (decide_eq_false c)
      rw [decide_eq_false c, bF, if_pos rfl]
      refine ⟨I, rfl, qF_0, ?_⟩
      rw [e3, dw_no e3, List.append_nil]
      exact hS
theorem X12_qDropsNots_u (hs : ¬ I 215 5 = 0) : X12_qDropsNots 215 (hp I L ρ) = some (none, hp I L ρ) := by
  unfold X12_qDropsNots
  rw [show zFU = (zFU - 1) + 1 from rfl, h_fix]
  show X12_qDropsNots_B0 215 _ (hp I L ρ) = _
  unfold X12_qDropsNots_B0
  rw [gi_215, h_if, if_neg hs]; rfl
/-- behind a fact, a bracket that closes -/
theorem tBe_h {R : List Nat} (hR : cdR kd R Q) (hS : qS I b n x W 0 R o) (hw : wdM I) (hkd : I 215 51 = nI kd ∧ kd < 4) (hl : W.length + Q.length ≤ sk b n x) (ho : opn W ≤ o) (hW : tW W) : ∃ I', X12_qDropsNots 215 (hp I L ρ) = some (none, hp I' L ρ) ∧ qF I I' ∧ ∃ W' Q' o', tBe (sk b n x) W Q o = .B (sk b n x) W' Q' o' ∧ tP I' b n kd x W' Q' o' := by
  have hE := opn_12 W
  have h1 := tw_len (p := p12) W
  obtain ⟨I', r1, r2, r3⟩ := nots_lp (L := L) (ρ := ρ) W R o zFU I hS (by omega) (by have := qS_l hS; unfold zFU; omega)
  refine ⟨I', r1, r2, dw p12 W, Q ++ (tw p12 W).map wc, o - (tw p12 W).length, rfl, ⟨R ++ tw p12 W, cdR_app hR (cdR_wc (fun v hv => ?_)), r3⟩, wdM_q hw r2, ⟨by rw [r2.2.1 51 (by decide) (by decide) (by decide) (by decide) (by decide) (by decide) (by decide)]; exact hkd.1, hkd.2⟩, ?_, by omega, tW_dw hW⟩
  · have := of_decide_eq_true (tw_in hv).2
    omega
  · rw [List.length_append, List.length_map]; omega
/-- whether a bracket is open -/
def hsq (f : Nat → Int32) : Nat → Nat → Bool
  | _, 0 => false
  | i, m + 1 => decide (f i = 25) || hsq f (i + 1) m
theorem hsq_s {f : Nat → Int32} : ∀ m i, hsq f i (m + 1) = (decide (f (i + m) = 25) || hsq f i m)
  | 0, i => rfl
  | m + 1, i => by
    show (decide (f i = 25) || hsq f (i + 1) (m + 1)) = (decide (f (i + (m + 1)) = 25) || (decide (f i = 25) || hsq f (i + 1) m))
    rw [hsq_s m (i + 1), show i + 1 + m = i + (m + 1) by omega]
    cases decide (f i = 25) <;> cases decide (f (i + (m + 1)) = 25) <;> rfl
theorem hsq_has {f : Nat → Int32} : ∀ W : List Nat, stk f W → (∀ v ∈ W, v < 100) → hsq f 0 W.length = tHas W
  | [], _, _ => rfl
  | v :: W, h, hl => by
    rw [List.length_cons, hsq_s, Nat.zero_add, h.1, hsq_has W h.2 (fun w hw => hl w (List.mem_cons_of_mem _ hw))]
    show (decide (nI v = 25) || tHas W) = (decide (v = 25) || tHas W)
    by_cases c : v = 25
    · rw [decide_eq_true c, decide_eq_true (show nI v = 25 by rw [c]; rfl)]
    · rw [decide_eq_false c, decide_eq_false (show ¬ nI v = 25 from fun q => c ((nI_inj (b := 25) (by have := hl v (List.mem_cons_self ..); omega) (by omega)).mp q))]
theorem has_lp (h7 : I 215 107 = nI W.length) (hl : W.length ≤ 1600) : ∀ (m i fuel : Nat), i + m = W.length → m < fuel → z_fix (fun r x => X12_qHasSquare_B2 215 r x) fuel (nI i) (hp I L ρ) = some (some (.int (bI (hsq (I 294) i m))), hp I L ρ) := by
  intro m
  induction m with
  | zero =>
    intro i fuel hi hf
    obtain ⟨f, rfl⟩ : ∃ f, fuel = f + 1 := ⟨fuel - 1, by omega⟩
    rw [h_fix]
    show X12_qHasSquare_B2 215 _ (nI i) (hp I L ρ) = _
    unfold X12_qHasSquare_B2
    rw [gi_215, h7, h_if, if_pos ((nI_le' (by omega) (by omega)).mpr (by omega)), h_rb0]; rfl
  | succ m ih =>
    intro i fuel hi hf
    obtain ⟨f, rfl⟩ : ∃ f, fuel = f + 1 := ⟨fuel - 1, by omega⟩
    rw [h_fix]
    show X12_qHasSquare_B2 215 _ (nI i) (hp I L ρ) = some (some (.int (bI (decide (I 294 i = 25) || hsq (I 294) (i + 1) m))), hp I L ρ)
    have hn := ih (i + 1) f (by omega) (by omega)
    generalize z_fix (fun r x => X12_qHasSquare_B2 215 r x) f = rec at hn
    unfold X12_qHasSquare_B2
    rw [gi_215, h7, h_if, if_neg (fun q => by have := (nI_le' (by omega) (by omega)).mp q; omega), gr_215_106, la_294 (by omega), h_if]
    by_cases c : I 294 i = 25
    · rw [if_pos c, h_rb1, decide_eq_true c]; rfl
    · rw [if_neg c, nI_1, hn, decide_eq_false c]; rfl
theorem X12_qHasSquare_h (hS : qS I b n x W bs Q o) : X12_qHasSquare 215 (hp I L ρ) = some (some (.int (bI (tHas W))), hp I L ρ) := by
  have hl := qS_l hS
  have e := has_lp (I := I) (L := L) (ρ := ρ) (W := W) hS.2.2.1.1 (by omega) W.length 0 zFU (by omega) (by unfold zFU; omega)
  rw [hsq_has W hS.2.2.1.2.1 hS.2.2.1.2.2] at e
  exact e
/-- down to an open bracket -/
theorem sq_33 {r0 : Unit → zM} : ∀ (W Q : List Nat) (fuel : Nat) (I : Nat → Nat → Int32), qS I b n x W bs Q o → tHas W = true → W.length < fuel → ∃ I', z_fix (fun r x => X12_qGoesOnTest_B33 r0 215 r ) fuel (()) (hp I L ρ) = X12_qGoesOnTest_J49 r0 215 (hp I' L ρ) ∧ qF I I' ∧ qS I' b n x (25 :: (dw p25 W).tail) bs (Q ++ tw p25 W) o := by
  intro W
  induction W with
  | nil => intro Q fuel I hS hh; cases hh
  | cons v W ih =>
    intro Q fuel I hS hh hf
    obtain ⟨f, rfl⟩ : ∃ f, fuel = f + 1 := ⟨fuel - 1, by omega⟩
    rw [List.length_cons] at hf
    have hi := ih (Q ++ [v]) f
    rw [h_fix]
    show ∃ I', X12_qGoesOnTest_B33 r0 215 _ (hp I L ρ) = _ ∧ _
    generalize z_fix (fun r x => X12_qGoesOnTest_B33 r0 215 r ) f = rec at hi
    unfold X12_qGoesOnTest_B33
    rw [rc_215, show X12_qIsOn 215 25 = X12_qIsOn 215 (nI 25) from rfl, h_ci (X12_qIsOn_h (by omega) hS), h_if, isOn_n]
    by_cases c : v = 25
    · rw [decide_eq_true c, if_neg (by decide)]
      have e3 : tw p25 (v :: W) = [] := tw_hd (by unfold p25; rw [decide_eq_true c]; rfl)
      refine ⟨I, rfl, qF_0, ?_⟩
      rw [e3, dw_no e3, List.append_nil]
      rw [c] at hS
      exact hS
    · have e2 : p25 v = true := by unfold p25; rw [decide_eq_false c]; rfl
      have e3 : tw p25 (v :: W) = v :: tw p25 W := if_pos e2
      have e4 : dw p25 (v :: W) = dw p25 W := if_pos e2
      have h2 : (decide (v = 25) || tHas W) = true := hh
      rw [decide_eq_false c] at h2
      obtain ⟨I1, r1, r2, r3⟩ := X12_qDrops_h (L := L) (ρ := ρ) hS
      obtain ⟨I2, s1, s2, s3⟩ := hi I1 r3 h2 (by omega)
      rw [decide_eq_false c, bF, if_pos rfl, rc_215, h_cv r1]
      refine ⟨I2, s1, qF_tr r2 s2, ?_⟩
      rw [e3, e4, show Q ++ v :: tw p25 W = Q ++ [v] ++ tw p25 W by simp only [List.append_assoc]; rfl]
      exact s3
theorem t_dr87 : ∀ (V Q : List Nat) (fuel : Nat) (I : Nat → Nat → Int32), qS I b n x V bs Q o → V.length < fuel → V.length + Q.length < 1600 → ∃ I', z_fix (fun r x => X12_qGoesOnTest_B87 215 r ) fuel (()) (hp I L ρ) = some (some (.int 1), hp I' L ρ) ∧ qF I I' ∧ qS I' b n x (10 :: dw p10 V) bs (Q ++ tw p10 V) o := by
  intro V
  induction V with
  | nil =>
    intro Q fuel I hS hf hl
    obtain ⟨f, rfl⟩ : ∃ f, fuel = f + 1 := ⟨fuel - 1, by omega⟩
    obtain ⟨I1, r1, r2, r3⟩ := q_push (L := L) (ρ := ρ) (v := 10) (by omega) hl hS
    refine ⟨I1, ?_, r2, by rw [show Q ++ tw p10 [] = Q from List.append_nil _]; exact r3⟩
    rw [h_fix]
    show X12_qGoesOnTest_B87 215 _ (hp I L ρ) = _
    unfold X12_qGoesOnTest_B87 X12_qGoesOnTest_J103
    rw [rc_215, show X12_qIsOn 215 10 = X12_qIsOn 215 (nI 10) from rfl, h_ci (X12_qIsOn_h (by omega) hS), h_if, isOn_0, bF, if_pos rfl]
    exact r1
  | cons w V ih =>
    intro Q fuel I hS hf hl
    obtain ⟨f, rfl⟩ : ∃ f, fuel = f + 1 := ⟨fuel - 1, by omega⟩
    rw [List.length_cons] at hf hl
    rw [h_fix]
    show ∃ I', X12_qGoesOnTest_B87 215 _ (hp I L ρ) = _ ∧ _
    obtain ⟨I1, r1, r2, r3⟩ := X12_qDrops_h (L := L) (ρ := ρ) hS
    obtain ⟨I2, s1, s2, s3⟩ := ih (Q ++ [w]) f I1 r3 (by omega) (by rw [List.length_append]; show V.length + (Q.length + 1) < 1600; omega)
    have fin : p10 w = true → qF I I2 ∧ qS I2 b n x (10 :: dw p10 (w :: V)) bs (Q ++ tw p10 (w :: V)) o := fun c => by
      refine ⟨qF_tr r2 s2, ?_⟩
      rw [show tw p10 (w :: V) = w :: tw p10 V from if_pos c, show dw p10 (w :: V) = dw p10 V from if_pos c, show Q ++ w :: tw p10 V = Q ++ [w] ++ tw p10 V by simp only [List.append_assoc]; rfl]
      exact s3
    unfold X12_qGoesOnTest_B87 X12_qGoesOnTest_J103
    rw [rc_215, show X12_qIsOn 215 10 = X12_qIsOn 215 (nI 10) from rfl, h_ci (X12_qIsOn_h (by omega) hS), h_if, isOn_n]
    by_cases c3 : w = 10
    · rw [decide_eq_true c3, if_neg (by decide), rc_215, h_cv r1]
      exact ⟨I2, s1, fin (decide_eq_true (by omega))⟩
    · rw [decide_eq_false c3, bF, if_pos rfl]
      have e : tw p10 (w :: V) = [] := tw_hd (decide_eq_false (by omega))
      obtain ⟨I3, q1, q2, q3⟩ := q_push (L := L) (ρ := ρ) (v := 10) (by omega) (by rw [List.length_cons]; exact hl) hS
      refine ⟨I3, q1, q2, ?_⟩
      rw [e, dw_no e, List.append_nil]
      exact q3
theorem t_dr137 : ∀ (V Q : List Nat) (fuel : Nat) (I : Nat → Nat → Int32), qS I b n x V bs Q o → V.length < fuel → V.length + Q.length < 1600 → ∃ I', z_fix (fun r x => X12_qGoesOnTest_B137 215 r ) fuel (()) (hp I L ρ) = some (some (.int 1), hp I' L ρ) ∧ qF I I' ∧ qS I' b n x (11 :: dw pAO V) bs (Q ++ tw pAO V) o := by
  intro V
  induction V with
  | nil =>
    intro Q fuel I hS hf hl
    obtain ⟨f, rfl⟩ : ∃ f, fuel = f + 1 := ⟨fuel - 1, by omega⟩
    obtain ⟨I1, r1, r2, r3⟩ := q_push (L := L) (ρ := ρ) (v := 11) (by omega) hl hS
    refine ⟨I1, ?_, r2, by rw [show Q ++ tw pAO [] = Q from List.append_nil _]; exact r3⟩
    rw [h_fix]
    show X12_qGoesOnTest_B137 215 _ (hp I L ρ) = _
    unfold X12_qGoesOnTest_B137 X12_qGoesOnTest_J162
    rw [rc_215, show X12_qIsOn 215 10 = X12_qIsOn 215 (nI 10) from rfl, h_ci (X12_qIsOn_h (by omega) hS), h_if, isOn_0, bF, if_pos rfl, rc_215, show X12_qIsOn 215 11 = X12_qIsOn 215 (nI 11) from rfl, h_ci (X12_qIsOn_h (by omega) hS), h_if, isOn_0, bF, if_pos rfl]
    exact r1
  | cons w V ih =>
    intro Q fuel I hS hf hl
    obtain ⟨f, rfl⟩ : ∃ f, fuel = f + 1 := ⟨fuel - 1, by omega⟩
    rw [List.length_cons] at hf hl
    rw [h_fix]
    show ∃ I', X12_qGoesOnTest_B137 215 _ (hp I L ρ) = _ ∧ _
    obtain ⟨I1, r1, r2, r3⟩ := X12_qDrops_h (L := L) (ρ := ρ) hS
    obtain ⟨I2, s1, s2, s3⟩ := ih (Q ++ [w]) f I1 r3 (by omega) (by rw [List.length_append]; show V.length + (Q.length + 1) < 1600; omega)
    have fin : pAO w = true → qF I I2 ∧ qS I2 b n x (11 :: dw pAO (w :: V)) bs (Q ++ tw pAO (w :: V)) o := fun c => by
      refine ⟨qF_tr r2 s2, ?_⟩
      rw [show tw pAO (w :: V) = w :: tw pAO V from if_pos c, show dw pAO (w :: V) = dw pAO V from if_pos c, show Q ++ w :: tw pAO V = Q ++ [w] ++ tw pAO V by simp only [List.append_assoc]; rfl]
      exact s3
    unfold X12_qGoesOnTest_B137 X12_qGoesOnTest_J155 X12_qGoesOnTest_J162
    rw [rc_215, show X12_qIsOn 215 10 = X12_qIsOn 215 (nI 10) from rfl, h_ci (X12_qIsOn_h (by omega) hS), h_if, isOn_n]
    by_cases c3 : w = 10
    · rw [decide_eq_true c3, if_neg (by decide), rc_215, h_cv r1]
      exact ⟨I2, s1, fin (decide_eq_true (by omega))⟩
    · rw [decide_eq_false c3, bF, if_pos rfl, rc_215, show X12_qIsOn 215 11 = X12_qIsOn 215 (nI 11) from rfl, h_ci (X12_qIsOn_h (by omega) hS), h_if, isOn_n]
      by_cases c4 : w = 11
      · rw [decide_eq_true c4, if_neg (by decide), rc_215, h_cv r1]
        exact ⟨I2, s1, fin (decide_eq_true (by omega))⟩
      · rw [decide_eq_false c4, bF, if_pos rfl]
        have e : tw pAO (w :: V) = [] := tw_hd (decide_eq_false (by omega))
        obtain ⟨I3, q1, q2, q3⟩ := q_push (L := L) (ρ := ρ) (v := 11) (by omega) (by rw [List.length_cons]; exact hl) hS
        refine ⟨I3, q1, q2, ?_⟩
        rw [e, dw_no e, List.append_nil]
        exact q3
/-- all drop at the end -/
theorem t_dr110 : ∀ (W Q : List Nat) (fuel : Nat) (I : Nat → Nat → Int32), qS I b n x W bs Q o → W.length < fuel → ∃ I', z_fix (fun r x => X12_qTest_B110 215 r ) fuel (()) (hp I L ρ) = some (none, hp I' L ρ) ∧ qF I I' ∧ qS I' b n x [] bs (Q ++ W) o := by
  intro W
  induction W with
  | nil =>
    intro Q fuel I hS hf
    obtain ⟨f, rfl⟩ : ∃ f, fuel = f + 1 := ⟨fuel - 1, by omega⟩
    refine ⟨I, ?_, qF_0, by rw [List.append_nil]; exact hS⟩
    rw [h_fix]
    show X12_qTest_B110 215 _ (hp I L ρ) = _
    unfold X12_qTest_B110
    rw [gi_215, h_if, if_pos hS.2.1, gi_215, hS.2.2.1.1, h_if, if_pos (by decide)]; rfl
  | cons v W ih =>
    intro Q fuel I hS hf
    obtain ⟨f, rfl⟩ : ∃ f, fuel = f + 1 := ⟨fuel - 1, by omega⟩
    rw [List.length_cons] at hf
    obtain ⟨t1, t2, t3, t4⟩ := qS_top hS
    obtain ⟨I1, r1, r2, r3⟩ := X12_qDrops_h (L := L) (ρ := ρ) hS
    obtain ⟨I2, s1, s2, s3⟩ := ih (Q ++ [v]) f I1 r3 (by omega)
    rw [h_fix]
    show ∃ I', X12_qTest_B110 215 _ (hp I L ρ) = _ ∧ _
    unfold X12_qTest_B110
    rw [gi_215, h_if, if_pos hS.2.1, gi_215, t1, h_if, if_neg (show ¬ nI (W.length + 1) ≤ 0 from fun q => by have := (nI_le' (b := 0) (by omega) (by omega)).mp q; omega), rc_215, h_cv r1]
    refine ⟨I2, s1, qF_tr r2 s2, ?_⟩
    rw [show Q ++ v :: W = Q ++ [v] ++ W by simp only [List.append_assoc]; rfl]
    exact s3
theorem t_110u {k p : Nat} {f : Nat} (hU : unM I n k p) : z_fix (fun r x => X12_qTest_B110 215 r ) (f + 1) (()) (hp I L ρ) = some (none, hp I L ρ) := by
  rw [h_fix]
  show X12_qTest_B110 215 _ (hp I L ρ) = _
  unfold X12_qTest_B110
  rw [gi_215, h_if, if_neg (unM_ne hU)]; rfl
end B7m
