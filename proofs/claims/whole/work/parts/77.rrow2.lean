/-! the reference's waiting row: what drops and what opens -/
section B77
variable {I I0 : Nat → Nat → Int32} {L L0 : Nat → Nat → Int64} {ρ : zRh} {h : zH} {b : Nat → Nat} {n a x o bs : Nat} {V W W0 Q : List Nat}
theorem nI_dec2 (l : Nat) (h : l < 100000) : (nI (l + 1) : Int32) + (-1) = nI l := by
  rw [← Int32.toInt_inj, Int32.toInt_add, nI_toI (by omega), nI_toI (by omega), show (-1 : Int32).toInt = -1 by decide]
  show Int.bmod _ _ = _
  rw [show ((l + 1 : Nat) : Int) + -1 = (l : Int) by omega]
  exact Int.bmod_eq_of_le (by omega) (by omega)
theorem nI_s1 (l : Nat) : (nI (l + 1) : Int32) - 1 = nI l := by
  rw [show (1 : Int32) = nI 1 from rfl, pk_sub (by omega), Nat.add_sub_cancel]
theorem qS_top {v : Nat} (h : qS I b n x (v :: V) bs Q o) : I 215 107 = nI (V.length + 1) ∧ I 294 V.length = nI v ∧ v < 100 ∧ V.length + 1 + Q.length ≤ 1600 := ⟨h.2.2.1.1, h.2.2.1.2.1.1, h.2.2.1.2.2 v (List.mem_cons_self ..), h.2.2.2.2.2.2.1⟩
theorem qS_l (h : qS I b n x V bs Q o) : V.length + Q.length ≤ 1600 := h.2.2.2.2.2.2.1
def brB (v : Nat) : Bool := !pN v
theorem X12_qIsBracket_h {v : Nat} (hv : v < 100) : X12_qIsBracket (nI v) h = some (some (.int (bI (brB v))), h) := by
  unfold X12_qIsBracket brB pN
  rw [h_if]
  by_cases c1 : v < 20
  · rw [if_pos (show nI v < 20 from (nI_lt' (b := 20) (by omega) (by omega)).mpr c1), h_rb0, decide_eq_false (by omega)]; rfl
  · rw [if_neg (show ¬ nI v < 20 from fun q => c1 ((nI_lt' (b := 20) (by omega) (by omega)).mp q)), h_if]
    by_cases c2 : 24 < v
    · rw [if_pos (show 24 < nI v from (nI_lt' (a := 24) (by omega) (by omega)).mpr c2), h_rb0, decide_eq_false (by omega)]; rfl
    · rw [if_neg (show ¬ 24 < nI v from fun q => c2 ((nI_lt' (a := 24) (by omega) (by omega)).mp q)), h_rb1, decide_eq_true (by omega)]; rfl
/-- what is ended by a part -/
theorem X12_qEndsPart_lp : ∀ (W Q : List Nat) (o fuel : Nat) (I : Nat → Nat → Int32), qS I b n x (W ++ W0) W0.length Q o → (tw pE W).length ≤ o → W.length < fuel → ∃ I', z_fix (fun r x => X12_qEndsPart_B0 215 r ) fuel (()) (hp I L ρ) = some (none, hp I' L ρ) ∧ qF I I' ∧ qS I' b n x (dw pE W ++ W0) W0.length (Q ++ tw pE W) (o - (tw pE W).length) := by
  intro W
  induction W with
  | nil =>
    intro Q o fuel I hS ho hf
    obtain ⟨f, rfl⟩ : ∃ f, fuel = f + 1 := ⟨fuel - 1, by omega⟩
    refine ⟨I, ?_, qF_0, by rw [show Q ++ tw pE [] = Q from List.append_nil _]; exact hS⟩
    have hS : qS I b n x W0 W0.length Q o := hS
    rw [h_fix]
    show X12_qEndsPart_B0 215 _ (hp I L ρ) = _
    unfold X12_qEndsPart_B0
    rw [gi_215, h_if, if_pos hS.2.1, gi_215, gi_215, hS.2.2.1.1, hS.2.2.2.2.2.1, h_if, if_pos ((nI_le' (by have := qS_l hS; omega) (by have := qS_l hS; omega)).mpr (Nat.le_refl W0.length))]; rfl
  | cons v W ih =>
    intro Q o fuel I hS ho hf
    obtain ⟨f, rfl⟩ : ∃ f, fuel = f + 1 := ⟨fuel - 1, by omega⟩
    rw [List.length_cons] at hf
    have hS : qS I b n x (v :: (W ++ W0)) W0.length Q o := hS
    obtain ⟨t1, t2, t3, t4⟩ := qS_top hS
    have hWl : (W ++ W0).length = W.length + W0.length := List.length_append ..
    have e1 : ¬ nI ((W ++ W0).length + 1) ≤ nI W0.length := fun q => by
      have := (nI_le' (by omega) (by omega)).mp q
      omega
    have hi := ih (Q ++ [v]) (o - 1) f
    rw [h_fix]
    show ∃ I', X12_qEndsPart_B0 215 _ (hp I L ρ) = _ ∧ _
    generalize z_fix (fun r x => X12_qEndsPart_B0 215 r ) f = rec at hi
    unfold X12_qEndsPart_B0
    rw [gi_215, h_if, if_pos hS.2.1, gi_215, gi_215, t1, hS.2.2.2.2.2.1, h_if, if_neg e1, gr_215_106, gi_215, t1, nI_s1, la_294 (by omega), t2, h_if]
    by_cases c : v < 60
    · have e2 : pE v = false := decide_eq_false (by omega)
      have e3 : tw pE (v :: W) = [] := tw_hd e2
      rw [if_pos (show nI v < 60 from (nI_lt' (b := 60) (by omega) (by omega)).mpr c)]
      refine ⟨I, rfl, qF_0, ?_⟩
      rw [e3, dw_no e3, List.append_nil]
      exact hS
    · have e2 : pE v = true := decide_eq_true (by omega)
      have e3 : tw pE (v :: W) = v :: tw pE W := if_pos e2
      have e4 : dw pE (v :: W) = dw pE W := if_pos e2
      rw [e3, List.length_cons] at ho
      have h8 := hS.2.2.2.2.1
      obtain ⟨I1, r1, r2, r3⟩ := X12_qDrops_h (L := L) (ρ := ρ) (qS_o (o' := o - 1) (by have := hS.2.2.2.2.2.2.2; omega) hS)
      obtain ⟨I2, s1, s2, s3⟩ := hi I1 r3 (by omega) (by omega)
      rw [if_neg (show ¬ nI v < 60 from fun q => c ((nI_lt' (b := 60) (by omega) (by omega)).mp q)), gi_215, h8, show (nI o : Int32) - 1 = nI (o - 1) by rw [show (1 : Int32) = nI 1 from rfl, pk_sub (by omega)], pi_215, rc_215, h_cv r1]
      refine ⟨I2, s1, qF_tr (qF_u (by omega)) (qF_tr r2 s2), ?_⟩
      rw [e3, e4, List.length_cons, show o - ((tw pE W).length + 1) = o - 1 - (tw pE W).length by omega, show Q ++ v :: tw pE W = Q ++ [v] ++ tw pE W by simp only [List.append_assoc]; rfl]
      exact s3
theorem X12_qEndsPart_h (hS : qS I b n x (W ++ W0) W0.length Q o) (ho : (tw pE W).length ≤ o) : ∃ I', X12_qEndsPart 215 (hp I L ρ) = some (none, hp I' L ρ) ∧ qF I I' ∧ qS I' b n x (dw pE W ++ W0) W0.length (Q ++ tw pE W) (o - (tw pE W).length) := X12_qEndsPart_lp W Q o zFU I hS ho (by have := qS_l hS; rw [List.length_append] at this; unfold zFU; omega)
theorem X12_qEndsPart_u (hs : ¬ I 215 5 = 0) : X12_qEndsPart 215 (hp I L ρ) = some (none, hp I L ρ) := by
  unfold X12_qEndsPart
  rw [show zFU = (zFU - 1) + 1 from rfl, h_fix]
  show X12_qEndsPart_B0 215 _ (hp I L ρ) = _
  unfold X12_qEndsPart_B0
  rw [gi_215, h_if, if_neg hs]; rfl
/-- down to a bracket -/
theorem X12_qDropsToBracket_lp : ∀ (W Q : List Nat) (fuel : Nat) (I : Nat → Nat → Int32), qS I b n x (W ++ W0) W0.length Q o → W.length < fuel → ∃ I', z_fix (fun r x => X12_qDropsToBracket_B0 215 r ) fuel (()) (hp I L ρ) = some (none, hp I' L ρ) ∧ qF I I' ∧ qS I' b n x (dw pN W ++ W0) W0.length (Q ++ tw pN W) o := by
  intro W
  induction W with
  | nil =>
    intro Q fuel I hS hf
    obtain ⟨f, rfl⟩ : ∃ f, fuel = f + 1 := ⟨fuel - 1, by omega⟩
    refine ⟨I, ?_, qF_0, by rw [show Q ++ tw pN [] = Q from List.append_nil _]; exact hS⟩
    have hS : qS I b n x W0 W0.length Q o := hS
    rw [h_fix]
    show X12_qDropsToBracket_B0 215 _ (hp I L ρ) = _
    unfold X12_qDropsToBracket_B0
    rw [gi_215, gi_215, hS.2.2.1.1, hS.2.2.2.2.2.1, h_if, if_pos ((nI_le' (by have := qS_l hS; omega) (by have := qS_l hS; omega)).mpr (Nat.le_refl W0.length))]; rfl
  | cons v W ih =>
    intro Q fuel I hS hf
    obtain ⟨f, rfl⟩ : ∃ f, fuel = f + 1 := ⟨fuel - 1, by omega⟩
    rw [List.length_cons] at hf
    have hS : qS I b n x (v :: (W ++ W0)) W0.length Q o := hS
    obtain ⟨t1, t2, t3, t4⟩ := qS_top hS
    have hWl : (W ++ W0).length = W.length + W0.length := List.length_append ..
    have e1 : ¬ nI ((W ++ W0).length + 1) ≤ nI W0.length := fun q => by
      have := (nI_le' (by omega) (by omega)).mp q
      omega
    have hi := ih (Q ++ [v]) f
    rw [h_fix]
    show ∃ I', X12_qDropsToBracket_B0 215 _ (hp I L ρ) = _ ∧ _
    generalize z_fix (fun r x => X12_qDropsToBracket_B0 215 r ) f = rec at hi
    unfold X12_qDropsToBracket_B0
    rw [gi_215, gi_215, t1, hS.2.2.2.2.2.1, h_if, if_neg e1, gr_215_106, gi_215, t1, nI_s1, la_294 (by omega), t2, h_ci (X12_qIsBracket_h t3), h_if]
    cases c : pN v with
    | false =>
      have e3 : tw pN (v :: W) = [] := tw_hd c
      rw [show brB v = true by unfold brB; rw [c]; rfl, if_neg (show ¬ bI true = 0 by decide)]
      refine ⟨I, rfl, qF_0, ?_⟩
      rw [e3, dw_no e3, List.append_nil]
      exact hS
    | true =>
      have e3 : tw pN (v :: W) = v :: tw pN W := if_pos c
      have e4 : dw pN (v :: W) = dw pN W := if_pos c
      obtain ⟨I1, r1, r2, r3⟩ := X12_qDrops_h (L := L) (ρ := ρ) hS
      obtain ⟨I2, s1, s2, s3⟩ := hi I1 r3 (by omega)
      rw [show brB v = false by unfold brB; rw [c]; rfl, bF, if_pos rfl, rc_215, h_cv r1]
      refine ⟨I2, s1, qF_tr r2 s2, ?_⟩
      rw [e3, e4, show Q ++ v :: tw pN W = Q ++ [v] ++ tw pN W by simp only [List.append_assoc]; rfl]
      exact s3
theorem X12_qDropsToBracket_h (hS : qS I b n x (W ++ W0) W0.length Q o) : ∃ I', X12_qDropsToBracket 215 (hp I L ρ) = some (none, hp I' L ρ) ∧ qF I I' ∧ qS I' b n x (dw pN W ++ W0) W0.length (Q ++ tw pN W) o := X12_qDropsToBracket_lp W Q zFU I hS (by have := qS_l hS; rw [List.length_append] at this; unfold zFU; omega)
/-- what bracket is open -/
def brI (W : List Nat) : Int32 := if mBr W = 0 then -1 else nI (mBr W)
theorem X12_qBracket_lp : ∀ (W : List Nat) (fuel : Nat), (stk (I 294) (W ++ W0) ∧ ∀ v ∈ W, v < 100) → (W ++ W0).length ≤ 1600 → I 215 109 = nI W0.length → W.length < fuel → z_fix (fun r x => X12_qBracket_B7 215 r x) fuel (nI (W ++ W0).length + (-1)) (hp I L ρ) = some (some (.int (brI W)), hp I L ρ) := by
  intro W
  induction W with
  | nil =>
    intro fuel hS hl hb hf
    obtain ⟨f, rfl⟩ : ∃ f, fuel = f + 1 := ⟨fuel - 1, by omega⟩
    rw [List.nil_append] at hl
    have e : (nI ([] ++ W0).length : Int32) + (-1) < nI W0.length := by
      rw [List.nil_append]
      rcases q : W0.length with _ | l
      · decide
      · rw [nI_dec2 l (by omega)]
        exact (nI_lt' (by omega) (by omega)).mpr (Nat.lt_succ_self _)
    rw [h_fix]
    show X12_qBracket_B7 215 _ _ (hp I L ρ) = _
    unfold X12_qBracket_B7 X12_qBracket_J33
    rw [gi_215, hb, h_if, if_pos e, gi_215, hb, h_if, if_pos e]; rfl
  | cons v W ih =>
    intro fuel hS hl hb hf
    obtain ⟨f, rfl⟩ : ∃ f, fuel = f + 1 := ⟨fuel - 1, by omega⟩
    rw [List.length_cons] at hf
    have hWl : (W ++ W0).length = W.length + W0.length := List.length_append ..
    have hl2 : (W ++ W0).length + 1 ≤ 1600 := hl
    have hv := hS.2 v (List.mem_cons_self ..)
    have t2 : I 294 (W ++ W0).length = nI v := hS.1.1
    have hi := ih f ⟨hS.1.2, fun y hy => hS.2 y (List.mem_cons_of_mem _ hy)⟩ (by omega) hb (by omega)
    have e : ¬ nI (W ++ W0).length < nI W0.length := fun q => by
      have := (nI_lt' (by omega) (by omega)).mp q
      omega
    rw [h_fix, show (nI (v :: W ++ W0).length : Int32) + (-1) = nI (W ++ W0).length from nI_dec2 (W ++ W0).length (by omega)]
    show X12_qBracket_B7 215 _ _ (hp I L ρ) = _
    generalize z_fix (fun r x => X12_qBracket_B7 215 r x) f = rec at hi
    unfold X12_qBracket_B7 X12_qBracket_J33
    rw [gi_215, hb, h_if, if_neg e, gr_215_106, la_294 (by omega), t2, h_ci (X12_qIsBracket_h hv), h_if]
    cases c : pN v with
    | false =>
      have e4 : dw pN (v :: W) = v :: W := dw_no (tw_hd c)
      have hv2 : ¬ v = 0 := fun q => by rw [q] at c; cases c
      have e5 : brI (v :: W) = nI v := by
        unfold brI mBr
        rw [e4]
        exact if_neg hv2
      rw [show brB v = true by unfold brB; rw [c]; rfl, if_neg (show ¬ bI true = 0 by decide), gi_215, hb, h_if, if_neg e, gr_215_106, la_294 (by omega), t2, e5]; rfl
    | true =>
      have e4 : dw pN (v :: W) = dw pN W := if_pos c
      rw [show brB v = false by unfold brB; rw [c]; rfl, bF, if_pos rfl, hi]
      unfold brI mBr
      rw [e4]
theorem X12_qBracket_h (hS : qS I b n x (W ++ W0) W0.length Q o) : X12_qBracket 215 (hp I L ρ) = some (some (.int (brI W)), hp I L ρ) := by
  have hl := qS_l hS
  have hl2 : (W ++ W0).length = W.length + W0.length := List.length_append ..
  have e := X12_qBracket_lp (L := L) (ρ := ρ) W zFU ⟨hS.2.2.1.2.1, fun v hv => hS.2.2.1.2.2 v (List.mem_append_left _ hv)⟩ (by omega) hS.2.2.2.2.2.1 (by unfold zFU; omega)
  unfold X12_qBracket
  have hl3 : (W ++ W0).length ≤ 1600 := by omega
  rw [gi_215, hS.2.2.1.1, show (nI (W ++ W0).length : Int32) - 1 = nI (W ++ W0).length + (-1) by
    revert hl3
    generalize (W ++ W0).length = z
    intro hl3
    rcases z with _ | l
    · decide
    · rw [nI_s1, nI_dec2 l (by omega)]]
  exact e
/-- whether it is on top -/
theorem X12_qIsOn_h {v : Nat} (hv : v < 100) (hS : qS I b n x V bs Q o) : X12_qIsOn 215 (nI v) (hp I L ρ) = some (some (.int (bI (decide (V.head? = some v)))), hp I L ρ) := by
  unfold X12_qIsOn
  rw [gi_215, h_if]
  rcases V with _ | ⟨w, V⟩
  · rw [if_pos (by rw [hS.2.2.1.1]; decide), h_rb0]; rfl
  · obtain ⟨t1, t2, t3, t4⟩ := qS_top hS
    rw [t1, if_neg (show ¬ nI (V.length + 1) ≤ 0 from fun q => by have := (nI_le' (b := 0) (by omega) (by omega)).mp q; omega), gr_215_106, gi_215, t1, nI_s1, la_294 (by omega), t2, h_if]
    by_cases c : w = v
    · rw [if_pos (by rw [c]), h_rb1, decide_eq_true (by rw [c]; rfl)]; rfl
    · rw [if_neg (fun q => c ((nI_inj (by omega) (by omega)).mp q)), h_rb0, decide_eq_false (fun q => c (by cases q; rfl))]; rfl
theorem X12_qOpens_h {v : Nat} {p : Int32} (hv : v < 100) (ho : o < 6) (hl : V.length + Q.length < 1600) (hS : qS I b n x V bs Q o) : ∃ I', X12_qOpens 215 (nI v) p (hp I L ρ) = some (none, hp I' L ρ) ∧ qF I I' ∧ qS I' b n x (v :: V) bs Q (o + 1) := by
  have h1 := qS_o (o' := o + 1) (by omega) hS
  have h2 := qS_push hv hl h1
  refine ⟨_, ?_, qF_tr (qF_u (by omega)) (qF_tr qF_4 (qF_u (by omega))), h2⟩
  unfold X12_qOpens
  rw [gi_215, h_if, if_pos hS.2.1, gi_215, hS.2.2.2.2.1, h_if, if_neg (show ¬ nI o = 6 from fun q => by have := (nI_inj (b := 6) (by omega) (by omega)).mp q; omega), gi_215, hS.2.2.2.2.1, nI_1, pi_215, gr_215_106, gi_215, h1.2.2.1.1, sa_294 (by omega), gi_215, u2r (by omega), h1.2.2.1.1, nI_1, pi_215]; rfl
theorem X12_qOpens_f {v : Int32} {p : Nat} (ho : 6 ≤ o) (hp2 : p ≤ 2000) (hS : qS I b n x V bs Q o) : ∃ I', X12_qOpens 215 v (nI p) (hp I L ρ) = some (none, hp I' L ρ) ∧ fxM I I' ∧ unM I' n 4 p := by
  have h6 := hS.2.2.2.2.2.2.2
  refine ⟨u2 (u2 I 215 5 4) 215 6 (nI p), ?_, fxM_56 (by decide), ⟨by rw [u2_ap, if_neg (by omega), u2_ap, if_pos ⟨rfl, rfl⟩]; rfl, by omega, by rw [u2_ap, if_pos ⟨rfl, rfl⟩], hp2, x, hS.1.2.1, by rw [u2_ap, if_neg (by omega), u2_ap, if_neg (by omega)]; exact hS.1.2.2.1⟩⟩
  unfold X12_qOpens
  rw [gi_215, h_if, if_pos hS.2.1, gi_215, hS.2.2.2.2.1, h_if, if_pos (show nI o = 6 by rw [show o = 6 by omega]; rfl), rc_215, h_cv (X12_fail_s hS.2.1 _ _)]; rfl
theorem X12_qOpens_u {v p : Int32} (hs : ¬ I 215 5 = 0) : X12_qOpens 215 v p (hp I L ρ) = some (none, hp I L ρ) := by
  unfold X12_qOpens
  rw [gi_215, h_if, if_neg hs]; rfl
end B77
