/-! the reference: what is said of a word -/
section B8j
variable {I I0 : Nat → Nat → Int32} {L L0 : Nat → Nat → Int64} {ρ : zRh} {h : zH} {b : Nat → Nat} {n a x j k u w side here : Nat} {r : rP} {S : nT}
theorem stk_at {f : Nat → Int32} : ∀ {V : List Nat}, stk f V → ∀ i, i < V.length → f i = nI ((V[V.length - 1 - i]?).getD 0)
  | [], _, i, hi => absurd hi (Nat.not_lt_zero i)
  | v :: V, h, i, hi => by
    have hl : (v :: V).length = V.length + 1 := rfl
    by_cases c : i = V.length
    · rw [c, hl, show V.length + 1 - 1 - V.length = 0 by omega]
      exact h.1
    · have := stk_at h.2 i (by omega)
      rw [this, hl, show V.length + 1 - 1 - i = (V.length - 1 - i) + 1 by omega]; rfl
theorem stk_gt {f : Nat → Int32} {R : List Nat} (h : stk f R.reverse) : ∀ i, i < R.length → f i = nI (R.getD i 0) := by
  intro i hi
  have := stk_at h i (by rw [List.length_reverse]; exact hi)
  rw [this, List.length_reverse, List.getElem?_reverse (by omega), show R.length - 1 - (R.length - 1 - i) = i by omega, List.getD_eq_getElem?_getD]
theorem tQ_fr2 {I' : Nat → Nat → Int32} (h1 : ∀ k, k < 7 → I' 215 k = I 215 k) (h2 : I' 216 = I 216) (h : tQ I b n r) : tQ I' b n r := by
  rcases r with e | a
  · obtain ⟨q1, q2, q3, q4, q5⟩ := h
    exact ⟨by rw [h1 5 (by omega)]; exact q1, q2, by rw [h1 6 (by omega)]; exact q3, q4, by rw [h1 2 (by omega)]; exact q5⟩
  · obtain ⟨x, q1, q2, q3⟩ := h
    exact ⟨x, tkM_fr h2 (h1 3 (by omega)) (h1 2 (by omega)) (h1 4 (by omega)) q1, q2, by rw [h1 5 (by omega)]; exact q3⟩
def cpJ (I : Nat → Nat → Int32) (u i len : Nat) : Nat → Nat → Int32 := fun c j => if c = 254 ∧ u + i ≤ j ∧ j < u + len then I 293 (j - u) else if c = 215 ∧ j = 49 then nI (u + len) else I c j
theorem cd_92 {v1 : Int32} {len : Nat} (hu : u + len ≤ 3000) (hl : len ≤ 1600) : ∀ m i fuel (I : Nat → Nat → Int32), i + m = len → m < fuel → I 215 49 = nI (u + i) → I 215 105 = nI len → z_fix (fun r x => X12_codesTold_B92 215 v1 r x) fuel (nI i) (hp I L ρ) = X12_codesTold_J131 215 v1 (hp (cpJ I u i len) L ρ) := by
  intro m
  induction m with
  | zero =>
    intro i fuel I hi hf h49 h105
    obtain ⟨f, rfl⟩ : ∃ f, fuel = f + 1 := ⟨fuel - 1, by omega⟩
    have e : cpJ I u i len = I := by
      funext c j
      unfold cpJ
      rw [if_neg (by omega)]
      by_cases q : c = 215 ∧ j = 49
      · rw [if_pos q, q.1, q.2, h49, show i = len by omega]
      · rw [if_neg q]
    rw [h_fix]
    show X12_codesTold_B92 215 v1 _ (nI i) (hp I L ρ) = _
    unfold X12_codesTold_B92
    rw [gi_215, h105, h_if, if_pos ((nI_le' (by omega) (by omega)).mpr (by omega)), e]
  | succ m ih =>
    intro i fuel I hi hf h49 h105
    obtain ⟨f, rfl⟩ : ∃ f, fuel = f + 1 := ⟨fuel - 1, by omega⟩
    have hr := ih (i + 1) f (u2 (u2 I 254 (u + i) (I 293 i)) 215 49 (nI (u + i + 1))) (by omega) (by omega) (by rw [u2_ap, if_pos ⟨rfl, rfl⟩]; rfl) (by rw [u2_ap, if_neg (by omega), u2r (by omega)]; exact h105)
    have e : cpJ (u2 (u2 I 254 (u + i) (I 293 i)) 215 49 (nI (u + i + 1))) u (i + 1) len = cpJ I u i len := by
      funext c j
      unfold cpJ
      by_cases q : c = 254 ∧ u + i ≤ j ∧ j < u + len
      · rw [if_pos q]
        by_cases q1 : j = u + i
        · rw [if_neg (by omega), if_neg (by omega), u2r (by omega), u2_ap, if_pos ⟨q.1, q1⟩, q1, show u + i - u = i by omega]
        · rw [if_pos (by omega), u2r (by omega), u2r (by omega)]
      · rw [if_neg q, if_neg (by omega)]
        by_cases q2 : c = 215 ∧ j = 49
        · rw [if_pos q2, if_pos q2]
        · rw [if_neg q2, if_neg q2, u2_ap, if_neg q2, u2_ap, if_neg (by omega)]
    rw [e] at hr
    rw [h_fix]
    show X12_codesTold_B92 215 v1 _ (nI i) (hp I L ρ) = _
    generalize z_fix (fun r x => X12_codesTold_B92 215 v1 r x) f = rec at hr
    unfold X12_codesTold_B92
    rw [gi_215, h105, h_if, if_neg (fun q => by have := (nI_le' (by omega) (by omega)).mp q; omega), gr_215_48, gi_215, h49, gr_215_104, la_293 (by omega), sa_254 (by omega), gi_215, u2r (by omega), h49, nI_1, pi_215, nI_1, hr]
theorem kd_dd {kd : Nat} (hk : kd < 3) : c_dd kd = c_cc := by
  funext r
  unfold c_dd
  rw [if_neg (by omega)]
theorem kd_ok {kd r : Nat} (hk : kd < 3) (h : d_ok kd r) : c_ok r := by
  unfold d_ok at h
  unfold c_ok
  omega
theorem X12_codesTold_h (hw : wdM I) (hX : jX I L S) (hC : jC I S u) (hu : u ≤ a) (hw3 : w < 3) (hh : here ≤ 1600) (h : tQ I b n (.inr a)) : ∃ I' L', X12_codesTold 215 (nI w) (nI here) (hp I L ρ) = some (none, hp I' L' ρ) ∧ jF I I' L L' ∧ jN I' L' b n (s_form b n S w here a) := by
  have ha := (tQ_le h).1
  have h5 : I 215 5 = 0 := by obtain ⟨x, -, -, h3⟩ := h; exact h3
  have hCw := hC.2 w hw3
  have hs : s_form b n S w here a = if n_cd S w = none then (match pq b n w 60 (if w = 1 then 0 else 3) 0 a 0 0 with | .inl e => .inl e | .inr q => .inr (q.1, n_st S w q.2)) else .inl (5, here) := rfl
  rw [hs]
  unfold X12_codesTold
  rw [gi_215, h_if, if_pos h5, gr_215_46, la_252 (by omega), h_if]
  rcases qc : n_cd S w with _ | l
  · rw [qc] at hCw
    have hCw : I 252 w = -1 := hCw
    rw [if_pos hCw, if_pos rfl]
    obtain ⟨x, t1, t2, -⟩ := h
    obtain ⟨I1, hI1⟩ : ∃ I1, I1 = u2 (u2 (u2 (u2 (u2 I 215 51 (nI w)) 215 105 0) 215 107 0) 215 108 0) 215 109 0 := ⟨_, rfl⟩
    have o1 : ∀ k, k ≠ 51 → k ≠ 105 → k ≠ 107 → k ≠ 108 → k ≠ 109 → I1 215 k = I 215 k := fun k q1 q2 q3 q4 q5 => by rw [hI1, u2_ap, if_neg (by omega), u2_ap, if_neg (by omega), u2_ap, if_neg (by omega), u2_ap, if_neg (by omega), u2_ap, if_neg (by omega)]
    have r1 : ∀ d, d ≠ 215 → I1 d = I d := fun d q => by rw [hI1, u2r q, u2r q, u2r q, u2r q, u2r q]
    have hS1 : qS I1 b n x [] 0 [] 0 := by
      refine ⟨tkM_fr (r1 216 (by omega)) (o1 3 (by omega) (by omega) (by omega) (by omega) (by omega)) (o1 2 (by omega) (by omega) (by omega) (by omega) (by omega)) (o1 4 (by omega) (by omega) (by omega) (by omega) (by omega)) t1, by rw [o1 5 (by omega) (by omega) (by omega) (by omega) (by omega)]; exact h5, ⟨?_, trivial, fun v hv => by cases hv⟩, ⟨?_, trivial⟩, ?_, ?_, by show 0 + 0 ≤ 1600; omega, by omega⟩
      · rw [hI1, u2_ap, if_neg (by omega), u2_ap, if_neg (by omega), u2_ap, if_pos ⟨rfl, rfl⟩]; rfl
      · rw [hI1, u2_ap, if_neg (by omega), u2_ap, if_neg (by omega), u2_ap, if_neg (by omega), u2_ap, if_pos ⟨rfl, rfl⟩]; rfl
      · rw [hI1, u2_ap, if_neg (by omega), u2_ap, if_pos ⟨rfl, rfl⟩]; rfl
      · rw [hI1, u2_ap, if_pos ⟨rfl, rfl⟩]; rfl
    have h51 : I1 215 51 = nI w ∧ w < 4 := ⟨by rw [hI1, u2_ap, if_neg (by omega), u2_ap, if_neg (by omega), u2_ap, if_neg (by omega), u2_ap, if_neg (by omega), u2_ap, if_pos ⟨rfl, rfl⟩], by omega⟩
    have F1 : jF I I1 L L := by
      rw [hI1]
      exact jF_tr (jF_u (by omega)) (jF_tr (jF_u (by omega)) (jF_tr (jF_u (by omega)) (jF_tr (jF_u (by omega)) (jF_u (by omega)))))
    have hw1 := wdM_j hw F1
    obtain ⟨m, hm⟩ : ∃ m : zM, m = if w = 1 then X12_qTest 215 else X12_qSums 215 := ⟨_, rfl⟩
    have all : (∀ e, pq b n w 60 (if w = 1 then 0 else 3) 0 a 0 0 = .inl e → ∃ I', m (hp I1 L ρ) = some (none, hp I' L ρ) ∧ qF I1 I' ∧ unM I' n e.1 e.2) ∧ ∀ q, pq b n w 60 (if w = 1 then 0 else 3) 0 a 0 0 = .inr q → ∃ I' y R, m (hp I1 L ρ) = some (none, hp I' L ρ) ∧ qF I1 I' ∧ cdR w R q.2 ∧ sk b n y = q.1 ∧ qS I' b n y [] 0 R 0 := by
      by_cases c : w = 1
      · rw [if_pos c] at hm ⊢
        have := X12_qTest_h (L := L) (ρ := ρ) hS1 hw1 h51 (m := 60) (by decide)
        rw [t2, ← hm] at this
        exact this
      · rw [if_neg c] at hm ⊢
        have := X12_qSums_h (L := L) (ρ := ρ) (V := []) rfl hS1 hw1 h51 (Nat.zero_le _) (m := 60) (by decide)
        rw [t2, ← hm] at this
        refine ⟨fun e he => ?_, fun q hq => ?_⟩
        · obtain ⟨I', g1, g2, g3⟩ := this.1 e he
          exact ⟨I', g1, g2, g3.1⟩
        · obtain ⟨I', y, R, g1, g2, g3, g4, g5, -⟩ := this.2 q hq
          exact ⟨I', y, R, g1, g2, g3, g4, g5⟩
    have run : X12_codesTold_J23 215 (nI w) (hp I L ρ) = z_rc 12 215 (z_cv m (X12_codesTold_J72 215 (nI w))) (hp I1 L ρ) := by
      unfold X12_codesTold_J23
      rw [gi_215, h_if, if_pos h5, pi_215, pi_215, pi_215, pi_215, pi_215, h_if, ← hI1, hm]
      by_cases c : w = 1
      · rw [if_pos (show nI w = 1 by rw [c]; rfl), if_pos c]
      · rw [if_neg (show ¬ nI w = 1 from fun q => c ((nI_inj (b := 1) (by omega) (by omega)).mp q)), if_neg c]
    rw [run, rc_215]
    rcases qp : pq b n w 60 (if w = 1 then 0 else 3) 0 a 0 0 with e | q
    · obtain ⟨I2, g1, g2, g3⟩ := all.1 e qp
      refine ⟨I2, L, ?_, jF_tr F1 (jF_q g2), g3⟩
      rw [h_cv g1]
      unfold X12_codesTold_J72
      rw [gi_215, h_if, if_neg (unM_ne g3)]; rfl
    · obtain ⟨I2, y, R, g1, g2, g3, g4, g5⟩ := all.2 q qp
      have hG := pq_G (b := b) (n := n) (kd := w) 60 (if w = 1 then 0 else 3) 0 a 0 0 (by split <;> omega) (by unfold pc; split <;> omega) (by omega) ha.1 (Nat.zero_le _)
      rw [qp] at hG
      have hG : a < q.1 ∧ q.1 ≤ n ∧ sk b n q.1 = q.1 ∧ a + q.2.length ≤ q.1 + (if (if w = 1 then 0 else 3) = 7 then 1 else 0) := hG
      rw [if_neg (show ¬ (if w = 1 then 0 else 3) = 7 by split <;> omega)] at hG
      have hlen := cdR_l g3
      have e49 : I2 215 49 = nI u := by
        rw [g2.2.1 49 (by omega) (by omega) (by omega) (by omega) (by omega) (by omega) (by omega), o1 49 (by omega) (by omega) (by omega) (by omega) (by omega)]; exact hC.1
      have r2 : ∀ d, 246 ≤ d → d ≤ 254 → I2 d = I d := fun d q1 q2 => by rw [g2.1 d (by omega) (by omega) (by omega), r1 d (by omega)]
      have hV := g5.2.2
      obtain ⟨I3, hI3⟩ : ∃ I3, I3 = u2 I2 252 w (nI u) := ⟨_, rfl⟩
      have e92 := cd_92 (L := L) (ρ := ρ) (v1 := nI w) (u := u) (len := R.length) (by omega) (by omega) R.length 0 zFU I3 (by omega) (by unfold zFU; omega) (by rw [hI3, u2r (by omega)]; exact e49) (by rw [hI3, u2r (by omega)]; exact hV.2.1.1)
      obtain ⟨I4, hI4⟩ : ∃ I4, I4 = cpJ I3 u 0 R.length := ⟨_, rfl⟩
      rw [← hI4] at e92
      have c4 : ∀ d, d ≠ 215 → d ≠ 252 → d ≠ 254 → I4 d = I2 d := fun d q1 q2 q3 => by
        funext j
        rw [hI4]
        unfold cpJ
        rw [if_neg (by omega), if_neg (by omega), hI3, u2r q2]
      have c45 : ∀ j, j ≠ 49 → I4 215 j = I2 215 j := fun j hj => by
        rw [hI4]
        unfold cpJ
        rw [if_neg (by omega), if_neg (by omega), hI3, u2r (by omega)]
      have c49 : I4 215 49 = nI (u + R.length) := by
        rw [hI4]
        unfold cpJ
        rw [if_neg (by omega), if_pos ⟨rfl, rfl⟩]
      have c54 : ∀ j, I4 254 j = if u ≤ j ∧ j < u + R.length then I2 293 (j - u) else I2 254 j := fun j => by
        rw [hI4]
        unfold cpJ
        rw [hI3]
        by_cases z : u ≤ j ∧ j < u + R.length
        · rw [if_pos ⟨rfl, by omega⟩, if_pos z, u2r (by omega)]
        · rw [if_neg (by omega), if_neg (by omega), if_neg z, u2r (by omega)]
      have c52 : ∀ j, I4 252 j = if j = w then nI u else I2 252 j := fun j => by
        rw [hI4]
        unfold cpJ
        rw [if_neg (by omega), if_neg (by omega), hI3, u2_ap]
        by_cases z : j = w
        · rw [if_pos ⟨rfl, z⟩, if_pos z]
        · rw [if_neg (by omega), if_neg z]
      have F4 : jF I2 (u2 I4 253 w (nI (u + R.length))) L L := by
        refine jF_tr (I1 := I4) ⟨⟨fun x q1 q2 q3 q4 => c4 x q1 (by omega) (by omega), fun k q1 q2 q3 q4 q5 q6 q7 q8 q9 => c45 k q7, fun z => ?_⟩, ⟨fun j hj => by rw [c4 246 (by omega) (by omega) (by omega)], fun j hj => by rw [c4 248 (by omega) (by omega) (by omega), c4 249 (by omega) (by omega) (by omega)]; exact ⟨rfl, rfl⟩, fun j hj => ⟨by rw [c52, if_neg (by omega)], by rw [c4 253 (by omega) (by omega) (by omega)]⟩, fun j hj => by rw [c54, if_neg (by omega)]⟩, fun _ _ => rfl, fun _ _ => rfl⟩ (jF_u (by omega))
        rw [c45 5 (by omega)] at z
        exact ⟨z, c45 6 (by omega)⟩
      refine ⟨u2 I4 253 w (nI (u + R.length)), L, ?_, jF_tr F1 (jF_tr (jF_q g2) F4), ?_⟩
      · rw [h_cv g1]
        unfold X12_codesTold_J72
        rw [gi_215, h_if, if_pos g5.2.1, gr_215_46, gi_215, e49, sa_252 (by omega), ← hI3]
        show z_fix (fun r x => X12_codesTold_B92 215 (nI w) r x) zFU (nI 0) (hp I3 L ρ) = _
        rw [e92]
        unfold X12_codesTold_J131
        rw [gr_215_47, gi_215, c49, sa_253 (by omega)]; rfl
      · have tq : tQ I2 b n (.inr q.1) := ⟨y, g5.1, g4, g5.2.1⟩
        refine ⟨tQ_fr2 (fun k hk => by rw [u2r (by omega), c45 k (by omega)]) (by rw [u2r (by omega), c4 216 (by omega) (by omega) (by omega)]) tq, jX_fr (fun d q1 q2 => by rw [u2r (by omega), c4 d (by omega) (by omega) (by omega), r2 d q1 (by omega)]) hX, u + R.length, ⟨by rw [u2r (by omega), c49], fun w' hw' => ?_⟩, by show u + R.length ≤ q.1; omega⟩
        have ek : n_cd (n_st S w q.2) w' = upn (n_cd S) w (some q.2) w' := rfl
        rw [ek]
        by_cases cw : w' = w
        · rw [cw, upn_s]
          refine ⟨u, R, by rw [u2r (by omega), c52, if_pos rfl], by rw [u2_ap, if_pos ⟨rfl, rfl⟩], Nat.le_refl _, by rw [← g3.1, kd_dd hw3], fun r hr => kd_ok hw3 (g3.2 r hr), fun i hi => ?_⟩
          rw [u2r (by omega), c54, if_pos (by omega), show u + i - u = i by omega]
          exact stk_gt hV.2.1.2 i hi
        · rw [upn_n cw]
          have hold := hC.2 w' hw'
          rcases z : n_cd S w' with _ | l
          · rw [z] at hold
            show u2 I4 253 w (nI (u + R.length)) 252 w' = -1
            rw [u2r (by omega), c52, if_neg cw, r2 252 (by omega) (by omega)]
            exact hold
          · rw [z] at hold
            obtain ⟨p, R', d1, d2, d3, d4, d5, d6⟩ := hold
            refine ⟨p, R', by rw [u2r (by omega), c52, if_neg cw, r2 252 (by omega) (by omega)]; exact d1, by rw [u2_ap, if_neg (by omega), c4 253 (by omega) (by omega) (by omega), r2 253 (by omega) (by omega)]; exact d2, by omega, d4, d5, fun i hi => ?_⟩
            rw [u2r (by omega), c54, if_neg (by omega), r2 254 (by omega) (by omega)]
            exact d6 i hi
  · rw [qc] at hCw
    obtain ⟨p, R', d1, d2, d3, d4, d5, d6⟩ := hCw
    rw [if_neg (show ¬ some l = none from fun z => by cases z)]
    obtain ⟨I1, f1, f2, f3⟩ := tQ_fail (L := L) (ρ := ρ) (k := 5) (p := here) (by omega) (by omega) h
    have f2 : unM I1 n 5 here := f2
    refine ⟨I1, L, ?_, jF_fx f3, f2⟩
    rw [d1, if_neg (show ¬ nI p = -1 from nI_nm1 (by omega)), rc_215, show X12_fail 215 5 (nI here) = X12_fail 215 (nI 5) (nI here) from rfl, h_cv f1]
    unfold X12_codesTold_J23
    rw [gi_215, h_if, if_neg (unM_ne f2)]; rfl
end B8j
