/-! the class reads a statement -/
section B88
variable {I I0 : Nat → Nat → Int32} {L L0 : Nat → Nat → Int64} {ρ : zRh} {h : zH} {b : Nat → Nat} {n a x j k ch side here u w : Nat} {r : rP} {S : nT}
/-- one, then one across, with no look between -/
theorem two_b (hc : chk ch) (hT : tX I b n (.inr a)) (h2 : I 2 2 = nI a) (hok : okN S) (hK : kX ch I S) {F : Nat → Nat → Nat → Nat → nR} {J : Int32 → Int32 → zM} (h0 : ∀ (v2 : Int32) (I1 : Nat → Nat → Int32), J v2 (-1) (hp I1 L ρ) = some (none, hp I1 L ρ)) (hJ : ∀ (I1 : Nat → Nat → Int32) (a1 a2 x y : Nat), fX I I1 → tX I1 b n (.inr a2) → kX ch I1 S → x < 12 → y < 12 → (x < 6 ↔ 6 ≤ y) → ∃ I', J (nI x) (nI y) (hp I1 L ρ) = some (none, hp I' L ρ) ∧ sF ch I1 I' ∧ cdr ch I1 I' ∧ stR ch I' b n (F a1 a2 x y)) : ∃ I', (z_gr 2 0 11 fun x1 => z_rc 9 x1 (z_cv (X9_passWord x1) (z_rc 2 11 (z_ci (X2_asked 11 ch ((-1))) fun y2 => z_if (y2 = ((-1))) (J y2 ((-1)))
   (z_rc 2 11 (z_ci (X2_asked 11 ch y2) fun y3 => J y2 y3)))))) (hp I L ρ) = some (none, hp I' L ρ) ∧ sF ch I I' ∧ cdr ch I I' ∧ stR ch I' b n (s_two b n S (sk b n (a + wl b n a)) F) := by
  have hcc : ch = 13 ∨ ch = 27 := hc
  obtain ⟨I1, a1, a2, a3⟩ := tX_pass (L := L) (ρ := ρ) hT h2
  have hl := (tX_le a2).1
  generalize sk b n (a + wl b n a) = a0 at a2 hl
  obtain ⟨I2, b1, b2, b3⟩ := X2_asked_h (L := L) (ρ := ρ) (o := none) hc a2 hok (kX_fX hc a3 hK) (fun x q => by cases q)
  have hF3 := fX_tr a3 b2
  have b1 : X2_asked 11 ch (-1) (hp I1 L ρ) = some (some (.int (oI (v_asO b n S a0 (r_ask b n S acr0 a0)))), hp I2 L ρ) := b1
  have c2 : tX I2 b n (r_ask b n S acr0 a0) := b3
  unfold s_two
  rw [gr_11_0, rc_2, h_cv a1, rc_11, h_ci b1, h_if]
  rcases q : r_ask b n S acr0 a0 with e | p1
  · rw [q] at c2
    rw [show oI (v_asO b n S a0 (.inl e)) = -1 from rfl, if_pos rfl, h0]
    exact ⟨I2, rfl, sF_fX hF3, cdr_fX hc hF3, c2, spX_k hok (kX_fX hc hF3 hK)⟩
  · rw [q] at c2
    have hx := (ask_th hok q).2
    have hK3 := kX_fX hc hF3 hK
    obtain ⟨I4, d1, d2, d3⟩ := X2_asked_h (L := L) (ρ := ρ) (o := some (v_ask b n S a0)) hc c2 hok hK3 (fun x z => by cases z; exact hx)
    have hF4 := fX_tr hF3 d2
    have d1 : X2_asked 11 ch (nI (v_ask b n S a0)) (hp I2 L ρ) = some (some (.int (oI (v_asO b n S p1 (r_ask b n S (acr1 (v_ask b n S a0)) p1)))), hp I4 L ρ) := d1
    have d3 : tX I4 b n (r_ask b n S (acr1 (v_ask b n S a0)) p1) := d3
    rw [show oI (v_asO b n S a0 (.inr p1)) = nI (v_ask b n S a0) from rfl, if_neg (nI_nm1 (by omega)), rc_11, h_ci d1]
    show ∃ I', _ ∧ _ ∧ _ ∧ stR ch I' b n (bd (r_ask b n S (acr1 (v_ask b n S a0)) p1) (fun a2 => F p1 a2 (v_ask b n S a0) (v_ask b n S p1)))
    rcases z : r_ask b n S (acr1 (v_ask b n S a0)) p1 with e | p2
    · rw [z] at d3
      rw [show oI (v_asO b n S p1 (.inl e)) = -1 from rfl, h0]
      exact ⟨I4, rfl, sF_fX hF4, cdr_fX hc hF4, d3, spX_k hok (kX_fX hc hF4 hK)⟩
    · rw [z] at d3
      have hy2 := (ask_th hok z).2
      have hs : v_ask b n S a0 < 6 ↔ 6 ≤ v_ask b n S p1 := of_decide_eq_true (r_ask_in z).2.2.1
      rw [show oI (v_asO b n S p1 (.inr p2)) = nI (v_ask b n S p1) from rfl]
      obtain ⟨I', k1, k2, k3, k4⟩ := hJ I4 p1 p2 (v_ask b n S a0) (v_ask b n S p1) hF4 d3 (kX_fX hc hF4 hK) hx hy2 hs
      exact ⟨I', k1, sF_tr (sF_fX hF4) k2, cdr_tr (cdr_fX hc hF4) k3, k4⟩
theorem bear_h (hc : chk ch) (hk : k < 2) (hT : tX I b n (.inr a)) (h2 : I 2 2 = nI a) (hok : okN S) (hK : kX ch I S) : ∃ I', X2_bearing 11 ch (ch + 7 + k) (hp I L ρ) = some (none, hp I' L ρ) ∧ sF ch I I' ∧ cdr ch I I' ∧ stR ch I' b n (s_bear b n S k (sk b n (a + wl b n a))) := by
  have hcc : ch = 13 ∨ ch = 27 := hc
  refine two_b (J := fun v2 s0 => X2_bearing_J29 11 (ch + 7 + k) v2 s0) hc hT h2 hok hK (fun v2 I1 => ?_) (fun I1 a1 a2 x y hF hT1 hK1 hx hy hs => ?_)
  · show X2_bearing_J29 11 (ch + 7 + k) v2 (-1) _ = _
    unfold X2_bearing_J29
    rw [h_if, if_pos rfl]; rfl
  · show ∃ I', X2_bearing_J29 11 (ch + 7 + k) (nI x) (nI y) _ = _ ∧ _
    obtain ⟨I2, v, d1, d2, d3, d4, d5⟩ := tX_num (L := L) (ρ := ρ) (lo := 0) (hi := 9) (by omega) (by omega) hT1
    have d2 : tX I2 b n (r_num b n 0 9 a2) := d2
    have hT2 : tX (u2 I2 (ch + 7 + k) (6 * x + y % 6) (nI v)) b n (r_num b n 0 9 a2) := tX_ch hc (by omega) d2
    have hK2 := kX_fX hc d3 hK1
    have e : z_sa 20 (ch + 7 + k) (nI (6 * x + y % 6)) (nI v) (z_ret none) (hp I2 L ρ) = some (none, hp (u2 I2 (ch + 7 + k) (6 * x + y % 6) (nI v)) L ρ) := by
      rcases (show k = 0 ∨ k = 1 by omega) with rfl | rfl
      · exact ck_s7 hc (by omega)
      · exact ck_s8 hc (by omega)
    unfold X2_bearing_J29
    rw [h_if, if_neg (nI_nm1 (by omega)), h_ci (X11_cell_h (by omega) (by omega)), gr_11_0, rc_2, show X9_takeNumber 2 0 9 = X9_takeNumber 2 (nI 0) (nI 9) from rfl, h_ci d1, e]
    refine ⟨_, rfl, sF_tr (sF_fX d3) (sF_u hc (by omega)), cdr_tr (cdr_fX hc d3) (cdr_u (by omega)), ?_⟩
    rcases q : r_num b n 0 9 a2 with e | a3
    · rw [q] at hT2
      exact ⟨hT2, spX_fr (u2r (by omega)) (u2r (by omega)) (u2r (by omega)) (spX_k hok hK2)⟩
    · rw [q] at hT2
      have hv : v = v_num b n 0 9 a2 := d5 a3 q
      refine ⟨hT2, fun s hs => ?_, fun d hd i hi => ?_, fun j hj => ?_, fun j hj => ?_, ?_⟩
      · rw [u2r (by omega)]; exact hK2.1 s hs
      · rw [u2r (by omega)]; exact hK2.2.1 d hd i hi
      · rw [u2r (by omega), u2r (by omega), u2r (by omega)]; exact hK2.2.2.1 j hj
      · have p := hK2.2.2.2.1 j hj
        refine ⟨by rw [u2r (by omega)]; exact p.1, ?_, ?_⟩
        · show _ = nI ((if k = 0 then upn (n_lk S) (6 * x + y % 6) (v_num b n 0 9 a2) else n_lk S) j)
          by_cases c : k = 0
          · rw [if_pos c, u2_ap]
            by_cases z : j = 6 * x + y % 6
            · rw [if_pos ⟨by omega, z⟩, z, upn_s, hv]
            · rw [if_neg (fun y => z y.2), upn_n z]; exact p.2.1
          · rw [if_neg c, u2r (by omega)]; exact p.2.1
        · show _ = nI ((if k = 0 then n_kw S else upn (n_kw S) (6 * x + y % 6) (v_num b n 0 9 a2)) j)
          by_cases c : k = 0
          · rw [if_pos c, u2r (by omega)]; exact p.2.2
          · rw [if_neg c, u2_ap]
            by_cases z : j = 6 * x + y % 6
            · rw [if_pos ⟨by omega, z⟩, z, upn_s, hv]
            · rw [if_neg (fun y => z y.2), upn_n z]; exact p.2.2
      · rw [u2r (by omega)]; exact hK2.2.2.2.2
/-- the rounds,the slip -/
theorem rts_h (hc : chk ch) (hT : tX I b n (.inr a)) (h2 : I 2 2 = nI a) (hok : okN S) (hK : kX ch I S) : ∃ I', (z_gr 2 0 11 fun x8 => z_rc 9 x8 (z_cv (X9_passWord x8) (z_gr 2 0 11 fun x9 => z_rc 9 x9 (z_ci (X9_takeNumber x9 1 12) fun y10 => z_pi 1 9 ch y10 (z_ret none))))) (hp I L ρ) = some (none, hp I' L ρ) ∧ sF ch I I' ∧ cdr ch I I' ∧ stR ch I' b n (bd (r_num b n 1 12 (sk b n (a + wl b n a))) (fun a1 => .inr (a1, n_rts S (v_num b n 1 12 (sk b n (a + wl b n a)))))) := by
  have hcc : ch = 13 ∨ ch = 27 := hc
  obtain ⟨I1, a1, a2, a3⟩ := tX_pass (L := L) (ρ := ρ) hT h2
  generalize sk b n (a + wl b n a) = a0 at a2
  obtain ⟨I2, v, d1, d2, d3, d4, d5⟩ := tX_num (L := L) (ρ := ρ) (lo := 1) (hi := 12) (by omega) (by omega) a2
  have d2 : tX I2 b n (r_num b n 1 12 a0) := d2
  have hF := fX_tr a3 d3
  have hT2 : tX (u2 I2 ch 9 (nI v)) b n (r_num b n 1 12 a0) := tX_ch hc (by omega) d2
  have hK2 := kX_fX hc hF hK
  rw [gr_11_0, rc_2, h_cv a1, gr_11_0, rc_2, show X9_takeNumber 2 1 12 = X9_takeNumber 2 (nI 1) (nI 12) from rfl, h_ci d1, ck_pi hc]
  refine ⟨_, rfl, sF_tr (sF_fX hF) (sF_u hc (by omega)), cdr_tr (cdr_fX hc hF) (cdr_u (by omega)), ?_⟩
  rcases q : r_num b n 1 12 a0 with e | a3
  · rw [q] at hT2
    exact ⟨hT2, spX_fr (u2r (by omega)) (u2r (by omega)) (u2r (by omega)) (spX_k hok hK2)⟩
  · rw [q] at hT2
    have hv : v = v_num b n 1 12 a0 := d5 a3 q
    refine ⟨hT2, fun s hs => ?_, fun d hd i hi => ?_, fun j hj => ?_, fun j hj => ?_, ?_, ?_, ?_⟩
    · rw [u2r (by omega)]; exact hK2.1 s hs
    · rw [u2r (by omega)]; exact hK2.2.1 d hd i hi
    · rw [u2r (by omega), u2r (by omega), u2r (by omega)]; exact hK2.2.2.1 j hj
    · rw [u2r (by omega), u2r (by omega), u2r (by omega)]; exact hK2.2.2.2.1 j hj
    · rw [u2_ap, if_neg (by omega)]; exact hK2.2.2.2.2.1
    · rw [u2_ap, if_pos ⟨rfl, rfl⟩, hv]; rfl
    · rw [u2_ap, if_neg (by omega)]; exact hK2.2.2.2.2.2.2
theorem sls_h (hc : chk ch) (hT : tX I b n (.inr a)) (h2 : I 2 2 = nI a) (hok : okN S) (hK : kX ch I S) : ∃ I', (z_gr 2 0 11 fun x8 => z_rc 9 x8 (z_cv (X9_passWord x8) (z_gr 2 0 11 fun x9 => z_rc 9 x9 (z_ci (X9_takeNumber x9 0 100) fun y10 => z_pi 1 10 ch y10 (z_ret none))))) (hp I L ρ) = some (none, hp I' L ρ) ∧ sF ch I I' ∧ cdr ch I I' ∧ stR ch I' b n (bd (r_num b n 0 100 (sk b n (a + wl b n a))) (fun a1 => .inr (a1, n_sls S (v_num b n 0 100 (sk b n (a + wl b n a)))))) := by
  have hcc : ch = 13 ∨ ch = 27 := hc
  obtain ⟨I1, a1, a2, a3⟩ := tX_pass (L := L) (ρ := ρ) hT h2
  generalize sk b n (a + wl b n a) = a0 at a2
  obtain ⟨I2, v, d1, d2, d3, d4, d5⟩ := tX_num (L := L) (ρ := ρ) (lo := 0) (hi := 100) (by omega) (by omega) a2
  have d2 : tX I2 b n (r_num b n 0 100 a0) := d2
  have hF := fX_tr a3 d3
  have hT2 : tX (u2 I2 ch 10 (nI v)) b n (r_num b n 0 100 a0) := tX_ch hc (by omega) d2
  have hK2 := kX_fX hc hF hK
  rw [gr_11_0, rc_2, h_cv a1, gr_11_0, rc_2, show X9_takeNumber 2 0 100 = X9_takeNumber 2 (nI 0) (nI 100) from rfl, h_ci d1, ck_pi hc]
  refine ⟨_, rfl, sF_tr (sF_fX hF) (sF_u hc (by omega)), cdr_tr (cdr_fX hc hF) (cdr_u (by omega)), ?_⟩
  rcases q : r_num b n 0 100 a0 with e | a3
  · rw [q] at hT2
    exact ⟨hT2, spX_fr (u2r (by omega)) (u2r (by omega)) (u2r (by omega)) (spX_k hok hK2)⟩
  · rw [q] at hT2
    have hv : v = v_num b n 0 100 a0 := d5 a3 q
    refine ⟨hT2, fun s hs => ?_, fun d hd i hi => ?_, fun j hj => ?_, fun j hj => ?_, ?_, ?_, ?_⟩
    · rw [u2r (by omega)]; exact hK2.1 s hs
    · rw [u2r (by omega)]; exact hK2.2.1 d hd i hi
    · rw [u2r (by omega), u2r (by omega), u2r (by omega)]; exact hK2.2.2.1 j hj
    · rw [u2r (by omega), u2r (by omega), u2r (by omega)]; exact hK2.2.2.2.1 j hj
    · rw [u2_ap, if_neg (by omega)]; exact hK2.2.2.2.2.1
    · rw [u2_ap, if_neg (by omega)]; exact hK2.2.2.2.2.2.1
    · rw [u2_ap, if_pos ⟨rfl, rfl⟩, hv]; rfl
/-- behind a statement: what is read, with its codes, or a fault -/
def stC (ch : Nat) (I : Nat → Nat → Int32) (b : Nat → Nat) (n : Nat) (R : nR) : Prop := match R with
  | .inl e => tX I b n (.inl e) ∧ kU ch I
  | .inr q => tX I b n (.inr q.1) ∧ kX ch I q.2 ∧ ∃ u, kC ch I q.2 u ∧ u ≤ q.1
def rhE (ρ ρ' : zRh) : Prop := ρ'.1 = ρ.1 ∧ ρ'.2.1 = ρ.2.1 ∧ ρ'.2.2.1 = ρ.2.2.1
theorem kC_cd {S' : nT} (h : n_cd S' = n_cd S) (hC : kC ch I S u) : kC ch I S' u := by
  unfold kC
  rw [h]
  exact hC
theorem stC_of {I' : Nat → Nat → Int32} {R : nR} (hcd : cdr ch I I') (hC : kC ch I S u) (hu : u ≤ a) (hu2 : u ≤ 1616) (hR : ∀ q, R = .inr q → a ≤ q.1 ∧ n_cd q.2 = n_cd S) (h : stR ch I' b n R) : stC ch I' b n R := by
  have hC' := kC_fr hcd hC
  rcases R with e | q
  · exact ⟨h.1, h.2, u, hu2, hC'.1⟩
  · obtain ⟨q1, q2⟩ := hR q rfl
    exact ⟨h.1, h.2, u, kC_cd q2 hC', by omega⟩
theorem X3_holds_h (hc : chk ch) (hw : w < 3) (hC : kC ch I S u) (hu : u ≤ 1616) : X3_holds (ch + 9) (nI w) (hp I L ρ) = some (some (.int (bI (decide (n_cd S w ≠ none)))), hp I L ρ) := by
  have h1 := hC.2 w hw
  unfold X3_holds
  rw [cc_g2 hc, ck_l11 hc hw, h_if]
  rcases q : n_cd S w with _ | l
  · rw [q] at h1
    have h1 : I (ch + 11) w = -1 := h1
    rw [h1, if_pos rfl, h_rb0, decide_eq_false (fun z => z rfl)]; rfl
  · rw [q] at h1
    obtain ⟨q0, q1, q2, q3, q4⟩ := h1
    rw [q1, if_neg (nI_nm1 (by omega)), h_rb1, decide_eq_true (by intro z; cases z)]; rfl
theorem X4_ofChurch_h (hw : w < 3) {c : Nat} : X4_ofChurch 10 c (nI w) (hp I L ρ) = some (none, hp (u2 (u2 I 10 3 (nI (pmk w))) 10 4 0) L (ρ.1, ρ.2.1, ρ.2.2.1, c, zB + 0)) := by
  unfold X4_ofChurch X4_ofChurch_J33
  rw [pr_10_1, pr_10_2, h_if, if_neg (show ¬ nI w < 0 from fun q => by have := (nI_lt' (b := 0) (by omega) (by omega)).mp q; omega), h_if, if_neg (show ¬ (3 : Int32) ≤ nI w from fun q => by have := (nI_le' (a := 3) (by omega) (by omega)).mp q; omega), h_ck (by rw [nI_toI (by omega)]; omega)]
  have e : z_parts (nI w).toNatClampNeg = nI (pmk w) := by
    rcases (show w = 0 ∨ w = 1 ∨ w = 2 by omega) with rfl | rfl | rfl <;> rfl
  rw [e, h_pi (c := 4) (a := 10) (by decide) rfl, h_pb (c := 4) (a := 10) (by decide) rfl (Or.inl rfl)]; rfl
theorem cdX_old {I' : Nat → Nat → Int32} {l : List Nat} {q : Nat} (h10 : ∀ j, j < u → I' (ch + 10) j = I (ch + 10) j) (h : q + l.length ≤ u ∧ ∀ i, i < l.length → I (ch + 10) (q + i) = nI (l.getD i 0)) : ∀ i, i < l.length → I' (ch + 10) (q + i) = nI (l.getD i 0) := fun i hi => by
  rw [h10 _ (by omega)]
  exact h.2 i hi
theorem X2_formula_h (hc : chk ch) (hw : w < 3) (hT : tX I b n (.inr a)) (h2 : I 2 2 = nI a) (hok : okN S) (hK : kX ch I S) (hC : kC ch I S u) (hu : u ≤ a) : ∃ I' ρ', X2_formula 11 ch (nI w) (nI here) (hp I L ρ) = some (none, hp I' L ρ') ∧ rhE ρ ρ' ∧ sF ch I I' ∧ stC ch I' b n (s_form b n S w here (sk b n (a + wl b n a))) := by
  have hcc : ch = 13 ∨ ch = 27 := hc
  have hn := hT.1.2.1
  have ha := (tX_le hT).1
  unfold X2_formula s_form
  rw [ck_g11 hc, cc_rc hc, h_ci (X3_holds_h hc hw hC (by omega)), h_if]
  by_cases c : n_cd S w = none
  · rw [decide_eq_false (fun z => z c), bF, if_pos rfl, if_pos c]
    obtain ⟨I1, a1, a2, a3⟩ := tX_pass (L := L) (ρ := ρ) hT h2
    have hsk := sk_ge (b := b) (n := n) (a := a + wl b n a)
    have hle := (tX_le a2).1
    have hss := (tX_le a2).2
    generalize sk b n (a + wl b n a) = a0 at a2 hsk hle hss
    have hC1 := kC_fX hc a3 hC
    have hK1 := kX_fX hc a3 hK
    have hT1 : tX (u2 I1 (ch + 11) w (nI u)) b n (.inr a0) := tX_ch hc (by omega) a2
    rw [gr_11_0, rc_2, h_cv a1, ck_g11 hc, cc_rc hc]
    have eB : X3_begin (ch + 9) (nI w) (hp I1 L ρ) = some (none, hp (u2 I1 (ch + 11) w (nI u)) L ρ) := by
      unfold X3_begin
      rw [cc_g2 hc, cc_gi hc, hC1.1, ck_s11 hc hw]; rfl
    rw [h_cv eB, gr_11_1, ck_g11 hc, rc_10, h_cv (X4_ofChurch_h hw), h_if]
    have hT3 : tX (u2 (u2 (u2 I1 (ch + 11) w (nI u)) 10 3 (nI (pmk w))) 10 4 0) b n (.inr a0) := tX_fr (by rw [u2r (by omega), u2r (by omega)]) (by rw [u2r (by omega), u2r (by omega)]) hT1
    have hU : gU (ch + 9) u w (u2 (u2 (u2 I1 (ch + 11) w (nI u)) 10 3 (nI (pmk w))) 10 4 0) (ρ.1, ρ.2.1, ρ.2.2.1, ch + 9, zB + 0) b n [] (.inr (a0, [])) := by
      refine ⟨hT3.1, ⟨rfl, ?_, by rw [u2_ap, if_neg (by omega), u2_ap, if_pos ⟨rfl, rfl⟩], ?_, by omega⟩, hT3.2.1, hT3.2.2, ?_, fun i hi => absurd hi (by show ¬ i < 0; omega), by show u + 0 ≤ a0; omega⟩
      · rw [if_neg (by omega)]
      · rw [u2_ap, if_pos ⟨rfl, rfl⟩, decide_eq_false (by omega)]; rfl
      · rw [u2r (by omega), u2r (by omega), u2r (by omega)]; exact hC1.1
    have key : ∀ kk, kk = (if w = 1 then 0 else 3) → ∃ I' ρ', (z_cv (zg kk 10 0 0 0) (X2_formula_J72 ch (nI w))) (hp (u2 (u2 (u2 I1 (ch + 11) w (nI u)) 10 3 (nI (pmk w))) 10 4 0) L (ρ.1, ρ.2.1, ρ.2.2.1, ch + 9, zB + 0)) = some (none, hp I' L ρ') ∧ rhE ρ ρ' ∧ sF ch I I' ∧ stC ch I' b n (match pq b n w 60 kk 0 a0 0 0 with | .inl e => .inl e | .inr q => .inr (q.1, n_st S w q.2)) := by
      intro kk hkk
      have hk03 : kk = 0 ∨ kk = 3 := by rw [hkk]; split <;> omega
      have hG := pq_G (b := b) (n := n) (kd := w) 60 kk 0 a0 0 0 (by omega) (by unfold pc; omega) (by omega) hle (Nat.zero_le _)
      rw [if_neg (by omega)] at hG
      obtain ⟨J, z1, z2, z3⟩ := S_all (L := L) (chk_cd hc) 60 kk 0 a0 0 0 0 0 [] _ (by omega) (by unfold pc; omega) (by omega) (Nat.zero_le _) (by omega) (by omega) hU
      have z1 : zg kk 10 0 0 0 (hp (u2 (u2 (u2 I1 (ch + 11) w (nI u)) 10 3 (nI (pmk w))) 10 4 0) L (ρ.1, ρ.2.1, ρ.2.2.1, ch + 9, zB + 0)) = some (none, hp J L (ρ.1, ρ.2.1, ρ.2.2.1, ch + 9, zB + 0)) := z1
      have fr : ∀ d, d ≠ 2 → d ≠ 10 → d ≠ ch + 9 → d ≠ ch + 10 → d ≠ ch + 11 → J d = I1 d := fun d q1 q2 q3 q4 q5 => by rw [z3.1 d q1 q3 q4, u2r q2, u2r q2, u2r q5]
      have f11 : ∀ j, J (ch + 11) j = if j = w then nI u else I1 (ch + 11) j := fun j => by
        rw [z3.1 _ (by omega) (by omega) (by omega), u2r (by omega), u2r (by omega), u2_ap]
        by_cases z : j = w
        · rw [if_pos ⟨rfl, z⟩, if_pos z]
        · rw [if_neg (fun y => z y.2), if_neg z]
      have f10 : ∀ j, j < u → J (ch + 10) j = I1 (ch + 10) j := fun j hj => by
        have := z3.2.2.2.1 j hj
        rw [show ch + 9 + 1 = ch + 10 by omega, u2r (by omega), u2r (by omega), u2r (by omega)] at this
        exact this
      have f21 : fC I J := fC_tr a3.2 (fC_tr (fC_u (by omega)) (fC_tr (fC_u (by omega)) (fC_tr (fC_u (by omega)) ⟨z3.2.1 1 (by omega) (by omega) (by omega), z3.2.2.2.2⟩)))
      obtain ⟨y1, y2, y3⟩ := z2
      have fu : ∃ v, J (ch + 9) 1 = nI v ∧ v ≤ 1616 ∧ u ≤ v := by
        rcases q : pq b n w 60 kk 0 a0 0 0 with e | q0
        · rw [q] at y3
          obtain ⟨-, -, -, -, v, v1, v2, v3⟩ := y3
          exact ⟨v, v3, v2, v1⟩
        · rw [q] at y3 hG
          obtain ⟨-, -, v3, -, v5⟩ := y3
          exact ⟨_, v3, by have v5 : u + _ ≤ q0.1 := v5; have := hG.2.1; omega, by omega⟩
      obtain ⟨v, v1, v2, v3⟩ := fu
      have eF : X2_formula_J72 ch (nI w) (hp J L (ρ.1, ρ.2.1, ρ.2.2.1, ch + 9, zB + 0)) = some (none, hp (u2 J (ch + 12) w (nI v)) L (ρ.1, ρ.2.1, ρ.2.2.1, ch + 9, zB + 0)) := by
        have eE : X3_finish (ch + 9) (nI w) (hp J L (ρ.1, ρ.2.1, ρ.2.2.1, ch + 9, zB + 0)) = some (none, hp (u2 J (ch + 12) w (nI v)) L (ρ.1, ρ.2.1, ρ.2.2.1, ch + 9, zB + 0)) := by
          unfold X3_finish
          rw [cc_g3 hc, cc_gi hc, v1, ck_s12 hc hw]; rfl
        unfold X2_formula_J72
        rw [ck_g11 hc, cc_rc hc, h_cv eE]; rfl
      refine ⟨u2 J (ch + 12) w (nI v), (ρ.1, ρ.2.1, ρ.2.2.1, ch + 9, zB + 0), ?_, ⟨rfl, rfl, rfl⟩, ⟨fun d q1 q2 q3 q4 => by rw [u2r (by omega), fr d q1 q2 (by omega) (by omega) (by omega), a3.1 d q1 q3], fC_tr f21 (fC_u (by omega))⟩, ?_⟩
      · rw [h_cv z1, eF]
      · have hK5 : ∀ S', n_n S' = n_n S → S'.2.1 = S.2.1 → S'.2.2.1 = S.2.2.1 → n_kin S' = n_kin S → S'.2.2.2.2.1 = S.2.2.2.2.1 → S'.2.2.2.2.2.1 = S.2.2.2.2.2.1 → kX ch (u2 J (ch + 12) w (nI v)) S' := by
          intro S' t1 t2 t3 t4 t5 t6
          have hK4 : kX ch (u2 J (ch + 12) w (nI v)) S := kX_fr (fun d q1 q2 => by rw [u2r (by omega), fr d (by omega) (by omega) (by omega) (by omega) (by omega)]) hK1
          obtain ⟨p1, p2, p3, p4, p5⟩ := hK4
          refine ⟨?_, ?_, ?_, ?_, ?_⟩
          · rw [t1]; exact p1
          · unfold n_nm n_th
            rw [t1, t2]; exact p2
          · unfold n_wm n_wk n_sz
            rw [t3]; exact p3
          · unfold n_lk n_kw
            rw [t4, t5]; exact p4
          · unfold n_kc n_rt n_sl
            rw [t2, t6]; exact p5
        rcases q : pq b n w 60 kk 0 a0 0 0 with e | q0
        · rw [q] at y3
          obtain ⟨w1, w2, w3, w4, -⟩ := y3
          refine ⟨⟨txX_fr (u2r (by omega)) (by rw [u2r (by omega)]) y1, by rw [u2r (by omega)]; exact w1, w2, by rw [u2r (by omega)]; exact w3, by rw [u2r (by omega)]; exact w4⟩, spX_fr (by rw [u2r (by omega), fr _ (by omega) (by omega) (by omega) (by omega) (by omega)]) (by rw [u2r (by omega), fr _ (by omega) (by omega) (by omega) (by omega) (by omega)]) (by rw [u2r (by omega), fr _ (by omega) (by omega) (by omega) (by omega) (by omega)]) (spX_k hok hK1), v, v2, by rw [u2r (by omega)]; exact v1⟩
        · rw [q] at y3 hG
          obtain ⟨w1, w2, w3, w4, w5⟩ := y3
          have w3 : J (ch + 9) 1 = nI (u + q0.2.length) := w3
          have w4 : ∀ i, i < q0.2.length → J (ch + 9 + 1) (u + i) = nI (q0.2.getD i 0) := w4
          have w5 : u + q0.2.length ≤ q0.1 := w5
          have hG1 := hG.2.1
          have hvv : v = u + q0.2.length := (nI_inj (by omega) (by omega)).mp (v1.symm.trans w3)
          refine ⟨⟨txX_fr (u2r (by omega)) (by rw [u2r (by omega)]) y1, by rw [u2r (by omega)]; exact w1, by rw [u2r (by omega)]; exact w2⟩, hK5 (n_st S w q0.2) rfl rfl rfl rfl rfl rfl, v, ⟨by rw [u2r (by omega)]; exact v1, fun w' hw' => ?_⟩, by show v ≤ q0.1; omega⟩
          show match upn (n_cd S) w (some q0.2) w' with
            | none => u2 J (ch + 12) w (nI v) (ch + 11) w' = -1
            | some l => ∃ q, u2 J (ch + 12) w (nI v) (ch + 11) w' = nI q ∧ u2 J (ch + 12) w (nI v) (ch + 12) w' = nI (q + l.length) ∧ q + l.length ≤ v ∧ ∀ i, i < l.length → u2 J (ch + 12) w (nI v) (ch + 10) (q + i) = nI (l.getD i 0)
          rw [u2r (show ch + 11 ≠ ch + 12 by omega), u2r (show ch + 10 ≠ ch + 12 by omega), f11]
          by_cases z : w' = w
          · rw [z, upn_s, if_pos rfl]
            exact ⟨u, rfl, by rw [u2_ap, if_pos ⟨rfl, rfl⟩, hvv], by omega, w4⟩
          · rw [upn_n z, if_neg z]
            have hO := hC1.2 w' hw'
            rcases t : n_cd S w' with _ | l
            · rw [t] at hO; exact hO
            · rw [t] at hO
              obtain ⟨q', g1, g2, g3, g4⟩ := hO
              exact ⟨q', g1, by rw [u2_ap, if_neg (fun y => z y.2), fr _ (by omega) (by omega) (by omega) (by omega) (by omega)]; exact g2, by omega, cdX_old f10 ⟨g3, g4⟩⟩
    by_cases d : w = 1
    · rw [if_pos (show nI w = 1 by rw [d]; rfl), gr_11_1, rc_10, if_pos d]
      exact key 0 (by rw [if_pos d])
    · rw [if_neg (show ¬ nI w = 1 from fun q => d ((nI_inj (b := 1) (by omega) (by omega)).mp q)), gr_11_1, rc_10, if_neg d]
      exact key 3 (by rw [if_neg d])
  · obtain ⟨I1, d1, d2, d3⟩ := tX_fail (L := L) (ρ := ρ) (k := 5) (p := here) (by omega) hT
    rw [decide_eq_true c, if_neg (show ¬ bI true = 0 by decide), gr_11_0, rc_2, show (5 : Int32) = nI 5 from rfl, h_cv d1, if_neg c]
    exact ⟨I1, ρ, rfl, ⟨rfl, rfl, rfl⟩, sF_fX d3, d2, kU_of hok (by omega) (kX_fX hc d3 hK) (kC_fX hc d3 hC)⟩
end B88
