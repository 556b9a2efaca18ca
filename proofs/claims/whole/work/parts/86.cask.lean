/-! the class reads who is kin, who likes, who knows -/
section B86
variable {I I0 : Nat → Nat → Int32} {L L0 : Nat → Nat → Int64} {ρ : zRh} {h : zH} {b : Nat → Nat} {n a x j k ch side here : Nat} {r : rP} {S : nT}
def acrO (o : Option Nat) : Nat → Bool := match o with
  | none => acr0
  | some x => acr1 x
def v_asO (b : Nat → Nat) (n : Nat) (S : nT) (a : Nat) (r : rP) : Option Nat := match r with
  | .inl _ => none
  | .inr _ => some (v_ask b n S a)
theorem X2_asked_h (hc : chk ch) (hT : tX I b n (.inr a)) (hok : okN S) (hK : kX ch I S) {o : Option Nat} (ho : ∀ x, o = some x → x < 12) : ∃ I', X2_asked 11 ch (oI o) (hp I L ρ) = some (some (.int (oI (v_asO b n S a (r_ask b n S (acrO o) a)))), hp I' L ρ) ∧ fX I I' ∧ tX I' b n (r_ask b n S (acrO o) a) := by
  have hcc : ch = 13 ∨ ch = 27 := hc
  obtain ⟨I1, y, b1, b2, b3, b4, b5⟩ := tX_begin (L := L) (ρ := ρ) hT
  obtain ⟨b4, b6⟩ := b4 _ rfl
  subst b4
  obtain ⟨I3, c1, c2, c3, c4⟩ := tX_name (L := L) (ρ := ρ) b2
  have hF3 := fX_tr b3 c3
  have hT3 : tX I3 b n (r_nm b n y) := c2
  have e75 : ∀ (I4 : Nat → Nat → Int32) (r : rP) (v4 : Int32), tX I4 b n r → X2_asked_J75 11 v4 (hp I4 L ρ) = some (some (.int (match r with | .inl _ => -1 | .inr _ => v4)), hp I4 L ρ) := by
    intro I4 r v4 hT4
    unfold X2_asked_J75
    rw [gr_11_0, rc_2, h_ci (tX_sound hT4), h_if]
    rcases r with e | a1
    · rw [show sdI (Sum.inl e : rP) = 0 from rfl, if_pos rfl]; rfl
    · rw [show sdI (Sum.inr a1 : rP) = 1 from rfl, if_neg (by decide)]; rfl
  unfold X2_asked
  rw [gr_11_0, rc_2, h_ci b1, gr_11_0, gr_11_2, rc_2, h_cv c1, gr_11_0, rc_2, h_ci (tX_sound c2), h_if]
  have e66 : ∀ (v4 : Int32) (r : rP) (I4 : Nat → Nat → Int32), tX I4 b n r → ∃ I', X2_asked_J66 11 (nI y) v4 (hp I4 L ρ) = some (some (.int (-1)), hp I' L ρ) ∧ fX I4 I' ∧ tX I' b n (br r (fun _ => .inl (3, y))) := by
    intro v4 r I4 hT4
    obtain ⟨I5, d1, d2, d3⟩ := tX_fail (L := L) (ρ := ρ) (k := 3) (p := y) (by omega) hT4
    refine ⟨I5, ?_, d3, d2⟩
    unfold X2_asked_J66
    rw [gr_11_0, rc_2, show (3 : Int32) = nI 3 from rfl, h_cv d1, e75 I5 _ v4 d2]
    rcases r with e | a1 <;> rfl
  rcases q : r_nm b n y with e | a1
  · have e0 : r_ask b n S (acrO o) y = .inl e := by unfold r_ask; rw [q]; rfl
    rw [q] at hT3
    rw [show sdI (br (.inr y) (r_nm b n)) = 0 by show sdI (r_nm b n y) = 0; rw [q]; rfl, if_pos rfl, e0]
    obtain ⟨I', g1, g2, g3⟩ := e66 (-1) _ I3 hT3
    refine ⟨I', ?_, fX_tr hF3 g2, g3⟩
    unfold X2_asked_J41
    rw [h_if, if_pos rfl, g1]; rfl
  · have hm := okm_nml (r_nm_in q).1
    have hf : ∀ j, j < 6 → I3 12 j = nI (p_nml b n y j) ∧ p_nml b n y j ≤ 26 := fun j hj => ⟨c4 y a1 rfl q j hj, hm.1.1 j hj⟩
    rw [q] at hT3
    rw [show sdI (br (.inr y) (r_nm b n)) = 1 by show sdI (r_nm b n y) = 1; rw [q]; rfl, if_neg (by decide), gr_11_2, ck_rc hc, h_ci (X1_named_k hc hok (kX_fX hc hF3 hK) hf)]
    unfold X2_asked_J41
    rw [h_if]
    rcases z : n_fd S (p_nml b n y) 12 0 with _ | w
    · have e0 : r_ask b n S (acrO o) y = .inl (3, y) := by
        unfold r_ask
        rw [q]
        show (match n_fd S (p_nml b n y) 12 0 with | none => .inl (3, y) | some y' => if acrO o y' = true then .inr a1 else .inl (3, y) : rP) = _
        rw [z]
      rw [oI_none, if_pos rfl, e0]
      obtain ⟨I', g1, g2, g3⟩ := e66 (-1) _ I3 hT3
      exact ⟨I', g1, fX_tr hF3 g2, g3⟩
    · have hw := n_fd_s _ _ _ z
      have hw12 := n_th_lt hok hw.2.1
      have e0 : r_ask b n S (acrO o) y = if acrO o w = true then .inr a1 else .inl (3, y) := by
        unfold r_ask
        rw [q]
        show (match n_fd S (p_nml b n y) 12 0 with | none => .inl (3, y) | some y' => if acrO o y' = true then .inr a1 else .inl (3, y) : rP) = _
        rw [z]
      have ev : v_ask b n S y = w := by unfold v_ask; rw [z]; rfl
      rw [oI_some, if_neg (nI_nm1 (by omega)), h_if, e0]
      rcases o with _ | x
      · rw [show acrO none w = true from rfl, if_pos rfl, oI_none, if_pos rfl, e75 I3 _ _ hT3]
        refine ⟨I3, ?_, hF3, hT3⟩
        show some (some (Value.int (nI w)), hp I3 L ρ) = some (some (.int (oI (some (v_ask b n S y)))), _)
        rw [ev]; rfl
      · have hx := ho x rfl
        rw [oI_some, if_neg (nI_nm1 (by omega)), h_ci (X11_sideOf_h (by omega)), h_ci (X11_sideOf_h (by omega)), h_if]
        show ∃ I', _ = some (some (Value.int (oI (v_asO b n S y (if acr1 x w = true then .inr a1 else .inl (3, y))))), _) ∧ _ ∧ tX I' b n (if acr1 x w = true then .inr a1 else .inl (3, y))
        unfold acr1
        by_cases c : x < 6 ↔ 6 ≤ w
        · rw [decide_eq_true c, if_pos rfl, if_neg (by
            by_cases d : 6 ≤ w
            · rw [if_pos d, if_neg (by omega)]; decide
            · rw [if_neg d, if_pos (by omega)]; decide), e75 I3 _ _ hT3]
          refine ⟨I3, ?_, hF3, hT3⟩
          show some (some (Value.int (nI w)), hp I3 L ρ) = some (some (.int (oI (some (v_ask b n S y)))), _)
          rw [ev]; rfl
        · rw [decide_eq_false c, if_neg (show ¬ false = true by decide), if_pos (by
            by_cases d : 6 ≤ w
            · rw [if_pos d, if_pos (by omega)]
            · rw [if_neg d, if_neg (by omega)])]
          obtain ⟨I', g1, g2, g3⟩ := e66 (nI w) _ I3 hT3
          exact ⟨I', g1, fX_tr hF3 g2, g3⟩
def cdr (ch : Nat) (I I' : Nat → Nat → Int32) : Prop := ∀ x, ch + 9 ≤ x → x ≤ ch + 12 → I' x = I x
theorem cdr_fX (hc : chk ch) {I' : Nat → Nat → Int32} (h : fX I I') : cdr ch I I' := by
  have hcc : ch = 13 ∨ ch = 27 := hc
  exact fun x q1 q2 => h.1 x (by omega) (by omega)
theorem cdr_tr {I1 I2 : Nat → Nat → Int32} (h1 : cdr ch I I1) (h2 : cdr ch I1 I2) : cdr ch I I2 := fun x q1 q2 => by rw [h2 x q1 q2, h1 x q1 q2]
theorem cdr_u {c : Nat} {v : Int32} (h : c ≤ ch + 8) : cdr ch I (u2 I c k v) := fun x q1 q2 => u2r (by omega)
/-- one, then one across -/
theorem two_h (hc : chk ch) (hT : tX I b n (.inr a)) (h2 : I 2 2 = nI a) (hok : okN S) (hK : kX ch I S) {F : Nat → Nat → Nat → Nat → nR} {J : Int32 → Int32 → Int32 → zM} (h0 : ∀ (v2 v4 : Int32) (I1 : Nat → Nat → Int32), J v2 v4 (-1) (hp I1 L ρ) = some (none, hp I1 L ρ)) (hJ : ∀ (I1 : Nat → Nat → Int32) (a1 a2 x y : Nat), fX I I1 → tX I1 b n (.inr a2) → kX ch I1 S → x < 12 → y < 12 → (x < 6 ↔ 6 ≤ y) → a1 ≤ n → ∃ I', J (nI x) (nI a1) (nI y) (hp I1 L ρ) = some (none, hp I' L ρ) ∧ sF ch I1 I' ∧ cdr ch I1 I' ∧ stR ch I' b n (F a1 a2 x y)) : ∃ I', (z_gr 2 0 11 fun x1 => z_rc 9 x1 (z_cv (X9_passWord x1) (z_rc 2 11 (z_ci (X2_asked 11 ch ((-1))) fun y2 => z_gr 2 0 11 fun x3 => z_rc 9 x3 (z_ci (X9_begin x3) fun y4 => z_if (y2 = ((-1))) (J y2 y4 ((-1)))
   (z_rc 2 11 (z_ci (X2_asked 11 ch y2) fun y5 => J y2 y4 y5))))))) (hp I L ρ) = some (none, hp I' L ρ) ∧ sF ch I I' ∧ cdr ch I I' ∧ stR ch I' b n (s_two b n S (sk b n (a + wl b n a)) F) := by
  have hcc : ch = 13 ∨ ch = 27 := hc
  obtain ⟨I1, a1, a2, a3⟩ := tX_pass (L := L) (ρ := ρ) hT h2
  have hl := (tX_le a2).1
  generalize sk b n (a + wl b n a) = a0 at a2 hl
  obtain ⟨I2, b1, b2, b3⟩ := X2_asked_h (L := L) (ρ := ρ) (o := none) hc a2 hok (kX_fX hc a3 hK) (fun x q => by cases q)
  obtain ⟨I3, y, c1, c2, c3, c4, c5⟩ := tX_begin (L := L) (ρ := ρ) b3
  have hF3 := fX_tr a3 (fX_tr b2 c3)
  have b1 : X2_asked 11 ch (-1) (hp I1 L ρ) = some (some (.int (oI (v_asO b n S a0 (r_ask b n S acr0 a0)))), hp I2 L ρ) := b1
  have c2 : tX I3 b n (r_ask b n S acr0 a0) := c2
  have c4 : ∀ a1, r_ask b n S acr0 a0 = .inr a1 → y = a1 ∧ I3 2 2 = nI a1 := c4
  unfold s_two
  rw [gr_11_0, rc_2, h_cv a1, rc_11, h_ci b1, gr_11_0, rc_2, h_ci c1, h_if]
  rcases q : r_ask b n S acr0 a0 with e | p1
  · rw [q] at c2
    rw [show oI (v_asO b n S a0 (.inl e)) = -1 from rfl, if_pos rfl, h0]
    exact ⟨I3, rfl, sF_fX hF3, cdr_fX hc hF3, c2, spX_k hok (kX_fX hc hF3 hK)⟩
  · rw [q] at c2
    have hy := (c4 p1 q).1
    have hx := (ask_th hok q).2
    have hK3 := kX_fX hc hF3 hK
    obtain ⟨I4, d1, d2, d3⟩ := X2_asked_h (L := L) (ρ := ρ) (o := some (v_ask b n S a0)) hc c2 hok hK3 (fun x z => by cases z; exact hx)
    have hF4 := fX_tr hF3 d2
    have d1 : X2_asked 11 ch (nI (v_ask b n S a0)) (hp I3 L ρ) = some (some (.int (oI (v_asO b n S p1 (r_ask b n S (acr1 (v_ask b n S a0)) p1)))), hp I4 L ρ) := d1
    have d3 : tX I4 b n (r_ask b n S (acr1 (v_ask b n S a0)) p1) := d3
    rw [show oI (v_asO b n S a0 (.inr p1)) = nI (v_ask b n S a0) from rfl, if_neg (nI_nm1 (by omega)), rc_11, h_ci d1]
    show ∃ I', _ ∧ _ ∧ _ ∧ stR ch I' b n (bd (r_ask b n S (acr1 (v_ask b n S a0)) p1) (fun a2 => F p1 a2 (v_ask b n S a0) (v_ask b n S p1)))
    rcases z : r_ask b n S (acr1 (v_ask b n S a0)) p1 with e | p2
    · rw [z] at d3
      rw [show oI (v_asO b n S p1 (.inl e)) = -1 from rfl, h0]
      exact ⟨I4, rfl, sF_fX hF4, cdr_fX hc hF4, d3, spX_k hok (kX_fX hc hF4 hK)⟩
    · rw [z] at d3
      have hy2 := (ask_th hok z).2
      have hs : v_ask b n S a0 < 6 ↔ 6 ≤ v_ask b n S p1 := of_decide_eq_true (r_ask_in z).2.2.1
      rw [show oI (v_asO b n S p1 (.inr p2)) = nI (v_ask b n S p1) from rfl, hy]
      obtain ⟨I', k1, k2, k3, k4⟩ := hJ I4 p1 p2 (v_ask b n S a0) (v_ask b n S p1) hF4 d3 (kX_fX hc hF4 hK) hx hy2 hs (tX_le c2).1
      exact ⟨I', k1, sF_tr (sF_fX hF4) k2, cdr_tr (cdr_fX hc hF4) k3, k4⟩
theorem X2_kinship_h (hc : chk ch) (hT : tX I b n (.inr a)) (h2 : I 2 2 = nI a) (hok : okN S) (hK : kX ch I S) (hkc : n_kc S < 1000) : ∃ I', X2_kinship 11 ch (hp I L ρ) = some (none, hp I' L ρ) ∧ sF ch I I' ∧ cdr ch I I' ∧ stR ch I' b n (s_kin b n S (sk b n (a + wl b n a))) := by
  have hcc : ch = 13 ∨ ch = 27 := hc
  refine two_h (J := fun v2 v4 s0 => X2_kinship_J37 11 ch v2 v4 s0) hc hT h2 hok hK (fun v2 v4 I1 => ?_) (fun I1 a1 a2 x y hF hT1 hK1 hx hy hs ha1 => ?_)
  · show X2_kinship_J37 11 ch v2 v4 (-1) _ = _
    unfold X2_kinship_J37
    rw [h_if, if_pos rfl]; rfl
  · show ∃ I', X2_kinship_J37 11 ch (nI x) (nI a1) (nI y) _ = _ ∧ _
    unfold X2_kinship_J37 X1_areKin
    have hkk := (hK1.2.2.2.1 (6 * x + y % 6) (by omega)).1
    have eK : (z_gr 1 5 ch fun x1 => z_ci (X11_cell (nI x) (nI y)) fun y2 => z_la 21 x1 y2 fun x3 => z_rb x3) (hp I1 L ρ) = some (some (.int (bI (n_kin S (6 * x + y % 6)))), hp I1 L ρ) := by
      rw [ck_g5 hc, h_ci (X11_cell_h (by omega) (by omega)), ck_l6 hc (by omega), hkk, h_rb (bI01 _)]
    rw [h_if, if_neg (nI_nm1 (by omega)), ck_rc hc, h_ci eK, h_if]
    cases c : n_kin S (6 * x + y % 6) with
    | true =>
      obtain ⟨I2, d1, d2, d3⟩ := tX_fail (L := L) (ρ := ρ) (k := 3) (p := a1) (by omega) hT1
      rw [if_neg (show ¬ bI true = 0 by decide), gr_11_0, rc_2, show (3 : Int32) = nI 3 from rfl, h_cv d1, if_pos rfl]
      exact ⟨I2, rfl, sF_fX d3, cdr_fX hc d3, d2, spX_k hok (kX_fX hc d3 hK1)⟩
    | false =>
      rw [bF, if_pos rfl, ck_g5 hc, h_ci (X11_cell_h (by omega) (by omega)), ck_s6 hc (by omega), ck_g5 hc, h_ci (X11_cell_h (by omega) (by omega)), ck_s6 hc (by omega), ck_gi hc, u2r (by omega), u2r (by omega), hK1.2.2.2.2.1, nI_1, ck_pi hc, if_neg (by decide), show vp_nar .boolean 1 = (1 : Int32) from rfl]
      refine ⟨_, rfl, sF_tr (sF_u hc (by omega)) (sF_tr (sF_u hc (by omega)) (sF_u hc (by omega))), cdr_tr (cdr_u (by omega)) (cdr_tr (cdr_u (by omega)) (cdr_u (by omega))), tX_ch hc (by omega) (tX_ch hc (by omega) (tX_ch hc (by omega) hT1)), fun s hs => ?_, fun d hd i hi => ?_, fun j hj => ?_, fun j hj => ?_, ?_⟩
      · rw [u2r (by omega), u2r (by omega), u2r (by omega)]; exact hK1.1 s hs
      · rw [u2r (by omega), u2r (by omega), u2r (by omega)]; exact hK1.2.1 d hd i hi
      · rw [u2r (by omega), u2r (by omega), u2r (by omega), u2r (by omega), u2r (by omega), u2r (by omega), u2r (by omega), u2r (by omega), u2r (by omega)]; exact hK1.2.2.1 j hj
      · have p := hK1.2.2.2.1 j hj
        refine ⟨?_, by rw [u2r (by omega), u2r (by omega), u2r (by omega)]; exact p.2.1, by rw [u2r (by omega), u2r (by omega), u2r (by omega)]; exact p.2.2⟩
        show _ = bI (upn (upn (n_kin S) (6 * x + y % 6) true) (6 * y + x % 6) true j)
        rw [u2r (by omega), u2_ap, u2_ap]
        by_cases z1 : j = 6 * y + x % 6
        · rw [if_pos ⟨rfl, z1⟩, z1, upn_s]; rfl
        · rw [if_neg (fun z => z1 z.2), upn_n z1]
          by_cases z2 : j = 6 * x + y % 6
          · rw [if_pos ⟨rfl, z2⟩, z2, upn_s]; rfl
          · rw [if_neg (fun z => z2 z.2), upn_n z2]; exact p.1
      · refine ⟨by rw [u2_ap, if_pos ⟨rfl, rfl⟩]; rfl, ?_, ?_⟩
        · rw [u2_ap, if_neg (by omega), u2r (by omega), u2r (by omega)]; exact hK1.2.2.2.2.2.1
        · rw [u2_ap, if_neg (by omega), u2r (by omega), u2r (by omega)]; exact hK1.2.2.2.2.2.2
end B86
