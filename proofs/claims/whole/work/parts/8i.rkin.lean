/-! the reference: kin, likings, hands that are known -/
section B8i
variable {I I0 : Nat → Nat → Int32} {L L0 : Nat → Nat → Int64} {ρ : zRh} {h : zH} {b : Nat → Nat} {n a x j k u side here : Nat} {r : rP} {S : nT}
theorem s6 {y : Nat} (hy : y < 12) : (1 : Int32) - nI y / 6 = oI (some (1 - y / 6)) ∧ 1 - y / 6 < 2 := by
  rw [show (6 : Int32) = nI 6 from rfl, pk_div (by omega) (by omega) (by omega), show (1 : Int32) = nI 1 from rfl, pk_sub (by omega), oI_some]
  exact ⟨rfl, by omega⟩
theorem acr_sd {y : Nat} (hy : y < 12) : ∀ z, z < 12 → acr1 y z = sdO (some (1 - y / 6)) z := by
  intro z hz
  show decide (y < 6 ↔ 6 ≤ z) = decide (z / 6 = 1 - y / 6)
  have : (y < 6 ↔ 6 ≤ z) ↔ z / 6 = 1 - y / 6 := by omega
  simp only [this]
/-- two who are asked for -/
theorem two_M (hw : wdM I) (hok : okN S) (hX : jX I L S) (h : tQ I b n (.inr a)) : ∃ I1 I2 y1 y2, X12_named 215 (-1) (hp I L ρ) = some (some (.int (nI y1)), hp I1 L ρ) ∧ X12_named 215 (1 - nI y1 / 6) (hp I1 L ρ) = some (some (.int (nI y2)), hp I2 L ρ) ∧ (y1 < 12 ∧ y2 < 12) ∧ fxM I I2 ∧ tQ I2 b n (br (r_ask b n S acr0 a) (r_ask b n S (acr1 (v_ask b n S a)))) ∧ ∀ a1 a2, r_ask b n S acr0 a = .inr a1 → r_ask b n S (acr1 (v_ask b n S a)) a1 = .inr a2 → (y1 = v_ask b n S a ∧ y2 = v_ask b n S a1) ∧ I2 215 39 = nI a1 := by
  obtain ⟨I1, y1, a1, a2, a3, a4, a5⟩ := tQ_named (L := L) (ρ := ρ) (o := none) (acr := acr0) (fun s' q => by cases q) (fun y _ => rfl) hw hok hX h
  have hs := s6 a2
  obtain ⟨I2, y2, b1, b2, b3, b4, b5⟩ := tQ_named (L := L) (ρ := ρ) (o := some (1 - y1 / 6)) (acr := acr1 y1) (fun s' q => by cases q; exact hs.2) (fun z hz => acr_sd a2 z hz) (wdM_f hw a4) hok (jX_fx a4 hX) a3
  rw [← hs.1] at b1
  refine ⟨I1, I2, y1, y2, a1, b1, ⟨a2, b2⟩, fxM_trans a4 b4, ?_, fun x1 x2 q1 q2 => ?_⟩
  · have e : br (br (.inr a) (r_ask b n S acr0)) (r_ask b n S (acr1 y1)) = br (r_ask b n S acr0 a) (r_ask b n S (acr1 (v_ask b n S a))) := by
      show br (r_ask b n S acr0 a) _ = _
      rcases q : r_ask b n S acr0 a with e | x1
      · rfl
      · rw [(a5 a x1 rfl q).1]
    rw [← e]; exact b3
  · have e := (a5 a x1 rfl q1).1
    rw [← e] at q2
    obtain ⟨p1, p2⟩ := b5 x1 x2 q1 q2
    exact ⟨⟨e, p1⟩, p2⟩
theorem two_bd {F : Nat → Nat → Nat → Nat → nR} : s_two b n S a F = match r_ask b n S acr0 a with
    | .inl e => .inl e
    | .inr a1 => match r_ask b n S (acr1 (v_ask b n S a)) a1 with
      | .inl e => .inl e
      | .inr a2 => F a1 a2 (v_ask b n S a) (v_ask b n S a1) := by
  unfold s_two
  rcases r_ask b n S acr0 a with e | a1
  · rfl
  · show bd (r_ask b n S (acr1 (v_ask b n S a)) a1) _ = (match r_ask b n S (acr1 (v_ask b n S a)) a1 with | .inl e => .inl e | .inr a2 => F a1 a2 (v_ask b n S a) (v_ask b n S a1))
    rcases q : r_ask b n S (acr1 (v_ask b n S a)) a1 with e | a2
    · rfl
    · rfl
def kc0 (x y : Nat) : Nat := if 6 ≤ x then 6 * y + x % 6 else 6 * x + y % 6
theorem X12_kinTold_h (hw : wdM I) (hok : okN S) (hX : jX I L S) (hC : jC I S u) (hu : u ≤ a) (hk60 : n_kc S < 1000) (h : tQ I b n (.inr a)) : ∃ I' L', X12_kinTold 215 (hp I L ρ) = some (none, hp I' L' ρ) ∧ jF I I' L L' ∧ jN I' L' b n (s_kin b n S a) := by
  obtain ⟨I1, I2, y1, y2, a1, a2, ⟨l1, l2⟩, hF, hT, hv⟩ := two_M (L := L) (ρ := ρ) hw hok hX h
  have run : X12_kinTold 215 (hp I L ρ) = X12_kinTold_J44 215 (nI (kc0 y1 y2)) (hp I2 L ρ) := by
    unfold X12_kinTold kc0
    rw [rc_215, h_ci a1, h_ck (by decide), rc_215, h_ci a2, h_if, show (6 : Int32) = nI 6 from rfl]
    by_cases c : 6 ≤ y1
    · rw [if_pos ((nI_le' (by omega) (by omega)).mpr c), if_pos c, h_ck (by decide), pk_rem (by omega) (by omega) (by omega), pk_mul, nI_add]
    · rw [if_neg (fun q => c ((nI_le' (by omega) (by omega)).mp q)), if_neg c, h_ck (by decide), pk_rem (by omega) (by omega) (by omega), pk_mul, nI_add]
  rw [run]
  have flt : ∀ e, unM I2 n e.1 e.2 → s_kin b n S a = .inl e → ∃ I' L', X12_kinTold_J44 215 (nI (kc0 y1 y2)) (hp I2 L ρ) = some (none, hp I' L' ρ) ∧ jF I I' L L' ∧ jN I' L' b n (s_kin b n S a) := by
    intro e hU he
    refine ⟨I2, L, ?_, jF_fx hF, by rw [he]; exact hU⟩
    unfold X12_kinTold_J44 X12_kinTold_J70
    rw [gi_215, h_if, if_neg (unM_ne hU), gi_215, h_if, if_neg (unM_ne hU)]; rfl
  rcases q1 : r_ask b n S acr0 a with e | x1
  · rw [q1] at hT
    exact flt e hT (by unfold s_kin; rw [two_bd, q1])
  rcases q2 : r_ask b n S (acr1 (v_ask b n S a)) x1 with e | x2
  · rw [q1] at hT
    have hT : tQ I2 b n (r_ask b n S (acr1 (v_ask b n S a)) x1) := hT
    rw [q2] at hT
    exact flt e hT (by unfold s_kin; rw [two_bd, q1]; show (match r_ask b n S (acr1 (v_ask b n S a)) x1 with | .inl e => _ | .inr a2 => _) = _; rw [q2])
  obtain ⟨⟨e1, e2⟩, h39⟩ := hv x1 x2 q1 q2
  rw [q1] at hT
  have hT : tQ I2 b n (r_ask b n S (acr1 (v_ask b n S a)) x1) := hT
  rw [q2] at hT
  have h5 : I2 215 5 = 0 := by obtain ⟨x, -, -, h3⟩ := hT; exact h3
  have hX2 := jX_fx hF hX
  have hside : y1 < 6 ↔ 6 ≤ y2 := by
    rw [e1, e2]
    exact of_decide_eq_true (r_ask_in q2).2.2.1
  have so : s_kin b n S a = if n_kin S (6 * y1 + y2 % 6) = true then .inl (3, x1) else .inr (x2, n_kn S y1 y2) := by
    unfold s_kin
    rw [two_bd, q1]
    show (match r_ask b n S (acr1 (v_ask b n S a)) x1 with | .inl e => _ | .inr a2 => _) = _
    rw [q2, ← e1, ← e2]
  have hk0 : kc0 y1 y2 < 36 := by unfold kc0; split <;> omega
  have sym : n_kin S (kc0 y1 y2) = n_kin S (6 * y1 + y2 % 6) := by
    unfold kc0
    by_cases c : 6 ≤ y1
    · rw [if_pos c]
      exact hok.2.2.2.2.1 y2 y1 (by omega) c l1
    · rw [if_neg c]
  have e9 := hX2.2.2.2.1 _ hk0
  have hx1 : x1 ≤ n := by
    have := (r_nm_in (r_ask_in q1).2.2.2.2).2.1
    rw [this]; exact sk_le (wl_le (tQ_le h).1.1)
  have hn := (tQ_le h).1.2
  have ha2 : a ≤ x2 := by
    have g1 := (r_ask_in q1).2.2.2.1
    have g2 := (r_ask_in q2).2.2.2.1
    omega
  rw [so]
  unfold X12_kinTold_J44
  rw [gi_215, h_if, if_pos h5, gr_215_43, la_249 (by omega), e9, sym, h_if]
  cases c : n_kin S (6 * y1 + y2 % 6) with
  | true =>
    rw [if_neg (show ¬ bI true = 0 by decide), if_pos rfl]
    obtain ⟨I3, f1, f2, f3⟩ := tQ_fail (L := L) (ρ := ρ) (k := 3) (p := x1) (by omega) (by omega) hT
    have f2 : unM I3 n 3 x1 := f2
    refine ⟨I3, L, ?_, jF_fx (fxM_trans hF f3), f2⟩
    rw [gi_215, h39, rc_215, show X12_fail 215 3 (nI x1) = X12_fail 215 (nI 3) (nI x1) from rfl, h_cv f1]
    unfold X12_kinTold_J70
    rw [gi_215, h_if, if_neg (unM_ne f2)]; rfl
  | false =>
    rw [bF, if_pos rfl, if_neg (by decide)]
    refine ⟨u2 (u2 I2 249 (kc0 y1 y2) 1) 246 2 (nI (n_kc S + 1)), L, ?_, jF_tr (jF_fx hF) (jF_tr (jF_u (by omega)) (jF_u (by omega))), ?_⟩
    · unfold X12_kinTold_J70
      rw [gi_215, h_if, if_pos h5, gr_215_43, sa_249 (by omega), show vp_nar .boolean 1 = (1 : Int32) from rfl, gr_215_40, lal_2, la_246 (by omega), u2r (by omega), hX2.2.1.1, sal_2, nI_1, sa_246 (by omega)]; rfl
    · refine ⟨tQ_fr (by rw [u2r (by omega), u2r (by omega)]) (by rw [u2r (by omega), u2r (by omega)]) hT, ?_, u, jC_fr (by rw [u2r (by omega), u2r (by omega)]) (by rw [u2r (by omega), u2r (by omega)]) (by rw [u2r (by omega), u2r (by omega)]) (by rw [u2r (by omega), u2r (by omega)]) rfl (jC_fx hF hC), by show u ≤ x2; omega⟩
      obtain ⟨⟨h1, h2⟩, ⟨h3, h4, h5'⟩, h7, h8, h9⟩ := hX2
      have f46 : ∀ j, j ≠ 2 → u2 (u2 I2 249 (kc0 y1 y2) 1) 246 2 (nI (n_kc S + 1)) 246 j = I2 246 j := fun j hj => by rw [u2_ap, if_neg (by omega), u2r (by omega)]
      have f48 : ∀ d, d ≠ 246 → d ≠ 249 → u2 (u2 I2 249 (kc0 y1 y2) 1) 246 2 (nI (n_kc S + 1)) d = I2 d := fun d q q' => by rw [u2r q, u2r q']
      unfold jX
      rw [f46 0 (by omega), f46 1 (by omega), f46 3 (by omega), f46 4 (by omega), f48 248 (by omega) (by omega), f48 250 (by omega) (by omega), f48 251 (by omega) (by omega), u2_ap, if_pos ⟨rfl, rfl⟩]
      refine ⟨⟨h1, h2⟩, ⟨rfl, h4, h5'⟩, h7, fun j hj => ?_, h9⟩
      have ek : n_kin (n_kn S y1 y2) = upn (upn (n_kin S) (6 * y1 + y2 % 6) true) (6 * y2 + y1 % 6) true := rfl
      rw [ek, u2r (by omega), u2_ap]
      unfold kc0
      by_cases c6 : 6 ≤ y1
      · rw [if_pos c6]
        by_cases cj : j = 6 * y2 + y1 % 6
        · rw [if_pos ⟨rfl, cj⟩, cj, upn_s]; rfl
        · rw [if_neg (by omega), upn_n cj, upn_n (by omega)]; exact h8 j hj
      · rw [if_neg c6]
        by_cases cj : j = 6 * y1 + y2 % 6
        · rw [if_pos ⟨rfl, cj⟩, cj, upn_n (by omega), upn_s]; rfl
        · rw [if_neg (by omega), upn_n (by omega), upn_n cj]; exact h8 j hj
theorem X12_feltTold_h (hw : wdM I) (hok : okN S) (hX : jX I L S) (hC : jC I S u) (hu : u ≤ a) {q k : Nat} (hq : (q = 250 ∧ k = 0) ∨ (q = 251 ∧ k = 1)) (h : tQ I b n (.inr a)) : ∃ I' L', X12_feltTold 215 q (hp I L ρ) = some (none, hp I' L' ρ) ∧ jF I I' L L' ∧ jN I' L' b n (s_bear b n S k a) := by
  obtain ⟨I1, I2, y1, y2, a1, a2, ⟨l1, l2⟩, hF, hT, hv⟩ := two_M (L := L) (ρ := ρ) hw hok hX h
  obtain ⟨I3, v, b1, b2, b3, b4, b5⟩ := tQ_num (L := L) (ρ := ρ) (lo := 0) (hi := 9) (by omega) (by omega) hT
  have F3 := fxM_trans hF b3
  have run : X12_feltTold 215 q (hp I L ρ) = z_if (I3 215 5 = 0) (z_ck (¬ (6 : Int32) = 0) (z_sa 20 q ((6 * nI y1) + (nI y2 - nI y2 / 6 * 6)) (nI v) (z_ret none))) (z_ret none) (hp I3 L ρ) := by
    unfold X12_feltTold
    rw [rc_215, h_ci a1, h_ck (by decide), rc_215, h_ci a2, rc_215, show X12_number 215 0 9 = X12_number 215 (nI 0) (nI 9) from rfl, h_ci b1, gi_215]
    rfl
  rw [run]
  have flt : ∀ e, unM I3 n e.1 e.2 → s_bear b n S k a = .inl e → ∃ I' L', z_if (I3 215 5 = 0) (z_ck (¬ (6 : Int32) = 0) (z_sa 20 q ((6 * nI y1) + (nI y2 - nI y2 / 6 * 6)) (nI v) (z_ret none))) (z_ret none) (hp I3 L ρ) = some (none, hp I' L' ρ) ∧ jF I I' L L' ∧ jN I' L' b n (s_bear b n S k a) := by
    intro e hU he
    refine ⟨I3, L, ?_, jF_fx F3, by rw [he]; exact hU⟩
    rw [h_if, if_neg (unM_ne hU)]; rfl
  rcases q1 : r_ask b n S acr0 a with e | x1
  · rw [q1] at b2
    exact flt e b2 (by unfold s_bear; rw [two_bd, q1])
  rw [q1] at b2
  have b2 : tQ I3 b n (br (r_ask b n S (acr1 (v_ask b n S a)) x1) (r_num b n 0 9)) := b2
  rcases q2 : r_ask b n S (acr1 (v_ask b n S a)) x1 with e | x2
  · rw [q2] at b2
    exact flt e b2 (by unfold s_bear; rw [two_bd, q1]; show (match r_ask b n S (acr1 (v_ask b n S a)) x1 with | .inl e => _ | .inr a2 => _) = _; rw [q2])
  rw [q2] at b2
  have b2 : tQ I3 b n (r_num b n 0 9 x2) := b2
  have so : s_bear b n S k a = bd (r_num b n 0 9 x2) (fun a3 => .inr (a3, n_br S k (6 * v_ask b n S a + v_ask b n S x1 % 6) (v_num b n 0 9 x2))) := by
    unfold s_bear
    rw [two_bd, q1]
    show (match r_ask b n S (acr1 (v_ask b n S a)) x1 with | .inl e => _ | .inr a2 => _) = _
    rw [q2]
  rcases q3 : r_num b n 0 9 x2 with e | x3
  · rw [q3] at b2
    exact flt e b2 (by rw [so, q3]; rfl)
  rw [q3] at b2
  obtain ⟨⟨e1, e2⟩, -⟩ := hv x1 x2 q1 q2
  have ev : v = v_num b n 0 9 x2 := by
    have := b5 x3 (by rw [q1]; show br (r_ask b n S (acr1 (v_ask b n S a)) x1) _ = _; rw [q2]; exact q3)
    rw [q1] at this
    have this : v = vl b n 0 9 (r_ask b n S (acr1 (v_ask b n S a)) x1) := this
    rw [q2] at this
    exact this
  have h5 : I3 215 5 = 0 := by obtain ⟨x, -, -, h3⟩ := b2; exact h3
  have hX3 := jX_fx F3 hX
  rw [so, q3]
  show ∃ I' L', _ ∧ _ ∧ jN I' L' b n (.inr (x3, _))
  have hx3 : a ≤ x3 := by
    have g1 := (r_ask_in q1).2.2.2.1
    have g2 := (r_ask_in q2).2.2.2.1
    have g3 := (r_nm_in (r_ask_in q1).2.2.2.2).2.1
    have g4 := (r_nm_in (r_ask_in q2).2.2.2.2).2.1
    have l1 : x1 ≤ n := by rw [g3]; exact sk_le (wl_le (tQ_le h).1.1)
    have l2 : x2 ≤ n := by rw [g4]; exact sk_le (wl_le l1)
    have := (v_num_in q3 l2).2
    omega
  refine ⟨u2 I3 q (6 * y1 + y2 % 6) (nI v), L, ?_, jF_tr (jF_fx F3) (jF_u (by omega)), tQ_fr (u2r (by omega)) (u2r (by omega)) b2, ?_, u, jC_fr (by rw [u2r (by omega)]) (u2r (by omega)) (u2r (by omega)) (u2r (by omega)) rfl (jC_fx F3 hC), by show u ≤ x3; omega⟩
  · rw [h_if, if_pos h5, h_ck (by decide), show (6 : Int32) = nI 6 from rfl, pk_rem (by omega) (by omega) (by omega), pk_mul, nI_add]
    rcases hq with ⟨rfl, rfl⟩ | ⟨rfl, rfl⟩
    · rw [sa_250 (by omega)]; rfl
    · rw [sa_251 (by omega)]; rfl
  · obtain ⟨h1, h2, h7, h8, h9⟩ := hX3
    rw [← e1, ← e2, ← ev]
    rcases hq with ⟨rfl, rfl⟩ | ⟨rfl, rfl⟩
    · unfold jX
      rw [u2r (show (246 : Nat) ≠ 250 by omega), u2r (show (248 : Nat) ≠ 250 by omega), u2r (show (249 : Nat) ≠ 250 by omega), u2r (show (251 : Nat) ≠ 250 by omega)]
      refine ⟨h1, h2, h7, h8, fun j hj => ⟨?_, (h9 j hj).2⟩⟩
      have ek : n_lk (n_br S 0 (6 * y1 + y2 % 6) v) = upn (n_lk S) (6 * y1 + y2 % 6) v := rfl
      rw [ek, u2_ap]
      by_cases cj : j = 6 * y1 + y2 % 6
      · rw [if_pos ⟨rfl, cj⟩, cj, upn_s]
      · rw [if_neg (by omega), upn_n cj]; exact (h9 j hj).1
    · unfold jX
      rw [u2r (show (246 : Nat) ≠ 251 by omega), u2r (show (248 : Nat) ≠ 251 by omega), u2r (show (249 : Nat) ≠ 251 by omega), u2r (show (250 : Nat) ≠ 251 by omega)]
      refine ⟨h1, h2, h7, h8, fun j hj => ⟨(h9 j hj).1, ?_⟩⟩
      have ek : n_kw (n_br S 1 (6 * y1 + y2 % 6) v) = upn (n_kw S) (6 * y1 + y2 % 6) v := rfl
      rw [ek, u2_ap]
      by_cases cj : j = 6 * y1 + y2 % 6
      · rw [if_pos ⟨rfl, cj⟩, cj, upn_s]
      · rw [if_neg (by omega), upn_n cj]; exact (h9 j hj).2
end B8i
