/-! the class reads one of the left, of the right -/
section B85
variable {I I0 : Nat → Nat → Int32} {L L0 : Nat → Nat → Int64} {ρ : zRh} {h : zH} {b : Nat → Nat} {n a x j k ch side here : Nat} {r : rP} {S : nT}
/-- behind a statement: what is read, or a fault -/
def stR (ch : Nat) (I : Nat → Nat → Int32) (b : Nat → Nat) (n : Nat) (R : nR) : Prop := match R with
  | .inl e => tX I b n (.inl e) ∧ spX ch I
  | .inr q => tX I b n (.inr q.1) ∧ kX ch I q.2
theorem spX_k (hok : okN S) (hK : kX ch I S) : spX ch I := fun j hj => ⟨_, _, _, hok.2.2.2.1 j hj, hK.2.2.1 j hj⟩
theorem spX_fr {I' : Nat → Nat → Int32} (h3 : I' (ch + 3) = I (ch + 3)) (h4 : I' (ch + 4) = I (ch + 4)) (h5 : I' (ch + 5) = I (ch + 5)) (h : spX ch I) : spX ch I' := by
  unfold spX
  rw [h3, h4, h5]
  exact h
theorem some_96 (hc : chk ch) {s : Nat} (hs : s < 12) : ∀ m i fuel (I : Nat → Nat → Int32), i + m = 6 → m < fuel → z_fix (fun r x => X2_someone_B96 11 ch (nI side) (nI s) r x) fuel (nI i) (hp I L ρ) = X2_someone_J129 11 ch (nI side) (nI s) (hp (fun c j => if c = ch + 2 ∧ 6 * s + i ≤ j ∧ j < 6 * s + 6 then I 12 (j - 6 * s) else I c j) L ρ) := by
  have hcc : ch = 13 ∨ ch = 27 := hc
  intro m
  induction m with
  | zero =>
    intro i fuel I hi hf
    obtain ⟨g, rfl⟩ : ∃ g, fuel = g + 1 := ⟨fuel - 1, by omega⟩
    have e : (fun c j => if c = ch + 2 ∧ 6 * s + i ≤ j ∧ j < 6 * s + 6 then I 12 (j - 6 * s) else I c j) = I := by
      funext c j
      exact if_neg (by omega)
    rw [h_fix, e]
    show X2_someone_B96 11 ch (nI side) (nI s) _ (nI i) (hp I L ρ) = _
    unfold X2_someone_B96
    rw [h_if, if_pos (show (6 : Int32) ≤ nI i from (nI_le' (a := 6) (by omega) (by omega)).mpr (by omega))]
  | succ m ih =>
    intro i fuel I hi hf
    obtain ⟨g, rfl⟩ : ∃ g, fuel = g + 1 := ⟨fuel - 1, by omega⟩
    have hr := ih (i + 1) g (u2 I (ch + 2) (6 * s + i) (I 12 i)) (by omega) (by omega)
    have e : (fun c j => if c = ch + 2 ∧ 6 * s + (i + 1) ≤ j ∧ j < 6 * s + 6 then u2 I (ch + 2) (6 * s + i) (I 12 i) 12 (j - 6 * s) else u2 I (ch + 2) (6 * s + i) (I 12 i) c j) = (fun c j => if c = ch + 2 ∧ 6 * s + i ≤ j ∧ j < 6 * s + 6 then I 12 (j - 6 * s) else I c j) := by
      funext c j
      rw [u2r (by omega), u2_ap]
      by_cases q1 : c = ch + 2 ∧ 6 * s + (i + 1) ≤ j ∧ j < 6 * s + 6
      · rw [if_pos q1, if_pos (by omega)]
      · rw [if_neg q1]
        by_cases q2 : c = ch + 2 ∧ j = 6 * s + i
        · rw [if_pos q2, if_pos (by omega), show j - 6 * s = i by omega]
        · rw [if_neg q2, if_neg (by omega)]
    rw [e] at hr
    rw [h_fix, ← hr]
    show X2_someone_B96 11 ch (nI side) (nI s) _ (nI i) (hp I L ρ) = _
    generalize z_fix (fun r x => X2_someone_B96 11 ch (nI side) (nI s) r x) g = rec
    unfold X2_someone_B96
    rw [h_if, if_neg (show ¬ (6 : Int32) ≤ nI i from fun q => by have := (nI_le' (a := 6) (by omega) (by omega)).mp q; omega), ck_g1 hc, gr_11_2, la_12 (by omega), show (6 : Int32) = nI 6 from rfl, pk_mul, nI_add, show s * 6 + i = 6 * s + i by omega, ck_s2 hc (by omega), nI_1]
theorem some_129 (hc : chk ch) {r : rP} {c s : Nat} (hs : s < 12) (hside : side < 2) (hc6 : c < 6) (hT : tX I b n r) (h1 : I (ch + 1) side = nI c) : ∃ I' x y z, X2_someone_J129 11 ch (nI side) (nI s) (hp I L ρ) = some (none, hp I' L ρ) ∧ tX I' b n (br (br (br (br (br (br r (r_w b n w_wa)) (r_num b n 0 9)) (r_w b n w_wo)) (r_num b n 0 9)) (r_w b n w_si)) (r_num b n 0 9)) ∧ (x ≤ 9 ∧ y ≤ 9 ∧ z ≤ 9) ∧ (∀ a1, br (br r (r_w b n w_wa)) (r_num b n 0 9) = .inr a1 → x = vl b n 0 9 (br r (r_w b n w_wa))) ∧ (∀ a1, br (br (br (br r (r_w b n w_wa)) (r_num b n 0 9)) (r_w b n w_wo)) (r_num b n 0 9) = .inr a1 → y = vl b n 0 9 (br (br (br r (r_w b n w_wa)) (r_num b n 0 9)) (r_w b n w_wo))) ∧ (∀ a1, br (br (br (br (br (br r (r_w b n w_wa)) (r_num b n 0 9)) (r_w b n w_wo)) (r_num b n 0 9)) (r_w b n w_si)) (r_num b n 0 9) = .inr a1 → z = vl b n 0 9 (br (br (br (br (br r (r_w b n w_wa)) (r_num b n 0 9)) (r_w b n w_wo)) (r_num b n 0 9)) (r_w b n w_si))) ∧ (∀ d, d ≠ 2 → d ≠ 12 → d ≠ ch + 1 → d ≠ ch + 3 → d ≠ ch + 4 → d ≠ ch + 5 → I' d = I d) ∧ fC I I' ∧ (∀ j, I' (ch + 1) j = if j = side then nI (c + 1) else I (ch + 1) j) ∧ (∀ j, I' (ch + 3) j = if j = s then nI x else I (ch + 3) j) ∧ (∀ j, I' (ch + 4) j = if j = s then nI y else I (ch + 4) j) ∧ (∀ j, I' (ch + 5) j = if j = s then nI z else I (ch + 5) j) := by
  have hcc : ch = 13 ∨ ch = 27 := hc
  have w3 : wsK 3 = [w_wa] := by decide
  have w4 : wsK 4 = [w_wo] := by decide
  have w5 : wsK 5 = [w_si] := by decide
  have hT0 : tX (u2 I (ch + 1) side (nI (c + 1))) b n r := tX_ch hc (by omega) hT
  obtain ⟨I1, a1, a2, a3⟩ := tX_word (L := L) (ρ := ρ) (k := 3) (by omega) w3 (by decide) hT0
  obtain ⟨I2, x, b1, b2, b3, b4, b5⟩ := tX_num (L := L) (ρ := ρ) (lo := 0) (hi := 9) (by omega) (by omega) a2
  have hT2 : tX (u2 I2 (ch + 3) s (nI x)) b n _ := tX_ch hc (by omega) b2
  obtain ⟨I3, c1, c2, c3⟩ := tX_word (L := L) (ρ := ρ) (k := 4) (by omega) w4 (by decide) hT2
  obtain ⟨I4, y, d1, d2, d3, d4, d5⟩ := tX_num (L := L) (ρ := ρ) (lo := 0) (hi := 9) (by omega) (by omega) c2
  have hT4 : tX (u2 I4 (ch + 4) s (nI y)) b n _ := tX_ch hc (by omega) d2
  obtain ⟨I5, e1, e2, e3⟩ := tX_word (L := L) (ρ := ρ) (k := 5) (by omega) w5 (by decide) hT4
  obtain ⟨I6, z, f1, f2, f3, f4, f5⟩ := tX_num (L := L) (ρ := ρ) (lo := 0) (hi := 9) (by omega) (by omega) e2
  have hT6 : tX (u2 I6 (ch + 5) s (nI z)) b n _ := tX_ch hc (by omega) f2
  have k1 : ∀ d, d ≠ 2 → d ≠ 12 → I2 d = u2 I (ch + 1) side (nI (c + 1)) d := fun d q1 q2 => by rw [b3.1 d q1 q2, a3.1 d q1 q2]
  have k2 : ∀ d, d ≠ 2 → d ≠ 12 → I4 d = u2 I2 (ch + 3) s (nI x) d := fun d q1 q2 => by rw [d3.1 d q1 q2, c3.1 d q1 q2]
  have k3 : ∀ d, d ≠ 2 → d ≠ 12 → I6 d = u2 I4 (ch + 4) s (nI y) d := fun d q1 q2 => by rw [f3.1 d q1 q2, e3.1 d q1 q2]
  refine ⟨u2 I6 (ch + 5) s (nI z), x, y, z, ?_, hT6, ⟨b4, d4, f4⟩, b5, d5, f5, fun d q1 q2 q3 q4 q5 q6 => ?_, ?_, fun j => ?_, fun j => ?_, fun j => ?_, fun j => ?_⟩
  · unfold X2_someone_J129
    rw [ck_g0 hc, ck_l1 hc hside, h1, nI_1, ck_s1 hc hside, gr_11_0, rc_2, h_cv a1, ck_g2 hc, gr_11_0, rc_2, show X9_takeNumber 2 0 9 = X9_takeNumber 2 (nI 0) (nI 9) from rfl, h_ci b1, ck_s3 hc hs, gr_11_0, rc_2, h_cv c1, ck_g3 hc, gr_11_0, rc_2, show X9_takeNumber 2 0 9 = X9_takeNumber 2 (nI 0) (nI 9) from rfl, h_ci d1, ck_s4 hc hs, gr_11_0, rc_2, h_cv e1, ck_g4 hc, gr_11_0, rc_2, show X9_takeNumber 2 0 9 = X9_takeNumber 2 (nI 0) (nI 9) from rfl, h_ci f1, ck_s5 hc hs]; rfl
  · rw [u2r q6, k3 d q1 q2, u2r q5, k2 d q1 q2, u2r q4, k1 d q1 q2, u2r q3]
  · exact fC_tr (fC_u (by omega)) (fC_tr a3.2 (fC_tr b3.2 (fC_tr (fC_u (by omega)) (fC_tr c3.2 (fC_tr d3.2 (fC_tr (fC_u (by omega)) (fC_tr e3.2 (fC_tr f3.2 (fC_u (by omega))))))))))
  · rw [u2r (by omega), k3 _ (by omega) (by omega), u2r (by omega), k2 _ (by omega) (by omega), u2r (by omega), k1 _ (by omega) (by omega), u2_ap]
    by_cases q : j = side
    · rw [if_pos ⟨rfl, q⟩, if_pos q]
    · rw [if_neg (fun z => q z.2), if_neg q]
  · rw [u2r (by omega), k3 _ (by omega) (by omega), u2r (by omega), k2 _ (by omega) (by omega), u2_ap]
    by_cases q : j = s
    · rw [if_pos ⟨rfl, q⟩, if_pos q]
    · rw [if_neg (fun z => q z.2), if_neg q, k1 _ (by omega) (by omega), u2r (by omega)]
  · rw [u2r (by omega), k3 _ (by omega) (by omega), u2_ap]
    by_cases q : j = s
    · rw [if_pos ⟨rfl, q⟩, if_pos q]
    · rw [if_neg (fun z => q z.2), if_neg q, k2 _ (by omega) (by omega), u2r (by omega), k1 _ (by omega) (by omega), u2r (by omega)]
  · rw [u2_ap]
    by_cases q : j = s
    · rw [if_pos ⟨rfl, q⟩, if_pos q]
    · rw [if_neg (fun z => q z.2), if_neg q, k3 _ (by omega) (by omega), u2r (by omega), k2 _ (by omega) (by omega), u2r (by omega), k1 _ (by omega) (by omega), u2r (by omega)]
theorem X2_someone_h (hc : chk ch) (hT : tX I b n (.inr a)) (h2 : I 2 2 = nI a) (hok : okN S) (hK : kX ch I S) (hside : side < 2) : ∃ I', X2_someone 11 ch (nI side) (nI here) (hp I L ρ) = some (none, hp I' L ρ) ∧ sF ch I I' ∧ (∀ x, ch + 9 ≤ x → x ≤ ch + 12 → I' x = I x) ∧ stR ch I' b n (s_one b n S side here (sk b n (a + wl b n a))) := by
  have hcc : ch = 13 ∨ ch = 27 := hc
  have h1 := hK.1 side hside
  have hn6 : n_n S side ≤ 6 := by
    have := hok.1
    rcases (show side = 0 ∨ side = 1 by omega) with rfl | rfl <;> omega
  unfold X2_someone s_one
  rw [ck_g0 hc, ck_l1 hc hside, h1, h_if]
  by_cases c6 : 6 ≤ n_n S side
  · obtain ⟨I1, a1, a2, a3⟩ := tX_fail (L := L) (ρ := ρ) (k := 5) (p := here) (by omega) hT
    rw [if_neg (show ¬ nI (n_n S side) < 6 from fun q => by have := (nI_lt' (b := 6) (by omega) (by omega)).mp q; omega), gr_11_0, rc_2, show (5 : Int32) = nI 5 from rfl, h_cv a1, if_pos c6]
    exact ⟨I1, rfl, sF_fX a3, fun x q1 q2 => a3.1 x (by omega) (by omega), a2, spX_k hok (kX_fX hc a3 hK)⟩
  · rw [if_pos (show nI (n_n S side) < 6 from (nI_lt' (b := 6) (by omega) (by omega)).mpr (by omega)), if_neg c6]
    obtain ⟨I1, a1, a2, a3⟩ := tX_pass (L := L) (ρ := ρ) hT h2
    obtain ⟨I2, y, b1, b2, b3, b4, b5⟩ := tX_begin (L := L) (ρ := ρ) a2
    obtain ⟨b4, b6⟩ := b4 _ rfl
    subst b4
    generalize sk b n (a + wl b n a) = a0 at a2 b1 b2 b5 b6
    obtain ⟨I3, c1, c2, c3, c4⟩ := tX_name (L := L) (ρ := ρ) b2
    have hF3 := fX_tr a3 (fX_tr b3 c3)
    have hs : 6 * side + n_n S side < 12 := by omega
    rw [gr_11_0, rc_2, h_cv a1, ck_g0 hc, ck_l1 hc hside, a3.1 _ (by omega) (by omega), h1, gr_11_0, rc_2, h_ci b1, gr_11_0, gr_11_2, rc_2, h_cv c1, gr_11_0, rc_2, h_ci (tX_sound c2), h_if, show (6 : Int32) = nI 6 from rfl, pk_mul, nI_add, show side * 6 + n_n S side = 6 * side + n_n S side by omega]
    have fin : ∀ I4 : Nat → Nat → Int32, fX I I4 → tX I4 b n (r_nn b n S a0) → (∀ a1, r_nn b n S a0 = .inr a1 → ∀ j, j < 6 → I4 12 j = nI (p_nml b n a0 j)) → ∃ I', X2_someone_J93 11 ch (nI side) (nI (6 * side + n_n S side)) (hp I4 L ρ) = some (none, hp I' L ρ) ∧ sF ch I I' ∧ (∀ x, ch + 9 ≤ x → x ≤ ch + 12 → I' x = I x) ∧ stR ch I' b n (bd (ot_6 b n S a0) (fun a1 => .inr (a1, n_add S side (p_nml b n a0) (vl b n 0 9 (ot_1 b n S a0)) (vl b n 0 9 (ot_3 b n S a0)) (vl b n 0 9 (ot_5 b n S a0))))) := by
      intro I4 hF4 hT4 hN4
      have e96 := some_96 (L := L) (ρ := ρ) (side := side) hc hs 6 0 zFU I4 (by omega) (by unfold zFU; omega)
      have hI5 : ∀ c, c ≠ ch + 2 → (fun c j => if c = ch + 2 ∧ 6 * (6 * side + n_n S side) + 0 ≤ j ∧ j < 6 * (6 * side + n_n S side) + 6 then I4 12 (j - 6 * (6 * side + n_n S side)) else I4 c j) c = I4 c := fun c hq => by
        funext j
        exact if_neg (fun z => hq z.1)
      have hI5n : ∀ j, (fun c j => if c = ch + 2 ∧ 6 * (6 * side + n_n S side) + 0 ≤ j ∧ j < 6 * (6 * side + n_n S side) + 6 then I4 12 (j - 6 * (6 * side + n_n S side)) else I4 c j) (ch + 2) j = if 6 * (6 * side + n_n S side) ≤ j ∧ j < 6 * (6 * side + n_n S side) + 6 then I4 12 (j - 6 * (6 * side + n_n S side)) else I4 (ch + 2) j := fun j => by
        show (if ch + 2 = ch + 2 ∧ _ ∧ _ then _ else _) = _
        by_cases z : 6 * (6 * side + n_n S side) ≤ j ∧ j < 6 * (6 * side + n_n S side) + 6
        · rw [if_pos z, if_pos ⟨rfl, by omega, z.2⟩]
        · rw [if_neg z, if_neg (fun y => z ⟨by omega, y.2.2⟩)]
      generalize (fun c j => if c = ch + 2 ∧ 6 * (6 * side + n_n S side) + 0 ≤ j ∧ j < 6 * (6 * side + n_n S side) + 6 then I4 12 (j - 6 * (6 * side + n_n S side)) else I4 c j) = I5 at e96 hI5 hI5n
      have hT5 : tX I5 b n (r_nn b n S a0) := tX_fr (hI5 1 (by omega)) (hI5 2 (by omega)) hT4
      obtain ⟨I6, x, y, z, g1, g2, g3, gx, gy, gz, g4, g5, g6, g7, g8, g9⟩ := some_129 (L := L) (ρ := ρ) (c := n_n S side) hc hs hside (by omega) hT5 (by rw [hI5 _ (by omega), hF4.1 _ (by omega) (by omega)]; exact h1)
      have hr : ∀ d, d ≠ 2 → d ≠ 12 → d ≠ ch + 1 → d ≠ ch + 2 → d ≠ ch + 3 → d ≠ ch + 4 → d ≠ ch + 5 → I6 d = I d := fun d q1 q2 q3 q4 q5 q6 q7 => by rw [g4 d q1 q2 q3 q5 q6 q7, hI5 d q4, hF4.1 d q1 q2]
      have hr3 : ∀ d, d ≠ 2 → d ≠ 12 → d ≠ ch + 2 → I5 d = I d := fun d q1 q2 q4 => by rw [hI5 d q4, hF4.1 d q1 q2]
      refine ⟨I6, ?_, ⟨fun d q1 q2 q3 q4 => hr d q1 q3 (by omega) (by omega) (by omega) (by omega) (by omega), fC_tr hF4.2 (fC_tr (fC_r (hI5 2 (by omega))) g5)⟩, fun d q1 q2 => hr d (by omega) (by omega) (by omega) (by omega) (by omega) (by omega) (by omega), ?_⟩
      · unfold X2_someone_J93
        exact e96.trans g1
      · have hT6 : tX I6 b n (ot_6 b n S a0) := g2
        rcases q : ot_6 b n S a0 with e | a1
        · rw [q] at hT6
          refine ⟨hT6, fun j hj => ?_⟩
          have o := hok.2.2.2.1 j hj
          have p := hK.2.2.1 j hj
          rw [g7, g8, g9, hr3 _ (by omega) (by omega) (by omega), hr3 _ (by omega) (by omega) (by omega), hr3 _ (by omega) (by omega) (by omega)]
          by_cases z : j = 6 * side + n_n S side
          · rw [if_pos z, if_pos z, if_pos z]
            exact ⟨_, _, _, g3, rfl, rfl, rfl⟩
          · rw [if_neg z, if_neg z, if_neg z]
            exact ⟨_, _, _, o, p⟩
        · rw [q] at hT6
          obtain ⟨⟨x1, x2, x3, x4, x5, x6, k0, k1, k2, k3, k4, k5, k6, k7⟩, -⟩ := one_in (b := b) (n := n) (S := S) (tX_le b2).1 q
          have vx := gx x3 k4
          have vy := gy x5 k6
          have vz := gz a1 q
          have vx : x = vl b n 0 9 (ot_1 b n S a0) := vx
          have vy : y = vl b n 0 9 (ot_3 b n S a0) := vy
          have vz : z = vl b n 0 9 (ot_5 b n S a0) := vz
          rw [← vx, ← vy, ← vz]
          refine ⟨hT6, fun s hs => ?_, fun d hd i hi => ?_, fun j hj => ?_, fun j hj => ?_, ?_⟩
          · show I6 (ch + 1) s = nI (upn (n_n S) side (n_n S side + 1) s)
            rw [g6, hr3 _ (by omega) (by omega) (by omega)]
            by_cases z : s = side
            · rw [if_pos z, z, upn_s]
            · rw [if_neg z, upn_n z]; exact hK.1 s hs
          · have hnn := hN4 x1 k2
            rw [g4 _ (by omega) (by omega) (by omega) (by omega) (by omega) (by omega), hI5n]
            rcases (n_add_th hside (by omega)).mp hd with z | z
            · have z1 := n_new_no hok hside (by omega) z
              rw [n_add_o z1 hi, if_neg (by omega), hF4.1 _ (by omega) (by omega)]
              exact hK.2.1 d z i hi
            · rw [z, n_add_s hi, if_pos (by omega), show 6 * (6 * side + n_n S side) + i - 6 * (6 * side + n_n S side) = i by omega]
              exact hnn i hi
          · have p := hK.2.2.1 j hj
            show I6 (ch + 3) j = nI (upn (n_wm S) (6 * side + n_n S side) x j) ∧ I6 (ch + 4) j = nI (upn (n_wk S) (6 * side + n_n S side) y j) ∧ I6 (ch + 5) j = nI (upn (n_sz S) (6 * side + n_n S side) z j)
            rw [g7, g8, g9, hr3 _ (by omega) (by omega) (by omega), hr3 _ (by omega) (by omega) (by omega), hr3 _ (by omega) (by omega) (by omega)]
            by_cases z : j = 6 * side + n_n S side
            · rw [if_pos z, if_pos z, if_pos z, z, upn_s, upn_s, upn_s]; exact ⟨rfl, rfl, rfl⟩
            · rw [if_neg z, if_neg z, if_neg z, upn_n z, upn_n z, upn_n z]; exact p
          · rw [hr (ch + 6) (by omega) (by omega) (by omega) (by omega) (by omega) (by omega) (by omega), hr (ch + 7) (by omega) (by omega) (by omega) (by omega) (by omega) (by omega) (by omega), hr (ch + 8) (by omega) (by omega) (by omega) (by omega) (by omega) (by omega) (by omega)]
            exact hK.2.2.2.1 j hj
          · rw [hr ch (by omega) (by omega) (by omega) (by omega) (by omega) (by omega) (by omega)]
            exact hK.2.2.2.2
    have hT3 : tX I3 b n (r_nm b n a0) := c2
    rcases q : r_nm b n a0 with e | a1
    · have e0 : r_nn b n S a0 = .inl e := by unfold r_nn; rw [q]; rfl
      rw [q] at hT3
      rw [show sdI (br (.inr a0) (r_nm b n)) = 0 by show sdI (r_nm b n a0) = 0; rw [q]; rfl, if_pos rfl]
      exact fin I3 hF3 (by rw [e0]; exact hT3) (fun a1 z => by rw [e0] at z; cases z)
    · have hm := okm_nml (r_nm_in q).1
      have hf : ∀ j, j < 6 → I3 12 j = nI (p_nml b n a0 j) ∧ p_nml b n a0 j ≤ 26 := fun j hj => ⟨c4 a0 a1 rfl q j hj, hm.1.1 j hj⟩
      rw [q] at hT3
      rw [show sdI (br (.inr a0) (r_nm b n)) = 1 by show sdI (r_nm b n a0) = 1; rw [q]; rfl, if_neg (by decide), gr_11_2, ck_rc hc, h_ci (X1_named_k hc hok (kX_fX hc hF3 hK) hf), h_if]
      rcases z : n_fd S (p_nml b n a0) 12 0 with _ | y
      · have e0 : r_nn b n S a0 = .inr a1 := by
          unfold r_nn
          rw [q]
          exact if_pos z
        rw [oI_none, if_pos rfl]
        exact fin I3 hF3 (by rw [e0]; exact hT3) (fun a1 _ j hj => (hf j hj).1)
      · have e0 : r_nn b n S a0 = .inl (3, a0) := by
          unfold r_nn
          rw [q]
          exact if_neg (by rw [z]; intro h; cases h)
        obtain ⟨I4, d1, d2, d3⟩ := tX_fail (L := L) (ρ := ρ) (k := 3) (p := a0) (by omega) hT3
        have := (n_fd_s _ _ _ z).1
        rw [oI_some, if_neg (nI_nm1 (by omega)), gr_11_0, rc_2, show (3 : Int32) = nI 3 from rfl, h_cv d1]
        exact fin I4 (fX_tr hF3 d3) (by rw [e0]; exact d2) (fun a1 z => by rw [e0] at z; cases z)
end B85
