/-! the class reads a church: from an empty one -/
section B8b
variable {I I0 : Nat → Nat → Int32} {L L0 : Nat → Nat → Int64} {ρ : zRh} {h : zH} {b : Nat → Nat} {n a x j k ch side here u w : Nat} {r : rP} {S : nT}
def n_0 (wm wk sz : Nat → Nat) : nT := (fun _ => 0, (fun _ => 0, 0), (wm, wk, sz), fun _ => false, (fun _ => 5, fun _ => 0), (3, 0), fun _ => none)
theorem okN_0 {wm wk sz : Nat → Nat} (hs : ∀ j, j < 12 → wm j ≤ 9 ∧ wk j ≤ 9 ∧ sz j ≤ 9) : okN (n_0 wm wk sz) := by
  refine ⟨⟨Nat.zero_le _, Nat.zero_le _⟩, fun a ha => ?_, fun a c ha => ?_, hs, fun _ _ _ _ _ => rfl, fun j _ => ⟨by show 5 ≤ 9; omega, Nat.zero_le _⟩, ⟨by show 1 ≤ 3; omega, by show 3 ≤ 12; omega⟩, Nat.zero_le _, fun w _ l hl => by cases hl⟩
  · have ha : a < 0 ∨ (6 ≤ a ∧ a < 6 + 0) := ha
    omega
  · have ha : a < 0 ∨ (6 ≤ a ∧ a < 6 + 0) := ha
    omega
theorem clear_16 (hc : chk ch) : ∀ m i fuel (I : Nat → Nat → Int32), i + m = 72 → m < fuel → z_fix (fun r x => X1_clear_B16 ch r x) fuel (nI i) (hp I L ρ) = X1_clear_J38 ch (hp (fun c j => if c = ch + 6 ∧ i ≤ j ∧ j < 72 then 0 else I c j) L ρ) := by
  intro m
  induction m with
  | zero =>
    intro i fuel I hi hf
    obtain ⟨g, rfl⟩ : ∃ g, fuel = g + 1 := ⟨fuel - 1, by omega⟩
    have e : (fun c j => if c = ch + 6 ∧ i ≤ j ∧ j < 72 then 0 else I c j) = I := by
      funext c j
      exact if_neg (by omega)
    rw [h_fix, e]
    show X1_clear_B16 ch _ (nI i) (hp I L ρ) = _
    unfold X1_clear_B16
    rw [ck_g5 hc, ck_n6 hc, h_if, if_pos ((nI_le' (by omega) (by omega)).mpr (by omega))]
  | succ m ih =>
    intro i fuel I hi hf
    obtain ⟨g, rfl⟩ : ∃ g, fuel = g + 1 := ⟨fuel - 1, by omega⟩
    have hr := ih (i + 1) g (u2 I (ch + 6) i 0) (by omega) (by omega)
    have e : (fun c j => if c = ch + 6 ∧ i + 1 ≤ j ∧ j < 72 then 0 else u2 I (ch + 6) i 0 c j) = (fun c j => if c = ch + 6 ∧ i ≤ j ∧ j < 72 then 0 else I c j) := by
      funext c j
      rw [u2_ap]
      by_cases q1 : c = ch + 6 ∧ i + 1 ≤ j ∧ j < 72
      · rw [if_pos q1, if_pos (by omega)]
      · rw [if_neg q1]
        by_cases q2 : c = ch + 6 ∧ j = i
        · rw [if_pos q2, if_pos (by omega)]
        · rw [if_neg q2, if_neg (by omega)]
    rw [e] at hr
    rw [h_fix, ← hr]
    show X1_clear_B16 ch _ (nI i) (hp I L ρ) = _
    generalize z_fix (fun r x => X1_clear_B16 ch r x) g = rec
    unfold X1_clear_B16
    rw [ck_g5 hc, ck_n6 hc, h_if, if_neg (fun q => by have := (nI_le' (by omega) (by omega)).mp q; omega), ck_g5 hc, ck_s6 hc (by omega), nI_1]; rfl
theorem X1_clear_h (hc : chk ch) {wm wk sz : Nat → Nat} (hs : ∀ j, j < 12 → I (ch + 3) j = nI (wm j) ∧ I (ch + 4) j = nI (wk j) ∧ I (ch + 5) j = nI (sz j)) : ∃ I', X1_clear ch (hp I L ρ) = some (none, hp I' L ρ) ∧ I' 2 = I 2 ∧ sF ch I I' ∧ kX ch I' (n_0 wm wk sz) ∧ kC ch I' (n_0 wm wk sz) 0 := by
  have hcc : ch = 13 ∨ ch = 27 := hc
  have e16 := clear_16 (L := L) (ρ := ρ) hc 72 0 zFU (u2 (u2 I (ch + 1) 0 0) (ch + 1) 1 0) (by omega) (by unfold zFU; omega)
  have g0 : ∀ c j, c ≠ ch + 6 → (fun c j => if c = ch + 6 ∧ 0 ≤ j ∧ j < 72 then 0 else u2 (u2 I (ch + 1) 0 0) (ch + 1) 1 0 c j) c j = u2 (u2 I (ch + 1) 0 0) (ch + 1) 1 0 c j := fun c j q => if_neg (fun z => q z.1)
  have g1 : ∀ j, j < 72 → (fun c j => if c = ch + 6 ∧ 0 ≤ j ∧ j < 72 then 0 else u2 (u2 I (ch + 1) 0 0) (ch + 1) 1 0 c j) (ch + 6) j = 0 := fun j q => if_pos ⟨rfl, Nat.zero_le _, q⟩
  generalize (fun c j => if c = ch + 6 ∧ 0 ≤ j ∧ j < 72 then 0 else u2 (u2 I (ch + 1) 0 0) (ch + 1) 1 0 c j) = I1 at e16 g0 g1
  obtain ⟨I2, hI2⟩ : ∃ I2, I2 = u2 I1 ch 6 0 := ⟨_, rfl⟩
  obtain ⟨I3, hI3⟩ : ∃ I3 : Nat → Nat → Int32, I3 = fun b i => if b = ch + 7 ∧ i < 72 then 5 else I2 b i := ⟨_, rfl⟩
  obtain ⟨I4, hI4⟩ : ∃ I4 : Nat → Nat → Int32, I4 = fun b i => if b = ch + 8 ∧ i < 72 then 0 else I3 b i := ⟨_, rfl⟩
  obtain ⟨I5, hI5⟩ : ∃ I5, I5 = u2 (u2 (u2 I4 ch 9 3) ch 10 0) (ch + 9) 1 0 := ⟨_, rfl⟩
  obtain ⟨I6, hI6⟩ : ∃ I6 : Nat → Nat → Int32, I6 = fun b i => if b = ch + 11 ∧ i < 3 then -1 else I5 b i := ⟨_, rfl⟩
  obtain ⟨I7, hI7⟩ : ∃ I7 : Nat → Nat → Int32, I7 = fun b i => if b = ch + 12 ∧ i < 3 then -1 else I6 b i := ⟨_, rfl⟩
  have run : X1_clear ch (hp I L ρ) = some (none, hp I7 L ρ) := by
    have eC : X3_clear (ch + 9) (hp (u2 (u2 I4 ch 9 3) ch 10 0) L ρ) = some (none, hp I7 L ρ) := by
      unfold X3_clear
      rw [cc_pi hc, ← hI5, cc_g2 hc, h_cv (ck_f11 hc), ← hI6, cc_g3 hc, h_cv (ck_f12 hc), ← hI7]; rfl
    unfold X1_clear
    rw [ck_g0 hc, show z_sa 20 (ch + 1) 0 0 = z_sa 20 (ch + 1) (nI 0) 0 from rfl, ck_s1 hc (by omega), ck_g0 hc, show z_sa 20 (ch + 1) 1 0 = z_sa 20 (ch + 1) (nI 1) 0 from rfl, ck_s1 hc (by omega)]
    refine e16.trans ?_
    unfold X1_clear_J38
    rw [ck_pi hc, ← hI2, ck_g7 hc, h_cv (ck_f7 hc), ← hI3, ck_g8 hc, h_cv (ck_f8 hc), ← hI4, ck_pi hc, ck_pi hc, ck_g11 hc, cc_rc hc, h_cv eC]; rfl
  have r7 : ∀ c j, c ≠ ch + 12 → I7 c j = I6 c j := fun c j q => by rw [hI7]; exact if_neg (fun z => q z.1)
  have r6 : ∀ c j, c ≠ ch + 11 → I6 c j = I5 c j := fun c j q => by rw [hI6]; exact if_neg (fun z => q z.1)
  have r4 : ∀ c j, c ≠ ch + 8 → I4 c j = I3 c j := fun c j q => by rw [hI4]; exact if_neg (fun z => q z.1)
  have r3 : ∀ c j, c ≠ ch + 7 → I3 c j = I2 c j := fun c j q => by rw [hI3]; exact if_neg (fun z => q z.1)
  have r24 : ∀ c j, c ≠ ch → c ≠ ch + 9 → c ≠ ch + 7 → c ≠ ch + 8 → c ≠ ch + 11 → c ≠ ch + 12 → I7 c j = I1 c j := fun c j q1 q2 q3 q4 q5 q6 => by rw [r7 c j q6, r6 c j q5, hI5, u2r q2, u2r q1, u2r q1, r4 c j q4, r3 c j q3, hI2, u2r q1]
  have r2 : I7 2 = I 2 := by
    funext j
    rw [r24 2 j (by omega) (by omega) (by omega) (by omega) (by omega) (by omega), g0 2 j (by omega), u2r (by omega), u2r (by omega)]
  refine ⟨I7, run, r2, ⟨fun c q1 q2 q3 q4 => ?_, fC_r r2⟩, ⟨fun s hs => ?_, fun d hd => ?_, fun j hj => ?_, fun j hj => ⟨?_, ?_, ?_⟩, ?_, ?_, ?_⟩, ?_, fun w hw => ?_⟩
  · funext j
    rw [r24 c j (by omega) (by omega) (by omega) (by omega) (by omega) (by omega), g0 c j (by omega), u2r (by omega), u2r (by omega)]
  · rw [r24 _ s (by omega) (by omega) (by omega) (by omega) (by omega) (by omega), g0 _ s (by omega), u2_ap, u2_ap]
    by_cases z : s = 1
    · rw [if_pos ⟨rfl, z⟩]; rfl
    · rw [if_neg (fun y => z y.2), if_pos ⟨rfl, by omega⟩]; rfl
  · have hd : d < 0 ∨ (6 ≤ d ∧ d < 6 + 0) := hd
    omega
  · rw [r24 _ j (by omega) (by omega) (by omega) (by omega) (by omega) (by omega), r24 _ j (by omega) (by omega) (by omega) (by omega) (by omega) (by omega), r24 _ j (by omega) (by omega) (by omega) (by omega) (by omega) (by omega), g0 _ j (by omega), g0 _ j (by omega), g0 _ j (by omega), u2r (by omega), u2r (by omega), u2r (by omega), u2r (by omega), u2r (by omega), u2r (by omega)]
    exact hs j hj
  · rw [r24 _ j (by omega) (by omega) (by omega) (by omega) (by omega) (by omega), g1 j hj]; rfl
  · rw [r7 _ j (by omega), r6 _ j (by omega), hI5, u2r (by omega), u2r (by omega), u2r (by omega), r4 _ j (by omega), hI3]
    show (if ch + 7 = ch + 7 ∧ j < 72 then 5 else _) = _
    rw [if_pos ⟨rfl, hj⟩]; rfl
  · rw [r7 _ j (by omega), r6 _ j (by omega), hI5, u2r (by omega), u2r (by omega), u2r (by omega), hI4]
    show (if ch + 8 = ch + 8 ∧ j < 72 then 0 else _) = _
    rw [if_pos ⟨rfl, hj⟩]; rfl
  · rw [r7 _ _ (by omega), r6 _ _ (by omega), hI5, u2r (by omega), u2_ap, if_neg (by omega), u2_ap, if_neg (by omega), r4 _ _ (by omega), r3 _ _ (by omega), hI2, u2_ap, if_pos ⟨rfl, rfl⟩]; rfl
  · rw [r7 _ _ (by omega), r6 _ _ (by omega), hI5, u2r (by omega), u2_ap, if_neg (by omega), u2_ap, if_pos ⟨rfl, rfl⟩]; rfl
  · rw [r7 _ _ (by omega), r6 _ _ (by omega), hI5, u2r (by omega), u2_ap, if_pos ⟨rfl, rfl⟩]; rfl
  · rw [r7 _ _ (by omega), r6 _ _ (by omega), hI5, u2_ap, if_pos ⟨rfl, rfl⟩]; rfl
  · show I7 (ch + 11) w = -1
    rw [r7 _ _ (by omega), hI6]
    exact if_pos ⟨rfl, hw⟩
/-- a church's text, read by the class -/
def rdE (ch : Nat) (I : Nat → Nat → Int32) (b : Nat → Nat) (n : Nat) (v : Int32) (R : Sum (Nat × Nat) (Nat × nT)) : Prop := match R with
  | .inl e => I 2 3 = nI e.1 ∧ (1 ≤ e.1 ∧ e.1 ≤ 5) ∧ I 2 4 = nI e.2 ∧ spX ch I
  | .inr q => I 2 3 = 0 ∧ I 2 4 = -1 ∧ v = nI q.1 ∧ q.1 ≤ 60 ∧ okN q.2 ∧ n_kc q.2 ≤ 60 ∧ kX ch I q.2 ∧ ∃ u, kC ch I (n_dn q.2) u ∧ u ≤ 1609
theorem X2_read_h (hc : chk ch) (hT : txX I b n) (h2 : I 2 2 = 0) (h3 : I 2 3 = 0) (h4 : I 2 4 = -1) {wm wk sz : Nat → Nat} (hw9 : ∀ j, j < 12 → wm j ≤ 9 ∧ wk j ≤ 9 ∧ sz j ≤ 9) (hs : ∀ j, j < 12 → I (ch + 3) j = nI (wm j) ∧ I (ch + 4) j = nI (wk j) ∧ I (ch + 5) j = nI (sz j)) : ∃ I' ρ' v, X2_read 11 ch (hp I L ρ) = some (some (.int v), hp I' L ρ') ∧ rhE ρ ρ' ∧ sF ch I I' ∧ rdE ch I' b n v (s_lp b n 62 0 (sk b n 0) (n_0 wm wk sz)) := by
  have hcc : ch = 13 ∨ ch = 27 := hc
  obtain ⟨I1, a1, e2, a2, a3, a4⟩ := X1_clear_h (L := L) (ρ := ρ) hc hs
  have hT0 : tX I b n (.inr (sk b n 0)) := ⟨hT, h3, 0, Nat.zero_le _, h2, rfl⟩
  have hT1 : tX I1 b n (.inr (sk b n 0)) := tX_fr (a2.1 1 (by omega) (by omega) (by omega) (by omega)) e2 hT0
  obtain ⟨I2, ρ2, v, b1, b2, b3, b4⟩ := read_lp (L := L) hc 62 0 (sk b n 0) (n_0 wm wk sz) 0 I1 ρ zFU (by omega) (by omega) (by unfold zFU; omega) hT1 (okN_0 hw9) (Nat.le_refl _) a3 a4 (Nat.zero_le _)
  have b1 : z_fix (fun r x => X2_read_B8 11 ch r x.1 x.2) zFU (0, 0) (hp I1 L ρ) = X2_read_J82 ch v (hp I2 L ρ2) := b1
  have hF := sF_tr a2 b3
  unfold X2_read
  rw [ck_rc hc, h_cv a1, b1]
  unfold X2_read_J82
  rcases q : s_lp b n 62 0 (sk b n 0) (n_0 wm wk sz) with e | q1
  · rw [q] at b4
    obtain ⟨I3, c1, c2, c3⟩ := X1_complete_u (L := L) (ρ := ρ2) hc b4.2
    have e3 : I3 2 = I2 2 := c2 2 (by omega)
    refine ⟨I3, ρ2, v, by rw [ck_rc hc, h_cv c1]; rfl, b2, sF_tr hF (sF_cdF hc c2), ?_, b4.1.2.2.1, ?_, c3.1⟩
    · rw [e3]; exact b4.1.2.1
    · rw [e3]; exact b4.1.2.2.2.1
  · rw [q] at b4
    obtain ⟨k1, k2, k3, k4, k5, k6, u, k7, k8⟩ := b4
    obtain ⟨I3, u3, c1, c2, c3, c4⟩ := X1_complete_s (L := L) (ρ := ρ2) hc k7 k8
    have e3 : I3 2 = I2 2 := c2 2 (by omega)
    refine ⟨I3, ρ2, v, by rw [ck_rc hc, h_cv c1]; rfl, b2, sF_tr hF (sF_cdF hc c2), ?_, ?_, k2, k3, k4, k5, kX_fr (fun x q1 q2 => c2 x (by omega)) k6, u3, c3, c4⟩
    · rw [e3]; exact k1
    · rw [e3]; exact fC_m1 hF.2 k1 h4
end B8b
