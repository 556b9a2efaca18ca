/-! a church that is being read: its cells, by the number of the first -/
section B84
variable {I I0 : Nat → Nat → Int32} {L L0 : Nat → Nat → Int64} {ρ : zRh} {h : zH} {b : Nat → Nat} {n a x j k ch : Nat} {r : rP} {f : zM}
def chk (ch : Nat) : Prop := ch = 13 ∨ ch = 27
theorem chk_cd (hc : chk ch) : cdk (ch + 9) := by unfold chk at hc; unfold cdk; omega
theorem ck_g0 (hc : chk ch) {F : Nat → zM} : z_gr 1 0 ch F (hp I L ρ) = F (ch + 1) (hp I L ρ) := by rcases hc with rfl | rfl <;> exact h_gr (by decide) rfl rfl
theorem ck_g1 (hc : chk ch) {F : Nat → zM} : z_gr 1 1 ch F (hp I L ρ) = F (ch + 2) (hp I L ρ) := by rcases hc with rfl | rfl <;> exact h_gr (by decide) rfl rfl
theorem ck_g2 (hc : chk ch) {F : Nat → zM} : z_gr 1 2 ch F (hp I L ρ) = F (ch + 3) (hp I L ρ) := by rcases hc with rfl | rfl <;> exact h_gr (by decide) rfl rfl
theorem ck_g3 (hc : chk ch) {F : Nat → zM} : z_gr 1 3 ch F (hp I L ρ) = F (ch + 4) (hp I L ρ) := by rcases hc with rfl | rfl <;> exact h_gr (by decide) rfl rfl
theorem ck_g4 (hc : chk ch) {F : Nat → zM} : z_gr 1 4 ch F (hp I L ρ) = F (ch + 5) (hp I L ρ) := by rcases hc with rfl | rfl <;> exact h_gr (by decide) rfl rfl
theorem ck_g5 (hc : chk ch) {F : Nat → zM} : z_gr 1 5 ch F (hp I L ρ) = F (ch + 6) (hp I L ρ) := by rcases hc with rfl | rfl <;> exact h_gr (by decide) rfl rfl
theorem ck_g7 (hc : chk ch) {F : Nat → zM} : z_gr 1 7 ch F (hp I L ρ) = F (ch + 7) (hp I L ρ) := by rcases hc with rfl | rfl <;> exact h_gr (by decide) rfl rfl
theorem ck_g8 (hc : chk ch) {F : Nat → zM} : z_gr 1 8 ch F (hp I L ρ) = F (ch + 8) (hp I L ρ) := by rcases hc with rfl | rfl <;> exact h_gr (by decide) rfl rfl
theorem ck_g11 (hc : chk ch) {F : Nat → zM} : z_gr 1 11 ch F (hp I L ρ) = F (ch + 9) (hp I L ρ) := by rcases hc with rfl | rfl <;> exact h_gr (by decide) rfl rfl
theorem ck_gi (hc : chk ch) {F : Int32 → zM} : z_gi 1 k ch F (hp I L ρ) = F (I ch k) (hp I L ρ) := by rcases hc with rfl | rfl <;> exact h_gi (by decide) rfl
theorem ck_pi (hc : chk ch) {x : Int32} : z_pi 1 k ch x f (hp I L ρ) = f (hp (u2 I ch k x) L ρ) := by rcases hc with rfl | rfl <;> exact h_pi (by decide) rfl
theorem ck_rc (hc : chk ch) : z_rc 1 ch f (hp I L ρ) = f (hp I L ρ) := by rcases hc with rfl | rfl <;> exact h_rc (by decide) rfl
theorem ck_l1 (hc : chk ch) {F : Int32 → zM} (h : j < 2) : z_la 20 (ch + 1) (nI j) F (hp I L ρ) = F (I (ch + 1) j) (hp I L ρ) := by rcases hc with rfl | rfl <;> exact h_la (by decide) rfl h (Nat.le_of_ble_eq_true rfl)
theorem ck_s1 (hc : chk ch) {x : Int32} (h : j < 2) : z_sa 20 (ch + 1) (nI j) x f (hp I L ρ) = f (hp (u2 I (ch + 1) j x) L ρ) := by rcases hc with rfl | rfl <;> exact h_sa (by decide) rfl h (Nat.le_of_ble_eq_true rfl)
theorem ck_l2 (hc : chk ch) {F : Int32 → zM} (h : j < 72) : z_la 20 (ch + 2) (nI j) F (hp I L ρ) = F (I (ch + 2) j) (hp I L ρ) := by rcases hc with rfl | rfl <;> exact h_la (by decide) rfl h (Nat.le_of_ble_eq_true rfl)
theorem ck_s2 (hc : chk ch) {x : Int32} (h : j < 72) : z_sa 20 (ch + 2) (nI j) x f (hp I L ρ) = f (hp (u2 I (ch + 2) j x) L ρ) := by rcases hc with rfl | rfl <;> exact h_sa (by decide) rfl h (Nat.le_of_ble_eq_true rfl)
theorem ck_l3 (hc : chk ch) {F : Int32 → zM} (h : j < 12) : z_la 20 (ch + 3) (nI j) F (hp I L ρ) = F (I (ch + 3) j) (hp I L ρ) := by rcases hc with rfl | rfl <;> exact h_la (by decide) rfl h (Nat.le_of_ble_eq_true rfl)
theorem ck_s3 (hc : chk ch) {x : Int32} (h : j < 12) : z_sa 20 (ch + 3) (nI j) x f (hp I L ρ) = f (hp (u2 I (ch + 3) j x) L ρ) := by rcases hc with rfl | rfl <;> exact h_sa (by decide) rfl h (Nat.le_of_ble_eq_true rfl)
theorem ck_l4 (hc : chk ch) {F : Int32 → zM} (h : j < 12) : z_la 20 (ch + 4) (nI j) F (hp I L ρ) = F (I (ch + 4) j) (hp I L ρ) := by rcases hc with rfl | rfl <;> exact h_la (by decide) rfl h (Nat.le_of_ble_eq_true rfl)
theorem ck_s4 (hc : chk ch) {x : Int32} (h : j < 12) : z_sa 20 (ch + 4) (nI j) x f (hp I L ρ) = f (hp (u2 I (ch + 4) j x) L ρ) := by rcases hc with rfl | rfl <;> exact h_sa (by decide) rfl h (Nat.le_of_ble_eq_true rfl)
theorem ck_l5 (hc : chk ch) {F : Int32 → zM} (h : j < 12) : z_la 20 (ch + 5) (nI j) F (hp I L ρ) = F (I (ch + 5) j) (hp I L ρ) := by rcases hc with rfl | rfl <;> exact h_la (by decide) rfl h (Nat.le_of_ble_eq_true rfl)
theorem ck_s5 (hc : chk ch) {x : Int32} (h : j < 12) : z_sa 20 (ch + 5) (nI j) x f (hp I L ρ) = f (hp (u2 I (ch + 5) j x) L ρ) := by rcases hc with rfl | rfl <;> exact h_sa (by decide) rfl h (Nat.le_of_ble_eq_true rfl)
theorem ck_l6 (hc : chk ch) {F : Int32 → zM} (h : j < 72) : z_la 21 (ch + 6) (nI j) F (hp I L ρ) = F (I (ch + 6) j) (hp I L ρ) := by rcases hc with rfl | rfl <;> exact h_la (by decide) rfl h (Nat.le_of_ble_eq_true rfl)
theorem ck_s6 (hc : chk ch) {x : Int32} (h : j < 72) : z_sa 21 (ch + 6) (nI j) x f (hp I L ρ) = f (hp (u2 I (ch + 6) j x) L ρ) := by rcases hc with rfl | rfl <;> exact h_sa (by decide) rfl h (Nat.le_of_ble_eq_true rfl)
theorem ck_l7 (hc : chk ch) {F : Int32 → zM} (h : j < 72) : z_la 20 (ch + 7) (nI j) F (hp I L ρ) = F (I (ch + 7) j) (hp I L ρ) := by rcases hc with rfl | rfl <;> exact h_la (by decide) rfl h (Nat.le_of_ble_eq_true rfl)
theorem ck_s7 (hc : chk ch) {x : Int32} (h : j < 72) : z_sa 20 (ch + 7) (nI j) x f (hp I L ρ) = f (hp (u2 I (ch + 7) j x) L ρ) := by rcases hc with rfl | rfl <;> exact h_sa (by decide) rfl h (Nat.le_of_ble_eq_true rfl)
theorem ck_l8 (hc : chk ch) {F : Int32 → zM} (h : j < 72) : z_la 20 (ch + 8) (nI j) F (hp I L ρ) = F (I (ch + 8) j) (hp I L ρ) := by rcases hc with rfl | rfl <;> exact h_la (by decide) rfl h (Nat.le_of_ble_eq_true rfl)
theorem ck_s8 (hc : chk ch) {x : Int32} (h : j < 72) : z_sa 20 (ch + 8) (nI j) x f (hp I L ρ) = f (hp (u2 I (ch + 8) j x) L ρ) := by rcases hc with rfl | rfl <;> exact h_sa (by decide) rfl h (Nat.le_of_ble_eq_true rfl)
theorem ck_l10 (hc : chk ch) {F : Int32 → zM} (h : j < 1616) : z_la 20 (ch + 10) (nI j) F (hp I L ρ) = F (I (ch + 10) j) (hp I L ρ) := by rcases hc with rfl | rfl <;> exact h_la (by decide) rfl h (Nat.le_of_ble_eq_true rfl)
theorem ck_s10 (hc : chk ch) {x : Int32} (h : j < 1616) : z_sa 20 (ch + 10) (nI j) x f (hp I L ρ) = f (hp (u2 I (ch + 10) j x) L ρ) := by rcases hc with rfl | rfl <;> exact h_sa (by decide) rfl h (Nat.le_of_ble_eq_true rfl)
theorem ck_l11 (hc : chk ch) {F : Int32 → zM} (h : j < 3) : z_la 20 (ch + 11) (nI j) F (hp I L ρ) = F (I (ch + 11) j) (hp I L ρ) := by rcases hc with rfl | rfl <;> exact h_la (by decide) rfl h (Nat.le_of_ble_eq_true rfl)
theorem ck_s11 (hc : chk ch) {x : Int32} (h : j < 3) : z_sa 20 (ch + 11) (nI j) x f (hp I L ρ) = f (hp (u2 I (ch + 11) j x) L ρ) := by rcases hc with rfl | rfl <;> exact h_sa (by decide) rfl h (Nat.le_of_ble_eq_true rfl)
theorem ck_l12 (hc : chk ch) {F : Int32 → zM} (h : j < 3) : z_la 20 (ch + 12) (nI j) F (hp I L ρ) = F (I (ch + 12) j) (hp I L ρ) := by rcases hc with rfl | rfl <;> exact h_la (by decide) rfl h (Nat.le_of_ble_eq_true rfl)
theorem ck_s12 (hc : chk ch) {x : Int32} (h : j < 3) : z_sa 20 (ch + 12) (nI j) x f (hp I L ρ) = f (hp (u2 I (ch + 12) j x) L ρ) := by rcases hc with rfl | rfl <;> exact h_sa (by decide) rfl h (Nat.le_of_ble_eq_true rfl)
theorem ck_n6 (hc : chk ch) {F : Int32 → zM} : z_len (ch + 6) F (hp I L ρ) = F (nI 72) (hp I L ρ) := by rcases hc with rfl | rfl <;> exact h_len (by decide) (by decide) (by decide)
theorem cc_g0 (hc : chk ch) {F : Nat → zM} : z_gr 3 0 (ch + 9) F (hp I L ρ) = F (ch + 10) (hp I L ρ) := by rcases hc with rfl | rfl <;> exact h_gr (by decide) rfl rfl
theorem cc_g2 (hc : chk ch) {F : Nat → zM} : z_gr 3 2 (ch + 9) F (hp I L ρ) = F (ch + 11) (hp I L ρ) := by rcases hc with rfl | rfl <;> exact h_gr (by decide) rfl rfl
theorem cc_g3 (hc : chk ch) {F : Nat → zM} : z_gr 3 3 (ch + 9) F (hp I L ρ) = F (ch + 12) (hp I L ρ) := by rcases hc with rfl | rfl <;> exact h_gr (by decide) rfl rfl
theorem cc_gi (hc : chk ch) {F : Int32 → zM} : z_gi 3 k (ch + 9) F (hp I L ρ) = F (I (ch + 9) k) (hp I L ρ) := by rcases hc with rfl | rfl <;> exact h_gi (by decide) rfl
theorem cc_pi (hc : chk ch) {x : Int32} : z_pi 3 k (ch + 9) x f (hp I L ρ) = f (hp (u2 I (ch + 9) k x) L ρ) := by rcases hc with rfl | rfl <;> exact h_pi (by decide) rfl
theorem cc_rc (hc : chk ch) : z_rc 3 (ch + 9) f (hp I L ρ) = f (hp I L ρ) := rc_cd (chk_cd hc)
theorem ck_f7 (hc : chk ch) {v : Int32} : J7_fill_53178 (ch + 7) v (hp I L ρ) = some (none, hp (fun b i => if b = ch + 7 ∧ i < 72 then v else I b i) L ρ) := by rcases hc with rfl | rfl <;> exact J7_fill_h (by decide) rfl (by decide)
theorem ck_f8 (hc : chk ch) {v : Int32} : J7_fill_53178 (ch + 8) v (hp I L ρ) = some (none, hp (fun b i => if b = ch + 8 ∧ i < 72 then v else I b i) L ρ) := by rcases hc with rfl | rfl <;> exact J7_fill_h (by decide) rfl (by decide)
theorem ck_f11 (hc : chk ch) {v : Int32} : J7_fill_53178 (ch + 11) v (hp I L ρ) = some (none, hp (fun b i => if b = ch + 11 ∧ i < 3 then v else I b i) L ρ) := by rcases hc with rfl | rfl <;> exact J7_fill_h (by decide) rfl (by decide)
theorem ck_f12 (hc : chk ch) {v : Int32} : J7_fill_53178 (ch + 12) v (hp I L ρ) = some (none, hp (fun b i => if b = ch + 12 ∧ i < 3 then v else I b i) L ρ) := by rcases hc with rfl | rfl <;> exact J7_fill_h (by decide) rfl (by decide)
def kX (ch : Nat) (I : Nat → Nat → Int32) (S : nT) : Prop := (∀ s, s < 2 → I (ch + 1) s = nI (n_n S s)) ∧ (∀ a, n_th S a → ∀ i, i < 6 → I (ch + 2) (6 * a + i) = nI (n_nm S (6 * a + i))) ∧ (∀ j, j < 12 → I (ch + 3) j = nI (n_wm S j) ∧ I (ch + 4) j = nI (n_wk S j) ∧ I (ch + 5) j = nI (n_sz S j)) ∧ (∀ j, j < 72 → I (ch + 6) j = bI (n_kin S j) ∧ I (ch + 7) j = nI (n_lk S j) ∧ I (ch + 8) j = nI (n_kw S j)) ∧ (I ch 6 = nI (n_kc S) ∧ I ch 9 = nI (n_rt S) ∧ I ch 10 = nI (n_sl S))
def kC (ch : Nat) (I : Nat → Nat → Int32) (S : nT) (u : Nat) : Prop := I (ch + 9) 1 = nI u ∧ ∀ w, w < 3 → match n_cd S w with
  | none => I (ch + 11) w = -1
  | some l => ∃ q, I (ch + 11) w = nI q ∧ I (ch + 12) w = nI (q + l.length) ∧ q + l.length ≤ u ∧ ∀ i, i < l.length → I (ch + 10) (q + i) = nI (l.getD i 0)
def kU (ch : Nat) (I : Nat → Nat → Int32) : Prop := spX ch I ∧ ∃ u, u ≤ 1616 ∧ I (ch + 9) 1 = nI u
theorem kX_fr {I' : Nat → Nat → Int32} {S : nT} (h : ∀ x, ch ≤ x → x ≤ ch + 8 → I' x = I x) (hK : kX ch I S) : kX ch I' S := by
  unfold kX
  rw [h ch (by omega) (by omega), h (ch + 1) (by omega) (by omega), h (ch + 2) (by omega) (by omega), h (ch + 3) (by omega) (by omega), h (ch + 4) (by omega) (by omega), h (ch + 5) (by omega) (by omega), h (ch + 6) (by omega) (by omega), h (ch + 7) (by omega) (by omega), h (ch + 8) (by omega) (by omega)]
  exact hK
theorem kC_fr {I' : Nat → Nat → Int32} {S : nT} {u : Nat} (h : ∀ x, ch + 9 ≤ x → x ≤ ch + 12 → I' x = I x) (hK : kC ch I S u) : kC ch I' S u := by
  unfold kC
  rw [h (ch + 9) (by omega) (by omega), h (ch + 10) (by omega) (by omega), h (ch + 11) (by omega) (by omega), h (ch + 12) (by omega) (by omega)]
  exact hK
theorem kU_fr {I' : Nat → Nat → Int32} (h : ∀ x, ch ≤ x → x ≤ ch + 12 → I' x = I x) (hK : kU ch I) : kU ch I' := by
  unfold kU spX
  rw [h (ch + 3) (by omega) (by omega), h (ch + 4) (by omega) (by omega), h (ch + 5) (by omega) (by omega), h (ch + 9) (by omega) (by omega)]
  exact hK
theorem kU_of {S : nT} {u : Nat} (hok : okN S) (hu : u ≤ 1616) (hK : kX ch I S) (hC : kC ch I S u) : kU ch I := ⟨fun j hj => ⟨_, _, _, hok.2.2.2.1 j hj, hK.2.2.1 j hj⟩, u, hu, hC.1⟩
def sF (ch : Nat) (I I' : Nat → Nat → Int32) : Prop := (∀ x, x ≠ 2 → x ≠ 10 → x ≠ 12 → (x < ch ∨ ch + 12 < x) → I' x = I x) ∧ fC I I'
theorem sF_0 : sF ch I I := ⟨fun _ _ _ _ _ => rfl, fC_0⟩
theorem sF_tr {I1 I2 : Nat → Nat → Int32} (h1 : sF ch I I1) (h2 : sF ch I1 I2) : sF ch I I2 := ⟨fun x a c d e => by rw [h2.1 x a c d e, h1.1 x a c d e], fC_tr h1.2 h2.2⟩
theorem sF_fX {I' : Nat → Nat → Int32} (h : fX I I') : sF ch I I' := ⟨fun x a c d e => h.1 x a d, h.2⟩
theorem sF_u (hc : chk ch) {c k : Nat} {v : Int32} (h : ch ≤ c ∧ c ≤ ch + 12) : sF ch I (u2 I c k v) := by
  unfold chk at hc
  exact ⟨fun x _ _ _ e => u2r (by omega), fC_u (by omega)⟩
theorem kX_fX (hc : chk ch) {I' : Nat → Nat → Int32} {S : nT} (h : fX I I') (hK : kX ch I S) : kX ch I' S := by
  unfold chk at hc
  exact kX_fr (fun x a c => h.1 x (by omega) (by omega)) hK
theorem kC_fX (hc : chk ch) {I' : Nat → Nat → Int32} {S : nT} {u : Nat} (h : fX I I') (hK : kC ch I S u) : kC ch I' S u := by
  unfold chk at hc
  exact kC_fr (fun x a c => h.1 x (by omega) (by omega)) hK
theorem kU_fX (hc : chk ch) {I' : Nat → Nat → Int32} (h : fX I I') (hK : kU ch I) : kU ch I' := by
  unfold chk at hc
  exact kU_fr (fun x a c => h.1 x (by omega) (by omega)) hK
theorem tX_fr {I' : Nat → Nat → Int32} (h1 : I' 1 = I 1) (h2 : I' 2 = I 2) (h : tX I b n r) : tX I' b n r := by
  unfold tX
  rw [h2]
  exact ⟨txX_fr h1 (by rw [h2]) h.1, h.2⟩
theorem tX_ch (hc : chk ch) {c k : Nat} {v : Int32} (h : ch ≤ c) (hT : tX I b n r) : tX (u2 I c k v) b n r := by
  unfold chk at hc
  exact tX_fr (u2r (by omega)) (u2r (by omega)) hT
/-! who has a name -/
theorem ck_isThere (hc : chk ch) {S : nT} (hok : okN S) (h1 : ∀ s, s < 2 → I (ch + 1) s = nI (n_n S s)) (ha : a < 12) : X1_isThere ch (nI a) (hp I L ρ) = some (some (.int (bI (decide (n_th S a)))), hp I L ρ) := by
  have h0 := hok.1
  unfold X1_isThere
  rw [h_if]
  by_cases c : 6 ≤ a
  · rw [if_pos (show (6 : Int32) ≤ nI a from (nI_le' (a := 6) (by omega) (by omega)).mpr c), ck_g0 hc, show (1 : Int32) = nI 1 from rfl, ck_l1 hc (by omega), h1 1 (by omega), h_if, show (6 : Int32) = nI 6 from rfl, pk_sub (by omega)]
    by_cases d : n_n S 1 ≤ a - 6
    · rw [if_pos ((nI_le' (by omega) (by omega)).mpr d), h_rb0, decide_eq_false (fun q => by omega)]; rfl
    · rw [if_neg (fun q => d ((nI_le' (by omega) (by omega)).mp q))]
      show z_rb 1 _ = _
      rw [h_rb1, decide_eq_true (Or.inr ⟨c, by omega⟩)]; rfl
  · rw [if_neg (show ¬ (6 : Int32) ≤ nI a from fun q => c ((nI_le' (a := 6) (by omega) (by omega)).mp q)), ck_g0 hc, show (0 : Int32) = nI 0 from rfl, ck_l1 hc (by omega), h1 0 (by omega), h_if]
    by_cases d : n_n S 0 ≤ a
    · rw [if_pos ((nI_le' (by omega) (by omega)).mpr d)]
      show z_rb 0 _ = _
      rw [h_rb0, decide_eq_false (fun q => by omega)]; rfl
    · rw [if_neg (fun q => d ((nI_le' (by omega) (by omega)).mp q)), h_rb1, decide_eq_true (Or.inl (by omega))]; rfl
def eqf (g f : Nat → Nat) : Nat → Nat → Bool
  | _, 0 => true
  | i, m + 1 => decide (g i = f i) && eqf g f (i + 1) m
theorem eqf_iff {g f : Nat → Nat} : ∀ m i, eqf g f i m = true ↔ ∀ j, i ≤ j → j < i + m → g j = f j
  | 0, i => ⟨fun _ j h1 h2 => by omega, fun _ => rfl⟩
  | m + 1, i => by
    show (decide (g i = f i) && eqf g f (i + 1) m) = true ↔ _
    rw [Bool.and_eq_true, eqf_iff m (i + 1)]
    refine ⟨fun ⟨h1, h2⟩ j h3 h4 => ?_, fun h => ⟨decide_eq_true (h i (Nat.le_refl _) (by omega)), fun j h1 h2 => h j (by omega) (by omega)⟩⟩
    by_cases c : j = i
    · rw [c]; exact of_decide_eq_true h1
    · exact h2 j (by omega) (by omega)
theorem nmd_17 (hc : chk ch) {S : nT} {f : Nat → Nat} {r2 : Int32 → zM} (ha : a < 12) (hn : ∀ i, i < 6 → I (ch + 2) (6 * a + i) = nI (n_nm S (6 * a + i)) ∧ n_nm S (6 * a + i) ≤ 26) (hf : ∀ j, j < 6 → I 12 j = nI (f j) ∧ f j ≤ 26) : ∀ m i fuel, i + m = 6 → m + 1 < fuel → z_fix (fun r x => X1_named_B17 r2 ch 12 (nI a) r x.1 x.2) fuel (nI 1, nI i) (hp I L ρ) = X1_named_J59 r2 ch 12 (nI a) (bI (eqf (fun j => n_nm S (6 * a + j)) f i m)) (hp I L ρ) := by
  intro m
  induction m with
  | zero =>
    intro i fuel hi hfu
    obtain ⟨g, rfl⟩ : ∃ g, fuel = g + 1 := ⟨fuel - 1, by omega⟩
    rw [h_fix]
    show X1_named_B17 r2 ch 12 (nI a) _ (nI 1) (nI i) (hp I L ρ) = _
    unfold X1_named_B17
    rw [h_if, if_pos (show (6 : Int32) ≤ nI i from (nI_le' (a := 6) (by omega) (by omega)).mpr (by omega))]; rfl
  | succ m ih =>
    intro i fuel hi hfu
    obtain ⟨g, rfl⟩ : ∃ g, fuel = g + 2 := ⟨fuel - 2, by omega⟩
    have hr := ih (i + 1) (g + 1) (by omega) (by omega)
    have hz : z_fix (fun r x => X1_named_B17 r2 ch 12 (nI a) r x.1 x.2) (g + 1) (0, nI (i + 1)) (hp I L ρ) = X1_named_J59 r2 ch 12 (nI a) 0 (hp I L ρ) := by
      rw [h_fix]
      show X1_named_B17 r2 ch 12 (nI a) _ 0 (nI (i + 1)) (hp I L ρ) = _
      unfold X1_named_B17
      rw [h_if]
      by_cases d : (6 : Int32) ≤ nI (i + 1)
      · rw [if_pos d]
      · rw [if_neg d, h_if, if_pos rfl]
    rw [h_fix]
    show X1_named_B17 r2 ch 12 (nI a) _ (nI 1) (nI i) (hp I L ρ) = _
    generalize z_fix (fun r x => X1_named_B17 r2 ch 12 (nI a) r x.1 x.2) (g + 1) = rec at hr hz
    unfold X1_named_B17 X1_named_J52
    rw [h_if, if_neg (show ¬ (6 : Int32) ≤ nI i from fun q => by have := (nI_le' (a := 6) (by omega) (by omega)).mp q; omega), h_if, if_neg (show ¬ nI 1 = 0 by decide), ck_g1 hc, show (6 : Int32) = nI 6 from rfl, pk_mul, nI_add, show a * 6 + i = 6 * a + i by omega, ck_l2 hc (by omega), la_12 (by omega), (hn i (by omega)).1, (hf i (by omega)).1, h_if]
    have b1 := (hn i (by omega)).2
    have b2 := (hf i (by omega)).2
    by_cases c : n_nm S (6 * a + i) = f i
    · rw [if_pos (by rw [c]), nI_1]
      have e : eqf (fun j => n_nm S (6 * a + j)) f i (m + 1) = eqf (fun j => n_nm S (6 * a + j)) f (i + 1) m := by
        show (decide (n_nm S (6 * a + i) = f i) && _) = _
        rw [decide_eq_true c]; rfl
      rw [e]
      exact hr
    · rw [if_neg (fun q => c ((nI_inj (by omega) (by omega)).mp q)), nI_1, show eqf (fun j => n_nm S (6 * a + j)) f i (m + 1) = false by
        show (decide (n_nm S (6 * a + i) = f i) && _) = _
        rw [decide_eq_false c]; rfl]
      exact hz
theorem ck_named (hc : chk ch) {S : nT} {f : Nat → Nat} (hok : okN S) (h1 : ∀ s, s < 2 → I (ch + 1) s = nI (n_n S s)) (h2 : ∀ a, n_th S a → ∀ i, i < 6 → I (ch + 2) (6 * a + i) = nI (n_nm S (6 * a + i))) (hf : ∀ j, j < 6 → I 12 j = nI (f j) ∧ f j ≤ 26) : ∀ m a fuel, a + m = 12 → m < fuel → z_fix (fun r x => X1_named_B2 ch 12 r x) fuel (nI a) (hp I L ρ) = some (some (.int (oI (n_fd S f m a))), hp I L ρ) := by
  intro m
  induction m with
  | zero =>
    intro a fuel hi hfu
    obtain ⟨g, rfl⟩ : ∃ g, fuel = g + 1 := ⟨fuel - 1, by omega⟩
    rw [h_fix]
    show X1_named_B2 ch 12 _ (nI a) (hp I L ρ) = _
    unfold X1_named_B2
    rw [h_if, if_pos (show (12 : Int32) ≤ nI a from (nI_le' (a := 12) (by omega) (by omega)).mpr (by omega))]; rfl
  | succ m ih =>
    intro a fuel hi hfu
    obtain ⟨g, rfl⟩ : ∃ g, fuel = g + 1 := ⟨fuel - 1, by omega⟩
    have hr := ih (a + 1) g (by omega) (by omega)
    rw [h_fix]
    show X1_named_B2 ch 12 _ (nI a) (hp I L ρ) = some (some (.int (oI (if n_th S a ∧ (∀ i, i < 6 → n_nm S (6 * a + i) = f i) then some a else n_fd S f m (a + 1)))), hp I L ρ)
    generalize z_fix (fun r x => X1_named_B2 ch 12 r x) g = rec at hr
    unfold X1_named_B2
    rw [h_if, if_neg (show ¬ (12 : Int32) ≤ nI a from fun q => by have := (nI_le' (a := 12) (by omega) (by omega)).mp q; omega), ck_rc hc, h_ci (ck_isThere hc hok h1 (by omega))]
    by_cases t : n_th S a
    · have hn : ∀ i, i < 6 → I (ch + 2) (6 * a + i) = nI (n_nm S (6 * a + i)) ∧ n_nm S (6 * a + i) ≤ 26 := fun i hi => ⟨h2 a t i hi, (hok.2.1 a t).1 i hi⟩
      have e := nmd_17 (L := L) (ρ := ρ) (r2 := rec) hc (by omega) hn hf 6 0 zFU (by omega) (by unfold zFU; omega)
      rw [decide_eq_true t]
      show z_fix (fun r x => X1_named_B17 rec ch 12 (nI a) r x.1 x.2) zFU (nI 1, nI 0) (hp I L ρ) = _
      rw [e]
      unfold X1_named_J59
      rw [h_if]
      cases d : eqf (fun j => n_nm S (6 * a + j)) f 0 6 with
      | true => rw [if_neg (show ¬ bI true = 0 by decide), if_pos ⟨t, fun i hi => (eqf_iff 6 0).mp d i (Nat.zero_le _) (by omega)⟩]; rfl
      | false =>
        rw [bF, if_pos rfl, if_neg (fun z => by
          have := (eqf_iff (g := fun j => n_nm S (6 * a + j)) (f := f) 6 0).mpr (fun j _ h2 => z.2 j (by omega))
          rw [d] at this; cases this), nI_1]
        exact hr
    · rw [decide_eq_false t, if_neg (fun z => t z.1), show zFU = (zFU - 1) + 1 from rfl, h_fix]
      show X1_named_B17 rec ch 12 (nI a) _ 0 0 (hp I L ρ) = _
      unfold X1_named_B17 X1_named_J59
      rw [h_if, if_neg (by decide), h_if, if_pos rfl, h_if, if_pos rfl, nI_1]
      exact hr
theorem X1_named_k (hc : chk ch) {S : nT} {f : Nat → Nat} (hok : okN S) (hK : kX ch I S) (hf : ∀ j, j < 6 → I 12 j = nI (f j) ∧ f j ≤ 26) : X1_named ch 12 (hp I L ρ) = some (some (.int (oI (n_fd S f 12 0))), hp I L ρ) := ck_named hc hok hK.1 hK.2.1 hf 12 0 zFU (by omega) (by unfold zFU; omega)
end B84
