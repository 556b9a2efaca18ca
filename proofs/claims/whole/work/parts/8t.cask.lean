/-! ask: the class's side -/
section B8t
variable {I I0 : Nat → Nat → Int32} {L L0 : Nat → Nat → Int64} {ρ : zRh} {h : zH} {b : Nat → Nat} {n a x j k u w t p m side here : Nat} {r : rP} {S : nT} {A : aT} {N : Nat} {C : cT} {s : sT}
theorem XC_people (hX : RelX I L ρ A N) (hk : okC (a_C A)) : X1_people ρ.1 (hp I L ρ) = some (some (.int (nI (k_L (a_C A) + k_R (a_C A)))), hp I L ρ) := by
  have hC := cu_ch hX
  rcases cu_ρ hX with e | e
  · rw [e] at hC ⊢; exact X1_people_13 hC hk
  · rw [e] at hC ⊢; exact X1_people_27 hC hk
theorem q_jn0 {v x : Int} : q_jn 0 v p x = if v = -1 then (if x = 0 then v else (p : Int)) else v := rfl
theorem q_jn1 {v x : Int} : q_jn 1 v p x = if x = 0 then v else (p : Int) := rfl
theorem q_jn2 {v x : Int} : q_jn 2 v p x = v + x := rfl
theorem q_jn3 {v x : Int} : q_jn 3 v p x = v + x := rfl
theorem q_jn4 {v x : Int} : q_jn 4 v p x = if p = 0 then x else if x < v then v else x := rfl
theorem q_jn5 {v x : Int} : q_jn 5 v p x = if p = 0 then x else if x < v then x else v := rfl
theorem X7_joined_h {v x : Int} (hk : I 3 4 = nI k) (hk6 : k < 6) (hv : -20000000 ≤ v ∧ v ≤ 20000000) (hx : -1000000 ≤ x ∧ x ≤ 1000000) (hp2 : p < 100) : X7_joined 3 (cl v) (nI p) (ci x) (hp I L ρ) = some (some (.long (cl (q_jn k v p x))), hp I L ρ) := by
  have ex := cl_ci (x := x) (by omega) (by omega)
  have ep : (nI p).toInt64 = cl (p : Int) := by rw [ci_nat]; exact cl_ci (by omega) (by omega)
  have l0 : ci x = 0 ↔ x = 0 := ci_eq (x := x) (y := 0) (by omega) (by omega) (by omega) (by omega)
  have l1 : cl v = -1 ↔ v = -1 := by
    rw [show (-1 : Int64) = cl (-1) from rfl]
    exact cl_eq (x := v) (y := -1) (by omega) (by omega) (by omega) (by omega)
  have l2 : cl x < cl v ↔ x < v := cl_lt (by omega) (by omega) (by omega) (by omega)
  have l3 : nI p = 0 ↔ p = 0 := nI_inj (b := 0) (by omega) (by omega)
  unfold X7_joined
  rw [gi_3, hk, h_if, nI_toInt (by omega)]
  rcases (show k = 0 ∨ k = 1 ∨ k = 2 ∨ k = 3 ∨ k = 4 ∨ k = 5 by omega) with rfl | rfl | rfl | rfl | rfl | rfl
  · rw [if_neg (by omega), show (((0 : Nat) : Int) - 0).toNat = 0 from by omega]
    show z_if _ _ _ (hp I L ρ) = _
    rw [q_jn0, h_if]
    by_cases c : v = -1
    · rw [if_pos (l1.mpr c), if_pos c, h_if]
      by_cases d : x = 0
      · rw [if_pos (l0.mpr d), if_pos d]; rfl
      · rw [if_neg (fun q => d (l0.mp q)), if_neg d, ep]; rfl
    · rw [if_neg (fun q => c (l1.mp q)), if_neg c]; rfl
  · rw [if_neg (by omega), show (((1 : Nat) : Int) - 0).toNat = 1 from by omega]
    show z_if _ _ _ (hp I L ρ) = _
    rw [q_jn1, h_if]
    by_cases d : x = 0
    · rw [if_pos (l0.mpr d), if_pos d]; rfl
    · rw [if_neg (fun q => d (l0.mp q)), if_neg d, ep]; rfl
  · rw [if_neg (by omega), show (((2 : Nat) : Int) - 0).toNat = 2 from by omega]
    show z_ret _ (hp I L ρ) = _
    rw [q_jn2, ex, cl_add]; rfl
  · rw [if_neg (by omega), show (((3 : Nat) : Int) - 0).toNat = 3 from by omega]
    show z_ret _ (hp I L ρ) = _
    rw [q_jn3, ex, cl_add]; rfl
  · rw [if_neg (by omega), show (((4 : Nat) : Int) - 0).toNat = 4 from by omega]
    show z_if _ _ _ (hp I L ρ) = _
    rw [q_jn4, h_if, ex]
    by_cases c : p = 0
    · rw [if_pos (l3.mpr c), if_pos c]; rfl
    · rw [if_neg (fun q => c (l3.mp q)), if_neg c]
      by_cases d : x < v
      · rw [if_pos (l2.mpr d), if_pos d]; rfl
      · rw [if_neg (fun q => d (l2.mp q)), if_neg d]; rfl
  · rw [if_pos (by omega), h_if]
    rw [q_jn5, ex]
    by_cases c : p = 0
    · rw [if_pos (l3.mpr c), if_pos c]; rfl
    · rw [if_neg (fun q => c (l3.mp q)), if_neg c]
      by_cases d : x < v
      · rw [if_pos (l2.mpr d), if_pos d]; rfl
      · rw [if_neg (fun q => d (l2.mp q)), if_neg d]; rfl
def q_vs (A : aT) (l : List Nat) (p : Nat) : Int := e_val (q_F (a_C A) (a_s A) p) l
def q_cd (I : Nat → Nat → Int32) (k : Nat) (l : List Nat) : Prop := I 3 4 = nI k ∧ (I 6 0 = nI 0 ∧ I 7 0 = nI (0 + l.length) ∧ I 4 1 = nI l.length ∧ l.length ≤ 1616) ∧ ∀ i, i < l.length → I 5 (0 + i) = nI (l.getD i 0)
theorem q_vs_in (hok : okA A) {l : List Nat} {bb : Bool} (hl : w_ok l bb) (hp2 : p < k_L (a_C A) + k_R (a_C A)) : (bb = true → q_vs A l p = 0 ∨ q_vs A l p = 1) ∧ -1000000 ≤ q_vs A l p ∧ q_vs A l p ≤ 1000000 := e_val_b (q_F_in hok.1 hok.2.2.1.1 hp2) hl
def q_an2 (A : aT) (k : Nat) (l : List Nat) (m : Nat) : Int := q_an k (q_vs A l) m
theorem q_an_b {F : Nat → Int} {m0 : Nat} (hF : ∀ p, p < m0 → -1000000 ≤ F p ∧ F p ≤ 1000000) : ∀ m : Nat, m ≤ m0 → -1000000 * (m : Int) - 1 ≤ q_an k F m ∧ q_an k F m ≤ 1000000 * (m : Int)
  | 0, _ => by
    show _ ≤ (if 1 < k then (0 : Int) else -1) ∧ (if 1 < k then (0 : Int) else -1) ≤ _
    split <;> omega
  | m + 1, hm => by
    have h1 := q_an_b hF m (by omega)
    have h2 := hF m (by omega)
    show _ ≤ q_jn k (q_an k F m) m (F m) ∧ q_jn k (q_an k F m) m (F m) ≤ _
    unfold q_jn
    repeat' split
    all_goals omega
theorem ans_lp (hok : okA A) {l : List Nat} {bb : Bool} (hl : w_ok l bb) (hx : ∀ op ∈ l, op ≠ 10033) (hk6 : k < 6) : ∀ m p fuel (I : Nat → Nat → Int32), p + m = k_L (a_C A) + k_R (a_C A) → m < fuel → RelX I L ρ A N → q_cd I k l → ∃ I', z_fix (fun r x => X7_answer_B19 3 ρ.1 41 r x.1 x.2) fuel (cl (q_an k (q_vs A l) p), nI p) (hp I L ρ) = some (some (.long (cl (q_an k (q_vs A l) (k_L (a_C A) + k_R (a_C A))))), hp I' L ρ) ∧ ∀ d, d ≠ 8 → d ≠ 9 → I' d = I d := by
  have h66 := hok.1.1
  intro m
  induction m with
  | zero =>
    intro p fuel I hi hf hX hq
    obtain ⟨f, rfl⟩ : ∃ f, fuel = f + 1 := ⟨fuel - 1, by omega⟩
    refine ⟨I, ?_, fun _ _ _ => rfl⟩
    rw [h_fix]
    show X7_answer_B19 3 ρ.1 41 _ (cl (q_an k (q_vs A l) p)) (nI p) (hp I L ρ) = _
    unfold X7_answer_B19
    rw [rcc (cu_ρ hX), h_ci (XC_people hX hok.1), h_if, if_pos ((nI_le' (by omega) (by omega)).mpr (by omega)), show p = k_L (a_C A) + k_R (a_C A) by omega]; rfl
  | succ m ih =>
    intro p fuel I hi hf hX hq
    obtain ⟨f, rfl⟩ : ∃ f, fuel = f + 1 := ⟨fuel - 1, by omega⟩
    have hp2 : p < k_L (a_C A) + k_R (a_C A) := by omega
    obtain ⟨I1, a1, a2, a3⟩ := X7_gather_h (p := p) hX hok hp2
    have hF := q_F_in hok.1 hok.2.2.1.1 hp2
    obtain ⟨b1, b2, b3⟩ := hq
    obtain ⟨I2, c1, c2⟩ := X3_value_4 (L := L) (ρ := ρ) (I := I1) (F := q_F (a_C A) (a_s A) p) (x9 := 33) (w := 0) (u := l.length) (q := 0) hF q_F33 (by omega) b2.2.2.2 (by omega) hl (fun i hi => by rw [a2 5 (by omega)]; exact b3 i hi) (by rw [a2 6 (by omega)]; exact b2.1) (by rw [a2 7 (by omega)]; exact b2.2.1) (by rw [a2 4 (by omega)]; exact b2.2.2.1) (by omega) hx (fun i hi _ => a3 i hi)
    have r2 : ∀ d, d ≠ 8 → d ≠ 9 → I2 d = I d := fun d h1 h2 => by rw [c2 d h1, a2 d h2]
    have hX2 : RelX I2 L ρ A N := RelX_fr (fun a ha => r2 a (by unfold lastX at ha; omega) (by unfold lastX at ha; omega)) rfl (Nat.le_refl _) hX
    have hv := q_an_b (k := k) (F := q_vs A l) (m0 := k_L (a_C A) + k_R (a_C A)) (fun p hp3 => (q_vs_in hok hl hp3).2) p (by omega)
    have hxb := (q_vs_in hok hl hp2).2
    have ej := X7_joined_h (I := I2) (L := L) (ρ := ρ) (v := q_an k (q_vs A l) p) (x := q_vs A l p) (p := p) (by rw [r2 3 (by omega) (by omega)]; exact b1) hk6 (by omega) hxb (by omega)
    obtain ⟨I', d1, d2⟩ := ih (p + 1) f I2 (by omega) (by omega) hX2 (by
      unfold q_cd
      rw [r2 3 (by omega) (by omega), r2 4 (by omega) (by omega), r2 5 (by omega) (by omega), r2 6 (by omega) (by omega), r2 7 (by omega) (by omega)]
      exact ⟨b1, b2, b3⟩)
    refine ⟨I', ?_, fun d h1 h2 => by rw [d2 d h1 h2, r2 d h1 h2]⟩
    rw [h_fix]
    show X7_answer_B19 3 ρ.1 41 _ (cl (q_an k (q_vs A l) p)) (nI p) (hp I L ρ) = _
    generalize z_fix (fun r x => X7_answer_B19 3 ρ.1 41 r x.1 x.2) f = rec at d1
    unfold X7_answer_B19
    rw [rcc (cu_ρ hX), h_ci (XC_people hX hok.1), h_if, if_neg (fun q => by have := (nI_le' (by omega) (by omega)).mp q; omega), rc_3, h_cv a1, gr_3_1, gr_3_3, rc_4]
    have c1 : X3_value 4 0 9 (hp I1 L ρ) = some (some (.int (ci (q_vs A l p))), hp I2 L ρ) := c1
    rw [h_ci c1, rc_3, h_cl ej, nI_1]
    exact d1
theorem X7_answer_h (hok : okA A) {l : List Nat} {bb : Bool} (hl : w_ok l bb) (hx : ∀ op ∈ l, op ≠ 10033) (hk6 : k < 6) (hX : RelX I L ρ A N) (hq : q_cd I k l) : ∃ I', X7_answer 3 ρ.1 41 (hp I L ρ) = some (some (.long (cl (q_an k (q_vs A l) (k_L (a_C A) + k_R (a_C A))))), hp I' L ρ) ∧ ∀ d, d ≠ 8 → d ≠ 9 → I' d = I d := by
  have h66 := hok.1.1
  obtain ⟨I', d1, d2⟩ := ans_lp hok hl hx hk6 (k_L (a_C A) + k_R (a_C A)) 0 zFU I (by omega) (by unfold zFU; omega) hX hq
  refine ⟨I', ?_, d2⟩
  unfold X7_answer X7_answer_J15
  rw [gi_3, hq.1, h_if]
  have e : q_an k (q_vs A l) 0 = if 1 < k then 0 else -1 := rfl
  rw [e] at d1
  by_cases c : 1 < k
  · rw [if_pos c] at d1
    rw [if_pos (show (1 : Int32) < nI k from (nI_lt' (a := 1) (b := k) (by omega) (by omega)).mpr c)]
    exact d1
  · rw [if_neg c] at d1
    rw [if_neg (show ¬ (1 : Int32) < nI k from fun q => c ((nI_lt' (a := 1) (b := k) (by omega) (by omega)).mp q))]
    exact d1
/-- the tape has been read -/
def wF2 (A : aT) (f : Int32 × Int32) : aT := mkA (a_T A) 0 (a_C A) (a_nm A) (a_kc A) (a_s A) (a_K A) (a_P A) (a_V A) (a_O A) (a_m A) (a_R A) f (a_D A)
theorem okA_F2 {f : Int32 × Int32} (h : okA A) : okA (wF2 A f) := okA_Fl (e := (0, 0)) h
theorem X_flt {I' : Nat → Nat → Int32} {ρ' : zRh} {f : Int32 × Int32} (hX : RelX I L ρ A N) (hE : rhE ρ ρ') (hr : ∀ d, lastX d → d ≠ 0 → I' d = I d) (h0 : ∀ k, k ≠ 1 → k ≠ 17 → k ≠ 18 → I' 0 k = I 0 k) (h1 : I' 0 1 = 0) (h17 : I' 0 17 = f.1) (h18 : I' 0 18 = f.2) : RelX I' L ρ' (wF2 A f) N := by
  obtain ⟨hc, hT, hS41, hpa, hV, hO, hR, -, hD⟩ := hX
  have cur : ∀ c c', ((c = 13 ∧ c' = 27) ∨ (c = 27 ∧ c' = 13)) → curX c c' I ρ A → curX c c' I' ρ' (wF2 A f) := by
    intro c c' hcc hcu
    have := cur_fr hcc (fun a ha => hr a (by unfold lastX; omega) (by omega)) hcu
    obtain ⟨⟨q1, q2, q3⟩, q4, q5, q6⟩ := this
    exact ⟨⟨by rw [hE.1, q1], by rw [hE.2.1, q2], by rw [hE.2.2, q3]⟩, q4, q5, q6⟩
  refine ⟨?_, ⟨h1, fun i hi => absurd hi (Nat.not_lt_zero i)⟩, stX_fr (fun a x y => hr a (by unfold lastX; omega) (by omega)) hS41, pa_fr (fun a x y => hr a (by unfold lastX; omega) (by omega)) (Nat.le_refl _) hpa, ?_, ?_, ?_, ⟨h17, h18⟩, hD⟩
  · rcases hc with q | q
    · exact Or.inl (cur 13 27 (Or.inl ⟨rfl, rfl⟩) q)
    · exact Or.inr (cur 27 13 (Or.inr ⟨rfl, rfl⟩) q)
  · rw [h0 13 (by omega) (by omega) (by omega), hr 212 (by unfold lastX; omega) (by omega)]; exact hV
  · rw [h0 15 (by omega) (by omega) (by omega), hr 213 (by unfold lastX; omega) (by omega)]; exact hO
  · rw [hr 214 (by unfold lastX; omega) (by omega)]; exact hR
def aqF (R : Sum (Nat × Nat) (Nat × List Nat)) : Int32 × Int32 := match R with
  | .inl e => (nI e.1, nI e.2)
  | .inr _ => (0, -1)
def aqV (A : aT) (R : Sum (Nat × Nat) (Nat × List Nat)) : Value := match R with
  | .inl _ => .long (-1000000000000000)
  | .inr q => .long (cl (q_an q.1 (q_vs A q.2) (k_L (a_C A) + k_R (a_C A))))
theorem q_rd_ok {q : Nat × List Nat} (h : q_rd b n a = .inr q) : q.1 < 6 ∧ w_ok q.2 (decide (q.1 ≤ 2)) ∧ ∀ op ∈ q.2, cok 3 op := by
  unfold q_rd at h
  rcases tin : t_in b n a (wsK 15) 0 with _ | k
  · rw [tin] at h; cases h
  rw [tin] at h
  have h : q_en n k (q_pq b n a k) = .inr q := h
  have hk6 : k < 6 := by
    have := (t_in_lt tin).1.2
    have : (wsK 15).length = 6 := by decide
    omega
  unfold q_en at h
  rcases z : q_pq b n a k with e | q1
  · rw [z] at h; cases h
  rw [z] at h
  have h : (if n ≤ q1.1 then .inr (k, q1.2) else .inl (1, q1.1) : Sum (Nat × Nat) (Nat × List Nat)) = .inr q := h
  by_cases c : n ≤ q1.1
  · rw [if_pos c] at h
    cases h
    unfold q_pq at z
    have hw := pq_ok (b := b) (n := n) (kd := 3) (by omega) (k := if 2 < k then 3 else 0) (by split <;> omega) z
    refine ⟨hk6, ?_, hw.2⟩
    have := hw.1
    by_cases y : 2 < k
    · rw [if_pos y] at this
      rw [decide_eq_false (show ¬ k ≤ 2 by omega)]; exact this
    · rw [if_neg y] at this
      rw [decide_eq_true (show k ≤ 2 by omega)]; exact this
  · rw [if_neg c] at h; cases h
theorem cok_33 {op : Nat} (h : cok 3 op) : op ≠ 10033 := by
  rcases h with q | ⟨k, q1, q2, q3⟩ | q | q | q <;> omega
theorem ask_X (hok : okA A) (hX : RelX I L ρ A N) : runX (X11_ask 0) I L ρ (aqV A (q_rd (t_b A) (a_n A) (sk (t_b A) (a_n A) 0))) (wF2 A (aqF (q_rd (t_b A) (a_n A) (sk (t_b A) (a_n A) 0)))) N := by
  have hn := hok.2.1.1
  obtain ⟨e1, e2⟩ := X_take hX
  obtain ⟨J, hJ⟩ : ∃ J, J = u2 (u2 (u2 (u2 (u2 I 0 1 0) 2 1 (nI (a_n A))) 2 2 0) 2 3 0) 2 4 (-1) := ⟨_, rfl⟩
  have jr : ∀ x, x ≠ 0 → x ≠ 2 → J x = I x := fun x q1 q2 => by rw [hJ, u2r q2, u2r q2, u2r q2, u2r q2, u2r q1]
  have j0 : ∀ k, k ≠ 1 → J 0 k = I 0 k := fun k hk => by rw [hJ, u2r (by omega), u2r (by omega), u2r (by omega), u2r (by omega), u2_ap, if_neg (by omega)]
  have j01 : J 0 1 = 0 := by rw [hJ, u2r (by omega), u2r (by omega), u2r (by omega), u2r (by omega), u2_ap, if_pos ⟨rfl, rfl⟩]
  have j21 : J 2 1 = nI (a_n A) := by rw [hJ, u2_ap, if_neg (by omega), u2_ap, if_neg (by omega), u2_ap, if_neg (by omega), u2_ap, if_pos ⟨rfl, rfl⟩]
  have j22 : J 2 2 = 0 := by rw [hJ, u2_ap, if_neg (by omega), u2_ap, if_neg (by omega), u2_ap, if_pos ⟨rfl, rfl⟩]
  have j23 : J 2 3 = 0 := by rw [hJ, u2_ap, if_neg (by omega), u2_ap, if_pos ⟨rfl, rfl⟩]
  have j24 : J 2 4 = -1 := by rw [hJ, u2_ap, if_pos ⟨rfl, rfl⟩]
  have hT : tX J (t_b A) (a_n A) (.inr (sk (t_b A) (a_n A) 0)) := ⟨⟨j21, hn, fun i hi => ⟨(t_b_h hok hi).1, by rw [jr 1 (by omega) (by omega), hX.2.1.2 i hi]; exact (t_b_h hok hi).2⟩⟩, j23, 0, Nat.zero_le _, j22, rfl⟩
  obtain ⟨I1, ρ1, r1, r2, r3, r4⟩ := X7_read_h (L := L) (ρ := ρ) hT
  have eO : X9_open 2 (nI (a_n A)) (hp (u2 I 0 1 0) L ρ) = some (none, hp J L ρ) := by
    unfold X9_open
    rw [pi_2, pi_2, pi_2, pi_2, hJ]; rfl
  have eF : X11_takeFault 0 (hp I1 L ρ1) = some (none, hp (u2 (u2 I1 0 17 (I1 2 3)) 0 18 (I1 2 4)) L ρ1) := by
    unfold X11_takeFault
    rw [gr_0_2, gi_2, pi_0, gr_0_2, gi_2, pi_0, u2r (by omega)]; rfl
  obtain ⟨K, hK⟩ : ∃ K, K = u2 (u2 I1 0 17 (I1 2 3)) 0 18 (I1 2 4) := ⟨_, rfl⟩
  rw [← hK] at eF
  have k17 : K 0 17 = I1 2 3 := by rw [hK, u2_ap, if_neg (by omega), u2_ap, if_pos ⟨rfl, rfl⟩]
  have k18 : K 0 18 = I1 2 4 := by rw [hK, u2_ap, if_pos ⟨rfl, rfl⟩]
  have kr : ∀ d, d ≠ 0 → K d = I1 d := fun d hd => by rw [hK, u2r hd, u2r hd]
  have run : X11_ask 0 (hp I L ρ) = (z_if (I1 2 3 = 0) (z_gr 11 3 0 fun x5 => z_gr 11 5 0 fun x6 => z_gr 11 7 0 fun x7 => z_rc 7 x5 (z_cl (X7_answer x5 x6 x7) fun y8 => z_ret (some (.long y8)))) (z_ret (some (.long ((-1000000000000000)))))) (hp K L ρ1) := by
    unfold X11_ask
    rw [gr_0_2, rc_0, h_ci e1, rc_2, h_cv eO, gr_0_3, rc_3, h_cv r1, rc_0, h_cv eF, gi_0, k17]
  have hRel : ∀ f : Int32 × Int32, I1 2 3 = f.1 → I1 2 4 = f.2 → RelX K L ρ1 (wF2 A f) N := by
    intro f h1 h2
    refine X_flt hX r2 (fun d hd h0 => ?_) (fun k q1 q2 q3 => ?_) ?_ (by rw [k17, h1]) (by rw [k18, h2])
    · unfold lastX at hd
      rw [kr d h0, r3.1 d (by omega) (by omega) (by omega) (by omega) (by omega) (by omega) (by omega) (by omega), jr d h0 (by omega)]
    · rw [hK, u2_ap, if_neg (by omega), u2_ap, if_neg (by omega), r3.1 0 (by omega) (by omega) (by omega) (by omega) (by omega) (by omega) (by omega) (by omega), j0 k q1]
    · rw [hK, u2_ap, if_neg (by omega), u2_ap, if_neg (by omega), r3.1 0 (by omega) (by omega) (by omega) (by omega) (by omega) (by omega) (by omega) (by omega), j01]
  have h215 : ∀ a, 215 ≤ a → K a = I a := fun a ha => by rw [kr a (by omega), r3.1 a (by omega) (by omega) (by omega) (by omega) (by omega) (by omega) (by omega) (by omega), jr a (by omega) (by omega)]
  rcases z : q_rd (t_b A) (a_n A) (sk (t_b A) (a_n A) 0) with e | q
  · rw [z] at r4
    have r4 : tX I1 (t_b A) (a_n A) (.inl e) := r4
    refine ⟨K, L, ρ1, ?_, hRel (nI e.1, nI e.2) r4.2.1 r4.2.2.2.1, fun a ha => ⟨h215 a ha, rfl⟩⟩
    rw [run, h_if, if_neg (tX_ne r4)]; rfl
  · rw [z] at r4
    obtain ⟨w1, w2, w3, w4⟩ := r4
    have w5 : I1 2 4 = -1 := by rw [(r3.2.2 w1).2, j24]
    have hX1 := hRel (0, -1) w1 w5
    have ho := q_rd_ok z
    obtain ⟨I2, g1, g2⟩ := X7_answer_h (k := q.1) (okA_F2 (f := (0, -1)) hok) ho.2.1 (fun op hop => cok_33 (ho.2.2 op hop)) ho.1 hX1 (by
      unfold q_cd
      rw [kr 3 (by omega), kr 4 (by omega), kr 5 (by omega), kr 6 (by omega), kr 7 (by omega)]
      exact ⟨w2, w3, w4⟩)
    refine ⟨I2, L, ρ1, ?_, RelX_fr (fun a ha => g2 a (by unfold lastX at ha; omega) (by unfold lastX at ha; omega)) rfl (Nat.le_refl _) hX1, fun a ha => ⟨by rw [g2 a (by omega) (by omega), h215 a ha], rfl⟩⟩
    rw [run, h_if, if_pos w1, gr_0_3, gr_0_5, gr_0_7, rc_3, h_cl g1]; rfl
end B8t
