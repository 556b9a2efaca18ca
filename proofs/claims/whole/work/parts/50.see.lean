/-! what is seen -/
section B50
variable {I : Nat → Nat → Int32} {L : Nat → Nat → Int64} {ρ : zRh} {h : zH} {A : aT} {N : Nat} {C : cT} {s : sT} {tr : Option Nat}
def wV (A : aT) (V : List (Nat × Nat × Nat)) : aT := mkA (a_T A) 0 (a_C A) (a_nm A) (a_kc A) (a_s A) (a_K A) (a_P A) V (a_O A) (a_m A) (a_R A) (a_f A) (a_D A)
def t_b (A : aT) (j : Nat) : Nat := (a_T A j).toNatClampNeg
theorem t_b_h (hok : okA A) {j : Nat} (hj : j < a_n A) : t_b A j < 256 ∧ a_T A j = nI (t_b A j) := by
  obtain ⟨b, h1, h2⟩ := hok.2.1.2 j hj
  unfold t_b
  rw [h2, nI_clamp (by omega)]
  exact ⟨h1, rfl⟩
def t_ok (A : aT) (i : Nat) : Bool := decide (t_b A (3 * i) ≤ 30 ∧ t_b A (3 * i + 1) < k_L (a_C A) + k_R (a_C A) ∧ t_b A (3 * i + 2) ≤ 1)
/-- from row i on, m rows are well told -/
def t_all (A : aT) (i : Nat) : Nat → Bool
  | 0 => true
  | m + 1 => t_ok A i && t_all A (i + 1) m
theorem t_all_at : ∀ {m i : Nat}, t_all A i m = true → ∀ j, i ≤ j → j < i + m → t_ok A j = true
  | 0, i, _, j, h1, h2 => by omega
  | m + 1, i, h, j, h1, h2 => by
    have h' : (t_ok A i && t_all A (i + 1) m) = true := h
    rw [Bool.and_eq_true] at h'
    by_cases c : j = i
    · rw [c]; exact h'.1
    · exact t_all_at h'.2 j (by omega) (by omega)
theorem XS_slot (hρ : ρ.1 = 13 ∨ ρ.1 = 27) (hC : chX ρ.1 I C) (hk : okC C) {b : Nat} (hb : b < 256) : X1_slot ρ.1 (nI b) (hp I L ρ) = some (some (.int (oI (k_slot C b))), hp I L ρ) := by
  have e : k_sl C (nI b) = k_slot C b := by
    unfold k_sl
    rw [if_neg (by rw [v_neg, nI_toI (by omega)]; omega), nI_clamp (by omega)]
  rw [← e]
  rcases hρ with e | e
  · rw [e] at hC ⊢; exact X1_slot_13 hC hk _
  · rw [e] at hC ⊢; exact X1_slot_27 hC hk _
theorem k_slot_some (hk : okC C) {b : Nat} : (b < k_L C + k_R C → k_slot C b = some (k_cd C b)) ∧ (¬ b < k_L C + k_R C → k_slot C b = none) := by
  refine ⟨fun h => (k_cd_th h hk).2.2, fun h => ?_⟩
  unfold k_slot
  rw [if_neg (by omega), if_neg h]
theorem X11_tells_lp (hok : okA A) (hρ : ρ.1 = 13 ∨ ρ.1 = 27) (hC : chX ρ.1 I (a_C A)) (hT : ∀ j, j < a_n A → I 1 j = a_T A j) {r : Nat} (hr : a_n A = 3 * r) : ∀ (m i fuel : Nat), i + m = r → m < fuel → z_fix (fun r x => X11_tellsSeen_B2 0 (nI (a_n A)) r x) fuel (nI (3 * i)) (hp I L ρ) = some (some (.int (bI (t_all A i m))), hp I L ρ) := by
  have hn := hok.2.1.1
  intro m
  induction m with
  | zero =>
    intro i fuel h1 h2
    obtain ⟨f, rfl⟩ : ∃ f, fuel = f + 1 := ⟨fuel - 1, by omega⟩
    rw [h_fix]
    show X11_tellsSeen_B2 0 (nI (a_n A)) _ (nI (3 * i)) (hp I L ρ) = _
    unfold X11_tellsSeen_B2
    rw [h_if, show (2 : Int32) = nI 2 from rfl, nI_add, if_pos (nI_le (by omega) (by omega)), h_rb1]; rfl
  | succ m ih =>
    intro i fuel h1 h2
    obtain ⟨f, rfl⟩ : ∃ f, fuel = f + 1 := ⟨fuel - 1, by omega⟩
    rw [h_fix]
    generalize hg : z_fix (fun r x => X11_tellsSeen_B2 0 (nI (a_n A)) r x) f = rec
    have b0 := t_b_h hok (j := 3 * i) (by omega)
    have b1 := t_b_h hok (j := 3 * i + 1) (by omega)
    have b2 := t_b_h hok (j := 3 * i + 2) (by omega)
    have hi := ih (i + 1) f (by omega) (by omega)
    rw [hg] at hi
    have h12 := hok.1.1
    show X11_tellsSeen_B2 0 (nI (a_n A)) rec (nI (3 * i)) (hp I L ρ) = some (some (.int (bI (t_ok A i && t_all A (i + 1) m))), hp I L ρ)
    unfold X11_tellsSeen_B2
    rw [h_if, show (2 : Int32) = nI 2 from rfl, show (1 : Int32) = nI 1 from rfl, show (3 : Int32) = nI 3 from rfl, nI_add, nI_add, nI_add, if_neg (nI_ge (by omega) (by omega)), gr_0_0, la_1 (by omega), hT _ (by omega), b0.2, h_if]
    by_cases c1 : 30 < t_b A (3 * i)
    · rw [if_pos (show (30 : Int32) < nI _ from nI_lt (a := 30) c1 (by omega)), h_rb0, show t_ok A i = false from decide_eq_false (by omega)]; rfl
    · rw [if_neg (show ¬ (30 : Int32) < nI _ from fun e => c1 ((nI_lt' (a := 30) (by omega) (by omega)).mp e)), gr_0_5, gr_0_0, la_1 (by omega), hT _ (by omega), b1.2, rcc hρ, h_ci (XS_slot hρ hC hok.1 b1.1), h_if, show (-nI 1 : Int32) = -1 from rfl]
      by_cases c2 : t_b A (3 * i + 1) < k_L (a_C A) + k_R (a_C A)
      · have hcd := k_th_lt hok.1 (k_cd_th c2 hok.1).1
        rw [(k_slot_some hok.1).1 c2, oI_some, if_neg (nI_nm1 (by omega)), gr_0_0, la_1 (by omega), hT _ (by omega), b2.2, h_if]
        by_cases c3 : t_b A (3 * i + 2) ≤ 1
        · rw [if_pos (show nI _ ≤ nI 1 from nI_le c3 (by omega)), show t_ok A i = true from decide_eq_true ⟨by omega, c2, c3⟩, show 3 * i + 3 = 3 * (i + 1) by omega, hi]; rfl
        · rw [if_neg (show ¬ nI _ ≤ nI 1 from nI_ge (by omega) (by omega)), h_rb0, show t_ok A i = false from decide_eq_false (by omega)]; rfl
      · rw [(k_slot_some hok.1).2 c2, oI_none, if_pos rfl, h_rb0, show t_ok A i = false from decide_eq_false (by omega)]; rfl
theorem X12_tells_lp (hok : okA A) (hM : chM I (a_C A)) (hT : ∀ j, j < a_n A → I 216 j = a_T A j) {r : Nat} (hr : a_n A = 3 * r) : ∀ (m i fuel : Nat), i + m = r → m + 1 < fuel → z_fix (fun r x => X12_see_B36 215 (nI (a_n A)) r x.1 x.2) fuel (1, nI (3 * i)) (hp I L ρ) = X12_see_J96 215 (nI (a_n A)) (bI (t_all A i m)) (hp I L ρ) := by
  have hn := hok.2.1.1
  intro m
  induction m with
  | zero =>
    intro i fuel h1 h2
    obtain ⟨f, rfl⟩ : ∃ f, fuel = f + 1 := ⟨fuel - 1, by omega⟩
    rw [h_fix]
    show X12_see_B36 215 (nI (a_n A)) _ 1 (nI (3 * i)) (hp I L ρ) = _
    unfold X12_see_B36
    rw [h_if, if_pos (nI_le (by omega) (by omega))]; rfl
  | succ m ih =>
    intro i fuel h1 h2
    obtain ⟨f, rfl⟩ : ∃ f, fuel = f + 1 + 1 := ⟨fuel - 2, by omega⟩
    have h0 : ∀ x : Int32, z_fix (fun r x => X12_see_B36 215 (nI (a_n A)) r x.1 x.2) (f + 1) (0, x) (hp I L ρ) = X12_see_J96 215 (nI (a_n A)) 0 (hp I L ρ) := by
      intro x
      rw [h_fix]
      show X12_see_B36 215 (nI (a_n A)) _ 0 x (hp I L ρ) = _
      unfold X12_see_B36
      rw [h_if]
      split
      · rfl
      · rw [h_if, if_pos rfl]
    rw [h_fix]
    have b0 := t_b_h hok (j := 3 * i) (by omega)
    have b1 := t_b_h hok (j := 3 * i + 1) (by omega)
    have b2 := t_b_h hok (j := 3 * i + 2) (by omega)
    have hi := ih (i + 1) (f + 1) (by omega) (by omega)
    have h12 := hok.1.1
    generalize hg : z_fix (fun r x => X12_see_B36 215 (nI (a_n A)) r x.1 x.2) (f + 1) = rec at hi h0
    show X12_see_B36 215 (nI (a_n A)) rec 1 (nI (3 * i)) (hp I L ρ) = X12_see_J96 215 (nI (a_n A)) (bI (t_ok A i && t_all A (i + 1) m)) (hp I L ρ)
    unfold X12_see_B36 X12_see_J88 X12_see_J89
    rw [h_if, if_neg (nI_ge (by omega) (by omega)), h_if, if_neg (by decide), show (2 : Int32) = nI 2 from rfl, show (1 : Int32) = nI 1 from rfl, show (3 : Int32) = nI 3 from rfl, nI_add, nI_add, nI_add, gr_215_0, la_216 (by omega), hT _ (by omega), b0.2, h_if]
    by_cases c1 : 30 < t_b A (3 * i)
    · rw [if_pos (show (30 : Int32) < nI _ from nI_lt (a := 30) c1 (by omega)), h0, show t_ok A i = false from decide_eq_false (by omega)]; rfl
    · rw [if_neg (show ¬ (30 : Int32) < nI _ from fun e => c1 ((nI_lt' (a := 30) (by omega) (by omega)).mp e)), gr_215_0, la_216 (by omega), hT _ (by omega), b1.2, rc_215, nI_cl (by omega), h_ci (X12_isPerson_h hok.1 hM (by omega)), h_if]
      by_cases c2 : t_b A (3 * i + 1) < k_L (a_C A) + k_R (a_C A)
      · rw [decide_eq_true (by omega), if_neg (by decide), gr_215_0, la_216 (by omega), hT _ (by omega), b2.2, h_if]
        by_cases c3 : t_b A (3 * i + 2) ≤ 1
        · rw [if_neg (show ¬ nI 1 < nI _ from fun e => absurd ((nI_lt' (by omega) (by omega)).mp e) (by omega)), show t_ok A i = true from decide_eq_true ⟨by omega, c2, c3⟩, show 3 * i + 3 = 3 * (i + 1) by omega]
          exact hi
        · rw [if_pos (show nI 1 < nI _ from nI_lt (by omega) (by omega)), h0, show t_ok A i = false from decide_eq_false (by omega)]; rfl
      · rw [decide_eq_false (by omega), bF, if_pos rfl, h0, show t_ok A i = false from decide_eq_false (by omega)]; rfl
theorem X11_see_lp (hok : okA A) (hρ : ρ.1 = 13 ∨ ρ.1 = 27) {r : Nat} (hr : a_n A = 3 * r) (hr16 : r ≤ 16) (hall : ∀ j, j < r → t_ok A j = true) : ∀ (m i fuel : Nat) (I : Nat → Nat → Int32), i + m = r → m < fuel → chX ρ.1 I (a_C A) → (∀ j, j < a_n A → I 1 j = a_T A j) →
    ∃ I', z_fix (fun r x => X11_see_B38 0 (nI (a_n A)) r x) fuel (nI (3 * i)) (hp I L ρ) = some (some (.int (nI r)), hp I' L ρ) ∧ (∀ x, x ≠ 0 → x ≠ 212 → I' x = I x) ∧ (∀ k, k ≠ 13 → I' 0 k = I 0 k) ∧ I' 0 13 = nI r ∧ (∀ j, j < 3 * i → I' 212 j = I 212 j) ∧ ∀ j, i ≤ j → j < r → I' 212 (3 * j) = nI (t_b A (3 * j)) ∧ I' 212 (3 * j + 1) = nI (k_cd (a_C A) (t_b A (3 * j + 1))) ∧ I' 212 (3 * j + 2) = nI (t_b A (3 * j + 2)) := by
  have hn := hok.2.1.1
  intro m
  induction m with
  | zero =>
    intro i fuel I h1 h2 hC hT
    obtain ⟨f, rfl⟩ : ∃ f, fuel = f + 1 := ⟨fuel - 1, by omega⟩
    refine ⟨u2 I 0 13 (nI r), ?_, fun x h3 h4 => u2r h3, fun k hk => by rw [u2_ap, if_neg (by omega)], by rw [u2_ap, if_pos ⟨rfl, rfl⟩], fun j hj => by rw [u2r (by decide)], fun j h3 h4 => by omega⟩
    rw [h_fix]
    show X11_see_B38 0 (nI (a_n A)) _ (nI (3 * i)) (hp I L ρ) = _
    unfold X11_see_B38 X11_see_J102
    rw [h_if, show (2 : Int32) = nI 2 from rfl, nI_add, if_pos (nI_le (by omega) (by omega)), h_ck (by decide), show (3 : Int32) = nI 3 from rfl, pk_div (by omega) (by omega) (by omega), hr, show 3 * r / 3 = r by omega, pi_0, gi_0, u2_ap, if_pos ⟨rfl, rfl⟩]; rfl
  | succ m ih =>
    intro i fuel I h1 h2 hC hT
    obtain ⟨f, rfl⟩ : ∃ f, fuel = f + 1 := ⟨fuel - 1, by omega⟩
    rw [h_fix]
    generalize hg : z_fix (fun r x => X11_see_B38 0 (nI (a_n A)) r x) f = rec
    have b0 := t_b_h hok (j := 3 * i) (by omega)
    have b1 := t_b_h hok (j := 3 * i + 1) (by omega)
    have b2 := t_b_h hok (j := 3 * i + 2) (by omega)
    have hti := of_decide_eq_true (hall i (by omega))
    have hcd := k_th_lt hok.1 (k_cd_th hti.2.1 hok.1).1
    obtain ⟨J, hJ⟩ : ∃ J, J = u2 (u2 (u2 I 212 (3 * i) (nI (t_b A (3 * i)))) 212 (3 * i + 1) (nI (k_cd (a_C A) (t_b A (3 * i + 1))))) 212 (3 * i + 2) (nI (t_b A (3 * i + 2))) := ⟨_, rfl⟩
    have j0 : ∀ x, x ≠ 212 → J x = I x := fun x hx => by rw [hJ, u2r hx, u2r hx, u2r hx]
    have jo : ∀ j, j < 3 * i → J 212 j = I 212 j := fun j hj => by rw [hJ, u2_ap, if_neg (by omega), u2_ap, if_neg (by omega), u2_ap, if_neg (by omega)]
    have jw : J 212 (3 * i) = nI (t_b A (3 * i)) ∧ J 212 (3 * i + 1) = nI (k_cd (a_C A) (t_b A (3 * i + 1))) ∧ J 212 (3 * i + 2) = nI (t_b A (3 * i + 2)) := by
      refine ⟨?_, ?_, ?_⟩
      · rw [hJ, u2_ap, if_neg (by omega), u2_ap, if_neg (by omega), u2_ap, if_pos ⟨rfl, rfl⟩]
      · rw [hJ, u2_ap, if_neg (by omega), u2_ap, if_pos ⟨rfl, rfl⟩]
      · rw [hJ, u2_ap, if_pos ⟨rfl, rfl⟩]
    have hC1 : chX ρ.1 (u2 I 212 (3 * i) (nI (t_b A (3 * i)))) (a_C A) := chX_fr (fun a h3 h4 => u2r (by omega)) hC
    obtain ⟨I', q1, q2, q3, q4, q5, q6⟩ := ih (i + 1) f J (by omega) (by omega) (chX_fr (fun a h3 h4 => j0 a (by omega)) hC) (by rw [j0 1 (by omega)]; exact hT)
    refine ⟨I', ?_, fun x h3 h4 => by rw [q2 x h3 h4, j0 x h4], fun k hk => by rw [q3 k hk, j0 0 (by omega)], q4, fun j hj => by rw [q5 j (by omega), jo j hj], fun j h3 h4 => ?_⟩
    · show X11_see_B38 0 (nI (a_n A)) rec (nI (3 * i)) (hp I L ρ) = _
      unfold X11_see_B38
      rw [h_if, show (2 : Int32) = nI 2 from rfl, show (1 : Int32) = nI 1 from rfl, show (3 : Int32) = nI 3 from rfl, nI_add, nI_add, nI_add, if_neg (nI_ge (by omega) (by omega)), gr_0_12, gr_0_0, la_1 (by omega), hT _ (by omega), b0.2, sa_212 (by omega), gr_0_12, gr_0_5, gr_0_0, la_1 (by omega), u2r (show (1 : Nat) ≠ 212 by decide), hT _ (by omega), b1.2, rcc hρ, h_ci (XS_slot hρ hC1 hok.1 b1.1), (k_slot_some hok.1).1 hti.2.1, oI_some, sa_212 (by omega), gr_0_12, gr_0_0, la_1 (by omega), u2r (show (1 : Nat) ≠ 212 by decide), u2r (show (1 : Nat) ≠ 212 by decide), hT _ (by omega), b2.2, sa_212 (by omega), ← hJ, ← hg]
      exact q1
    · by_cases c : j = i
      · rw [c, q5 _ (by omega), q5 _ (by omega), q5 _ (by omega)]; exact jw
      · exact q6 j (by omega) h4
theorem X12_see_lp (hok : okA A) {r : Nat} (hr : a_n A = 3 * r) (hr16 : r ≤ 16) : ∀ (m i fuel : Nat) (I : Nat → Nat → Int32), i + m = a_n A → m < fuel → (∀ j, j < a_n A → I 216 j = a_T A j) →
    ∃ I', z_fix (fun r x => X12_see_B108 215 (nI (a_n A)) r x) fuel (nI i) (hp I L ρ) = some (some (.int (nI r)), hp I' L ρ) ∧ (∀ x, x ≠ 215 → x ≠ 264 → I' x = I x) ∧ (∀ k, k ≠ 71 → I' 215 k = I 215 k) ∧ I' 215 71 = nI r ∧ (∀ j, j < i → I' 264 j = I 264 j) ∧ ∀ j, i ≤ j → j < a_n A → I' 264 j = nI (t_b A j) := by
  have hn := hok.2.1.1
  intro m
  induction m with
  | zero =>
    intro i fuel I h1 h2 hT
    obtain ⟨f, rfl⟩ : ∃ f, fuel = f + 1 := ⟨fuel - 1, by omega⟩
    refine ⟨u2 I 215 71 (nI r), ?_, fun x h3 h4 => u2r h3, fun k hk => by rw [u2_ap, if_neg (by omega)], by rw [u2_ap, if_pos ⟨rfl, rfl⟩], fun j hj => by rw [u2r (by decide)], fun j h3 h4 => by omega⟩
    rw [h_fix]
    show X12_see_B108 215 (nI (a_n A)) _ (nI i) (hp I L ρ) = _
    unfold X12_see_B108 X12_see_J131
    rw [h_if, if_pos (nI_le (by omega) (by omega)), h_ck (by decide), show (3 : Int32) = nI 3 from rfl, pk_div (by omega) (by omega) (by omega), hr, show 3 * r / 3 = r by omega, pi_215, gi_215, u2_ap, if_pos ⟨rfl, rfl⟩]; rfl
  | succ m ih =>
    intro i fuel I h1 h2 hT
    obtain ⟨f, rfl⟩ : ∃ f, fuel = f + 1 := ⟨fuel - 1, by omega⟩
    rw [h_fix]
    generalize hg : z_fix (fun r x => X12_see_B108 215 (nI (a_n A)) r x) f = rec
    have b0 := t_b_h hok (j := i) (by omega)
    obtain ⟨I', q1, q2, q3, q4, q5, q6⟩ := ih (i + 1) f (u2 I 264 i (nI (t_b A i))) (by omega) (by omega) (by rw [u2r (by decide)]; exact hT)
    refine ⟨I', ?_, fun x h3 h4 => by rw [q2 x h3 h4, u2r h4], fun k hk => by rw [q3 k hk, u2r (by decide)], q4, fun j hj => by rw [q5 j (by omega), u2_ap, if_neg (by omega)], fun j h3 h4 => ?_⟩
    · show X12_see_B108 215 (nI (a_n A)) rec (nI i) (hp I L ρ) = _
      unfold X12_see_B108
      rw [h_if, if_neg (nI_ge (by omega) (by omega)), gr_215_72, gr_215_0, la_216 (by omega), hT _ (by omega), b0.2, sa_264 (by omega), nI_1, ← hg]
      exact q1
    · by_cases c : j = i
      · rw [c, q5 _ (by omega), u2_ap, if_pos ⟨rfl, rfl⟩]
      · exact q6 j (by omega) h4
/-- the tape is taken -/
theorem X_take (hX : RelX I L ρ A N) : X11_takeTape 0 (hp I L ρ) = some (some (.int (nI (a_n A))), hp (u2 I 0 1 0) L ρ) ∧ RelX (u2 I 0 1 0) L ρ (wT A (a_T A) 0) N := by
  refine ⟨?_, tape_X hX (fun a h0 h1 => u2r h0) (fun k hk => by rw [u2_ap, if_neg (by omega)]) ⟨by rw [u2_ap, if_pos ⟨rfl, rfl⟩]; rfl, fun j hj => by omega⟩⟩
  unfold X11_takeTape
  rw [gi_0, hX.2.1.1, pi_0]; rfl
theorem M_take (hM : RelM I L A) : RelM (u2 I 215 1 0) L (wT A (a_T A) 0) := fieldM_M hM (fun a ha => u2r ha) (fun k hk h1 => by rw [u2_ap, if_neg (by omega)]) rfl ⟨by rw [u2_ap, if_pos ⟨rfl, rfl⟩]; rfl, fun j hj => by exact absurd hj (Nat.not_lt_zero j)⟩
theorem okA_w0 (hok : okA A) : okA (wT A (a_T A) 0) := okA_wT hok (by omega) (fun j hj => by omega)
theorem see_b (hok : okA A) : both (X11_see 0) (X12_see 215) A N := by
  have hn := hok.2.1.1
  have hk := hok.1
  have j30 : ∀ {I : Nat → Nat → Int32} {L : Nat → Nat → Int64} {ρ : zRh}, X11_see_J30 0 (hp I L ρ) = some (some (.int (-1)), hp (u2 I 214 1 (I 214 1 + 1)) L ρ) := by
    intro I L ρ
    unfold X11_see_J30
    rw [rc_0, h_ci (show X11_refuse 0 1 _ = _ from X11_refuse_h (j := 1) (by omega))]; rfl
  have j96 : ∀ {I : Nat → Nat → Int32} {L : Nat → Nat → Int64} {ρ : zRh} (n : Int32), X12_see_J96 215 n 0 (hp I L ρ) = some (some (.int (-1)), hp (u2 I 217 1 (I 217 1 + 1)) L ρ) := by
    intro I L ρ n
    unfold X12_see_J96 X12_refuses
    have e : (z_gr 12 9 215 fun x1 => z_la 20 x1 1 fun x2 => z_sa 20 x1 1 (x2 + 1) (z_ret (some (.int (-1))))) (hp I L ρ) = some (some (.int (-1)), hp (u2 I 217 1 (I 217 1 + 1)) L ρ) := by
      rw [gr_215_9, lal_1, la_217 (by decide), sal_1, sa_217 (by decide)]; rfl
    rw [h_if, if_pos rfl, rc_215, h_ci e]; rfl
  have j32 : ∀ {I : Nat → Nat → Int32} {L : Nat → Nat → Int64} {ρ : zRh} (n : Int32), X12_see_J32 215 n (hp I L ρ) = some (some (.int (-1)), hp (u2 I 217 1 (I 217 1 + 1)) L ρ) := by
    intro I L ρ n
    unfold X12_see_J32 X12_see_J33
    rw [show zFU = 999999 + 1 from rfl, h_fix]
    show X12_see_B36 215 n _ 0 0 (hp I L ρ) = _
    unfold X12_see_B36
    rw [h_if]
    split
    · exact j96 n
    · rw [h_if, if_pos rfl]; exact j96 n
  have refuse : (∀ I L ρ, RelX I L ρ A N → X11_see 0 (hp I L ρ) = X11_see_J30 0 (hp (u2 I 0 1 0) L ρ)) → (∀ I L ρ, RelM I L A → X12_see 215 (hp I L ρ) = some (some (.int (-1)), hp (u2 (u2 I 215 1 0) 217 1 ((u2 I 215 1 0) 217 1 + 1)) L ρ)) → both (X11_see 0) (X12_see 215) A N := by
    intro g1 g2
    refine ⟨.int (-1), rfA (wT A (a_T A) 0) 1, N, fun I L ρ hX => ?_, fun I L ρ hM => ?_, okA_rf (okA_w0 hok), by omega⟩
    · exact ⟨_, L, ρ, by rw [g1 I L ρ hX]; exact j30, X11_refuse_A (X_take hX).2 (by omega), fun a ha => ⟨by rw [u2r (by omega), u2r (by omega)], rfl⟩⟩
    · exact ⟨_, L, g2 I L ρ hM, refuse_M (M_take hM) (by omega), fun a ha => ⟨by rw [u2r (by omega), u2r (by omega)], rfl⟩⟩
  by_cases c1 : 3 ≤ a_n A ∧ a_n A ≤ 48 ∧ a_n A % 3 = 0
  · obtain ⟨r, hr⟩ : ∃ r, a_n A = 3 * r := ⟨a_n A / 3, by omega⟩
    have hXs : ∀ {I : Nat → Nat → Int32} {L : Nat → Nat → Int64} {ρ : zRh}, RelX I L ρ A N → X11_see 0 (hp I L ρ) = z_if (bI (t_all A 0 r) = 0) (X11_see_J30 0) (z_fix (fun r x => X11_see_B38 0 (nI (a_n A)) r x) zFU 0) (hp (u2 I 0 1 0) L ρ) := by
      intro I L ρ hX
      have hX1 := (X_take hX).2
      have hC1 : chX ρ.1 (u2 I 0 1 0) (a_C (wT A (a_T A) 0)) := cu_ch hX1
      have ht := X11_tells_lp (I := u2 I 0 1 0) (L := L) hok (cu_ρ hX) hC1 (by rw [u2r (by decide)]; exact hX.2.1.2) hr r 0 zFU (by omega) (by unfold zFU; omega)
      unfold X11_see
      rw [rc_0, h_ci (X_take hX).1, h_if, if_neg (show ¬ nI (a_n A) < (3 : Int32) from fun e => absurd ((nI_lt' (b := 3) (by omega) (by omega)).mp e) (by omega)), h_if, if_neg (show ¬ (48 : Int32) < nI (a_n A) from fun e => absurd ((nI_lt' (a := 48) (by omega) (by omega)).mp e) (by omega)), h_ck (by decide), h_if, show (3 : Int32) = nI 3 from rfl, pk_rem (by omega) (by omega) (by omega), c1.2.2, show (nI 0 : Int32) = 0 from rfl, if_pos rfl, rc_0, h_ci (show X11_tellsSeen 0 (nI (a_n A)) _ = _ from ht)]
    have hMs : ∀ {I : Nat → Nat → Int32} {L : Nat → Nat → Int64} {ρ : zRh}, RelM I L A → X12_see 215 (hp I L ρ) = X12_see_J96 215 (nI (a_n A)) (bI (t_all A 0 r)) (hp (u2 I 215 1 0) L ρ) := by
      intro I L ρ hM
      have ht := X12_tells_lp (I := u2 I 215 1 0) (L := L) (ρ := ρ) (A := A) hok (M_take hM).1 (by rw [u2r (by decide)]; exact hM.2.2.1.2) hr r 0 zFU (by omega) (by unfold zFU; omega)
      unfold X12_see
      rw [gi_215, hM.2.2.1.1, pi_215, h_if, if_neg (show ¬ nI (a_n A) ≤ 0 from nI_ge (a := 0) (by omega) (by omega)), h_ck (by decide), h_if, show (3 : Int32) = nI 3 from rfl, pk_rem (by omega) (by omega) (by omega), c1.2.2, show (nI 0 : Int32) = 0 from rfl, if_pos rfl, h_ck (by decide), h_if, pk_div (by omega) (by omega) (by omega), if_neg (show ¬ (16 : Int32) < nI (a_n A / 3) from fun e => absurd ((nI_lt' (a := 16) (by omega) (by omega)).mp e) (by omega))]
      unfold X12_see_J33
      exact ht
    by_cases c2 : t_all A 0 r = true
    · have hall : ∀ j, j < r → t_ok A j = true := fun j hj => t_all_at c2 j (by omega) (by omega)
      obtain ⟨V, hV⟩ : ∃ V, V = (List.range r).map (fun i => (t_b A (3 * i), k_cd (a_C A) (t_b A (3 * i + 1)), t_b A (3 * i + 2))) := ⟨_, rfl⟩
      have hVl : V.length = r := by rw [hV]; simp
      have hVa : ∀ i q, V[i]? = some q → i < r ∧ q = (t_b A (3 * i), k_cd (a_C A) (t_b A (3 * i + 1)), t_b A (3 * i + 2)) := by
        intro i q hq
        have hi := (List.getElem?_eq_some_iff.mp hq).1
        rw [hVl] at hi
        refine ⟨hi, ?_⟩
        rw [hV, List.getElem?_map, List.getElem?_range hi] at hq
        simpa using hq.symm
      have hokV : okA (wV A V) := by
        refine ⟨hk, ⟨by show 0 ≤ 1600; omega, fun j hj => absurd hj (Nat.not_lt_zero j)⟩, hok.2.2.1, hok.2.2.2.1, hok.2.2.2.2.1, ⟨by show V.length ≤ 16; omega, fun q hq => ?_⟩, hok.2.2.2.2.2.2⟩
        obtain ⟨i, hi⟩ := List.getElem?_of_mem hq
        obtain ⟨h1, rfl⟩ := hVa i q hi
        have h2 := of_decide_eq_true (hall i h1)
        exact ⟨h2.1, (k_cd_th h2.2.1 hk).1, h2.2.2⟩
      refine ⟨.int (nI r), wV A V, N, fun I L ρ hX => ?_, fun I L ρ hM => ?_, hokV, by omega⟩
      · have hX1 := (X_take hX).2
        have hC1 : chX ρ.1 (u2 I 0 1 0) (a_C (wT A (a_T A) 0)) := cu_ch hX1
        obtain ⟨I', q1, q2, q3, q4, q5, q6⟩ := X11_see_lp (L := L) hok (cu_ρ hX) hr (by omega) hall r 0 zFU (u2 I 0 1 0) (by omega) (by unfold zFU; omega) hC1 (by rw [u2r (by decide)]; exact hX.2.1.2)
        refine ⟨I', L, ρ, by rw [hXs hX, c2, h_if, if_neg (by decide)]; exact q1, ?_, fun a ha => ⟨by rw [q2 a (by omega) (by omega), u2r (by omega)], rfl⟩⟩
        obtain ⟨h1, h2, h3, h4, h5, h6, h7, h8, h9⟩ := hX1
        refine ⟨cur_of (A := A) rfl rfl rfl (fun a x y => by rw [q2 a (by omega) (by omega)]) h1, ⟨by rw [q3 1 (by omega)]; exact h2.1, fun j hj => absurd hj (Nat.not_lt_zero j)⟩, stX_fr (fun a x y => q2 a (by omega) (by omega)) h3, pa_fr (fun a x y => q2 a (by omega) (by omega)) (Nat.le_refl _) h4, ⟨by rw [q4]; show nI r = nI V.length; rw [hVl], fun i q hq => ?_⟩, ?_, ?_, ?_, h9⟩
        · obtain ⟨g1, rfl⟩ := hVa i q hq
          exact q6 i (by omega) g1
        · rw [q3 15 (by omega), q2 213 (by omega) (by omega)]; exact h6
        · rw [q2 214 (by omega) (by omega)]; exact h7
        · rw [q3 17 (by omega), q3 18 (by omega)]; exact h8
      · have hM1 := M_take hM
        obtain ⟨I', q1, q2, q3, q4, q5, q6⟩ := X12_see_lp (L := L) (ρ := ρ) hok hr (by omega) (a_n A) 0 zFU (u2 I 215 1 0) (by omega) (by unfold zFU; omega) (by rw [u2r (by decide)]; exact hM.2.2.1.2)
        refine ⟨I', L, ?_, ?_, fun a ha => ⟨by rw [q2 a (by omega) (by omega), u2r (by omega)], rfl⟩⟩
        · rw [hMs hM, c2]
          unfold X12_see_J96
          rw [h_if, if_neg (by decide)]
          exact q1
        · obtain ⟨h1, h2, h3, h4, h5, h6, h7, h8, h9, h10, h11, h12⟩ := hM1
          refine ⟨chM_fr (fun a ha => q2 a (by omega) (by omega)) (q3 53 (by omega)) h1, ?_, ⟨by rw [q3 1 (by omega)]; exact h3.1, fun j hj => absurd hj (Nat.not_lt_zero j)⟩, ?_, ?_, ?_, ⟨by rw [q4]; show nI r = nI V.length; rw [hVl], fun i q hq => ?_⟩, ?_, ?_, ?_, h11, ?_⟩
          · rw [q2 246 (by omega) (by omega)]; exact h2
          · rw [q2 255 (by omega) (by omega)]; exact h4
          · rw [q3 54 (by omega), q3 64 (by omega)]; exact h5
          · unfold paM
            rw [q3 75 (by omega), q3 76 (by omega), q2 266 (by omega) (by omega)]; exact h6
          · obtain ⟨g1, rfl⟩ := hVa i q hq
            have h13 := of_decide_eq_true (hall i g1)
            refine ⟨q6 _ (by omega) (by omega), ?_, q6 _ (by omega) (by omega)⟩
            show I' 264 (3 * i + 1) = nI (k_num (a_C A) (k_cd (a_C A) (t_b A (3 * i + 1))))
            rw [(k_cd_th h13.2.1 hk).2.1]
            exact q6 _ (by omega) (by omega)
          · rw [q3 115 (by omega), q2 296 (by omega) (by omega)]; exact h8
          · rw [q2 217 (by omega) (by omega)]; exact h9
          · rw [q3 7 (by omega), q3 8 (by omega)]; exact h10
          · intro x hx i hi
            have := wdL_at x hx
            rw [q2 x.1 (by omega) (by omega)]
            exact h12 x hx i hi
    · have c3 : t_all A 0 r = false := by simpa using c2
      refine refuse (fun I L ρ hX => by rw [hXs hX, c3, h_if, bF, if_pos rfl]) (fun I L ρ hM => by rw [hMs hM, c3, bF]; exact j96 _)
  · refine refuse (fun I L ρ hX => ?_) (fun I L ρ hM => ?_)
    · unfold X11_see
      rw [rc_0, h_ci (X_take hX).1, h_if]
      simp only [show (nI (a_n A) < (3 : Int32)) ↔ a_n A < 3 from nI_lt' (b := 3) (by omega) (by omega)]
      by_cases d1 : a_n A < 3
      · rw [if_pos d1]
      · rw [if_neg d1, h_if]
        by_cases d2 : 48 < a_n A
        · rw [if_pos (show (48 : Int32) < nI (a_n A) from nI_lt (a := 48) d2 (by omega))]
        · rw [if_neg (show ¬ (48 : Int32) < nI (a_n A) from fun e => d2 ((nI_lt' (a := 48) (by omega) (by omega)).mp e)), h_ck (by decide), h_if, show (3 : Int32) = nI 3 from rfl, pk_rem (by omega) (by omega) (by omega), if_neg (show ¬ nI (a_n A % 3) = 0 from fun e => absurd ((nI_inj (b := 0) (by omega) (by omega)).mp e) (by omega))]
    · unfold X12_see
      rw [gi_215, hM.2.2.1.1, pi_215, h_if]
      by_cases d1 : a_n A = 0
      · rw [if_pos ((people_0 (by omega)).mpr d1)]; exact j32 _
      · rw [if_neg (fun e => d1 ((people_0 (by omega)).mp e)), h_ck (by decide), h_if, show (3 : Int32) = nI 3 from rfl, pk_rem (by omega) (by omega) (by omega)]
        by_cases d2 : a_n A % 3 = 0
        · rw [d2, show (nI 0 : Int32) = 0 from rfl, if_pos rfl, h_ck (by decide), h_if, pk_div (by omega) (by omega) (by omega), if_pos (show (16 : Int32) < nI (a_n A / 3) from nI_lt (a := 16) (by omega) (by omega))]; exact j32 _
        · rw [if_neg (show ¬ nI (a_n A % 3) = 0 from fun e => absurd ((nI_inj (b := 0) (by omega) (by omega)).mp e) (by omega))]; exact j32 _
end B50
