/-! on: the class reads all of an image -/
section B5w
variable {I I0 : Nat → Nat → Int32} {L L0 : Nat → Nat → Int64} {ρ : zRh} {h : zH} {A : aT} {N : Nat} {C : cT} {s : sT} {t : Nat → Nat}
theorem o_wd_in (hk : okC C) {p b : Nat} (hX : o_Xx C t p = true) (hb : o_wd C t p = some b) : k_th C b ∧ b < 12 := by
  have hX' : (o_2 C t p && (decide (t (o_at C p + 1) ≤ 99) && o_k C t p)) = true := hX
  rw [Bool.and_eq_true] at hX'
  unfold o_wd at hb
  by_cases c : t (o_at C p) = 255
  · rw [if_pos c] at hb; cases hb
  · rw [if_neg c] at hb
    have hb2 : k_cd C (t (o_at C p)) = b := by simpa using hb
    rcases of_decide_eq_true hX'.1 with e | e
    · exact absurd e c
    · rw [← hb2]
      have := (k_cd_th e.1 hk).1
      exact ⟨this, k_th_lt hk this⟩
theorem X8_wh_lp (hk : okC C) (hC : cwX I ρ C) (hall : ∀ p, p < k_L C + k_R C → o_Xx C t p = true) (hW : ∀ a, k_th C a → I 56 a = oI (o_wd C t (k_num C a))) : ∀ (m a fuel : Nat), a + m = 12 → m < fuel → z_fix (fun r x => X8_weddingsHold_B2 54 ρ.1 r x) fuel (nI a) (hp I L ρ) = some (some (.int (bI (al (o_v C t) m a))), hp I L ρ) := by
  have h12 := hk.1
  intro m
  induction m with
  | zero =>
    intro a fuel h1 h2
    obtain ⟨f, rfl⟩ : ∃ f, fuel = f + 1 := ⟨fuel - 1, by omega⟩
    obtain rfl : a = 12 := by omega
    rw [h_fix]
    show X8_weddingsHold_B2 54 ρ.1 _ (nI 12) (hp I L ρ) = _
    unfold X8_weddingsHold_B2
    rw [h_if, if_pos (by decide), h_rb1]; rfl
  | succ m ih =>
    intro a fuel h1 h2
    obtain ⟨f, rfl⟩ : ∃ f, fuel = f + 1 := ⟨fuel - 1, by omega⟩
    have hi := ih (a + 1) f (by omega) (by omega)
    have e0 : ∀ rec : Int32 → zM, X8_weddingsHold_B2 54 ρ.1 rec (nI a) (hp I L ρ) = if o_v C t a = true then rec (nI (a + 1)) (hp I L ρ) else some (some (.int 0), hp I L ρ) := by
      intro rec
      unfold X8_weddingsHold_B2 X8_weddingsHold_J49
      rw [h_if, if_neg (by rw [show (12 : Int32) = nI 12 from rfl, nI_le' (by omega) (by omega)]; omega), gr_54_3, la_56 (by omega), rcc hC.1, h_ci (YC_isThere hC hk (by omega)), h_if]
      by_cases hth : k_th C a
      · rw [decide_eq_true hth, if_neg (by decide), h_if, hW a hth]
        have hn := (k_num_th hth hk).1
        rcases q : o_wd C t (k_num C a) with _ | b
        · have hv : o_v C t a = true := decide_eq_true (fun _ b hb => by rw [q] at hb; cases hb)
          rw [oI_none, if_pos rfl, hv, if_pos rfl, nI_1]
        · obtain ⟨b1, b2⟩ := o_wd_in hk (hall _ hn) q
          have hnb := (k_num_th b1 hk).1
          rw [oI_some, if_neg (nI_nm1 (by omega)), gr_54_3, la_56 b2, hW b b1, h_if]
          by_cases c : o_wd C t (k_num C b) = some a
          · rw [c, oI_some, if_pos rfl, rcc hC.1, h_ci (YC_areKin hC (by omega) b2), h_if]
            cases q2 : k_kn C a b with
            | false =>
              have hv : o_v C t a = true := decide_eq_true (fun _ b' hb => by rw [q] at hb; cases hb; exact ⟨c, q2⟩)
              rw [bF, if_pos rfl, hv, if_pos rfl, nI_1]
            | true =>
              have hv : o_v C t a = false := decide_eq_false (fun hh => by have := (hh hth b q).2; rw [q2] at this; cases this)
              rw [if_neg (show ¬ bI true = 0 by decide), h_rb0, hv, if_neg (by decide)]
          · have hv : o_v C t a = false := decide_eq_false (fun hh => c (hh hth b q).1)
            rw [if_neg (fun e => c (by
              rcases q3 : o_wd C t (k_num C b) with _ | y
              · rw [q3, oI_none] at e; exact absurd e.symm (nI_nm1 (by omega))
              · have := (o_wd_in hk (hall _ hnb) q3).2
                rw [q3, oI_some, nI_inj (by omega) (by omega)] at e
                rw [e])), h_rb0, hv, if_neg (by decide)]
      · have hv : o_v C t a = true := decide_eq_true (fun hh => absurd hh hth)
        rw [decide_eq_false hth, bF, if_pos rfl, hv, if_pos rfl, nI_1]
    rw [h_fix]
    show X8_weddingsHold_B2 54 ρ.1 _ (nI a) (hp I L ρ) = some (some (.int (bI (o_v C t a && al (o_v C t) m (a + 1)))), hp I L ρ)
    rw [e0]
    cases o_v C t a with
    | true => rw [if_pos rfl]; exact hi
    | false => rw [if_neg (by decide)]; rfl
/-- what stands of those from p on -/
def rdX (I I' : Nat → Nat → Int32) (C : cT) (t : Nat → Nat) (p : Nat) : Prop := ∀ j, I' 56 j = (if k_th C j ∧ p ≤ k_num C j then oI (o_wd C t (k_num C j)) else I 56 j) ∧ I' 57 j = (if k_th C j ∧ p ≤ k_num C j then nI (t (o_at C (k_num C j) + 1)) else I 57 j) ∧ I' 59 j = (if (k_th C (j / 6) ∧ p ≤ k_num C (j / 6)) ∧ j % 6 < k_ot C (j / 6) then nI (t (o_at C (k_num C (j / 6)) + 2 + 2 * (j % 6))) else I 59 j) ∧ I' 60 j = (if (k_th C (j / 6) ∧ p ≤ k_num C (j / 6)) ∧ j % 6 < k_ot C (j / 6) then nI (t (o_at C (k_num C (j / 6)) + 3 + 2 * (j % 6))) else I 60 j)
theorem X8_rd_lp (hk : okC C) {n : Nat} (hn : 3 + 3 * (k_L C + k_R C) + 4 * (k_L C * k_R C) ≤ n) (hn2 : n ≤ 1600) : ∀ (m p fuel : Nat) (I : Nat → Nat → Int32), p + m = k_L C + k_R C → m < fuel → (∀ j, j < p → o_Xx C t j = true) → (∀ a, k_th C a → k_num C a < p → I 56 a = oI (o_wd C t (k_num C a))) → cwX I ρ C → tpX 1 I t n → ∃ I', z_fix (fun r x => X8_read_B96 54 ρ.1 1 r x.1 x.2) fuel (nI (o_at C p), nI p) (hp I L ρ) = some (some (.int (bI (al (o_Xx C t) m p && al (o_v C t) 12 0))), hp I' L ρ) ∧ (∀ x, x ≠ 56 → x ≠ 57 → x ≠ 59 → x ≠ 60 → I' x = I x) ∧ (al (o_Xx C t) m p = true → rdX I I' C t p) := by
  have h12 := hk.1
  intro m
  induction m with
  | zero =>
    intro p fuel I h1 h2 h3 h4 hC hT
    obtain ⟨f, rfl⟩ : ∃ f, fuel = f + 1 := ⟨fuel - 1, by omega⟩
    refine ⟨I, ?_, fun _ _ _ _ _ => rfl, fun _ j => ?_⟩
    · rw [h_fix]
      show X8_read_B96 54 ρ.1 1 _ (nI (o_at C p)) (nI p) (hp I L ρ) = some (some (.int (bI (true && al (o_v C t) 12 0))), hp I L ρ)
      have e := X8_wh_lp (L := L) hk hC (t := t) (fun q hq => h3 q (by omega)) (fun a ha => h4 a ha (by have := (k_num_th ha hk).1; omega)) 12 0 zFU (by omega) (by unfold zFU; omega)
      unfold X8_read_B96 X8_read_J155
      rw [rcc hC.1, h_ci (YC_people hC hk), h_if, if_pos (nI_le (by omega) (by omega)), rc_54, h_ci (show X8_weddingsHold 54 ρ.1 (hp I L ρ) = _ from e), h_rb (bI01 _), Bool.true_and]
    · have hj : ∀ j, ¬ (k_th C j ∧ p ≤ k_num C j) := fun j q => by have := (k_num_th q.1 hk).1; omega
      rw [if_neg (hj j), if_neg (hj j), if_neg (fun q => hj _ q.1), if_neg (fun q => hj _ q.1)]
      exact ⟨rfl, rfl, rfl, rfl⟩
  | succ m ih =>
    intro p fuel I h1 h2 h3 h4 hC hT
    obtain ⟨f, rfl⟩ : ∃ f, fuel = f + 1 := ⟨fuel - 1, by omega⟩
    have hp2 : p < k_L C + k_R C := by omega
    obtain ⟨hth, hnum, -⟩ := k_cd_th hp2 hk
    have ha := k_th_lt hk hth
    have hat := o_at_le hk hp2
    obtain ⟨I1, e1, e2, e3⟩ := X8_r1_h (L := L) (ρ := ρ) hk hp2 (by omega) hn2 hC hT
    have hC1 : cwX I1 ρ C := cwX_fr (fun x q1 q2 => e2 x (by omega) (by omega) (by omega) (by omega)) hC
    have hT1 : tpX 1 I1 t n := tpX_fr (e2 1 (by omega) (by omega) (by omega) (by omega)) hT
    have hot := k_ot_le hk (k_cd C p)
    have e0 : ∀ rec : Int32 × Int32 → zM, X8_read_B96 54 ρ.1 1 rec (nI (o_at C p)) (nI p) (hp I L ρ) = if o_Xx C t p = true then rec (nI (o_at C (p + 1)), nI (p + 1)) (hp I1 L ρ) else some (some (.int 0), hp I1 L ρ) := by
      intro rec
      have e5 : o_at C (p + 1) = o_at C p + (2 + 2 * k_ot C (k_cd C p)) := by
        unfold o_at
        rw [show im_at C (p + 1) = im_at C p + (2 + 2 * k_ot C (k_cd C p)) from rfl]
        omega
      unfold X8_read_B96
      rw [rcc hC.1, h_ci (YC_people hC hk), h_if, if_neg (nI_ge (by omega) (by omega)), rcc hC.1, h_ci (YC_slot hC hk _), k_sl_cd hk hp2, oI_some, rc_54, h_ci e1, h_if]
      cases o_Xx C t p with
      | true => rw [if_neg (show ¬ bI true = 0 by decide), YC_other hC1 hk ha, if_pos rfl, show (2 : Int32) = nI 2 from rfl, pk_mul, nI_add, nI_add, nI_1, e5]
      | false => rw [bF, if_pos rfl, h_rb0, if_neg (by decide)]
    rw [h_fix]
    show ∃ I', X8_read_B96 54 ρ.1 1 _ (nI (o_at C p)) (nI p) (hp I L ρ) = some (some (.int (bI ((o_Xx C t p && al (o_Xx C t) m (p + 1)) && al (o_v C t) 12 0))), hp I' L ρ) ∧ (∀ x, x ≠ 56 → x ≠ 57 → x ≠ 59 → x ≠ 60 → I' x = I x) ∧ ((o_Xx C t p && al (o_Xx C t) m (p + 1)) = true → rdX I I' C t p)
    rw [e0]
    cases hX : o_Xx C t p with
    | false => exact ⟨I1, rfl, e2, fun hb => absurd hb (by simp)⟩
    | true =>
      have e4 := e3 hX
      obtain ⟨I', r1, r2, r3⟩ := ih (p + 1) f I1 (by omega) (by omega) (fun j hj => by
        by_cases c : j = p
        · rw [c]; exact hX
        · exact h3 j (by omega)) (fun a hta hna => by
        rw [(e4 a).1]
        by_cases c : a = k_cd C p
        · rw [if_pos c, c, hnum]
        · rw [if_neg c]
          refine h4 a hta ?_
          have : k_num C a ≠ p := fun e => c (by rw [← e, (k_num_th hta hk).2])
          omega) hC1 hT1
      refine ⟨I', r1, fun x q1 q2 q3 q4 => by rw [r2 x q1 q2 q3 q4, e2 x q1 q2 q3 q4], fun hb j => ?_⟩
      have hb' : al (o_Xx C t) m (p + 1) = true := by rw [Bool.true_and] at hb; exact hb
      obtain ⟨s1, s2, s3, s4⟩ := r3 hb' j
      obtain ⟨u1, u2, u3, u4⟩ := e4 j
      have hcase : ∀ a, (k_th C a ∧ p ≤ k_num C a) ↔ (a = k_cd C p ∨ (k_th C a ∧ p + 1 ≤ k_num C a)) := by
        intro a
        refine ⟨fun q => ?_, fun q => ?_⟩
        · by_cases c : k_num C a = p
          · exact Or.inl (by rw [← c, (k_num_th q.1 hk).2])
          · exact Or.inr ⟨q.1, by omega⟩
        · rcases q with q | q
          · rw [q]; exact ⟨hth, by omega⟩
          · exact ⟨q.1, by omega⟩
      have hno : ∀ a, a = k_cd C p → ¬ (k_th C a ∧ p + 1 ≤ k_num C a) := fun a e q => by rw [e, hnum] at q; omega
      rw [s1, s2, s3, s4, u1, u2, u3, u4]
      refine ⟨?_, ?_, ?_, ?_⟩
      · by_cases c : j = k_cd C p
        · rw [if_neg (hno j c), if_pos c, if_pos ((hcase j).mpr (Or.inl c)), c, hnum]
        · by_cases c2 : k_th C j ∧ p + 1 ≤ k_num C j
          · rw [if_pos c2, if_pos ((hcase j).mpr (Or.inr c2))]
          · rw [if_neg c2, if_neg c, if_neg (fun q => ((hcase j).mp q).elim c c2)]
      · by_cases c : j = k_cd C p
        · rw [if_neg (hno j c), if_pos c, if_pos ((hcase j).mpr (Or.inl c)), c, hnum]
        · by_cases c2 : k_th C j ∧ p + 1 ≤ k_num C j
          · rw [if_pos c2, if_pos ((hcase j).mpr (Or.inr c2))]
          · rw [if_neg c2, if_neg c, if_neg (fun q => ((hcase j).mp q).elim c c2)]
      · by_cases c : j / 6 = k_cd C p
        · rw [if_neg (fun q => hno _ c q.1)]
          by_cases c3 : j % 6 < k_ot C (k_cd C p)
          · rw [if_pos ⟨c, c3⟩, if_pos ⟨(hcase _).mpr (Or.inl c), by rw [c]; exact c3⟩, c, hnum]
          · rw [if_neg (fun q => c3 q.2), if_neg (fun q => c3 (by rw [← c]; exact q.2))]
        · rw [if_neg (fun q : j / 6 = k_cd C p ∧ j % 6 < k_ot C (k_cd C p) => c q.1)]
          by_cases c2 : (k_th C (j / 6) ∧ p + 1 ≤ k_num C (j / 6)) ∧ j % 6 < k_ot C (j / 6)
          · rw [if_pos c2, if_pos ⟨(hcase _).mpr (Or.inr c2.1), c2.2⟩]
          · rw [if_neg c2, if_neg (fun q => ((hcase _).mp q.1).elim c (fun q2 => c2 ⟨q2, q.2⟩))]
      · by_cases c : j / 6 = k_cd C p
        · rw [if_neg (fun q => hno _ c q.1)]
          by_cases c3 : j % 6 < k_ot C (k_cd C p)
          · rw [if_pos ⟨c, c3⟩, if_pos ⟨(hcase _).mpr (Or.inl c), by rw [c]; exact c3⟩, c, hnum]
          · rw [if_neg (fun q => c3 q.2), if_neg (fun q => c3 (by rw [← c]; exact q.2))]
        · rw [if_neg (fun q : j / 6 = k_cd C p ∧ j % 6 < k_ot C (k_cd C p) => c q.1)]
          by_cases c2 : (k_th C (j / 6) ∧ p + 1 ≤ k_num C (j / 6)) ∧ j % 6 < k_ot C (j / 6)
          · rw [if_pos c2, if_pos ⟨(hcase _).mpr (Or.inr c2.1), c2.2⟩]
          · rw [if_neg c2, if_neg (fun q => ((hcase _).mp q.1).elim c (fun q2 => c2 ⟨q2, q.2⟩))]
def o_len (C : cT) : Nat := 4 + 3 * (k_L C + k_R C) + 4 * (k_L C * k_R C)
/-- whether a tape is an image -/
def o_V (C : cT) (t : Nat → Nat) (n : Nat) : Bool := decide (n = o_len C) && (decide (t (n - 1) = ck t (n - 1)) && (decide (t 0 * 256 + t 1 < 1000) && (decide (t 2 < k_rt C) && (oX C t (k_L C + k_R C) 0 0 && (al (o_Xx C t) (k_L C + k_R C) 0 && al (o_v C t) 12 0)))))
/-- what it tells -/
def on_s (C : cT) (s : sT) (t : Nat → Nat) : sT := ((t 0 * 256 + t 1, t 2), (fun a => if k_th C a then k_cd C (t (3 + k_num C a)) else s_ord s a), (fun a => if k_th C a then o_wd C t (k_num C a) else s_wed s a), (fun a => if k_th C a then t (o_at C (k_num C a) + 1) else s_wai s a), s_siz s, (fun j => if k_th C (j / 6) ∧ j % 6 < k_ot C (j / 6) then t (o_at C (k_num C (j / 6)) + 2 + 2 * (j % 6)) else s_lik s j), fun j => if k_th C (j / 6) ∧ j % 6 < k_ot C (j / 6) then t (o_at C (k_num C (j / 6)) + 3 + 2 * (j % 6)) else s_kno s j)
theorem X8_read_h (hk : okC C) {n : Nat} (hn2 : n ≤ 1600) (hC : cwX I ρ C) (hT : tpX 1 I t n) (hs : stX 54 I s) : ∃ I', X8_read 54 ρ.1 1 (nI n) (hp I L ρ) = some (some (.int (bI (o_V C t n))), hp I' L ρ) ∧ (∀ x, x < 54 ∨ 61 ≤ x → I' x = I x) ∧ (o_V C t n = true → stX 54 I' (on_s C s t)) := by
  have h12 := hk.1
  have hLR := k_LR hk
  have hrt := hk.2.1
  have eL : X8_imageLength ρ.1 (hp I L ρ) = some (some (.int (nI (o_len C))), hp I L ρ) := by
    unfold X8_imageLength o_len
    rw [rcc hC.1, h_ci (YC_people hC hk), gc_0 hC.1, show (0 : Int32) = nI 0 from rfl, YC_side hC hk (by omega), gc_0 hC.1, show (1 : Int32) = nI 1 from rfl, YC_side hC hk (by omega), h_ret, show (4 : Int32) = nI 4 from rfl, show (3 : Int32) = nI 3 from rfl, pk_mul, nI_add, pk_mul, pk_mul, nI_add, Nat.mul_assoc]; rfl
  have hol : o_len C ≤ 184 ∧ 4 ≤ o_len C := by unfold o_len; omega
  have hol3 : 3 + (k_L C + k_R C) ≤ o_len C := by unfold o_len; omega
  unfold X8_read o_V
  rw [h_ci eL, h_if]
  by_cases c1 : n = o_len C
  · rw [if_pos (by rw [c1]), len_1, h_if, if_neg (by rw [nI_lt' (by omega) (by omega)]; omega), decide_eq_true c1, Bool.true_and]
    have hn4 : 4 ≤ n := by omega
    have hn184 : n ≤ 184 := by omega
    obtain ⟨t1, t2⟩ := hT (n - 1) (by omega)
    rw [show (1 : Int32) = nI 1 from rfl, pk_sub (by omega), la_1 (by omega), t2, h_ci (X8_check_h (a := 1) (z := 1600) (n := n - 1) (g := t) (by decide) rfl (by decide) (by omega) (fun i hi => hT i (by omega))), h_if]
    have hck := ck_lt t (n - 1)
    by_cases c2 : t (n - 1) = ck t (n - 1)
    · obtain ⟨a1, a2⟩ := hT 0 (by omega)
      obtain ⟨b1, b2⟩ := hT 1 (by omega)
      obtain ⟨d1, d2⟩ := hT 2 (by omega)
      rw [if_pos (by rw [c2]), decide_eq_true c2, Bool.true_and, lal_0, la_1 (by omega), a2, la_1 (by omega), b2, show (256 : Int32) = nI 256 from rfl, pk_mul, nI_add, pi_54, lal_2, la_1 (by omega), u2r (show 1 ≠ 54 by omega), d2, pi_54, gi_54, u2_ap, if_neg (by omega), u2_ap, if_pos ⟨rfl, rfl⟩, h_if]
      obtain ⟨J, hJ⟩ : ∃ J, J = u2 (u2 I 54 0 (nI (t 0 * 256 + t 1))) 54 1 (nI (t 2)) := ⟨_, rfl⟩
      rw [← hJ]
      have fr : ∀ x, x ≠ 54 → J x = I x := fun x hx => by rw [hJ, u2r hx, u2r hx]
      have hC1 : cwX J ρ C := cwX_fr (fun x q1 q2 => fr x (by omega)) hC
      have hT1 : tpX 1 J t n := tpX_fr (fr 1 (by omega)) hT
      have hJ0 : J 54 0 = nI (t 0 * 256 + t 1) := by rw [hJ, u2_ap, if_neg (by omega), u2_ap, if_pos ⟨rfl, rfl⟩]
      have hJ1 : J 54 1 = nI (t 2) := by rw [hJ, u2_ap, if_pos ⟨rfl, rfl⟩]
      by_cases c3 : t 0 * 256 + t 1 < 1000
      · rw [if_neg (show ¬ (1000 : Int32) ≤ nI _ from fun e => absurd ((nI_le' (a := 1000) (by omega) (by omega)).mp e) (by omega)), decide_eq_true c3, Bool.true_and, gi_54, hJ1, gic hC.1, fr ρ.1 (by rcases hC.1 with e | e <;> omega), hC.2.2.1.1, h_if]
        by_cases c4 : t 2 < k_rt C
        · rw [if_neg (nI_ge (by omega) (by omega)), decide_eq_true c4, Bool.true_and, rc_54]
          obtain ⟨I1, e1, e2, e3, e4⟩ := X8_ro_lp (L := L) hk (k_L C + k_R C) 0 zFU J 0 (by omega) (by unfold zFU; omega) (by omega) hC1 (fun j hj => hT1 j (by omega))
          have e1' : X8_readOrders 54 ρ.1 1 (hp J L ρ) = _ := e1
          rw [h_ci e1', h_if]
          cases c5 : oX C t (k_L C + k_R C) 0 0 with
          | false =>
            rw [bF, if_pos rfl, h_rb0]
            exact ⟨I1, rfl, fun x hx => by rw [e2 x (by omega), fr x (by omega)], fun hb => absurd hb (by simp)⟩
          | true =>
            have hC2 : cwX I1 ρ C := cwX_fr (fun x q1 q2 => e2 x (by omega)) hC1
            have hT2 : tpX 1 I1 t n := tpX_fr (e2 1 (by omega)) hT1
            rw [if_neg (show ¬ bI true = 0 by decide), Bool.true_and, rcc hC.1, h_ci (YC_people hC2 hk), show (3 : Int32) = nI 3 from rfl, nI_add]
            obtain ⟨I2, f1, f2, f3⟩ := X8_rd_lp (t := t) (L := L) (ρ := ρ) hk (n := n) (by unfold o_len at c1; omega) hn2 (k_L C + k_R C) 0 zFU I1 (by omega) (by unfold zFU; omega) (fun j hj => absurd hj (by omega)) (fun a _ ha => absurd ha (by omega)) hC2 hT2
            refine ⟨I2, f1, fun x hx => by rw [f2 x (by omega) (by omega) (by omega) (by omega), e2 x (by omega), fr x (by omega)], fun hb => ?_⟩
            rw [Bool.and_eq_true] at hb
            have hr := f3 hb.1
            have g : ∀ x, x ≠ 54 → x ≠ 55 → x ≠ 56 → x ≠ 57 → x ≠ 59 → x ≠ 60 → I2 x = I x := fun x q0 q1 q2 q3 q4 q5 => by rw [f2 x q2 q3 q4 q5, e2 x q1, fr x q0]
            have g1 : ∀ x, x ≠ 54 → x ≠ 55 → I1 x = I x := fun x q0 q1 => by rw [e2 x q1, fr x q0]
            have z : ∀ a, (k_th C a ∧ 0 ≤ k_num C a) ↔ k_th C a := fun a => ⟨fun q => q.1, fun q => ⟨q, Nat.zero_le _⟩⟩
            refine ⟨⟨?_, ?_⟩, fun a ha => ?_, fun a ha => ?_, fun a ha => ?_, fun a ha => ?_, fun j hj => ?_, fun j hj => ?_⟩
            · rw [f2 54 (by omega) (by omega) (by omega) (by omega), e2 54 (by omega), hJ0]; rfl
            · rw [f2 54 (by omega) (by omega) (by omega) (by omega), e2 54 (by omega), hJ1]; rfl
            · show I2 55 a = nI (if k_th C a then k_cd C (t (3 + k_num C a)) else s_ord s a)
              rw [f2 55 (by omega) (by omega) (by omega) (by omega)]
              by_cases c : k_th C a
              · rw [e3 c5 a c, if_pos (Nat.zero_le _), if_pos c]
              · rw [e4 a c, if_neg c, fr 55 (by omega)]
                exact hs.2.1 a ha
            · show I2 56 a = oI (if k_th C a then o_wd C t (k_num C a) else s_wed s a)
              rw [(hr a).1]
              by_cases c : k_th C a
              · rw [if_pos ((z a).mpr c), if_pos c]
              · rw [if_neg (fun q => c q.1), if_neg c, g1 56 (by omega) (by omega)]
                exact hs.2.2.1 a ha
            · show I2 57 a = nI (if k_th C a then t (o_at C (k_num C a) + 1) else s_wai s a)
              rw [(hr a).2.1]
              by_cases c : k_th C a
              · rw [if_pos ((z a).mpr c), if_pos c]
              · rw [if_neg (fun q => c q.1), if_neg c, g1 57 (by omega) (by omega)]
                exact hs.2.2.2.1 a ha
            · rw [g 58 (by omega) (by omega) (by omega) (by omega) (by omega) (by omega)]
              exact hs.2.2.2.2.1 a ha
            · show I2 59 j = nI (if k_th C (j / 6) ∧ j % 6 < k_ot C (j / 6) then t (o_at C (k_num C (j / 6)) + 2 + 2 * (j % 6)) else s_lik s j)
              rw [(hr j).2.2.1]
              by_cases c : k_th C (j / 6) ∧ j % 6 < k_ot C (j / 6)
              · rw [if_pos ⟨(z _).mpr c.1, c.2⟩, if_pos c]
              · rw [if_neg (fun q => c ⟨q.1.1, q.2⟩), if_neg c, g1 59 (by omega) (by omega)]
                exact hs.2.2.2.2.2.1 j hj
            · show I2 60 j = nI (if k_th C (j / 6) ∧ j % 6 < k_ot C (j / 6) then t (o_at C (k_num C (j / 6)) + 3 + 2 * (j % 6)) else s_kno s j)
              rw [(hr j).2.2.2]
              by_cases c : k_th C (j / 6) ∧ j % 6 < k_ot C (j / 6)
              · rw [if_pos ⟨(z _).mpr c.1, c.2⟩, if_pos c]
              · rw [if_neg (fun q => c ⟨q.1.1, q.2⟩), if_neg c, g1 60 (by omega) (by omega)]
                exact hs.2.2.2.2.2.2 j hj
        · rw [if_pos (nI_le (by omega) (by omega)), h_rb0, decide_eq_false c4, Bool.false_and]
          exact ⟨J, rfl, fun x hx => fr x (by omega), fun hb => absurd hb (by simp)⟩
      · rw [if_pos (show (1000 : Int32) ≤ nI _ from (nI_le' (a := 1000) (by omega) (by omega)).mpr (by omega)), h_rb0, decide_eq_false c3, Bool.false_and]
        exact ⟨J, rfl, fun x hx => fr x (by omega), fun hb => absurd hb (by simp)⟩
    · rw [if_neg (fun e => c2 ((nI_inj (by omega) (by omega)).mp e)), h_rb0, decide_eq_false c2, Bool.false_and]
      exact ⟨I, rfl, fun _ _ => rfl, fun hb => absurd hb (by simp)⟩
  · rw [if_neg (fun e => c1 ((nI_inj (by omega) (by omega)).mp e)), h_rb0, decide_eq_false c1, Bool.false_and]
    exact ⟨I, rfl, fun _ _ => rfl, fun hb => absurd hb (by simp)⟩
end B5w
