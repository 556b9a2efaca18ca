/-! the class's grammar is the grammar -/
section B68
variable {I I0 : Nat → Nat → Int32} {L L0 : Nat → Nat → Int64} {ρ : zRh} {h : zH} {b : Nat → Nat} {n a x cd u0 kd : Nat} {cs0 : List Nat} {e : Nat × Nat}
theorem S_put (hcd : cdk cd) {op : Nat} {cs : List Nat} (hU : gU cd u0 kd I ρ b n cs0 (.inr (a, cs))) (hb : u0 + (cs0 ++ cs).length + 1 ≤ a) : ∃ J, X3_put cd (nI op) (hp I L ρ) = some (none, hp J L ρ) ∧ gU cd u0 kd J ρ b n cs0 (.inr (a, cs ++ [op])) ∧ gfr cd u0 I J := by
  obtain ⟨J, e1, e2, e3⟩ := T_put (L := L) (ρ := ρ) (op := op) hcd hU.1.2.1 hU.2.2 hb
  exact ⟨J, e1, gU_of hcd hU e2 e3, e3⟩
theorem S_word (hcd : cdk cd) {k : Nat} (hk : k < 16) {w : List Nat} (hw : wsK k = [w]) (hl : zs_len.getD k 0 = w.length) {cs : List Nat} (hU : gU cd u0 kd I ρ b n cs0 (.inr (a, cs))) : ∃ J, X9_takeWord 2 (zB + k) (hp I L ρ) = some (some (.int (bI (isW b n a w))), hp J L ρ) ∧ gU cd u0 kd J ρ b n cs0 (.inr (if isW b n a w = true then sk b n (a + w.length) else a, cs)) ∧ gfr cd u0 I J := by
  obtain ⟨J, e1, e2, e3⟩ := T_word (L := L) (ρ := ρ) hcd hU.1 hk hw hl hU.2.2
  exact ⟨J, e1, gU_of hcd hU e2 e3, e3⟩
theorem S_sign (hcd : cdk cd) {c : Nat} (hc : 0 < c ∧ c < 1000) {cs : List Nat} (hU : gU cd u0 kd I ρ b n cs0 (.inr (a, cs))) : ∃ J, X9_takeSign 2 (nI c) (hp I L ρ) = some (some (.int (bI (decide (t_c b n a = c)))), hp J L ρ) ∧ gU cd u0 kd J ρ b n cs0 (.inr (if t_c b n a = c then sk b n (a + 1) else a, cs)) ∧ gfr cd u0 I J := by
  obtain ⟨J, e1, e2, e3⟩ := T_sign (L := L) (ρ := ρ) hcd hU.1 hc hU.2.2
  exact ⟨J, e1, gU_of hcd hU e2 e3, e3⟩
theorem S_need (hcd : cdk cd) {c : Nat} (hc : 0 < c ∧ c < 1000) {cs : List Nat} (hU : gU cd u0 kd I ρ b n cs0 (.inr (a, cs))) : ∃ J, X9_needSign 2 (nI c) (hp I L ρ) = some (none, hp J L ρ) ∧ gU cd u0 kd J ρ b n cs0 (p_sg b n c a cs) ∧ gfr cd u0 I J := by
  obtain ⟨J, e1, e2, e3⟩ := T_need (L := L) (ρ := ρ) hcd hU.1 hc hU.2.2
  exact ⟨J, e1, gU_of hcd hU e2 e3, e3⟩
theorem S_begin (hcd : cdk cd) {cs : List Nat} (hU : gU cd u0 kd I ρ b n cs0 (.inr (a, cs))) : ∃ J, X9_begin 2 (hp I L ρ) = some (some (.int (nI a)), hp J L ρ) ∧ gU cd u0 kd J ρ b n cs0 (.inr (a, cs)) ∧ gfr cd u0 I J ∧ J 2 2 = nI a := by
  obtain ⟨J, e1, e2, e3, e4⟩ := T_begin (L := L) (ρ := ρ) hcd hU.1 hU.2.2
  exact ⟨J, e1, gU_of hcd hU e2 e3, e3, e4⟩
theorem S_may (hcd : cdk cd) {o hr : Nat} (ho : o ≤ 6) {cs : List Nat} (hU : gU cd u0 kd I ρ b n cs0 (.inr (a, cs))) : ∃ J, X4_mayOpen 10 (nI o) (nI hr) (hp I L ρ) = some (some (.int (bI (decide (o < 6)))), hp J L ρ) ∧ gU cd u0 kd J ρ b n cs0 (if 6 ≤ o then .inl (4, hr) else .inr (a, cs)) ∧ gfr cd u0 I J := by
  obtain ⟨J, e1, e2, e3⟩ := T_may (L := L) (ρ := ρ) (hr := hr) hcd hU.1.2.1 ho hU.2.2
  exact ⟨J, e1, gU_of hcd hU e2 e3, e3⟩
theorem S_cnt {cs : List Nat} (hU : gU cd u0 kd I ρ b n cs0 (.inr (a, cs))) : u0 + (cs0 ++ cs).length ≤ a ∧ a ≤ n ∧ sk b n a = a := ⟨hU.2.2.2.2.2.2, gS_at hU.2.2⟩
theorem l_app {cs0 cs c1 : List Nat} : (cs0 ++ (cs ++ c1)).length = (cs0 ++ cs).length + c1.length := by rw [← List.append_assoc, List.length_append]
/-- what follows a result, its codes behind others -/
def pA (r : pR) (cs : List Nat) : pR := pB r (fun a1 c1 => .inr (a1, cs ++ c1))
theorem S_testlp (hcd : cdk cd) {gr : Nat → Nat → Int32 → Int32 → Int32 → zM} {o : Nat} {f : Nat → pR} {cs : List Nat} (hch : ∀ x cs I, gU cd u0 kd I ρ b n cs0 (.inr (x, cs)) → ∃ J, gr 1 10 (nI o) 0 0 (hp I L ρ) = some (none, hp J L ρ) ∧ gU cd u0 kd J ρ b n cs0 (pA (f x) cs) ∧ gfr cd u0 I J) (hf : ∀ x, x ≤ n → pG b n 0 x (f x)) : ∀ g i fuel I a cs1, i + g = n + 1 → i < a → g < fuel → gU cd u0 kd I ρ b n cs0 (.inr (a, cs ++ cs1)) → ∃ J, z_fix (fun r x => X4_test_B7 gr 10 (nI o) r x) fuel (nI i) (hp I L ρ) = some (none, hp J L ρ) ∧ gU cd u0 kd J ρ b n cs0 (pA (p_ws b n w_or 20011 f g a cs1) cs) ∧ gfr cd u0 I J := by
  intro g
  induction g with
  | zero =>
    intro i fuel I a cs1 h1 h2 h3 hU
    have := (S_cnt hU).2.1
    omega
  | succ g ih =>
    intro i fuel I a cs1 h1 h2 h3 hU
    obtain ⟨fl, rfl⟩ : ∃ fl, fuel = fl + 2 := ⟨fuel - 2, by omega⟩
    obtain ⟨s1, s2, s3⟩ := S_cnt hU
    have hn := hU.1.2.1
    obtain ⟨J1, a1, a2, a3⟩ := S_word (L := L) (k := 13) (w := w_or) hcd (by omega) rfl rfl hU
    rw [h_fix]
    generalize hg : z_fix (fun r x => X4_test_B7 gr 10 (nI o) r x) (fl + 1) = rec
    show ∃ J, X4_test_B7 gr 10 (nI o) rec (nI i) (hp I L ρ) = _ ∧ _ ∧ _
    unfold X4_test_B7 p_ws
    rw [h_if, if_neg (by rw [show (1600 : Int32) = nI 1600 from rfl, nI_le' (by omega) (by omega)]; omega), gr_10_0, rc_2, h_ci a1, h_if]
    by_cases c : isW b n a w_or = true
    · rw [if_pos c] at a2
      have hl := isW_l c
      have hsk := sk_ge (b := b) (n := n) (a := a + w_or.length)
      have hle := sk_le (b := b) hl.1
      obtain ⟨J2, b1, b2, b3⟩ := hch _ _ J1 a2
      have hG := hf _ hle
      rw [c, if_neg (show ¬ bI true = 0 by decide), rc_10, h_cv b1, if_pos rfl]
      rcases q : f (sk b n (a + w_or.length)) with e | r
      · rw [q] at b2
        have b2' : gU cd u0 kd J2 ρ b n cs0 (.inl e) := b2
        obtain ⟨J3, d1, d2, d3⟩ := U_put (L := L) (v := 20011) hcd b2'
        obtain ⟨J4, f1, f2, f3⟩ := U_testlp (L := L) (gr := gr) (v1 := nI o) (v2 := nI i + 1) (f := fl) hcd d2
        rw [gr_10_1, b2'.2.1.1, rc_cd hcd, h_cv d1, ← hg]
        exact ⟨J4, f1, f2, gfr_trans (gfr_trans a3 b3) (gfr_trans d3 f3)⟩
      · rw [q] at b2 hG
        have b2' : gU cd u0 kd J2 ρ b n cs0 (.inr (r.1, (cs ++ cs1) ++ r.2)) := b2
        have hG' : sk b n (a + w_or.length) < r.1 ∧ r.1 ≤ n ∧ sk b n r.1 = r.1 ∧ sk b n (a + w_or.length) + r.2.length ≤ r.1 + 0 := hG
        obtain ⟨J3, d1, d2, d3⟩ := S_put (L := L) (op := 20011) hcd b2' (by rw [l_app]; omega)
        have ecs : (cs ++ cs1) ++ r.2 ++ [20011] = cs ++ (cs1 ++ r.2 ++ [20011]) := by simp only [List.append_assoc]
        rw [ecs] at d2
        obtain ⟨J4, f1, f2, f3⟩ := ih (i + 1) (fl + 1) J3 r.1 _ (by omega) (by omega) (by omega) d2
        rw [hg] at f1
        rw [gr_10_1, b2'.2.1.1, rc_cd hcd, show (20011 : Int32) = nI 20011 from rfl, h_cv d1, nI_1]
        exact ⟨J4, f1, f2, gfr_trans (gfr_trans a3 b3) (gfr_trans d3 f3)⟩
    · have c' : isW b n a w_or = false := by simpa using c
      rw [if_neg c] at a2
      rw [c', bF, if_pos rfl, if_neg (by decide)]
      exact ⟨J1, rfl, a2, a3⟩
theorem S_bothlp (hcd : cdk cd) {gr : Nat → Nat → Int32 → Int32 → Int32 → zM} {o : Nat} {f : Nat → pR} {cs : List Nat} (hch : ∀ x cs I, gU cd u0 kd I ρ b n cs0 (.inr (x, cs)) → ∃ J, gr 2 10 (nI o) 0 0 (hp I L ρ) = some (none, hp J L ρ) ∧ gU cd u0 kd J ρ b n cs0 (pA (f x) cs) ∧ gfr cd u0 I J) (hf : ∀ x, x ≤ n → pG b n 0 x (f x)) : ∀ g i fuel I a cs1, i + g = n + 1 → i < a → g < fuel → gU cd u0 kd I ρ b n cs0 (.inr (a, cs ++ cs1)) → ∃ J, z_fix (fun r x => X4_both_B7 gr 10 (nI o) r x) fuel (nI i) (hp I L ρ) = some (none, hp J L ρ) ∧ gU cd u0 kd J ρ b n cs0 (pA (p_ws b n w_and 20010 f g a cs1) cs) ∧ gfr cd u0 I J := by
  intro g
  induction g with
  | zero =>
    intro i fuel I a cs1 h1 h2 h3 hU
    have := (S_cnt hU).2.1
    omega
  | succ g ih =>
    intro i fuel I a cs1 h1 h2 h3 hU
    obtain ⟨fl, rfl⟩ : ∃ fl, fuel = fl + 2 := ⟨fuel - 2, by omega⟩
    obtain ⟨s1, s2, s3⟩ := S_cnt hU
    have hn := hU.1.2.1
    obtain ⟨J1, a1, a2, a3⟩ := S_word (L := L) (k := 12) (w := w_and) hcd (by omega) rfl rfl hU
    rw [h_fix]
    generalize hg : z_fix (fun r x => X4_both_B7 gr 10 (nI o) r x) (fl + 1) = rec
    show ∃ J, X4_both_B7 gr 10 (nI o) rec (nI i) (hp I L ρ) = _ ∧ _ ∧ _
    unfold X4_both_B7 p_ws
    rw [h_if, if_neg (by rw [show (1600 : Int32) = nI 1600 from rfl, nI_le' (by omega) (by omega)]; omega), gr_10_0, rc_2, h_ci a1, h_if]
    by_cases c : isW b n a w_and = true
    · rw [if_pos c] at a2
      have hl := isW_l c
      have hsk := sk_ge (b := b) (n := n) (a := a + w_and.length)
      have hle := sk_le (b := b) hl.1
      obtain ⟨J2, b1, b2, b3⟩ := hch _ _ J1 a2
      have hG := hf _ hle
      rw [c, if_neg (show ¬ bI true = 0 by decide), rc_10, h_cv b1, if_pos rfl]
      rcases q : f (sk b n (a + w_and.length)) with e | r
      · rw [q] at b2
        have b2' : gU cd u0 kd J2 ρ b n cs0 (.inl e) := b2
        obtain ⟨J3, d1, d2, d3⟩ := U_put (L := L) (v := 20010) hcd b2'
        obtain ⟨J4, f1, f2, f3⟩ := U_bothlp (L := L) (gr := gr) (v1 := nI o) (v2 := nI i + 1) (f := fl) hcd d2
        rw [gr_10_1, b2'.2.1.1, rc_cd hcd, h_cv d1, ← hg]
        exact ⟨J4, f1, f2, gfr_trans (gfr_trans a3 b3) (gfr_trans d3 f3)⟩
      · rw [q] at b2 hG
        have b2' : gU cd u0 kd J2 ρ b n cs0 (.inr (r.1, (cs ++ cs1) ++ r.2)) := b2
        have hG' : sk b n (a + w_and.length) < r.1 ∧ r.1 ≤ n ∧ sk b n r.1 = r.1 ∧ sk b n (a + w_and.length) + r.2.length ≤ r.1 + 0 := hG
        obtain ⟨J3, d1, d2, d3⟩ := S_put (L := L) (op := 20010) hcd b2' (by rw [l_app]; omega)
        have ecs : (cs ++ cs1) ++ r.2 ++ [20010] = cs ++ (cs1 ++ r.2 ++ [20010]) := by simp only [List.append_assoc]
        rw [ecs] at d2
        obtain ⟨J4, f1, f2, f3⟩ := ih (i + 1) (fl + 1) J3 r.1 _ (by omega) (by omega) (by omega) d2
        rw [hg] at f1
        rw [gr_10_1, b2'.2.1.1, rc_cd hcd, show (20010 : Int32) = nI 20010 from rfl, h_cv d1, nI_1]
        exact ⟨J4, f1, f2, gfr_trans (gfr_trans a3 b3) (gfr_trans d3 f3)⟩
    · have c' : isW b n a w_and = false := by simpa using c
      rw [if_neg c] at a2
      rw [c', bF, if_pos rfl, if_neg (by decide)]
      exact ⟨J1, rfl, a2, a3⟩
theorem S_sumlp (hcd : cdk cd) {gr : Nat → Nat → Int32 → Int32 → Int32 → zM} {o : Nat} {f : Nat → pR} {cs : List Nat} (hch : ∀ x cs I, gU cd u0 kd I ρ b n cs0 (.inr (x, cs)) → ∃ J, gr 4 10 (nI o) 0 0 (hp I L ρ) = some (none, hp J L ρ) ∧ gU cd u0 kd J ρ b n cs0 (pA (f x) cs) ∧ gfr cd u0 I J) (hf : ∀ x, x ≤ n → pG b n 0 x (f x)) : ∀ g i fuel I a cs1, i + g = n + 1 → i < a → g < fuel → gU cd u0 kd I ρ b n cs0 (.inr (a, cs ++ cs1)) → ∃ J, z_fix (fun r x => X4_sum_B7 gr 10 (nI o) r x) fuel (nI i) (hp I L ρ) = some (none, hp J L ρ) ∧ gU cd u0 kd J ρ b n cs0 (pA (p_ss b n 43 20001 45 20002 f g a cs1) cs) ∧ gfr cd u0 I J := by
  intro g
  induction g with
  | zero =>
    intro i fuel I a cs1 h1 h2 h3 hU
    have := (S_cnt hU).2.1
    omega
  | succ g ih =>
    intro i fuel I a cs1 h1 h2 h3 hU
    obtain ⟨fl, rfl⟩ : ∃ fl, fuel = fl + 2 := ⟨fuel - 2, by omega⟩
    obtain ⟨s1, s2, s3⟩ := S_cnt hU
    have hn := hU.1.2.1
    -- behind a sign
    have key : ∀ op J1, (op = 20001 ∨ op = 20002) → a < n → gU cd u0 kd J1 ρ b n cs0 (.inr (sk b n (a + 1), cs ++ cs1)) → gfr cd u0 I J1 → ∃ J, X4_sum_J61 gr (fun x => z_fix (fun r x => X4_sum_B7 gr 10 (nI o) r x) (fl + 1) x) 10 (nI o) (nI i) (nI op) (hp J1 L ρ) = some (none, hp J L ρ) ∧ gU cd u0 kd J ρ b n cs0 (pA (pB (f (sk b n (a + 1))) (fun a1 c1 => p_ss b n 43 20001 45 20002 f g a1 (cs1 ++ c1 ++ [op]))) cs) ∧ gfr cd u0 I J := by
      intro op J1 hop hl a2 a3
      have hsk := sk_ge (b := b) (n := n) (a := a + 1)
      have hle := sk_le (b := b) (show a + 1 ≤ n by omega)
      obtain ⟨J2, b1, b2, b3⟩ := hch _ _ J1 a2
      have hG := hf _ hle
      unfold X4_sum_J61
      rw [h_if, if_neg (nI_nm1 (by omega)), rc_10, h_cv b1]
      rcases q : f (sk b n (a + 1)) with e | r
      · rw [q] at b2
        have b2' : gU cd u0 kd J2 ρ b n cs0 (.inl e) := b2
        obtain ⟨J3, d1, d2, d3⟩ := U_put (L := L) (v := nI op) hcd b2'
        rw [gr_10_1, b2'.2.1.1, rc_cd hcd, h_cv d1]
        exact ⟨J3, U_sumlp (f := fl) d2, d2, gfr_trans (gfr_trans a3 b3) d3⟩
      · rw [q] at b2 hG
        have b2' : gU cd u0 kd J2 ρ b n cs0 (.inr (r.1, (cs ++ cs1) ++ r.2)) := b2
        have hG' : sk b n (a + 1) < r.1 ∧ r.1 ≤ n ∧ sk b n r.1 = r.1 ∧ sk b n (a + 1) + r.2.length ≤ r.1 + 0 := hG
        obtain ⟨J3, d1, d2, d3⟩ := S_put (L := L) (op := op) hcd b2' (by rw [l_app]; omega)
        have ecs : (cs ++ cs1) ++ r.2 ++ [op] = cs ++ (cs1 ++ r.2 ++ [op]) := by simp only [List.append_assoc]
        rw [ecs] at d2
        obtain ⟨J4, f1, f2, f3⟩ := ih (i + 1) (fl + 1) J3 r.1 _ (by omega) (by omega) (by omega) d2
        rw [gr_10_1, b2'.2.1.1, rc_cd hcd, h_cv d1, nI_1]
        exact ⟨J4, f1, f2, gfr_trans (gfr_trans a3 b3) (gfr_trans d3 f3)⟩
    obtain ⟨J1, a1, a2, a3⟩ := S_sign (L := L) (c := 43) hcd (by omega) hU
    rw [h_fix]
    show ∃ J, X4_sum_B7 gr 10 (nI o) _ (nI i) (hp I L ρ) = _ ∧ _ ∧ _
    unfold X4_sum_B7 p_ss
    rw [h_if, if_neg (by rw [show (1600 : Int32) = nI 1600 from rfl, nI_le' (by omega) (by omega)]; omega), gr_10_0, rc_2, h_ci (T_snd_s hU.2.2), h_if, if_neg (by decide), gr_10_0, rc_2, show (43 : Int32) = nI 43 from rfl, h_ci a1, h_if]
    by_cases c : t_c b n a = 43
    · rw [if_pos c] at a2
      rw [decide_eq_true c, if_neg (show ¬ bI true = 0 by decide), if_pos c]
      exact key 20001 J1 (Or.inl rfl) (t_c_in c (by omega)) a2 a3
    · rw [if_neg c] at a2
      obtain ⟨J2, b1, b2, b3⟩ := S_sign (L := L) (c := 45) hcd (by omega) a2
      rw [decide_eq_false c, bF, if_pos rfl, if_neg c, gr_10_0, rc_2, show (45 : Int32) = nI 45 from rfl, h_ci b1, h_if]
      by_cases c2 : t_c b n a = 45
      · rw [if_pos c2] at b2
        rw [decide_eq_true c2, if_neg (show ¬ bI true = 0 by decide), if_pos c2]
        exact key 20002 J2 (Or.inr rfl) (t_c_in c2 (by omega)) b2 (gfr_trans a3 b3)
      · rw [if_neg c2] at b2
        rw [decide_eq_false c2, bF, if_pos rfl, if_neg c2]
        unfold X4_sum_J61 X4_sum_J67
        rw [h_if, if_pos rfl]
        exact ⟨J2, rfl, b2, gfr_trans a3 b3⟩
theorem S_productlp (hcd : cdk cd) {gr : Nat → Nat → Int32 → Int32 → Int32 → zM} {o : Nat} {f : Nat → pR} {cs : List Nat} (hch : ∀ x cs I, gU cd u0 kd I ρ b n cs0 (.inr (x, cs)) → ∃ J, gr 5 10 (nI o) 0 0 (hp I L ρ) = some (none, hp J L ρ) ∧ gU cd u0 kd J ρ b n cs0 (pA (f x) cs) ∧ gfr cd u0 I J) (hf : ∀ x, x ≤ n → pG b n 0 x (f x)) : ∀ g i fuel I a cs1, i + g = n + 1 → i < a → g < fuel → gU cd u0 kd I ρ b n cs0 (.inr (a, cs ++ cs1)) → ∃ J, z_fix (fun r x => X4_product_B7 gr 10 (nI o) r x) fuel (nI i) (hp I L ρ) = some (none, hp J L ρ) ∧ gU cd u0 kd J ρ b n cs0 (pA (p_ss b n 42 20003 47 20004 f g a cs1) cs) ∧ gfr cd u0 I J := by
  intro g
  induction g with
  | zero =>
    intro i fuel I a cs1 h1 h2 h3 hU
    have := (S_cnt hU).2.1
    omega
  | succ g ih =>
    intro i fuel I a cs1 h1 h2 h3 hU
    obtain ⟨fl, rfl⟩ : ∃ fl, fuel = fl + 2 := ⟨fuel - 2, by omega⟩
    obtain ⟨s1, s2, s3⟩ := S_cnt hU
    have hn := hU.1.2.1
    -- behind a sign
    have key : ∀ op J1, (op = 20003 ∨ op = 20004) → a < n → gU cd u0 kd J1 ρ b n cs0 (.inr (sk b n (a + 1), cs ++ cs1)) → gfr cd u0 I J1 → ∃ J, X4_product_J61 gr (fun x => z_fix (fun r x => X4_product_B7 gr 10 (nI o) r x) (fl + 1) x) 10 (nI o) (nI i) (nI op) (hp J1 L ρ) = some (none, hp J L ρ) ∧ gU cd u0 kd J ρ b n cs0 (pA (pB (f (sk b n (a + 1))) (fun a1 c1 => p_ss b n 42 20003 47 20004 f g a1 (cs1 ++ c1 ++ [op]))) cs) ∧ gfr cd u0 I J := by
      intro op J1 hop hl a2 a3
      have hsk := sk_ge (b := b) (n := n) (a := a + 1)
      have hle := sk_le (b := b) (show a + 1 ≤ n by omega)
      obtain ⟨J2, b1, b2, b3⟩ := hch _ _ J1 a2
      have hG := hf _ hle
      unfold X4_product_J61
      rw [h_if, if_neg (nI_nm1 (by omega)), rc_10, h_cv b1]
      rcases q : f (sk b n (a + 1)) with e | r
      · rw [q] at b2
        have b2' : gU cd u0 kd J2 ρ b n cs0 (.inl e) := b2
        obtain ⟨J3, d1, d2, d3⟩ := U_put (L := L) (v := nI op) hcd b2'
        rw [gr_10_1, b2'.2.1.1, rc_cd hcd, h_cv d1]
        exact ⟨J3, U_prodlp (f := fl) d2, d2, gfr_trans (gfr_trans a3 b3) d3⟩
      · rw [q] at b2 hG
        have b2' : gU cd u0 kd J2 ρ b n cs0 (.inr (r.1, (cs ++ cs1) ++ r.2)) := b2
        have hG' : sk b n (a + 1) < r.1 ∧ r.1 ≤ n ∧ sk b n r.1 = r.1 ∧ sk b n (a + 1) + r.2.length ≤ r.1 + 0 := hG
        obtain ⟨J3, d1, d2, d3⟩ := S_put (L := L) (op := op) hcd b2' (by rw [l_app]; omega)
        have ecs : (cs ++ cs1) ++ r.2 ++ [op] = cs ++ (cs1 ++ r.2 ++ [op]) := by simp only [List.append_assoc]
        rw [ecs] at d2
        obtain ⟨J4, f1, f2, f3⟩ := ih (i + 1) (fl + 1) J3 r.1 _ (by omega) (by omega) (by omega) d2
        rw [gr_10_1, b2'.2.1.1, rc_cd hcd, h_cv d1, nI_1]
        exact ⟨J4, f1, f2, gfr_trans (gfr_trans a3 b3) (gfr_trans d3 f3)⟩
    obtain ⟨J1, a1, a2, a3⟩ := S_sign (L := L) (c := 42) hcd (by omega) hU
    rw [h_fix]
    show ∃ J, X4_product_B7 gr 10 (nI o) _ (nI i) (hp I L ρ) = _ ∧ _ ∧ _
    unfold X4_product_B7 p_ss
    rw [h_if, if_neg (by rw [show (1600 : Int32) = nI 1600 from rfl, nI_le' (by omega) (by omega)]; omega), gr_10_0, rc_2, h_ci (T_snd_s hU.2.2), h_if, if_neg (by decide), gr_10_0, rc_2, show (42 : Int32) = nI 42 from rfl, h_ci a1, h_if]
    by_cases c : t_c b n a = 42
    · rw [if_pos c] at a2
      rw [decide_eq_true c, if_neg (show ¬ bI true = 0 by decide), if_pos c]
      exact key 20003 J1 (Or.inl rfl) (t_c_in c (by omega)) a2 a3
    · rw [if_neg c] at a2
      obtain ⟨J2, b1, b2, b3⟩ := S_sign (L := L) (c := 47) hcd (by omega) a2
      rw [decide_eq_false c, bF, if_pos rfl, if_neg c, gr_10_0, rc_2, show (47 : Int32) = nI 47 from rfl, h_ci b1, h_if]
      by_cases c2 : t_c b n a = 47
      · rw [if_pos c2] at b2
        rw [decide_eq_true c2, if_neg (show ¬ bI true = 0 by decide), if_pos c2]
        exact key 20004 J2 (Or.inr rfl) (t_c_in c2 (by omega)) b2 (gfr_trans a3 b3)
      · rw [if_neg c2] at b2
        rw [decide_eq_false c2, bF, if_pos rfl, if_neg c2]
        unfold X4_product_J61 X4_product_J67
        rw [h_if, if_pos rfl]
        exact ⟨J2, rfl, b2, gfr_trans a3 b3⟩
end B68
