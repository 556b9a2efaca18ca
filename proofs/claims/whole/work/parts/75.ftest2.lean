/-! the waiting row of a test reads what the parser reads -/
section B75
variable {b : Nat → Nat} {n a kd : Nat}
theorem tHas_in {M W : List Nat} : tHas (M ++ 25 :: W) = true := List.any_eq_true.mpr ⟨25, List.mem_append_right _ (List.mem_cons_self ..), rfl⟩
theorem tHas_no {M : List Nat} (hM : ∀ x ∈ M, pAO x = true) : tHas M = false := by
  cases e : tHas M with
  | false => rfl
  | true =>
    obtain ⟨x, hx, h⟩ := List.any_eq_true.mp e
    have h1 := of_decide_eq_true (hM x hx)
    have h2 := of_decide_eq_true h
    omega
theorem tB_cl {x o : Nat} {M W Q : List Nat} (hM : ∀ x ∈ M, pAO x = true) (ht : ¬ isW b n x w_and = true ∧ ¬ isW b n x w_or = true) : tS b n kd (.B x (M ++ 25 :: W) Q (o + 1)) = if t_c b n x = 93 then tBe (sk b n (x + 1)) W (Q ++ M.map wc) o else .f 1 x := by
  have h25 : tw p25 (25 :: W) = [] := tw_hd rfl
  have e1 := dw_app h25 M (fun x hx => pAO_25 (hM x hx))
  have e2 := tw_app h25 M (fun x hx => pAO_25 (hM x hx))
  show tB b n x (M ++ 25 :: W) Q (o + 1) = _
  unfold tB
  rw [e1, e2]
  by_cases c : t_c b n x = 93
  · rw [if_pos ⟨c, tHas_in⟩, if_pos c]; rfl
  · rw [if_neg (fun h => c h.1), if_neg ht.1, if_neg ht.2, if_pos tHas_in, if_neg c]
theorem tB_e {x o : Nat} {M Q : List Nat} (hM : ∀ x ∈ M, pAO x = true) (ht : ¬ isW b n x w_and = true ∧ ¬ isW b n x w_or = true) : tS b n kd (.B x M Q o) = .e x M Q o := by
  have e := tHas_no hM
  show tB b n x M Q o = _
  unfold tB
  rw [e, if_neg (fun h => by cases h.2), if_neg ht.1, if_neg ht.2, if_neg (by decide)]
def TS (b : Nat → Nat) (n kd m : Nat) : Prop := ∀ o, o ≤ 6 → ∀ a, a ≤ n → ∀ hr op, (pc 2 o ≤ m → T2 b n kd (pq b n kd m 2 o a hr op) (fun W Q => .A a W Q o) o) ∧ (pc 1 o ≤ m → T1 b n kd (pq b n kd m 1 o a hr op) (fun W Q => .A a W Q o) o) ∧ (pc 0 o ≤ m → T0 b n kd (pq b n kd m 0 o a hr op) (fun W Q => .A a W Q o) o)
theorem tS_A {o : Nat} {W Q : List Nat} : tS b n kd (.A a W Q o) = tA b n kd a W Q o := rfl
theorem fct_m {m o : Nat} (ho : o ≤ 6) (hm : pc 3 o ≤ m) : p_fct b n kd m o a = p_fct b n kd 60 o a := by
  have e : ∀ x, pq b n kd m 3 o x 0 0 = pq b n kd 60 3 o x 0 0 := fun x => pq_fu m 60 3 o 0 0 (by omega) ho hm (by unfold pc; omega) x
  unfold p_fct
  simp only [e]
theorem T_all : ∀ m, TS b n kd m := by
  intro m
  induction m with
  | zero =>
    intro o ho a ha hr op
    exact ⟨fun hm => by unfold pc at hm; omega, fun hm => by unfold pc at hm; omega, fun hm => by unfold pc at hm; omega⟩
  | succ m ih =>
    intro o ho a ha hr op
    refine ⟨fun hm => ?_, fun hm => ?_, fun hm => ?_⟩
    · intro W Q
      have h0 : tr b n kd (.A a W Q o) (tA b n kd a W Q o) := tr_st tS_A tr_0
      show (∀ e, qq_2 b n kd (pq b n kd m) o a hr op = .inl e → tr b n kd (.A a W Q o) (.f e.1 e.2)) ∧ ∀ q, qq_2 b n kd (pq b n kd m) o a hr op = .inr q → tr b n kd (.A a W Q o) (tBe q.1 W (Q ++ q.2) o)
      unfold tA mOp at h0
      unfold qq_2
      by_cases c1 : isW b n a w_not = true
      · rw [if_pos c1] at h0 ⊢
        by_cases c3 : 6 ≤ o
        · rw [if_pos c3] at h0 ⊢
          exact ⟨fun e h => by cases h; exact h0, fun q2 h => by cases h⟩
        · rw [if_neg c3] at h0 ⊢
          obtain ⟨h1, h2⟩ := (ih (o + 1) (by omega) (sk b n (a + 3)) (sk_le (isW_l c1).1) 0 0).1 (by unfold pc at hm ⊢; omega) (12 :: W) Q
          rcases q : pq b n kd m 2 (o + 1) (sk b n (a + 3)) 0 0 with e | r
          · exact ⟨fun e2 h => by cases h; exact tr_tr h0 (h1 e q), fun q2 h => by cases h⟩
          · have hr2 := h2 r q
            refine ⟨fun e h => (by cases h), fun q2 h => ?_⟩
            cases h
            have e1 : tw p12 (12 :: W) = 12 :: tw p12 W := rfl
            have e2 : dw p12 (12 :: W) = dw p12 W := rfl
            have := tr_tr h0 hr2
            unfold tBe at this ⊢
            rw [e1, e2, List.length_cons, show o + 1 - ((tw p12 W).length + 1) = o - (tw p12 W).length by omega, show Q ++ r.2 ++ (12 :: tw p12 W).map wc = Q ++ (r.2 ++ [30001]) ++ (tw p12 W).map wc by simp only [List.append_assoc]; rfl] at this
            exact this
      · rw [if_neg c1] at h0 ⊢
        by_cases c2 : t_c b n a = 91
        · rw [if_pos c2] at h0 ⊢
          have hl := t_c_in c2 (by omega)
          have hle := sk_le (b := b) (show a + 1 ≤ n by omega)
          by_cases c3 : 6 ≤ o
          · rw [if_pos c3] at h0 ⊢
            exact ⟨fun e h => by cases h; exact h0, fun q2 h => by cases h⟩
          · rw [if_neg c3] at h0 ⊢
            obtain ⟨h1, h2⟩ := (ih (o + 1) (by omega) (sk b n (a + 1)) hle 0 0).2.2 (by unfold pc at hm ⊢; omega) (25 :: W) Q (tw_hd rfl) (tw_hd rfl)
            rcases q : pq b n kd m 0 (o + 1) (sk b n (a + 1)) 0 0 with e | r
            · exact ⟨fun e2 h => by cases h; exact tr_tr h0 (h1 e q), fun q2 h => by cases h⟩
            · obtain ⟨ht, R, M, hR, hM, hr2⟩ := h2 r q
              have hS := tB_cl (kd := kd) (o := o) (W := W) (Q := Q ++ R) hM ht
              show (∀ e, p_sg b n 93 r.1 r.2 = .inl e → tr b n kd (.A a W Q o) (.f e.1 e.2)) ∧ ∀ q, p_sg b n 93 r.1 r.2 = .inr q → tr b n kd (.A a W Q o) (tBe q.1 W (Q ++ q.2) o)
              unfold p_sg
              by_cases c : t_c b n r.1 = 93
              · rw [if_pos c] at hS ⊢
                refine ⟨fun e h => (by cases h), fun q2 h => ?_⟩
                cases h
                have := tr_tr h0 (tr_tr hr2 (tr_st hS tr_0))
                rw [List.append_assoc, hR] at this
                exact this
              · rw [if_neg c] at hS ⊢
                exact ⟨fun e h => by cases h; exact tr_tr h0 (tr_tr hr2 (tr_st hS tr_0)), fun q2 h => by cases h⟩
        · rw [if_neg c2] at h0 ⊢
          have e := fct_m (b := b) (n := n) (kd := kd) (a := a) (m := m) ho (by unfold pc at hm ⊢; omega)
          rw [← e] at h0
          show (∀ e, p_fct b n kd m o a = .inl e → tr b n kd (.A a W Q o) (.f e.1 e.2)) ∧ ∀ q, p_fct b n kd m o a = .inr q → tr b n kd (.A a W Q o) (tBe q.1 W (Q ++ q.2) o)
          rcases q : p_fct b n kd m o a with e | r
          · rw [q] at h0
            exact ⟨fun e h => by cases h; exact h0, fun q2 h => by cases h⟩
          · rw [q] at h0
            exact ⟨fun e h => (by cases h), fun q2 h => by cases h; exact h0⟩
    · have hm2 : pc 2 o ≤ m := by unfold pc at hm ⊢; omega
      intro W Q hW1 hW2
      obtain ⟨h1, h2⟩ := (ih o ho a ha 0 0).1 hm2 W Q
      have hG := pq_G (b := b) (n := n) (kd := kd) m 2 o a 0 0 (by omega) hm2 ho ha (Nat.zero_le _)
      show (∀ e, qq_1 b n kd (pq b n kd m) o a hr op = .inl e → tr b n kd (.A a W Q o) (.f e.1 e.2)) ∧ ∀ q, qq_1 b n kd (pq b n kd m) o a hr op = .inr q → (¬ isW b n q.1 w_and = true) ∧ ∃ R M, R ++ M.map wc = q.2 ∧ (∀ x ∈ M, p10 x = true) ∧ tr b n kd (.A a W Q o) (.B q.1 (M ++ W) (Q ++ R) o)
      unfold qq_1
      rcases q : pq b n kd m 2 o a 0 0 with e | r
      · exact ⟨fun e2 h => by cases h; exact h1 e q, fun q2 h => by cases h⟩
      · have hr2 := h2 r q
        rw [q] at hG
        rw [tBe_0 hW1] at hr2
        refine T1_lp hW1 hW2 (fun x hx => ⟨?_, (ih o ho x hx 0 0).1 hm2⟩) (n + 1) r.1 r.2 r.2 [] Q (by omega) hG.2.1 (by rw [List.map_nil, List.append_nil]) (fun y hy => by cases hy) hr2
        have := pq_G (b := b) (n := n) (kd := kd) m 2 o x 0 0 (by omega) hm2 ho hx (Nat.zero_le _)
        rw [if_neg (by omega)] at this
        exact this
    · have hm2 : pc 1 o ≤ m := by unfold pc at hm ⊢; omega
      intro W Q hW1 hW2
      obtain ⟨h1, h2⟩ := (ih o ho a ha 0 0).2.1 hm2 W Q hW1 (tw_10_AO hW2)
      have hG := pq_G (b := b) (n := n) (kd := kd) m 1 o a 0 0 (by omega) hm2 ho ha (Nat.zero_le _)
      show (∀ e, qq_0 b n kd (pq b n kd m) o a hr op = .inl e → tr b n kd (.A a W Q o) (.f e.1 e.2)) ∧ ∀ q, qq_0 b n kd (pq b n kd m) o a hr op = .inr q → (¬ isW b n q.1 w_and = true ∧ ¬ isW b n q.1 w_or = true) ∧ ∃ R M, R ++ M.map wc = q.2 ∧ (∀ x ∈ M, pAO x = true) ∧ tr b n kd (.A a W Q o) (.B q.1 (M ++ W) (Q ++ R) o)
      unfold qq_0
      rcases q : pq b n kd m 1 o a 0 0 with e | r
      · exact ⟨fun e2 h => by cases h; exact h1 e q, fun q2 h => by cases h⟩
      · obtain ⟨ht, R, M, hR, hM, hr2⟩ := h2 r q
        rw [q] at hG
        refine T0_lp hW1 hW2 (fun x hx => ⟨?_, (ih o ho x hx 0 0).2.1 hm2⟩) (n + 1) r.1 r.2 R M Q (by omega) hG.2.1 ht hR (fun y hy => p10_AO (hM y hy)) hr2
        have := pq_G (b := b) (n := n) (kd := kd) m 1 o x 0 0 (by omega) hm2 ho hx (Nat.zero_le _)
        rw [if_neg (by omega)] at this
        exact this
/-- a whole test -/
theorem T_test {m o : Nat} (hm : pc 0 o ≤ m) (ho : o ≤ 6) (ha : a ≤ n) : (∀ e, pq b n kd m 0 o a 0 0 = .inl e → tr b n kd (.A a [] [] o) (.f e.1 e.2)) ∧ ∀ q, pq b n kd m 0 o a 0 0 = .inr q → ∃ R M, R ++ M.map wc = q.2 ∧ (∀ x ∈ M, pAO x = true) ∧ tr b n kd (.A a [] [] o) (.e q.1 M R o) := by
  obtain ⟨h1, h2⟩ := (T_all m o ho a ha 0 0).2.2 hm [] [] rfl rfl
  refine ⟨h1, fun q hq => ?_⟩
  obtain ⟨ht, R, M, hR, hM, hr⟩ := h2 q hq
  refine ⟨R, M, hR, hM, tr_tr hr (tr_st ?_ tr_0)⟩
  rw [List.append_nil, List.nil_append]
  exact tB_e hM ht
end B75
