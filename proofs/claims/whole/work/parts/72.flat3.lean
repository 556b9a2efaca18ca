/-! the waiting row reads what the parser reads, all of it -/
section B72
variable {b : Nat → Nat} {n a kd : Nat}
def mEm (v : Nat) : List Nat := if v = 20 then [] else if v = 23 then [5] else [6]
theorem pN_no {v : Nat} (h1 : 20 ≤ v) (h2 : v ≤ 24) : pN v = false := by
  unfold pN
  rw [decide_eq_true (by omega)]; rfl
theorem dwN {M W : List Nat} {v : Nat} (h1 : 20 ≤ v) (h2 : v ≤ 24) (hM : ∀ x ∈ M, p14 x = true) : dw pN (M ++ v :: W) = v :: W ∧ tw pN (M ++ v :: W) = M ∧ mBr (M ++ v :: W) = v := by
  have e := dw_app (W := v :: W) (tw_hd (pN_no h1 h2)) M (fun x hx => p14_N (hM x hx))
  refine ⟨e, tw_app (tw_hd (pN_no h1 h2)) M (fun x hx => p14_N (hM x hx)), ?_⟩
  unfold mBr
  rw [e]; rfl
theorem mB_cl {v x o : Nat} {M W Q : List Nat} (hv : v = 20 ∨ v = 23 ∨ v = 24) (hM : ∀ x ∈ M, p14 x = true) (ht : t_c b n x ≠ 42 ∧ t_c b n x ≠ 47 ∧ t_c b n x ≠ 43 ∧ t_c b n x ≠ 45) : mS b n kd (.B x (M ++ v :: W) Q (o + 1)) = if t_c b n x = 41 then mBe (sk b n (x + 1)) W (Q ++ M ++ mEm v) o else .f 1 x := by
  obtain ⟨e1, e2, e3⟩ := dwN (W := W) (show 20 ≤ v by omega) (by omega) hM
  show mB b n x (M ++ v :: W) Q (o + 1) = _
  unfold mB
  rw [e1, e2, e3]
  by_cases c : t_c b n x = 41
  · rw [if_pos ⟨c, hv⟩, if_pos c]; rfl
  · rw [if_neg (fun h => c h.1), if_neg ht.1, if_neg ht.2.1, if_neg ht.2.2.1, if_neg ht.2.2.2, if_neg (by omega), if_neg (by omega), if_neg c]
theorem mB_co {v x o : Nat} {M W Q : List Nat} (hv : v = 21 ∨ v = 22) (hM : ∀ x ∈ M, p14 x = true) (ht : t_c b n x ≠ 42 ∧ t_c b n x ≠ 47 ∧ t_c b n x ≠ 43 ∧ t_c b n x ≠ 45) : mS b n kd (.B x (M ++ v :: W) Q o) = if t_c b n x = 44 then .A (sk b n (x + 1)) ((v + 2) :: W) (Q ++ M) o else .f 1 x := by
  obtain ⟨e1, e2, e3⟩ := dwN (W := W) (show 20 ≤ v by omega) (by omega) hM
  show mB b n x (M ++ v :: W) Q o = _
  unfold mB
  rw [e1, e2, e3, if_neg (by omega), if_neg ht.1, if_neg ht.2.1, if_neg ht.2.2.1, if_neg ht.2.2.2, if_pos hv]; rfl
theorem mB_e {x o : Nat} {M Q : List Nat} (hM : ∀ x ∈ M, p14 x = true) (ht : t_c b n x ≠ 42 ∧ t_c b n x ≠ 47 ∧ t_c b n x ≠ 43 ∧ t_c b n x ≠ 45) : mS b n kd (.B x M Q o) = .e x M Q o := by
  have e := dw_app (W := []) (p := pN) rfl M (fun x hx => p14_N (hM x hx))
  rw [List.append_nil] at e
  have e3 : mBr M = 0 := by unfold mBr; rw [e]; rfl
  show mB b n x M Q o = _
  unfold mB
  rw [e3, if_neg (by omega), if_neg ht.1, if_neg ht.2.1, if_neg ht.2.2.1, if_neg ht.2.2.2, if_neg (by omega), if_pos rfl]
def MS (b : Nat → Nat) (n kd m : Nat) : Prop := ∀ o, o ≤ 6 → ∀ a, a ≤ n → ∀ hr op, (pc 5 o ≤ m → M5 b n kd (pq b n kd m 5 o a hr op) (fun W Q => .A a W Q o) o) ∧ (pc 4 o ≤ m → M4 b n kd (pq b n kd m 4 o a hr op) (fun W Q => .A a W Q o) o) ∧ (pc 3 o ≤ m → M3 b n kd (pq b n kd m 3 o a hr op) (fun W Q => .A a W Q o) o)
/-- a sum in brackets, from behind the bracket -/
theorem M_in {m v o x : Nat} {W Q : List Nat} (ih : MS b n kd m) (ho : o < 6) (hm : pc 3 (o + 1) ≤ m) (hx : x ≤ n) (hv : 20 ≤ v ∧ v ≤ 24) : (∀ e, pq b n kd m 3 (o + 1) x 0 0 = .inl e → mr b n kd (.A x (v :: W) Q (o + 1)) (.f e.1 e.2)) ∧ ∀ q, pq b n kd m 3 (o + 1) x 0 0 = .inr q → (q.1 ≤ n) ∧ (t_c b n q.1 ≠ 42 ∧ t_c b n q.1 ≠ 47 ∧ t_c b n q.1 ≠ 43 ∧ t_c b n q.1 ≠ 45) ∧ ∃ R M, cdR kd (R ++ M) q.2 ∧ (∀ x ∈ M, p14 x = true) ∧ mr b n kd (.A x (v :: W) Q (o + 1)) (.B q.1 (M ++ v :: W) (Q ++ R) (o + 1)) := by
  obtain ⟨h1, h2⟩ := (ih (o + 1) (by omega) x hx 0 0).2.2 hm (v :: W) Q (tw_hd (decide_eq_false (by omega))) (tw_hd (decide_eq_false (by omega)))
  refine ⟨h1, fun q hq => ⟨?_, h2 q hq⟩⟩
  have := pq_G (b := b) (n := n) (kd := kd) m 3 (o + 1) x 0 0 (by omega) hm (by omega) hx (Nat.zero_le _)
  rw [hq] at this
  exact this.2.1
/-- a sum in brackets, and its end -/
theorem M_inc {m v o x : Nat} {W Q : List Nat} {c0 : mO} {R0 : List Nat} {g : List Nat → List Nat} (ih : MS b n kd m) (ho : o < 6) (hm : pc 3 (o + 1) ≤ m) (hx : x ≤ n) (hv : v = 20 ∨ v = 23 ∨ v = 24) (h0 : mr b n kd c0 (.A x (v :: W) (Q ++ R0) (o + 1))) (hg : ∀ R c, cdR kd R c → cdR kd (R0 ++ R ++ mEm v) (g c)) : (∀ e, pB (pq b n kd m 3 (o + 1) x 0 0) (fun a2 c2 => p_sg b n 41 a2 (g c2)) = .inl e → mr b n kd c0 (.f e.1 e.2)) ∧ ∀ q, pB (pq b n kd m 3 (o + 1) x 0 0) (fun a2 c2 => p_sg b n 41 a2 (g c2)) = .inr q → ∃ R, cdR kd R q.2 ∧ mr b n kd c0 (mBe q.1 W (Q ++ R) o) := by
  obtain ⟨h1, h2⟩ := M_in (W := W) (Q := Q ++ R0) (v := v) ih ho hm hx (by omega)
  rcases q : pq b n kd m 3 (o + 1) x 0 0 with e | r
  · exact ⟨fun e2 h => by cases h; exact mr_tr h0 (h1 e q), fun q2 h => by cases h⟩
  · obtain ⟨-, ht, R, M, hR, hM, hr⟩ := h2 r q
    have hS := mB_cl (kd := kd) (o := o) (W := W) (Q := Q ++ R0 ++ R) hv hM ht
    show (∀ e, p_sg b n 41 r.1 (g r.2) = .inl e → mr b n kd c0 (.f e.1 e.2)) ∧ ∀ q, p_sg b n 41 r.1 (g r.2) = .inr q → ∃ R, cdR kd R q.2 ∧ mr b n kd c0 (mBe q.1 W (Q ++ R) o)
    unfold p_sg
    by_cases c : t_c b n r.1 = 41
    · rw [if_pos c] at hS ⊢
      refine ⟨fun e h => (by cases h), fun q2 h => ?_⟩
      cases h
      refine ⟨R0 ++ (R ++ M) ++ mEm v, hg _ _ hR, ?_⟩
      have := mr_tr h0 (mr_tr hr (mr_st hS mr_0))
      rw [show Q ++ R0 ++ R ++ M ++ mEm v = Q ++ (R0 ++ (R ++ M) ++ mEm v) by simp only [List.append_assoc]] at this
      exact this
    · rw [if_neg c] at hS ⊢
      exact ⟨fun e h => by cases h; exact mr_tr h0 (mr_tr hr (mr_st hS mr_0)), fun q2 h => by cases h⟩
theorem mS_A {o : Nat} {W Q : List Nat} : mS b n kd (.A a W Q o) = mA b n kd a W Q o := rfl
/-- min, max -/
theorem M_two {m v o x op : Nat} {W Q : List Nat} {c0 : mO} (ih : MS b n kd m) (hm : pc 6 o ≤ m + 1) (ho : o ≤ 6) (hx : x ≤ n) (hv : v = 21 ∨ v = 22) (hop : op = 20005 ∧ v = 21 ∨ op = 20006 ∧ v = 22) (h0 : mr b n kd c0 (mMM b n v x W Q o)) : (∀ e, pq b n kd (m + 1) 6 o x 0 op = .inl e → mr b n kd c0 (.f e.1 e.2)) ∧ ∀ q, pq b n kd (m + 1) 6 o x 0 op = .inr q → ∃ R, cdR kd R q.2 ∧ mr b n kd c0 (mBe q.1 W (Q ++ R) o) := by
  show (∀ e, qq_6 b n kd (pq b n kd m) o x 0 op = .inl e → mr b n kd c0 (.f e.1 e.2)) ∧ ∀ q, qq_6 b n kd (pq b n kd m) o x 0 op = .inr q → ∃ R, cdR kd R q.2 ∧ mr b n kd c0 (mBe q.1 W (Q ++ R) o)
  unfold mMM mOp at h0
  unfold qq_6
  by_cases c : t_c b n x = 40
  · rw [if_pos c] at h0 ⊢
    have hl := t_c_in c (by omega)
    have hle := sk_le (b := b) (show x + 1 ≤ n by omega)
    by_cases c2 : 6 ≤ o
    · rw [if_pos c2] at h0 ⊢
      exact ⟨fun e h => by cases h; exact h0, fun q2 h => by cases h⟩
    · rw [if_neg c2] at h0 ⊢
      have hm2 : pc 3 (o + 1) ≤ m := by unfold pc at hm ⊢; omega
      obtain ⟨h1, h2⟩ := M_in (W := W) (Q := Q) (v := v) ih (show o < 6 by omega) hm2 hle (by omega)
      rcases q : pq b n kd m 3 (o + 1) (sk b n (x + 1)) 0 0 with e | r
      · exact ⟨fun e2 h => by cases h; exact mr_tr h0 (h1 e q), fun q2 h => by cases h⟩
      · obtain ⟨hrn, ht, R, M, hR, hM, hr⟩ := h2 r q
        have hS := mB_co (kd := kd) (o := o + 1) (W := W) (Q := Q ++ R) hv hM ht
        show (∀ e, (if t_c b n r.1 = 44 then pB (pq b n kd m 3 (o + 1) (sk b n (r.1 + 1)) 0 0) (fun a2 c2 => p_sg b n 41 a2 (r.2 ++ c2 ++ [op])) else .inl (1, r.1)) = .inl e → mr b n kd c0 (.f e.1 e.2)) ∧ ∀ q, (if t_c b n r.1 = 44 then pB (pq b n kd m 3 (o + 1) (sk b n (r.1 + 1)) 0 0) (fun a2 c2 => p_sg b n 41 a2 (r.2 ++ c2 ++ [op])) else .inl (1, r.1)) = .inr q → ∃ R, cdR kd R q.2 ∧ mr b n kd c0 (mBe q.1 W (Q ++ R) o)
        by_cases c3 : t_c b n r.1 = 44
        · rw [if_pos c3] at hS ⊢
          have hl2 := t_c_in c3 (by omega)
          have hle2 := sk_le (b := b) (show r.1 + 1 ≤ n by omega)
          have hA := mr_tr h0 (mr_tr hr (mr_st hS mr_0))
          rw [show Q ++ R ++ M = Q ++ (R ++ M) by simp only [List.append_assoc]] at hA
          refine M_inc (g := fun c2 => r.2 ++ c2 ++ [op]) ih (show o < 6 by omega) hm2 hle2 (show v + 2 = 20 ∨ v + 2 = 23 ∨ v + 2 = 24 by omega) hA (fun R2 c2 hc => ?_)
          refine cdR_app (cdR_app hR hc) ?_
          unfold mEm
          rcases hop with ⟨z1, z2⟩ | ⟨z1, z2⟩
          · rw [if_neg (by omega), if_pos (by omega), z1]
            exact cdR_op (r := 5) (by omega) (by omega)
          · rw [if_neg (by omega), if_neg (by omega), z1]
            exact cdR_op (r := 6) (by omega) (by omega)
        · rw [if_neg c3] at hS ⊢
          exact ⟨fun e h => by cases h; exact mr_tr h0 (mr_tr hr (mr_st hS mr_0)), fun q2 h => by cases h⟩
  · rw [if_neg c] at h0 ⊢
    exact ⟨fun e h => by cases h; exact h0, fun q2 h => by cases h⟩
/-- likes, knows -/
theorem M_ano {m v o x op : Nat} {W Q : List Nat} {c0 : mO} (hk : kd = 3) (ih : MS b n kd m) (hm : pc 7 o ≤ m + 1) (ho : o ≤ 6) (hx : x ≤ n) (hop : op = 30002 ∧ v = 60 ∨ op = 30003 ∧ v = 61) (h0 : mr b n kd c0 (mOp x v a W Q o)) : (∀ e, pq b n kd (m + 1) 7 o x a op = .inl e → mr b n kd c0 (.f e.1 e.2)) ∧ ∀ q, pq b n kd (m + 1) 7 o x a op = .inr q → ∃ R, cdR kd R q.2 ∧ mr b n kd c0 (mBe q.1 W (Q ++ R) o) := by
  show (∀ e, qq_7 b n kd (pq b n kd m) o x a op = .inl e → mr b n kd c0 (.f e.1 e.2)) ∧ ∀ q, qq_7 b n kd (pq b n kd m) o x a op = .inr q → ∃ R, cdR kd R q.2 ∧ mr b n kd c0 (mBe q.1 W (Q ++ R) o)
  unfold mOp at h0
  unfold qq_7
  by_cases c2 : 6 ≤ o
  · rw [if_pos c2] at h0 ⊢
    exact ⟨fun e h => by cases h; exact h0, fun q2 h => by cases h⟩
  · rw [if_neg c2] at h0 ⊢
    obtain ⟨h1, h2⟩ := (ih (o + 1) (by omega) x hx 0 0).1 (by unfold pc at hm ⊢; omega) (v :: W) Q
    rcases q : pq b n kd m 5 (o + 1) x 0 0 with e | r
    · exact ⟨fun e2 h => by cases h; exact mr_tr h0 (h1 e q), fun q2 h => by cases h⟩
    · obtain ⟨R, hR, hr⟩ := h2 r q
      refine ⟨fun e h => (by cases h), fun q2 h => ?_⟩
      cases h
      refine ⟨R ++ [v], cdR_app hR ?_, ?_⟩
      · subst hk
        rcases hop with ⟨z1, z2⟩ | ⟨z1, z2⟩
        · rw [z1, z2]; exact cdR_1 rfl (Or.inr (Or.inr (Or.inr ⟨rfl, Or.inl rfl⟩)))
        · rw [z1, z2]; exact cdR_1 rfl (Or.inr (Or.inr (Or.inr ⟨rfl, Or.inr rfl⟩)))
      · have hv : pE v = true := decide_eq_true (by omega)
        have e1 : tw pE (v :: W) = v :: tw pE W := if_pos hv
        have e2 : dw pE (v :: W) = dw pE W := if_pos hv
        have := mr_tr h0 hr
        unfold mBe at this ⊢
        rw [e1, e2, List.length_cons, show o + 1 - ((tw pE W).length + 1) = o - (tw pE W).length by omega, show Q ++ R ++ v :: tw pE W = Q ++ (R ++ [v]) ++ tw pE W by simp only [List.append_assoc]; rfl] at this
        exact this
theorem mPart_w {k : Nat} (c1 : ¬ isD (t_c b n a) = true) (q : t_in b n a (pws kd) 0 = some k) : mPart b n kd a = if b_k (pmk kd) k = 1 then .inr (sk b n (a + wl b n a), c_ci kd k) else .inl (1, a) := by
  unfold mPart
  rw [if_neg c1, q]
theorem mPart_0 (c1 : ¬ isD (t_c b n a) = true) (q : t_in b n a (pws kd) 0 = none) : mPart b n kd a = .inl (1, a) := by
  unfold mPart
  rw [if_neg c1, q]
theorem M_all : ∀ m, MS b n kd m := by
  intro m
  induction m using Nat.strongRecOn with
  | ind m IH =>
    intro o ho a ha hr op
    refine ⟨fun hm => ?_, fun hm => ?_, fun hm => ?_⟩
    · obtain ⟨m, rfl⟩ : ∃ m', m = m' + 1 := ⟨m - 1, by unfold pc at hm; omega⟩
      have ih := IH m (by omega)
      intro W Q
      have h0 : mr b n kd (.A a W Q o) (mA b n kd a W Q o) := mr_st mS_A mr_0
      show (∀ e, qq_5 b n kd (pq b n kd m) o a hr op = .inl e → mr b n kd (.A a W Q o) (.f e.1 e.2)) ∧ ∀ q, qq_5 b n kd (pq b n kd m) o a hr op = .inr q → ∃ R, cdR kd R q.2 ∧ mr b n kd (.A a W Q o) (mBe q.1 W (Q ++ R) o)
      unfold mA at h0
      unfold qq_5
      by_cases c1 : isD (t_c b n a) = true
      · rw [if_pos c1] at h0 ⊢
        unfold mPart at h0
        rw [if_pos c1] at h0
        rcases q : p_num b n 0 9999 a with e | r
        · rw [q] at h0
          exact ⟨fun e2 h => by cases h; exact h0, fun q2 h => by cases h⟩
        · rw [q] at h0
          refine ⟨fun e h => (by cases h), fun q2 h => ?_⟩
          cases h
          refine ⟨[1000 + r.1], cdR_num ?_, h0⟩
          unfold p_num at q
          split at q
          · cases q
          · split at q
            · cases q
            · split at q
              · cases q
              · cases q
                show (t_n b n 4 0 a).1 < 10000
                omega
      · rw [if_neg c1] at h0 ⊢
        by_cases c2 : t_c b n a = 40
        · rw [if_pos c2] at h0 ⊢
          have hl := t_c_in c2 (by omega)
          have hle := sk_le (b := b) (show a + 1 ≤ n by omega)
          unfold mOp at h0
          by_cases c3 : 6 ≤ o
          · rw [if_pos c3] at h0 ⊢
            exact ⟨fun e h => by cases h; exact h0, fun q2 h => by cases h⟩
          · rw [if_neg c3] at h0 ⊢
            refine M_inc (g := fun c => c) (R0 := []) ih (show o < 6 by omega) (by unfold pc at hm ⊢; omega) hle (Or.inl rfl) (by rw [List.append_nil]; exact h0) (fun R c hc => ?_)
            show cdR kd ([] ++ R ++ []) c
            rw [List.nil_append, List.append_nil]; exact hc
        · rw [if_neg c2] at h0 ⊢
          obtain ⟨m, rfl⟩ : ∃ m', m = m' + 1 := ⟨m - 1, by unfold pc at hm; omega⟩
          have ih2 := IH m (by omega)
          by_cases c3 : isW b n a w_min = true
          · rw [if_pos c3] at h0 ⊢
            exact M_two ih2 (by unfold pc at hm ⊢; omega) ho (sk_le (isW_l c3).1) (Or.inl rfl) (Or.inl ⟨rfl, rfl⟩) h0
          · rw [if_neg c3] at h0 ⊢
            by_cases c4 : isW b n a w_max = true
            · rw [if_pos c4] at h0 ⊢
              exact M_two ih2 (by unfold pc at hm ⊢; omega) ho (sk_le (isW_l c4).1) (Or.inr rfl) (Or.inr ⟨rfl, rfl⟩) h0
            · rw [if_neg c4] at h0 ⊢
              by_cases c5 : kd = 3 ∧ isW b n a w_likes = true
              · rw [if_pos c5] at h0 ⊢
                exact M_ano c5.1 ih2 (by unfold pc at hm ⊢; omega) ho (sk_le (isW_l c5.2).1) (Or.inl ⟨rfl, rfl⟩) h0
              · rw [if_neg c5] at h0 ⊢
                by_cases c6 : kd = 3 ∧ isW b n a w_knows = true
                · rw [if_pos c6] at h0 ⊢
                  exact M_ano c6.1 ih2 (by unfold pc at hm ⊢; omega) ho (sk_le (isW_l c6.2).1) (Or.inr ⟨rfl, rfl⟩) h0
                · rw [if_neg c6] at h0 ⊢
                  unfold p_wd
                  rcases q : t_in b n a (pws kd) 0 with _ | k
                  · rw [mPart_0 c1 q] at h0
                    exact ⟨fun e h => by cases h; exact h0, fun q2 h => by cases h⟩
                  · rw [mPart_w c1 q] at h0
                    have hk : k < 9 := by
                      have h1 := (t_in_lt q).1.2
                      have h2 : (pws kd).length = 9 := by unfold pws; split <;> rfl
                      omega
                    show (∀ e, (if b_k (pmk kd) k = 1 then .inr (sk b n (a + wl b n a), [10000 + k]) else .inl (1, a) : pR) = .inl e → mr b n kd (.A a W Q o) (.f e.1 e.2)) ∧ ∀ q, (if b_k (pmk kd) k = 1 then .inr (sk b n (a + wl b n a), [10000 + k]) else .inl (1, a) : pR) = .inr q → ∃ R, cdR kd R q.2 ∧ mr b n kd (.A a W Q o) (mBe q.1 W (Q ++ R) o)
                    by_cases c7 : b_k (pmk kd) k = 1
                    · rw [if_pos c7] at h0 ⊢
                      refine ⟨fun e h => (by cases h), fun q2 h => ?_⟩
                      cases h
                      exact ⟨[c_ci kd k], cdR_ci k hk, h0⟩
                    · rw [if_neg c7] at h0 ⊢
                      exact ⟨fun e h => by cases h; exact h0, fun q2 h => by cases h⟩
    · obtain ⟨m, rfl⟩ : ∃ m', m = m' + 1 := ⟨m - 1, by unfold pc at hm; omega⟩
      have ih := IH m (by omega)
      have hm2 : pc 5 o ≤ m := by unfold pc at hm ⊢; omega
      intro W Q hW1 hW2
      obtain ⟨h1, h2⟩ := (ih o ho a ha 0 0).1 hm2 W Q
      have hG := pq_G (b := b) (n := n) (kd := kd) m 5 o a 0 0 (by omega) hm2 ho ha (Nat.zero_le _)
      show (∀ e, qq_4 b n kd (pq b n kd m) o a hr op = .inl e → mr b n kd (.A a W Q o) (.f e.1 e.2)) ∧ ∀ q, qq_4 b n kd (pq b n kd m) o a hr op = .inr q → (t_c b n q.1 ≠ 42 ∧ t_c b n q.1 ≠ 47) ∧ ∃ R M, cdR kd (R ++ M) q.2 ∧ (∀ x ∈ M, p34 x = true) ∧ mr b n kd (.A a W Q o) (.B q.1 (M ++ W) (Q ++ R) o)
      unfold qq_4
      rcases q : pq b n kd m 5 o a 0 0 with e | r
      · exact ⟨fun e2 h => by cases h; exact h1 e q, fun q2 h => by cases h⟩
      · obtain ⟨R, hR, hr2⟩ := h2 r q
        rw [q] at hG
        rw [mBe_0 hW1] at hr2
        refine M4_lp hW1 hW2 (fun x hx => ⟨?_, (ih o ho x hx 0 0).1 hm2⟩) (n + 1) r.1 r.2 R [] Q (by omega) hG.2.1 (by rw [List.append_nil]; exact hR) (fun y hy => by cases hy) hr2
        have := pq_G (b := b) (n := n) (kd := kd) m 5 o x 0 0 (by omega) hm2 ho hx (Nat.zero_le _)
        rw [if_neg (by omega)] at this
        exact this
    · obtain ⟨m, rfl⟩ : ∃ m', m = m' + 1 := ⟨m - 1, by unfold pc at hm; omega⟩
      have ih := IH m (by omega)
      have hm2 : pc 4 o ≤ m := by unfold pc at hm ⊢; omega
      intro W Q hW1 hW2
      obtain ⟨h1, h2⟩ := (ih o ho a ha 0 0).2.1 hm2 W Q hW1 (tw_34_14 hW2)
      have hG := pq_G (b := b) (n := n) (kd := kd) m 4 o a 0 0 (by omega) hm2 ho ha (Nat.zero_le _)
      show (∀ e, qq_3 b n kd (pq b n kd m) o a hr op = .inl e → mr b n kd (.A a W Q o) (.f e.1 e.2)) ∧ ∀ q, qq_3 b n kd (pq b n kd m) o a hr op = .inr q → (t_c b n q.1 ≠ 42 ∧ t_c b n q.1 ≠ 47 ∧ t_c b n q.1 ≠ 43 ∧ t_c b n q.1 ≠ 45) ∧ ∃ R M, cdR kd (R ++ M) q.2 ∧ (∀ x ∈ M, p14 x = true) ∧ mr b n kd (.A a W Q o) (.B q.1 (M ++ W) (Q ++ R) o)
      unfold qq_3
      rcases q : pq b n kd m 4 o a 0 0 with e | r
      · exact ⟨fun e2 h => by cases h; exact h1 e q, fun q2 h => by cases h⟩
      · obtain ⟨ht, R, M, hR, hM, hr2⟩ := h2 r q
        rw [q] at hG
        refine M3_lp hW1 hW2 (fun x hx => ⟨?_, (ih o ho x hx 0 0).2.1 hm2⟩) (n + 1) r.1 r.2 R M Q (by omega) hG.2.1 ht hR (fun y hy => p34_14 (hM y hy)) hr2
        have := pq_G (b := b) (n := n) (kd := kd) m 4 o x 0 0 (by omega) hm2 ho hx (Nat.zero_le _)
        rw [if_neg (by omega)] at this
        exact this
/-- a whole sum: what is over has it all -/
theorem M_sum {m o : Nat} (hm : pc 3 o ≤ m) (ho : o ≤ 6) (ha : a ≤ n) : (∀ e, pq b n kd m 3 o a 0 0 = .inl e → mr b n kd (.A a [] [] o) (.f e.1 e.2)) ∧ ∀ q, pq b n kd m 3 o a 0 0 = .inr q → ∃ R M, cdR kd (R ++ M) q.2 ∧ (∀ x ∈ M, p14 x = true) ∧ mr b n kd (.A a [] [] o) (.e q.1 M R o) := by
  obtain ⟨h1, h2⟩ := (M_all m o ho a ha 0 0).2.2 hm [] [] rfl rfl
  refine ⟨h1, fun q hq => ?_⟩
  obtain ⟨ht, R, M, hR, hM, hr⟩ := h2 q hq
  refine ⟨R, M, hR, hM, mr_tr hr (mr_st ?_ mr_0)⟩
  rw [List.append_nil, List.nil_append]
  exact mB_e hM ht
end B72
