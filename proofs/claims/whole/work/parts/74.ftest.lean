/-! the waiting row of a test, in the class's codes -/
section B74
variable {b : Nat → Nat} {n a kd : Nat}
def p12 (x : Nat) : Bool := decide (x = 12)
def p10 (x : Nat) : Bool := decide (x = 10)
def pAO (x : Nat) : Bool := decide (x = 10 ∨ x = 11)
def p25 (x : Nat) : Bool := !decide (x = 25)
def wc (x : Nat) : Nat := if x = 12 then 30001 else 20000 + x
/-- a fact, not behind a not, not in brackets -/
def p_fct (b : Nat → Nat) (n kd m o a : Nat) : pR := if isW b n a w_all = true then .inr (sk b n (a + 3), [1]) else pB (pq b n kd m 3 o a 0 0) (fun a1 c1 => match p_cmp (t_c b n a1) with | none => .inl (1, a1) | some op => pB (pq b n kd m 3 o (sk b n (a1 + 1)) 0 0) (fun a2 c2 => .inr (a2, c1 ++ c2 ++ [op])))
def tBe (a : Nat) (W Q : List Nat) (o : Nat) : mO := .B a (dw p12 W) (Q ++ (tw p12 W).map wc) (o - (tw p12 W).length)
def tA (b : Nat → Nat) (n kd a : Nat) (W Q : List Nat) (o : Nat) : mO := if isW b n a w_not = true then mOp (sk b n (a + 3)) 12 a W Q o else if t_c b n a = 91 then mOp (sk b n (a + 1)) 25 a W Q o else (match p_fct b n kd 60 o a with | .inl e => .f e.1 e.2 | .inr q => tBe q.1 W (Q ++ q.2) o)
def tHas (W : List Nat) : Bool := W.any (fun x => decide (x = 25))
def tB (b : Nat → Nat) (n a : Nat) (W Q : List Nat) (o : Nat) : mO := if t_c b n a = 93 ∧ tHas W = true then tBe (sk b n (a + 1)) (dw p25 W).tail (Q ++ (tw p25 W).map wc) (o - 1) else if isW b n a w_and = true then .A (sk b n (a + 3)) (10 :: dw p10 W) (Q ++ (tw p10 W).map wc) o else if isW b n a w_or = true then .A (sk b n (a + 2)) (11 :: dw pAO W) (Q ++ (tw pAO W).map wc) o else if tHas W = true then .f 1 a else .e a W Q o
def tS (b : Nat → Nat) (n kd : Nat) (c : mO) : mO := match c.1 with
  | 0 => tA b n kd c.2.1 c.2.2.1 c.2.2.2.1 c.2.2.2.2
  | 1 => tB b n c.2.1 c.2.2.1 c.2.2.2.1 c.2.2.2.2
  | _ => c
def tN (b : Nat → Nat) (n kd : Nat) : Nat → mO → mO
  | 0, c => c
  | j + 1, c => tN b n kd j (tS b n kd c)
def tr (b : Nat → Nat) (n kd : Nat) (c d : mO) : Prop := ∃ j, tN b n kd j c = d
theorem tr_0 {c : mO} : tr b n kd c c := ⟨0, rfl⟩
theorem tr_st {c d e : mO} (h : tS b n kd c = d) (h2 : tr b n kd d e) : tr b n kd c e := by
  obtain ⟨j, hj⟩ := h2
  exact ⟨j + 1, by show tN b n kd j (tS b n kd c) = e; rw [h, hj]⟩
theorem tN_add : ∀ (i j : Nat) (c : mO), tN b n kd (i + j) c = tN b n kd j (tN b n kd i c)
  | 0, j, c => by rw [Nat.zero_add]; rfl
  | i + 1, j, c => by
    rw [show i + 1 + j = (i + j) + 1 by omega]
    exact tN_add i j (tS b n kd c)
theorem tr_tr {c d e : mO} (h1 : tr b n kd c d) (h2 : tr b n kd d e) : tr b n kd c e := by
  obtain ⟨i, hi⟩ := h1
  obtain ⟨j, hj⟩ := h2
  exact ⟨i + j, by rw [tN_add, hi, hj]⟩
theorem tN_z {c : mO} (h : mZ c) : ∀ j, tN b n kd j c = c
  | 0 => rfl
  | j + 1 => by
    have e : tS b n kd c = c := by
      rcases c with ⟨k, r⟩
      match k, h with
      | k + 2, _ => rfl
    show tN b n kd j (tS b n kd c) = c
    rw [e, tN_z h j]
theorem tr_u {c d e : mO} (h1 : tr b n kd c d) (h2 : tr b n kd c e) (hd : mZ d) (he : mZ e) : d = e := by
  obtain ⟨i, hi⟩ := h1
  obtain ⟨j, hj⟩ := h2
  rcases Nat.le_total i j with q | q
  · rw [← hj, show j = i + (j - i) by omega, tN_add, hi, tN_z hd]
  · rw [← hi, show i = j + (i - j) by omega, tN_add, hj, tN_z he]
theorem tBe_0 {W Q : List Nat} {o : Nat} (h : tw p12 W = []) : tBe a W Q o = .B a W Q o := by
  unfold tBe
  rw [dw_no h, h, List.map_nil, List.append_nil]; rfl
def T2 (b : Nat → Nat) (n kd : Nat) (r : pR) (c : List Nat → List Nat → mO) (o : Nat) : Prop := ∀ W Q, (∀ e, r = .inl e → tr b n kd (c W Q) (.f e.1 e.2)) ∧ ∀ q, r = .inr q → tr b n kd (c W Q) (tBe q.1 W (Q ++ q.2) o)
def T1 (b : Nat → Nat) (n kd : Nat) (r : pR) (c : List Nat → List Nat → mO) (o : Nat) : Prop := ∀ W Q, tw p12 W = [] → tw p10 W = [] → (∀ e, r = .inl e → tr b n kd (c W Q) (.f e.1 e.2)) ∧ ∀ q, r = .inr q → (¬ isW b n q.1 w_and = true) ∧ ∃ R M, R ++ M.map wc = q.2 ∧ (∀ x ∈ M, p10 x = true) ∧ tr b n kd (c W Q) (.B q.1 (M ++ W) (Q ++ R) o)
def T0 (b : Nat → Nat) (n kd : Nat) (r : pR) (c : List Nat → List Nat → mO) (o : Nat) : Prop := ∀ W Q, tw p12 W = [] → tw pAO W = [] → (∀ e, r = .inl e → tr b n kd (c W Q) (.f e.1 e.2)) ∧ ∀ q, r = .inr q → (¬ isW b n q.1 w_and = true ∧ ¬ isW b n q.1 w_or = true) ∧ ∃ R M, R ++ M.map wc = q.2 ∧ (∀ x ∈ M, pAO x = true) ∧ tr b n kd (c W Q) (.B q.1 (M ++ W) (Q ++ R) o)
theorem p10_AO {x : Nat} (h : p10 x = true) : pAO x = true := decide_eq_true (by have := of_decide_eq_true h; omega)
theorem pAO_25 {x : Nat} (h : pAO x = true) : p25 x = true := by
  have h1 := of_decide_eq_true h
  unfold p25
  rw [decide_eq_false (by omega)]; rfl
theorem tw_10_AO {W : List Nat} (h : tw pAO W = []) : tw p10 W = [] := by
  cases W with
  | nil => rfl
  | cons x l =>
    have h1 : (if pAO x = true then x :: tw pAO l else []) = [] := h
    show (if p10 x = true then x :: tw p10 l else []) = []
    by_cases c : p10 x = true
    · rw [if_pos (p10_AO c)] at h1; cases h1
    · rw [if_neg c]
theorem isW_93 {w : List Nat} (h : isW b n a w = true) : t_c b n a ≠ 93 ∧ t_c b n a ≠ 91 := by
  have h1 := of_decide_eq_true h
  have hl : isL (t_c b n a) = true := by
    cases e : isL (t_c b n a) with
    | true => rfl
    | false =>
      have := h1.1
      unfold wl at this
      split at this
      · omega
      · rw [t_l_no (by rw [e]; decide)] at this; omega
  have h2 := of_decide_eq_true hl
  omega
/-- and -/
theorem T1_lp {o : Nat} {f : Nat → pR} {c0 : mO} {W : List Nat} (hW1 : tw p12 W = []) (hW2 : tw p10 W = []) (hf : ∀ x, x ≤ n → pG b n 0 x (f x) ∧ T2 b n kd (f x) (fun W Q => .A x W Q o) o) : ∀ (g x : Nat) (cs R M Q : List Nat), n - x < g → x ≤ n → R ++ M.map wc = cs → (∀ y ∈ M, p10 y = true) → tr b n kd c0 (.B x (M ++ W) (Q ++ R) o) → (∀ e, p_ws b n w_and 20010 f g x cs = .inl e → tr b n kd c0 (.f e.1 e.2)) ∧ ∀ q, p_ws b n w_and 20010 f g x cs = .inr q → (¬ isW b n q.1 w_and = true) ∧ ∃ R M, R ++ M.map wc = q.2 ∧ (∀ x ∈ M, p10 x = true) ∧ tr b n kd c0 (.B q.1 (M ++ W) (Q ++ R) o)
  | 0, x, cs, R, M, Q, hg, _, _, _, _ => by omega
  | g + 1, x, cs, R, M, Q, hg, hx, hR, hM, hr => by
    unfold p_ws
    by_cases c : isW b n x w_and = true
    · rw [if_pos c]
      obtain ⟨l1, l2, -⟩ := isW_l c
      have hsk := sk_ge (b := b) (n := n) (a := x + w_and.length)
      have hle := sk_le (b := b) l1
      obtain ⟨hG, h5⟩ := hf (sk b n (x + w_and.length)) hle
      obtain ⟨h5a, h5b⟩ := h5 (10 :: W) (Q ++ R ++ M.map wc)
      have hS : tS b n kd (.B x (M ++ W) (Q ++ R) o) = .A (sk b n (x + w_and.length)) (10 :: W) (Q ++ R ++ M.map wc) o := by
        show tB b n x (M ++ W) (Q ++ R) o = _
        unfold tB
        rw [if_neg (fun h => (isW_93 c).1 h.1), if_pos c, dw_app hW2 M hM, tw_app hW2 M hM]; rfl
      have hA : tr b n kd c0 (.A (sk b n (x + w_and.length)) (10 :: W) (Q ++ R ++ M.map wc) o) := tr_tr hr (tr_st hS tr_0)
      rcases q : f (sk b n (x + w_and.length)) with e | r
      · exact ⟨fun e2 h => by cases h; exact tr_tr hA (h5a e q), fun q2 h => by cases h⟩
      · rw [q] at hG
        obtain ⟨r1, r2, r3, r4⟩ := hG
        have hm := h5b r q
        rw [tBe_0 (tw_hd rfl)] at hm
        have hB : tr b n kd c0 (.B r.1 ([10] ++ W) (Q ++ (R ++ M.map wc ++ r.2)) o) := by
          have := tr_tr hA hm
          rw [show Q ++ R ++ M.map wc ++ r.2 = Q ++ (R ++ M.map wc ++ r.2) by simp only [List.append_assoc]] at this
          exact this
        exact T1_lp hW1 hW2 hf g r.1 (cs ++ r.2 ++ [20010]) (R ++ M.map wc ++ r.2) [10] Q (by omega) r2 (by rw [hR]; rfl) (fun y hy => by rw [List.mem_singleton.mp hy]; rfl) hB
    · rw [if_neg c]
      exact ⟨fun e h => (by cases h), fun q h => by cases h; exact ⟨c, R, M, hR, hM, hr⟩⟩
/-- or -/
theorem T0_lp {o : Nat} {f : Nat → pR} {c0 : mO} {W : List Nat} (hW1 : tw p12 W = []) (hW2 : tw pAO W = []) (hf : ∀ x, x ≤ n → pG b n 0 x (f x) ∧ T1 b n kd (f x) (fun W Q => .A x W Q o) o) : ∀ (g x : Nat) (cs R M Q : List Nat), n - x < g → x ≤ n → (¬ isW b n x w_and = true) → R ++ M.map wc = cs → (∀ y ∈ M, pAO y = true) → tr b n kd c0 (.B x (M ++ W) (Q ++ R) o) → (∀ e, p_ws b n w_or 20011 f g x cs = .inl e → tr b n kd c0 (.f e.1 e.2)) ∧ ∀ q, p_ws b n w_or 20011 f g x cs = .inr q → (¬ isW b n q.1 w_and = true ∧ ¬ isW b n q.1 w_or = true) ∧ ∃ R M, R ++ M.map wc = q.2 ∧ (∀ x ∈ M, pAO x = true) ∧ tr b n kd c0 (.B q.1 (M ++ W) (Q ++ R) o)
  | 0, x, cs, R, M, Q, hg, _, _, _, _, _ => by omega
  | g + 1, x, cs, R, M, Q, hg, hx, hn, hR, hM, hr => by
    unfold p_ws
    by_cases c : isW b n x w_or = true
    · rw [if_pos c]
      obtain ⟨l1, l2, -⟩ := isW_l c
      have hsk := sk_ge (b := b) (n := n) (a := x + w_or.length)
      have hle := sk_le (b := b) l1
      obtain ⟨hG, h5⟩ := hf (sk b n (x + w_or.length)) hle
      obtain ⟨h5a, h5b⟩ := h5 (11 :: W) (Q ++ R ++ M.map wc) (tw_hd rfl) (tw_hd rfl)
      have hS : tS b n kd (.B x (M ++ W) (Q ++ R) o) = .A (sk b n (x + w_or.length)) (11 :: W) (Q ++ R ++ M.map wc) o := by
        show tB b n x (M ++ W) (Q ++ R) o = _
        unfold tB
        rw [if_neg (fun h => (isW_93 c).1 h.1), if_neg hn, if_pos c, dw_app hW2 M hM, tw_app hW2 M hM]; rfl
      have hA : tr b n kd c0 (.A (sk b n (x + w_or.length)) (11 :: W) (Q ++ R ++ M.map wc) o) := tr_tr hr (tr_st hS tr_0)
      rcases q : f (sk b n (x + w_or.length)) with e | r
      · exact ⟨fun e2 h => by cases h; exact tr_tr hA (h5a e q), fun q2 h => by cases h⟩
      · rw [q] at hG
        obtain ⟨r1, r2, r3, r4⟩ := hG
        obtain ⟨hT, R1, M1, hR1, hM1, hm⟩ := h5b r q
        have hB : tr b n kd c0 (.B r.1 ((M1 ++ [11]) ++ W) (Q ++ (R ++ M.map wc ++ R1)) o) := by
          have := tr_tr hA hm
          rw [show Q ++ R ++ M.map wc ++ R1 = Q ++ (R ++ M.map wc ++ R1) by simp only [List.append_assoc], show M1 ++ 11 :: W = (M1 ++ [11]) ++ W by simp only [List.append_assoc]; rfl] at this
          exact this
        exact T0_lp hW1 hW2 hf g r.1 (cs ++ r.2 ++ [20011]) (R ++ M.map wc ++ R1) (M1 ++ [11]) Q (by omega) r2 hT (by rw [hR, ← hR1, List.map_append]; simp only [List.append_assoc]; rfl) (fun y hy => by
          rcases List.mem_append.mp hy with z | z
          · exact p10_AO (hM1 y z)
          · rw [List.mem_singleton.mp z]; rfl) hB
    · rw [if_neg c]
      exact ⟨fun e h => (by cases h), fun q h => by cases h; exact ⟨⟨hn, c⟩, R, M, hR, hM, hr⟩⟩
end B74
