/-! the waiting row reads what the parser reads -/
section B71
variable {b : Nat → Nat} {n a kd : Nat}
/-- a part of a sum: all of it is out again -/
def M5 (b : Nat → Nat) (n kd : Nat) (r : pR) (c : List Nat → List Nat → mO) (o : Nat) : Prop := ∀ W Q, (∀ e, r = .inl e → mr b n kd (c W Q) (.f e.1 e.2)) ∧ ∀ q, r = .inr q → ∃ R, cdR kd R q.2 ∧ mr b n kd (c W Q) (mBe q.1 W (Q ++ R) o)
/-- a product: what waits still is M -/
def M4 (b : Nat → Nat) (n kd : Nat) (r : pR) (c : List Nat → List Nat → mO) (o : Nat) : Prop := ∀ W Q, tw pE W = [] → tw p34 W = [] → (∀ e, r = .inl e → mr b n kd (c W Q) (.f e.1 e.2)) ∧ ∀ q, r = .inr q → (t_c b n q.1 ≠ 42 ∧ t_c b n q.1 ≠ 47) ∧ ∃ R M, cdR kd (R ++ M) q.2 ∧ (∀ x ∈ M, p34 x = true) ∧ mr b n kd (c W Q) (.B q.1 (M ++ W) (Q ++ R) o)
def M3 (b : Nat → Nat) (n kd : Nat) (r : pR) (c : List Nat → List Nat → mO) (o : Nat) : Prop := ∀ W Q, tw pE W = [] → tw p14 W = [] → (∀ e, r = .inl e → mr b n kd (c W Q) (.f e.1 e.2)) ∧ ∀ q, r = .inr q → (t_c b n q.1 ≠ 42 ∧ t_c b n q.1 ≠ 47 ∧ t_c b n q.1 ≠ 43 ∧ t_c b n q.1 ≠ 45) ∧ ∃ R M, cdR kd (R ++ M) q.2 ∧ (∀ x ∈ M, p14 x = true) ∧ mr b n kd (c W Q) (.B q.1 (M ++ W) (Q ++ R) o)
theorem p34_14 {x : Nat} (h : p34 x = true) : p14 x = true := decide_eq_true (by have := of_decide_eq_true h; omega)
theorem p14_N {x : Nat} (h : p14 x = true) : pN x = true := by
  have h1 := of_decide_eq_true h
  unfold pN
  rw [decide_eq_false (by omega)]; rfl
theorem tw_34_14 {W : List Nat} (h : tw p14 W = []) : tw p34 W = [] := by
  cases W with
  | nil => rfl
  | cons x l =>
    have h1 : (if p14 x = true then x :: tw p14 l else []) = [] := h
    show (if p34 x = true then x :: tw p34 l else []) = []
    by_cases c : p34 x = true
    · rw [if_pos (p34_14 c)] at h1; cases h1
    · rw [if_neg c]
theorem tw_hd {p : Nat → Bool} {x : Nat} {l : List Nat} (h : p x = false) : tw p (x :: l) = [] := by
  show (if p x = true then x :: tw p l else []) = []
  rw [h]; rfl
theorem mBe_0 {W Q : List Nat} {o : Nat} (h : tw pE W = []) : mBe a W Q o = .B a W Q o := by
  unfold mBe
  rw [dw_no h, h, List.append_nil]; rfl
/-- times, over -/
theorem M4_lp {o : Nat} {f : Nat → pR} {c0 : mO} {W : List Nat} (hW1 : tw pE W = []) (hW2 : tw p34 W = []) (hf : ∀ x, x ≤ n → pG b n 0 x (f x) ∧ M5 b n kd (f x) (fun W Q => .A x W Q o) o) : ∀ (g x : Nat) (cs R M Q : List Nat), n - x < g → x ≤ n → cdR kd (R ++ M) cs → (∀ y ∈ M, p34 y = true) → mr b n kd c0 (.B x (M ++ W) (Q ++ R) o) → (∀ e, p_ss b n 42 20003 47 20004 f g x cs = .inl e → mr b n kd c0 (.f e.1 e.2)) ∧ ∀ q, p_ss b n 42 20003 47 20004 f g x cs = .inr q → (t_c b n q.1 ≠ 42 ∧ t_c b n q.1 ≠ 47) ∧ ∃ R M, cdR kd (R ++ M) q.2 ∧ (∀ x ∈ M, p34 x = true) ∧ mr b n kd c0 (.B q.1 (M ++ W) (Q ++ R) o)
  | 0, x, cs, R, M, Q, hg, _, _, _, _ => by omega
  | g + 1, x, cs, R, M, Q, hg, hx, hR, hM, hr => by
    have hk : ∀ v, (v = 3 ∨ v = 4) → x < n → mS b n kd (.B x (M ++ W) (Q ++ R) o) = .A (sk b n (x + 1)) (v :: W) (Q ++ R ++ M) o → (∀ e, pB (f (sk b n (x + 1))) (fun a1 c1 => p_ss b n 42 20003 47 20004 f g a1 (cs ++ c1 ++ [20000 + v])) = .inl e → mr b n kd c0 (.f e.1 e.2)) ∧ ∀ q, pB (f (sk b n (x + 1))) (fun a1 c1 => p_ss b n 42 20003 47 20004 f g a1 (cs ++ c1 ++ [20000 + v])) = .inr q → (t_c b n q.1 ≠ 42 ∧ t_c b n q.1 ≠ 47) ∧ ∃ R M, cdR kd (R ++ M) q.2 ∧ (∀ x ∈ M, p34 x = true) ∧ mr b n kd c0 (.B q.1 (M ++ W) (Q ++ R) o) := by
      intro v hv hl hS
      have hsk := sk_ge (b := b) (n := n) (a := x + 1)
      have hle := sk_le (b := b) (show x + 1 ≤ n by omega)
      obtain ⟨hG, h5⟩ := hf (sk b n (x + 1)) hle
      obtain ⟨h5a, h5b⟩ := h5 (v :: W) (Q ++ R ++ M)
      have hA : mr b n kd c0 (.A (sk b n (x + 1)) (v :: W) (Q ++ R ++ M) o) := mr_tr hr (mr_st hS mr_0)
      rcases q : f (sk b n (x + 1)) with e | r
      · exact ⟨fun e2 h => by cases h; exact mr_tr hA (h5a e q), fun q2 h => by cases h⟩
      · rw [q] at hG
        obtain ⟨r1, r2, r3, r4⟩ := hG
        obtain ⟨R1, hR1, hm⟩ := h5b r q
        have hvE : tw pE (v :: W) = [] := tw_hd (decide_eq_false (by omega))
        rw [mBe_0 hvE] at hm
        have hB : mr b n kd c0 (.B r.1 ([v] ++ W) (Q ++ (R ++ M ++ R1)) o) := by
          have := mr_tr hA hm
          rw [show Q ++ R ++ M ++ R1 = Q ++ (R ++ M ++ R1) by simp only [List.append_assoc]] at this
          exact this
        exact M4_lp hW1 hW2 hf g r.1 (cs ++ r.2 ++ [20000 + v]) (R ++ M ++ R1) [v] Q (by omega) r2 (cdR_app (cdR_app hR hR1) (cdR_op (by omega) (by omega))) (fun y hy => by rw [List.mem_singleton.mp hy]; exact decide_eq_true (by omega)) hB
    unfold p_ss
    by_cases c : t_c b n x = 42
    · rw [if_pos c]
      refine hk 3 (Or.inl rfl) (t_c_in c (by omega)) ?_
      show mB b n x (M ++ W) (Q ++ R) o = _
      unfold mB
      rw [if_neg (fun h => by have := h.1; omega), if_pos c, dw_app hW2 M hM, tw_app hW2 M hM]
    · rw [if_neg c]
      by_cases c2 : t_c b n x = 47
      · rw [if_pos c2]
        refine hk 4 (Or.inr rfl) (t_c_in c2 (by omega)) ?_
        show mB b n x (M ++ W) (Q ++ R) o = _
        unfold mB
        rw [if_neg (fun h => by have := h.1; omega), if_neg c, if_pos c2, dw_app hW2 M hM, tw_app hW2 M hM]
      · rw [if_neg c2]
        exact ⟨fun e h => (by cases h), fun q h => by cases h; exact ⟨⟨c, c2⟩, R, M, hR, hM, hr⟩⟩
/-- and, less -/
theorem M3_lp {o : Nat} {f : Nat → pR} {c0 : mO} {W : List Nat} (hW1 : tw pE W = []) (hW2 : tw p14 W = []) (hf : ∀ x, x ≤ n → pG b n 0 x (f x) ∧ M4 b n kd (f x) (fun W Q => .A x W Q o) o) : ∀ (g x : Nat) (cs R M Q : List Nat), n - x < g → x ≤ n → (t_c b n x ≠ 42 ∧ t_c b n x ≠ 47) → cdR kd (R ++ M) cs → (∀ y ∈ M, p14 y = true) → mr b n kd c0 (.B x (M ++ W) (Q ++ R) o) → (∀ e, p_ss b n 43 20001 45 20002 f g x cs = .inl e → mr b n kd c0 (.f e.1 e.2)) ∧ ∀ q, p_ss b n 43 20001 45 20002 f g x cs = .inr q → (t_c b n q.1 ≠ 42 ∧ t_c b n q.1 ≠ 47 ∧ t_c b n q.1 ≠ 43 ∧ t_c b n q.1 ≠ 45) ∧ ∃ R M, cdR kd (R ++ M) q.2 ∧ (∀ x ∈ M, p14 x = true) ∧ mr b n kd c0 (.B q.1 (M ++ W) (Q ++ R) o)
  | 0, x, cs, R, M, Q, hg, _, _, _, _, _ => by omega
  | g + 1, x, cs, R, M, Q, hg, hx, ht, hR, hM, hr => by
    have hk : ∀ v, (v = 1 ∨ v = 2) → x < n → mS b n kd (.B x (M ++ W) (Q ++ R) o) = .A (sk b n (x + 1)) (v :: W) (Q ++ R ++ M) o → (∀ e, pB (f (sk b n (x + 1))) (fun a1 c1 => p_ss b n 43 20001 45 20002 f g a1 (cs ++ c1 ++ [20000 + v])) = .inl e → mr b n kd c0 (.f e.1 e.2)) ∧ ∀ q, pB (f (sk b n (x + 1))) (fun a1 c1 => p_ss b n 43 20001 45 20002 f g a1 (cs ++ c1 ++ [20000 + v])) = .inr q → (t_c b n q.1 ≠ 42 ∧ t_c b n q.1 ≠ 47 ∧ t_c b n q.1 ≠ 43 ∧ t_c b n q.1 ≠ 45) ∧ ∃ R M, cdR kd (R ++ M) q.2 ∧ (∀ x ∈ M, p14 x = true) ∧ mr b n kd c0 (.B q.1 (M ++ W) (Q ++ R) o) := by
      intro v hv hl hS
      have hsk := sk_ge (b := b) (n := n) (a := x + 1)
      have hle := sk_le (b := b) (show x + 1 ≤ n by omega)
      obtain ⟨hG, h5⟩ := hf (sk b n (x + 1)) hle
      have hvE : tw pE (v :: W) = [] := tw_hd (decide_eq_false (by omega))
      have hv3 : tw p34 (v :: W) = [] := tw_hd (decide_eq_false (by omega))
      obtain ⟨h5a, h5b⟩ := h5 (v :: W) (Q ++ R ++ M) hvE hv3
      have hA : mr b n kd c0 (.A (sk b n (x + 1)) (v :: W) (Q ++ R ++ M) o) := mr_tr hr (mr_st hS mr_0)
      rcases q : f (sk b n (x + 1)) with e | r
      · exact ⟨fun e2 h => by cases h; exact mr_tr hA (h5a e q), fun q2 h => by cases h⟩
      · rw [q] at hG
        obtain ⟨r1, r2, r3, r4⟩ := hG
        obtain ⟨hT, R1, M1, hR1, hM1, hm⟩ := h5b r q
        have hB : mr b n kd c0 (.B r.1 ((M1 ++ [v]) ++ W) (Q ++ (R ++ M ++ R1)) o) := by
          have := mr_tr hA hm
          rw [show Q ++ R ++ M ++ R1 = Q ++ (R ++ M ++ R1) by simp only [List.append_assoc], show M1 ++ v :: W = (M1 ++ [v]) ++ W by simp only [List.append_assoc]; rfl] at this
          exact this
        have hC : cdR kd (R ++ M ++ R1 ++ (M1 ++ [v])) (cs ++ r.2 ++ [20000 + v]) := by
          have := cdR_app (cdR_app hR hR1) (cdR_op (kd := kd) (show 1 ≤ v by omega) (by omega))
          rw [show R ++ M ++ (R1 ++ M1) ++ [v] = R ++ M ++ R1 ++ (M1 ++ [v]) by simp only [List.append_assoc]] at this
          exact this
        exact M3_lp hW1 hW2 hf g r.1 (cs ++ r.2 ++ [20000 + v]) (R ++ M ++ R1) (M1 ++ [v]) Q (by omega) r2 hT hC (fun y hy => by
          rcases List.mem_append.mp hy with z | z
          · exact p34_14 (hM1 y z)
          · rw [List.mem_singleton.mp z]; exact decide_eq_true (by omega)) hB
    unfold p_ss
    by_cases c : t_c b n x = 43
    · rw [if_pos c]
      refine hk 1 (Or.inl rfl) (t_c_in c (by omega)) ?_
      show mB b n x (M ++ W) (Q ++ R) o = _
      unfold mB
      rw [if_neg (fun h => by have := h.1; omega), if_neg ht.1, if_neg ht.2, if_pos c, dw_app hW2 M hM, tw_app hW2 M hM]
    · rw [if_neg c]
      by_cases c2 : t_c b n x = 45
      · rw [if_pos c2]
        refine hk 2 (Or.inr rfl) (t_c_in c2 (by omega)) ?_
        show mB b n x (M ++ W) (Q ++ R) o = _
        unfold mB
        rw [if_neg (fun h => by have := h.1; omega), if_neg ht.1, if_neg ht.2, if_neg c, if_pos c2, dw_app hW2 M hM, tw_app hW2 M hM]
      · rw [if_neg c2]
        exact ⟨fun e h => (by cases h), fun q h => by cases h; exact ⟨⟨ht.1, ht.2, c, c2⟩, R, M, hR, hM, hr⟩⟩
end B71
