/-! the waiting row, apart from any machine -/
section B70
variable {b : Nat → Nat} {n a kd : Nat}
def c_ci (kd k : Nat) : Nat := if kd = 3 then [49, 50, 42, 43, 44, 48, 51, 41, 47].getD k 0 else [40, 41, 45, 42, 43, 44, 46, 47, 48].getD k 0
def c_dd (kd r : Nat) : Nat := if kd = 3 then (if 1000 ≤ r then r - 1000 else if r = 49 then 10000 else if r = 50 then 10001 else if r = 42 then 10002 else if r = 43 then 10003 else if r = 44 then 10004 else if r = 48 then 10005 else if r = 51 then 10006 else if r = 41 then 10007 else if r = 47 then 10008 else if r = 60 then 30002 else if r = 61 then 30003 else if r = 13 then 1 else if r = 12 then 30001 else 20000 + r) else c_cc r
def d_ok (kd r : Nat) : Prop := (1000 ≤ r ∧ r < 11000) ∨ (1 ≤ r ∧ r ≤ 13) ∨ (40 ≤ r ∧ r ≤ 51 ∧ (kd = 3 ∨ r ≤ 48)) ∨ (kd = 3 ∧ (r = 60 ∨ r = 61))
def cdR (kd : Nat) (R cs : List Nat) : Prop := R.map (c_dd kd) = cs ∧ ∀ r ∈ R, d_ok kd r
theorem cdR_app {R1 R2 c1 c2 : List Nat} (h1 : cdR kd R1 c1) (h2 : cdR kd R2 c2) : cdR kd (R1 ++ R2) (c1 ++ c2) := by
  refine ⟨by rw [List.map_append, h1.1, h2.1], fun r hr => ?_⟩
  rcases List.mem_append.mp hr with q | q
  · exact h1.2 r q
  · exact h2.2 r q
theorem cdR_1 {r c : Nat} (h1 : c_dd kd r = c) (h2 : d_ok kd r) : cdR kd [r] [c] := by
  refine ⟨by rw [List.map_cons, h1]; rfl, fun x hx => ?_⟩
  rw [List.mem_singleton.mp hx]
  exact h2
theorem cdR_op {r : Nat} (h1 : 1 ≤ r) (h2 : r ≤ 11) : cdR kd [r] [20000 + r] := by
  refine cdR_1 ?_ (Or.inr (Or.inl ⟨h1, by omega⟩))
  unfold c_dd c_cc
  by_cases k : kd = 3
  · rw [if_pos k, if_neg (by omega), if_neg (by omega), if_neg (by omega), if_neg (by omega), if_neg (by omega), if_neg (by omega), if_neg (by omega), if_neg (by omega), if_neg (by omega), if_neg (by omega), if_neg (by omega), if_neg (by omega), if_neg (by omega), if_neg (by omega)]
  · rw [if_neg k, if_neg (by omega), if_neg (by omega), if_neg (by omega), if_neg (by omega)]
theorem cdR_num {v : Nat} (h : v < 10000) : cdR kd [1000 + v] [v] := by
  refine cdR_1 ?_ (Or.inl ⟨by omega, by omega⟩)
  unfold c_dd c_cc
  by_cases k : kd = 3
  · rw [if_pos k, if_pos (by omega)]; omega
  · rw [if_neg k, if_pos (by omega)]; omega
theorem cdR_ci : ∀ k, k < 9 → cdR kd [c_ci kd k] [10000 + k] := by
  intro k hk
  by_cases h : kd = 3
  · subst h
    have h1 : ∀ k, k < 9 → c_dd 3 (c_ci 3 k) = 10000 + k ∧ 40 ≤ c_ci 3 k ∧ c_ci 3 k ≤ 51 := by decide
    exact cdR_1 (h1 k hk).1 (Or.inr (Or.inr (Or.inl ⟨(h1 k hk).2.1, (h1 k hk).2.2, Or.inl rfl⟩)))
  · have h1 : ∀ k, k < 9 → c_dd 0 (c_ci 0 k) = 10000 + k ∧ 40 ≤ c_ci 0 k ∧ c_ci 0 k ≤ 48 := by decide
    have e1 : c_ci kd k = c_ci 0 k := by unfold c_ci; rw [if_neg h, if_neg (by decide)]
    have e2 : ∀ r, c_dd kd r = c_dd 0 r := fun r => by unfold c_dd; rw [if_neg h, if_neg (by decide)]
    rw [e1]
    exact cdR_1 ((e2 _).trans (h1 k hk).1) (Or.inr (Or.inr (Or.inl ⟨(h1 k hk).2.1, by have := (h1 k hk).2.2; omega, Or.inr (h1 k hk).2.2⟩)))
/-! what stands first, as far as it goes -/
def tw (p : Nat → Bool) : List Nat → List Nat
  | [] => []
  | x :: l => if p x = true then x :: tw p l else []
def dw (p : Nat → Bool) : List Nat → List Nat
  | [] => []
  | x :: l => if p x = true then dw p l else x :: l
theorem tw_app {p : Nat → Bool} {W : List Nat} (hW : tw p W = []) : ∀ M : List Nat, (∀ x ∈ M, p x = true) → tw p (M ++ W) = M
  | [], _ => hW
  | x :: M, h => by
    show (if p x = true then x :: tw p (M ++ W) else []) = x :: M
    rw [if_pos (h x (List.mem_cons_self ..)), tw_app hW M (fun y hy => h y (List.mem_cons_of_mem _ hy))]
theorem dw_no {p : Nat → Bool} : ∀ {W : List Nat}, tw p W = [] → dw p W = W
  | [], _ => rfl
  | x :: l, h => by
    show (if p x = true then dw p l else x :: l) = x :: l
    by_cases c : p x = true
    · have : (if p x = true then x :: tw p l else []) = [] := h
      rw [if_pos c] at this; cases this
    · rw [if_neg c]
theorem dw_app {p : Nat → Bool} {W : List Nat} (hW : tw p W = []) : ∀ M : List Nat, (∀ x ∈ M, p x = true) → dw p (M ++ W) = W
  | [], _ => dw_no hW
  | x :: M, h => by
    show (if p x = true then dw p (M ++ W) else x :: (M ++ W)) = W
    rw [if_pos (h x (List.mem_cons_self ..)), dw_app hW M (fun y hy => h y (List.mem_cons_of_mem _ hy))]
theorem tw_len {p : Nat → Bool} : ∀ W : List Nat, (tw p W).length + (dw p W).length = W.length
  | [] => rfl
  | x :: l => by
    show (if p x = true then x :: tw p l else []).length + (if p x = true then dw p l else x :: l).length = l.length + 1
    have := tw_len (p := p) l
    by_cases c : p x = true
    · rw [if_pos c, if_pos c, List.length_cons]; omega
    · rw [if_neg c, if_neg c, List.length_cons, List.length_nil]; omega
def pE (x : Nat) : Bool := decide (60 ≤ x)
def p34 (x : Nat) : Bool := decide (x = 3 ∨ x = 4)
def p14 (x : Nat) : Bool := decide (x = 3 ∨ x = 4 ∨ x = 1 ∨ x = 2)
def pN (x : Nat) : Bool := !decide (20 ≤ x ∧ x ≤ 24)
/-- how it stands: 0 a part is wanted, 1 behind a part, 2 over, 3 a fault; place, what waits, codes, opened (a fault's kind) -/
def mO : Type := Nat × Nat × List Nat × List Nat × Nat
def mO.A (a : Nat) (W Q : List Nat) (o : Nat) : mO := (0, a, W, Q, o)
def mO.B (a : Nat) (W Q : List Nat) (o : Nat) : mO := (1, a, W, Q, o)
def mO.e (a : Nat) (W Q : List Nat) (o : Nat) : mO := (2, a, W, Q, o)
def mO.f (k p : Nat) : mO := (3, p, [], [], k)
/-- a part that is no bracket: what is behind it, its code -/
def mPart (b : Nat → Nat) (n kd a : Nat) : Sum (Nat × Nat) (Nat × Nat) := if isD (t_c b n a) = true then (match p_num b n 0 9999 a with | .inl e => .inl e | .inr q => .inr (sk b n q.2, 1000 + q.1)) else match t_in b n a (pws kd) 0 with
  | some k => if b_k (pmk kd) k = 1 then .inr (sk b n (a + wl b n a), c_ci kd k) else .inl (1, a)
  | none => .inl (1, a)
def mBe (a : Nat) (W Q : List Nat) (o : Nat) : mO := .B a (dw pE W) (Q ++ tw pE W) (o - (tw pE W).length)
def mOp (c v a : Nat) (W Q : List Nat) (o : Nat) : mO := if 6 ≤ o then .f 4 a else .A c (v :: W) Q (o + 1)
def mMM (b : Nat → Nat) (n v a : Nat) (W Q : List Nat) (o : Nat) : mO := if t_c b n a = 40 then mOp (sk b n (a + 1)) v a W Q o else .f 1 a
def mA (b : Nat → Nat) (n kd a : Nat) (W Q : List Nat) (o : Nat) : mO := if isD (t_c b n a) = true then (match mPart b n kd a with | .inl e => .f e.1 e.2 | .inr q => mBe q.1 W (Q ++ [q.2]) o) else if t_c b n a = 40 then mOp (sk b n (a + 1)) 20 a W Q o else if isW b n a w_min = true then mMM b n 21 (sk b n (a + 3)) W Q o else if isW b n a w_max = true then mMM b n 22 (sk b n (a + 3)) W Q o else if kd = 3 ∧ isW b n a w_likes = true then mOp (sk b n (a + 5)) 60 a W Q o else if kd = 3 ∧ isW b n a w_knows = true then mOp (sk b n (a + 5)) 61 a W Q o else (match mPart b n kd a with | .inl e => .f e.1 e.2 | .inr q => mBe q.1 W (Q ++ [q.2]) o)
def mBr (W : List Nat) : Nat := (dw pN W).headD 0
def mB (b : Nat → Nat) (n a : Nat) (W Q : List Nat) (o : Nat) : mO := if t_c b n a = 41 ∧ (mBr W = 20 ∨ mBr W = 23 ∨ mBr W = 24) then mBe (sk b n (a + 1)) (dw pN W).tail (Q ++ tw pN W ++ (if mBr W = 20 then [] else if mBr W = 23 then [5] else [6])) (o - 1) else if t_c b n a = 42 then .A (sk b n (a + 1)) (3 :: dw p34 W) (Q ++ tw p34 W) o else if t_c b n a = 47 then .A (sk b n (a + 1)) (4 :: dw p34 W) (Q ++ tw p34 W) o else if t_c b n a = 43 then .A (sk b n (a + 1)) (1 :: dw p14 W) (Q ++ tw p14 W) o else if t_c b n a = 45 then .A (sk b n (a + 1)) (2 :: dw p14 W) (Q ++ tw p14 W) o else if mBr W = 21 ∨ mBr W = 22 then (if t_c b n a = 44 then .A (sk b n (a + 1)) ((mBr W + 2) :: (dw pN W).tail) (Q ++ tw pN W) o else .f 1 a) else if mBr W = 0 then .e a W Q o else .f 1 a
def mS (b : Nat → Nat) (n kd : Nat) (c : mO) : mO := match c.1 with
  | 0 => mA b n kd c.2.1 c.2.2.1 c.2.2.2.1 c.2.2.2.2
  | 1 => mB b n c.2.1 c.2.2.1 c.2.2.2.1 c.2.2.2.2
  | _ => c
def mN (b : Nat → Nat) (n kd : Nat) : Nat → mO → mO
  | 0, c => c
  | j + 1, c => mN b n kd j (mS b n kd c)
def mr (b : Nat → Nat) (n kd : Nat) (c d : mO) : Prop := ∃ j, mN b n kd j c = d
theorem mr_0 {c : mO} : mr b n kd c c := ⟨0, rfl⟩
theorem mr_st {c d e : mO} (h : mS b n kd c = d) (h2 : mr b n kd d e) : mr b n kd c e := by
  obtain ⟨j, hj⟩ := h2
  exact ⟨j + 1, by show mN b n kd j (mS b n kd c) = e; rw [h, hj]⟩
theorem mN_add : ∀ (i j : Nat) (c : mO), mN b n kd (i + j) c = mN b n kd j (mN b n kd i c)
  | 0, j, c => by rw [Nat.zero_add]; rfl
  | i + 1, j, c => by
    rw [show i + 1 + j = (i + j) + 1 by omega]
    exact mN_add i j (mS b n kd c)
theorem mr_tr {c d e : mO} (h1 : mr b n kd c d) (h2 : mr b n kd d e) : mr b n kd c e := by
  obtain ⟨i, hi⟩ := h1
  obtain ⟨j, hj⟩ := h2
  exact ⟨i + j, by rw [mN_add, hi, hj]⟩
/-- where it stands still -/
def mZ (c : mO) : Prop := 2 ≤ c.1
theorem mN_z {c : mO} (h : mZ c) : ∀ j, mN b n kd j c = c
  | 0 => rfl
  | j + 1 => by
    have e : mS b n kd c = c := by
      rcases c with ⟨k, r⟩
      match k, h with
      | k + 2, _ => rfl
    show mN b n kd j (mS b n kd c) = c
    rw [e, mN_z h j]
theorem mr_u {c d e : mO} (h1 : mr b n kd c d) (h2 : mr b n kd c e) (hd : mZ d) (he : mZ e) : d = e := by
  obtain ⟨i, hi⟩ := h1
  obtain ⟨j, hj⟩ := h2
  rcases Nat.le_total i j with q | q
  · rw [← hj, show j = i + (j - i) by omega, mN_add, hi, mN_z hd]
  · rw [← hi, show i = j + (i - j) by omega, mN_add, hj, mN_z he]
end B70
