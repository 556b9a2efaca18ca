/-! TEST and SUM, apart from any machine: a fault (kind, place), or what is behind and the code -/
section B65
variable {b : Nat → Nat} {n a kd : Nat}
abbrev pR : Type := Sum (Nat × Nat) (Nat × List Nat)
def pB (r : pR) (f : Nat → List Nat → pR) : pR := match r with
  | .inl e => .inl e
  | .inr q => f q.1 q.2
def w_not : List Nat := [110, 111, 116]
def w_all : List Nat := [97, 108, 108]
def w_min : List Nat := [109, 105, 110]
def w_max : List Nat := [109, 97, 120]
def w_likes : List Nat := [108, 105, 107, 101, 115]
def w_knows : List Nat := [107, 110, 111, 119, 115]
def w_and : List Nat := [97, 110, 100]
def w_or : List Nat := [111, 114]
/-- the parts of a kind of text, which of them it may have -/
def pws (kd : Nat) : List (List Nat) := if kd = 3 then wsK 14 else wsK 0
def pmk (kd : Nat) : Nat := if kd = 0 then 63 else if kd = 1 then 455 else if kd = 2 then 67 else 511
/-- again and again behind a word -/
def p_ws (b : Nat → Nat) (n : Nat) (w : List Nat) (op : Nat) (f : Nat → pR) : Nat → Nat → List Nat → pR
  | 0, a, cs => .inr (a, cs)
  | g + 1, a, cs => if isW b n a w = true then pB (f (sk b n (a + w.length))) (fun a1 c1 => p_ws b n w op f g a1 (cs ++ c1 ++ [op])) else .inr (a, cs)
/-- again and again behind one of two signs -/
def p_ss (b : Nat → Nat) (n s1 o1 s2 o2 : Nat) (f : Nat → pR) : Nat → Nat → List Nat → pR
  | 0, a, cs => .inr (a, cs)
  | g + 1, a, cs => if t_c b n a = s1 then pB (f (sk b n (a + 1))) (fun a1 c1 => p_ss b n s1 o1 s2 o2 f g a1 (cs ++ c1 ++ [o1])) else if t_c b n a = s2 then pB (f (sk b n (a + 1))) (fun a1 c1 => p_ss b n s1 o1 s2 o2 f g a1 (cs ++ c1 ++ [o2])) else .inr (a, cs)
def p_cmp (c : Nat) : Option Nat := if c = 60 then some 20007 else if c = 62 then some 20008 else if c = 61 then some 20009 else none
/-- what is behind a sign that must be there -/
def p_sg (b : Nat → Nat) (n c a : Nat) (cs : List Nat) : pR := if t_c b n a = c then .inr (sk b n (a + 1), cs) else .inl (1, a)
def p_wd (b : Nat → Nat) (n kd a : Nat) : pR := match t_in b n a (pws kd) 0 with
  | some k => if b_k (pmk kd) k = 1 then .inr (sk b n (a + wl b n a), [10000 + k]) else .inl (1, a)
  | none => .inl (1, a)
def qq_0 (b : Nat → Nat) (n kd : Nat) (R : Nat → Nat → Nat → Nat → Nat → pR) (o a hr op : Nat) : pR := pB (R 1 o a 0 0) (fun a1 c1 => p_ws b n w_or 20011 (fun x => R 1 o x 0 0) (n + 1) a1 c1)
def qq_1 (b : Nat → Nat) (n kd : Nat) (R : Nat → Nat → Nat → Nat → Nat → pR) (o a hr op : Nat) : pR := pB (R 2 o a 0 0) (fun a1 c1 => p_ws b n w_and 20010 (fun x => R 2 o x 0 0) (n + 1) a1 c1)
def qq_2 (b : Nat → Nat) (n kd : Nat) (R : Nat → Nat → Nat → Nat → Nat → pR) (o a hr op : Nat) : pR := if isW b n a w_not = true then (if 6 ≤ o then .inl (4, a) else pB (R 2 (o + 1) (sk b n (a + 3)) 0 0) (fun a1 c1 => .inr (a1, c1 ++ [30001]))) else if t_c b n a = 91 then (if 6 ≤ o then .inl (4, a) else pB (R 0 (o + 1) (sk b n (a + 1)) 0 0) (fun a1 c1 => p_sg b n 93 a1 c1)) else if isW b n a w_all = true then .inr (sk b n (a + 3), [1]) else pB (R 3 o a 0 0) (fun a1 c1 => match p_cmp (t_c b n a1) with | none => .inl (1, a1) | some op => pB (R 3 o (sk b n (a1 + 1)) 0 0) (fun a2 c2 => .inr (a2, c1 ++ c2 ++ [op])))
def qq_3 (b : Nat → Nat) (n kd : Nat) (R : Nat → Nat → Nat → Nat → Nat → pR) (o a hr op : Nat) : pR := pB (R 4 o a 0 0) (fun a1 c1 => p_ss b n 43 20001 45 20002 (fun x => R 4 o x 0 0) (n + 1) a1 c1)
def qq_4 (b : Nat → Nat) (n kd : Nat) (R : Nat → Nat → Nat → Nat → Nat → pR) (o a hr op : Nat) : pR := pB (R 5 o a 0 0) (fun a1 c1 => p_ss b n 42 20003 47 20004 (fun x => R 5 o x 0 0) (n + 1) a1 c1)
def qq_5 (b : Nat → Nat) (n kd : Nat) (R : Nat → Nat → Nat → Nat → Nat → pR) (o a hr op : Nat) : pR := if isD (t_c b n a) = true then (match p_num b n 0 9999 a with | .inl e => .inl e | .inr q => .inr (sk b n q.2, [q.1])) else if t_c b n a = 40 then (if 6 ≤ o then .inl (4, a) else pB (R 3 (o + 1) (sk b n (a + 1)) 0 0) (fun a1 c1 => p_sg b n 41 a1 c1)) else if isW b n a w_min = true then R 6 o (sk b n (a + 3)) 0 20005 else if isW b n a w_max = true then R 6 o (sk b n (a + 3)) 0 20006 else if kd = 3 ∧ isW b n a w_likes = true then R 7 o (sk b n (a + 5)) a 30002 else if kd = 3 ∧ isW b n a w_knows = true then R 7 o (sk b n (a + 5)) a 30003 else p_wd b n kd a
def qq_6 (b : Nat → Nat) (n kd : Nat) (R : Nat → Nat → Nat → Nat → Nat → pR) (o a hr op : Nat) : pR := if t_c b n a = 40 then (if 6 ≤ o then .inl (4, a) else pB (R 3 (o + 1) (sk b n (a + 1)) 0 0) (fun a1 c1 => if t_c b n a1 = 44 then pB (R 3 (o + 1) (sk b n (a1 + 1)) 0 0) (fun a2 c2 => p_sg b n 41 a2 (c1 ++ c2 ++ [op])) else .inl (1, a1))) else .inl (1, a)
def qq_7 (b : Nat → Nat) (n kd : Nat) (R : Nat → Nat → Nat → Nat → Nat → pR) (o a hr op : Nat) : pR := if 6 ≤ o then .inl (4, hr) else pB (R 5 (o + 1) a 0 0) (fun a1 c1 => .inr (a1, c1 ++ [op]))
def qq_k (b : Nat → Nat) (n kd : Nat) (R : Nat → Nat → Nat → Nat → Nat → pR) : Nat → Nat → Nat → Nat → Nat → pR
  | 0 => qq_0 b n kd R
  | 1 => qq_1 b n kd R
  | 2 => qq_2 b n kd R
  | 3 => qq_3 b n kd R
  | 4 => qq_4 b n kd R
  | 5 => qq_5 b n kd R
  | 6 => qq_6 b n kd R
  | _ + 7 => qq_7 b n kd R
def pq (b : Nat → Nat) (n kd : Nat) : Nat → Nat → Nat → Nat → Nat → Nat → pR
  | 0 => fun _ _ _ _ _ => .inl (9, 9)
  | m + 1 => fun k o a hr op => qq_k b n kd (pq b n kd m) k o a hr op
def pc (k o : Nat) : Nat := 4 * (7 - o) + (6 - k)
/-- a result of a text that began at a: not too many codes, and faults of these kinds -/
def pG (b : Nat → Nat) (n x a : Nat) (r : pR) : Prop := match r with
  | .inl e => (e.1 = 1 ∨ e.1 = 2 ∨ e.1 = 4) ∧ e.2 ≤ n
  | .inr q => a < q.1 ∧ q.1 ≤ n ∧ sk b n q.1 = q.1 ∧ a + q.2.length ≤ q.1 + x
theorem pG_b {x a : Nat} {r : pR} {f : Nat → List Nat → pR} {y : Nat} (h : pG b n y a r) (hf : ∀ a1 c1, r = .inr (a1, c1) → a < a1 → a1 ≤ n → sk b n a1 = a1 → a + c1.length ≤ a1 + y → pG b n x a (f a1 c1)) : pG b n x a (pB r f) := by
  rcases r with e | q
  · exact h
  · exact hf q.1 q.2 rfl h.1 h.2.1 h.2.2.1 h.2.2.2
theorem isW_l {w : List Nat} (h : isW b n a w = true) : a + w.length ≤ n ∧ 0 < w.length ∧ a < n := by
  have h1 := of_decide_eq_true h
  have h2 : a < n := by
    by_cases c : a < n
    · exact c
    · have := h1.1
      unfold wl at this
      split at this
      · omega
      · rw [t_l_no (by rw [t_c_ge (by omega)]; decide)] at this; omega
  have h3 := wl_le (b := b) (show a ≤ n by omega)
  omega
theorem t_c_in {c : Nat} (h : t_c b n a = c) (hc : 0 < c) : a < n := by
  by_cases q : a < n
  · exact q
  · rw [t_c_ge (by omega)] at h; omega
theorem p_ws_G {w : List Nat} {op a0 : Nat} {f : Nat → pR} (hf : ∀ x, a0 < x → x ≤ n → sk b n x = x → pG b n 0 x (f x)) : ∀ g a cs, a0 < a → a ≤ n → sk b n a = a → a0 + cs.length ≤ a → pG b n 0 a0 (p_ws b n w op f g a cs)
  | 0, a, cs, h1, h2, h3, h4 => ⟨h1, h2, h3, h4⟩
  | g + 1, a, cs, h1, h2, h3, h4 => by
    unfold p_ws
    by_cases c : isW b n a w = true
    · rw [if_pos c]
      obtain ⟨l1, l2, -⟩ := isW_l c
      have hsk := sk_ge (b := b) (n := n) (a := a + w.length)
      have hle := sk_le (b := b) l1
      have hx := hf (sk b n (a + w.length)) (by omega) hle sk_sk
      rcases q : f (sk b n (a + w.length)) with e | r
      · rw [q] at hx; exact hx
      · rw [q] at hx
        obtain ⟨r1, r2, r3, r4⟩ := hx
        exact p_ws_G hf g r.1 _ (by omega) r2 r3 (by rw [List.length_append, List.length_append]; show a0 + (cs.length + r.2.length + 1) ≤ r.1; omega)
    · rw [if_neg c]
      exact ⟨h1, h2, h3, h4⟩
theorem p_ss_G {s1 o1 s2 o2 a0 : Nat} {f : Nat → pR} (h1 : 0 < s1) (h2 : 0 < s2) (hf : ∀ x, a0 < x → x ≤ n → sk b n x = x → pG b n 0 x (f x)) : ∀ g a cs, a0 < a → a ≤ n → sk b n a = a → a0 + cs.length ≤ a → pG b n 0 a0 (p_ss b n s1 o1 s2 o2 f g a cs)
  | 0, a, cs, q1, q2, q3, q4 => ⟨q1, q2, q3, q4⟩
  | g + 1, a, cs, q1, q2, q3, q4 => by
    have key : ∀ op, a < n → pG b n 0 a0 (pB (f (sk b n (a + 1))) (fun a1 c1 => p_ss b n s1 o1 s2 o2 f g a1 (cs ++ c1 ++ [op]))) := by
      intro op hl
      have hsk := sk_ge (b := b) (n := n) (a := a + 1)
      have hle := sk_le (b := b) (show a + 1 ≤ n by omega)
      have hx := hf (sk b n (a + 1)) (by omega) hle sk_sk
      rcases q : f (sk b n (a + 1)) with e | r
      · rw [q] at hx; exact hx
      · rw [q] at hx
        obtain ⟨r1, r2, r3, r4⟩ := hx
        exact p_ss_G h1 h2 hf g r.1 _ (by omega) r2 r3 (by rw [List.length_append, List.length_append]; show a0 + (cs.length + r.2.length + 1) ≤ r.1; omega)
    unfold p_ss
    by_cases c : t_c b n a = s1
    · rw [if_pos c]; exact key o1 (t_c_in c h1)
    · rw [if_neg c]
      by_cases c2 : t_c b n a = s2
      · rw [if_pos c2]; exact key o2 (t_c_in c2 h2)
      · rw [if_neg c2]; exact ⟨q1, q2, q3, q4⟩
theorem p_sg_G {c a0 : Nat} {cs : List Nat} (hc : 0 < c) (h1 : a0 ≤ a) (h2 : a ≤ n) (h4 : a0 + cs.length ≤ a + 1) : pG b n 0 a0 (p_sg b n c a cs) := by
  unfold p_sg
  by_cases q : t_c b n a = c
  · have hl := t_c_in q hc
    have hsk := sk_ge (b := b) (n := n) (a := a + 1)
    rw [if_pos q]
    exact ⟨by show a0 < sk b n (a + 1); omega, sk_le hl, sk_sk, by show a0 + cs.length ≤ sk b n (a + 1) + 0; omega⟩
  · rw [if_neg q]
    exact ⟨Or.inl rfl, h2⟩
theorem pq_G : ∀ m k o a hr op, k ≤ 7 → pc k o ≤ m → o ≤ 6 → a ≤ n → hr ≤ n → pG b n (if k = 7 then 1 else 0) a (pq b n kd m k o a hr op)
  | 0, k, o, a, hr, op, _, h1, h2, _, _ => by unfold pc at h1; omega
  | m + 1, k, o, a, hr, op, hk7, h1, h2, h3, h4 => by
    have up : ∀ k' o' x, pc k' o' ≤ m → o' ≤ 6 → x ≤ n → k' < 7 → pG b n 0 x (pq b n kd m k' o' x 0 0) := by
      intro k' o' x q1 q2 q3 q4
      have := pq_G m k' o' x 0 0 (by omega) q1 q2 q3 (Nat.zero_le _)
      rw [if_neg (by omega)] at this
      exact this
    have mono : ∀ {x y r}, pG b n 0 x r → y ≤ x → pG b n 0 y r := by
      intro x y r hr hy
      rcases r with e | q
      · exact hr
      · exact ⟨Nat.lt_of_le_of_lt hy hr.1, hr.2.1, hr.2.2.1, by have := hr.2.2.2; omega⟩
    match k, h1, hk7 with
    | 0, h1, hk7 =>
      unfold pc at h1
      rw [if_neg (by omega)]
      show pG b n 0 a (qq_0 b n kd (pq b n kd m) o a hr op)
      unfold qq_0
      refine pG_b (up 1 o a (by unfold pc; omega) h2 h3 (by omega)) (fun a1 c1 _ q1 q2 q3 q4 => ?_)
      exact p_ws_G (fun x r1 r2 _ => up 1 o x (by unfold pc; omega) h2 r2 (by omega)) (n + 1) a1 c1 q1 q2 q3 (by omega)
    | 1, h1, hk7 =>
      unfold pc at h1
      rw [if_neg (by omega)]
      show pG b n 0 a (qq_1 b n kd (pq b n kd m) o a hr op)
      unfold qq_1
      refine pG_b (up 2 o a (by unfold pc; omega) h2 h3 (by omega)) (fun a1 c1 _ q1 q2 q3 q4 => ?_)
      exact p_ws_G (fun x r1 r2 _ => up 2 o x (by unfold pc; omega) h2 r2 (by omega)) (n + 1) a1 c1 q1 q2 q3 (by omega)
    | 2, h1, hk7 =>
      unfold pc at h1
      rw [if_neg (by omega)]
      show pG b n 0 a (qq_2 b n kd (pq b n kd m) o a hr op)
      unfold qq_2
      by_cases c1 : isW b n a w_not = true
      · rw [if_pos c1]
        obtain ⟨l1, -, -⟩ := isW_l c1
        have l1' : a + 3 ≤ n := l1
        have hsk := sk_ge (b := b) (n := n) (a := a + 3)
        have hle := sk_le (b := b) l1'
        by_cases c2 : 6 ≤ o
        · rw [if_pos c2]; exact ⟨Or.inr (Or.inr rfl), h3⟩
        · rw [if_neg c2]
          have := up 2 (o + 1) (sk b n (a + 3)) (by unfold pc; omega) (by omega) hle (by omega)
          rcases q : pq b n kd m 2 (o + 1) (sk b n (a + 3)) 0 0 with e | r
          · rw [q] at this; exact this
          · rw [q] at this
            obtain ⟨r1, r2, r3, r4⟩ := this
            exact ⟨by show a < r.1; omega, r2, r3, by show a + (r.2 ++ [30001]).length ≤ _; rw [List.length_append]; show a + (r.2.length + 1) ≤ r.1 + 0; omega⟩
      · rw [if_neg c1]
        by_cases c2 : t_c b n a = 91
        · rw [if_pos c2]
          have hl := t_c_in c2 (by omega)
          have hsk := sk_ge (b := b) (n := n) (a := a + 1)
          have hle := sk_le (b := b) (show a + 1 ≤ n by omega)
          by_cases c3 : 6 ≤ o
          · rw [if_pos c3]; exact ⟨Or.inr (Or.inr rfl), h3⟩
          · rw [if_neg c3]
            have := up 0 (o + 1) (sk b n (a + 1)) (by unfold pc; omega) (by omega) hle (by omega)
            rcases q : pq b n kd m 0 (o + 1) (sk b n (a + 1)) 0 0 with e | r
            · rw [q] at this; exact this
            · rw [q] at this
              obtain ⟨r1, r2, r3, r4⟩ := this
              exact p_sg_G (by omega) (by omega) r2 (by omega)
        · rw [if_neg c2]
          by_cases c3 : isW b n a w_all = true
          · rw [if_pos c3]
            obtain ⟨l1, -, -⟩ := isW_l c3
            have l1' : a + 3 ≤ n := l1
            have hsk := sk_ge (b := b) (n := n) (a := a + 3)
            exact ⟨by show a < sk b n (a + 3); omega, sk_le l1', sk_sk, by show a + 1 ≤ sk b n (a + 3) + 0; omega⟩
          · rw [if_neg c3]
            refine pG_b (up 3 o a (by unfold pc; omega) h2 h3 (by omega)) (fun a1 c1 _ q1 q2 q3 q4 => ?_)
            rcases q : p_cmp (t_c b n a1) with _ | op
            · exact ⟨Or.inl rfl, q2⟩
            · have hl : a1 < n := by
                by_cases z : a1 < n
                · exact z
                · rw [t_c_ge (by omega)] at q; cases q
              have hsk := sk_ge (b := b) (n := n) (a := a1 + 1)
              have hle := sk_le (b := b) (show a1 + 1 ≤ n by omega)
              have := up 3 o (sk b n (a1 + 1)) (by unfold pc; omega) h2 hle (by omega)
              show pG b n 0 a (pB (pq b n kd m 3 o (sk b n (a1 + 1)) 0 0) (fun a2 c2 => .inr (a2, c1 ++ c2 ++ [op])))
              rcases q5 : pq b n kd m 3 o (sk b n (a1 + 1)) 0 0 with e | r
              · rw [q5] at this; exact this
              · rw [q5] at this
                obtain ⟨r1, r2, r3, r4⟩ := this
                exact ⟨by show a < r.1; omega, r2, r3, by show a + (c1 ++ r.2 ++ [op]).length ≤ _; rw [List.length_append, List.length_append]; show a + (c1.length + r.2.length + 1) ≤ r.1 + 0; omega⟩
    | 3, h1, hk7 =>
      unfold pc at h1
      rw [if_neg (by omega)]
      show pG b n 0 a (qq_3 b n kd (pq b n kd m) o a hr op)
      unfold qq_3
      refine pG_b (up 4 o a (by unfold pc; omega) h2 h3 (by omega)) (fun a1 c1 _ q1 q2 q3 q4 => ?_)
      exact p_ss_G (by omega) (by omega) (fun x r1 r2 _ => up 4 o x (by unfold pc; omega) h2 r2 (by omega)) (n + 1) a1 c1 q1 q2 q3 (by omega)
    | 4, h1, hk7 =>
      unfold pc at h1
      rw [if_neg (by omega)]
      show pG b n 0 a (qq_4 b n kd (pq b n kd m) o a hr op)
      unfold qq_4
      refine pG_b (up 5 o a (by unfold pc; omega) h2 h3 (by omega)) (fun a1 c1 _ q1 q2 q3 q4 => ?_)
      exact p_ss_G (by omega) (by omega) (fun x r1 r2 _ => up 5 o x (by unfold pc; omega) h2 r2 (by omega)) (n + 1) a1 c1 q1 q2 q3 (by omega)
    | 5, h1, hk7 =>
      unfold pc at h1
      rw [if_neg (by omega)]
      show pG b n 0 a (qq_5 b n kd (pq b n kd m) o a hr op)
      unfold qq_5
      by_cases c1 : isD (t_c b n a) = true
      · rw [if_pos c1]
        have hl := isD_lt c1
        rcases q : p_num b n 0 9999 a with e | r
        · show pG b n 0 a (.inl e)
          unfold p_num at q
          obtain ⟨⟨n1, n2, n3⟩, n4, n5⟩ := t_n_in (b := b) 4 0 a h3
          split at q
          · cases q; exact ⟨Or.inl rfl, h3⟩
          · split at q
            · cases q; exact ⟨Or.inl rfl, n2⟩
            · split at q
              · cases q; exact ⟨Or.inr (Or.inl rfl), h3⟩
              · cases q
        · show pG b n 0 a (.inr (sk b n r.2, [r.1]))
          unfold p_num at q
          obtain ⟨⟨n1, n2, n3⟩, n4, n5⟩ := t_n_in (b := b) 4 0 a h3
          have hgt : a < (t_n b n 4 0 a).2 := by
            have := (t_n_in (b := b) (n := n) 3 (0 * 10 + (t_c b n a - 48)) (a + 1) (by omega)).1.1
            have e4 : t_n b n 4 0 a = t_n b n 3 (0 * 10 + (t_c b n a - 48)) (a + 1) := if_pos c1
            rw [e4]
            exact this
          have hsk := sk_ge (b := b) (n := n) (a := (t_n b n 4 0 a).2)
          split at q
          · cases q
          · split at q
            · cases q
            · split at q
              · cases q
              · cases q
                exact ⟨by show a < sk b n (t_n b n 4 0 a).2; omega, sk_le n2, sk_sk, by show a + 1 ≤ sk b n (t_n b n 4 0 a).2 + 0; omega⟩
      · rw [if_neg c1]
        by_cases c2 : t_c b n a = 40
        · rw [if_pos c2]
          have hl := t_c_in c2 (by omega)
          have hsk := sk_ge (b := b) (n := n) (a := a + 1)
          have hle := sk_le (b := b) (show a + 1 ≤ n by omega)
          by_cases c3 : 6 ≤ o
          · rw [if_pos c3]; exact ⟨Or.inr (Or.inr rfl), h3⟩
          · rw [if_neg c3]
            have := up 3 (o + 1) (sk b n (a + 1)) (by unfold pc; omega) (by omega) hle (by omega)
            rcases q : pq b n kd m 3 (o + 1) (sk b n (a + 1)) 0 0 with e | r
            · rw [q] at this; exact this
            · rw [q] at this
              obtain ⟨r1, r2, r3, r4⟩ := this
              exact p_sg_G (by omega) (by omega) r2 (by omega)
        · rw [if_neg c2]
          have two : ∀ w op, w.length = 3 → isW b n a w = true → pG b n 0 a (pq b n kd m 6 o (sk b n (a + 3)) 0 op) := by
            intro w op hw hW
            obtain ⟨l1, -, -⟩ := isW_l hW
            rw [hw] at l1
            have := pq_G m 6 o (sk b n (a + 3)) 0 op (by omega) (by unfold pc; omega) h2 (sk_le l1) (Nat.zero_le _)
            rw [if_neg (by omega)] at this
            exact mono this (by have := sk_ge (b := b) (n := n) (a := a + 3); omega)
          have ano : ∀ w op, w.length = 5 → isW b n a w = true → pG b n 0 a (pq b n kd m 7 o (sk b n (a + 5)) a op) := by
            intro w op hw hW
            obtain ⟨l1, -, -⟩ := isW_l hW
            rw [hw] at l1
            have := pq_G m 7 o (sk b n (a + 5)) a op (by omega) (by unfold pc; omega) h2 (sk_le l1) h3
            rw [if_pos rfl] at this
            have hsk := sk_ge (b := b) (n := n) (a := a + 5)
            rcases q : pq b n kd m 7 o (sk b n (a + 5)) a op with e | r
            · rw [q] at this; exact this
            · rw [q] at this
              obtain ⟨r1, r2, r3, r4⟩ := this
              exact ⟨by show a < r.1; omega, r2, r3, by show a + r.2.length ≤ r.1 + 0; omega⟩
          by_cases c3 : isW b n a w_min = true
          · rw [if_pos c3]; exact two w_min _ rfl c3
          · rw [if_neg c3]
            by_cases c4 : isW b n a w_max = true
            · rw [if_pos c4]; exact two w_max _ rfl c4
            · rw [if_neg c4]
              by_cases c5 : kd = 3 ∧ isW b n a w_likes = true
              · rw [if_pos c5]; exact ano w_likes _ rfl c5.2
              · rw [if_neg c5]
                by_cases c6 : kd = 3 ∧ isW b n a w_knows = true
                · rw [if_pos c6]; exact ano w_knows _ rfl c6.2
                · rw [if_neg c6]
                  unfold p_wd
                  rcases q : t_in b n a (pws kd) 0 with _ | k
                  · exact ⟨Or.inl rfl, h3⟩
                  · show pG b n 0 a (if b_k (pmk kd) k = 1 then .inr (sk b n (a + wl b n a), [10000 + k]) else .inl (1, a))
                    by_cases c7 : b_k (pmk kd) k = 1
                    · rw [if_pos c7]
                      have hw := (t_in_lt q).2.1
                      have hle := wl_le (b := b) h3
                      have hsk := sk_ge (b := b) (n := n) (a := a + wl b n a)
                      exact ⟨by show a < sk b n (a + wl b n a); omega, sk_le hle, sk_sk, by show a + 1 ≤ sk b n (a + wl b n a) + 0; omega⟩
                    · rw [if_neg c7]; exact ⟨Or.inl rfl, h3⟩
    | 6, h1, hk7 =>
      unfold pc at h1
      rw [if_neg (by omega)]
      show pG b n 0 a (qq_6 b n kd (pq b n kd m) o a hr op)
      unfold qq_6
      by_cases c1 : t_c b n a = 40
      · rw [if_pos c1]
        have hl := t_c_in c1 (by omega)
        have hsk := sk_ge (b := b) (n := n) (a := a + 1)
        have hle := sk_le (b := b) (show a + 1 ≤ n by omega)
        by_cases c3 : 6 ≤ o
        · rw [if_pos c3]; exact ⟨Or.inr (Or.inr rfl), h3⟩
        · rw [if_neg c3]
          have := up 3 (o + 1) (sk b n (a + 1)) (by unfold pc; omega) (by omega) hle (by omega)
          rcases q : pq b n kd m 3 (o + 1) (sk b n (a + 1)) 0 0 with e | r
          · rw [q] at this; exact this
          · rw [q] at this
            obtain ⟨r1, r2, r3, r4⟩ := this
            show pG b n 0 a (if t_c b n r.1 = 44 then pB (pq b n kd m 3 (o + 1) (sk b n (r.1 + 1)) 0 0) (fun a2 c2 => p_sg b n 41 a2 (r.2 ++ c2 ++ [op])) else .inl (1, r.1))
            by_cases c4 : t_c b n r.1 = 44
            · rw [if_pos c4]
              have hl2 := t_c_in c4 (by omega)
              have hsk2 := sk_ge (b := b) (n := n) (a := r.1 + 1)
              have this2 := up 3 (o + 1) (sk b n (r.1 + 1)) (by unfold pc; omega) (by omega) (sk_le hl2) (by omega)
              rcases q2 : pq b n kd m 3 (o + 1) (sk b n (r.1 + 1)) 0 0 with e | z
              · rw [q2] at this2; exact this2
              · rw [q2] at this2
                obtain ⟨z1, z2, z3, z4⟩ := this2
                exact p_sg_G (by omega) (by omega) z2 (by rw [List.length_append, List.length_append]; show a + (r.2.length + z.2.length + 1) ≤ z.1 + 1; omega)
            · rw [if_neg c4]; exact ⟨Or.inl rfl, r2⟩
      · rw [if_neg c1]; exact ⟨Or.inl rfl, h3⟩
    | k + 7, h1, hk7 =>
      have hx : pG b n 1 a (pq b n kd (m + 1) (k + 7) o a hr op) := by
        unfold pc at h1
        show pG b n 1 a (if 6 ≤ o then .inl (4, hr) else pB (pq b n kd m 5 (o + 1) a 0 0) (fun a1 c1 => .inr (a1, c1 ++ [op])))
        by_cases c3 : 6 ≤ o
        · rw [if_pos c3]; exact ⟨Or.inr (Or.inr rfl), h4⟩
        · rw [if_neg c3]
          have := up 5 (o + 1) a (by unfold pc; omega) (by omega) h3 (by omega)
          rcases q : pq b n kd m 5 (o + 1) a 0 0 with e | r
          · rw [q] at this; exact this
          · rw [q] at this
            obtain ⟨r1, r2, r3, r4⟩ := this
            exact ⟨r1, r2, r3, by show a + (r.2 ++ [op]).length ≤ _; rw [List.length_append]; show a + (r.2.length + 1) ≤ r.1 + 1; omega⟩
      rw [if_pos (by omega)]
      exact hx
end B65
