/-! what TEST and SUM make is well made -/
section B80
variable {b : Nat → Nat} {n a kd : Nat}
def cok (kd op : Nat) : Prop := op < 10000 ∨ (∃ k, k < 9 ∧ op = 10000 + k ∧ b_k (pmk kd) k = 1) ∨ (20001 ≤ op ∧ op ≤ 20011) ∨ op = 30001 ∨ (kd = 3 ∧ (op = 30002 ∨ op = 30003))
def wN (N : Nat) (tt : Bool) (kd : Nat) (cs : List Nat) : Prop := (∀ fl : List Bool, fl.length + N ≤ 40 → ∃ t, (tt = true → t = true) ∧ w_run cs fl = some (t :: fl)) ∧ ∀ op ∈ cs, cok kd op
theorem w_run_app : ∀ (l1 l2 : List Nat) (fl f1 : List Bool), w_run l1 fl = some f1 → w_run (l1 ++ l2) fl = w_run l2 f1
  | [], l2, fl, f1, h => by cases h; rfl
  | op :: l1, l2, fl, f1, h => by
    have h : (match w_step op fl with | some f1 => w_run l1 f1 | none => none) = some f1 := h
    show (match w_step op fl with | some f1 => w_run (l1 ++ l2) f1 | none => none) = _
    rcases q : w_step op fl with _ | f2
    · rw [q] at h; cases h
    · rw [q] at h
      exact w_run_app l1 l2 f2 f1 h
theorem wN_mono {N N' : Nat} {tt : Bool} {cs : List Nat} (h : wN N tt kd cs) (hN : N ≤ N') : wN N' tt kd cs := ⟨fun fl hf => h.1 fl (by omega), h.2⟩
theorem wN_f {N : Nat} {cs : List Nat} {tt : Bool} (h : wN N tt kd cs) : wN N false kd cs := ⟨fun fl hf => (h.1 fl hf).imp (fun t ht => ⟨fun q => (by cases q), ht.2⟩), h.2⟩
/-- one that is put -/
theorem wN_put {op : Nat} {tt : Bool} (h : op < 20000) (ht : tt = true → op = 0 ∨ op = 1) (hc : cok kd op) : wN 1 tt kd [op] := by
  refine ⟨fun fl hf => ⟨(op = 0 ∨ op = 1 : Bool), fun q => decide_eq_true (ht q), ?_⟩, fun x hx => by rw [List.mem_singleton.mp hx]; exact hc⟩
  have : w_step op fl = some ((op = 0 ∨ op = 1 : Bool) :: fl) := by
    unfold w_step
    rw [if_pos h, if_pos (by omega)]
  show (match w_step op fl with | some f1 => w_run [] f1 | none => none) = _
  rw [this]; rfl
/-- two that are joined -/
theorem wN_two {N op : Nat} {t1 tt : Bool} {c1 c2 : List Nat} (h1 : wN (N + 1) t1 kd c1) (h2 : wN N t1 kd c2) (ho : 20001 ≤ op ∧ op ≤ 20011) (ht : (op ≤ 20006 ∧ tt = false) ∨ (20007 ≤ op ∧ op ≤ 20009) ∨ (20010 ≤ op ∧ t1 = true)) : wN (N + 1) tt kd (c1 ++ c2 ++ [op]) := by
  refine ⟨fun fl hf => ?_, fun x hx => ?_⟩
  · obtain ⟨a1, p1, p2⟩ := h1.1 fl hf
    obtain ⟨a2, q1, q2⟩ := h2.1 (a1 :: fl) (by rw [List.length_cons]; omega)
    have e : w_run (c1 ++ c2 ++ [op]) fl = w_run [op] (a2 :: a1 :: fl) := by
      rw [List.append_assoc, w_run_app c1 _ fl _ p2, w_run_app c2 _ _ _ q2]
    rw [e]
    show ∃ t, (tt = true → t = true) ∧ (match w_step op (a2 :: a1 :: fl) with | some f1 => w_run [] f1 | none => none) = some (t :: fl)
    unfold w_step
    rw [if_neg (by omega), if_pos (by omega)]
    show ∃ t, (tt = true → t = true) ∧ (match (if 20001 ≤ op ∧ op ≤ 20006 then some (false :: fl) else if 20007 ≤ op ∧ op ≤ 20009 then some (true :: fl) else if (20010 ≤ op ∧ op ≤ 20011) ∧ a1 = true ∧ a2 = true then some (true :: fl) else none) with | some f1 => w_run [] f1 | none => none) = some (t :: fl)
    rcases ht with ⟨z1, z2⟩ | z | ⟨z1, z2⟩
    · rw [if_pos (by omega)]
      exact ⟨false, fun q => (by rw [z2] at q; cases q), rfl⟩
    · rw [if_neg (by omega), if_pos z]
      exact ⟨true, fun _ => rfl, rfl⟩
    · rw [if_neg (by omega), if_neg (by omega), if_pos ⟨by omega, p1 z2, q1 z2⟩]
      exact ⟨true, fun _ => rfl, rfl⟩
  · rcases List.mem_append.mp hx with q | q
    · rcases List.mem_append.mp q with q | q
      · exact h1.2 x q
      · exact h2.2 x q
    · rw [List.mem_singleton.mp q]
      exact Or.inr (Or.inr (Or.inl ho))
/-- one that is turned -/
theorem wN_one {N op : Nat} {t1 tt : Bool} {c1 : List Nat} (h1 : wN N t1 kd c1) (ho : (op = 30001 ∧ t1 = true) ∨ ((op = 30002 ∨ op = 30003) ∧ tt = false ∧ kd = 3)) : wN N tt kd (c1 ++ [op]) := by
  refine ⟨fun fl hf => ?_, fun x hx => ?_⟩
  · obtain ⟨a1, p1, p2⟩ := h1.1 fl hf
    rw [w_run_app c1 _ fl _ p2]
    show ∃ t, (tt = true → t = true) ∧ (match w_step op (a1 :: fl) with | some f1 => w_run [] f1 | none => none) = some (t :: fl)
    unfold w_step
    rw [if_neg (by omega), if_neg (by omega), if_pos (by omega)]
    show ∃ t, (tt = true → t = true) ∧ (match (if op = 30001 then (if a1 = true then some (true :: fl) else none) else some (false :: fl)) with | some f1 => w_run [] f1 | none => none) = some (t :: fl)
    rcases ho with ⟨z1, z2⟩ | ⟨z1, z2, z3⟩
    · rw [if_pos z1, if_pos (p1 z2)]
      exact ⟨true, fun _ => rfl, rfl⟩
    · rw [if_neg (by omega)]
      exact ⟨false, fun q => (by rw [z2] at q; cases q), rfl⟩
  · rcases List.mem_append.mp hx with q | q
    · exact h1.2 x q
    · rw [List.mem_singleton.mp q]
      rcases ho with z | z
      · exact Or.inr (Or.inr (Or.inr (Or.inl z.1)))
      · exact Or.inr (Or.inr (Or.inr (Or.inr ⟨z.2.2, z.1⟩)))
def wRr (N : Nat) (tt : Bool) (kd : Nat) (r : pR) : Prop := ∀ q, r = .inr q → wN N tt kd q.2
theorem wR_b {N N' : Nat} {t1 tt : Bool} {r : pR} {f : Nat → List Nat → pR} (h : wRr N t1 kd r) (hf : ∀ a1 c1, wN N t1 kd c1 → wRr N' tt kd (f a1 c1)) : wRr N' tt kd (pB r f) := by
  rcases r with e | q
  · intro q h; cases h
  · exact hf q.1 q.2 (h q rfl)
theorem p_ws_w {N op : Nat} {w : List Nat} {f : Nat → pR} (ho : op = 20010 ∨ op = 20011) (hf : ∀ x, wRr N true kd (f x)) : ∀ g a cs, wN (N + 1) true kd cs → wRr (N + 1) true kd (p_ws b n w op f g a cs)
  | 0, a, cs, h => fun q e => by cases e; exact h
  | g + 1, a, cs, h => by
    show wRr (N + 1) true kd (if isW b n a w = true then pB (f (sk b n (a + w.length))) (fun a1 c1 => p_ws b n w op f g a1 (cs ++ c1 ++ [op])) else .inr (a, cs))
    by_cases c : isW b n a w = true
    · rw [if_pos c]
      exact wR_b (hf _) (fun a1 c1 h1 => p_ws_w ho hf g a1 _ (wN_two h h1 (by omega) (Or.inr (Or.inr ⟨by omega, rfl⟩))))
    · rw [if_neg c]
      exact fun q e => by cases e; exact h
theorem p_ss_w {N s1 o1 s2 o2 : Nat} {f : Nat → pR} (h1 : 20001 ≤ o1 ∧ o1 ≤ 20006) (h2 : 20001 ≤ o2 ∧ o2 ≤ 20006) (hf : ∀ x, wRr N false kd (f x)) : ∀ g a cs, wN (N + 1) false kd cs → wRr (N + 1) false kd (p_ss b n s1 o1 s2 o2 f g a cs)
  | 0, a, cs, h => fun q e => by cases e; exact h
  | g + 1, a, cs, h => by
    show wRr (N + 1) false kd (if t_c b n a = s1 then pB (f (sk b n (a + 1))) (fun a1 c1 => p_ss b n s1 o1 s2 o2 f g a1 (cs ++ c1 ++ [o1])) else if t_c b n a = s2 then pB (f (sk b n (a + 1))) (fun a1 c1 => p_ss b n s1 o1 s2 o2 f g a1 (cs ++ c1 ++ [o2])) else .inr (a, cs))
    by_cases c : t_c b n a = s1
    · rw [if_pos c]
      exact wR_b (hf _) (fun a1 c1 q1 => p_ss_w h1 h2 hf g a1 _ (wN_two h q1 (by omega) (Or.inl ⟨by omega, rfl⟩)))
    rw [if_neg c]
    by_cases c : t_c b n a = s2
    · rw [if_pos c]
      exact wR_b (hf _) (fun a1 c1 q1 => p_ss_w h1 h2 hf g a1 _ (wN_two h q1 (by omega) (Or.inl ⟨by omega, rfl⟩)))
    · rw [if_neg c]
      exact fun q e => by cases e; exact h
theorem p_sg_w {N c : Nat} {tt : Bool} {cs : List Nat} (h : wN N tt kd cs) : wRr N tt kd (p_sg b n c a cs) := by
  unfold p_sg
  by_cases z : t_c b n a = c
  · rw [if_pos z]
    exact fun q e => by cases e; exact h
  · rw [if_neg z]
    exact fun q e => by cases e
def nw (k o : Nat) : Nat := 3 * (6 - o) + max (6 - k) 1
theorem pws_l : ∀ kd, kd < 4 → (pws kd).length = 9 := by decide
theorem wR_n {N : Nat} {tt : Bool} {e : Nat × Nat} : wRr N tt kd (.inl e) := fun q h => by cases h
theorem pq_w (hkd : kd < 4) : ∀ m k o a hr op, k ≤ 7 → o ≤ 6 → (k = 6 → op = 20005 ∨ op = 20006) → (k = 7 → kd = 3 ∧ (op = 30002 ∨ op = 30003)) → wRr (nw k o) (decide (k ≤ 2)) kd (pq b n kd m k o a hr op)
  | 0, k, o, a, hr, op, _, _, _, _ => fun q e => by cases e
  | m + 1, k, o, a, hr, op, hk7, h2, h6, h7 => by
    have up : ∀ k' o' x, o' ≤ 6 → k' < 6 → wRr (nw k' o') (decide (k' ≤ 2)) kd (pq b n kd m k' o' x 0 0) := fun k' o' x q1 q2 => pq_w hkd m k' o' x 0 0 (by omega) q1 (by omega) (by omega)
    match k, hk7, h6, h7 with
    | 0, hk7, h6, h7 =>
      show wRr (nw 0 o) true kd (qq_0 b n kd (pq b n kd m) o a hr op)
      unfold qq_0
      have e : nw 0 o = nw 1 o + 1 := by unfold nw; omega
      rw [e]
      exact wR_b (up 1 o a h2 (by omega)) (fun a1 c1 q => p_ws_w (Or.inr rfl) (fun x => up 1 o x h2 (by omega)) (n + 1) a1 c1 (wN_mono q (by omega)))
    | 1, hk7, h6, h7 =>
      show wRr (nw 1 o) true kd (qq_1 b n kd (pq b n kd m) o a hr op)
      unfold qq_1
      have e : nw 1 o = nw 2 o + 1 := by unfold nw; omega
      rw [e]
      exact wR_b (up 2 o a h2 (by omega)) (fun a1 c1 q => p_ws_w (Or.inl rfl) (fun x => up 2 o x h2 (by omega)) (n + 1) a1 c1 (wN_mono q (by omega)))
    | 2, hk7, h6, h7 =>
      show wRr (nw 2 o) true kd (qq_2 b n kd (pq b n kd m) o a hr op)
      unfold qq_2
      by_cases c1 : isW b n a w_not = true
      · rw [if_pos c1]
        by_cases c2 : 6 ≤ o
        · rw [if_pos c2]; exact wR_n
        · rw [if_neg c2]
          refine wR_b (up 2 (o + 1) (sk b n (a + 3)) (by omega) (by omega)) (fun a1 c1 q => fun z e => ?_)
          cases e
          exact wN_mono (wN_one q (Or.inl ⟨rfl, rfl⟩)) (by unfold nw; omega)
      · rw [if_neg c1]
        by_cases c2 : t_c b n a = 91
        · rw [if_pos c2]
          by_cases c3 : 6 ≤ o
          · rw [if_pos c3]; exact wR_n
          · rw [if_neg c3]
            exact wR_b (up 0 (o + 1) (sk b n (a + 1)) (by omega) (by omega)) (fun a1 c1 q => p_sg_w (wN_mono q (by unfold nw; omega)))
        · rw [if_neg c2]
          by_cases c3 : isW b n a w_all = true
          · rw [if_pos c3]
            intro q e
            cases e
            exact wN_mono (wN_put (by omega) (fun _ => Or.inr rfl) (Or.inl (by omega))) (by unfold nw; omega)
          · rw [if_neg c3]
            refine wR_b (up 3 o a h2 (by omega)) (fun a1 c1 q => ?_)
            rcases z : p_cmp (t_c b n a1) with _ | op'
            · exact wR_n
            · show wRr (nw 2 o) true kd (pB (pq b n kd m 3 o (sk b n (a1 + 1)) 0 0) (fun a2 c2 => .inr (a2, c1 ++ c2 ++ [op'])))
              have hop : 20007 ≤ op' ∧ op' ≤ 20009 := by
                unfold p_cmp at z
                split at z
                · cases z; omega
                · split at z
                  · cases z; omega
                  · split at z
                    · cases z; omega
                    · cases z
              refine wR_b (up 3 o _ h2 (by omega)) (fun a2 c2 q2 => fun y e => ?_)
              cases e
              have e : nw 2 o = nw 3 o + 1 := by unfold nw; omega
              rw [e]
              exact wN_two (wN_mono q (by omega)) q2 (by omega) (Or.inr (Or.inl hop))
    | 3, hk7, h6, h7 =>
      show wRr (nw 3 o) false kd (qq_3 b n kd (pq b n kd m) o a hr op)
      unfold qq_3
      have e : nw 3 o = nw 4 o + 1 := by unfold nw; omega
      rw [e]
      exact wR_b (up 4 o a h2 (by omega)) (fun a1 c1 q => p_ss_w (by omega) (by omega) (fun x => up 4 o x h2 (by omega)) (n + 1) a1 c1 (wN_mono q (by omega)))
    | 4, hk7, h6, h7 =>
      show wRr (nw 4 o) false kd (qq_4 b n kd (pq b n kd m) o a hr op)
      unfold qq_4
      have e : nw 4 o = nw 5 o + 1 := by unfold nw; omega
      rw [e]
      exact wR_b (up 5 o a h2 (by omega)) (fun a1 c1 q => p_ss_w (by omega) (by omega) (fun x => up 5 o x h2 (by omega)) (n + 1) a1 c1 (wN_mono q (by omega)))
    | 5, hk7, h6, h7 =>
      show wRr (nw 5 o) false kd (qq_5 b n kd (pq b n kd m) o a hr op)
      unfold qq_5
      by_cases c1 : isD (t_c b n a) = true
      · rw [if_pos c1]
        rcases q : p_num b n 0 9999 a with e | r
        · exact wR_n
        · intro z e
          cases e
          have : r.1 ≤ 9999 := by
            unfold p_num at q
            split at q
            · cases q
            · split at q
              · cases q
              · split at q
                · cases q
                · cases q; omega
          exact wN_mono (wN_put (by omega) (fun q => by cases q) (Or.inl (by omega))) (by unfold nw; omega)
      · rw [if_neg c1]
        by_cases c2 : t_c b n a = 40
        · rw [if_pos c2]
          by_cases c3 : 6 ≤ o
          · rw [if_pos c3]; exact wR_n
          · rw [if_neg c3]
            exact wR_b (up 3 (o + 1) (sk b n (a + 1)) (by omega) (by omega)) (fun a1 c1 q => p_sg_w (wN_mono q (by unfold nw; omega)))
        · rw [if_neg c2]
          have hn65 : nw 6 o = nw 5 o := rfl
          have hn75 : nw 7 o = nw 5 o := rfl
          by_cases c3 : isW b n a w_min = true
          · rw [if_pos c3]
            exact pq_w hkd m 6 o _ 0 20005 (by omega) h2 (by omega) (by omega)
          · rw [if_neg c3]
            by_cases c4 : isW b n a w_max = true
            · rw [if_pos c4]
              exact pq_w hkd m 6 o _ 0 20006 (by omega) h2 (by omega) (by omega)
            · rw [if_neg c4]
              by_cases c5 : kd = 3 ∧ isW b n a w_likes = true
              · rw [if_pos c5]
                exact pq_w hkd m 7 o _ a 30002 (by omega) h2 (by omega) (fun _ => ⟨c5.1, by omega⟩)
              · rw [if_neg c5]
                by_cases c6 : kd = 3 ∧ isW b n a w_knows = true
                · rw [if_pos c6]
                  exact pq_w hkd m 7 o _ a 30003 (by omega) h2 (by omega) (fun _ => ⟨c6.1, by omega⟩)
                · rw [if_neg c6]
                  unfold p_wd
                  rcases q : t_in b n a (pws kd) 0 with _ | k
                  · exact wR_n
                  · show wRr _ _ kd (if b_k (pmk kd) k = 1 then .inr (sk b n (a + wl b n a), [10000 + k]) else .inl (1, a))
                    have hl := (t_in_lt q).1.2
                    rw [pws_l kd hkd] at hl
                    by_cases c7 : b_k (pmk kd) k = 1
                    · rw [if_pos c7]
                      intro z e
                      cases e
                      exact wN_mono (wN_put (by omega) (fun q => by cases q) (Or.inr (Or.inl ⟨k, by omega, rfl, c7⟩))) (by unfold nw; omega)
                    · rw [if_neg c7]; exact wR_n
    | 6, hk7, h6, h7 =>
      show wRr (nw 6 o) false kd (qq_6 b n kd (pq b n kd m) o a hr op)
      unfold qq_6
      by_cases c1 : t_c b n a = 40
      · rw [if_pos c1]
        by_cases c3 : 6 ≤ o
        · rw [if_pos c3]; exact wR_n
        · rw [if_neg c3]
          refine wR_b (up 3 (o + 1) (sk b n (a + 1)) (by omega) (by omega)) (fun a1 c1 q => ?_)
          by_cases c4 : t_c b n a1 = 44
          · rw [if_pos c4]
            refine wR_b (up 3 (o + 1) (sk b n (a1 + 1)) (by omega) (by omega)) (fun a2 c2 q2 => p_sg_w ?_)
            have e : nw 6 o = nw 3 (o + 1) + 1 := by unfold nw; omega
            rw [e]
            have := h6 rfl
            exact wN_two (wN_mono q (by omega)) q2 (by omega) (Or.inl ⟨by omega, rfl⟩)
          · rw [if_neg c4]; exact wR_n
      · rw [if_neg c1]; exact wR_n
    | 7, hk7, h6, h7 =>
      show wRr (nw 7 o) false kd (if 6 ≤ o then .inl (4, hr) else pB (pq b n kd m 5 (o + 1) a 0 0) (fun a1 c1 => .inr (a1, c1 ++ [op])))
      by_cases c3 : 6 ≤ o
      · rw [if_pos c3]; exact wR_n
      · rw [if_neg c3]
        refine wR_b (up 5 (o + 1) a (by omega) (by omega)) (fun a1 c1 q => fun z e => ?_)
        cases e
        have := h7 rfl
        exact wN_mono (wN_one q (Or.inr ⟨this.2, rfl, this.1⟩)) (by unfold nw; omega)
    | k + 8, hk7, h6, h7 => omega
theorem wN_ok {N : Nat} {tt : Bool} {cs : List Nat} (h : wN N tt kd cs) (hN : N ≤ 40) : w_ok cs tt ∧ ∀ op ∈ cs, cok kd op := by
  obtain ⟨t, h1, h2⟩ := h.1 [] (by show 0 + N ≤ 40; omega)
  exact ⟨⟨t, h2, h1⟩, h.2⟩
/-- a whole SUM, a whole TEST -/
theorem pq_ok (hkd : kd < 4) {m k : Nat} (hk : k = 0 ∨ k = 3) {q : Nat × List Nat} (h : pq b n kd m k 0 a 0 0 = .inr q) : w_ok q.2 (decide (k = 0)) ∧ ∀ op ∈ q.2, cok kd op := by
  have h1 := pq_w (b := b) (n := n) hkd m k 0 a 0 0 (by omega) (by omega) (by omega) (by omega) q h
  rcases hk with rfl | rfl
  · exact wN_ok h1 (by decide)
  · exact wN_ok h1 (by decide)
end B80
