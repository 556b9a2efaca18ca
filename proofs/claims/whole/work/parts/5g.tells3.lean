/-! tells: the reference; both -/
section B5g
variable {I I0 : Nat → Nat → Int32} {L L0 : Nat → Nat → Int64} {ρ : zRh} {h : zH} {A : aT} {N : Nat} {C : cT} {s : sT} {V : vT}
theorem q_p_ok {a S n : Nat} (hn : n ≤ 30) : ∀ (m p : Nat) (F : gT), okF F → okF (q_p A a S n m p F) ∧ (F.2 ≤ 10 ∨ 1 ≤ m → (q_p A a S n m p F).2 ≤ 10)
  | 0, p, F, h => ⟨h, fun h2 => by
    rcases h2 with h2 | h2
    · exact h2
    · omega⟩
  | m + 1, p, F, h => by
    obtain ⟨q1, q2⟩ := q_st_ok (A := A) (a := a) (S := S) (n := n) (p := p) hn h
    obtain ⟨r1, r2⟩ := q_p_ok hn m (p + 1) (q_st A a S n p F) q1
    exact ⟨r1, fun _ => r2 (Or.inl q2)⟩
theorem q_n_ok {a S : Nat} (hP : 1 ≤ k_L (a_C A) + k_R (a_C A)) : ∀ (m n : Nat) (F : gT), n + m ≤ 31 → okF F → okF (q_n A a S m n F) ∧ (F.2 ≤ 10 ∨ 1 ≤ m → (q_n A a S m n F).2 ≤ 10)
  | 0, n, F, _, h => ⟨h, fun h2 => by
    rcases h2 with h2 | h2
    · exact h2
    · omega⟩
  | m + 1, n, F, hm, h => by
    obtain ⟨q1, q2⟩ := q_p_ok (A := A) (a := a) (S := S) (n := n) (by omega) (k_L (a_C A) + k_R (a_C A)) 0 F h
    obtain ⟨r1, r2⟩ := q_n_ok hP m (n + 1) _ (by omega) q1
    exact ⟨r1, fun _ => r2 (Or.inl (q2 (Or.inr hP)))⟩
def f3 (F : gT) : Int32 × Int32 × Int32 := if F.2 = 11 then (-1, -1, 0) else (F.1.1, F.1.2, nI F.2)
abbrev f4 (F : gT) (k : Nat) : Int32 × Int32 × Int32 × Int32 := ((f3 F).1, (f3 F).2.1, (f3 F).2.2, nI k)
theorem X12_tell_p (hok : okA A) (hM : RelM I L A) {a S n : Nat} {v2 : Int32} {r41 : Int32 × Int32 × Int32 × Int32 → zM} (hS : S < 1024) (hn : n ≤ 30) (hwy : wyM I A a 10) : ∀ (m p fuel : Nat) (F : gT), p + m = k_L (a_C A) + k_R (a_C A) → m < fuel → okF F → z_fix (fun r x => X12_tells_B60 r41 215 v2 (nI S) (nI n) r x.1 x.2.1 x.2.2.1 x.2.2.2) fuel (f4 F p) (hp I L ρ) = r41 (f4 (q_p A a S n m p F) (n + 1)) (hp I L ρ) := by
  have hk := hok.1
  have h12 := hk.1
  intro m
  induction m with
  | zero =>
    intro p fuel F h1 h2 h3
    obtain ⟨f, rfl⟩ : ∃ f, fuel = f + 1 := ⟨fuel - 1, by omega⟩
    rw [h_fix]
    show X12_tells_B60 r41 215 v2 (nI S) (nI n) _ (f3 F).1 (f3 F).2.1 (f3 F).2.2 (nI p) (hp I L ρ) = _
    unfold X12_tells_B60 X12_tells_J114
    rw [rc_215, h_ci (X12_peopleMany_h hM.1), h_if, if_pos (nI_le (by omega) (by omega)), nI_1]; rfl
  | succ m ih =>
    intro p fuel F h1 h2 h3
    obtain ⟨f, rfl⟩ : ∃ f, fuel = f + 1 := ⟨fuel - 1, by omega⟩
    have ht2 : t_of A a S n p ≤ 10 := t_most_le S (g_p A a n p)
    have hma : X12_mostAlike 215 (nI S) (nI n) (nI p) (hp I L ρ) = some (some (.int (nI (t_of A a S n p))), hp I L ρ) := X12_most_lp hk hS hn (by omega) hwy 10 0 zFU (by omega) (by unfold zFU; omega)
    obtain ⟨q1, q2⟩ := q_st_ok (A := A) (a := a) (S := S) (n := n) (p := p) hn h3
    have hi := ih (p + 1) f (q_st A a S n p F) (by omega) (by omega) q1
    rw [h_fix]
    generalize hg : z_fix (fun r x => X12_tells_B60 r41 215 v2 (nI S) (nI n) r x.1 x.2.1 x.2.2.1 x.2.2.2) f = rec at hi
    show X12_tells_B60 r41 215 v2 (nI S) (nI n) rec (f3 F).1 (f3 F).2.1 (f3 F).2.2 (nI p) (hp I L ρ) = r41 (f4 (q_p A a S n m (p + 1) (q_st A a S n p F)) (n + 1)) (hp I L ρ)
    rw [← hi]
    unfold X12_tells_B60 X12_tells_J96 X12_tells_J108
    rw [rc_215, h_ci (X12_peopleMany_h hM.1), h_if, if_neg (nI_ge (by omega) (by omega)), rc_215, h_ci hma, h_if, nI_1]
    rcases h3 with ⟨g1, g2⟩ | ⟨g1, n0, g2, g3⟩
    · have e3 : f3 F = (-1, -1, 0) := if_pos g1
      have e4 : q_st A a S n p F = ((nI n, nI p), t_of A a S n p) := if_pos (by omega)
      have e5 : f3 ((nI n, nI p), t_of A a S n p) = (nI n, nI p, nI (t_of A a S n p)) := if_neg (show ¬ t_of A a S n p = 11 by omega)
      rw [e4, e3, if_pos rfl]
      show _ = rec ((f3 ((nI n, nI p), t_of A a S n p)).1, (f3 ((nI n, nI p), t_of A a S n p)).2.1, (f3 ((nI n, nI p), t_of A a S n p)).2.2, nI (p + 1)) _
      rw [e5]
    · have e3 : f3 F = (F.1.1, F.1.2, nI F.2) := if_neg (by omega)
      rw [e3, if_neg (show ¬ F.1.1 = -1 by rw [g3]; exact nI_nm1 (by omega)), h_if]
      by_cases c : t_of A a S n p < F.2
      · have e4 : q_st A a S n p F = ((nI n, nI p), t_of A a S n p) := if_pos c
        have e5 : f3 ((nI n, nI p), t_of A a S n p) = (nI n, nI p, nI (t_of A a S n p)) := if_neg (show ¬ t_of A a S n p = 11 by omega)
        rw [if_pos (show nI (t_of A a S n p) < nI F.2 from nI_lt c (by omega)), e4]
        show _ = rec ((f3 ((nI n, nI p), t_of A a S n p)).1, (f3 ((nI n, nI p), t_of A a S n p)).2.1, (f3 ((nI n, nI p), t_of A a S n p)).2.2, nI (p + 1)) _
        rw [e5]
      · have e4 : q_st A a S n p F = F := if_neg c
        rw [if_neg (show ¬ nI (t_of A a S n p) < nI F.2 from fun e => c ((nI_lt' (by omega) (by omega)).mp e)), e4]
        show _ = rec ((f3 F).1, (f3 F).2.1, (f3 F).2.2, nI (p + 1)) _
        rw [e3]
theorem can_30 (hok : okA A) {n : Nat} (h0 : 1 ≤ n) (hn : n < 1000) : p_can A (nI n) 1 30 = decide (n ≤ l_30 A) := by
  have hc := cnt_le hok
  unfold p_can l_30
  rw [nI_toI (by omega)]
  by_cases c : n ≤ 30 ∧ n + s_cnt (a_C A) (a_s A) < 1000 * k_rt (a_C A)
  · rw [decide_eq_true (by omega), decide_eq_true (by split <;> omega)]
  · rw [decide_eq_false (by omega), decide_eq_false (by split <;> omega)]
theorem X12_tell_n (hok : okA A) (hM : RelM I L A) {a S : Nat} {v2 : Int32} (hS : S < 1024) (hS0 : S ≠ 0) (hwy : wyM I A a 10) : ∀ (m n fuel : Nat) (F : gT), n + m = l_30 A + 1 → 1 ≤ n → m < fuel → okF F → z_fix (fun r x => X12_tells_B41 215 v2 (nI S) r x.1 x.2.1 x.2.2.1 x.2.2.2) fuel (f4 F n) (hp I L ρ) = X12_tells_J120 v2 (f3 (q_n A a S m n F)).1 (f3 (q_n A a S m n F)).2.1 (f3 (q_n A a S m n F)).2.2 (hp I L ρ) := by
  have hk := hok.1
  have hl30 : l_30 A ≤ 30 := by unfold l_30; split <;> omega
  have hSn : ¬ nI S = 0 := fun e => hS0 ((nI_inj (b := 0) (by omega) (by omega)).mp e)
  have eM : ∀ n : Nat, 1 ≤ n → n < 1000 → X12_isAhead 215 (nI n) 1 30 (hp I L ρ) = some (some (.int (bI (decide (n ≤ l_30 A)))), hp I L ρ) := fun n h1 h2 => by
    rw [← can_30 hok h1 h2]
    exact X12_ahead_h hok hM (lo := 1) (hi := 30) (by omega) (nI n)
  intro m
  induction m with
  | zero =>
    intro n fuel F h1 h0 h2 h3
    obtain ⟨f, rfl⟩ : ∃ f, fuel = f + 1 := ⟨fuel - 1, by omega⟩
    rw [h_fix]
    show X12_tells_B41 215 v2 (nI S) _ (f3 F).1 (f3 F).2.1 (f3 F).2.2 (nI n) (hp I L ρ) = _
    unfold X12_tells_B41
    rw [h_if, if_neg hSn, rc_215, h_ci (eM n h0 (by omega)), decide_eq_false (by omega), bF, h_if, if_pos rfl]; rfl
  | succ m ih =>
    intro n fuel F h1 h0 h2 h3
    obtain ⟨f, rfl⟩ : ∃ f, fuel = f + 1 := ⟨fuel - 1, by omega⟩
    rw [h_fix]
    generalize hg : z_fix (fun r x => X12_tells_B41 215 v2 (nI S) r x.1 x.2.1 x.2.2.1 x.2.2.2) f = rec
    have e1 := X12_tell_p (ρ := ρ) (v2 := v2) (r41 := rec) hok hM (a := a) hS (n := n) (by omega) hwy (k_L (a_C A) + k_R (a_C A)) 0 zFU F (by omega) (by have := hk.1; unfold zFU; omega) h3
    have h4 := (q_p_ok (A := A) (a := a) (S := S) (n := n) (by omega) (k_L (a_C A) + k_R (a_C A)) 0 F h3).1
    have hi := ih (n + 1) f _ (by omega) (by omega) (by omega) h4
    show X12_tells_B41 215 v2 (nI S) rec (f3 F).1 (f3 F).2.1 (f3 F).2.2 (nI n) (hp I L ρ) = _
    unfold X12_tells_B41
    rw [h_if, if_neg hSn, rc_215, h_ci (eM n h0 (by omega)), decide_eq_true (by omega), h_if, if_neg (by decide)]
    rw [hg] at hi
    exact e1.trans hi
def r_tl (A : aT) (a j : Nat) : Int32 := if z_left A a ≠ 0 ∧ 1 ≤ l_30 A then (if j = 0 then (q_end A a (z_left A a)).1.1 else if j = 1 then (q_end A a (z_left A a)).1.2 else nI (q_end A a (z_left A a)).2) else -1
theorem tells_b (hok : okA A) (v w : Int32) : both (X11_tells 0 v w) (X12_tells 215 v w) A N := by
  have hk := hok.1
  have h12 := hk.1
  have hl30 : l_30 A ≤ 30 := by unfold l_30; split <;> omega
  rcases k_sl_c hk v with ⟨q, q1⟩ | ⟨a, p, q, rfl, q1, q2, q3, q4, q5⟩
  · refine both_still hok (.int (-1)) (fun I L ρ hX => ?_) (fun I L ρ hM => ?_)
    · unfold X11_tells
      rw [gr_0_5, rcc (cu_ρ hX), h_ci (XC_slot hX hk _), q, oI_none, h_if, if_pos rfl]; rfl
    · unfold X12_tells
      rw [rc_215, h_ci (X12_isPerson_v hk hM.1 _), q, bI_none, h_if, if_pos rfl]; rfl
  · by_cases c1 : 0 ≤ w.toInt ∧ w.toInt ≤ 2
    · obtain ⟨j, hj9, rfl⟩ := Int32_in9 (v := w) (by omega)
      rw [nI_toI (by omega)] at c1
      have hj : j ≤ 2 := by omega
      have hSl := z_left_lt A a
      have hqn := q_n_ok (A := A) (a := a) (S := z_left A a) (by omega) (l_30 A) 1 ((-1, -1), 11) (by omega) (Or.inl ⟨rfl, rfl⟩)
      refine both_thinks hok (.int (r_tl A a j)) (fun I L ρ hX => ?_) (fun I L ρ hM => ?_)
      · obtain ⟨I1, e1, e2, e3⟩ := X0_sizes_h (L := L) (ρ := ρ) hok hX q5
        obtain ⟨I2, f1, f2, f3⟩ := X0_telling_h (L := L) (ρ := ρ) hok e3 q5 hSl
        refine ⟨I2, ?_, fun x hx => by rw [f2 x hx, e2 x (l61 hx)]⟩
        unfold X11_tells r_tl
        rw [gr_0_5, rcc (cu_ρ hX), h_ci (XC_slot hX hk _), q, oI_some, h_if, if_neg (nI_nm1 (by omega)), h_if, if_neg (show ¬ nI j < 0 by rw [v_neg, nI_toI (by omega)]; omega), h_if, if_pos (show nI j ≤ (2 : Int32) from nI_le (b := 2) hj (by omega)), gr_0_9, gr_0_7, gr_0_12, gi_0, hX.2.2.2.2.1.1, rc_53, h_ci e1, gr_0_9, gr_0_7, rc_53, h_ci f1, h_if]
        by_cases c : z_left A a ≠ 0 ∧ 1 ≤ l_30 A
        · obtain ⟨⟨g0, g1, g2⟩, -⟩ := f3 c.1 c.2
          rw [decide_eq_true c, if_neg (by decide), if_pos c, gr_0_9, gr_53_1, la_61 (by omega), h_ret]
          have hc : j = 0 ∨ j = 1 ∨ j = 2 := by omega
          rcases hc with rfl | rfl | rfl
          · rw [if_pos rfl, g0]
          · rw [if_neg (by omega), if_pos rfl, g1]
          · rw [if_neg (by omega), if_neg (by omega), g2]
        · rw [decide_eq_false c, bF, if_pos rfl, if_neg c]; rfl
      · obtain ⟨I', L', e1, ⟨e2, e4⟩, e3⟩ := X12_sizeSet_h (ρ := ρ) hok hM q3 q4
        rw [z_left_m hok a] at e1
        refine ⟨I', L', ?_, e2, e3⟩
        unfold X12_tells
        rw [rc_215, h_ci (X12_isPerson_v hk hM.1 _), q, bI_some, h_if, if_neg (by decide), i64_of, show (0 : Int64) = cl 0 from rfl, h_ci (show X12_isIn _ _ 2 _ = _ from X12_isIn_h (b := 2) (i32_in _) (by omega) (by omega)), h_if, decide_eq_true (by rw [nI_toI (by omega)]; omega), if_neg (by decide), rc_215, h_ci e1]
        unfold r_tl
        by_cases cS : z_left A a = 0
        · rw [if_neg (fun e => e.1 cS), cS, show zFU = 999999 + 1 from rfl, h_fix]
          show X12_tells_B41 215 (nI j) (nI 0) _ (-1) (-1) 0 1 (hp I' L' ρ) = _
          unfold X12_tells_B41 X12_tells_J120
          rw [h_if, if_pos (show (nI 0 : Int32) = 0 from rfl), h_if, if_pos rfl]; rfl
        · have hn := X12_tell_n (ρ := ρ) (v2 := nI j) hok e2 hSl cS e4 (l_30 A) 1 zFU ((-1, -1), 11) (by omega) (by omega) (by unfold zFU; omega) (Or.inl ⟨rfl, rfl⟩)
          rw [show (((-1 : Int32), (-1 : Int32), (0 : Int32), (1 : Int32))) = f4 ((-1, -1), 11) 1 from rfl, hn]
          unfold X12_tells_J120
          by_cases cl1 : 1 ≤ l_30 A
          · have h10 := hqn.2 (Or.inr cl1)
            have e5 : f3 (q_n A a (z_left A a) (l_30 A) 1 ((-1, -1), 11)) = ((q_end A a (z_left A a)).1.1, (q_end A a (z_left A a)).1.2, nI (q_end A a (z_left A a)).2) := if_neg (by omega)
            have hne : ¬ (q_end A a (z_left A a)).1.1 = -1 := by
              rcases hqn.1 with h | ⟨-, n0, g2, g3⟩
              · omega
              · show ¬ (q_n A a (z_left A a) (l_30 A) 1 ((-1, -1), 11)).1.1 = -1
                rw [g3]; exact nI_nm1 (by omega)
            rw [e5, if_pos ⟨cS, cl1⟩, h_if, if_neg hne, h_if]
            have hc : j = 0 ∨ j = 1 ∨ j = 2 := by omega
            rcases hc with rfl | rfl | rfl
            · rfl
            · rfl
            · rfl
          · have e0 : l_30 A = 0 := by omega
            rw [e0, if_neg (fun e => by omega)]
            show z_if ((-1 : Int32) = -1) _ _ _ = _
            rw [h_if, if_pos rfl]; rfl
    · refine both_still hok (.int (-1)) (fun I L ρ hX => ?_) (fun I L ρ hM => ?_)
      · unfold X11_tells
        rw [gr_0_5, rcc (cu_ρ hX), h_ci (XC_slot hX hk _), q, oI_some, h_if, if_neg (nI_nm1 (by omega)), h_if]
        by_cases c2 : w < 0
        · rw [if_pos c2]; rfl
        · rw [if_neg c2, h_if]
          obtain ⟨j, hj, rfl⟩ := Int32_of c2
          rw [nI_toI hj] at c1
          rw [if_neg (show ¬ nI j ≤ (2 : Int32) from nI_ge (a := 2) (by omega) (by omega))]; rfl
      · unfold X12_tells
        rw [rc_215, h_ci (X12_isPerson_v hk hM.1 _), q, bI_some, h_if, if_neg (by decide), i64_of, show (0 : Int64) = cl 0 from rfl, h_ci (show X12_isIn _ _ 2 _ = _ from X12_isIn_h (b := 2) (i32_in _) (by omega) (by omega)), h_if, decide_eq_false c1, bF, if_pos rfl]; rfl
end B5g
