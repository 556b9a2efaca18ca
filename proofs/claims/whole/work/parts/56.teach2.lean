/-! teach: the reference's search -/
section B56
variable {I I0 : Nat → Nat → Int32} {L L0 : Nat → Nat → Int64} {ρ : zRh} {h : zH} {A : aT} {N : Nat} {C : cT} {s : sT} {tr : Option Nat}
theorem set_eq (I : Nat → Nat → Int32) (x : Nat) (v : Int32) : (u2 I 255 x v) 255 = fun i => if i = x then v else I 255 i := by
  funext i
  rw [u2_ap]
  by_cases c : i = x
  · rw [if_pos ⟨rfl, c⟩, if_pos c]
  · rw [if_neg (fun q => c q.2), if_neg c]
/-- the thought state is another -/
theorem MT_set (hok : okA A) (hT : thM I I0 L L0 A s) {s' : sT} {x : Nat} {v : Int32} (hx : x < 182 ∧ ¬ (14 ≤ x ∧ x < 26)) (hs : stN (I 255) (a_C A) s → stN (fun i => if i = x then v else I 255 i) (a_C A) s') (hz : s_siz s = s_siz s') : thM (u2 I 255 x v) I0 L L0 A s' := by
  obtain ⟨h1, ⟨f1, f2, f3⟩, h2, ⟨h3, h4⟩, h5, h6⟩ := hT
  have e215 : (u2 I 255 x v) 215 = I 215 := u2r (by decide)
  have e258 : (u2 I 255 x v) 258 = I 258 := u2r (by decide)
  have e248 : (u2 I 255 x v) 248 = I 248 := u2r (by decide)
  refine ⟨h1, ⟨fun a ha hb => by rw [u2r hb]; exact f1 a ha hb, fun k a b c => by rw [e215]; exact f2 k a b c, f3⟩, by rw [e215]; exact h2, ⟨stM_of (by rw [set_eq]; exact hs (stM_N h3)) (fun a ha => by rw [e215, e248, ← hz]; exact stM_sz h3 a ha), ?_⟩, by rw [e258]; exact h5, ?_⟩
  · rw [set_eq]
    intro ht a ha hna
    show (if 14 + a = x then v else I 255 (14 + a)) = -1
    rw [if_neg (by omega)]
    exact h4 ht a ha hna
  · rw [set_eq]
    exact kpM_eq (fun j a b => by rw [if_neg (by omega)]) h6
theorem MT_know (hok : okA A) (hT : thM I I0 L L0 A s) {j : Nat} (hj : j < 72) : thM (u2 I 255 (110 + j) 9) I0 L L0 A (sK s j 9) :=
  MT_set hok hT (by omega) (fun h => stN_K (v := 9) hok.1 h hj) rfl
theorem X12_set_lp (hok : okA A) {a n b O p : Nat} {v5 v4 : Int32} {r46 : Int32 × Int32 → zM} (ha : a < 12) (hb : b < 64) (hO : O ≤ 6) (hside : ∀ {I : Nat → Nat → Int32} {L : Nat → Nat → Int64}, chM I (a_C A) → X12_sideMany 215 v4 (hp I L ρ) = some (some (.int (nI O)), hp I L ρ)) : ∀ (m k fuel : Nat) (I : Nat → Nat → Int32), k + m = O → m < fuel → thM I I0 L L0 A (sTe (a_s A) a b k) → ∃ I', z_fix (fun r x => X12_teach_B84 r46 215 (nI p) (nI n) (nI a) v4 v5 (nI b) r x) fuel (nI k) (hp I L ρ) = X12_teach_J126 r46 215 (nI p) (nI n) (nI a) v4 v5 (nI b) (hp I' L ρ) ∧ thM I' I0 L L0 A (sTe (a_s A) a b O) := by
  intro m
  induction m with
  | zero =>
    intro k fuel I h1 h2 h3
    obtain ⟨f, rfl⟩ : ∃ f, fuel = f + 1 := ⟨fuel - 1, by omega⟩
    obtain rfl : k = O := by omega
    refine ⟨I, ?_, h3⟩
    rw [h_fix]
    show X12_teach_B84 r46 215 (nI p) (nI n) (nI a) v4 v5 (nI b) _ (nI k) (hp I L ρ) = _
    unfold X12_teach_B84
    rw [rc_215, h_ci (hside (thM_ch h3)), h_if, if_pos (nI_le (Nat.le_refl _) (by omega))]
  | succ m ih =>
    intro k fuel I h1 h2 h3
    obtain ⟨f, rfl⟩ : ∃ f, fuel = f + 1 := ⟨fuel - 1, by omega⟩
    rw [h_fix]
    generalize hg : z_fix (fun r x => X12_teach_B84 r46 215 (nI p) (nI n) (nI a) v4 v5 (nI b) r x) f = rec
    have ht := b_test b hb k (by omega)
    show ∃ I', X12_teach_B84 r46 215 (nI p) (nI n) (nI a) v4 v5 (nI b) rec (nI k) (hp I L ρ) = _ ∧ _
    by_cases c : b_k b k = 1
    · have h4 : thM (u2 I 255 (110 + (6 * a + k)) 9) I0 L L0 A (sTe (a_s A) a b (k + 1)) := by
        rw [sTe_s1 _ _ _ _ (by omega) c]
        exact MT_know hok h3 (by omega)
      obtain ⟨I', r1, r2⟩ := ih (k + 1) f _ (by omega) (by omega) h4
      refine ⟨I', ?_, r2⟩
      unfold X12_teach_B84 X12_teach_J120
      rw [rc_215, h_ci (hside (thM_ch h3)), h_if, if_neg (nI_ge (by omega) (by omega)), h_if, if_pos (ht.mpr c), gr_215_52, rc_215, h_ci (X12_knowingAt_h (by omega) (by omega)), show 110 + 6 * a + k % 6 = 110 + (6 * a + k) by omega, sa_255 (by omega), nI_1, ← hg]
      exact r1
    · obtain ⟨I', r1, r2⟩ := ih (k + 1) f I (by omega) (by omega) (by rw [sTe_s0 _ _ _ _ c]; exact h3)
      refine ⟨I', ?_, r2⟩
      unfold X12_teach_B84 X12_teach_J120
      rw [rc_215, h_ci (hside (thM_ch h3)), h_if, if_neg (nI_ge (by omega) (by omega)), h_if, if_neg (fun e => c (ht.mp e)), nI_1, ← hg]
      exact r1
theorem gos_siz (C : cT) : ∀ (n : Nat) (s : sT), s_siz (p_gos C n s) = s_siz s
  | 0, _ => rfl
  | n + 1, s => by rw [p_gos_succ, p_go_siz, gos_siz C n s]
/-- one set of lessons tried -/
theorem X12_try_h (hok : okA A) {a n b O p : Nat} {v4 : Int32} {best : Option Nat} {r46 : Int32 × Int32 → zM} (ha : k_th (a_C A) a) (hp2 : k_num (a_C A) a = p) (hn : n ≤ 40) (hO : O ≤ 6) (hb : b < 2 ^ O) (hside : ∀ {I : Nat → Nat → Int32} {L : Nat → Nat → Int64}, chM I (a_C A) → X12_sideMany 215 v4 (hp I L ρ) = some (some (.int (nI O)), hp I L ρ)) (hT : thM I I0 L L0 A (a_s A)) : ∃ I' L', X12_teach_J81 r46 215 (nI p) (nI n) (nI a) v4 (oI best) (nI b) (hp I L ρ) = r46 (oI (if t_w (a_C A) (a_s A) a n b = true then some b else best), nI (b + 1)) (hp I' L' ρ) ∧ thM I' I0 L' L0 A (a_s A) := by
  have hk := hok.1
  have h999 := hok.2.2.1.2.1
  have ha12 := k_th_lt hk ha
  have hO6 : 2 ^ O ≤ 64 := Nat.pow_le_pow_right (by decide) hO
  obtain ⟨I1, e1, e2⟩ := X12_set_lp (I0 := I0) (L := L) (L0 := L0) (ρ := ρ) (r46 := r46) (v5 := oI best) (n := n) (b := b) (p := p) hok ha12 (by omega) hO hside O 0 zFU I (by omega) (by unfold zFU; omega) (by rw [sTe_0]; exact hT)
  rw [sTe_o _ _ _ _ hO hb] at e2
  have hS := okS_Te hok.2.2.1.1 a b 6
  obtain ⟨I2, L2, f1, f2, f3, f4⟩ := MT_gos (ρ := ρ) hok (n := n) (by omega) hS (by show s_sp (a_s A) + n ≤ 2000; omega) e2
  have hSn := (p_gos_ok hk n hS (by show s_sp (a_s A) + n ≤ 2000; omega)).1
  obtain ⟨I3, g1, g2, g3⟩ := MT_anew (ρ := ρ) (s' := a_s A) hok f2 (szM_eq (gos_siz (a_C A) n (sTe (a_s A) a b 6)) (stM_sz f2.2.2.2.1.1)) (fun f hf => hf)
  refine ⟨I3, L2, ?_, g2⟩
  unfold X12_teach_J81
  rw [show (0 : Int32) = nI 0 from rfl, e1]
  unfold X12_teach_J126 X12_teach_J144 X12_teach_J148 t_w
  rw [rc_215, h_cv f1, rc_215, ← hp2, h_ci (X12_wedTo_h hk (thM_ch f2) f2.2.2.2.1.1 ha), h_if]
  simp only [oI_wed hk hSn]
  by_cases c : s_wed (p_gos (a_C A) n (sTe (a_s A) a b 6)) a = none
  · rw [if_pos c, rc_215, h_cv g1, if_neg (by rw [decide_eq_false (fun e => e c)]; decide), nI_1]
  · rw [if_neg c, rc_215, h_cv g1, if_pos (decide_eq_true c), nI_1]; rfl
theorem X12_teach_lp (hok : okA A) {a n O p : Nat} {v4 : Int32} (ha : k_th (a_C A) a) (hp2 : k_num (a_C A) a = p) (hn : n ≤ 40) (hO : O ≤ 6) (hside : ∀ {I : Nat → Nat → Int32} {L : Nat → Nat → Int64}, chM I (a_C A) → X12_sideMany 215 v4 (hp I L ρ) = some (some (.int (nI O)), hp I L ρ)) : ∀ (m b fuel : Nat) (I : Nat → Nat → Int32) (L : Nat → Nat → Int64), b + m = 2 ^ O → m < fuel → thM I I0 L L0 A (a_s A) → ∃ I' L', z_fix (fun r x => X12_teach_B46 215 (nI p) (nI n) (nI a) v4 r x.1 x.2) fuel (oI (t_best (t_w (a_C A) (a_s A) a n) b), nI b) (hp I L ρ) = some (some (.int (oI (t_best (t_w (a_C A) (a_s A) a n) (2 ^ O)))), hp I' L' ρ) ∧ RelM I' L' A ∧ ∀ x, x < 215 → I' x = I0 x ∧ L' x = L0 x := by
  have hO6 : 2 ^ O ≤ 64 := Nat.pow_le_pow_right (by decide) hO
  intro m
  induction m with
  | zero =>
    intro b fuel I L h1 h2 h3
    obtain ⟨f, rfl⟩ : ∃ f, fuel = f + 1 := ⟨fuel - 1, by omega⟩
    obtain rfl : b = 2 ^ O := by omega
    obtain ⟨I3, g1, g2, g3⟩ := MT_back (ρ := ρ) hok h3
    refine ⟨I3, L, ?_, g2, g3⟩
    rw [h_fix]
    show X12_teach_B46 215 (nI p) (nI n) (nI a) v4 _ (oI _) (nI (2 ^ O)) (hp I L ρ) = _
    unfold X12_teach_B46 X12_teach_J154
    rw [rc_215, h_ci (hside (thM_ch h3)), h_if, b_shl O hO, if_pos (nI_le (Nat.le_refl _) (by omega)), rc_215, h_cv g1]; rfl
  | succ m ih =>
    intro b fuel I L h1 h2 h3
    obtain ⟨f, rfl⟩ : ∃ f, fuel = f + 1 := ⟨fuel - 1, by omega⟩
    rw [h_fix]
    generalize hg : z_fix (fun r x => X12_teach_B46 215 (nI p) (nI n) (nI a) v4 r x.1 x.2) f = rec
    show ∃ I' L', X12_teach_B46 215 (nI p) (nI n) (nI a) v4 rec (oI (t_best (t_w (a_C A) (a_s A) a n) b)) (nI b) (hp I L ρ) = _ ∧ _
    have eb : t_best (t_w (a_C A) (a_s A) a n) (b + 1) = (match t_best (t_w (a_C A) (a_s A) a n) b with | none => if t_w (a_C A) (a_s A) a n b = true then some b else none | some c => if t_w (a_C A) (a_s A) a n b = true ∧ b_pc b < b_pc c then some b else some c) := rfl
    rcases q : t_best (t_w (a_C A) (a_s A) a n) b with _ | c
    · rw [q] at eb
      obtain ⟨I1, L1, e1, e2⟩ := X12_try_h (ρ := ρ) (r46 := rec) (best := none) (b := b) hok ha hp2 hn hO (by omega) hside h3
      obtain ⟨I', L', r1, r2⟩ := ih (b + 1) f I1 L1 (by omega) (by omega) e2
      refine ⟨I', L', ?_, r2⟩
      unfold X12_teach_B46
      rw [rc_215, h_ci (hside (thM_ch h3)), h_if, b_shl O hO, if_neg (nI_ge (by omega) (by omega)), h_if, if_pos oI_none]
      rw [eb, hg] at r1
      exact e1.trans r1
    · rw [q] at eb
      obtain ⟨c1, c2, c3⟩ := t_best_some q
      have hpre : ∀ {rec2 : Int32 × Int32 → zM}, X12_teach_B46 215 (nI p) (nI n) (nI a) v4 rec2 (oI (some c)) (nI b) (hp I L ρ) = z_if (nI (b_pc b) < nI (b_pc c)) (X12_teach_J81 rec2 215 (nI p) (nI n) (nI a) v4 (nI c) (nI b)) (rec2 (nI c, nI b + 1)) (hp I L ρ) := by
        intro rec2
        unfold X12_teach_B46 X12_teach_J148
        rw [rc_215, h_ci (hside (thM_ch h3)), h_if, b_shl O hO, if_neg (nI_ge (by omega) (by omega)), h_if, oI_some, if_neg (nI_nm1 (by omega)), h_ci (X12_bits_h (by omega)), h_ci (X12_bits_h (by omega))]
      have hb1 := b_pc_le 6 (by omega) b (by omega)
      have hc1 := b_pc_le 6 (by omega) c (by omega)
      by_cases d : b_pc b < b_pc c
      · obtain ⟨I1, L1, e1, e2⟩ := X12_try_h (ρ := ρ) (r46 := rec) (best := some c) (b := b) hok ha hp2 hn hO (by omega) hside h3
        obtain ⟨I', L', r1, r2⟩ := ih (b + 1) f I1 L1 (by omega) (by omega) e2
        refine ⟨I', L', ?_, r2⟩
        rw [hpre, h_if, if_pos (nI_lt d (by omega))]
        simp only [d, and_true] at eb
        rw [eb, hg] at r1
        exact e1.trans r1
      · obtain ⟨I', L', r1, r2⟩ := ih (b + 1) f I L (by omega) (by omega) h3
        refine ⟨I', L', ?_, r2⟩
        rw [hpre, h_if, if_neg (fun e => d ((nI_lt' (by omega) (by omega)).mp e)), nI_1]
        simp only [d, and_false, if_false] at eb
        rw [eb, hg] at r1
        exact r1
theorem teach_b (hok : okA A) (v w : Int32) : both (X11_teach 0 v w) (X12_teach 215 v w) A N := by
  have hk := hok.1
  have h12 := hk.1
  rcases k_sl_c hk v with ⟨q, q1⟩ | ⟨a, p, q, rfl, q1, q2, q3, q4, q5⟩
  · refine both_still hok (.int (-1)) (fun I L ρ hX => ?_) (fun I L ρ hM => ?_)
    · unfold X11_teach
      rw [gr_0_5, rcc (cu_ρ hX), h_ci (XC_slot hX hk _), q, oI_none, h_if, if_pos rfl]; rfl
    · unfold X12_teach
      rw [rc_215, h_ci (X12_isPerson_v hk hM.1 _), q, bI_none, h_if, if_pos rfl]; rfl
  · have eX : ∀ {I : Nat → Nat → Int32} {L : Nat → Nat → Int64} {ρ : zRh}, RelX I L ρ A N → X0_canCome 53 41 w 1 40 (hp I L ρ) = some (some (.int (bI (p_can A w 1 40))), hp I L ρ) := fun hX => X0_can_h hok hX (lo := 1) (hi := 40) (by omega) w
    have eM : ∀ {I : Nat → Nat → Int32} {L : Nat → Nat → Int64} {ρ : zRh}, RelM I L A → X12_isAhead 215 w 1 40 (hp I L ρ) = some (some (.int (bI (p_can A w 1 40))), hp I L ρ) := fun hM => X12_ahead_h hok hM (lo := 1) (hi := 40) (by omega) w
    by_cases c : p_can A w 1 40 = true
    · obtain ⟨n, rfl, n1, n2, n3, n4⟩ := can_n hok c
      have hO := k_n_le hk (1 - a / 6)
      refine both_thinks hok (.int (oI (t_best (t_w (a_C A) (a_s A) a n) (2 ^ k_n (a_C A) (1 - a / 6))))) (fun I L ρ hX => ?_) (fun I L ρ hM => ?_)
      · obtain ⟨I', r1, r2⟩ := X0_less_out (L := L) (ρ := ρ) (N := N) hok q5 hO n2 (k_n (a_C A) (1 - a / 6) + 1) 0 zFU I (by omega) (by unfold zFU; omega) hX (fun x _ h2 => by omega)
        refine ⟨I', ?_, r2⟩
        have hcnt : I (ρ.1 + 1) (1 - a / 6) = nI (k_n (a_C A) (1 - a / 6)) := by
          have := (cu_ch hX).1
          unfold k_n
          by_cases c6 : 6 ≤ a
          · rw [show 1 - a / 6 = 0 by omega, if_pos rfl]; exact this.1
          · rw [show 1 - a / 6 = 1 by omega, if_neg (by omega)]; exact this.2
        have hsd : (1 : Int32) - (if 6 ≤ a then 1 else 0) = nI (1 - a / 6) := by
          by_cases c6 : 6 ≤ a
          · rw [if_pos c6, show 1 - a / 6 = 0 by omega]; rfl
          · rw [if_neg c6, show 1 - a / 6 = 1 by omega]; rfl
        have hl : X0_lessons 53 41 (nI a) (nI n) (hp I L ρ) = some (some (.int (oI (t_best (t_w (a_C A) (a_s A) a n) (2 ^ k_n (a_C A) (1 - a / 6))))), hp I' L ρ) := by
          unfold X0_lessons
          rw [gr_53_2, gr_48_0, cu_w hX, gc_0 (cu_ρ hX), h_ci (X11_sideOf_h (by omega)), hsd, lac_1 (cu_ρ hX) (by omega), hcnt]
          exact r1
        unfold X11_teach
        rw [gr_0_5, rcc (cu_ρ hX), h_ci (XC_slot hX hk _), q, oI_some, h_if, if_neg (nI_nm1 (by omega)), gr_0_9, gr_0_7, rc_53, h_ci (eX hX), c, h_if, if_neg (by decide), gr_0_9, gr_0_7, rc_53, h_ci hl]; rfl
      · obtain ⟨I1, e1, e2, e3⟩ := MT_puts (ρ := ρ) hok hM
        have hp0 : 0 < 2 ^ k_n (a_C A) (1 - a / 6) := Nat.pow_pos (by decide)
        have hO6 : 2 ^ k_n (a_C A) (1 - a / 6) ≤ 64 := Nat.pow_le_pow_right (n := 2) (by decide) hO
        obtain ⟨I', L', r1, r2, r3⟩ := X12_teach_lp (ρ := ρ) (v4 := nI (1 - a / 6)) hok q3 q4 n2 hO (fun hC => X12_sideMany_h hC (by omega)) (2 ^ k_n (a_C A) (1 - a / 6)) 0 zFU I1 L (by omega) (by unfold zFU; omega) e2
        refine ⟨I', L', ?_, r2, r3⟩
        unfold X12_teach
        rw [rc_215, h_ci (X12_isPerson_v hk hM.1 _), q, bI_some, h_if, if_neg (by decide), rc_215, h_ci (eM hM), c, h_if, if_neg (by decide), rc_215, h_ci (X12_codeOf_h hk hM.1 (by omega)), h_ck (by decide), ← q2, rc_215, h_cv e1, show (6 : Int32) = nI 6 from rfl, pk_div (by omega) (by omega) (by omega), show (1 : Int32) = nI 1 from rfl, pk_sub (by omega)]
        exact r1
    · have c4 : p_can A w 1 40 = false := by simpa using c
      refine both_still hok (.int (-1)) (fun I L ρ hX => ?_) (fun I L ρ hM => ?_)
      · unfold X11_teach
        rw [gr_0_5, rcc (cu_ρ hX), h_ci (XC_slot hX hk _), q, oI_some, h_if, if_neg (nI_nm1 (by omega)), gr_0_9, gr_0_7, rc_53, h_ci (eX hX), c4, bF, h_if, if_pos rfl]; rfl
      · unfold X12_teach
        rw [rc_215, h_ci (X12_isPerson_v hk hM.1 _), q, bI_some, h_if, if_neg (by decide), rc_215, h_ci (eM hM), c4, bF, h_if, if_pos rfl]; rfl
end B56
