/-! acts: rounds, chance -/
section B48
variable {I : Nat → Nat → Int32} {L : Nat → Nat → Int64} {ρ : zRh} {h : zH} {A : aT} {N : Nat} {C : cT} {s : sT} {tr : Option Nat}
/-- how many of the first are wed -/
def w_n (s : sT) : Nat → Nat
  | 0 => 0
  | k + 1 => w_n s k + (if s_wed s k = none then 0 else 1)
theorem w_n_le (s : sT) : ∀ k, w_n s k ≤ k
  | 0 => Nat.le_refl _
  | k + 1 => by
    have := w_n_le s k
    show w_n s k + (if s_wed s k = none then 0 else 1) ≤ k + 1
    split <;> omega
theorem p_new_old (hk : okC C) (hS : okS C s) {a b : Nat} (h : p_new C s tr a = some b) : s_wed s a = none ∧ p_wed C s tr a = some b := by
  refine ⟨?_, ?_⟩
  · rcases q : s_wed s a with _ | x
    · rfl
    · have := (p_wed_old (tr := tr) hk hS q).1
      rw [this] at h; simp at h
  · unfold p_wed
    rw [h]
theorem w_n_go (hk : okC C) (hS : okS C s) : ∀ k, w_n (p_go C s tr) k = w_n s k + (p_fresh C s tr k).length
  | 0 => rfl
  | k + 1 => by
    have e := w_n_go hk hS k
    show w_n (p_go C s tr) k + (if s_wed (p_go C s tr) k = none then 0 else 1) = (w_n s k + (if s_wed s k = none then 0 else 1)) + (if p_new C s tr k = none then p_fresh C s tr k else p_fresh C s tr k ++ [k]).length
    rw [e, p_go_wed]
    rcases q : p_new C s tr k with _ | b
    · rw [if_pos rfl]
      have : p_wed C s tr k = none ↔ s_wed s k = none := by
        rcases q2 : s_wed s k with _ | x
        · rcases q3 : p_wed C s tr k with _ | y
          · simp
          · rcases p_wed_cases q3 with q4 | ⟨-, q4⟩
            · rw [q] at q4; simp at q4
            · rw [q2] at q4; simp at q4
        · have := (p_wed_old (tr := tr) hk hS q2).2
          rw [this]
      simp only [this]
      split <;> omega
    · obtain ⟨q1, q2⟩ := p_new_old hk hS q
      rw [q1, q2, if_neg (by simp), if_pos rfl, if_neg (by simp), List.length_append]
      show _ + 1 = _ + (_ + 1)
      omega
theorem p_fresh_mem {k : Nat} : ∀ {n}, k ∈ p_fresh C s tr n → k < n ∧ ∃ b, p_new C s tr k = some b
  | 0, h => by simp [p_fresh] at h
  | n + 1, h => by
    change k ∈ (if p_new C s tr n = none then p_fresh C s tr n else p_fresh C s tr n ++ [n]) at h
    by_cases c : p_new C s tr n = none
    · rw [if_pos c] at h
      have := p_fresh_mem h
      exact ⟨by omega, this.2⟩
    · rw [if_neg c] at h
      rcases List.mem_append.mp h with h | h
      · have := p_fresh_mem h
        exact ⟨by omega, this.2⟩
      · have e : k = n := by simpa using h
        refine ⟨by omega, ?_⟩
        rw [e]
        rcases q : p_new C s tr n with _ | b
        · exact absurd q c
        · exact ⟨b, rfl⟩
def p_fold (C : cT) (s : sT) (tr : Option Nat) (K : kT) (l : List Nat) : kT := l.foldl (fun K k => p_keep K (s_sp s, s_rd s, k, (p_new C s tr k).getD 0)) K
theorem p_fold_kept (K : kT) : ∀ k, p_fold C s tr K (p_fresh C s tr k) = p_kept C s tr K k
  | 0 => rfl
  | k + 1 => by
    have e := p_fold_kept K k
    show p_fold C s tr K (if p_new C s tr k = none then p_fresh C s tr k else p_fresh C s tr k ++ [k]) = (match p_new C s tr k with | none => p_kept C s tr K k | some b => p_keep (p_kept C s tr K k) (s_sp s, s_rd s, k, b))
    rcases q : p_new C s tr k with _ | b
    · rw [if_pos rfl]; exact e
    · rw [if_neg (by simp)]
      unfold p_fold at e ⊢
      rw [List.foldl_append, e]
      show p_keep _ (s_sp s, s_rd s, k, (p_new C s tr k).getD 0) = _
      rw [q]; rfl
theorem okK_keep {K : kT} (h : okK K) {q : Nat × Nat × Nat × Nat} (h1 : q.2.2.1 < 12) (h2 : q.2.2.2 < 12) : okK (p_keep K q) := by
  unfold p_keep
  refine ⟨?_, fun x hx => ?_⟩
  · have := h.1
    rw [List.length_append]
    split
    · rw [List.length_tail]; show _ + 1 ≤ _; omega
    · show _ + 1 ≤ _; omega
  · rcases List.mem_append.mp hx with hx | hx
    · apply h.2
      split at hx
      · exact List.mem_of_mem_tail hx
      · exact hx
    · have e : x = q := by simpa using hx
      rw [e]; exact ⟨h1, h2⟩
theorem okK_kept (hk : okC C) (hS : okS C s) {K : kT} (h : okK K) : ∀ k, k ≤ 6 → okK (p_kept C s tr K k)
  | 0, _ => h
  | k + 1, hk6 => by
    have e := okK_kept hk hS h k (by omega)
    show okK (match p_new C s tr k with | none => p_kept C s tr K k | some b => p_keep (p_kept C s tr K k) (s_sp s, s_rd s, k, b))
    rcases q : p_new C s tr k with _ | b
    · exact e
    · have := p_hold_spec hk hS (p_new_hold q).1
      exact okK_keep e this.2.1.1 this.2.1.2
theorem XC_go (hok : okA A) (hX : RelX I L ρ A N) (ht : ∀ b, tr = some b → b < 12) : ∃ I', X10_go 48 41 (oI tr) (hp I L ρ) = some (some (.int (nI (p_fresh (a_C A) (a_s A) tr 6).length)), hp I' L ρ) ∧ (∀ x, lastX x ∨ 215 ≤ x → (x < 41 ∨ 48 ≤ x) → I' x = I x) ∧ stX 41 I' (p_go (a_C A) (a_s A) tr) ∧ frX (I' 50) 0 (p_fresh (a_C A) (a_s A) tr 6) := by
  have hC := cu_ch hX
  have hw := cu_w hX
  rcases cu_ρ hX with e | e
  · rw [e] at hC hw
    obtain ⟨I', q1, q2, q3⟩ := X10_go_13_41 (L := L) (ρ := ρ) hok.1 hok.2.2.1.1 ht hw hC hX.2.2.1
    exact ⟨I', q1, fun x h1 h2 => q2 x (by unfold goF_13_41; unfold lastX at h1; omega), q3⟩
  · rw [e] at hC hw
    obtain ⟨I', q1, q2, q3⟩ := X10_go_27_41 (L := L) (ρ := ρ) hok.1 hok.2.2.1.1 ht hw hC hX.2.2.1
    exact ⟨I', q1, fun x h1 h2 => q2 x (by unfold goF_27_41; unfold lastX at h1; omega), q3⟩
/-- what a round weds is kept -/
theorem X11_act_lp {sp rd W : Nat} {l : List Nat} (hl : l.length = W) (hW : W ≤ 6) (hN : N < 999999000) {w : Nat → Nat} {P : List (sT × kT)} (hP : P.length ≤ 20) {kf : kT → Nat → kT} (hkf : kf = fun K k => p_keep K (sp, rd, k, w k)) : ∀ (m k fuel g : Nat) (I : Nat → Nat → Int32) (K : kT), k + m = W → m < fuel → g + m ≤ 6 → frX (I 50) 0 l → (∀ x ∈ l, x < 12 ∧ I 43 x = nI (w x)) → paG g I K P (N + k) →
    ∃ I', z_fix (fun r x => X11_actRound_B33 0 (nI sp) (nI rd) (nI W) r x) fuel (nI k) (hp I L ρ) = some (some (.int (nI W)), hp I' L ρ) ∧ (∀ x, x ≠ 68 → x ≠ 71 → I' x = I x) ∧ paG (g + m) I' ((l.drop k).foldl kf K) P (N + W) := by
  intro m
  induction m with
  | zero =>
    intro k fuel g I K h1 h2 h3 h4 h5 h6
    obtain ⟨f, rfl⟩ : ∃ f, fuel = f + 1 := ⟨fuel - 1, by omega⟩
    obtain rfl : k = W := by omega
    refine ⟨I, ?_, fun _ _ _ => rfl, ?_⟩
    · rw [h_fix]
      show X11_actRound_B33 0 (nI sp) (nI rd) (nI k) _ (nI k) (hp I L ρ) = _
      unfold X11_actRound_B33
      rw [h_if, if_pos (nI_le (Nat.le_refl _) (by omega))]; rfl
    · rw [List.drop_eq_nil_of_le (by omega)]
      exact h6
  | succ m ih =>
    intro k fuel g I K h1 h2 h3 h4 h5 h6
    obtain ⟨f, rfl⟩ : ∃ f, fuel = f + 1 := ⟨fuel - 1, by omega⟩
    rw [h_fix]
    generalize hg : z_fix (fun r x => X11_actRound_B33 0 (nI sp) (nI rd) (nI W) r x) f = rec
    have hkl : k < l.length := by omega
    have hel : l.getD k 0 = l[k] := by simp [List.getD, hkl]
    obtain ⟨hx1, hx2⟩ := h5 l[k] (List.getElem_mem hkl)
    have hf : I 50 k = nI l[k] := by have := h4 k hkl; rw [Nat.zero_add, hel] at this; exact this
    obtain ⟨I1, e1, e2, e3⟩ := X6_keep_h (L := L) (ρ := ρ) (a := sp) (b := rd) (c := l[k]) (d := w l[k]) (by omega) (by omega) hP h6
    obtain ⟨I', q1, q2, q3⟩ := ih (k + 1) f (g + 1) I1 (kf K l[k]) (by omega) (by omega) (by omega) (by rw [e2 50 (by omega) (by omega)]; exact h4) (by rw [e2 43 (by omega) (by omega)]; exact h5) (by rw [hkf]; exact e3)
    refine ⟨I', ?_, fun x c1 c2 => by rw [q2 x c1 c2, e2 x c1 c2], ?_⟩
    · show X11_actRound_B33 0 (nI sp) (nI rd) (nI W) rec (nI k) (hp I L ρ) = _
      unfold X11_actRound_B33
      rw [h_if, if_neg (nI_ge (by omega) (by omega)), gr_0_8, gr_48_2, la_50 (by omega), hf, gr_0_11, gr_0_7, gr_41_3, la_43 hx1, hx2, rc_68, h_cv e1, nI_1, ← hg]
      exact q1
    · rw [List.drop_eq_getElem_cons hkl, List.foldl_cons, show g + (m + 1) = g + 1 + m by omega]
      exact q3
theorem X11_actRound_h (hok : okA A) (hN : N < 999999000) (ht : ∀ b, tr = some b → b < 12) {g : Nat} (hX : RelX I L ρ A N) (hpa : paG g I (a_K A) (a_P A) N) (hg : g + (p_fresh (a_C A) (a_s A) tr 6).length ≤ 6) : ∃ I', X11_actRound 0 (oI tr) (hp I L ρ) = some (some (.int (nI (p_fresh (a_C A) (a_s A) tr 6).length)), hp I' L ρ) ∧ (∀ x, 215 ≤ x → I' x = I x) ∧ RelX I' L ρ (wS A (p_go (a_C A) (a_s A) tr) (p_kept (a_C A) (a_s A) tr (a_K A) 6) (a_P A)) (N + (p_fresh (a_C A) (a_s A) tr 6).length) ∧ paG (g + (p_fresh (a_C A) (a_s A) tr 6).length) I' (p_kept (a_C A) (a_s A) tr (a_K A) 6) (a_P A) (N + (p_fresh (a_C A) (a_s A) tr 6).length) := by
  have hk := hok.1
  have hS := hok.2.2.1.1
  obtain ⟨I1, e1, e2, e3, e4⟩ := XC_go hok hX ht
  have hpa1 : paG g I1 (a_K A) (a_P A) (N + 0) := pa_fr (fun a x y => e2 a (by unfold lastX; omega) (by omega)) (by omega) hpa
  have hmem : ∀ x ∈ p_fresh (a_C A) (a_s A) tr 6, x < 12 ∧ I1 43 x = nI ((p_new (a_C A) (a_s A) tr x).getD 0) := by
    intro x hx
    obtain ⟨h1, b, hb⟩ := p_fresh_mem hx
    refine ⟨by omega, ?_⟩
    rw [e3.2.2.1 x (by omega), p_go_wed, (p_new_old hk hS hb).2, hb]; rfl
  obtain ⟨I', q1, q2, q3⟩ := X11_act_lp (L := L) (ρ := ρ) (sp := s_sp (a_s A)) (rd := s_rd (a_s A)) (l := p_fresh (a_C A) (a_s A) tr 6) rfl (by omega) hN (w := fun x => (p_new (a_C A) (a_s A) tr x).getD 0) hok.2.2.2.2.1.1 rfl (p_fresh (a_C A) (a_s A) tr 6).length 0 zFU g I1 (a_K A) (by omega) (by unfold zFU; omega) hg e4 hmem hpa1
  have hpa2 : paG (g + (p_fresh (a_C A) (a_s A) tr 6).length) I' (p_kept (a_C A) (a_s A) tr (a_K A) 6) (a_P A) (N + (p_fresh (a_C A) (a_s A) tr 6).length) := by
    rw [← p_fold_kept]
    exact q3
  refine ⟨I', ?_, fun x hx => by rw [q2 x (by omega) (by omega), e2 x (Or.inr hx) (by omega)], X_act hX (paG_mono hg (Nat.le_refl _) hpa2) (stX_fr (fun a x y => q2 a (by omega) (by omega)) e3) (fun a h1 h2 h3 => by rw [q2 a (by omega) (by omega), e2 a (Or.inl h1) h2]), hpa2⟩
  unfold X11_actRound
  rw [gr_0_7, gi_41, hX.2.2.1.1.1, gr_0_7, gi_41, hX.2.2.1.1.2, gr_0_8, gr_0_7, rc_48, h_ci e1]
  exact q1
/-! whether rounds can come -/
theorem cnt_le (hok : okA A) : s_cnt (a_C A) (a_s A) + 1 ≤ 1000 * k_rt (a_C A) ∧ k_rt (a_C A) ≤ 12 := by
  obtain ⟨h1, h2, -⟩ := hok.2.2.1
  have h3 := h1.1.2
  have h4 := hok.1.2.1
  unfold s_cnt
  have : s_sp (a_s A) * k_rt (a_C A) ≤ 999 * k_rt (a_C A) := Nat.mul_le_mul_right _ h2
  omega
def p_can (A : aT) (v : Int32) (lo hi : Nat) : Bool := decide ((lo : Int) ≤ v.toInt ∧ v.toInt ≤ hi ∧ v.toInt + s_cnt (a_C A) (a_s A) < 1000 * k_rt (a_C A))
theorem X0_left_h (hok : okA A) (hX : RelX I L ρ A N) : X0_roundsLeft 53 41 (hp I L ρ) = some (some (.int (nI (1000 * k_rt (a_C A) - 1 - s_cnt (a_C A) (a_s A)))), hp I L ρ) := by
  have hc := cnt_le hok
  have h4 := hok.1.2.1
  unfold s_cnt at hc ⊢
  unfold X0_roundsLeft
  rw [gr_53_2, gr_48_0, cu_w hX, gic (cu_ρ hX), (cu_ch hX).2.1.1, gi_41, hX.2.2.1.1.1, gi_41, hX.2.2.1.1.2, h_ret, show (1000 : Int32) = nI 1000 from rfl, show (1 : Int32) = nI 1 from rfl, pk_mul, pk_mul, pk_sub (by omega), pk_sub (by omega), pk_sub (by omega), Nat.sub_sub _ (_ * _) _]
theorem X0_can_h (hok : okA A) (hX : RelX I L ρ A N) {lo hi : Nat} (hhi : lo < 1000 ∧ hi < 1000) (v : Int32) : X0_canCome 53 41 v (nI lo) (nI hi) (hp I L ρ) = some (some (.int (bI (p_can A v lo hi))), hp I L ρ) := by
  have hc := cnt_le hok
  have hlo : (nI lo).toInt = lo := nI_toI (by omega)
  have hhi2 : (nI hi).toInt = hi := nI_toI (by omega)
  have hle : (nI (1000 * k_rt (a_C A) - 1 - s_cnt (a_C A) (a_s A))).toInt = (1000 * k_rt (a_C A) - 1 - s_cnt (a_C A) (a_s A) : Nat) := nI_toI (by omega)
  unfold X0_canCome p_can
  rw [h_if]
  simp only [Int32.lt_iff_toInt_lt, hlo]
  by_cases c1 : v.toInt < lo
  · rw [if_pos c1, h_rb0, decide_eq_false (by omega)]; rfl
  · rw [if_neg c1, h_if]
    simp only [Int32.lt_iff_toInt_lt, hhi2]
    by_cases c2 : (hi : Int) < v.toInt
    · rw [if_pos c2, h_rb0, decide_eq_false (by omega)]; rfl
    · rw [if_neg c2, rc_53, h_ci (X0_left_h hok hX), h_if]
      simp only [Int32.lt_iff_toInt_lt, hle]
      by_cases c3 : ((1000 * k_rt (a_C A) - 1 - s_cnt (a_C A) (a_s A) : Nat) : Int) < v.toInt
      · rw [if_pos c3, h_rb0, decide_eq_false (by omega)]; rfl
      · rw [if_neg c3, h_rb1, decide_eq_true (by omega)]; rfl
theorem X12_ahead_h (hok : okA A) (hM : RelM I L A) {lo hi : Nat} (hhi : lo < 1000 ∧ hi < 1000) (v : Int32) : X12_isAhead 215 v (nI lo) (nI hi) (hp I L ρ) = some (some (.int (bI (p_can A v lo hi))), hp I L ρ) := by
  have hc := cnt_le hok
  have h4 := hok.1.2.1
  unfold X12_isAhead p_can
  rw [i64_of, nI_cl (by omega), nI_cl (by omega), h_ci (X12_isIn_h (i32_in v) (by omega) (by omega)), h_if]
  by_cases c1 : (lo : Int) ≤ v.toInt ∧ v.toInt ≤ hi
  · rw [decide_eq_true c1, if_neg (by decide), rc_215, h_ci (X12_roundMany_h hM.1), gr_215_52, lal_0, la_255 (by omega), hM.2.2.2.1.1.1.1.1, gr_215_52, lal_1, la_255 (by omega), hM.2.2.2.1.1.1.1.2, rc_215, h_ci (X12_roundMany_h hM.1), h_if]
    obtain ⟨n, hn, rfl⟩ := Int32_of (v := v) (by rw [v_neg]; omega)
    rw [nI_toI hn] at c1 ⊢
    rw [show (1000 : Int32) = nI 1000 from rfl, pk_mul, pk_mul, nI_add, nI_add]
    unfold s_cnt at hc ⊢
    rw [Nat.mul_comm (s_sp (a_s A)) (k_rt (a_C A))] at hc ⊢
    simp only [nI_le' (show k_rt (a_C A) * 1000 < 2147483648 by omega) (show k_rt (a_C A) * s_sp (a_s A) + s_rd (a_s A) + n < 2147483648 by omega)]
    by_cases c2 : k_rt (a_C A) * 1000 ≤ k_rt (a_C A) * s_sp (a_s A) + s_rd (a_s A) + n
    · rw [if_pos c2, h_rb0, decide_eq_false (by omega)]; rfl
    · rw [if_neg c2, h_rb1, decide_eq_true (by omega)]; rfl
  · rw [decide_eq_false c1, bF, if_pos rfl, h_rb0, decide_eq_false (by omega)]; rfl
theorem Int32_any (v : Int32) : ∃ n, v = nI n := ⟨v.toUInt32.toNat, by
  apply Int32.toBitVec_inj.mp
  show _ = BitVec.ofNat 32 v.toBitVec.toNat
  rw [BitVec.ofNat_toNat]
  simp⟩
/-- the reference's round, as an act's -/
theorem X12_act_h (hok : okA A) (ht : ∀ b, tr = some b → b < 12) (hM : RelM I L A) {n0 : Nat} (h63 : I 215 63 = nI n0) : ∃ I' L', X12_roundGoes 215 (oI tr) (hp I L ρ) = some (none, hp I' L' ρ) ∧ (∀ x, x < 215 → I' x = I x ∧ L' x = L x) ∧ I' 215 63 = nI (n0 + (p_fresh (a_C A) (a_s A) tr 6).length) ∧ RelM I' L' (wS A (p_go (a_C A) (a_s A) tr) (p_kept (a_C A) (a_s A) tr (a_K A) 6) (a_P A)) := by
  obtain ⟨I', L', e1, e2, e3, e4, e5, e6⟩ := X12_round_h (L := L) (ρ := ρ) hok.1 hok.2.2.1.1 ht hM.1 (RelM_st hok hM) (th := false) (hM.2.2.2.2.1.2) h63 (fun _ => hM.2.2.2.1.2)
  refine ⟨I', L', e1, fun x hx => ⟨e2.1 x (by omega) (by omega) (by omega) (by omega) (by omega) (by omega), e2.2.2 x (by omega)⟩, e4, M_act hM ⟨⟨stM_N e3, fun h a ha hna => ?_⟩, e5⟩ ?_ (fun a h1 h2 h3 => goM_last e2 (Or.inl h1) h2) (fun k h1 h2 h3 => ?_) (fun a ha => e2.2.2 a (by omega))⟩
  · rw [e6 a ha hna]
    exact hM.2.2.2.1.1.2 h a ha hna
  · have e266 : I' 266 = I 266 := goM_last e2 (Or.inl (by unfold lastM; omega)) (by omega)
    unfold paM
    rw [e2.2.1 75 (by omega) (by omega) (by omega) (by omega) (by omega) (by omega) (by omega) (by omega), e2.2.1 76 (by omega) (by omega) (by omega) (by omega) (by omega) (by omega) (by omega) (by omega), e266]
    exact hM.2.2.2.2.2.1
  · unfold fieldM at h1
    exact e2.2.1 k (by omega) (by omega) (by omega) (by omega) (by omega) (by omega) (by omega) (by omega)
/-- a round of an act keeps all in bounds -/
theorem okA_go (hok : okA A) (hc : s_cnt (a_C A) (a_s A) + 1 < 1000 * k_rt (a_C A)) : okA (wS A (p_go (a_C A) (a_s A) tr) (p_kept (a_C A) (a_s A) tr (a_K A) 6) (a_P A)) := by
  obtain ⟨h1, h2, h3⟩ := hok.2.2.1
  have e := p_go_cnt (C := a_C A) (tr := tr) h1
  refine okA_wS hok ⟨p_go_ok hok.1 h1 (by omega), ?_, fun a ha => by rw [p_go_siz]; exact h3 a ha⟩ (okK_kept hok.1 h1 hok.2.2.2.1 6 (by omega)) hok.2.2.2.2.1
  have h5 : s_sp (p_go (a_C A) (a_s A) tr) * k_rt (a_C A) < 1000 * k_rt (a_C A) := by
    unfold s_cnt at e hc
    omega
  have := Nat.lt_of_mul_lt_mul_right h5
  omega
/-- both remember -/
theorem X_push (hok : okA A) (hX : RelX I L ρ A N) : ∃ I1, X6_remember 68 41 (hp I L ρ) = some (none, hp I1 L ρ) ∧ (∀ a, 215 ≤ a → I1 a = I a) ∧ RelX I1 L ρ (wS A (a_s A) (a_K A) (p_push (a_s A, a_K A) (a_P A))) N ∧ paG 0 I1 (a_K A) (p_push (a_s A, a_K A) (a_P A)) N := by
  obtain ⟨I1, e1, e2, e3⟩ := X6_remember_h (L := L) (ρ := ρ) hok.2.2.2.2.1.1 hX.2.2.1 hX.2.2.2.1
  exact ⟨I1, e1, fun a ha => e2 a (by omega) (by omega) (by omega), X_act hX (paG_mono (g := 0) (by omega) (Nat.le_refl _) e3) (stX_fr (fun a x y => e2 a (by omega) (by omega) (by omega)) hX.2.2.1) (fun a q1 q2 q3 => e2 a (by omega) (by omega) (by omega)), e3⟩
theorem M_push (hok : okA A) (hM : RelM I L A) : ∃ I1, X12_keeps 215 (hp I L ρ) = some (none, hp I1 L ρ) ∧ (∀ a, a < 215 → I1 a = I a) ∧ RelM I1 L (wS A (a_s A) (a_K A) (p_push (a_s A, a_K A) (a_P A))) := by
  obtain ⟨I1, e1, e2, e3, e4⟩ := X12_keeps_h (L := L) (ρ := ρ) hok.1 hok.2.2.2.2.1.1 hM.2.2.2.2.2.1 hM.2.2.2.1
  have r255 : I1 255 = I 255 := e2 255 (by omega) (by omega)
  exact ⟨I1, e1, fun a ha => e2 a (by omega) (by omega), M_act hM (by rw [r255]; exact hM.2.2.2.1) e4 (fun a q1 q2 q3 => e2 a (by unfold lastM at q1; omega) q3) (fun k q1 q2 q3 => e3 k q2 q3) (fun _ _ => rfl)⟩
theorem okA_push (hok : okA A) : okA (wS A (a_s A) (a_K A) (p_push (a_s A, a_K A) (a_P A))) := okA_wS hok hok.2.2.1 hok.2.2.2.1 (ok_push hok hok.2.2.1 hok.2.2.2.1)
/-- rounds one after another: the state, what is kept, how many pairs are wed -/
def f_rd (C : cT) (s : sT) (K : kT) : Nat → sT × kT × Nat
  | 0 => (s, K, 0)
  | i + 1 => (p_go C (f_rd C s K i).1 none, p_kept C (f_rd C s K i).1 none (f_rd C s K i).2.1 6, (f_rd C s K i).2.2 + (p_fresh C (f_rd C s K i).1 none 6).length)
def wRd (A : aT) (k : Nat) : aT := wS A (f_rd (a_C A) (a_s A) (a_K A) k).1 (f_rd (a_C A) (a_s A) (a_K A) k).2.1 (a_P A)
theorem f_rd_ok (hok : okA A) : ∀ k, s_cnt (a_C A) (a_s A) + k < 1000 * k_rt (a_C A) → okA (wRd A k) ∧ s_cnt (a_C A) (f_rd (a_C A) (a_s A) (a_K A) k).1 = s_cnt (a_C A) (a_s A) + k ∧ w_n (f_rd (a_C A) (a_s A) (a_K A) k).1 6 = w_n (a_s A) 6 + (f_rd (a_C A) (a_s A) (a_K A) k).2.2
  | 0, _ => ⟨hok, rfl, rfl⟩
  | k + 1, h => by
    obtain ⟨q1, q2, q3⟩ := f_rd_ok hok k (by omega)
    have hS : okS (a_C A) (f_rd (a_C A) (a_s A) (a_K A) k).1 := q1.2.2.1.1
    refine ⟨okA_go (A := wRd A k) q1 (by show s_cnt (a_C A) (f_rd (a_C A) (a_s A) (a_K A) k).1 + 1 < 1000 * k_rt (a_C A); omega), ?_, ?_⟩
    · show s_cnt (a_C A) (p_go (a_C A) (f_rd (a_C A) (a_s A) (a_K A) k).1 none) = _
      rw [p_go_cnt hS, q2]; rfl
    · show w_n (p_go (a_C A) (f_rd (a_C A) (a_s A) (a_K A) k).1 none) 6 = _ + (_ + _)
      rw [w_n_go hok.1 hS, q3]
      show _ + _ + _ = _
      omega
theorem f_rd_W (hok : okA A) (k : Nat) (h : s_cnt (a_C A) (a_s A) + k < 1000 * k_rt (a_C A)) : (f_rd (a_C A) (a_s A) (a_K A) k).2.2 ≤ 6 := by
  have h1 := (f_rd_ok hok k h).2.2
  have h2 := w_n_le (f_rd (a_C A) (a_s A) (a_K A) k).1 6
  omega
theorem X11_rounds_lp (hok : okA A) (hN : N < 999998000) {n : Nat} (hn : n ≤ 100) (hc : s_cnt (a_C A) (a_s A) + n < 1000 * k_rt (a_C A)) : ∀ (m k fuel : Nat) (I : Nat → Nat → Int32), k + m = n → m < fuel → RelX I L ρ (wRd A k) (N + (f_rd (a_C A) (a_s A) (a_K A) k).2.2) → paG (f_rd (a_C A) (a_s A) (a_K A) k).2.2 I (f_rd (a_C A) (a_s A) (a_K A) k).2.1 (a_P A) (N + (f_rd (a_C A) (a_s A) (a_K A) k).2.2) →
    ∃ I', z_fix (fun r x => X11_rounds_B39 0 (nI n) r x.1 x.2) fuel (nI (f_rd (a_C A) (a_s A) (a_K A) k).2.2, nI k) (hp I L ρ) = some (some (.int (nI (f_rd (a_C A) (a_s A) (a_K A) n).2.2)), hp I' L ρ) ∧ (∀ x, 215 ≤ x → I' x = I x) ∧ RelX I' L ρ (wRd A n) (N + (f_rd (a_C A) (a_s A) (a_K A) n).2.2) := by
  intro m
  induction m with
  | zero =>
    intro k fuel I h1 h2 h3 h4
    obtain ⟨f, rfl⟩ : ∃ f, fuel = f + 1 := ⟨fuel - 1, by omega⟩
    obtain rfl : k = n := by omega
    refine ⟨I, ?_, fun _ _ => rfl, h3⟩
    rw [h_fix]
    show X11_rounds_B39 0 (nI k) _ (nI _) (nI k) (hp I L ρ) = _
    unfold X11_rounds_B39
    rw [h_if, if_pos (nI_le (Nat.le_refl _) (by omega))]; rfl
  | succ m ih =>
    intro k fuel I h1 h2 h3 h4
    obtain ⟨f, rfl⟩ : ∃ f, fuel = f + 1 := ⟨fuel - 1, by omega⟩
    rw [h_fix]
    generalize hg : z_fix (fun r x => X11_rounds_B39 0 (nI n) r x.1 x.2) f = rec
    obtain ⟨q1, q2, q3⟩ := f_rd_ok hok k (by omega)
    have w1 := f_rd_W hok k (by omega)
    have w2 := f_rd_W hok (k + 1) (by omega)
    obtain ⟨I1, e1, e2, e3, e4⟩ := X11_actRound_h (tr := none) q1 (by omega) (by simp) h3 h4 w2
    obtain ⟨I', r1, r2, r3⟩ := ih (k + 1) f I1 (by omega) (by omega) (by rw [Nat.add_assoc] at e3; exact e3) (by rw [Nat.add_assoc] at e4; exact e4)
    refine ⟨I', ?_, fun x hx => by rw [r2 x hx, e2 x hx], r3⟩
    show X11_rounds_B39 0 (nI n) rec (nI _) (nI k) (hp I L ρ) = _
    unfold X11_rounds_B39
    rw [h_if, if_neg (nI_ge (by omega) (by omega)), rc_0, h_ci (show X11_actRound 0 (-1) _ = _ from e1), nI_add, nI_1, ← hg]
    exact r1
theorem X12_rounds_lp (hok : okA A) {n : Nat} (hn : n ≤ 100) (hc : s_cnt (a_C A) (a_s A) + n < 1000 * k_rt (a_C A)) : ∀ (m k fuel : Nat) (I : Nat → Nat → Int32) (L : Nat → Nat → Int64), k + m = n → m < fuel → RelM I L (wRd A k) → I 215 63 = nI (f_rd (a_C A) (a_s A) (a_K A) k).2.2 →
    ∃ I' L', z_fix (fun r x => X12_roundsGo_B7 215 (nI n) r x) fuel (nI k) (hp I L ρ) = some (none, hp I' L' ρ) ∧ (∀ x, x < 215 → I' x = I x ∧ L' x = L x) ∧ I' 215 63 = nI (f_rd (a_C A) (a_s A) (a_K A) n).2.2 ∧ RelM I' L' (wRd A n) := by
  intro m
  induction m with
  | zero =>
    intro k fuel I L h1 h2 h3 h4
    obtain ⟨f, rfl⟩ : ∃ f, fuel = f + 1 := ⟨fuel - 1, by omega⟩
    obtain rfl : k = n := by omega
    refine ⟨I, L, ?_, fun _ _ => ⟨rfl, rfl⟩, h4, h3⟩
    rw [h_fix]
    show X12_roundsGo_B7 215 (nI k) _ (nI k) (hp I L ρ) = _
    unfold X12_roundsGo_B7
    rw [h_if, if_pos (nI_le (Nat.le_refl _) (by omega))]; rfl
  | succ m ih =>
    intro k fuel I L h1 h2 h3 h4
    obtain ⟨f, rfl⟩ : ∃ f, fuel = f + 1 := ⟨fuel - 1, by omega⟩
    rw [h_fix]
    generalize hg : z_fix (fun r x => X12_roundsGo_B7 215 (nI n) r x) f = rec
    obtain ⟨q1, q2, q3⟩ := f_rd_ok hok k (by omega)
    obtain ⟨I1, L1, e1, e2, e3, e4⟩ := X12_act_h (ρ := ρ) (tr := none) q1 (by simp) h3 h4
    obtain ⟨I', L', r1, r2, r3, r4⟩ := ih (k + 1) f I1 L1 (by omega) (by omega) e4 e3
    refine ⟨I', L', ?_, fun x hx => ⟨by rw [(r2 x hx).1, (e2 x hx).1], by rw [(r2 x hx).2, (e2 x hx).2]⟩, r3, r4⟩
    show X12_roundsGo_B7 215 (nI n) rec (nI k) (hp I L ρ) = _
    unfold X12_roundsGo_B7
    rw [h_if, if_neg (nI_ge (by omega) (by omega)), rc_215, h_cv (show X12_roundGoes 215 (-1) _ = _ from e1), nI_1, ← hg]
    exact r1
theorem rounds_b (hok : okA A) (hN : N < 999998000) (v : Int32) : both (X11_rounds 0 v) (X12_rounds 215 v) A N := by
  have hcn := cnt_le hok
  have eX : ∀ {I : Nat → Nat → Int32} {L : Nat → Nat → Int64} {ρ : zRh}, RelX I L ρ A N → X0_canCome 53 41 v 1 100 (hp I L ρ) = some (some (.int (bI (p_can A v 1 100))), hp I L ρ) := fun hX => X0_can_h hok hX (lo := 1) (hi := 100) (by omega) v
  have eM : ∀ {I : Nat → Nat → Int32} {L : Nat → Nat → Int64} {ρ : zRh}, RelM I L A → X12_isAhead 215 v 1 100 (hp I L ρ) = some (some (.int (bI (p_can A v 1 100))), hp I L ρ) := fun hM => X12_ahead_h hok hM (lo := 1) (hi := 100) (by omega) v
  by_cases c : p_can A v 1 100 = true
  · have c2 := c
    unfold p_can at c2
    have c3 := of_decide_eq_true c2
    obtain ⟨n, hn, rfl⟩ := Int32_of (v := v) (by rw [v_neg]; omega)
    rw [nI_toI hn] at c3
    have hok1 := okA_push hok
    have hcc : s_cnt (a_C A) (a_s A) + n < 1000 * k_rt (a_C A) := by omega
    have hcc1 : s_cnt (a_C (wS A (a_s A) (a_K A) (p_push (a_s A, a_K A) (a_P A)))) (a_s (wS A (a_s A) (a_K A) (p_push (a_s A, a_K A) (a_P A)))) + n < 1000 * k_rt (a_C (wS A (a_s A) (a_K A) (p_push (a_s A, a_K A) (a_P A)))) := hcc
    have w := f_rd_W hok1 n hcc1
    refine ⟨.int (nI (f_rd (a_C A) (a_s A) (a_K A) n).2.2), wRd (wS A (a_s A) (a_K A) (p_push (a_s A, a_K A) (a_P A))) n, N + (f_rd (a_C A) (a_s A) (a_K A) n).2.2, fun I L ρ hX => ?_, fun I L ρ hM => ?_, (f_rd_ok hok1 n hcc1).1, by
      have : (f_rd (a_C A) (a_s A) (a_K A) n).2.2 ≤ 6 := w
      omega⟩
    · obtain ⟨I1, e1, e2, e3, e4⟩ := X_push hok hX
      obtain ⟨I', r1, r2, r3⟩ := X11_rounds_lp (L := L) (ρ := ρ) hok1 hN (by omega) hcc1 n 0 zFU I1 (by omega) (by unfold zFU; omega) e3 e4
      refine ⟨I', L, ρ, ?_, r3, fun x hx => ⟨by rw [r2 x hx, e2 x hx], rfl⟩⟩
      unfold X11_rounds
      rw [gr_0_9, gr_0_7, rc_53, h_ci (eX hX), c, h_if, if_neg (by decide), gr_0_11, gr_0_7, rc_68, h_cv e1]
      exact r1
    · obtain ⟨I1, e1, e2, e3⟩ := M_push (ρ := ρ) hok hM
      have e4 : RelM (u2 I1 215 63 0) L (wS A (a_s A) (a_K A) (p_push (a_s A, a_K A) (a_P A))) := RelM_fr (fun a ha => u2r (by unfold lastM at ha; omega)) (fun k hk => by rw [u2_ap, if_neg (by unfold fieldM at hk; omega)]) (fun _ _ => rfl) e3
      obtain ⟨I', L', r1, r2, r3, r4⟩ := X12_rounds_lp (ρ := ρ) hok1 (by omega) hcc1 n 0 zFU (u2 I1 215 63 0) L (by omega) (by unfold zFU; omega) e4 (by rw [u2_ap, if_pos ⟨rfl, rfl⟩]; rfl)
      refine ⟨I', L', ?_, r4, fun x hx => ⟨by rw [(r2 x hx).1, u2r (by omega), e2 x hx], (r2 x hx).2⟩⟩
      have hgo : X12_roundsGo 215 (nI n) (hp I1 L ρ) = some (none, hp I' L' ρ) := by
        unfold X12_roundsGo
        rw [pi_215]
        exact r1
      unfold X12_rounds
      rw [rc_215, h_ci (eM hM), c, h_if, if_neg (by decide), rc_215, h_cv e1, rc_215, h_cv hgo, gi_215, r3]
      rfl
  · have c4 : p_can A v 1 100 = false := by simpa using c
    refine both_refused hok (j := 3) (by omega) (-1) (fun I L ρ hX => ?_) (fun I L ρ hM => ?_)
    · unfold X11_rounds
      rw [gr_0_9, gr_0_7, rc_53, h_ci (eX hX), c4, bF, h_if, if_pos rfl, rc_0, h_ci (show X11_refuse 0 3 _ = _ from X11_refuse_h (j := 3) (by omega))]; rfl
    · unfold X12_rounds X12_refuses
      rw [rc_215, h_ci (eM hM), c4, bF, h_if, if_pos rfl, rc_215]
      have e : (z_gr 12 9 215 fun x1 => z_la 20 x1 3 fun x2 => z_sa 20 x1 3 (x2 + 1) (z_ret (some (.int (-1))))) (hp I L ρ) = some (some (.int (-1)), hp (u2 I 217 3 (I 217 3 + 1)) L ρ) := by
        rw [gr_215_9, show (3 : Int32) = nI 3 from rfl, la_217 (by decide), sa_217 (by decide)]; rfl
      rw [h_ci e]; rfl
end B48
