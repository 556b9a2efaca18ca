/-! the class's text: signs, words, numbers, names taken -/
section B62
variable {I I0 : Nat → Nat → Int32} {L L0 : Nat → Nat → Int64} {ρ : zRh} {h : zH} {b : Nat → Nat} {n a x : Nat}
theorem i22 {v : Int32} : u2 I 2 2 v 2 2 = v := by rw [u2_ap, if_pos ⟨rfl, rfl⟩]
theorem i23 {v : Int32} : u2 I 2 2 v 2 3 = I 2 3 := by rw [u2_ap, if_neg (by omega)]
theorem i2_23 {v : Int32} (hs : I 2 3 = 0) : u2 I 2 2 v 2 3 = 0 := by rw [i23]; exact hs
/-! signs -/
theorem X9_takeSign_s (hT : txX I b n) (hx : x ≤ n) (hx2 : I 2 2 = nI x) (hs : I 2 3 = 0) {c : Nat} (hc : 0 < c ∧ c < 1000) : X9_takeSign 2 (nI c) (hp I L ρ) = some (some (.int (bI (decide (t_c b n (sk b n x) = c)))), hp (u2 I 2 2 (nI (if t_c b n (sk b n x) = c then sk b n x + 1 else sk b n x))) L ρ) := by
  have hle := sk_le (b := b) hx
  have hn := hT.2.1
  have hT1 : txX (u2 I 2 2 (nI (sk b n x))) b n := txX_u (by omega) hT
  unfold X9_takeSign
  rw [rc_2, h_ci X9_sound_h, hs, h_if, if_neg (by decide), rc_2, h_ci (X9_begin_h hT hx hx2), rc_2, h_ci (X9_byteAt_h hT1 (by omega)), h_if]
  have e := byI_c (tx_hb hT) (j := sk b n x) hc
  by_cases q : t_c b n (sk b n x) = c
  · rw [if_pos (e.mpr q), if_pos q, decide_eq_true q, gi_2, i22, pi_2, nI_1, u2_u2, h_rb1]; rfl
  · rw [if_neg (fun r => q (e.mp r)), if_neg q, decide_eq_false q, h_rb0]; rfl
theorem X9_takeSign_u (hs : ¬ I 2 3 = 0) (c : Int32) : X9_takeSign 2 c (hp I L ρ) = some (some (.int 0), hp I L ρ) := by
  unfold X9_takeSign
  rw [rc_2, h_ci X9_sound_h, decide_eq_false hs, bF, h_if, if_pos rfl, h_rb0]
theorem X9_needSign_s (hT : txX I b n) (hx : x ≤ n) (hx2 : I 2 2 = nI x) (hs : I 2 3 = 0) {c : Nat} (hc : 0 < c ∧ c < 1000) : X9_needSign 2 (nI c) (hp I L ρ) = some (none, hp (if t_c b n (sk b n x) = c then u2 I 2 2 (nI (sk b n x + 1)) else u2 (u2 (u2 I 2 2 (nI (sk b n x))) 2 3 1) 2 4 (nI (sk b n x))) L ρ) := by
  unfold X9_needSign
  rw [rc_2, h_ci (X9_takeSign_s hT hx hx2 hs hc), h_if]
  by_cases q : t_c b n (sk b n x) = c
  · rw [if_pos q, if_pos q, decide_eq_true q, if_neg (show ¬ bI true = 0 by decide)]; rfl
  · rw [if_neg q, if_neg q, decide_eq_false q, bF, if_pos rfl, gi_2, i22, rc_2, h_cv (X9_fail_s (i2_23 hs) _ _)]; rfl
theorem X9_needSign_u (hs : ¬ I 2 3 = 0) (c : Int32) : X9_needSign 2 c (hp I L ρ) = some (none, hp I L ρ) := by
  unfold X9_needSign
  rw [rc_2, h_ci (X9_takeSign_u hs c), h_if, if_pos rfl, gi_2, rc_2, h_cv (X9_fail_u hs _ _)]; rfl
/-! words -/
theorem t_in_1 {w : List Nat} : t_in b n a [w] 0 = if isW b n a w = true then some 0 else none := rfl
theorem X9_takeWord_s (hT : txX I b n) (hx : x ≤ n) (hx2 : I 2 2 = nI x) (hs : I 2 3 = 0) {k : Nat} (hk : k < 16) {w : List Nat} (hw : wsK k = [w]) (hl : zs_len.getD k 0 = w.length) : X9_takeWord 2 (zB + k) (hp I L ρ) = some (some (.int (bI (isW b n (sk b n x) w))), hp (u2 I 2 2 (nI (if isW b n (sk b n x) w = true then sk b n x + w.length else sk b n x))) L ρ) := by
  have hle := sk_le (b := b) hx
  have hn := hT.2.1
  have hwl := wl_le (b := b) hle
  have hz := (zs_small k hk).1
  have hT1 : txX (u2 I 2 2 (nI (sk b n x))) b n := txX_u (by omega) hT
  unfold X9_takeWord
  rw [rc_2, h_ci (X9_wordLength_h hT hx hx2 hs), h_slen hk, hl, h_if]
  by_cases q : wl b n (sk b n x) = w.length
  · rw [if_pos (by rw [q]), rc_2, h_ci (X9_listed_h hT1 hle i22 hk), hw, t_in_1, h_if]
    cases e : isW b n (sk b n x) w with
    | true => rw [if_pos rfl, oI_some, if_neg (nI_nm1 (by omega)), gi_2, i22, pi_2, q, nI_add, u2_u2, h_rb1]; rfl
    | false => rw [if_neg (show ¬ (false = true) by decide), oI_none, if_pos rfl, h_rb0]; rfl
  · have e : isW b n (sk b n x) w = false := decide_eq_false (fun r => q r.1)
    rw [if_neg (fun r => q ((nI_inj (by omega) (by omega)).mp r)), h_rb0, e]; rfl
theorem X9_takeWord_u (hT : txX I b n) (hx : x ≤ n) (hx2 : I 2 2 = nI x) (hs : ¬ I 2 3 = 0) {k : Nat} (hk : k < 16) (hl : zs_len.getD k 0 ≠ 0) : X9_takeWord 2 (zB + k) (hp I L ρ) = some (some (.int 0), hp (u2 I 2 2 (nI (sk b n x))) L ρ) := by
  have hz := (zs_small k hk).1
  unfold X9_takeWord
  rw [rc_2, h_ci (X9_wordLength_u hT hx hx2 hs), h_slen hk, h_if, if_neg (fun r => hl ((nI_inj (by omega) (by omega)).mp r).symm), h_rb0]
theorem X9_needWord_s (hT : txX I b n) (hx : x ≤ n) (hx2 : I 2 2 = nI x) (hs : I 2 3 = 0) {k : Nat} (hk : k < 16) {w : List Nat} (hw : wsK k = [w]) (hl : zs_len.getD k 0 = w.length) : X9_needWord 2 (zB + k) (hp I L ρ) = some (none, hp (if isW b n (sk b n x) w = true then u2 I 2 2 (nI (sk b n x + w.length)) else u2 (u2 (u2 I 2 2 (nI (sk b n x))) 2 3 1) 2 4 (nI (sk b n x))) L ρ) := by
  unfold X9_needWord
  rw [rc_2, h_ci (X9_takeWord_s hT hx hx2 hs hk hw hl), h_if]
  cases e : isW b n (sk b n x) w with
  | true => rw [if_neg (show ¬ bI true = 0 by decide), if_pos rfl, if_pos rfl]; rfl
  | false => rw [bF, if_pos rfl, if_neg (by decide), if_neg (by decide), gi_2, i22, rc_2, h_cv (X9_fail_s (i2_23 hs) _ _)]; rfl
theorem X9_needWord_u (hT : txX I b n) (hx : x ≤ n) (hx2 : I 2 2 = nI x) (hs : ¬ I 2 3 = 0) {k : Nat} (hk : k < 16) (hl : zs_len.getD k 0 ≠ 0) : X9_needWord 2 (zB + k) (hp I L ρ) = some (none, hp (u2 I 2 2 (nI (sk b n x))) L ρ) := by
  have hs1 : ¬ u2 I 2 2 (nI (sk b n x)) 2 3 = 0 := by rw [i23]; exact hs
  unfold X9_needWord
  rw [rc_2, h_ci (X9_takeWord_u hT hx hx2 hs hk hl), h_if, if_pos rfl, gi_2, i22, rc_2, h_cv (X9_fail_u hs1 _ _)]; rfl
theorem X9_wordIn_s (hT : txX I b n) (hx : x ≤ n) (hx2 : I 2 2 = nI x) (hs : I 2 3 = 0) {k : Nat} (hk : k < 16) : X9_wordIn 2 (zB + k) (hp I L ρ) = some (some (.int (oI (t_in b n (sk b n x) (wsK k) 0))), hp (u2 I 2 2 (nI (sk b n x))) L ρ) := by
  have hle := sk_le (b := b) hx
  have hT1 : txX (u2 I 2 2 (nI (sk b n x))) b n := txX_u (by omega) hT
  unfold X9_wordIn
  rw [rc_2, h_ci (X9_wordLength_h hT hx hx2 hs), rc_2, h_ci (X9_listed_h hT1 hle i22 hk)]; rfl
theorem X9_wordIn_u (hT : txX I b n) (hx : x ≤ n) (hx2 : I 2 2 = nI x) (hs : ¬ I 2 3 = 0) {k : Nat} (hk : k < 16) : X9_wordIn 2 (zB + k) (hp I L ρ) = some (some (.int (-1)), hp (u2 I 2 2 (nI (sk b n x))) L ρ) := by
  have hle := sk_le (b := b) hx
  have hT1 : txX (u2 I 2 2 (nI (sk b n x))) b n := txX_u (by omega) hT
  unfold X9_wordIn
  rw [rc_2, h_ci (X9_wordLength_u hT hx hx2 hs), rc_2, h_ci (X9_listed_0 hT1 hle i22 hk)]; rfl
/-- behind a word that was just looked at -/
theorem X9_passWord_s (hT : txX I b n) (hx : x ≤ n) (hx2 : I 2 2 = nI x) (hs : I 2 3 = 0) (hk : sk b n x = x) : X9_passWord 2 (hp I L ρ) = some (none, hp (u2 I 2 2 (nI (x + wl b n x))) L ρ) := by
  have e := X9_wordLength_h (L := L) (ρ := ρ) hT hx hx2 hs
  rw [hk] at e
  unfold X9_passWord
  rw [gi_2, hx2, rc_2, h_ci e, pi_2, u2_u2, nI_add]; rfl
theorem X9_passWord_u (hT : txX I b n) (hx : x ≤ n) (hx2 : I 2 2 = nI x) (hs : ¬ I 2 3 = 0) : X9_passWord 2 (hp I L ρ) = some (none, hp (u2 I 2 2 (nI x)) L ρ) := by
  unfold X9_passWord
  rw [gi_2, hx2, rc_2, h_ci (X9_wordLength_u hT hx hx2 hs), pi_2, u2_u2, nI_add]; rfl
/-! numbers -/
theorem X9_num_lp (hT : txX I b n) {lo hi : Int32} : ∀ (m c v fuel : Nat), c + m = a + 4 → a ≤ c → c ≤ n → m < fuel → z_fix (fun r x => X9_takeNumber_B43 2 lo hi (nI a) r x.1 x.2) fuel (nI v, nI c) (hp I L ρ) = X9_takeNumber_J86 2 lo hi (nI a) (nI (t_n b n m v c).1) (nI (t_n b n m v c).2) (hp I L ρ) := by
  have hn := hT.2.1
  intro m
  induction m with
  | zero =>
    intro c v fuel h1 h2 h3 h5
    obtain ⟨f, rfl⟩ : ∃ f, fuel = f + 1 := ⟨fuel - 1, by omega⟩
    rw [h_fix]
    show X9_takeNumber_B43 2 lo hi (nI a) _ (nI v) (nI c) (hp I L ρ) = X9_takeNumber_J86 2 lo hi (nI a) (nI v) (nI c) (hp I L ρ)
    unfold X9_takeNumber_B43
    rw [h_if, show (4 : Int32) = nI 4 from rfl, nI_add, if_pos (nI_le (by omega) (by omega))]
  | succ m ih =>
    intro c v fuel h1 h2 h3 h5
    obtain ⟨f, rfl⟩ : ∃ f, fuel = f + 1 := ⟨fuel - 1, by omega⟩
    rw [h_fix]
    show X9_takeNumber_B43 2 lo hi (nI a) _ (nI v) (nI c) (hp I L ρ) = _
    have hi2 := fun v2 hc => ih (c + 1) v2 f (by omega) (by omega) hc (by omega)
    generalize z_fix (fun r x => X9_takeNumber_B43 2 lo hi (nI a) r x.1 x.2) f = rec at hi2
    unfold X9_takeNumber_B43 t_n
    rw [h_if, show (4 : Int32) = nI 4 from rfl, nI_add, if_neg (nI_ge (by omega) (by omega)), rc_2, h_ci (X9_byteAt_h hT (by omega)), h_ci (X11_isDigit_by (tx_hb hT) c), h_if]
    cases e : isD (t_c b n c) with
    | true =>
      obtain ⟨l1, l2, l3⟩ := isD_lt e
      have hv : byI b n c = nI (t_c b n c) := by unfold byI; rw [if_pos l1, t_c_lt l1]
      rw [if_neg (show ¬ bI true = 0 by decide), rc_2, h_ci (X9_byteAt_h hT (by omega)), hv, show (10 : Int32) = nI 10 from rfl, pk_mul, nI_add, show (48 : Int32) = nI 48 from rfl, pk_sub (by omega), nI_1, if_pos rfl, show v * 10 + t_c b n c - 48 = v * 10 + (t_c b n c - 48) by omega]
      exact hi2 _ (by omega)
    | false => rw [bF, if_pos rfl, if_neg (by decide)]
theorem X9_num_all (hT : txX I b n) (hx : x ≤ n) (hx2 : I 2 2 = nI x) {lo hi : Int32} : X9_takeNumber 2 lo hi (hp I L ρ) = (if ¬ isD (t_c b n (sk b n x)) = true ∨ (0 < sk b n x ∧ isL (t_c b n (sk b n x - 1)) = true) then X9_takeNumber_J29 2 lo (nI (sk b n x)) else X9_takeNumber_J86 2 lo hi (nI (sk b n x)) (nI (t_n b n 4 0 (sk b n x)).1) (nI (t_n b n 4 0 (sk b n x)).2)) (hp (u2 I 2 2 (nI (sk b n x))) L ρ) := by
  have hle := sk_le (b := b) hx
  have hn := hT.2.1
  have hT1 : txX (u2 I 2 2 (nI (sk b n x))) b n := txX_u (by omega) hT
  have e := X9_num_lp (L := L) (ρ := ρ) (a := sk b n x) hT1 (lo := lo) (hi := hi) 4 (sk b n x) 0 zFU (by omega) (Nat.le_refl _) hle (by unfold zFU; omega)
  unfold X9_takeNumber
  rw [rc_2, h_ci (X9_begin_h hT hx hx2), rc_2, h_ci (X9_byteAt_h hT1 (by omega)), h_ci (X11_isDigit_by (tx_hb hT) _), h_if]
  cases q : isD (t_c b n (sk b n x)) with
  | false => rw [bF, if_pos rfl, if_pos (Or.inl (by simp))]
  | true =>
    rw [if_neg (show ¬ bI true = 0 by decide), rc_2, h_ci (X9_byteAt_p hT1 (by omega)), h_ci (X11_isLetter_p (tx_hb hT) _), h_if]
    cases q2 : pvL b n (sk b n x) with
    | true => rw [if_neg (show ¬ bI true = 0 by decide), if_pos (Or.inr (of_decide_eq_true q2))]
    | false =>
      rw [bF, if_pos rfl, if_neg (fun r => by
        rcases r with r | r
        · exact r rfl
        · exact (of_decide_eq_false q2) r)]
      exact e
theorem X9_J126_s {v e : Nat} {lo : Int32} (hs : I 2 3 = 0) : X9_takeNumber_J126 2 lo (nI v) (nI e) (hp I L ρ) = some (some (.int (nI v)), hp (u2 I 2 2 (nI e)) L ρ) := by
  unfold X9_takeNumber_J126
  rw [pi_2, rc_2, h_ci X9_sound_h, i23, hs, h_if, if_neg (by decide)]; rfl
theorem X9_J126_u {v e : Nat} {lo : Int32} (hs : ¬ I 2 3 = 0) : X9_takeNumber_J126 2 lo (nI v) (nI e) (hp I L ρ) = some (some (.int lo), hp (u2 I 2 2 (nI e)) L ρ) := by
  unfold X9_takeNumber_J126
  rw [pi_2, rc_2, h_ci X9_sound_h, i23, decide_eq_false hs, bF, h_if, if_pos rfl]; rfl
/-- a fault is set -/
def flt (I : Nat → Nat → Int32) (y k p : Nat) : Nat → Nat → Int32 := u2 (u2 (u2 I 2 2 (nI y)) 2 3 (nI k)) 2 4 (nI p)
theorem X9_num_ok (hT : txX I b n) (hx : x ≤ n) (hx2 : I 2 2 = nI x) (hs : I 2 3 = 0) {lo hi v e : Nat} (hlo : lo < 10000) (hhi : hi < 10000) (h : p_num b n lo hi (sk b n x) = .inr (v, e)) : X9_takeNumber 2 (nI lo) (nI hi) (hp I L ρ) = some (some (.int (nI v)), hp (u2 I 2 2 (nI e)) L ρ) ∧ sk b n x < e ∧ e ≤ n ∧ v ≤ hi ∧ lo ≤ v := by
  have hle := sk_le (b := b) hx
  have hn := hT.2.1
  have hT1 : txX (u2 I 2 2 (nI (sk b n x))) b n := txX_u (by omega) hT
  obtain ⟨⟨n1, n2, n3⟩, n4, n5⟩ := t_n_in (b := b) 4 0 (sk b n x) hle
  rw [X9_num_all hT hx hx2]
  unfold p_num at h
  by_cases c1 : ¬ isD (t_c b n (sk b n x)) = true ∨ (0 < sk b n x ∧ isL (t_c b n (sk b n x - 1)) = true)
  · rw [if_pos c1] at h; cases h
  rw [if_neg c1] at h
  rw [if_neg c1]
  have hgt : sk b n x < (t_n b n 4 0 (sk b n x)).2 := by
    have hd : isD (t_c b n (sk b n x)) = true := by
      by_cases q : isD (t_c b n (sk b n x)) = true
      · exact q
      · exact absurd (Or.inl q) c1
    have hd2 := isD_lt hd
    have := (t_n_in (b := b) (n := n) 3 (0 * 10 + (t_c b n (sk b n x) - 48)) (sk b n x + 1) (by omega)).1.1
    have e4 : t_n b n 4 0 (sk b n x) = t_n b n 3 (0 * 10 + (t_c b n (sk b n x) - 48)) (sk b n x + 1) := if_pos hd
    rw [e4]
    exact this
  by_cases c2 : isD (t_c b n (t_n b n 4 0 (sk b n x)).2) = true
  · rw [if_pos c2] at h; cases h
  rw [if_neg c2] at h
  by_cases c3 : (t_n b n 4 0 (sk b n x)).1 < lo ∨ hi < (t_n b n 4 0 (sk b n x)).1
  · rw [if_pos c3] at h; cases h
  rw [if_neg c3] at h
  cases h
  refine ⟨?_, hgt, n2, by omega, by omega⟩
  have c2' : isD (t_c b n (t_n b n 4 0 (sk b n x)).2) = false := by simpa using c2
  unfold X9_takeNumber_J86
  rw [rc_2, h_ci (X9_byteAt_h hT1 (by omega)), h_ci (X11_isDigit_by (tx_hb hT) _), c2', bF, h_if, if_pos rfl, h_if, if_neg (by rw [nI_lt' (by omega) (by omega)]; omega), h_if, if_pos (nI_le (by omega) (by omega)), X9_J126_s (i2_23 hs), u2_u2]
theorem X9_num_no (hT : txX I b n) (hx : x ≤ n) (hx2 : I 2 2 = nI x) (hs : I 2 3 = 0) {lo hi k p : Nat} (hlo : lo < 10000) (hhi : hi < 10000) (h : p_num b n lo hi (sk b n x) = .inl (k, p)) : ∃ y, X9_takeNumber 2 (nI lo) (nI hi) (hp I L ρ) = some (some (.int (nI lo)), hp (flt I y k p) L ρ) ∧ y ≤ n ∧ (k = 1 ∨ k = 2) := by
  have hle := sk_le (b := b) hx
  have hn := hT.2.1
  have hT1 : txX (u2 I 2 2 (nI (sk b n x))) b n := txX_u (by omega) hT
  obtain ⟨⟨n1, n2, n3⟩, n4, n5⟩ := t_n_in (b := b) 4 0 (sk b n x) hle
  have hmv : ∀ (y k p : Nat), u2 (u2 (u2 (u2 I 2 2 (nI (sk b n x))) 2 3 (nI k)) 2 4 (nI p)) 2 2 (nI y) = flt I y k p := by
    intro y k p
    unfold flt
    funext c i
    simp only [u2_ap]
    by_cases q : c = 2 ∧ i = 2
    · rw [if_pos q, if_neg (by omega), if_neg (by omega), if_pos q]
    · rw [if_neg q, if_neg q]
      by_cases q2 : c = 2 ∧ i = 4
      · rw [if_pos q2, if_pos q2]
      · rw [if_neg q2, if_neg q2]
        by_cases q3 : c = 2 ∧ i = 3
        · rw [if_pos q3, if_pos q3]
        · rw [if_neg q3, if_neg q3, if_neg q]
  rw [X9_num_all hT hx hx2]
  unfold p_num at h
  by_cases c1 : ¬ isD (t_c b n (sk b n x)) = true ∨ (0 < sk b n x ∧ isL (t_c b n (sk b n x - 1)) = true)
  · rw [if_pos c1] at h
    cases h
    rw [if_pos c1]
    refine ⟨sk b n x, ?_, hle, Or.inl rfl⟩
    unfold X9_takeNumber_J29
    rw [rc_2, h_cv (X9_fail_s (i2_23 hs) _ _)]; rfl
  rw [if_neg c1] at h
  rw [if_neg c1]
  unfold X9_takeNumber_J86 X9_takeNumber_J120
  by_cases c2 : isD (t_c b n (t_n b n 4 0 (sk b n x)).2) = true
  · rw [if_pos c2] at h
    cases h
    refine ⟨(t_n b n 4 0 (sk b n x)).2, ?_, n2, Or.inl rfl⟩
    rw [rc_2, h_ci (X9_byteAt_h hT1 (by omega)), h_ci (X11_isDigit_by (tx_hb hT) _), c2, h_if, if_neg (show ¬ bI true = 0 by decide), rc_2, h_cv (X9_fail_s (i2_23 hs) _ _), X9_J126_u (by rw [u2_ap, if_neg (by omega), u2_ap, if_pos ⟨rfl, rfl⟩]; decide), show (1 : Int32) = nI 1 from rfl, hmv]
  rw [if_neg c2] at h
  have c2' : isD (t_c b n (t_n b n 4 0 (sk b n x)).2) = false := by simpa using c2
  by_cases c3 : (t_n b n 4 0 (sk b n x)).1 < lo ∨ hi < (t_n b n 4 0 (sk b n x)).1
  · rw [if_pos c3] at h
    cases h
    refine ⟨(t_n b n 4 0 (sk b n x)).2, ?_, n2, Or.inr rfl⟩
    have e120 : X9_takeNumber_J126 2 (nI lo) (nI (t_n b n 4 0 (sk b n x)).1) (nI (t_n b n 4 0 (sk b n x)).2) (hp (u2 (u2 (u2 I 2 2 (nI (sk b n x))) 2 3 2) 2 4 (nI (sk b n x))) L ρ) = some (some (.int (nI lo)), hp (flt I (t_n b n 4 0 (sk b n x)).2 2 (sk b n x)) L ρ) := by
      rw [X9_J126_u (by rw [u2_ap, if_neg (by omega), u2_ap, if_pos ⟨rfl, rfl⟩]; decide), show (2 : Int32) = nI 2 from rfl, hmv]
    rw [rc_2, h_ci (X9_byteAt_h hT1 (by omega)), h_ci (X11_isDigit_by (tx_hb hT) _), c2', bF, h_if, if_pos rfl, h_if]
    by_cases c4 : (t_n b n 4 0 (sk b n x)).1 < lo
    · rw [if_pos (by rw [nI_lt' (by omega) (by omega)]; omega), rc_2, h_cv (X9_fail_s (i2_23 hs) _ _)]
      exact e120
    · rw [if_neg (by rw [nI_lt' (by omega) (by omega)]; omega), h_if, if_neg (nI_ge (by omega) (by omega)), rc_2, h_cv (X9_fail_s (i2_23 hs) _ _)]
      exact e120
  · rw [if_neg c3] at h; cases h
theorem X9_num_u (hT : txX I b n) (hx : x ≤ n) (hx2 : I 2 2 = nI x) (hs : ¬ I 2 3 = 0) {lo hi : Int32} : ∃ y, X9_takeNumber 2 lo hi (hp I L ρ) = some (some (.int lo), hp (u2 I 2 2 (nI y)) L ρ) ∧ y ≤ n := by
  have hle := sk_le (b := b) hx
  have hn := hT.2.1
  have hT1 : txX (u2 I 2 2 (nI (sk b n x))) b n := txX_u (by omega) hT
  have hs1 : ¬ u2 I 2 2 (nI (sk b n x)) 2 3 = 0 := by rw [i23]; exact hs
  obtain ⟨⟨n1, n2, n3⟩, n4, n5⟩ := t_n_in (b := b) 4 0 (sk b n x) hle
  rw [X9_num_all hT hx hx2]
  by_cases c1 : ¬ isD (t_c b n (sk b n x)) = true ∨ (0 < sk b n x ∧ isL (t_c b n (sk b n x - 1)) = true)
  · rw [if_pos c1]
    refine ⟨sk b n x, ?_, hle⟩
    unfold X9_takeNumber_J29
    rw [rc_2, h_cv (X9_fail_u hs1 _ _)]; rfl
  · rw [if_neg c1]
    refine ⟨(t_n b n 4 0 (sk b n x)).2, ?_, n2⟩
    have e120 : ∀ v, X9_takeNumber_J126 2 lo (nI v) (nI (t_n b n 4 0 (sk b n x)).2) (hp (u2 I 2 2 (nI (sk b n x))) L ρ) = some (some (.int lo), hp (u2 I 2 2 (nI (t_n b n 4 0 (sk b n x)).2)) L ρ) := by
      intro v
      rw [X9_J126_u hs1, u2_u2]
    unfold X9_takeNumber_J86 X9_takeNumber_J120
    rw [rc_2, h_ci (X9_byteAt_h hT1 (by omega)), h_ci (X11_isDigit_by (tx_hb hT) _), h_if]
    split
    · rw [h_if]
      split
      · rw [rc_2, h_cv (X9_fail_u hs1 _ _)]
        exact e120 _
      · rw [h_if]
        split
        · exact e120 _
        · rw [rc_2, h_cv (X9_fail_u hs1 _ _)]
          exact e120 _
    · rw [rc_2, h_cv (X9_fail_u hs1 _ _)]
      exact e120 _
/-! names -/
theorem X9_nm_lp {cnt : Nat} {s : Bool} (hcnt : a + cnt ≤ n) (hL : s = true → ∀ j, j < cnt → isL (t_c b n (a + j)) = true) : ∀ (m i fuel : Nat) (I : Nat → Nat → Int32), i + m = 6 → m < fuel → txX I b n → I 2 2 = nI a → decide (I 2 3 = 0) = s → ∃ I', z_fix (fun r x => X9_takeName_B52 2 12 (nI cnt) r x) fuel (nI i) (hp I L ρ) = some (none, hp I' L ρ) ∧ (∀ x, x ≠ 12 → x ≠ 2 → I' x = I x) ∧ (∀ k, k ≠ 2 → I' 2 k = I 2 k) ∧ I' 2 2 = nI (a + cnt) ∧ (∀ j, i ≤ j → j < 6 → I' 12 j = nI (if s = true ∧ j < cnt then t_c b n (a + j) - 96 else 0)) ∧ ∀ j, j < i → I' 12 j = I 12 j := by
  intro m
  induction m with
  | zero =>
    intro i fuel I h1 h2 hT h3 h4
    obtain ⟨f, rfl⟩ : ∃ f, fuel = f + 1 := ⟨fuel - 1, by omega⟩
    obtain rfl : i = 6 := by omega
    refine ⟨u2 I 2 2 (nI (a + cnt)), ?_, fun x _ q => u2r q, fun k hk => by rw [u2_ap, if_neg (by omega)], i22, fun j q1 q2 => by omega, fun j _ => by rw [u2r (by omega)]⟩
    rw [h_fix]
    show X9_takeName_B52 2 12 (nI cnt) _ (nI 6) (hp I L ρ) = _
    unfold X9_takeName_B52 X9_takeName_J104
    rw [h_if, if_pos (by decide), gi_2, h3, pi_2, nI_add]; rfl
  | succ m ih =>
    intro i fuel I h1 h2 hT h3 h4
    obtain ⟨f, rfl⟩ : ∃ f, fuel = f + 1 := ⟨fuel - 1, by omega⟩
    have hn := hT.2.1
    obtain ⟨I', r1, r2, r3, r4, r5, r6⟩ := ih (i + 1) f (u2 I 12 i (nI (if s = true ∧ i < cnt then t_c b n (a + i) - 96 else 0))) (by omega) (by omega) (txX_fr (u2r (by omega)) (by rw [u2r (by omega)]) hT) (by rw [u2r (by omega)]; exact h3) (by rw [u2r (by omega)]; exact h4)
    refine ⟨I', ?_, fun x q1 q2 => by rw [r2 x q1 q2, u2r q1], fun k hk => by rw [r3 k hk, u2r (by omega)], r4, fun j q1 q2 => ?_, fun j q => by rw [r6 j (by omega), u2_ap, if_neg (by omega)]⟩
    · rw [h_fix, ← r1]
      show X9_takeName_B52 2 12 (nI cnt) _ (nI i) (hp I L ρ) = _
      unfold X9_takeName_B52 X9_takeName_J96 X9_takeName_J97
      rw [h_if, if_neg (by rw [show (6 : Int32) = nI 6 from rfl, nI_le' (by omega) (by omega)]; omega), len_12, h_if, if_neg (nI_ge (by omega) (by omega)), rc_2, h_ci X9_sound_h, h4, h_if]
      cases s with
      | false => rw [bF, if_pos rfl, sa_12 (by omega), nI_1, if_neg (by simp)]; rfl
      | true =>
        rw [if_neg (show ¬ bI true = 0 by decide), h_if]
        by_cases c : i < cnt
        · obtain ⟨l1, l2, l3⟩ := isL_lt (hL rfl i c)
          have hv : byI b n (a + i) = nI (t_c b n (a + i)) := by unfold byI; rw [if_pos l1, t_c_lt l1]
          rw [if_neg (nI_ge (by omega) (by omega)), gi_2, h3, nI_add, rc_2, h_ci (X9_byteAt_h hT (by omega)), hv, show (97 : Int32) = nI 97 from rfl, pk_sub (by omega), nI_1, sa_12 (by omega), nI_1, if_pos ⟨rfl, c⟩, show t_c b n (a + i) - 97 + 1 = t_c b n (a + i) - 96 by omega]
        · rw [if_pos (nI_le (by omega) (by omega)), sa_12 (by omega), nI_1, if_neg (fun q => c q.2)]; rfl
    · by_cases c : j = i
      · rw [c, r6 i (by omega), u2_ap, if_pos ⟨rfl, rfl⟩]
      · exact r5 j (by omega) q2
def p_nmb (b : Nat → Nat) (n a : Nat) : Option Nat := if wl b n a = 0 ∨ t_in b n a (wsK 2) 0 ≠ none then some a else if 6 < wl b n a then some (a + 6) else none
def p_nml (b : Nat → Nat) (n a i : Nat) : Nat := if i < wl b n a then t_c b n (a + i) - 96 else 0
theorem wl_L (h : 0 < wl b n a) : ∀ j, j < wl b n a → isL (t_c b n (a + j)) = true := by
  intro j hj
  unfold wl at h hj
  by_cases c : 0 < a ∧ isD (t_c b n (a - 1)) = true
  · rw [if_pos c] at h; omega
  · rw [if_neg c] at hj
    exact t_l_in hj
theorem X9_name_ok (hT : txX I b n) (hx : x ≤ n) (hx2 : I 2 2 = nI x) (hs : I 2 3 = 0) (h : p_nmb b n (sk b n x) = none) : ∃ I', X9_takeName 2 12 (hp I L ρ) = some (none, hp I' L ρ) ∧ (∀ x, x ≠ 12 → x ≠ 2 → I' x = I x) ∧ (∀ k, k ≠ 2 → I' 2 k = I 2 k) ∧ I' 2 2 = nI (sk b n x + wl b n (sk b n x)) ∧ (∀ j, j < 6 → I' 12 j = nI (p_nml b n (sk b n x) j)) ∧ 0 < wl b n (sk b n x) ∧ wl b n (sk b n x) ≤ 6 := by
  have hle := sk_le (b := b) hx
  have hn := hT.2.1
  have hwl := wl_le (b := b) hle
  have hT1 : txX (u2 I 2 2 (nI (sk b n x))) b n := txX_u (by omega) hT
  unfold p_nmb at h
  by_cases c1 : wl b n (sk b n x) = 0 ∨ t_in b n (sk b n x) (wsK 2) 0 ≠ none
  · rw [if_pos c1] at h; cases h
  rw [if_neg c1] at h
  by_cases c2 : 6 < wl b n (sk b n x)
  · rw [if_pos c2] at h; cases h
  have hpos : 0 < wl b n (sk b n x) := Nat.pos_of_ne_zero (fun e => c1 (Or.inl e))
  have hno : t_in b n (sk b n x) (wsK 2) 0 = none := by
    rcases q : t_in b n (sk b n x) (wsK 2) 0 with _ | y
    · rfl
    · exact absurd (Or.inr (by rw [q]; simp)) c1
  obtain ⟨I', r1, r2, r3, r4, r5, -⟩ := X9_nm_lp (L := L) (ρ := ρ) (a := sk b n x) (s := true) hwl (fun _ => wl_L hpos) 6 0 zFU (u2 I 2 2 (nI (sk b n x))) (by omega) (by unfold zFU; omega) hT1 i22 (by rw [i23, hs]; rfl)
  refine ⟨I', ?_, fun x q1 q2 => by rw [r2 x q1 q2, u2r q2], fun k hk => by rw [r3 k hk, u2_ap, if_neg (by omega)], r4, fun j hj => ?_, hpos, by omega⟩
  · have r1' : X9_takeName_J50 2 12 (nI (wl b n (sk b n x))) (hp (u2 I 2 2 (nI (sk b n x))) L ρ) = some (none, hp I' L ρ) := r1
    unfold X9_takeName
    rw [rc_2, h_ci (X9_wordLength_h hT hx hx2 hs), h_if, if_neg (fun e => by have := (nI_inj (b := 0) (by omega) (by omega)).mp e; omega), rc_2, h_ci (X9_listed_h hT1 hle i22 (k := 2) (by omega)), hno, oI_none, h_if, if_pos rfl, h_if, if_pos (by rw [show (6 : Int32) = nI 6 from rfl, nI_le' (by omega) (by omega)]; omega), r1']
  · rw [r5 j (Nat.zero_le _) hj]
    unfold p_nml
    by_cases c : j < wl b n (sk b n x)
    · rw [if_pos ⟨rfl, c⟩, if_pos c]
    · rw [if_neg (fun q => c q.2), if_neg c]
theorem X9_name_no (hT : txX I b n) (hx : x ≤ n) (hx2 : I 2 2 = nI x) (hs : I 2 3 = 0) {p : Nat} (h : p_nmb b n (sk b n x) = some p) : ∃ I' y, X9_takeName 2 12 (hp I L ρ) = some (none, hp I' L ρ) ∧ (∀ x, x ≠ 12 → x ≠ 2 → I' x = I x) ∧ I' 2 1 = I 2 1 ∧ I' 2 2 = nI y ∧ y ≤ n ∧ I' 2 3 = 1 ∧ I' 2 4 = nI p := by
  have hle := sk_le (b := b) hx
  have hn := hT.2.1
  have hwl := wl_le (b := b) hle
  have hT1 : txX (u2 I 2 2 (nI (sk b n x))) b n := txX_u (by omega) hT
  have key : ∀ p, ∃ I', X9_takeName_J50 2 12 (nI (wl b n (sk b n x))) (hp (u2 (u2 (u2 I 2 2 (nI (sk b n x))) 2 3 1) 2 4 (nI p)) L ρ) = some (none, hp I' L ρ) ∧ (∀ x, x ≠ 12 → x ≠ 2 → I' x = I x) ∧ I' 2 1 = I 2 1 ∧ I' 2 2 = nI (sk b n x + wl b n (sk b n x)) ∧ I' 2 3 = 1 ∧ I' 2 4 = nI p := by
    intro p
    obtain ⟨I', r1, r2, r3, r4, r5, -⟩ := X9_nm_lp (L := L) (ρ := ρ) (a := sk b n x) (b := b) (n := n) (s := false) hwl (fun e => by cases e) 6 0 zFU (u2 (u2 (u2 I 2 2 (nI (sk b n x))) 2 3 1) 2 4 (nI p)) (by omega) (by unfold zFU; omega) (txX_u (by omega) (txX_u (by omega) hT1)) (by rw [u2_ap, if_neg (by omega), u2_ap, if_neg (by omega), i22]) (by rw [u2_ap, if_neg (by omega), u2_ap, if_pos ⟨rfl, rfl⟩]; rfl)
    refine ⟨I', r1, fun x q1 q2 => by rw [r2 x q1 q2, u2r q2, u2r q2, u2r q2], ?_, r4, ?_, ?_⟩
    · rw [r3 1 (by omega), u2_ap, if_neg (by omega), u2_ap, if_neg (by omega), u2_ap, if_neg (by omega)]
    · rw [r3 3 (by omega), u2_ap, if_neg (by omega), u2_ap, if_pos ⟨rfl, rfl⟩]
    · rw [r3 4 (by omega), u2_ap, if_pos ⟨rfl, rfl⟩]
  have e20 : ∀ p I', X9_takeName_J50 2 12 (nI (wl b n (sk b n x))) (hp (u2 (u2 (u2 I 2 2 (nI (sk b n x))) 2 3 1) 2 4 (nI (sk b n x))) L ρ) = some (none, hp I' L ρ) → p = sk b n x → X9_takeName_J20 2 12 (nI (wl b n (sk b n x))) (hp (u2 I 2 2 (nI (sk b n x))) L ρ) = some (none, hp I' L ρ) := by
    intro p I' e _
    unfold X9_takeName_J20
    rw [gi_2, i22, rc_2, h_cv (X9_fail_s (i2_23 hs) _ _), e]
  unfold p_nmb at h
  unfold X9_takeName
  rw [rc_2, h_ci (X9_wordLength_h hT hx hx2 hs), h_if]
  by_cases c0 : wl b n (sk b n x) = 0
  · rw [if_pos (Or.inl c0)] at h
    cases h
    obtain ⟨I', r1, r2, r3, r4, r5, r6⟩ := key (sk b n x)
    refine ⟨I', _, ?_, r2, r3, r4, hwl, r5, r6⟩
    rw [if_pos (by rw [c0]; rfl)]
    exact e20 _ _ r1 rfl
  · rw [if_neg (show ¬ nI (wl b n (sk b n x)) = 0 from fun e => c0 ((nI_inj (b := 0) (by omega) (by omega)).mp e)), rc_2, h_ci (X9_listed_h hT1 hle i22 (k := 2) (by omega)), h_if]
    rcases q : t_in b n (sk b n x) (wsK 2) 0 with _ | y
    · rw [if_neg (by rw [q]; simp [c0])] at h
      rw [oI_none, if_pos rfl, h_if]
      by_cases c2 : 6 < wl b n (sk b n x)
      · rw [if_pos c2] at h
        cases h
        obtain ⟨I', r1, r2, r3, r4, r5, r6⟩ := key (sk b n x + 6)
        refine ⟨I', _, ?_, r2, r3, r4, hwl, r5, r6⟩
        rw [if_neg (by rw [show (6 : Int32) = nI 6 from rfl, nI_le' (by omega) (by omega)]; omega), gi_2, i22, show (6 : Int32) = nI 6 from rfl, nI_add, rc_2, h_cv (X9_fail_s (i2_23 hs) _ _), r1]
      · rw [if_neg c2] at h; cases h
    · rw [if_pos (Or.inr (by rw [q]; simp))] at h
      cases h
      obtain ⟨I', r1, r2, r3, r4, r5, r6⟩ := key (sk b n x)
      have hy := (t_in_lt q).1
      have hlen : (wsK 2).length = 28 := by decide
      refine ⟨I', _, ?_, r2, r3, r4, hwl, r5, r6⟩
      rw [oI_some, if_neg (nI_nm1 (by omega))]
      exact e20 _ _ r1 rfl
theorem X9_name_u (hT : txX I b n) (hx : x ≤ n) (hx2 : I 2 2 = nI x) (hs : ¬ I 2 3 = 0) : ∃ I', X9_takeName 2 12 (hp I L ρ) = some (none, hp I' L ρ) ∧ (∀ x, x ≠ 12 → x ≠ 2 → I' x = I x) ∧ (∀ k, k ≠ 2 → I' 2 k = I 2 k) ∧ I' 2 2 = nI (sk b n x) ∧ sk b n x ≤ n := by
  have hle := sk_le (b := b) hx
  have hT1 : txX (u2 I 2 2 (nI (sk b n x))) b n := txX_u (by omega) hT
  obtain ⟨I', r1, r2, r3, r4, r5, -⟩ := X9_nm_lp (L := L) (ρ := ρ) (a := sk b n x) (cnt := 0) (b := b) (n := n) (s := false) (by omega) (fun e => by cases e) 6 0 zFU (u2 I 2 2 (nI (sk b n x))) (by omega) (by unfold zFU; omega) hT1 i22 (by rw [i23, decide_eq_false hs])
  refine ⟨I', ?_, fun x q1 q2 => by rw [r2 x q1 q2, u2r q2], fun k hk => by rw [r3 k hk, u2_ap, if_neg (by omega)], r4, hle⟩
  have r1' : X9_takeName_J50 2 12 (nI 0) (hp (u2 I 2 2 (nI (sk b n x))) L ρ) = some (none, hp I' L ρ) := r1
  unfold X9_takeName X9_takeName_J20
  rw [rc_2, h_ci (X9_wordLength_u hT hx hx2 hs), h_if, if_pos (show nI 0 = 0 from rfl), gi_2, i22, rc_2, h_cv (X9_fail_u (by rw [i23]; exact hs) _ _), r1']
end B62
