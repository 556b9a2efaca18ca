/-! the reference's text: what is taken, numbers, names -/
section B64
variable {I I0 : Nat → Nat → Int32} {L L0 : Nat → Nat → Int64} {ρ : zRh} {h : zH} {b : Nat → Nat} {n a x : Nat}
theorem m22 {v : Int32} : u2 I 215 2 v 215 2 = v := by rw [u2_ap, if_pos ⟨rfl, rfl⟩]
theorem m25 {v : Int32} : u2 I 215 2 v 215 5 = I 215 5 := by rw [u2_ap, if_neg (by omega)]
theorem isW_le {w : List Nat} (h : isW b n a w = true) (ha : a ≤ n) : 0 < w.length ∧ a + w.length ≤ n ∧ wl b n a = w.length := by
  have h1 := of_decide_eq_true h
  have h2 := wl_le (b := b) ha
  omega
/-- behind a word -/
theorem tkM_word (hT : tkM I b n a) (hl : 0 < wl b n a) {f : Nat → Nat → Int32} (h1 : f 216 = I 216) (h2 : f 215 3 = I 215 3) (h3 : f 215 2 = nI (a + wl b n a)) (h4 : f 215 4 = nI (a + wl b n a)) : tkM f b n (a + wl b n a) := by
  have hle := wl_le (b := b) hT.2.1
  have hL := wl_L hl (wl b n a - 1) (by omega)
  rw [show a + (wl b n a - 1) = a + wl b n a - 1 by omega] at hL
  have hpv : pvL b n (a + wl b n a) = true := decide_eq_true ⟨by omega, hL⟩
  have hpd : pvD b n (a + wl b n a) = false := decide_eq_false (fun q => by
    have := LD_no hL
    rw [this] at q
    exact absurd q.2 (by decide))
  have hend : isL (t_c b n (a + wl b n a)) = false := by
    have e : wl b n a = t_l b n a := by
      unfold wl at hl ⊢
      split
      · rename_i c
        rw [if_pos c] at hl; omega
      · rfl
    rw [e]
    have := t_l_end (b := b) (n := n) (a := a)
    simpa using this
  refine ⟨txM_fr h1 h2 hT.1, hle, h3, ⟨fun _ => hend, fun q => absurd q (by rw [hpd]; decide)⟩, some (a + wl b n a), h4, fun e he => by cases he; exact Nat.le_refl _, ⟨fun _ => by unfold pvA; rw [hpd, hpv]; rfl, fun _ => rfl⟩⟩
/-- behind a sign -/
theorem tkM_sign (hT : tkM I b n a) (hl : a < n) (h0 : isD (t_c b n a) = false ∧ isL (t_c b n a) = false) {f : Nat → Nat → Int32} (h1 : f 216 = I 216) (h2 : f 215 3 = I 215 3) (h3 : f 215 2 = nI (a + 1)) (h4 : f 215 4 = I 215 4) : tkM f b n (a + 1) := by
  have hp := pv_no (b := b) (n := n) (a := a + 1) (by rw [Nat.add_sub_cancel]; exact h0.1) (by rw [Nat.add_sub_cancel]; exact h0.2)
  obtain ⟨o, o1, o2, o3⟩ := hT.2.2.2.2
  refine ⟨txM_fr h1 h2 hT.1, hl, h3, mxT_no hp.1 hp.2.1, o, by rw [h4]; exact o1, fun e he => by have := o2 e he; omega, ⟨fun e => by have := o2 _ e; omega, fun e => absurd e (by rw [hp.2.2]; decide)⟩⟩
theorem X12_takes_s (hT : tkM I b n x) (hs : I 215 5 = 0) {q : Nat} {w : List Nat} (hw : wdR I q w) (hq : q ≠ 215) : X12_takes 215 q (hp I L ρ) = some (some (.int (bI (isW b n (sk b n x) w))), hp (if isW b n (sk b n x) w = true then u2 (u2 I 215 2 (nI (sk b n x + w.length))) 215 4 (nI (sk b n x + w.length)) else u2 I 215 2 (nI (sk b n x))) L ρ) := by
  unfold X12_takes
  rw [rc_215, h_ci (X12_here_s hT hs hw hq), h_if]
  cases e : isW b n (sk b n x) w with
  | false => rw [bF, if_pos rfl, h_rb0, if_neg (by decide)]
  | true => rw [if_neg (show ¬ bI true = 0 by decide), gi_215, m22, h_len hw.1 (by rw [hw.2.1]; show 20 ≤ 22; omega) (by rw [hw.2.1]; show 22 < 25; omega), hw.2.1, pi_215, nI_add, u2_u2, gi_215, m22, pi_215, h_rb1, if_pos rfl]; rfl
theorem X12_takes_u (hs : ¬ I 215 5 = 0) {q : Nat} : X12_takes 215 q (hp I L ρ) = some (some (.int 0), hp I L ρ) := by
  unfold X12_takes
  rw [rc_215, h_ci (X12_here_u hs), h_if, if_pos rfl, h_rb0]
theorem X12_asks_s (hT : tkM I b n x) (hs : I 215 5 = 0) {q : Nat} {w : List Nat} (hw : wdR I q w) (hq : q ≠ 215) : X12_asks 215 q (hp I L ρ) = some (none, hp (if isW b n (sk b n x) w = true then u2 (u2 I 215 2 (nI (sk b n x + w.length))) 215 4 (nI (sk b n x + w.length)) else u2 (u2 (u2 I 215 2 (nI (sk b n x))) 215 5 1) 215 6 (nI (sk b n x))) L ρ) := by
  unfold X12_asks
  rw [gi_215, h_if, if_pos hs, rc_215, h_ci (X12_takes_s hT hs hw hq), h_if]
  cases e : isW b n (sk b n x) w with
  | false => rw [bF, if_pos rfl, if_neg (by decide), if_neg (by decide), gi_215, m22, rc_215, h_cv (X12_fail_s (by rw [m25]; exact hs) _ _)]; rfl
  | true => rw [if_neg (show ¬ bI true = 0 by decide), if_pos rfl, if_pos rfl]; rfl
theorem X12_asks_u (hs : ¬ I 215 5 = 0) {q : Nat} : X12_asks 215 q (hp I L ρ) = some (none, hp I L ρ) := by
  unfold X12_asks
  rw [gi_215, h_if, if_neg hs]; rfl
theorem X12_takesSign_s (hT : tkM I b n x) (hs : I 215 5 = 0) {c : Nat} (hc : 0 < c ∧ c < 1000) : X12_takesSign 215 (nI c) (hp I L ρ) = some (some (.int (bI (decide (t_c b n (sk b n x) = c)))), hp (u2 I 215 2 (nI (if t_c b n (sk b n x) = c then sk b n x + 1 else sk b n x))) L ρ) := by
  have e := byI_c (tm_hb hT.1) (j := sk b n x) hc
  unfold X12_takesSign
  rw [gi_215, h_if, if_pos hs, rc_215, h_ci (X12_look_h hT), h_if]
  by_cases q : t_c b n (sk b n x) = c
  · rw [if_pos (e.mpr q), if_pos q, decide_eq_true q, gi_215, m22, pi_215, nI_1, u2_u2, h_rb1]; rfl
  · rw [if_neg (fun r => q (e.mp r)), if_neg q, decide_eq_false q, h_rb0]; rfl
theorem X12_takesSign_u (hs : ¬ I 215 5 = 0) (c : Int32) : X12_takesSign 215 c (hp I L ρ) = some (some (.int 0), hp I L ρ) := by
  unfold X12_takesSign
  rw [gi_215, h_if, if_neg hs, h_rb0]
theorem X12_asksSign_s (hT : tkM I b n x) (hs : I 215 5 = 0) {c : Nat} (hc : 0 < c ∧ c < 1000) : X12_asksSign 215 (nI c) (hp I L ρ) = some (none, hp (if t_c b n (sk b n x) = c then u2 I 215 2 (nI (sk b n x + 1)) else u2 (u2 (u2 I 215 2 (nI (sk b n x))) 215 5 1) 215 6 (nI (sk b n x))) L ρ) := by
  unfold X12_asksSign
  rw [gi_215, h_if, if_pos hs, rc_215, h_ci (X12_takesSign_s hT hs hc), h_if]
  by_cases q : t_c b n (sk b n x) = c
  · rw [if_pos q, if_pos q, decide_eq_true q, if_neg (show ¬ bI true = 0 by decide)]; rfl
  · rw [if_neg q, if_neg q, decide_eq_false q, bF, if_pos rfl, gi_215, m22, rc_215, h_cv (X12_fail_s (by rw [m25]; exact hs) _ _)]; rfl
theorem X12_asksSign_u (hs : ¬ I 215 5 = 0) (c : Int32) : X12_asksSign 215 c (hp I L ρ) = some (none, hp I L ρ) := by
  unfold X12_asksSign
  rw [gi_215, h_if, if_neg hs]; rfl
/-! numbers -/
theorem X12_num_lp {lo hi : Int32} : ∀ (m c v fuel : Nat) (I : Nat → Nat → Int32), c + m = a + 4 → a ≤ c → c ≤ n → m < fuel → txM I b n → I 215 2 = nI c → z_fix (fun r x => X12_number_B49 215 lo hi (nI a) r x) fuel (nI v) (hp I L ρ) = (if isD (t_c b n (t_n b n m v c).2) = true then X12_number_J85 215 else X12_number_J129 215 lo hi (nI a) (nI (t_n b n m v c).1)) (hp (u2 I 215 2 (nI (t_n b n m v c).2)) L ρ) := by
  intro m
  induction m with
  | zero =>
    intro c v fuel I h1 h2 h3 h4 hT hx
    have hn := hT.2.1
    obtain ⟨f, rfl⟩ : ∃ f, fuel = f + 1 := ⟨fuel - 1, by omega⟩
    rw [h_fix]
    show X12_number_B49 215 lo hi (nI a) _ (nI v) (hp I L ρ) = (if isD (t_c b n c) = true then X12_number_J85 215 else X12_number_J129 215 lo hi (nI a) (nI v)) (hp (u2 I 215 2 (nI c)) L ρ)
    rw [u2_self hx]
    unfold X12_number_B49
    rw [gi_215, hx, gi_215, hT.1, h_if]
    by_cases q : c < n
    · obtain ⟨b1, b2⟩ := hT.2.2 c q
      rw [if_neg (nI_ge (by omega) (by omega)), gr_215_0, gi_215, hx, la_216 (by omega), b2, h_ci (X12_isDigit_n (by omega)), h_if, ← t_c_lt (b := b) q]
      cases e : isD (t_c b n c) with
      | true => rw [if_neg (show ¬ bI true = 0 by decide), gi_215, hx, pk_sub h2, show c - a = 4 by omega, h_if, if_pos (show nI 4 = (4 : Int32) from rfl), if_pos rfl]
      | false => rw [bF, if_pos rfl, if_neg (by decide)]
    · rw [if_pos (nI_le (by omega) (by omega)), if_neg (by rw [t_c_ge (by omega)]; decide)]
  | succ m ih =>
    intro c v fuel I h1 h2 h3 h4 hT hx
    have hn := hT.2.1
    obtain ⟨f, rfl⟩ : ∃ f, fuel = f + 1 := ⟨fuel - 1, by omega⟩
    rw [h_fix]
    show X12_number_B49 215 lo hi (nI a) _ (nI v) (hp I L ρ) = _
    have hi2 := fun v2 (hc : c + 1 ≤ n) => ih (c + 1) v2 f (u2 I 215 2 (nI (c + 1))) (by omega) (by omega) hc (by omega) (txM_u (by omega) hT) (by rw [u2_ap, if_pos ⟨rfl, rfl⟩])
    generalize z_fix (fun r x => X12_number_B49 215 lo hi (nI a) r x) f = rec at hi2
    unfold X12_number_B49 t_n
    rw [gi_215, hx, gi_215, hT.1, h_if]
    by_cases q : c < n
    · obtain ⟨b1, b2⟩ := hT.2.2 c q
      rw [if_neg (nI_ge (by omega) (by omega)), gr_215_0, gi_215, hx, la_216 (by omega), b2, h_ci (X12_isDigit_n (by omega)), h_if]
      have ht : t_c b n c = b c := t_c_lt q
      rw [ht]
      cases e : isD (b c) with
      | true =>
        have e2 := of_decide_eq_true e
        rw [if_neg (show ¬ bI true = 0 by decide), gi_215, hx, pk_sub h2, h_if, if_neg (fun r => by have := (nI_inj (b := 4) (by omega) (by omega)).mp r; omega), gr_215_0, gi_215, hx, la_216 (by omega), b2, gi_215, hx, pi_215, show (10 : Int32) = nI 10 from rfl, pk_mul, nI_add, show (48 : Int32) = nI 48 from rfl, pk_sub (by omega), nI_1, hi2 _ (by omega), u2_u2, show 10 * v + b c - 48 = v * 10 + (b c - 48) by omega]
        rw [if_pos (show true = true from rfl)]
      | false =>
        have ed : ¬ isD (t_c b n c) = true := by rw [ht, e]; decide
        rw [bF, if_pos rfl, if_neg (show ¬ false = true by decide), if_neg ed, u2_self hx]
    · have ed : ¬ isD (t_c b n c) = true := by rw [t_c_ge (by omega)]; decide
      rw [if_pos (nI_le (by omega) (by omega)), if_neg ed, if_neg ed, u2_self hx]
/-- a fault of the reference's -/
def fltM (I : Nat → Nat → Int32) (y k p : Nat) : Nat → Nat → Int32 := u2 (u2 (u2 I 215 2 (nI y)) 215 5 (nI k)) 215 6 (nI p)
theorem X12_num_all (hT : tkM I b n x) (hs : I 215 5 = 0) {lo hi : Int32} : X12_number 215 lo hi (hp I L ρ) = (if ¬ isD (t_c b n (sk b n x)) = true ∨ (0 < sk b n x ∧ isL (t_c b n (sk b n x - 1)) = true) then X12_number_J30 215 (hp (u2 I 215 2 (nI (sk b n x))) L ρ) else (if isD (t_c b n (t_n b n 4 0 (sk b n x)).2) = true then X12_number_J85 215 else X12_number_J129 215 lo hi (nI (sk b n x)) (nI (t_n b n 4 0 (sk b n x)).1)) (hp (u2 I 215 2 (nI (t_n b n 4 0 (sk b n x)).2)) L ρ)) := by
  have hT1 := tkM_sk hT
  have hn := hT.1.2.1
  have hle := hT1.2.1
  have hb := tm_hb hT.1
  have e := X12_num_lp (L := L) (ρ := ρ) (a := sk b n x) (b := b) (n := n) (lo := lo) (hi := hi) 4 (sk b n x) 0 zFU (u2 I 215 2 (nI (sk b n x))) (by omega) (Nat.le_refl _) hle (by unfold zFU; omega) hT1.1 hT1.2.2.1
  rw [u2_u2] at e
  unfold X12_number
  rw [gi_215, h_if, if_pos hs, rc_215, h_ci (X12_look_h hT), h_ci (X12_isDigit_by hb _), h_if]
  cases q : isD (t_c b n (sk b n x)) with
  | false => rw [bF, if_pos rfl, if_pos (Or.inl (by simp))]
  | true =>
    have hpa : pvA b n (sk b n x) = pvL b n (sk b n x) := by
      unfold pvA
      cases q2 : pvD b n (sk b n x) with
      | false => rw [Bool.false_or]
      | true =>
        have := hT1.2.2.2.1.2 q2
        rw [q] at this; cases this
    rw [if_neg (show ¬ bI true = 0 by decide), gi_215, hT1.2.2.1, gi_215, h_if]
    cases q2 : pvL b n (sk b n x) with
    | true => rw [if_pos ((en_at hT1.2.2.2.2 (by omega)).mpr (by rw [hpa]; exact q2)), if_pos (Or.inr (of_decide_eq_true q2))]
    | false =>
      rw [if_neg (fun r => by have := (en_at hT1.2.2.2.2 (by omega)).mp r; rw [hpa, q2] at this; cases this), if_neg (fun r => by
        rcases r with r | r
        · exact r rfl
        · exact (of_decide_eq_false q2) r), gi_215, hT1.2.2.1]
      exact e
theorem X12_J129_h {lo hi v : Nat} {e : Nat} (hlo : lo < 10000) (hhi : hi < 10000) (hv : v < 100000) (h2 : I 215 2 = nI e) (hs : I 215 5 = 0) : X12_number_J129 215 (nI lo) (nI hi) (nI a) (nI v) (hp I L ρ) = some (some (.int (nI v)), hp (if v < lo ∨ hi < v then u2 (u2 (u2 (u2 I 215 4 (nI e)) 215 10 (nI a)) 215 5 2) 215 6 (nI a) else u2 (u2 I 215 4 (nI e)) 215 10 (nI a)) L ρ) := by
  unfold X12_number_J129
  rw [gi_215, h2, pi_215, pi_215, nI_cl (by omega), nI_cl (by omega), nI_cl (by omega), h_ci (X12_isIn_h (by omega) (by omega) (by omega)), h_if]
  by_cases c : v < lo ∨ hi < v
  · rw [decide_eq_false (by omega), bF, if_pos rfl, if_pos c, gi_215, u2_ap, if_pos ⟨rfl, rfl⟩, rc_215, h_cv (X12_fail_s (by rw [u2_ap, if_neg (by omega), u2_ap, if_neg (by omega)]; exact hs) _ _)]; rfl
  · rw [decide_eq_true (by omega), if_neg (by decide), if_neg c]; rfl
theorem X12_num_ok (hT : tkM I b n x) (hs : I 215 5 = 0) {lo hi v e : Nat} (hlo : lo < 10000) (hhi : hi < 10000) (h : p_num b n lo hi (sk b n x) = .inr (v, e)) : X12_number 215 (nI lo) (nI hi) (hp I L ρ) = some (some (.int (nI v)), hp (u2 (u2 (u2 I 215 2 (nI e)) 215 4 (nI e)) 215 10 (nI (sk b n x))) L ρ) ∧ tkM (u2 (u2 (u2 I 215 2 (nI e)) 215 4 (nI e)) 215 10 (nI (sk b n x))) b n e := by
  have hT1 := tkM_sk hT
  have hn := hT.1.2.1
  have hle := hT1.2.1
  obtain ⟨⟨n1, n2, n3⟩, n4, n5⟩ := t_n_in (b := b) 4 0 (sk b n x) hle
  rw [X12_num_all hT hs]
  unfold p_num at h
  by_cases c1 : ¬ isD (t_c b n (sk b n x)) = true ∨ (0 < sk b n x ∧ isL (t_c b n (sk b n x - 1)) = true)
  · rw [if_pos c1] at h; cases h
  rw [if_neg c1] at h
  rw [if_neg c1]
  by_cases c2 : isD (t_c b n (t_n b n 4 0 (sk b n x)).2) = true
  · rw [if_pos c2] at h; cases h
  rw [if_neg c2] at h
  by_cases c3 : (t_n b n 4 0 (sk b n x)).1 < lo ∨ hi < (t_n b n 4 0 (sk b n x)).1
  · rw [if_pos c3] at h; cases h
  rw [if_neg c3] at h
  cases h
  have hd : isD (t_c b n (sk b n x)) = true := by
    by_cases q : isD (t_c b n (sk b n x)) = true
    · exact q
    · exact absurd (Or.inl q) c1
  have hd2 := isD_lt hd
  have hgt : sk b n x < (t_n b n 4 0 (sk b n x)).2 := by
    have := (t_n_in (b := b) (n := n) 3 (0 * 10 + (t_c b n (sk b n x) - 48)) (sk b n x + 1) (by omega)).1.1
    have e4 : t_n b n 4 0 (sk b n x) = t_n b n 3 (0 * 10 + (t_c b n (sk b n x) - 48)) (sk b n x + 1) := if_pos hd
    rw [e4]
    exact this
  refine ⟨?_, ?_⟩
  · rw [if_neg c2, X12_J129_h (e := (t_n b n 4 0 (sk b n x)).2) hlo hhi (by omega) m22 (by rw [m25]; exact hs), if_neg c3]
  · have hlast := n5 ((t_n b n 4 0 (sk b n x)).2 - 1) (by omega) (by omega)
    have hpd : pvD b n (t_n b n 4 0 (sk b n x)).2 = true := decide_eq_true ⟨by omega, hlast⟩
    have hpl : pvL b n (t_n b n 4 0 (sk b n x)).2 = false := decide_eq_false (fun q => by
      have := DL_no hlast
      rw [this] at q
      exact absurd q.2 (by decide))
    refine ⟨txM_u (by omega) (txM_u (by omega) (txM_u (by omega) hT.1)), n2, by rw [u2_ap, if_neg (by omega), u2_ap, if_neg (by omega), m22], ⟨fun q => absurd q (by rw [hpl]; decide), fun _ => by simpa using c2⟩, some (t_n b n 4 0 (sk b n x)).2, by rw [u2_ap, if_neg (by omega), u2_ap, if_pos ⟨rfl, rfl⟩]; rfl, fun e he => by cases he; exact Nat.le_refl _, ⟨fun _ => by unfold pvA; rw [hpd]; rfl, fun _ => rfl⟩⟩
/-- what stands of the reference's text is the text -/
def rC (I I' : Nat → Nat → Int32) : Prop := I' 215 5 = 0 → I 215 5 = 0 ∧ I' 215 6 = I 215 6
theorem rC_0 : rC I I := fun q => ⟨q, rfl⟩
theorem rC_tr {I1 I2 : Nat → Nat → Int32} (h1 : rC I I1) (h2 : rC I1 I2) : rC I I2 := fun q => ⟨(h1 (h2 q).1).1, by rw [(h2 q).2, (h1 (h2 q).1).2]⟩
theorem rC_u {c k : Nat} {v : Int32} (h : c ≠ 215 ∨ (k ≠ 5 ∧ k ≠ 6)) : rC I (u2 I c k v) := fun q => by
  rw [u2_ap, if_neg (by omega)] at q
  exact ⟨q, by rw [u2_ap, if_neg (by omega)]⟩
theorem rC_56 {v w : Int32} (hv : ¬ v = 0) : rC I (u2 (u2 I 215 5 v) 215 6 w) := fun q => absurd q (by rw [u2_ap, if_neg (by omega), u2_ap, if_pos ⟨rfl, rfl⟩]; exact hv)
def fxM (I I' : Nat → Nat → Int32) : Prop := (∀ x, x ≠ 215 → I' x = I x) ∧ (∀ k, k ≠ 2 → k ≠ 4 → k ≠ 5 → k ≠ 6 → k ≠ 10 → k ≠ 39 → I' 215 k = I 215 k) ∧ rC I I'
theorem fxM_refl : fxM I I := ⟨fun _ _ => rfl, fun _ _ _ _ _ _ _ => rfl, rC_0⟩
theorem fxM_trans {I1 I2 : Nat → Nat → Int32} (h1 : fxM I I1) (h2 : fxM I1 I2) : fxM I I2 := ⟨fun x a => by rw [h2.1 x a, h1.1 x a], fun k a c d e f g => by rw [h2.2.1 k a c d e f g, h1.2.1 k a c d e f g], rC_tr h1.2.2 h2.2.2⟩
theorem fxM_u {k : Nat} {v : Int32} (hk : k = 2 ∨ k = 4 ∨ k = 10 ∨ k = 39) : fxM I (u2 I 215 k v) := ⟨fun x a => u2r a, fun j a c d e f g => by rw [u2_ap, if_neg (by omega)], rC_u (by omega)⟩
theorem fxM_56 {v w : Int32} (hv : ¬ v = 0) : fxM I (u2 (u2 I 215 5 v) 215 6 w) := ⟨fun x a => by rw [u2r a, u2r a], fun j a c d e f g => by rw [u2_ap, if_neg (by omega), u2_ap, if_neg (by omega)], rC_56 hv⟩
/-- a fault stands -/
def unM (I : Nat → Nat → Int32) (n k p : Nat) : Prop := I 215 5 = nI k ∧ (1 ≤ k ∧ k ≤ 5) ∧ I 215 6 = nI p ∧ p ≤ 2000 ∧ ∃ y, y ≤ n ∧ I 215 2 = nI y
theorem unM_ne {k p : Nat} (h : unM I n k p) : ¬ I 215 5 = 0 := fun e => by
  rw [h.1] at e
  have := (nI_inj (b := 0) (by have := h.2.1; omega) (by omega)).mp e
  have := h.2.1
  omega
theorem X12_num_no (hT : tkM I b n x) (hs : I 215 5 = 0) {lo hi k p : Nat} (hlo : lo < 10000) (hhi : hi < 10000) (h : p_num b n lo hi (sk b n x) = .inl (k, p)) : ∃ I' v, X12_number 215 (nI lo) (nI hi) (hp I L ρ) = some (some (.int (nI v)), hp I' L ρ) ∧ fxM I I' ∧ unM I' n k p ∧ v < 10000 := by
  have hT1 := tkM_sk hT
  have hn := hT.1.2.1
  have hle := hT1.2.1
  obtain ⟨⟨n1, n2, n3⟩, n4, n5⟩ := t_n_in (b := b) 4 0 (sk b n x) hle
  rw [X12_num_all hT hs]
  unfold p_num at h
  have hz : ∀ y k p, y ≤ n → 1 ≤ k → k ≤ 5 → p ≤ 2000 → unM (u2 (u2 (u2 I 215 2 (nI y)) 215 5 (nI k)) 215 6 (nI p)) n k p := fun y k p h1 h2 h3 h4 => ⟨by rw [u2_ap, if_neg (by omega), u2_ap, if_pos ⟨rfl, rfl⟩], ⟨h2, h3⟩, by rw [u2_ap, if_pos ⟨rfl, rfl⟩], h4, y, h1, by rw [u2_ap, if_neg (by omega), u2_ap, if_neg (by omega), m22]⟩
  have hf : ∀ y p, fxM I (u2 (u2 (u2 I 215 2 (nI y)) 215 5 (nI 1)) 215 6 (nI p)) := fun y p => fxM_trans (fxM_u (by omega)) (fxM_56 (by decide))
  by_cases c1 : ¬ isD (t_c b n (sk b n x)) = true ∨ (0 < sk b n x ∧ isL (t_c b n (sk b n x - 1)) = true)
  · rw [if_pos c1] at h
    cases h
    rw [if_pos c1]
    refine ⟨_, 0, ?_, hf (sk b n x) (sk b n x), hz _ _ _ hle (by omega) (by omega) (by omega), by omega⟩
    unfold X12_number_J30
    rw [gi_215, m22, rc_215, h_cv (X12_fail_s (by rw [m25]; exact hs) _ _)]; rfl
  rw [if_neg c1] at h
  rw [if_neg c1]
  by_cases c2 : isD (t_c b n (t_n b n 4 0 (sk b n x)).2) = true
  · rw [if_pos c2] at h
    cases h
    rw [if_pos c2]
    refine ⟨_, 0, ?_, hf _ _, hz _ _ _ n2 (by omega) (by omega) (by omega), by omega⟩
    unfold X12_number_J85
    rw [gi_215, m22, rc_215, h_cv (X12_fail_s (by rw [m25]; exact hs) _ _)]; rfl
  rw [if_neg c2] at h
  by_cases c3 : (t_n b n 4 0 (sk b n x)).1 < lo ∨ hi < (t_n b n 4 0 (sk b n x)).1
  · rw [if_pos c3] at h
    cases h
    refine ⟨_, (t_n b n 4 0 (sk b n x)).1, by rw [if_neg c2, X12_J129_h (e := (t_n b n 4 0 (sk b n x)).2) hlo hhi (by omega) m22 (by rw [m25]; exact hs), if_pos c3], fxM_trans (fxM_trans (fxM_trans (fxM_u (by omega)) (fxM_u (by omega))) (fxM_u (by omega))) (fxM_56 (by decide)), ⟨by rw [u2_ap, if_neg (by omega), u2_ap, if_pos ⟨rfl, rfl⟩]; rfl, by omega, by rw [u2_ap, if_pos ⟨rfl, rfl⟩], by omega, (t_n b n 4 0 (sk b n x)).2, n2, by rw [u2_ap, if_neg (by omega), u2_ap, if_neg (by omega), u2_ap, if_neg (by omega), u2_ap, if_neg (by omega), m22]⟩, by omega⟩
  · rw [if_neg c3] at h; cases h
theorem X12_num_u (hs : ¬ I 215 5 = 0) {lo hi : Int32} : X12_number 215 lo hi (hp I L ρ) = some (some (.int 0), hp I L ρ) := by
  unfold X12_number
  rw [gi_215, h_if, if_neg hs]; rfl
end B64
