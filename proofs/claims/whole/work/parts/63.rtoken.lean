/-! the reference's text: signs, words, numbers -/
section B63
variable {I I0 : Nat → Nat → Int32} {L L0 : Nat → Nat → Int64} {ρ : zRh} {h : zH} {b : Nat → Nat} {n a x : Nat}
def pvA (b : Nat → Nat) (n a : Nat) : Bool := pvD b n a || pvL b n a
def txM (I : Nat → Nat → Int32) (b : Nat → Nat) (n : Nat) : Prop := I 215 3 = nI n ∧ n ≤ 1600 ∧ ∀ j, j < n → b j < 256 ∧ I 216 j = nI (b j)
/-- words and numbers are whole -/
def mxT (b : Nat → Nat) (n x : Nat) : Prop := (pvL b n x = true → isL (t_c b n x) = false) ∧ (pvD b n x = true → isD (t_c b n x) = false)
def enM (v : Int32) (b : Nat → Nat) (n x : Nat) : Prop := ∃ o : Option Nat, v = oI o ∧ (∀ e, o = some e → e ≤ x) ∧ (o = some x ↔ pvA b n x = true)
def tkM (I : Nat → Nat → Int32) (b : Nat → Nat) (n x : Nat) : Prop := txM I b n ∧ x ≤ n ∧ I 215 2 = nI x ∧ mxT b n x ∧ enM (I 215 4) b n x
theorem txM_fr {I' : Nat → Nat → Int32} (h1 : I' 216 = I 216) (h2 : I' 215 3 = I 215 3) (hT : txM I b n) : txM I' b n := by
  unfold txM
  rw [h1, h2]
  exact hT
theorem txM_u {k : Nat} {v : Int32} (hk : k ≠ 3) (hT : txM I b n) : txM (u2 I 215 k v) b n := txM_fr (u2r (by omega)) (by rw [u2_ap, if_neg (by omega)]) hT
theorem tm_hb (hT : txM I b n) : ∀ j, j < n → b j < 256 := fun j hj => (hT.2.2 j hj).1
theorem LD_no {c : Nat} (h : isL c = true) : isD c = false := by
  have h1 := of_decide_eq_true h
  exact decide_eq_false (by omega)
theorem DL_no {c : Nat} (h : isD c = true) : isL c = false := by
  have h1 := of_decide_eq_true h
  exact decide_eq_false (by omega)
theorem bl_no {c : Nat} (h : t_bl c = true) : isD c = false ∧ isL c = false := by
  have h1 := of_decide_eq_true h
  exact ⟨decide_eq_false (by omega), decide_eq_false (by omega)⟩
theorem pv_no (h1 : isD (t_c b n (a - 1)) = false) (h2 : isL (t_c b n (a - 1)) = false) : pvD b n a = false ∧ pvL b n a = false ∧ pvA b n a = false := by
  have e1 : pvD b n a = false := decide_eq_false (fun q => by rw [h1] at q; exact absurd q.2 (by decide))
  have e2 : pvL b n a = false := decide_eq_false (fun q => by rw [h2] at q; exact absurd q.2 (by decide))
  exact ⟨e1, e2, by unfold pvA; rw [e1, e2]; rfl⟩
theorem mxT_no (h1 : pvD b n a = false) (h2 : pvL b n a = false) : mxT b n a := ⟨fun q => absurd q (by rw [h2]; decide), fun q => absurd q (by rw [h1]; decide)⟩
/-- blanks are passed -/
theorem mxT_sk (h : mxT b n x) : mxT b n (sk b n x) := by
  rcases sk_bk (b := b) (n := n) (a := x) with q | q
  · rw [q]; exact h
  · obtain ⟨q1, q2⟩ := bl_no q
    obtain ⟨p1, p2, -⟩ := pv_no q1 q2
    exact mxT_no p1 p2
theorem enM_sk {v : Int32} (h : enM v b n x) : enM v b n (sk b n x) := by
  obtain ⟨o, h1, h2, h3⟩ := h
  have hge := sk_ge (b := b) (n := n) (a := x)
  refine ⟨o, h1, fun e he => Nat.le_trans (h2 e he) hge, ?_⟩
  by_cases c : sk b n x = x
  · rw [c]; exact h3
  · rcases sk_bk (b := b) (n := n) (a := x) with q | q
    · exact absurd q c
    · obtain ⟨q1, q2⟩ := bl_no q
      rw [(pv_no q1 q2).2.2]
      exact ⟨fun e => by have := h2 _ e; omega, fun e => by cases e⟩
theorem X12_look_lp : ∀ (m x fuel : Nat) (I : Nat → Nat → Int32), n - x ≤ m → m < fuel → txM I b n → x ≤ n → I 215 2 = nI x → z_fix (fun r x => X12_look_B0 215 r ) fuel (()) (hp I L ρ) = some (some (.int (byI b n (sk b n x))), hp (u2 I 215 2 (nI (sk b n x))) L ρ) := by
  intro m
  induction m with
  | zero =>
    intro x fuel I h1 h2 hT hx hx2
    obtain ⟨f, rfl⟩ : ∃ f, fuel = f + 1 := ⟨fuel - 1, by omega⟩
    have e : ¬ t_bl (t_c b n x) = true := by rw [t_c_ge (by omega)]; decide
    have hn := hT.2.1
    rw [h_fix]
    show X12_look_B0 215 _ (hp I L ρ) = _
    unfold X12_look_B0 X12_look_J52
    rw [gi_215, hx2, gi_215, hT.1, h_if, if_pos (nI_le (by omega) (by omega)), gi_215, hx2, gi_215, hT.1, h_if, if_pos (nI_le (by omega) (by omega)), sk_no e, u2_self hx2]
    unfold byI
    rw [if_neg (by omega)]; rfl
  | succ m ih =>
    intro x fuel I h1 h2 hT hx hx2
    obtain ⟨f, rfl⟩ : ∃ f, fuel = f + 1 := ⟨fuel - 1, by omega⟩
    have hn := hT.2.1
    rw [h_fix]
    show X12_look_B0 215 _ (hp I L ρ) = _
    unfold X12_look_B0 X12_look_J52 X12_look_J39
    by_cases c : x < n
    · obtain ⟨b1, b2⟩ := hT.2.2 x c
      have hi := ih (x + 1) f (u2 I 215 2 (nI (x + 1))) (by omega) (by omega) (txM_u (by omega) hT) (by omega) (by rw [u2_ap, if_pos ⟨rfl, rfl⟩])
      rw [u2_u2] at hi
      rw [gi_215, hx2, gi_215, hT.1, h_if, if_neg (nI_ge (by omega) (by omega)), gr_215_0, gi_215, hx2, la_216 (by omega), b2, h_if]
      have hbl : t_bl (t_c b n x) = decide (b x = 32 ∨ b x = 10) := by rw [t_c_lt c]; rfl
      by_cases c1 : b x = 10
      · rw [if_pos (show nI (b x) = 10 by rw [c1]; rfl), gi_215, hx2, pi_215, nI_1, (sk_st (show t_bl (t_c b n x) = true by rw [hbl]; exact decide_eq_true (Or.inr c1))).1]
        exact hi
      · rw [if_neg (show ¬ nI (b x) = 10 from fun e => c1 ((nI_inj (b := 10) (by omega) (by omega)).mp e)), gr_215_0, gi_215, hx2, la_216 (by omega), b2, h_if]
        by_cases c2 : b x = 32
        · rw [if_pos (show nI (b x) = 32 by rw [c2]; rfl), gi_215, hx2, pi_215, nI_1, (sk_st (show t_bl (t_c b n x) = true by rw [hbl]; exact decide_eq_true (Or.inl c2))).1]
          exact hi
        · rw [if_neg (show ¬ nI (b x) = 32 from fun e => c2 ((nI_inj (b := 32) (by omega) (by omega)).mp e)), gi_215, hx2, gi_215, hT.1, h_if, if_neg (nI_ge (by omega) (by omega)), gr_215_0, gi_215, hx2, la_216 (by omega), b2, sk_no (show ¬ t_bl (t_c b n x) = true by rw [hbl]; simp [c1, c2]), u2_self hx2]
          unfold byI
          rw [if_pos c]; rfl
    · have e : ¬ t_bl (t_c b n x) = true := by rw [t_c_ge (by omega)]; decide
      rw [gi_215, hx2, gi_215, hT.1, h_if, if_pos (nI_le (by omega) (by omega)), gi_215, hx2, gi_215, hT.1, h_if, if_pos (nI_le (by omega) (by omega)), sk_no e, u2_self hx2]
      unfold byI
      rw [if_neg c]; rfl
theorem X12_look_h (hT : tkM I b n x) : X12_look 215 (hp I L ρ) = some (some (.int (byI b n (sk b n x))), hp (u2 I 215 2 (nI (sk b n x))) L ρ) := X12_look_lp n x zFU I (by omega) (by have := hT.1.2.1; unfold zFU; omega) hT.1 hT.2.1 hT.2.2.1
/-- behind a look -/
theorem tkM_sk (hT : tkM I b n x) : tkM (u2 I 215 2 (nI (sk b n x))) b n (sk b n x) := ⟨txM_u (by omega) hT.1, sk_le hT.2.1, by rw [u2_ap, if_pos ⟨rfl, rfl⟩], mxT_sk hT.2.2.2.1, by rw [u2_ap, if_neg (by omega)]; exact enM_sk hT.2.2.2.2⟩
theorem X12_isDigit_n {c : Nat} (hc : c < 1000) : X12_isDigit (nI c) h = some (some (.int (bI (isD c))), h) := X11_isDigit_n hc
theorem X12_isLetter_n {c : Nat} (hc : c < 1000) : X12_isLetter (nI c) h = some (some (.int (bI (isL c))), h) := X11_isLetter_n hc
theorem X12_isDigit_by (hb : ∀ j, j < n → b j < 256) (j : Nat) : X12_isDigit (byI b n j) h = some (some (.int (bI (isD (t_c b n j)))), h) := X11_isDigit_by hb j
theorem X12_isLetter_by (hb : ∀ j, j < n → b j < 256) (j : Nat) : X12_isLetter (byI b n j) h = some (some (.int (bI (isL (t_c b n j)))), h) := X11_isLetter_by hb j
theorem X12_fail_s (hs : I 215 5 = 0) (v w : Int32) : X12_fail 215 v w (hp I L ρ) = some (none, hp (u2 (u2 I 215 5 v) 215 6 w) L ρ) := by
  unfold X12_fail
  rw [gi_215, h_if, if_pos hs, pi_215, pi_215]; rfl
theorem X12_fail_u (hs : ¬ I 215 5 = 0) (v w : Int32) : X12_fail 215 v w (hp I L ρ) = some (none, hp I L ρ) := by
  unfold X12_fail
  rw [gi_215, h_if, if_neg hs]; rfl
theorem oI_eq {o : Option Nat} (h : ∀ e, o = some e → e < 100000) (ha : a < 100000) : nI a = oI o ↔ o = some a := by
  rcases o with _ | e
  · rw [oI_none]
    exact ⟨fun q => absurd q (nI_nm1 (by omega)), fun q => by cases q⟩
  · have := h e rfl
    rw [oI_some, nI_inj (by omega) (by omega)]
    exact ⟨fun q => by rw [q], fun q => by cases q; rfl⟩
/-- whether it is ended right here -/
theorem en_at {v : Int32} (h : enM v b n a) (ha : a < 100000) : nI a = v ↔ pvA b n a = true := by
  obtain ⟨o, h1, h2, h3⟩ := h
  rw [h1, oI_eq (fun e he => by have := h2 e he; omega) ha]
  exact h3
/-- a word of the reference's -/
def wdR (I : Nat → Nat → Int32) (q : Nat) (w : List Nat) : Prop := q < 297 ∧ zK q = (22, w.length) ∧ (∀ i, i < w.length → I q i = nI (w.getD i 0)) ∧ okw w = true ∧ 0 < w.length ∧ w.length < 20
theorem X12_here_35 (hT : txM I b n) {q : Nat} : ∀ (m c fuel : Nat), n - c ≤ m → m < fuel → c ≤ n → z_fix (fun r x => X12_isHere_B35 215 q r x) fuel (nI c) (hp I L ρ) = X12_isHere_J61 215 q (nI (c + t_l b n c)) (hp I L ρ) := by
  have hn := hT.2.1
  intro m
  induction m with
  | zero =>
    intro c fuel h1 h2 h3
    obtain ⟨f, rfl⟩ : ∃ f, fuel = f + 1 := ⟨fuel - 1, by omega⟩
    rw [h_fix]
    show X12_isHere_B35 215 q _ (nI c) (hp I L ρ) = _
    unfold X12_isHere_B35
    rw [gi_215, hT.1, h_if, if_pos (nI_le (by omega) (by omega)), t_l_no (show ¬ isL (t_c b n c) = true by rw [t_c_ge (by omega)]; decide)]; rfl
  | succ m ih =>
    intro c fuel h1 h2 h3
    obtain ⟨f, rfl⟩ : ∃ f, fuel = f + 1 := ⟨fuel - 1, by omega⟩
    rw [h_fix]
    show X12_isHere_B35 215 q _ (nI c) (hp I L ρ) = _
    unfold X12_isHere_B35
    by_cases k : c < n
    · obtain ⟨b1, b2⟩ := hT.2.2 c k
      rw [gi_215, hT.1, h_if, if_neg (nI_ge (by omega) (by omega)), gr_215_0, la_216 (by omega), b2, h_ci (X12_isLetter_n (by omega)), h_if, ← t_c_lt (b := b) k]
      cases e : isL (t_c b n c) with
      | true =>
        rw [if_neg (show ¬ bI true = 0 by decide), nI_1, (t_l_st e).1, show c + (t_l b n (c + 1) + 1) = c + 1 + t_l b n (c + 1) by omega]
        exact ih (c + 1) f (by omega) (by omega) (by omega)
      | false => rw [bF, if_pos rfl, t_l_no (show ¬ isL (t_c b n c) = true by rw [e]; decide)]; rfl
    · rw [gi_215, hT.1, h_if, if_pos (nI_le (by omega) (by omega)), t_l_no (show ¬ isL (t_c b n c) = true by rw [t_c_ge (by omega)]; decide)]; rfl
theorem X12_here_76 (hT : txM I b n) (hx2 : I 215 2 = nI a) {q : Nat} {w : List Nat} (hw : wdR I q w) (hl : a + w.length ≤ n) : ∀ (m i fuel : Nat), i + m = w.length → m < fuel → z_fix (fun r x => X12_isHere_B76 215 q r x) fuel (nI i) (hp I L ρ) = some (some (.int (bI (decide (∀ j, j < w.length → i ≤ j → t_c b n (a + j) = w.getD j 0)))), hp I L ρ) := by
  have hn := hT.2.1
  obtain ⟨w1, w2, w3, w4, w5, w6⟩ := hw
  intro m
  induction m with
  | zero =>
    intro i fuel h1 h2
    obtain ⟨f, rfl⟩ : ∃ f, fuel = f + 1 := ⟨fuel - 1, by omega⟩
    rw [h_fix]
    show X12_isHere_B76 215 q _ (nI i) (hp I L ρ) = _
    unfold X12_isHere_B76
    rw [h_len w1 (by rw [w2]; show 20 ≤ 22; omega) (by rw [w2]; show 22 < 25; omega), w2, h_if, if_pos (nI_le (by show w.length ≤ i; omega) (by omega)), h_rb1, decide_eq_true (fun j q1 q2 => absurd q2 (by omega))]; rfl
  | succ m ih =>
    intro i fuel h1 h2
    obtain ⟨f, rfl⟩ : ∃ f, fuel = f + 1 := ⟨fuel - 1, by omega⟩
    have hi := ih (i + 1) f (by omega) (by omega)
    obtain ⟨b1, b2⟩ := hT.2.2 (a + i) (by omega)
    have hc : w.getD i 0 < 1000 := by
      have h3 := List.all_eq_true.mp w4 (w.getD i 0) (by rw [List.getD_eq_getElem?_getD, List.getElem?_eq_getElem (show i < w.length by omega)]; exact List.getElem_mem _)
      have := of_decide_eq_true h3
      omega
    rw [h_fix]
    show X12_isHere_B76 215 q _ (nI i) (hp I L ρ) = _
    unfold X12_isHere_B76
    rw [h_len w1 (by rw [w2]; show 20 ≤ 22; omega) (by rw [w2]; show 22 < 25; omega), w2, h_if, if_neg (nI_ge (by show i < w.length; omega) (by show w.length < _; omega)), gr_215_0, gi_215, hx2, nI_add, la_216 (by omega), b2, h_la w1 (by rw [w2]) (by rw [w2]; show i < w.length; omega) (by rw [w2]; show w.length < _; omega), w3 i (by omega), h_if]
    have ht : t_c b n (a + i) = b (a + i) := t_c_lt (by omega)
    by_cases c : b (a + i) = w.getD i 0
    · rw [if_pos (by rw [c]), nI_1]
      refine hi.trans ?_
      have : decide (∀ j, j < w.length → i ≤ j → t_c b n (a + j) = w.getD j 0) = decide (∀ j, j < w.length → i + 1 ≤ j → t_c b n (a + j) = w.getD j 0) := by
        apply decide_eq_decide.mpr
        refine ⟨fun q j q1 q2 => q j q1 (by omega), fun q j q1 q2 => ?_⟩
        by_cases e : j = i
        · rw [e, ht, c]
        · exact q j q1 (by omega)
      rw [this]
    · rw [if_neg (fun e => c ((nI_inj (by omega) (by omega)).mp e)), h_rb0, decide_eq_false (fun q => c (by rw [← ht]; exact q i (by omega) (Nat.le_refl _)))]; rfl
theorem wdR_u {q k : Nat} {w : List Nat} {v : Int32} (hw : wdR I q w) (hq : q ≠ 215) : wdR (u2 I 215 k v) q w := by
  refine ⟨hw.1, hw.2.1, ?_, hw.2.2.2⟩
  rw [u2r hq]
  exact hw.2.2.1
theorem X12_here_s (hT : tkM I b n x) (hs : I 215 5 = 0) {q : Nat} {w : List Nat} (hw : wdR I q w) (hq : q ≠ 215) : X12_isHere 215 q (hp I L ρ) = some (some (.int (bI (isW b n (sk b n x) w))), hp (u2 I 215 2 (nI (sk b n x))) L ρ) := by
  have hT1 := tkM_sk hT
  have hn := hT.1.2.1
  have hle := hT1.2.1
  have hb := tm_hb hT.1
  have htl := t_l_le (b := b) hle
  unfold X12_isHere
  rw [gi_215, h_if, if_pos hs, rc_215, h_ci (X12_look_h hT), h_ci (X12_isLetter_by hb _), h_if]
  cases e : isL (t_c b n (sk b n x)) with
  | false =>
    have : isW b n (sk b n x) w = false := decide_eq_false (fun r => by
      have h1 := r.1
      unfold wl at h1
      split at h1
      · omega
      · rw [t_l_no (by rw [e]; decide)] at h1; omega)
    rw [bF, if_pos rfl, h_rb0, this]; rfl
  | true =>
    have hpa : pvA b n (sk b n x) = pvD b n (sk b n x) := by
      unfold pvA
      cases q2 : pvL b n (sk b n x) with
      | false => rw [Bool.or_false]
      | true =>
        have := hT1.2.2.2.1.1 q2
        rw [e] at this; cases this
    rw [if_neg (show ¬ bI true = 0 by decide), gi_215, hT1.2.2.1, gi_215, h_if]
    cases q2 : pvD b n (sk b n x) with
    | true =>
      have : isW b n (sk b n x) w = false := decide_eq_false (fun r => by
        have h1 := r.1
        unfold wl at h1
        rw [if_pos (of_decide_eq_true q2)] at h1
        omega)
      rw [if_pos ((en_at hT1.2.2.2.2 (by omega)).mpr (by rw [hpa]; exact q2)), h_rb0, this]; rfl
    | false =>
      have hwl : wl b n (sk b n x) = t_l b n (sk b n x) := by
        unfold wl
        rw [if_neg (of_decide_eq_false q2)]
      rw [if_neg (fun r => by have := (en_at hT1.2.2.2.2 (by omega)).mp r; rw [hpa, q2] at this; cases this), gi_215, hT1.2.2.1, X12_here_35 hT1.1 n (sk b n x) zFU (by omega) (by unfold zFU; omega) hle]
      unfold X12_isHere_J61
      rw [gi_215, hT1.2.2.1, pk_sub (by omega), Nat.add_sub_cancel_left, h_len hw.1 (by rw [hw.2.1]; show 20 ≤ 22; omega) (by rw [hw.2.1]; show 22 < 25; omega), hw.2.1, h_if]
      have hw6 := hw.2.2.2.2
      by_cases c : t_l b n (sk b n x) = w.length
      · rw [if_pos (by rw [c])]
        have e0 := X12_here_76 (L := L) (ρ := ρ) hT1.1 hT1.2.2.1 (wdR_u hw hq) (by omega) w.length 0 zFU (by omega) (by unfold zFU; omega)
        refine e0.trans ?_
        have : decide (∀ j, j < w.length → 0 ≤ j → t_c b n (sk b n x + j) = w.getD j 0) = isW b n (sk b n x) w := by
          apply decide_eq_decide.mpr
          exact ⟨fun r => ⟨by rw [hwl, c], hw6.1, fun j hj => r j hj (Nat.zero_le _)⟩, fun r j hj _ => r.2.2 j hj⟩
        rw [this]
      · have : isW b n (sk b n x) w = false := decide_eq_false (fun r => c (by rw [← hwl]; exact r.1))
        rw [if_neg (fun r => c ((nI_inj (by omega) (by show w.length < _; omega)).mp r)), h_rb0, this]; rfl
theorem X12_here_u (hs : ¬ I 215 5 = 0) {q : Nat} : X12_isHere 215 q (hp I L ρ) = some (some (.int 0), hp I L ρ) := by
  unfold X12_isHere
  rw [gi_215, h_if, if_neg hs, h_rb0]
end B63
