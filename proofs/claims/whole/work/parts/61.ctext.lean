/-! the class's text: word by word -/
section B61
variable {I I0 : Nat → Nat → Int32} {L L0 : Nat → Nat → Int64} {ρ : zRh} {h : zH} {b : Nat → Nat} {n a x : Nat}
/-- a text is open -/
def txX (I : Nat → Nat → Int32) (b : Nat → Nat) (n : Nat) : Prop := I 2 1 = nI n ∧ n ≤ 1600 ∧ ∀ j, j < n → b j < 256 ∧ I 1 j = nI (b j)
theorem txX_fr {I' : Nat → Nat → Int32} (h1 : I' 1 = I 1) (h2 : I' 2 1 = I 2 1) (hT : txX I b n) : txX I' b n := by
  unfold txX
  rw [h1, h2]
  exact hT
theorem txX_u {k : Nat} {v : Int32} (hk : k ≠ 1) (hT : txX I b n) : txX (u2 I 2 k v) b n := txX_fr (u2r (by omega)) (by rw [u2_ap, if_neg (by omega)]) hT
theorem u2_self {α : Type} {f : Nat → Nat → α} {a j : Nat} {v : α} (h : f a j = v) : u2 f a j v = f := by
  funext c i
  rw [u2_ap]
  by_cases q : c = a ∧ i = j
  · rw [if_pos q, q.1, q.2, h]
  · rw [if_neg q]
theorem u2_u2 {α : Type} {f : Nat → Nat → α} {a j : Nat} {v w : α} : u2 (u2 f a j v) a j w = u2 f a j w := by
  funext c i
  rw [u2_ap, u2_ap, u2_ap]
  split <;> rfl
theorem tx_hb (hT : txX I b n) : ∀ j, j < n → b j < 256 := fun j hj => (hT.2.2 j hj).1
theorem X9_begin_lp : ∀ (m x fuel : Nat) (I : Nat → Nat → Int32), n - x ≤ m → m < fuel → txX I b n → x ≤ n → I 2 2 = nI x → z_fix (fun r x => X9_begin_B0 2 r ) fuel (()) (hp I L ρ) = some (some (.int (nI (sk b n x))), hp (u2 I 2 2 (nI (sk b n x))) L ρ) := by
  intro m
  induction m with
  | zero =>
    intro x fuel I h1 h2 hT hx hx2
    obtain ⟨f, rfl⟩ : ∃ f, fuel = f + 1 := ⟨fuel - 1, by omega⟩
    have e : ¬ t_bl (t_c b n x) = true := by rw [t_c_ge (by omega)]; decide
    have hn := hT.2.1
    rw [h_fix]
    show X9_begin_B0 2 _ (hp I L ρ) = _
    unfold X9_begin_B0 X9_begin_J64
    rw [gi_2, hx2, gi_2, hT.1, h_if, if_pos (nI_le (by omega) (by omega)), gi_2, hx2, sk_no e, u2_self hx2]; rfl
  | succ m ih =>
    intro x fuel I h1 h2 hT hx hx2
    obtain ⟨f, rfl⟩ : ∃ f, fuel = f + 1 := ⟨fuel - 1, by omega⟩
    have hn := hT.2.1
    rw [h_fix]
    show X9_begin_B0 2 _ (hp I L ρ) = _
    unfold X9_begin_B0 X9_begin_J64 X9_begin_J51
    by_cases c : x < n
    · obtain ⟨b1, b2⟩ := hT.2.2 x c
      have hi := ih (x + 1) f (u2 I 2 2 (nI (x + 1))) (by omega) (by omega) (txX_u (by omega) hT) (by omega) (by rw [u2_ap, if_pos ⟨rfl, rfl⟩])
      rw [u2_u2] at hi
      rw [gi_2, hx2, gi_2, hT.1, h_if, if_neg (nI_ge (by omega) (by omega)), gi_2, hx2, gr_2_0, len_1, h_if, if_neg (nI_ge (by omega) (by omega)), gr_2_0, gi_2, hx2, la_1 (by omega), b2, h_if]
      have hbl : t_bl (t_c b n x) = decide (b x = 32 ∨ b x = 10) := by rw [t_c_lt c]; rfl
      by_cases c1 : b x = 32
      · rw [if_pos (show nI (b x) = 32 by rw [c1]; rfl), gi_2, hx2, pi_2, nI_1, (sk_st (show t_bl (t_c b n x) = true by rw [hbl]; exact decide_eq_true (Or.inl c1))).1]
        exact hi
      · rw [if_neg (show ¬ nI (b x) = 32 from fun e => c1 ((nI_inj (b := 32) (by omega) (by omega)).mp e)), gr_2_0, gi_2, hx2, la_1 (by omega), b2, h_if]
        by_cases c2 : b x = 10
        · rw [if_pos (show nI (b x) = 10 by rw [c2]; rfl), gi_2, hx2, pi_2, nI_1, (sk_st (show t_bl (t_c b n x) = true by rw [hbl]; exact decide_eq_true (Or.inr c2))).1]
          exact hi
        · rw [if_neg (show ¬ nI (b x) = 10 from fun e => c2 ((nI_inj (b := 10) (by omega) (by omega)).mp e)), gi_2, hx2, sk_no (show ¬ t_bl (t_c b n x) = true by rw [hbl]; simp [c1, c2]), u2_self hx2]; rfl
    · have e : ¬ t_bl (t_c b n x) = true := by rw [t_c_ge (by omega)]; decide
      rw [gi_2, hx2, gi_2, hT.1, h_if, if_pos (nI_le (by omega) (by omega)), gi_2, hx2, sk_no e, u2_self hx2]; rfl
theorem X9_begin_h (hT : txX I b n) (hx : x ≤ n) (hx2 : I 2 2 = nI x) : X9_begin 2 (hp I L ρ) = some (some (.int (nI (sk b n x))), hp (u2 I 2 2 (nI (sk b n x))) L ρ) := X9_begin_lp n x zFU I (by omega) (by have := hT.2.1; unfold zFU; omega) hT hx hx2
theorem X9_sound_h : X9_sound 2 (hp I L ρ) = some (some (.int (bI (decide (I 2 3 = 0)))), hp I L ρ) := by
  unfold X9_sound
  rw [gi_2, h_if]
  by_cases c : I 2 3 = 0
  · rw [if_pos c, h_rb1, decide_eq_true c]; rfl
  · rw [if_neg c, h_rb0, decide_eq_false c]; rfl
theorem X9_fail_s (hs : I 2 3 = 0) (v w : Int32) : X9_fail 2 v w (hp I L ρ) = some (none, hp (u2 (u2 I 2 3 v) 2 4 w) L ρ) := by
  unfold X9_fail
  rw [gi_2, h_if, if_pos hs, pi_2, pi_2]; rfl
theorem X9_fail_u (hs : ¬ I 2 3 = 0) (v w : Int32) : X9_fail 2 v w (hp I L ρ) = some (none, hp I L ρ) := by
  unfold X9_fail
  rw [gi_2, h_if, if_neg hs]; rfl
theorem X9_byteAt_h (hT : txX I b n) {j : Nat} (hj : j < 100000) : X9_byteAt 2 (nI j) (hp I L ρ) = some (some (.int (byI b n j)), hp I L ρ) := by
  have hn := hT.2.1
  unfold X9_byteAt byI
  rw [h_if, if_neg (nI_pos (by omega)), gi_2, hT.1, h_if]
  by_cases c : j < n
  · rw [if_neg (nI_ge (by omega) (by omega)), gr_2_0, len_1, h_if, if_neg (nI_ge (by omega) (by omega)), gr_2_0, la_1 (by omega), (hT.2.2 j c).2, if_pos c]; rfl
  · rw [if_pos (nI_le (by omega) (by omega)), if_neg c]; rfl
/-- the byte ahead of a place -/
def byP (b : Nat → Nat) (n a : Nat) : Int32 := if 0 < a then byI b n (a - 1) else -1
theorem X9_byteAt_p (hT : txX I b n) (ha : a < 100000) : X9_byteAt 2 (nI a - 1) (hp I L ρ) = some (some (.int (byP b n a)), hp I L ρ) := by
  unfold byP
  by_cases c : 0 < a
  · rw [if_pos c, show (1 : Int32) = nI 1 from rfl, pk_sub (by omega)]
    exact X9_byteAt_h hT (by omega)
  · obtain rfl : a = 0 := by omega
    rw [if_neg c]
    unfold X9_byteAt
    rw [h_if, if_pos (by decide)]; rfl
theorem X11_isDigit_n {c : Nat} (hc : c < 1000) : X11_isDigit (nI c) h = some (some (.int (bI (isD c))), h) := by
  unfold X11_isDigit isD
  rw [h_if, show (48 : Int32) = nI 48 from rfl]
  simp only [nI_lt' (show c < 2147483648 by omega) (show 48 < 2147483648 by omega)]
  by_cases c1 : c < 48
  · rw [if_pos c1, h_rb0, decide_eq_false (by omega)]; rfl
  · rw [if_neg c1, h_if, show (57 : Int32) = nI 57 from rfl]
    simp only [nI_lt' (show 57 < 2147483648 by omega) (show c < 2147483648 by omega)]
    by_cases c2 : 57 < c
    · rw [if_pos c2, h_rb0, decide_eq_false (by omega)]; rfl
    · rw [if_neg c2, h_rb1, decide_eq_true (by omega)]; rfl
theorem X11_isLetter_n {c : Nat} (hc : c < 1000) : X11_isLetter (nI c) h = some (some (.int (bI (isL c))), h) := by
  unfold X11_isLetter isL
  rw [h_if, show (97 : Int32) = nI 97 from rfl]
  simp only [nI_lt' (show c < 2147483648 by omega) (show 97 < 2147483648 by omega)]
  by_cases c1 : c < 97
  · rw [if_pos c1, h_rb0, decide_eq_false (by omega)]; rfl
  · rw [if_neg c1, h_if, show (122 : Int32) = nI 122 from rfl]
    simp only [nI_lt' (show 122 < 2147483648 by omega) (show c < 2147483648 by omega)]
    by_cases c2 : 122 < c
    · rw [if_pos c2, h_rb0, decide_eq_false (by omega)]; rfl
    · rw [if_neg c2, h_rb1, decide_eq_true (by omega)]; rfl
theorem X11_isDigit_by (hb : ∀ j, j < n → b j < 256) (j : Nat) : X11_isDigit (byI b n j) h = some (some (.int (bI (isD (t_c b n j)))), h) := by
  unfold byI t_c
  by_cases c : j < n
  · rw [if_pos c, if_pos c]
    exact X11_isDigit_n (by have := hb j c; omega)
  · rw [if_neg c, if_neg c]; rfl
theorem X11_isLetter_by (hb : ∀ j, j < n → b j < 256) (j : Nat) : X11_isLetter (byI b n j) h = some (some (.int (bI (isL (t_c b n j)))), h) := by
  unfold byI t_c
  by_cases c : j < n
  · rw [if_pos c, if_pos c]
    exact X11_isLetter_n (by have := hb j c; omega)
  · rw [if_neg c, if_neg c]; rfl
def pvD (b : Nat → Nat) (n a : Nat) : Bool := decide (0 < a ∧ isD (t_c b n (a - 1)) = true)
def pvL (b : Nat → Nat) (n a : Nat) : Bool := decide (0 < a ∧ isL (t_c b n (a - 1)) = true)
theorem X11_isDigit_p (hb : ∀ j, j < n → b j < 256) (a : Nat) : X11_isDigit (byP b n a) h = some (some (.int (bI (pvD b n a))), h) := by
  unfold byP pvD
  by_cases c : 0 < a
  · rw [if_pos c, X11_isDigit_by hb]
    cases q : isD (t_c b n (a - 1)) with
    | true => rw [decide_eq_true ⟨c, rfl⟩]
    | false => rw [decide_eq_false (by simp)]
  · rw [if_neg c, decide_eq_false (fun q => c q.1)]; rfl
theorem X11_isLetter_p (hb : ∀ j, j < n → b j < 256) (a : Nat) : X11_isLetter (byP b n a) h = some (some (.int (bI (pvL b n a))), h) := by
  unfold byP pvL
  by_cases c : 0 < a
  · rw [if_pos c, X11_isLetter_by hb]
    cases q : isL (t_c b n (a - 1)) with
    | true => rw [decide_eq_true ⟨c, rfl⟩]
    | false => rw [decide_eq_false (by simp)]
  · rw [if_neg c, decide_eq_false (fun q => c q.1)]; rfl
theorem X9_wl_lp (hT : txX I b n) : ∀ (m c fuel : Nat), n - c ≤ m → m < fuel → a ≤ c → c ≤ n → z_fix (fun r x => X9_wordLength_B29 2 (nI a) r x) fuel (nI c) (hp I L ρ) = some (some (.int (nI (c - a + t_l b n c))), hp I L ρ) := by
  have hn := hT.2.1
  intro m
  induction m with
  | zero =>
    intro c fuel h1 h2 h3 h4
    obtain ⟨f, rfl⟩ : ∃ f, fuel = f + 1 := ⟨fuel - 1, by omega⟩
    rw [h_fix]
    show X9_wordLength_B29 2 (nI a) _ (nI c) (hp I L ρ) = _
    unfold X9_wordLength_B29
    rw [gi_2, hT.1, h_if, if_pos (nI_le (by omega) (by omega)), pk_sub h3, t_l_no (show ¬ isL (t_c b n c) = true by rw [t_c_ge (by omega)]; decide)]; rfl
  | succ m ih =>
    intro c fuel h1 h2 h3 h4
    obtain ⟨f, rfl⟩ : ∃ f, fuel = f + 1 := ⟨fuel - 1, by omega⟩
    rw [h_fix]
    show X9_wordLength_B29 2 (nI a) _ (nI c) (hp I L ρ) = _
    unfold X9_wordLength_B29
    by_cases q : c < n
    · rw [gi_2, hT.1, h_if, if_neg (nI_ge (by omega) (by omega)), rc_2, h_ci (X9_byteAt_h hT (by omega)), h_ci (X11_isLetter_by (tx_hb hT) c), h_if]
      cases e : isL (t_c b n c) with
      | true =>
        rw [if_neg (show ¬ bI true = 0 by decide), nI_1, (t_l_st e).1, show c - a + (t_l b n (c + 1) + 1) = (c + 1) - a + t_l b n (c + 1) by omega]
        exact ih (c + 1) f (by omega) (by omega) (by omega) (by omega)
      | false => rw [bF, if_pos rfl, pk_sub h3, t_l_no (show ¬ isL (t_c b n c) = true by rw [e]; decide)]; rfl
    · rw [gi_2, hT.1, h_if, if_pos (nI_le (by omega) (by omega)), pk_sub h3, t_l_no (show ¬ isL (t_c b n c) = true by rw [t_c_ge (by omega)]; decide)]; rfl
theorem X9_wordLength_h (hT : txX I b n) (hx : x ≤ n) (hx2 : I 2 2 = nI x) (hs : I 2 3 = 0) : X9_wordLength 2 (hp I L ρ) = some (some (.int (nI (wl b n (sk b n x)))), hp (u2 I 2 2 (nI (sk b n x))) L ρ) := by
  have hle := sk_le (b := b) hx
  have hT1 : txX (u2 I 2 2 (nI (sk b n x))) b n := txX_u (by omega) hT
  have hn := hT.2.1
  unfold X9_wordLength
  rw [rc_2, h_ci (X9_begin_h hT hx hx2), rc_2, h_ci X9_sound_h, u2_ap, if_neg (by omega), hs, h_if, if_neg (by decide), rc_2, h_ci (X9_byteAt_p hT1 (by omega)), h_ci (X11_isDigit_p (tx_hb hT) _), h_if]
  unfold wl
  cases q : pvD b n (sk b n x) with
  | true =>
    rw [if_neg (show ¬ bI true = 0 by decide), if_pos (of_decide_eq_true q)]; rfl
  | false =>
    rw [bF, if_pos rfl, if_neg (of_decide_eq_false q)]
    have e := X9_wl_lp (L := L) (ρ := ρ) (a := sk b n x) hT1 n (sk b n x) zFU (by omega) (by unfold zFU; omega) (Nat.le_refl _) hle
    rw [Nat.sub_self, Nat.zero_add] at e
    exact e
theorem X9_wordLength_u (hT : txX I b n) (hx : x ≤ n) (hx2 : I 2 2 = nI x) (hs : ¬ I 2 3 = 0) : X9_wordLength 2 (hp I L ρ) = some (some (.int (nI 0)), hp (u2 I 2 2 (nI (sk b n x))) L ρ) := by
  unfold X9_wordLength
  rw [rc_2, h_ci (X9_begin_h hT hx hx2), rc_2, h_ci X9_sound_h, u2_ap, if_neg (by omega), decide_eq_false hs, bF, h_if, if_pos rfl]; rfl
/-! lists of words -/
theorem h_slen {k : Nat} (hk : k < 16) {F : Int32 → zM} : z_slen (zB + k) F h = F (nI (zs_len.getD k 0)) h := by
  show (if _ then F (Int32.ofNat (zs_len.getD (zB + k - zB) 0)) h else none) = _
  rw [if_pos ⟨by omega, by omega⟩, Nat.add_sub_cancel_left]; rfl
theorem h_sch {k i : Nat} (hk : k < 16) (hi : i < zs_len.getD k 0) (hl : zs_len.getD k 0 < 1000) {F : Int32 → zM} : z_sch (zB + k) (nI i) F h = F ((zs_byt.getD k []).getD i 0) h := by
  show (if _ then F ((zs_byt.getD (zB + k - zB) []).getD (nI i).toNatClampNeg 0) h else none) = _
  rw [Nat.add_sub_cancel_left, nI_toI (by omega), nI_clamp (by omega), if_pos ⟨⟨by omega, by omega⟩, by omega, by omega⟩]
theorem zs_small : ∀ k, k < 16 → zs_len.getD k 0 < 1000 ∧ (zs_byt.getD k []).length = zs_len.getD k 0 := by decide +kernel
theorem X9_ls_lp (hT : txX I b n) (ha : a ≤ n) (hx2 : I 2 2 = nI a) {k : Nat} (hk : k < 16) {c : Nat} (hc : c ≤ 1600) : ∀ (l : List Int32) (i idx len fuel : Nat) (same : Bool), (zs_byt.getD k []).drop i = l → i ≤ zs_len.getD k 0 → len ≤ i → idx ≤ i → l.length + 1 < fuel → z_fix (fun r x => X9_listed_B19 2 (zB + k) (nI c) r x.1 x.2.1 x.2.2.1 x.2.2.2) fuel (nI idx, nI (i - len), bI same, nI i) (hp I L ρ) = some (some (.int (oI (ls (fun i => byI b n (a + i)) c l idx len same))), hp I L ρ) := by
  obtain ⟨z1, z2⟩ := zs_small k hk
  have hn := hT.2.1
  have hgo : ∀ (v3 v4 v5 : Int32) (f : Nat), z_fix (fun r x => X9_listed_B19 2 (zB + k) (nI c) r x.1 x.2.1 x.2.2.1 x.2.2.2) (f + 1) (v3, v4, v5, nI (zs_len.getD k 0 + 1)) (hp I L ρ) = some (some (.int (-1)), hp I L ρ) := by
    intro v3 v4 v5 f
    rw [h_fix]
    show X9_listed_B19 2 (zB + k) (nI c) _ v3 v4 v5 (nI (zs_len.getD k 0 + 1)) (hp I L ρ) = _
    unfold X9_listed_B19
    rw [h_slen hk, h_if, if_pos (by rw [nI_lt' (by omega) (by omega)]; omega)]; rfl
  -- at a word's end
  have h86 : ∀ (r : Int32 × Int32 × Int32 × Int32 → zM) (idx i len : Nat) (same : Bool), len ≤ i → i < 2000 → X9_listed_J86 r 2 (zB + k) (nI c) (nI idx) (nI (i - len)) (bI same) (nI i) (hp I L ρ) = if same = true ∧ len = c then some (some (.int (nI idx)), hp I L ρ) else r (nI (idx + 1), nI (i + 1), bI (decide (0 < c)), nI (i + 1)) (hp I L ρ) := by
    intro r idx i len same q1 q2
    have e102 : X9_listed_J102 r 2 (zB + k) (nI c) (nI idx) (nI i) (hp I L ρ) = r (nI (idx + 1), nI (i + 1), bI (decide (0 < c)), nI (i + 1)) (hp I L ρ) := by
      unfold X9_listed_J102 X9_listed_J120 X9_listed_J122
      rw [h_if, nI_1, nI_1, show (0 : Int32) = nI 0 from rfl]
      simp only [nI_le' (show c < 2147483648 by omega) (show 0 < 2147483648 by omega)]
      by_cases q : c ≤ 0
      · rw [if_pos q, decide_eq_false (by omega)]; rfl
      · rw [if_neg q, decide_eq_true (by omega)]; rfl
    unfold X9_listed_J86
    rw [h_if]
    cases same with
    | false => rw [bF, if_pos rfl, e102, if_neg (by simp)]
    | true =>
      rw [if_neg (show ¬ bI true = 0 by decide), h_if, pk_sub (by omega), show i - (i - len) = len by omega]
      by_cases q : len = c
      · rw [if_pos (by rw [q]), if_pos ⟨rfl, q⟩]; rfl
      · rw [if_neg (fun e => q ((nI_inj (by omega) (by omega)).mp e)), e102, if_neg (fun e => q e.2)]
  intro l
  induction l with
  | nil =>
    intro i idx len fuel same h1 h2 h3 h4 h5
    obtain ⟨f, rfl⟩ : ∃ f, fuel = f + 2 := ⟨fuel - 2, by have h6 : 0 + 1 < fuel := h5; omega⟩
    have hi : i = zs_len.getD k 0 := by
      have := List.drop_eq_nil_iff.mp h1
      omega
    rw [h_fix]
    show X9_listed_B19 2 (zB + k) (nI c) _ (nI idx) (nI (i - len)) (bI same) (nI i) (hp I L ρ) = some (some (.int (oI (if same = true ∧ len = c then some idx else none))), hp I L ρ)
    unfold X9_listed_B19
    rw [h_slen hk, h_if, if_neg (by rw [nI_lt' (by omega) (by omega)]; omega), h_slen hk, h_if, if_pos (nI_le (by omega) (by omega)), h86 _ _ _ _ _ h3 (by omega)]
    by_cases q : same = true ∧ len = c
    · rw [if_pos q, if_pos q]; rfl
    · rw [if_neg q, if_neg q, hi]
      exact hgo _ _ _ f
  | cons ch l ih =>
    intro i idx len fuel same h1 h2 h3 h4 h5
    obtain ⟨f, rfl⟩ : ∃ f, fuel = f + 1 := ⟨fuel - 1, by omega⟩
    have h5' : l.length + 1 < f := by
      have h6 : l.length + 1 + 1 < f + 1 := h5
      omega
    have hd : (zs_byt.getD k [])[i]? = some ch := by
      rw [← List.head?_drop, h1]; rfl
    have hl : i < zs_len.getD k 0 := by
      have := (List.getElem?_eq_some_iff.mp hd).1
      omega
    have hd2 : (zs_byt.getD k []).drop (i + 1) = l := by
      rw [← List.tail_drop, h1]; rfl
    have hch : (zs_byt.getD k []).getD i 0 = ch := by
      rw [List.getD_eq_getElem?_getD, hd]; rfl
    rw [h_fix]
    show X9_listed_B19 2 (zB + k) (nI c) _ (nI idx) (nI (i - len)) (bI same) (nI i) (hp I L ρ) = some (some (.int (oI (if ch = 32 then (if same = true ∧ len = c then some idx else ls (fun i => byI b n (a + i)) c l (idx + 1) 0 (decide (0 < c))) else ls (fun i => byI b n (a + i)) c l idx (len + 1) (same && decide (ch = byI b n (a + len)))))), hp I L ρ)
    unfold X9_listed_B19
    rw [h_slen hk, h_if, if_neg (by rw [nI_lt' (by omega) (by omega)]; omega), h_slen hk, h_if, if_neg (nI_ge (by omega) (by omega)), h_sch hk hl z1, hch, h_if]
    by_cases q : ch = 32
    · rw [if_pos q, if_pos q, h86 _ _ _ _ _ h3 (by omega)]
      by_cases q2 : same = true ∧ len = c
      · rw [if_pos q2, if_pos q2]; rfl
      · rw [if_neg q2, if_neg q2]
        exact ih (i + 1) (idx + 1) 0 f (decide (0 < c)) hd2 (by omega) (by omega) (by omega) h5'
    · rw [if_neg q, if_neg q, h_if]
      unfold X9_listed_J80 X9_listed_J81 X9_listed_J122
      cases same with
      | false =>
        rw [bF, if_pos rfl, nI_1]
        have hi := ih (i + 1) idx (len + 1) f false hd2 (by omega) (by omega) (by omega) h5'
        rw [show i + 1 - (len + 1) = i - len by omega] at hi
        exact hi
      | true =>
        have hi := fun s => ih (i + 1) idx (len + 1) f s hd2 (by omega) (by omega) (by omega) h5'
        rw [show i + 1 - (len + 1) = i - len by omega] at hi
        rw [if_neg (show ¬ bI true = 0 by decide), h_sch hk hl z1, hch, gi_2, hx2, nI_add, pk_sub (by omega), show a + i - (i - len) = a + len by omega, rc_2, h_ci (X9_byteAt_h hT (by omega)), h_if, nI_1, Bool.true_and]
        by_cases q3 : ch = byI b n (a + len)
        · rw [if_pos q3, decide_eq_true q3]
          exact hi true
        · rw [if_neg q3, decide_eq_false q3]
          exact hi false
def wsK (k : Nat) : List (List Nat) := if k = 0 then [[107, 110, 111, 119, 110], [115, 112, 114, 105, 110, 103], [108, 105, 107, 105, 110, 103], [119, 97, 114, 109], [119, 111, 114, 107], [115, 105, 122, 101], [102, 101, 101, 108], [114, 111, 117, 110, 100], [119, 97, 105, 116, 101, 100]] else if k = 1 then [[108, 101, 102, 116], [114, 105, 103, 104, 116], [107, 105, 110], [108, 105, 107, 101, 115], [107, 110, 111, 119, 115], [114, 111, 117, 110, 100, 115], [102, 101, 101, 108, 115], [108, 101, 116, 115], [108, 101, 97, 114, 110, 115], [115, 108, 105, 112]] else if k = 2 then [[108, 101, 102, 116], [114, 105, 103, 104, 116], [119, 97, 114, 109], [119, 111, 114, 107], [115, 105, 122, 101], [107, 105, 110], [108, 105, 107, 101, 115], [107, 110, 111, 119, 115], [114, 111, 117, 110, 100, 115], [102, 101, 101, 108, 115], [108, 101, 116, 115], [108, 101, 97, 114, 110, 115], [115, 108, 105, 112], [108, 105, 107, 105, 110, 103], [107, 110, 111, 119, 110], [102, 101, 101, 108], [114, 111, 117, 110, 100], [115, 112, 114, 105, 110, 103], [119, 97, 105, 116, 101, 100], [110, 117, 109, 98, 101, 114], [115, 105, 100, 101], [119, 101, 100], [111, 114], [97, 110, 100], [110, 111, 116], [97, 108, 108], [109, 105, 110], [109, 97, 120]] else if k = 3 then [[119, 97, 114, 109]] else if k = 4 then [[119, 111, 114, 107]] else if k = 5 then [[115, 105, 122, 101]] else if k = 6 then [[110, 111, 116]] else if k = 7 then [[97, 108, 108]] else if k = 8 then [[109, 105, 110]] else if k = 9 then [[109, 97, 120]] else if k = 10 then [[108, 105, 107, 101, 115]] else if k = 11 then [[107, 110, 111, 119, 115]] else if k = 12 then [[97, 110, 100]] else if k = 13 then [[111, 114]] else if k = 14 then [[110, 117, 109, 98, 101, 114], [115, 105, 100, 101], [119, 97, 114, 109], [119, 111, 114, 107], [115, 105, 122, 101], [119, 97, 105, 116, 101, 100], [119, 101, 100], [115, 112, 114, 105, 110, 103], [114, 111, 117, 110, 100]] else [[102, 105, 114, 115, 116], [108, 97, 115, 116], [111, 102, 116, 101, 110], [116, 111, 116, 97, 108], [109, 111, 115, 116], [108, 101, 97, 115, 116]]
theorem wsK_flw : ∀ k, k < 16 → zs_byt.getD k [] = flw (wsK k) := by decide +kernel
theorem wsK_ok : ∀ k, k < 16 → wsK k ≠ [] ∧ ((wsK k).all fun w => okw w && decide (0 < w.length)) = true := by decide +kernel
theorem X9_listed_h (hT : txX I b n) (ha : a ≤ n) (hx2 : I 2 2 = nI a) {k : Nat} (hk : k < 16) : X9_listed 2 (zB + k) (nI (wl b n a)) (hp I L ρ) = some (some (.int (oI (t_in b n a (wsK k) 0))), hp I L ρ) := by
  have hw := wl_le (b := b) ha
  have hn := hT.2.1
  obtain ⟨z1, z2⟩ := zs_small k hk
  have e := X9_ls_lp (L := L) (ρ := ρ) hT ha hx2 hk (c := wl b n a) (by omega) (zs_byt.getD k []) 0 0 0 zFU (decide (0 < wl b n a)) rfl (Nat.zero_le _) (Nat.le_refl _) (Nat.le_refl _) (by unfold zFU; omega)
  rw [wsK_flw k hk, ls_in (tx_hb hT) (wsK k) 0 (wsK_ok k hk).1 (wsK_ok k hk).2] at e
  unfold X9_listed X9_listed_J14
  rw [h_if, show (0 : Int32) = nI 0 from rfl]
  simp only [nI_le' (show wl b n a < 2147483648 by omega) (show 0 < 2147483648 by omega)]
  by_cases q : wl b n a ≤ 0
  · rw [if_pos q]
    rw [decide_eq_false (show ¬ 0 < wl b n a by omega)] at e
    exact e
  · rw [if_neg q]
    rw [decide_eq_true (show 0 < wl b n a by omega)] at e
    exact e
theorem X9_listed_0 (hT : txX I b n) (ha : a ≤ n) (hx2 : I 2 2 = nI a) {k : Nat} (hk : k < 16) : X9_listed 2 (zB + k) (nI 0) (hp I L ρ) = some (some (.int (-1)), hp I L ρ) := by
  obtain ⟨z1, z2⟩ := zs_small k hk
  have e := X9_ls_lp (L := L) (ρ := ρ) hT ha hx2 hk (c := 0) (by omega) (zs_byt.getD k []) 0 0 0 zFU false rfl (Nat.zero_le _) (Nat.le_refl _) (Nat.le_refl _) (by unfold zFU; omega)
  rw [ls_0] at e
  unfold X9_listed X9_listed_J14
  rw [h_if, if_pos (by decide)]
  exact e
end B61
