/-! texts: blanks, words, numbers -/
section B60
variable {b : Nat → Nat} {n a : Nat}
def isL (c : Nat) : Bool := decide (97 ≤ c ∧ c ≤ 122)
def isD (c : Nat) : Bool := decide (48 ≤ c ∧ c ≤ 57)
/-- byte j of a text of n; 0 where none stands -/
def t_c (b : Nat → Nat) (n j : Nat) : Nat := if j < n then b j else 0
def t_bl (c : Nat) : Bool := decide (c = 32 ∨ c = 10)
def t_s (b : Nat → Nat) (n : Nat) : Nat → Nat → Nat
  | 0, a => a
  | m + 1, a => if t_bl (t_c b n a) = true then t_s b n m (a + 1) else a
/-- behind blanks -/
def sk (b : Nat → Nat) (n a : Nat) : Nat := t_s b n (n - a) a
theorem t_c_ge (h : n ≤ a) : t_c b n a = 0 := if_neg (by omega)
theorem t_c_lt (h : a < n) : t_c b n a = b a := if_pos h
theorem sk_st (h : t_bl (t_c b n a) = true) : sk b n a = sk b n (a + 1) ∧ a < n := by
  have hl : a < n := by
    by_cases c : a < n
    · exact c
    · rw [t_c_ge (by omega)] at h; exact absurd h (by decide)
  refine ⟨?_, hl⟩
  unfold sk
  rw [show n - a = (n - (a + 1)) + 1 by omega]
  show (if t_bl (t_c b n a) = true then t_s b n (n - (a + 1)) (a + 1) else a) = _
  rw [if_pos h]
theorem sk_no (h : ¬ t_bl (t_c b n a) = true) : sk b n a = a := by
  unfold sk
  rcases q : n - a with _ | m
  · rfl
  · show (if t_bl (t_c b n a) = true then t_s b n m (a + 1) else a) = a
    rw [if_neg h]
theorem sk_all : ∀ m a, n - a ≤ m → (a ≤ sk b n a ∧ (a ≤ n → sk b n a ≤ n)) ∧ (¬ t_bl (t_c b n (sk b n a)) = true) ∧ (sk b n a = a ∨ t_bl (t_c b n (sk b n a - 1)) = true)
  | 0, a, h => by
    have e : ¬ t_bl (t_c b n a) = true := by rw [t_c_ge (by omega)]; decide
    rw [sk_no e]
    exact ⟨⟨Nat.le_refl _, fun h => h⟩, e, Or.inl rfl⟩
  | m + 1, a, h => by
    by_cases c : t_bl (t_c b n a) = true
    · obtain ⟨e, hl⟩ := sk_st c
      have hi := sk_all m (a + 1) (by omega)
      rw [e]
      refine ⟨⟨by omega, fun _ => hi.1.2 (by omega)⟩, hi.2.1, ?_⟩
      rcases hi.2.2 with q | q
      · right
        rw [q, Nat.add_sub_cancel]
        exact c
      · exact Or.inr q
    · rw [sk_no c]
      exact ⟨⟨Nat.le_refl _, fun h => h⟩, c, Or.inl rfl⟩
theorem sk_ge : a ≤ sk b n a := (sk_all (n - a) a (Nat.le_refl _)).1.1
theorem sk_le (h : a ≤ n) : sk b n a ≤ n := (sk_all (n - a) a (Nat.le_refl _)).1.2 h
theorem sk_nb : ¬ t_bl (t_c b n (sk b n a)) = true := (sk_all (n - a) a (Nat.le_refl _)).2.1
theorem sk_bk : sk b n a = a ∨ t_bl (t_c b n (sk b n a - 1)) = true := (sk_all (n - a) a (Nat.le_refl _)).2.2
theorem sk_sk : sk b n (sk b n a) = sk b n a := sk_no sk_nb
def rl (b : Nat → Nat) (n : Nat) : Nat → Nat → Nat
  | 0, _ => 0
  | m + 1, a => if isL (t_c b n a) = true then rl b n m (a + 1) + 1 else 0
/-- letters from a on -/
def t_l (b : Nat → Nat) (n a : Nat) : Nat := rl b n (n - a) a
theorem t_l_st (h : isL (t_c b n a) = true) : t_l b n a = t_l b n (a + 1) + 1 ∧ a < n := by
  have hl : a < n := by
    by_cases c : a < n
    · exact c
    · rw [t_c_ge (by omega)] at h; exact absurd h (by decide)
  refine ⟨?_, hl⟩
  unfold t_l
  rw [show n - a = (n - (a + 1)) + 1 by omega]
  show (if isL (t_c b n a) = true then rl b n (n - (a + 1)) (a + 1) + 1 else 0) = _
  rw [if_pos h]
theorem t_l_no (h : ¬ isL (t_c b n a) = true) : t_l b n a = 0 := by
  unfold t_l
  rcases q : n - a with _ | m
  · rfl
  · show (if isL (t_c b n a) = true then rl b n m (a + 1) + 1 else 0) = 0
    rw [if_neg h]
theorem t_l_all : ∀ m a, n - a ≤ m → (a ≤ n → a + t_l b n a ≤ n) ∧ (∀ i, i < t_l b n a → isL (t_c b n (a + i)) = true) ∧ ¬ isL (t_c b n (a + t_l b n a)) = true
  | 0, a, h => by
    have e : ¬ isL (t_c b n a) = true := by rw [t_c_ge (by omega)]; decide
    rw [t_l_no e]
    exact ⟨fun h => h, fun i hi => by omega, e⟩
  | m + 1, a, h => by
    by_cases c : isL (t_c b n a) = true
    · obtain ⟨e, hl⟩ := t_l_st c
      obtain ⟨h1, h2, h3⟩ := t_l_all m (a + 1) (by omega)
      rw [e]
      refine ⟨fun _ => by have := h1 (by omega); omega, fun i hi => ?_, ?_⟩
      · rcases i with _ | i
        · exact c
        · rw [show a + (i + 1) = a + 1 + i by omega]
          exact h2 i (by omega)
      · rw [show a + (t_l b n (a + 1) + 1) = a + 1 + t_l b n (a + 1) by omega]
        exact h3
    · rw [t_l_no c]
      exact ⟨fun h => h, fun i hi => by omega, c⟩
theorem t_l_le (h : a ≤ n) : a + t_l b n a ≤ n := (t_l_all (n - a) a (Nat.le_refl _)).1 h
theorem t_l_in {i : Nat} (h : i < t_l b n a) : isL (t_c b n (a + i)) = true := (t_l_all (n - a) a (Nat.le_refl _)).2.1 i h
theorem t_l_end : ¬ isL (t_c b n (a + t_l b n a)) = true := (t_l_all (n - a) a (Nat.le_refl _)).2.2
/-- how long the word at a is; none stands right behind a number -/
def wl (b : Nat → Nat) (n a : Nat) : Nat := if 0 < a ∧ isD (t_c b n (a - 1)) = true then 0 else t_l b n a
theorem wl_le (h : a ≤ n) : a + wl b n a ≤ n := by
  have := t_l_le (b := b) h
  unfold wl
  split <;> omega
def isW (b : Nat → Nat) (n a : Nat) (w : List Nat) : Bool := decide (wl b n a = w.length ∧ 0 < w.length ∧ ∀ i, i < w.length → t_c b n (a + i) = w.getD i 0)
def t_in (b : Nat → Nat) (n a : Nat) : List (List Nat) → Nat → Option Nat
  | [], _ => none
  | w :: ws, k => if isW b n a w = true then some k else t_in b n a ws (k + 1)
theorem t_in_lt : ∀ {ws : List (List Nat)} {k x : Nat}, t_in b n a ws k = some x → (k ≤ x ∧ x < k + ws.length) ∧ 0 < wl b n a ∧ isW b n a (ws.getD (x - k) []) = true
  | [], k, x, h => by cases h
  | w :: ws, k, x, h => by
    unfold t_in at h
    by_cases c : isW b n a w = true
    · rw [if_pos c] at h
      cases h
      have h2 := of_decide_eq_true c
      refine ⟨⟨Nat.le_refl _, by show k < k + (ws.length + 1); omega⟩, by omega, ?_⟩
      rw [Nat.sub_self]; exact c
    · rw [if_neg c] at h
      obtain ⟨h1, h2, h3⟩ := t_in_lt h
      refine ⟨⟨by omega, by show x < k + (ws.length + 1); omega⟩, h2, ?_⟩
      rw [show x - k = (x - (k + 1)) + 1 by omega]
      exact h3
/-- digits, m at the most -/
def t_n (b : Nat → Nat) (n : Nat) : Nat → Nat → Nat → Nat × Nat
  | 0, v, a => (v, a)
  | m + 1, v, a => if isD (t_c b n a) = true then t_n b n m (v * 10 + (t_c b n a - 48)) (a + 1) else (v, a)
theorem isD_lt (h : isD (t_c b n a) = true) : a < n ∧ 48 ≤ t_c b n a ∧ t_c b n a ≤ 57 := by
  have h2 := of_decide_eq_true h
  refine ⟨?_, h2⟩
  by_cases c : a < n
  · exact c
  · rw [t_c_ge (by omega)] at h2; omega
theorem isL_lt (h : isL (t_c b n a) = true) : a < n ∧ 97 ≤ t_c b n a ∧ t_c b n a ≤ 122 := by
  have h2 := of_decide_eq_true h
  refine ⟨?_, h2⟩
  by_cases c : a < n
  · exact c
  · rw [t_c_ge (by omega)] at h2; omega
theorem t_n_in : ∀ m v a, a ≤ n → (a ≤ (t_n b n m v a).2 ∧ (t_n b n m v a).2 ≤ n ∧ (t_n b n m v a).2 ≤ a + m) ∧ (t_n b n m v a).1 < (v + 1) * 10 ^ m ∧ (∀ j, a ≤ j → j < (t_n b n m v a).2 → isD (t_c b n j) = true)
  | 0, v, a, h => ⟨⟨Nat.le_refl _, h, Nat.le_refl _⟩, by show v < _; simp, fun j h1 h2 => by have h3 : j < a := h2; omega⟩
  | m + 1, v, a, h => by
    unfold t_n
    by_cases c : isD (t_c b n a) = true
    · rw [if_pos c]
      obtain ⟨hl, d1, d2⟩ := isD_lt c
      obtain ⟨⟨h1, h2, h3⟩, h4, h5⟩ := t_n_in m (v * 10 + (t_c b n a - 48)) (a + 1) (by omega)
      refine ⟨⟨by omega, h2, by omega⟩, ?_, fun j q1 q2 => ?_⟩
      · refine Nat.lt_of_lt_of_le h4 ?_
        rw [Nat.pow_succ, Nat.mul_comm (10 ^ m) 10, ← Nat.mul_assoc]
        exact Nat.mul_le_mul_right _ (by omega)
      · by_cases e : j = a
        · rw [e]; exact c
        · exact h5 j (by omega) q2
    · rw [if_neg c]
      refine ⟨⟨Nat.le_refl _, h, by show a ≤ _; omega⟩, ?_, fun j h1 h2 => by have h3 : j < a := h2; omega⟩
      have : 0 < 10 ^ (m + 1) := Nat.pow_pos (by omega)
      show v < (v + 1) * 10 ^ (m + 1)
      have h2 : (v + 1) * 1 ≤ (v + 1) * 10 ^ (m + 1) := Nat.mul_le_mul_left _ this
      omega
/-- a number at a: a fault, or the number and what is behind it -/
def p_num (b : Nat → Nat) (n lo hi a : Nat) : Sum (Nat × Nat) (Nat × Nat) := if ¬ isD (t_c b n a) = true ∨ (0 < a ∧ isL (t_c b n (a - 1)) = true) then .inl (1, a) else if isD (t_c b n (t_n b n 4 0 a).2) = true then .inl (1, (t_n b n 4 0 a).2) else if (t_n b n 4 0 a).1 < lo ∨ hi < (t_n b n 4 0 a).1 then .inl (2, a) else .inr ((t_n b n 4 0 a).1, (t_n b n 4 0 a).2)
/-! lists of words, as they stand in the class -/
def ls (g : Nat → Int32) (wanted : Nat) : List Int32 → Nat → Nat → Bool → Option Nat
  | [], idx, len, same => if same = true ∧ len = wanted then some idx else none
  | c :: l, idx, len, same => if c = 32 then (if same = true ∧ len = wanted then some idx else ls g wanted l (idx + 1) 0 (decide (0 < wanted))) else ls g wanted l idx (len + 1) (same && decide (c = g len))
def flw : List (List Nat) → List Int32
  | [] => []
  | [w] => w.map nI
  | w :: w2 :: ws => w.map nI ++ (32 :: flw (w2 :: ws))
def okw (w : List Nat) : Bool := w.all fun c => decide (97 ≤ c ∧ c ≤ 122)
theorem ls_w {g : Nat → Int32} {wanted : Nat} {rest : List Int32} : ∀ (w : List Nat) (idx len : Nat) (same : Bool), okw w = true → ls g wanted (w.map nI ++ rest) idx len same = ls g wanted rest idx (len + w.length) (same && decide (∀ i, i < w.length → nI (w.getD i 0) = g (len + i)))
  | [], idx, len, same, _ => by
    have : decide (∀ i, i < ([] : List Nat).length → nI (([] : List Nat).getD i 0) = g (len + i)) = true := decide_eq_true (fun i hi => absurd hi (Nat.not_lt_zero i))
    rw [this, Bool.and_true]; rfl
  | c :: w, idx, len, same, h => by
    have h2 : (decide (97 ≤ c ∧ c ≤ 122) && okw w) = true := h
    rw [Bool.and_eq_true, decide_eq_true_eq] at h2
    show (if nI c = 32 then _ else ls g wanted (w.map nI ++ rest) idx (len + 1) (same && decide (nI c = g len))) = _
    rw [if_neg (show ¬ nI c = 32 from fun e => by have := (nI_inj (b := 32) (by omega) (by omega)).mp e; omega), ls_w w idx (len + 1) _ h2.2, Bool.and_assoc]
    have e : (decide (nI c = g len) && decide (∀ i, i < w.length → nI (w.getD i 0) = g (len + 1 + i))) = decide (∀ i, i < (c :: w).length → nI ((c :: w).getD i 0) = g (len + i)) := by
      rw [Bool.eq_iff_iff, Bool.and_eq_true, decide_eq_true_eq, decide_eq_true_eq, decide_eq_true_eq]
      refine ⟨fun q i hi => ?_, fun q => ⟨q 0 (Nat.succ_pos _), fun i hi => ?_⟩⟩
      · rcases i with _ | i
        · exact q.1
        · have := q.2 i (by have h3 : i + 1 < w.length + 1 := hi; omega)
          rw [show len + (i + 1) = len + 1 + i by omega]
          exact this
      · have := q (i + 1) (by show i + 1 < w.length + 1; omega)
        rw [show len + 1 + i = len + (i + 1) by omega]
        exact this
    rw [e, show len + 1 + w.length = len + (c :: w).length by show _ = len + (w.length + 1); omega]
def byI (b : Nat → Nat) (n j : Nat) : Int32 := if j < n then nI (b j) else -1
theorem byI_c (hb : ∀ j, j < n → b j < 256) {c j : Nat} (hc : 0 < c ∧ c < 1000) : byI b n j = nI c ↔ t_c b n j = c := by
  unfold byI t_c
  by_cases h : j < n
  · have := hb j h
    rw [if_pos h, if_pos h]
    exact nI_inj (by omega) (by omega)
  · rw [if_neg h, if_neg h]
    exact ⟨fun e => absurd e.symm (nI_nm1 (by omega)), fun e => by omega⟩
theorem ls_in (hb : ∀ j, j < n → b j < 256) : ∀ (ws : List (List Nat)) (idx : Nat), ws ≠ [] → (ws.all fun w => okw w && decide (0 < w.length)) = true → ls (fun i => byI b n (a + i)) (wl b n a) (flw ws) idx 0 (decide (0 < wl b n a)) = t_in b n a ws idx
  | [], _, h, _ => absurd rfl h
  | w :: ws, idx, _, h => by
    have h2 : ((okw w && decide (0 < w.length)) && ws.all fun w => okw w && decide (0 < w.length)) = true := h
    rw [Bool.and_eq_true, Bool.and_eq_true, decide_eq_true_eq] at h2
    have hw : (decide (0 < wl b n a) && decide (∀ i, i < w.length → nI (w.getD i 0) = byI b n (a + (0 + i)))) = true ∧ 0 + w.length = wl b n a ↔ isW b n a w = true := by
      unfold isW
      rw [Bool.and_eq_true, decide_eq_true_eq, decide_eq_true_eq, decide_eq_true_eq]
      have hc : ∀ i, i < w.length → 0 < w.getD i 0 ∧ w.getD i 0 < 1000 := by
        intro i hi
        have h3 := List.all_eq_true.mp h2.1.1 (w.getD i 0) (by rw [List.getD_eq_getElem?_getD, List.getElem?_eq_getElem hi]; exact List.getElem_mem hi)
        have := of_decide_eq_true h3
        omega
      refine ⟨fun ⟨⟨q1, q2⟩, q3⟩ => ⟨by omega, h2.1.2, fun i hi => ?_⟩, fun ⟨q1, q2, q3⟩ => ⟨⟨by omega, fun i hi => ?_⟩, by omega⟩⟩
      · have := q2 i hi
        rw [Nat.zero_add] at this
        exact (byI_c hb (hc i hi)).mp this.symm
      · rw [Nat.zero_add]
        exact ((byI_c hb (hc i hi)).mpr (q3 i hi)).symm
    rcases ws with _ | ⟨w2, ws⟩
    · have e := ls_w (g := fun i => byI b n (a + i)) (wanted := wl b n a) (rest := []) w idx 0 (decide (0 < wl b n a)) h2.1.1
      rw [List.append_nil] at e
      refine e.trans ?_
      show (if _ ∧ _ then some idx else none) = if isW b n a w = true then some idx else none
      by_cases c : isW b n a w = true
      · rw [if_pos (hw.mpr c), if_pos c]
      · rw [if_neg (fun q => c (hw.mp q)), if_neg c]
    · have e := ls_w (g := fun i => byI b n (a + i)) (wanted := wl b n a) (rest := 32 :: flw (w2 :: ws)) w idx 0 (decide (0 < wl b n a)) h2.1.1
      refine e.trans ?_
      show (if (32 : Int32) = 32 then (if _ ∧ _ then some idx else ls _ _ (flw (w2 :: ws)) (idx + 1) 0 _) else _) = if isW b n a w = true then some idx else t_in b n a (w2 :: ws) (idx + 1)
      rw [if_pos rfl]
      by_cases c : isW b n a w = true
      · rw [if_pos (hw.mpr c), if_pos c]
      · rw [if_neg (fun q => c (hw.mp q)), if_neg c]
        exact ls_in hb (w2 :: ws) (idx + 1) (by simp) h2.2
theorem ls_0 {g : Nat → Int32} : ∀ (l : List Int32) (idx len : Nat), ls g 0 l idx len false = none
  | [], _, _ => rfl
  | c :: l, idx, len => by
    show (if c = 32 then (if false = true ∧ len = 0 then some idx else ls g 0 l (idx + 1) 0 (decide (0 < 0))) else ls g 0 l idx (len + 1) (false && decide (c = g len))) = none
    split
    · rw [if_neg (by simp)]
      exact ls_0 l (idx + 1) 0
    · exact ls_0 l idx (len + 1)
end B60
