/-! a church's text, apart from any machine -/
section B81
variable {b : Nat → Nat} {n a : Nat}
abbrev nT : Type := (Nat → Nat) × ((Nat → Nat) × Nat) × ((Nat → Nat) × (Nat → Nat) × (Nat → Nat)) × (Nat → Bool) × ((Nat → Nat) × (Nat → Nat)) × (Nat × Nat) × (Nat → Option (List Nat))
def n_n (S : nT) : Nat → Nat := S.1
def n_nm (S : nT) : Nat → Nat := S.2.1.1
def n_kc (S : nT) : Nat := S.2.1.2
def n_wm (S : nT) : Nat → Nat := S.2.2.1.1
def n_wk (S : nT) : Nat → Nat := S.2.2.1.2.1
def n_sz (S : nT) : Nat → Nat := S.2.2.1.2.2
def n_kin (S : nT) : Nat → Bool := S.2.2.2.1
def n_lk (S : nT) : Nat → Nat := S.2.2.2.2.1.1
def n_kw (S : nT) : Nat → Nat := S.2.2.2.2.1.2
def n_rt (S : nT) : Nat := S.2.2.2.2.2.1.1
def n_sl (S : nT) : Nat := S.2.2.2.2.2.1.2
def n_cd (S : nT) : Nat → Option (List Nat) := S.2.2.2.2.2.2
def upn {α : Type} (f : Nat → α) (j : Nat) (v : α) : Nat → α := fun x => if x = j then v else f x
theorem upn_s {α : Type} {f : Nat → α} {j : Nat} {v : α} : upn f j v j = v := if_pos rfl
theorem upn_n {α : Type} {f : Nat → α} {j x : Nat} {v : α} (h : x ≠ j) : upn f j v x = f x := if_neg h
abbrev n_th (S : nT) (a : Nat) : Prop := a < n_n S 0 ∨ (6 ≤ a ∧ a < 6 + n_n S 1)
/-- who has a name -/
def n_fd (S : nT) (f : Nat → Nat) : Nat → Nat → Option Nat
  | 0, _ => none
  | m + 1, a => if n_th S a ∧ (∀ i, i < 6 → n_nm S (6 * a + i) = f i) then some a else n_fd S f m (a + 1)
theorem n_fd_s {S : nT} {f : Nat → Nat} : ∀ (m a x : Nat), n_fd S f m a = some x → (a ≤ x ∧ x < a + m) ∧ n_th S x ∧ ∀ i, i < 6 → n_nm S (6 * x + i) = f i
  | 0, a, x, h => by cases h
  | m + 1, a, x, h => by
    have h : (if n_th S a ∧ (∀ i, i < 6 → n_nm S (6 * a + i) = f i) then some a else n_fd S f m (a + 1)) = some x := h
    by_cases c : n_th S a ∧ (∀ i, i < 6 → n_nm S (6 * a + i) = f i)
    · rw [if_pos c] at h
      cases h
      exact ⟨⟨Nat.le_refl _, by omega⟩, c⟩
    · rw [if_neg c] at h
      obtain ⟨h1, h2⟩ := n_fd_s m (a + 1) x h
      exact ⟨⟨by omega, by omega⟩, h2⟩
theorem n_fd_n {S : nT} {f : Nat → Nat} : ∀ (m a x : Nat), n_fd S f m a = none → a ≤ x → x < a + m → n_th S x → ¬ ∀ i, i < 6 → n_nm S (6 * x + i) = f i
  | 0, a, x, h, h1, h2, h3 => by omega
  | m + 1, a, x, h, h1, h2, h3 => by
    have h : (if n_th S a ∧ (∀ i, i < 6 → n_nm S (6 * a + i) = f i) then some a else n_fd S f m (a + 1)) = none := h
    by_cases c : n_th S a ∧ (∀ i, i < 6 → n_nm S (6 * a + i) = f i)
    · rw [if_pos c] at h; cases h
    · rw [if_neg c] at h
      by_cases e : x = a
      · exact fun q => c ⟨e ▸ h3, e ▸ q⟩
      · exact n_fd_n m (a + 1) x h (by omega) (by omega) h3
abbrev nR : Type := Sum (Nat × Nat) (Nat × nT)
abbrev rP : Type := Sum (Nat × Nat) Nat
/-- a place or a fault, and what is done there -/
def bd (r : rP) (F : Nat → nR) : nR := match r with
  | .inl e => .inl e
  | .inr a => F a
def br (r : rP) (F : Nat → rP) : rP := match r with
  | .inl e => .inl e
  | .inr a => F a
theorem bd_br {r : rP} {f : Nat → rP} {F : Nat → nR} : bd (br r f) F = bd r (fun a => bd (f a) F) := by
  rcases r with e | a
  · rfl
  · rfl
def w_wa : List Nat := [119, 97, 114, 109]
def w_wo : List Nat := [119, 111, 114, 107]
def w_si : List Nat := [115, 105, 122, 101]
/-- a word that must be there; a number; a name -/
def r_w (b : Nat → Nat) (n : Nat) (w : List Nat) (a : Nat) : rP := if isW b n a w = true then .inr (sk b n (a + w.length)) else .inl (1, a)
def r_num (b : Nat → Nat) (n lo hi a : Nat) : rP := match p_num b n lo hi a with
  | .inl e => .inl e
  | .inr q => .inr (sk b n q.2)
def v_num (b : Nat → Nat) (n lo hi a : Nat) : Nat := match p_num b n lo hi a with
  | .inl _ => 0
  | .inr q => q.1
def r_nm (b : Nat → Nat) (n a : Nat) : rP := match p_nmb b n a with
  | some p => .inl (1, p)
  | none => .inr (sk b n (a + wl b n a))
/-- one of the left, of the right -/
def n_add (S : nT) (side : Nat) (nm : Nat → Nat) (x y z : Nat) : nT := (upn (n_n S) side (n_n S side + 1), ((fun j => if 6 * (6 * side + n_n S side) ≤ j ∧ j < 6 * (6 * side + n_n S side) + 6 then nm (j - 6 * (6 * side + n_n S side)) else n_nm S j), n_kc S), (upn (n_wm S) (6 * side + n_n S side) x, upn (n_wk S) (6 * side + n_n S side) y, upn (n_sz S) (6 * side + n_n S side) z), S.2.2.2)
def r_new (S : nT) (f : Nat → Nat) (a a1 : Nat) : rP := if n_fd S f 12 0 = none then .inr a1 else .inl (3, a)
/-- a name that is not told yet, where it is read -/
def r_nn (b : Nat → Nat) (n : Nat) (S : nT) (a : Nat) : rP := br (r_nm b n a) (r_new S (p_nml b n a) a)
/-- the place behind each of the parts of one who is told -/
def ot_1 (b : Nat → Nat) (n : Nat) (S : nT) (a : Nat) : rP := br (r_nn b n S a) (r_w b n w_wa)
def ot_2 (b : Nat → Nat) (n : Nat) (S : nT) (a : Nat) : rP := br (ot_1 b n S a) (r_num b n 0 9)
def ot_3 (b : Nat → Nat) (n : Nat) (S : nT) (a : Nat) : rP := br (ot_2 b n S a) (r_w b n w_wo)
def ot_4 (b : Nat → Nat) (n : Nat) (S : nT) (a : Nat) : rP := br (ot_3 b n S a) (r_num b n 0 9)
def ot_5 (b : Nat → Nat) (n : Nat) (S : nT) (a : Nat) : rP := br (ot_4 b n S a) (r_w b n w_si)
def ot_6 (b : Nat → Nat) (n : Nat) (S : nT) (a : Nat) : rP := br (ot_5 b n S a) (r_num b n 0 9)
/-- the number that is read behind a place -/
def vl (b : Nat → Nat) (n lo hi : Nat) (r : rP) : Nat := match r with
  | .inl _ => 0
  | .inr a => v_num b n lo hi a
def s_one (b : Nat → Nat) (n : Nat) (S : nT) (side here a : Nat) : nR := if 6 ≤ n_n S side then .inl (5, here) else bd (ot_6 b n S a) (fun a1 => .inr (a1, n_add S side (p_nml b n a) (vl b n 0 9 (ot_1 b n S a)) (vl b n 0 9 (ot_3 b n S a)) (vl b n 0 9 (ot_5 b n S a))))
/-- one who is asked for by name -/
def r_ask (b : Nat → Nat) (n : Nat) (S : nT) (acr : Nat → Bool) (a : Nat) : rP := br (r_nm b n a) (fun a1 => match n_fd S (p_nml b n a) 12 0 with
  | none => .inl (3, a)
  | some y => if acr y = true then .inr a1 else .inl (3, a))
def v_ask (b : Nat → Nat) (n : Nat) (S : nT) (a : Nat) : Nat := (n_fd S (p_nml b n a) 12 0).getD 0
def acr0 (_ : Nat) : Bool := true
def acr1 (x y : Nat) : Bool := decide (x < 6 ↔ 6 ≤ y)
/-- two who are asked for: the place behind, and who they are -/
def s_two (b : Nat → Nat) (n : Nat) (S : nT) (a : Nat) (F : Nat → Nat → Nat → Nat → nR) : nR := bd (r_ask b n S acr0 a) (fun a1 => bd (r_ask b n S (acr1 (v_ask b n S a)) a1) (fun a2 => F a1 a2 (v_ask b n S a) (v_ask b n S a1)))
def n_kn (S : nT) (x y : Nat) : nT := (n_n S, (n_nm S, n_kc S + 1), S.2.2.1, upn (upn (n_kin S) (6 * x + y % 6) true) (6 * y + x % 6) true, S.2.2.2.2)
def s_kin (b : Nat → Nat) (n : Nat) (S : nT) (a : Nat) : nR := s_two b n S a (fun a1 a2 x y => if n_kin S (6 * x + y % 6) = true then .inl (3, a1) else .inr (a2, n_kn S x y))
def n_br (S : nT) (k j v : Nat) : nT := (n_n S, S.2.1, S.2.2.1, n_kin S, (if k = 0 then upn (n_lk S) j v else n_lk S, if k = 0 then n_kw S else upn (n_kw S) j v), S.2.2.2.2.2)
def s_bear (b : Nat → Nat) (n : Nat) (S : nT) (k a : Nat) : nR := s_two b n S a (fun a1 a2 x y => bd (r_num b n 0 9 a2) (fun a3 => .inr (a3, n_br S k (6 * x + y % 6) (v_num b n 0 9 a2))))
def n_st (S : nT) (w : Nat) (l : List Nat) : nT := (n_n S, S.2.1, S.2.2.1, n_kin S, S.2.2.2.2.1, S.2.2.2.2.2.1, upn (n_cd S) w (some l))
def s_form (b : Nat → Nat) (n : Nat) (S : nT) (w here a : Nat) : nR := if n_cd S w = none then (match pq b n w 60 (if w = 1 then 0 else 3) 0 a 0 0 with
  | .inl e => .inl e
  | .inr q => .inr (q.1, n_st S w q.2)) else .inl (5, here)
def n_rts (S : nT) (v : Nat) : nT := (n_n S, S.2.1, S.2.2.1, n_kin S, S.2.2.2.2.1, (v, n_sl S), n_cd S)
def n_sls (S : nT) (v : Nat) : nT := (n_n S, S.2.1, S.2.2.1, n_kin S, S.2.2.2.2.1, (n_rt S, v), n_cd S)
def s_of (b : Nat → Nat) (n : Nat) (S : nT) (k here a : Nat) : nR := if k < 2 then s_one b n S k here a else if k = 2 then s_kin b n S a else if k < 5 then s_bear b n S (k - 3) a else if k = 5 then bd (r_num b n 1 12 a) (fun a1 => .inr (a1, n_rts S (v_num b n 1 12 a))) else if k < 9 then s_form b n S (k - 6) here a else bd (r_num b n 0 100 a) (fun a1 => .inr (a1, n_sls S (v_num b n 0 100 a)))
def s_st (b : Nat → Nat) (n : Nat) (S : nT) (a : Nat) : nR := match t_in b n a (wsK 1) 0 with
  | none => .inl (1, a)
  | some k => s_of b n S k a (sk b n (a + wl b n a))
def s_sg (b : Nat → Nat) (n : Nat) (r : nR) : nR := match r with
  | .inl e => .inl e
  | .inr q => if t_c b n q.1 = 59 then .inr (sk b n (q.1 + 1), q.2) else .inl (1, q.1)
def s_lp (b : Nat → Nat) (n : Nat) : Nat → Nat → Nat → nT → Sum (Nat × Nat) (Nat × nT)
  | 0, t, _, S => .inr (t, S)
  | g + 1, t, a, S => if n ≤ a then .inr (t, S) else if t = 60 then .inl (5, a) else match s_sg b n (s_st b n S a) with
    | .inl e => .inl e
    | .inr q => s_lp b n g (t + 1) q.1 q.2
/-! names -/
def okm (f : Nat → Nat) : Prop := (∀ i, i < 6 → f i ≤ 26) ∧ 1 ≤ f 0 ∧ ∀ i, i + 1 < 6 → f i = 0 → f (i + 1) = 0
theorem okm_nml (h : p_nmb b n a = none) : okm (p_nml b n a) ∧ 0 < wl b n a ∧ wl b n a ≤ 6 ∧ t_in b n a (wsK 2) 0 = none := by
  unfold p_nmb at h
  by_cases c1 : wl b n a = 0 ∨ t_in b n a (wsK 2) 0 ≠ none
  · rw [if_pos c1] at h; cases h
  rw [if_neg c1] at h
  by_cases c2 : 6 < wl b n a
  · rw [if_pos c2] at h; cases h
  have hpos : 0 < wl b n a := Nat.pos_of_ne_zero (fun e => c1 (Or.inl e))
  have hL : ∀ j, j < wl b n a → 97 ≤ t_c b n (a + j) ∧ t_c b n (a + j) ≤ 122 := fun j hj => (isL_lt (wl_L hpos j hj)).2
  refine ⟨⟨fun i hi => ?_, ?_, fun i hi => ?_⟩, hpos, by omega, ?_⟩
  · unfold p_nml
    by_cases c : i < wl b n a
    · rw [if_pos c]; have := hL i c; omega
    · rw [if_neg c]; omega
  · unfold p_nml
    rw [if_pos hpos]
    have := hL 0 hpos
    omega
  · unfold p_nml
    by_cases c : i < wl b n a
    · rw [if_pos c]; have := hL i c; omega
    · rw [if_neg c, if_neg (by omega)]; exact fun _ => rfl
  · rcases q : t_in b n a (wsK 2) 0 with _ | y
    · rfl
    · exact absurd (Or.inr (by rw [q]; simp)) c1
/-- what holds of all churches that are being read -/
def okN (S : nT) : Prop := (n_n S 0 ≤ 6 ∧ n_n S 1 ≤ 6) ∧ (∀ a, n_th S a → okm (fun i => n_nm S (6 * a + i))) ∧ (∀ a c, n_th S a → n_th S c → (∀ i, i < 6 → n_nm S (6 * a + i) = n_nm S (6 * c + i)) → a = c) ∧ (∀ j, j < 12 → n_wm S j ≤ 9 ∧ n_wk S j ≤ 9 ∧ n_sz S j ≤ 9) ∧ (∀ x y, x < 6 → 6 ≤ y → y < 12 → n_kin S (6 * x + y % 6) = n_kin S (6 * y + x % 6)) ∧ (∀ j, j < 72 → n_lk S j ≤ 9 ∧ n_kw S j ≤ 9) ∧ (1 ≤ n_rt S ∧ n_rt S ≤ 12) ∧ n_sl S ≤ 100 ∧ ∀ w, w < 3 → ∀ l, n_cd S w = some l → w_ok l (decide (w = 1)) ∧ ∀ op ∈ l, cok w op
theorem n_th_lt {S : nT} (h : okN S) {a : Nat} (ha : n_th S a) : a < 12 := by have := h.1; omega
theorem v_num_le {lo hi : Nat} (h : lo ≤ hi) : v_num b n lo hi a ≤ hi := by
  unfold v_num
  rcases q : p_num b n lo hi a with e | q1
  · exact Nat.zero_le _
  · show q1.1 ≤ hi
    unfold p_num at q
    split at q
    · cases q
    · split at q
      · cases q
      · split at q
        · cases q
        · cases q; omega
theorem v_num_in {lo hi a1 : Nat} (h : r_num b n lo hi a = .inr a1) (ha : a ≤ n) : (lo ≤ v_num b n lo hi a ∧ v_num b n lo hi a ≤ hi) ∧ a ≤ a1 := by
  unfold v_num
  unfold r_num at h
  rcases q : p_num b n lo hi a with e | q1
  · rw [q] at h; cases h
  · rw [q] at h
    have h : Sum.inr (sk b n q1.2) = (Sum.inr a1 : rP) := h
    cases h
    have hg := sk_ge (b := b) (n := n) (a := q1.2)
    have ht := (t_n_in (b := b) 4 0 a ha).1.1
    show (lo ≤ q1.1 ∧ q1.1 ≤ hi) ∧ a ≤ sk b n q1.2
    unfold p_num at q
    split at q
    · cases q
    · split at q
      · cases q
      · split at q
        · cases q
        · cases q; exact ⟨⟨by omega, by omega⟩, by omega⟩
theorem vl_le {lo hi : Nat} (h : lo ≤ hi) {r : rP} : vl b n lo hi r ≤ hi := by
  rcases r with e | a
  · exact Nat.zero_le _
  · exact v_num_le h
end B81
