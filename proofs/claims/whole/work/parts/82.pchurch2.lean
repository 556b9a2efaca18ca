/-! a church's text: what holds of what is read -/
section B82
variable {b : Nat → Nat} {n a : Nat}
theorem bd_in {r : rP} {F : Nat → nR} {q : Nat × nT} (h : bd r F = .inr q) : ∃ a, r = .inr a ∧ F a = .inr q := by
  rcases r with e | a
  · cases h
  · exact ⟨a, rfl, h⟩
theorem br_in {r : rP} {F : Nat → rP} {q : Nat} (h : br r F = .inr q) : ∃ a, r = .inr a ∧ F a = .inr q := by
  rcases r with e | a
  · cases h
  · exact ⟨a, rfl, h⟩
theorem r_w_in {w : List Nat} {a1 : Nat} (h : r_w b n w a = .inr a1) : isW b n a w = true ∧ a1 = sk b n (a + w.length) ∧ a ≤ a1 ∧ a1 ≤ n := by
  unfold r_w at h
  by_cases c : isW b n a w = true
  · rw [if_pos c] at h
    cases h
    have hg := sk_ge (b := b) (n := n) (a := a + w.length)
    exact ⟨c, rfl, by omega, sk_le (isW_l c).1⟩
  · rw [if_neg c] at h; cases h
theorem r_nm_in {a1 : Nat} (h : r_nm b n a = .inr a1) : p_nmb b n a = none ∧ a1 = sk b n (a + wl b n a) ∧ a ≤ a1 := by
  unfold r_nm at h
  rcases q : p_nmb b n a with _ | p
  · rw [q] at h
    have h : Sum.inr (sk b n (a + wl b n a)) = (Sum.inr a1 : rP) := h
    cases h
    have hg := sk_ge (b := b) (n := n) (a := a + wl b n a)
    exact ⟨rfl, rfl, by omega⟩
  · rw [q] at h; cases h
theorem r_ask_in {S : nT} {acr : Nat → Bool} {a1 : Nat} (h : r_ask b n S acr a = .inr a1) : p_nmb b n a = none ∧ n_fd S (p_nml b n a) 12 0 = some (v_ask b n S a) ∧ acr (v_ask b n S a) = true ∧ a ≤ a1 ∧ r_nm b n a = .inr a1 := by
  unfold r_ask at h
  obtain ⟨a2, h1, h2⟩ := br_in h
  obtain ⟨h3, h4, h5⟩ := r_nm_in h1
  unfold v_ask
  rcases q : n_fd S (p_nml b n a) 12 0 with _ | y
  · rw [q] at h2; cases h2
  · rw [q] at h2
    have h2 : (if acr y = true then .inr a2 else .inl (3, a) : rP) = .inr a1 := h2
    by_cases c : acr y = true
    · rw [if_pos c] at h2
      cases h2
      exact ⟨h3, rfl, c, h5, h1⟩
    · rw [if_neg c] at h2; cases h2
theorem n_add_nn {S : nT} {side x y z : Nat} {nm : Nat → Nat} : n_n (n_add S side nm x y z) = upn (n_n S) side (n_n S side + 1) := rfl
theorem n_add_th {S : nT} {side x y z : Nat} {nm : Nat → Nat} (hs : side < 2) (h6 : n_n S side < 6) {c : Nat} : n_th (n_add S side nm x y z) c ↔ n_th S c ∨ c = 6 * side + n_n S side := by
  rcases (show side = 0 ∨ side = 1 by omega) with rfl | rfl
  · have e0 : n_n (n_add S 0 nm x y z) 0 = n_n S 0 + 1 := by rw [n_add_nn, upn_s]
    have e1 : n_n (n_add S 0 nm x y z) 1 = n_n S 1 := by rw [n_add_nn, upn_n (by omega)]
    show (c < n_n (n_add S 0 nm x y z) 0 ∨ (6 ≤ c ∧ c < 6 + n_n (n_add S 0 nm x y z) 1)) ↔ (c < n_n S 0 ∨ (6 ≤ c ∧ c < 6 + n_n S 1)) ∨ _
    rw [e0, e1]; omega
  · have e0 : n_n (n_add S 1 nm x y z) 0 = n_n S 0 := by rw [n_add_nn, upn_n (by omega)]
    have e1 : n_n (n_add S 1 nm x y z) 1 = n_n S 1 + 1 := by rw [n_add_nn, upn_s]
    show (c < n_n (n_add S 1 nm x y z) 0 ∨ (6 ≤ c ∧ c < 6 + n_n (n_add S 1 nm x y z) 1)) ↔ (c < n_n S 0 ∨ (6 ≤ c ∧ c < 6 + n_n S 1)) ∨ _
    rw [e0, e1]; omega
theorem n_add_o {S : nT} {side x y z : Nat} {nm : Nat → Nat} {c i : Nat} (hc : c ≠ 6 * side + n_n S side) (hi : i < 6) : n_nm (n_add S side nm x y z) (6 * c + i) = n_nm S (6 * c + i) := if_neg (by omega)
theorem n_add_s {S : nT} {side x y z : Nat} {nm : Nat → Nat} {i : Nat} (hi : i < 6) : n_nm (n_add S side nm x y z) (6 * (6 * side + n_n S side) + i) = nm i := by
  have e : n_nm (n_add S side nm x y z) (6 * (6 * side + n_n S side) + i) = nm (6 * (6 * side + n_n S side) + i - 6 * (6 * side + n_n S side)) := if_pos (by omega)
  rw [e, show 6 * (6 * side + n_n S side) + i - 6 * (6 * side + n_n S side) = i by omega]
theorem n_new_no {S : nT} {side : Nat} (hok : okN S) (hs : side < 2) (h6 : n_n S side < 6) {c : Nat} (hc : n_th S c) : c ≠ 6 * side + n_n S side := by
  have := hok.1
  rcases (show side = 0 ∨ side = 1 by omega) with rfl | rfl <;> omega
theorem okN_add {S : nT} {side x y z : Nat} {nm : Nat → Nat} (hok : okN S) (hs : side < 2) (h6 : n_n S side < 6) (hm : okm nm) (hn : n_fd S nm 12 0 = none) (hx : x ≤ 9) (hy : y ≤ 9) (hz : z ≤ 9) : okN (n_add S side nm x y z) := by
  have hok0 := hok
  obtain ⟨h1, h2, h3, h4, h5, h7, h8, h9, h10⟩ := hok
  refine ⟨?_, fun c hc => ?_, fun c d hc hd hq => ?_, fun j hj => ?_, h5, h7, h8, h9, h10⟩
  · rcases (show side = 0 ∨ side = 1 by omega) with rfl | rfl
    · have e0 : n_n (n_add S 0 nm x y z) 0 = n_n S 0 + 1 := by rw [n_add_nn, upn_s]
      have e1 : n_n (n_add S 0 nm x y z) 1 = n_n S 1 := by rw [n_add_nn, upn_n (by omega)]
      rw [e0, e1]; omega
    · have e0 : n_n (n_add S 1 nm x y z) 0 = n_n S 0 := by rw [n_add_nn, upn_n (by omega)]
      have e1 : n_n (n_add S 1 nm x y z) 1 = n_n S 1 + 1 := by rw [n_add_nn, upn_s]
      rw [e0, e1]; omega
  · have key : ∀ f g : Nat → Nat, (∀ i, i < 6 → f i = g i) → okm g → okm f := by
      intro f g e hg
      refine ⟨fun i hi => by rw [e i hi]; exact hg.1 i hi, by rw [e 0 (by omega)]; exact hg.2.1, fun i hi q => ?_⟩
      rw [e _ hi]
      rw [e i (by omega)] at q
      exact hg.2.2 i hi q
    rcases (n_add_th hs h6).mp hc with q | q
    · exact key _ _ (fun i hi => n_add_o (n_new_no hok0 hs h6 q) hi) (h2 c q)
    · rw [q]
      exact key _ _ (fun i hi => n_add_s hi) hm
  · rcases (n_add_th hs h6).mp hc with q | q
    · have q1 := n_new_no hok0 hs h6 q
      rcases (n_add_th hs h6).mp hd with r | r
      · have r1 := n_new_no hok0 hs h6 r
        exact h3 c d q r (fun i hi => by have := hq i hi; rw [n_add_o q1 hi, n_add_o r1 hi] at this; exact this)
      · exfalso
        rw [r] at hq
        exact n_fd_n 12 0 c hn (Nat.zero_le _) (by have := n_th_lt hok0 q; omega) q (fun i hi => by have := hq i hi; rw [n_add_o q1 hi, n_add_s hi] at this; exact this)
    · rcases (n_add_th hs h6).mp hd with r | r
      · exfalso
        have r1 := n_new_no hok0 hs h6 r
        rw [q] at hq
        exact n_fd_n 12 0 d hn (Nat.zero_le _) (by have := n_th_lt hok0 r; omega) r (fun i hi => by have := hq i hi; rw [n_add_o r1 hi, n_add_s hi] at this; exact this.symm)
      · omega
  · have u : ∀ (f : Nat → Nat) (k v : Nat), f j ≤ 9 → v ≤ 9 → upn f k v j ≤ 9 := by
      intro f k v q1 q2
      by_cases e : j = k
      · rw [e, upn_s]; exact q2
      · rw [upn_n e]; exact q1
    exact ⟨u _ _ _ (h4 j hj).1 hx, u _ _ _ (h4 j hj).2.1 hy, u _ _ _ (h4 j hj).2.2 hz⟩
theorem okN_kn {S : nT} {x y : Nat} (hok : okN S) (hx : x < 12) (hy : y < 12) (h : x < 6 ↔ 6 ≤ y) : okN (n_kn S x y) := by
  obtain ⟨h1, h2, h3, h4, h5, h7, h8, h9, h10⟩ := hok
  refine ⟨h1, h2, h3, h4, fun u v hu hv1 hv2 => ?_, h7, h8, h9, h10⟩
  show upn (upn (n_kin S) (6 * x + y % 6) true) (6 * y + x % 6) true (6 * u + v % 6) = upn (upn (n_kin S) (6 * x + y % 6) true) (6 * y + x % 6) true (6 * v + u % 6)
  by_cases c : (u = x ∧ v = y) ∨ (u = y ∧ v = x)
  · have e1 : upn (upn (n_kin S) (6 * x + y % 6) true) (6 * y + x % 6) true (6 * u + v % 6) = true := by
      rcases c with ⟨rfl, rfl⟩ | ⟨rfl, rfl⟩
      · rw [upn_n (by omega), upn_s]
      · rw [upn_s]
    have e2 : upn (upn (n_kin S) (6 * x + y % 6) true) (6 * y + x % 6) true (6 * v + u % 6) = true := by
      rcases c with ⟨rfl, rfl⟩ | ⟨rfl, rfl⟩
      · rw [upn_s]
      · rw [upn_n (by omega), upn_s]
    rw [e1, e2]
  · rw [upn_n (by omega), upn_n (by omega), upn_n (by omega), upn_n (by omega)]
    exact h5 u v hu hv1 hv2
theorem okN_br {S : nT} {k j v : Nat} (hok : okN S) (hv : v ≤ 9) : okN (n_br S k j v) := by
  obtain ⟨h1, h2, h3, h4, h5, h7, h8, h9, h10⟩ := hok
  refine ⟨h1, h2, h3, h4, h5, fun i hi => ?_, h8, h9, h10⟩
  have u : ∀ (f : Nat → Nat), f i ≤ 9 → upn f j v i ≤ 9 := by
    intro f q1
    by_cases e : i = j
    · rw [e, upn_s]; exact hv
    · rw [upn_n e]; exact q1
  show (if k = 0 then upn (n_lk S) j v else n_lk S) i ≤ 9 ∧ (if k = 0 then n_kw S else upn (n_kw S) j v) i ≤ 9
  by_cases c : k = 0
  · rw [if_pos c, if_pos c]; exact ⟨u _ (h7 i hi).1, (h7 i hi).2⟩
  · rw [if_neg c, if_neg c]; exact ⟨(h7 i hi).1, u _ (h7 i hi).2⟩
theorem okN_st {S : nT} {w : Nat} {l : List Nat} (hok : okN S) (hl : w_ok l (decide (w = 1)) ∧ ∀ op ∈ l, cok w op) : okN (n_st S w l) := by
  obtain ⟨h1, h2, h3, h4, h5, h7, h8, h9, h10⟩ := hok
  refine ⟨h1, h2, h3, h4, h5, h7, h8, h9, fun v hv l' h => ?_⟩
  have h : upn (n_cd S) w (some l) v = some l' := h
  by_cases e : v = w
  · rw [e, upn_s] at h
    cases h
    rw [e]; exact hl
  · rw [upn_n e] at h
    exact h10 v hv l' h
/-- what a statement makes: all is well still -/
def stO (S : nT) (a : Nat) (q : Nat × nT) : Prop := okN q.2 ∧ a ≤ q.1 ∧ n_kc q.2 ≤ n_kc S + 1
theorem ask_th {S : nT} (hok : okN S) {acr : Nat → Bool} {a1 : Nat} (h : r_ask b n S acr a = .inr a1) : n_th S (v_ask b n S a) ∧ v_ask b n S a < 12 := by
  obtain ⟨-, h2, -⟩ := r_ask_in h
  have := n_fd_s _ _ _ h2
  exact ⟨this.2.1, n_th_lt hok this.2.1⟩
theorem two_in {S : nT} {F : Nat → Nat → Nat → Nat → nR} {q : Nat × nT} (hok : okN S) (ha : a ≤ n) (h : s_two b n S a F = .inr q) : ∃ a1 a2, r_ask b n S acr0 a = .inr a1 ∧ r_ask b n S (acr1 (v_ask b n S a)) a1 = .inr a2 ∧ F a1 a2 (v_ask b n S a) (v_ask b n S a1) = .inr q ∧ (a ≤ a1 ∧ a1 ≤ a2 ∧ a2 ≤ n) ∧ (v_ask b n S a < 6 ↔ 6 ≤ v_ask b n S a1) := by
  unfold s_two at h
  obtain ⟨a1, h1, h2⟩ := bd_in h
  obtain ⟨a2, h3, h4⟩ := bd_in h2
  have q1 := r_ask_in h1
  have q2 := r_ask_in h3
  have e1 := (r_nm_in q1.2.2.2.2).2.1
  have e2 := (r_nm_in q2.2.2.2.2).2.1
  have l1 : a1 ≤ n := by rw [e1]; exact sk_le (wl_le ha)
  have l2 : a2 ≤ n := by rw [e2]; exact sk_le (wl_le l1)
  exact ⟨a1, a2, h1, h3, h4, ⟨q1.2.2.2.1, q2.2.2.2.1, l2⟩, of_decide_eq_true q2.2.2.1⟩
theorem one_in {S : nT} {a1 : Nat} (ha : a ≤ n) (h : ot_6 b n S a = .inr a1) : (∃ x1 x2 x3 x4 x5 x6, r_nm b n a = .inr x1 ∧ n_fd S (p_nml b n a) 12 0 = none ∧ r_nn b n S a = .inr x1 ∧ ot_1 b n S a = .inr x2 ∧ ot_2 b n S a = .inr x3 ∧ ot_3 b n S a = .inr x4 ∧ ot_4 b n S a = .inr x5 ∧ ot_5 b n S a = .inr x6) ∧ a ≤ a1 := by
  obtain ⟨x6, h6, k6⟩ := br_in h
  obtain ⟨x5, h5, k5⟩ := br_in h6
  obtain ⟨x4, h4, k4⟩ := br_in h5
  obtain ⟨x3, h3, k3⟩ := br_in h4
  obtain ⟨x2, h2, k2⟩ := br_in h3
  obtain ⟨x1, h1, k1⟩ := br_in h2
  obtain ⟨x0, h0, k0⟩ := br_in h1
  have k0 : (if n_fd S (p_nml b n a) 12 0 = none then .inr x0 else .inl (3, a) : rP) = .inr x1 := k0
  by_cases c : n_fd S (p_nml b n a) 12 0 = none
  · rw [if_pos c] at k0
    cases k0
    have g0 := r_nm_in h0
    have l0 : x1 ≤ n := by rw [g0.2.1]; exact sk_le (wl_le ha)
    have g1 := r_w_in k1
    have g2 := (v_num_in k2 g1.2.2.2).2
    have g3 := r_w_in k3
    have g4 := (v_num_in k4 g3.2.2.2).2
    have g5 := r_w_in k5
    have g6 := (v_num_in k6 g5.2.2.2).2
    exact ⟨⟨x1, x2, x3, x4, x5, x6, h0, c, h1, h2, h3, h4, h5, h6⟩, by omega⟩
  · rw [if_neg c] at k0; cases k0
theorem st_ok {S : nT} {q : Nat × nT} (hok : okN S) (ha : a ≤ n) (h : s_st b n S a = .inr q) : stO S a q := by
  unfold s_st at h
  rcases e : t_in b n a (wsK 1) 0 with _ | k
  · rw [e] at h; cases h
  rw [e] at h
  have h : s_of b n S k a (sk b n (a + wl b n a)) = .inr q := h
  have hl := sk_le (b := b) (wl_le (b := b) ha)
  have hg := sk_ge (b := b) (n := n) (a := a + wl b n a)
  have hk : k < 10 := by have := (t_in_lt e).1.2; have : (wsK 1).length = 10 := by decide
                         omega
  generalize sk b n (a + wl b n a) = a0 at h hl hg
  unfold s_of at h
  by_cases c1 : k < 2
  · rw [if_pos c1] at h
    unfold s_one at h
    by_cases c6 : 6 ≤ n_n S k
    · rw [if_pos c6] at h; cases h
    rw [if_neg c6] at h
    obtain ⟨a1, h1, h2⟩ := bd_in h
    cases h2
    obtain ⟨⟨x1, x2, x3, x4, x5, x6, h3, h4, -⟩, h6⟩ := one_in hl h1
    exact ⟨okN_add hok c1 (by omega) (okm_nml (r_nm_in h3).1).1 h4 (vl_le (by omega)) (vl_le (by omega)) (vl_le (by omega)), by show a ≤ a1; omega, Nat.le_succ _⟩
  rw [if_neg c1] at h
  by_cases c2 : k = 2
  · rw [if_pos c2] at h
    obtain ⟨a1, a2, h1, h2, h3, h4, h5⟩ := two_in hok hl h
    by_cases c : n_kin S (6 * v_ask b n S a0 + v_ask b n S a1 % 6) = true
    · rw [if_pos c] at h3; cases h3
    · rw [if_neg c] at h3
      cases h3
      exact ⟨okN_kn hok (ask_th hok h1).2 (ask_th hok h2).2 h5, by show a ≤ a2; omega, Nat.le_refl _⟩
  rw [if_neg c2] at h
  by_cases c3 : k < 5
  · rw [if_pos c3] at h
    obtain ⟨a1, a2, h1, h2, h3, h4, h5⟩ := two_in hok hl h
    obtain ⟨a3, h6, h7⟩ := bd_in h3
    cases h7
    exact ⟨okN_br hok (v_num_le (by omega)), by show a ≤ a3; have := (v_num_in h6 h4.2.2).2; omega, Nat.le_succ _⟩
  rw [if_neg c3] at h
  by_cases c4 : k = 5
  · rw [if_pos c4] at h
    obtain ⟨a1, h1, h2⟩ := bd_in h
    cases h2
    have g := v_num_in h1 hl
    obtain ⟨p1, p2, p3, p4, p5, p7, p8, p9, p10⟩ := hok
    exact ⟨⟨p1, p2, p3, p4, p5, p7, g.1, p9, p10⟩, by show a ≤ a1; omega, Nat.le_succ _⟩
  rw [if_neg c4] at h
  by_cases c5 : k < 9
  · rw [if_pos c5] at h
    unfold s_form at h
    by_cases c : n_cd S (k - 6) = none
    · rw [if_pos c] at h
      rcases e2 : pq b n (k - 6) 60 (if k - 6 = 1 then 0 else 3) 0 a0 0 0 with e3 | r
      · rw [e2] at h; cases h
      · rw [e2] at h
        cases h
        have hG := pq_G (b := b) (n := n) (kd := k - 6) 60 (if k - 6 = 1 then 0 else 3) 0 a0 0 0 (by split <;> omega) (by unfold pc; split <;> omega) (by omega) hl (Nat.zero_le _)
        rw [e2] at hG
        have hw := pq_ok (b := b) (n := n) (kd := k - 6) (by omega) (by split <;> omega) e2
        refine ⟨okN_st hok ⟨?_, hw.2⟩, by show a ≤ r.1; have := hG.1; omega, Nat.le_succ _⟩
        have := hw.1
        by_cases z : k - 6 = 1
        · rw [if_pos z] at this
          rw [decide_eq_true z]; exact this
        · rw [if_neg z] at this
          rw [decide_eq_false z]; exact this
    · rw [if_neg c] at h; cases h
  · rw [if_neg c5] at h
    obtain ⟨a1, h1, h2⟩ := bd_in h
    cases h2
    have g := v_num_in h1 hl
    obtain ⟨p1, p2, p3, p4, p5, p7, p8, p9, p10⟩ := hok
    exact ⟨⟨p1, p2, p3, p4, p5, p7, p8, g.1.2, p10⟩, by show a ≤ a1; omega, Nat.le_succ _⟩
end B82
