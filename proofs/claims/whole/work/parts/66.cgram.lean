/-! the class's grammar: what each step leaves -/
section B66
variable {I I0 : Nat → Nat → Int32} {L L0 : Nat → Nat → Int64} {ρ : zRh} {h : zH} {b : Nat → Nat} {n a x cd u0 : Nat} {cs0 : List Nat}
def cdk (cd : Nat) : Prop := cd = 4 ∨ cd = 22 ∨ cd = 36
/-- nothing changed but the text's place and fault, and code from u0 on -/
def gfr (cd u0 : Nat) (I I' : Nat → Nat → Int32) : Prop := (∀ x, x ≠ 2 → x ≠ cd → x ≠ cd + 1 → I' x = I x) ∧ (∀ k, k ≠ 2 → k ≠ 3 → k ≠ 4 → I' 2 k = I 2 k) ∧ (∀ k, k ≠ 1 → I' cd k = I cd k) ∧ (∀ j, j < u0 → I' (cd + 1) j = I (cd + 1) j) ∧ (I' 2 3 = 0 → I 2 3 = 0 ∧ I' 2 4 = I 2 4)
theorem gfr_refl : gfr cd u0 I I := ⟨fun _ _ _ _ => rfl, fun _ _ _ _ => rfl, fun _ _ => rfl, fun _ _ => rfl, fun q => ⟨q, rfl⟩⟩
theorem gfr_trans {I1 I2 : Nat → Nat → Int32} (h1 : gfr cd u0 I I1) (h2 : gfr cd u0 I1 I2) : gfr cd u0 I I2 := ⟨fun x a c d => by rw [h2.1 x a c d, h1.1 x a c d], fun k a c d => by rw [h2.2.1 k a c d, h1.2.1 k a c d], fun k a => by rw [h2.2.2.1 k a, h1.2.2.1 k a], fun j a => by rw [h2.2.2.2.1 j a, h1.2.2.2.1 j a], fun q => ⟨(h1.2.2.2.2 (h2.2.2.2.2 q).1).1, by rw [(h2.2.2.2.2 q).2, (h1.2.2.2.2 (h2.2.2.2.2 q).1).2]⟩⟩
theorem gfr_2 (hcd : cdk cd) {k : Nat} {v : Int32} (hk : k = 2) : gfr cd u0 I (u2 I 2 k v) := by
  unfold cdk at hcd
  exact ⟨fun x a _ _ => u2r a, fun j a c d => by rw [u2_ap, if_neg (by omega)], fun j _ => by rw [u2r (by omega)], fun j _ => by rw [u2r (by omega)], fun q => by rw [u2_ap, if_neg (by omega)] at q; exact ⟨q, by rw [u2_ap, if_neg (by omega)]⟩⟩
theorem gfr_34 (hcd : cdk cd) {v w : Int32} (hv : ¬ v = 0) : gfr cd u0 I (u2 (u2 I 2 3 v) 2 4 w) := by
  unfold cdk at hcd
  exact ⟨fun x a _ _ => by rw [u2r a, u2r a], fun j a c d => by rw [u2_ap, if_neg (by omega), u2_ap, if_neg (by omega)], fun j _ => by rw [u2r (by omega), u2r (by omega)], fun j _ => by rw [u2r (by omega), u2r (by omega)], fun q => absurd q (by rw [u2_ap, if_neg (by omega), u2_ap, if_pos ⟨rfl, rfl⟩]; exact hv)⟩
theorem gfr_tx (hcd : cdk cd) {I' : Nat → Nat → Int32} (h : gfr cd u0 I I') (hT : txX I b n) : txX I' b n := by
  unfold cdk at hcd
  exact txX_fr (h.1 1 (by omega) (by omega) (by omega)) (h.2.1 1 (by omega) (by omega) (by omega)) hT
/-- where the grammar stands -/
def gS (cd u0 : Nat) (I : Nat → Nat → Int32) (b : Nat → Nat) (n : Nat) (cs0 : List Nat) (r : pR) : Prop := match r with
  | .inl e => I 2 3 = nI e.1 ∧ (1 ≤ e.1 ∧ e.1 ≤ 5) ∧ I 2 4 = nI e.2 ∧ (∃ y, y ≤ n ∧ I 2 2 = nI y) ∧ ∃ u, u0 ≤ u ∧ u ≤ 1616 ∧ I cd 1 = nI u
  | .inr q => I 2 3 = 0 ∧ (∃ y, y ≤ n ∧ I 2 2 = nI y ∧ sk b n y = q.1) ∧ I cd 1 = nI (u0 + (cs0 ++ q.2).length) ∧ (∀ i, i < (cs0 ++ q.2).length → I (cd + 1) (u0 + i) = nI ((cs0 ++ q.2).getD i 0)) ∧ u0 + (cs0 ++ q.2).length ≤ q.1
theorem gS_ne {e : Nat × Nat} (h : gS cd u0 I b n cs0 (.inl e)) : ¬ I 2 3 = 0 := fun q => by
  have h1 := h.2.1
  rw [h.1] at q
  have := (nI_inj (b := 0) (by omega) (by omega)).mp q
  omega
theorem gS_at {q : Nat × List Nat} (h : gS cd u0 I b n cs0 (.inr q)) : q.1 ≤ n ∧ sk b n q.1 = q.1 := by
  obtain ⟨y, h1, -, h2⟩ := h.2.1
  rw [← h2]
  exact ⟨sk_le h1, sk_sk⟩
/-- another place -/
theorem gS_mv (hcd : cdk cd) {a1 y : Nat} {cs : List Nat} (h : gS cd u0 I b n cs0 (.inr (a, cs))) (hy : y ≤ n) (hs : sk b n y = a1) (hle : a ≤ a1) : gS cd u0 (u2 I 2 2 (nI y)) b n cs0 (.inr (a1, cs)) := by
  unfold cdk at hcd
  obtain ⟨h1, -, h3, h4, h5⟩ := h
  refine ⟨by rw [i23]; exact h1, ⟨y, hy, i22, hs⟩, by rw [u2r (by omega)]; exact h3, fun i hi => by rw [u2r (by omega)]; exact h4 i hi, Nat.le_trans h5 hle⟩
theorem gS_mvu (hcd : cdk cd) {y : Nat} {e : Nat × Nat} (h : gS cd u0 I b n cs0 (.inl e)) (hy : y ≤ n) : gS cd u0 (u2 I 2 2 (nI y)) b n cs0 (.inl e) := by
  unfold cdk at hcd
  obtain ⟨h1, h2, h3, -, h5⟩ := h
  exact ⟨by rw [i23]; exact h1, h2, by rw [u2_ap, if_neg (by omega)]; exact h3, ⟨y, hy, i22⟩, by rw [u2r (by omega)]; exact h5⟩
/-- a fault -/
theorem gS_flt (hcd : cdk cd) {k p y : Nat} {cs : List Nat} (h : gS cd u0 I b n cs0 (.inr (a, cs))) (hn : n ≤ 1600) (hy : y ≤ n) (hk : 1 ≤ k ∧ k ≤ 5) : gS cd u0 (u2 (u2 (u2 I 2 2 (nI y)) 2 3 (nI k)) 2 4 (nI p)) b n cs0 (.inl (k, p)) := by
  have hle := (gS_at h).1
  unfold cdk at hcd
  obtain ⟨h1, -, h3, h4, h5⟩ := h
  refine ⟨by rw [u2_ap, if_neg (by omega), u2_ap, if_pos ⟨rfl, rfl⟩], hk, by rw [u2_ap, if_pos ⟨rfl, rfl⟩], ⟨y, hy, by rw [u2_ap, if_neg (by omega), u2_ap, if_neg (by omega), i22]⟩, _, Nat.le_add_right _ _, ?_, by rw [u2r (by omega), u2r (by omega), u2r (by omega)]; exact h3⟩
  have h6 : u0 + (cs0 ++ cs).length ≤ a := h5
  have h7 : a ≤ n := hle
  omega
theorem gfr_flt (hcd : cdk cd) {y : Nat} {v w : Int32} (hv : ¬ v = 0) : gfr cd u0 I (u2 (u2 (u2 I 2 2 (nI y)) 2 3 v) 2 4 w) := gfr_trans (gfr_2 hcd (by omega)) (gfr_34 hcd hv)
/-! steps -/
theorem T_begin (hcd : cdk cd) (hT : txX I b n) {cs : List Nat} (h : gS cd u0 I b n cs0 (.inr (a, cs))) : ∃ J, X9_begin 2 (hp I L ρ) = some (some (.int (nI a)), hp J L ρ) ∧ gS cd u0 J b n cs0 (.inr (a, cs)) ∧ gfr cd u0 I J ∧ J 2 2 = nI a := by
  obtain ⟨y, y1, y2, y3⟩ := h.2.1
  have y3' : sk b n y = a := y3
  have ha := gS_at h
  refine ⟨u2 I 2 2 (nI a), ?_, gS_mv hcd h ha.1 ha.2 (Nat.le_refl _), gfr_2 hcd (by omega), i22⟩
  rw [X9_begin_h hT y1 y2, y3']
theorem T_begin_u (hcd : cdk cd) (hT : txX I b n) {e : Nat × Nat} (h : gS cd u0 I b n cs0 (.inl e)) : ∃ J y, X9_begin 2 (hp I L ρ) = some (some (.int (nI y)), hp J L ρ) ∧ gS cd u0 J b n cs0 (.inl e) ∧ gfr cd u0 I J ∧ y ≤ n ∧ J 2 2 = nI y := by
  obtain ⟨y, y1, y2⟩ := h.2.2.2.1
  exact ⟨u2 I 2 2 (nI (sk b n y)), sk b n y, X9_begin_h hT y1 y2, gS_mvu hcd h (sk_le y1), gfr_2 hcd (by omega), sk_le y1, i22⟩
theorem T_sign (hcd : cdk cd) (hT : txX I b n) {c : Nat} (hc : 0 < c ∧ c < 1000) {cs : List Nat} (h : gS cd u0 I b n cs0 (.inr (a, cs))) : ∃ J, X9_takeSign 2 (nI c) (hp I L ρ) = some (some (.int (bI (decide (t_c b n a = c)))), hp J L ρ) ∧ gS cd u0 J b n cs0 (.inr (if t_c b n a = c then sk b n (a + 1) else a, cs)) ∧ gfr cd u0 I J := by
  obtain ⟨y, y1, y2, y3⟩ := h.2.1
  have y3' : sk b n y = a := y3
  have ha := gS_at h
  have ha1 : a ≤ n := ha.1
  have ha2 : sk b n a = a := ha.2
  refine ⟨u2 I 2 2 (nI (if t_c b n a = c then a + 1 else a)), ?_, ?_, gfr_2 hcd (by omega)⟩
  · rw [X9_takeSign_s hT y1 y2 h.1 hc, y3']
  · by_cases q : t_c b n a = c
    · rw [if_pos q, if_pos q]
      have hl := t_c_in q hc.1
      have := sk_ge (b := b) (n := n) (a := a + 1)
      exact gS_mv hcd h hl rfl (by omega)
    · rw [if_neg q, if_neg q]
      exact gS_mv hcd h ha1 ha2 (Nat.le_refl _)
theorem T_sign_u {e : Nat × Nat} {c : Int32} (h : gS cd u0 I b n cs0 (.inl e)) : X9_takeSign 2 c (hp I L ρ) = some (some (.int 0), hp I L ρ) := X9_takeSign_u (gS_ne h) c
theorem T_need (hcd : cdk cd) (hT : txX I b n) {c : Nat} (hc : 0 < c ∧ c < 1000) {cs : List Nat} (h : gS cd u0 I b n cs0 (.inr (a, cs))) : ∃ J, X9_needSign 2 (nI c) (hp I L ρ) = some (none, hp J L ρ) ∧ gS cd u0 J b n cs0 (p_sg b n c a cs) ∧ gfr cd u0 I J := by
  obtain ⟨y, y1, y2, y3⟩ := h.2.1
  have y3' : sk b n y = a := y3
  have ha := gS_at h
  have ha1 : a ≤ n := ha.1
  rw [X9_needSign_s hT y1 y2 h.1 hc, y3']
  unfold p_sg
  by_cases q : t_c b n a = c
  · rw [if_pos q, if_pos q]
    have hl := t_c_in q hc.1
    have := sk_ge (b := b) (n := n) (a := a + 1)
    exact ⟨_, rfl, gS_mv hcd h hl rfl (by omega), gfr_2 hcd (by omega)⟩
  · rw [if_neg q, if_neg q]
    exact ⟨_, rfl, gS_flt (k := 1) hcd h hT.2.1 ha1 (by omega), gfr_flt hcd (by decide)⟩
theorem T_need_u {e : Nat × Nat} {c : Int32} (h : gS cd u0 I b n cs0 (.inl e)) : X9_needSign 2 c (hp I L ρ) = some (none, hp I L ρ) := X9_needSign_u (gS_ne h) c
theorem T_word (hcd : cdk cd) (hT : txX I b n) {k : Nat} (hk : k < 16) {w : List Nat} (hw : wsK k = [w]) (hl : zs_len.getD k 0 = w.length) {cs : List Nat} (h : gS cd u0 I b n cs0 (.inr (a, cs))) : ∃ J, X9_takeWord 2 (zB + k) (hp I L ρ) = some (some (.int (bI (isW b n a w))), hp J L ρ) ∧ gS cd u0 J b n cs0 (.inr (if isW b n a w = true then sk b n (a + w.length) else a, cs)) ∧ gfr cd u0 I J := by
  obtain ⟨y, y1, y2, y3⟩ := h.2.1
  have y3' : sk b n y = a := y3
  have ha := gS_at h
  have ha1 : a ≤ n := ha.1
  have ha2 : sk b n a = a := ha.2
  refine ⟨u2 I 2 2 (nI (if isW b n a w = true then a + w.length else a)), ?_, ?_, gfr_2 hcd (by omega)⟩
  · rw [X9_takeWord_s hT y1 y2 h.1 hk hw hl, y3']
  · by_cases q : isW b n a w = true
    · rw [if_pos q, if_pos q]
      have hl := isW_l q
      have := sk_ge (b := b) (n := n) (a := a + w.length)
      exact gS_mv hcd h hl.1 rfl (by omega)
    · rw [if_neg q, if_neg q]
      exact gS_mv hcd h ha1 ha2 (Nat.le_refl _)
theorem T_word_u (hcd : cdk cd) (hT : txX I b n) {k : Nat} (hk : k < 16) (hl : zs_len.getD k 0 ≠ 0) {e : Nat × Nat} (h : gS cd u0 I b n cs0 (.inl e)) : ∃ J, X9_takeWord 2 (zB + k) (hp I L ρ) = some (some (.int 0), hp J L ρ) ∧ gS cd u0 J b n cs0 (.inl e) ∧ gfr cd u0 I J := by
  obtain ⟨y, y1, y2⟩ := h.2.2.2.1
  exact ⟨u2 I 2 2 (nI (sk b n y)), X9_takeWord_u hT y1 y2 (gS_ne h) hk hl, gS_mvu hcd h (sk_le y1), gfr_2 hcd (by omega)⟩
theorem T_sound {r : pR} (h : gS cd u0 I b n cs0 r) : X9_sound 2 (hp I L ρ) = some (some (.int (bI (match r with | .inl _ => false | .inr _ => true))), hp I L ρ) := by
  rw [X9_sound_h]
  rcases r with e | q
  · rw [decide_eq_false (gS_ne h)]
  · rw [decide_eq_true h.1]
theorem put_at (hcd : cdk cd) {u : Nat} (hu : u ≤ 1616) (h1 : I cd 1 = nI u) (v : Int32) : X3_put cd v (hp I L ρ) = some (none, hp (if u < 1616 then u2 (u2 I (cd + 1) u v) cd 1 (nI (u + 1)) else I) L ρ) := by
  unfold X3_put
  rcases hcd with rfl | rfl | rfl
  · rw [gi_4, h1, gr_4_0, len_5, h_if]
    by_cases c : u < 1616
    · rw [if_neg (nI_ge (by omega) (by omega)), if_pos c, gr_4_0, gi_4, h1, sa_5 c, gi_4, u2r (show 4 ≠ 5 by omega), h1, nI_1, pi_4]; rfl
    · rw [if_pos (nI_le (by omega) (by omega)), if_neg c]; rfl
  · rw [gi_22, h1, gr_22_0, len_23, h_if]
    by_cases c : u < 1616
    · rw [if_neg (nI_ge (by omega) (by omega)), if_pos c, gr_22_0, gi_22, h1, sa_23 c, gi_22, u2r (show 22 ≠ 23 by omega), h1, nI_1, pi_22]; rfl
    · rw [if_pos (nI_le (by omega) (by omega)), if_neg c]; rfl
  · rw [gi_36, h1, gr_36_0, len_37, h_if]
    by_cases c : u < 1616
    · rw [if_neg (nI_ge (by omega) (by omega)), if_pos c, gr_36_0, gi_36, h1, sa_37 c, gi_36, u2r (show 36 ≠ 37 by omega), h1, nI_1, pi_36]; rfl
    · rw [if_pos (nI_le (by omega) (by omega)), if_neg c]; rfl
theorem rc_cd (hcd : cdk cd) {f : zM} : z_rc 3 cd f (hp I L ρ) = f (hp I L ρ) := by
  rcases hcd with rfl | rfl | rfl
  · exact rc_4
  · exact rc_22
  · exact rc_36
theorem gfr_put (hcd : cdk cd) {u : Nat} {v : Int32} (hu : u0 ≤ u) : gfr cd u0 I (u2 (u2 I (cd + 1) u v) cd 1 (nI (u + 1))) := by
  unfold cdk at hcd
  exact ⟨fun x a c d => by rw [u2r c, u2r d], fun j _ _ _ => by rw [u2r (by omega), u2r (by omega)], fun j q => by rw [u2_ap, if_neg (by omega), u2r (by omega)], fun j q => by rw [u2r (by omega), u2_ap, if_neg (by omega)], fun q => by rw [u2r (by omega), u2r (by omega)] at q; exact ⟨q, by rw [u2r (by omega), u2r (by omega)]⟩⟩
theorem T_put (hcd : cdk cd) (hn : n ≤ 1600) {op : Nat} {cs : List Nat} (h : gS cd u0 I b n cs0 (.inr (a, cs))) (hb : u0 + (cs0 ++ cs).length + 1 ≤ a) : ∃ J, X3_put cd (nI op) (hp I L ρ) = some (none, hp J L ρ) ∧ gS cd u0 J b n cs0 (.inr (a, cs ++ [op])) ∧ gfr cd u0 I J := by
  have ha : a ≤ n := (gS_at h).1
  obtain ⟨h1, h2, h3, h4, h5⟩ := h
  have h3' : I cd 1 = nI (u0 + (cs0 ++ cs).length) := h3
  have hl : u0 + (cs0 ++ cs).length < 1616 := by omega
  have hlen : (cs0 ++ (cs ++ [op])).length = (cs0 ++ cs).length + 1 := by
    rw [← List.append_assoc, List.length_append]; rfl
  have h4' : ∀ i, i < (cs0 ++ cs).length → I (cd + 1) (u0 + i) = nI ((cs0 ++ cs).getD i 0) := h4
  refine ⟨u2 (u2 I (cd + 1) (u0 + (cs0 ++ cs).length) (nI op)) cd 1 (nI (u0 + (cs0 ++ cs).length + 1)), by rw [put_at hcd (by omega) h3', if_pos hl], ?_, gfr_put hcd (by omega)⟩
  unfold cdk at hcd
  refine ⟨?_, ?_, ?_, fun i hi => ?_, ?_⟩
  · rw [u2r (by omega), u2r (by omega)]; exact h1
  · rw [u2r (by omega), u2r (by omega)]; exact h2
  · show _ = nI (u0 + (cs0 ++ (cs ++ [op])).length)
    rw [u2_ap, if_pos ⟨rfl, rfl⟩, hlen]; rfl
  · have hi' : i < (cs0 ++ (cs ++ [op])).length := hi
    rw [hlen] at hi'
    rw [u2r (by omega), u2_ap]
    show _ = nI ((cs0 ++ (cs ++ [op])).getD i 0)
    rw [← List.append_assoc, List.getD_eq_getElem?_getD]
    by_cases c : i = (cs0 ++ cs).length
    · rw [if_pos ⟨rfl, by omega⟩, c, List.getElem?_append_right (Nat.le_refl _), Nat.sub_self]; rfl
    · rw [if_neg (by omega), List.getElem?_append_left (by omega), ← List.getD_eq_getElem?_getD]
      exact h4' i (by omega)
  · show u0 + (cs0 ++ (cs ++ [op])).length ≤ a
    omega
theorem T_put_u (hcd : cdk cd) {v : Int32} {e : Nat × Nat} (h : gS cd u0 I b n cs0 (.inl e)) : ∃ J, X3_put cd v (hp I L ρ) = some (none, hp J L ρ) ∧ gS cd u0 J b n cs0 (.inl e) ∧ gfr cd u0 I J := by
  obtain ⟨h1, h2, h3, h4, u, h5, h6, h7⟩ := h
  rw [put_at hcd h6 h7]
  by_cases c : u < 1616
  · rw [if_pos c]
    refine ⟨_, rfl, ?_, gfr_put hcd h5⟩
    unfold cdk at hcd
    exact ⟨by rw [u2r (by omega), u2r (by omega)]; exact h1, h2, by rw [u2r (by omega), u2r (by omega)]; exact h3, by rw [u2r (by omega), u2r (by omega)]; exact h4, u + 1, by omega, c, by rw [u2_ap, if_pos ⟨rfl, rfl⟩]⟩
  · rw [if_neg c]
    exact ⟨I, rfl, ⟨h1, h2, h3, h4, u, h5, h6, h7⟩, gfr_refl⟩
/-- the grammar's own -/
def gE (I : Nat → Nat → Int32) (ρ : zRh) (cd kd : Nat) : Prop := ρ.2.2.2.1 = cd ∧ ρ.2.2.2.2 = zB + (if kd = 3 then 14 else 0) ∧ I 10 3 = nI (pmk kd) ∧ I 10 4 = bI (decide (kd = 3)) ∧ kd ≤ 3
theorem gE_fr {kd : Nat} (hcd : cdk cd) {I' : Nat → Nat → Int32} (h : gfr cd u0 I I') (hE : gE I ρ cd kd) : gE I' ρ cd kd := by
  unfold cdk at hcd
  unfold gE
  rw [h.1 10 (by omega) (by omega) (by omega)]
  exact hE
theorem T_may {o hr : Nat} (hcd : cdk cd) (hn : n ≤ 1600) (ho : o ≤ 6) {cs : List Nat} (h : gS cd u0 I b n cs0 (.inr (a, cs))) : ∃ J, X4_mayOpen 10 (nI o) (nI hr) (hp I L ρ) = some (some (.int (bI (decide (o < 6)))), hp J L ρ) ∧ gS cd u0 J b n cs0 (if 6 ≤ o then .inl (4, hr) else .inr (a, cs)) ∧ gfr cd u0 I J := by
  unfold X4_mayOpen X4_mayOpen_J15
  rw [h_if, show (6 : Int32) = nI 6 from rfl]
  simp only [nI_lt' (show o < 2147483648 by omega) (show 6 < 2147483648 by omega)]
  obtain ⟨y, y1, y2, y3⟩ := h.2.1
  by_cases c : o < 6
  · rw [if_pos c, gr_10_0, rc_2, h_ci (T_sound h), h_rb (bI01 _), decide_eq_true c, if_neg (by omega)]
    exact ⟨I, rfl, h, gfr_refl⟩
  · have hf := gS_flt hcd h hn y1 (k := 4) (p := hr) (by omega)
    rw [u2_self y2] at hf
    rw [if_neg c, gr_10_0, rc_2, h_cv (X9_fail_s h.1 _ _), gr_10_0, rc_2, show (4 : Int32) = nI 4 from rfl, h_ci (T_sound hf), h_rb (bI01 _), decide_eq_false c, if_pos (by omega)]
    exact ⟨_, rfl, hf, gfr_34 hcd (by decide)⟩
theorem T_may_u {v w : Int32} {e : Nat × Nat} (h : gS cd u0 I b n cs0 (.inl e)) : X4_mayOpen 10 v w (hp I L ρ) = some (some (.int 0), hp I L ρ) := by
  unfold X4_mayOpen X4_mayOpen_J15
  rw [h_if]
  split
  · rw [gr_10_0, rc_2, h_ci (T_sound h), h_rb (bI01 _)]; rfl
  · rw [gr_10_0, rc_2, h_cv (X9_fail_u (gS_ne h) _ _), gr_10_0, rc_2, h_ci (T_sound h), h_rb (bI01 _)]; rfl
end B66
