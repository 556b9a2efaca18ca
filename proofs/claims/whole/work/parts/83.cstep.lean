/-! the class's text, a step from any place or fault -/
section B83
variable {I I0 : Nat → Nat → Int32} {L L0 : Nat → Nat → Int64} {ρ : zRh} {h : zH} {b : Nat → Nat} {n a x : Nat} {r : rP}
/-- the text's length stays; where no fault stands behind, none stood before -/
def fC (I I' : Nat → Nat → Int32) : Prop := I' 2 1 = I 2 1 ∧ (I' 2 3 = 0 → I 2 3 = 0 ∧ I' 2 4 = I 2 4)
theorem fC_0 : fC I I := ⟨rfl, fun q => ⟨q, rfl⟩⟩
theorem fC_tr {I1 I2 : Nat → Nat → Int32} (h1 : fC I I1) (h2 : fC I1 I2) : fC I I2 := ⟨by rw [h2.1, h1.1], fun q => ⟨(h1.2 (h2.2 q).1).1, by rw [(h2.2 q).2, (h1.2 (h2.2 q).1).2]⟩⟩
theorem fC_r {I' : Nat → Nat → Int32} (h : I' 2 = I 2) : fC I I' := by
  unfold fC
  rw [h]
  exact ⟨rfl, fun q => ⟨q, rfl⟩⟩
theorem fC_u {c k : Nat} {v : Int32} (h : c ≠ 2) : fC I (u2 I c k v) := fC_r (u2r (fun e => h e.symm))
def fX (I I' : Nat → Nat → Int32) : Prop := (∀ x, x ≠ 2 → x ≠ 12 → I' x = I x) ∧ fC I I'
theorem fX_0 : fX I I := ⟨fun _ _ _ => rfl, fC_0⟩
theorem fX_tr {I1 I2 : Nat → Nat → Int32} (h1 : fX I I1) (h2 : fX I1 I2) : fX I I2 := ⟨fun x a c => by rw [h2.1 x a c, h1.1 x a c], fC_tr h1.2 h2.2⟩
theorem fX_u {k : Nat} {v : Int32} (hk : k = 2) : fX I (u2 I 2 k v) := ⟨fun x a _ => u2r a, by rw [u2_ap, if_neg (by omega)], fun q => by rw [u2_ap, if_neg (by omega)] at q; exact ⟨q, by rw [u2_ap, if_neg (by omega)]⟩⟩
theorem fX_34 {v w : Int32} (hv : ¬ v = 0) : fX I (u2 (u2 I 2 3 v) 2 4 w) := ⟨fun x a _ => by rw [u2r a, u2r a], by rw [u2_ap, if_neg (by omega), u2_ap, if_neg (by omega)], fun q => absurd q (by rw [u2_ap, if_neg (by omega), u2_ap, if_pos ⟨rfl, rfl⟩]; exact hv)⟩
theorem nI_n0 {k : Nat} (hk : 1 ≤ k ∧ k ≤ 5) : ¬ nI k = 0 := fun z => by
  have := (nI_inj (b := 0) (by omega) (by omega)).mp z
  omega
theorem fX_tx {I' : Nat → Nat → Int32} (h : fX I I') (hT : txX I b n) : txX I' b n := txX_fr (h.1 1 (by omega) (by omega)) h.2.1 hT
def tX (I : Nat → Nat → Int32) (b : Nat → Nat) (n : Nat) (r : rP) : Prop := txX I b n ∧ match r with
  | .inl e => I 2 3 = nI e.1 ∧ (1 ≤ e.1 ∧ e.1 ≤ 5) ∧ I 2 4 = nI e.2 ∧ ∃ y, y ≤ n ∧ I 2 2 = nI y
  | .inr a => I 2 3 = 0 ∧ ∃ y, y ≤ n ∧ I 2 2 = nI y ∧ sk b n y = a
theorem tX_ne {e : Nat × Nat} (h : tX I b n (.inl e)) : ¬ I 2 3 = 0 := fun q => by
  have h1 := h.2.2.1
  rw [h.2.1] at q
  have := (nI_inj (b := 0) (by omega) (by omega)).mp q
  omega
theorem tX_le (h : tX I b n (.inr a)) : a ≤ n ∧ sk b n a = a := by
  obtain ⟨-, -, y, h1, -, h2⟩ := h
  rw [← h2]
  exact ⟨sk_le h1, sk_sk⟩
theorem tX_mu {y : Nat} {e : Nat × Nat} (h : tX I b n (.inl e)) (hy : y ≤ n) : tX (u2 I 2 2 (nI y)) b n (.inl e) := by
  obtain ⟨hT, h1, h2, h3, -⟩ := h
  exact ⟨txX_u (by omega) hT, by rw [i23]; exact h1, h2, by rw [u2_ap, if_neg (by omega)]; exact h3, y, hy, i22⟩
theorem tX_ms {y : Nat} (h : tX I b n (.inr a)) (hy : y ≤ n) : tX (u2 I 2 2 (nI y)) b n (.inr (sk b n y)) := ⟨txX_u (by omega) h.1, by rw [i23]; exact h.2.1, y, hy, i22, rfl⟩
theorem tX_flt {y k p : Nat} (hT : txX I b n) (hy : y ≤ n) (hk : 1 ≤ k ∧ k ≤ 5) : tX (u2 (u2 (u2 I 2 2 (nI y)) 2 3 (nI k)) 2 4 (nI p)) b n (.inl (k, p)) := ⟨txX_u (by omega) (txX_u (by omega) (txX_u (by omega) hT)), by rw [u2_ap, if_neg (by omega), u2_ap, if_pos ⟨rfl, rfl⟩], hk, by rw [u2_ap, if_pos ⟨rfl, rfl⟩], y, hy, by rw [u2_ap, if_neg (by omega), u2_ap, if_neg (by omega), i22]⟩
theorem fX_3 {y k p : Nat} (hk : 1 ≤ k ∧ k ≤ 5) : fX I (u2 (u2 (u2 I 2 2 (nI y)) 2 3 (nI k)) 2 4 (nI p)) := fX_tr (fX_u (by omega)) (fX_34 (nI_n0 hk))
theorem tX_begin (h : tX I b n r) : ∃ I' y, X9_begin 2 (hp I L ρ) = some (some (.int (nI y)), hp I' L ρ) ∧ tX I' b n r ∧ fX I I' ∧ (∀ a, r = .inr a → y = a ∧ I' 2 2 = nI a) ∧ y ≤ n := by
  rcases r with e | a
  · obtain ⟨y, h1, h2⟩ := h.2.2.2.2
    exact ⟨_, _, X9_begin_h h.1 h1 h2, tX_mu h (sk_le h1), fX_u (by omega), fun a q => (by cases q), sk_le h1⟩
  · obtain ⟨y, h1, h2, h3⟩ := h.2.2
    have h4 := tX_ms h (sk_le (b := b) h1)
    rw [h3, (tX_le h).2] at h4
    refine ⟨_, _, X9_begin_h h.1 h1 h2, ?_, fX_u (by omega), fun c q => ?_, sk_le h1⟩
    · rw [h3]; exact h4
    · cases q
      exact ⟨h3, by rw [i22, h3]⟩
def sdI (r : rP) : Int32 := match r with
  | .inl _ => 0
  | .inr _ => 1
theorem tX_sound (h : tX I b n r) : X9_sound 2 (hp I L ρ) = some (some (.int (sdI r)), hp I L ρ) := by
  rw [X9_sound_h]
  rcases r with e | a
  · rw [decide_eq_false (tX_ne h)]; rfl
  · rw [decide_eq_true h.2.1]; rfl
theorem tX_fail {k p : Nat} (hk : 1 ≤ k ∧ k ≤ 5) (h : tX I b n r) : ∃ I', X9_fail 2 (nI k) (nI p) (hp I L ρ) = some (none, hp I' L ρ) ∧ tX I' b n (br r (fun _ => .inl (k, p))) ∧ fX I I' := by
  rcases r with e | a
  · exact ⟨I, X9_fail_u (tX_ne h) _ _, h, fX_0⟩
  · obtain ⟨y, h1, h2, h3⟩ := h.2.2
    refine ⟨_, X9_fail_s h.2.1 _ _, ?_, fX_34 (nI_n0 hk)⟩
    have := tX_flt (k := k) (p := p) h.1 h1 hk
    rw [u2_self h2] at this
    exact this
theorem tX_need {c : Nat} (hc : 0 < c ∧ c < 1000) (h : tX I b n r) : ∃ I', X9_needSign 2 (nI c) (hp I L ρ) = some (none, hp I' L ρ) ∧ tX I' b n (br r (fun a => if t_c b n a = c then .inr (sk b n (a + 1)) else .inl (1, a))) ∧ fX I I' := by
  rcases r with e | a
  · exact ⟨I, X9_needSign_u (tX_ne h) _, h, fX_0⟩
  · obtain ⟨y, h1, h2, h3⟩ := h.2.2
    have e := X9_needSign_s (L := L) (ρ := ρ) h.1 h1 h2 h.2.1 hc
    rw [h3] at e
    show ∃ I', _ ∧ tX I' b n (if t_c b n a = c then .inr (sk b n (a + 1)) else .inl (1, a)) ∧ _
    by_cases q : t_c b n a = c
    · rw [if_pos q] at e ⊢
      have := t_c_in q hc.1
      exact ⟨_, e, tX_ms h (by omega), fX_u (by omega)⟩
    · rw [if_neg q] at e ⊢
      exact ⟨_, e, tX_flt (k := 1) h.1 (tX_le h).1 (by omega), fX_3 (k := 1) (by omega)⟩
theorem tX_word {k : Nat} (hk : k < 16) {w : List Nat} (hw : wsK k = [w]) (hl : zs_len.getD k 0 = w.length) (h : tX I b n r) : ∃ I', X9_needWord 2 (zB + k) (hp I L ρ) = some (none, hp I' L ρ) ∧ tX I' b n (br r (r_w b n w)) ∧ fX I I' := by
  rcases r with e | a
  · obtain ⟨y, h1, h2⟩ := h.2.2.2.2
    exact ⟨_, X9_needWord_u h.1 h1 h2 (tX_ne h) hk (zs_ne k hk), tX_mu h (sk_le h1), fX_u (by omega)⟩
  · obtain ⟨y, h1, h2, h3⟩ := h.2.2
    have e := X9_needWord_s (L := L) (ρ := ρ) h.1 h1 h2 h.2.1 hk hw hl
    rw [h3] at e
    show ∃ I', _ ∧ tX I' b n (r_w b n w a) ∧ _
    unfold r_w
    by_cases q : isW b n a w = true
    · rw [if_pos q] at e ⊢
      exact ⟨_, e, tX_ms h (isW_l q).1, fX_u (by omega)⟩
    · rw [if_neg q] at e ⊢
      exact ⟨_, e, tX_flt (k := 1) h.1 (tX_le h).1 (by omega), fX_3 (k := 1) (by omega)⟩
theorem tX_num {lo hi : Nat} (hlo : lo ≤ hi) (hhi : hi < 10000) (h : tX I b n r) : ∃ I' v, X9_takeNumber 2 (nI lo) (nI hi) (hp I L ρ) = some (some (.int (nI v)), hp I' L ρ) ∧ tX I' b n (br r (r_num b n lo hi)) ∧ fX I I' ∧ v ≤ hi ∧ ∀ a1, br r (r_num b n lo hi) = .inr a1 → v = vl b n lo hi r := by
  rcases r with e | a
  · obtain ⟨y, h1, h2⟩ := h.2.2.2.2
    obtain ⟨z, z1, z2⟩ := X9_num_u (L := L) (ρ := ρ) h.1 h1 h2 (tX_ne h) (lo := nI lo) (hi := nI hi)
    exact ⟨_, lo, z1, tX_mu h z2, fX_u (by omega), hlo, fun a1 q => by cases q⟩
  · obtain ⟨y, h1, h2, h3⟩ := h.2.2
    show ∃ I' v, _ ∧ tX I' b n (r_num b n lo hi a) ∧ _ ∧ _ ∧ ∀ a1, r_num b n lo hi a = .inr a1 → v = v_num b n lo hi a
    unfold r_num v_num
    rcases q : p_num b n lo hi a with e | ⟨v, c⟩
    · obtain ⟨z, z1, z2, z3⟩ := X9_num_no (L := L) (ρ := ρ) h.1 h1 h2 h.2.1 (lo := lo) (hi := hi) (k := e.1) (p := e.2) (by omega) hhi (by rw [h3]; exact q)
      exact ⟨_, lo, z1, tX_flt h.1 z2 (by omega), fX_3 (by omega), hlo, fun a1 q => by cases q⟩
    · obtain ⟨z1, z2, z3, z4, z5⟩ := X9_num_ok (L := L) (ρ := ρ) h.1 h1 h2 h.2.1 (lo := lo) (hi := hi) (v := v) (e := c) (by omega) hhi (by rw [h3]; exact q)
      exact ⟨_, v, z1, tX_ms h z3, fX_u (by omega), z4, fun a1 _ => rfl⟩
theorem tX_name (h : tX I b n r) : ∃ I', X9_takeName 2 12 (hp I L ρ) = some (none, hp I' L ρ) ∧ tX I' b n (br r (r_nm b n)) ∧ fX I I' ∧ ∀ a a1, r = .inr a → r_nm b n a = .inr a1 → ∀ j, j < 6 → I' 12 j = nI (p_nml b n a j) := by
  rcases r with e | a
  · obtain ⟨y, h1, h2⟩ := h.2.2.2.2
    obtain ⟨I', r1, r2, r3, r4, r5⟩ := X9_name_u (L := L) (ρ := ρ) h.1 h1 h2 (tX_ne h)
    have hf : fX I I' := ⟨fun x q1 q2 => r2 x q2 q1, r3 1 (by omega), fun q => ⟨by rw [← r3 3 (by omega)]; exact q, r3 4 (by omega)⟩⟩
    exact ⟨I', r1, ⟨fX_tx hf h.1, by rw [r3 3 (by omega)]; exact h.2.1, h.2.2.1, by rw [r3 4 (by omega)]; exact h.2.2.2.1, _, r5, r4⟩, hf, fun a a1 q => by cases q⟩
  · obtain ⟨y, h1, h2, h3⟩ := h.2.2
    show ∃ I', _ ∧ tX I' b n (r_nm b n a) ∧ _ ∧ _
    unfold r_nm
    rcases q : p_nmb b n a with _ | p
    · obtain ⟨I', r1, r2, r3, r4, r5, r6, r7⟩ := X9_name_ok (L := L) (ρ := ρ) h.1 h1 h2 h.2.1 (by rw [h3]; exact q)
      rw [h3] at r4 r5
      have hf : fX I I' := ⟨fun x q1 q2 => r2 x q2 q1, r3 1 (by omega), fun q => ⟨by rw [← r3 3 (by omega)]; exact q, r3 4 (by omega)⟩⟩
      refine ⟨I', r1, ⟨fX_tx hf h.1, by rw [r3 3 (by omega)]; exact h.2.1, _, wl_le (tX_le h).1, r4, rfl⟩, hf, fun c a1 e _ => ?_⟩
      cases e
      exact r5
    · obtain ⟨I', z, r1, r2, r3, r4, r5, r6, r7⟩ := X9_name_no (L := L) (ρ := ρ) h.1 h1 h2 h.2.1 (by rw [h3]; exact q)
      refine ⟨I', r1, ⟨txX_fr (r2 1 (by omega) (by omega)) r3 h.1, by rw [r6]; rfl, by omega, r7, z, r5, r4⟩, ⟨fun x q1 q2 => r2 x q2 q1, r3, fun q => absurd q (by rw [r6]; decide)⟩, fun c a1 e e2 => ?_⟩
      cases e
      rw [q] at e2
      cases e2
theorem tX_pass (h : tX I b n (.inr a)) (h2 : I 2 2 = nI a) : ∃ I', X9_passWord 2 (hp I L ρ) = some (none, hp I' L ρ) ∧ tX I' b n (.inr (sk b n (a + wl b n a))) ∧ fX I I' := by
  have h1 := tX_le h
  exact ⟨_, X9_passWord_s h.1 h1.1 h2 h.2.1 h1.2, tX_ms h (wl_le h1.1), fX_u (by omega)⟩
theorem tX_in {k : Nat} (hk : k < 16) (h : tX I b n (.inr a)) : ∃ I', X9_wordIn 2 (zB + k) (hp I L ρ) = some (some (.int (oI (t_in b n a (wsK k) 0))), hp I' L ρ) ∧ tX I' b n (.inr a) ∧ fX I I' ∧ I' 2 2 = nI a := by
  obtain ⟨y, h1, h2, h3⟩ := h.2.2
  have e := X9_wordIn_s (L := L) (ρ := ρ) h.1 h1 h2 h.2.1 hk
  have h4 := tX_ms h (sk_le (b := b) h1)
  rw [h3, (tX_le h).2] at h4
  rw [h3] at e
  exact ⟨_, e, h4, fX_u (by omega), i22⟩
theorem tX_ended (h : tX I b n (.inr a)) : ∃ I', X9_ended 2 (hp I L ρ) = some (some (.int (bI (decide (n ≤ a)))), hp I' L ρ) ∧ tX I' b n (.inr a) ∧ fX I I' := by
  obtain ⟨I', y, r1, r2, r3, r4, r5⟩ := tX_begin (L := L) (ρ := ρ) h
  obtain ⟨r4, r6⟩ := r4 a rfl
  subst r4
  have hn := h.1.2.1
  refine ⟨I', ?_, r2, r3⟩
  unfold X9_ended
  rw [rc_2, h_ci r1, gi_2, r2.1.1, h_if]
  by_cases c : n ≤ y
  · rw [if_neg (fun q => by have := (nI_lt' (by omega) (by omega)).mp q; omega), h_rb1, decide_eq_true c]; rfl
  · rw [if_pos ((nI_lt' (by omega) (by omega)).mpr (by omega)), h_rb0, decide_eq_false c]; rfl
end B83
