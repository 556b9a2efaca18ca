/-! image: the class writes it -/
section B5r
variable {I I0 : Nat → Nat → Int32} {L L0 : Nat → Nat → Int64} {ρ : zRh} {h : zH} {A : aT} {N : Nat} {C : cT} {s : sT}
theorem im_o_by (hk : okC C) (hS : okS C s) : ∀ m p acc, p + m ≤ k_L C + k_R C → byL acc → byL (im_o C s m p acc)
  | 0, _, _, _, h => h
  | m + 1, p, acc, hp, h => by
    have h1 := (k_cd_th (show p < k_L C + k_R C by omega) hk).1
    have h2 := k_th_lt hk (hS.2.1 _ h1).1
    exact im_o_by hk hS m (p + 1) _ (by omega) (byL_add h (by have := k_num_lt hk h2; omega))
theorem im_k_by (hS : okS C s) {a : Nat} (ha : a < 12) : ∀ m k acc, k + m ≤ 6 → byL acc → byL (im_k s a m k acc)
  | 0, _, _, _, h => h
  | m + 1, k, acc, hp, h => by
    have h1 := hS.2.2.2.2.2 (6 * a + k) (by omega)
    exact im_k_by hS ha m (k + 1) _ (by omega) (byL_add (byL_add h (by omega)) (by omega))
theorem k_ot_le (hk : okC C) (a : Nat) : k_ot C a ≤ 6 := by
  have := hk.1
  unfold k_ot
  split <;> omega
theorem im_w_lt (hk : okC C) (hS : okS C s) (a : Nat) : im_w C s a < 256 := by
  unfold im_w
  rcases q : s_wed s a with _ | b
  · show 255 < 256; omega
  · have h2 := k_th_lt hk (hS.2.2.2.1 a b q).2.1
    have := k_num_lt hk h2
    show k_num C b < 256
    omega
theorem im_1_by (hk : okC C) (hS : okS C s) {a : Nat} (ha : a < 12) {acc : List Nat} (h : byL acc) : byL (im_1 C s a acc) := by
  have h3 := (hS.2.2.2.2.1 a ha).1
  exact im_k_by hS ha _ _ _ (by have := k_ot_le hk a; omega) (byL_add (byL_add h (im_w_lt hk hS a)) (by omega))
theorem im_p_by (hk : okC C) (hS : okS C s) : ∀ m p acc, p + m ≤ k_L C + k_R C → byL acc → byL (im_p C s m p acc)
  | 0, _, _, _, h => h
  | m + 1, p, acc, hp, h => by
    have h1 := (k_cd_th (show p < k_L C + k_R C by omega) hk).1
    exact im_p_by hk hS m (p + 1) _ (by omega) (im_1_by hk hS (k_th_lt hk h1) h)
theorem im_b_by (hk : okC C) (hS : okS C s) : byL (im_b C s) := by
  refine im_p_by hk hS _ _ _ (by omega) (im_o_by hk hS _ _ _ (by omega) ?_)
  have h1 := hS.1
  have h2 := hk.2.1
  intro b hb
  unfold im_h at hb
  simp only [List.mem_cons, List.not_mem_nil, or_false] at hb
  omega
theorem YC_num1 (hw : cwX I ρ C) (hk : okC C) {a : Nat} (ha : a < 12) : X1_number ρ.1 (nI a) (hp I L ρ) = some (some (.int (nI (k_num C a))), hp I L ρ) := YC_number hw hk (o := some a) (fun x hx => by cases hx; exact ha)
theorem X8_wo_k (hS : okS C s) {a K : Nat} (ha : a < 12) (hK : K ≤ 6) : ∀ (m k fuel : Nat) (I : Nat → Nat → Int32) (acc : List Nat), k + m = K → m < fuel → acc.length + 2 * m ≤ 184 → stX 41 I s → wrL 213 I acc → ∃ I', z_fix (fun r x => X8_writeOne_B64 41 (nI a) 213 (nI K) r x.1 x.2) fuel (nI acc.length, nI k) (hp I L ρ) = some (some (.int (nI (im_k s a m k acc).length)), hp I' L ρ) ∧ (∀ x, x ≠ 213 → I' x = I x) ∧ wrL 213 I' (im_k s a m k acc) := by
  intro m
  induction m with
  | zero =>
    intro k fuel I acc h1 h2 h3 hs hw
    obtain ⟨f, rfl⟩ : ∃ f, fuel = f + 1 := ⟨fuel - 1, by omega⟩
    refine ⟨I, ?_, fun _ _ => rfl, hw⟩
    rw [h_fix]
    show X8_writeOne_B64 41 (nI a) 213 (nI K) _ (nI acc.length) (nI k) (hp I L ρ) = some (some (.int (nI acc.length)), hp I L ρ)
    unfold X8_writeOne_B64
    rw [h_if, if_pos (nI_le (by omega) (by omega))]; rfl
  | succ m ih =>
    intro k fuel I acc h1 h2 h3 hs hw
    obtain ⟨f, rfl⟩ : ∃ f, fuel = f + 1 := ⟨fuel - 1, by omega⟩
    have hw2 := wrL_add (b := s_kno s (6 * a + k)) (wrL_add (b := s_lik s (6 * a + k)) hw)
    have hl : (acc ++ [s_lik s (6 * a + k)]).length = acc.length + 1 := by rw [List.length_append]; rfl
    have hl2 : (acc ++ [s_lik s (6 * a + k)] ++ [s_kno s (6 * a + k)]).length = acc.length + 2 := by rw [List.length_append, hl]; rfl
    rw [hl] at hw2
    have hs2 : stX 41 (u2 (u2 I 213 acc.length (nI (s_lik s (6 * a + k)))) 213 (acc.length + 1) (nI (s_kno s (6 * a + k)))) s := stX_fr (fun x q1 q2 => by rw [u2r (by omega), u2r (by omega)]) hs
    obtain ⟨I', r1, r2, r3⟩ := ih (k + 1) f _ _ (by omega) (by omega) (by omega) hs2 hw2
    refine ⟨I', ?_, fun x hx => by rw [r2 x hx, u2r hx, u2r hx], r3⟩
    rw [h_fix]
    show X8_writeOne_B64 41 (nI a) 213 (nI K) _ (nI acc.length) (nI k) (hp I L ρ) = some (some (.int (nI (im_k s a m (k + 1) _).length)), hp I' L ρ)
    rw [← r1, hl2]
    unfold X8_writeOne_B64
    rw [h_if, if_neg (nI_ge (by omega) (by omega)), gr_41_6, show (6 : Int32) = nI 6 from rfl, pk_mul, nI_add, Nat.mul_comm a 6, la_46 (by omega), hs.2.2.2.2.2.1 _ (by omega), sa_213 (by omega), gr_41_7, la_47 (by omega), u2r (show 47 ≠ 213 by omega), hs.2.2.2.2.2.2 _ (by omega), nI_1, sa_213 (by omega), nI_1, show (2 : Int32) = nI 2 from rfl, nI_add]
theorem X8_wo_h (hk : okC C) (hS : okS C s) {a : Nat} (ha : k_th C a) {acc : List Nat} (hl : (im_1 C s a acc).length ≤ 184) (hC : cwX I ρ C) (hs : stX 41 I s) (hw : wrL 213 I acc) : ∃ I', X8_writeOne 41 ρ.1 (nI a) 213 (nI acc.length) (hp I L ρ) = some (some (.int (nI (im_1 C s a acc).length)), hp I' L ρ) ∧ (∀ x, x ≠ 213 → I' x = I x) ∧ wrL 213 I' (im_1 C s a acc) := by
  have ha12 := k_th_lt hk ha
  have h12 := hk.1
  have hw2 := wrL_add (b := s_wai s a) (wrL_add (b := im_w C s a) hw)
  rw [im_1_len] at hl
  have hll : (acc ++ [im_w C s a]).length = acc.length + 1 := by rw [List.length_append]; rfl
  have hl2 : (acc ++ [im_w C s a] ++ [s_wai s a]).length = acc.length + 2 := by rw [List.length_append, hll]; rfl
  rw [hll] at hw2
  have hfr : ∀ x, x ≠ 213 → u2 (u2 I 213 acc.length (nI (im_w C s a))) 213 (acc.length + 1) (nI (s_wai s a)) x = I x := fun x hx => by rw [u2r hx, u2r hx]
  obtain ⟨I', r1, r2, r3⟩ := X8_wo_k (L := L) (ρ := ρ) hS ha12 (k_ot_le hk a) (k_ot C a) 0 zFU _ _ (by omega) (by have := k_ot_le hk a; unfold zFU; omega) (by have := k_ot_le hk a; omega) (stX_fr (fun x q1 q2 => hfr x (by omega)) hs) hw2
  refine ⟨I', ?_, fun x hx => by rw [r2 x hx, hfr x hx], r3⟩
  rw [hl2] at r1
  have hot : ∀ {I1 : Nat → Nat → Int32} {F : Int32 → zM}, cwX I1 ρ C → z_la 20 (ρ.1 + 1) ((1 : Int32) - (if 6 ≤ a then 1 else 0)) F (hp I1 L ρ) = F (nI (k_ot C a)) (hp I1 L ρ) := by
    intro I1 F hC1
    unfold k_ot
    by_cases c : 6 ≤ a
    · rw [if_pos c, if_neg (by omega), show (1 : Int32) - 1 = nI 0 by decide, YC_side hC1 hk (by omega)]; rfl
    · rw [if_neg c, if_pos (by omega), show (1 : Int32) - 0 = nI 1 by decide, YC_side hC1 hk (by omega)]; rfl
  have e29 : X8_writeOne_J29 41 ρ.1 (nI a) 213 (nI acc.length) (nI (im_w C s a)) (nI acc.length) 213 (hp I L ρ) = some (some (.int (nI (im_1 C s a acc).length)), hp I' L ρ) := by
    have hC2 : cwX (u2 (u2 I 213 acc.length (nI (im_w C s a))) 213 (acc.length + 1) (nI (s_wai s a))) ρ C := cwX_fr (fun x q1 q2 => hfr x (by omega)) hC
    unfold X8_writeOne_J29
    rw [sa_213 (by omega), gr_41_4, la_44 ha12, u2r (show 44 ≠ 213 by omega), hs.2.2.2.1 a ha12, nI_1, sa_213 (by omega), gc_0 hC.1, h_ci (X11_sideOf_h (by omega)), hot hC2, show (2 : Int32) = nI 2 from rfl, nI_add]
    exact r1
  unfold X8_writeOne
  rw [gr_41_3, la_43 ha12, hs.2.2.1 a ha12, h_if]
  have hwd : oI (s_wed s a) = oI (s_wed s a) := rfl
  unfold im_w at e29
  rcases q : s_wed s a with _ | b
  · rw [q] at e29
    rw [oI_none, if_pos rfl]
    exact e29
  · have hb := k_th_lt hk (hS.2.2.2.1 a b q).2.1
    rw [q] at e29
    rw [oI_some, if_neg (nI_nm1 (by omega)), gr_41_3, la_43 ha12, hs.2.2.1 a ha12, q, oI_some, rcc hC.1, h_ci (YC_num1 hC hk hb)]
    exact e29
theorem X8_im_o (hk : okC C) (hS : okS C s) {v3 : Int32} : ∀ (m p fuel : Nat) (I : Nat → Nat → Int32) (acc : List Nat), p + m = k_L C + k_R C → m < fuel → acc.length + m ≤ 100 → cwX I ρ C → stX 41 I s → wrL 213 I acc → ∃ I', z_fix (fun r x => X8_write_B48 41 ρ.1 213 v3 r x.1 x.2) fuel (nI acc.length, nI p) (hp I L ρ) = X8_write_J121 41 ρ.1 213 v3 (nI (im_o C s m p acc).length) (hp I' L ρ) ∧ (∀ x, x ≠ 213 → I' x = I x) ∧ wrL 213 I' (im_o C s m p acc) := by
  have h12 := hk.1
  intro m
  induction m with
  | zero =>
    intro p fuel I acc h1 h2 h3 hC hs hw
    obtain ⟨f, rfl⟩ : ∃ f, fuel = f + 1 := ⟨fuel - 1, by omega⟩
    refine ⟨I, ?_, fun _ _ => rfl, hw⟩
    rw [h_fix]
    show X8_write_B48 41 ρ.1 213 v3 _ (nI acc.length) (nI p) (hp I L ρ) = X8_write_J121 41 ρ.1 213 v3 (nI acc.length) (hp I L ρ)
    unfold X8_write_B48
    rw [rcc hC.1, h_ci (YC_people hC hk), h_if, if_pos (nI_le (by omega) (by omega))]
  | succ m ih =>
    intro p fuel I acc h1 h2 h3 hC hs hw
    obtain ⟨f, rfl⟩ : ∃ f, fuel = f + 1 := ⟨fuel - 1, by omega⟩
    have hth := (k_cd_th (show p < k_L C + k_R C by omega) hk).1
    have hcd := k_th_lt hk hth
    have ho := k_th_lt hk (hS.2.1 _ hth).1
    have hw2 := wrL_add (b := k_num C (s_ord s (k_cd C p))) hw
    have hll : (acc ++ [k_num C (s_ord s (k_cd C p))]).length = acc.length + 1 := by rw [List.length_append]; rfl
    obtain ⟨I', r1, r2, r3⟩ := ih (p + 1) f _ _ (by omega) (by omega) (by omega) (cwX_fr (fun x q1 q2 => u2r (by omega)) hC) (stX_fr (fun x q1 q2 => u2r (by omega)) hs) hw2
    refine ⟨I', ?_, fun x hx => by rw [r2 x hx, u2r hx], r3⟩
    rw [h_fix]
    show X8_write_B48 41 ρ.1 213 v3 _ (nI acc.length) (nI p) (hp I L ρ) = X8_write_J121 41 ρ.1 213 v3 (nI (im_o C s m (p + 1) _).length) (hp I' L ρ)
    rw [← r1, hll]
    have e86 : ∀ (rec : Int32 × Int32 → zM) (x : Nat), (if 6 ≤ k_cd C p then 1 else 0) * 6 + x = k_cd C p → X8_write_J86 rec 41 ρ.1 213 v3 (nI acc.length) (nI p) (nI (k_cd C p)) (nI x) (hp I L ρ) = rec (nI (acc.length + 1), nI (p + 1)) (hp (u2 I 213 acc.length (nI (k_num C (s_ord s (k_cd C p))))) L ρ) := by
      intro rec x hx
      unfold X8_write_J86
      rw [gr_41_2, h_ci (X11_sideOf_h (by omega)), show (if 6 ≤ k_cd C p then (1 : Int32) else 0) = nI (if 6 ≤ k_cd C p then 1 else 0) by split <;> rfl, show (6 : Int32) = nI 6 from rfl, pk_mul, nI_add, hx, la_42 hcd, hs.2.1 _ hcd, rcc hC.1, h_ci (YC_num1 hC hk ho), sa_213 (by omega), nI_1, nI_1]
    unfold X8_write_B48
    rw [rcc hC.1, h_ci (YC_people hC hk), h_if, if_neg (nI_ge (by omega) (by omega)), rcc hC.1, h_ci (YC_slot hC hk _), k_sl_cd hk (by omega), oI_some, h_if, show (6 : Int32) = nI 6 from rfl]
    simp only [nI_le' (show 6 < 2147483648 by omega) (show k_cd C p < 2147483648 by omega)]
    by_cases c : p < k_L C
    · have e := ((k_cd_6 hk).1 c).1
      rw [if_neg (by omega)]
      exact e86 _ p (by rw [if_neg (by omega)]; omega)
    · have e := ((k_cd_6 (p := p) hk).2 (by omega)).1
      rw [if_pos (by omega), gc_0 hC.1, show (0 : Int32) = nI 0 from rfl, YC_side hC hk (by omega), show k_n C 0 = k_L C from rfl, pk_sub (by omega)]
      exact e86 _ (p - k_L C) (by rw [if_pos (by omega)]; omega)
theorem im_p_mono {C : cT} {s : sT} : ∀ m p acc, acc.length ≤ (im_p C s m p acc).length
  | 0, _, _ => Nat.le_refl _
  | m + 1, p, acc => by
    have h1 := im_p_mono (C := C) (s := s) m (p + 1) (im_1 C s (k_cd C p) acc)
    rw [im_1_len] at h1
    show _ ≤ (im_p C s m (p + 1) (im_1 C s (k_cd C p) acc)).length
    omega
theorem X8_im_p (hk : okC C) (hS : okS C s) {v3 : Int32} : ∀ (m p fuel : Nat) (I : Nat → Nat → Int32) (acc : List Nat), p + m = k_L C + k_R C → m < fuel → (im_p C s m p acc).length + 1 ≤ 184 → byL acc → cwX I ρ C → stX 41 I s → wrL 213 I acc → ∃ I', z_fix (fun r x => X8_write_B124 41 ρ.1 213 v3 r x.1 x.2) fuel (nI acc.length, nI p) (hp I L ρ) = some (some (.int v3), hp I' L ρ) ∧ (∀ x, x ≠ 213 → I' x = I x) ∧ wrL 213 I' (im_p C s m p acc ++ [ck (gD (im_p C s m p acc)) (im_p C s m p acc).length]) := by
  have h12 := hk.1
  intro m
  induction m with
  | zero =>
    intro p fuel I acc h1 h2 h3 hb hC hs hw
    have h3' : acc.length + 1 ≤ 184 := h3
    obtain ⟨f, rfl⟩ : ∃ f, fuel = f + 1 := ⟨fuel - 1, by omega⟩
    refine ⟨u2 I 213 acc.length (nI (ck (gD acc) acc.length)), ?_, fun x hx => u2r hx, wrL_add hw⟩
    rw [h_fix]
    show X8_write_B124 41 ρ.1 213 v3 _ (nI acc.length) (nI p) (hp I L ρ) = _
    unfold X8_write_B124 X8_write_J155
    rw [rcc hC.1, h_ci (YC_people hC hk), h_if, if_pos (nI_le (by omega) (by omega)), h_ci (X8_check_h (a := 213) (z := 184) (g := gD acc) (by decide) rfl (by decide) (by omega) (fun i hi => ⟨byL_at hb i, hw i hi⟩)), sa_213 (by omega)]; rfl
  | succ m ih =>
    intro p fuel I acc h1 h2 h3 hb hC hs hw
    obtain ⟨f, rfl⟩ : ∃ f, fuel = f + 1 := ⟨fuel - 1, by omega⟩
    have hth := (k_cd_th (show p < k_L C + k_R C by omega) hk).1
    have hcd := k_th_lt hk hth
    have h3' : (im_p C s m (p + 1) (im_1 C s (k_cd C p) acc)).length + 1 ≤ 184 := h3
    have hmono := im_p_mono (C := C) (s := s) m (p + 1) (im_1 C s (k_cd C p) acc)
    obtain ⟨I1, e1, e2, e3⟩ := X8_wo_h (L := L) (ρ := ρ) hk hS hth (acc := acc) (by omega) hC hs hw
    obtain ⟨I', r1, r2, r3⟩ := ih (p + 1) f I1 _ (by omega) (by omega) h3' (im_1_by hk hS hcd hb) (cwX_fr (fun x q1 q2 => e2 x (by omega)) hC) (stX_fr (fun x q1 q2 => e2 x (by omega)) hs) e3
    refine ⟨I', ?_, fun x hx => by rw [r2 x hx, e2 x hx], r3⟩
    rw [h_fix, ← r1]
    show X8_write_B124 41 ρ.1 213 v3 _ (nI acc.length) (nI p) (hp I L ρ) = _
    unfold X8_write_B124
    rw [rcc hC.1, h_ci (YC_people hC hk), h_if, if_neg (nI_ge (by omega) (by omega)), rcc hC.1, h_ci (YC_slot hC hk _), k_sl_cd hk (by omega), oI_some, rc_41, h_ci e1, nI_1]
/-- the class writes an image -/
theorem X8_write_h (hk : okC C) (hS : okS C s) (hC : cwX I ρ C) (hs : stX 41 I s) : ∃ I', X8_write 41 ρ.1 213 (hp I L ρ) = some (some (.int (nI (im_all C s).length)), hp I' L ρ) ∧ (∀ x, x ≠ 213 → I' x = I x) ∧ wrL 213 I' (im_all C s) := by
  have h12 := hk.1
  have hsp := hS.1.1
  have hLR := k_LR hk
  have hlen := im_b_len (s := s) hk
  have hal : (im_all C s).length = 4 + 3 * (k_L C + k_R C) + 4 * (k_L C * k_R C) := by
    unfold im_all
    rw [List.length_append]
    show (im_b C s).length + 1 = _
    omega
  have hw0 : wrL 213 (u2 (u2 (u2 I 213 0 (nI (s_sp s / 256))) 213 1 (nI (s_sp s % 256))) 213 2 (nI (s_rd s))) (im_h s) := wrL_add (l := [s_sp s / 256, s_sp s % 256]) (wrL_add (l := [s_sp s / 256]) (wrL_add (l := []) (fun i hi => absurd hi (Nat.not_lt_zero i))))
  have fr0 : ∀ x, x ≠ 213 → u2 (u2 (u2 I 213 0 (nI (s_sp s / 256))) 213 1 (nI (s_sp s % 256))) 213 2 (nI (s_rd s)) x = I x := fun x hx => by rw [u2r hx, u2r hx, u2r hx]
  generalize hI0 : u2 (u2 (u2 I 213 0 (nI (s_sp s / 256))) 213 1 (nI (s_sp s % 256))) 213 2 (nI (s_rd s)) = I0 at hw0 fr0
  obtain ⟨I1, e1, e2, e3⟩ := X8_im_o (L := L) (ρ := ρ) hk hS (v3 := nI (im_all C s).length) (k_L C + k_R C) 0 zFU I0 (im_h s) (by omega) (by unfold zFU; omega) (by show 3 + _ ≤ 100; omega) (cwX_fr (fun x q1 q2 => fr0 x (by omega)) hC) (stX_fr (fun x q1 q2 => fr0 x (by omega)) hs) hw0
  have hby : byL (im_o C s (k_L C + k_R C) 0 (im_h s)) := im_o_by hk hS _ _ _ (by omega) (by
    have h1 := hS.1
    have h2 := hk.2.1
    intro b hb
    unfold im_h at hb
    simp only [List.mem_cons, List.not_mem_nil, or_false] at hb
    omega)
  have fr1 : ∀ x, x ≠ 213 → I1 x = I x := fun x hx => by rw [e2 x hx, fr0 x hx]
  obtain ⟨I2, f1, f2, f3⟩ := X8_im_p (L := L) (ρ := ρ) hk hS (v3 := nI (im_all C s).length) (k_L C + k_R C) 0 zFU I1 _ (by omega) (by unfold zFU; omega) (by show (im_b C s).length + 1 ≤ 184; omega) hby (cwX_fr (fun x q1 q2 => fr1 x (by omega)) hC) (stX_fr (fun x q1 q2 => fr1 x (by omega)) hs) e3
  refine ⟨I2, ?_, fun x hx => by rw [f2 x hx, fr1 x hx], f3⟩
  have eL : X8_imageLength ρ.1 (hp I L ρ) = some (some (.int (nI (im_all C s).length)), hp I L ρ) := by
    unfold X8_imageLength
    rw [rcc hC.1, h_ci (YC_people hC hk), gc_0 hC.1, show (0 : Int32) = nI 0 from rfl, YC_side hC hk (by omega), gc_0 hC.1, show (1 : Int32) = nI 1 from rfl, YC_side hC hk (by omega), h_ret, show (4 : Int32) = nI 4 from rfl, show (3 : Int32) = nI 3 from rfl, pk_mul, nI_add, pk_mul, pk_mul, nI_add, hal, Nat.mul_assoc]; rfl
  have e1' : z_fix (fun r x => X8_write_B48 41 ρ.1 213 (nI (im_all C s).length) r x.1 x.2) zFU (3, 0) (hp I0 L ρ) = _ := e1
  unfold X8_write
  rw [h_ci eL, len_213, h_if, if_pos (nI_le (by omega) (by omega)), gi_41, h_ck (by decide), hs.1.1, show (256 : Int32) = nI 256 from rfl, pk_div (by omega) (by omega) (by omega), sal_0, sa_213 (by omega), gi_41, u2r (show 41 ≠ 213 by omega), hs.1.1, h_ck (by decide), pk_rem (by omega) (by omega) (by omega), sal_1, sa_213 (by omega), gi_41, u2r (show 41 ≠ 213 by omega), u2r (show 41 ≠ 213 by omega), hs.1.2, sal_2, sa_213 (by omega), hI0, e1']
  exact f1
end B5r
