/-! image: the reference writes it; the call -/
section B5s
variable {I I0 : Nat → Nat → Int32} {L L0 : Nat → Nat → Int64} {ρ : zRh} {h : zH} {A : aT} {N : Nat} {C : cT} {s : sT}
/-- what has been written of the reference's -/
def wrM (I : Nat → Nat → Int32) (l : List Nat) : Prop := I 215 115 = nI l.length ∧ wrL 296 I l
def fwM (I I' : Nat → Nat → Int32) : Prop := (∀ x, x ≠ 296 → x ≠ 215 → I' x = I x) ∧ ∀ k, k ≠ 115 → I' 215 k = I 215 k
theorem fwM_trans {I I1 I2 : Nat → Nat → Int32} (h1 : fwM I I1) (h2 : fwM I1 I2) : fwM I I2 := ⟨fun x a b => by rw [h2.1 x a b, h1.1 x a b], fun k a => by rw [h2.2 k a, h1.2 k a]⟩
theorem fwM_refl : fwM I I := ⟨fun _ _ _ => rfl, fun _ _ => rfl⟩
theorem fwM_ch {I' : Nat → Nat → Int32} (h : fwM I I') (hM : chM I C) : chM I' C := chM_fr (fun a ha => h.1 a (by omega) (by omega)) (h.2 53 (by omega)) hM
theorem fwM_st {I' : Nat → Nat → Int32} (h : fwM I I') (hM : stM I C s) : stM I' C s := by
  unfold stM
  rw [h.1 255 (by omega) (by omega), h.1 248 (by omega) (by omega), h.2 54 (by omega), h.2 55 (by omega)]
  exact hM
theorem X12_writes_h {l : List Nat} {b : Nat} (hl : l.length < 184) (hw : wrM I l) : ∃ I', X12_writes 215 (nI b) (hp I L ρ) = some (none, hp I' L ρ) ∧ fwM I I' ∧ wrM I' (l ++ [b]) := by
  have hll : (l ++ [b]).length = l.length + 1 := by rw [List.length_append]; rfl
  refine ⟨u2 (u2 I 296 l.length (nI b)) 215 115 (nI (l.length + 1)), ?_, ⟨fun x h1 h2 => by rw [u2r h2, u2r h1], fun k hk => by rw [u2_ap, if_neg (by omega), u2r (by omega)]⟩, ?_, ?_⟩
  · unfold X12_writes
    rw [gr_215_114, gi_215, hw.1, sa_296 hl, gi_215, u2r (show 215 ≠ 296 by omega), hw.1, nI_1, pi_215]; rfl
  · rw [u2_ap, if_pos ⟨rfl, rfl⟩, hll]
  · intro i hi
    rw [u2r (show 296 ≠ 215 by omega)]
    exact wrL_add hw.2 i hi
theorem X12_im_o (hk : okC C) (hS : okS C s) {side : Nat} (hside : side < 2) {r27 : Int32 → zM} : ∀ (m k fuel : Nat) (I : Nat → Nat → Int32) (acc : List Nat), k + m = k_n C side → m < fuel → acc.length + m ≤ 100 → chM I C → stM I C s → wrM I acc → ∃ I', z_fix (fun r x => X12_image_B34 r27 215 (nI side) r x) fuel (nI k) (hp I L ρ) = r27 (nI (side + 1)) (hp I' L ρ) ∧ fwM I I' ∧ wrM I' (im_o C s m (side * k_L C + k) acc) := by
  have h12 := hk.1
  intro m
  induction m with
  | zero =>
    intro k fuel I acc h1 h2 h3 hC hs hw
    obtain ⟨f, rfl⟩ : ∃ f, fuel = f + 1 := ⟨fuel - 1, by omega⟩
    refine ⟨I, ?_, fwM_refl, hw⟩
    have := k_n_le hk side
    rw [h_fix]
    show X12_image_B34 r27 215 (nI side) _ (nI k) (hp I L ρ) = _
    unfold X12_image_B34 X12_image_J75
    rw [rc_215, h_ci (X12_sideMany_h hC hside), h_if, if_pos (nI_le (by omega) (by omega)), nI_1]
  | succ m ih =>
    intro k fuel I acc h1 h2 h3 hC hs hw
    obtain ⟨f, rfl⟩ : ∃ f, fuel = f + 1 := ⟨fuel - 1, by omega⟩
    have hn6 := k_n_le hk side
    have hcd : k_cd C (side * k_L C + k) = 6 * side + k := by
      have hc : side = 0 ∨ side = 1 := by omega
      rcases hc with rfl | rfl
      · have : k_n C 0 = k_L C := rfl
        rw [((k_cd_6 hk).1 (by omega)).1]
        omega
      · rw [((k_cd_6 hk).2 (by omega)).1]
        omega
    have hth : k_th C (6 * side + k) := k_th_of hside (by omega)
    have hor := (hS.2.1 _ hth)
    have ho := k_th_lt hk hor.1
    have h1255 := hs.2.1 side k hside (by omega)
    obtain ⟨I1, e1, e2, e3⟩ := X12_writes_h (L := L) (ρ := ρ) (b := k_num C (s_ord s (6 * side + k))) (by omega) hw
    have hll : (acc ++ [k_num C (s_ord s (6 * side + k))]).length = acc.length + 1 := by rw [List.length_append]; rfl
    obtain ⟨I', r1, r2, r3⟩ := ih (k + 1) f I1 _ (by omega) (by omega) (by omega) (fwM_ch e2 hC) (fwM_st e2 hs) e3
    refine ⟨I', ?_, fwM_trans e2 r2, ?_⟩
    · rw [h_fix, ← r1]
      show X12_image_B34 r27 215 (nI side) _ (nI k) (hp I L ρ) = _
      unfold X12_image_B34
      rw [rc_215, h_ci (X12_sideMany_h hC hside), h_if, if_neg (nI_ge (by omega) (by omega)), gr_215_52, show (2 : Int32) = nI 2 from rfl, show (6 : Int32) = nI 6 from rfl, pk_mul, nI_add, nI_add, la_255 (by omega), h1255, nI_add, show 6 * side + (s_ord s (6 * side + k) - 6 * side) = s_ord s (6 * side + k) by omega, rc_215, h_ci (X12_numberOf_h hk hC (by omega)), rc_215, h_cv e1, nI_1]
    · show wrM I' (im_o C s m (side * k_L C + k + 1) (acc ++ [k_num C (s_ord s (k_cd C (side * k_L C + k)))]))
      rw [hcd]
      exact r3
theorem X12_im_os (hk : okC C) (hS : okS C s) {acc : List Nat} (hl : acc.length ≤ 50) (hC : chM I C) (hs : stM I C s) (hw : wrM I acc) : ∃ I', z_fix (fun r x => X12_image_B27 215 r x) zFU 0 (hp I L ρ) = X12_image_J81 215 (hp I' L ρ) ∧ fwM I I' ∧ wrM I' (im_o C s (k_L C + k_R C) 0 acc) := by
  have h12 := hk.1
  obtain ⟨f, hf⟩ : ∃ f, zFU = f + 3 := ⟨999997, rfl⟩
  obtain ⟨I1, e1, e2, e3⟩ := X12_im_o (L := L) (ρ := ρ) hk hS (side := 0) (by omega) (r27 := fun x => z_fix (fun r x => X12_image_B27 215 r x) (f + 2) x) (k_L C) 0 zFU I acc (by show 0 + k_L C = k_L C; omega) (by unfold zFU; omega) (by omega) hC hs hw
  rw [Nat.zero_mul] at e3
  obtain ⟨I2, f1, f2, f3⟩ := X12_im_o (L := L) (ρ := ρ) hk hS (side := 1) (by omega) (r27 := fun x => z_fix (fun r x => X12_image_B27 215 r x) (f + 1) x) (k_R C) 0 zFU I1 _ (by show 0 + k_R C = k_R C; omega) (by unfold zFU; omega) (by rw [im_o_len]; omega) (fwM_ch e2 hC) (fwM_st e2 hs) e3
  refine ⟨I2, ?_, fwM_trans e2 f2, ?_⟩
  · have e1' : z_fix (fun r x => X12_image_B34 (fun x => z_fix (fun r x => X12_image_B27 215 r x) (f + 2) x) 215 0 r x) zFU 0 (hp I L ρ) = z_fix (fun r x => X12_image_B27 215 r x) (f + 2) 1 (hp I1 L ρ) := e1
    have f1' : z_fix (fun r x => X12_image_B34 (fun x => z_fix (fun r x => X12_image_B27 215 r x) (f + 1) x) 215 1 r x) zFU 0 (hp I1 L ρ) = z_fix (fun r x => X12_image_B27 215 r x) (f + 1) 2 (hp I2 L ρ) := f1
    have s0 : z_fix (fun r x => X12_image_B27 215 r x) (f + 3) 0 (hp I L ρ) = z_fix (fun r x => X12_image_B27 215 r x) (f + 2) 1 (hp I1 L ρ) := by
      rw [← e1', h_fix]
      show X12_image_B27 215 _ 0 (hp I L ρ) = _
      unfold X12_image_B27
      rw [h_if, if_neg (by decide)]
    have s1 : z_fix (fun r x => X12_image_B27 215 r x) (f + 2) 1 (hp I1 L ρ) = z_fix (fun r x => X12_image_B27 215 r x) (f + 1) 2 (hp I2 L ρ) := by
      rw [← f1', h_fix]
      show X12_image_B27 215 _ 1 (hp I1 L ρ) = _
      unfold X12_image_B27
      rw [h_if, if_neg (by decide)]
    have s2 : z_fix (fun r x => X12_image_B27 215 r x) (f + 1) 2 (hp I2 L ρ) = X12_image_J81 215 (hp I2 L ρ) := by
      rw [h_fix]
      show X12_image_B27 215 _ 2 (hp I2 L ρ) = _
      unfold X12_image_B27
      rw [h_if, if_pos (by decide)]
    rw [hf, s0, s1, s2]
  · rw [im_o_add, Nat.zero_add]
    rw [Nat.one_mul, Nat.add_zero] at f3
    exact f3
theorem X12_im_k (hk : okC C) {a p K : Nat} (ha : k_th C a) (hp2 : k_num C a = p) (hK : K = k_ot C a) {r83 : Int32 → zM} : ∀ (m k fuel : Nat) (I : Nat → Nat → Int32) (acc : List Nat), k + m = K → m < fuel → acc.length + 2 * m ≤ 184 → chM I C → stM I C s → wrM I acc → ∃ I', z_fix (fun r x => X12_image_B136 r83 215 (nI p) (nI a) r x) fuel (nI k) (hp I L ρ) = r83 (nI (p + 1)) (hp I' L ρ) ∧ fwM I I' ∧ wrM I' (im_k s a m k acc) := by
  have h12 := hk.1
  have ha12 := k_th_lt hk ha
  have hp12 := k_num_lt hk ha12
  have hot := k_ot_le hk a
  have hsd : ∀ {I1 : Nat → Nat → Int32} {F : Int32 → zM}, chM I1 C → z_ci (X12_sideMany 215 ((1 : Int32) - (if k_L C ≤ p then 1 else 0))) F (hp I1 L ρ) = F (nI K) (hp I1 L ρ) := by
    intro I1 F hC1
    rw [hK]
    unfold k_ot
    have e : k_L C ≤ p ↔ 6 ≤ a := by
      rw [← hp2]
      unfold k_num
      rcases ha with h | h
      · rw [if_pos (by omega)]; omega
      · rw [if_neg (by omega)]; omega
    by_cases c : 6 ≤ a
    · rw [if_pos (e.mpr c), if_neg (by omega), show (1 : Int32) - 1 = 0 by decide, h_ci (X12_side0 hC1)]
    · rw [if_neg (fun q => c (e.mp q)), if_pos (by omega), show (1 : Int32) - 0 = 1 by decide, h_ci (X12_side1 hC1)]
  intro m
  induction m with
  | zero =>
    intro k fuel I acc h1 h2 h3 hC hs hw
    obtain ⟨f, rfl⟩ : ∃ f, fuel = f + 1 := ⟨fuel - 1, by omega⟩
    refine ⟨I, ?_, fwM_refl, hw⟩
    rw [h_fix]
    show X12_image_B136 r83 215 (nI p) (nI a) _ (nI k) (hp I L ρ) = _
    unfold X12_image_B136 X12_image_J187
    rw [rc_215, h_ci (X12_sideOf_h hk hC (by omega)), rc_215, hsd hC, h_if, if_pos (nI_le (by omega) (by omega)), nI_1]
  | succ m ih =>
    intro k fuel I acc h1 h2 h3 hC hs hw
    obtain ⟨f, rfl⟩ : ∃ f, fuel = f + 1 := ⟨fuel - 1, by omega⟩
    have hv := (hs.2.2 a ha).2.2.1 k (by omega)
    obtain ⟨I1, e1, e2, e3⟩ := X12_writes_h (L := L) (ρ := ρ) (b := s_lik s (6 * a + k)) (by omega) hw
    have hll : (acc ++ [s_lik s (6 * a + k)]).length = acc.length + 1 := by rw [List.length_append]; rfl
    obtain ⟨I2, f1, f2, f3⟩ := X12_writes_h (L := L) (ρ := ρ) (b := s_kno s (6 * a + k)) (by omega) e3
    have hl2 : (acc ++ [s_lik s (6 * a + k)] ++ [s_kno s (6 * a + k)]).length = acc.length + 2 := by rw [List.length_append, hll]; rfl
    have h2' := fwM_trans e2 f2
    obtain ⟨I', r1, r2, r3⟩ := ih (k + 1) f I2 _ (by omega) (by omega) (by omega) (fwM_ch h2' hC) (fwM_st h2' hs) f3
    refine ⟨I', ?_, fwM_trans h2' r2, r3⟩
    rw [h_fix, ← r1]
    show X12_image_B136 r83 215 (nI p) (nI a) _ (nI k) (hp I L ρ) = _
    unfold X12_image_B136
    rw [rc_215, h_ci (X12_sideOf_h hk hC (by omega)), rc_215, hsd hC, h_if, if_neg (nI_ge (by omega) (by omega)), gr_215_52, rc_215, h_ci (X12_likingAt_h (by omega) (by omega)), Nat.mod_eq_of_lt (show k < 6 by omega), la_255 (by omega), hv.1, rc_215, h_cv e1, gr_215_52, rc_215, h_ci (X12_knowingAt_h (by omega) (by omega)), Nat.mod_eq_of_lt (show k < 6 by omega), la_255 (by omega), e2.1 255 (by omega) (by omega), hv.2, rc_215, h_cv f1, nI_1]
theorem X12_im_p (hk : okC C) (hS : okS C s) : ∀ (m p fuel : Nat) (I : Nat → Nat → Int32) (acc : List Nat), p + m = k_L C + k_R C → m < fuel → (im_p C s m p acc).length + 1 ≤ 184 → byL acc → chM I C → stM I C s → wrM I acc → ∃ I', z_fix (fun r x => X12_image_B83 215 r x) fuel (nI p) (hp I L ρ) = some (some (.int (nI (im_p C s m p acc ++ [ck (gD (im_p C s m p acc)) (im_p C s m p acc).length]).length)), hp I' L ρ) ∧ fwM I I' ∧ wrM I' (im_p C s m p acc ++ [ck (gD (im_p C s m p acc)) (im_p C s m p acc).length]) := by
  have h12 := hk.1
  intro m
  induction m with
  | zero =>
    intro p fuel I acc h1 h2 h3 hb hC hs hw
    have h3' : acc.length + 1 ≤ 184 := h3
    obtain ⟨f, rfl⟩ : ∃ f, fuel = f + 1 := ⟨fuel - 1, by omega⟩
    obtain ⟨I1, e1, e2, e3⟩ := X12_writes_h (L := L) (ρ := ρ) (b := ck (gD acc) acc.length) (by omega) hw
    refine ⟨I1, ?_, e2, e3⟩
    rw [h_fix]
    show X12_image_B83 215 _ (nI p) (hp I L ρ) = some (some (.int (nI (acc ++ [ck (gD acc) acc.length]).length)), hp I1 L ρ)
    unfold X12_image_B83 X12_image_J193
    rw [rc_215, h_ci (X12_peopleMany_h hC), h_if, if_pos (nI_le (by omega) (by omega)), gr_215_114, gi_215, hw.1, h_ci (X12_check_h (a := 296) (z := 184) (g := gD acc) (by decide) rfl (by decide) (by omega) (fun i hi => ⟨byL_at hb i, hw.2 i hi⟩)), rc_215, h_cv e1, gi_215, e3.1]; rfl
  | succ m ih =>
    intro p fuel I acc h1 h2 h3 hb hC hs hw
    obtain ⟨f, rfl⟩ : ∃ f, fuel = f + 1 := ⟨fuel - 1, by omega⟩
    obtain ⟨hth, hnum, -⟩ := k_cd_th (show p < k_L C + k_R C by omega) hk
    have hcd := k_th_lt hk hth
    have h3' : (im_p C s m (p + 1) (im_1 C s (k_cd C p) acc)).length + 1 ≤ 184 := h3
    have hmono := im_p_mono (C := C) (s := s) m (p + 1) (im_1 C s (k_cd C p) acc)
    have hl1 : (im_1 C s (k_cd C p) acc).length = _ := im_1_len
    obtain ⟨I1, e1, e2, e3⟩ := X12_writes_h (L := L) (ρ := ρ) (b := im_w C s (k_cd C p)) (by omega) hw
    have hll : (acc ++ [im_w C s (k_cd C p)]).length = acc.length + 1 := by rw [List.length_append]; rfl
    obtain ⟨I2, f1, f2, f3⟩ := X12_writes_h (L := L) (ρ := ρ) (b := s_wai s (k_cd C p)) (by omega) e3
    have hl2 : (acc ++ [im_w C s (k_cd C p)] ++ [s_wai s (k_cd C p)]).length = acc.length + 2 := by rw [List.length_append, hll]; rfl
    have h2' := fwM_trans e2 f2
    obtain ⟨I3, g1, g2, g3⟩ := X12_im_k (L := L) (ρ := ρ) hk hth hnum rfl (r83 := fun x => z_fix (fun r x => X12_image_B83 215 r x) f x) (k_ot C (k_cd C p)) 0 zFU I2 _ (by omega) (by have := k_ot_le hk (k_cd C p); unfold zFU; omega) (by omega) (fwM_ch h2' hC) (fwM_st h2' hs) f3
    have h3'' := fwM_trans h2' g2
    obtain ⟨I', r1, r2, r3⟩ := ih (p + 1) f I3 _ (by omega) (by omega) h3' (im_1_by hk hS hcd hb) (fwM_ch h3'' hC) (fwM_st h3'' hs) g3
    refine ⟨I', ?_, fwM_trans h3'' r2, r3⟩
    have hwai : X12_waitedOf 215 (nI p) (hp I1 L ρ) = some (some (.int (nI (s_wai s (k_cd C p)))), hp I1 L ρ) := by
      have := X12_waitedOf_h (L := L) (ρ := ρ) hk (fwM_ch e2 hC) (fwM_st e2 hs) hth
      rw [hnum] at this
      exact this
    have hwed : X12_wedTo 215 (nI p) (hp I L ρ) = some (some (.int (oI (s_wed s (k_cd C p)))), hp I L ρ) := by
      have := X12_wedTo_h (L := L) (ρ := ρ) hk hC hs hth
      rw [hnum] at this
      exact this
    have e122 : X12_image_J122 (fun x => z_fix (fun r x => X12_image_B83 215 r x) f x) 215 (nI p) (nI (k_cd C p)) (nI (im_w C s (k_cd C p))) 215 (hp I L ρ) = some (some (.int (nI (im_p C s m (p + 1) (im_1 C s (k_cd C p) acc) ++ [ck (gD (im_p C s m (p + 1) (im_1 C s (k_cd C p) acc))) (im_p C s m (p + 1) (im_1 C s (k_cd C p) acc)).length]).length)), hp I' L ρ) := by
      unfold X12_image_J122
      rw [rc_215, h_cv e1, rc_215, h_ci hwai, rc_215, h_cv f1]
      exact g1.trans r1
    rw [h_fix]
    show X12_image_B83 215 _ (nI p) (hp I L ρ) = _
    unfold X12_image_B83
    rw [rc_215, h_ci (X12_peopleMany_h hC), h_if, if_neg (nI_ge (by omega) (by omega)), rc_215, h_ci (X12_codeOf_h hk hC (by omega)), rc_215, h_ci hwed, h_if]
    unfold im_w at e122
    rcases q : s_wed s (k_cd C p) with _ | b
    · rw [q] at e122
      rw [oI_none, if_pos rfl]
      exact e122
    · have hb12 := k_th_lt hk (hS.2.2.2.1 _ b q).2.1
      rw [q] at e122 hwed
      rw [oI_some, if_neg (nI_nm1 (by omega)), rc_215, h_ci hwed, oI_some, rc_215, h_ci (X12_numberOf_h hk hC (by omega))]
      exact e122
/-- the reference writes an image -/
theorem X12_image_h (hk : okC C) (hS : okS C s) (hC : chM I C) (hs : stM I C s) : ∃ I', X12_image 215 (hp I L ρ) = some (some (.int (nI (im_all C s).length)), hp I' L ρ) ∧ fwM I I' ∧ wrM I' (im_all C s) := by
  have h12 := hk.1
  have hsp := hS.1.1
  have hlen := im_b_len (s := s) hk
  have f0 : fwM I (u2 I 215 115 0) := ⟨fun x _ h2 => u2r h2, fun k hk => by rw [u2_ap, if_neg (by omega)]⟩
  have hw0 : wrM (u2 I 215 115 0) [] := ⟨by rw [u2_ap, if_pos ⟨rfl, rfl⟩]; rfl, fun i hi => absurd hi (Nat.not_lt_zero i)⟩
  obtain ⟨I1, a1, a2, a3⟩ := X12_writes_h (L := L) (ρ := ρ) (b := s_sp s / 256) (by show 0 < 184; omega) hw0
  obtain ⟨I2, b1, b2, b3⟩ := X12_writes_h (L := L) (ρ := ρ) (b := s_sp s % 256) (by show 1 < 184; omega) a3
  obtain ⟨I3, c1, c2, c3⟩ := X12_writes_h (L := L) (ρ := ρ) (b := s_rd s) (by show 2 < 184; omega) b3
  have f2 := fwM_trans f0 (fwM_trans a2 b2)
  have f3 := fwM_trans f2 c2
  obtain ⟨I4, d1, d2, d3⟩ := X12_im_os (L := L) (ρ := ρ) (I := I3) hk hS (acc := im_h s) (by show 3 ≤ 50; omega) (fwM_ch f3 hC) (fwM_st f3 hs) c3
  have f4 := fwM_trans f3 d2
  have hby : byL (im_o C s (k_L C + k_R C) 0 (im_h s)) := im_o_by hk hS _ _ _ (by omega) (by
    have h1 := hS.1
    have h2 := hk.2.1
    intro b hb
    unfold im_h at hb
    simp only [List.mem_cons, List.not_mem_nil, or_false] at hb
    omega)
  obtain ⟨I5, g1, g2, g3⟩ := X12_im_p (L := L) (ρ := ρ) hk hS (k_L C + k_R C) 0 zFU I4 _ (by omega) (by unfold zFU; omega) (by show (im_b C s).length + 1 ≤ 184; omega) hby (fwM_ch f4 hC) (fwM_st f4 hs) d3
  refine ⟨I5, ?_, fwM_trans f4 g2, g3⟩
  have e2 : X12_writesTwo 215 (nI (s_sp s)) (hp (u2 I 215 115 0) L ρ) = some (none, hp I2 L ρ) := by
    unfold X12_writesTwo
    rw [h_ck (by decide), show (256 : Int32) = nI 256 from rfl, pk_div (by omega) (by omega) (by omega), rc_215, h_cv a1, h_ck (by decide), pk_mul, pk_sub (by omega), show s_sp s - s_sp s / 256 * 256 = s_sp s % 256 by omega, rc_215, h_cv b1]; rfl
  have g1' : X12_image_J81 215 (hp I4 L ρ) = _ := g1
  unfold X12_image
  rw [pi_215, gr_215_52, lal_0, la_255 (by omega), u2r (show 255 ≠ 215 by omega), hs.1.1, rc_215, h_cv e2, gr_215_52, lal_1, la_255 (by omega), f2.1 255 (by omega) (by omega), hs.1.2, rc_215, h_cv c1, d1, g1']; rfl
/-- all that calls show with another picture -/
def a_im (A : aT) (l : List Nat) : aT := (A.1, A.2.1, A.2.2.1, A.2.2.2.1, A.2.2.2.2.1, A.2.2.2.2.2.1, A.2.2.2.2.2.2.1, ((fun i => nI (gD l i)), l.length), A.2.2.2.2.2.2.2.2)
theorem im_all_len (hk : okC C) : (im_all C s).length ≤ 184 := by
  have h := im_b_len (s := s) hk
  unfold im_all
  rw [List.length_append]
  show (im_b C s).length + 1 ≤ 184
  omega
theorem image_b (hok : okA A) : both (X11_image 0) (X12_image 215) A N := by
  have hk := hok.1
  have hS := hok.2.2.1.1
  refine ⟨.int (nI (im_all (a_C A) (a_s A)).length), a_im A (im_all (a_C A) (a_s A)), N, fun I L ρ hX => ?_, fun I L ρ hM => ?_, ⟨hok.1, hok.2.1, hok.2.2.1, hok.2.2.2.1, hok.2.2.2.2.1, hok.2.2.2.2.2.1, im_all_len hk, hok.2.2.2.2.2.2.2⟩, by omega⟩
  · obtain ⟨I1, e1, e2, e3⟩ := X8_write_h (L := L) (ρ := ρ) hk hS (cwX_of hX) hX.2.2.1
    have fr : ∀ x, x ≠ 213 → x ≠ 0 → u2 I1 0 15 (nI (im_all (a_C A) (a_s A)).length) x = I x := fun x h1 h2 => by rw [u2r h2, e2 x h1]
    have fr0 : ∀ k, k ≠ 15 → u2 I1 0 15 (nI (im_all (a_C A) (a_s A)).length) 0 k = I 0 k := fun k hk => by rw [u2_ap, if_neg (by omega), e2 0 (by omega)]
    refine ⟨u2 I1 0 15 (nI (im_all (a_C A) (a_s A)).length), L, ρ, ?_, ?_, fun a ha => ⟨fr a (by omega) (by omega), rfl⟩⟩
    · unfold X11_image
      rw [gr_0_7, gr_0_5, gr_0_14, rc_41, h_ci e1, pi_0, gi_0, u2_ap, if_pos ⟨rfl, rfl⟩]; rfl
    · obtain ⟨h1, h2, h3, h4, h5, h6, h7, h8, h9⟩ := hX
      refine ⟨?_, ?_, stX_fr (fun a x y => fr a (by omega) (by omega)) h3, pa_fr (fun a x y => fr a (by omega) (by omega)) (Nat.le_refl _) h4, ?_, ?_, ?_, ?_, h9⟩
      · rcases h1 with h1 | h1
        · exact Or.inl (cur_fr (Or.inl ⟨rfl, rfl⟩) (fun a ha => fr a (by omega) (by omega)) h1)
        · exact Or.inr (cur_fr (Or.inr ⟨rfl, rfl⟩) (fun a ha => fr a (by omega) (by omega)) h1)
      · rw [fr0 1 (by omega), fr 1 (by omega) (by omega)]; exact h2
      · rw [fr0 13 (by omega), fr 212 (by omega) (by omega)]; exact h5
      · refine ⟨by rw [u2_ap, if_pos ⟨rfl, rfl⟩]; rfl, fun k hk2 => ?_⟩
        rw [u2r (show 213 ≠ 0 by omega)]
        exact e3 k hk2
      · rw [fr 214 (by omega) (by omega)]; exact h7
      · rw [fr0 17 (by omega), fr0 18 (by omega)]; exact h8
  · obtain ⟨I', e1, e2, e3⟩ := X12_image_h (L := L) (ρ := ρ) hk hS hM.1 (RelM_st hok hM)
    refine ⟨I', L, e1, ?_, fun a ha => ⟨e2.1 a (by omega) (by omega), rfl⟩⟩
    obtain ⟨h1, h2, h3, h4, h5, h6, h7, h8, h9, h10, h11, h12⟩ := hM
    have fr : ∀ x, x ≠ 296 → x ≠ 215 → I' x = I x := e2.1
    refine ⟨fwM_ch e2 h1, ?_, ?_, ?_, ?_, ?_, ?_, ?_, ?_, ?_, h11, ?_⟩
    · rw [fr 246 (by omega) (by omega)]; exact h2
    · rw [e2.2 1 (by omega), fr 216 (by omega) (by omega)]; exact h3
    · rw [fr 255 (by omega) (by omega)]; exact h4
    · rw [e2.2 54 (by omega), e2.2 64 (by omega)]; exact h5
    · unfold paM
      rw [e2.2 75 (by omega), e2.2 76 (by omega), fr 266 (by omega) (by omega)]; exact h6
    · rw [e2.2 71 (by omega), fr 264 (by omega) (by omega)]; exact h7
    · exact e3
    · rw [fr 217 (by omega) (by omega)]; exact h9
    · rw [e2.2 7 (by omega), e2.2 8 (by omega)]; exact h10
    · intro q hq i hi
      have := wdL_at q hq
      rw [fr q.1 (by omega) (by omega)]
      exact h12 q hq i hi
end B5s
