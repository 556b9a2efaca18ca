/-! steady: both look till nobody asks more -/
section B5p
variable {I I0 : Nat → Nat → Int32} {L L0 : Nat → Nat → Int64} {ρ : zRh} {h : zH} {A : aT} {N : Nat} {C : cT} {s : sT}
theorem X5_st_J85 (hok : okA A) (hX : RelX I L ρ A N) {T : dT} (hT : okD T) (hD : dX I T) {r18 : Int32 → zM} {i l k : Nat} (hl : l < 6) (hk6 : k < 6) : ∃ I', X5_findSteady_J85 r18 63 ρ.1 41 (nI i) (nI l) (nI (6 + k)) (hp I L ρ) = r18 (nI (i + 1)) (hp I' L ρ) ∧ (∀ x, x ≠ 64 → x ≠ 67 → I' x = I x) ∧ dX I' (d_st (a_s A) T (l, k)) := by
  have hlik := hX.2.2.1.2.2.2.2.2.1
  have hl9 := hok.2.2.1.1.2.2.2.2.2
  have hS := hT.2 l hl
  have h67 : ∀ (f : Nat → Nat → Int32), (∀ j, f 67 j = u2 I 67 l (nI (m_set (T.2 l) k)) 67 j) → ∀ j, j < 6 → f 67 j = nI (if j = l then m_set (T.2 j) k else T.2 j) := by
    intro f hf j hj
    rw [hf, u2_ap]
    by_cases c : j = l
    · rw [if_pos ⟨rfl, c⟩, if_pos c, c]
    · rw [if_neg (by omega), if_neg c, hD.2 j hj]
  have e1 : X5_findSteady_J85 r18 63 ρ.1 41 (nI i) (nI l) (nI (6 + k)) (hp I L ρ) = (match T.1 (6 + k) with
      | none => X5_findSteady_J153 r18 63 ρ.1 41 (nI i) (nI l) (nI (6 + k)) (-1) (hp (u2 I 67 l (nI (m_set (T.2 l) k))) L ρ)
      | some y => if s_lik (a_s A) (6 * (6 + k) + y % 6) < s_lik (a_s A) (6 * (6 + k) + l % 6) then X5_findSteady_J153 r18 63 ρ.1 41 (nI i) (nI l) (nI (6 + k)) (nI y) (hp (u2 I 67 l (nI (m_set (T.2 l) k))) L ρ) else r18 (nI (i + 1)) (hp (u2 I 67 l (nI (m_set (T.2 l) k))) L ρ)) := by
    unfold X5_findSteady_J85 X5_findSteady_J185
    rw [h_if, if_neg (nI_nm1 (by omega)), gr_63_3, la_67 hl, hD.2 l hl, show (6 : Int32) = nI 6 from rfl, pk_sub (by omega), Nat.add_sub_cancel_left, m_set_or k hk6 _ hS, sa_67 hl, gr_63_0, la_64 (by omega), show u2 I 67 l (nI (m_set (T.2 l) k)) 64 (6 + k) = I 64 (6 + k) by rw [u2_ap, if_neg (by omega)], hD.1 _ (by omega), h_if]
    rcases q : T.1 (6 + k) with _ | y
    · rw [oI_none, if_pos rfl]
    · have hy := hT.1 _ _ q
      have l1 := (hl9 (6 * (6 + k) + l % 6) (by omega)).1
      have l2 := (hl9 (6 * (6 + k) + y % 6) (by omega)).1
      have f46 : ∀ j, u2 I 67 l (nI (m_set (T.2 l) k)) 46 j = I 46 j := fun j => by rw [u2_ap, if_neg (by omega)]
      rw [oI_some, if_neg (nI_nm1 (by omega)), gr_41_6, h_ci (X11_cell_h (by omega) (by omega)), la_46 (by omega), gr_41_6, h_ci (X11_cell_h (by omega) (by omega)), la_46 (by omega), f46, f46, hlik _ (by omega), hlik _ (by omega), h_if, nI_1]
      simp only [nI_le' (show s_lik (a_s A) (6 * (6 + k) + l % 6) < 2147483648 by omega) (show s_lik (a_s A) (6 * (6 + k) + y % 6) < 2147483648 by omega)]
      by_cases c : s_lik (a_s A) (6 * (6 + k) + l % 6) ≤ s_lik (a_s A) (6 * (6 + k) + y % 6)
      · rw [if_pos c, if_neg (by omega)]
      · rw [if_neg c, if_pos (by omega)]
  rw [e1]
  show ∃ I' : Nat → Nat → Int32, _ ∧ _ ∧ (∀ x, x < 12 → I' 64 x = oI (d_mv (a_s A) T l k x)) ∧ ∀ j, j < 6 → I' 67 j = nI (if j = l then m_set (T.2 j) k else T.2 j)
  unfold d_mv
  rcases q : T.1 (6 + k) with _ | y
  · refine ⟨u2 (u2 (u2 I 67 l (nI (m_set (T.2 l) k))) 64 l (nI (6 + k))) 64 (6 + k) (nI l), ?_, fun x h1 h2 => by rw [u2r h1, u2r h1, u2r h2], ?_, h67 _ (fun j => by rw [u2r (by omega), u2r (by omega)])⟩
    · show X5_findSteady_J153 r18 63 ρ.1 41 (nI i) (nI l) (nI (6 + k)) (-1) _ = _
      unfold X5_findSteady_J153 X5_findSteady_J185
      rw [gr_63_0, sa_64 (by omega), gr_63_0, sa_64 (by omega), h_if, if_pos rfl, nI_1]
    · intro x hx
      show _ = oI (d_m2 T.1 l (6 + k) x)
      unfold d_m2
      rw [u2_ap]
      by_cases c1 : x = 6 + k
      · rw [if_pos ⟨rfl, c1⟩, if_pos c1]; rfl
      · rw [if_neg (by omega), if_neg c1, u2_ap]
        by_cases c2 : x = l
        · rw [if_pos ⟨rfl, c2⟩, if_pos c2]; rfl
        · rw [if_neg (by omega), if_neg c2, u2_ap, if_neg (by omega), hD.1 x hx]
  · have hy := hT.1 _ _ q
    show ∃ I' : Nat → Nat → Int32, (if s_lik (a_s A) (6 * (6 + k) + y % 6) < s_lik (a_s A) (6 * (6 + k) + l % 6) then _ else _) = _ ∧ _ ∧ (∀ x, x < 12 → I' 64 x = oI ((if s_lik (a_s A) (6 * (6 + k) + y % 6) < s_lik (a_s A) (6 * (6 + k) + l % 6) then (fun x => if x = y then none else d_m2 T.1 l (6 + k) x) else T.1) x)) ∧ _
    by_cases c : s_lik (a_s A) (6 * (6 + k) + y % 6) < s_lik (a_s A) (6 * (6 + k) + l % 6)
    · simp only [if_pos c]
      refine ⟨u2 (u2 (u2 (u2 I 67 l (nI (m_set (T.2 l) k))) 64 l (nI (6 + k))) 64 (6 + k) (nI l)) 64 y (-1), ?_, fun x h1 h2 => by rw [u2r h1, u2r h1, u2r h1, u2r h2], ?_, h67 _ (fun j => by rw [u2r (by omega), u2r (by omega), u2r (by omega)])⟩
      · unfold X5_findSteady_J153 X5_findSteady_J185
        rw [gr_63_0, sa_64 (by omega), gr_63_0, sa_64 (by omega), h_if, if_neg (nI_nm1 (by omega)), gr_63_0, sa_64 (by omega), nI_1]
      · intro x hx
        unfold d_m2
        rw [u2_ap]
        by_cases c0 : x = y
        · rw [if_pos ⟨rfl, c0⟩, if_pos c0]; rfl
        · rw [if_neg (by omega), if_neg c0, u2_ap]
          by_cases c1 : x = 6 + k
          · rw [if_pos ⟨rfl, c1⟩, if_pos c1]; rfl
          · rw [if_neg (by omega), if_neg c1, u2_ap]
            by_cases c2 : x = l
            · rw [if_pos ⟨rfl, c2⟩, if_pos c2]; rfl
            · rw [if_neg (by omega), if_neg c2, u2_ap, if_neg (by omega), hD.1 x hx]
    · simp only [if_neg c]
      exact ⟨u2 I 67 l (nI (m_set (T.2 l) k)), rfl, fun x h1 h2 => u2r h2, fun x hx => by rw [u2_ap, if_neg (by omega)]; exact hD.1 x hx, h67 _ (fun _ => rfl)⟩
theorem X5_st_run (hok : okA A) : ∀ (n i fuel : Nat) (I : Nat → Nat → Int32) (T : dT), i + n = 37 → n < fuel → RelX I L ρ A N → okD T → dX I T → d_ct T = i → ∃ I', z_fix (fun r x => X5_findSteady_B18 63 ρ.1 41 r x) fuel (nI i) (hp I L ρ) = some (none, hp I' L ρ) ∧ (∀ x, x ≠ 64 → x ≠ 67 → I' x = I x) ∧ dX I' (d_run (a_C A) (a_s A) n T) := by
  have h12 := hok.1.1
  intro n
  induction n with
  | zero =>
    intro i fuel I T h1 h2 hX hT hD hc
    have := d_ct_le T
    omega
  | succ n ih =>
    intro i fuel I T h1 h2 hX hT hD hc
    obtain ⟨f, rfl⟩ : ∃ f, fuel = f + 1 := ⟨fuel - 1, by omega⟩
    have hw := X5_st_w (L := L) hok hX hT hD (r18 := fun x => z_fix (fun r x => X5_findSteady_B18 63 ρ.1 41 r x) f x) (v3 := nI i) (k_L (a_C A)) 0 zFU (-1) (by omega) (by unfold zFU; omega)
    have e0 : z_fix (fun r x => X5_findSteady_B18 63 ρ.1 41 r x) (f + 1) (nI i) (hp I L ρ) = z_fix (fun r x => X5_findSteady_B33 (fun x => z_fix (fun r x => X5_findSteady_B18 63 ρ.1 41 r x) f x) 63 ρ.1 41 (nI i) r x.1 x.2.1 x.2.2) zFU (-1, -1, nI 0) (hp I L ρ) := by
      rw [h_fix]
      show X5_findSteady_B18 63 ρ.1 41 _ (nI i) (hp I L ρ) = _
      unfold X5_findSteady_B18
      rw [h_if, if_neg (by rw [show (36 : Int32) = nI 36 from rfl, nI_lt' (by omega) (by omega)]; omega)]; rfl
    rw [e0, hw]
    unfold d_run
    rcases q : d_w (a_C A) (a_s A) T (k_L (a_C A)) 0 with _ | w
    · exact ⟨I, rfl, fun _ _ _ => rfl, hD⟩
    · obtain ⟨w1, w2, w3, w4⟩ := d_w_in q
      obtain ⟨I1, f1, f2, f3⟩ := X5_st_J85 (L := L) hok hX hT hD (r18 := fun x => z_fix (fun r x => X5_findSteady_B18 63 ρ.1 41 r x) f x) (i := i) (l := w.1) (k := w.2) (by omega) (by omega)
      obtain ⟨I', r1, r2, r3⟩ := ih (i + 1) f I1 _ (by omega) (by omega) (RelX_fr (fun x hx => f2 x (by unfold lastX at hx; omega) (by unfold lastX at hx; omega)) rfl (Nat.le_refl _) hX) (okD_st (s := a_s A) hT (q := w) (by omega) (by omega) w2) f3 (by rw [d_ct_st hT (by omega) (by omega) w4, hc])
      refine ⟨I', ?_, fun x h1 h2 => by rw [r2 x h1 h2, f2 x h1 h2], r3⟩
      show X5_findSteady_J85 _ 63 ρ.1 41 (nI i) (nI w.1) (nI (6 + w.2)) (hp I L ρ) = _
      rw [f1, ← r1]
def d_0 : dT := (fun _ => none, fun _ => 0)
theorem d_0_ct : d_ct d_0 = 0 := by decide
theorem d_0_ok : okD d_0 := ⟨fun a b h => (by cases h), fun l _ => by show 0 < 64; omega⟩
theorem okD_run {C : cT} {s : sT} (hC : k_L C ≤ 6 ∧ k_R C ≤ 6) : ∀ n T, okD T → okD (d_run C s n T)
  | 0, T, h => h
  | n + 1, T, h => by
    unfold d_run
    rcases q : d_w C s T (k_L C) 0 with _ | w
    · exact h
    · obtain ⟨w1, w2, w3, w4⟩ := d_w_in q
      exact okD_run hC n _ (okD_st (s := s) h (q := w) (by omega) (by omega) w2)
def d_all (A : aT) : dT := d_run (a_C A) (a_s A) 37 d_0
theorem X5_steady_h (hok : okA A) (hX : RelX I L ρ A N) : ∃ I', X5_findSteady 63 ρ.1 41 (hp I L ρ) = some (none, hp I' L ρ) ∧ (∀ x, x ≠ 64 → x ≠ 67 → I' x = I x) ∧ dX I' (d_all A) := by
  have e1 : ∀ x, x ≠ 64 → x ≠ 67 → (fun b i => if b = 67 ∧ i < 6 then (0 : Int32) else (fun b i => if b = 64 ∧ i < 12 then -1 else I b i) b i) x = I x := fun x h1 h2 => by
    funext i
    show (if x = 67 ∧ i < 6 then (0 : Int32) else if x = 64 ∧ i < 12 then -1 else I x i) = _
    rw [if_neg (by omega), if_neg (by omega)]
  obtain ⟨I', r1, r2, r3⟩ := X5_st_run (L := L) hok 37 0 zFU _ d_0 (by omega) (by unfold zFU; omega) (RelX_fr (fun x hx => e1 x (by unfold lastX at hx; omega) (by unfold lastX at hx; omega)) rfl (Nat.le_refl _) hX) d_0_ok (by
    refine ⟨fun x hx => ?_, fun l hl => ?_⟩
    · show (if 64 = 67 ∧ x < 6 then (0 : Int32) else if 64 = 64 ∧ x < 12 then -1 else I 64 x) = -1
      rw [if_neg (by omega), if_pos ⟨rfl, hx⟩]
    · show (if 67 = 67 ∧ l < 6 then (0 : Int32) else if 67 = 64 ∧ l < 12 then -1 else I 67 l) = nI 0
      rw [if_pos ⟨rfl, hl⟩]; rfl) d_0_ct
  refine ⟨I', ?_, fun x h1 h2 => (r2 x h1 h2).trans (e1 x h1 h2), r3⟩
  unfold X5_findSteady
  rw [gr_63_0, h_cv (J7_fill_h (by decide) rfl (by decide)), gr_63_3, h_cv (J7_fill_h (by decide) rfl (by decide))]
  exact r1
/-! the reference -/
def dM (I : Nat → Nat → Int32) (T : dT) : Prop := (∀ x, x < 12 → I 262 x = oI (T.1 x)) ∧ ∀ l k, l < 6 → k < 6 → I 263 (6 * l + k) = nI (b_k (T.2 l) k)
theorem RelM_262 {I' : Nat → Nat → Int32} {A : aT} (hM : RelM I L A) (h : ∀ x, x ≠ 262 → x ≠ 263 → I' x = I x) : RelM I' L A := RelM_fr (fun x hx => h x (by unfold lastM at hx; omega) (by unfold lastM at hx; omega)) (fun k _ => by rw [h 215 (by omega) (by omega)]) (fun _ _ => rfl) hM
theorem X12_nx_k (hok : okA A) (hM : RelM I L A) {T : dT} (hD : dM I T) {l : Nat} (hl : l < k_L (a_C A)) : ∀ (m k fuel : Nat), k + m = k_R (a_C A) → m < fuel → z_fix (fun r x => X12_nextFor_B4 215 (nI l) r x.1 x.2) fuel (oI (d_b (a_C A) (a_s A) T l k), nI k) (hp I L ρ) = some (some (.int (oI (d_b (a_C A) (a_s A) T l (k_R (a_C A))))), hp I L ρ) := by
  have hk := hok.1
  have h12 := hk.1
  have hl9 := hok.2.2.1.1.2.2.2.2.2
  have hlik := (hM.2.2.2.1.1.1.2.2 l (Or.inl hl)).2.2
  intro m
  induction m with
  | zero =>
    intro k fuel h1 h2
    obtain ⟨f, rfl⟩ : ∃ f, fuel = f + 1 := ⟨fuel - 1, by omega⟩
    obtain rfl : k = k_R (a_C A) := by omega
    rw [h_fix]
    show X12_nextFor_B4 215 (nI l) _ _ _ _ = _
    unfold X12_nextFor_B4
    rw [rc_215, h_ci (X12_side1 hM.1), h_if, if_pos (nI_le (by omega) (by omega))]; rfl
  | succ m ih =>
    intro k fuel h1 h2
    obtain ⟨f, rfl⟩ : ∃ f, fuel = f + 1 := ⟨fuel - 1, by omega⟩
    have hi := ih (k + 1) f (by omega) (by omega)
    have hb2 : b_k (T.2 l) k < 2 := Nat.mod_lt _ (by omega)
    rw [h_fix, ← hi]
    show X12_nextFor_B4 215 (nI l) _ _ (nI k) (hp I L ρ) = _
    generalize z_fix (fun r x => X12_nextFor_B4 215 (nI l) r x.1 x.2) f = rec
    show _ = rec (oI (if d_op (a_C A) T l k = true ∧ d_bt (a_s A) l (d_b (a_C A) (a_s A) T l k) k = true then some k else d_b (a_C A) (a_s A) T l k), nI (k + 1)) (hp I L ρ)
    unfold X12_nextFor_B4 X12_nextFor_J75 X12_nextFor_J77
    rw [rc_215, h_ci (X12_side1 hM.1), h_if, if_neg (nI_ge (by omega) (by omega)), gr_215_70, show (6 : Int32) = nI 6 from rfl, pk_mul, nI_add, la_263 (by omega), hD.2 l k (by omega) (by omega), h_if]
    unfold d_op
    by_cases c : b_k (T.2 l) k = 0
    · rw [c, if_pos (show (nI 0 : Int32) = 0 from rfl), nI_add, rc_215, h_ci (X12_areKin_h hk hM.1 (by omega) (by omega) (by omega)), h_if]
      cases q : k_kn (a_C A) l (6 + k) with
      | true => rw [if_neg (by decide), if_neg (by simp), nI_1]
      | false =>
        rw [if_pos (by decide), h_if]
        rcases q2 : d_b (a_C A) (a_s A) T l k with _ | x
        · rw [oI_none, if_pos rfl, if_pos (by simp [d_bt]), nI_1]; rfl
        · have hx := d_b_lt q2
          have l1 := (hl9 (6 * l + (6 + k) % 6) (by omega)).1
          have l2 := (hl9 (6 * l + (6 + x) % 6) (by omega)).1
          rw [oI_some, if_neg (nI_nm1 (by omega)), gr_215_52, rc_215, h_ci (X12_likingAt_h (by omega) (by omega)), la_255 (by omega), (hlik ((6 + k) % 6) (by omega)).1, gr_215_52, nI_add, rc_215, h_ci (X12_likingAt_h (by omega) (by omega)), la_255 (by omega), (hlik ((6 + x) % 6) (by omega)).1, h_if]
          simp only [nI_le' (show s_lik (a_s A) (6 * l + (6 + k) % 6) < 2147483648 by omega) (show s_lik (a_s A) (6 * l + (6 + x) % 6) < 2147483648 by omega)]
          by_cases c3 : s_lik (a_s A) (6 * l + (6 + k) % 6) ≤ s_lik (a_s A) (6 * l + (6 + x) % 6)
          · rw [if_pos c3, if_neg (by rw [d_bt_s]; intro e; have := e.2; omega), nI_1]; rfl
          · rw [if_neg c3, if_pos ⟨rfl, d_bt_s.mpr (by omega)⟩, nI_1]; rfl
    · rw [if_neg (show ¬ nI (b_k (T.2 l) k) = 0 from fun e => c ((nI_inj (b := 0) (by omega) (by omega)).mp e)), if_neg (by simp [c]), nI_1]
theorem X12_nx_h (hok : okA A) (hM : RelM I L A) {T : dT} (hD : dM I T) {l : Nat} (hl : l < k_L (a_C A)) : X12_nextFor 215 (nI l) (hp I L ρ) = some (some (.int (oI (d_b (a_C A) (a_s A) T l (k_R (a_C A))))), hp I L ρ) :=
  X12_nx_k hok hM hD hl (k_R (a_C A)) 0 zFU (by omega) (by have := hok.1.1; unfold zFU; omega)
theorem X12_st_w (hok : okA A) (hM : RelM I L A) {T : dT} (hT : okD T) (hD : dM I T) : ∀ (m l fuel : Nat), l + m = k_L (a_C A) → m < fuel → z_fix (fun r x => X12_isAsking_B2 215 r x) fuel (nI l) (hp I L ρ) = (match d_w (a_C A) (a_s A) T m l with | none => some (some (.int 0), hp I L ρ) | some q => X12_isAsking_J39 215 (nI q.1) (nI q.2) (hp I L ρ)) := by
  have hk := hok.1
  have h12 := hk.1
  intro m
  induction m with
  | zero =>
    intro l fuel h1 h2
    obtain ⟨f, rfl⟩ : ∃ f, fuel = f + 1 := ⟨fuel - 1, by omega⟩
    rw [h_fix]
    show X12_isAsking_B2 215 _ (nI l) (hp I L ρ) = some (some (.int 0), hp I L ρ)
    unfold X12_isAsking_B2
    rw [rc_215, h_ci (X12_side0 hM.1), h_if, if_pos (nI_le (by omega) (by omega)), h_rb0]
  | succ m ih =>
    intro l fuel h1 h2
    obtain ⟨f, rfl⟩ : ∃ f, fuel = f + 1 := ⟨fuel - 1, by omega⟩
    have hi := ih (l + 1) f (by omega) (by omega)
    rw [h_fix]
    have e1 : ∀ rec : Int32 → zM, X12_isAsking_B2 215 rec (nI l) (hp I L ρ) = X12_isAsking_J30 rec 215 (nI l) (oI (d_d (a_C A) (a_s A) T l)) (hp I L ρ) := by
      intro rec
      unfold X12_isAsking_B2
      rw [rc_215, h_ci (X12_side0 hM.1), h_if, if_neg (nI_ge (by omega) (by omega)), gr_215_69, la_262 (by omega), hD.1 l (by omega), h_if]
      unfold d_d
      rcases q : T.1 l with _ | y
      · rw [oI_none, if_pos rfl, if_pos rfl, rc_215, h_ci (X12_nx_h hok hM hD (by omega))]
      · have := hT.1 l y q
        rw [oI_some, if_neg (nI_nm1 (by omega)), if_neg (by simp)]; rfl
    show X12_isAsking_B2 215 _ (nI l) (hp I L ρ) = _
    rw [e1]
    unfold X12_isAsking_J30 d_w
    rw [h_if]
    rcases q : d_d (a_C A) (a_s A) T l with _ | k
    · rw [oI_none, if_pos rfl, nI_1]
      exact hi
    · have hk6 : k < k_R (a_C A) := by
        unfold d_d at q
        by_cases c : T.1 l = none
        · rw [if_pos c] at q; exact d_b_lt q
        · rw [if_neg c] at q; cases q
      rw [oI_some, if_neg (nI_nm1 (by omega))]
theorem X12_st_J39 (hok : okA A) (hM : RelM I L A) {T : dT} (hT : okD T) (hD : dM I T) {l k : Nat} (hl : l < k_L (a_C A)) (hk6 : k < k_R (a_C A)) (hn : T.1 l = none) : ∃ I', X12_isAsking_J39 215 (nI l) (nI k) (hp I L ρ) = some (some (.int 1), hp I' L ρ) ∧ (∀ x, x ≠ 262 → x ≠ 263 → I' x = I x) ∧ dM I' (d_st (a_s A) T (l, k)) := by
  have hk := hok.1
  have h12 := hk.1
  have hlik := (hM.2.2.2.1.1.1.2.2 (6 + k) (Or.inr ⟨by omega, by omega⟩)).2.2
  have hl9 := hok.2.2.1.1.2.2.2.2.2
  have hS := hT.2 l (by omega)
  have h263 : ∀ (f : Nat → Nat → Int32), (∀ j, f 263 j = u2 I 263 (6 * l + k) 1 263 j) → ∀ i j, i < 6 → j < 6 → f 263 (6 * i + j) = nI (b_k (if i = l then m_set (T.2 i) k else T.2 i) j) := by
    intro f hf i j hi hj
    rw [hf, u2_ap]
    by_cases c : i = l
    · rw [if_pos c, c, m_set_at k (by omega) _ hS j hj]
      by_cases c2 : j = k
      · rw [if_pos ⟨rfl, by omega⟩, if_pos c2]; rfl
      · rw [if_neg (by omega), if_neg c2, hD.2 l j (by omega) hj]
    · rw [if_neg (by omega), if_neg c, hD.2 i j hi hj]
  have e1 : X12_isAsking_J39 215 (nI l) (nI k) (hp I L ρ) = (match T.1 (6 + k) with
      | none => X12_isAsking_J99 215 (nI l) (nI k) (-1) (hp (u2 I 263 (6 * l + k) 1) L ρ)
      | some y => if s_lik (a_s A) (6 * (6 + k) + y % 6) < s_lik (a_s A) (6 * (6 + k) + l % 6) then X12_isAsking_J99 215 (nI l) (nI k) (nI y) (hp (u2 I 263 (6 * l + k) 1) L ρ) else some (some (.int 1), hp (u2 I 263 (6 * l + k) 1) L ρ)) := by
    unfold X12_isAsking_J39
    rw [gr_215_70, show (6 : Int32) = nI 6 from rfl, pk_mul, nI_add, sa_263 (by omega), show vp_nar .boolean 1 = (1 : Int32) from rfl, gr_215_69, nI_add, la_262 (by omega), show u2 I 263 (6 * l + k) 1 262 (6 + k) = I 262 (6 + k) by rw [u2_ap, if_neg (by omega)], hD.1 _ (by omega), h_if]
    rcases q : T.1 (6 + k) with _ | y
    · rw [oI_none, if_pos rfl]
    · have hy := hT.1 _ _ q
      have l1 := (hl9 (6 * (6 + k) + l % 6) (by omega)).1
      have l2 := (hl9 (6 * (6 + k) + y % 6) (by omega)).1
      have f255 : ∀ j, u2 I 263 (6 * l + k) 1 255 j = I 255 j := fun j => by rw [u2_ap, if_neg (by omega)]
      rw [oI_some, if_neg (nI_nm1 (by omega)), gr_215_52, rc_215, h_ci (X12_likingAt_h (by omega) (by omega)), la_255 (by omega), gr_215_52, rc_215, h_ci (X12_likingAt_h (by omega) (by omega)), la_255 (by omega), f255, f255, (hlik (l % 6) (by omega)).1, (hlik (y % 6) (by omega)).1, h_if, h_rb1]
      simp only [nI_lt' (show s_lik (a_s A) (6 * (6 + k) + y % 6) < 2147483648 by omega) (show s_lik (a_s A) (6 * (6 + k) + l % 6) < 2147483648 by omega)]
  rw [e1]
  show ∃ I' : Nat → Nat → Int32, _ ∧ _ ∧ (∀ x, x < 12 → I' 262 x = oI (d_mv (a_s A) T l k x)) ∧ ∀ i j, i < 6 → j < 6 → I' 263 (6 * i + j) = nI (b_k (if i = l then m_set (T.2 i) k else T.2 i) j)
  unfold d_mv
  rcases q : T.1 (6 + k) with _ | y
  · refine ⟨u2 (u2 (u2 I 263 (6 * l + k) 1) 262 (6 + k) (nI l)) 262 l (nI (6 + k)), ?_, fun x h1 h2 => by rw [u2r h1, u2r h1, u2r h2], ?_, h263 _ (fun j => by rw [u2r (by omega), u2r (by omega)])⟩
    · show X12_isAsking_J99 215 (nI l) (nI k) (-1) _ = _
      unfold X12_isAsking_J99 X12_isAsking_J111
      rw [h_if, if_pos rfl, gr_215_69, show (6 : Int32) = nI 6 from rfl, nI_add, sa_262 (by omega), gr_215_69, sa_262 (by omega), h_rb1]
    · intro x hx
      show _ = oI (d_m2 T.1 l (6 + k) x)
      unfold d_m2
      rw [u2_ap]
      by_cases c1 : x = l
      · rw [if_pos ⟨rfl, c1⟩, if_neg (by omega), if_pos c1]; rfl
      · rw [if_neg (by omega), u2_ap]
        by_cases c2 : x = 6 + k
        · rw [if_pos ⟨rfl, c2⟩, if_pos c2]; rfl
        · rw [if_neg (by omega), if_neg c2, if_neg c1, u2_ap, if_neg (by omega), hD.1 x hx]
  · have hy := hT.1 _ _ q
    have hyl : y ≠ l := fun c => by rw [c, hn] at hy; exact absurd hy.2.2.2 (by simp)
    show ∃ I' : Nat → Nat → Int32, (if s_lik (a_s A) (6 * (6 + k) + y % 6) < s_lik (a_s A) (6 * (6 + k) + l % 6) then _ else _) = _ ∧ _ ∧ (∀ x, x < 12 → I' 262 x = oI ((if s_lik (a_s A) (6 * (6 + k) + y % 6) < s_lik (a_s A) (6 * (6 + k) + l % 6) then (fun x => if x = y then none else d_m2 T.1 l (6 + k) x) else T.1) x)) ∧ _
    by_cases c : s_lik (a_s A) (6 * (6 + k) + y % 6) < s_lik (a_s A) (6 * (6 + k) + l % 6)
    · simp only [if_pos c]
      refine ⟨u2 (u2 (u2 (u2 I 263 (6 * l + k) 1) 262 y (-1)) 262 (6 + k) (nI l)) 262 l (nI (6 + k)), ?_, fun x h1 h2 => by rw [u2r h1, u2r h1, u2r h1, u2r h2], ?_, h263 _ (fun j => by rw [u2r (by omega), u2r (by omega), u2r (by omega)])⟩
      · unfold X12_isAsking_J99 X12_isAsking_J111
        rw [h_if, if_neg (nI_nm1 (by omega)), gr_215_69, sa_262 (by omega), gr_215_69, show (6 : Int32) = nI 6 from rfl, nI_add, sa_262 (by omega), gr_215_69, sa_262 (by omega), h_rb1]
      · intro x hx
        unfold d_m2
        rw [u2_ap]
        by_cases c1 : x = l
        · rw [if_pos ⟨rfl, c1⟩, if_neg (by omega), if_neg (by omega), if_pos c1]; rfl
        · rw [if_neg (by omega), u2_ap]
          by_cases c2 : x = 6 + k
          · rw [if_pos ⟨rfl, c2⟩, if_neg (by omega), if_pos c2]; rfl
          · rw [if_neg (by omega), u2_ap]
            by_cases c0 : x = y
            · rw [if_pos ⟨rfl, c0⟩, if_pos c0]; rfl
            · rw [if_neg (by omega), if_neg c0, if_neg c2, if_neg c1, u2_ap, if_neg (by omega), hD.1 x hx]
    · simp only [if_neg c]
      exact ⟨u2 I 263 (6 * l + k) 1, rfl, fun x h1 h2 => u2r h2, fun x hx => by rw [u2_ap, if_neg (by omega)]; exact hD.1 x hx, h263 _ (fun _ => rfl)⟩
theorem X12_st_run (hok : okA A) {v1 : Int32} : ∀ (n i fuel : Nat) (I : Nat → Nat → Int32) (T : dT), i + n = 37 → n + 1 < fuel → RelM I L A → okD T → dM I T → d_ct T = i → ∃ I', z_fix (fun r x => X12_steady_B55 215 v1 r x) fuel 1 (hp I L ρ) = X12_steady_J67 215 v1 (hp I' L ρ) ∧ (∀ x, x ≠ 262 → x ≠ 263 → I' x = I x) ∧ dM I' (d_run (a_C A) (a_s A) n T) := by
  have h12 := hok.1.1
  intro n
  induction n with
  | zero =>
    intro i fuel I T h1 h2 hM hT hD hc
    have := d_ct_le T
    omega
  | succ n ih =>
    intro i fuel I T h1 h2 hM hT hD hc
    obtain ⟨f, rfl⟩ : ∃ f, fuel = f + 2 := ⟨fuel - 2, by omega⟩
    have hw : X12_isAsking 215 (hp I L ρ) = _ := X12_st_w (L := L) (ρ := ρ) hok hM hT hD (k_L (a_C A)) 0 zFU (by omega) (by unfold zFU; omega)
    have e0 : ∀ {r : Int32} {h1 : zH}, X12_isAsking 215 (hp I L ρ) = some (some (.int r), h1) → z_fix (fun r x => X12_steady_B55 215 v1 r x) (f + 2) 1 (hp I L ρ) = z_fix (fun r x => X12_steady_B55 215 v1 r x) (f + 1) r h1 := by
      intro r h1 e
      rw [h_fix]
      show X12_steady_B55 215 v1 _ 1 (hp I L ρ) = _
      unfold X12_steady_B55
      rw [h_if, if_neg (by decide), rc_215, h_ci e]
    unfold d_run
    rcases q : d_w (a_C A) (a_s A) T (k_L (a_C A)) 0 with _ | w
    · rw [q] at hw
      refine ⟨I, ?_, fun _ _ _ => rfl, hD⟩
      rw [e0 hw, h_fix]
      show X12_steady_B55 215 v1 _ 0 (hp I L ρ) = _
      unfold X12_steady_B55
      rw [h_if, if_pos rfl]
    · rw [q] at hw
      obtain ⟨w1, w2, w3, w4⟩ := d_w_in q
      obtain ⟨I1, f1, f2, f3⟩ := X12_st_J39 (L := L) (ρ := ρ) hok hM hT hD (l := w.1) (k := w.2) (by omega) (by omega) w2
      have hw2 : X12_isAsking 215 (hp I L ρ) = some (some (.int 1), hp I1 L ρ) := hw.trans f1
      obtain ⟨I', r1, r2, r3⟩ := ih (i + 1) (f + 1) I1 _ (by omega) (by omega) (RelM_262 hM f2) (okD_st (s := a_s A) hT (q := w) (by omega) (by omega) w2) f3 (by rw [d_ct_st hT (by omega) (by omega) w4, hc])
      refine ⟨I', ?_, fun x h1 h2 => by rw [r2 x h1 h2, f2 x h1 h2], r3⟩
      rw [e0 hw2, ← r1]
theorem X12_st_i1 {v1 : Int32} : ∀ (m k fuel : Nat) (I : Nat → Nat → Int32), k + m = 12 → m < fuel → (∀ x, x < k → I 262 x = -1) → ∃ I', z_fix (fun r x => X12_steady_B13 215 v1 r x) fuel (nI k) (hp I L ρ) = X12_steady_J32 215 v1 (hp I' L ρ) ∧ (∀ x, x ≠ 262 → I' x = I x) ∧ ∀ x, x < 12 → I' 262 x = -1 := by
  intro m
  induction m with
  | zero =>
    intro k fuel I h1 h2 h3
    obtain ⟨f, rfl⟩ : ∃ f, fuel = f + 1 := ⟨fuel - 1, by omega⟩
    obtain rfl : k = 12 := by omega
    refine ⟨I, ?_, fun _ _ => rfl, h3⟩
    rw [h_fix]
    show X12_steady_B13 215 v1 _ (nI 12) _ = _
    unfold X12_steady_B13
    rw [h_if, if_pos (by decide)]
  | succ m ih =>
    intro k fuel I h1 h2 h3
    obtain ⟨f, rfl⟩ : ∃ f, fuel = f + 1 := ⟨fuel - 1, by omega⟩
    obtain ⟨I', r1, r2, r3⟩ := ih (k + 1) f (u2 I 262 k (-1)) (by omega) (by omega) (fun x hx => by
      rw [u2_ap]
      by_cases c : x = k
      · rw [if_pos ⟨rfl, c⟩]
      · rw [if_neg (by omega)]; exact h3 x (by omega))
    refine ⟨I', ?_, fun x hx => by rw [r2 x hx, u2r hx], r3⟩
    rw [h_fix, ← r1]
    show X12_steady_B13 215 v1 _ (nI k) _ = _
    unfold X12_steady_B13
    rw [h_if, if_neg (by rw [show (12 : Int32) = nI 12 from rfl, nI_le' (by omega) (by omega)]; omega), gr_215_69, sa_262 (by omega), nI_1]
theorem X12_st_i2 {v1 : Int32} : ∀ (m k fuel : Nat) (I : Nat → Nat → Int32), k + m = 36 → m < fuel → (∀ x, x < k → I 263 x = 0) → ∃ I', z_fix (fun r x => X12_steady_B34 215 v1 r x) fuel (nI k) (hp I L ρ) = X12_steady_J53 215 v1 (hp I' L ρ) ∧ (∀ x, x ≠ 263 → I' x = I x) ∧ ∀ x, x < 36 → I' 263 x = 0 := by
  intro m
  induction m with
  | zero =>
    intro k fuel I h1 h2 h3
    obtain ⟨f, rfl⟩ : ∃ f, fuel = f + 1 := ⟨fuel - 1, by omega⟩
    obtain rfl : k = 36 := by omega
    refine ⟨I, ?_, fun _ _ => rfl, h3⟩
    rw [h_fix]
    show X12_steady_B34 215 v1 _ (nI 36) _ = _
    unfold X12_steady_B34
    rw [h_if, if_pos (by decide)]
  | succ m ih =>
    intro k fuel I h1 h2 h3
    obtain ⟨f, rfl⟩ : ∃ f, fuel = f + 1 := ⟨fuel - 1, by omega⟩
    obtain ⟨I', r1, r2, r3⟩ := ih (k + 1) f (u2 I 263 k 0) (by omega) (by omega) (fun x hx => by
      rw [u2_ap]
      by_cases c : x = k
      · rw [if_pos ⟨rfl, c⟩]
      · rw [if_neg (by omega)]; exact h3 x (by omega))
    refine ⟨I', ?_, fun x hx => by rw [r2 x hx, u2r hx], r3⟩
    rw [h_fix, ← r1]
    show X12_steady_B34 215 v1 _ (nI k) _ = _
    unfold X12_steady_B34
    rw [h_if, if_neg (by rw [show (36 : Int32) = nI 36 from rfl, nI_le' (by omega) (by omega)]; omega), gr_215_70, sa_263 (by omega), show vp_nar .boolean 0 = (0 : Int32) from rfl, nI_1]
theorem d_all_in (hok : okA A) {a b : Nat} (h : (d_all A).1 a = some b) : b < 12 := ((okD_run (s := a_s A) hok.1.1 37 d_0 d_0_ok).1 a b h).2.1
theorem steady_b (hok : okA A) (v : Int32) : both (X11_steady 0 v) (X12_steady 215 v) A N := by
  have hk := hok.1
  rcases k_sl_c hk v with ⟨q, -⟩ | ⟨a, p, q, rfl, q2, q3, q4, q5, q6⟩
  · refine both_still hok (.int (-1)) (fun I L ρ hX => ?_) (fun I L ρ hM => ?_)
    · unfold X11_steady
      rw [gr_0_5, rcc (cu_ρ hX), h_ci (XC_slot hX hk _), q, oI_none, h_if, if_pos rfl]; rfl
    · unfold X12_steady
      rw [rc_215, h_ci (X12_isPerson_v hk hM.1 _), q, bI_none, h_if, if_pos rfl]; rfl
  · refine both_same hok (.int (oI (((d_all A).1 a).map (k_num (a_C A))))) (fun I L ρ hX => ?_) (fun I L ρ hM => ?_)
    · obtain ⟨I', e1, e2, e3⟩ := X5_steady_h hok hX
      have hX1 : RelX I' L ρ A N := RelX_fr (fun x hx => e2 x (by unfold lastX at hx; omega) (by unfold lastX at hx; omega)) rfl (Nat.le_refl _) hX
      refine ⟨I', ?_, fun x hx => e2 x (by unfold lastX at hx; omega) (by unfold lastX at hx; omega)⟩
      unfold X11_steady
      rw [gr_0_5, rcc (cu_ρ hX), h_ci (XC_slot hX hk _), q, oI_some, h_if, if_neg (nI_nm1 (by omega)), gr_0_10, gr_0_5, gr_0_7, rc_63, h_cv e1, gr_0_5, gr_0_10, gr_63_0, la_64 q6, e3.1 a q6, rcc (cu_ρ hX1), h_ci (XC_number hX1 hk (fun b hb => d_all_in hok hb))]; rfl
    · obtain ⟨I1, a1, a2, a3⟩ := X12_st_i1 (L := L) (ρ := ρ) (v1 := nI p) 12 0 zFU I (by omega) (by unfold zFU; omega) (fun x hx => absurd hx (by omega))
      obtain ⟨I2, b1, b2, b3⟩ := X12_st_i2 (L := L) (ρ := ρ) (v1 := nI p) 36 0 zFU I1 (by omega) (by unfold zFU; omega) (fun x hx => absurd hx (by omega))
      have hM2 : RelM I2 L A := RelM_262 hM (fun x h1 h2 => by rw [b2 x h2, a2 x h1])
      obtain ⟨I3, c1, c2, c3⟩ := X12_st_run (L := L) (ρ := ρ) hok (v1 := nI p) 37 0 zFU I2 d_0 (by omega) (by unfold zFU; omega) hM2 d_0_ok ⟨fun x hx => by rw [b2 262 (by omega)]; exact a3 x hx, fun l k hl hk6 => by rw [b3 _ (by omega), show d_0.2 l = 0 from rfl, show b_k 0 k = 0 by unfold b_k; simp]; rfl⟩ d_0_ct
      have hM3 : RelM I3 L A := RelM_262 hM2 c2
      have fr : ∀ x, x ≠ 262 → x ≠ 263 → I3 x = I x := fun x h1 h2 => by rw [c2 x h1 h2, b2 x h2, a2 x h1]
      refine ⟨I3, L, ?_, fun x hx => fr x (by unfold lastM at hx; omega) (by unfold lastM at hx; omega), fun k _ => by rw [fr 215 (by omega) (by omega)], fun _ _ => rfl⟩
      have a1' : z_fix (fun r x => X12_steady_B13 215 (nI p) r x) zFU 0 (hp I L ρ) = X12_steady_J32 215 (nI p) (hp I1 L ρ) := a1
      have b1' : X12_steady_J32 215 (nI p) (hp I1 L ρ) = X12_steady_J53 215 (nI p) (hp I2 L ρ) := b1
      have c1' : X12_steady_J53 215 (nI p) (hp I2 L ρ) = X12_steady_J67 215 (nI p) (hp I3 L ρ) := c1
      unfold X12_steady
      rw [rc_215, h_ci (X12_isPerson_v hk hM.1 _), q, bI_some, h_if, if_neg (by decide), a1', b1', c1']
      unfold X12_steady_J67
      have h12 := hk.1
      rw [gr_215_69, rc_215, h_ci (X12_codeOf_h hk hM3.1 (by omega)), ← q3, la_262 q6, c3.1 a q6, show d_run (a_C A) (a_s A) 37 d_0 = d_all A from rfl, rc_215, h_ci (X12_told_h hk hM3.1 (fun b hb => d_all_in hok hb))]; rfl
end B5p
