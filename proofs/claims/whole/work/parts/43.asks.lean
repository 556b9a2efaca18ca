/-! calls that only ask: kept, has, letter, person, pair -/
section B43
variable {I : Nat → Nat → Int32} {L : Nat → Nat → Int64} {ρ : zRh} {h : zH} {A : aT} {N : Nat} {C : cT} {s : sT}
/-- both answer alike, and hold the same again -/
def both (g f : zM) (A : aT) (N : Nat) : Prop := ∃ r A' N', (∀ I L ρ, RelX I L ρ A N → runX g I L ρ r A' N') ∧ (∀ I L ρ, RelM I L A → runM f I L ρ r A') ∧ okA A' ∧ N' ≤ N + 600
theorem both_same {g f : zM} (hok : okA A) (r : Value) (h1 : ∀ I L ρ, RelX I L ρ A N → ∃ I', g (hp I L ρ) = some (some r, hp I' L ρ) ∧ ∀ a, lastX a ∨ 215 ≤ a → I' a = I a) (h2 : ∀ I L ρ, RelM I L A → ∃ I' L', f (hp I L ρ) = some (some r, hp I' L' ρ) ∧ (∀ a, lastM a ∨ a < 215 → I' a = I a) ∧ (∀ k, fieldM k → I' 215 k = I 215 k) ∧ ∀ a, a ≠ 295 → L' a = L a) : both g f A N := by
  refine ⟨r, A, N, fun I L ρ hX => ?_, fun I L ρ hM => ?_, hok, by omega⟩
  · obtain ⟨I', e, fr⟩ := h1 I L ρ hX
    exact runX_same hX e fr
  · obtain ⟨I', L', e, f1, f2, f3⟩ := h2 I L ρ hM
    exact runM_same hM e f1 f2 f3
/-- where neither changes a thing -/
theorem both_still {g f : zM} (hok : okA A) (r : Value) (h1 : ∀ I L ρ, RelX I L ρ A N → g (hp I L ρ) = some (some r, hp I L ρ)) (h2 : ∀ I L ρ, RelM I L A → f (hp I L ρ) = some (some r, hp I L ρ)) : both g f A N :=
  both_same hok r (fun I L ρ hX => ⟨I, h1 I L ρ hX, fun _ _ => rfl⟩) (fun I L ρ hM => ⟨I, L, h2 I L ρ hM, fun _ _ => rfl, fun _ _ => rfl, fun _ _ => rfl⟩)
theorem fault_b (hok : okA A) (v : Int32) : both (X11_fault 0 v) (X12_fault 215 v) A N := ⟨_, _, N, fun _ _ _ hX => X11_fault_r hX v, fun _ _ _ hM => X12_fault_r hM v, hok, by omega⟩
theorem status_b (hok : okA A) (v : Int32) : both (X11_status 0 v) (X12_status 215 v) A N := ⟨_, _, N, fun _ _ _ hX => X11_status_r hX v, fun _ _ _ hM => X12_status_r hM v, hok, by omega⟩
theorem octet_b (hok : okA A) (v : Int32) : both (X11_octet 0 v) (X12_octet 215 v) A N := ⟨_, _, N, fun _ _ _ hX => X11_octet_r hok hX v, fun _ _ _ hM => X12_octet_r hok hM v, hok, by omega⟩
theorem seed_b (hok : okA A) (v : Int32) : both (X11_seed 0 v) (X12_seed 215 v) A N := ⟨_, _, N, fun _ _ _ hX => X11_seed_r hX v, fun _ _ _ hM => X12_seed_r hM v, seed_ok hok v, by omega⟩
theorem end_b (hok : okA A) (v : Int32) : both (X11_end 0 v) (X12_end 215 v) A N := ⟨_, _, N, fun _ _ _ hX => X11_end_r hok hX v, fun _ _ _ hM => X12_end_r hok hM v, end_ok hok v, by omega⟩
theorem feed_b (hok : okA A) (a b c d e : Int32) : both (X11_feed 0 a b c d e) (X12_feed 215 a b c d e) A N := ⟨_, _, N, fun _ _ _ hX => X11_feed_r hok hX a b c d e, fun _ _ _ hM => X12_feed_r hok hM a b c d e, feed_ok hok a b c d e, by omega⟩
/-! the church that is, whichever it is -/
theorem cu_ρ (hX : RelX I L ρ A N) : ρ.1 = 13 ∨ ρ.1 = 27 := by
  rcases hX.1 with h1 | h1
  · exact Or.inl h1.1.1
  · exact Or.inr h1.1.1
theorem cu_ch (hX : RelX I L ρ A N) : chX ρ.1 I (a_C A) := by
  rcases hX.1 with h1 | h1
  · rw [h1.1.1]; exact h1.2.1
  · rw [h1.1.1]; exact h1.2.1
theorem cu_w (hX : RelX I L ρ A N) : ρ.2.2.1 = ρ.1 := by
  rcases hX.1 with h1 | h1
  · rw [h1.1.1]; exact h1.1.2.2
  · rw [h1.1.1]; exact h1.1.2.2
theorem cu_nm (hX : RelX I L ρ A N) : I ρ.1 6 = nI (a_kc A) ∧ ∀ a k, k_th (a_C A) a → k < 6 → I (ρ.1 + 2) (6 * a + k) = nI (a_nm A (6 * a + k)) := by
  rcases hX.1 with h1 | h1
  · rw [h1.1.1]; exact h1.2.2.1
  · rw [h1.1.1]; exact h1.2.2.1
theorem gc_0 {F : Nat → zM} (hρ : ρ.1 = 13 ∨ ρ.1 = 27) : z_gr 1 0 ρ.1 F (hp I L ρ) = F (ρ.1 + 1) (hp I L ρ) := by
  rcases hρ with e | e
  · rw [e]; exact gr_13_0
  · rw [e]; exact gr_27_0
theorem gc_1 {F : Nat → zM} (hρ : ρ.1 = 13 ∨ ρ.1 = 27) : z_gr 1 1 ρ.1 F (hp I L ρ) = F (ρ.1 + 2) (hp I L ρ) := by
  rcases hρ with e | e
  · rw [e]; exact gr_13_1
  · rw [e]; exact gr_27_1
theorem gc_2 {F : Nat → zM} (hρ : ρ.1 = 13 ∨ ρ.1 = 27) : z_gr 1 2 ρ.1 F (hp I L ρ) = F (ρ.1 + 3) (hp I L ρ) := by
  rcases hρ with e | e
  · rw [e]; exact gr_13_2
  · rw [e]; exact gr_27_2
theorem gc_3 {F : Nat → zM} (hρ : ρ.1 = 13 ∨ ρ.1 = 27) : z_gr 1 3 ρ.1 F (hp I L ρ) = F (ρ.1 + 4) (hp I L ρ) := by
  rcases hρ with e | e
  · rw [e]; exact gr_13_3
  · rw [e]; exact gr_27_3
theorem gc_4 {F : Nat → zM} (hρ : ρ.1 = 13 ∨ ρ.1 = 27) : z_gr 1 4 ρ.1 F (hp I L ρ) = F (ρ.1 + 5) (hp I L ρ) := by
  rcases hρ with e | e
  · rw [e]; exact gr_13_4
  · rw [e]; exact gr_27_4
theorem gc_5 {F : Nat → zM} (hρ : ρ.1 = 13 ∨ ρ.1 = 27) : z_gr 1 5 ρ.1 F (hp I L ρ) = F (ρ.1 + 6) (hp I L ρ) := by
  rcases hρ with e | e
  · rw [e]; exact gr_13_5
  · rw [e]; exact gr_27_5
theorem gc_7 {F : Nat → zM} (hρ : ρ.1 = 13 ∨ ρ.1 = 27) : z_gr 1 7 ρ.1 F (hp I L ρ) = F (ρ.1 + 7) (hp I L ρ) := by
  rcases hρ with e | e
  · rw [e]; exact gr_13_7
  · rw [e]; exact gr_27_7
theorem gc_8 {F : Nat → zM} (hρ : ρ.1 = 13 ∨ ρ.1 = 27) : z_gr 1 8 ρ.1 F (hp I L ρ) = F (ρ.1 + 8) (hp I L ρ) := by
  rcases hρ with e | e
  · rw [e]; exact gr_13_8
  · rw [e]; exact gr_27_8
theorem gic {F : Int32 → zM} {k : Nat} (hρ : ρ.1 = 13 ∨ ρ.1 = 27) : z_gi 1 k ρ.1 F (hp I L ρ) = F (I ρ.1 k) (hp I L ρ) := by
  rcases hρ with e | e
  · rw [e]; exact gi_13
  · rw [e]; exact gi_27
theorem rcc {f : zM} (hρ : ρ.1 = 13 ∨ ρ.1 = 27) : z_rc 1 ρ.1 f (hp I L ρ) = f (hp I L ρ) := by
  rcases hρ with e | e
  · rw [e]; exact rc_13
  · rw [e]; exact rc_27
theorem lac_1 {F : Int32 → zM} {j : Nat} (hρ : ρ.1 = 13 ∨ ρ.1 = 27) (hj : j < 2) : z_la 20 (ρ.1 + 1) (nI j) F (hp I L ρ) = F (I (ρ.1 + 1) j) (hp I L ρ) := by
  rcases hρ with e | e
  · rw [e]; exact la_14 hj
  · rw [e]; exact la_28 hj
theorem lac_2 {F : Int32 → zM} {j : Nat} (hρ : ρ.1 = 13 ∨ ρ.1 = 27) (hj : j < 72) : z_la 20 (ρ.1 + 2) (nI j) F (hp I L ρ) = F (I (ρ.1 + 2) j) (hp I L ρ) := by
  rcases hρ with e | e
  · rw [e]; exact la_15 hj
  · rw [e]; exact la_29 hj
theorem lac_3 {F : Int32 → zM} {j : Nat} (hρ : ρ.1 = 13 ∨ ρ.1 = 27) (hj : j < 12) : z_la 20 (ρ.1 + 3) (nI j) F (hp I L ρ) = F (I (ρ.1 + 3) j) (hp I L ρ) := by
  rcases hρ with e | e
  · rw [e]; exact la_16 hj
  · rw [e]; exact la_30 hj
theorem lac_4 {F : Int32 → zM} {j : Nat} (hρ : ρ.1 = 13 ∨ ρ.1 = 27) (hj : j < 12) : z_la 20 (ρ.1 + 4) (nI j) F (hp I L ρ) = F (I (ρ.1 + 4) j) (hp I L ρ) := by
  rcases hρ with e | e
  · rw [e]; exact la_17 hj
  · rw [e]; exact la_31 hj
theorem lac_5 {F : Int32 → zM} {j : Nat} (hρ : ρ.1 = 13 ∨ ρ.1 = 27) (hj : j < 12) : z_la 20 (ρ.1 + 5) (nI j) F (hp I L ρ) = F (I (ρ.1 + 5) j) (hp I L ρ) := by
  rcases hρ with e | e
  · rw [e]; exact la_18 hj
  · rw [e]; exact la_32 hj
theorem XC_slot (hX : RelX I L ρ A N) (hk : okC (a_C A)) (v : Int32) : X1_slot ρ.1 v (hp I L ρ) = some (some (.int (oI (k_sl (a_C A) v))), hp I L ρ) := by
  have hC := cu_ch hX
  rcases cu_ρ hX with e | e
  · rw [e] at hC ⊢; exact X1_slot_13 hC hk v
  · rw [e] at hC ⊢; exact X1_slot_27 hC hk v
theorem XC_number (hX : RelX I L ρ A N) (hk : okC (a_C A)) {o : Option Nat} (ho : ∀ a, o = some a → a < 12) : X1_number ρ.1 (oI o) (hp I L ρ) = some (some (.int (oI (o.map (k_num (a_C A))))), hp I L ρ) := by
  have hC := cu_ch hX
  rcases cu_ρ hX with e | e
  · rw [e] at hC ⊢; exact X1_number_13 hC hk ho
  · rw [e] at hC ⊢; exact X1_number_27 hC hk ho
theorem XC_areKin (hX : RelX I L ρ A N) {a b : Nat} (ha : a < 12) (hb : b < 12) : X1_areKin ρ.1 (nI a) (nI b) (hp I L ρ) = some (some (.int (bI (k_kn (a_C A) a b))), hp I L ρ) := by
  have hC := cu_ch hX
  rcases cu_ρ hX with e | e
  · rw [e] at hC ⊢; exact X1_areKin_13 hC ha hb
  · rw [e] at hC ⊢; exact X1_areKin_27 hC ha hb
def k_ac (C : cT) (v w : Int32) : Option Nat := match k_sl C v, k_sl C w with | some a, some b => if (a < 6 ↔ b < 6) then none else some b | _, _ => none
theorem k_sl_c (hk : okC C) (v : Int32) : (k_sl C v = none ∧ ¬ (0 ≤ v.toInt ∧ v.toInt < k_L C + k_R C)) ∨ ∃ a p, k_sl C v = some a ∧ v = nI p ∧ p < k_L C + k_R C ∧ a = k_cd C p ∧ k_th C a ∧ k_num C a = p ∧ a < 12 := by
  obtain ⟨⟨b1, b2⟩, -⟩ := id hk
  unfold k_sl
  by_cases c : v < 0
  · rw [if_pos c]
    rw [v_neg] at c
    exact Or.inl ⟨rfl, by omega⟩
  · rw [if_neg c]
    obtain ⟨p, hp1, rfl⟩ := Int32_of c
    rw [nI_clamp (by omega), nI_toI hp1]
    by_cases q : p < k_L C + k_R C
    · obtain ⟨q1, q2, q3⟩ := k_cd_th q hk
      exact Or.inr ⟨_, p, q3, rfl, q, rfl, q1, q2, k_th_lt hk q1⟩
    · refine Or.inl ⟨?_, by omega⟩
      unfold k_slot
      rw [if_neg (by omega), if_neg q]
theorem XC_across (hX : RelX I L ρ A N) (hk : okC (a_C A)) (v w : Int32) : X1_across ρ.1 (oI (k_sl (a_C A) v)) w (hp I L ρ) = some (some (.int (oI (k_ac (a_C A) v w))), hp I L ρ) := by
  have hC := cu_ch hX
  have ho : ∀ a, k_sl (a_C A) v = some a → a < 12 := by
    intro a ha
    rcases k_sl_c hk v with ⟨q, -⟩ | ⟨a', p, q, -, -, -, -, -, q2⟩
    · rw [q] at ha; simp at ha
    · rw [q] at ha; simp at ha; omega
  unfold k_ac
  generalize k_sl (a_C A) v = o at ho
  rcases cu_ρ hX with e | e
  · rw [e] at hC ⊢
    rw [X1_across_13 hC hk ho w]
    rcases o with _ | a
    · rfl
    · rcases k_sl (a_C A) w with _ | b <;> rfl
  · rw [e] at hC ⊢
    rw [X1_across_27 hC hk ho w]
    rcases o with _ | a
    · rfl
    · rcases k_sl (a_C A) w with _ | b <;> rfl
theorem bF : bI false = 0 := rfl
theorem bT : bI true = 1 := rfl
theorem bI_none : bI (none : Option Nat).isSome = 0 := rfl
theorem bI_some (a : Nat) : bI (some a).isSome = 1 := rfl
theorem X12_isPerson_v (hk : okC C) (hM : chM I C) (v : Int32) : X12_isPerson 215 v.toInt64 (hp I L ρ) = some (some (.int (bI (k_sl C v).isSome)), hp I L ρ) := by
  rw [i64_of, X12_isPerson_h hk hM (i32_in v)]
  rcases k_sl_c hk v with ⟨q, q1⟩ | ⟨a, p, q, rfl, q1, -⟩
  · rw [q, decide_eq_false q1]; rfl
  · have := hk.1
    rw [q, nI_toI (by omega), decide_eq_true (by omega)]; rfl
theorem X12_areTwo_v (hk : okC C) (hM : chM I C) (v w : Int32) : X12_areTwo 215 v.toInt64 w.toInt64 (hp I L ρ) = some (some (.int (bI (k_ac C v w).isSome)), hp I L ρ) := by
  have h12 := hk.1
  unfold X12_areTwo k_ac
  rw [rc_215, h_ci (X12_isPerson_v hk hM v), h_if]
  rcases k_sl_c hk v with ⟨q, q1⟩ | ⟨a, p, q, rfl, q1, q2, q3, q4, q5⟩
  · rw [q, bI_none, if_pos rfl, h_rb0]
  · rw [q, bI_some, if_neg (by decide), rc_215, h_ci (X12_isPerson_v hk hM w), h_if]
    rcases k_sl_c hk w with ⟨r, r1⟩ | ⟨b, o, r, rfl, r1, r2, r3, r4, r5⟩
    · rw [r, bI_none, if_pos rfl, h_rb0]
    · rw [r, bI_some, if_neg (by decide), Int32.toInt32_toInt64, Int32.toInt32_toInt64, rc_215, h_ci (X12_sideOf_h hk hM (by omega)), rc_215, h_ci (X12_sideOf_h hk hM (by omega)), h_if]
      have ea : k_L C ≤ p ↔ ¬ a < 6 := by rw [q2]; unfold k_cd; split <;> omega
      have eb : k_L C ≤ o ↔ ¬ b < 6 := by rw [r2]; unfold k_cd; split <;> omega
      simp only [ea, eb]
      by_cases ca : a < 6 <;> by_cases cb : b < 6 <;> simp [ca, cb, h_rb0, h_rb1, bI]
/-! kept -/
theorem nI_m1 (n : Nat) (hn : n < 1000000) : (nI n - 1 : Int32).toInt64 = cl ((n : Int) - 1) := by
  rw [ci_nat, show (1 : Int32) = ci 1 from rfl, ci_sub, cl_ci (by omega) (by omega)]
def p_cell (q : Nat × Nat × Nat × Nat) (j : Nat) : Nat := if j = 0 then q.1 else if j = 1 then q.2.1 else if j = 2 then q.2.2.1 else q.2.2.2
theorem X6_told_h (hX : RelX I L ρ A N) (hN : N < 1000000000) : X6_keptTold 68 (hp I L ρ) = some (some (.int (nI (a_K A).length)), hp I L ρ) := by
  obtain ⟨hw, nx, lg, κ, h1, h2, h3, h4, h5, h6⟩ := hX.2.2.2.1
  unfold X6_keptTold
  rw [gi_68, h1.1, h_ret]
  have := h4.1
  by_cases c : 40 < κ 0
  · rw [if_pos (show (40 : Int32) < nI (κ 0) from nI_lt (a := 40) c (by omega)), show (a_K A).length = 40 by omega]; rfl
  · rw [if_neg (show ¬ (40 : Int32) < nI (κ 0) from fun e => c ((nI_lt' (a := 40) (by omega) (by omega)).mp e)), show (a_K A).length = κ 0 by omega]
theorem X6_cell_h (hX : RelX I L ρ A N) (hN : N < 1000000000) {i j : Nat} {q : Nat × Nat × Nat × Nat} (hq : (a_K A)[i]? = some q) (hj : j ≤ 3) : X6_keptCell 68 (nI i) (nI j) (hp I L ρ) = some (some (.int (nI (p_cell q j))), hp I L ρ) := by
  have ht := X6_told_h hX hN
  obtain ⟨hw, nx, lg, κ, h1, h2, h3, h4, h5, h6⟩ := hX.2.2.2.1
  generalize κ 0 = ka at h1 h3 h4
  have hi := (List.getElem?_eq_some_iff.mp hq).1
  have hl := h4.1
  have hv := h4.2 i hi
  rw [hq] at hv
  have hm : (ka - (a_K A).length + i) % 160 < 160 := Nat.mod_lt _ (by omega)
  obtain ⟨q0, q1, q2, q3⟩ := h2 (ka - (a_K A).length + i) (by omega) (by omega)
  unfold X6_keptCell
  rw [gr_68_4, gi_68, h1.1, rc_68, h_ci ht, h_ck (by decide), pk_sub (by omega), nI_add, show (160 : Int32) = nI 160 from rfl, pk_rem (by omega) (by omega) (by omega), show (4 : Int32) = nI 4 from rfl, pk_mul, nI_add, la_71 (by omega), h_ret]
  unfold p_cell
  have hs : q = lg (ka - (a_K A).length + i) := by simpa using hv
  have hj2 : j = 0 ∨ j = 1 ∨ j = 2 ∨ j = 3 := by omega
  rcases hj2 with rfl | rfl | rfl | rfl
  · rw [if_pos rfl, hs, ← q0]; simp [Nat.mul_comm]
  · rw [if_neg (by omega), if_pos rfl, hs, ← q1]; simp [Nat.mul_comm]
  · rw [if_neg (by omega), if_neg (by omega), if_pos rfl, hs, ← q2]; simp [Nat.mul_comm]
  · rw [if_neg (by omega), if_neg (by omega), if_neg (by omega), hs, ← q3]; simp [Nat.mul_comm]
theorem kept_b (hok : okA A) (hN : N < 1000000000) (v w : Int32) : both (X11_kept 0 v w) (X12_kept 215 v w) A N := by
  have hK := hok.2.2.2.1
  have hK1 := hK.1
  -- the reference, as far as its first question
  have e1 : ∀ {I : Nat → Nat → Int32} {L : Nat → Nat → Int64} {ρ : zRh}, RelM I L A → X12_kept 215 v w (hp I L ρ) = (if 0 ≤ v.toInt ∧ v.toInt < (a_K A).length then z_ci (X12_isIn w.toInt64 0 3) (fun y4 => z_if (y4 = 0) (z_ret (some (.int ((-1))))) (z_gr 12 52 215 fun x5 => z_la 20 x5 ((183 + (4 * v)) + w) fun x6 => z_ret (some (.int x6)))) (hp I L ρ) else some (some (.int (-1)), hp I L ρ)) := by
    intro I L ρ hM
    unfold X12_kept
    rw [gr_215_52, show (182 : Int32) = nI 182 from rfl, la_255 (by omega), hM.2.2.2.1.2.1, i64_of, nI_m1 _ (by omega), show (0 : Int64) = cl 0 from rfl, h_ci (X12_isIn_h (i32_in v) (by omega) (by omega)), h_if]
    by_cases c : 0 ≤ v.toInt ∧ v.toInt < (a_K A).length
    · rw [if_pos c, decide_eq_true (by omega), if_neg (by decide)]
    · rw [if_neg c, decide_eq_false (by omega), bF, if_pos rfl]; rfl
  by_cases c1 : v < 0
  · refine both_still hok (.int (-1)) (fun I L ρ hX => ?_) (fun I L ρ hM => ?_)
    · unfold X11_kept
      rw [h_if, if_pos c1]; rfl
    · rw [v_neg] at c1
      rw [e1 hM, if_neg (by omega)]
  · obtain ⟨i, hi, rfl⟩ := Int32_of c1
    have hXk : ∀ {I : Nat → Nat → Int32} {L : Nat → Nat → Int64} {ρ : zRh}, RelX I L ρ A N → X11_kept 0 (nI i) w (hp I L ρ) = (if i < (a_K A).length then z_if (w < 0) (z_ret (some (.int ((-1))))) (z_if (w ≤ 3) (z_gr 11 11 0 fun x3 => z_rc 6 x3 (z_ci (X6_keptCell x3 (nI i) w) fun y4 => z_if (2 ≤ w) (z_gr 11 5 0 fun x5 => z_rc 1 x5 (z_ci (X1_number x5 y4) fun y6 => z_ret (some (.int y6)))) (z_ret (some (.int y4))))) (z_ret (some (.int ((-1)))))) (hp I L ρ) else some (some (.int (-1)), hp I L ρ)) := by
      intro I L ρ hX
      unfold X11_kept
      rw [h_if, if_neg c1, gr_0_11, rc_68, h_ci (X6_told_h hX hN), h_if]
      simp only [nI_le' (show (a_K A).length < 2147483648 by omega) hi]
      by_cases c : i < (a_K A).length
      · rw [if_pos c, if_neg (by omega)]
      · rw [if_neg c, if_pos (by omega)]; rfl
    rw [nI_toI hi] at e1
    by_cases c2 : i < (a_K A).length
    · obtain ⟨q, hq⟩ : ∃ q, (a_K A)[i]? = some q := ⟨_, List.getElem?_eq_getElem c2⟩
      have hq2 := hK.2 q (List.mem_of_getElem? hq)
      by_cases c3 : w < 0
      · refine both_still hok (.int (-1)) (fun I L ρ hX => ?_) (fun I L ρ hM => ?_)
        · rw [hXk hX, if_pos c2, h_if, if_pos c3]; rfl
        · rw [v_neg] at c3
          rw [e1 hM, if_pos (by omega), i64_of, show (0 : Int64) = cl 0 from rfl, h_ci (show X12_isIn _ _ 3 _ = _ from X12_isIn_h (b := 3) (i32_in w) (by omega) (by omega)), h_if, decide_eq_false (by omega), bF, if_pos rfl]; rfl
      · obtain ⟨j, hj, rfl⟩ := Int32_of c3
        by_cases c4 : j ≤ 3
        · refine both_still hok (.int (nI (if 2 ≤ j then k_num (a_C A) (p_cell q j) else p_cell q j))) (fun I L ρ hX => ?_) (fun I L ρ hM => ?_)
          · rw [hXk hX, if_pos c2, h_if, if_neg c3, h_if, if_pos (show nI j ≤ (3 : Int32) from nI_le (b := 3) c4 (by omega)), gr_0_11, rc_68, h_ci (X6_cell_h hX hN hq c4), h_if]
            by_cases c5 : 2 ≤ j
            · have hc : p_cell q j < 12 := by unfold p_cell; rw [if_neg (by omega), if_neg (by omega)]; split <;> omega
              rw [if_pos (show (2 : Int32) ≤ nI j from nI_le (a := 2) c5 (by omega)), gr_0_5, rcc (cu_ρ hX), h_ci (show X1_number _ (nI (p_cell q j)) _ = _ from XC_number (o := some (p_cell q j)) hX hok.1 (by intro a ha; simp at ha; omega)), if_pos c5]; rfl
            · rw [if_neg (show ¬ (2 : Int32) ≤ nI j from nI_ge (b := 2) (by omega) (by omega)), if_neg c5]; rfl
          · obtain ⟨q0, q1, q2, q3⟩ := hM.2.2.2.1.2.2.2 i q hq
            rw [e1 hM, if_pos (by omega), i64_of, show (0 : Int64) = cl 0 from rfl, h_ci (show X12_isIn _ _ 3 _ = _ from X12_isIn_h (b := 3) (i32_in _) (by omega) (by omega)), h_if, decide_eq_true (by rw [nI_toI hj]; omega), if_neg (by decide), gr_215_52, show (183 : Int32) = nI 183 from rfl, show (4 : Int32) = nI 4 from rfl, pk_mul, nI_add, nI_add, la_255 (by omega), h_ret]
            unfold p_cell
            have hj2 : j = 0 ∨ j = 1 ∨ j = 2 ∨ j = 3 := by omega
            rcases hj2 with rfl | rfl | rfl | rfl
            · rw [if_neg (by omega), if_pos rfl, ← q0]; rfl
            · rw [if_neg (by omega), if_neg (by omega), if_pos rfl, ← q1]
            · rw [if_pos (by omega), if_neg (by omega), if_neg (by omega), if_pos rfl, ← q2]
            · rw [if_pos (by omega), if_neg (by omega), if_neg (by omega), if_neg (by omega), ← q3]
        · refine both_still hok (.int (-1)) (fun I L ρ hX => ?_) (fun I L ρ hM => ?_)
          · rw [hXk hX, if_pos c2, h_if, if_neg c3, h_if, if_neg (show ¬ nI j ≤ (3 : Int32) from nI_ge (a := 3) (by omega) (by omega))]; rfl
          · rw [e1 hM, if_pos (by omega), i64_of, show (0 : Int64) = cl 0 from rfl, h_ci (show X12_isIn _ _ 3 _ = _ from X12_isIn_h (b := 3) (i32_in _) (by omega) (by omega)), h_if, decide_eq_false (by rw [nI_toI hj]; omega), bF, if_pos rfl]; rfl
    · refine both_still hok (.int (-1)) (fun I L ρ hX => ?_) (fun I L ρ hM => ?_)
      · rw [hXk hX, if_neg c2]
      · rw [e1 hM, if_neg (by omega)]
/-! has -/
/-- how many of the first are none that is -1 -/
def c_nt (f : Nat → Int32) : Nat → Nat
  | 0 => 0
  | k + 1 => c_nt f k + (if f k = -1 then 0 else 1)
theorem c_nt_eq {f g : Nat → Int32} : ∀ n, (∀ i, i < n → (f i = -1 ↔ g i = -1)) → c_nt f n = c_nt g n
  | 0, _ => rfl
  | n + 1, h => by
    unfold c_nt
    rw [c_nt_eq n (fun i hi => h i (by omega))]
    simp only [h n (by omega)]
theorem c_nt_0 {f : Nat → Int32} : ∀ n, (∀ i, i < n → f i = -1) → c_nt f n = 0
  | 0, _ => rfl
  | n + 1, h => by
    unfold c_nt
    rw [c_nt_0 n (fun i hi => h i (by omega)), if_pos (h n (by omega))]
theorem X8_pairs_lp : ∀ (m k fuel : Nat), k + m = 6 → m < fuel → z_fix (fun r x => X8_wedPairs_B4 41 r x.1 x.2) fuel (nI (c_nt (I 43) k), nI k) (hp I L ρ) = some (some (.int (nI (c_nt (I 43) 6))), hp I L ρ) := by
  intro m
  induction m with
  | zero =>
    intro k fuel h1 h2
    obtain ⟨f, rfl⟩ : ∃ f, fuel = f + 1 := ⟨fuel - 1, by omega⟩
    obtain rfl : k = 6 := by omega
    rw [h_fix]
    show X8_wedPairs_B4 41 _ (nI (c_nt (I 43) 6)) (nI 6) (hp I L ρ) = _
    unfold X8_wedPairs_B4
    rw [h_if, if_pos (by decide)]; rfl
  | succ m ih =>
    intro k fuel h1 h2
    obtain ⟨f, rfl⟩ : ∃ f, fuel = f + 1 := ⟨fuel - 1, by omega⟩
    rw [h_fix]
    generalize hg : z_fix (fun r x => X8_wedPairs_B4 41 r x.1 x.2) f = rec
    show X8_wedPairs_B4 41 rec (nI (c_nt (I 43) k)) (nI k) (hp I L ρ) = _
    unfold X8_wedPairs_B4 X8_wedPairs_J23
    rw [h_if, if_neg (show ¬ (6 : Int32) ≤ nI k from nI_ge (b := 6) (by omega) (by omega)), gr_41_3, la_43 (by omega), h_if]
    have hi := ih (k + 1) f (by omega) (by omega)
    rw [hg] at hi
    by_cases c : I 43 k = -1
    · rw [if_pos c, nI_1, ← hi]
      show _ = rec (nI (c_nt (I 43) k + (if I 43 k = -1 then 0 else 1)), nI (k + 1)) _
      rw [if_pos c]; rfl
    · rw [if_neg c, nI_1, nI_1, ← hi]
      show _ = rec (nI (c_nt (I 43) k + (if I 43 k = -1 then 0 else 1)), nI (k + 1)) _
      rw [if_neg c]
theorem X12_wedMany_lp : ∀ (m k fuel : Nat), k + m = 6 → m < fuel → z_fix (fun r x => X12_wedMany_B4 215 r x.1 x.2) fuel (nI (c_nt (fun i => I 255 (14 + i)) k), nI k) (hp I L ρ) = X12_wedMany_J32 215 (nI (c_nt (fun i => I 255 (14 + i)) 6)) (hp I L ρ) := by
  intro m
  induction m with
  | zero =>
    intro k fuel h1 h2
    obtain ⟨f, rfl⟩ : ∃ f, fuel = f + 1 := ⟨fuel - 1, by omega⟩
    obtain rfl : k = 6 := by omega
    rw [h_fix]
    show X12_wedMany_B4 215 _ (nI (c_nt (fun i => I 255 (14 + i)) 6)) (nI 6) (hp I L ρ) = _
    unfold X12_wedMany_B4
    rw [h_if, if_pos (by decide)]
  | succ m ih =>
    intro k fuel h1 h2
    obtain ⟨f, rfl⟩ : ∃ f, fuel = f + 1 := ⟨fuel - 1, by omega⟩
    rw [h_fix]
    generalize hg : z_fix (fun r x => X12_wedMany_B4 215 r x.1 x.2) f = rec
    show X12_wedMany_B4 215 rec (nI (c_nt (fun i => I 255 (14 + i)) k)) (nI k) (hp I L ρ) = _
    unfold X12_wedMany_B4 X12_wedMany_J26
    rw [h_if, if_neg (show ¬ (6 : Int32) ≤ nI k from nI_ge (b := 6) (by omega) (by omega)), gr_215_52, show (14 : Int32) = nI 14 from rfl, nI_add, la_255 (by omega), h_if]
    have hi := ih (k + 1) f (by omega) (by omega)
    rw [hg] at hi
    by_cases c : I 255 (14 + k) = -1
    · rw [if_pos c, nI_1, ← hi]
      show _ = rec (nI (c_nt (fun i => I 255 (14 + i)) k + (if I 255 (14 + k) = -1 then 0 else 1)), nI (k + 1)) _
      rw [if_pos c]; rfl
    · rw [if_neg c, nI_1, nI_1, ← hi]
      show _ = rec (nI (c_nt (fun i => I 255 (14 + i)) k + (if I 255 (14 + k) = -1 then 0 else 1)), nI (k + 1)) _
      rw [if_neg c]
/-- how many pairs are wed -/
def p_wc (s : sT) : Nat := c_nt (fun i => oI (s_wed s i)) 6
theorem oI_wed (hk : okC C) (hS : okS C s) (a : Nat) : oI (s_wed s a) = -1 ↔ s_wed s a = none := oI_m1 (fun _ h => k_th_wed hk hS h)
theorem wed_th (hS : okS C s) {a : Nat} (h : ¬ k_th C a) : s_wed s a = none := by
  rcases q : s_wed s a with _ | b
  · rfl
  · exact absurd (hS.2.2.2.1 a b q).1 h
theorem X8_pairs_h (hX : RelX I L ρ A N) : X8_wedPairs 41 (hp I L ρ) = some (some (.int (nI (p_wc (a_s A)))), hp I L ρ) := by
  unfold X8_wedPairs
  rw [show ((0 : Int32), (0 : Int32)) = (nI (c_nt (I 43) 0), nI 0) from rfl, X8_pairs_lp 6 0 zFU (by omega) (by unfold zFU; omega)]
  unfold p_wc
  rw [c_nt_eq 6 (fun i hi => by rw [hX.2.2.1.2.2.1 i (by omega)])]
theorem X12_wedMany_h (hok : okA A) (hM : RelM I L A) : X12_wedMany 215 (hp I L ρ) = some (some (.int (nI (p_wc (a_s A)))), hp I L ρ) := by
  have hS := hok.2.2.1.1
  unfold X12_wedMany
  rw [show ((0 : Int32), (0 : Int32)) = (nI (c_nt (fun i => I 255 (14 + i)) 0), nI 0) from rfl, X12_wedMany_lp 6 0 zFU (by omega) (by unfold zFU; omega)]
  unfold X12_wedMany_J32 p_wc
  rw [gi_215, h_if]
  rcases hM.1.2.1 with ⟨q1, -, q2⟩ | ⟨q1, -, q2, q3, -⟩
  · rw [q1, if_neg (by decide), h_ret, c_nt_eq 6 (g := fun i => oI (s_wed (a_s A) i))]
    intro i hi
    show I 255 (14 + i) = -1 ↔ oI (s_wed (a_s A) i) = -1
    by_cases c : k_th (a_C A) i
    · rw [(hM.2.2.2.1.1.1.2.2 i c).1]
    · rw [hM.2.2.2.1.1.2 q2 i (by omega) c, wed_th hS c]; simp [oI_none]
  · rw [q1, if_pos rfl, h_ret, c_nt_0 6]
    · rfl
    · intro i hi
      show oI (s_wed (a_s A) i) = -1
      rw [wed_th hS (show ¬ k_th (a_C A) i by unfold k_th; omega)]; rfl
def r_has (A : aT) (j : Nat) : Int32 := if j = 0 then nI (k_L (a_C A)) else if j = 1 then nI (k_R (a_C A)) else if j = 2 then nI (a_kc A) else if j = 3 then nI (s_sp (a_s A)) else if j = 4 then nI (s_rd (a_s A)) else if j = 5 then nI (k_rt (a_C A)) else if j = 6 then nI (p_wc (a_s A)) else if j = 7 then nI (a_K A).length else if j = 8 then nI (a_V A).length else nI (a_P A).length
theorem has_b (hok : okA A) (hN : N < 1000000000) (v : Int32) : both (X11_has 0 v) (X12_has 215 v) A N := by
  unfold X11_has X12_has
  by_cases c : v.toInt < 0 ∨ 9 < v.toInt
  · refine both_still hok (.int (-1)) (fun I L ρ hX => ?_) (fun I L ρ hM => ?_)
    · rw [h_if, if_pos c]; rfl
    · rw [h_if, if_pos c]; rfl
  · obtain ⟨j, hj, rfl⟩ := Int32_of (v := v) (by rw [v_neg]; omega)
    rw [nI_toI hj] at c
    refine both_still hok (.int (r_has A j)) (fun I L ρ hX => ?_) (fun I L ρ hM => ?_)
    · rw [h_if, if_neg (by rw [nI_toI hj]; omega), nI_toI hj]
      have hρ := cu_ρ hX
      have hC := cu_ch hX
      have hc : j = 0 ∨ j = 1 ∨ j = 2 ∨ j = 3 ∨ j = 4 ∨ j = 5 ∨ j = 6 ∨ j = 7 ∨ j = 8 ∨ j = 9 := by omega
      rcases hc with rfl | rfl | rfl | rfl | rfl | rfl | rfl | rfl | rfl | rfl
      · show X11_has_S1 0 0 _ = _
        rw [X11_has_S1_0, gr_0_5, gc_0 hρ, show (0 : Int32) = nI 0 from rfl, lac_1 hρ (by omega), hC.1.1]; rfl
      · show X11_has_S1 0 1 _ = _
        rw [X11_has_S1_1, gr_0_5, gc_0 hρ, show (1 : Int32) = nI 1 from rfl, lac_1 hρ (by omega), hC.1.2]; rfl
      · show X11_has_S1 0 2 _ = _
        rw [X11_has_S1_2, gr_0_5, gic hρ, (cu_nm hX).1]; rfl
      · show X11_has_S1 0 3 _ = _
        rw [X11_has_S1_3, gr_0_7, gi_41, hX.2.2.1.1.1]; rfl
      · show X11_has_S1 0 4 _ = _
        rw [X11_has_S1_4, gr_0_7, gi_41, hX.2.2.1.1.2]; rfl
      · show X11_has_S1 0 5 _ = _
        rw [X11_has_S1_5, gr_0_5, gic hρ, hC.2.1.1]; rfl
      · show X11_has_S1 0 6 _ = _
        rw [X11_has_S1_6, gr_0_7, rc_41, h_ci (X8_pairs_h hX)]; rfl
      · show X11_has_S1 0 7 _ = _
        rw [X11_has_S1_7, gr_0_11, rc_68, h_ci (X6_told_h hX hN)]; rfl
      · show X11_has_S1 0 8 _ = _
        rw [X11_has_S1_8, gi_0, hX.2.2.2.2.1.1]; rfl
      · show X11_has_S1 0 9 _ = _
        obtain ⟨hw, nx, lg, κ, h1, -⟩ := hX.2.2.2.1
        rw [X11_has_S1_9, gr_0_11, gi_68, h1.2.1]; rfl
    · rw [h_if, if_neg (by rw [nI_toI hj]; omega)]
      have hc : j = 0 ∨ j = 1 ∨ j = 2 ∨ j = 3 ∨ j = 4 ∨ j = 5 ∨ j = 6 ∨ j = 7 ∨ j = 8 ∨ j = 9 := by omega
      rcases hc with rfl | rfl | rfl | rfl | rfl | rfl | rfl | rfl | rfl | rfl
      · show X12_has_J56 215 (nI 0) _ = _
        unfold X12_has_J56
        rw [gr_215_40, show (6 : Int32) = nI 6 from rfl, nI_add, la_246 (by omega), hM.1.1.1]; rfl
      · show X12_has_J56 215 (nI 1) _ = _
        unfold X12_has_J56
        rw [gr_215_40, show (6 : Int32) = nI 6 from rfl, nI_add, la_246 (by omega), hM.1.1.2]; rfl
      · show X12_has_J56 215 (nI 2) _ = _
        unfold X12_has_J56
        rw [gr_215_40, show (6 : Int32) = nI 6 from rfl, nI_add, la_246 (by omega), hM.2.1.1]; rfl
      · show X12_has_S1 215 (nI 3) 3 _ = _
        rw [X12_has_S1_3, gr_215_52, lal_0, la_255 (by omega), hM.2.2.2.1.1.1.1.1]; rfl
      · show X12_has_S1 215 (nI 4) 4 _ = _
        rw [X12_has_S1_4, gr_215_52, lal_1, la_255 (by omega), hM.2.2.2.1.1.1.1.2]; rfl
      · show X12_has_S1 215 (nI 5) 5 _ = _
        rw [X12_has_S1_5, rc_215, h_ci (X12_roundMany_h hM.1)]; rfl
      · show X12_has_S1 215 (nI 6) 6 _ = _
        rw [X12_has_S1_6, rc_215, h_ci (X12_wedMany_h hok hM)]; rfl
      · show X12_has_S1 215 (nI 7) 7 _ = _
        rw [X12_has_S1_7, gr_215_52, show (182 : Int32) = nI 182 from rfl, la_255 (by omega), hM.2.2.2.1.2.1]; rfl
      · show X12_has_S1 215 (nI 8) 8 _ = _
        rw [X12_has_S1_8, gi_215, hM.2.2.2.2.2.2.1.1]; rfl
      · show X12_has_S1 215 (nI 9) 9 _ = _
        rw [X12_has_S1_9, gi_215, hM.2.2.2.2.2.1.1]; rfl
/-! letter -/
theorem p_nmv_z {f : Nat → Nat} {n : Nat} : ∀ m, n ≤ m → (∀ i, n ≤ i → i < m → f i = 0) → p_nmv f m = p_nmv f n
  | 0, h, _ => by rw [show n = 0 by omega]
  | m + 1, h, h2 => by
    by_cases c : n = m + 1
    · rw [c]
    · show (if f m = 0 then p_nmv f m else 27 * p_nmv f m + f m) = _
      rw [if_pos (h2 m (by omega) (by omega))]
      exact p_nmv_z m (by omega) (fun i q1 q2 => h2 i q1 (by omega))
theorem p_nmv_s {f : Nat → Nat} {k : Nat} (h : 1 ≤ f k) : p_nmv f (k + 1) = 27 * p_nmv f k + f k := by
  show (if f k = 0 then p_nmv f k else 27 * p_nmv f k + f k) = _
  rw [if_neg (by omega)]
theorem p_nmv_b {f : Nat → Nat} : ∀ {m}, m ≤ 6 → (∀ i, i < m → 1 ≤ f i ∧ f i ≤ 26) → p_nmv f m < 27 ^ m
  | 0, _, _ => by show 0 < 1; omega
  | m + 1, h, h2 => by
    have q := p_nmv_b (m := m) (by omega) (fun i hi => h2 i (by omega))
    have := h2 m (by omega)
    rw [p_nmv_s this.1, Nat.pow_succ]
    omega
/-- how long a name is -/
theorem nm_len {f : Nat → Nat} (h1 : 1 ≤ f 0) (h2 : ∀ k, k + 1 < 6 → f k = 0 → f (k + 1) = 0) : ∃ n, 1 ≤ n ∧ n ≤ 6 ∧ (∀ i, i < n → 1 ≤ f i) ∧ ∀ i, n ≤ i → i < 6 → f i = 0 := by
  obtain ⟨n, hn, hl⟩ := pk_least (fun k => k = 6 ∨ f k = 0) ⟨6, Or.inl rfl⟩
  have hz : ∀ i, i < n → ¬ f i = 0 := fun i hi e => hl i hi (Or.inr e)
  have hn6 : n ≤ 6 := by
    apply Classical.byContradiction
    intro c
    exact hl 6 (by omega) (Or.inl rfl)
  have hn1 : 1 ≤ n := by
    apply Classical.byContradiction
    intro c
    obtain rfl : n = 0 := by omega
    omega
  refine ⟨n, hn1, hn6, fun i hi => by have := hz i hi; omega, ?_⟩
  · intro i
    induction i with
    | zero => intro q1 q2; omega
    | succ i ih =>
      intro q1 q2
      by_cases c : n = i + 1
      · rcases hn with q | q
        · omega
        · rw [← c]; exact q
      · exact h2 i (by omega) (ih (by omega) (by omega))
theorem l_pow (m : Nat) (h : m ≤ 6) : 27 ^ m ≤ 27 ^ 6 := Nat.pow_le_pow_right (by decide) h
theorem X12_letter_lp1 {w : Int32} {x : Int64} {f : Nat → Nat} {n : Nat} (hn : n ≤ 6) (hf : ∀ i, i < n → 1 ≤ f i ∧ f i ≤ 26) : ∀ (m k fuel : Nat), k + m = n → m < fuel → z_fix (fun r x_1 => X12_letter_B43 w x r x_1.1 x_1.2) fuel (nI k, lN (p_nmv f m)) h = X12_letter_J64 w x (nI n) h := by
  intro m
  induction m with
  | zero =>
    intro k fuel h1 h2
    obtain ⟨g, rfl⟩ : ∃ g, fuel = g + 1 := ⟨fuel - 1, by omega⟩
    obtain rfl : k = n := by omega
    rw [h_fix]
    show X12_letter_B43 w x _ (nI k) (lN 0) h = _
    unfold X12_letter_B43
    rw [h_if, if_neg (by decide)]
  | succ m ih =>
    intro k fuel h1 h2
    obtain ⟨g, rfl⟩ : ∃ g, fuel = g + 1 := ⟨fuel - 1, by omega⟩
    rw [h_fix]
    generalize hg : z_fix (fun r x_1 => X12_letter_B43 w x r x_1.1 x_1.2) g = rec
    show X12_letter_B43 w x rec (nI k) (lN (p_nmv f (m + 1))) h = _
    have hm := hf m (by omega)
    have hb := p_nmv_b (m := m + 1) (by omega) (fun i hi => hf i (by omega))
    have hp := l_pow (m + 1) (by omega)
    have hs := p_nmv_s hm.1
    have e6 : 27 ^ 6 = 387420489 := by decide
    unfold X12_letter_B43
    rw [h_if, if_pos (show (0 : Int64) < lN _ from (pk_lLT (a := 0) (by omega) (by omega)).mpr (by omega)), h_ck (by decide), nI_1, show (27 : Int64) = lN 27 from rfl, pk_lDiv (by omega) (by omega) (by omega), hs, show (27 * p_nmv f m + f m) / 27 = p_nmv f m by omega, ← hg]
    exact ih (k + 1) g (by omega) (by omega)
theorem X12_letter_lp2 {w : Nat} {f : Nat → Nat} {n : Nat} (hn : n ≤ 6) (hf : ∀ i, i < n → 1 ≤ f i ∧ f i ≤ 26) (hw : w < n) : ∀ (m fuel : Nat), w + m < n → m < fuel → z_fix (fun r x => X12_letter_B78 (nI w) r x.1 x.2) fuel (lN (p_nmv f (w + m + 1)), nI (w + m)) h = some (some (.int (nI (f w))), h) := by
  intro m
  induction m with
  | zero =>
    intro fuel h1 h2
    obtain ⟨g, rfl⟩ : ∃ g, fuel = g + 1 := ⟨fuel - 1, by omega⟩
    rw [h_fix]
    show X12_letter_B78 (nI w) _ (lN (p_nmv f (w + 0 + 1))) (nI (w + 0)) h = _
    have hm := hf w (by omega)
    have hb := p_nmv_b (m := w + 1) (by omega) (fun i hi => hf i (by omega))
    have hp := l_pow (w + 1) (by omega)
    have hs := p_nmv_s hm.1
    have e6 : 27 ^ 6 = 387420489 := by decide
    unfold X12_letter_B78 X12_letter_J96
    rw [h_if, if_pos (nI_le (by omega) (by omega)), h_ck (by decide), show (27 : Int64) = lN 27 from rfl, Nat.add_zero, pk_lRem (by omega) (by omega) (by omega), lN_i, hs, show (27 * p_nmv f w + f w) % 27 = f w by omega]
    rfl
  | succ m ih =>
    intro fuel h1 h2
    obtain ⟨g, rfl⟩ : ∃ g, fuel = g + 1 := ⟨fuel - 1, by omega⟩
    rw [h_fix]
    generalize hg : z_fix (fun r x => X12_letter_B78 (nI w) r x.1 x.2) g = rec
    show X12_letter_B78 (nI w) rec (lN (p_nmv f (w + (m + 1) + 1))) (nI (w + (m + 1))) h = _
    have hm := hf (w + m + 1) (by omega)
    have hb := p_nmv_b (m := w + m + 1 + 1) (by omega) (fun i hi => hf i (by omega))
    have hp := l_pow (w + m + 1 + 1) (by omega)
    have hs := p_nmv_s hm.1
    have e6 : 27 ^ 6 = 387420489 := by decide
    unfold X12_letter_B78
    rw [h_if, if_neg (nI_ge (by omega) (by omega)), h_ck (by decide), show (27 : Int64) = lN 27 from rfl, show w + (m + 1) + 1 = w + m + 1 + 1 by omega, pk_lDiv (by omega) (by omega) (by omega), hs, show (27 * p_nmv f (w + m + 1) + f (w + m + 1)) / 27 = p_nmv f (w + m + 1) by omega, show w + (m + 1) = w + m + 1 by omega, pk_m1, ← hg]
    exact ih g (by omega) (by omega)
theorem letter_b (hok : okA A) (v w : Int32) : both (X11_letter 0 v w) (X12_letter 215 v w) A N := by
  have hk := hok.1
  have h12 := hk.1
  have e1 : ∀ {I : Nat → Nat → Int32} {L : Nat → Nat → Int64} {ρ : zRh}, RelM I L A → k_sl (a_C A) v = none → X12_letter 215 v w (hp I L ρ) = some (some (.int (-1)), hp I L ρ) := by
    intro I L ρ hM q
    unfold X12_letter
    rw [rc_215, h_ci (X12_isPerson_v hk hM.1 v), q, bI_none, h_if, if_pos rfl]; rfl
  rcases k_sl_c hk v with ⟨q, q1⟩ | ⟨a, p, q, rfl, q1, q2, q3, q4, q5⟩
  · refine both_still hok (.int (-1)) (fun I L ρ hX => ?_) (fun I L ρ hM => e1 hM q)
    unfold X11_letter
    rw [gr_0_5, rcc (cu_ρ hX), h_ci (XC_slot hX hk v), q, oI_none, h_if, if_pos rfl]; rfl
  · have e2 : ∀ {I : Nat → Nat → Int32} {L : Nat → Nat → Int64} {ρ : zRh}, RelX I L ρ A N → X11_letter 0 (nI p) w (hp I L ρ) = z_if (w < 0) (z_ret (some (.int ((-1))))) (z_if (w < 6) (z_gr 11 5 0 fun x3 => z_gr 1 1 x3 fun x4 => z_la 20 x4 ((nI a * 6) + w) fun x5 => z_ret (some (.int x5))) (z_ret (some (.int ((-1)))))) (hp I L ρ) := by
      intro I L ρ hX
      unfold X11_letter
      rw [gr_0_5, rcc (cu_ρ hX), h_ci (XC_slot hX hk _), q, oI_some, h_if, if_neg (nI_nm1 (by omega))]
    have e3 : ∀ {I : Nat → Nat → Int32} {L : Nat → Nat → Int64} {ρ : zRh}, RelM I L A → X12_letter 215 (nI p) w (hp I L ρ) = (if 0 ≤ w.toInt ∧ w.toInt ≤ 5 then z_fix (fun r x => X12_letter_B43 w (cl (p_nmv (fun k => a_nm A (6 * a + k)) 6 : Nat)) r x.1 x.2) zFU (0, (cl (p_nmv (fun k => a_nm A (6 * a + k)) 6 : Nat))) (hp I L ρ) else some (some (.int (-1)), hp I L ρ)) := by
      intro I L ρ hM
      unfold X12_letter
      rw [rc_215, h_ci (X12_isPerson_v hk hM.1 _), q, bI_some, h_if, if_neg (by decide), i64_of, show (0 : Int64) = cl 0 from rfl, h_ci (show X12_isIn _ _ 5 _ = _ from X12_isIn_h (b := 5) (i32_in w) (by omega) (by omega)), h_if]
      by_cases c : 0 ≤ w.toInt ∧ w.toInt ≤ 5
      · rw [if_pos c, decide_eq_true c, if_neg (by decide), gr_215_41, rc_215, h_ci (X12_codeOf_h hk hM.1 (by omega)), show (12 : Int32) = nI 12 from rfl, nI_add, ← q2, ll_247 (by omega), hM.2.1.2 a q3]
      · rw [if_neg c, decide_eq_false c, bF, if_pos rfl]; rfl
    by_cases c : w < 0
    · refine both_still hok (.int (-1)) (fun I L ρ hX => ?_) (fun I L ρ hM => ?_)
      · rw [e2 hX, h_if, if_pos c]; rfl
      · rw [v_neg] at c
        rw [e3 hM, if_neg (by omega)]
    · obtain ⟨j, hj, rfl⟩ := Int32_of c
      rw [nI_toI hj] at e3
      by_cases c2 : j < 6
      · refine both_still hok (.int (nI (a_nm A (6 * a + j)))) (fun I L ρ hX => ?_) (fun I L ρ hM => ?_)
        · rw [e2 hX, h_if, if_neg c, h_if, if_pos (show nI j < (6 : Int32) from nI_lt (b := 6) c2 (by omega)), gr_0_5, gc_1 (cu_ρ hX), show (6 : Int32) = nI 6 from rfl, pk_mul, nI_add, lac_2 (cu_ρ hX) (by omega), Nat.mul_comm a 6, (cu_nm hX).2 a j q3 c2]; rfl
        · have hn := hok.2.2.2.2.2.2.2.2.1 a q3
          obtain ⟨n, n1, n2, n3, n4⟩ := nm_len (f := fun k => a_nm A (6 * a + k)) hn.2.1 (fun k h1 h2 => hn.2.2 k h1 h2)
          have hf : ∀ i, i < n → 1 ≤ a_nm A (6 * a + i) ∧ a_nm A (6 * a + i) ≤ 26 := fun i hi => ⟨n3 i hi, hn.1 i (by omega)⟩
          rw [e3 hM, if_pos (by omega), p_nmv_z (n := n) 6 n2 n4, ← lN_cl, show (0 : Int32) = nI 0 from rfl, X12_letter_lp1 (f := fun k => a_nm A (6 * a + k)) n2 hf n 0 zFU (by omega) (by unfold zFU; omega)]
          unfold X12_letter_J64
          rw [h_if]
          simp only [nI_lt' hj (show n < 2147483648 by omega)]
          by_cases c3 : j < n
          · rw [if_pos c3, show (1 : Int32) = nI 1 from rfl, pk_sub (by omega)]
            have := X12_letter_lp2 (h := hp I L ρ) (f := fun k => a_nm A (6 * a + k)) n2 hf c3 (n - 1 - j) zFU (by omega) (by unfold zFU; omega)
            rw [show j + (n - 1 - j) + 1 = n by omega, show j + (n - 1 - j) = n - 1 by omega] at this
            exact this
          · rw [if_neg c3, show a_nm A (6 * a + j) = 0 from n4 j (by omega) c2]; rfl
      · refine both_still hok (.int (-1)) (fun I L ρ hX => ?_) (fun I L ρ hM => ?_)
        · rw [e2 hX, h_if, if_neg c, h_if, if_neg (show ¬ nI j < (6 : Int32) from fun e => c2 ((nI_lt' (b := 6) hj (by omega)).mp e))]; rfl
        · rw [e3 hM, if_neg (by omega)]
end B43
