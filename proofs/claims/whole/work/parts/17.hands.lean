/-! the class: hands of a round -/
section B17
variable {I : Nat → Nat → Int32} {L : Nat → Nat → Int64} {ρ : zRh} {h : zH} {C : cT} {s : sT}
theorem J7_fill_lp {a n : Nat} {v : Int32} (ha : a < 297) (hk : zK a = (20, n)) (hn : n < 2147483648) : ∀ (m k : Nat) (I : Nat → Nat → Int32) (fuel : Nat), k + m = n → m < fuel → z_fix (fun r x => J7_fill_53178_B5 a v (nI n) r x) fuel (nI k) (hp I L ρ) = some (none, hp (fun b i => if b = a ∧ k ≤ i ∧ i < n then v else I b i) L ρ) := by
  intro m
  induction m with
  | zero =>
    intro k I fuel h1 h2
    obtain ⟨f, rfl⟩ : ∃ f, fuel = f + 1 := ⟨fuel - 1, by omega⟩
    rw [h_fix]
    show J7_fill_53178_B5 a v (nI n) _ (nI k) (hp I L ρ) = _
    unfold J7_fill_53178_B5
    rw [h_if, if_pos (nI_le (by omega) (by omega)), h_ret]
    have e : (fun b i => if b = a ∧ k ≤ i ∧ i < n then v else I b i) = I := by
      funext b i
      rw [if_neg (by omega)]
    rw [e]
  | succ m ih =>
    intro k I fuel h1 h2
    obtain ⟨f, rfl⟩ : ∃ f, fuel = f + 1 := ⟨fuel - 1, by omega⟩
    rw [h_fix]
    show J7_fill_53178_B5 a v (nI n) _ (nI k) (hp I L ρ) = _
    unfold J7_fill_53178_B5
    rw [h_if, if_neg (nI_ge (by omega) (by omega)), h_sa ha (by rw [hk]) (by rw [hk]; show k < n; omega) (by rw [hk]; exact hn), nI_1]
    refine (ih (k + 1) _ f (by omega) (by omega)).trans ?_
    have e : (fun b i => if b = a ∧ k + 1 ≤ i ∧ i < n then v else u2 I a k v b i) = fun b i => if b = a ∧ k ≤ i ∧ i < n then v else I b i := by
      funext b i
      rw [u2_ap]
      by_cases q1 : b = a
      · by_cases q2 : i = k
        · rw [if_neg (by omega), if_pos ⟨q1, q2⟩, if_pos (by omega)]
        · by_cases q3 : k ≤ i ∧ i < n
          · rw [if_pos (by omega), if_pos (by omega)]
          · rw [if_neg (by omega), if_neg (by omega), if_neg (by omega)]
      · rw [if_neg (by omega), if_neg (by omega), if_neg (by omega)]
    rw [e]
theorem J7_fill_h {a n : Nat} {v : Int32} (ha : a < 297) (hk : zK a = (20, n)) (hn : n < 1000000) : J7_fill_53178 a v (hp I L ρ) = some (none, hp (fun b i => if b = a ∧ i < n then v else I b i) L ρ) := by
  unfold J7_fill_53178
  rw [h_len ha (by rw [hk]; show 20 ≤ 20; omega) (by rw [hk]; show 20 < 25; omega), hk]
  refine (J7_fill_lp ha hk (by omega) n 0 I zFU (by omega) (by unfold zFU; omega)).trans ?_
  simp
theorem p_fr_le (side : Nat) : ∀ k, (p_fr s side k).length ≤ k := by
  intro k
  induction k with
  | zero => simp [p_fr]
  | succ k ih =>
    unfold p_fr
    split
    · rw [List.length_append]; simp; omega
    · omega
theorem p_fr_mem {side : Nat} : ∀ {k x : Nat}, x ∈ p_fr s side k → ∃ i, i < k ∧ x = s_ord s (6 * side + i) ∧ s_wed s x = none := by
  intro k
  induction k with
  | zero => intro x hx; simp [p_fr] at hx
  | succ k ih =>
    intro x hx
    unfold p_fr at hx
    split at hx
    · rename_i q
      rcases List.mem_append.mp hx with h1 | h1
      · obtain ⟨i, a, b⟩ := ih h1
        exact ⟨i, by omega, b⟩
      · rw [List.mem_singleton.mp h1]
        exact ⟨k, by omega, rfl, q⟩
    · obtain ⟨i, a, b⟩ := ih hx
      exact ⟨i, by omega, b⟩
theorem k_n_le (hk : okC C) (side : Nat) : k_n C side ≤ 6 := by
  obtain ⟨⟨b1, b2⟩, -⟩ := id hk
  unfold k_n
  split <;> omega
theorem k_th_of {side k : Nat} (hs : side < 2) (h : k < k_n C side) : k_th C (6 * side + k) := by
  unfold k_n at h
  split at h
  · left; omega
  · right; omega
theorem k_th_lt (hk : okC C) {a : Nat} (h : k_th C a) : a < 12 := by
  obtain ⟨⟨b1, b2⟩, -⟩ := id hk
  omega
theorem p_free_mem (hk : okC C) (hS : okS C s) {side x : Nat} (hs : side < 2) (hx : x ∈ p_free C s side) : (k_th C x ∧ x < 12) ∧ (x < 6 ↔ side = 0) ∧ s_wed s x = none := by
  obtain ⟨i, h1, h2, h3⟩ := p_fr_mem hx
  have h4 := k_th_of (C := C) hs h1
  have h5 := hS.2.1 _ h4
  have h6 := k_n_le hk side
  rw [← h2] at h5
  exact ⟨⟨h5.1, k_th_lt hk h5.1⟩, by omega, h3⟩
theorem p_free_at (hk : okC C) (hS : okS C s) {side i : Nat} (hs : side < 2) (hi : i < (p_free C s side).length) : (k_th C ((p_free C s side).getD i 0) ∧ (p_free C s side).getD i 0 < 12) ∧ ((p_free C s side).getD i 0 < 6 ↔ side = 0) ∧ s_wed s ((p_free C s side).getD i 0) = none := by
  refine p_free_mem hk hS hs ?_
  rw [List.getD_eq_getElem?_getD, List.getElem?_eq_getElem hi, Option.getD_some]
  exact List.getElem_mem hi
def frX (f : Nat → Int32) (o : Nat) (l : List Nat) : Prop := ∀ i, i < l.length → f (o + i) = nI (l.getD i 0)
theorem getD_app {l r : List Nat} {i : Nat} (h : i < l.length) : (l ++ r).getD i 0 = l.getD i 0 := by
  rw [List.getD_eq_getElem?_getD, List.getD_eq_getElem?_getD, List.getElem?_append_left h]
theorem frX_snoc {f g : Nat → Int32} {o : Nat} {l : List Nat} {x : Nat} (h : frX f o l) (h1 : g (o + l.length) = nI x) (h2 : ∀ i, i < l.length → g (o + i) = f (o + i)) : frX g o (l ++ [x]) := by
  intro i hi
  rw [List.length_append, List.length_singleton] at hi
  by_cases q : i < l.length
  · rw [h2 i q, h i q, getD_app q]
  · have : i = l.length := by omega
    subst this
    rw [h1]
    simp
theorem p_hs_zero_row (FL FR : List Nat) (rd pl : Nat) : p_hs FL FR rd pl 0 = fun _ => none := rfl
theorem X10_gather_lp_13_41 (hk : okC C) (hS : okS C s) (hρ : ρ.2.2.1 = 13) {side : Nat} (hs : side < 2) : ∀ (m k : Nat) (I : Nat → Nat → Int32) (fuel : Nat), k + m = k_n C side → m < fuel → chX 13 I C → stX 41 I s → frX (I 52) (6 * side) (p_fr s side k) →
    ∃ I', z_fix (fun r x => X10_gatherFree_B5 48 41 (nI side) r x.1 x.2) fuel (nI (p_fr s side k).length, nI k) (hp I L ρ) = some (some (.int (nI (p_free C s side).length)), hp I' L ρ) ∧ (∀ a, a ≠ 52 → I' a = I a) ∧ (∀ i, (i < 6 * side ∨ 6 * side + 6 ≤ i) → I' 52 i = I 52 i) ∧ frX (I' 52) (6 * side) (p_free C s side) := by
  intro m
  induction m with
  | zero =>
    intro k I fuel h1 h2 hC hX hF
    obtain ⟨f, rfl⟩ : ∃ f, fuel = f + 1 := ⟨fuel - 1, by omega⟩
    have hcnt : I 14 side = nI (k_n C side) := by
      have hL : I 14 0 = nI (k_L C) := hC.1.1
      have hR : I 14 1 = nI (k_R C) := hC.1.2
      have : side = 0 ∨ side = 1 := by omega
      rcases this with rfl | rfl
      · exact hL
      · exact hR
    have hk6 := k_n_le hk side
    refine ⟨I, ?_, fun _ _ => rfl, fun _ _ => rfl, ?_⟩
    · rw [h_fix]
      show X10_gatherFree_B5 48 41 (nI side) _ (nI (p_fr s side k).length) (nI k) (hp I L ρ) = _
      unfold X10_gatherFree_B5
      rw [gr_48_0, hρ, gr_13_0, la_14 hs, hcnt, h_if, if_pos (nI_le (by omega) (by omega)), show k = k_n C side by omega]
      rfl
    · unfold p_free
      rw [show k_n C side = k by omega]
      exact hF
  | succ m ih =>
    intro k I fuel h1 h2 hC hX hF
    obtain ⟨f, rfl⟩ : ∃ f, fuel = f + 1 := ⟨fuel - 1, by omega⟩
    have hcnt : I 14 side = nI (k_n C side) := by
      have hL : I 14 0 = nI (k_L C) := hC.1.1
      have hR : I 14 1 = nI (k_R C) := hC.1.2
      have : side = 0 ∨ side = 1 := by omega
      rcases this with rfl | rfl
      · exact hL
      · exact hR
    have hk6 := k_n_le hk side
    have hO : ∀ j, j < 12 → I 42 j = nI (s_ord s j) := hX.2.1
    have hW : ∀ j, j < 12 → I 43 j = oI (s_wed s j) := hX.2.2.1
    have hth := k_th_of (C := C) hs (show k < k_n C side by omega)
    have ho := hS.2.1 _ hth
    have ho12 := k_th_lt hk ho.1
    have hlen := p_fr_le (s := s) side k
    rw [h_fix]
    generalize hg : z_fix (fun r x => X10_gatherFree_B5 48 41 (nI side) r x.1 x.2) f = rec
    have step : ∀ (I1 : Nat → Nat → Int32), (∀ a, a ≠ 52 → I1 a = I a) → (∀ i, (i < 6 * side ∨ 6 * side + 6 ≤ i) → I1 52 i = I 52 i) → frX (I1 52) (6 * side) (p_fr s side (k + 1)) → ∃ I', rec (nI (p_fr s side (k + 1)).length, nI (k + 1)) (hp I1 L ρ) = some (some (.int (nI (p_free C s side).length)), hp I' L ρ) ∧ (∀ a, a ≠ 52 → I' a = I a) ∧ (∀ i, (i < 6 * side ∨ 6 * side + 6 ≤ i) → I' 52 i = I 52 i) ∧ frX (I' 52) (6 * side) (p_free C s side) := by
      intro I1 e1 e2 e3
      obtain ⟨I', q1, q2, q3, q4⟩ := ih (k + 1) I1 f (by omega) (by omega) (chX_fr (fun a _ _ => e1 a (by omega)) hC) (stX_fr (fun a h1 h2 => e1 a (by omega)) hX) e3
      exact ⟨I', by rw [← hg]; exact q1, fun a ha => by rw [q2 a ha, e1 a ha], fun i hi => by rw [q3 i hi, e2 i hi], q4⟩
    show ∃ I', X10_gatherFree_B5 48 41 (nI side) rec (nI (p_fr s side k).length) (nI k) (hp I L ρ) = _ ∧ _
    unfold X10_gatherFree_B5
    rw [gr_48_0, hρ, gr_13_0, la_14 hs, hcnt, h_if, if_neg (nI_ge (by omega) (by omega)), gr_41_2, show (6 : Int32) = nI 6 from rfl, pk_mul, nI_add, la_42 (by omega), Nat.mul_comm side 6, hO _ (by omega), gr_41_3, la_43 (by omega), hW _ (by omega), h_if]
    simp only [oI_m1 (fun b e => Nat.lt_trans (k_th_lt hk (hS.2.2.2.1 _ b e).2.1) (by decide))]
    unfold X10_gatherFree_J60
    by_cases q : s_wed s (s_ord s (6 * side + k)) = none
    · have e : p_fr s side (k + 1) = p_fr s side k ++ [s_ord s (6 * side + k)] := by rw [p_fr, if_pos q]
      rw [if_pos q, gr_48_4, nI_add, sa_52 (by omega), nI_1, nI_1]
      have st := step (u2 I 52 (6 * side + (p_fr s side k).length) (nI (s_ord s (6 * side + k)))) (fun a ha => by funext i; simp [u2, ha]) (fun i hi => by rw [u2_ap, if_neg (by omega)]) (by rw [e]; exact frX_snoc hF (by simp [u2]) (fun i hi => by rw [u2_ap, if_neg (by omega)]))
      rw [e, List.length_append, List.length_singleton] at st
      exact st
    · have e : p_fr s side (k + 1) = p_fr s side k := by rw [p_fr, if_neg q]
      rw [if_neg q, nI_1]
      have st := step I (fun _ _ => rfl) (fun _ _ => rfl) (by rw [e]; exact hF)
      rw [e] at st
      exact st
theorem X10_gather_13_41 (hk : okC C) (hS : okS C s) (hρ : ρ.2.2.1 = 13) {side : Nat} (hs : side < 2) (hC : chX 13 I C) (hX : stX 41 I s) : ∃ I', X10_gatherFree 48 41 (nI side) (hp I L ρ) = some (some (.int (nI (p_free C s side).length)), hp I' L ρ) ∧ (∀ a, a ≠ 52 → I' a = I a) ∧ (∀ i, (i < 6 * side ∨ 6 * side + 6 ≤ i) → I' 52 i = I 52 i) ∧ frX (I' 52) (6 * side) (p_free C s side) :=
  X10_gather_lp_13_41 hk hS hρ hs (k_n C side) 0 I zFU (by omega) (by have := k_n_le hk side; unfold zFU; omega) hC hX (fun i hi => absurd hi (by simp [p_fr]))
theorem X10_give_lp_13_41 (hk : okC C) (hS : okS C s) {pl : Nat} (hpl : pl = if (p_free C s 0).length < (p_free C s 1).length then (p_free C s 1).length else (p_free C s 0).length) : ∀ (m k : Nat) (I : Nat → Nat → Int32) (fuel : Nat), k + m = (p_free C s 0).length → m < fuel → stX 41 I s → frX (I 52) 0 (p_free C s 0) → frX (I 52) 6 (p_free C s 1) → (∀ j, j < 12 → I 49 j = oI (p_hs (p_free C s 0) (p_free C s 1) (s_rd s) pl k j)) →
    ∃ I', z_fix (fun r x => X10_giveHands_B32 48 41 (nI (p_free C s 0).length) (nI (p_free C s 1).length) (nI pl) r x) fuel (nI k) (hp I L ρ) = some (none, hp I' L ρ) ∧ (∀ a, a ≠ 49 → I' a = I a) ∧ ∀ j, j < 12 → I' 49 j = oI (p_hold C s j) := by
  have l0 := p_fr_le (s := s) 0 (k_n C 0)
  have l1 := p_fr_le (s := s) 1 (k_n C 1)
  have l2 := k_n_le hk 0
  have l3 := k_n_le hk 1
  have hpl6 : pl ≤ 6 := by rw [hpl]; unfold p_free; split <;> omega
  intro m
  induction m with
  | zero =>
    intro k I fuel h1 h2 hX hF0 hF1 hH
    obtain ⟨f, rfl⟩ : ∃ f, fuel = f + 1 := ⟨fuel - 1, by omega⟩
    refine ⟨I, ?_, fun _ _ => rfl, ?_⟩
    · rw [h_fix]
      show X10_giveHands_B32 48 41 _ _ _ _ (nI k) (hp I L ρ) = _
      unfold X10_giveHands_B32
      rw [h_if, if_pos (nI_le (by omega) (by unfold p_free at h1; omega))]
      rfl
    · intro j hj
      rw [hH j hj]
      unfold p_hold
      rw [← hpl, show k = (p_free C s 0).length by omega]
  | succ m ih =>
    intro k I fuel h1 h2 hX hF0 hF1 hH
    obtain ⟨f, rfl⟩ : ∃ f, fuel = f + 1 := ⟨fuel - 1, by omega⟩
    have hrd : I 41 1 = nI (s_rd s) := hX.1.2
    have hrt := hk.2.1
    have hrd2 := hS.1.2
    have hpl0 : k < pl := by rw [hpl]; split <;> omega
    have hl6 : (p_free C s 0).length ≤ 6 := by unfold p_free; omega
    have hr6 : (p_free C s 1).length ≤ 6 := by unfold p_free; omega
    rw [h_fix]
    generalize hg : z_fix (fun r x => X10_giveHands_B32 48 41 (nI (p_free C s 0).length) (nI (p_free C s 1).length) (nI pl) r x) f = rec
    show ∃ I', X10_giveHands_B32 48 41 _ _ _ rec (nI k) (hp I L ρ) = _ ∧ _
    unfold X10_giveHands_B32
    rw [h_if, if_neg (nI_ge (by omega) (by omega)), h_if, if_neg (nI_nle (by omega) (by omega)), gi_41, hrd, h_ck (nI_ne0 (by omega) (by omega)), nI_add, pk_rem (by omega) (by omega) (by omega), h_if]
    have ho : (k + s_rd s) % pl < pl := Nat.mod_lt _ (by omega)
    simp only [nI_le' (show (p_free C s 1).length < 2147483648 by omega) (show (k + s_rd s) % pl < 2147483648 by omega)]
    unfold X10_giveHands_J100
    by_cases q : (p_free C s 1).length ≤ (k + s_rd s) % pl
    · rw [if_pos q, nI_1, ← hg]
      exact ih (k + 1) I f (by omega) (by omega) hX hF0 hF1 (fun j hj => by rw [hH j hj, p_hs, if_neg (by omega)])
    · have fl := p_free_at hk hS (side := 0) (by omega) (show k < _ by omega)
      have fr := p_free_at hk hS (side := 1) (by omega) (show (k + s_rd s) % pl < _ by omega)
      have e0 := hF0 k (by omega)
      have e1 := hF1 ((k + s_rd s) % pl) (by omega)
      rw [Nat.zero_add] at e0
      rw [if_neg q, gr_48_4, la_52 (by omega), e0, gr_48_4, show (6 : Int32) = nI 6 from rfl, nI_add, la_52 (by omega), e1, gr_48_1, sa_49 (by omega), gr_48_1, sa_49 (by omega), nI_1, ← hg]
      obtain ⟨I', q1, q2, q3⟩ := ih (k + 1) (u2 (u2 I 49 ((p_free C s 0).getD k 0) (nI ((p_free C s 1).getD ((k + s_rd s) % pl) 0))) 49 ((p_free C s 1).getD ((k + s_rd s) % pl) 0) (nI ((p_free C s 0).getD k 0))) f (by omega) (by omega) (stX_fr (fun a h1 h2 => by funext i; rw [u2_ap, u2_ap, if_neg (by omega), if_neg (by omega)]) hX) (fun i hi => by rw [u2_ap, u2_ap, if_neg (by omega), if_neg (by omega)]; exact hF0 i hi) (fun i hi => by rw [u2_ap, u2_ap, if_neg (by omega), if_neg (by omega)]; exact hF1 i hi) (fun j hj => by
        rw [u2_ap, u2_ap, p_hs, if_pos (show (k + s_rd s) % pl < (p_free C s 1).length by omega)]
        by_cases c1 : j = (p_free C s 1).getD ((k + s_rd s) % pl) 0
        · rw [if_pos ⟨rfl, c1⟩, if_pos c1]; rfl
        · rw [if_neg (fun c => c1 c.2), if_neg c1]
          by_cases c2 : j = (p_free C s 0).getD k 0
          · rw [if_pos ⟨rfl, c2⟩, if_pos c2]; rfl
          · rw [if_neg (fun c => c2 c.2), if_neg c2, hH j hj])
      exact ⟨I', q1, fun a ha => by rw [q2 a ha]; funext i; rw [u2_ap, u2_ap, if_neg (by omega), if_neg (by omega)], q3⟩
theorem X10_give_13_41 (hk : okC C) (hS : okS C s) (hρ : ρ.2.2.1 = 13) (hC : chX 13 I C) (hX : stX 41 I s) : ∃ I', X10_giveHands 48 41 (hp I L ρ) = some (none, hp I' L ρ) ∧ (∀ a, a ≠ 49 → a ≠ 52 → I' a = I a) ∧ ∀ j, j < 12 → I' 49 j = oI (p_hold C s j) := by
  unfold X10_giveHands
  rw [gr_48_1, h_cv (J7_fill_h (by decide) zK_49 (by decide))]
  have f1 : ∀ a, a ≠ 49 → (fun b i => if b = 49 ∧ i < 12 then (-1 : Int32) else I b i) a = I a := fun a ha => by
    funext i
    simp [ha]
  generalize hI1 : (fun b i => if b = 49 ∧ i < 12 then (-1 : Int32) else I b i) = I1 at f1
  have h49 : ∀ j, j < 12 → I1 49 j = -1 := fun j hj => by rw [← hI1]; simp [hj]
  obtain ⟨I2, a1, a2, a3, a4⟩ := X10_gather_13_41 (L := L) hk hS hρ (side := 0) (by omega) (chX_fr (fun a h1 h2 => f1 a (by omega)) hC) (stX_fr (fun a h1 h2 => f1 a (by omega)) hX)
  have f2 : ∀ a, a ≠ 49 → a ≠ 52 → I2 a = I a := fun a h1 h2 => by rw [a2 a h2, f1 a h1]
  obtain ⟨I3, b1, b2, b3, b4⟩ := X10_gather_13_41 (L := L) hk hS hρ (side := 1) (by omega) (chX_fr (fun a h1 h2 => f2 a (by omega) (by omega)) hC) (stX_fr (fun a h1 h2 => f2 a (by omega) (by omega)) hX)
  have f3 : ∀ a, a ≠ 49 → a ≠ 52 → I3 a = I a := fun a h1 h2 => by rw [b2 a h2, f2 a h1 h2]
  have hl6 : (p_free C s 0).length ≤ 6 := Nat.le_trans (p_fr_le (s := s) 0 (k_n C 0)) (k_n_le hk 0)
  have hr6 : (p_free C s 1).length ≤ 6 := Nat.le_trans (p_fr_le (s := s) 1 (k_n C 1)) (k_n_le hk 1)
  rw [rc_48, h_ci (show X10_gatherFree 48 41 0 _ = _ from a1), rc_48, h_ci (show X10_gatherFree 48 41 1 _ = _ from b1)]
  have e : (if nI (p_free C s 0).length < nI (p_free C s 1).length then nI (p_free C s 1).length else nI (p_free C s 0).length) = nI (if (p_free C s 0).length < (p_free C s 1).length then (p_free C s 1).length else (p_free C s 0).length) := by
    simp only [nI_lt' (show (p_free C s 0).length < 2147483648 by omega) (show (p_free C s 1).length < 2147483648 by omega)]
    split <;> rfl
  rw [e]
  obtain ⟨I4, c1, c2, c3⟩ := X10_give_lp_13_41 (L := L) (ρ := ρ) hk hS rfl (p_free C s 0).length 0 I3 zFU (by omega) (by unfold zFU; omega) (stX_fr (fun a h1 h2 => f3 a (by omega) (by omega)) hX) (fun i hi => by
    rw [b3 _ (by omega)]
    exact a4 i hi) b4 (fun j hj => by rw [b2 _ (by omega), a2 _ (by omega), h49 j hj]; rfl)
  exact ⟨I4, c1, fun a h1 h2 => by rw [c2 a h1, f3 a h1 h2], c3⟩
theorem X10_gather_lp_13_54 (hk : okC C) (hS : okS C s) (hρ : ρ.2.2.1 = 13) {side : Nat} (hs : side < 2) : ∀ (m k : Nat) (I : Nat → Nat → Int32) (fuel : Nat), k + m = k_n C side → m < fuel → chX 13 I C → stX 54 I s → frX (I 52) (6 * side) (p_fr s side k) →
    ∃ I', z_fix (fun r x => X10_gatherFree_B5 48 54 (nI side) r x.1 x.2) fuel (nI (p_fr s side k).length, nI k) (hp I L ρ) = some (some (.int (nI (p_free C s side).length)), hp I' L ρ) ∧ (∀ a, a ≠ 52 → I' a = I a) ∧ (∀ i, (i < 6 * side ∨ 6 * side + 6 ≤ i) → I' 52 i = I 52 i) ∧ frX (I' 52) (6 * side) (p_free C s side) := by
  intro m
  induction m with
  | zero =>
    intro k I fuel h1 h2 hC hX hF
    obtain ⟨f, rfl⟩ : ∃ f, fuel = f + 1 := ⟨fuel - 1, by omega⟩
    have hcnt : I 14 side = nI (k_n C side) := by
      have hL : I 14 0 = nI (k_L C) := hC.1.1
      have hR : I 14 1 = nI (k_R C) := hC.1.2
      have : side = 0 ∨ side = 1 := by omega
      rcases this with rfl | rfl
      · exact hL
      · exact hR
    have hk6 := k_n_le hk side
    refine ⟨I, ?_, fun _ _ => rfl, fun _ _ => rfl, ?_⟩
    · rw [h_fix]
      show X10_gatherFree_B5 48 54 (nI side) _ (nI (p_fr s side k).length) (nI k) (hp I L ρ) = _
      unfold X10_gatherFree_B5
      rw [gr_48_0, hρ, gr_13_0, la_14 hs, hcnt, h_if, if_pos (nI_le (by omega) (by omega)), show k = k_n C side by omega]
      rfl
    · unfold p_free
      rw [show k_n C side = k by omega]
      exact hF
  | succ m ih =>
    intro k I fuel h1 h2 hC hX hF
    obtain ⟨f, rfl⟩ : ∃ f, fuel = f + 1 := ⟨fuel - 1, by omega⟩
    have hcnt : I 14 side = nI (k_n C side) := by
      have hL : I 14 0 = nI (k_L C) := hC.1.1
      have hR : I 14 1 = nI (k_R C) := hC.1.2
      have : side = 0 ∨ side = 1 := by omega
      rcases this with rfl | rfl
      · exact hL
      · exact hR
    have hk6 := k_n_le hk side
    have hO : ∀ j, j < 12 → I 55 j = nI (s_ord s j) := hX.2.1
    have hW : ∀ j, j < 12 → I 56 j = oI (s_wed s j) := hX.2.2.1
    have hth := k_th_of (C := C) hs (show k < k_n C side by omega)
    have ho := hS.2.1 _ hth
    have ho12 := k_th_lt hk ho.1
    have hlen := p_fr_le (s := s) side k
    rw [h_fix]
    generalize hg : z_fix (fun r x => X10_gatherFree_B5 48 54 (nI side) r x.1 x.2) f = rec
    have step : ∀ (I1 : Nat → Nat → Int32), (∀ a, a ≠ 52 → I1 a = I a) → (∀ i, (i < 6 * side ∨ 6 * side + 6 ≤ i) → I1 52 i = I 52 i) → frX (I1 52) (6 * side) (p_fr s side (k + 1)) → ∃ I', rec (nI (p_fr s side (k + 1)).length, nI (k + 1)) (hp I1 L ρ) = some (some (.int (nI (p_free C s side).length)), hp I' L ρ) ∧ (∀ a, a ≠ 52 → I' a = I a) ∧ (∀ i, (i < 6 * side ∨ 6 * side + 6 ≤ i) → I' 52 i = I 52 i) ∧ frX (I' 52) (6 * side) (p_free C s side) := by
      intro I1 e1 e2 e3
      obtain ⟨I', q1, q2, q3, q4⟩ := ih (k + 1) I1 f (by omega) (by omega) (chX_fr (fun a _ _ => e1 a (by omega)) hC) (stX_fr (fun a h1 h2 => e1 a (by omega)) hX) e3
      exact ⟨I', by rw [← hg]; exact q1, fun a ha => by rw [q2 a ha, e1 a ha], fun i hi => by rw [q3 i hi, e2 i hi], q4⟩
    show ∃ I', X10_gatherFree_B5 48 54 (nI side) rec (nI (p_fr s side k).length) (nI k) (hp I L ρ) = _ ∧ _
    unfold X10_gatherFree_B5
    rw [gr_48_0, hρ, gr_13_0, la_14 hs, hcnt, h_if, if_neg (nI_ge (by omega) (by omega)), gr_54_2, show (6 : Int32) = nI 6 from rfl, pk_mul, nI_add, la_55 (by omega), Nat.mul_comm side 6, hO _ (by omega), gr_54_3, la_56 (by omega), hW _ (by omega), h_if]
    simp only [oI_m1 (fun b e => Nat.lt_trans (k_th_lt hk (hS.2.2.2.1 _ b e).2.1) (by decide))]
    unfold X10_gatherFree_J60
    by_cases q : s_wed s (s_ord s (6 * side + k)) = none
    · have e : p_fr s side (k + 1) = p_fr s side k ++ [s_ord s (6 * side + k)] := by rw [p_fr, if_pos q]
      rw [if_pos q, gr_48_4, nI_add, sa_52 (by omega), nI_1, nI_1]
      have st := step (u2 I 52 (6 * side + (p_fr s side k).length) (nI (s_ord s (6 * side + k)))) (fun a ha => by funext i; simp [u2, ha]) (fun i hi => by rw [u2_ap, if_neg (by omega)]) (by rw [e]; exact frX_snoc hF (by simp [u2]) (fun i hi => by rw [u2_ap, if_neg (by omega)]))
      rw [e, List.length_append, List.length_singleton] at st
      exact st
    · have e : p_fr s side (k + 1) = p_fr s side k := by rw [p_fr, if_neg q]
      rw [if_neg q, nI_1]
      have st := step I (fun _ _ => rfl) (fun _ _ => rfl) (by rw [e]; exact hF)
      rw [e] at st
      exact st
theorem X10_gather_13_54 (hk : okC C) (hS : okS C s) (hρ : ρ.2.2.1 = 13) {side : Nat} (hs : side < 2) (hC : chX 13 I C) (hX : stX 54 I s) : ∃ I', X10_gatherFree 48 54 (nI side) (hp I L ρ) = some (some (.int (nI (p_free C s side).length)), hp I' L ρ) ∧ (∀ a, a ≠ 52 → I' a = I a) ∧ (∀ i, (i < 6 * side ∨ 6 * side + 6 ≤ i) → I' 52 i = I 52 i) ∧ frX (I' 52) (6 * side) (p_free C s side) :=
  X10_gather_lp_13_54 hk hS hρ hs (k_n C side) 0 I zFU (by omega) (by have := k_n_le hk side; unfold zFU; omega) hC hX (fun i hi => absurd hi (by simp [p_fr]))
theorem X10_give_lp_13_54 (hk : okC C) (hS : okS C s) {pl : Nat} (hpl : pl = if (p_free C s 0).length < (p_free C s 1).length then (p_free C s 1).length else (p_free C s 0).length) : ∀ (m k : Nat) (I : Nat → Nat → Int32) (fuel : Nat), k + m = (p_free C s 0).length → m < fuel → stX 54 I s → frX (I 52) 0 (p_free C s 0) → frX (I 52) 6 (p_free C s 1) → (∀ j, j < 12 → I 49 j = oI (p_hs (p_free C s 0) (p_free C s 1) (s_rd s) pl k j)) →
    ∃ I', z_fix (fun r x => X10_giveHands_B32 48 54 (nI (p_free C s 0).length) (nI (p_free C s 1).length) (nI pl) r x) fuel (nI k) (hp I L ρ) = some (none, hp I' L ρ) ∧ (∀ a, a ≠ 49 → I' a = I a) ∧ ∀ j, j < 12 → I' 49 j = oI (p_hold C s j) := by
  have l0 := p_fr_le (s := s) 0 (k_n C 0)
  have l1 := p_fr_le (s := s) 1 (k_n C 1)
  have l2 := k_n_le hk 0
  have l3 := k_n_le hk 1
  have hpl6 : pl ≤ 6 := by rw [hpl]; unfold p_free; split <;> omega
  intro m
  induction m with
  | zero =>
    intro k I fuel h1 h2 hX hF0 hF1 hH
    obtain ⟨f, rfl⟩ : ∃ f, fuel = f + 1 := ⟨fuel - 1, by omega⟩
    refine ⟨I, ?_, fun _ _ => rfl, ?_⟩
    · rw [h_fix]
      show X10_giveHands_B32 48 54 _ _ _ _ (nI k) (hp I L ρ) = _
      unfold X10_giveHands_B32
      rw [h_if, if_pos (nI_le (by omega) (by unfold p_free at h1; omega))]
      rfl
    · intro j hj
      rw [hH j hj]
      unfold p_hold
      rw [← hpl, show k = (p_free C s 0).length by omega]
  | succ m ih =>
    intro k I fuel h1 h2 hX hF0 hF1 hH
    obtain ⟨f, rfl⟩ : ∃ f, fuel = f + 1 := ⟨fuel - 1, by omega⟩
    have hrd : I 54 1 = nI (s_rd s) := hX.1.2
    have hrt := hk.2.1
    have hrd2 := hS.1.2
    have hpl0 : k < pl := by rw [hpl]; split <;> omega
    have hl6 : (p_free C s 0).length ≤ 6 := by unfold p_free; omega
    have hr6 : (p_free C s 1).length ≤ 6 := by unfold p_free; omega
    rw [h_fix]
    generalize hg : z_fix (fun r x => X10_giveHands_B32 48 54 (nI (p_free C s 0).length) (nI (p_free C s 1).length) (nI pl) r x) f = rec
    show ∃ I', X10_giveHands_B32 48 54 _ _ _ rec (nI k) (hp I L ρ) = _ ∧ _
    unfold X10_giveHands_B32
    rw [h_if, if_neg (nI_ge (by omega) (by omega)), h_if, if_neg (nI_nle (by omega) (by omega)), gi_54, hrd, h_ck (nI_ne0 (by omega) (by omega)), nI_add, pk_rem (by omega) (by omega) (by omega), h_if]
    have ho : (k + s_rd s) % pl < pl := Nat.mod_lt _ (by omega)
    simp only [nI_le' (show (p_free C s 1).length < 2147483648 by omega) (show (k + s_rd s) % pl < 2147483648 by omega)]
    unfold X10_giveHands_J100
    by_cases q : (p_free C s 1).length ≤ (k + s_rd s) % pl
    · rw [if_pos q, nI_1, ← hg]
      exact ih (k + 1) I f (by omega) (by omega) hX hF0 hF1 (fun j hj => by rw [hH j hj, p_hs, if_neg (by omega)])
    · have fl := p_free_at hk hS (side := 0) (by omega) (show k < _ by omega)
      have fr := p_free_at hk hS (side := 1) (by omega) (show (k + s_rd s) % pl < _ by omega)
      have e0 := hF0 k (by omega)
      have e1 := hF1 ((k + s_rd s) % pl) (by omega)
      rw [Nat.zero_add] at e0
      rw [if_neg q, gr_48_4, la_52 (by omega), e0, gr_48_4, show (6 : Int32) = nI 6 from rfl, nI_add, la_52 (by omega), e1, gr_48_1, sa_49 (by omega), gr_48_1, sa_49 (by omega), nI_1, ← hg]
      obtain ⟨I', q1, q2, q3⟩ := ih (k + 1) (u2 (u2 I 49 ((p_free C s 0).getD k 0) (nI ((p_free C s 1).getD ((k + s_rd s) % pl) 0))) 49 ((p_free C s 1).getD ((k + s_rd s) % pl) 0) (nI ((p_free C s 0).getD k 0))) f (by omega) (by omega) (stX_fr (fun a h1 h2 => by funext i; rw [u2_ap, u2_ap, if_neg (by omega), if_neg (by omega)]) hX) (fun i hi => by rw [u2_ap, u2_ap, if_neg (by omega), if_neg (by omega)]; exact hF0 i hi) (fun i hi => by rw [u2_ap, u2_ap, if_neg (by omega), if_neg (by omega)]; exact hF1 i hi) (fun j hj => by
        rw [u2_ap, u2_ap, p_hs, if_pos (show (k + s_rd s) % pl < (p_free C s 1).length by omega)]
        by_cases c1 : j = (p_free C s 1).getD ((k + s_rd s) % pl) 0
        · rw [if_pos ⟨rfl, c1⟩, if_pos c1]; rfl
        · rw [if_neg (fun c => c1 c.2), if_neg c1]
          by_cases c2 : j = (p_free C s 0).getD k 0
          · rw [if_pos ⟨rfl, c2⟩, if_pos c2]; rfl
          · rw [if_neg (fun c => c2 c.2), if_neg c2, hH j hj])
      exact ⟨I', q1, fun a ha => by rw [q2 a ha]; funext i; rw [u2_ap, u2_ap, if_neg (by omega), if_neg (by omega)], q3⟩
theorem X10_give_13_54 (hk : okC C) (hS : okS C s) (hρ : ρ.2.2.1 = 13) (hC : chX 13 I C) (hX : stX 54 I s) : ∃ I', X10_giveHands 48 54 (hp I L ρ) = some (none, hp I' L ρ) ∧ (∀ a, a ≠ 49 → a ≠ 52 → I' a = I a) ∧ ∀ j, j < 12 → I' 49 j = oI (p_hold C s j) := by
  unfold X10_giveHands
  rw [gr_48_1, h_cv (J7_fill_h (by decide) zK_49 (by decide))]
  have f1 : ∀ a, a ≠ 49 → (fun b i => if b = 49 ∧ i < 12 then (-1 : Int32) else I b i) a = I a := fun a ha => by
    funext i
    simp [ha]
  generalize hI1 : (fun b i => if b = 49 ∧ i < 12 then (-1 : Int32) else I b i) = I1 at f1
  have h49 : ∀ j, j < 12 → I1 49 j = -1 := fun j hj => by rw [← hI1]; simp [hj]
  obtain ⟨I2, a1, a2, a3, a4⟩ := X10_gather_13_54 (L := L) hk hS hρ (side := 0) (by omega) (chX_fr (fun a h1 h2 => f1 a (by omega)) hC) (stX_fr (fun a h1 h2 => f1 a (by omega)) hX)
  have f2 : ∀ a, a ≠ 49 → a ≠ 52 → I2 a = I a := fun a h1 h2 => by rw [a2 a h2, f1 a h1]
  obtain ⟨I3, b1, b2, b3, b4⟩ := X10_gather_13_54 (L := L) hk hS hρ (side := 1) (by omega) (chX_fr (fun a h1 h2 => f2 a (by omega) (by omega)) hC) (stX_fr (fun a h1 h2 => f2 a (by omega) (by omega)) hX)
  have f3 : ∀ a, a ≠ 49 → a ≠ 52 → I3 a = I a := fun a h1 h2 => by rw [b2 a h2, f2 a h1 h2]
  have hl6 : (p_free C s 0).length ≤ 6 := Nat.le_trans (p_fr_le (s := s) 0 (k_n C 0)) (k_n_le hk 0)
  have hr6 : (p_free C s 1).length ≤ 6 := Nat.le_trans (p_fr_le (s := s) 1 (k_n C 1)) (k_n_le hk 1)
  rw [rc_48, h_ci (show X10_gatherFree 48 54 0 _ = _ from a1), rc_48, h_ci (show X10_gatherFree 48 54 1 _ = _ from b1)]
  have e : (if nI (p_free C s 0).length < nI (p_free C s 1).length then nI (p_free C s 1).length else nI (p_free C s 0).length) = nI (if (p_free C s 0).length < (p_free C s 1).length then (p_free C s 1).length else (p_free C s 0).length) := by
    simp only [nI_lt' (show (p_free C s 0).length < 2147483648 by omega) (show (p_free C s 1).length < 2147483648 by omega)]
    split <;> rfl
  rw [e]
  obtain ⟨I4, c1, c2, c3⟩ := X10_give_lp_13_54 (L := L) (ρ := ρ) hk hS rfl (p_free C s 0).length 0 I3 zFU (by omega) (by unfold zFU; omega) (stX_fr (fun a h1 h2 => f3 a (by omega) (by omega)) hX) (fun i hi => by
    rw [b3 _ (by omega)]
    exact a4 i hi) b4 (fun j hj => by rw [b2 _ (by omega), a2 _ (by omega), h49 j hj]; rfl)
  exact ⟨I4, c1, fun a h1 h2 => by rw [c2 a h1, f3 a h1 h2], c3⟩
theorem X10_gather_lp_27_41 (hk : okC C) (hS : okS C s) (hρ : ρ.2.2.1 = 27) {side : Nat} (hs : side < 2) : ∀ (m k : Nat) (I : Nat → Nat → Int32) (fuel : Nat), k + m = k_n C side → m < fuel → chX 27 I C → stX 41 I s → frX (I 52) (6 * side) (p_fr s side k) →
    ∃ I', z_fix (fun r x => X10_gatherFree_B5 48 41 (nI side) r x.1 x.2) fuel (nI (p_fr s side k).length, nI k) (hp I L ρ) = some (some (.int (nI (p_free C s side).length)), hp I' L ρ) ∧ (∀ a, a ≠ 52 → I' a = I a) ∧ (∀ i, (i < 6 * side ∨ 6 * side + 6 ≤ i) → I' 52 i = I 52 i) ∧ frX (I' 52) (6 * side) (p_free C s side) := by
  intro m
  induction m with
  | zero =>
    intro k I fuel h1 h2 hC hX hF
    obtain ⟨f, rfl⟩ : ∃ f, fuel = f + 1 := ⟨fuel - 1, by omega⟩
    have hcnt : I 28 side = nI (k_n C side) := by
      have hL : I 28 0 = nI (k_L C) := hC.1.1
      have hR : I 28 1 = nI (k_R C) := hC.1.2
      have : side = 0 ∨ side = 1 := by omega
      rcases this with rfl | rfl
      · exact hL
      · exact hR
    have hk6 := k_n_le hk side
    refine ⟨I, ?_, fun _ _ => rfl, fun _ _ => rfl, ?_⟩
    · rw [h_fix]
      show X10_gatherFree_B5 48 41 (nI side) _ (nI (p_fr s side k).length) (nI k) (hp I L ρ) = _
      unfold X10_gatherFree_B5
      rw [gr_48_0, hρ, gr_27_0, la_28 hs, hcnt, h_if, if_pos (nI_le (by omega) (by omega)), show k = k_n C side by omega]
      rfl
    · unfold p_free
      rw [show k_n C side = k by omega]
      exact hF
  | succ m ih =>
    intro k I fuel h1 h2 hC hX hF
    obtain ⟨f, rfl⟩ : ∃ f, fuel = f + 1 := ⟨fuel - 1, by omega⟩
    have hcnt : I 28 side = nI (k_n C side) := by
      have hL : I 28 0 = nI (k_L C) := hC.1.1
      have hR : I 28 1 = nI (k_R C) := hC.1.2
      have : side = 0 ∨ side = 1 := by omega
      rcases this with rfl | rfl
      · exact hL
      · exact hR
    have hk6 := k_n_le hk side
    have hO : ∀ j, j < 12 → I 42 j = nI (s_ord s j) := hX.2.1
    have hW : ∀ j, j < 12 → I 43 j = oI (s_wed s j) := hX.2.2.1
    have hth := k_th_of (C := C) hs (show k < k_n C side by omega)
    have ho := hS.2.1 _ hth
    have ho12 := k_th_lt hk ho.1
    have hlen := p_fr_le (s := s) side k
    rw [h_fix]
    generalize hg : z_fix (fun r x => X10_gatherFree_B5 48 41 (nI side) r x.1 x.2) f = rec
    have step : ∀ (I1 : Nat → Nat → Int32), (∀ a, a ≠ 52 → I1 a = I a) → (∀ i, (i < 6 * side ∨ 6 * side + 6 ≤ i) → I1 52 i = I 52 i) → frX (I1 52) (6 * side) (p_fr s side (k + 1)) → ∃ I', rec (nI (p_fr s side (k + 1)).length, nI (k + 1)) (hp I1 L ρ) = some (some (.int (nI (p_free C s side).length)), hp I' L ρ) ∧ (∀ a, a ≠ 52 → I' a = I a) ∧ (∀ i, (i < 6 * side ∨ 6 * side + 6 ≤ i) → I' 52 i = I 52 i) ∧ frX (I' 52) (6 * side) (p_free C s side) := by
      intro I1 e1 e2 e3
      obtain ⟨I', q1, q2, q3, q4⟩ := ih (k + 1) I1 f (by omega) (by omega) (chX_fr (fun a _ _ => e1 a (by omega)) hC) (stX_fr (fun a h1 h2 => e1 a (by omega)) hX) e3
      exact ⟨I', by rw [← hg]; exact q1, fun a ha => by rw [q2 a ha, e1 a ha], fun i hi => by rw [q3 i hi, e2 i hi], q4⟩
    show ∃ I', X10_gatherFree_B5 48 41 (nI side) rec (nI (p_fr s side k).length) (nI k) (hp I L ρ) = _ ∧ _
    unfold X10_gatherFree_B5
    rw [gr_48_0, hρ, gr_27_0, la_28 hs, hcnt, h_if, if_neg (nI_ge (by omega) (by omega)), gr_41_2, show (6 : Int32) = nI 6 from rfl, pk_mul, nI_add, la_42 (by omega), Nat.mul_comm side 6, hO _ (by omega), gr_41_3, la_43 (by omega), hW _ (by omega), h_if]
    simp only [oI_m1 (fun b e => Nat.lt_trans (k_th_lt hk (hS.2.2.2.1 _ b e).2.1) (by decide))]
    unfold X10_gatherFree_J60
    by_cases q : s_wed s (s_ord s (6 * side + k)) = none
    · have e : p_fr s side (k + 1) = p_fr s side k ++ [s_ord s (6 * side + k)] := by rw [p_fr, if_pos q]
      rw [if_pos q, gr_48_4, nI_add, sa_52 (by omega), nI_1, nI_1]
      have st := step (u2 I 52 (6 * side + (p_fr s side k).length) (nI (s_ord s (6 * side + k)))) (fun a ha => by funext i; simp [u2, ha]) (fun i hi => by rw [u2_ap, if_neg (by omega)]) (by rw [e]; exact frX_snoc hF (by simp [u2]) (fun i hi => by rw [u2_ap, if_neg (by omega)]))
      rw [e, List.length_append, List.length_singleton] at st
      exact st
    · have e : p_fr s side (k + 1) = p_fr s side k := by rw [p_fr, if_neg q]
      rw [if_neg q, nI_1]
      have st := step I (fun _ _ => rfl) (fun _ _ => rfl) (by rw [e]; exact hF)
      rw [e] at st
      exact st
theorem X10_gather_27_41 (hk : okC C) (hS : okS C s) (hρ : ρ.2.2.1 = 27) {side : Nat} (hs : side < 2) (hC : chX 27 I C) (hX : stX 41 I s) : ∃ I', X10_gatherFree 48 41 (nI side) (hp I L ρ) = some (some (.int (nI (p_free C s side).length)), hp I' L ρ) ∧ (∀ a, a ≠ 52 → I' a = I a) ∧ (∀ i, (i < 6 * side ∨ 6 * side + 6 ≤ i) → I' 52 i = I 52 i) ∧ frX (I' 52) (6 * side) (p_free C s side) :=
  X10_gather_lp_27_41 hk hS hρ hs (k_n C side) 0 I zFU (by omega) (by have := k_n_le hk side; unfold zFU; omega) hC hX (fun i hi => absurd hi (by simp [p_fr]))
theorem X10_give_lp_27_41 (hk : okC C) (hS : okS C s) {pl : Nat} (hpl : pl = if (p_free C s 0).length < (p_free C s 1).length then (p_free C s 1).length else (p_free C s 0).length) : ∀ (m k : Nat) (I : Nat → Nat → Int32) (fuel : Nat), k + m = (p_free C s 0).length → m < fuel → stX 41 I s → frX (I 52) 0 (p_free C s 0) → frX (I 52) 6 (p_free C s 1) → (∀ j, j < 12 → I 49 j = oI (p_hs (p_free C s 0) (p_free C s 1) (s_rd s) pl k j)) →
    ∃ I', z_fix (fun r x => X10_giveHands_B32 48 41 (nI (p_free C s 0).length) (nI (p_free C s 1).length) (nI pl) r x) fuel (nI k) (hp I L ρ) = some (none, hp I' L ρ) ∧ (∀ a, a ≠ 49 → I' a = I a) ∧ ∀ j, j < 12 → I' 49 j = oI (p_hold C s j) := by
  have l0 := p_fr_le (s := s) 0 (k_n C 0)
  have l1 := p_fr_le (s := s) 1 (k_n C 1)
  have l2 := k_n_le hk 0
  have l3 := k_n_le hk 1
  have hpl6 : pl ≤ 6 := by rw [hpl]; unfold p_free; split <;> omega
  intro m
  induction m with
  | zero =>
    intro k I fuel h1 h2 hX hF0 hF1 hH
    obtain ⟨f, rfl⟩ : ∃ f, fuel = f + 1 := ⟨fuel - 1, by omega⟩
    refine ⟨I, ?_, fun _ _ => rfl, ?_⟩
    · rw [h_fix]
      show X10_giveHands_B32 48 41 _ _ _ _ (nI k) (hp I L ρ) = _
      unfold X10_giveHands_B32
      rw [h_if, if_pos (nI_le (by omega) (by unfold p_free at h1; omega))]
      rfl
    · intro j hj
      rw [hH j hj]
      unfold p_hold
      rw [← hpl, show k = (p_free C s 0).length by omega]
  | succ m ih =>
    intro k I fuel h1 h2 hX hF0 hF1 hH
    obtain ⟨f, rfl⟩ : ∃ f, fuel = f + 1 := ⟨fuel - 1, by omega⟩
    have hrd : I 41 1 = nI (s_rd s) := hX.1.2
    have hrt := hk.2.1
    have hrd2 := hS.1.2
    have hpl0 : k < pl := by rw [hpl]; split <;> omega
    have hl6 : (p_free C s 0).length ≤ 6 := by unfold p_free; omega
    have hr6 : (p_free C s 1).length ≤ 6 := by unfold p_free; omega
    rw [h_fix]
    generalize hg : z_fix (fun r x => X10_giveHands_B32 48 41 (nI (p_free C s 0).length) (nI (p_free C s 1).length) (nI pl) r x) f = rec
    show ∃ I', X10_giveHands_B32 48 41 _ _ _ rec (nI k) (hp I L ρ) = _ ∧ _
    unfold X10_giveHands_B32
    rw [h_if, if_neg (nI_ge (by omega) (by omega)), h_if, if_neg (nI_nle (by omega) (by omega)), gi_41, hrd, h_ck (nI_ne0 (by omega) (by omega)), nI_add, pk_rem (by omega) (by omega) (by omega), h_if]
    have ho : (k + s_rd s) % pl < pl := Nat.mod_lt _ (by omega)
    simp only [nI_le' (show (p_free C s 1).length < 2147483648 by omega) (show (k + s_rd s) % pl < 2147483648 by omega)]
    unfold X10_giveHands_J100
    by_cases q : (p_free C s 1).length ≤ (k + s_rd s) % pl
    · rw [if_pos q, nI_1, ← hg]
      exact ih (k + 1) I f (by omega) (by omega) hX hF0 hF1 (fun j hj => by rw [hH j hj, p_hs, if_neg (by omega)])
    · have fl := p_free_at hk hS (side := 0) (by omega) (show k < _ by omega)
      have fr := p_free_at hk hS (side := 1) (by omega) (show (k + s_rd s) % pl < _ by omega)
      have e0 := hF0 k (by omega)
      have e1 := hF1 ((k + s_rd s) % pl) (by omega)
      rw [Nat.zero_add] at e0
      rw [if_neg q, gr_48_4, la_52 (by omega), e0, gr_48_4, show (6 : Int32) = nI 6 from rfl, nI_add, la_52 (by omega), e1, gr_48_1, sa_49 (by omega), gr_48_1, sa_49 (by omega), nI_1, ← hg]
      obtain ⟨I', q1, q2, q3⟩ := ih (k + 1) (u2 (u2 I 49 ((p_free C s 0).getD k 0) (nI ((p_free C s 1).getD ((k + s_rd s) % pl) 0))) 49 ((p_free C s 1).getD ((k + s_rd s) % pl) 0) (nI ((p_free C s 0).getD k 0))) f (by omega) (by omega) (stX_fr (fun a h1 h2 => by funext i; rw [u2_ap, u2_ap, if_neg (by omega), if_neg (by omega)]) hX) (fun i hi => by rw [u2_ap, u2_ap, if_neg (by omega), if_neg (by omega)]; exact hF0 i hi) (fun i hi => by rw [u2_ap, u2_ap, if_neg (by omega), if_neg (by omega)]; exact hF1 i hi) (fun j hj => by
        rw [u2_ap, u2_ap, p_hs, if_pos (show (k + s_rd s) % pl < (p_free C s 1).length by omega)]
        by_cases c1 : j = (p_free C s 1).getD ((k + s_rd s) % pl) 0
        · rw [if_pos ⟨rfl, c1⟩, if_pos c1]; rfl
        · rw [if_neg (fun c => c1 c.2), if_neg c1]
          by_cases c2 : j = (p_free C s 0).getD k 0
          · rw [if_pos ⟨rfl, c2⟩, if_pos c2]; rfl
          · rw [if_neg (fun c => c2 c.2), if_neg c2, hH j hj])
      exact ⟨I', q1, fun a ha => by rw [q2 a ha]; funext i; rw [u2_ap, u2_ap, if_neg (by omega), if_neg (by omega)], q3⟩
theorem X10_give_27_41 (hk : okC C) (hS : okS C s) (hρ : ρ.2.2.1 = 27) (hC : chX 27 I C) (hX : stX 41 I s) : ∃ I', X10_giveHands 48 41 (hp I L ρ) = some (none, hp I' L ρ) ∧ (∀ a, a ≠ 49 → a ≠ 52 → I' a = I a) ∧ ∀ j, j < 12 → I' 49 j = oI (p_hold C s j) := by
  unfold X10_giveHands
  rw [gr_48_1, h_cv (J7_fill_h (by decide) zK_49 (by decide))]
  have f1 : ∀ a, a ≠ 49 → (fun b i => if b = 49 ∧ i < 12 then (-1 : Int32) else I b i) a = I a := fun a ha => by
    funext i
    simp [ha]
  generalize hI1 : (fun b i => if b = 49 ∧ i < 12 then (-1 : Int32) else I b i) = I1 at f1
  have h49 : ∀ j, j < 12 → I1 49 j = -1 := fun j hj => by rw [← hI1]; simp [hj]
  obtain ⟨I2, a1, a2, a3, a4⟩ := X10_gather_27_41 (L := L) hk hS hρ (side := 0) (by omega) (chX_fr (fun a h1 h2 => f1 a (by omega)) hC) (stX_fr (fun a h1 h2 => f1 a (by omega)) hX)
  have f2 : ∀ a, a ≠ 49 → a ≠ 52 → I2 a = I a := fun a h1 h2 => by rw [a2 a h2, f1 a h1]
  obtain ⟨I3, b1, b2, b3, b4⟩ := X10_gather_27_41 (L := L) hk hS hρ (side := 1) (by omega) (chX_fr (fun a h1 h2 => f2 a (by omega) (by omega)) hC) (stX_fr (fun a h1 h2 => f2 a (by omega) (by omega)) hX)
  have f3 : ∀ a, a ≠ 49 → a ≠ 52 → I3 a = I a := fun a h1 h2 => by rw [b2 a h2, f2 a h1 h2]
  have hl6 : (p_free C s 0).length ≤ 6 := Nat.le_trans (p_fr_le (s := s) 0 (k_n C 0)) (k_n_le hk 0)
  have hr6 : (p_free C s 1).length ≤ 6 := Nat.le_trans (p_fr_le (s := s) 1 (k_n C 1)) (k_n_le hk 1)
  rw [rc_48, h_ci (show X10_gatherFree 48 41 0 _ = _ from a1), rc_48, h_ci (show X10_gatherFree 48 41 1 _ = _ from b1)]
  have e : (if nI (p_free C s 0).length < nI (p_free C s 1).length then nI (p_free C s 1).length else nI (p_free C s 0).length) = nI (if (p_free C s 0).length < (p_free C s 1).length then (p_free C s 1).length else (p_free C s 0).length) := by
    simp only [nI_lt' (show (p_free C s 0).length < 2147483648 by omega) (show (p_free C s 1).length < 2147483648 by omega)]
    split <;> rfl
  rw [e]
  obtain ⟨I4, c1, c2, c3⟩ := X10_give_lp_27_41 (L := L) (ρ := ρ) hk hS rfl (p_free C s 0).length 0 I3 zFU (by omega) (by unfold zFU; omega) (stX_fr (fun a h1 h2 => f3 a (by omega) (by omega)) hX) (fun i hi => by
    rw [b3 _ (by omega)]
    exact a4 i hi) b4 (fun j hj => by rw [b2 _ (by omega), a2 _ (by omega), h49 j hj]; rfl)
  exact ⟨I4, c1, fun a h1 h2 => by rw [c2 a h1, f3 a h1 h2], c3⟩
theorem X10_gather_lp_27_54 (hk : okC C) (hS : okS C s) (hρ : ρ.2.2.1 = 27) {side : Nat} (hs : side < 2) : ∀ (m k : Nat) (I : Nat → Nat → Int32) (fuel : Nat), k + m = k_n C side → m < fuel → chX 27 I C → stX 54 I s → frX (I 52) (6 * side) (p_fr s side k) →
    ∃ I', z_fix (fun r x => X10_gatherFree_B5 48 54 (nI side) r x.1 x.2) fuel (nI (p_fr s side k).length, nI k) (hp I L ρ) = some (some (.int (nI (p_free C s side).length)), hp I' L ρ) ∧ (∀ a, a ≠ 52 → I' a = I a) ∧ (∀ i, (i < 6 * side ∨ 6 * side + 6 ≤ i) → I' 52 i = I 52 i) ∧ frX (I' 52) (6 * side) (p_free C s side) := by
  intro m
  induction m with
  | zero =>
    intro k I fuel h1 h2 hC hX hF
    obtain ⟨f, rfl⟩ : ∃ f, fuel = f + 1 := ⟨fuel - 1, by omega⟩
    have hcnt : I 28 side = nI (k_n C side) := by
      have hL : I 28 0 = nI (k_L C) := hC.1.1
      have hR : I 28 1 = nI (k_R C) := hC.1.2
      have : side = 0 ∨ side = 1 := by omega
      rcases this with rfl | rfl
      · exact hL
      · exact hR
    have hk6 := k_n_le hk side
    refine ⟨I, ?_, fun _ _ => rfl, fun _ _ => rfl, ?_⟩
    · rw [h_fix]
      show X10_gatherFree_B5 48 54 (nI side) _ (nI (p_fr s side k).length) (nI k) (hp I L ρ) = _
      unfold X10_gatherFree_B5
      rw [gr_48_0, hρ, gr_27_0, la_28 hs, hcnt, h_if, if_pos (nI_le (by omega) (by omega)), show k = k_n C side by omega]
      rfl
    · unfold p_free
      rw [show k_n C side = k by omega]
      exact hF
  | succ m ih =>
    intro k I fuel h1 h2 hC hX hF
    obtain ⟨f, rfl⟩ : ∃ f, fuel = f + 1 := ⟨fuel - 1, by omega⟩
    have hcnt : I 28 side = nI (k_n C side) := by
      have hL : I 28 0 = nI (k_L C) := hC.1.1
      have hR : I 28 1 = nI (k_R C) := hC.1.2
      have : side = 0 ∨ side = 1 := by omega
      rcases this with rfl | rfl
      · exact hL
      · exact hR
    have hk6 := k_n_le hk side
    have hO : ∀ j, j < 12 → I 55 j = nI (s_ord s j) := hX.2.1
    have hW : ∀ j, j < 12 → I 56 j = oI (s_wed s j) := hX.2.2.1
    have hth := k_th_of (C := C) hs (show k < k_n C side by omega)
    have ho := hS.2.1 _ hth
    have ho12 := k_th_lt hk ho.1
    have hlen := p_fr_le (s := s) side k
    rw [h_fix]
    generalize hg : z_fix (fun r x => X10_gatherFree_B5 48 54 (nI side) r x.1 x.2) f = rec
    have step : ∀ (I1 : Nat → Nat → Int32), (∀ a, a ≠ 52 → I1 a = I a) → (∀ i, (i < 6 * side ∨ 6 * side + 6 ≤ i) → I1 52 i = I 52 i) → frX (I1 52) (6 * side) (p_fr s side (k + 1)) → ∃ I', rec (nI (p_fr s side (k + 1)).length, nI (k + 1)) (hp I1 L ρ) = some (some (.int (nI (p_free C s side).length)), hp I' L ρ) ∧ (∀ a, a ≠ 52 → I' a = I a) ∧ (∀ i, (i < 6 * side ∨ 6 * side + 6 ≤ i) → I' 52 i = I 52 i) ∧ frX (I' 52) (6 * side) (p_free C s side) := by
      intro I1 e1 e2 e3
      obtain ⟨I', q1, q2, q3, q4⟩ := ih (k + 1) I1 f (by omega) (by omega) (chX_fr (fun a _ _ => e1 a (by omega)) hC) (stX_fr (fun a h1 h2 => e1 a (by omega)) hX) e3
      exact ⟨I', by rw [← hg]; exact q1, fun a ha => by rw [q2 a ha, e1 a ha], fun i hi => by rw [q3 i hi, e2 i hi], q4⟩
    show ∃ I', X10_gatherFree_B5 48 54 (nI side) rec (nI (p_fr s side k).length) (nI k) (hp I L ρ) = _ ∧ _
    unfold X10_gatherFree_B5
    rw [gr_48_0, hρ, gr_27_0, la_28 hs, hcnt, h_if, if_neg (nI_ge (by omega) (by omega)), gr_54_2, show (6 : Int32) = nI 6 from rfl, pk_mul, nI_add, la_55 (by omega), Nat.mul_comm side 6, hO _ (by omega), gr_54_3, la_56 (by omega), hW _ (by omega), h_if]
    simp only [oI_m1 (fun b e => Nat.lt_trans (k_th_lt hk (hS.2.2.2.1 _ b e).2.1) (by decide))]
    unfold X10_gatherFree_J60
    by_cases q : s_wed s (s_ord s (6 * side + k)) = none
    · have e : p_fr s side (k + 1) = p_fr s side k ++ [s_ord s (6 * side + k)] := by rw [p_fr, if_pos q]
      rw [if_pos q, gr_48_4, nI_add, sa_52 (by omega), nI_1, nI_1]
      have st := step (u2 I 52 (6 * side + (p_fr s side k).length) (nI (s_ord s (6 * side + k)))) (fun a ha => by funext i; simp [u2, ha]) (fun i hi => by rw [u2_ap, if_neg (by omega)]) (by rw [e]; exact frX_snoc hF (by simp [u2]) (fun i hi => by rw [u2_ap, if_neg (by omega)]))
      rw [e, List.length_append, List.length_singleton] at st
      exact st
    · have e : p_fr s side (k + 1) = p_fr s side k := by rw [p_fr, if_neg q]
      rw [if_neg q, nI_1]
      have st := step I (fun _ _ => rfl) (fun _ _ => rfl) (by rw [e]; exact hF)
      rw [e] at st
      exact st
theorem X10_gather_27_54 (hk : okC C) (hS : okS C s) (hρ : ρ.2.2.1 = 27) {side : Nat} (hs : side < 2) (hC : chX 27 I C) (hX : stX 54 I s) : ∃ I', X10_gatherFree 48 54 (nI side) (hp I L ρ) = some (some (.int (nI (p_free C s side).length)), hp I' L ρ) ∧ (∀ a, a ≠ 52 → I' a = I a) ∧ (∀ i, (i < 6 * side ∨ 6 * side + 6 ≤ i) → I' 52 i = I 52 i) ∧ frX (I' 52) (6 * side) (p_free C s side) :=
  X10_gather_lp_27_54 hk hS hρ hs (k_n C side) 0 I zFU (by omega) (by have := k_n_le hk side; unfold zFU; omega) hC hX (fun i hi => absurd hi (by simp [p_fr]))
theorem X10_give_lp_27_54 (hk : okC C) (hS : okS C s) {pl : Nat} (hpl : pl = if (p_free C s 0).length < (p_free C s 1).length then (p_free C s 1).length else (p_free C s 0).length) : ∀ (m k : Nat) (I : Nat → Nat → Int32) (fuel : Nat), k + m = (p_free C s 0).length → m < fuel → stX 54 I s → frX (I 52) 0 (p_free C s 0) → frX (I 52) 6 (p_free C s 1) → (∀ j, j < 12 → I 49 j = oI (p_hs (p_free C s 0) (p_free C s 1) (s_rd s) pl k j)) →
    ∃ I', z_fix (fun r x => X10_giveHands_B32 48 54 (nI (p_free C s 0).length) (nI (p_free C s 1).length) (nI pl) r x) fuel (nI k) (hp I L ρ) = some (none, hp I' L ρ) ∧ (∀ a, a ≠ 49 → I' a = I a) ∧ ∀ j, j < 12 → I' 49 j = oI (p_hold C s j) := by
  have l0 := p_fr_le (s := s) 0 (k_n C 0)
  have l1 := p_fr_le (s := s) 1 (k_n C 1)
  have l2 := k_n_le hk 0
  have l3 := k_n_le hk 1
  have hpl6 : pl ≤ 6 := by rw [hpl]; unfold p_free; split <;> omega
  intro m
  induction m with
  | zero =>
    intro k I fuel h1 h2 hX hF0 hF1 hH
    obtain ⟨f, rfl⟩ : ∃ f, fuel = f + 1 := ⟨fuel - 1, by omega⟩
    refine ⟨I, ?_, fun _ _ => rfl, ?_⟩
    · rw [h_fix]
      show X10_giveHands_B32 48 54 _ _ _ _ (nI k) (hp I L ρ) = _
      unfold X10_giveHands_B32
      rw [h_if, if_pos (nI_le (by omega) (by unfold p_free at h1; omega))]
      rfl
    · intro j hj
      rw [hH j hj]
      unfold p_hold
      rw [← hpl, show k = (p_free C s 0).length by omega]
  | succ m ih =>
    intro k I fuel h1 h2 hX hF0 hF1 hH
    obtain ⟨f, rfl⟩ : ∃ f, fuel = f + 1 := ⟨fuel - 1, by omega⟩
    have hrd : I 54 1 = nI (s_rd s) := hX.1.2
    have hrt := hk.2.1
    have hrd2 := hS.1.2
    have hpl0 : k < pl := by rw [hpl]; split <;> omega
    have hl6 : (p_free C s 0).length ≤ 6 := by unfold p_free; omega
    have hr6 : (p_free C s 1).length ≤ 6 := by unfold p_free; omega
    rw [h_fix]
    generalize hg : z_fix (fun r x => X10_giveHands_B32 48 54 (nI (p_free C s 0).length) (nI (p_free C s 1).length) (nI pl) r x) f = rec
    show ∃ I', X10_giveHands_B32 48 54 _ _ _ rec (nI k) (hp I L ρ) = _ ∧ _
    unfold X10_giveHands_B32
    rw [h_if, if_neg (nI_ge (by omega) (by omega)), h_if, if_neg (nI_nle (by omega) (by omega)), gi_54, hrd, h_ck (nI_ne0 (by omega) (by omega)), nI_add, pk_rem (by omega) (by omega) (by omega), h_if]
    have ho : (k + s_rd s) % pl < pl := Nat.mod_lt _ (by omega)
    simp only [nI_le' (show (p_free C s 1).length < 2147483648 by omega) (show (k + s_rd s) % pl < 2147483648 by omega)]
    unfold X10_giveHands_J100
    by_cases q : (p_free C s 1).length ≤ (k + s_rd s) % pl
    · rw [if_pos q, nI_1, ← hg]
      exact ih (k + 1) I f (by omega) (by omega) hX hF0 hF1 (fun j hj => by rw [hH j hj, p_hs, if_neg (by omega)])
    · have fl := p_free_at hk hS (side := 0) (by omega) (show k < _ by omega)
      have fr := p_free_at hk hS (side := 1) (by omega) (show (k + s_rd s) % pl < _ by omega)
      have e0 := hF0 k (by omega)
      have e1 := hF1 ((k + s_rd s) % pl) (by omega)
      rw [Nat.zero_add] at e0
      rw [if_neg q, gr_48_4, la_52 (by omega), e0, gr_48_4, show (6 : Int32) = nI 6 from rfl, nI_add, la_52 (by omega), e1, gr_48_1, sa_49 (by omega), gr_48_1, sa_49 (by omega), nI_1, ← hg]
      obtain ⟨I', q1, q2, q3⟩ := ih (k + 1) (u2 (u2 I 49 ((p_free C s 0).getD k 0) (nI ((p_free C s 1).getD ((k + s_rd s) % pl) 0))) 49 ((p_free C s 1).getD ((k + s_rd s) % pl) 0) (nI ((p_free C s 0).getD k 0))) f (by omega) (by omega) (stX_fr (fun a h1 h2 => by funext i; rw [u2_ap, u2_ap, if_neg (by omega), if_neg (by omega)]) hX) (fun i hi => by rw [u2_ap, u2_ap, if_neg (by omega), if_neg (by omega)]; exact hF0 i hi) (fun i hi => by rw [u2_ap, u2_ap, if_neg (by omega), if_neg (by omega)]; exact hF1 i hi) (fun j hj => by
        rw [u2_ap, u2_ap, p_hs, if_pos (show (k + s_rd s) % pl < (p_free C s 1).length by omega)]
        by_cases c1 : j = (p_free C s 1).getD ((k + s_rd s) % pl) 0
        · rw [if_pos ⟨rfl, c1⟩, if_pos c1]; rfl
        · rw [if_neg (fun c => c1 c.2), if_neg c1]
          by_cases c2 : j = (p_free C s 0).getD k 0
          · rw [if_pos ⟨rfl, c2⟩, if_pos c2]; rfl
          · rw [if_neg (fun c => c2 c.2), if_neg c2, hH j hj])
      exact ⟨I', q1, fun a ha => by rw [q2 a ha]; funext i; rw [u2_ap, u2_ap, if_neg (by omega), if_neg (by omega)], q3⟩
theorem X10_give_27_54 (hk : okC C) (hS : okS C s) (hρ : ρ.2.2.1 = 27) (hC : chX 27 I C) (hX : stX 54 I s) : ∃ I', X10_giveHands 48 54 (hp I L ρ) = some (none, hp I' L ρ) ∧ (∀ a, a ≠ 49 → a ≠ 52 → I' a = I a) ∧ ∀ j, j < 12 → I' 49 j = oI (p_hold C s j) := by
  unfold X10_giveHands
  rw [gr_48_1, h_cv (J7_fill_h (by decide) zK_49 (by decide))]
  have f1 : ∀ a, a ≠ 49 → (fun b i => if b = 49 ∧ i < 12 then (-1 : Int32) else I b i) a = I a := fun a ha => by
    funext i
    simp [ha]
  generalize hI1 : (fun b i => if b = 49 ∧ i < 12 then (-1 : Int32) else I b i) = I1 at f1
  have h49 : ∀ j, j < 12 → I1 49 j = -1 := fun j hj => by rw [← hI1]; simp [hj]
  obtain ⟨I2, a1, a2, a3, a4⟩ := X10_gather_27_54 (L := L) hk hS hρ (side := 0) (by omega) (chX_fr (fun a h1 h2 => f1 a (by omega)) hC) (stX_fr (fun a h1 h2 => f1 a (by omega)) hX)
  have f2 : ∀ a, a ≠ 49 → a ≠ 52 → I2 a = I a := fun a h1 h2 => by rw [a2 a h2, f1 a h1]
  obtain ⟨I3, b1, b2, b3, b4⟩ := X10_gather_27_54 (L := L) hk hS hρ (side := 1) (by omega) (chX_fr (fun a h1 h2 => f2 a (by omega) (by omega)) hC) (stX_fr (fun a h1 h2 => f2 a (by omega) (by omega)) hX)
  have f3 : ∀ a, a ≠ 49 → a ≠ 52 → I3 a = I a := fun a h1 h2 => by rw [b2 a h2, f2 a h1 h2]
  have hl6 : (p_free C s 0).length ≤ 6 := Nat.le_trans (p_fr_le (s := s) 0 (k_n C 0)) (k_n_le hk 0)
  have hr6 : (p_free C s 1).length ≤ 6 := Nat.le_trans (p_fr_le (s := s) 1 (k_n C 1)) (k_n_le hk 1)
  rw [rc_48, h_ci (show X10_gatherFree 48 54 0 _ = _ from a1), rc_48, h_ci (show X10_gatherFree 48 54 1 _ = _ from b1)]
  have e : (if nI (p_free C s 0).length < nI (p_free C s 1).length then nI (p_free C s 1).length else nI (p_free C s 0).length) = nI (if (p_free C s 0).length < (p_free C s 1).length then (p_free C s 1).length else (p_free C s 0).length) := by
    simp only [nI_lt' (show (p_free C s 0).length < 2147483648 by omega) (show (p_free C s 1).length < 2147483648 by omega)]
    split <;> rfl
  rw [e]
  obtain ⟨I4, c1, c2, c3⟩ := X10_give_lp_27_54 (L := L) (ρ := ρ) hk hS rfl (p_free C s 0).length 0 I3 zFU (by omega) (by unfold zFU; omega) (stX_fr (fun a h1 h2 => f3 a (by omega) (by omega)) hX) (fun i hi => by
    rw [b3 _ (by omega)]
    exact a4 i hi) b4 (fun j hj => by rw [b2 _ (by omega), a2 _ (by omega), h49 j hj]; rfl)
  exact ⟨I4, c1, fun a h1 h2 => by rw [c2 a h1, f3 a h1 h2], c3⟩
end B17
