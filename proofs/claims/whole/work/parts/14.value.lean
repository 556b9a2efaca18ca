/-! the class's code told step by step -/
section B14
variable {L : Nat → Nat → Int64} {ρ : zRh}
theorem getD_cons_succ' (v : Int) (st : List Int) (k : Nat) : (v :: st).getD (k + 1) 0 = st.getD k 0 := by simp
/-- pile cells are a pile, its top last -/
def e_pile (f : Nat → Int32) (st : List Int) : Prop := ∀ i, i < st.length → f i = ci (st.getD (st.length - 1 - i) 0)
theorem e_pile_push {f g : Nat → Int32} {v : Int} {st : List Int} (h : e_pile f st) (h1 : g st.length = ci v) (h2 : ∀ i, i < st.length → g i = f i) : e_pile g (v :: st) := by
  intro i hi
  simp only [List.length_cons] at hi ⊢
  by_cases q : i = st.length
  · subst q
    rw [h1]
    simp
  · rw [h2 i (by omega), h i (by omega), show st.length + 1 - 1 - i = (st.length - 1 - i) + 1 by omega, getD_cons_succ']
theorem e_pile_tail {f : Nat → Int32} {v : Int} {st : List Int} (h : e_pile f (v :: st)) : e_pile f st := by
  intro i hi
  have h1 := h i (by simp only [List.length_cons]; omega)
  rw [h1]
  simp only [List.length_cons]
  rw [show st.length + 1 - 1 - i = (st.length - 1 - i) + 1 by omega, getD_cons_succ']
theorem e_pile_top {f : Nat → Int32} {v : Int} {st : List Int} (h : e_pile f (v :: st)) : f st.length = ci v := by
  have h1 := h st.length (by simp)
  rw [h1]
  simp
theorem e_pile_eq {f g : Nat → Int32} {st : List Int} (h : e_pile f st) (h2 : ∀ i, i < st.length → g i = f i) : e_pile g st := fun i hi => by rw [h2 i hi, h i hi]
theorem e_one_in {F : Nat → Int} (hF : ∀ k, -1000000 ≤ F k ∧ F k ≤ 1000000) (op : Nat) (x : Int) : -1000000 ≤ e_one F op x ∧ e_one F op x ≤ 1000000 := by
  unfold e_one
  split
  · split <;> omega
  · split
    · omega
    · exact hF _
/-- one step keeps flags and values together -/
theorem w_rel_step {F : Nat → Int} (hF : ∀ k, -1000000 ≤ F k ∧ F k ≤ 1000000) {op : Nat} {fl f1 : List Bool} {st : List Int} (h : w_step op fl = some f1) (hr : w_rel fl st) : w_rel f1 (e_step F op st) := by
  unfold w_step at h
  unfold e_step
  split at h
  · split at h <;> cases h
    split
    · rename_i h1
      refine ⟨⟨fun hb => ?_, by omega⟩, hr⟩
      simp only [decide_eq_true_eq] at hb
      omega
    · rename_i h1
      refine ⟨⟨fun hb => ?_, hF _⟩, hr⟩
      simp only [decide_eq_true_eq] at hb
      omega
  · rename_i h0
    rw [if_neg (by omega), if_neg h0]
    split at h
    · rename_i h1
      rw [if_pos h1]
      match fl, st, hr, h with
      | b :: a :: r, y :: x :: t, hr, h =>
        obtain ⟨⟨b1, b2⟩, ⟨a1, a2⟩, hr⟩ := hr
        simp only at h ⊢
        have hin := e_two_in (op := op) a2 b2
        split at h
        · cases h
          exact ⟨⟨fun q => (by cases q), hin⟩, hr⟩
        · split at h
          · cases h
            refine ⟨⟨fun _ => ?_, hin⟩, hr⟩
            have : op = 20007 ∨ op = 20008 ∨ op = 20009 := by omega
            rcases this with rfl | rfl | rfl
            · rw [e_two_7]; split <;> simp
            · rw [e_two_8]; split <;> simp
            · rw [e_two_9]; split <;> simp
          · split at h
            · cases h
              refine ⟨⟨fun _ => ?_, hin⟩, hr⟩
              have : op = 20010 ∨ op = 20011 := by omega
              rcases this with rfl | rfl
              · rw [e_two_10]; split <;> simp
              · rw [e_two_11]; split <;> simp
            · cases h
      | [_], [_], _, h => cases h
      | [], [], _, h => cases h
      | [_], _ :: _ :: _, hr, _ => exact hr.2.elim
    · rename_i h1
      rw [if_neg h1]
      split at h
      · match fl, st, hr, h with
        | a :: r, x :: t, hr, h =>
          simp only at h ⊢
          have hin := e_one_in hF op x
          split at h
          · rename_i h3
            split at h <;> cases h
            refine ⟨⟨fun _ => ?_, hin⟩, hr.2⟩
            subst h3
            unfold e_one
            rw [if_pos rfl]
            split <;> simp
          · cases h
            exact ⟨⟨fun q => (by cases q), hin⟩, hr.2⟩
        | [], [], _, h => cases h
      · cases h
theorem w_step_len {op : Nat} {fl f1 : List Bool} (h : w_step op fl = some f1) (h1 : fl.length ≤ 40) : f1.length ≤ 40 := by
  unfold w_step at h
  split at h
  · split at h <;> cases h
    simp only [List.length_cons]
    omega
  · split at h
    · match fl, h with
      | b :: a :: r, h =>
        simp only [List.length_cons] at h h1
        split at h
        · cases h
          simp only [List.length_cons]; omega
        · split at h
          · cases h
            simp only [List.length_cons]; omega
          · split at h <;> cases h
            simp only [List.length_cons]; omega
      | [_], h => cases h
      | [], h => cases h
    · split at h
      · match fl, h with
        | a :: r, h =>
          simp only [List.length_cons] at h h1
          split at h
          · split at h <;> cases h
            simp only [List.length_cons]; omega
          · cases h
            simp only [List.length_cons]; omega
        | [], h => cases h
      · cases h
theorem w_rel_run {F : Nat → Int} (hF : ∀ k, -1000000 ≤ F k ∧ F k ≤ 1000000) : ∀ {l : List Nat} {fl out : List Bool} {st : List Int}, w_run l fl = some out → w_rel fl st → w_rel out (e_run F l st) := by
  intro l
  induction l with
  | nil => intro fl out st h hr; cases h; exact hr
  | cons op l ih =>
    intro fl out st h hr
    unfold w_run at h
    cases hs : w_step op fl with
    | none => rw [hs] at h; cases h
    | some f1 =>
      rw [hs] at h
      exact ih h (w_rel_step hF hs hr)
set_option maxHeartbeats 4000000 in
theorem X3_value_lp_22 {F : Nat → Int} (hFb : ∀ k, -1000000 ≤ F k ∧ F k ≤ 1000000) (hF0 : ∀ k, 9 ≤ k → F k = 0) {w u x9 : Nat} (hw : w < 3) (hu : u ≤ 1616) (hx9 : x9 < 9 ∨ 33 ≤ x9) : ∀ (l : List Nat) (st : List Int) (fl out : List Bool) (q : Nat) (I : Nat → Nat → Int32) (fuel : Nat),
    w_run l fl = some out → fl.length ≤ 40 → w_rel fl st → e_pile (I 26) st → (∀ i, i < l.length → I 23 (q + i) = nI (l.getD i 0)) → I 25 w = nI (q + l.length) → I 22 1 = nI u → q + l.length ≤ u → l.length < fuel → (∀ op ∈ l, op ≠ 10000 + x9) → (∀ k, k < 9 → k ≠ x9 → I 51 k = ci (F k)) →
    ∃ I', z_fix (fun r x => X3_value_B14 22 (nI w) 51 r x.1 x.2) fuel (nI st.length, nI q) (hp I L ρ) = X3_value_J173 22 (nI (e_run F l st).length) (hp I' L ρ) ∧ (∀ a, a ≠ 26 → I' a = I a) ∧ e_pile (I' 26) (e_run F l st) := by
  intro l
  induction l with
  | nil =>
    intro st fl out q I fuel h1 hl hr hp0 hc hto hu0 hqu hfu hx hF
    obtain ⟨n, rfl⟩ : ∃ n, fuel = n + 1 := ⟨fuel - 1, by omega⟩
    refine ⟨I, ?_, fun _ _ => rfl, hp0⟩
    rw [h_fix]
    show X3_value_B14 22 (nI w) 51 _ (nI st.length) (nI q) (hp I L ρ) = _
    unfold X3_value_B14
    rw [gr_22_3, la_25 hw, h_if, hto, if_pos (nI_le (by simp) (by simp; omega))]
    rfl
  | cons op l ih =>
    intro st fl out q I fuel h1 hl hr hp0 hc hto hu0 hqu hfu hx hF
    obtain ⟨n, rfl⟩ : ∃ n, fuel = n + 1 := ⟨fuel - 1, by omega⟩
    simp only [List.length_cons] at hc hto hqu hfu
    have hst := w_rel_len hr
    unfold w_run at h1
    cases hs : w_step op fl with
    | none => rw [hs] at h1; cases h1
    | some f1 =>
      rw [hs] at h1
      have hr1 := w_rel_step hFb hs hr
      have hl1 := w_step_len hs hl
      have hop : I 23 q = nI op := by
        have := hc 0 (by omega)
        simpa using this
      have hopb : op ≤ 30003 := by
        unfold w_step at hs
        split at hs
        · omega
        · split at hs
          · omega
          · split at hs
            · omega
            · cases hs
      -- what is the same behind a step
      have step : ∀ (I1 : Nat → Nat → Int32), (∀ a, a ≠ 26 → I1 a = I a) → e_pile (I1 26) (e_step F op st) → ∃ I', z_fix (fun r x => X3_value_B14 22 (nI w) 51 r x.1 x.2) n (nI (e_step F op st).length, nI q + 1) (hp I1 L ρ) = X3_value_J173 22 (nI (e_run F (op :: l) st).length) (hp I' L ρ) ∧ (∀ a, a ≠ 26 → I' a = I a) ∧ e_pile (I' 26) (e_run F (op :: l) st) := by
        intro I1 hI hpl
        obtain ⟨I', e1, e2, e3⟩ := ih (e_step F op st) f1 out (q + 1) I1 n h1 hl1 hr1 hpl (fun i hi => by
          rw [hI _ (by decide)]
          have := hc (i + 1) (by omega)
          rw [show q + 1 + i = q + (i + 1) by omega, this, List.getD_cons_succ]) (by rw [hI _ (by decide), hto]; congr 1; omega) (by rw [hI _ (by decide), hu0]) (by omega) (by omega) (fun o ho => hx o (List.mem_cons_of_mem _ ho)) (fun k hk hk2 => by rw [hI _ (by decide)]; exact hF k hk hk2)
        exact ⟨I', by rw [nI_1]; exact e1, fun a ha => by rw [e2 a ha, hI a ha], e3⟩
      rw [h_fix]
      show ∃ I', X3_value_B14 22 (nI w) 51 _ (nI st.length) (nI q) (hp I L ρ) = _ ∧ _
      unfold X3_value_B14
      rw [gr_22_3, la_25 hw, h_if, hto, if_neg (nI_ge (by omega) (by omega)), gi_22, hu0, h_if, if_neg (nI_ge (by omega) (by omega)), gr_22_0, la_23 (by omega), hop, h_if, show (20000 : Int32) = nI 20000 from rfl]
      simp only [nI_leI (show 20000 < 2 ^ 31 by omega) (show op < 2 ^ 31 by omega)]
      by_cases c1 : 20000 ≤ op
      · rw [if_pos c1, h_if, show (30000 : Int32) = nI 30000 from rfl]
        simp only [nI_leI (show 30000 < 2 ^ 31 by omega) (show op < 2 ^ 31 by omega)]
        by_cases c2 : 30000 ≤ op
        · rw [if_pos c2]
          unfold w_step at hs
          have h31 : 30001 ≤ op := by
            by_cases q : 30001 ≤ op
            · exact q
            · rw [if_neg (by omega), if_neg (by omega), if_neg (by omega)] at hs
              cases hs
          rw [if_neg (by omega), if_neg (by omega), if_pos ⟨h31, hopb⟩] at hs
          match fl, st, hr, hs, hp0, hst, hr1, step with
          | a :: r, x :: t, hr, hs, hp0, hst, hr1, step =>
            have e1 : e_step F op (x :: t) = e_one F op x :: t := by
              unfold e_step
              rw [if_neg (by omega), if_neg (by omega), if_neg (by omega)]
            rw [e1] at step
            simp only [List.length_cons] at hst hl
            rw [List.length_cons, h_if, if_neg (nI_nle (by omega) (by omega)), gr_22_4, gr_22_4, nI_pred, la_26 (by omega), e_pile_top hp0, h_ci (X3_ofOne_51 (fun k k1 k2 => hF k k2 (by omega)) hF0 h31 hopb hr.1.2), sa_26 (by omega)]
            unfold X3_value_J167
            refine step _ (fun a ha => ?_) (e_pile_push (f := I 26) (e_pile_tail hp0) ?_ (fun i hi => ?_))
            · funext i
              simp [u2, ha]
            · simp [u2]
            · simp [u2]
              omega
          | [], [], _, hs, _, _, _, _ => cases hs
        · rw [if_neg c2]
          unfold w_step at hs
          rw [if_neg (by omega), if_pos (by omega)] at hs
          match fl, st, hr, hs, hp0, hst, hr1, step with
          | b :: a :: r, y :: x :: t, hr, hs, hp0, hst, hr1, step =>
            have e1 : e_step F op (y :: x :: t) = e_two op x y :: t := by
              unfold e_step
              rw [if_neg (by omega), if_neg (by omega), if_pos (by omega)]
            rw [e1] at step
            obtain ⟨⟨b1, b2⟩, ⟨a1, a2⟩, hr⟩ := hr
            have h21 : (20001 ≤ op ∧ op ≤ 20011) ∧ (op = 20010 ∨ op = 20011 → (x = 0 ∨ x = 1) ∧ (y = 0 ∨ y = 1)) := by
              simp only at hs
              split at hs
              · exact ⟨by omega, fun q => by omega⟩
              · split at hs
                · exact ⟨by omega, fun q => by omega⟩
                · split at hs
                  · rename_i q
                    exact ⟨by omega, fun _ => ⟨a1 q.2.1, b1 q.2.2⟩⟩
                  · cases hs
            simp only [List.length_cons] at hst hl
            rw [List.length_cons, List.length_cons, h_if, if_neg (show ¬ nI (t.length + 1 + 1) ≤ (1 : Int32) from nI_ge (a := 1) (by omega) (by omega)), gr_22_4, gr_22_4, pk_m1, nI_pred, la_26 (by omega), gr_22_4, la_26 (by omega), e_pile_top (e_pile_tail hp0), show I 26 (t.length + 1) = ci y from e_pile_top hp0, h_ci (X3_ofTwo_h h21.1.1 h21.1.2 a2 b2 h21.2), sa_26 (by omega)]
            unfold X3_value_J167
            refine step _ (fun a ha => ?_) (e_pile_push (f := I 26) (e_pile_tail (e_pile_tail hp0)) ?_ (fun i hi => ?_))
            · funext i
              simp [u2, ha]
            · simp [u2]
            · simp [u2]
              omega
          | [_], [_], _, hs, _, _, _, _ => cases hs
          | [], [], _, hs, _, _, _, _ => cases hs
          | [_], _ :: _ :: _, hr, _, _, _, _, _ => exact hr.2.elim
      · rw [if_neg c1]
        have hs2 := hs
        unfold w_step at hs2
        rw [if_pos (by omega)] at hs2
        have hfl : fl.length < 40 := by
          split at hs2
          · assumption
          · cases hs2
        rw [gr_22_4, len_26, h_if, if_neg (nI_ge (by omega) (by omega)), gr_22_4, h_if, show (10000 : Int32) = nI 10000 from rfl]
        simp only [nI_leI (show 10000 < 2 ^ 31 by omega) (show op < 2 ^ 31 by omega)]
        by_cases c2 : 10000 ≤ op
        · have e1 : e_step F op st = F (op - 10000) :: st := by
            unfold e_step
            rw [if_neg (by omega), if_pos (by omega)]
          rw [e1] at step
          rw [if_pos c2, pk_sub c2, h_ci (X3_fact_51 (fun q => hF _ q (by have := hx op List.mem_cons_self; omega)) hF0 (by omega))]
          unfold X3_value_J88 X3_value_J167
          rw [sa_26 (by omega), nI_1]
          refine step _ (fun a ha => ?_) (e_pile_push (f := I 26) hp0 ?_ (fun i hi => ?_))
          · funext i
            simp [u2, ha]
          · simp [u2]
          · simp [u2]
            omega
        · have e1 : e_step F op st = (op : Int) :: st := by
            unfold e_step
            rw [if_pos (by omega)]
          rw [e1] at step
          rw [if_neg c2]
          unfold X3_value_J88 X3_value_J167
          rw [sa_26 (by omega), nI_1]
          refine step _ (fun a ha => ?_) (e_pile_push (f := I 26) hp0 ?_ (fun i hi => ?_))
          · funext i
            simp [u2, ha]
          · simp [u2, ci_nat]
          · simp [u2]
            omega
theorem X3_value_22 {F : Nat → Int} (hFb : ∀ k, -1000000 ≤ F k ∧ F k ≤ 1000000) (hF0 : ∀ k, 9 ≤ k → F k = 0) {w u q x9 : Nat} (hw : w < 3) (hu : u ≤ 1616) (hx9 : x9 < 9 ∨ 33 ≤ x9) {l : List Nat} {b : Bool} {I : Nat → Nat → Int32} (h1 : w_ok l b) (hc : ∀ i, i < l.length → I 23 (q + i) = nI (l.getD i 0)) (hfr : I 24 w = nI q) (hto : I 25 w = nI (q + l.length)) (hu0 : I 22 1 = nI u) (hqu : q + l.length ≤ u) (hx : ∀ op ∈ l, op ≠ 10000 + x9) (hF : ∀ k, k < 9 → k ≠ x9 → I 51 k = ci (F k)) :
    ∃ I', X3_value 22 (nI w) 51 (hp I L ρ) = some (some (.int (ci (e_val F l))), hp I' L ρ) ∧ (∀ a, a ≠ 26 → I' a = I a) := by
  obtain ⟨a, h2, h3⟩ := h1
  obtain ⟨I', e1, e2, e3⟩ := X3_value_lp_22 (L := L) (ρ := ρ) hFb hF0 hw hu hx9 l [] [] [a] q I zFU h2 (by simp) trivial (fun i hi => absurd hi (by simp)) hc hto hu0 hqu (by unfold zFU; omega) hx hF
  refine ⟨I', ?_, e2⟩
  unfold X3_value
  rw [gr_22_2, la_24 hw, hfr, if_neg (nI_pos (by omega))]
  refine e1.trans ?_
  have hr := w_rel_run hFb (st := []) h2 trivial
  unfold e_val
  cases hs : e_run F l [] with
  | nil => rw [hs] at hr; exact hr.elim
  | cons v t =>
    cases t with
    | cons _ _ => rw [hs] at hr; exact hr.2.elim
    | nil =>
      have h5 := e3 0 (by rw [hs]; simp)
      rw [hs] at h5
      unfold X3_value_J173
      rw [List.length_singleton, h_if, if_neg (by decide), gr_22_4, lal_0, la_26 (by decide), h5]
      rfl
set_option maxHeartbeats 4000000 in
theorem X3_value_lp_36 {F : Nat → Int} (hFb : ∀ k, -1000000 ≤ F k ∧ F k ≤ 1000000) (hF0 : ∀ k, 9 ≤ k → F k = 0) {w u x9 : Nat} (hw : w < 3) (hu : u ≤ 1616) (hx9 : x9 < 9 ∨ 33 ≤ x9) : ∀ (l : List Nat) (st : List Int) (fl out : List Bool) (q : Nat) (I : Nat → Nat → Int32) (fuel : Nat),
    w_run l fl = some out → fl.length ≤ 40 → w_rel fl st → e_pile (I 40) st → (∀ i, i < l.length → I 37 (q + i) = nI (l.getD i 0)) → I 39 w = nI (q + l.length) → I 36 1 = nI u → q + l.length ≤ u → l.length < fuel → (∀ op ∈ l, op ≠ 10000 + x9) → (∀ k, k < 9 → k ≠ x9 → I 51 k = ci (F k)) →
    ∃ I', z_fix (fun r x => X3_value_B14 36 (nI w) 51 r x.1 x.2) fuel (nI st.length, nI q) (hp I L ρ) = X3_value_J173 36 (nI (e_run F l st).length) (hp I' L ρ) ∧ (∀ a, a ≠ 40 → I' a = I a) ∧ e_pile (I' 40) (e_run F l st) := by
  intro l
  induction l with
  | nil =>
    intro st fl out q I fuel h1 hl hr hp0 hc hto hu0 hqu hfu hx hF
    obtain ⟨n, rfl⟩ : ∃ n, fuel = n + 1 := ⟨fuel - 1, by omega⟩
    refine ⟨I, ?_, fun _ _ => rfl, hp0⟩
    rw [h_fix]
    show X3_value_B14 36 (nI w) 51 _ (nI st.length) (nI q) (hp I L ρ) = _
    unfold X3_value_B14
    rw [gr_36_3, la_39 hw, h_if, hto, if_pos (nI_le (by simp) (by simp; omega))]
    rfl
  | cons op l ih =>
    intro st fl out q I fuel h1 hl hr hp0 hc hto hu0 hqu hfu hx hF
    obtain ⟨n, rfl⟩ : ∃ n, fuel = n + 1 := ⟨fuel - 1, by omega⟩
    simp only [List.length_cons] at hc hto hqu hfu
    have hst := w_rel_len hr
    unfold w_run at h1
    cases hs : w_step op fl with
    | none => rw [hs] at h1; cases h1
    | some f1 =>
      rw [hs] at h1
      have hr1 := w_rel_step hFb hs hr
      have hl1 := w_step_len hs hl
      have hop : I 37 q = nI op := by
        have := hc 0 (by omega)
        simpa using this
      have hopb : op ≤ 30003 := by
        unfold w_step at hs
        split at hs
        · omega
        · split at hs
          · omega
          · split at hs
            · omega
            · cases hs
      -- what is the same behind a step
      have step : ∀ (I1 : Nat → Nat → Int32), (∀ a, a ≠ 40 → I1 a = I a) → e_pile (I1 40) (e_step F op st) → ∃ I', z_fix (fun r x => X3_value_B14 36 (nI w) 51 r x.1 x.2) n (nI (e_step F op st).length, nI q + 1) (hp I1 L ρ) = X3_value_J173 36 (nI (e_run F (op :: l) st).length) (hp I' L ρ) ∧ (∀ a, a ≠ 40 → I' a = I a) ∧ e_pile (I' 40) (e_run F (op :: l) st) := by
        intro I1 hI hpl
        obtain ⟨I', e1, e2, e3⟩ := ih (e_step F op st) f1 out (q + 1) I1 n h1 hl1 hr1 hpl (fun i hi => by
          rw [hI _ (by decide)]
          have := hc (i + 1) (by omega)
          rw [show q + 1 + i = q + (i + 1) by omega, this, List.getD_cons_succ]) (by rw [hI _ (by decide), hto]; congr 1; omega) (by rw [hI _ (by decide), hu0]) (by omega) (by omega) (fun o ho => hx o (List.mem_cons_of_mem _ ho)) (fun k hk hk2 => by rw [hI _ (by decide)]; exact hF k hk hk2)
        exact ⟨I', by rw [nI_1]; exact e1, fun a ha => by rw [e2 a ha, hI a ha], e3⟩
      rw [h_fix]
      show ∃ I', X3_value_B14 36 (nI w) 51 _ (nI st.length) (nI q) (hp I L ρ) = _ ∧ _
      unfold X3_value_B14
      rw [gr_36_3, la_39 hw, h_if, hto, if_neg (nI_ge (by omega) (by omega)), gi_36, hu0, h_if, if_neg (nI_ge (by omega) (by omega)), gr_36_0, la_37 (by omega), hop, h_if, show (20000 : Int32) = nI 20000 from rfl]
      simp only [nI_leI (show 20000 < 2 ^ 31 by omega) (show op < 2 ^ 31 by omega)]
      by_cases c1 : 20000 ≤ op
      · rw [if_pos c1, h_if, show (30000 : Int32) = nI 30000 from rfl]
        simp only [nI_leI (show 30000 < 2 ^ 31 by omega) (show op < 2 ^ 31 by omega)]
        by_cases c2 : 30000 ≤ op
        · rw [if_pos c2]
          unfold w_step at hs
          have h31 : 30001 ≤ op := by
            by_cases q : 30001 ≤ op
            · exact q
            · rw [if_neg (by omega), if_neg (by omega), if_neg (by omega)] at hs
              cases hs
          rw [if_neg (by omega), if_neg (by omega), if_pos ⟨h31, hopb⟩] at hs
          match fl, st, hr, hs, hp0, hst, hr1, step with
          | a :: r, x :: t, hr, hs, hp0, hst, hr1, step =>
            have e1 : e_step F op (x :: t) = e_one F op x :: t := by
              unfold e_step
              rw [if_neg (by omega), if_neg (by omega), if_neg (by omega)]
            rw [e1] at step
            simp only [List.length_cons] at hst hl
            rw [List.length_cons, h_if, if_neg (nI_nle (by omega) (by omega)), gr_36_4, gr_36_4, nI_pred, la_40 (by omega), e_pile_top hp0, h_ci (X3_ofOne_51 (fun k k1 k2 => hF k k2 (by omega)) hF0 h31 hopb hr.1.2), sa_40 (by omega)]
            unfold X3_value_J167
            refine step _ (fun a ha => ?_) (e_pile_push (f := I 40) (e_pile_tail hp0) ?_ (fun i hi => ?_))
            · funext i
              simp [u2, ha]
            · simp [u2]
            · simp [u2]
              omega
          | [], [], _, hs, _, _, _, _ => cases hs
        · rw [if_neg c2]
          unfold w_step at hs
          rw [if_neg (by omega), if_pos (by omega)] at hs
          match fl, st, hr, hs, hp0, hst, hr1, step with
          | b :: a :: r, y :: x :: t, hr, hs, hp0, hst, hr1, step =>
            have e1 : e_step F op (y :: x :: t) = e_two op x y :: t := by
              unfold e_step
              rw [if_neg (by omega), if_neg (by omega), if_pos (by omega)]
            rw [e1] at step
            obtain ⟨⟨b1, b2⟩, ⟨a1, a2⟩, hr⟩ := hr
            have h21 : (20001 ≤ op ∧ op ≤ 20011) ∧ (op = 20010 ∨ op = 20011 → (x = 0 ∨ x = 1) ∧ (y = 0 ∨ y = 1)) := by
              simp only at hs
              split at hs
              · exact ⟨by omega, fun q => by omega⟩
              · split at hs
                · exact ⟨by omega, fun q => by omega⟩
                · split at hs
                  · rename_i q
                    exact ⟨by omega, fun _ => ⟨a1 q.2.1, b1 q.2.2⟩⟩
                  · cases hs
            simp only [List.length_cons] at hst hl
            rw [List.length_cons, List.length_cons, h_if, if_neg (show ¬ nI (t.length + 1 + 1) ≤ (1 : Int32) from nI_ge (a := 1) (by omega) (by omega)), gr_36_4, gr_36_4, pk_m1, nI_pred, la_40 (by omega), gr_36_4, la_40 (by omega), e_pile_top (e_pile_tail hp0), show I 40 (t.length + 1) = ci y from e_pile_top hp0, h_ci (X3_ofTwo_h h21.1.1 h21.1.2 a2 b2 h21.2), sa_40 (by omega)]
            unfold X3_value_J167
            refine step _ (fun a ha => ?_) (e_pile_push (f := I 40) (e_pile_tail (e_pile_tail hp0)) ?_ (fun i hi => ?_))
            · funext i
              simp [u2, ha]
            · simp [u2]
            · simp [u2]
              omega
          | [_], [_], _, hs, _, _, _, _ => cases hs
          | [], [], _, hs, _, _, _, _ => cases hs
          | [_], _ :: _ :: _, hr, _, _, _, _, _ => exact hr.2.elim
      · rw [if_neg c1]
        have hs2 := hs
        unfold w_step at hs2
        rw [if_pos (by omega)] at hs2
        have hfl : fl.length < 40 := by
          split at hs2
          · assumption
          · cases hs2
        rw [gr_36_4, len_40, h_if, if_neg (nI_ge (by omega) (by omega)), gr_36_4, h_if, show (10000 : Int32) = nI 10000 from rfl]
        simp only [nI_leI (show 10000 < 2 ^ 31 by omega) (show op < 2 ^ 31 by omega)]
        by_cases c2 : 10000 ≤ op
        · have e1 : e_step F op st = F (op - 10000) :: st := by
            unfold e_step
            rw [if_neg (by omega), if_pos (by omega)]
          rw [e1] at step
          rw [if_pos c2, pk_sub c2, h_ci (X3_fact_51 (fun q => hF _ q (by have := hx op List.mem_cons_self; omega)) hF0 (by omega))]
          unfold X3_value_J88 X3_value_J167
          rw [sa_40 (by omega), nI_1]
          refine step _ (fun a ha => ?_) (e_pile_push (f := I 40) hp0 ?_ (fun i hi => ?_))
          · funext i
            simp [u2, ha]
          · simp [u2]
          · simp [u2]
            omega
        · have e1 : e_step F op st = (op : Int) :: st := by
            unfold e_step
            rw [if_pos (by omega)]
          rw [e1] at step
          rw [if_neg c2]
          unfold X3_value_J88 X3_value_J167
          rw [sa_40 (by omega), nI_1]
          refine step _ (fun a ha => ?_) (e_pile_push (f := I 40) hp0 ?_ (fun i hi => ?_))
          · funext i
            simp [u2, ha]
          · simp [u2, ci_nat]
          · simp [u2]
            omega
theorem X3_value_36 {F : Nat → Int} (hFb : ∀ k, -1000000 ≤ F k ∧ F k ≤ 1000000) (hF0 : ∀ k, 9 ≤ k → F k = 0) {w u q x9 : Nat} (hw : w < 3) (hu : u ≤ 1616) (hx9 : x9 < 9 ∨ 33 ≤ x9) {l : List Nat} {b : Bool} {I : Nat → Nat → Int32} (h1 : w_ok l b) (hc : ∀ i, i < l.length → I 37 (q + i) = nI (l.getD i 0)) (hfr : I 38 w = nI q) (hto : I 39 w = nI (q + l.length)) (hu0 : I 36 1 = nI u) (hqu : q + l.length ≤ u) (hx : ∀ op ∈ l, op ≠ 10000 + x9) (hF : ∀ k, k < 9 → k ≠ x9 → I 51 k = ci (F k)) :
    ∃ I', X3_value 36 (nI w) 51 (hp I L ρ) = some (some (.int (ci (e_val F l))), hp I' L ρ) ∧ (∀ a, a ≠ 40 → I' a = I a) := by
  obtain ⟨a, h2, h3⟩ := h1
  obtain ⟨I', e1, e2, e3⟩ := X3_value_lp_36 (L := L) (ρ := ρ) hFb hF0 hw hu hx9 l [] [] [a] q I zFU h2 (by simp) trivial (fun i hi => absurd hi (by simp)) hc hto hu0 hqu (by unfold zFU; omega) hx hF
  refine ⟨I', ?_, e2⟩
  unfold X3_value
  rw [gr_36_2, la_38 hw, hfr, if_neg (nI_pos (by omega))]
  refine e1.trans ?_
  have hr := w_rel_run hFb (st := []) h2 trivial
  unfold e_val
  cases hs : e_run F l [] with
  | nil => rw [hs] at hr; exact hr.elim
  | cons v t =>
    cases t with
    | cons _ _ => rw [hs] at hr; exact hr.2.elim
    | nil =>
      have h5 := e3 0 (by rw [hs]; simp)
      rw [hs] at h5
      unfold X3_value_J173
      rw [List.length_singleton, h_if, if_neg (by decide), gr_36_4, lal_0, la_40 (by decide), h5]
      rfl
set_option maxHeartbeats 4000000 in
theorem X3_value_lp_4 {F : Nat → Int} (hFb : ∀ k, -1000000 ≤ F k ∧ F k ≤ 1000000) (hF0 : ∀ k, 33 ≤ k → F k = 0) {w u x9 : Nat} (hw : w < 3) (hu : u ≤ 1616) (hx9 : x9 < 9 ∨ 33 ≤ x9) : ∀ (l : List Nat) (st : List Int) (fl out : List Bool) (q : Nat) (I : Nat → Nat → Int32) (fuel : Nat),
    w_run l fl = some out → fl.length ≤ 40 → w_rel fl st → e_pile (I 8) st → (∀ i, i < l.length → I 5 (q + i) = nI (l.getD i 0)) → I 7 w = nI (q + l.length) → I 4 1 = nI u → q + l.length ≤ u → l.length < fuel → (∀ op ∈ l, op ≠ 10000 + x9) → (∀ k, k < 33 → k ≠ x9 → I 9 k = ci (F k)) →
    ∃ I', z_fix (fun r x => X3_value_B14 4 (nI w) 9 r x.1 x.2) fuel (nI st.length, nI q) (hp I L ρ) = X3_value_J173 4 (nI (e_run F l st).length) (hp I' L ρ) ∧ (∀ a, a ≠ 8 → I' a = I a) ∧ e_pile (I' 8) (e_run F l st) := by
  intro l
  induction l with
  | nil =>
    intro st fl out q I fuel h1 hl hr hp0 hc hto hu0 hqu hfu hx hF
    obtain ⟨n, rfl⟩ : ∃ n, fuel = n + 1 := ⟨fuel - 1, by omega⟩
    refine ⟨I, ?_, fun _ _ => rfl, hp0⟩
    rw [h_fix]
    show X3_value_B14 4 (nI w) 9 _ (nI st.length) (nI q) (hp I L ρ) = _
    unfold X3_value_B14
    rw [gr_4_3, la_7 hw, h_if, hto, if_pos (nI_le (by simp) (by simp; omega))]
    rfl
  | cons op l ih =>
    intro st fl out q I fuel h1 hl hr hp0 hc hto hu0 hqu hfu hx hF
    obtain ⟨n, rfl⟩ : ∃ n, fuel = n + 1 := ⟨fuel - 1, by omega⟩
    simp only [List.length_cons] at hc hto hqu hfu
    have hst := w_rel_len hr
    unfold w_run at h1
    cases hs : w_step op fl with
    | none => rw [hs] at h1; cases h1
    | some f1 =>
      rw [hs] at h1
      have hr1 := w_rel_step hFb hs hr
      have hl1 := w_step_len hs hl
      have hop : I 5 q = nI op := by
        have := hc 0 (by omega)
        simpa using this
      have hopb : op ≤ 30003 := by
        unfold w_step at hs
        split at hs
        · omega
        · split at hs
          · omega
          · split at hs
            · omega
            · cases hs
      -- what is the same behind a step
      have step : ∀ (I1 : Nat → Nat → Int32), (∀ a, a ≠ 8 → I1 a = I a) → e_pile (I1 8) (e_step F op st) → ∃ I', z_fix (fun r x => X3_value_B14 4 (nI w) 9 r x.1 x.2) n (nI (e_step F op st).length, nI q + 1) (hp I1 L ρ) = X3_value_J173 4 (nI (e_run F (op :: l) st).length) (hp I' L ρ) ∧ (∀ a, a ≠ 8 → I' a = I a) ∧ e_pile (I' 8) (e_run F (op :: l) st) := by
        intro I1 hI hpl
        obtain ⟨I', e1, e2, e3⟩ := ih (e_step F op st) f1 out (q + 1) I1 n h1 hl1 hr1 hpl (fun i hi => by
          rw [hI _ (by decide)]
          have := hc (i + 1) (by omega)
          rw [show q + 1 + i = q + (i + 1) by omega, this, List.getD_cons_succ]) (by rw [hI _ (by decide), hto]; congr 1; omega) (by rw [hI _ (by decide), hu0]) (by omega) (by omega) (fun o ho => hx o (List.mem_cons_of_mem _ ho)) (fun k hk hk2 => by rw [hI _ (by decide)]; exact hF k hk hk2)
        exact ⟨I', by rw [nI_1]; exact e1, fun a ha => by rw [e2 a ha, hI a ha], e3⟩
      rw [h_fix]
      show ∃ I', X3_value_B14 4 (nI w) 9 _ (nI st.length) (nI q) (hp I L ρ) = _ ∧ _
      unfold X3_value_B14
      rw [gr_4_3, la_7 hw, h_if, hto, if_neg (nI_ge (by omega) (by omega)), gi_4, hu0, h_if, if_neg (nI_ge (by omega) (by omega)), gr_4_0, la_5 (by omega), hop, h_if, show (20000 : Int32) = nI 20000 from rfl]
      simp only [nI_leI (show 20000 < 2 ^ 31 by omega) (show op < 2 ^ 31 by omega)]
      by_cases c1 : 20000 ≤ op
      · rw [if_pos c1, h_if, show (30000 : Int32) = nI 30000 from rfl]
        simp only [nI_leI (show 30000 < 2 ^ 31 by omega) (show op < 2 ^ 31 by omega)]
        by_cases c2 : 30000 ≤ op
        · rw [if_pos c2]
          unfold w_step at hs
          have h31 : 30001 ≤ op := by
            by_cases q : 30001 ≤ op
            · exact q
            · rw [if_neg (by omega), if_neg (by omega), if_neg (by omega)] at hs
              cases hs
          rw [if_neg (by omega), if_neg (by omega), if_pos ⟨h31, hopb⟩] at hs
          match fl, st, hr, hs, hp0, hst, hr1, step with
          | a :: r, x :: t, hr, hs, hp0, hst, hr1, step =>
            have e1 : e_step F op (x :: t) = e_one F op x :: t := by
              unfold e_step
              rw [if_neg (by omega), if_neg (by omega), if_neg (by omega)]
            rw [e1] at step
            simp only [List.length_cons] at hst hl
            rw [List.length_cons, h_if, if_neg (nI_nle (by omega) (by omega)), gr_4_4, gr_4_4, nI_pred, la_8 (by omega), e_pile_top hp0, h_ci (X3_ofOne_9 (fun k k1 k2 => hF k k2 (by omega)) hF0 h31 hopb hr.1.2), sa_8 (by omega)]
            unfold X3_value_J167
            refine step _ (fun a ha => ?_) (e_pile_push (f := I 8) (e_pile_tail hp0) ?_ (fun i hi => ?_))
            · funext i
              simp [u2, ha]
            · simp [u2]
            · simp [u2]
              omega
          | [], [], _, hs, _, _, _, _ => cases hs
        · rw [if_neg c2]
          unfold w_step at hs
          rw [if_neg (by omega), if_pos (by omega)] at hs
          match fl, st, hr, hs, hp0, hst, hr1, step with
          | b :: a :: r, y :: x :: t, hr, hs, hp0, hst, hr1, step =>
            have e1 : e_step F op (y :: x :: t) = e_two op x y :: t := by
              unfold e_step
              rw [if_neg (by omega), if_neg (by omega), if_pos (by omega)]
            rw [e1] at step
            obtain ⟨⟨b1, b2⟩, ⟨a1, a2⟩, hr⟩ := hr
            have h21 : (20001 ≤ op ∧ op ≤ 20011) ∧ (op = 20010 ∨ op = 20011 → (x = 0 ∨ x = 1) ∧ (y = 0 ∨ y = 1)) := by
              simp only at hs
              split at hs
              · exact ⟨by omega, fun q => by omega⟩
              · split at hs
                · exact ⟨by omega, fun q => by omega⟩
                · split at hs
                  · rename_i q
                    exact ⟨by omega, fun _ => ⟨a1 q.2.1, b1 q.2.2⟩⟩
                  · cases hs
            simp only [List.length_cons] at hst hl
            rw [List.length_cons, List.length_cons, h_if, if_neg (show ¬ nI (t.length + 1 + 1) ≤ (1 : Int32) from nI_ge (a := 1) (by omega) (by omega)), gr_4_4, gr_4_4, pk_m1, nI_pred, la_8 (by omega), gr_4_4, la_8 (by omega), e_pile_top (e_pile_tail hp0), show I 8 (t.length + 1) = ci y from e_pile_top hp0, h_ci (X3_ofTwo_h h21.1.1 h21.1.2 a2 b2 h21.2), sa_8 (by omega)]
            unfold X3_value_J167
            refine step _ (fun a ha => ?_) (e_pile_push (f := I 8) (e_pile_tail (e_pile_tail hp0)) ?_ (fun i hi => ?_))
            · funext i
              simp [u2, ha]
            · simp [u2]
            · simp [u2]
              omega
          | [_], [_], _, hs, _, _, _, _ => cases hs
          | [], [], _, hs, _, _, _, _ => cases hs
          | [_], _ :: _ :: _, hr, _, _, _, _, _ => exact hr.2.elim
      · rw [if_neg c1]
        have hs2 := hs
        unfold w_step at hs2
        rw [if_pos (by omega)] at hs2
        have hfl : fl.length < 40 := by
          split at hs2
          · assumption
          · cases hs2
        rw [gr_4_4, len_8, h_if, if_neg (nI_ge (by omega) (by omega)), gr_4_4, h_if, show (10000 : Int32) = nI 10000 from rfl]
        simp only [nI_leI (show 10000 < 2 ^ 31 by omega) (show op < 2 ^ 31 by omega)]
        by_cases c2 : 10000 ≤ op
        · have e1 : e_step F op st = F (op - 10000) :: st := by
            unfold e_step
            rw [if_neg (by omega), if_pos (by omega)]
          rw [e1] at step
          rw [if_pos c2, pk_sub c2, h_ci (X3_fact_9 (fun q => hF _ q (by have := hx op List.mem_cons_self; omega)) hF0 (by omega))]
          unfold X3_value_J88 X3_value_J167
          rw [sa_8 (by omega), nI_1]
          refine step _ (fun a ha => ?_) (e_pile_push (f := I 8) hp0 ?_ (fun i hi => ?_))
          · funext i
            simp [u2, ha]
          · simp [u2]
          · simp [u2]
            omega
        · have e1 : e_step F op st = (op : Int) :: st := by
            unfold e_step
            rw [if_pos (by omega)]
          rw [e1] at step
          rw [if_neg c2]
          unfold X3_value_J88 X3_value_J167
          rw [sa_8 (by omega), nI_1]
          refine step _ (fun a ha => ?_) (e_pile_push (f := I 8) hp0 ?_ (fun i hi => ?_))
          · funext i
            simp [u2, ha]
          · simp [u2, ci_nat]
          · simp [u2]
            omega
theorem X3_value_4 {F : Nat → Int} (hFb : ∀ k, -1000000 ≤ F k ∧ F k ≤ 1000000) (hF0 : ∀ k, 33 ≤ k → F k = 0) {w u q x9 : Nat} (hw : w < 3) (hu : u ≤ 1616) (hx9 : x9 < 9 ∨ 33 ≤ x9) {l : List Nat} {b : Bool} {I : Nat → Nat → Int32} (h1 : w_ok l b) (hc : ∀ i, i < l.length → I 5 (q + i) = nI (l.getD i 0)) (hfr : I 6 w = nI q) (hto : I 7 w = nI (q + l.length)) (hu0 : I 4 1 = nI u) (hqu : q + l.length ≤ u) (hx : ∀ op ∈ l, op ≠ 10000 + x9) (hF : ∀ k, k < 33 → k ≠ x9 → I 9 k = ci (F k)) :
    ∃ I', X3_value 4 (nI w) 9 (hp I L ρ) = some (some (.int (ci (e_val F l))), hp I' L ρ) ∧ (∀ a, a ≠ 8 → I' a = I a) := by
  obtain ⟨a, h2, h3⟩ := h1
  obtain ⟨I', e1, e2, e3⟩ := X3_value_lp_4 (L := L) (ρ := ρ) hFb hF0 hw hu hx9 l [] [] [a] q I zFU h2 (by simp) trivial (fun i hi => absurd hi (by simp)) hc hto hu0 hqu (by unfold zFU; omega) hx hF
  refine ⟨I', ?_, e2⟩
  unfold X3_value
  rw [gr_4_2, la_6 hw, hfr, if_neg (nI_pos (by omega))]
  refine e1.trans ?_
  have hr := w_rel_run hFb (st := []) h2 trivial
  unfold e_val
  cases hs : e_run F l [] with
  | nil => rw [hs] at hr; exact hr.elim
  | cons v t =>
    cases t with
    | cons _ _ => rw [hs] at hr; exact hr.2.elim
    | nil =>
      have h5 := e3 0 (by rw [hs]; simp)
      rw [hs] at h5
      unfold X3_value_J173
      rw [List.length_singleton, h_if, if_neg (by decide), gr_4_4, lal_0, la_8 (by decide), h5]
      rfl
end B14
