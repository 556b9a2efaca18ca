/-! the reference: what is told of one for a question -/
section B8v
variable {I : Nat → Nat → Int32} {L : Nat → Nat → Int64} {ρ : zRh} {h : zH} {b : Nat → Nat} {n a x j k u w t p m side here : Nat} {r : rP} {S : nT} {A : aT} {N : Nat} {C : cT} {s : sT}
theorem w_step_dd {c : Nat} (h : d_ok 3 c) : (1000 ≤ c → c_dd 3 c = c - 1000 ∧ c_dd 3 c < 10000) ∧ (40 ≤ c → c < 60 → (c = 41 ∨ c = 42 ∨ c = 43 ∨ c = 44 ∨ c = 47 ∨ c = 48 ∨ c = 49 ∨ c = 50 ∨ c = 51) ∧ (10000 ≤ c_dd 3 c ∧ c_dd 3 c < 10009) ∨ (c_dd 3 c = 20000 + c)) ∧ (60 ≤ c → c < 1000 → (c = 60 ∨ c = 61) ∧ (c_dd 3 c = 30002 ∨ c_dd 3 c = 30003)) ∧ (c = 13 → c_dd 3 c = 1) ∧ (c = 12 → c_dd 3 c = 30001) ∧ (c < 12 → c_dd 3 c = 20000 + c ∧ 1 ≤ c) := by
  unfold d_ok at h
  refine ⟨fun q => ?_, fun q1 q2 => ?_, fun q1 q2 => ?_, fun q => ?_, fun q => ?_, fun q => ?_⟩
  · unfold c_dd
    rw [if_pos rfl, if_pos q]; omega
  · rcases (show c = 40 ∨ c = 41 ∨ c = 42 ∨ c = 43 ∨ c = 44 ∨ c = 45 ∨ c = 46 ∨ c = 47 ∨ c = 48 ∨ c = 49 ∨ c = 50 ∨ c = 51 by omega) with rfl | rfl | rfl | rfl | rfl | rfl | rfl | rfl | rfl | rfl | rfl | rfl
    · exact Or.inr (by decide)
    · exact Or.inl (by decide)
    · exact Or.inl (by decide)
    · exact Or.inl (by decide)
    · exact Or.inl (by decide)
    · exact Or.inr (by decide)
    · exact Or.inr (by decide)
    · exact Or.inl (by decide)
    · exact Or.inl (by decide)
    · exact Or.inl (by decide)
    · exact Or.inl (by decide)
    · exact Or.inl (by decide)
  · rcases (show c = 60 ∨ c = 61 by omega) with rfl | rfl
    · exact ⟨Or.inl rfl, Or.inl (by decide)⟩
    · exact ⟨Or.inr rfl, Or.inr (by decide)⟩
  · subst q; decide
  · subst q; decide
  · unfold c_dd
    rw [if_pos rfl, if_neg (by omega), if_neg (by omega), if_neg (by omega), if_neg (by omega), if_neg (by omega), if_neg (by omega), if_neg (by omega), if_neg (by omega), if_neg (by omega), if_neg (by omega), if_neg (by omega), if_neg (by omega), if_neg (by omega), if_neg (by omega)]; omega
theorem w_step_4 {op : Nat} {fl f1 : List Bool} (h : w_step op fl = some f1) (h1 : 20012 ≤ op) (h2 : op < 30001) : False := by
  unfold w_step at h
  rw [if_neg (by omega)] at h
  by_cases c : op < 30000
  · rw [if_pos c] at h
    match fl, h with
    | b :: a :: r, h =>
      simp only at h
      rw [if_neg (by omega), if_neg (by omega), if_neg (by omega)] at h
      cases h
    | [_], h => cases h
    | [], h => cases h
  · rw [if_neg c, if_neg (by omega)] at h
    cases h
set_option maxHeartbeats 4000000 in
theorem told_lp (hok : okA A) (hp2 : p < k_L (a_C A) + k_R (a_C A)) (I0 : Nat → Nat → Int32) (L0 : Nat → Nat → Int64) (hM0 : RelM I0 L0 A) (h56 : I0 215 56 = nI p) (h57 : I0 215 57 = nI p) :
    ∀ (R : List Nat) (st : List Int) (fl out : List Bool) (q : Nat) (I : Nat → Nat → Int32) (L : Nat → Nat → Int64) (fuel : Nat),
    w_run (R.map (c_dd 3)) fl = some out → fl.length ≤ 40 → w_rel fl st → l_pile (L 295) st → I 215 111 = nI st.length → (∀ i, i < R.length → I 293 (q + i) = nI (R.getD i 0)) → (∀ r ∈ R, d_ok 3 r) → I 215 105 = nI (q + R.length) → q + R.length ≤ 1600 → R.length < fuel → (∀ x, x ≠ 215 → I x = I0 x) → (∀ k, k ≠ 111 → I 215 k = I0 215 k) → (∀ c, c ≠ 295 → L c = L0 c) →
    ∃ I' L', z_fix (fun r x => X12_qTold_B7 215 (nI p) r x) fuel (nI q) (hp I L ρ) = X12_qTold_J168 215 (hp I' L' ρ) ∧ (∀ x, x ≠ 215 → I' x = I0 x) ∧ (∀ k, k ≠ 111 → I' 215 k = I0 215 k) ∧ (∀ a, a ≠ 295 → L' a = L0 a) ∧ l_pile (L' 295) (e_run (q_F (a_C A) (a_s A) p) (R.map (c_dd 3)) st) := by
  have hFb := q_F_in hok.1 hok.2.2.1.1 hp2
  have hp12 : p < 12 := by have := hok.1.1; omega
  obtain ⟨F, hF⟩ : ∃ F, F = q_F (a_C A) (a_s A) p := ⟨_, rfl⟩
  rw [← hF] at hFb ⊢
  intro R
  induction R with
  | nil =>
    intro st fl out q I L fuel h1 hl hr hp0 hn hc hok2 hto hq hfu f1 f2 f3
    obtain ⟨n, rfl⟩ : ∃ n, fuel = n + 1 := ⟨fuel - 1, by omega⟩
    refine ⟨I, L, ?_, f1, f2, f3, hp0⟩
    rw [h_fix]
    show X12_qTold_B7 215 (nI p) _ (nI q) (hp I L ρ) = _
    unfold X12_qTold_B7
    rw [gi_215, hto, h_if, if_pos (nI_le (by simp) (by simp at hq ⊢; omega))]
  | cons r R ih =>
    intro st fl out q I L fuel h1 hl hr hp0 hn hc hok2 hto hq hfu f1 f2 f3
    obtain ⟨n, rfl⟩ : ∃ n, fuel = n + 1 := ⟨fuel - 1, by omega⟩
    simp only [List.length_cons] at hc hto hq hfu
    have hst := w_rel_len hr
    have hokr := hok2 r List.mem_cons_self
    have hcc := w_step_dd hokr
    rw [List.map_cons] at h1
    unfold w_run at h1
    cases hs : w_step (c_dd 3 r) fl with
    | none => rw [hs] at h1; cases h1
    | some fl1 =>
      rw [hs] at h1
      have hr1 := w_rel_step hFb hs hr
      have hl1 := w_step_len hs hl
      have hst1 := w_rel_len hr1
      have hop : I 293 q = nI r := by
        have := hc 0 (by omega)
        simpa using this
      have hrb : r < 11000 := by unfold d_ok at hokr; omega
      have hM : RelM I L A := RelM_L (RelM_fr (fun a ha => f1 a (by unfold lastM at ha; omega)) (fun k hk => f2 k (by unfold fieldM at hk; omega)) (fun _ _ => rfl) hM0) (by rw [f3 215 (by omega)]) (f3 247 (by omega))
      have h56' : I 215 56 = nI p := by rw [f2 56 (by omega)]; exact h56
      have h57' : I 215 57 = nI p := by rw [f2 57 (by omega)]; exact h57
      rw [h_fix]
      generalize hg : z_fix (fun r x => X12_qTold_B7 215 (nI p) r x) n = rec
      have step : ∀ (I1 : Nat → Nat → Int32) (L1 : Nat → Nat → Int64), (∀ x, x ≠ 215 → I1 x = I x) → (∀ k, k ≠ 111 → I1 215 k = I 215 k) → I1 215 111 = nI (e_step F (c_dd 3 r) st).length → (∀ a, a ≠ 295 → L1 a = L a) → l_pile (L1 295) (e_step F (c_dd 3 r) st) → ∃ I' L', X12_qTold_J162 rec 215 (nI p) (nI q) (hp I1 L1 ρ) = X12_qTold_J168 215 (hp I' L' ρ) ∧ (∀ x, x ≠ 215 → I' x = I0 x) ∧ (∀ k, k ≠ 111 → I' 215 k = I0 215 k) ∧ (∀ a, a ≠ 295 → L' a = L0 a) ∧ l_pile (L' 295) (e_run F ((r :: R).map (c_dd 3)) st) := by
        intro I1 L1 g1 g2 g3 g4 g5
        obtain ⟨I', L', a1, a2, a3, a4, a5⟩ := ih (e_step F (c_dd 3 r) st) fl1 out (q + 1) I1 L1 n h1 hl1 hr1 g5 g3 (fun i hi => by
          rw [g1 293 (by omega), show q + 1 + i = q + (i + 1) by omega, hc (i + 1) (by omega), List.getD_cons_succ]) (fun x hx => hok2 x (List.mem_cons_of_mem _ hx)) (by rw [g2 105 (by omega), hto]; congr 1; omega) (by omega) (by omega) (fun x hx => by rw [g1 x hx, f1 x hx]) (fun k hk => by rw [g2 k hk, f2 k hk]) (fun c hc => by rw [g4 c hc, f3 c hc])
        exact ⟨I', L', by unfold X12_qTold_J162; rw [nI_1, ← hg]; exact a1, a2, a3, a4, a5⟩
      have push : ∀ v : Int, e_step F (c_dd 3 r) st = v :: st → ∃ I' L', z_rc 12 215 (z_cv (X12_qPuts 215 (cl v)) (X12_qTold_J162 rec 215 (nI p) (nI q))) (hp I L ρ) = X12_qTold_J168 215 (hp I' L' ρ) ∧ (∀ x, x ≠ 215 → I' x = I0 x) ∧ (∀ k, k ≠ 111 → I' 215 k = I0 215 k) ∧ (∀ a, a ≠ 295 → L' a = L0 a) ∧ l_pile (L' 295) (e_run F ((r :: R).map (c_dd 3)) st) := by
        intro v hv
        rw [rc_215, h_cv (X12_qPuts_h hn (by omega))]
        refine step _ _ (fun x hx => u2r hx) (fun k hk => by rw [u2_ap, if_neg (by omega)]) (by rw [u2_ap, if_pos ⟨rfl, rfl⟩, hv, List.length_cons]) (fun a ha => u2r ha) ?_
        rw [hv]
        exact l_pile_push (f := L 295) hp0 (by rw [u2_ap, if_pos ⟨rfl, rfl⟩]) (fun i hi => by rw [u2_ap, if_neg (by omega)])
      show ∃ I' L', X12_qTold_B7 215 (nI p) rec (nI q) (hp I L ρ) = _ ∧ _
      unfold X12_qTold_B7
      rw [gi_215, hto, h_if, if_neg (nI_ge (by omega) (by omega)), gr_215_104, la_293 (by omega), hop, h_if, show (1000 : Int32) = nI 1000 from rfl]
      simp only [nI_lt' (show r < 2147483648 by omega) (show 1000 < 2147483648 by omega)]
      by_cases c1 : r < 1000
      · rw [if_pos c1, h_if, show (60 : Int32) = nI 60 from rfl]
        simp only [nI_lt' (show r < 2147483648 by omega) (show 60 < 2147483648 by omega)]
        by_cases c6 : r < 60
        · rw [if_pos c6, h_if, show (40 : Int32) = nI 40 from rfl]
          simp only [nI_lt' (show r < 2147483648 by omega) (show 40 < 2147483648 by omega)]
          by_cases c2 : r < 40
          · rw [if_pos c2, h_if, show (13 : Int32) = nI 13 from rfl]
            simp only [nI_inj (show r < 2147483648 by omega) (show 13 < 2147483648 by omega)]
            by_cases c3 : r = 13
            · rw [if_pos c3]
              exact push 1 (by rw [hcc.2.2.2.1 c3]; rfl)
            · rw [if_neg c3, h_if, show (12 : Int32) = nI 12 from rfl]
              simp only [nI_inj (show r < 2147483648 by omega) (show 12 < 2147483648 by omega)]
              by_cases c4 : r = 12
              · rw [if_pos c4]
                have e0 := hcc.2.2.2.2.1 c4
                rw [e0] at hs hr1 hst1 step
                match fl, st, hr, hs, hp0, hst, hr1, hst1, hn, step with
                | a :: fr, x :: t, hr, hs, hp0, hst, hr1, hst1, hn, step =>
                  have e1 : e_step F 30001 (x :: t) = (if x = 0 then 1 else 0) :: t := by
                    simp [e_step, e_one]
                  have hx01 : x = 0 ∨ x = 1 := by
                    simp only [w_step] at hs
                    by_cases qa : a = true
                    · exact hr.1.1 qa
                    · simp [qa] at hs
                  rw [e1] at step
                  simp only [List.length_cons] at hst hl hn
                  rw [gr_215_110, gi_215, hn, nI_pred, gr_215_110, gi_215, hn, nI_pred, ll_295 (by omega), l_pile_top hp0, sl_295 (by omega), show (1 : Int64) - cl x = cl (1 - x) from by rw [show (1 : Int64) = cl 1 from rfl, cl_sub]]
                  refine step _ _ (fun x _ => rfl) (fun k _ => rfl) (by rw [hn, List.length_cons]) (fun a ha => u2r ha) ?_
                  refine l_pile_push (f := L 295) (l_pile_tail hp0) ?_ (fun i hi => by rw [u2_ap, if_neg (by omega)])
                  rw [u2_ap, if_pos ⟨rfl, rfl⟩]
                  rcases hx01 with rfl | rfl <;> rfl
                | [], [], _, hs, _, _, _, _, _, _ => simp [w_step] at hs
              · rw [if_neg c4]
                have e0 := hcc.2.2.2.2.2 (by unfold d_ok at hokr; omega)
                have hop2 : 20001 ≤ c_dd 3 r ∧ c_dd 3 r ≤ 20011 := by unfold d_ok at hokr; omega
                unfold w_step at hs
                rw [if_neg (by omega), if_pos (by omega)] at hs
                match fl, st, hr, hs, hp0, hst, hr1, hst1, hn, step with
                | b :: a :: fr, y :: x :: t, hr, hs, hp0, hst, hr1, hst1, hn, step =>
                  have e1 : e_step F (c_dd 3 r) (y :: x :: t) = e_two (c_dd 3 r) x y :: t := by
                    unfold e_step
                    rw [if_neg (by omega), if_neg (by omega), if_pos (by omega)]
                  rw [e1] at step
                  obtain ⟨⟨b1, b2⟩, ⟨a1, a2⟩, hr⟩ := hr
                  have h21 : r = 10 ∨ r = 11 → (x = 0 ∨ x = 1) ∧ (y = 0 ∨ y = 1) := by
                    simp only at hs
                    split at hs
                    · intro q; omega
                    · split at hs
                      · intro q; omega
                      · split at hs
                        · rename_i q
                          exact fun _ => ⟨a1 q.2.1, b1 q.2.2⟩
                        · cases hs
                  simp only [List.length_cons] at hst hl hn
                  obtain ⟨I1, L1, q1, q2, q3, q4, q5, q6, q7⟩ := X12_qJoins_h (L := L) (ρ := ρ) (r := r) (n := t.length) (x := x) (y := y) (by omega) (by omega) a2 b2 h21 hn (by omega) (l_pile_top hp0) (l_pile_top (l_pile_tail hp0))
                  rw [rc_215, h_cv q1]
                  refine step I1 L1 q2 q3 (by rw [q4, List.length_cons]) q5 ?_
                  rw [e0.1]
                  exact l_pile_push (f := L 295) (l_pile_tail (l_pile_tail hp0)) q6 q7
                | [_], [_], _, hs, _, _, _, _, _, _ => cases hs
                | [], [], _, hs, _, _, _, _, _, _ => cases hs
                | [_], _ :: _ :: _, hr, _, _, _, _, _, _, _ => exact hr.2.elim
          · rcases hcc.2.1 (by omega) c6 with ⟨g1, g2⟩ | g
            · have eP := qPart_h (L := L) (ρ := ρ) (v2 := nI p) hok hM hp2 h56' h57' g1
              rw [← hF] at eP
              rw [if_neg c2, rc_215, pk_sub (by omega), h_cl eP, h_cl (X12_qClip_h (by have := hFb (c_dd 3 r - 10000); omega) (by have := hFb (c_dd 3 r - 10000); omega)), e_clip_id (hFb _)]
              exact push _ (by unfold e_step; rw [if_neg (by omega), if_pos (by omega)])
            · exact absurd (w_step_4 hs (by omega) (by omega)) id
        · rw [if_neg c6]
          obtain ⟨g1, g2⟩ := hcc.2.2.1 (by omega) c1
          have hs2 := hs
          unfold w_step at hs2
          rw [if_neg (by omega), if_neg (by omega), if_pos (by omega)] at hs2
          match fl, st, hr, hs2, hp0, hst, hr1, hst1, hn, step with
          | a :: fr, x :: t, hr, hs2, hp0, hst, hr1, hst1, hn, step =>
            have e1 : e_step F (c_dd 3 r) (x :: t) = e_one F (c_dd 3 r) x :: t := by
              unfold e_step
              rw [if_neg (by omega), if_neg (by omega), if_neg (by omega)]
            rw [e1] at step
            have hb := e_one_in hFb (c_dd 3 r) x
            have eO := qOf_h (L := L) (ρ := ρ) hok hM hp2 g1 hr.1.2
            rw [← hF] at eO
            simp only [List.length_cons] at hst hl hn
            rw [gr_215_110, gi_215, hn, nI_pred, gr_215_110, gi_215, hn, nI_pred, ll_295 (by omega), l_pile_top hp0, rc_215, pk_sub (by omega), h_cl eO, h_cl (X12_qClip_h (by omega) (by omega)), e_clip_id hb, sl_295 (by omega)]
            refine step _ _ (fun x _ => rfl) (fun k _ => rfl) (by rw [hn, List.length_cons]) (fun a ha => u2r ha) ?_
            refine l_pile_push (f := L 295) (l_pile_tail hp0) ?_ (fun i hi => by rw [u2_ap, if_neg (by omega)])
            rw [u2_ap, if_pos ⟨rfl, rfl⟩]
          | [], [], _, hs2, _, _, _, _, _, _ => cases hs2
      · have e0 := hcc.1 (by omega)
        rw [if_neg c1, pk_sub (by omega), nI_cl (by omega)]
        exact push _ (by unfold e_step; rw [if_pos (by omega), e0.1])
theorem X12_qTold_h (hok : okA A) (hp2 : p < k_L (a_C A) + k_R (a_C A)) {R : List Nat} {l : List Nat} {bb : Bool} (hl : w_ok l bb) (hR : cdR 3 R l) (hM : RelM I L A) (h56 : I 215 56 = nI p) (h57 : I 215 57 = nI p) (hc : ∀ i, i < R.length → I 293 i = nI (R.getD i 0)) (h105 : I 215 105 = nI R.length) (hb : R.length ≤ 1600) : ∃ I' L', X12_qTold 215 (nI p) (hp I L ρ) = some (some (.long (cl (q_vs A l p))), hp I' L' ρ) ∧ (∀ x, x ≠ 215 → I' x = I x) ∧ (∀ k, k ≠ 111 → I' 215 k = I 215 k) ∧ ∀ a, a ≠ 295 → L' a = L a := by
  obtain ⟨a, h2, h3⟩ := hl
  have hFb := q_F_in hok.1 hok.2.2.1.1 hp2
  have hM1 : RelM (u2 I 215 111 0) L A := RelM_fr (fun a ha => u2r (by unfold lastM at ha; omega)) (fun k hk => by unfold fieldM at hk; rw [u2_ap, if_neg (by omega)]) (fun _ _ => rfl) hM
  obtain ⟨I', L', e1, e2, e3, e4, e5⟩ := told_lp (ρ := ρ) hok hp2 (u2 I 215 111 0) L hM1 (by rw [u2_ap, if_neg (by omega)]; exact h56) (by rw [u2_ap, if_neg (by omega)]; exact h57) R [] [] [a] 0 (u2 I 215 111 0) L zFU (by rw [hR.1]; exact h2) (by simp) trivial (fun i hi => absurd hi (by simp)) (by rw [u2_ap, if_pos ⟨rfl, rfl⟩]; rfl) (fun i hi => by rw [u2r (by omega), Nat.zero_add]; exact hc i hi) hR.2 (by rw [u2_ap, if_neg (by omega), Nat.zero_add]; exact h105) (by omega) (by unfold zFU; omega) (fun _ _ => rfl) (fun _ _ => rfl) (fun _ _ => rfl)
  refine ⟨I', L', ?_, fun x hx => by rw [e2 x hx, u2r hx], fun k hk => by rw [e3 k hk, u2_ap, if_neg (by omega)], e4⟩
  unfold X12_qTold
  rw [pi_215]
  refine (show z_fix (fun r x => X12_qTold_B7 215 (nI p) r x) zFU 0 (hp (u2 I 215 111 0) L ρ) = _ from e1).trans ?_
  have hr := w_rel_run hFb (st := []) h2 trivial
  rw [hR.1] at e5
  unfold q_vs e_val
  cases hs : e_run (q_F (a_C A) (a_s A) p) l [] with
  | nil => rw [hs] at hr; exact hr.elim
  | cons v t =>
    cases t with
    | cons _ _ => rw [hs] at hr; exact hr.2.elim
    | nil =>
      have h5 := e5 0 (by rw [hs]; simp)
      rw [hs] at h5
      unfold X12_qTold_J168
      rw [gr_215_110, show z_ll 295 0 = z_ll 295 (nI 0) from rfl, ll_295 (by decide), h5]
      rfl
end B8v
