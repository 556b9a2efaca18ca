/-! the reference: how a hand feels, who lets go, what is learnt -/
section B32
variable {I : Nat → Nat → Int32} {L : Nat → Nat → Int64} {ρ : zRh} {h : zH} {C : cT} {s : sT}
theorem X12_codesTell_h {F : Nat → Int} (hFb : ∀ k, -1000000 ≤ F k ∧ F k ≤ 1000000) {w x9 : Nat} (hw : w < 3) (hP : ∀ (I' : Nat → Nat → Int32) (L' : Nat → Nat → Int64) (r : Nat), (∀ x, x ≠ 215 → I' x = I x) → (∀ k, k ≠ 111 → k ≠ 51 → I' 215 k = I 215 k) → 40 ≤ r → r ≤ 48 → c_cc r ≠ 10000 + x9 → X12_qPartOf 215 (nI (r - 40)) 0 (hp I' L' ρ) = some (some (.long (cl (F (c_cc r - 10000)))), hp I' L' ρ)) {q : Nat} {R : List Nat} {b : Bool} (h1 : w_ok (R.map c_cc) b) (hc : ∀ i, i < R.length → I 254 (1600 + (q + i)) = nI (R.getD i 0)) (hok : ∀ r ∈ R, c_ok r) (hx : ∀ r ∈ R, c_cc r ≠ 10000 + x9) (hfr : I 252 (3 + w) = nI q) (hto : I 253 (3 + w) = nI (q + R.length)) (hq : q + R.length ≤ 1600) :
    ∃ I' L', X12_codesTell 215 (nI w) (hp I L ρ) = some (some (.long (cl (e_val F (R.map c_cc)))), hp I' L' ρ) ∧ (∀ x, x ≠ 215 → I' x = I x) ∧ (∀ k, k ≠ 111 → k ≠ 51 → I' 215 k = I 215 k) ∧ ∀ a, a ≠ 295 → L' a = L a := by
  obtain ⟨a, h2, h3⟩ := h1
  unfold X12_codesTell
  rw [pi_215, pi_215, gr_215_46, show (3 : Int32) = nI 3 from rfl, nI_add, la_252 (by omega), u2r (show (252 : Nat) ≠ 215 by decide), u2r (show (252 : Nat) ≠ 215 by decide), hfr]
  have f1 : ∀ x, x ≠ 215 → u2 (u2 I 215 51 (nI w)) 215 111 0 x = I x := fun x hx => by rw [u2r hx, u2r hx]
  have f2 : ∀ k, k ≠ 111 → k ≠ 51 → u2 (u2 I 215 51 (nI w)) 215 111 0 215 k = I 215 k := fun k h1 h2 => by rw [u2_ap, if_neg (by omega), u2_ap, if_neg (by omega)]
  obtain ⟨I', L', e1, e2, e3, e4, e5⟩ := X12_codes_lp (ρ := ρ) hFb (x9 := x9) hw (u2 (u2 I 215 51 (nI w)) 215 111 0) (fun I1 L1 r g1 g2 g3 g4 g5 => hP I1 L1 r (fun x hx => by rw [g1 x hx, f1 x hx]) (fun k k1 k2 => by rw [g2 k k1, f2 k k1 k2]) g3 g4 g5) R [] [] [a] q (u2 (u2 I 215 51 (nI w)) 215 111 0) L zFU h2 (by simp) trivial (fun i hi => absurd hi (by simp)) (by rw [u2_ap, if_pos ⟨rfl, rfl⟩]; rfl) (fun i hi => by rw [f1 254 (by omega)]; exact hc i hi) hok hx (by rw [f1 253 (by omega)]; exact hto) hq (by unfold zFU; omega) (fun _ _ => rfl) (fun _ _ => rfl)
  refine ⟨I', L', ?_, fun x hx => by rw [e2 x hx, f1 x hx], fun k k1 k2 => by rw [e3 k k1, f2 k k1 k2], e4⟩
  refine e1.trans ?_
  have hr := w_rel_run hFb (st := []) h2 trivial
  unfold e_val
  cases hs : e_run F (R.map c_cc) [] with
  | nil => rw [hs] at hr; exact hr.elim
  | cons v t =>
    cases t with
    | cons _ _ => rw [hs] at hr; exact hr.2.elim
    | nil =>
      have h5 := e5 0 (by rw [hs]; simp)
      rw [hs] at h5
      unfold X12_codesTell_J142
      rw [gr_215_110, lll_0, ll_295 (by decide), h5]
      rfl
/-- what is asked about: how b's hand is to a -/
def askM (I : Nat → Nat → Int32) (C : cT) (s : sT) (a b : Nat) : Prop := I 215 56 = nI (k_num C a) ∧ I 215 57 = nI (k_num C b) ∧ I 215 58 = nI (s_kno s (6 * a + b % 6)) ∧ I 215 59 = nI (s_lik s (6 * a + b % 6))
theorem lN_cl (n : Nat) : lN n = cl (n : Int) := (Int64.ofInt_eq_ofNat).symm
theorem nI_cl {n : Nat} (h : n < 2147483648) : (nI n).toInt64 = cl (n : Int) := by rw [nI_l (by omega), lN_cl]
set_option maxHeartbeats 1000000 in
theorem X12_part_h (hk : okC C) (hB : bnS s) (hM : chM I C) (hS : stM I C s) {a b : Nat} (ha : k_th C a) (hb : k_th C b) (hA : askM I C s a b) {x9 : Nat} (h6 : x9 = 6 ∨ I 215 60 = ci (p_feel C s a b)) {r : Nat} (h1 : 40 ≤ r) (h2 : r ≤ 48) (h3 : c_cc r ≠ 10000 + x9) : X12_qPartOf 215 (nI (r - 40)) 0 (hp I L ρ) = some (some (.long (cl (p_fy C s a b (c_cc r - 10000)))), hp I L ρ) := by
  have hb1 := hB.2.2 (6 * a + b % 6) (by have := k_th_lt hk ha; omega)
  have hb2 := hB.2.1 a (k_th_lt hk ha)
  have hb3 := hB.2.1 b (k_th_lt hk hb)
  have hb4 := hB.1
  have hb5 := hk.2.2.2.1 b (k_th_lt hk hb)
  obtain ⟨a1, a2, a3, a4⟩ := hA
  unfold X12_qPartOf
  rw [h_if, nI_toInt (by omega), if_neg (by omega), show (((r - 40 : Nat) : Int) - 0).toNat = r - 40 by omega]
  have hr : r = 40 ∨ r = 41 ∨ r = 42 ∨ r = 43 ∨ r = 44 ∨ r = 45 ∨ r = 46 ∨ r = 47 ∨ r = 48 := by omega
  rcases hr with rfl | rfl | rfl | rfl | rfl | rfl | rfl | rfl | rfl
  · rw [show (40 - 40 : Nat) = 0 from rfl]
    rw [X12_qPartOf_S1_0]
    rw [gi_215, a3, nI_cl (by omega), h_ret]
    rfl
  · rw [show (41 - 40 : Nat) = 1 from rfl]
    rw [X12_qPartOf_S1_1]
    rw [gr_215_52, lal_0, la_255 (by decide), hS.1.1, nI_cl (by omega), h_ret]
    rfl
  · rw [show (42 - 40 : Nat) = 2 from rfl]
    rw [X12_qPartOf_S1_2]
    rw [gi_215, a2, rc_215, h_ci (X12_hand0 hk hM hb), nI_cl (by omega), h_ret]
    rfl
  · rw [show (43 - 40 : Nat) = 3 from rfl]
    rw [X12_qPartOf_S1_3]
    rw [gi_215, a2, rc_215, h_ci (X12_hand1 hk hM hb), nI_cl (by omega), h_ret]
    rfl
  · rw [show (44 - 40 : Nat) = 4 from rfl]
    rw [X12_qPartOf_S1_4]
    rw [gi_215, a2, rc_215, h_ci (X12_hand2 hk hM hS hb), nI_cl (by omega), h_ret]
    rfl
  · rw [show (45 - 40 : Nat) = 5 from rfl]
    rw [X12_qPartOf_S1_5]
    rw [gi_215, a4, nI_cl (by omega), h_ret]
    rfl
  · rw [show (46 - 40 : Nat) = 6 from rfl]
    rw [X12_qPartOf_S1_6]
    rcases h6 with h6 | h6
    · exact absurd (by rw [h6]; rfl) h3
    · have hf := p_feel_in (C := C) (s := s) a b
      rw [gi_215, h6, cl_ci (by omega) (by omega), h_ret]
      rfl
  · rw [show (47 - 40 : Nat) = 7 from rfl]
    rw [X12_qPartOf_S1_7]
    rw [gr_215_52, lal_1, la_255 (by decide), hS.1.2, nI_cl (by omega), h_ret]
    rfl
  · rw [show (48 - 40 : Nat) = 8 from rfl]
    rw [X12_qPartOf_S1_8]
    rw [gi_215, a1, rc_215, h_ci (X12_waitedOf_h hk hM hS ha), nI_cl (by omega), h_ret]
    rfl
/-- what a question of hands leaves as it was -/
def frM (I I' : Nat → Nat → Int32) (L L' : Nat → Nat → Int64) : Prop := (∀ x, x ≠ 215 → I' x = I x) ∧ (∀ k, k ≠ 51 → k ≠ 56 → k ≠ 57 → k ≠ 58 → k ≠ 59 → k ≠ 60 → k ≠ 111 → I' 215 k = I 215 k) ∧ ∀ x, x ≠ 295 → L' x = L x
theorem frM_ch {I I' : Nat → Nat → Int32} {L L' : Nat → Nat → Int64} (h : frM I I' L L') (hM : chM I C) : chM I' C := chM_fr (fun a ha => h.1 a (by omega)) (h.2.1 53 (by omega) (by omega) (by omega) (by omega) (by omega) (by omega) (by omega)) hM
theorem frM_st {I I' : Nat → Nat → Int32} {L L' : Nat → Nat → Int64} (h : frM I I' L L') (hS : stM I C s) : stM I' C s := stM_fr (h.1 255 (by omega)) (h.2.1 54 (by omega) (by omega) (by omega) (by omega) (by omega) (by omega) (by omega)) (h.2.1 55 (by omega) (by omega) (by omega) (by omega) (by omega) (by omega) (by omega)) (h.1 248 (by omega)) hS
theorem frM_tr {I I1 I2 : Nat → Nat → Int32} {L L1 L2 : Nat → Nat → Int64} (h : frM I I1 L L1) (h2 : frM I1 I2 L1 L2) : frM I I2 L L2 := ⟨fun x hx => by rw [h2.1 x hx, h.1 x hx], fun k a b c d e f g => by rw [h2.2.1 k a b c d e f g, h.2.1 k a b c d e f g], fun x hx => by rw [h2.2.2 x hx, h.2.2 x hx]⟩
theorem X12_isCoded_h {w : Nat} (hw : w < 3) : X12_isCoded 215 (nI w) (hp I L ρ) = some (some (.int (if I 252 (3 + w) = -1 then 0 else 1)), hp I L ρ) := by
  unfold X12_isCoded
  rw [gr_215_46, show (3 : Int32) = nI 3 from rfl, nI_add, la_252 (by omega), h_if]
  split <;> rfl
theorem e_clip_id {x : Int} (h : -1000000 ≤ x ∧ x ≤ 1000000) : e_clip x = x := by
  unfold e_clip
  rw [if_neg (by omega), if_neg (by omega)]
theorem e_val_d0 (F : Nat → Int) : e_val F (p_dflt 0) = e_clip (F 2 + F 0) := by
  simp [e_val, p_dflt, e_run, e_step, e_two_1]
theorem e_val_d1 (F : Nat → Int) : e_val F (p_dflt 1) = if F 6 < 8 then 1 else 0 := by
  simp [e_val, p_dflt, e_run, e_step, e_two_7]
theorem e_val_d2 (F : Nat → Int) : e_val F (p_dflt 2) = e_clip (F 0 + 1) := by
  simp [e_val, p_dflt, e_run, e_step, e_two_1]
/-- formula w, where it is told, about two of whom is asked -/
theorem X12_tell_h (hk : okC C) (hB : bnS s) (hM : chM I C) (hS : stM I C s) {a b : Nat} (ha : k_th C a) (hb : k_th C b) (hA : askM I C s a b) {w : Nat} (hw : w < 3) (h6 : w = 0 ∨ I 215 60 = ci (p_feel C s a b)) (hn : ¬ I 252 (3 + w) = -1) : ∃ I' L', X12_codesTell 215 (nI w) (hp I L ρ) = some (some (.long (cl (e_val (p_fy C s a b) (k_code C w)))), hp I' L' ρ) ∧ (∀ x, x ≠ 215 → I' x = I x) ∧ (∀ k, k ≠ 111 → k ≠ 51 → I' 215 k = I 215 k) ∧ ∀ a, a ≠ 295 → L' a = L a := by
  have hcd := hM.2.2.2.2.2 w hw
  rcases hcd with ⟨c1, -⟩ | ⟨q, R, c1, c2, c3, c4, c5, c6⟩
  · exact absurd c1 hn
  · have hcode : ∀ r ∈ R, c_cc r ≠ 10000 + (if w = 0 then 6 else 99) := by
      intro r hr
      have hm : c_cc r ∈ k_code C w := by rw [← c4]; exact List.mem_map_of_mem hr
      split
      · rename_i e
        subst e
        exact hk.2.2.2.2.2.2 _ hm
      · have := (hk.2.2.2.2.2.1 w hw).2 _ hm
        omega
    have h1 := (hk.2.2.2.2.2.1 w hw).1
    rw [← c4] at h1 ⊢
    refine X12_codesTell_h (p_fy_in hk hB (k_th_lt hk ha) (k_th_lt hk hb)) (x9 := if w = 0 then 6 else 99) hw (fun I1 L1 r g1 g2 g3 g4 g5 => ?_) h1 c6 c5 hcode c1 c2 c3
    have hM1 : chM I1 C := chM_fr (fun x hx => g1 x (by omega)) (g2 53 (by omega) (by omega)) hM
    have hS1 : stM I1 C s := stM_fr (g1 255 (by omega)) (g2 54 (by omega) (by omega)) (g2 55 (by omega) (by omega)) (g1 248 (by omega)) hS
    refine X12_part_h hk hB hM1 hS1 ha hb ?_ (x9 := if w = 0 then 6 else 99) ?_ g3 g4 g5
    · unfold askM
      rw [g2 56 (by omega) (by omega), g2 57 (by omega) (by omega), g2 58 (by omega) (by omega), g2 59 (by omega) (by omega)]
      exact hA
    · rcases h6 with e | e
      · left; rw [if_pos e]
      · right; rw [g2 60 (by omega) (by omega)]; exact e
theorem e_val_fx (hk : okC C) (a b : Nat) : e_val (p_fy C s a b) (k_code C 0) = e_val (p_fx C s a b) (k_code C 0) := by
  have h := hk.2.2.2.2.2.2
  unfold e_val
  have key : ∀ (l : List Nat) (st : List Int), (∀ op ∈ l, op ≠ 10006) → (∀ op ∈ l, op < 10009 ∨ 20000 ≤ op ∧ op ≤ 30001) → e_run (p_fy C s a b) l st = e_run (p_fx C s a b) l st := by
    intro l
    induction l with
    | nil => intro st _ _; rfl
    | cons op l ih =>
      intro st h1 h2
      have e : e_step (p_fy C s a b) op st = e_step (p_fx C s a b) op st := by
        have q1 := h1 op List.mem_cons_self
        have q2 := h2 op List.mem_cons_self
        unfold e_step
        by_cases c1 : op < 10000
        · rw [if_pos c1, if_pos c1]
        · rw [if_neg c1, if_neg c1]
          by_cases c2 : op < 20000
          · rw [if_pos c2, if_pos c2]
            unfold p_fy
            rw [if_neg (by omega)]
          · rw [if_neg c2, if_neg c2]
            by_cases c3 : op < 30000
            · rw [if_pos c3, if_pos c3]
            · rw [if_neg c3, if_neg c3]
              cases st with
              | nil => rfl
              | cons x r =>
                show e_one (p_fy C s a b) op x :: r = e_one (p_fx C s a b) op x :: r
                unfold e_one
                by_cases c4 : op = 30001
                · rw [if_pos c4, if_pos c4]
                · rw [if_neg c4, if_neg c4]
                  by_cases c5 : x < 0 ∨ 12 ≤ x
                  · rw [if_pos c5, if_pos c5]
                  · rw [if_neg c5, if_neg c5]
                    rw [p_fy9 a b (by split <;> omega), p_fx9 a b (by split <;> omega)]
      unfold e_run
      rw [e]
      exact ih _ (fun o ho => h1 o (List.mem_cons_of_mem _ ho)) (fun o ho => h2 o (List.mem_cons_of_mem _ ho))
  rw [key _ _ h (hk.2.2.2.2.2.1 0 (by omega)).2]
theorem X12_feltBy_h (hk : okC C) (hB : bnS s) (hM : chM I C) (hS : stM I C s) {a b : Nat} (ha : k_th C a) (hb : k_th C b) : ∃ I' L', X12_feltBy 215 (nI a) (nI b) (hp I L ρ) = some (some (.int (ci (p_feel C s a b))), hp I' L' ρ) ∧ frM I I' L L' := by
  obtain ⟨I1, e1, f1, f2, a1, a2, a3, a4⟩ := X12_asksOf_h (L := L) (ρ := ρ) hk hM hS ha (k_th_lt hk hb)
  have hfr : frM I I1 L L := ⟨f1, fun k h1 h2 h3 h4 h5 h6 h7 => f2 k h2 h3 h4 h5, fun _ _ => rfl⟩
  have hM1 := frM_ch hfr hM
  have hS1 := frM_st hfr hS
  have hin := e_val_in (p_fx_in hk hB (k_th_lt hk ha) (k_th_lt hk hb)) (hk.2.2.2.2.2.1 0 (by omega)).1
  have hb1 := hB.2.2 (6 * a + b % 6) (by have := k_th_lt hk ha; omega)
  unfold X12_feltBy X12_feltBy_J32
  rw [rc_215, h_cv e1, rc_215, h_ci (show X12_isCoded 215 0 _ = _ from X12_isCoded_h (w := 0) (by omega)), h_if]
  by_cases c : I1 252 (3 + 0) = -1
  · rw [if_pos c, if_pos rfl, gi_215, a4, gi_215, a3, nI_add, nI_cl (by omega), h_ci (show X12_clamp _ 99 _ = _ from X12_clamp_h (by omega) (m := 99) (by omega)), h_ret]
    refine ⟨I1, L, ?_, hfr⟩
    have hd := hM1.2.2.2.2.2 0 (by omega)
    rcases hd with ⟨-, hd⟩ | ⟨q, R, d1, d2, d3, -⟩
    · unfold p_feel
      rw [hd, e_val_d0, e_clip_id]
      · rfl
      · have := p_fx_in (C := C) (s := s) hk hB (k_th_lt hk ha) (k_th_lt hk hb) 0
        show -1000000 ≤ (s_lik s (6 * a + b % 6) : Int) + (s_kno s (6 * a + b % 6) : Int) ∧ (s_lik s (6 * a + b % 6) : Int) + (s_kno s (6 * a + b % 6) : Int) ≤ 1000000
        omega
    · rw [c] at d1
      exact absurd d1.symm (nI_nm1 (by omega))
  · obtain ⟨I2, L2, e2, g1, g2, g3⟩ := X12_tell_h (L := L) (ρ := ρ) hk hB hM1 hS1 ha hb ⟨a1, a2, a3, a4⟩ (w := 0) (by omega) (Or.inl rfl) c
    rw [if_neg c, if_neg (by decide), rc_215, h_cl (show X12_codesTell 215 0 _ = _ from e2), e_val_fx hk, h_ci (show X12_clamp _ 99 _ = _ from X12_clamp_h (by omega) (m := 99) (by omega)), h_ret]
    exact ⟨I2, L2, rfl, frM_tr hfr ⟨g1, fun k h1 h2 h3 h4 h5 h6 h7 => g2 k h7 h1, g3⟩⟩
theorem X12_doesLet_h (hk : okC C) (hB : bnS s) (hM : chM I C) (hS : stM I C s) {a b : Nat} (ha : k_th C a) (hb : k_th C b) : ∃ I' L', X12_doesLet 215 (nI a) (nI b) (hp I L ρ) = some (some (.int (bI (p_lets C s a b))), hp I' L' ρ) ∧ frM I I' L L' := by
  obtain ⟨I0, L0, e0, hfr0⟩ := X12_feltBy_h (L := L) (ρ := ρ) hk hB hM hS ha hb
  obtain ⟨I1, e1, f1, f2, a1, a2, a3, a4⟩ := X12_asksOf_h (L := L0) (ρ := ρ) hk (frM_ch hfr0 hM) (frM_st hfr0 hS) ha (k_th_lt hk hb)
  have hfr : frM I (u2 I1 215 60 (ci (p_feel C s a b))) L L0 := frM_tr hfr0 ⟨fun x hx => by rw [u2r hx, f1 x hx], fun k h1 h2 h3 h4 h5 h6 h7 => by rw [u2_ap, if_neg (by omega), f2 k h2 h3 h4 h5], fun _ _ => rfl⟩
  have hM1 := frM_ch hfr hM
  have hS1 := frM_st hfr hS
  have hin := e_val_in (p_fy_in hk hB (k_th_lt hk ha) (k_th_lt hk hb)) (hk.2.2.2.2.2.1 1 (by omega)).1
  have hf := p_feel_in (C := C) (s := s) a b
  unfold X12_doesLet
  rw [rc_215, h_ci e0, rc_215, h_cv e1, pi_215, rc_215, h_ci (show X12_isCoded 215 1 _ = _ from X12_isCoded_h (w := 1) (by omega)), h_if]
  by_cases c : u2 I1 215 60 (ci (p_feel C s a b)) 252 (3 + 1) = -1
  · rw [if_pos c, if_pos rfl, h_if, show (8 : Int32) = ci 8 from rfl]
    simp only [ci_le (x := 8) (y := p_feel C s a b) (by omega) (by omega) (by omega) (by omega)]
    have hd := hM1.2.2.2.2.2 1 (by omega)
    rcases hd with ⟨-, hd⟩ | ⟨q, R, d1, d2, d3, -⟩
    · unfold p_lets
      rw [hd, e_val_d1]
      have e6 : p_fy C s a b 6 = p_feel C s a b := rfl
      rw [e6]
      refine ⟨_, L0, ?_, hfr⟩
      by_cases c8 : 8 ≤ p_feel C s a b
      · rw [if_pos c8, if_neg (by omega)]; rfl
      · rw [if_neg c8, if_pos (by omega)]; rfl
    · rw [c] at d1
      exact absurd d1.symm (nI_nm1 (by omega))
  · obtain ⟨I2, L2, e2, g1, g2, g3⟩ := X12_tell_h (L := L0) (ρ := ρ) hk hB hM1 hS1 ha hb ⟨by rw [u2_ap, if_neg (by omega)]; exact a1, by rw [u2_ap, if_neg (by omega)]; exact a2, by rw [u2_ap, if_neg (by omega)]; exact a3, by rw [u2_ap, if_neg (by omega)]; exact a4⟩ (w := 1) (by omega) (Or.inr (by rw [u2_ap, if_pos ⟨rfl, rfl⟩])) c
    rw [if_neg c, if_neg (by decide), rc_215, h_cl (show X12_codesTell 215 1 _ = _ from e2), h_if, show (1 : Int64) = cl 1 from rfl]
    simp only [cl_eq (x := e_val (p_fy C s a b) (k_code C 1)) (y := 1) (by omega) (by omega) (by omega) (by omega)]
    refine ⟨I2, L2, ?_, frM_tr hfr ⟨g1, fun k h1 h2 h3 h4 h5 h6 h7 => g2 k h7 h1, g3⟩⟩
    have h01 : e_val (p_fy C s a b) (k_code C 1) = 0 ∨ e_val (p_fy C s a b) (k_code C 1) = 1 := by
      obtain ⟨aa, w1, w2⟩ := (hk.2.2.2.2.2.1 1 (by omega)).1
      have hr := w_rel_run (p_fy_in (C := C) (s := s) hk hB (k_th_lt hk ha) (k_th_lt hk hb)) (st := []) w1 trivial
      have w3 := w2 (by decide)
      subst w3
      unfold e_val
      cases hs : e_run (p_fy C s a b) (k_code C 1) [] with
      | nil => rw [hs] at hr; exact hr.elim
      | cons v t => rw [hs] at hr; exact hr.1.1 rfl
    unfold p_lets
    rcases h01 with e | e
    · rw [e, if_neg (by omega)]; rfl
    · rw [e, if_pos rfl]; rfl
theorem X12_learnt_h (hk : okC C) (hB : bnS s) (hM : chM I C) (hS : stM I C s) {a b : Nat} (ha : k_th C a) (hb : k_th C b) : ∃ I' L', X12_learnt 215 (nI a) (nI b) (hp I L ρ) = some (some (.int (nI (p_learn C s a b))), hp I' L' ρ) ∧ frM I I' L L' := by
  obtain ⟨I0, L0, e0, hfr0⟩ := X12_feltBy_h (L := L) (ρ := ρ) hk hB hM hS ha hb
  obtain ⟨I1, e1, f1, f2, a1, a2, a3, a4⟩ := X12_asksOf_h (L := L0) (ρ := ρ) hk (frM_ch hfr0 hM) (frM_st hfr0 hS) ha (k_th_lt hk hb)
  have hfr : frM I (u2 I1 215 60 (ci (p_feel C s a b))) L L0 := frM_tr hfr0 ⟨fun x hx => by rw [u2r hx, f1 x hx], fun k h1 h2 h3 h4 h5 h6 h7 => by rw [u2_ap, if_neg (by omega), f2 k h2 h3 h4 h5], fun _ _ => rfl⟩
  have hM1 := frM_ch hfr hM
  have hS1 := frM_st hfr hS
  have hin := e_val_in (p_fy_in hk hB (k_th_lt hk ha) (k_th_lt hk hb)) (hk.2.2.2.2.2.1 2 (by omega)).1
  have hb1 := hB.2.2 (6 * a + b % 6) (by have := k_th_lt hk ha; omega)
  unfold X12_learnt X12_learnt_J41
  rw [rc_215, h_ci e0, rc_215, h_cv e1, pi_215, rc_215, h_ci (show X12_isCoded 215 2 _ = _ from X12_isCoded_h (w := 2) (by omega)), h_if]
  by_cases c : u2 I1 215 60 (ci (p_feel C s a b)) 252 (3 + 2) = -1
  · rw [if_pos c, if_pos rfl, gi_215, u2_ap, if_neg (by omega), a3, nI_1, nI_cl (by omega), h_ci (show X12_clamp _ 9 _ = _ from X12_clamp_h (by omega) (m := 9) (by omega)), h_ret, p_learn_ci]
    refine ⟨_, L0, ?_, hfr⟩
    have hd := hM1.2.2.2.2.2 2 (by omega)
    rcases hd with ⟨-, hd⟩ | ⟨q, R, d1, d2, d3, -⟩
    · rw [hd, e_val_d2, e_clip_id]
      · rfl
      · show -1000000 ≤ (s_kno s (6 * a + b % 6) : Int) + 1 ∧ (s_kno s (6 * a + b % 6) : Int) + 1 ≤ 1000000
        omega
    · rw [c] at d1
      exact absurd d1.symm (nI_nm1 (by omega))
  · obtain ⟨I2, L2, e2, g1, g2, g3⟩ := X12_tell_h (L := L0) (ρ := ρ) hk hB hM1 hS1 ha hb ⟨by rw [u2_ap, if_neg (by omega)]; exact a1, by rw [u2_ap, if_neg (by omega)]; exact a2, by rw [u2_ap, if_neg (by omega)]; exact a3, by rw [u2_ap, if_neg (by omega)]; exact a4⟩ (w := 2) (by omega) (Or.inr (by rw [u2_ap, if_pos ⟨rfl, rfl⟩])) c
    rw [if_neg c, if_neg (by decide), rc_215, h_cl (show X12_codesTell 215 2 _ = _ from e2), h_ci (show X12_clamp _ 9 _ = _ from X12_clamp_h (by omega) (m := 9) (by omega)), h_ret, p_learn_ci]
    exact ⟨I2, L2, rfl, frM_tr hfr ⟨g1, fun k h1 h2 h3 h4 h5 h6 h7 => g2 k h7 h1, g3⟩⟩
end B32
