/-! the reference's words of a formula are the class's -/
section B79
variable {I I0 : Nat → Nat → Int32} {L L0 : Nat → Nat → Int64} {ρ : zRh} {h : zH} {b : Nat → Nat} {n a x o bs kd : Nat} {V W W0 Q : List Nat}
theorem isW_same {w v : List Nat} (h1 : isW b n a w = true) (h2 : isW b n a v = true) : w = v := by
  have p1 := of_decide_eq_true h1
  have p2 := of_decide_eq_true h2
  refine List.ext_getElem (by omega) (fun i i1 i2 => ?_)
  have q1 := p1.2.2 i i1
  have q2 := p2.2.2 i i2
  rw [List.getD_eq_getElem?_getD, List.getElem?_eq_getElem i1] at q1
  rw [List.getD_eq_getElem?_getD, List.getElem?_eq_getElem i2] at q2
  exact q1.symm.trans q2
def fi (w : List Nat) : List (List Nat) → Nat → Option Nat
  | [], _ => none
  | v :: ws, k => if v = w then some k else fi w ws (k + 1)
theorem t_in_fi {w : List Nat} (h : isW b n a w = true) : ∀ (ws : List (List Nat)) (k : Nat), t_in b n a ws k = fi w ws k
  | [], k => rfl
  | v :: ws, k => by
    rw [t_in_c]
    show _ = if v = w then some k else fi w ws (k + 1)
    by_cases c : v = w
    · rw [if_pos c, c, if_pos h]
    · rw [if_neg c, if_neg (fun q => c (isW_same q h)), t_in_fi h ws (k + 1)]
theorem t_in_0 : ∀ (ws : List (List Nat)) (k : Nat), t_in b n a ws k = none → ∀ w ∈ ws, ¬ isW b n a w = true
  | [], k, h, w, hw => by cases hw
  | v :: ws, k, h, w, hw => by
    rw [t_in_c] at h
    by_cases c : isW b n a v = true
    · rw [if_pos c] at h; cases h
    · rw [if_neg c] at h
      rcases List.mem_cons.mp hw with q | q
      · rw [q]; exact c
      · exact t_in_0 ws (k + 1) h w q
theorem t_in_00 : ∀ (ws : List (List Nat)) (k : Nat), (∀ w ∈ ws, ¬ isW b n a w = true) → t_in b n a ws k = none
  | [], k, h => rfl
  | v :: ws, k, h => by
    rw [t_in_c, if_neg (h v (List.mem_cons_self ..)), t_in_00 ws (k + 1) (fun w hw => h w (List.mem_cons_of_mem _ hw))]
def pw1 (kd : Nat) (r : Option Nat) : Option Nat := match r with
  | some k => if b_k (pmk kd) k = 1 then some (c_ci kd k) else none
  | none => none
theorem fi_ok : ∀ kd, kd < 4 → ∀ y, y < 14 → pw1 kd (fi (rws.getD y []) (pws kd) 0) = (if 0 ≤ y ∧ y < 12 ∧ alw kd y = true then some y else none).map (fun y => 40 + y) := by decide +kernel
theorem pws_in : ∀ kd, kd < 4 → ∀ w ∈ pws kd, w ∈ rws := by decide +kernel
theorem t_in_w {y : Nat} (h : t_in b n a rws 0 = some y) : isW b n a (rws.getD y []) = true ∧ y < 14 := ⟨(t_in_lt h).2.2, by have := (t_in_lt h).1.2; have : rws.length = 14 := rfl; omega⟩
/-- the parts that are words -/
theorem pw_wof (hkd : kd < 4) : pw1 kd (t_in b n a (pws kd) 0) = (wof b n kd a 0 12).map (fun y => 40 + y) := by
  rcases q : t_in b n a rws 0 with _ | y
  · rw [wof_n q, t_in_00 (pws kd) 0 (fun w hw => t_in_0 rws 0 q w (pws_in kd hkd w hw))]; rfl
  · obtain ⟨h1, h2⟩ := t_in_w q
    rw [wof_s q, t_in_fi h1, fi_ok kd hkd y h2]
theorem mPart_s {c : Nat} (c1 : ¬ isD (t_c b n a) = true) (h : pw1 kd (t_in b n a (pws kd) 0) = some c) : mPart b n kd a = .inr (sk b n (a + wl b n a), c) := by
  rcases q : t_in b n a (pws kd) 0 with _ | k
  · rw [q] at h; cases h
  · rw [q] at h
    have h2 : (if b_k (pmk kd) k = 1 then some (c_ci kd k) else none) = some c := h
    rw [mPart_w c1 q]
    by_cases z : b_k (pmk kd) k = 1
    · rw [if_pos z] at h2 ⊢; cases h2; rfl
    · rw [if_neg z] at h2; cases h2
theorem mPart_n (c1 : ¬ isD (t_c b n a) = true) (h : pw1 kd (t_in b n a (pws kd) 0) = none) : mPart b n kd a = .inl (1, a) := by
  rcases q : t_in b n a (pws kd) 0 with _ | k
  · exact mPart_0 c1 q
  · rw [q] at h
    have h2 : (if b_k (pmk kd) k = 1 then some (c_ci kd k) else none) = none := h
    rw [mPart_w c1 q]
    by_cases z : b_k (pmk kd) k = 1
    · rw [if_pos z] at h2; cases h2
    · rw [if_neg z]
theorem lk_ok : ∀ kd, kd < 4 → ∀ y, y < 14 → (if 12 ≤ y ∧ y < 14 ∧ alw kd y = true then some y else none) = (if kd = 3 ∧ w_likes = rws.getD y [] then some 12 else if kd = 3 ∧ w_knows = rws.getD y [] then some 13 else none) := by decide +kernel
theorem wof_lk (hkd : kd < 4) : wof b n kd a 12 14 = if kd = 3 ∧ isW b n a w_likes = true then some 12 else if kd = 3 ∧ isW b n a w_knows = true then some 13 else none := by
  rcases q : t_in b n a rws 0 with _ | y
  · rw [wof_n q, if_neg (fun z => t_in_0 rws 0 q w_likes (by decide) z.2), if_neg (fun z => t_in_0 rws 0 q w_knows (by decide) z.2)]
  · obtain ⟨h1, h2⟩ := t_in_w q
    have e : ∀ w, (isW b n a w = true ↔ w = rws.getD y []) := fun w => ⟨fun z => isW_same z h1, fun z => by rw [z]; exact h1⟩
    rw [wof_s q, lk_ok kd hkd y h2]
    simp only [e]
/-- the word that wof tells stands here -/
theorem wof_w {lo hi y : Nat} (h : wof b n kd a lo hi = some y) : isW b n a (rws.getD y []) = true ∧ y < 14 ∧ lo ≤ y ∧ y < hi ∧ alw kd y = true := by
  rcases q : t_in b n a rws 0 with _ | z
  · rw [wof_n q] at h; cases h
  · rw [wof_s q] at h
    by_cases c : lo ≤ z ∧ z < hi ∧ alw kd z = true
    · rw [if_pos c] at h
      cases h
      exact ⟨(t_in_w q).1, (t_in_w q).2, c⟩
    · rw [if_neg c] at h; cases h
theorem rws_in : ∀ y, y < 14 → (279 + y, rws.getD y []) ∈ wdL := by decide +kernel
theorem X12_qAsksWord_e {y : Nat} (hy : y < 14) {h1 : zH} (e : X12_asks 215 (279 + y) (hp I L ρ) = some (none, h1)) : X12_qAsksWord 215 (nI y) (hp I L ρ) = some (none, h1) := by
  unfold X12_qAsksWord
  rw [h_if, nI_toI (by omega)]
  by_cases c : y = 13
  · subst c
    rw [if_pos (by omega), gr_215_103, rc_215, h_cv e]; rfl
  · rw [if_neg (by omega), show ((y : Int) - 0).toNat = y by omega]
    have hr : y = 0 ∨ y = 1 ∨ y = 2 ∨ y = 3 ∨ y = 4 ∨ y = 5 ∨ y = 6 ∨ y = 7 ∨ y = 8 ∨ y = 9 ∨ y = 10 ∨ y = 11 ∨ y = 12 := by omega
    rcases hr with rfl | rfl | rfl | rfl | rfl | rfl | rfl | rfl | rfl | rfl | rfl | rfl | rfl
    · rw [X12_qAsksWord_S1_0, gr_215_90, rc_215, h_cv e]; rfl
    · rw [X12_qAsksWord_S1_1, gr_215_91, rc_215, h_cv e]; rfl
    · rw [X12_qAsksWord_S1_2, gr_215_92, rc_215, h_cv e]; rfl
    · rw [X12_qAsksWord_S1_3, gr_215_93, rc_215, h_cv e]; rfl
    · rw [X12_qAsksWord_S1_4, gr_215_94, rc_215, h_cv e]; rfl
    · rw [X12_qAsksWord_S1_5, gr_215_95, rc_215, h_cv e]; rfl
    · rw [X12_qAsksWord_S1_6, gr_215_96, rc_215, h_cv e]; rfl
    · rw [X12_qAsksWord_S1_7, gr_215_97, rc_215, h_cv e]; rfl
    · rw [X12_qAsksWord_S1_8, gr_215_98, rc_215, h_cv e]; rfl
    · rw [X12_qAsksWord_S1_9, gr_215_99, rc_215, h_cv e]; rfl
    · rw [X12_qAsksWord_S1_10, gr_215_100, rc_215, h_cv e]; rfl
    · rw [X12_qAsksWord_S1_11, gr_215_101, rc_215, h_cv e]; rfl
    · rw [X12_qAsksWord_S1_12, gr_215_102, rc_215, h_cv e]; rfl
/-- the word is taken -/
theorem X12_qAsksWord_h (hS : qS I b n x V bs Q o) (hk : sk b n x = x) (hw : wdM I) {y : Nat} (hy : y < 14) (hW : isW b n x (rws.getD y []) = true) : ∃ I', X12_qAsksWord 215 (nI y) (hp I L ρ) = some (none, hp I' L ρ) ∧ fxM I I' ∧ qS I' b n (x + wl b n x) V bs Q o := by
  have hq := rws_in y hy
  have hl := isW_le hW hS.1.2.1
  have e := X12_asks_s (L := L) (ρ := ρ) hS.1 hS.2.1 (wdM_R hw hq) (wdL_R _ hq).2.2.2.2.2.1
  rw [hk, if_pos hW, ← hl.2.2] at e
  have hF : fxM I (u2 (u2 I 215 2 (nI (x + wl b n x))) 215 4 (nI (x + wl b n x))) := fxM_trans (fxM_u (by omega)) (fxM_u (by omega))
  refine ⟨_, X12_qAsksWord_e hy e, hF, qS_fx hF ?_ ?_ hS⟩
  · exact tkM_word hS.1 (by omega) (hF.1 216 (by decide)) (hF.2.1 3 (by decide) (by decide) (by decide) (by decide) (by decide) (by decide)) (by rw [u2_ap, if_neg (by omega), m22]) (by rw [u2_ap, if_pos ⟨rfl, rfl⟩])
  · rw [u2_ap, if_neg (by omega), m25]; exact hS.2.1
theorem X12_qAsksWord_u (hs : ¬ I 215 5 = 0) {y : Nat} (hy : y < 14) : X12_qAsksWord 215 (nI y) (hp I L ρ) = some (none, hp I L ρ) := X12_qAsksWord_e hy (X12_asks_u hs)
end B79
