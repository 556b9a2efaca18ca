/-! acts: part, learn, like, swap, undo -/
section B46
variable {I : Nat → Nat → Int32} {L : Nat → Nat → Int64} {ρ : zRh} {h : zH} {A : aT} {N : Nat} {C : cT} {s : sT}
def wS (A : aT) (s : sT) (K : kT) (P : List (sT × kT)) : aT := mkA (a_T A) (a_n A) (a_C A) (a_nm A) (a_kc A) s K P (a_V A) (a_O A) (a_m A) (a_R A) (a_f A) (a_D A)
theorem X_act {I' : Nat → Nat → Int32} {s : sT} {K : kT} {P : List (sT × kT)} {N' : Nat} (hX : RelX I L ρ A N) (hp2 : paG 6 I' K P N') (hs : stX 41 I' s) (hf : ∀ a, lastX a → (a < 41 ∨ 48 ≤ a) → (a < 68 ∨ 212 ≤ a) → I' a = I a) : RelX I' L ρ (wS A s K P) N' := by
  obtain ⟨h1, h2, h3, h4, h5, h6, h7, h8, h9⟩ := hX
  have e0 : I' 0 = I 0 := hf 0 (by unfold lastX; omega) (by omega) (by omega)
  refine ⟨?_, ?_, hs, hp2, ?_, ?_, ?_, ?_, h9⟩
  · rcases h1 with h1 | h1
    · exact Or.inl (cur_A (A := A) rfl rfl rfl (cur_fr (Or.inl ⟨rfl, rfl⟩) (fun a ha => hf a (by unfold lastX; omega) (by omega) (by omega)) h1))
    · exact Or.inr (cur_A (A := A) rfl rfl rfl (cur_fr (Or.inr ⟨rfl, rfl⟩) (fun a ha => hf a (by unfold lastX; omega) (by omega) (by omega)) h1))
  · rw [e0, hf 1 (by unfold lastX; omega) (by omega) (by omega)]; exact h2
  · rw [e0, hf 212 (by unfold lastX; omega) (by omega) (by omega)]; exact h5
  · rw [e0, hf 213 (by unfold lastX; omega) (by omega) (by omega)]; exact h6
  · rw [hf 214 (by unfold lastX; omega) (by omega) (by omega)]; exact h7
  · rw [e0]; exact h8
theorem M_act {I' : Nat → Nat → Int32} {L' : Nat → Nat → Int64} {s : sT} {K : kT} {P : List (sT × kT)} (hM : RelM I L A) (hs : (stN (I' 255) (a_C A) s ∧ tdM (I' 255) (a_C A)) ∧ kpM (I' 255) (a_C A) K) (hp2 : paM I' (a_C A) P) (hf : ∀ a, lastM a → a ≠ 255 → a ≠ 266 → I' a = I a) (hf2 : ∀ k, fieldM k → k ≠ 75 → k ≠ 76 → I' 215 k = I 215 k) (hL : ∀ a, a = 215 ∨ a = 247 → L' a = L a) : RelM I' L' (wS A s K P) := by
  obtain ⟨h1, h2, h3, h4, h5, h6, h7, h8, h9, h10, h11, h12⟩ := hM
  have e : ∀ a, lastM a → a ≠ 255 → a ≠ 266 → I' a = I a := hf
  refine ⟨chM_fr (fun a ha => e a (by unfold lastM; omega) (by omega) (by omega)) (hf2 53 (by unfold fieldM; omega) (by omega) (by omega)) h1, ?_, ?_, hs, ?_, hp2, ?_, ?_, ?_, ?_, ?_, ?_⟩
  · rw [e 246 (by unfold lastM; omega) (by omega) (by omega), hL 247 (by omega)]; exact h2
  · rw [hf2 1 (by unfold fieldM; omega) (by omega) (by omega), e 216 (by unfold lastM; omega) (by omega) (by omega)]; exact h3
  · rw [hf2 54 (by unfold fieldM; omega) (by omega) (by omega), hf2 64 (by unfold fieldM; omega) (by omega) (by omega)]; exact h5
  · rw [hf2 71 (by unfold fieldM; omega) (by omega) (by omega), e 264 (by unfold lastM; omega) (by omega) (by omega)]; exact h7
  · rw [hf2 115 (by unfold fieldM; omega) (by omega) (by omega), e 296 (by unfold lastM; omega) (by omega) (by omega)]; exact h8
  · rw [e 217 (by unfold lastM; omega) (by omega) (by omega)]; exact h9
  · rw [hf2 7 (by unfold fieldM; omega) (by omega) (by omega), hf2 8 (by unfold fieldM; omega) (by omega) (by omega)]; exact h10
  · rw [hL 215 (by omega)]; exact h11
  · intro q hq i hi
    have := wdL_at q hq
    rw [e q.1 (by unfold lastM; omega) (by omega) (by omega)]
    exact h12 q hq i hi
theorem okA_wS {s : sT} {K : kT} {P : List (sT × kT)} (hok : okA A) (h1 : okT (a_C A) s) (h2 : okK K) (h3 : P.length ≤ 20 ∧ ∀ q ∈ P, okT (a_C A) q.1 ∧ okK q.2) : okA (wS A s K P) := ⟨hok.1, hok.2.1, h1, h2, h3, hok.2.2.2.2.2⟩
theorem ok_push {s : sT} {K : kT} (hok : okA A) (h1 : okT (a_C A) s) (h2 : okK K) : (p_push (s, K) (a_P A)).length ≤ 20 ∧ ∀ q ∈ p_push (s, K) (a_P A), okT (a_C A) q.1 ∧ okK q.2 := by
  have hP := hok.2.2.2.2.1
  refine ⟨by rw [p_push_len _ _ hP.1]; split <;> omega, fun q hq => ?_⟩
  have := List.mem_of_mem_take hq
  rcases List.mem_cons.mp this with rfl | h
  · exact ⟨h1, h2⟩
  · exact hP.2 q h
/-- both remember, then the state is another -/
theorem both_act {g f gX fM : zM} {s : sT} (hok : okA A) (hs : okT (a_C A) s)
    (h1 : ∀ I L ρ, RelX I L ρ A N → ∀ I1, X6_remember 68 41 (hp I L ρ) = some (none, hp I1 L ρ) → g (hp I L ρ) = gX (hp I1 L ρ))
    (h2 : ∀ I L ρ, stX 41 I (a_s A) → ∃ I', gX (hp I L ρ) = some (some (.int 1), hp I' L ρ) ∧ stX 41 I' s ∧ ∀ a, a < 41 ∨ 48 ≤ a → I' a = I a)
    (h3 : ∀ I L ρ, RelM I L A → ∀ I1, X12_keeps 215 (hp I L ρ) = some (none, hp I1 L ρ) → chM I1 (a_C A) → f (hp I L ρ) = fM (hp I1 L ρ))
    (h4 : ∀ I L ρ, chM I (a_C A) → (stN (I 255) (a_C A) (a_s A) ∧ tdM (I 255) (a_C A)) ∧ kpM (I 255) (a_C A) (a_K A) → ∃ I', fM (hp I L ρ) = some (some (.int 1), hp I' L ρ) ∧ ((stN (I' 255) (a_C A) s ∧ tdM (I' 255) (a_C A)) ∧ kpM (I' 255) (a_C A) (a_K A)) ∧ ∀ a, a ≠ 255 → I' a = I a) : both g f A N := by
  have hP := hok.2.2.2.2.1
  refine ⟨.int 1, wS A s (a_K A) (p_push (a_s A, a_K A) (a_P A)), N, fun I L ρ hX => ?_, fun I L ρ hM => ?_, okA_wS hok hs hok.2.2.2.1 (ok_push hok hok.2.2.1 hok.2.2.2.1), by omega⟩
  · obtain ⟨I1, e1, e2, e3⟩ := X6_remember_h (L := L) (ρ := ρ) hP.1 hX.2.2.1 hX.2.2.2.1
    have hs41 : stX 41 I1 (a_s A) := stX_fr (fun a x y => e2 a (by omega) (by omega) (by omega)) hX.2.2.1
    obtain ⟨I2, f1, f2, f3⟩ := h2 I1 L ρ hs41
    refine ⟨I2, L, ρ, by rw [h1 I L ρ hX I1 e1]; exact f1, X_act hX (pa_fr (fun a x y => f3 a (by omega)) (Nat.le_refl _) (paG_mono (g := 0) (by omega) (Nat.le_refl _) e3)) f2 (fun a q1 q2 q3 => ?_), fun a ha => ⟨?_, rfl⟩⟩
    · rw [f3 a (by omega), e2 a (by omega) (by omega) (by omega)]
    · rw [f3 a (by omega), e2 a (by omega) (by omega) (by omega)]
  · obtain ⟨I1, e1, e2, e3, e4⟩ := X12_keeps_h (L := L) (ρ := ρ) hok.1 hP.1 hM.2.2.2.2.2.1 hM.2.2.2.1
    have hC : chM I1 (a_C A) := chM_fr (fun a ha => e2 a (by omega) (by omega)) (e3 53 (by omega) (by omega)) hM.1
    have r255 : I1 255 = I 255 := e2 255 (by omega) (by omega)
    obtain ⟨I2, f1, f2, f3⟩ := h4 I1 L ρ hC (by rw [r255]; exact hM.2.2.2.1)
    refine ⟨I2, L, by rw [h3 I L ρ hM I1 e1 hC]; exact f1, M_act hM f2 ?_ (fun a q1 q2 q3 => ?_) (fun k q1 q2 q3 => ?_) (fun _ _ => rfl), fun a ha => ⟨?_, rfl⟩⟩
    · unfold paM
      rw [f3 215 (by omega), f3 266 (by omega)]
      exact e4
    · rw [f3 a q2, e2 a (by unfold lastM at q1; omega) q3]
    · rw [f3 215 (by omega), e3 k q2 q3]
    · rw [f3 a (by omega), e2 a (by omega) (by omega)]
theorem both_refused {g f : zM} (hok : okA A) {j : Nat} (hj : j < 6) (r : Int32) (h1 : ∀ I L ρ, RelX I L ρ A N → g (hp I L ρ) = some (some (.int r), hp (u2 I 214 j (I 214 j + 1)) L ρ)) (h2 : ∀ I L ρ, RelM I L A → f (hp I L ρ) = some (some (.int r), hp (u2 I 217 j (I 217 j + 1)) L ρ)) : both g f A N :=
  ⟨.int r, rfA A j, N, fun I L ρ hX => ⟨_, L, ρ, h1 I L ρ hX, X11_refuse_A hX hj, fun a ha => ⟨u2r (by omega), rfl⟩⟩, fun I L ρ hM => ⟨_, L, h2 I L ρ hM, refuse_M hM hj, fun a ha => ⟨u2r (by omega), rfl⟩⟩, okA_rf hok, by omega⟩
/-! undo -/
theorem undo_b (hok : okA A) : both (X11_undo 0) (X12_undo 215) A N := by
  have hP := hok.2.2.2.2.1
  rcases hp0 : a_P A with _ | ⟨q0, P⟩
  · refine both_refused hok (j := 4) (by omega) 0 (fun I L ρ hX => ?_) (fun I L ρ hM => ?_)
    · have hpa := hX.2.2.2.1
      rw [hp0] at hpa
      unfold X11_undo
      rw [gr_0_11, gr_0_7, rc_68, h_ci (X6_recall_0 hpa), h_if, if_pos rfl, rc_0, h_ci (show X11_refuse 0 4 _ = _ from X11_refuse_h (j := 4) (by omega)), h_rb0]
    · have hpa := hM.2.2.2.2.2.1
      rw [hp0] at hpa
      unfold X12_undo
      rw [gi_215, show I 215 75 = 0 from hpa.1, h_if, if_pos rfl, gr_215_9, show (4 : Int32) = nI 4 from rfl, la_217 (by decide), sa_217 (by decide), h_rb0]
  · rw [hp0] at hP
    have hPl : P.length < 20 := by have := hP.1; simp at this; omega
    have hq0 := hP.2 q0 (by simp)
    refine ⟨.int 1, wS A q0.1 q0.2 P, N, fun I L ρ hX => ?_, fun I L ρ hM => ?_, okA_wS hok hq0.1 hq0.2 ⟨by omega, fun q hq => hP.2 q (by simp [hq])⟩, by omega⟩
    · have hpa := hX.2.2.2.1
      rw [hp0] at hpa
      obtain ⟨I', e1, e2, e3, e4⟩ := X6_recall_h (L := L) (ρ := ρ) hPl hpa
      refine ⟨I', L, ρ, ?_, X_act hX e4 e3 (fun a q1 q2 q3 => e2 a (by omega) (by omega)), fun a ha => ⟨e2 a (by omega) (by omega), rfl⟩⟩
      unfold X11_undo
      rw [gr_0_11, gr_0_7, rc_68, h_ci e1, h_if, if_neg (by decide), h_rb1]
    · have hpa := hM.2.2.2.2.2.1
      rw [hp0] at hpa
      obtain ⟨I', e1, e2, e3, e4, e5⟩ := X12_undo_h (L := L) (ρ := ρ) hok.1 hPl hpa
      exact ⟨I', L, e1, M_act hM e4 e5 (fun a q1 q2 q3 => e2 a (by unfold lastM at q1; omega) q2) (fun k q1 q2 q3 => e3 k q2 q3) (fun _ _ => rfl), fun a ha => ⟨e2 a (by omega) (by omega), rfl⟩⟩
theorem h_ci_eq {g g2 : zM} {F : Int32 → zM} {h h1 : zH} (e : g h = g2 h1) : z_ci g F h = z_ci g2 F h1 := by unfold z_ci; rw [e]
theorem Int32_in9 {v : Int32} (h : 0 ≤ v.toInt ∧ v.toInt ≤ 9) : ∃ n, n ≤ 9 ∧ v = nI n := by
  obtain ⟨n, hn, rfl⟩ := Int32_of (v := v) (by rw [v_neg]; omega)
  rw [nI_toI hn] at h
  exact ⟨n, by omega, rfl⟩
/-- a state with another liking -/
def sLk (s : sT) (j v : Nat) : sT := (s.1, s_ord s, s_wed s, s_wai s, s_siz s, (fun i => if i = j then v else s_lik s i), s_kno s)
theorem stX_Lk {b : Nat} {I : Nat → Nat → Int32} {s : sT} (h : stX b I s) {j v : Nat} : stX b (u2 I (b + 5) j (nI v)) (sLk s j v) := by
  obtain ⟨h1, h2, h3, h4, h5, h6, h7⟩ := h
  refine ⟨?_, ?_, ?_, ?_, ?_, ?_, ?_⟩
  · rw [u2r (show b ≠ b + 5 by omega)]; exact h1
  · rw [u2r (show b + 1 ≠ b + 5 by omega)]; exact h2
  · rw [u2r (show b + 2 ≠ b + 5 by omega)]; exact h3
  · rw [u2r (show b + 3 ≠ b + 5 by omega)]; exact h4
  · rw [u2r (show b + 4 ≠ b + 5 by omega)]; exact h5
  · intro i hi
    rw [u2_ap]
    show _ = nI (if i = j then v else s_lik s i)
    by_cases c : i = j
    · rw [if_pos ⟨rfl, c⟩, if_pos c]
    · rw [if_neg (fun q => c q.2), if_neg c]; exact h6 i hi
  · rw [u2r (show b + 6 ≠ b + 5 by omega)]; exact h7
theorem okT_K {s : sT} (h : okT C s) {j v : Nat} (hv : v ≤ 9) : okT C (sK s j v) := by
  obtain ⟨⟨h1, h2, h3, h4, h5, h6⟩, h7, h8⟩ := h
  refine ⟨⟨h1, h2, h3, h4, h5, fun i hi => ⟨(h6 i hi).1, ?_⟩⟩, h7, h8⟩
  show (if i = j then v else s_kno s i) ≤ 9
  split
  · exact hv
  · exact (h6 i hi).2
theorem okT_Lk {s : sT} (h : okT C s) {j v : Nat} (hv : v ≤ 9) : okT C (sLk s j v) := by
  obtain ⟨⟨h1, h2, h3, h4, h5, h6⟩, h7, h8⟩ := h
  refine ⟨⟨h1, h2, h3, h4, h5, fun i hi => ⟨?_, (h6 i hi).2⟩⟩, h7, h8⟩
  show (if i = j then v else s_lik s i) ≤ 9
  split
  · exact hv
  · exact (h6 i hi).1
theorem stN_K {f : Nat → Int32} {s : sT} (hk : okC C) (h : stN f C s) {j v : Nat} (hj : j < 72) : stN (fun i => if i = 110 + j then nI v else f i) C (sK s j v) := by
  obtain ⟨⟨h1, h2⟩, h3, h4⟩ := h
  refine ⟨⟨?_, ?_⟩, fun side k a b => ?_, fun a ha => ?_⟩
  · show (if 0 = 110 + j then nI v else f 0) = _
    rw [if_neg (by omega)]; exact h1
  · show (if 1 = 110 + j then nI v else f 1) = _
    rw [if_neg (by omega)]; exact h2
  · have := k_n_le hk side
    show (if 2 + 6 * side + k = 110 + j then nI v else f (2 + 6 * side + k)) = _
    rw [if_neg (by omega)]; exact h3 side k a b
  · have := k_th_lt hk ha
    obtain ⟨q1, q2, q3⟩ := h4 a ha
    refine ⟨?_, ?_, fun k hk6 => ⟨?_, ?_⟩⟩
    · show (if 14 + a = 110 + j then nI v else f (14 + a)) = _
      rw [if_neg (by omega)]; exact q1
    · show (if 26 + a = 110 + j then nI v else f (26 + a)) = _
      rw [if_neg (by omega)]; exact q2
    · show (if 38 + 6 * a + k = 110 + j then nI v else f (38 + 6 * a + k)) = _
      rw [if_neg (by omega)]; exact (q3 k hk6).1
    · show (if 110 + 6 * a + k = 110 + j then nI v else f (110 + 6 * a + k)) = nI (if 6 * a + k = j then v else s_kno s (6 * a + k))
      by_cases c : 6 * a + k = j
      · rw [if_pos (by omega), if_pos c]
      · rw [if_neg (by omega), if_neg c]; exact (q3 k hk6).2
theorem stN_Lk {f : Nat → Int32} {s : sT} (hk : okC C) (h : stN f C s) {j v : Nat} (hj : j < 72) : stN (fun i => if i = 38 + j then nI v else f i) C (sLk s j v) := by
  obtain ⟨⟨h1, h2⟩, h3, h4⟩ := h
  refine ⟨⟨?_, ?_⟩, fun side k a b => ?_, fun a ha => ?_⟩
  · show (if 0 = 38 + j then nI v else f 0) = _
    rw [if_neg (by omega)]; exact h1
  · show (if 1 = 38 + j then nI v else f 1) = _
    rw [if_neg (by omega)]; exact h2
  · have := k_n_le hk side
    show (if 2 + 6 * side + k = 38 + j then nI v else f (2 + 6 * side + k)) = _
    rw [if_neg (by omega)]; exact h3 side k a b
  · have := k_th_lt hk ha
    obtain ⟨q1, q2, q3⟩ := h4 a ha
    refine ⟨?_, ?_, fun k hk6 => ⟨?_, ?_⟩⟩
    · show (if 14 + a = 38 + j then nI v else f (14 + a)) = _
      rw [if_neg (by omega)]; exact q1
    · show (if 26 + a = 38 + j then nI v else f (26 + a)) = _
      rw [if_neg (by omega)]; exact q2
    · show (if 38 + 6 * a + k = 38 + j then nI v else f (38 + 6 * a + k)) = nI (if 6 * a + k = j then v else s_lik s (6 * a + k))
      by_cases c : 6 * a + k = j
      · rw [if_pos (by omega), if_pos c]
      · rw [if_neg (by omega), if_neg c]; exact (q3 k hk6).1
    · show (if 110 + 6 * a + k = 38 + j then nI v else f (110 + 6 * a + k)) = _
      rw [if_neg (by omega)]; exact (q3 k hk6).2
/-- the number at one cell of the reference's state is another, which none who is not there is wed by -/
theorem set_M {K : kT} {s s' : sT} {x : Nat} {v : Int32} (hx : 26 ≤ x ∧ x < 182) (h : (stN (I 255) C s ∧ tdM (I 255) C) ∧ kpM (I 255) C K) (hs : stN (fun i => if i = x then v else I 255 i) C s') : (stN ((u2 I 255 x v) 255) C s' ∧ tdM ((u2 I 255 x v) 255) C) ∧ kpM ((u2 I 255 x v) 255) C K := by
  have e : (u2 I 255 x v) 255 = fun i => if i = x then v else I 255 i := by
    funext i
    rw [u2_ap]
    by_cases c : i = x
    · rw [if_pos ⟨rfl, c⟩, if_pos c]
    · rw [if_neg (fun q => c q.2), if_neg c]
  rw [e]
  refine ⟨⟨hs, fun ht a ha hna => ?_⟩, kpM_eq (fun j h1 h2 => by rw [if_neg (by omega)]) h.2⟩
  show (if 14 + a = x then v else I 255 (14 + a)) = -1
  rw [if_neg (by omega)]
  exact h.1.2 ht a ha hna
theorem X12_changed_0 (n : Int32) : X12_isChanged 215 0 0 n (hp I L ρ) = some (some (.int 0), hp (u2 I 217 2 (I 217 2 + 1)) L ρ) := by
  unfold X12_isChanged X12_isChanged_J14
  rw [h_if, if_pos rfl, rc_215, h_ci (show X12_isRefused 215 2 _ = _ from X12_isRefused_h (j := 2) (by omega)), h_rb0]
theorem learn_b (hok : okA A) (v w u : Int32) : both (X11_learn 0 v w u) (X12_learn 215 v w u) A N := by
  have hk := hok.1
  have h12 := hk.1
  have j54 : ∀ {I : Nat → Nat → Int32} {L : Nat → Nat → Int64} {ρ : zRh}, X11_setBearing_J54 0 (hp I L ρ) = some (some (.int 0), hp (u2 I 214 2 (I 214 2 + 1)) L ρ) := by
    intro I L ρ
    unfold X11_setBearing_J54
    rw [rc_0, h_ci (show X11_refuse 0 2 _ = _ from X11_refuse_h (j := 2) (by omega)), h_rb0]
  rcases k_ac_c hk v w with q | ⟨a, b, p, o, ⟨q1, q2, q3⟩, ⟨rfl, rfl, q4, q5⟩, ⟨q6, q7⟩, ⟨q8, q9, q10, q11⟩, ⟨q12, q13⟩, q14⟩
  · refine both_refused hok (j := 2) (by omega) 0 (fun I L ρ hX => ?_) (fun I L ρ hM => ?_)
    · have e : X11_setBearing 0 47 v w u (hp I L ρ) = some (some (.int 0), hp (u2 I 214 2 (I 214 2 + 1)) L ρ) := by
        unfold X11_setBearing
        rw [gr_0_5, rcc (cu_ρ hX), h_ci (XC_slot hX hk v), gr_0_5, rcc (cu_ρ hX), h_ci (XC_across hX hk v w), q, oI_none, h_if, if_pos rfl, j54]
      unfold X11_learn
      rw [gr_0_7, gr_41_7, rc_0, h_ci e, h_rb0]
    · unfold X12_learn X12_learn_J27 X12_learn_J28 X12_learn_J56
      rw [rc_215, h_ci (X12_areTwo_v hk hM.1 _ _), q, bI_none, h_if, if_pos rfl, h_if, if_pos rfl, rc_215, h_ci (X12_changed_0 _), h_rb0]
  · by_cases c : 0 ≤ u.toInt ∧ u.toInt ≤ 9
    · obtain ⟨n, hn, rfl⟩ := Int32_in9 c
      have hj72 : 6 * a + b % 6 < 72 := by omega
      have hpre : ∀ {I : Nat → Nat → Int32} {L : Nat → Nat → Int64} {ρ : zRh}, RelX I L ρ A N → X11_setBearing 0 47 (nI p) (nI o) (nI n) (hp I L ρ) = (if nI (s_kno (a_s A) (6 * a + b % 6)) = nI n then X11_setBearing_J54 0 (hp I L ρ) else (z_gr 11 11 0 fun x7 => z_gr 11 7 0 fun x8 => z_rc 6 x7 (z_cv (X6_remember x7 x8) (z_ci (X11_cell (nI a) (nI b)) fun y9 => z_sa 20 47 y9 (nI n) (z_rb 1)))) (hp I L ρ)) := by
        intro I L ρ hX
        unfold X11_setBearing
        rw [gr_0_5, rcc (cu_ρ hX), h_ci (XC_slot hX hk _), gr_0_5, rcc (cu_ρ hX), h_ci (XC_across hX hk _ _), q3, oI_some, h_if, if_neg (nI_nm1 (by omega)), h_if, if_neg (show ¬ nI n < 0 by rw [v_neg, nI_toI (by omega)]; omega), h_if, if_neg (show ¬ (9 : Int32) < nI n from fun e => absurd ((nI_lt' (a := 9) (by omega) (by omega)).mp e) (by omega)), q1, oI_some, h_ci (X11_cell_h (by omega) (by omega)), la_47 hj72, hX.2.2.1.2.2.2.2.2.2 _ hj72, h_if]
      have hpm : ∀ {I : Nat → Nat → Int32} {L : Nat → Nat → Int64} {ρ : zRh}, RelM I L A → X12_learn 215 (nI p) (nI o) (nI n) (hp I L ρ) = (if nI (s_kno (a_s A) (6 * a + b % 6)) = nI n then z_ci (X12_isChanged_J14 215) (fun y1 => z_rb y1) (hp I L ρ) else z_ci (z_rc 12 215 (z_cv (X12_keeps 215) (z_gr 12 52 215 fun x3 => z_sa 20 x3 (nI (110 + 6 * a + b % 6)) (nI n) (z_rb 1)))) (fun y1 => z_rb y1) (hp I L ρ)) := by
        intro I L ρ hM
        have hr : I 255 (110 + 6 * a + b % 6) = nI (s_kno (a_s A) (6 * a + b % 6)) := ((hM.2.2.2.1.1.1.2.2 a q8).2.2 (b % 6) (by omega)).2
        have hch : X12_isChanged 215 1 (nI (110 + 6 * a + b % 6)) (nI n) (hp I L ρ) = (if nI (s_kno (a_s A) (6 * a + b % 6)) = nI n then X12_isChanged_J14 215 (hp I L ρ) else (z_rc 12 215 (z_cv (X12_keeps 215) (z_gr 12 52 215 fun x3 => z_sa 20 x3 (nI (110 + 6 * a + b % 6)) (nI n) (z_rb 1)))) (hp I L ρ)) := by
          unfold X12_isChanged
          rw [h_if, if_neg (by decide), gr_215_52, la_255 (by omega), hr, h_if]
        unfold X12_learn X12_learn_J28 X12_learn_J56
        rw [rc_215, h_ci (X12_areTwo_v hk hM.1 _ _), q3, bI_some, h_if, if_neg (by decide), i64_of, show (0 : Int64) = cl 0 from rfl, h_ci (show X12_isIn _ _ 9 _ = _ from X12_isIn_h (b := 9) (i32_in _) (by omega) (by omega)), h_if, decide_eq_true c, if_neg (by decide), h_if, if_neg (by decide), rc_215, h_ci (X12_codeOf_h hk hM.1 (by omega)), rc_215, h_ci (X12_codeOf_h hk hM.1 (by omega)), ← q6, ← q7, rc_215, h_ci (X12_knowingAt_h (by omega) (by omega)), rc_215]
        by_cases e : nI (s_kno (a_s A) (6 * a + b % 6)) = nI n
        · rw [if_pos e]
          rw [if_pos e] at hch
          exact h_ci_eq hch
        · rw [if_neg e]
          rw [if_neg e] at hch
          exact h_ci_eq hch
      by_cases e : nI (s_kno (a_s A) (6 * a + b % 6)) = nI n
      · refine both_refused hok (j := 2) (by omega) 0 (fun I L ρ hX => ?_) (fun I L ρ hM => ?_)
        · have e2 := hpre hX
          rw [if_pos e, j54] at e2
          unfold X11_learn
          rw [gr_0_7, gr_41_7, rc_0, h_ci e2, h_rb0]
        · rw [hpm hM, if_pos e]
          have e3 : X12_isChanged_J14 215 (hp I L ρ) = some (some (.int 0), hp (u2 I 217 2 (I 217 2 + 1)) L ρ) := by
            unfold X12_isChanged_J14
            rw [rc_215, h_ci (show X12_isRefused 215 2 _ = _ from X12_isRefused_h (j := 2) (by omega)), h_rb0]
          rw [h_ci e3, h_rb0]
      · refine both_act (s := sK (a_s A) (6 * a + b % 6) n) (gX := z_ci (z_ci (X11_cell (nI a) (nI b)) fun y9 => z_sa 20 47 y9 (nI n) (z_rb 1)) (fun y3 => z_rb y3)) (fM := z_ci (z_gr 12 52 215 fun x3 => z_sa 20 x3 (nI (110 + 6 * a + b % 6)) (nI n) (z_rb 1)) (fun y1 => z_rb y1)) hok (okT_K hok.2.2.1 hn) (fun I L ρ hX I1 he => ?_) (fun I L ρ hs => ?_) (fun I L ρ hM I1 he hC => ?_) (fun I L ρ hC hs => ?_)
        · have e2 := hpre hX
          rw [if_neg e, gr_0_11, gr_0_7, rc_68, h_cv he] at e2
          unfold X11_learn
          rw [gr_0_7, gr_41_7, rc_0]
          exact h_ci_eq e2
        · refine ⟨u2 I 47 (6 * a + b % 6) (nI n), ?_, stX_K hs, fun x hx => u2r (by omega)⟩
          have e2 : (z_ci (X11_cell (nI a) (nI b)) fun y9 => z_sa 20 47 y9 (nI n) (z_rb 1)) (hp I L ρ) = some (some (.int 1), hp (u2 I 47 (6 * a + b % 6) (nI n)) L ρ) := by
            rw [h_ci (X11_cell_h (by omega) (by omega)), sa_47 hj72, h_rb1]
          rw [h_ci e2, h_rb1]
        · rw [hpm hM, if_neg e]
          refine h_ci_eq ?_
          rw [rc_215, h_cv he]
        · refine ⟨u2 I 255 (110 + 6 * a + b % 6) (nI n), ?_, set_M (by omega) hs (by rw [Nat.add_assoc]; exact stN_K hk hs.1.1 hj72), fun x hx => u2r hx⟩
          have e2 : (z_gr 12 52 215 fun x3 => z_sa 20 x3 (nI (110 + 6 * a + b % 6)) (nI n) (z_rb 1)) (hp I L ρ) = some (some (.int 1), hp (u2 I 255 (110 + 6 * a + b % 6) (nI n)) L ρ) := by
            rw [gr_215_52, sa_255 (by omega), h_rb1]
          rw [h_ci e2, h_rb1]
    · refine both_refused hok (j := 2) (by omega) 0 (fun I L ρ hX => ?_) (fun I L ρ hM => ?_)
      · have e : X11_setBearing 0 47 (nI p) (nI o) u (hp I L ρ) = some (some (.int 0), hp (u2 I 214 2 (I 214 2 + 1)) L ρ) := by
          unfold X11_setBearing
          rw [gr_0_5, rcc (cu_ρ hX), h_ci (XC_slot hX hk _), gr_0_5, rcc (cu_ρ hX), h_ci (XC_across hX hk _ _), q3, oI_some, h_if, if_neg (nI_nm1 (by omega)), h_if]
          by_cases c1 : u < 0
          · rw [if_pos c1, j54]
          · rw [if_neg c1, h_if]
            obtain ⟨n, hn, rfl⟩ := Int32_of c1
            rw [nI_toI hn] at c
            rw [if_pos (show (9 : Int32) < nI n from nI_lt (a := 9) (by omega) (by omega)), j54]
        unfold X11_learn
        rw [gr_0_7, gr_41_7, rc_0, h_ci e, h_rb0]
      · unfold X12_learn X12_learn_J27 X12_learn_J28 X12_learn_J56
        rw [rc_215, h_ci (X12_areTwo_v hk hM.1 _ _), q3, bI_some, h_if, if_neg (by decide), i64_of, show (0 : Int64) = cl 0 from rfl, h_ci (show X12_isIn _ _ 9 _ = _ from X12_isIn_h (b := 9) (i32_in _) (by omega) (by omega)), h_if, decide_eq_false c, bF, if_pos rfl, h_if, if_pos rfl, rc_215, h_ci (X12_changed_0 _), h_rb0]
theorem like_b (hok : okA A) (v w u : Int32) : both (X11_like 0 v w u) (X12_like 215 v w u) A N := by
  have hk := hok.1
  have h12 := hk.1
  have j54 : ∀ {I : Nat → Nat → Int32} {L : Nat → Nat → Int64} {ρ : zRh}, X11_setBearing_J54 0 (hp I L ρ) = some (some (.int 0), hp (u2 I 214 2 (I 214 2 + 1)) L ρ) := by
    intro I L ρ
    unfold X11_setBearing_J54
    rw [rc_0, h_ci (show X11_refuse 0 2 _ = _ from X11_refuse_h (j := 2) (by omega)), h_rb0]
  rcases k_ac_c hk v w with q | ⟨a, b, p, o, ⟨q1, q2, q3⟩, ⟨rfl, rfl, q4, q5⟩, ⟨q6, q7⟩, ⟨q8, q9, q10, q11⟩, ⟨q12, q13⟩, q14⟩
  · refine both_refused hok (j := 2) (by omega) 0 (fun I L ρ hX => ?_) (fun I L ρ hM => ?_)
    · have e : X11_setBearing 0 46 v w u (hp I L ρ) = some (some (.int 0), hp (u2 I 214 2 (I 214 2 + 1)) L ρ) := by
        unfold X11_setBearing
        rw [gr_0_5, rcc (cu_ρ hX), h_ci (XC_slot hX hk v), gr_0_5, rcc (cu_ρ hX), h_ci (XC_across hX hk v w), q, oI_none, h_if, if_pos rfl, j54]
      unfold X11_like
      rw [gr_0_7, gr_41_6, rc_0, h_ci e, h_rb0]
    · unfold X12_like X12_like_J27 X12_like_J28 X12_like_J56
      rw [rc_215, h_ci (X12_areTwo_v hk hM.1 _ _), q, bI_none, h_if, if_pos rfl, h_if, if_pos rfl, rc_215, h_ci (X12_changed_0 _), h_rb0]
  · by_cases c : 0 ≤ u.toInt ∧ u.toInt ≤ 9
    · obtain ⟨n, hn, rfl⟩ := Int32_in9 c
      have hj72 : 6 * a + b % 6 < 72 := by omega
      have hpre : ∀ {I : Nat → Nat → Int32} {L : Nat → Nat → Int64} {ρ : zRh}, RelX I L ρ A N → X11_setBearing 0 46 (nI p) (nI o) (nI n) (hp I L ρ) = (if nI (s_lik (a_s A) (6 * a + b % 6)) = nI n then X11_setBearing_J54 0 (hp I L ρ) else (z_gr 11 11 0 fun x7 => z_gr 11 7 0 fun x8 => z_rc 6 x7 (z_cv (X6_remember x7 x8) (z_ci (X11_cell (nI a) (nI b)) fun y9 => z_sa 20 46 y9 (nI n) (z_rb 1)))) (hp I L ρ)) := by
        intro I L ρ hX
        unfold X11_setBearing
        rw [gr_0_5, rcc (cu_ρ hX), h_ci (XC_slot hX hk _), gr_0_5, rcc (cu_ρ hX), h_ci (XC_across hX hk _ _), q3, oI_some, h_if, if_neg (nI_nm1 (by omega)), h_if, if_neg (show ¬ nI n < 0 by rw [v_neg, nI_toI (by omega)]; omega), h_if, if_neg (show ¬ (9 : Int32) < nI n from fun e => absurd ((nI_lt' (a := 9) (by omega) (by omega)).mp e) (by omega)), q1, oI_some, h_ci (X11_cell_h (by omega) (by omega)), la_46 hj72, hX.2.2.1.2.2.2.2.2.1 _ hj72, h_if]
      have hpm : ∀ {I : Nat → Nat → Int32} {L : Nat → Nat → Int64} {ρ : zRh}, RelM I L A → X12_like 215 (nI p) (nI o) (nI n) (hp I L ρ) = (if nI (s_lik (a_s A) (6 * a + b % 6)) = nI n then z_ci (X12_isChanged_J14 215) (fun y1 => z_rb y1) (hp I L ρ) else z_ci (z_rc 12 215 (z_cv (X12_keeps 215) (z_gr 12 52 215 fun x3 => z_sa 20 x3 (nI (38 + 6 * a + b % 6)) (nI n) (z_rb 1)))) (fun y1 => z_rb y1) (hp I L ρ)) := by
        intro I L ρ hM
        have hr : I 255 (38 + 6 * a + b % 6) = nI (s_lik (a_s A) (6 * a + b % 6)) := ((hM.2.2.2.1.1.1.2.2 a q8).2.2 (b % 6) (by omega)).1
        have hch : X12_isChanged 215 1 (nI (38 + 6 * a + b % 6)) (nI n) (hp I L ρ) = (if nI (s_lik (a_s A) (6 * a + b % 6)) = nI n then X12_isChanged_J14 215 (hp I L ρ) else (z_rc 12 215 (z_cv (X12_keeps 215) (z_gr 12 52 215 fun x3 => z_sa 20 x3 (nI (38 + 6 * a + b % 6)) (nI n) (z_rb 1)))) (hp I L ρ)) := by
          unfold X12_isChanged
          rw [h_if, if_neg (by decide), gr_215_52, la_255 (by omega), hr, h_if]
        unfold X12_like X12_like_J28 X12_like_J56
        rw [rc_215, h_ci (X12_areTwo_v hk hM.1 _ _), q3, bI_some, h_if, if_neg (by decide), i64_of, show (0 : Int64) = cl 0 from rfl, h_ci (show X12_isIn _ _ 9 _ = _ from X12_isIn_h (b := 9) (i32_in _) (by omega) (by omega)), h_if, decide_eq_true c, if_neg (by decide), h_if, if_neg (by decide), rc_215, h_ci (X12_codeOf_h hk hM.1 (by omega)), rc_215, h_ci (X12_codeOf_h hk hM.1 (by omega)), ← q6, ← q7, rc_215, h_ci (X12_likingAt_h (by omega) (by omega)), rc_215]
        by_cases e : nI (s_lik (a_s A) (6 * a + b % 6)) = nI n
        · rw [if_pos e]
          rw [if_pos e] at hch
          exact h_ci_eq hch
        · rw [if_neg e]
          rw [if_neg e] at hch
          exact h_ci_eq hch
      by_cases e : nI (s_lik (a_s A) (6 * a + b % 6)) = nI n
      · refine both_refused hok (j := 2) (by omega) 0 (fun I L ρ hX => ?_) (fun I L ρ hM => ?_)
        · have e2 := hpre hX
          rw [if_pos e, j54] at e2
          unfold X11_like
          rw [gr_0_7, gr_41_6, rc_0, h_ci e2, h_rb0]
        · rw [hpm hM, if_pos e]
          have e3 : X12_isChanged_J14 215 (hp I L ρ) = some (some (.int 0), hp (u2 I 217 2 (I 217 2 + 1)) L ρ) := by
            unfold X12_isChanged_J14
            rw [rc_215, h_ci (show X12_isRefused 215 2 _ = _ from X12_isRefused_h (j := 2) (by omega)), h_rb0]
          rw [h_ci e3, h_rb0]
      · refine both_act (s := sLk (a_s A) (6 * a + b % 6) n) (gX := z_ci (z_ci (X11_cell (nI a) (nI b)) fun y9 => z_sa 20 46 y9 (nI n) (z_rb 1)) (fun y3 => z_rb y3)) (fM := z_ci (z_gr 12 52 215 fun x3 => z_sa 20 x3 (nI (38 + 6 * a + b % 6)) (nI n) (z_rb 1)) (fun y1 => z_rb y1)) hok (okT_Lk hok.2.2.1 hn) (fun I L ρ hX I1 he => ?_) (fun I L ρ hs => ?_) (fun I L ρ hM I1 he hC => ?_) (fun I L ρ hC hs => ?_)
        · have e2 := hpre hX
          rw [if_neg e, gr_0_11, gr_0_7, rc_68, h_cv he] at e2
          unfold X11_like
          rw [gr_0_7, gr_41_6, rc_0]
          exact h_ci_eq e2
        · refine ⟨u2 I 46 (6 * a + b % 6) (nI n), ?_, stX_Lk hs, fun x hx => u2r (by omega)⟩
          have e2 : (z_ci (X11_cell (nI a) (nI b)) fun y9 => z_sa 20 46 y9 (nI n) (z_rb 1)) (hp I L ρ) = some (some (.int 1), hp (u2 I 46 (6 * a + b % 6) (nI n)) L ρ) := by
            rw [h_ci (X11_cell_h (by omega) (by omega)), sa_46 hj72, h_rb1]
          rw [h_ci e2, h_rb1]
        · rw [hpm hM, if_neg e]
          refine h_ci_eq ?_
          rw [rc_215, h_cv he]
        · refine ⟨u2 I 255 (38 + 6 * a + b % 6) (nI n), ?_, set_M (by omega) hs (by rw [Nat.add_assoc]; exact stN_Lk hk hs.1.1 hj72), fun x hx => u2r hx⟩
          have e2 : (z_gr 12 52 215 fun x3 => z_sa 20 x3 (nI (38 + 6 * a + b % 6)) (nI n) (z_rb 1)) (hp I L ρ) = some (some (.int 1), hp (u2 I 255 (38 + 6 * a + b % 6) (nI n)) L ρ) := by
            rw [gr_215_52, sa_255 (by omega), h_rb1]
          rw [h_ci e2, h_rb1]
    · refine both_refused hok (j := 2) (by omega) 0 (fun I L ρ hX => ?_) (fun I L ρ hM => ?_)
      · have e : X11_setBearing 0 46 (nI p) (nI o) u (hp I L ρ) = some (some (.int 0), hp (u2 I 214 2 (I 214 2 + 1)) L ρ) := by
          unfold X11_setBearing
          rw [gr_0_5, rcc (cu_ρ hX), h_ci (XC_slot hX hk _), gr_0_5, rcc (cu_ρ hX), h_ci (XC_across hX hk _ _), q3, oI_some, h_if, if_neg (nI_nm1 (by omega)), h_if]
          by_cases c1 : u < 0
          · rw [if_pos c1, j54]
          · rw [if_neg c1, h_if]
            obtain ⟨n, hn, rfl⟩ := Int32_of c1
            rw [nI_toI hn] at c
            rw [if_pos (show (9 : Int32) < nI n from nI_lt (a := 9) (by omega) (by omega)), j54]
        unfold X11_like
        rw [gr_0_7, gr_41_6, rc_0, h_ci e, h_rb0]
      · unfold X12_like X12_like_J27 X12_like_J28 X12_like_J56
        rw [rc_215, h_ci (X12_areTwo_v hk hM.1 _ _), q3, bI_some, h_if, if_neg (by decide), i64_of, show (0 : Int64) = cl 0 from rfl, h_ci (show X12_isIn _ _ 9 _ = _ from X12_isIn_h (b := 9) (i32_in _) (by omega) (by omega)), h_if, decide_eq_false c, bF, if_pos rfl, h_if, if_pos rfl, rc_215, h_ci (X12_changed_0 _), h_rb0]
end B46
