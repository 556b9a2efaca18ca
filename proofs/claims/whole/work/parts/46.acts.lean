/-! acts: part, learn, like, swap, undo -/
section B46
variable {I : Nat → Nat → Int32} {L : Nat → Nat → Int64} {ρ : zRh} {h : zH} {A : aT} {N : Nat} {C : cT} {s : sT}
def wS (A : aT) (s : sT) (K : kT) (P : List (sT × kT)) : aT := mkA (a_T A) (a_n A) (a_C A) (a_nm A) (a_kc A) s K P (a_V A) (a_O A) (a_m A) (a_R A) (a_f A) (a_D A)
theorem X_act {I' : Nat → Nat → Int32} {s : sT} {K : kT} {P : List (sT × kT)} {N' : Nat} (hX : RelX I L ρ A N) (hp2 : paG 6 I' K P N') (hs : stX 41 I' s) (hf : ∀ a, lastX a → (a < 41 ∨ 48 ≤ a) → (a < 68 ∨ 212 ≤ a) → I' a = I a) : RelX I' L ρ (wS A s K P) N' := by
  obtain ⟨h1, h2, h3, h4, h5, h6, h7, h8, h9⟩ := hX
  have e0 : I' 0 = I 0 := hf 0 (by unfold lastX; omega) (by omega) (by omega)
  refine ⟨?_, ?_, hs, hp2, ?_, ?_, ?_, ?_, h9⟩
  · rcases h1 with h1 | h1
    · exact Or.inl (cur_A (A := A) rfl rfl rfl (cur_fr (Or.inl ⟨rfl, rfl⟩) (fun a ha => hf a (by unfold lastX; omega) (by omega) (by omega)) h1))
    · exact Or.inr (cur_A (A := A) rfl rfl rfl (cur_fr (Or.inr ⟨rfl, rfl⟩) (fun a ha => hf a (by unfold lastX; omega) (by omega) (by omega)) h1))
  · rw [e0, hf 1 (by unfold lastX; omega) (by omega) (by omega)]; exact h2
  · rw [e0, hf 212 (by unfold lastX; omega) (by omega) (by omega)]; exact h5
  · rw [e0, hf 213 (by unfold lastX; omega) (by omega) (by omega)]; exact h6
  · rw [hf 214 (by unfold lastX; omega) (by omega) (by omega)]; exact h7
  · rw [e0]; exact h8
theorem M_act {I' : Nat → Nat → Int32} {L' : Nat → Nat → Int64} {s : sT} {K : kT} {P : List (sT × kT)} (hM : RelM I L A) (hs : (stN (I' 255) (a_C A) s ∧ tdM (I' 255) (a_C A)) ∧ kpM (I' 255) (a_C A) K) (hp2 : paM I' (a_C A) P) (hf : ∀ a, lastM a → a ≠ 255 → a ≠ 266 → I' a = I a) (hf2 : ∀ k, fieldM k → k ≠ 75 → k ≠ 76 → I' 215 k = I 215 k) (hL : ∀ a, a = 215 ∨ a = 247 → L' a = L a) : RelM I' L' (wS A s K P) := by
  obtain ⟨h1, h2, h3, h4, h5, h6, h7, h8, h9, h10, h11, h12⟩ := hM
  have e : ∀ a, lastM a → a ≠ 255 → a ≠ 266 → I' a = I a := hf
  refine ⟨chM_fr (fun a ha => e a (by unfold lastM; omega) (by omega) (by omega)) (hf2 53 (by unfold fieldM; omega) (by omega) (by omega)) h1, ?_, ?_, hs, ?_, hp2, ?_, ?_, ?_, ?_, ?_, ?_⟩
  · rw [e 246 (by unfold lastM; omega) (by omega) (by omega), hL 247 (by omega)]; exact h2
  · rw [hf2 1 (by unfold fieldM; omega) (by omega) (by omega), e 216 (by unfold lastM; omega) (by omega) (by omega)]; exact h3
  · rw [hf2 54 (by unfold fieldM; omega) (by omega) (by omega), hf2 64 (by unfold fieldM; omega) (by omega) (by omega)]; exact h5
  · rw [hf2 71 (by unfold fieldM; omega) (by omega) (by omega), e 264 (by unfold lastM; omega) (by omega) (by omega)]; exact h7
  · rw [hf2 115 (by unfold fieldM; omega) (by omega) (by omega), e 296 (by unfold lastM; omega) (by omega) (by omega)]; exact h8
  · rw [e 217 (by unfold lastM; omega) (by omega) (by omega)]; exact h9
  · rw [hf2 7 (by unfold fieldM; omega) (by omega) (by omega), hf2 8 (by unfold fieldM; omega) (by omega) (by omega)]; exact h10
  · rw [hL 215 (by omega)]; exact h11
  · intro q hq i hi
    have := wdL_at q hq
    rw [e q.1 (by unfold lastM; omega) (by omega) (by omega)]
    exact h12 q hq i hi
theorem okA_wS {s : sT} {K : kT} {P : List (sT × kT)} (hok : okA A) (h1 : okT (a_C A) s) (h2 : okK K) (h3 : P.length ≤ 20 ∧ ∀ q ∈ P, okT (a_C A) q.1 ∧ okK q.2) : okA (wS A s K P) := ⟨hok.1, hok.2.1, h1, h2, h3, hok.2.2.2.2.2⟩
theorem ok_push {s : sT} {K : kT} (hok : okA A) (h1 : okT (a_C A) s) (h2 : okK K) : (p_push (s, K) (a_P A)).length ≤ 20 ∧ ∀ q ∈ p_push (s, K) (a_P A), okT (a_C A) q.1 ∧ okK q.2 := by
  have hP := hok.2.2.2.2.1
  refine ⟨by rw [p_push_len _ _ hP.1]; split <;> omega, fun q hq => ?_⟩
  have := List.mem_of_mem_take hq
  rcases List.mem_cons.mp this with rfl | h
  · exact ⟨h1, h2⟩
  · exact hP.2 q h
/-- both remember, then the state is another -/
theorem both_act {g f gX fM : zM} {s : sT} (hok : okA A) (hs : okT (a_C A) s)
    (h1 : ∀ I L ρ, RelX I L ρ A N → ∀ I1, X6_remember 68 41 (hp I L ρ) = some (none, hp I1 L ρ) → g (hp I L ρ) = gX (hp I1 L ρ))
    (h2 : ∀ I L ρ, stX 41 I (a_s A) → ∃ I', gX (hp I L ρ) = some (some (.int 1), hp I' L ρ) ∧ stX 41 I' s ∧ ∀ a, a < 41 ∨ 48 ≤ a → I' a = I a)
    (h3 : ∀ I L ρ, RelM I L A → ∀ I1, X12_keeps 215 (hp I L ρ) = some (none, hp I1 L ρ) → chM I1 (a_C A) → f (hp I L ρ) = fM (hp I1 L ρ))
    (h4 : ∀ I L ρ, chM I (a_C A) → (stN (I 255) (a_C A) (a_s A) ∧ tdM (I 255) (a_C A)) ∧ kpM (I 255) (a_C A) (a_K A) → ∃ I', fM (hp I L ρ) = some (some (.int 1), hp I' L ρ) ∧ ((stN (I' 255) (a_C A) s ∧ tdM (I' 255) (a_C A)) ∧ kpM (I' 255) (a_C A) (a_K A)) ∧ ∀ a, a ≠ 255 → I' a = I a) : both g f A N := by
  have hP := hok.2.2.2.2.1
  refine ⟨.int 1, wS A s (a_K A) (p_push (a_s A, a_K A) (a_P A)), N, fun I L ρ hX => ?_, fun I L ρ hM => ?_, okA_wS hok hs hok.2.2.2.1 (ok_push hok hok.2.2.1 hok.2.2.2.1), by omega⟩
  · obtain ⟨I1, e1, e2, e3⟩ := X6_remember_h (L := L) (ρ := ρ) hP.1 hX.2.2.1 hX.2.2.2.1
    have hs41 : stX 41 I1 (a_s A) := stX_fr (fun a x y => e2 a (by omega) (by omega) (by omega)) hX.2.2.1
    obtain ⟨I2, f1, f2, f3⟩ := h2 I1 L ρ hs41
    refine ⟨I2, L, ρ, by rw [h1 I L ρ hX I1 e1]; exact f1, X_act hX (pa_fr (fun a x y => f3 a (by omega)) (Nat.le_refl _) (paG_mono (g := 0) (by omega) (Nat.le_refl _) e3)) f2 (fun a q1 q2 q3 => ?_), fun a ha => ⟨?_, rfl⟩⟩
    · rw [f3 a (by omega), e2 a (by omega) (by omega) (by omega)]
    · rw [f3 a (by omega), e2 a (by omega) (by omega) (by omega)]
  · obtain ⟨I1, e1, e2, e3, e4⟩ := X12_keeps_h (L := L) (ρ := ρ) hok.1 hP.1 hM.2.2.2.2.2.1 hM.2.2.2.1
    have hC : chM I1 (a_C A) := chM_fr (fun a ha => e2 a (by omega) (by omega)) (e3 53 (by omega) (by omega)) hM.1
    have r255 : I1 255 = I 255 := e2 255 (by omega) (by omega)
    obtain ⟨I2, f1, f2, f3⟩ := h4 I1 L ρ hC (by rw [r255]; exact hM.2.2.2.1)
    refine ⟨I2, L, by rw [h3 I L ρ hM I1 e1 hC]; exact f1, M_act hM f2 ?_ (fun a q1 q2 q3 => ?_) (fun k q1 q2 q3 => ?_) (fun _ _ => rfl), fun a ha => ⟨?_, rfl⟩⟩
    · unfold paM
      rw [f3 215 (by omega), f3 266 (by omega)]
      exact e4
    · rw [f3 a q2, e2 a (by unfold lastM at q1; omega) q3]
    · rw [f3 215 (by omega), e3 k q2 q3]
    · rw [f3 a (by omega), e2 a (by omega) (by omega)]
theorem both_refused {g f : zM} (hok : okA A) {j : Nat} (hj : j < 6) (r : Int32) (h1 : ∀ I L ρ, RelX I L ρ A N → g (hp I L ρ) = some (some (.int r), hp (u2 I 214 j (I 214 j + 1)) L ρ)) (h2 : ∀ I L ρ, RelM I L A → f (hp I L ρ) = some (some (.int r), hp (u2 I 217 j (I 217 j + 1)) L ρ)) : both g f A N :=
  ⟨.int r, rfA A j, N, fun I L ρ hX => ⟨_, L, ρ, h1 I L ρ hX, X11_refuse_A hX hj, fun a ha => ⟨u2r (by omega), rfl⟩⟩, fun I L ρ hM => ⟨_, L, h2 I L ρ hM, refuse_M hM hj, fun a ha => ⟨u2r (by omega), rfl⟩⟩, okA_rf hok, by omega⟩
/-! undo -/
theorem undo_b (hok : okA A) : both (X11_undo 0) (X12_undo 215) A N := by
  have hP := hok.2.2.2.2.1
  rcases hp0 : a_P A with _ | ⟨q0, P⟩
  · refine both_refused hok (j := 4) (by omega) 0 (fun I L ρ hX => ?_) (fun I L ρ hM => ?_)
    · have hpa := hX.2.2.2.1
      rw [hp0] at hpa
      unfold X11_undo
      rw [gr_0_11, gr_0_7, rc_68, h_ci (X6_recall_0 hpa), h_if, if_pos rfl, rc_0, h_ci (show X11_refuse 0 4 _ = _ from X11_refuse_h (j := 4) (by omega)), h_rb0]
    · have hpa := hM.2.2.2.2.2.1
      rw [hp0] at hpa
      unfold X12_undo
      rw [gi_215, show I 215 75 = 0 from hpa.1, h_if, if_pos rfl, gr_215_9, show (4 : Int32) = nI 4 from rfl, la_217 (by decide), sa_217 (by decide), h_rb0]
  · rw [hp0] at hP
    have hPl : P.length < 20 := by have := hP.1; simp at this; omega
    have hq0 := hP.2 q0 (by simp)
    refine ⟨.int 1, wS A q0.1 q0.2 P, N, fun I L ρ hX => ?_, fun I L ρ hM => ?_, okA_wS hok hq0.1 hq0.2 ⟨by omega, fun q hq => hP.2 q (by simp [hq])⟩, by omega⟩
    · have hpa := hX.2.2.2.1
      rw [hp0] at hpa
      obtain ⟨I', e1, e2, e3, e4⟩ := X6_recall_h (L := L) (ρ := ρ) hPl hpa
      refine ⟨I', L, ρ, ?_, X_act hX e4 e3 (fun a q1 q2 q3 => e2 a (by omega) (by omega)), fun a ha => ⟨e2 a (by omega) (by omega), rfl⟩⟩
      unfold X11_undo
      rw [gr_0_11, gr_0_7, rc_68, h_ci e1, h_if, if_neg (by decide), h_rb1]
    · have hpa := hM.2.2.2.2.2.1
      rw [hp0] at hpa
      obtain ⟨I', e1, e2, e3, e4, e5⟩ := X12_undo_h (L := L) (ρ := ρ) hok.1 hPl hpa
      exact ⟨I', L, e1, M_act hM e4 e5 (fun a q1 q2 q3 => e2 a (by unfold lastM at q1; omega) q2) (fun k q1 q2 q3 => e3 k q2 q3) (fun _ _ => rfl), fun a ha => ⟨e2 a (by omega) (by omega), rfl⟩⟩
end B46
