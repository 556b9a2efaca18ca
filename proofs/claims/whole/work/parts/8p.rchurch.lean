/-! church: the reference's side -/
section B8p
variable {I I0 : Nat → Nat → Int32} {L L0 : Nat → Nat → Int64} {ρ : zRh} {h : zH} {b : Nat → Nat} {n a x j k u w t side here : Nat} {r : rP} {S : nT} {A : aT} {N : Nat}
/-- what a call that read the tape and found a fault leaves -/
theorem M_flt {I' : Nat → Nat → Int32} {L' : Nat → Nat → Int64} {e : Nat × Nat} (hM : RelM I L A) (hr : ∀ c, lastM c → c ≠ 246 → c ≠ 247 → c ≠ 248 → c ≠ 249 → c ≠ 252 → c ≠ 253 → c ≠ 254 → I' c = I c) (h246 : ∀ j, 5 ≤ j → I' 246 j = I 246 j) (h89 : ∀ j, 36 ≤ j → I' 248 j = I 248 j ∧ I' 249 j = I 249 j) (h23 : ∀ j, 3 ≤ j → I' 252 j = I 252 j ∧ I' 253 j = I 253 j) (h4 : ∀ j, 1600 ≤ j → I' 254 j = I 254 j) (hf : ∀ k, fieldM k → k ≠ 1 → k ≠ 7 → k ≠ 8 → I' 215 k = I 215 k) (h1 : I' 215 1 = 0) (h7 : I' 215 7 = nI e.1) (h8 : I' 215 8 = nI e.2) (hL : ∀ c, c ≠ 247 → L' c = L c) (hL7 : ∀ j, 12 ≤ j → L' 247 j = L 247 j) : RelM I' L' (wFl A e) := by
  obtain ⟨m1, m2, m3, m4, m5, m6, m7, m8, m9, m10, m11, m12⟩ := hM
  refine ⟨?_, ⟨?_, fun a ha => ?_⟩, ⟨h1, fun i hi => absurd hi (Nat.not_lt_zero i)⟩, ?_, ?_, ?_, ?_, ?_, ?_, ⟨h7, h8⟩, ?_, ?_⟩
  · obtain ⟨c1, c2, c3, c4, c5, c6⟩ := m1
    show chM I' (a_C A)
    unfold chM
    rw [h246 6 (by omega), h246 7 (by omega), h246 9 (by omega), h246 10 (by omega), hf 53 (by unfold fieldM; omega) (by omega) (by omega) (by omega)]
    refine ⟨c1, c2, c3, fun a ha => ?_, fun j hj => ?_, fun w hw => ?_⟩
    · rw [(h89 _ (show 36 ≤ 36 + 3 * a by omega)).1, (h89 _ (show 36 ≤ 36 + 3 * a + 1 by omega)).1, (h89 _ (show 36 ≤ 36 + 3 * a + 2 by omega)).1]
      exact c4 a ha
    · rw [(h89 _ (show 36 ≤ 36 + j by omega)).2]
      exact c5 j hj
    · rcases c6 w hw with ⟨q1, q2⟩ | ⟨q, R, q1, q2, q3, q4, q5, q6⟩
      · exact Or.inl ⟨by rw [(h23 _ (show 3 ≤ 3 + w by omega)).1]; exact q1, q2⟩
      · exact Or.inr ⟨q, R, by rw [(h23 _ (show 3 ≤ 3 + w by omega)).1]; exact q1, by rw [(h23 _ (show 3 ≤ 3 + w by omega)).2]; exact q2, q3, q4, q5, fun i hi => by rw [h4 _ (by omega)]; exact q6 i hi⟩
  · rw [h246 8 (by omega)]; exact m2.1
  · rw [hL7 _ (by omega)]; exact m2.2 a ha
  · rw [hr 255 (by unfold lastM; omega) (by omega) (by omega) (by omega) (by omega) (by omega) (by omega) (by omega)]; exact m4
  · rw [hf 54 (by unfold fieldM; omega) (by omega) (by omega) (by omega), hf 64 (by unfold fieldM; omega) (by omega) (by omega) (by omega)]; exact m5
  · show paM I' (a_C A) (a_P A)
    unfold paM
    rw [hf 75 (by unfold fieldM; omega) (by omega) (by omega) (by omega), hf 76 (by unfold fieldM; omega) (by omega) (by omega) (by omega), hr 266 (by unfold lastM; omega) (by omega) (by omega) (by omega) (by omega) (by omega) (by omega) (by omega)]; exact m6
  · rw [hf 71 (by unfold fieldM; omega) (by omega) (by omega) (by omega), hr 264 (by unfold lastM; omega) (by omega) (by omega) (by omega) (by omega) (by omega) (by omega) (by omega)]; exact m7
  · rw [hf 115 (by unfold fieldM; omega) (by omega) (by omega) (by omega), hr 296 (by unfold lastM; omega) (by omega) (by omega) (by omega) (by omega) (by omega) (by omega) (by omega)]; exact m8
  · rw [hr 217 (by unfold lastM; omega) (by omega) (by omega) (by omega) (by omega) (by omega) (by omega) (by omega)]; exact m9
  · rw [hL 215 (by omega)]; exact m11
  · intro q hq i hi
    have := wdL_at q hq
    rw [hr q.1 (by unfold lastM; omega) (by omega) (by omega) (by omega) (by omega) (by omega) (by omega) (by omega)]
    exact m12 q hq i hi
/-- where the tape is begun -/
theorem M_begin (hok : okA A) (hM : RelM I L A) {J : Nat → Nat → Int32} (h3 : J 215 3 = nI (a_n A)) (h2 : J 215 2 = 0) (h4 : J 215 4 = -1) (h5 : J 215 5 = 0) (hr : J 216 = I 216) : tQ J (t_b A) (a_n A) (.inr (sk (t_b A) (a_n A) 0)) := by
  refine ⟨0, ⟨⟨h3, hok.2.1.1, fun j hj => ⟨(t_b_h hok hj).1, ?_⟩⟩, Nat.zero_le _, h2, ⟨fun q => ?_, fun q => ?_⟩, none, h4, fun e he => (by cases he), fun q => (by cases q), fun q => ?_⟩, rfl, h5⟩
  · rw [hr, hM.2.2.1.2 j hj]; exact (t_b_h hok hj).2
  · exact absurd (of_decide_eq_true q).1 (Nat.lt_irrefl 0)
  · exact absurd (of_decide_eq_true q).1 (Nat.lt_irrefl 0)
  · unfold pvA at q
    rw [show pvD (t_b A) (a_n A) 0 = false from decide_eq_false (fun z => Nat.lt_irrefl 0 z.1), show pvL (t_b A) (a_n A) 0 = false from decide_eq_false (fun z => Nat.lt_irrefl 0 z.1)] at q
    cases q
end B8p
