/-! ask: the reference's side -/
section B8x
variable {I I0 : Nat → Nat → Int32} {L L0 : Nat → Nat → Int64} {ρ : zRh} {h : zH} {b : Nat → Nat} {n a x j k u w t p m side here : Nat} {r : rP} {S : nT} {A : aT} {N : Nat} {C : cT} {s : sT}
theorem M_fl2 {I' : Nat → Nat → Int32} {f : Int32 × Int32} (hM : RelM I L A) (hr : ∀ c, lastM c → I' c = I c) (hf : ∀ k, fieldM k → k ≠ 1 → k ≠ 7 → k ≠ 8 → I' 215 k = I 215 k) (h1 : I' 215 1 = 0) (h7 : I' 215 7 = f.1) (h8 : I' 215 8 = f.2) : RelM I' L (wF2 A f) := by
  obtain ⟨m1, m2, m3, m4, m5, m6, m7, m8, m9, m10, m11, m12⟩ := hM
  refine ⟨chM_fr (fun c hc => hr c (by unfold lastM; omega)) (hf 53 (by unfold fieldM; omega) (by omega) (by omega) (by omega)) m1, ?_, ⟨h1, fun i hi => absurd hi (Nat.not_lt_zero i)⟩, ?_, ?_, ?_, ?_, ?_, ?_, ⟨h7, h8⟩, m11, ?_⟩
  · rw [hr 246 (by unfold lastM; omega)]; exact m2
  · rw [hr 255 (by unfold lastM; omega)]; exact m4
  · rw [hf 54 (by unfold fieldM; omega) (by omega) (by omega) (by omega), hf 64 (by unfold fieldM; omega) (by omega) (by omega) (by omega)]; exact m5
  · show paM I' (a_C A) (a_P A)
    unfold paM
    rw [hf 75 (by unfold fieldM; omega) (by omega) (by omega) (by omega), hf 76 (by unfold fieldM; omega) (by omega) (by omega) (by omega), hr 266 (by unfold lastM; omega)]; exact m6
  · rw [hf 71 (by unfold fieldM; omega) (by omega) (by omega) (by omega), hr 264 (by unfold lastM; omega)]; exact m7
  · rw [hf 115 (by unfold fieldM; omega) (by omega) (by omega) (by omega), hr 296 (by unfold lastM; omega)]; exact m8
  · rw [hr 217 (by unfold lastM; omega)]; exact m9
  · intro q hq i hi
    have := wdL_at q hq
    rw [hr q.1 (by unfold lastM; omega)]
    exact m12 q hq i hi
def tkF (p : Nat) : Int32 := if p = 0 then 1 else 0
/-- one more is taken into the answer -/
theorem X12_qTakes_h {v x : Int} (hk6 : k < 6) (hv : -20000000 ≤ v ∧ v ≤ 20000000) (hx : -1000000 ≤ x ∧ x ≤ 1000000) (hx01 : k ≤ 2 → x = 0 ∨ x = 1) (hp2 : p < 100) (hL : L 215 112 = cl v) (hI : I 215 113 = tkF p) : ∃ L', X12_qTakes 215 (nI k) (cl x) (nI p) (hp I L ρ) = some (none, hp (u2 I 215 113 0) L' ρ) ∧ L' 215 112 = cl (q_jn k v p x) ∧ ∀ a j, (a ≠ 215 ∨ j ≠ 112) → L' a j = L a j := by
  have ep : (nI p).toInt64 = cl (p : Int) := nI_cl (by omega)
  have l1 : cl v = -1 ↔ v = -1 := by
    rw [show (-1 : Int64) = cl (-1) from rfl]
    exact cl_eq (x := v) (y := -1) (by omega) (by omega) (by omega) (by omega)
  have lx : cl x = 1 ↔ x = 1 := by
    rw [show (1 : Int64) = cl 1 from rfl]
    exact cl_eq (x := x) (y := 1) (by omega) (by omega) (by omega) (by omega)
  have l2 : cl x < cl v ↔ x < v := cl_lt (by omega) (by omega) (by omega) (by omega)
  have l3 : cl v < cl x ↔ v < x := cl_lt (by omega) (by omega) (by omega) (by omega)
  have fin0 : ∃ L', X12_qTakes_J133 215 (hp I L ρ) = some (none, hp (u2 I 215 113 0) L' ρ) ∧ L' 215 112 = cl v ∧ ∀ a j, (a ≠ 215 ∨ j ≠ 112) → L' a j = L a j := ⟨L, by unfold X12_qTakes_J133; rw [pb0_215]; rfl, hL, fun _ _ _ => rfl⟩
  have fin1 : ∀ z : Int, ∃ L', X12_qTakes_J133 215 (hp I (u2 L 215 112 (cl z)) ρ) = some (none, hp (u2 I 215 113 0) L' ρ) ∧ L' 215 112 = cl z ∧ ∀ a j, (a ≠ 215 ∨ j ≠ 112) → L' a j = L a j := fun z => ⟨u2 L 215 112 (cl z), by unfold X12_qTakes_J133; rw [pb0_215]; rfl, by rw [u2_ap, if_pos ⟨rfl, rfl⟩], fun a j h => by rw [u2_ap, if_neg (by omega)]⟩
  unfold X12_qTakes
  rcases (show k = 0 ∨ k = 1 ∨ k = 2 ∨ k = 3 ∨ k = 4 ∨ k = 5 by omega) with rfl | rfl | rfl | rfl | rfl | rfl
  · rw [q_jn0, h_if, if_neg (by decide), h_if]
    rcases hx01 (by omega) with rfl | rfl
    · rw [if_neg (fun q => by have := lx.mp q; omega), show (if v = -1 then (if (0 : Int) = 0 then v else (p : Int)) else v) = v by split <;> rfl]
      unfold X12_qTakes_J15 X12_qTakes_J16 X12_qTakes_J38 X12_qTakes_J55 X12_qTakes_J75 X12_qTakes_J90
      rw [h_if, if_pos (show nI 0 = 0 from rfl), h_if, if_pos rfl, h_if, if_neg (by decide), h_if, if_neg (by decide), h_if, if_neg (by decide), h_if, if_pos (by decide)]
      exact fin0
    · rw [if_pos (lx.mpr rfl)]
      unfold X12_qTakes_J16
      rw [h_if, if_pos (show nI 0 = 0 from rfl), h_if, if_neg (by decide), gl_215, hL, h_if]
      by_cases c : v = -1
      · rw [if_pos (l1.mpr c), if_pos c, if_neg (by omega)]
        unfold X12_qTakes_J48 X12_qTakes_J55 X12_qTakes_J75 X12_qTakes_J90
        rw [pl_215, h_if, if_neg (by decide), h_if, if_neg (by decide), h_if, if_pos (by decide), ep]
        exact fin1 _
      · rw [if_neg (fun q => c (l1.mp q)), if_neg c]
        unfold X12_qTakes_J38 X12_qTakes_J55 X12_qTakes_J75 X12_qTakes_J90
        rw [h_if, if_neg (by decide), h_if, if_neg (by decide), h_if, if_neg (by decide), h_if, if_pos (by decide)]
        exact fin0
  · rw [q_jn1, h_if, if_neg (by decide), h_if]
    rcases hx01 (by omega) with rfl | rfl
    · rw [if_neg (fun q => by have := lx.mp q; omega), if_pos rfl]
      unfold X12_qTakes_J15 X12_qTakes_J16 X12_qTakes_J38 X12_qTakes_J55 X12_qTakes_J75 X12_qTakes_J90
      rw [h_if, if_neg (by decide), h_if, if_pos (by decide), h_if, if_pos rfl, h_if, if_neg (by decide), h_if, if_neg (by decide), h_if, if_pos (by decide)]
      exact fin0
    · rw [if_pos (lx.mpr rfl), if_neg (by omega)]
      unfold X12_qTakes_J16 X12_qTakes_J38 X12_qTakes_J48 X12_qTakes_J55 X12_qTakes_J75 X12_qTakes_J90
      rw [h_if, if_neg (by decide), h_if, if_pos (by decide), h_if, if_neg (by decide), pl_215, h_if, if_neg (by decide), h_if, if_neg (by decide), h_if, if_pos (by decide), ep]
      exact fin1 _
  · rw [q_jn2, h_if, if_neg (by decide), h_if]
    rcases hx01 (by omega) with rfl | rfl
    · rw [if_neg (fun q => by have := lx.mp q; omega), show v + 0 = v by omega]
      unfold X12_qTakes_J15 X12_qTakes_J16 X12_qTakes_J38 X12_qTakes_J55 X12_qTakes_J75 X12_qTakes_J90
      rw [h_if, if_neg (by decide), h_if, if_neg (by decide), h_if, if_pos (by decide), h_if, if_pos rfl, h_if, if_neg (by decide), h_if, if_pos (by decide)]
      exact fin0
    · rw [if_pos (lx.mpr rfl)]
      unfold X12_qTakes_J16 X12_qTakes_J38 X12_qTakes_J55 X12_qTakes_J75 X12_qTakes_J90
      rw [h_if, if_neg (by decide), h_if, if_neg (by decide), h_if, if_pos (by decide), h_if, if_neg (by decide), gl_215, hL, show (1 : Int64) = cl 1 from rfl, cl_add, pl_215, h_if, if_neg (by decide), h_if, if_pos (by decide)]
      exact fin1 _
  · rw [q_jn3, h_if, if_pos (by decide)]
    unfold X12_qTakes_J15 X12_qTakes_J16 X12_qTakes_J38 X12_qTakes_J55 X12_qTakes_J75 X12_qTakes_J90
    rw [h_if, if_neg (by decide), h_if, if_neg (by decide), h_if, if_neg (by decide), h_if, if_pos (by decide), gl_215, hL, cl_add, pl_215, h_if, if_pos (by decide)]
    exact fin1 _
  · rw [q_jn4, h_if, if_pos (by decide)]
    unfold X12_qTakes_J15 X12_qTakes_J16 X12_qTakes_J38 X12_qTakes_J55 X12_qTakes_J75 X12_qTakes_J90
    rw [h_if, if_neg (by decide), h_if, if_neg (by decide), h_if, if_neg (by decide), h_if, if_neg (by decide), h_if, if_neg (by decide), gi_215, hI, h_if]
    unfold tkF X12_qTakes_J128
    by_cases c : p = 0
    · rw [if_pos c, if_pos c, if_neg (by decide), pl_215]
      exact fin1 _
    · rw [if_neg c, if_neg c, if_pos rfl, h_if, if_pos (by decide), gl_215, hL, h_if]
      by_cases d : v < x
      · rw [if_pos (l3.mpr d), if_neg (by omega), pl_215]
        exact fin1 _
      · rw [if_neg (fun q => d (l3.mp q))]
        rw [show (if x < v then v else x) = v by split <;> omega]
        exact fin0
  · rw [q_jn5, h_if, if_pos (by decide)]
    unfold X12_qTakes_J15 X12_qTakes_J16 X12_qTakes_J38 X12_qTakes_J55 X12_qTakes_J75 X12_qTakes_J90
    rw [h_if, if_neg (by decide), h_if, if_neg (by decide), h_if, if_neg (by decide), h_if, if_neg (by decide), h_if, if_neg (by decide), gi_215, hI, h_if]
    unfold tkF X12_qTakes_J128
    by_cases c : p = 0
    · rw [if_pos c, if_pos c, if_neg (by decide), pl_215]
      exact fin1 _
    · rw [if_neg c, if_neg c, if_pos rfl, h_if, if_neg (by decide), gl_215, hL, h_if]
      by_cases d : x < v
      · rw [if_pos (l2.mpr d), if_pos d, pl_215]
        exact fin1 _
      · rw [if_neg (fun q => d (l2.mp q)), if_neg d]
        exact fin0
theorem ask_lp (hok : okA A) {R l : List Nat} {bb : Bool} (hl : w_ok l bb) (hbb : bb = decide (k ≤ 2)) (hR : cdR 3 R l) (hb : R.length ≤ 1600) (hk6 : k < 6) : ∀ m p fuel (I : Nat → Nat → Int32) (L : Nat → Nat → Int64), p + m = k_L (a_C A) + k_R (a_C A) → m < fuel → RelM I L A → (∀ i, i < R.length → I 293 i = nI (R.getD i 0)) → I 215 105 = nI R.length → L 215 112 = cl (q_an k (q_vs A l) p) → I 215 113 = tkF p → ∃ I' L', z_fix (fun r x => X12_ask_B167 215 (nI k) r x) fuel (nI p) (hp I L ρ) = some (some (.long (cl (q_an k (q_vs A l) (k_L (a_C A) + k_R (a_C A))))), hp I' L' ρ) ∧ RelM I' L' A ∧ ∀ a, a < 215 → I' a = I a ∧ L' a = L a := by
  have h66 := hok.1.1
  intro m
  induction m with
  | zero =>
    intro p fuel I L hi hf hM hc h105 h112 h113
    obtain ⟨f, rfl⟩ : ∃ f, fuel = f + 1 := ⟨fuel - 1, by omega⟩
    refine ⟨I, L, ?_, hM, fun _ _ => ⟨rfl, rfl⟩⟩
    rw [h_fix]
    show X12_ask_B167 215 (nI k) _ (nI p) (hp I L ρ) = _
    unfold X12_ask_B167 X12_ask_J202
    rw [rc_215, h_ci (X12_peopleMany_h hM.1), h_if, if_pos ((nI_le' (by omega) (by omega)).mpr (by omega)), gl_215, h112, show p = k_L (a_C A) + k_R (a_C A) by omega]; rfl
  | succ m ih =>
    intro p fuel I L hi hf hM hc h105 h112 h113
    obtain ⟨f, rfl⟩ : ∃ f, fuel = f + 1 := ⟨fuel - 1, by omega⟩
    have hp2 : p < k_L (a_C A) + k_R (a_C A) := by omega
    obtain ⟨I1, hI1⟩ : ∃ I1, I1 = u2 (u2 I 215 56 (nI p)) 215 57 (nI p) := ⟨_, rfl⟩
    have r1 : ∀ c, c ≠ 215 → I1 c = I c := fun c hc => by rw [hI1, u2r hc, u2r hc]
    have f1 : ∀ k, k ≠ 56 → k ≠ 57 → I1 215 k = I 215 k := fun k h1 h2 => by rw [hI1, u2_ap, if_neg (by omega), u2_ap, if_neg (by omega)]
    have hM1 : RelM I1 L A := RelM_fr (fun a ha => r1 a (by unfold lastM at ha; omega)) (fun k hk => by unfold fieldM at hk; exact f1 k (by omega) (by omega)) (fun _ _ => rfl) hM
    obtain ⟨I2, L2, a1, a2, a3, a4⟩ := X12_qTold_h (ρ := ρ) hok hp2 hl hR hM1 (by rw [hI1, u2_ap, if_neg (by omega), u2_ap, if_pos ⟨rfl, rfl⟩]) (by rw [hI1, u2_ap, if_pos ⟨rfl, rfl⟩]) (fun i hi => by rw [r1 293 (by omega)]; exact hc i hi) (by rw [f1 105 (by omega) (by omega)]; exact h105) hb
    have hv := q_an_b (k := k) (F := q_vs A l) (m0 := k_L (a_C A) + k_R (a_C A)) (fun p hp3 => (q_vs_in hok hl hp3).2) p (by omega)
    have hq := q_vs_in hok hl hp2
    obtain ⟨L3, b1, b2, b3⟩ := X12_qTakes_h (I := I2) (L := L2) (ρ := ρ) (k := k) (p := p) (v := q_an k (q_vs A l) p) (x := q_vs A l p) hk6 (by omega) hq.2 (fun z => hq.1 (by rw [hbb, decide_eq_true z])) (by omega) (by rw [a4 215 (by omega)]; exact h112) (by rw [a3 113 (by omega), f1 113 (by omega) (by omega)]; exact h113)
    have l3 : ∀ a, a ≠ 215 → a ≠ 295 → L3 a = L a := fun a h1 h2 => by
      funext j
      rw [b3 a j (Or.inl h1), a4 a h2]
    have hM2 : RelM I2 L A := RelM_fr (fun a ha => a2 a (by unfold lastM at ha; omega)) (fun k hk => a3 k (by unfold fieldM at hk; omega)) (fun _ _ => rfl) hM1
    have hM3 : RelM (u2 I2 215 113 0) L3 A := RelM_L (RelM_fr (fun a ha => u2r (by unfold lastM at ha; omega)) (fun k hk => by unfold fieldM at hk; rw [u2_ap, if_neg (by omega)]) (fun _ _ => rfl) hM2) (by rw [b3 215 77 (by omega), a4 215 (by omega)]) (l3 247 (by omega) (by omega))
    obtain ⟨I', L', d1, d2, d3⟩ := ih (p + 1) f (u2 I2 215 113 0) L3 (by omega) (by omega) hM3 (fun i hi => by rw [u2r (by omega), a2 293 (by omega), r1 293 (by omega)]; exact hc i hi) (by rw [u2_ap, if_neg (by omega), a3 105 (by omega), f1 105 (by omega) (by omega)]; exact h105) b2 (by rw [u2_ap, if_pos ⟨rfl, rfl⟩]; rfl)
    refine ⟨I', L', ?_, d2, fun a ha => ⟨by rw [(d3 a ha).1, u2r (by omega), a2 a (by omega), r1 a (by omega)], by rw [(d3 a ha).2, l3 a (by omega) (by omega)]⟩⟩
    rw [h_fix]
    show X12_ask_B167 215 (nI k) _ (nI p) (hp I L ρ) = _
    generalize z_fix (fun r x => X12_ask_B167 215 (nI k) r x) f = rec at d1
    unfold X12_ask_B167
    rw [rc_215, h_ci (X12_peopleMany_h hM.1), h_if, if_neg (fun q => by have := (nI_le' (by omega) (by omega)).mp q; omega), pi_215, pi_215, ← hI1, rc_215, h_cl a1, rc_215, h_cv b1, nI_1]
    exact d1
end B8x
