/-! the class answers a question -/
section B8s
variable {I I0 : Nat → Nat → Int32} {L L0 : Nat → Nat → Int64} {ρ : zRh} {h : zH} {b : Nat → Nat} {n a x j k u w t p m side here : Nat} {r : rP} {S : nT} {A : aT} {N : Nat} {C : cT} {s : sT}
def q_o (C : cT) (f : Nat → Nat) (p j : Nat) : Nat := match k_ac C (nI p) (nI j) with
  | none => 0
  | some c => f (6 * k_cd C p + c % 6)
def q_F (C : cT) (s : sT) (p k : Nat) : Int := if k = 0 then (p : Int) else if k = 1 then (if 6 ≤ k_cd C p then 1 else 0) else if k = 2 then (k_warm C (k_cd C p) : Int) else if k = 3 then (k_work C (k_cd C p) : Int) else if k = 4 then (k_size C (k_cd C p) : Int) else if k = 5 then (s_wai s (k_cd C p) : Int) else if k = 6 then (if s_wed s (k_cd C p) = none then 0 else 1) else if k = 7 then (s_sp s : Int) else if k = 8 then (s_rd s : Int) else if k < 21 then (q_o C (s_lik s) p (k - 9) : Int) else if k < 33 then (q_o C (s_kno s) p (k - 21) : Int) else 0
def q_jn (k : Nat) (v : Int) (p : Nat) (x : Int) : Int := if k = 0 then (if v = -1 then (if x = 0 then v else (p : Int)) else v) else if k = 1 then (if x = 0 then v else (p : Int)) else if k = 2 ∨ k = 3 then v + x else if k = 4 then (if p = 0 then x else if x < v then v else x) else (if p = 0 then x else if x < v then x else v)
def q_an (k : Nat) (F : Nat → Int) : Nat → Int
  | 0 => if 1 < k then 0 else -1
  | p + 1 => q_jn k (q_an k F p) p (F p)
theorem q_an_in {F : Nat → Int} (hF : ∀ p, -1000000 ≤ F p ∧ F p ≤ 1000000) : ∀ m : Nat, m ≤ 1000 → -1000000 * (m : Int) - 1 ≤ q_an k F m ∧ q_an k F m ≤ 1000000 * (m : Int)
  | 0, _ => by
    show _ ≤ (if 1 < k then (0 : Int) else -1) ∧ (if 1 < k then (0 : Int) else -1) ≤ _
    split <;> omega
  | m + 1, hm => by
    have h1 := q_an_in hF m (by omega)
    have h2 := hF m
    show _ ≤ q_jn k (q_an k F m) m (F m) ∧ q_jn k (q_an k F m) m (F m) ≤ _
    unfold q_jn
    repeat' split
    all_goals omega
theorem e_val_b {F : Nat → Int} (hFb : ∀ k, -1000000 ≤ F k ∧ F k ≤ 1000000) {l : List Nat} {bb : Bool} (hl : w_ok l bb) : (bb = true → e_val F l = 0 ∨ e_val F l = 1) ∧ -1000000 ≤ e_val F l ∧ e_val F l ≤ 1000000 := by
  obtain ⟨a, h1, h2⟩ := hl
  have hr := w_rel_run hFb (st := []) h1 trivial
  unfold e_val
  rcases hs : e_run F l [] with _ | ⟨v, t⟩
  · rw [hs] at hr; exact hr.elim
  · rw [hs] at hr
    exact ⟨fun q => hr.1.1 (h2 q), hr.1.2⟩
theorem q_o_le {f : Nat → Nat} (hf : ∀ i, i < 72 → f i ≤ 9) (hk : okC C) (hp2 : p < k_L C + k_R C) : q_o C f p j ≤ 9 := by
  have hC := (k_cd_th hp2 hk).1
  have := k_th_lt hk hC
  unfold q_o
  rcases k_ac C (nI p) (nI j) with _ | c
  · exact Nat.zero_le _
  · exact hf _ (by omega)
theorem q_F_in (hk : okC C) (hS : okS C s) (hp2 : p < k_L C + k_R C) : ∀ i, -1000000 ≤ q_F C s p i ∧ q_F C s p i ≤ 1000000 := by
  intro i
  have hC := (k_cd_th hp2 hk).1
  have h12 := k_th_lt hk hC
  obtain ⟨w1, w2, w3⟩ := hk.2.2.2.1 _ h12
  have w4 := (hS.2.2.2.2.1 _ h12).1
  have w5 := q_o_le (j := i - 9) (f := s_lik s) (fun j hj => (hS.2.2.2.2.2 j hj).1) hk hp2
  have w6 := q_o_le (j := i - 21) (f := s_kno s) (fun j hj => (hS.2.2.2.2.2 j hj).2) hk hp2
  have w7 := hS.1.1
  have w8 := hS.1.2
  have w9 := hk.1
  have w10 := hk.2.1
  unfold q_F
  repeat' split
  all_goals omega
theorem q_F33 : ∀ i, 33 ≤ i → q_F C s p i = 0 := by
  intro i hi
  unfold q_F
  rw [if_neg (by omega), if_neg (by omega), if_neg (by omega), if_neg (by omega), if_neg (by omega), if_neg (by omega), if_neg (by omega), if_neg (by omega), if_neg (by omega), if_neg (by omega), if_neg (by omega)]
theorem X11_cell_o {a c : Nat} (ha : a < 1000) (hc : c < 1000) : X11_cell (nI a) (oI (some c)) h = some (some (.int (nI (6 * a + c % 6))), h) := X11_cell_h ha hc
/-- whom one likes, whose hand one knows -/
theorem gf_125 (hX : RelX I L ρ A N) (hok : okA A) (hp2 : p < k_L (a_C A) + k_R (a_C A)) : ∀ m i fuel (I1 : Nat → Nat → Int32), i + m = 12 → m < fuel → (∀ d, d ≠ 9 → I1 d = I d) → ∃ I', z_fix (fun r x => X7_gatherFacts_B125 3 ρ.1 41 (oI (k_sl (a_C A) (nI p))) r x) fuel (nI i) (hp I1 L ρ) = some (none, hp I' L ρ) ∧ (∀ d, d ≠ 9 → I' d = I d) ∧ (∀ j, i ≤ j → j < 12 → I' 9 (9 + j) = nI (q_o (a_C A) (s_lik (a_s A)) p j) ∧ I' 9 (21 + j) = nI (q_o (a_C A) (s_kno (a_s A)) p j)) ∧ ∀ q, (q < 9 + i ∨ 21 ≤ q) → (q < 21 + i ∨ 33 ≤ q) → I' 9 q = I1 9 q := by
  have hk := hok.1
  have hcd := k_cd_th hp2 hk
  have h12 := k_th_lt hk hcd.1
  have hsl : k_sl (a_C A) (nI p) = some (k_cd (a_C A) p) := by
    have := hk.1
    unfold k_sl
    rw [if_neg (nI_pos (by omega)), nI_clamp (by omega)]
    exact hcd.2.2
  have hSL : ∀ j, j < 72 → I 46 j = nI (s_lik (a_s A) j) := hX.2.2.1.2.2.2.2.2.1
  have hSK : ∀ j, j < 72 → I 47 j = nI (s_kno (a_s A) j) := hX.2.2.1.2.2.2.2.2.2
  intro m
  induction m with
  | zero =>
    intro i fuel I1 hi hf hr
    obtain ⟨f, rfl⟩ : ∃ f, fuel = f + 1 := ⟨fuel - 1, by omega⟩
    refine ⟨I1, ?_, hr, fun j h1 h2 => by omega, fun _ _ _ => rfl⟩
    rw [h_fix]
    show X7_gatherFacts_B125 3 ρ.1 41 _ _ (nI i) (hp I1 L ρ) = _
    unfold X7_gatherFacts_B125
    rw [h_if, if_pos (show (12 : Int32) ≤ nI i from (nI_le' (a := 12) (b := i) (by omega) (by omega)).mpr (by omega))]; rfl
  | succ m ih =>
    intro i fuel I1 hi hf hr
    obtain ⟨f, rfl⟩ : ∃ f, fuel = f + 1 := ⟨fuel - 1, by omega⟩
    obtain ⟨I', g1, g2, g3, g4⟩ := ih (i + 1) f (u2 (u2 I1 9 (9 + i) (nI (q_o (a_C A) (s_lik (a_s A)) p i))) 9 (21 + i) (nI (q_o (a_C A) (s_kno (a_s A)) p i))) (by omega) (by omega) (fun d hd => by rw [u2r hd, u2r hd]; exact hr d hd)
    have hX1 : RelX I1 L ρ A N := RelX_fr (fun a ha => hr a (by unfold lastX at ha; omega)) rfl (Nat.le_refl _) hX
    have eA := XC_across hX1 hk (nI p) (nI i)
    refine ⟨I', ?_, g2, fun j h1 h2 => ?_, fun q h1 h2 => ?_⟩
    · rw [h_fix]
      show X7_gatherFacts_B125 3 ρ.1 41 _ _ (nI i) (hp I1 L ρ) = _
      generalize z_fix (fun r x => X7_gatherFacts_B125 3 ρ.1 41 (oI (k_sl (a_C A) (nI p))) r x) f = rec at g1
      rw [hsl] at eA ⊢
      unfold X7_gatherFacts_B125
      rw [h_if, if_neg (show ¬ (12 : Int32) ≤ nI i from fun q => by have := (nI_le' (a := 12) (b := i) (by omega) (by omega)).mp q; omega), rcc (cu_ρ hX1), h_ci eA, gr_3_3, h_if]
      unfold q_o at g1
      rcases z : k_ac (a_C A) (nI p) (nI i) with _ | c
      · rw [z] at g1
        rw [oI_none, if_pos rfl]
        unfold X7_gatherFacts_J173
        rw [show (9 : Int32) = nI 9 from rfl, nI_add, sa_9 (by omega), gr_3_3, h_if, if_pos rfl]
        unfold X7_gatherFacts_J205
        rw [show (21 : Int32) = nI 21 from rfl, nI_add, sa_9 (by omega), nI_1]
        exact g1
      · rw [z] at g1
        have hc12 : c < 12 := by
          unfold k_ac at z
          rw [hsl] at z
          rcases y : k_sl (a_C A) (nI i) with _ | c'
          · rw [y] at z; cases z
          · rw [y] at z
            have z : (if (k_cd (a_C A) p < 6 ↔ c' < 6) then none else some c') = some c := z
            split at z
            · cases z
            · cases z
              rcases k_sl_c hk (nI i) with ⟨q, -⟩ | ⟨a', p', q, -, -, -, -, -, q2⟩
              · rw [q] at y; cases y
              · rw [q] at y; cases y; exact q2
        have nc : ¬ oI (some c) = -1 := nI_nm1 (by omega)
        rw [if_neg nc, gr_41_6, oI_some, h_ci (X11_cell_o (by omega) (by omega)), la_46 (by omega), hr 46 (by omega), hSL _ (by omega)]
        unfold X7_gatherFacts_J173
        rw [show (9 : Int32) = nI 9 from rfl, nI_add, sa_9 (by omega), gr_3_3, h_if, if_neg nc, gr_41_7, h_ci (X11_cell_o (by omega) (by omega)), la_47 (by omega), u2r (by omega), hr 47 (by omega), hSK _ (by omega)]
        unfold X7_gatherFacts_J205
        rw [show (21 : Int32) = nI 21 from rfl, nI_add, sa_9 (by omega), nI_1]
        exact g1
    · by_cases c : j = i
      · subst c
        refine ⟨?_, ?_⟩
        · rw [g4 _ (by omega) (by omega), u2_ap, if_neg (by omega), u2_ap, if_pos ⟨rfl, rfl⟩]
        · rw [g4 _ (by omega) (by omega), u2_ap, if_pos ⟨rfl, rfl⟩]
      · exact g3 j (by omega) h2
    · rw [g4 q (by omega) (by omega), u2_ap, if_neg (by omega), u2_ap, if_neg (by omega)]
theorem X7_gather_h (hX : RelX I L ρ A N) (hok : okA A) (hp2 : p < k_L (a_C A) + k_R (a_C A)) : ∃ I', X7_gatherFacts 3 ρ.1 41 (nI p) (hp I L ρ) = some (none, hp I' L ρ) ∧ (∀ d, d ≠ 9 → I' d = I d) ∧ ∀ i, i < 33 → I' 9 i = ci (q_F (a_C A) (a_s A) p i) := by
  have hk := hok.1
  have hρ := cu_ρ hX
  have hC := cu_ch hX
  have hS := hX.2.2.1
  have hcd := k_cd_th hp2 hk
  have h12 := k_th_lt hk hcd.1
  have hsl : k_sl (a_C A) (nI p) = some (k_cd (a_C A) p) := by
    have := hk.1
    unfold k_sl
    rw [if_neg (nI_pos (by omega)), nI_clamp (by omega)]
    exact hcd.2.2
  have eS := XC_slot hX hk (nI p)
  have e125 := fun I1 h => gf_125 (p := p) hX hok hp2 12 0 zFU I1 rfl (by unfold zFU; omega) h
  rw [hsl] at eS e125
  have eS : X1_slot ρ.1 (nI p) (hp I L ρ) = some (some (.int (nI (k_cd (a_C A) p))), hp I L ρ) := eS
  have e125 : ∀ I1 : Nat → Nat → Int32, (∀ d, d ≠ 9 → I1 d = I d) → ∃ I', z_fix (fun r x => X7_gatherFacts_B125 3 ρ.1 41 (nI (k_cd (a_C A) p)) r x) zFU 0 (hp I1 L ρ) = some (none, hp I' L ρ) ∧ _ := e125
  obtain ⟨a, ha⟩ : ∃ a, a = k_cd (a_C A) p := ⟨_, rfl⟩
  rw [← ha] at eS e125 h12
  obtain ⟨v6, hv6⟩ : ∃ v6 : Int32, v6 = if s_wed (a_s A) a = none then 0 else 1 := ⟨_, rfl⟩
  obtain ⟨I9, hI9⟩ : ∃ I9, I9 = u2 (u2 (u2 (u2 (u2 (u2 (u2 (u2 (u2 I 9 0 (nI p)) 9 1 (if 6 ≤ a then 1 else 0)) 9 2 (nI (k_warm (a_C A) a))) 9 3 (nI (k_work (a_C A) a))) 9 4 (nI (k_size (a_C A) a))) 9 5 (nI (s_wai (a_s A) a))) 9 6 v6) 9 7 (nI (s_sp (a_s A)))) 9 8 (nI (s_rd (a_s A))) := ⟨_, rfl⟩
  have o9 : ∀ d, d ≠ 9 → I9 d = I d := fun d hd => by rw [hI9, u2r hd, u2r hd, u2r hd, u2r hd, u2r hd, u2r hd, u2r hd, u2r hd, u2r hd]
  obtain ⟨I', g1, g2, g3, g4⟩ := e125 I9 o9
  refine ⟨I', ?_, g2, fun i hi => ?_⟩
  · have eR : ρ.1 = 13 ∨ ρ.1 = 27 := hρ
    unfold X7_gatherFacts
    rw [rcc hρ, h_ci eS, gr_3_3, sal_0, sa_9 (by omega), gr_3_3, h_ci (X11_sideOf_h (by omega)), sal_1, sa_9 (by omega), gr_3_3, gc_2 hρ, lac_3 hρ h12, u2r (by omega), u2r (by omega), hC.2.2.1 a h12, sal_2, sa_9 (by omega), gr_3_3, gc_3 hρ, lac_4 hρ h12, u2r (by omega), u2r (by omega), u2r (by omega), hC.2.2.2.1 a h12, sal_3, sa_9 (by omega), gr_3_3, gc_4 hρ, lac_5 hρ h12, u2r (by omega), u2r (by omega), u2r (by omega), u2r (by omega), hC.2.2.2.2.1 a h12, sal_4, sa_9 (by omega), gr_3_3, gr_41_4, la_44 h12, u2r (by omega), u2r (by omega), u2r (by omega), u2r (by omega), u2r (by omega), hS.2.2.2.1 a h12, sal_5, sa_9 (by omega), gr_3_3, gr_41_3, la_43 h12, u2r (by omega), u2r (by omega), u2r (by omega), u2r (by omega), u2r (by omega), u2r (by omega), hS.2.2.1 a h12, h_if]
    have e99 : X7_gatherFacts_J99 3 ρ.1 41 (nI a) v6 6 9 (hp (u2 (u2 (u2 (u2 (u2 (u2 I 9 0 (nI p)) 9 1 (if 6 ≤ a then 1 else 0)) 9 2 (nI (k_warm (a_C A) a))) 9 3 (nI (k_work (a_C A) a))) 9 4 (nI (k_size (a_C A) a))) 9 5 (nI (s_wai (a_s A) a))) L ρ) = some (none, hp I' L ρ) := by
      unfold X7_gatherFacts_J99
      rw [sal_6, sa_9 (by omega), gr_3_3, gi_41, u2r (by omega), u2r (by omega), u2r (by omega), u2r (by omega), u2r (by omega), u2r (by omega), u2r (by omega), hS.1.1, sal_7, sa_9 (by omega), gr_3_3, gi_41, u2r (by omega), u2r (by omega), u2r (by omega), u2r (by omega), u2r (by omega), u2r (by omega), u2r (by omega), u2r (by omega), hS.1.2, sal_8, sa_9 (by omega), ← hI9]
      exact g1
    rcases z : s_wed (a_s A) a with _ | c
    · rw [z, if_pos rfl] at hv6
      rw [hv6] at e99
      rw [oI_none, if_pos rfl]
      exact e99
    · rw [z, if_neg (by intro q; cases q)] at hv6
      have hc : c < 12 := k_th_lt hk (hok.2.2.1.1.2.2.2.1 a c z).2.1
      rw [if_neg (show ¬ oI (some c) = -1 from nI_nm1 (by omega))]
      rw [hv6] at e99
      exact e99
  · unfold q_F
    rw [← ha]
    rcases (show i = 0 ∨ i = 1 ∨ i = 2 ∨ i = 3 ∨ i = 4 ∨ i = 5 ∨ i = 6 ∨ i = 7 ∨ i = 8 ∨ (9 ≤ i ∧ i < 21) ∨ 21 ≤ i by omega) with rfl | rfl | rfl | rfl | rfl | rfl | rfl | rfl | rfl | hh | hh
    · rw [g4 0 (by omega) (by omega), hI9]; simp [u2, ci_nat]
    · rw [g4 1 (by omega) (by omega), hI9]
      by_cases c : 6 ≤ a
      · simp [u2, c]; rfl
      · simp [u2, c]; rfl
    · rw [g4 2 (by omega) (by omega), hI9]; simp [u2, ci_nat]
    · rw [g4 3 (by omega) (by omega), hI9]; simp [u2, ci_nat]
    · rw [g4 4 (by omega) (by omega), hI9]; simp [u2, ci_nat]
    · rw [g4 5 (by omega) (by omega), hI9]; simp [u2, ci_nat]
    · rw [g4 6 (by omega) (by omega), hI9, hv6]
      by_cases c : s_wed (a_s A) a = none
      · simp [u2, c]; rfl
      · simp [u2, c]; rfl
    · rw [g4 7 (by omega) (by omega), hI9]; simp [u2, ci_nat]
    · rw [g4 8 (by omega) (by omega), hI9]; simp [u2, ci_nat]
    · rw [if_neg (by omega), if_neg (by omega), if_neg (by omega), if_neg (by omega), if_neg (by omega), if_neg (by omega), if_neg (by omega), if_neg (by omega), if_neg (by omega), if_pos hh.2, ← ci_nat]
      have := (g3 (i - 9) (by omega) (by omega)).1
      rw [show 9 + (i - 9) = i by omega] at this
      exact this
    · rw [if_neg (by omega), if_neg (by omega), if_neg (by omega), if_neg (by omega), if_neg (by omega), if_neg (by omega), if_neg (by omega), if_neg (by omega), if_neg (by omega), if_neg (by omega), if_pos hi, ← ci_nat]
      have := (g3 (i - 21) (by omega) (by omega)).2
      rw [show 21 + (i - 21) = i by omega] at this
      exact this
end B8s
