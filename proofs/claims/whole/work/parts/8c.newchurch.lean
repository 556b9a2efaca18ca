/-! a church that has been read -/
section B8c
variable {I I0 : Nat → Nat → Int32} {L L0 : Nat → Nat → Int64} {ρ : zRh} {h : zH} {b : Nat → Nat} {n a x j k ch side here u w : Nat} {r : rP} {S : nT} {A : aT} {N : Nat}
def n_C (S : nT) : cT := ((n_n S 0, n_n S 1), (n_rt S, n_sl S, true), n_wm S, n_wk S, n_sz S, n_kin S, fun w => (n_cd (n_dn S) w).getD [])
def n_s (S : nT) : sT := ((0, 0), fun a => a, fun _ => none, fun _ => 0, n_sz S, n_lk S, n_kw S)
theorem n_fb_s {l : List Nat} : n_cd (n_fb S w l) w = some ((n_cd S w).getD l) := by
  unfold n_fb
  by_cases c : n_cd S w = none
  · rw [if_pos c, c]
    exact upn_s
  · rw [if_neg c]
    rcases q : n_cd S w with _ | l'
    · exact absurd q c
    · rfl
theorem n_fb_o {l : List Nat} {v : Nat} (hv : v ≠ w) : n_cd (n_fb S w l) v = n_cd S v := by
  unfold n_fb
  by_cases c : n_cd S w = none
  · rw [if_pos c]
    exact upn_n hv
  · rw [if_neg c]
theorem n_dn_cd (hw : w < 3) : n_cd (n_dn S) w = some ((n_cd S w).getD (p_dflt w)) := by
  unfold n_dn
  rcases (show w = 0 ∨ w = 1 ∨ w = 2 by omega) with rfl | rfl | rfl
  · rw [n_fb_o (by omega), n_fb_o (by omega), n_fb_s]
  · rw [n_fb_o (by omega), n_fb_s, n_fb_o (by omega)]
  · rw [n_fb_s, n_fb_o (by omega), n_fb_o (by omega)]
theorem n_C_code (hw : w < 3) : k_code (n_C S) w = (n_cd S w).getD (p_dflt w) := by
  show (n_cd (n_dn S) w).getD [] = _
  rw [n_dn_cd hw]; rfl
theorem dflt_ok : ∀ w, w < 3 → w_ok (p_dflt w) (decide (w = 1)) ∧ ∀ op ∈ p_dflt w, cok w op := by
  intro w hw
  rcases (show w = 0 ∨ w = 1 ∨ w = 2 by omega) with rfl | rfl | rfl
  · refine ⟨⟨false, rfl, fun q => by cases q⟩, fun op hop => ?_⟩
    rcases List.mem_cons.mp hop with q | hop
    · exact Or.inr (Or.inl ⟨2, by omega, q, by decide⟩)
    rcases List.mem_cons.mp hop with q | hop
    · exact Or.inr (Or.inl ⟨0, by omega, q, by decide⟩)
    rw [List.mem_singleton.mp hop]
    exact Or.inr (Or.inr (Or.inl (by omega)))
  · refine ⟨⟨true, rfl, fun q => rfl⟩, fun op hop => ?_⟩
    rcases List.mem_cons.mp hop with q | hop
    · exact Or.inr (Or.inl ⟨6, by omega, q, by decide⟩)
    rcases List.mem_cons.mp hop with q | hop
    · exact Or.inl (by omega)
    rw [List.mem_singleton.mp hop]
    exact Or.inr (Or.inr (Or.inl (by omega)))
  · refine ⟨⟨false, rfl, fun q => by cases q⟩, fun op hop => ?_⟩
    rcases List.mem_cons.mp hop with q | hop
    · exact Or.inr (Or.inl ⟨0, by omega, q, by decide⟩)
    rcases List.mem_cons.mp hop with q | hop
    · exact Or.inl (by omega)
    rw [List.mem_singleton.mp hop]
    exact Or.inr (Or.inr (Or.inl (by omega)))
theorem n_C_ok (hok : okN S) (hw : w < 3) : w_ok (k_code (n_C S) w) (decide (w = 1)) ∧ ∀ op ∈ k_code (n_C S) w, cok w op := by
  rw [n_C_code hw]
  rcases q : n_cd S w with _ | l
  · exact dflt_ok w hw
  · exact hok.2.2.2.2.2.2.2.2 w hw l q
theorem cok_in {op : Nat} (hw : w < 3) (h : cok w op) : op < 10009 ∨ 20000 ≤ op ∧ op ≤ 30001 := by
  rcases h with q | ⟨k, q1, q2, q3⟩ | q | q | q <;> omega
theorem cok_0 {op : Nat} (h : cok 0 op) : op ≠ 10006 := by
  rcases h with q | ⟨k, q1, q2, q3⟩ | q | q | q
  · omega
  · intro z
    have : k = 6 := by omega
    rw [this] at q3
    exact absurd q3 (by decide)
  · omega
  · omega
  · omega
theorem okC_n (hok : okN S) : okC (n_C S) := by
  refine ⟨hok.1, hok.2.2.2.2.2.2.1, hok.2.2.2.2.2.2.2.1, hok.2.2.2.1, fun x y h1 h2 h3 => hok.2.2.2.2.1 x y h1 h2 h3, fun w hw => ⟨(n_C_ok hok hw).1, fun op hop => cok_in hw ((n_C_ok hok hw).2 op hop)⟩, fun op hop => cok_0 ((n_C_ok hok (show 0 < 3 by omega)).2 op hop)⟩
theorem okT_n (hok : okN S) : okT (n_C S) (n_s S) := by
  refine ⟨⟨⟨Nat.zero_le _, by have := hok.2.2.2.2.2.2.1.1; exact this⟩, fun a ha => ⟨ha, Iff.rfl⟩, fun a b _ _ h => h, fun a b h => (by cases h), fun a ha => ⟨Nat.zero_le _, (hok.2.2.2.1 a ha).2.2⟩, fun j hj => hok.2.2.2.2.2.1 j hj⟩, Nat.zero_le _, fun a ha => rfl⟩
def wChu (A : aT) (S : nT) : aT := mkA (a_T A) 0 (n_C S) (n_nm S) (n_kc S) (n_s S) [] [] [] (a_O A) (a_m A) (a_R A) (0, -1) (a_D A)
def wFl (A : aT) (e : Nat × Nat) : aT := mkA (a_T A) 0 (a_C A) (a_nm A) (a_kc A) (a_s A) (a_K A) (a_P A) (a_V A) (a_O A) (a_m A) (a_R A) (nI e.1, nI e.2) (a_D A)
theorem okA_Ch (hA : okA A) (hok : okN S) (hk : n_kc S ≤ 60) : okA (wChu A S) := by
  refine ⟨okC_n hok, ⟨Nat.zero_le _, fun j hj => absurd hj (Nat.not_lt_zero j)⟩, okT_n hok, ⟨Nat.zero_le _, fun q hq => by cases hq⟩, ⟨Nat.zero_le _, fun q hq => by cases hq⟩, ⟨Nat.zero_le _, fun q hq => by cases hq⟩, hA.2.2.2.2.2.2.1, hA.2.2.2.2.2.2.2.1, fun a ha => ?_, hk⟩
  have h := hok.2.1 a ha
  exact ⟨h.1, h.2.1, fun k hk q => h.2.2 k hk q⟩
theorem okA_Fl (hA : okA A) {e : Nat × Nat} : okA (wFl A e) := ⟨hA.1, ⟨Nat.zero_le _, fun j hj => absurd hj (Nat.not_lt_zero j)⟩, hA.2.2.1, hA.2.2.2.1, hA.2.2.2.2.1, hA.2.2.2.2.2.1, hA.2.2.2.2.2.2.1, hA.2.2.2.2.2.2.2.1, hA.2.2.2.2.2.2.2.2⟩
/-! the state at the beginning -/
theorem begin_12 (hc : chk ch) : ∀ m i fuel (I : Nat → Nat → Int32), i + m = 12 → m < fuel → z_fix (fun r x => X8_begin_B12 41 ch r x) fuel (nI i) (hp I L ρ) = X8_begin_J57 41 ch (hp (fun c j => if c = 42 ∧ i ≤ j ∧ j < 12 then nI j else if c = 43 ∧ i ≤ j ∧ j < 12 then -1 else if c = 44 ∧ i ≤ j ∧ j < 12 then 0 else if c = 45 ∧ i ≤ j ∧ j < 12 then I (ch + 5) j else I c j) L ρ) := by
  have hcc : ch = 13 ∨ ch = 27 := hc
  intro m
  induction m with
  | zero =>
    intro i fuel I hi hf
    obtain ⟨g, rfl⟩ : ∃ g, fuel = g + 1 := ⟨fuel - 1, by omega⟩
    have e : (fun c j => if c = 42 ∧ i ≤ j ∧ j < 12 then nI j else if c = 43 ∧ i ≤ j ∧ j < 12 then -1 else if c = 44 ∧ i ≤ j ∧ j < 12 then 0 else if c = 45 ∧ i ≤ j ∧ j < 12 then I (ch + 5) j else I c j) = I := by
      funext c j
      rw [if_neg (by omega), if_neg (by omega), if_neg (by omega), if_neg (by omega)]
    rw [h_fix, e]
    show X8_begin_B12 41 ch _ (nI i) (hp I L ρ) = _
    unfold X8_begin_B12
    rw [h_if, if_pos (show (12 : Int32) ≤ nI i from (nI_le' (a := 12) (by omega) (by omega)).mpr (by omega))]
  | succ m ih =>
    intro i fuel I hi hf
    obtain ⟨g, rfl⟩ : ∃ g, fuel = g + 1 := ⟨fuel - 1, by omega⟩
    have hr := ih (i + 1) g (u2 (u2 (u2 (u2 I 42 i (nI i)) 43 i (-1)) 44 i 0) 45 i (I (ch + 5) i)) (by omega) (by omega)
    have e : (fun c j => if c = 42 ∧ i + 1 ≤ j ∧ j < 12 then nI j else if c = 43 ∧ i + 1 ≤ j ∧ j < 12 then -1 else if c = 44 ∧ i + 1 ≤ j ∧ j < 12 then 0 else if c = 45 ∧ i + 1 ≤ j ∧ j < 12 then u2 (u2 (u2 (u2 I 42 i (nI i)) 43 i (-1)) 44 i 0) 45 i (I (ch + 5) i) (ch + 5) j else u2 (u2 (u2 (u2 I 42 i (nI i)) 43 i (-1)) 44 i 0) 45 i (I (ch + 5) i) c j) = (fun c j => if c = 42 ∧ i ≤ j ∧ j < 12 then nI j else if c = 43 ∧ i ≤ j ∧ j < 12 then -1 else if c = 44 ∧ i ≤ j ∧ j < 12 then 0 else if c = 45 ∧ i ≤ j ∧ j < 12 then I (ch + 5) j else I c j) := by
      funext c j
      rw [u2r (show ch + 5 ≠ 45 by omega), u2r (show ch + 5 ≠ 44 by omega), u2r (show ch + 5 ≠ 43 by omega), u2r (show ch + 5 ≠ 42 by omega), u2_ap, u2_ap, u2_ap, u2_ap]
      by_cases q : j = i
      · subst q
        rw [if_neg (by omega), if_neg (by omega), if_neg (by omega), if_neg (by omega)]
        by_cases c1 : c = 42
        · rw [if_neg (by omega), if_neg (by omega), if_neg (by omega), if_pos ⟨c1, rfl⟩, if_pos (by omega)]
        · by_cases c2 : c = 43
          · rw [if_neg (by omega), if_neg (by omega), if_pos ⟨c2, rfl⟩, if_neg (by omega), if_pos (by omega)]
          · by_cases c3 : c = 44
            · rw [if_neg (by omega), if_pos ⟨c3, rfl⟩, if_neg (by omega), if_neg (by omega), if_pos (by omega)]
            · by_cases c4 : c = 45
              · rw [if_pos ⟨c4, rfl⟩, if_neg (by omega), if_neg (by omega), if_neg (by omega), if_pos (by omega)]
              · rw [if_neg (by omega), if_neg (by omega), if_neg (by omega), if_neg (by omega), if_neg (by omega), if_neg (by omega), if_neg (by omega), if_neg (by omega)]
      · have hij : i + 1 ≤ j ↔ i ≤ j := by omega
        rw [if_neg (fun z : c = 45 ∧ j = i => q z.2), if_neg (fun z : c = 44 ∧ j = i => q z.2), if_neg (fun z : c = 43 ∧ j = i => q z.2), if_neg (fun z : c = 42 ∧ j = i => q z.2)]
        simp only [hij]
    rw [e] at hr
    rw [h_fix, ← hr]
    show X8_begin_B12 41 ch _ (nI i) (hp I L ρ) = _
    generalize z_fix (fun r x => X8_begin_B12 41 ch r x) g = rec
    unfold X8_begin_B12
    rw [h_if, if_neg (show ¬ (12 : Int32) ≤ nI i from fun q => by have := (nI_le' (a := 12) (by omega) (by omega)).mp q; omega), gr_41_2, sa_42 (by omega), gr_41_3, sa_43 (by omega), gr_41_4, sa_44 (by omega), gr_41_5, ck_g4 hc, ck_l5 hc (by omega), sa_45 (by omega), nI_1, u2r (show ch + 5 ≠ 44 by omega), u2r (show ch + 5 ≠ 43 by omega), u2r (show ch + 5 ≠ 42 by omega)]
theorem X8_begin_h (hc : chk ch) (hK : kX ch I S) : ∃ I', X8_begin 41 ch (hp I L ρ) = some (none, hp I' L ρ) ∧ stX 41 I' (n_s S) ∧ ∀ x, x < 41 ∨ 47 < x → I' x = I x := by
  have hcc : ch = 13 ∨ ch = 27 := hc
  have e12 := begin_12 (L := L) (ρ := ρ) hc 12 0 zFU (u2 (u2 I 41 0 0) 41 1 0) (by omega) (by unfold zFU; omega)
  have g42 : ∀ j, j < 12 → (fun c j => if c = 42 ∧ 0 ≤ j ∧ j < 12 then nI j else if c = 43 ∧ 0 ≤ j ∧ j < 12 then -1 else if c = 44 ∧ 0 ≤ j ∧ j < 12 then 0 else if c = 45 ∧ 0 ≤ j ∧ j < 12 then u2 (u2 I 41 0 0) 41 1 0 (ch + 5) j else u2 (u2 I 41 0 0) 41 1 0 c j) 42 j = nI j := fun j hj => if_pos ⟨rfl, Nat.zero_le _, hj⟩
  have g43 : ∀ j, j < 12 → (fun c j => if c = 42 ∧ 0 ≤ j ∧ j < 12 then nI j else if c = 43 ∧ 0 ≤ j ∧ j < 12 then -1 else if c = 44 ∧ 0 ≤ j ∧ j < 12 then 0 else if c = 45 ∧ 0 ≤ j ∧ j < 12 then u2 (u2 I 41 0 0) 41 1 0 (ch + 5) j else u2 (u2 I 41 0 0) 41 1 0 c j) 43 j = -1 := fun j hj => (if_neg (by omega)).trans (if_pos ⟨rfl, Nat.zero_le _, hj⟩)
  have g44 : ∀ j, j < 12 → (fun c j => if c = 42 ∧ 0 ≤ j ∧ j < 12 then nI j else if c = 43 ∧ 0 ≤ j ∧ j < 12 then -1 else if c = 44 ∧ 0 ≤ j ∧ j < 12 then 0 else if c = 45 ∧ 0 ≤ j ∧ j < 12 then u2 (u2 I 41 0 0) 41 1 0 (ch + 5) j else u2 (u2 I 41 0 0) 41 1 0 c j) 44 j = 0 := fun j hj => (if_neg (by omega)).trans ((if_neg (by omega)).trans (if_pos ⟨rfl, Nat.zero_le _, hj⟩))
  have g45 : ∀ j, j < 12 → (fun c j => if c = 42 ∧ 0 ≤ j ∧ j < 12 then nI j else if c = 43 ∧ 0 ≤ j ∧ j < 12 then -1 else if c = 44 ∧ 0 ≤ j ∧ j < 12 then 0 else if c = 45 ∧ 0 ≤ j ∧ j < 12 then u2 (u2 I 41 0 0) 41 1 0 (ch + 5) j else u2 (u2 I 41 0 0) 41 1 0 c j) 45 j = I (ch + 5) j := fun j hj => (if_neg (by omega)).trans ((if_neg (by omega)).trans ((if_neg (by omega)).trans ((if_pos ⟨rfl, Nat.zero_le _, hj⟩).trans (by rw [u2r (by omega), u2r (by omega)]))))
  have go : ∀ c j, c ≠ 42 → c ≠ 43 → c ≠ 44 → c ≠ 45 → (fun c j => if c = 42 ∧ 0 ≤ j ∧ j < 12 then nI j else if c = 43 ∧ 0 ≤ j ∧ j < 12 then -1 else if c = 44 ∧ 0 ≤ j ∧ j < 12 then 0 else if c = 45 ∧ 0 ≤ j ∧ j < 12 then u2 (u2 I 41 0 0) 41 1 0 (ch + 5) j else u2 (u2 I 41 0 0) 41 1 0 c j) c j = u2 (u2 I 41 0 0) 41 1 0 c j := fun c j q1 q2 q3 q4 => (if_neg (fun z => q1 z.1)).trans ((if_neg (fun z => q2 z.1)).trans ((if_neg (fun z => q3 z.1)).trans (if_neg (fun z => q4 z.1))))
  generalize (fun c j => if c = 42 ∧ 0 ≤ j ∧ j < 12 then nI j else if c = 43 ∧ 0 ≤ j ∧ j < 12 then -1 else if c = 44 ∧ 0 ≤ j ∧ j < 12 then 0 else if c = 45 ∧ 0 ≤ j ∧ j < 12 then u2 (u2 I 41 0 0) 41 1 0 (ch + 5) j else u2 (u2 I 41 0 0) 41 1 0 c j) = I1 at e12 g42 g43 g44 g45 go
  have z7 : zK (ch + 7) = (20, 72) := by rcases hcc with rfl | rfl <;> rfl
  have z8 : zK (ch + 8) = (20, 72) := by rcases hcc with rfl | rfl <;> rfl
  have e1 : ∀ f : zM, z_cp (ch + 7) 0 46 0 (nI 72) f (hp I1 L ρ) = f (hp (cpI I1 (ch + 7) 46 72) L ρ) := fun f => h_cp (by omega) (by rw [z7]) (by omega) rfl (by omega) (by rw [z7]; exact Nat.le_refl _) (Nat.le_refl 72)
  have e2 : ∀ f : zM, z_cp (ch + 8) 0 47 0 (nI 72) f (hp (cpI I1 (ch + 7) 46 72) L ρ) = f (hp (cpI (cpI I1 (ch + 7) 46 72) (ch + 8) 47 72) L ρ) := fun f => h_cp (by omega) (by rw [z8]) (by omega) rfl (by omega) (by rw [z8]; exact Nat.le_refl _) (Nat.le_refl 72)
  have f1 : ∀ c j, c ≠ 46 → c ≠ 47 → cpI (cpI I1 (ch + 7) 46 72) (ch + 8) 47 72 c j = I1 c j := fun c j q1 q2 => (if_neg (fun z => q2 z.1)).trans (if_neg (fun z => q1 z.1))
  have f46 : ∀ j, j < 72 → cpI (cpI I1 (ch + 7) 46 72) (ch + 8) 47 72 46 j = I1 (ch + 7) j := fun j hj => (if_neg (by omega)).trans (if_pos ⟨rfl, hj⟩)
  have f47 : ∀ j, j < 72 → cpI (cpI I1 (ch + 7) 46 72) (ch + 8) 47 72 47 j = I1 (ch + 8) j := fun j hj => (if_pos ⟨rfl, hj⟩).trans (if_neg (by omega))
  refine ⟨cpI (cpI I1 (ch + 7) 46 72) (ch + 8) 47 72, ?_, ⟨⟨?_, ?_⟩, fun j hj => ?_, fun j hj => ?_, fun j hj => ?_, fun j hj => ?_, fun j hj => ?_, fun j hj => ?_⟩, fun x hx => ?_⟩
  · unfold X8_begin
    rw [pi_41, pi_41]
    refine e12.trans ?_
    unfold X8_begin_J57
    rw [ck_g7 hc, gr_41_6, gr_41_6, len_46, e1, ck_g8 hc, gr_41_7, gr_41_7, len_47, e2]; rfl
  · rw [f1 _ _ (by omega) (by omega), go _ _ (by omega) (by omega) (by omega) (by omega), u2_ap, if_neg (by omega), u2_ap, if_pos ⟨rfl, rfl⟩]; rfl
  · rw [f1 _ _ (by omega) (by omega), go _ _ (by omega) (by omega) (by omega) (by omega), u2_ap, if_pos ⟨rfl, rfl⟩]; rfl
  · rw [f1 _ _ (by omega) (by omega), g42 j hj]; rfl
  · rw [f1 _ _ (by omega) (by omega), g43 j hj]; rfl
  · rw [f1 _ _ (by omega) (by omega), g44 j hj]; rfl
  · rw [f1 _ _ (by omega) (by omega), g45 j hj]; exact (hK.2.2.1 j hj).2.2
  · rw [f46 j hj, go _ _ (by omega) (by omega) (by omega) (by omega), u2r (by omega), u2r (by omega)]; exact (hK.2.2.2.1 j hj).2.1
  · rw [f47 j hj, go _ _ (by omega) (by omega) (by omega) (by omega), u2r (by omega), u2r (by omega)]; exact (hK.2.2.2.1 j hj).2.2
  · funext j
    rw [f1 _ _ (by omega) (by omega), go _ _ (by omega) (by omega) (by omega) (by omega), u2r (by omega), u2r (by omega)]
end B8c
