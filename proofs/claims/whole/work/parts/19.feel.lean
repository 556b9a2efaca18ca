/-! the class: how a hand feels, who lets go, what is learnt -/
section B19
variable {I : Nat → Nat → Int32} {L : Nat → Nat → Int64} {ρ : zRh} {h : zH} {C : cT} {s : sT}
theorem u2r {α : Type} {f : Nat → Nat → α} {a j b : Nat} {x : α} (h : b ≠ a) : u2 f a j x b = f b := by
  funext i
  rw [u2_ap, if_neg (fun c => h c.1)]
theorem w3 {k : Nat} (h : k < 3) : k = 0 ∨ k = 1 ∨ k = 2 := by omega
theorem X10_letsGo_13 (hk : okC C) (hB : bnS s) (hρ : ρ.2.2.1 = 13) (hC : chX 13 I C) {a o : Nat} (ha : a < 12) (ho : o < 12) (hf : ∀ k, k < 9 → I 51 k = ci (p_fy C s a o k)) : ∃ I', X10_letsGo 48 (hp I L ρ) = some (some (.int (bI (p_lets C s a o))), hp I' L ρ) ∧ ∀ x, x ≠ 26 → I' x = I x := by
  obtain ⟨q, u, c1, c2, c3, c4, c5, c6⟩ := hC.2.2.2.2.2.2 1 (by omega)
  have hb := e_val_in (p_fy_in hk hB ha ho) (hk.2.2.2.2.2.1 1 (by omega)).1
  obtain ⟨I', e1, e2⟩ := X3_value_22 (L := L) (ρ := ρ) (x9 := 99) (p_fy_in hk hB ha ho) (fun k hk => p_fy9 a o hk) (show 1 < 3 by omega) c5 (by omega) (hk.2.2.2.2.2.1 1 (by omega)).1 c6 c1 c2 c3 c4 (fun op hop => by have := (hk.2.2.2.2.2.1 1 (by omega)).2 op hop; omega) (fun k h1 _ => hf k h1)
  refine ⟨I', ?_, e2⟩
  unfold X10_letsGo
  rw [gr_48_0, hρ, gr_13_11, gr_48_3, rc_22, h_ci (show X3_value 22 1 51 _ = _ from e1), h_if, show (0 : Int32) = ci 0 from rfl]
  unfold p_lets
  simp only [ci_eq (x := e_val (p_fy C s a o) (k_code C 1)) (y := 0) (by omega) (by omega) (by omega) (by omega)]
  by_cases q0 : e_val (p_fy C s a o) (k_code C 1) = 0
  · rw [if_pos q0, decide_eq_false (fun f => f q0)]; rfl
  · rw [if_neg q0, decide_eq_true q0]; rfl
theorem X10_learnt_13 (hk : okC C) (hB : bnS s) (hρ : ρ.2.2.1 = 13) (hC : chX 13 I C) {a o : Nat} (ha : a < 12) (ho : o < 12) (hf : ∀ k, k < 9 → I 51 k = ci (p_fy C s a o k)) : ∃ I', X10_learnt 48 (hp I L ρ) = some (some (.int (nI (p_learn C s a o))), hp I' L ρ) ∧ ∀ x, x ≠ 26 → I' x = I x := by
  obtain ⟨q, u, c1, c2, c3, c4, c5, c6⟩ := hC.2.2.2.2.2.2 2 (by omega)
  have hb := e_val_in (p_fy_in hk hB ha ho) (hk.2.2.2.2.2.1 2 (by omega)).1
  obtain ⟨I', e1, e2⟩ := X3_value_22 (L := L) (ρ := ρ) (x9 := 99) (p_fy_in hk hB ha ho) (fun k hk => p_fy9 a o hk) (show 2 < 3 by omega) c5 (by omega) (hk.2.2.2.2.2.1 2 (by omega)).1 c6 c1 c2 c3 c4 (fun op hop => by have := (hk.2.2.2.2.2.1 2 (by omega)).2 op hop; omega) (fun k h1 _ => hf k h1)
  refine ⟨I', ?_, e2⟩
  unfold X10_learnt
  rw [gr_48_0, hρ, gr_13_11, gr_48_3, rc_22, h_ci (show X3_value 22 2 51 _ = _ from e1), h_ci (show X11_within _ 9 _ = _ from X11_within_h hb (m := 9) (by omega)), p_learn_ci]
  rfl
theorem X10_letsGo_27 (hk : okC C) (hB : bnS s) (hρ : ρ.2.2.1 = 27) (hC : chX 27 I C) {a o : Nat} (ha : a < 12) (ho : o < 12) (hf : ∀ k, k < 9 → I 51 k = ci (p_fy C s a o k)) : ∃ I', X10_letsGo 48 (hp I L ρ) = some (some (.int (bI (p_lets C s a o))), hp I' L ρ) ∧ ∀ x, x ≠ 40 → I' x = I x := by
  obtain ⟨q, u, c1, c2, c3, c4, c5, c6⟩ := hC.2.2.2.2.2.2 1 (by omega)
  have hb := e_val_in (p_fy_in hk hB ha ho) (hk.2.2.2.2.2.1 1 (by omega)).1
  obtain ⟨I', e1, e2⟩ := X3_value_36 (L := L) (ρ := ρ) (x9 := 99) (p_fy_in hk hB ha ho) (fun k hk => p_fy9 a o hk) (show 1 < 3 by omega) c5 (by omega) (hk.2.2.2.2.2.1 1 (by omega)).1 c6 c1 c2 c3 c4 (fun op hop => by have := (hk.2.2.2.2.2.1 1 (by omega)).2 op hop; omega) (fun k h1 _ => hf k h1)
  refine ⟨I', ?_, e2⟩
  unfold X10_letsGo
  rw [gr_48_0, hρ, gr_27_11, gr_48_3, rc_36, h_ci (show X3_value 36 1 51 _ = _ from e1), h_if, show (0 : Int32) = ci 0 from rfl]
  unfold p_lets
  simp only [ci_eq (x := e_val (p_fy C s a o) (k_code C 1)) (y := 0) (by omega) (by omega) (by omega) (by omega)]
  by_cases q0 : e_val (p_fy C s a o) (k_code C 1) = 0
  · rw [if_pos q0, decide_eq_false (fun f => f q0)]; rfl
  · rw [if_neg q0, decide_eq_true q0]; rfl
theorem X10_learnt_27 (hk : okC C) (hB : bnS s) (hρ : ρ.2.2.1 = 27) (hC : chX 27 I C) {a o : Nat} (ha : a < 12) (ho : o < 12) (hf : ∀ k, k < 9 → I 51 k = ci (p_fy C s a o k)) : ∃ I', X10_learnt 48 (hp I L ρ) = some (some (.int (nI (p_learn C s a o))), hp I' L ρ) ∧ ∀ x, x ≠ 40 → I' x = I x := by
  obtain ⟨q, u, c1, c2, c3, c4, c5, c6⟩ := hC.2.2.2.2.2.2 2 (by omega)
  have hb := e_val_in (p_fy_in hk hB ha ho) (hk.2.2.2.2.2.1 2 (by omega)).1
  obtain ⟨I', e1, e2⟩ := X3_value_36 (L := L) (ρ := ρ) (x9 := 99) (p_fy_in hk hB ha ho) (fun k hk => p_fy9 a o hk) (show 2 < 3 by omega) c5 (by omega) (hk.2.2.2.2.2.1 2 (by omega)).1 c6 c1 c2 c3 c4 (fun op hop => by have := (hk.2.2.2.2.2.1 2 (by omega)).2 op hop; omega) (fun k h1 _ => hf k h1)
  refine ⟨I', ?_, e2⟩
  unfold X10_learnt
  rw [gr_48_0, hρ, gr_27_11, gr_48_3, rc_36, h_ci (show X3_value 36 2 51 _ = _ from e1), h_ci (show X11_within _ 9 _ = _ from X11_within_h hb (m := 9) (by omega)), p_learn_ci]
  rfl
set_option maxHeartbeats 4000000 in
theorem X10_feel_13_41 (hk : okC C) (hB : bnS s) (hρ : ρ.2.2.1 = 13) (hC : chX 13 I C) (hX : stX 41 I s) {a o : Nat} (ha : a < 12) (ho : o < 12) : ∃ I', X10_feel 48 41 (nI a) (nI o) (hp I L ρ) = some (some (.int (ci (p_feel C s a o))), hp I' L ρ) ∧ (∀ x, x ≠ 51 → x ≠ 26 → I' x = I x) ∧ ∀ k, k < 9 → I' 51 k = ci (p_fy C s a o k) := by
  have hcell : ∀ (F : Int32 → zM) (h : zH), z_ci (X11_cell (nI a) (nI o)) F h = F (nI (6 * a + o % 6)) h := fun F h => h_ci (X11_cell_h (by omega) (by omega))
  have hidx : 6 * a + o % 6 < 72 := by omega
  obtain ⟨⟨hsp, hrd⟩, -, -, hwa, hsi, hli, hkn⟩ := id hX
  have h1 : I 47 (6 * a + o % 6) = nI (s_kno s (6 * a + o % 6)) := hkn _ hidx
  have h2 : I 46 (6 * a + o % 6) = nI (s_lik s (6 * a + o % 6)) := hli _ hidx
  have h3 : I 16 o = nI (k_warm C o) := hC.2.2.1 _ ho
  have h4 : I 17 o = nI (k_work C o) := hC.2.2.2.1 _ ho
  have h5 : I 45 o = nI (s_siz s o) := hsi _ ho
  have h8 : I 44 a = nI (s_wai s a) := hwa _ ha
  obtain ⟨I1, e1, f1, g1⟩ : ∃ I1, X10_feel 48 41 (nI a) (nI o) (hp I L ρ) = (z_rc 3 22 (z_ci (X3_value 22 0 51) fun y31 => z_ci (X11_within y31 99) fun y32 => z_sa 20 51 6 y32 (z_gr 10 3 48 fun x33 => z_la 20 x33 6 fun x34 => z_ret (some (.int x34))))) (hp I1 L ρ) ∧ (∀ x, x ≠ 51 → I1 x = I x) ∧ ∀ k, k < 9 → k ≠ 6 → I1 51 k = ci (p_fx C s a o k) := by
    refine ⟨u2 (u2 (u2 (u2 (u2 (u2 (u2 (u2 I 51 0 (nI (s_kno s (6 * a + o % 6)))) 51 1 (nI (s_sp s))) 51 2 (nI (s_lik s (6 * a + o % 6)))) 51 3 (nI (k_warm C o))) 51 4 (nI (k_work C o))) 51 5 (nI (s_siz s o))) 51 7 (nI (s_rd s))) 51 8 (nI (s_wai s a)), ?_, fun x hx => ?_, fun k hk1 hk6 => ?_⟩
    · unfold X10_feel
      rw [gr_48_3, gr_41_7, hcell, la_47 hidx, h1, sal_0, sa_51 (by decide)]
      rw [gr_48_3, gi_41, u2r (show (41 : Nat) ≠ 51 by decide), hsp, sal_1, sa_51 (by decide)]
      rw [gr_48_3, gr_41_6, hcell, la_46 hidx, u2r (show (46 : Nat) ≠ 51 by decide), u2r (show (46 : Nat) ≠ 51 by decide), h2, sal_2, sa_51 (by decide)]
      rw [gr_48_3, gr_48_0, hρ, gr_13_2, la_16 ho, u2r (show (16 : Nat) ≠ 51 by decide), u2r (show (16 : Nat) ≠ 51 by decide), u2r (show (16 : Nat) ≠ 51 by decide), h3, sal_3, sa_51 (by decide)]
      rw [gr_48_3, gr_48_0, hρ, gr_13_3, la_17 ho, u2r (show (17 : Nat) ≠ 51 by decide), u2r (show (17 : Nat) ≠ 51 by decide), u2r (show (17 : Nat) ≠ 51 by decide), u2r (show (17 : Nat) ≠ 51 by decide), h4, sal_4, sa_51 (by decide)]
      rw [gr_48_3, gr_41_5, la_45 ho, u2r (show (45 : Nat) ≠ 51 by decide), u2r (show (45 : Nat) ≠ 51 by decide), u2r (show (45 : Nat) ≠ 51 by decide), u2r (show (45 : Nat) ≠ 51 by decide), u2r (show (45 : Nat) ≠ 51 by decide), h5, sal_5, sa_51 (by decide)]
      rw [gr_48_3, gi_41, u2r (show (41 : Nat) ≠ 51 by decide), u2r (show (41 : Nat) ≠ 51 by decide), u2r (show (41 : Nat) ≠ 51 by decide), u2r (show (41 : Nat) ≠ 51 by decide), u2r (show (41 : Nat) ≠ 51 by decide), u2r (show (41 : Nat) ≠ 51 by decide), hrd, sal_7, sa_51 (by decide)]
      rw [gr_48_3, gr_41_4, la_44 ha, u2r (show (44 : Nat) ≠ 51 by decide), u2r (show (44 : Nat) ≠ 51 by decide), u2r (show (44 : Nat) ≠ 51 by decide), u2r (show (44 : Nat) ≠ 51 by decide), u2r (show (44 : Nat) ≠ 51 by decide), u2r (show (44 : Nat) ≠ 51 by decide), u2r (show (44 : Nat) ≠ 51 by decide), h8, sal_8, sa_51 (by decide)]
      rw [gr_48_3, gr_48_0, hρ, gr_13_11, gr_48_3]
    · funext i
      simp only [u2_ap, hx, false_and, if_false]
    · have hk9 : k = 0 ∨ k = 1 ∨ k = 2 ∨ k = 3 ∨ k = 4 ∨ k = 5 ∨ k = 7 ∨ k = 8 := by omega
      rcases hk9 with rfl | rfl | rfl | rfl | rfl | rfl | rfl | rfl <;> simp [u2_ap, p_fx, ci_nat]
  have hC1 : chX 13 I1 C := chX_fr (fun a h1 h2 => f1 a (by omega)) hC
  obtain ⟨q, u, c1, c2, c3, c4, c5, c6⟩ := hC1.2.2.2.2.2.2 0 (by omega)
  have hb := e_val_in (p_fx_in hk hB ha ho) (hk.2.2.2.2.2.1 0 (by omega)).1
  obtain ⟨I2, e2, f2⟩ := X3_value_22 (L := L) (ρ := ρ) (x9 := 6) (p_fx_in hk hB ha ho) (fun k hk => p_fx9 a o hk) (show 0 < 3 by omega) c5 (by omega) (hk.2.2.2.2.2.1 0 (by omega)).1 c6 c1 c2 c3 c4 hk.2.2.2.2.2.2 (fun k h1 h2 => g1 k h1 h2)
  rw [e1, rc_22, h_ci (show X3_value 22 0 51 _ = _ from e2), h_ci (show X11_within _ 99 _ = _ from X11_within_h hb (m := 99) (by omega)), sal_6, sa_51 (by omega), gr_48_3, lal_6, la_51 (by omega), h_ret]
  refine ⟨u2 I2 51 6 (ci (p_feel C s a o)), ?_, fun x h1 h2 => ?_, fun k hk1 => ?_⟩
  · rw [u2_ap, if_pos ⟨rfl, rfl⟩]; rfl
  · funext i
    rw [u2_ap, if_neg (by omega), f2 x h2, f1 x h1]
  · rw [u2_ap]
    by_cases q6 : k = 6
    · rw [if_pos ⟨rfl, q6⟩, q6]; rfl
    · rw [if_neg (fun c => q6 c.2), f2 _ (by omega), g1 k hk1 q6]
      unfold p_fy
      rw [if_neg q6]
set_option maxHeartbeats 4000000 in
theorem X10_feel_13_54 (hk : okC C) (hB : bnS s) (hρ : ρ.2.2.1 = 13) (hC : chX 13 I C) (hX : stX 54 I s) {a o : Nat} (ha : a < 12) (ho : o < 12) : ∃ I', X10_feel 48 54 (nI a) (nI o) (hp I L ρ) = some (some (.int (ci (p_feel C s a o))), hp I' L ρ) ∧ (∀ x, x ≠ 51 → x ≠ 26 → I' x = I x) ∧ ∀ k, k < 9 → I' 51 k = ci (p_fy C s a o k) := by
  have hcell : ∀ (F : Int32 → zM) (h : zH), z_ci (X11_cell (nI a) (nI o)) F h = F (nI (6 * a + o % 6)) h := fun F h => h_ci (X11_cell_h (by omega) (by omega))
  have hidx : 6 * a + o % 6 < 72 := by omega
  obtain ⟨⟨hsp, hrd⟩, -, -, hwa, hsi, hli, hkn⟩ := id hX
  have h1 : I 60 (6 * a + o % 6) = nI (s_kno s (6 * a + o % 6)) := hkn _ hidx
  have h2 : I 59 (6 * a + o % 6) = nI (s_lik s (6 * a + o % 6)) := hli _ hidx
  have h3 : I 16 o = nI (k_warm C o) := hC.2.2.1 _ ho
  have h4 : I 17 o = nI (k_work C o) := hC.2.2.2.1 _ ho
  have h5 : I 58 o = nI (s_siz s o) := hsi _ ho
  have h8 : I 57 a = nI (s_wai s a) := hwa _ ha
  obtain ⟨I1, e1, f1, g1⟩ : ∃ I1, X10_feel 48 54 (nI a) (nI o) (hp I L ρ) = (z_rc 3 22 (z_ci (X3_value 22 0 51) fun y31 => z_ci (X11_within y31 99) fun y32 => z_sa 20 51 6 y32 (z_gr 10 3 48 fun x33 => z_la 20 x33 6 fun x34 => z_ret (some (.int x34))))) (hp I1 L ρ) ∧ (∀ x, x ≠ 51 → I1 x = I x) ∧ ∀ k, k < 9 → k ≠ 6 → I1 51 k = ci (p_fx C s a o k) := by
    refine ⟨u2 (u2 (u2 (u2 (u2 (u2 (u2 (u2 I 51 0 (nI (s_kno s (6 * a + o % 6)))) 51 1 (nI (s_sp s))) 51 2 (nI (s_lik s (6 * a + o % 6)))) 51 3 (nI (k_warm C o))) 51 4 (nI (k_work C o))) 51 5 (nI (s_siz s o))) 51 7 (nI (s_rd s))) 51 8 (nI (s_wai s a)), ?_, fun x hx => ?_, fun k hk1 hk6 => ?_⟩
    · unfold X10_feel
      rw [gr_48_3, gr_54_7, hcell, la_60 hidx, h1, sal_0, sa_51 (by decide)]
      rw [gr_48_3, gi_54, u2r (show (54 : Nat) ≠ 51 by decide), hsp, sal_1, sa_51 (by decide)]
      rw [gr_48_3, gr_54_6, hcell, la_59 hidx, u2r (show (59 : Nat) ≠ 51 by decide), u2r (show (59 : Nat) ≠ 51 by decide), h2, sal_2, sa_51 (by decide)]
      rw [gr_48_3, gr_48_0, hρ, gr_13_2, la_16 ho, u2r (show (16 : Nat) ≠ 51 by decide), u2r (show (16 : Nat) ≠ 51 by decide), u2r (show (16 : Nat) ≠ 51 by decide), h3, sal_3, sa_51 (by decide)]
      rw [gr_48_3, gr_48_0, hρ, gr_13_3, la_17 ho, u2r (show (17 : Nat) ≠ 51 by decide), u2r (show (17 : Nat) ≠ 51 by decide), u2r (show (17 : Nat) ≠ 51 by decide), u2r (show (17 : Nat) ≠ 51 by decide), h4, sal_4, sa_51 (by decide)]
      rw [gr_48_3, gr_54_5, la_58 ho, u2r (show (58 : Nat) ≠ 51 by decide), u2r (show (58 : Nat) ≠ 51 by decide), u2r (show (58 : Nat) ≠ 51 by decide), u2r (show (58 : Nat) ≠ 51 by decide), u2r (show (58 : Nat) ≠ 51 by decide), h5, sal_5, sa_51 (by decide)]
      rw [gr_48_3, gi_54, u2r (show (54 : Nat) ≠ 51 by decide), u2r (show (54 : Nat) ≠ 51 by decide), u2r (show (54 : Nat) ≠ 51 by decide), u2r (show (54 : Nat) ≠ 51 by decide), u2r (show (54 : Nat) ≠ 51 by decide), u2r (show (54 : Nat) ≠ 51 by decide), hrd, sal_7, sa_51 (by decide)]
      rw [gr_48_3, gr_54_4, la_57 ha, u2r (show (57 : Nat) ≠ 51 by decide), u2r (show (57 : Nat) ≠ 51 by decide), u2r (show (57 : Nat) ≠ 51 by decide), u2r (show (57 : Nat) ≠ 51 by decide), u2r (show (57 : Nat) ≠ 51 by decide), u2r (show (57 : Nat) ≠ 51 by decide), u2r (show (57 : Nat) ≠ 51 by decide), h8, sal_8, sa_51 (by decide)]
      rw [gr_48_3, gr_48_0, hρ, gr_13_11, gr_48_3]
    · funext i
      simp only [u2_ap, hx, false_and, if_false]
    · have hk9 : k = 0 ∨ k = 1 ∨ k = 2 ∨ k = 3 ∨ k = 4 ∨ k = 5 ∨ k = 7 ∨ k = 8 := by omega
      rcases hk9 with rfl | rfl | rfl | rfl | rfl | rfl | rfl | rfl <;> simp [u2_ap, p_fx, ci_nat]
  have hC1 : chX 13 I1 C := chX_fr (fun a h1 h2 => f1 a (by omega)) hC
  obtain ⟨q, u, c1, c2, c3, c4, c5, c6⟩ := hC1.2.2.2.2.2.2 0 (by omega)
  have hb := e_val_in (p_fx_in hk hB ha ho) (hk.2.2.2.2.2.1 0 (by omega)).1
  obtain ⟨I2, e2, f2⟩ := X3_value_22 (L := L) (ρ := ρ) (x9 := 6) (p_fx_in hk hB ha ho) (fun k hk => p_fx9 a o hk) (show 0 < 3 by omega) c5 (by omega) (hk.2.2.2.2.2.1 0 (by omega)).1 c6 c1 c2 c3 c4 hk.2.2.2.2.2.2 (fun k h1 h2 => g1 k h1 h2)
  rw [e1, rc_22, h_ci (show X3_value 22 0 51 _ = _ from e2), h_ci (show X11_within _ 99 _ = _ from X11_within_h hb (m := 99) (by omega)), sal_6, sa_51 (by omega), gr_48_3, lal_6, la_51 (by omega), h_ret]
  refine ⟨u2 I2 51 6 (ci (p_feel C s a o)), ?_, fun x h1 h2 => ?_, fun k hk1 => ?_⟩
  · rw [u2_ap, if_pos ⟨rfl, rfl⟩]; rfl
  · funext i
    rw [u2_ap, if_neg (by omega), f2 x h2, f1 x h1]
  · rw [u2_ap]
    by_cases q6 : k = 6
    · rw [if_pos ⟨rfl, q6⟩, q6]; rfl
    · rw [if_neg (fun c => q6 c.2), f2 _ (by omega), g1 k hk1 q6]
      unfold p_fy
      rw [if_neg q6]
set_option maxHeartbeats 4000000 in
theorem X10_feel_27_41 (hk : okC C) (hB : bnS s) (hρ : ρ.2.2.1 = 27) (hC : chX 27 I C) (hX : stX 41 I s) {a o : Nat} (ha : a < 12) (ho : o < 12) : ∃ I', X10_feel 48 41 (nI a) (nI o) (hp I L ρ) = some (some (.int (ci (p_feel C s a o))), hp I' L ρ) ∧ (∀ x, x ≠ 51 → x ≠ 40 → I' x = I x) ∧ ∀ k, k < 9 → I' 51 k = ci (p_fy C s a o k) := by
  have hcell : ∀ (F : Int32 → zM) (h : zH), z_ci (X11_cell (nI a) (nI o)) F h = F (nI (6 * a + o % 6)) h := fun F h => h_ci (X11_cell_h (by omega) (by omega))
  have hidx : 6 * a + o % 6 < 72 := by omega
  obtain ⟨⟨hsp, hrd⟩, -, -, hwa, hsi, hli, hkn⟩ := id hX
  have h1 : I 47 (6 * a + o % 6) = nI (s_kno s (6 * a + o % 6)) := hkn _ hidx
  have h2 : I 46 (6 * a + o % 6) = nI (s_lik s (6 * a + o % 6)) := hli _ hidx
  have h3 : I 30 o = nI (k_warm C o) := hC.2.2.1 _ ho
  have h4 : I 31 o = nI (k_work C o) := hC.2.2.2.1 _ ho
  have h5 : I 45 o = nI (s_siz s o) := hsi _ ho
  have h8 : I 44 a = nI (s_wai s a) := hwa _ ha
  obtain ⟨I1, e1, f1, g1⟩ : ∃ I1, X10_feel 48 41 (nI a) (nI o) (hp I L ρ) = (z_rc 3 36 (z_ci (X3_value 36 0 51) fun y31 => z_ci (X11_within y31 99) fun y32 => z_sa 20 51 6 y32 (z_gr 10 3 48 fun x33 => z_la 20 x33 6 fun x34 => z_ret (some (.int x34))))) (hp I1 L ρ) ∧ (∀ x, x ≠ 51 → I1 x = I x) ∧ ∀ k, k < 9 → k ≠ 6 → I1 51 k = ci (p_fx C s a o k) := by
    refine ⟨u2 (u2 (u2 (u2 (u2 (u2 (u2 (u2 I 51 0 (nI (s_kno s (6 * a + o % 6)))) 51 1 (nI (s_sp s))) 51 2 (nI (s_lik s (6 * a + o % 6)))) 51 3 (nI (k_warm C o))) 51 4 (nI (k_work C o))) 51 5 (nI (s_siz s o))) 51 7 (nI (s_rd s))) 51 8 (nI (s_wai s a)), ?_, fun x hx => ?_, fun k hk1 hk6 => ?_⟩
    · unfold X10_feel
      rw [gr_48_3, gr_41_7, hcell, la_47 hidx, h1, sal_0, sa_51 (by decide)]
      rw [gr_48_3, gi_41, u2r (show (41 : Nat) ≠ 51 by decide), hsp, sal_1, sa_51 (by decide)]
      rw [gr_48_3, gr_41_6, hcell, la_46 hidx, u2r (show (46 : Nat) ≠ 51 by decide), u2r (show (46 : Nat) ≠ 51 by decide), h2, sal_2, sa_51 (by decide)]
      rw [gr_48_3, gr_48_0, hρ, gr_27_2, la_30 ho, u2r (show (30 : Nat) ≠ 51 by decide), u2r (show (30 : Nat) ≠ 51 by decide), u2r (show (30 : Nat) ≠ 51 by decide), h3, sal_3, sa_51 (by decide)]
      rw [gr_48_3, gr_48_0, hρ, gr_27_3, la_31 ho, u2r (show (31 : Nat) ≠ 51 by decide), u2r (show (31 : Nat) ≠ 51 by decide), u2r (show (31 : Nat) ≠ 51 by decide), u2r (show (31 : Nat) ≠ 51 by decide), h4, sal_4, sa_51 (by decide)]
      rw [gr_48_3, gr_41_5, la_45 ho, u2r (show (45 : Nat) ≠ 51 by decide), u2r (show (45 : Nat) ≠ 51 by decide), u2r (show (45 : Nat) ≠ 51 by decide), u2r (show (45 : Nat) ≠ 51 by decide), u2r (show (45 : Nat) ≠ 51 by decide), h5, sal_5, sa_51 (by decide)]
      rw [gr_48_3, gi_41, u2r (show (41 : Nat) ≠ 51 by decide), u2r (show (41 : Nat) ≠ 51 by decide), u2r (show (41 : Nat) ≠ 51 by decide), u2r (show (41 : Nat) ≠ 51 by decide), u2r (show (41 : Nat) ≠ 51 by decide), u2r (show (41 : Nat) ≠ 51 by decide), hrd, sal_7, sa_51 (by decide)]
      rw [gr_48_3, gr_41_4, la_44 ha, u2r (show (44 : Nat) ≠ 51 by decide), u2r (show (44 : Nat) ≠ 51 by decide), u2r (show (44 : Nat) ≠ 51 by decide), u2r (show (44 : Nat) ≠ 51 by decide), u2r (show (44 : Nat) ≠ 51 by decide), u2r (show (44 : Nat) ≠ 51 by decide), u2r (show (44 : Nat) ≠ 51 by decide), h8, sal_8, sa_51 (by decide)]
      rw [gr_48_3, gr_48_0, hρ, gr_27_11, gr_48_3]
    · funext i
      simp only [u2_ap, hx, false_and, if_false]
    · have hk9 : k = 0 ∨ k = 1 ∨ k = 2 ∨ k = 3 ∨ k = 4 ∨ k = 5 ∨ k = 7 ∨ k = 8 := by omega
      rcases hk9 with rfl | rfl | rfl | rfl | rfl | rfl | rfl | rfl <;> simp [u2_ap, p_fx, ci_nat]
  have hC1 : chX 27 I1 C := chX_fr (fun a h1 h2 => f1 a (by omega)) hC
  obtain ⟨q, u, c1, c2, c3, c4, c5, c6⟩ := hC1.2.2.2.2.2.2 0 (by omega)
  have hb := e_val_in (p_fx_in hk hB ha ho) (hk.2.2.2.2.2.1 0 (by omega)).1
  obtain ⟨I2, e2, f2⟩ := X3_value_36 (L := L) (ρ := ρ) (x9 := 6) (p_fx_in hk hB ha ho) (fun k hk => p_fx9 a o hk) (show 0 < 3 by omega) c5 (by omega) (hk.2.2.2.2.2.1 0 (by omega)).1 c6 c1 c2 c3 c4 hk.2.2.2.2.2.2 (fun k h1 h2 => g1 k h1 h2)
  rw [e1, rc_36, h_ci (show X3_value 36 0 51 _ = _ from e2), h_ci (show X11_within _ 99 _ = _ from X11_within_h hb (m := 99) (by omega)), sal_6, sa_51 (by omega), gr_48_3, lal_6, la_51 (by omega), h_ret]
  refine ⟨u2 I2 51 6 (ci (p_feel C s a o)), ?_, fun x h1 h2 => ?_, fun k hk1 => ?_⟩
  · rw [u2_ap, if_pos ⟨rfl, rfl⟩]; rfl
  · funext i
    rw [u2_ap, if_neg (by omega), f2 x h2, f1 x h1]
  · rw [u2_ap]
    by_cases q6 : k = 6
    · rw [if_pos ⟨rfl, q6⟩, q6]; rfl
    · rw [if_neg (fun c => q6 c.2), f2 _ (by omega), g1 k hk1 q6]
      unfold p_fy
      rw [if_neg q6]
set_option maxHeartbeats 4000000 in
theorem X10_feel_27_54 (hk : okC C) (hB : bnS s) (hρ : ρ.2.2.1 = 27) (hC : chX 27 I C) (hX : stX 54 I s) {a o : Nat} (ha : a < 12) (ho : o < 12) : ∃ I', X10_feel 48 54 (nI a) (nI o) (hp I L ρ) = some (some (.int (ci (p_feel C s a o))), hp I' L ρ) ∧ (∀ x, x ≠ 51 → x ≠ 40 → I' x = I x) ∧ ∀ k, k < 9 → I' 51 k = ci (p_fy C s a o k) := by
  have hcell : ∀ (F : Int32 → zM) (h : zH), z_ci (X11_cell (nI a) (nI o)) F h = F (nI (6 * a + o % 6)) h := fun F h => h_ci (X11_cell_h (by omega) (by omega))
  have hidx : 6 * a + o % 6 < 72 := by omega
  obtain ⟨⟨hsp, hrd⟩, -, -, hwa, hsi, hli, hkn⟩ := id hX
  have h1 : I 60 (6 * a + o % 6) = nI (s_kno s (6 * a + o % 6)) := hkn _ hidx
  have h2 : I 59 (6 * a + o % 6) = nI (s_lik s (6 * a + o % 6)) := hli _ hidx
  have h3 : I 30 o = nI (k_warm C o) := hC.2.2.1 _ ho
  have h4 : I 31 o = nI (k_work C o) := hC.2.2.2.1 _ ho
  have h5 : I 58 o = nI (s_siz s o) := hsi _ ho
  have h8 : I 57 a = nI (s_wai s a) := hwa _ ha
  obtain ⟨I1, e1, f1, g1⟩ : ∃ I1, X10_feel 48 54 (nI a) (nI o) (hp I L ρ) = (z_rc 3 36 (z_ci (X3_value 36 0 51) fun y31 => z_ci (X11_within y31 99) fun y32 => z_sa 20 51 6 y32 (z_gr 10 3 48 fun x33 => z_la 20 x33 6 fun x34 => z_ret (some (.int x34))))) (hp I1 L ρ) ∧ (∀ x, x ≠ 51 → I1 x = I x) ∧ ∀ k, k < 9 → k ≠ 6 → I1 51 k = ci (p_fx C s a o k) := by
    refine ⟨u2 (u2 (u2 (u2 (u2 (u2 (u2 (u2 I 51 0 (nI (s_kno s (6 * a + o % 6)))) 51 1 (nI (s_sp s))) 51 2 (nI (s_lik s (6 * a + o % 6)))) 51 3 (nI (k_warm C o))) 51 4 (nI (k_work C o))) 51 5 (nI (s_siz s o))) 51 7 (nI (s_rd s))) 51 8 (nI (s_wai s a)), ?_, fun x hx => ?_, fun k hk1 hk6 => ?_⟩
    · unfold X10_feel
      rw [gr_48_3, gr_54_7, hcell, la_60 hidx, h1, sal_0, sa_51 (by decide)]
      rw [gr_48_3, gi_54, u2r (show (54 : Nat) ≠ 51 by decide), hsp, sal_1, sa_51 (by decide)]
      rw [gr_48_3, gr_54_6, hcell, la_59 hidx, u2r (show (59 : Nat) ≠ 51 by decide), u2r (show (59 : Nat) ≠ 51 by decide), h2, sal_2, sa_51 (by decide)]
      rw [gr_48_3, gr_48_0, hρ, gr_27_2, la_30 ho, u2r (show (30 : Nat) ≠ 51 by decide), u2r (show (30 : Nat) ≠ 51 by decide), u2r (show (30 : Nat) ≠ 51 by decide), h3, sal_3, sa_51 (by decide)]
      rw [gr_48_3, gr_48_0, hρ, gr_27_3, la_31 ho, u2r (show (31 : Nat) ≠ 51 by decide), u2r (show (31 : Nat) ≠ 51 by decide), u2r (show (31 : Nat) ≠ 51 by decide), u2r (show (31 : Nat) ≠ 51 by decide), h4, sal_4, sa_51 (by decide)]
      rw [gr_48_3, gr_54_5, la_58 ho, u2r (show (58 : Nat) ≠ 51 by decide), u2r (show (58 : Nat) ≠ 51 by decide), u2r (show (58 : Nat) ≠ 51 by decide), u2r (show (58 : Nat) ≠ 51 by decide), u2r (show (58 : Nat) ≠ 51 by decide), h5, sal_5, sa_51 (by decide)]
      rw [gr_48_3, gi_54, u2r (show (54 : Nat) ≠ 51 by decide), u2r (show (54 : Nat) ≠ 51 by decide), u2r (show (54 : Nat) ≠ 51 by decide), u2r (show (54 : Nat) ≠ 51 by decide), u2r (show (54 : Nat) ≠ 51 by decide), u2r (show (54 : Nat) ≠ 51 by decide), hrd, sal_7, sa_51 (by decide)]
      rw [gr_48_3, gr_54_4, la_57 ha, u2r (show (57 : Nat) ≠ 51 by decide), u2r (show (57 : Nat) ≠ 51 by decide), u2r (show (57 : Nat) ≠ 51 by decide), u2r (show (57 : Nat) ≠ 51 by decide), u2r (show (57 : Nat) ≠ 51 by decide), u2r (show (57 : Nat) ≠ 51 by decide), u2r (show (57 : Nat) ≠ 51 by decide), h8, sal_8, sa_51 (by decide)]
      rw [gr_48_3, gr_48_0, hρ, gr_27_11, gr_48_3]
    · funext i
      simp only [u2_ap, hx, false_and, if_false]
    · have hk9 : k = 0 ∨ k = 1 ∨ k = 2 ∨ k = 3 ∨ k = 4 ∨ k = 5 ∨ k = 7 ∨ k = 8 := by omega
      rcases hk9 with rfl | rfl | rfl | rfl | rfl | rfl | rfl | rfl <;> simp [u2_ap, p_fx, ci_nat]
  have hC1 : chX 27 I1 C := chX_fr (fun a h1 h2 => f1 a (by omega)) hC
  obtain ⟨q, u, c1, c2, c3, c4, c5, c6⟩ := hC1.2.2.2.2.2.2 0 (by omega)
  have hb := e_val_in (p_fx_in hk hB ha ho) (hk.2.2.2.2.2.1 0 (by omega)).1
  obtain ⟨I2, e2, f2⟩ := X3_value_36 (L := L) (ρ := ρ) (x9 := 6) (p_fx_in hk hB ha ho) (fun k hk => p_fx9 a o hk) (show 0 < 3 by omega) c5 (by omega) (hk.2.2.2.2.2.1 0 (by omega)).1 c6 c1 c2 c3 c4 hk.2.2.2.2.2.2 (fun k h1 h2 => g1 k h1 h2)
  rw [e1, rc_36, h_ci (show X3_value 36 0 51 _ = _ from e2), h_ci (show X11_within _ 99 _ = _ from X11_within_h hb (m := 99) (by omega)), sal_6, sa_51 (by omega), gr_48_3, lal_6, la_51 (by omega), h_ret]
  refine ⟨u2 I2 51 6 (ci (p_feel C s a o)), ?_, fun x h1 h2 => ?_, fun k hk1 => ?_⟩
  · rw [u2_ap, if_pos ⟨rfl, rfl⟩]; rfl
  · funext i
    rw [u2_ap, if_neg (by omega), f2 x h2, f1 x h1]
  · rw [u2_ap]
    by_cases q6 : k = 6
    · rw [if_pos ⟨rfl, q6⟩, q6]; rfl
    · rw [if_neg (fun c => q6 c.2), f2 _ (by omega), g1 k hk1 q6]
      unfold p_fy
      rw [if_neg q6]
end B19
