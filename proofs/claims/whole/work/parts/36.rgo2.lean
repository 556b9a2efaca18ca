/-! the reference: a round, whole; rounds -/
section B36
variable {I : Nat → Nat → Int32} {L : Nat → Nat → Int64} {ρ : zRh} {h : zH} {C : cT} {s : sT} {tr : Option Nat}
def goM (I I' : Nat → Nat → Int32) (L L' : Nat → Nat → Int64) : Prop := (∀ x, x ≠ 215 → x ≠ 255 → x ≠ 256 → x ≠ 257 → x ≠ 259 → x ≠ 260 → I' x = I x) ∧ (∀ k, k ≠ 51 → k ≠ 56 → k ≠ 57 → k ≠ 58 → k ≠ 59 → k ≠ 60 → k ≠ 63 → k ≠ 111 → I' 215 k = I 215 k) ∧ ∀ x, x ≠ 295 → L' x = L x
theorem goM_rf : goM I I L L := ⟨fun _ _ _ _ _ _ _ => rfl, fun _ _ _ _ _ _ _ _ _ => rfl, fun _ _ => rfl⟩
theorem goM_tr {I I1 I2 : Nat → Nat → Int32} {L L1 L2 : Nat → Nat → Int64} (h : goM I I1 L L1) (h2 : goM I1 I2 L1 L2) : goM I I2 L L2 := ⟨fun x a b c d e f => by rw [h2.1 x a b c d e f, h.1 x a b c d e f], fun k a b c d e f g i => by rw [h2.2.1 k a b c d e f g i, h.2.1 k a b c d e f g i], fun x hx => by rw [h2.2.2 x hx, h.2.2 x hx]⟩
theorem goM_ch {I I' : Nat → Nat → Int32} {L L' : Nat → Nat → Int64} (h : goM I I' L L') (hM : chM I C) : chM I' C := chM_fr (fun a ha => h.1 a (by omega) (by omega) (by omega) (by omega) (by omega) (by omega)) (h.2.1 53 (by omega) (by omega) (by omega) (by omega) (by omega) (by omega) (by omega) (by omega)) hM
/-- acting or thinking, with what is kept -/
def keM (I I' : Nat → Nat → Int32) (C : cT) (th : Bool) (K' : kT) : Prop := if th = true then ∀ j, 182 ≤ j → I' 255 j = I 255 j else kpM (I' 255) C K'
theorem p_wk_6 (hk : okC C) (hS : okS C s) : p_wk C s tr 6 = p_wed C s tr := congrArg s_wed (p_mid_6 (tr := tr) hk hS)
set_option maxHeartbeats 2000000 in
theorem X12_round_h (hk : okC C) (hS : okS C s) (ht : ∀ b, tr = some b → b < 12) (hM : chM I C) (hX : stM I C s) {th : Bool} (hth : I 215 64 = bI th) {n0 : Nat} (hn0 : I 215 63 = nI n0) {K : kT} (hK : th = false → kpM (I 255) C K) : ∃ I' L', X12_roundGoes 215 (oI tr) (hp I L ρ) = some (none, hp I' L' ρ) ∧ goM I I' L L' ∧ stM I' C (p_go C s tr) ∧ I' 215 63 = nI (n0 + (p_fresh C s tr 6).length) ∧ keM I I' C th (p_kept C s tr K 6) ∧ (∀ a, a < 12 → ¬ k_th C a → I' 255 (14 + a) = I 255 (14 + a)) := by
  obtain ⟨I1, e1, f1, g1⟩ := X12_lays_h (L := L) (ρ := ρ) hk hS hM hX
  have hM1 : chM I1 C := chM_fr (fun a ha => f1 a (by omega) (by omega)) (by rw [f1 215 (by omega) (by omega)]) hM
  have hX1 : stM I1 C s := stM_fr (f1 255 (by omega) (by omega)) (by rw [f1 215 (by omega) (by omega)]) (by rw [f1 215 (by omega) (by omega)]) (f1 248 (by omega) (by omega)) hX
  obtain ⟨I2, L2, e2, f2, g2⟩ := X12_let_lp (ρ := ρ) hk hS ht 12 0 I1 L zFU (by omega) (by unfold zFU; omega) hM1 hX1 g1 (fun a b h => by omega)
  have hM2 := frR_ch f2 hM1
  have h255 : I2 255 = I 255 := by rw [f2.1 255 (by omega) (by omega) (by omega), f1 255 (by omega) (by omega)]
  have h215 : ∀ k, k ≠ 51 → k ≠ 56 → k ≠ 57 → k ≠ 58 → k ≠ 59 → k ≠ 60 → k ≠ 111 → I2 215 k = I 215 k := fun k a b c d e f g => by rw [f2.2.1 k a b c d e f g, f1 215 (by omega) (by omega)]
  obtain ⟨I3, e3, f3, f3', g3⟩ := X12_wed_lp (L := L2) (ρ := ρ) (tr := tr) hk hS (th := th) (K := K) (n0 := n0) (f0 := I 255) hX.1 6 0 I2 zFU (by omega) (by unfold zFU; omega) hM2 (fun j hj => by rw [f2.1 256 (by omega) (by omega) (by omega)]; exact g1 j hj) g2 (by rw [h215 64 (by omega) (by omega) (by omega) (by omega) (by omega) (by omega) (by omega)]; exact hth) ⟨fun a ha => by rw [h255, (hX.2.2 a ha).1]; unfold p_wk; rw [p_done_0, if_neg (by simp)], fun j _ _ => by rw [h255], by rw [h215 63 (by omega) (by omega) (by omega) (by omega) (by omega) (by omega) (by omega), hn0]; rfl, by
    cases th with
    | true => intro j hj; rw [h255]
    | false => show kpM (I2 255) C K; rw [h255]; exact hK rfl⟩
  obtain ⟨w1, w2, w3, w4⟩ := g3
  rw [p_wk_6 hk hS] at w1
  obtain ⟨I4, e4, f4, f4', g4⟩ := X12_know_lp (L := L2) (ρ := ρ) (tr := tr) hk hS 12 0 I3 zFU (by omega) (by unfold zFU; omega) (fun j hj => by rw [f3 256 (by omega) (by omega), f2.1 256 (by omega) (by omega) (by omega)]; exact g1 j hj) (fun a b h1 h2 => by rw [f3 259 (by omega) (by omega), f3 260 (by omega) (by omega)]; exact g2 a b h1 h2) (fun a ha i hi => by
    have := k_th_lt hk ha
    rw [w2 _ (by omega) (by omega), ((hX.2.2 a ha).2.2.1 i hi).2, if_neg (by omega)])
  have hM4 : chM I4 C := chM_fr (fun a ha => by rw [f4 a (by omega), f3 a (by omega) (by omega)]) (by rw [f4 215 (by omega), f3' 53 (by omega)]) hM2
  have hnot : ∀ a, a < 12 → ¬ k_th C a → I4 255 (14 + a) = I 255 (14 + a) := fun a ha hn => by rw [f4' _ (by omega), w2 _ (by omega) (Or.inr (Or.inr (by rw [Nat.add_sub_cancel_left]; exact hn)))]
  have hlow : ∀ j, j < 14 ∨ (26 ≤ j ∧ j < 110) → I4 255 j = I 255 j := fun j hj => by rw [f4' j (by omega), w2 j (by omega) (by omega)]
  have hwed : ∀ a, k_th C a → I4 255 (14 + a) = oI (p_wed C s tr a) := fun a ha => by
    have := k_th_lt hk ha
    rw [f4' _ (by omega)]
    exact w1 a ha
  have hkeep : ∀ (I5 : Nat → Nat → Int32), (∀ j, 182 ≤ j → I5 255 j = I4 255 j) → keM I I5 C th (p_kept C s tr K 6) := by
    intro I5 h5
    unfold keM
    cases th with
    | true =>
      intro j hj
      rw [h5 j hj, f4' j (by omega)]
      exact w4 j hj
    | false =>
      have w5 : kpM (I3 255) C (p_kept C s tr K 6) := w4
      obtain ⟨k1, k2, k3⟩ := w5
      refine ⟨by rw [h5 182 (by omega), f4' 182 (by omega)]; exact k1, k2, fun i q hq => ?_⟩
      rw [h5 _ (by omega), h5 _ (by omega), h5 _ (by omega), h5 _ (by omega), f4' _ (by omega), f4' _ (by omega), f4' _ (by omega), f4' _ (by omega)]
      exact k3 i q hq
  have hfr4 : goM I I4 L L2 := ⟨fun x a b c d e f => by rw [f4 x b, f3 x a b, f2.1 x a e f, f1 x c d], fun k a b c d e f g i => by rw [f4 215 (by omega), f3' k g, h215 k a b c d e f i], f2.2.2⟩
  have h63 : I4 215 63 = nI (n0 + (p_fresh C s tr 6).length) := by rw [f4 215 (by omega)]; exact w3
  have hsz : ∀ (I5 : Nat → Nat → Int32), I5 215 = I4 215 → I5 248 = I4 248 → ∀ a, k_th C a → (if I5 215 54 = nI (k_num C a) then I5 215 55 else I5 248 (36 + 3 * a + 2)) = nI (s_siz s a) := by
    intro I5 h1 h2 a ha
    rw [h1, h2, hfr4.2.1 54 (by omega) (by omega) (by omega) (by omega) (by omega) (by omega) (by omega) (by omega), hfr4.2.1 55 (by omega) (by omega) (by omega) (by omega) (by omega) (by omega) (by omega) (by omega), hfr4.1 248 (by omega) (by omega) (by omega) (by omega) (by omega) (by omega)]
    exact (hX.2.2 a ha).2.2.2
  have hrd := hS.1.2
  have hrt := hk.2.1
  have e5 : X12_roundGoes 215 (oI tr) (hp I L ρ) = X12_roundGoes_J143 215 (hp I4 L2 ρ) := by
    unfold X12_roundGoes
    rw [rc_215, h_cv e1]
    refine e2.trans ?_
    unfold X12_roundGoes_J78
    refine e3.trans ?_
    unfold X12_roundGoes_J97
    exact e4
  rw [e5]
  unfold X12_roundGoes_J143
  rw [gr_215_52, lal_1, la_255 (by decide), hlow 1 (by omega), hX.1.2, sal_1, sa_255 (by decide), gr_215_52, lal_1, la_255 (by decide), u2_ap, if_pos ⟨rfl, rfl⟩, nI_1]
  have hM5 : chM (u2 I4 255 1 (nI (s_rd s + 1))) C := chM_fr (fun x hx => u2r (by omega)) (by rw [u2r (by omega)]) hM4
  rw [rc_215, h_ci (X12_roundMany_h hM5), h_if]
  simp only [nI_le' (show k_rt C < 2147483648 by omega) (show s_rd s + 1 < 2147483648 by omega)]
  have eg : p_go C s tr = p_time C (s.1, s_ord s, p_wed C s tr, s_wai s, s_siz s, s_lik s, p_kno C s) := rfl
  by_cases c : k_rt C ≤ s_rd s + 1
  · rw [if_pos c, gr_215_52, sal_1, sa_255 (by decide), gr_215_52, lal_0, la_255 (by decide), u2_ap, if_neg (by omega), u2_ap, if_neg (by omega), hlow 0 (by omega), hX.1.1, nI_1, sal_0, sa_255 (by decide)]
    generalize hI6 : u2 (u2 (u2 I4 255 1 (nI (s_rd s + 1))) 255 1 0) 255 0 (nI (s_sp s + 1)) = I6
    have d1 : ∀ x, x ≠ 255 → I6 x = I4 x := fun x hx => by rw [← hI6, u2r hx, u2r hx, u2r hx]
    have d2 : ∀ j, 2 ≤ j → I6 255 j = I4 255 j := fun j hj => by rw [← hI6, u2_ap, if_neg (by omega), u2_ap, if_neg (by omega), u2_ap, if_neg (by omega)]
    have d3 : I6 255 0 = nI (s_sp s + 1) := by rw [← hI6, u2_ap, if_pos ⟨rfl, rfl⟩]
    have d4 : I6 255 1 = nI 0 := by rw [← hI6, u2_ap, if_neg (by omega), u2_ap, if_pos ⟨rfl, rfl⟩]; rfl
    have hB := okS_bn hk hS
    obtain ⟨I7, e7, f7, f7', g7⟩ := X12_wai_lp (L := L2) (ρ := ρ) hk (s := (s.1, s_ord s, p_wed C s tr, s_wai s, s_siz s, s_lik s, p_kno C s)) ⟨hB.1, hB.2.1, fun j hj => ⟨(hB.2.2 j hj).1, p_kno_le hB hj⟩⟩ (fun a c h => k_th_lt hk (p_wed_ok hk hS h).2.1) (k_L C + k_R C) 0 I6 zFU (by omega) (by have := hk.1; unfold zFU; omega) (chM_fr (fun x hx => d1 x (by omega)) (by rw [d1 215 (by omega)]) hM4) (fun a ha => by rw [d2 _ (by omega)]; exact hwed a ha) (fun a ha => by
      have := k_th_lt hk ha
      rw [d2 _ (by omega), hlow _ (by omega), if_neg (by omega)]
      exact (hX.2.2 a ha).2.1)
    refine ⟨I7, L2, e7, ⟨fun x a b c d e f => by rw [f7 x b, d1 x b]; exact hfr4.1 x a b c d e f, fun k a b c d e f g i => by rw [f7 215 (by omega), d1 215 (by omega)]; exact hfr4.2.1 k a b c d e f g i, hfr4.2.2⟩, ⟨⟨?_, ?_⟩, ?_, fun a ha => ⟨?_, ?_, fun i hi => ⟨?_, ?_⟩, ?_⟩⟩, ?_, hkeep I7 (fun j hj => by rw [f7' j (by omega), d2 j (by omega)]), fun a ha hn => by rw [f7' _ (by omega), d2 _ (by omega)]; exact hnot a ha hn⟩
    · rw [f7' 0 (by omega), d3, eg]
      unfold p_time
      rw [if_neg (show ¬ s_rd (s.1, s_ord s, p_wed C s tr, s_wai s, s_siz s, s_lik s, p_kno C s) + 1 < k_rt C from (show ¬ s_rd s + 1 < k_rt C by omega))]
      rfl
    · rw [f7' 1 (by omega), d4, eg]
      unfold p_time
      rw [if_neg (show ¬ s_rd (s.1, s_ord s, p_wed C s tr, s_wai s, s_siz s, s_lik s, p_kno C s) + 1 < k_rt C from (show ¬ s_rd s + 1 < k_rt C by omega))]
      rfl
    · intro side k h1 h2
      have := k_n_le hk side
      rw [p_go_ord, f7' _ (by omega), d2 _ (by omega), hlow _ (by omega)]
      exact hX.2.1 side k h1 h2
    · have := k_th_lt hk ha
      rw [p_go_wed, f7' _ (by omega), d2 _ (by omega)]
      exact hwed a ha
    · rw [g7 a ha, eg]
      unfold p_time
      rw [if_neg (show ¬ s_rd (s.1, s_ord s, p_wed C s tr, s_wai s, s_siz s, s_lik s, p_kno C s) + 1 < k_rt C from (show ¬ s_rd s + 1 < k_rt C by omega))]
      show _ = nI (if k_th C a ∧ p_wed C s tr a = none then (if 99 < s_wai s a + 1 then 99 else s_wai s a + 1) else s_wai s a)
      have e : (k_th C a ∧ p_wed C s tr a = none) ↔ p_wed C s tr a = none := ⟨fun h => h.2, fun h => ⟨ha, h⟩⟩
      simp only [e]
      rfl
    · have := k_th_lt hk ha
      rw [p_go_lik, f7' _ (by omega), d2 _ (by omega), hlow _ (by omega)]
      exact ((hX.2.2 a ha).2.2.1 i hi).1
    · rw [p_go_kno, f7' _ (by omega), d2 _ (by omega)]
      exact g4 a ha i hi
    · rw [p_go_siz]
      exact hsz I7 (by rw [f7 215 (by omega), d1 215 (by omega)]) (by rw [f7 248 (by omega), d1 248 (by omega)]) a ha
    · rw [f7 215 (by omega), d1 215 (by omega)]
      exact h63
  · rw [if_neg c, h_ret]
    refine ⟨_, L2, rfl, ⟨fun x a b c d e f => by rw [u2r b]; exact hfr4.1 x a b c d e f, fun k a b c d e f g i => by rw [u2r (show 215 ≠ 255 by omega)]; exact hfr4.2.1 k a b c d e f g i, hfr4.2.2⟩, ⟨⟨?_, ?_⟩, ?_, fun a ha => ⟨?_, ?_, fun i hi => ⟨?_, ?_⟩, ?_⟩⟩, ?_, hkeep _ (fun j hj => by rw [u2_ap, if_neg (by omega)]), fun a ha hn => by rw [u2_ap, if_neg (by omega)]; exact hnot a ha hn⟩
    · rw [u2_ap, if_neg (by omega), hlow 0 (by omega), hX.1.1, eg]
      unfold p_time
      rw [if_pos (show s_rd (s.1, s_ord s, p_wed C s tr, s_wai s, s_siz s, s_lik s, p_kno C s) + 1 < k_rt C from (show s_rd s + 1 < k_rt C by omega))]
      rfl
    · rw [u2_ap, if_pos ⟨rfl, rfl⟩, eg]
      unfold p_time
      rw [if_pos (show s_rd (s.1, s_ord s, p_wed C s tr, s_wai s, s_siz s, s_lik s, p_kno C s) + 1 < k_rt C from (show s_rd s + 1 < k_rt C by omega))]
      rfl
    · intro side k h1 h2
      have := k_n_le hk side
      rw [p_go_ord, u2_ap, if_neg (by omega), hlow _ (by omega)]
      exact hX.2.1 side k h1 h2
    · rw [p_go_wed, u2_ap, if_neg (by omega)]
      exact hwed a ha
    · have := k_th_lt hk ha
      rw [u2_ap, if_neg (by omega), hlow _ (by omega), eg]
      unfold p_time
      rw [if_pos (show s_rd (s.1, s_ord s, p_wed C s tr, s_wai s, s_siz s, s_lik s, p_kno C s) + 1 < k_rt C from (show s_rd s + 1 < k_rt C by omega))]
      exact (hX.2.2 a ha).2.1
    · have := k_th_lt hk ha
      rw [p_go_lik, u2_ap, if_neg (by omega), hlow _ (by omega)]
      exact ((hX.2.2 a ha).2.2.1 i hi).1
    · rw [p_go_kno, u2_ap, if_neg (by omega)]
      exact g4 a ha i hi
    · rw [p_go_siz]
      exact hsz _ (by rw [u2r (by omega)]) (by rw [u2r (by omega)]) a ha
    · rw [u2r (by omega)]
      exact h63
end B36
