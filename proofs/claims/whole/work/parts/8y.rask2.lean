/-! ask: both sides -/
section B8y
variable {I I0 : Nat → Nat → Int32} {L L0 : Nat → Nat → Int64} {ρ : zRh} {h : zH} {b : Nat → Nat} {n a x j k u w t p m side here : Nat} {r : rP} {S : nT} {A : aT} {N : Nat} {C : cT} {s : sT}
/-- what stands when a question has been read -/
def qM (I : Nat → Nat → Int32) (n v : Nat) (R : Sum (Nat × Nat) (Nat × List Nat)) : Prop := match R with
  | .inl e => unM I n e.1 e.2
  | .inr q => v = q.1 ∧ I 215 5 = 0 ∧ ∃ R : List Nat, cdR 3 R q.2 ∧ (∀ i, i < R.length → I 293 i = nI (R.getD i 0)) ∧ I 215 105 = nI R.length ∧ R.length ≤ 1600
theorem ask_93u {v : Nat} {k p : Nat} (hU : unM I n k p) : X12_ask_J93 215 (nI v) (hp I L ρ) = X12_ask_J117 215 (nI v) (hp I L ρ) := by
  unfold X12_ask_J93
  rw [gi_215, h_if, if_neg (unM_ne hU)]
theorem ask_93s {v : Nat} (hT : tQ I b n (.inr a)) : ∃ I', X12_ask_J93 215 (nI v) (hp I L ρ) = X12_ask_J117 215 (nI v) (hp I' L ρ) ∧ fxM I I' ∧ if n ≤ a then tQ I' b n (.inr a) else unM I' n 1 a := by
  have h5 : I 215 5 = 0 := by obtain ⟨x, -, -, h3⟩ := hT; exact h3
  have ha := (tQ_le hT).1
  obtain ⟨I1, b1, b2, b3, b4⟩ := tQ_look (L := L) (ρ := ρ) hT
  have hT1 := tQ_at b2 b3 (tQ_le hT).2
  have hby := byI_m1 (b := b) (n := n) (j := a) (tm_hb b2.1)
  unfold X12_ask_J93
  rw [gi_215, h_if, if_pos h5, rc_215, h_ci b1, h_if]
  by_cases c : n ≤ a
  · rw [if_pos (hby.mpr c)]
    exact ⟨I1, rfl, b4, by rw [if_pos c]; exact hT1⟩
  · rw [if_neg (fun q => c (hby.mp q)), gi_215, b2.2.2.1, rc_215]
    obtain ⟨I2, d1, d2, d3⟩ := tQ_fail (L := L) (ρ := ρ) (k := 1) (p := a) (by omega) (by omega) hT1
    have d2 : unM I2 n 1 a := d2
    rw [show X12_fail 215 1 (nI a) = X12_fail 215 (nI 1) (nI a) from rfl, h_cv d1]
    exact ⟨I2, rfl, fxM_trans b4 d3, by rw [if_neg c]; exact d2⟩
theorem ask_rd (hw : wdM I) (hT : tQ I b n (.inr a)) (h51 : I 215 51 = nI 3) (h105 : I 215 105 = 0) (h107 : I 215 107 = 0) (h108 : I 215 108 = 0) (h109 : I 215 109 = 0) : ∃ I' v, (z_rc 12 215 (z_ci (X12_qKind 215) fun y2 => z_gi 12 5 215 fun x3 => z_if (x3 = 0) (z_if (3 ≤ y2) (X12_ask_J82 215 y2) (z_rc 12 215 (z_cv (X12_qTest 215) (X12_ask_J93 215 y2)))) (X12_ask_J82 215 y2))) (hp I L ρ) = X12_ask_J117 215 (nI v) (hp I' L ρ) ∧ v < 6 ∧ qF I I' ∧ qM I' n v (q_rd b n a) := by
  have ha := (tQ_le hT).1
  obtain ⟨I1, v, a1, a2, a3, a4, a5⟩ := X12_qKind_h (L := L) (ρ := ρ) hw hT
  rw [rc_215, h_ci a1, gi_215, h_if]
  unfold qkR at a2
  unfold q_rd
  rcases tin : t_in b n a (wsK 15) 0 with _ | k
  · rw [tin] at a2
    have a2 : unM I1 n 1 a := a2
    refine ⟨I1, v, ?_, a4, qF_fx a3, a2⟩
    rw [if_neg (unM_ne a2)]
    unfold X12_ask_J82
    rw [gi_215, h_if, if_neg (unM_ne a2), ask_93u a2]
  · rw [tin] at a2 a5
    have hv := a5 k rfl
    subst hv
    have a2 : tQ I1 b n (.inr (sk b n (a + wl b n a))) := a2
    show ∃ I' v', _ ∧ _ ∧ _ ∧ qM I' n v' (q_en n v (q_pq b n a v))
    have hle := (tQ_le a2).1
    obtain ⟨x, t1, t2, h5⟩ := a2
    rw [if_pos h5]
    have f := fun (k : Nat) (h1 : 11 ≤ k) (h2 : k ≠ 39) => a3.2.1 k (by omega) (by omega) (by omega) (by omega) (by omega) h2
    have hS1 : qS I1 b n x [] 0 [] 0 := ⟨t1, h5, ⟨by rw [f 107 (by omega) (by omega)]; exact h107, trivial, fun v hv => by cases hv⟩, ⟨by rw [f 105 (by omega) (by omega)]; exact h105, trivial⟩, by rw [f 108 (by omega) (by omega)]; exact h108, by rw [f 109 (by omega) (by omega)]; exact h109, by show 0 + 0 ≤ 1600; omega, by omega⟩
    have h511 : I1 215 51 = nI 3 ∧ 3 < 4 := ⟨by rw [f 51 (by omega) (by omega)]; exact h51, by omega⟩
    have hw1 := wdM_f hw a3
    obtain ⟨m, hm⟩ : ∃ m : zM, m = if 2 < v then X12_qSums 215 else X12_qTest 215 := ⟨_, rfl⟩
    have all : (∀ e, q_pq b n a v = .inl e → ∃ I', m (hp I1 L ρ) = some (none, hp I' L ρ) ∧ qF I1 I' ∧ unM I' n e.1 e.2) ∧ ∀ q, q_pq b n a v = .inr q → ∃ I' y R, m (hp I1 L ρ) = some (none, hp I' L ρ) ∧ qF I1 I' ∧ cdR 3 R q.2 ∧ sk b n y = q.1 ∧ qS I' b n y [] 0 R 0 := by
      unfold q_pq
      by_cases c : 2 < v
      · rw [if_pos c] at hm ⊢
        have := X12_qSums_h (L := L) (ρ := ρ) (V := []) rfl hS1 hw1 h511 (Nat.zero_le _) (m := 60) (by decide)
        rw [t2, ← hm] at this
        refine ⟨fun e he => ?_, fun q hq => ?_⟩
        · obtain ⟨I', g1, g2, g3⟩ := this.1 e he
          exact ⟨I', g1, g2, g3.1⟩
        · obtain ⟨I', y, R, g1, g2, g3, g4, g5, -⟩ := this.2 q hq
          exact ⟨I', y, R, g1, g2, g3, g4, g5⟩
      · rw [if_neg c] at hm ⊢
        have := X12_qTest_h (L := L) (ρ := ρ) hS1 hw1 h511 (m := 60) (by decide)
        rw [t2, ← hm] at this
        exact this
    have run : (if 3 ≤ nI v then X12_ask_J82 215 (nI v) (hp I1 L ρ) else z_rc 12 215 (z_cv (X12_qTest 215) (X12_ask_J93 215 (nI v))) (hp I1 L ρ)) = (z_cv m (X12_ask_J93 215 (nI v))) (hp I1 L ρ) := by
      by_cases c : 2 < v
      · rw [if_pos (show (3 : Int32) ≤ nI v from (nI_le' (a := 3) (b := v) (by omega) (by omega)).mpr c), hm, if_pos c]
        unfold X12_ask_J82
        rw [gi_215, h_if, if_pos h5, rc_215]
      · rw [if_neg (show ¬ (3 : Int32) ≤ nI v from fun q => c ((nI_le' (a := 3) (b := v) (by omega) (by omega)).mp q)), hm, if_neg c, rc_215]
    rw [h_if, run]
    rcases qp : q_pq b n a v with e | q
    · obtain ⟨I2, g1, g2, g3⟩ := all.1 e qp
      exact ⟨I2, v, by rw [h_cv g1, ask_93u g3], a4, qF_tr (qF_fx a3) g2, g3⟩
    · obtain ⟨I2, y, R, g1, g2, g3, g4, g5⟩ := all.2 q qp
      have tq : tQ I2 b n (.inr q.1) := ⟨y, g5.1, g4, g5.2.1⟩
      obtain ⟨I3, d1, d2, d3⟩ := ask_93s (L := L) (ρ := ρ) (v := v) tq
      refine ⟨I3, v, by rw [h_cv g1, d1], a4, qF_tr (qF_fx a3) (qF_tr g2 (qF_fx d2)), ?_⟩
      show qM I3 n v (if n ≤ q.1 then .inr (v, q.2) else .inl (1, q.1))
      by_cases c : n ≤ q.1
      · rw [if_pos c] at d3 ⊢
        have h53 : I3 215 5 = 0 := by obtain ⟨x, -, -, h3⟩ := d3; exact h3
        have hV := g5.2.2
        exact ⟨rfl, h53, R, g3, fun i hi => by rw [d2.1 293 (by omega)]; exact stk_gt hV.2.1.2 i hi, by rw [d2.2.1 105 (by omega) (by omega) (by omega) (by omega) (by omega) (by omega)]; exact hV.2.1.1, by have := hV.2.2.2.2.1; show R.length ≤ 1600; omega⟩
      · rw [if_neg c] at d3 ⊢
        exact d3
theorem ask_M (hok : okA A) (hM : RelM I L A) : runM (X12_ask 215) I L ρ (aqV A (q_rd (t_b A) (a_n A) (sk (t_b A) (a_n A) 0))) (wF2 A (aqF (q_rd (t_b A) (a_n A) (sk (t_b A) (a_n A) 0)))) := by
  obtain ⟨J, hJ⟩ : ∃ J, J = u2 (u2 (u2 (u2 (u2 (u2 (u2 (u2 (u2 (u2 (u2 I 215 3 (nI (a_n A))) 215 1 0) 215 2 0) 215 4 (-1)) 215 5 0) 215 6 (-1)) 215 51 3) 215 105 0) 215 107 0) 215 108 0) 215 109 0 := ⟨_, rfl⟩
  have jr : ∀ c, c ≠ 215 → J c = I c := fun c hc => by rw [hJ, u2r hc, u2r hc, u2r hc, u2r hc, u2r hc, u2r hc, u2r hc, u2r hc, u2r hc, u2r hc, u2r hc]
  have jf : ∀ k, k ≠ 109 → k ≠ 108 → k ≠ 107 → k ≠ 105 → k ≠ 51 → k ≠ 6 → k ≠ 5 → k ≠ 4 → k ≠ 2 → k ≠ 1 → k ≠ 3 → J 215 k = I 215 k := fun k h1 h2 h3 h4 h5 h6 h7 h8 h9 h10 h11 => by
    rw [hJ, u2_ap, if_neg (by omega), u2_ap, if_neg (by omega), u2_ap, if_neg (by omega), u2_ap, if_neg (by omega), u2_ap, if_neg (by omega), u2_ap, if_neg (by omega), u2_ap, if_neg (by omega), u2_ap, if_neg (by omega), u2_ap, if_neg (by omega), u2_ap, if_neg (by omega), u2_ap, if_neg (by omega)]
  have g109 : J 215 109 = 0 := by rw [hJ]; simp [u2]
  have g108 : J 215 108 = 0 := by rw [hJ]; simp [u2]
  have g107 : J 215 107 = 0 := by rw [hJ]; simp [u2]
  have g105 : J 215 105 = 0 := by rw [hJ]; simp [u2]
  have g51 : J 215 51 = nI 3 := by rw [hJ]; simp [u2]; rfl
  have g6 : J 215 6 = -1 := by rw [hJ]; simp [u2]
  have g5 : J 215 5 = 0 := by rw [hJ]; simp [u2]
  have g4 : J 215 4 = -1 := by rw [hJ]; simp [u2]
  have g2 : J 215 2 = 0 := by rw [hJ]; simp [u2]
  have g1 : J 215 1 = 0 := by rw [hJ]; simp [u2]
  have g3 : J 215 3 = nI (a_n A) := by rw [hJ]; simp [u2]
  have hT := M_begin hok hM g3 g2 g4 g5 (jr 216 (by omega))
  have hw : wdM J := by
    intro q hq i hi
    have := wdL_at q hq
    rw [jr q.1 (by omega)]
    exact hM.2.2.2.2.2.2.2.2.2.2.2 q hq i hi
  obtain ⟨I1, v, r1, r2, r3, r4⟩ := ask_rd (L := L) (ρ := ρ) hw hT g51 g105 g107 g108 g109
  have run : X12_ask 215 (hp I L ρ) = X12_ask_J117 215 (nI v) (hp I1 L ρ) := by
    unfold X12_ask
    rw [gi_215, hM.2.2.1.1, pi_215, pi_215, pi_215, pi_215, pi_215, pi_215, pi_215, pi_215, pi_215, pi_215, pi_215, ← hJ]
    exact r1
  obtain ⟨K, hK⟩ : ∃ K, K = u2 (u2 I1 215 7 (I1 215 5)) 215 8 (I1 215 6) := ⟨_, rfl⟩
  have e17 : X12_ask_J117 215 (nI v) (hp I1 L ρ) = (z_if (I1 215 5 = 0) (z_if (2 ≤ nI v) (X12_ask_J157 215 (nI v) 0 215) (X12_ask_J157 215 (nI v) ((-1)) 215)) (z_ret (some (.long ((-1000000000000000)))))) (hp K L ρ) := by
    unfold X12_ask_J117
    rw [gi_215, pi_215, gi_215, u2_ap, if_neg (by omega), pi_215, gi_215, u2_ap, if_neg (by omega), u2_ap, if_neg (by omega), ← hK]
  have kr : ∀ c, c ≠ 215 → c ≠ 293 → c ≠ 294 → K c = I c := fun c h1 h2 h3 => by rw [hK, u2r h1, u2r h1, r3.1 c h1 h2 h3, jr c h1]
  have hRel : ∀ f : Int32 × Int32, I1 215 5 = f.1 → I1 215 6 = f.2 → RelM K L (wF2 A f) := by
    intro f h1 h2
    refine M_fl2 hM (fun c hc => ?_) (fun k hk q1 q2 q3 => ?_) ?_ (by rw [hK, u2_ap, if_neg (by omega), u2_ap, if_pos ⟨rfl, rfl⟩]; exact h1) (by rw [hK, u2_ap, if_pos ⟨rfl, rfl⟩]; exact h2)
    · unfold lastM at hc
      exact kr c (by omega) (by omega) (by omega)
    · unfold fieldM at hk
      rw [hK, u2_ap, if_neg (by omega), u2_ap, if_neg (by omega), r3.2.1 k (by omega) (by omega) (by omega) (by omega) (by omega) (by omega) (by omega), jf k (by omega) (by omega) (by omega) (by omega) (by omega) (by omega) (by omega) (by omega) (by omega) (by omega) (by omega)]
    · rw [hK, u2_ap, if_neg (by omega), u2_ap, if_neg (by omega), r3.2.1 1 (by omega) (by omega) (by omega) (by omega) (by omega) (by omega) (by omega), g1]
  rcases z : q_rd (t_b A) (a_n A) (sk (t_b A) (a_n A) 0) with e | q
  · rw [z] at r4
    have r4 : unM I1 (a_n A) e.1 e.2 := r4
    refine ⟨K, L, ?_, hRel (nI e.1, nI e.2) r4.1 r4.2.2.1, fun a ha => ⟨kr a (by omega) (by omega) (by omega), rfl⟩⟩
    rw [run, e17, h_if, if_neg (unM_ne r4)]; rfl
  · rw [z] at r4
    obtain ⟨w1, w2, R, w3, w4, w5, w6⟩ := r4
    have ho := q_rd_ok z
    have h6 : I1 215 6 = -1 := by rw [(r3.2.2 w2).2, g6]
    have hM1 := hRel (0, -1) w2 h6
    have hM2 : ∀ c : Int64, RelM (u2 K 215 113 1) (u2 L 215 112 c) (wF2 A (0, -1)) := fun c => RelM_L (RelM_fr (fun a ha => u2r (by unfold lastM at ha; omega)) (fun k hk => by unfold fieldM at hk; rw [u2_ap, if_neg (by omega)]) (fun _ _ => rfl) hM1) (by rw [u2_ap, if_neg (by omega)]) (u2r (by omega))
    have fin := fun (c : Int64) (hc : c = cl (q_an q.1 (q_vs (wF2 A (0, -1)) q.2) 0)) => ask_lp (ρ := ρ) (k := q.1) (okA_F2 (f := (0, -1)) hok) ho.2.1 rfl w3 w6 ho.1 (k_L (a_C A) + k_R (a_C A)) 0 zFU (u2 K 215 113 1) (u2 L 215 112 c) (Nat.zero_add _) (by have := hok.1.1; unfold zFU; omega) (hM2 c) (fun i hi => by rw [u2r (by omega), hK, u2r (by omega), u2r (by omega)]; exact w4 i hi) (by rw [u2_ap, if_neg (by omega), hK, u2_ap, if_neg (by omega), u2_ap, if_neg (by omega)]; exact w5) (by rw [u2_ap, if_pos ⟨rfl, rfl⟩]; exact hc) (by rw [u2_ap, if_pos ⟨rfl, rfl⟩]; rfl)
    have e0 : q_an q.1 (q_vs (wF2 A (0, -1)) q.2) 0 = if 1 < q.1 then 0 else -1 := rfl
    have key : ∀ c : Int64, c = cl (q_an q.1 (q_vs (wF2 A (0, -1)) q.2) 0) → runM (fun _ => X12_ask_J157 215 (nI v) c 215 (hp K L ρ)) I L ρ (aqV A (.inr q)) (wF2 A (0, -1)) := by
      intro c hc
      obtain ⟨I', L', d1, d2, d3⟩ := fin c hc
      refine ⟨I', L', ?_, d2, fun a ha => ⟨by rw [(d3 a ha).1, u2r (by omega), kr a (by omega) (by omega) (by omega)], by rw [(d3 a ha).2, u2r (by omega)]⟩⟩
      show X12_ask_J157 215 (nI v) c 215 (hp K L ρ) = _
      unfold X12_ask_J157
      rw [pl_215, pb1_215, w1]
      exact d1
    show runM (X12_ask 215) I L ρ (aqV A (.inr q)) (wF2 A (0, -1))
    have go : ∀ c : Int64, c = cl (q_an q.1 (q_vs (wF2 A (0, -1)) q.2) 0) → X12_ask 215 (hp I L ρ) = X12_ask_J157 215 (nI v) c 215 (hp K L ρ) → runM (X12_ask 215) I L ρ (aqV A (.inr q)) (wF2 A (0, -1)) := by
      intro c hc he
      obtain ⟨I', L', d1, d2, d3⟩ := key c hc
      exact ⟨I', L', he.trans d1, d2, d3⟩
    by_cases c : 1 < q.1
    · refine go 0 (by rw [e0, if_pos c]; rfl) ?_
      rw [run, e17, h_if, if_pos w2, h_if, if_pos (show (2 : Int32) ≤ nI v from (nI_le' (a := 2) (b := v) (by omega) (by omega)).mpr (by omega))]
    · refine go (-1) (by rw [e0, if_neg c]; rfl) ?_
      rw [run, e17, h_if, if_pos w2, h_if, if_neg (show ¬ (2 : Int32) ≤ nI v from fun q2 => by have := (nI_le' (a := 2) (b := v) (by omega) (by omega)).mp q2; omega)]
theorem ask_b (hok : okA A) : both (X11_ask 0) (X12_ask 215) A N := ⟨_, _, N, fun I L ρ hX => ask_X hok hX, fun I L ρ hM => ask_M hok hM, okA_F2 hok, by omega⟩
end B8y
