/-! church: the class's side -/
section B8d
variable {I I0 : Nat → Nat → Int32} {L L0 : Nat → Nat → Int64} {ρ : zRh} {h : zH} {b : Nat → Nat} {n a x j k ch side here u w : Nat} {r : rP} {S : nT} {A : aT} {N : Nat}
theorem chX_n (hK : kX ch I S) (hC : kC ch I (n_dn S) u) (hu : u ≤ 1616) : chX ch I (n_C S) := by
  obtain ⟨h1, h2, h3, h4, h5⟩ := hK
  refine ⟨⟨h1 0 (by omega), h1 1 (by omega)⟩, ⟨h5.2.1, h5.2.2⟩, fun j hj => (h3 j hj).1, fun j hj => (h3 j hj).2.1, fun j hj => (h3 j hj).2.2, fun j hj => (h4 j hj).1, fun w hw => ?_⟩
  have h := hC.2 w hw
  have e : k_code (n_C S) w = (n_cd S w).getD (p_dflt w) := n_C_code hw
  rw [n_dn_cd hw, ← e] at h
  obtain ⟨q, q1, q2, q3, q4⟩ := h
  exact ⟨q, u, q1, q2, hC.1, q3, hu, q4⟩
/-- the tape, the fault, as church leaves them -/
def dnX (A : aT) (R : Sum (Nat × Nat) (Nat × nT)) : aT := match R with
  | .inl e => rfA (wFl A e) 1
  | .inr q => wChu A q.2
def dnV (R : Sum (Nat × Nat) (Nat × nT)) : Value := match R with
  | .inl _ => .int (-1)
  | .inr q => .int (nI q.1)
theorem church_X (hok : okA A) (hX : RelX I L ρ A N) : ∃ wm wk sz, (∀ j, j < 12 → wm j ≤ 9 ∧ wk j ≤ 9 ∧ sz j ≤ 9) ∧ runX (X11_church 0) I L ρ (dnV (s_lp (t_b A) (a_n A) 62 0 (sk (t_b A) (a_n A) 0) (n_0 wm wk sz))) (dnX A (s_lp (t_b A) (a_n A) 62 0 (sk (t_b A) (a_n A) 0) (n_0 wm wk sz))) N := by
  obtain ⟨c, c', hcc, hcur⟩ : ∃ c c', ((c = 13 ∧ c' = 27) ∨ (c = 27 ∧ c' = 13)) ∧ curX c c' I ρ A := by
    rcases hX.1 with q | q
    · exact ⟨13, 27, Or.inl ⟨rfl, rfl⟩, q⟩
    · exact ⟨27, 13, Or.inr ⟨rfl, rfl⟩, q⟩
  have hc : chk c' := by unfold chk; omega
  have hn := hok.2.1.1
  obtain ⟨e1, e2⟩ := X_take hX
  obtain ⟨⟨hρ1, hρ2, hρ3⟩, hch, hkn, hsp⟩ := hcur
  have hsp2 : ∀ j, ∃ q : Nat × Nat × Nat, j < 12 → (q.1 ≤ 9 ∧ q.2.1 ≤ 9 ∧ q.2.2 ≤ 9) ∧ I (c' + 3) j = nI q.1 ∧ I (c' + 4) j = nI q.2.1 ∧ I (c' + 5) j = nI q.2.2 := fun j => by
    by_cases z : j < 12
    · obtain ⟨x, y, w, q⟩ := hsp j z
      exact ⟨(x, y, w), fun _ => q⟩
    · exact ⟨(0, 0, 0), fun y => absurd y z⟩
  obtain ⟨q, hq⟩ := Classical.axiomOfChoice hsp2
  refine ⟨fun j => (q j).1, fun j => (q j).2.1, fun j => (q j).2.2, fun j hj => (hq j hj).1, ?_⟩
  obtain ⟨J, hJ⟩ : ∃ J, J = u2 (u2 (u2 (u2 (u2 I 0 1 0) 2 1 (nI (a_n A))) 2 2 0) 2 3 0) 2 4 (-1) := ⟨_, rfl⟩
  have jr : ∀ x, x ≠ 0 → x ≠ 2 → J x = I x := fun x q1 q2 => by rw [hJ, u2r q2, u2r q2, u2r q2, u2r q2, u2r q1]
  have j0 : ∀ k, k ≠ 1 → J 0 k = I 0 k := fun k hk => by rw [hJ, u2r (by omega), u2r (by omega), u2r (by omega), u2r (by omega), u2_ap, if_neg (by omega)]
  have j01 : J 0 1 = 0 := by rw [hJ, u2r (by omega), u2r (by omega), u2r (by omega), u2r (by omega), u2_ap, if_pos ⟨rfl, rfl⟩]
  have j21 : J 2 1 = nI (a_n A) := by rw [hJ, u2_ap, if_neg (by omega), u2_ap, if_neg (by omega), u2_ap, if_neg (by omega), u2_ap, if_pos ⟨rfl, rfl⟩]
  have j22 : J 2 2 = 0 := by rw [hJ, u2_ap, if_neg (by omega), u2_ap, if_neg (by omega), u2_ap, if_pos ⟨rfl, rfl⟩]
  have j23 : J 2 3 = 0 := by rw [hJ, u2_ap, if_neg (by omega), u2_ap, if_pos ⟨rfl, rfl⟩]
  have j24 : J 2 4 = -1 := by rw [hJ, u2_ap, if_pos ⟨rfl, rfl⟩]
  have hT : txX J (t_b A) (a_n A) := ⟨j21, hn, fun i hi => ⟨(t_b_h hok hi).1, by rw [jr 1 (by omega) (by omega), hX.2.1.2 i hi]; exact (t_b_h hok hi).2⟩⟩
  obtain ⟨I1, ρ1, v, r1, r2, r3, r4⟩ := X2_read_h (L := L) (ρ := ρ) hc hT j22 j23 j24 (fun j hj => (hq j hj).1) (fun j hj => by rw [jr _ (by omega) (by omega), jr _ (by omega) (by omega), jr _ (by omega) (by omega)]; exact (hq j hj).2)
  have eO : X9_open 2 (nI (a_n A)) (hp (u2 I 0 1 0) L ρ) = some (none, hp J L ρ) := by
    unfold X9_open
    rw [pi_2, pi_2, pi_2, pi_2, hJ]; rfl
  -- up to the fault
  have run : X11_church 0 (hp I L ρ) = (z_if (I1 2 3 = 0) (z_gr 11 5 0 fun x7 => z_gr 11 6 0 fun x8 => z_pr 11 5 0 x8 (z_pr 11 6 0 x7 (z_gr 11 8 0 fun x9 => z_gr 11 5 0 fun x10 => z_pr 10 0 x9 x10 (z_gr 11 7 0 fun x11 => z_gr 11 5 0 fun x12 => z_rc 8 x11 (z_cv (X8_begin x11 x12) (z_gr 11 11 0 fun x13 => z_rc 6 x13 (z_cv (X6_forget x13) (z_pi 11 13 0 0 (z_ret (some (.int v))))))))))) (z_rc 11 0 (z_ci (X11_refuse 0 1) fun y14 => z_ret (some (.int y14))))) (hp (u2 (u2 I1 0 17 (I1 2 3)) 0 18 (I1 2 4)) L ρ1) := by
    have eF : X11_takeFault 0 (hp I1 L ρ1) = some (none, hp (u2 (u2 I1 0 17 (I1 2 3)) 0 18 (I1 2 4)) L ρ1) := by
      unfold X11_takeFault
      rw [gr_0_2, gi_2, pi_0, gr_0_2, gi_2, pi_0, u2r (by omega)]; rfl
    unfold X11_church
    rw [gr_0_2, rc_0, h_ci e1, rc_2, h_cv eO, gr_0_4, gr_0_6, rc_11, hρ2, h_ci r1, rc_0, h_cv eF, gi_0, u2_ap, if_neg (by omega), u2_ap, if_pos ⟨rfl, rfl⟩]
  have hr : ∀ x, x ≠ 0 → x ≠ 2 → x ≠ 10 → x ≠ 12 → (x < c' ∨ c' + 12 < x) → I1 x = I x := fun x q1 q2 q3 q4 q5 => by rw [r3.1 x q2 q3 q4 q5, jr x q1 q2]
  have h0 : ∀ k, I1 0 k = J 0 k := fun k => by rw [r3.1 0 (by omega) (by omega) (by omega) (by omega)]
  have hcx : ∀ x, (13 ≤ x ∧ x ≤ 25) ∨ (27 ≤ x ∧ x ≤ 39) → (x < c' ∨ c' + 12 < x) → I1 x = I x := fun x q1 q2 => hr x (by omega) (by omega) (by omega) (by omega) q2
  obtain ⟨-, -, hS41, hpa, hV, hO, hR, -, hD⟩ := hX
  rcases z : s_lp (t_b A) (a_n A) 62 0 (sk (t_b A) (a_n A) 0) (n_0 (fun j => (q j).1) (fun j => (q j).2.1) (fun j => (q j).2.2)) with e | q1
  · rw [z] at r4
    obtain ⟨k1, k2, k3, k4⟩ := r4
    have hX1 : RelX (u2 (u2 I1 0 17 (I1 2 3)) 0 18 (I1 2 4)) L ρ1 (wFl A e) N := by
      have f : ∀ x, x ≠ 0 → u2 (u2 I1 0 17 (I1 2 3)) 0 18 (I1 2 4) x = I1 x := fun x hx => by rw [u2r hx, u2r hx]
      have f0 : ∀ k, k ≠ 17 → k ≠ 18 → k ≠ 1 → u2 (u2 I1 0 17 (I1 2 3)) 0 18 (I1 2 4) 0 k = I 0 k := fun k a1 a2 a3 => by rw [u2_ap, if_neg (by omega), u2_ap, if_neg (by omega), h0, j0 k a3]
      refine ⟨?_, ⟨?_, fun i hi => absurd hi (Nat.not_lt_zero i)⟩, stX_fr (fun a x y => by rw [f a (by omega), hr a (by omega) (by omega) (by omega) (by omega) (by omega)]) hS41, pa_fr (fun a x y => by rw [f a (by omega), hr a (by omega) (by omega) (by omega) (by omega) (by omega)]) (Nat.le_refl _) hpa, ?_, ?_, fun i hi => ?_, ⟨?_, ?_⟩, hD⟩
      · have cur : curX c c' (u2 (u2 I1 0 17 (I1 2 3)) 0 18 (I1 2 4)) ρ1 (wFl A e) := by
          refine ⟨⟨by rw [r2.1, hρ1], by rw [r2.2.1, hρ2], by rw [r2.2.2, hρ3]⟩, chX_fr (fun a q1 q2 => by rw [f a (by omega), hcx a (by omega) (by omega)]) hch, ?_, spX_fr (f _ (by omega)) (f _ (by omega)) (f _ (by omega)) k4⟩
          rw [f c (by omega), f (c + 2) (by omega), hcx c (by omega) (by omega), hcx (c + 2) (by omega) (by omega)]
          exact hkn
        rcases hcc with ⟨rfl, rfl⟩ | ⟨rfl, rfl⟩
        · exact Or.inl cur
        · exact Or.inr cur
      · rw [u2_ap, if_neg (by omega), u2_ap, if_neg (by omega), h0, j01]; rfl
      · rw [f0 13 (by omega) (by omega) (by omega), f 212 (by omega), hr 212 (by omega) (by omega) (by omega) (by omega) (by omega)]; exact hV
      · rw [f0 15 (by omega) (by omega) (by omega), f 213 (by omega), hr 213 (by omega) (by omega) (by omega) (by omega) (by omega)]; exact hO
      · rw [f 214 (by omega), hr 214 (by omega) (by omega) (by omega) (by omega) (by omega)]; exact hR i hi
      · rw [u2_ap, if_neg (by omega), u2_ap, if_pos ⟨rfl, rfl⟩]; exact k1
      · rw [u2_ap, if_pos ⟨rfl, rfl⟩]; exact k3
    refine ⟨_, L, ρ1, ?_, X11_refuse_A hX1 (j := 1) (by omega), fun a ha => ⟨by rw [u2r (by omega), u2r (by omega), u2r (by omega), hr a (by omega) (by omega) (by omega) (by omega) (by omega)], rfl⟩⟩
    rw [run, h_if, if_neg (by rw [k1]; exact nI_n0 k2), rc_0, h_ci (show X11_refuse 0 1 _ = _ from X11_refuse_h (j := 1) (by omega))]; rfl
  · rw [z] at r4
    obtain ⟨k1, k2, k3, k4, k5, k6, k7, u, k8, k9⟩ := r4
    obtain ⟨J1, hJ1⟩ : ∃ J1, J1 = u2 (u2 I1 0 17 (I1 2 3)) 0 18 (I1 2 4) := ⟨_, rfl⟩
    have f : ∀ x, x ≠ 0 → J1 x = I1 x := fun x hx => by rw [hJ1, u2r hx, u2r hx]
    have f0 : ∀ k, k ≠ 17 → k ≠ 18 → k ≠ 1 → J1 0 k = I 0 k := fun k a1 a2 a3 => by rw [hJ1, u2_ap, if_neg (by omega), u2_ap, if_neg (by omega), h0, j0 k a3]
    have hK1 : kX c' J1 q1.2 := kX_fr (fun x a1 a2 => f x (by omega)) k7
    have hC1 : kC c' J1 (n_dn q1.2) u := kC_fr (fun x a1 a2 => f x (by omega)) k8
    obtain ⟨I3, b1, b2, b3⟩ := X8_begin_h (L := L) (ρ := (c', c, c', ρ1.2.2.2)) hc hK1
    obtain ⟨K, hK⟩ : ∃ K, K = u2 (u2 (u2 I3 68 0 0) 68 5 0) 0 13 0 := ⟨_, rfl⟩
    have g : ∀ x, x ≠ 0 → x ≠ 68 → (x < 41 ∨ 47 < x) → K x = I1 x := fun x a1 a2 a3 => by rw [hK, u2r a1, u2r a2, u2r a2, b3 x a3, f x a1]
    have g0 : ∀ k, k ≠ 13 → k ≠ 17 → k ≠ 18 → k ≠ 1 → K 0 k = I 0 k := fun k a1 a2 a3 a4 => by rw [hK, u2_ap, if_neg (by omega), u2r (by omega), u2r (by omega), b3 0 (by omega), f0 k a2 a3 a4]
    have gr : ∀ x, x ≠ 0 → x ≠ 2 → x ≠ 10 → x ≠ 12 → x ≠ 68 → (x < 41 ∨ 47 < x) → (x < c' ∨ c' + 12 < x) → K x = I x := fun x a1 a2 a3 a4 a5 a6 a7 => by rw [g x a1 a5 a6, hr x a1 a2 a3 a4 a7]
    have hg : ∀ x, 13 ≤ x → x ≤ 39 → K x = J1 x := fun x a1 a2 => by rw [g x (by omega) (by omega) (by omega), f x (by omega)]
    have hK2 : kX c' K q1.2 := kX_fr (fun x a1 a2 => hg x (by omega) (by omega)) hK1
    have hC2 : kC c' K (n_dn q1.2) u := kC_fr (fun x a1 a2 => hg x (by omega) (by omega)) hC1
    have hcur2 : curX c' c K (c', c, c', ρ1.2.2.2) (wChu A q1.2) := by
      refine ⟨⟨rfl, rfl, rfl⟩, chX_n hK2 hC2 (by omega), ⟨hK2.2.2.2.2.1, fun a k ha hk => hK2.2.1 a ha k hk⟩, fun j hj => ?_⟩
      have o := hok.1.2.2.2.1 j hj
      rw [gr _ (by omega) (by omega) (by omega) (by omega) (by omega) (by omega) (by omega), gr _ (by omega) (by omega) (by omega) (by omega) (by omega) (by omega) (by omega), gr _ (by omega) (by omega) (by omega) (by omega) (by omega) (by omega) (by omega)]
      exact ⟨_, _, _, o, hch.2.2.1 j hj, hch.2.2.2.1 j hj, hch.2.2.2.2.1 j hj⟩
    refine ⟨K, L, (c', c, c', ρ1.2.2.2), ?_, ⟨?_, ⟨?_, fun i hi => absurd hi (Nat.not_lt_zero i)⟩, stX_fr (fun a x y => by rw [hK, u2r (by omega), u2r (by omega), u2r (by omega)]) b2, ?_, ⟨?_, fun i q hq => (by cases hq)⟩, ?_, fun i hi => ?_, ⟨?_, ?_⟩, hD⟩, fun a ha => ⟨gr a (by omega) (by omega) (by omega) (by omega) (by omega) (by omega) (by omega), rfl⟩⟩
    · have e5 : ρ1.1 = c := by rw [r2.1, hρ1]
      have e6 : ρ1.2.1 = c' := by rw [r2.2.1, hρ2]
      have eg : X6_forget 68 (hp I3 L (c', c, c', ρ1.2.2.2)) = some (none, hp (u2 (u2 I3 68 0 0) 68 5 0) L (c', c, c', ρ1.2.2.2)) := by
        unfold X6_forget
        rw [pi_68, pi_68]; rfl
      rw [run, h_if, if_pos k1, ← hJ1, gr_0_5, gr_0_6, e5, e6, pr_0_5, pr_0_6, gr_0_8, gr_0_5, pr_48_0, gr_0_7, gr_0_5, rc_41]
      show (z_cv (X8_begin 41 c') _) (hp J1 L (c', c, c', ρ1.2.2.2)) = _
      rw [h_cv b1, gr_0_11, rc_68, h_cv eg, pi_0, ← hK, k3]; rfl
    · rcases hcc with ⟨rfl, rfl⟩ | ⟨rfl, rfl⟩
      · exact Or.inr hcur2
      · exact Or.inl hcur2
    · rw [hK, u2_ap, if_neg (by omega), u2r (by omega), u2r (by omega), b3 0 (by omega), hJ1, u2_ap, if_neg (by omega), u2_ap, if_neg (by omega), h0, j01]; rfl
    · obtain ⟨hw, nx, lg, κ, p1, -⟩ := hpa
      refine ⟨0, nx, lg, fun _ => 0, ⟨by rw [hK, u2r (by omega), u2_ap, if_pos ⟨rfl, rfl⟩]; rfl, by rw [hK, u2r (by omega), u2_ap, if_neg (by omega), u2_ap, if_pos ⟨rfl, rfl⟩]; rfl, ?_, p1.2.2.2⟩, fun i hi _ => absurd hi (by omega), ⟨Nat.le_refl 0, Nat.zero_le _, Nat.zero_le _⟩, ⟨rfl, fun i hi => absurd hi (Nat.not_lt_zero i)⟩, fun i q hq => (by cases hq), fun i j _ _ => ⟨Nat.le_refl 0, fun _ => Nat.zero_le _, fun _ => Nat.zero_le _⟩⟩
      rw [hK, u2r (by omega), u2_ap, if_neg (by omega), u2_ap, if_neg (by omega), b3 68 (by omega), f 68 (by omega), hr 68 (by omega) (by omega) (by omega) (by omega) (by omega)]
      exact p1.2.2.1
    · rw [hK, u2_ap, if_pos ⟨rfl, rfl⟩]; rfl
    · rw [g0 15 (by omega) (by omega) (by omega) (by omega), gr 213 (by omega) (by omega) (by omega) (by omega) (by omega) (by omega) (by omega)]; exact hO
    · rw [gr 214 (by omega) (by omega) (by omega) (by omega) (by omega) (by omega) (by omega)]; exact hR i hi
    · rw [hK, u2_ap, if_neg (by omega), u2r (by omega), u2r (by omega), b3 0 (by omega), hJ1, u2_ap, if_neg (by omega), u2_ap, if_pos ⟨rfl, rfl⟩]; exact k1
    · rw [hK, u2_ap, if_neg (by omega), u2r (by omega), u2r (by omega), b3 0 (by omega), hJ1, u2_ap, if_pos ⟨rfl, rfl⟩]; exact k2
end B8d
