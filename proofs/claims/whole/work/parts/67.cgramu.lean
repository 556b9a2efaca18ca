/-! the class's grammar behind a fault: it ends, and the fault stays -/
section B67
variable {I I0 : Nat → Nat → Int32} {L L0 : Nat → Nat → Int64} {ρ : zRh} {h : zH} {b : Nat → Nat} {n a x cd u0 kd : Nat} {cs0 : List Nat} {e : Nat × Nat}
/-- all that lasts through it -/
def gU (cd u0 kd : Nat) (I : Nat → Nat → Int32) (ρ : zRh) (b : Nat → Nat) (n : Nat) (cs0 : List Nat) (r : pR) : Prop := txX I b n ∧ gE I ρ cd kd ∧ gS cd u0 I b n cs0 r
theorem gU_of (hcd : cdk cd) {J : Nat → Nat → Int32} {r r' : pR} (hI : gU cd u0 kd I ρ b n cs0 r) (hS : gS cd u0 J b n cs0 r') (hf : gfr cd u0 I J) : gU cd u0 kd J ρ b n cs0 r' := ⟨gfr_tx hcd hf hI.1, gE_fr hcd hf hI.2.1, hS⟩
theorem T_snd_u (h : gS cd u0 I b n cs0 (.inl e)) : X9_sound 2 (hp I L ρ) = some (some (.int 0), hp I L ρ) := by
  rw [X9_sound_h, decide_eq_false (gS_ne h)]; rfl
theorem T_snd_s {q : Nat × List Nat} (h : gS cd u0 I b n cs0 (.inr q)) : X9_sound 2 (hp I L ρ) = some (some (.int 1), hp I L ρ) := by
  rw [X9_sound_h, decide_eq_true h.1]; rfl
theorem zs_ne : ∀ k, k < 16 → zs_len.getD k 0 ≠ 0 := by decide +kernel
theorem U_word (hcd : cdk cd) {k : Nat} (hk : k < 16) (hU : gU cd u0 kd I ρ b n cs0 (.inl e)) : ∃ J, X9_takeWord 2 (zB + k) (hp I L ρ) = some (some (.int 0), hp J L ρ) ∧ gU cd u0 kd J ρ b n cs0 (.inl e) ∧ gfr cd u0 I J := by
  obtain ⟨J, e1, e2, e3⟩ := T_word_u (L := L) (ρ := ρ) hcd hU.1 hk (zs_ne k hk) hU.2.2
  exact ⟨J, e1, gU_of hcd hU e2 e3, e3⟩
theorem U_begin (hcd : cdk cd) (hU : gU cd u0 kd I ρ b n cs0 (.inl e)) : ∃ J y, X9_begin 2 (hp I L ρ) = some (some (.int (nI y)), hp J L ρ) ∧ gU cd u0 kd J ρ b n cs0 (.inl e) ∧ gfr cd u0 I J ∧ y ≤ n ∧ J 2 2 = nI y := by
  obtain ⟨J, y, e1, e2, e3, e4, e5⟩ := T_begin_u (L := L) (ρ := ρ) hcd hU.1 hU.2.2
  exact ⟨J, y, e1, gU_of hcd hU e2 e3, e3, e4, e5⟩
theorem U_put (hcd : cdk cd) {v : Int32} (hU : gU cd u0 kd I ρ b n cs0 (.inl e)) : ∃ J, X3_put cd v (hp I L ρ) = some (none, hp J L ρ) ∧ gU cd u0 kd J ρ b n cs0 (.inl e) ∧ gfr cd u0 I J := by
  obtain ⟨J, e1, e2, e3⟩ := T_put_u (L := L) (ρ := ρ) (v := v) hcd hU.2.2
  exact ⟨J, e1, gU_of hcd hU e2 e3, e3⟩
theorem U_cmp (hU : gU cd u0 kd I ρ b n cs0 (.inl e)) : X4_comparison 10 (hp I L ρ) = some (some (.int 20009), hp I L ρ) := by
  unfold X4_comparison
  rw [gr_10_0, rc_2, h_ci (T_sign_u hU.2.2), h_if, if_pos rfl, gr_10_0, rc_2, h_ci (T_sign_u hU.2.2), h_if, if_pos rfl, gr_10_0, rc_2, h_cv (T_need_u hU.2.2)]; rfl
theorem U_testlp (hcd : cdk cd) {gr : Nat → Nat → Int32 → Int32 → Int32 → zM} {v1 v2 : Int32} {f : Nat} (hU : gU cd u0 kd I ρ b n cs0 (.inl e)) : ∃ J, z_fix (fun r x => X4_test_B7 gr 10 v1 r x) (f + 1) v2 (hp I L ρ) = some (none, hp J L ρ) ∧ gU cd u0 kd J ρ b n cs0 (.inl e) ∧ gfr cd u0 I J := by
  obtain ⟨J, e1, e2, e3⟩ := U_word (L := L) (k := 13) hcd (by omega) hU
  rw [h_fix]
  show ∃ J, X4_test_B7 gr 10 v1 _ v2 (hp I L ρ) = _ ∧ _ ∧ _
  unfold X4_test_B7
  rw [h_if]
  split
  · exact ⟨I, rfl, hU, gfr_refl⟩
  · rw [gr_10_0, rc_2, h_ci e1, h_if, if_pos rfl]
    exact ⟨J, rfl, e2, e3⟩
theorem U_bothlp (hcd : cdk cd) {gr : Nat → Nat → Int32 → Int32 → Int32 → zM} {v1 v2 : Int32} {f : Nat} (hU : gU cd u0 kd I ρ b n cs0 (.inl e)) : ∃ J, z_fix (fun r x => X4_both_B7 gr 10 v1 r x) (f + 1) v2 (hp I L ρ) = some (none, hp J L ρ) ∧ gU cd u0 kd J ρ b n cs0 (.inl e) ∧ gfr cd u0 I J := by
  obtain ⟨J, e1, e2, e3⟩ := U_word (L := L) (k := 12) hcd (by omega) hU
  rw [h_fix]
  show ∃ J, X4_both_B7 gr 10 v1 _ v2 (hp I L ρ) = _ ∧ _ ∧ _
  unfold X4_both_B7
  rw [h_if]
  split
  · exact ⟨I, rfl, hU, gfr_refl⟩
  · rw [gr_10_0, rc_2, h_ci e1, h_if, if_pos rfl]
    exact ⟨J, rfl, e2, e3⟩
theorem U_sumlp {gr : Nat → Nat → Int32 → Int32 → Int32 → zM} {v1 v2 : Int32} {f : Nat} (hU : gU cd u0 kd I ρ b n cs0 (.inl e)) : z_fix (fun r x => X4_sum_B7 gr 10 v1 r x) (f + 1) v2 (hp I L ρ) = some (none, hp I L ρ) := by
  rw [h_fix]
  show X4_sum_B7 gr 10 v1 _ v2 (hp I L ρ) = _
  unfold X4_sum_B7
  rw [h_if]
  split
  · rfl
  · rw [gr_10_0, rc_2, h_ci (T_snd_u hU.2.2), h_if, if_pos rfl]; rfl
theorem U_prodlp {gr : Nat → Nat → Int32 → Int32 → Int32 → zM} {v1 v2 : Int32} {f : Nat} (hU : gU cd u0 kd I ρ b n cs0 (.inl e)) : z_fix (fun r x => X4_product_B7 gr 10 v1 r x) (f + 1) v2 (hp I L ρ) = some (none, hp I L ρ) := by
  rw [h_fix]
  show X4_product_B7 gr 10 v1 _ v2 (hp I L ρ) = _
  unfold X4_product_B7
  rw [h_if]
  split
  · rfl
  · rw [gr_10_0, rc_2, h_ci (T_snd_u hU.2.2), h_if, if_pos rfl]; rfl
theorem U_191 (hcd : cdk cd) {gr : Nat → Nat → Int32 → Int32 → Int32 → zM} {v2 : Int32} (hU : gU cd u0 kd I ρ b n cs0 (.inl e)) : ∃ J, X4_oneOf_J191 gr 10 v2 (hp I L ρ) = some (none, hp J L ρ) ∧ gU cd u0 kd J ρ b n cs0 (.inl e) ∧ gfr cd u0 I J := by
  obtain ⟨y, y1, y2⟩ := hU.2.2.2.2.2.1
  have hS := gS_mvu hcd hU.2.2 (sk_le (b := b) y1)
  have hf : gfr cd u0 I (u2 I 2 2 (nI (sk b n y))) := gfr_2 hcd (by omega)
  refine ⟨u2 I 2 2 (nI (sk b n y)), ?_, gU_of hcd hU hS hf, hf⟩
  unfold X4_oneOf_J191 X4_oneOf_J219
  rw [gr_10_0, gr_10_2, hU.2.1.2.1, rc_2, h_ci (X9_wordIn_u hU.1 y1 y2 (gS_ne hU.2.2) (k := if kd = 3 then 14 else 0) (by split <;> omega)), h_if, if_pos rfl, gr_10_0, rc_2, h_cv (X9_fail_u (gS_ne hS) _ _)]; rfl
theorem U_160 (hcd : cdk cd) {gr : Nat → Nat → Int32 → Int32 → Int32 → zM} {v1 v2 : Int32} (hU : gU cd u0 kd I ρ b n cs0 (.inl e)) : ∃ J, X4_oneOf_J160 gr 10 v1 v2 (hp I L ρ) = some (none, hp J L ρ) ∧ gU cd u0 kd J ρ b n cs0 (.inl e) ∧ gfr cd u0 I J := by
  unfold X4_oneOf_J160
  rw [gi_10, h_if]
  by_cases c : I 10 4 = 0
  · rw [if_pos c]
    exact U_191 hcd hU
  · obtain ⟨J, e1, e2, e3⟩ := U_word (L := L) (k := 11) hcd (by omega) hU
    obtain ⟨K, f1, f2, f3⟩ := U_191 (L := L) (gr := gr) (v2 := v2) hcd e2
    rw [if_neg c, gr_10_0, rc_2, h_ci e1, h_if, if_pos rfl]
    exact ⟨K, f1, f2, gfr_trans e3 f3⟩
theorem U_all (hcd : cdk cd) : ∀ m k o v1 v2 I, k ≤ 7 → pc k o ≤ m → o ≤ 6 → gU cd u0 kd I ρ b n cs0 (.inl e) → ∃ J, zg_run m k 10 (nI o) v1 v2 (hp I L ρ) = some (none, hp J L ρ) ∧ gU cd u0 kd J ρ b n cs0 (.inl e) ∧ gfr cd u0 I J
  | 0, k, o, v1, v2, I, hk, h1, h2, hU => by unfold pc at h1; omega
  | m + 1, k, o, v1, v2, I, hk, h1, h2, hU => by
    have up := fun k' (q0 : k' ≤ 7) (q1 : pc k' o ≤ m) I (q3 : gU cd u0 kd I ρ b n cs0 (.inl e)) => U_all hcd m k' o 0 0 I q0 q1 h2 q3
    match k, h1, hk with
    | 0, h1, hk =>
      unfold pc at h1
      obtain ⟨J, e1, e2, e3⟩ := up 1 (by omega) (by unfold pc; omega) I hU
      obtain ⟨K, f1, f2, f3⟩ := U_testlp (L := L) (gr := zg_run m) (v1 := nI o) (v2 := 0) (f := 999999) hcd e2
      refine ⟨K, ?_, f2, gfr_trans e3 f3⟩
      show X4_test_E (zg_run m) 10 (nI o) (hp I L ρ) = _
      unfold X4_test_E
      rw [rc_10, h_cv e1]
      exact f1
    | 1, h1, hk =>
      unfold pc at h1
      obtain ⟨J, e1, e2, e3⟩ := up 2 (by omega) (by unfold pc; omega) I hU
      obtain ⟨K, f1, f2, f3⟩ := U_bothlp (L := L) (gr := zg_run m) (v1 := nI o) (v2 := 0) (f := 999999) hcd e2
      refine ⟨K, ?_, f2, gfr_trans e3 f3⟩
      show X4_both_E (zg_run m) 10 (nI o) (hp I L ρ) = _
      unfold X4_both_E
      rw [rc_10, h_cv e1]
      exact f1
    | 2, h1, hk =>
      unfold pc at h1
      obtain ⟨J1, y, a1, a2, a3, -, -⟩ := U_begin (L := L) hcd hU
      obtain ⟨J2, b1, b2, b3⟩ := U_word (L := L) (k := 6) hcd (by omega) a2
      obtain ⟨J3, c1, c2, c3⟩ := U_word (L := L) (k := 7) hcd (by omega) b2
      obtain ⟨J4, d1, d2, d3⟩ := up 3 (by omega) (by unfold pc; omega) J3 c2
      refine ⟨J4, ?_, d2, gfr_trans (gfr_trans a3 b3) (gfr_trans c3 d3)⟩
      show X4_oneFact_E (zg_run m) 10 (nI o) (hp I L ρ) = _
      unfold X4_oneFact_E
      rw [gr_10_0, rc_2, h_ci a1, gr_10_0, rc_2, h_ci b1, h_if, if_pos rfl, gr_10_0, rc_2, h_ci (T_sign_u b2.2.2), h_if, if_pos rfl, gr_10_0, rc_2, h_ci c1, h_if, if_pos rfl, rc_10, h_cv d1, rc_10, h_ci (U_cmp d2), gr_10_0, rc_2, h_ci (T_snd_u d2.2.2), h_if, if_pos rfl]; rfl
    | 3, h1, hk =>
      unfold pc at h1
      obtain ⟨J, e1, e2, e3⟩ := up 4 (by omega) (by unfold pc; omega) I hU
      refine ⟨J, ?_, e2, e3⟩
      show X4_sum_E (zg_run m) 10 (nI o) (hp I L ρ) = _
      unfold X4_sum_E
      rw [rc_10, h_cv e1]
      exact U_sumlp (f := 999999) e2
    | 4, h1, hk =>
      unfold pc at h1
      obtain ⟨J, e1, e2, e3⟩ := up 5 (by omega) (by unfold pc; omega) I hU
      refine ⟨J, ?_, e2, e3⟩
      show X4_product_E (zg_run m) 10 (nI o) (hp I L ρ) = _
      unfold X4_product_E
      rw [rc_10, h_cv e1]
      exact U_prodlp (f := 999999) e2
    | 5, h1, hk =>
      unfold pc at h1
      obtain ⟨J1, y, a1, a2, a3, a4, a5⟩ := U_begin (L := L) hcd hU
      have hn := hU.1.2.1
      show ∃ J, X4_oneOf_E (zg_run m) 10 (nI o) (hp I L ρ) = _ ∧ _ ∧ _
      unfold X4_oneOf_E
      rw [gr_10_0, rc_2, h_ci a1, gr_10_0, rc_2, h_ci (X9_byteAt_h a2.1 (by omega)), h_ci (X11_isDigit_by (tx_hb a2.1) _), h_if]
      cases q : isD (t_c b n y) with
      | true =>
        obtain ⟨z, z1, z2⟩ := X9_num_u (L := L) (ρ := ρ) (lo := 0) (hi := 9999) a2.1 a4 a5 (gS_ne a2.2.2)
        have hf : gfr cd u0 J1 (u2 J1 2 2 (nI z)) := gfr_2 hcd (by omega)
        have hU2 := gU_of hcd a2 (gS_mvu hcd a2.2.2 z2) hf
        obtain ⟨J2, b1, b2, b3⟩ := U_put (L := L) (v := 0) hcd hU2
        rw [if_neg (show ¬ bI true = 0 by decide), gr_10_1, hU.2.1.1, gr_10_0, rc_2, h_ci z1, rc_cd hcd, h_cv b1]
        exact ⟨J2, rfl, b2, gfr_trans a3 (gfr_trans hf b3)⟩
      | false =>
        obtain ⟨J2, b1, b2, b3⟩ := U_word (L := L) (k := 8) hcd (by omega) a2
        obtain ⟨J3, c1, c2, c3⟩ := U_word (L := L) (k := 9) hcd (by omega) b2
        rw [bF, if_pos rfl, gr_10_0, rc_2, h_ci (T_sign_u a2.2.2), h_if, if_pos rfl, gr_10_0, rc_2, h_ci b1, h_if, if_pos rfl, gr_10_0, rc_2, h_ci c1, h_if, if_pos rfl, gi_10, h_if]
        have hab := gfr_trans (gfr_trans a3 b3) c3
        by_cases c : J3 10 4 = 0
        · obtain ⟨J4, d1, d2, d3⟩ := U_160 (L := L) (gr := zg_run m) (v1 := nI o) (v2 := nI y) hcd c2
          rw [if_pos c, d1]
          exact ⟨J4, rfl, d2, gfr_trans hab d3⟩
        · obtain ⟨J4, d1, d2, d3⟩ := U_word (L := L) (k := 10) hcd (by omega) c2
          obtain ⟨J5, f1, f2, f3⟩ := U_160 (L := L) (gr := zg_run m) (v1 := nI o) (v2 := nI y) hcd d2
          rw [if_neg c, gr_10_0, rc_2, h_ci d1, h_if, if_pos rfl, f1]
          exact ⟨J5, rfl, f2, gfr_trans hab (gfr_trans d3 f3)⟩
    | 6, h1, hk =>
      obtain ⟨J1, y, a1, a2, a3, a4, a5⟩ := U_begin (L := L) hcd hU
      refine ⟨J1, ?_, a2, a3⟩
      show X4_ofTwoSums_E (zg_run m) 10 (nI o) v1 (hp I L ρ) = _
      unfold X4_ofTwoSums_E X4_ofTwoSums_J42
      rw [gr_10_0, rc_2, h_ci a1, gr_10_0, rc_2, h_cv (T_need_u a2.2.2), rc_10, h_ci (T_may_u a2.2.2), h_if, if_pos rfl, gr_10_0, rc_2, h_ci (T_snd_u a2.2.2), h_if, if_pos rfl]; rfl
    | 7, h1, hk =>
      refine ⟨I, ?_, hU, gfr_refl⟩
      show X4_ofAnother_E (zg_run m) 10 (nI o) v1 v2 (hp I L ρ) = _
      unfold X4_ofAnother_E
      rw [rc_10, h_ci (T_may_u hU.2.2), h_if, if_pos rfl]; rfl
    | k + 8, h1, hk => omega
end B67
