/-! sizes: the reference's set of sizes -/
section B5b
variable {I I0 : Nat → Nat → Int32} {L L0 : Nat → Nat → Int64} {ρ : zRh} {h : zH} {A : aT} {N : Nat} {C : cT} {s : sT} {tr : Option Nat}
theorem thM_265 (hT : thM I I0 L L0 A s) {j : Nat} {v : Int32} : thM (u2 I 265 j v) I0 L L0 A s := by
  obtain ⟨h1, ⟨f1, f2, f3⟩, h2, ⟨h3, h4⟩, h5, h6⟩ := hT
  exact ⟨h1, ⟨fun a ha hb => by rw [u2r (by unfold lastM at ha; omega)]; exact f1 a ha hb, fun k a b c => by rw [u2r (by decide)]; exact f2 k a b c, f3⟩, by rw [u2r (by decide)]; exact h2, ⟨stM_fr (u2r (by decide)) (by rw [u2r (by decide)]) (by rw [u2r (by decide)]) (u2r (by decide)) h3, by rw [u2r (by decide)]; exact h4⟩, by rw [u2r (by decide)]; exact h5, by rw [u2r (by decide)]; exact h6⟩
/-- thinking of the size of the one with number p -/
def tzM (I I0 : Nat → Nat → Int32) (L L0 : Nat → Nat → Int64) (A : aT) (p : Nat) : Prop := RelM I0 L0 A ∧ thF I I0 L L0 ∧ I 215 64 = 1 ∧ (stN (I 255) (a_C A) (a_s A) ∧ tdM (I 255) (a_C A)) ∧ (stN (I 258) (a_C A) (a_s A) ∧ tdM (I 258) (a_C A)) ∧ kpM (I 255) (a_C A) (a_K A) ∧ I 215 54 = nI p
theorem tz_set (hok : okA A) {p a z : Nat} (ha : k_th (a_C A) a) (hp2 : k_num (a_C A) a = p) (hz : tzM I I0 L L0 A p) : thM (u2 I 215 55 (nI z)) I0 L L0 A (sSz (a_s A) a z) := by
  obtain ⟨h1, ⟨f1, f2, f3⟩, h2, ⟨h3, h4⟩, h5, h6, h7⟩ := hz
  have hk := hok.1
  have e : ∀ k, k ≠ 55 → (u2 I 215 55 (nI z)) 215 k = I 215 k := fun k hk => by rw [u2_ap, if_neg (by omega)]
  have e255 : (u2 I 215 55 (nI z)) 255 = I 255 := u2r (by decide)
  refine ⟨h1, ⟨fun x hx hb => by rw [u2r (by unfold lastM at hx; omega)]; exact f1 x hx hb, fun k x b c => by rw [e k (by unfold fieldM at x; omega)]; exact f2 k x b c, f3⟩, by rw [e 64 (by omega)]; exact h2, ⟨stM_of (by rw [e255]; exact h3) (fun x hx => ?_), by rw [e255]; exact h4⟩, by rw [u2r (by decide)]; exact h5, by rw [e255]; exact h6⟩
  have hx12 := k_th_lt hk hx
  have h12 := hk.1
  have hn := k_num_th hx hk
  have hna := k_num_th ha hk
  rw [e 54 (by omega), h7, u2r (show (248 : Nat) ≠ 215 by decide)]
  show (if nI p = nI (k_num (a_C A) x) then _ else _) = nI (if x = a then z else s_siz (a_s A) x)
  by_cases c : x = a
  · rw [c, if_pos (by rw [hp2]), if_pos rfl, u2_ap, if_pos ⟨rfl, rfl⟩]
  · rw [if_neg (fun e => by
      have e2 := (nI_inj (by omega) (by omega)).mp e
      apply c
      rw [← hn.2, ← hna.2, hp2, e2]), if_neg c, hok.2.2.1.2.2 x hx12]
    have e8 : I 248 = I0 248 := f1 248 (by unfold lastM; omega) (by omega)
    rw [e8]
    exact (h1.1.2.2.2.1 x hx).2.2
theorem tz_of {p : Nat} {a z : Nat} (hT : thM I I0 L L0 A (sSz (a_s A) a z)) (h54 : I 215 54 = nI p) : tzM I I0 L L0 A p := by
  obtain ⟨h1, h2, h3, ⟨h4, h5⟩, h6, h7⟩ := hT
  have q : stN (I 255) (a_C A) (sSz (a_s A) a z) := stM_N h4
  exact ⟨h1, h2, h3, ⟨q, h5⟩, h6, h7, h54⟩
theorem MT_go2 (hok : okA A) (hS : okS (a_C A) s) (ht : ∀ b, tr = some b → b < 12) (hT : thM I I0 L L0 A s) : ∃ I' L', X12_roundGoes 215 (oI tr) (hp I L ρ) = some (none, hp I' L' ρ) ∧ thM I' I0 L' L0 A (p_go (a_C A) s tr) ∧ (I' 215 54 = I 215 54 ∧ I' 265 = I 265) ∧ I' 215 55 = I 215 55 := by
  obtain ⟨n0, hn0⟩ := Int32_any (I 215 63)
  obtain ⟨I', L', e1, e2, e3, e4, e5, e6⟩ := X12_round_h (L := L) (ρ := ρ) hok.1 hS ht (thM_ch hT) hT.2.2.2.1.1 (th := true) hT.2.2.1 hn0 (K := []) (by simp)
  have e5' : ∀ j, 182 ≤ j → I' 255 j = I 255 j := e5
  have f215 : ∀ k, (fieldM k ∨ k = 54 ∨ k = 55 ∨ k = 64) → I' 215 k = I 215 k := fun k hk => by
    unfold fieldM at hk
    exact e2.2.1 k (by omega) (by omega) (by omega) (by omega) (by omega) (by omega) (by omega) (by omega)
  have r258 : I' 258 = I 258 := e2.1 258 (by omega) (by omega) (by omega) (by omega) (by omega) (by omega)
  refine ⟨I', L', e1, ⟨hT.1, ⟨fun a ha h1 => ?_, fun k h1 h2 h3 => ?_, fun a ha => ?_⟩, ?_, ⟨e3, fun h1 a ha hn => ?_⟩, ?_, kpM_eq (fun j h1 h2 => e5' j h1) hT.2.2.2.2.2⟩, ⟨f215 54 (by omega), e2.1 265 (by omega) (by omega) (by omega) (by omega) (by omega) (by omega)⟩, f215 55 (by omega)⟩
  · rw [goM_last e2 ha h1]; exact hT.2.1.1 a ha h1
  · rw [f215 k (Or.inl h1)]; exact hT.2.1.2.1 k h1 h2 h3
  · rw [e2.2.2 a (by omega)]; exact hT.2.1.2.2 a ha
  · rw [f215 64 (by omega)]; exact hT.2.2.1
  · rw [e6 a ha hn]; exact hT.2.2.2.1.2 h1 a ha hn
  · rw [r258]; exact hT.2.2.2.2.1
def m_all (C : cT) (s : sT) (V : vT) : Nat → Nat → Bool
  | 0, _ => true
  | m + 1, n => m_rows (p_gos C n s) V n V.length 0 && m_all C s V m (n + 1)
theorem bI_and {x y : Bool} : (if bI x = 0 then (0 : Int32) else bI y) = bI (x && y) := by cases x <;> cases y <;> rfl
/-- the rounds for one size -/
theorem X12_fit_lp (hok : okA A) {a z p : Nat} (ha : k_th (a_C A) a) (hp2 : k_num (a_C A) a = p) (hz : z ≤ 9) {acc : Int32} {r13 : Int32 × Int32 → zM} : ∀ (m n fuel : Nat) (w : Bool) (I : Nat → Nat → Int32) (L : Nat → Nat → Int64), n + m = 31 → m < fuel → thM I I0 L L0 A (p_gos (a_C A) n (sSz (a_s A) a z)) → I 215 54 = nI p → I 215 55 = nI z →
    ∃ I' L', z_fix (fun r x => X12_sizeSet_B30 r13 215 acc (nI z) r x.1 x.2) fuel (bI w, nI n) (hp I L ρ) = X12_sizeSet_J91 r13 215 acc (nI z) (bI (w && m_all (a_C A) (sSz (a_s A) a z) (a_V A) m n)) (hp I' L' ρ) ∧ thM I' I0 L' L0 A (p_gos (a_C A) 31 (sSz (a_s A) a z)) ∧ I' 215 54 = nI p ∧ I' 215 55 = nI z ∧ (∀ j, (j < 31 * z + n ∨ 31 * z + 31 ≤ j) → I' 265 j = I 265 j) ∧ ∀ k, n ≤ k → k < 31 → I' 265 (31 * z + k) = nI (w_set (a_C A) (p_gos (a_C A) k (sSz (a_s A) a z))) := by
  have hk := hok.1
  have h999 := hok.2.2.1.2.1
  have hV := okV_of hok
  have hS := okS_Sz (a := a) hok.2.2.1.1 hz
  intro m
  induction m with
  | zero =>
    intro n fuel w I L h1 h2 h3 h4 h5
    obtain ⟨f, rfl⟩ : ∃ f, fuel = f + 1 := ⟨fuel - 1, by omega⟩
    obtain rfl : n = 31 := by omega
    refine ⟨I, L, ?_, h3, h4, h5, fun _ _ => rfl, fun k _ _ => by omega⟩
    rw [h_fix]
    show X12_sizeSet_B30 r13 215 acc (nI z) _ (bI w) (nI 31) (hp I L ρ) = _
    unfold X12_sizeSet_B30
    rw [h_if, if_pos (by decide), show m_all (a_C A) (sSz (a_s A) a z) (a_V A) 0 31 = true from rfl, Bool.and_true]
  | succ m ih =>
    intro n fuel w I L h1 h2 h3 h4 h5
    obtain ⟨f, rfl⟩ : ∃ f, fuel = f + 1 := ⟨fuel - 1, by omega⟩
    have hSn := (p_gos_ok hk n hS (show s_sp (a_s A) + n ≤ 2000 by omega)).1
    rw [h_fix]
    generalize hg : z_fix (fun r x => X12_sizeSet_B30 r13 215 acc (nI z) r x.1 x.2) f = rec
    obtain ⟨J, hJ⟩ : ∃ J, J = u2 I 265 (31 * z + n) (nI (w_set (a_C A) (p_gos (a_C A) n (sSz (a_s A) a z)))) := ⟨_, rfl⟩
    have hTJ : thM J I0 L L0 A (p_gos (a_C A) n (sSz (a_s A) a z)) := by rw [hJ]; exact thM_265 h3
    obtain ⟨I1, L1, e1, e2, ⟨e3, r265⟩, e4⟩ := MT_go2 (ρ := ρ) (tr := none) hok hSn (by simp) hTJ
    have j215 : J 215 = I 215 := by rw [hJ, u2r (by decide)]
    obtain ⟨I', L', r1, r2, r3, r4, r5, r6⟩ := ih (n + 1) f (w && m_rows (p_gos (a_C A) n (sSz (a_s A) a z)) (a_V A) n (a_V A).length 0) I1 L1 (by omega) (by omega) (by rw [p_gos_succ]; exact e2) (by rw [e3, j215]; exact h4) (by rw [e4, j215]; exact h5)
    refine ⟨I', L', ?_, r2, r3, r4, fun j hj => by rw [r5 j (by omega), r265, hJ, u2_ap, if_neg (by omega)], fun k k1 k2 => ?_⟩
    · have hj64 : ∀ s0 : Int32, X12_sizeSet_J64 r13 rec 215 acc (nI z) (nI n) (nI (w_set (a_C A) (p_gos (a_C A) n (sSz (a_s A) a z)))) s0 (hp I L ρ) = rec (s0, nI (n + 1)) (hp I1 L1 ρ) := by
        intro s0
        unfold X12_sizeSet_J64
        rw [gr_215_73, show (31 : Int32) = nI 31 from rfl, pk_mul, nI_add, sa_265 (by omega), ← hJ, rc_215, h_cv (show X12_roundGoes 215 (-1) _ = _ from e1), nI_1]
      show X12_sizeSet_B30 r13 215 acc (nI z) rec (bI w) (nI n) (hp I L ρ) = _
      unfold X12_sizeSet_B30 X12_sizeSet_J63
      rw [h_if, if_neg (show ¬ (30 : Int32) < nI n from fun e => absurd ((nI_lt' (a := 30) (by omega) (by omega)).mp e) (by omega)), rc_215, h_ci (X12_wedSet_h hk hSn (thM_ch h3) h3.2.2.2.1.1), h_if]
      rw [show m_all (a_C A) (sSz (a_s A) a z) (a_V A) (m + 1) n = (m_rows (p_gos (a_C A) n (sSz (a_s A) a z)) (a_V A) n (a_V A).length 0 && m_all (a_C A) (sSz (a_s A) a z) (a_V A) m (n + 1)) from rfl, ← Bool.and_assoc, ← r1, ← hg]
      rw [hg]
      cases w with
      | false =>
        rw [if_pos (by decide), hj64]; rfl
      | true =>
        have hse : X12_isAsSeen 215 (nI n) (nI (w_set (a_C A) (p_gos (a_C A) n (sSz (a_s A) a z)))) (hp I L ρ) = some (some (.int (bI (m_rows (p_gos (a_C A) n (sSz (a_s A) a z)) (a_V A) n (a_V A).length 0))), hp I L ρ) := X12_rows_lp hk hSn hV (vM_of h3) h3.2.2.2.1.1 (by omega) (a_V A).length 0 zFU (by omega) (by have := hV.1; unfold zFU; omega)
        rw [if_neg (by decide), rc_215, h_ci hse, h_if]
        cases m_rows (p_gos (a_C A) n (sSz (a_s A) a z)) (a_V A) n (a_V A).length 0 with
        | false => rw [if_pos (by decide), hj64]; rfl
        | true => rw [if_neg (by decide), hj64]; rfl
    · by_cases c : k = n
      · rw [c, r5 _ (by omega), r265, hJ, u2_ap, if_pos ⟨rfl, rfl⟩]
      · exact r6 k (by omega) k2
end B5b
