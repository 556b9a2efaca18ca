/-! the reference's text, a step from any place or fault; names -/
section B8e
variable {I I0 : Nat → Nat → Int32} {L L0 : Nat → Nat → Int64} {ρ : zRh} {h : zH} {b : Nat → Nat} {n a x j k : Nat} {r : rP} {S : nT}
def tQ (I : Nat → Nat → Int32) (b : Nat → Nat) (n : Nat) (r : rP) : Prop := match r with
  | .inl e => unM I n e.1 e.2
  | .inr a => ∃ x, tkM I b n x ∧ sk b n x = a ∧ I 215 5 = 0
theorem tQ_le (h : tQ I b n (.inr a)) : (a ≤ n ∧ n ≤ 1600) ∧ sk b n a = a := by
  obtain ⟨x, h1, h2, h3⟩ := h
  rw [← h2]
  exact ⟨⟨sk_le h1.2.1, h1.1.2.1⟩, sk_sk⟩
theorem wdM_f {I' : Nat → Nat → Int32} (hw : wdM I) (hF : fxM I I') : wdM I' := wdM_q hw (qF_fx hF)
theorem tQ_look (h : tQ I b n (.inr a)) : ∃ I', X12_look 215 (hp I L ρ) = some (some (.int (byI b n a)), hp I' L ρ) ∧ tkM I' b n a ∧ I' 215 5 = 0 ∧ fxM I I' := by
  obtain ⟨x, h1, h2, h3⟩ := h
  have e := X12_look_h (L := L) (ρ := ρ) h1
  have t := tkM_sk h1
  rw [h2] at e t
  exact ⟨_, e, t, by rw [m25]; exact h3, fxM_u (by omega)⟩
theorem tQ_at (h : tkM I b n a) (h5 : I 215 5 = 0) (hk : sk b n a = a) : tQ I b n (.inr a) := ⟨a, h, hk, h5⟩
theorem tQ_fail {k p : Nat} (hk : 1 ≤ k ∧ k ≤ 5) (hp2 : p ≤ 2000) (h : tQ I b n r) : ∃ I', X12_fail 215 (nI k) (nI p) (hp I L ρ) = some (none, hp I' L ρ) ∧ tQ I' b n (br r (fun _ => .inl (k, p))) ∧ fxM I I' := by
  rcases r with e | a
  · exact ⟨I, X12_fail_u (unM_ne h) _ _, h, fxM_refl⟩
  · obtain ⟨x, h1, h2, h3⟩ := h
    exact ⟨_, X12_fail_s h3 _ _, ⟨by rw [u2_ap, if_neg (by omega), u2_ap, if_pos ⟨rfl, rfl⟩], hk, by rw [u2_ap, if_pos ⟨rfl, rfl⟩], hp2, x, h1.2.1, by rw [u2_ap, if_neg (by omega), u2_ap, if_neg (by omega)]; exact h1.2.2.1⟩, fxM_56 (nI_n0 hk)⟩
def tkI (b : Nat → Nat) (n : Nat) (w : List Nat) (r : rP) : Int32 := match r with
  | .inl _ => 0
  | .inr a => bI (isW b n a w)
/-- a word is taken, or not -/
theorem tQ_takes (hw : wdM I) {q : Nat} {w : List Nat} (hq : (q, w) ∈ wdL) (h : tQ I b n r) : ∃ I', X12_takes 215 q (hp I L ρ) = some (some (.int (tkI b n w r)), hp I' L ρ) ∧ tQ I' b n (br r (fun a => .inr (if isW b n a w = true then sk b n (a + w.length) else a))) ∧ fxM I I' := by
  have hR := wdL_R _ hq
  rcases r with e | a
  · exact ⟨I, X12_takes_u (unM_ne h), h, fxM_refl⟩
  · obtain ⟨x, h1, h2, h3⟩ := h
    have e := X12_takes_s (L := L) (ρ := ρ) h1 h3 (wdM_R hw hq) hR.2.2.2.2.2.1
    have t := tkM_sk h1
    rw [h2] at e t
    show ∃ I', X12_takes 215 q (hp I L ρ) = some (some (.int (bI (isW b n a w))), hp I' L ρ) ∧ tQ I' b n (.inr (if isW b n a w = true then sk b n (a + w.length) else a)) ∧ _
    by_cases c : isW b n a w = true
    · rw [if_pos c] at e
      rw [if_pos c]
      have hl := isW_le c t.2.1
      have hk := tkM_word t (by omega) (f := u2 (u2 I 215 2 (nI (a + w.length))) 215 4 (nI (a + w.length))) (by rw [u2r (by omega), u2r (by omega), u2r (by omega)]) (by rw [u2_ap, if_neg (by omega), u2_ap, if_neg (by omega), u2_ap, if_neg (by omega)]) (by rw [u2_ap, if_neg (by omega), m22, hl.2.2]) (by rw [u2_ap, if_pos ⟨rfl, rfl⟩, hl.2.2])
      rw [hl.2.2] at hk
      exact ⟨_, e, ⟨a + w.length, hk, rfl, by rw [u2_ap, if_neg (by omega), m25]; exact h3⟩, fxM_trans (fxM_u (by omega)) (fxM_u (by omega))⟩
    · rw [if_neg c] at e
      rw [if_neg c]
      exact ⟨_, e, ⟨a, t, by rw [← h2]; exact sk_sk, by rw [m25]; exact h3⟩, fxM_u (by omega)⟩
theorem tQ_asks (hw : wdM I) {q : Nat} {w : List Nat} (hq : (q, w) ∈ wdL) (h : tQ I b n r) : ∃ I', X12_asks 215 q (hp I L ρ) = some (none, hp I' L ρ) ∧ tQ I' b n (br r (r_w b n w)) ∧ fxM I I' := by
  rcases r with e | a
  · exact ⟨I, X12_asks_u (unM_ne h), h, fxM_refl⟩
  · have hle := tQ_le h
    obtain ⟨I1, a1, a2, a3⟩ := tQ_takes (L := L) (ρ := ρ) hw hq h
    obtain ⟨x, h1, h2, h3⟩ := h
    have a1 : X12_takes 215 q (hp I L ρ) = some (some (.int (bI (isW b n a w))), hp I1 L ρ) := a1
    have a2 : tQ I1 b n (.inr (if isW b n a w = true then sk b n (a + w.length) else a)) := a2
    show ∃ I', _ ∧ tQ I' b n (r_w b n w a) ∧ _
    unfold X12_asks r_w
    rw [gi_215, h_if, if_pos h3, rc_215, h_ci a1, h_if]
    by_cases c : isW b n a w = true
    · rw [if_pos c] at a2 ⊢
      rw [c, if_neg (show ¬ bI true = 0 by decide)]
      exact ⟨I1, rfl, a2, a3⟩
    · have e := X12_takes_s (L := L) (ρ := ρ) h1 h3 (wdM_R hw hq) (wdL_R _ hq).2.2.2.2.2.1
      rw [h2, if_neg c, a1] at e
      have e2 : hp I1 L ρ = hp (u2 I 215 2 (nI a)) L ρ := congrArg Prod.snd (Option.some.inj e)
      rw [if_neg c] at a2 ⊢
      rw [show isW b n a w = false by simpa using c, bF, if_pos rfl, e2, gi_215, m22, rc_215]
      have e3 : I1 = u2 I 215 2 (nI a) := congrArg (fun z : zH => z.2.1) e2
      rw [← e3]
      obtain ⟨I2, b1, b2, b3⟩ := tQ_fail (L := L) (ρ := ρ) (k := 1) (p := a) (by omega) (by omega) a2
      rw [show X12_fail 215 1 (nI a) = X12_fail 215 (nI 1) (nI a) from rfl, h_cv b1]
      exact ⟨I2, rfl, b2, fxM_trans a3 b3⟩
theorem tQ_sign {c : Nat} (hc : 0 < c ∧ c < 1000) (hcD : isD c = false ∧ isL c = false) (h : tQ I b n r) : ∃ I', X12_asksSign 215 (nI c) (hp I L ρ) = some (none, hp I' L ρ) ∧ tQ I' b n (br r (fun a => if t_c b n a = c then .inr (sk b n (a + 1)) else .inl (1, a))) ∧ fxM I I' := by
  rcases r with e | a
  · exact ⟨I, X12_asksSign_u (unM_ne h) _, h, fxM_refl⟩
  · have hle := tQ_le h
    obtain ⟨x, h1, h2, h3⟩ := h
    have e := X12_asksSign_s (L := L) (ρ := ρ) h1 h3 hc
    have t := tkM_sk h1
    rw [h2] at e t
    show ∃ I', _ ∧ tQ I' b n (if t_c b n a = c then .inr (sk b n (a + 1)) else .inl (1, a)) ∧ _
    by_cases q : t_c b n a = c
    · have hl := t_c_in q hc.1
      rw [if_pos q] at e ⊢
      have hk := tkM_sign t hl (by rw [q]; exact hcD) (f := u2 I 215 2 (nI (a + 1))) (by rw [u2r (by omega), u2r (by omega)]) (by rw [u2_ap, if_neg (by omega), u2_ap, if_neg (by omega)]) m22 (by rw [u2_ap, if_neg (by omega), u2_ap, if_neg (by omega)])
      exact ⟨_, e, ⟨a + 1, hk, rfl, by rw [m25]; exact h3⟩, fxM_u (by omega)⟩
    · rw [if_neg q] at e ⊢
      exact ⟨_, e, ⟨by rw [u2_ap, if_neg (by omega), u2_ap, if_pos ⟨rfl, rfl⟩]; rfl, by omega, by rw [u2_ap, if_pos ⟨rfl, rfl⟩], by omega, a, by omega, by rw [u2_ap, if_neg (by omega), u2_ap, if_neg (by omega), m22]⟩, fxM_trans (fxM_u (by omega)) (fxM_56 (by decide))⟩
theorem tQ_num {lo hi : Nat} (hlo : lo < 10000) (hhi : hi < 10000) (h : tQ I b n r) : ∃ I' v, X12_number 215 (nI lo) (nI hi) (hp I L ρ) = some (some (.int (nI v)), hp I' L ρ) ∧ tQ I' b n (br r (r_num b n lo hi)) ∧ fxM I I' ∧ v < 10000 ∧ ∀ a1, br r (r_num b n lo hi) = .inr a1 → v = vl b n lo hi r := by
  rcases r with e | a
  · exact ⟨I, 0, X12_num_u (unM_ne h), h, fxM_refl, by omega, fun a1 q => by cases q⟩
  · obtain ⟨x, h1, h2, h3⟩ := h
    show ∃ I' v, _ ∧ tQ I' b n (r_num b n lo hi a) ∧ _ ∧ _ ∧ ∀ a1, r_num b n lo hi a = .inr a1 → v = v_num b n lo hi a
    unfold r_num v_num
    rcases q : p_num b n lo hi a with ⟨k, p⟩ | ⟨v, e⟩
    · obtain ⟨I', v, z1, z2, z3, z4⟩ := X12_num_no (L := L) (ρ := ρ) h1 h3 (lo := lo) (hi := hi) (k := k) (p := p) hlo hhi (by rw [h2]; exact q)
      exact ⟨I', v, z1, z3, z2, z4, fun a1 q => by cases q⟩
    · obtain ⟨z1, z2⟩ := X12_num_ok (L := L) (ρ := ρ) h1 h3 (lo := lo) (hi := hi) (v := v) (e := e) hlo hhi (by rw [h2]; exact q)
      have hv : v ≤ hi := by
        have := v_num_le (b := b) (n := n) (a := a) (lo := lo) (hi := hi)
        unfold p_num at q
        split at q
        · cases q
        · split at q
          · cases q
          · split at q
            · cases q
            · cases q; omega
      exact ⟨_, v, z1, ⟨e, z2, rfl, by rw [u2_ap, if_neg (by omega), u2_ap, if_neg (by omega), m25]; exact h3⟩, fxM_trans (fxM_trans (fxM_u (by omega)) (fxM_u (by omega))) (fxM_u (by omega)), by omega, fun a1 _ => rfl⟩
/-! own words -/
def owB (b : Nat → Nat) (n a : Nat) : Bool := decide (t_in b n a (wsK 2) 0 ≠ none)
theorem owB_t {w : List Nat} (hw : w ∈ wsK 2) (h : isW b n a w = true) : owB b n a = true := decide_eq_true (fun z => t_in_0 (wsK 2) 0 z w hw h)
theorem owB_f (h : ∀ w ∈ wsK 2, ¬ isW b n a w = true) : owB b n a = false := decide_eq_false (fun z => z (t_in_00 (wsK 2) 0 h))
theorem ow_y5 : X12_isOwnHere_J348 h = some (some (.int 1), h) := rfl
theorem ow_y4 : X12_isOwnHere_J294 215 h = some (some (.int 1), h) := by
  unfold X12_isOwnHere_J294 X12_isOwnHere_J299
  rw [h_if, if_neg (by decide)]; rfl
theorem ow_y3 : X12_isOwnHere_J218 215 h = some (some (.int 1), h) := by
  unfold X12_isOwnHere_J218 X12_isOwnHere_J223
  rw [h_if, if_neg (by decide), ow_y4]
theorem ow_y2 : X12_isOwnHere_J142 215 h = some (some (.int 1), h) := by
  unfold X12_isOwnHere_J142 X12_isOwnHere_J147
  rw [h_if, if_neg (by decide), ow_y3]
theorem ow_y1 : X12_isOwnHere_J66 215 h = some (some (.int 1), h) := by
  unfold X12_isOwnHere_J66 X12_isOwnHere_J71
  rw [h_if, if_neg (by decide), ow_y2]
theorem X12_isOwnHere_h (hT : tkM I b n a) (hk : sk b n a = a) (hs : I 215 5 = 0) (hw : wdM I) : X12_isOwnHere 215 (hp I L ρ) = some (some (.int (bI (owB b n a))), hp I L ρ) := by
  have hh : ∀ (q : Nat) (w : List Nat), (q, w) ∈ wdL → X12_isHere 215 q (hp I L ρ) = some (some (.int (bI (isW b n a w))), hp I L ρ) := fun q w hq => X12_here_k hT hk hs hw hq
  unfold X12_isOwnHere
  rw [gr_215_11, rc_215, h_ci (hh 218 [108, 101, 102, 116] (by decide +kernel)), h_if]
  cases e0 : isW b n a [108, 101, 102, 116] with
  | true => rw [if_neg (show ¬ bI true = 0 by decide), ow_y1, owB_t (w := [108, 101, 102, 116]) (by decide +kernel) e0]; rfl
  | false =>
   rw [bF, if_pos rfl]
   rw [gr_215_12, rc_215, h_ci (hh 219 [114, 105, 103, 104, 116] (by decide +kernel)), h_if]
   cases e1 : isW b n a [114, 105, 103, 104, 116] with
   | true => rw [if_neg (show ¬ bI true = 0 by decide), ow_y1, owB_t (w := [114, 105, 103, 104, 116]) (by decide +kernel) e1]; rfl
   | false =>
    rw [bF, if_pos rfl]
    rw [gr_215_13, rc_215, h_ci (hh 220 [119, 97, 114, 109] (by decide +kernel)), h_if]
    cases e2 : isW b n a [119, 97, 114, 109] with
    | true => rw [if_neg (show ¬ bI true = 0 by decide), ow_y1, owB_t (w := [119, 97, 114, 109]) (by decide +kernel) e2]; rfl
    | false =>
     rw [bF, if_pos rfl]
     rw [gr_215_14, rc_215, h_ci (hh 221 [119, 111, 114, 107] (by decide +kernel)), h_if]
     cases e3 : isW b n a [119, 111, 114, 107] with
     | true => rw [if_neg (show ¬ bI true = 0 by decide), ow_y1, owB_t (w := [119, 111, 114, 107]) (by decide +kernel) e3]; rfl
     | false =>
      rw [bF, if_pos rfl]
      rw [gr_215_15, rc_215, h_ci (hh 222 [115, 105, 122, 101] (by decide +kernel)), h_if]
      cases e4 : isW b n a [115, 105, 122, 101] with
      | true => rw [if_neg (show ¬ bI true = 0 by decide), ow_y1, owB_t (w := [115, 105, 122, 101]) (by decide +kernel) e4]; rfl
      | false =>
       rw [bF, if_pos rfl]
       rw [gr_215_16, rc_215, h_ci (hh 223 [107, 105, 110] (by decide +kernel)), h_if]
       cases e5 : isW b n a [107, 105, 110] with
       | true => rw [if_neg (show ¬ bI true = 0 by decide), ow_y1, owB_t (w := [107, 105, 110]) (by decide +kernel) e5]; rfl
       | false =>
        rw [bF, if_pos rfl]
        unfold X12_isOwnHere_J71
        rw [h_if, if_pos rfl]
        rw [gr_215_17, rc_215, h_ci (hh 224 [108, 105, 107, 101, 115] (by decide +kernel)), h_if]
        cases e6 : isW b n a [108, 105, 107, 101, 115] with
        | true => rw [if_neg (show ¬ bI true = 0 by decide), ow_y2, owB_t (w := [108, 105, 107, 101, 115]) (by decide +kernel) e6]; rfl
        | false =>
         rw [bF, if_pos rfl]
         rw [gr_215_18, rc_215, h_ci (hh 225 [107, 110, 111, 119, 115] (by decide +kernel)), h_if]
         cases e7 : isW b n a [107, 110, 111, 119, 115] with
         | true => rw [if_neg (show ¬ bI true = 0 by decide), ow_y2, owB_t (w := [107, 110, 111, 119, 115]) (by decide +kernel) e7]; rfl
         | false =>
          rw [bF, if_pos rfl]
          rw [gr_215_19, rc_215, h_ci (hh 226 [114, 111, 117, 110, 100, 115] (by decide +kernel)), h_if]
          cases e8 : isW b n a [114, 111, 117, 110, 100, 115] with
          | true => rw [if_neg (show ¬ bI true = 0 by decide), ow_y2, owB_t (w := [114, 111, 117, 110, 100, 115]) (by decide +kernel) e8]; rfl
          | false =>
           rw [bF, if_pos rfl]
           rw [gr_215_20, rc_215, h_ci (hh 227 [102, 101, 101, 108, 115] (by decide +kernel)), h_if]
           cases e9 : isW b n a [102, 101, 101, 108, 115] with
           | true => rw [if_neg (show ¬ bI true = 0 by decide), ow_y2, owB_t (w := [102, 101, 101, 108, 115]) (by decide +kernel) e9]; rfl
           | false =>
            rw [bF, if_pos rfl]
            rw [gr_215_21, rc_215, h_ci (hh 228 [108, 101, 116, 115] (by decide +kernel)), h_if]
            cases e10 : isW b n a [108, 101, 116, 115] with
            | true => rw [if_neg (show ¬ bI true = 0 by decide), ow_y2, owB_t (w := [108, 101, 116, 115]) (by decide +kernel) e10]; rfl
            | false =>
             rw [bF, if_pos rfl]
             rw [gr_215_22, rc_215, h_ci (hh 229 [108, 101, 97, 114, 110, 115] (by decide +kernel)), h_if]
             cases e11 : isW b n a [108, 101, 97, 114, 110, 115] with
             | true => rw [if_neg (show ¬ bI true = 0 by decide), ow_y2, owB_t (w := [108, 101, 97, 114, 110, 115]) (by decide +kernel) e11]; rfl
             | false =>
              rw [bF, if_pos rfl]
              unfold X12_isOwnHere_J147
              rw [h_if, if_pos rfl]
              rw [gr_215_23, rc_215, h_ci (hh 230 [115, 108, 105, 112] (by decide +kernel)), h_if]
              cases e12 : isW b n a [115, 108, 105, 112] with
              | true => rw [if_neg (show ¬ bI true = 0 by decide), ow_y3, owB_t (w := [115, 108, 105, 112]) (by decide +kernel) e12]; rfl
              | false =>
               rw [bF, if_pos rfl]
               rw [gr_215_24, rc_215, h_ci (hh 231 [108, 105, 107, 105, 110, 103] (by decide +kernel)), h_if]
               cases e13 : isW b n a [108, 105, 107, 105, 110, 103] with
               | true => rw [if_neg (show ¬ bI true = 0 by decide), ow_y3, owB_t (w := [108, 105, 107, 105, 110, 103]) (by decide +kernel) e13]; rfl
               | false =>
                rw [bF, if_pos rfl]
                rw [gr_215_25, rc_215, h_ci (hh 232 [107, 110, 111, 119, 110] (by decide +kernel)), h_if]
                cases e14 : isW b n a [107, 110, 111, 119, 110] with
                | true => rw [if_neg (show ¬ bI true = 0 by decide), ow_y3, owB_t (w := [107, 110, 111, 119, 110]) (by decide +kernel) e14]; rfl
                | false =>
                 rw [bF, if_pos rfl]
                 rw [gr_215_26, rc_215, h_ci (hh 233 [102, 101, 101, 108] (by decide +kernel)), h_if]
                 cases e15 : isW b n a [102, 101, 101, 108] with
                 | true => rw [if_neg (show ¬ bI true = 0 by decide), ow_y3, owB_t (w := [102, 101, 101, 108]) (by decide +kernel) e15]; rfl
                 | false =>
                  rw [bF, if_pos rfl]
                  rw [gr_215_27, rc_215, h_ci (hh 234 [114, 111, 117, 110, 100] (by decide +kernel)), h_if]
                  cases e16 : isW b n a [114, 111, 117, 110, 100] with
                  | true => rw [if_neg (show ¬ bI true = 0 by decide), ow_y3, owB_t (w := [114, 111, 117, 110, 100]) (by decide +kernel) e16]; rfl
                  | false =>
                   rw [bF, if_pos rfl]
                   rw [gr_215_28, rc_215, h_ci (hh 235 [115, 112, 114, 105, 110, 103] (by decide +kernel)), h_if]
                   cases e17 : isW b n a [115, 112, 114, 105, 110, 103] with
                   | true => rw [if_neg (show ¬ bI true = 0 by decide), ow_y3, owB_t (w := [115, 112, 114, 105, 110, 103]) (by decide +kernel) e17]; rfl
                   | false =>
                    rw [bF, if_pos rfl]
                    unfold X12_isOwnHere_J223
                    rw [h_if, if_pos rfl]
                    rw [gr_215_29, rc_215, h_ci (hh 236 [119, 97, 105, 116, 101, 100] (by decide +kernel)), h_if]
                    cases e18 : isW b n a [119, 97, 105, 116, 101, 100] with
                    | true => rw [if_neg (show ¬ bI true = 0 by decide), ow_y4, owB_t (w := [119, 97, 105, 116, 101, 100]) (by decide +kernel) e18]; rfl
                    | false =>
                     rw [bF, if_pos rfl]
                     rw [gr_215_30, rc_215, h_ci (hh 237 [110, 117, 109, 98, 101, 114] (by decide +kernel)), h_if]
                     cases e19 : isW b n a [110, 117, 109, 98, 101, 114] with
                     | true => rw [if_neg (show ¬ bI true = 0 by decide), ow_y4, owB_t (w := [110, 117, 109, 98, 101, 114]) (by decide +kernel) e19]; rfl
                     | false =>
                      rw [bF, if_pos rfl]
                      rw [gr_215_31, rc_215, h_ci (hh 238 [115, 105, 100, 101] (by decide +kernel)), h_if]
                      cases e20 : isW b n a [115, 105, 100, 101] with
                      | true => rw [if_neg (show ¬ bI true = 0 by decide), ow_y4, owB_t (w := [115, 105, 100, 101]) (by decide +kernel) e20]; rfl
                      | false =>
                       rw [bF, if_pos rfl]
                       rw [gr_215_32, rc_215, h_ci (hh 239 [119, 101, 100] (by decide +kernel)), h_if]
                       cases e21 : isW b n a [119, 101, 100] with
                       | true => rw [if_neg (show ¬ bI true = 0 by decide), ow_y4, owB_t (w := [119, 101, 100]) (by decide +kernel) e21]; rfl
                       | false =>
                        rw [bF, if_pos rfl]
                        rw [gr_215_33, rc_215, h_ci (hh 240 [111, 114] (by decide +kernel)), h_if]
                        cases e22 : isW b n a [111, 114] with
                        | true => rw [if_neg (show ¬ bI true = 0 by decide), ow_y4, owB_t (w := [111, 114]) (by decide +kernel) e22]; rfl
                        | false =>
                         rw [bF, if_pos rfl]
                         rw [gr_215_34, rc_215, h_ci (hh 241 [97, 110, 100] (by decide +kernel)), h_if]
                         cases e23 : isW b n a [97, 110, 100] with
                         | true => rw [if_neg (show ¬ bI true = 0 by decide), ow_y4, owB_t (w := [97, 110, 100]) (by decide +kernel) e23]; rfl
                         | false =>
                          rw [bF, if_pos rfl]
                          unfold X12_isOwnHere_J299
                          rw [h_if, if_pos rfl]
                          rw [gr_215_35, rc_215, h_ci (hh 242 [110, 111, 116] (by decide +kernel)), h_if]
                          cases e24 : isW b n a [110, 111, 116] with
                          | true => rw [if_neg (show ¬ bI true = 0 by decide), ow_y5, owB_t (w := [110, 111, 116]) (by decide +kernel) e24]; rfl
                          | false =>
                           rw [bF, if_pos rfl]
                           rw [gr_215_36, rc_215, h_ci (hh 243 [97, 108, 108] (by decide +kernel)), h_if]
                           cases e25 : isW b n a [97, 108, 108] with
                           | true => rw [if_neg (show ¬ bI true = 0 by decide), ow_y5, owB_t (w := [97, 108, 108]) (by decide +kernel) e25]; rfl
                           | false =>
                            rw [bF, if_pos rfl]
                            rw [gr_215_37, rc_215, h_ci (hh 244 [109, 105, 110] (by decide +kernel)), h_if]
                            cases e26 : isW b n a [109, 105, 110] with
                            | true => rw [if_neg (show ¬ bI true = 0 by decide), ow_y5, owB_t (w := [109, 105, 110]) (by decide +kernel) e26]; rfl
                            | false =>
                             rw [bF, if_pos rfl]
                             rw [gr_215_38, rc_215, h_ci (hh 245 [109, 97, 120] (by decide +kernel)), h_if]
                             cases e27 : isW b n a [109, 97, 120] with
                             | true => rw [if_neg (show ¬ bI true = 0 by decide), ow_y5, owB_t (w := [109, 97, 120]) (by decide +kernel) e27]; rfl
                             | false =>
                              rw [bF, if_pos rfl]
                              rw [h_rb0, owB_f (show ∀ w ∈ [[108, 101, 102, 116], [114, 105, 103, 104, 116], [119, 97, 114, 109], [119, 111, 114, 107], [115, 105, 122, 101], [107, 105, 110], [108, 105, 107, 101, 115], [107, 110, 111, 119, 115], [114, 111, 117, 110, 100, 115], [102, 101, 101, 108, 115], [108, 101, 116, 115], [108, 101, 97, 114, 110, 115], [115, 108, 105, 112], [108, 105, 107, 105, 110, 103], [107, 110, 111, 119, 110], [102, 101, 101, 108], [114, 111, 117, 110, 100], [115, 112, 114, 105, 110, 103], [119, 97, 105, 116, 101, 100], [110, 117, 109, 98, 101, 114], [115, 105, 100, 101], [119, 101, 100], [111, 114], [97, 110, 100], [110, 111, 116], [97, 108, 108], [109, 105, 110], [109, 97, 120]], ¬ isW b n a w = true from (List.forall_mem_cons.mpr ⟨by rw [e0]; decide, (List.forall_mem_cons.mpr ⟨by rw [e1]; decide, (List.forall_mem_cons.mpr ⟨by rw [e2]; decide, (List.forall_mem_cons.mpr ⟨by rw [e3]; decide, (List.forall_mem_cons.mpr ⟨by rw [e4]; decide, (List.forall_mem_cons.mpr ⟨by rw [e5]; decide, (List.forall_mem_cons.mpr ⟨by rw [e6]; decide, (List.forall_mem_cons.mpr ⟨by rw [e7]; decide, (List.forall_mem_cons.mpr ⟨by rw [e8]; decide, (List.forall_mem_cons.mpr ⟨by rw [e9]; decide, (List.forall_mem_cons.mpr ⟨by rw [e10]; decide, (List.forall_mem_cons.mpr ⟨by rw [e11]; decide, (List.forall_mem_cons.mpr ⟨by rw [e12]; decide, (List.forall_mem_cons.mpr ⟨by rw [e13]; decide, (List.forall_mem_cons.mpr ⟨by rw [e14]; decide, (List.forall_mem_cons.mpr ⟨by rw [e15]; decide, (List.forall_mem_cons.mpr ⟨by rw [e16]; decide, (List.forall_mem_cons.mpr ⟨by rw [e17]; decide, (List.forall_mem_cons.mpr ⟨by rw [e18]; decide, (List.forall_mem_cons.mpr ⟨by rw [e19]; decide, (List.forall_mem_cons.mpr ⟨by rw [e20]; decide, (List.forall_mem_cons.mpr ⟨by rw [e21]; decide, (List.forall_mem_cons.mpr ⟨by rw [e22]; decide, (List.forall_mem_cons.mpr ⟨by rw [e23]; decide, (List.forall_mem_cons.mpr ⟨by rw [e24]; decide, (List.forall_mem_cons.mpr ⟨by rw [e25]; decide, (List.forall_mem_cons.mpr ⟨by rw [e26]; decide, (List.forall_mem_cons.mpr ⟨by rw [e27]; decide, (fun w hw => by cases hw)⟩)⟩)⟩)⟩)⟩)⟩)⟩)⟩)⟩)⟩)⟩)⟩)⟩)⟩)⟩)⟩)⟩)⟩)⟩)⟩)⟩)⟩)⟩)⟩)⟩)⟩)⟩)⟩))]; rfl
/-! a name -/
theorem nm_58 (hT : txM I b n) (hw0 : 0 < wl b n a) (h39 : I 215 39 = nI a) (h5 : I 215 5 = 0) (ha : a ≤ n) : ∀ m i fuel (I1 : Nat → Nat → Int32), i + m = (if wl b n a ≤ 6 then wl b n a else 6) → m < fuel → (∀ k, k ≠ 2 → I1 215 k = I 215 k) → (∀ x, x ≠ 215 → I1 x = I x) → I1 215 2 = nI (a + i) → z_fix (fun r x => X12_name_B58 215 r x) fuel (cl (p_nmv (p_nml b n a) i : Nat)) (hp I1 L ρ) = if wl b n a ≤ 6 then some (some (.long (cl (p_nmv (p_nml b n a) (wl b n a) : Nat))), hp (u2 (u2 I1 215 2 (nI (a + wl b n a))) 215 4 (nI (a + wl b n a))) L ρ) else some (some (.long 0), hp (u2 (u2 (u2 I1 215 2 (nI (a + 6))) 215 5 1) 215 6 (nI (a + 6))) L ρ) := by
  have hn := hT.2.1
  have hwl := wl_le (b := b) ha
  have hL := wl_L hw0
  have e0 : wl b n a = t_l b n a := by
    unfold wl at hw0 ⊢
    split
    · rename_i c
      rw [if_pos c] at hw0; omega
    · rfl
  intro m
  induction m with
  | zero =>
    intro i fuel I1 hi hf hk hx h2
    obtain ⟨f, rfl⟩ : ∃ f, fuel = f + 1 := ⟨fuel - 1, by omega⟩
    rw [h_fix]
    show X12_name_B58 215 _ (cl (p_nmv (p_nml b n a) i : Nat)) (hp I1 L ρ) = _
    unfold X12_name_B58 X12_name_J145 X12_name_J98
    rw [gi_215, gi_215, h2, hk 3 (by omega), hT.1, h_if]
    by_cases c : wl b n a ≤ 6
    · rw [if_pos c] at hi ⊢
      have hi : i = wl b n a := by omega
      rw [hi] at h2 ⊢
      by_cases d : n ≤ a + wl b n a
      · rw [if_pos ((nI_le' (by omega) (by omega)).mpr d), gi_215, h2, pi_215, u2_self h2]; rfl
      · have hend : isL (t_c b n (a + wl b n a)) = false := by
          rw [e0]
          simpa using t_l_end (b := b) (n := n) (a := a)
        have hb := (hT.2.2 (a + wl b n a) (by omega))
        rw [if_neg (fun q => d ((nI_le' (by omega) (by omega)).mp q)), gr_215_0, gi_215, h2, la_216 (by omega), hx 216 (by omega), hb.2, ← t_c_lt (b := b) (show a + wl b n a < n by omega), h_ci (X12_isLetter_n (by rw [t_c_lt (by omega)]; omega)), hend, bF, h_if, if_pos rfl, gi_215, h2, pi_215, u2_self h2]; rfl
    · rw [if_neg c] at hi ⊢
      have hi : i = 6 := by omega
      rw [hi] at h2 ⊢
      have hl := hL 6 (by omega)
      have hb := (hT.2.2 (a + 6) (by omega))
      rw [if_neg (fun q => by have := (nI_le' (by omega) (by omega)).mp q; omega), gr_215_0, gi_215, h2, la_216 (by omega), hx 216 (by omega), hb.2, ← t_c_lt (b := b) (show a + 6 < n by omega), h_ci (X12_isLetter_n (by rw [t_c_lt (by omega)]; omega)), hl, h_if, if_neg (show ¬ bI true = 0 by decide), gi_215, h2, gi_215, hk 39 (by omega), h39, h_if, pk_sub (by omega), if_pos (show nI (a + 6 - a) = 6 by rw [Nat.add_sub_cancel_left]; rfl), gi_215, h2, rc_215, h_cv (X12_fail_s (by rw [hk 5 (by omega)]; exact h5) _ _), u2_self h2]; rfl
  | succ m ih =>
    intro i fuel I1 hi hf hk hx h2
    obtain ⟨f, rfl⟩ : ∃ f, fuel = f + 1 := ⟨fuel - 1, by omega⟩
    have hil : i < wl b n a ∧ i < 6 := by
      by_cases c : wl b n a ≤ 6
      · rw [if_pos c] at hi; omega
      · rw [if_neg c] at hi; omega
    have hl := hL i hil.1
    have hl2 := isL_lt hl
    have hb := (hT.2.2 (a + i) (by omega))
    have hr := ih (i + 1) f (u2 I1 215 2 (nI (a + i + 1))) (by omega) (by omega) (fun k hk2 => by rw [u2_ap, if_neg (by omega)]; exact hk k hk2) (fun x hx2 => by rw [u2r hx2]; exact hx x hx2) (by rw [u2_ap, if_pos ⟨rfl, rfl⟩]; rfl)
    rw [u2_u2, u2_u2] at hr
    have hv : p_nmv (p_nml b n a) (i + 1) = 27 * p_nmv (p_nml b n a) i + (t_c b n (a + i) - 96) := by
      have e : p_nml b n a i = t_c b n (a + i) - 96 := if_pos hil.1
      rw [p_nmv_s (by rw [e]; omega), e]
    rw [h_fix, ← hr]
    show X12_name_B58 215 _ (cl (p_nmv (p_nml b n a) i : Nat)) (hp I1 L ρ) = _
    generalize z_fix (fun r x => X12_name_B58 215 r x) f = rec
    unfold X12_name_B58
    rw [gi_215, gi_215, h2, hk 3 (by omega), hT.1, h_if, if_neg (fun q => by have := (nI_le' (by omega) (by omega)).mp q; omega), gr_215_0, gi_215, h2, la_216 (by omega), hx 216 (by omega), hb.2, ← t_c_lt (b := b) (show a + i < n by omega), h_ci (X12_isLetter_n (by omega)), hl, h_if, if_neg (show ¬ bI true = 0 by decide), gi_215, h2, gi_215, hk 39 (by omega), h39, h_if, pk_sub (by omega), if_neg (show ¬ nI (a + i - a) = 6 from fun q => by have := (nI_inj (b := 6) (by omega) (by omega)).mp q; omega), gr_215_0, gi_215, h2, la_216 (by omega), hx 216 (by omega), hb.2, ← t_c_lt (b := b) (show a + i < n by omega), gi_215, h2, nI_1, pi_215, hv]
    have e : ((27 : Int64) * cl (p_nmv (p_nml b n a) i : Nat) + (nI (t_c b n (a + i))).toInt64) - 97 + 1 = cl ((27 * p_nmv (p_nml b n a) i + (t_c b n (a + i) - 96) : Nat) : Int) := by
      rw [ci_nat, cl_ci (by omega) (by omega), show (27 : Int64) = cl 27 from rfl, show (97 : Int64) = cl 97 from rfl, show (1 : Int64) = cl 1 from rfl, cl_mul, cl_add, cl_sub, cl_add]
      congr 1
      omega
    rw [e]
theorem tQ_name (hw : wdM I) (h : tQ I b n r) : ∃ I' v, X12_name 215 (hp I L ρ) = some (some (.long v), hp I' L ρ) ∧ tQ I' b n (br r (r_nm b n)) ∧ fxM I I' ∧ ∀ a a1, r = .inr a → r_nm b n a = .inr a1 → v = cl (p_nmv (p_nml b n a) 6 : Nat) ∧ I' 215 39 = nI a := by
  rcases r with e | a
  · refine ⟨I, 0, ?_, h, fxM_refl, fun a a1 q => by cases q⟩
    unfold X12_name
    rw [gi_215, h_if, if_neg (unM_ne h)]; rfl
  · have hle := tQ_le h
    have h5 : I 215 5 = 0 := by obtain ⟨x, -, -, h3⟩ := h; exact h3
    obtain ⟨I1, a1, a2, a3, a4⟩ := tQ_look (L := L) (ρ := ρ) h
    have hT1 := tQ_at a2 a3 hle.2
    have hw1 := wdM_f hw a4
    have hn := hle.1.2
    have hx2 := a2.2.2.1
    have hb := tm_hb a2.1
    obtain ⟨I2, f1, f2, f3⟩ := tQ_fail (L := L) (ρ := ρ) (k := 1) (p := a) (by omega) (by omega) hT1
    have e37 : X12_name_J37 215 (hp I1 L ρ) = some (some (.long 0), hp I2 L ρ) := by
      unfold X12_name_J37
      rw [gi_215, hx2, rc_215, show X12_fail 215 1 (nI a) = X12_fail 215 (nI 1) (nI a) from rfl, h_cv f1]; rfl
    have no : p_nmb b n a = some a → ∃ I' v, X12_name_J37 215 (hp I1 L ρ) = some (some (.long v), hp I' L ρ) ∧ tQ I' b n (r_nm b n a) ∧ fxM I I' ∧ ∀ c a1, (.inr a : rP) = .inr c → r_nm b n c = .inr a1 → v = cl (p_nmv (p_nml b n c) 6 : Nat) ∧ I' 215 39 = nI c := by
      intro hp
      have e : r_nm b n a = .inl (1, a) := by unfold r_nm; rw [hp]
      refine ⟨I2, 0, e37, by rw [e]; exact f2, fxM_trans a4 f3, fun c a1 q q2 => ?_⟩
      cases q
      rw [e] at q2; cases q2
    show ∃ I' v, _ ∧ tQ I' b n (r_nm b n a) ∧ _
    unfold X12_name
    rw [gi_215, h_if, if_pos h5, rc_215, h_ci a1, h_ci (X12_isLetter_by hb a), h_if]
    cases c1 : isL (t_c b n a) with
    | false =>
      rw [bF, if_pos rfl]
      have : wl b n a = 0 := by
        unfold wl
        split
        · rfl
        · exact t_l_no (by rw [c1]; decide)
      exact no (by unfold p_nmb; rw [if_pos (Or.inl this)])
    | true =>
      rw [if_neg (show ¬ bI true = 0 by decide), gi_215, hx2, gi_215, h_if]
      have hpL : pvL b n a = false := by
        cases z : pvL b n a with
        | false => rfl
        | true => have := a2.2.2.2.1.1 z; rw [c1] at this; cases this
      by_cases c2 : pvA b n a = true
      · rw [if_pos ((en_at a2.2.2.2.2 (by omega)).mpr c2)]
        have hD : pvD b n a = true := by
          unfold pvA at c2
          rw [hpL, Bool.or_false] at c2
          exact c2
        have hd := of_decide_eq_true hD
        exact no (by unfold p_nmb; rw [if_pos (Or.inl (by unfold wl; rw [if_pos hd]))])
      · rw [if_neg (fun q => c2 ((en_at a2.2.2.2.2 (by omega)).mp q)), rc_215, h_ci (X12_isOwnHere_h a2 hle.2 a3 hw1), h_if]
        have hD : pvD b n a = false := by
          cases z : pvD b n a with
          | false => rfl
          | true => exact absurd (by unfold pvA; rw [z]; rfl) c2
        have hwl : wl b n a = t_l b n a := by
          unfold wl
          rw [if_neg (fun z => by have := decide_eq_true z; unfold pvD at hD; rw [this] at hD; cases hD)]
        have hpos : 0 < wl b n a := by
          rw [hwl, (t_l_st c1).1]; omega
        cases c3 : owB b n a with
        | true =>
          rw [if_neg (show ¬ bI true = 0 by decide)]
          exact no (by unfold p_nmb; rw [if_pos (Or.inr (of_decide_eq_true c3))])
        | false =>
          have hno : t_in b n a (wsK 2) 0 = none := by
            rcases z : t_in b n a (wsK 2) 0 with _ | y
            · rfl
            · have : owB b n a = true := decide_eq_true (by rw [z]; intro q; cases q)
              rw [this] at c3; cases c3
          have h39 : fxM I1 (u2 I1 215 39 (nI a)) := fxM_u (by omega)
          have e58 := nm_58 (I := u2 I1 215 39 (nI a)) (L := L) (ρ := ρ) (txM_u (by omega) a2.1) hpos (by rw [u2_ap, if_pos ⟨rfl, rfl⟩]) (by rw [u2_ap, if_neg (by omega)]; exact a3) hle.1.1 (if wl b n a ≤ 6 then wl b n a else 6) 0 zFU (u2 I1 215 39 (nI a)) (by omega) (by unfold zFU; split <;> omega) (fun _ _ => rfl) (fun _ _ => rfl) (by rw [u2_ap, if_neg (by omega)]; exact hx2)
          rw [bF, if_pos rfl, gi_215, hx2, pi_215]
          have hpb : p_nmb b n a = if 6 < wl b n a then some (a + 6) else none := by
            unfold p_nmb
            rw [if_neg (fun q => by
              rcases q with q | q
              · omega
              · exact q hno)]
          have e58 : z_fix (fun r x => X12_name_B58 215 r x) zFU 0 (hp (u2 I1 215 39 (nI a)) L ρ) = _ := e58
          rw [e58]
          by_cases c4 : wl b n a ≤ 6
          · rw [if_pos c4]
            rw [if_neg (by omega)] at hpb
            have er : r_nm b n a = .inr (sk b n (a + wl b n a)) := by unfold r_nm; rw [hpb]
            have hk := tkM_word a2 hpos (f := u2 (u2 (u2 I1 215 39 (nI a)) 215 2 (nI (a + wl b n a))) 215 4 (nI (a + wl b n a))) (by rw [u2r (by omega), u2r (by omega), u2r (by omega)]) (by rw [u2_ap, if_neg (by omega), u2_ap, if_neg (by omega), u2_ap, if_neg (by omega)]) (by rw [u2_ap, if_neg (by omega), m22]) (by rw [u2_ap, if_pos ⟨rfl, rfl⟩])
            refine ⟨_, _, rfl, by rw [er]; exact ⟨a + wl b n a, hk, rfl, by rw [u2_ap, if_neg (by omega), m25, u2_ap, if_neg (by omega)]; exact a3⟩, fxM_trans a4 (fxM_trans h39 (fxM_trans (fxM_u (by omega)) (fxM_u (by omega)))), fun c a1 q q2 => ?_⟩
            cases q
            have ez : p_nmv (p_nml b n a) 6 = p_nmv (p_nml b n a) (wl b n a) := p_nmv_z 6 c4 (fun i h1 h2 => if_neg (by omega))
            exact ⟨by rw [ez], by rw [u2_ap, if_neg (by omega), u2_ap, if_neg (by omega), u2_ap, if_pos ⟨rfl, rfl⟩]⟩
          · rw [if_neg c4]
            rw [if_pos (by omega)] at hpb
            have er : r_nm b n a = .inl (1, a + 6) := by unfold r_nm; rw [hpb]
            have hl6 := wl_le (b := b) hle.1.1
            refine ⟨_, _, rfl, by rw [er]; exact ⟨by rw [u2_ap, if_neg (by omega), u2_ap, if_pos ⟨rfl, rfl⟩]; rfl, by omega, by rw [u2_ap, if_pos ⟨rfl, rfl⟩], by show a + 6 ≤ 2000; omega, a + 6, by omega, by rw [u2_ap, if_neg (by omega), u2_ap, if_neg (by omega), m22]⟩, fxM_trans a4 (fxM_trans h39 (fxM_trans (fxM_u (by omega)) (fxM_56 (by decide)))), fun c a1 q q2 => ?_⟩
            cases q
            rw [er] at q2; cases q2
end B8e
