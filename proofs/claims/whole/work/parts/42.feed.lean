/-! feed -/
section B42
variable {I : Nat → Nat → Int32} {L : Nat → Nat → Int64} {ρ : zRh} {h : zH} {A : aT} {N : Nat}
def f_byte (v : Int32) (k : Nat) : Int32 := (v >>> nI (8 * (3 - k))) &&& 255
theorem f255 : ∀ i, i < 32 → (255#32).getLsbD i = decide (i < 8) := by decide
theorem f_ush (v : BitVec 32) (n : Nat) (hn : n ≤ 24) : (v >>> n) &&& 255#32 = (v.sshiftRight n) &&& 255#32 := by
  apply BitVec.eq_of_getLsbD_eq
  intro i hi
  rw [BitVec.getLsbD_and, BitVec.getLsbD_and, f255 i hi]
  by_cases c : i < 8
  · rw [BitVec.getLsbD_ushiftRight, BitVec.getLsbD_sshiftRight]
    have : n + i < 32 := by omega
    simp [c, this]
    omega
  · simp [c]
theorem f_cls_24 (v : Int32) : ((v.toUInt32 >>> ((24 : Int32).toUInt32 &&& Int32.toUInt32 31)).toInt32) &&& 255 = f_byte v 0 := by
  apply Int32.toBitVec_inj.mp
  show (v.toBitVec >>> 24) &&& 255#32 = (v.toBitVec.sshiftRight 24) &&& 255#32
  exact f_ush _ 24 (by omega)
theorem f_cls_16 (v : Int32) : ((v.toUInt32 >>> ((16 : Int32).toUInt32 &&& Int32.toUInt32 31)).toInt32) &&& 255 = f_byte v 1 := by
  apply Int32.toBitVec_inj.mp
  show (v.toBitVec >>> 16) &&& 255#32 = (v.toBitVec.sshiftRight 16) &&& 255#32
  exact f_ush _ 16 (by omega)
theorem f_cls_8 (v : Int32) : ((v.toUInt32 >>> ((8 : Int32).toUInt32 &&& Int32.toUInt32 31)).toInt32) &&& 255 = f_byte v 2 := by
  apply Int32.toBitVec_inj.mp
  show (v.toBitVec >>> 8) &&& 255#32 = (v.toBitVec.sshiftRight 8) &&& 255#32
  exact f_ush _ 8 (by omega)
theorem f_cls_0 (v : Int32) : ((v.toUInt32 >>> ((0 : Int32).toUInt32 &&& Int32.toUInt32 31)).toInt32) &&& 255 = f_byte v 3 := by
  apply Int32.toBitVec_inj.mp
  show (v.toBitVec >>> 0) &&& 255#32 = (v.toBitVec.sshiftRight 0) &&& 255#32
  exact f_ush _ 0 (by omega)
theorem f_byte_in (v : Int32) (k : Nat) : ∃ b, b < 256 ∧ f_byte v k = nI b := by
  refine ⟨(f_byte v k).toBitVec.toNat, ?_, ?_⟩
  · show ((v >>> nI (8 * (3 - k))).toBitVec &&& 255#32).toNat < 256
    rw [BitVec.toNat_and]
    have : (v >>> nI (8 * (3 - k))).toBitVec.toNat &&& (255#32).toNat ≤ (255#32).toNat := Nat.and_le_right
    have e : (255#32).toNat = 255 := rfl
    omega
  · apply Int32.toBitVec_inj.mp
    show _ = BitVec.ofNat 32 _
    simp
/-- twenty bytes behind those on the tape -/
def f_w (a b c d e : Int32) (k : Nat) : Int32 := if k < 4 then a else if k < 8 then b else if k < 12 then c else if k < 16 then d else e
def f_tape (T : Nat → Int32) (n : Nat) (a b c d e : Int32) (j : Nat) : Int32 := if n ≤ j ∧ j < n + 20 then f_byte (f_w a b c d e (j - n)) ((j - n) % 4) else T j
def r_feed (A : aT) : Int32 := if a_n A + 20 ≤ 1600 then nI (a_n A + 20) else -1
def n_feed (A : aT) (a b c d e : Int32) : aT := if a_n A + 20 ≤ 1600 then wT A (f_tape (a_T A) (a_n A) a b c d e) (a_n A + 20) else rfA A 0
theorem feed_ok (hok : okA A) (a b c d e : Int32) : okA (n_feed A a b c d e) := by
  unfold n_feed
  split
  · refine okA_wT hok (by assumption) (fun j hj => ?_)
    unfold f_tape
    split
    · exact f_byte_in _ _
    · exact hok.2.1.2 j (by omega)
  · exact okA_rf hok
/-- four bytes -/
theorem X11_putFour_h {t : Nat} {v : Int32} (ht : I 0 1 = nI t) (hb : t + 4 ≤ 1600) : ∃ I', X11_putFour 0 v (hp I L ρ) = some (none, hp I' L ρ) ∧ (∀ a, a ≠ 0 → a ≠ 1 → I' a = I a) ∧ (∀ k, k ≠ 1 → I' 0 k = I 0 k) ∧ I' 0 1 = nI (t + 4) ∧ (∀ j, (j < t ∨ t + 4 ≤ j) → I' 1 j = I 1 j) ∧ ∀ k, k < 4 → I' 1 (t + k) = f_byte v k := by
  have one : ∀ (J : Nat → Nat → Int32) (q k f : Nat) (s s2 : Int32), J 0 1 = nI q → q < 1600 → ¬ s < 0 → s + (-8) = s2 → ((v.toUInt32 >>> (s.toUInt32 &&& Int32.toUInt32 31)).toInt32) &&& 255 = f_byte v k → z_fix (fun r x => X11_putFour_B3 0 v r x) (f + 1) s (hp J L ρ) = z_fix (fun r x => X11_putFour_B3 0 v r x) f s2 (hp (u2 (u2 J 1 q (f_byte v k)) 0 1 (nI (q + 1))) L ρ) := by
    intro J q k f s s2 h1 h2 h3 h4 h5
    rw [h_fix]
    generalize z_fix (fun r x => X11_putFour_B3 0 v r x) f = rec
    show X11_putFour_B3 0 v rec s (hp J L ρ) = _
    unfold X11_putFour_B3
    rw [h_if, if_neg h3, gi_0, h1, h_if, if_neg (show ¬ (1600 : Int32) ≤ nI q from nI_ge (b := 1600) h2 (by omega)), gr_0_0, gi_0, h1, sa_1 h2, gi_0, u2r (show (0 : Nat) ≠ 1 by decide), h1, pi_0, nI_1, h4, h5]
  unfold X11_putFour
  rw [show zFU = 999995 + 1 + 1 + 1 + 1 + 1 from rfl, one I t 0 _ 24 16 ht (by omega) (by decide) rfl (f_cls_24 v), one _ (t + 1) 1 _ 16 8 (by rw [u2_ap, if_pos ⟨rfl, rfl⟩]) (by omega) (by decide) rfl (f_cls_16 v), one _ (t + 1 + 1) 2 _ 8 0 (by rw [u2_ap, if_pos ⟨rfl, rfl⟩]) (by omega) (by decide) rfl (f_cls_8 v), one _ (t + 1 + 1 + 1) 3 _ 0 (-8) (by rw [u2_ap, if_pos ⟨rfl, rfl⟩]) (by omega) (by decide) rfl (f_cls_0 v), h_fix]
  generalize z_fix (fun r x => X11_putFour_B3 0 v r x) 999995 = rec
  refine ⟨u2 (u2 (u2 (u2 (u2 (u2 (u2 (u2 I 1 t (f_byte v 0)) 0 1 (nI (t + 1))) 1 (t + 1) (f_byte v 1)) 0 1 (nI (t + 1 + 1))) 1 (t + 1 + 1) (f_byte v 2)) 0 1 (nI (t + 1 + 1 + 1))) 1 (t + 1 + 1 + 1) (f_byte v 3)) 0 1 (nI (t + 1 + 1 + 1 + 1)), ?_, fun a h1 h2 => ?_, fun k hk => ?_, ?_, fun j hj => ?_, fun k hk => ?_⟩
  · show X11_putFour_B3 0 v rec (-8) _ = _
    unfold X11_putFour_B3
    rw [h_if, if_pos (by decide)]
    rfl
  · rw [u2r h1, u2r h2, u2r h1, u2r h2, u2r h1, u2r h2, u2r h1, u2r h2]
  · rw [u2_ap, if_neg (by omega), u2_ap, if_neg (by omega), u2_ap, if_neg (by omega), u2_ap, if_neg (by omega), u2_ap, if_neg (by omega), u2_ap, if_neg (by omega), u2_ap, if_neg (by omega), u2_ap, if_neg (by omega)]
  · rw [u2_ap, if_pos ⟨rfl, rfl⟩]
  · rw [u2_ap, if_neg (by omega), u2_ap, if_neg (by omega), u2_ap, if_neg (by omega), u2_ap, if_neg (by omega), u2_ap, if_neg (by omega), u2_ap, if_neg (by omega), u2_ap, if_neg (by omega), u2_ap, if_neg (by omega)]
  · have : k = 0 ∨ k = 1 ∨ k = 2 ∨ k = 3 := by omega
    rcases this with rfl | rfl | rfl | rfl
    · rw [u2_ap, if_neg (by omega), u2_ap, if_neg (by omega), u2_ap, if_neg (by omega), u2_ap, if_neg (by omega), u2_ap, if_neg (by omega), u2_ap, if_neg (by omega), u2_ap, if_neg (by omega), u2_ap, if_pos ⟨rfl, rfl⟩]
    · rw [u2_ap, if_neg (by omega), u2_ap, if_neg (by omega), u2_ap, if_neg (by omega), u2_ap, if_neg (by omega), u2_ap, if_neg (by omega), u2_ap, if_pos ⟨rfl, by omega⟩]
    · rw [u2_ap, if_neg (by omega), u2_ap, if_neg (by omega), u2_ap, if_neg (by omega), u2_ap, if_pos ⟨rfl, by omega⟩]
    · rw [u2_ap, if_neg (by omega), u2_ap, if_pos ⟨rfl, by omega⟩]
/-- the class's tape is another -/
theorem tape_X {I' : Nat → Nat → Int32} {T : Nat → Int32} {n : Nat} (hX : RelX I L ρ A N) (h0 : ∀ a, a ≠ 0 → a ≠ 1 → I' a = I a) (hf : ∀ k, k ≠ 1 → I' 0 k = I 0 k) (ht : I' 0 1 = nI n ∧ ∀ j, j < n → I' 1 j = T j) : RelX I' L ρ (wT A T n) N := by
  obtain ⟨h1, h2, h3, h4, h5, h6, h7, h8, h9⟩ := hX
  refine ⟨cur_of (A := A) rfl rfl rfl (fun a x y => h0 a (by omega) (by omega)) h1, ht, stX_fr (fun a x y => h0 a (by omega) (by omega)) h3, pa_fr (fun a x y => h0 a (by omega) (by omega)) (Nat.le_refl _) h4, ?_, ?_, ?_, ?_, h9⟩
  · rw [hf 13 (by omega), h0 212 (by omega) (by omega)]; exact h5
  · rw [hf 15 (by omega), h0 213 (by omega) (by omega)]; exact h6
  · rw [h0 214 (by omega) (by omega)]; exact h7
  · rw [hf 17 (by omega), hf 18 (by omega)]; exact h8
theorem X11_feed_r (hok : okA A) (hX : RelX I L ρ A N) (a b c d e : Int32) : runX (X11_feed 0 a b c d e) I L ρ (.int (r_feed A)) (n_feed A a b c d e) N := by
  have hn := hok.2.1.1
  unfold X11_feed r_feed n_feed
  by_cases q : a_n A + 20 ≤ 1600
  · obtain ⟨I1, e1, f1, g1, c1, d1, b1⟩ := X11_putFour_h (L := L) (ρ := ρ) (v := a) hX.2.1.1 (by omega)
    obtain ⟨I2, e2, f2, g2, c2, d2, b2⟩ := X11_putFour_h (L := L) (ρ := ρ) (v := b) c1 (by omega)
    obtain ⟨I3, e3, f3, g3, c3, d3, b3⟩ := X11_putFour_h (L := L) (ρ := ρ) (v := c) c2 (by omega)
    obtain ⟨I4, e4, f4, g4, c4, d4, b4⟩ := X11_putFour_h (L := L) (ρ := ρ) (v := d) c3 (by omega)
    obtain ⟨I5, e5, f5, g5, c5, d5, b5⟩ := X11_putFour_h (L := L) (ρ := ρ) (v := e) c4 (by omega)
    refine ⟨I5, L, ρ, ?_, ?_, fun x hx => ⟨by rw [f5 x (by omega) (by omega), f4 x (by omega) (by omega), f3 x (by omega) (by omega), f2 x (by omega) (by omega), f1 x (by omega) (by omega)], rfl⟩⟩
    · rw [if_pos q, gi_0, hX.2.1.1, show (20 : Int32) = nI 20 from rfl, nI_add, h_if, if_pos (show nI (a_n A + 20) ≤ (1600 : Int32) from nI_le (b := 1600) q (by omega)), rc_0, h_cv e1, rc_0, h_cv e2, rc_0, h_cv e3, rc_0, h_cv e4, rc_0, h_cv e5, gi_0, c5]
      rfl
    · rw [if_pos q]
      refine tape_X hX (fun x h0 h1 => by rw [f5 x h0 h1, f4 x h0 h1, f3 x h0 h1, f2 x h0 h1, f1 x h0 h1]) (fun k hk => by rw [g5 k hk, g4 k hk, g3 k hk, g2 k hk, g1 k hk]) ⟨by rw [c5], fun j hj => ?_⟩
      unfold f_tape
      by_cases q1 : a_n A ≤ j
      · obtain ⟨i, rfl⟩ : ∃ i, j = a_n A + i := ⟨j - a_n A, by omega⟩
        rw [if_pos (by omega), Nat.add_sub_cancel_left]
        unfold f_w
        by_cases k1 : i < 4
        · rw [if_pos k1, d5 _ (by omega), d4 _ (by omega), d3 _ (by omega), d2 _ (by omega), Nat.mod_eq_of_lt k1]
          exact b1 i k1
        · rw [if_neg k1]
          by_cases k2 : i < 8
          · rw [if_pos k2, d5 _ (by omega), d4 _ (by omega), d3 _ (by omega), show i % 4 = i - 4 by omega, show a_n A + i = a_n A + 4 + (i - 4) by omega]
            exact b2 (i - 4) (by omega)
          · rw [if_neg k2]
            by_cases k3 : i < 12
            · rw [if_pos k3, d5 _ (by omega), d4 _ (by omega), show i % 4 = i - 8 by omega, show a_n A + i = a_n A + 4 + 4 + (i - 8) by omega]
              exact b3 (i - 8) (by omega)
            · rw [if_neg k3]
              by_cases k4 : i < 16
              · rw [if_pos k4, d5 _ (by omega), show i % 4 = i - 12 by omega, show a_n A + i = a_n A + 4 + 4 + 4 + (i - 12) by omega]
                exact b4 (i - 12) (by omega)
              · rw [if_neg k4, show i % 4 = i - 16 by omega, show a_n A + i = a_n A + 4 + 4 + 4 + 4 + (i - 16) by omega]
                exact b5 (i - 16) (by omega)
      · rw [if_neg (by omega), d5 _ (by omega), d4 _ (by omega), d3 _ (by omega), d2 _ (by omega), d1 _ (by omega)]
        exact hX.2.1.2 j (by omega)
  · refine ⟨u2 I 214 0 (I 214 0 + 1), L, ρ, ?_, ?_, fun x hx => ⟨u2r (by omega), rfl⟩⟩
    · rw [if_neg q, gi_0, hX.2.1.1, show (20 : Int32) = nI 20 from rfl, nI_add, h_if, if_neg (show ¬ nI (a_n A + 20) ≤ (1600 : Int32) from nI_ge (a := 1600) (by omega) (by omega)), rc_0, h_ci (show X11_refuse 0 0 _ = _ from X11_refuse_h (j := 0) (by omega))]
      rfl
    · rw [if_neg q]
      exact X11_refuse_A hX (by omega)
theorem f_and31 {x : Nat} (h : x ≤ 24) : nI x &&& 31 = nI x := by
  have : ∀ y, y < 25 → nI y &&& 31 = nI y := by decide
  exact this x (by omega)
theorem X12_feed_lp {a b c d e : Int32} {n : Nat} (hn : n + 20 ≤ 1600) : ∀ (m k : Nat) (I : Nat → Nat → Int32) (fuel : Nat), k + m = 20 → m < fuel → I 215 1 = nI (n + k) → ∃ I', z_fix (fun r x => X12_feed_B28 215 a b c d e r x) fuel (nI k) (hp I L ρ) = some (some (.int (nI (n + 20))), hp I' L ρ) ∧ (∀ x, x ≠ 215 → x ≠ 216 → I' x = I x) ∧ (∀ q, q ≠ 1 → I' 215 q = I 215 q) ∧ I' 215 1 = nI (n + 20) ∧ (∀ j, (j < n + k ∨ n + 20 ≤ j) → I' 216 j = I 216 j) ∧ ∀ i, k ≤ i → i < 20 → I' 216 (n + i) = f_byte (f_w a b c d e i) (i % 4) := by
  intro m
  induction m with
  | zero =>
    intro k I fuel h1 h2 h3
    obtain ⟨f, rfl⟩ : ∃ f, fuel = f + 1 := ⟨fuel - 1, by omega⟩
    obtain rfl : k = 20 := by omega
    refine ⟨I, ?_, fun _ _ _ => rfl, fun _ _ => rfl, h3, fun _ _ => rfl, fun i h4 h5 => by omega⟩
    rw [h_fix]
    show X12_feed_B28 215 a b c d e _ (nI 20) (hp I L ρ) = _
    unfold X12_feed_B28 X12_feed_J124
    rw [h_if, if_pos (by decide), gi_215, h3]
    rfl
  | succ m ih =>
    intro k I fuel h1 h2 h3
    obtain ⟨f, rfl⟩ : ∃ f, fuel = f + 1 := ⟨fuel - 1, by omega⟩
    rw [h_fix]
    generalize hg : z_fix (fun r x => X12_feed_B28 215 a b c d e r x) f = rec
    show ∃ I', X12_feed_B28 215 a b c d e rec (nI k) (hp I L ρ) = _ ∧ _
    have hj : ∀ w : Int32, w = f_w a b c d e k → ∃ I', X12_feed_J81 rec 215 a b c d e (nI k) w (hp I L ρ) = some (some (.int (nI (n + 20))), hp I' L ρ) ∧ (∀ x, x ≠ 215 → x ≠ 216 → I' x = I x) ∧ (∀ q, q ≠ 1 → I' 215 q = I 215 q) ∧ I' 215 1 = nI (n + 20) ∧ (∀ j, (j < n + k ∨ n + 20 ≤ j) → I' 216 j = I 216 j) ∧ ∀ i, k ≤ i → i < 20 → I' 216 (n + i) = f_byte (f_w a b c d e i) (i % 4) := by
      intro w hw
      unfold X12_feed_J81
      rw [gr_215_0, gi_215, h3, h_ck (by decide), show (4 : Int32) = nI 4 from rfl, show (3 : Int32) = nI 3 from rfl, show (8 : Int32) = nI 8 from rfl, pk_rem (by omega) (by omega) (by omega), pk_sub (by omega), pk_mul, f_and31 (by omega), sa_216 (by omega), gi_215, u2r (show (215 : Nat) ≠ 216 by decide), h3, pi_215, nI_1, nI_1, ← hg]
      obtain ⟨I', q1, q2, q3, q4, q5, q6⟩ := ih (k + 1) (u2 (u2 I 216 (n + k) ((w >>> nI (8 * (3 - k % 4))) &&& 255)) 215 1 (nI (n + k + 1))) f (by omega) (by omega) (by rw [u2_ap, if_pos ⟨rfl, rfl⟩]; rfl)
      refine ⟨I', q1, fun x h4 h5 => by rw [q2 x h4 h5, u2r h4, u2r h5], fun q hq => by rw [q3 q hq, u2_ap, if_neg (by omega), u2_ap, if_neg (by omega)], q4, fun j hj => by rw [q5 j (by omega), u2_ap, if_neg (by omega), u2_ap, if_neg (by omega)], fun i h4 h5 => ?_⟩
      by_cases c1 : i = k
      · rw [c1, q5 _ (by omega), u2_ap, if_neg (by omega), u2_ap, if_pos ⟨rfl, rfl⟩, hw]
        rfl
      · exact q6 i (by omega) h5
    unfold X12_feed_B28
    rw [h_if, if_neg (show ¬ (20 : Int32) ≤ nI k from nI_ge (b := 20) (by omega) (by omega)), h_if]
    have l4 : (4 : Int32) ≤ nI k ↔ 4 ≤ k := nI_le' (a := 4) (by omega) (by omega)
    have l8 : (8 : Int32) ≤ nI k ↔ 8 ≤ k := nI_le' (a := 8) (by omega) (by omega)
    have l12 : (12 : Int32) ≤ nI k ↔ 12 ≤ k := nI_le' (a := 12) (by omega) (by omega)
    have l16 : (16 : Int32) ≤ nI k ↔ 16 ≤ k := nI_le' (a := 16) (by omega) (by omega)
    by_cases c1 : 4 ≤ k
    · rw [if_pos (l4.mpr c1), h_if]
      by_cases c2 : 8 ≤ k
      · rw [if_pos (l8.mpr c2), h_if]
        by_cases c3 : 12 ≤ k
        · rw [if_pos (l12.mpr c3), h_if]
          by_cases c4 : 16 ≤ k
          · rw [if_pos (l16.mpr c4)]
            exact hj e (by unfold f_w; rw [if_neg (by omega), if_neg (by omega), if_neg (by omega), if_neg (by omega)])
          · rw [if_neg (fun q => c4 (l16.mp q))]
            exact hj d (by unfold f_w; rw [if_neg (by omega), if_neg (by omega), if_neg (by omega), if_pos (by omega)])
        · rw [if_neg (fun q => c3 (l12.mp q))]
          exact hj c (by unfold f_w; rw [if_neg (by omega), if_neg (by omega), if_pos (by omega)])
      · rw [if_neg (fun q => c2 (l8.mp q))]
        exact hj b (by unfold f_w; rw [if_neg (by omega), if_pos (by omega)])
    · rw [if_neg (fun q => c1 (l4.mp q))]
      exact hj a (by unfold f_w; rw [if_pos (by omega)])
theorem X12_feed_r (hok : okA A) (hM : RelM I L A) (a b c d e : Int32) : runM (X12_feed 215 a b c d e) I L ρ (.int (r_feed A)) (n_feed A a b c d e) := by
  have hn := hok.2.1.1
  unfold X12_feed r_feed n_feed
  by_cases q : a_n A + 20 ≤ 1600
  · obtain ⟨I', e1, f1, g1, c1, d1, b1⟩ := X12_feed_lp (L := L) (ρ := ρ) (a := a) (b := b) (c := c) (d := d) (e := e) q 20 0 I zFU (by omega) (by unfold zFU; omega) hM.2.2.1.1
    refine ⟨I', L, ?_, ?_, fun x hx => ⟨f1 x (by omega) (by omega), rfl⟩⟩
    · rw [if_pos q, gi_215, hM.2.2.1.1, show (20 : Int32) = nI 20 from rfl, nI_add, h_if, if_pos (show nI (a_n A + 20) ≤ (1600 : Int32) from nI_le (b := 1600) q (by omega))]
      exact e1
    · rw [if_pos q]
      have hM1 : RelM I L (wT A (a_T A) (a_n A)) := hM
      obtain ⟨h1, h2, h3, h4, h5, h6, h7, h8, h9, h10, h11, h12⟩ := hM
      have qf : ∀ k, fieldM k → k ≠ 1 → I' 215 k = I 215 k := fun k _ hk => g1 k hk
      refine ⟨chM_fr (fun a ha => f1 a (by omega) (by omega)) (g1 53 (by omega)) h1, ?_, ⟨c1, fun j hj => ?_⟩, ?_, ?_, ?_, ?_, ?_, ?_, ?_, h11, ?_⟩
      · rw [f1 246 (by omega) (by omega)]; exact h2
      · show I' 216 j = f_tape (a_T A) (a_n A) a b c d e j
        unfold f_tape
        by_cases q1 : a_n A ≤ j
        · have hj2 : j < a_n A + 20 := hj
          obtain ⟨i, rfl⟩ : ∃ i, j = a_n A + i := ⟨j - a_n A, by omega⟩
          rw [if_pos (by omega), Nat.add_sub_cancel_left]
          exact b1 i (by omega) (by omega)
        · rw [if_neg (by omega), d1 j (by omega)]
          exact h3.2 j (by omega)
      · rw [f1 255 (by omega) (by omega)]; exact h4
      · rw [g1 54 (by omega), g1 64 (by omega)]; exact h5
      · unfold paM
        rw [g1 75 (by omega), g1 76 (by omega), f1 266 (by omega) (by omega)]; exact h6
      · rw [g1 71 (by omega), f1 264 (by omega) (by omega)]; exact h7
      · rw [g1 115 (by omega), f1 296 (by omega) (by omega)]; exact h8
      · rw [f1 217 (by omega) (by omega)]; exact h9
      · rw [g1 7 (by omega), g1 8 (by omega)]; exact h10
      · intro x hx i hi
        have := wdL_at x hx
        rw [f1 x.1 (by omega) (by omega)]
        exact h12 x hx i hi
  · refine ⟨u2 I 217 0 (I 217 0 + 1), L, ?_, ?_, fun x hx => ⟨u2r (by omega), rfl⟩⟩
    · rw [if_neg q, gi_215, hM.2.2.1.1, show (20 : Int32) = nI 20 from rfl, nI_add, h_if, if_neg (show ¬ nI (a_n A + 20) ≤ (1600 : Int32) from nI_ge (a := 1600) (by omega) (by omega)), gr_215_9, lal_0, la_217 (by decide), sal_0, sa_217 (by decide)]
      rfl
    · rw [if_neg q]
      exact refuse_M hM (by omega)
end B42
