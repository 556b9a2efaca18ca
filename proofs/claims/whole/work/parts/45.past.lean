/-! the past: states are copied; the class's and the reference's -/
section B45
variable {I : Nat → Nat → Int32} {L : Nat → Nat → Int64} {ρ : zRh} {h : zH} {A : aT} {N : Nat} {C : cT} {s : sT}
/-- numbers copied from a row to another -/
def cpI (I : Nat → Nat → Int32) (a b n : Nat) : Nat → Nat → Int32 := fun x j => if x = b ∧ j < n then I a j else I x j
theorem h_cp {f : zM} {a b n : Nat} (h1 : a < 297) (h2 : (zK a).1 = 20) (h3 : b < 297) (h4 : (zK b).1 = 20) (hn : n < 1000) (h5 : n ≤ (zK a).2) (h6 : n ≤ (zK b).2) : z_cp a 0 b 0 (nI n) f (hp I L ρ) = f (hp (cpI I a b n) L ρ) := by
  unfold z_cp
  have e : (nI n).toInt = n := nI_toI (by omega)
  have e0 : (0 : Int32).toInt = 0 := rfl
  rw [if_pos ⟨⟨h1, h2⟩, ⟨h3, h4⟩, by rw [e0]; omega, by rw [e0]; omega, by rw [e]; omega, by show (0 : Int32).toInt + (nI n).toInt ≤ ((zK a).2 : Int); rw [e, e0]; omega, by show (0 : Int32).toInt + (nI n).toInt ≤ ((zK b).2 : Int); rw [e, e0]; omega⟩]
  congr 1
  unfold zCp
  rw [nI_clamp (by omega), show (0 : Int32).toNatClampNeg = 0 from rfl]
  show ((297, zK), _, L, zRf ρ) = _
  unfold hp cpI
  congr 2
  funext x j
  simp
/-- the cells that hold a state -/
def isSt (b : Nat) : Prop := b = 41 ∨ b = 54 ∨ ∃ i, i < 20 ∧ b = 72 + 7 * i
theorem st_k : ∀ i, i < 20 → (zK (72 + 7 * i) = (8, 8)) ∧ (zK (72 + 7 * i + 1) = (20, 12)) ∧ (zK (72 + 7 * i + 2) = (20, 12)) ∧ (zK (72 + 7 * i + 3) = (20, 12)) ∧ (zK (72 + 7 * i + 4) = (20, 12)) ∧ (zK (72 + 7 * i + 5) = (20, 72)) ∧ zK (72 + 7 * i + 6) = (20, 72) := by decide +kernel
theorem st_zK {b : Nat} (hb : isSt b) : b + 6 < 297 ∧ (zK b = (8, 8)) ∧ (zK (b + 1) = (20, 12)) ∧ (zK (b + 2) = (20, 12)) ∧ (zK (b + 3) = (20, 12)) ∧ (zK (b + 4) = (20, 12)) ∧ (zK (b + 5) = (20, 72)) ∧ zK (b + 6) = (20, 72) := by
  rcases hb with rfl | rfl | ⟨i, hi, rfl⟩
  · exact ⟨by omega, rfl, rfl, rfl, rfl, rfl, rfl, rfl⟩
  · exact ⟨by omega, rfl, rfl, rfl, rfl, rfl, rfl, rfl⟩
  · exact ⟨by omega, st_k i hi⟩
theorem st_zR {b : Nat} (hb : isSt b) (ρ : zRh) : zRf ρ b 2 = some (b + 1) ∧ zRf ρ b 3 = some (b + 2) ∧ zRf ρ b 4 = some (b + 3) ∧ zRf ρ b 5 = some (b + 4) ∧ zRf ρ b 6 = some (b + 5) ∧ zRf ρ b 7 = some (b + 6) := by
  rcases hb with rfl | rfl | ⟨i, hi, rfl⟩
  · exact ⟨rfl, rfl, rfl, rfl, rfl, rfl⟩
  · exact ⟨rfl, rfl, rfl, rfl, rfl, rfl⟩
  · have hc : i = 0 ∨ i = 1 ∨ i = 2 ∨ i = 3 ∨ i = 4 ∨ i = 5 ∨ i = 6 ∨ i = 7 ∨ i = 8 ∨ i = 9 ∨ i = 10 ∨ i = 11 ∨ i = 12 ∨ i = 13 ∨ i = 14 ∨ i = 15 ∨ i = 16 ∨ i = 17 ∨ i = 18 ∨ i = 19 := by omega
    rcases hc with rfl | rfl | rfl | rfl | rfl | rfl | rfl | rfl | rfl | rfl | rfl | rfl | rfl | rfl | rfl | rfl | rfl | rfl | rfl | rfl <;> exact ⟨rfl, rfl, rfl, rfl, rfl, rfl⟩
theorem gi_st {F : Int32 → zM} {b k : Nat} (hb : isSt b) : z_gi 8 k b F (hp I L ρ) = F (I b k) (hp I L ρ) := h_gi (by have := (st_zK hb).1; omega) (by rw [(st_zK hb).2.1])
theorem pi_st {f : zM} {b k : Nat} {x : Int32} (hb : isSt b) : z_pi 8 k b x f (hp I L ρ) = f (hp (u2 I b k x) L ρ) := h_pi (by have := (st_zK hb).1; omega) (by rw [(st_zK hb).2.1])
theorem rc_st {f : zM} {b : Nat} (hb : isSt b) : z_rc 8 b f (hp I L ρ) = f (hp I L ρ) := h_rc (by have := (st_zK hb).1; omega) (by rw [(st_zK hb).2.1])
theorem gr_st_2 {F : Nat → zM} {b : Nat} (hb : isSt b) : z_gr 8 2 b F (hp I L ρ) = F (b + 1) (hp I L ρ) := h_gr (by have := (st_zK hb).1; omega) (by rw [(st_zK hb).2.1]) ((st_zR hb ρ).1)
theorem gr_st_3 {F : Nat → zM} {b : Nat} (hb : isSt b) : z_gr 8 3 b F (hp I L ρ) = F (b + 2) (hp I L ρ) := h_gr (by have := (st_zK hb).1; omega) (by rw [(st_zK hb).2.1]) ((st_zR hb ρ).2.1)
theorem gr_st_4 {F : Nat → zM} {b : Nat} (hb : isSt b) : z_gr 8 4 b F (hp I L ρ) = F (b + 3) (hp I L ρ) := h_gr (by have := (st_zK hb).1; omega) (by rw [(st_zK hb).2.1]) ((st_zR hb ρ).2.2.1)
theorem gr_st_5 {F : Nat → zM} {b : Nat} (hb : isSt b) : z_gr 8 5 b F (hp I L ρ) = F (b + 4) (hp I L ρ) := h_gr (by have := (st_zK hb).1; omega) (by rw [(st_zK hb).2.1]) ((st_zR hb ρ).2.2.2.1)
theorem gr_st_6 {F : Nat → zM} {b : Nat} (hb : isSt b) : z_gr 8 6 b F (hp I L ρ) = F (b + 5) (hp I L ρ) := h_gr (by have := (st_zK hb).1; omega) (by rw [(st_zK hb).2.1]) ((st_zR hb ρ).2.2.2.2.1)
theorem gr_st_7 {F : Nat → zM} {b : Nat} (hb : isSt b) : z_gr 8 7 b F (hp I L ρ) = F (b + 6) (hp I L ρ) := h_gr (by have := (st_zK hb).1; omega) (by rw [(st_zK hb).2.1]) ((st_zR hb ρ).2.2.2.2.2)
theorem len_st {F : Int32 → zM} {b : Nat} (hb : isSt b) : (z_len (b + 5) F (hp I L ρ) = F (nI 72) (hp I L ρ)) ∧ z_len (b + 6) F (hp I L ρ) = F (nI 72) (hp I L ρ) := by
  obtain ⟨h0, -, -, -, -, -, h5, h6⟩ := st_zK hb
  refine ⟨?_, ?_⟩
  · rw [h_len (by omega) (by rw [h5]; decide) (by rw [h5]; decide), h5]
  · rw [h_len (by omega) (by rw [h6]; decide) (by rw [h6]; decide), h6]
/-- a state is another's copy -/
theorem X8_take_h {b c : Nat} (hb : isSt b) (hc : isSt c) (hd : b + 7 ≤ c ∨ c + 7 ≤ b) : ∃ I', X8_take b c (hp I L ρ) = some (none, hp I' L ρ) ∧ (∀ a, a < b ∨ b + 7 ≤ a → I' a = I a) ∧ ∀ {s}, stX c I s → stX b I' s := by
  obtain ⟨k0, -, k1, k2, k3, k4, k5, k6⟩ := st_zK hb
  obtain ⟨l0, -, l1, l2, l3, l4, l5, l6⟩ := st_zK hc
  unfold X8_take
  rw [gi_st hc, pi_st hb, gi_st hc, pi_st hb, gr_st_2 hc, gr_st_2 hb, show (12 : Int32) = nI 12 from rfl, h_cp (by omega) (by rw [l1]) (by omega) (by rw [k1]) (by omega) (by rw [l1]; decide) (by rw [k1]; decide),
    gr_st_3 hc, gr_st_3 hb, h_cp (by omega) (by rw [l2]) (by omega) (by rw [k2]) (by omega) (by rw [l2]; decide) (by rw [k2]; decide),
    gr_st_4 hc, gr_st_4 hb, h_cp (by omega) (by rw [l3]) (by omega) (by rw [k3]) (by omega) (by rw [l3]; decide) (by rw [k3]; decide),
    gr_st_5 hc, gr_st_5 hb, h_cp (by omega) (by rw [l4]) (by omega) (by rw [k4]) (by omega) (by rw [l4]; decide) (by rw [k4]; decide),
    gr_st_6 hc, gr_st_6 hb, gr_st_6 hb, (len_st hb).1, h_cp (by omega) (by rw [l5]) (by omega) (by rw [k5]) (by omega) (by rw [l5]; decide) (by rw [k5]; decide),
    gr_st_7 hc, gr_st_7 hb, gr_st_7 hb, (len_st hb).2, h_cp (by omega) (by rw [l6]) (by omega) (by rw [k6]) (by omega) (by rw [l6]; decide) (by rw [k6]; decide), h_ret]
  refine ⟨_, rfl, fun a ha => ?_, fun {s} hX => ?_⟩
  · funext j
    unfold cpI u2
    repeat rw [if_neg (by omega)]
  · obtain ⟨⟨q0, q1⟩, p1, p2, p3, p4, p5, p6⟩ := hX
    refine ⟨⟨?_, ?_⟩, fun j hj => ?_, fun j hj => ?_, fun j hj => ?_, fun j hj => ?_, fun j hj => ?_, fun j hj => ?_⟩
    · rw [← q0]
      unfold cpI u2
      rw [if_neg (by omega), if_neg (by omega), if_neg (by omega), if_neg (by omega), if_neg (by omega), if_neg (by omega), if_neg (by omega), if_pos ⟨rfl, rfl⟩]
    · rw [← q1]
      unfold cpI u2
      rw [if_neg (by omega), if_neg (by omega), if_neg (by omega), if_neg (by omega), if_neg (by omega), if_neg (by omega), if_pos ⟨rfl, rfl⟩, if_neg (by omega)]
    · rw [← p1 j hj]
      unfold cpI u2
      rw [if_neg (by omega), if_neg (by omega), if_neg (by omega), if_neg (by omega), if_neg (by omega), if_pos ⟨rfl, hj⟩, if_neg (by omega), if_neg (by omega)]
    · rw [← p2 j hj]
      unfold cpI u2
      rw [if_neg (by omega), if_neg (by omega), if_neg (by omega), if_neg (by omega), if_pos ⟨rfl, hj⟩, if_neg (by omega), if_neg (by omega), if_neg (by omega)]
    · rw [← p3 j hj]
      unfold cpI u2
      rw [if_neg (by omega), if_neg (by omega), if_neg (by omega), if_pos ⟨rfl, hj⟩, if_neg (by omega), if_neg (by omega), if_neg (by omega), if_neg (by omega)]
    · rw [← p4 j hj]
      unfold cpI u2
      rw [if_neg (by omega), if_neg (by omega), if_pos ⟨rfl, hj⟩, if_neg (by omega), if_neg (by omega), if_neg (by omega), if_neg (by omega), if_neg (by omega)]
    · rw [← p5 j hj]
      unfold cpI u2
      rw [if_neg (by omega), if_pos ⟨rfl, hj⟩, if_neg (by omega), if_neg (by omega), if_neg (by omega), if_neg (by omega), if_neg (by omega), if_neg (by omega)]
    · rw [← p6 j hj]
      unfold cpI u2
      rw [if_pos ⟨rfl, hj⟩, if_neg (by omega), if_neg (by omega), if_neg (by omega), if_neg (by omega), if_neg (by omega), if_neg (by omega), if_neg (by omega)]
theorem lr_69 {F : Nat → zM} {j : Nat} (hj : j < 20) : z_lr 69 (nI j) F (hp I L ρ) = F (72 + 7 * j) (hp I L ρ) := by
  have e : (nI j).toInt = j := nI_toI (by omega)
  have e2 : zRf ρ 69 j = some (72 + 7 * j) := by
    have hc : j = 0 ∨ j = 1 ∨ j = 2 ∨ j = 3 ∨ j = 4 ∨ j = 5 ∨ j = 6 ∨ j = 7 ∨ j = 8 ∨ j = 9 ∨ j = 10 ∨ j = 11 ∨ j = 12 ∨ j = 13 ∨ j = 14 ∨ j = 15 ∨ j = 16 ∨ j = 17 ∨ j = 18 ∨ j = 19 := by omega
    rcases hc with rfl | rfl | rfl | rfl | rfl | rfl | rfl | rfl | rfl | rfl | rfl | rfl | rfl | rfl | rfl | rfl | rfl | rfl | rfl | rfl <;> rfl
  unfold z_lr
  rw [if_pos ⟨⟨by show 69 < 297; omega, rfl⟩, by rw [e]; omega, by rw [e]; show (j : Int) < ((20 : Nat) : Int); omega⟩, nI_clamp (by omega)]
  show (match zRf ρ 69 j with | some b => F b (hp I L ρ) | none => none) = _
  rw [e2]
def p_push (q : sT × kT) (P : List (sT × kT)) : List (sT × kT) := (q :: P).take 20
theorem p_push_len (q : sT × kT) (P : List (sT × kT)) (hP : P.length ≤ 20) : (p_push q P).length = if P.length = 20 then 20 else P.length + 1 := by
  unfold p_push
  rw [List.length_take, List.length_cons]
  split <;> omega
theorem p_push_at {q : sT × kT} {P : List (sT × kT)} {i : Nat} {x : sT × kT} (h : (p_push q P)[i]? = some x) : i < 20 ∧ ((i = 0 ∧ x = q) ∨ ∃ k, i = k + 1 ∧ P[k]? = some x) := by
  unfold p_push at h
  rw [List.getElem?_take] at h
  by_cases c : i < 20
  · rw [if_pos c] at h
    refine ⟨c, ?_⟩
    rcases i with _ | k
    · left; simp at h; exact ⟨rfl, h.symm⟩
    · right; simp at h; exact ⟨k, rfl, h⟩
  · rw [if_neg c] at h; simp at h
theorem X6_remember_h {K : kT} {P : List (sT × kT)} (hP : P.length ≤ 20) (hs : stX 41 I s) (hX : paG 6 I K P N) : ∃ I', X6_remember 68 41 (hp I L ρ) = some (none, hp I' L ρ) ∧ (∀ a, a ≠ 68 → a ≠ 70 → (a < 72 ∨ 212 ≤ a) → I' a = I a) ∧ paG 0 I' K (p_push (s, K) P) N := by
  obtain ⟨hw, nx, lg, κ, ⟨h1, h2, h3, h4⟩, h5, h6, h7, h8, h9⟩ := hX
  have hb : isSt (72 + 7 * nx) := Or.inr (Or.inr ⟨nx, h4, rfl⟩)
  obtain ⟨I1, e1, f1, g1⟩ := X8_take_h (I := I) (L := L) (ρ := ρ) (b := 72 + 7 * nx) (c := 41) hb (Or.inl rfl) (by omega)
  have r68 : I1 68 = I 68 := f1 68 (by omega)
  have r70 : I1 70 = I 70 := f1 70 (by omega)
  have r71 : I1 71 = I 71 := f1 71 (by omega)
  have hlen := p_push_len (s, K) P hP
  have r680 : (u2 (u2 I1 70 nx (nI (κ 0))) 68 1 (nI ((nx + 1) % 20))) 68 0 = nI P.length := by
    rw [u2_ap, if_neg (by omega), u2r (show (68 : Nat) ≠ 70 by decide), r68, h2]
  have hm : (nx + 1) % 20 < 20 := Nat.mod_lt _ (by omega)
  refine ⟨u2 (u2 (u2 I1 70 nx (nI (κ 0))) 68 1 (nI ((nx + 1) % 20))) 68 0 (nI (p_push (s, K) P).length), ?_, fun a c1 c2 c3 => ?_, hw, (nx + 1) % 20, lg, fun i => κ (i - 1), ⟨?_, ?_, ?_, hm⟩, ?_, h6, h7, fun i q hq => ?_, fun i j hij hj => ?_⟩
  · unfold X6_remember
    rw [gr_68_2, gi_68, h3, lr_69 h4, rc_st hb, h_cv e1, gr_68_3, gi_68, r68, h3, gi_68, r68, h1, sa_70 h4, gi_68, u2r (show (68 : Nat) ≠ 70 by decide), r68, h3, h_ck (by decide), nI_1, show (20 : Int32) = nI 20 from rfl, pk_rem (by omega) (by omega) (by omega), pi_68, gi_68, r680, nI_1, pi_68, hlen]
    simp only [nI_lt' (show 20 < 2147483648 by omega) (show P.length + 1 < 2147483648 by omega)]
    by_cases c : P.length = 20
    · rw [if_pos c, if_pos (by omega)]; rfl
    · rw [if_neg c, if_neg (by omega)]; rfl
  · rw [u2r c1, u2r c1, u2r c2]
    exact f1 a (by omega)
  · rw [u2_ap, if_neg (by omega), u2_ap, if_neg (by omega), u2r (show (68 : Nat) ≠ 70 by decide), r68]; exact h1
  · rw [u2_ap, if_pos ⟨rfl, rfl⟩]
  · rw [u2_ap, if_neg (by omega), u2_ap, if_pos ⟨rfl, rfl⟩]
  · unfold lgX
    rw [u2r (show (71 : Nat) ≠ 68 by decide), u2r (show (71 : Nat) ≠ 68 by decide), u2r (show (71 : Nat) ≠ 70 by decide), r71]
    exact h5
  · obtain ⟨c20, hc⟩ := p_push_at hq
    rcases hc with ⟨rfl, rfl⟩ | ⟨k, rfl, hk⟩
    · rw [show ((nx + 1) % 20 + 19 - 0) % 20 = nx by omega]
      refine ⟨stX_fr (fun a x y => by rw [u2r (by omega), u2r (by omega), u2r (by omega)]) (g1 hs), ?_, h6.2.1, h7⟩
      rw [u2r (by omega), u2r (by omega), u2_ap, if_pos ⟨rfl, rfl⟩]
    · obtain ⟨q1, q2, q3⟩ := h8 k q hk
      have hkl := (List.getElem?_eq_some_iff.mp hk).1
      have hne : (nx + 19 - k) % 20 ≠ nx := by omega
      have hm2 : (nx + 19 - k) % 20 < 20 := Nat.mod_lt _ (by omega)
      rw [show ((nx + 1) % 20 + 19 - (k + 1)) % 20 = (nx + 19 - k) % 20 by omega]
      refine ⟨stX_fr (fun a x y => by rw [u2r (by omega), u2r (by omega), u2r (by omega)]; exact f1 a (by omega)) q1, ?_, q3⟩
      rw [u2r (by omega), u2r (by omega), u2_ap, if_neg (by omega), r70]; exact q2
  · have hj2 : j ≤ P.length + 1 := by rw [hlen] at hj; split at hj <;> omega
    obtain ⟨p1, p2, p3⟩ := h9 (i - 1) (j - 1) (by omega) (by omega)
    refine ⟨p1, fun hi => ?_, fun hj1 => ?_⟩
    · by_cases c : i = 1
      · by_cases c2 : j = 1
        · rw [c, c2]; omega
        · have := p3 (by omega)
          rw [c]
          show κ 0 ≤ κ (j - 1) + 6 * (j - 1)
          omega
      · have := p2 (by omega)
        show κ (i - 1) ≤ κ (j - 1) + _
        omega
    · show κ 0 ≤ κ (j - 1) + 6 * (j - 1) + 0
      by_cases c2 : j = 1
      · rw [c2]; show κ 0 ≤ κ 0 + _; omega
      · have := p3 (by omega)
        omega
end B45
