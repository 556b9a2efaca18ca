/-! the past: states are copied; the class's and the reference's -/
section B45
variable {I : Nat → Nat → Int32} {L : Nat → Nat → Int64} {ρ : zRh} {h : zH} {A : aT} {N : Nat} {C : cT} {s : sT}
/-- numbers copied from a row to another -/
def cpI (I : Nat → Nat → Int32) (a b n : Nat) : Nat → Nat → Int32 := fun x j => if x = b ∧ j < n then I a j else I x j
theorem h_cp {f : zM} {a b n : Nat} (h1 : a < 297) (h2 : (zK a).1 = 20) (h3 : b < 297) (h4 : (zK b).1 = 20) (hn : n < 1000) (h5 : n ≤ (zK a).2) (h6 : n ≤ (zK b).2) : z_cp a 0 b 0 (nI n) f (hp I L ρ) = f (hp (cpI I a b n) L ρ) := by
  unfold z_cp
  have e : (nI n).toInt = n := nI_toI (by omega)
  have e0 : (0 : Int32).toInt = 0 := rfl
  rw [if_pos ⟨⟨h1, h2⟩, ⟨h3, h4⟩, by rw [e0]; omega, by rw [e0]; omega, by rw [e]; omega, by show (0 : Int32).toInt + (nI n).toInt ≤ ((zK a).2 : Int); rw [e, e0]; omega, by show (0 : Int32).toInt + (nI n).toInt ≤ ((zK b).2 : Int); rw [e, e0]; omega⟩]
  congr 1
  unfold zCp
  rw [nI_clamp (by omega), show (0 : Int32).toNatClampNeg = 0 from rfl]
  show ((297, zK), _, L, zRf ρ) = _
  unfold hp cpI
  congr 2
  funext x j
  simp
/-- the cells that hold a state -/
def isSt (b : Nat) : Prop := b = 41 ∨ b = 54 ∨ ∃ i, i < 20 ∧ b = 72 + 7 * i
theorem st_k : ∀ i, i < 20 → (zK (72 + 7 * i) = (8, 8)) ∧ (zK (72 + 7 * i + 1) = (20, 12)) ∧ (zK (72 + 7 * i + 2) = (20, 12)) ∧ (zK (72 + 7 * i + 3) = (20, 12)) ∧ (zK (72 + 7 * i + 4) = (20, 12)) ∧ (zK (72 + 7 * i + 5) = (20, 72)) ∧ zK (72 + 7 * i + 6) = (20, 72) := by decide +kernel
theorem st_zK {b : Nat} (hb : isSt b) : b + 6 < 297 ∧ (zK b = (8, 8)) ∧ (zK (b + 1) = (20, 12)) ∧ (zK (b + 2) = (20, 12)) ∧ (zK (b + 3) = (20, 12)) ∧ (zK (b + 4) = (20, 12)) ∧ (zK (b + 5) = (20, 72)) ∧ zK (b + 6) = (20, 72) := by
  rcases hb with rfl | rfl | ⟨i, hi, rfl⟩
  · exact ⟨by omega, rfl, rfl, rfl, rfl, rfl, rfl, rfl⟩
  · exact ⟨by omega, rfl, rfl, rfl, rfl, rfl, rfl, rfl⟩
  · exact ⟨by omega, st_k i hi⟩
theorem st_zR {b : Nat} (hb : isSt b) (ρ : zRh) : zRf ρ b 2 = some (b + 1) ∧ zRf ρ b 3 = some (b + 2) ∧ zRf ρ b 4 = some (b + 3) ∧ zRf ρ b 5 = some (b + 4) ∧ zRf ρ b 6 = some (b + 5) ∧ zRf ρ b 7 = some (b + 6) := by
  rcases hb with rfl | rfl | ⟨i, hi, rfl⟩
  · exact ⟨rfl, rfl, rfl, rfl, rfl, rfl⟩
  · exact ⟨rfl, rfl, rfl, rfl, rfl, rfl⟩
  · have hc : i = 0 ∨ i = 1 ∨ i = 2 ∨ i = 3 ∨ i = 4 ∨ i = 5 ∨ i = 6 ∨ i = 7 ∨ i = 8 ∨ i = 9 ∨ i = 10 ∨ i = 11 ∨ i = 12 ∨ i = 13 ∨ i = 14 ∨ i = 15 ∨ i = 16 ∨ i = 17 ∨ i = 18 ∨ i = 19 := by omega
    rcases hc with rfl | rfl | rfl | rfl | rfl | rfl | rfl | rfl | rfl | rfl | rfl | rfl | rfl | rfl | rfl | rfl | rfl | rfl | rfl | rfl <;> exact ⟨rfl, rfl, rfl, rfl, rfl, rfl⟩
theorem gi_st {F : Int32 → zM} {b k : Nat} (hb : isSt b) : z_gi 8 k b F (hp I L ρ) = F (I b k) (hp I L ρ) := h_gi (by have := (st_zK hb).1; omega) (by rw [(st_zK hb).2.1])
theorem pi_st {f : zM} {b k : Nat} {x : Int32} (hb : isSt b) : z_pi 8 k b x f (hp I L ρ) = f (hp (u2 I b k x) L ρ) := h_pi (by have := (st_zK hb).1; omega) (by rw [(st_zK hb).2.1])
theorem rc_st {f : zM} {b : Nat} (hb : isSt b) : z_rc 8 b f (hp I L ρ) = f (hp I L ρ) := h_rc (by have := (st_zK hb).1; omega) (by rw [(st_zK hb).2.1])
theorem gr_st_2 {F : Nat → zM} {b : Nat} (hb : isSt b) : z_gr 8 2 b F (hp I L ρ) = F (b + 1) (hp I L ρ) := h_gr (by have := (st_zK hb).1; omega) (by rw [(st_zK hb).2.1]) ((st_zR hb ρ).1)
theorem gr_st_3 {F : Nat → zM} {b : Nat} (hb : isSt b) : z_gr 8 3 b F (hp I L ρ) = F (b + 2) (hp I L ρ) := h_gr (by have := (st_zK hb).1; omega) (by rw [(st_zK hb).2.1]) ((st_zR hb ρ).2.1)
theorem gr_st_4 {F : Nat → zM} {b : Nat} (hb : isSt b) : z_gr 8 4 b F (hp I L ρ) = F (b + 3) (hp I L ρ) := h_gr (by have := (st_zK hb).1; omega) (by rw [(st_zK hb).2.1]) ((st_zR hb ρ).2.2.1)
theorem gr_st_5 {F : Nat → zM} {b : Nat} (hb : isSt b) : z_gr 8 5 b F (hp I L ρ) = F (b + 4) (hp I L ρ) := h_gr (by have := (st_zK hb).1; omega) (by rw [(st_zK hb).2.1]) ((st_zR hb ρ).2.2.2.1)
theorem gr_st_6 {F : Nat → zM} {b : Nat} (hb : isSt b) : z_gr 8 6 b F (hp I L ρ) = F (b + 5) (hp I L ρ) := h_gr (by have := (st_zK hb).1; omega) (by rw [(st_zK hb).2.1]) ((st_zR hb ρ).2.2.2.2.1)
theorem gr_st_7 {F : Nat → zM} {b : Nat} (hb : isSt b) : z_gr 8 7 b F (hp I L ρ) = F (b + 6) (hp I L ρ) := h_gr (by have := (st_zK hb).1; omega) (by rw [(st_zK hb).2.1]) ((st_zR hb ρ).2.2.2.2.2)
theorem len_st {F : Int32 → zM} {b : Nat} (hb : isSt b) : (z_len (b + 5) F (hp I L ρ) = F (nI 72) (hp I L ρ)) ∧ z_len (b + 6) F (hp I L ρ) = F (nI 72) (hp I L ρ) := by
  obtain ⟨h0, -, -, -, -, -, h5, h6⟩ := st_zK hb
  refine ⟨?_, ?_⟩
  · rw [h_len (by omega) (by rw [h5]; decide) (by rw [h5]; decide), h5]
  · rw [h_len (by omega) (by rw [h6]; decide) (by rw [h6]; decide), h6]
/-- a state is another's copy -/
theorem X8_take_h {b c : Nat} (hb : isSt b) (hc : isSt c) (hd : b + 7 ≤ c ∨ c + 7 ≤ b) : ∃ I', X8_take b c (hp I L ρ) = some (none, hp I' L ρ) ∧ (∀ a, a < b ∨ b + 7 ≤ a → I' a = I a) ∧ ∀ {s}, stX c I s → stX b I' s := by
  obtain ⟨k0, -, k1, k2, k3, k4, k5, k6⟩ := st_zK hb
  obtain ⟨l0, -, l1, l2, l3, l4, l5, l6⟩ := st_zK hc
  unfold X8_take
  rw [gi_st hc, pi_st hb, gi_st hc, pi_st hb, gr_st_2 hc, gr_st_2 hb, show (12 : Int32) = nI 12 from rfl, h_cp (by omega) (by rw [l1]) (by omega) (by rw [k1]) (by omega) (by rw [l1]; decide) (by rw [k1]; decide),
    gr_st_3 hc, gr_st_3 hb, h_cp (by omega) (by rw [l2]) (by omega) (by rw [k2]) (by omega) (by rw [l2]; decide) (by rw [k2]; decide),
    gr_st_4 hc, gr_st_4 hb, h_cp (by omega) (by rw [l3]) (by omega) (by rw [k3]) (by omega) (by rw [l3]; decide) (by rw [k3]; decide),
    gr_st_5 hc, gr_st_5 hb, h_cp (by omega) (by rw [l4]) (by omega) (by rw [k4]) (by omega) (by rw [l4]; decide) (by rw [k4]; decide),
    gr_st_6 hc, gr_st_6 hb, gr_st_6 hb, (len_st hb).1, h_cp (by omega) (by rw [l5]) (by omega) (by rw [k5]) (by omega) (by rw [l5]; decide) (by rw [k5]; decide),
    gr_st_7 hc, gr_st_7 hb, gr_st_7 hb, (len_st hb).2, h_cp (by omega) (by rw [l6]) (by omega) (by rw [k6]) (by omega) (by rw [l6]; decide) (by rw [k6]; decide), h_ret]
  refine ⟨_, rfl, fun a ha => ?_, fun {s} hX => ?_⟩
  · funext j
    unfold cpI u2
    repeat rw [if_neg (by omega)]
  · obtain ⟨⟨q0, q1⟩, p1, p2, p3, p4, p5, p6⟩ := hX
    refine ⟨⟨?_, ?_⟩, fun j hj => ?_, fun j hj => ?_, fun j hj => ?_, fun j hj => ?_, fun j hj => ?_, fun j hj => ?_⟩
    · rw [← q0]
      unfold cpI u2
      rw [if_neg (by omega), if_neg (by omega), if_neg (by omega), if_neg (by omega), if_neg (by omega), if_neg (by omega), if_neg (by omega), if_pos ⟨rfl, rfl⟩]
    · rw [← q1]
      unfold cpI u2
      rw [if_neg (by omega), if_neg (by omega), if_neg (by omega), if_neg (by omega), if_neg (by omega), if_neg (by omega), if_pos ⟨rfl, rfl⟩, if_neg (by omega)]
    · rw [← p1 j hj]
      unfold cpI u2
      rw [if_neg (by omega), if_neg (by omega), if_neg (by omega), if_neg (by omega), if_neg (by omega), if_pos ⟨rfl, hj⟩, if_neg (by omega), if_neg (by omega)]
    · rw [← p2 j hj]
      unfold cpI u2
      rw [if_neg (by omega), if_neg (by omega), if_neg (by omega), if_neg (by omega), if_pos ⟨rfl, hj⟩, if_neg (by omega), if_neg (by omega), if_neg (by omega)]
    · rw [← p3 j hj]
      unfold cpI u2
      rw [if_neg (by omega), if_neg (by omega), if_neg (by omega), if_pos ⟨rfl, hj⟩, if_neg (by omega), if_neg (by omega), if_neg (by omega), if_neg (by omega)]
    · rw [← p4 j hj]
      unfold cpI u2
      rw [if_neg (by omega), if_neg (by omega), if_pos ⟨rfl, hj⟩, if_neg (by omega), if_neg (by omega), if_neg (by omega), if_neg (by omega), if_neg (by omega)]
    · rw [← p5 j hj]
      unfold cpI u2
      rw [if_neg (by omega), if_pos ⟨rfl, hj⟩, if_neg (by omega), if_neg (by omega), if_neg (by omega), if_neg (by omega), if_neg (by omega), if_neg (by omega)]
    · rw [← p6 j hj]
      unfold cpI u2
      rw [if_pos ⟨rfl, hj⟩, if_neg (by omega), if_neg (by omega), if_neg (by omega), if_neg (by omega), if_neg (by omega), if_neg (by omega), if_neg (by omega)]
theorem lr_69 {F : Nat → zM} {j : Nat} (hj : j < 20) : z_lr 69 (nI j) F (hp I L ρ) = F (72 + 7 * j) (hp I L ρ) := by
  have e : (nI j).toInt = j := nI_toI (by omega)
  have e2 : zRf ρ 69 j = some (72 + 7 * j) := by
    have hc : j = 0 ∨ j = 1 ∨ j = 2 ∨ j = 3 ∨ j = 4 ∨ j = 5 ∨ j = 6 ∨ j = 7 ∨ j = 8 ∨ j = 9 ∨ j = 10 ∨ j = 11 ∨ j = 12 ∨ j = 13 ∨ j = 14 ∨ j = 15 ∨ j = 16 ∨ j = 17 ∨ j = 18 ∨ j = 19 := by omega
    rcases hc with rfl | rfl | rfl | rfl | rfl | rfl | rfl | rfl | rfl | rfl | rfl | rfl | rfl | rfl | rfl | rfl | rfl | rfl | rfl | rfl <;> rfl
  unfold z_lr
  rw [if_pos ⟨⟨by show 69 < 297; omega, rfl⟩, by rw [e]; omega, by rw [e]; show (j : Int) < ((20 : Nat) : Int); omega⟩, nI_clamp (by omega)]
  show (match zRf ρ 69 j with | some b => F b (hp I L ρ) | none => none) = _
  rw [e2]
def p_push (q : sT × kT) (P : List (sT × kT)) : List (sT × kT) := (q :: P).take 20
theorem p_push_len (q : sT × kT) (P : List (sT × kT)) (hP : P.length ≤ 20) : (p_push q P).length = if P.length = 20 then 20 else P.length + 1 := by
  unfold p_push
  rw [List.length_take, List.length_cons]
  split <;> omega
theorem p_push_at {q : sT × kT} {P : List (sT × kT)} {i : Nat} {x : sT × kT} (h : (p_push q P)[i]? = some x) : i < 20 ∧ ((i = 0 ∧ x = q) ∨ ∃ k, i = k + 1 ∧ P[k]? = some x) := by
  unfold p_push at h
  rw [List.getElem?_take] at h
  by_cases c : i < 20
  · rw [if_pos c] at h
    refine ⟨c, ?_⟩
    rcases i with _ | k
    · left; simp at h; exact ⟨rfl, h.symm⟩
    · right; simp at h; exact ⟨k, rfl, h⟩
  · rw [if_neg c] at h; simp at h
theorem X6_remember_h {K : kT} {P : List (sT × kT)} (hP : P.length ≤ 20) (hs : stX 41 I s) (hX : paG 6 I K P N) : ∃ I', X6_remember 68 41 (hp I L ρ) = some (none, hp I' L ρ) ∧ (∀ a, a ≠ 68 → a ≠ 70 → (a < 72 ∨ 212 ≤ a) → I' a = I a) ∧ paG 0 I' K (p_push (s, K) P) N := by
  obtain ⟨hw, nx, lg, κ, ⟨h1, h2, h3, h4⟩, h5, h6, h7, h8, h9⟩ := hX
  have hb : isSt (72 + 7 * nx) := Or.inr (Or.inr ⟨nx, h4, rfl⟩)
  obtain ⟨I1, e1, f1, g1⟩ := X8_take_h (I := I) (L := L) (ρ := ρ) (b := 72 + 7 * nx) (c := 41) hb (Or.inl rfl) (by omega)
  have r68 : I1 68 = I 68 := f1 68 (by omega)
  have r70 : I1 70 = I 70 := f1 70 (by omega)
  have r71 : I1 71 = I 71 := f1 71 (by omega)
  have hlen := p_push_len (s, K) P hP
  have r680 : (u2 (u2 I1 70 nx (nI (κ 0))) 68 1 (nI ((nx + 1) % 20))) 68 0 = nI P.length := by
    rw [u2_ap, if_neg (by omega), u2r (show (68 : Nat) ≠ 70 by decide), r68, h2]
  have hm : (nx + 1) % 20 < 20 := Nat.mod_lt _ (by omega)
  refine ⟨u2 (u2 (u2 I1 70 nx (nI (κ 0))) 68 1 (nI ((nx + 1) % 20))) 68 0 (nI (p_push (s, K) P).length), ?_, fun a c1 c2 c3 => ?_, hw, (nx + 1) % 20, lg, fun i => κ (i - 1), ⟨?_, ?_, ?_, hm⟩, ?_, h6, h7, fun i q hq => ?_, fun i j hij hj => ?_⟩
  · unfold X6_remember
    rw [gr_68_2, gi_68, h3, lr_69 h4, rc_st hb, h_cv e1, gr_68_3, gi_68, r68, h3, gi_68, r68, h1, sa_70 h4, gi_68, u2r (show (68 : Nat) ≠ 70 by decide), r68, h3, h_ck (by decide), nI_1, show (20 : Int32) = nI 20 from rfl, pk_rem (by omega) (by omega) (by omega), pi_68, gi_68, r680, nI_1, pi_68, hlen]
    simp only [nI_lt' (show 20 < 2147483648 by omega) (show P.length + 1 < 2147483648 by omega)]
    by_cases c : P.length = 20
    · rw [if_pos c, if_pos (by omega)]; rfl
    · rw [if_neg c, if_neg (by omega)]; rfl
  · rw [u2r c1, u2r c1, u2r c2]
    exact f1 a (by omega)
  · rw [u2_ap, if_neg (by omega), u2_ap, if_neg (by omega), u2r (show (68 : Nat) ≠ 70 by decide), r68]; exact h1
  · rw [u2_ap, if_pos ⟨rfl, rfl⟩]
  · rw [u2_ap, if_neg (by omega), u2_ap, if_pos ⟨rfl, rfl⟩]
  · unfold lgX
    rw [u2r (show (71 : Nat) ≠ 68 by decide), u2r (show (71 : Nat) ≠ 68 by decide), u2r (show (71 : Nat) ≠ 70 by decide), r71]
    exact h5
  · obtain ⟨c20, hc⟩ := p_push_at hq
    rcases hc with ⟨rfl, rfl⟩ | ⟨k, rfl, hk⟩
    · rw [show ((nx + 1) % 20 + 19 - 0) % 20 = nx by omega]
      refine ⟨stX_fr (fun a x y => by rw [u2r (by omega), u2r (by omega), u2r (by omega)]) (g1 hs), ?_, h6.2.1, h7⟩
      rw [u2r (by omega), u2r (by omega), u2_ap, if_pos ⟨rfl, rfl⟩]
    · obtain ⟨q1, q2, q3⟩ := h8 k q hk
      have hkl := (List.getElem?_eq_some_iff.mp hk).1
      have hne : (nx + 19 - k) % 20 ≠ nx := by omega
      have hm2 : (nx + 19 - k) % 20 < 20 := Nat.mod_lt _ (by omega)
      rw [show ((nx + 1) % 20 + 19 - (k + 1)) % 20 = (nx + 19 - k) % 20 by omega]
      refine ⟨stX_fr (fun a x y => by rw [u2r (by omega), u2r (by omega), u2r (by omega)]; exact f1 a (by omega)) q1, ?_, q3⟩
      rw [u2r (by omega), u2r (by omega), u2_ap, if_neg (by omega), r70]; exact q2
  · have hj2 : j ≤ P.length + 1 := by rw [hlen] at hj; split at hj <;> omega
    obtain ⟨p1, p2, p3⟩ := h9 (i - 1) (j - 1) (by omega) (by omega)
    refine ⟨p1, fun hi => ?_, fun hj1 => ?_⟩
    · by_cases c : i = 1
      · by_cases c2 : j = 1
        · rw [c, c2]; omega
        · have := p3 (by omega)
          rw [c]
          show κ 0 ≤ κ (j - 1) + 6 * (j - 1)
          omega
      · have := p2 (by omega)
        show κ (i - 1) ≤ κ (j - 1) + _
        omega
    · show κ 0 ≤ κ (j - 1) + 6 * (j - 1) + 0
      by_cases c2 : j = 1
      · rw [c2]; show κ 0 ≤ κ 0 + _; omega
      · have := p3 (by omega)
        omega
theorem X6_recall_0 {K : kT} (hX : paG 6 I K [] N) : X6_recall 68 41 (hp I L ρ) = some (some (.int 0), hp I L ρ) := by
  obtain ⟨hw, nx, lg, κ, ⟨h1, h2, h3, h4⟩, -⟩ := hX
  unfold X6_recall
  rw [gi_68, show I 68 0 = 0 from h2, h_if, if_pos rfl, h_rb0]
theorem X6_recall_h {K : kT} {q0 : sT × kT} {P : List (sT × kT)} (hP : P.length < 20) (hX : paG 6 I K (q0 :: P) N) : ∃ I', X6_recall 68 41 (hp I L ρ) = some (some (.int 1), hp I' L ρ) ∧ (∀ a, a ≠ 68 → (a < 41 ∨ 48 ≤ a) → I' a = I a) ∧ stX 41 I' q0.1 ∧ paG 6 I' q0.2 P N := by
  obtain ⟨hw, nx, lg, κ, ⟨h1, h2, h3, h4⟩, h5, h6, h7, h8, h9⟩ := hX
  have hm : (nx + 19) % 20 < 20 := Nat.mod_lt _ (by omega)
  have hb : isSt (72 + 7 * ((nx + 19) % 20)) := Or.inr (Or.inr ⟨_, hm, rfl⟩)
  obtain ⟨s1, s2, s3, s4⟩ := h8 0 q0 rfl
  rw [show (nx + 19 - 0) % 20 = (nx + 19) % 20 by omega] at s1 s2
  obtain ⟨J, hJ⟩ : ∃ J, J = u2 I 68 1 (nI ((nx + 19) % 20)) := ⟨_, rfl⟩
  obtain ⟨I1, e1, f1, g1⟩ := X8_take_h (I := J) (L := L) (ρ := ρ) (b := 41) (c := 72 + 7 * ((nx + 19) % 20)) (Or.inl rfl) hb (by omega)
  have j0 : ∀ a, a ≠ 68 → J a = I a := fun a ha => by rw [hJ, u2r ha]
  have r68 : I1 68 = J 68 := f1 68 (by omega)
  have r681 : J 68 1 = nI ((nx + 19) % 20) := by rw [hJ, u2_ap, if_pos ⟨rfl, rfl⟩]
  have r680 : J 68 0 = nI (P.length + 1) := by rw [hJ, u2_ap, if_neg (by omega), h2]; rfl
  have r70 : I1 70 = I 70 := by rw [f1 70 (by omega), j0 70 (by omega)]
  have hnb : ¬ (nI (P.length + 1) : Int32) = 0 := fun e => absurd ((nI_inj (b := 0) (by omega) (by omega)).mp e) (by omega)
  refine ⟨u2 (u2 I1 68 5 (nI (κ 1))) 68 0 (nI P.length), ?_, fun a c1 c2 => ?_, stX_fr (fun a x y => by rw [u2r (by omega), u2r (by omega)]) (g1 (stX_fr (fun a x y => j0 a (by omega)) s1)), hw, (nx + 19) % 20, lg, fun i => κ (i + 1), ⟨?_, ?_, ?_, hm⟩, ?_, ⟨?_, s3, h6.2.2⟩, s4, fun i q hq => ?_, fun i j hij hj => ?_⟩
  · unfold X6_recall
    rw [gi_68, show I 68 0 = nI (P.length + 1) from h2, h_if, if_neg hnb, gi_68, h3, h_ck (by decide), show (20 : Int32) = nI 20 from rfl, nI_add, show (1 : Int32) = nI 1 from rfl, pk_sub (by omega), show nx + 20 - 1 = nx + 19 by omega, pk_rem (by omega) (by omega) (by omega), pi_68, gr_68_2, gi_68, ← hJ, r681, lr_69 hm, rc_41, h_cv e1, gr_68_3, gi_68, r68, r681, la_70 hm, r70, s2, pi_68, gi_68, u2_ap, if_neg (by omega), r68, r680, pk_sub (by omega), pi_68]
    rfl
  · rw [u2r c1, u2r c1, f1 a (by omega), j0 a c1]
  · rw [u2_ap, if_neg (by omega), u2_ap, if_pos ⟨rfl, rfl⟩]
  · rw [u2_ap, if_pos ⟨rfl, rfl⟩]
  · rw [u2_ap, if_neg (by omega), u2_ap, if_neg (by omega), r68, r681]
  · unfold lgX
    rw [u2r (show (71 : Nat) ≠ 68 by decide), u2r (show (71 : Nat) ≠ 68 by decide), f1 71 (by omega), j0 71 (by omega)]
    exact h5
  · have := (h9 0 1 (by omega) (by show 1 ≤ P.length + 1; omega)).1
    show κ 1 ≤ hw
    omega
  · obtain ⟨q1, q2, q3⟩ := h8 (i + 1) q hq
    have hm2 : (nx + 19 - (i + 1)) % 20 < 20 := Nat.mod_lt _ (by omega)
    have hi := (List.getElem?_eq_some_iff.mp hq).1
    rw [show ((nx + 19) % 20 + 19 - i) % 20 = (nx + 19 - (i + 1)) % 20 by omega]
    refine ⟨stX_fr (fun a x y => by rw [u2r (by omega), u2r (by omega), f1 a (by omega), j0 a (by omega)]) q1, ?_, q3⟩
    rw [u2r (by omega), u2r (by omega), r70]; exact q2
  · have hjl : j + 1 ≤ (q0 :: P).length := by show j + 1 ≤ P.length + 1; omega
    obtain ⟨p1, p2, p3⟩ := h9 (i + 1) (j + 1) (by omega) hjl
    refine ⟨p1, fun hi => ?_, fun hj1 => ?_⟩
    · show κ (i + 1) ≤ κ (j + 1) + 6 * (j - i)
      have := p2 (by omega)
      omega
    · show κ 1 ≤ κ (j + 1) + 6 * (j - 1) + 6
      have := (h9 1 (j + 1) (by omega) hjl).2.1 (by omega)
      omega
/-- one more is kept -/
theorem X6_keep_h {g : Nat} {K : kT} {P : List (sT × kT)} {a b c d : Nat} (hN : N < 1000000000) (hg : g < 6) (hP1 : P.length ≤ 20) (hX : paG g I K P N) : ∃ I', X6_keep 68 (nI a) (nI b) (nI c) (nI d) (hp I L ρ) = some (none, hp I' L ρ) ∧ (∀ x, x ≠ 68 → x ≠ 71 → I' x = I x) ∧ paG (g + 1) I' (p_keep K (a, b, c, d)) P (N + 1) := by
  obtain ⟨hw, nx, lg, κ, ⟨h1, h2, h3, h4⟩, h5, h6, h7, h8, h9⟩ := hX
  obtain ⟨ka, hka⟩ : ∃ ka, ka = κ 0 := ⟨_, rfl⟩
  rw [← hka] at h1 h6 h7
  have hm : ka % 160 < 160 := Nat.mod_lt _ (by omega)
  obtain ⟨J, hJ⟩ : ∃ J, J = u2 (u2 (u2 (u2 I 71 (4 * (ka % 160)) (nI a)) 71 (4 * (ka % 160) + 1) (nI b)) 71 (4 * (ka % 160) + 2) (nI c)) 71 (4 * (ka % 160) + 3) (nI d) := ⟨_, rfl⟩
  have j0 : ∀ x, x ≠ 71 → J x = I x := fun x hx => by rw [hJ, u2r hx, u2r hx, u2r hx, u2r hx]
  have jr : ∀ j, (j < 4 * (ka % 160) ∨ 4 * (ka % 160) + 4 ≤ j) → J 71 j = I 71 j := fun j hj => by
    rw [hJ, u2_ap, if_neg (by omega), u2_ap, if_neg (by omega), u2_ap, if_neg (by omega), u2_ap, if_neg (by omega)]
  have jw : J 71 (4 * (ka % 160)) = nI a ∧ J 71 (4 * (ka % 160) + 1) = nI b ∧ J 71 (4 * (ka % 160) + 2) = nI c ∧ J 71 (4 * (ka % 160) + 3) = nI d := by
    refine ⟨?_, ?_, ?_, ?_⟩
    · rw [hJ, u2_ap, if_neg (by omega), u2_ap, if_neg (by omega), u2_ap, if_neg (by omega), u2_ap, if_pos ⟨rfl, rfl⟩]
    · rw [hJ, u2_ap, if_neg (by omega), u2_ap, if_neg (by omega), u2_ap, if_pos ⟨rfl, rfl⟩]
    · rw [hJ, u2_ap, if_neg (by omega), u2_ap, if_pos ⟨rfl, rfl⟩]
    · rw [hJ, u2_ap, if_pos ⟨rfl, rfl⟩]
  obtain ⟨hw2, hhw2⟩ : ∃ hw2, hw2 = if hw = ka then ka + 1 else hw := ⟨_, rfl⟩
  have hwc : ka + 1 ≤ hw2 ∧ hw2 ≤ ka + 120 + 1 ∧ hw2 ≤ N + 1 ∧ hw ≤ hw2 ∧ hw2 ≤ hw + 1 ∧ (hw2 ≠ hw → hw = ka) := by
    rw [hhw2]; split <;> omega
  have hKl := h7.1
  have hlg : ∀ {k : Nat} {Q : kT}, k ≤ ka → lgK lg k Q → lgK (fun i => if i = ka then (a, b, c, d) else lg i) k Q := by
    intro k Q hk h
    refine ⟨h.1, fun i hi => ?_⟩
    have := h.1
    rw [h.2 i hi]
    show some _ = some (if k - Q.length + i = ka then _ else _)
    rw [if_neg (by omega)]
  have hp0 : ∀ j, 1 ≤ j → j ≤ P.length → ka ≤ κ j + 6 * (j - 1) + g ∧ κ j ≤ ka := fun j h1 h2 => by
    have := h9 0 j (by omega) h2
    have q := this.2.2 h1
    omega
  refine ⟨u2 J 68 5 (nI (ka + 1)), ?_, fun x c1 c2 => by rw [u2r c1, j0 x c2], hw2, nx, fun i => if i = ka then (a, b, c, d) else lg i, fun i => if i = 0 then ka + 1 else κ i, ⟨?_, ?_, ?_, h4⟩, fun i hi hi2 => ?_, ⟨?_, ?_, hwc.2.2.1⟩, ?_, fun i q hq => ?_, fun i j hij hj => ?_⟩
  · unfold X6_keep
    rw [gi_68, h1, h_ck (by decide), show (160 : Int32) = nI 160 from rfl, pk_rem (by omega) (by omega) (by omega), show (4 : Int32) = nI 4 from rfl, pk_mul, show (1 : Int32) = nI 1 from rfl, show (2 : Int32) = nI 2 from rfl, show (3 : Int32) = nI 3 from rfl, nI_add, nI_add, nI_add, Nat.mul_comm (ka % 160) 4, gr_68_4, sa_71 (by omega), gr_68_4, sa_71 (by omega), gr_68_4, sa_71 (by omega), gr_68_4, sa_71 (by omega), ← hJ, gi_68, j0 68 (by omega), h1, pi_68, nI_add, h_ret]
  · rw [u2_ap, if_pos ⟨rfl, rfl⟩]; rfl
  · rw [u2_ap, if_neg (by omega), j0 68 (by omega)]; exact h2
  · rw [u2_ap, if_neg (by omega), j0 68 (by omega)]; exact h3
  · rw [u2r (show (71 : Nat) ≠ 68 by decide)]
    show J 71 _ = nI (if i = ka then (a, b, c, d) else lg i).1 ∧ J 71 _ = nI (if i = ka then (a, b, c, d) else lg i).2.1 ∧ J 71 _ = nI (if i = ka then (a, b, c, d) else lg i).2.2.1 ∧ J 71 _ = nI (if i = ka then (a, b, c, d) else lg i).2.2.2
    by_cases e : i = ka
    · rw [if_pos e, e]; exact jw
    · rw [if_neg e]
      have hne : i % 160 ≠ ka % 160 := by omega
      have hmi : i % 160 < 160 := Nat.mod_lt _ (by omega)
      rw [jr _ (by omega), jr _ (by omega), jr _ (by omega), jr _ (by omega)]
      exact h5 i (by omega) (by omega)
  · exact hwc.1
  · show hw2 ≤ ka + 1 + 120
    omega
  · show lgK _ (ka + 1) (p_keep K (a, b, c, d))
    unfold p_keep
    by_cases e : K.length = 40
    · rw [if_pos e]
      have hl : (K.tail ++ [(a, b, c, d)]).length = 40 := by simp [e]
      refine ⟨by omega, fun i hi => ?_⟩
      rw [hl]
      rw [hl] at hi
      show _ = some (if ka + 1 - 40 + i = ka then (a, b, c, d) else lg (ka + 1 - 40 + i))
      by_cases e2 : i = 39
      · rw [if_pos (by omega), e2, List.getElem?_append_right (by simp [e])]
        simp [e]
      · rw [if_neg (by omega), List.getElem?_append_left (by simp [e]; omega), List.getElem?_tail, h7.2 (i + 1) (by omega), e]
        congr 2
        omega
    · rw [if_neg e]
      have hl : (K ++ [(a, b, c, d)]).length = K.length + 1 := by simp
      refine ⟨by omega, fun i hi => ?_⟩
      rw [hl]
      rw [hl] at hi
      show _ = some (if ka + 1 - (K.length + 1) + i = ka then (a, b, c, d) else lg (ka + 1 - (K.length + 1) + i))
      by_cases e2 : i = K.length
      · rw [if_pos (by omega), e2, List.getElem?_append_right (by omega)]
        simp
      · rw [if_neg (by omega), List.getElem?_append_left (by omega), h7.2 i (by omega)]
        congr 2
        omega
  · obtain ⟨q1, q2, q3, q4⟩ := h8 i q hq
    have hi := (List.getElem?_eq_some_iff.mp hq).1
    have hm2 : (nx + 19 - i) % 20 < 20 := Nat.mod_lt _ (by omega)
    obtain ⟨p1, p2⟩ := hp0 (i + 1) (by omega) (by omega)
    refine ⟨stX_fr (fun x c1 c2 => by rw [u2r (by omega), j0 x (by omega)]) q1, ?_, ?_, ?_⟩
    · rw [u2r (by omega), j0 70 (by omega)]
      show _ = nI (if i + 1 = 0 then ka + 1 else κ (i + 1))
      rw [if_neg (by omega)]; exact q2
    · show hw2 ≤ (if i + 1 = 0 then ka + 1 else κ (i + 1)) + 120
      rw [if_neg (by omega)]
      by_cases e : hw2 = hw
      · omega
      · have := hwc.2.2.2.2.2 e
        omega
    · show lgK _ (if i + 1 = 0 then ka + 1 else κ (i + 1)) q.2
      rw [if_neg (by omega)]
      exact hlg p2 q4
  · show (if j = 0 then ka + 1 else κ j) ≤ (if i = 0 then ka + 1 else κ i) ∧ (1 ≤ i → (if i = 0 then ka + 1 else κ i) ≤ (if j = 0 then ka + 1 else κ j) + 6 * (j - i)) ∧ (1 ≤ j → ka + 1 ≤ (if j = 0 then ka + 1 else κ j) + 6 * (j - 1) + (g + 1))
    obtain ⟨p1, p2, p3⟩ := h9 i j hij hj
    by_cases ei : i = 0
    · rw [if_pos ei]
      by_cases ej : j = 0
      · rw [if_pos ej]; omega
      · rw [if_neg ej]
        have := hp0 j (by omega) hj
        omega
    · rw [if_neg ei, if_neg (by omega)]
      have := hp0 j (by omega) hj
      refine ⟨p1, fun _ => p2 (by omega), fun _ => by omega⟩
theorem paG_mono {g g' N' : Nat} {K : kT} {P : List (sT × kT)} (h : g ≤ g') (hN : N ≤ N') (hX : paG g I K P N) : paG g' I K P N' := by
  obtain ⟨hw, nx, lg, κ, h1, h2, h3, h4, h5, h6⟩ := hX
  refine ⟨hw, nx, lg, κ, h1, h2, ⟨h3.1, h3.2.1, by omega⟩, h4, h5, fun i j hij hj => ?_⟩
  obtain ⟨p1, p2, p3⟩ := h6 i j hij hj
  exact ⟨p1, p2, fun hj1 => by have := p3 hj1; omega⟩
/-! the reference's past -/
theorem X12_keeps_lp {nw : Nat} (hnw : nw < 20) : ∀ (m k : Nat) (I : Nat → Nat → Int32) (fuel : Nat), k + m = 343 → m < fuel → I 215 76 = nI nw → ∃ I', z_fix (fun r x => X12_keeps_B15 215 r x) fuel (nI k) (hp I L ρ) = X12_keeps_J49 215 (hp I' L ρ) ∧ (∀ x, x ≠ 266 → I' x = I x) ∧ (∀ j, (j < 343 * nw + k ∨ 343 * nw + 343 ≤ j) → I' 266 j = I 266 j) ∧ ∀ j, k ≤ j → j < 343 → I' 266 (343 * nw + j) = I 255 j := by
  intro m
  induction m with
  | zero =>
    intro k I fuel h1 h2 h3
    obtain ⟨f, rfl⟩ : ∃ f, fuel = f + 1 := ⟨fuel - 1, by omega⟩
    obtain rfl : k = 343 := by omega
    refine ⟨I, ?_, fun _ _ => rfl, fun _ _ => rfl, fun j _ _ => by omega⟩
    rw [h_fix]
    show X12_keeps_B15 215 _ (nI 343) (hp I L ρ) = _
    unfold X12_keeps_B15
    rw [h_if, if_pos (by decide)]
  | succ m ih =>
    intro k I fuel h1 h2 h3
    obtain ⟨f, rfl⟩ : ∃ f, fuel = f + 1 := ⟨fuel - 1, by omega⟩
    rw [h_fix]
    generalize hg : z_fix (fun r x => X12_keeps_B15 215 r x) f = rec
    show ∃ I', X12_keeps_B15 215 rec (nI k) (hp I L ρ) = _ ∧ _
    obtain ⟨I', q1, q2, q3, q4⟩ := ih (k + 1) (u2 I 266 (343 * nw + k) (I 255 k)) f (by omega) (by omega) (by rw [u2r (by decide)]; exact h3)
    refine ⟨I', ?_, fun x hx => by rw [q2 x hx, u2r hx], fun j hj => by rw [q3 j (by omega), u2_ap, if_neg (by omega)], fun j hj hj2 => ?_⟩
    · unfold X12_keeps_B15
      rw [h_if, if_neg (show ¬ (343 : Int32) ≤ nI k from nI_ge (b := 343) (by omega) (by omega)), gr_215_74, gi_215, h3, gr_215_52, la_255 (by omega), show (343 : Int32) = nI 343 from rfl, pk_mul, nI_add, sa_266 (by omega), nI_1, ← hg]
      exact q1
    · by_cases c : j = k
      · rw [c, q3 _ (by omega), u2_ap, if_pos ⟨rfl, rfl⟩]
      · rw [q4 j (by omega) hj2, u2r (show (255 : Nat) ≠ 266 by decide)]
theorem X12_keeps_h {P : List (sT × kT)} {K : kT} (hk : okC C) (hP : P.length ≤ 20) (hM : paM I C P) (hs : (stN (I 255) C s ∧ tdM (I 255) C) ∧ kpM (I 255) C K) : ∃ I', X12_keeps 215 (hp I L ρ) = some (none, hp I' L ρ) ∧ (∀ x, x ≠ 215 → x ≠ 266 → I' x = I x) ∧ (∀ k, k ≠ 75 → k ≠ 76 → I' 215 k = I 215 k) ∧ paM I' C (p_push (s, K) P) := by
  obtain ⟨h1, nw, h2, h3, h4⟩ := hM
  have hm : (nw + 1) % 20 < 20 := Nat.mod_lt _ (by omega)
  obtain ⟨J, hJ⟩ : ∃ J, J = u2 I 215 76 (nI ((nw + 1) % 20)) := ⟨_, rfl⟩
  have j0 : ∀ x, x ≠ 215 → J x = I x := fun x hx => by rw [hJ, u2r hx]
  have j1 : ∀ k, k ≠ 76 → J 215 k = I 215 k := fun k hk => by rw [hJ, u2_ap, if_neg (by omega)]
  have j2 : J 215 76 = nI ((nw + 1) % 20) := by rw [hJ, u2_ap, if_pos ⟨rfl, rfl⟩]
  obtain ⟨I1, q1, q2, q3, q4⟩ := X12_keeps_lp (L := L) (ρ := ρ) hm 343 0 J zFU (by omega) (by unfold zFU; omega) j2
  have hlen := p_push_len (s, K) P hP
  have r75 : I1 215 75 = nI P.length := by rw [q2 215 (by omega), j1 75 (by omega)]; exact h1
  have hJ49 : ∃ I', X12_keeps_J49 215 (hp I1 L ρ) = some (none, hp I' L ρ) ∧ (∀ x, x ≠ 215 → I' x = I1 x) ∧ (∀ k, k ≠ 75 → I' 215 k = I1 215 k) ∧ I' 215 75 = nI (p_push (s, K) P).length := by
    unfold X12_keeps_J49
    by_cases c : P.length = 20
    · refine ⟨I1, ?_, fun _ _ => rfl, fun _ _ => rfl, by rw [hlen, if_pos c, r75, c]⟩
      rw [gi_215, r75, h_if, if_pos (show (20 : Int32) ≤ nI P.length from nI_le (a := 20) (by omega) (by omega)), h_ret]
    · refine ⟨u2 I1 215 75 (nI (P.length + 1)), ?_, fun x hx => u2r hx, fun k hk => by rw [u2_ap, if_neg (by omega)], by rw [u2_ap, if_pos ⟨rfl, rfl⟩, hlen, if_neg c]⟩
      rw [gi_215, r75, h_if, if_neg (show ¬ (20 : Int32) ≤ nI P.length from nI_ge (b := 20) (by omega) (by omega)), gi_215, r75, nI_1, pi_215, h_ret]
  obtain ⟨I', e1, e2, e3, e4⟩ := hJ49
  have r266 : I' 266 = I1 266 := e2 266 (by omega)
  have rnew : ∀ j, j < 343 → I' 266 (343 * ((nw + 1) % 20) + j) = I 255 j := fun j hj => by
    rw [r266, q4 j (by omega) hj, j0 255 (by omega)]
  have rold : ∀ m j, m < 20 → m ≠ (nw + 1) % 20 → j < 343 → I' 266 (343 * m + j) = I 266 (343 * m + j) := fun m j h5 h6 h7 => by
    have : 343 * m + j < 343 * ((nw + 1) % 20) + 0 ∨ 343 * ((nw + 1) % 20) + 343 ≤ 343 * m + j := by
      rcases Nat.lt_or_gt_of_ne h6 with h8 | h8
      · left
        have := Nat.mul_le_mul_left 343 (show m + 1 ≤ (nw + 1) % 20 from h8)
        omega
      · right
        have := Nat.mul_le_mul_left 343 (show (nw + 1) % 20 + 1 ≤ m from h8)
        omega
    rw [r266, q3 _ this, j0 266 (by omega)]
  refine ⟨I', ?_, fun x c1 c2 => by rw [e2 x c1, q2 x c2, j0 x c1], fun k c1 c2 => by rw [e3 k c1, q2 215 (by omega), j1 k c2], e4, (nw + 1) % 20, hm, by rw [e3 76 (by omega), q2 215 (by omega), j2], fun i q hq => ?_⟩
  · unfold X12_keeps
    rw [gi_215, h3, h_ck (by decide), nI_1, show (20 : Int32) = nI 20 from rfl, pk_rem (by omega) (by omega) (by omega), pi_215, ← hJ, show (0 : Int32) = nI 0 from rfl, q1]
    exact e1
  · obtain ⟨c20, hc⟩ := p_push_at hq
    rcases hc with ⟨rfl, rfl⟩ | ⟨k, rfl, hk1⟩
    · rw [show ((nw + 1) % 20 + 20 - 0) % 20 = (nw + 1) % 20 by omega]
      refine ⟨⟨stN_eq hk (fun j hj => rnew j (by omega)) hs.1.1, fun ht a ha hna => ?_⟩, kpM_eq (fun j _ hj => rnew j hj) hs.2⟩
      show I' 266 (343 * ((nw + 1) % 20) + (14 + a)) = -1
      rw [rnew _ (by omega)]
      exact hs.1.2 ht a ha hna
    · rw [show ((nw + 1) % 20 + 20 - (k + 1)) % 20 = (nw + 20 - k) % 20 by omega]
      have hm2 : (nw + 20 - k) % 20 < 20 := Nat.mod_lt _ (by omega)
      have hkl := (List.getElem?_eq_some_iff.mp hk1).1
      have hne : (nw + 20 - k) % 20 ≠ (nw + 1) % 20 := by omega
      obtain ⟨⟨p1, p2⟩, p3⟩ := h4 k q hk1
      refine ⟨⟨stN_eq hk (fun j hj => rold _ j hm2 hne (by omega)) p1, fun ht a ha hna => ?_⟩, kpM_eq (fun j _ hj => rold _ j hm2 hne hj) p3⟩
      show I' 266 (343 * ((nw + 20 - k) % 20) + (14 + a)) = -1
      rw [rold _ _ hm2 hne (by omega)]
      exact p2 ht a ha hna
theorem X12_undo_lp {nw : Nat} (hnw : nw < 20) : ∀ (m k : Nat) (I : Nat → Nat → Int32) (fuel : Nat), k + m = 343 → m < fuel → I 215 76 = nI nw → ∃ I', z_fix (fun r x => X12_undo_B21 215 r x) fuel (nI k) (hp I L ρ) = X12_undo_J55 215 (hp I' L ρ) ∧ (∀ x, x ≠ 255 → I' x = I x) ∧ (∀ j, j < k → I' 255 j = I 255 j) ∧ ∀ j, k ≤ j → j < 343 → I' 255 j = I 266 (343 * nw + j) := by
  intro m
  induction m with
  | zero =>
    intro k I fuel h1 h2 h3
    obtain ⟨f, rfl⟩ : ∃ f, fuel = f + 1 := ⟨fuel - 1, by omega⟩
    obtain rfl : k = 343 := by omega
    refine ⟨I, ?_, fun _ _ => rfl, fun _ _ => rfl, fun j _ _ => by omega⟩
    rw [h_fix]
    show X12_undo_B21 215 _ (nI 343) (hp I L ρ) = _
    unfold X12_undo_B21
    rw [h_if, if_pos (by decide)]
  | succ m ih =>
    intro k I fuel h1 h2 h3
    obtain ⟨f, rfl⟩ : ∃ f, fuel = f + 1 := ⟨fuel - 1, by omega⟩
    rw [h_fix]
    generalize hg : z_fix (fun r x => X12_undo_B21 215 r x) f = rec
    show ∃ I', X12_undo_B21 215 rec (nI k) (hp I L ρ) = _ ∧ _
    obtain ⟨I', q1, q2, q3, q4⟩ := ih (k + 1) (u2 I 255 k (I 266 (343 * nw + k))) f (by omega) (by omega) (by rw [u2r (by decide)]; exact h3)
    refine ⟨I', ?_, fun x hx => by rw [q2 x hx, u2r hx], fun j hj => by rw [q3 j (by omega), u2_ap, if_neg (by omega)], fun j hj hj2 => ?_⟩
    · unfold X12_undo_B21
      rw [h_if, if_neg (show ¬ (343 : Int32) ≤ nI k from nI_ge (b := 343) (by omega) (by omega)), gr_215_52, gr_215_74, gi_215, h3, show (343 : Int32) = nI 343 from rfl, pk_mul, nI_add, la_266 (by omega), sa_255 (by omega), nI_1, ← hg]
      exact q1
    · by_cases c : j = k
      · rw [c, q3 _ (by omega), u2_ap, if_pos ⟨rfl, rfl⟩]
      · rw [q4 j (by omega) hj2, u2r (show (266 : Nat) ≠ 255 by decide)]
theorem X12_undo_h {P : List (sT × kT)} {q0 : sT × kT} (hk : okC C) (hP : P.length < 20) (hM : paM I C (q0 :: P)) : ∃ I', X12_undo 215 (hp I L ρ) = some (some (.int 1), hp I' L ρ) ∧ (∀ x, x ≠ 215 → x ≠ 255 → I' x = I x) ∧ (∀ k, k ≠ 75 → k ≠ 76 → I' 215 k = I 215 k) ∧ ((stN (I' 255) C q0.1 ∧ tdM (I' 255) C) ∧ kpM (I' 255) C q0.2) ∧ paM I' C P := by
  obtain ⟨h1, nw, h2, h3, h4⟩ := hM
  obtain ⟨I1, q1, q2, q3, q4⟩ := X12_undo_lp (L := L) (ρ := ρ) h2 343 0 I zFU (by omega) (by unfold zFU; omega) h3
  have r1 : I1 215 = I 215 := q2 215 (by omega)
  have hnb : ¬ (nI (P.length + 1) : Int32) = 0 := fun e => absurd ((nI_inj (b := 0) (by omega) (by omega)).mp e) (by omega)
  have hm : (nw + 19) % 20 < 20 := Nat.mod_lt _ (by omega)
  obtain ⟨⟨p1, p2⟩, p3⟩ := h4 0 q0 rfl
  rw [show (nw + 20 - 0) % 20 = nw by omega] at p1 p2 p3
  have h1' : I 215 75 = nI (P.length + 1) := h1
  refine ⟨u2 (u2 I1 215 76 (nI ((nw + 19) % 20))) 215 75 (nI P.length), ?_, fun x c1 c2 => by rw [u2r c1, u2r c1, q2 x c2], fun k c1 c2 => by rw [u2_ap, if_neg (by omega), u2_ap, if_neg (by omega), r1], ?_, by rw [u2_ap, if_pos ⟨rfl, rfl⟩], (nw + 19) % 20, hm, by rw [u2_ap, if_neg (by omega), u2_ap, if_pos ⟨rfl, rfl⟩], fun i q hq => ?_⟩
  · unfold X12_undo
    rw [gi_215, h1', h_if, if_neg hnb, show (0 : Int32) = nI 0 from rfl, q1]
    unfold X12_undo_J55
    rw [gi_215, r1, h3, h_ck (by decide), show (20 : Int32) = nI 20 from rfl, nI_add, show (1 : Int32) = nI 1 from rfl, pk_sub (by omega), show nw + 20 - 1 = nw + 19 by omega, pk_rem (by omega) (by omega) (by omega), pi_215, gi_215, u2_ap, if_neg (by omega), r1, h1', pk_sub (by omega), pi_215]
    rfl
  · rw [u2r (show (255 : Nat) ≠ 215 by decide), u2r (show (255 : Nat) ≠ 215 by decide)]
    refine ⟨⟨stN_eq hk (fun j hj => q4 j (by omega) (by omega)) p1, fun ht a ha hna => ?_⟩, kpM_eq (fun j _ hj => q4 j (by omega) hj) p3⟩
    rw [q4 _ (by omega) (by omega)]
    exact p2 ht a ha hna
  · rw [u2r (show (266 : Nat) ≠ 215 by decide), u2r (show (266 : Nat) ≠ 215 by decide), q2 266 (by omega)]
    have hi := (List.getElem?_eq_some_iff.mp hq).1
    rw [show ((nw + 19) % 20 + 20 - i) % 20 = (nw + 20 - (i + 1)) % 20 by omega]
    exact h4 (i + 1) q hq
end B45
