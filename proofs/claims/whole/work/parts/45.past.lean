/-! the past: states are copied; the class's and the reference's -/
section B45
variable {I : Nat → Nat → Int32} {L : Nat → Nat → Int64} {ρ : zRh} {h : zH} {A : aT} {N : Nat} {C : cT} {s : sT}
/-- numbers copied from a row to another -/
def cpI (I : Nat → Nat → Int32) (a b n : Nat) : Nat → Nat → Int32 := fun x j => if x = b ∧ j < n then I a j else I x j
theorem h_cp {f : zM} {a b n : Nat} (h1 : a < 297) (h2 : (zK a).1 = 20) (h3 : b < 297) (h4 : (zK b).1 = 20) (hn : n < 1000) (h5 : n ≤ (zK a).2) (h6 : n ≤ (zK b).2) : z_cp a 0 b 0 (nI n) f (hp I L ρ) = f (hp (cpI I a b n) L ρ) := by
  unfold z_cp
  have e : (nI n).toInt = n := nI_toI (by omega)
  have e0 : (0 : Int32).toInt = 0 := rfl
  rw [if_pos ⟨⟨h1, h2⟩, ⟨h3, h4⟩, by rw [e0]; omega, by rw [e0]; omega, by rw [e]; omega, by show (0 : Int32).toInt + (nI n).toInt ≤ ((zK a).2 : Int); rw [e, e0]; omega, by show (0 : Int32).toInt + (nI n).toInt ≤ ((zK b).2 : Int); rw [e, e0]; omega⟩]
  congr 1
  unfold zCp
  rw [nI_clamp (by omega), show (0 : Int32).toNatClampNeg = 0 from rfl]
  show ((297, zK), _, L, zRf ρ) = _
  unfold hp cpI
  congr 2
  funext x j
  simp
/-- the cells that hold a state -/
def isSt (b : Nat) : Prop := b = 41 ∨ b = 54 ∨ ∃ i, i < 20 ∧ b = 72 + 7 * i
theorem st_k : ∀ i, i < 20 → (zK (72 + 7 * i) = (8, 8)) ∧ (zK (72 + 7 * i + 1) = (20, 12)) ∧ (zK (72 + 7 * i + 2) = (20, 12)) ∧ (zK (72 + 7 * i + 3) = (20, 12)) ∧ (zK (72 + 7 * i + 4) = (20, 12)) ∧ (zK (72 + 7 * i + 5) = (20, 72)) ∧ zK (72 + 7 * i + 6) = (20, 72) := by decide +kernel
theorem st_zK {b : Nat} (hb : isSt b) : b + 6 < 297 ∧ (zK b = (8, 8)) ∧ (zK (b + 1) = (20, 12)) ∧ (zK (b + 2) = (20, 12)) ∧ (zK (b + 3) = (20, 12)) ∧ (zK (b + 4) = (20, 12)) ∧ (zK (b + 5) = (20, 72)) ∧ zK (b + 6) = (20, 72) := by
  rcases hb with rfl | rfl | ⟨i, hi, rfl⟩
  · exact ⟨by omega, rfl, rfl, rfl, rfl, rfl, rfl, rfl⟩
  · exact ⟨by omega, rfl, rfl, rfl, rfl, rfl, rfl, rfl⟩
  · exact ⟨by omega, st_k i hi⟩
theorem st_zR {b : Nat} (hb : isSt b) (ρ : zRh) : zRf ρ b 2 = some (b + 1) ∧ zRf ρ b 3 = some (b + 2) ∧ zRf ρ b 4 = some (b + 3) ∧ zRf ρ b 5 = some (b + 4) ∧ zRf ρ b 6 = some (b + 5) ∧ zRf ρ b 7 = some (b + 6) := by
  rcases hb with rfl | rfl | ⟨i, hi, rfl⟩
  · exact ⟨rfl, rfl, rfl, rfl, rfl, rfl⟩
  · exact ⟨rfl, rfl, rfl, rfl, rfl, rfl⟩
  · have hc : i = 0 ∨ i = 1 ∨ i = 2 ∨ i = 3 ∨ i = 4 ∨ i = 5 ∨ i = 6 ∨ i = 7 ∨ i = 8 ∨ i = 9 ∨ i = 10 ∨ i = 11 ∨ i = 12 ∨ i = 13 ∨ i = 14 ∨ i = 15 ∨ i = 16 ∨ i = 17 ∨ i = 18 ∨ i = 19 := by omega
    rcases hc with rfl | rfl | rfl | rfl | rfl | rfl | rfl | rfl | rfl | rfl | rfl | rfl | rfl | rfl | rfl | rfl | rfl | rfl | rfl | rfl <;> exact ⟨rfl, rfl, rfl, rfl, rfl, rfl⟩
theorem gi_st {F : Int32 → zM} {b k : Nat} (hb : isSt b) : z_gi 8 k b F (hp I L ρ) = F (I b k) (hp I L ρ) := h_gi (by have := (st_zK hb).1; omega) (by rw [(st_zK hb).2.1])
theorem pi_st {f : zM} {b k : Nat} {x : Int32} (hb : isSt b) : z_pi 8 k b x f (hp I L ρ) = f (hp (u2 I b k x) L ρ) := h_pi (by have := (st_zK hb).1; omega) (by rw [(st_zK hb).2.1])
theorem rc_st {f : zM} {b : Nat} (hb : isSt b) : z_rc 8 b f (hp I L ρ) = f (hp I L ρ) := h_rc (by have := (st_zK hb).1; omega) (by rw [(st_zK hb).2.1])
theorem gr_st_2 {F : Nat → zM} {b : Nat} (hb : isSt b) : z_gr 8 2 b F (hp I L ρ) = F (b + 1) (hp I L ρ) := h_gr (by have := (st_zK hb).1; omega) (by rw [(st_zK hb).2.1]) ((st_zR hb ρ).1)
theorem gr_st_3 {F : Nat → zM} {b : Nat} (hb : isSt b) : z_gr 8 3 b F (hp I L ρ) = F (b + 2) (hp I L ρ) := h_gr (by have := (st_zK hb).1; omega) (by rw [(st_zK hb).2.1]) ((st_zR hb ρ).2.1)
theorem gr_st_4 {F : Nat → zM} {b : Nat} (hb : isSt b) : z_gr 8 4 b F (hp I L ρ) = F (b + 3) (hp I L ρ) := h_gr (by have := (st_zK hb).1; omega) (by rw [(st_zK hb).2.1]) ((st_zR hb ρ).2.2.1)
theorem gr_st_5 {F : Nat → zM} {b : Nat} (hb : isSt b) : z_gr 8 5 b F (hp I L ρ) = F (b + 4) (hp I L ρ) := h_gr (by have := (st_zK hb).1; omega) (by rw [(st_zK hb).2.1]) ((st_zR hb ρ).2.2.2.1)
theorem gr_st_6 {F : Nat → zM} {b : Nat} (hb : isSt b) : z_gr 8 6 b F (hp I L ρ) = F (b + 5) (hp I L ρ) := h_gr (by have := (st_zK hb).1; omega) (by rw [(st_zK hb).2.1]) ((st_zR hb ρ).2.2.2.2.1)
theorem gr_st_7 {F : Nat → zM} {b : Nat} (hb : isSt b) : z_gr 8 7 b F (hp I L ρ) = F (b + 6) (hp I L ρ) := h_gr (by have := (st_zK hb).1; omega) (by rw [(st_zK hb).2.1]) ((st_zR hb ρ).2.2.2.2.2)
theorem len_st {F : Int32 → zM} {b : Nat} (hb : isSt b) : (z_len (b + 5) F (hp I L ρ) = F (nI 72) (hp I L ρ)) ∧ z_len (b + 6) F (hp I L ρ) = F (nI 72) (hp I L ρ) := by
  obtain ⟨h0, -, -, -, -, -, h5, h6⟩ := st_zK hb
  refine ⟨?_, ?_⟩
  · rw [h_len (by omega) (by rw [h5]; decide) (by rw [h5]; decide), h5]
  · rw [h_len (by omega) (by rw [h6]; decide) (by rw [h6]; decide), h6]
/-- a state is another's copy -/
theorem X8_take_h {b c : Nat} (hb : isSt b) (hc : isSt c) (hd : b + 7 ≤ c ∨ c + 7 ≤ b) : ∃ I', X8_take b c (hp I L ρ) = some (none, hp I' L ρ) ∧ (∀ a, a < b ∨ b + 7 ≤ a → I' a = I a) ∧ ∀ {s}, stX c I s → stX b I' s := by
  obtain ⟨k0, -, k1, k2, k3, k4, k5, k6⟩ := st_zK hb
  obtain ⟨l0, -, l1, l2, l3, l4, l5, l6⟩ := st_zK hc
  unfold X8_take
  rw [gi_st hc, pi_st hb, gi_st hc, pi_st hb, gr_st_2 hc, gr_st_2 hb, show (12 : Int32) = nI 12 from rfl, h_cp (by omega) (by rw [l1]) (by omega) (by rw [k1]) (by omega) (by rw [l1]; decide) (by rw [k1]; decide),
    gr_st_3 hc, gr_st_3 hb, h_cp (by omega) (by rw [l2]) (by omega) (by rw [k2]) (by omega) (by rw [l2]; decide) (by rw [k2]; decide),
    gr_st_4 hc, gr_st_4 hb, h_cp (by omega) (by rw [l3]) (by omega) (by rw [k3]) (by omega) (by rw [l3]; decide) (by rw [k3]; decide),
    gr_st_5 hc, gr_st_5 hb, h_cp (by omega) (by rw [l4]) (by omega) (by rw [k4]) (by omega) (by rw [l4]; decide) (by rw [k4]; decide),
    gr_st_6 hc, gr_st_6 hb, gr_st_6 hb, (len_st hb).1, h_cp (by omega) (by rw [l5]) (by omega) (by rw [k5]) (by omega) (by rw [l5]; decide) (by rw [k5]; decide),
    gr_st_7 hc, gr_st_7 hb, gr_st_7 hb, (len_st hb).2, h_cp (by omega) (by rw [l6]) (by omega) (by rw [k6]) (by omega) (by rw [l6]; decide) (by rw [k6]; decide), h_ret]
  refine ⟨_, rfl, fun a ha => ?_, fun {s} hX => ?_⟩
  · funext j
    unfold cpI u2
    repeat rw [if_neg (by omega)]
  · obtain ⟨⟨q0, q1⟩, p1, p2, p3, p4, p5, p6⟩ := hX
    refine ⟨⟨?_, ?_⟩, fun j hj => ?_, fun j hj => ?_, fun j hj => ?_, fun j hj => ?_, fun j hj => ?_, fun j hj => ?_⟩
    · rw [← q0]
      unfold cpI u2
      rw [if_neg (by omega), if_neg (by omega), if_neg (by omega), if_neg (by omega), if_neg (by omega), if_neg (by omega), if_neg (by omega), if_pos ⟨rfl, rfl⟩]
    · rw [← q1]
      unfold cpI u2
      rw [if_neg (by omega), if_neg (by omega), if_neg (by omega), if_neg (by omega), if_neg (by omega), if_neg (by omega), if_pos ⟨rfl, rfl⟩, if_neg (by omega)]
    · rw [← p1 j hj]
      unfold cpI u2
      rw [if_neg (by omega), if_neg (by omega), if_neg (by omega), if_neg (by omega), if_neg (by omega), if_pos ⟨rfl, hj⟩, if_neg (by omega), if_neg (by omega)]
    · rw [← p2 j hj]
      unfold cpI u2
      rw [if_neg (by omega), if_neg (by omega), if_neg (by omega), if_neg (by omega), if_pos ⟨rfl, hj⟩, if_neg (by omega), if_neg (by omega), if_neg (by omega)]
    · rw [← p3 j hj]
      unfold cpI u2
      rw [if_neg (by omega), if_neg (by omega), if_neg (by omega), if_pos ⟨rfl, hj⟩, if_neg (by omega), if_neg (by omega), if_neg (by omega), if_neg (by omega)]
    · rw [← p4 j hj]
      unfold cpI u2
      rw [if_neg (by omega), if_neg (by omega), if_pos ⟨rfl, hj⟩, if_neg (by omega), if_neg (by omega), if_neg (by omega), if_neg (by omega), if_neg (by omega)]
    · rw [← p5 j hj]
      unfold cpI u2
      rw [if_neg (by omega), if_pos ⟨rfl, hj⟩, if_neg (by omega), if_neg (by omega), if_neg (by omega), if_neg (by omega), if_neg (by omega), if_neg (by omega)]
    · rw [← p6 j hj]
      unfold cpI u2
      rw [if_pos ⟨rfl, hj⟩, if_neg (by omega), if_neg (by omega), if_neg (by omega), if_neg (by omega), if_neg (by omega), if_neg (by omega), if_neg (by omega)]
end B45
