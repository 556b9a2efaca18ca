/-! the machine never stands where it stood -/
section B7g
variable {b : Nat → Nat} {n a kd : Nat}
def mGr (n a : Nat) (d : mO) : Prop := 2 ≤ d.1 ∨ (a < d.2.1 ∧ d.2.1 ≤ n)
theorem mPart_G (ha : a ≤ n) {q : Nat × Nat} (h : mPart b n kd a = .inr q) : a < q.1 ∧ q.1 ≤ n := by
  by_cases c : isD (t_c b n a) = true
  · unfold mPart at h
    rw [if_pos c] at h
    obtain ⟨⟨n1, n2, n3⟩, n4, n5⟩ := t_n_in (b := b) 4 0 a ha
    have hgt : a < (t_n b n 4 0 a).2 := by
      have := (t_n_in (b := b) (n := n) 3 (0 * 10 + (t_c b n a - 48)) (a + 1) (by have := isD_lt c; omega)).1.1
      have e4 : t_n b n 4 0 a = t_n b n 3 (0 * 10 + (t_c b n a - 48)) (a + 1) := if_pos c
      rw [e4]; exact this
    have hsk := sk_ge (b := b) (n := n) (a := (t_n b n 4 0 a).2)
    have hle := sk_le (b := b) n2
    rcases z : p_num b n 0 9999 a with e | r
    · rw [z] at h; cases h
    · rw [z] at h
      cases h
      unfold p_num at z
      split at z
      · cases z
      · split at z
        · cases z
        · split at z
          · cases z
          · cases z
            exact ⟨by show a < sk b n (t_n b n 4 0 a).2; omega, hle⟩
  · rcases z : t_in b n a (pws kd) 0 with _ | k
    · rw [mPart_0 c z] at h; cases h
    · rw [mPart_w c z] at h
      by_cases c7 : b_k (pmk kd) k = 1
      · rw [if_pos c7] at h
        cases h
        have hw := (t_in_lt z).2.1
        have hle := wl_le (b := b) ha
        have hsk := sk_ge (b := b) (n := n) (a := a + wl b n a)
        exact ⟨by show a < sk b n (a + wl b n a); omega, sk_le hle⟩
      · rw [if_neg c7] at h; cases h
theorem sk_G {y : Nat} (h : a < y) (hy : y ≤ n) : a < sk b n y ∧ sk b n y ≤ n := ⟨by have := sk_ge (b := b) (n := n) (a := y); omega, sk_le hy⟩
theorem mOp_G {c v p o : Nat} {W Q : List Nat} (hc : a < c ∧ c ≤ n) : mGr n a (mOp c v p W Q o) := by
  unfold mOp
  by_cases z : 6 ≤ o
  · rw [if_pos z]; exact Or.inl (by show 2 ≤ 3; omega)
  · rw [if_neg z]; exact Or.inr hc
theorem mMM_G {y v o : Nat} {W Q : List Nat} (hy : a < y ∧ y ≤ n) : mGr n a (mMM b n v y W Q o) := by
  unfold mMM
  by_cases z : t_c b n y = 40
  · rw [if_pos z]
    have := t_c_in z (by omega)
    exact mOp_G (sk_G (by omega) (by omega))
  · rw [if_neg z]; exact Or.inl (by show 2 ≤ 3; omega)
theorem mP_G (ha : a ≤ n) {o : Nat} {W Q : List Nat} : mGr n a (match mPart b n kd a with | .inl e => .f e.1 e.2 | .inr q => mBe q.1 W (Q ++ [q.2]) o) := by
  rcases z : mPart b n kd a with e | q
  · exact Or.inl (by show 2 ≤ 3; omega)
  · exact Or.inr (mPart_G ha z)
theorem mA_G (ha : a ≤ n) {o : Nat} {W Q : List Nat} : mGr n a (mA b n kd a W Q o) := by
  unfold mA
  by_cases c1 : isD (t_c b n a) = true
  · rw [if_pos c1]; exact mP_G ha
  rw [if_neg c1]
  by_cases c2 : t_c b n a = 40
  · rw [if_pos c2]
    have := t_c_in c2 (by omega)
    exact mOp_G (sk_G (by omega) (by omega))
  rw [if_neg c2]
  by_cases c3 : isW b n a w_min = true
  · rw [if_pos c3]
    have h3 : a + 3 ≤ n := (isW_l c3).1
    exact mMM_G (sk_G (by omega) h3)
  rw [if_neg c3]
  by_cases c4 : isW b n a w_max = true
  · rw [if_pos c4]
    have h3 : a + 3 ≤ n := (isW_l c4).1
    exact mMM_G (sk_G (by omega) h3)
  rw [if_neg c4]
  by_cases c5 : kd = 3 ∧ isW b n a w_likes = true
  · rw [if_pos c5]
    have h3 : a + 5 ≤ n := (isW_l c5.2).1
    exact mOp_G (sk_G (by omega) h3)
  rw [if_neg c5]
  by_cases c6 : kd = 3 ∧ isW b n a w_knows = true
  · rw [if_pos c6]
    have h3 : a + 5 ≤ n := (isW_l c6.2).1
    exact mOp_G (sk_G (by omega) h3)
  rw [if_neg c6]
  exact mP_G ha
theorem mB_G {o : Nat} {W Q : List Nat} : mGr n a (mB b n a W Q o) := by
  have g : ∀ c, t_c b n a = c → 0 < c → a < sk b n (a + 1) ∧ sk b n (a + 1) ≤ n := fun c h hc => by
    have := t_c_in h hc
    exact sk_G (by omega) (by omega)
  unfold mB
  by_cases c1 : t_c b n a = 41 ∧ (mBr W = 20 ∨ mBr W = 23 ∨ mBr W = 24)
  · rw [if_pos c1]; exact Or.inr (g _ c1.1 (by omega))
  rw [if_neg c1]
  by_cases c2 : t_c b n a = 42
  · rw [if_pos c2]; exact Or.inr (g _ c2 (by omega))
  rw [if_neg c2]
  by_cases c3 : t_c b n a = 47
  · rw [if_pos c3]; exact Or.inr (g _ c3 (by omega))
  rw [if_neg c3]
  by_cases c4 : t_c b n a = 43
  · rw [if_pos c4]; exact Or.inr (g _ c4 (by omega))
  rw [if_neg c4]
  by_cases c5 : t_c b n a = 45
  · rw [if_pos c5]; exact Or.inr (g _ c5 (by omega))
  rw [if_neg c5]
  by_cases c6 : mBr W = 21 ∨ mBr W = 22
  · rw [if_pos c6]
    by_cases c7 : t_c b n a = 44
    · rw [if_pos c7]; exact Or.inr (g _ c7 (by omega))
    · rw [if_neg c7]; exact Or.inl (by show 2 ≤ 3; omega)
  rw [if_neg c6]
  by_cases c8 : mBr W = 0
  · rw [if_pos c8]; exact Or.inl (by show 2 ≤ 2; omega)
  · rw [if_neg c8]; exact Or.inl (by show 2 ≤ 3; omega)
theorem mS_G (c : mO) (h : c.1 < 2) (hn : c.2.1 ≤ n) : mGr n c.2.1 (mS b n kd c) := by
  rcases c with ⟨k, y, W, Q, o⟩
  match k, h with
  | 0, _ => exact mA_G hn
  | 1, _ => exact mB_G
theorem mN_G : ∀ (j : Nat) (c d : mO), mN b n kd j c = d → c.1 < 2 → d.1 < 2 → c.2.1 ≤ n → c = d ∨ (c.2.1 < d.2.1 ∧ d.2.1 ≤ n)
  | 0, c, d, h, _, _, _ => Or.inl h
  | j + 1, c, d, h, h1, h2, h3 => by
    have h : mN b n kd j (mS b n kd c) = d := h
    rcases mS_G (b := b) (n := n) (kd := kd) c h1 h3 with z | z
    · rw [mN_z z] at h
      rw [h] at z; omega
    · by_cases c1 : (mS b n kd c).1 < 2
      · rcases mN_G j _ d h c1 h2 z.2 with q | q
        · rw [← q]; exact Or.inr z
        · exact Or.inr ⟨by omega, q.2⟩
      · have hz : mZ (mS b n kd c) := Nat.le_of_not_lt c1
        rw [mN_z hz] at h
        rw [h] at c1; omega
/-- from before a part to behind it, and back, it goes on -/
theorem mr_AB {a' o o' : Nat} {W W' Q Q' : List Nat} (h : mr b n kd (.A a W Q o) (.B a' W' Q' o')) (ha : a ≤ n) : a < a' ∧ a' ≤ n := by
  obtain ⟨j, hj⟩ := h
  rcases mN_G j _ _ hj (by show 0 < 2; omega) (by show 1 < 2; omega) ha with q | q
  · exact absurd (congrArg (fun c : mO => c.1) q) (by show ¬ (0 : Nat) = 1; omega)
  · exact q
theorem mr_BA {a' o o' : Nat} {W W' Q Q' : List Nat} (h : mr b n kd (.B a W Q o) (.A a' W' Q' o')) (ha : a ≤ n) : a < a' ∧ a' ≤ n := by
  obtain ⟨j, hj⟩ := h
  rcases mN_G j _ _ hj (by show 1 < 2; omega) (by show 0 < 2; omega) ha with q | q
  · exact absurd (congrArg (fun c : mO => c.1) q) (by show ¬ (1 : Nat) = 0; omega)
  · exact q
end B7g
