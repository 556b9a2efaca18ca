/-! a heap that is told by lists of writes -/
section Bb0
def iB {α : Type} (f : Nat → Nat → α) : List (Nat × Nat × α) → Nat → Nat → α
  | [] => f
  | w :: ws => u2 (iB f ws) w.1 w.2.1 w.2.2
def rB : List (Nat × Nat × Nat) → Nat → Nat → Option Nat
  | [] => fun _ _ => none
  | w :: ws => u2 (rB ws) w.1 w.2.1 (some w.2.2)
abbrev hq (n : Nat) (I : Nat → Nat → Int32) (L : Nat → Nat → Int64) (R : Nat → Nat → Option Nat) : zH := ((n, zK), I, L, R)
def hw (n : Nat) (f : Nat → Nat → Int32) (g : Nat → Nat → Int64) (I : List (Nat × Nat × Int32)) (L : List (Nat × Nat × Int64)) (R : List (Nat × Nat × Nat)) : zH := hq n (iB f I) (iB g L) (rB R)
def clL {α : Type} (n : Nat) (ws : List (Nat × Nat × α)) : Bool := ws.all (fun w => decide (w.1 < n))
def clF {α : Type} [OfNat α 0] (n : Nat) (f : Nat → Nat → α) : Prop := ∀ a, n ≤ a → ∀ j, f a j = 0
theorem clF.le {α : Type} [OfNat α 0] {n m : Nat} {f : Nat → Nat → α} (h : clF n f) (hm : n ≤ m) : clF m f := fun a ha j => h a (by omega) j
theorem iB_c {α : Type} [OfNat α 0] {n : Nat} {f : Nat → Nat → α} (hf : clF n f) : ∀ ws : List (Nat × Nat × α), clL n ws = true → clF n (iB f ws)
  | [], _ => hf
  | w :: ws, h => by
    have h : (decide (w.1 < n) && ws.all (fun w => decide (w.1 < n))) = true := h
    rw [Bool.and_eq_true] at h
    intro a ha j
    show u2 (iB f ws) w.1 w.2.1 w.2.2 a j = 0
    have h1 : w.1 < n := of_decide_eq_true h.1
    rw [u2_ap, if_neg (by omega)]
    exact iB_c hf ws h.2 a ha j
theorem rB_c {n : Nat} : ∀ ws : List (Nat × Nat × Nat), clL n ws = true → ∀ a, n ≤ a → ∀ j, rB ws a j = none
  | [], _, _, _, _ => rfl
  | w :: ws, h, a, ha, j => by
    have h : (decide (w.1 < n) && ws.all (fun w => decide (w.1 < n))) = true := h
    rw [Bool.and_eq_true] at h
    have h1 : w.1 < n := of_decide_eq_true h.1
    show u2 (rB ws) w.1 w.2.1 (some w.2.2) a j = none
    rw [u2_ap, if_neg (by omega)]
    exact rB_c ws h.2 a ha j
variable {n n2 c m k a b t j : Nat} {F : Nat → zM} {G : zM} {f : Nat → Nat → Int32} {g : Nat → Nat → Int64} {I : List (Nat × Nat × Int32)} {L : List (Nat × Nat × Int64)} {R : List (Nat × Nat × Nat)}
theorem q_new {I : Nat → Nat → Int32} {L : Nat → Nat → Int64} {R : Nat → Nat → Option Nat} (hn : n + 1 = n2) (hk : zK n = (c, m)) (hb : n < zB) (hI : clF n I) (hL : clF n L) (hR : ∀ a, n ≤ a → ∀ j, R a j = none) : z_new c m F (hq n I L R) = F n (hq n2 I L R) := by
  have e : zN (hq n I L R) c m = hq n2 I L R := by
    have e1 : (fun b => if b = n then (c, m) else zK b) = zK := by
      funext b
      by_cases h : b = n
      · rw [if_pos h, h, hk]
      · rw [if_neg h]
    have e2 : (fun b i => if b = n then (0 : Int32) else I b i) = I := by
      funext b i
      by_cases h : b = n
      · rw [if_pos h, h, hI n (Nat.le_refl _) i]
      · rw [if_neg h]
    have e3 : (fun b i => if b = n then (0 : Int64) else L b i) = L := by
      funext b i
      by_cases h : b = n
      · rw [if_pos h, h, hL n (Nat.le_refl _) i]
      · rw [if_neg h]
    have e4 : (fun b i => if b = n then none else R b i) = R := by
      funext b i
      by_cases h : b = n
      · rw [if_pos h, h, hR n (Nat.le_refl _) i]
      · rw [if_neg h]
    show ((n + 1, (fun b => if b = n then (c, m) else zK b)), (fun b i => if b = n then (0 : Int32) else I b i), (fun b i => if b = n then (0 : Int64) else L b i), (fun b i => if b = n then none else R b i)) = _
    rw [e1, e2, e3, e4, hn]
  show (if n < zB then F n (zN (hq n I L R) c m) else none) = _
  rw [if_pos hb, e]
theorem w_new (hn : n + 1 = n2) (hk : zK n = (c, m)) (hb : n < zB) (hf : clF n f) (hg : clF n g) (hI : clL n I = true) (hL : clL n L = true) (hR : clL n R = true) : z_new c m F (hw n f g I L R) = F n (hw n2 f g I L R) := q_new hn hk hb (iB_c hf I hI) (iB_c hg L hL) (rB_c R hR)
theorem w_pr (ha : a < n) (hk : (zK a).1 = c) : z_pr c k a b G (hw n f g I L R) = G (hw n f g I L ((a, k, b) :: R)) := if_pos ⟨ha, hk⟩
theorem w_pi {x : Int32} (ha : a < n) (hk : (zK a).1 = c) : z_pi c k a x G (hw n f g I L R) = G (hw n f g ((a, k, x) :: I) L R) := if_pos ⟨ha, hk⟩
theorem w_pb {x : Int32} (ha : a < n) (hk : (zK a).1 = c) (hx : x = 0 ∨ x = 1) : z_pb c k a x G (hw n f g I L R) = G (hw n f g ((a, k, x) :: I) L R) := if_pos ⟨⟨ha, hk⟩, hx⟩
theorem w_pl {x : Int64} (ha : a < n) (hk : (zK a).1 = c) : z_pl c k a x G (hw n f g I L R) = G (hw n f g I ((a, k, x) :: L) R) := if_pos ⟨ha, hk⟩
theorem zK_s (a : Nat) : (zK a).2 < 2147483648 := by
  by_cases h : a < 297
  · have : ∀ b, b < 297 → (zK b).2 < 2147483648 := by decide +kernel
    exact this a h
  · have : zK a = (0, 0) := by
      unfold zK
      rw [List.getD_eq_getElem?_getD, List.getElem?_eq_none (by have : zKl.length = 297 := by decide +kernel
                                                                omega)]
      rfl
    rw [this]; decide
theorem w_sa {i x : Int32} (ha : a < n) (hk : (zK a).1 = t) (hi : i = nI j) (hj : j < (zK a).2) : z_sa t a i x G (hw n f g I L R) = G (hw n f g ((a, j, x) :: I) L R) := by
  subst hi
  have hn := nI_ok hj (zK_s a)
  show (if _ then G (hq n (u2 (iB f I) a (nI j).toNatClampNeg x) (iB g L) (rB R)) else _) = _
  rw [if_pos ⟨⟨ha, hk⟩, hn.1, hn.2.1⟩, hn.2.2]; rfl
theorem w_sc {i v : Int32} (ha : a < n) (hk : (zK a).1 = 22) (hi : i = nI j) (hj : j < (zK a).2) (hv : vp_nar .char v = v) : z_sa 22 a i (vp_nar .char v) G (hw n f g I L R) = G (hw n f g ((a, j, v) :: I) L R) := by
  rw [hv]
  exact w_sa ha hk hi hj
theorem w_sr (ha : a < n) (hk : (zK a).1 = 24) (hb : b < n) (hkb : (zK b).1 = 8) (hj : j < (zK a).2) : z_sr a (nI j) b G (hw n f g I L R) = G (hw n f g I L ((a, j, b) :: R)) := by
  have hn := nI_ok hj (zK_s a)
  show (if _ then G (hq n (iB f I) (iB g L) (u2 (rB R) a (nI j).toNatClampNeg (some b))) else _) = _
  rw [if_pos ⟨⟨⟨ha, hk⟩, hb, hkb⟩, hn.1, hn.2.1⟩, hn.2.2]; rfl
theorem w_gr (ha : a < n) (hk : (zK a).1 = c) (hb : rB R a k = some b) : z_gr c k a F (hw n f g I L R) = F b (hw n f g I L R) := by
  show (if _ then (match rB R a k with | some b => F b _ | none => none) else _) = _
  rw [if_pos ⟨ha, hk⟩, hb]
end Bb0
