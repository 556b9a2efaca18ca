/-! the small machine: a heap of numbered cells (kinds; numbers; long numbers; references), runs as functions -/
abbrev zH : Type := (Nat × (Nat → Nat × Nat)) × (Nat → Nat → Int32) × (Nat → Nat → Int64) × (Nat → Nat → Option Nat)
abbrev zM : Type := zH → Option (Option Value × zH)
def gN (h : zH) : Nat := h.1.1
def gK (h : zH) (a : Nat) : Nat × Nat := h.1.2 a
def gI (h : zH) (a j : Nat) : Int32 := h.2.1 a j
def gL (h : zH) (a j : Nat) : Int64 := h.2.2.1 a j
def gR (h : zH) (a j : Nat) : Option Nat := h.2.2.2 a j
def u2 {α : Type} (f : Nat → Nat → α) (a j : Nat) (x : α) : Nat → Nat → α := fun b i => if b = a ∧ i = j then x else f b i
def sI (h : zH) (a j : Nat) (x : Int32) : zH := (h.1, u2 h.2.1 a j x, h.2.2)
def sL (h : zH) (a j : Nat) (x : Int64) : zH := (h.1, h.2.1, u2 h.2.2.1 a j x, h.2.2.2)
def sR (h : zH) (a j : Nat) (x : Option Nat) : zH := (h.1, h.2.1, h.2.2.1, u2 h.2.2.2 a j x)
def zB : Nat := 1000000
/-- a new cell of kind t, n places -/
def zN (h : zH) (t n : Nat) : zH := ((h.1.1 + 1, fun b => if b = h.1.1 then (t, n) else h.1.2 b), (fun b i => if b = h.1.1 then 0 else h.2.1 b i), (fun b i => if b = h.1.1 then 0 else h.2.2.1 b i), (fun b i => if b = h.1.1 then none else h.2.2.2 b i))
/-- ints copied: n of cell a from sp on into cell b from dp on -/
def zCp (h : zH) (a sp b dp n : Nat) : zH := (h.1, (fun c i => if c = b ∧ dp ≤ i ∧ i < dp + n then h.2.1 a (sp + (i - dp)) else h.2.1 c i), h.2.2)
-- what code does, by one continuation: none where the machine itself would throw, or a cell isn't of its kind
def z_ret (v : Option Value) : zM := fun h => some (v, h)
def z_rb (x : Int32) : zM := fun h => if x = 0 ∨ x = 1 then some (some (.int x), h) else none
def z_if (c : Prop) [Decidable c] (f g : zM) : zM := fun h => if c then f h else g h
def z_ck (c : Prop) [Decidable c] (f : zM) : zM := fun h => if c then f h else none
def z_gi (c k a : Nat) (f : Int32 → zM) : zM := fun h => if a < gN h ∧ (gK h a).1 = c then f (gI h a k) h else none
def z_gl (c k a : Nat) (f : Int64 → zM) : zM := fun h => if a < gN h ∧ (gK h a).1 = c then f (gL h a k) h else none
def z_gr (c k a : Nat) (f : Nat → zM) : zM := fun h => if a < gN h ∧ (gK h a).1 = c then (match gR h a k with | some b => f b h | none => none) else none
def z_pi (c k a : Nat) (x : Int32) (f : zM) : zM := fun h => if a < gN h ∧ (gK h a).1 = c then f (sI h a k x) else none
def z_pb (c k a : Nat) (x : Int32) (f : zM) : zM := fun h => if (a < gN h ∧ (gK h a).1 = c) ∧ (x = 0 ∨ x = 1) then f (sI h a k x) else none
def z_pl (c k a : Nat) (x : Int64) (f : zM) : zM := fun h => if a < gN h ∧ (gK h a).1 = c then f (sL h a k x) else none
def z_pr (c k a b : Nat) (f : zM) : zM := fun h => if a < gN h ∧ (gK h a).1 = c then f (sR h a k (some b)) else none
def z_la (t a : Nat) (i : Int32) (f : Int32 → zM) : zM := fun h => if (a < gN h ∧ (gK h a).1 = t) ∧ (0 ≤ i.toInt ∧ i.toInt < (gK h a).2) then f (gI h a i.toNatClampNeg) h else none
def z_sa (t a : Nat) (i x : Int32) (f : zM) : zM := fun h => if (a < gN h ∧ (gK h a).1 = t) ∧ (0 ≤ i.toInt ∧ i.toInt < (gK h a).2) then f (sI h a i.toNatClampNeg x) else none
def z_ll (a : Nat) (i : Int32) (f : Int64 → zM) : zM := fun h => if (a < gN h ∧ (gK h a).1 = 23) ∧ (0 ≤ i.toInt ∧ i.toInt < (gK h a).2) then f (gL h a i.toNatClampNeg) h else none
def z_sl (a : Nat) (i : Int32) (x : Int64) (f : zM) : zM := fun h => if (a < gN h ∧ (gK h a).1 = 23) ∧ (0 ≤ i.toInt ∧ i.toInt < (gK h a).2) then f (sL h a i.toNatClampNeg x) else none
def z_lr (a : Nat) (i : Int32) (f : Nat → zM) : zM := fun h => if (a < gN h ∧ (gK h a).1 = 24) ∧ (0 ≤ i.toInt ∧ i.toInt < (gK h a).2) then (match gR h a i.toNatClampNeg with | some b => f b h | none => none) else none
def z_sr (a : Nat) (i : Int32) (b : Nat) (f : zM) : zM := fun h => if ((a < gN h ∧ (gK h a).1 = 24) ∧ (b < gN h ∧ (gK h b).1 = 8)) ∧ (0 ≤ i.toInt ∧ i.toInt < (gK h a).2) then f (sR h a i.toNatClampNeg (some b)) else none
def z_len (a : Nat) (f : Int32 → zM) : zM := fun h => if a < gN h ∧ 20 ≤ (gK h a).1 ∧ (gK h a).1 < 25 then f (Int32.ofNat (gK h a).2) h else none
def z_new (c n : Nat) (f : Nat → zM) : zM := fun h => if gN h < zB then f (gN h) (zN h c n) else none
def z_cv (g : zM) (f : zM) : zM := fun h => match g h with | some (none, h1) => f h1 | _ => none
def z_ci (g : zM) (f : Int32 → zM) : zM := fun h => match g h with | some (some (.int r), h1) => f r h1 | _ => none
def z_cl (g : zM) (f : Int64 → zM) : zM := fun h => match g h with | some (some (.long r), h1) => f r h1 | _ => none
def z_cr (g : zM) (f : Nat → zM) : zM := fun h => match g h with | some (some (.ref r), h1) => f r h1 | _ => none
def z_cp (a : Nat) (sp : Int32) (b : Nat) (dp n : Int32) (f : zM) : zM := fun h => if (a < gN h ∧ (gK h a).1 = 20) ∧ (b < gN h ∧ (gK h b).1 = 20) ∧ (0 ≤ sp.toInt ∧ 0 ≤ dp.toInt ∧ 0 ≤ n.toInt ∧ sp.toInt + n.toInt ≤ (gK h a).2 ∧ dp.toInt + n.toInt ≤ (gK h b).2) then f (zCp h a sp.toNatClampNeg b dp.toNatClampNeg n.toNatClampNeg) else none
/-- a loop: its body, with the loop itself at hand, so many rounds at most -/
def z_fix {α : Type} (body : (α → zM) → α → zM) : Nat → α → zM
  | 0, _ => fun _ => none
  | n + 1, x => body (z_fix body n) x
def zFU : Nat := 1000000
def z_strs : List (String × Nat × String) := [("ClothWedding$Grammar", 9, "known spring liking warm work size feel round waited"), ("ClothWedding$ChurchReader", 56, "left right kin likes knows rounds feels lets learns slip"), ("ClothWedding$Text", 73, "left right warm work size kin likes knows rounds feels lets learns slip liking known feel round spring waited number side wed or and not all min max"), ("ClothWedding$ChurchReader", 110, "warm"), ("ClothWedding$ChurchReader", 118, "work"), ("ClothWedding$ChurchReader", 122, "size"), ("ClothWedding$Grammar", 65, "not"), ("ClothWedding$Grammar", 81, "all"), ("ClothWedding$Grammar", 114, "min"), ("ClothWedding$Grammar", 119, "max"), ("ClothWedding$Grammar", 121, "likes"), ("ClothWedding$Grammar", 127, "knows"), ("ClothWedding$Grammar", 59, "and"), ("ClothWedding$Grammar", 43, "or"), ("ClothWedding$Grammar", 37, "number side warm work size waited wed spring round"), ("ClothWedding$Question", 46, "first last often total most least")]
def zs_len : List Nat := [52, 56, 148, 4, 4, 4, 3, 3, 3, 3, 5, 5, 3, 2, 50, 33]
def zs_byt : List (List Int32) := [[107, 110, 111, 119, 110, 32, 115, 112, 114, 105, 110, 103, 32, 108, 105, 107, 105, 110, 103, 32, 119, 97, 114, 109, 32, 119, 111, 114, 107, 32, 115, 105, 122, 101, 32, 102, 101, 101, 108, 32, 114, 111, 117, 110, 100, 32, 119, 97, 105, 116, 101, 100], [108, 101, 102, 116, 32, 114, 105, 103, 104, 116, 32, 107, 105, 110, 32, 108, 105, 107, 101, 115, 32, 107, 110, 111, 119, 115, 32, 114, 111, 117, 110, 100, 115, 32, 102, 101, 101, 108, 115, 32, 108, 101, 116, 115, 32, 108, 101, 97, 114, 110, 115, 32, 115, 108, 105, 112], [108, 101, 102, 116, 32, 114, 105, 103, 104, 116, 32, 119, 97, 114, 109, 32, 119, 111, 114, 107, 32, 115, 105, 122, 101, 32, 107, 105, 110, 32, 108, 105, 107, 101, 115, 32, 107, 110, 111, 119, 115, 32, 114, 111, 117, 110, 100, 115, 32, 102, 101, 101, 108, 115, 32, 108, 101, 116, 115, 32, 108, 101, 97, 114, 110, 115, 32, 115, 108, 105, 112, 32, 108, 105, 107, 105, 110, 103, 32, 107, 110, 111, 119, 110, 32, 102, 101, 101, 108, 32, 114, 111, 117, 110, 100, 32, 115, 112, 114, 105, 110, 103, 32, 119, 97, 105, 116, 101, 100, 32, 110, 117, 109, 98, 101, 114, 32, 115, 105, 100, 101, 32, 119, 101, 100, 32, 111, 114, 32, 97, 110, 100, 32, 110, 111, 116, 32, 97, 108, 108, 32, 109, 105, 110, 32, 109, 97, 120], [119, 97, 114, 109], [119, 111, 114, 107], [115, 105, 122, 101], [110, 111, 116], [97, 108, 108], [109, 105, 110], [109, 97, 120], [108, 105, 107, 101, 115], [107, 110, 111, 119, 115], [97, 110, 100], [111, 114], [110, 117, 109, 98, 101, 114, 32, 115, 105, 100, 101, 32, 119, 97, 114, 109, 32, 119, 111, 114, 107, 32, 115, 105, 122, 101, 32, 119, 97, 105, 116, 101, 100, 32, 119, 101, 100, 32, 115, 112, 114, 105, 110, 103, 32, 114, 111, 117, 110, 100], [102, 105, 114, 115, 116, 32, 108, 97, 115, 116, 32, 111, 102, 116, 101, 110, 32, 116, 111, 116, 97, 108, 32, 109, 111, 115, 116, 32, 108, 101, 97, 115, 116]]
def z_parts : Nat → Int32 := fun j => if j = 0 then 63 else if j = 1 then 455 else 67
def z_slen (a : Nat) (F : Int32 → zM) : zM := fun h => if zB ≤ a ∧ a < zB + 16 then F (Int32.ofNat (zs_len.getD (a - zB) 0)) h else none
def z_sch (a : Nat) (i : Int32) (F : Int32 → zM) : zM := fun h => if (zB ≤ a ∧ a < zB + 16) ∧ (0 ≤ i.toInt ∧ i.toInt < (zs_len.getD (a - zB) 0 : Nat)) then F ((zs_byt.getD (a - zB) []).getD i.toNatClampNeg 0) h else none
def z_rc (c a : Nat) (f : zM) : zM := fun h => if a < gN h ∧ (gK h a).1 = c then f h else none
theorem gI_sI (h : zH) (a j : Nat) (x : Int32) (b i : Nat) : gI (sI h a j x) b i = if b = a ∧ i = j then x else gI h b i := rfl
theorem gL_sL (h : zH) (a j : Nat) (x : Int64) (b i : Nat) : gL (sL h a j x) b i = if b = a ∧ i = j then x else gL h b i := rfl
theorem gR_sR (h : zH) (a j : Nat) (x : Option Nat) (b i : Nat) : gR (sR h a j x) b i = if b = a ∧ i = j then x else gR h b i := rfl
theorem gN_sI (h : zH) (a j : Nat) (x : Int32) : gN (sI h a j x) = gN h := rfl
theorem gN_sL (h : zH) (a j : Nat) (x : Int64) : gN (sL h a j x) = gN h := rfl
theorem gN_sR (h : zH) (a j : Nat) (x : Option Nat) : gN (sR h a j x) = gN h := rfl
theorem gK_sI (h : zH) (a j : Nat) (x : Int32) : gK (sI h a j x) = gK h := rfl
theorem gK_sL (h : zH) (a j : Nat) (x : Int64) : gK (sL h a j x) = gK h := rfl
theorem gK_sR (h : zH) (a j : Nat) (x : Option Nat) : gK (sR h a j x) = gK h := rfl
theorem gL_sI (h : zH) (a j : Nat) (x : Int32) : gL (sI h a j x) = gL h := rfl
theorem gR_sI (h : zH) (a j : Nat) (x : Int32) : gR (sI h a j x) = gR h := rfl
theorem gI_sL (h : zH) (a j : Nat) (x : Int64) : gI (sL h a j x) = gI h := rfl
theorem gR_sL (h : zH) (a j : Nat) (x : Int64) : gR (sL h a j x) = gR h := rfl
theorem gI_sR (h : zH) (a j : Nat) (x : Option Nat) : gI (sR h a j x) = gI h := rfl
theorem gL_sR (h : zH) (a j : Nat) (x : Option Nat) : gL (sR h a j x) = gL h := rfl
