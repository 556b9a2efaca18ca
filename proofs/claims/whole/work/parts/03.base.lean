/-! the small machine: a heap of numbered cells (kinds; numbers; long numbers; references), runs as functions -/
abbrev zH : Type := (Nat × (Nat → Nat × Nat)) × (Nat → Nat → Int32) × (Nat → Nat → Int64) × (Nat → Nat → Option Nat)
abbrev zM : Type := zH → Option (Option Value × zH)
def gN (h : zH) : Nat := h.1.1
def gK (h : zH) (a : Nat) : Nat × Nat := h.1.2 a
def gI (h : zH) (a j : Nat) : Int32 := h.2.1 a j
def gL (h : zH) (a j : Nat) : Int64 := h.2.2.1 a j
def gR (h : zH) (a j : Nat) : Option Nat := h.2.2.2 a j
def u2 {α : Type} (f : Nat → Nat → α) (a j : Nat) (x : α) : Nat → Nat → α := fun b i => if b = a ∧ i = j then x else f b i
def sI (h : zH) (a j : Nat) (x : Int32) : zH := (h.1, u2 h.2.1 a j x, h.2.2)
def sL (h : zH) (a j : Nat) (x : Int64) : zH := (h.1, h.2.1, u2 h.2.2.1 a j x, h.2.2.2)
def sR (h : zH) (a j : Nat) (x : Option Nat) : zH := (h.1, h.2.1, h.2.2.1, u2 h.2.2.2 a j x)
def zB : Nat := 1000000
/-- a new cell of kind t, n places -/
def zN (h : zH) (t n : Nat) : zH := ((h.1.1 + 1, fun b => if b = h.1.1 then (t, n) else h.1.2 b), (fun b i => if b = h.1.1 then 0 else h.2.1 b i), (fun b i => if b = h.1.1 then 0 else h.2.2.1 b i), (fun b i => if b = h.1.1 then none else h.2.2.2 b i))
/-- ints copied: n of cell a from sp on into cell b from dp on -/
def zCp (h : zH) (a sp b dp n : Nat) : zH := (h.1, (fun c i => if c = b ∧ dp ≤ i ∧ i < dp + n then h.2.1 a (sp + (i - dp)) else h.2.1 c i), h.2.2)
-- what code does, by one continuation: none where the machine itself would throw, or a cell isn't of its kind
def z_ret (v : Option Value) : zM := fun h => some (v, h)
def z_rb (x : Int32) : zM := fun h => if x = 0 ∨ x = 1 then some (some (.int x), h) else none
def z_if (c : Prop) [Decidable c] (f g : zM) : zM := fun h => if c then f h else g h
def z_ck (c : Prop) [Decidable c] (f : zM) : zM := fun h => if c then f h else none
def z_gi (c k a : Nat) (f : Int32 → zM) : zM := fun h => if a < gN h ∧ (gK h a).1 = c then f (gI h a k) h else none
def z_gl (c k a : Nat) (f : Int64 → zM) : zM := fun h => if a < gN h ∧ (gK h a).1 = c then f (gL h a k) h else none
def z_gr (c k a : Nat) (f : Nat → zM) : zM := fun h => if a < gN h ∧ (gK h a).1 = c then (match gR h a k with | some b => f b h | none => none) else none
def z_pi (c k a : Nat) (x : Int32) (f : zM) : zM := fun h => if a < gN h ∧ (gK h a).1 = c then f (sI h a k x) else none
def z_pb (c k a : Nat) (x : Int32) (f : zM) : zM := fun h => if (a < gN h ∧ (gK h a).1 = c) ∧ (x = 0 ∨ x = 1) then f (sI h a k x) else none
def z_pl (c k a : Nat) (x : Int64) (f : zM) : zM := fun h => if a < gN h ∧ (gK h a).1 = c then f (sL h a k x) else none
def z_pr (c k a b : Nat) (f : zM) : zM := fun h => if a < gN h ∧ (gK h a).1 = c then f (sR h a k (some b)) else none
def z_la (t a : Nat) (i : Int32) (f : Int32 → zM) : zM := fun h => if (a < gN h ∧ (gK h a).1 = t) ∧ (0 ≤ i.toInt ∧ i.toInt < (gK h a).2) then f (gI h a i.toNatClampNeg) h else none
def z_sa (t a : Nat) (i x : Int32) (f : zM) : zM := fun h => if (a < gN h ∧ (gK h a).1 = t) ∧ (0 ≤ i.toInt ∧ i.toInt < (gK h a).2) then f (sI h a i.toNatClampNeg x) else none
def z_ll (a : Nat) (i : Int32) (f : Int64 → zM) : zM := fun h => if (a < gN h ∧ (gK h a).1 = 23) ∧ (0 ≤ i.toInt ∧ i.toInt < (gK h a).2) then f (gL h a i.toNatClampNeg) h else none
def z_sl (a : Nat) (i : Int32) (x : Int64) (f : zM) : zM := fun h => if (a < gN h ∧ (gK h a).1 = 23) ∧ (0 ≤ i.toInt ∧ i.toInt < (gK h a).2) then f (sL h a i.toNatClampNeg x) else none
def z_lr (a : Nat) (i : Int32) (f : Nat → zM) : zM := fun h => if (a < gN h ∧ (gK h a).1 = 24) ∧ (0 ≤ i.toInt ∧ i.toInt < (gK h a).2) then (match gR h a i.toNatClampNeg with | some b => f b h | none => none) else none
def z_sr (a : Nat) (i : Int32) (b : Nat) (f : zM) : zM := fun h => if ((a < gN h ∧ (gK h a).1 = 24) ∧ (b < gN h ∧ (gK h b).1 = 8)) ∧ (0 ≤ i.toInt ∧ i.toInt < (gK h a).2) then f (sR h a i.toNatClampNeg (some b)) else none
def z_len (a : Nat) (f : Int32 → zM) : zM := fun h => if a < gN h ∧ 20 ≤ (gK h a).1 ∧ (gK h a).1 < 25 then f (Int32.ofNat (gK h a).2) h else none
def z_new (c n : Nat) (f : Nat → zM) : zM := fun h => if gN h < zB then f (gN h) (zN h c n) else none
def z_cv (g : zM) (f : zM) : zM := fun h => match g h with | some (none, h1) => f h1 | _ => none
def z_ci (g : zM) (f : Int32 → zM) : zM := fun h => match g h with | some (some (.int r), h1) => f r h1 | _ => none
def z_cl (g : zM) (f : Int64 → zM) : zM := fun h => match g h with | some (some (.long r), h1) => f r h1 | _ => none
def z_cr (g : zM) (f : Nat → zM) : zM := fun h => match g h with | some (some (.ref r), h1) => f r h1 | _ => none
def z_cp (a : Nat) (sp : Int32) (b : Nat) (dp n : Int32) (f : zM) : zM := fun h => if (a < gN h ∧ (gK h a).1 = 20) ∧ (b < gN h ∧ (gK h b).1 = 20) ∧ (0 ≤ sp.toInt ∧ 0 ≤ dp.toInt ∧ 0 ≤ n.toInt ∧ sp.toInt + n.toInt ≤ (gK h a).2 ∧ dp.toInt + n.toInt ≤ (gK h b).2) then f (zCp h a sp.toNatClampNeg b dp.toNatClampNeg n.toNatClampNeg) else none
/-- a loop: its body, with the loop itself at hand, so many rounds at most -/
def z_fix {α : Type} (body : (α → zM) → α → zM) : Nat → α → zM
  | 0, _ => fun _ => none
  | n + 1, x => body (z_fix body n) x
def zFU : Nat := 1000000
-- what a heap of the small machine is on the machine
abbrev zG : Type := va_G × (Nat → ClassId) × Nat × (Nat → Nat)
def zad (G : zG) (k : Nat) : Nat := if k < zB then G.2.2.1 + k else G.2.2.2 (k - zB)
def zA (G : zG) : Nat → Prop := fun q => G.2.2.1 ≤ q
def zc (G : zG) : Value → Value
  | .ref k => .ref (zad G k)
  | v => v
def zcp (G : zG) (q : Nat × Value) : Nat × Value := (q.1, zc G q.2)
def fty (c k : Nat) : Nat := match cl_t c k with | .long => 1 | .object _ => 2 | .array _ => 2 | _ => 0
def zfv (h : zH) (a c k : Nat) : Value := if fty c k = 0 then .int (gI h a k) else if fty c k = 1 then .long (gL h a k) else va_rf (gR h a k)
def cl_n (c : Nat) : Nat := match cl_s[c]? with | some q => q.2.2 | none => 0
def zfs (G : zG) (h : zH) (a c : Nat) : List Value := (List.range (cl_n c)).map (fun k => zc G (zfv h a c k))
def zE (G : zG) (h : zH) (a : Nat) : va_E :=
  if (gK h a).1 = 20 then .inl (G.2.1 0, (gK h a).2, .inl (gI h a)) else
  if (gK h a).1 = 21 then .inl (G.2.1 1, (gK h a).2, .inl (gI h a)) else
  if (gK h a).1 = 22 then .inl (G.2.1 2, (gK h a).2, .inl (gI h a)) else
  if (gK h a).1 = 23 then .inl (G.2.1 3, (gK h a).2, .inr (.inl (gL h a))) else
  if (gK h a).1 = 24 then .inl (G.2.1 4, (gK h a).2, .inr (.inr (.inr (.inr (fun j => (gR h a j).map (zad G)))))) else
  .inr ((gK h a).1, zfs G h a (gK h a).1)
def zws (G : zG) (h : zH) : va_W := (List.range (gN h)).map (fun k => (zad G k, zE G h k))
def zP (G : zG) (h : zH) (H : Heap) : Prop := va_P G.1 cl_s (zws G h) H ∧ gN h ≤ zB
def ztys (G : zG) : List (ClassId × FieldType) := [(G.2.1 0, .int), (G.2.1 1, .boolean), (G.2.1 2, .char), (G.2.1 3, .long), (G.2.1 4, .object "ClothWedding$State")]
def z_strs : List (String × Nat × String) := [("ClothWedding$Grammar", 9, "known spring liking warm work size feel round waited"), ("ClothWedding$ChurchReader", 56, "left right kin likes knows rounds feels lets learns slip"), ("ClothWedding$Text", 73, "left right warm work size kin likes knows rounds feels lets learns slip liking known feel round spring waited number side wed or and not all min max"), ("ClothWedding$ChurchReader", 110, "warm"), ("ClothWedding$ChurchReader", 118, "work"), ("ClothWedding$ChurchReader", 122, "size"), ("ClothWedding$Grammar", 65, "not"), ("ClothWedding$Grammar", 81, "all"), ("ClothWedding$Grammar", 114, "min"), ("ClothWedding$Grammar", 119, "max"), ("ClothWedding$Grammar", 121, "likes"), ("ClothWedding$Grammar", 127, "knows"), ("ClothWedding$Grammar", 59, "and"), ("ClothWedding$Grammar", 43, "or"), ("ClothWedding$Grammar", 37, "number side warm work size waited wed spring round"), ("ClothWedding$Question", 46, "first last often total most least")]
def zs_len : List Nat := [52, 56, 148, 4, 4, 4, 3, 3, 3, 3, 5, 5, 3, 2, 50, 33]
def zs_byt : List (List Int32) := [[107, 110, 111, 119, 110, 32, 115, 112, 114, 105, 110, 103, 32, 108, 105, 107, 105, 110, 103, 32, 119, 97, 114, 109, 32, 119, 111, 114, 107, 32, 115, 105, 122, 101, 32, 102, 101, 101, 108, 32, 114, 111, 117, 110, 100, 32, 119, 97, 105, 116, 101, 100], [108, 101, 102, 116, 32, 114, 105, 103, 104, 116, 32, 107, 105, 110, 32, 108, 105, 107, 101, 115, 32, 107, 110, 111, 119, 115, 32, 114, 111, 117, 110, 100, 115, 32, 102, 101, 101, 108, 115, 32, 108, 101, 116, 115, 32, 108, 101, 97, 114, 110, 115, 32, 115, 108, 105, 112], [108, 101, 102, 116, 32, 114, 105, 103, 104, 116, 32, 119, 97, 114, 109, 32, 119, 111, 114, 107, 32, 115, 105, 122, 101, 32, 107, 105, 110, 32, 108, 105, 107, 101, 115, 32, 107, 110, 111, 119, 115, 32, 114, 111, 117, 110, 100, 115, 32, 102, 101, 101, 108, 115, 32, 108, 101, 116, 115, 32, 108, 101, 97, 114, 110, 115, 32, 115, 108, 105, 112, 32, 108, 105, 107, 105, 110, 103, 32, 107, 110, 111, 119, 110, 32, 102, 101, 101, 108, 32, 114, 111, 117, 110, 100, 32, 115, 112, 114, 105, 110, 103, 32, 119, 97, 105, 116, 101, 100, 32, 110, 117, 109, 98, 101, 114, 32, 115, 105, 100, 101, 32, 119, 101, 100, 32, 111, 114, 32, 97, 110, 100, 32, 110, 111, 116, 32, 97, 108, 108, 32, 109, 105, 110, 32, 109, 97, 120], [119, 97, 114, 109], [119, 111, 114, 107], [115, 105, 122, 101], [110, 111, 116], [97, 108, 108], [109, 105, 110], [109, 97, 120], [108, 105, 107, 101, 115], [107, 110, 111, 119, 115], [97, 110, 100], [111, 114], [110, 117, 109, 98, 101, 114, 32, 115, 105, 100, 101, 32, 119, 97, 114, 109, 32, 119, 111, 114, 107, 32, 115, 105, 122, 101, 32, 119, 97, 105, 116, 101, 100, 32, 119, 101, 100, 32, 115, 112, 114, 105, 110, 103, 32, 114, 111, 117, 110, 100], [102, 105, 114, 115, 116, 32, 108, 97, 115, 116, 32, 111, 102, 116, 101, 110, 32, 116, 111, 116, 97, 108, 32, 109, 111, 115, 116, 32, 108, 101, 97, 115, 116]]
def z_nest : List Cond := [.methodLinkNest "ClothWedding$Question" 11 ⟨"ClothWedding$Code", "<init>", "()V"⟩ "ClothWedding", .methodLinkNest "ClothWedding" 50 ⟨"ClothWedding$Church", "<init>", "()V"⟩ "ClothWedding", .methodLinkNest "ClothWedding$Church" 49 ⟨"ClothWedding$Code", "<init>", "()V"⟩ "ClothWedding", .methodLinkNest "ClothWedding" 60 ⟨"ClothWedding$State", "<init>", "()V"⟩ "ClothWedding", .methodLinkNest "ClothWedding$Ahead" 11 ⟨"ClothWedding$State", "<init>", "()V"⟩ "ClothWedding", .methodLinkNest "ClothWedding" 85 ⟨"ClothWedding$Likings", "<init>", "()V"⟩ "ClothWedding", .methodLinkNest "ClothWedding$Past" 34 ⟨"ClothWedding$State", "<init>", "()V"⟩ "ClothWedding", .methodLinkNest "ClothWedding$Text" 48 ⟨"ClothWedding", "isDigit", "(I)Z"⟩ "ClothWedding", .methodLinkNest "ClothWedding$Text" 51 ⟨"ClothWedding", "isLetter", "(I)Z"⟩ "ClothWedding", .methodLinkNest "ClothWedding$ChurchReader" 126 ⟨"ClothWedding", "sideOf", "(I)I"⟩ "ClothWedding", .methodLinkNest "ClothWedding$Church" 92 ⟨"ClothWedding", "cell", "(II)I"⟩ "ClothWedding", .methodLinkNest "ClothWedding$ChurchReader" 142 ⟨"ClothWedding", "cell", "(II)I"⟩ "ClothWedding", .fieldLinkNest "ClothWedding$Grammar" 33 "ClothWedding" "PARTS_OF" "[I" "ClothWedding", .methodLinkNest "ClothWedding$Grammar" 107 ⟨"ClothWedding", "isDigit", "(I)Z"⟩ "ClothWedding", .methodLinkNest "ClothWedding$State" 48 ⟨"ClothWedding", "sideOf", "(I)I"⟩ "ClothWedding", .methodLinkNest "ClothWedding$Church" 89 ⟨"ClothWedding", "sideOf", "(I)I"⟩ "ClothWedding", .methodLinkNest "ClothWedding$Walk" 64 ⟨"ClothWedding", "cell", "(II)I"⟩ "ClothWedding", .methodLinkNest "ClothWedding$Walk" 95 ⟨"ClothWedding", "within", "(II)I"⟩ "ClothWedding", .methodLinkNest "ClothWedding$Likings" 58 ⟨"ClothWedding", "cell", "(II)I"⟩ "ClothWedding", .methodLinkNest "ClothWedding$Ahead" 75 ⟨"ClothWedding", "sideOf", "(I)I"⟩ "ClothWedding", .methodLinkNest "ClothWedding$Question" 113 ⟨"ClothWedding", "sideOf", "(I)I"⟩ "ClothWedding", .methodLinkNest "ClothWedding$Question" 146 ⟨"ClothWedding", "cell", "(II)I"⟩ "ClothWedding"]
def z_parts : Nat → Int32 := fun j => if j = 0 then 63 else if j = 1 then 455 else 67
/-- what was there before: the texts' constants, the static row, nest mates' words -/
def zX (G : zG) (s : State) (H : Heap) : Prop := (∃ aV : Nat → Nat, vk_S 16 zs_len zs_byt G.2.2.2 aV (zA G) s H) ∧ (∀ (i : Nat) (q : String × Nat × String), z_strs[i]? = some q → vk_R q.1 q.2.1 q.2.2 (G.2.2.2 i) s) ∧ (∀ w ∈ z_nest, va_Nw w s) ∧ va_AO "ClothWedding$State" s ∧ va_Z "java/lang/String" "COMPACT_STRINGS" "Z" (.int 1) (zA G) s H ∧ va_Z "ClothWedding" "PARTS_OF" "[I" (.ref (G.2.2.2 16)) (zA G) s H ∧ va_T .int (G.2.2.2 16) 3 (fun j => .int (z_parts j)) (zA G) s H
theorem zws_at (G : zG) (h : zH) {k : Nat} (hk : k < gN h) : (zws G h)[k]? = some (zad G k, zE G h k) := by
  simp [zws, hk]
theorem zws_len (G : zG) (h : zH) : (zws G h).length = gN h := by simp [zws]
theorem zws_set (G : zG) (h h' : zH) {k : Nat} (hk : k < gN h) (hn : gN h' = gN h) (ho : ∀ j, j ≠ k → zE G h' j = zE G h j) {e : va_E} (he : zE G h' k = e) : (zws G h).set k (zad G k, e) = zws G h' := by
  apply List.ext_getElem?
  intro i
  rw [List.getElem?_set]
  by_cases hi : k = i
  · subst hi
    rw [zws_at G h' (by rw [hn]; exact hk), he, zws_len]
    simp [hk]
  · simp only [if_neg hi]
    by_cases h2 : i < gN h
    · rw [zws_at G h h2, zws_at G h' (by rw [hn]; exact h2), ho i (fun e => hi e.symm)]
    · rw [List.getElem?_eq_none (by rw [zws_len]; omega), List.getElem?_eq_none (by rw [zws_len, hn]; omega)]
theorem zad_lt {G : zG} {k : Nat} (h : k < zB) : zad G k = G.2.2.1 + k := by simp [zad, h]
theorem zws_inv {G : zG} {h : zH} {k : Nat} {q : Nat × va_E} (hk : (zws G h)[k]? = some q) : k < gN h ∧ q = (zad G k, zE G h k) := by
  have h1 : k < gN h := by
    have := (List.getElem?_eq_some_iff.mp hk).1
    rwa [zws_len] at this
  rw [zws_at G h h1] at hk
  exact ⟨h1, (Option.some.inj hk).symm⟩
theorem zD {G : zG} {h : zH} (hb : gN h ≤ zB) : va_D (zA G) (zws G h) := by
  refine ⟨fun i j p q hi hj e => ?_, fun k q hk => ?_⟩
  · obtain ⟨h1, rfl⟩ := zws_inv hi
    obtain ⟨h2, rfl⟩ := zws_inv hj
    have e' : zad G i = zad G j := e
    rw [zad_lt (by omega), zad_lt (by omega)] at e'
    omega
  · obtain ⟨h1, rfl⟩ := zws_inv hk
    show G.2.2.1 ≤ zad G k
    rw [zad_lt (by omega)]
    omega
theorem gI_sI (h : zH) (a j : Nat) (x : Int32) (b i : Nat) : gI (sI h a j x) b i = if b = a ∧ i = j then x else gI h b i := rfl
theorem gL_sL (h : zH) (a j : Nat) (x : Int64) (b i : Nat) : gL (sL h a j x) b i = if b = a ∧ i = j then x else gL h b i := rfl
theorem gR_sR (h : zH) (a j : Nat) (x : Option Nat) (b i : Nat) : gR (sR h a j x) b i = if b = a ∧ i = j then x else gR h b i := rfl
theorem gN_sI (h : zH) (a j : Nat) (x : Int32) : gN (sI h a j x) = gN h := rfl
theorem gN_sL (h : zH) (a j : Nat) (x : Int64) : gN (sL h a j x) = gN h := rfl
theorem gN_sR (h : zH) (a j : Nat) (x : Option Nat) : gN (sR h a j x) = gN h := rfl
theorem gK_sI (h : zH) (a j : Nat) (x : Int32) : gK (sI h a j x) = gK h := rfl
theorem gK_sL (h : zH) (a j : Nat) (x : Int64) : gK (sL h a j x) = gK h := rfl
theorem gK_sR (h : zH) (a j : Nat) (x : Option Nat) : gK (sR h a j x) = gK h := rfl
theorem gL_sI (h : zH) (a j : Nat) (x : Int32) : gL (sI h a j x) = gL h := rfl
theorem gR_sI (h : zH) (a j : Nat) (x : Int32) : gR (sI h a j x) = gR h := rfl
theorem gI_sL (h : zH) (a j : Nat) (x : Int64) : gI (sL h a j x) = gI h := rfl
theorem gR_sL (h : zH) (a j : Nat) (x : Int64) : gR (sL h a j x) = gR h := rfl
theorem gI_sR (h : zH) (a j : Nat) (x : Option Nat) : gI (sR h a j x) = gI h := rfl
theorem gL_sR (h : zH) (a j : Nat) (x : Option Nat) : gL (sR h a j x) = gL h := rfl
/-- a cell's picture depends on its own rows alone -/
theorem zE_of (G : zG) {h h' : zH} {b : Nat} (hk : gK h' b = gK h b) (hi : gI h' b = gI h b) (hl : gL h' b = gL h b) (hr : gR h' b = gR h b) : zE G h' b = zE G h b := by
  simp only [zE, zfs, zfv, hk, hi, hl, hr]
theorem zE_sI (G : zG) (h : zH) (a j : Nat) (x : Int32) {b : Nat} (hb : b ≠ a) : zE G (sI h a j x) b = zE G h b :=
  zE_of G rfl (by funext i; rw [gI_sI]; simp [hb]) rfl rfl
theorem zE_sL (G : zG) (h : zH) (a j : Nat) (x : Int64) {b : Nat} (hb : b ≠ a) : zE G (sL h a j x) b = zE G h b :=
  zE_of G rfl rfl (by funext i; rw [gL_sL]; simp [hb]) rfl
theorem zE_sR (G : zG) (h : zH) (a j : Nat) (x : Option Nat) {b : Nat} (hb : b ≠ a) : zE G (sR h a j x) b = zE G h b :=
  zE_of G rfl rfl rfl (by funext i; rw [gR_sR]; simp [hb])
theorem zE_obj (G : zG) {h : zH} {a c : Nat} (hk : (gK h a).1 = c) (hc : c < 20) : zE G h a = .inr (c, zfs G h a c) := by
  simp only [zE, hk]
  rw [if_neg (by omega), if_neg (by omega), if_neg (by omega), if_neg (by omega), if_neg (by omega)]
theorem zE_int (G : zG) {h : zH} {a : Nat} (hk : (gK h a).1 = 20) : zE G h a = .inl (G.2.1 0, (gK h a).2, .inl (gI h a)) := by simp only [zE, hk]; simp
theorem zE_bool (G : zG) {h : zH} {a : Nat} (hk : (gK h a).1 = 21) : zE G h a = .inl (G.2.1 1, (gK h a).2, .inl (gI h a)) := by simp only [zE, hk]; simp
theorem zE_char (G : zG) {h : zH} {a : Nat} (hk : (gK h a).1 = 22) : zE G h a = .inl (G.2.1 2, (gK h a).2, .inl (gI h a)) := by simp only [zE, hk]; simp
theorem zE_long (G : zG) {h : zH} {a : Nat} (hk : (gK h a).1 = 23) : zE G h a = .inl (G.2.1 3, (gK h a).2, .inr (.inl (gL h a))) := by simp only [zE, hk]; simp
theorem zE_ref (G : zG) {h : zH} {a : Nat} (hk : (gK h a).1 = 24) : zE G h a = .inl (G.2.1 4, (gK h a).2, .inr (.inr (.inr (.inr (fun j => (gR h a j).map (zad G)))))) := by simp only [zE, hk]; simp
theorem zfs_at (G : zG) (h : zH) (a c : Nat) {k : Nat} (hk : k < cl_n c) : (zfs G h a c)[k]? = some (zc G (zfv h a c k)) := by simp [zfs, hk]
theorem zfs_len (G : zG) (h : zH) (a c : Nat) : (zfs G h a c).length = cl_n c := by simp [zfs]
theorem zfs_set (G : zG) (h h' : zH) (a c : Nat) {k : Nat} (hk : k < cl_n c) {v : Value} (hv : zc G (zfv h' a c k) = v) (ho : ∀ i, i ≠ k → zfv h' a c i = zfv h a c i) : (zfs G h a c).set k v = zfs G h' a c := by
  apply List.ext_getElem?
  intro i
  rw [List.getElem?_set]
  by_cases hi : k = i
  · subst hi
    rw [zfs_at G h' a c hk, hv, zfs_len]
    simp [hk]
  · simp only [if_neg hi]
    by_cases h2 : i < cl_n c
    · rw [zfs_at G h a c h2, zfs_at G h' a c h2, ho i (fun e => hi e.symm)]
    · rw [List.getElem?_eq_none (by rw [zfs_len]; omega), List.getElem?_eq_none (by rw [zfs_len]; omega)]
theorem zc_rf (G : zG) (r : Option Nat) : zc G (va_rf r) = va_rf (r.map (zad G)) := by cases r <;> rfl
theorem vp_in_of2 {i : Int32} {n : Nat} (h : 0 ≤ i.toInt ∧ i.toInt < n) : vp_in i n := vp_in_iff.mpr h
theorem cl_n_of {c : Nat} {q : vw_C} (h : cl_s[c]? = some q) : cl_n c = q.2.2 := by simp [cl_n, h]
/-- a method of the small machine's: its class, its code, how many locals, what it returns, whether it is a constructor -/
abbrev zI : Type := String × ByteArray × Nat × Option FieldType × Bool
def zF (G : zG) (mi : zI) (p : Program) (s : State) (m : MethodId) (args : Array Value) (meth : Method) (c : Code) : Prop :=
  p.tables.exec = Jvm.exec ∧ c.code = mi.2.1 ∧ c.maxLocals = mi.2.2.1 ∧ meth.sig.returnType = mi.2.2.2.1 ∧ s.vm.findClass mi.1 = some m.cls ∧ meth.locks = false ∧ (mi.2.2.2.2 = true → meth.name = "<init>") ∧ (∀ w ∈ tb, w.before args s = true) ∧ va_K G.1 cl_s (ztys G) s ∧ zX G s s.heap ∧ G.2.2.1 ≤ s.heap.size
def zRm (G : zG) (h : zH) (s : State) (d rc rs cells slots : Nat) (R : Room) : Prop := d ≤ R.frames ∧ 64 * d ≤ R.locals ∧ cells + rc = R.cells ∧ slots + rs = R.slots ∧ s.heap.size + cells = G.2.2.1 + gN h
def zQ (G : zG) (r : Option Value) (h' : zH) (rc : Nat) : Array Value → State → Outcome → State → Prop := fun _ st oc t => oc = .returned (r.map (zc G)) ∧ (zP G h' t.heap ∧ va_K G.1 cl_s (ztys G) t ∧ st.heap.size + rc = G.2.2.1 + gN h') ∧ va_F (zA G) st t
/-- the code at pc, with these locals and this stack, does what f does -/
def zCo (l : Launch) (d rc rs : Nat) (mi : zI) (pc : Nat) (L : List (Nat × Value)) (S : List Value) (f : zM) : Prop :=
  ∀ (G : zG) (h : zH) (r : Option Value) (h' : zH), f h = some (r, h') → ∀ (p : Program) (e : Env) (s : State) (m : MethodId) (args : Array Value) (below : List Frame) (meth : Method) (c : Code) (H : Heap) (locs : List Loc) (cells slots : Nat) (R : Room) (ls : Array Slot),
    zF G mi p s m args meth c → zRm G h s d rc rs cells slots R → zP G h H → va_S (zA G) s.heap H locs → lv_has ls mi.2.2.1 (L.map (zcp G)) →
    W p l e R s m args below meth c H locs cells slots (MQ below (zQ G r h' R.cells) args s R.cells R.slots (zA G)) (F0 m pc ls (S.map (zc G)))
def z_ws (y : MethodName) (cc : ByteArray) (maxL : Nat) (ret : Option FieldType) : List Cond := Cond.code y cc maxL ret :: tb
/-- method y, with these arguments, does what g does -/
def zMet (l : Launch) (d rc rs : Nat) (y : MethodName) (cc : ByteArray) (maxL : Nat) (ret : Option FieldType) (av : List Value) (g : zM) : Prop :=
  ∀ (G : zG) (h : zH) (r : Option Value) (h' : zH), g h = some (r, h') → Met l y (z_ws y cc maxL ret) { frames := d, cells := rc, slots := rs, locals := 64 * d } (va_Pc (av.map (zc G)) (fun U => zP G h U.heap ∧ va_K G.1 cl_s (ztys G) U ∧ zX G U U.heap ∧ U.heap.size = G.2.2.1 + gN h)) (zQ G r h' rc) rc rs (zA G)
