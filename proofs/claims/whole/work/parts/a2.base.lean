-- what a heap of the small machine is on the machine
abbrev zG : Type := va_G × (Nat → ClassId) × Nat × (Nat → Nat)
def zad (G : zG) (k : Nat) : Nat := if k < zB then G.2.2.1 + k else G.2.2.2 (k - zB)
def zA (G : zG) : Nat → Prop := fun q => G.2.2.1 ≤ q
def zc (G : zG) : Value → Value
  | .ref k => .ref (zad G k)
  | v => v
def zcp (G : zG) (q : Nat × Value) : Nat × Value := (q.1, zc G q.2)
def fty (c k : Nat) : Nat := match cl_t c k with | .long => 1 | .object _ => 2 | .array _ => 2 | _ => 0
def zfv (h : zH) (a c k : Nat) : Value := if fty c k = 0 then .int (gI h a k) else if fty c k = 1 then .long (gL h a k) else va_rf (gR h a k)
def cl_n (c : Nat) : Nat := match cl_s[c]? with | some q => q.2.2 | none => 0
def zfs (G : zG) (h : zH) (a c : Nat) : List Value := (List.range (cl_n c)).map (fun k => zc G (zfv h a c k))
def zE (G : zG) (h : zH) (a : Nat) : va_E :=
  if (gK h a).1 = 20 then .inl (G.2.1 0, (gK h a).2, .inl (gI h a)) else
  if (gK h a).1 = 21 then .inl (G.2.1 1, (gK h a).2, .inl (gI h a)) else
  if (gK h a).1 = 22 then .inl (G.2.1 2, (gK h a).2, .inl (gI h a)) else
  if (gK h a).1 = 23 then .inl (G.2.1 3, (gK h a).2, .inr (.inl (gL h a))) else
  if (gK h a).1 = 24 then .inl (G.2.1 4, (gK h a).2, .inr (.inr (.inr (.inr (fun j => (gR h a j).map (zad G)))))) else
  .inr ((gK h a).1, zfs G h a (gK h a).1)
def zws (G : zG) (h : zH) : va_W := (List.range (gN h)).map (fun k => (zad G k, zE G h k))
def zP (G : zG) (h : zH) (H : Heap) : Prop := va_P G.1 cl_s (zws G h) H ∧ gN h ≤ zB
def ztys (G : zG) : List (ClassId × FieldType) := [(G.2.1 0, .int), (G.2.1 1, .boolean), (G.2.1 2, .char), (G.2.1 3, .long), (G.2.1 4, .object "ClothWedding$State")]
def z_nest : List Cond := [.methodLinkNest "ClothWedding$Question" 11 ⟨"ClothWedding$Code", "<init>", "()V"⟩ "ClothWedding", .methodLinkNest "ClothWedding" 50 ⟨"ClothWedding$Church", "<init>", "()V"⟩ "ClothWedding", .methodLinkNest "ClothWedding$Church" 49 ⟨"ClothWedding$Code", "<init>", "()V"⟩ "ClothWedding", .methodLinkNest "ClothWedding" 60 ⟨"ClothWedding$State", "<init>", "()V"⟩ "ClothWedding", .methodLinkNest "ClothWedding$Ahead" 11 ⟨"ClothWedding$State", "<init>", "()V"⟩ "ClothWedding", .methodLinkNest "ClothWedding" 85 ⟨"ClothWedding$Likings", "<init>", "()V"⟩ "ClothWedding", .methodLinkNest "ClothWedding$Past" 34 ⟨"ClothWedding$State", "<init>", "()V"⟩ "ClothWedding", .methodLinkNest "ClothWedding$Text" 48 ⟨"ClothWedding", "isDigit", "(I)Z"⟩ "ClothWedding", .methodLinkNest "ClothWedding$Text" 51 ⟨"ClothWedding", "isLetter", "(I)Z"⟩ "ClothWedding", .methodLinkNest "ClothWedding$ChurchReader" 126 ⟨"ClothWedding", "sideOf", "(I)I"⟩ "ClothWedding", .methodLinkNest "ClothWedding$Church" 92 ⟨"ClothWedding", "cell", "(II)I"⟩ "ClothWedding", .methodLinkNest "ClothWedding$ChurchReader" 142 ⟨"ClothWedding", "cell", "(II)I"⟩ "ClothWedding", .fieldLinkNest "ClothWedding$Grammar" 33 "ClothWedding" "PARTS_OF" "[I" "ClothWedding", .methodLinkNest "ClothWedding$ChurchReader" 166 ⟨"ClothWedding$Grammar", "test", "(I)V"⟩ "ClothWedding", .methodLinkNest "ClothWedding$Grammar" 107 ⟨"ClothWedding", "isDigit", "(I)Z"⟩ "ClothWedding", .methodLinkNest "ClothWedding$ChurchReader" 169 ⟨"ClothWedding$Grammar", "sum", "(I)V"⟩ "ClothWedding", .methodLinkNest "ClothWedding$State" 48 ⟨"ClothWedding", "sideOf", "(I)I"⟩ "ClothWedding", .methodLinkNest "ClothWedding$Church" 89 ⟨"ClothWedding", "sideOf", "(I)I"⟩ "ClothWedding", .methodLinkNest "ClothWedding$Walk" 64 ⟨"ClothWedding", "cell", "(II)I"⟩ "ClothWedding", .methodLinkNest "ClothWedding$Walk" 95 ⟨"ClothWedding", "within", "(II)I"⟩ "ClothWedding", .methodLinkNest "ClothWedding$Likings" 58 ⟨"ClothWedding", "cell", "(II)I"⟩ "ClothWedding", .methodLinkNest "ClothWedding$Ahead" 75 ⟨"ClothWedding", "sideOf", "(I)I"⟩ "ClothWedding", .methodLinkNest "ClothWedding$Question" 68 ⟨"ClothWedding$Grammar", "test", "(I)V"⟩ "ClothWedding", .methodLinkNest "ClothWedding$Question" 71 ⟨"ClothWedding$Grammar", "sum", "(I)V"⟩ "ClothWedding", .methodLinkNest "ClothWedding$Question" 113 ⟨"ClothWedding", "sideOf", "(I)I"⟩ "ClothWedding", .methodLinkNest "ClothWedding$Question" 146 ⟨"ClothWedding", "cell", "(II)I"⟩ "ClothWedding"]
/-- what was there before: the texts' constants, the static row, nest mates' words -/
def zX (G : zG) (s : State) (H : Heap) : Prop := (vk_S 16 zs_len zs_byt G.2.2.2 (fun i => G.2.2.2 (100 + i)) (zA G) s H ∧ (va_Z "jdk/internal/util/Preconditions" "SIOOBE_FORMATTER" "Ljava/util/function/BiFunction;" .null (zA G) s H ∨ va_Z "jdk/internal/util/Preconditions" "SIOOBE_FORMATTER" "Ljava/util/function/BiFunction;" (.ref (G.2.2.2 200)) (zA G) s H)) ∧ (∀ (i : Nat) (q : String × Nat × String), z_strs[i]? = some q → vk_R q.1 q.2.1 q.2.2 (G.2.2.2 i) s) ∧ (∀ w ∈ z_nest, va_Nw w s) ∧ va_AO "ClothWedding$State" s ∧ va_Z "java/lang/String" "COMPACT_STRINGS" "Z" (.int 1) (zA G) s H ∧ va_Z "ClothWedding" "PARTS_OF" "[I" (.ref (G.2.2.2 16)) (zA G) s H ∧ va_T .int (G.2.2.2 16) 3 (fun j => .int (z_parts j)) (zA G) s H
theorem zws_at (G : zG) (h : zH) {k : Nat} (hk : k < gN h) : (zws G h)[k]? = some (zad G k, zE G h k) := by
  simp [zws, hk]
theorem zws_len (G : zG) (h : zH) : (zws G h).length = gN h := by simp [zws]
theorem zws_set (G : zG) (h h' : zH) {k : Nat} (hk : k < gN h) (hn : gN h' = gN h) (ho : ∀ j, j ≠ k → zE G h' j = zE G h j) {e : va_E} (he : zE G h' k = e) : (zws G h).set k (zad G k, e) = zws G h' := by
  apply List.ext_getElem?
  intro i
  rw [List.getElem?_set]
  by_cases hi : k = i
  · subst hi
    rw [zws_at G h' (by rw [hn]; exact hk), he, zws_len]
    simp [hk]
  · simp only [if_neg hi]
    by_cases h2 : i < gN h
    · rw [zws_at G h h2, zws_at G h' (by rw [hn]; exact h2), ho i (fun e => hi e.symm)]
    · rw [List.getElem?_eq_none (by rw [zws_len]; omega), List.getElem?_eq_none (by rw [zws_len, hn]; omega)]
theorem zad_lt {G : zG} {k : Nat} (h : k < zB) : zad G k = G.2.2.1 + k := by simp [zad, h]
theorem zws_inv {G : zG} {h : zH} {k : Nat} {q : Nat × va_E} (hk : (zws G h)[k]? = some q) : k < gN h ∧ q = (zad G k, zE G h k) := by
  have h1 : k < gN h := by
    have := (List.getElem?_eq_some_iff.mp hk).1
    rwa [zws_len] at this
  rw [zws_at G h h1] at hk
  exact ⟨h1, (Option.some.inj hk).symm⟩
theorem zD {G : zG} {h : zH} (hb : gN h ≤ zB) : va_D (zA G) (zws G h) := by
  refine ⟨fun i j p q hi hj e => ?_, fun k q hk => ?_⟩
  · obtain ⟨h1, rfl⟩ := zws_inv hi
    obtain ⟨h2, rfl⟩ := zws_inv hj
    have e' : zad G i = zad G j := e
    rw [zad_lt (by omega), zad_lt (by omega)] at e'
    omega
  · obtain ⟨h1, rfl⟩ := zws_inv hk
    show G.2.2.1 ≤ zad G k
    rw [zad_lt (by omega)]
    omega
/-- a cell's picture depends on its own rows alone -/
theorem zE_of (G : zG) {h h' : zH} {b : Nat} (hk : gK h' b = gK h b) (hi : gI h' b = gI h b) (hl : gL h' b = gL h b) (hr : gR h' b = gR h b) : zE G h' b = zE G h b := by
  simp only [zE, zfs, zfv, hk, hi, hl, hr]
theorem zE_sI (G : zG) (h : zH) (a j : Nat) (x : Int32) {b : Nat} (hb : b ≠ a) : zE G (sI h a j x) b = zE G h b :=
  zE_of G rfl (by funext i; rw [gI_sI]; simp [hb]) rfl rfl
theorem zE_sL (G : zG) (h : zH) (a j : Nat) (x : Int64) {b : Nat} (hb : b ≠ a) : zE G (sL h a j x) b = zE G h b :=
  zE_of G rfl rfl (by funext i; rw [gL_sL]; simp [hb]) rfl
theorem zE_sR (G : zG) (h : zH) (a j : Nat) (x : Option Nat) {b : Nat} (hb : b ≠ a) : zE G (sR h a j x) b = zE G h b :=
  zE_of G rfl rfl rfl (by funext i; rw [gR_sR]; simp [hb])
theorem zE_obj (G : zG) {h : zH} {a c : Nat} (hk : (gK h a).1 = c) (hc : c < 20) : zE G h a = .inr (c, zfs G h a c) := by
  simp only [zE, hk]
  rw [if_neg (by omega), if_neg (by omega), if_neg (by omega), if_neg (by omega), if_neg (by omega)]
theorem zE_int (G : zG) {h : zH} {a : Nat} (hk : (gK h a).1 = 20) : zE G h a = .inl (G.2.1 0, (gK h a).2, .inl (gI h a)) := by simp only [zE, hk]; simp
theorem zE_bool (G : zG) {h : zH} {a : Nat} (hk : (gK h a).1 = 21) : zE G h a = .inl (G.2.1 1, (gK h a).2, .inl (gI h a)) := by simp only [zE, hk]; simp
theorem zE_char (G : zG) {h : zH} {a : Nat} (hk : (gK h a).1 = 22) : zE G h a = .inl (G.2.1 2, (gK h a).2, .inl (gI h a)) := by simp only [zE, hk]; simp
theorem zE_long (G : zG) {h : zH} {a : Nat} (hk : (gK h a).1 = 23) : zE G h a = .inl (G.2.1 3, (gK h a).2, .inr (.inl (gL h a))) := by simp only [zE, hk]; simp
theorem zE_ref (G : zG) {h : zH} {a : Nat} (hk : (gK h a).1 = 24) : zE G h a = .inl (G.2.1 4, (gK h a).2, .inr (.inr (.inr (.inr (fun j => (gR h a j).map (zad G)))))) := by simp only [zE, hk]; simp
theorem zfs_at (G : zG) (h : zH) (a c : Nat) {k : Nat} (hk : k < cl_n c) : (zfs G h a c)[k]? = some (zc G (zfv h a c k)) := by simp [zfs, hk]
theorem zfs_len (G : zG) (h : zH) (a c : Nat) : (zfs G h a c).length = cl_n c := by simp [zfs]
theorem zfs_set (G : zG) (h h' : zH) (a c : Nat) {k : Nat} (hk : k < cl_n c) {v : Value} (hv : zc G (zfv h' a c k) = v) (ho : ∀ i, i ≠ k → zfv h' a c i = zfv h a c i) : (zfs G h a c).set k v = zfs G h' a c := by
  apply List.ext_getElem?
  intro i
  rw [List.getElem?_set]
  by_cases hi : k = i
  · subst hi
    rw [zfs_at G h' a c hk, hv, zfs_len]
    simp [hk]
  · simp only [if_neg hi]
    by_cases h2 : i < cl_n c
    · rw [zfs_at G h a c h2, zfs_at G h' a c h2, ho i (fun e => hi e.symm)]
    · rw [List.getElem?_eq_none (by rw [zfs_len]; omega), List.getElem?_eq_none (by rw [zfs_len]; omega)]
theorem zc_rf (G : zG) (r : Option Nat) : zc G (va_rf r) = va_rf (r.map (zad G)) := by cases r <;> rfl
theorem vp_in_of2 {i : Int32} {n : Nat} (h : 0 ≤ i.toInt ∧ i.toInt < n) : vp_in i n := vp_in_iff.mpr h
theorem cl_n_of {c : Nat} {q : vw_C} (h : cl_s[c]? = some q) : cl_n c = q.2.2 := by simp [cl_n, h]
/-- a method of the small machine's: its class, its code, how many locals, what it returns, whether it is a constructor -/
abbrev zI : Type := String × ByteArray × Nat × Option FieldType × Bool
def zF (G : zG) (mi : zI) (p : Program) (s : State) (m : MethodId) (args : Array Value) (meth : Method) (c : Code) : Prop :=
  p.tables.exec = Jvm.exec ∧ c.code = mi.2.1 ∧ c.maxLocals = mi.2.2.1 ∧ meth.sig.returnType = mi.2.2.2.1 ∧ s.vm.findClass mi.1 = some m.cls ∧ meth.locks = false ∧ (mi.2.2.2.2 = true → meth.name = "<init>") ∧ (∀ w ∈ tb, w.before args s = true) ∧ va_K G.1 cl_s (ztys G) s ∧ zX G s s.heap ∧ G.2.2.1 ≤ s.heap.size
def zRm (G : zG) (h : zH) (s : State) (d rc rs cells slots : Nat) (R : Room) : Prop := d ≤ R.frames ∧ 64 * d ≤ R.locals ∧ cells + rc = R.cells ∧ slots + rs = R.slots ∧ s.heap.size + cells = G.2.2.1 + gN h
def zQ (G : zG) (r : Option Value) (h' : zH) (rc : Nat) : Array Value → State → Outcome → State → Prop := fun _ st oc t => oc = .returned (r.map (zc G)) ∧ (zP G h' t.heap ∧ va_K G.1 cl_s (ztys G) t ∧ st.heap.size + rc = G.2.2.1 + gN h') ∧ va_F (zA G) st t
/-- the code at pc, with these locals and this stack, does what f does -/
def zCo (l : Launch) (d rc rs : Nat) (mi : zI) (pc : Nat) (L : List (Nat × Value)) (S : List Value) (f : zM) : Prop :=
  ∀ (G : zG) (h : zH) (r : Option Value) (h' : zH), f h = some (r, h') → ∀ (p : Program) (e : Env) (s : State) (m : MethodId) (args : Array Value) (below : List Frame) (meth : Method) (c : Code) (H : Heap) (locs : List Loc) (cells slots : Nat) (R : Room) (ls : Array Slot),
    zF G mi p s m args meth c → zRm G h s d rc rs cells slots R → zP G h H → va_S (zA G) s.heap H locs → lv_has ls mi.2.2.1 (L.map (zcp G)) →
    W p l e R s m args below meth c H locs cells slots (MQ below (zQ G r h' R.cells) args s R.cells R.slots (zA G)) (F0 m pc ls (S.map (zc G)))
def z_ws (y : MethodName) (cc : ByteArray) (maxL : Nat) (ret : Option FieldType) : List Cond := Cond.code y cc maxL ret :: tb
/-- method y, with these arguments, does what g does -/
def zMet (l : Launch) (d rc rs : Nat) (y : MethodName) (cc : ByteArray) (maxL : Nat) (ret : Option FieldType) (av : List Value) (g : zM) : Prop :=
  ∀ (G : zG) (h : zH) (r : Option Value) (h' : zH), g h = some (r, h') → Met l y (z_ws y cc maxL ret) { frames := d, cells := rc, slots := rs, locals := 64 * d } (va_Pc (av.map (zc G)) (fun U => zP G h U.heap ∧ va_K G.1 cl_s (ztys G) U ∧ zX G U U.heap ∧ U.heap.size = G.2.2.1 + gN h)) (zQ G r h' rc) rc rs (zA G)
