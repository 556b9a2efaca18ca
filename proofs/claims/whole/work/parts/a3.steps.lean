def zget (L : List (Nat × Value)) (i : Nat) : Option Value := (L.find? (fun q => q.1 == i)).map (fun q => q.2)
def zput1 (L : List (Nat × Value)) (i : Nat) (v : Value) : List (Nat × Value) := (i, v) :: L.filter (fun q => !(q.1 == i) && !(q.1 + 1 == i && q.2.category == 2))
def zput2 (L : List (Nat × Value)) (i : Nat) (v : Value) : List (Nat × Value) := (i, v) :: L.filter (fun q => !(q.1 == i) && (!(q.1 == i + 1) && !(q.1 + 1 == i && q.2.category == 2)))
/-- an instruction that touches locals and stack alone -/
def zst (nL : Nat) (i : Instr) (pc len : Nat) (L : List (Nat × Value)) (S : List Value) : Option (Nat × List (Nat × Value) × List Value) := match i with
  | .iconst n => if len = 1 then some (pc + 1, L, .int (Int32.ofInt n) :: S) else none
  | .bipush n => if len = 2 then some (pc + 2, L, .int (Int8.ofInt n).toInt32 :: S) else none
  | .sipush n => if len = 3 then some (pc + 3, L, .int (Int16.ofInt n).toInt32 :: S) else none
  | .lconst n => if len = 1 then some (pc + 1, L, .long (Int64.ofNat n) :: S) else none
  | .iload_n k => if len = 1 then (match zget L k with | some (.int x) => some (pc + 1, L, .int x :: S) | _ => none) else none
  | .iload k => if len = 2 then (match zget L k with | some (.int x) => some (pc + 2, L, .int x :: S) | _ => none) else none
  | .lload_n k => if len = 1 then (match zget L k with | some (.long x) => some (pc + 1, L, .long x :: S) | _ => none) else none
  | .lload k => if len = 2 then (match zget L k with | some (.long x) => some (pc + 2, L, .long x :: S) | _ => none) else none
  | .aload_n k => if len = 1 then (match zget L k with | some (.ref x) => some (pc + 1, L, .ref x :: S) | _ => none) else none
  | .aload k => if len = 2 then (match zget L k with | some (.ref x) => some (pc + 2, L, .ref x :: S) | _ => none) else none
  | .istore_n k => if len = 1 ∧ (k : Nat) < nL then (match S with | .int x :: S => some (pc + 1, zput1 L k (.int x), S) | _ => none) else none
  | .istore k => if len = 2 ∧ k < nL then (match S with | .int x :: S => some (pc + 2, zput1 L k (.int x), S) | _ => none) else none
  | .astore_n k => if len = 1 ∧ (k : Nat) < nL then (match S with | .ref x :: S => some (pc + 1, zput1 L k (.ref x), S) | _ => none) else none
  | .astore k => if len = 2 ∧ k < nL then (match S with | .ref x :: S => some (pc + 2, zput1 L k (.ref x), S) | _ => none) else none
  | .lstore_n k => if len = 1 ∧ (k : Nat) + 1 < nL then (match S with | .long x :: S => some (pc + 1, zput2 L k (.long x), S) | _ => none) else none
  | .lstore k => if len = 2 ∧ k + 1 < nL then (match S with | .long x :: S => some (pc + 2, zput2 L k (.long x), S) | _ => none) else none
  | .iinc k n => if len = 3 ∧ k < nL then (match zget L k with | some (.int x) => some (pc + 3, zput1 L k (.int (x + Int32.ofInt n)), S) | _ => none) else none
  | .dup => if len = 1 then (match S with | .int x :: S => some (pc + 1, L, .int x :: .int x :: S) | .ref x :: S => some (pc + 1, L, .ref x :: .ref x :: S) | _ => none) else none
  | .dup2 => if len = 1 then (match S with | .int x :: .ref y :: S => some (pc + 1, L, .int x :: .ref y :: .int x :: .ref y :: S) | .long x :: S => some (pc + 1, L, .long x :: .long x :: S) | _ => none) else none
  | .pop => if len = 1 then (match S with | .int _ :: S => some (pc + 1, L, S) | .ref _ :: S => some (pc + 1, L, S) | _ => none) else none
  | .i2l => if len = 1 then (match S with | .int x :: S => some (pc + 1, L, .long x.toInt64 :: S) | _ => none) else none
  | .l2i => if len = 1 then (match S with | .long x :: S => some (pc + 1, L, .int x.toInt32 :: S) | _ => none) else none
  | .lcmp => if len = 1 then (match S with | .long y :: .long x :: S => some (pc + 1, L, .int (lg_cmp x y) :: S) | _ => none) else none
  | .iushr => if len = 1 then (match S with | .int y :: .int x :: S => some (pc + 1, L, .int (x.toUInt32 >>> (y.toUInt32 &&& Int32.toUInt32 31)).toInt32 :: S) | _ => none) else none
  | .ineg => if len = 1 then (match S with | .int x :: S => some (pc + 1, L, .int (-x) :: S) | _ => none) else none
  | .goto off => if len = 3 ∧ 0 ≤ (pc : Int) + off then some (((pc : Int) + off).toNat, L, S) else none
  | .iadd => if len = 1 then (match S with | .int y :: .int x :: S => some (pc + 1, L, .int (x + y) :: S) | _ => none) else none
  | .isub => if len = 1 then (match S with | .int y :: .int x :: S => some (pc + 1, L, .int (x - y) :: S) | _ => none) else none
  | .imul => if len = 1 then (match S with | .int y :: .int x :: S => some (pc + 1, L, .int (x * y) :: S) | _ => none) else none
  | .ishl => if len = 1 then (match S with | .int y :: .int x :: S => some (pc + 1, L, .int (x <<< (y &&& 31)) :: S) | _ => none) else none
  | .ishr => if len = 1 then (match S with | .int y :: .int x :: S => some (pc + 1, L, .int (x >>> (y &&& 31)) :: S) | _ => none) else none
  | .iand => if len = 1 then (match S with | .int y :: .int x :: S => some (pc + 1, L, .int (x &&& y) :: S) | _ => none) else none
  | .ior => if len = 1 then (match S with | .int y :: .int x :: S => some (pc + 1, L, .int (x ||| y) :: S) | _ => none) else none
  | .ixor => if len = 1 then (match S with | .int y :: .int x :: S => some (pc + 1, L, .int (x ^^^ y) :: S) | _ => none) else none
  | .ladd => if len = 1 then (match S with | .long y :: .long x :: S => some (pc + 1, L, .long (x + y) :: S) | _ => none) else none
  | .lsub => if len = 1 then (match S with | .long y :: .long x :: S => some (pc + 1, L, .long (x - y) :: S) | _ => none) else none
  | .lmul => if len = 1 then (match S with | .long y :: .long x :: S => some (pc + 1, L, .long (x * y) :: S) | _ => none) else none
  | .land => if len = 1 then (match S with | .long y :: .long x :: S => some (pc + 1, L, .long (x &&& y) :: S) | _ => none) else none
  | _ => none
theorem zget_at {G : zG} {ls : Array Slot} {nL : Nat} {L : List (Nat × Value)} (hl : lv_has ls nL (L.map (zcp G))) {i : Nat} {v : Value} (h : zget L i = some v) : ls[i]? = some (.val (zc G v)) := by
  unfold zget at h
  cases hf : L.find? (fun q => q.1 == i) with
  | none => rw [hf] at h; cases h
  | some q =>
    rw [hf] at h
    cases h
    have h1 := List.find?_some hf
    have h2 : q.1 = i := by simpa using h1
    have h3 := hl.2.2 (zcp G q) (List.mem_map.mpr ⟨q, List.mem_of_find?_eq_some hf, rfl⟩)
    rw [← h2]
    exact h3
theorem zc_cat (G : zG) (v : Value) : (zc G v).category = v.category := by cases v <;> rfl
theorem zput1_map (G : zG) (L : List (Nat × Value)) (i : Nat) (v : Value) : (i, zc G v) :: (L.map (zcp G)).filter (fun q => !(q.1 == i) && !(q.1 + 1 == i && q.2.category == 2)) = (zput1 L i v).map (zcp G) := by
  simp only [zput1, List.map_cons, List.filter_map, zcp]
  refine congrArg _ (congrArg _ (List.filter_congr fun q _ => ?_))
  simp [Function.comp, zcp, zc_cat]
theorem zput2_map (G : zG) (L : List (Nat × Value)) (i : Nat) (v : Value) : (i, zc G v) :: (L.map (zcp G)).filter (fun q => !(q.1 == i) && (!(q.1 == i + 1) && !(q.1 + 1 == i && q.2.category == 2))) = (zput2 L i v).map (zcp G) := by
  simp only [zput2, List.map_cons, List.filter_map, zcp]
  refine congrArg _ (congrArg _ (List.filter_congr fun q _ => ?_))
  simp [Function.comp, zcp, zc_cat]
section ZS
variable {p : Program} {l : Launch} {e : Env} {R : Room} {s : State} {m : MethodId} {args : Array Value} {below : List Frame} {meth : Method} {c : Code} {H : Heap} {locs : List Loc} {cells slots : Nat} {Q : State → Prop}
theorem z_iinc {G : zG} {cc : ByteArray} {nL : Nat} (hx : p.tables.exec = Jvm.exec) (hb : c.code = cc) {k pc : Nat} {n : Int} {x : Int32} {L : List (Nat × Value)} {st : List Value} (hd : decode cc pc = .ok (.iinc k n, 3)) {ls : Array Slot} (hl : lv_has ls nL (L.map (zcp G))) (hg : zget L k = some (.int x)) (hn : k < nL)
    (kk : ∀ ls', lv_has ls' nL ((zput1 L k (.int (x + Int32.ofInt n))).map (zcp G)) → W p l e R s m args below meth c H locs cells slots Q (F0 m (pc + 3) ls' st)) : W p l e R s m args below meth c H locs cells slots Q (F0 m pc ls st) := by
  unfold zget at hg
  cases hf : L.find? (fun q => q.1 == k) with
  | none => rw [hf] at hg; cases hg
  | some q =>
    rw [hf] at hg
    have h1 := List.find?_some hf
    have h2 : q.1 = k := by simpa using h1
    have h3 : q.2 = .int x := by simpa using hg
    have hm : (k, Value.int x) ∈ L.map (zcp G) := List.mem_map.mpr ⟨q, List.mem_of_find?_eq_some hf, by rw [zcp, h2, h3]; rfl⟩
    obtain ⟨j, hj⟩ := List.getElem?_of_mem hm
    exact lv_iinc hx hb hd hl hj rfl hn (zput1_map G L k (.int (x + Int32.ofInt n))) (fun ls' hl' => kk ls' hl')
set_option maxHeartbeats 4000000 in
theorem zst_ok {G : zG} {cc : ByteArray} {nL : Nat} (hx : p.tables.exec = Jvm.exec) (hb : c.code = cc) {i : Instr} {pc len pc' : Nat} {L L' : List (Nat × Value)} {S S' : List Value} (hd : decode cc pc = .ok (i, len)) (hs : zst nL i pc len L S = some (pc', L', S')) {ls : Array Slot} (hl : lv_has ls nL (L.map (zcp G)))
    (kk : ∀ ls', lv_has ls' nL (L'.map (zcp G)) → W p l e R s m args below meth c H locs cells slots Q (F0 m pc' ls' (S'.map (zc G)))) : W p l e R s m args below meth c H locs cells slots Q (F0 m pc ls (S.map (zc G))) := by
  unfold zst at hs
  split at hs
  · split at hs <;> cases hs
    rename_i hlen; subst hlen; exact lv_iconst hx hb hd rfl (kk ls hl)
  · split at hs <;> cases hs
    rename_i hlen; subst hlen; exact lv_bipush hx hb hd rfl (kk ls hl)
  · split at hs <;> cases hs
    rename_i hlen; subst hlen; exact lv_sipush hx hb hd rfl (kk ls hl)
  · split at hs <;> cases hs
    rename_i hlen; subst hlen; exact lv_lconst hx hb hd rfl (kk ls hl)
  · split at hs
    · split at hs <;> cases hs
      rename_i hlen _ _ hg
      subst hlen; exact lv_iload_n hx hb hd rfl (zget_at hl hg) (kk ls hl)
    · cases hs
  · split at hs
    · split at hs <;> cases hs
      rename_i hlen _ _ hg
      subst hlen; exact lv_iload hx hb hd (zget_at hl hg) (kk ls hl)
    · cases hs
  · split at hs
    · split at hs <;> cases hs
      rename_i hlen _ _ hg
      subst hlen; exact lv_lload_n hx hb hd rfl (zget_at hl hg) (kk ls hl)
    · cases hs
  · split at hs
    · split at hs <;> cases hs
      rename_i hlen _ _ hg
      subst hlen; exact lv_lload hx hb hd (zget_at hl hg) (kk ls hl)
    · cases hs
  · split at hs
    · split at hs <;> cases hs
      rename_i hlen _ _ hg
      subst hlen; exact lv_aload_n hx hb hd rfl (zget_at hl hg) (kk ls hl)
    · cases hs
  · split at hs
    · split at hs <;> cases hs
      rename_i hlen _ _ hg
      subst hlen; exact lv_aload hx hb hd (zget_at hl hg) (kk ls hl)
    · cases hs
  · split at hs
    · rename_i hc
      split at hs <;> cases hs
      obtain ⟨rfl, hn⟩ := hc
      exact lv_istore_n hx hb hd rfl hl hn (zput1_map G L _ (.int _)) (fun ls' hl' => kk ls' hl')
    · cases hs
  · split at hs
    · rename_i hc
      split at hs <;> cases hs
      obtain ⟨rfl, hn⟩ := hc
      exact lv_istore hx hb hd hl hn (zput1_map G L _ (.int _)) (fun ls' hl' => kk ls' hl')
    · cases hs
  · split at hs
    · rename_i hc
      split at hs <;> cases hs
      obtain ⟨rfl, hn⟩ := hc
      exact lv_astore_n hx hb hd rfl hl hn (zput1_map G L _ (.ref _)) (fun ls' hl' => kk ls' hl')
    · cases hs
  · split at hs
    · rename_i hc
      split at hs <;> cases hs
      obtain ⟨rfl, hn⟩ := hc
      exact lv_astore hx hb hd hl hn (zput1_map G L _ (.ref _)) (fun ls' hl' => kk ls' hl')
    · cases hs
  · split at hs
    · rename_i hc
      split at hs <;> cases hs
      obtain ⟨rfl, hn⟩ := hc
      exact lv_lstore_n hx hb hd rfl hl hn (zput2_map G L _ (.long _)) (fun ls' hl' => kk ls' hl')
    · cases hs
  · split at hs
    · rename_i hc
      split at hs <;> cases hs
      obtain ⟨rfl, hn⟩ := hc
      exact lv_lstore hx hb hd hl hn (zput2_map G L _ (.long _)) (fun ls' hl' => kk ls' hl')
    · cases hs
  · split at hs
    · rename_i hc
      split at hs <;> cases hs
      rename_i hg
      obtain ⟨rfl, hn⟩ := hc
      exact z_iinc hx hb hd hl hg hn kk
    · cases hs
  · split at hs
    · rename_i hc; subst hc
      split at hs <;> cases hs
      · exact lv_dup hx hb hd rfl (kk ls hl)
      · exact lv_dup hx hb hd rfl (kk ls hl)
    · cases hs
  · split at hs
    · rename_i hc; subst hc
      split at hs <;> cases hs
      · exact lv_dup2_11 hx hb hd rfl rfl (kk ls hl)
      · exact lv_dup2_2 hx hb hd rfl (kk ls hl)
    · cases hs
  · split at hs
    · rename_i hc; subst hc
      split at hs <;> cases hs
      · exact lv_pop hx hb hd rfl (kk ls hl)
      · exact lv_pop hx hb hd rfl (kk ls hl)
    · cases hs
  · split at hs
    · rename_i hc; subst hc
      split at hs <;> cases hs
      exact lv_i2l hx hb hd rfl (kk ls hl)
    · cases hs
  · split at hs
    · rename_i hc; subst hc
      split at hs <;> cases hs
      exact lv_l2i hx hb hd rfl (kk ls hl)
    · cases hs
  · split at hs
    · rename_i hc; subst hc
      split at hs <;> cases hs
      exact W.lcmp hx hb hd (kk ls hl)
    · cases hs
  · split at hs
    · rename_i hc; subst hc
      split at hs <;> cases hs
      exact lv_iushr hx hb hd rfl (kk ls hl)
    · cases hs
  · split at hs
    · rename_i hc; subst hc
      split at hs <;> cases hs
      exact lv_ineg hx hb hd (kk ls hl)
    · cases hs
  · split at hs
    · rename_i hc
      cases hs
      obtain ⟨rfl, hn⟩ := hc
      exact lv_goto hx hb hd (Int.toNat_of_nonneg hn).symm (kk ls hl)
    · cases hs
  · split at hs
    · rename_i hc; subst hc
      split at hs <;> cases hs
      exact lv_iadd hx hb hd (kk ls hl)
    · cases hs
  · split at hs
    · rename_i hc; subst hc
      split at hs <;> cases hs
      exact lv_isub hx hb hd (kk ls hl)
    · cases hs
  · split at hs
    · rename_i hc; subst hc
      split at hs <;> cases hs
      exact lv_imul hx hb hd (kk ls hl)
    · cases hs
  · split at hs
    · rename_i hc; subst hc
      split at hs <;> cases hs
      exact lv_ishl hx hb hd (kk ls hl)
    · cases hs
  · split at hs
    · rename_i hc; subst hc
      split at hs <;> cases hs
      exact lv_ishr hx hb hd (kk ls hl)
    · cases hs
  · split at hs
    · rename_i hc; subst hc
      split at hs <;> cases hs
      exact lv_iand hx hb hd (kk ls hl)
    · cases hs
  · split at hs
    · rename_i hc; subst hc
      split at hs <;> cases hs
      exact lv_ior hx hb hd (kk ls hl)
    · cases hs
  · split at hs
    · rename_i hc; subst hc
      split at hs <;> cases hs
      exact lv_ixor hx hb hd (kk ls hl)
    · cases hs
  · split at hs
    · rename_i hc; subst hc
      split at hs <;> cases hs
      exact lv_ladd hx hb hd (kk ls hl)
    · cases hs
  · split at hs
    · rename_i hc; subst hc
      split at hs <;> cases hs
      exact lv_lsub hx hb hd (kk ls hl)
    · cases hs
  · split at hs
    · rename_i hc; subst hc
      split at hs <;> cases hs
      exact lv_lmul hx hb hd (kk ls hl)
    · cases hs
  · split at hs
    · rename_i hc; subst hc
      split at hs <;> cases hs
      exact lv_land hx hb hd (kk ls hl)
    · cases hs
  · cases hs
end ZS
