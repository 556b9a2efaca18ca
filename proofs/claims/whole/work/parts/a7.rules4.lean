section ZR4
variable {p : Program} {l : Launch} {e : Env} {R : Room} {s : State} {m : MethodId} {args : Array Value} {below : List Frame} {meth : Method} {cd : Code} {H : Heap} {locs : List Loc} {cells slots : Nat} {Q : State → Prop}
theorem W_sized {g : JFrame} (k : H.size ≤ s.heap.size + cells → W p l e R s m args below meth cd H locs cells slots Q g) : W p l e R s m args below meth cd H locs cells slots Q g := fun T hT X => k (by rw [← hT]; exact X.heapSize) T hT X
theorem z_size {G : zG} {h : zH} (hP : zP G h H) (hS : va_S (zA G) s.heap H locs) (hB : G.2.2.1 ≤ s.heap.size) (hN : s.heap.size + cells = G.2.2.1 + gN h) (hz : H.size ≤ s.heap.size + cells) : H.size = G.2.2.1 + gN h := by
  by_cases h0 : gN h = 0
  · have := hS.1
    omega
  · have h1 := (hP.1 (gN h - 1) _ (zws_at G h (by omega))).lt
    have h2 : zad G (gN h - 1) = G.2.2.1 + (gN h - 1) := zad_lt (by have := hP.2; omega)
    simp only [h2] at h1
    omega
theorem z_back {G : zG} {h1 : zH} {r : Option Value} {mc ms pc : Nat} {ls : Array Slot} {st0 rest : List Value} {a : Array Value} (hr : va_Run p l e R s m args below meth cd H locs cells slots mc ms (F0 m pc ls st0) rest (zQ G r h1 mc a) (zA G)) (hS : va_S (zA G) s.heap H locs) (hsz : H.size = s.heap.size + cells)
    (kk : ∀ (H1 : Heap) (locs1 : List Loc), zP G h1 H1 → va_S (zA G) s.heap H1 locs1 → s.heap.size + (cells + mc) = G.2.2.1 + gN h1 → W p l e R s m args below meth cd H1 locs1 (cells + mc) (slots + ms) Q (F0 m (pc + 3) ls ((r.map (zc G)).toList ++ rest))) : W p l e R s m args below meth cd H locs cells slots Q (F0 m pc ls st0) := by
  intro T hT X
  obtain ⟨v, st₀, t, T', L, h0, X', hL, e1, e2, ⟨hv, ⟨hP, hK, hN⟩, hz, hk⟩, st⟩ := hr T hT X
  cases hv
  rw [h0] at hz hk hN
  obtain ⟨t2, a1, b1⟩ := kk T'.heap (locs ++ L) (by rw [e1]; exact hP)
    ⟨Nat.le_trans hS.1 (by rw [e1]; exact hz), fun q h1 h2 => by rw [e1, hk q (Nat.lt_of_lt_of_le h1 hS.1) h2]; exact hS.2.1 q h1 h2, fun q hq => by
      rcases List.mem_append.mp hq with h | h
      · exact hS.2.2 q h
      · exact hL q h⟩ (by omega) T' rfl X'
  exact ⟨t2, st t2 a1, b1⟩
end ZR4
theorem zN_gN (h : zH) (t n : Nat) : gN (zN h t n) = gN h + 1 := rfl
theorem zN_old (G : zG) (h : zH) (t n : Nat) {k : Nat} (hk : k ≠ gN h) : zE G (zN h t n) k = zE G h k := by
  have e : ¬ k = h.1.1 := hk
  exact zE_of G (by simp [gK, zN, e]) (by funext i; simp [gI, zN, e]) (by funext i; simp [gL, zN, e]) (by funext i; simp [gR, zN, e])
theorem zN_gK (h : zH) (t n : Nat) : gK (zN h t n) (gN h) = (t, n) := by simp [gK, zN, gN]
theorem zP_new {G : zG} {h : zH} {H H1 : Heap} {t n : Nat} (hP : zP G h H) (hsz : H.size = G.2.2.1 + gN h) (hb : gN h < zB) (ho : ∀ q, q < H.size → H1[q]? = H[q]?) (hn : va_at G.1 cl_s (zad G (gN h), zE G (zN h t n) (gN h)) H1) : zP G (zN h t n) H1 := by
  refine ⟨fun k q hk => ?_, by rw [zN_gN]; omega⟩
  obtain ⟨h1, rfl⟩ := zws_inv hk
  rw [zN_gN] at h1
  by_cases h2 : k = gN h
  · subst h2
    exact hn
  · have h3 : k < gN h := by omega
    have h4 := hP.1 k _ (zws_at G h h3)
    rw [zN_old G h t n h2]
    exact h4.kept (ho _ h4.lt)
theorem zS_new {A : Nat → Prop} {H0 H H1 : Heap} {locs : List Loc} (hS : va_S A H0 H locs) (hz : H1.size = H.size + 1) (ho : ∀ q, q < H.size → H1[q]? = H[q]?) : va_S A H0 H1 locs := ⟨by have := hS.1; omega, fun q h1 h2 => (ho q (Nat.lt_of_lt_of_le h1 hS.1)).trans (hS.2.1 q h1 h2), hS.2.2⟩
def zdef (c j : Nat) : Value := if fty c j = 0 then .int 0 else if fty c j = 1 then .long 0 else .null
theorem zfs_new (G : zG) (h : zH) (t n c : Nat) {j : Nat} (hj : j < cl_n c) : vp_V (zfs G (zN h t n) (gN h) c) j = zdef c j := by
  unfold vp_V
  rw [List.getD_eq_getElem?_getD, zfs_at G _ _ c hj]
  simp only [Option.getD_some, zfv, zdef]
  split
  · simp [zc, gI, zN, gN]
  · split
    · simp [zc, gL, zN, gN]
    · simp [zc, gR, zN, gN, va_rf]
section ZR5
variable {l : Launch} {d rc rs : Nat} {mi : zI} {pc : Nat} {L : List (Nat × Value)} {S : List Value} {f g : zM}
theorem zco_new {F : Nat → zM} {c n idx : Nat} {q : vw_C} (hq : cl_s[c]? = some q) (hn : q.2.2 = n) (hdf : ∀ j, j < n → defaultValue (cl_t c j) = zdef c j) (hcl : Cond.classLink mi.1 idx q.1 ∈ tb) (hins : Cond.instantiable q.1 n ∈ tb) (hini : Cond.initialized q.1 ∈ tb) (hd : decode mi.2.1 pc = .ok (.new idx, 3)) (kk : ∀ a : Nat, zCo l d rc rs mi (pc + 3) L (.ref a :: S) (F a)) : zCo l d (rc + 1) (rs + n) mi pc L S (z_new c n F) := by
  intro G h r h2 hf p e s m args below meth cd H locs cells slots R ls Fx hR hP hS hl
  obtain ⟨hx, hb, hml, hr, hown, hlocks, hin, hts, hK, hX, hB⟩ := id Fx
  unfold z_new at hf
  split at hf
  · rename_i hlt
    obtain ⟨r1, r2, r3, r4, r5⟩ := hR
    subst hn
    obtain ⟨k1, k2, k3, k4⟩ := cl_oks c q hq
    have hKn := hK.1 c _ hq
    refine W_sized fun hz => ?_
    have hsz := z_size hP hS hB r5 hz
    refine W.newcK (g := F0 m pc ls (S.map (zc G))) hx hb hown (hts _ hcl) (hts _ hins) (hts _ hini) rfl hd (by omega) (by omega) hKn.2.1 hsz fun H1 kC hkC e1 z1 o1 => ?_
    have k9 := kk (gN h) G (zN h c q.2.2) r h2 hf p e s m args below meth cd H1 locs (cells + 1) (slots + q.2.2) R ls Fx ⟨r1, r2, by omega, by omega, by rw [zN_gN]; omega⟩ (zP_new hP hsz hlt (fun x hx => o1 x (by omega)) ?_) (zS_new hS (by omega) (fun x hx => o1 x (by omega))) hl
    · simp only [List.map_cons, zc, zad_lt hlt] at k9
      exact k9
    · rw [zE_obj (c := c) G (by rw [zN_gK]) (zc20 hq), zad_lt hlt]
      exact ⟨_, hq, (u_born (cl_t c) hts k1 hKn hkC e1 k2).to (fun j hj => by rw [zfs_new G h c q.2.2 c (by rw [cl_n_of hq]; exact hj)]; exact hdf j hj)⟩
  · cases hf
theorem zco_newa_int {F : Nat → zM} {n : Int32} {N : Nat} (harr : Cond.arrayClass .int ∈ tb) (hn : ¬ n < 0) (hN : n.toNatClampNeg = N) (hsm : N ≤ 60000) (hd : decode mi.2.1 pc = .ok (.newarray .int, 2)) (kk : ∀ a : Nat, zCo l d rc rs mi (pc + 2) L (.ref a :: S) (F a)) : zCo l d (rc + 1) (rs + N) mi pc L (.int n :: S) (z_new 20 N F) := by
  intro G h r h2 hf p e s m args below meth cd H locs cells slots R ls Fx hR hP hS hl
  obtain ⟨hx, hb, hml, hr, hown, hlocks, hin, hts, hK, hX, hB⟩ := id Fx
  unfold z_new at hf
  split at hf
  · rename_i hlt
    obtain ⟨r1, r2, r3, r4, r5⟩ := hR
    refine W_sized fun hz => ?_
    have hsz := z_size hP hS hB r5 hz
    refine va_newaK (g := F0 m pc ls (.int n :: S.map (zc G))) (atype := .int) hx hb (hts _ harr) rfl hd rfl hn hN (by simp only [newarray.typeOf, componentBytes]; omega) (by omega) (by omega) hsz fun H1 cA e1 z1 o1 hAr hNm => ?_
    have hcA : cA = G.2.1 0 := by
      have h9 := (hK.2 0 (G.2.1 0, .int) rfl).2
      exact Option.some.inj (hNm.symm.trans h9)
    have k9 := kk (gN h) G (zN h 20 N) r h2 hf p e s m args below meth cd H1 locs (cells + 1) (slots + N) R ls Fx ⟨r1, r2, by omega, by omega, by rw [zN_gN]; omega⟩ (zP_new hP hsz hlt (fun x hx => o1 x (by omega)) ?_) (zS_new hS (by omega) (fun x hx => o1 x (by omega))) hl
    · simp only [List.map_cons, zc, zad_lt hlt] at k9
      exact k9
    · rw [zE_int G (by rw [zN_gK]), zN_gK, zad_lt hlt]
      show H1[_]? = some (vp_cell _ _)
      rw [e1, hcA]
      congr 1
      simp only [vp_cell]
      congr 1
      funext j
      simp [gI, gL, zN, gN, newarray.typeOf, defaultValue]
  · cases hf
theorem zco_newa_bool {F : Nat → zM} {n : Int32} {N : Nat} (harr : Cond.arrayClass .boolean ∈ tb) (hn : ¬ n < 0) (hN : n.toNatClampNeg = N) (hsm : N ≤ 60000) (hd : decode mi.2.1 pc = .ok (.newarray .boolean, 2)) (kk : ∀ a : Nat, zCo l d rc rs mi (pc + 2) L (.ref a :: S) (F a)) : zCo l d (rc + 1) (rs + N) mi pc L (.int n :: S) (z_new 21 N F) := by
  intro G h r h2 hf p e s m args below meth cd H locs cells slots R ls Fx hR hP hS hl
  obtain ⟨hx, hb, hml, hr, hown, hlocks, hin, hts, hK, hX, hB⟩ := id Fx
  unfold z_new at hf
  split at hf
  · rename_i hlt
    obtain ⟨r1, r2, r3, r4, r5⟩ := hR
    refine W_sized fun hz => ?_
    have hsz := z_size hP hS hB r5 hz
    refine va_newaK (g := F0 m pc ls (.int n :: S.map (zc G))) (atype := .boolean) hx hb (hts _ harr) rfl hd rfl hn hN (by simp only [newarray.typeOf, componentBytes]; omega) (by omega) (by omega) hsz fun H1 cA e1 z1 o1 hAr hNm => ?_
    have hcA : cA = G.2.1 1 := by
      have h9 := (hK.2 1 (G.2.1 1, .boolean) rfl).2
      exact Option.some.inj (hNm.symm.trans h9)
    have k9 := kk (gN h) G (zN h 21 N) r h2 hf p e s m args below meth cd H1 locs (cells + 1) (slots + N) R ls Fx ⟨r1, r2, by omega, by omega, by rw [zN_gN]; omega⟩ (zP_new hP hsz hlt (fun x hx => o1 x (by omega)) ?_) (zS_new hS (by omega) (fun x hx => o1 x (by omega))) hl
    · simp only [List.map_cons, zc, zad_lt hlt] at k9
      exact k9
    · rw [zE_bool G (by rw [zN_gK]), zN_gK, zad_lt hlt]
      show H1[_]? = some (vp_cell _ _)
      rw [e1, hcA]
      congr 1
      simp only [vp_cell]
      congr 1
      funext j
      simp [gI, gL, zN, gN, newarray.typeOf, defaultValue]
  · cases hf
theorem zco_newa_char {F : Nat → zM} {n : Int32} {N : Nat} (harr : Cond.arrayClass .char ∈ tb) (hn : ¬ n < 0) (hN : n.toNatClampNeg = N) (hsm : N ≤ 60000) (hd : decode mi.2.1 pc = .ok (.newarray .char, 2)) (kk : ∀ a : Nat, zCo l d rc rs mi (pc + 2) L (.ref a :: S) (F a)) : zCo l d (rc + 1) (rs + N) mi pc L (.int n :: S) (z_new 22 N F) := by
  intro G h r h2 hf p e s m args below meth cd H locs cells slots R ls Fx hR hP hS hl
  obtain ⟨hx, hb, hml, hr, hown, hlocks, hin, hts, hK, hX, hB⟩ := id Fx
  unfold z_new at hf
  split at hf
  · rename_i hlt
    obtain ⟨r1, r2, r3, r4, r5⟩ := hR
    refine W_sized fun hz => ?_
    have hsz := z_size hP hS hB r5 hz
    refine va_newaK (g := F0 m pc ls (.int n :: S.map (zc G))) (atype := .char) hx hb (hts _ harr) rfl hd rfl hn hN (by simp only [newarray.typeOf, componentBytes]; omega) (by omega) (by omega) hsz fun H1 cA e1 z1 o1 hAr hNm => ?_
    have hcA : cA = G.2.1 2 := by
      have h9 := (hK.2 2 (G.2.1 2, .char) rfl).2
      exact Option.some.inj (hNm.symm.trans h9)
    have k9 := kk (gN h) G (zN h 22 N) r h2 hf p e s m args below meth cd H1 locs (cells + 1) (slots + N) R ls Fx ⟨r1, r2, by omega, by omega, by rw [zN_gN]; omega⟩ (zP_new hP hsz hlt (fun x hx => o1 x (by omega)) ?_) (zS_new hS (by omega) (fun x hx => o1 x (by omega))) hl
    · simp only [List.map_cons, zc, zad_lt hlt] at k9
      exact k9
    · rw [zE_char G (by rw [zN_gK]), zN_gK, zad_lt hlt]
      show H1[_]? = some (vp_cell _ _)
      rw [e1, hcA]
      congr 1
      simp only [vp_cell]
      congr 1
      funext j
      simp [gI, gL, zN, gN, newarray.typeOf, defaultValue]
  · cases hf
theorem zco_newa_long {F : Nat → zM} {n : Int32} {N : Nat} (harr : Cond.arrayClass .long ∈ tb) (hn : ¬ n < 0) (hN : n.toNatClampNeg = N) (hsm : N ≤ 60000) (hd : decode mi.2.1 pc = .ok (.newarray .long, 2)) (kk : ∀ a : Nat, zCo l d rc rs mi (pc + 2) L (.ref a :: S) (F a)) : zCo l d (rc + 1) (rs + N) mi pc L (.int n :: S) (z_new 23 N F) := by
  intro G h r h2 hf p e s m args below meth cd H locs cells slots R ls Fx hR hP hS hl
  obtain ⟨hx, hb, hml, hr, hown, hlocks, hin, hts, hK, hX, hB⟩ := id Fx
  unfold z_new at hf
  split at hf
  · rename_i hlt
    obtain ⟨r1, r2, r3, r4, r5⟩ := hR
    refine W_sized fun hz => ?_
    have hsz := z_size hP hS hB r5 hz
    refine va_newaK (g := F0 m pc ls (.int n :: S.map (zc G))) (atype := .long) hx hb (hts _ harr) rfl hd rfl hn hN (by simp only [newarray.typeOf, componentBytes]; omega) (by omega) (by omega) hsz fun H1 cA e1 z1 o1 hAr hNm => ?_
    have hcA : cA = G.2.1 3 := by
      have h9 := (hK.2 3 (G.2.1 3, .long) rfl).2
      exact Option.some.inj (hNm.symm.trans h9)
    have k9 := kk (gN h) G (zN h 23 N) r h2 hf p e s m args below meth cd H1 locs (cells + 1) (slots + N) R ls Fx ⟨r1, r2, by omega, by omega, by rw [zN_gN]; omega⟩ (zP_new hP hsz hlt (fun x hx => o1 x (by omega)) ?_) (zS_new hS (by omega) (fun x hx => o1 x (by omega))) hl
    · simp only [List.map_cons, zc, zad_lt hlt] at k9
      exact k9
    · rw [zE_long G (by rw [zN_gK]), zN_gK, zad_lt hlt]
      show H1[_]? = some (vp_cell _ _)
      rw [e1, hcA]
      congr 1
      simp only [vp_cell]
      congr 1
      funext j
      simp [gI, gL, zN, gN, newarray.typeOf, defaultValue]
  · cases hf
theorem zco_newq {F : Nat → zM} {n : Int32} {N idx : Nat} (hcl : Cond.classLink mi.1 idx "ClothWedding$State" ∈ tb) (hn : ¬ n < 0) (hN : n.toNatClampNeg = N) (hsm : N ≤ 60000) (hd : decode mi.2.1 pc = .ok (.anewarray idx, 3)) (kk : ∀ a : Nat, zCo l d rc rs mi (pc + 3) L (.ref a :: S) (F a)) : zCo l d (rc + 1) (rs + N) mi pc L (.int n :: S) (z_new 24 N F) := by
  intro G h r h2 hf p e s m args below meth cd H locs cells slots R ls Fx hR hP hS hl
  obtain ⟨hx, hb, hml, hr, hown, hlocks, hin, hts, hK, hX, hB⟩ := id Fx
  unfold z_new at hf
  split at hf
  · rename_i hlt
    obtain ⟨r1, r2, r3, r4, r5⟩ := hR
    refine W_sized fun hz => ?_
    have hsz := z_size hP hS hB r5 hz
    subst hN
    refine W.anew (g := F0 m pc ls (.int n :: S.map (zc G))) hx hb hown (hts _ hcl) (va_AO.use hX.2.2.2.1) rfl hd rfl hn (by omega) (by omega) (by omega) fun cA kA comp f1 f2 f3 f4 => ?_
    have hcA : cA = G.2.1 4 := by
      obtain ⟨_, _, _, _, _, h9⟩ := (hK.2 4 (G.2.1 4, .object "ClothWedding$State") rfl).2
      exact Option.some.inj (f1.symm.trans h9)
    have k9 := kk (gN h) G (zN h 24 n.toNatClampNeg) r h2 hf p e s m args below meth cd (H.push ({ cls := cA, slots := Array.replicate n.toNatClampNeg .null, vm := .none } : Cell)) locs (cells + 1) (slots + n.toNatClampNeg) R ls Fx ⟨r1, r2, by omega, by omega, by rw [zN_gN]; omega⟩ (zP_new hP hsz hlt (fun x hx => by rw [Array.getElem?_push, if_neg (Nat.ne_of_lt hx)]) ?_) (zS_new hS (by rw [Array.size_push]) (fun x hx => by rw [Array.getElem?_push, if_neg (Nat.ne_of_lt hx)])) hl
    · simp only [List.map_cons, zc, zad_lt hlt] at k9
      rw [← hsz] at k9
      exact k9
    · rw [zE_ref G (by rw [zN_gK]), zN_gK, zad_lt hlt, ← hsz]
      show (H.push _)[H.size]? = some (vp_cell _ _)
      rw [Array.getElem?_push_size, vp_cell_q, hcA]
      have e5 : (fun j => va_rf ((gR (zN h 24 n.toNatClampNeg) (gN h) j).map (zad G))) = fun _ => Value.null := by
        funext j
        simp [gR, zN, gN, va_rf]
      rw [e5, ← arrV_new]
  · cases hf
end ZR5
