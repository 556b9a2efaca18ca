/-! the law's own rules: as the others', over a script -/
section Bb5
/-- the code at pc of the law, with these locals and this stack, comes to the law's end with 1, as f says it does -/
def zCl (n0 : Nat) (xs : Nat → Int32) (l : Launch) (d rc rs : Nat) (mi : zI) (pc : Nat) (L : List (Nat × Value)) (S : List Value) (f : zM) : Prop :=
  ∀ (G : zG) (h : zH) (r : Option Value) (h' : zH), f h = some (r, h') → ∀ (p : Program) (e : Env) (s : State) (m : MethodId) (args : Array Value) (below : List Frame) (meth : Method) (c : Code) (H : Heap) (locs : List Loc) (cells slots : Nat) (R : Room) (ls : Array Slot),
    zF G mi p s m args meth c → zRm G h s d rc rs cells slots R → zP G h H → va_S (zA G) s.heap H locs → lv_has ls mi.2.2.1 (L.map (zcp G)) → (va_T .int (G.2.2.2 17) n0 (fun j => .int (xs j)) (zA G) s s.heap ∧ r = some (.int 1) ∧ R = room_1 ∧ args = #[Value.ref (G.2.2.2 17)] ∧ G.2.2.1 = s.heap.size) →
    W p l e R s m args below meth c H locs cells slots (lw_Z below args s) (F0 m pc ls (S.map (zc G)))
variable {n0 : Nat} {xs : Nat → Int32} {l : Launch} {d rc rs : Nat} {mi : zI} {pc : Nat} {L : List (Nat × Value)} {S : List Value} {f g : zM}
theorem zcl_run : ∀ (ts : List (Nat × Instr × Nat)) (_ : ∀ q ∈ ts, decode mi.2.1 q.1 = .ok q.2) {pc : Nat} {L : List (Nat × Value)} {S : List Value} {pc' : Nat} {L' : List (Nat × Value)} {S' : List Value} (_ : zrun mi.2.2.1 ts pc L S = some (pc', L', S')) (_ : zCl n0 xs l d rc rs mi pc' L' S' f), zCl n0 xs l d rc rs mi pc L S f := by
  intro ts
  induction ts with
  | nil => intro _ pc L S pc' L' S' h kk; cases h; exact kk
  | cons q ts ih =>
    intro hts pc L S pc' L' S' h kk
    obtain ⟨q0, i, len⟩ := q
    unfold zrun at h
    split at h
    · rename_i hq
      subst hq
      split at h
      · rename_i pc1 L1 S1 hs
        have k1 := ih (fun q hq => hts q (List.mem_cons_of_mem _ hq)) h kk
        intro G h r h2 hf p e s m args below meth cd H locs cells slots R ls Fx hR hP hS hl hT
        exact zst_ok Fx.1 Fx.2.1 (hts _ List.mem_cons_self) hs hl (fun ls' hl' => k1 G h r h2 hf p e s m args below meth cd H locs cells slots R ls' Fx hR hP hS hl' hT)
      · cases h
    · cases h
theorem zcl_p {T : List (Nat × Instr × Nat)} (hT : ∀ q ∈ T, decode mi.2.1 q.1 = .ok q.2) (j n : Nat) {pc' : Nat} {L' : List (Nat × Value)} {S' : List Value} (h : zrun mi.2.2.1 ((T.drop j).take n) pc L S = some (pc', L', S')) (kk : zCl n0 xs l d rc rs mi pc' L' S' f) : zCl n0 xs l d rc rs mi pc L S f :=
  zcl_run _ (fun q hq => hT q (List.mem_of_mem_drop (List.mem_of_mem_take hq))) h kk
theorem zcl_sub (ks : List Nat) {L' : List (Nat × Value)} (h : lv_pick L ks = L') (kk : zCl n0 xs l d rc rs mi pc L' S f) : zCl n0 xs l d rc rs mi pc L S f := by
  intro G h r h2 hf p e s m args below meth cd H locs cells slots R ls Fx hR hP hS hl hT
  refine kk G h r h2 hf p e s m args below meth cd H locs cells slots R ls Fx hR hP hS (lv_sub hl ks ?_) hT
  rw [← ‹lv_pick L ks = L'›]
  simp only [lv_pick, List.map_filterMap, List.getElem?_map]
theorem zcl_fix {α : Type} {body : (α → zM) → α → zM} {Lf : α → List (Nat × Value)} {Sf : α → List Value} (hb : ∀ rec : α → zM, (∀ x, zCl n0 xs l d rc rs mi pc (Lf x) (Sf x) (rec x)) → ∀ x, zCl n0 xs l d rc rs mi pc (Lf x) (Sf x) (body rec x)) : ∀ (n : Nat) (x : α), zCl n0 xs l d rc rs mi pc (Lf x) (Sf x) (z_fix body n x) := by
  intro n
  induction n with
  | zero => intro x G h r h2 hf; cases hf
  | succ n ih => intro x; exact hb (z_fix body n) ih x
theorem zcl_eq {f' : zM} (h : f = f') (kk : zCl n0 xs l d rc rs mi pc L S f') : zCl n0 xs l d rc rs mi pc L S f := h ▸ kk
theorem zcl_icmp_eq {x y : Int32} {off : Int} {tgt : Nat} (hd : decode mi.2.1 pc = .ok (.if_icmp .eq off, 3)) (ht : (pc : Int) + off = (tgt : Int)) (k1 : zCl n0 xs l d rc rs mi tgt L S f) (k2 : zCl n0 xs l d rc rs mi (pc + 3) L S g) : zCl n0 xs l d rc rs mi pc L (.int y :: .int x :: S) (z_if (x = y) f g) := by
  intro G h r h2 hf p e s m args below meth cd H locs cells slots R ls Fx hR hP hS hl hT
  obtain ⟨hx, hb, hml, hr, hown, hlocks, hin, hts, hK, hX, hB⟩ := id Fx
  unfold z_if at hf
  refine lv_icmp_eq hx hb hd ht (fun q => ?_) (fun q => ?_)
  · first | rw [if_pos q] at hf | rw [if_neg q] at hf
    exact k1 G h r h2 hf p e s m args below meth cd H locs cells slots R ls Fx hR hP hS hl hT
  · first | rw [if_neg q] at hf | rw [if_pos q] at hf
    exact k2 G h r h2 hf p e s m args below meth cd H locs cells slots R ls Fx hR hP hS hl hT
theorem zcl_icmp_gt {x y : Int32} {off : Int} {tgt : Nat} (hd : decode mi.2.1 pc = .ok (.if_icmp .gt off, 3)) (ht : (pc : Int) + off = (tgt : Int)) (k1 : zCl n0 xs l d rc rs mi tgt L S f) (k2 : zCl n0 xs l d rc rs mi (pc + 3) L S g) : zCl n0 xs l d rc rs mi pc L (.int y :: .int x :: S) (z_if (y < x) f g) := by
  intro G h r h2 hf p e s m args below meth cd H locs cells slots R ls Fx hR hP hS hl hT
  obtain ⟨hx, hb, hml, hr, hown, hlocks, hin, hts, hK, hX, hB⟩ := id Fx
  unfold z_if at hf
  refine lv_icmp_gt hx hb hd ht (fun q => ?_) (fun q => ?_)
  · first | rw [if_pos q] at hf | rw [if_neg q] at hf
    exact k1 G h r h2 hf p e s m args below meth cd H locs cells slots R ls Fx hR hP hS hl hT
  · first | rw [if_neg q] at hf | rw [if_pos q] at hf
    exact k2 G h r h2 hf p e s m args below meth cd H locs cells slots R ls Fx hR hP hS hl hT
theorem zcl_if_eq {x : Int32} {off : Int} {tgt : Nat} (hd : decode mi.2.1 pc = .ok (.ifCond .eq off, 3)) (ht : (pc : Int) + off = (tgt : Int)) (k1 : zCl n0 xs l d rc rs mi tgt L S f) (k2 : zCl n0 xs l d rc rs mi (pc + 3) L S g) : zCl n0 xs l d rc rs mi pc L (.int x :: S) (z_if (x = 0) f g) := by
  intro G h r h2 hf p e s m args below meth cd H locs cells slots R ls Fx hR hP hS hl hT
  obtain ⟨hx, hb, hml, hr, hown, hlocks, hin, hts, hK, hX, hB⟩ := id Fx
  unfold z_if at hf
  refine lv_if_eq hx hb hd ht (fun q => ?_) (fun q => ?_)
  · first | rw [if_pos q] at hf | rw [if_neg q] at hf
    exact k1 G h r h2 hf p e s m args below meth cd H locs cells slots R ls Fx hR hP hS hl hT
  · first | rw [if_neg q] at hf | rw [if_pos q] at hf
    exact k2 G h r h2 hf p e s m args below meth cd H locs cells slots R ls Fx hR hP hS hl hT
theorem zcl_lcmp_eq {x y : Int64} {off : Int} {tgt : Nat} (h0 : decode mi.2.1 pc = .ok (.lcmp, 1)) (hd : decode mi.2.1 (pc + 1) = .ok (.ifCond .eq off, 3)) (ht : ((pc + 1 : Nat) : Int) + off = (tgt : Int)) (k1 : zCl n0 xs l d rc rs mi tgt L S f) (k2 : zCl n0 xs l d rc rs mi (pc + 4) L S g) : zCl n0 xs l d rc rs mi pc L (.long y :: .long x :: S) (z_if (x = y) f g) := by
  refine zcl_run [(pc, .lcmp, 1)] (fun q hq => ?_) (pc' := pc + 1) (L' := L) (S' := .int (lg_cmp x y) :: S) (by simp [zrun, zst]) (zcl_eq (z_if_iff lgc_eq.symm _ _) (zcl_if_eq hd ht k1 k2))
  cases List.mem_singleton.mp hq
  exact h0
theorem zcl_tab {x : Int32} {dflt lo hi : Int} {offs : Array Int} {len : Nat} (hd : decode mi.2.1 pc = .ok (.tableswitch dflt lo hi offs, len)) {t0 : Nat} (ht0 : (pc : Int) + dflt = (t0 : Int)) (ts : List Nat) (F : Nat → zM) (hts0 : offs.toList.map (fun o => (pc : Int) + o) = ts.map (fun t : Nat => (t : Int))) (hlen : hi = lo + offs.size - 1)
    (k0 : zCl n0 xs l d rc rs mi t0 L S g) (k1 : ∀ j t, ts[j]? = some t → zCl n0 xs l d rc rs mi t L S (F j)) : zCl n0 xs l d rc rs mi pc L (.int x :: S) (z_if (x.toInt < lo ∨ hi < x.toInt) g (F (x.toInt - lo).toNat)) := by
  intro G h r h2 hf p e s m args below meth cd H locs cells slots R ls Fx hR hP hS hl hT
  obtain ⟨hx, hb, hml, hr, hown, hlocks, hin, hts, hK, hX, hB⟩ := id Fx
  unfold z_if at hf
  by_cases hq : x.toInt < lo ∨ hi < x.toInt
  · rw [if_pos hq] at hf
    exact lv_tableOut hx hb hd hq ht0 (k0 G h r h2 hf p e s m args below meth cd H locs cells slots R ls Fx hR hP hS hl hT)
  · rw [if_neg hq] at hf
    have q1 : ¬ x.toInt < lo := fun q => hq (Or.inl q)
    have q2 : ¬ hi < x.toInt := fun q => hq (Or.inr q)
    have hj : (x.toInt - lo).toNat < offs.size := by omega
    obtain ⟨o, ho⟩ : ∃ o, offs[(x.toInt - lo).toNat]? = some o := ⟨_, Array.getElem?_eq_getElem hj⟩
    have hz := congrArg (fun z => z[(x.toInt - lo).toNat]?) hts0
    simp only [List.getElem?_map, Array.getElem?_toList, ho, Option.map_some] at hz
    cases hw : ts[(x.toInt - lo).toNat]? with
    | none => rw [hw] at hz; cases hz
    | some t =>
      rw [hw] at hz
      exact lv_tableIn hx hb hd q1 q2 ho (Option.some.inj hz) (k1 _ t hw G h r h2 hf p e s m args below meth cd H locs cells slots R ls Fx hR hP hS hl hT)
theorem zcl_new {F : Nat → zM} {c n idx : Nat} {q : vw_C} (hq : cl_s[c]? = some q) (hn : q.2.2 = n) (hdf : ∀ j, j < n → defaultValue (cl_t c j) = zdef c j) (hcl : Cond.classLink mi.1 idx q.1 ∈ tb) (hins : Cond.instantiable q.1 n ∈ tb) (hini : Cond.initialized q.1 ∈ tb) (hd : decode mi.2.1 pc = .ok (.new idx, 3)) (kk : ∀ a : Nat, zCl n0 xs l d rc rs mi (pc + 3) L (.ref a :: S) (F a)) : zCl n0 xs l d (rc + 1) (rs + n) mi pc L S (z_new c n F) := by
  intro G h r h2 hf p e s m args below meth cd H locs cells slots R ls Fx hR hP hS hl hT
  obtain ⟨hx, hb, hml, hr, hown, hlocks, hin, hts, hK, hX, hB⟩ := id Fx
  unfold z_new at hf
  split at hf
  · rename_i hlt
    obtain ⟨r1, r2, r3, r4, r5⟩ := hR
    subst hn
    obtain ⟨k1, k2, k3, k4⟩ := cl_oks c q hq
    have hKn := hK.1 c _ hq
    refine W_sized fun hz => ?_
    have hsz := z_size hP hS hB r5 hz
    refine W.newcK (g := F0 m pc ls (S.map (zc G))) hx hb hown (hts _ hcl) (hts _ hins) (hts _ hini) rfl hd (by omega) (by omega) hKn.2.1 hsz fun H1 kC hkC e1 z1 o1 => ?_
    have k9 := kk (gN h) G (zN h c q.2.2) r h2 hf p e s m args below meth cd H1 locs (cells + 1) (slots + q.2.2) R ls Fx ⟨r1, r2, by omega, by omega, by rw [zN_gN]; omega⟩ (zP_new hP hsz hlt (fun x hx => o1 x (by omega)) ?_) (zS_new hS (by omega) (fun x hx => o1 x (by omega))) hl hT
    · simp only [List.map_cons, zc, zad_lt hlt] at k9
      exact k9
    · rw [zE_obj (c := c) G (by rw [zN_gK]) (zc20 hq), zad_lt hlt]
      exact ⟨_, hq, (u_born (cl_t c) hts k1 hKn hkC e1 k2).to (fun j hj => by rw [zfs_new G h c q.2.2 c (by rw [cl_n_of hq]; exact hj)]; exact hdf j hj)⟩
  · cases hf
theorem zcl_I {S0 : List Value} {As : List Value} {b idx n mc ms maxL : Nat} {y : MethodName} {cc : ByteArray} (hv : zIM y cc maxL n) (hM : zMet l d mc ms y cc maxL none (.ref b :: As) g) (hlk : Cond.methodLink mi.1 idx y ∈ tb) (hst : S0 = As.reverse ++ .ref b :: S) (hn : As.length = n) (hw : (S.map fun v => v.category).sum ≤ 8) (hd : decode mi.2.1 pc = .ok (.invokespecial idx, 3)) (kk : zCl n0 xs l (d + 1) rc rs mi (pc + 3) L S f) : zCl n0 xs l (d + 1) (rc + mc) (rs + ms) mi pc L S0 (z_cv g f) := by
  intro G h r h2 hf p e s m args below meth cd H locs cells slots R ls Fx hR hP hS hl hT
  obtain ⟨hx, hb, hml, hr, hown, hlocks, hin, hts, hK, hX, hB⟩ := id Fx
  obtain ⟨v1, v2, v3, v5, v4, v8⟩ := hv
  unfold z_cv at hf
  split at hf
  · rename_i hg
    obtain ⟨r1, r2, r3, r4, r5⟩ := hR
    refine W_sized fun hz => ?_
    have hsz := z_size hP hS hB r5 hz
    refine z_back (mc := mc) (ms := ms) (va_runI (As := As.map (zc G)) (rest := S.map (zc G)) ⟨hx, hb, hml, hown, hts⟩ (hM G h _ _ hg) (cwI n hts (zws_good v1) rfl rfl rfl (hts _ v3) (hts _ hlk) (hts _ v2) v5 v4 ⟨r1, by show 8 + (maxL + 11) + 64 * d ≤ R.locals; omega⟩) ⟨zblind G h _, zpre (args := args) ((.ref b :: As).map (zc G)) hP hK hX hS hsz⟩ rfl (by rw [List.length_map]; exact hn) hl.1 ?_ (lv_room (by rw [zcat_sum]; exact hw)) hd ⟨by omega, by omega⟩) hS (by omega) (fun H1 locs1 hP1 hS1 hN1 => ?_)
    · rw [hst]; simp [List.map_append, List.map_reverse, zc]
    · exact kk G _ r h2 hf p e s m args below meth cd H1 locs1 _ _ R ls Fx ⟨r1, r2, by omega, by omega, hN1⟩ hP1 hS1 hl hT
  · cases hf
theorem zcl_Vi {F : Int32 → zM} {S0 : List Value} {As : List Value} {b c idx n mc ms maxL : Nat} {y : MethodName} {cc : ByteArray} {ret : Option FieldType} (hv : zVM y cc maxL ret n c) (hM : zMet l d mc ms y cc maxL ret (.ref b :: As) g) (hlk : Cond.methodLink mi.1 idx y ∈ tb) (hst : S0 = As.reverse ++ .ref b :: S) (hn : As.length = n) (hw : (S.map fun v => v.category).sum ≤ 8) (hd : decode mi.2.1 pc = .ok (.invokevirtual idx, 3)) (kk : ∀ x : Int32, zCl n0 xs l (d + 1) rc rs mi (pc + 3) L (.int x :: S) (F x)) : zCl n0 xs l (d + 1) (rc + mc) (rs + ms) mi pc L S0 (z_rc c b (z_ci g F)) := by
  intro G h r h2 hf p e s m args below meth cd H locs cells slots R ls Fx hR hP hS hl hT
  obtain ⟨hx, hb, hml, hr, hown, hlocks, hin, hts, hK, hX, hB⟩ := id Fx
  obtain ⟨v1, v2, v3, v4, ⟨q, v5, v6⟩, v7, v8⟩ := hv
  unfold z_rc at hf
  split at hf
  · rename_i hq
    unfold z_ci at hf
    split at hf
    · rename_i hg
      obtain ⟨r1, r2, r3, r4, r5⟩ := hR
      refine W_sized fun hz => ?_
      have hsz := z_size hP hS hB r5 hz
      refine z_back (mc := mc) (ms := ms) (va_runV (C := y.cls) (As := As.map (zc G)) (rest := S.map (zc G)) ⟨hx, hb, hml, hown, hts⟩ (hM G h _ _ hg) (cwV n hts (fun w hw => tb_good w ?_) rfl rfl rfl ⟨rfl, v7⟩ ⟨r1, by show 8 + (maxL + 11) + 64 * d ≤ R.locals; omega⟩) ⟨zblind G h _, ?_, zpre (args := args) ((.ref b :: As).map (zc G)) hP hK hX hS hsz⟩ rfl (by rw [List.length_map]; exact hn) hl.1 ?_ (lv_room (by rw [zcat_sum]; exact hw)) hd ⟨by omega, by omega⟩) hS (by omega) (fun H1 locs1 hP1 hS1 hN1 => ?_)
      · simp only [wsV, List.mem_append, List.mem_cons, List.not_mem_nil, or_false] at hw
        rcases hw with (rfl | rfl | rfl | rfl) | hw
        · exact hlk
        · exact v2
        · exact v3
        · exact v4
        · exact ((zws_good v1) w hw).1
      · have h9 := va_recv hK hP.1 v5 ((zws_at G h hq.1).trans (by rw [zE_obj G hq.2 (zc20 v5)]))
        rw [v6] at h9
        exact h9
      · rw [hst]; simp [List.map_append, List.map_reverse, zc]
      · exact kk _ G _ r h2 hf p e s m args below meth cd H1 locs1 _ _ R ls Fx ⟨r1, r2, by omega, by omega, hN1⟩ hP1 hS1 hl hT
    · cases hf
  · cases hf
theorem zcl_Vl {F : Int64 → zM} {S0 : List Value} {As : List Value} {b c idx n mc ms maxL : Nat} {y : MethodName} {cc : ByteArray} {ret : Option FieldType} (hv : zVM y cc maxL ret n c) (hM : zMet l d mc ms y cc maxL ret (.ref b :: As) g) (hlk : Cond.methodLink mi.1 idx y ∈ tb) (hst : S0 = As.reverse ++ .ref b :: S) (hn : As.length = n) (hw : (S.map fun v => v.category).sum ≤ 8) (hd : decode mi.2.1 pc = .ok (.invokevirtual idx, 3)) (kk : ∀ x : Int64, zCl n0 xs l (d + 1) rc rs mi (pc + 3) L (.long x :: S) (F x)) : zCl n0 xs l (d + 1) (rc + mc) (rs + ms) mi pc L S0 (z_rc c b (z_cl g F)) := by
  intro G h r h2 hf p e s m args below meth cd H locs cells slots R ls Fx hR hP hS hl hT
  obtain ⟨hx, hb, hml, hr, hown, hlocks, hin, hts, hK, hX, hB⟩ := id Fx
  obtain ⟨v1, v2, v3, v4, ⟨q, v5, v6⟩, v7, v8⟩ := hv
  unfold z_rc at hf
  split at hf
  · rename_i hq
    unfold z_cl at hf
    split at hf
    · rename_i hg
      obtain ⟨r1, r2, r3, r4, r5⟩ := hR
      refine W_sized fun hz => ?_
      have hsz := z_size hP hS hB r5 hz
      refine z_back (mc := mc) (ms := ms) (va_runV (C := y.cls) (As := As.map (zc G)) (rest := S.map (zc G)) ⟨hx, hb, hml, hown, hts⟩ (hM G h _ _ hg) (cwV n hts (fun w hw => tb_good w ?_) rfl rfl rfl ⟨rfl, v7⟩ ⟨r1, by show 8 + (maxL + 11) + 64 * d ≤ R.locals; omega⟩) ⟨zblind G h _, ?_, zpre (args := args) ((.ref b :: As).map (zc G)) hP hK hX hS hsz⟩ rfl (by rw [List.length_map]; exact hn) hl.1 ?_ (lv_room (by rw [zcat_sum]; exact hw)) hd ⟨by omega, by omega⟩) hS (by omega) (fun H1 locs1 hP1 hS1 hN1 => ?_)
      · simp only [wsV, List.mem_append, List.mem_cons, List.not_mem_nil, or_false] at hw
        rcases hw with (rfl | rfl | rfl | rfl) | hw
        · exact hlk
        · exact v2
        · exact v3
        · exact v4
        · exact ((zws_good v1) w hw).1
      · have h9 := va_recv hK hP.1 v5 ((zws_at G h hq.1).trans (by rw [zE_obj G hq.2 (zc20 v5)]))
        rw [v6] at h9
        exact h9
      · rw [hst]; simp [List.map_append, List.map_reverse, zc]
      · exact kk _ G _ r h2 hf p e s m args below meth cd H1 locs1 _ _ R ls Fx ⟨r1, r2, by omega, by omega, hN1⟩ hP1 hS1 hl hT
    · cases hf
  · cases hf
/-- the script's length, and what it says at a place -/
def z_ld (n0 : Nat) (xs : Nat → Int32) (i : Int32) (F : Int32 → zM) : zM := fun h => if 0 ≤ i.toInt ∧ i.toInt < n0 then F (xs i.toNatClampNeg) h else none
theorem zcl_slen (hd : decode mi.2.1 pc = .ok (.arraylength, 1)) (kk : zCl n0 xs l d rc rs mi (pc + 1) L (.int (Int32.ofNat n0) :: S) f) : zCl n0 xs l d rc rs mi pc L (.ref (zB + 17) :: S) f := by
  intro G h r h2 hf p e s m args below meth cd H locs cells slots R ls Fx hR hP hS hl hT
  obtain ⟨hx, hb, hml, hr, hown, hlocks, hin, hts, hK, hX, hB⟩ := id Fx
  have k1 := kk G h r h2 hf p e s m args below meth cd H locs cells slots R ls Fx hR hP hS hl hT
  have e1 := zad_ge G 17
  obtain ⟨cell, t1, t2, t3, t4, t5, t6, t7⟩ := hT.1.kept hS.2.1
  simp only [List.map_cons, zc, e1] at k1 ⊢
  exact W.alen hx hb t1 t2 t5 rfl rfl hd k1
theorem zcl_sld {F : Int32 → zM} {i : Int32} (hd : decode mi.2.1 pc = .ok (.iaload, 1)) (kk : ∀ x : Int32, zCl n0 xs l d rc rs mi (pc + 1) L (.int x :: S) (F x)) : zCl n0 xs l d rc rs mi pc L (.int i :: .ref (zB + 17) :: S) (z_ld n0 xs i F) := by
  intro G h r h2 hf p e s m args below meth cd H locs cells slots R ls Fx hR hP hS hl hT
  obtain ⟨hx, hb, hml, hr, hown, hlocks, hin, hts, hK, hX, hB⟩ := id Fx
  unfold z_ld at hf
  split at hf
  · rename_i hq
    have k1 := kk _ G h r h2 hf p e s m args below meth cd H locs cells slots R ls Fx hR hP hS hl hT
    have e1 := zad_ge G 17
    obtain ⟨cell, t1, t2, t3, t4, t5, t6, t7⟩ := hT.1.kept hS.2.1
    have hv : vp_in i n0 := vp_in_of2 hq
    have hlt : i.toNatClampNeg < n0 := Nat.not_le.mp fun q => hv (Or.inr q)
    simp only [List.map_cons, zc, e1] at k1 ⊢
    exact W.iald hx hb t1 t2 t3 (fun q => hv (q.imp id (fun q => Nat.le_trans t4 q))) (t6 _ hlt) rfl rfl hd k1
  · cases hf
theorem zcl_no : zCl n0 xs l d rc rs mi pc L S zNo := by
  intro G h r h2 hf
  cases hf
/-- the law's end -/
theorem zcl_end {x : Int32} {nm : String} (hmi : mi = (nm, code, 4, ret, false)) (hd : decode code pc = .ok (.ireturn, 1)) : zCl n0 xs l d rc rs mi pc L [.int x] (z_ret (some (.int x))) := by
  intro G h r h2 hf p e s m args below meth cd H locs cells slots R ls Fx hR hP hS hl hT
  obtain ⟨hx, hb, hml, hr, hown, hlocks, hin, hts, hK, hX, hB⟩ := id Fx
  subst hmi
  obtain ⟨-, hT2, rfl, rfl, hT5⟩ := hT
  cases hf
  cases hT2
  obtain ⟨-, -, e1, e2, e3⟩ := hR
  have e1 : cells + rc = 600000 := e1
  have e2 : slots + rs = 7302250 := e2
  refine va_forget (fun q hq => ?_) (W.widen (k := 600000) (n := 7302250) (by omega) (by omega) (lw_ret hx hb hr hlocks hd))
  have := hS.2.2 q hq
  have h9 : G.2.2.1 ≤ q.base := this
  rw [hT5] at h9
  exact h9
end Bb5
