section ZR6
variable {l : Launch} {d rc rs : Nat} {mi : zI} {pc : Nat} {L : List (Nat × Value)} {S : List Value} {f g : zM}
def zVM (y : MethodName) (cc : ByteArray) (maxL : Nat) (ret : Option FieldType) (n c : Nat) : Prop := Cond.code y cc maxL ret ∈ tb ∧ Cond.instanceMethod y ∈ tb ∧ Cond.selects y.cls y y ∈ tb ∧ Cond.initialized y.cls ∈ tb ∧ (∃ q, cl_s[c]? = some q ∧ q.1 = y.cls) ∧ (y.cls ≠ "java/lang/invoke/MethodHandle" ∧ y.cls ≠ "java/lang/invoke/VarHandle" ∧ (parseMethodDescriptor y.desc).map (fun d => d.parameters.length) = some n) ∧ maxL ≤ 40
def zSM (y : MethodName) (cc : ByteArray) (maxL : Nat) (ret : Option FieldType) (n : Nat) : Prop := Cond.code y cc maxL ret ∈ tb ∧ Cond.static y ∈ tb ∧ Cond.initialized y.cls ∈ tb ∧ (y.cls ≠ "java/lang/invoke/MethodHandle" ∧ y.cls ≠ "java/lang/invoke/VarHandle" ∧ (parseMethodDescriptor y.desc).map (fun d => d.parameters.length) = some n) ∧ maxL ≤ 40
def zIM (y : MethodName) (cc : ByteArray) (maxL : Nat) (n : Nat) : Prop := Cond.code y cc maxL none ∈ tb ∧ Cond.instanceMethod y ∈ tb ∧ Cond.initialized y.cls ∈ tb ∧ y.name = "<init>" ∧ (y.cls ≠ "java/lang/invoke/MethodHandle" ∧ y.cls ≠ "java/lang/invoke/VarHandle" ∧ (parseMethodDescriptor y.desc).map (fun d => d.parameters.length) = some n) ∧ maxL ≤ 40
theorem zws_good {y : MethodName} {cc : ByteArray} {maxL : Nat} {ret : Option FieldType} (h : Cond.code y cc maxL ret ∈ tb) : GoodIn tb (z_ws y cc maxL ret) := fun w hw => tb_good w (by
  rcases List.mem_cons.mp hw with rfl | h1
  · exact h
  · exact h1)
theorem zblind (G : zG) (h : zH) (av : List Value) : FrameBlind (va_Pc av (fun U => zP G h U.heap ∧ va_K G.1 cl_s (ztys G) U ∧ zX G U U.heap ∧ U.heap.size = G.2.2.1 + gN h)) := by
  intro a U g mk q
  obtain ⟨q1, q2, q3, q4, q5⟩ := q
  exact ⟨q1, q2, va_K.moved (u := U) (U := U.calling g mk a) (Vm.Alike.refl U.vm) q3, zX_go (U := U.calling g mk a) q4 va_S.rf rfl (State.WarmedH.refl U), q5⟩
theorem zpre {G : zG} {h : zH} {s : State} {H : Heap} {locs : List Loc} {args : Array Value} (av : List Value) (hP : zP G h H) (hK : va_K G.1 cl_s (ztys G) s) (hX : zX G s s.heap) (hS : va_S (zA G) s.heap H locs) (hsz : H.size = G.2.2.1 + gN h) : ∀ U : State, U.heap = H → s.WarmedH U.vm → va_Pc av (fun U => zP G h U.heap ∧ va_K G.1 cl_s (ztys G) U ∧ zX G U U.heap ∧ U.heap.size = G.2.2.1 + gN h) av.toArray U :=
  fun U hU hW => ⟨rfl, by rw [hU]; exact hP, va_K.moved hW.alike hK, zX_go hX hS hU hW, by rw [hU]; exact hsz⟩
theorem zcat_sum (G : zG) (S : List Value) : ((S.map (zc G)).map fun v => v.category).sum = (S.map fun v => v.category).sum := by
  rw [List.map_map]
  congr 1
  refine List.map_congr_left fun v _ => ?_
  exact zc_cat G v
theorem zco_Vv {S0 : List Value} {As : List Value} {b c idx n mc ms maxL : Nat} {y : MethodName} {cc : ByteArray} {ret : Option FieldType} (hv : zVM y cc maxL ret n c) (hM : zMet l d mc ms y cc maxL ret (.ref b :: As) g) (hlk : Cond.methodLink mi.1 idx y ∈ tb) (hst : S0 = As.reverse ++ .ref b :: S) (hn : As.length = n) (hw : (S.map fun v => v.category).sum ≤ 8) (hd : decode mi.2.1 pc = .ok (.invokevirtual idx, 3)) (kk : zCo l (d + 1) rc rs mi (pc + 3) L (S) (f)) : zCo l (d + 1) (rc + mc) (rs + ms) mi pc L S0 (z_rc c b (z_cv g f)) := by
  intro G h r h2 hf p e s m args below meth cd H locs cells slots R ls Fx hR hP hS hl
  obtain ⟨hx, hb, hml, hr, hown, hlocks, hin, hts, hK, hX, hB⟩ := id Fx
  obtain ⟨v1, v2, v3, v4, ⟨q, v5, v6⟩, v7, v8⟩ := hv
  unfold z_rc at hf
  split at hf
  · rename_i hq
    unfold z_cv at hf
    split at hf
    · rename_i hg
      obtain ⟨r1, r2, r3, r4, r5⟩ := hR
      refine W_sized fun hz => ?_
      have hsz := z_size hP hS hB r5 hz
      refine z_back (mc := mc) (ms := ms) (va_runV (C := y.cls) (As := As.map (zc G)) (rest := S.map (zc G)) ⟨hx, hb, hml, hown, hts⟩ (hM G h _ _ hg) (cwV n hts (fun w hw => tb_good w ?_) rfl rfl rfl ⟨rfl, v7⟩ ⟨r1, by show 8 + (maxL + 11) + 64 * d ≤ R.locals; omega⟩) ⟨zblind G h _, ?_, zpre (args := args) ((.ref b :: As).map (zc G)) hP hK hX hS hsz⟩ rfl (by rw [List.length_map]; exact hn) hl.1 ?_ (lv_room (by rw [zcat_sum]; exact hw)) hd ⟨by omega, by omega⟩) hS (by omega) (fun H1 locs1 hP1 hS1 hN1 => ?_)
      · simp only [wsV, List.mem_append, List.mem_cons, List.not_mem_nil, or_false] at hw
        rcases hw with (rfl | rfl | rfl | rfl) | hw
        · exact hlk
        · exact v2
        · exact v3
        · exact v4
        · exact ((zws_good v1) w hw).1
      · have h9 := va_recv hK hP.1 v5 ((zws_at G h hq.1).trans (by rw [zE_obj G hq.2 (zc20 v5)]))
        rw [v6] at h9
        exact h9
      · rw [hst]; simp [List.map_append, List.map_reverse, zc]
      · exact kk G _ r h2 hf p e s m args below meth cd H1 locs1 _ _ R ls Fx ⟨r1, r2, by omega, by omega, hN1⟩ hP1 hS1 hl
    · cases hf
  · cases hf
theorem zco_Wv {S0 : List Value} {As : List Value} {b c idx n mc ms maxL : Nat} {y : MethodName} {cc : ByteArray} {ret : Option FieldType} {host : String} (hv : zVM y cc maxL ret n c) (hM : zMet l d mc ms y cc maxL ret (.ref b :: As) g) (hlk : Cond.methodLinkNest mi.1 idx y host ∈ z_nest) (hst : S0 = As.reverse ++ .ref b :: S) (hn : As.length = n) (hw : (S.map fun v => v.category).sum ≤ 8) (hd : decode mi.2.1 pc = .ok (.invokevirtual idx, 3)) (kk : zCo l (d + 1) rc rs mi (pc + 3) L (S) (f)) : zCo l (d + 1) (rc + mc) (rs + ms) mi pc L S0 (z_rc c b (z_cv g f)) := by
  intro G h r h2 hf p e s m args below meth cd H locs cells slots R ls Fx hR hP hS hl
  obtain ⟨hx, hb, hml, hr, hown, hlocks, hin, hts, hK, hX, hB⟩ := id Fx
  obtain ⟨v1, v2, v3, v4, ⟨q, v5, v6⟩, v7, v8⟩ := hv
  unfold z_rc at hf
  split at hf
  · rename_i hq
    unfold z_cv at hf
    split at hf
    · rename_i hg
      obtain ⟨r1, r2, r3, r4, r5⟩ := hR
      refine W_sized fun hz => ?_
      have hsz := z_size hP hS hB r5 hz
      refine z_back (mc := mc) (ms := ms) (va_runVN (C := y.cls) (As := As.map (zc G)) (rest := S.map (zc G)) ⟨hx, hb, hml, hown, hts⟩ (hM G h _ _ hg) ⟨va_cnB n hts (zws_good v1) rfl rfl rfl (hX.2.2.1 _ hlk) (hts _ v4) v7 ⟨r1, by show 8 + (maxL + 11) + 64 * d ≤ R.locals; omega⟩, hts _ v2, hts _ v3⟩ ⟨zblind G h _, ?_, zpre (args := args) ((.ref b :: As).map (zc G)) hP hK hX hS hsz⟩ rfl (by rw [List.length_map]; exact hn) hl.1 ?_ (lv_room (by rw [zcat_sum]; exact hw)) hd ⟨by omega, by omega⟩) hS (by omega) (fun H1 locs1 hP1 hS1 hN1 => ?_)
      · have h9 := va_recv hK hP.1 v5 ((zws_at G h hq.1).trans (by rw [zE_obj G hq.2 (zc20 v5)]))
        rw [v6] at h9
        exact h9
      · rw [hst]; simp [List.map_append, List.map_reverse, zc]
      · exact kk G _ r h2 hf p e s m args below meth cd H1 locs1 _ _ R ls Fx ⟨r1, r2, by omega, by omega, hN1⟩ hP1 hS1 hl
    · cases hf
  · cases hf
theorem zco_Sv {S0 : List Value} {As : List Value} {idx n mc ms maxL : Nat} {y : MethodName} {cc : ByteArray} {ret : Option FieldType} (hv : zSM y cc maxL ret n) (hM : zMet l d mc ms y cc maxL ret As g) (hlk : Cond.methodLink mi.1 idx y ∈ tb) (hst : S0 = As.reverse ++ S) (hn : As.length = n) (hw : (S.map fun v => v.category).sum ≤ 8) (hd : decode mi.2.1 pc = .ok (.invokestatic idx, 3)) (kk : zCo l (d + 1) rc rs mi (pc + 3) L (S) (f)) : zCo l (d + 1) (rc + mc) (rs + ms) mi pc L S0 (z_cv g f) := by
  intro G h r h2 hf p e s m args below meth cd H locs cells slots R ls Fx hR hP hS hl
  obtain ⟨hx, hb, hml, hr, hown, hlocks, hin, hts, hK, hX, hB⟩ := id Fx
  obtain ⟨v1, v2, v3, v4, v8⟩ := hv
  unfold z_cv at hf
  split at hf
  · rename_i hg
    obtain ⟨r1, r2, r3, r4, r5⟩ := hR
    refine W_sized fun hz => ?_
    have hsz := z_size hP hS hB r5 hz
    refine z_back (mc := mc) (ms := ms) (va_runS (As := As.map (zc G)) (rest := S.map (zc G)) ⟨hx, hb, hml, hown, hts⟩ (hM G h _ _ hg) ⟨callB_of n hts (zws_good v1) rfl rfl rfl (hts _ v3) (hts _ hlk) v4 ⟨r1, by show 8 + (maxL + 11) + 64 * d ≤ R.locals; omega⟩, hts _ v2⟩ ⟨zblind G h _, zpre (args := args) (As.map (zc G)) hP hK hX hS hsz⟩ rfl (by rw [List.length_map]; exact hn) hl.1 ?_ (lv_room (by rw [zcat_sum]; exact hw)) hd ⟨by omega, by omega⟩) hS (by omega) (fun H1 locs1 hP1 hS1 hN1 => ?_)
    · rw [hst]; simp [List.map_append, List.map_reverse]
    · exact kk G _ r h2 hf p e s m args below meth cd H1 locs1 _ _ R ls Fx ⟨r1, r2, by omega, by omega, hN1⟩ hP1 hS1 hl
  · cases hf
theorem zco_Nv {S0 : List Value} {As : List Value} {idx n mc ms maxL : Nat} {y : MethodName} {cc : ByteArray} {ret : Option FieldType} (hv : zSM y cc maxL ret n) (hM : zMet l d mc ms y cc maxL ret As g) {host : String} (hlk : Cond.methodLinkNest mi.1 idx y host ∈ z_nest) (hst : S0 = As.reverse ++ S) (hn : As.length = n) (hw : (S.map fun v => v.category).sum ≤ 8) (hd : decode mi.2.1 pc = .ok (.invokestatic idx, 3)) (kk : zCo l (d + 1) rc rs mi (pc + 3) L (S) (f)) : zCo l (d + 1) (rc + mc) (rs + ms) mi pc L S0 (z_cv g f) := by
  intro G h r h2 hf p e s m args below meth cd H locs cells slots R ls Fx hR hP hS hl
  obtain ⟨hx, hb, hml, hr, hown, hlocks, hin, hts, hK, hX, hB⟩ := id Fx
  obtain ⟨v1, v2, v3, v4, v8⟩ := hv
  unfold z_cv at hf
  split at hf
  · rename_i hg
    obtain ⟨r1, r2, r3, r4, r5⟩ := hR
    refine W_sized fun hz => ?_
    have hsz := z_size hP hS hB r5 hz
    refine z_back (mc := mc) (ms := ms) (va_runSN (As := As.map (zc G)) (rest := S.map (zc G)) ⟨hx, hb, hml, hown, hts⟩ (hM G h _ _ hg) ⟨va_cnB n hts (zws_good v1) rfl rfl rfl (hX.2.2.1 _ hlk) (hts _ v3) v4 ⟨r1, by show 8 + (maxL + 11) + 64 * d ≤ R.locals; omega⟩, hts _ v2, trivial⟩ ⟨zblind G h _, zpre (args := args) (As.map (zc G)) hP hK hX hS hsz⟩ rfl (by rw [List.length_map]; exact hn) hl.1 ?_ (lv_room (by rw [zcat_sum]; exact hw)) hd ⟨by omega, by omega⟩) hS (by omega) (fun H1 locs1 hP1 hS1 hN1 => ?_)
    · rw [hst]; simp [List.map_append, List.map_reverse]
    · exact kk G _ r h2 hf p e s m args below meth cd H1 locs1 _ _ R ls Fx ⟨r1, r2, by omega, by omega, hN1⟩ hP1 hS1 hl
  · cases hf
theorem zco_Vi {F : Int32 → zM} {S0 : List Value} {As : List Value} {b c idx n mc ms maxL : Nat} {y : MethodName} {cc : ByteArray} {ret : Option FieldType} (hv : zVM y cc maxL ret n c) (hM : zMet l d mc ms y cc maxL ret (.ref b :: As) g) (hlk : Cond.methodLink mi.1 idx y ∈ tb) (hst : S0 = As.reverse ++ .ref b :: S) (hn : As.length = n) (hw : (S.map fun v => v.category).sum ≤ 8) (hd : decode mi.2.1 pc = .ok (.invokevirtual idx, 3)) (kk : ∀ x : Int32, zCo l (d + 1) rc rs mi (pc + 3) L (.int x :: S) (F x)) : zCo l (d + 1) (rc + mc) (rs + ms) mi pc L S0 (z_rc c b (z_ci g F)) := by
  intro G h r h2 hf p e s m args below meth cd H locs cells slots R ls Fx hR hP hS hl
  obtain ⟨hx, hb, hml, hr, hown, hlocks, hin, hts, hK, hX, hB⟩ := id Fx
  obtain ⟨v1, v2, v3, v4, ⟨q, v5, v6⟩, v7, v8⟩ := hv
  unfold z_rc at hf
  split at hf
  · rename_i hq
    unfold z_ci at hf
    split at hf
    · rename_i hg
      obtain ⟨r1, r2, r3, r4, r5⟩ := hR
      refine W_sized fun hz => ?_
      have hsz := z_size hP hS hB r5 hz
      refine z_back (mc := mc) (ms := ms) (va_runV (C := y.cls) (As := As.map (zc G)) (rest := S.map (zc G)) ⟨hx, hb, hml, hown, hts⟩ (hM G h _ _ hg) (cwV n hts (fun w hw => tb_good w ?_) rfl rfl rfl ⟨rfl, v7⟩ ⟨r1, by show 8 + (maxL + 11) + 64 * d ≤ R.locals; omega⟩) ⟨zblind G h _, ?_, zpre (args := args) ((.ref b :: As).map (zc G)) hP hK hX hS hsz⟩ rfl (by rw [List.length_map]; exact hn) hl.1 ?_ (lv_room (by rw [zcat_sum]; exact hw)) hd ⟨by omega, by omega⟩) hS (by omega) (fun H1 locs1 hP1 hS1 hN1 => ?_)
      · simp only [wsV, List.mem_append, List.mem_cons, List.not_mem_nil, or_false] at hw
        rcases hw with (rfl | rfl | rfl | rfl) | hw
        · exact hlk
        · exact v2
        · exact v3
        · exact v4
        · exact ((zws_good v1) w hw).1
      · have h9 := va_recv hK hP.1 v5 ((zws_at G h hq.1).trans (by rw [zE_obj G hq.2 (zc20 v5)]))
        rw [v6] at h9
        exact h9
      · rw [hst]; simp [List.map_append, List.map_reverse, zc]
      · exact kk _ G _ r h2 hf p e s m args below meth cd H1 locs1 _ _ R ls Fx ⟨r1, r2, by omega, by omega, hN1⟩ hP1 hS1 hl
    · cases hf
  · cases hf
theorem zco_Si {F : Int32 → zM} {S0 : List Value} {As : List Value} {idx n mc ms maxL : Nat} {y : MethodName} {cc : ByteArray} {ret : Option FieldType} (hv : zSM y cc maxL ret n) (hM : zMet l d mc ms y cc maxL ret As g) (hlk : Cond.methodLink mi.1 idx y ∈ tb) (hst : S0 = As.reverse ++ S) (hn : As.length = n) (hw : (S.map fun v => v.category).sum ≤ 8) (hd : decode mi.2.1 pc = .ok (.invokestatic idx, 3)) (kk : ∀ x : Int32, zCo l (d + 1) rc rs mi (pc + 3) L (.int x :: S) (F x)) : zCo l (d + 1) (rc + mc) (rs + ms) mi pc L S0 (z_ci g F) := by
  intro G h r h2 hf p e s m args below meth cd H locs cells slots R ls Fx hR hP hS hl
  obtain ⟨hx, hb, hml, hr, hown, hlocks, hin, hts, hK, hX, hB⟩ := id Fx
  obtain ⟨v1, v2, v3, v4, v8⟩ := hv
  unfold z_ci at hf
  split at hf
  · rename_i hg
    obtain ⟨r1, r2, r3, r4, r5⟩ := hR
    refine W_sized fun hz => ?_
    have hsz := z_size hP hS hB r5 hz
    refine z_back (mc := mc) (ms := ms) (va_runS (As := As.map (zc G)) (rest := S.map (zc G)) ⟨hx, hb, hml, hown, hts⟩ (hM G h _ _ hg) ⟨callB_of n hts (zws_good v1) rfl rfl rfl (hts _ v3) (hts _ hlk) v4 ⟨r1, by show 8 + (maxL + 11) + 64 * d ≤ R.locals; omega⟩, hts _ v2⟩ ⟨zblind G h _, zpre (args := args) (As.map (zc G)) hP hK hX hS hsz⟩ rfl (by rw [List.length_map]; exact hn) hl.1 ?_ (lv_room (by rw [zcat_sum]; exact hw)) hd ⟨by omega, by omega⟩) hS (by omega) (fun H1 locs1 hP1 hS1 hN1 => ?_)
    · rw [hst]; simp [List.map_append, List.map_reverse]
    · exact kk _ G _ r h2 hf p e s m args below meth cd H1 locs1 _ _ R ls Fx ⟨r1, r2, by omega, by omega, hN1⟩ hP1 hS1 hl
  · cases hf
theorem zco_Ni {F : Int32 → zM} {S0 : List Value} {As : List Value} {idx n mc ms maxL : Nat} {y : MethodName} {cc : ByteArray} {ret : Option FieldType} (hv : zSM y cc maxL ret n) (hM : zMet l d mc ms y cc maxL ret As g) {host : String} (hlk : Cond.methodLinkNest mi.1 idx y host ∈ z_nest) (hst : S0 = As.reverse ++ S) (hn : As.length = n) (hw : (S.map fun v => v.category).sum ≤ 8) (hd : decode mi.2.1 pc = .ok (.invokestatic idx, 3)) (kk : ∀ x : Int32, zCo l (d + 1) rc rs mi (pc + 3) L (.int x :: S) (F x)) : zCo l (d + 1) (rc + mc) (rs + ms) mi pc L S0 (z_ci g F) := by
  intro G h r h2 hf p e s m args below meth cd H locs cells slots R ls Fx hR hP hS hl
  obtain ⟨hx, hb, hml, hr, hown, hlocks, hin, hts, hK, hX, hB⟩ := id Fx
  obtain ⟨v1, v2, v3, v4, v8⟩ := hv
  unfold z_ci at hf
  split at hf
  · rename_i hg
    obtain ⟨r1, r2, r3, r4, r5⟩ := hR
    refine W_sized fun hz => ?_
    have hsz := z_size hP hS hB r5 hz
    refine z_back (mc := mc) (ms := ms) (va_runSN (As := As.map (zc G)) (rest := S.map (zc G)) ⟨hx, hb, hml, hown, hts⟩ (hM G h _ _ hg) ⟨va_cnB n hts (zws_good v1) rfl rfl rfl (hX.2.2.1 _ hlk) (hts _ v3) v4 ⟨r1, by show 8 + (maxL + 11) + 64 * d ≤ R.locals; omega⟩, hts _ v2, trivial⟩ ⟨zblind G h _, zpre (args := args) (As.map (zc G)) hP hK hX hS hsz⟩ rfl (by rw [List.length_map]; exact hn) hl.1 ?_ (lv_room (by rw [zcat_sum]; exact hw)) hd ⟨by omega, by omega⟩) hS (by omega) (fun H1 locs1 hP1 hS1 hN1 => ?_)
    · rw [hst]; simp [List.map_append, List.map_reverse]
    · exact kk _ G _ r h2 hf p e s m args below meth cd H1 locs1 _ _ R ls Fx ⟨r1, r2, by omega, by omega, hN1⟩ hP1 hS1 hl
  · cases hf
theorem zco_Vl {F : Int64 → zM} {S0 : List Value} {As : List Value} {b c idx n mc ms maxL : Nat} {y : MethodName} {cc : ByteArray} {ret : Option FieldType} (hv : zVM y cc maxL ret n c) (hM : zMet l d mc ms y cc maxL ret (.ref b :: As) g) (hlk : Cond.methodLink mi.1 idx y ∈ tb) (hst : S0 = As.reverse ++ .ref b :: S) (hn : As.length = n) (hw : (S.map fun v => v.category).sum ≤ 8) (hd : decode mi.2.1 pc = .ok (.invokevirtual idx, 3)) (kk : ∀ x : Int64, zCo l (d + 1) rc rs mi (pc + 3) L (.long x :: S) (F x)) : zCo l (d + 1) (rc + mc) (rs + ms) mi pc L S0 (z_rc c b (z_cl g F)) := by
  intro G h r h2 hf p e s m args below meth cd H locs cells slots R ls Fx hR hP hS hl
  obtain ⟨hx, hb, hml, hr, hown, hlocks, hin, hts, hK, hX, hB⟩ := id Fx
  obtain ⟨v1, v2, v3, v4, ⟨q, v5, v6⟩, v7, v8⟩ := hv
  unfold z_rc at hf
  split at hf
  · rename_i hq
    unfold z_cl at hf
    split at hf
    · rename_i hg
      obtain ⟨r1, r2, r3, r4, r5⟩ := hR
      refine W_sized fun hz => ?_
      have hsz := z_size hP hS hB r5 hz
      refine z_back (mc := mc) (ms := ms) (va_runV (C := y.cls) (As := As.map (zc G)) (rest := S.map (zc G)) ⟨hx, hb, hml, hown, hts⟩ (hM G h _ _ hg) (cwV n hts (fun w hw => tb_good w ?_) rfl rfl rfl ⟨rfl, v7⟩ ⟨r1, by show 8 + (maxL + 11) + 64 * d ≤ R.locals; omega⟩) ⟨zblind G h _, ?_, zpre (args := args) ((.ref b :: As).map (zc G)) hP hK hX hS hsz⟩ rfl (by rw [List.length_map]; exact hn) hl.1 ?_ (lv_room (by rw [zcat_sum]; exact hw)) hd ⟨by omega, by omega⟩) hS (by omega) (fun H1 locs1 hP1 hS1 hN1 => ?_)
      · simp only [wsV, List.mem_append, List.mem_cons, List.not_mem_nil, or_false] at hw
        rcases hw with (rfl | rfl | rfl | rfl) | hw
        · exact hlk
        · exact v2
        · exact v3
        · exact v4
        · exact ((zws_good v1) w hw).1
      · have h9 := va_recv hK hP.1 v5 ((zws_at G h hq.1).trans (by rw [zE_obj G hq.2 (zc20 v5)]))
        rw [v6] at h9
        exact h9
      · rw [hst]; simp [List.map_append, List.map_reverse, zc]
      · exact kk _ G _ r h2 hf p e s m args below meth cd H1 locs1 _ _ R ls Fx ⟨r1, r2, by omega, by omega, hN1⟩ hP1 hS1 hl
    · cases hf
  · cases hf
theorem zco_Sl {F : Int64 → zM} {S0 : List Value} {As : List Value} {idx n mc ms maxL : Nat} {y : MethodName} {cc : ByteArray} {ret : Option FieldType} (hv : zSM y cc maxL ret n) (hM : zMet l d mc ms y cc maxL ret As g) (hlk : Cond.methodLink mi.1 idx y ∈ tb) (hst : S0 = As.reverse ++ S) (hn : As.length = n) (hw : (S.map fun v => v.category).sum ≤ 8) (hd : decode mi.2.1 pc = .ok (.invokestatic idx, 3)) (kk : ∀ x : Int64, zCo l (d + 1) rc rs mi (pc + 3) L (.long x :: S) (F x)) : zCo l (d + 1) (rc + mc) (rs + ms) mi pc L S0 (z_cl g F) := by
  intro G h r h2 hf p e s m args below meth cd H locs cells slots R ls Fx hR hP hS hl
  obtain ⟨hx, hb, hml, hr, hown, hlocks, hin, hts, hK, hX, hB⟩ := id Fx
  obtain ⟨v1, v2, v3, v4, v8⟩ := hv
  unfold z_cl at hf
  split at hf
  · rename_i hg
    obtain ⟨r1, r2, r3, r4, r5⟩ := hR
    refine W_sized fun hz => ?_
    have hsz := z_size hP hS hB r5 hz
    refine z_back (mc := mc) (ms := ms) (va_runS (As := As.map (zc G)) (rest := S.map (zc G)) ⟨hx, hb, hml, hown, hts⟩ (hM G h _ _ hg) ⟨callB_of n hts (zws_good v1) rfl rfl rfl (hts _ v3) (hts _ hlk) v4 ⟨r1, by show 8 + (maxL + 11) + 64 * d ≤ R.locals; omega⟩, hts _ v2⟩ ⟨zblind G h _, zpre (args := args) (As.map (zc G)) hP hK hX hS hsz⟩ rfl (by rw [List.length_map]; exact hn) hl.1 ?_ (lv_room (by rw [zcat_sum]; exact hw)) hd ⟨by omega, by omega⟩) hS (by omega) (fun H1 locs1 hP1 hS1 hN1 => ?_)
    · rw [hst]; simp [List.map_append, List.map_reverse]
    · exact kk _ G _ r h2 hf p e s m args below meth cd H1 locs1 _ _ R ls Fx ⟨r1, r2, by omega, by omega, hN1⟩ hP1 hS1 hl
  · cases hf
theorem zco_Nl {F : Int64 → zM} {S0 : List Value} {As : List Value} {idx n mc ms maxL : Nat} {y : MethodName} {cc : ByteArray} {ret : Option FieldType} (hv : zSM y cc maxL ret n) (hM : zMet l d mc ms y cc maxL ret As g) {host : String} (hlk : Cond.methodLinkNest mi.1 idx y host ∈ z_nest) (hst : S0 = As.reverse ++ S) (hn : As.length = n) (hw : (S.map fun v => v.category).sum ≤ 8) (hd : decode mi.2.1 pc = .ok (.invokestatic idx, 3)) (kk : ∀ x : Int64, zCo l (d + 1) rc rs mi (pc + 3) L (.long x :: S) (F x)) : zCo l (d + 1) (rc + mc) (rs + ms) mi pc L S0 (z_cl g F) := by
  intro G h r h2 hf p e s m args below meth cd H locs cells slots R ls Fx hR hP hS hl
  obtain ⟨hx, hb, hml, hr, hown, hlocks, hin, hts, hK, hX, hB⟩ := id Fx
  obtain ⟨v1, v2, v3, v4, v8⟩ := hv
  unfold z_cl at hf
  split at hf
  · rename_i hg
    obtain ⟨r1, r2, r3, r4, r5⟩ := hR
    refine W_sized fun hz => ?_
    have hsz := z_size hP hS hB r5 hz
    refine z_back (mc := mc) (ms := ms) (va_runSN (As := As.map (zc G)) (rest := S.map (zc G)) ⟨hx, hb, hml, hown, hts⟩ (hM G h _ _ hg) ⟨va_cnB n hts (zws_good v1) rfl rfl rfl (hX.2.2.1 _ hlk) (hts _ v3) v4 ⟨r1, by show 8 + (maxL + 11) + 64 * d ≤ R.locals; omega⟩, hts _ v2, trivial⟩ ⟨zblind G h _, zpre (args := args) (As.map (zc G)) hP hK hX hS hsz⟩ rfl (by rw [List.length_map]; exact hn) hl.1 ?_ (lv_room (by rw [zcat_sum]; exact hw)) hd ⟨by omega, by omega⟩) hS (by omega) (fun H1 locs1 hP1 hS1 hN1 => ?_)
    · rw [hst]; simp [List.map_append, List.map_reverse]
    · exact kk _ G _ r h2 hf p e s m args below meth cd H1 locs1 _ _ R ls Fx ⟨r1, r2, by omega, by omega, hN1⟩ hP1 hS1 hl
  · cases hf
theorem zco_Vr {F : Nat → zM} {S0 : List Value} {As : List Value} {b c idx n mc ms maxL : Nat} {y : MethodName} {cc : ByteArray} {ret : Option FieldType} (hv : zVM y cc maxL ret n c) (hM : zMet l d mc ms y cc maxL ret (.ref b :: As) g) (hlk : Cond.methodLink mi.1 idx y ∈ tb) (hst : S0 = As.reverse ++ .ref b :: S) (hn : As.length = n) (hw : (S.map fun v => v.category).sum ≤ 8) (hd : decode mi.2.1 pc = .ok (.invokevirtual idx, 3)) (kk : ∀ x : Nat, zCo l (d + 1) rc rs mi (pc + 3) L (.ref x :: S) (F x)) : zCo l (d + 1) (rc + mc) (rs + ms) mi pc L S0 (z_rc c b (z_cr g F)) := by
  intro G h r h2 hf p e s m args below meth cd H locs cells slots R ls Fx hR hP hS hl
  obtain ⟨hx, hb, hml, hr, hown, hlocks, hin, hts, hK, hX, hB⟩ := id Fx
  obtain ⟨v1, v2, v3, v4, ⟨q, v5, v6⟩, v7, v8⟩ := hv
  unfold z_rc at hf
  split at hf
  · rename_i hq
    unfold z_cr at hf
    split at hf
    · rename_i hg
      obtain ⟨r1, r2, r3, r4, r5⟩ := hR
      refine W_sized fun hz => ?_
      have hsz := z_size hP hS hB r5 hz
      refine z_back (mc := mc) (ms := ms) (va_runV (C := y.cls) (As := As.map (zc G)) (rest := S.map (zc G)) ⟨hx, hb, hml, hown, hts⟩ (hM G h _ _ hg) (cwV n hts (fun w hw => tb_good w ?_) rfl rfl rfl ⟨rfl, v7⟩ ⟨r1, by show 8 + (maxL + 11) + 64 * d ≤ R.locals; omega⟩) ⟨zblind G h _, ?_, zpre (args := args) ((.ref b :: As).map (zc G)) hP hK hX hS hsz⟩ rfl (by rw [List.length_map]; exact hn) hl.1 ?_ (lv_room (by rw [zcat_sum]; exact hw)) hd ⟨by omega, by omega⟩) hS (by omega) (fun H1 locs1 hP1 hS1 hN1 => ?_)
      · simp only [wsV, List.mem_append, List.mem_cons, List.not_mem_nil, or_false] at hw
        rcases hw with (rfl | rfl | rfl | rfl) | hw
        · exact hlk
        · exact v2
        · exact v3
        · exact v4
        · exact ((zws_good v1) w hw).1
      · have h9 := va_recv hK hP.1 v5 ((zws_at G h hq.1).trans (by rw [zE_obj G hq.2 (zc20 v5)]))
        rw [v6] at h9
        exact h9
      · rw [hst]; simp [List.map_append, List.map_reverse, zc]
      · exact kk _ G _ r h2 hf p e s m args below meth cd H1 locs1 _ _ R ls Fx ⟨r1, r2, by omega, by omega, hN1⟩ hP1 hS1 hl
    · cases hf
  · cases hf
theorem zco_Sr {F : Nat → zM} {S0 : List Value} {As : List Value} {idx n mc ms maxL : Nat} {y : MethodName} {cc : ByteArray} {ret : Option FieldType} (hv : zSM y cc maxL ret n) (hM : zMet l d mc ms y cc maxL ret As g) (hlk : Cond.methodLink mi.1 idx y ∈ tb) (hst : S0 = As.reverse ++ S) (hn : As.length = n) (hw : (S.map fun v => v.category).sum ≤ 8) (hd : decode mi.2.1 pc = .ok (.invokestatic idx, 3)) (kk : ∀ x : Nat, zCo l (d + 1) rc rs mi (pc + 3) L (.ref x :: S) (F x)) : zCo l (d + 1) (rc + mc) (rs + ms) mi pc L S0 (z_cr g F) := by
  intro G h r h2 hf p e s m args below meth cd H locs cells slots R ls Fx hR hP hS hl
  obtain ⟨hx, hb, hml, hr, hown, hlocks, hin, hts, hK, hX, hB⟩ := id Fx
  obtain ⟨v1, v2, v3, v4, v8⟩ := hv
  unfold z_cr at hf
  split at hf
  · rename_i hg
    obtain ⟨r1, r2, r3, r4, r5⟩ := hR
    refine W_sized fun hz => ?_
    have hsz := z_size hP hS hB r5 hz
    refine z_back (mc := mc) (ms := ms) (va_runS (As := As.map (zc G)) (rest := S.map (zc G)) ⟨hx, hb, hml, hown, hts⟩ (hM G h _ _ hg) ⟨callB_of n hts (zws_good v1) rfl rfl rfl (hts _ v3) (hts _ hlk) v4 ⟨r1, by show 8 + (maxL + 11) + 64 * d ≤ R.locals; omega⟩, hts _ v2⟩ ⟨zblind G h _, zpre (args := args) (As.map (zc G)) hP hK hX hS hsz⟩ rfl (by rw [List.length_map]; exact hn) hl.1 ?_ (lv_room (by rw [zcat_sum]; exact hw)) hd ⟨by omega, by omega⟩) hS (by omega) (fun H1 locs1 hP1 hS1 hN1 => ?_)
    · rw [hst]; simp [List.map_append, List.map_reverse]
    · exact kk _ G _ r h2 hf p e s m args below meth cd H1 locs1 _ _ R ls Fx ⟨r1, r2, by omega, by omega, hN1⟩ hP1 hS1 hl
  · cases hf
theorem zco_Nr {F : Nat → zM} {S0 : List Value} {As : List Value} {idx n mc ms maxL : Nat} {y : MethodName} {cc : ByteArray} {ret : Option FieldType} (hv : zSM y cc maxL ret n) (hM : zMet l d mc ms y cc maxL ret As g) {host : String} (hlk : Cond.methodLinkNest mi.1 idx y host ∈ z_nest) (hst : S0 = As.reverse ++ S) (hn : As.length = n) (hw : (S.map fun v => v.category).sum ≤ 8) (hd : decode mi.2.1 pc = .ok (.invokestatic idx, 3)) (kk : ∀ x : Nat, zCo l (d + 1) rc rs mi (pc + 3) L (.ref x :: S) (F x)) : zCo l (d + 1) (rc + mc) (rs + ms) mi pc L S0 (z_cr g F) := by
  intro G h r h2 hf p e s m args below meth cd H locs cells slots R ls Fx hR hP hS hl
  obtain ⟨hx, hb, hml, hr, hown, hlocks, hin, hts, hK, hX, hB⟩ := id Fx
  obtain ⟨v1, v2, v3, v4, v8⟩ := hv
  unfold z_cr at hf
  split at hf
  · rename_i hg
    obtain ⟨r1, r2, r3, r4, r5⟩ := hR
    refine W_sized fun hz => ?_
    have hsz := z_size hP hS hB r5 hz
    refine z_back (mc := mc) (ms := ms) (va_runSN (As := As.map (zc G)) (rest := S.map (zc G)) ⟨hx, hb, hml, hown, hts⟩ (hM G h _ _ hg) ⟨va_cnB n hts (zws_good v1) rfl rfl rfl (hX.2.2.1 _ hlk) (hts _ v3) v4 ⟨r1, by show 8 + (maxL + 11) + 64 * d ≤ R.locals; omega⟩, hts _ v2, trivial⟩ ⟨zblind G h _, zpre (args := args) (As.map (zc G)) hP hK hX hS hsz⟩ rfl (by rw [List.length_map]; exact hn) hl.1 ?_ (lv_room (by rw [zcat_sum]; exact hw)) hd ⟨by omega, by omega⟩) hS (by omega) (fun H1 locs1 hP1 hS1 hN1 => ?_)
    · rw [hst]; simp [List.map_append, List.map_reverse]
    · exact kk _ G _ r h2 hf p e s m args below meth cd H1 locs1 _ _ R ls Fx ⟨r1, r2, by omega, by omega, hN1⟩ hP1 hS1 hl
  · cases hf
theorem zco_I {S0 : List Value} {As : List Value} {b idx n mc ms maxL : Nat} {y : MethodName} {cc : ByteArray} (hv : zIM y cc maxL n) (hM : zMet l d mc ms y cc maxL none (.ref b :: As) g) (hlk : Cond.methodLink mi.1 idx y ∈ tb) (hst : S0 = As.reverse ++ .ref b :: S) (hn : As.length = n) (hw : (S.map fun v => v.category).sum ≤ 8) (hd : decode mi.2.1 pc = .ok (.invokespecial idx, 3)) (kk : zCo l (d + 1) rc rs mi (pc + 3) L S f) : zCo l (d + 1) (rc + mc) (rs + ms) mi pc L S0 (z_cv g f) := by
  intro G h r h2 hf p e s m args below meth cd H locs cells slots R ls Fx hR hP hS hl
  obtain ⟨hx, hb, hml, hr, hown, hlocks, hin, hts, hK, hX, hB⟩ := id Fx
  obtain ⟨v1, v2, v3, v5, v4, v8⟩ := hv
  unfold z_cv at hf
  split at hf
  · rename_i hg
    obtain ⟨r1, r2, r3, r4, r5⟩ := hR
    refine W_sized fun hz => ?_
    have hsz := z_size hP hS hB r5 hz
    refine z_back (mc := mc) (ms := ms) (va_runI (As := As.map (zc G)) (rest := S.map (zc G)) ⟨hx, hb, hml, hown, hts⟩ (hM G h _ _ hg) (cwI n hts (zws_good v1) rfl rfl rfl (hts _ v3) (hts _ hlk) (hts _ v2) v5 v4 ⟨r1, by show 8 + (maxL + 11) + 64 * d ≤ R.locals; omega⟩) ⟨zblind G h _, zpre (args := args) ((.ref b :: As).map (zc G)) hP hK hX hS hsz⟩ rfl (by rw [List.length_map]; exact hn) hl.1 ?_ (lv_room (by rw [zcat_sum]; exact hw)) hd ⟨by omega, by omega⟩) hS (by omega) (fun H1 locs1 hP1 hS1 hN1 => ?_)
    · rw [hst]; simp [List.map_append, List.map_reverse, zc]
    · exact kk G _ r h2 hf p e s m args below meth cd H1 locs1 _ _ R ls Fx ⟨r1, r2, by omega, by omega, hN1⟩ hP1 hS1 hl
  · cases hf
theorem zco_J {S0 : List Value} {As : List Value} {b idx n mc ms maxL : Nat} {y : MethodName} {cc : ByteArray} (hv : zIM y cc maxL n) (hM : zMet l d mc ms y cc maxL none (.ref b :: As) g) {host : String} (hlk : Cond.methodLinkNest mi.1 idx y host ∈ z_nest) (hst : S0 = As.reverse ++ .ref b :: S) (hn : As.length = n) (hw : (S.map fun v => v.category).sum ≤ 8) (hd : decode mi.2.1 pc = .ok (.invokespecial idx, 3)) (kk : zCo l (d + 1) rc rs mi (pc + 3) L S f) : zCo l (d + 1) (rc + mc) (rs + ms) mi pc L S0 (z_cv g f) := by
  intro G h r h2 hf p e s m args below meth cd H locs cells slots R ls Fx hR hP hS hl
  obtain ⟨hx, hb, hml, hr, hown, hlocks, hin, hts, hK, hX, hB⟩ := id Fx
  obtain ⟨v1, v2, v3, v5, v4, v8⟩ := hv
  unfold z_cv at hf
  split at hf
  · rename_i hg
    obtain ⟨r1, r2, r3, r4, r5⟩ := hR
    refine W_sized fun hz => ?_
    have hsz := z_size hP hS hB r5 hz
    refine z_back (mc := mc) (ms := ms) (va_runIN (As := As.map (zc G)) (rest := S.map (zc G)) ⟨hx, hb, hml, hown, hts⟩ (hM G h _ _ hg) ⟨va_cnB n hts (zws_good v1) rfl rfl rfl (hX.2.2.1 _ hlk) (hts _ v3) v4 ⟨r1, by show 8 + (maxL + 11) + 64 * d ≤ R.locals; omega⟩, v5, hts _ v2⟩ ⟨zblind G h _, zpre (args := args) ((.ref b :: As).map (zc G)) hP hK hX hS hsz⟩ rfl (by rw [List.length_map]; exact hn) hl.1 ?_ (lv_room (by rw [zcat_sum]; exact hw)) hd ⟨by omega, by omega⟩) hS (by omega) (fun H1 locs1 hP1 hS1 hN1 => ?_)
    · rw [hst]; simp [List.map_append, List.map_reverse, zc]
    · exact kk G _ r h2 hf p e s m args below meth cd H1 locs1 _ _ R ls Fx ⟨r1, r2, by omega, by omega, hN1⟩ hP1 hS1 hl
  · cases hf
theorem lv_args_map (G : zG) : ∀ (av : List Value) (i : Nat), lv_args i (av.map (zc G)) = (lv_args i av).map (zcp G) := by
  intro av
  induction av with
  | nil => intro i; rfl
  | cons v av ih =>
    intro i
    simp only [List.map_cons, lv_args, zc_cat, ih]
    rfl
theorem z_lglen (G : zG) : ∀ av : List Value, (lg_sl (av.map (zc G))).length = (av.map fun v => v.category).sum := by
  intro av
  induction av with
  | nil => rfl
  | cons v av ih =>
    simp only [lg_sl, List.map_cons, List.flatMap_cons, List.length_append, List.sum_cons, zc_cat] at ih ⊢
    rw [ih]
    congr 1
    cases v <;> rfl
theorem zmet_of {y : MethodName} {own : String} {cc : ByteArray} {maxL : Nat} {ret : Option FieldType} {ini : Bool} {av : List Value} (hy : plainFor y = true) (ho : y.cls = own) (hi : ini = true → y.name = "<init>") (hlen : (av.map fun v => v.category).sum ≤ maxL) (hco : zCo l d rc rs (own, cc, maxL, ret, ini) 0 (lv_args 0 av) [] g) : zMet l d rc rs y cc maxL ret av g := by
  intro G h r h2 hf
  refine MetFree.of_bodySF (code := cc) (maxLocals := maxL) (ret := ret) hy ?_ ?_
  · intro args s m h hn
    obtain ⟨meth, c, h1, h2, h3, h4, h5, h6, -, -⟩ := Cond.code_spec hn (atoms_spec (ws := z_ws y cc maxL ret) h _ List.mem_cons_self)
    exact ⟨meth, c, h1, h2, h3, h4, h5, h6⟩
  · intro p e s m args below meth c s₁ B hml hv _
    obtain ⟨rfl, hP, hK, hX, hsz⟩ := hv
    have hts := atoms_spec (ws := z_ws y cc maxL ret) B.pre
    have hown : s.vm.findClass own = some m.cls := by rw [← ho]; exact findClass_of_methodNamed B.named
    have hlen2 : (lg_sl (av.map (zc G))).length ≤ maxL := Nat.le_trans (Nat.le_of_eq (z_lglen G av)) hlen
    have hl := lv_entry (av.map (zc G)) (n := maxL) hlen2
    rw [lv_args_map] at hl
    have K := hco G h r h2 hf p e s m _ below meth c s.heap [] 0 0 ({ frames := d, cells := rc, slots := rs, locals := 64 * d } : Room) _ ⟨B.exec, B.bytes, hml, B.returns, hown, B.notSynchronized, fun hq => by rw [(name_of_methodNamed B.named B.method).1]; exact hi hq, fun w hw => hts w (List.mem_cons_of_mem _ hw), hK, hX, by omega⟩ ⟨Nat.le_refl _, Nat.le_refl _, by show 0 + rc = rc; omega, by show 0 + rs = rs; omega, by omega⟩ hP va_S.rf hl
    have hh0 : s₁.heap = s.heap := by rw [B.state]; rfl
    obtain ⟨t, a1, o, b1, b2, b3⟩ := K s₁ hh0 (Stand.of_body B)
    refine ⟨t, o, ?_, b1, b2, b3⟩
    rw [lg_entry_eq]
    exact a1

theorem zco_obj {a idx : Nat} (hd1 : 1 ≤ d) (hlk : Cond.methodLink mi.1 idx Lib.objectInit ∈ tb) (hin : Cond.instanceMethod Lib.objectInit ∈ tb) (hco : Cond.code Lib.objectInit ⟨#[0xb1]⟩ 1 none ∈ tb) (hw : (S.map fun v => v.category).sum ≤ 8) (hd : decode mi.2.1 pc = .ok (.invokespecial idx, 3)) (kk : zCo l d rc rs mi (pc + 3) L S f) : zCo l d rc rs mi pc L (.ref a :: S) f := by
  intro G h r h2 hf p e s m args below meth cd H locs cells slots R ls Fx hR hP hS hl
  obtain ⟨hx, hb, hml, hr, hown, hlocks, hin0, hts, hK, hX, hB⟩ := id Fx
  have r1 := hR.1
  have r2 := hR.2.1
  exact W.objInit (g := F0 m pc ls ((Value.ref a :: S).map (zc G))) hx hb hown (hts _ hlk) (hts _ hin) (hts _ hco) rfl (by rw [hml]; exact hl.1) rfl hd (by omega) (by have := lv_room (m := m) (pc := pc) (ls := ls) (rest := (Value.ref a :: S).map (zc G)) (st := S.map (zc G)) (by rw [zcat_sum]; exact hw); omega) (kk G h r h2 hf p e s m args below meth cd H locs cells slots R ls Fx hR hP hS hl)
theorem z_nfw : nativeFrameWords "java/lang/System" "arraycopy" 5 ≤ 64 := by decide +kernel
theorem zCp_other (G : zG) (h : zH) (a sp b dp n : Nat) {j : Nat} (hj : j ≠ b) : zE G (zCp h a sp b dp n) j = zE G h j :=
  zE_of G rfl (by funext i; simp [gI, zCp, hj]) rfl rfl
theorem zco_copy {a b idx : Nat} {sp dp n : Int32} (hd1 : 2 ≤ d) (hlk : Cond.methodLink mi.1 idx arraycopyName ∈ tb) (hnat : Cond.native arraycopyName ∈ tb) (hstat : Cond.static arraycopyName ∈ tb) (hini : Cond.initialized "java/lang/System" ∈ tb) (hw : (S.map fun v => v.category).sum ≤ 8) (hd : decode mi.2.1 pc = .ok (.invokestatic idx, 3)) (kk : zCo l d rc rs mi (pc + 3) L S f) : zCo l d rc rs mi pc L (.int n :: .int dp :: .ref b :: .int sp :: .ref a :: S) (z_cp a sp b dp n f) := by
  intro G h r h2 hf p e s m args below meth cd H locs cells slots R ls Fx hR hP hS hl
  obtain ⟨hx, hb, hml, hr, hown, hlocks, hin, hts, hK, hX, hB⟩ := id Fx
  unfold z_cp at hf
  split at hf
  · rename_i hq
    obtain ⟨⟨q1, q2⟩, ⟨q3, q4⟩, q5, q6, q7, q8, q9⟩ := hq
    have r1 := hR.1
    have r2 := hR.2.1
    have nn : ∀ z : Int32, 0 ≤ z.toInt → ¬ z < 0 ∧ z.toInt = (z.toNatClampNeg : Int) := fun z hz => by
      refine ⟨fun h => ?_, ?_⟩
      · rw [Int32.lt_iff_toInt_lt] at h
        have : (0 : Int32).toInt = 0 := rfl
        omega
      · rw [Int32.toNatClampNeg]
        omega
    have n1 := nn sp q5
    have n2 := nn dp q6
    have n3 := nn n q7
    refine va_copyi (ty := .int) hx hb (hml.trans hl.1.symm) hown (hts _ hlk) (hts _ hnat) (hts _ hstat) (hts _ hini) hK hP.1 (zD hP.2) hS a b 0 0 ((zws_at G h q1).trans (by rw [zE_int G q2])) ((zws_at G h q3).trans (by rw [zE_int G q4])) rfl rfl rfl n1.1 n2.1 n3.1 (by omega) (by omega) (fun _ _ => rfl) (by omega) (by rw [zcat_sum]; have := z_nfw; omega) hd (fun H1 locs1 hP1 hD1 hS1 => ?_)
    refine kk G _ r h2 hf p e s m args below meth cd H1 locs1 cells slots R ls Fx hR ⟨?_, hP.2⟩ hS1 hl
    rw [zws_set G h (zCp h a sp.toNatClampNeg b dp.toNatClampNeg n.toNatClampNeg) q3 rfl (fun j hj => zCp_other G h a _ b _ _ hj) ?_] at hP1
    · exact hP1
    · rw [zE_int G (by exact q4), show gI (zCp h a sp.toNatClampNeg b dp.toNatClampNeg n.toNatClampNeg) b = va_cpy (gI h a) (gI h b) sp.toNatClampNeg dp.toNatClampNeg n.toNatClampNeg by
        funext j
        simp [gI, zCp, va_cpy]]
      rfl
  · cases hf
theorem zco_imax {x y : Int32} {idx : Nat} (hd1 : 1 ≤ d) (hlk : Cond.methodLink mi.1 idx Lib.Math.max.name ∈ tb) (hstat : Cond.static Lib.Math.max.name ∈ tb) (hini : Cond.initialized "java/lang/Math" ∈ tb) (hcode : Cond.code Lib.Math.max.name Lib.Math.max.code 2 (some .int) ∈ tb) (hw : (S.map fun v => v.category).sum ≤ 8) (hd : decode mi.2.1 pc = .ok (.invokestatic idx, 3)) (kk : zCo l d rc rs mi (pc + 3) L (.int (if x < y then y else x) :: S) f) : zCo l d rc rs mi pc L (.int y :: .int x :: S) f := by
  intro G h r h2 hf p e s m args below meth cd H locs cells slots R ls Fx hR hP hS hl
  obtain ⟨hx, hb, hml, hr, hown, hlocks, hin, hts, hK, hX, hB⟩ := id Fx
  obtain ⟨r1, r2, r3, r4, r5⟩ := id hR
  exact va_mmax hx hb (hml.trans hl.1.symm) hown (hts _ hlk) (hts _ hstat) (hts _ hini) (hts _ hcode) (by omega) (by rw [zcat_sum]; omega) (by omega) (by omega) hd (kk G h r h2 hf p e s m args below meth cd H locs cells slots R ls Fx hR hP hS hl)
theorem zco_imin {x y : Int32} {idx : Nat} (hd1 : 1 ≤ d) (hlk : Cond.methodLink mi.1 idx Lib.Math.min.name ∈ tb) (hstat : Cond.static Lib.Math.min.name ∈ tb) (hini : Cond.initialized "java/lang/Math" ∈ tb) (hcode : Cond.code Lib.Math.min.name Lib.Math.min.code 2 (some .int) ∈ tb) (hw : (S.map fun v => v.category).sum ≤ 8) (hd : decode mi.2.1 pc = .ok (.invokestatic idx, 3)) (kk : zCo l d rc rs mi (pc + 3) L (.int (if y < x then y else x) :: S) f) : zCo l d rc rs mi pc L (.int y :: .int x :: S) f := by
  intro G h r h2 hf p e s m args below meth cd H locs cells slots R ls Fx hR hP hS hl
  obtain ⟨hx, hb, hml, hr, hown, hlocks, hin, hts, hK, hX, hB⟩ := id Fx
  obtain ⟨r1, r2, r3, r4, r5⟩ := id hR
  exact va_mmin hx hb (hml.trans hl.1.symm) hown (hts _ hlk) (hts _ hstat) (hts _ hini) (hts _ hcode) (by omega) (by rw [zcat_sum]; omega) (by omega) (by omega) hd (kk G h r h2 hf p e s m args below meth cd H locs cells slots R ls Fx hR hP hS hl)
theorem zco_lmax {x y : Int64} {idx : Nat} (hd1 : 1 ≤ d) (hlk : Cond.methodLink mi.1 idx Lib.MathLoose.max_long.x ∈ tb) (hstat : Cond.static Lib.MathLoose.max_long.x ∈ tb) (hini : Cond.initialized "java/lang/Math" ∈ tb) (hcode : Cond.code Lib.MathLoose.max_long.x Lib.MathLoose.max_long.code 4 (some .long) ∈ tb) (hw : (S.map fun v => v.category).sum ≤ 8) (hd : decode mi.2.1 pc = .ok (.invokestatic idx, 3)) (kk : zCo l d rc rs mi (pc + 3) L (.long (if y < x then x else y) :: S) f) : zCo l d rc rs mi pc L (.long y :: .long x :: S) f := by
  intro G h r h2 hf p e s m args below meth cd H locs cells slots R ls Fx hR hP hS hl
  obtain ⟨hx, hb, hml, hr, hown, hlocks, hin, hts, hK, hX, hB⟩ := id Fx
  obtain ⟨r1, r2, r3, r4, r5⟩ := id hR
  exact va_mmax_long hx hb (hml.trans hl.1.symm) hown (hts _ hlk) (hts _ hstat) (hts _ hini) (hts _ hcode) (by omega) (by rw [zcat_sum]; omega) (by omega) (by omega) hd (kk G h r h2 hf p e s m args below meth cd H locs cells slots R ls Fx hR hP hS hl)
theorem zco_lmin {x y : Int64} {idx : Nat} (hd1 : 1 ≤ d) (hlk : Cond.methodLink mi.1 idx Lib.MathLoose.min_long.x ∈ tb) (hstat : Cond.static Lib.MathLoose.min_long.x ∈ tb) (hini : Cond.initialized "java/lang/Math" ∈ tb) (hcode : Cond.code Lib.MathLoose.min_long.x Lib.MathLoose.min_long.code 4 (some .long) ∈ tb) (hw : (S.map fun v => v.category).sum ≤ 8) (hd : decode mi.2.1 pc = .ok (.invokestatic idx, 3)) (kk : zCo l d rc rs mi (pc + 3) L (.long (if y < x then y else x) :: S) f) : zCo l d rc rs mi pc L (.long y :: .long x :: S) f := by
  intro G h r h2 hf p e s m args below meth cd H locs cells slots R ls Fx hR hP hS hl
  obtain ⟨hx, hb, hml, hr, hown, hlocks, hin, hts, hK, hX, hB⟩ := id Fx
  obtain ⟨r1, r2, r3, r4, r5⟩ := id hR
  exact va_mmin_long hx hb (hml.trans hl.1.symm) hown (hts _ hlk) (hts _ hstat) (hts _ hini) (hts _ hcode) (by omega) (by rw [zcat_sum]; omega) (by omega) (by omega) hd (kk G h r h2 hf p e s m args below meth cd H locs cells slots R ls Fx hR hP hS hl)
end ZR6
