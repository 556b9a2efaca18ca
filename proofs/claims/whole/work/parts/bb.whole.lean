/-! the law, from its entry to its end -/
section Bbb
theorem st_nest : ∀ w ∈ z_nest, w.onTables = true ∧ w ∈ lw_tbl := by decide +kernel
/-- the start's addresses: texts 0 .. 15, the static row 16, the script 17, the formatter 200, texts' bytes 100 .. 115 -/
def st_ad (adK adV : Nat → Nat) (tP b fm : Nat) (k : Nat) : Nat := if k < 16 then adK k else if k = 16 then tP else if k = 17 then b else if k = 200 then fm else adV (k - 100)
theorem st_X {b : Nat} {s : State} (D : va_G) (t : Nat → ClassId) (hts : ∀ w ∈ lw_tbl, w.before #[Value.ref b] s = true) (h : (Jvm.Cond.and given_1 narrow_1).before #[Value.ref b] s = true) : ∃ ad : Nat → Nat, ad 17 = b ∧ zX (D, t, s.heap.size, ad) s s.heap := by
  have hs := flat_of_before _ h
  have hA : ∀ a : Nat, a < s.heap.size → ¬ (fun q : Nat => s.heap.size ≤ q) a := fun a h9 => Nat.not_le.mpr h9
  obtain ⟨adK, adV, hS, hE⟩ := st_S h
  obtain ⟨tP, hP1, hP2⟩ := st_parts h
  have hF := va_Zqof (C := "jdk/internal/util/Preconditions") (n := "SIOOBE_FORMATTER") (d := "Ljava/util/function/BiFunction;") (A := fun q : Nat => s.heap.size ≤ q) (hts _ (List.mem_of_getElem? (i := 734) (by decide +kernel))) (hts _ (List.mem_of_getElem? (i := 166) (by decide +kernel))) (hs _ (by decide +kernel)) hA
  obtain ⟨fm, hF⟩ : ∃ fm : Nat, va_Z "jdk/internal/util/Preconditions" "SIOOBE_FORMATTER" "Ljava/util/function/BiFunction;" .null (fun q : Nat => s.heap.size ≤ q) s s.heap ∨ va_Z "jdk/internal/util/Preconditions" "SIOOBE_FORMATTER" "Ljava/util/function/BiFunction;" (.ref fm) (fun q : Nat => s.heap.size ≤ q) s s.heap := by
    rcases hF with z | ⟨t, z⟩
    · exact ⟨0, Or.inl z⟩
    · exact ⟨t, Or.inr z⟩
  have eK : ∀ i, i < 16 → st_ad adK adV tP b fm i = adK i := fun i hi => if_pos hi
  have eV : ∀ i, i < 16 → st_ad adK adV tP b fm (100 + i) = adV i := fun i hi => by
    unfold st_ad
    rw [if_neg (by omega), if_neg (by omega), if_neg (by omega), if_neg (by omega), show 100 + i - 100 = i by omega]
  refine ⟨st_ad adK adV tP b fm, rfl, ⟨⟨fun i hi => ?_, fun i j hi hj e => ?_⟩, hF⟩, fun i q hq => ?_, fun w hw => ?_, ?_, ?_, ?_, hP2⟩
  · have h1 := hS.1 i hi
    show va_O "java/lang/String" (st_ad adK adV tP b fm i) _ s s.heap ∧ va_OF "java/lang/String" "coder" "B" (.int 0) (st_ad adK adV tP b fm i) _ s s.heap ∧ va_OF "java/lang/String" "value" "[B" (.ref (st_ad adK adV tP b fm (100 + i))) (st_ad adK adV tP b fm i) _ s s.heap ∧ va_T .byte (st_ad adK adV tP b fm (100 + i)) _ _ _ s s.heap
    rw [eK i hi, eV i hi]
    exact h1
  · have e : st_ad adK adV tP b fm i = st_ad adK adV tP b fm j := e
    rw [eK i hi, eK j hj] at e
    exact hS.2 i j hi hj e
  · have hi : i < 16 := (List.getElem?_eq_some_iff.mp hq).1
    have h2 := hE i hi
    unfold zs_tm at h2
    rw [hq] at h2
    show vk_R q.1 q.2.1 q.2.2 (st_ad adK adV tP b fm i) s
    rw [eK i hi]
    exact vk_R.of (hts _ (st_strs q (List.mem_of_getElem? hq))) h2
  · exact va_Nw.of (st_nest w hw).1 (hts _ (st_nest w hw).2)
  · exact va_AO.of (hts _ (List.mem_of_getElem? (i := 506) (by decide +kernel)))
  · exact va_Zof (hts _ (List.mem_of_getElem? (i := 718) (by decide +kernel))) (hts _ (List.mem_of_getElem? (i := 164) (by decide +kernel))) (va_eqi (hs _ (by decide +kernel))) hA
  · exact va_Zref (hts _ (List.mem_of_getElem? (i := 828) (by decide +kernel))) (hts _ (List.mem_of_getElem? (i := 149) (by decide +kernel))) hP1 hA
theorem whole_start {p : Program} {e : Env} {s : State} {m : MethodId} {below : List Frame} {meth : Method} {c : Code} (l : Launch) (hflags : l.flags = flags0) {b L : Nat} {xs : Nat → Int32} (hL : L ≤ 3072) (C0 : lw_At p s m meth c b L xs) : W p l e room_1 s m #[Value.ref b] below meth c s.heap [] 0 0 (lw_Z below #[Value.ref b] s) (entryFrame m ([Value.ref b] : List Value).toArray 4) := by
  obtain ⟨h1, h2, h3, h4, h5, hts, hX, hb, h9, hg⟩ := C0
  obtain ⟨D, t, hK⟩ := st_K hts
  obtain ⟨ad, e17, hZ⟩ := st_X D t hts hg
  subst e17
  obtain ⟨h', hrun⟩ := lw_run (n0 := L) (xs := xs) hL
  obtain ⟨scr, x1, x2, x3, x4, x5⟩ := hX
  have hl := lv_entry ([Value.ref (ad 17)] : List Value) (n := 4) (Nat.le_of_ble_eq_true rfl)
  have k := lw_go l 100 (by omega) 599703 (7302250 - 32716) L xs (D, t, s.heap.size, ad) (hq 0 z32 z64 (rB [])) _ h' hrun p e s m #[Value.ref (ad 17)] below meth c s.heap [] 0 0 room_1 _
    ⟨h1, h2, h4, h3, h5, h9, fun h => (by cases h), fun w hw => hts w (tb_lw w hw), hK, hZ, Nat.le_refl _⟩
    ⟨Nat.le_of_ble_eq_true rfl, Nat.le_of_ble_eq_true rfl, by show 0 + (599703 + 81 + 1 + 214 + 1) = 600000; omega, by show 0 + (7302250 - 32716 + 18946 + 116 + 13634 + 20) = 7302250; omega, rfl⟩ ⟨fun k q hk => (by cases hk), Nat.zero_le _⟩ va_S.rf hl
    ⟨⟨scr, x1, x2, x3, Nat.le_of_eq x4.symm, congrArg Nat.toInt32 x4, x5, Nat.not_le.mpr hb⟩, rfl, rfl, rfl, rfl⟩
  rw [lg_entry_eq]
  exact k
end Bbb
