section ZR3
variable {l : Launch} {d rc rs : Nat} {mi : zI} {pc : Nat} {L : List (Nat × Value)} {S : List Value} {f g : zM}
theorem zad_ge (G : zG) (i : Nat) : zad G (zB + i) = G.2.2.2 i := by
  unfold zad
  rw [if_neg (by omega), Nat.add_sub_cancel_left]
theorem zco_iaload {F : Int32 → zM} {a : Nat} {i : Int32} (hd : decode mi.2.1 pc = .ok (.iaload, 1)) (kk : ∀ x : Int32, zCo l d rc rs mi (pc + 1) L (.int x :: S) (F x)) : zCo l d rc rs mi pc L (.int i :: .ref a :: S) (z_la 20 a i F) := by
  intro G h r h2 hf p e s m args below meth cd H locs cells slots R ls Fx hR hP hS hl
  obtain ⟨hx, hb, hml, hr, hown, hlocks, hin, hts, hK, hX, hB⟩ := id Fx
  unfold z_la at hf
  split at hf
  · rename_i hq
    refine va_iald hx hb hK hP.1 a 0 ((zws_at G h hq.1.1).trans (by rw [zE_int G hq.1.2])) rfl (vp_in_of2 hq.2) hd ?_
    exact kk _ G h r h2 hf p e s m args below meth cd H locs cells slots R ls Fx hR hP hS hl
  · cases hf
theorem zco_baload {F : Int32 → zM} {a : Nat} {i : Int32} (hd : decode mi.2.1 pc = .ok (.baload, 1)) (kk : ∀ x : Int32, zCo l d rc rs mi (pc + 1) L (.int x :: S) (F x)) : zCo l d rc rs mi pc L (.int i :: .ref a :: S) (z_la 21 a i F) := by
  intro G h r h2 hf p e s m args below meth cd H locs cells slots R ls Fx hR hP hS hl
  obtain ⟨hx, hb, hml, hr, hown, hlocks, hin, hts, hK, hX, hB⟩ := id Fx
  unfold z_la at hf
  split at hf
  · rename_i hq
    refine va_zald hx hb hK hP.1 a 1 ((zws_at G h hq.1.1).trans (by rw [zE_bool G hq.1.2])) rfl (vp_in_of2 hq.2) hd ?_
    exact kk _ G h r h2 hf p e s m args below meth cd H locs cells slots R ls Fx hR hP hS hl
  · cases hf
theorem zco_caload {F : Int32 → zM} {a : Nat} {i : Int32} (hd : decode mi.2.1 pc = .ok (.caload, 1)) (kk : ∀ x : Int32, zCo l d rc rs mi (pc + 1) L (.int x :: S) (F x)) : zCo l d rc rs mi pc L (.int i :: .ref a :: S) (z_la 22 a i F) := by
  intro G h r h2 hf p e s m args below meth cd H locs cells slots R ls Fx hR hP hS hl
  obtain ⟨hx, hb, hml, hr, hown, hlocks, hin, hts, hK, hX, hB⟩ := id Fx
  unfold z_la at hf
  split at hf
  · rename_i hq
    refine va_cald hx hb hK hP.1 a 2 ((zws_at G h hq.1.1).trans (by rw [zE_char G hq.1.2])) rfl (vp_in_of2 hq.2) hd ?_
    exact kk _ G h r h2 hf p e s m args below meth cd H locs cells slots R ls Fx hR hP hS hl
  · cases hf
theorem zco_laload {F : Int64 → zM} {a : Nat} {i : Int32} (hd : decode mi.2.1 pc = .ok (.laload, 1)) (kk : ∀ x : Int64, zCo l d rc rs mi (pc + 1) L (.long x :: S) (F x)) : zCo l d rc rs mi pc L (.int i :: .ref a :: S) (z_ll a i F) := by
  intro G h r h2 hf p e s m args below meth cd H locs cells slots R ls Fx hR hP hS hl
  obtain ⟨hx, hb, hml, hr, hown, hlocks, hin, hts, hK, hX, hB⟩ := id Fx
  unfold z_ll at hf
  split at hf
  · rename_i hq
    refine va_lald hx hb hK hP.1 a 3 ((zws_at G h hq.1.1).trans (by rw [zE_long G hq.1.2])) rfl (vp_in_of2 hq.2) hd ?_
    exact kk _ G h r h2 hf p e s m args below meth cd H locs cells slots R ls Fx hR hP hS hl
  · cases hf
theorem zco_aaload {F : Nat → zM} {a : Nat} {i : Int32} (hd : decode mi.2.1 pc = .ok (.aaload, 1)) (kk : ∀ x : Nat, zCo l d rc rs mi (pc + 1) L (.ref x :: S) (F x)) : zCo l d rc rs mi pc L (.int i :: .ref a :: S) (z_lr a i F) := by
  intro G h r h2 hf p e s m args below meth cd H locs cells slots R ls Fx hR hP hS hl
  obtain ⟨hx, hb, hml, hr, hown, hlocks, hin, hts, hK, hX, hB⟩ := id Fx
  unfold z_lr at hf
  split at hf
  · rename_i hq
    split at hf
    · rename_i b hb2
      refine va_aldq hx hb hK hP.1 a 4 ((zws_at G h hq.1.1).trans (by rw [zE_ref G hq.1.2])) rfl (vp_in_of2 hq.2) hd ?_
      rw [hb2]
      exact kk _ G h r h2 hf p e s m args below meth cd H locs cells slots R ls Fx hR hP hS hl
    · cases hf
  · cases hf
theorem zco_iastore {a : Nat} {i x : Int32} (hd : decode mi.2.1 pc = .ok (.iastore, 1)) (kk : zCo l d rc rs mi (pc + 1) L S f) : zCo l d rc rs mi pc L (.int x :: .int i :: .ref a :: S) (z_sa 20 a i x f) := by
  intro G h r h2 hf p e s m args below meth cd H locs cells slots R ls Fx hR hP hS hl
  obtain ⟨hx, hb, hml, hr, hown, hlocks, hin, hts, hK, hX, hB⟩ := id Fx
  unfold z_sa at hf
  split at hf
  · rename_i hq
    refine va_iast hx hb hK hP.1 (zD hP.2) hS a 0 ((zws_at G h hq.1.1).trans (by rw [zE_int G hq.1.2])) rfl (vp_in_of2 hq.2) hd (fun H1 locs1 hP1 hD1 hS1 => ?_)
    refine kk G _ r h2 hf p e s m args below meth cd H1 locs1 cells slots R ls Fx hR ⟨?_, hP.2⟩ hS1 hl
    rw [zws_set G h (sI h a i.toNatClampNeg x) hq.1.1 rfl (fun j hj => zE_sI G h a _ _ hj) ?_] at hP1
    · exact hP1
    · rw [zE_int G (by exact hq.1.2)]
      congr 4
      funext j
      simp [gI_sI, upd]
  · cases hf
theorem zco_bastore {a : Nat} {i x : Int32} (hd : decode mi.2.1 pc = .ok (.bastore, 1)) (kk : zCo l d rc rs mi (pc + 1) L S f) : zCo l d rc rs mi pc L (.int x :: .int i :: .ref a :: S) (z_sa 21 a i (vp_nar .boolean x) f) := by
  intro G h r h2 hf p e s m args below meth cd H locs cells slots R ls Fx hR hP hS hl
  obtain ⟨hx, hb, hml, hr, hown, hlocks, hin, hts, hK, hX, hB⟩ := id Fx
  unfold z_sa at hf
  split at hf
  · rename_i hq
    refine va_zast hx hb hK hP.1 (zD hP.2) hS a 1 ((zws_at G h hq.1.1).trans (by rw [zE_bool G hq.1.2])) rfl (vp_in_of2 hq.2) hd (fun H1 locs1 hP1 hD1 hS1 => ?_)
    refine kk G _ r h2 hf p e s m args below meth cd H1 locs1 cells slots R ls Fx hR ⟨?_, hP.2⟩ hS1 hl
    rw [zws_set G h (sI h a i.toNatClampNeg (vp_nar .boolean x)) hq.1.1 rfl (fun j hj => zE_sI G h a _ _ hj) ?_] at hP1
    · exact hP1
    · rw [zE_bool G (by exact hq.1.2)]
      congr 4
      funext j
      simp [gI_sI, upd]
  · cases hf
theorem zco_castore {a : Nat} {i x : Int32} (hd : decode mi.2.1 pc = .ok (.castore, 1)) (kk : zCo l d rc rs mi (pc + 1) L S f) : zCo l d rc rs mi pc L (.int x :: .int i :: .ref a :: S) (z_sa 22 a i (vp_nar .char x) f) := by
  intro G h r h2 hf p e s m args below meth cd H locs cells slots R ls Fx hR hP hS hl
  obtain ⟨hx, hb, hml, hr, hown, hlocks, hin, hts, hK, hX, hB⟩ := id Fx
  unfold z_sa at hf
  split at hf
  · rename_i hq
    refine va_cast hx hb hK hP.1 (zD hP.2) hS a 2 ((zws_at G h hq.1.1).trans (by rw [zE_char G hq.1.2])) rfl (vp_in_of2 hq.2) hd (fun H1 locs1 hP1 hD1 hS1 => ?_)
    refine kk G _ r h2 hf p e s m args below meth cd H1 locs1 cells slots R ls Fx hR ⟨?_, hP.2⟩ hS1 hl
    rw [zws_set G h (sI h a i.toNatClampNeg (vp_nar .char x)) hq.1.1 rfl (fun j hj => zE_sI G h a _ _ hj) ?_] at hP1
    · exact hP1
    · rw [zE_char G (by exact hq.1.2)]
      congr 4
      funext j
      simp [gI_sI, upd]
  · cases hf
theorem zco_lastore {a : Nat} {i : Int32} {x : Int64} (hd : decode mi.2.1 pc = .ok (.lastore, 1)) (kk : zCo l d rc rs mi (pc + 1) L S f) : zCo l d rc rs mi pc L (.long x :: .int i :: .ref a :: S) (z_sl a i x f) := by
  intro G h r h2 hf p e s m args below meth cd H locs cells slots R ls Fx hR hP hS hl
  obtain ⟨hx, hb, hml, hr, hown, hlocks, hin, hts, hK, hX, hB⟩ := id Fx
  unfold z_sl at hf
  split at hf
  · rename_i hq
    refine va_last hx hb hK hP.1 (zD hP.2) hS a 3 ((zws_at G h hq.1.1).trans (by rw [zE_long G hq.1.2])) rfl (vp_in_of2 hq.2) hd (fun H1 locs1 hP1 hD1 hS1 => ?_)
    refine kk G _ r h2 hf p e s m args below meth cd H1 locs1 cells slots R ls Fx hR ⟨?_, hP.2⟩ hS1 hl
    rw [zws_set G h (sL h a i.toNatClampNeg x) hq.1.1 rfl (fun j hj => zE_sL G h a _ _ hj) ?_] at hP1
    · exact hP1
    · rw [zE_long G (by exact hq.1.2), show gL (sL h a i.toNatClampNeg x) a = vp_updL (gL h a) i.toNatClampNeg x by funext j; simp [gL_sL, vp_updL]]
      rfl
  · cases hf
theorem zco_aastore {a b : Nat} {i : Int32} (hd : decode mi.2.1 pc = .ok (.aastore, 1)) (kk : zCo l d rc rs mi (pc + 1) L S f) : zCo l d rc rs mi pc L (.ref b :: .int i :: .ref a :: S) (z_sr a i b f) := by
  intro G h r h2 hf p e s m args below meth cd H locs cells slots R ls Fx hR hP hS hl
  obtain ⟨hx, hb, hml, hr, hown, hlocks, hin, hts, hK, hX, hB⟩ := id Fx
  unfold z_sr at hf
  split at hf
  · rename_i hq
    obtain ⟨⟨⟨q1, q2⟩, q3, q4⟩, q5⟩ := hq
    refine va_astq (r := (RX8, TX8, 8)) hx hb hK hP.1 (zD hP.2) hS a 4 b 8 ((zws_at G h q1).trans (by rw [zE_ref G q2])) rfl ((zws_at G h q3).trans (by rw [zE_obj G q4 (by decide)])) rfl (vp_in_of2 q5) hd (fun H1 locs1 hP1 hD1 hS1 => ?_)
    refine kk G _ r h2 hf p e s m args below meth cd H1 locs1 cells slots R ls Fx hR ⟨?_, hP.2⟩ hS1 hl
    rw [zws_set G h (sR h a i.toNatClampNeg (some b)) q1 rfl (fun j hj => zE_sR G h a _ _ hj) ?_] at hP1
    · exact hP1
    · rw [zE_ref G (by exact q2), show (fun j => (gR (sR h a i.toNatClampNeg (some b)) a j).map (zad G)) = va_up (fun j => (gR h a j).map (zad G)) i.toNatClampNeg (some (zad G b)) by
        funext j
        simp only [gR_sR, va_up]
        by_cases hj : j = i.toNatClampNeg <;> simp [hj]]
      rfl
  · cases hf
theorem zco_alen {F : Int32 → zM} {a : Nat} (hd : decode mi.2.1 pc = .ok (.arraylength, 1)) (kk : ∀ x : Int32, zCo l d rc rs mi (pc + 1) L (.int x :: S) (F x)) : zCo l d rc rs mi pc L (.ref a :: S) (z_len a F) := by
  intro G h r h2 hf p e s m args below meth cd H locs cells slots R ls Fx hR hP hS hl
  obtain ⟨hx, hb, hml, hr, hown, hlocks, hin, hts, hK, hX, hB⟩ := id Fx
  unfold z_len at hf
  split at hf
  · rename_i hq
    have k1 := kk _ G h r h2 hf p e s m args below meth cd H locs cells slots R ls Fx hR hP hS hl
    have hc5 : (gK h a).1 = 20 ∨ (gK h a).1 = 21 ∨ (gK h a).1 = 22 ∨ (gK h a).1 = 23 ∨ (gK h a).1 = 24 := by omega
    rcases hc5 with e1 | e1 | e1 | e1 | e1
    · exact va_alen (x := ((gK h a).2, .inl (gI h a))) hx hb hK hP.1 a 0 ((zws_at G h hq.1).trans (by rw [zE_int G e1])) (ty := .int) rfl rfl hd k1
    · exact va_alen (x := ((gK h a).2, .inl (gI h a))) hx hb hK hP.1 a 1 ((zws_at G h hq.1).trans (by rw [zE_bool G e1])) (ty := .boolean) rfl rfl hd k1
    · exact va_alen (x := ((gK h a).2, .inl (gI h a))) hx hb hK hP.1 a 2 ((zws_at G h hq.1).trans (by rw [zE_char G e1])) (ty := .char) rfl rfl hd k1
    · exact va_alen (x := ((gK h a).2, .inr (.inl (gL h a)))) hx hb hK hP.1 a 3 ((zws_at G h hq.1).trans (by rw [zE_long G e1])) (ty := .long) rfl rfl hd k1
    · exact va_alen (x := ((gK h a).2, .inr (.inr (.inr (.inr (fun j => (gR h a j).map (zad G))))))) hx hb hK hP.1 a 4 ((zws_at G h hq.1).trans (by rw [zE_ref G e1])) (ty := .object "ClothWedding$State") rfl rfl hd k1
  · cases hf
theorem zco_idiv {x y : Int32} (hd : decode mi.2.1 pc = .ok (.idiv, 1)) (kk : zCo l d rc rs mi (pc + 1) L (.int (x / y) :: S) f) : zCo l d rc rs mi pc L (.int y :: .int x :: S) (z_ck (¬ y = 0) f) := by
  intro G h r h2 hf p e s m args below meth cd H locs cells slots R ls Fx hR hP hS hl
  obtain ⟨hx, hb, hml, hr, hown, hlocks, hin, hts, hK, hX, hB⟩ := id Fx
  unfold z_ck at hf
  split at hf
  · rename_i hq
    exact lv_idiv hx hb hd hq (kk G h r h2 hf p e s m args below meth cd H locs cells slots R ls Fx hR hP hS hl)
  · cases hf
theorem zco_irem {x y : Int32} (hd : decode mi.2.1 pc = .ok (.irem, 1)) (kk : zCo l d rc rs mi (pc + 1) L (.int (x - x / y * y) :: S) f) : zCo l d rc rs mi pc L (.int y :: .int x :: S) (z_ck (¬ y = 0) f) := by
  intro G h r h2 hf p e s m args below meth cd H locs cells slots R ls Fx hR hP hS hl
  obtain ⟨hx, hb, hml, hr, hown, hlocks, hin, hts, hK, hX, hB⟩ := id Fx
  unfold z_ck at hf
  split at hf
  · rename_i hq
    exact lv_irem hx hb hd hq (kk G h r h2 hf p e s m args below meth cd H locs cells slots R ls Fx hR hP hS hl)
  · cases hf
theorem zco_ldiv {x y : Int64} (hd : decode mi.2.1 pc = .ok (.ldiv, 1)) (kk : zCo l d rc rs mi (pc + 1) L (.long (x / y) :: S) f) : zCo l d rc rs mi pc L (.long y :: .long x :: S) (z_ck (¬ y = 0) f) := by
  intro G h r h2 hf p e s m args below meth cd H locs cells slots R ls Fx hR hP hS hl
  obtain ⟨hx, hb, hml, hr, hown, hlocks, hin, hts, hK, hX, hB⟩ := id Fx
  unfold z_ck at hf
  split at hf
  · rename_i hq
    exact lv_ldiv hx hb hd hq (kk G h r h2 hf p e s m args below meth cd H locs cells slots R ls Fx hR hP hS hl)
  · cases hf
theorem zco_lrem {x y : Int64} (hd : decode mi.2.1 pc = .ok (.lrem, 1)) (kk : zCo l d rc rs mi (pc + 1) L (.long (x - x / y * y) :: S) f) : zCo l d rc rs mi pc L (.long y :: .long x :: S) (z_ck (¬ y = 0) f) := by
  intro G h r h2 hf p e s m args below meth cd H locs cells slots R ls Fx hR hP hS hl
  obtain ⟨hx, hb, hml, hr, hown, hlocks, hin, hts, hK, hX, hB⟩ := id Fx
  unfold z_ck at hf
  split at hf
  · rename_i hq
    exact lv_lrem hx hb hd hq (kk G h r h2 hf p e s m args below meth cd H locs cells slots R ls Fx hR hP hS hl)
  · cases hf
theorem zco_ldc {v : Int32} {idx : Nat} (hc : Cond.constant mi.1 idx v ∈ tb) (hd : decode mi.2.1 pc = .ok (.ldc idx, 2)) (kk : zCo l d rc rs mi (pc + 2) L (.int v :: S) f) : zCo l d rc rs mi pc L S f := by
  intro G h r h2 hf p e s m args below meth cd H locs cells slots R ls Fx hR hP hS hl
  obtain ⟨hx, hb, hml, hr, hown, hlocks, hin, hts, hK, hX, hB⟩ := id Fx
  exact lv_ldc hx hb hown (hts _ hc) hd (kk G h r h2 hf p e s m args below meth cd H locs cells slots R ls Fx hR hP hS hl)
theorem zco_ldc2 {v : Int64} {idx : Nat} (hc : Cond.constantLong mi.1 idx v ∈ tb) (hd : decode mi.2.1 pc = .ok (.ldc2_w idx, 3)) (kk : zCo l d rc rs mi (pc + 3) L (.long v :: S) f) : zCo l d rc rs mi pc L S f := by
  intro G h r h2 hf p e s m args below meth cd H locs cells slots R ls Fx hR hP hS hl
  obtain ⟨hx, hb, hml, hr, hown, hlocks, hin, hts, hK, hX, hB⟩ := id Fx
  exact lv_ldc2 hx hb hown (hts _ hc) hd (kk G h r h2 hf p e s m args below meth cd H locs cells slots R ls Fx hR hP hS hl)
theorem zco_ldcS {tx : String} {i idx : Nat} (hi : z_strs[i]? = some (mi.1, idx, tx)) (hd : decode mi.2.1 pc = .ok (.ldc idx, 2)) (kk : zCo l d rc rs mi (pc + 2) L (.ref (zB + i) :: S) f) : zCo l d rc rs mi pc L S f := by
  intro G h r h2 hf p e s m args below meth cd H locs cells slots R ls Fx hR hP hS hl
  obtain ⟨hx, hb, hml, hr, hown, hlocks, hin, hts, hK, hX, hB⟩ := id Fx
  have k1 := kk G h r h2 hf p e s m args below meth cd H locs cells slots R ls Fx hR hP hS hl
  have e1 := zad_ge G i
  simp only [List.map_cons, zc, e1] at k1
  exact va_ldcS hx hb hown (hX.2.1 i _ hi) hd k1
theorem zco_parts {F : zM} (hn : (Cond.fieldLinkNest mi.1 33 "ClothWedding" "PARTS_OF" "[I" "ClothWedding") ∈ z_nest) (hd : decode mi.2.1 pc = .ok (.getstatic 33, 3)) (kk : zCo l d rc rs mi (pc + 3) L (.ref (zB + 16) :: S) F) : zCo l d rc rs mi pc L S F := by
  intro G h r h2 hf p e s m args below meth cd H locs cells slots R ls Fx hR hP hS hl
  obtain ⟨hx, hb, hml, hr, hown, hlocks, hin, hts, hK, hX, hB⟩ := id Fx
  have k1 := kk G h r h2 hf p e s m args below meth cd H locs cells slots R ls Fx hR hP hS hl
  have e1 := zad_ge G 16
  simp only [List.map_cons, zc, e1] at k1
  exact va_getsN hx hb hX.2.2.2.2.2.1 hS hown (va_Nw.use rfl (hX.2.2.1 _ hn)) (fun _ h9 => h9) hd k1
theorem zco_plen {F : zM} (hd : decode mi.2.1 pc = .ok (.arraylength, 1)) (kk : zCo l d rc rs mi (pc + 1) L (.int 3 :: S) F) : zCo l d rc rs mi pc L (.ref (zB + 16) :: S) F := by
  intro G h r h2 hf p e s m args below meth cd H locs cells slots R ls Fx hR hP hS hl
  obtain ⟨hx, hb, hml, hr, hown, hlocks, hin, hts, hK, hX, hB⟩ := id Fx
  have k1 := kk G h r h2 hf p e s m args below meth cd H locs cells slots R ls Fx hR hP hS hl
  have e1 := zad_ge G 16
  obtain ⟨cell, t1, t2, t3, t4, t5, t6, t7⟩ := hX.2.2.2.2.2.2.kept hS.2.1
  simp only [List.map_cons, zc, e1] at k1 ⊢
  exact W.alen hx hb t1 t2 t5 rfl rfl hd k1
theorem zco_pld {F : zM} {i : Int32} (hd : decode mi.2.1 pc = .ok (.iaload, 1)) (kk : zCo l d rc rs mi (pc + 1) L (.int (z_parts i.toNatClampNeg) :: S) F) : zCo l d rc rs mi pc L (.int i :: .ref (zB + 16) :: S) (z_ck (0 ≤ i.toInt ∧ i.toInt < 3) F) := by
  intro G h r h2 hf p e s m args below meth cd H locs cells slots R ls Fx hR hP hS hl
  obtain ⟨hx, hb, hml, hr, hown, hlocks, hin, hts, hK, hX, hB⟩ := id Fx
  unfold z_ck at hf
  split at hf
  · rename_i hq
    have k1 := kk G h r h2 hf p e s m args below meth cd H locs cells slots R ls Fx hR hP hS hl
    have e1 := zad_ge G 16
    obtain ⟨cell, t1, t2, t3, t4, t5, t6, t7⟩ := hX.2.2.2.2.2.2.kept hS.2.1
    have hv : vp_in i 3 := vp_in_of2 hq
    have hlt : i.toNatClampNeg < 3 := Nat.not_le.mp fun q => hv (Or.inr q)
    simp only [List.map_cons, zc, e1] at k1 ⊢
    exact W.iald hx hb t1 t2 t3 (fun q => hv (q.imp id (fun q => Nat.le_trans t4 q))) (t6 _ hlt) rfl rfl hd k1
  · cases hf
theorem zco_tab {x : Int32} {dflt lo hi : Int} {offs : Array Int} {len : Nat} (hd : decode mi.2.1 pc = .ok (.tableswitch dflt lo hi offs, len)) {t0 : Nat} (ht0 : (pc : Int) + dflt = (t0 : Int)) (ts : List Nat) (F : Nat → zM) (hts0 : offs.toList.map (fun o => (pc : Int) + o) = ts.map (fun t : Nat => (t : Int))) (hlen : hi = lo + offs.size - 1)
    (k0 : zCo l d rc rs mi t0 L S g) (k1 : ∀ j t, ts[j]? = some t → zCo l d rc rs mi t L S (F j)) : zCo l d rc rs mi pc L (.int x :: S) (z_if (x.toInt < lo ∨ hi < x.toInt) g (F (x.toInt - lo).toNat)) := by
  intro G h r h2 hf p e s m args below meth cd H locs cells slots R ls Fx hR hP hS hl
  obtain ⟨hx, hb, hml, hr, hown, hlocks, hin, hts, hK, hX, hB⟩ := id Fx
  unfold z_if at hf
  by_cases hq : x.toInt < lo ∨ hi < x.toInt
  · rw [if_pos hq] at hf
    exact lv_tableOut hx hb hd hq ht0 (k0 G h r h2 hf p e s m args below meth cd H locs cells slots R ls Fx hR hP hS hl)
  · rw [if_neg hq] at hf
    have q1 : ¬ x.toInt < lo := fun q => hq (Or.inl q)
    have q2 : ¬ hi < x.toInt := fun q => hq (Or.inr q)
    have hj : (x.toInt - lo).toNat < offs.size := by omega
    obtain ⟨o, ho⟩ : ∃ o, offs[(x.toInt - lo).toNat]? = some o := ⟨_, Array.getElem?_eq_getElem hj⟩
    have hz := congrArg (fun z => z[(x.toInt - lo).toNat]?) hts0
    simp only [List.getElem?_map, Array.getElem?_toList, ho, Option.map_some] at hz
    cases hw : ts[(x.toInt - lo).toNat]? with
    | none => rw [hw] at hz; cases hz
    | some t =>
      rw [hw] at hz
      exact lv_tableIn hx hb hd q1 q2 ho (Option.some.inj hz) (k1 _ t hw G h r h2 hf p e s m args below meth cd H locs cells slots R ls Fx hR hP hS hl)
end ZR3
