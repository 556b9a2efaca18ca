/-! texts' constants: length, charAt, as the JDK's own methods do them -/
theorem zdk {cc : ByteArray} {T : List (Nat × Instr × Nat)} (hT : ∀ q ∈ T, decode cc q.1 = .ok q.2) (j : Nat) {q : Nat × Instr × Nat} (h : T[j]? = some q) : decode cc q.1 = .ok q.2 := hT q (List.mem_of_getElem? h)
theorem gd_mem {l : List Int32} {k : Nat} (h : k < l.length) : l.getD k 0 ∈ l := by
  rw [List.getD_eq_getElem?_getD, List.getElem?_eq_getElem h]
  exact List.getElem_mem h
section ZST
variable {l : Launch} {d rc rs : Nat} {mi : zI} {pc : Nat} {L : List (Nat × Value)} {S : List Value} {f g : zM}
def zNo : zM := fun _ => none
theorem zco_no : zCo l d rc rs mi pc L S zNo := by
  intro G h r h2 hf
  cases hf
def z_rn (ty : FieldType) (x : Int32) : zM := fun h => if vp_nar ty x = x then some (some (.int x), h) else none
theorem zco_ckk {c : Prop} [Decidable c] (kk : c → zCo l d rc rs mi pc L S f) : zCo l d rc rs mi pc L S (z_ck c f) := by
  intro G h r h2 hf
  unfold z_ck at hf
  by_cases hc : c
  · rw [if_pos hc] at hf
    exact kk hc G h r h2 hf
  · rw [if_neg hc] at hf; cases hf
theorem zco_nret {x : Int32} {ty : FieldType} (hty : ty = .byte ∨ ty = .char) (h0 : rc = 0) (h1 : rs = 0) (hrt : mi.2.2.2.1 = some ty) (hd : decode mi.2.1 pc = .ok (.ireturn, 1)) : zCo l d rc rs mi pc L [.int x] (z_rn ty x) := by
  intro G h r h2 hf p e s m args below meth cd H locs cells slots R ls Fx hR hP hS hl
  obtain ⟨hx, hb, hml, hr, hown, hlocks, hin, hts, hK, hX, hB⟩ := id Fx
  unfold z_rn at hf
  split at hf <;> cases hf
  rename_i hq
  rw [hrt] at hr
  have hn : narrow ty (.int x) = .int x := by
    rcases hty with rfl | rfl
    · show Value.int (vp_nar .byte x) = _
      rw [hq]
    · show Value.int (vp_nar .char x) = _
      rw [hq]
  subst h0; subst h1
  obtain ⟨-, -, e1, e2, e3⟩ := hR
  rw [← e1, ← e2]
  exact W.zret hx hb hr hn (fun t ht hW => ⟨rfl, ⟨by rw [ht]; exact hP, va_K.moved hW.alike hK, e3⟩, hS.F ht⟩) hS.2.2 hd (hlocks := hlocks)
theorem zco_i2c {x : Int32} (hd : decode mi.2.1 pc = .ok (.i2c, 1)) (kk : zCo l d rc rs mi (pc + 1) L (.int (x.toUInt32 % 65536).toInt32 :: S) f) : zCo l d rc rs mi pc L (.int x :: S) f := by
  intro G h r h2 hf p e s m args below meth cd H locs cells slots R ls Fx hR hP hS hl
  obtain ⟨hx, hb, hml, hr, hown, hlocks, hin, hts, hK, hX, hB⟩ := id Fx
  exact lv_i2c hx hb hd rfl (kk G h r h2 hf p e s m args below meth cd H locs cells slots R ls Fx hR hP hS hl)
theorem zco_compact (hlk : Cond.fieldLink mi.1 38 "java/lang/String" "COMPACT_STRINGS" "Z" ∈ tb) (hd : decode mi.2.1 pc = .ok (.getstatic 38, 3)) (kk : zCo l d rc rs mi (pc + 3) L (.int 1 :: S) f) : zCo l d rc rs mi pc L S f := by
  intro G h r h2 hf p e s m args below meth cd H locs cells slots R ls Fx hR hP hS hl
  obtain ⟨hx, hb, hml, hr, hown, hlocks, hin, hts, hK, hX, hB⟩ := id Fx
  have k1 := kk G h r h2 hf p e s m args below meth cd H locs cells slots R ls Fx hR hP hS hl
  exact va_gets hx hb hX.2.2.2.2.1 hS hown (hts _ hlk) (fun _ h9 => h9) hd k1
theorem zco_former (hlk : Cond.fieldLink mi.1 1053 "jdk/internal/util/Preconditions" "SIOOBE_FORMATTER" "Ljava/util/function/BiFunction;" ∈ tb) (hd : decode mi.2.1 pc = .ok (.getstatic 1053, 3)) (k0 : zCo l d rc rs mi (pc + 3) L (.null :: S) f) (kk : zCo l d rc rs mi (pc + 3) L (.ref (zB + 200) :: S) f) : zCo l d rc rs mi pc L S f := by
  intro G h r h2 hf p e s m args below meth cd H locs cells slots R ls Fx hR hP hS hl
  obtain ⟨hx, hb, hml, hr, hown, hlocks, hin, hts, hK, hX, hB⟩ := id Fx
  rcases hX.1.2 with z | z
  · have k1 := k0 G h r h2 hf p e s m args below meth cd H locs cells slots R ls Fx hR hP hS hl
    simp only [List.map_cons, zc] at k1
    exact va_gets hx hb z hS hown (hts _ hlk) (fun _ h9 => h9) hd k1
  · have k1 := kk G h r h2 hf p e s m args below meth cd H locs cells slots R ls Fx hR hP hS hl
    have e1 := zad_ge G 200
    simp only [List.map_cons, zc, e1] at k1
    exact va_gets hx hb z hS hown (hts _ hlk) (fun _ h9 => h9) hd k1
theorem zco_gval {i : Nat} (hi : i < 16) (hlk : Cond.fieldLink mi.1 9 "java/lang/String" "value" "[B" ∈ tb) (hd : decode mi.2.1 pc = .ok (.getfield 9, 3)) (kk : zCo l d rc rs mi (pc + 3) L (.ref (zB + (100 + i)) :: S) f) : zCo l d rc rs mi pc L (.ref (zB + i) :: S) f := by
  intro G h r h2 hf p e s m args below meth cd H locs cells slots R ls Fx hR hP hS hl
  obtain ⟨hx, hb, hml, hr, hown, hlocks, hin, hts, hK, hX, hB⟩ := id Fx
  have k1 := kk G h r h2 hf p e s m args below meth cd H locs cells slots R ls Fx hR hP hS hl
  have e1 := zad_ge G i
  have e2 := zad_ge G (100 + i)
  simp only [List.map_cons, zc, e1, e2] at k1 ⊢
  exact vk_getf hx hb (hX.1.1.1 i hi).2.2.1 hS hown (hts _ hlk) (fun _ h9 => h9) hd k1
theorem zco_gcod {i : Nat} (hi : i < 16) (hlk : Cond.fieldLink mi.1 15 "java/lang/String" "coder" "B" ∈ tb) (hd : decode mi.2.1 pc = .ok (.getfield 15, 3)) (kk : zCo l d rc rs mi (pc + 3) L (.int 0 :: S) f) : zCo l d rc rs mi pc L (.ref (zB + i) :: S) f := by
  intro G h r h2 hf p e s m args below meth cd H locs cells slots R ls Fx hR hP hS hl
  obtain ⟨hx, hb, hml, hr, hown, hlocks, hin, hts, hK, hX, hB⟩ := id Fx
  have k1 := kk G h r h2 hf p e s m args below meth cd H locs cells slots R ls Fx hR hP hS hl
  have e1 := zad_ge G i
  simp only [List.map_cons, zc, e1] at k1 ⊢
  exact vk_getf hx hb (hX.1.1.1 i hi).2.1 hS hown (hts _ hlk) (fun _ h9 => h9) hd k1
theorem zco_blen {i : Nat} (hi : i < 16) (hd : decode mi.2.1 pc = .ok (.arraylength, 1)) (kk : zCo l d rc rs mi (pc + 1) L (.int (Int32.ofNat (zs_len.getD i 0)) :: S) f) : zCo l d rc rs mi pc L (.ref (zB + (100 + i)) :: S) f := by
  intro G h r h2 hf p e s m args below meth cd H locs cells slots R ls Fx hR hP hS hl
  obtain ⟨hx, hb, hml, hr, hown, hlocks, hin, hts, hK, hX, hB⟩ := id Fx
  have k1 := kk G h r h2 hf p e s m args below meth cd H locs cells slots R ls Fx hR hP hS hl
  have e1 := zad_ge G (100 + i)
  obtain ⟨cell, t1, t2, t3, t4, t5, t6, t7⟩ := (hX.1.1.1 i hi).2.2.2.kept hS.2.1
  simp only [List.map_cons, zc, e1] at k1 ⊢
  exact W.alen hx hb t1 t2 t5 rfl rfl hd k1
theorem zco_bld {i : Nat} (hi : i < 16) {k : Int32} (hk : 0 ≤ k.toInt ∧ k.toInt < (zs_len.getD i 0 : Nat)) (hd : decode mi.2.1 pc = .ok (.baload, 1)) (kk : zCo l d rc rs mi (pc + 1) L (.int ((zs_byt.getD i []).getD k.toNatClampNeg 0) :: S) f) : zCo l d rc rs mi pc L (.int k :: .ref (zB + (100 + i)) :: S) f := by
  intro G h r h2 hf p e s m args below meth cd H locs cells slots R ls Fx hR hP hS hl
  obtain ⟨hx, hb, hml, hr, hown, hlocks, hin, hts, hK, hX, hB⟩ := id Fx
  have k1 := kk G h r h2 hf p e s m args below meth cd H locs cells slots R ls Fx hR hP hS hl
  have e1 := zad_ge G (100 + i)
  obtain ⟨cell, t1, t2, t3, t4, t5, t6, t7⟩ := (hX.1.1.1 i hi).2.2.2.kept hS.2.1
  have hv : vp_in k (zs_len.getD i 0) := vp_in_of2 hk
  have hlt : k.toNatClampNeg < zs_len.getD i 0 := Nat.not_le.mp fun q => hv (Or.inr q)
  simp only [List.map_cons, zc, e1] at k1 ⊢
  exact W.bald hx hb t1 t2 t3 (fun q => hv (q.imp id (fun q => Nat.le_trans t4 q))) (t6 _ hlt) rfl rfl hd k1
/-- a method of a text's -/
theorem zco_VsI {F : Int32 → zM} {S0 : List Value} {As : List Value} {i idx n mc ms maxL : Nat} {y : MethodName} {cc : ByteArray} {ret : Option FieldType} (hi : i < 16) (hy : y.cls = "java/lang/String") (v1 : Cond.code y cc maxL ret ∈ tb) (v2 : Cond.instanceMethod y ∈ tb) (v3 : Cond.selects y.cls y y ∈ tb) (v4 : Cond.initialized y.cls ∈ tb) (v7 : y.cls ≠ "java/lang/invoke/MethodHandle" ∧ y.cls ≠ "java/lang/invoke/VarHandle" ∧ (parseMethodDescriptor y.desc).map (fun d => d.parameters.length) = some n) (v8 : maxL ≤ 40) (hM : zMet l d mc ms y cc maxL ret (.ref (zB + i) :: As) g) (hlk : Cond.methodLink mi.1 idx y ∈ tb) (hst : S0 = As.reverse ++ .ref (zB + i) :: S) (hn : As.length = n) (hw : (S.map fun v => v.category).sum ≤ 8) (hd : decode mi.2.1 pc = .ok (.invokevirtual idx, 3)) (kk : ∀ x : Int32, zCo l (d + 1) rc rs mi (pc + 3) L (.int x :: S) (F x)) : zCo l (d + 1) (rc + mc) (rs + ms) mi pc L S0 (z_ci g F) := by
  intro G h r h2 hf p e s m args below meth cd H locs cells slots R ls Fx hR hP hS hl
  obtain ⟨hx, hb, hml, hr, hown, hlocks, hin, hts, hK, hX, hB⟩ := id Fx
  unfold z_ci at hf
  split at hf
  · rename_i hg
    obtain ⟨r1, r2, r3, r4, r5⟩ := hR
    refine W_sized fun hz => ?_
    have hsz := z_size hP hS hB r5 hz
    refine z_back (mc := mc) (ms := ms) (va_runV (C := y.cls) (As := As.map (zc G)) (rest := S.map (zc G)) ⟨hx, hb, hml, hown, hts⟩ (hM G h _ _ hg) (cwV n hts (fun w hw => tb_good w ?_) rfl rfl rfl ⟨rfl, v7⟩ ⟨r1, by show 8 + (maxL + 11) + 64 * d ≤ R.locals; omega⟩) ⟨zblind G h _, ?_, zpre (args := args) ((.ref (zB + i) :: As).map (zc G)) hP hK hX hS hsz⟩ rfl (by rw [List.length_map]; exact hn) hl.1 ?_ (lv_room (by rw [zcat_sum]; exact hw)) hd ⟨by omega, by omega⟩) hS (by omega) (fun H1 locs1 hP1 hS1 hN1 => ?_)
    · simp only [wsV, List.mem_append, List.mem_cons, List.not_mem_nil, or_false] at hw
      rcases hw with (rfl | rfl | rfl | rfl) | hw
      · exact hlk
      · exact v2
      · exact v3
      · exact v4
      · exact ((zws_good v1) w hw).1
    · have h9 := vk_recv hX.1.1 hi hS
      rw [hy, zad_ge]
      exact h9
    · rw [hst]; simp [List.map_append, List.map_reverse, zc]
    · exact kk _ G _ r h2 hf p e s m args below meth cd H1 locs1 _ _ R ls Fx ⟨r1, r2, by omega, by omega, hN1⟩ hP1 hS1 hl
  · cases hf
end ZST
/-! the methods -/
def zs_y1 : MethodName := ⟨"java/lang/String", "length", "()I"⟩
def zs_y2 : MethodName := ⟨"java/lang/String", "coder", "()B"⟩
def zs_y3 : MethodName := ⟨"java/lang/String", "charAt", "(I)C"⟩
def zs_y4 : MethodName := ⟨"java/lang/String", "isLatin1", "()Z"⟩
def zs_y5 : MethodName := ⟨"java/lang/StringLatin1", "charAt", "([BI)C"⟩
def zs_y6 : MethodName := ⟨"java/lang/String", "checkIndex", "(II)V"⟩
def zs_y7 : MethodName := ⟨"jdk/internal/util/Preconditions", "checkIndex", "(IILjava/util/function/BiFunction;)I"⟩
def zs_t1 : List (Nat × Instr × Nat) := [(0, .aload_n 0, 1), (1, .getfield 9, 3), (4, .arraylength, 1), (5, .aload_n 0, 1), (6, .invokevirtual 335, 3), (9, .ishr, 1), (10, .ireturn, 1)]
theorem zs_k1 : ∀ q ∈ zs_t1, decode prog_17_method_54_code q.1 = .ok q.2 := by decide +kernel
def zs_t2 : List (Nat × Instr × Nat) := [(0, .getstatic 38, 3), (3, .ifCond .eq 10, 3), (6, .aload_n 0, 1), (7, .getfield 15, 3), (10, .goto 4, 3), (13, .iconst 1, 1), (14, .ireturn, 1)]
theorem zs_k2 : ∀ q ∈ zs_t2, decode prog_17_method_152_code q.1 = .ok q.2 := by decide +kernel
def zs_t3 : List (Nat × Instr × Nat) := [(0, .aload_n 0, 1), (1, .invokevirtual 492, 3), (4, .ifCond .eq 12, 3), (7, .aload_n 0, 1), (8, .getfield 9, 3), (11, .iload_n 1, 1), (12, .invokestatic 495, 3), (15, .ireturn, 1)]
theorem zs_k3 : ∀ q ∈ zs_t3, decode prog_17_method_56_code q.1 = .ok q.2 := by decide +kernel
def zs_t4 : List (Nat × Instr × Nat) := [(0, .getstatic 38, 3), (3, .ifCond .eq 14, 3), (6, .aload_n 0, 1), (7, .getfield 15, 3), (10, .ifCond .ne 7, 3), (13, .iconst 1, 1), (14, .goto 4, 3), (17, .iconst 0, 1), (18, .ireturn, 1)]
theorem zs_k4 : ∀ q ∈ zs_t4, decode prog_17_method_154_code q.1 = .ok q.2 := by decide +kernel
def zs_t5 : List (Nat × Instr × Nat) := [(0, .iload_n 1, 1), (1, .aload_n 0, 1), (2, .arraylength, 1), (3, .invokestatic 9, 3), (6, .aload_n 0, 1), (7, .iload_n 1, 1), (8, .baload, 1), (9, .sipush 255, 3), (12, .iand, 1), (13, .i2c, 1), (14, .ireturn, 1)]
theorem zs_k5 : ∀ q ∈ zs_t5, decode prog_18_method_2_code q.1 = .ok q.2 := by decide +kernel
def zs_t6 : List (Nat × Instr × Nat) := [(0, .iload_n 0, 1), (1, .iload_n 1, 1), (2, .getstatic 1053, 3), (5, .invokestatic 1059, 3), (8, .pop, 1), (9, .return_, 1)]
theorem zs_k6 : ∀ q ∈ zs_t6, decode prog_17_method_155_code q.1 = .ok q.2 := by decide +kernel
def zs_t7 : List (Nat × Instr × Nat) := [(0, .iload_n 0, 1), (1, .ifCond .lt 8, 3), (4, .iload_n 0, 1), (5, .iload_n 1, 1), (6, .if_icmp .lt 10, 3), (16, .iload_n 0, 1), (17, .ireturn, 1)]
theorem zs_k7 : ∀ q ∈ zs_t7, decode prog_22_method_11_code q.1 = .ok q.2 := by decide +kernel
theorem zs_c1 : Cond.code zs_y1 prog_17_method_54_code 1 (some .int) ∈ tb := tb_of 712 (by decide +kernel) rfl
theorem zs_c2 : Cond.code zs_y2 prog_17_method_152_code 1 (some .byte) ∈ tb := tb_of 716 (by decide +kernel) rfl
theorem zs_c3 : Cond.code zs_y3 prog_17_method_56_code 2 (some .char) ∈ tb := tb_of 722 (by decide +kernel) rfl
theorem zs_c4 : Cond.code zs_y4 prog_17_method_154_code 1 (some .boolean) ∈ tb := tb_of 726 (by decide +kernel) rfl
theorem zs_c5 : Cond.code zs_y5 prog_18_method_2_code 2 (some .char) ∈ tb := tb_of 729 (by decide +kernel) rfl
theorem zs_c6 : Cond.code zs_y6 prog_17_method_155_code 2 none ∈ tb := tb_of 732 (by decide +kernel) rfl
theorem zs_c7 : Cond.code zs_y7 prog_22_method_11_code 3 (some .int) ∈ tb := tb_of 737 (by decide +kernel) rfl
theorem zs_in : Cond.initialized "java/lang/String" ∈ tb := tb_of 164 (by decide +kernel) rfl
theorem zs_in5 : Cond.initialized "java/lang/StringLatin1" ∈ tb := tb_of 165 (by decide +kernel) rfl
theorem zs_in7 : Cond.initialized "jdk/internal/util/Preconditions" ∈ tb := tb_of 166 (by decide +kernel) rfl
theorem zs_i1 : Cond.instanceMethod zs_y1 ∈ tb := tb_of 710 (by decide +kernel) rfl
theorem zs_s1 : Cond.selects zs_y1.cls zs_y1 zs_y1 ∈ tb := tb_of 711 (by decide +kernel) rfl
theorem zs_l2 : Cond.methodLink "java/lang/String" 335 zs_y2 ∈ tb := tb_of 713 (by decide +kernel) rfl
theorem zs_i2 : Cond.instanceMethod zs_y2 ∈ tb := tb_of 714 (by decide +kernel) rfl
theorem zs_s2 : Cond.selects zs_y2.cls zs_y2 zs_y2 ∈ tb := tb_of 715 (by decide +kernel) rfl
theorem zs_f1 : Cond.fieldLink "java/lang/String" 38 "java/lang/String" "COMPACT_STRINGS" "Z" ∈ tb := tb_of 717 (by decide +kernel) rfl
theorem zs_i3 : Cond.instanceMethod zs_y3 ∈ tb := tb_of 720 (by decide +kernel) rfl
theorem zs_s3 : Cond.selects zs_y3.cls zs_y3 zs_y3 ∈ tb := tb_of 721 (by decide +kernel) rfl
theorem zs_l4 : Cond.methodLink "java/lang/String" 492 zs_y4 ∈ tb := tb_of 723 (by decide +kernel) rfl
theorem zs_i4 : Cond.instanceMethod zs_y4 ∈ tb := tb_of 724 (by decide +kernel) rfl
theorem zs_s4 : Cond.selects zs_y4.cls zs_y4 zs_y4 ∈ tb := tb_of 725 (by decide +kernel) rfl
theorem zs_l5 : Cond.methodLink "java/lang/String" 495 zs_y5 ∈ tb := tb_of 727 (by decide +kernel) rfl
theorem zs_i5 : Cond.static zs_y5 ∈ tb := tb_of 728 (by decide +kernel) rfl
theorem zs_l6 : Cond.methodLink "java/lang/StringLatin1" 9 zs_y6 ∈ tb := tb_of 730 (by decide +kernel) rfl
theorem zs_i6 : Cond.static zs_y6 ∈ tb := tb_of 731 (by decide +kernel) rfl
theorem zs_f2 : Cond.fieldLink "java/lang/String" 1053 "jdk/internal/util/Preconditions" "SIOOBE_FORMATTER" "Ljava/util/function/BiFunction;" ∈ tb := tb_of 733 (by decide +kernel) rfl
theorem zs_l7 : Cond.methodLink "java/lang/String" 1059 zs_y7 ∈ tb := tb_of 735 (by decide +kernel) rfl
theorem zs_i7 : Cond.static zs_y7 ∈ tb := tb_of 736 (by decide +kernel) rfl
theorem zs_f3 : Cond.fieldLink "java/lang/String" 9 "java/lang/String" "value" "[B" ∈ tb := tb_of 2322 (by decide +kernel) rfl
theorem zs_f4 : Cond.fieldLink "java/lang/String" 15 "java/lang/String" "coder" "B" ∈ tb := tb_of 2323 (by decide +kernel) rfl
def zs_p7 (i n : Int32) : zM := z_if (i < 0) zNo (z_if (i < n) (z_ret (some (.int i))) zNo)
theorem zs_m7 (l : Launch) (d : Nat) (i n : Int32) : zMet l d 0 0 zs_y7 prog_22_method_11_code 3 (some .int) [.int i, .int n, .ref (zB + 200)] (zs_p7 i n) := by
  refine zmet_of (own := "jdk/internal/util/Preconditions") (ini := false) (by decide +kernel) rfl (fun _ => by contradiction) (Nat.le_of_ble_eq_true rfl) ?_
  unfold zs_p7
  refine zco_p zs_k7 0 1 (pc' := 1) (L' := [(0, .int i), (1, .int n), (2, .ref (zB + 200))]) (S' := [.int i]) rfl ?_
  refine zco_if_lt (tgt := 9) (zdk (cc := prog_22_method_11_code) (q := (1, .ifCond .lt 8, 3)) zs_k7 1 rfl) rfl zco_no ?_
  refine zco_p zs_k7 2 2 (pc' := 6) (L' := [(0, .int i), (1, .int n), (2, .ref (zB + 200))]) (S' := [.int n, .int i]) rfl ?_
  refine zco_icmp_lt (tgt := 16) (zdk (cc := prog_22_method_11_code) (q := (6, .if_icmp .lt 10, 3)) zs_k7 4 rfl) rfl ?_ zco_no
  refine zco_p zs_k7 5 1 (pc' := 17) (L' := [(0, .int i), (1, .int n), (2, .ref (zB + 200))]) (S' := [.int i]) rfl ?_
  exact zco_iret rfl rfl rfl (zdk (cc := prog_22_method_11_code) (q := (17, .ireturn, 1)) zs_k7 6 rfl)
theorem zs_n7 (l : Launch) (d : Nat) (i n : Int32) : zMet l d 0 0 zs_y7 prog_22_method_11_code 3 (some .int) [.int i, .int n, .null] (zs_p7 i n) := by
  refine zmet_of (own := "jdk/internal/util/Preconditions") (ini := false) (by decide +kernel) rfl (fun _ => by contradiction) (Nat.le_of_ble_eq_true rfl) ?_
  unfold zs_p7
  refine zco_p zs_k7 0 1 (pc' := 1) (L' := [(0, .int i), (1, .int n), (2, .null)]) (S' := [.int i]) rfl ?_
  refine zco_if_lt (tgt := 9) (zdk (cc := prog_22_method_11_code) (q := (1, .ifCond .lt 8, 3)) zs_k7 1 rfl) rfl zco_no ?_
  refine zco_p zs_k7 2 2 (pc' := 6) (L' := [(0, .int i), (1, .int n), (2, .null)]) (S' := [.int n, .int i]) rfl ?_
  refine zco_icmp_lt (tgt := 16) (zdk (cc := prog_22_method_11_code) (q := (6, .if_icmp .lt 10, 3)) zs_k7 4 rfl) rfl ?_ zco_no
  refine zco_p zs_k7 5 1 (pc' := 17) (L' := [(0, .int i), (1, .int n), (2, .null)]) (S' := [.int i]) rfl ?_
  exact zco_iret rfl rfl rfl (zdk (cc := prog_22_method_11_code) (q := (17, .ireturn, 1)) zs_k7 6 rfl)
def zs_p6 (i n : Int32) : zM := z_ci (zs_p7 i n) fun _ => z_ret none
theorem zs_m6 (l : Launch) (d : Nat) (i n : Int32) : zMet l (d + 1) 0 0 zs_y6 prog_17_method_155_code 2 none [.int i, .int n] (zs_p6 i n) := by
  refine zmet_of (own := "java/lang/String") (ini := false) (by decide +kernel) rfl (fun _ => by contradiction) (Nat.le_of_ble_eq_true rfl) ?_
  unfold zs_p6
  refine zco_p zs_k6 0 2 (pc' := 2) (L' := [(0, .int i), (1, .int n)]) (S' := [.int n, .int i]) rfl ?_
  refine zco_former zs_f2 (zdk (cc := prog_17_method_155_code) (q := (2, .getstatic 1053, 3)) zs_k6 2 rfl) ?_ ?_
  · refine zco_Si (mc := 0) (ms := 0) (rc := 0) (rs := 0) (As := [.int i, .int n, .null]) (S := []) ⟨zs_c7, zs_i7, zs_in7, ⟨by decide +kernel, by decide +kernel, rfl⟩, by decide⟩ (zs_n7 l d i n) zs_l7 rfl rfl (by decide) (zdk (cc := prog_17_method_155_code) (q := (5, .invokestatic 1059, 3)) zs_k6 3 rfl) (fun x => ?_)
    refine zco_p zs_k6 4 1 (pc' := 9) (L' := [(0, .int i), (1, .int n)]) (S' := []) rfl ?_
    exact zco_vret rfl rfl rfl (zdk (cc := prog_17_method_155_code) (q := (9, .return_, 1)) zs_k6 5 rfl)
  · refine zco_Si (mc := 0) (ms := 0) (rc := 0) (rs := 0) (As := [.int i, .int n, .ref (zB + 200)]) (S := []) ⟨zs_c7, zs_i7, zs_in7, ⟨by decide +kernel, by decide +kernel, rfl⟩, by decide⟩ (zs_m7 l d i n) zs_l7 rfl rfl (by decide) (zdk (cc := prog_17_method_155_code) (q := (5, .invokestatic 1059, 3)) zs_k6 3 rfl) (fun x => ?_)
    refine zco_p zs_k6 4 1 (pc' := 9) (L' := [(0, .int i), (1, .int n)]) (S' := []) rfl ?_
    exact zco_vret rfl rfl rfl (zdk (cc := prog_17_method_155_code) (q := (9, .return_, 1)) zs_k6 5 rfl)
def zs_b (i : Nat) (k : Int32) : Int32 := (((zs_byt.getD i []).getD k.toNatClampNeg 0 &&& 255).toUInt32 % 65536).toInt32
def zs_p5 (i : Nat) (k : Int32) : zM := z_cv (zs_p6 k (Int32.ofNat (zs_len.getD i 0))) (z_ck (0 ≤ k.toInt ∧ k.toInt < (zs_len.getD i 0 : Nat)) (z_rn .char (zs_b i k)))
theorem zs_m5 (l : Launch) (d : Nat) {i : Nat} (hi : i < 16) (k : Int32) : zMet l (d + 2) 0 0 zs_y5 prog_18_method_2_code 2 (some .char) [.ref (zB + (100 + i)), .int k] (zs_p5 i k) := by
  refine zmet_of (own := "java/lang/StringLatin1") (ini := false) (by decide +kernel) rfl (fun _ => by contradiction) (Nat.le_of_ble_eq_true rfl) ?_
  unfold zs_p5
  refine zco_p zs_k5 0 2 (pc' := 2) (L' := [(0, .ref (zB + (100 + i))), (1, .int k)]) (S' := [.ref (zB + (100 + i)), .int k]) rfl ?_
  refine zco_blen hi (zdk (cc := prog_18_method_2_code) (q := (2, .arraylength, 1)) zs_k5 2 rfl) ?_
  refine zco_Sv (mc := 0) (ms := 0) (rc := 0) (rs := 0) (As := [.int k, .int (Int32.ofNat (zs_len.getD i 0))]) (S := []) ⟨zs_c6, zs_i6, zs_in, ⟨by decide +kernel, by decide +kernel, rfl⟩, by decide⟩ (zs_m6 l d k _) zs_l6 rfl rfl (by decide) (zdk (cc := prog_18_method_2_code) (q := (3, .invokestatic 9, 3)) zs_k5 3 rfl) ?_
  refine zco_p zs_k5 4 2 (pc' := 8) (L' := [(0, .ref (zB + (100 + i))), (1, .int k)]) (S' := [.int k, .ref (zB + (100 + i))]) rfl ?_
  refine zco_ckk (fun hk => ?_)
  refine zco_bld hi hk (zdk (cc := prog_18_method_2_code) (q := (8, .baload, 1)) zs_k5 6 rfl) ?_
  refine zco_p zs_k5 7 2 (pc' := 13) (L' := [(0, .ref (zB + (100 + i))), (1, .int k)]) (S' := [.int ((zs_byt.getD i []).getD k.toNatClampNeg 0 &&& 255)]) rfl ?_
  refine zco_i2c (zdk (cc := prog_18_method_2_code) (q := (13, .i2c, 1)) zs_k5 9 rfl) ?_
  exact zco_nret (Or.inr rfl) rfl rfl rfl (zdk (cc := prog_18_method_2_code) (q := (14, .ireturn, 1)) zs_k5 10 rfl)
def zs_p4 : zM := z_if ((1 : Int32) = 0) zNo (z_if ((0 : Int32) = 0) (z_rb 1) zNo)
theorem zs_m4 (l : Launch) (d : Nat) {i : Nat} (hi : i < 16) : zMet l d 0 0 zs_y4 prog_17_method_154_code 1 (some .boolean) [.ref (zB + i)] zs_p4 := by
  refine zmet_of (own := "java/lang/String") (ini := false) (by decide +kernel) rfl (fun _ => by contradiction) (Nat.le_of_ble_eq_true rfl) ?_
  unfold zs_p4
  refine zco_compact zs_f1 (zdk (cc := prog_17_method_154_code) (q := (0, .getstatic 38, 3)) zs_k4 0 rfl) ?_
  refine zco_if_eq (tgt := 17) (zdk (cc := prog_17_method_154_code) (q := (3, .ifCond .eq 14, 3)) zs_k4 1 rfl) rfl zco_no ?_
  refine zco_p zs_k4 2 1 (pc' := 7) (L' := [(0, .ref (zB + i))]) (S' := [.ref (zB + i)]) rfl ?_
  refine zco_gcod hi zs_f4 (zdk (cc := prog_17_method_154_code) (q := (7, .getfield 15, 3)) zs_k4 3 rfl) ?_
  refine zco_if_ne (tgt := 17) (zdk (cc := prog_17_method_154_code) (q := (10, .ifCond .ne 7, 3)) zs_k4 4 rfl) rfl zco_no ?_
  refine zco_p zs_k4 5 2 (pc' := 18) (L' := [(0, .ref (zB + i))]) (S' := [.int 1]) rfl ?_
  exact zco_zret rfl rfl rfl (zdk (cc := prog_17_method_154_code) (q := (18, .ireturn, 1)) zs_k4 8 rfl)
def zs_p2 : zM := z_if ((1 : Int32) = 0) zNo (z_rn .byte 0)
theorem zs_m2 (l : Launch) (d : Nat) {i : Nat} (hi : i < 16) : zMet l d 0 0 zs_y2 prog_17_method_152_code 1 (some .byte) [.ref (zB + i)] zs_p2 := by
  refine zmet_of (own := "java/lang/String") (ini := false) (by decide +kernel) rfl (fun _ => by contradiction) (Nat.le_of_ble_eq_true rfl) ?_
  unfold zs_p2
  refine zco_compact zs_f1 (zdk (cc := prog_17_method_152_code) (q := (0, .getstatic 38, 3)) zs_k2 0 rfl) ?_
  refine zco_if_eq (tgt := 13) (zdk (cc := prog_17_method_152_code) (q := (3, .ifCond .eq 10, 3)) zs_k2 1 rfl) rfl zco_no ?_
  refine zco_p zs_k2 2 1 (pc' := 7) (L' := [(0, .ref (zB + i))]) (S' := [.ref (zB + i)]) rfl ?_
  refine zco_gcod hi zs_f4 (zdk (cc := prog_17_method_152_code) (q := (7, .getfield 15, 3)) zs_k2 3 rfl) ?_
  refine zco_p zs_k2 4 1 (pc' := 14) (L' := [(0, .ref (zB + i))]) (S' := [.int 0]) rfl ?_
  exact zco_nret (Or.inl rfl) rfl rfl rfl (zdk (cc := prog_17_method_152_code) (q := (14, .ireturn, 1)) zs_k2 6 rfl)
def zs_p1 (i : Nat) : zM := z_ci zs_p2 fun c => z_ret (some (.int (Int32.ofNat (zs_len.getD i 0) >>> (c &&& 31))))
theorem zs_m1 (l : Launch) (d : Nat) {i : Nat} (hi : i < 16) : zMet l (d + 1) 0 0 zs_y1 prog_17_method_54_code 1 (some .int) [.ref (zB + i)] (zs_p1 i) := by
  refine zmet_of (own := "java/lang/String") (ini := false) (by decide +kernel) rfl (fun _ => by contradiction) (Nat.le_of_ble_eq_true rfl) ?_
  unfold zs_p1
  refine zco_p zs_k1 0 1 (pc' := 1) (L' := [(0, .ref (zB + i))]) (S' := [.ref (zB + i)]) rfl ?_
  refine zco_gval hi zs_f3 (zdk (cc := prog_17_method_54_code) (q := (1, .getfield 9, 3)) zs_k1 1 rfl) ?_
  refine zco_blen hi (zdk (cc := prog_17_method_54_code) (q := (4, .arraylength, 1)) zs_k1 2 rfl) ?_
  refine zco_p zs_k1 3 1 (pc' := 6) (L' := [(0, .ref (zB + i))]) (S' := [.ref (zB + i), .int (Int32.ofNat (zs_len.getD i 0))]) rfl ?_
  refine zco_VsI (mc := 0) (ms := 0) (rc := 0) (rs := 0) (As := []) (S := [.int (Int32.ofNat (zs_len.getD i 0))]) (n := 0) hi rfl zs_c2 zs_i2 zs_s2 zs_in ⟨by decide +kernel, by decide +kernel, rfl⟩ (by decide) (zs_m2 l d hi) zs_l2 rfl rfl (Nat.le_of_ble_eq_true rfl) (zdk (cc := prog_17_method_54_code) (q := (6, .invokevirtual 335, 3)) zs_k1 4 rfl) (fun x => ?_)
  refine zco_p zs_k1 5 1 (pc' := 10) (L' := [(0, .ref (zB + i))]) (S' := [.int (Int32.ofNat (zs_len.getD i 0) >>> (x &&& 31))]) rfl ?_
  exact zco_iret rfl rfl rfl (zdk (cc := prog_17_method_54_code) (q := (10, .ireturn, 1)) zs_k1 6 rfl)
def zs_p3 (i : Nat) (k : Int32) : zM := z_ci zs_p4 fun z => z_if (z = 0) zNo (z_ci (zs_p5 i k) fun x => z_rn .char x)
theorem zs_m3 (l : Launch) (d : Nat) {i : Nat} (hi : i < 16) (k : Int32) : zMet l (d + 3) 0 0 zs_y3 prog_17_method_56_code 2 (some .char) [.ref (zB + i), .int k] (zs_p3 i k) := by
  refine zmet_of (own := "java/lang/String") (ini := false) (by decide +kernel) rfl (fun _ => by contradiction) (Nat.le_of_ble_eq_true rfl) ?_
  unfold zs_p3
  refine zco_p zs_k3 0 1 (pc' := 1) (L' := [(0, .ref (zB + i)), (1, .int k)]) (S' := [.ref (zB + i)]) rfl ?_
  refine zco_VsI (mc := 0) (ms := 0) (rc := 0) (rs := 0) (As := []) (S := []) (n := 0) hi rfl zs_c4 zs_i4 zs_s4 zs_in ⟨by decide +kernel, by decide +kernel, rfl⟩ (by decide) (zs_m4 l (d + 2) hi) zs_l4 rfl rfl (by decide) (zdk (cc := prog_17_method_56_code) (q := (1, .invokevirtual 492, 3)) zs_k3 1 rfl) (fun z => ?_)
  refine zco_if_eq (tgt := 16) (zdk (cc := prog_17_method_56_code) (q := (4, .ifCond .eq 12, 3)) zs_k3 2 rfl) rfl zco_no ?_
  refine zco_p zs_k3 3 1 (pc' := 8) (L' := [(0, .ref (zB + i)), (1, .int k)]) (S' := [.ref (zB + i)]) rfl ?_
  refine zco_gval hi zs_f3 (zdk (cc := prog_17_method_56_code) (q := (8, .getfield 9, 3)) zs_k3 4 rfl) ?_
  refine zco_p zs_k3 5 1 (pc' := 12) (L' := [(0, .ref (zB + i)), (1, .int k)]) (S' := [.int k, .ref (zB + (100 + i))]) rfl ?_
  refine zco_Si (mc := 0) (ms := 0) (rc := 0) (rs := 0) (As := [.ref (zB + (100 + i)), .int k]) (S := []) ⟨zs_c5, zs_i5, zs_in5, ⟨by decide +kernel, by decide +kernel, rfl⟩, by decide⟩ (zs_m5 l d hi k) zs_l5 rfl rfl (by decide) (zdk (cc := prog_17_method_56_code) (q := (12, .invokestatic 495, 3)) zs_k3 6 rfl) (fun x => ?_)
  exact zco_nret (Or.inr rfl) rfl rfl rfl (zdk (cc := prog_17_method_56_code) (q := (15, .ireturn, 1)) zs_k3 7 rfl)
/-! what they answer -/
theorem zs_all : ∀ i, i < 16 → (zs_len.getD i 0 = (zs_byt.getD i []).length ∧ zs_len.getD i 0 < 1000 ∧ Int32.ofNat (zs_len.getD i 0) >>> ((0 : Int32) &&& 31) = Int32.ofNat (zs_len.getD i 0)) ∧ ∀ b ∈ zs_byt.getD i [], ((b &&& 255).toUInt32 % 65536).toInt32 = b ∧ vp_nar .char b = b := by decide +kernel
theorem zs_e1 {i : Nat} (hi : i < 16) (h : zH) : zs_p1 i h = some (some (.int (Int32.ofNat (zs_len.getD i 0))), h) := by
  have e : zs_p1 i h = some (some (.int (Int32.ofNat (zs_len.getD i 0) >>> ((0 : Int32) &&& 31))), h) := rfl
  rw [e, (zs_all i hi).1.2.2]
theorem zs_e3 {i : Nat} (hi : i < 16) {k : Int32} (hk : 0 ≤ k.toInt ∧ k.toInt < (zs_len.getD i 0 : Nat)) (h : zH) : zs_p3 i k h = some (some (.int ((zs_byt.getD i []).getD k.toNatClampNeg 0)), h) := by
  obtain ⟨⟨a1, a2, -⟩, a3⟩ := zs_all i hi
  have hlt : k.toNatClampNeg < (zs_byt.getD i []).length := by
    rw [← a1]
    show k.toInt.toNat < _
    omega
  have hm : (zs_byt.getD i []).getD k.toNatClampNeg 0 ∈ zs_byt.getD i [] := gd_mem hlt
  obtain ⟨b1, b2⟩ := a3 _ hm
  have c0 : ¬ k < 0 := by
    rw [Int32.lt_iff_toInt_lt]
    show ¬ k.toInt < 0
    omega
  have c1 : k < Int32.ofNat (zs_len.getD i 0) := by
    rw [Int32.lt_iff_toInt_lt, show (Int32.ofNat (zs_len.getD i 0)).toInt = ((zs_len.getD i 0 : Nat) : Int) from nI_toInt (by omega)]
    exact hk.2
  have e7 : zs_p7 k (Int32.ofNat (zs_len.getD i 0)) h = some (some (.int k), h) := by
    unfold zs_p7
    rw [h_if, if_neg c0, h_if, if_pos c1]; rfl
  have e6 : zs_p6 k (Int32.ofNat (zs_len.getD i 0)) h = some (none, h) := by
    unfold zs_p6
    rw [h_ci e7]; rfl
  have e5 : zs_p5 i k h = some (some (.int ((zs_byt.getD i []).getD k.toNatClampNeg 0)), h) := by
    unfold zs_p5 zs_b
    rw [h_cv e6, h_ck hk, b1]
    exact if_pos b2
  have e4 : zs_p4 h = some (some (.int 1), h) := rfl
  unfold zs_p3
  rw [h_ci e4, h_if, if_neg (by decide), h_ci e5]
  exact if_pos b2
section ZSU
variable {l : Launch} {d rc rs : Nat} {mi : zI} {pc : Nat} {L : List (Nat × Value)} {S : List Value} {f g : zM}
theorem zco_slen {F : Int32 → zM} {a idx : Nat} (hd1 : 8 ≤ d) (hlk : Cond.methodLink mi.1 idx ⟨"java/lang/String", "length", "()I"⟩ ∈ tb) (hw : (S.map fun v => v.category).sum ≤ 8) (hd : decode mi.2.1 pc = .ok (.invokevirtual idx, 3)) (kk : ∀ x : Int32, zCo l d rc rs mi (pc + 3) L (.int x :: S) (F x)) : zCo l d rc rs mi pc L (.ref a :: S) (z_slen a F) := by
  obtain ⟨e, rfl⟩ : ∃ e, d = e + 2 := ⟨d - 2, by omega⟩
  have he : z_slen a F = z_ck (zB ≤ a ∧ a < zB + 16) (z_ci (zs_p1 (a - zB)) F) := by
    funext h
    unfold z_slen z_ck
    by_cases c : zB ≤ a ∧ a < zB + 16
    · rw [if_pos c, if_pos c, h_ci (zs_e1 (by omega) h)]
    · rw [if_neg c, if_neg c]
  rw [he]
  refine zco_ckk (fun hc => ?_)
  obtain ⟨i, rfl⟩ : ∃ i, a = zB + i := ⟨a - zB, by omega⟩
  have hi : i < 16 := by omega
  rw [show zB + i - zB = i by omega]
  exact zco_VsI (mc := 0) (ms := 0) (As := []) (S := S) (n := 0) hi rfl zs_c1 zs_i1 zs_s1 zs_in ⟨by decide +kernel, by decide +kernel, rfl⟩ (by decide) (zs_m1 l e hi) hlk rfl rfl hw hd kk
theorem zco_sch {F : Int32 → zM} {a idx : Nat} {i : Int32} (hd1 : 8 ≤ d) (hlk : Cond.methodLink mi.1 idx ⟨"java/lang/String", "charAt", "(I)C"⟩ ∈ tb) (hw : (S.map fun v => v.category).sum ≤ 8) (hd : decode mi.2.1 pc = .ok (.invokevirtual idx, 3)) (kk : ∀ x : Int32, zCo l d rc rs mi (pc + 3) L (.int x :: S) (F x)) : zCo l d rc rs mi pc L (.int i :: .ref a :: S) (z_sch a i F) := by
  obtain ⟨e, rfl⟩ : ∃ e, d = e + 4 := ⟨d - 4, by omega⟩
  have he : z_sch a i F = z_ck ((zB ≤ a ∧ a < zB + 16) ∧ (0 ≤ i.toInt ∧ i.toInt < (zs_len.getD (a - zB) 0 : Nat))) (z_ci (zs_p3 (a - zB) i) F) := by
    funext h
    unfold z_sch z_ck
    by_cases c : (zB ≤ a ∧ a < zB + 16) ∧ (0 ≤ i.toInt ∧ i.toInt < (zs_len.getD (a - zB) 0 : Nat))
    · rw [if_pos c, if_pos c, h_ci (zs_e3 (by omega) c.2 h)]
    · rw [if_neg c, if_neg c]
  rw [he]
  refine zco_ckk (fun hc => ?_)
  obtain ⟨j, rfl⟩ : ∃ j, a = zB + j := ⟨a - zB, by omega⟩
  have hj : j < 16 := by omega
  rw [show zB + j - zB = j by omega]
  exact zco_VsI (mc := 0) (ms := 0) (As := [.int i]) (S := S) (n := 1) hj rfl zs_c3 zs_i3 zs_s3 zs_in ⟨by decide +kernel, by decide +kernel, rfl⟩ (by decide) (zs_m3 l e hj i) hlk rfl rfl hw hd kk
end ZSU
