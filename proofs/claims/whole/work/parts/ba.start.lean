/-! the law's start: what the Statement gives of it -/
section Bba
theorem st_prim {args : Array Value} {s : State} {ty : FieldType} (hp : ∀ C, ty ≠ .object C) (h : (Cond.arrayClass ty).before args s = true) : ∃ cA : ClassId, ArrOfT s cA ty ∧ va_RA s cA ty := by
  obtain ⟨cA, kA, comp, h1, h2, h3⟩ := Cond.arrayClass_spec h
  refine ⟨cA, fun n z => ⟨fun k h => (by cases h), kA, h2, comp, h3⟩, ?_⟩
  cases ty <;> first | exact h1 | exact absurd rfl (hp _)
theorem st_obj {args : Array Value} {s : State} {C : String} (h : (Cond.arrayOver (.object C)).before args s = true) : ∃ cA : ClassId, ArrOfT s cA (.object C) ∧ va_RA s cA (.object C) := by
  obtain ⟨comp, c, k, h1, h2, h3, h4, h5⟩ := Cond.arrayOver_spec h
  exact ⟨c, fun n z => ⟨fun k h => (by cases h), k, h3, comp, h4⟩, k, comp, h3, h4, h1, h5⟩
set_option maxRecDepth 20000 in
theorem st_cl : ∀ (c : Nat) (q : vw_C), cl_s[c]? = some q → ∃ n, Cond.instantiable q.1 n ∈ tb := by
  intro c q h
  match c, h with
  | 0, h => cases h; exact ⟨_, tb_of 456 rfl rfl⟩
  | 1, h => cases h; exact ⟨_, tb_of 289 rfl rfl⟩
  | 2, h => cases h; exact ⟨_, tb_of 273 rfl rfl⟩
  | 3, h => cases h; exact ⟨_, tb_of 210 rfl rfl⟩
  | 4, h => cases h; exact ⟨_, tb_of 232 rfl rfl⟩
  | 5, h => cases h; exact ⟨_, tb_of 479 rfl rfl⟩
  | 6, h => cases h; exact ⟨_, tb_of 500 rfl rfl⟩
  | 7, h => cases h; exact ⟨_, tb_of 204 rfl rfl⟩
  | 8, h => cases h; exact ⟨_, tb_of 372 rfl rfl⟩
  | 9, h => cases h; exact ⟨_, tb_of 179 rfl rfl⟩
  | 10, h => cases h; exact ⟨_, tb_of 430 rfl rfl⟩
  | 11, h => cases h; exact ⟨_, tb_of 171 rfl rfl⟩
  | 12, h => cases h; exact ⟨_, tb_of 1383 rfl rfl⟩
  | k + 13, h => exact absurd (List.getElem?_eq_some_iff.mp h).1 (by show ¬ k + 13 < 13; omega)
theorem st_K {args : Array Value} {s : State} (hts : ∀ w ∈ lw_tbl, w.before args s = true) : ∃ (D : va_G) (t : Nat → ClassId), va_K D cl_s [(t 0, .int), (t 1, .boolean), (t 2, .char), (t 3, .long), (t 4, .object "ClothWedding$State")] s := by
  have h : ∀ c : Nat, ∃ p : ClassId × (Nat → Nat), ∀ q : vw_C, cl_s[c]? = some q → u_Kn s q.1 q.2.1 q.2.2 p.1 p.2 := by
    intro c
    cases hq : cl_s[c]? with
    | none => exact ⟨(0, fun _ => 0), fun q h => by cases h⟩
    | some q =>
      obtain ⟨n, hn⟩ := st_cl c q hq
      obtain ⟨cC, iS, hk⟩ := u_known (T := q.2.1) (N := q.2.2) (ws := tb) (fun w hw => hts w (tb_lw w hw)) (cl_oks c q hq).1 (hts _ (tb_lw _ hn))
      exact ⟨(cC, iS), fun q2 h => by cases h; exact hk⟩
  obtain ⟨f, hf⟩ := Classical.axiomOfChoice h
  obtain ⟨t0, a0⟩ := st_prim (ty := .int) (fun C h => by cases h) (hts _ (List.mem_of_getElem? (i := 202) (by decide +kernel)))
  obtain ⟨t1, a1⟩ := st_prim (ty := .boolean) (fun C h => by cases h) (hts _ (List.mem_of_getElem? (i := 370) (by decide +kernel)))
  obtain ⟨t2, a2⟩ := st_prim (ty := .char) (fun C h => by cases h) (hts _ (List.mem_of_getElem? (i := 1737) (by decide +kernel)))
  obtain ⟨t3, a3⟩ := st_prim (ty := .long) (fun C h => by cases h) (hts _ (List.mem_of_getElem? (i := 1738) (by decide +kernel)))
  obtain ⟨t4, a4⟩ := st_obj (C := "ClothWedding$State") (hts _ (List.mem_of_getElem? (i := 506) (by decide +kernel)))
  refine ⟨(fun c => (f c).1, fun c => (f c).2), fun k => if k = 0 then t0 else if k = 1 then t1 else if k = 2 then t2 else if k = 3 then t3 else t4, fun c q hq => hf c q hq, fun k q hk => ?_⟩
  match k, hk with
  | 0, hk => cases hk; exact a0
  | 1, hk => cases hk; exact a1
  | 2, hk => cases hk; exact a2
  | 3, hk => cases hk; exact a3
  | 4, hk => cases hk; exact a4
  | k + 5, hk => exact absurd (List.getElem?_eq_some_iff.mp hk).1 (by show ¬ k + 5 < 5; omega)
def zs_tm : Nat → Term := fun i => match z_strs[i]? with | some q => .string q.1 q.2.1 | none => .null
abbrev st_L : List Cond := flatC (Jvm.Cond.and given_1 narrow_1)
def st_ef (i j : Nat) : Cond := .eq (.elem (.field (zs_tm i) "java/lang/String" "value" "[B") (.int (Int32.ofNat j))) (.int ((zs_byt.getD i []).getD j 0))
def st_nf (i j : Nat) : Cond := .not (.eq (zs_tm i) (zs_tm j))
theorem st_e0 : ∀ j, j < 52 → st_ef 0 j ∈ st_L := fun j hj => va_run (p := 19) (N := 52) (f := fun j => st_ef 0 j) (by decide +kernel) j hj
theorem st_e1 : ∀ j, j < 56 → st_ef 1 j ∈ st_L := fun j hj => va_run (p := 75) (N := 56) (f := fun j => st_ef 1 j) (by decide +kernel) j hj
theorem st_e2 : ∀ j, j < 148 → st_ef 2 j ∈ st_L := fun j hj => va_run (p := 136) (N := 148) (f := fun j => st_ef 2 j) (by decide +kernel) j hj
theorem st_e3 : ∀ j, j < 4 → st_ef 3 j ∈ st_L := fun j hj => va_run (p := 290) (N := 4) (f := fun j => st_ef 3 j) (by decide +kernel) j hj
theorem st_e4 : ∀ j, j < 4 → st_ef 4 j ∈ st_L := fun j hj => va_run (p := 301) (N := 4) (f := fun j => st_ef 4 j) (by decide +kernel) j hj
theorem st_e5 : ∀ j, j < 4 → st_ef 5 j ∈ st_L := fun j hj => va_run (p := 313) (N := 4) (f := fun j => st_ef 5 j) (by decide +kernel) j hj
theorem st_e6 : ∀ j, j < 3 → st_ef 6 j ∈ st_L := fun j hj => va_run (p := 326) (N := 3) (f := fun j => st_ef 6 j) (by decide +kernel) j hj
theorem st_e7 : ∀ j, j < 3 → st_ef 7 j ∈ st_L := fun j hj => va_run (p := 339) (N := 3) (f := fun j => st_ef 7 j) (by decide +kernel) j hj
theorem st_e8 : ∀ j, j < 3 → st_ef 8 j ∈ st_L := fun j hj => va_run (p := 353) (N := 3) (f := fun j => st_ef 8 j) (by decide +kernel) j hj
theorem st_e9 : ∀ j, j < 3 → st_ef 9 j ∈ st_L := fun j hj => va_run (p := 368) (N := 3) (f := fun j => st_ef 9 j) (by decide +kernel) j hj
theorem st_e10 : ∀ j, j < 5 → st_ef 10 j ∈ st_L := fun j hj => va_run (p := 384) (N := 5) (f := fun j => st_ef 10 j) (by decide +kernel) j hj
theorem st_e11 : ∀ j, j < 5 → st_ef 11 j ∈ st_L := fun j hj => va_run (p := 403) (N := 5) (f := fun j => st_ef 11 j) (by decide +kernel) j hj
theorem st_e12 : ∀ j, j < 3 → st_ef 12 j ∈ st_L := fun j hj => va_run (p := 423) (N := 3) (f := fun j => st_ef 12 j) (by decide +kernel) j hj
theorem st_e13 : ∀ j, j < 2 → st_ef 13 j ∈ st_L := fun j hj => va_run (p := 442) (N := 2) (f := fun j => st_ef 13 j) (by decide +kernel) j hj
theorem st_e14 : ∀ j, j < 50 → st_ef 14 j ∈ st_L := fun j hj => va_run (p := 461) (N := 50) (f := fun j => st_ef 14 j) (by decide +kernel) j hj
theorem st_e15 : ∀ j, j < 33 → st_ef 15 j ∈ st_L := fun j hj => va_run (p := 529) (N := 33) (f := fun j => st_ef 15 j) (by decide +kernel) j hj
theorem st_n1 : ∀ i, i < 1 → st_nf i 1 ∈ st_L := fun i hi => va_run (p := 131) (N := 1) (f := fun i => st_nf i 1) (by decide +kernel) i hi
theorem st_n2 : ∀ i, i < 2 → st_nf i 2 ∈ st_L := fun i hi => va_run (p := 284) (N := 2) (f := fun i => st_nf i 2) (by decide +kernel) i hi
theorem st_n3 : ∀ i, i < 3 → st_nf i 3 ∈ st_L := fun i hi => va_run (p := 294) (N := 3) (f := fun i => st_nf i 3) (by decide +kernel) i hi
theorem st_n4 : ∀ i, i < 4 → st_nf i 4 ∈ st_L := fun i hi => va_run (p := 305) (N := 4) (f := fun i => st_nf i 4) (by decide +kernel) i hi
theorem st_n5 : ∀ i, i < 5 → st_nf i 5 ∈ st_L := fun i hi => va_run (p := 317) (N := 5) (f := fun i => st_nf i 5) (by decide +kernel) i hi
theorem st_n6 : ∀ i, i < 6 → st_nf i 6 ∈ st_L := fun i hi => va_run (p := 329) (N := 6) (f := fun i => st_nf i 6) (by decide +kernel) i hi
theorem st_n7 : ∀ i, i < 7 → st_nf i 7 ∈ st_L := fun i hi => va_run (p := 342) (N := 7) (f := fun i => st_nf i 7) (by decide +kernel) i hi
theorem st_n8 : ∀ i, i < 8 → st_nf i 8 ∈ st_L := fun i hi => va_run (p := 356) (N := 8) (f := fun i => st_nf i 8) (by decide +kernel) i hi
theorem st_n9 : ∀ i, i < 9 → st_nf i 9 ∈ st_L := fun i hi => va_run (p := 371) (N := 9) (f := fun i => st_nf i 9) (by decide +kernel) i hi
theorem st_n10 : ∀ i, i < 10 → st_nf i 10 ∈ st_L := fun i hi => va_run (p := 389) (N := 10) (f := fun i => st_nf i 10) (by decide +kernel) i hi
theorem st_n11 : ∀ i, i < 11 → st_nf i 11 ∈ st_L := fun i hi => va_run (p := 408) (N := 11) (f := fun i => st_nf i 11) (by decide +kernel) i hi
theorem st_n12 : ∀ i, i < 12 → st_nf i 12 ∈ st_L := fun i hi => va_run (p := 426) (N := 12) (f := fun i => st_nf i 12) (by decide +kernel) i hi
theorem st_n13 : ∀ i, i < 13 → st_nf i 13 ∈ st_L := fun i hi => va_run (p := 444) (N := 13) (f := fun i => st_nf i 13) (by decide +kernel) i hi
theorem st_n14 : ∀ i, i < 14 → st_nf i 14 ∈ st_L := fun i hi => va_run (p := 511) (N := 14) (f := fun i => st_nf i 14) (by decide +kernel) i hi
theorem st_n15 : ∀ i, i < 15 → st_nf i 15 ∈ st_L := fun i hi => va_run (p := 562) (N := 15) (f := fun i => st_nf i 15) (by decide +kernel) i hi
theorem st_el : ∀ i, i < 16 → ∀ j, j < zs_len.getD i 0 → st_ef i j ∈ st_L := by
  intro i hi
  match i, hi with
  | 0, _ => exact st_e0
  | 1, _ => exact st_e1
  | 2, _ => exact st_e2
  | 3, _ => exact st_e3
  | 4, _ => exact st_e4
  | 5, _ => exact st_e5
  | 6, _ => exact st_e6
  | 7, _ => exact st_e7
  | 8, _ => exact st_e8
  | 9, _ => exact st_e9
  | 10, _ => exact st_e10
  | 11, _ => exact st_e11
  | 12, _ => exact st_e12
  | 13, _ => exact st_e13
  | 14, _ => exact st_e14
  | 15, _ => exact st_e15
  | k + 16, h => omega
theorem st_ne : ∀ j, j < 16 → ∀ i, i < j → st_nf i j ∈ st_L := by
  intro j hj
  match j, hj with
  | 0, _ => intro i hi; omega
  | 1, _ => exact st_n1
  | 2, _ => exact st_n2
  | 3, _ => exact st_n3
  | 4, _ => exact st_n4
  | 5, _ => exact st_n5
  | 6, _ => exact st_n6
  | 7, _ => exact st_n7
  | 8, _ => exact st_n8
  | 9, _ => exact st_n9
  | 10, _ => exact st_n10
  | 11, _ => exact st_n11
  | 12, _ => exact st_n12
  | 13, _ => exact st_n13
  | 14, _ => exact st_n14
  | 15, _ => exact st_n15
  | k + 16, h => omega
theorem st_S {b : Nat} {s : State} (h : (Jvm.Cond.and given_1 narrow_1).before #[Value.ref b] s = true) : ∃ adK adV : Nat → Nat, vk_S 16 zs_len zs_byt adK adV (fun q => s.heap.size ≤ q) s s.heap ∧ ∀ i : Nat, i < 16 → (zs_tm i).eval #[Value.ref b] s none [] s = some (.ref (adK i)) := by
  have hs := flat_of_before _ h
  refine vk_Sof (A := fun q => s.heap.size ≤ q) (tm := zs_tm) (len := zs_len) (byt := zs_byt) (N := 16) (fun i hi => by revert i hi; decide) (fun i hi => hs _ (by revert i hi; decide +kernel)) (fun i hi => hs _ (by revert i hi; decide +kernel)) (fun i hi => hs _ (by revert i hi; decide +kernel)) (fun i hi => hs _ (by revert i hi; decide +kernel)) (fun i hi j hj => hs _ (st_el i hi j hj)) (fun i j hi hj hij => ?_) (fun a h9 => Nat.not_le.mpr h9)
  by_cases c : i < j
  · exact Or.inl (hs _ (st_ne j hj i c))
  · exact Or.inr (hs _ (st_ne i hi j (by omega)))
theorem st_parts {b : Nat} {s : State} (h : (Jvm.Cond.and given_1 narrow_1).before #[Value.ref b] s = true) : ∃ t : Nat, (Term.static "ClothWedding" "PARTS_OF" "[I").eval #[Value.ref b] s none [] s = some (.ref t) ∧ va_T .int t 3 (fun j => .int (z_parts j)) (fun q => s.heap.size ≤ q) s s.heap := by
  have hs := flat_of_before _ h
  exact va_Tof (tm := .static "ClothWedding" "PARTS_OF" "[I") (N := 3) (f := fun j => .int (z_parts j)) (by decide) (hs _ (by decide +kernel)) (va_eqt (hs _ (by decide +kernel))) (fun j hj => va_eqt (hs _ (by revert j hj; decide +kernel))) (fun a h9 => Nat.not_le.mpr h9)
theorem st_strs : ∀ q ∈ z_strs, Cond.stringRef q.1 q.2.1 q.2.2 ∈ lw_tbl := by decide +kernel
end Bba
