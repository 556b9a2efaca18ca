theorem z_nest_warm {s U : State} (hW : s.WarmedH U.vm) : ∀ w ∈ z_nest, va_Nw w s → va_Nw w U := by
  simp only [z_nest, List.forall_mem_cons]
  exact ⟨fun h => va_Nw.warmM hW h, fun h => va_Nw.warmM hW h, fun h => va_Nw.warmM hW h, fun h => va_Nw.warmM hW h, fun h => va_Nw.warmM hW h, fun h => va_Nw.warmM hW h, fun h => va_Nw.warmM hW h, fun h => va_Nw.warmM hW h, fun h => va_Nw.warmM hW h, fun h => va_Nw.warmM hW h, fun h => va_Nw.warmM hW h, fun h => va_Nw.warmM hW h, fun h => va_Nw.warmF hW h, fun h => va_Nw.warmM hW h, fun h => va_Nw.warmM hW h, fun h => va_Nw.warmM hW h, fun h => va_Nw.warmM hW h, fun h => va_Nw.warmM hW h, fun h => va_Nw.warmM hW h, fun h => va_Nw.warmM hW h, fun h => va_Nw.warmM hW h, fun h => va_Nw.warmM hW h, fun h => va_Nw.warmM hW h, fun h => va_Nw.warmM hW h, fun h => va_Nw.warmM hW h, fun h => va_Nw.warmM hW h, fun _ h => absurd h List.not_mem_nil⟩
theorem zX_go {G : zG} {s U : State} {H : Heap} {locs : List Loc} (hX : zX G s s.heap) (hS : va_S (zA G) s.heap H locs) (hU : U.heap = H) (hW : s.WarmedH U.vm) : zX G U U.heap := by
  obtain ⟨⟨x1, x0⟩, x2, x3, x4, x5, x6, x7⟩ := hX
  rw [hU]
  refine ⟨⟨(x1.kept hS.2.1).moved hW.alike, x0.imp (fun x0 => (x0.kept hS.2.1).moved hW.alike) (fun x0 => (x0.kept hS.2.1).moved hW.alike)⟩, fun i q hq => (x2 i q hq).warm hW, fun w hw => z_nest_warm hW w hw (x3 w hw), va_AO.moved hW.alike x4, (x5.kept hS.2.1).moved hW.alike, (x6.kept hS.2.1).moved hW.alike, (x7.kept hS.2.1).moved hW.alike⟩
/-- locals and stack alone, over a stretch of code -/
def zrun (nL : Nat) : List (Nat × Instr × Nat) → Nat → List (Nat × Value) → List Value → Option (Nat × List (Nat × Value) × List Value)
  | [], pc, L, S => some (pc, L, S)
  | (q, i, len) :: ts, pc, L, S => if q = pc then (match zst nL i pc len L S with | some (pc1, L1, S1) => zrun nL ts pc1 L1 S1 | none => none) else none
section ZR
variable {l : Launch} {d rc rs : Nat} {mi : zI} {pc : Nat} {L : List (Nat × Value)} {S : List Value} {f g : zM}
theorem zco_run : ∀ (ts : List (Nat × Instr × Nat)) (_ : ∀ q ∈ ts, decode mi.2.1 q.1 = .ok q.2) {pc : Nat} {L : List (Nat × Value)} {S : List Value} {pc' : Nat} {L' : List (Nat × Value)} {S' : List Value} (_ : zrun mi.2.2.1 ts pc L S = some (pc', L', S')) (_ : zCo l d rc rs mi pc' L' S' f), zCo l d rc rs mi pc L S f := by
  intro ts
  induction ts with
  | nil => intro _ pc L S pc' L' S' h kk; cases h; exact kk
  | cons q ts ih =>
    intro hts pc L S pc' L' S' h kk
    obtain ⟨q0, i, len⟩ := q
    unfold zrun at h
    split at h
    · rename_i hq
      subst hq
      split at h
      · rename_i pc1 L1 S1 hs
        have k1 := ih (fun q hq => hts q (List.mem_cons_of_mem _ hq)) h kk
        intro G h r h2 hf p e s m args below meth cd H locs cells slots R ls Fx hR hP hS hl
        exact zst_ok Fx.1 Fx.2.1 (hts _ List.mem_cons_self) hs hl (fun ls' hl' => k1 G h r h2 hf p e s m args below meth cd H locs cells slots R ls' Fx hR hP hS hl')
      · cases h
    · cases h
theorem zco_p {T : List (Nat × Instr × Nat)} (hT : ∀ q ∈ T, decode mi.2.1 q.1 = .ok q.2) (j n : Nat) {pc' : Nat} {L' : List (Nat × Value)} {S' : List Value} (h : zrun mi.2.2.1 ((T.drop j).take n) pc L S = some (pc', L', S')) (kk : zCo l d rc rs mi pc' L' S' f) : zCo l d rc rs mi pc L S f :=
  zco_run _ (fun q hq => hT q (List.mem_of_mem_drop (List.mem_of_mem_take hq))) h kk
theorem zco_sub (ks : List Nat) {L' : List (Nat × Value)} (h : lv_pick L ks = L') (kk : zCo l d rc rs mi pc L' S f) : zCo l d rc rs mi pc L S f := by
  intro G h r h2 hf p e s m args below meth cd H locs cells slots R ls Fx hR hP hS hl
  refine kk G h r h2 hf p e s m args below meth cd H locs cells slots R ls Fx hR hP hS (lv_sub hl ks ?_)
  rw [← ‹lv_pick L ks = L'›]
  simp only [lv_pick, List.map_filterMap, List.getElem?_map]
theorem zco_fix {α : Type} {body : (α → zM) → α → zM} {Lf : α → List (Nat × Value)} {Sf : α → List Value} (hb : ∀ rec : α → zM, (∀ x, zCo l d rc rs mi pc (Lf x) (Sf x) (rec x)) → ∀ x, zCo l d rc rs mi pc (Lf x) (Sf x) (body rec x)) : ∀ (n : Nat) (x : α), zCo l d rc rs mi pc (Lf x) (Sf x) (z_fix body n x) := by
  intro n
  induction n with
  | zero => intro x G h r h2 hf; cases hf
  | succ n ih => intro x; exact hb (z_fix body n) ih x
theorem zco_eq {f' : zM} (h : f = f') (kk : zCo l d rc rs mi pc L S f') : zCo l d rc rs mi pc L S f := h ▸ kk
theorem zco_icmp_eq {x y : Int32} {off : Int} {tgt : Nat} (hd : decode mi.2.1 pc = .ok (.if_icmp .eq off, 3)) (ht : (pc : Int) + off = (tgt : Int)) (k1 : zCo l d rc rs mi tgt L S f) (k2 : zCo l d rc rs mi (pc + 3) L S g) : zCo l d rc rs mi pc L (.int y :: .int x :: S) (z_if (x = y) f g) := by
  intro G h r h2 hf p e s m args below meth cd H locs cells slots R ls Fx hR hP hS hl
  obtain ⟨hx, hb, hml, hr, hown, hlocks, hin, hts, hK, hX, hB⟩ := id Fx
  unfold z_if at hf
  refine lv_icmp_eq hx hb hd ht (fun q => ?_) (fun q => ?_)
  · first | rw [if_pos q] at hf | rw [if_neg q] at hf
    exact k1 G h r h2 hf p e s m args below meth cd H locs cells slots R ls Fx hR hP hS hl
  · first | rw [if_neg q] at hf | rw [if_pos q] at hf
    exact k2 G h r h2 hf p e s m args below meth cd H locs cells slots R ls Fx hR hP hS hl
theorem zco_icmp_ne {x y : Int32} {off : Int} {tgt : Nat} (hd : decode mi.2.1 pc = .ok (.if_icmp .ne off, 3)) (ht : (pc : Int) + off = (tgt : Int)) (k1 : zCo l d rc rs mi tgt L S g) (k2 : zCo l d rc rs mi (pc + 3) L S f) : zCo l d rc rs mi pc L (.int y :: .int x :: S) (z_if (x = y) f g) := by
  intro G h r h2 hf p e s m args below meth cd H locs cells slots R ls Fx hR hP hS hl
  obtain ⟨hx, hb, hml, hr, hown, hlocks, hin, hts, hK, hX, hB⟩ := id Fx
  unfold z_if at hf
  refine lv_icmp_ne hx hb hd ht (fun q => ?_) (fun q => ?_)
  · first | rw [if_pos q] at hf | rw [if_neg q] at hf
    exact k1 G h r h2 hf p e s m args below meth cd H locs cells slots R ls Fx hR hP hS hl
  · first | rw [if_neg q] at hf | rw [if_pos q] at hf
    exact k2 G h r h2 hf p e s m args below meth cd H locs cells slots R ls Fx hR hP hS hl
theorem zco_icmp_lt {x y : Int32} {off : Int} {tgt : Nat} (hd : decode mi.2.1 pc = .ok (.if_icmp .lt off, 3)) (ht : (pc : Int) + off = (tgt : Int)) (k1 : zCo l d rc rs mi tgt L S f) (k2 : zCo l d rc rs mi (pc + 3) L S g) : zCo l d rc rs mi pc L (.int y :: .int x :: S) (z_if (x < y) f g) := by
  intro G h r h2 hf p e s m args below meth cd H locs cells slots R ls Fx hR hP hS hl
  obtain ⟨hx, hb, hml, hr, hown, hlocks, hin, hts, hK, hX, hB⟩ := id Fx
  unfold z_if at hf
  refine lv_icmp_lt hx hb hd ht (fun q => ?_) (fun q => ?_)
  · first | rw [if_pos q] at hf | rw [if_neg q] at hf
    exact k1 G h r h2 hf p e s m args below meth cd H locs cells slots R ls Fx hR hP hS hl
  · first | rw [if_neg q] at hf | rw [if_pos q] at hf
    exact k2 G h r h2 hf p e s m args below meth cd H locs cells slots R ls Fx hR hP hS hl
theorem zco_icmp_ge {x y : Int32} {off : Int} {tgt : Nat} (hd : decode mi.2.1 pc = .ok (.if_icmp .ge off, 3)) (ht : (pc : Int) + off = (tgt : Int)) (k1 : zCo l d rc rs mi tgt L S f) (k2 : zCo l d rc rs mi (pc + 3) L S g) : zCo l d rc rs mi pc L (.int y :: .int x :: S) (z_if (y ≤ x) f g) := by
  intro G h r h2 hf p e s m args below meth cd H locs cells slots R ls Fx hR hP hS hl
  obtain ⟨hx, hb, hml, hr, hown, hlocks, hin, hts, hK, hX, hB⟩ := id Fx
  unfold z_if at hf
  refine lv_icmp_ge hx hb hd ht (fun q => ?_) (fun q => ?_)
  · first | rw [if_pos q] at hf | rw [if_neg q] at hf
    exact k1 G h r h2 hf p e s m args below meth cd H locs cells slots R ls Fx hR hP hS hl
  · first | rw [if_neg q] at hf | rw [if_pos q] at hf
    exact k2 G h r h2 hf p e s m args below meth cd H locs cells slots R ls Fx hR hP hS hl
theorem zco_icmp_gt {x y : Int32} {off : Int} {tgt : Nat} (hd : decode mi.2.1 pc = .ok (.if_icmp .gt off, 3)) (ht : (pc : Int) + off = (tgt : Int)) (k1 : zCo l d rc rs mi tgt L S f) (k2 : zCo l d rc rs mi (pc + 3) L S g) : zCo l d rc rs mi pc L (.int y :: .int x :: S) (z_if (y < x) f g) := by
  intro G h r h2 hf p e s m args below meth cd H locs cells slots R ls Fx hR hP hS hl
  obtain ⟨hx, hb, hml, hr, hown, hlocks, hin, hts, hK, hX, hB⟩ := id Fx
  unfold z_if at hf
  refine lv_icmp_gt hx hb hd ht (fun q => ?_) (fun q => ?_)
  · first | rw [if_pos q] at hf | rw [if_neg q] at hf
    exact k1 G h r h2 hf p e s m args below meth cd H locs cells slots R ls Fx hR hP hS hl
  · first | rw [if_neg q] at hf | rw [if_pos q] at hf
    exact k2 G h r h2 hf p e s m args below meth cd H locs cells slots R ls Fx hR hP hS hl
theorem zco_icmp_le {x y : Int32} {off : Int} {tgt : Nat} (hd : decode mi.2.1 pc = .ok (.if_icmp .le off, 3)) (ht : (pc : Int) + off = (tgt : Int)) (k1 : zCo l d rc rs mi tgt L S f) (k2 : zCo l d rc rs mi (pc + 3) L S g) : zCo l d rc rs mi pc L (.int y :: .int x :: S) (z_if (x ≤ y) f g) := by
  intro G h r h2 hf p e s m args below meth cd H locs cells slots R ls Fx hR hP hS hl
  obtain ⟨hx, hb, hml, hr, hown, hlocks, hin, hts, hK, hX, hB⟩ := id Fx
  unfold z_if at hf
  refine lv_icmp_le hx hb hd ht (fun q => ?_) (fun q => ?_)
  · first | rw [if_pos q] at hf | rw [if_neg q] at hf
    exact k1 G h r h2 hf p e s m args below meth cd H locs cells slots R ls Fx hR hP hS hl
  · first | rw [if_neg q] at hf | rw [if_pos q] at hf
    exact k2 G h r h2 hf p e s m args below meth cd H locs cells slots R ls Fx hR hP hS hl
theorem zco_if_eq {x : Int32} {off : Int} {tgt : Nat} (hd : decode mi.2.1 pc = .ok (.ifCond .eq off, 3)) (ht : (pc : Int) + off = (tgt : Int)) (k1 : zCo l d rc rs mi tgt L S f) (k2 : zCo l d rc rs mi (pc + 3) L S g) : zCo l d rc rs mi pc L (.int x :: S) (z_if (x = 0) f g) := by
  intro G h r h2 hf p e s m args below meth cd H locs cells slots R ls Fx hR hP hS hl
  obtain ⟨hx, hb, hml, hr, hown, hlocks, hin, hts, hK, hX, hB⟩ := id Fx
  unfold z_if at hf
  refine lv_if_eq hx hb hd ht (fun q => ?_) (fun q => ?_)
  · first | rw [if_pos q] at hf | rw [if_neg q] at hf
    exact k1 G h r h2 hf p e s m args below meth cd H locs cells slots R ls Fx hR hP hS hl
  · first | rw [if_neg q] at hf | rw [if_pos q] at hf
    exact k2 G h r h2 hf p e s m args below meth cd H locs cells slots R ls Fx hR hP hS hl
theorem zco_if_ne {x : Int32} {off : Int} {tgt : Nat} (hd : decode mi.2.1 pc = .ok (.ifCond .ne off, 3)) (ht : (pc : Int) + off = (tgt : Int)) (k1 : zCo l d rc rs mi tgt L S g) (k2 : zCo l d rc rs mi (pc + 3) L S f) : zCo l d rc rs mi pc L (.int x :: S) (z_if (x = 0) f g) := by
  intro G h r h2 hf p e s m args below meth cd H locs cells slots R ls Fx hR hP hS hl
  obtain ⟨hx, hb, hml, hr, hown, hlocks, hin, hts, hK, hX, hB⟩ := id Fx
  unfold z_if at hf
  refine lv_if_ne hx hb hd ht (fun q => ?_) (fun q => ?_)
  · first | rw [if_pos q] at hf | rw [if_neg q] at hf
    exact k1 G h r h2 hf p e s m args below meth cd H locs cells slots R ls Fx hR hP hS hl
  · first | rw [if_neg q] at hf | rw [if_pos q] at hf
    exact k2 G h r h2 hf p e s m args below meth cd H locs cells slots R ls Fx hR hP hS hl
theorem zco_if_lt {x : Int32} {off : Int} {tgt : Nat} (hd : decode mi.2.1 pc = .ok (.ifCond .lt off, 3)) (ht : (pc : Int) + off = (tgt : Int)) (k1 : zCo l d rc rs mi tgt L S f) (k2 : zCo l d rc rs mi (pc + 3) L S g) : zCo l d rc rs mi pc L (.int x :: S) (z_if (x < 0) f g) := by
  intro G h r h2 hf p e s m args below meth cd H locs cells slots R ls Fx hR hP hS hl
  obtain ⟨hx, hb, hml, hr, hown, hlocks, hin, hts, hK, hX, hB⟩ := id Fx
  unfold z_if at hf
  refine lv_if_lt hx hb hd ht (fun q => ?_) (fun q => ?_)
  · first | rw [if_pos q] at hf | rw [if_neg q] at hf
    exact k1 G h r h2 hf p e s m args below meth cd H locs cells slots R ls Fx hR hP hS hl
  · first | rw [if_neg q] at hf | rw [if_pos q] at hf
    exact k2 G h r h2 hf p e s m args below meth cd H locs cells slots R ls Fx hR hP hS hl
theorem zco_if_ge {x : Int32} {off : Int} {tgt : Nat} (hd : decode mi.2.1 pc = .ok (.ifCond .ge off, 3)) (ht : (pc : Int) + off = (tgt : Int)) (k1 : zCo l d rc rs mi tgt L S f) (k2 : zCo l d rc rs mi (pc + 3) L S g) : zCo l d rc rs mi pc L (.int x :: S) (z_if (0 ≤ x) f g) := by
  intro G h r h2 hf p e s m args below meth cd H locs cells slots R ls Fx hR hP hS hl
  obtain ⟨hx, hb, hml, hr, hown, hlocks, hin, hts, hK, hX, hB⟩ := id Fx
  unfold z_if at hf
  refine lv_if_ge hx hb hd ht (fun q => ?_) (fun q => ?_)
  · first | rw [if_pos q] at hf | rw [if_neg q] at hf
    exact k1 G h r h2 hf p e s m args below meth cd H locs cells slots R ls Fx hR hP hS hl
  · first | rw [if_neg q] at hf | rw [if_pos q] at hf
    exact k2 G h r h2 hf p e s m args below meth cd H locs cells slots R ls Fx hR hP hS hl
theorem zco_if_gt {x : Int32} {off : Int} {tgt : Nat} (hd : decode mi.2.1 pc = .ok (.ifCond .gt off, 3)) (ht : (pc : Int) + off = (tgt : Int)) (k1 : zCo l d rc rs mi tgt L S f) (k2 : zCo l d rc rs mi (pc + 3) L S g) : zCo l d rc rs mi pc L (.int x :: S) (z_if (0 < x) f g) := by
  intro G h r h2 hf p e s m args below meth cd H locs cells slots R ls Fx hR hP hS hl
  obtain ⟨hx, hb, hml, hr, hown, hlocks, hin, hts, hK, hX, hB⟩ := id Fx
  unfold z_if at hf
  refine lv_if_gt hx hb hd ht (fun q => ?_) (fun q => ?_)
  · first | rw [if_pos q] at hf | rw [if_neg q] at hf
    exact k1 G h r h2 hf p e s m args below meth cd H locs cells slots R ls Fx hR hP hS hl
  · first | rw [if_neg q] at hf | rw [if_pos q] at hf
    exact k2 G h r h2 hf p e s m args below meth cd H locs cells slots R ls Fx hR hP hS hl
theorem zco_if_le {x : Int32} {off : Int} {tgt : Nat} (hd : decode mi.2.1 pc = .ok (.ifCond .le off, 3)) (ht : (pc : Int) + off = (tgt : Int)) (k1 : zCo l d rc rs mi tgt L S f) (k2 : zCo l d rc rs mi (pc + 3) L S g) : zCo l d rc rs mi pc L (.int x :: S) (z_if (x ≤ 0) f g) := by
  intro G h r h2 hf p e s m args below meth cd H locs cells slots R ls Fx hR hP hS hl
  obtain ⟨hx, hb, hml, hr, hown, hlocks, hin, hts, hK, hX, hB⟩ := id Fx
  unfold z_if at hf
  refine lv_if_le hx hb hd ht (fun q => ?_) (fun q => ?_)
  · first | rw [if_pos q] at hf | rw [if_neg q] at hf
    exact k1 G h r h2 hf p e s m args below meth cd H locs cells slots R ls Fx hR hP hS hl
  · first | rw [if_neg q] at hf | rw [if_pos q] at hf
    exact k2 G h r h2 hf p e s m args below meth cd H locs cells slots R ls Fx hR hP hS hl
theorem lgc_eq {x y : Int64} : (lg_cmp x y = 0) ↔ x = y := by
  unfold lg_cmp
  by_cases h1 : y < x
  · rw [if_pos h1]
    exact ⟨fun h => absurd h (by decide), fun h => by subst h; exact absurd h1 (by rw [Int64.lt_iff_toInt_lt]; omega)⟩
  · rw [if_neg h1]
    by_cases h2 : x = y
    · simp [h2]
    · rw [if_neg h2]
      exact ⟨fun h => absurd h (by decide), fun h => absurd h h2⟩
theorem lgc_lt {x y : Int64} : (lg_cmp x y < 0) ↔ x < y := by
  unfold lg_cmp
  by_cases h1 : y < x
  · rw [if_pos h1]
    exact ⟨fun h => absurd h (by decide), fun h => by rw [Int64.lt_iff_toInt_lt] at h h1; omega⟩
  · rw [if_neg h1]
    by_cases h2 : x = y
    · subst h2
      rw [if_pos rfl]
      exact ⟨fun h => absurd h (by decide), fun h => by rw [Int64.lt_iff_toInt_lt] at h; omega⟩
    · rw [if_neg h2]
      refine ⟨fun _ => ?_, fun _ => by decide⟩
      rw [Int64.lt_iff_toInt_lt] at h1 ⊢
      have : x.toInt ≠ y.toInt := fun e => h2 (Int64.toInt_inj.mp e)
      omega
theorem lgc_gt {x y : Int64} : (0 < lg_cmp x y) ↔ y < x := by
  unfold lg_cmp
  by_cases h1 : y < x
  · rw [if_pos h1]
    exact ⟨fun _ => h1, fun _ => by decide⟩
  · rw [if_neg h1]
    by_cases h2 : x = y
    · rw [if_pos h2]
      exact ⟨fun h => absurd h (by decide), fun h => absurd h h1⟩
    · rw [if_neg h2]
      exact ⟨fun h => absurd h (by decide), fun h => absurd h h1⟩
theorem lgc_ge {x y : Int64} : (0 ≤ lg_cmp x y) ↔ ¬ x < y := by
  rw [← lgc_lt, Int32.not_lt]
theorem lgc_le {x y : Int64} : (lg_cmp x y ≤ 0) ↔ ¬ y < x := by
  rw [← lgc_gt, Int32.not_lt]
theorem z_if_iff {a b : Prop} [Decidable a] [Decidable b] (h : a ↔ b) (f g : zM) : z_if a f g = z_if b f g := by
  funext q
  unfold z_if
  by_cases hb : b
  · rw [if_pos hb, if_pos (h.mpr hb)]
  · rw [if_neg hb, if_neg (fun q => hb (h.mp q))]
theorem z_if_not {a b : Prop} [Decidable a] [Decidable b] (h : a ↔ ¬ b) (f g : zM) : z_if a f g = z_if b g f := by
  funext q
  unfold z_if
  by_cases hb : b
  · rw [if_pos hb, if_neg (fun q => (h.mp q) hb)]
  · rw [if_neg hb, if_pos (h.mpr hb)]
theorem zco_lcmp_eq {x y : Int64} {off : Int} {tgt : Nat} (h0 : decode mi.2.1 pc = .ok (.lcmp, 1)) (hd : decode mi.2.1 (pc + 1) = .ok (.ifCond .eq off, 3)) (ht : ((pc + 1 : Nat) : Int) + off = (tgt : Int)) (k1 : zCo l d rc rs mi tgt L S f) (k2 : zCo l d rc rs mi (pc + 4) L S g) : zCo l d rc rs mi pc L (.long y :: .long x :: S) (z_if (x = y) f g) := by
  refine zco_run [(pc, .lcmp, 1)] (fun q hq => ?_) (pc' := pc + 1) (L' := L) (S' := .int (lg_cmp x y) :: S) (by simp [zrun, zst]) (zco_eq (z_if_iff lgc_eq.symm _ _) (zco_if_eq hd ht k1 k2))
  cases List.mem_singleton.mp hq
  exact h0
theorem zco_lcmp_ne {x y : Int64} {off : Int} {tgt : Nat} (h0 : decode mi.2.1 pc = .ok (.lcmp, 1)) (hd : decode mi.2.1 (pc + 1) = .ok (.ifCond .ne off, 3)) (ht : ((pc + 1 : Nat) : Int) + off = (tgt : Int)) (k1 : zCo l d rc rs mi tgt L S g) (k2 : zCo l d rc rs mi (pc + 4) L S f) : zCo l d rc rs mi pc L (.long y :: .long x :: S) (z_if (x = y) f g) := by
  refine zco_run [(pc, .lcmp, 1)] (fun q hq => ?_) (pc' := pc + 1) (L' := L) (S' := .int (lg_cmp x y) :: S) (by simp [zrun, zst]) (zco_eq (z_if_iff lgc_eq.symm _ _) (zco_if_ne hd ht k1 k2))
  cases List.mem_singleton.mp hq
  exact h0
theorem zco_lcmp_lt {x y : Int64} {off : Int} {tgt : Nat} (h0 : decode mi.2.1 pc = .ok (.lcmp, 1)) (hd : decode mi.2.1 (pc + 1) = .ok (.ifCond .lt off, 3)) (ht : ((pc + 1 : Nat) : Int) + off = (tgt : Int)) (k1 : zCo l d rc rs mi tgt L S f) (k2 : zCo l d rc rs mi (pc + 4) L S g) : zCo l d rc rs mi pc L (.long y :: .long x :: S) (z_if (x < y) f g) := by
  refine zco_run [(pc, .lcmp, 1)] (fun q hq => ?_) (pc' := pc + 1) (L' := L) (S' := .int (lg_cmp x y) :: S) (by simp [zrun, zst]) (zco_eq (z_if_iff lgc_lt.symm _ _) (zco_if_lt hd ht k1 k2))
  cases List.mem_singleton.mp hq
  exact h0
theorem zco_lcmp_ge {x y : Int64} {off : Int} {tgt : Nat} (h0 : decode mi.2.1 pc = .ok (.lcmp, 1)) (hd : decode mi.2.1 (pc + 1) = .ok (.ifCond .ge off, 3)) (ht : ((pc + 1 : Nat) : Int) + off = (tgt : Int)) (k1 : zCo l d rc rs mi tgt L S g) (k2 : zCo l d rc rs mi (pc + 4) L S f) : zCo l d rc rs mi pc L (.long y :: .long x :: S) (z_if (x < y) f g) := by
  refine zco_run [(pc, .lcmp, 1)] (fun q hq => ?_) (pc' := pc + 1) (L' := L) (S' := .int (lg_cmp x y) :: S) (by simp [zrun, zst]) (zco_eq ((z_if_not lgc_ge _ _).symm) (zco_if_ge hd ht k1 k2))
  cases List.mem_singleton.mp hq
  exact h0
theorem zco_lcmp_gt {x y : Int64} {off : Int} {tgt : Nat} (h0 : decode mi.2.1 pc = .ok (.lcmp, 1)) (hd : decode mi.2.1 (pc + 1) = .ok (.ifCond .gt off, 3)) (ht : ((pc + 1 : Nat) : Int) + off = (tgt : Int)) (k1 : zCo l d rc rs mi tgt L S f) (k2 : zCo l d rc rs mi (pc + 4) L S g) : zCo l d rc rs mi pc L (.long y :: .long x :: S) (z_if (y < x) f g) := by
  refine zco_run [(pc, .lcmp, 1)] (fun q hq => ?_) (pc' := pc + 1) (L' := L) (S' := .int (lg_cmp x y) :: S) (by simp [zrun, zst]) (zco_eq (z_if_iff lgc_gt.symm _ _) (zco_if_gt hd ht k1 k2))
  cases List.mem_singleton.mp hq
  exact h0
theorem zco_lcmp_le {x y : Int64} {off : Int} {tgt : Nat} (h0 : decode mi.2.1 pc = .ok (.lcmp, 1)) (hd : decode mi.2.1 (pc + 1) = .ok (.ifCond .le off, 3)) (ht : ((pc + 1 : Nat) : Int) + off = (tgt : Int)) (k1 : zCo l d rc rs mi tgt L S g) (k2 : zCo l d rc rs mi (pc + 4) L S f) : zCo l d rc rs mi pc L (.long y :: .long x :: S) (z_if (y < x) f g) := by
  refine zco_run [(pc, .lcmp, 1)] (fun q hq => ?_) (pc' := pc + 1) (L' := L) (S' := .int (lg_cmp x y) :: S) (by simp [zrun, zst]) (zco_eq ((z_if_not lgc_le _ _).symm) (zco_if_le hd ht k1 k2))
  cases List.mem_singleton.mp hq
  exact h0
end ZR
