/-! the class's constructor, its end: what holds on the whole heap holds on its own part -/
section Bb2
def ρ0 : zRh := (13, 27, 13, 4, zB + 0)
def Tl (f : zM) : Prop := ∀ (I : Nat → Nat → Int32) (L : Nat → Nat → Int64) (R : Nat → Nat → Option Nat), (∀ a, a < 215 → R a = zRf ρ0 a) → ∀ r h', f (hp I L ρ0) = some (r, h') → f (hq 215 I L R) = some (r, hq 215 h'.2.1 h'.2.2.1 R) ∧ h' = hp h'.2.1 h'.2.2.1 ρ0
variable {c k a b t n : Nat} {f g : zM} {F : Nat → zM} {G : Int32 → zM}
theorem Tl_ret {v : Option Value} : Tl (z_ret v) := by
  intro I L R hR r h' e
  cases e
  exact ⟨rfl, rfl⟩
theorem Tl_rb {x : Int32} : Tl (z_rb x) := by
  intro I L R hR r h' e
  unfold z_rb at e ⊢
  by_cases q : x = 0 ∨ x = 1
  · rw [if_pos q] at e ⊢
    cases e
    exact ⟨rfl, rfl⟩
  · rw [if_neg q] at e; cases e
theorem Tl_if {q : Prop} [Decidable q] (hf : Tl f) (hg : Tl g) : Tl (z_if q f g) := by
  intro I L R hR r h' e
  rw [h_if] at e ⊢
  by_cases c : q
  · rw [if_pos c] at e ⊢
    exact hf I L R hR r h' e
  · rw [if_neg c] at e ⊢
    exact hg I L R hR r h' e
theorem Tl_gi (ha : a < 215) (hF : ∀ x, Tl (G x)) : Tl (z_gi c k a G) := by
  intro I L R hR r h' e
  have e : (if a < 297 ∧ (zK a).1 = c then G (I a k) (hp I L ρ0) else none) = some (r, h') := e
  show (if a < 215 ∧ (zK a).1 = c then G (I a k) (hq 215 I L R) else none) = _ ∧ _
  by_cases q : (zK a).1 = c
  · rw [if_pos ⟨by omega, q⟩] at e
    rw [if_pos ⟨ha, q⟩]
    exact hF _ I L R hR r h' e
  · rw [if_neg (fun z => q z.2)] at e; cases e
theorem Tl_gr (ha : a < 215) (hb : zRf ρ0 a k = some b) (hF : Tl (F b)) : Tl (z_gr c k a F) := by
  intro I L R hR r h' e
  have e : (if a < 297 ∧ (zK a).1 = c then (match zRf ρ0 a k with | some b => F b (hp I L ρ0) | none => none) else none) = some (r, h') := e
  show (if a < 215 ∧ (zK a).1 = c then (match R a k with | some b => F b (hq 215 I L R) | none => none) else none) = _ ∧ _
  rw [hR a ha]
  by_cases q : (zK a).1 = c
  · rw [if_pos ⟨by omega, q⟩, hb] at e
    rw [if_pos ⟨ha, q⟩, hb]
    exact hF I L R hR r h' e
  · rw [if_neg (fun z => q z.2)] at e; cases e
theorem Tl_rc (ha : a < 215) (hf : Tl f) : Tl (z_rc c a f) := by
  intro I L R hR r h' e
  have e : (if a < 297 ∧ (zK a).1 = c then f (hp I L ρ0) else none) = some (r, h') := e
  show (if a < 215 ∧ (zK a).1 = c then f (hq 215 I L R) else none) = _ ∧ _
  by_cases q : (zK a).1 = c
  · rw [if_pos ⟨by omega, q⟩] at e
    rw [if_pos ⟨ha, q⟩]
    exact hf I L R hR r h' e
  · rw [if_neg (fun z => q z.2)] at e; cases e
theorem Tl_pi {x : Int32} (ha : a < 215) (hf : Tl f) : Tl (z_pi c k a x f) := by
  intro I L R hR r h' e
  have e : (if a < 297 ∧ (zK a).1 = c then f (hp (u2 I a k x) L ρ0) else none) = some (r, h') := e
  show (if a < 215 ∧ (zK a).1 = c then f (hq 215 (u2 I a k x) L R) else none) = _ ∧ _
  by_cases q : (zK a).1 = c
  · rw [if_pos ⟨by omega, q⟩] at e
    rw [if_pos ⟨ha, q⟩]
    exact hf _ L R hR r h' e
  · rw [if_neg (fun z => q z.2)] at e; cases e
theorem Tl_la {i : Int32} (ha : a < 215) (hF : ∀ x, Tl (G x)) : Tl (z_la t a i G) := by
  intro I L R hR r h' e
  have e : (if (a < 297 ∧ (zK a).1 = t) ∧ (0 ≤ i.toInt ∧ i.toInt < (zK a).2) then G (I a i.toNatClampNeg) (hp I L ρ0) else none) = some (r, h') := e
  show (if (a < 215 ∧ (zK a).1 = t) ∧ (0 ≤ i.toInt ∧ i.toInt < (zK a).2) then G (I a i.toNatClampNeg) (hq 215 I L R) else none) = _ ∧ _
  by_cases q : (zK a).1 = t ∧ (0 ≤ i.toInt ∧ i.toInt < (zK a).2)
  · rw [if_pos ⟨⟨by omega, q.1⟩, q.2⟩] at e
    rw [if_pos ⟨⟨ha, q.1⟩, q.2⟩]
    exact hF _ I L R hR r h' e
  · rw [if_neg (fun z => q ⟨z.1.2, z.2⟩)] at e; cases e
theorem Tl_sa {i x : Int32} (ha : a < 215) (hf : Tl f) : Tl (z_sa t a i x f) := by
  intro I L R hR r h' e
  have e : (if (a < 297 ∧ (zK a).1 = t) ∧ (0 ≤ i.toInt ∧ i.toInt < (zK a).2) then f (hp (u2 I a i.toNatClampNeg x) L ρ0) else none) = some (r, h') := e
  show (if (a < 215 ∧ (zK a).1 = t) ∧ (0 ≤ i.toInt ∧ i.toInt < (zK a).2) then f (hq 215 (u2 I a i.toNatClampNeg x) L R) else none) = _ ∧ _
  by_cases q : (zK a).1 = t ∧ (0 ≤ i.toInt ∧ i.toInt < (zK a).2)
  · rw [if_pos ⟨⟨by omega, q.1⟩, q.2⟩] at e
    rw [if_pos ⟨⟨ha, q.1⟩, q.2⟩]
    exact hf _ L R hR r h' e
  · rw [if_neg (fun z => q ⟨z.1.2, z.2⟩)] at e; cases e
theorem Tl_len (ha : a < 215) (hF : ∀ x, Tl (G x)) : Tl (z_len a G) := by
  intro I L R hR r h' e
  have e : (if a < 297 ∧ 20 ≤ (zK a).1 ∧ (zK a).1 < 25 then G (Int32.ofNat (zK a).2) (hp I L ρ0) else none) = some (r, h') := e
  show (if a < 215 ∧ 20 ≤ (zK a).1 ∧ (zK a).1 < 25 then G (Int32.ofNat (zK a).2) (hq 215 I L R) else none) = _ ∧ _
  by_cases q : 20 ≤ (zK a).1 ∧ (zK a).1 < 25
  · rw [if_pos ⟨by omega, q⟩] at e
    rw [if_pos ⟨ha, q⟩]
    exact hF _ I L R hR r h' e
  · rw [if_neg (fun z => q z.2)] at e; cases e
theorem Tl_cp {sp dp m : Int32} (ha : a < 215) (hb : b < 215) (hf : Tl f) : Tl (z_cp a sp b dp m f) := by
  intro I L R hR r h' e
  have e : (if (a < 297 ∧ (zK a).1 = 20) ∧ (b < 297 ∧ (zK b).1 = 20) ∧ (0 ≤ sp.toInt ∧ 0 ≤ dp.toInt ∧ 0 ≤ m.toInt ∧ sp.toInt + m.toInt ≤ (zK a).2 ∧ dp.toInt + m.toInt ≤ (zK b).2) then f (zCp (hp I L ρ0) a sp.toNatClampNeg b dp.toNatClampNeg m.toNatClampNeg) else none) = some (r, h') := e
  show (if (a < 215 ∧ (zK a).1 = 20) ∧ (b < 215 ∧ (zK b).1 = 20) ∧ (0 ≤ sp.toInt ∧ 0 ≤ dp.toInt ∧ 0 ≤ m.toInt ∧ sp.toInt + m.toInt ≤ (zK a).2 ∧ dp.toInt + m.toInt ≤ (zK b).2) then f (zCp (hq 215 I L R) a sp.toNatClampNeg b dp.toNatClampNeg m.toNatClampNeg) else none) = _ ∧ _
  by_cases q : (zK a).1 = 20 ∧ (zK b).1 = 20 ∧ (0 ≤ sp.toInt ∧ 0 ≤ dp.toInt ∧ 0 ≤ m.toInt ∧ sp.toInt + m.toInt ≤ (zK a).2 ∧ dp.toInt + m.toInt ≤ (zK b).2)
  · rw [if_pos ⟨⟨by omega, q.1⟩, ⟨by omega, q.2.1⟩, q.2.2⟩] at e
    rw [if_pos ⟨⟨ha, q.1⟩, ⟨hb, q.2.1⟩, q.2.2⟩]
    exact hf _ L R hR r h' e
  · rw [if_neg (fun z => q ⟨z.1.2, z.2.1.2, z.2.2⟩)] at e; cases e
theorem Tl_cv (hg : Tl g) (hf : Tl f) : Tl (z_cv g f) := by
  intro I L R hR r h' e
  have e : (match g (hp I L ρ0) with | some (none, h1) => f h1 | _ => none) = some (r, h') := e
  show (match g (hq 215 I L R) with | some (none, h1) => f h1 | _ => none) = _ ∧ _
  rcases q : g (hp I L ρ0) with _ | ⟨v, h1⟩
  · rw [q] at e; cases e
  · rw [q] at e
    obtain ⟨e1, e2⟩ := hg I L R hR v h1 q
    rw [e1]
    rcases v with _ | v
    · have e : f h1 = some (r, h') := e
      rw [e2] at e
      exact hf _ _ R hR r h' e
    · cases e
theorem Tl_ci (hg : Tl g) (hF : ∀ x, Tl (G x)) : Tl (z_ci g G) := by
  intro I L R hR r h' e
  unfold z_ci at e ⊢
  rcases q : g (hp I L ρ0) with _ | ⟨v, h1⟩
  · rw [q] at e; cases e
  · rw [q] at e
    obtain ⟨e1, e2⟩ := hg I L R hR v h1 q
    rw [e1]
    rcases v with _ | v
    · cases e
    · cases v with
      | int x =>
        have e : G x h1 = some (r, h') := e
        rw [e2] at e
        exact hF x _ _ R hR r h' e
      | _ => cases e
theorem Tl_fix {α : Type} {body : (α → zM) → α → zM} (hb : ∀ rec, (∀ x, Tl (rec x)) → ∀ x, Tl (body rec x)) : ∀ (n : Nat) (x : α), Tl (z_fix body n x)
  | 0, x => fun I L R hR r h' e => by cases e
  | n + 1, x => hb _ (fun y => Tl_fix hb n y) x
theorem Tl_holds {v : Int32} : Tl (X3_holds 22 v) := by
  unfold X3_holds
  exact Tl_gr (b := 24) (by decide) rfl (Tl_la (by decide) (fun x => Tl_if Tl_rb Tl_rb))
theorem Tl_begin3 {v : Int32} : Tl (X3_begin 22 v) := by
  unfold X3_begin
  exact Tl_gr (b := 24) (by decide) rfl (Tl_gi (by decide) (fun x => Tl_sa (by decide) Tl_ret))
theorem Tl_finish {v : Int32} : Tl (X3_finish 22 v) := by
  unfold X3_finish
  exact Tl_gr (b := 25) (by decide) rfl (Tl_gi (by decide) (fun x => Tl_sa (by decide) Tl_ret))
theorem Tl_put {v : Int32} : Tl (X3_put 22 v) := by
  unfold X3_put
  exact Tl_gi (by decide) (fun x1 => Tl_gr (b := 23) (by decide) rfl (Tl_len (by decide) (fun x3 => Tl_if Tl_ret (Tl_gr (b := 23) (by decide) rfl (Tl_gi (by decide) (fun x5 => Tl_sa (by decide) (Tl_gi (by decide) (fun x6 => Tl_pi (by decide) Tl_ret))))))))
theorem Tl_fall {v1 v2 v3 v4 : Int32} : Tl (X1_fallBack 13 v1 v2 v3 v4) := by
  have g11 : zRf ρ0 13 11 = some 22 := rfl
  unfold X1_fallBack
  exact Tl_gr (by decide) g11 (Tl_rc (by decide) (Tl_ci Tl_holds (fun y => Tl_if (Tl_gr (by decide) g11 (Tl_rc (by decide) (Tl_cv Tl_begin3 (Tl_gr (by decide) g11 (Tl_rc (by decide) (Tl_cv Tl_put (Tl_gr (by decide) g11 (Tl_rc (by decide) (Tl_cv Tl_put (Tl_gr (by decide) g11 (Tl_rc (by decide) (Tl_cv Tl_put (Tl_gr (by decide) g11 (Tl_rc (by decide) (Tl_cv Tl_finish Tl_ret))))))))))))))) Tl_ret)))
theorem Tl_complete : Tl (X1_complete 13) := by
  unfold X1_complete
  exact Tl_rc (by decide) (Tl_cv Tl_fall (Tl_rc (by decide) (Tl_cv Tl_fall (Tl_rc (by decide) (Tl_cv Tl_fall Tl_ret)))))
theorem Tl_begin8 : Tl (X8_begin 41 13) := by
  unfold X8_begin
  refine Tl_pi (by decide) (Tl_pi (by decide) (Tl_fix (fun rec hr x => ?_) _ _))
  unfold X8_begin_B12 X8_begin_J57
  exact Tl_if (Tl_gr (b := 20) (by decide) rfl (Tl_gr (b := 46) (by decide) rfl (Tl_gr (b := 46) (by decide) rfl (Tl_len (by decide) (fun _ => Tl_cp (by decide) (by decide) (Tl_gr (b := 21) (by decide) rfl (Tl_gr (b := 47) (by decide) rfl (Tl_gr (b := 47) (by decide) rfl (Tl_len (by decide) (fun _ => Tl_cp (by decide) (by decide) Tl_ret)))))))))) (Tl_gr (b := 42) (by decide) rfl (Tl_sa (by decide) (Tl_gr (b := 43) (by decide) rfl (Tl_sa (by decide) (Tl_gr (b := 44) (by decide) rfl (Tl_sa (by decide) (Tl_gr (b := 45) (by decide) rfl (Tl_gr (b := 18) (by decide) rfl (Tl_la (by decide) (fun x6 => Tl_sa (by decide) (hr _)))))))))))
/-! references as a table has them -/
theorem rB_in : ∀ (ws : List (Nat × Nat × Nat)) (a k : Nat), (∃ v, rB ws a k = some v ∧ (a, k, v) ∈ ws) ∨ (rB ws a k = none ∧ ∀ w ∈ ws, ¬ (w.1 = a ∧ w.2.1 = k))
  | [], _, _ => Or.inr ⟨rfl, fun w hw => by cases hw⟩
  | w :: ws, a, k => by
    have e : rB (w :: ws) a k = if a = w.1 ∧ k = w.2.1 then some w.2.2 else rB ws a k := rfl
    by_cases c : a = w.1 ∧ k = w.2.1
    · rw [if_pos c] at e
      exact Or.inl ⟨w.2.2, e, by rw [c.1, c.2]; exact List.mem_cons_self⟩
    · rw [if_neg c] at e
      rw [e]
      rcases rB_in ws a k with ⟨v, h1, h2⟩ | ⟨h1, h2⟩
      · exact Or.inl ⟨v, h1, List.mem_cons_of_mem _ h2⟩
      · refine Or.inr ⟨h1, fun w' hw => ?_⟩
        rcases List.mem_cons.mp hw with rfl | hw
        · exact fun z => c ⟨z.1.symm, z.2.symm⟩
        · exact h2 w' hw
theorem rB_eq {ws : List (Nat × Nat × Nat)} {N : Nat} (h1 : ∀ w ∈ ws, zRf ρ0 w.1 w.2.1 = some w.2.2) (h2 : ∀ a, a < N → ∀ k, k < ((zRl ρ0).getD a []).length → zRf ρ0 a k = none ∨ ws.any (fun w => decide (w.1 = a) && decide (w.2.1 = k)) = true) : ∀ a, a < N → rB ws a = zRf ρ0 a := by
  intro a ha
  funext k
  rcases rB_in ws a k with ⟨v, q1, q2⟩ | ⟨q1, q2⟩
  · rw [q1]; exact (h1 _ q2).symm
  · rw [q1]
    by_cases hk : k < ((zRl ρ0).getD a []).length
    · rcases h2 a ha k hk with q | q
      · exact q.symm
      · obtain ⟨w, w1, w2⟩ := List.any_eq_true.mp q
        rw [Bool.and_eq_true] at w2
        exact absurd ⟨of_decide_eq_true w2.1, of_decide_eq_true w2.2⟩ (q2 w w1)
    · show none = ((zRl ρ0).getD a []).getD k none
      rw [List.getD_eq_getElem?_getD (l := (zRl ρ0).getD a []), List.getElem?_eq_none (by omega)]; rfl
theorem q_gr {N : Nat} {I : Nat → Nat → Int32} {L : Nat → Nat → Int64} {R : Nat → Nat → Option Nat} (ha : a < N) (hk : (zK a).1 = c) (hb : R a k = some b) : z_gr c k a F (hq N I L R) = F b (hq N I L R) := by
  show (if a < N ∧ (zK a).1 = c then (match R a k with | some b => F b (hq N I L R) | none => none) else none) = _
  rw [if_pos ⟨ha, hk⟩, hb]
theorem q_pi {N : Nat} {I : Nat → Nat → Int32} {L : Nat → Nat → Int64} {R : Nat → Nat → Option Nat} {x : Int32} (ha : a < N) (hk : (zK a).1 = c) : z_pi c k a x f (hq N I L R) = f (hq N (u2 I a k x) L R) := if_pos ⟨ha, hk⟩
theorem q_pl {N : Nat} {I : Nat → Nat → Int32} {L : Nat → Nat → Int64} {R : Nat → Nat → Option Nat} {x : Int64} (ha : a < N) (hk : (zK a).1 = c) : z_pl c k a x f (hq N I L R) = f (hq N I (u2 L a k x) R) := if_pos ⟨ha, hk⟩
theorem q_rc {N : Nat} {I : Nat → Nat → Int32} {L : Nat → Nat → Int64} {R : Nat → Nat → Option Nat} (ha : a < N) (hk : (zK a).1 = c) : z_rc c a f (hq N I L R) = f (hq N I L R) := if_pos ⟨ha, hk⟩
end Bb2
