/-! the reference's waiting row: what it is made of -/
section B76
variable {I I0 : Nat → Nat → Int32} {L L0 : Nat → Nat → Int64} {ρ : zRh} {h : zH} {b : Nat → Nat} {n a x o bs : Nat} {V Q : List Nat}
def stk (f : Nat → Int32) : List Nat → Prop
  | [] => True
  | v :: V => f V.length = nI v ∧ stk f V
theorem stk_fr {f g : Nat → Int32} : ∀ {V : List Nat}, (∀ i, i < V.length → g i = f i) → stk f V → stk g V
  | [], _, _ => trivial
  | v :: V, h, hs => ⟨by rw [h V.length (Nat.lt_succ_self _)]; exact hs.1, stk_fr (fun i hi => h i (Nat.lt_succ_of_lt hi)) hs.2⟩
def qV (I : Nat → Nat → Int32) (V : List Nat) (bs : Nat) (Q : List Nat) (o : Nat) : Prop := (I 215 107 = nI V.length ∧ stk (I 294) V ∧ ∀ v ∈ V, v < 100) ∧ (I 215 105 = nI Q.length ∧ stk (I 293) Q.reverse) ∧ I 215 108 = nI o ∧ I 215 109 = nI bs ∧ V.length + Q.length ≤ 1600 ∧ o ≤ 6
theorem qV_fr {I' : Nat → Nat → Int32} (h1 : I' 293 = I 293) (h2 : I' 294 = I 294) (h3 : I' 215 107 = I 215 107) (h4 : I' 215 105 = I 215 105) (h5 : I' 215 108 = I 215 108) (h6 : I' 215 109 = I 215 109) (h : qV I V bs Q o) : qV I' V bs Q o := by
  unfold qV
  rw [h1, h2, h3, h4, h5, h6]
  exact h
def qS (I : Nat → Nat → Int32) (b : Nat → Nat) (n x : Nat) (V : List Nat) (bs : Nat) (Q : List Nat) (o : Nat) : Prop := tkM I b n x ∧ I 215 5 = 0 ∧ qV I V bs Q o
/-- what of the reference's a formula changes -/
def qF (I I' : Nat → Nat → Int32) : Prop := (∀ x, x ≠ 215 → x ≠ 293 → x ≠ 294 → I' x = I x) ∧ (∀ k, k ≠ 2 → k ≠ 4 → k ≠ 5 → k ≠ 6 → k ≠ 10 → k ≠ 39 → (k < 105 ∨ 109 < k) → I' 215 k = I 215 k) ∧ rC I I'
theorem qF_0 : qF I I := ⟨fun _ _ _ _ => rfl, fun _ _ _ _ _ _ _ _ => rfl, rC_0⟩
theorem qF_tr {I1 I2 : Nat → Nat → Int32} (h1 : qF I I1) (h2 : qF I1 I2) : qF I I2 := ⟨fun x a c d => by rw [h2.1 x a c d, h1.1 x a c d], fun k a c d e f g z => by rw [h2.2.1 k a c d e f g z, h1.2.1 k a c d e f g z], rC_tr h1.2.2 h2.2.2⟩
theorem qF_fx {I' : Nat → Nat → Int32} (h : fxM I I') : qF I I' := ⟨fun x a _ _ => h.1 x a, fun k a c d e f g _ => h.2.1 k a c d e f g, h.2.2⟩
theorem qF_u {k : Nat} {v : Int32} (hk : 105 ≤ k ∧ k ≤ 109) : qF I (u2 I 215 k v) := ⟨fun x a _ _ => u2r a, fun j a c d e f g z => by rw [u2_ap, if_neg (by omega)], rC_u (by omega)⟩
theorem qF_3 {j : Nat} {v : Int32} : qF I (u2 I 293 j v) := ⟨fun x _ a _ => u2r a, fun j a c d e f g z => by rw [u2_ap, if_neg (by omega)], rC_u (by omega)⟩
theorem qF_4 {j : Nat} {v : Int32} : qF I (u2 I 294 j v) := ⟨fun x _ _ a => u2r a, fun j a c d e f g z => by rw [u2_ap, if_neg (by omega)], rC_u (by omega)⟩
theorem tkM_fr {I' : Nat → Nat → Int32} (h1 : I' 216 = I 216) (h2 : I' 215 3 = I 215 3) (h3 : I' 215 2 = I 215 2) (h4 : I' 215 4 = I 215 4) (hT : tkM I b n x) : tkM I' b n x := by
  unfold tkM
  rw [h3, h4]
  exact ⟨txM_fr h1 h2 hT.1, hT.2⟩
theorem qS_fx {I' : Nat → Nat → Int32} {y : Nat} (hF : fxM I I') (hT : tkM I' b n y) (hs : I' 215 5 = 0) (h : qS I b n x V bs Q o) : qS I' b n y V bs Q o := ⟨hT, hs, qV_fr (hF.1 293 (by decide)) (hF.1 294 (by decide)) (hF.2.1 107 (by decide) (by decide) (by decide) (by decide) (by decide) (by decide)) (hF.2.1 105 (by decide) (by decide) (by decide) (by decide) (by decide) (by decide)) (hF.2.1 108 (by decide) (by decide) (by decide) (by decide) (by decide) (by decide)) (hF.2.1 109 (by decide) (by decide) (by decide) (by decide) (by decide) (by decide)) h.2.2⟩
/-- fields of the row's own -/
theorem qS_u {k : Nat} {v : Int32} (hk : 105 ≤ k ∧ k ≤ 109) (h : qS I b n x V bs Q o) : tkM (u2 I 215 k v) b n x ∧ u2 I 215 k v 215 5 = 0 := ⟨tkM_fr (u2r (by omega)) (by rw [u2_ap, if_neg (by omega)]) (by rw [u2_ap, if_neg (by omega)]) (by rw [u2_ap, if_neg (by omega)]) h.1, by rw [u2_ap, if_neg (by omega)]; exact h.2.1⟩
theorem qS_o {o' : Nat} (ho : o' ≤ 6) (h : qS I b n x V bs Q o) : qS (u2 I 215 108 (nI o')) b n x V bs Q o' := by
  have h1 := qS_u (k := 108) (v := nI o') (by omega) h
  obtain ⟨⟨v1, v2, v3⟩, ⟨q1, q2⟩, h3, h4, h5, h6⟩ := h.2.2
  exact ⟨h1.1, h1.2, ⟨by rw [u2_ap, if_neg (by omega)]; exact v1, by rw [u2r (by omega)]; exact v2, v3⟩, ⟨by rw [u2_ap, if_neg (by omega)]; exact q1, by rw [u2r (by omega)]; exact q2⟩, by rw [u2_ap, if_pos ⟨rfl, rfl⟩], by rw [u2_ap, if_neg (by omega)]; exact h4, h5, ho⟩
theorem qS_bs {bs' : Nat} (h : qS I b n x V bs Q o) : qS (u2 I 215 109 (nI bs')) b n x V bs' Q o := by
  have h1 := qS_u (k := 109) (v := nI bs') (by omega) h
  obtain ⟨⟨v1, v2, v3⟩, ⟨q1, q2⟩, h3, h4, h5, h6⟩ := h.2.2
  exact ⟨h1.1, h1.2, ⟨by rw [u2_ap, if_neg (by omega)]; exact v1, by rw [u2r (by omega)]; exact v2, v3⟩, ⟨by rw [u2_ap, if_neg (by omega)]; exact q1, by rw [u2r (by omega)]; exact q2⟩, by rw [u2_ap, if_neg (by omega)]; exact h3, by rw [u2_ap, if_pos ⟨rfl, rfl⟩], h5, h6⟩
theorem qS_pop {v : Nat} (h : qS I b n x (v :: V) bs Q o) : qS (u2 I 215 107 (nI V.length)) b n x V bs Q o ∧ I 294 V.length = nI v ∧ v < 100 := by
  have h1 := qS_u (k := 107) (v := nI V.length) (by omega) h
  obtain ⟨⟨v1, v2, v3⟩, ⟨q1, q2⟩, h3, h4, h5, h6⟩ := h.2.2
  rw [List.length_cons] at h5
  exact ⟨⟨h1.1, h1.2, ⟨by rw [u2_ap, if_pos ⟨rfl, rfl⟩], by rw [u2r (by omega)]; exact v2.2, fun y hy => v3 y (List.mem_cons_of_mem _ hy)⟩, ⟨by rw [u2_ap, if_neg (by omega)]; exact q1, by rw [u2r (by omega)]; exact q2⟩, by rw [u2_ap, if_neg (by omega)]; exact h3, by rw [u2_ap, if_neg (by omega)]; exact h4, by omega, h6⟩, v2.1, v3 v (List.mem_cons_self ..)⟩
theorem qS_push {v : Nat} (hv : v < 100) (hl : V.length + Q.length < 1600) (h : qS I b n x V bs Q o) : qS (u2 (u2 I 294 V.length (nI v)) 215 107 (nI (V.length + 1))) b n x (v :: V) bs Q o := by
  obtain ⟨⟨v1, v2, v3⟩, ⟨q1, q2⟩, h3, h4, h5, h6⟩ := h.2.2
  refine ⟨tkM_fr (by rw [u2r (by omega), u2r (by omega)]) (by rw [u2_ap, if_neg (by omega), u2r (by omega)]) (by rw [u2_ap, if_neg (by omega), u2r (by omega)]) (by rw [u2_ap, if_neg (by omega), u2r (by omega)]) h.1, by rw [u2_ap, if_neg (by omega), u2r (by omega)]; exact h.2.1, ⟨by rw [u2_ap, if_pos ⟨rfl, rfl⟩]; rfl, ⟨by rw [u2r (by omega), u2_ap, if_pos ⟨rfl, rfl⟩], ?_⟩, fun y hy => ?_⟩, ⟨by rw [u2_ap, if_neg (by omega), u2r (by omega)]; exact q1, by rw [u2r (by omega), u2r (by omega)]; exact q2⟩, by rw [u2_ap, if_neg (by omega), u2r (by omega)]; exact h3, by rw [u2_ap, if_neg (by omega), u2r (by omega)]; exact h4, by rw [List.length_cons]; omega, h6⟩
  · refine stk_fr (fun i hi => ?_) v2
    rw [u2r (by omega), u2_ap, if_neg (by omega)]
  · rcases List.mem_cons.mp hy with q | q
    · rw [q]; exact hv
    · exact v3 y q
theorem qS_code {c : Nat} (hl : V.length + Q.length < 1600) (h : qS I b n x V bs Q o) : qS (u2 (u2 I 293 Q.length (nI c)) 215 105 (nI (Q.length + 1))) b n x V bs (Q ++ [c]) o := by
  obtain ⟨⟨v1, v2, v3⟩, ⟨q1, q2⟩, h3, h4, h5, h6⟩ := h.2.2
  refine ⟨tkM_fr (by rw [u2r (by omega), u2r (by omega)]) (by rw [u2_ap, if_neg (by omega), u2r (by omega)]) (by rw [u2_ap, if_neg (by omega), u2r (by omega)]) (by rw [u2_ap, if_neg (by omega), u2r (by omega)]) h.1, by rw [u2_ap, if_neg (by omega), u2r (by omega)]; exact h.2.1, ⟨by rw [u2_ap, if_neg (by omega), u2r (by omega)]; exact v1, by rw [u2r (by omega), u2r (by omega)]; exact v2, v3⟩, ⟨by rw [u2_ap, if_pos ⟨rfl, rfl⟩, List.length_append]; rfl, ?_⟩, by rw [u2_ap, if_neg (by omega), u2r (by omega)]; exact h3, by rw [u2_ap, if_neg (by omega), u2r (by omega)]; exact h4, by rw [List.length_append]; show V.length + (Q.length + 1) ≤ 1600; omega, h6⟩
  rw [List.reverse_append]
  show stk _ (c :: Q.reverse)
  refine ⟨by rw [u2r (by omega), u2_ap, if_pos ⟨rfl, by rw [List.length_reverse]⟩], stk_fr (fun i hi => ?_) q2⟩
  rw [List.length_reverse] at hi
  rw [u2r (by omega), u2_ap, if_neg (by omega)]
theorem X12_qCode_u {c : Int32} {k : Nat} (hk : I 215 105 = nI k) (hl : k < 1700) : X12_qCode 215 c (hp I L ρ) = some (none, hp (u2 (u2 I 293 k c) 215 105 (nI (k + 1))) L ρ) := by
  unfold X12_qCode
  rw [gr_215_104, gi_215, hk, sa_293 hl, gi_215, u2r (by omega), hk, nI_1, pi_215]; rfl
theorem X12_qCode_h {c : Nat} (hl : V.length + Q.length < 1600) (h : qS I b n x V bs Q o) : ∃ I', X12_qCode 215 (nI c) (hp I L ρ) = some (none, hp I' L ρ) ∧ qF I I' ∧ qS I' b n x V bs (Q ++ [c]) o := ⟨_, X12_qCode_u h.2.2.2.1.1 (by omega), qF_tr qF_3 (qF_u (by omega)), qS_code hl h⟩
theorem X12_qDrops_h {v : Nat} (h : qS I b n x (v :: V) bs Q o) : ∃ I', X12_qDrops 215 (hp I L ρ) = some (none, hp I' L ρ) ∧ qF I I' ∧ qS I' b n x V bs (Q ++ [v]) o := by
  obtain ⟨h1, h2, h3⟩ := qS_pop h
  have h4 := h.2.2.1.1
  have h5 := h.2.2.2.2.2.2.1
  rw [List.length_cons] at h4 h5
  obtain ⟨I', e, f, g⟩ := X12_qCode_h (L := L) (ρ := ρ) (c := v) (by omega) h1
  refine ⟨I', ?_, qF_tr (qF_u (by omega)) f, g⟩
  unfold X12_qDrops
  rw [gi_215, h4, show (1 : Int32) = nI 1 from rfl, pk_sub (by omega), Nat.add_sub_cancel, pi_215, gr_215_106, gi_215, u2_ap, if_pos ⟨rfl, rfl⟩, la_294 (by omega), u2r (by omega), h2, rc_215, h_cv e]; rfl
end B76
