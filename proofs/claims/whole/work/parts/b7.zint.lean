/-! what the class answers are ints -/
section Bb7
/-- whatever it answers is an int -/
def zInt (f : zM) : Prop := True ∧ ∀ (h : zH) (v : Option Value) (h2 : zH), f h = some (v, h2) → ∃ x : Int32, v = some (Value.int x)
theorem zI_use {f : zM} (hf : zInt f) {h : zH} {v : Option Value} {h2 : zH} (e : f h = some (v, h2)) : ∃ x : Int32, v = some (Value.int x) := by
  exact hf.2 h v h2 e
theorem zI_ret (x : Int32) : zInt (z_ret (some (Value.int x))) := by
  refine ⟨trivial, ?_⟩
  intro h v h2 e
  cases e
  exact ⟨x, rfl⟩
theorem zI_rb (x : Int32) : zInt (z_rb x) := by
  refine ⟨trivial, ?_⟩
  intro h v h2 e
  unfold z_rb at e
  split at e
  · cases e; exact ⟨x, rfl⟩
  · cases e
theorem zI_no : zInt (fun _ => none) := by
  refine ⟨trivial, ?_⟩
  intro h v h2 e
  cases e
theorem zI_fix {α : Type} {body : (α → zM) → α → zM} (hb : ∀ rec : α → zM, (∀ x, zInt (rec x)) → ∀ x, zInt (body rec x)) (n : Nat) (x : α) : zInt (z_fix body n x) := by
  induction n generalizing x with
  | zero => refine ⟨trivial, ?_⟩; intro h v h2 e; cases e
  | succ n ih => exact hb (z_fix body n) ih x
theorem zI_if (c : Prop) [Decidable c] (f g : zM) (hf : zInt f) (hg : zInt g) : zInt (z_if c f g) := by
  refine ⟨trivial, ?_⟩
  intro h v h2 e
  unfold z_if at e
  repeat' (split at e)
  all_goals first | (cases e; done) | exact zI_use hf e | exact zI_use (hf _) e | exact zI_use hg e
theorem zI_ck (c : Prop) [Decidable c] (f : zM) (hf : zInt f) : zInt (z_ck c f) := by
  refine ⟨trivial, ?_⟩
  intro h v h2 e
  unfold z_ck at e
  repeat' (split at e)
  all_goals first | (cases e; done) | exact zI_use hf e | exact zI_use (hf _) e
theorem zI_gi (c k a : Nat) (F : Int32 → zM) (hf : ∀ x, zInt (F x)) : zInt (z_gi c k a F) := by
  refine ⟨trivial, ?_⟩
  intro h v h2 e
  unfold z_gi at e
  repeat' (split at e)
  all_goals first | (cases e; done) | exact zI_use hf e | exact zI_use (hf _) e
theorem zI_gl (c k a : Nat) (F : Int64 → zM) (hf : ∀ x, zInt (F x)) : zInt (z_gl c k a F) := by
  refine ⟨trivial, ?_⟩
  intro h v h2 e
  unfold z_gl at e
  repeat' (split at e)
  all_goals first | (cases e; done) | exact zI_use hf e | exact zI_use (hf _) e
theorem zI_gr (c k a : Nat) (F : Nat → zM) (hf : ∀ x, zInt (F x)) : zInt (z_gr c k a F) := by
  refine ⟨trivial, ?_⟩
  intro h v h2 e
  unfold z_gr at e
  repeat' (split at e)
  all_goals first | (cases e; done) | exact zI_use hf e | exact zI_use (hf _) e
theorem zI_pi (c k a : Nat) (x : Int32) (f : zM) (hf : zInt f) : zInt (z_pi c k a x f) := by
  refine ⟨trivial, ?_⟩
  intro h v h2 e
  unfold z_pi at e
  repeat' (split at e)
  all_goals first | (cases e; done) | exact zI_use hf e | exact zI_use (hf _) e
theorem zI_pb (c k a : Nat) (x : Int32) (f : zM) (hf : zInt f) : zInt (z_pb c k a x f) := by
  refine ⟨trivial, ?_⟩
  intro h v h2 e
  unfold z_pb at e
  repeat' (split at e)
  all_goals first | (cases e; done) | exact zI_use hf e | exact zI_use (hf _) e
theorem zI_pl (c k a : Nat) (x : Int64) (f : zM) (hf : zInt f) : zInt (z_pl c k a x f) := by
  refine ⟨trivial, ?_⟩
  intro h v h2 e
  unfold z_pl at e
  repeat' (split at e)
  all_goals first | (cases e; done) | exact zI_use hf e | exact zI_use (hf _) e
theorem zI_pr (c k a b : Nat) (f : zM) (hf : zInt f) : zInt (z_pr c k a b f) := by
  refine ⟨trivial, ?_⟩
  intro h v h2 e
  unfold z_pr at e
  repeat' (split at e)
  all_goals first | (cases e; done) | exact zI_use hf e | exact zI_use (hf _) e
theorem zI_la (t a : Nat) (i : Int32) (F : Int32 → zM) (hf : ∀ x, zInt (F x)) : zInt (z_la t a i F) := by
  refine ⟨trivial, ?_⟩
  intro h v h2 e
  unfold z_la at e
  repeat' (split at e)
  all_goals first | (cases e; done) | exact zI_use hf e | exact zI_use (hf _) e
theorem zI_sa (t a : Nat) (i x : Int32) (f : zM) (hf : zInt f) : zInt (z_sa t a i x f) := by
  refine ⟨trivial, ?_⟩
  intro h v h2 e
  unfold z_sa at e
  repeat' (split at e)
  all_goals first | (cases e; done) | exact zI_use hf e | exact zI_use (hf _) e
theorem zI_ll (a : Nat) (i : Int32) (F : Int64 → zM) (hf : ∀ x, zInt (F x)) : zInt (z_ll a i F) := by
  refine ⟨trivial, ?_⟩
  intro h v h2 e
  unfold z_ll at e
  repeat' (split at e)
  all_goals first | (cases e; done) | exact zI_use hf e | exact zI_use (hf _) e
theorem zI_sl (a : Nat) (i : Int32) (x : Int64) (f : zM) (hf : zInt f) : zInt (z_sl a i x f) := by
  refine ⟨trivial, ?_⟩
  intro h v h2 e
  unfold z_sl at e
  repeat' (split at e)
  all_goals first | (cases e; done) | exact zI_use hf e | exact zI_use (hf _) e
theorem zI_lr (a : Nat) (i : Int32) (F : Nat → zM) (hf : ∀ x, zInt (F x)) : zInt (z_lr a i F) := by
  refine ⟨trivial, ?_⟩
  intro h v h2 e
  unfold z_lr at e
  repeat' (split at e)
  all_goals first | (cases e; done) | exact zI_use hf e | exact zI_use (hf _) e
theorem zI_sr (a : Nat) (i : Int32) (b : Nat) (f : zM) (hf : zInt f) : zInt (z_sr a i b f) := by
  refine ⟨trivial, ?_⟩
  intro h v h2 e
  unfold z_sr at e
  repeat' (split at e)
  all_goals first | (cases e; done) | exact zI_use hf e | exact zI_use (hf _) e
theorem zI_len (a : Nat) (F : Int32 → zM) (hf : ∀ x, zInt (F x)) : zInt (z_len a F) := by
  refine ⟨trivial, ?_⟩
  intro h v h2 e
  unfold z_len at e
  repeat' (split at e)
  all_goals first | (cases e; done) | exact zI_use hf e | exact zI_use (hf _) e
theorem zI_new (c n : Nat) (F : Nat → zM) (hf : ∀ x, zInt (F x)) : zInt (z_new c n F) := by
  refine ⟨trivial, ?_⟩
  intro h v h2 e
  unfold z_new at e
  repeat' (split at e)
  all_goals first | (cases e; done) | exact zI_use hf e | exact zI_use (hf _) e
theorem zI_cv (g : zM) (f : zM) (hf : zInt f) : zInt (z_cv g f) := by
  refine ⟨trivial, ?_⟩
  intro h v h2 e
  unfold z_cv at e
  repeat' (split at e)
  all_goals first | (cases e; done) | exact zI_use hf e | exact zI_use (hf _) e
theorem zI_ci (g : zM) (F : Int32 → zM) (hf : ∀ x, zInt (F x)) : zInt (z_ci g F) := by
  refine ⟨trivial, ?_⟩
  intro h v h2 e
  unfold z_ci at e
  repeat' (split at e)
  all_goals first | (cases e; done) | exact zI_use hf e | exact zI_use (hf _) e
theorem zI_cl (g : zM) (F : Int64 → zM) (hf : ∀ x, zInt (F x)) : zInt (z_cl g F) := by
  refine ⟨trivial, ?_⟩
  intro h v h2 e
  unfold z_cl at e
  repeat' (split at e)
  all_goals first | (cases e; done) | exact zI_use hf e | exact zI_use (hf _) e
theorem zI_cr (g : zM) (F : Nat → zM) (hf : ∀ x, zInt (F x)) : zInt (z_cr g F) := by
  refine ⟨trivial, ?_⟩
  intro h v h2 e
  unfold z_cr at e
  repeat' (split at e)
  all_goals first | (cases e; done) | exact zI_use hf e | exact zI_use (hf _) e
theorem zI_cp (a : Nat) (sp : Int32) (b : Nat) (dp n : Int32) (f : zM) (hf : zInt f) : zInt (z_cp a sp b dp n f) := by
  refine ⟨trivial, ?_⟩
  intro h v h2 e
  unfold z_cp at e
  repeat' (split at e)
  all_goals first | (cases e; done) | exact zI_use hf e | exact zI_use (hf _) e
theorem zI_slen (a : Nat) (F : Int32 → zM) (hf : ∀ x, zInt (F x)) : zInt (z_slen a F) := by
  refine ⟨trivial, ?_⟩
  intro h v h2 e
  unfold z_slen at e
  repeat' (split at e)
  all_goals first | (cases e; done) | exact zI_use hf e | exact zI_use (hf _) e
theorem zI_sch (a : Nat) (i : Int32) (F : Int32 → zM) (hf : ∀ x, zInt (F x)) : zInt (z_sch a i F) := by
  refine ⟨trivial, ?_⟩
  intro h v h2 e
  unfold z_sch at e
  repeat' (split at e)
  all_goals first | (cases e; done) | exact zI_use hf e | exact zI_use (hf _) e
theorem zI_rc (c a : Nat) (f : zM) (hf : zInt f) : zInt (z_rc c a f) := by
  refine ⟨trivial, ?_⟩
  intro h v h2 e
  unfold z_rc at e
  repeat' (split at e)
  all_goals first | (cases e; done) | exact zI_use hf e | exact zI_use (hf _) e
theorem zi_X11_feed (v0 : Nat) (v1 : Int32) (v2 : Int32) (v3 : Int32) (v4 : Int32) (v5 : Int32) : zInt (X11_feed v0 v1 v2 v3 v4 v5) := by
  unfold X11_feed
  repeat' (first | assumption | with_reducible apply zI_ret | with_reducible apply zI_rb | with_reducible apply zI_no | with_reducible apply zI_if | with_reducible apply zI_ck | with_reducible apply zI_gi | with_reducible apply zI_gl | with_reducible apply zI_gr | with_reducible apply zI_pi | with_reducible apply zI_pb | with_reducible apply zI_pl | with_reducible apply zI_pr | with_reducible apply zI_la | with_reducible apply zI_sa | with_reducible apply zI_ll | with_reducible apply zI_sl | with_reducible apply zI_lr | with_reducible apply zI_sr | with_reducible apply zI_len | with_reducible apply zI_new | with_reducible apply zI_cv | with_reducible apply zI_ci | with_reducible apply zI_cl | with_reducible apply zI_cr | with_reducible apply zI_cp | with_reducible apply zI_slen | with_reducible apply zI_sch | with_reducible apply zI_rc | with_reducible apply zI_fix | intro _)
theorem zi_X11_end_J12 (v0 : Nat) : zInt (X11_end_J12 v0) := by
  unfold X11_end_J12
  repeat' (first | assumption | with_reducible apply zI_ret | with_reducible apply zI_rb | with_reducible apply zI_no | with_reducible apply zI_if | with_reducible apply zI_ck | with_reducible apply zI_gi | with_reducible apply zI_gl | with_reducible apply zI_gr | with_reducible apply zI_pi | with_reducible apply zI_pb | with_reducible apply zI_pl | with_reducible apply zI_pr | with_reducible apply zI_la | with_reducible apply zI_sa | with_reducible apply zI_ll | with_reducible apply zI_sl | with_reducible apply zI_lr | with_reducible apply zI_sr | with_reducible apply zI_len | with_reducible apply zI_new | with_reducible apply zI_cv | with_reducible apply zI_ci | with_reducible apply zI_cl | with_reducible apply zI_cr | with_reducible apply zI_cp | with_reducible apply zI_slen | with_reducible apply zI_sch | with_reducible apply zI_rc | with_reducible apply zI_fix | intro _)
theorem zi_X11_end (v0 : Nat) (v1 : Int32) : zInt (X11_end v0 v1) := by
  unfold X11_end
  repeat' (first | assumption | with_reducible apply zi_X11_end_J12 | with_reducible apply zI_ret | with_reducible apply zI_rb | with_reducible apply zI_no | with_reducible apply zI_if | with_reducible apply zI_ck | with_reducible apply zI_gi | with_reducible apply zI_gl | with_reducible apply zI_gr | with_reducible apply zI_pi | with_reducible apply zI_pb | with_reducible apply zI_pl | with_reducible apply zI_pr | with_reducible apply zI_la | with_reducible apply zI_sa | with_reducible apply zI_ll | with_reducible apply zI_sl | with_reducible apply zI_lr | with_reducible apply zI_sr | with_reducible apply zI_len | with_reducible apply zI_new | with_reducible apply zI_cv | with_reducible apply zI_ci | with_reducible apply zI_cl | with_reducible apply zI_cr | with_reducible apply zI_cp | with_reducible apply zI_slen | with_reducible apply zI_sch | with_reducible apply zI_rc | with_reducible apply zI_fix | intro _)
theorem zi_X11_church (v0 : Nat) : zInt (X11_church v0) := by
  unfold X11_church
  repeat' (first | assumption | with_reducible apply zI_ret | with_reducible apply zI_rb | with_reducible apply zI_no | with_reducible apply zI_if | with_reducible apply zI_ck | with_reducible apply zI_gi | with_reducible apply zI_gl | with_reducible apply zI_gr | with_reducible apply zI_pi | with_reducible apply zI_pb | with_reducible apply zI_pl | with_reducible apply zI_pr | with_reducible apply zI_la | with_reducible apply zI_sa | with_reducible apply zI_ll | with_reducible apply zI_sl | with_reducible apply zI_lr | with_reducible apply zI_sr | with_reducible apply zI_len | with_reducible apply zI_new | with_reducible apply zI_cv | with_reducible apply zI_ci | with_reducible apply zI_cl | with_reducible apply zI_cr | with_reducible apply zI_cp | with_reducible apply zI_slen | with_reducible apply zI_sch | with_reducible apply zI_rc | with_reducible apply zI_fix | intro _)
theorem zi_X11_fault (v0 : Nat) (v1 : Int32) : zInt (X11_fault v0 v1) := by
  unfold X11_fault
  repeat' (first | assumption | with_reducible apply zI_ret | with_reducible apply zI_rb | with_reducible apply zI_no | with_reducible apply zI_if | with_reducible apply zI_ck | with_reducible apply zI_gi | with_reducible apply zI_gl | with_reducible apply zI_gr | with_reducible apply zI_pi | with_reducible apply zI_pb | with_reducible apply zI_pl | with_reducible apply zI_pr | with_reducible apply zI_la | with_reducible apply zI_sa | with_reducible apply zI_ll | with_reducible apply zI_sl | with_reducible apply zI_lr | with_reducible apply zI_sr | with_reducible apply zI_len | with_reducible apply zI_new | with_reducible apply zI_cv | with_reducible apply zI_ci | with_reducible apply zI_cl | with_reducible apply zI_cr | with_reducible apply zI_cp | with_reducible apply zI_slen | with_reducible apply zI_sch | with_reducible apply zI_rc | with_reducible apply zI_fix | intro _)
theorem zi_X11_has_S1 (v0 : Nat) (j : Nat) : zInt (X11_has_S1 v0 j) := by
  unfold X11_has_S1
  split
  all_goals (repeat' (first | assumption | with_reducible apply zI_ret | with_reducible apply zI_rb | with_reducible apply zI_no | with_reducible apply zI_if | with_reducible apply zI_ck | with_reducible apply zI_gi | with_reducible apply zI_gl | with_reducible apply zI_gr | with_reducible apply zI_pi | with_reducible apply zI_pb | with_reducible apply zI_pl | with_reducible apply zI_pr | with_reducible apply zI_la | with_reducible apply zI_sa | with_reducible apply zI_ll | with_reducible apply zI_sl | with_reducible apply zI_lr | with_reducible apply zI_sr | with_reducible apply zI_len | with_reducible apply zI_new | with_reducible apply zI_cv | with_reducible apply zI_ci | with_reducible apply zI_cl | with_reducible apply zI_cr | with_reducible apply zI_cp | with_reducible apply zI_slen | with_reducible apply zI_sch | with_reducible apply zI_rc | with_reducible apply zI_fix | intro _))
theorem zi_X11_has (v0 : Nat) (v1 : Int32) : zInt (X11_has v0 v1) := by
  unfold X11_has
  repeat' (first | assumption | with_reducible apply zi_X11_has_S1 | with_reducible apply zI_ret | with_reducible apply zI_rb | with_reducible apply zI_no | with_reducible apply zI_if | with_reducible apply zI_ck | with_reducible apply zI_gi | with_reducible apply zI_gl | with_reducible apply zI_gr | with_reducible apply zI_pi | with_reducible apply zI_pb | with_reducible apply zI_pl | with_reducible apply zI_pr | with_reducible apply zI_la | with_reducible apply zI_sa | with_reducible apply zI_ll | with_reducible apply zI_sl | with_reducible apply zI_lr | with_reducible apply zI_sr | with_reducible apply zI_len | with_reducible apply zI_new | with_reducible apply zI_cv | with_reducible apply zI_ci | with_reducible apply zI_cl | with_reducible apply zI_cr | with_reducible apply zI_cp | with_reducible apply zI_slen | with_reducible apply zI_sch | with_reducible apply zI_rc | with_reducible apply zI_fix | intro _)
theorem zi_X11_letter (v0 : Nat) (v1 : Int32) (v2 : Int32) : zInt (X11_letter v0 v1 v2) := by
  unfold X11_letter
  repeat' (first | assumption | with_reducible apply zI_ret | with_reducible apply zI_rb | with_reducible apply zI_no | with_reducible apply zI_if | with_reducible apply zI_ck | with_reducible apply zI_gi | with_reducible apply zI_gl | with_reducible apply zI_gr | with_reducible apply zI_pi | with_reducible apply zI_pb | with_reducible apply zI_pl | with_reducible apply zI_pr | with_reducible apply zI_la | with_reducible apply zI_sa | with_reducible apply zI_ll | with_reducible apply zI_sl | with_reducible apply zI_lr | with_reducible apply zI_sr | with_reducible apply zI_len | with_reducible apply zI_new | with_reducible apply zI_cv | with_reducible apply zI_ci | with_reducible apply zI_cl | with_reducible apply zI_cr | with_reducible apply zI_cp | with_reducible apply zI_slen | with_reducible apply zI_sch | with_reducible apply zI_rc | with_reducible apply zI_fix | intro _)
theorem zi_X11_person_S17 (v0 : Nat) (y2 : Int32) (j : Nat) : zInt (X11_person_S17 v0 y2 j) := by
  unfold X11_person_S17
  split
  all_goals (repeat' (first | assumption | with_reducible apply zI_ret | with_reducible apply zI_rb | with_reducible apply zI_no | with_reducible apply zI_if | with_reducible apply zI_ck | with_reducible apply zI_gi | with_reducible apply zI_gl | with_reducible apply zI_gr | with_reducible apply zI_pi | with_reducible apply zI_pb | with_reducible apply zI_pl | with_reducible apply zI_pr | with_reducible apply zI_la | with_reducible apply zI_sa | with_reducible apply zI_ll | with_reducible apply zI_sl | with_reducible apply zI_lr | with_reducible apply zI_sr | with_reducible apply zI_len | with_reducible apply zI_new | with_reducible apply zI_cv | with_reducible apply zI_ci | with_reducible apply zI_cl | with_reducible apply zI_cr | with_reducible apply zI_cp | with_reducible apply zI_slen | with_reducible apply zI_sch | with_reducible apply zI_rc | with_reducible apply zI_fix | intro _))
theorem zi_X11_person (v0 : Nat) (v1 : Int32) (v2 : Int32) : zInt (X11_person v0 v1 v2) := by
  unfold X11_person
  repeat' (first | assumption | with_reducible apply zi_X11_person_S17 | with_reducible apply zI_ret | with_reducible apply zI_rb | with_reducible apply zI_no | with_reducible apply zI_if | with_reducible apply zI_ck | with_reducible apply zI_gi | with_reducible apply zI_gl | with_reducible apply zI_gr | with_reducible apply zI_pi | with_reducible apply zI_pb | with_reducible apply zI_pl | with_reducible apply zI_pr | with_reducible apply zI_la | with_reducible apply zI_sa | with_reducible apply zI_ll | with_reducible apply zI_sl | with_reducible apply zI_lr | with_reducible apply zI_sr | with_reducible apply zI_len | with_reducible apply zI_new | with_reducible apply zI_cv | with_reducible apply zI_ci | with_reducible apply zI_cl | with_reducible apply zI_cr | with_reducible apply zI_cp | with_reducible apply zI_slen | with_reducible apply zI_sch | with_reducible apply zI_rc | with_reducible apply zI_fix | intro _)
theorem zi_X11_pair_S31 (v0 : Nat) (y2 : Int32) (y4 : Int32) (j : Nat) : zInt (X11_pair_S31 v0 y2 y4 j) := by
  unfold X11_pair_S31
  split
  all_goals (repeat' (first | assumption | with_reducible apply zI_ret | with_reducible apply zI_rb | with_reducible apply zI_no | with_reducible apply zI_if | with_reducible apply zI_ck | with_reducible apply zI_gi | with_reducible apply zI_gl | with_reducible apply zI_gr | with_reducible apply zI_pi | with_reducible apply zI_pb | with_reducible apply zI_pl | with_reducible apply zI_pr | with_reducible apply zI_la | with_reducible apply zI_sa | with_reducible apply zI_ll | with_reducible apply zI_sl | with_reducible apply zI_lr | with_reducible apply zI_sr | with_reducible apply zI_len | with_reducible apply zI_new | with_reducible apply zI_cv | with_reducible apply zI_ci | with_reducible apply zI_cl | with_reducible apply zI_cr | with_reducible apply zI_cp | with_reducible apply zI_slen | with_reducible apply zI_sch | with_reducible apply zI_rc | with_reducible apply zI_fix | intro _))
theorem zi_X11_pair (v0 : Nat) (v1 : Int32) (v2 : Int32) (v3 : Int32) : zInt (X11_pair v0 v1 v2 v3) := by
  unfold X11_pair
  repeat' (first | assumption | with_reducible apply zi_X11_pair_S31 | with_reducible apply zI_ret | with_reducible apply zI_rb | with_reducible apply zI_no | with_reducible apply zI_if | with_reducible apply zI_ck | with_reducible apply zI_gi | with_reducible apply zI_gl | with_reducible apply zI_gr | with_reducible apply zI_pi | with_reducible apply zI_pb | with_reducible apply zI_pl | with_reducible apply zI_pr | with_reducible apply zI_la | with_reducible apply zI_sa | with_reducible apply zI_ll | with_reducible apply zI_sl | with_reducible apply zI_lr | with_reducible apply zI_sr | with_reducible apply zI_len | with_reducible apply zI_new | with_reducible apply zI_cv | with_reducible apply zI_ci | with_reducible apply zI_cl | with_reducible apply zI_cr | with_reducible apply zI_cp | with_reducible apply zI_slen | with_reducible apply zI_sch | with_reducible apply zI_rc | with_reducible apply zI_fix | intro _)
theorem zi_X11_kept (v0 : Nat) (v1 : Int32) (v2 : Int32) : zInt (X11_kept v0 v1 v2) := by
  unfold X11_kept
  repeat' (first | assumption | with_reducible apply zI_ret | with_reducible apply zI_rb | with_reducible apply zI_no | with_reducible apply zI_if | with_reducible apply zI_ck | with_reducible apply zI_gi | with_reducible apply zI_gl | with_reducible apply zI_gr | with_reducible apply zI_pi | with_reducible apply zI_pb | with_reducible apply zI_pl | with_reducible apply zI_pr | with_reducible apply zI_la | with_reducible apply zI_sa | with_reducible apply zI_ll | with_reducible apply zI_sl | with_reducible apply zI_lr | with_reducible apply zI_sr | with_reducible apply zI_len | with_reducible apply zI_new | with_reducible apply zI_cv | with_reducible apply zI_ci | with_reducible apply zI_cl | with_reducible apply zI_cr | with_reducible apply zI_cp | with_reducible apply zI_slen | with_reducible apply zI_sch | with_reducible apply zI_rc | with_reducible apply zI_fix | intro _)
theorem zi_X11_later (v0 : Nat) (v1 : Int32) (v2 : Int32) : zInt (X11_later v0 v1 v2) := by
  unfold X11_later
  repeat' (first | assumption | with_reducible apply zI_ret | with_reducible apply zI_rb | with_reducible apply zI_no | with_reducible apply zI_if | with_reducible apply zI_ck | with_reducible apply zI_gi | with_reducible apply zI_gl | with_reducible apply zI_gr | with_reducible apply zI_pi | with_reducible apply zI_pb | with_reducible apply zI_pl | with_reducible apply zI_pr | with_reducible apply zI_la | with_reducible apply zI_sa | with_reducible apply zI_ll | with_reducible apply zI_sl | with_reducible apply zI_lr | with_reducible apply zI_sr | with_reducible apply zI_len | with_reducible apply zI_new | with_reducible apply zI_cv | with_reducible apply zI_ci | with_reducible apply zI_cl | with_reducible apply zI_cr | with_reducible apply zI_cp | with_reducible apply zI_slen | with_reducible apply zI_sch | with_reducible apply zI_rc | with_reducible apply zI_fix | intro _)
theorem zi_X11_when (v0 : Nat) (v1 : Int32) : zInt (X11_when v0 v1) := by
  unfold X11_when
  repeat' (first | assumption | with_reducible apply zI_ret | with_reducible apply zI_rb | with_reducible apply zI_no | with_reducible apply zI_if | with_reducible apply zI_ck | with_reducible apply zI_gi | with_reducible apply zI_gl | with_reducible apply zI_gr | with_reducible apply zI_pi | with_reducible apply zI_pb | with_reducible apply zI_pl | with_reducible apply zI_pr | with_reducible apply zI_la | with_reducible apply zI_sa | with_reducible apply zI_ll | with_reducible apply zI_sl | with_reducible apply zI_lr | with_reducible apply zI_sr | with_reducible apply zI_len | with_reducible apply zI_new | with_reducible apply zI_cv | with_reducible apply zI_ci | with_reducible apply zI_cl | with_reducible apply zI_cr | with_reducible apply zI_cp | with_reducible apply zI_slen | with_reducible apply zI_sch | with_reducible apply zI_rc | with_reducible apply zI_fix | intro _)
theorem zi_X11_pairs (v0 : Nat) (v1 : Int32) : zInt (X11_pairs v0 v1) := by
  unfold X11_pairs
  repeat' (first | assumption | with_reducible apply zI_ret | with_reducible apply zI_rb | with_reducible apply zI_no | with_reducible apply zI_if | with_reducible apply zI_ck | with_reducible apply zI_gi | with_reducible apply zI_gl | with_reducible apply zI_gr | with_reducible apply zI_pi | with_reducible apply zI_pb | with_reducible apply zI_pl | with_reducible apply zI_pr | with_reducible apply zI_la | with_reducible apply zI_sa | with_reducible apply zI_ll | with_reducible apply zI_sl | with_reducible apply zI_lr | with_reducible apply zI_sr | with_reducible apply zI_len | with_reducible apply zI_new | with_reducible apply zI_cv | with_reducible apply zI_ci | with_reducible apply zI_cl | with_reducible apply zI_cr | with_reducible apply zI_cp | with_reducible apply zI_slen | with_reducible apply zI_sch | with_reducible apply zI_rc | with_reducible apply zI_fix | intro _)
theorem zi_X11_match_J43  : zInt (X11_match_J43) := by
  unfold X11_match_J43
  repeat' (first | assumption | with_reducible apply zI_ret | with_reducible apply zI_rb | with_reducible apply zI_no | with_reducible apply zI_if | with_reducible apply zI_ck | with_reducible apply zI_gi | with_reducible apply zI_gl | with_reducible apply zI_gr | with_reducible apply zI_pi | with_reducible apply zI_pb | with_reducible apply zI_pl | with_reducible apply zI_pr | with_reducible apply zI_la | with_reducible apply zI_sa | with_reducible apply zI_ll | with_reducible apply zI_sl | with_reducible apply zI_lr | with_reducible apply zI_sr | with_reducible apply zI_len | with_reducible apply zI_new | with_reducible apply zI_cv | with_reducible apply zI_ci | with_reducible apply zI_cl | with_reducible apply zI_cr | with_reducible apply zI_cp | with_reducible apply zI_slen | with_reducible apply zI_sch | with_reducible apply zI_rc | with_reducible apply zI_fix | intro _)
theorem zi_X11_match (v0 : Nat) (v1 : Int32) : zInt (X11_match v0 v1) := by
  unfold X11_match
  repeat' (first | assumption | with_reducible apply zi_X11_match_J43 | with_reducible apply zI_ret | with_reducible apply zI_rb | with_reducible apply zI_no | with_reducible apply zI_if | with_reducible apply zI_ck | with_reducible apply zI_gi | with_reducible apply zI_gl | with_reducible apply zI_gr | with_reducible apply zI_pi | with_reducible apply zI_pb | with_reducible apply zI_pl | with_reducible apply zI_pr | with_reducible apply zI_la | with_reducible apply zI_sa | with_reducible apply zI_ll | with_reducible apply zI_sl | with_reducible apply zI_lr | with_reducible apply zI_sr | with_reducible apply zI_len | with_reducible apply zI_new | with_reducible apply zI_cv | with_reducible apply zI_ci | with_reducible apply zI_cl | with_reducible apply zI_cr | with_reducible apply zI_cp | with_reducible apply zI_slen | with_reducible apply zI_sch | with_reducible apply zI_rc | with_reducible apply zI_fix | intro _)
theorem zi_X11_steady (v0 : Nat) (v1 : Int32) : zInt (X11_steady v0 v1) := by
  unfold X11_steady
  repeat' (first | assumption | with_reducible apply zI_ret | with_reducible apply zI_rb | with_reducible apply zI_no | with_reducible apply zI_if | with_reducible apply zI_ck | with_reducible apply zI_gi | with_reducible apply zI_gl | with_reducible apply zI_gr | with_reducible apply zI_pi | with_reducible apply zI_pb | with_reducible apply zI_pl | with_reducible apply zI_pr | with_reducible apply zI_la | with_reducible apply zI_sa | with_reducible apply zI_ll | with_reducible apply zI_sl | with_reducible apply zI_lr | with_reducible apply zI_sr | with_reducible apply zI_len | with_reducible apply zI_new | with_reducible apply zI_cv | with_reducible apply zI_ci | with_reducible apply zI_cl | with_reducible apply zI_cr | with_reducible apply zI_cp | with_reducible apply zI_slen | with_reducible apply zI_sch | with_reducible apply zI_rc | with_reducible apply zI_fix | intro _)
theorem zi_X11_rather (v0 : Nat) (v1 : Int32) (v2 : Int32) : zInt (X11_rather v0 v1 v2) := by
  unfold X11_rather
  repeat' (first | assumption | with_reducible apply zI_ret | with_reducible apply zI_rb | with_reducible apply zI_no | with_reducible apply zI_if | with_reducible apply zI_ck | with_reducible apply zI_gi | with_reducible apply zI_gl | with_reducible apply zI_gr | with_reducible apply zI_pi | with_reducible apply zI_pb | with_reducible apply zI_pl | with_reducible apply zI_pr | with_reducible apply zI_la | with_reducible apply zI_sa | with_reducible apply zI_ll | with_reducible apply zI_sl | with_reducible apply zI_lr | with_reducible apply zI_sr | with_reducible apply zI_len | with_reducible apply zI_new | with_reducible apply zI_cv | with_reducible apply zI_ci | with_reducible apply zI_cl | with_reducible apply zI_cr | with_reducible apply zI_cp | with_reducible apply zI_slen | with_reducible apply zI_sch | with_reducible apply zI_rc | with_reducible apply zI_fix | intro _)
theorem zi_X11_teach (v0 : Nat) (v1 : Int32) (v2 : Int32) : zInt (X11_teach v0 v1 v2) := by
  unfold X11_teach
  repeat' (first | assumption | with_reducible apply zI_ret | with_reducible apply zI_rb | with_reducible apply zI_no | with_reducible apply zI_if | with_reducible apply zI_ck | with_reducible apply zI_gi | with_reducible apply zI_gl | with_reducible apply zI_gr | with_reducible apply zI_pi | with_reducible apply zI_pb | with_reducible apply zI_pl | with_reducible apply zI_pr | with_reducible apply zI_la | with_reducible apply zI_sa | with_reducible apply zI_ll | with_reducible apply zI_sl | with_reducible apply zI_lr | with_reducible apply zI_sr | with_reducible apply zI_len | with_reducible apply zI_new | with_reducible apply zI_cv | with_reducible apply zI_ci | with_reducible apply zI_cl | with_reducible apply zI_cr | with_reducible apply zI_cp | with_reducible apply zI_slen | with_reducible apply zI_sch | with_reducible apply zI_rc | with_reducible apply zI_fix | intro _)
theorem zi_X11_change (v0 : Nat) (v1 : Int32) (v2 : Int32) : zInt (X11_change v0 v1 v2) := by
  unfold X11_change
  repeat' (first | assumption | with_reducible apply zI_ret | with_reducible apply zI_rb | with_reducible apply zI_no | with_reducible apply zI_if | with_reducible apply zI_ck | with_reducible apply zI_gi | with_reducible apply zI_gl | with_reducible apply zI_gr | with_reducible apply zI_pi | with_reducible apply zI_pb | with_reducible apply zI_pl | with_reducible apply zI_pr | with_reducible apply zI_la | with_reducible apply zI_sa | with_reducible apply zI_ll | with_reducible apply zI_sl | with_reducible apply zI_lr | with_reducible apply zI_sr | with_reducible apply zI_len | with_reducible apply zI_new | with_reducible apply zI_cv | with_reducible apply zI_ci | with_reducible apply zI_cl | with_reducible apply zI_cr | with_reducible apply zI_cp | with_reducible apply zI_slen | with_reducible apply zI_sch | with_reducible apply zI_rc | with_reducible apply zI_fix | intro _)
theorem zi_X11_odds (v0 : Nat) (v1 : Int32) : zInt (X11_odds v0 v1) := by
  unfold X11_odds
  repeat' (first | assumption | with_reducible apply zI_ret | with_reducible apply zI_rb | with_reducible apply zI_no | with_reducible apply zI_if | with_reducible apply zI_ck | with_reducible apply zI_gi | with_reducible apply zI_gl | with_reducible apply zI_gr | with_reducible apply zI_pi | with_reducible apply zI_pb | with_reducible apply zI_pl | with_reducible apply zI_pr | with_reducible apply zI_la | with_reducible apply zI_sa | with_reducible apply zI_ll | with_reducible apply zI_sl | with_reducible apply zI_lr | with_reducible apply zI_sr | with_reducible apply zI_len | with_reducible apply zI_new | with_reducible apply zI_cv | with_reducible apply zI_ci | with_reducible apply zI_cl | with_reducible apply zI_cr | with_reducible apply zI_cp | with_reducible apply zI_slen | with_reducible apply zI_sch | with_reducible apply zI_rc | with_reducible apply zI_fix | intro _)
theorem zi_X11_see_J102 (v0 : Nat) (v1 : Int32) : zInt (X11_see_J102 v0 v1) := by
  unfold X11_see_J102
  repeat' (first | assumption | with_reducible apply zI_ret | with_reducible apply zI_rb | with_reducible apply zI_no | with_reducible apply zI_if | with_reducible apply zI_ck | with_reducible apply zI_gi | with_reducible apply zI_gl | with_reducible apply zI_gr | with_reducible apply zI_pi | with_reducible apply zI_pb | with_reducible apply zI_pl | with_reducible apply zI_pr | with_reducible apply zI_la | with_reducible apply zI_sa | with_reducible apply zI_ll | with_reducible apply zI_sl | with_reducible apply zI_lr | with_reducible apply zI_sr | with_reducible apply zI_len | with_reducible apply zI_new | with_reducible apply zI_cv | with_reducible apply zI_ci | with_reducible apply zI_cl | with_reducible apply zI_cr | with_reducible apply zI_cp | with_reducible apply zI_slen | with_reducible apply zI_sch | with_reducible apply zI_rc | with_reducible apply zI_fix | intro _)
theorem zi_X11_see_B38 (v0 : Nat) (v1 : Int32) (r38 : Int32 → zM) (v2 : Int32) (hr38 : ∀ x, zInt (r38 x)) : zInt (X11_see_B38 v0 v1 r38 v2) := by
  unfold X11_see_B38
  repeat' (first | assumption | with_reducible apply zi_X11_see_J102 | with_reducible apply hr38 | with_reducible apply zI_ret | with_reducible apply zI_rb | with_reducible apply zI_no | with_reducible apply zI_if | with_reducible apply zI_ck | with_reducible apply zI_gi | with_reducible apply zI_gl | with_reducible apply zI_gr | with_reducible apply zI_pi | with_reducible apply zI_pb | with_reducible apply zI_pl | with_reducible apply zI_pr | with_reducible apply zI_la | with_reducible apply zI_sa | with_reducible apply zI_ll | with_reducible apply zI_sl | with_reducible apply zI_lr | with_reducible apply zI_sr | with_reducible apply zI_len | with_reducible apply zI_new | with_reducible apply zI_cv | with_reducible apply zI_ci | with_reducible apply zI_cl | with_reducible apply zI_cr | with_reducible apply zI_cp | with_reducible apply zI_slen | with_reducible apply zI_sch | with_reducible apply zI_rc | with_reducible apply zI_fix | intro _)
theorem zi_X11_see_J30 (v0 : Nat) : zInt (X11_see_J30 v0) := by
  unfold X11_see_J30
  repeat' (first | assumption | with_reducible apply zI_ret | with_reducible apply zI_rb | with_reducible apply zI_no | with_reducible apply zI_if | with_reducible apply zI_ck | with_reducible apply zI_gi | with_reducible apply zI_gl | with_reducible apply zI_gr | with_reducible apply zI_pi | with_reducible apply zI_pb | with_reducible apply zI_pl | with_reducible apply zI_pr | with_reducible apply zI_la | with_reducible apply zI_sa | with_reducible apply zI_ll | with_reducible apply zI_sl | with_reducible apply zI_lr | with_reducible apply zI_sr | with_reducible apply zI_len | with_reducible apply zI_new | with_reducible apply zI_cv | with_reducible apply zI_ci | with_reducible apply zI_cl | with_reducible apply zI_cr | with_reducible apply zI_cp | with_reducible apply zI_slen | with_reducible apply zI_sch | with_reducible apply zI_rc | with_reducible apply zI_fix | intro _)
theorem zi_X11_see (v0 : Nat) : zInt (X11_see v0) := by
  unfold X11_see
  repeat' (first | assumption | with_reducible apply zi_X11_see_B38 | with_reducible apply zi_X11_see_J30 | with_reducible apply zI_ret | with_reducible apply zI_rb | with_reducible apply zI_no | with_reducible apply zI_if | with_reducible apply zI_ck | with_reducible apply zI_gi | with_reducible apply zI_gl | with_reducible apply zI_gr | with_reducible apply zI_pi | with_reducible apply zI_pb | with_reducible apply zI_pl | with_reducible apply zI_pr | with_reducible apply zI_la | with_reducible apply zI_sa | with_reducible apply zI_ll | with_reducible apply zI_sl | with_reducible apply zI_lr | with_reducible apply zI_sr | with_reducible apply zI_len | with_reducible apply zI_new | with_reducible apply zI_cv | with_reducible apply zI_ci | with_reducible apply zI_cl | with_reducible apply zI_cr | with_reducible apply zI_cp | with_reducible apply zI_slen | with_reducible apply zI_sch | with_reducible apply zI_rc | with_reducible apply zI_fix | intro _)
theorem zi_X11_sizes (v0 : Nat) (v1 : Int32) : zInt (X11_sizes v0 v1) := by
  unfold X11_sizes
  repeat' (first | assumption | with_reducible apply zI_ret | with_reducible apply zI_rb | with_reducible apply zI_no | with_reducible apply zI_if | with_reducible apply zI_ck | with_reducible apply zI_gi | with_reducible apply zI_gl | with_reducible apply zI_gr | with_reducible apply zI_pi | with_reducible apply zI_pb | with_reducible apply zI_pl | with_reducible apply zI_pr | with_reducible apply zI_la | with_reducible apply zI_sa | with_reducible apply zI_ll | with_reducible apply zI_sl | with_reducible apply zI_lr | with_reducible apply zI_sr | with_reducible apply zI_len | with_reducible apply zI_new | with_reducible apply zI_cv | with_reducible apply zI_ci | with_reducible apply zI_cl | with_reducible apply zI_cr | with_reducible apply zI_cp | with_reducible apply zI_slen | with_reducible apply zI_sch | with_reducible apply zI_rc | with_reducible apply zI_fix | intro _)
theorem zi_X11_tells (v0 : Nat) (v1 : Int32) (v2 : Int32) : zInt (X11_tells v0 v1 v2) := by
  unfold X11_tells
  repeat' (first | assumption | with_reducible apply zI_ret | with_reducible apply zI_rb | with_reducible apply zI_no | with_reducible apply zI_if | with_reducible apply zI_ck | with_reducible apply zI_gi | with_reducible apply zI_gl | with_reducible apply zI_gr | with_reducible apply zI_pi | with_reducible apply zI_pb | with_reducible apply zI_pl | with_reducible apply zI_pr | with_reducible apply zI_la | with_reducible apply zI_sa | with_reducible apply zI_ll | with_reducible apply zI_sl | with_reducible apply zI_lr | with_reducible apply zI_sr | with_reducible apply zI_len | with_reducible apply zI_new | with_reducible apply zI_cv | with_reducible apply zI_ci | with_reducible apply zI_cl | with_reducible apply zI_cr | with_reducible apply zI_cp | with_reducible apply zI_slen | with_reducible apply zI_sch | with_reducible apply zI_rc | with_reducible apply zI_fix | intro _)
theorem zi_X11_rounds_B39 (v0 : Nat) (v1 : Int32) (r39 : Int32 × Int32 → zM) (v2 : Int32) (v3 : Int32) (hr39 : ∀ x, zInt (r39 x)) : zInt (X11_rounds_B39 v0 v1 r39 v2 v3) := by
  unfold X11_rounds_B39
  repeat' (first | assumption | with_reducible apply hr39 | with_reducible apply zI_ret | with_reducible apply zI_rb | with_reducible apply zI_no | with_reducible apply zI_if | with_reducible apply zI_ck | with_reducible apply zI_gi | with_reducible apply zI_gl | with_reducible apply zI_gr | with_reducible apply zI_pi | with_reducible apply zI_pb | with_reducible apply zI_pl | with_reducible apply zI_pr | with_reducible apply zI_la | with_reducible apply zI_sa | with_reducible apply zI_ll | with_reducible apply zI_sl | with_reducible apply zI_lr | with_reducible apply zI_sr | with_reducible apply zI_len | with_reducible apply zI_new | with_reducible apply zI_cv | with_reducible apply zI_ci | with_reducible apply zI_cl | with_reducible apply zI_cr | with_reducible apply zI_cp | with_reducible apply zI_slen | with_reducible apply zI_sch | with_reducible apply zI_rc | with_reducible apply zI_fix | intro _)
theorem zi_X11_rounds (v0 : Nat) (v1 : Int32) : zInt (X11_rounds v0 v1) := by
  unfold X11_rounds
  repeat' (first | assumption | with_reducible apply zi_X11_rounds_B39 | with_reducible apply zI_ret | with_reducible apply zI_rb | with_reducible apply zI_no | with_reducible apply zI_if | with_reducible apply zI_ck | with_reducible apply zI_gi | with_reducible apply zI_gl | with_reducible apply zI_gr | with_reducible apply zI_pi | with_reducible apply zI_pb | with_reducible apply zI_pl | with_reducible apply zI_pr | with_reducible apply zI_la | with_reducible apply zI_sa | with_reducible apply zI_ll | with_reducible apply zI_sl | with_reducible apply zI_lr | with_reducible apply zI_sr | with_reducible apply zI_len | with_reducible apply zI_new | with_reducible apply zI_cv | with_reducible apply zI_ci | with_reducible apply zI_cl | with_reducible apply zI_cr | with_reducible apply zI_cp | with_reducible apply zI_slen | with_reducible apply zI_sch | with_reducible apply zI_rc | with_reducible apply zI_fix | intro _)
theorem zi_X11_chance_J96 (r39 : Int32 × Int32 → zM) (v0 : Nat) (v1 : Int32) (v2 : Int32) (v3 : Int32) (v4 : Int32) (hr39 : ∀ x, zInt (r39 x)) : zInt (X11_chance_J96 r39 v0 v1 v2 v3 v4) := by
  unfold X11_chance_J96
  repeat' (first | assumption | with_reducible apply hr39 | with_reducible apply zI_ret | with_reducible apply zI_rb | with_reducible apply zI_no | with_reducible apply zI_if | with_reducible apply zI_ck | with_reducible apply zI_gi | with_reducible apply zI_gl | with_reducible apply zI_gr | with_reducible apply zI_pi | with_reducible apply zI_pb | with_reducible apply zI_pl | with_reducible apply zI_pr | with_reducible apply zI_la | with_reducible apply zI_sa | with_reducible apply zI_ll | with_reducible apply zI_sl | with_reducible apply zI_lr | with_reducible apply zI_sr | with_reducible apply zI_len | with_reducible apply zI_new | with_reducible apply zI_cv | with_reducible apply zI_ci | with_reducible apply zI_cl | with_reducible apply zI_cr | with_reducible apply zI_cp | with_reducible apply zI_slen | with_reducible apply zI_sch | with_reducible apply zI_rc | with_reducible apply zI_fix | intro _)
theorem zi_X11_chance_B39 (v0 : Nat) (v1 : Int32) (r39 : Int32 × Int32 → zM) (v2 : Int32) (v3 : Int32) (hr39 : ∀ x, zInt (r39 x)) : zInt (X11_chance_B39 v0 v1 r39 v2 v3) := by
  unfold X11_chance_B39
  repeat' (first | assumption | with_reducible apply zi_X11_chance_J96 | with_reducible apply hr39 | with_reducible apply zI_ret | with_reducible apply zI_rb | with_reducible apply zI_no | with_reducible apply zI_if | with_reducible apply zI_ck | with_reducible apply zI_gi | with_reducible apply zI_gl | with_reducible apply zI_gr | with_reducible apply zI_pi | with_reducible apply zI_pb | with_reducible apply zI_pl | with_reducible apply zI_pr | with_reducible apply zI_la | with_reducible apply zI_sa | with_reducible apply zI_ll | with_reducible apply zI_sl | with_reducible apply zI_lr | with_reducible apply zI_sr | with_reducible apply zI_len | with_reducible apply zI_new | with_reducible apply zI_cv | with_reducible apply zI_ci | with_reducible apply zI_cl | with_reducible apply zI_cr | with_reducible apply zI_cp | with_reducible apply zI_slen | with_reducible apply zI_sch | with_reducible apply zI_rc | with_reducible apply zI_fix | intro _)
theorem zi_X11_chance (v0 : Nat) (v1 : Int32) : zInt (X11_chance v0 v1) := by
  unfold X11_chance
  repeat' (first | assumption | with_reducible apply zi_X11_chance_B39 | with_reducible apply zI_ret | with_reducible apply zI_rb | with_reducible apply zI_no | with_reducible apply zI_if | with_reducible apply zI_ck | with_reducible apply zI_gi | with_reducible apply zI_gl | with_reducible apply zI_gr | with_reducible apply zI_pi | with_reducible apply zI_pb | with_reducible apply zI_pl | with_reducible apply zI_pr | with_reducible apply zI_la | with_reducible apply zI_sa | with_reducible apply zI_ll | with_reducible apply zI_sl | with_reducible apply zI_lr | with_reducible apply zI_sr | with_reducible apply zI_len | with_reducible apply zI_new | with_reducible apply zI_cv | with_reducible apply zI_ci | with_reducible apply zI_cl | with_reducible apply zI_cr | with_reducible apply zI_cp | with_reducible apply zI_slen | with_reducible apply zI_sch | with_reducible apply zI_rc | with_reducible apply zI_fix | intro _)
theorem zi_X11_part_J27 (v0 : Nat) (v2 : Int32) (s0 : Int32) : zInt (X11_part_J27 v0 v2 s0) := by
  unfold X11_part_J27
  repeat' (first | assumption | with_reducible apply zI_ret | with_reducible apply zI_rb | with_reducible apply zI_no | with_reducible apply zI_if | with_reducible apply zI_ck | with_reducible apply zI_gi | with_reducible apply zI_gl | with_reducible apply zI_gr | with_reducible apply zI_pi | with_reducible apply zI_pb | with_reducible apply zI_pl | with_reducible apply zI_pr | with_reducible apply zI_la | with_reducible apply zI_sa | with_reducible apply zI_ll | with_reducible apply zI_sl | with_reducible apply zI_lr | with_reducible apply zI_sr | with_reducible apply zI_len | with_reducible apply zI_new | with_reducible apply zI_cv | with_reducible apply zI_ci | with_reducible apply zI_cl | with_reducible apply zI_cr | with_reducible apply zI_cp | with_reducible apply zI_slen | with_reducible apply zI_sch | with_reducible apply zI_rc | with_reducible apply zI_fix | intro _)
theorem zi_X11_part (v0 : Nat) (v1 : Int32) : zInt (X11_part v0 v1) := by
  unfold X11_part
  repeat' (first | assumption | with_reducible apply zi_X11_part_J27 | with_reducible apply zI_ret | with_reducible apply zI_rb | with_reducible apply zI_no | with_reducible apply zI_if | with_reducible apply zI_ck | with_reducible apply zI_gi | with_reducible apply zI_gl | with_reducible apply zI_gr | with_reducible apply zI_pi | with_reducible apply zI_pb | with_reducible apply zI_pl | with_reducible apply zI_pr | with_reducible apply zI_la | with_reducible apply zI_sa | with_reducible apply zI_ll | with_reducible apply zI_sl | with_reducible apply zI_lr | with_reducible apply zI_sr | with_reducible apply zI_len | with_reducible apply zI_new | with_reducible apply zI_cv | with_reducible apply zI_ci | with_reducible apply zI_cl | with_reducible apply zI_cr | with_reducible apply zI_cp | with_reducible apply zI_slen | with_reducible apply zI_sch | with_reducible apply zI_rc | with_reducible apply zI_fix | intro _)
theorem zi_X11_learn (v0 : Nat) (v1 : Int32) (v2 : Int32) (v3 : Int32) : zInt (X11_learn v0 v1 v2 v3) := by
  unfold X11_learn
  repeat' (first | assumption | with_reducible apply zI_ret | with_reducible apply zI_rb | with_reducible apply zI_no | with_reducible apply zI_if | with_reducible apply zI_ck | with_reducible apply zI_gi | with_reducible apply zI_gl | with_reducible apply zI_gr | with_reducible apply zI_pi | with_reducible apply zI_pb | with_reducible apply zI_pl | with_reducible apply zI_pr | with_reducible apply zI_la | with_reducible apply zI_sa | with_reducible apply zI_ll | with_reducible apply zI_sl | with_reducible apply zI_lr | with_reducible apply zI_sr | with_reducible apply zI_len | with_reducible apply zI_new | with_reducible apply zI_cv | with_reducible apply zI_ci | with_reducible apply zI_cl | with_reducible apply zI_cr | with_reducible apply zI_cp | with_reducible apply zI_slen | with_reducible apply zI_sch | with_reducible apply zI_rc | with_reducible apply zI_fix | intro _)
theorem zi_X11_like (v0 : Nat) (v1 : Int32) (v2 : Int32) (v3 : Int32) : zInt (X11_like v0 v1 v2 v3) := by
  unfold X11_like
  repeat' (first | assumption | with_reducible apply zI_ret | with_reducible apply zI_rb | with_reducible apply zI_no | with_reducible apply zI_if | with_reducible apply zI_ck | with_reducible apply zI_gi | with_reducible apply zI_gl | with_reducible apply zI_gr | with_reducible apply zI_pi | with_reducible apply zI_pb | with_reducible apply zI_pl | with_reducible apply zI_pr | with_reducible apply zI_la | with_reducible apply zI_sa | with_reducible apply zI_ll | with_reducible apply zI_sl | with_reducible apply zI_lr | with_reducible apply zI_sr | with_reducible apply zI_len | with_reducible apply zI_new | with_reducible apply zI_cv | with_reducible apply zI_ci | with_reducible apply zI_cl | with_reducible apply zI_cr | with_reducible apply zI_cp | with_reducible apply zI_slen | with_reducible apply zI_sch | with_reducible apply zI_rc | with_reducible apply zI_fix | intro _)
theorem zi_X11_swap_J32 (v0 : Nat) : zInt (X11_swap_J32 v0) := by
  unfold X11_swap_J32
  repeat' (first | assumption | with_reducible apply zI_ret | with_reducible apply zI_rb | with_reducible apply zI_no | with_reducible apply zI_if | with_reducible apply zI_ck | with_reducible apply zI_gi | with_reducible apply zI_gl | with_reducible apply zI_gr | with_reducible apply zI_pi | with_reducible apply zI_pb | with_reducible apply zI_pl | with_reducible apply zI_pr | with_reducible apply zI_la | with_reducible apply zI_sa | with_reducible apply zI_ll | with_reducible apply zI_sl | with_reducible apply zI_lr | with_reducible apply zI_sr | with_reducible apply zI_len | with_reducible apply zI_new | with_reducible apply zI_cv | with_reducible apply zI_ci | with_reducible apply zI_cl | with_reducible apply zI_cr | with_reducible apply zI_cp | with_reducible apply zI_slen | with_reducible apply zI_sch | with_reducible apply zI_rc | with_reducible apply zI_fix | intro _)
theorem zi_X11_swap (v0 : Nat) (v1 : Int32) (v2 : Int32) (v3 : Int32) : zInt (X11_swap v0 v1 v2 v3) := by
  unfold X11_swap
  repeat' (first | assumption | with_reducible apply zi_X11_swap_J32 | with_reducible apply zI_ret | with_reducible apply zI_rb | with_reducible apply zI_no | with_reducible apply zI_if | with_reducible apply zI_ck | with_reducible apply zI_gi | with_reducible apply zI_gl | with_reducible apply zI_gr | with_reducible apply zI_pi | with_reducible apply zI_pb | with_reducible apply zI_pl | with_reducible apply zI_pr | with_reducible apply zI_la | with_reducible apply zI_sa | with_reducible apply zI_ll | with_reducible apply zI_sl | with_reducible apply zI_lr | with_reducible apply zI_sr | with_reducible apply zI_len | with_reducible apply zI_new | with_reducible apply zI_cv | with_reducible apply zI_ci | with_reducible apply zI_cl | with_reducible apply zI_cr | with_reducible apply zI_cp | with_reducible apply zI_slen | with_reducible apply zI_sch | with_reducible apply zI_rc | with_reducible apply zI_fix | intro _)
theorem zi_X11_undo (v0 : Nat) : zInt (X11_undo v0) := by
  unfold X11_undo
  repeat' (first | assumption | with_reducible apply zI_ret | with_reducible apply zI_rb | with_reducible apply zI_no | with_reducible apply zI_if | with_reducible apply zI_ck | with_reducible apply zI_gi | with_reducible apply zI_gl | with_reducible apply zI_gr | with_reducible apply zI_pi | with_reducible apply zI_pb | with_reducible apply zI_pl | with_reducible apply zI_pr | with_reducible apply zI_la | with_reducible apply zI_sa | with_reducible apply zI_ll | with_reducible apply zI_sl | with_reducible apply zI_lr | with_reducible apply zI_sr | with_reducible apply zI_len | with_reducible apply zI_new | with_reducible apply zI_cv | with_reducible apply zI_ci | with_reducible apply zI_cl | with_reducible apply zI_cr | with_reducible apply zI_cp | with_reducible apply zI_slen | with_reducible apply zI_sch | with_reducible apply zI_rc | with_reducible apply zI_fix | intro _)
theorem zi_X11_seed (v0 : Nat) (v1 : Int32) : zInt (X11_seed v0 v1) := by
  unfold X11_seed
  repeat' (first | assumption | with_reducible apply zI_ret | with_reducible apply zI_rb | with_reducible apply zI_no | with_reducible apply zI_if | with_reducible apply zI_ck | with_reducible apply zI_gi | with_reducible apply zI_gl | with_reducible apply zI_gr | with_reducible apply zI_pi | with_reducible apply zI_pb | with_reducible apply zI_pl | with_reducible apply zI_pr | with_reducible apply zI_la | with_reducible apply zI_sa | with_reducible apply zI_ll | with_reducible apply zI_sl | with_reducible apply zI_lr | with_reducible apply zI_sr | with_reducible apply zI_len | with_reducible apply zI_new | with_reducible apply zI_cv | with_reducible apply zI_ci | with_reducible apply zI_cl | with_reducible apply zI_cr | with_reducible apply zI_cp | with_reducible apply zI_slen | with_reducible apply zI_sch | with_reducible apply zI_rc | with_reducible apply zI_fix | intro _)
theorem zi_X11_image (v0 : Nat) : zInt (X11_image v0) := by
  unfold X11_image
  repeat' (first | assumption | with_reducible apply zI_ret | with_reducible apply zI_rb | with_reducible apply zI_no | with_reducible apply zI_if | with_reducible apply zI_ck | with_reducible apply zI_gi | with_reducible apply zI_gl | with_reducible apply zI_gr | with_reducible apply zI_pi | with_reducible apply zI_pb | with_reducible apply zI_pl | with_reducible apply zI_pr | with_reducible apply zI_la | with_reducible apply zI_sa | with_reducible apply zI_ll | with_reducible apply zI_sl | with_reducible apply zI_lr | with_reducible apply zI_sr | with_reducible apply zI_len | with_reducible apply zI_new | with_reducible apply zI_cv | with_reducible apply zI_ci | with_reducible apply zI_cl | with_reducible apply zI_cr | with_reducible apply zI_cp | with_reducible apply zI_slen | with_reducible apply zI_sch | with_reducible apply zI_rc | with_reducible apply zI_fix | intro _)
theorem zi_X11_octet (v0 : Nat) (v1 : Int32) : zInt (X11_octet v0 v1) := by
  unfold X11_octet
  repeat' (first | assumption | with_reducible apply zI_ret | with_reducible apply zI_rb | with_reducible apply zI_no | with_reducible apply zI_if | with_reducible apply zI_ck | with_reducible apply zI_gi | with_reducible apply zI_gl | with_reducible apply zI_gr | with_reducible apply zI_pi | with_reducible apply zI_pb | with_reducible apply zI_pl | with_reducible apply zI_pr | with_reducible apply zI_la | with_reducible apply zI_sa | with_reducible apply zI_ll | with_reducible apply zI_sl | with_reducible apply zI_lr | with_reducible apply zI_sr | with_reducible apply zI_len | with_reducible apply zI_new | with_reducible apply zI_cv | with_reducible apply zI_ci | with_reducible apply zI_cl | with_reducible apply zI_cr | with_reducible apply zI_cp | with_reducible apply zI_slen | with_reducible apply zI_sch | with_reducible apply zI_rc | with_reducible apply zI_fix | intro _)
theorem zi_X11_on (v0 : Nat) : zInt (X11_on v0) := by
  unfold X11_on
  repeat' (first | assumption | with_reducible apply zI_ret | with_reducible apply zI_rb | with_reducible apply zI_no | with_reducible apply zI_if | with_reducible apply zI_ck | with_reducible apply zI_gi | with_reducible apply zI_gl | with_reducible apply zI_gr | with_reducible apply zI_pi | with_reducible apply zI_pb | with_reducible apply zI_pl | with_reducible apply zI_pr | with_reducible apply zI_la | with_reducible apply zI_sa | with_reducible apply zI_ll | with_reducible apply zI_sl | with_reducible apply zI_lr | with_reducible apply zI_sr | with_reducible apply zI_len | with_reducible apply zI_new | with_reducible apply zI_cv | with_reducible apply zI_ci | with_reducible apply zI_cl | with_reducible apply zI_cr | with_reducible apply zI_cp | with_reducible apply zI_slen | with_reducible apply zI_sch | with_reducible apply zI_rc | with_reducible apply zI_fix | intro _)
theorem zi_X11_status (v0 : Nat) (v1 : Int32) : zInt (X11_status v0 v1) := by
  unfold X11_status
  repeat' (first | assumption | with_reducible apply zI_ret | with_reducible apply zI_rb | with_reducible apply zI_no | with_reducible apply zI_if | with_reducible apply zI_ck | with_reducible apply zI_gi | with_reducible apply zI_gl | with_reducible apply zI_gr | with_reducible apply zI_pi | with_reducible apply zI_pb | with_reducible apply zI_pl | with_reducible apply zI_pr | with_reducible apply zI_la | with_reducible apply zI_sa | with_reducible apply zI_ll | with_reducible apply zI_sl | with_reducible apply zI_lr | with_reducible apply zI_sr | with_reducible apply zI_len | with_reducible apply zI_new | with_reducible apply zI_cv | with_reducible apply zI_ci | with_reducible apply zI_cl | with_reducible apply zI_cr | with_reducible apply zI_cp | with_reducible apply zI_slen | with_reducible apply zI_sch | with_reducible apply zI_rc | with_reducible apply zI_fix | intro _)
end Bb7
