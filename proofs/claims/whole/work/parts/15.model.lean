/-! churches and states -/
abbrev cT : Type := (Nat × Nat) × (Nat × Nat × Bool) × (Nat → Nat) × (Nat → Nat) × (Nat → Nat) × (Nat → Bool) × (Nat → List Nat)
def k_L (C : cT) : Nat := C.1.1
def k_R (C : cT) : Nat := C.1.2
def k_rt (C : cT) : Nat := C.2.1.1
def k_slip (C : cT) : Nat := C.2.1.2.1
/-- whether a church has been told -/
def k_td (C : cT) : Bool := C.2.1.2.2
def k_warm (C : cT) : Nat → Nat := C.2.2.1
def k_work (C : cT) : Nat → Nat := C.2.2.2.1
def k_size (C : cT) : Nat → Nat := C.2.2.2.2.1
def k_kin (C : cT) : Nat → Bool := C.2.2.2.2.2.1
def k_code (C : cT) : Nat → List Nat := C.2.2.2.2.2.2
def k_n (C : cT) (s : Nat) : Nat := if s = 0 then k_L C else k_R C
/-- who is there, by slots -/
abbrev k_th (C : cT) (a : Nat) : Prop := a < k_L C ∨ (6 ≤ a ∧ a < 6 + k_R C)
def k_kn (C : cT) (a b : Nat) : Bool := k_kin C (6 * a + b % 6)
def k_slot (C : cT) (p : Nat) : Option Nat := if p < k_L C then some p else if p < k_L C + k_R C then some (6 + p - k_L C) else none
def k_num (C : cT) (a : Nat) : Nat := if a < 6 then a else k_L C + a - 6
def k_sl (C : cT) (v : Int32) : Option Nat := if v < 0 then none else k_slot C v.toNatClampNeg
def oI : Option Nat → Int32
  | none => -1
  | some b => nI b
def bI (b : Bool) : Int32 := if b then 1 else 0
def okC (C : cT) : Prop := (k_L C ≤ 6 ∧ k_R C ≤ 6) ∧ (1 ≤ k_rt C ∧ k_rt C ≤ 12) ∧ k_slip C ≤ 100 ∧ (∀ a, a < 12 → k_warm C a ≤ 9 ∧ k_work C a ≤ 9 ∧ k_size C a ≤ 9) ∧ (∀ a b, a < 6 → 6 ≤ b → b < 12 → k_kn C a b = k_kn C b a) ∧ (∀ w, w < 3 → w_ok (k_code C w) (decide (w = 1)) ∧ (∀ op ∈ k_code C w, op < 10009 ∨ 20000 ≤ op ∧ op ≤ 30001)) ∧ ∀ op ∈ k_code C 0, op ≠ 10006
abbrev sT : Type := (Nat × Nat) × (Nat → Nat) × (Nat → Option Nat) × (Nat → Nat) × (Nat → Nat) × (Nat → Nat) × (Nat → Nat)
def s_sp (s : sT) : Nat := s.1.1
def s_rd (s : sT) : Nat := s.1.2
def s_ord (s : sT) : Nat → Nat := s.2.1
def s_wed (s : sT) : Nat → Option Nat := s.2.2.1
def s_wai (s : sT) : Nat → Nat := s.2.2.2.1
def s_siz (s : sT) : Nat → Nat := s.2.2.2.2.1
def s_lik (s : sT) : Nat → Nat := s.2.2.2.2.2.1
def s_kno (s : sT) : Nat → Nat := s.2.2.2.2.2.2
/-- what holds of all states -/
def okS (C : cT) (s : sT) : Prop := (s_sp s ≤ 2000 ∧ s_rd s < k_rt C) ∧ (∀ a, k_th C a → k_th C (s_ord s a) ∧ (a < 6 ↔ s_ord s a < 6)) ∧ (∀ a b, k_th C a → k_th C b → s_ord s a = s_ord s b → a = b) ∧ (∀ a b, s_wed s a = some b → k_th C a ∧ k_th C b ∧ (a < 6 ↔ 6 ≤ b) ∧ s_wed s b = some a ∧ k_kn C a b = false) ∧ (∀ a, a < 12 → s_wai s a ≤ 99 ∧ s_siz s a ≤ 9) ∧ ∀ j, j < 72 → s_lik s j ≤ 9 ∧ s_kno s j ≤ 9
/-! a round -/
/-- those of a side who are free, the first places of it -/
def p_fr (s : sT) (side : Nat) : Nat → List Nat
  | 0 => []
  | k + 1 => if s_wed s (s_ord s (6 * side + k)) = none then p_fr s side k ++ [s_ord s (6 * side + k)] else p_fr s side k
def p_free (C : cT) (s : sT) (side : Nat) : List Nat := p_fr s side (k_n C side)
def p_hs (FL FR : List Nat) (rd pl : Nat) : Nat → Nat → Option Nat
  | 0, _ => none
  | k + 1, a => if (k + rd) % pl < FR.length then (if a = FR.getD ((k + rd) % pl) 0 then some (FL.getD k 0) else if a = FL.getD k 0 then some (FR.getD ((k + rd) % pl) 0) else p_hs FL FR rd pl k a) else p_hs FL FR rd pl k a
def p_hold (C : cT) (s : sT) : Nat → Option Nat := p_hs (p_free C s 0) (p_free C s 1) (s_rd s) (if (p_free C s 0).length < (p_free C s 1).length then (p_free C s 1).length else (p_free C s 0).length) (p_free C s 0).length
def p_lim (x : Int) (m : Int) : Int := if 0 < (if m < x then m else x) then (if m < x then m else x) else 0
def p_fx (C : cT) (s : sT) (a b k : Nat) : Int := if k = 0 then (s_kno s (6 * a + b % 6) : Int) else if k = 1 then (s_sp s : Int) else if k = 2 then (s_lik s (6 * a + b % 6) : Int) else if k = 3 then (k_warm C b : Int) else if k = 4 then (k_work C b : Int) else if k = 5 then (s_siz s b : Int) else if k = 7 then (s_rd s : Int) else if k = 8 then (s_wai s a : Int) else 0
def p_feel (C : cT) (s : sT) (a b : Nat) : Int := p_lim (e_val (p_fx C s a b) (k_code C 0)) 99
def p_fy (C : cT) (s : sT) (a b k : Nat) : Int := if k = 6 then p_feel C s a b else p_fx C s a b k
def p_lets (C : cT) (s : sT) (a b : Nat) : Bool := decide (¬ e_val (p_fy C s a b) (k_code C 1) = 0)
def p_learn (C : cT) (s : sT) (a b : Nat) : Nat := (p_lim (e_val (p_fy C s a b) (k_code C 2)) 9).toNat
/-- one lets go in this round -/
def p_let (C : cT) (s : sT) (tr : Option Nat) (a b : Nat) : Bool := decide (tr = some a) || p_lets C s a b
/-- one of the left is wed in this round -/
def p_new (C : cT) (s : sT) (tr : Option Nat) (a : Nat) : Option Nat := match p_hold C s a with
  | some b => if p_let C s tr a b = false ∧ p_let C s tr b a = false ∧ k_kn C a b = false then some b else none
  | none => none
def p_wed (C : cT) (s : sT) (tr : Option Nat) (a : Nat) : Option Nat := match p_new C s tr a with
  | some b => some b
  | none => s_wed s a
def p_kno (C : cT) (s : sT) (j : Nat) : Nat := match p_hold C s (j / 6) with
  | some b => if b % 6 = j % 6 then p_learn C s (j / 6) b else s_kno s j
  | none => s_kno s j
/-- time passes behind a round -/
def p_time (C : cT) (s : sT) : sT := if s_rd s + 1 < k_rt C then ((s_sp s, s_rd s + 1), s.2) else ((s_sp s + 1, 0), s_ord s, s_wed s, (fun a => if k_th C a ∧ s_wed s a = none then (if 99 < s_wai s a + 1 then 99 else s_wai s a + 1) else s_wai s a), s_siz s, s_lik s, s_kno s)
def p_go (C : cT) (s : sT) (tr : Option Nat) : sT := p_time C (s.1, s_ord s, p_wed C s tr, s_wai s, s_siz s, s_lik s, p_kno C s)
/-- lefts who are wed in this round, in their order -/
def p_fresh (C : cT) (s : sT) (tr : Option Nat) : Nat → List Nat
  | 0 => []
  | k + 1 => if p_new C s tr k = none then p_fresh C s tr k else p_fresh C s tr k ++ [k]
/-! in the midst of a round: the lefts below k are through, and whom they hold -/
def p_done (C : cT) (s : sT) (k a : Nat) : Bool := if a < 6 then decide (a < k) else (match p_hold C s a with | some l => decide (l < k) | none => false)
def p_mid (C : cT) (s : sT) (tr : Option Nat) (k : Nat) : sT := (s.1, s_ord s, (fun a => if p_done C s k a = true then p_wed C s tr a else s_wed s a), s_wai s, s_siz s, s_lik s, fun j => if p_done C s k (j / 6) = true then p_kno C s j else s_kno s j)
def sK (s : sT) (j v : Nat) : sT := (s.1, s_ord s, s_wed s, s_wai s, s_siz s, s_lik s, fun i => if i = j then v else s_kno s i)
def sW (s : sT) (a : Nat) (v : Option Nat) : sT := (s.1, s_ord s, (fun i => if i = a then v else s_wed s i), s_wai s, s_siz s, s_lik s, s_kno s)
