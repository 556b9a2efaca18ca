/-! numbers; what churches and states are, apart from any machine -/
def ci (x : Int) : Int32 := Int32.ofInt x
def cl (x : Int) : Int64 := Int64.ofInt x
theorem ci_nat (n : Nat) : nI n = ci (n : Int) := (Int32.ofInt_eq_ofNat).symm
theorem ci_toInt {x : Int} (h1 : -2147483648 ≤ x) (h2 : x < 2147483648) : (ci x).toInt = x := Int32.toInt_ofInt_of_le (by omega) (by omega)
theorem ci_add (x y : Int) : ci x + ci y = ci (x + y) := (Int32.ofInt_add x y).symm
theorem ci_sub (x y : Int) : ci x - ci y = ci (x - y) := (Int32.ofInt_sub x y).symm
theorem ci_mul (x y : Int) : ci x * ci y = ci (x * y) := (Int32.ofInt_mul x y).symm
theorem ci_lt {x y : Int} (h1 : -2147483648 ≤ x) (h2 : x < 2147483648) (h3 : -2147483648 ≤ y) (h4 : y < 2147483648) : ci x < ci y ↔ x < y := by
  rw [Int32.lt_iff_toInt_lt, ci_toInt h1 h2, ci_toInt h3 h4]
theorem ci_le {x y : Int} (h1 : -2147483648 ≤ x) (h2 : x < 2147483648) (h3 : -2147483648 ≤ y) (h4 : y < 2147483648) : ci x ≤ ci y ↔ x ≤ y := by
  rw [Int32.le_iff_toInt_le, ci_toInt h1 h2, ci_toInt h3 h4]
theorem ci_eq {x y : Int} (h1 : -2147483648 ≤ x) (h2 : x < 2147483648) (h3 : -2147483648 ≤ y) (h4 : y < 2147483648) : ci x = ci y ↔ x = y := by
  rw [← Int32.toInt_inj, ci_toInt h1 h2, ci_toInt h3 h4]
theorem ci_of (x : Int32) : ci x.toInt = x := Int32.ofInt_toInt x
theorem cl_toInt {x : Int} (h1 : -9223372036854775808 ≤ x) (h2 : x < 9223372036854775808) : (cl x).toInt = x := Int64.toInt_ofInt_of_le (by omega) (by omega)
theorem cl_add (x y : Int) : cl x + cl y = cl (x + y) := (Int64.ofInt_add x y).symm
theorem cl_sub (x y : Int) : cl x - cl y = cl (x - y) := (Int64.ofInt_sub x y).symm
theorem cl_mul (x y : Int) : cl x * cl y = cl (x * y) := (Int64.ofInt_mul x y).symm
theorem cl_lt {x y : Int} (h1 : -9223372036854775808 ≤ x) (h2 : x < 9223372036854775808) (h3 : -9223372036854775808 ≤ y) (h4 : y < 9223372036854775808) : cl x < cl y ↔ x < y := by
  rw [Int64.lt_iff_toInt_lt, cl_toInt h1 h2, cl_toInt h3 h4]
theorem cl_le {x y : Int} (h1 : -9223372036854775808 ≤ x) (h2 : x < 9223372036854775808) (h3 : -9223372036854775808 ≤ y) (h4 : y < 9223372036854775808) : cl x ≤ cl y ↔ x ≤ y := by
  rw [Int64.le_iff_toInt_le, cl_toInt h1 h2, cl_toInt h3 h4]
theorem cl_eq {x y : Int} (h1 : -9223372036854775808 ≤ x) (h2 : x < 9223372036854775808) (h3 : -9223372036854775808 ≤ y) (h4 : y < 9223372036854775808) : cl x = cl y ↔ x = y := by
  rw [← Int64.toInt_inj, cl_toInt h1 h2, cl_toInt h3 h4]
theorem cl_ci {x : Int} (h1 : -2147483648 ≤ x) (h2 : x < 2147483648) : (ci x).toInt64 = cl x := Int32.toInt64_ofInt (by rw [show Int32.minValue.toInt = -2147483648 from rfl]; exact h1) (by rw [show Int32.maxValue.toInt = 2147483647 from rfl]; omega)
theorem ci_cl {x : Int} : (cl x).toInt32 = ci x := Int64.toInt32_ofInt
/-! formulas: operators behind what they take -/
def e_clip (x : Int) : Int := if 1000000 < x then 1000000 else if x < -1000000 then -1000000 else x
/-- the greatest whole number not above the quotient -/
def e_div (x y : Int) : Int := if ¬ Int.tdiv x y * y = x ∧ ¬ ((x < 0) ↔ (y < 0)) then Int.tdiv x y - 1 else Int.tdiv x y
def e_two (op : Nat) (x y : Int) : Int := if op = 20001 then e_clip (x + y) else if op = 20002 then e_clip (x - y) else if op = 20003 then e_clip (x * y) else if op = 20004 then (if y = 0 then 0 else e_div x y) else if op = 20005 then (if y < x then y else x) else if op = 20006 then (if x < y then y else x) else if op = 20007 then (if x < y then 1 else 0) else if op = 20008 then (if y < x then 1 else 0) else if op = 20009 then (if x = y then 1 else 0) else if op = 20010 then (if x = 0 ∨ y = 0 then 0 else 1) else (if x = 0 ∧ y = 0 then 0 else 1)
theorem e_two_1 (x y : Int) : e_two 20001 x y = e_clip (x + y) := by simp [e_two]
theorem e_two_2 (x y : Int) : e_two 20002 x y = e_clip (x - y) := by simp [e_two]
theorem e_two_3 (x y : Int) : e_two 20003 x y = e_clip (x * y) := by simp [e_two]
theorem e_two_4 (x y : Int) : e_two 20004 x y = if y = 0 then 0 else e_div x y := by simp [e_two]
theorem e_two_5 (x y : Int) : e_two 20005 x y = if y < x then y else x := by simp [e_two]
theorem e_two_6 (x y : Int) : e_two 20006 x y = if x < y then y else x := by simp [e_two]
theorem e_two_7 (x y : Int) : e_two 20007 x y = if x < y then 1 else 0 := by simp [e_two]
theorem e_two_8 (x y : Int) : e_two 20008 x y = if y < x then 1 else 0 := by simp [e_two]
theorem e_two_9 (x y : Int) : e_two 20009 x y = if x = y then 1 else 0 := by simp [e_two]
theorem e_two_10 (x y : Int) : e_two 20010 x y = if x = 0 ∨ y = 0 then 0 else 1 := by simp [e_two]
theorem e_two_11 (x y : Int) : e_two 20011 x y = if x = 0 ∧ y = 0 then 0 else 1 := by simp [e_two]
def e_one (F : Nat → Int) (op : Nat) (x : Int) : Int := if op = 30001 then (if x = 0 then 1 else 0) else if x < 0 ∨ 12 ≤ x then 0 else F ((if op = 30002 then 9 else 21) + x.toNat)
def e_step (F : Nat → Int) (op : Nat) (st : List Int) : List Int := if op < 10000 then (op : Int) :: st else if op < 20000 then F (op - 10000) :: st else if op < 30000 then (match st with | y :: x :: r => e_two op x y :: r | _ => st) else (match st with | x :: r => e_one F op x :: r | [] => [])
def e_run (F : Nat → Int) : List Nat → List Int → List Int
  | [], st => st
  | op :: l, st => e_run F l (e_step F op st)
def e_val (F : Nat → Int) (l : List Nat) : Int := (e_run F l []).headD 0
/-- what stands on the pile, and what of it is surely 0 or 1; how deep it is -/
def w_step (op : Nat) (fl : List Bool) : Option (List Bool) := if op < 20000 then (if fl.length < 40 then some ((op = 0 ∨ op = 1 : Bool) :: fl) else none) else if op < 30000 then (match fl with | b :: a :: r => if 20001 ≤ op ∧ op ≤ 20006 then some (false :: r) else if 20007 ≤ op ∧ op ≤ 20009 then some (true :: r) else if (20010 ≤ op ∧ op ≤ 20011) ∧ a = true ∧ b = true then some (true :: r) else none | _ => none) else if 30001 ≤ op ∧ op ≤ 30003 then (match fl with | a :: r => if op = 30001 then (if a = true then some (true :: r) else none) else some (false :: r) | [] => none) else none
def w_run : List Nat → List Bool → Option (List Bool)
  | [], fl => some fl
  | op :: l, fl => match w_step op fl with | some f1 => w_run l f1 | none => none
def w_ok (l : List Nat) (b : Bool) : Prop := ∃ a, w_run l [] = some [a] ∧ (b = true → a = true)
/-- values and flags go together -/
def w_rel : List Bool → List Int → Prop
  | [], [] => True
  | b :: fl, v :: st => ((b = true → v = 0 ∨ v = 1) ∧ (-1000000 ≤ v ∧ v ≤ 1000000)) ∧ w_rel fl st
  | _, _ => False
theorem w_rel_len : ∀ {fl : List Bool} {st : List Int}, w_rel fl st → st.length = fl.length := by
  intro fl
  induction fl with
  | nil => intro st h; cases st with
    | nil => rfl
    | cons v st => exact h.elim
  | cons b fl ih => intro st h; cases st with
    | nil => exact h.elim
    | cons v st => simp only [List.length_cons, ih h.2]
theorem e_clip_in (x : Int) : -1000000 ≤ e_clip x ∧ e_clip x ≤ 1000000 := by
  unfold e_clip
  split
  · omega
  · split <;> omega
theorem e_div_in {x y : Int} (hx : -1000000 ≤ x ∧ x ≤ 1000000) (hy : ¬ y = 0) : -1000000 ≤ e_div x y ∧ e_div x y ≤ 1000000 := by
  have h1 : (Int.tdiv x y).natAbs = x.natAbs / y.natAbs := Int.natAbs_tdiv x y
  have h2 : x.natAbs / y.natAbs ≤ x.natAbs := Nat.div_le_self _ _
  unfold e_div
  split
  · rename_i h
    by_cases h3 : y.natAbs = 1
    · exfalso
      apply h.1
      have : y = 1 ∨ y = -1 := by omega
      rcases this with rfl | rfl
      · simp
      · simp
    · have h4 : x.natAbs / y.natAbs ≤ x.natAbs / 2 := Nat.div_le_div_left (by omega) (by omega)
      omega
  · omega
theorem e_two_in {op : Nat} {x y : Int} (hx : -1000000 ≤ x ∧ x ≤ 1000000) (hy : -1000000 ≤ y ∧ y ≤ 1000000) : -1000000 ≤ e_two op x y ∧ e_two op x y ≤ 1000000 := by
  unfold e_two
  repeat' split
  all_goals first | exact e_clip_in _ | omega | exact e_div_in hx ‹_›
