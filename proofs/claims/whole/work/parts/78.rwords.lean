/-! the reference's words of a formula -/
section B78
variable {I I0 : Nat → Nat → Int32} {L L0 : Nat → Nat → Int64} {ρ : zRh} {h : zH} {b : Nat → Nat} {n a x o bs kd : Nat} {V W W0 Q : List Nat}
theorem wdL_R : ∀ q ∈ wdL, q.1 < 297 ∧ zK q.1 = (22, q.2.length) ∧ okw q.2 = true ∧ 0 < q.2.length ∧ q.2.length < 20 ∧ q.1 ≠ 215 ∧ q.1 ≠ 293 ∧ q.1 ≠ 294 := by decide +kernel
theorem wdM_R (hw : wdM I) {q : Nat} {w : List Nat} (hq : (q, w) ∈ wdL) : wdR I q w := by
  obtain ⟨h1, h2, h3, h4, h5, -⟩ := wdL_R _ hq
  exact ⟨h1, h2, fun i hi => hw _ hq i hi, h3, h4, h5⟩
theorem wdM_q {I' : Nat → Nat → Int32} (hw : wdM I) (hF : qF I I') : wdM I' := fun q hq i hi => by
  obtain ⟨-, -, -, -, -, h1, h2, h3⟩ := wdL_R _ hq
  rw [hF.1 q.1 h1 h2 h3]
  exact hw q hq i hi
/-- the words, in the reference's order -/
def rws : List (List Nat) := [[107, 110, 111, 119, 110], [115, 112, 114, 105, 110, 103], [119, 97, 114, 109], [119, 111, 114, 107], [115, 105, 122, 101], [108, 105, 107, 105, 110, 103], [102, 101, 101, 108], [114, 111, 117, 110, 100], [119, 97, 105, 116, 101, 100], [110, 117, 109, 98, 101, 114], [115, 105, 100, 101], [119, 101, 100], [108, 105, 107, 101, 115], [107, 110, 111, 119, 115]]
theorem t_in_c {w : List Nat} {ws : List (List Nat)} {k : Nat} : t_in b n a (w :: ws) k = if isW b n a w = true then some k else t_in b n a ws (k + 1) := rfl
/-- a word that is looked for where it stands -/
theorem X12_here_k (hT : tkM I b n x) (hk : sk b n x = x) (hs : I 215 5 = 0) (hw : wdM I) {q : Nat} {w : List Nat} (hq : (q, w) ∈ wdL) : X12_isHere 215 q (hp I L ρ) = some (some (.int (bI (isW b n x w))), hp I L ρ) := by
  have e := X12_here_s (L := L) (ρ := ρ) hT hs (wdM_R hw hq) (wdL_R _ hq).2.2.2.2.2.1
  rw [hk, u2_self hT.2.2.1] at e
  exact e
theorem X12_qWordHere_h (hT : tkM I b n x) (hk : sk b n x = x) (hs : I 215 5 = 0) (hw : wdM I) : X12_qWordHere 215 (hp I L ρ) = some (some (.int (oI (t_in b n x rws 0))), hp I L ρ) := by
  have hh : ∀ (q : Nat) (w : List Nat), (q, w) ∈ wdL → X12_isHere 215 q (hp I L ρ) = some (some (.int (bI (isW b n x w))), hp I L ρ) := fun q w hq => X12_here_k hT hk hs hw hq
  unfold X12_qWordHere rws
  rw [gr_215_90, rc_215, h_ci (hh 279 [107, 110, 111, 119, 110] (by decide)), h_if, t_in_c]
  cases e0 : isW b n x [107, 110, 111, 119, 110] with
  | true => rw [if_neg (show ¬ bI true = 0 by decide), if_pos rfl]; rfl
  | false =>
    rw [bF, if_pos rfl, if_neg (show ¬ false = true by decide)]
    rw [gr_215_91, rc_215, h_ci (hh 280 [115, 112, 114, 105, 110, 103] (by decide)), h_if, t_in_c]
    cases e1 : isW b n x [115, 112, 114, 105, 110, 103] with
    | true => rw [if_neg (show ¬ bI true = 0 by decide), if_pos rfl]; rfl
    | false =>
      rw [bF, if_pos rfl, if_neg (show ¬ false = true by decide)]
      rw [gr_215_92, rc_215, h_ci (hh 281 [119, 97, 114, 109] (by decide)), h_if, t_in_c]
      cases e2 : isW b n x [119, 97, 114, 109] with
      | true => rw [if_neg (show ¬ bI true = 0 by decide), if_pos rfl]; rfl
      | false =>
        rw [bF, if_pos rfl, if_neg (show ¬ false = true by decide)]
        rw [gr_215_93, rc_215, h_ci (hh 282 [119, 111, 114, 107] (by decide)), h_if, t_in_c]
        cases e3 : isW b n x [119, 111, 114, 107] with
        | true => rw [if_neg (show ¬ bI true = 0 by decide), if_pos rfl]; rfl
        | false =>
          rw [bF, if_pos rfl, if_neg (show ¬ false = true by decide)]
          rw [gr_215_94, rc_215, h_ci (hh 283 [115, 105, 122, 101] (by decide)), h_if, t_in_c]
          cases e4 : isW b n x [115, 105, 122, 101] with
          | true => rw [if_neg (show ¬ bI true = 0 by decide), if_pos rfl]; rfl
          | false =>
            rw [bF, if_pos rfl, if_neg (show ¬ false = true by decide)]
            rw [gr_215_95, rc_215, h_ci (hh 284 [108, 105, 107, 105, 110, 103] (by decide)), h_if, t_in_c]
            cases e5 : isW b n x [108, 105, 107, 105, 110, 103] with
            | true => rw [if_neg (show ¬ bI true = 0 by decide), if_pos rfl]; rfl
            | false =>
              rw [bF, if_pos rfl, if_neg (show ¬ false = true by decide)]
              rw [gr_215_96, rc_215, h_ci (hh 285 [102, 101, 101, 108] (by decide)), h_if, t_in_c]
              cases e6 : isW b n x [102, 101, 101, 108] with
              | true => rw [if_neg (show ¬ bI true = 0 by decide), if_pos rfl]; rfl
              | false =>
                rw [bF, if_pos rfl, if_neg (show ¬ false = true by decide)]
                rw [gr_215_97, rc_215, h_ci (hh 286 [114, 111, 117, 110, 100] (by decide)), h_if, t_in_c]
                cases e7 : isW b n x [114, 111, 117, 110, 100] with
                | true => rw [if_neg (show ¬ bI true = 0 by decide), if_pos rfl]; rfl
                | false =>
                  rw [bF, if_pos rfl, if_neg (show ¬ false = true by decide)]
                  rw [gr_215_98, rc_215, h_ci (hh 287 [119, 97, 105, 116, 101, 100] (by decide)), h_if, t_in_c]
                  cases e8 : isW b n x [119, 97, 105, 116, 101, 100] with
                  | true => rw [if_neg (show ¬ bI true = 0 by decide), if_pos rfl]; rfl
                  | false =>
                    rw [bF, if_pos rfl, if_neg (show ¬ false = true by decide)]
                    rw [gr_215_99, rc_215, h_ci (hh 288 [110, 117, 109, 98, 101, 114] (by decide)), h_if, t_in_c]
                    cases e9 : isW b n x [110, 117, 109, 98, 101, 114] with
                    | true => rw [if_neg (show ¬ bI true = 0 by decide), if_pos rfl]; rfl
                    | false =>
                      rw [bF, if_pos rfl, if_neg (show ¬ false = true by decide)]
                      rw [gr_215_100, rc_215, h_ci (hh 289 [115, 105, 100, 101] (by decide)), h_if, t_in_c]
                      cases e10 : isW b n x [115, 105, 100, 101] with
                      | true => rw [if_neg (show ¬ bI true = 0 by decide), if_pos rfl]; rfl
                      | false =>
                        rw [bF, if_pos rfl, if_neg (show ¬ false = true by decide)]
                        rw [gr_215_101, rc_215, h_ci (hh 290 [119, 101, 100] (by decide)), h_if, t_in_c]
                        cases e11 : isW b n x [119, 101, 100] with
                        | true => rw [if_neg (show ¬ bI true = 0 by decide), if_pos rfl]; rfl
                        | false =>
                          rw [bF, if_pos rfl, if_neg (show ¬ false = true by decide)]
                          rw [gr_215_102, rc_215, h_ci (hh 291 [108, 105, 107, 101, 115] (by decide)), h_if, t_in_c]
                          cases e12 : isW b n x [108, 105, 107, 101, 115] with
                          | true => rw [if_neg (show ¬ bI true = 0 by decide), if_pos rfl]; rfl
                          | false =>
                            rw [bF, if_pos rfl, if_neg (show ¬ false = true by decide)]
                            rw [gr_215_103, rc_215, h_ci (hh 292 [107, 110, 111, 119, 115] (by decide)), h_if, t_in_c]
                            cases e13 : isW b n x [107, 110, 111, 119, 115] with
                            | true => rw [if_neg (show ¬ bI true = 0 by decide), if_pos rfl]; rfl
                            | false =>
                              rw [bF, if_pos rfl, if_neg (show ¬ false = true by decide)]
                              rfl
/-- which of them a text may have -/
def alw (kd y : Nat) : Bool := if kd = 0 then decide (y < 6) else if kd = 1 then decide (y < 2 ∨ (5 ≤ y ∧ y ≤ 8)) else if kd = 2 then decide (y < 2 ∨ y = 6) else decide ((1 ≤ y ∧ y ≤ 4) ∨ 6 < y)
theorem X12_isAllowed_h (hk : I 215 51 = nI kd) (hkd : kd < 4) {y : Nat} (hy : y < 14) : X12_isAllowed 215 (nI y) (hp I L ρ) = some (some (.int (bI (alw kd y))), hp I L ρ) := by
  unfold X12_isAllowed
  rw [gi_215, hk]
  match kd, hkd, y, hy with
  | 0, _, 0, _ => rfl
  | 0, _, 1, _ => rfl
  | 0, _, 2, _ => rfl
  | 0, _, 3, _ => rfl
  | 0, _, 4, _ => rfl
  | 0, _, 5, _ => rfl
  | 0, _, 6, _ => rfl
  | 0, _, 7, _ => rfl
  | 0, _, 8, _ => rfl
  | 0, _, 9, _ => rfl
  | 0, _, 10, _ => rfl
  | 0, _, 11, _ => rfl
  | 0, _, 12, _ => rfl
  | 0, _, 13, _ => rfl
  | 1, _, 0, _ => rfl
  | 1, _, 1, _ => rfl
  | 1, _, 2, _ => rfl
  | 1, _, 3, _ => rfl
  | 1, _, 4, _ => rfl
  | 1, _, 5, _ => rfl
  | 1, _, 6, _ => rfl
  | 1, _, 7, _ => rfl
  | 1, _, 8, _ => rfl
  | 1, _, 9, _ => rfl
  | 1, _, 10, _ => rfl
  | 1, _, 11, _ => rfl
  | 1, _, 12, _ => rfl
  | 1, _, 13, _ => rfl
  | 2, _, 0, _ => rfl
  | 2, _, 1, _ => rfl
  | 2, _, 2, _ => rfl
  | 2, _, 3, _ => rfl
  | 2, _, 4, _ => rfl
  | 2, _, 5, _ => rfl
  | 2, _, 6, _ => rfl
  | 2, _, 7, _ => rfl
  | 2, _, 8, _ => rfl
  | 2, _, 9, _ => rfl
  | 2, _, 10, _ => rfl
  | 2, _, 11, _ => rfl
  | 2, _, 12, _ => rfl
  | 2, _, 13, _ => rfl
  | 3, _, 0, _ => rfl
  | 3, _, 1, _ => rfl
  | 3, _, 2, _ => rfl
  | 3, _, 3, _ => rfl
  | 3, _, 4, _ => rfl
  | 3, _, 5, _ => rfl
  | 3, _, 6, _ => rfl
  | 3, _, 7, _ => rfl
  | 3, _, 8, _ => rfl
  | 3, _, 9, _ => rfl
  | 3, _, 10, _ => rfl
  | 3, _, 11, _ => rfl
  | 3, _, 12, _ => rfl
  | 3, _, 13, _ => rfl
def wof (b : Nat → Nat) (n kd x lo hi : Nat) : Option Nat := match t_in b n x rws 0 with | some y => if lo ≤ y ∧ y < hi ∧ alw kd y = true then some y else none | none => none
theorem wof_s {y lo hi : Nat} (q : t_in b n x rws 0 = some y) : wof b n kd x lo hi = if lo ≤ y ∧ y < hi ∧ alw kd y = true then some y else none := by
  unfold wof
  rw [q]
theorem wof_n {lo hi : Nat} (q : t_in b n x rws 0 = none) : wof b n kd x lo hi = none := by
  unfold wof
  rw [q]
theorem X12_qWordOf_h (hT : tkM I b n x) (hk : sk b n x = x) (hs : I 215 5 = 0) (hw : wdM I) (hkk : I 215 51 = nI kd) (hkd : kd < 4) {lo hi : Nat} (hlo : lo < 100) (hhi : hi < 100) : X12_qWordOf 215 (nI lo) (nI hi) (hp I L ρ) = some (some (.int (oI (wof b n kd x lo hi))), hp I L ρ) := by
  unfold X12_qWordOf
  rw [rc_215, h_ci (X12_qWordHere_h hT hk hs hw), h_if]
  rcases q : t_in b n x rws 0 with _ | y
  · rw [wof_n q, oI_none, if_pos (show (-1 : Int32) < nI lo from by
      rw [Int32.lt_iff_toInt_lt, nI_toI (by omega), show (-1 : Int32).toInt = -1 by decide]; omega)]; rfl
  · have hy := (t_in_lt q).1.2
    have hy14 : y < 14 := by have : rws.length = 14 := rfl; omega
    rw [oI_some, wof_s q]
    by_cases c1 : y < lo
    · rw [if_pos ((nI_lt' (by omega) (by omega)).mpr c1), if_neg (fun z => by have := z.1; omega)]; rfl
    · rw [if_neg (fun z => c1 ((nI_lt' (by omega) (by omega)).mp z)), h_if]
      by_cases c2 : hi ≤ y
      · rw [if_pos ((nI_le' (by omega) (by omega)).mpr c2), if_neg (fun z => by have := z.2.1; omega)]; rfl
      · rw [if_neg (fun z => c2 ((nI_le' (by omega) (by omega)).mp z)), rc_215, h_ci (X12_isAllowed_h hkk hkd hy14), h_if]
        cases c3 : alw kd y with
        | false => rw [bF, if_pos rfl, if_neg (fun z => by cases z.2.2)]; rfl
        | true => rw [if_neg (show ¬ bI true = 0 by decide), if_pos ⟨by omega, by omega, rfl⟩]; rfl
end B78
