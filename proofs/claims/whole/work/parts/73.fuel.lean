/-! how often the parser may go down: enough is enough -/
section B73
variable {b : Nat → Nat} {n a kd : Nat}
theorem pq_fu : ∀ m m' k o hr op, k ≤ 7 → o ≤ 6 → pc k o ≤ m → pc k o ≤ m' → ∀ a, pq b n kd m k o a hr op = pq b n kd m' k o a hr op
  | 0, _, k, o, _, _, _, h, h1, _, _ => by unfold pc at h1; omega
  | _, 0, k, o, _, _, _, h, _, h1, _ => by unfold pc at h1; omega
  | m + 1, m' + 1, k, o, hr, op, hk, ho, h1, h2, a => by
    have go : ∀ k' o', k' ≤ 7 → o' ≤ 6 → pc k' o' + 1 ≤ pc k o → ∀ hr op, (fun x => pq b n kd m k' o' x hr op) = (fun x => pq b n kd m' k' o' x hr op) := by
      intro k' o' q1 q2 q3 hr op
      exact funext (fun x => pq_fu m m' k' o' hr op q1 q2 (by omega) (by omega) x)
    have gx : ∀ k' o', k' ≤ 7 → o' ≤ 6 → pc k' o' + 1 ≤ pc k o → ∀ x hr op, pq b n kd m k' o' x hr op = pq b n kd m' k' o' x hr op := fun k' o' q1 q2 q3 x hr op => congrFun (go k' o' q1 q2 q3 hr op) x
    match k, hk, h1, h2, go, gx with
    | 0, _, h1, h2, go, gx =>
      show qq_0 b n kd (pq b n kd m) o a hr op = qq_0 b n kd (pq b n kd m') o a hr op
      unfold qq_0
      rw [gx 1 o (by omega) ho (by unfold pc; omega), go 1 o (by omega) ho (by unfold pc; omega)]
    | 1, _, h1, h2, go, gx =>
      show qq_1 b n kd (pq b n kd m) o a hr op = qq_1 b n kd (pq b n kd m') o a hr op
      unfold qq_1
      rw [gx 2 o (by omega) ho (by unfold pc; omega), go 2 o (by omega) ho (by unfold pc; omega)]
    | 2, _, h1, h2, go, gx =>
      have g3 := gx 3 o (by omega) ho (by unfold pc; omega)
      show qq_2 b n kd (pq b n kd m) o a hr op = qq_2 b n kd (pq b n kd m') o a hr op
      unfold qq_2
      by_cases c : 6 ≤ o
      · simp only [if_pos c, g3]
      · have g2 := gx 2 (o + 1) (by omega) (by omega) (by unfold pc; omega)
        have g0 := gx 0 (o + 1) (by omega) (by omega) (by unfold pc; omega)
        simp only [if_neg c, g3, g2, g0]
    | 3, _, h1, h2, go, gx =>
      show qq_3 b n kd (pq b n kd m) o a hr op = qq_3 b n kd (pq b n kd m') o a hr op
      unfold qq_3
      rw [gx 4 o (by omega) ho (by unfold pc; omega), go 4 o (by omega) ho (by unfold pc; omega)]
    | 4, _, h1, h2, go, gx =>
      show qq_4 b n kd (pq b n kd m) o a hr op = qq_4 b n kd (pq b n kd m') o a hr op
      unfold qq_4
      rw [gx 5 o (by omega) ho (by unfold pc; omega), go 5 o (by omega) ho (by unfold pc; omega)]
    | 5, _, h1, h2, go, gx =>
      have g6 := gx 6 o (by omega) ho (by unfold pc; omega)
      have g7 := gx 7 o (by omega) ho (by unfold pc; omega)
      show qq_5 b n kd (pq b n kd m) o a hr op = qq_5 b n kd (pq b n kd m') o a hr op
      unfold qq_5
      by_cases c : 6 ≤ o
      · simp only [if_pos c, g6, g7]
      · have g3 := gx 3 (o + 1) (by omega) (by omega) (by unfold pc; omega)
        simp only [if_neg c, g3, g6, g7]
    | 6, _, h1, h2, go, gx =>
      show qq_6 b n kd (pq b n kd m) o a hr op = qq_6 b n kd (pq b n kd m') o a hr op
      unfold qq_6
      by_cases c : 6 ≤ o
      · simp only [if_pos c]
      · have g3 := gx 3 (o + 1) (by omega) (by omega) (by unfold pc; omega)
        simp only [if_neg c, g3]
    | 7, _, h1, h2, go, gx =>
      show qq_7 b n kd (pq b n kd m) o a hr op = qq_7 b n kd (pq b n kd m') o a hr op
      unfold qq_7
      by_cases c : 6 ≤ o
      · simp only [if_pos c]
      · have g5 := gx 5 (o + 1) (by omega) (by omega) (by unfold pc; omega)
        simp only [if_neg c, g5]
end B73
