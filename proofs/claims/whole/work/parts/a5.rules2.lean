section ZR2
variable {l : Launch} {d rc rs : Nat} {mi : zI} {pc : Nat} {L : List (Nat × Value)} {S : List Value} {f g : zM}
def zFL (own : String) (idx c k : Nat) : Prop := ∃ q : vw_C, cl_s[c]? = some q ∧ k < q.2.2 ∧ Cond.fieldLink own idx q.1 (q.2.1 k).2.1 (q.2.1 k).2.2.1 ∈ tb
theorem zc20 {c : Nat} {q : vw_C} (h : cl_s[c]? = some q) : c < 20 := by
  have := (List.getElem?_eq_some_iff.mp h).1
  have h2 : cl_s.length = 13 := rfl
  omega
theorem zco_vret (h0 : rc = 0) (h1 : rs = 0) (hrt : mi.2.2.2.1 = none) (hd : decode mi.2.1 pc = .ok (.return_, 1)) : zCo l d rc rs mi pc L [] (z_ret none) := by
  intro G h r h2 hf p e s m args below meth cd H locs cells slots R ls Fx hR hP hS hl
  obtain ⟨hx, hb, hml, hr, hown, hlocks, hin, hts, hK, hX, hB⟩ := id Fx
  cases hf
  rw [hrt] at hr
  subst h0; subst h1
  obtain ⟨-, -, e1, e2, e3⟩ := hR
  rw [← e1, ← e2]
  exact W.vret hx hb hr (fun t ht hW => ⟨rfl, ⟨by rw [ht]; exact hP, va_K.moved hW.alike hK, e3⟩, hS.F ht⟩) hS.2.2 hd (hlocks := hlocks)
theorem zco_iret {x : Int32} (h0 : rc = 0) (h1 : rs = 0) (hrt : mi.2.2.2.1 = some .int) (hd : decode mi.2.1 pc = .ok (.ireturn, 1)) : zCo l d rc rs mi pc L [.int x] (z_ret (some (.int x))) := by
  intro G h r h2 hf p e s m args below meth cd H locs cells slots R ls Fx hR hP hS hl
  obtain ⟨hx, hb, hml, hr, hown, hlocks, hin, hts, hK, hX, hB⟩ := id Fx
  cases hf
  rw [hrt] at hr
  subst h0; subst h1
  obtain ⟨-, -, e1, e2, e3⟩ := hR
  rw [← e1, ← e2]
  exact W.iret hx hb hr (fun t ht hW => ⟨rfl, ⟨by rw [ht]; exact hP, va_K.moved hW.alike hK, e3⟩, hS.F ht⟩) hS.2.2 hd (hlocks := hlocks)
theorem zco_lret {x : Int64} (h0 : rc = 0) (h1 : rs = 0) (hrt : mi.2.2.2.1 = some .long) (hd : decode mi.2.1 pc = .ok (.lreturn, 1)) : zCo l d rc rs mi pc L [.long x] (z_ret (some (.long x))) := by
  intro G h r h2 hf p e s m args below meth cd H locs cells slots R ls Fx hR hP hS hl
  obtain ⟨hx, hb, hml, hr, hown, hlocks, hin, hts, hK, hX, hB⟩ := id Fx
  cases hf
  rw [hrt] at hr
  subst h0; subst h1
  obtain ⟨-, -, e1, e2, e3⟩ := hR
  rw [← e1, ← e2]
  exact W.lret hx hb hr (fun t ht hW => ⟨rfl, ⟨by rw [ht]; exact hP, va_K.moved hW.alike hK, e3⟩, hS.F ht⟩) hS.2.2 hd (hlocks := hlocks)
theorem zco_zret {x : Int32} (h0 : rc = 0) (h1 : rs = 0) (hrt : mi.2.2.2.1 = some .boolean) (hd : decode mi.2.1 pc = .ok (.ireturn, 1)) : zCo l d rc rs mi pc L [.int x] (z_rb x) := by
  intro G h r h2 hf p e s m args below meth cd H locs cells slots R ls Fx hR hP hS hl
  obtain ⟨hx, hb, hml, hr, hown, hlocks, hin, hts, hK, hX, hB⟩ := id Fx
  unfold z_rb at hf
  split at hf <;> cases hf
  rename_i hq
  rw [hrt] at hr
  have hn : narrow .boolean (.int x) = .int x := by rcases hq with rfl | rfl <;> rfl
  subst h0; subst h1
  obtain ⟨-, -, e1, e2, e3⟩ := hR
  rw [← e1, ← e2]
  exact W.zret hx hb hr hn (fun t ht hW => ⟨rfl, ⟨by rw [ht]; exact hP, va_K.moved hW.alike hK, e3⟩, hS.F ht⟩) hS.2.2 hd (hlocks := hlocks)
theorem zco_aret {a : Nat} {rt : FieldType} (h0 : rc = 0) (h1 : rs = 0) (hrt : mi.2.2.2.1 = some rt) (hk : (∃ n, rt = .object n) ∨ ∃ t, rt = .array t) (hd : decode mi.2.1 pc = .ok (.areturn, 1)) : zCo l d rc rs mi pc L [.ref a] (z_ret (some (.ref a))) := by
  intro G h r h2 hf p e s m args below meth cd H locs cells slots R ls Fx hR hP hS hl
  obtain ⟨hx, hb, hml, hr, hown, hlocks, hin, hts, hK, hX, hB⟩ := id Fx
  cases hf
  rw [hrt] at hr
  subst h0; subst h1
  obtain ⟨-, -, e1, e2, e3⟩ := hR
  rw [← e1, ← e2]
  exact W.aret hx hb hr hk (Or.inr ⟨_, rfl⟩) (fun t ht hW => ⟨rfl, ⟨by rw [ht]; exact hP, va_K.moved hW.alike hK, e3⟩, hS.F ht⟩) hS.2.2 hd (hlocks := hlocks)
theorem zco_gi {F : Int32 → zM} {a c k idx : Nat} (hl0 : zFL mi.1 idx c k) (ht : fty c k = 0) (hd : decode mi.2.1 pc = .ok (.getfield idx, 3)) (kk : ∀ x : Int32, zCo l d rc rs mi (pc + 3) L (.int x :: S) (F x)) : zCo l d rc rs mi pc L (.ref a :: S) (z_gi c k a F) := by
  intro G h r h2 hf p e s m args below meth cd H locs cells slots R ls Fx hR hP hS hl
  obtain ⟨hx, hb, hml, hr, hown, hlocks, hin, hts, hK, hX, hB⟩ := id Fx
  unfold z_gi at hf
  split at hf
  · rename_i hq
    obtain ⟨q, q1, q2, q3⟩ := hl0
    obtain ⟨k1, k2, k3, k4⟩ := cl_oks c q q1
    refine va_get (own := mi.1) (ref := q.1) (C := q.1) (T := q.2.1) (N := q.2.2) (ci := c) (index := idx) (v := .int (gI h a k)) hx hb hts k1 hown hK hP.1 a ((zws_at G h hq.1).trans (by rw [zE_obj G hq.2 (zc20 q1)])) q1 k q2 (hts _ q3) (fun x h9 => by rw [k4 k q2] at h9; exact h9) ((zfs_at G h a c (by rw [cl_n_of q1]; exact q2)).trans (by rw [zfv, if_pos ht] <;> rfl)) hd ?_
    exact kk _ G h r h2 hf p e s m args below meth cd H locs cells slots R ls Fx hR hP hS hl
  · cases hf
theorem zco_gl {F : Int64 → zM} {a c k idx : Nat} (hl0 : zFL mi.1 idx c k) (ht : fty c k = 1) (hd : decode mi.2.1 pc = .ok (.getfield idx, 3)) (kk : ∀ x : Int64, zCo l d rc rs mi (pc + 3) L (.long x :: S) (F x)) : zCo l d rc rs mi pc L (.ref a :: S) (z_gl c k a F) := by
  intro G h r h2 hf p e s m args below meth cd H locs cells slots R ls Fx hR hP hS hl
  obtain ⟨hx, hb, hml, hr, hown, hlocks, hin, hts, hK, hX, hB⟩ := id Fx
  unfold z_gl at hf
  split at hf
  · rename_i hq
    obtain ⟨q, q1, q2, q3⟩ := hl0
    obtain ⟨k1, k2, k3, k4⟩ := cl_oks c q q1
    refine va_get (own := mi.1) (ref := q.1) (C := q.1) (T := q.2.1) (N := q.2.2) (ci := c) (index := idx) (v := .long (gL h a k)) hx hb hts k1 hown hK hP.1 a ((zws_at G h hq.1).trans (by rw [zE_obj G hq.2 (zc20 q1)])) q1 k q2 (hts _ q3) (fun x h9 => by rw [k4 k q2] at h9; exact h9) ((zfs_at G h a c (by rw [cl_n_of q1]; exact q2)).trans (by rw [zfv, if_neg (by rw [ht]; decide), if_pos ht] <;> rfl)) hd ?_
    exact kk _ G h r h2 hf p e s m args below meth cd H locs cells slots R ls Fx hR hP hS hl
  · cases hf
theorem zco_gr {F : Nat → zM} {a c k idx : Nat} (hl0 : zFL mi.1 idx c k) (ht : fty c k = 2) (hd : decode mi.2.1 pc = .ok (.getfield idx, 3)) (kk : ∀ x : Nat, zCo l d rc rs mi (pc + 3) L (.ref x :: S) (F x)) : zCo l d rc rs mi pc L (.ref a :: S) (z_gr c k a F) := by
  intro G h r h2 hf p e s m args below meth cd H locs cells slots R ls Fx hR hP hS hl
  obtain ⟨hx, hb, hml, hr, hown, hlocks, hin, hts, hK, hX, hB⟩ := id Fx
  unfold z_gr at hf
  split at hf
  · rename_i hq
    split at hf
    · rename_i b hb2
      obtain ⟨q, q1, q2, q3⟩ := hl0
      obtain ⟨k1, k2, k3, k4⟩ := cl_oks c q q1
      refine va_get (own := mi.1) (ref := q.1) (C := q.1) (T := q.2.1) (N := q.2.2) (ci := c) (index := idx) (v := .ref (zad G b)) hx hb hts k1 hown hK hP.1 a ((zws_at G h hq.1).trans (by rw [zE_obj G hq.2 (zc20 q1)])) q1 k q2 (hts _ q3) (fun x h9 => by rw [k4 k q2] at h9; exact h9) ((zfs_at G h a c (by rw [cl_n_of q1]; exact q2)).trans (by rw [zfv, if_neg (by rw [ht]; decide), if_neg (by rw [ht]; decide), hb2]; rfl)) hd ?_
      exact kk _ G h r h2 hf p e s m args below meth cd H locs cells slots R ls Fx hR hP hS hl
    · cases hf
  · cases hf
theorem zco_pi {a c k idx : Nat} {x : Int32} (hl0 : zFL mi.1 idx c k) (hc0 : cl_t c k = .int) (hfin : (match cl_s[c]? with | some q => (q.2.1 k).2.2.2 | none => true) = false) (hd : decode mi.2.1 pc = .ok (.putfield idx, 3)) (kk : zCo l d rc rs mi (pc + 3) L S f) : zCo l d rc rs mi pc L (.int x :: .ref a :: S) (z_pi c k a x f) := by
  intro G h r h2 hf p e s m args below meth cd H locs cells slots R ls Fx hR hP hS hl
  obtain ⟨hx, hb, hml, hr, hown, hlocks, hin, hts, hK, hX, hB⟩ := id Fx
  unfold z_pi at hf
  split at hf
  · rename_i hq
    skip
    obtain ⟨q, q1, q2, q3⟩ := hl0
    obtain ⟨k1, k2, k3, k4⟩ := cl_oks c q q1
    rw [q1] at hfin
    have ht : fty c k = 0 := by simp [fty, hc0]
    have hfit : narrow (cl_t c k) (.int x) = .int x ∧ fits (cl_t c k) (.int x) = true := by rw [hc0]; exact ⟨vp_nar_int x, rfl⟩
    refine va_put (own := mi.1) (ref := q.1) (C := q.1) (T := q.2.1) (N := q.2.2) (ci := c) (index := idx) (ty := cl_t c k) (v := .int x) hx hb hts k1 (cl_t c) k2 k3 hown hK hP.1 (zD hP.2) hS a ((zws_at G h hq.1).trans (by rw [zE_obj G hq.2 (zc20 q1)])) q1 k q2 (hts _ q3) (fun x h9 => by rw [k4 k q2] at h9; exact h9) hfin (k2 k q2) hfit.1 hfit.2 (by rw [zfs_len, cl_n_of q1]; exact q2) hd (fun H1 locs1 hP1 hD1 hS1 => ?_)
    refine kk G _ r h2 hf p e s m args below meth cd H1 locs1 cells slots R ls Fx hR ⟨?_, hP.2⟩ hS1 hl
    · rw [zws_set G h (sI h a k x) hq.1 rfl (fun j hj => zE_sI G h a k _ hj) ?_] at hP1
      · exact hP1
      · rw [zE_obj (c := c) G (by exact hq.2) (zc20 q1), ← zfs_set G h (sI h a k x) a c (by rw [cl_n_of q1]; exact q2) (v := .int x) ?_ ?_]
        · rw [zfv, if_pos ht]; simp [gI, sI, u2, gI, zc, va_rf]
        · intro i hi
          simp only [zfv, gI_sI, gL_sI, gR_sI]
          simp [hi]
  · cases hf
theorem zco_pb {a c k idx : Nat} {x : Int32} (hl0 : zFL mi.1 idx c k) (hc0 : cl_t c k = .boolean) (hfin : (match cl_s[c]? with | some q => (q.2.1 k).2.2.2 | none => true) = false) (hd : decode mi.2.1 pc = .ok (.putfield idx, 3)) (kk : zCo l d rc rs mi (pc + 3) L S f) : zCo l d rc rs mi pc L (.int x :: .ref a :: S) (z_pb c k a x f) := by
  intro G h r h2 hf p e s m args below meth cd H locs cells slots R ls Fx hR hP hS hl
  obtain ⟨hx, hb, hml, hr, hown, hlocks, hin, hts, hK, hX, hB⟩ := id Fx
  unfold z_pb at hf
  split at hf
  · rename_i hq
    obtain ⟨hq, hx01⟩ := hq
    obtain ⟨q, q1, q2, q3⟩ := hl0
    obtain ⟨k1, k2, k3, k4⟩ := cl_oks c q q1
    rw [q1] at hfin
    have ht : fty c k = 0 := by simp [fty, hc0]
    have hfit : narrow (cl_t c k) (.int x) = .int x ∧ fits (cl_t c k) (.int x) = true := by rw [hc0]; rcases hx01 with rfl | rfl <;> exact ⟨rfl, rfl⟩
    refine va_put (own := mi.1) (ref := q.1) (C := q.1) (T := q.2.1) (N := q.2.2) (ci := c) (index := idx) (ty := cl_t c k) (v := .int x) hx hb hts k1 (cl_t c) k2 k3 hown hK hP.1 (zD hP.2) hS a ((zws_at G h hq.1).trans (by rw [zE_obj G hq.2 (zc20 q1)])) q1 k q2 (hts _ q3) (fun x h9 => by rw [k4 k q2] at h9; exact h9) hfin (k2 k q2) hfit.1 hfit.2 (by rw [zfs_len, cl_n_of q1]; exact q2) hd (fun H1 locs1 hP1 hD1 hS1 => ?_)
    refine kk G _ r h2 hf p e s m args below meth cd H1 locs1 cells slots R ls Fx hR ⟨?_, hP.2⟩ hS1 hl
    · rw [zws_set G h (sI h a k x) hq.1 rfl (fun j hj => zE_sI G h a k _ hj) ?_] at hP1
      · exact hP1
      · rw [zE_obj (c := c) G (by exact hq.2) (zc20 q1), ← zfs_set G h (sI h a k x) a c (by rw [cl_n_of q1]; exact q2) (v := .int x) ?_ ?_]
        · rw [zfv, if_pos ht]; simp [gI, sI, u2, gI, zc, va_rf]
        · intro i hi
          simp only [zfv, gI_sI, gL_sI, gR_sI]
          simp [hi]
  · cases hf
theorem zco_pl {a c k idx : Nat} {x : Int64} (hl0 : zFL mi.1 idx c k) (hc0 : cl_t c k = .long) (hfin : (match cl_s[c]? with | some q => (q.2.1 k).2.2.2 | none => true) = false) (hd : decode mi.2.1 pc = .ok (.putfield idx, 3)) (kk : zCo l d rc rs mi (pc + 3) L S f) : zCo l d rc rs mi pc L (.long x :: .ref a :: S) (z_pl c k a x f) := by
  intro G h r h2 hf p e s m args below meth cd H locs cells slots R ls Fx hR hP hS hl
  obtain ⟨hx, hb, hml, hr, hown, hlocks, hin, hts, hK, hX, hB⟩ := id Fx
  unfold z_pl at hf
  split at hf
  · rename_i hq
    skip
    obtain ⟨q, q1, q2, q3⟩ := hl0
    obtain ⟨k1, k2, k3, k4⟩ := cl_oks c q q1
    rw [q1] at hfin
    have ht : fty c k = 1 := by simp [fty, hc0]
    have hfit : narrow (cl_t c k) (.long x) = .long x ∧ fits (cl_t c k) (.long x) = true := by rw [hc0]; exact ⟨rfl, rfl⟩
    refine va_put (own := mi.1) (ref := q.1) (C := q.1) (T := q.2.1) (N := q.2.2) (ci := c) (index := idx) (ty := cl_t c k) (v := .long x) hx hb hts k1 (cl_t c) k2 k3 hown hK hP.1 (zD hP.2) hS a ((zws_at G h hq.1).trans (by rw [zE_obj G hq.2 (zc20 q1)])) q1 k q2 (hts _ q3) (fun x h9 => by rw [k4 k q2] at h9; exact h9) hfin (k2 k q2) hfit.1 hfit.2 (by rw [zfs_len, cl_n_of q1]; exact q2) hd (fun H1 locs1 hP1 hD1 hS1 => ?_)
    refine kk G _ r h2 hf p e s m args below meth cd H1 locs1 cells slots R ls Fx hR ⟨?_, hP.2⟩ hS1 hl
    · rw [zws_set G h (sL h a k x) hq.1 rfl (fun j hj => zE_sL G h a k _ hj) ?_] at hP1
      · exact hP1
      · rw [zE_obj (c := c) G (by exact hq.2) (zc20 q1), ← zfs_set G h (sL h a k x) a c (by rw [cl_n_of q1]; exact q2) (v := .long x) ?_ ?_]
        · rw [zfv, if_neg (by rw [ht]; decide), if_pos ht]; simp [gL, sL, u2, gL, zc, va_rf]
        · intro i hi
          simp only [zfv, gL_sL, gI_sL, gR_sL]
          simp [hi]
  · cases hf
theorem zco_pr {a c k idx : Nat} {b : Nat} (hl0 : zFL mi.1 idx c k) (hc0 : (∃ n, cl_t c k = .object n) ∨ ∃ t, cl_t c k = .array t) (hfin : (match cl_s[c]? with | some q => (q.2.1 k).2.2.2 | none => true) = false) (hd : decode mi.2.1 pc = .ok (.putfield idx, 3)) (kk : zCo l d rc rs mi (pc + 3) L S f) : zCo l d rc rs mi pc L (.ref b :: .ref a :: S) (z_pr c k a b f) := by
  intro G h r h2 hf p e s m args below meth cd H locs cells slots R ls Fx hR hP hS hl
  obtain ⟨hx, hb, hml, hr, hown, hlocks, hin, hts, hK, hX, hB⟩ := id Fx
  unfold z_pr at hf
  split at hf
  · rename_i hq
    skip
    obtain ⟨q, q1, q2, q3⟩ := hl0
    obtain ⟨k1, k2, k3, k4⟩ := cl_oks c q q1
    rw [q1] at hfin
    have ht : fty c k = 2 := by rcases hc0 with ⟨n, hc0⟩ | ⟨n, hc0⟩ <;> simp [fty, hc0]
    have hfit : narrow (cl_t c k) (.ref (zad G b)) = .ref (zad G b) ∧ fits (cl_t c k) (.ref (zad G b)) = true := by rcases hc0 with ⟨n, hc0⟩ | ⟨n, hc0⟩ <;> rw [hc0] <;> exact ⟨rfl, rfl⟩
    refine va_put (own := mi.1) (ref := q.1) (C := q.1) (T := q.2.1) (N := q.2.2) (ci := c) (index := idx) (ty := cl_t c k) (v := .ref (zad G b)) hx hb hts k1 (cl_t c) k2 k3 hown hK hP.1 (zD hP.2) hS a ((zws_at G h hq.1).trans (by rw [zE_obj G hq.2 (zc20 q1)])) q1 k q2 (hts _ q3) (fun x h9 => by rw [k4 k q2] at h9; exact h9) hfin (k2 k q2) hfit.1 hfit.2 (by rw [zfs_len, cl_n_of q1]; exact q2) hd (fun H1 locs1 hP1 hD1 hS1 => ?_)
    refine kk G _ r h2 hf p e s m args below meth cd H1 locs1 cells slots R ls Fx hR ⟨?_, hP.2⟩ hS1 hl
    · rw [zws_set G h (sR h a k (some b)) hq.1 rfl (fun j hj => zE_sR G h a k _ hj) ?_] at hP1
      · exact hP1
      · rw [zE_obj (c := c) G (by exact hq.2) (zc20 q1), ← zfs_set G h (sR h a k (some b)) a c (by rw [cl_n_of q1]; exact q2) (v := .ref (zad G b)) ?_ ?_]
        · rw [zfv, if_neg (by rw [ht]; decide), if_neg (by rw [ht]; decide)]; simp [gR, sR, u2, gR, zc, va_rf]
        · intro i hi
          simp only [zfv, gR_sR, gI_sR, gL_sR]
          simp [hi]
  · cases hf
theorem zco_prF {a c k idx : Nat} {b : Nat} (hl0 : zFL mi.1 idx c k) (hc0 : (∃ n, cl_t c k = .object n) ∨ ∃ t, cl_t c k = .array t) (hfin : (match cl_s[c]? with | some q => (q.2.1 k).2.2.2 | none => false) = true) (hin0 : mi.2.2.2.2 = true) (hdc : (mi.1 == (match cl_s[c]? with | some q => q.1 | none => "")) = true) (hd : decode mi.2.1 pc = .ok (.putfield idx, 3)) (kk : zCo l d rc rs mi (pc + 3) L S f) : zCo l d rc rs mi pc L (.ref b :: .ref a :: S) (z_pr c k a b f) := by
  intro G h r h2 hf p e s m args below meth cd H locs cells slots R ls Fx hR hP hS hl
  obtain ⟨hx, hb, hml, hr, hown, hlocks, hin, hts, hK, hX, hB⟩ := id Fx
  unfold z_pr at hf
  split at hf
  · rename_i hq
    skip
    obtain ⟨q, q1, q2, q3⟩ := hl0
    obtain ⟨k1, k2, k3, k4⟩ := cl_oks c q q1
    rw [q1] at hfin
    have ht : fty c k = 2 := by rcases hc0 with ⟨n, hc0⟩ | ⟨n, hc0⟩ <;> simp [fty, hc0]
    have hfit : narrow (cl_t c k) (.ref (zad G b)) = .ref (zad G b) ∧ fits (cl_t c k) (.ref (zad G b)) = true := by rcases hc0 with ⟨n, hc0⟩ | ⟨n, hc0⟩ <;> rw [hc0] <;> exact ⟨rfl, rfl⟩
    refine va_putF (own := mi.1) (ref := q.1) (C := q.1) (T := q.2.1) (N := q.2.2) (ci := c) (index := idx) (ty := cl_t c k) (v := .ref (zad G b)) hx hb hts k1 (cl_t c) k2 k3 hown hK hP.1 (zD hP.2) hS a ((zws_at G h hq.1).trans (by rw [zE_obj G hq.2 (zc20 q1)])) q1 k q2 (hts _ q3) (fun x h9 => by rw [k4 k q2] at h9; exact h9) hfin (hin hin0) (by rw [k4 k q2]; rw [q1] at hdc; exact (eq_of_beq hdc).symm) (k2 k q2) hfit.1 hfit.2 (by rw [zfs_len, cl_n_of q1]; exact q2) hd (fun H1 locs1 hP1 hD1 hS1 => ?_)
    refine kk G _ r h2 hf p e s m args below meth cd H1 locs1 cells slots R ls Fx hR ⟨?_, hP.2⟩ hS1 hl
    · rw [zws_set G h (sR h a k (some b)) hq.1 rfl (fun j hj => zE_sR G h a k _ hj) ?_] at hP1
      · exact hP1
      · rw [zE_obj (c := c) G (by exact hq.2) (zc20 q1), ← zfs_set G h (sR h a k (some b)) a c (by rw [cl_n_of q1]; exact q2) (v := .ref (zad G b)) ?_ ?_]
        · rw [zfv, if_neg (by rw [ht]; decide), if_neg (by rw [ht]; decide)]; simp [gR, sR, u2, gR, zc, va_rf]
        · intro i hi
          simp only [zfv, gR_sR, gI_sR, gL_sR]
          simp [hi]
  · cases hf
end ZR2
