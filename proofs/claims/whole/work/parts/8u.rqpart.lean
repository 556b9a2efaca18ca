/-! the reference: the facts of a question -/
section B8u
variable {I I0 : Nat → Nat → Int32} {L L0 : Nat → Nat → Int64} {ρ : zRh} {h : zH} {b : Nat → Nat} {n a x j k u w t p m side here : Nat} {r : rP} {S : nT} {A : aT} {N : Nat} {C : cT} {s : sT}
theorem RelM_L {L' : Nat → Nat → Int64} (hM : RelM I L A) (h1 : L' 215 77 = L 215 77) (h2 : L' 247 = L 247) : RelM I L' A := by
  obtain ⟨m1, m2, m3, m4, m5, m6, m7, m8, m9, m10, m11, m12⟩ := hM
  exact ⟨m1, by rw [h2]; exact m2, m3, m4, m5, m6, m7, m8, m9, m10, by rw [h1]; exact m11, m12⟩
theorem dd_41 : c_dd 3 41 = 10007 ∧ c_dd 3 42 = 10002 ∧ c_dd 3 43 = 10003 ∧ c_dd 3 44 = 10004 ∧ c_dd 3 47 = 10008 ∧ c_dd 3 48 = 10005 ∧ c_dd 3 49 = 10000 ∧ c_dd 3 50 = 10001 ∧ c_dd 3 51 = 10006 := by decide
theorem qPart_h {v2 : Int32} (hok : okA A) (hM : RelM I L A) (hp2 : p < k_L (a_C A) + k_R (a_C A)) (h56 : I 215 56 = nI p) (h57 : I 215 57 = nI p) {c : Nat} (hc : c = 41 ∨ c = 42 ∨ c = 43 ∨ c = 44 ∨ c = 47 ∨ c = 48 ∨ c = 49 ∨ c = 50 ∨ c = 51) : X12_qPartOf 215 (nI (c - 40)) v2 (hp I L ρ) = some (some (.long (cl (q_F (a_C A) (a_s A) p (c_dd 3 c - 10000)))), hp I L ρ) := by
  have hk := hok.1
  have h66 := hk.1
  have hcd := k_cd_th hp2 hk
  have h12 := k_th_lt hk hcd.1
  have hS := RelM_st hok hM
  have hs := hok.2.2.1
  have hb := hs.1.2.2.2.2.1 _ h12
  obtain ⟨w1, w2, w3⟩ := hk.2.2.2.1 _ h12
  have e0 := X12_hand0 (L := L) (ρ := ρ) hk hM.1 hcd.1
  have e1 := X12_hand1 (L := L) (ρ := ρ) hk hM.1 hcd.1
  have e2 := X12_hand2 (L := L) (ρ := ρ) hk hM.1 hS hcd.1
  have e3 := X12_waitedOf_h (L := L) (ρ := ρ) hk hM.1 hS hcd.1
  have e4 := X12_sideOf_h (L := L) (ρ := ρ) hk hM.1 (p := p) (by omega)
  have e5 := X12_wedTo_h (L := L) (ρ := ρ) hk hM.1 hS hcd.1
  rw [hcd.2.1] at e0 e1 e2 e3 e5
  obtain ⟨d1, d2, d3, d4, d5, d6, d7, d8, d9⟩ := dd_41
  have hk10 := hk.2.1
  have hs1 := hs.1.1
  unfold X12_qPartOf
  rw [h_if, nI_toInt (by omega)]
  rcases hc with rfl | rfl | rfl | rfl | rfl | rfl | rfl | rfl | rfl
  · rw [if_neg (by omega), d1, show (((41 - 40 : Nat) : Int) - 0).toNat = 1 from by omega]
    show (z_gr 12 52 215 fun x4 => z_la 20 x4 0 fun x5 => z_ret (some (.long x5.toInt64))) (hp I L ρ) = some (some (.long (cl ((s_sp (a_s A) : Nat) : Int))), hp I L ρ)
    rw [gr_215_52, lal_0, la_255 (by omega), hS.1.1, nI_cl (by omega)]; rfl
  · rw [if_neg (by omega), d2, show (((42 - 40 : Nat) : Int) - 0).toNat = 2 from by omega]
    show (z_gi 12 57 215 fun x6 => z_rc 12 215 (z_ci (X12_handOf 215 x6 0) fun y7 => z_ret (some (.long y7.toInt64)))) (hp I L ρ) = some (some (.long (cl ((k_warm (a_C A) (k_cd (a_C A) p) : Nat) : Int))), hp I L ρ)
    rw [gi_215, h57, rc_215, h_ci e0, nI_cl (by omega)]; rfl
  · rw [if_neg (by omega), d3, show (((43 - 40 : Nat) : Int) - 0).toNat = 3 from by omega]
    show (z_gi 12 57 215 fun x6 => z_rc 12 215 (z_ci (X12_handOf 215 x6 1) fun y7 => z_ret (some (.long y7.toInt64)))) (hp I L ρ) = some (some (.long (cl ((k_work (a_C A) (k_cd (a_C A) p) : Nat) : Int))), hp I L ρ)
    rw [gi_215, h57, rc_215, h_ci e1, nI_cl (by omega)]; rfl
  · rw [if_neg (by omega), d4, show (((44 - 40 : Nat) : Int) - 0).toNat = 4 from by omega]
    show (z_gi 12 57 215 fun x6 => z_rc 12 215 (z_ci (X12_handOf 215 x6 2) fun y7 => z_ret (some (.long y7.toInt64)))) (hp I L ρ) = some (some (.long (cl ((k_size (a_C A) (k_cd (a_C A) p) : Nat) : Int))), hp I L ρ)
    rw [gi_215, h57, rc_215, h_ci e2, hs.2.2 _ h12, nI_cl (by omega)]; rfl
  · rw [if_neg (by omega), d5, show (((47 - 40 : Nat) : Int) - 0).toNat = 7 from by omega]
    show (z_gr 12 52 215 fun x4 => z_la 20 x4 1 fun x5 => z_ret (some (.long x5.toInt64))) (hp I L ρ) = some (some (.long (cl ((s_rd (a_s A) : Nat) : Int))), hp I L ρ)
    rw [gr_215_52, lal_1, la_255 (by omega), hS.1.2, nI_cl (by omega)]; rfl
  · rw [if_neg (by omega), d6, show (((48 - 40 : Nat) : Int) - 0).toNat = 8 from by omega]
    show (z_gi 12 56 215 fun x6 => z_rc 12 215 (z_ci (X12_waitedOf 215 x6) fun y7 => z_ret (some (.long y7.toInt64)))) (hp I L ρ) = some (some (.long (cl ((s_wai (a_s A) (k_cd (a_C A) p) : Nat) : Int))), hp I L ρ)
    rw [gi_215, h56, rc_215, h_ci e3, nI_cl (by omega)]; rfl
  · rw [if_neg (by omega), d7, show (((49 - 40 : Nat) : Int) - 0).toNat = 9 from by omega]
    show (z_gi 12 56 215 fun x6 => z_ret (some (.long x6.toInt64))) (hp I L ρ) = some (some (.long (cl ((p : Nat) : Int))), hp I L ρ)
    rw [gi_215, h56, nI_cl (by omega)]; rfl
  · rw [if_neg (by omega), d8, show (((50 - 40 : Nat) : Int) - 0).toNat = 10 from by omega]
    show (z_gi 12 56 215 fun x6 => z_rc 12 215 (z_ci (X12_sideOf 215 x6) fun y7 => z_ret (some (.long y7.toInt64)))) (hp I L ρ) = some (some (.long (cl (if 6 ≤ k_cd (a_C A) p then 1 else 0))), hp I L ρ)
    have ec : k_L (a_C A) ≤ p ↔ 6 ≤ k_cd (a_C A) p := by unfold k_cd; split <;> omega
    rw [gi_215, h56, rc_215, h_ci e4]
    by_cases c : k_L (a_C A) ≤ p
    · rw [if_pos c, if_pos (ec.mp c)]; rfl
    · rw [if_neg c, if_neg (fun q => c (ec.mpr q))]; rfl
  · rw [if_pos (by omega), d9, gi_215, h56, rc_215, h_ci e5, h_if]
    show _ = some (some (Value.long (cl (if s_wed (a_s A) (k_cd (a_C A) p) = none then 0 else 1))), hp I L ρ)
    rcases z : s_wed (a_s A) (k_cd (a_C A) p) with _ | c
    · rw [oI_none, if_pos rfl, if_pos rfl]; rfl
    · have hc : c < 12 := k_th_lt hk (hs.1.2.2.2.1 _ c z).2.1
      rw [if_neg (show ¬ oI (some c) = -1 from nI_nm1 (by omega)), if_neg (by intro q; cases q)]; rfl
theorem k_ac_x (hk : okC C) {x : Int} (hx : -1000000 ≤ x ∧ x ≤ 1000000) : (k_ac C (nI p) (ci x) = none ∧ ¬ (0 ≤ x ∧ x < 12)) ∨ ((0 ≤ x ∧ x < 12) ∧ ci x = nI x.toNat) := by
  by_cases c : 0 ≤ x ∧ x < 12
  · refine Or.inr ⟨c, ?_⟩
    rw [ci_nat]
    congr 1
    omega
  · refine Or.inl ⟨?_, c⟩
    have h66 := hk.1
    have e : k_sl C (ci x) = none := by
      rcases k_sl_c hk (ci x) with ⟨q, -⟩ | ⟨a, o, q1, q2, q3, -⟩
      · exact q
      · exfalso
        rw [ci_nat] at q2
        have := (ci_eq (x := x) (y := (o : Int)) (by omega) (by omega) (by omega) (by omega)).mp q2
        omega
    unfold k_ac
    rw [e]
    rcases k_sl C (nI p) with _ | a <;> rfl
theorem qOf_h (hok : okA A) (hM : RelM I L A) (hp2 : p < k_L (a_C A) + k_R (a_C A)) {c : Nat} (hc : c = 60 ∨ c = 61) {x : Int} (hx : -1000000 ≤ x ∧ x ≤ 1000000) : X12_qOf 215 (nI (c - 60)) (cl x) (nI p) (hp I L ρ) = some (some (.long (cl (e_one (q_F (a_C A) (a_s A) p) (c_dd 3 c) x))), hp I L ρ) := by
  have hk := hok.1
  have h66 := hk.1
  have hcd := k_cd_th hp2 hk
  have h12 := k_th_lt hk hcd.1
  have ht := X12_areTwo_v (I := I) (L := L) (ρ := ρ) hk hM.1 (nI p) (ci x)
  rw [cl_ci (by omega) (by omega)] at ht
  have hlk := hok.2.2.1.1.2.2.2.2.2
  have e1 : ∀ c, c = 60 ∨ c = 61 → e_one (q_F (a_C A) (a_s A) p) (c_dd 3 c) x = if x < 0 ∨ 12 ≤ x then 0 else (q_o (a_C A) (if c = 60 then s_lik (a_s A) else s_kno (a_s A)) p x.toNat : Int) := by
    intro c hc
    unfold e_one
    rcases hc with rfl | rfl
    · rw [show c_dd 3 60 = 30002 from by decide, if_neg (by omega)]
      by_cases d : x < 0 ∨ 12 ≤ x
      · rw [if_pos d, if_pos d]
      · rw [if_neg d, if_neg d, if_pos rfl, if_pos rfl]
        unfold q_F
        rw [if_neg (by omega), if_neg (by omega), if_neg (by omega), if_neg (by omega), if_neg (by omega), if_neg (by omega), if_neg (by omega), if_neg (by omega), if_neg (by omega), if_pos (by omega), show 9 + x.toNat - 9 = x.toNat by omega]
    · rw [show c_dd 3 61 = 30003 from by decide, if_neg (by omega)]
      by_cases d : x < 0 ∨ 12 ≤ x
      · rw [if_pos d, if_pos d]
      · rw [if_neg d, if_neg d, if_neg (by omega), if_neg (by omega)]
        unfold q_F
        rw [if_neg (by omega), if_neg (by omega), if_neg (by omega), if_neg (by omega), if_neg (by omega), if_neg (by omega), if_neg (by omega), if_neg (by omega), if_neg (by omega), if_neg (by omega), if_pos (by omega), show 21 + x.toNat - 21 = x.toNat by omega]
  rw [e1 c hc]
  have key : ∀ (g : Int32 → Int32 → zM) (f : Nat → Nat), (∀ o b2, o < 12 → b2 < 12 → b2 = k_cd (a_C A) o → g (nI p) (nI o) (hp I L ρ) = some (some (.int (nI (f (6 * k_cd (a_C A) p + b2 % 6)))), hp I L ρ)) → (∀ i, i < 72 → f i ≤ 9) → (z_rc 12 215 (z_ci (X12_areTwo 215 (nI p).toInt64 (cl x)) fun y1 => z_if (y1 = 0) (z_ret (some (.long 0))) (z_rc 12 215 (z_ci (g (nI p) (cl x).toInt32) fun y2 => z_ret (some (.long y2.toInt64)))))) (hp I L ρ) = some (some (.long (cl (if x < 0 ∨ 12 ≤ x then 0 else (q_o (a_C A) f p x.toNat : Int)))), hp I L ρ) := by
    intro g f hg hf
    rw [rc_215, h_ci ht, h_if]
    rcases k_ac_x (p := p) hk hx with ⟨q1, q2⟩ | ⟨q1, q2⟩
    · rw [q1, if_pos (show bI (none : Option Nat).isSome = 0 from rfl), if_pos (by omega)]; rfl
    · rw [if_neg (show ¬ (x < 0 ∨ 12 ≤ x) by omega), q2]
      unfold q_o
      rcases z : k_ac (a_C A) (nI p) (nI x.toNat) with _ | c
      · rw [if_pos (show bI (none : Option Nat).isSome = 0 from rfl)]; rfl
      · have hc : c = k_cd (a_C A) x.toNat ∧ c < 12 := by
          unfold k_ac at z
          rcases y : k_sl (a_C A) (nI p) with _ | c1
          · rw [y] at z; cases z
          · rcases y2 : k_sl (a_C A) (nI x.toNat) with _ | c2
            · rw [y, y2] at z; cases z
            · rw [y, y2] at z
              have z : (if (c1 < 6 ↔ c2 < 6) then none else some c2) = some c := z
              split at z
              · cases z
              · cases z
                rcases k_sl_c hk (nI x.toNat) with ⟨q, -⟩ | ⟨a', p', g1, g2, g3, g4, g5, g6, g7⟩
                · rw [q] at y2; cases y2
                · rw [g1] at y2; cases y2
                  have := (nI_inj (by omega) (by omega)).mp g2
                  rw [this]
                  exact ⟨g4, g7⟩
        have hf9 := hf (6 * k_cd (a_C A) p + c % 6) (by omega)
        rw [if_neg (show ¬ bI (some c).isSome = 0 from (by decide : ¬ bI true = 0)), rc_215, ci_cl, q2, h_ci (hg x.toNat c (by omega) hc.2 hc.1), nI_cl (by omega)]; rfl
  unfold X12_qOf
  rw [h_if, nI_toInt (by omega)]
  rcases hc with rfl | rfl
  · rw [if_pos (by omega), if_pos rfl]
    exact key (fun a c => X12_likingOf 215 a c) (s_lik (a_s A)) (fun o b2 h1 h2 h3 => X12_likingOf_h hok hM ⟨by omega, h1, h2⟩ rfl h3 hcd.1) (fun i hi => (hlk i hi).1)
  · rw [if_neg (by omega), show (if (61 : Nat) = 60 then s_lik (a_s A) else s_kno (a_s A)) = s_kno (a_s A) from rfl]
    exact key (fun a c => X12_knowingOf 215 a c) (s_kno (a_s A)) (fun o b2 h1 h2 h3 => X12_knowingOf_h hok hM ⟨by omega, h1, h2⟩ rfl h3 hcd.1) (fun i hi => (hlk i hi).2)
end B8u
