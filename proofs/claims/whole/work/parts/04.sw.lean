theorem X2_statement_S19_0 (v0 : Nat) (v1 : Nat) (y2 : Int32) (y4 : Int32) : X2_statement_S19 v0 v1 y2 y4 0 = (X2_statement_J72 v0 v1 y2 y4) := rfl
theorem X2_statement_S19_1 (v0 : Nat) (v1 : Nat) (y2 : Int32) (y4 : Int32) : X2_statement_S19 v0 v1 y2 y4 1 = (X2_statement_J72 v0 v1 y2 y4) := rfl
theorem X2_statement_S19_2 (v0 : Nat) (v1 : Nat) (y2 : Int32) (y4 : Int32) : X2_statement_S19 v0 v1 y2 y4 2 = (z_rc 2 v0 (z_cv (X2_kinship v0 v1) (z_ret none))) := rfl
theorem X2_statement_S19_3 (v0 : Nat) (v1 : Nat) (y2 : Int32) (y4 : Int32) : X2_statement_S19 v0 v1 y2 y4 3 = (z_gr 1 7 v1 fun x6 => z_rc 2 v0 (z_cv (X2_bearing v0 v1 x6) (z_ret none))) := rfl
theorem X2_statement_S19_4 (v0 : Nat) (v1 : Nat) (y2 : Int32) (y4 : Int32) : X2_statement_S19 v0 v1 y2 y4 4 = (z_gr 1 8 v1 fun x7 => z_rc 2 v0 (z_cv (X2_bearing v0 v1 x7) (z_ret none))) := rfl
theorem X2_statement_S19_5 (v0 : Nat) (v1 : Nat) (y2 : Int32) (y4 : Int32) : X2_statement_S19 v0 v1 y2 y4 5 = (z_gr 2 0 v0 fun x8 => z_rc 9 x8 (z_cv (X9_passWord x8) (z_gr 2 0 v0 fun x9 => z_rc 9 x9 (z_ci (X9_takeNumber x9 1 12) fun y10 => z_pi 1 9 v1 y10 (z_ret none))))) := rfl
theorem X2_statement_S19_6 (v0 : Nat) (v1 : Nat) (y2 : Int32) (y4 : Int32) : X2_statement_S19 v0 v1 y2 y4 6 = (X2_statement_J138 v0 v1 y2 y4) := rfl
theorem X2_statement_S19_7 (v0 : Nat) (v1 : Nat) (y2 : Int32) (y4 : Int32) : X2_statement_S19 v0 v1 y2 y4 7 = (X2_statement_J138 v0 v1 y2 y4) := rfl
theorem X2_statement_S19_8 (v0 : Nat) (v1 : Nat) (y2 : Int32) (y4 : Int32) : X2_statement_S19 v0 v1 y2 y4 8 = (X2_statement_J138 v0 v1 y2 y4) := rfl
theorem X2_statement_S19_9 (v0 : Nat) (v1 : Nat) (y2 : Int32) (y4 : Int32) : X2_statement_S19 v0 v1 y2 y4 9 = (z_gr 2 0 v0 fun x11 => z_rc 9 x11 (z_cv (X9_passWord x11) (z_gr 2 0 v0 fun x12 => z_rc 9 x12 (z_ci (X9_takeNumber x12 0 100) fun y13 => z_pi 1 10 v1 y13 (z_ret none))))) := rfl
theorem X11_has_S1_0 (v0 : Nat) : X11_has_S1 v0 0 = (z_gr 11 5 v0 fun x1 => z_gr 1 0 x1 fun x2 => z_la 20 x2 0 fun x3 => z_ret (some (.int x3))) := rfl
theorem X11_has_S1_1 (v0 : Nat) : X11_has_S1 v0 1 = (z_gr 11 5 v0 fun x4 => z_gr 1 0 x4 fun x5 => z_la 20 x5 1 fun x6 => z_ret (some (.int x6))) := rfl
theorem X11_has_S1_2 (v0 : Nat) : X11_has_S1 v0 2 = (z_gr 11 5 v0 fun x7 => z_gi 1 6 x7 fun x8 => z_ret (some (.int x8))) := rfl
theorem X11_has_S1_3 (v0 : Nat) : X11_has_S1 v0 3 = (z_gr 11 7 v0 fun x9 => z_gi 8 0 x9 fun x10 => z_ret (some (.int x10))) := rfl
theorem X11_has_S1_4 (v0 : Nat) : X11_has_S1 v0 4 = (z_gr 11 7 v0 fun x11 => z_gi 8 1 x11 fun x12 => z_ret (some (.int x12))) := rfl
theorem X11_has_S1_5 (v0 : Nat) : X11_has_S1 v0 5 = (z_gr 11 5 v0 fun x13 => z_gi 1 9 x13 fun x14 => z_ret (some (.int x14))) := rfl
theorem X11_has_S1_6 (v0 : Nat) : X11_has_S1 v0 6 = (z_gr 11 7 v0 fun x15 => z_rc 8 x15 (z_ci (X8_wedPairs x15) fun y16 => z_ret (some (.int y16)))) := rfl
theorem X11_has_S1_7 (v0 : Nat) : X11_has_S1 v0 7 = (z_gr 11 11 v0 fun x17 => z_rc 6 x17 (z_ci (X6_keptTold x17) fun y18 => z_ret (some (.int y18)))) := rfl
theorem X11_has_S1_8 (v0 : Nat) : X11_has_S1 v0 8 = (z_gi 11 13 v0 fun x19 => z_ret (some (.int x19))) := rfl
theorem X11_has_S1_9 (v0 : Nat) : X11_has_S1 v0 9 = (z_gr 11 11 v0 fun x20 => z_gi 6 0 x20 fun x21 => z_ret (some (.int x21))) := rfl
theorem X11_person_S17_0 (v0 : Nat) (y2 : Int32) : X11_person_S17 v0 y2 0 = (z_gr 11 5 v0 fun x3 => z_gr 1 2 x3 fun x4 => z_la 20 x4 y2 fun x5 => z_ret (some (.int x5))) := rfl
theorem X11_person_S17_1 (v0 : Nat) (y2 : Int32) : X11_person_S17 v0 y2 1 = (z_gr 11 5 v0 fun x6 => z_gr 1 3 x6 fun x7 => z_la 20 x7 y2 fun x8 => z_ret (some (.int x8))) := rfl
theorem X11_person_S17_2 (v0 : Nat) (y2 : Int32) : X11_person_S17 v0 y2 2 = (z_gr 11 5 v0 fun x9 => z_gr 1 4 x9 fun x10 => z_la 20 x10 y2 fun x11 => z_ret (some (.int x11))) := rfl
theorem X11_person_S17_3 (v0 : Nat) (y2 : Int32) : X11_person_S17 v0 y2 3 = (z_gr 11 5 v0 fun x12 => z_gr 11 7 v0 fun x13 => z_gr 8 3 x13 fun x14 => z_la 20 x14 y2 fun x15 => z_rc 1 x12 (z_ci (X1_number x12 x15) fun y16 => z_ret (some (.int y16)))) := rfl
theorem X11_person_S17_4 (v0 : Nat) (y2 : Int32) : X11_person_S17 v0 y2 4 = (z_gr 11 7 v0 fun x17 => z_gr 8 4 x17 fun x18 => z_la 20 x18 y2 fun x19 => z_ret (some (.int x19))) := rfl
theorem X11_person_S17_5 (v0 : Nat) (y2 : Int32) : X11_person_S17 v0 y2 5 = (z_gr 11 7 v0 fun x20 => z_gr 11 5 v0 fun x21 => z_gr 1 0 x21 fun x22 => z_ci (X11_sideOf y2) fun y23 => z_la 20 x22 y23 fun x24 => z_rc 8 x20 (z_ci (X8_place x20 y2 x24) fun y25 => z_ret (some (.int y25)))) := rfl
theorem X11_person_S17_6 (v0 : Nat) (y2 : Int32) : X11_person_S17 v0 y2 6 = (z_gr 11 8 v0 fun x26 => z_gr 11 7 v0 fun x27 => z_rc 10 x26 (z_cv (X10_giveHands x26 x27) (z_gr 11 5 v0 fun x28 => z_gr 11 8 v0 fun x29 => z_gr 10 1 x29 fun x30 => z_la 20 x30 y2 fun x31 => z_rc 1 x28 (z_ci (X1_number x28 x31) fun y32 => z_ret (some (.int y32)))))) := rfl
theorem X3_ofTwo_S1_0 (v1 : Int32) (v2 : Int32) : X3_ofTwo_S1 v1 v2 0 = (z_ci (X3_bounded (v1.toInt64 + v2.toInt64)) fun y1 => z_ret (some (.int y1))) := rfl
theorem X3_ofTwo_S1_1 (v1 : Int32) (v2 : Int32) : X3_ofTwo_S1 v1 v2 1 = (z_ci (X3_bounded (v1.toInt64 - v2.toInt64)) fun y2 => z_ret (some (.int y2))) := rfl
theorem X3_ofTwo_S1_2 (v1 : Int32) (v2 : Int32) : X3_ofTwo_S1 v1 v2 2 = (z_ci (X3_bounded (v1.toInt64 * v2.toInt64)) fun y3 => z_ret (some (.int y3))) := rfl
theorem X3_ofTwo_S1_3 (v1 : Int32) (v2 : Int32) : X3_ofTwo_S1 v1 v2 3 = (z_if (v2 = 0) (z_ret (some (.int 0)))
       (z_ci (J9_floorDiv_7cf53 v1 v2) fun y4 => z_ret (some (.int y4)))) := rfl
theorem X3_ofTwo_S1_4 (v1 : Int32) (v2 : Int32) : X3_ofTwo_S1 v1 v2 4 = (z_ret (some (.int (if v2 < v1 then v2 else v1)))) := rfl
theorem X3_ofTwo_S1_5 (v1 : Int32) (v2 : Int32) : X3_ofTwo_S1 v1 v2 5 = (z_ret (some (.int (if v1 < v2 then v2 else v1)))) := rfl
theorem X3_ofTwo_S1_6 (v1 : Int32) (v2 : Int32) : X3_ofTwo_S1 v1 v2 6 = (z_if (v2 ≤ v1) (z_ret (some (.int 0)))
       (z_ret (some (.int 1)))) := rfl
theorem X3_ofTwo_S1_7 (v1 : Int32) (v2 : Int32) : X3_ofTwo_S1 v1 v2 7 = (z_if (v1 ≤ v2) (z_ret (some (.int 0)))
       (z_ret (some (.int 1)))) := rfl
theorem X3_ofTwo_S1_8 (v1 : Int32) (v2 : Int32) : X3_ofTwo_S1 v1 v2 8 = (z_if (v1 = v2) (z_ret (some (.int 1)))
       (z_ret (some (.int 0)))) := rfl
theorem X3_ofTwo_S1_9 (v1 : Int32) (v2 : Int32) : X3_ofTwo_S1 v1 v2 9 = (z_ret (some (.int (v1 &&& v2)))) := rfl
theorem X11_pair_S31_0 (v0 : Nat) (y2 : Int32) (y4 : Int32) : X11_pair_S31 v0 y2 y4 0 = (z_gr 11 7 v0 fun x5 => z_gr 8 6 x5 fun x6 => z_ci (X11_cell y2 y4) fun y7 => z_la 20 x6 y7 fun x8 => z_ret (some (.int x8))) := rfl
theorem X11_pair_S31_1 (v0 : Nat) (y2 : Int32) (y4 : Int32) : X11_pair_S31 v0 y2 y4 1 = (z_gr 11 7 v0 fun x9 => z_gr 8 7 x9 fun x10 => z_ci (X11_cell y2 y4) fun y11 => z_la 20 x10 y11 fun x12 => z_ret (some (.int x12))) := rfl
theorem X11_pair_S31_2 (v0 : Nat) (y2 : Int32) (y4 : Int32) : X11_pair_S31 v0 y2 y4 2 = (z_gr 11 8 v0 fun x13 => z_gr 11 7 v0 fun x14 => z_rc 10 x13 (z_ci (X10_feel x13 x14 y2 y4) fun y15 => z_ret (some (.int y15)))) := rfl
theorem X11_pair_S31_3 (v0 : Nat) (y2 : Int32) (y4 : Int32) : X11_pair_S31 v0 y2 y4 3 = (z_gr 11 8 v0 fun x16 => z_gr 11 7 v0 fun x17 => z_rc 10 x16 (z_ci (X10_feel x16 x17 y2 y4) fun y18 => z_gr 11 8 v0 fun x19 => z_rc 10 x19 (z_ci (X10_letsGo x19) fun y20 => z_if (y20 = 0) (z_ret (some (.int 0)))
       (z_ret (some (.int 1)))))) := rfl
theorem X11_pair_S31_4 (v0 : Nat) (y2 : Int32) (y4 : Int32) : X11_pair_S31 v0 y2 y4 4 = (z_gr 11 5 v0 fun x21 => z_rc 1 x21 (z_ci (X1_areKin x21 y2 y4) fun y22 => z_if (y22 = 0) (z_ret (some (.int 0)))
       (z_ret (some (.int 1))))) := rfl
theorem X7_joined_S4_0 (v1 : Int64) (v4 : Int32) (v3 : Int32) : X7_joined_S4 v1 v4 v3 0 = (z_if (v1 = (-1)) (z_if (v4 = 0) (z_ret (some (.long v1)))
       (z_ret (some (.long v3.toInt64))))
       (z_ret (some (.long v1)))) := rfl
theorem X7_joined_S4_1 (v1 : Int64) (v4 : Int32) (v3 : Int32) : X7_joined_S4 v1 v4 v3 1 = (z_if (v4 = 0) (z_ret (some (.long v1)))
       (z_ret (some (.long v3.toInt64)))) := rfl
theorem X7_joined_S4_2 (v1 : Int64) (v4 : Int32) (v3 : Int32) : X7_joined_S4 v1 v4 v3 2 = (z_ret (some (.long (v1 + v4.toInt64)))) := rfl
theorem X7_joined_S4_3 (v1 : Int64) (v4 : Int32) (v3 : Int32) : X7_joined_S4 v1 v4 v3 3 = (z_ret (some (.long (v1 + v4.toInt64)))) := rfl
theorem X7_joined_S4_4 (v1 : Int64) (v4 : Int32) (v3 : Int32) : X7_joined_S4 v1 v4 v3 4 = (z_if (v3 = 0) (z_ret (some (.long v4.toInt64)))
       (z_ret (some (.long (if v4.toInt64 < v1 then v1 else v4.toInt64))))) := rfl
theorem X12_isAllowed_S4_0 (v1 : Int32) : X12_isAllowed_S4 v1 0 = (z_if (6 ≤ v1) (z_rb 0)
       (z_rb 1)) := rfl
theorem X12_isAllowed_S4_1 (v1 : Int32) : X12_isAllowed_S4 v1 1 = (z_if (v1 < 2) (X12_isAllowed_J63)
       (z_ci (X12_isIn v1.toInt64 5 8) fun y3 => z_if (y3 = 0) (z_rb 0)
       (X12_isAllowed_J63))) := rfl
theorem X12_isAllowed_S4_2 (v1 : Int32) : X12_isAllowed_S4 v1 2 = (z_if (v1 < 2) (X12_isAllowed_J80)
       (z_if (v1 = 6) (X12_isAllowed_J80)
       (z_rb 0))) := rfl
theorem X12_qAsksWord_S1_0 (v0 : Nat) : X12_qAsksWord_S1 v0 0 = (z_gr 12 90 v0 fun x2 => z_rc 12 v0 (z_cv (X12_asks v0 x2) (z_ret none))) := rfl
theorem X12_qAsksWord_S1_1 (v0 : Nat) : X12_qAsksWord_S1 v0 1 = (z_gr 12 91 v0 fun x3 => z_rc 12 v0 (z_cv (X12_asks v0 x3) (z_ret none))) := rfl
theorem X12_qAsksWord_S1_2 (v0 : Nat) : X12_qAsksWord_S1 v0 2 = (z_gr 12 92 v0 fun x4 => z_rc 12 v0 (z_cv (X12_asks v0 x4) (z_ret none))) := rfl
theorem X12_qAsksWord_S1_3 (v0 : Nat) : X12_qAsksWord_S1 v0 3 = (z_gr 12 93 v0 fun x5 => z_rc 12 v0 (z_cv (X12_asks v0 x5) (z_ret none))) := rfl
theorem X12_qAsksWord_S1_4 (v0 : Nat) : X12_qAsksWord_S1 v0 4 = (z_gr 12 94 v0 fun x6 => z_rc 12 v0 (z_cv (X12_asks v0 x6) (z_ret none))) := rfl
theorem X12_qAsksWord_S1_5 (v0 : Nat) : X12_qAsksWord_S1 v0 5 = (z_gr 12 95 v0 fun x7 => z_rc 12 v0 (z_cv (X12_asks v0 x7) (z_ret none))) := rfl
theorem X12_qAsksWord_S1_6 (v0 : Nat) : X12_qAsksWord_S1 v0 6 = (z_gr 12 96 v0 fun x8 => z_rc 12 v0 (z_cv (X12_asks v0 x8) (z_ret none))) := rfl
theorem X12_qAsksWord_S1_7 (v0 : Nat) : X12_qAsksWord_S1 v0 7 = (z_gr 12 97 v0 fun x9 => z_rc 12 v0 (z_cv (X12_asks v0 x9) (z_ret none))) := rfl
theorem X12_qAsksWord_S1_8 (v0 : Nat) : X12_qAsksWord_S1 v0 8 = (z_gr 12 98 v0 fun x10 => z_rc 12 v0 (z_cv (X12_asks v0 x10) (z_ret none))) := rfl
theorem X12_qAsksWord_S1_9 (v0 : Nat) : X12_qAsksWord_S1 v0 9 = (z_gr 12 99 v0 fun x11 => z_rc 12 v0 (z_cv (X12_asks v0 x11) (z_ret none))) := rfl
theorem X12_qAsksWord_S1_10 (v0 : Nat) : X12_qAsksWord_S1 v0 10 = (z_gr 12 100 v0 fun x12 => z_rc 12 v0 (z_cv (X12_asks v0 x12) (z_ret none))) := rfl
theorem X12_qAsksWord_S1_11 (v0 : Nat) : X12_qAsksWord_S1 v0 11 = (z_gr 12 101 v0 fun x13 => z_rc 12 v0 (z_cv (X12_asks v0 x13) (z_ret none))) := rfl
theorem X12_qAsksWord_S1_12 (v0 : Nat) : X12_qAsksWord_S1 v0 12 = (z_gr 12 102 v0 fun x14 => z_rc 12 v0 (z_cv (X12_asks v0 x14) (z_ret none))) := rfl
theorem X12_qPartOf_S1_0 (v0 : Nat) : X12_qPartOf_S1 v0 0 = (z_gi 12 58 v0 fun x3 => z_ret (some (.long x3.toInt64))) := rfl
theorem X12_qPartOf_S1_1 (v0 : Nat) : X12_qPartOf_S1 v0 1 = (z_gr 12 52 v0 fun x4 => z_la 20 x4 0 fun x5 => z_ret (some (.long x5.toInt64))) := rfl
theorem X12_qPartOf_S1_2 (v0 : Nat) : X12_qPartOf_S1 v0 2 = (z_gi 12 57 v0 fun x6 => z_rc 12 v0 (z_ci (X12_handOf v0 x6 0) fun y7 => z_ret (some (.long y7.toInt64)))) := rfl
theorem X12_qPartOf_S1_3 (v0 : Nat) : X12_qPartOf_S1 v0 3 = (z_gi 12 57 v0 fun x8 => z_rc 12 v0 (z_ci (X12_handOf v0 x8 1) fun y9 => z_ret (some (.long y9.toInt64)))) := rfl
theorem X12_qPartOf_S1_4 (v0 : Nat) : X12_qPartOf_S1 v0 4 = (z_gi 12 57 v0 fun x10 => z_rc 12 v0 (z_ci (X12_handOf v0 x10 2) fun y11 => z_ret (some (.long y11.toInt64)))) := rfl
theorem X12_qPartOf_S1_5 (v0 : Nat) : X12_qPartOf_S1 v0 5 = (z_gi 12 59 v0 fun x12 => z_ret (some (.long x12.toInt64))) := rfl
theorem X12_qPartOf_S1_6 (v0 : Nat) : X12_qPartOf_S1 v0 6 = (z_gi 12 60 v0 fun x13 => z_ret (some (.long x13.toInt64))) := rfl
theorem X12_qPartOf_S1_7 (v0 : Nat) : X12_qPartOf_S1 v0 7 = (z_gr 12 52 v0 fun x14 => z_la 20 x14 1 fun x15 => z_ret (some (.long x15.toInt64))) := rfl
theorem X12_qPartOf_S1_8 (v0 : Nat) : X12_qPartOf_S1 v0 8 = (z_gi 12 56 v0 fun x16 => z_rc 12 v0 (z_ci (X12_waitedOf v0 x16) fun y17 => z_ret (some (.long y17.toInt64)))) := rfl
theorem X12_qPartOf_S1_9 (v0 : Nat) : X12_qPartOf_S1 v0 9 = (z_gi 12 56 v0 fun x18 => z_ret (some (.long x18.toInt64))) := rfl
theorem X12_qPartOf_S1_10 (v0 : Nat) : X12_qPartOf_S1 v0 10 = (z_gi 12 56 v0 fun x19 => z_rc 12 v0 (z_ci (X12_sideOf v0 x19) fun y20 => z_ret (some (.long y20.toInt64)))) := rfl
theorem X12_qJoins_S36_0 (x6 : Int64) (x3 : Int64) (v0 : Nat) : X12_qJoins_S36 x6 x3 v0 0 = (z_cl (X12_qClip (x6 + x3)) fun y8 => z_rc 12 v0 (z_cv (X12_qPuts v0 y8) (z_ret none))) := rfl
theorem X12_qJoins_S36_1 (x6 : Int64) (x3 : Int64) (v0 : Nat) : X12_qJoins_S36 x6 x3 v0 1 = (z_cl (X12_qClip (x6 - x3)) fun y9 => z_rc 12 v0 (z_cv (X12_qPuts v0 y9) (z_ret none))) := rfl
theorem X12_qJoins_S36_2 (x6 : Int64) (x3 : Int64) (v0 : Nat) : X12_qJoins_S36 x6 x3 v0 2 = (z_cl (X12_qClip (x6 * x3)) fun y10 => z_rc 12 v0 (z_cv (X12_qPuts v0 y10) (z_ret none))) := rfl
theorem X12_qJoins_S36_3 (x6 : Int64) (x3 : Int64) (v0 : Nat) : X12_qJoins_S36 x6 x3 v0 3 = (z_cl (X12_qFloor x6 x3) fun y11 => z_rc 12 v0 (z_cv (X12_qPuts v0 y11) (z_ret none))) := rfl
theorem X12_qJoins_S36_4 (x6 : Int64) (x3 : Int64) (v0 : Nat) : X12_qJoins_S36 x6 x3 v0 4 = (z_if (x6 < x3) (X12_qJoins_J161 x6 v0)
       (X12_qJoins_J161 x3 v0)) := rfl
theorem X12_qJoins_S36_5 (x6 : Int64) (x3 : Int64) (v0 : Nat) : X12_qJoins_S36 x6 x3 v0 5 = (z_if (x3 < x6) (X12_qJoins_J181 x6 v0)
       (X12_qJoins_J181 x3 v0)) := rfl
theorem X12_qJoins_S36_6 (x6 : Int64) (x3 : Int64) (v0 : Nat) : X12_qJoins_S36 x6 x3 v0 6 = (z_if (x6 < x3) (X12_qJoins_J200 1 v0)
       (X12_qJoins_J200 0 v0)) := rfl
theorem X12_qJoins_S36_7 (x6 : Int64) (x3 : Int64) (v0 : Nat) : X12_qJoins_S36 x6 x3 v0 7 = (z_if (x3 < x6) (X12_qJoins_J219 1 v0)
       (X12_qJoins_J219 0 v0)) := rfl
theorem X12_qJoins_S36_8 (x6 : Int64) (x3 : Int64) (v0 : Nat) : X12_qJoins_S36 x6 x3 v0 8 = (z_if (x6 = x3) (X12_qJoins_J238 1 v0)
       (X12_qJoins_J238 0 v0)) := rfl
theorem X12_qJoins_S36_9 (x6 : Int64) (x3 : Int64) (v0 : Nat) : X12_qJoins_S36 x6 x3 v0 9 = (z_rc 12 v0 (z_cv (X12_qPuts v0 (x6 * x3)) (z_ret none))) := rfl
theorem X12_has_S1_0 (v0 : Nat) (v1 : Int32) : X12_has_S1 v0 v1 0 = (X12_has_J56 v0 v1) := rfl
theorem X12_has_S1_1 (v0 : Nat) (v1 : Int32) : X12_has_S1 v0 v1 1 = (X12_has_J56 v0 v1) := rfl
theorem X12_has_S1_2 (v0 : Nat) (v1 : Int32) : X12_has_S1 v0 v1 2 = (X12_has_J56 v0 v1) := rfl
theorem X12_has_S1_3 (v0 : Nat) (v1 : Int32) : X12_has_S1 v0 v1 3 = (z_gr 12 52 v0 fun x1 => z_la 20 x1 0 fun x2 => z_ret (some (.int x2))) := rfl
theorem X12_has_S1_4 (v0 : Nat) (v1 : Int32) : X12_has_S1 v0 v1 4 = (z_gr 12 52 v0 fun x3 => z_la 20 x3 1 fun x4 => z_ret (some (.int x4))) := rfl
theorem X12_has_S1_5 (v0 : Nat) (v1 : Int32) : X12_has_S1 v0 v1 5 = (z_rc 12 v0 (z_ci (X12_roundMany v0) fun y5 => z_ret (some (.int y5)))) := rfl
theorem X12_has_S1_6 (v0 : Nat) (v1 : Int32) : X12_has_S1 v0 v1 6 = (z_rc 12 v0 (z_ci (X12_wedMany v0) fun y6 => z_ret (some (.int y6)))) := rfl
theorem X12_has_S1_7 (v0 : Nat) (v1 : Int32) : X12_has_S1 v0 v1 7 = (z_gr 12 52 v0 fun x7 => z_la 20 x7 182 fun x8 => z_ret (some (.int x8))) := rfl
theorem X12_has_S1_8 (v0 : Nat) (v1 : Int32) : X12_has_S1 v0 v1 8 = (z_gi 12 71 v0 fun x9 => z_ret (some (.int x9))) := rfl
theorem X12_has_S1_9 (v0 : Nat) (v1 : Int32) : X12_has_S1 v0 v1 9 = (z_gi 12 75 v0 fun x10 => z_ret (some (.int x10))) := rfl
theorem X12_person_S16_0 (v0 : Nat) (v1 : Int32) (v2 : Int32) : X12_person_S16 v0 v1 v2 0 = (X12_person_J60 v0 v1 v2) := rfl
theorem X12_person_S16_1 (v0 : Nat) (v1 : Int32) (v2 : Int32) : X12_person_S16 v0 v1 v2 1 = (X12_person_J60 v0 v1 v2) := rfl
theorem X12_person_S16_2 (v0 : Nat) (v1 : Int32) (v2 : Int32) : X12_person_S16 v0 v1 v2 2 = (X12_person_J60 v0 v1 v2) := rfl
theorem X12_person_S16_3 (v0 : Nat) (v1 : Int32) (v2 : Int32) : X12_person_S16 v0 v1 v2 3 = (z_rc 12 v0 (z_ci (X12_wedTo v0 v1) fun y2 => z_rc 12 v0 (z_ci (X12_toldOf v0 y2) fun y3 => z_ret (some (.int y3))))) := rfl
theorem X12_person_S16_4 (v0 : Nat) (v1 : Int32) (v2 : Int32) : X12_person_S16 v0 v1 v2 4 = (z_rc 12 v0 (z_ci (X12_waitedOf v0 v1) fun y4 => z_ret (some (.int y4)))) := rfl
theorem X12_person_S16_5 (v0 : Nat) (v1 : Int32) (v2 : Int32) : X12_person_S16 v0 v1 v2 5 = (z_rc 12 v0 (z_ci (X12_codeOf v0 v1) fun y5 => z_rc 12 v0 (z_ci (X12_placeOf v0 y5) fun y6 => z_ret (some (.int y6))))) := rfl
theorem X12_person_S16_6 (v0 : Nat) (v1 : Int32) (v2 : Int32) : X12_person_S16 v0 v1 v2 6 = (z_gr 12 61 v0 fun x7 => z_rc 12 v0 (z_ci (X12_codeOf v0 v1) fun y8 => z_la 20 x7 y8 fun x9 => z_rc 12 v0 (z_ci (X12_toldOf v0 x9) fun y10 => z_ret (some (.int y10))))) := rfl
theorem X12_pair_S14_0 (v0 : Nat) (v1 : Int32) (v2 : Int32) : X12_pair_S14 v0 v1 v2 0 = (z_rc 12 v0 (z_ci (X12_likingOf v0 v1 v2) fun y2 => z_ret (some (.int y2)))) := rfl
theorem X12_pair_S14_1 (v0 : Nat) (v1 : Int32) (v2 : Int32) : X12_pair_S14 v0 v1 v2 1 = (z_rc 12 v0 (z_ci (X12_knowingOf v0 v1 v2) fun y3 => z_ret (some (.int y3)))) := rfl
theorem X12_pair_S14_2 (v0 : Nat) (v1 : Int32) (v2 : Int32) : X12_pair_S14 v0 v1 v2 2 = (z_rc 12 v0 (z_ci (X12_codeOf v0 v1) fun y4 => z_rc 12 v0 (z_ci (X12_codeOf v0 v2) fun y5 => z_rc 12 v0 (z_ci (X12_feltBy v0 y4 y5) fun y6 => z_ret (some (.int y6)))))) := rfl
theorem X12_pair_S14_3 (v0 : Nat) (v1 : Int32) (v2 : Int32) : X12_pair_S14 v0 v1 v2 3 = (z_rc 12 v0 (z_ci (X12_codeOf v0 v1) fun y7 => z_rc 12 v0 (z_ci (X12_codeOf v0 v2) fun y8 => z_rc 12 v0 (z_ci (X12_doesLet v0 y7 y8) fun y9 => z_if (y9 = 0) (z_ret (some (.int 0)))
       (z_ret (some (.int 1))))))) := rfl
theorem X12_pair_S14_4 (v0 : Nat) (v1 : Int32) (v2 : Int32) : X12_pair_S14 v0 v1 v2 4 = (z_rc 12 v0 (z_ci (X12_codeOf v0 v1) fun y10 => z_rc 12 v0 (z_ci (X12_codeOf v0 v2) fun y11 => z_rc 12 v0 (z_ci (X12_areKin v0 y10 y11) fun y12 => z_if (y12 = 0) (z_ret (some (.int 0)))
       (z_ret (some (.int 1))))))) := rfl
