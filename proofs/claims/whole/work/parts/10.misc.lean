theorem zdk {cc : ByteArray} {T : List (Nat × Instr × Nat)} (hT : ∀ q ∈ T, decode cc q.1 = .ok q.2) (j : Nat) {q : Nat × Instr × Nat} (h : T[j]? = some q) : decode cc q.1 = .ok q.2 := hT q (List.mem_of_getElem? h)
def z_slen (a : Nat) (F : Int32 → zM) : zM := fun h => if zB ≤ a ∧ a < zB + 16 then F (Int32.ofNat (zs_len.getD (a - zB) 0)) h else none
def z_sch (a : Nat) (i : Int32) (F : Int32 → zM) : zM := fun h => if (zB ≤ a ∧ a < zB + 16) ∧ (0 ≤ i.toInt ∧ i.toInt < (zs_len.getD (a - zB) 0 : Nat)) then F ((zs_byt.getD (a - zB) []).getD i.toNatClampNeg 0) h else none
theorem dfX0 : ∀ j, j < 4 → defaultValue (cl_t 0 j) = zdef 0 j := by decide +kernel
theorem dfX1 : ∀ j, j < 12 → defaultValue (cl_t 1 j) = zdef 1 j := by decide +kernel
theorem dfX2 : ∀ j, j < 3 → defaultValue (cl_t 2 j) = zdef 2 j := by decide +kernel
theorem dfX3 : ∀ j, j < 5 → defaultValue (cl_t 3 j) = zdef 3 j := by decide +kernel
theorem dfX4 : ∀ j, j < 5 → defaultValue (cl_t 4 j) = zdef 4 j := by decide +kernel
theorem dfX5 : ∀ j, j < 4 → defaultValue (cl_t 5 j) = zdef 5 j := by decide +kernel
theorem dfX6 : ∀ j, j < 6 → defaultValue (cl_t 6 j) = zdef 6 j := by decide +kernel
theorem dfX7 : ∀ j, j < 5 → defaultValue (cl_t 7 j) = zdef 7 j := by decide +kernel
theorem dfX8 : ∀ j, j < 8 → defaultValue (cl_t 8 j) = zdef 8 j := by decide +kernel
theorem dfX9 : ∀ j, j < 5 → defaultValue (cl_t 9 j) = zdef 9 j := by decide +kernel
theorem dfX10 : ∀ j, j < 5 → defaultValue (cl_t 10 j) = zdef 10 j := by decide +kernel
theorem dfX11 : ∀ j, j < 20 → defaultValue (cl_t 11 j) = zdef 11 j := by decide +kernel
theorem dfX12 : ∀ j, j < 116 → defaultValue (cl_t 12 j) = zdef 12 j := by decide +kernel
theorem q_objc : Cond.code Lib.objectInit ⟨#[0xb1]⟩ 1 none ∈ tb := tb_of 175 rfl rfl
set_option maxRecDepth 20000 in
theorem q_imax : Cond.code Lib.Math.max.name Lib.Math.max.code 2 (some .int) ∈ tb := tb_of 963 rfl rfl
set_option maxRecDepth 20000 in
theorem q_imin : Cond.code Lib.Math.min.name Lib.Math.min.code 2 (some .int) ∈ tb := tb_of 925 rfl rfl
set_option maxRecDepth 20000 in
theorem q_lmax : Cond.code Lib.MathLoose.max_long.x Lib.MathLoose.max_long.code 4 (some .long) ∈ tb := tb_of 1322 rfl rfl
set_option maxRecDepth 20000 in
theorem q_lmin : Cond.code Lib.MathLoose.min_long.x Lib.MathLoose.min_long.code 4 (some .long) ∈ tb := tb_of 1325 rfl rfl
theorem fl_0_12 : zFL RX0 12 0 0 := ⟨_, rfl, by decide, q_461⟩
theorem fl_0_18 : zFL RX0 18 0 1 := ⟨_, rfl, by decide, q_463⟩
theorem fl_0_22 : zFL RX0 22 0 3 := ⟨_, rfl, by decide, q_466⟩
theorem fl_0_25 : zFL RX0 25 0 2 := ⟨_, rfl, by decide, q_465⟩
theorem fl_0_29 : zFL RX0 29 10 0 := ⟨_, rfl, by decide, q_434⟩
theorem fl_0_35 : zFL RX0 35 1 9 := ⟨_, rfl, by decide, q_331⟩
theorem fl_0_41 : zFL RX0 41 8 0 := ⟨_, rfl, by decide, q_376⟩
theorem fl_0_44 : zFL RX0 44 8 1 := ⟨_, rfl, by decide, q_381⟩
theorem fl_0_69 : zFL RX0 69 8 3 := ⟨_, rfl, by decide, q_390⟩
theorem fl_0_72 : zFL RX0 72 1 0 := ⟨_, rfl, by decide, q_298⟩
theorem fl_0_88 : zFL RX0 88 8 7 := ⟨_, rfl, by decide, q_408⟩
theorem fl_0_112 : zFL RX0 112 1 10 := ⟨_, rfl, by decide, q_338⟩
theorem fl_0_118 : zFL RX0 118 8 5 := ⟨_, rfl, by decide, q_399⟩
theorem fl_1_9 : zFL RX1 9 1 0 := ⟨_, rfl, by decide, q_294⟩
theorem fl_1_15 : zFL RX1 15 1 1 := ⟨_, rfl, by decide, q_301⟩
theorem fl_1_18 : zFL RX1 18 1 2 := ⟨_, rfl, by decide, q_304⟩
theorem fl_1_21 : zFL RX1 21 1 3 := ⟨_, rfl, by decide, q_309⟩
theorem fl_1_24 : zFL RX1 24 1 4 := ⟨_, rfl, by decide, q_314⟩
theorem fl_1_27 : zFL RX1 27 1 5 := ⟨_, rfl, by decide, q_319⟩
theorem fl_1_31 : zFL RX1 31 1 6 := ⟨_, rfl, by decide, q_321⟩
theorem fl_1_35 : zFL RX1 35 1 7 := ⟨_, rfl, by decide, q_324⟩
theorem fl_1_38 : zFL RX1 38 1 8 := ⟨_, rfl, by decide, q_327⟩
theorem fl_1_41 : zFL RX1 41 1 9 := ⟨_, rfl, by decide, q_330⟩
theorem fl_1_44 : zFL RX1 44 1 10 := ⟨_, rfl, by decide, q_336⟩
theorem fl_1_50 : zFL RX1 50 1 11 := ⟨_, rfl, by decide, q_340⟩
theorem fl_2_9 : zFL RX2 9 2 2 := ⟨_, rfl, by decide, q_278⟩
theorem fl_2_15 : zFL RX2 15 2 0 := ⟨_, rfl, by decide, q_276⟩
theorem fl_2_19 : zFL RX2 19 2 1 := ⟨_, rfl, by decide, q_277⟩
theorem fl_2_69 : zFL RX2 69 1 7 := ⟨_, rfl, by decide, q_326⟩
theorem fl_2_76 : zFL RX2 76 1 8 := ⟨_, rfl, by decide, q_329⟩
theorem fl_2_86 : zFL RX2 86 1 9 := ⟨_, rfl, by decide, q_332⟩
theorem fl_2_93 : zFL RX2 93 1 10 := ⟨_, rfl, by decide, q_337⟩
theorem fl_2_96 : zFL RX2 96 1 0 := ⟨_, rfl, by decide, q_297⟩
theorem fl_2_107 : zFL RX2 107 1 1 := ⟨_, rfl, by decide, q_302⟩
theorem fl_2_116 : zFL RX2 116 1 2 := ⟨_, rfl, by decide, q_306⟩
theorem fl_2_120 : zFL RX2 120 1 3 := ⟨_, rfl, by decide, q_311⟩
theorem fl_2_124 : zFL RX2 124 1 4 := ⟨_, rfl, by decide, q_316⟩
theorem fl_2_138 : zFL RX2 138 1 5 := ⟨_, rfl, by decide, q_320⟩
theorem fl_2_145 : zFL RX2 145 1 6 := ⟨_, rfl, by decide, q_322⟩
theorem fl_2_148 : zFL RX2 148 1 11 := ⟨_, rfl, by decide, q_342⟩
theorem fl_3_9 : zFL RX3 9 3 0 := ⟨_, rfl, by decide, q_213⟩
theorem fl_3_15 : zFL RX3 15 3 1 := ⟨_, rfl, by decide, q_214⟩
theorem fl_3_19 : zFL RX3 19 3 2 := ⟨_, rfl, by decide, q_215⟩
theorem fl_3_22 : zFL RX3 22 3 3 := ⟨_, rfl, by decide, q_216⟩
theorem fl_3_25 : zFL RX3 25 3 4 := ⟨_, rfl, by decide, q_217⟩
theorem fl_4_11 : zFL RX4 11 4 2 := ⟨_, rfl, by decide, q_238⟩
theorem fl_4_17 : zFL RX4 17 4 3 := ⟨_, rfl, by decide, q_239⟩
theorem fl_4_21 : zFL RX4 21 4 4 := ⟨_, rfl, by decide, q_240⟩
theorem fl_4_25 : zFL RX4 25 4 0 := ⟨_, rfl, by decide, q_236⟩
theorem fl_4_29 : zFL RX4 29 4 1 := ⟨_, rfl, by decide, q_237⟩
theorem fl_5_9 : zFL RX5 9 5 0 := ⟨_, rfl, by decide, q_482⟩
theorem fl_5_15 : zFL RX5 15 5 1 := ⟨_, rfl, by decide, q_484⟩
theorem fl_5_18 : zFL RX5 18 5 2 := ⟨_, rfl, by decide, q_486⟩
theorem fl_5_21 : zFL RX5 21 5 3 := ⟨_, rfl, by decide, q_487⟩
theorem fl_5_30 : zFL RX5 30 1 0 := ⟨_, rfl, by decide, q_295⟩
theorem fl_5_53 : zFL RX5 53 8 6 := ⟨_, rfl, by decide, q_401⟩
theorem fl_5_69 : zFL RX5 69 8 3 := ⟨_, rfl, by decide, q_391⟩
theorem fl_6_9 : zFL RX6 9 6 0 := ⟨_, rfl, by decide, q_506⟩
theorem fl_6_15 : zFL RX6 15 6 1 := ⟨_, rfl, by decide, q_508⟩
theorem fl_6_20 : zFL RX6 20 6 2 := ⟨_, rfl, by decide, q_509⟩
theorem fl_6_24 : zFL RX6 24 6 3 := ⟨_, rfl, by decide, q_510⟩
theorem fl_6_28 : zFL RX6 28 6 4 := ⟨_, rfl, by decide, q_511⟩
theorem fl_6_31 : zFL RX6 31 6 5 := ⟨_, rfl, by decide, q_512⟩
theorem fl_7_12 : zFL RX7 12 7 1 := ⟨_, rfl, by decide, q_254⟩
theorem fl_7_18 : zFL RX7 18 7 3 := ⟨_, rfl, by decide, q_257⟩
theorem fl_7_22 : zFL RX7 22 7 4 := ⟨_, rfl, by decide, q_258⟩
theorem fl_7_26 : zFL RX7 26 7 0 := ⟨_, rfl, by decide, q_253⟩
theorem fl_7_35 : zFL RX7 35 7 2 := ⟨_, rfl, by decide, q_255⟩
theorem fl_7_116 : zFL RX7 116 1 2 := ⟨_, rfl, by decide, q_307⟩
theorem fl_7_119 : zFL RX7 119 1 3 := ⟨_, rfl, by decide, q_312⟩
theorem fl_7_122 : zFL RX7 122 1 4 := ⟨_, rfl, by decide, q_317⟩
theorem fl_7_125 : zFL RX7 125 8 4 := ⟨_, rfl, by decide, q_395⟩
theorem fl_7_130 : zFL RX7 130 8 3 := ⟨_, rfl, by decide, q_389⟩
theorem fl_7_133 : zFL RX7 133 8 0 := ⟨_, rfl, by decide, q_378⟩
theorem fl_7_136 : zFL RX7 136 8 1 := ⟨_, rfl, by decide, q_383⟩
theorem fl_7_143 : zFL RX7 143 8 6 := ⟨_, rfl, by decide, q_403⟩
theorem fl_7_149 : zFL RX7 149 8 7 := ⟨_, rfl, by decide, q_407⟩
theorem fl_8_9 : zFL RX8 9 8 0 := ⟨_, rfl, by decide, q_375⟩
theorem fl_8_15 : zFL RX8 15 8 1 := ⟨_, rfl, by decide, q_380⟩
theorem fl_8_18 : zFL RX8 18 8 2 := ⟨_, rfl, by decide, q_385⟩
theorem fl_8_22 : zFL RX8 22 8 3 := ⟨_, rfl, by decide, q_387⟩
theorem fl_8_25 : zFL RX8 25 8 4 := ⟨_, rfl, by decide, q_393⟩
theorem fl_8_28 : zFL RX8 28 8 5 := ⟨_, rfl, by decide, q_397⟩
theorem fl_8_31 : zFL RX8 31 8 6 := ⟨_, rfl, by decide, q_400⟩
theorem fl_8_34 : zFL RX8 34 8 7 := ⟨_, rfl, by decide, q_405⟩
theorem fl_8_37 : zFL RX8 37 1 4 := ⟨_, rfl, by decide, q_315⟩
theorem fl_8_40 : zFL RX8 40 1 7 := ⟨_, rfl, by decide, q_325⟩
theorem fl_8_47 : zFL RX8 47 1 8 := ⟨_, rfl, by decide, q_328⟩
theorem fl_8_56 : zFL RX8 56 1 0 := ⟨_, rfl, by decide, q_299⟩
theorem fl_8_77 : zFL RX8 77 1 9 := ⟨_, rfl, by decide, q_335⟩
theorem fl_9_9 : zFL RX9 9 9 1 := ⟨_, rfl, by decide, q_183⟩
theorem fl_9_15 : zFL RX9 15 9 2 := ⟨_, rfl, by decide, q_184⟩
theorem fl_9_18 : zFL RX9 18 9 3 := ⟨_, rfl, by decide, q_185⟩
theorem fl_9_21 : zFL RX9 21 9 4 := ⟨_, rfl, by decide, q_187⟩
theorem fl_9_24 : zFL RX9 24 9 0 := ⟨_, rfl, by decide, q_182⟩
theorem fl_10_9 : zFL RX10 9 10 1 := ⟨_, rfl, by decide, q_436⟩
theorem fl_10_15 : zFL RX10 15 10 2 := ⟨_, rfl, by decide, q_438⟩
theorem fl_10_18 : zFL RX10 18 10 3 := ⟨_, rfl, by decide, q_440⟩
theorem fl_10_21 : zFL RX10 21 10 4 := ⟨_, rfl, by decide, q_441⟩
theorem fl_10_24 : zFL RX10 24 10 0 := ⟨_, rfl, by decide, q_433⟩
theorem fl_10_44 : zFL RX10 44 8 1 := ⟨_, rfl, by decide, q_382⟩
theorem fl_10_50 : zFL RX10 50 1 0 := ⟨_, rfl, by decide, q_296⟩
theorem fl_10_55 : zFL RX10 55 8 2 := ⟨_, rfl, by decide, q_386⟩
theorem fl_10_58 : zFL RX10 58 8 3 := ⟨_, rfl, by decide, q_388⟩
theorem fl_10_61 : zFL RX10 61 8 7 := ⟨_, rfl, by decide, q_406⟩
theorem fl_10_67 : zFL RX10 67 8 0 := ⟨_, rfl, by decide, q_377⟩
theorem fl_10_70 : zFL RX10 70 8 6 := ⟨_, rfl, by decide, q_402⟩
theorem fl_10_73 : zFL RX10 73 1 2 := ⟨_, rfl, by decide, q_305⟩
theorem fl_10_76 : zFL RX10 76 1 3 := ⟨_, rfl, by decide, q_310⟩
theorem fl_10_79 : zFL RX10 79 8 5 := ⟨_, rfl, by decide, q_398⟩
theorem fl_10_82 : zFL RX10 82 8 4 := ⟨_, rfl, by decide, q_394⟩
theorem fl_10_85 : zFL RX10 85 1 11 := ⟨_, rfl, by decide, q_341⟩
theorem fl_10_121 : zFL RX10 121 1 9 := ⟨_, rfl, by decide, q_333⟩
theorem fl_11_9 : zFL RX11 9 11 0 := ⟨_, rfl, by decide, q_557⟩
theorem fl_11_13 : zFL RX11 13 11 1 := ⟨_, rfl, by decide, q_558⟩
theorem fl_11_22 : zFL RX11 22 11 2 := ⟨_, rfl, by decide, q_559⟩
theorem fl_11_31 : zFL RX11 31 11 3 := ⟨_, rfl, by decide, q_560⟩
theorem fl_11_37 : zFL RX11 37 7 2 := ⟨_, rfl, by decide, q_256⟩
theorem fl_11_44 : zFL RX11 44 11 4 := ⟨_, rfl, by decide, q_561⟩
theorem fl_11_51 : zFL RX11 51 11 5 := ⟨_, rfl, by decide, q_562⟩
theorem fl_11_55 : zFL RX11 55 11 6 := ⟨_, rfl, by decide, q_563⟩
theorem fl_11_61 : zFL RX11 61 11 7 := ⟨_, rfl, by decide, q_564⟩
theorem fl_11_70 : zFL RX11 70 11 8 := ⟨_, rfl, by decide, q_565⟩
theorem fl_11_79 : zFL RX11 79 11 9 := ⟨_, rfl, by decide, q_566⟩
theorem fl_11_86 : zFL RX11 86 11 10 := ⟨_, rfl, by decide, q_567⟩
theorem fl_11_93 : zFL RX11 93 11 11 := ⟨_, rfl, by decide, q_568⟩
theorem fl_11_97 : zFL RX11 97 11 12 := ⟨_, rfl, by decide, q_569⟩
theorem fl_11_100 : zFL RX11 100 11 13 := ⟨_, rfl, by decide, q_570⟩
theorem fl_11_103 : zFL RX11 103 11 14 := ⟨_, rfl, by decide, q_571⟩
theorem fl_11_106 : zFL RX11 106 11 15 := ⟨_, rfl, by decide, q_572⟩
theorem fl_11_109 : zFL RX11 109 11 16 := ⟨_, rfl, by decide, q_573⟩
theorem fl_11_112 : zFL RX11 112 11 17 := ⟨_, rfl, by decide, q_574⟩
theorem fl_11_115 : zFL RX11 115 11 18 := ⟨_, rfl, by decide, q_575⟩
theorem fl_11_118 : zFL RX11 118 11 19 := ⟨_, rfl, by decide, q_576⟩
theorem fl_11_150 : zFL RX11 150 10 0 := ⟨_, rfl, by decide, q_435⟩
theorem fl_11_154 : zFL RX11 154 9 3 := ⟨_, rfl, by decide, q_186⟩
theorem fl_11_157 : zFL RX11 157 9 4 := ⟨_, rfl, by decide, q_188⟩
theorem fl_11_160 : zFL RX11 160 1 0 := ⟨_, rfl, by decide, q_300⟩
theorem fl_11_163 : zFL RX11 163 1 6 := ⟨_, rfl, by decide, q_323⟩
theorem fl_11_166 : zFL RX11 166 8 0 := ⟨_, rfl, by decide, q_379⟩
theorem fl_11_169 : zFL RX11 169 8 1 := ⟨_, rfl, by decide, q_384⟩
theorem fl_11_172 : zFL RX11 172 1 9 := ⟨_, rfl, by decide, q_334⟩
theorem fl_11_181 : zFL RX11 181 6 0 := ⟨_, rfl, by decide, q_507⟩
theorem fl_11_187 : zFL RX11 187 1 1 := ⟨_, rfl, by decide, q_303⟩
theorem fl_11_190 : zFL RX11 190 1 2 := ⟨_, rfl, by decide, q_308⟩
theorem fl_11_193 : zFL RX11 193 1 3 := ⟨_, rfl, by decide, q_313⟩
theorem fl_11_196 : zFL RX11 196 1 4 := ⟨_, rfl, by decide, q_318⟩
theorem fl_11_199 : zFL RX11 199 8 3 := ⟨_, rfl, by decide, q_392⟩
theorem fl_11_205 : zFL RX11 205 8 4 := ⟨_, rfl, by decide, q_396⟩
theorem fl_11_218 : zFL RX11 218 10 1 := ⟨_, rfl, by decide, q_437⟩
theorem fl_11_224 : zFL RX11 224 8 6 := ⟨_, rfl, by decide, q_404⟩
theorem fl_11_230 : zFL RX11 230 8 7 := ⟨_, rfl, by decide, q_409⟩
theorem fl_11_264 : zFL RX11 264 5 0 := ⟨_, rfl, by decide, q_483⟩
theorem fl_11_274 : zFL RX11 274 5 1 := ⟨_, rfl, by decide, q_485⟩
theorem fl_11_284 : zFL RX11 284 0 1 := ⟨_, rfl, by decide, q_464⟩
theorem fl_11_314 : zFL RX11 314 1 10 := ⟨_, rfl, by decide, q_339⟩
theorem fl_11_320 : zFL RX11 320 10 2 := ⟨_, rfl, by decide, q_439⟩
theorem fl_11_362 : zFL RX11 362 0 0 := ⟨_, rfl, by decide, q_462⟩
theorem fl_12_7 : zFL RX12 7 12 0 := ⟨_, rfl, by decide, q_1386⟩
theorem fl_12_13 : zFL RX12 13 12 8 := ⟨_, rfl, by decide, q_1394⟩
theorem fl_12_17 : zFL RX12 17 12 9 := ⟨_, rfl, by decide, q_1395⟩
theorem fl_12_20 : zFL RX12 20 12 11 := ⟨_, rfl, by decide, q_1397⟩
theorem fl_12_24 : zFL RX12 24 12 12 := ⟨_, rfl, by decide, q_1398⟩
theorem fl_12_27 : zFL RX12 27 12 13 := ⟨_, rfl, by decide, q_1399⟩
theorem fl_12_30 : zFL RX12 30 12 14 := ⟨_, rfl, by decide, q_1400⟩
theorem fl_12_33 : zFL RX12 33 12 15 := ⟨_, rfl, by decide, q_1401⟩
theorem fl_12_36 : zFL RX12 36 12 16 := ⟨_, rfl, by decide, q_1402⟩
theorem fl_12_39 : zFL RX12 39 12 17 := ⟨_, rfl, by decide, q_1403⟩
theorem fl_12_42 : zFL RX12 42 12 18 := ⟨_, rfl, by decide, q_1404⟩
theorem fl_12_45 : zFL RX12 45 12 19 := ⟨_, rfl, by decide, q_1405⟩
theorem fl_12_48 : zFL RX12 48 12 20 := ⟨_, rfl, by decide, q_1406⟩
theorem fl_12_51 : zFL RX12 51 12 21 := ⟨_, rfl, by decide, q_1407⟩
theorem fl_12_54 : zFL RX12 54 12 22 := ⟨_, rfl, by decide, q_1408⟩
theorem fl_12_57 : zFL RX12 57 12 23 := ⟨_, rfl, by decide, q_1409⟩
theorem fl_12_60 : zFL RX12 60 12 24 := ⟨_, rfl, by decide, q_1410⟩
theorem fl_12_63 : zFL RX12 63 12 25 := ⟨_, rfl, by decide, q_1411⟩
theorem fl_12_66 : zFL RX12 66 12 26 := ⟨_, rfl, by decide, q_1412⟩
theorem fl_12_69 : zFL RX12 69 12 27 := ⟨_, rfl, by decide, q_1413⟩
theorem fl_12_72 : zFL RX12 72 12 28 := ⟨_, rfl, by decide, q_1414⟩
theorem fl_12_75 : zFL RX12 75 12 29 := ⟨_, rfl, by decide, q_1415⟩
theorem fl_12_78 : zFL RX12 78 12 30 := ⟨_, rfl, by decide, q_1416⟩
theorem fl_12_81 : zFL RX12 81 12 31 := ⟨_, rfl, by decide, q_1417⟩
theorem fl_12_84 : zFL RX12 84 12 32 := ⟨_, rfl, by decide, q_1418⟩
theorem fl_12_87 : zFL RX12 87 12 33 := ⟨_, rfl, by decide, q_1419⟩
theorem fl_12_90 : zFL RX12 90 12 34 := ⟨_, rfl, by decide, q_1420⟩
theorem fl_12_93 : zFL RX12 93 12 35 := ⟨_, rfl, by decide, q_1421⟩
theorem fl_12_96 : zFL RX12 96 12 36 := ⟨_, rfl, by decide, q_1422⟩
theorem fl_12_99 : zFL RX12 99 12 37 := ⟨_, rfl, by decide, q_1423⟩
theorem fl_12_102 : zFL RX12 102 12 38 := ⟨_, rfl, by decide, q_1424⟩
theorem fl_12_105 : zFL RX12 105 12 40 := ⟨_, rfl, by decide, q_1426⟩
theorem fl_12_108 : zFL RX12 108 12 41 := ⟨_, rfl, by decide, q_1427⟩
theorem fl_12_112 : zFL RX12 112 12 42 := ⟨_, rfl, by decide, q_1428⟩
theorem fl_12_115 : zFL RX12 115 12 43 := ⟨_, rfl, by decide, q_1429⟩
theorem fl_12_119 : zFL RX12 119 12 44 := ⟨_, rfl, by decide, q_1430⟩
theorem fl_12_122 : zFL RX12 122 12 45 := ⟨_, rfl, by decide, q_1431⟩
theorem fl_12_125 : zFL RX12 125 12 46 := ⟨_, rfl, by decide, q_1432⟩
theorem fl_12_128 : zFL RX12 128 12 47 := ⟨_, rfl, by decide, q_1433⟩
theorem fl_12_131 : zFL RX12 131 12 48 := ⟨_, rfl, by decide, q_1434⟩
theorem fl_12_134 : zFL RX12 134 12 52 := ⟨_, rfl, by decide, q_1438⟩
theorem fl_12_137 : zFL RX12 137 12 54 := ⟨_, rfl, by decide, q_1440⟩
theorem fl_12_140 : zFL RX12 140 12 61 := ⟨_, rfl, by decide, q_1447⟩
theorem fl_12_143 : zFL RX12 143 12 62 := ⟨_, rfl, by decide, q_1448⟩
theorem fl_12_146 : zFL RX12 146 12 65 := ⟨_, rfl, by decide, q_1451⟩
theorem fl_12_149 : zFL RX12 149 12 66 := ⟨_, rfl, by decide, q_1452⟩
theorem fl_12_152 : zFL RX12 152 12 67 := ⟨_, rfl, by decide, q_1453⟩
theorem fl_12_155 : zFL RX12 155 12 68 := ⟨_, rfl, by decide, q_1454⟩
theorem fl_12_158 : zFL RX12 158 12 69 := ⟨_, rfl, by decide, q_1455⟩
theorem fl_12_161 : zFL RX12 161 12 70 := ⟨_, rfl, by decide, q_1456⟩
theorem fl_12_164 : zFL RX12 164 12 72 := ⟨_, rfl, by decide, q_1458⟩
theorem fl_12_167 : zFL RX12 167 12 73 := ⟨_, rfl, by decide, q_1459⟩
theorem fl_12_170 : zFL RX12 170 12 74 := ⟨_, rfl, by decide, q_1460⟩
theorem fl_12_173 : zFL RX12 173 12 77 := ⟨_, rfl, by decide, q_1463⟩
theorem fl_12_177 : zFL RX12 177 12 78 := ⟨_, rfl, by decide, q_1464⟩
theorem fl_12_180 : zFL RX12 180 12 79 := ⟨_, rfl, by decide, q_1465⟩
theorem fl_12_183 : zFL RX12 183 12 80 := ⟨_, rfl, by decide, q_1466⟩
theorem fl_12_186 : zFL RX12 186 12 81 := ⟨_, rfl, by decide, q_1467⟩
theorem fl_12_189 : zFL RX12 189 12 82 := ⟨_, rfl, by decide, q_1468⟩
theorem fl_12_192 : zFL RX12 192 12 83 := ⟨_, rfl, by decide, q_1469⟩
theorem fl_12_195 : zFL RX12 195 12 84 := ⟨_, rfl, by decide, q_1470⟩
theorem fl_12_198 : zFL RX12 198 12 85 := ⟨_, rfl, by decide, q_1471⟩
theorem fl_12_201 : zFL RX12 201 12 86 := ⟨_, rfl, by decide, q_1472⟩
theorem fl_12_204 : zFL RX12 204 12 87 := ⟨_, rfl, by decide, q_1473⟩
theorem fl_12_207 : zFL RX12 207 12 88 := ⟨_, rfl, by decide, q_1474⟩
theorem fl_12_210 : zFL RX12 210 12 89 := ⟨_, rfl, by decide, q_1475⟩
theorem fl_12_213 : zFL RX12 213 12 90 := ⟨_, rfl, by decide, q_1476⟩
theorem fl_12_216 : zFL RX12 216 12 91 := ⟨_, rfl, by decide, q_1477⟩
theorem fl_12_219 : zFL RX12 219 12 92 := ⟨_, rfl, by decide, q_1478⟩
theorem fl_12_222 : zFL RX12 222 12 93 := ⟨_, rfl, by decide, q_1479⟩
theorem fl_12_225 : zFL RX12 225 12 94 := ⟨_, rfl, by decide, q_1480⟩
theorem fl_12_228 : zFL RX12 228 12 95 := ⟨_, rfl, by decide, q_1481⟩
theorem fl_12_231 : zFL RX12 231 12 96 := ⟨_, rfl, by decide, q_1482⟩
theorem fl_12_234 : zFL RX12 234 12 97 := ⟨_, rfl, by decide, q_1483⟩
theorem fl_12_237 : zFL RX12 237 12 98 := ⟨_, rfl, by decide, q_1484⟩
theorem fl_12_240 : zFL RX12 240 12 99 := ⟨_, rfl, by decide, q_1485⟩
theorem fl_12_243 : zFL RX12 243 12 100 := ⟨_, rfl, by decide, q_1486⟩
theorem fl_12_246 : zFL RX12 246 12 101 := ⟨_, rfl, by decide, q_1487⟩
theorem fl_12_249 : zFL RX12 249 12 102 := ⟨_, rfl, by decide, q_1488⟩
theorem fl_12_252 : zFL RX12 252 12 103 := ⟨_, rfl, by decide, q_1489⟩
theorem fl_12_255 : zFL RX12 255 12 104 := ⟨_, rfl, by decide, q_1490⟩
theorem fl_12_258 : zFL RX12 258 12 106 := ⟨_, rfl, by decide, q_1492⟩
theorem fl_12_261 : zFL RX12 261 12 110 := ⟨_, rfl, by decide, q_1496⟩
theorem fl_12_264 : zFL RX12 264 12 114 := ⟨_, rfl, by decide, q_1500⟩
theorem fl_12_267 : zFL RX12 267 12 1 := ⟨_, rfl, by decide, q_1387⟩
theorem fl_12_270 : zFL RX12 270 12 5 := ⟨_, rfl, by decide, q_1391⟩
theorem fl_12_273 : zFL RX12 273 12 6 := ⟨_, rfl, by decide, q_1392⟩
theorem fl_12_276 : zFL RX12 276 12 2 := ⟨_, rfl, by decide, q_1388⟩
theorem fl_12_279 : zFL RX12 279 12 3 := ⟨_, rfl, by decide, q_1389⟩
theorem fl_12_290 : zFL RX12 290 12 4 := ⟨_, rfl, by decide, q_1390⟩
theorem fl_12_310 : zFL RX12 310 12 10 := ⟨_, rfl, by decide, q_1396⟩
theorem fl_12_321 : zFL RX12 321 12 39 := ⟨_, rfl, by decide, q_1425⟩
theorem fl_12_328 : zFL RX12 328 12 51 := ⟨_, rfl, by decide, q_1437⟩
theorem fl_12_353 : zFL RX12 353 12 105 := ⟨_, rfl, by decide, q_1491⟩
theorem fl_12_356 : zFL RX12 356 12 107 := ⟨_, rfl, by decide, q_1493⟩
theorem fl_12_359 : zFL RX12 359 12 108 := ⟨_, rfl, by decide, q_1494⟩
theorem fl_12_362 : zFL RX12 362 12 109 := ⟨_, rfl, by decide, q_1495⟩
theorem fl_12_371 : zFL RX12 371 12 49 := ⟨_, rfl, by decide, q_1435⟩
theorem fl_12_374 : zFL RX12 374 12 50 := ⟨_, rfl, by decide, q_1436⟩
theorem fl_12_397 : zFL RX12 397 12 7 := ⟨_, rfl, by decide, q_1393⟩
theorem fl_12_406 : zFL RX12 406 12 53 := ⟨_, rfl, by decide, q_1439⟩
theorem fl_12_410 : zFL RX12 410 12 75 := ⟨_, rfl, by decide, q_1461⟩
theorem fl_12_413 : zFL RX12 413 12 71 := ⟨_, rfl, by decide, q_1457⟩
theorem fl_12_438 : zFL RX12 438 12 55 := ⟨_, rfl, by decide, q_1441⟩
theorem fl_12_441 : zFL RX12 441 12 111 := ⟨_, rfl, by decide, q_1497⟩
theorem fl_12_458 : zFL RX12 458 12 56 := ⟨_, rfl, by decide, q_1442⟩
theorem fl_12_461 : zFL RX12 461 12 57 := ⟨_, rfl, by decide, q_1443⟩
theorem fl_12_464 : zFL RX12 464 12 58 := ⟨_, rfl, by decide, q_1444⟩
theorem fl_12_467 : zFL RX12 467 12 59 := ⟨_, rfl, by decide, q_1445⟩
theorem fl_12_487 : zFL RX12 487 12 60 := ⟨_, rfl, by decide, q_1446⟩
theorem fl_12_493 : zFL RX12 493 12 64 := ⟨_, rfl, by decide, q_1450⟩
theorem fl_12_500 : zFL RX12 500 12 63 := ⟨_, rfl, by decide, q_1449⟩
theorem fl_12_607 : zFL RX12 607 12 76 := ⟨_, rfl, by decide, q_1462⟩
theorem fl_12_703 : zFL RX12 703 12 112 := ⟨_, rfl, by decide, q_1498⟩
theorem fl_12_708 : zFL RX12 708 12 113 := ⟨_, rfl, by decide, q_1499⟩
theorem fl_12_723 : zFL RX12 723 12 115 := ⟨_, rfl, by decide, q_1501⟩
section ZR7
variable {l : Launch} {d rc rs : Nat} {mi : zI} {pc : Nat} {L : List (Nat × Value)} {S : List Value} {f g : zM}
theorem zco_look1 {x : Int32} {dflt v o1 : Int} {len t1 t0 : Nat} (hd : decode mi.2.1 pc = .ok (.lookupswitch dflt #[(v, o1)], len)) (h1 : (pc : Int) + o1 = (t1 : Int)) (h0 : (pc : Int) + dflt = (t0 : Int)) (k1 : zCo l d rc rs mi t1 L S f) (k2 : zCo l d rc rs mi t0 L S g) : zCo l d rc rs mi pc L (.int x :: S) (z_if (x.toInt = v) f g) := by
  intro G h r h2 hf p e s m args below meth cd H locs cells slots R ls Fx hR hP hS hl
  obtain ⟨hx, hb, hml, hr, hown, hlocks, hin, hts, hK, hX, hB⟩ := id Fx
  unfold z_if at hf
  by_cases hq : x.toInt = v
  · rw [if_pos hq] at hf
    exact lv_lookup (off := o1) hx hb hd (by simp) (by simp [Op.lookupswitch.offset, hq]) h1 (k1 G h r h2 hf p e s m args below meth cd H locs cells slots R ls Fx hR hP hS hl)
  · rw [if_neg hq] at hf
    exact lv_lookup (off := dflt) hx hb hd (by simp) (by simp [Op.lookupswitch.offset]; exact fun e => absurd e.symm hq) h0 (k2 G h r h2 hf p e s m args below meth cd H locs cells slots R ls Fx hR hP hS hl)
theorem zco_ldcw {v : Int32} {idx : Nat} (hc : Cond.constant mi.1 idx v ∈ tb) (hd : decode mi.2.1 pc = .ok (.ldc_w idx, 3)) (kk : zCo l d rc rs mi (pc + 3) L (.int v :: S) f) : zCo l d rc rs mi pc L S f := by
  intro G h r h2 hf p e s m args below meth cd H locs cells slots R ls Fx hR hP hS hl
  obtain ⟨hx, hb, hml, hr, hown, hlocks, hin, hts, hK, hX, hB⟩ := id Fx
  exact lv_ldcw hx hb hown (hts _ hc) hd (kk G h r h2 hf p e s m args below meth cd H locs cells slots R ls Fx hR hP hS hl)
theorem zco_slen {F : Int32 → zM} {a idx : Nat} (hd1 : 8 ≤ d) (hlk : Cond.methodLink mi.1 idx ⟨"java/lang/String", "length", "()I"⟩ ∈ tb) (hw : (S.map fun v => v.category).sum ≤ 8) (hd : decode mi.2.1 pc = .ok (.invokevirtual idx, 3)) (kk : ∀ x : Int32, zCo l d rc rs mi (pc + 3) L (.int x :: S) (F x)) : zCo l d rc rs mi pc L (.ref a :: S) (z_slen a F) := sorry
theorem zco_sch {F : Int32 → zM} {a idx : Nat} {i : Int32} (hd1 : 8 ≤ d) (hlk : Cond.methodLink mi.1 idx ⟨"java/lang/String", "charAt", "(I)C"⟩ ∈ tb) (hw : (S.map fun v => v.category).sum ≤ 8) (hd : decode mi.2.1 pc = .ok (.invokevirtual idx, 3)) (kk : ∀ x : Int32, zCo l d rc rs mi (pc + 3) L (.int x :: S) (F x)) : zCo l d rc rs mi pc L (.int i :: .ref a :: S) (z_sch a i F) := sorry
end ZR7
