theorem qlay_4 : ∀ w ∈ u_ws RX1 TX1 9, w ∈ ql_W := by
  show ∀ w ∈ [u_lay RX1 TX1 0, u_lay RX1 TX1 1, u_lay RX1 TX1 2, u_lay RX1 TX1 3, u_lay RX1 TX1 4, u_lay RX1 TX1 5, u_lay RX1 TX1 6, u_lay RX1 TX1 7, u_lay RX1 TX1 8], w ∈ ql_W
  exact List.forall_mem_cons.mpr ⟨gw_183, List.forall_mem_cons.mpr ⟨gw_185, List.forall_mem_cons.mpr ⟨gw_187, List.forall_mem_cons.mpr ⟨gw_189, List.forall_mem_cons.mpr ⟨gw_191, List.forall_mem_cons.mpr ⟨gw_193, List.forall_mem_cons.mpr ⟨gw_195, List.forall_mem_cons.mpr ⟨gw_197, List.forall_mem_cons.mpr ⟨gw_199, fun _ h => nomatch h⟩⟩⟩⟩⟩⟩⟩⟩⟩
theorem qlay_5 : ∀ w ∈ u_ws RX2 TX2 3, w ∈ ql_W := by
  show ∀ w ∈ [u_lay RX2 TX2 0, u_lay RX2 TX2 1, u_lay RX2 TX2 2], w ∈ ql_W
  exact List.forall_mem_cons.mpr ⟨gw_341, List.forall_mem_cons.mpr ⟨gw_343, List.forall_mem_cons.mpr ⟨gw_345, fun _ h => nomatch h⟩⟩⟩
theorem qlay_6 : ∀ w ∈ u_ws RX3 TX3 8, w ∈ ql_W := by
  show ∀ w ∈ [u_lay RX3 TX3 0, u_lay RX3 TX3 1, u_lay RX3 TX3 2, u_lay RX3 TX3 3, u_lay RX3 TX3 4, u_lay RX3 TX3 5, u_lay RX3 TX3 6, u_lay RX3 TX3 7], w ∈ ql_W
  exact List.forall_mem_cons.mpr ⟨gw_147, List.forall_mem_cons.mpr ⟨gw_149, List.forall_mem_cons.mpr ⟨gw_151, List.forall_mem_cons.mpr ⟨gw_153, List.forall_mem_cons.mpr ⟨gw_155, List.forall_mem_cons.mpr ⟨gw_157, List.forall_mem_cons.mpr ⟨gw_159, List.forall_mem_cons.mpr ⟨gw_161, fun _ h => nomatch h⟩⟩⟩⟩⟩⟩⟩⟩
theorem qlay_8 : ∀ w ∈ u_ws RX5 TX5 1, w ∈ ql_W := by
  show ∀ w ∈ [u_lay RX5 TX5 0], w ∈ ql_W
  exact List.forall_mem_cons.mpr ⟨gw_316, fun _ h => nomatch h⟩
theorem qlay_9 : ∀ w ∈ u_ws RX6 TX6 4, w ∈ ql_W := by
  show ∀ w ∈ [u_lay RX6 TX6 0, u_lay RX6 TX6 1, u_lay RX6 TX6 2, u_lay RX6 TX6 3], w ∈ ql_W
  exact List.forall_mem_cons.mpr ⟨gw_216, List.forall_mem_cons.mpr ⟨gw_218, List.forall_mem_cons.mpr ⟨gw_220, List.forall_mem_cons.mpr ⟨gw_222, fun _ h => nomatch h⟩⟩⟩⟩
theorem qlay_11 : ∀ w ∈ u_ws RX10 TX10 2, w ∈ ql_W := by
  show ∀ w ∈ [u_lay RX10 TX10 0, u_lay RX10 TX10 1], w ∈ ql_W
  exact List.forall_mem_cons.mpr ⟨gw_327, List.forall_mem_cons.mpr ⟨gw_329, fun _ h => nomatch h⟩⟩
theorem qlay_12 : ∀ w ∈ u_ws RX11 TX11 11, w ∈ ql_W := by
  show ∀ w ∈ [u_lay RX11 TX11 0, u_lay RX11 TX11 1, u_lay RX11 TX11 2, u_lay RX11 TX11 3, u_lay RX11 TX11 4, u_lay RX11 TX11 5, u_lay RX11 TX11 6, u_lay RX11 TX11 7, u_lay RX11 TX11 8, u_lay RX11 TX11 9, u_lay RX11 TX11 10], w ∈ ql_W
  exact List.forall_mem_cons.mpr ⟨gw_359, List.forall_mem_cons.mpr ⟨gw_361, List.forall_mem_cons.mpr ⟨gw_363, List.forall_mem_cons.mpr ⟨gw_365, List.forall_mem_cons.mpr ⟨gw_367, List.forall_mem_cons.mpr ⟨gw_369, List.forall_mem_cons.mpr ⟨gw_371, List.forall_mem_cons.mpr ⟨gw_373, List.forall_mem_cons.mpr ⟨gw_375, List.forall_mem_cons.mpr ⟨gw_377, List.forall_mem_cons.mpr ⟨gw_379, fun _ h => nomatch h⟩⟩⟩⟩⟩⟩⟩⟩⟩⟩⟩
theorem qlay_13 : ∀ w ∈ u_ws RX12 TX12 19, w ∈ ql_W := by
  show ∀ w ∈ [u_lay RX12 TX12 0, u_lay RX12 TX12 1, u_lay RX12 TX12 2, u_lay RX12 TX12 3, u_lay RX12 TX12 4, u_lay RX12 TX12 5, u_lay RX12 TX12 6, u_lay RX12 TX12 7, u_lay RX12 TX12 8, u_lay RX12 TX12 9, u_lay RX12 TX12 10, u_lay RX12 TX12 11, u_lay RX12 TX12 12, u_lay RX12 TX12 13, u_lay RX12 TX12 14, u_lay RX12 TX12 15, u_lay RX12 TX12 16, u_lay RX12 TX12 17, u_lay RX12 TX12 18], w ∈ ql_W
  exact List.forall_mem_cons.mpr ⟨gw_1687, List.forall_mem_cons.mpr ⟨gw_1689, List.forall_mem_cons.mpr ⟨gw_1691, List.forall_mem_cons.mpr ⟨gw_1693, List.forall_mem_cons.mpr ⟨gw_1695, List.forall_mem_cons.mpr ⟨gw_1697, List.forall_mem_cons.mpr ⟨gw_1699, List.forall_mem_cons.mpr ⟨gw_1701, List.forall_mem_cons.mpr ⟨gw_1703, List.forall_mem_cons.mpr ⟨gw_1705, List.forall_mem_cons.mpr ⟨gw_1707, List.forall_mem_cons.mpr ⟨gw_1709, List.forall_mem_cons.mpr ⟨gw_1711, List.forall_mem_cons.mpr ⟨gw_1713, List.forall_mem_cons.mpr ⟨gw_1715, List.forall_mem_cons.mpr ⟨gw_1717, List.forall_mem_cons.mpr ⟨gw_1719, List.forall_mem_cons.mpr ⟨gw_1721, List.forall_mem_cons.mpr ⟨gw_1723, fun _ h => nomatch h⟩⟩⟩⟩⟩⟩⟩⟩⟩⟩⟩⟩⟩⟩⟩⟩⟩⟩⟩
theorem qf_4_0 : ql_F 4 0 RX1 TX1 9 := ⟨rfl, by decide, qlay_4⟩
theorem qf_4_1 : ql_F 4 1 RX1 TX1 9 := ⟨rfl, by decide, qlay_4⟩
theorem qf_4_2 : ql_F 4 2 RX1 TX1 9 := ⟨rfl, by decide, qlay_4⟩
theorem qf_4_3 : ql_F 4 3 RX1 TX1 9 := ⟨rfl, by decide, qlay_4⟩
theorem qf_4_4 : ql_F 4 4 RX1 TX1 9 := ⟨rfl, by decide, qlay_4⟩
theorem qf_4_5 : ql_F 4 5 RX1 TX1 9 := ⟨rfl, by decide, qlay_4⟩
theorem qf_4_6 : ql_F 4 6 RX1 TX1 9 := ⟨rfl, by decide, qlay_4⟩
theorem qf_4_7 : ql_F 4 7 RX1 TX1 9 := ⟨rfl, by decide, qlay_4⟩
theorem qf_4_8 : ql_F 4 8 RX1 TX1 9 := ⟨rfl, by decide, qlay_4⟩
theorem qf_5_0 : ql_F 5 0 RX2 TX2 3 := ⟨rfl, by decide, qlay_5⟩
theorem qf_5_1 : ql_F 5 1 RX2 TX2 3 := ⟨rfl, by decide, qlay_5⟩
theorem qf_5_2 : ql_F 5 2 RX2 TX2 3 := ⟨rfl, by decide, qlay_5⟩
theorem qf_6_0 : ql_F 6 0 RX3 TX3 8 := ⟨rfl, by decide, qlay_6⟩
theorem qf_6_1 : ql_F 6 1 RX3 TX3 8 := ⟨rfl, by decide, qlay_6⟩
theorem qf_6_2 : ql_F 6 2 RX3 TX3 8 := ⟨rfl, by decide, qlay_6⟩
theorem qf_6_3 : ql_F 6 3 RX3 TX3 8 := ⟨rfl, by decide, qlay_6⟩
theorem qf_6_4 : ql_F 6 4 RX3 TX3 8 := ⟨rfl, by decide, qlay_6⟩
theorem qf_6_5 : ql_F 6 5 RX3 TX3 8 := ⟨rfl, by decide, qlay_6⟩
theorem qf_6_6 : ql_F 6 6 RX3 TX3 8 := ⟨rfl, by decide, qlay_6⟩
theorem qf_6_7 : ql_F 6 7 RX3 TX3 8 := ⟨rfl, by decide, qlay_6⟩
theorem qf_8_0 : ql_F 8 0 RX5 TX5 1 := ⟨rfl, by decide, qlay_8⟩
theorem qf_9_0 : ql_F 9 0 RX6 TX6 4 := ⟨rfl, by decide, qlay_9⟩
theorem qf_9_1 : ql_F 9 1 RX6 TX6 4 := ⟨rfl, by decide, qlay_9⟩
theorem qf_9_2 : ql_F 9 2 RX6 TX6 4 := ⟨rfl, by decide, qlay_9⟩
theorem qf_9_3 : ql_F 9 3 RX6 TX6 4 := ⟨rfl, by decide, qlay_9⟩
theorem qf_11_0 : ql_F 11 0 RX10 TX10 2 := ⟨rfl, by decide, qlay_11⟩
theorem qf_11_1 : ql_F 11 1 RX10 TX10 2 := ⟨rfl, by decide, qlay_11⟩
theorem qf_12_0 : ql_F 12 0 RX11 TX11 11 := ⟨rfl, by decide, qlay_12⟩
theorem qf_12_3 : ql_F 12 3 RX11 TX11 11 := ⟨rfl, by decide, qlay_12⟩
theorem qf_12_5 : ql_F 12 5 RX11 TX11 11 := ⟨rfl, by decide, qlay_12⟩
theorem qf_12_6 : ql_F 12 6 RX11 TX11 11 := ⟨rfl, by decide, qlay_12⟩
theorem qf_12_8 : ql_F 12 8 RX11 TX11 11 := ⟨rfl, by decide, qlay_12⟩
theorem qf_12_9 : ql_F 12 9 RX11 TX11 11 := ⟨rfl, by decide, qlay_12⟩
theorem qf_12_10 : ql_F 12 10 RX11 TX11 11 := ⟨rfl, by decide, qlay_12⟩
theorem qf_13_0 : ql_F 13 0 RX12 TX12 19 := ⟨rfl, by decide, qlay_13⟩
theorem qf_13_1 : ql_F 13 1 RX12 TX12 19 := ⟨rfl, by decide, qlay_13⟩
theorem qf_13_2 : ql_F 13 2 RX12 TX12 19 := ⟨rfl, by decide, qlay_13⟩
theorem qf_13_4 : ql_F 13 4 RX12 TX12 19 := ⟨rfl, by decide, qlay_13⟩
theorem qf_13_5 : ql_F 13 5 RX12 TX12 19 := ⟨rfl, by decide, qlay_13⟩
theorem qf_13_6 : ql_F 13 6 RX12 TX12 19 := ⟨rfl, by decide, qlay_13⟩
theorem qf_13_7 : ql_F 13 7 RX12 TX12 19 := ⟨rfl, by decide, qlay_13⟩
theorem qf_13_8 : ql_F 13 8 RX12 TX12 19 := ⟨rfl, by decide, qlay_13⟩
theorem qf_13_9 : ql_F 13 9 RX12 TX12 19 := ⟨rfl, by decide, qlay_13⟩
theorem qf_13_10 : ql_F 13 10 RX12 TX12 19 := ⟨rfl, by decide, qlay_13⟩
theorem qf_13_11 : ql_F 13 11 RX12 TX12 19 := ⟨rfl, by decide, qlay_13⟩
theorem qf_13_12 : ql_F 13 12 RX12 TX12 19 := ⟨rfl, by decide, qlay_13⟩
theorem qf_13_13 : ql_F 13 13 RX12 TX12 19 := ⟨rfl, by decide, qlay_13⟩
theorem qf_13_14 : ql_F 13 14 RX12 TX12 19 := ⟨rfl, by decide, qlay_13⟩
theorem qf_13_15 : ql_F 13 15 RX12 TX12 19 := ⟨rfl, by decide, qlay_13⟩
theorem qf_13_16 : ql_F 13 16 RX12 TX12 19 := ⟨rfl, by decide, qlay_13⟩
theorem qf_13_17 : ql_F 13 17 RX12 TX12 19 := ⟨rfl, by decide, qlay_13⟩
theorem qn_RX1_43 : Cond.methodLinkNest RX1 43 yX3_init RX11 ∈ ql_N := List.mem_of_getElem? (i := 0) rfl
theorem qn_RX2_27 : Cond.fieldLinkNest RX2 27 RX3 "exists" "Z" RX11 ∈ ql_N := List.mem_of_getElem? (i := 1) rfl
theorem qn_RX1_144 : Cond.fieldLinkNest RX1 144 RX3 "exists" "Z" RX11 ∈ ql_N := List.mem_of_getElem? (i := 2) rfl
theorem qn_RX11_225 : Cond.fieldLinkNest RX11 225 RX3 "exists" "Z" RX11 ∈ ql_N := List.mem_of_getElem? (i := 3) rfl
theorem qn_RX1_76 : Cond.fieldLinkNest RX1 76 RX3 "id" "I" RX11 ∈ ql_N := List.mem_of_getElem? (i := 4) rfl
theorem qn_RX11_150 : Cond.fieldLinkNest RX11 150 RX3 "id" "I" RX11 ∈ ql_N := List.mem_of_getElem? (i := 5) rfl
theorem qn_RX1_176 : Cond.fieldLinkNest RX1 176 RX3 "section" "I" RX11 ∈ ql_N := List.mem_of_getElem? (i := 6) rfl
theorem qn_RX11_161 : Cond.fieldLinkNest RX11 161 RX3 "section" "I" RX11 ∈ ql_N := List.mem_of_getElem? (i := 7) rfl
theorem qn_RX11_164 : Cond.fieldLinkNest RX11 164 RX3 "enacted" "I" RX11 ∈ ql_N := List.mem_of_getElem? (i := 8) rfl
theorem qn_RX1_128 : Cond.fieldLinkNest RX1 128 RX3 "sunset" "I" RX11 ∈ ql_N := List.mem_of_getElem? (i := 9) rfl
theorem qn_RX11_170 : Cond.fieldLinkNest RX11 170 RX3 "sunset" "I" RX11 ∈ ql_N := List.mem_of_getElem? (i := 10) rfl
theorem qn_RX2_21 : Cond.fieldLinkNest RX2 21 RX1 "clauses" "[LClauseLedger$Clause;" RX11 ∈ ql_N := List.mem_of_getElem? (i := 11) rfl
theorem qn_RX11_221 : Cond.fieldLinkNest RX11 221 RX1 "clauses" "[LClauseLedger$Clause;" RX11 ∈ ql_N := List.mem_of_getElem? (i := 12) rfl
theorem qn_RX11_136 : Cond.fieldLinkNest RX11 136 RX1 "today" "I" RX11 ∈ ql_N := List.mem_of_getElem? (i := 13) rfl
theorem qn_RX11_276 : Cond.fieldLinkNest RX11 276 RX1 "added" "I" RX11 ∈ ql_N := List.mem_of_getElem? (i := 14) rfl
theorem qn_RX11_279 : Cond.fieldLinkNest RX11 279 RX1 "amendments" "I" RX11 ∈ ql_N := List.mem_of_getElem? (i := 15) rfl
theorem qn_RX11_282 : Cond.fieldLinkNest RX11 282 RX1 "repealed" "I" RX11 ∈ ql_N := List.mem_of_getElem? (i := 16) rfl
theorem qn_RX11_285 : Cond.fieldLinkNest RX11 285 RX1 "consolidated" "I" RX11 ∈ ql_N := List.mem_of_getElem? (i := 17) rfl
theorem qn_RX11_288 : Cond.fieldLinkNest RX11 288 RX1 "editions" "I" RX11 ∈ ql_N := List.mem_of_getElem? (i := 18) rfl
theorem qn_RX11_360 : Cond.fieldLinkNest RX11 360 RX6 "size" "I" RX11 ∈ ql_N := List.mem_of_getElem? (i := 19) rfl
theorem qn_RX8_31 : Cond.methodLinkNest RX8 31 yX4_init RX11 ∈ ql_N := List.mem_of_getElem? (i := 20) rfl
theorem qn_RX8_82 : Cond.fieldLinkNest RX8 82 RX4 "kind" "LClauseLedger$Kind;" RX11 ∈ ql_N := List.mem_of_getElem? (i := 21) rfl
theorem qn_RX8_104 : Cond.fieldLinkNest RX8 104 RX4 "first" "I" RX11 ∈ ql_N := List.mem_of_getElem? (i := 22) rfl
theorem qn_RX8_107 : Cond.fieldLinkNest RX8 107 RX4 "second" "I" RX11 ∈ ql_N := List.mem_of_getElem? (i := 23) rfl
theorem qn_RX8_118 : Cond.fieldLinkNest RX8 118 RX4 "note" "C" RX11 ∈ ql_N := List.mem_of_getElem? (i := 24) rfl
theorem qn_RX11_357 : Cond.fieldLinkNest RX11 357 RX8 "commandCount" "I" RX11 ∈ ql_N := List.mem_of_getElem? (i := 25) rfl
theorem qn_RX11_347 : Cond.fieldLinkNest RX11 347 RX8 "readUpTo" "I" RX11 ∈ ql_N := List.mem_of_getElem? (i := 26) rfl
theorem qn_RX11_53 : Cond.methodLinkNest RX11 53 yX5_init RX11 ∈ ql_N := List.mem_of_getElem? (i := 27) rfl
theorem qn_RX11_60 : Cond.methodLinkNest RX11 60 yX10_init RX11 ∈ ql_N := List.mem_of_getElem? (i := 28) rfl
theorem qn_RX11_67 : Cond.methodLinkNest RX11 67 yX2_init RX11 ∈ ql_N := List.mem_of_getElem? (i := 29) rfl
theorem qn_RX8_63 : Cond.fieldLinkNest RX8 63 RX7 "keyword" "Ljava/lang/String;" RX11 ∈ ql_N := List.mem_of_getElem? (i := 30) rfl
theorem qn_RX8_94 : Cond.fieldLinkNest RX8 94 RX7 "form" "Ljava/lang/String;" RX11 ∈ ql_N := List.mem_of_getElem? (i := 31) rfl
theorem qx_RX11_123 : (∀ w ∈ vx_at0 RX11 123 "java/util/NoSuchElementException" ["java/lang/RuntimeException", "java/lang/Exception"], w ∈ lw_tbl) ∧ (∀ w ∈ vx_at0 RX11 123 "java/util/NoSuchElementException" ["java/lang/RuntimeException", "java/lang/Exception"], goodWord w = true ∨ w ∈ ql_N) ∧ Bundle.fit "java/util/NoSuchElementException" = true ∧ (∀ n ∈ (["java/lang/RuntimeException", "java/lang/Exception"] : List String), Bundle.fit n = true) ∧ (∀ w ∈ vx_at0 RX11 123 "java/util/NoSuchElementException" ["java/lang/RuntimeException", "java/lang/Exception"], vx_ot w = true) := ⟨by decide +kernel, by decide +kernel, by decide +kernel, by decide +kernel, by decide +kernel⟩
theorem qx_RX11_126 : (∀ w ∈ vx_at0 RX11 126 "java/lang/IndexOutOfBoundsException" ["java/lang/RuntimeException", "java/lang/Exception"], w ∈ lw_tbl) ∧ (∀ w ∈ vx_at0 RX11 126 "java/lang/IndexOutOfBoundsException" ["java/lang/RuntimeException", "java/lang/Exception"], goodWord w = true ∨ w ∈ ql_N) ∧ Bundle.fit "java/lang/IndexOutOfBoundsException" = true ∧ (∀ n ∈ (["java/lang/RuntimeException", "java/lang/Exception"] : List String), Bundle.fit n = true) ∧ (∀ w ∈ vx_at0 RX11 126 "java/lang/IndexOutOfBoundsException" ["java/lang/RuntimeException", "java/lang/Exception"], vx_ot w = true) := ⟨by decide +kernel, by decide +kernel, by decide +kernel, by decide +kernel, by decide +kernel⟩
theorem qx_RX11_129 : (∀ w ∈ vx_at0 RX11 129 "java/lang/IllegalArgumentException" ["java/lang/RuntimeException", "java/lang/Exception"], w ∈ lw_tbl) ∧ (∀ w ∈ vx_at0 RX11 129 "java/lang/IllegalArgumentException" ["java/lang/RuntimeException", "java/lang/Exception"], goodWord w = true ∨ w ∈ ql_N) ∧ Bundle.fit "java/lang/IllegalArgumentException" = true ∧ (∀ n ∈ (["java/lang/RuntimeException", "java/lang/Exception"] : List String), Bundle.fit n = true) ∧ (∀ w ∈ vx_at0 RX11 129 "java/lang/IllegalArgumentException" ["java/lang/RuntimeException", "java/lang/Exception"], vx_ot w = true) := ⟨by decide +kernel, by decide +kernel, by decide +kernel, by decide +kernel, by decide +kernel⟩
theorem qx_RX11_132 : (∀ w ∈ vx_at0 RX11 132 "java/lang/IllegalStateException" ["java/lang/RuntimeException", "java/lang/Exception"], w ∈ lw_tbl) ∧ (∀ w ∈ vx_at0 RX11 132 "java/lang/IllegalStateException" ["java/lang/RuntimeException", "java/lang/Exception"], goodWord w = true ∨ w ∈ ql_N) ∧ Bundle.fit "java/lang/IllegalStateException" = true ∧ (∀ n ∈ (["java/lang/RuntimeException", "java/lang/Exception"] : List String), Bundle.fit n = true) ∧ (∀ w ∈ vx_at0 RX11 132 "java/lang/IllegalStateException" ["java/lang/RuntimeException", "java/lang/Exception"], vx_ot w = true) := ⟨by decide +kernel, by decide +kernel, by decide +kernel, by decide +kernel, by decide +kernel⟩
theorem qx_RX11_135 : (∀ w ∈ vx_at0 RX11 135 "java/lang/UnsupportedOperationException" ["java/lang/RuntimeException", "java/lang/Exception"], w ∈ lw_tbl) ∧ (∀ w ∈ vx_at0 RX11 135 "java/lang/UnsupportedOperationException" ["java/lang/RuntimeException", "java/lang/Exception"], goodWord w = true ∨ w ∈ ql_N) ∧ Bundle.fit "java/lang/UnsupportedOperationException" = true ∧ (∀ n ∈ (["java/lang/RuntimeException", "java/lang/Exception"] : List String), Bundle.fit n = true) ∧ (∀ w ∈ vx_at0 RX11 135 "java/lang/UnsupportedOperationException" ["java/lang/RuntimeException", "java/lang/Exception"], vx_ot w = true) := ⟨by decide +kernel, by decide +kernel, by decide +kernel, by decide +kernel, by decide +kernel⟩
theorem qx_RX11_296 : (∀ w ∈ vx_at0 RX11 296 "java/lang/ArithmeticException" ["java/lang/RuntimeException", "java/lang/Exception"], w ∈ lw_tbl) ∧ (∀ w ∈ vx_at0 RX11 296 "java/lang/ArithmeticException" ["java/lang/RuntimeException", "java/lang/Exception"], goodWord w = true ∨ w ∈ ql_N) ∧ Bundle.fit "java/lang/ArithmeticException" = true ∧ (∀ n ∈ (["java/lang/RuntimeException", "java/lang/Exception"] : List String), Bundle.fit n = true) ∧ (∀ w ∈ vx_at0 RX11 296 "java/lang/ArithmeticException" ["java/lang/RuntimeException", "java/lang/Exception"], vx_ot w = true) := ⟨by decide +kernel, by decide +kernel, by decide +kernel, by decide +kernel, by decide +kernel⟩
theorem qy_J9_floorMod_7cf53 : ql_Y yJ9_floorMod_7cf53 cJ9_floorMod_7cf53 3 (some .int) 2 := ⟨gw_480, gw_97, by decide, by decide, by decide +kernel⟩
theorem qi_J9_floorMod_7cf53 : Cond.static yJ9_floorMod_7cf53 ∈ ql_W := gw_479
theorem qy_J9_min_7cf53 : ql_Y yJ9_min_7cf53 cJ9_min_7cf53 2 (some .int) 2 := ⟨gw_624, gw_97, by decide, by decide, by decide +kernel⟩
theorem qi_J9_min_7cf53 : Cond.static yJ9_min_7cf53 ∈ ql_W := gw_623
theorem qy_X10_clear : ql_Y yX10_clear cX10_clear 2 none 0 := ⟨gw_656, gw_84, by decide, by decide, by decide +kernel⟩
theorem qi_X10_clear : Cond.instanceMethod yX10_clear ∈ ql_W := gw_654
theorem qs_X10_clear : Cond.selects yX10_clear.cls yX10_clear yX10_clear ∈ ql_W := gw_655
theorem qy_X10_countBeforeAdding : ql_Y yX10_countBeforeAdding cX10_countBeforeAdding 6 (some .int) 1 := ⟨gw_664, gw_84, by decide, by decide, by decide +kernel⟩
theorem qi_X10_countBeforeAdding : Cond.instanceMethod yX10_countBeforeAdding ∈ ql_W := gw_662
theorem qs_X10_countBeforeAdding : Cond.selects yX10_countBeforeAdding.cls yX10_countBeforeAdding yX10_countBeforeAdding ∈ ql_W := gw_663
theorem qy_X11_clauseOf : ql_Y yX11_clauseOf cX11_clauseOf 2 (some (.object "ClauseLedger$Clause")) 1 := ⟨gw_998, gw_71, by decide, by decide, by decide +kernel⟩
theorem qi_X11_clauseOf : Cond.instanceMethod yX11_clauseOf ∈ ql_W := gw_997
theorem qs_X11_clauseOf : Cond.selects yX11_clauseOf.cls yX11_clauseOf yX11_clauseOf ∈ ql_W := gw_15
theorem qy_X11_clauseWithSunset : ql_Y yX11_clauseWithSunset cX11_clauseWithSunset 3 (some (.object "ClauseLedger$Clause")) 1 := ⟨gw_1017, gw_71, by decide, by decide, by decide +kernel⟩
theorem qi_X11_clauseWithSunset : Cond.instanceMethod yX11_clauseWithSunset ∈ ql_W := gw_1016
theorem qs_X11_clauseWithSunset : Cond.selects yX11_clauseWithSunset.cls yX11_clauseWithSunset yX11_clauseWithSunset ∈ ql_W := gw_16
theorem qy_X11_countRankedBefore : ql_Y yX11_countRankedBefore cX11_countRankedBefore 7 (some .int) 2 := ⟨gw_1150, gw_71, by decide, by decide, by decide +kernel⟩
theorem qi_X11_countRankedBefore : Cond.instanceMethod yX11_countRankedBefore ∈ ql_W := gw_1149
theorem qs_X11_countRankedBefore : Cond.selects yX11_countRankedBefore.cls yX11_countRankedBefore yX11_countRankedBefore ∈ ql_W := gw_18
theorem qy_X11_existing : ql_Y yX11_existing cX11_existing 1 (some (.object "ClauseLedger$Clause")) 1 := ⟨gw_979, gw_71, by decide, by decide, by decide +kernel⟩
theorem qi_X11_existing : Cond.static yX11_existing ∈ ql_W := gw_978
theorem qy_X11_noteOfText : ql_Y yX11_noteOfText cX11_noteOfText 3 (some .char) 2 := ⟨gw_1059, gw_71, by decide, by decide, by decide +kernel⟩
theorem qi_X11_noteOfText : Cond.static yX11_noteOfText ∈ ql_W := gw_1058
theorem qy_X11_refuse : ql_Y yX11_refuse cX11_refuse 1 none 1 := ⟨gw_487, gw_71, by decide, by decide, by decide +kernel⟩
theorem qi_X11_refuse : Cond.static yX11_refuse ∈ ql_W := gw_486
theorem qy_X11_slotOf : ql_Y yX11_slotOf cX11_slotOf 3 (some .int) 1 := ⟨gw_1126, gw_71, by decide, by decide, by decide +kernel⟩
theorem qi_X11_slotOf : Cond.instanceMethod yX11_slotOf ∈ ql_W := gw_1125
theorem qs_X11_slotOf : Cond.selects yX11_slotOf.cls yX11_slotOf yX11_slotOf ∈ ql_W := gw_17
theorem qy_X11_textOn : ql_Y yX11_textOn cX11_textOn 4 (some .long) 2 := ⟨gw_1078, gw_71, by decide, by decide, by decide +kernel⟩
theorem qi_X11_textOn : Cond.static yX11_textOn ∈ ql_W := gw_1077
theorem qy_X12_addClause : ql_Y yX12_addClause cX12_addClause 5 (some .int) 2 := ⟨gw_1734, gw_86, by decide, by decide, by decide +kernel⟩
theorem qi_X12_addClause : Cond.instanceMethod yX12_addClause ∈ ql_W := gw_1732
theorem qs_X12_addClause : Cond.selects yX12_addClause.cls yX12_addClause yX12_addClause ∈ ql_W := gw_1733
theorem qy_X12_advance : ql_Y yX12_advance cX12_advance 4 (some .int) 1 := ⟨gw_1851, gw_86, by decide, by decide, by decide +kernel⟩
theorem qi_X12_advance : Cond.instanceMethod yX12_advance ∈ ql_W := gw_1849
theorem qs_X12_advance : Cond.selects yX12_advance.cls yX12_advance yX12_advance ∈ ql_W := gw_1850
theorem qy_X12_amends : ql_Y yX12_amends cX12_amends 5 (some .int) 1 := ⟨gw_1795, gw_86, by decide, by decide, by decide +kernel⟩
theorem qi_X12_amends : Cond.instanceMethod yX12_amends ∈ ql_W := gw_1794
theorem qs_X12_amends : Cond.selects yX12_amends.cls yX12_amends yX12_amends ∈ ql_W := gw_40
theorem qy_X12_apart : ql_Y yX12_apart cX12_apart 11 (some .int) 3 := ⟨gw_1946, gw_86, by decide, by decide, by decide +kernel⟩
theorem qi_X12_apart : Cond.instanceMethod yX12_apart ∈ ql_W := gw_1945
theorem qs_X12_apart : Cond.selects yX12_apart.cls yX12_apart yX12_apart ∈ ql_W := gw_52
theorem qy_X12_areAlike : ql_Y yX12_areAlike cX12_areAlike 4 (some .boolean) 2 := ⟨gw_1962, gw_86, by decide, by decide, by decide +kernel⟩
theorem qi_X12_areAlike : Cond.instanceMethod yX12_areAlike ∈ ql_W := gw_1961
theorem qs_X12_areAlike : Cond.selects yX12_areAlike.cls yX12_areAlike yX12_areAlike ∈ ql_W := gw_54
theorem qy_X12_cite : ql_Y yX12_cite cX12_cite 5 (some .int) 2 := ⟨gw_1819, gw_86, by decide, by decide, by decide +kernel⟩
theorem qi_X12_cite : Cond.instanceMethod yX12_cite ∈ ql_W := gw_1817
theorem qs_X12_cite : Cond.selects yX12_cite.cls yX12_cite yX12_cite ∈ ql_W := gw_1818
theorem qy_X12_cited : ql_Y yX12_cited cX12_cited 4 (some .int) 2 := ⟨gw_1823, gw_86, by decide, by decide, by decide +kernel⟩
theorem qi_X12_cited : Cond.instanceMethod yX12_cited ∈ ql_W := gw_1822
theorem qs_X12_cited : Cond.selects yX12_cited.cls yX12_cited yX12_cited ∈ ql_W := gw_43
theorem qy_X12_citing : ql_Y yX12_citing cX12_citing 4 (some .int) 1 := ⟨gw_2006, gw_86, by decide, by decide, by decide +kernel⟩
theorem qi_X12_citing : Cond.instanceMethod yX12_citing ∈ ql_W := gw_2005
theorem qs_X12_citing : Cond.selects yX12_citing.cls yX12_citing yX12_citing ∈ ql_W := gw_58
theorem qy_X12_consolidate : ql_Y yX12_consolidate cX12_consolidate 4 (some .int) 0 := ⟨gw_1843, gw_86, by decide, by decide, by decide +kernel⟩
theorem qi_X12_consolidate : Cond.instanceMethod yX12_consolidate ∈ ql_W := gw_1841
theorem qs_X12_consolidate : Cond.selects yX12_consolidate.cls yX12_consolidate yX12_consolidate ∈ ql_W := gw_1842
theorem qy_X12_copies : ql_Y yX12_copies cX12_copies 5 none 4 := ⟨gw_1759, gw_86, by decide, by decide, by decide +kernel⟩
theorem qi_X12_copies : Cond.static yX12_copies ∈ ql_W := gw_1758
theorem qy_X12_deleteNote : ql_Y yX12_deleteNote cX12_deleteNote 7 (some .int) 2 := ⟨gw_1807, gw_86, by decide, by decide, by decide +kernel⟩
theorem qi_X12_deleteNote : Cond.instanceMethod yX12_deleteNote ∈ ql_W := gw_1805
theorem qs_X12_deleteNote : Cond.selects yX12_deleteNote.cls yX12_deleteNote yX12_deleteNote ∈ ql_W := gw_1806
theorem qy_X12_drops : ql_Y yX12_drops cX12_drops 3 none 1 := ⟨gw_1839, gw_86, by decide, by decide, by decide +kernel⟩
theorem qi_X12_drops : Cond.instanceMethod yX12_drops ∈ ql_W := gw_1838
theorem qs_X12_drops : Cond.selects yX12_drops.cls yX12_drops yX12_drops ∈ ql_W := gw_45
theorem qy_X12_dropsCite : ql_Y yX12_dropsCite cX12_dropsCite 5 none 2 := ⟨gw_1831, gw_86, by decide, by decide, by decide +kernel⟩
theorem qi_X12_dropsCite : Cond.instanceMethod yX12_dropsCite ∈ ql_W := gw_1830
theorem qs_X12_dropsCite : Cond.selects yX12_dropsCite.cls yX12_dropsCite yX12_dropsCite ∈ ql_W := gw_44
theorem qy_X12_fails : ql_Y yX12_fails cX12_fails 2 (some .boolean) 1 := ⟨gw_1752, gw_86, by decide, by decide, by decide +kernel⟩
theorem qi_X12_fails : Cond.instanceMethod yX12_fails ∈ ql_W := gw_1751
theorem qs_X12_fails : Cond.selects yX12_fails.cls yX12_fails yX12_fails ∈ ql_W := gw_31
theorem qy_X12_figures : ql_Y yX12_figures cX12_figures 3 (some .boolean) 1 := ⟨gw_2093, gw_86, by decide, by decide, by decide +kernel⟩
theorem qi_X12_figures : Cond.instanceMethod yX12_figures ∈ ql_W := gw_2092
theorem qs_X12_figures : Cond.selects yX12_figures.cls yX12_figures yX12_figures ∈ ql_W := gw_66
theorem qy_X12_here : ql_Y yX12_here cX12_here 1 (some .int) 0 := ⟨gw_2082, gw_86, by decide, by decide, by decide +kernel⟩
theorem qi_X12_here : Cond.instanceMethod yX12_here ∈ ql_W := gw_2081
theorem qs_X12_here : Cond.selects yX12_here.cls yX12_here yX12_here ∈ ql_W := gw_64
theorem qy_X12_in : ql_Y yX12_in cX12_in 3 (some .boolean) 3 := ⟨gw_1737, gw_86, by decide, by decide, by decide +kernel⟩
theorem qi_X12_in : Cond.static yX12_in ∈ ql_W := gw_1736
theorem qy_X12_insertNote : ql_Y yX12_insertNote cX12_insertNote 8 (some .int) 3 := ⟨gw_1771, gw_86, by decide, by decide, by decide +kernel⟩
theorem qi_X12_insertNote : Cond.instanceMethod yX12_insertNote ∈ ql_W := gw_1769
theorem qs_X12_insertNote : Cond.selects yX12_insertNote.cls yX12_insertNote yX12_insertNote ∈ ql_W := gw_1770
theorem qy_X12_isBlank : ql_Y yX12_isBlank cX12_isBlank 3 (some .boolean) 2 := ⟨gw_1930, gw_86, by decide, by decide, by decide +kernel⟩
theorem qi_X12_isBlank : Cond.instanceMethod yX12_isBlank ∈ ql_W := gw_1929
theorem qs_X12_isBlank : Cond.selects yX12_isBlank.cls yX12_isBlank yX12_isBlank ∈ ql_W := gw_50
theorem qy_X12_isClosed : ql_Y yX12_isClosed cX12_isClosed 2 (some .boolean) 1 := ⟨gw_1787, gw_86, by decide, by decide, by decide +kernel⟩
theorem qi_X12_isClosed : Cond.instanceMethod yX12_isClosed ∈ ql_W := gw_1786
theorem qs_X12_isClosed : Cond.selects yX12_isClosed.cls yX12_isClosed yX12_isClosed ∈ ql_W := gw_38
theorem qy_X12_isEndless : ql_Y yX12_isEndless cX12_isEndless 2 (some .boolean) 1 := ⟨gw_1887, gw_86, by decide, by decide, by decide +kernel⟩
theorem qi_X12_isEndless : Cond.instanceMethod yX12_isEndless ∈ ql_W := gw_1886
theorem qs_X12_isEndless : Cond.selects yX12_isEndless.cls yX12_isEndless yX12_isEndless ∈ ql_W := gw_48
theorem qy_X12_isNone : ql_Y yX12_isNone cX12_isNone 2 (some .boolean) 1 := ⟨gw_1875, gw_86, by decide, by decide, by decide +kernel⟩
theorem qi_X12_isNone : Cond.instanceMethod yX12_isNone ∈ ql_W := gw_1874
theorem qs_X12_isNone : Cond.selects yX12_isNone.cls yX12_isNone yX12_isNone ∈ ql_W := gw_47
theorem qy_X12_isNote : ql_Y yX12_isNote cX12_isNote 1 (some .boolean) 1 := ⟨gw_1740, gw_86, by decide, by decide, by decide +kernel⟩
theorem qi_X12_isNote : Cond.static yX12_isNote ∈ ql_W := gw_1739
theorem qy_X12_isOver : ql_Y yX12_isOver cX12_isOver 2 (some .boolean) 1 := ⟨gw_1815, gw_86, by decide, by decide, by decide +kernel⟩
theorem qi_X12_isOver : Cond.instanceMethod yX12_isOver ∈ ql_W := gw_1814
theorem qs_X12_isOver : Cond.selects yX12_isOver.cls yX12_isOver yX12_isOver ∈ ql_W := gw_42
theorem qy_X12_isReached : ql_Y yX12_isReached cX12_isReached 3 (some .boolean) 2 := ⟨gw_1986, gw_86, by decide, by decide, by decide +kernel⟩
theorem qi_X12_isReached : Cond.instanceMethod yX12_isReached ∈ ql_W := gw_1985
theorem qs_X12_isReached : Cond.selects yX12_isReached.cls yX12_isReached yX12_isReached ∈ ql_W := gw_55
theorem qy_X12_isValid : ql_Y yX12_isValid cX12_isValid 3 (some .boolean) 2 := ⟨gw_1791, gw_86, by decide, by decide, by decide +kernel⟩
theorem qi_X12_isValid : Cond.instanceMethod yX12_isValid ∈ ql_W := gw_1790
theorem qs_X12_isValid : Cond.selects yX12_isValid.cls yX12_isValid yX12_isValid ∈ ql_W := gw_39
theorem qy_X12_keeps : ql_Y yX12_keeps cX12_keeps 3 none 1 := ⟨gw_1756, gw_86, by decide, by decide, by decide +kernel⟩
theorem qi_X12_keeps : Cond.instanceMethod yX12_keeps ∈ ql_W := gw_1755
theorem qs_X12_keeps : Cond.selects yX12_keeps.cls yX12_keeps yX12_keeps ∈ ql_W := gw_32
theorem qy_X12_lastVersion : ql_Y yX12_lastVersion cX12_lastVersion 2 (some .int) 1 := ⟨gw_1783, gw_86, by decide, by decide, by decide +kernel⟩
theorem qi_X12_lastVersion : Cond.instanceMethod yX12_lastVersion ∈ ql_W := gw_1782
theorem qs_X12_lastVersion : Cond.selects yX12_lastVersion.cls yX12_lastVersion yX12_lastVersion ∈ ql_W := gw_37
theorem qy_X12_lays : ql_Y yX12_lays cX12_lays 4 none 3 := ⟨gw_1763, gw_86, by decide, by decide, by decide +kernel⟩
theorem qi_X12_lays : Cond.instanceMethod yX12_lays ∈ ql_W := gw_1762
theorem qs_X12_lays : Cond.selects yX12_lays.cls yX12_lays yX12_lays ∈ ql_W := gw_33
theorem qy_X12_long0 : ql_Y yX12_long0 cX12_long0 2 (some .int) 1 := ⟨gw_1779, gw_86, by decide, by decide, by decide +kernel⟩
theorem qi_X12_long0 : Cond.instanceMethod yX12_long0 ∈ ql_W := gw_1778
theorem qs_X12_long0 : Cond.selects yX12_long0.cls yX12_long0 yX12_long0 ∈ ql_W := gw_36
theorem qy_X12_most : ql_Y yX12_most cX12_most 2 (some .int) 2 := ⟨gw_1910, gw_86, by decide, by decide, by decide +kernel⟩
theorem qi_X12_most : Cond.static yX12_most ∈ ql_W := gw_1909
theorem qy_X12_note : ql_Y yX12_note cX12_note 4 (some .int) 3 := ⟨gw_1799, gw_86, by decide, by decide, by decide +kernel⟩
theorem qi_X12_note : Cond.instanceMethod yX12_note ∈ ql_W := gw_1798
theorem qs_X12_note : Cond.selects yX12_note.cls yX12_note yX12_note ∈ ql_W := gw_41
theorem qy_X12_of : ql_Y yX12_of cX12_of 3 (some .int) 2 := ⟨gw_1748, gw_86, by decide, by decide, by decide +kernel⟩
theorem qi_X12_of : Cond.instanceMethod yX12_of ∈ ql_W := gw_1747
theorem qs_X12_of : Cond.selects yX12_of.cls yX12_of yX12_of ∈ ql_W := gw_30
theorem qy_X12_pairs : ql_Y yX12_pairs cX12_pairs 4 (some .int) 0 := ⟨gw_1958, gw_86, by decide, by decide, by decide +kernel⟩
theorem qi_X12_pairs : Cond.instanceMethod yX12_pairs ∈ ql_W := gw_1957
theorem qs_X12_pairs : Cond.selects yX12_pairs.cls yX12_pairs yX12_pairs ∈ ql_W := gw_53
theorem qy_X12_placeOf : ql_Y yX12_placeOf cX12_placeOf 3 (some .int) 1 := ⟨gw_1775, gw_86, by decide, by decide, by decide +kernel⟩
theorem qi_X12_placeOf : Cond.instanceMethod yX12_placeOf ∈ ql_W := gw_1774
theorem qs_X12_placeOf : Cond.selects yX12_placeOf.cls yX12_placeOf yX12_placeOf ∈ ql_W := gw_35
theorem qy_X12_puts : ql_Y yX12_puts cX12_puts 7 none 4 := ⟨gw_1767, gw_86, by decide, by decide, by decide +kernel⟩
theorem qi_X12_puts : Cond.instanceMethod yX12_puts ∈ ql_W := gw_1766
theorem qs_X12_puts : Cond.selects yX12_puts.cls yX12_puts yX12_puts ∈ ql_W := gw_34
theorem qy_X12_reached : ql_Y yX12_reached cX12_reached 5 (some .int) 1 := ⟨gw_1990, gw_86, by decide, by decide, by decide +kernel⟩
theorem qi_X12_reached : Cond.instanceMethod yX12_reached ∈ ql_W := gw_1989
theorem qs_X12_reached : Cond.selects yX12_reached.cls yX12_reached yX12_reached ∈ ql_W := gw_56
theorem qy_X12_repeal : ql_Y yX12_repeal cX12_repeal 3 (some .int) 1 := ⟨gw_1835, gw_86, by decide, by decide, by decide +kernel⟩
theorem qi_X12_repeal : Cond.instanceMethod yX12_repeal ∈ ql_W := gw_1833
theorem qs_X12_repeal : Cond.selects yX12_repeal.cls yX12_repeal yX12_repeal ∈ ql_W := gw_1834
theorem qy_X12_replaceNote : ql_Y yX12_replaceNote cX12_replaceNote 5 (some .int) 3 := ⟨gw_1803, gw_86, by decide, by decide, by decide +kernel⟩
theorem qi_X12_replaceNote : Cond.instanceMethod yX12_replaceNote ∈ ql_W := gw_1801
theorem qs_X12_replaceNote : Cond.selects yX12_replaceNote.cls yX12_replaceNote yX12_replaceNote ∈ ql_W := gw_1802
theorem qy_X12_sectionsBefore : ql_Y yX12_sectionsBefore cX12_sectionsBefore 4 (some .int) 1 := ⟨gw_1847, gw_86, by decide, by decide, by decide +kernel⟩
theorem qi_X12_sectionsBefore : Cond.instanceMethod yX12_sectionsBefore ∈ ql_W := gw_1846
theorem qs_X12_sectionsBefore : Cond.selects yX12_sectionsBefore.cls yX12_sectionsBefore yX12_sectionsBefore ∈ ql_W := gw_46
theorem qy_X12_setSunset : ql_Y yX12_setSunset cX12_setSunset 4 (some .int) 2 := ⟨gw_1811, gw_86, by decide, by decide, by decide +kernel⟩
theorem qi_X12_setSunset : Cond.instanceMethod yX12_setSunset ∈ ql_W := gw_1809
theorem qs_X12_setSunset : Cond.selects yX12_setSunset.cls yX12_setSunset yX12_setSunset ∈ ql_W := gw_1810
theorem qy_X12_skips : ql_Y yX12_skips cX12_skips 2 (some .boolean) 1 := ⟨gw_2078, gw_86, by decide, by decide, by decide +kernel⟩
theorem qi_X12_skips : Cond.instanceMethod yX12_skips ∈ ql_W := gw_2077
theorem qs_X12_skips : Cond.selects yX12_skips.cls yX12_skips yX12_skips ∈ ql_W := gw_63
theorem qy_X12_straight : ql_Y yX12_straight cX12_straight 4 (some .int) 1 := ⟨gw_1994, gw_86, by decide, by decide, by decide +kernel⟩
theorem qi_X12_straight : Cond.instanceMethod yX12_straight ∈ ql_W := gw_1993
theorem qs_X12_straight : Cond.selects yX12_straight.cls yX12_straight yX12_straight ∈ ql_W := gw_57
theorem qy_X12_uncite : ql_Y yX12_uncite cX12_uncite 4 (some .int) 2 := ⟨gw_1827, gw_86, by decide, by decide, by decide +kernel⟩
theorem qi_X12_uncite : Cond.instanceMethod yX12_uncite ∈ ql_W := gw_1825
theorem qs_X12_uncite : Cond.selects yX12_uncite.cls yX12_uncite yX12_uncite ∈ ql_W := gw_1826
theorem qy_X12_valid : ql_Y yX12_valid cX12_valid 4 (some .int) 1 := ⟨gw_1903, gw_86, by decide, by decide, by decide +kernel⟩
theorem qi_X12_valid : Cond.instanceMethod yX12_valid ∈ ql_W := gw_1902
theorem qs_X12_valid : Cond.selects yX12_valid.cls yX12_valid yX12_valid ∈ ql_W := gw_49
theorem qy_X12_versionOn : ql_Y yX12_versionOn cX12_versionOn 5 (some .int) 2 := ⟨gw_1934, gw_86, by decide, by decide, by decide +kernel⟩
theorem qi_X12_versionOn : Cond.instanceMethod yX12_versionOn ∈ ql_W := gw_1933
theorem qs_X12_versionOn : Cond.selects yX12_versionOn.cls yX12_versionOn yX12_versionOn ∈ ql_W := gw_51
theorem qy_X12_withSection : ql_Y yX12_withSection cX12_withSection 3 (some .int) 1 := ⟨gw_1744, gw_86, by decide, by decide, by decide +kernel⟩
theorem qi_X12_withSection : Cond.instanceMethod yX12_withSection ∈ ql_W := gw_1743
theorem qs_X12_withSection : Cond.selects yX12_withSection.cls yX12_withSection yX12_withSection ∈ ql_W := gw_29
theorem qy_X1_amend : ql_Y yX1_amend cX1_amend 4 (some .int) 2 := ⟨gw_865, gw_72, by decide, by decide, by decide +kernel⟩
theorem qi_X1_amend : Cond.instanceMethod yX1_amend ∈ ql_W := gw_864
theorem qs_X1_amend : Cond.selects yX1_amend.cls yX1_amend yX1_amend ∈ ql_W := gw_13
theorem qy_X1_clauseAtRank : ql_Y yX1_clauseAtRank cX1_clauseAtRank 6 (some (.object "ClauseLedger$Clause")) 1 := ⟨gw_454, gw_72, by decide, by decide, by decide +kernel⟩
theorem qi_X1_clauseAtRank : Cond.instanceMethod yX1_clauseAtRank ∈ ql_W := gw_452
theorem qs_X1_clauseAtRank : Cond.selects yX1_clauseAtRank.cls yX1_clauseAtRank yX1_clauseAtRank ∈ ql_W := gw_453
theorem qy_X1_clauseWithId : ql_Y yX1_clauseWithId cX1_clauseWithId 3 (some (.object "ClauseLedger$Clause")) 1 := ⟨gw_433, gw_72, by decide, by decide, by decide +kernel⟩
theorem qi_X1_clauseWithId : Cond.instanceMethod yX1_clauseWithId ∈ ql_W := gw_431
theorem qs_X1_clauseWithId : Cond.selects yX1_clauseWithId.cls yX1_clauseWithId yX1_clauseWithId ∈ ql_W := gw_432
theorem qy_X1_clauseWithSection : ql_Y yX1_clauseWithSection cX1_clauseWithSection 6 (some (.object "ClauseLedger$Clause")) 1 := ⟨gw_793, gw_72, by decide, by decide, by decide +kernel⟩
theorem qi_X1_clauseWithSection : Cond.instanceMethod yX1_clauseWithSection ∈ ql_W := gw_791
theorem qs_X1_clauseWithSection : Cond.selects yX1_clauseWithSection.cls yX1_clauseWithSection yX1_clauseWithSection ∈ ql_W := gw_792
theorem qy_X1_countBrokenCites : ql_Y yX1_countBrokenCites cX1_countBrokenCites 9 (some .int) 0 := ⟨gw_677, gw_72, by decide, by decide, by decide +kernel⟩
theorem qi_X1_countBrokenCites : Cond.instanceMethod yX1_countBrokenCites ∈ ql_W := gw_675
theorem qs_X1_countBrokenCites : Cond.selects yX1_countBrokenCites.cls yX1_countBrokenCites yX1_countBrokenCites ∈ ql_W := gw_676
theorem qy_X1_countClauses : ql_Y yX1_countClauses cX1_countClauses 6 (some .int) 0 := ⟨gw_636, gw_72, by decide, by decide, by decide +kernel⟩
theorem qi_X1_countClauses : Cond.instanceMethod yX1_countClauses ∈ ql_W := gw_634
theorem qs_X1_countClauses : Cond.selects yX1_countClauses.cls yX1_countClauses yX1_countClauses ∈ ql_W := gw_635
theorem qy_X1_countHoldingOn : ql_Y yX1_countHoldingOn cX1_countHoldingOn 7 (some .int) 1 := ⟨gw_644, gw_72, by decide, by decide, by decide +kernel⟩
theorem qi_X1_countHoldingOn : Cond.instanceMethod yX1_countHoldingOn ∈ ql_W := gw_642
theorem qs_X1_countHoldingOn : Cond.selects yX1_countHoldingOn.cls yX1_countHoldingOn yX1_countHoldingOn ∈ ql_W := gw_643
theorem qy_X1_countLapsed : ql_Y yX1_countLapsed cX1_countLapsed 6 (some .int) 0 := ⟨gw_968, gw_72, by decide, by decide, by decide +kernel⟩
theorem qi_X1_countLapsed : Cond.instanceMethod yX1_countLapsed ∈ ql_W := gw_967
theorem qs_X1_countLapsed : Cond.selects yX1_countLapsed.cls yX1_countLapsed yX1_countLapsed ∈ ql_W := gw_14
theorem qy_X1_countNotes : ql_Y yX1_countNotes cX1_countNotes 6 (some .int) 0 := ⟨gw_1191, gw_72, by decide, by decide, by decide +kernel⟩
theorem qi_X1_countNotes : Cond.instanceMethod yX1_countNotes ∈ ql_W := gw_1189
theorem qs_X1_countNotes : Cond.selects yX1_countNotes.cls yX1_countNotes yX1_countNotes ∈ ql_W := gw_1190
theorem qy_X1_countSectionsBelow : ql_Y yX1_countSectionsBelow cX1_countSectionsBelow 7 (some .int) 1 := ⟨gw_458, gw_72, by decide, by decide, by decide +kernel⟩
theorem qi_X1_countSectionsBelow : Cond.instanceMethod yX1_countSectionsBelow ∈ ql_W := gw_457
theorem qs_X1_countSectionsBelow : Cond.selects yX1_countSectionsBelow.cls yX1_countSectionsBelow yX1_countSectionsBelow ∈ ql_W := gw_4
theorem qy_X1_dayOfEdition : ql_Y yX1_dayOfEdition cX1_dayOfEdition 2 (some .int) 1 := ⟨gw_1161, gw_72, by decide, by decide, by decide +kernel⟩
theorem qi_X1_dayOfEdition : Cond.instanceMethod yX1_dayOfEdition ∈ ql_W := gw_1159
theorem qs_X1_dayOfEdition : Cond.selects yX1_dayOfEdition.cls yX1_dayOfEdition yX1_dayOfEdition ∈ ql_W := gw_1160
theorem qy_X1_dropCitesOfNoClause : ql_Y yX1_dropCitesOfNoClause cX1_dropCitesOfNoClause 8 none 0 := ⟨gw_421, gw_72, by decide, by decide, by decide +kernel⟩
theorem qi_X1_dropCitesOfNoClause : Cond.instanceMethod yX1_dropCitesOfNoClause ∈ ql_W := gw_420
theorem qs_X1_dropCitesOfNoClause : Cond.selects yX1_dropCitesOfNoClause.cls yX1_dropCitesOfNoClause yX1_dropCitesOfNoClause ∈ ql_W := gw_1
theorem qy_X1_endLapsedClauses : ql_Y yX1_endLapsedClauses cX1_endLapsedClauses 5 none 0 := ⟨gw_409, gw_72, by decide, by decide, by decide +kernel⟩
theorem qi_X1_endLapsedClauses : Cond.instanceMethod yX1_endLapsedClauses ∈ ql_W := gw_408
theorem qs_X1_endLapsedClauses : Cond.selects yX1_endLapsedClauses.cls yX1_endLapsedClauses yX1_endLapsedClauses ∈ ql_W := gw_0
theorem qy_X1_forgetOldVersions : ql_Y yX1_forgetOldVersions cX1_forgetOldVersions 5 none 0 := ⟨gw_462, gw_72, by decide, by decide, by decide +kernel⟩
theorem qi_X1_forgetOldVersions : Cond.instanceMethod yX1_forgetOldVersions ∈ ql_W := gw_461
theorem qs_X1_forgetOldVersions : Cond.selects yX1_forgetOldVersions.cls yX1_forgetOldVersions yX1_forgetOldVersions ∈ ql_W := gw_5
theorem qy_X1_freeClause : ql_Y yX1_freeClause cX1_freeClause 5 (some (.object "ClauseLedger$Clause")) 0 := ⟨gw_789, gw_72, by decide, by decide, by decide +kernel⟩
theorem qi_X1_freeClause : Cond.instanceMethod yX1_freeClause ∈ ql_W := gw_788
theorem qs_X1_freeClause : Cond.selects yX1_freeClause.cls yX1_freeClause yX1_freeClause ∈ ql_W := gw_11
theorem qy_X1_isAmendable : ql_Y yX1_isAmendable cX1_isAmendable 2 (some .boolean) 1 := ⟨gw_850, gw_72, by decide, by decide, by decide +kernel⟩
theorem qi_X1_isAmendable : Cond.instanceMethod yX1_isAmendable ∈ ql_W := gw_849
theorem qs_X1_isAmendable : Cond.selects yX1_isAmendable.cls yX1_isAmendable yX1_isAmendable ∈ ql_W := gw_12
theorem qy_X1_placeOfEdition : ql_Y yX1_placeOfEdition cX1_placeOfEdition 1 (some .int) 1 := ⟨gw_477, gw_72, by decide, by decide, by decide +kernel⟩
theorem qi_X1_placeOfEdition : Cond.static yX1_placeOfEdition ∈ ql_W := gw_476
theorem qy_X1_renumberSections : ql_Y yX1_renumberSections cX1_renumberSections 3 none 0 := ⟨gw_450, gw_72, by decide, by decide, by decide +kernel⟩
theorem qi_X1_renumberSections : Cond.instanceMethod yX1_renumberSections ∈ ql_W := gw_449
theorem qs_X1_renumberSections : Cond.selects yX1_renumberSections.cls yX1_renumberSections yX1_renumberSections ∈ ql_W := gw_3
theorem qy_X1_slotWithId : ql_Y yX1_slotWithId cX1_slotWithId 3 (some .int) 1 := ⟨gw_437, gw_72, by decide, by decide, by decide +kernel⟩
theorem qi_X1_slotWithId : Cond.instanceMethod yX1_slotWithId ∈ ql_W := gw_435
theorem qs_X1_slotWithId : Cond.selects yX1_slotWithId.cls yX1_slotWithId yX1_slotWithId ∈ ql_W := gw_436
theorem qy_X2_countCiters : ql_Y yX2_countCiters cX2_countCiters 7 (some .int) 1 := ⟨gw_1146, gw_85, by decide, by decide, by decide +kernel⟩
theorem qi_X2_countCiters : Cond.instanceMethod yX2_countCiters ∈ ql_W := gw_1144
theorem qs_X2_countCiters : Cond.selects yX2_countCiters.cls yX2_countCiters yX2_countCiters ∈ ql_W := gw_1145
theorem qy_X2_hasSlot : ql_Y yX2_hasSlot cX2_hasSlot 2 (some .boolean) 2 := ⟨gw_755, gw_85, by decide, by decide, by decide +kernel⟩
theorem qi_X2_hasSlot : Cond.static yX2_hasSlot ∈ ql_W := gw_754
theorem qy_X2_read : ql_Y yX2_read cX2_read 4 none 1 := ⟨gw_741, gw_85, by decide, by decide, by decide +kernel⟩
theorem qi_X2_read : Cond.instanceMethod yX2_read ∈ ql_W := gw_739
theorem qs_X2_read : Cond.selects yX2_read.cls yX2_read yX2_read ∈ ql_W := gw_740
theorem qy_X2_slotsCitedBy : ql_Y yX2_slotsCitedBy cX2_slotsCitedBy 6 (some .int) 2 := ⟨gw_744, gw_85, by decide, by decide, by decide +kernel⟩
theorem qi_X2_slotsCitedBy : Cond.static yX2_slotsCitedBy ∈ ql_W := gw_743
theorem qy_X2_slotsFoundFrom : ql_Y yX2_slotsFoundFrom cX2_slotsFoundFrom 7 (some .int) 1 := ⟨gw_759, gw_85, by decide, by decide, by decide +kernel⟩
theorem qi_X2_slotsFoundFrom : Cond.instanceMethod yX2_slotsFoundFrom ∈ ql_W := gw_757
theorem qs_X2_slotsFoundFrom : Cond.selects yX2_slotsFoundFrom.cls yX2_slotsFoundFrom yX2_slotsFoundFrom ∈ ql_W := gw_758
theorem qy_X3_addCite : ql_Y yX3_addCite cX3_addCite 3 none 1 := ⟨gw_930, gw_73, by decide, by decide, by decide +kernel⟩
theorem qi_X3_addCite : Cond.instanceMethod yX3_addCite ∈ ql_W := gw_928
theorem qs_X3_addCite : Cond.selects yX3_addCite.cls yX3_addCite yX3_addCite ∈ ql_W := gw_929
theorem qy_X3_addVersion : ql_Y yX3_addVersion cX3_addVersion 5 none 2 := ⟨gw_869, gw_73, by decide, by decide, by decide +kernel⟩
theorem qi_X3_addVersion : Cond.instanceMethod yX3_addVersion ∈ ql_W := gw_867
theorem qs_X3_addVersion : Cond.selects yX3_addVersion.cls yX3_addVersion yX3_addVersion ∈ ql_W := gw_868
theorem qy_X3_begin : ql_Y yX3_begin cX3_begin 7 none 4 := ⟨gw_800, gw_73, by decide, by decide, by decide +kernel⟩
theorem qi_X3_begin : Cond.instanceMethod yX3_begin ∈ ql_W := gw_798
theorem qs_X3_begin : Cond.selects yX3_begin.cls yX3_begin yX3_begin ∈ ql_W := gw_799
theorem qy_X3_citeAtPlace : ql_Y yX3_citeAtPlace cX3_citeAtPlace 2 (some .int) 1 := ⟨gw_429, gw_73, by decide, by decide, by decide +kernel⟩
theorem qi_X3_citeAtPlace : Cond.instanceMethod yX3_citeAtPlace ∈ ql_W := gw_427
theorem qs_X3_citeAtPlace : Cond.selects yX3_citeAtPlace.cls yX3_citeAtPlace yX3_citeAtPlace ∈ ql_W := gw_428
theorem qy_X3_citesId : ql_Y yX3_citesId cX3_citesId 2 (some .boolean) 1 := ⟨gw_926, gw_73, by decide, by decide, by decide +kernel⟩
theorem qi_X3_citesId : Cond.instanceMethod yX3_citesId ∈ ql_W := gw_924
theorem qs_X3_citesId : Cond.selects yX3_citesId.cls yX3_citesId yX3_citesId ∈ ql_W := gw_925
theorem qy_X3_countCites : ql_Y yX3_countCites cX3_countCites 2 (some .int) 0 := ⟨gw_425, gw_73, by decide, by decide, by decide +kernel⟩
theorem qi_X3_countCites : Cond.instanceMethod yX3_countCites ∈ ql_W := gw_423
theorem qs_X3_countCites : Cond.selects yX3_countCites.cls yX3_countCites yX3_countCites ∈ ql_W := gw_424
theorem qy_X3_countVersions : ql_Y yX3_countVersions cX3_countVersions 2 (some .int) 0 := ⟨gw_470, gw_73, by decide, by decide, by decide +kernel⟩
theorem qi_X3_countVersions : Cond.instanceMethod yX3_countVersions ∈ ql_W := gw_468
theorem qs_X3_countVersions : Cond.selects yX3_countVersions.cls yX3_countVersions yX3_countVersions ∈ ql_W := gw_469
theorem qy_X3_firstDay : ql_Y yX3_firstDay cX3_firstDay 1 (some .int) 0 := ⟨gw_709, gw_73, by decide, by decide, by decide +kernel⟩
theorem qi_X3_firstDay : Cond.instanceMethod yX3_firstDay ∈ ql_W := gw_707
theorem qs_X3_firstDay : Cond.selects yX3_firstDay.cls yX3_firstDay yX3_firstDay ∈ ql_W := gw_708
theorem qy_X3_hasRoomForVersion : ql_Y yX3_hasRoomForVersion cX3_hasRoomForVersion 1 (some .boolean) 0 := ⟨gw_854, gw_73, by decide, by decide, by decide +kernel⟩
theorem qi_X3_hasRoomForVersion : Cond.instanceMethod yX3_hasRoomForVersion ∈ ql_W := gw_852
theorem qs_X3_hasRoomForVersion : Cond.selects yX3_hasRoomForVersion.cls yX3_hasRoomForVersion yX3_hasRoomForVersion ∈ ql_W := gw_853
theorem qy_X3_hasSunset : ql_Y yX3_hasSunset cX3_hasSunset 1 (some .boolean) 0 := ⟨gw_417, gw_73, by decide, by decide, by decide +kernel⟩
theorem qi_X3_hasSunset : Cond.instanceMethod yX3_hasSunset ∈ ql_W := gw_415
theorem qs_X3_hasSunset : Cond.selects yX3_hasSunset.cls yX3_hasSunset yX3_hasSunset ∈ ql_W := gw_416
theorem qy_X3_holdsOn : ql_Y yX3_holdsOn cX3_holdsOn 2 (some .boolean) 1 := ⟨gw_648, gw_73, by decide, by decide, by decide +kernel⟩
theorem qi_X3_holdsOn : Cond.instanceMethod yX3_holdsOn ∈ ql_W := gw_646
theorem qs_X3_holdsOn : Cond.selects yX3_holdsOn.cls yX3_holdsOn yX3_holdsOn ∈ ql_W := gw_647
theorem qy_X3_keepLastVersion : ql_Y yX3_keepLastVersion cX3_keepLastVersion 2 none 0 := ⟨gw_466, gw_73, by decide, by decide, by decide +kernel⟩
theorem qi_X3_keepLastVersion : Cond.instanceMethod yX3_keepLastVersion ∈ ql_W := gw_464
theorem qs_X3_keepLastVersion : Cond.selects yX3_keepLastVersion.cls yX3_keepLastVersion yX3_keepLastVersion ∈ ql_W := gw_465
theorem qy_X3_keepOnly : ql_Y yX3_keepOnly cX3_keepOnly 5 none 2 := ⟨gw_474, gw_73, by decide, by decide, by decide +kernel⟩
theorem qi_X3_keepOnly : Cond.instanceMethod yX3_keepOnly ∈ ql_W := gw_473
theorem qs_X3_keepOnly : Cond.selects yX3_keepOnly.cls yX3_keepOnly yX3_keepOnly ∈ ql_W := gw_6
theorem qy_X3_lapsedBy : ql_Y yX3_lapsedBy cX3_lapsedBy 2 (some .boolean) 1 := ⟨gw_413, gw_73, by decide, by decide, by decide +kernel⟩
theorem qi_X3_lapsedBy : Cond.instanceMethod yX3_lapsedBy ∈ ql_W := gw_411
theorem qs_X3_lapsedBy : Cond.selects yX3_lapsedBy.cls yX3_lapsedBy yX3_lapsedBy ∈ ql_W := gw_412
theorem qy_X3_latestText : ql_Y yX3_latestText cX3_latestText 2 (some .long) 0 := ⟨gw_660, gw_73, by decide, by decide, by decide +kernel⟩
theorem qi_X3_latestText : Cond.instanceMethod yX3_latestText ∈ ql_W := gw_658
theorem qs_X3_latestText : Cond.selects yX3_latestText.cls yX3_latestText yX3_latestText ∈ ql_W := gw_659
theorem qy_X3_placeOfCite : ql_Y yX3_placeOfCite cX3_placeOfCite 4 (some .int) 1 := ⟨gw_445, gw_73, by decide, by decide, by decide +kernel⟩
theorem qi_X3_placeOfCite : Cond.instanceMethod yX3_placeOfCite ∈ ql_W := gw_444
theorem qs_X3_placeOfCite : Cond.selects yX3_placeOfCite.cls yX3_placeOfCite yX3_placeOfCite ∈ ql_W := gw_2
theorem qy_X3_removeCite : ql_Y yX3_removeCite cX3_removeCite 4 none 1 := ⟨gw_441, gw_73, by decide, by decide, by decide +kernel⟩
theorem qi_X3_removeCite : Cond.instanceMethod yX3_removeCite ∈ ql_W := gw_439
theorem qs_X3_removeCite : Cond.selects yX3_removeCite.cls yX3_removeCite yX3_removeCite ∈ ql_W := gw_440
theorem qy_X3_textOnDay : ql_Y yX3_textOnDay cX3_textOnDay 6 (some .long) 1 := ⟨gw_713, gw_73, by decide, by decide, by decide +kernel⟩
theorem qi_X3_textOnDay : Cond.instanceMethod yX3_textOnDay ∈ ql_W := gw_711
theorem qs_X3_textOnDay : Cond.selects yX3_textOnDay.cls yX3_textOnDay yX3_textOnDay ∈ ql_W := gw_712
theorem qy_X5_byBeginnings : ql_Y yX5_byBeginnings cX5_byBeginnings 9 (some .int) 2 := ⟨gw_717, gw_83, by decide, by decide, by decide +kernel⟩
theorem qi_X5_byBeginnings : Cond.instanceMethod yX5_byBeginnings ∈ ql_W := gw_715
theorem qs_X5_byBeginnings : Cond.selects yX5_byBeginnings.cls yX5_byBeginnings yX5_byBeginnings ∈ ql_W := gw_716
theorem qy_X5_byEnds : ql_Y yX5_byEnds cX5_byEnds 9 (some .int) 2 := ⟨gw_731, gw_83, by decide, by decide, by decide +kernel⟩
theorem qi_X5_byEnds : Cond.instanceMethod yX5_byEnds ∈ ql_W := gw_729
theorem qs_X5_byEnds : Cond.selects yX5_byEnds.cls yX5_byEnds yX5_byEnds ∈ ql_W := gw_730
theorem qy_X6_keep : ql_Y yX6_keep cX6_keep 2 none 0 := ⟨gw_620, gw_74, by decide, by decide, by decide +kernel⟩
theorem qi_X6_keep : Cond.instanceMethod yX6_keep ∈ ql_W := gw_618
theorem qs_X6_keep : Cond.selects yX6_keep.cls yX6_keep yX6_keep ∈ ql_W := gw_619
theorem qy_X9_before : ql_Y yX9_before cX9_before 3 (some .long) 2 := ⟨gw_860, gw_88, by decide, by decide, by decide +kernel⟩
theorem qi_X9_before : Cond.static yX9_before ∈ ql_W := gw_859
theorem qy_X9_codeAt : ql_Y yX9_codeAt cX9_codeAt 3 (some .int) 2 := ⟨gw_723, gw_88, by decide, by decide, by decide +kernel⟩
theorem qi_X9_codeAt : Cond.static yX9_codeAt ∈ ql_W := gw_722
theorem qy_X9_isNote : ql_Y yX9_isNote cX9_isNote 1 (some .boolean) 1 := ⟨gw_785, gw_88, by decide, by decide, by decide +kernel⟩
theorem qi_X9_isNote : Cond.static yX9_isNote ∈ ql_W := gw_784
theorem qy_X9_lengthOf : ql_Y yX9_lengthOf cX9_lengthOf 3 (some .int) 1 := ⟨gw_720, gw_88, by decide, by decide, by decide +kernel⟩
theorem qi_X9_lengthOf : Cond.static yX9_lengthOf ∈ ql_W := gw_719
theorem qy_X9_noteOf : ql_Y yX9_noteOf cX9_noteOf 3 (some .char) 2 := ⟨gw_726, gw_88, by decide, by decide, by decide +kernel⟩
theorem qi_X9_noteOf : Cond.static yX9_noteOf ∈ ql_W := gw_725
theorem qy_X9_ofNote : ql_Y yX9_ofNote cX9_ofNote 1 (some .long) 1 := ⟨gw_796, gw_88, by decide, by decide, by decide +kernel⟩
theorem qi_X9_ofNote : Cond.static yX9_ofNote ∈ ql_W := gw_795
theorem qy_X9_withDeleted : ql_Y yX9_withDeleted cX9_withDeleted 5 (some .long) 2 := ⟨gw_887, gw_88, by decide, by decide, by decide +kernel⟩
theorem qi_X9_withDeleted : Cond.static yX9_withDeleted ∈ ql_W := gw_886
theorem qy_X9_withInserted : ql_Y yX9_withInserted cX9_withInserted 6 (some .long) 3 := ⟨gw_857, gw_88, by decide, by decide, by decide +kernel⟩
theorem qi_X9_withInserted : Cond.static yX9_withInserted ∈ ql_W := gw_856
theorem qy_X9_withReplaced : ql_Y yX9_withReplaced cX9_withReplaced 4 (some .long) 3 := ⟨gw_884, gw_88, by decide, by decide, by decide +kernel⟩
theorem qi_X9_withReplaced : Cond.static yX9_withReplaced ∈ ql_W := gw_883
