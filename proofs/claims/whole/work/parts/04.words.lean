/-- which method a call of a private one of the class above a StringBuilder goes to (true by the tables: ql_xs_ok) -/
def ql_xs : List Cond := [.selects RJ4 yJ5_ensureCapacityInternal_d00df yJ5_ensureCapacityInternal_d00df, .selects RJ4 yJ5_newCapacity_0f7a4 yJ5_newCapacity_0f7a4]
def ql_W : List Cond := (ql_xs ++ lw_tbl).filter goodWord
theorem ql_in {w : Cond} (h : w ∈ lw_tbl) (g : goodWord w = true) : w ∈ ql_W := List.mem_filter.mpr ⟨List.mem_append_right _ h, g⟩
theorem qx_eci : Cond.selects RJ4 yJ5_ensureCapacityInternal_d00df yJ5_ensureCapacityInternal_d00df ∈ ql_W := List.mem_filter.mpr ⟨List.mem_append_left _ List.mem_cons_self, rfl⟩
theorem qx_nca : Cond.selects RJ4 yJ5_newCapacity_0f7a4 yJ5_newCapacity_0f7a4 ∈ ql_W := List.mem_filter.mpr ⟨List.mem_append_left _ (List.mem_cons_of_mem _ List.mem_cons_self), rfl⟩
theorem gw_0 : Cond.selects RX1 yX1_endLapsedClauses yX1_endLapsedClauses ∈ ql_W := ql_in (List.mem_of_getElem? (i := 0) (by decide +kernel)) rfl
theorem gw_1 : Cond.selects RX1 yX1_dropCitesOfNoClause yX1_dropCitesOfNoClause ∈ ql_W := ql_in (List.mem_of_getElem? (i := 1) (by decide +kernel)) rfl
theorem gw_2 : Cond.selects RX3 yX3_placeOfCite yX3_placeOfCite ∈ ql_W := ql_in (List.mem_of_getElem? (i := 2) (by decide +kernel)) rfl
theorem gw_3 : Cond.selects RX1 yX1_renumberSections yX1_renumberSections ∈ ql_W := ql_in (List.mem_of_getElem? (i := 3) (by decide +kernel)) rfl
theorem gw_4 : Cond.selects RX1 yX1_countSectionsBelow yX1_countSectionsBelow ∈ ql_W := ql_in (List.mem_of_getElem? (i := 4) (by decide +kernel)) rfl
theorem gw_5 : Cond.selects RX1 yX1_forgetOldVersions yX1_forgetOldVersions ∈ ql_W := ql_in (List.mem_of_getElem? (i := 5) (by decide +kernel)) rfl
theorem gw_6 : Cond.selects RX3 yX3_keepOnly yX3_keepOnly ∈ ql_W := ql_in (List.mem_of_getElem? (i := 6) (by decide +kernel)) rfl
theorem gw_7 : Cond.selects RX11 yX11_settle yX11_settle ∈ ql_W := ql_in (List.mem_of_getElem? (i := 7) (by decide +kernel)) rfl
theorem gw_8 : Cond.selects "java/lang/Throwable" ⟨"java/lang/Throwable", "fillInStackTrace", "(I)Ljava/lang/Throwable;"⟩ ⟨"java/lang/Throwable", "fillInStackTrace", "(I)Ljava/lang/Throwable;"⟩ ∈ ql_W := ql_in (List.mem_of_getElem? (i := 8) (by decide +kernel)) rfl
theorem gw_9 : Cond.selects RX11 yX11_differencesAgree yX11_differencesAgree ∈ ql_W := ql_in (List.mem_of_getElem? (i := 9) (by decide +kernel)) rfl
theorem gw_10 : Cond.selects RX11 yX11_indirectCitesAgree yX11_indirectCitesAgree ∈ ql_W := ql_in (List.mem_of_getElem? (i := 10) (by decide +kernel)) rfl
theorem gw_11 : Cond.selects RX1 yX1_freeClause yX1_freeClause ∈ ql_W := ql_in (List.mem_of_getElem? (i := 11) (by decide +kernel)) rfl
theorem gw_12 : Cond.selects RX1 yX1_isAmendable yX1_isAmendable ∈ ql_W := ql_in (List.mem_of_getElem? (i := 12) (by decide +kernel)) rfl
theorem gw_13 : Cond.selects RX1 yX1_amend yX1_amend ∈ ql_W := ql_in (List.mem_of_getElem? (i := 13) (by decide +kernel)) rfl
theorem gw_14 : Cond.selects RX1 yX1_countLapsed yX1_countLapsed ∈ ql_W := ql_in (List.mem_of_getElem? (i := 14) (by decide +kernel)) rfl
theorem gw_15 : Cond.selects RX11 yX11_clauseOf yX11_clauseOf ∈ ql_W := ql_in (List.mem_of_getElem? (i := 15) (by decide +kernel)) rfl
theorem gw_16 : Cond.selects RX11 yX11_clauseWithSunset yX11_clauseWithSunset ∈ ql_W := ql_in (List.mem_of_getElem? (i := 16) (by decide +kernel)) rfl
theorem gw_17 : Cond.selects RX11 yX11_slotOf yX11_slotOf ∈ ql_W := ql_in (List.mem_of_getElem? (i := 17) (by decide +kernel)) rfl
theorem gw_18 : Cond.selects RX11 yX11_countRankedBefore yX11_countRankedBefore ∈ ql_W := ql_in (List.mem_of_getElem? (i := 18) (by decide +kernel)) rfl
theorem gw_19 : Cond.selects RX11 yX11_appendNotes yX11_appendNotes ∈ ql_W := ql_in (List.mem_of_getElem? (i := 19) (by decide +kernel)) rfl
theorem gw_20 : Cond.selects RX8 yX8_readKeyword yX8_readKeyword ∈ ql_W := ql_in (List.mem_of_getElem? (i := 20) (by decide +kernel)) rfl
theorem gw_21 : Cond.selects RX8 yX8_countSame yX8_countSame ∈ ql_W := ql_in (List.mem_of_getElem? (i := 21) (by decide +kernel)) rfl
theorem gw_22 : Cond.selects RX8 yX8_isNext yX8_isNext ∈ ql_W := ql_in (List.mem_of_getElem? (i := 22) (by decide +kernel)) rfl
theorem gw_23 : Cond.selects RX8 yX8_readForm yX8_readForm ∈ ql_W := ql_in (List.mem_of_getElem? (i := 23) (by decide +kernel)) rfl
theorem gw_24 : Cond.selects RX8 yX8_readPart yX8_readPart ∈ ql_W := ql_in (List.mem_of_getElem? (i := 24) (by decide +kernel)) rfl
theorem gw_25 : Cond.selects RX8 yX8_readNumber yX8_readNumber ∈ ql_W := ql_in (List.mem_of_getElem? (i := 25) (by decide +kernel)) rfl
theorem gw_26 : Cond.selects RX8 yX8_isNextIn yX8_isNextIn ∈ ql_W := ql_in (List.mem_of_getElem? (i := 26) (by decide +kernel)) rfl
theorem gw_27 : Cond.selects RX8 yX8_readNote yX8_readNote ∈ ql_W := ql_in (List.mem_of_getElem? (i := 27) (by decide +kernel)) rfl
theorem gw_28 : Cond.selects RX8 yX8_readSign yX8_readSign ∈ ql_W := ql_in (List.mem_of_getElem? (i := 28) (by decide +kernel)) rfl
theorem gw_29 : Cond.selects RX12 yX12_withSection yX12_withSection ∈ ql_W := ql_in (List.mem_of_getElem? (i := 29) (by decide +kernel)) rfl
theorem gw_30 : Cond.selects RX12 yX12_of yX12_of ∈ ql_W := ql_in (List.mem_of_getElem? (i := 30) (by decide +kernel)) rfl
theorem gw_31 : Cond.selects RX12 yX12_fails yX12_fails ∈ ql_W := ql_in (List.mem_of_getElem? (i := 31) (by decide +kernel)) rfl
theorem gw_32 : Cond.selects RX12 yX12_keeps yX12_keeps ∈ ql_W := ql_in (List.mem_of_getElem? (i := 32) (by decide +kernel)) rfl
theorem gw_33 : Cond.selects RX12 yX12_lays yX12_lays ∈ ql_W := ql_in (List.mem_of_getElem? (i := 33) (by decide +kernel)) rfl
theorem gw_34 : Cond.selects RX12 yX12_puts yX12_puts ∈ ql_W := ql_in (List.mem_of_getElem? (i := 34) (by decide +kernel)) rfl
theorem gw_35 : Cond.selects RX12 yX12_placeOf yX12_placeOf ∈ ql_W := ql_in (List.mem_of_getElem? (i := 35) (by decide +kernel)) rfl
theorem gw_36 : Cond.selects RX12 yX12_long0 yX12_long0 ∈ ql_W := ql_in (List.mem_of_getElem? (i := 36) (by decide +kernel)) rfl
theorem gw_37 : Cond.selects RX12 yX12_lastVersion yX12_lastVersion ∈ ql_W := ql_in (List.mem_of_getElem? (i := 37) (by decide +kernel)) rfl
theorem gw_38 : Cond.selects RX12 yX12_isClosed yX12_isClosed ∈ ql_W := ql_in (List.mem_of_getElem? (i := 38) (by decide +kernel)) rfl
theorem gw_39 : Cond.selects RX12 yX12_isValid yX12_isValid ∈ ql_W := ql_in (List.mem_of_getElem? (i := 39) (by decide +kernel)) rfl
theorem gw_40 : Cond.selects RX12 yX12_amends yX12_amends ∈ ql_W := ql_in (List.mem_of_getElem? (i := 40) (by decide +kernel)) rfl
theorem gw_41 : Cond.selects RX12 yX12_note yX12_note ∈ ql_W := ql_in (List.mem_of_getElem? (i := 41) (by decide +kernel)) rfl
theorem gw_42 : Cond.selects RX12 yX12_isOver yX12_isOver ∈ ql_W := ql_in (List.mem_of_getElem? (i := 42) (by decide +kernel)) rfl
theorem gw_43 : Cond.selects RX12 yX12_cited yX12_cited ∈ ql_W := ql_in (List.mem_of_getElem? (i := 43) (by decide +kernel)) rfl
theorem gw_44 : Cond.selects RX12 yX12_dropsCite yX12_dropsCite ∈ ql_W := ql_in (List.mem_of_getElem? (i := 44) (by decide +kernel)) rfl
theorem gw_45 : Cond.selects RX12 yX12_drops yX12_drops ∈ ql_W := ql_in (List.mem_of_getElem? (i := 45) (by decide +kernel)) rfl
theorem gw_46 : Cond.selects RX12 yX12_sectionsBefore yX12_sectionsBefore ∈ ql_W := ql_in (List.mem_of_getElem? (i := 46) (by decide +kernel)) rfl
theorem gw_47 : Cond.selects RX12 yX12_isNone yX12_isNone ∈ ql_W := ql_in (List.mem_of_getElem? (i := 47) (by decide +kernel)) rfl
theorem gw_48 : Cond.selects RX12 yX12_isEndless yX12_isEndless ∈ ql_W := ql_in (List.mem_of_getElem? (i := 48) (by decide +kernel)) rfl
theorem gw_49 : Cond.selects RX12 yX12_valid yX12_valid ∈ ql_W := ql_in (List.mem_of_getElem? (i := 49) (by decide +kernel)) rfl
theorem gw_50 : Cond.selects RX12 yX12_isBlank yX12_isBlank ∈ ql_W := ql_in (List.mem_of_getElem? (i := 50) (by decide +kernel)) rfl
theorem gw_51 : Cond.selects RX12 yX12_versionOn yX12_versionOn ∈ ql_W := ql_in (List.mem_of_getElem? (i := 51) (by decide +kernel)) rfl
theorem gw_52 : Cond.selects RX12 yX12_apart yX12_apart ∈ ql_W := ql_in (List.mem_of_getElem? (i := 52) (by decide +kernel)) rfl
theorem gw_53 : Cond.selects RX12 yX12_pairs yX12_pairs ∈ ql_W := ql_in (List.mem_of_getElem? (i := 53) (by decide +kernel)) rfl
theorem gw_54 : Cond.selects RX12 yX12_areAlike yX12_areAlike ∈ ql_W := ql_in (List.mem_of_getElem? (i := 54) (by decide +kernel)) rfl
theorem gw_55 : Cond.selects RX12 yX12_isReached yX12_isReached ∈ ql_W := ql_in (List.mem_of_getElem? (i := 55) (by decide +kernel)) rfl
theorem gw_56 : Cond.selects RX12 yX12_reached yX12_reached ∈ ql_W := ql_in (List.mem_of_getElem? (i := 56) (by decide +kernel)) rfl
theorem gw_57 : Cond.selects RX12 yX12_straight yX12_straight ∈ ql_W := ql_in (List.mem_of_getElem? (i := 57) (by decide +kernel)) rfl
theorem gw_58 : Cond.selects RX12 yX12_citing yX12_citing ∈ ql_W := ql_in (List.mem_of_getElem? (i := 58) (by decide +kernel)) rfl
theorem gw_59 : Cond.selects RX12 yX12_writesNumber yX12_writesNumber ∈ ql_W := ql_in (List.mem_of_getElem? (i := 59) (by decide +kernel)) rfl
theorem gw_60 : Cond.selects RX12 yX12_writes yX12_writes ∈ ql_W := ql_in (List.mem_of_getElem? (i := 60) (by decide +kernel)) rfl
theorem gw_61 : Cond.selects RX12 yX12_isScript yX12_isScript ∈ ql_W := ql_in (List.mem_of_getElem? (i := 61) (by decide +kernel)) rfl
theorem gw_62 : Cond.selects RX12 yX12_commandHere yX12_commandHere ∈ ql_W := ql_in (List.mem_of_getElem? (i := 62) (by decide +kernel)) rfl
theorem gw_63 : Cond.selects RX12 yX12_skips yX12_skips ∈ ql_W := ql_in (List.mem_of_getElem? (i := 63) (by decide +kernel)) rfl
theorem gw_64 : Cond.selects RX12 yX12_here yX12_here ∈ ql_W := ql_in (List.mem_of_getElem? (i := 64) (by decide +kernel)) rfl
theorem gw_65 : Cond.selects RX12 yX12_isWord yX12_isWord ∈ ql_W := ql_in (List.mem_of_getElem? (i := 65) (by decide +kernel)) rfl
theorem gw_66 : Cond.selects RX12 yX12_figures yX12_figures ∈ ql_W := ql_in (List.mem_of_getElem? (i := 66) (by decide +kernel)) rfl
theorem gw_67 : Cond.selects RX12 yX12_noteHere yX12_noteHere ∈ ql_W := ql_in (List.mem_of_getElem? (i := 67) (by decide +kernel)) rfl
theorem gw_68 : Cond.selects RX12 yX12_bothHere yX12_bothHere ∈ ql_W := ql_in (List.mem_of_getElem? (i := 68) (by decide +kernel)) rfl
theorem gw_69 : Cond.selects RX12 yX12_carries yX12_carries ∈ ql_W := ql_in (List.mem_of_getElem? (i := 69) (by decide +kernel)) rfl
theorem gw_70 : Cond.initialized RL ∈ ql_W := ql_in (List.mem_of_getElem? (i := 70) (by decide +kernel)) rfl
theorem gw_71 : Cond.initialized RX11 ∈ ql_W := ql_in (List.mem_of_getElem? (i := 71) (by decide +kernel)) rfl
theorem gw_72 : Cond.initialized RX1 ∈ ql_W := ql_in (List.mem_of_getElem? (i := 72) (by decide +kernel)) rfl
theorem gw_73 : Cond.initialized RX3 ∈ ql_W := ql_in (List.mem_of_getElem? (i := 73) (by decide +kernel)) rfl
theorem gw_74 : Cond.initialized RX6 ∈ ql_W := ql_in (List.mem_of_getElem? (i := 74) (by decide +kernel)) rfl
theorem gw_75 : Cond.initialized RX8 ∈ ql_W := ql_in (List.mem_of_getElem? (i := 75) (by decide +kernel)) rfl
theorem gw_76 : Cond.initialized RJ5 ∈ ql_W := ql_in (List.mem_of_getElem? (i := 76) (by decide +kernel)) rfl
theorem gw_77 : Cond.initialized RJ4 ∈ ql_W := ql_in (List.mem_of_getElem? (i := 77) (by decide +kernel)) rfl
theorem gw_78 : Cond.initialized RJ0 ∈ ql_W := ql_in (List.mem_of_getElem? (i := 78) (by decide +kernel)) rfl
theorem gw_79 : Cond.initialized RJ2 ∈ ql_W := ql_in (List.mem_of_getElem? (i := 79) (by decide +kernel)) rfl
theorem gw_80 : Cond.initialized RX4 ∈ ql_W := ql_in (List.mem_of_getElem? (i := 80) (by decide +kernel)) rfl
theorem gw_81 : Cond.initialized RJx29ce0 ∈ ql_W := ql_in (List.mem_of_getElem? (i := 81) (by decide +kernel)) rfl
theorem gw_82 : Cond.initialized RX7 ∈ ql_W := ql_in (List.mem_of_getElem? (i := 82) (by decide +kernel)) rfl
theorem gw_83 : Cond.initialized RX5 ∈ ql_W := ql_in (List.mem_of_getElem? (i := 83) (by decide +kernel)) rfl
theorem gw_84 : Cond.initialized RX10 ∈ ql_W := ql_in (List.mem_of_getElem? (i := 84) (by decide +kernel)) rfl
theorem gw_85 : Cond.initialized RX2 ∈ ql_W := ql_in (List.mem_of_getElem? (i := 85) (by decide +kernel)) rfl
theorem gw_86 : Cond.initialized RX12 ∈ ql_W := ql_in (List.mem_of_getElem? (i := 86) (by decide +kernel)) rfl
theorem gw_87 : Cond.initialized RJ10 ∈ ql_W := ql_in (List.mem_of_getElem? (i := 87) (by decide +kernel)) rfl
theorem gw_88 : Cond.initialized RX9 ∈ ql_W := ql_in (List.mem_of_getElem? (i := 88) (by decide +kernel)) rfl
theorem gw_89 : Cond.initialized "java/lang/Throwable" ∈ ql_W := ql_in (List.mem_of_getElem? (i := 89) (by decide +kernel)) rfl
theorem gw_90 : Cond.initialized "java/lang/Exception" ∈ ql_W := ql_in (List.mem_of_getElem? (i := 90) (by decide +kernel)) rfl
theorem gw_91 : Cond.initialized "java/lang/RuntimeException" ∈ ql_W := ql_in (List.mem_of_getElem? (i := 91) (by decide +kernel)) rfl
theorem gw_92 : Cond.initialized "java/util/NoSuchElementException" ∈ ql_W := ql_in (List.mem_of_getElem? (i := 92) (by decide +kernel)) rfl
theorem gw_93 : Cond.initialized "java/lang/IndexOutOfBoundsException" ∈ ql_W := ql_in (List.mem_of_getElem? (i := 93) (by decide +kernel)) rfl
theorem gw_94 : Cond.initialized "java/lang/IllegalArgumentException" ∈ ql_W := ql_in (List.mem_of_getElem? (i := 94) (by decide +kernel)) rfl
theorem gw_95 : Cond.initialized "java/lang/IllegalStateException" ∈ ql_W := ql_in (List.mem_of_getElem? (i := 95) (by decide +kernel)) rfl
theorem gw_96 : Cond.initialized "java/lang/UnsupportedOperationException" ∈ ql_W := ql_in (List.mem_of_getElem? (i := 96) (by decide +kernel)) rfl
theorem gw_97 : Cond.initialized RJ9 ∈ ql_W := ql_in (List.mem_of_getElem? (i := 97) (by decide +kernel)) rfl
theorem gw_98 : Cond.initialized RJx00060 ∈ ql_W := ql_in (List.mem_of_getElem? (i := 98) (by decide +kernel)) rfl
theorem gw_99 : Cond.initialized "java/lang/ArithmeticException" ∈ ql_W := ql_in (List.mem_of_getElem? (i := 99) (by decide +kernel)) rfl
theorem gw_100 : Cond.initialized RJx7c733 ∈ ql_W := ql_in (List.mem_of_getElem? (i := 100) (by decide +kernel)) rfl
theorem gw_101 : Cond.initialized RJ8 ∈ ql_W := ql_in (List.mem_of_getElem? (i := 101) (by decide +kernel)) rfl
theorem gw_102 : Cond.initialized RJ7 ∈ ql_W := ql_in (List.mem_of_getElem? (i := 102) (by decide +kernel)) rfl
theorem gw_103 : Cond.initialized RJ3 ∈ ql_W := ql_in (List.mem_of_getElem? (i := 103) (by decide +kernel)) rfl
theorem gw_104 : Cond.initialized RJ1 ∈ ql_W := ql_in (List.mem_of_getElem? (i := 104) (by decide +kernel)) rfl
theorem gw_105 : Cond.initialized RJxd2413 ∈ ql_W := ql_in (List.mem_of_getElem? (i := 105) (by decide +kernel)) rfl
theorem gw_106 : Cond.initialized RJ6 ∈ ql_W := ql_in (List.mem_of_getElem? (i := 106) (by decide +kernel)) rfl
theorem gw_107 : Cond.initialized RX0 ∈ ql_W := ql_in (List.mem_of_getElem? (i := 107) (by decide +kernel)) rfl
theorem gw_108 : Cond.classLink RL 8 RX11 ∈ ql_W := ql_in (List.mem_of_getElem? (i := 108) (by decide +kernel)) rfl
theorem gw_109 : Cond.instantiable RX11 11 ∈ ql_W := ql_in (List.mem_of_getElem? (i := 109) (by decide +kernel)) rfl
theorem gw_110 : Cond.methodLink RL 155 yX11_init ∈ ql_W := ql_in (List.mem_of_getElem? (i := 110) (by decide +kernel)) rfl
theorem gw_111 : Cond.instanceMethod yX11_init ∈ ql_W := ql_in (List.mem_of_getElem? (i := 111) (by decide +kernel)) rfl
theorem gw_112 : Cond.code yX11_init cX11_init 1 (Option.none : Option Jvm.ClassFile.FieldType) ∈ ql_W := ql_in (List.mem_of_getElem? (i := 112) (by decide +kernel)) rfl
theorem gw_113 : Cond.methodLink RX11 1 ⟨"java/lang/Object", "<init>", "()V"⟩ ∈ ql_W := ql_in (List.mem_of_getElem? (i := 113) (by decide +kernel)) rfl
theorem gw_114 : Cond.instanceMethod ⟨"java/lang/Object", "<init>", "()V"⟩ ∈ ql_W := ql_in (List.mem_of_getElem? (i := 114) (by decide +kernel)) rfl
theorem gw_115 : Cond.code ⟨"java/lang/Object", "<init>", "()V"⟩ object_method_1_code 1 (Option.none : Option Jvm.ClassFile.FieldType) ∈ ql_W := ql_in (List.mem_of_getElem? (i := 115) (by decide +kernel)) rfl
theorem gw_116 : Cond.classLink RX11 7 RX1 ∈ ql_W := ql_in (List.mem_of_getElem? (i := 116) (by decide +kernel)) rfl
theorem gw_117 : Cond.instantiable RX1 9 ∈ ql_W := ql_in (List.mem_of_getElem? (i := 117) (by decide +kernel)) rfl
theorem gw_118 : Cond.methodLink RX11 9 yX1_init ∈ ql_W := ql_in (List.mem_of_getElem? (i := 118) (by decide +kernel)) rfl
theorem gw_119 : Cond.instanceMethod yX1_init ∈ ql_W := ql_in (List.mem_of_getElem? (i := 119) (by decide +kernel)) rfl
theorem gw_120 : Cond.code yX1_init cX1_init 2 (Option.none : Option Jvm.ClassFile.FieldType) ∈ ql_W := ql_in (List.mem_of_getElem? (i := 120) (by decide +kernel)) rfl
theorem gw_121 : Cond.methodLink RX1 3 ⟨"java/lang/Object", "<init>", "()V"⟩ ∈ ql_W := ql_in (List.mem_of_getElem? (i := 121) (by decide +kernel)) rfl
theorem gw_122 : Cond.classLink RX1 9 RX3 ∈ ql_W := ql_in (List.mem_of_getElem? (i := 122) (by decide +kernel)) rfl
theorem gw_124 : Cond.instantiable RX3 8 ∈ ql_W := ql_in (List.mem_of_getElem? (i := 124) (by decide +kernel)) rfl
theorem gw_126 : Cond.instanceMethod yX3_init ∈ ql_W := ql_in (List.mem_of_getElem? (i := 126) (by decide +kernel)) rfl
theorem gw_127 : Cond.code yX3_init cX3_init 1 (Option.none : Option Jvm.ClassFile.FieldType) ∈ ql_W := ql_in (List.mem_of_getElem? (i := 127) (by decide +kernel)) rfl
theorem gw_128 : Cond.methodLink RX3 3 ⟨"java/lang/Object", "<init>", "()V"⟩ ∈ ql_W := ql_in (List.mem_of_getElem? (i := 128) (by decide +kernel)) rfl
theorem gw_129 : Cond.fieldLink RX3 9 RX3 "exists" "Z" ∈ ql_W := ql_in (List.mem_of_getElem? (i := 129) (by decide +kernel)) rfl
theorem gw_133 : Cond.fieldLink RX3 15 RX3 "id" "I" ∈ ql_W := ql_in (List.mem_of_getElem? (i := 133) (by decide +kernel)) rfl
theorem gw_136 : Cond.fieldLink RX3 19 RX3 "section" "I" ∈ ql_W := ql_in (List.mem_of_getElem? (i := 136) (by decide +kernel)) rfl
theorem gw_139 : Cond.fieldLink RX3 22 RX3 "enacted" "I" ∈ ql_W := ql_in (List.mem_of_getElem? (i := 139) (by decide +kernel)) rfl
theorem gw_141 : Cond.fieldLink RX3 25 RX3 "sunset" "I" ∈ ql_W := ql_in (List.mem_of_getElem? (i := 141) (by decide +kernel)) rfl
theorem gw_144 : Cond.fieldLink RX3 28 RX3 "versionDays" "[I" ∈ ql_W := ql_in (List.mem_of_getElem? (i := 144) (by decide +kernel)) rfl
theorem gw_145 : Cond.fieldLink RX3 32 RX3 "versionTexts" "[J" ∈ ql_W := ql_in (List.mem_of_getElem? (i := 145) (by decide +kernel)) rfl
theorem gw_146 : Cond.fieldLink RX3 36 RX3 "cites" "[I" ∈ ql_W := ql_in (List.mem_of_getElem? (i := 146) (by decide +kernel)) rfl
theorem gw_147 : Cond.lays RX3 RX3 "exists" "Z" ∈ ql_W := ql_in (List.mem_of_getElem? (i := 147) (by decide +kernel)) rfl
theorem gw_149 : Cond.lays RX3 RX3 "id" "I" ∈ ql_W := ql_in (List.mem_of_getElem? (i := 149) (by decide +kernel)) rfl
theorem gw_151 : Cond.lays RX3 RX3 "section" "I" ∈ ql_W := ql_in (List.mem_of_getElem? (i := 151) (by decide +kernel)) rfl
theorem gw_153 : Cond.lays RX3 RX3 "enacted" "I" ∈ ql_W := ql_in (List.mem_of_getElem? (i := 153) (by decide +kernel)) rfl
theorem gw_155 : Cond.lays RX3 RX3 "sunset" "I" ∈ ql_W := ql_in (List.mem_of_getElem? (i := 155) (by decide +kernel)) rfl
theorem gw_157 : Cond.laysFinal RX3 RX3 "versionDays" "[I" ∈ ql_W := ql_in (List.mem_of_getElem? (i := 157) (by decide +kernel)) rfl
theorem gw_159 : Cond.laysFinal RX3 RX3 "versionTexts" "[J" ∈ ql_W := ql_in (List.mem_of_getElem? (i := 159) (by decide +kernel)) rfl
theorem gw_161 : Cond.laysFinal RX3 RX3 "cites" "[I" ∈ ql_W := ql_in (List.mem_of_getElem? (i := 161) (by decide +kernel)) rfl
theorem gw_163 : Cond.superclass RX3 "java/lang/Object" ∈ ql_W := ql_in (List.mem_of_getElem? (i := 163) (by decide +kernel)) rfl
theorem gw_164 : Cond.arrayClass Jvm.ClassFile.FieldType.int ∈ ql_W := ql_in (List.mem_of_getElem? (i := 164) (by decide +kernel)) rfl
theorem gw_165 : Cond.arrayClass Jvm.ClassFile.FieldType.long ∈ ql_W := ql_in (List.mem_of_getElem? (i := 165) (by decide +kernel)) rfl
theorem gw_166 : Cond.fieldLink RX1 11 RX1 "clauses" "[LClauseLedger$Clause;" ∈ ql_W := ql_in (List.mem_of_getElem? (i := 166) (by decide +kernel)) rfl
theorem gw_169 : Cond.fieldLink RX1 17 RX1 "nextId" "I" ∈ ql_W := ql_in (List.mem_of_getElem? (i := 169) (by decide +kernel)) rfl
theorem gw_170 : Cond.fieldLink RX1 21 RX1 "today" "I" ∈ ql_W := ql_in (List.mem_of_getElem? (i := 170) (by decide +kernel)) rfl
theorem gw_172 : Cond.fieldLink RX1 24 RX1 "added" "I" ∈ ql_W := ql_in (List.mem_of_getElem? (i := 172) (by decide +kernel)) rfl
theorem gw_174 : Cond.fieldLink RX1 27 RX1 "amendments" "I" ∈ ql_W := ql_in (List.mem_of_getElem? (i := 174) (by decide +kernel)) rfl
theorem gw_176 : Cond.fieldLink RX1 30 RX1 "repealed" "I" ∈ ql_W := ql_in (List.mem_of_getElem? (i := 176) (by decide +kernel)) rfl
theorem gw_178 : Cond.fieldLink RX1 33 RX1 "consolidated" "I" ∈ ql_W := ql_in (List.mem_of_getElem? (i := 178) (by decide +kernel)) rfl
theorem gw_180 : Cond.fieldLink RX1 36 RX1 "editions" "I" ∈ ql_W := ql_in (List.mem_of_getElem? (i := 180) (by decide +kernel)) rfl
theorem gw_182 : Cond.fieldLink RX1 39 RX1 "editionDays" "[I" ∈ ql_W := ql_in (List.mem_of_getElem? (i := 182) (by decide +kernel)) rfl
theorem gw_183 : Cond.laysFinal RX1 RX1 "clauses" "[LClauseLedger$Clause;" ∈ ql_W := ql_in (List.mem_of_getElem? (i := 183) (by decide +kernel)) rfl
theorem gw_185 : Cond.lays RX1 RX1 "nextId" "I" ∈ ql_W := ql_in (List.mem_of_getElem? (i := 185) (by decide +kernel)) rfl
theorem gw_187 : Cond.lays RX1 RX1 "today" "I" ∈ ql_W := ql_in (List.mem_of_getElem? (i := 187) (by decide +kernel)) rfl
theorem gw_189 : Cond.lays RX1 RX1 "added" "I" ∈ ql_W := ql_in (List.mem_of_getElem? (i := 189) (by decide +kernel)) rfl
theorem gw_191 : Cond.lays RX1 RX1 "amendments" "I" ∈ ql_W := ql_in (List.mem_of_getElem? (i := 191) (by decide +kernel)) rfl
theorem gw_193 : Cond.lays RX1 RX1 "repealed" "I" ∈ ql_W := ql_in (List.mem_of_getElem? (i := 193) (by decide +kernel)) rfl
theorem gw_195 : Cond.lays RX1 RX1 "consolidated" "I" ∈ ql_W := ql_in (List.mem_of_getElem? (i := 195) (by decide +kernel)) rfl
theorem gw_197 : Cond.lays RX1 RX1 "editions" "I" ∈ ql_W := ql_in (List.mem_of_getElem? (i := 197) (by decide +kernel)) rfl
theorem gw_199 : Cond.laysFinal RX1 RX1 "editionDays" "[I" ∈ ql_W := ql_in (List.mem_of_getElem? (i := 199) (by decide +kernel)) rfl
theorem gw_201 : Cond.superclass RX1 "java/lang/Object" ∈ ql_W := ql_in (List.mem_of_getElem? (i := 201) (by decide +kernel)) rfl
theorem gw_202 : Cond.classLink RX11 23 RX6 ∈ ql_W := ql_in (List.mem_of_getElem? (i := 202) (by decide +kernel)) rfl
theorem gw_203 : Cond.instantiable RX6 4 ∈ ql_W := ql_in (List.mem_of_getElem? (i := 203) (by decide +kernel)) rfl
theorem gw_204 : Cond.methodLink RX11 25 yX6_init ∈ ql_W := ql_in (List.mem_of_getElem? (i := 204) (by decide +kernel)) rfl
theorem gw_205 : Cond.instanceMethod yX6_init ∈ ql_W := ql_in (List.mem_of_getElem? (i := 205) (by decide +kernel)) rfl
theorem gw_206 : Cond.code yX6_init cX6_init 2 (Option.none : Option Jvm.ClassFile.FieldType) ∈ ql_W := ql_in (List.mem_of_getElem? (i := 206) (by decide +kernel)) rfl
theorem gw_207 : Cond.methodLink RX6 3 ⟨"java/lang/Object", "<init>", "()V"⟩ ∈ ql_W := ql_in (List.mem_of_getElem? (i := 207) (by decide +kernel)) rfl
theorem gw_208 : Cond.classLink RX6 9 RX1 ∈ ql_W := ql_in (List.mem_of_getElem? (i := 208) (by decide +kernel)) rfl
theorem gw_210 : Cond.methodLink RX6 17 yX1_init ∈ ql_W := ql_in (List.mem_of_getElem? (i := 210) (by decide +kernel)) rfl
theorem gw_211 : Cond.fieldLink RX6 11 RX6 "past" "[LClauseLedger$Book;" ∈ ql_W := ql_in (List.mem_of_getElem? (i := 211) (by decide +kernel)) rfl
theorem gw_212 : Cond.fieldLink RX6 18 RX6 "before" "LClauseLedger$Book;" ∈ ql_W := ql_in (List.mem_of_getElem? (i := 212) (by decide +kernel)) rfl
theorem gw_213 : Cond.fieldLink RX6 22 RX6 "newest" "I" ∈ ql_W := ql_in (List.mem_of_getElem? (i := 213) (by decide +kernel)) rfl
theorem gw_214 : Cond.fieldLink RX6 26 RX6 "size" "I" ∈ ql_W := ql_in (List.mem_of_getElem? (i := 214) (by decide +kernel)) rfl
theorem gw_216 : Cond.laysFinal RX6 RX6 "past" "[LClauseLedger$Book;" ∈ ql_W := ql_in (List.mem_of_getElem? (i := 216) (by decide +kernel)) rfl
theorem gw_218 : Cond.lays RX6 RX6 "before" "LClauseLedger$Book;" ∈ ql_W := ql_in (List.mem_of_getElem? (i := 218) (by decide +kernel)) rfl
theorem gw_220 : Cond.lays RX6 RX6 "newest" "I" ∈ ql_W := ql_in (List.mem_of_getElem? (i := 220) (by decide +kernel)) rfl
theorem gw_222 : Cond.lays RX6 RX6 "size" "I" ∈ ql_W := ql_in (List.mem_of_getElem? (i := 222) (by decide +kernel)) rfl
theorem gw_224 : Cond.superclass RX6 "java/lang/Object" ∈ ql_W := ql_in (List.mem_of_getElem? (i := 224) (by decide +kernel)) rfl
theorem gw_225 : Cond.classLink RX11 30 RX8 ∈ ql_W := ql_in (List.mem_of_getElem? (i := 225) (by decide +kernel)) rfl
theorem gw_226 : Cond.instantiable RX8 4 ∈ ql_W := ql_in (List.mem_of_getElem? (i := 226) (by decide +kernel)) rfl
theorem gw_227 : Cond.methodLink RX11 32 yX8_init ∈ ql_W := ql_in (List.mem_of_getElem? (i := 227) (by decide +kernel)) rfl
theorem gw_228 : Cond.instanceMethod yX8_init ∈ ql_W := ql_in (List.mem_of_getElem? (i := 228) (by decide +kernel)) rfl
theorem gw_229 : Cond.code yX8_init cX8_init 2 (Option.none : Option Jvm.ClassFile.FieldType) ∈ ql_W := ql_in (List.mem_of_getElem? (i := 229) (by decide +kernel)) rfl
theorem gw_230 : Cond.methodLink RX8 3 ⟨"java/lang/Object", "<init>", "()V"⟩ ∈ ql_W := ql_in (List.mem_of_getElem? (i := 230) (by decide +kernel)) rfl
theorem gw_231 : Cond.classLink RX8 9 RJ4 ∈ ql_W := ql_in (List.mem_of_getElem? (i := 231) (by decide +kernel)) rfl
theorem gw_232 : Cond.instantiable RJ4 4 ∈ ql_W := ql_in (List.mem_of_getElem? (i := 232) (by decide +kernel)) rfl
theorem gw_233 : Cond.methodLink RX8 11 yJ4_init_da8c8 ∈ ql_W := ql_in (List.mem_of_getElem? (i := 233) (by decide +kernel)) rfl
theorem gw_234 : Cond.instanceMethod yJ4_init_da8c8 ∈ ql_W := ql_in (List.mem_of_getElem? (i := 234) (by decide +kernel)) rfl
theorem gw_235 : Cond.code yJ4_init_da8c8 cJ4_init_da8c8 1 (Option.none : Option Jvm.ClassFile.FieldType) ∈ ql_W := ql_in (List.mem_of_getElem? (i := 235) (by decide +kernel)) rfl
theorem gw_236 : Cond.methodLink RJ4 1 yJ5_init_d00df ∈ ql_W := ql_in (List.mem_of_getElem? (i := 236) (by decide +kernel)) rfl
theorem gw_237 : Cond.instanceMethod yJ5_init_d00df ∈ ql_W := ql_in (List.mem_of_getElem? (i := 237) (by decide +kernel)) rfl
theorem gw_238 : Cond.code yJ5_init_d00df cJ5_init_d00df 2 (Option.none : Option Jvm.ClassFile.FieldType) ∈ ql_W := ql_in (List.mem_of_getElem? (i := 238) (by decide +kernel)) rfl
theorem gw_239 : Cond.methodLink RJ5 3 ⟨"java/lang/Object", "<init>", "()V"⟩ ∈ ql_W := ql_in (List.mem_of_getElem? (i := 239) (by decide +kernel)) rfl
theorem gw_240 : Cond.fieldLink RJ5 18 RJ0 "COMPACT_STRINGS" "Z" ∈ ql_W := ql_in (List.mem_of_getElem? (i := 240) (by decide +kernel)) rfl
theorem gw_242 : Cond.methodLink RJ5 26 yJ2_newBytesFor_77867 ∈ ql_W := ql_in (List.mem_of_getElem? (i := 242) (by decide +kernel)) rfl
theorem gw_243 : Cond.static yJ2_newBytesFor_77867 ∈ ql_W := ql_in (List.mem_of_getElem? (i := 243) (by decide +kernel)) rfl
theorem gw_244 : Cond.code yJ2_newBytesFor_77867 cJ2_newBytesFor_77867 1 (Option.some (Jvm.ClassFile.FieldType.array Jvm.ClassFile.FieldType.byte)) ∈ ql_W := ql_in (List.mem_of_getElem? (i := 244) (by decide +kernel)) rfl
theorem gw_245 : Cond.methodLink RJ2 11 yJ2_newBytesLength_0f7a4 ∈ ql_W := ql_in (List.mem_of_getElem? (i := 245) (by decide +kernel)) rfl
theorem gw_246 : Cond.static yJ2_newBytesLength_0f7a4 ∈ ql_W := ql_in (List.mem_of_getElem? (i := 246) (by decide +kernel)) rfl
theorem gw_247 : Cond.code yJ2_newBytesLength_0f7a4 cJ2_newBytesLength_0f7a4 1 (Option.some Jvm.ClassFile.FieldType.int) ∈ ql_W := ql_in (List.mem_of_getElem? (i := 247) (by decide +kernel)) rfl
theorem gw_248 : Cond.constant RJ2 20 (1073741823 : Int32) ∈ ql_W := ql_in (List.mem_of_getElem? (i := 248) (by decide +kernel)) rfl
theorem gw_249 : Cond.fieldLink RJ5 15 RJ5 "value" "[B" ∈ ql_W := ql_in (List.mem_of_getElem? (i := 249) (by decide +kernel)) rfl
theorem gw_250 : Cond.fieldLink RJ5 22 RJ5 "coder" "B" ∈ ql_W := ql_in (List.mem_of_getElem? (i := 250) (by decide +kernel)) rfl
theorem gw_251 : Cond.fieldLink RJ5 73 RJ5 "maybeLatin1" "Z" ∈ ql_W := ql_in (List.mem_of_getElem? (i := 251) (by decide +kernel)) rfl
theorem gw_252 : Cond.fieldLink RJ0 1048 RJ5 "maybeLatin1" "Z" ∈ ql_W := ql_in (List.mem_of_getElem? (i := 252) (by decide +kernel)) rfl
theorem gw_253 : Cond.fieldLink RJ5 79 RJ5 "count" "I" ∈ ql_W := ql_in (List.mem_of_getElem? (i := 253) (by decide +kernel)) rfl
theorem gw_254 : Cond.lays RJ4 RJ5 "value" "[B" ∈ ql_W := ql_in (List.mem_of_getElem? (i := 254) (by decide +kernel)) rfl
theorem gw_256 : Cond.lays RJ4 RJ5 "coder" "B" ∈ ql_W := ql_in (List.mem_of_getElem? (i := 256) (by decide +kernel)) rfl
theorem gw_258 : Cond.lays RJ4 RJ5 "maybeLatin1" "Z" ∈ ql_W := ql_in (List.mem_of_getElem? (i := 258) (by decide +kernel)) rfl
theorem gw_260 : Cond.lays RJ4 RJ5 "count" "I" ∈ ql_W := ql_in (List.mem_of_getElem? (i := 260) (by decide +kernel)) rfl
theorem gw_262 : Cond.superclass RJ4 RJ5 ∈ ql_W := ql_in (List.mem_of_getElem? (i := 262) (by decide +kernel)) rfl
theorem gw_263 : Cond.arrayClass Jvm.ClassFile.FieldType.byte ∈ ql_W := ql_in (List.mem_of_getElem? (i := 263) (by decide +kernel)) rfl
theorem gw_264 : Cond.classLink RX8 18 RX4 ∈ ql_W := ql_in (List.mem_of_getElem? (i := 264) (by decide +kernel)) rfl
theorem gw_266 : Cond.instantiable RX4 4 ∈ ql_W := ql_in (List.mem_of_getElem? (i := 266) (by decide +kernel)) rfl
theorem gw_268 : Cond.instanceMethod yX4_init ∈ ql_W := ql_in (List.mem_of_getElem? (i := 268) (by decide +kernel)) rfl
theorem gw_269 : Cond.code yX4_init cX4_init 1 (Option.none : Option Jvm.ClassFile.FieldType) ∈ ql_W := ql_in (List.mem_of_getElem? (i := 269) (by decide +kernel)) rfl
theorem gw_270 : Cond.methodLink RX4 1 ⟨"java/lang/Object", "<init>", "()V"⟩ ∈ ql_W := ql_in (List.mem_of_getElem? (i := 270) (by decide +kernel)) rfl
theorem gw_271 : Cond.fieldLink RX4 7 RX7 "EDIT" "LClauseLedger$Kind;" ∈ ql_W := ql_in (List.mem_of_getElem? (i := 271) (by decide +kernel)) rfl
theorem gw_273 : Cond.fieldLink RX4 13 RX4 "kind" "LClauseLedger$Kind;" ∈ ql_W := ql_in (List.mem_of_getElem? (i := 273) (by decide +kernel)) rfl
theorem gw_275 : Cond.fieldLink RX4 18 RX4 "first" "I" ∈ ql_W := ql_in (List.mem_of_getElem? (i := 275) (by decide +kernel)) rfl
theorem gw_277 : Cond.fieldLink RX4 22 RX4 "second" "I" ∈ ql_W := ql_in (List.mem_of_getElem? (i := 277) (by decide +kernel)) rfl
theorem gw_279 : Cond.fieldLink RX4 25 RX4 "note" "C" ∈ ql_W := ql_in (List.mem_of_getElem? (i := 279) (by decide +kernel)) rfl
theorem gw_281 : Cond.lays RX4 RX4 "kind" "LClauseLedger$Kind;" ∈ ql_W := ql_in (List.mem_of_getElem? (i := 281) (by decide +kernel)) rfl
theorem gw_283 : Cond.lays RX4 RX4 "first" "I" ∈ ql_W := ql_in (List.mem_of_getElem? (i := 283) (by decide +kernel)) rfl
theorem gw_285 : Cond.lays RX4 RX4 "second" "I" ∈ ql_W := ql_in (List.mem_of_getElem? (i := 285) (by decide +kernel)) rfl
theorem gw_287 : Cond.lays RX4 RX4 "note" "C" ∈ ql_W := ql_in (List.mem_of_getElem? (i := 287) (by decide +kernel)) rfl
theorem gw_289 : Cond.superclass RX4 "java/lang/Object" ∈ ql_W := ql_in (List.mem_of_getElem? (i := 289) (by decide +kernel)) rfl
theorem gw_290 : Cond.fieldLink RX8 12 RX8 "buffer" "Ljava/lang/StringBuilder;" ∈ ql_W := ql_in (List.mem_of_getElem? (i := 290) (by decide +kernel)) rfl
theorem gw_291 : Cond.fieldLink RX8 20 RX8 "commands" "[LClauseLedger$Command;" ∈ ql_W := ql_in (List.mem_of_getElem? (i := 291) (by decide +kernel)) rfl
theorem gw_292 : Cond.fieldLink RX8 24 RX8 "commandCount" "I" ∈ ql_W := ql_in (List.mem_of_getElem? (i := 292) (by decide +kernel)) rfl
theorem gw_294 : Cond.fieldLink RX8 28 RX8 "readUpTo" "I" ∈ ql_W := ql_in (List.mem_of_getElem? (i := 294) (by decide +kernel)) rfl
theorem gw_296 : Cond.laysFinal RX8 RX8 "buffer" "Ljava/lang/StringBuilder;" ∈ ql_W := ql_in (List.mem_of_getElem? (i := 296) (by decide +kernel)) rfl
theorem gw_298 : Cond.laysFinal RX8 RX8 "commands" "[LClauseLedger$Command;" ∈ ql_W := ql_in (List.mem_of_getElem? (i := 298) (by decide +kernel)) rfl
theorem gw_300 : Cond.lays RX8 RX8 "commandCount" "I" ∈ ql_W := ql_in (List.mem_of_getElem? (i := 300) (by decide +kernel)) rfl
theorem gw_302 : Cond.lays RX8 RX8 "readUpTo" "I" ∈ ql_W := ql_in (List.mem_of_getElem? (i := 302) (by decide +kernel)) rfl
theorem gw_304 : Cond.superclass RX8 "java/lang/Object" ∈ ql_W := ql_in (List.mem_of_getElem? (i := 304) (by decide +kernel)) rfl
theorem gw_305 : Cond.classLink RX11 44 RJ4 ∈ ql_W := ql_in (List.mem_of_getElem? (i := 305) (by decide +kernel)) rfl
theorem gw_306 : Cond.methodLink RX11 46 yJ4_init_da8c8 ∈ ql_W := ql_in (List.mem_of_getElem? (i := 306) (by decide +kernel)) rfl
theorem gw_307 : Cond.classLink RX11 51 RX5 ∈ ql_W := ql_in (List.mem_of_getElem? (i := 307) (by decide +kernel)) rfl
theorem gw_308 : Cond.instantiable RX5 1 ∈ ql_W := ql_in (List.mem_of_getElem? (i := 308) (by decide +kernel)) rfl
theorem gw_310 : Cond.instanceMethod yX5_init ∈ ql_W := ql_in (List.mem_of_getElem? (i := 310) (by decide +kernel)) rfl
theorem gw_311 : Cond.code yX5_init cX5_init 1 (Option.none : Option Jvm.ClassFile.FieldType) ∈ ql_W := ql_in (List.mem_of_getElem? (i := 311) (by decide +kernel)) rfl
theorem gw_312 : Cond.methodLink RX5 3 ⟨"java/lang/Object", "<init>", "()V"⟩ ∈ ql_W := ql_in (List.mem_of_getElem? (i := 312) (by decide +kernel)) rfl
theorem gw_313 : Cond.classLink RX5 9 "[[I" ∈ ql_W := ql_in (List.mem_of_getElem? (i := 313) (by decide +kernel)) rfl
theorem gw_315 : Cond.fieldLink RX5 11 RX5 "table" "[[I" ∈ ql_W := ql_in (List.mem_of_getElem? (i := 315) (by decide +kernel)) rfl
theorem gw_316 : Cond.laysFinal RX5 RX5 "table" "[[I" ∈ ql_W := ql_in (List.mem_of_getElem? (i := 316) (by decide +kernel)) rfl
theorem gw_318 : Cond.superclass RX5 "java/lang/Object" ∈ ql_W := ql_in (List.mem_of_getElem? (i := 318) (by decide +kernel)) rfl
theorem gw_319 : Cond.classLink RX11 58 RX10 ∈ ql_W := ql_in (List.mem_of_getElem? (i := 319) (by decide +kernel)) rfl
theorem gw_320 : Cond.instantiable RX10 2 ∈ ql_W := ql_in (List.mem_of_getElem? (i := 320) (by decide +kernel)) rfl
theorem gw_322 : Cond.instanceMethod yX10_init ∈ ql_W := ql_in (List.mem_of_getElem? (i := 322) (by decide +kernel)) rfl
theorem gw_323 : Cond.code yX10_init cX10_init 1 (Option.none : Option Jvm.ClassFile.FieldType) ∈ ql_W := ql_in (List.mem_of_getElem? (i := 323) (by decide +kernel)) rfl
theorem gw_324 : Cond.methodLink RX10 1 ⟨"java/lang/Object", "<init>", "()V"⟩ ∈ ql_W := ql_in (List.mem_of_getElem? (i := 324) (by decide +kernel)) rfl
theorem gw_325 : Cond.fieldLink RX10 9 RX10 "texts" "[J" ∈ ql_W := ql_in (List.mem_of_getElem? (i := 325) (by decide +kernel)) rfl
theorem gw_326 : Cond.fieldLink RX10 13 RX10 "counts" "[I" ∈ ql_W := ql_in (List.mem_of_getElem? (i := 326) (by decide +kernel)) rfl
theorem gw_327 : Cond.laysFinal RX10 RX10 "texts" "[J" ∈ ql_W := ql_in (List.mem_of_getElem? (i := 327) (by decide +kernel)) rfl
theorem gw_329 : Cond.laysFinal RX10 RX10 "counts" "[I" ∈ ql_W := ql_in (List.mem_of_getElem? (i := 329) (by decide +kernel)) rfl
theorem gw_331 : Cond.superclass RX10 "java/lang/Object" ∈ ql_W := ql_in (List.mem_of_getElem? (i := 331) (by decide +kernel)) rfl
theorem gw_332 : Cond.classLink RX11 65 RX2 ∈ ql_W := ql_in (List.mem_of_getElem? (i := 332) (by decide +kernel)) rfl
theorem gw_333 : Cond.instantiable RX2 3 ∈ ql_W := ql_in (List.mem_of_getElem? (i := 333) (by decide +kernel)) rfl
theorem gw_335 : Cond.instanceMethod yX2_init ∈ ql_W := ql_in (List.mem_of_getElem? (i := 335) (by decide +kernel)) rfl
theorem gw_336 : Cond.code yX2_init cX2_init 1 (Option.none : Option Jvm.ClassFile.FieldType) ∈ ql_W := ql_in (List.mem_of_getElem? (i := 336) (by decide +kernel)) rfl
theorem gw_337 : Cond.methodLink RX2 3 ⟨"java/lang/Object", "<init>", "()V"⟩ ∈ ql_W := ql_in (List.mem_of_getElem? (i := 337) (by decide +kernel)) rfl
theorem gw_338 : Cond.fieldLink RX2 9 RX2 "direct" "[I" ∈ ql_W := ql_in (List.mem_of_getElem? (i := 338) (by decide +kernel)) rfl
theorem gw_339 : Cond.fieldLink RX2 15 RX2 "closed" "[I" ∈ ql_W := ql_in (List.mem_of_getElem? (i := 339) (by decide +kernel)) rfl
theorem gw_340 : Cond.fieldLink RX2 18 RX2 "queue" "[I" ∈ ql_W := ql_in (List.mem_of_getElem? (i := 340) (by decide +kernel)) rfl
theorem gw_341 : Cond.laysFinal RX2 RX2 "direct" "[I" ∈ ql_W := ql_in (List.mem_of_getElem? (i := 341) (by decide +kernel)) rfl
theorem gw_343 : Cond.laysFinal RX2 RX2 "closed" "[I" ∈ ql_W := ql_in (List.mem_of_getElem? (i := 343) (by decide +kernel)) rfl
theorem gw_345 : Cond.laysFinal RX2 RX2 "queue" "[I" ∈ ql_W := ql_in (List.mem_of_getElem? (i := 345) (by decide +kernel)) rfl
theorem gw_347 : Cond.superclass RX2 "java/lang/Object" ∈ ql_W := ql_in (List.mem_of_getElem? (i := 347) (by decide +kernel)) rfl
theorem gw_348 : Cond.fieldLink RX11 10 RX11 "book" "LClauseLedger$Book;" ∈ ql_W := ql_in (List.mem_of_getElem? (i := 348) (by decide +kernel)) rfl
theorem gw_349 : Cond.fieldLink RX11 16 RX11 "snapshot" "LClauseLedger$Book;" ∈ ql_W := ql_in (List.mem_of_getElem? (i := 349) (by decide +kernel)) rfl
theorem gw_350 : Cond.fieldLink RX11 19 RX11 "hasSnapshot" "Z" ∈ ql_W := ql_in (List.mem_of_getElem? (i := 350) (by decide +kernel)) rfl
theorem gw_351 : Cond.fieldLink RX11 26 RX11 "history" "LClauseLedger$History;" ∈ ql_W := ql_in (List.mem_of_getElem? (i := 351) (by decide +kernel)) rfl
theorem gw_352 : Cond.fieldLink RX11 33 RX11 "script" "LClauseLedger$Script;" ∈ ql_W := ql_in (List.mem_of_getElem? (i := 352) (by decide +kernel)) rfl
theorem gw_353 : Cond.fieldLink RX11 37 RX11 "latestErrorPosition" "I" ∈ ql_W := ql_in (List.mem_of_getElem? (i := 353) (by decide +kernel)) rfl
theorem gw_354 : Cond.fieldLink RX11 41 RX11 "latestFailedCommand" "I" ∈ ql_W := ql_in (List.mem_of_getElem? (i := 354) (by decide +kernel)) rfl
theorem gw_355 : Cond.fieldLink RX11 47 RX11 "output" "Ljava/lang/StringBuilder;" ∈ ql_W := ql_in (List.mem_of_getElem? (i := 355) (by decide +kernel)) rfl
theorem gw_356 : Cond.fieldLink RX11 54 RX11 "differences" "LClauseLedger$Differences;" ∈ ql_W := ql_in (List.mem_of_getElem? (i := 356) (by decide +kernel)) rfl
theorem gw_357 : Cond.fieldLink RX11 61 RX11 "textCounts" "LClauseLedger$TextCounts;" ∈ ql_W := ql_in (List.mem_of_getElem? (i := 357) (by decide +kernel)) rfl
theorem gw_358 : Cond.fieldLink RX11 68 RX11 "citeGraph" "LClauseLedger$CiteGraph;" ∈ ql_W := ql_in (List.mem_of_getElem? (i := 358) (by decide +kernel)) rfl
theorem gw_359 : Cond.laysFinal RX11 RX11 "book" "LClauseLedger$Book;" ∈ ql_W := ql_in (List.mem_of_getElem? (i := 359) (by decide +kernel)) rfl
theorem gw_361 : Cond.laysFinal RX11 RX11 "snapshot" "LClauseLedger$Book;" ∈ ql_W := ql_in (List.mem_of_getElem? (i := 361) (by decide +kernel)) rfl
theorem gw_363 : Cond.lays RX11 RX11 "hasSnapshot" "Z" ∈ ql_W := ql_in (List.mem_of_getElem? (i := 363) (by decide +kernel)) rfl
theorem gw_365 : Cond.laysFinal RX11 RX11 "history" "LClauseLedger$History;" ∈ ql_W := ql_in (List.mem_of_getElem? (i := 365) (by decide +kernel)) rfl
theorem gw_367 : Cond.laysFinal RX11 RX11 "script" "LClauseLedger$Script;" ∈ ql_W := ql_in (List.mem_of_getElem? (i := 367) (by decide +kernel)) rfl
theorem gw_369 : Cond.lays RX11 RX11 "latestErrorPosition" "I" ∈ ql_W := ql_in (List.mem_of_getElem? (i := 369) (by decide +kernel)) rfl
theorem gw_371 : Cond.lays RX11 RX11 "latestFailedCommand" "I" ∈ ql_W := ql_in (List.mem_of_getElem? (i := 371) (by decide +kernel)) rfl
theorem gw_373 : Cond.laysFinal RX11 RX11 "output" "Ljava/lang/StringBuilder;" ∈ ql_W := ql_in (List.mem_of_getElem? (i := 373) (by decide +kernel)) rfl
theorem gw_375 : Cond.laysFinal RX11 RX11 "differences" "LClauseLedger$Differences;" ∈ ql_W := ql_in (List.mem_of_getElem? (i := 375) (by decide +kernel)) rfl
theorem gw_377 : Cond.laysFinal RX11 RX11 "textCounts" "LClauseLedger$TextCounts;" ∈ ql_W := ql_in (List.mem_of_getElem? (i := 377) (by decide +kernel)) rfl
theorem gw_379 : Cond.laysFinal RX11 RX11 "citeGraph" "LClauseLedger$CiteGraph;" ∈ ql_W := ql_in (List.mem_of_getElem? (i := 379) (by decide +kernel)) rfl
theorem gw_381 : Cond.superclass RX11 "java/lang/Object" ∈ ql_W := ql_in (List.mem_of_getElem? (i := 381) (by decide +kernel)) rfl
theorem gw_382 : Cond.methodLink RL 192 yX11_consolidate ∈ ql_W := ql_in (List.mem_of_getElem? (i := 382) (by decide +kernel)) rfl
theorem gw_383 : Cond.instanceMethod yX11_consolidate ∈ ql_W := ql_in (List.mem_of_getElem? (i := 383) (by decide +kernel)) rfl
theorem gw_384 : Cond.selects RX11 yX11_consolidate yX11_consolidate ∈ ql_W := ql_in (List.mem_of_getElem? (i := 384) (by decide +kernel)) rfl
theorem gw_385 : Cond.code yX11_consolidate cX11_consolidate 1 (Option.some Jvm.ClassFile.FieldType.int) ∈ ql_W := ql_in (List.mem_of_getElem? (i := 385) (by decide +kernel)) rfl
theorem gw_386 : Cond.methodLink RX11 72 yX6_open ∈ ql_W := ql_in (List.mem_of_getElem? (i := 386) (by decide +kernel)) rfl
theorem gw_387 : Cond.instanceMethod yX6_open ∈ ql_W := ql_in (List.mem_of_getElem? (i := 387) (by decide +kernel)) rfl
theorem gw_388 : Cond.selects RX6 yX6_open yX6_open ∈ ql_W := ql_in (List.mem_of_getElem? (i := 388) (by decide +kernel)) rfl
theorem gw_389 : Cond.code yX6_open cX6_open 2 (Option.none : Option Jvm.ClassFile.FieldType) ∈ ql_W := ql_in (List.mem_of_getElem? (i := 389) (by decide +kernel)) rfl
theorem gw_390 : Cond.methodLink RX6 29 yX1_copyFrom ∈ ql_W := ql_in (List.mem_of_getElem? (i := 390) (by decide +kernel)) rfl
theorem gw_391 : Cond.instanceMethod yX1_copyFrom ∈ ql_W := ql_in (List.mem_of_getElem? (i := 391) (by decide +kernel)) rfl
theorem gw_392 : Cond.selects RX1 yX1_copyFrom yX1_copyFrom ∈ ql_W := ql_in (List.mem_of_getElem? (i := 392) (by decide +kernel)) rfl
theorem gw_393 : Cond.code yX1_copyFrom cX1_copyFrom 3 (Option.none : Option Jvm.ClassFile.FieldType) ∈ ql_W := ql_in (List.mem_of_getElem? (i := 393) (by decide +kernel)) rfl
theorem gw_394 : Cond.methodLink RX1 44 yX3_copyFrom ∈ ql_W := ql_in (List.mem_of_getElem? (i := 394) (by decide +kernel)) rfl
theorem gw_395 : Cond.instanceMethod yX3_copyFrom ∈ ql_W := ql_in (List.mem_of_getElem? (i := 395) (by decide +kernel)) rfl
theorem gw_396 : Cond.selects RX3 yX3_copyFrom yX3_copyFrom ∈ ql_W := ql_in (List.mem_of_getElem? (i := 396) (by decide +kernel)) rfl
theorem gw_397 : Cond.code yX3_copyFrom cX3_copyFrom 2 (Option.none : Option Jvm.ClassFile.FieldType) ∈ ql_W := ql_in (List.mem_of_getElem? (i := 397) (by decide +kernel)) rfl
theorem gw_398 : Cond.methodLink RX3 39 ⟨"java/lang/System", "arraycopy", "(Ljava/lang/Object;ILjava/lang/Object;II)V"⟩ ∈ ql_W := ql_in (List.mem_of_getElem? (i := 398) (by decide +kernel)) rfl
theorem gw_399 : Cond.static ⟨"java/lang/System", "arraycopy", "(Ljava/lang/Object;ILjava/lang/Object;II)V"⟩ ∈ ql_W := ql_in (List.mem_of_getElem? (i := 399) (by decide +kernel)) rfl
theorem gw_400 : Cond.native ⟨"java/lang/System", "arraycopy", "(Ljava/lang/Object;ILjava/lang/Object;II)V"⟩ ∈ ql_W := ql_in (List.mem_of_getElem? (i := 400) (by decide +kernel)) rfl
theorem gw_401 : Cond.methodLink RX1 48 ⟨"java/lang/System", "arraycopy", "(Ljava/lang/Object;ILjava/lang/Object;II)V"⟩ ∈ ql_W := ql_in (List.mem_of_getElem? (i := 401) (by decide +kernel)) rfl
theorem gw_402 : Cond.methodLink RX11 107 yX1_makeEdition ∈ ql_W := ql_in (List.mem_of_getElem? (i := 402) (by decide +kernel)) rfl
theorem gw_403 : Cond.instanceMethod yX1_makeEdition ∈ ql_W := ql_in (List.mem_of_getElem? (i := 403) (by decide +kernel)) rfl
theorem gw_404 : Cond.selects RX1 yX1_makeEdition yX1_makeEdition ∈ ql_W := ql_in (List.mem_of_getElem? (i := 404) (by decide +kernel)) rfl
theorem gw_405 : Cond.code yX1_makeEdition cX1_makeEdition 1 (Option.some Jvm.ClassFile.FieldType.int) ∈ ql_W := ql_in (List.mem_of_getElem? (i := 405) (by decide +kernel)) rfl
theorem gw_406 : Cond.methodLink RX1 154 yX1_endLapsedClauses ∈ ql_W := ql_in (List.mem_of_getElem? (i := 406) (by decide +kernel)) rfl
theorem gw_408 : Cond.instanceMethod yX1_endLapsedClauses ∈ ql_W := ql_in (List.mem_of_getElem? (i := 408) (by decide +kernel)) rfl
theorem gw_409 : Cond.code yX1_endLapsedClauses cX1_endLapsedClauses 5 (Option.none : Option Jvm.ClassFile.FieldType) ∈ ql_W := ql_in (List.mem_of_getElem? (i := 409) (by decide +kernel)) rfl
theorem gw_410 : Cond.methodLink RX1 125 yX3_lapsedBy ∈ ql_W := ql_in (List.mem_of_getElem? (i := 410) (by decide +kernel)) rfl
theorem gw_411 : Cond.instanceMethod yX3_lapsedBy ∈ ql_W := ql_in (List.mem_of_getElem? (i := 411) (by decide +kernel)) rfl
theorem gw_412 : Cond.selects RX3 yX3_lapsedBy yX3_lapsedBy ∈ ql_W := ql_in (List.mem_of_getElem? (i := 412) (by decide +kernel)) rfl
theorem gw_413 : Cond.code yX3_lapsedBy cX3_lapsedBy 2 (Option.some Jvm.ClassFile.FieldType.boolean) ∈ ql_W := ql_in (List.mem_of_getElem? (i := 413) (by decide +kernel)) rfl
theorem gw_414 : Cond.methodLink RX3 49 yX3_hasSunset ∈ ql_W := ql_in (List.mem_of_getElem? (i := 414) (by decide +kernel)) rfl
theorem gw_415 : Cond.instanceMethod yX3_hasSunset ∈ ql_W := ql_in (List.mem_of_getElem? (i := 415) (by decide +kernel)) rfl
theorem gw_416 : Cond.selects RX3 yX3_hasSunset yX3_hasSunset ∈ ql_W := ql_in (List.mem_of_getElem? (i := 416) (by decide +kernel)) rfl
theorem gw_417 : Cond.code yX3_hasSunset cX3_hasSunset 1 (Option.some Jvm.ClassFile.FieldType.boolean) ∈ ql_W := ql_in (List.mem_of_getElem? (i := 417) (by decide +kernel)) rfl
theorem gw_418 : Cond.methodLink RX1 157 yX1_dropCitesOfNoClause ∈ ql_W := ql_in (List.mem_of_getElem? (i := 418) (by decide +kernel)) rfl
theorem gw_420 : Cond.instanceMethod yX1_dropCitesOfNoClause ∈ ql_W := ql_in (List.mem_of_getElem? (i := 420) (by decide +kernel)) rfl
theorem gw_421 : Cond.code yX1_dropCitesOfNoClause cX1_dropCitesOfNoClause 8 (Option.none : Option Jvm.ClassFile.FieldType) ∈ ql_W := ql_in (List.mem_of_getElem? (i := 421) (by decide +kernel)) rfl
theorem gw_422 : Cond.methodLink RX1 134 yX3_countCites ∈ ql_W := ql_in (List.mem_of_getElem? (i := 422) (by decide +kernel)) rfl
theorem gw_423 : Cond.instanceMethod yX3_countCites ∈ ql_W := ql_in (List.mem_of_getElem? (i := 423) (by decide +kernel)) rfl
theorem gw_424 : Cond.selects RX3 yX3_countCites yX3_countCites ∈ ql_W := ql_in (List.mem_of_getElem? (i := 424) (by decide +kernel)) rfl
theorem gw_425 : Cond.code yX3_countCites cX3_countCites 2 (Option.some Jvm.ClassFile.FieldType.int) ∈ ql_W := ql_in (List.mem_of_getElem? (i := 425) (by decide +kernel)) rfl
theorem gw_426 : Cond.methodLink RX1 170 yX3_citeAtPlace ∈ ql_W := ql_in (List.mem_of_getElem? (i := 426) (by decide +kernel)) rfl
theorem gw_427 : Cond.instanceMethod yX3_citeAtPlace ∈ ql_W := ql_in (List.mem_of_getElem? (i := 427) (by decide +kernel)) rfl
theorem gw_428 : Cond.selects RX3 yX3_citeAtPlace yX3_citeAtPlace ∈ ql_W := ql_in (List.mem_of_getElem? (i := 428) (by decide +kernel)) rfl
theorem gw_429 : Cond.code yX3_citeAtPlace cX3_citeAtPlace 2 (Option.some Jvm.ClassFile.FieldType.int) ∈ ql_W := ql_in (List.mem_of_getElem? (i := 429) (by decide +kernel)) rfl
theorem gw_430 : Cond.methodLink RX1 79 yX1_clauseWithId ∈ ql_W := ql_in (List.mem_of_getElem? (i := 430) (by decide +kernel)) rfl
theorem gw_431 : Cond.instanceMethod yX1_clauseWithId ∈ ql_W := ql_in (List.mem_of_getElem? (i := 431) (by decide +kernel)) rfl
theorem gw_432 : Cond.selects RX1 yX1_clauseWithId yX1_clauseWithId ∈ ql_W := ql_in (List.mem_of_getElem? (i := 432) (by decide +kernel)) rfl
theorem gw_433 : Cond.code yX1_clauseWithId cX1_clauseWithId 3 (Option.some (Jvm.ClassFile.FieldType.object "ClauseLedger$Clause")) ∈ ql_W := ql_in (List.mem_of_getElem? (i := 433) (by decide +kernel)) rfl
theorem gw_434 : Cond.methodLink RX1 188 yX1_slotWithId ∈ ql_W := ql_in (List.mem_of_getElem? (i := 434) (by decide +kernel)) rfl
theorem gw_435 : Cond.instanceMethod yX1_slotWithId ∈ ql_W := ql_in (List.mem_of_getElem? (i := 435) (by decide +kernel)) rfl
theorem gw_436 : Cond.selects RX1 yX1_slotWithId yX1_slotWithId ∈ ql_W := ql_in (List.mem_of_getElem? (i := 436) (by decide +kernel)) rfl
theorem gw_437 : Cond.code yX1_slotWithId cX1_slotWithId 3 (Option.some Jvm.ClassFile.FieldType.int) ∈ ql_W := ql_in (List.mem_of_getElem? (i := 437) (by decide +kernel)) rfl
theorem gw_438 : Cond.methodLink RX1 141 yX3_removeCite ∈ ql_W := ql_in (List.mem_of_getElem? (i := 438) (by decide +kernel)) rfl
theorem gw_439 : Cond.instanceMethod yX3_removeCite ∈ ql_W := ql_in (List.mem_of_getElem? (i := 439) (by decide +kernel)) rfl
theorem gw_440 : Cond.selects RX3 yX3_removeCite yX3_removeCite ∈ ql_W := ql_in (List.mem_of_getElem? (i := 440) (by decide +kernel)) rfl
theorem gw_441 : Cond.code yX3_removeCite cX3_removeCite 4 (Option.none : Option Jvm.ClassFile.FieldType) ∈ ql_W := ql_in (List.mem_of_getElem? (i := 441) (by decide +kernel)) rfl
theorem gw_442 : Cond.methodLink RX3 57 yX3_placeOfCite ∈ ql_W := ql_in (List.mem_of_getElem? (i := 442) (by decide +kernel)) rfl
theorem gw_444 : Cond.instanceMethod yX3_placeOfCite ∈ ql_W := ql_in (List.mem_of_getElem? (i := 444) (by decide +kernel)) rfl
theorem gw_445 : Cond.code yX3_placeOfCite cX3_placeOfCite 4 (Option.some Jvm.ClassFile.FieldType.int) ∈ ql_W := ql_in (List.mem_of_getElem? (i := 445) (by decide +kernel)) rfl
theorem gw_446 : Cond.methodLink RX3 61 yX3_countCites ∈ ql_W := ql_in (List.mem_of_getElem? (i := 446) (by decide +kernel)) rfl
theorem gw_447 : Cond.methodLink RX1 160 yX1_renumberSections ∈ ql_W := ql_in (List.mem_of_getElem? (i := 447) (by decide +kernel)) rfl
theorem gw_449 : Cond.instanceMethod yX1_renumberSections ∈ ql_W := ql_in (List.mem_of_getElem? (i := 449) (by decide +kernel)) rfl
theorem gw_450 : Cond.code yX1_renumberSections cX1_renumberSections 3 (Option.none : Option Jvm.ClassFile.FieldType) ∈ ql_W := ql_in (List.mem_of_getElem? (i := 450) (by decide +kernel)) rfl
theorem gw_451 : Cond.methodLink RX1 173 yX1_clauseAtRank ∈ ql_W := ql_in (List.mem_of_getElem? (i := 451) (by decide +kernel)) rfl
theorem gw_452 : Cond.instanceMethod yX1_clauseAtRank ∈ ql_W := ql_in (List.mem_of_getElem? (i := 452) (by decide +kernel)) rfl
theorem gw_453 : Cond.selects RX1 yX1_clauseAtRank yX1_clauseAtRank ∈ ql_W := ql_in (List.mem_of_getElem? (i := 453) (by decide +kernel)) rfl
theorem gw_454 : Cond.code yX1_clauseAtRank cX1_clauseAtRank 6 (Option.some (Jvm.ClassFile.FieldType.object "ClauseLedger$Clause")) ∈ ql_W := ql_in (List.mem_of_getElem? (i := 454) (by decide +kernel)) rfl
theorem gw_455 : Cond.methodLink RX1 191 yX1_countSectionsBelow ∈ ql_W := ql_in (List.mem_of_getElem? (i := 455) (by decide +kernel)) rfl
theorem gw_457 : Cond.instanceMethod yX1_countSectionsBelow ∈ ql_W := ql_in (List.mem_of_getElem? (i := 457) (by decide +kernel)) rfl
theorem gw_458 : Cond.code yX1_countSectionsBelow cX1_countSectionsBelow 7 (Option.some Jvm.ClassFile.FieldType.int) ∈ ql_W := ql_in (List.mem_of_getElem? (i := 458) (by decide +kernel)) rfl
theorem gw_459 : Cond.methodLink RX1 163 yX1_forgetOldVersions ∈ ql_W := ql_in (List.mem_of_getElem? (i := 459) (by decide +kernel)) rfl
theorem gw_461 : Cond.instanceMethod yX1_forgetOldVersions ∈ ql_W := ql_in (List.mem_of_getElem? (i := 461) (by decide +kernel)) rfl
theorem gw_462 : Cond.code yX1_forgetOldVersions cX1_forgetOldVersions 5 (Option.none : Option Jvm.ClassFile.FieldType) ∈ ql_W := ql_in (List.mem_of_getElem? (i := 462) (by decide +kernel)) rfl
theorem gw_463 : Cond.methodLink RX1 179 yX3_keepLastVersion ∈ ql_W := ql_in (List.mem_of_getElem? (i := 463) (by decide +kernel)) rfl
theorem gw_464 : Cond.instanceMethod yX3_keepLastVersion ∈ ql_W := ql_in (List.mem_of_getElem? (i := 464) (by decide +kernel)) rfl
theorem gw_465 : Cond.selects RX3 yX3_keepLastVersion yX3_keepLastVersion ∈ ql_W := ql_in (List.mem_of_getElem? (i := 465) (by decide +kernel)) rfl
theorem gw_466 : Cond.code yX3_keepLastVersion cX3_keepLastVersion 2 (Option.none : Option Jvm.ClassFile.FieldType) ∈ ql_W := ql_in (List.mem_of_getElem? (i := 466) (by decide +kernel)) rfl
theorem gw_467 : Cond.methodLink RX3 53 yX3_countVersions ∈ ql_W := ql_in (List.mem_of_getElem? (i := 467) (by decide +kernel)) rfl
theorem gw_468 : Cond.instanceMethod yX3_countVersions ∈ ql_W := ql_in (List.mem_of_getElem? (i := 468) (by decide +kernel)) rfl
theorem gw_469 : Cond.selects RX3 yX3_countVersions yX3_countVersions ∈ ql_W := ql_in (List.mem_of_getElem? (i := 469) (by decide +kernel)) rfl
theorem gw_470 : Cond.code yX3_countVersions cX3_countVersions 2 (Option.some Jvm.ClassFile.FieldType.int) ∈ ql_W := ql_in (List.mem_of_getElem? (i := 470) (by decide +kernel)) rfl
theorem gw_471 : Cond.methodLink RX3 45 yX3_keepOnly ∈ ql_W := ql_in (List.mem_of_getElem? (i := 471) (by decide +kernel)) rfl
theorem gw_473 : Cond.instanceMethod yX3_keepOnly ∈ ql_W := ql_in (List.mem_of_getElem? (i := 473) (by decide +kernel)) rfl
theorem gw_474 : Cond.code yX3_keepOnly cX3_keepOnly 5 (Option.none : Option Jvm.ClassFile.FieldType) ∈ ql_W := ql_in (List.mem_of_getElem? (i := 474) (by decide +kernel)) rfl
theorem gw_475 : Cond.methodLink RX1 166 yX1_placeOfEdition ∈ ql_W := ql_in (List.mem_of_getElem? (i := 475) (by decide +kernel)) rfl
theorem gw_476 : Cond.static yX1_placeOfEdition ∈ ql_W := ql_in (List.mem_of_getElem? (i := 476) (by decide +kernel)) rfl
theorem gw_477 : Cond.code yX1_placeOfEdition cX1_placeOfEdition 1 (Option.some Jvm.ClassFile.FieldType.int) ∈ ql_W := ql_in (List.mem_of_getElem? (i := 477) (by decide +kernel)) rfl
theorem gw_478 : Cond.methodLink RX1 182 yJ9_floorMod_7cf53 ∈ ql_W := ql_in (List.mem_of_getElem? (i := 478) (by decide +kernel)) rfl
theorem gw_479 : Cond.static yJ9_floorMod_7cf53 ∈ ql_W := ql_in (List.mem_of_getElem? (i := 479) (by decide +kernel)) rfl
theorem gw_480 : Cond.code yJ9_floorMod_7cf53 cJ9_floorMod_7cf53 3 (Option.some Jvm.ClassFile.FieldType.int) ∈ ql_W := ql_in (List.mem_of_getElem? (i := 480) (by decide +kernel)) rfl
theorem gw_481 : Cond.methodLink RX11 80 yX11_settle ∈ ql_W := ql_in (List.mem_of_getElem? (i := 481) (by decide +kernel)) rfl
theorem gw_483 : Cond.instanceMethod yX11_settle ∈ ql_W := ql_in (List.mem_of_getElem? (i := 483) (by decide +kernel)) rfl
theorem gw_484 : Cond.code yX11_settle cX11_settle 2 (Option.some Jvm.ClassFile.FieldType.int) ∈ ql_W := ql_in (List.mem_of_getElem? (i := 484) (by decide +kernel)) rfl
theorem gw_485 : Cond.methodLink RX11 114 yX11_refuse ∈ ql_W := ql_in (List.mem_of_getElem? (i := 485) (by decide +kernel)) rfl
theorem gw_486 : Cond.static yX11_refuse ∈ ql_W := ql_in (List.mem_of_getElem? (i := 486) (by decide +kernel)) rfl
theorem gw_487 : Cond.code yX11_refuse cX11_refuse 1 (Option.none : Option Jvm.ClassFile.FieldType) ∈ ql_W := ql_in (List.mem_of_getElem? (i := 487) (by decide +kernel)) rfl
theorem gw_488 : Cond.classLink RX11 121 "java/util/NoSuchElementException" ∈ ql_W := ql_in (List.mem_of_getElem? (i := 488) (by decide +kernel)) rfl
theorem gw_489 : Cond.instantiable "java/util/NoSuchElementException" 6 ∈ ql_W := ql_in (List.mem_of_getElem? (i := 489) (by decide +kernel)) rfl
theorem gw_497 : Cond.selects "java/util/NoSuchElementException" ⟨"java/lang/Throwable", "fillInStackTrace", "(I)Ljava/lang/Throwable;"⟩ ⟨"java/lang/Throwable", "fillInStackTrace", "(I)Ljava/lang/Throwable;"⟩ ∈ ql_W := ql_in (List.mem_of_getElem? (i := 497) (by decide +kernel)) rfl
theorem gw_498 : Cond.selects "java/util/NoSuchElementException" ⟨"java/lang/Throwable", "fillInStackTrace", "()Ljava/lang/Throwable;"⟩ ⟨"java/lang/Throwable", "fillInStackTrace", "()Ljava/lang/Throwable;"⟩ ∈ ql_W := ql_in (List.mem_of_getElem? (i := 498) (by decide +kernel)) rfl
theorem gw_499 : Cond.lays "java/util/NoSuchElementException" "java/lang/Throwable" "cause" "Ljava/lang/Throwable;" ∈ ql_W := ql_in (List.mem_of_getElem? (i := 499) (by decide +kernel)) rfl
theorem gw_500 : Cond.lays "java/lang/Throwable" "java/lang/Throwable" "cause" "Ljava/lang/Throwable;" ∈ ql_W := ql_in (List.mem_of_getElem? (i := 500) (by decide +kernel)) rfl
theorem gw_501 : Cond.lays "java/util/NoSuchElementException" "java/lang/Throwable" "stackTrace" "[Ljava/lang/StackTraceElement;" ∈ ql_W := ql_in (List.mem_of_getElem? (i := 501) (by decide +kernel)) rfl
theorem gw_502 : Cond.lays "java/lang/Throwable" "java/lang/Throwable" "stackTrace" "[Ljava/lang/StackTraceElement;" ∈ ql_W := ql_in (List.mem_of_getElem? (i := 502) (by decide +kernel)) rfl
theorem gw_503 : Cond.lays "java/util/NoSuchElementException" "java/lang/Throwable" "suppressedExceptions" "Ljava/util/List;" ∈ ql_W := ql_in (List.mem_of_getElem? (i := 503) (by decide +kernel)) rfl
theorem gw_504 : Cond.lays "java/lang/Throwable" "java/lang/Throwable" "suppressedExceptions" "Ljava/util/List;" ∈ ql_W := ql_in (List.mem_of_getElem? (i := 504) (by decide +kernel)) rfl
theorem gw_505 : Cond.lays "java/util/NoSuchElementException" "java/lang/Throwable" "detailMessage" "Ljava/lang/String;" ∈ ql_W := ql_in (List.mem_of_getElem? (i := 505) (by decide +kernel)) rfl
theorem gw_506 : Cond.lays "java/lang/Throwable" "java/lang/Throwable" "detailMessage" "Ljava/lang/String;" ∈ ql_W := ql_in (List.mem_of_getElem? (i := 506) (by decide +kernel)) rfl
theorem gw_507 : Cond.lays "java/util/NoSuchElementException" "java/lang/Throwable" "backtrace" "Ljava/lang/Object;" ∈ ql_W := ql_in (List.mem_of_getElem? (i := 507) (by decide +kernel)) rfl
theorem gw_508 : Cond.lays "java/lang/Throwable" "java/lang/Throwable" "backtrace" "Ljava/lang/Object;" ∈ ql_W := ql_in (List.mem_of_getElem? (i := 508) (by decide +kernel)) rfl
theorem gw_509 : Cond.fieldLink "java/lang/Throwable" 198 "java/lang/Throwable" "backtrace" "Ljava/lang/Object;" ∈ ql_W := ql_in (List.mem_of_getElem? (i := 509) (by decide +kernel)) rfl
theorem gw_510 : Cond.superclass "java/lang/Throwable" "java/lang/Object" ∈ ql_W := ql_in (List.mem_of_getElem? (i := 510) (by decide +kernel)) rfl
theorem gw_511 : Cond.instanceMethod ⟨"java/lang/Throwable", "<init>", "()V"⟩ ∈ ql_W := ql_in (List.mem_of_getElem? (i := 511) (by decide +kernel)) rfl
theorem gw_512 : Cond.code ⟨"java/lang/Throwable", "<init>", "()V"⟩ prog_38_method_1_code 1 (Option.none : Option Jvm.ClassFile.FieldType) ∈ ql_W := ql_in (List.mem_of_getElem? (i := 512) (by decide +kernel)) rfl
theorem gw_513 : Cond.methodLink "java/lang/Throwable" 1 ⟨"java/lang/Object", "<init>", "()V"⟩ ∈ ql_W := ql_in (List.mem_of_getElem? (i := 513) (by decide +kernel)) rfl
theorem gw_514 : Cond.fieldLink "java/lang/Throwable" 13 "java/lang/Throwable" "UNASSIGNED_STACK" "[Ljava/lang/StackTraceElement;" ∈ ql_W := ql_in (List.mem_of_getElem? (i := 514) (by decide +kernel)) rfl
theorem gw_516 : Cond.fieldLink "java/lang/Throwable" 20 "java/lang/Throwable" "SUPPRESSED_SENTINEL" "Ljava/util/List;" ∈ ql_W := ql_in (List.mem_of_getElem? (i := 516) (by decide +kernel)) rfl
theorem gw_518 : Cond.methodLink "java/lang/Throwable" 27 ⟨"java/lang/Throwable", "fillInStackTrace", "()Ljava/lang/Throwable;"⟩ ∈ ql_W := ql_in (List.mem_of_getElem? (i := 518) (by decide +kernel)) rfl
theorem gw_519 : Cond.instanceMethod ⟨"java/lang/Throwable", "fillInStackTrace", "()Ljava/lang/Throwable;"⟩ ∈ ql_W := ql_in (List.mem_of_getElem? (i := 519) (by decide +kernel)) rfl
theorem gw_520 : Cond.sameMethod "java/lang/Throwable" "java/lang/Throwable" "fillInStackTrace" "()Ljava/lang/Throwable;" ∈ ql_W := ql_in (List.mem_of_getElem? (i := 520) (by decide +kernel)) rfl
theorem gw_521 : Cond.selects "java/lang/ArithmeticException" ⟨"java/lang/Throwable", "fillInStackTrace", "()Ljava/lang/Throwable;"⟩ ⟨"java/lang/Throwable", "fillInStackTrace", "()Ljava/lang/Throwable;"⟩ ∈ ql_W := ql_in (List.mem_of_getElem? (i := 521) (by decide +kernel)) rfl
theorem gw_522 : Cond.selects RJx00060 ⟨"java/lang/Throwable", "fillInStackTrace", "()Ljava/lang/Throwable;"⟩ ⟨"java/lang/Throwable", "fillInStackTrace", "()Ljava/lang/Throwable;"⟩ ∈ ql_W := ql_in (List.mem_of_getElem? (i := 522) (by decide +kernel)) rfl
theorem gw_523 : Cond.selects "java/lang/IllegalArgumentException" ⟨"java/lang/Throwable", "fillInStackTrace", "()Ljava/lang/Throwable;"⟩ ⟨"java/lang/Throwable", "fillInStackTrace", "()Ljava/lang/Throwable;"⟩ ∈ ql_W := ql_in (List.mem_of_getElem? (i := 523) (by decide +kernel)) rfl
theorem gw_524 : Cond.selects "java/lang/IllegalStateException" ⟨"java/lang/Throwable", "fillInStackTrace", "()Ljava/lang/Throwable;"⟩ ⟨"java/lang/Throwable", "fillInStackTrace", "()Ljava/lang/Throwable;"⟩ ∈ ql_W := ql_in (List.mem_of_getElem? (i := 524) (by decide +kernel)) rfl
theorem gw_525 : Cond.selects "java/lang/IndexOutOfBoundsException" ⟨"java/lang/Throwable", "fillInStackTrace", "()Ljava/lang/Throwable;"⟩ ⟨"java/lang/Throwable", "fillInStackTrace", "()Ljava/lang/Throwable;"⟩ ∈ ql_W := ql_in (List.mem_of_getElem? (i := 525) (by decide +kernel)) rfl
theorem gw_526 : Cond.selects RJx7c733 ⟨"java/lang/Throwable", "fillInStackTrace", "()Ljava/lang/Throwable;"⟩ ⟨"java/lang/Throwable", "fillInStackTrace", "()Ljava/lang/Throwable;"⟩ ∈ ql_W := ql_in (List.mem_of_getElem? (i := 526) (by decide +kernel)) rfl
theorem gw_527 : Cond.selects "java/lang/UnsupportedOperationException" ⟨"java/lang/Throwable", "fillInStackTrace", "()Ljava/lang/Throwable;"⟩ ⟨"java/lang/Throwable", "fillInStackTrace", "()Ljava/lang/Throwable;"⟩ ∈ ql_W := ql_in (List.mem_of_getElem? (i := 527) (by decide +kernel)) rfl
theorem gw_529 : Cond.methodLink "java/lang/Throwable" 202 ⟨"java/lang/Throwable", "fillInStackTrace", "(I)Ljava/lang/Throwable;"⟩ ∈ ql_W := ql_in (List.mem_of_getElem? (i := 529) (by decide +kernel)) rfl
theorem gw_531 : Cond.instanceMethod ⟨"java/lang/Throwable", "fillInStackTrace", "(I)Ljava/lang/Throwable;"⟩ ∈ ql_W := ql_in (List.mem_of_getElem? (i := 531) (by decide +kernel)) rfl
theorem gw_532 : Cond.instantiable "java/lang/Throwable" 6 ∈ ql_W := ql_in (List.mem_of_getElem? (i := 532) (by decide +kernel)) rfl
theorem gw_533 : Cond.native ⟨"java/lang/Throwable", "fillInStackTrace", "(I)Ljava/lang/Throwable;"⟩ ∈ ql_W := ql_in (List.mem_of_getElem? (i := 533) (by decide +kernel)) rfl
theorem gw_534 : Cond.methodLink RX11 123 ⟨"java/util/NoSuchElementException", "<init>", "()V"⟩ ∈ ql_W := ql_in (List.mem_of_getElem? (i := 534) (by decide +kernel)) rfl
theorem gw_535 : Cond.instanceMethod ⟨"java/util/NoSuchElementException", "<init>", "()V"⟩ ∈ ql_W := ql_in (List.mem_of_getElem? (i := 535) (by decide +kernel)) rfl
theorem gw_536 : Cond.code ⟨"java/util/NoSuchElementException", "<init>", "()V"⟩ prog_43_method_1_code 1 (Option.none : Option Jvm.ClassFile.FieldType) ∈ ql_W := ql_in (List.mem_of_getElem? (i := 536) (by decide +kernel)) rfl
theorem gw_537 : Cond.methodLink "java/util/NoSuchElementException" 1 ⟨"java/lang/RuntimeException", "<init>", "()V"⟩ ∈ ql_W := ql_in (List.mem_of_getElem? (i := 537) (by decide +kernel)) rfl
theorem gw_538 : Cond.instanceMethod ⟨"java/lang/RuntimeException", "<init>", "()V"⟩ ∈ ql_W := ql_in (List.mem_of_getElem? (i := 538) (by decide +kernel)) rfl
theorem gw_539 : Cond.code ⟨"java/lang/RuntimeException", "<init>", "()V"⟩ prog_31_method_1_code 1 (Option.none : Option Jvm.ClassFile.FieldType) ∈ ql_W := ql_in (List.mem_of_getElem? (i := 539) (by decide +kernel)) rfl
theorem gw_540 : Cond.methodLink "java/lang/RuntimeException" 1 ⟨"java/lang/Exception", "<init>", "()V"⟩ ∈ ql_W := ql_in (List.mem_of_getElem? (i := 540) (by decide +kernel)) rfl
theorem gw_541 : Cond.instanceMethod ⟨"java/lang/Exception", "<init>", "()V"⟩ ∈ ql_W := ql_in (List.mem_of_getElem? (i := 541) (by decide +kernel)) rfl
theorem gw_542 : Cond.code ⟨"java/lang/Exception", "<init>", "()V"⟩ prog_24_method_1_code 1 (Option.none : Option Jvm.ClassFile.FieldType) ∈ ql_W := ql_in (List.mem_of_getElem? (i := 542) (by decide +kernel)) rfl
theorem gw_543 : Cond.methodLink "java/lang/Exception" 1 ⟨"java/lang/Throwable", "<init>", "()V"⟩ ∈ ql_W := ql_in (List.mem_of_getElem? (i := 543) (by decide +kernel)) rfl
theorem gw_545 : Cond.fieldLink "java/lang/Throwable" 31 "java/lang/Throwable" "detailMessage" "Ljava/lang/String;" ∈ ql_W := ql_in (List.mem_of_getElem? (i := 545) (by decide +kernel)) rfl
theorem gw_546 : Cond.fieldLink "java/lang/Throwable" 7 "java/lang/Throwable" "cause" "Ljava/lang/Throwable;" ∈ ql_W := ql_in (List.mem_of_getElem? (i := 546) (by decide +kernel)) rfl
theorem gw_547 : Cond.fieldLink "java/lang/Throwable" 17 "java/lang/Throwable" "stackTrace" "[Ljava/lang/StackTraceElement;" ∈ ql_W := ql_in (List.mem_of_getElem? (i := 547) (by decide +kernel)) rfl
theorem gw_548 : Cond.fieldLink "java/lang/Throwable" 24 "java/lang/Throwable" "suppressedExceptions" "Ljava/util/List;" ∈ ql_W := ql_in (List.mem_of_getElem? (i := 548) (by decide +kernel)) rfl
theorem gw_553 : Cond.lays "java/util/NoSuchElementException" "java/lang/Throwable" "depth" "I" ∈ ql_W := ql_in (List.mem_of_getElem? (i := 553) (by decide +kernel)) rfl
theorem gw_556 : Cond.superclass "java/util/NoSuchElementException" "java/lang/RuntimeException" ∈ ql_W := ql_in (List.mem_of_getElem? (i := 556) (by decide +kernel)) rfl
theorem gw_557 : Cond.classLink RX11 124 "java/lang/IndexOutOfBoundsException" ∈ ql_W := ql_in (List.mem_of_getElem? (i := 557) (by decide +kernel)) rfl
theorem gw_558 : Cond.instantiable "java/lang/IndexOutOfBoundsException" 6 ∈ ql_W := ql_in (List.mem_of_getElem? (i := 558) (by decide +kernel)) rfl
theorem gw_560 : Cond.selects "java/lang/IndexOutOfBoundsException" ⟨"java/lang/Throwable", "fillInStackTrace", "(I)Ljava/lang/Throwable;"⟩ ⟨"java/lang/Throwable", "fillInStackTrace", "(I)Ljava/lang/Throwable;"⟩ ∈ ql_W := ql_in (List.mem_of_getElem? (i := 560) (by decide +kernel)) rfl
theorem gw_561 : Cond.lays "java/lang/IndexOutOfBoundsException" "java/lang/Throwable" "cause" "Ljava/lang/Throwable;" ∈ ql_W := ql_in (List.mem_of_getElem? (i := 561) (by decide +kernel)) rfl
theorem gw_562 : Cond.lays "java/lang/IndexOutOfBoundsException" "java/lang/Throwable" "stackTrace" "[Ljava/lang/StackTraceElement;" ∈ ql_W := ql_in (List.mem_of_getElem? (i := 562) (by decide +kernel)) rfl
theorem gw_563 : Cond.lays "java/lang/IndexOutOfBoundsException" "java/lang/Throwable" "suppressedExceptions" "Ljava/util/List;" ∈ ql_W := ql_in (List.mem_of_getElem? (i := 563) (by decide +kernel)) rfl
theorem gw_564 : Cond.lays "java/lang/IndexOutOfBoundsException" "java/lang/Throwable" "detailMessage" "Ljava/lang/String;" ∈ ql_W := ql_in (List.mem_of_getElem? (i := 564) (by decide +kernel)) rfl
theorem gw_565 : Cond.lays "java/lang/IndexOutOfBoundsException" "java/lang/Throwable" "backtrace" "Ljava/lang/Object;" ∈ ql_W := ql_in (List.mem_of_getElem? (i := 565) (by decide +kernel)) rfl
theorem gw_566 : Cond.methodLink RX11 126 ⟨"java/lang/IndexOutOfBoundsException", "<init>", "()V"⟩ ∈ ql_W := ql_in (List.mem_of_getElem? (i := 566) (by decide +kernel)) rfl
theorem gw_567 : Cond.instanceMethod ⟨"java/lang/IndexOutOfBoundsException", "<init>", "()V"⟩ ∈ ql_W := ql_in (List.mem_of_getElem? (i := 567) (by decide +kernel)) rfl
theorem gw_568 : Cond.code ⟨"java/lang/IndexOutOfBoundsException", "<init>", "()V"⟩ prog_27_method_1_code 1 (Option.none : Option Jvm.ClassFile.FieldType) ∈ ql_W := ql_in (List.mem_of_getElem? (i := 568) (by decide +kernel)) rfl
theorem gw_569 : Cond.methodLink "java/lang/IndexOutOfBoundsException" 1 ⟨"java/lang/RuntimeException", "<init>", "()V"⟩ ∈ ql_W := ql_in (List.mem_of_getElem? (i := 569) (by decide +kernel)) rfl
theorem gw_570 : Cond.lays "java/lang/IndexOutOfBoundsException" "java/lang/Throwable" "depth" "I" ∈ ql_W := ql_in (List.mem_of_getElem? (i := 570) (by decide +kernel)) rfl
theorem gw_571 : Cond.superclass "java/lang/IndexOutOfBoundsException" "java/lang/RuntimeException" ∈ ql_W := ql_in (List.mem_of_getElem? (i := 571) (by decide +kernel)) rfl
theorem gw_572 : Cond.classLink RX11 127 "java/lang/IllegalArgumentException" ∈ ql_W := ql_in (List.mem_of_getElem? (i := 572) (by decide +kernel)) rfl
theorem gw_573 : Cond.instantiable "java/lang/IllegalArgumentException" 6 ∈ ql_W := ql_in (List.mem_of_getElem? (i := 573) (by decide +kernel)) rfl
theorem gw_575 : Cond.selects "java/lang/IllegalArgumentException" ⟨"java/lang/Throwable", "fillInStackTrace", "(I)Ljava/lang/Throwable;"⟩ ⟨"java/lang/Throwable", "fillInStackTrace", "(I)Ljava/lang/Throwable;"⟩ ∈ ql_W := ql_in (List.mem_of_getElem? (i := 575) (by decide +kernel)) rfl
theorem gw_576 : Cond.lays "java/lang/IllegalArgumentException" "java/lang/Throwable" "cause" "Ljava/lang/Throwable;" ∈ ql_W := ql_in (List.mem_of_getElem? (i := 576) (by decide +kernel)) rfl
theorem gw_577 : Cond.lays "java/lang/IllegalArgumentException" "java/lang/Throwable" "stackTrace" "[Ljava/lang/StackTraceElement;" ∈ ql_W := ql_in (List.mem_of_getElem? (i := 577) (by decide +kernel)) rfl
theorem gw_578 : Cond.lays "java/lang/IllegalArgumentException" "java/lang/Throwable" "suppressedExceptions" "Ljava/util/List;" ∈ ql_W := ql_in (List.mem_of_getElem? (i := 578) (by decide +kernel)) rfl
theorem gw_579 : Cond.lays "java/lang/IllegalArgumentException" "java/lang/Throwable" "detailMessage" "Ljava/lang/String;" ∈ ql_W := ql_in (List.mem_of_getElem? (i := 579) (by decide +kernel)) rfl
theorem gw_580 : Cond.lays "java/lang/IllegalArgumentException" "java/lang/Throwable" "backtrace" "Ljava/lang/Object;" ∈ ql_W := ql_in (List.mem_of_getElem? (i := 580) (by decide +kernel)) rfl
theorem gw_581 : Cond.methodLink RX11 129 ⟨"java/lang/IllegalArgumentException", "<init>", "()V"⟩ ∈ ql_W := ql_in (List.mem_of_getElem? (i := 581) (by decide +kernel)) rfl
theorem gw_582 : Cond.instanceMethod ⟨"java/lang/IllegalArgumentException", "<init>", "()V"⟩ ∈ ql_W := ql_in (List.mem_of_getElem? (i := 582) (by decide +kernel)) rfl
theorem gw_583 : Cond.code ⟨"java/lang/IllegalArgumentException", "<init>", "()V"⟩ prog_25_method_1_code 1 (Option.none : Option Jvm.ClassFile.FieldType) ∈ ql_W := ql_in (List.mem_of_getElem? (i := 583) (by decide +kernel)) rfl
theorem gw_584 : Cond.methodLink "java/lang/IllegalArgumentException" 1 ⟨"java/lang/RuntimeException", "<init>", "()V"⟩ ∈ ql_W := ql_in (List.mem_of_getElem? (i := 584) (by decide +kernel)) rfl
theorem gw_585 : Cond.lays "java/lang/IllegalArgumentException" "java/lang/Throwable" "depth" "I" ∈ ql_W := ql_in (List.mem_of_getElem? (i := 585) (by decide +kernel)) rfl
theorem gw_586 : Cond.superclass "java/lang/IllegalArgumentException" "java/lang/RuntimeException" ∈ ql_W := ql_in (List.mem_of_getElem? (i := 586) (by decide +kernel)) rfl
theorem gw_587 : Cond.classLink RX11 130 "java/lang/IllegalStateException" ∈ ql_W := ql_in (List.mem_of_getElem? (i := 587) (by decide +kernel)) rfl
theorem gw_588 : Cond.instantiable "java/lang/IllegalStateException" 6 ∈ ql_W := ql_in (List.mem_of_getElem? (i := 588) (by decide +kernel)) rfl
theorem gw_590 : Cond.selects "java/lang/IllegalStateException" ⟨"java/lang/Throwable", "fillInStackTrace", "(I)Ljava/lang/Throwable;"⟩ ⟨"java/lang/Throwable", "fillInStackTrace", "(I)Ljava/lang/Throwable;"⟩ ∈ ql_W := ql_in (List.mem_of_getElem? (i := 590) (by decide +kernel)) rfl
theorem gw_591 : Cond.lays "java/lang/IllegalStateException" "java/lang/Throwable" "cause" "Ljava/lang/Throwable;" ∈ ql_W := ql_in (List.mem_of_getElem? (i := 591) (by decide +kernel)) rfl
theorem gw_592 : Cond.lays "java/lang/IllegalStateException" "java/lang/Throwable" "stackTrace" "[Ljava/lang/StackTraceElement;" ∈ ql_W := ql_in (List.mem_of_getElem? (i := 592) (by decide +kernel)) rfl
theorem gw_593 : Cond.lays "java/lang/IllegalStateException" "java/lang/Throwable" "suppressedExceptions" "Ljava/util/List;" ∈ ql_W := ql_in (List.mem_of_getElem? (i := 593) (by decide +kernel)) rfl
theorem gw_594 : Cond.lays "java/lang/IllegalStateException" "java/lang/Throwable" "detailMessage" "Ljava/lang/String;" ∈ ql_W := ql_in (List.mem_of_getElem? (i := 594) (by decide +kernel)) rfl
theorem gw_595 : Cond.lays "java/lang/IllegalStateException" "java/lang/Throwable" "backtrace" "Ljava/lang/Object;" ∈ ql_W := ql_in (List.mem_of_getElem? (i := 595) (by decide +kernel)) rfl
theorem gw_596 : Cond.methodLink RX11 132 ⟨"java/lang/IllegalStateException", "<init>", "()V"⟩ ∈ ql_W := ql_in (List.mem_of_getElem? (i := 596) (by decide +kernel)) rfl
theorem gw_597 : Cond.instanceMethod ⟨"java/lang/IllegalStateException", "<init>", "()V"⟩ ∈ ql_W := ql_in (List.mem_of_getElem? (i := 597) (by decide +kernel)) rfl
theorem gw_598 : Cond.code ⟨"java/lang/IllegalStateException", "<init>", "()V"⟩ prog_26_method_1_code 1 (Option.none : Option Jvm.ClassFile.FieldType) ∈ ql_W := ql_in (List.mem_of_getElem? (i := 598) (by decide +kernel)) rfl
theorem gw_599 : Cond.methodLink "java/lang/IllegalStateException" 1 ⟨"java/lang/RuntimeException", "<init>", "()V"⟩ ∈ ql_W := ql_in (List.mem_of_getElem? (i := 599) (by decide +kernel)) rfl
theorem gw_600 : Cond.lays "java/lang/IllegalStateException" "java/lang/Throwable" "depth" "I" ∈ ql_W := ql_in (List.mem_of_getElem? (i := 600) (by decide +kernel)) rfl
theorem gw_601 : Cond.superclass "java/lang/IllegalStateException" "java/lang/RuntimeException" ∈ ql_W := ql_in (List.mem_of_getElem? (i := 601) (by decide +kernel)) rfl
theorem gw_602 : Cond.classLink RX11 133 "java/lang/UnsupportedOperationException" ∈ ql_W := ql_in (List.mem_of_getElem? (i := 602) (by decide +kernel)) rfl
theorem gw_603 : Cond.instantiable "java/lang/UnsupportedOperationException" 6 ∈ ql_W := ql_in (List.mem_of_getElem? (i := 603) (by decide +kernel)) rfl
theorem gw_605 : Cond.selects "java/lang/UnsupportedOperationException" ⟨"java/lang/Throwable", "fillInStackTrace", "(I)Ljava/lang/Throwable;"⟩ ⟨"java/lang/Throwable", "fillInStackTrace", "(I)Ljava/lang/Throwable;"⟩ ∈ ql_W := ql_in (List.mem_of_getElem? (i := 605) (by decide +kernel)) rfl
theorem gw_606 : Cond.lays "java/lang/UnsupportedOperationException" "java/lang/Throwable" "cause" "Ljava/lang/Throwable;" ∈ ql_W := ql_in (List.mem_of_getElem? (i := 606) (by decide +kernel)) rfl
theorem gw_607 : Cond.lays "java/lang/UnsupportedOperationException" "java/lang/Throwable" "stackTrace" "[Ljava/lang/StackTraceElement;" ∈ ql_W := ql_in (List.mem_of_getElem? (i := 607) (by decide +kernel)) rfl
theorem gw_608 : Cond.lays "java/lang/UnsupportedOperationException" "java/lang/Throwable" "suppressedExceptions" "Ljava/util/List;" ∈ ql_W := ql_in (List.mem_of_getElem? (i := 608) (by decide +kernel)) rfl
theorem gw_609 : Cond.lays "java/lang/UnsupportedOperationException" "java/lang/Throwable" "detailMessage" "Ljava/lang/String;" ∈ ql_W := ql_in (List.mem_of_getElem? (i := 609) (by decide +kernel)) rfl
theorem gw_610 : Cond.lays "java/lang/UnsupportedOperationException" "java/lang/Throwable" "backtrace" "Ljava/lang/Object;" ∈ ql_W := ql_in (List.mem_of_getElem? (i := 610) (by decide +kernel)) rfl
theorem gw_611 : Cond.methodLink RX11 135 ⟨"java/lang/UnsupportedOperationException", "<init>", "()V"⟩ ∈ ql_W := ql_in (List.mem_of_getElem? (i := 611) (by decide +kernel)) rfl
theorem gw_612 : Cond.instanceMethod ⟨"java/lang/UnsupportedOperationException", "<init>", "()V"⟩ ∈ ql_W := ql_in (List.mem_of_getElem? (i := 612) (by decide +kernel)) rfl
theorem gw_613 : Cond.code ⟨"java/lang/UnsupportedOperationException", "<init>", "()V"⟩ prog_39_method_1_code 1 (Option.none : Option Jvm.ClassFile.FieldType) ∈ ql_W := ql_in (List.mem_of_getElem? (i := 613) (by decide +kernel)) rfl
theorem gw_614 : Cond.methodLink "java/lang/UnsupportedOperationException" 1 ⟨"java/lang/RuntimeException", "<init>", "()V"⟩ ∈ ql_W := ql_in (List.mem_of_getElem? (i := 614) (by decide +kernel)) rfl
theorem gw_615 : Cond.lays "java/lang/UnsupportedOperationException" "java/lang/Throwable" "depth" "I" ∈ ql_W := ql_in (List.mem_of_getElem? (i := 615) (by decide +kernel)) rfl
theorem gw_616 : Cond.superclass "java/lang/UnsupportedOperationException" "java/lang/RuntimeException" ∈ ql_W := ql_in (List.mem_of_getElem? (i := 616) (by decide +kernel)) rfl
theorem gw_617 : Cond.methodLink RX11 118 yX6_keep ∈ ql_W := ql_in (List.mem_of_getElem? (i := 617) (by decide +kernel)) rfl
theorem gw_618 : Cond.instanceMethod yX6_keep ∈ ql_W := ql_in (List.mem_of_getElem? (i := 618) (by decide +kernel)) rfl
theorem gw_619 : Cond.selects RX6 yX6_keep yX6_keep ∈ ql_W := ql_in (List.mem_of_getElem? (i := 619) (by decide +kernel)) rfl
theorem gw_620 : Cond.code yX6_keep cX6_keep 2 (Option.none : Option Jvm.ClassFile.FieldType) ∈ ql_W := ql_in (List.mem_of_getElem? (i := 620) (by decide +kernel)) rfl
theorem gw_621 : Cond.methodLink RX6 33 yJ9_floorMod_7cf53 ∈ ql_W := ql_in (List.mem_of_getElem? (i := 621) (by decide +kernel)) rfl
theorem gw_622 : Cond.methodLink RX6 39 yJ9_min_7cf53 ∈ ql_W := ql_in (List.mem_of_getElem? (i := 622) (by decide +kernel)) rfl
theorem gw_623 : Cond.static yJ9_min_7cf53 ∈ ql_W := ql_in (List.mem_of_getElem? (i := 623) (by decide +kernel)) rfl
theorem gw_624 : Cond.code yJ9_min_7cf53 cJ9_min_7cf53 2 (Option.some Jvm.ClassFile.FieldType.int) ∈ ql_W := ql_in (List.mem_of_getElem? (i := 624) (by decide +kernel)) rfl
theorem gw_625 : Cond.methodLink RL 199 yX11_day ∈ ql_W := ql_in (List.mem_of_getElem? (i := 625) (by decide +kernel)) rfl
theorem gw_626 : Cond.instanceMethod yX11_day ∈ ql_W := ql_in (List.mem_of_getElem? (i := 626) (by decide +kernel)) rfl
theorem gw_627 : Cond.selects RX11 yX11_day yX11_day ∈ ql_W := ql_in (List.mem_of_getElem? (i := 627) (by decide +kernel)) rfl
theorem gw_628 : Cond.code yX11_day cX11_day 1 (Option.some Jvm.ClassFile.FieldType.int) ∈ ql_W := ql_in (List.mem_of_getElem? (i := 628) (by decide +kernel)) rfl
theorem gw_629 : Cond.methodLink RL 203 yX11_clauseCount ∈ ql_W := ql_in (List.mem_of_getElem? (i := 629) (by decide +kernel)) rfl
theorem gw_630 : Cond.instanceMethod yX11_clauseCount ∈ ql_W := ql_in (List.mem_of_getElem? (i := 630) (by decide +kernel)) rfl
theorem gw_631 : Cond.selects RX11 yX11_clauseCount yX11_clauseCount ∈ ql_W := ql_in (List.mem_of_getElem? (i := 631) (by decide +kernel)) rfl
theorem gw_632 : Cond.code yX11_clauseCount cX11_clauseCount 1 (Option.some Jvm.ClassFile.FieldType.int) ∈ ql_W := ql_in (List.mem_of_getElem? (i := 632) (by decide +kernel)) rfl
theorem gw_633 : Cond.methodLink RX11 139 yX1_countClauses ∈ ql_W := ql_in (List.mem_of_getElem? (i := 633) (by decide +kernel)) rfl
theorem gw_634 : Cond.instanceMethod yX1_countClauses ∈ ql_W := ql_in (List.mem_of_getElem? (i := 634) (by decide +kernel)) rfl
theorem gw_635 : Cond.selects RX1 yX1_countClauses yX1_countClauses ∈ ql_W := ql_in (List.mem_of_getElem? (i := 635) (by decide +kernel)) rfl
theorem gw_636 : Cond.code yX1_countClauses cX1_countClauses 6 (Option.some Jvm.ClassFile.FieldType.int) ∈ ql_W := ql_in (List.mem_of_getElem? (i := 636) (by decide +kernel)) rfl
theorem gw_637 : Cond.methodLink RL 228 yX11_inForceOn ∈ ql_W := ql_in (List.mem_of_getElem? (i := 637) (by decide +kernel)) rfl
theorem gw_638 : Cond.instanceMethod yX11_inForceOn ∈ ql_W := ql_in (List.mem_of_getElem? (i := 638) (by decide +kernel)) rfl
theorem gw_639 : Cond.selects RX11 yX11_inForceOn yX11_inForceOn ∈ ql_W := ql_in (List.mem_of_getElem? (i := 639) (by decide +kernel)) rfl
theorem gw_640 : Cond.code yX11_inForceOn cX11_inForceOn 2 (Option.some Jvm.ClassFile.FieldType.int) ∈ ql_W := ql_in (List.mem_of_getElem? (i := 640) (by decide +kernel)) rfl
theorem gw_641 : Cond.methodLink RX11 180 yX1_countHoldingOn ∈ ql_W := ql_in (List.mem_of_getElem? (i := 641) (by decide +kernel)) rfl
theorem gw_642 : Cond.instanceMethod yX1_countHoldingOn ∈ ql_W := ql_in (List.mem_of_getElem? (i := 642) (by decide +kernel)) rfl
theorem gw_643 : Cond.selects RX1 yX1_countHoldingOn yX1_countHoldingOn ∈ ql_W := ql_in (List.mem_of_getElem? (i := 643) (by decide +kernel)) rfl
theorem gw_644 : Cond.code yX1_countHoldingOn cX1_countHoldingOn 7 (Option.some Jvm.ClassFile.FieldType.int) ∈ ql_W := ql_in (List.mem_of_getElem? (i := 644) (by decide +kernel)) rfl
theorem gw_645 : Cond.methodLink RX1 109 yX3_holdsOn ∈ ql_W := ql_in (List.mem_of_getElem? (i := 645) (by decide +kernel)) rfl
theorem gw_646 : Cond.instanceMethod yX3_holdsOn ∈ ql_W := ql_in (List.mem_of_getElem? (i := 646) (by decide +kernel)) rfl
theorem gw_647 : Cond.selects RX3 yX3_holdsOn yX3_holdsOn ∈ ql_W := ql_in (List.mem_of_getElem? (i := 647) (by decide +kernel)) rfl
theorem gw_648 : Cond.code yX3_holdsOn cX3_holdsOn 2 (Option.some Jvm.ClassFile.FieldType.boolean) ∈ ql_W := ql_in (List.mem_of_getElem? (i := 648) (by decide +kernel)) rfl
theorem gw_649 : Cond.methodLink RL 257 yX11_duplicatePairs ∈ ql_W := ql_in (List.mem_of_getElem? (i := 649) (by decide +kernel)) rfl
theorem gw_650 : Cond.instanceMethod yX11_duplicatePairs ∈ ql_W := ql_in (List.mem_of_getElem? (i := 650) (by decide +kernel)) rfl
theorem gw_651 : Cond.selects RX11 yX11_duplicatePairs yX11_duplicatePairs ∈ ql_W := ql_in (List.mem_of_getElem? (i := 651) (by decide +kernel)) rfl
theorem gw_652 : Cond.code yX11_duplicatePairs cX11_duplicatePairs 6 (Option.some Jvm.ClassFile.FieldType.int) ∈ ql_W := ql_in (List.mem_of_getElem? (i := 652) (by decide +kernel)) rfl
theorem gw_653 : Cond.methodLink RX11 218 yX10_clear ∈ ql_W := ql_in (List.mem_of_getElem? (i := 653) (by decide +kernel)) rfl
theorem gw_654 : Cond.instanceMethod yX10_clear ∈ ql_W := ql_in (List.mem_of_getElem? (i := 654) (by decide +kernel)) rfl
theorem gw_655 : Cond.selects RX10 yX10_clear yX10_clear ∈ ql_W := ql_in (List.mem_of_getElem? (i := 655) (by decide +kernel)) rfl
theorem gw_656 : Cond.code yX10_clear cX10_clear 2 (Option.none : Option Jvm.ClassFile.FieldType) ∈ ql_W := ql_in (List.mem_of_getElem? (i := 656) (by decide +kernel)) rfl
theorem gw_657 : Cond.methodLink RX11 190 yX3_latestText ∈ ql_W := ql_in (List.mem_of_getElem? (i := 657) (by decide +kernel)) rfl
theorem gw_658 : Cond.instanceMethod yX3_latestText ∈ ql_W := ql_in (List.mem_of_getElem? (i := 658) (by decide +kernel)) rfl
theorem gw_659 : Cond.selects RX3 yX3_latestText yX3_latestText ∈ ql_W := ql_in (List.mem_of_getElem? (i := 659) (by decide +kernel)) rfl
theorem gw_660 : Cond.code yX3_latestText cX3_latestText 2 (Option.some Jvm.ClassFile.FieldType.long) ∈ ql_W := ql_in (List.mem_of_getElem? (i := 660) (by decide +kernel)) rfl
theorem gw_661 : Cond.methodLink RX11 228 yX10_countBeforeAdding ∈ ql_W := ql_in (List.mem_of_getElem? (i := 661) (by decide +kernel)) rfl
theorem gw_662 : Cond.instanceMethod yX10_countBeforeAdding ∈ ql_W := ql_in (List.mem_of_getElem? (i := 662) (by decide +kernel)) rfl
theorem gw_663 : Cond.selects RX10 yX10_countBeforeAdding yX10_countBeforeAdding ∈ ql_W := ql_in (List.mem_of_getElem? (i := 663) (by decide +kernel)) rfl
theorem gw_664 : Cond.code yX10_countBeforeAdding cX10_countBeforeAdding 6 (Option.some Jvm.ClassFile.FieldType.int) ∈ ql_W := ql_in (List.mem_of_getElem? (i := 664) (by decide +kernel)) rfl
theorem gw_665 : Cond.constantLong RX10 17 (-7046029254386353131 : Int64) ∈ ql_W := ql_in (List.mem_of_getElem? (i := 665) (by decide +kernel)) rfl
theorem gw_666 : Cond.methodLink RL 261 yX11_duplicatePairsByComparing ∈ ql_W := ql_in (List.mem_of_getElem? (i := 666) (by decide +kernel)) rfl
theorem gw_667 : Cond.instanceMethod yX11_duplicatePairsByComparing ∈ ql_W := ql_in (List.mem_of_getElem? (i := 667) (by decide +kernel)) rfl
theorem gw_668 : Cond.selects RX11 yX11_duplicatePairsByComparing yX11_duplicatePairsByComparing ∈ ql_W := ql_in (List.mem_of_getElem? (i := 668) (by decide +kernel)) rfl
theorem gw_669 : Cond.code yX11_duplicatePairsByComparing cX11_duplicatePairsByComparing 10 (Option.some Jvm.ClassFile.FieldType.int) ∈ ql_W := ql_in (List.mem_of_getElem? (i := 669) (by decide +kernel)) rfl
theorem gw_670 : Cond.methodLink RL 271 yX11_brokenCites ∈ ql_W := ql_in (List.mem_of_getElem? (i := 670) (by decide +kernel)) rfl
theorem gw_671 : Cond.instanceMethod yX11_brokenCites ∈ ql_W := ql_in (List.mem_of_getElem? (i := 671) (by decide +kernel)) rfl
theorem gw_672 : Cond.selects RX11 yX11_brokenCites yX11_brokenCites ∈ ql_W := ql_in (List.mem_of_getElem? (i := 672) (by decide +kernel)) rfl
theorem gw_673 : Cond.code yX11_brokenCites cX11_brokenCites 1 (Option.some Jvm.ClassFile.FieldType.int) ∈ ql_W := ql_in (List.mem_of_getElem? (i := 673) (by decide +kernel)) rfl
theorem gw_674 : Cond.methodLink RX11 244 yX1_countBrokenCites ∈ ql_W := ql_in (List.mem_of_getElem? (i := 674) (by decide +kernel)) rfl
theorem gw_675 : Cond.instanceMethod yX1_countBrokenCites ∈ ql_W := ql_in (List.mem_of_getElem? (i := 675) (by decide +kernel)) rfl
theorem gw_676 : Cond.selects RX1 yX1_countBrokenCites yX1_countBrokenCites ∈ ql_W := ql_in (List.mem_of_getElem? (i := 676) (by decide +kernel)) rfl
theorem gw_677 : Cond.code yX1_countBrokenCites cX1_countBrokenCites 9 (Option.some Jvm.ClassFile.FieldType.int) ∈ ql_W := ql_in (List.mem_of_getElem? (i := 677) (by decide +kernel)) rfl
theorem gw_678 : Cond.methodLink RL 284 yX11_addedTotal ∈ ql_W := ql_in (List.mem_of_getElem? (i := 678) (by decide +kernel)) rfl
theorem gw_679 : Cond.instanceMethod yX11_addedTotal ∈ ql_W := ql_in (List.mem_of_getElem? (i := 679) (by decide +kernel)) rfl
theorem gw_680 : Cond.selects RX11 yX11_addedTotal yX11_addedTotal ∈ ql_W := ql_in (List.mem_of_getElem? (i := 680) (by decide +kernel)) rfl
theorem gw_681 : Cond.code yX11_addedTotal cX11_addedTotal 1 (Option.some Jvm.ClassFile.FieldType.int) ∈ ql_W := ql_in (List.mem_of_getElem? (i := 681) (by decide +kernel)) rfl
theorem gw_682 : Cond.methodLink RL 288 yX11_amendmentTotal ∈ ql_W := ql_in (List.mem_of_getElem? (i := 682) (by decide +kernel)) rfl
theorem gw_683 : Cond.instanceMethod yX11_amendmentTotal ∈ ql_W := ql_in (List.mem_of_getElem? (i := 683) (by decide +kernel)) rfl
theorem gw_684 : Cond.selects RX11 yX11_amendmentTotal yX11_amendmentTotal ∈ ql_W := ql_in (List.mem_of_getElem? (i := 684) (by decide +kernel)) rfl
theorem gw_685 : Cond.code yX11_amendmentTotal cX11_amendmentTotal 1 (Option.some Jvm.ClassFile.FieldType.int) ∈ ql_W := ql_in (List.mem_of_getElem? (i := 685) (by decide +kernel)) rfl
theorem gw_686 : Cond.methodLink RL 292 yX11_repealedTotal ∈ ql_W := ql_in (List.mem_of_getElem? (i := 686) (by decide +kernel)) rfl
theorem gw_687 : Cond.instanceMethod yX11_repealedTotal ∈ ql_W := ql_in (List.mem_of_getElem? (i := 687) (by decide +kernel)) rfl
theorem gw_688 : Cond.selects RX11 yX11_repealedTotal yX11_repealedTotal ∈ ql_W := ql_in (List.mem_of_getElem? (i := 688) (by decide +kernel)) rfl
theorem gw_689 : Cond.code yX11_repealedTotal cX11_repealedTotal 1 (Option.some Jvm.ClassFile.FieldType.int) ∈ ql_W := ql_in (List.mem_of_getElem? (i := 689) (by decide +kernel)) rfl
theorem gw_690 : Cond.methodLink RL 296 yX11_consolidatedTotal ∈ ql_W := ql_in (List.mem_of_getElem? (i := 690) (by decide +kernel)) rfl
theorem gw_691 : Cond.instanceMethod yX11_consolidatedTotal ∈ ql_W := ql_in (List.mem_of_getElem? (i := 691) (by decide +kernel)) rfl
theorem gw_692 : Cond.selects RX11 yX11_consolidatedTotal yX11_consolidatedTotal ∈ ql_W := ql_in (List.mem_of_getElem? (i := 692) (by decide +kernel)) rfl
theorem gw_693 : Cond.code yX11_consolidatedTotal cX11_consolidatedTotal 1 (Option.some Jvm.ClassFile.FieldType.int) ∈ ql_W := ql_in (List.mem_of_getElem? (i := 693) (by decide +kernel)) rfl
theorem gw_694 : Cond.methodLink RL 300 yX11_editionCount ∈ ql_W := ql_in (List.mem_of_getElem? (i := 694) (by decide +kernel)) rfl
theorem gw_695 : Cond.instanceMethod yX11_editionCount ∈ ql_W := ql_in (List.mem_of_getElem? (i := 695) (by decide +kernel)) rfl
theorem gw_696 : Cond.selects RX11 yX11_editionCount yX11_editionCount ∈ ql_W := ql_in (List.mem_of_getElem? (i := 696) (by decide +kernel)) rfl
theorem gw_697 : Cond.code yX11_editionCount cX11_editionCount 1 (Option.some Jvm.ClassFile.FieldType.int) ∈ ql_W := ql_in (List.mem_of_getElem? (i := 697) (by decide +kernel)) rfl
theorem gw_698 : Cond.methodLink RL 314 yX11_isConsistent ∈ ql_W := ql_in (List.mem_of_getElem? (i := 698) (by decide +kernel)) rfl
theorem gw_699 : Cond.instanceMethod yX11_isConsistent ∈ ql_W := ql_in (List.mem_of_getElem? (i := 699) (by decide +kernel)) rfl
theorem gw_700 : Cond.selects RX11 yX11_isConsistent yX11_isConsistent ∈ ql_W := ql_in (List.mem_of_getElem? (i := 700) (by decide +kernel)) rfl
theorem gw_701 : Cond.code yX11_isConsistent cX11_isConsistent 1 (Option.some Jvm.ClassFile.FieldType.boolean) ∈ ql_W := ql_in (List.mem_of_getElem? (i := 701) (by decide +kernel)) rfl
theorem gw_702 : Cond.methodLink RX11 300 yX11_differencesAgree ∈ ql_W := ql_in (List.mem_of_getElem? (i := 702) (by decide +kernel)) rfl
theorem gw_704 : Cond.instanceMethod yX11_differencesAgree ∈ ql_W := ql_in (List.mem_of_getElem? (i := 704) (by decide +kernel)) rfl
theorem gw_705 : Cond.code yX11_differencesAgree cX11_differencesAgree 9 (Option.some Jvm.ClassFile.FieldType.boolean) ∈ ql_W := ql_in (List.mem_of_getElem? (i := 705) (by decide +kernel)) rfl
theorem gw_706 : Cond.methodLink RX11 312 yX3_firstDay ∈ ql_W := ql_in (List.mem_of_getElem? (i := 706) (by decide +kernel)) rfl
theorem gw_707 : Cond.instanceMethod yX3_firstDay ∈ ql_W := ql_in (List.mem_of_getElem? (i := 707) (by decide +kernel)) rfl
theorem gw_708 : Cond.selects RX3 yX3_firstDay yX3_firstDay ∈ ql_W := ql_in (List.mem_of_getElem? (i := 708) (by decide +kernel)) rfl
theorem gw_709 : Cond.code yX3_firstDay cX3_firstDay 1 (Option.some Jvm.ClassFile.FieldType.int) ∈ ql_W := ql_in (List.mem_of_getElem? (i := 709) (by decide +kernel)) rfl
theorem gw_710 : Cond.methodLink RX11 231 yX3_textOnDay ∈ ql_W := ql_in (List.mem_of_getElem? (i := 710) (by decide +kernel)) rfl
theorem gw_711 : Cond.instanceMethod yX3_textOnDay ∈ ql_W := ql_in (List.mem_of_getElem? (i := 711) (by decide +kernel)) rfl
theorem gw_712 : Cond.selects RX3 yX3_textOnDay yX3_textOnDay ∈ ql_W := ql_in (List.mem_of_getElem? (i := 712) (by decide +kernel)) rfl
theorem gw_713 : Cond.code yX3_textOnDay cX3_textOnDay 6 (Option.some Jvm.ClassFile.FieldType.long) ∈ ql_W := ql_in (List.mem_of_getElem? (i := 713) (by decide +kernel)) rfl
theorem gw_714 : Cond.methodLink RX11 211 yX5_byBeginnings ∈ ql_W := ql_in (List.mem_of_getElem? (i := 714) (by decide +kernel)) rfl
theorem gw_715 : Cond.instanceMethod yX5_byBeginnings ∈ ql_W := ql_in (List.mem_of_getElem? (i := 715) (by decide +kernel)) rfl
theorem gw_716 : Cond.selects RX5 yX5_byBeginnings yX5_byBeginnings ∈ ql_W := ql_in (List.mem_of_getElem? (i := 716) (by decide +kernel)) rfl
theorem gw_717 : Cond.code yX5_byBeginnings cX5_byBeginnings 9 (Option.some Jvm.ClassFile.FieldType.int) ∈ ql_W := ql_in (List.mem_of_getElem? (i := 717) (by decide +kernel)) rfl
theorem gw_718 : Cond.methodLink RX5 16 yX9_lengthOf ∈ ql_W := ql_in (List.mem_of_getElem? (i := 718) (by decide +kernel)) rfl
theorem gw_719 : Cond.static yX9_lengthOf ∈ ql_W := ql_in (List.mem_of_getElem? (i := 719) (by decide +kernel)) rfl
theorem gw_720 : Cond.code yX9_lengthOf cX9_lengthOf 3 (Option.some Jvm.ClassFile.FieldType.int) ∈ ql_W := ql_in (List.mem_of_getElem? (i := 720) (by decide +kernel)) rfl
theorem gw_721 : Cond.methodLink RX9 9 yX9_codeAt ∈ ql_W := ql_in (List.mem_of_getElem? (i := 721) (by decide +kernel)) rfl
theorem gw_722 : Cond.static yX9_codeAt ∈ ql_W := ql_in (List.mem_of_getElem? (i := 722) (by decide +kernel)) rfl
theorem gw_723 : Cond.code yX9_codeAt cX9_codeAt 3 (Option.some Jvm.ClassFile.FieldType.int) ∈ ql_W := ql_in (List.mem_of_getElem? (i := 723) (by decide +kernel)) rfl
theorem gw_724 : Cond.methodLink RX5 22 yX9_noteOf ∈ ql_W := ql_in (List.mem_of_getElem? (i := 724) (by decide +kernel)) rfl
theorem gw_725 : Cond.static yX9_noteOf ∈ ql_W := ql_in (List.mem_of_getElem? (i := 725) (by decide +kernel)) rfl
theorem gw_726 : Cond.code yX9_noteOf cX9_noteOf 3 (Option.some Jvm.ClassFile.FieldType.char) ∈ ql_W := ql_in (List.mem_of_getElem? (i := 726) (by decide +kernel)) rfl
theorem gw_727 : Cond.methodLink RX5 26 yJ9_min_7cf53 ∈ ql_W := ql_in (List.mem_of_getElem? (i := 727) (by decide +kernel)) rfl
theorem gw_728 : Cond.methodLink RX11 215 yX5_byEnds ∈ ql_W := ql_in (List.mem_of_getElem? (i := 728) (by decide +kernel)) rfl
theorem gw_729 : Cond.instanceMethod yX5_byEnds ∈ ql_W := ql_in (List.mem_of_getElem? (i := 729) (by decide +kernel)) rfl
theorem gw_730 : Cond.selects RX5 yX5_byEnds yX5_byEnds ∈ ql_W := ql_in (List.mem_of_getElem? (i := 730) (by decide +kernel)) rfl
theorem gw_731 : Cond.code yX5_byEnds cX5_byEnds 9 (Option.some Jvm.ClassFile.FieldType.int) ∈ ql_W := ql_in (List.mem_of_getElem? (i := 731) (by decide +kernel)) rfl
theorem gw_732 : Cond.methodLink RX11 303 yX11_duplicatePairs ∈ ql_W := ql_in (List.mem_of_getElem? (i := 732) (by decide +kernel)) rfl
theorem gw_733 : Cond.methodLink RX11 306 yX11_duplicatePairsByComparing ∈ ql_W := ql_in (List.mem_of_getElem? (i := 733) (by decide +kernel)) rfl
theorem gw_734 : Cond.methodLink RX11 309 yX11_indirectCitesAgree ∈ ql_W := ql_in (List.mem_of_getElem? (i := 734) (by decide +kernel)) rfl
theorem gw_736 : Cond.instanceMethod yX11_indirectCitesAgree ∈ ql_W := ql_in (List.mem_of_getElem? (i := 736) (by decide +kernel)) rfl
theorem gw_737 : Cond.code yX11_indirectCitesAgree cX11_indirectCitesAgree 2 (Option.some Jvm.ClassFile.FieldType.boolean) ∈ ql_W := ql_in (List.mem_of_getElem? (i := 737) (by decide +kernel)) rfl
theorem gw_738 : Cond.methodLink RX11 250 yX2_read ∈ ql_W := ql_in (List.mem_of_getElem? (i := 738) (by decide +kernel)) rfl
theorem gw_739 : Cond.instanceMethod yX2_read ∈ ql_W := ql_in (List.mem_of_getElem? (i := 739) (by decide +kernel)) rfl
theorem gw_740 : Cond.selects RX2 yX2_read yX2_read ∈ ql_W := ql_in (List.mem_of_getElem? (i := 740) (by decide +kernel)) rfl
theorem gw_741 : Cond.code yX2_read cX2_read 4 (Option.none : Option Jvm.ClassFile.FieldType) ∈ ql_W := ql_in (List.mem_of_getElem? (i := 741) (by decide +kernel)) rfl
theorem gw_742 : Cond.methodLink RX2 33 yX2_slotsCitedBy ∈ ql_W := ql_in (List.mem_of_getElem? (i := 742) (by decide +kernel)) rfl
theorem gw_743 : Cond.static yX2_slotsCitedBy ∈ ql_W := ql_in (List.mem_of_getElem? (i := 743) (by decide +kernel)) rfl
theorem gw_744 : Cond.code yX2_slotsCitedBy cX2_slotsCitedBy 6 (Option.some Jvm.ClassFile.FieldType.int) ∈ ql_W := ql_in (List.mem_of_getElem? (i := 744) (by decide +kernel)) rfl
theorem gw_745 : Cond.methodLink RX2 37 yX3_countCites ∈ ql_W := ql_in (List.mem_of_getElem? (i := 745) (by decide +kernel)) rfl
theorem gw_746 : Cond.methodLink RX2 41 yX3_citeAtPlace ∈ ql_W := ql_in (List.mem_of_getElem? (i := 746) (by decide +kernel)) rfl
theorem gw_747 : Cond.methodLink RX2 45 yX1_slotWithId ∈ ql_W := ql_in (List.mem_of_getElem? (i := 747) (by decide +kernel)) rfl
theorem gw_748 : Cond.methodLink RX11 260 yX2_close ∈ ql_W := ql_in (List.mem_of_getElem? (i := 748) (by decide +kernel)) rfl
theorem gw_749 : Cond.instanceMethod yX2_close ∈ ql_W := ql_in (List.mem_of_getElem? (i := 749) (by decide +kernel)) rfl
theorem gw_750 : Cond.selects RX2 yX2_close yX2_close ∈ ql_W := ql_in (List.mem_of_getElem? (i := 750) (by decide +kernel)) rfl
theorem gw_751 : Cond.code yX2_close cX2_close 3 (Option.none : Option Jvm.ClassFile.FieldType) ∈ ql_W := ql_in (List.mem_of_getElem? (i := 751) (by decide +kernel)) rfl
theorem gw_752 : Cond.methodLink RX2 52 ⟨"java/lang/System", "arraycopy", "(Ljava/lang/Object;ILjava/lang/Object;II)V"⟩ ∈ ql_W := ql_in (List.mem_of_getElem? (i := 752) (by decide +kernel)) rfl
theorem gw_753 : Cond.methodLink RX2 48 yX2_hasSlot ∈ ql_W := ql_in (List.mem_of_getElem? (i := 753) (by decide +kernel)) rfl
theorem gw_754 : Cond.static yX2_hasSlot ∈ ql_W := ql_in (List.mem_of_getElem? (i := 754) (by decide +kernel)) rfl
theorem gw_755 : Cond.code yX2_hasSlot cX2_hasSlot 2 (Option.some Jvm.ClassFile.FieldType.boolean) ∈ ql_W := ql_in (List.mem_of_getElem? (i := 755) (by decide +kernel)) rfl
theorem gw_756 : Cond.methodLink RX11 253 yX2_slotsFoundFrom ∈ ql_W := ql_in (List.mem_of_getElem? (i := 756) (by decide +kernel)) rfl
theorem gw_757 : Cond.instanceMethod yX2_slotsFoundFrom ∈ ql_W := ql_in (List.mem_of_getElem? (i := 757) (by decide +kernel)) rfl
theorem gw_758 : Cond.selects RX2 yX2_slotsFoundFrom yX2_slotsFoundFrom ∈ ql_W := ql_in (List.mem_of_getElem? (i := 758) (by decide +kernel)) rfl
theorem gw_759 : Cond.code yX2_slotsFoundFrom cX2_slotsFoundFrom 7 (Option.some Jvm.ClassFile.FieldType.int) ∈ ql_W := ql_in (List.mem_of_getElem? (i := 759) (by decide +kernel)) rfl
theorem gw_760 : Cond.methodLink RX11 263 yX2_slotsClosedFrom ∈ ql_W := ql_in (List.mem_of_getElem? (i := 760) (by decide +kernel)) rfl
theorem gw_761 : Cond.instanceMethod yX2_slotsClosedFrom ∈ ql_W := ql_in (List.mem_of_getElem? (i := 761) (by decide +kernel)) rfl
theorem gw_762 : Cond.selects RX2 yX2_slotsClosedFrom yX2_slotsClosedFrom ∈ ql_W := ql_in (List.mem_of_getElem? (i := 762) (by decide +kernel)) rfl
theorem gw_763 : Cond.code yX2_slotsClosedFrom cX2_slotsClosedFrom 2 (Option.some Jvm.ClassFile.FieldType.int) ∈ ql_W := ql_in (List.mem_of_getElem? (i := 763) (by decide +kernel)) rfl
theorem gw_764 : Cond.methodLink RL 342 yX11_save ∈ ql_W := ql_in (List.mem_of_getElem? (i := 764) (by decide +kernel)) rfl
theorem gw_765 : Cond.instanceMethod yX11_save ∈ ql_W := ql_in (List.mem_of_getElem? (i := 765) (by decide +kernel)) rfl
theorem gw_766 : Cond.selects RX11 yX11_save yX11_save ∈ ql_W := ql_in (List.mem_of_getElem? (i := 766) (by decide +kernel)) rfl
theorem gw_767 : Cond.code yX11_save cX11_save 1 (Option.some Jvm.ClassFile.FieldType.int) ∈ ql_W := ql_in (List.mem_of_getElem? (i := 767) (by decide +kernel)) rfl
theorem gw_768 : Cond.methodLink RX11 366 yX1_copyFrom ∈ ql_W := ql_in (List.mem_of_getElem? (i := 768) (by decide +kernel)) rfl
theorem gw_769 : Cond.methodLink RL 159 yL_addClause ∈ ql_W := ql_in (List.mem_of_getElem? (i := 769) (by decide +kernel)) rfl
theorem gw_770 : Cond.static yL_addClause ∈ ql_W := ql_in (List.mem_of_getElem? (i := 770) (by decide +kernel)) rfl
theorem gw_771 : Cond.codeWith yL_addClause cL_addClause 5 (Option.some Jvm.ClassFile.FieldType.int) [((0 : Nat), (10 : Nat), (13 : Nat), (13 : Nat)), ((0 : Nat), (10 : Nat), (17 : Nat), (15 : Nat)), ((0 : Nat), (10 : Nat), (21 : Nat), (17 : Nat))] ∈ ql_W := ql_in (List.mem_of_getElem? (i := 771) (by decide +kernel)) rfl
theorem gw_772 : Cond.classLink RL 13 "java/lang/IllegalArgumentException" ∈ ql_W := ql_in (List.mem_of_getElem? (i := 772) (by decide +kernel)) rfl
theorem gw_773 : Cond.classLink RL 15 "java/lang/IllegalStateException" ∈ ql_W := ql_in (List.mem_of_getElem? (i := 773) (by decide +kernel)) rfl
theorem gw_774 : Cond.classLink RL 17 "java/lang/UnsupportedOperationException" ∈ ql_W := ql_in (List.mem_of_getElem? (i := 774) (by decide +kernel)) rfl
theorem gw_775 : Cond.methodLink RL 7 yX11_addClause ∈ ql_W := ql_in (List.mem_of_getElem? (i := 775) (by decide +kernel)) rfl
theorem gw_776 : Cond.instanceMethod yX11_addClause ∈ ql_W := ql_in (List.mem_of_getElem? (i := 776) (by decide +kernel)) rfl
theorem gw_777 : Cond.selects RX11 yX11_addClause yX11_addClause ∈ ql_W := ql_in (List.mem_of_getElem? (i := 777) (by decide +kernel)) rfl
theorem gw_778 : Cond.code yX11_addClause cX11_addClause 3 (Option.some Jvm.ClassFile.FieldType.int) ∈ ql_W := ql_in (List.mem_of_getElem? (i := 778) (by decide +kernel)) rfl
theorem gw_779 : Cond.methodLink RX11 76 yX1_tryAdd ∈ ql_W := ql_in (List.mem_of_getElem? (i := 779) (by decide +kernel)) rfl
theorem gw_780 : Cond.instanceMethod yX1_tryAdd ∈ ql_W := ql_in (List.mem_of_getElem? (i := 780) (by decide +kernel)) rfl
theorem gw_781 : Cond.selects RX1 yX1_tryAdd yX1_tryAdd ∈ ql_W := ql_in (List.mem_of_getElem? (i := 781) (by decide +kernel)) rfl
theorem gw_782 : Cond.code yX1_tryAdd cX1_tryAdd 4 (Option.some Jvm.ClassFile.FieldType.int) ∈ ql_W := ql_in (List.mem_of_getElem? (i := 782) (by decide +kernel)) rfl
theorem gw_783 : Cond.methodLink RX1 54 yX9_isNote ∈ ql_W := ql_in (List.mem_of_getElem? (i := 783) (by decide +kernel)) rfl
theorem gw_784 : Cond.static yX9_isNote ∈ ql_W := ql_in (List.mem_of_getElem? (i := 784) (by decide +kernel)) rfl
theorem gw_785 : Cond.code yX9_isNote cX9_isNote 1 (Option.some Jvm.ClassFile.FieldType.boolean) ∈ ql_W := ql_in (List.mem_of_getElem? (i := 785) (by decide +kernel)) rfl
theorem gw_786 : Cond.methodLink RX1 60 yX1_freeClause ∈ ql_W := ql_in (List.mem_of_getElem? (i := 786) (by decide +kernel)) rfl
theorem gw_788 : Cond.instanceMethod yX1_freeClause ∈ ql_W := ql_in (List.mem_of_getElem? (i := 788) (by decide +kernel)) rfl
theorem gw_789 : Cond.code yX1_freeClause cX1_freeClause 5 (Option.some (Jvm.ClassFile.FieldType.object "ClauseLedger$Clause")) ∈ ql_W := ql_in (List.mem_of_getElem? (i := 789) (by decide +kernel)) rfl
theorem gw_790 : Cond.methodLink RX1 64 yX1_clauseWithSection ∈ ql_W := ql_in (List.mem_of_getElem? (i := 790) (by decide +kernel)) rfl
theorem gw_791 : Cond.instanceMethod yX1_clauseWithSection ∈ ql_W := ql_in (List.mem_of_getElem? (i := 791) (by decide +kernel)) rfl
theorem gw_792 : Cond.selects RX1 yX1_clauseWithSection yX1_clauseWithSection ∈ ql_W := ql_in (List.mem_of_getElem? (i := 792) (by decide +kernel)) rfl
theorem gw_793 : Cond.code yX1_clauseWithSection cX1_clauseWithSection 6 (Option.some (Jvm.ClassFile.FieldType.object "ClauseLedger$Clause")) ∈ ql_W := ql_in (List.mem_of_getElem? (i := 793) (by decide +kernel)) rfl
theorem gw_794 : Cond.methodLink RX1 68 yX9_ofNote ∈ ql_W := ql_in (List.mem_of_getElem? (i := 794) (by decide +kernel)) rfl
theorem gw_795 : Cond.static yX9_ofNote ∈ ql_W := ql_in (List.mem_of_getElem? (i := 795) (by decide +kernel)) rfl
theorem gw_796 : Cond.code yX9_ofNote cX9_ofNote 1 (Option.some Jvm.ClassFile.FieldType.long) ∈ ql_W := ql_in (List.mem_of_getElem? (i := 796) (by decide +kernel)) rfl
theorem gw_797 : Cond.methodLink RX1 72 yX3_begin ∈ ql_W := ql_in (List.mem_of_getElem? (i := 797) (by decide +kernel)) rfl
theorem gw_798 : Cond.instanceMethod yX3_begin ∈ ql_W := ql_in (List.mem_of_getElem? (i := 798) (by decide +kernel)) rfl
theorem gw_799 : Cond.selects RX3 yX3_begin yX3_begin ∈ ql_W := ql_in (List.mem_of_getElem? (i := 799) (by decide +kernel)) rfl
theorem gw_800 : Cond.code yX3_begin cX3_begin 7 (Option.none : Option Jvm.ClassFile.FieldType) ∈ ql_W := ql_in (List.mem_of_getElem? (i := 800) (by decide +kernel)) rfl
theorem gw_801 : Cond.methodLink RL 168 yL_insertNote ∈ ql_W := ql_in (List.mem_of_getElem? (i := 801) (by decide +kernel)) rfl
theorem gw_802 : Cond.static yL_insertNote ∈ ql_W := ql_in (List.mem_of_getElem? (i := 802) (by decide +kernel)) rfl
theorem gw_803 : Cond.codeWith yL_insertNote cL_insertNote 6 (Option.some Jvm.ClassFile.FieldType.int) [((0 : Nat), (12 : Nat), (15 : Nat), (23 : Nat)), ((0 : Nat), (12 : Nat), (19 : Nat), (25 : Nat)), ((0 : Nat), (12 : Nat), (23 : Nat), (13 : Nat)), ((0 : Nat), (12 : Nat), (27 : Nat), (15 : Nat)), ((0 : Nat), (12 : Nat), (31 : Nat), (17 : Nat))] ∈ ql_W := ql_in (List.mem_of_getElem? (i := 803) (by decide +kernel)) rfl
theorem gw_804 : Cond.classLink RL 23 "java/util/NoSuchElementException" ∈ ql_W := ql_in (List.mem_of_getElem? (i := 804) (by decide +kernel)) rfl
theorem gw_805 : Cond.classLink RL 25 "java/lang/IndexOutOfBoundsException" ∈ ql_W := ql_in (List.mem_of_getElem? (i := 805) (by decide +kernel)) rfl
theorem gw_806 : Cond.instantiable RJx00060 6 ∈ ql_W := ql_in (List.mem_of_getElem? (i := 806) (by decide +kernel)) rfl
theorem gw_807 : Cond.instanceMethod yJx00060_init_a7421 ∈ ql_W := ql_in (List.mem_of_getElem? (i := 807) (by decide +kernel)) rfl
theorem gw_808 : Cond.code yJx00060_init_a7421 cJx00060_init_a7421 2 (Option.none : Option Jvm.ClassFile.FieldType) ∈ ql_W := ql_in (List.mem_of_getElem? (i := 808) (by decide +kernel)) rfl
theorem gw_809 : Cond.methodLink RJx00060 7 ⟨"java/lang/IndexOutOfBoundsException", "<init>", "(Ljava/lang/String;)V"⟩ ∈ ql_W := ql_in (List.mem_of_getElem? (i := 809) (by decide +kernel)) rfl
theorem gw_810 : Cond.instanceMethod ⟨"java/lang/IndexOutOfBoundsException", "<init>", "(Ljava/lang/String;)V"⟩ ∈ ql_W := ql_in (List.mem_of_getElem? (i := 810) (by decide +kernel)) rfl
theorem gw_811 : Cond.code ⟨"java/lang/IndexOutOfBoundsException", "<init>", "(Ljava/lang/String;)V"⟩ prog_27_method_2_code 2 (Option.none : Option Jvm.ClassFile.FieldType) ∈ ql_W := ql_in (List.mem_of_getElem? (i := 811) (by decide +kernel)) rfl
theorem gw_812 : Cond.methodLink "java/lang/IndexOutOfBoundsException" 7 ⟨"java/lang/RuntimeException", "<init>", "(Ljava/lang/String;)V"⟩ ∈ ql_W := ql_in (List.mem_of_getElem? (i := 812) (by decide +kernel)) rfl
theorem gw_813 : Cond.instanceMethod ⟨"java/lang/RuntimeException", "<init>", "(Ljava/lang/String;)V"⟩ ∈ ql_W := ql_in (List.mem_of_getElem? (i := 813) (by decide +kernel)) rfl
theorem gw_814 : Cond.code ⟨"java/lang/RuntimeException", "<init>", "(Ljava/lang/String;)V"⟩ prog_31_method_2_code 2 (Option.none : Option Jvm.ClassFile.FieldType) ∈ ql_W := ql_in (List.mem_of_getElem? (i := 814) (by decide +kernel)) rfl
theorem gw_815 : Cond.methodLink "java/lang/RuntimeException" 7 ⟨"java/lang/Exception", "<init>", "(Ljava/lang/String;)V"⟩ ∈ ql_W := ql_in (List.mem_of_getElem? (i := 815) (by decide +kernel)) rfl
theorem gw_816 : Cond.instanceMethod ⟨"java/lang/Exception", "<init>", "(Ljava/lang/String;)V"⟩ ∈ ql_W := ql_in (List.mem_of_getElem? (i := 816) (by decide +kernel)) rfl
theorem gw_817 : Cond.code ⟨"java/lang/Exception", "<init>", "(Ljava/lang/String;)V"⟩ prog_24_method_2_code 2 (Option.none : Option Jvm.ClassFile.FieldType) ∈ ql_W := ql_in (List.mem_of_getElem? (i := 817) (by decide +kernel)) rfl
theorem gw_818 : Cond.methodLink "java/lang/Exception" 7 ⟨"java/lang/Throwable", "<init>", "(Ljava/lang/String;)V"⟩ ∈ ql_W := ql_in (List.mem_of_getElem? (i := 818) (by decide +kernel)) rfl
theorem gw_819 : Cond.instanceMethod ⟨"java/lang/Throwable", "<init>", "(Ljava/lang/String;)V"⟩ ∈ ql_W := ql_in (List.mem_of_getElem? (i := 819) (by decide +kernel)) rfl
theorem gw_820 : Cond.code ⟨"java/lang/Throwable", "<init>", "(Ljava/lang/String;)V"⟩ prog_38_method_2_code 2 (Option.none : Option Jvm.ClassFile.FieldType) ∈ ql_W := ql_in (List.mem_of_getElem? (i := 820) (by decide +kernel)) rfl
theorem gw_821 : Cond.lays RJx00060 "java/lang/Throwable" "backtrace" "Ljava/lang/Object;" ∈ ql_W := ql_in (List.mem_of_getElem? (i := 821) (by decide +kernel)) rfl
theorem gw_822 : Cond.lays RJx00060 "java/lang/Throwable" "detailMessage" "Ljava/lang/String;" ∈ ql_W := ql_in (List.mem_of_getElem? (i := 822) (by decide +kernel)) rfl
theorem gw_823 : Cond.lays RJx00060 "java/lang/Throwable" "cause" "Ljava/lang/Throwable;" ∈ ql_W := ql_in (List.mem_of_getElem? (i := 823) (by decide +kernel)) rfl
theorem gw_824 : Cond.lays RJx00060 "java/lang/Throwable" "stackTrace" "[Ljava/lang/StackTraceElement;" ∈ ql_W := ql_in (List.mem_of_getElem? (i := 824) (by decide +kernel)) rfl
theorem gw_825 : Cond.lays RJx00060 "java/lang/Throwable" "depth" "I" ∈ ql_W := ql_in (List.mem_of_getElem? (i := 825) (by decide +kernel)) rfl
theorem gw_826 : Cond.lays RJx00060 "java/lang/Throwable" "suppressedExceptions" "Ljava/util/List;" ∈ ql_W := ql_in (List.mem_of_getElem? (i := 826) (by decide +kernel)) rfl
theorem gw_827 : Cond.superclass RJx00060 "java/lang/IndexOutOfBoundsException" ∈ ql_W := ql_in (List.mem_of_getElem? (i := 827) (by decide +kernel)) rfl
theorem gw_831 : Cond.selects RJx00060 ⟨"java/lang/Throwable", "fillInStackTrace", "(I)Ljava/lang/Throwable;"⟩ ⟨"java/lang/Throwable", "fillInStackTrace", "(I)Ljava/lang/Throwable;"⟩ ∈ ql_W := ql_in (List.mem_of_getElem? (i := 831) (by decide +kernel)) rfl
theorem gw_832 : Cond.instantiable RJ0 4 ∈ ql_W := ql_in (List.mem_of_getElem? (i := 832) (by decide +kernel)) rfl
theorem gw_833 : Cond.laysFinal RJ0 RJ0 "value" "[B" ∈ ql_W := ql_in (List.mem_of_getElem? (i := 833) (by decide +kernel)) rfl
theorem gw_835 : Cond.laysFinal RJ0 RJ0 "coder" "B" ∈ ql_W := ql_in (List.mem_of_getElem? (i := 835) (by decide +kernel)) rfl
theorem gw_837 : Cond.methodLink RL 19 yX11_insertNote ∈ ql_W := ql_in (List.mem_of_getElem? (i := 837) (by decide +kernel)) rfl
theorem gw_838 : Cond.instanceMethod yX11_insertNote ∈ ql_W := ql_in (List.mem_of_getElem? (i := 838) (by decide +kernel)) rfl
theorem gw_839 : Cond.selects RX11 yX11_insertNote yX11_insertNote ∈ ql_W := ql_in (List.mem_of_getElem? (i := 839) (by decide +kernel)) rfl
theorem gw_840 : Cond.code yX11_insertNote cX11_insertNote 4 (Option.some Jvm.ClassFile.FieldType.int) ∈ ql_W := ql_in (List.mem_of_getElem? (i := 840) (by decide +kernel)) rfl
theorem gw_841 : Cond.methodLink RX11 84 yX1_tryInsert ∈ ql_W := ql_in (List.mem_of_getElem? (i := 841) (by decide +kernel)) rfl
theorem gw_842 : Cond.instanceMethod yX1_tryInsert ∈ ql_W := ql_in (List.mem_of_getElem? (i := 842) (by decide +kernel)) rfl
theorem gw_843 : Cond.selects RX1 yX1_tryInsert yX1_tryInsert ∈ ql_W := ql_in (List.mem_of_getElem? (i := 843) (by decide +kernel)) rfl
theorem gw_844 : Cond.code yX1_tryInsert cX1_tryInsert 8 (Option.some Jvm.ClassFile.FieldType.int) ∈ ql_W := ql_in (List.mem_of_getElem? (i := 844) (by decide +kernel)) rfl
theorem gw_845 : Cond.methodLink RX1 82 yX3_latestText ∈ ql_W := ql_in (List.mem_of_getElem? (i := 845) (by decide +kernel)) rfl
theorem gw_846 : Cond.methodLink RX1 86 yX9_lengthOf ∈ ql_W := ql_in (List.mem_of_getElem? (i := 846) (by decide +kernel)) rfl
theorem gw_847 : Cond.methodLink RX1 90 yX1_isAmendable ∈ ql_W := ql_in (List.mem_of_getElem? (i := 847) (by decide +kernel)) rfl
theorem gw_849 : Cond.instanceMethod yX1_isAmendable ∈ ql_W := ql_in (List.mem_of_getElem? (i := 849) (by decide +kernel)) rfl
theorem gw_850 : Cond.code yX1_isAmendable cX1_isAmendable 2 (Option.some Jvm.ClassFile.FieldType.boolean) ∈ ql_W := ql_in (List.mem_of_getElem? (i := 850) (by decide +kernel)) rfl
theorem gw_851 : Cond.methodLink RX1 113 yX3_hasRoomForVersion ∈ ql_W := ql_in (List.mem_of_getElem? (i := 851) (by decide +kernel)) rfl
theorem gw_852 : Cond.instanceMethod yX3_hasRoomForVersion ∈ ql_W := ql_in (List.mem_of_getElem? (i := 852) (by decide +kernel)) rfl
theorem gw_853 : Cond.selects RX3 yX3_hasRoomForVersion yX3_hasRoomForVersion ∈ ql_W := ql_in (List.mem_of_getElem? (i := 853) (by decide +kernel)) rfl
theorem gw_854 : Cond.code yX3_hasRoomForVersion cX3_hasRoomForVersion 1 (Option.some Jvm.ClassFile.FieldType.boolean) ∈ ql_W := ql_in (List.mem_of_getElem? (i := 854) (by decide +kernel)) rfl
theorem gw_855 : Cond.methodLink RX1 94 yX9_withInserted ∈ ql_W := ql_in (List.mem_of_getElem? (i := 855) (by decide +kernel)) rfl
theorem gw_856 : Cond.static yX9_withInserted ∈ ql_W := ql_in (List.mem_of_getElem? (i := 856) (by decide +kernel)) rfl
theorem gw_857 : Cond.code yX9_withInserted cX9_withInserted 6 (Option.some Jvm.ClassFile.FieldType.long) ∈ ql_W := ql_in (List.mem_of_getElem? (i := 857) (by decide +kernel)) rfl
theorem gw_858 : Cond.methodLink RX9 15 yX9_before ∈ ql_W := ql_in (List.mem_of_getElem? (i := 858) (by decide +kernel)) rfl
theorem gw_859 : Cond.static yX9_before ∈ ql_W := ql_in (List.mem_of_getElem? (i := 859) (by decide +kernel)) rfl
theorem gw_860 : Cond.code yX9_before cX9_before 3 (Option.some Jvm.ClassFile.FieldType.long) ∈ ql_W := ql_in (List.mem_of_getElem? (i := 860) (by decide +kernel)) rfl
theorem gw_861 : Cond.methodLink RX9 19 yX9_ofNote ∈ ql_W := ql_in (List.mem_of_getElem? (i := 861) (by decide +kernel)) rfl
theorem gw_862 : Cond.methodLink RX1 98 yX1_amend ∈ ql_W := ql_in (List.mem_of_getElem? (i := 862) (by decide +kernel)) rfl
theorem gw_864 : Cond.instanceMethod yX1_amend ∈ ql_W := ql_in (List.mem_of_getElem? (i := 864) (by decide +kernel)) rfl
theorem gw_865 : Cond.code yX1_amend cX1_amend 4 (Option.some Jvm.ClassFile.FieldType.int) ∈ ql_W := ql_in (List.mem_of_getElem? (i := 865) (by decide +kernel)) rfl
theorem gw_866 : Cond.methodLink RX1 117 yX3_addVersion ∈ ql_W := ql_in (List.mem_of_getElem? (i := 866) (by decide +kernel)) rfl
theorem gw_867 : Cond.instanceMethod yX3_addVersion ∈ ql_W := ql_in (List.mem_of_getElem? (i := 867) (by decide +kernel)) rfl
theorem gw_868 : Cond.selects RX3 yX3_addVersion yX3_addVersion ∈ ql_W := ql_in (List.mem_of_getElem? (i := 868) (by decide +kernel)) rfl
theorem gw_869 : Cond.code yX3_addVersion cX3_addVersion 5 (Option.none : Option Jvm.ClassFile.FieldType) ∈ ql_W := ql_in (List.mem_of_getElem? (i := 869) (by decide +kernel)) rfl
theorem gw_870 : Cond.methodLink RX1 121 yX3_countVersions ∈ ql_W := ql_in (List.mem_of_getElem? (i := 870) (by decide +kernel)) rfl
theorem gw_871 : Cond.methodLink RL 172 yL_replaceNote ∈ ql_W := ql_in (List.mem_of_getElem? (i := 871) (by decide +kernel)) rfl
theorem gw_872 : Cond.static yL_replaceNote ∈ ql_W := ql_in (List.mem_of_getElem? (i := 872) (by decide +kernel)) rfl
theorem gw_873 : Cond.codeWith yL_replaceNote cL_replaceNote 6 (Option.some Jvm.ClassFile.FieldType.int) [((0 : Nat), (12 : Nat), (15 : Nat), (23 : Nat)), ((0 : Nat), (12 : Nat), (19 : Nat), (25 : Nat)), ((0 : Nat), (12 : Nat), (23 : Nat), (13 : Nat)), ((0 : Nat), (12 : Nat), (27 : Nat), (15 : Nat))] ∈ ql_W := ql_in (List.mem_of_getElem? (i := 873) (by decide +kernel)) rfl
theorem gw_874 : Cond.methodLink RL 27 yX11_replaceNote ∈ ql_W := ql_in (List.mem_of_getElem? (i := 874) (by decide +kernel)) rfl
theorem gw_875 : Cond.instanceMethod yX11_replaceNote ∈ ql_W := ql_in (List.mem_of_getElem? (i := 875) (by decide +kernel)) rfl
theorem gw_876 : Cond.selects RX11 yX11_replaceNote yX11_replaceNote ∈ ql_W := ql_in (List.mem_of_getElem? (i := 876) (by decide +kernel)) rfl
theorem gw_877 : Cond.code yX11_replaceNote cX11_replaceNote 4 (Option.some Jvm.ClassFile.FieldType.int) ∈ ql_W := ql_in (List.mem_of_getElem? (i := 877) (by decide +kernel)) rfl
theorem gw_878 : Cond.methodLink RX11 88 yX1_tryReplace ∈ ql_W := ql_in (List.mem_of_getElem? (i := 878) (by decide +kernel)) rfl
theorem gw_879 : Cond.instanceMethod yX1_tryReplace ∈ ql_W := ql_in (List.mem_of_getElem? (i := 879) (by decide +kernel)) rfl
theorem gw_880 : Cond.selects RX1 yX1_tryReplace yX1_tryReplace ∈ ql_W := ql_in (List.mem_of_getElem? (i := 880) (by decide +kernel)) rfl
theorem gw_881 : Cond.code yX1_tryReplace cX1_tryReplace 7 (Option.some Jvm.ClassFile.FieldType.int) ∈ ql_W := ql_in (List.mem_of_getElem? (i := 881) (by decide +kernel)) rfl
theorem gw_882 : Cond.methodLink RX1 102 yX9_withReplaced ∈ ql_W := ql_in (List.mem_of_getElem? (i := 882) (by decide +kernel)) rfl
theorem gw_883 : Cond.static yX9_withReplaced ∈ ql_W := ql_in (List.mem_of_getElem? (i := 883) (by decide +kernel)) rfl
theorem gw_884 : Cond.code yX9_withReplaced cX9_withReplaced 4 (Option.some Jvm.ClassFile.FieldType.long) ∈ ql_W := ql_in (List.mem_of_getElem? (i := 884) (by decide +kernel)) rfl
theorem gw_885 : Cond.methodLink RX9 23 yX9_withDeleted ∈ ql_W := ql_in (List.mem_of_getElem? (i := 885) (by decide +kernel)) rfl
theorem gw_886 : Cond.static yX9_withDeleted ∈ ql_W := ql_in (List.mem_of_getElem? (i := 886) (by decide +kernel)) rfl
theorem gw_887 : Cond.code yX9_withDeleted cX9_withDeleted 5 (Option.some Jvm.ClassFile.FieldType.long) ∈ ql_W := ql_in (List.mem_of_getElem? (i := 887) (by decide +kernel)) rfl
theorem gw_888 : Cond.methodLink RX9 26 yX9_withInserted ∈ ql_W := ql_in (List.mem_of_getElem? (i := 888) (by decide +kernel)) rfl
theorem gw_889 : Cond.methodLink RL 175 yL_deleteNote ∈ ql_W := ql_in (List.mem_of_getElem? (i := 889) (by decide +kernel)) rfl
theorem gw_890 : Cond.static yL_deleteNote ∈ ql_W := ql_in (List.mem_of_getElem? (i := 890) (by decide +kernel)) rfl
theorem gw_891 : Cond.codeWith yL_deleteNote cL_deleteNote 5 (Option.some Jvm.ClassFile.FieldType.int) [((0 : Nat), (10 : Nat), (13 : Nat), (23 : Nat)), ((0 : Nat), (10 : Nat), (17 : Nat), (25 : Nat)), ((0 : Nat), (10 : Nat), (21 : Nat), (15 : Nat)), ((0 : Nat), (10 : Nat), (25 : Nat), (17 : Nat))] ∈ ql_W := ql_in (List.mem_of_getElem? (i := 891) (by decide +kernel)) rfl
theorem gw_892 : Cond.methodLink RL 30 yX11_deleteNote ∈ ql_W := ql_in (List.mem_of_getElem? (i := 892) (by decide +kernel)) rfl
theorem gw_893 : Cond.instanceMethod yX11_deleteNote ∈ ql_W := ql_in (List.mem_of_getElem? (i := 893) (by decide +kernel)) rfl
theorem gw_894 : Cond.selects RX11 yX11_deleteNote yX11_deleteNote ∈ ql_W := ql_in (List.mem_of_getElem? (i := 894) (by decide +kernel)) rfl
theorem gw_895 : Cond.code yX11_deleteNote cX11_deleteNote 3 (Option.some Jvm.ClassFile.FieldType.int) ∈ ql_W := ql_in (List.mem_of_getElem? (i := 895) (by decide +kernel)) rfl
theorem gw_896 : Cond.methodLink RX11 91 yX1_tryDelete ∈ ql_W := ql_in (List.mem_of_getElem? (i := 896) (by decide +kernel)) rfl
theorem gw_897 : Cond.instanceMethod yX1_tryDelete ∈ ql_W := ql_in (List.mem_of_getElem? (i := 897) (by decide +kernel)) rfl
theorem gw_898 : Cond.selects RX1 yX1_tryDelete yX1_tryDelete ∈ ql_W := ql_in (List.mem_of_getElem? (i := 898) (by decide +kernel)) rfl
theorem gw_899 : Cond.code yX1_tryDelete cX1_tryDelete 7 (Option.some Jvm.ClassFile.FieldType.int) ∈ ql_W := ql_in (List.mem_of_getElem? (i := 899) (by decide +kernel)) rfl
theorem gw_900 : Cond.methodLink RX1 105 yX9_withDeleted ∈ ql_W := ql_in (List.mem_of_getElem? (i := 900) (by decide +kernel)) rfl
theorem gw_901 : Cond.methodLink RL 179 yL_setSunset ∈ ql_W := ql_in (List.mem_of_getElem? (i := 901) (by decide +kernel)) rfl
theorem gw_902 : Cond.static yL_setSunset ∈ ql_W := ql_in (List.mem_of_getElem? (i := 902) (by decide +kernel)) rfl
theorem gw_903 : Cond.codeWith yL_setSunset cL_setSunset 5 (Option.some Jvm.ClassFile.FieldType.int) [((0 : Nat), (10 : Nat), (13 : Nat), (23 : Nat)), ((0 : Nat), (10 : Nat), (17 : Nat), (13 : Nat)), ((0 : Nat), (10 : Nat), (21 : Nat), (15 : Nat))] ∈ ql_W := ql_in (List.mem_of_getElem? (i := 903) (by decide +kernel)) rfl
theorem gw_904 : Cond.methodLink RL 34 yX11_setSunset ∈ ql_W := ql_in (List.mem_of_getElem? (i := 904) (by decide +kernel)) rfl
theorem gw_905 : Cond.instanceMethod yX11_setSunset ∈ ql_W := ql_in (List.mem_of_getElem? (i := 905) (by decide +kernel)) rfl
theorem gw_906 : Cond.selects RX11 yX11_setSunset yX11_setSunset ∈ ql_W := ql_in (List.mem_of_getElem? (i := 906) (by decide +kernel)) rfl
theorem gw_907 : Cond.code yX11_setSunset cX11_setSunset 3 (Option.some Jvm.ClassFile.FieldType.int) ∈ ql_W := ql_in (List.mem_of_getElem? (i := 907) (by decide +kernel)) rfl
theorem gw_908 : Cond.methodLink RX11 95 yX1_trySunset ∈ ql_W := ql_in (List.mem_of_getElem? (i := 908) (by decide +kernel)) rfl
theorem gw_909 : Cond.instanceMethod yX1_trySunset ∈ ql_W := ql_in (List.mem_of_getElem? (i := 909) (by decide +kernel)) rfl
theorem gw_910 : Cond.selects RX1 yX1_trySunset yX1_trySunset ∈ ql_W := ql_in (List.mem_of_getElem? (i := 910) (by decide +kernel)) rfl
theorem gw_911 : Cond.code yX1_trySunset cX1_trySunset 4 (Option.some Jvm.ClassFile.FieldType.int) ∈ ql_W := ql_in (List.mem_of_getElem? (i := 911) (by decide +kernel)) rfl
theorem gw_912 : Cond.methodLink RL 182 yL_cite ∈ ql_W := ql_in (List.mem_of_getElem? (i := 912) (by decide +kernel)) rfl
theorem gw_913 : Cond.static yL_cite ∈ ql_W := ql_in (List.mem_of_getElem? (i := 913) (by decide +kernel)) rfl
theorem gw_914 : Cond.codeWith yL_cite cL_cite 5 (Option.some Jvm.ClassFile.FieldType.int) [((0 : Nat), (10 : Nat), (13 : Nat), (23 : Nat)), ((0 : Nat), (10 : Nat), (17 : Nat), (13 : Nat)), ((0 : Nat), (10 : Nat), (21 : Nat), (15 : Nat))] ∈ ql_W := ql_in (List.mem_of_getElem? (i := 914) (by decide +kernel)) rfl
theorem gw_915 : Cond.methodLink RL 37 yX11_cite ∈ ql_W := ql_in (List.mem_of_getElem? (i := 915) (by decide +kernel)) rfl
theorem gw_916 : Cond.instanceMethod yX11_cite ∈ ql_W := ql_in (List.mem_of_getElem? (i := 916) (by decide +kernel)) rfl
theorem gw_917 : Cond.selects RX11 yX11_cite yX11_cite ∈ ql_W := ql_in (List.mem_of_getElem? (i := 917) (by decide +kernel)) rfl
theorem gw_918 : Cond.code yX11_cite cX11_cite 3 (Option.some Jvm.ClassFile.FieldType.int) ∈ ql_W := ql_in (List.mem_of_getElem? (i := 918) (by decide +kernel)) rfl
theorem gw_919 : Cond.methodLink RX11 98 yX1_tryCite ∈ ql_W := ql_in (List.mem_of_getElem? (i := 919) (by decide +kernel)) rfl
theorem gw_920 : Cond.instanceMethod yX1_tryCite ∈ ql_W := ql_in (List.mem_of_getElem? (i := 920) (by decide +kernel)) rfl
theorem gw_921 : Cond.selects RX1 yX1_tryCite yX1_tryCite ∈ ql_W := ql_in (List.mem_of_getElem? (i := 921) (by decide +kernel)) rfl
theorem gw_922 : Cond.code yX1_tryCite cX1_tryCite 4 (Option.some Jvm.ClassFile.FieldType.int) ∈ ql_W := ql_in (List.mem_of_getElem? (i := 922) (by decide +kernel)) rfl
theorem gw_923 : Cond.methodLink RX1 131 yX3_citesId ∈ ql_W := ql_in (List.mem_of_getElem? (i := 923) (by decide +kernel)) rfl
theorem gw_924 : Cond.instanceMethod yX3_citesId ∈ ql_W := ql_in (List.mem_of_getElem? (i := 924) (by decide +kernel)) rfl
theorem gw_925 : Cond.selects RX3 yX3_citesId yX3_citesId ∈ ql_W := ql_in (List.mem_of_getElem? (i := 925) (by decide +kernel)) rfl
theorem gw_926 : Cond.code yX3_citesId cX3_citesId 2 (Option.some Jvm.ClassFile.FieldType.boolean) ∈ ql_W := ql_in (List.mem_of_getElem? (i := 926) (by decide +kernel)) rfl
theorem gw_927 : Cond.methodLink RX1 137 yX3_addCite ∈ ql_W := ql_in (List.mem_of_getElem? (i := 927) (by decide +kernel)) rfl
theorem gw_928 : Cond.instanceMethod yX3_addCite ∈ ql_W := ql_in (List.mem_of_getElem? (i := 928) (by decide +kernel)) rfl
theorem gw_929 : Cond.selects RX3 yX3_addCite yX3_addCite ∈ ql_W := ql_in (List.mem_of_getElem? (i := 929) (by decide +kernel)) rfl
theorem gw_930 : Cond.code yX3_addCite cX3_addCite 3 (Option.none : Option Jvm.ClassFile.FieldType) ∈ ql_W := ql_in (List.mem_of_getElem? (i := 930) (by decide +kernel)) rfl
theorem gw_931 : Cond.methodLink RL 185 yL_uncite ∈ ql_W := ql_in (List.mem_of_getElem? (i := 931) (by decide +kernel)) rfl
theorem gw_932 : Cond.static yL_uncite ∈ ql_W := ql_in (List.mem_of_getElem? (i := 932) (by decide +kernel)) rfl
theorem gw_933 : Cond.codeWith yL_uncite cL_uncite 5 (Option.some Jvm.ClassFile.FieldType.int) [((0 : Nat), (10 : Nat), (13 : Nat), (23 : Nat))] ∈ ql_W := ql_in (List.mem_of_getElem? (i := 933) (by decide +kernel)) rfl
theorem gw_934 : Cond.methodLink RL 40 yX11_uncite ∈ ql_W := ql_in (List.mem_of_getElem? (i := 934) (by decide +kernel)) rfl
theorem gw_935 : Cond.instanceMethod yX11_uncite ∈ ql_W := ql_in (List.mem_of_getElem? (i := 935) (by decide +kernel)) rfl
theorem gw_936 : Cond.selects RX11 yX11_uncite yX11_uncite ∈ ql_W := ql_in (List.mem_of_getElem? (i := 936) (by decide +kernel)) rfl
theorem gw_937 : Cond.code yX11_uncite cX11_uncite 3 (Option.some Jvm.ClassFile.FieldType.int) ∈ ql_W := ql_in (List.mem_of_getElem? (i := 937) (by decide +kernel)) rfl
theorem gw_938 : Cond.methodLink RX11 101 yX1_tryUncite ∈ ql_W := ql_in (List.mem_of_getElem? (i := 938) (by decide +kernel)) rfl
theorem gw_939 : Cond.instanceMethod yX1_tryUncite ∈ ql_W := ql_in (List.mem_of_getElem? (i := 939) (by decide +kernel)) rfl
theorem gw_940 : Cond.selects RX1 yX1_tryUncite yX1_tryUncite ∈ ql_W := ql_in (List.mem_of_getElem? (i := 940) (by decide +kernel)) rfl
theorem gw_941 : Cond.code yX1_tryUncite cX1_tryUncite 4 (Option.some Jvm.ClassFile.FieldType.int) ∈ ql_W := ql_in (List.mem_of_getElem? (i := 941) (by decide +kernel)) rfl
theorem gw_942 : Cond.methodLink RL 188 yL_repeal ∈ ql_W := ql_in (List.mem_of_getElem? (i := 942) (by decide +kernel)) rfl
theorem gw_943 : Cond.static yL_repeal ∈ ql_W := ql_in (List.mem_of_getElem? (i := 943) (by decide +kernel)) rfl
theorem gw_944 : Cond.codeWith yL_repeal cL_repeal 4 (Option.some Jvm.ClassFile.FieldType.int) [((0 : Nat), (9 : Nat), (12 : Nat), (23 : Nat))] ∈ ql_W := ql_in (List.mem_of_getElem? (i := 944) (by decide +kernel)) rfl
theorem gw_945 : Cond.methodLink RL 43 yX11_repeal ∈ ql_W := ql_in (List.mem_of_getElem? (i := 945) (by decide +kernel)) rfl
theorem gw_946 : Cond.instanceMethod yX11_repeal ∈ ql_W := ql_in (List.mem_of_getElem? (i := 946) (by decide +kernel)) rfl
theorem gw_947 : Cond.selects RX11 yX11_repeal yX11_repeal ∈ ql_W := ql_in (List.mem_of_getElem? (i := 947) (by decide +kernel)) rfl
theorem gw_948 : Cond.code yX11_repeal cX11_repeal 2 (Option.some Jvm.ClassFile.FieldType.int) ∈ ql_W := ql_in (List.mem_of_getElem? (i := 948) (by decide +kernel)) rfl
theorem gw_949 : Cond.methodLink RX11 104 yX1_tryRepeal ∈ ql_W := ql_in (List.mem_of_getElem? (i := 949) (by decide +kernel)) rfl
theorem gw_950 : Cond.instanceMethod yX1_tryRepeal ∈ ql_W := ql_in (List.mem_of_getElem? (i := 950) (by decide +kernel)) rfl
theorem gw_951 : Cond.selects RX1 yX1_tryRepeal yX1_tryRepeal ∈ ql_W := ql_in (List.mem_of_getElem? (i := 951) (by decide +kernel)) rfl
theorem gw_952 : Cond.code yX1_tryRepeal cX1_tryRepeal 3 (Option.some Jvm.ClassFile.FieldType.int) ∈ ql_W := ql_in (List.mem_of_getElem? (i := 952) (by decide +kernel)) rfl
theorem gw_953 : Cond.methodLink RX1 148 yX1_countClauses ∈ ql_W := ql_in (List.mem_of_getElem? (i := 953) (by decide +kernel)) rfl
theorem gw_954 : Cond.methodLink RL 196 yL_advance ∈ ql_W := ql_in (List.mem_of_getElem? (i := 954) (by decide +kernel)) rfl
theorem gw_955 : Cond.static yL_advance ∈ ql_W := ql_in (List.mem_of_getElem? (i := 955) (by decide +kernel)) rfl
theorem gw_956 : Cond.codeWith yL_advance cL_advance 4 (Option.some Jvm.ClassFile.FieldType.int) [((0 : Nat), (9 : Nat), (12 : Nat), (13 : Nat))] ∈ ql_W := ql_in (List.mem_of_getElem? (i := 956) (by decide +kernel)) rfl
theorem gw_957 : Cond.methodLink RL 47 yX11_advance ∈ ql_W := ql_in (List.mem_of_getElem? (i := 957) (by decide +kernel)) rfl
theorem gw_958 : Cond.instanceMethod yX11_advance ∈ ql_W := ql_in (List.mem_of_getElem? (i := 958) (by decide +kernel)) rfl
theorem gw_959 : Cond.selects RX11 yX11_advance yX11_advance ∈ ql_W := ql_in (List.mem_of_getElem? (i := 959) (by decide +kernel)) rfl
theorem gw_960 : Cond.code yX11_advance cX11_advance 2 (Option.some Jvm.ClassFile.FieldType.int) ∈ ql_W := ql_in (List.mem_of_getElem? (i := 960) (by decide +kernel)) rfl
theorem gw_961 : Cond.methodLink RX11 111 yX1_tryAdvance ∈ ql_W := ql_in (List.mem_of_getElem? (i := 961) (by decide +kernel)) rfl
theorem gw_962 : Cond.instanceMethod yX1_tryAdvance ∈ ql_W := ql_in (List.mem_of_getElem? (i := 962) (by decide +kernel)) rfl
theorem gw_963 : Cond.selects RX1 yX1_tryAdvance yX1_tryAdvance ∈ ql_W := ql_in (List.mem_of_getElem? (i := 963) (by decide +kernel)) rfl
theorem gw_964 : Cond.code yX1_tryAdvance cX1_tryAdvance 3 (Option.some Jvm.ClassFile.FieldType.int) ∈ ql_W := ql_in (List.mem_of_getElem? (i := 964) (by decide +kernel)) rfl
theorem gw_965 : Cond.methodLink RX1 151 yX1_countLapsed ∈ ql_W := ql_in (List.mem_of_getElem? (i := 965) (by decide +kernel)) rfl
theorem gw_967 : Cond.instanceMethod yX1_countLapsed ∈ ql_W := ql_in (List.mem_of_getElem? (i := 967) (by decide +kernel)) rfl
theorem gw_968 : Cond.code yX1_countLapsed cX1_countLapsed 6 (Option.some Jvm.ClassFile.FieldType.int) ∈ ql_W := ql_in (List.mem_of_getElem? (i := 968) (by decide +kernel)) rfl
theorem gw_969 : Cond.methodLink RL 207 yL_clauseAt ∈ ql_W := ql_in (List.mem_of_getElem? (i := 969) (by decide +kernel)) rfl
theorem gw_970 : Cond.static yL_clauseAt ∈ ql_W := ql_in (List.mem_of_getElem? (i := 970) (by decide +kernel)) rfl
theorem gw_971 : Cond.codeWith yL_clauseAt cL_clauseAt 4 (Option.some Jvm.ClassFile.FieldType.int) [((0 : Nat), (9 : Nat), (12 : Nat), (23 : Nat))] ∈ ql_W := ql_in (List.mem_of_getElem? (i := 971) (by decide +kernel)) rfl
theorem gw_972 : Cond.methodLink RL 50 yX11_clauseAt ∈ ql_W := ql_in (List.mem_of_getElem? (i := 972) (by decide +kernel)) rfl
theorem gw_973 : Cond.instanceMethod yX11_clauseAt ∈ ql_W := ql_in (List.mem_of_getElem? (i := 973) (by decide +kernel)) rfl
theorem gw_974 : Cond.selects RX11 yX11_clauseAt yX11_clauseAt ∈ ql_W := ql_in (List.mem_of_getElem? (i := 974) (by decide +kernel)) rfl
theorem gw_975 : Cond.code yX11_clauseAt cX11_clauseAt 2 (Option.some Jvm.ClassFile.FieldType.int) ∈ ql_W := ql_in (List.mem_of_getElem? (i := 975) (by decide +kernel)) rfl
theorem gw_976 : Cond.methodLink RX11 142 yX1_clauseAtRank ∈ ql_W := ql_in (List.mem_of_getElem? (i := 976) (by decide +kernel)) rfl
theorem gw_977 : Cond.methodLink RX11 146 yX11_existing ∈ ql_W := ql_in (List.mem_of_getElem? (i := 977) (by decide +kernel)) rfl
theorem gw_978 : Cond.static yX11_existing ∈ ql_W := ql_in (List.mem_of_getElem? (i := 978) (by decide +kernel)) rfl
theorem gw_979 : Cond.code yX11_existing cX11_existing 1 (Option.some (Jvm.ClassFile.FieldType.object "ClauseLedger$Clause")) ∈ ql_W := ql_in (List.mem_of_getElem? (i := 979) (by decide +kernel)) rfl
theorem gw_980 : Cond.methodLink RL 210 yL_clauseOfSection ∈ ql_W := ql_in (List.mem_of_getElem? (i := 980) (by decide +kernel)) rfl
theorem gw_981 : Cond.static yL_clauseOfSection ∈ ql_W := ql_in (List.mem_of_getElem? (i := 981) (by decide +kernel)) rfl
theorem gw_982 : Cond.codeWith yL_clauseOfSection cL_clauseOfSection 4 (Option.some Jvm.ClassFile.FieldType.int) [((0 : Nat), (9 : Nat), (12 : Nat), (23 : Nat))] ∈ ql_W := ql_in (List.mem_of_getElem? (i := 982) (by decide +kernel)) rfl
theorem gw_983 : Cond.methodLink RL 53 yX11_clauseOfSection ∈ ql_W := ql_in (List.mem_of_getElem? (i := 983) (by decide +kernel)) rfl
theorem gw_984 : Cond.instanceMethod yX11_clauseOfSection ∈ ql_W := ql_in (List.mem_of_getElem? (i := 984) (by decide +kernel)) rfl
theorem gw_985 : Cond.selects RX11 yX11_clauseOfSection yX11_clauseOfSection ∈ ql_W := ql_in (List.mem_of_getElem? (i := 985) (by decide +kernel)) rfl
theorem gw_986 : Cond.code yX11_clauseOfSection cX11_clauseOfSection 2 (Option.some Jvm.ClassFile.FieldType.int) ∈ ql_W := ql_in (List.mem_of_getElem? (i := 986) (by decide +kernel)) rfl
theorem gw_987 : Cond.methodLink RX11 155 yX1_clauseWithSection ∈ ql_W := ql_in (List.mem_of_getElem? (i := 987) (by decide +kernel)) rfl
theorem gw_988 : Cond.methodLink RL 213 yL_section ∈ ql_W := ql_in (List.mem_of_getElem? (i := 988) (by decide +kernel)) rfl
theorem gw_989 : Cond.static yL_section ∈ ql_W := ql_in (List.mem_of_getElem? (i := 989) (by decide +kernel)) rfl
theorem gw_990 : Cond.codeWith yL_section cL_section 4 (Option.some Jvm.ClassFile.FieldType.int) [((0 : Nat), (9 : Nat), (12 : Nat), (23 : Nat))] ∈ ql_W := ql_in (List.mem_of_getElem? (i := 990) (by decide +kernel)) rfl
theorem gw_991 : Cond.methodLink RL 56 yX11_section ∈ ql_W := ql_in (List.mem_of_getElem? (i := 991) (by decide +kernel)) rfl
theorem gw_992 : Cond.instanceMethod yX11_section ∈ ql_W := ql_in (List.mem_of_getElem? (i := 992) (by decide +kernel)) rfl
theorem gw_993 : Cond.selects RX11 yX11_section yX11_section ∈ ql_W := ql_in (List.mem_of_getElem? (i := 993) (by decide +kernel)) rfl
theorem gw_994 : Cond.code yX11_section cX11_section 2 (Option.some Jvm.ClassFile.FieldType.int) ∈ ql_W := ql_in (List.mem_of_getElem? (i := 994) (by decide +kernel)) rfl
theorem gw_995 : Cond.methodLink RX11 158 yX11_clauseOf ∈ ql_W := ql_in (List.mem_of_getElem? (i := 995) (by decide +kernel)) rfl
theorem gw_997 : Cond.instanceMethod yX11_clauseOf ∈ ql_W := ql_in (List.mem_of_getElem? (i := 997) (by decide +kernel)) rfl
theorem gw_998 : Cond.code yX11_clauseOf cX11_clauseOf 2 (Option.some (Jvm.ClassFile.FieldType.object "ClauseLedger$Clause")) ∈ ql_W := ql_in (List.mem_of_getElem? (i := 998) (by decide +kernel)) rfl
theorem gw_999 : Cond.methodLink RX11 183 yX1_clauseWithId ∈ ql_W := ql_in (List.mem_of_getElem? (i := 999) (by decide +kernel)) rfl
theorem gw_1000 : Cond.methodLink RL 216 yL_enactedOn ∈ ql_W := ql_in (List.mem_of_getElem? (i := 1000) (by decide +kernel)) rfl
theorem gw_1001 : Cond.static yL_enactedOn ∈ ql_W := ql_in (List.mem_of_getElem? (i := 1001) (by decide +kernel)) rfl
theorem gw_1002 : Cond.codeWith yL_enactedOn cL_enactedOn 4 (Option.some Jvm.ClassFile.FieldType.int) [((0 : Nat), (9 : Nat), (12 : Nat), (23 : Nat))] ∈ ql_W := ql_in (List.mem_of_getElem? (i := 1002) (by decide +kernel)) rfl
theorem gw_1003 : Cond.methodLink RL 59 yX11_enactedOn ∈ ql_W := ql_in (List.mem_of_getElem? (i := 1003) (by decide +kernel)) rfl
theorem gw_1004 : Cond.instanceMethod yX11_enactedOn ∈ ql_W := ql_in (List.mem_of_getElem? (i := 1004) (by decide +kernel)) rfl
theorem gw_1005 : Cond.selects RX11 yX11_enactedOn yX11_enactedOn ∈ ql_W := ql_in (List.mem_of_getElem? (i := 1005) (by decide +kernel)) rfl
theorem gw_1006 : Cond.code yX11_enactedOn cX11_enactedOn 2 (Option.some Jvm.ClassFile.FieldType.int) ∈ ql_W := ql_in (List.mem_of_getElem? (i := 1006) (by decide +kernel)) rfl
theorem gw_1007 : Cond.methodLink RL 219 yL_sunset ∈ ql_W := ql_in (List.mem_of_getElem? (i := 1007) (by decide +kernel)) rfl
theorem gw_1008 : Cond.static yL_sunset ∈ ql_W := ql_in (List.mem_of_getElem? (i := 1008) (by decide +kernel)) rfl
theorem gw_1009 : Cond.codeWith yL_sunset cL_sunset 4 (Option.some Jvm.ClassFile.FieldType.int) [((0 : Nat), (9 : Nat), (12 : Nat), (23 : Nat))] ∈ ql_W := ql_in (List.mem_of_getElem? (i := 1009) (by decide +kernel)) rfl
theorem gw_1010 : Cond.methodLink RL 62 yX11_sunset ∈ ql_W := ql_in (List.mem_of_getElem? (i := 1010) (by decide +kernel)) rfl
theorem gw_1011 : Cond.instanceMethod yX11_sunset ∈ ql_W := ql_in (List.mem_of_getElem? (i := 1011) (by decide +kernel)) rfl
theorem gw_1012 : Cond.selects RX11 yX11_sunset yX11_sunset ∈ ql_W := ql_in (List.mem_of_getElem? (i := 1012) (by decide +kernel)) rfl
theorem gw_1013 : Cond.code yX11_sunset cX11_sunset 2 (Option.some Jvm.ClassFile.FieldType.int) ∈ ql_W := ql_in (List.mem_of_getElem? (i := 1013) (by decide +kernel)) rfl
theorem gw_1014 : Cond.methodLink RX11 167 yX11_clauseWithSunset ∈ ql_W := ql_in (List.mem_of_getElem? (i := 1014) (by decide +kernel)) rfl
theorem gw_1016 : Cond.instanceMethod yX11_clauseWithSunset ∈ ql_W := ql_in (List.mem_of_getElem? (i := 1016) (by decide +kernel)) rfl
theorem gw_1017 : Cond.code yX11_clauseWithSunset cX11_clauseWithSunset 3 (Option.some (Jvm.ClassFile.FieldType.object "ClauseLedger$Clause")) ∈ ql_W := ql_in (List.mem_of_getElem? (i := 1017) (by decide +kernel)) rfl
theorem gw_1018 : Cond.methodLink RX11 186 yX3_hasSunset ∈ ql_W := ql_in (List.mem_of_getElem? (i := 1018) (by decide +kernel)) rfl
theorem gw_1019 : Cond.methodLink RL 222 yL_isInForce ∈ ql_W := ql_in (List.mem_of_getElem? (i := 1019) (by decide +kernel)) rfl
theorem gw_1020 : Cond.static yL_isInForce ∈ ql_W := ql_in (List.mem_of_getElem? (i := 1020) (by decide +kernel)) rfl
theorem gw_1021 : Cond.codeWith yL_isInForce cL_isInForce 5 (Option.some Jvm.ClassFile.FieldType.int) [((0 : Nat), (17 : Nat), (20 : Nat), (23 : Nat))] ∈ ql_W := ql_in (List.mem_of_getElem? (i := 1021) (by decide +kernel)) rfl
theorem gw_1022 : Cond.methodLink RL 65 yX11_isInForce ∈ ql_W := ql_in (List.mem_of_getElem? (i := 1022) (by decide +kernel)) rfl
theorem gw_1023 : Cond.instanceMethod yX11_isInForce ∈ ql_W := ql_in (List.mem_of_getElem? (i := 1023) (by decide +kernel)) rfl
theorem gw_1024 : Cond.selects RX11 yX11_isInForce yX11_isInForce ∈ ql_W := ql_in (List.mem_of_getElem? (i := 1024) (by decide +kernel)) rfl
theorem gw_1025 : Cond.code yX11_isInForce cX11_isInForce 3 (Option.some Jvm.ClassFile.FieldType.boolean) ∈ ql_W := ql_in (List.mem_of_getElem? (i := 1025) (by decide +kernel)) rfl
theorem gw_1026 : Cond.methodLink RX11 173 yX3_holdsOn ∈ ql_W := ql_in (List.mem_of_getElem? (i := 1026) (by decide +kernel)) rfl
theorem gw_1027 : Cond.methodLink RL 225 yL_hasLapsed ∈ ql_W := ql_in (List.mem_of_getElem? (i := 1027) (by decide +kernel)) rfl
theorem gw_1028 : Cond.static yL_hasLapsed ∈ ql_W := ql_in (List.mem_of_getElem? (i := 1028) (by decide +kernel)) rfl
theorem gw_1029 : Cond.codeWith yL_hasLapsed cL_hasLapsed 4 (Option.some Jvm.ClassFile.FieldType.int) [((0 : Nat), (16 : Nat), (19 : Nat), (23 : Nat))] ∈ ql_W := ql_in (List.mem_of_getElem? (i := 1029) (by decide +kernel)) rfl
theorem gw_1030 : Cond.methodLink RL 69 yX11_hasLapsed ∈ ql_W := ql_in (List.mem_of_getElem? (i := 1030) (by decide +kernel)) rfl
theorem gw_1031 : Cond.instanceMethod yX11_hasLapsed ∈ ql_W := ql_in (List.mem_of_getElem? (i := 1031) (by decide +kernel)) rfl
theorem gw_1032 : Cond.selects RX11 yX11_hasLapsed yX11_hasLapsed ∈ ql_W := ql_in (List.mem_of_getElem? (i := 1032) (by decide +kernel)) rfl
theorem gw_1033 : Cond.code yX11_hasLapsed cX11_hasLapsed 2 (Option.some Jvm.ClassFile.FieldType.boolean) ∈ ql_W := ql_in (List.mem_of_getElem? (i := 1033) (by decide +kernel)) rfl
theorem gw_1034 : Cond.methodLink RX11 177 yX3_lapsedBy ∈ ql_W := ql_in (List.mem_of_getElem? (i := 1034) (by decide +kernel)) rfl
theorem gw_1035 : Cond.methodLink RL 232 yL_daysUntilLapsed ∈ ql_W := ql_in (List.mem_of_getElem? (i := 1035) (by decide +kernel)) rfl
theorem gw_1036 : Cond.static yL_daysUntilLapsed ∈ ql_W := ql_in (List.mem_of_getElem? (i := 1036) (by decide +kernel)) rfl
theorem gw_1037 : Cond.codeWith yL_daysUntilLapsed cL_daysUntilLapsed 4 (Option.some Jvm.ClassFile.FieldType.int) [((0 : Nat), (9 : Nat), (12 : Nat), (23 : Nat))] ∈ ql_W := ql_in (List.mem_of_getElem? (i := 1037) (by decide +kernel)) rfl
theorem gw_1038 : Cond.methodLink RL 73 yX11_daysUntilLapsed ∈ ql_W := ql_in (List.mem_of_getElem? (i := 1038) (by decide +kernel)) rfl
theorem gw_1039 : Cond.instanceMethod yX11_daysUntilLapsed ∈ ql_W := ql_in (List.mem_of_getElem? (i := 1039) (by decide +kernel)) rfl
theorem gw_1040 : Cond.selects RX11 yX11_daysUntilLapsed yX11_daysUntilLapsed ∈ ql_W := ql_in (List.mem_of_getElem? (i := 1040) (by decide +kernel)) rfl
theorem gw_1041 : Cond.code yX11_daysUntilLapsed cX11_daysUntilLapsed 3 (Option.some Jvm.ClassFile.FieldType.int) ∈ ql_W := ql_in (List.mem_of_getElem? (i := 1041) (by decide +kernel)) rfl
theorem gw_1042 : Cond.methodLink RL 235 yL_length ∈ ql_W := ql_in (List.mem_of_getElem? (i := 1042) (by decide +kernel)) rfl
theorem gw_1043 : Cond.static yL_length ∈ ql_W := ql_in (List.mem_of_getElem? (i := 1043) (by decide +kernel)) rfl
theorem gw_1044 : Cond.codeWith yL_length cL_length 4 (Option.some Jvm.ClassFile.FieldType.int) [((0 : Nat), (9 : Nat), (12 : Nat), (23 : Nat))] ∈ ql_W := ql_in (List.mem_of_getElem? (i := 1044) (by decide +kernel)) rfl
theorem gw_1045 : Cond.methodLink RL 76 yX11_length ∈ ql_W := ql_in (List.mem_of_getElem? (i := 1045) (by decide +kernel)) rfl
theorem gw_1046 : Cond.instanceMethod yX11_length ∈ ql_W := ql_in (List.mem_of_getElem? (i := 1046) (by decide +kernel)) rfl
theorem gw_1047 : Cond.selects RX11 yX11_length yX11_length ∈ ql_W := ql_in (List.mem_of_getElem? (i := 1047) (by decide +kernel)) rfl
theorem gw_1048 : Cond.code yX11_length cX11_length 2 (Option.some Jvm.ClassFile.FieldType.int) ∈ ql_W := ql_in (List.mem_of_getElem? (i := 1048) (by decide +kernel)) rfl
theorem gw_1049 : Cond.methodLink RX11 194 yX9_lengthOf ∈ ql_W := ql_in (List.mem_of_getElem? (i := 1049) (by decide +kernel)) rfl
theorem gw_1050 : Cond.methodLink RL 238 yL_noteAt ∈ ql_W := ql_in (List.mem_of_getElem? (i := 1050) (by decide +kernel)) rfl
theorem gw_1051 : Cond.static yL_noteAt ∈ ql_W := ql_in (List.mem_of_getElem? (i := 1051) (by decide +kernel)) rfl
theorem gw_1052 : Cond.codeWith yL_noteAt cL_noteAt 5 (Option.some Jvm.ClassFile.FieldType.int) [((0 : Nat), (10 : Nat), (13 : Nat), (23 : Nat)), ((0 : Nat), (10 : Nat), (17 : Nat), (25 : Nat))] ∈ ql_W := ql_in (List.mem_of_getElem? (i := 1052) (by decide +kernel)) rfl
theorem gw_1053 : Cond.methodLink RL 79 yX11_noteAt ∈ ql_W := ql_in (List.mem_of_getElem? (i := 1053) (by decide +kernel)) rfl
theorem gw_1054 : Cond.instanceMethod yX11_noteAt ∈ ql_W := ql_in (List.mem_of_getElem? (i := 1054) (by decide +kernel)) rfl
theorem gw_1055 : Cond.selects RX11 yX11_noteAt yX11_noteAt ∈ ql_W := ql_in (List.mem_of_getElem? (i := 1055) (by decide +kernel)) rfl
theorem gw_1056 : Cond.code yX11_noteAt cX11_noteAt 3 (Option.some Jvm.ClassFile.FieldType.char) ∈ ql_W := ql_in (List.mem_of_getElem? (i := 1056) (by decide +kernel)) rfl
theorem gw_1057 : Cond.methodLink RX11 200 yX11_noteOfText ∈ ql_W := ql_in (List.mem_of_getElem? (i := 1057) (by decide +kernel)) rfl
theorem gw_1058 : Cond.static yX11_noteOfText ∈ ql_W := ql_in (List.mem_of_getElem? (i := 1058) (by decide +kernel)) rfl
theorem gw_1059 : Cond.code yX11_noteOfText cX11_noteOfText 3 (Option.some Jvm.ClassFile.FieldType.char) ∈ ql_W := ql_in (List.mem_of_getElem? (i := 1059) (by decide +kernel)) rfl
theorem gw_1060 : Cond.methodLink RX11 235 yX9_noteOf ∈ ql_W := ql_in (List.mem_of_getElem? (i := 1060) (by decide +kernel)) rfl
theorem gw_1061 : Cond.methodLink RL 241 yL_versionCount ∈ ql_W := ql_in (List.mem_of_getElem? (i := 1061) (by decide +kernel)) rfl
theorem gw_1062 : Cond.static yL_versionCount ∈ ql_W := ql_in (List.mem_of_getElem? (i := 1062) (by decide +kernel)) rfl
theorem gw_1063 : Cond.codeWith yL_versionCount cL_versionCount 4 (Option.some Jvm.ClassFile.FieldType.int) [((0 : Nat), (9 : Nat), (12 : Nat), (23 : Nat))] ∈ ql_W := ql_in (List.mem_of_getElem? (i := 1063) (by decide +kernel)) rfl
theorem gw_1064 : Cond.methodLink RL 83 yX11_versionCount ∈ ql_W := ql_in (List.mem_of_getElem? (i := 1064) (by decide +kernel)) rfl
theorem gw_1065 : Cond.instanceMethod yX11_versionCount ∈ ql_W := ql_in (List.mem_of_getElem? (i := 1065) (by decide +kernel)) rfl
theorem gw_1066 : Cond.selects RX11 yX11_versionCount yX11_versionCount ∈ ql_W := ql_in (List.mem_of_getElem? (i := 1066) (by decide +kernel)) rfl
theorem gw_1067 : Cond.code yX11_versionCount cX11_versionCount 2 (Option.some Jvm.ClassFile.FieldType.int) ∈ ql_W := ql_in (List.mem_of_getElem? (i := 1067) (by decide +kernel)) rfl
theorem gw_1068 : Cond.methodLink RX11 204 yX3_countVersions ∈ ql_W := ql_in (List.mem_of_getElem? (i := 1068) (by decide +kernel)) rfl
theorem gw_1069 : Cond.methodLink RL 244 yL_lengthOn ∈ ql_W := ql_in (List.mem_of_getElem? (i := 1069) (by decide +kernel)) rfl
theorem gw_1070 : Cond.static yL_lengthOn ∈ ql_W := ql_in (List.mem_of_getElem? (i := 1070) (by decide +kernel)) rfl
theorem gw_1071 : Cond.codeWith yL_lengthOn cL_lengthOn 5 (Option.some Jvm.ClassFile.FieldType.int) [((0 : Nat), (10 : Nat), (13 : Nat), (23 : Nat))] ∈ ql_W := ql_in (List.mem_of_getElem? (i := 1071) (by decide +kernel)) rfl
theorem gw_1072 : Cond.methodLink RL 86 yX11_lengthOn ∈ ql_W := ql_in (List.mem_of_getElem? (i := 1072) (by decide +kernel)) rfl
theorem gw_1073 : Cond.instanceMethod yX11_lengthOn ∈ ql_W := ql_in (List.mem_of_getElem? (i := 1073) (by decide +kernel)) rfl
theorem gw_1074 : Cond.selects RX11 yX11_lengthOn yX11_lengthOn ∈ ql_W := ql_in (List.mem_of_getElem? (i := 1074) (by decide +kernel)) rfl
theorem gw_1075 : Cond.code yX11_lengthOn cX11_lengthOn 3 (Option.some Jvm.ClassFile.FieldType.int) ∈ ql_W := ql_in (List.mem_of_getElem? (i := 1075) (by decide +kernel)) rfl
theorem gw_1076 : Cond.methodLink RX11 207 yX11_textOn ∈ ql_W := ql_in (List.mem_of_getElem? (i := 1076) (by decide +kernel)) rfl
theorem gw_1077 : Cond.static yX11_textOn ∈ ql_W := ql_in (List.mem_of_getElem? (i := 1077) (by decide +kernel)) rfl
theorem gw_1078 : Cond.code yX11_textOn cX11_textOn 4 (Option.some Jvm.ClassFile.FieldType.long) ∈ ql_W := ql_in (List.mem_of_getElem? (i := 1078) (by decide +kernel)) rfl
theorem gw_1079 : Cond.methodLink RL 247 yL_noteOn ∈ ql_W := ql_in (List.mem_of_getElem? (i := 1079) (by decide +kernel)) rfl
theorem gw_1080 : Cond.static yL_noteOn ∈ ql_W := ql_in (List.mem_of_getElem? (i := 1080) (by decide +kernel)) rfl
theorem gw_1081 : Cond.codeWith yL_noteOn cL_noteOn 6 (Option.some Jvm.ClassFile.FieldType.int) [((0 : Nat), (12 : Nat), (15 : Nat), (23 : Nat)), ((0 : Nat), (12 : Nat), (19 : Nat), (25 : Nat))] ∈ ql_W := ql_in (List.mem_of_getElem? (i := 1081) (by decide +kernel)) rfl
theorem gw_1082 : Cond.methodLink RL 89 yX11_noteOn ∈ ql_W := ql_in (List.mem_of_getElem? (i := 1082) (by decide +kernel)) rfl
theorem gw_1083 : Cond.instanceMethod yX11_noteOn ∈ ql_W := ql_in (List.mem_of_getElem? (i := 1083) (by decide +kernel)) rfl
theorem gw_1084 : Cond.selects RX11 yX11_noteOn yX11_noteOn ∈ ql_W := ql_in (List.mem_of_getElem? (i := 1084) (by decide +kernel)) rfl
theorem gw_1085 : Cond.code yX11_noteOn cX11_noteOn 4 (Option.some Jvm.ClassFile.FieldType.char) ∈ ql_W := ql_in (List.mem_of_getElem? (i := 1085) (by decide +kernel)) rfl
theorem gw_1086 : Cond.methodLink RL 251 yL_difference ∈ ql_W := ql_in (List.mem_of_getElem? (i := 1086) (by decide +kernel)) rfl
theorem gw_1087 : Cond.static yL_difference ∈ ql_W := ql_in (List.mem_of_getElem? (i := 1087) (by decide +kernel)) rfl
theorem gw_1088 : Cond.codeWith yL_difference cL_difference 6 (Option.some Jvm.ClassFile.FieldType.int) [((0 : Nat), (12 : Nat), (15 : Nat), (23 : Nat))] ∈ ql_W := ql_in (List.mem_of_getElem? (i := 1088) (by decide +kernel)) rfl
theorem gw_1089 : Cond.methodLink RL 93 yX11_difference ∈ ql_W := ql_in (List.mem_of_getElem? (i := 1089) (by decide +kernel)) rfl
theorem gw_1090 : Cond.instanceMethod yX11_difference ∈ ql_W := ql_in (List.mem_of_getElem? (i := 1090) (by decide +kernel)) rfl
theorem gw_1091 : Cond.selects RX11 yX11_difference yX11_difference ∈ ql_W := ql_in (List.mem_of_getElem? (i := 1091) (by decide +kernel)) rfl
theorem gw_1092 : Cond.code yX11_difference cX11_difference 5 (Option.some Jvm.ClassFile.FieldType.int) ∈ ql_W := ql_in (List.mem_of_getElem? (i := 1092) (by decide +kernel)) rfl
theorem gw_1093 : Cond.methodLink RL 254 yL_differenceByEnds ∈ ql_W := ql_in (List.mem_of_getElem? (i := 1093) (by decide +kernel)) rfl
theorem gw_1094 : Cond.static yL_differenceByEnds ∈ ql_W := ql_in (List.mem_of_getElem? (i := 1094) (by decide +kernel)) rfl
theorem gw_1095 : Cond.codeWith yL_differenceByEnds cL_differenceByEnds 6 (Option.some Jvm.ClassFile.FieldType.int) [((0 : Nat), (12 : Nat), (15 : Nat), (23 : Nat))] ∈ ql_W := ql_in (List.mem_of_getElem? (i := 1095) (by decide +kernel)) rfl
theorem gw_1096 : Cond.methodLink RL 97 yX11_differenceByEnds ∈ ql_W := ql_in (List.mem_of_getElem? (i := 1096) (by decide +kernel)) rfl
theorem gw_1097 : Cond.instanceMethod yX11_differenceByEnds ∈ ql_W := ql_in (List.mem_of_getElem? (i := 1097) (by decide +kernel)) rfl
theorem gw_1098 : Cond.selects RX11 yX11_differenceByEnds yX11_differenceByEnds ∈ ql_W := ql_in (List.mem_of_getElem? (i := 1098) (by decide +kernel)) rfl
theorem gw_1099 : Cond.code yX11_differenceByEnds cX11_differenceByEnds 5 (Option.some Jvm.ClassFile.FieldType.int) ∈ ql_W := ql_in (List.mem_of_getElem? (i := 1099) (by decide +kernel)) rfl
theorem gw_1100 : Cond.methodLink RL 265 yL_citeCount ∈ ql_W := ql_in (List.mem_of_getElem? (i := 1100) (by decide +kernel)) rfl
theorem gw_1101 : Cond.static yL_citeCount ∈ ql_W := ql_in (List.mem_of_getElem? (i := 1101) (by decide +kernel)) rfl
theorem gw_1102 : Cond.codeWith yL_citeCount cL_citeCount 4 (Option.some Jvm.ClassFile.FieldType.int) [((0 : Nat), (9 : Nat), (12 : Nat), (23 : Nat))] ∈ ql_W := ql_in (List.mem_of_getElem? (i := 1102) (by decide +kernel)) rfl
theorem gw_1103 : Cond.methodLink RL 100 yX11_citeCount ∈ ql_W := ql_in (List.mem_of_getElem? (i := 1103) (by decide +kernel)) rfl
theorem gw_1104 : Cond.instanceMethod yX11_citeCount ∈ ql_W := ql_in (List.mem_of_getElem? (i := 1104) (by decide +kernel)) rfl
theorem gw_1105 : Cond.selects RX11 yX11_citeCount yX11_citeCount ∈ ql_W := ql_in (List.mem_of_getElem? (i := 1105) (by decide +kernel)) rfl
theorem gw_1106 : Cond.code yX11_citeCount cX11_citeCount 2 (Option.some Jvm.ClassFile.FieldType.int) ∈ ql_W := ql_in (List.mem_of_getElem? (i := 1106) (by decide +kernel)) rfl
theorem gw_1107 : Cond.methodLink RX11 238 yX3_countCites ∈ ql_W := ql_in (List.mem_of_getElem? (i := 1107) (by decide +kernel)) rfl
theorem gw_1108 : Cond.methodLink RL 268 yL_citeAt ∈ ql_W := ql_in (List.mem_of_getElem? (i := 1108) (by decide +kernel)) rfl
theorem gw_1109 : Cond.static yL_citeAt ∈ ql_W := ql_in (List.mem_of_getElem? (i := 1109) (by decide +kernel)) rfl
theorem gw_1110 : Cond.codeWith yL_citeAt cL_citeAt 5 (Option.some Jvm.ClassFile.FieldType.int) [((0 : Nat), (10 : Nat), (13 : Nat), (23 : Nat)), ((0 : Nat), (10 : Nat), (17 : Nat), (25 : Nat))] ∈ ql_W := ql_in (List.mem_of_getElem? (i := 1110) (by decide +kernel)) rfl
theorem gw_1111 : Cond.methodLink RL 103 yX11_citeAt ∈ ql_W := ql_in (List.mem_of_getElem? (i := 1111) (by decide +kernel)) rfl
theorem gw_1112 : Cond.instanceMethod yX11_citeAt ∈ ql_W := ql_in (List.mem_of_getElem? (i := 1112) (by decide +kernel)) rfl
theorem gw_1113 : Cond.selects RX11 yX11_citeAt yX11_citeAt ∈ ql_W := ql_in (List.mem_of_getElem? (i := 1113) (by decide +kernel)) rfl
theorem gw_1114 : Cond.code yX11_citeAt cX11_citeAt 4 (Option.some Jvm.ClassFile.FieldType.int) ∈ ql_W := ql_in (List.mem_of_getElem? (i := 1114) (by decide +kernel)) rfl
theorem gw_1115 : Cond.methodLink RX11 241 yX3_citeAtPlace ∈ ql_W := ql_in (List.mem_of_getElem? (i := 1115) (by decide +kernel)) rfl
theorem gw_1116 : Cond.methodLink RL 275 yL_citesIndirectly ∈ ql_W := ql_in (List.mem_of_getElem? (i := 1116) (by decide +kernel)) rfl
theorem gw_1117 : Cond.static yL_citesIndirectly ∈ ql_W := ql_in (List.mem_of_getElem? (i := 1117) (by decide +kernel)) rfl
theorem gw_1118 : Cond.codeWith yL_citesIndirectly cL_citesIndirectly 5 (Option.some Jvm.ClassFile.FieldType.int) [((0 : Nat), (17 : Nat), (20 : Nat), (23 : Nat))] ∈ ql_W := ql_in (List.mem_of_getElem? (i := 1118) (by decide +kernel)) rfl
theorem gw_1119 : Cond.methodLink RL 106 yX11_citesIndirectly ∈ ql_W := ql_in (List.mem_of_getElem? (i := 1119) (by decide +kernel)) rfl
theorem gw_1120 : Cond.instanceMethod yX11_citesIndirectly ∈ ql_W := ql_in (List.mem_of_getElem? (i := 1120) (by decide +kernel)) rfl
theorem gw_1121 : Cond.selects RX11 yX11_citesIndirectly yX11_citesIndirectly ∈ ql_W := ql_in (List.mem_of_getElem? (i := 1121) (by decide +kernel)) rfl
theorem gw_1122 : Cond.code yX11_citesIndirectly cX11_citesIndirectly 5 (Option.some Jvm.ClassFile.FieldType.boolean) ∈ ql_W := ql_in (List.mem_of_getElem? (i := 1122) (by decide +kernel)) rfl
theorem gw_1123 : Cond.methodLink RX11 247 yX11_slotOf ∈ ql_W := ql_in (List.mem_of_getElem? (i := 1123) (by decide +kernel)) rfl
theorem gw_1125 : Cond.instanceMethod yX11_slotOf ∈ ql_W := ql_in (List.mem_of_getElem? (i := 1125) (by decide +kernel)) rfl
theorem gw_1126 : Cond.code yX11_slotOf cX11_slotOf 3 (Option.some Jvm.ClassFile.FieldType.int) ∈ ql_W := ql_in (List.mem_of_getElem? (i := 1126) (by decide +kernel)) rfl
theorem gw_1127 : Cond.methodLink RX11 273 yX1_slotWithId ∈ ql_W := ql_in (List.mem_of_getElem? (i := 1127) (by decide +kernel)) rfl
theorem gw_1128 : Cond.methodLink RX11 256 yX2_hasSlot ∈ ql_W := ql_in (List.mem_of_getElem? (i := 1128) (by decide +kernel)) rfl
theorem gw_1129 : Cond.methodLink RL 278 yL_citesByClosure ∈ ql_W := ql_in (List.mem_of_getElem? (i := 1129) (by decide +kernel)) rfl
theorem gw_1130 : Cond.static yL_citesByClosure ∈ ql_W := ql_in (List.mem_of_getElem? (i := 1130) (by decide +kernel)) rfl
theorem gw_1131 : Cond.codeWith yL_citesByClosure cL_citesByClosure 5 (Option.some Jvm.ClassFile.FieldType.int) [((0 : Nat), (17 : Nat), (20 : Nat), (23 : Nat))] ∈ ql_W := ql_in (List.mem_of_getElem? (i := 1131) (by decide +kernel)) rfl
theorem gw_1132 : Cond.methodLink RL 109 yX11_citesByClosure ∈ ql_W := ql_in (List.mem_of_getElem? (i := 1132) (by decide +kernel)) rfl
theorem gw_1133 : Cond.instanceMethod yX11_citesByClosure ∈ ql_W := ql_in (List.mem_of_getElem? (i := 1133) (by decide +kernel)) rfl
theorem gw_1134 : Cond.selects RX11 yX11_citesByClosure yX11_citesByClosure ∈ ql_W := ql_in (List.mem_of_getElem? (i := 1134) (by decide +kernel)) rfl
theorem gw_1135 : Cond.code yX11_citesByClosure cX11_citesByClosure 5 (Option.some Jvm.ClassFile.FieldType.boolean) ∈ ql_W := ql_in (List.mem_of_getElem? (i := 1135) (by decide +kernel)) rfl
theorem gw_1136 : Cond.methodLink RL 281 yL_clauseByCites ∈ ql_W := ql_in (List.mem_of_getElem? (i := 1136) (by decide +kernel)) rfl
theorem gw_1137 : Cond.static yL_clauseByCites ∈ ql_W := ql_in (List.mem_of_getElem? (i := 1137) (by decide +kernel)) rfl
theorem gw_1138 : Cond.codeWith yL_clauseByCites cL_clauseByCites 4 (Option.some Jvm.ClassFile.FieldType.int) [((0 : Nat), (9 : Nat), (12 : Nat), (23 : Nat))] ∈ ql_W := ql_in (List.mem_of_getElem? (i := 1138) (by decide +kernel)) rfl
theorem gw_1139 : Cond.methodLink RL 112 yX11_clauseByCites ∈ ql_W := ql_in (List.mem_of_getElem? (i := 1139) (by decide +kernel)) rfl
theorem gw_1140 : Cond.instanceMethod yX11_clauseByCites ∈ ql_W := ql_in (List.mem_of_getElem? (i := 1140) (by decide +kernel)) rfl
theorem gw_1141 : Cond.selects RX11 yX11_clauseByCites yX11_clauseByCites ∈ ql_W := ql_in (List.mem_of_getElem? (i := 1141) (by decide +kernel)) rfl
theorem gw_1142 : Cond.code yX11_clauseByCites cX11_clauseByCites 4 (Option.some Jvm.ClassFile.FieldType.int) ∈ ql_W := ql_in (List.mem_of_getElem? (i := 1142) (by decide +kernel)) rfl
theorem gw_1143 : Cond.methodLink RX11 266 yX2_countCiters ∈ ql_W := ql_in (List.mem_of_getElem? (i := 1143) (by decide +kernel)) rfl
theorem gw_1144 : Cond.instanceMethod yX2_countCiters ∈ ql_W := ql_in (List.mem_of_getElem? (i := 1144) (by decide +kernel)) rfl
theorem gw_1145 : Cond.selects RX2 yX2_countCiters yX2_countCiters ∈ ql_W := ql_in (List.mem_of_getElem? (i := 1145) (by decide +kernel)) rfl
theorem gw_1146 : Cond.code yX2_countCiters cX2_countCiters 7 (Option.some Jvm.ClassFile.FieldType.int) ∈ ql_W := ql_in (List.mem_of_getElem? (i := 1146) (by decide +kernel)) rfl
theorem gw_1147 : Cond.methodLink RX11 269 yX11_countRankedBefore ∈ ql_W := ql_in (List.mem_of_getElem? (i := 1147) (by decide +kernel)) rfl
theorem gw_1149 : Cond.instanceMethod yX11_countRankedBefore ∈ ql_W := ql_in (List.mem_of_getElem? (i := 1149) (by decide +kernel)) rfl
theorem gw_1150 : Cond.code yX11_countRankedBefore cX11_countRankedBefore 7 (Option.some Jvm.ClassFile.FieldType.int) ∈ ql_W := ql_in (List.mem_of_getElem? (i := 1150) (by decide +kernel)) rfl
theorem gw_1151 : Cond.methodLink RL 304 yL_editionDay ∈ ql_W := ql_in (List.mem_of_getElem? (i := 1151) (by decide +kernel)) rfl
theorem gw_1152 : Cond.static yL_editionDay ∈ ql_W := ql_in (List.mem_of_getElem? (i := 1152) (by decide +kernel)) rfl
theorem gw_1153 : Cond.codeWith yL_editionDay cL_editionDay 4 (Option.some Jvm.ClassFile.FieldType.int) [((0 : Nat), (9 : Nat), (12 : Nat), (23 : Nat))] ∈ ql_W := ql_in (List.mem_of_getElem? (i := 1153) (by decide +kernel)) rfl
theorem gw_1154 : Cond.methodLink RL 115 yX11_editionDay ∈ ql_W := ql_in (List.mem_of_getElem? (i := 1154) (by decide +kernel)) rfl
theorem gw_1155 : Cond.instanceMethod yX11_editionDay ∈ ql_W := ql_in (List.mem_of_getElem? (i := 1155) (by decide +kernel)) rfl
theorem gw_1156 : Cond.selects RX11 yX11_editionDay yX11_editionDay ∈ ql_W := ql_in (List.mem_of_getElem? (i := 1156) (by decide +kernel)) rfl
theorem gw_1157 : Cond.code yX11_editionDay cX11_editionDay 2 (Option.some Jvm.ClassFile.FieldType.int) ∈ ql_W := ql_in (List.mem_of_getElem? (i := 1157) (by decide +kernel)) rfl
theorem gw_1158 : Cond.methodLink RX11 291 yX1_dayOfEdition ∈ ql_W := ql_in (List.mem_of_getElem? (i := 1158) (by decide +kernel)) rfl
theorem gw_1159 : Cond.instanceMethod yX1_dayOfEdition ∈ ql_W := ql_in (List.mem_of_getElem? (i := 1159) (by decide +kernel)) rfl
theorem gw_1160 : Cond.selects RX1 yX1_dayOfEdition yX1_dayOfEdition ∈ ql_W := ql_in (List.mem_of_getElem? (i := 1160) (by decide +kernel)) rfl
theorem gw_1161 : Cond.code yX1_dayOfEdition cX1_dayOfEdition 2 (Option.some Jvm.ClassFile.FieldType.int) ∈ ql_W := ql_in (List.mem_of_getElem? (i := 1161) (by decide +kernel)) rfl
theorem gw_1162 : Cond.methodLink RL 307 yL_meanLength ∈ ql_W := ql_in (List.mem_of_getElem? (i := 1162) (by decide +kernel)) rfl
theorem gw_1163 : Cond.static yL_meanLength ∈ ql_W := ql_in (List.mem_of_getElem? (i := 1163) (by decide +kernel)) rfl
theorem gw_1164 : Cond.codeWith yL_meanLength cL_meanLength 3 (Option.some Jvm.ClassFile.FieldType.int) [((0 : Nat), (7 : Nat), (10 : Nat), (122 : Nat))] ∈ ql_W := ql_in (List.mem_of_getElem? (i := 1164) (by decide +kernel)) rfl
theorem gw_1165 : Cond.classLink RL 122 "java/lang/ArithmeticException" ∈ ql_W := ql_in (List.mem_of_getElem? (i := 1165) (by decide +kernel)) rfl
theorem gw_1166 : Cond.instantiable "java/lang/ArithmeticException" 6 ∈ ql_W := ql_in (List.mem_of_getElem? (i := 1166) (by decide +kernel)) rfl
theorem gw_1167 : Cond.instanceMethod ⟨"java/lang/ArithmeticException", "<init>", "(Ljava/lang/String;)V"⟩ ∈ ql_W := ql_in (List.mem_of_getElem? (i := 1167) (by decide +kernel)) rfl
theorem gw_1168 : Cond.code ⟨"java/lang/ArithmeticException", "<init>", "(Ljava/lang/String;)V"⟩ prog_18_method_2_code 2 (Option.none : Option Jvm.ClassFile.FieldType) ∈ ql_W := ql_in (List.mem_of_getElem? (i := 1168) (by decide +kernel)) rfl
theorem gw_1169 : Cond.methodLink "java/lang/ArithmeticException" 7 ⟨"java/lang/RuntimeException", "<init>", "(Ljava/lang/String;)V"⟩ ∈ ql_W := ql_in (List.mem_of_getElem? (i := 1169) (by decide +kernel)) rfl
theorem gw_1170 : Cond.lays "java/lang/ArithmeticException" "java/lang/Throwable" "backtrace" "Ljava/lang/Object;" ∈ ql_W := ql_in (List.mem_of_getElem? (i := 1170) (by decide +kernel)) rfl
theorem gw_1171 : Cond.lays "java/lang/ArithmeticException" "java/lang/Throwable" "detailMessage" "Ljava/lang/String;" ∈ ql_W := ql_in (List.mem_of_getElem? (i := 1171) (by decide +kernel)) rfl
theorem gw_1172 : Cond.lays "java/lang/ArithmeticException" "java/lang/Throwable" "cause" "Ljava/lang/Throwable;" ∈ ql_W := ql_in (List.mem_of_getElem? (i := 1172) (by decide +kernel)) rfl
theorem gw_1173 : Cond.lays "java/lang/ArithmeticException" "java/lang/Throwable" "stackTrace" "[Ljava/lang/StackTraceElement;" ∈ ql_W := ql_in (List.mem_of_getElem? (i := 1173) (by decide +kernel)) rfl
theorem gw_1174 : Cond.lays "java/lang/ArithmeticException" "java/lang/Throwable" "depth" "I" ∈ ql_W := ql_in (List.mem_of_getElem? (i := 1174) (by decide +kernel)) rfl
theorem gw_1175 : Cond.lays "java/lang/ArithmeticException" "java/lang/Throwable" "suppressedExceptions" "Ljava/util/List;" ∈ ql_W := ql_in (List.mem_of_getElem? (i := 1175) (by decide +kernel)) rfl
theorem gw_1176 : Cond.superclass "java/lang/ArithmeticException" "java/lang/RuntimeException" ∈ ql_W := ql_in (List.mem_of_getElem? (i := 1176) (by decide +kernel)) rfl
theorem gw_1178 : Cond.selects "java/lang/ArithmeticException" ⟨"java/lang/Throwable", "fillInStackTrace", "(I)Ljava/lang/Throwable;"⟩ ⟨"java/lang/Throwable", "fillInStackTrace", "(I)Ljava/lang/Throwable;"⟩ ∈ ql_W := ql_in (List.mem_of_getElem? (i := 1178) (by decide +kernel)) rfl
theorem gw_1179 : Cond.methodLink RL 118 yX11_meanLength ∈ ql_W := ql_in (List.mem_of_getElem? (i := 1179) (by decide +kernel)) rfl
theorem gw_1180 : Cond.instanceMethod yX11_meanLength ∈ ql_W := ql_in (List.mem_of_getElem? (i := 1180) (by decide +kernel)) rfl
theorem gw_1181 : Cond.selects RX11 yX11_meanLength yX11_meanLength ∈ ql_W := ql_in (List.mem_of_getElem? (i := 1181) (by decide +kernel)) rfl
theorem gw_1182 : Cond.code yX11_meanLength cX11_meanLength 2 (Option.some Jvm.ClassFile.FieldType.double) ∈ ql_W := ql_in (List.mem_of_getElem? (i := 1182) (by decide +kernel)) rfl
theorem gw_1183 : Cond.classLink RX11 294 "java/lang/ArithmeticException" ∈ ql_W := ql_in (List.mem_of_getElem? (i := 1183) (by decide +kernel)) rfl
theorem gw_1184 : Cond.methodLink RX11 296 ⟨"java/lang/ArithmeticException", "<init>", "()V"⟩ ∈ ql_W := ql_in (List.mem_of_getElem? (i := 1184) (by decide +kernel)) rfl
theorem gw_1185 : Cond.instanceMethod ⟨"java/lang/ArithmeticException", "<init>", "()V"⟩ ∈ ql_W := ql_in (List.mem_of_getElem? (i := 1185) (by decide +kernel)) rfl
theorem gw_1186 : Cond.code ⟨"java/lang/ArithmeticException", "<init>", "()V"⟩ prog_18_method_1_code 1 (Option.none : Option Jvm.ClassFile.FieldType) ∈ ql_W := ql_in (List.mem_of_getElem? (i := 1186) (by decide +kernel)) rfl
theorem gw_1187 : Cond.methodLink "java/lang/ArithmeticException" 1 ⟨"java/lang/RuntimeException", "<init>", "()V"⟩ ∈ ql_W := ql_in (List.mem_of_getElem? (i := 1187) (by decide +kernel)) rfl
theorem gw_1188 : Cond.methodLink RX11 297 yX1_countNotes ∈ ql_W := ql_in (List.mem_of_getElem? (i := 1188) (by decide +kernel)) rfl
theorem gw_1189 : Cond.instanceMethod yX1_countNotes ∈ ql_W := ql_in (List.mem_of_getElem? (i := 1189) (by decide +kernel)) rfl
theorem gw_1190 : Cond.selects RX1 yX1_countNotes yX1_countNotes ∈ ql_W := ql_in (List.mem_of_getElem? (i := 1190) (by decide +kernel)) rfl
theorem gw_1191 : Cond.code yX1_countNotes cX1_countNotes 6 (Option.some Jvm.ClassFile.FieldType.int) ∈ ql_W := ql_in (List.mem_of_getElem? (i := 1191) (by decide +kernel)) rfl
theorem gw_1192 : Cond.methodLink RL 311 yL_inForceShare ∈ ql_W := ql_in (List.mem_of_getElem? (i := 1192) (by decide +kernel)) rfl
theorem gw_1193 : Cond.static yL_inForceShare ∈ ql_W := ql_in (List.mem_of_getElem? (i := 1193) (by decide +kernel)) rfl
theorem gw_1194 : Cond.codeWith yL_inForceShare cL_inForceShare 3 (Option.some Jvm.ClassFile.FieldType.int) [((0 : Nat), (8 : Nat), (11 : Nat), (122 : Nat))] ∈ ql_W := ql_in (List.mem_of_getElem? (i := 1194) (by decide +kernel)) rfl
theorem gw_1195 : Cond.methodLink RL 124 yX11_inForceShare ∈ ql_W := ql_in (List.mem_of_getElem? (i := 1195) (by decide +kernel)) rfl
theorem gw_1196 : Cond.instanceMethod yX11_inForceShare ∈ ql_W := ql_in (List.mem_of_getElem? (i := 1196) (by decide +kernel)) rfl
theorem gw_1197 : Cond.selects RX11 yX11_inForceShare yX11_inForceShare ∈ ql_W := ql_in (List.mem_of_getElem? (i := 1197) (by decide +kernel)) rfl
theorem gw_1198 : Cond.code yX11_inForceShare cX11_inForceShare 2 (Option.some Jvm.ClassFile.FieldType.float) ∈ ql_W := ql_in (List.mem_of_getElem? (i := 1198) (by decide +kernel)) rfl
theorem gw_1199 : Cond.methodLink RL 319 yL_renderClause ∈ ql_W := ql_in (List.mem_of_getElem? (i := 1199) (by decide +kernel)) rfl
theorem gw_1200 : Cond.static yL_renderClause ∈ ql_W := ql_in (List.mem_of_getElem? (i := 1200) (by decide +kernel)) rfl
theorem gw_1201 : Cond.codeWith yL_renderClause cL_renderClause 4 (Option.some Jvm.ClassFile.FieldType.int) [((0 : Nat), (9 : Nat), (12 : Nat), (23 : Nat))] ∈ ql_W := ql_in (List.mem_of_getElem? (i := 1201) (by decide +kernel)) rfl
theorem gw_1202 : Cond.methodLink RL 128 yX11_renderClause ∈ ql_W := ql_in (List.mem_of_getElem? (i := 1202) (by decide +kernel)) rfl
theorem gw_1203 : Cond.instanceMethod yX11_renderClause ∈ ql_W := ql_in (List.mem_of_getElem? (i := 1203) (by decide +kernel)) rfl
theorem gw_1204 : Cond.selects RX11 yX11_renderClause yX11_renderClause ∈ ql_W := ql_in (List.mem_of_getElem? (i := 1204) (by decide +kernel)) rfl
theorem gw_1205 : Cond.code yX11_renderClause cX11_renderClause 3 (Option.some Jvm.ClassFile.FieldType.int) ∈ ql_W := ql_in (List.mem_of_getElem? (i := 1205) (by decide +kernel)) rfl
theorem gw_1206 : Cond.methodLink RX11 315 yJ4_setLength_d00df ∈ ql_W := ql_in (List.mem_of_getElem? (i := 1206) (by decide +kernel)) rfl
theorem gw_1207 : Cond.instanceMethod yJ4_setLength_d00df ∈ ql_W := ql_in (List.mem_of_getElem? (i := 1207) (by decide +kernel)) rfl
theorem gw_1208 : Cond.selects RJ4 yJ4_setLength_d00df yJ4_setLength_d00df ∈ ql_W := ql_in (List.mem_of_getElem? (i := 1208) (by decide +kernel)) rfl
theorem gw_1209 : Cond.code yJ4_setLength_d00df cJ4_setLength_d00df 2 (Option.none : Option Jvm.ClassFile.FieldType) ∈ ql_W := ql_in (List.mem_of_getElem? (i := 1209) (by decide +kernel)) rfl
theorem gw_1210 : Cond.methodLink RJ4 333 yJ5_setLength_d00df ∈ ql_W := ql_in (List.mem_of_getElem? (i := 1210) (by decide +kernel)) rfl
theorem gw_1211 : Cond.instanceMethod yJ5_setLength_d00df ∈ ql_W := ql_in (List.mem_of_getElem? (i := 1211) (by decide +kernel)) rfl
theorem gw_1212 : Cond.code yJ5_setLength_d00df cJ5_setLength_d00df 2 (Option.none : Option Jvm.ClassFile.FieldType) ∈ ql_W := ql_in (List.mem_of_getElem? (i := 1212) (by decide +kernel)) rfl
theorem gw_1213 : Cond.classLink RJ5 129 RJx7c733 ∈ ql_W := ql_in (List.mem_of_getElem? (i := 1213) (by decide +kernel)) rfl
theorem gw_1214 : Cond.instantiable RJx7c733 6 ∈ ql_W := ql_in (List.mem_of_getElem? (i := 1214) (by decide +kernel)) rfl
theorem gw_1215 : Cond.methodLink RJ5 131 yJx7c733_init_d00df ∈ ql_W := ql_in (List.mem_of_getElem? (i := 1215) (by decide +kernel)) rfl
theorem gw_1216 : Cond.instanceMethod yJx7c733_init_d00df ∈ ql_W := ql_in (List.mem_of_getElem? (i := 1216) (by decide +kernel)) rfl
theorem gw_1217 : Cond.code yJx7c733_init_d00df cJx7c733_init_d00df 2 (Option.none : Option Jvm.ClassFile.FieldType) ∈ ql_W := ql_in (List.mem_of_getElem? (i := 1217) (by decide +kernel)) rfl
theorem gw_1218 : Cond.classLink RJx7c733 10 RJ4 ∈ ql_W := ql_in (List.mem_of_getElem? (i := 1218) (by decide +kernel)) rfl
theorem gw_1219 : Cond.methodLink RJx7c733 12 yJ4_init_da8c8 ∈ ql_W := ql_in (List.mem_of_getElem? (i := 1219) (by decide +kernel)) rfl
theorem gw_1221 : Cond.methodLink RJx7c733 15 yJ4_append_15ec4 ∈ ql_W := ql_in (List.mem_of_getElem? (i := 1221) (by decide +kernel)) rfl
theorem gw_1222 : Cond.instanceMethod yJ4_append_15ec4 ∈ ql_W := ql_in (List.mem_of_getElem? (i := 1222) (by decide +kernel)) rfl
theorem gw_1223 : Cond.selects RJ4 yJ4_append_15ec4 yJ4_append_15ec4 ∈ ql_W := ql_in (List.mem_of_getElem? (i := 1223) (by decide +kernel)) rfl
theorem gw_1224 : Cond.code yJ4_append_15ec4 cJ4_append_15ec4 2 (Option.some (Jvm.ClassFile.FieldType.object "java/lang/StringBuilder")) ∈ ql_W := ql_in (List.mem_of_getElem? (i := 1224) (by decide +kernel)) rfl
theorem gw_1225 : Cond.methodLink RJ4 29 yJ5_append_cf1ce ∈ ql_W := ql_in (List.mem_of_getElem? (i := 1225) (by decide +kernel)) rfl
theorem gw_1226 : Cond.instanceMethod yJ5_append_cf1ce ∈ ql_W := ql_in (List.mem_of_getElem? (i := 1226) (by decide +kernel)) rfl
theorem gw_1227 : Cond.code yJ5_append_cf1ce cJ5_append_cf1ce 3 (Option.some (Jvm.ClassFile.FieldType.object "java/lang/AbstractStringBuilder")) ∈ ql_W := ql_in (List.mem_of_getElem? (i := 1227) (by decide +kernel)) rfl
theorem gw_1228 : Cond.methodLink RJ5 204 yJ5_appendNull_278bc ∈ ql_W := ql_in (List.mem_of_getElem? (i := 1228) (by decide +kernel)) rfl
theorem gw_1230 : Cond.instanceMethod yJ5_appendNull_278bc ∈ ql_W := ql_in (List.mem_of_getElem? (i := 1230) (by decide +kernel)) rfl
theorem gw_1231 : Cond.code yJ5_appendNull_278bc cJ5_appendNull_278bc 3 (Option.some (Jvm.ClassFile.FieldType.object "java/lang/AbstractStringBuilder")) ∈ ql_W := ql_in (List.mem_of_getElem? (i := 1231) (by decide +kernel)) rfl
theorem gw_1232 : Cond.methodLink RJ5 100 yJ5_ensureCapacityInternal_d00df ∈ ql_W := ql_in (List.mem_of_getElem? (i := 1232) (by decide +kernel)) rfl
theorem gw_1234 : Cond.instanceMethod yJ5_ensureCapacityInternal_d00df ∈ ql_W := ql_in (List.mem_of_getElem? (i := 1234) (by decide +kernel)) rfl
theorem gw_1235 : Cond.code yJ5_ensureCapacityInternal_d00df cJ5_ensureCapacityInternal_d00df 3 (Option.none : Option Jvm.ClassFile.FieldType) ∈ ql_W := ql_in (List.mem_of_getElem? (i := 1235) (by decide +kernel)) rfl
theorem gw_1236 : Cond.methodLink RJ5 104 yJ5_newCapacity_0f7a4 ∈ ql_W := ql_in (List.mem_of_getElem? (i := 1236) (by decide +kernel)) rfl
theorem gw_1238 : Cond.instanceMethod yJ5_newCapacity_0f7a4 ∈ ql_W := ql_in (List.mem_of_getElem? (i := 1238) (by decide +kernel)) rfl
theorem gw_1239 : Cond.code yJ5_newCapacity_0f7a4 cJ5_newCapacity_0f7a4 6 (Option.some Jvm.ClassFile.FieldType.int) ∈ ql_W := ql_in (List.mem_of_getElem? (i := 1239) (by decide +kernel)) rfl
theorem gw_1240 : Cond.methodLink RJ5 114 yJ8_newLength_cabcc ∈ ql_W := ql_in (List.mem_of_getElem? (i := 1240) (by decide +kernel)) rfl
theorem gw_1241 : Cond.static yJ8_newLength_cabcc ∈ ql_W := ql_in (List.mem_of_getElem? (i := 1241) (by decide +kernel)) rfl
theorem gw_1242 : Cond.code yJ8_newLength_cabcc cJ8_newLength_cabcc 4 (Option.some Jvm.ClassFile.FieldType.int) ∈ ql_W := ql_in (List.mem_of_getElem? (i := 1242) (by decide +kernel)) rfl
theorem gw_1243 : Cond.methodLink RJ8 194 yJ9_max_7cf53 ∈ ql_W := ql_in (List.mem_of_getElem? (i := 1243) (by decide +kernel)) rfl
theorem gw_1244 : Cond.static yJ9_max_7cf53 ∈ ql_W := ql_in (List.mem_of_getElem? (i := 1244) (by decide +kernel)) rfl
theorem gw_1245 : Cond.code yJ9_max_7cf53 cJ9_max_7cf53 2 (Option.some Jvm.ClassFile.FieldType.int) ∈ ql_W := ql_in (List.mem_of_getElem? (i := 1245) (by decide +kernel)) rfl
theorem gw_1246 : Cond.constant RJ8 200 (2147483639 : Int32) ∈ ql_W := ql_in (List.mem_of_getElem? (i := 1246) (by decide +kernel)) rfl
theorem gw_1247 : Cond.methodLink RJ8 201 yJ8_hugeLength_7cf53 ∈ ql_W := ql_in (List.mem_of_getElem? (i := 1247) (by decide +kernel)) rfl
theorem gw_1248 : Cond.static yJ8_hugeLength_7cf53 ∈ ql_W := ql_in (List.mem_of_getElem? (i := 1248) (by decide +kernel)) rfl
theorem gw_1249 : Cond.code yJ8_hugeLength_7cf53 cJ8_hugeLength_7cf53 3 (Option.some Jvm.ClassFile.FieldType.int) ∈ ql_W := ql_in (List.mem_of_getElem? (i := 1249) (by decide +kernel)) rfl
theorem gw_1250 : Cond.constant RJ5 39 (2147483647 : Int32) ∈ ql_W := ql_in (List.mem_of_getElem? (i := 1250) (by decide +kernel)) rfl
theorem gw_1251 : Cond.methodLink RJ5 108 yJ7_copyOf_9075b ∈ ql_W := ql_in (List.mem_of_getElem? (i := 1251) (by decide +kernel)) rfl
theorem gw_1252 : Cond.static yJ7_copyOf_9075b ∈ ql_W := ql_in (List.mem_of_getElem? (i := 1252) (by decide +kernel)) rfl
theorem gw_1253 : Cond.code yJ7_copyOf_9075b cJ7_copyOf_9075b 3 (Option.some (Jvm.ClassFile.FieldType.array Jvm.ClassFile.FieldType.byte)) ∈ ql_W := ql_in (List.mem_of_getElem? (i := 1253) (by decide +kernel)) rfl
theorem gw_1254 : Cond.methodLink RJ7 310 ⟨"[B", "clone", "()Ljava/lang/Object;"⟩ ∈ ql_W := ql_in (List.mem_of_getElem? (i := 1254) (by decide +kernel)) rfl
theorem gw_1255 : Cond.sameMethod "[B" "java/lang/Object" "clone" "()Ljava/lang/Object;" ∈ ql_W := ql_in (List.mem_of_getElem? (i := 1255) (by decide +kernel)) rfl
theorem gw_1256 : Cond.native ⟨"java/lang/Object", "clone", "()Ljava/lang/Object;"⟩ ∈ ql_W := ql_in (List.mem_of_getElem? (i := 1256) (by decide +kernel)) rfl
theorem gw_1257 : Cond.instanceMethod ⟨"java/lang/Object", "clone", "()Ljava/lang/Object;"⟩ ∈ ql_W := ql_in (List.mem_of_getElem? (i := 1257) (by decide +kernel)) rfl
theorem gw_1258 : Cond.selects "[B" ⟨"[B", "clone", "()Ljava/lang/Object;"⟩ ⟨"java/lang/Object", "clone", "()Ljava/lang/Object;"⟩ ∈ ql_W := ql_in (List.mem_of_getElem? (i := 1258) (by decide +kernel)) rfl
theorem gw_1260 : Cond.classLink RJ7 311 "[B" ∈ ql_W := ql_in (List.mem_of_getElem? (i := 1260) (by decide +kernel)) rfl
theorem gw_1261 : Cond.methodLink RJ7 304 yJ9_min_7cf53 ∈ ql_W := ql_in (List.mem_of_getElem? (i := 1261) (by decide +kernel)) rfl
theorem gw_1262 : Cond.methodLink RJ7 150 ⟨"java/lang/System", "arraycopy", "(Ljava/lang/Object;ILjava/lang/Object;II)V"⟩ ∈ ql_W := ql_in (List.mem_of_getElem? (i := 1262) (by decide +kernel)) rfl
theorem gw_1263 : Cond.methodLink RJ5 83 yJ5_isLatin1_aae02 ∈ ql_W := ql_in (List.mem_of_getElem? (i := 1263) (by decide +kernel)) rfl
theorem gw_1264 : Cond.instanceMethod yJ5_isLatin1_aae02 ∈ ql_W := ql_in (List.mem_of_getElem? (i := 1264) (by decide +kernel)) rfl
theorem gw_1265 : Cond.sameMethod RJ5 RJ5 "isLatin1" "()Z" ∈ ql_W := ql_in (List.mem_of_getElem? (i := 1265) (by decide +kernel)) rfl
theorem gw_1266 : Cond.selects RJ4 yJ5_isLatin1_aae02 yJ5_isLatin1_aae02 ∈ ql_W := ql_in (List.mem_of_getElem? (i := 1266) (by decide +kernel)) rfl
theorem gw_1267 : Cond.code yJ5_isLatin1_aae02 cJ5_isLatin1_aae02 1 (Option.some Jvm.ClassFile.FieldType.boolean) ∈ ql_W := ql_in (List.mem_of_getElem? (i := 1267) (by decide +kernel)) rfl
theorem gw_1268 : Cond.methodLink RJ5 226 yJ2_putCharsAt_cd4e5 ∈ ql_W := ql_in (List.mem_of_getElem? (i := 1268) (by decide +kernel)) rfl
theorem gw_1269 : Cond.static yJ2_putCharsAt_cd4e5 ∈ ql_W := ql_in (List.mem_of_getElem? (i := 1269) (by decide +kernel)) rfl
theorem gw_1270 : Cond.code yJ2_putCharsAt_cd4e5 cJ2_putCharsAt_cd4e5 7 (Option.some Jvm.ClassFile.FieldType.int) ∈ ql_W := ql_in (List.mem_of_getElem? (i := 1270) (by decide +kernel)) rfl
theorem gw_1271 : Cond.methodLink RJ2 96 yJ2_checkBoundsBeginEnd_d044e ∈ ql_W := ql_in (List.mem_of_getElem? (i := 1271) (by decide +kernel)) rfl
theorem gw_1272 : Cond.static yJ2_checkBoundsBeginEnd_d044e ∈ ql_W := ql_in (List.mem_of_getElem? (i := 1272) (by decide +kernel)) rfl
theorem gw_1273 : Cond.code yJ2_checkBoundsBeginEnd_d044e cJ2_checkBoundsBeginEnd_d044e 3 (Option.none : Option Jvm.ClassFile.FieldType) ∈ ql_W := ql_in (List.mem_of_getElem? (i := 1273) (by decide +kernel)) rfl
theorem gw_1274 : Cond.methodLink RJ2 48 yJ2_length_9d52b ∈ ql_W := ql_in (List.mem_of_getElem? (i := 1274) (by decide +kernel)) rfl
theorem gw_1275 : Cond.static yJ2_length_9d52b ∈ ql_W := ql_in (List.mem_of_getElem? (i := 1275) (by decide +kernel)) rfl
theorem gw_1276 : Cond.code yJ2_length_9d52b cJ2_length_9d52b 1 (Option.some Jvm.ClassFile.FieldType.int) ∈ ql_W := ql_in (List.mem_of_getElem? (i := 1276) (by decide +kernel)) rfl
theorem gw_1277 : Cond.methodLink RJ2 241 yJ0_checkBoundsBeginEnd_23922 ∈ ql_W := ql_in (List.mem_of_getElem? (i := 1277) (by decide +kernel)) rfl
theorem gw_1278 : Cond.static yJ0_checkBoundsBeginEnd_23922 ∈ ql_W := ql_in (List.mem_of_getElem? (i := 1278) (by decide +kernel)) rfl
theorem gw_1279 : Cond.code yJ0_checkBoundsBeginEnd_23922 cJ0_checkBoundsBeginEnd_23922 3 (Option.none : Option Jvm.ClassFile.FieldType) ∈ ql_W := ql_in (List.mem_of_getElem? (i := 1279) (by decide +kernel)) rfl
theorem gw_1280 : Cond.fieldLink RJ0 1053 RJ3 "SIOOBE_FORMATTER" "Ljava/util/function/BiFunction;" ∈ ql_W := ql_in (List.mem_of_getElem? (i := 1280) (by decide +kernel)) rfl
theorem gw_1282 : Cond.methodLink RJ0 1062 yJ3_checkFromToIndex_8c36e ∈ ql_W := ql_in (List.mem_of_getElem? (i := 1282) (by decide +kernel)) rfl
theorem gw_1283 : Cond.static yJ3_checkFromToIndex_8c36e ∈ ql_W := ql_in (List.mem_of_getElem? (i := 1283) (by decide +kernel)) rfl
theorem gw_1284 : Cond.code yJ3_checkFromToIndex_8c36e cJ3_checkFromToIndex_8c36e 4 (Option.some Jvm.ClassFile.FieldType.int) ∈ ql_W := ql_in (List.mem_of_getElem? (i := 1284) (by decide +kernel)) rfl
theorem gw_1285 : Cond.methodLink RJ2 111 yJ2_putChar_b72d1 ∈ ql_W := ql_in (List.mem_of_getElem? (i := 1285) (by decide +kernel)) rfl
theorem gw_1286 : Cond.static yJ2_putChar_b72d1 ∈ ql_W := ql_in (List.mem_of_getElem? (i := 1286) (by decide +kernel)) rfl
theorem gw_1287 : Cond.code yJ2_putChar_b72d1 cJ2_putChar_b72d1 3 (Option.none : Option Jvm.ClassFile.FieldType) ∈ ql_W := ql_in (List.mem_of_getElem? (i := 1287) (by decide +kernel)) rfl
theorem gw_1288 : Cond.fieldLink RJ2 44 RJ2 "$assertionsDisabled" "Z" ∈ ql_W := ql_in (List.mem_of_getElem? (i := 1288) (by decide +kernel)) rfl
theorem gw_1290 : Cond.fieldLink RJ2 59 RJ2 "HI_BYTE_SHIFT" "I" ∈ ql_W := ql_in (List.mem_of_getElem? (i := 1290) (by decide +kernel)) rfl
theorem gw_1292 : Cond.fieldLink RJ2 63 RJ2 "LO_BYTE_SHIFT" "I" ∈ ql_W := ql_in (List.mem_of_getElem? (i := 1292) (by decide +kernel)) rfl
theorem gw_1294 : Cond.methodLink RJ5 32 yJ0_length_8abf5 ∈ ql_W := ql_in (List.mem_of_getElem? (i := 1294) (by decide +kernel)) rfl
theorem gw_1295 : Cond.instanceMethod yJ0_length_8abf5 ∈ ql_W := ql_in (List.mem_of_getElem? (i := 1295) (by decide +kernel)) rfl
theorem gw_1296 : Cond.selects RJ0 yJ0_length_8abf5 yJ0_length_8abf5 ∈ ql_W := ql_in (List.mem_of_getElem? (i := 1296) (by decide +kernel)) rfl
theorem gw_1297 : Cond.code yJ0_length_8abf5 cJ0_length_8abf5 1 (Option.some Jvm.ClassFile.FieldType.int) ∈ ql_W := ql_in (List.mem_of_getElem? (i := 1297) (by decide +kernel)) rfl
theorem gw_1298 : Cond.methodLink RJ0 335 yJ0_coder_7d493 ∈ ql_W := ql_in (List.mem_of_getElem? (i := 1298) (by decide +kernel)) rfl
theorem gw_1299 : Cond.instanceMethod yJ0_coder_7d493 ∈ ql_W := ql_in (List.mem_of_getElem? (i := 1299) (by decide +kernel)) rfl
theorem gw_1300 : Cond.selects RJ0 yJ0_coder_7d493 yJ0_coder_7d493 ∈ ql_W := ql_in (List.mem_of_getElem? (i := 1300) (by decide +kernel)) rfl
theorem gw_1301 : Cond.code yJ0_coder_7d493 cJ0_coder_7d493 1 (Option.some Jvm.ClassFile.FieldType.byte) ∈ ql_W := ql_in (List.mem_of_getElem? (i := 1301) (by decide +kernel)) rfl
theorem gw_1302 : Cond.fieldLink RJ0 38 RJ0 "COMPACT_STRINGS" "Z" ∈ ql_W := ql_in (List.mem_of_getElem? (i := 1302) (by decide +kernel)) rfl
theorem gw_1303 : Cond.methodLink RJ5 208 yJ5_putStringAt_47b60 ∈ ql_W := ql_in (List.mem_of_getElem? (i := 1303) (by decide +kernel)) rfl
theorem gw_1305 : Cond.instanceMethod yJ5_putStringAt_47b60 ∈ ql_W := ql_in (List.mem_of_getElem? (i := 1305) (by decide +kernel)) rfl
theorem gw_1306 : Cond.code yJ5_putStringAt_47b60 cJ5_putStringAt_47b60 3 (Option.none : Option Jvm.ClassFile.FieldType) ∈ ql_W := ql_in (List.mem_of_getElem? (i := 1306) (by decide +kernel)) rfl
theorem gw_1307 : Cond.methodLink RJ5 397 yJ5_inflateIfNeededFor_a7421 ∈ ql_W := ql_in (List.mem_of_getElem? (i := 1307) (by decide +kernel)) rfl
theorem gw_1309 : Cond.instanceMethod yJ5_inflateIfNeededFor_a7421 ∈ ql_W := ql_in (List.mem_of_getElem? (i := 1309) (by decide +kernel)) rfl
theorem gw_1310 : Cond.code yJ5_inflateIfNeededFor_a7421 cJ5_inflateIfNeededFor_a7421 2 (Option.none : Option Jvm.ClassFile.FieldType) ∈ ql_W := ql_in (List.mem_of_getElem? (i := 1310) (by decide +kernel)) rfl
theorem gw_1311 : Cond.methodLink RJ5 40 yJ0_coder_7d493 ∈ ql_W := ql_in (List.mem_of_getElem? (i := 1311) (by decide +kernel)) rfl
theorem gw_1312 : Cond.methodLink RJ5 195 yJ5_inflate_da8c8 ∈ ql_W := ql_in (List.mem_of_getElem? (i := 1312) (by decide +kernel)) rfl
theorem gw_1314 : Cond.instanceMethod yJ5_inflate_da8c8 ∈ ql_W := ql_in (List.mem_of_getElem? (i := 1314) (by decide +kernel)) rfl
theorem gw_1315 : Cond.code yJ5_inflate_da8c8 cJ5_inflate_da8c8 2 (Option.none : Option Jvm.ClassFile.FieldType) ∈ ql_W := ql_in (List.mem_of_getElem? (i := 1315) (by decide +kernel)) rfl
theorem gw_1316 : Cond.methodLink RJ5 125 yJ1_inflate_0e8fd ∈ ql_W := ql_in (List.mem_of_getElem? (i := 1316) (by decide +kernel)) rfl
theorem gw_1317 : Cond.static yJ1_inflate_0e8fd ∈ ql_W := ql_in (List.mem_of_getElem? (i := 1317) (by decide +kernel)) rfl
theorem gw_1318 : Cond.code yJ1_inflate_0e8fd cJ1_inflate_0e8fd 5 (Option.none : Option Jvm.ClassFile.FieldType) ∈ ql_W := ql_in (List.mem_of_getElem? (i := 1318) (by decide +kernel)) rfl
theorem gw_1319 : Cond.methodLink RJ1 240 yJ2_inflate_0e8fd ∈ ql_W := ql_in (List.mem_of_getElem? (i := 1319) (by decide +kernel)) rfl
theorem gw_1320 : Cond.static yJ2_inflate_0e8fd ∈ ql_W := ql_in (List.mem_of_getElem? (i := 1320) (by decide +kernel)) rfl
theorem gw_1321 : Cond.code yJ2_inflate_0e8fd cJ2_inflate_0e8fd 6 (Option.none : Option Jvm.ClassFile.FieldType) ∈ ql_W := ql_in (List.mem_of_getElem? (i := 1321) (by decide +kernel)) rfl
theorem gw_1322 : Cond.methodLink RJ2 173 yJ2_checkBoundsOffCount_d044e ∈ ql_W := ql_in (List.mem_of_getElem? (i := 1322) (by decide +kernel)) rfl
theorem gw_1323 : Cond.static yJ2_checkBoundsOffCount_d044e ∈ ql_W := ql_in (List.mem_of_getElem? (i := 1323) (by decide +kernel)) rfl
theorem gw_1324 : Cond.code yJ2_checkBoundsOffCount_d044e cJ2_checkBoundsOffCount_d044e 3 (Option.none : Option Jvm.ClassFile.FieldType) ∈ ql_W := ql_in (List.mem_of_getElem? (i := 1324) (by decide +kernel)) rfl
theorem gw_1325 : Cond.methodLink RJ2 419 yJ0_checkBoundsOffCount_cabcc ∈ ql_W := ql_in (List.mem_of_getElem? (i := 1325) (by decide +kernel)) rfl
theorem gw_1326 : Cond.static yJ0_checkBoundsOffCount_cabcc ∈ ql_W := ql_in (List.mem_of_getElem? (i := 1326) (by decide +kernel)) rfl
theorem gw_1327 : Cond.code yJ0_checkBoundsOffCount_cabcc cJ0_checkBoundsOffCount_cabcc 3 (Option.some Jvm.ClassFile.FieldType.int) ∈ ql_W := ql_in (List.mem_of_getElem? (i := 1327) (by decide +kernel)) rfl
theorem gw_1328 : Cond.methodLink RJ0 1065 yJ3_checkFromIndexSize_8c36e ∈ ql_W := ql_in (List.mem_of_getElem? (i := 1328) (by decide +kernel)) rfl
theorem gw_1329 : Cond.static yJ3_checkFromIndexSize_8c36e ∈ ql_W := ql_in (List.mem_of_getElem? (i := 1329) (by decide +kernel)) rfl
theorem gw_1330 : Cond.code yJ3_checkFromIndexSize_8c36e cJ3_checkFromIndexSize_8c36e 4 (Option.some Jvm.ClassFile.FieldType.int) ∈ ql_W := ql_in (List.mem_of_getElem? (i := 1330) (by decide +kernel)) rfl
theorem gw_1331 : Cond.methodLink RJ5 399 yJ0_getBytes_840e7 ∈ ql_W := ql_in (List.mem_of_getElem? (i := 1331) (by decide +kernel)) rfl
theorem gw_1332 : Cond.instanceMethod yJ0_getBytes_840e7 ∈ ql_W := ql_in (List.mem_of_getElem? (i := 1332) (by decide +kernel)) rfl
theorem gw_1333 : Cond.selects RJ0 yJ0_getBytes_840e7 yJ0_getBytes_840e7 ∈ ql_W := ql_in (List.mem_of_getElem? (i := 1333) (by decide +kernel)) rfl
theorem gw_1334 : Cond.code yJ0_getBytes_840e7 cJ0_getBytes_840e7 4 (Option.none : Option Jvm.ClassFile.FieldType) ∈ ql_W := ql_in (List.mem_of_getElem? (i := 1334) (by decide +kernel)) rfl
theorem gw_1335 : Cond.methodLink RJ0 212 ⟨"java/lang/System", "arraycopy", "(Ljava/lang/Object;ILjava/lang/Object;II)V"⟩ ∈ ql_W := ql_in (List.mem_of_getElem? (i := 1335) (by decide +kernel)) rfl
theorem gw_1336 : Cond.methodLink RJ0 106 yJ1_inflate_0e8fd ∈ ql_W := ql_in (List.mem_of_getElem? (i := 1336) (by decide +kernel)) rfl
theorem gw_1337 : Cond.methodLink RJx7c733 19 yJ4_append_bf812 ∈ ql_W := ql_in (List.mem_of_getElem? (i := 1337) (by decide +kernel)) rfl
theorem gw_1338 : Cond.instanceMethod yJ4_append_bf812 ∈ ql_W := ql_in (List.mem_of_getElem? (i := 1338) (by decide +kernel)) rfl
theorem gw_1339 : Cond.selects RJ4 yJ4_append_bf812 yJ4_append_bf812 ∈ ql_W := ql_in (List.mem_of_getElem? (i := 1339) (by decide +kernel)) rfl
theorem gw_1340 : Cond.code yJ4_append_bf812 cJ4_append_bf812 2 (Option.some (Jvm.ClassFile.FieldType.object "java/lang/StringBuilder")) ∈ ql_W := ql_in (List.mem_of_getElem? (i := 1340) (by decide +kernel)) rfl
theorem gw_1341 : Cond.methodLink RJ4 53 yJ5_append_c97b9 ∈ ql_W := ql_in (List.mem_of_getElem? (i := 1341) (by decide +kernel)) rfl
theorem gw_1342 : Cond.instanceMethod yJ5_append_c97b9 ∈ ql_W := ql_in (List.mem_of_getElem? (i := 1342) (by decide +kernel)) rfl
theorem gw_1343 : Cond.code yJ5_append_c97b9 cJ5_append_c97b9 4 (Option.some (Jvm.ClassFile.FieldType.object "java/lang/AbstractStringBuilder")) ∈ ql_W := ql_in (List.mem_of_getElem? (i := 1343) (by decide +kernel)) rfl
theorem gw_1344 : Cond.methodLink RJ5 245 yJ6_stringSize_0f7a4 ∈ ql_W := ql_in (List.mem_of_getElem? (i := 1344) (by decide +kernel)) rfl
theorem gw_1345 : Cond.static yJ6_stringSize_0f7a4 ∈ ql_W := ql_in (List.mem_of_getElem? (i := 1345) (by decide +kernel)) rfl
theorem gw_1346 : Cond.code yJ6_stringSize_0f7a4 cJ6_stringSize_0f7a4 4 (Option.some Jvm.ClassFile.FieldType.int) ∈ ql_W := ql_in (List.mem_of_getElem? (i := 1346) (by decide +kernel)) rfl
theorem gw_1347 : Cond.methodLink RJ5 248 yJ6_getChars_ba4f3 ∈ ql_W := ql_in (List.mem_of_getElem? (i := 1347) (by decide +kernel)) rfl
theorem gw_1348 : Cond.static yJ6_getChars_ba4f3 ∈ ql_W := ql_in (List.mem_of_getElem? (i := 1348) (by decide +kernel)) rfl
theorem gw_1349 : Cond.code yJ6_getChars_ba4f3 cJ6_getChars_ba4f3 7 (Option.some Jvm.ClassFile.FieldType.int) ∈ ql_W := ql_in (List.mem_of_getElem? (i := 1349) (by decide +kernel)) rfl
theorem gw_1350 : Cond.fieldLink RJ6 83 RJ6 "DigitOnes" "[B" ∈ ql_W := ql_in (List.mem_of_getElem? (i := 1350) (by decide +kernel)) rfl
theorem gw_1352 : Cond.fieldLink RJ6 87 RJ6 "DigitTens" "[B" ∈ ql_W := ql_in (List.mem_of_getElem? (i := 1352) (by decide +kernel)) rfl
theorem gw_1354 : Cond.methodLink RJ5 251 yJ2_getChars_46870 ∈ ql_W := ql_in (List.mem_of_getElem? (i := 1354) (by decide +kernel)) rfl
theorem gw_1355 : Cond.static yJ2_getChars_46870 ∈ ql_W := ql_in (List.mem_of_getElem? (i := 1355) (by decide +kernel)) rfl
theorem gw_1356 : Cond.code yJ2_getChars_46870 cJ2_getChars_46870 5 (Option.some Jvm.ClassFile.FieldType.int) ∈ ql_W := ql_in (List.mem_of_getElem? (i := 1356) (by decide +kernel)) rfl
theorem gw_1357 : Cond.methodLink RJ2 393 yJ2_getChars_ba4f3 ∈ ql_W := ql_in (List.mem_of_getElem? (i := 1357) (by decide +kernel)) rfl
theorem gw_1358 : Cond.static yJ2_getChars_ba4f3 ∈ ql_W := ql_in (List.mem_of_getElem? (i := 1358) (by decide +kernel)) rfl
theorem gw_1359 : Cond.code yJ2_getChars_ba4f3 cJ2_getChars_ba4f3 7 (Option.some Jvm.ClassFile.FieldType.int) ∈ ql_W := ql_in (List.mem_of_getElem? (i := 1359) (by decide +kernel)) rfl
theorem gw_1360 : Cond.fieldLink RJ2 403 RJ6 "DigitOnes" "[B" ∈ ql_W := ql_in (List.mem_of_getElem? (i := 1360) (by decide +kernel)) rfl
theorem gw_1361 : Cond.fieldLink RJ2 407 RJ6 "DigitTens" "[B" ∈ ql_W := ql_in (List.mem_of_getElem? (i := 1361) (by decide +kernel)) rfl
theorem gw_1362 : Cond.methodLink RJx7c733 22 yJ4_toString_0e30d ∈ ql_W := ql_in (List.mem_of_getElem? (i := 1362) (by decide +kernel)) rfl
theorem gw_1363 : Cond.instanceMethod yJ4_toString_0e30d ∈ ql_W := ql_in (List.mem_of_getElem? (i := 1363) (by decide +kernel)) rfl
theorem gw_1364 : Cond.selects RJ4 yJ4_toString_0e30d yJ4_toString_0e30d ∈ ql_W := ql_in (List.mem_of_getElem? (i := 1364) (by decide +kernel)) rfl
theorem gw_1365 : Cond.code yJ4_toString_0e30d cJ4_toString_0e30d 1 (Option.some (Jvm.ClassFile.FieldType.object "java/lang/String")) ∈ ql_W := ql_in (List.mem_of_getElem? (i := 1365) (by decide +kernel)) rfl
theorem gw_1366 : Cond.classLink RJ4 18 RJ0 ∈ ql_W := ql_in (List.mem_of_getElem? (i := 1366) (by decide +kernel)) rfl
theorem gw_1367 : Cond.methodLink RJ4 137 yJ0_init_81219 ∈ ql_W := ql_in (List.mem_of_getElem? (i := 1367) (by decide +kernel)) rfl
theorem gw_1368 : Cond.instanceMethod yJ0_init_81219 ∈ ql_W := ql_in (List.mem_of_getElem? (i := 1368) (by decide +kernel)) rfl
theorem gw_1369 : Cond.code yJ0_init_81219 cJ0_init_81219 2 (Option.none : Option Jvm.ClassFile.FieldType) ∈ ql_W := ql_in (List.mem_of_getElem? (i := 1369) (by decide +kernel)) rfl
theorem gw_1370 : Cond.methodLink RJ0 489 yJ0_init_db425 ∈ ql_W := ql_in (List.mem_of_getElem? (i := 1370) (by decide +kernel)) rfl
theorem gw_1371 : Cond.instanceMethod yJ0_init_db425 ∈ ql_W := ql_in (List.mem_of_getElem? (i := 1371) (by decide +kernel)) rfl
theorem gw_1372 : Cond.code yJ0_init_db425 cJ0_init_db425 5 (Option.none : Option Jvm.ClassFile.FieldType) ∈ ql_W := ql_in (List.mem_of_getElem? (i := 1372) (by decide +kernel)) rfl
theorem gw_1373 : Cond.methodLink RJ0 1 ⟨"java/lang/Object", "<init>", "()V"⟩ ∈ ql_W := ql_in (List.mem_of_getElem? (i := 1373) (by decide +kernel)) rfl
theorem gw_1374 : Cond.methodLink RJ0 552 yJ5_getValue_6d5f1 ∈ ql_W := ql_in (List.mem_of_getElem? (i := 1374) (by decide +kernel)) rfl
theorem gw_1375 : Cond.instanceMethod yJ5_getValue_6d5f1 ∈ ql_W := ql_in (List.mem_of_getElem? (i := 1375) (by decide +kernel)) rfl
theorem gw_1376 : Cond.sameMethod RJ5 RJ5 "getValue" "()[B" ∈ ql_W := ql_in (List.mem_of_getElem? (i := 1376) (by decide +kernel)) rfl
theorem gw_1377 : Cond.selects RJ4 yJ5_getValue_6d5f1 yJ5_getValue_6d5f1 ∈ ql_W := ql_in (List.mem_of_getElem? (i := 1377) (by decide +kernel)) rfl
theorem gw_1378 : Cond.code yJ5_getValue_6d5f1 cJ5_getValue_6d5f1 1 (Option.some (Jvm.ClassFile.FieldType.array Jvm.ClassFile.FieldType.byte)) ∈ ql_W := ql_in (List.mem_of_getElem? (i := 1378) (by decide +kernel)) rfl
theorem gw_1379 : Cond.methodLink RJ0 549 yJ5_length_8abf5 ∈ ql_W := ql_in (List.mem_of_getElem? (i := 1379) (by decide +kernel)) rfl
theorem gw_1380 : Cond.instanceMethod yJ5_length_8abf5 ∈ ql_W := ql_in (List.mem_of_getElem? (i := 1380) (by decide +kernel)) rfl
theorem gw_1381 : Cond.sameMethod RJ5 RJ5 "length" "()I" ∈ ql_W := ql_in (List.mem_of_getElem? (i := 1381) (by decide +kernel)) rfl
theorem gw_1382 : Cond.selects RJ4 yJ5_length_8abf5 yJ4_length_8abf5 ∈ ql_W := ql_in (List.mem_of_getElem? (i := 1382) (by decide +kernel)) rfl
theorem gw_1383 : Cond.instanceMethod yJ4_length_8abf5 ∈ ql_W := ql_in (List.mem_of_getElem? (i := 1383) (by decide +kernel)) rfl
theorem gw_1384 : Cond.code yJ4_length_8abf5 cJ4_length_8abf5 1 (Option.some Jvm.ClassFile.FieldType.int) ∈ ql_W := ql_in (List.mem_of_getElem? (i := 1384) (by decide +kernel)) rfl
theorem gw_1385 : Cond.methodLink RJ4 343 yJ5_length_8abf5 ∈ ql_W := ql_in (List.mem_of_getElem? (i := 1385) (by decide +kernel)) rfl
theorem gw_1386 : Cond.code yJ5_length_8abf5 cJ5_length_8abf5 1 (Option.some Jvm.ClassFile.FieldType.int) ∈ ql_W := ql_in (List.mem_of_getElem? (i := 1386) (by decide +kernel)) rfl
theorem gw_1387 : Cond.methodLink RJ0 1047 yJ5_isLatin1_aae02 ∈ ql_W := ql_in (List.mem_of_getElem? (i := 1387) (by decide +kernel)) rfl
theorem gw_1388 : Cond.methodLink RJ0 54 yJ7_copyOfRange_39247 ∈ ql_W := ql_in (List.mem_of_getElem? (i := 1388) (by decide +kernel)) rfl
theorem gw_1389 : Cond.static yJ7_copyOfRange_39247 ∈ ql_W := ql_in (List.mem_of_getElem? (i := 1389) (by decide +kernel)) rfl
theorem gw_1390 : Cond.code yJ7_copyOfRange_39247 cJ7_copyOfRange_39247 3 (Option.some (Jvm.ClassFile.FieldType.array Jvm.ClassFile.FieldType.byte)) ∈ ql_W := ql_in (List.mem_of_getElem? (i := 1390) (by decide +kernel)) rfl
theorem gw_1391 : Cond.methodLink RJ7 339 yJ7_copyOfRangeByte_39247 ∈ ql_W := ql_in (List.mem_of_getElem? (i := 1391) (by decide +kernel)) rfl
theorem gw_1392 : Cond.static yJ7_copyOfRangeByte_39247 ∈ ql_W := ql_in (List.mem_of_getElem? (i := 1392) (by decide +kernel)) rfl
theorem gw_1393 : Cond.code yJ7_copyOfRangeByte_39247 cJ7_copyOfRangeByte_39247 5 (Option.some (Jvm.ClassFile.FieldType.array Jvm.ClassFile.FieldType.byte)) ∈ ql_W := ql_in (List.mem_of_getElem? (i := 1393) (by decide +kernel)) rfl
theorem gw_1394 : Cond.methodLink RJ7 343 yJ7_checkLength_df160 ∈ ql_W := ql_in (List.mem_of_getElem? (i := 1394) (by decide +kernel)) rfl
theorem gw_1395 : Cond.static yJ7_checkLength_df160 ∈ ql_W := ql_in (List.mem_of_getElem? (i := 1395) (by decide +kernel)) rfl
theorem gw_1396 : Cond.code yJ7_checkLength_df160 cJ7_checkLength_df160 2 (Option.none : Option Jvm.ClassFile.FieldType) ∈ ql_W := ql_in (List.mem_of_getElem? (i := 1396) (by decide +kernel)) rfl
theorem gw_1397 : Cond.classLink RJ7 43 "java/lang/IllegalArgumentException" ∈ ql_W := ql_in (List.mem_of_getElem? (i := 1397) (by decide +kernel)) rfl
theorem gw_1398 : Cond.classLink RJ7 45 RJ4 ∈ ql_W := ql_in (List.mem_of_getElem? (i := 1398) (by decide +kernel)) rfl
theorem gw_1399 : Cond.methodLink RJ7 47 yJ4_init_da8c8 ∈ ql_W := ql_in (List.mem_of_getElem? (i := 1399) (by decide +kernel)) rfl
theorem gw_1400 : Cond.methodLink RJ7 54 yJ4_append_bf812 ∈ ql_W := ql_in (List.mem_of_getElem? (i := 1400) (by decide +kernel)) rfl
theorem gw_1402 : Cond.methodLink RJ7 50 yJ4_append_15ec4 ∈ ql_W := ql_in (List.mem_of_getElem? (i := 1402) (by decide +kernel)) rfl
theorem gw_1403 : Cond.methodLink RJ7 61 yJ4_toString_0e30d ∈ ql_W := ql_in (List.mem_of_getElem? (i := 1403) (by decide +kernel)) rfl
theorem gw_1404 : Cond.methodLink RJ7 65 ⟨"java/lang/IllegalArgumentException", "<init>", "(Ljava/lang/String;)V"⟩ ∈ ql_W := ql_in (List.mem_of_getElem? (i := 1404) (by decide +kernel)) rfl
theorem gw_1405 : Cond.instanceMethod ⟨"java/lang/IllegalArgumentException", "<init>", "(Ljava/lang/String;)V"⟩ ∈ ql_W := ql_in (List.mem_of_getElem? (i := 1405) (by decide +kernel)) rfl
theorem gw_1406 : Cond.code ⟨"java/lang/IllegalArgumentException", "<init>", "(Ljava/lang/String;)V"⟩ prog_25_method_2_code 2 (Option.none : Option Jvm.ClassFile.FieldType) ∈ ql_W := ql_in (List.mem_of_getElem? (i := 1406) (by decide +kernel)) rfl
theorem gw_1407 : Cond.methodLink "java/lang/IllegalArgumentException" 7 ⟨"java/lang/RuntimeException", "<init>", "(Ljava/lang/String;)V"⟩ ∈ ql_W := ql_in (List.mem_of_getElem? (i := 1407) (by decide +kernel)) rfl
theorem gw_1408 : Cond.methodLink RJ0 1051 yJ2_compress_39247 ∈ ql_W := ql_in (List.mem_of_getElem? (i := 1408) (by decide +kernel)) rfl
theorem gw_1409 : Cond.static yJ2_compress_39247 ∈ ql_W := ql_in (List.mem_of_getElem? (i := 1409) (by decide +kernel)) rfl
theorem gw_1410 : Cond.code yJ2_compress_39247 cJ2_compress_39247 6 (Option.some (Jvm.ClassFile.FieldType.array Jvm.ClassFile.FieldType.byte)) ∈ ql_W := ql_in (List.mem_of_getElem? (i := 1410) (by decide +kernel)) rfl
theorem gw_1411 : Cond.methodLink RJ2 123 yJ2_compress_5af95 ∈ ql_W := ql_in (List.mem_of_getElem? (i := 1411) (by decide +kernel)) rfl
theorem gw_1412 : Cond.static yJ2_compress_5af95 ∈ ql_W := ql_in (List.mem_of_getElem? (i := 1412) (by decide +kernel)) rfl
theorem gw_1413 : Cond.code yJ2_compress_5af95 cJ2_compress_5af95 7 (Option.some Jvm.ClassFile.FieldType.int) ∈ ql_W := ql_in (List.mem_of_getElem? (i := 1413) (by decide +kernel)) rfl
theorem gw_1414 : Cond.methodLink RJ2 71 yJ2_getChar_3b067 ∈ ql_W := ql_in (List.mem_of_getElem? (i := 1414) (by decide +kernel)) rfl
theorem gw_1415 : Cond.static yJ2_getChar_3b067 ∈ ql_W := ql_in (List.mem_of_getElem? (i := 1415) (by decide +kernel)) rfl
theorem gw_1416 : Cond.code yJ2_getChar_3b067 cJ2_getChar_3b067 2 (Option.some Jvm.ClassFile.FieldType.char) ∈ ql_W := ql_in (List.mem_of_getElem? (i := 1416) (by decide +kernel)) rfl
theorem gw_1417 : Cond.methodLink RJ2 126 yJ7_copyOfRange_39247 ∈ ql_W := ql_in (List.mem_of_getElem? (i := 1417) (by decide +kernel)) rfl
theorem gw_1418 : Cond.methodLink RJ0 47 yJ2_coderFromArrayLen_85cad ∈ ql_W := ql_in (List.mem_of_getElem? (i := 1418) (by decide +kernel)) rfl
theorem gw_1419 : Cond.static yJ2_coderFromArrayLen_85cad ∈ ql_W := ql_in (List.mem_of_getElem? (i := 1419) (by decide +kernel)) rfl
theorem gw_1420 : Cond.code yJ2_coderFromArrayLen_85cad cJ2_coderFromArrayLen_85cad 2 (Option.some Jvm.ClassFile.FieldType.byte) ∈ ql_W := ql_in (List.mem_of_getElem? (i := 1420) (by decide +kernel)) rfl
theorem gw_1421 : Cond.fieldLink RJ0 9 RJ0 "value" "[B" ∈ ql_W := ql_in (List.mem_of_getElem? (i := 1421) (by decide +kernel)) rfl
theorem gw_1422 : Cond.fieldLink RJ0 15 RJ0 "coder" "B" ∈ ql_W := ql_in (List.mem_of_getElem? (i := 1422) (by decide +kernel)) rfl
theorem gw_1423 : Cond.lays RJ0 RJ0 "hash" "I" ∈ ql_W := ql_in (List.mem_of_getElem? (i := 1423) (by decide +kernel)) rfl
theorem gw_1425 : Cond.lays RJ0 RJ0 "hashIsZero" "Z" ∈ ql_W := ql_in (List.mem_of_getElem? (i := 1425) (by decide +kernel)) rfl
theorem gw_1427 : Cond.superclass RJ0 "java/lang/Object" ∈ ql_W := ql_in (List.mem_of_getElem? (i := 1427) (by decide +kernel)) rfl
theorem gw_1428 : Cond.methodLink RJx7c733 7 ⟨"java/lang/IndexOutOfBoundsException", "<init>", "(Ljava/lang/String;)V"⟩ ∈ ql_W := ql_in (List.mem_of_getElem? (i := 1428) (by decide +kernel)) rfl
theorem gw_1429 : Cond.lays RJx7c733 "java/lang/Throwable" "backtrace" "Ljava/lang/Object;" ∈ ql_W := ql_in (List.mem_of_getElem? (i := 1429) (by decide +kernel)) rfl
theorem gw_1430 : Cond.lays RJx7c733 "java/lang/Throwable" "detailMessage" "Ljava/lang/String;" ∈ ql_W := ql_in (List.mem_of_getElem? (i := 1430) (by decide +kernel)) rfl
theorem gw_1431 : Cond.lays RJx7c733 "java/lang/Throwable" "cause" "Ljava/lang/Throwable;" ∈ ql_W := ql_in (List.mem_of_getElem? (i := 1431) (by decide +kernel)) rfl
theorem gw_1432 : Cond.lays RJx7c733 "java/lang/Throwable" "stackTrace" "[Ljava/lang/StackTraceElement;" ∈ ql_W := ql_in (List.mem_of_getElem? (i := 1432) (by decide +kernel)) rfl
theorem gw_1433 : Cond.lays RJx7c733 "java/lang/Throwable" "depth" "I" ∈ ql_W := ql_in (List.mem_of_getElem? (i := 1433) (by decide +kernel)) rfl
theorem gw_1434 : Cond.lays RJx7c733 "java/lang/Throwable" "suppressedExceptions" "Ljava/util/List;" ∈ ql_W := ql_in (List.mem_of_getElem? (i := 1434) (by decide +kernel)) rfl
theorem gw_1435 : Cond.superclass RJx7c733 "java/lang/IndexOutOfBoundsException" ∈ ql_W := ql_in (List.mem_of_getElem? (i := 1435) (by decide +kernel)) rfl
theorem gw_1436 : Cond.methodLink RJ5 133 yJ1_fillNull_b72d1 ∈ ql_W := ql_in (List.mem_of_getElem? (i := 1436) (by decide +kernel)) rfl
theorem gw_1437 : Cond.static yJ1_fillNull_b72d1 ∈ ql_W := ql_in (List.mem_of_getElem? (i := 1437) (by decide +kernel)) rfl
theorem gw_1438 : Cond.code yJ1_fillNull_b72d1 cJ1_fillNull_b72d1 3 (Option.none : Option Jvm.ClassFile.FieldType) ∈ ql_W := ql_in (List.mem_of_getElem? (i := 1438) (by decide +kernel)) rfl
theorem gw_1439 : Cond.methodLink RJ1 236 yJ7_fill_eb02e ∈ ql_W := ql_in (List.mem_of_getElem? (i := 1439) (by decide +kernel)) rfl
theorem gw_1440 : Cond.static yJ7_fill_eb02e ∈ ql_W := ql_in (List.mem_of_getElem? (i := 1440) (by decide +kernel)) rfl
theorem gw_1441 : Cond.code yJ7_fill_eb02e cJ7_fill_eb02e 5 (Option.none : Option Jvm.ClassFile.FieldType) ∈ ql_W := ql_in (List.mem_of_getElem? (i := 1441) (by decide +kernel)) rfl
theorem gw_1442 : Cond.methodLink RJ7 13 yJ7_rangeCheck_23922 ∈ ql_W := ql_in (List.mem_of_getElem? (i := 1442) (by decide +kernel)) rfl
theorem gw_1443 : Cond.static yJ7_rangeCheck_23922 ∈ ql_W := ql_in (List.mem_of_getElem? (i := 1443) (by decide +kernel)) rfl
theorem gw_1444 : Cond.code yJ7_rangeCheck_23922 cJ7_rangeCheck_23922 3 (Option.none : Option Jvm.ClassFile.FieldType) ∈ ql_W := ql_in (List.mem_of_getElem? (i := 1444) (by decide +kernel)) rfl
theorem gw_1448 : Cond.classLink RJ7 68 RJx00060 ∈ ql_W := ql_in (List.mem_of_getElem? (i := 1448) (by decide +kernel)) rfl
theorem gw_1449 : Cond.methodLink RJ7 70 yJx00060_init_d00df ∈ ql_W := ql_in (List.mem_of_getElem? (i := 1449) (by decide +kernel)) rfl
theorem gw_1450 : Cond.instanceMethod yJx00060_init_d00df ∈ ql_W := ql_in (List.mem_of_getElem? (i := 1450) (by decide +kernel)) rfl
theorem gw_1451 : Cond.code yJx00060_init_d00df cJx00060_init_d00df 2 (Option.none : Option Jvm.ClassFile.FieldType) ∈ ql_W := ql_in (List.mem_of_getElem? (i := 1451) (by decide +kernel)) rfl
theorem gw_1452 : Cond.classLink RJx00060 10 RJ4 ∈ ql_W := ql_in (List.mem_of_getElem? (i := 1452) (by decide +kernel)) rfl
theorem gw_1453 : Cond.methodLink RJx00060 12 yJ4_init_da8c8 ∈ ql_W := ql_in (List.mem_of_getElem? (i := 1453) (by decide +kernel)) rfl
theorem gw_1455 : Cond.methodLink RJx00060 15 yJ4_append_15ec4 ∈ ql_W := ql_in (List.mem_of_getElem? (i := 1455) (by decide +kernel)) rfl
theorem gw_1456 : Cond.methodLink RJx00060 19 yJ4_append_bf812 ∈ ql_W := ql_in (List.mem_of_getElem? (i := 1456) (by decide +kernel)) rfl
theorem gw_1457 : Cond.methodLink RJx00060 22 yJ4_toString_0e30d ∈ ql_W := ql_in (List.mem_of_getElem? (i := 1457) (by decide +kernel)) rfl
theorem gw_1458 : Cond.methodLink RJ5 137 yJ2_fillNull_b72d1 ∈ ql_W := ql_in (List.mem_of_getElem? (i := 1458) (by decide +kernel)) rfl
theorem gw_1459 : Cond.static yJ2_fillNull_b72d1 ∈ ql_W := ql_in (List.mem_of_getElem? (i := 1459) (by decide +kernel)) rfl
theorem gw_1460 : Cond.code yJ2_fillNull_b72d1 cJ2_fillNull_b72d1 3 (Option.none : Option Jvm.ClassFile.FieldType) ∈ ql_W := ql_in (List.mem_of_getElem? (i := 1460) (by decide +kernel)) rfl
theorem gw_1461 : Cond.methodLink RJ2 380 yJ7_fill_eb02e ∈ ql_W := ql_in (List.mem_of_getElem? (i := 1461) (by decide +kernel)) rfl
theorem gw_1462 : Cond.methodLink RX11 318 yJ4_append_bf812 ∈ ql_W := ql_in (List.mem_of_getElem? (i := 1462) (by decide +kernel)) rfl
theorem gw_1463 : Cond.methodLink RX11 322 yJ4_append_cf468 ∈ ql_W := ql_in (List.mem_of_getElem? (i := 1463) (by decide +kernel)) rfl
theorem gw_1464 : Cond.instanceMethod yJ4_append_cf468 ∈ ql_W := ql_in (List.mem_of_getElem? (i := 1464) (by decide +kernel)) rfl
theorem gw_1465 : Cond.selects RJ4 yJ4_append_cf468 yJ4_append_cf468 ∈ ql_W := ql_in (List.mem_of_getElem? (i := 1465) (by decide +kernel)) rfl
theorem gw_1466 : Cond.code yJ4_append_cf468 cJ4_append_cf468 2 (Option.some (Jvm.ClassFile.FieldType.object "java/lang/StringBuilder")) ∈ ql_W := ql_in (List.mem_of_getElem? (i := 1466) (by decide +kernel)) rfl
theorem gw_1467 : Cond.methodLink RJ4 50 yJ5_append_3fe6f ∈ ql_W := ql_in (List.mem_of_getElem? (i := 1467) (by decide +kernel)) rfl
theorem gw_1468 : Cond.instanceMethod yJ5_append_3fe6f ∈ ql_W := ql_in (List.mem_of_getElem? (i := 1468) (by decide +kernel)) rfl
theorem gw_1469 : Cond.code yJ5_append_3fe6f cJ5_append_3fe6f 2 (Option.some (Jvm.ClassFile.FieldType.object "java/lang/AbstractStringBuilder")) ∈ ql_W := ql_in (List.mem_of_getElem? (i := 1469) (by decide +kernel)) rfl
theorem gw_1470 : Cond.methodLink RJ5 191 yJ1_canEncode_fc78d ∈ ql_W := ql_in (List.mem_of_getElem? (i := 1470) (by decide +kernel)) rfl
theorem gw_1471 : Cond.static yJ1_canEncode_fc78d ∈ ql_W := ql_in (List.mem_of_getElem? (i := 1471) (by decide +kernel)) rfl
theorem gw_1472 : Cond.code yJ1_canEncode_fc78d cJ1_canEncode_fc78d 1 (Option.some Jvm.ClassFile.FieldType.boolean) ∈ ql_W := ql_in (List.mem_of_getElem? (i := 1472) (by decide +kernel)) rfl
theorem gw_1473 : Cond.methodLink RJ5 197 yJ2_putCharSB_b72d1 ∈ ql_W := ql_in (List.mem_of_getElem? (i := 1473) (by decide +kernel)) rfl
theorem gw_1474 : Cond.static yJ2_putCharSB_b72d1 ∈ ql_W := ql_in (List.mem_of_getElem? (i := 1474) (by decide +kernel)) rfl
theorem gw_1475 : Cond.code yJ2_putCharSB_b72d1 cJ2_putCharSB_b72d1 3 (Option.none : Option Jvm.ClassFile.FieldType) ∈ ql_W := ql_in (List.mem_of_getElem? (i := 1475) (by decide +kernel)) rfl
theorem gw_1476 : Cond.methodLink RJ2 67 yJ2_checkIndex_2214a ∈ ql_W := ql_in (List.mem_of_getElem? (i := 1476) (by decide +kernel)) rfl
theorem gw_1477 : Cond.static yJ2_checkIndex_2214a ∈ ql_W := ql_in (List.mem_of_getElem? (i := 1477) (by decide +kernel)) rfl
theorem gw_1478 : Cond.code yJ2_checkIndex_2214a cJ2_checkIndex_2214a 2 (Option.none : Option Jvm.ClassFile.FieldType) ∈ ql_W := ql_in (List.mem_of_getElem? (i := 1478) (by decide +kernel)) rfl
theorem gw_1479 : Cond.methodLink RJ2 414 yJ0_checkIndex_df160 ∈ ql_W := ql_in (List.mem_of_getElem? (i := 1479) (by decide +kernel)) rfl
theorem gw_1480 : Cond.static yJ0_checkIndex_df160 ∈ ql_W := ql_in (List.mem_of_getElem? (i := 1480) (by decide +kernel)) rfl
theorem gw_1481 : Cond.code yJ0_checkIndex_df160 cJ0_checkIndex_df160 2 (Option.none : Option Jvm.ClassFile.FieldType) ∈ ql_W := ql_in (List.mem_of_getElem? (i := 1481) (by decide +kernel)) rfl
theorem gw_1482 : Cond.methodLink RJ0 1059 yJ3_checkIndex_8e157 ∈ ql_W := ql_in (List.mem_of_getElem? (i := 1482) (by decide +kernel)) rfl
theorem gw_1483 : Cond.static yJ3_checkIndex_8e157 ∈ ql_W := ql_in (List.mem_of_getElem? (i := 1483) (by decide +kernel)) rfl
theorem gw_1484 : Cond.code yJ3_checkIndex_8e157 cJ3_checkIndex_8e157 3 (Option.some Jvm.ClassFile.FieldType.int) ∈ ql_W := ql_in (List.mem_of_getElem? (i := 1484) (by decide +kernel)) rfl
theorem gw_1485 : Cond.methodLink RX11 325 yX11_appendNotes ∈ ql_W := ql_in (List.mem_of_getElem? (i := 1485) (by decide +kernel)) rfl
theorem gw_1487 : Cond.instanceMethod yX11_appendNotes ∈ ql_W := ql_in (List.mem_of_getElem? (i := 1487) (by decide +kernel)) rfl
theorem gw_1488 : Cond.code yX11_appendNotes cX11_appendNotes 5 (Option.none : Option Jvm.ClassFile.FieldType) ∈ ql_W := ql_in (List.mem_of_getElem? (i := 1488) (by decide +kernel)) rfl
theorem gw_1489 : Cond.methodLink RX11 329 yJ4_length_8abf5 ∈ ql_W := ql_in (List.mem_of_getElem? (i := 1489) (by decide +kernel)) rfl
theorem gw_1490 : Cond.methodLink RL 322 yL_outputAt ∈ ql_W := ql_in (List.mem_of_getElem? (i := 1490) (by decide +kernel)) rfl
theorem gw_1491 : Cond.static yL_outputAt ∈ ql_W := ql_in (List.mem_of_getElem? (i := 1491) (by decide +kernel)) rfl
theorem gw_1492 : Cond.codeWith yL_outputAt cL_outputAt 4 (Option.some Jvm.ClassFile.FieldType.int) [((0 : Nat), (9 : Nat), (12 : Nat), (25 : Nat))] ∈ ql_W := ql_in (List.mem_of_getElem? (i := 1492) (by decide +kernel)) rfl
theorem gw_1493 : Cond.methodLink RL 131 yX11_outputAt ∈ ql_W := ql_in (List.mem_of_getElem? (i := 1493) (by decide +kernel)) rfl
theorem gw_1494 : Cond.instanceMethod yX11_outputAt ∈ ql_W := ql_in (List.mem_of_getElem? (i := 1494) (by decide +kernel)) rfl
theorem gw_1495 : Cond.selects RX11 yX11_outputAt yX11_outputAt ∈ ql_W := ql_in (List.mem_of_getElem? (i := 1495) (by decide +kernel)) rfl
theorem gw_1496 : Cond.code yX11_outputAt cX11_outputAt 2 (Option.some Jvm.ClassFile.FieldType.char) ∈ ql_W := ql_in (List.mem_of_getElem? (i := 1496) (by decide +kernel)) rfl
theorem gw_1497 : Cond.methodLink RX11 332 yJ4_charAt_5068e ∈ ql_W := ql_in (List.mem_of_getElem? (i := 1497) (by decide +kernel)) rfl
theorem gw_1498 : Cond.instanceMethod yJ4_charAt_5068e ∈ ql_W := ql_in (List.mem_of_getElem? (i := 1498) (by decide +kernel)) rfl
theorem gw_1499 : Cond.selects RJ4 yJ4_charAt_5068e yJ4_charAt_5068e ∈ ql_W := ql_in (List.mem_of_getElem? (i := 1499) (by decide +kernel)) rfl
theorem gw_1500 : Cond.code yJ4_charAt_5068e cJ4_charAt_5068e 2 (Option.some Jvm.ClassFile.FieldType.char) ∈ ql_W := ql_in (List.mem_of_getElem? (i := 1500) (by decide +kernel)) rfl
theorem gw_1501 : Cond.methodLink RJ4 329 yJ5_charAt_5068e ∈ ql_W := ql_in (List.mem_of_getElem? (i := 1501) (by decide +kernel)) rfl
theorem gw_1502 : Cond.instanceMethod yJ5_charAt_5068e ∈ ql_W := ql_in (List.mem_of_getElem? (i := 1502) (by decide +kernel)) rfl
theorem gw_1503 : Cond.code yJ5_charAt_5068e cJ5_charAt_5068e 5 (Option.some Jvm.ClassFile.FieldType.char) ∈ ql_W := ql_in (List.mem_of_getElem? (i := 1503) (by decide +kernel)) rfl
theorem gw_1504 : Cond.methodLink RJ5 138 yJ9_min_7cf53 ∈ ql_W := ql_in (List.mem_of_getElem? (i := 1504) (by decide +kernel)) rfl
theorem gw_1505 : Cond.methodLink RJ5 144 yJ0_checkIndex_df160 ∈ ql_W := ql_in (List.mem_of_getElem? (i := 1505) (by decide +kernel)) rfl
theorem gw_1506 : Cond.methodLink RJ5 148 yJ2_getChar_3b067 ∈ ql_W := ql_in (List.mem_of_getElem? (i := 1506) (by decide +kernel)) rfl
theorem gw_1507 : Cond.methodLink RL 325 yL_type ∈ ql_W := ql_in (List.mem_of_getElem? (i := 1507) (by decide +kernel)) rfl
theorem gw_1508 : Cond.static yL_type ∈ ql_W := ql_in (List.mem_of_getElem? (i := 1508) (by decide +kernel)) rfl
theorem gw_1509 : Cond.codeWith yL_type cL_type 4 (Option.some Jvm.ClassFile.FieldType.int) [((0 : Nat), (9 : Nat), (12 : Nat), (13 : Nat)), ((0 : Nat), (9 : Nat), (15 : Nat), (15 : Nat))] ∈ ql_W := ql_in (List.mem_of_getElem? (i := 1509) (by decide +kernel)) rfl
theorem gw_1510 : Cond.methodLink RL 135 yX11_type ∈ ql_W := ql_in (List.mem_of_getElem? (i := 1510) (by decide +kernel)) rfl
theorem gw_1511 : Cond.instanceMethod yX11_type ∈ ql_W := ql_in (List.mem_of_getElem? (i := 1511) (by decide +kernel)) rfl
theorem gw_1512 : Cond.selects RX11 yX11_type yX11_type ∈ ql_W := ql_in (List.mem_of_getElem? (i := 1512) (by decide +kernel)) rfl
theorem gw_1513 : Cond.code yX11_type cX11_type 2 (Option.some Jvm.ClassFile.FieldType.int) ∈ ql_W := ql_in (List.mem_of_getElem? (i := 1513) (by decide +kernel)) rfl
theorem gw_1514 : Cond.methodLink RX11 336 yX8_isFull ∈ ql_W := ql_in (List.mem_of_getElem? (i := 1514) (by decide +kernel)) rfl
theorem gw_1515 : Cond.instanceMethod yX8_isFull ∈ ql_W := ql_in (List.mem_of_getElem? (i := 1515) (by decide +kernel)) rfl
theorem gw_1516 : Cond.selects RX8 yX8_isFull yX8_isFull ∈ ql_W := ql_in (List.mem_of_getElem? (i := 1516) (by decide +kernel)) rfl
theorem gw_1517 : Cond.code yX8_isFull cX8_isFull 1 (Option.some Jvm.ClassFile.FieldType.boolean) ∈ ql_W := ql_in (List.mem_of_getElem? (i := 1517) (by decide +kernel)) rfl
theorem gw_1518 : Cond.methodLink RX8 32 yJ4_length_8abf5 ∈ ql_W := ql_in (List.mem_of_getElem? (i := 1518) (by decide +kernel)) rfl
theorem gw_1519 : Cond.methodLink RX11 339 yX8_append ∈ ql_W := ql_in (List.mem_of_getElem? (i := 1519) (by decide +kernel)) rfl
theorem gw_1520 : Cond.instanceMethod yX8_append ∈ ql_W := ql_in (List.mem_of_getElem? (i := 1520) (by decide +kernel)) rfl
theorem gw_1521 : Cond.selects RX8 yX8_append yX8_append ∈ ql_W := ql_in (List.mem_of_getElem? (i := 1521) (by decide +kernel)) rfl
theorem gw_1522 : Cond.code yX8_append cX8_append 2 (Option.some Jvm.ClassFile.FieldType.int) ∈ ql_W := ql_in (List.mem_of_getElem? (i := 1522) (by decide +kernel)) rfl
theorem gw_1523 : Cond.methodLink RX8 36 yJ4_append_cf468 ∈ ql_W := ql_in (List.mem_of_getElem? (i := 1523) (by decide +kernel)) rfl
theorem gw_1524 : Cond.methodLink RL 329 yL_runScript ∈ ql_W := ql_in (List.mem_of_getElem? (i := 1524) (by decide +kernel)) rfl
theorem gw_1525 : Cond.static yL_runScript ∈ ql_W := ql_in (List.mem_of_getElem? (i := 1525) (by decide +kernel)) rfl
theorem gw_1526 : Cond.codeWith yL_runScript cL_runScript 3 (Option.some Jvm.ClassFile.FieldType.int) [((0 : Nat), (8 : Nat), (11 : Nat), (13 : Nat)), ((0 : Nat), (8 : Nat), (14 : Nat), (15 : Nat))] ∈ ql_W := ql_in (List.mem_of_getElem? (i := 1526) (by decide +kernel)) rfl
theorem gw_1527 : Cond.methodLink RL 139 yX11_runScript ∈ ql_W := ql_in (List.mem_of_getElem? (i := 1527) (by decide +kernel)) rfl
theorem gw_1528 : Cond.instanceMethod yX11_runScript ∈ ql_W := ql_in (List.mem_of_getElem? (i := 1528) (by decide +kernel)) rfl
theorem gw_1529 : Cond.selects RX11 yX11_runScript yX11_runScript ∈ ql_W := ql_in (List.mem_of_getElem? (i := 1529) (by decide +kernel)) rfl
theorem gw_1530 : Cond.code yX11_runScript cX11_runScript 3 (Option.some Jvm.ClassFile.FieldType.int) ∈ ql_W := ql_in (List.mem_of_getElem? (i := 1530) (by decide +kernel)) rfl
theorem gw_1531 : Cond.methodLink RX11 342 yX8_read ∈ ql_W := ql_in (List.mem_of_getElem? (i := 1531) (by decide +kernel)) rfl
theorem gw_1532 : Cond.instanceMethod yX8_read ∈ ql_W := ql_in (List.mem_of_getElem? (i := 1532) (by decide +kernel)) rfl
theorem gw_1533 : Cond.selects RX8 yX8_read yX8_read ∈ ql_W := ql_in (List.mem_of_getElem? (i := 1533) (by decide +kernel)) rfl
theorem gw_1534 : Cond.code yX8_read cX8_read 5 (Option.some Jvm.ClassFile.FieldType.boolean) ∈ ql_W := ql_in (List.mem_of_getElem? (i := 1534) (by decide +kernel)) rfl
theorem gw_1535 : Cond.methodLink RX8 48 yX8_readKeyword ∈ ql_W := ql_in (List.mem_of_getElem? (i := 1535) (by decide +kernel)) rfl
theorem gw_1537 : Cond.instanceMethod yX8_readKeyword ∈ ql_W := ql_in (List.mem_of_getElem? (i := 1537) (by decide +kernel)) rfl
theorem gw_1538 : Cond.code yX8_readKeyword cX8_readKeyword 8 (Option.some Jvm.ClassFile.FieldType.boolean) ∈ ql_W := ql_in (List.mem_of_getElem? (i := 1538) (by decide +kernel)) rfl
theorem gw_1539 : Cond.fieldLink RX8 59 RX8 "KINDS" "[LClauseLedger$Kind;" ∈ ql_W := ql_in (List.mem_of_getElem? (i := 1539) (by decide +kernel)) rfl
theorem gw_1541 : Cond.methodLink RX8 69 yX8_countSame ∈ ql_W := ql_in (List.mem_of_getElem? (i := 1541) (by decide +kernel)) rfl
theorem gw_1543 : Cond.instanceMethod yX8_countSame ∈ ql_W := ql_in (List.mem_of_getElem? (i := 1543) (by decide +kernel)) rfl
theorem gw_1544 : Cond.code yX8_countSame cX8_countSame 3 (Option.some Jvm.ClassFile.FieldType.int) ∈ ql_W := ql_in (List.mem_of_getElem? (i := 1544) (by decide +kernel)) rfl
theorem gw_1545 : Cond.methodLink RX8 79 yJ0_length_8abf5 ∈ ql_W := ql_in (List.mem_of_getElem? (i := 1545) (by decide +kernel)) rfl
theorem gw_1546 : Cond.methodLink RX8 86 yJ0_charAt_5068e ∈ ql_W := ql_in (List.mem_of_getElem? (i := 1546) (by decide +kernel)) rfl
theorem gw_1547 : Cond.instanceMethod yJ0_charAt_5068e ∈ ql_W := ql_in (List.mem_of_getElem? (i := 1547) (by decide +kernel)) rfl
theorem gw_1548 : Cond.selects RJ0 yJ0_charAt_5068e yJ0_charAt_5068e ∈ ql_W := ql_in (List.mem_of_getElem? (i := 1548) (by decide +kernel)) rfl
theorem gw_1549 : Cond.code yJ0_charAt_5068e cJ0_charAt_5068e 2 (Option.some Jvm.ClassFile.FieldType.char) ∈ ql_W := ql_in (List.mem_of_getElem? (i := 1549) (by decide +kernel)) rfl
theorem gw_1550 : Cond.methodLink RJ0 492 yJ0_isLatin1_aae02 ∈ ql_W := ql_in (List.mem_of_getElem? (i := 1550) (by decide +kernel)) rfl
theorem gw_1551 : Cond.instanceMethod yJ0_isLatin1_aae02 ∈ ql_W := ql_in (List.mem_of_getElem? (i := 1551) (by decide +kernel)) rfl
theorem gw_1552 : Cond.selects RJ0 yJ0_isLatin1_aae02 yJ0_isLatin1_aae02 ∈ ql_W := ql_in (List.mem_of_getElem? (i := 1552) (by decide +kernel)) rfl
theorem gw_1553 : Cond.code yJ0_isLatin1_aae02 cJ0_isLatin1_aae02 1 (Option.some Jvm.ClassFile.FieldType.boolean) ∈ ql_W := ql_in (List.mem_of_getElem? (i := 1553) (by decide +kernel)) rfl
theorem gw_1554 : Cond.methodLink RJ0 495 yJ1_charAt_3b067 ∈ ql_W := ql_in (List.mem_of_getElem? (i := 1554) (by decide +kernel)) rfl
theorem gw_1555 : Cond.static yJ1_charAt_3b067 ∈ ql_W := ql_in (List.mem_of_getElem? (i := 1555) (by decide +kernel)) rfl
theorem gw_1556 : Cond.code yJ1_charAt_3b067 cJ1_charAt_3b067 2 (Option.some Jvm.ClassFile.FieldType.char) ∈ ql_W := ql_in (List.mem_of_getElem? (i := 1556) (by decide +kernel)) rfl
theorem gw_1557 : Cond.methodLink RJ1 9 yJ0_checkIndex_df160 ∈ ql_W := ql_in (List.mem_of_getElem? (i := 1557) (by decide +kernel)) rfl
theorem gw_1558 : Cond.methodLink RJ0 498 yJ2_charAt_3b067 ∈ ql_W := ql_in (List.mem_of_getElem? (i := 1558) (by decide +kernel)) rfl
theorem gw_1559 : Cond.static yJ2_charAt_3b067 ∈ ql_W := ql_in (List.mem_of_getElem? (i := 1559) (by decide +kernel)) rfl
theorem gw_1560 : Cond.code yJ2_charAt_3b067 cJ2_charAt_3b067 2 (Option.some Jvm.ClassFile.FieldType.char) ∈ ql_W := ql_in (List.mem_of_getElem? (i := 1560) (by decide +kernel)) rfl
theorem gw_1561 : Cond.methodLink RX8 90 yX8_isNext ∈ ql_W := ql_in (List.mem_of_getElem? (i := 1561) (by decide +kernel)) rfl
theorem gw_1563 : Cond.instanceMethod yX8_isNext ∈ ql_W := ql_in (List.mem_of_getElem? (i := 1563) (by decide +kernel)) rfl
theorem gw_1564 : Cond.code yX8_isNext cX8_isNext 4 (Option.some Jvm.ClassFile.FieldType.boolean) ∈ ql_W := ql_in (List.mem_of_getElem? (i := 1564) (by decide +kernel)) rfl
theorem gw_1565 : Cond.methodLink RX8 117 yJ4_charAt_5068e ∈ ql_W := ql_in (List.mem_of_getElem? (i := 1565) (by decide +kernel)) rfl
theorem gw_1566 : Cond.methodLink RX8 73 yJ9_max_7cf53 ∈ ql_W := ql_in (List.mem_of_getElem? (i := 1566) (by decide +kernel)) rfl
theorem gw_1567 : Cond.methodLink RX8 52 yX8_readForm ∈ ql_W := ql_in (List.mem_of_getElem? (i := 1567) (by decide +kernel)) rfl
theorem gw_1569 : Cond.instanceMethod yX8_readForm ∈ ql_W := ql_in (List.mem_of_getElem? (i := 1569) (by decide +kernel)) rfl
theorem gw_1570 : Cond.code yX8_readForm cX8_readForm 4 (Option.some Jvm.ClassFile.FieldType.boolean) ∈ ql_W := ql_in (List.mem_of_getElem? (i := 1570) (by decide +kernel)) rfl
theorem gw_1571 : Cond.methodLink RX8 97 yX8_readPart ∈ ql_W := ql_in (List.mem_of_getElem? (i := 1571) (by decide +kernel)) rfl
theorem gw_1573 : Cond.instanceMethod yX8_readPart ∈ ql_W := ql_in (List.mem_of_getElem? (i := 1573) (by decide +kernel)) rfl
theorem gw_1574 : Cond.code yX8_readPart cX8_readPart 3 (Option.some Jvm.ClassFile.FieldType.boolean) ∈ ql_W := ql_in (List.mem_of_getElem? (i := 1574) (by decide +kernel)) rfl
theorem gw_1575 : Cond.methodLink RX8 101 yX8_readNumber ∈ ql_W := ql_in (List.mem_of_getElem? (i := 1575) (by decide +kernel)) rfl
theorem gw_1577 : Cond.instanceMethod yX8_readNumber ∈ ql_W := ql_in (List.mem_of_getElem? (i := 1577) (by decide +kernel)) rfl
theorem gw_1578 : Cond.code yX8_readNumber cX8_readNumber 4 (Option.some Jvm.ClassFile.FieldType.int) ∈ ql_W := ql_in (List.mem_of_getElem? (i := 1578) (by decide +kernel)) rfl
theorem gw_1579 : Cond.methodLink RX8 113 yX8_isNextIn ∈ ql_W := ql_in (List.mem_of_getElem? (i := 1579) (by decide +kernel)) rfl
theorem gw_1581 : Cond.instanceMethod yX8_isNextIn ∈ ql_W := ql_in (List.mem_of_getElem? (i := 1581) (by decide +kernel)) rfl
theorem gw_1582 : Cond.code yX8_isNextIn cX8_isNextIn 3 (Option.some Jvm.ClassFile.FieldType.boolean) ∈ ql_W := ql_in (List.mem_of_getElem? (i := 1582) (by decide +kernel)) rfl
theorem gw_1583 : Cond.methodLink RX8 110 yX8_readNote ∈ ql_W := ql_in (List.mem_of_getElem? (i := 1583) (by decide +kernel)) rfl
theorem gw_1585 : Cond.instanceMethod yX8_readNote ∈ ql_W := ql_in (List.mem_of_getElem? (i := 1585) (by decide +kernel)) rfl
theorem gw_1586 : Cond.code yX8_readNote cX8_readNote 2 (Option.some Jvm.ClassFile.FieldType.boolean) ∈ ql_W := ql_in (List.mem_of_getElem? (i := 1586) (by decide +kernel)) rfl
theorem gw_1587 : Cond.methodLink RX8 55 yX8_readSign ∈ ql_W := ql_in (List.mem_of_getElem? (i := 1587) (by decide +kernel)) rfl
theorem gw_1589 : Cond.instanceMethod yX8_readSign ∈ ql_W := ql_in (List.mem_of_getElem? (i := 1589) (by decide +kernel)) rfl
theorem gw_1590 : Cond.code yX8_readSign cX8_readSign 2 (Option.some Jvm.ClassFile.FieldType.boolean) ∈ ql_W := ql_in (List.mem_of_getElem? (i := 1590) (by decide +kernel)) rfl
theorem gw_1591 : Cond.methodLink RX11 344 yX8_empty ∈ ql_W := ql_in (List.mem_of_getElem? (i := 1591) (by decide +kernel)) rfl
theorem gw_1592 : Cond.instanceMethod yX8_empty ∈ ql_W := ql_in (List.mem_of_getElem? (i := 1592) (by decide +kernel)) rfl
theorem gw_1593 : Cond.selects RX8 yX8_empty yX8_empty ∈ ql_W := ql_in (List.mem_of_getElem? (i := 1593) (by decide +kernel)) rfl
theorem gw_1594 : Cond.code yX8_empty cX8_empty 1 (Option.none : Option Jvm.ClassFile.FieldType) ∈ ql_W := ql_in (List.mem_of_getElem? (i := 1594) (by decide +kernel)) rfl
theorem gw_1595 : Cond.methodLink RX8 40 yJ4_setLength_d00df ∈ ql_W := ql_in (List.mem_of_getElem? (i := 1595) (by decide +kernel)) rfl
theorem gw_1596 : Cond.methodLink RX11 350 yX8_applyTo ∈ ql_W := ql_in (List.mem_of_getElem? (i := 1596) (by decide +kernel)) rfl
theorem gw_1597 : Cond.instanceMethod yX8_applyTo ∈ ql_W := ql_in (List.mem_of_getElem? (i := 1597) (by decide +kernel)) rfl
theorem gw_1598 : Cond.selects RX8 yX8_applyTo yX8_applyTo ∈ ql_W := ql_in (List.mem_of_getElem? (i := 1598) (by decide +kernel)) rfl
theorem gw_1599 : Cond.code yX8_applyTo cX8_applyTo 3 (Option.some Jvm.ClassFile.FieldType.int) ∈ ql_W := ql_in (List.mem_of_getElem? (i := 1599) (by decide +kernel)) rfl
theorem gw_1600 : Cond.methodLink RX8 44 yX4_applyTo ∈ ql_W := ql_in (List.mem_of_getElem? (i := 1600) (by decide +kernel)) rfl
theorem gw_1601 : Cond.instanceMethod yX4_applyTo ∈ ql_W := ql_in (List.mem_of_getElem? (i := 1601) (by decide +kernel)) rfl
theorem gw_1602 : Cond.selects RX4 yX4_applyTo yX4_applyTo ∈ ql_W := ql_in (List.mem_of_getElem? (i := 1602) (by decide +kernel)) rfl
theorem gw_1603 : Cond.code yX4_applyTo cX4_applyTo 2 (Option.some Jvm.ClassFile.FieldType.int) ∈ ql_W := ql_in (List.mem_of_getElem? (i := 1603) (by decide +kernel)) rfl
theorem gw_1604 : Cond.fieldLink RX4 29 RX0 "$SwitchMap$ClauseLedger$Kind" "[I" ∈ ql_W := ql_in (List.mem_of_getElem? (i := 1604) (by decide +kernel)) rfl
theorem gw_1606 : Cond.methodLink RX4 35 ⟨"ClauseLedger$Kind", "ordinal", "()I"⟩ ∈ ql_W := ql_in (List.mem_of_getElem? (i := 1606) (by decide +kernel)) rfl
theorem gw_1607 : Cond.sameMethod RX7 RJx29ce0 "ordinal" "()I" ∈ ql_W := ql_in (List.mem_of_getElem? (i := 1607) (by decide +kernel)) rfl
theorem gw_1609 : Cond.selects RX7 ⟨"ClauseLedger$Kind", "ordinal", "()I"⟩ yJx29ce0_ordinal_8abf5 ∈ ql_W := ql_in (List.mem_of_getElem? (i := 1609) (by decide +kernel)) rfl
theorem gw_1610 : Cond.instanceMethod yJx29ce0_ordinal_8abf5 ∈ ql_W := ql_in (List.mem_of_getElem? (i := 1610) (by decide +kernel)) rfl
theorem gw_1611 : Cond.code yJx29ce0_ordinal_8abf5 cJx29ce0_ordinal_8abf5 1 (Option.some Jvm.ClassFile.FieldType.int) ∈ ql_W := ql_in (List.mem_of_getElem? (i := 1611) (by decide +kernel)) rfl
theorem gw_1612 : Cond.methodLink RX4 39 yX1_tryAdd ∈ ql_W := ql_in (List.mem_of_getElem? (i := 1612) (by decide +kernel)) rfl
theorem gw_1613 : Cond.methodLink RX4 45 yX1_tryInsert ∈ ql_W := ql_in (List.mem_of_getElem? (i := 1613) (by decide +kernel)) rfl
theorem gw_1614 : Cond.methodLink RX4 49 yX1_tryReplace ∈ ql_W := ql_in (List.mem_of_getElem? (i := 1614) (by decide +kernel)) rfl
theorem gw_1615 : Cond.methodLink RX4 52 yX1_tryDelete ∈ ql_W := ql_in (List.mem_of_getElem? (i := 1615) (by decide +kernel)) rfl
theorem gw_1616 : Cond.methodLink RX4 56 yX1_trySunset ∈ ql_W := ql_in (List.mem_of_getElem? (i := 1616) (by decide +kernel)) rfl
theorem gw_1617 : Cond.methodLink RX4 59 yX1_tryCite ∈ ql_W := ql_in (List.mem_of_getElem? (i := 1617) (by decide +kernel)) rfl
theorem gw_1618 : Cond.methodLink RX4 62 yX1_tryUncite ∈ ql_W := ql_in (List.mem_of_getElem? (i := 1618) (by decide +kernel)) rfl
theorem gw_1619 : Cond.methodLink RX4 65 yX1_tryRepeal ∈ ql_W := ql_in (List.mem_of_getElem? (i := 1619) (by decide +kernel)) rfl
theorem gw_1620 : Cond.methodLink RX4 69 yX1_tryAdvance ∈ ql_W := ql_in (List.mem_of_getElem? (i := 1620) (by decide +kernel)) rfl
theorem gw_1621 : Cond.methodLink RX4 72 yX1_makeEdition ∈ ql_W := ql_in (List.mem_of_getElem? (i := 1621) (by decide +kernel)) rfl
theorem gw_1622 : Cond.methodLink RX11 354 yX6_abandon ∈ ql_W := ql_in (List.mem_of_getElem? (i := 1622) (by decide +kernel)) rfl
theorem gw_1623 : Cond.instanceMethod yX6_abandon ∈ ql_W := ql_in (List.mem_of_getElem? (i := 1623) (by decide +kernel)) rfl
theorem gw_1624 : Cond.selects RX6 yX6_abandon yX6_abandon ∈ ql_W := ql_in (List.mem_of_getElem? (i := 1624) (by decide +kernel)) rfl
theorem gw_1625 : Cond.code yX6_abandon cX6_abandon 2 (Option.none : Option Jvm.ClassFile.FieldType) ∈ ql_W := ql_in (List.mem_of_getElem? (i := 1625) (by decide +kernel)) rfl
theorem gw_1626 : Cond.methodLink RL 333 yL_errorPosition ∈ ql_W := ql_in (List.mem_of_getElem? (i := 1626) (by decide +kernel)) rfl
theorem gw_1627 : Cond.static yL_errorPosition ∈ ql_W := ql_in (List.mem_of_getElem? (i := 1627) (by decide +kernel)) rfl
theorem gw_1628 : Cond.codeWith yL_errorPosition cL_errorPosition 3 (Option.some Jvm.ClassFile.FieldType.int) [((0 : Nat), (8 : Nat), (11 : Nat), (23 : Nat))] ∈ ql_W := ql_in (List.mem_of_getElem? (i := 1628) (by decide +kernel)) rfl
theorem gw_1629 : Cond.methodLink RL 143 yX11_errorPosition ∈ ql_W := ql_in (List.mem_of_getElem? (i := 1629) (by decide +kernel)) rfl
theorem gw_1630 : Cond.instanceMethod yX11_errorPosition ∈ ql_W := ql_in (List.mem_of_getElem? (i := 1630) (by decide +kernel)) rfl
theorem gw_1631 : Cond.selects RX11 yX11_errorPosition yX11_errorPosition ∈ ql_W := ql_in (List.mem_of_getElem? (i := 1631) (by decide +kernel)) rfl
theorem gw_1632 : Cond.code yX11_errorPosition cX11_errorPosition 1 (Option.some Jvm.ClassFile.FieldType.int) ∈ ql_W := ql_in (List.mem_of_getElem? (i := 1632) (by decide +kernel)) rfl
theorem gw_1633 : Cond.methodLink RL 336 yL_failedCommand ∈ ql_W := ql_in (List.mem_of_getElem? (i := 1633) (by decide +kernel)) rfl
theorem gw_1634 : Cond.static yL_failedCommand ∈ ql_W := ql_in (List.mem_of_getElem? (i := 1634) (by decide +kernel)) rfl
theorem gw_1635 : Cond.codeWith yL_failedCommand cL_failedCommand 3 (Option.some Jvm.ClassFile.FieldType.int) [((0 : Nat), (8 : Nat), (11 : Nat), (23 : Nat))] ∈ ql_W := ql_in (List.mem_of_getElem? (i := 1635) (by decide +kernel)) rfl
theorem gw_1636 : Cond.methodLink RL 146 yX11_failedCommand ∈ ql_W := ql_in (List.mem_of_getElem? (i := 1636) (by decide +kernel)) rfl
theorem gw_1637 : Cond.instanceMethod yX11_failedCommand ∈ ql_W := ql_in (List.mem_of_getElem? (i := 1637) (by decide +kernel)) rfl
theorem gw_1638 : Cond.selects RX11 yX11_failedCommand yX11_failedCommand ∈ ql_W := ql_in (List.mem_of_getElem? (i := 1638) (by decide +kernel)) rfl
theorem gw_1639 : Cond.code yX11_failedCommand cX11_failedCommand 1 (Option.some Jvm.ClassFile.FieldType.int) ∈ ql_W := ql_in (List.mem_of_getElem? (i := 1639) (by decide +kernel)) rfl
theorem gw_1640 : Cond.methodLink RL 339 yL_undo ∈ ql_W := ql_in (List.mem_of_getElem? (i := 1640) (by decide +kernel)) rfl
theorem gw_1641 : Cond.static yL_undo ∈ ql_W := ql_in (List.mem_of_getElem? (i := 1641) (by decide +kernel)) rfl
theorem gw_1642 : Cond.codeWith yL_undo cL_undo 3 (Option.some Jvm.ClassFile.FieldType.int) [((0 : Nat), (8 : Nat), (11 : Nat), (23 : Nat))] ∈ ql_W := ql_in (List.mem_of_getElem? (i := 1642) (by decide +kernel)) rfl
theorem gw_1643 : Cond.methodLink RL 149 yX11_undo ∈ ql_W := ql_in (List.mem_of_getElem? (i := 1643) (by decide +kernel)) rfl
theorem gw_1644 : Cond.instanceMethod yX11_undo ∈ ql_W := ql_in (List.mem_of_getElem? (i := 1644) (by decide +kernel)) rfl
theorem gw_1645 : Cond.selects RX11 yX11_undo yX11_undo ∈ ql_W := ql_in (List.mem_of_getElem? (i := 1645) (by decide +kernel)) rfl
theorem gw_1646 : Cond.code yX11_undo cX11_undo 1 (Option.some Jvm.ClassFile.FieldType.int) ∈ ql_W := ql_in (List.mem_of_getElem? (i := 1646) (by decide +kernel)) rfl
theorem gw_1647 : Cond.methodLink RX11 363 yX6_stepBack ∈ ql_W := ql_in (List.mem_of_getElem? (i := 1647) (by decide +kernel)) rfl
theorem gw_1648 : Cond.instanceMethod yX6_stepBack ∈ ql_W := ql_in (List.mem_of_getElem? (i := 1648) (by decide +kernel)) rfl
theorem gw_1649 : Cond.selects RX6 yX6_stepBack yX6_stepBack ∈ ql_W := ql_in (List.mem_of_getElem? (i := 1649) (by decide +kernel)) rfl
theorem gw_1650 : Cond.code yX6_stepBack cX6_stepBack 2 (Option.none : Option Jvm.ClassFile.FieldType) ∈ ql_W := ql_in (List.mem_of_getElem? (i := 1650) (by decide +kernel)) rfl
theorem gw_1651 : Cond.methodLink RL 346 yL_restore ∈ ql_W := ql_in (List.mem_of_getElem? (i := 1651) (by decide +kernel)) rfl
theorem gw_1652 : Cond.static yL_restore ∈ ql_W := ql_in (List.mem_of_getElem? (i := 1652) (by decide +kernel)) rfl
theorem gw_1653 : Cond.codeWith yL_restore cL_restore 3 (Option.some Jvm.ClassFile.FieldType.int) [((0 : Nat), (8 : Nat), (11 : Nat), (15 : Nat))] ∈ ql_W := ql_in (List.mem_of_getElem? (i := 1653) (by decide +kernel)) rfl
theorem gw_1654 : Cond.methodLink RL 152 yX11_restore ∈ ql_W := ql_in (List.mem_of_getElem? (i := 1654) (by decide +kernel)) rfl
theorem gw_1655 : Cond.instanceMethod yX11_restore ∈ ql_W := ql_in (List.mem_of_getElem? (i := 1655) (by decide +kernel)) rfl
theorem gw_1656 : Cond.selects RX11 yX11_restore yX11_restore ∈ ql_W := ql_in (List.mem_of_getElem? (i := 1656) (by decide +kernel)) rfl
theorem gw_1657 : Cond.code yX11_restore cX11_restore 1 (Option.some Jvm.ClassFile.FieldType.int) ∈ ql_W := ql_in (List.mem_of_getElem? (i := 1657) (by decide +kernel)) rfl
theorem gw_1658 : Cond.methodLink RX11 369 yX6_clear ∈ ql_W := ql_in (List.mem_of_getElem? (i := 1658) (by decide +kernel)) rfl
theorem gw_1659 : Cond.instanceMethod yX6_clear ∈ ql_W := ql_in (List.mem_of_getElem? (i := 1659) (by decide +kernel)) rfl
theorem gw_1660 : Cond.selects RX6 yX6_clear yX6_clear ∈ ql_W := ql_in (List.mem_of_getElem? (i := 1660) (by decide +kernel)) rfl
theorem gw_1661 : Cond.code yX6_clear cX6_clear 1 (Option.none : Option Jvm.ClassFile.FieldType) ∈ ql_W := ql_in (List.mem_of_getElem? (i := 1661) (by decide +kernel)) rfl
theorem gw_1662 : Cond.classLink RL 156 RX12 ∈ ql_W := ql_in (List.mem_of_getElem? (i := 1662) (by decide +kernel)) rfl
theorem gw_1663 : Cond.instantiable RX12 19 ∈ ql_W := ql_in (List.mem_of_getElem? (i := 1663) (by decide +kernel)) rfl
theorem gw_1664 : Cond.methodLink RL 158 yX12_init ∈ ql_W := ql_in (List.mem_of_getElem? (i := 1664) (by decide +kernel)) rfl
theorem gw_1665 : Cond.instanceMethod yX12_init ∈ ql_W := ql_in (List.mem_of_getElem? (i := 1665) (by decide +kernel)) rfl
theorem gw_1666 : Cond.code yX12_init cX12_init 1 (Option.none : Option Jvm.ClassFile.FieldType) ∈ ql_W := ql_in (List.mem_of_getElem? (i := 1666) (by decide +kernel)) rfl
theorem gw_1667 : Cond.methodLink RX12 1 ⟨"java/lang/Object", "<init>", "()V"⟩ ∈ ql_W := ql_in (List.mem_of_getElem? (i := 1667) (by decide +kernel)) rfl
theorem gw_1668 : Cond.fieldLink RX12 7 RX12 "g" "[I" ∈ ql_W := ql_in (List.mem_of_getElem? (i := 1668) (by decide +kernel)) rfl
theorem gw_1669 : Cond.fieldLink RX12 13 RX12 "kept" "[I" ∈ ql_W := ql_in (List.mem_of_getElem? (i := 1669) (by decide +kernel)) rfl
theorem gw_1670 : Cond.fieldLink RX12 16 RX12 "saved" "[I" ∈ ql_W := ql_in (List.mem_of_getElem? (i := 1670) (by decide +kernel)) rfl
theorem gw_1671 : Cond.fieldLink RX12 19 RX12 "before" "[I" ∈ ql_W := ql_in (List.mem_of_getElem? (i := 1671) (by decide +kernel)) rfl
theorem gw_1672 : Cond.fieldLink RX12 278 RX12 "isSaved" "Z" ∈ ql_W := ql_in (List.mem_of_getElem? (i := 1672) (by decide +kernel)) rfl
theorem gw_1673 : Cond.fieldLink RX12 52 RX12 "changes" "I" ∈ ql_W := ql_in (List.mem_of_getElem? (i := 1673) (by decide +kernel)) rfl
theorem gw_1674 : Cond.fieldLink RX12 48 RX12 "isWithin" "Z" ∈ ql_W := ql_in (List.mem_of_getElem? (i := 1674) (by decide +kernel)) rfl
theorem gw_1675 : Cond.fieldLink RX12 45 RX12 "code" "I" ∈ ql_W := ql_in (List.mem_of_getElem? (i := 1675) (by decide +kernel)) rfl
theorem gw_1676 : Cond.fieldLink RX12 22 RX12 "input" "[I" ∈ ql_W := ql_in (List.mem_of_getElem? (i := 1676) (by decide +kernel)) rfl
theorem gw_1677 : Cond.fieldLink RX12 179 RX12 "typed" "I" ∈ ql_W := ql_in (List.mem_of_getElem? (i := 1677) (by decide +kernel)) rfl
theorem gw_1678 : Cond.fieldLink RX12 25 RX12 "error" "I" ∈ ql_W := ql_in (List.mem_of_getElem? (i := 1678) (by decide +kernel)) rfl
theorem gw_1679 : Cond.fieldLink RX12 29 RX12 "failed" "I" ∈ ql_W := ql_in (List.mem_of_getElem? (i := 1679) (by decide +kernel)) rfl
theorem gw_1680 : Cond.fieldLink RX12 32 RX12 "signs" "[C" ∈ ql_W := ql_in (List.mem_of_getElem? (i := 1680) (by decide +kernel)) rfl
theorem gw_1681 : Cond.fieldLink RX12 170 RX12 "signMany" "I" ∈ ql_W := ql_in (List.mem_of_getElem? (i := 1681) (by decide +kernel)) rfl
theorem gw_1682 : Cond.fieldLink RX12 36 RX12 "numbers" "[I" ∈ ql_W := ql_in (List.mem_of_getElem? (i := 1682) (by decide +kernel)) rfl
theorem gw_1683 : Cond.fieldLink RX12 39 RX12 "row" "[I" ∈ ql_W := ql_in (List.mem_of_getElem? (i := 1683) (by decide +kernel)) rfl
theorem gw_1684 : Cond.fieldLink RX12 182 RX12 "at" "I" ∈ ql_W := ql_in (List.mem_of_getElem? (i := 1684) (by decide +kernel)) rfl
theorem gw_1685 : Cond.fieldLink RX12 42 RX12 "told" "[I" ∈ ql_W := ql_in (List.mem_of_getElem? (i := 1685) (by decide +kernel)) rfl
theorem gw_1686 : Cond.fieldLink RX12 188 RX12 "toldMany" "I" ∈ ql_W := ql_in (List.mem_of_getElem? (i := 1686) (by decide +kernel)) rfl
theorem gw_1687 : Cond.laysFinal RX12 RX12 "g" "[I" ∈ ql_W := ql_in (List.mem_of_getElem? (i := 1687) (by decide +kernel)) rfl
theorem gw_1689 : Cond.laysFinal RX12 RX12 "kept" "[I" ∈ ql_W := ql_in (List.mem_of_getElem? (i := 1689) (by decide +kernel)) rfl
theorem gw_1691 : Cond.laysFinal RX12 RX12 "saved" "[I" ∈ ql_W := ql_in (List.mem_of_getElem? (i := 1691) (by decide +kernel)) rfl
theorem gw_1693 : Cond.laysFinal RX12 RX12 "before" "[I" ∈ ql_W := ql_in (List.mem_of_getElem? (i := 1693) (by decide +kernel)) rfl
theorem gw_1695 : Cond.lays RX12 RX12 "isSaved" "Z" ∈ ql_W := ql_in (List.mem_of_getElem? (i := 1695) (by decide +kernel)) rfl
theorem gw_1697 : Cond.lays RX12 RX12 "changes" "I" ∈ ql_W := ql_in (List.mem_of_getElem? (i := 1697) (by decide +kernel)) rfl
theorem gw_1699 : Cond.lays RX12 RX12 "isWithin" "Z" ∈ ql_W := ql_in (List.mem_of_getElem? (i := 1699) (by decide +kernel)) rfl
theorem gw_1701 : Cond.lays RX12 RX12 "code" "I" ∈ ql_W := ql_in (List.mem_of_getElem? (i := 1701) (by decide +kernel)) rfl
theorem gw_1703 : Cond.laysFinal RX12 RX12 "input" "[I" ∈ ql_W := ql_in (List.mem_of_getElem? (i := 1703) (by decide +kernel)) rfl
theorem gw_1705 : Cond.lays RX12 RX12 "typed" "I" ∈ ql_W := ql_in (List.mem_of_getElem? (i := 1705) (by decide +kernel)) rfl
theorem gw_1707 : Cond.lays RX12 RX12 "error" "I" ∈ ql_W := ql_in (List.mem_of_getElem? (i := 1707) (by decide +kernel)) rfl
theorem gw_1709 : Cond.lays RX12 RX12 "failed" "I" ∈ ql_W := ql_in (List.mem_of_getElem? (i := 1709) (by decide +kernel)) rfl
theorem gw_1711 : Cond.laysFinal RX12 RX12 "signs" "[C" ∈ ql_W := ql_in (List.mem_of_getElem? (i := 1711) (by decide +kernel)) rfl
theorem gw_1713 : Cond.lays RX12 RX12 "signMany" "I" ∈ ql_W := ql_in (List.mem_of_getElem? (i := 1713) (by decide +kernel)) rfl
theorem gw_1715 : Cond.laysFinal RX12 RX12 "numbers" "[I" ∈ ql_W := ql_in (List.mem_of_getElem? (i := 1715) (by decide +kernel)) rfl
theorem gw_1717 : Cond.laysFinal RX12 RX12 "row" "[I" ∈ ql_W := ql_in (List.mem_of_getElem? (i := 1717) (by decide +kernel)) rfl
theorem gw_1719 : Cond.lays RX12 RX12 "at" "I" ∈ ql_W := ql_in (List.mem_of_getElem? (i := 1719) (by decide +kernel)) rfl
theorem gw_1721 : Cond.laysFinal RX12 RX12 "told" "[I" ∈ ql_W := ql_in (List.mem_of_getElem? (i := 1721) (by decide +kernel)) rfl
theorem gw_1723 : Cond.lays RX12 RX12 "toldMany" "I" ∈ ql_W := ql_in (List.mem_of_getElem? (i := 1723) (by decide +kernel)) rfl
theorem gw_1725 : Cond.superclass RX12 "java/lang/Object" ∈ ql_W := ql_in (List.mem_of_getElem? (i := 1725) (by decide +kernel)) rfl
theorem gw_1726 : Cond.arrayClass Jvm.ClassFile.FieldType.char ∈ ql_W := ql_in (List.mem_of_getElem? (i := 1726) (by decide +kernel)) rfl
theorem gw_1727 : Cond.methodLink RL 165 yX12_thrown ∈ ql_W := ql_in (List.mem_of_getElem? (i := 1727) (by decide +kernel)) rfl
theorem gw_1728 : Cond.instanceMethod yX12_thrown ∈ ql_W := ql_in (List.mem_of_getElem? (i := 1728) (by decide +kernel)) rfl
theorem gw_1729 : Cond.selects RX12 yX12_thrown yX12_thrown ∈ ql_W := ql_in (List.mem_of_getElem? (i := 1729) (by decide +kernel)) rfl
theorem gw_1730 : Cond.code yX12_thrown cX12_thrown 1 (Option.some Jvm.ClassFile.FieldType.int) ∈ ql_W := ql_in (List.mem_of_getElem? (i := 1730) (by decide +kernel)) rfl
theorem gw_1731 : Cond.methodLink RL 164 yX12_addClause ∈ ql_W := ql_in (List.mem_of_getElem? (i := 1731) (by decide +kernel)) rfl
theorem gw_1732 : Cond.instanceMethod yX12_addClause ∈ ql_W := ql_in (List.mem_of_getElem? (i := 1732) (by decide +kernel)) rfl
theorem gw_1733 : Cond.selects RX12 yX12_addClause yX12_addClause ∈ ql_W := ql_in (List.mem_of_getElem? (i := 1733) (by decide +kernel)) rfl
theorem gw_1734 : Cond.code yX12_addClause cX12_addClause 5 (Option.some Jvm.ClassFile.FieldType.int) ∈ ql_W := ql_in (List.mem_of_getElem? (i := 1734) (by decide +kernel)) rfl
theorem gw_1735 : Cond.methodLink RX12 71 yX12_in ∈ ql_W := ql_in (List.mem_of_getElem? (i := 1735) (by decide +kernel)) rfl
theorem gw_1736 : Cond.static yX12_in ∈ ql_W := ql_in (List.mem_of_getElem? (i := 1736) (by decide +kernel)) rfl
theorem gw_1737 : Cond.code yX12_in cX12_in 3 (Option.some Jvm.ClassFile.FieldType.boolean) ∈ ql_W := ql_in (List.mem_of_getElem? (i := 1737) (by decide +kernel)) rfl
theorem gw_1738 : Cond.methodLink RX12 79 yX12_isNote ∈ ql_W := ql_in (List.mem_of_getElem? (i := 1738) (by decide +kernel)) rfl
theorem gw_1739 : Cond.static yX12_isNote ∈ ql_W := ql_in (List.mem_of_getElem? (i := 1739) (by decide +kernel)) rfl
theorem gw_1740 : Cond.code yX12_isNote cX12_isNote 1 (Option.some Jvm.ClassFile.FieldType.boolean) ∈ ql_W := ql_in (List.mem_of_getElem? (i := 1740) (by decide +kernel)) rfl
theorem gw_1741 : Cond.methodLink RX12 82 yX12_withSection ∈ ql_W := ql_in (List.mem_of_getElem? (i := 1741) (by decide +kernel)) rfl
theorem gw_1743 : Cond.instanceMethod yX12_withSection ∈ ql_W := ql_in (List.mem_of_getElem? (i := 1743) (by decide +kernel)) rfl
theorem gw_1744 : Cond.code yX12_withSection cX12_withSection 3 (Option.some Jvm.ClassFile.FieldType.int) ∈ ql_W := ql_in (List.mem_of_getElem? (i := 1744) (by decide +kernel)) rfl
theorem gw_1745 : Cond.methodLink RX12 59 yX12_of ∈ ql_W := ql_in (List.mem_of_getElem? (i := 1745) (by decide +kernel)) rfl
theorem gw_1747 : Cond.instanceMethod yX12_of ∈ ql_W := ql_in (List.mem_of_getElem? (i := 1747) (by decide +kernel)) rfl
theorem gw_1748 : Cond.code yX12_of cX12_of 3 (Option.some Jvm.ClassFile.FieldType.int) ∈ ql_W := ql_in (List.mem_of_getElem? (i := 1748) (by decide +kernel)) rfl
theorem gw_1749 : Cond.methodLink RX12 67 yX12_fails ∈ ql_W := ql_in (List.mem_of_getElem? (i := 1749) (by decide +kernel)) rfl
theorem gw_1751 : Cond.instanceMethod yX12_fails ∈ ql_W := ql_in (List.mem_of_getElem? (i := 1751) (by decide +kernel)) rfl
theorem gw_1752 : Cond.code yX12_fails cX12_fails 2 (Option.some Jvm.ClassFile.FieldType.boolean) ∈ ql_W := ql_in (List.mem_of_getElem? (i := 1752) (by decide +kernel)) rfl
theorem gw_1753 : Cond.methodLink RX12 85 yX12_keeps ∈ ql_W := ql_in (List.mem_of_getElem? (i := 1753) (by decide +kernel)) rfl
theorem gw_1755 : Cond.instanceMethod yX12_keeps ∈ ql_W := ql_in (List.mem_of_getElem? (i := 1755) (by decide +kernel)) rfl
theorem gw_1756 : Cond.code yX12_keeps cX12_keeps 3 (Option.none : Option Jvm.ClassFile.FieldType) ∈ ql_W := ql_in (List.mem_of_getElem? (i := 1756) (by decide +kernel)) rfl
theorem gw_1757 : Cond.methodLink RX12 55 yX12_copies ∈ ql_W := ql_in (List.mem_of_getElem? (i := 1757) (by decide +kernel)) rfl
theorem gw_1758 : Cond.static yX12_copies ∈ ql_W := ql_in (List.mem_of_getElem? (i := 1758) (by decide +kernel)) rfl
theorem gw_1759 : Cond.code yX12_copies cX12_copies 5 (Option.none : Option Jvm.ClassFile.FieldType) ∈ ql_W := ql_in (List.mem_of_getElem? (i := 1759) (by decide +kernel)) rfl
theorem gw_1760 : Cond.methodLink RX12 75 yX12_lays ∈ ql_W := ql_in (List.mem_of_getElem? (i := 1760) (by decide +kernel)) rfl
theorem gw_1762 : Cond.instanceMethod yX12_lays ∈ ql_W := ql_in (List.mem_of_getElem? (i := 1762) (by decide +kernel)) rfl
theorem gw_1763 : Cond.code yX12_lays cX12_lays 4 (Option.none : Option Jvm.ClassFile.FieldType) ∈ ql_W := ql_in (List.mem_of_getElem? (i := 1763) (by decide +kernel)) rfl
theorem gw_1764 : Cond.methodLink RX12 89 yX12_puts ∈ ql_W := ql_in (List.mem_of_getElem? (i := 1764) (by decide +kernel)) rfl
theorem gw_1766 : Cond.instanceMethod yX12_puts ∈ ql_W := ql_in (List.mem_of_getElem? (i := 1766) (by decide +kernel)) rfl
theorem gw_1767 : Cond.code yX12_puts cX12_puts 7 (Option.none : Option Jvm.ClassFile.FieldType) ∈ ql_W := ql_in (List.mem_of_getElem? (i := 1767) (by decide +kernel)) rfl
theorem gw_1768 : Cond.methodLink RL 171 yX12_insertNote ∈ ql_W := ql_in (List.mem_of_getElem? (i := 1768) (by decide +kernel)) rfl
theorem gw_1769 : Cond.instanceMethod yX12_insertNote ∈ ql_W := ql_in (List.mem_of_getElem? (i := 1769) (by decide +kernel)) rfl
theorem gw_1770 : Cond.selects RX12 yX12_insertNote yX12_insertNote ∈ ql_W := ql_in (List.mem_of_getElem? (i := 1770) (by decide +kernel)) rfl
theorem gw_1771 : Cond.code yX12_insertNote cX12_insertNote 8 (Option.some Jvm.ClassFile.FieldType.int) ∈ ql_W := ql_in (List.mem_of_getElem? (i := 1771) (by decide +kernel)) rfl
theorem gw_1772 : Cond.methodLink RX12 63 yX12_placeOf ∈ ql_W := ql_in (List.mem_of_getElem? (i := 1772) (by decide +kernel)) rfl
theorem gw_1774 : Cond.instanceMethod yX12_placeOf ∈ ql_W := ql_in (List.mem_of_getElem? (i := 1774) (by decide +kernel)) rfl
theorem gw_1775 : Cond.code yX12_placeOf cX12_placeOf 3 (Option.some Jvm.ClassFile.FieldType.int) ∈ ql_W := ql_in (List.mem_of_getElem? (i := 1775) (by decide +kernel)) rfl
theorem gw_1776 : Cond.methodLink RX12 100 yX12_long0 ∈ ql_W := ql_in (List.mem_of_getElem? (i := 1776) (by decide +kernel)) rfl
theorem gw_1778 : Cond.instanceMethod yX12_long0 ∈ ql_W := ql_in (List.mem_of_getElem? (i := 1778) (by decide +kernel)) rfl
theorem gw_1779 : Cond.code yX12_long0 cX12_long0 2 (Option.some Jvm.ClassFile.FieldType.int) ∈ ql_W := ql_in (List.mem_of_getElem? (i := 1779) (by decide +kernel)) rfl
theorem gw_1780 : Cond.methodLink RX12 93 yX12_lastVersion ∈ ql_W := ql_in (List.mem_of_getElem? (i := 1780) (by decide +kernel)) rfl
theorem gw_1782 : Cond.instanceMethod yX12_lastVersion ∈ ql_W := ql_in (List.mem_of_getElem? (i := 1782) (by decide +kernel)) rfl
theorem gw_1783 : Cond.code yX12_lastVersion cX12_lastVersion 2 (Option.some Jvm.ClassFile.FieldType.int) ∈ ql_W := ql_in (List.mem_of_getElem? (i := 1783) (by decide +kernel)) rfl
theorem gw_1784 : Cond.methodLink RX12 103 yX12_isClosed ∈ ql_W := ql_in (List.mem_of_getElem? (i := 1784) (by decide +kernel)) rfl
theorem gw_1786 : Cond.instanceMethod yX12_isClosed ∈ ql_W := ql_in (List.mem_of_getElem? (i := 1786) (by decide +kernel)) rfl
theorem gw_1787 : Cond.code yX12_isClosed cX12_isClosed 2 (Option.some Jvm.ClassFile.FieldType.boolean) ∈ ql_W := ql_in (List.mem_of_getElem? (i := 1787) (by decide +kernel)) rfl
theorem gw_1788 : Cond.methodLink RX12 96 yX12_isValid ∈ ql_W := ql_in (List.mem_of_getElem? (i := 1788) (by decide +kernel)) rfl
theorem gw_1790 : Cond.instanceMethod yX12_isValid ∈ ql_W := ql_in (List.mem_of_getElem? (i := 1790) (by decide +kernel)) rfl
theorem gw_1791 : Cond.code yX12_isValid cX12_isValid 3 (Option.some Jvm.ClassFile.FieldType.boolean) ∈ ql_W := ql_in (List.mem_of_getElem? (i := 1791) (by decide +kernel)) rfl
theorem gw_1792 : Cond.methodLink RX12 106 yX12_amends ∈ ql_W := ql_in (List.mem_of_getElem? (i := 1792) (by decide +kernel)) rfl
theorem gw_1794 : Cond.instanceMethod yX12_amends ∈ ql_W := ql_in (List.mem_of_getElem? (i := 1794) (by decide +kernel)) rfl
theorem gw_1795 : Cond.code yX12_amends cX12_amends 5 (Option.some Jvm.ClassFile.FieldType.int) ∈ ql_W := ql_in (List.mem_of_getElem? (i := 1795) (by decide +kernel)) rfl
theorem gw_1796 : Cond.methodLink RX12 109 yX12_note ∈ ql_W := ql_in (List.mem_of_getElem? (i := 1796) (by decide +kernel)) rfl
theorem gw_1798 : Cond.instanceMethod yX12_note ∈ ql_W := ql_in (List.mem_of_getElem? (i := 1798) (by decide +kernel)) rfl
theorem gw_1799 : Cond.code yX12_note cX12_note 4 (Option.some Jvm.ClassFile.FieldType.int) ∈ ql_W := ql_in (List.mem_of_getElem? (i := 1799) (by decide +kernel)) rfl
theorem gw_1800 : Cond.methodLink RL 174 yX12_replaceNote ∈ ql_W := ql_in (List.mem_of_getElem? (i := 1800) (by decide +kernel)) rfl
theorem gw_1801 : Cond.instanceMethod yX12_replaceNote ∈ ql_W := ql_in (List.mem_of_getElem? (i := 1801) (by decide +kernel)) rfl
theorem gw_1802 : Cond.selects RX12 yX12_replaceNote yX12_replaceNote ∈ ql_W := ql_in (List.mem_of_getElem? (i := 1802) (by decide +kernel)) rfl
theorem gw_1803 : Cond.code yX12_replaceNote cX12_replaceNote 5 (Option.some Jvm.ClassFile.FieldType.int) ∈ ql_W := ql_in (List.mem_of_getElem? (i := 1803) (by decide +kernel)) rfl
theorem gw_1804 : Cond.methodLink RL 178 yX12_deleteNote ∈ ql_W := ql_in (List.mem_of_getElem? (i := 1804) (by decide +kernel)) rfl
theorem gw_1805 : Cond.instanceMethod yX12_deleteNote ∈ ql_W := ql_in (List.mem_of_getElem? (i := 1805) (by decide +kernel)) rfl
theorem gw_1806 : Cond.selects RX12 yX12_deleteNote yX12_deleteNote ∈ ql_W := ql_in (List.mem_of_getElem? (i := 1806) (by decide +kernel)) rfl
theorem gw_1807 : Cond.code yX12_deleteNote cX12_deleteNote 7 (Option.some Jvm.ClassFile.FieldType.int) ∈ ql_W := ql_in (List.mem_of_getElem? (i := 1807) (by decide +kernel)) rfl
theorem gw_1808 : Cond.methodLink RL 181 yX12_setSunset ∈ ql_W := ql_in (List.mem_of_getElem? (i := 1808) (by decide +kernel)) rfl
theorem gw_1809 : Cond.instanceMethod yX12_setSunset ∈ ql_W := ql_in (List.mem_of_getElem? (i := 1809) (by decide +kernel)) rfl
theorem gw_1810 : Cond.selects RX12 yX12_setSunset yX12_setSunset ∈ ql_W := ql_in (List.mem_of_getElem? (i := 1810) (by decide +kernel)) rfl
theorem gw_1811 : Cond.code yX12_setSunset cX12_setSunset 4 (Option.some Jvm.ClassFile.FieldType.int) ∈ ql_W := ql_in (List.mem_of_getElem? (i := 1811) (by decide +kernel)) rfl
theorem gw_1812 : Cond.methodLink RX12 113 yX12_isOver ∈ ql_W := ql_in (List.mem_of_getElem? (i := 1812) (by decide +kernel)) rfl
theorem gw_1814 : Cond.instanceMethod yX12_isOver ∈ ql_W := ql_in (List.mem_of_getElem? (i := 1814) (by decide +kernel)) rfl
theorem gw_1815 : Cond.code yX12_isOver cX12_isOver 2 (Option.some Jvm.ClassFile.FieldType.boolean) ∈ ql_W := ql_in (List.mem_of_getElem? (i := 1815) (by decide +kernel)) rfl
theorem gw_1816 : Cond.methodLink RL 184 yX12_cite ∈ ql_W := ql_in (List.mem_of_getElem? (i := 1816) (by decide +kernel)) rfl
theorem gw_1817 : Cond.instanceMethod yX12_cite ∈ ql_W := ql_in (List.mem_of_getElem? (i := 1817) (by decide +kernel)) rfl
theorem gw_1818 : Cond.selects RX12 yX12_cite yX12_cite ∈ ql_W := ql_in (List.mem_of_getElem? (i := 1818) (by decide +kernel)) rfl
theorem gw_1819 : Cond.code yX12_cite cX12_cite 5 (Option.some Jvm.ClassFile.FieldType.int) ∈ ql_W := ql_in (List.mem_of_getElem? (i := 1819) (by decide +kernel)) rfl
theorem gw_1820 : Cond.methodLink RX12 116 yX12_cited ∈ ql_W := ql_in (List.mem_of_getElem? (i := 1820) (by decide +kernel)) rfl
theorem gw_1822 : Cond.instanceMethod yX12_cited ∈ ql_W := ql_in (List.mem_of_getElem? (i := 1822) (by decide +kernel)) rfl
theorem gw_1823 : Cond.code yX12_cited cX12_cited 4 (Option.some Jvm.ClassFile.FieldType.int) ∈ ql_W := ql_in (List.mem_of_getElem? (i := 1823) (by decide +kernel)) rfl
theorem gw_1824 : Cond.methodLink RL 187 yX12_uncite ∈ ql_W := ql_in (List.mem_of_getElem? (i := 1824) (by decide +kernel)) rfl
theorem gw_1825 : Cond.instanceMethod yX12_uncite ∈ ql_W := ql_in (List.mem_of_getElem? (i := 1825) (by decide +kernel)) rfl
theorem gw_1826 : Cond.selects RX12 yX12_uncite yX12_uncite ∈ ql_W := ql_in (List.mem_of_getElem? (i := 1826) (by decide +kernel)) rfl
theorem gw_1827 : Cond.code yX12_uncite cX12_uncite 4 (Option.some Jvm.ClassFile.FieldType.int) ∈ ql_W := ql_in (List.mem_of_getElem? (i := 1827) (by decide +kernel)) rfl
theorem gw_1828 : Cond.methodLink RX12 119 yX12_dropsCite ∈ ql_W := ql_in (List.mem_of_getElem? (i := 1828) (by decide +kernel)) rfl
theorem gw_1830 : Cond.instanceMethod yX12_dropsCite ∈ ql_W := ql_in (List.mem_of_getElem? (i := 1830) (by decide +kernel)) rfl
theorem gw_1831 : Cond.code yX12_dropsCite cX12_dropsCite 5 (Option.none : Option Jvm.ClassFile.FieldType) ∈ ql_W := ql_in (List.mem_of_getElem? (i := 1831) (by decide +kernel)) rfl
theorem gw_1832 : Cond.methodLink RL 191 yX12_repeal ∈ ql_W := ql_in (List.mem_of_getElem? (i := 1832) (by decide +kernel)) rfl
theorem gw_1833 : Cond.instanceMethod yX12_repeal ∈ ql_W := ql_in (List.mem_of_getElem? (i := 1833) (by decide +kernel)) rfl
theorem gw_1834 : Cond.selects RX12 yX12_repeal yX12_repeal ∈ ql_W := ql_in (List.mem_of_getElem? (i := 1834) (by decide +kernel)) rfl
theorem gw_1835 : Cond.code yX12_repeal cX12_repeal 3 (Option.some Jvm.ClassFile.FieldType.int) ∈ ql_W := ql_in (List.mem_of_getElem? (i := 1835) (by decide +kernel)) rfl
theorem gw_1836 : Cond.methodLink RX12 123 yX12_drops ∈ ql_W := ql_in (List.mem_of_getElem? (i := 1836) (by decide +kernel)) rfl
theorem gw_1838 : Cond.instanceMethod yX12_drops ∈ ql_W := ql_in (List.mem_of_getElem? (i := 1838) (by decide +kernel)) rfl
theorem gw_1839 : Cond.code yX12_drops cX12_drops 3 (Option.none : Option Jvm.ClassFile.FieldType) ∈ ql_W := ql_in (List.mem_of_getElem? (i := 1839) (by decide +kernel)) rfl
theorem gw_1840 : Cond.methodLink RL 195 yX12_consolidate ∈ ql_W := ql_in (List.mem_of_getElem? (i := 1840) (by decide +kernel)) rfl
theorem gw_1841 : Cond.instanceMethod yX12_consolidate ∈ ql_W := ql_in (List.mem_of_getElem? (i := 1841) (by decide +kernel)) rfl
theorem gw_1842 : Cond.selects RX12 yX12_consolidate yX12_consolidate ∈ ql_W := ql_in (List.mem_of_getElem? (i := 1842) (by decide +kernel)) rfl
theorem gw_1843 : Cond.code yX12_consolidate cX12_consolidate 4 (Option.some Jvm.ClassFile.FieldType.int) ∈ ql_W := ql_in (List.mem_of_getElem? (i := 1843) (by decide +kernel)) rfl
theorem gw_1844 : Cond.methodLink RX12 127 yX12_sectionsBefore ∈ ql_W := ql_in (List.mem_of_getElem? (i := 1844) (by decide +kernel)) rfl
theorem gw_1846 : Cond.instanceMethod yX12_sectionsBefore ∈ ql_W := ql_in (List.mem_of_getElem? (i := 1846) (by decide +kernel)) rfl
theorem gw_1847 : Cond.code yX12_sectionsBefore cX12_sectionsBefore 4 (Option.some Jvm.ClassFile.FieldType.int) ∈ ql_W := ql_in (List.mem_of_getElem? (i := 1847) (by decide +kernel)) rfl
theorem gw_1848 : Cond.methodLink RL 198 yX12_advance ∈ ql_W := ql_in (List.mem_of_getElem? (i := 1848) (by decide +kernel)) rfl
theorem gw_1849 : Cond.instanceMethod yX12_advance ∈ ql_W := ql_in (List.mem_of_getElem? (i := 1849) (by decide +kernel)) rfl
theorem gw_1850 : Cond.selects RX12 yX12_advance yX12_advance ∈ ql_W := ql_in (List.mem_of_getElem? (i := 1850) (by decide +kernel)) rfl
theorem gw_1851 : Cond.code yX12_advance cX12_advance 4 (Option.some Jvm.ClassFile.FieldType.int) ∈ ql_W := ql_in (List.mem_of_getElem? (i := 1851) (by decide +kernel)) rfl
theorem gw_1852 : Cond.methodLink RL 202 yX12_day ∈ ql_W := ql_in (List.mem_of_getElem? (i := 1852) (by decide +kernel)) rfl
theorem gw_1853 : Cond.instanceMethod yX12_day ∈ ql_W := ql_in (List.mem_of_getElem? (i := 1853) (by decide +kernel)) rfl
theorem gw_1854 : Cond.selects RX12 yX12_day yX12_day ∈ ql_W := ql_in (List.mem_of_getElem? (i := 1854) (by decide +kernel)) rfl
theorem gw_1855 : Cond.code yX12_day cX12_day 1 (Option.some Jvm.ClassFile.FieldType.int) ∈ ql_W := ql_in (List.mem_of_getElem? (i := 1855) (by decide +kernel)) rfl
theorem gw_1856 : Cond.methodLink RL 206 yX12_clauseCount ∈ ql_W := ql_in (List.mem_of_getElem? (i := 1856) (by decide +kernel)) rfl
theorem gw_1857 : Cond.instanceMethod yX12_clauseCount ∈ ql_W := ql_in (List.mem_of_getElem? (i := 1857) (by decide +kernel)) rfl
theorem gw_1858 : Cond.selects RX12 yX12_clauseCount yX12_clauseCount ∈ ql_W := ql_in (List.mem_of_getElem? (i := 1858) (by decide +kernel)) rfl
theorem gw_1859 : Cond.code yX12_clauseCount cX12_clauseCount 1 (Option.some Jvm.ClassFile.FieldType.int) ∈ ql_W := ql_in (List.mem_of_getElem? (i := 1859) (by decide +kernel)) rfl
theorem gw_1860 : Cond.methodLink RL 209 yX12_clauseAt ∈ ql_W := ql_in (List.mem_of_getElem? (i := 1860) (by decide +kernel)) rfl
theorem gw_1861 : Cond.instanceMethod yX12_clauseAt ∈ ql_W := ql_in (List.mem_of_getElem? (i := 1861) (by decide +kernel)) rfl
theorem gw_1862 : Cond.selects RX12 yX12_clauseAt yX12_clauseAt ∈ ql_W := ql_in (List.mem_of_getElem? (i := 1862) (by decide +kernel)) rfl
theorem gw_1863 : Cond.code yX12_clauseAt cX12_clauseAt 3 (Option.some Jvm.ClassFile.FieldType.int) ∈ ql_W := ql_in (List.mem_of_getElem? (i := 1863) (by decide +kernel)) rfl
theorem gw_1864 : Cond.methodLink RL 212 yX12_clauseOfSection ∈ ql_W := ql_in (List.mem_of_getElem? (i := 1864) (by decide +kernel)) rfl
theorem gw_1865 : Cond.instanceMethod yX12_clauseOfSection ∈ ql_W := ql_in (List.mem_of_getElem? (i := 1865) (by decide +kernel)) rfl
theorem gw_1866 : Cond.selects RX12 yX12_clauseOfSection yX12_clauseOfSection ∈ ql_W := ql_in (List.mem_of_getElem? (i := 1866) (by decide +kernel)) rfl
theorem gw_1867 : Cond.code yX12_clauseOfSection cX12_clauseOfSection 2 (Option.some Jvm.ClassFile.FieldType.int) ∈ ql_W := ql_in (List.mem_of_getElem? (i := 1867) (by decide +kernel)) rfl
theorem gw_1868 : Cond.methodLink RL 215 yX12_section ∈ ql_W := ql_in (List.mem_of_getElem? (i := 1868) (by decide +kernel)) rfl
theorem gw_1869 : Cond.instanceMethod yX12_section ∈ ql_W := ql_in (List.mem_of_getElem? (i := 1869) (by decide +kernel)) rfl
theorem gw_1870 : Cond.selects RX12 yX12_section yX12_section ∈ ql_W := ql_in (List.mem_of_getElem? (i := 1870) (by decide +kernel)) rfl
theorem gw_1871 : Cond.code yX12_section cX12_section 2 (Option.some Jvm.ClassFile.FieldType.int) ∈ ql_W := ql_in (List.mem_of_getElem? (i := 1871) (by decide +kernel)) rfl
theorem gw_1872 : Cond.methodLink RX12 130 yX12_isNone ∈ ql_W := ql_in (List.mem_of_getElem? (i := 1872) (by decide +kernel)) rfl
theorem gw_1874 : Cond.instanceMethod yX12_isNone ∈ ql_W := ql_in (List.mem_of_getElem? (i := 1874) (by decide +kernel)) rfl
theorem gw_1875 : Cond.code yX12_isNone cX12_isNone 2 (Option.some Jvm.ClassFile.FieldType.boolean) ∈ ql_W := ql_in (List.mem_of_getElem? (i := 1875) (by decide +kernel)) rfl
theorem gw_1876 : Cond.methodLink RL 218 yX12_enactedOn ∈ ql_W := ql_in (List.mem_of_getElem? (i := 1876) (by decide +kernel)) rfl
theorem gw_1877 : Cond.instanceMethod yX12_enactedOn ∈ ql_W := ql_in (List.mem_of_getElem? (i := 1877) (by decide +kernel)) rfl
theorem gw_1878 : Cond.selects RX12 yX12_enactedOn yX12_enactedOn ∈ ql_W := ql_in (List.mem_of_getElem? (i := 1878) (by decide +kernel)) rfl
theorem gw_1879 : Cond.code yX12_enactedOn cX12_enactedOn 2 (Option.some Jvm.ClassFile.FieldType.int) ∈ ql_W := ql_in (List.mem_of_getElem? (i := 1879) (by decide +kernel)) rfl
theorem gw_1880 : Cond.methodLink RL 221 yX12_sunset ∈ ql_W := ql_in (List.mem_of_getElem? (i := 1880) (by decide +kernel)) rfl
theorem gw_1881 : Cond.instanceMethod yX12_sunset ∈ ql_W := ql_in (List.mem_of_getElem? (i := 1881) (by decide +kernel)) rfl
theorem gw_1882 : Cond.selects RX12 yX12_sunset yX12_sunset ∈ ql_W := ql_in (List.mem_of_getElem? (i := 1882) (by decide +kernel)) rfl
theorem gw_1883 : Cond.code yX12_sunset cX12_sunset 2 (Option.some Jvm.ClassFile.FieldType.int) ∈ ql_W := ql_in (List.mem_of_getElem? (i := 1883) (by decide +kernel)) rfl
theorem gw_1884 : Cond.methodLink RX12 133 yX12_isEndless ∈ ql_W := ql_in (List.mem_of_getElem? (i := 1884) (by decide +kernel)) rfl
theorem gw_1886 : Cond.instanceMethod yX12_isEndless ∈ ql_W := ql_in (List.mem_of_getElem? (i := 1886) (by decide +kernel)) rfl
theorem gw_1887 : Cond.code yX12_isEndless cX12_isEndless 2 (Option.some Jvm.ClassFile.FieldType.boolean) ∈ ql_W := ql_in (List.mem_of_getElem? (i := 1887) (by decide +kernel)) rfl
theorem gw_1888 : Cond.methodLink RL 224 yX12_isInForce ∈ ql_W := ql_in (List.mem_of_getElem? (i := 1888) (by decide +kernel)) rfl
theorem gw_1889 : Cond.instanceMethod yX12_isInForce ∈ ql_W := ql_in (List.mem_of_getElem? (i := 1889) (by decide +kernel)) rfl
theorem gw_1890 : Cond.selects RX12 yX12_isInForce yX12_isInForce ∈ ql_W := ql_in (List.mem_of_getElem? (i := 1890) (by decide +kernel)) rfl
theorem gw_1891 : Cond.code yX12_isInForce cX12_isInForce 3 (Option.some Jvm.ClassFile.FieldType.boolean) ∈ ql_W := ql_in (List.mem_of_getElem? (i := 1891) (by decide +kernel)) rfl
theorem gw_1892 : Cond.methodLink RL 227 yX12_hasLapsed ∈ ql_W := ql_in (List.mem_of_getElem? (i := 1892) (by decide +kernel)) rfl
theorem gw_1893 : Cond.instanceMethod yX12_hasLapsed ∈ ql_W := ql_in (List.mem_of_getElem? (i := 1893) (by decide +kernel)) rfl
theorem gw_1894 : Cond.selects RX12 yX12_hasLapsed yX12_hasLapsed ∈ ql_W := ql_in (List.mem_of_getElem? (i := 1894) (by decide +kernel)) rfl
theorem gw_1895 : Cond.code yX12_hasLapsed cX12_hasLapsed 2 (Option.some Jvm.ClassFile.FieldType.boolean) ∈ ql_W := ql_in (List.mem_of_getElem? (i := 1895) (by decide +kernel)) rfl
theorem gw_1896 : Cond.methodLink RL 231 yX12_inForceOn ∈ ql_W := ql_in (List.mem_of_getElem? (i := 1896) (by decide +kernel)) rfl
theorem gw_1897 : Cond.instanceMethod yX12_inForceOn ∈ ql_W := ql_in (List.mem_of_getElem? (i := 1897) (by decide +kernel)) rfl
theorem gw_1898 : Cond.selects RX12 yX12_inForceOn yX12_inForceOn ∈ ql_W := ql_in (List.mem_of_getElem? (i := 1898) (by decide +kernel)) rfl
theorem gw_1899 : Cond.code yX12_inForceOn cX12_inForceOn 2 (Option.some Jvm.ClassFile.FieldType.int) ∈ ql_W := ql_in (List.mem_of_getElem? (i := 1899) (by decide +kernel)) rfl
theorem gw_1900 : Cond.methodLink RX12 136 yX12_valid ∈ ql_W := ql_in (List.mem_of_getElem? (i := 1900) (by decide +kernel)) rfl
theorem gw_1902 : Cond.instanceMethod yX12_valid ∈ ql_W := ql_in (List.mem_of_getElem? (i := 1902) (by decide +kernel)) rfl
theorem gw_1903 : Cond.code yX12_valid cX12_valid 4 (Option.some Jvm.ClassFile.FieldType.int) ∈ ql_W := ql_in (List.mem_of_getElem? (i := 1903) (by decide +kernel)) rfl
theorem gw_1904 : Cond.methodLink RL 234 yX12_daysUntilLapsed ∈ ql_W := ql_in (List.mem_of_getElem? (i := 1904) (by decide +kernel)) rfl
theorem gw_1905 : Cond.instanceMethod yX12_daysUntilLapsed ∈ ql_W := ql_in (List.mem_of_getElem? (i := 1905) (by decide +kernel)) rfl
theorem gw_1906 : Cond.selects RX12 yX12_daysUntilLapsed yX12_daysUntilLapsed ∈ ql_W := ql_in (List.mem_of_getElem? (i := 1906) (by decide +kernel)) rfl
theorem gw_1907 : Cond.code yX12_daysUntilLapsed cX12_daysUntilLapsed 2 (Option.some Jvm.ClassFile.FieldType.int) ∈ ql_W := ql_in (List.mem_of_getElem? (i := 1907) (by decide +kernel)) rfl
theorem gw_1908 : Cond.methodLink RX12 139 yX12_most ∈ ql_W := ql_in (List.mem_of_getElem? (i := 1908) (by decide +kernel)) rfl
theorem gw_1909 : Cond.static yX12_most ∈ ql_W := ql_in (List.mem_of_getElem? (i := 1909) (by decide +kernel)) rfl
theorem gw_1910 : Cond.code yX12_most cX12_most 2 (Option.some Jvm.ClassFile.FieldType.int) ∈ ql_W := ql_in (List.mem_of_getElem? (i := 1910) (by decide +kernel)) rfl
theorem gw_1911 : Cond.methodLink RL 237 yX12_length ∈ ql_W := ql_in (List.mem_of_getElem? (i := 1911) (by decide +kernel)) rfl
theorem gw_1912 : Cond.instanceMethod yX12_length ∈ ql_W := ql_in (List.mem_of_getElem? (i := 1912) (by decide +kernel)) rfl
theorem gw_1913 : Cond.selects RX12 yX12_length yX12_length ∈ ql_W := ql_in (List.mem_of_getElem? (i := 1913) (by decide +kernel)) rfl
theorem gw_1914 : Cond.code yX12_length cX12_length 2 (Option.some Jvm.ClassFile.FieldType.int) ∈ ql_W := ql_in (List.mem_of_getElem? (i := 1914) (by decide +kernel)) rfl
theorem gw_1915 : Cond.methodLink RL 240 yX12_noteAt ∈ ql_W := ql_in (List.mem_of_getElem? (i := 1915) (by decide +kernel)) rfl
theorem gw_1916 : Cond.instanceMethod yX12_noteAt ∈ ql_W := ql_in (List.mem_of_getElem? (i := 1916) (by decide +kernel)) rfl
theorem gw_1917 : Cond.selects RX12 yX12_noteAt yX12_noteAt ∈ ql_W := ql_in (List.mem_of_getElem? (i := 1917) (by decide +kernel)) rfl
theorem gw_1918 : Cond.code yX12_noteAt cX12_noteAt 4 (Option.some Jvm.ClassFile.FieldType.char) ∈ ql_W := ql_in (List.mem_of_getElem? (i := 1918) (by decide +kernel)) rfl
theorem gw_1919 : Cond.methodLink RL 243 yX12_versionCount ∈ ql_W := ql_in (List.mem_of_getElem? (i := 1919) (by decide +kernel)) rfl
theorem gw_1920 : Cond.instanceMethod yX12_versionCount ∈ ql_W := ql_in (List.mem_of_getElem? (i := 1920) (by decide +kernel)) rfl
theorem gw_1921 : Cond.selects RX12 yX12_versionCount yX12_versionCount ∈ ql_W := ql_in (List.mem_of_getElem? (i := 1921) (by decide +kernel)) rfl
theorem gw_1922 : Cond.code yX12_versionCount cX12_versionCount 2 (Option.some Jvm.ClassFile.FieldType.int) ∈ ql_W := ql_in (List.mem_of_getElem? (i := 1922) (by decide +kernel)) rfl
theorem gw_1923 : Cond.methodLink RL 246 yX12_lengthOn ∈ ql_W := ql_in (List.mem_of_getElem? (i := 1923) (by decide +kernel)) rfl
theorem gw_1924 : Cond.instanceMethod yX12_lengthOn ∈ ql_W := ql_in (List.mem_of_getElem? (i := 1924) (by decide +kernel)) rfl
theorem gw_1925 : Cond.selects RX12 yX12_lengthOn yX12_lengthOn ∈ ql_W := ql_in (List.mem_of_getElem? (i := 1925) (by decide +kernel)) rfl
theorem gw_1926 : Cond.code yX12_lengthOn cX12_lengthOn 3 (Option.some Jvm.ClassFile.FieldType.int) ∈ ql_W := ql_in (List.mem_of_getElem? (i := 1926) (by decide +kernel)) rfl
theorem gw_1927 : Cond.methodLink RX12 145 yX12_isBlank ∈ ql_W := ql_in (List.mem_of_getElem? (i := 1927) (by decide +kernel)) rfl
theorem gw_1929 : Cond.instanceMethod yX12_isBlank ∈ ql_W := ql_in (List.mem_of_getElem? (i := 1929) (by decide +kernel)) rfl
theorem gw_1930 : Cond.code yX12_isBlank cX12_isBlank 3 (Option.some Jvm.ClassFile.FieldType.boolean) ∈ ql_W := ql_in (List.mem_of_getElem? (i := 1930) (by decide +kernel)) rfl
theorem gw_1931 : Cond.methodLink RX12 142 yX12_versionOn ∈ ql_W := ql_in (List.mem_of_getElem? (i := 1931) (by decide +kernel)) rfl
theorem gw_1933 : Cond.instanceMethod yX12_versionOn ∈ ql_W := ql_in (List.mem_of_getElem? (i := 1933) (by decide +kernel)) rfl
theorem gw_1934 : Cond.code yX12_versionOn cX12_versionOn 5 (Option.some Jvm.ClassFile.FieldType.int) ∈ ql_W := ql_in (List.mem_of_getElem? (i := 1934) (by decide +kernel)) rfl
theorem gw_1935 : Cond.methodLink RL 250 yX12_noteOn ∈ ql_W := ql_in (List.mem_of_getElem? (i := 1935) (by decide +kernel)) rfl
theorem gw_1936 : Cond.instanceMethod yX12_noteOn ∈ ql_W := ql_in (List.mem_of_getElem? (i := 1936) (by decide +kernel)) rfl
theorem gw_1937 : Cond.selects RX12 yX12_noteOn yX12_noteOn ∈ ql_W := ql_in (List.mem_of_getElem? (i := 1937) (by decide +kernel)) rfl
theorem gw_1938 : Cond.code yX12_noteOn cX12_noteOn 6 (Option.some Jvm.ClassFile.FieldType.char) ∈ ql_W := ql_in (List.mem_of_getElem? (i := 1938) (by decide +kernel)) rfl
theorem gw_1939 : Cond.methodLink RL 253 yX12_difference ∈ ql_W := ql_in (List.mem_of_getElem? (i := 1939) (by decide +kernel)) rfl
theorem gw_1940 : Cond.instanceMethod yX12_difference ∈ ql_W := ql_in (List.mem_of_getElem? (i := 1940) (by decide +kernel)) rfl
theorem gw_1941 : Cond.selects RX12 yX12_difference yX12_difference ∈ ql_W := ql_in (List.mem_of_getElem? (i := 1941) (by decide +kernel)) rfl
theorem gw_1942 : Cond.code yX12_difference cX12_difference 4 (Option.some Jvm.ClassFile.FieldType.int) ∈ ql_W := ql_in (List.mem_of_getElem? (i := 1942) (by decide +kernel)) rfl
theorem gw_1943 : Cond.methodLink RX12 148 yX12_apart ∈ ql_W := ql_in (List.mem_of_getElem? (i := 1943) (by decide +kernel)) rfl
theorem gw_1945 : Cond.instanceMethod yX12_apart ∈ ql_W := ql_in (List.mem_of_getElem? (i := 1945) (by decide +kernel)) rfl
theorem gw_1946 : Cond.code yX12_apart cX12_apart 11 (Option.some Jvm.ClassFile.FieldType.int) ∈ ql_W := ql_in (List.mem_of_getElem? (i := 1946) (by decide +kernel)) rfl
theorem gw_1947 : Cond.methodLink RL 256 yX12_differenceByEnds ∈ ql_W := ql_in (List.mem_of_getElem? (i := 1947) (by decide +kernel)) rfl
theorem gw_1948 : Cond.instanceMethod yX12_differenceByEnds ∈ ql_W := ql_in (List.mem_of_getElem? (i := 1948) (by decide +kernel)) rfl
theorem gw_1949 : Cond.selects RX12 yX12_differenceByEnds yX12_differenceByEnds ∈ ql_W := ql_in (List.mem_of_getElem? (i := 1949) (by decide +kernel)) rfl
theorem gw_1950 : Cond.code yX12_differenceByEnds cX12_differenceByEnds 4 (Option.some Jvm.ClassFile.FieldType.int) ∈ ql_W := ql_in (List.mem_of_getElem? (i := 1950) (by decide +kernel)) rfl
theorem gw_1951 : Cond.methodLink RL 260 yX12_duplicatePairs ∈ ql_W := ql_in (List.mem_of_getElem? (i := 1951) (by decide +kernel)) rfl
theorem gw_1952 : Cond.instanceMethod yX12_duplicatePairs ∈ ql_W := ql_in (List.mem_of_getElem? (i := 1952) (by decide +kernel)) rfl
theorem gw_1953 : Cond.selects RX12 yX12_duplicatePairs yX12_duplicatePairs ∈ ql_W := ql_in (List.mem_of_getElem? (i := 1953) (by decide +kernel)) rfl
theorem gw_1954 : Cond.code yX12_duplicatePairs cX12_duplicatePairs 1 (Option.some Jvm.ClassFile.FieldType.int) ∈ ql_W := ql_in (List.mem_of_getElem? (i := 1954) (by decide +kernel)) rfl
theorem gw_1955 : Cond.methodLink RX12 154 yX12_pairs ∈ ql_W := ql_in (List.mem_of_getElem? (i := 1955) (by decide +kernel)) rfl
theorem gw_1957 : Cond.instanceMethod yX12_pairs ∈ ql_W := ql_in (List.mem_of_getElem? (i := 1957) (by decide +kernel)) rfl
theorem gw_1958 : Cond.code yX12_pairs cX12_pairs 4 (Option.some Jvm.ClassFile.FieldType.int) ∈ ql_W := ql_in (List.mem_of_getElem? (i := 1958) (by decide +kernel)) rfl
theorem gw_1959 : Cond.methodLink RX12 151 yX12_areAlike ∈ ql_W := ql_in (List.mem_of_getElem? (i := 1959) (by decide +kernel)) rfl
theorem gw_1961 : Cond.instanceMethod yX12_areAlike ∈ ql_W := ql_in (List.mem_of_getElem? (i := 1961) (by decide +kernel)) rfl
theorem gw_1962 : Cond.code yX12_areAlike cX12_areAlike 4 (Option.some Jvm.ClassFile.FieldType.boolean) ∈ ql_W := ql_in (List.mem_of_getElem? (i := 1962) (by decide +kernel)) rfl
theorem gw_1963 : Cond.methodLink RL 264 yX12_duplicatePairsByComparing ∈ ql_W := ql_in (List.mem_of_getElem? (i := 1963) (by decide +kernel)) rfl
theorem gw_1964 : Cond.instanceMethod yX12_duplicatePairsByComparing ∈ ql_W := ql_in (List.mem_of_getElem? (i := 1964) (by decide +kernel)) rfl
theorem gw_1965 : Cond.selects RX12 yX12_duplicatePairsByComparing yX12_duplicatePairsByComparing ∈ ql_W := ql_in (List.mem_of_getElem? (i := 1965) (by decide +kernel)) rfl
theorem gw_1966 : Cond.code yX12_duplicatePairsByComparing cX12_duplicatePairsByComparing 1 (Option.some Jvm.ClassFile.FieldType.int) ∈ ql_W := ql_in (List.mem_of_getElem? (i := 1966) (by decide +kernel)) rfl
theorem gw_1967 : Cond.methodLink RL 267 yX12_citeCount ∈ ql_W := ql_in (List.mem_of_getElem? (i := 1967) (by decide +kernel)) rfl
theorem gw_1968 : Cond.instanceMethod yX12_citeCount ∈ ql_W := ql_in (List.mem_of_getElem? (i := 1968) (by decide +kernel)) rfl
theorem gw_1969 : Cond.selects RX12 yX12_citeCount yX12_citeCount ∈ ql_W := ql_in (List.mem_of_getElem? (i := 1969) (by decide +kernel)) rfl
theorem gw_1970 : Cond.code yX12_citeCount cX12_citeCount 2 (Option.some Jvm.ClassFile.FieldType.int) ∈ ql_W := ql_in (List.mem_of_getElem? (i := 1970) (by decide +kernel)) rfl
theorem gw_1971 : Cond.methodLink RL 270 yX12_citeAt ∈ ql_W := ql_in (List.mem_of_getElem? (i := 1971) (by decide +kernel)) rfl
theorem gw_1972 : Cond.instanceMethod yX12_citeAt ∈ ql_W := ql_in (List.mem_of_getElem? (i := 1972) (by decide +kernel)) rfl
theorem gw_1973 : Cond.selects RX12 yX12_citeAt yX12_citeAt ∈ ql_W := ql_in (List.mem_of_getElem? (i := 1973) (by decide +kernel)) rfl
theorem gw_1974 : Cond.code yX12_citeAt cX12_citeAt 4 (Option.some Jvm.ClassFile.FieldType.int) ∈ ql_W := ql_in (List.mem_of_getElem? (i := 1974) (by decide +kernel)) rfl
theorem gw_1975 : Cond.methodLink RL 274 yX12_brokenCites ∈ ql_W := ql_in (List.mem_of_getElem? (i := 1975) (by decide +kernel)) rfl
theorem gw_1976 : Cond.instanceMethod yX12_brokenCites ∈ ql_W := ql_in (List.mem_of_getElem? (i := 1976) (by decide +kernel)) rfl
theorem gw_1977 : Cond.selects RX12 yX12_brokenCites yX12_brokenCites ∈ ql_W := ql_in (List.mem_of_getElem? (i := 1977) (by decide +kernel)) rfl
theorem gw_1978 : Cond.code yX12_brokenCites cX12_brokenCites 5 (Option.some Jvm.ClassFile.FieldType.int) ∈ ql_W := ql_in (List.mem_of_getElem? (i := 1978) (by decide +kernel)) rfl
theorem gw_1979 : Cond.methodLink RL 277 yX12_citesIndirectly ∈ ql_W := ql_in (List.mem_of_getElem? (i := 1979) (by decide +kernel)) rfl
theorem gw_1980 : Cond.instanceMethod yX12_citesIndirectly ∈ ql_W := ql_in (List.mem_of_getElem? (i := 1980) (by decide +kernel)) rfl
theorem gw_1981 : Cond.selects RX12 yX12_citesIndirectly yX12_citesIndirectly ∈ ql_W := ql_in (List.mem_of_getElem? (i := 1981) (by decide +kernel)) rfl
theorem gw_1982 : Cond.code yX12_citesIndirectly cX12_citesIndirectly 3 (Option.some Jvm.ClassFile.FieldType.boolean) ∈ ql_W := ql_in (List.mem_of_getElem? (i := 1982) (by decide +kernel)) rfl
theorem gw_1983 : Cond.methodLink RX12 164 yX12_isReached ∈ ql_W := ql_in (List.mem_of_getElem? (i := 1983) (by decide +kernel)) rfl
theorem gw_1985 : Cond.instanceMethod yX12_isReached ∈ ql_W := ql_in (List.mem_of_getElem? (i := 1985) (by decide +kernel)) rfl
theorem gw_1986 : Cond.code yX12_isReached cX12_isReached 3 (Option.some Jvm.ClassFile.FieldType.boolean) ∈ ql_W := ql_in (List.mem_of_getElem? (i := 1986) (by decide +kernel)) rfl
theorem gw_1987 : Cond.methodLink RX12 161 yX12_reached ∈ ql_W := ql_in (List.mem_of_getElem? (i := 1987) (by decide +kernel)) rfl
theorem gw_1989 : Cond.instanceMethod yX12_reached ∈ ql_W := ql_in (List.mem_of_getElem? (i := 1989) (by decide +kernel)) rfl
theorem gw_1990 : Cond.code yX12_reached cX12_reached 5 (Option.some Jvm.ClassFile.FieldType.int) ∈ ql_W := ql_in (List.mem_of_getElem? (i := 1990) (by decide +kernel)) rfl
theorem gw_1991 : Cond.methodLink RX12 158 yX12_straight ∈ ql_W := ql_in (List.mem_of_getElem? (i := 1991) (by decide +kernel)) rfl
theorem gw_1993 : Cond.instanceMethod yX12_straight ∈ ql_W := ql_in (List.mem_of_getElem? (i := 1993) (by decide +kernel)) rfl
theorem gw_1994 : Cond.code yX12_straight cX12_straight 4 (Option.some Jvm.ClassFile.FieldType.int) ∈ ql_W := ql_in (List.mem_of_getElem? (i := 1994) (by decide +kernel)) rfl
theorem gw_1995 : Cond.methodLink RL 280 yX12_citesByClosure ∈ ql_W := ql_in (List.mem_of_getElem? (i := 1995) (by decide +kernel)) rfl
theorem gw_1996 : Cond.instanceMethod yX12_citesByClosure ∈ ql_W := ql_in (List.mem_of_getElem? (i := 1996) (by decide +kernel)) rfl
theorem gw_1997 : Cond.selects RX12 yX12_citesByClosure yX12_citesByClosure ∈ ql_W := ql_in (List.mem_of_getElem? (i := 1997) (by decide +kernel)) rfl
theorem gw_1998 : Cond.code yX12_citesByClosure cX12_citesByClosure 3 (Option.some Jvm.ClassFile.FieldType.boolean) ∈ ql_W := ql_in (List.mem_of_getElem? (i := 1998) (by decide +kernel)) rfl
theorem gw_1999 : Cond.methodLink RL 283 yX12_clauseByCites ∈ ql_W := ql_in (List.mem_of_getElem? (i := 1999) (by decide +kernel)) rfl
theorem gw_2000 : Cond.instanceMethod yX12_clauseByCites ∈ ql_W := ql_in (List.mem_of_getElem? (i := 2000) (by decide +kernel)) rfl
theorem gw_2001 : Cond.selects RX12 yX12_clauseByCites yX12_clauseByCites ∈ ql_W := ql_in (List.mem_of_getElem? (i := 2001) (by decide +kernel)) rfl
theorem gw_2002 : Cond.code yX12_clauseByCites cX12_clauseByCites 5 (Option.some Jvm.ClassFile.FieldType.int) ∈ ql_W := ql_in (List.mem_of_getElem? (i := 2002) (by decide +kernel)) rfl
theorem gw_2003 : Cond.methodLink RX12 167 yX12_citing ∈ ql_W := ql_in (List.mem_of_getElem? (i := 2003) (by decide +kernel)) rfl
theorem gw_2005 : Cond.instanceMethod yX12_citing ∈ ql_W := ql_in (List.mem_of_getElem? (i := 2005) (by decide +kernel)) rfl
theorem gw_2006 : Cond.code yX12_citing cX12_citing 4 (Option.some Jvm.ClassFile.FieldType.int) ∈ ql_W := ql_in (List.mem_of_getElem? (i := 2006) (by decide +kernel)) rfl
theorem gw_2007 : Cond.methodLink RL 287 yX12_addedTotal ∈ ql_W := ql_in (List.mem_of_getElem? (i := 2007) (by decide +kernel)) rfl
theorem gw_2008 : Cond.instanceMethod yX12_addedTotal ∈ ql_W := ql_in (List.mem_of_getElem? (i := 2008) (by decide +kernel)) rfl
theorem gw_2009 : Cond.selects RX12 yX12_addedTotal yX12_addedTotal ∈ ql_W := ql_in (List.mem_of_getElem? (i := 2009) (by decide +kernel)) rfl
theorem gw_2010 : Cond.code yX12_addedTotal cX12_addedTotal 1 (Option.some Jvm.ClassFile.FieldType.int) ∈ ql_W := ql_in (List.mem_of_getElem? (i := 2010) (by decide +kernel)) rfl
theorem gw_2011 : Cond.methodLink RL 291 yX12_amendmentTotal ∈ ql_W := ql_in (List.mem_of_getElem? (i := 2011) (by decide +kernel)) rfl
theorem gw_2012 : Cond.instanceMethod yX12_amendmentTotal ∈ ql_W := ql_in (List.mem_of_getElem? (i := 2012) (by decide +kernel)) rfl
theorem gw_2013 : Cond.selects RX12 yX12_amendmentTotal yX12_amendmentTotal ∈ ql_W := ql_in (List.mem_of_getElem? (i := 2013) (by decide +kernel)) rfl
theorem gw_2014 : Cond.code yX12_amendmentTotal cX12_amendmentTotal 1 (Option.some Jvm.ClassFile.FieldType.int) ∈ ql_W := ql_in (List.mem_of_getElem? (i := 2014) (by decide +kernel)) rfl
theorem gw_2015 : Cond.methodLink RL 295 yX12_repealedTotal ∈ ql_W := ql_in (List.mem_of_getElem? (i := 2015) (by decide +kernel)) rfl
theorem gw_2016 : Cond.instanceMethod yX12_repealedTotal ∈ ql_W := ql_in (List.mem_of_getElem? (i := 2016) (by decide +kernel)) rfl
theorem gw_2017 : Cond.selects RX12 yX12_repealedTotal yX12_repealedTotal ∈ ql_W := ql_in (List.mem_of_getElem? (i := 2017) (by decide +kernel)) rfl
theorem gw_2018 : Cond.code yX12_repealedTotal cX12_repealedTotal 1 (Option.some Jvm.ClassFile.FieldType.int) ∈ ql_W := ql_in (List.mem_of_getElem? (i := 2018) (by decide +kernel)) rfl
theorem gw_2019 : Cond.methodLink RL 299 yX12_consolidatedTotal ∈ ql_W := ql_in (List.mem_of_getElem? (i := 2019) (by decide +kernel)) rfl
theorem gw_2020 : Cond.instanceMethod yX12_consolidatedTotal ∈ ql_W := ql_in (List.mem_of_getElem? (i := 2020) (by decide +kernel)) rfl
theorem gw_2021 : Cond.selects RX12 yX12_consolidatedTotal yX12_consolidatedTotal ∈ ql_W := ql_in (List.mem_of_getElem? (i := 2021) (by decide +kernel)) rfl
theorem gw_2022 : Cond.code yX12_consolidatedTotal cX12_consolidatedTotal 1 (Option.some Jvm.ClassFile.FieldType.int) ∈ ql_W := ql_in (List.mem_of_getElem? (i := 2022) (by decide +kernel)) rfl
theorem gw_2023 : Cond.methodLink RL 303 yX12_editionCount ∈ ql_W := ql_in (List.mem_of_getElem? (i := 2023) (by decide +kernel)) rfl
theorem gw_2024 : Cond.instanceMethod yX12_editionCount ∈ ql_W := ql_in (List.mem_of_getElem? (i := 2024) (by decide +kernel)) rfl
theorem gw_2025 : Cond.selects RX12 yX12_editionCount yX12_editionCount ∈ ql_W := ql_in (List.mem_of_getElem? (i := 2025) (by decide +kernel)) rfl
theorem gw_2026 : Cond.code yX12_editionCount cX12_editionCount 1 (Option.some Jvm.ClassFile.FieldType.int) ∈ ql_W := ql_in (List.mem_of_getElem? (i := 2026) (by decide +kernel)) rfl
theorem gw_2027 : Cond.methodLink RL 306 yX12_editionDay ∈ ql_W := ql_in (List.mem_of_getElem? (i := 2027) (by decide +kernel)) rfl
theorem gw_2028 : Cond.instanceMethod yX12_editionDay ∈ ql_W := ql_in (List.mem_of_getElem? (i := 2028) (by decide +kernel)) rfl
theorem gw_2029 : Cond.selects RX12 yX12_editionDay yX12_editionDay ∈ ql_W := ql_in (List.mem_of_getElem? (i := 2029) (by decide +kernel)) rfl
theorem gw_2030 : Cond.code yX12_editionDay cX12_editionDay 2 (Option.some Jvm.ClassFile.FieldType.int) ∈ ql_W := ql_in (List.mem_of_getElem? (i := 2030) (by decide +kernel)) rfl
theorem gw_2031 : Cond.methodLink RL 310 yX12_meanLength ∈ ql_W := ql_in (List.mem_of_getElem? (i := 2031) (by decide +kernel)) rfl
theorem gw_2032 : Cond.instanceMethod yX12_meanLength ∈ ql_W := ql_in (List.mem_of_getElem? (i := 2032) (by decide +kernel)) rfl
theorem gw_2033 : Cond.selects RX12 yX12_meanLength yX12_meanLength ∈ ql_W := ql_in (List.mem_of_getElem? (i := 2033) (by decide +kernel)) rfl
theorem gw_2034 : Cond.code yX12_meanLength cX12_meanLength 3 (Option.some Jvm.ClassFile.FieldType.double) ∈ ql_W := ql_in (List.mem_of_getElem? (i := 2034) (by decide +kernel)) rfl
theorem gw_2035 : Cond.methodLink RL 313 yX12_inForceShare ∈ ql_W := ql_in (List.mem_of_getElem? (i := 2035) (by decide +kernel)) rfl
theorem gw_2036 : Cond.instanceMethod yX12_inForceShare ∈ ql_W := ql_in (List.mem_of_getElem? (i := 2036) (by decide +kernel)) rfl
theorem gw_2037 : Cond.selects RX12 yX12_inForceShare yX12_inForceShare ∈ ql_W := ql_in (List.mem_of_getElem? (i := 2037) (by decide +kernel)) rfl
theorem gw_2038 : Cond.code yX12_inForceShare cX12_inForceShare 1 (Option.some Jvm.ClassFile.FieldType.float) ∈ ql_W := ql_in (List.mem_of_getElem? (i := 2038) (by decide +kernel)) rfl
theorem gw_2039 : Cond.methodLink RL 318 yX12_isConsistent ∈ ql_W := ql_in (List.mem_of_getElem? (i := 2039) (by decide +kernel)) rfl
theorem gw_2040 : Cond.instanceMethod yX12_isConsistent ∈ ql_W := ql_in (List.mem_of_getElem? (i := 2040) (by decide +kernel)) rfl
theorem gw_2041 : Cond.selects RX12 yX12_isConsistent yX12_isConsistent ∈ ql_W := ql_in (List.mem_of_getElem? (i := 2041) (by decide +kernel)) rfl
theorem gw_2042 : Cond.code yX12_isConsistent cX12_isConsistent 1 (Option.some Jvm.ClassFile.FieldType.boolean) ∈ ql_W := ql_in (List.mem_of_getElem? (i := 2042) (by decide +kernel)) rfl
theorem gw_2043 : Cond.methodLink RL 321 yX12_renderClause ∈ ql_W := ql_in (List.mem_of_getElem? (i := 2043) (by decide +kernel)) rfl
theorem gw_2044 : Cond.instanceMethod yX12_renderClause ∈ ql_W := ql_in (List.mem_of_getElem? (i := 2044) (by decide +kernel)) rfl
theorem gw_2045 : Cond.selects RX12 yX12_renderClause yX12_renderClause ∈ ql_W := ql_in (List.mem_of_getElem? (i := 2045) (by decide +kernel)) rfl
theorem gw_2046 : Cond.code yX12_renderClause cX12_renderClause 4 (Option.some Jvm.ClassFile.FieldType.int) ∈ ql_W := ql_in (List.mem_of_getElem? (i := 2046) (by decide +kernel)) rfl
theorem gw_2047 : Cond.methodLink RX12 173 yX12_writesNumber ∈ ql_W := ql_in (List.mem_of_getElem? (i := 2047) (by decide +kernel)) rfl
theorem gw_2049 : Cond.instanceMethod yX12_writesNumber ∈ ql_W := ql_in (List.mem_of_getElem? (i := 2049) (by decide +kernel)) rfl
theorem gw_2050 : Cond.code yX12_writesNumber cX12_writesNumber 2 (Option.none : Option Jvm.ClassFile.FieldType) ∈ ql_W := ql_in (List.mem_of_getElem? (i := 2050) (by decide +kernel)) rfl
theorem gw_2051 : Cond.methodLink RX12 176 yX12_writes ∈ ql_W := ql_in (List.mem_of_getElem? (i := 2051) (by decide +kernel)) rfl
theorem gw_2053 : Cond.instanceMethod yX12_writes ∈ ql_W := ql_in (List.mem_of_getElem? (i := 2053) (by decide +kernel)) rfl
theorem gw_2054 : Cond.code yX12_writes cX12_writes 2 (Option.none : Option Jvm.ClassFile.FieldType) ∈ ql_W := ql_in (List.mem_of_getElem? (i := 2054) (by decide +kernel)) rfl
theorem gw_2055 : Cond.methodLink RL 324 yX12_outputAt ∈ ql_W := ql_in (List.mem_of_getElem? (i := 2055) (by decide +kernel)) rfl
theorem gw_2056 : Cond.instanceMethod yX12_outputAt ∈ ql_W := ql_in (List.mem_of_getElem? (i := 2056) (by decide +kernel)) rfl
theorem gw_2057 : Cond.selects RX12 yX12_outputAt yX12_outputAt ∈ ql_W := ql_in (List.mem_of_getElem? (i := 2057) (by decide +kernel)) rfl
theorem gw_2058 : Cond.code yX12_outputAt cX12_outputAt 2 (Option.some Jvm.ClassFile.FieldType.char) ∈ ql_W := ql_in (List.mem_of_getElem? (i := 2058) (by decide +kernel)) rfl
theorem gw_2059 : Cond.methodLink RL 328 yX12_type ∈ ql_W := ql_in (List.mem_of_getElem? (i := 2059) (by decide +kernel)) rfl
theorem gw_2060 : Cond.instanceMethod yX12_type ∈ ql_W := ql_in (List.mem_of_getElem? (i := 2060) (by decide +kernel)) rfl
theorem gw_2061 : Cond.selects RX12 yX12_type yX12_type ∈ ql_W := ql_in (List.mem_of_getElem? (i := 2061) (by decide +kernel)) rfl
theorem gw_2062 : Cond.code yX12_type cX12_type 2 (Option.some Jvm.ClassFile.FieldType.int) ∈ ql_W := ql_in (List.mem_of_getElem? (i := 2062) (by decide +kernel)) rfl
theorem gw_2063 : Cond.methodLink RL 332 yX12_runScript ∈ ql_W := ql_in (List.mem_of_getElem? (i := 2063) (by decide +kernel)) rfl
theorem gw_2064 : Cond.instanceMethod yX12_runScript ∈ ql_W := ql_in (List.mem_of_getElem? (i := 2064) (by decide +kernel)) rfl
theorem gw_2065 : Cond.selects RX12 yX12_runScript yX12_runScript ∈ ql_W := ql_in (List.mem_of_getElem? (i := 2065) (by decide +kernel)) rfl
theorem gw_2066 : Cond.code yX12_runScript cX12_runScript 4 (Option.some Jvm.ClassFile.FieldType.int) ∈ ql_W := ql_in (List.mem_of_getElem? (i := 2066) (by decide +kernel)) rfl
theorem gw_2067 : Cond.methodLink RX12 272 yX12_isScript ∈ ql_W := ql_in (List.mem_of_getElem? (i := 2067) (by decide +kernel)) rfl
theorem gw_2069 : Cond.instanceMethod yX12_isScript ∈ ql_W := ql_in (List.mem_of_getElem? (i := 2069) (by decide +kernel)) rfl
theorem gw_2070 : Cond.code yX12_isScript cX12_isScript 1 (Option.some Jvm.ClassFile.FieldType.boolean) ∈ ql_W := ql_in (List.mem_of_getElem? (i := 2070) (by decide +kernel)) rfl
theorem gw_2071 : Cond.methodLink RX12 236 yX12_commandHere ∈ ql_W := ql_in (List.mem_of_getElem? (i := 2071) (by decide +kernel)) rfl
theorem gw_2073 : Cond.instanceMethod yX12_commandHere ∈ ql_W := ql_in (List.mem_of_getElem? (i := 2073) (by decide +kernel)) rfl
theorem gw_2074 : Cond.code yX12_commandHere cX12_commandHere 2 (Option.some Jvm.ClassFile.FieldType.boolean) ∈ ql_W := ql_in (List.mem_of_getElem? (i := 2074) (by decide +kernel)) rfl
theorem gw_2075 : Cond.methodLink RX12 200 yX12_skips ∈ ql_W := ql_in (List.mem_of_getElem? (i := 2075) (by decide +kernel)) rfl
theorem gw_2077 : Cond.instanceMethod yX12_skips ∈ ql_W := ql_in (List.mem_of_getElem? (i := 2077) (by decide +kernel)) rfl
theorem gw_2078 : Cond.code yX12_skips cX12_skips 2 (Option.some Jvm.ClassFile.FieldType.boolean) ∈ ql_W := ql_in (List.mem_of_getElem? (i := 2078) (by decide +kernel)) rfl
theorem gw_2079 : Cond.methodLink RX12 185 yX12_here ∈ ql_W := ql_in (List.mem_of_getElem? (i := 2079) (by decide +kernel)) rfl
theorem gw_2081 : Cond.instanceMethod yX12_here ∈ ql_W := ql_in (List.mem_of_getElem? (i := 2081) (by decide +kernel)) rfl
theorem gw_2082 : Cond.code yX12_here cX12_here 1 (Option.some Jvm.ClassFile.FieldType.int) ∈ ql_W := ql_in (List.mem_of_getElem? (i := 2082) (by decide +kernel)) rfl
theorem gw_2084 : Cond.methodLink RX12 208 yX12_isWord ∈ ql_W := ql_in (List.mem_of_getElem? (i := 2084) (by decide +kernel)) rfl
theorem gw_2086 : Cond.instanceMethod yX12_isWord ∈ ql_W := ql_in (List.mem_of_getElem? (i := 2086) (by decide +kernel)) rfl
theorem gw_2087 : Cond.code yX12_isWord cX12_isWord 4 (Option.some Jvm.ClassFile.FieldType.boolean) ∈ ql_W := ql_in (List.mem_of_getElem? (i := 2087) (by decide +kernel)) rfl
theorem gw_2088 : Cond.methodLink RX12 191 yJ0_length_8abf5 ∈ ql_W := ql_in (List.mem_of_getElem? (i := 2088) (by decide +kernel)) rfl
theorem gw_2089 : Cond.methodLink RX12 196 yJ0_charAt_5068e ∈ ql_W := ql_in (List.mem_of_getElem? (i := 2089) (by decide +kernel)) rfl
theorem gw_2090 : Cond.methodLink RX12 203 yX12_figures ∈ ql_W := ql_in (List.mem_of_getElem? (i := 2090) (by decide +kernel)) rfl
theorem gw_2092 : Cond.instanceMethod yX12_figures ∈ ql_W := ql_in (List.mem_of_getElem? (i := 2092) (by decide +kernel)) rfl
theorem gw_2093 : Cond.code yX12_figures cX12_figures 3 (Option.some Jvm.ClassFile.FieldType.boolean) ∈ ql_W := ql_in (List.mem_of_getElem? (i := 2093) (by decide +kernel)) rfl
theorem gw_2094 : Cond.methodLink RX12 212 yX12_noteHere ∈ ql_W := ql_in (List.mem_of_getElem? (i := 2094) (by decide +kernel)) rfl
theorem gw_2096 : Cond.instanceMethod yX12_noteHere ∈ ql_W := ql_in (List.mem_of_getElem? (i := 2096) (by decide +kernel)) rfl
theorem gw_2097 : Cond.code yX12_noteHere cX12_noteHere 2 (Option.some Jvm.ClassFile.FieldType.boolean) ∈ ql_W := ql_in (List.mem_of_getElem? (i := 2097) (by decide +kernel)) rfl
theorem gw_2099 : Cond.methodLink RX12 217 yX12_bothHere ∈ ql_W := ql_in (List.mem_of_getElem? (i := 2099) (by decide +kernel)) rfl
theorem gw_2101 : Cond.instanceMethod yX12_bothHere ∈ ql_W := ql_in (List.mem_of_getElem? (i := 2101) (by decide +kernel)) rfl
theorem gw_2102 : Cond.code yX12_bothHere cX12_bothHere 2 (Option.some Jvm.ClassFile.FieldType.boolean) ∈ ql_W := ql_in (List.mem_of_getElem? (i := 2102) (by decide +kernel)) rfl
theorem gw_2111 : Cond.methodLink RX12 275 yX12_carries ∈ ql_W := ql_in (List.mem_of_getElem? (i := 2111) (by decide +kernel)) rfl
theorem gw_2113 : Cond.instanceMethod yX12_carries ∈ ql_W := ql_in (List.mem_of_getElem? (i := 2113) (by decide +kernel)) rfl
theorem gw_2114 : Cond.code yX12_carries cX12_carries 5 (Option.some Jvm.ClassFile.FieldType.int) ∈ ql_W := ql_in (List.mem_of_getElem? (i := 2114) (by decide +kernel)) rfl
theorem gw_2115 : Cond.methodLink RX12 240 yX12_addClause ∈ ql_W := ql_in (List.mem_of_getElem? (i := 2115) (by decide +kernel)) rfl
theorem gw_2116 : Cond.methodLink RX12 244 yX12_insertNote ∈ ql_W := ql_in (List.mem_of_getElem? (i := 2116) (by decide +kernel)) rfl
theorem gw_2117 : Cond.methodLink RX12 248 yX12_replaceNote ∈ ql_W := ql_in (List.mem_of_getElem? (i := 2117) (by decide +kernel)) rfl
theorem gw_2118 : Cond.methodLink RX12 251 yX12_deleteNote ∈ ql_W := ql_in (List.mem_of_getElem? (i := 2118) (by decide +kernel)) rfl
theorem gw_2119 : Cond.methodLink RX12 254 yX12_setSunset ∈ ql_W := ql_in (List.mem_of_getElem? (i := 2119) (by decide +kernel)) rfl
theorem gw_2120 : Cond.methodLink RX12 257 yX12_cite ∈ ql_W := ql_in (List.mem_of_getElem? (i := 2120) (by decide +kernel)) rfl
theorem gw_2121 : Cond.methodLink RX12 260 yX12_uncite ∈ ql_W := ql_in (List.mem_of_getElem? (i := 2121) (by decide +kernel)) rfl
theorem gw_2122 : Cond.methodLink RX12 263 yX12_repeal ∈ ql_W := ql_in (List.mem_of_getElem? (i := 2122) (by decide +kernel)) rfl
theorem gw_2123 : Cond.methodLink RX12 266 yX12_consolidate ∈ ql_W := ql_in (List.mem_of_getElem? (i := 2123) (by decide +kernel)) rfl
theorem gw_2124 : Cond.methodLink RX12 269 yX12_advance ∈ ql_W := ql_in (List.mem_of_getElem? (i := 2124) (by decide +kernel)) rfl
theorem gw_2125 : Cond.methodLink RL 335 yX12_errorPosition ∈ ql_W := ql_in (List.mem_of_getElem? (i := 2125) (by decide +kernel)) rfl
theorem gw_2126 : Cond.instanceMethod yX12_errorPosition ∈ ql_W := ql_in (List.mem_of_getElem? (i := 2126) (by decide +kernel)) rfl
theorem gw_2127 : Cond.selects RX12 yX12_errorPosition yX12_errorPosition ∈ ql_W := ql_in (List.mem_of_getElem? (i := 2127) (by decide +kernel)) rfl
theorem gw_2128 : Cond.code yX12_errorPosition cX12_errorPosition 1 (Option.some Jvm.ClassFile.FieldType.int) ∈ ql_W := ql_in (List.mem_of_getElem? (i := 2128) (by decide +kernel)) rfl
theorem gw_2129 : Cond.methodLink RL 338 yX12_failedCommand ∈ ql_W := ql_in (List.mem_of_getElem? (i := 2129) (by decide +kernel)) rfl
theorem gw_2130 : Cond.instanceMethod yX12_failedCommand ∈ ql_W := ql_in (List.mem_of_getElem? (i := 2130) (by decide +kernel)) rfl
theorem gw_2131 : Cond.selects RX12 yX12_failedCommand yX12_failedCommand ∈ ql_W := ql_in (List.mem_of_getElem? (i := 2131) (by decide +kernel)) rfl
theorem gw_2132 : Cond.code yX12_failedCommand cX12_failedCommand 1 (Option.some Jvm.ClassFile.FieldType.int) ∈ ql_W := ql_in (List.mem_of_getElem? (i := 2132) (by decide +kernel)) rfl
theorem gw_2133 : Cond.methodLink RL 341 yX12_undo ∈ ql_W := ql_in (List.mem_of_getElem? (i := 2133) (by decide +kernel)) rfl
theorem gw_2134 : Cond.instanceMethod yX12_undo ∈ ql_W := ql_in (List.mem_of_getElem? (i := 2134) (by decide +kernel)) rfl
theorem gw_2135 : Cond.selects RX12 yX12_undo yX12_undo ∈ ql_W := ql_in (List.mem_of_getElem? (i := 2135) (by decide +kernel)) rfl
theorem gw_2136 : Cond.code yX12_undo cX12_undo 1 (Option.some Jvm.ClassFile.FieldType.int) ∈ ql_W := ql_in (List.mem_of_getElem? (i := 2136) (by decide +kernel)) rfl
theorem gw_2137 : Cond.methodLink RL 345 yX12_save ∈ ql_W := ql_in (List.mem_of_getElem? (i := 2137) (by decide +kernel)) rfl
theorem gw_2138 : Cond.instanceMethod yX12_save ∈ ql_W := ql_in (List.mem_of_getElem? (i := 2138) (by decide +kernel)) rfl
theorem gw_2139 : Cond.selects RX12 yX12_save yX12_save ∈ ql_W := ql_in (List.mem_of_getElem? (i := 2139) (by decide +kernel)) rfl
theorem gw_2140 : Cond.code yX12_save cX12_save 1 (Option.some Jvm.ClassFile.FieldType.int) ∈ ql_W := ql_in (List.mem_of_getElem? (i := 2140) (by decide +kernel)) rfl
theorem gw_2141 : Cond.methodLink RL 348 yX12_restore ∈ ql_W := ql_in (List.mem_of_getElem? (i := 2141) (by decide +kernel)) rfl
theorem gw_2142 : Cond.instanceMethod yX12_restore ∈ ql_W := ql_in (List.mem_of_getElem? (i := 2142) (by decide +kernel)) rfl
theorem gw_2143 : Cond.selects RX12 yX12_restore yX12_restore ∈ ql_W := ql_in (List.mem_of_getElem? (i := 2143) (by decide +kernel)) rfl
theorem gw_2144 : Cond.code yX12_restore cX12_restore 1 (Option.some Jvm.ClassFile.FieldType.int) ∈ ql_W := ql_in (List.mem_of_getElem? (i := 2144) (by decide +kernel)) rfl
theorem gw_2145 : Cond.arrayClass Jvm.ClassFile.FieldType.double ∈ ql_W := ql_in (List.mem_of_getElem? (i := 2145) (by decide +kernel)) rfl
theorem gw_2146 : Cond.sameMethod "java/lang/Throwable" "java/lang/Throwable" "fillInStackTrace" "(I)Ljava/lang/Throwable;" ∈ ql_W := ql_in (List.mem_of_getElem? (i := 2146) (by decide +kernel)) rfl
theorem gw_2147 : Cond.sameMethod RJ5 RJ5 "setLength" "(I)V" ∈ ql_W := ql_in (List.mem_of_getElem? (i := 2147) (by decide +kernel)) rfl
theorem gw_2148 : Cond.sameMethod RJ5 RJ5 "append" "(Ljava/lang/String;)Ljava/lang/AbstractStringBuilder;" ∈ ql_W := ql_in (List.mem_of_getElem? (i := 2148) (by decide +kernel)) rfl
theorem gw_2149 : Cond.sameMethod RJ5 RJ5 "appendNull" "()Ljava/lang/AbstractStringBuilder;" ∈ ql_W := ql_in (List.mem_of_getElem? (i := 2149) (by decide +kernel)) rfl
theorem gw_2150 : Cond.sameMethod RJ5 RJ5 "ensureCapacityInternal" "(I)V" ∈ ql_W := ql_in (List.mem_of_getElem? (i := 2150) (by decide +kernel)) rfl
theorem gw_2151 : Cond.sameMethod RJ5 RJ5 "newCapacity" "(I)I" ∈ ql_W := ql_in (List.mem_of_getElem? (i := 2151) (by decide +kernel)) rfl
theorem gw_2152 : Cond.sameMethod RJ5 RJ5 "putStringAt" "(ILjava/lang/String;)V" ∈ ql_W := ql_in (List.mem_of_getElem? (i := 2152) (by decide +kernel)) rfl
theorem gw_2153 : Cond.sameMethod RJ5 RJ5 "inflateIfNeededFor" "(Ljava/lang/String;)V" ∈ ql_W := ql_in (List.mem_of_getElem? (i := 2153) (by decide +kernel)) rfl
theorem gw_2154 : Cond.sameMethod RJ5 RJ5 "inflate" "()V" ∈ ql_W := ql_in (List.mem_of_getElem? (i := 2154) (by decide +kernel)) rfl
theorem gw_2155 : Cond.sameMethod RJ5 RJ5 "append" "(I)Ljava/lang/AbstractStringBuilder;" ∈ ql_W := ql_in (List.mem_of_getElem? (i := 2155) (by decide +kernel)) rfl
theorem gw_2156 : Cond.sameMethod RJ5 RJ5 "append" "(C)Ljava/lang/AbstractStringBuilder;" ∈ ql_W := ql_in (List.mem_of_getElem? (i := 2156) (by decide +kernel)) rfl
theorem gw_2157 : Cond.selects RJ4 yJ4_length_8abf5 yJ4_length_8abf5 ∈ ql_W := ql_in (List.mem_of_getElem? (i := 2157) (by decide +kernel)) rfl
theorem gw_2158 : Cond.sameMethod RJ5 RJ5 "charAt" "(I)C" ∈ ql_W := ql_in (List.mem_of_getElem? (i := 2158) (by decide +kernel)) rfl
theorem gw_2185 : Cond.fieldLink RJx29ce0 7 RJx29ce0 "ordinal" "I" ∈ ql_W := ql_in (List.mem_of_getElem? (i := 2185) (by decide +kernel)) rfl
