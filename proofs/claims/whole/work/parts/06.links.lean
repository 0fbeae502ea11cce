theorem kfX7_55 : Cond.fieldLink RX7 55 "SafeNet" (TX7 7).2.1 (TX7 7).2.2.1 ∈ zlwg := zlwg_of (List.mem_of_getElem? (i := 395) (by decide +kernel)) rfl
theorem kcX7_306 : Cond.constant RX7 306 (-1000010 : Int32) ∈ zlwg := zlwg_of (List.mem_of_getElem? (i := 429) (by decide +kernel)) rfl
theorem kfX3_9 : Cond.fieldLink RX3 9 "SafeNet$Sheets" (TX3 0).2.1 (TX3 0).2.2.1 ∈ zlwg := zlwg_of (List.mem_of_getElem? (i := 167) (by decide +kernel)) rfl
theorem kfX3_13 : Cond.fieldLink RX3 13 "SafeNet$Sheets" (TX3 1).2.1 (TX3 1).2.2.1 ∈ zlwg := zlwg_of (List.mem_of_getElem? (i := 168) (by decide +kernel)) rfl
theorem kfX3_16 : Cond.fieldLink RX3 16 "SafeNet$Sheets" (TX3 2).2.1 (TX3 2).2.2.1 ∈ zlwg := zlwg_of (List.mem_of_getElem? (i := 169) (by decide +kernel)) rfl
theorem kfX7_10 : Cond.fieldLink RX7 10 "SafeNet" (TX7 0).2.1 (TX7 0).2.2.1 ∈ zlwg := zlwg_of (List.mem_of_getElem? (i := 388) (by decide +kernel)) rfl
theorem kmX7_58 : Cond.methodLinkNest RX7 58 yX3_isNumber "SafeNet" ∈ znest := znest_of (List.mem_of_getElem? (i := 417) (by decide +kernel)) rfl
theorem kcX7_66 : Cond.constant RX7 66 (-1000001 : Int32) ∈ zlwg := zlwg_of (List.mem_of_getElem? (i := 424) (by decide +kernel)) rfl
theorem kmX7_62 : Cond.methodLink RX7 62 yX7_isWithin ∈ zlwg := zlwg_of (List.mem_of_getElem? (i := 421) (by decide +kernel)) rfl
theorem kmX7_71 : Cond.methodLinkNest RX7 71 yX3_lay "SafeNet" ∈ znest := znest_of (List.mem_of_getElem? (i := 430) (by decide +kernel)) rfl
theorem kmX7_75 : Cond.methodLink RX7 75 yX7_unfound ∈ zlwg := zlwg_of (List.mem_of_getElem? (i := 434) (by decide +kernel)) rfl
theorem kmX7_67 : Cond.methodLink RX7 67 yX7_found ∈ zlwg := zlwg_of (List.mem_of_getElem? (i := 425) (by decide +kernel)) rfl
theorem kcX8_86 : Cond.constantLong RX8 86 (7 : Int64) ∈ zlwg := zlwg_of (List.mem_of_getElem? (i := 1200) (by decide +kernel)) rfl
theorem kmX8_88 : Cond.methodLink RX8 88 yX8_in ∈ zlwg := zlwg_of (List.mem_of_getElem? (i := 1201) (by decide +kernel)) rfl
theorem kfX8_82 : Cond.fieldLink RX8 82 "SafeNetModel" (TX8 1).2.1 (TX8 1).2.2.1 ∈ zlwg := zlwg_of (List.mem_of_getElem? (i := 1054) (by decide +kernel)) rfl
theorem kcX8_85 : Cond.constant RX8 85 (-1000010 : Int32) ∈ zlwg := zlwg_of (List.mem_of_getElem? (i := 1210) (by decide +kernel)) rfl
theorem kfX8_16 : Cond.fieldLink RX8 16 "SafeNetModel" (TX8 4).2.1 (TX8 4).2.2.1 ∈ zlwg := zlwg_of (List.mem_of_getElem? (i := 1057) (by decide +kernel)) rfl
theorem kfX8_78 : Cond.fieldLink RX8 78 "SafeNetModel" (TX8 0).2.1 (TX8 0).2.2.1 ∈ zlwg := zlwg_of (List.mem_of_getElem? (i := 1053) (by decide +kernel)) rfl
theorem kmX8_92 : Cond.methodLink RX8 92 yX8_isSheet ∈ zlwg := zlwg_of (List.mem_of_getElem? (i := 1197) (by decide +kernel)) rfl
theorem kcX8_98 : Cond.constant RX8 98 (-1000001 : Int32) ∈ zlwg := zlwg_of (List.mem_of_getElem? (i := 1205) (by decide +kernel)) rfl
theorem kcX8_96 : Cond.constantLong RX8 96 (2 : Int64) ∈ zlwg := zlwg_of (List.mem_of_getElem? (i := 1204) (by decide +kernel)) rfl
theorem kfX8_7 : Cond.fieldLink RX8 7 "SafeNetModel" (TX8 2).2.1 (TX8 2).2.2.1 ∈ zlwg := zlwg_of (List.mem_of_getElem? (i := 1055) (by decide +kernel)) rfl
theorem kfX8_13 : Cond.fieldLink RX8 13 "SafeNetModel" (TX8 3).2.1 (TX8 3).2.2.1 ∈ zlwg := zlwg_of (List.mem_of_getElem? (i := 1056) (by decide +kernel)) rfl
theorem kmX8_99 : Cond.methodLink RX8 99 yX8_finding ∈ zlwg := zlwg_of (List.mem_of_getElem? (i := 1206) (by decide +kernel)) rfl
theorem kmX7_78 : Cond.methodLinkNest RX7 78 yX3_isMissing "SafeNet" ∈ znest := znest_of (List.mem_of_getElem? (i := 442) (by decide +kernel)) rfl
theorem kmX7_81 : Cond.methodLinkNest RX7 81 yX3_hasPlaces "SafeNet" ∈ znest := znest_of (List.mem_of_getElem? (i := 446) (by decide +kernel)) rfl
theorem kmX7_84 : Cond.methodLinkNest RX7 84 yX3_put "SafeNet" ∈ znest := znest_of (List.mem_of_getElem? (i := 450) (by decide +kernel)) rfl
theorem kcpX3_19 : Cond.methodLink RX3 19 arraycopyName ∈ zlwg ∧ Cond.native arraycopyName ∈ zlwg ∧ Cond.static arraycopyName ∈ zlwg ∧ Cond.initialized "java/lang/System" ∈ zlwg := ⟨zlwg_of (List.mem_of_getElem? (i := 466) (by decide +kernel)) rfl, zlwg_of (List.mem_of_getElem? (i := 468) (by decide +kernel)) rfl, zlwg_of (List.mem_of_getElem? (i := 467) (by decide +kernel)) rfl, zlwg_of (List.mem_of_getElem? (i := 146) (by decide +kernel)) rfl⟩
theorem kmX7_88 : Cond.methodLinkNest RX7 88 yX3_areOfOneLane "SafeNet" ∈ znest := znest_of (List.mem_of_getElem? (i := 458) (by decide +kernel)) rfl
theorem kmX7_92 : Cond.methodLinkNest RX7 92 yX3_move "SafeNet" ∈ znest := znest_of (List.mem_of_getElem? (i := 462) (by decide +kernel)) rfl
theorem kmX7_96 : Cond.methodLinkNest RX7 96 yX3_takeAway "SafeNet" ∈ znest := znest_of (List.mem_of_getElem? (i := 473) (by decide +kernel)) rfl
theorem kfX5_15 : Cond.fieldLink RX5 15 "SafeNet$Text" (TX5 1).2.1 (TX5 1).2.2.1 ∈ zlwg := zlwg_of (List.mem_of_getElem? (i := 185) (by decide +kernel)) rfl
theorem kfX5_11 : Cond.fieldLink RX5 11 "SafeNet$Text" (TX5 0).2.1 (TX5 0).2.2.1 ∈ zlwg := zlwg_of (List.mem_of_getElem? (i := 184) (by decide +kernel)) rfl
theorem kfX7_19 : Cond.fieldLink RX7 19 "SafeNet" (TX7 1).2.1 (TX7 1).2.2.1 ∈ zlwg := zlwg_of (List.mem_of_getElem? (i := 389) (by decide +kernel)) rfl
theorem kmX7_99 : Cond.methodLinkNest RX7 99 yX5_hasRoom "SafeNet" ∈ znest := znest_of (List.mem_of_getElem? (i := 481) (by decide +kernel)) rfl
theorem kcX7_102 : Cond.constant RX7 102 (-1000003 : Int32) ∈ zlwg := zlwg_of (List.mem_of_getElem? (i := 485) (by decide +kernel)) rfl
theorem kmX7_103 : Cond.methodLinkNest RX7 103 yX5_append "SafeNet" ∈ znest := znest_of (List.mem_of_getElem? (i := 486) (by decide +kernel)) rfl
theorem kfX8_105 : Cond.fieldLink RX8 105 "SafeNetModel" (TX8 20).2.1 (TX8 20).2.2.1 ∈ zlwg := zlwg_of (List.mem_of_getElem? (i := 1073) (by decide +kernel)) rfl
theorem kfX8_50 : Cond.fieldLink RX8 50 "SafeNetModel" (TX8 19).2.1 (TX8 19).2.2.1 ∈ zlwg := zlwg_of (List.mem_of_getElem? (i := 1072) (by decide +kernel)) rfl
theorem kcX8_109 : Cond.constantLong RX8 109 (255 : Int64) ∈ zlwg := zlwg_of (List.mem_of_getElem? (i := 1229) (by decide +kernel)) rfl
theorem kcX8_103 : Cond.constantLong RX8 103 (8 : Int64) ∈ zlwg := zlwg_of (List.mem_of_getElem? (i := 1227) (by decide +kernel)) rfl
theorem kcX8_108 : Cond.constant RX8 108 (-1000003 : Int32) ∈ zlwg := zlwg_of (List.mem_of_getElem? (i := 1228) (by decide +kernel)) rfl
theorem kfX5_19 : Cond.fieldLink RX5 19 "SafeNet$Text" (TX5 3).2.1 (TX5 3).2.2.1 ∈ zlwg := zlwg_of (List.mem_of_getElem? (i := 189) (by decide +kernel)) rfl
theorem kfX5_109 : Cond.fieldLink RX5 109 "SafeNet$Text" (TX5 2).2.1 (TX5 2).2.2.1 ∈ zlwg := zlwg_of (List.mem_of_getElem? (i := 188) (by decide +kernel)) rfl
theorem kfX5_25 : Cond.fieldLink RX5 25 "SafeNet$Text" (TX5 4).2.1 (TX5 4).2.2.1 ∈ zlwg := zlwg_of (List.mem_of_getElem? (i := 190) (by decide +kernel)) rfl
theorem kfX5_59 : Cond.fieldLink RX5 59 "SafeNet$Text" (TX5 5).2.1 (TX5 5).2.2.1 ∈ zlwg := zlwg_of (List.mem_of_getElem? (i := 191) (by decide +kernel)) rfl
theorem kmX5_121 : Cond.methodLink RX5 121 yX5_takeWorth ∈ zlwg := zlwg_of (List.mem_of_getElem? (i := 509) (by decide +kernel)) rfl
theorem kmX5_112 : Cond.methodLink RX5 112 yX5_sortAt ∈ zlwg := zlwg_of (List.mem_of_getElem? (i := 502) (by decide +kernel)) rfl
theorem kminX5_116 : Cond.methodLink RX5 116 Lib.Math.min.name ∈ zlwg ∧ Cond.static Lib.Math.min.name ∈ zlwg ∧ Cond.initialized "java/lang/Math" ∈ zlwg ∧ Cond.code Lib.Math.min.name Lib.Math.min.code 2 (some .int) ∈ zlwg := ⟨zlwg_of (List.mem_of_getElem? (i := 506) (by decide +kernel)) rfl, zlwg_of (List.mem_of_getElem? (i := 507) (by decide +kernel)) rfl, zlwg_of (List.mem_of_getElem? (i := 147) (by decide +kernel)) rfl, zlwg_of (List.mem_of_getElem? (i := 508) (by decide +kernel)) rfl⟩
theorem kfJ0_38 : Cond.fieldLink RJ0 38 "java/lang/String" "COMPACT_STRINGS" "Z" ∈ zlwg := zlwg_of (List.mem_of_getElem? (i := 530) (by decide +kernel)) rfl
theorem kfJ0_15 : Cond.fieldLink RJ0 15 "java/lang/String" "coder" "B" ∈ zlwg := zlwg_of (List.mem_of_getElem? (i := 1523) (by decide +kernel)) rfl
theorem kfJ0_9 : Cond.fieldLink RJ0 9 "java/lang/String" "value" "[B" ∈ zlwg := zlwg_of (List.mem_of_getElem? (i := 1522) (by decide +kernel)) rfl
theorem kmJ0_335 : Cond.methodLink RJ0 335 yJ0_coder_7d493 ∈ zlwg := zlwg_of (List.mem_of_getElem? (i := 526) (by decide +kernel)) rfl
theorem kmJ1_9 : Cond.methodLink RJ1 9 yJ0_checkIndex_df160 ∈ zlwg := zlwg_of (List.mem_of_getElem? (i := 543) (by decide +kernel)) rfl
theorem kmJ0_492 : Cond.methodLink RJ0 492 yJ0_isLatin1_aae02 ∈ zlwg := zlwg_of (List.mem_of_getElem? (i := 536) (by decide +kernel)) rfl
theorem kmJ0_495 : Cond.methodLink RJ0 495 yJ1_charAt_3b067 ∈ zlwg := zlwg_of (List.mem_of_getElem? (i := 540) (by decide +kernel)) rfl
theorem kmX5_124 : Cond.methodLink RX5 124 yJ0_length_8abf5 ∈ zlwg := zlwg_of (List.mem_of_getElem? (i := 522) (by decide +kernel)) rfl
theorem kmX5_128 : Cond.methodLink RX5 128 yJ0_charAt_5068e ∈ zlwg := zlwg_of (List.mem_of_getElem? (i := 532) (by decide +kernel)) rfl
theorem kfX2_51 : Cond.fieldLink RX2 51 "SafeNet$Net" (TX2 0).2.1 (TX2 0).2.2.1 ∈ zlwg := zlwg_of (List.mem_of_getElem? (i := 212) (by decide +kernel)) rfl
theorem kfX2_9 : Cond.fieldLink RX2 9 "SafeNet$Net" (TX2 3).2.1 (TX2 3).2.2.1 ∈ zlwg := zlwg_of (List.mem_of_getElem? (i := 221) (by decide +kernel)) rfl
theorem kfX2_15 : Cond.fieldLink RX2 15 "SafeNet$Net" (TX2 4).2.1 (TX2 4).2.2.1 ∈ zlwg := zlwg_of (List.mem_of_getElem? (i := 223) (by decide +kernel)) rfl
theorem kfX2_18 : Cond.fieldLink RX2 18 "SafeNet$Net" (TX2 5).2.1 (TX2 5).2.2.1 ∈ zlwg := zlwg_of (List.mem_of_getElem? (i := 226) (by decide +kernel)) rfl
theorem kfX2_21 : Cond.fieldLink RX2 21 "SafeNet$Net" (TX2 6).2.1 (TX2 6).2.2.1 ∈ zlwg := zlwg_of (List.mem_of_getElem? (i := 228) (by decide +kernel)) rfl
theorem kfX2_24 : Cond.fieldLink RX2 24 "SafeNet$Net" (TX2 7).2.1 (TX2 7).2.2.1 ∈ zlwg := zlwg_of (List.mem_of_getElem? (i := 230) (by decide +kernel)) rfl
theorem kmX5_22 : Cond.methodLink RX5 22 yX5_take ∈ zlwg := zlwg_of (List.mem_of_getElem? (i := 498) (by decide +kernel)) rfl
theorem kfX5_54 : Cond.fieldLinkNest RX5 54 "SafeNet$Net" (TX2 0).2.1 (TX2 0).2.2.1 "SafeNet" ∈ znest := znest_of (List.mem_of_getElem? (i := 213) (by decide +kernel)) rfl
theorem kmX5_62 : Cond.methodLinkNest RX5 62 yX2_addNode "SafeNet" ∈ znest := znest_of (List.mem_of_getElem? (i := 574) (by decide +kernel)) rfl
theorem kmX5_66 : Cond.methodLink RX5 66 yX5_readSign ∈ zlwg := zlwg_of (List.mem_of_getElem? (i := 578) (by decide +kernel)) rfl
theorem kmX5_34 : Cond.methodLink RX5 34 yX5_isWord ∈ zlwg := zlwg_of (List.mem_of_getElem? (i := 518) (by decide +kernel)) rfl
theorem kmX2_55 : Cond.methodLink RX2 55 yX2_hasNode ∈ zlwg := zlwg_of (List.mem_of_getElem? (i := 605) (by decide +kernel)) rfl
theorem kfX2_59 : Cond.fieldLink RX2 59 "SafeNet$Net" (TX2 1).2.1 (TX2 1).2.2.1 ∈ zlwg := zlwg_of (List.mem_of_getElem? (i := 215) (by decide +kernel)) rfl
theorem kfX2_45 : Cond.fieldLink RX2 45 "SafeNet$Net" (TX2 14).2.1 (TX2 14).2.2.1 ∈ zlwg := zlwg_of (List.mem_of_getElem? (i := 243) (by decide +kernel)) rfl
theorem kminX2_69 : Cond.methodLink RX2 69 Lib.Math.min.name ∈ zlwg ∧ Cond.static Lib.Math.min.name ∈ zlwg ∧ Cond.initialized "java/lang/Math" ∈ zlwg ∧ Cond.code Lib.Math.min.name Lib.Math.min.code 2 (some .int) ∈ zlwg := ⟨zlwg_of (List.mem_of_getElem? (i := 613) (by decide +kernel)) rfl, zlwg_of (List.mem_of_getElem? (i := 507) (by decide +kernel)) rfl, zlwg_of (List.mem_of_getElem? (i := 147) (by decide +kernel)) rfl, zlwg_of (List.mem_of_getElem? (i := 508) (by decide +kernel)) rfl⟩
theorem kfX2_27 : Cond.fieldLink RX2 27 "SafeNet$Net" (TX2 8).2.1 (TX2 8).2.2.1 ∈ zlwg := zlwg_of (List.mem_of_getElem? (i := 232) (by decide +kernel)) rfl
theorem kfX2_30 : Cond.fieldLink RX2 30 "SafeNet$Net" (TX2 9).2.1 (TX2 9).2.2.1 ∈ zlwg := zlwg_of (List.mem_of_getElem? (i := 234) (by decide +kernel)) rfl
theorem kfX2_33 : Cond.fieldLink RX2 33 "SafeNet$Net" (TX2 10).2.1 (TX2 10).2.2.1 ∈ zlwg := zlwg_of (List.mem_of_getElem? (i := 236) (by decide +kernel)) rfl
theorem kfX2_36 : Cond.fieldLink RX2 36 "SafeNet$Net" (TX2 11).2.1 (TX2 11).2.2.1 ∈ zlwg := zlwg_of (List.mem_of_getElem? (i := 239) (by decide +kernel)) rfl
theorem kfX2_42 : Cond.fieldLink RX2 42 "SafeNet$Net" (TX2 13).2.1 (TX2 13).2.2.1 ∈ zlwg := zlwg_of (List.mem_of_getElem? (i := 241) (by decide +kernel)) rfl
theorem kfX2_66 : Cond.fieldLink RX2 66 "SafeNet$Net" "DOUBTS_BY_FORM" "[I" ∈ zlwg := zlwg_of (List.mem_of_getElem? (i := 614) (by decide +kernel)) rfl
theorem kmX2_62 : Cond.methodLinkNest RX2 62 yX7_bitAt "SafeNet" ∈ znest := znest_of (List.mem_of_getElem? (i := 625) (by decide +kernel)) rfl
theorem kfX2_39 : Cond.fieldLink RX2 39 "SafeNet$Net" (TX2 12).2.1 (TX2 12).2.2.1 ∈ zlwg := zlwg_of (List.mem_of_getElem? (i := 240) (by decide +kernel)) rfl
theorem kmX5_87 : Cond.methodLinkNest RX5 87 yX2_hasNode "SafeNet" ∈ znest := znest_of (List.mem_of_getElem? (i := 620) (by decide +kernel)) rfl
theorem kmX5_90 : Cond.methodLinkNest RX5 90 yX2_hasPart "SafeNet" ∈ znest := znest_of (List.mem_of_getElem? (i := 621) (by decide +kernel)) rfl
theorem kfX5_94 : Cond.fieldLinkNest RX5 94 "SafeNet$Net" (TX2 10).2.1 (TX2 10).2.2.1 "SafeNet" ∈ znest := znest_of (List.mem_of_getElem? (i := 237) (by decide +kernel)) rfl
theorem kmX5_98 : Cond.methodLinkNest RX5 98 yX2_addPart "SafeNet" ∈ znest := znest_of (List.mem_of_getElem? (i := 628) (by decide +kernel)) rfl
theorem kmX5_84 : Cond.methodLink RX5 84 yX5_readPart ∈ zlwg := zlwg_of (List.mem_of_getElem? (i := 616) (by decide +kernel)) rfl
theorem kfX5_70 : Cond.fieldLinkNest RX5 70 "SafeNet$Net" (TX2 1).2.1 (TX2 1).2.2.1 "SafeNet" ∈ znest := znest_of (List.mem_of_getElem? (i := 217) (by decide +kernel)) rfl
theorem kmX5_73 : Cond.methodLink RX5 73 yX5_formTold ∈ zlwg := zlwg_of (List.mem_of_getElem? (i := 593) (by decide +kernel)) rfl
theorem kmX5_76 : Cond.methodLinkNest RX5 76 yX2_isClaim "SafeNet" ∈ znest := znest_of (List.mem_of_getElem? (i := 601) (by decide +kernel)) rfl
theorem kmX5_80 : Cond.methodLinkNest RX5 80 yX2_addStep "SafeNet" ∈ znest := znest_of (List.mem_of_getElem? (i := 609) (by decide +kernel)) rfl
theorem kmX5_51 : Cond.methodLink RX5 51 yX5_readStep ∈ zlwg := zlwg_of (List.mem_of_getElem? (i := 589) (by decide +kernel)) rfl
theorem kmX5_46 : Cond.methodLink RX5 46 yX5_readClaim ∈ zlwg := zlwg_of (List.mem_of_getElem? (i := 584) (by decide +kernel)) rfl
theorem kmX5_38 : Cond.methodLink RX5 38 yX5_readGround ∈ zlwg := zlwg_of (List.mem_of_getElem? (i := 570) (by decide +kernel)) rfl
theorem kmX5_28 : Cond.methodLink RX5 28 yX5_readSentence ∈ zlwg := zlwg_of (List.mem_of_getElem? (i := 513) (by decide +kernel)) rfl
theorem kfX7_26 : Cond.fieldLink RX7 26 "SafeNet" (TX7 2).2.1 (TX7 2).2.2.1 ∈ zlwg := zlwg_of (List.mem_of_getElem? (i := 390) (by decide +kernel)) rfl
theorem kfX7_107 : Cond.fieldLinkNest RX7 107 "SafeNet$Net" (TX2 0).2.1 (TX2 0).2.2.1 "SafeNet" ∈ znest := znest_of (List.mem_of_getElem? (i := 214) (by decide +kernel)) rfl
theorem kfX7_110 : Cond.fieldLinkNest RX7 110 "SafeNet$Net" (TX2 1).2.1 (TX2 1).2.2.1 "SafeNet" ∈ znest := znest_of (List.mem_of_getElem? (i := 216) (by decide +kernel)) rfl
theorem kmX7_113 : Cond.methodLinkNest RX7 113 yX5_read "SafeNet" ∈ znest := znest_of (List.mem_of_getElem? (i := 494) (by decide +kernel)) rfl
theorem kmX7_117 : Cond.methodLinkNest RX7 117 yX2_cutBack "SafeNet" ∈ znest := znest_of (List.mem_of_getElem? (i := 632) (by decide +kernel)) rfl
theorem kfX7_51 : Cond.fieldLink RX7 51 "SafeNet" (TX7 6).2.1 (TX7 6).2.2.1 ∈ zlwg := zlwg_of (List.mem_of_getElem? (i := 394) (by decide +kernel)) rfl
theorem kcX7_121 : Cond.constant RX7 121 (-1000100 : Int32) ∈ zlwg := zlwg_of (List.mem_of_getElem? (i := 636) (by decide +kernel)) rfl
theorem kfX7_122 : Cond.fieldLinkNest RX7 122 "SafeNet$Text" (TX5 2).2.1 (TX5 2).2.2.1 "SafeNet" ∈ znest := znest_of (List.mem_of_getElem? (i := 187) (by decide +kernel)) rfl
theorem kfX8_111 : Cond.fieldLink RX8 111 "SafeNetModel" (TX8 22).2.1 (TX8 22).2.2.1 ∈ zlwg := zlwg_of (List.mem_of_getElem? (i := 1075) (by decide +kernel)) rfl
theorem kcX8_114 : Cond.constant RX8 114 (-1000000 : Int32) ∈ zlwg := zlwg_of (List.mem_of_getElem? (i := 1242) (by decide +kernel)) rfl
theorem kfX8_115 : Cond.fieldLink RX8 115 "SafeNetModel" (TX8 23).2.1 (TX8 23).2.2.1 ∈ zlwg := zlwg_of (List.mem_of_getElem? (i := 1076) (by decide +kernel)) rfl
theorem kfX8_133 : Cond.fieldLink RX8 133 "SafeNetModel" (TX8 26).2.1 (TX8 26).2.2.1 ∈ zlwg := zlwg_of (List.mem_of_getElem? (i := 1079) (by decide +kernel)) rfl
theorem kmX8_118 : Cond.methodLink RX8 118 yX8_byteAt ∈ zlwg := zlwg_of (List.mem_of_getElem? (i := 1238) (by decide +kernel)) rfl
theorem kmX8_127 : Cond.methodLink RX8 127 yX8_isLetter ∈ zlwg := zlwg_of (List.mem_of_getElem? (i := 1243) (by decide +kernel)) rfl
theorem kfX8_124 : Cond.fieldLink RX8 124 "SafeNetModel" (TX8 24).2.1 (TX8 24).2.2.1 ∈ zlwg := zlwg_of (List.mem_of_getElem? (i := 1077) (by decide +kernel)) rfl
theorem kmX8_130 : Cond.methodLink RX8 130 yX8_isFigure ∈ zlwg := zlwg_of (List.mem_of_getElem? (i := 1246) (by decide +kernel)) rfl
theorem kfX8_121 : Cond.fieldLink RX8 121 "SafeNetModel" (TX8 25).2.1 (TX8 25).2.2.1 ∈ zlwg := zlwg_of (List.mem_of_getElem? (i := 1078) (by decide +kernel)) rfl
theorem kfX8_136 : Cond.fieldLink RX8 136 "SafeNetModel" (TX8 27).2.1 (TX8 27).2.2.1 ∈ zlwg := zlwg_of (List.mem_of_getElem? (i := 1080) (by decide +kernel)) rfl
theorem kfX8_139 : Cond.fieldLink RX8 139 "SafeNetModel" (TX8 28).2.1 (TX8 28).2.2.1 ∈ zlwg := zlwg_of (List.mem_of_getElem? (i := 1081) (by decide +kernel)) rfl
theorem kmX8_146 : Cond.methodLink RX8 146 yX8_next ∈ zlwg := zlwg_of (List.mem_of_getElem? (i := 1234) (by decide +kernel)) rfl
theorem kmX8_142 : Cond.methodLink RX8 142 yX8_bad ∈ zlwg := zlwg_of (List.mem_of_getElem? (i := 1257) (by decide +kernel)) rfl
theorem kfX8_149 : Cond.fieldLink RX8 149 "SafeNetModel" (TX8 7).2.1 (TX8 7).2.2.1 ∈ zlwg := zlwg_of (List.mem_of_getElem? (i := 1060) (by decide +kernel)) rfl
theorem kmX8_162 : Cond.methodLink RX8 162 yX8_must ∈ zlwg := zlwg_of (List.mem_of_getElem? (i := 1261) (by decide +kernel)) rfl
theorem kfX8_31 : Cond.fieldLink RX8 31 "SafeNetModel" (TX8 13).2.1 (TX8 13).2.2.1 ∈ zlwg := zlwg_of (List.mem_of_getElem? (i := 1066) (by decide +kernel)) rfl
theorem kcX8_156 : Cond.constantLong RX8 156 (427020085613 : Int64) ∈ zlwg := zlwg_of (List.mem_of_getElem? (i := 1255) (by decide +kernel)) rfl
theorem kfX8_22 : Cond.fieldLink RX8 22 "SafeNetModel" (TX8 10).2.1 (TX8 10).2.2.1 ∈ zlwg := zlwg_of (List.mem_of_getElem? (i := 1063) (by decide +kernel)) rfl
theorem kmX8_158 : Cond.methodLink RX8 158 yX8_numberHere ∈ zlwg := zlwg_of (List.mem_of_getElem? (i := 1269) (by decide +kernel)) rfl
theorem kfX8_28 : Cond.fieldLink RX8 28 "SafeNetModel" (TX8 12).2.1 (TX8 12).2.2.1 ∈ zlwg := zlwg_of (List.mem_of_getElem? (i := 1065) (by decide +kernel)) rfl
theorem kfX8_25 : Cond.fieldLink RX8 25 "SafeNetModel" (TX8 11).2.1 (TX8 11).2.2.1 ∈ zlwg := zlwg_of (List.mem_of_getElem? (i := 1064) (by decide +kernel)) rfl
theorem kfX8_19 : Cond.fieldLink RX8 19 "SafeNetModel" (TX8 9).2.1 (TX8 9).2.2.1 ∈ zlwg := zlwg_of (List.mem_of_getElem? (i := 1062) (by decide +kernel)) rfl
theorem kcX8_152 : Cond.constantLong RX8 152 (1818583398 : Int64) ∈ zlwg := zlwg_of (List.mem_of_getElem? (i := 1253) (by decide +kernel)) rfl
theorem kcX8_154 : Cond.constantLong RX8 154 (444150998382 : Int64) ∈ zlwg := zlwg_of (List.mem_of_getElem? (i := 1254) (by decide +kernel)) rfl
theorem kfX8_41 : Cond.fieldLink RX8 41 "SafeNetModel" (TX8 16).2.1 (TX8 16).2.2.1 ∈ zlwg := zlwg_of (List.mem_of_getElem? (i := 1069) (by decide +kernel)) rfl
theorem kfX8_44 : Cond.fieldLink RX8 44 "SafeNetModel" (TX8 17).2.1 (TX8 17).2.2.1 ∈ zlwg := zlwg_of (List.mem_of_getElem? (i := 1070) (by decide +kernel)) rfl
theorem kfX8_166 : Cond.fieldLink RX8 166 "SafeNetModel" (TX8 8).2.1 (TX8 8).2.2.1 ∈ zlwg := zlwg_of (List.mem_of_getElem? (i := 1061) (by decide +kernel)) rfl
theorem kfX8_47 : Cond.fieldLink RX8 47 "SafeNetModel" (TX8 18).2.1 (TX8 18).2.2.1 ∈ zlwg := zlwg_of (List.mem_of_getElem? (i := 1071) (by decide +kernel)) rfl
theorem kmX8_181 : Cond.methodLink RX8 181 yX8_isPart ∈ zlwg := zlwg_of (List.mem_of_getElem? (i := 1281) (by decide +kernel)) rfl
theorem kfX8_38 : Cond.fieldLink RX8 38 "SafeNetModel" (TX8 15).2.1 (TX8 15).2.2.1 ∈ zlwg := zlwg_of (List.mem_of_getElem? (i := 1068) (by decide +kernel)) rfl
theorem kfX8_35 : Cond.fieldLink RX8 35 "SafeNetModel" (TX8 14).2.1 (TX8 14).2.2.1 ∈ zlwg := zlwg_of (List.mem_of_getElem? (i := 1067) (by decide +kernel)) rfl
theorem kmX8_169 : Cond.methodLink RX8 169 yX8_word ∈ zlwg := zlwg_of (List.mem_of_getElem? (i := 1249) (by decide +kernel)) rfl
theorem kcX8_173 : Cond.constantLong RX8 173 (6384748 : Int64) ∈ zlwg := zlwg_of (List.mem_of_getElem? (i := 1277) (by decide +kernel)) rfl
theorem kcX8_175 : Cond.constantLong RX8 175 (6385273 : Int64) ∈ zlwg := zlwg_of (List.mem_of_getElem? (i := 1278) (by decide +kernel)) rfl
theorem kcX8_177 : Cond.constantLong RX8 177 (1836020596 : Int64) ∈ zlwg := zlwg_of (List.mem_of_getElem? (i := 1279) (by decide +kernel)) rfl
theorem kcX8_179 : Cond.constantLong RX8 179 (1818848101 : Int64) ∈ zlwg := zlwg_of (List.mem_of_getElem? (i := 1280) (by decide +kernel)) rfl
theorem kmX8_197 : Cond.methodLink RX8 197 yX8_readStep ∈ zlwg := zlwg_of (List.mem_of_getElem? (i := 1273) (by decide +kernel)) rfl
theorem kmX8_193 : Cond.methodLink RX8 193 yX8_readNode ∈ zlwg := zlwg_of (List.mem_of_getElem? (i := 1265) (by decide +kernel)) rfl
theorem kcX8_191 : Cond.constantLong RX8 191 (1937007984 : Int64) ∈ zlwg := zlwg_of (List.mem_of_getElem? (i := 1256) (by decide +kernel)) rfl
theorem kfX8_185 : Cond.fieldLink RX8 185 "SafeNetModel" (TX8 5).2.1 (TX8 5).2.2.1 ∈ zlwg := zlwg_of (List.mem_of_getElem? (i := 1058) (by decide +kernel)) rfl
theorem kfX8_188 : Cond.fieldLink RX8 188 "SafeNetModel" (TX8 6).2.1 (TX8 6).2.2.1 ∈ zlwg := zlwg_of (List.mem_of_getElem? (i := 1059) (by decide +kernel)) rfl
theorem kfX8_200 : Cond.fieldLink RX8 200 "SafeNetModel" (TX8 21).2.1 (TX8 21).2.2.1 ∈ zlwg := zlwg_of (List.mem_of_getElem? (i := 1074) (by decide +kernel)) rfl
theorem kcX8_203 : Cond.constant RX8 203 (-1000100 : Int32) ∈ zlwg := zlwg_of (List.mem_of_getElem? (i := 1285) (by decide +kernel)) rfl
theorem kfX2_78 : Cond.fieldLink RX2 78 "SafeNet$Net" (TX2 2).2.1 (TX2 2).2.2.1 ∈ zlwg := zlwg_of (List.mem_of_getElem? (i := 219) (by decide +kernel)) rfl
theorem kmX2_85 : Cond.methodLink RX2 85 yX2_stands ∈ zlwg := zlwg_of (List.mem_of_getElem? (i := 656) (by decide +kernel)) rfl
theorem kcJ6_265 : Cond.constant RJ6 265 (1431655765 : Int32) ∈ zlwg := zlwg_of (List.mem_of_getElem? (i := 675) (by decide +kernel)) rfl
theorem kcJ6_266 : Cond.constant RJ6 266 (858993459 : Int32) ∈ zlwg := zlwg_of (List.mem_of_getElem? (i := 676) (by decide +kernel)) rfl
theorem kcJ6_267 : Cond.constant RJ6 267 (252645135 : Int32) ∈ zlwg := zlwg_of (List.mem_of_getElem? (i := 677) (by decide +kernel)) rfl
theorem kmX2_88 : Cond.methodLink RX2 88 yJ6_bitCount_0f7a4 ∈ zlwg := zlwg_of (List.mem_of_getElem? (i := 672) (by decide +kernel)) rfl
theorem kmX2_93 : Cond.methodLink RX2 93 yX2_isBorneUp ∈ zlwg := zlwg_of (List.mem_of_getElem? (i := 668) (by decide +kernel)) rfl
theorem kmX2_97 : Cond.methodLink RX2 97 yX2_nextRound ∈ zlwg := zlwg_of (List.mem_of_getElem? (i := 664) (by decide +kernel)) rfl
theorem kmX2_100 : Cond.methodLink RX2 100 yX2_standing ∈ zlwg := zlwg_of (List.mem_of_getElem? (i := 652) (by decide +kernel)) rfl
theorem kmX2_103 : Cond.methodLink RX2 103 yX2_spread ∈ zlwg := zlwg_of (List.mem_of_getElem? (i := 660) (by decide +kernel)) rfl
theorem kmX7_125 : Cond.methodLinkNest RX7 125 yX2_hasNode "SafeNet" ∈ znest := znest_of (List.mem_of_getElem? (i := 645) (by decide +kernel)) rfl
theorem kmX7_128 : Cond.methodLinkNest RX7 128 yX2_isClaim "SafeNet" ∈ znest := znest_of (List.mem_of_getElem? (i := 646) (by decide +kernel)) rfl
theorem kfX7_131 : Cond.fieldLinkNest RX7 131 "SafeNet$Net" (TX2 3).2.1 (TX2 3).2.2.1 "SafeNet" ∈ znest := znest_of (List.mem_of_getElem? (i := 222) (by decide +kernel)) rfl
theorem kfX7_136 : Cond.fieldLinkNest RX7 136 "SafeNet$Net" (TX2 4).2.1 (TX2 4).2.2.1 "SafeNet" ∈ znest := znest_of (List.mem_of_getElem? (i := 225) (by decide +kernel)) rfl
theorem kcX7_135 : Cond.constant RX7 135 (-1000000 : Int32) ∈ zlwg := zlwg_of (List.mem_of_getElem? (i := 647) (by decide +kernel)) rfl
theorem kfX7_139 : Cond.fieldLinkNest RX7 139 "SafeNet$Net" (TX2 5).2.1 (TX2 5).2.2.1 "SafeNet" ∈ znest := znest_of (List.mem_of_getElem? (i := 227) (by decide +kernel)) rfl
theorem kfX7_142 : Cond.fieldLinkNest RX7 142 "SafeNet$Net" (TX2 6).2.1 (TX2 6).2.2.1 "SafeNet" ∈ znest := znest_of (List.mem_of_getElem? (i := 229) (by decide +kernel)) rfl
theorem kfX7_145 : Cond.fieldLinkNest RX7 145 "SafeNet$Net" (TX2 7).2.1 (TX2 7).2.2.1 "SafeNet" ∈ znest := znest_of (List.mem_of_getElem? (i := 231) (by decide +kernel)) rfl
theorem kmX7_148 : Cond.methodLinkNest RX7 148 yX2_shownNow "SafeNet" ∈ znest := znest_of (List.mem_of_getElem? (i := 648) (by decide +kernel)) rfl
theorem kmX7_152 : Cond.methodLink RX7 152 yX7_bitAt ∈ zlwg := zlwg_of (List.mem_of_getElem? (i := 678) (by decide +kernel)) rfl
theorem kfX8_207 : Cond.fieldLink RX8 207 "SafeNetModel" (TX8 29).2.1 (TX8 29).2.2.1 ∈ zlwg := zlwg_of (List.mem_of_getElem? (i := 1082) (by decide +kernel)) rfl
theorem kmX8_210 : Cond.methodLink RX8 210 yX8_stands ∈ zlwg := zlwg_of (List.mem_of_getElem? (i := 1302) (by decide +kernel)) rfl
theorem kmX8_213 : Cond.methodLink RX8 213 yX8_doubtsOf ∈ zlwg := zlwg_of (List.mem_of_getElem? (i := 1314) (by decide +kernel)) rfl
theorem kfX8_216 : Cond.fieldLink RX8 216 "SafeNetModel" (TX8 30).2.1 (TX8 30).2.2.1 ∈ zlwg := zlwg_of (List.mem_of_getElem? (i := 1083) (by decide +kernel)) rfl
theorem kmX8_219 : Cond.methodLink RX8 219 yX8_openOf ∈ zlwg := zlwg_of (List.mem_of_getElem? (i := 1310) (by decide +kernel)) rfl
theorem kmX8_222 : Cond.methodLink RX8 222 yX8_isBorneUp ∈ zlwg := zlwg_of (List.mem_of_getElem? (i := 1317) (by decide +kernel)) rfl
theorem kmX8_225 : Cond.methodLink RX8 225 yX8_standing ∈ zlwg := zlwg_of (List.mem_of_getElem? (i := 1298) (by decide +kernel)) rfl
theorem kmX8_228 : Cond.methodLink RX8 228 yX8_shownBy ∈ zlwg := zlwg_of (List.mem_of_getElem? (i := 1306) (by decide +kernel)) rfl
theorem kmX8_204 : Cond.methodLink RX8 204 yX8_isNode ∈ zlwg := zlwg_of (List.mem_of_getElem? (i := 1333) (by decide +kernel)) rfl
theorem kcX8_254 : Cond.constantLong RX8 254 (5 : Int64) ∈ zlwg := zlwg_of (List.mem_of_getElem? (i := 1365) (by decide +kernel)) rfl
theorem kmX8_232 : Cond.methodLink RX8 232 yX8_shownNow ∈ zlwg := zlwg_of (List.mem_of_getElem? (i := 1294) (by decide +kernel)) rfl
theorem kmX7_156 : Cond.methodLinkNest RX7 156 yX2_hasStep "SafeNet" ∈ znest := znest_of (List.mem_of_getElem? (i := 683) (by decide +kernel)) rfl
theorem kfX7_159 : Cond.fieldLinkNest RX7 159 "SafeNet$Net" (TX2 8).2.1 (TX2 8).2.2.1 "SafeNet" ∈ znest := znest_of (List.mem_of_getElem? (i := 233) (by decide +kernel)) rfl
theorem kfX7_162 : Cond.fieldLinkNest RX7 162 "SafeNet$Net" (TX2 9).2.1 (TX2 9).2.2.1 "SafeNet" ∈ znest := znest_of (List.mem_of_getElem? (i := 235) (by decide +kernel)) rfl
theorem kfX7_165 : Cond.fieldLinkNest RX7 165 "SafeNet$Net" (TX2 10).2.1 (TX2 10).2.2.1 "SafeNet" ∈ znest := znest_of (List.mem_of_getElem? (i := 238) (by decide +kernel)) rfl
theorem kmX7_168 : Cond.methodLinkNest RX7 168 yX2_doubtsOf "SafeNet" ∈ znest := znest_of (List.mem_of_getElem? (i := 687) (by decide +kernel)) rfl
theorem kfX7_171 : Cond.fieldLinkNest RX7 171 "SafeNet$Net" (TX2 13).2.1 (TX2 13).2.2.1 "SafeNet" ∈ znest := znest_of (List.mem_of_getElem? (i := 242) (by decide +kernel)) rfl
theorem kmX7_174 : Cond.methodLinkNest RX7 174 yX2_isBorneUp "SafeNet" ∈ znest := znest_of (List.mem_of_getElem? (i := 691) (by decide +kernel)) rfl
theorem kmX8_256 : Cond.methodLink RX8 256 yX8_isStep ∈ zlwg := zlwg_of (List.mem_of_getElem? (i := 1370) (by decide +kernel)) rfl
theorem kmX7_177 : Cond.methodLinkNest RX7 177 yX2_partAt "SafeNet" ∈ znest := znest_of (List.mem_of_getElem? (i := 696) (by decide +kernel)) rfl
theorem kmX7_180 : Cond.methodLinkNest RX7 180 yX2_tellDoubt "SafeNet" ∈ znest := znest_of (List.mem_of_getElem? (i := 704) (by decide +kernel)) rfl
theorem kcX8_259 : Cond.constantLong RX8 259 (11 : Int64) ∈ zlwg := zlwg_of (List.mem_of_getElem? (i := 1382) (by decide +kernel)) rfl
theorem kmX2_74 : Cond.methodLink RX2 74 yX2_doubtsOf ∈ zlwg := zlwg_of (List.mem_of_getElem? (i := 716) (by decide +kernel)) rfl
theorem kmX7_183 : Cond.methodLinkNest RX7 183 yX2_doubtsToldAs "SafeNet" ∈ znest := znest_of (List.mem_of_getElem? (i := 712) (by decide +kernel)) rfl
theorem kcX8_261 : Cond.constantLong RX8 261 (9 : Int64) ∈ zlwg := zlwg_of (List.mem_of_getElem? (i := 1387) (by decide +kernel)) rfl
theorem kmX7_307 : Cond.methodLinkNest RX7 307 yX3_itemAt "SafeNet" ∈ znest := znest_of (List.mem_of_getElem? (i := 725) (by decide +kernel)) rfl
theorem kmX7_192 : Cond.methodLinkNest RX7 192 yX2_isGround "SafeNet" ∈ znest := znest_of (List.mem_of_getElem? (i := 729) (by decide +kernel)) rfl
theorem kmX7_189 : Cond.methodLink RX7 189 yX7_tellLook ∈ zlwg := zlwg_of (List.mem_of_getElem? (i := 733) (by decide +kernel)) rfl
theorem kmX7_186 : Cond.methodLink RX7 186 yX7_isLook ∈ zlwg := zlwg_of (List.mem_of_getElem? (i := 721) (by decide +kernel)) rfl
theorem kmX8_263 : Cond.methodLink RX8 263 yX8_isLeaf ∈ zlwg := zlwg_of (List.mem_of_getElem? (i := 1392) (by decide +kernel)) rfl
theorem kcX8_266 : Cond.constantLong RX8 266 (9999 : Int64) ∈ zlwg := zlwg_of (List.mem_of_getElem? (i := 1396) (by decide +kernel)) rfl
theorem kfX7_195 : Cond.fieldLinkNest RX7 195 "SafeNet$Net" (TX2 2).2.1 (TX2 2).2.2.1 "SafeNet" ∈ znest := znest_of (List.mem_of_getElem? (i := 220) (by decide +kernel)) rfl
theorem kfX2_48 : Cond.fieldLink RX2 48 "SafeNet$Net" (TX2 15).2.1 (TX2 15).2.2.1 ∈ zlwg := zlwg_of (List.mem_of_getElem? (i := 244) (by decide +kernel)) rfl
theorem kmX7_198 : Cond.methodLinkNest RX7 198 yX2_claims "SafeNet" ∈ znest := znest_of (List.mem_of_getElem? (i := 749) (by decide +kernel)) rfl
theorem kmX7_201 : Cond.methodLinkNest RX7 201 yX2_roundsNow "SafeNet" ∈ znest := znest_of (List.mem_of_getElem? (i := 753) (by decide +kernel)) rfl
theorem kmX7_204 : Cond.methodLinkNest RX7 204 yX2_circles "SafeNet" ∈ znest := znest_of (List.mem_of_getElem? (i := 757) (by decide +kernel)) rfl
theorem kmX8_238 : Cond.methodLink RX8 238 yX8_reachedFrom ∈ zlwg := zlwg_of (List.mem_of_getElem? (i := 1325) (by decide +kernel)) rfl
theorem kmX8_235 : Cond.methodLink RX8 235 yX8_claims ∈ zlwg := zlwg_of (List.mem_of_getElem? (i := 1321) (by decide +kernel)) rfl
theorem kmX7_207 : Cond.methodLinkNest RX7 207 yX2_standing "SafeNet" ∈ znest := znest_of (List.mem_of_getElem? (i := 765) (by decide +kernel)) rfl
theorem kmX7_210 : Cond.methodLinkNest RX7 210 yX2_spread "SafeNet" ∈ znest := znest_of (List.mem_of_getElem? (i := 766) (by decide +kernel)) rfl
theorem kfX1_30 : Cond.fieldLink RX1 30 "SafeNet$FellingSets" (TX1 4).2.1 (TX1 4).2.2.1 ∈ zlwg := zlwg_of (List.mem_of_getElem? (i := 288) (by decide +kernel)) rfl
theorem kfX1_25 : Cond.fieldLink RX1 25 "SafeNet$FellingSets" (TX1 2).2.1 (TX1 2).2.2.1 ∈ zlwg := zlwg_of (List.mem_of_getElem? (i := 286) (by decide +kernel)) rfl
theorem kmX1_56 : Cond.methodLinkNest RX1 56 yX2_spread "SafeNet" ∈ znest := znest_of (List.mem_of_getElem? (i := 787) (by decide +kernel)) rfl
theorem kfX1_15 : Cond.fieldLink RX1 15 "SafeNet$FellingSets" (TX1 1).2.1 (TX1 1).2.2.1 ∈ zlwg := zlwg_of (List.mem_of_getElem? (i := 285) (by decide +kernel)) rfl
theorem kmX1_48 : Cond.methodLinkNest RX1 48 yX7_bitAt "SafeNet" ∈ znest := znest_of (List.mem_of_getElem? (i := 782) (by decide +kernel)) rfl
theorem kfX1_27 : Cond.fieldLink RX1 27 "SafeNet$FellingSets" (TX1 3).2.1 (TX1 3).2.2.1 ∈ zlwg := zlwg_of (List.mem_of_getElem? (i := 287) (by decide +kernel)) rfl
theorem kfX1_34 : Cond.fieldLink RX1 34 "SafeNet$FellingSets" (TX1 5).2.1 (TX1 5).2.2.1 ∈ zlwg := zlwg_of (List.mem_of_getElem? (i := 289) (by decide +kernel)) rfl
theorem kmX1_52 : Cond.methodLink RX1 52 yX1_countIfItFells ∈ zlwg := zlwg_of (List.mem_of_getElem? (i := 783) (by decide +kernel)) rfl
theorem kfX1_9 : Cond.fieldLink RX1 9 "SafeNet$FellingSets" (TX1 0).2.1 (TX1 0).2.2.1 ∈ zlwg := zlwg_of (List.mem_of_getElem? (i := 284) (by decide +kernel)) rfl
theorem kmX1_19 : Cond.methodLinkNest RX1 19 yX2_standing "SafeNet" ∈ znest := znest_of (List.mem_of_getElem? (i := 776) (by decide +kernel)) rfl
theorem kcX1_33 : Cond.constant RX1 33 (-1000000 : Int32) ∈ zlwg := zlwg_of (List.mem_of_getElem? (i := 777) (by decide +kernel)) rfl
theorem kmX1_37 : Cond.methodLink RX1 37 yX1_seekOnes ∈ zlwg := zlwg_of (List.mem_of_getElem? (i := 778) (by decide +kernel)) rfl
theorem kmX1_41 : Cond.methodLink RX1 41 yX1_seekTwos ∈ zlwg := zlwg_of (List.mem_of_getElem? (i := 788) (by decide +kernel)) rfl
theorem kmX1_45 : Cond.methodLink RX1 45 yX1_seekThrees ∈ zlwg := zlwg_of (List.mem_of_getElem? (i := 792) (by decide +kernel)) rfl
theorem kcX7_213 : Cond.constant RX7 213 (-1000002 : Int32) ∈ zlwg := zlwg_of (List.mem_of_getElem? (i := 771) (by decide +kernel)) rfl
theorem kfX7_33 : Cond.fieldLink RX7 33 "SafeNet" (TX7 3).2.1 (TX7 3).2.2.1 ∈ zlwg := zlwg_of (List.mem_of_getElem? (i := 391) (by decide +kernel)) rfl
theorem kmX7_214 : Cond.methodLinkNest RX7 214 yX1_seek "SafeNet" ∈ znest := znest_of (List.mem_of_getElem? (i := 772) (by decide +kernel)) rfl
theorem kmX8_241 : Cond.methodLink RX8 241 yX8_isFelled ∈ zlwg := zlwg_of (List.mem_of_getElem? (i := 1350) (by decide +kernel)) rfl
theorem kmX8_248 : Cond.methodLink RX8 248 yX8_isFelling ∈ zlwg := zlwg_of (List.mem_of_getElem? (i := 1346) (by decide +kernel)) rfl
theorem kmX8_244 : Cond.methodLink RX8 244 yX8_isClaim ∈ zlwg := zlwg_of (List.mem_of_getElem? (i := 1341) (by decide +kernel)) rfl
theorem kcX8_247 : Cond.constant RX8 247 (-1000002 : Int32) ∈ zlwg := zlwg_of (List.mem_of_getElem? (i := 1345) (by decide +kernel)) rfl
theorem kmX7_218 : Cond.methodLinkNest RX7 218 yX2_groundsOf "SafeNet" ∈ znest := znest_of (List.mem_of_getElem? (i := 800) (by decide +kernel)) rfl
theorem kmX7_221 : Cond.methodLink RX7 221 yJ6_bitCount_0f7a4 ∈ zlwg := zlwg_of (List.mem_of_getElem? (i := 804) (by decide +kernel)) rfl
theorem kmX8_251 : Cond.methodLink RX8 251 yX8_bits ∈ zlwg := zlwg_of (List.mem_of_getElem? (i := 1358) (by decide +kernel)) rfl
theorem kfX6_34 : Cond.fieldLink RX6 34 "SafeNet$Weights" (TX6 0).2.1 (TX6 0).2.2.1 ∈ zlwg := zlwg_of (List.mem_of_getElem? (i := 338) (by decide +kernel)) rfl
theorem kfX6_11 : Cond.fieldLink RX6 11 "SafeNet$Weights" (TX6 1).2.1 (TX6 1).2.2.1 ∈ zlwg := zlwg_of (List.mem_of_getElem? (i := 340) (by decide +kernel)) rfl
theorem kfX6_15 : Cond.fieldLink RX6 15 "SafeNet$Weights" (TX6 2).2.1 (TX6 2).2.2.1 ∈ zlwg := zlwg_of (List.mem_of_getElem? (i := 342) (by decide +kernel)) rfl
theorem kfX6_18 : Cond.fieldLink RX6 18 "SafeNet$Weights" (TX6 3).2.1 (TX6 3).2.2.1 ∈ zlwg := zlwg_of (List.mem_of_getElem? (i := 343) (by decide +kernel)) rfl
theorem kmX7_226 : Cond.methodLink RX7 226 yX7_isSpan ∈ zlwg := zlwg_of (List.mem_of_getElem? (i := 809) (by decide +kernel)) rfl
theorem kfX7_40 : Cond.fieldLink RX7 40 "SafeNet" (TX7 4).2.1 (TX7 4).2.2.1 ∈ zlwg := zlwg_of (List.mem_of_getElem? (i := 392) (by decide +kernel)) rfl
theorem kmX7_229 : Cond.methodLinkNest RX7 229 yX6_has "SafeNet" ∈ znest := znest_of (List.mem_of_getElem? (i := 812) (by decide +kernel)) rfl
theorem kmX7_232 : Cond.methodLinkNest RX7 232 yX6_isFull "SafeNet" ∈ znest := znest_of (List.mem_of_getElem? (i := 816) (by decide +kernel)) rfl
theorem kmX7_236 : Cond.methodLinkNest RX7 236 yX6_add "SafeNet" ∈ znest := znest_of (List.mem_of_getElem? (i := 820) (by decide +kernel)) rfl
theorem kfX8_270 : Cond.fieldLink RX8 270 "SafeNetModel" (TX8 31).2.1 (TX8 31).2.2.1 ∈ zlwg := zlwg_of (List.mem_of_getElem? (i := 1084) (by decide +kernel)) rfl
theorem kfX8_53 : Cond.fieldLink RX8 53 "SafeNetModel" (TX8 32).2.1 (TX8 32).2.2.1 ∈ zlwg := zlwg_of (List.mem_of_getElem? (i := 1085) (by decide +kernel)) rfl
theorem kfX8_56 : Cond.fieldLink RX8 56 "SafeNetModel" (TX8 33).2.1 (TX8 33).2.2.1 ∈ zlwg := zlwg_of (List.mem_of_getElem? (i := 1086) (by decide +kernel)) rfl
theorem kfX8_59 : Cond.fieldLink RX8 59 "SafeNetModel" (TX8 34).2.1 (TX8 34).2.2.1 ∈ zlwg := zlwg_of (List.mem_of_getElem? (i := 1087) (by decide +kernel)) rfl
theorem kfX8_62 : Cond.fieldLink RX8 62 "SafeNetModel" (TX8 35).2.1 (TX8 35).2.2.1 ∈ zlwg := zlwg_of (List.mem_of_getElem? (i := 1088) (by decide +kernel)) rfl
theorem kcX8_268 : Cond.constantLong RX8 268 (100 : Int64) ∈ zlwg := zlwg_of (List.mem_of_getElem? (i := 1409) (by decide +kernel)) rfl
theorem kfX6_21 : Cond.fieldLink RX6 21 "SafeNet$Weights" (TX6 4).2.1 (TX6 4).2.2.1 ∈ zlwg := zlwg_of (List.mem_of_getElem? (i := 344) (by decide +kernel)) rfl
theorem kfX6_24 : Cond.fieldLink RX6 24 "SafeNet$Weights" (TX6 5).2.1 (TX6 5).2.2.1 ∈ zlwg := zlwg_of (List.mem_of_getElem? (i := 345) (by decide +kernel)) rfl
theorem kmX7_239 : Cond.methodLinkNest RX7 239 yX6_isPlace "SafeNet" ∈ znest := znest_of (List.mem_of_getElem? (i := 828) (by decide +kernel)) rfl
theorem kmX7_242 : Cond.methodLinkNest RX7 242 yX6_tellPair "SafeNet" ∈ znest := znest_of (List.mem_of_getElem? (i := 832) (by decide +kernel)) rfl
theorem kmX7_246 : Cond.methodLinkNest RX7 246 yX6_clear "SafeNet" ∈ znest := znest_of (List.mem_of_getElem? (i := 840) (by decide +kernel)) rfl
theorem kfX4_27 : Cond.fieldLink RX4 27 "SafeNet$Table" (TX4 4).2.1 (TX4 4).2.2.1 ∈ zlwg := zlwg_of (List.mem_of_getElem? (i := 321) (by decide +kernel)) rfl
theorem kfX4_11 : Cond.fieldLink RX4 11 "SafeNet$Table" (TX4 0).2.1 (TX4 0).2.2.1 ∈ zlwg := zlwg_of (List.mem_of_getElem? (i := 317) (by decide +kernel)) rfl
theorem kfX4_35 : Cond.fieldLink RX4 35 "SafeNet$Table" (TX4 3).2.1 (TX4 3).2.2.1 ∈ zlwg := zlwg_of (List.mem_of_getElem? (i := 320) (by decide +kernel)) rfl
theorem kfX4_14 : Cond.fieldLink RX4 14 "SafeNet$Table" (TX4 1).2.1 (TX4 1).2.2.1 ∈ zlwg := zlwg_of (List.mem_of_getElem? (i := 318) (by decide +kernel)) rfl
theorem kmX4_42 : Cond.methodLinkNest RX4 42 yX7_bitAt "SafeNet" ∈ znest := znest_of (List.mem_of_getElem? (i := 861) (by decide +kernel)) rfl
theorem kfX4_31 : Cond.fieldLink RX4 31 "SafeNet$Table" (TX4 5).2.1 (TX4 5).2.2.1 ∈ zlwg := zlwg_of (List.mem_of_getElem? (i := 322) (by decide +kernel)) rfl
theorem kmX4_38 : Cond.methodLink RX4 38 yX4_addRow ∈ zlwg := zlwg_of (List.mem_of_getElem? (i := 857) (by decide +kernel)) rfl
theorem kfX4_18 : Cond.fieldLink RX4 18 "SafeNet$Table" (TX4 2).2.1 (TX4 2).2.2.1 ∈ zlwg := zlwg_of (List.mem_of_getElem? (i := 319) (by decide +kernel)) rfl
theorem kminX4_21 : Cond.methodLink RX4 21 Lib.Math.min.name ∈ zlwg ∧ Cond.static Lib.Math.min.name ∈ zlwg ∧ Cond.initialized "java/lang/Math" ∈ zlwg ∧ Cond.code Lib.Math.min.name Lib.Math.min.code 2 (some .int) ∈ zlwg := ⟨zlwg_of (List.mem_of_getElem? (i := 856) (by decide +kernel)) rfl, zlwg_of (List.mem_of_getElem? (i := 507) (by decide +kernel)) rfl, zlwg_of (List.mem_of_getElem? (i := 147) (by decide +kernel)) rfl, zlwg_of (List.mem_of_getElem? (i := 508) (by decide +kernel)) rfl⟩
theorem kfX6_30 : Cond.fieldLink RX6 30 "SafeNet$Weights" (TX6 6).2.1 (TX6 6).2.2.1 ∈ zlwg := zlwg_of (List.mem_of_getElem? (i := 346) (by decide +kernel)) rfl
theorem kmX6_58 : Cond.methodLinkNest RX6 58 yX4_addRow "SafeNet" ∈ znest := znest_of (List.mem_of_getElem? (i := 866) (by decide +kernel)) rfl
theorem kmX4_60 : Cond.methodLink RX4 60 yX4_isCheaper ∈ zlwg := zlwg_of (List.mem_of_getElem? (i := 886) (by decide +kernel)) rfl
theorem kmX4_67 : Cond.methodLink RX4 67 yX4_divide ∈ zlwg := zlwg_of (List.mem_of_getElem? (i := 898) (by decide +kernel)) rfl
theorem kmX4_64 : Cond.methodLink RX4 64 yX4_clearOf ∈ zlwg := zlwg_of (List.mem_of_getElem? (i := 894) (by decide +kernel)) rfl
theorem kcX4_47 : Cond.constant RX4 47 (1000000 : Int32) ∈ zlwg := zlwg_of (List.mem_of_getElem? (i := 877) (by decide +kernel)) rfl
theorem kmX4_48 : Cond.methodLink RX4 48 yX4_brokenRow ∈ zlwg := zlwg_of (List.mem_of_getElem? (i := 878) (by decide +kernel)) rfl
theorem kmX4_52 : Cond.methodLink RX4 52 yX4_mendingColumn ∈ zlwg := zlwg_of (List.mem_of_getElem? (i := 882) (by decide +kernel)) rfl
theorem kmX4_56 : Cond.methodLink RX4 56 yX4_exchange ∈ zlwg := zlwg_of (List.mem_of_getElem? (i := 890) (by decide +kernel)) rfl
theorem kmX6_100 : Cond.methodLinkNest RX6 100 yX4_divide "SafeNet" ∈ znest := znest_of (List.mem_of_getElem? (i := 910) (by decide +kernel)) rfl
theorem kfX6_93 : Cond.fieldLink RX6 93 "SafeNet$Weights" (TX6 7).2.1 (TX6 7).2.2.1 ∈ zlwg := zlwg_of (List.mem_of_getElem? (i := 347) (by decide +kernel)) rfl
theorem kfX6_90 : Cond.fieldLink RX6 90 "SafeNet$Weights" (TX6 8).2.1 (TX6 8).2.2.1 ∈ zlwg := zlwg_of (List.mem_of_getElem? (i := 349) (by decide +kernel)) rfl
theorem kfX6_62 : Cond.fieldLink RX6 62 "SafeNet$Weights" "WORLDS_WITH" "[I" ∈ zlwg := zlwg_of (List.mem_of_getElem? (i := 867) (by decide +kernel)) rfl
theorem kmX6_65 : Cond.methodLink RX6 65 yX6_addSpan ∈ zlwg := zlwg_of (List.mem_of_getElem? (i := 869) (by decide +kernel)) rfl
theorem kmX6_68 : Cond.methodLinkNest RX6 68 yX4_settle "SafeNet" ∈ znest := znest_of (List.mem_of_getElem? (i := 873) (by decide +kernel)) rfl
theorem kmX6_72 : Cond.methodLinkNest RX6 72 yX4_least "SafeNet" ∈ znest := znest_of (List.mem_of_getElem? (i := 901) (by decide +kernel)) rfl
theorem kcX6_76 : Cond.constantLong RX6 76 (100 : Int64) ∈ zlwg := zlwg_of (List.mem_of_getElem? (i := 905) (by decide +kernel)) rfl
theorem kfX6_78 : Cond.fieldLinkNest RX6 78 "SafeNet$Table" (TX4 5).2.1 (TX4 5).2.2.1 "SafeNet" ∈ znest := znest_of (List.mem_of_getElem? (i := 323) (by decide +kernel)) rfl
theorem kmX6_82 : Cond.methodLink RX6 82 yX6_reduce ∈ zlwg := zlwg_of (List.mem_of_getElem? (i := 906) (by decide +kernel)) rfl
theorem kmX6_51 : Cond.methodLinkNest RX6 51 yX4_begin "SafeNet" ∈ znest := znest_of (List.mem_of_getElem? (i := 852) (by decide +kernel)) rfl
theorem kmX6_55 : Cond.methodLink RX6 55 yX6_allWorlds ∈ zlwg := zlwg_of (List.mem_of_getElem? (i := 862) (by decide +kernel)) rfl
theorem kmX7_249 : Cond.methodLinkNest RX7 249 yX6_findLeast "SafeNet" ∈ znest := znest_of (List.mem_of_getElem? (i := 848) (by decide +kernel)) rfl
theorem kfX8_65 : Cond.fieldLink RX8 65 "SafeNetModel" (TX8 39).2.1 (TX8 39).2.2.1 ∈ zlwg := zlwg_of (List.mem_of_getElem? (i := 1092) (by decide +kernel)) rfl
theorem kmX8_287 : Cond.methodLink RX8 287 yX8_put ∈ zlwg := zlwg_of (List.mem_of_getElem? (i := 1433) (by decide +kernel)) rfl
theorem kfX8_280 : Cond.fieldLink RX8 280 "SafeNetModel" (TX8 37).2.1 (TX8 37).2.2.1 ∈ zlwg := zlwg_of (List.mem_of_getElem? (i := 1090) (by decide +kernel)) rfl
theorem kfX8_277 : Cond.fieldLink RX8 277 "SafeNetModel" (TX8 36).2.1 (TX8 36).2.2.1 ∈ zlwg := zlwg_of (List.mem_of_getElem? (i := 1089) (by decide +kernel)) rfl
theorem kmX8_301 : Cond.methodLink RX8 301 yX8_isOfWorld ∈ zlwg := zlwg_of (List.mem_of_getElem? (i := 1430) (by decide +kernel)) rfl
theorem kmX8_273 : Cond.methodLink RX8 273 yX8_at ∈ zlwg := zlwg_of (List.mem_of_getElem? (i := 1445) (by decide +kernel)) rfl
theorem kfX8_69 : Cond.fieldLink RX8 69 "SafeNetModel" (TX8 40).2.1 (TX8 40).2.2.1 ∈ zlwg := zlwg_of (List.mem_of_getElem? (i := 1093) (by decide +kernel)) rfl
theorem kfX8_72 : Cond.fieldLink RX8 72 "SafeNetModel" (TX8 41).2.1 (TX8 41).2.2.1 ∈ zlwg := zlwg_of (List.mem_of_getElem? (i := 1094) (by decide +kernel)) rfl
theorem kfX8_283 : Cond.fieldLink RX8 283 "SafeNetModel" (TX8 38).2.1 (TX8 38).2.2.1 ∈ zlwg := zlwg_of (List.mem_of_getElem? (i := 1091) (by decide +kernel)) rfl
theorem kmX8_291 : Cond.methodLink RX8 291 yX8_leastRow ∈ zlwg := zlwg_of (List.mem_of_getElem? (i := 1441) (by decide +kernel)) rfl
theorem kmX8_294 : Cond.methodLink RX8 294 yX8_leastColumn ∈ zlwg := zlwg_of (List.mem_of_getElem? (i := 1449) (by decide +kernel)) rfl
theorem kmX8_297 : Cond.methodLink RX8 297 yX8_turn ∈ zlwg := zlwg_of (List.mem_of_getElem? (i := 1453) (by decide +kernel)) rfl
theorem kmX8_304 : Cond.methodLink RX8 304 yX8_addRow ∈ zlwg := zlwg_of (List.mem_of_getElem? (i := 1426) (by decide +kernel)) rfl
theorem kmX8_308 : Cond.methodLink RX8 308 yX8_isSolved ∈ zlwg := zlwg_of (List.mem_of_getElem? (i := 1437) (by decide +kernel)) rfl
theorem kfX8_312 : Cond.fieldLink RX8 312 "SafeNetModel" (TX8 42).2.1 (TX8 42).2.2.1 ∈ zlwg := zlwg_of (List.mem_of_getElem? (i := 1095) (by decide +kernel)) rfl
theorem kfX8_315 : Cond.fieldLink RX8 315 "SafeNetModel" (TX8 43).2.1 (TX8 43).2.2.1 ∈ zlwg := zlwg_of (List.mem_of_getElem? (i := 1096) (by decide +kernel)) rfl
theorem kmX8_318 : Cond.methodLink RX8 318 yX8_find ∈ zlwg := zlwg_of (List.mem_of_getElem? (i := 1422) (by decide +kernel)) rfl
theorem kmX6_48 : Cond.methodLinkNest RX6 48 yX2_spread "SafeNet" ∈ znest := znest_of (List.mem_of_getElem? (i := 921) (by decide +kernel)) rfl
theorem kmX6_44 : Cond.methodLinkNest RX6 44 yX7_bitAt "SafeNet" ∈ znest := znest_of (List.mem_of_getElem? (i := 920) (by decide +kernel)) rfl
theorem kmX6_38 : Cond.methodLinkNest RX6 38 yX2_standing "SafeNet" ∈ znest := znest_of (List.mem_of_getElem? (i := 919) (by decide +kernel)) rfl
theorem kmX6_86 : Cond.methodLink RX6 86 yX6_findLeast ∈ zlwg := zlwg_of (List.mem_of_getElem? (i := 926) (by decide +kernel)) rfl
theorem kfX7_259 : Cond.fieldLinkNest RX7 259 "SafeNet$Weights" (TX6 7).2.1 (TX6 7).2.2.1 "SafeNet" ∈ znest := znest_of (List.mem_of_getElem? (i := 348) (by decide +kernel)) rfl
theorem kfX7_263 : Cond.fieldLinkNest RX7 263 "SafeNet$Weights" (TX6 8).2.1 (TX6 8).2.2.1 "SafeNet" ∈ znest := znest_of (List.mem_of_getElem? (i := 350) (by decide +kernel)) rfl
theorem kmX7_252 : Cond.methodLinkNest RX7 252 yX6_worldsShowing "SafeNet" ∈ znest := znest_of (List.mem_of_getElem? (i := 915) (by decide +kernel)) rfl
theorem kmX7_256 : Cond.methodLinkNest RX7 256 yX6_findMost "SafeNet" ∈ znest := znest_of (List.mem_of_getElem? (i := 922) (by decide +kernel)) rfl
theorem kcX8_322 : Cond.constantLong RX8 322 (3 : Int64) ∈ zlwg := zlwg_of (List.mem_of_getElem? (i := 1461) (by decide +kernel)) rfl
theorem kmX8_324 : Cond.methodLink RX8 324 yX8_worldsOf ∈ zlwg := zlwg_of (List.mem_of_getElem? (i := 1462) (by decide +kernel)) rfl
theorem kmX6_96 : Cond.methodLink RX6 96 yX6_findLeastRaised ∈ zlwg := zlwg_of (List.mem_of_getElem? (i := 935) (by decide +kernel)) rfl
theorem kmX7_266 : Cond.methodLinkNest RX7 266 yX6_bestRaise "SafeNet" ∈ znest := znest_of (List.mem_of_getElem? (i := 931) (by decide +kernel)) rfl
theorem kfX7_269 : Cond.fieldLinkNest RX7 269 "SafeNet$Weights" (TX6 1).2.1 (TX6 1).2.2.1 "SafeNet" ∈ znest := znest_of (List.mem_of_getElem? (i := 341) (by decide +kernel)) rfl
theorem kmX2_106 : Cond.methodLink RX2 106 yX2_timesPart ∈ zlwg := zlwg_of (List.mem_of_getElem? (i := 947) (by decide +kernel)) rfl
theorem kmX7_272 : Cond.methodLinkNest RX7 272 yX2_kindOf "SafeNet" ∈ znest := znest_of (List.mem_of_getElem? (i := 943) (by decide +kernel)) rfl
theorem kmX8_327 : Cond.methodLink RX8 327 yX8_partsIn ∈ zlwg := zlwg_of (List.mem_of_getElem? (i := 1478) (by decide +kernel)) rfl
theorem kmX8_330 : Cond.methodLink RX8 330 yX8_kindOf ∈ zlwg := zlwg_of (List.mem_of_getElem? (i := 1474) (by decide +kernel)) rfl
theorem kfX2_109 : Cond.fieldLink RX2 109 "SafeNet$Net" "KINDS_ABOVE" "[I" ∈ zlwg := zlwg_of (List.mem_of_getElem? (i := 959) (by decide +kernel)) rfl
theorem kmX2_112 : Cond.methodLink RX2 112 yX2_kindOf ∈ zlwg := zlwg_of (List.mem_of_getElem? (i := 961) (by decide +kernel)) rfl
theorem kmX7_275 : Cond.methodLinkNest RX7 275 yX2_isTakenAs "SafeNet" ∈ znest := znest_of (List.mem_of_getElem? (i := 955) (by decide +kernel)) rfl
theorem kmX8_333 : Cond.methodLink RX8 333 yX8_isOf ∈ zlwg := zlwg_of (List.mem_of_getElem? (i := 1486) (by decide +kernel)) rfl
theorem kfX0_15 : Cond.fieldLink RX0 15 "SafeNet$Asks" (TX0 1).2.1 (TX0 1).2.2.1 ∈ zlwg := zlwg_of (List.mem_of_getElem? (i := 378) (by decide +kernel)) rfl
theorem kfX0_19 : Cond.fieldLink RX0 19 "SafeNet$Asks" (TX0 2).2.1 (TX0 2).2.2.1 ∈ zlwg := zlwg_of (List.mem_of_getElem? (i := 380) (by decide +kernel)) rfl
theorem kfX0_11 : Cond.fieldLink RX0 11 "SafeNet$Asks" (TX0 0).2.1 (TX0 0).2.2.1 ∈ zlwg := zlwg_of (List.mem_of_getElem? (i := 376) (by decide +kernel)) rfl
theorem kmX0_56 : Cond.methodLink RX0 56 yX0_begin ∈ zlwg := zlwg_of (List.mem_of_getElem? (i := 979) (by decide +kernel)) rfl
theorem kmX0_60 : Cond.methodLinkNest RX0 60 yX2_timesPart "SafeNet" ∈ znest := znest_of (List.mem_of_getElem? (i := 987) (by decide +kernel)) rfl
theorem kmX0_44 : Cond.methodLink RX0 44 yX0_size10 ∈ zlwg := zlwg_of (List.mem_of_getElem? (i := 983) (by decide +kernel)) rfl
theorem kfX0_63 : Cond.fieldLinkNest RX0 63 "SafeNet$Net" (TX2 4).2.1 (TX2 4).2.2.1 "SafeNet" ∈ znest := znest_of (List.mem_of_getElem? (i := 224) (by decide +kernel)) rfl
theorem kmX0_28 : Cond.methodLink RX0 28 yX0_size11 ∈ zlwg := zlwg_of (List.mem_of_getElem? (i := 975) (by decide +kernel)) rfl
theorem kmX0_53 : Cond.methodLink RX0 53 yX0_mark20 ∈ zlwg := zlwg_of (List.mem_of_getElem? (i := 1004) (by decide +kernel)) rfl
theorem kmX0_72 : Cond.methodLinkNest RX0 72 yX7_bitAt "SafeNet" ∈ znest := znest_of (List.mem_of_getElem? (i := 1008) (by decide +kernel)) rfl
theorem kfX0_76 : Cond.fieldLinkNest RX0 76 "SafeNet$Net" (TX2 2).2.1 (TX2 2).2.2.1 "SafeNet" ∈ znest := znest_of (List.mem_of_getElem? (i := 218) (by decide +kernel)) rfl
theorem kmX0_47 : Cond.methodLink RX0 47 yX0_mark21 ∈ zlwg := zlwg_of (List.mem_of_getElem? (i := 1000) (by decide +kernel)) rfl
theorem kmX0_22 : Cond.methodLinkNest RX0 22 yX2_kindOf "SafeNet" ∈ znest := znest_of (List.mem_of_getElem? (i := 974) (by decide +kernel)) rfl
theorem kmX0_50 : Cond.methodLink RX0 50 yX0_mark22 ∈ zlwg := zlwg_of (List.mem_of_getElem? (i := 1009) (by decide +kernel)) rfl
theorem kmX0_66 : Cond.methodLink RX0 66 yX0_mark ∈ zlwg := zlwg_of (List.mem_of_getElem? (i := 996) (by decide +kernel)) rfl
theorem kmX0_35 : Cond.methodLink RX0 35 yX0_size13 ∈ zlwg := zlwg_of (List.mem_of_getElem? (i := 992) (by decide +kernel)) rfl
theorem kmX0_69 : Cond.methodLinkNest RX0 69 yX2_timesHeld "SafeNet" ∈ znest := znest_of (List.mem_of_getElem? (i := 1017) (by decide +kernel)) rfl
theorem kmX0_32 : Cond.methodLink RX0 32 yX0_size12 ∈ zlwg := zlwg_of (List.mem_of_getElem? (i := 988) (by decide +kernel)) rfl
theorem kmX0_38 : Cond.methodLink RX0 38 yX0_size14 ∈ zlwg := zlwg_of (List.mem_of_getElem? (i := 1013) (by decide +kernel)) rfl
theorem kmX0_41 : Cond.methodLink RX0 41 yX0_size15 ∈ zlwg := zlwg_of (List.mem_of_getElem? (i := 1021) (by decide +kernel)) rfl
theorem kfX7_47 : Cond.fieldLink RX7 47 "SafeNet" (TX7 5).2.1 (TX7 5).2.2.1 ∈ zlwg := zlwg_of (List.mem_of_getElem? (i := 393) (by decide +kernel)) rfl
theorem kmX7_278 : Cond.methodLinkNest RX7 278 yX0_start "SafeNet" ∈ znest := znest_of (List.mem_of_getElem? (i := 966) (by decide +kernel)) rfl
theorem kmX7_282 : Cond.methodLinkNest RX7 282 yX0_size "SafeNet" ∈ znest := znest_of (List.mem_of_getElem? (i := 970) (by decide +kernel)) rfl
theorem kmX7_285 : Cond.methodLinkNest RX7 285 yX0_mark "SafeNet" ∈ znest := znest_of (List.mem_of_getElem? (i := 1025) (by decide +kernel)) rfl
theorem kfX8_336 : Cond.fieldLink RX8 336 "SafeNetModel" (TX8 45).2.1 (TX8 45).2.2.1 ∈ zlwg := zlwg_of (List.mem_of_getElem? (i := 1098) (by decide +kernel)) rfl
theorem kfX8_75 : Cond.fieldLink RX8 75 "SafeNetModel" (TX8 44).2.1 (TX8 44).2.2.1 ∈ zlwg := zlwg_of (List.mem_of_getElem? (i := 1097) (by decide +kernel)) rfl
theorem kmX8_339 : Cond.methodLink RX8 339 yX8_began ∈ zlwg := zlwg_of (List.mem_of_getElem? (i := 1497) (by decide +kernel)) rfl
theorem kmX8_345 : Cond.methodLink RX8 345 yX8_heldBy ∈ zlwg := zlwg_of (List.mem_of_getElem? (i := 1505) (by decide +kernel)) rfl
theorem kmX8_342 : Cond.methodLink RX8 342 yX8_markOf ∈ zlwg := zlwg_of (List.mem_of_getElem? (i := 1501) (by decide +kernel)) rfl
theorem kmX8_348 : Cond.methodLink RX8 348 yX8_sizeOf ∈ zlwg := zlwg_of (List.mem_of_getElem? (i := 1493) (by decide +kernel)) rfl
theorem kfX7_288 : Cond.fieldLinkNest RX7 288 "SafeNet$Asks" (TX0 1).2.1 (TX0 1).2.2.1 "SafeNet" ∈ znest := znest_of (List.mem_of_getElem? (i := 379) (by decide +kernel)) rfl
theorem kfX7_291 : Cond.fieldLinkNest RX7 291 "SafeNet$Asks" (TX0 0).2.1 (TX0 0).2.2.1 "SafeNet" ∈ znest := znest_of (List.mem_of_getElem? (i := 377) (by decide +kernel)) rfl
theorem kmX2_81 : Cond.methodLink RX2 81 yX2_claims ∈ zlwg := zlwg_of (List.mem_of_getElem? (i := 1042) (by decide +kernel)) rfl
theorem kmX7_294 : Cond.methodLinkNest RX7 294 yX3_laid "SafeNet" ∈ znest := znest_of (List.mem_of_getElem? (i := 1034) (by decide +kernel)) rfl
theorem kmX7_297 : Cond.methodLinkNest RX7 297 yX2_grounds "SafeNet" ∈ znest := znest_of (List.mem_of_getElem? (i := 1038) (by decide +kernel)) rfl
theorem kfX7_300 : Cond.fieldLinkNest RX7 300 "SafeNet$Weights" (TX6 0).2.1 (TX6 0).2.2.1 "SafeNet" ∈ znest := znest_of (List.mem_of_getElem? (i := 339) (by decide +kernel)) rfl
theorem kfX7_303 : Cond.fieldLinkNest RX7 303 "SafeNet$Text" (TX5 1).2.1 (TX5 1).2.2.1 "SafeNet" ∈ znest := znest_of (List.mem_of_getElem? (i := 186) (by decide +kernel)) rfl
theorem mpX3_isNumber : zMp yX3_isNumber cX3_isNumber 2 (some .boolean) 1 := ⟨zlwg_of (List.mem_of_getElem? (i := 420) (by decide +kernel)) rfl, zlwg_of (List.mem_of_getElem? (i := 138) (by decide +kernel)) rfl, by decide, by decide, by decide +kernel⟩
theorem miX3_isNumber : Cond.instanceMethod yX3_isNumber ∈ zlwg ∧ Cond.selects yX3_isNumber.cls yX3_isNumber yX3_isNumber ∈ zlwg := ⟨zlwg_of (List.mem_of_getElem? (i := 419) (by decide +kernel)) rfl, zlwg_of (List.mem_of_getElem? (i := 0) (by decide +kernel)) rfl⟩
theorem mpX7_isWithin : zMp yX7_isWithin cX7_isWithin 3 (some .boolean) 3 := ⟨zlwg_of (List.mem_of_getElem? (i := 423) (by decide +kernel)) rfl, zlwg_of (List.mem_of_getElem? (i := 137) (by decide +kernel)) rfl, by decide, by decide, by decide +kernel⟩
theorem miX7_isWithin : Cond.static yX7_isWithin ∈ zlwg := zlwg_of (List.mem_of_getElem? (i := 422) (by decide +kernel)) rfl
theorem mpX3_lay : zMp yX3_lay cX3_lay 5 none 3 := ⟨zlwg_of (List.mem_of_getElem? (i := 433) (by decide +kernel)) rfl, zlwg_of (List.mem_of_getElem? (i := 138) (by decide +kernel)) rfl, by decide, by decide, by decide +kernel⟩
theorem miX3_lay : Cond.instanceMethod yX3_lay ∈ zlwg ∧ Cond.selects yX3_lay.cls yX3_lay yX3_lay ∈ zlwg := ⟨zlwg_of (List.mem_of_getElem? (i := 432) (by decide +kernel)) rfl, zlwg_of (List.mem_of_getElem? (i := 2) (by decide +kernel)) rfl⟩
theorem mpX7_unfound : zMp yX7_unfound cX7_unfound 2 (some .int) 1 := ⟨zlwg_of (List.mem_of_getElem? (i := 437) (by decide +kernel)) rfl, zlwg_of (List.mem_of_getElem? (i := 137) (by decide +kernel)) rfl, by decide, by decide, by decide +kernel⟩
theorem miX7_unfound : Cond.instanceMethod yX7_unfound ∈ zlwg ∧ Cond.selects yX7_unfound.cls yX7_unfound yX7_unfound ∈ zlwg := ⟨zlwg_of (List.mem_of_getElem? (i := 436) (by decide +kernel)) rfl, zlwg_of (List.mem_of_getElem? (i := 3) (by decide +kernel)) rfl⟩
theorem mpX7_found : zMp yX7_found cX7_found 2 (some .int) 1 := ⟨zlwg_of (List.mem_of_getElem? (i := 428) (by decide +kernel)) rfl, zlwg_of (List.mem_of_getElem? (i := 137) (by decide +kernel)) rfl, by decide, by decide, by decide +kernel⟩
theorem miX7_found : Cond.instanceMethod yX7_found ∈ zlwg ∧ Cond.selects yX7_found.cls yX7_found yX7_found ∈ zlwg := ⟨zlwg_of (List.mem_of_getElem? (i := 427) (by decide +kernel)) rfl, zlwg_of (List.mem_of_getElem? (i := 1) (by decide +kernel)) rfl⟩
theorem mpX8_in : zMp yX8_in cX8_in 6 (some .boolean) 3 := ⟨zlwg_of (List.mem_of_getElem? (i := 1203) (by decide +kernel)) rfl, zlwg_of (List.mem_of_getElem? (i := 145) (by decide +kernel)) rfl, by decide, by decide, by decide +kernel⟩
theorem miX8_in : Cond.static yX8_in ∈ zlwg := zlwg_of (List.mem_of_getElem? (i := 1202) (by decide +kernel)) rfl
theorem mpX8_isSheet : zMp yX8_isSheet cX8_isSheet 1 (some .boolean) 1 := ⟨zlwg_of (List.mem_of_getElem? (i := 1199) (by decide +kernel)) rfl, zlwg_of (List.mem_of_getElem? (i := 145) (by decide +kernel)) rfl, by decide, by decide, by decide +kernel⟩
theorem miX8_isSheet : Cond.static yX8_isSheet ∈ zlwg := zlwg_of (List.mem_of_getElem? (i := 1198) (by decide +kernel)) rfl
theorem mpX8_finding : zMp yX8_finding cX8_finding 2 (some .int) 1 := ⟨zlwg_of (List.mem_of_getElem? (i := 1209) (by decide +kernel)) rfl, zlwg_of (List.mem_of_getElem? (i := 145) (by decide +kernel)) rfl, by decide, by decide, by decide +kernel⟩
theorem miX8_finding : Cond.instanceMethod yX8_finding ∈ zlwg ∧ Cond.selects yX8_finding.cls yX8_finding yX8_finding ∈ zlwg := ⟨zlwg_of (List.mem_of_getElem? (i := 1208) (by decide +kernel)) rfl, zlwg_of (List.mem_of_getElem? (i := 97) (by decide +kernel)) rfl⟩
theorem mpX3_isMissing : zMp yX3_isMissing cX3_isMissing 2 (some .boolean) 1 := ⟨zlwg_of (List.mem_of_getElem? (i := 445) (by decide +kernel)) rfl, zlwg_of (List.mem_of_getElem? (i := 138) (by decide +kernel)) rfl, by decide, by decide, by decide +kernel⟩
theorem miX3_isMissing : Cond.instanceMethod yX3_isMissing ∈ zlwg ∧ Cond.selects yX3_isMissing.cls yX3_isMissing yX3_isMissing ∈ zlwg := ⟨zlwg_of (List.mem_of_getElem? (i := 444) (by decide +kernel)) rfl, zlwg_of (List.mem_of_getElem? (i := 4) (by decide +kernel)) rfl⟩
theorem mpX3_hasPlaces : zMp yX3_hasPlaces cX3_hasPlaces 4 (some .boolean) 3 := ⟨zlwg_of (List.mem_of_getElem? (i := 449) (by decide +kernel)) rfl, zlwg_of (List.mem_of_getElem? (i := 138) (by decide +kernel)) rfl, by decide, by decide, by decide +kernel⟩
theorem miX3_hasPlaces : Cond.instanceMethod yX3_hasPlaces ∈ zlwg ∧ Cond.selects yX3_hasPlaces.cls yX3_hasPlaces yX3_hasPlaces ∈ zlwg := ⟨zlwg_of (List.mem_of_getElem? (i := 448) (by decide +kernel)) rfl, zlwg_of (List.mem_of_getElem? (i := 5) (by decide +kernel)) rfl⟩
theorem mpX3_put : zMp yX3_put cX3_put 5 (some .int) 3 := ⟨zlwg_of (List.mem_of_getElem? (i := 453) (by decide +kernel)) rfl, zlwg_of (List.mem_of_getElem? (i := 138) (by decide +kernel)) rfl, by decide, by decide, by decide +kernel⟩
theorem miX3_put : Cond.instanceMethod yX3_put ∈ zlwg ∧ Cond.selects yX3_put.cls yX3_put yX3_put ∈ zlwg := ⟨zlwg_of (List.mem_of_getElem? (i := 452) (by decide +kernel)) rfl, zlwg_of (List.mem_of_getElem? (i := 6) (by decide +kernel)) rfl⟩
theorem mpX3_areOfOneLane : zMp yX3_areOfOneLane cX3_areOfOneLane 3 (some .boolean) 2 := ⟨zlwg_of (List.mem_of_getElem? (i := 461) (by decide +kernel)) rfl, zlwg_of (List.mem_of_getElem? (i := 138) (by decide +kernel)) rfl, by decide, by decide, by decide +kernel⟩
theorem miX3_areOfOneLane : Cond.instanceMethod yX3_areOfOneLane ∈ zlwg ∧ Cond.selects yX3_areOfOneLane.cls yX3_areOfOneLane yX3_areOfOneLane ∈ zlwg := ⟨zlwg_of (List.mem_of_getElem? (i := 460) (by decide +kernel)) rfl, zlwg_of (List.mem_of_getElem? (i := 7) (by decide +kernel)) rfl⟩
theorem mpX3_move : zMp yX3_move cX3_move 6 none 5 := ⟨zlwg_of (List.mem_of_getElem? (i := 465) (by decide +kernel)) rfl, zlwg_of (List.mem_of_getElem? (i := 138) (by decide +kernel)) rfl, by decide, by decide, by decide +kernel⟩
theorem miX3_move : Cond.instanceMethod yX3_move ∈ zlwg ∧ Cond.selects yX3_move.cls yX3_move yX3_move ∈ zlwg := ⟨zlwg_of (List.mem_of_getElem? (i := 464) (by decide +kernel)) rfl, zlwg_of (List.mem_of_getElem? (i := 8) (by decide +kernel)) rfl⟩
theorem mpX3_takeAway : zMp yX3_takeAway cX3_takeAway 3 (some .int) 1 := ⟨zlwg_of (List.mem_of_getElem? (i := 476) (by decide +kernel)) rfl, zlwg_of (List.mem_of_getElem? (i := 138) (by decide +kernel)) rfl, by decide, by decide, by decide +kernel⟩
theorem miX3_takeAway : Cond.instanceMethod yX3_takeAway ∈ zlwg ∧ Cond.selects yX3_takeAway.cls yX3_takeAway yX3_takeAway ∈ zlwg := ⟨zlwg_of (List.mem_of_getElem? (i := 475) (by decide +kernel)) rfl, zlwg_of (List.mem_of_getElem? (i := 9) (by decide +kernel)) rfl⟩
theorem mpX5_hasRoom : zMp yX5_hasRoom cX5_hasRoom 2 (some .boolean) 1 := ⟨zlwg_of (List.mem_of_getElem? (i := 484) (by decide +kernel)) rfl, zlwg_of (List.mem_of_getElem? (i := 139) (by decide +kernel)) rfl, by decide, by decide, by decide +kernel⟩
theorem miX5_hasRoom : Cond.instanceMethod yX5_hasRoom ∈ zlwg ∧ Cond.selects yX5_hasRoom.cls yX5_hasRoom yX5_hasRoom ∈ zlwg := ⟨zlwg_of (List.mem_of_getElem? (i := 483) (by decide +kernel)) rfl, zlwg_of (List.mem_of_getElem? (i := 10) (by decide +kernel)) rfl⟩
theorem mpX5_append : zMp yX5_append cX5_append 5 (some .int) 2 := ⟨zlwg_of (List.mem_of_getElem? (i := 489) (by decide +kernel)) rfl, zlwg_of (List.mem_of_getElem? (i := 139) (by decide +kernel)) rfl, by decide, by decide, by decide +kernel⟩
theorem miX5_append : Cond.instanceMethod yX5_append ∈ zlwg ∧ Cond.selects yX5_append.cls yX5_append yX5_append ∈ zlwg := ⟨zlwg_of (List.mem_of_getElem? (i := 488) (by decide +kernel)) rfl, zlwg_of (List.mem_of_getElem? (i := 11) (by decide +kernel)) rfl⟩
theorem mpX5_takeWorth : zMp yX5_takeWorth cX5_takeWorth 2 none 0 := ⟨zlwg_of (List.mem_of_getElem? (i := 512) (by decide +kernel)) rfl, zlwg_of (List.mem_of_getElem? (i := 139) (by decide +kernel)) rfl, by decide, by decide, by decide +kernel⟩
theorem miX5_takeWorth : Cond.instanceMethod yX5_takeWorth ∈ zlwg ∧ Cond.selects yX5_takeWorth.cls yX5_takeWorth yX5_takeWorth ∈ zlwg := ⟨zlwg_of (List.mem_of_getElem? (i := 511) (by decide +kernel)) rfl, zlwg_of (List.mem_of_getElem? (i := 15) (by decide +kernel)) rfl⟩
theorem mpX5_sortAt : zMp yX5_sortAt cX5_sortAt 3 (some .int) 1 := ⟨zlwg_of (List.mem_of_getElem? (i := 505) (by decide +kernel)) rfl, zlwg_of (List.mem_of_getElem? (i := 139) (by decide +kernel)) rfl, by decide, by decide, by decide +kernel⟩
theorem miX5_sortAt : Cond.instanceMethod yX5_sortAt ∈ zlwg ∧ Cond.selects yX5_sortAt.cls yX5_sortAt yX5_sortAt ∈ zlwg := ⟨zlwg_of (List.mem_of_getElem? (i := 504) (by decide +kernel)) rfl, zlwg_of (List.mem_of_getElem? (i := 14) (by decide +kernel)) rfl⟩
theorem mpJ0_coder_7d493 : zMp yJ0_coder_7d493 cJ0_coder_7d493 1 (some .byte) 0 := ⟨zlwg_of (List.mem_of_getElem? (i := 529) (by decide +kernel)) rfl, zlwg_of (List.mem_of_getElem? (i := 148) (by decide +kernel)) rfl, by decide, by decide, by decide +kernel⟩
theorem miJ0_coder_7d493 : Cond.instanceMethod yJ0_coder_7d493 ∈ zlwg ∧ Cond.selects yJ0_coder_7d493.cls yJ0_coder_7d493 yJ0_coder_7d493 ∈ zlwg := ⟨zlwg_of (List.mem_of_getElem? (i := 527) (by decide +kernel)) rfl, zlwg_of (List.mem_of_getElem? (i := 528) (by decide +kernel)) rfl⟩
theorem mpJ3_checkIndex_8e157 : zMp yJ3_checkIndex_8e157 cJ3_checkIndex_8e157 3 (some .int) 3 := ⟨zlwg_of (List.mem_of_getElem? (i := 550) (by decide +kernel)) rfl, zlwg_of (List.mem_of_getElem? (i := 150) (by decide +kernel)) rfl, by decide, by decide, by decide +kernel⟩
theorem miJ3_checkIndex_8e157 : Cond.static yJ3_checkIndex_8e157 ∈ zlwg := zlwg_of (List.mem_of_getElem? (i := 549) (by decide +kernel)) rfl
theorem mpJ0_checkIndex_df160 : zMp yJ0_checkIndex_df160 cJ0_checkIndex_df160 2 none 2 := ⟨zlwg_of (List.mem_of_getElem? (i := 545) (by decide +kernel)) rfl, zlwg_of (List.mem_of_getElem? (i := 148) (by decide +kernel)) rfl, by decide, by decide, by decide +kernel⟩
theorem miJ0_checkIndex_df160 : Cond.static yJ0_checkIndex_df160 ∈ zlwg := zlwg_of (List.mem_of_getElem? (i := 544) (by decide +kernel)) rfl
theorem mpJ0_isLatin1_aae02 : zMp yJ0_isLatin1_aae02 cJ0_isLatin1_aae02 1 (some .boolean) 0 := ⟨zlwg_of (List.mem_of_getElem? (i := 539) (by decide +kernel)) rfl, zlwg_of (List.mem_of_getElem? (i := 148) (by decide +kernel)) rfl, by decide, by decide, by decide +kernel⟩
theorem miJ0_isLatin1_aae02 : Cond.instanceMethod yJ0_isLatin1_aae02 ∈ zlwg ∧ Cond.selects yJ0_isLatin1_aae02.cls yJ0_isLatin1_aae02 yJ0_isLatin1_aae02 ∈ zlwg := ⟨zlwg_of (List.mem_of_getElem? (i := 537) (by decide +kernel)) rfl, zlwg_of (List.mem_of_getElem? (i := 538) (by decide +kernel)) rfl⟩
theorem mpJ1_charAt_3b067 : zMp yJ1_charAt_3b067 cJ1_charAt_3b067 2 (some .char) 2 := ⟨zlwg_of (List.mem_of_getElem? (i := 542) (by decide +kernel)) rfl, zlwg_of (List.mem_of_getElem? (i := 149) (by decide +kernel)) rfl, by decide, by decide, by decide +kernel⟩
theorem miJ1_charAt_3b067 : Cond.static yJ1_charAt_3b067 ∈ zlwg := zlwg_of (List.mem_of_getElem? (i := 541) (by decide +kernel)) rfl
theorem mpJ0_length_8abf5 : zMp yJ0_length_8abf5 cJ0_length_8abf5 1 (some .int) 0 := ⟨zlwg_of (List.mem_of_getElem? (i := 525) (by decide +kernel)) rfl, zlwg_of (List.mem_of_getElem? (i := 148) (by decide +kernel)) rfl, by decide, by decide, by decide +kernel⟩
theorem miJ0_length_8abf5 : Cond.instanceMethod yJ0_length_8abf5 ∈ zlwg ∧ Cond.selects yJ0_length_8abf5.cls yJ0_length_8abf5 yJ0_length_8abf5 ∈ zlwg := ⟨zlwg_of (List.mem_of_getElem? (i := 523) (by decide +kernel)) rfl, zlwg_of (List.mem_of_getElem? (i := 524) (by decide +kernel)) rfl⟩
theorem mpJ0_charAt_5068e : zMp yJ0_charAt_5068e cJ0_charAt_5068e 2 (some .char) 1 := ⟨zlwg_of (List.mem_of_getElem? (i := 535) (by decide +kernel)) rfl, zlwg_of (List.mem_of_getElem? (i := 148) (by decide +kernel)) rfl, by decide, by decide, by decide +kernel⟩
theorem miJ0_charAt_5068e : Cond.instanceMethod yJ0_charAt_5068e ∈ zlwg ∧ Cond.selects yJ0_charAt_5068e.cls yJ0_charAt_5068e yJ0_charAt_5068e ∈ zlwg := ⟨zlwg_of (List.mem_of_getElem? (i := 533) (by decide +kernel)) rfl, zlwg_of (List.mem_of_getElem? (i := 534) (by decide +kernel)) rfl⟩
theorem mpX5_take : zMp yX5_take cX5_take 2 none 0 := ⟨zlwg_of (List.mem_of_getElem? (i := 501) (by decide +kernel)) rfl, zlwg_of (List.mem_of_getElem? (i := 139) (by decide +kernel)) rfl, by decide, by decide, by decide +kernel⟩
theorem miX5_take : Cond.instanceMethod yX5_take ∈ zlwg ∧ Cond.selects yX5_take.cls yX5_take yX5_take ∈ zlwg := ⟨zlwg_of (List.mem_of_getElem? (i := 500) (by decide +kernel)) rfl, zlwg_of (List.mem_of_getElem? (i := 13) (by decide +kernel)) rfl⟩
theorem mpX2_addNode : zMp yX2_addNode cX2_addNode 3 none 2 := ⟨zlwg_of (List.mem_of_getElem? (i := 577) (by decide +kernel)) rfl, zlwg_of (List.mem_of_getElem? (i := 140) (by decide +kernel)) rfl, by decide, by decide, by decide +kernel⟩
theorem miX2_addNode : Cond.instanceMethod yX2_addNode ∈ zlwg ∧ Cond.selects yX2_addNode.cls yX2_addNode yX2_addNode ∈ zlwg := ⟨zlwg_of (List.mem_of_getElem? (i := 576) (by decide +kernel)) rfl, zlwg_of (List.mem_of_getElem? (i := 19) (by decide +kernel)) rfl⟩
theorem mpX5_readSign : zMp yX5_readSign cX5_readSign 1 (some .int) 0 := ⟨zlwg_of (List.mem_of_getElem? (i := 581) (by decide +kernel)) rfl, zlwg_of (List.mem_of_getElem? (i := 139) (by decide +kernel)) rfl, by decide, by decide, by decide +kernel⟩
theorem miX5_readSign : Cond.instanceMethod yX5_readSign ∈ zlwg ∧ Cond.selects yX5_readSign.cls yX5_readSign yX5_readSign ∈ zlwg := ⟨zlwg_of (List.mem_of_getElem? (i := 580) (by decide +kernel)) rfl, zlwg_of (List.mem_of_getElem? (i := 20) (by decide +kernel)) rfl⟩
theorem mpX5_isWord : zMp yX5_isWord cX5_isWord 3 (some .boolean) 1 := ⟨zlwg_of (List.mem_of_getElem? (i := 521) (by decide +kernel)) rfl, zlwg_of (List.mem_of_getElem? (i := 139) (by decide +kernel)) rfl, by decide, by decide, by decide +kernel⟩
theorem miX5_isWord : Cond.instanceMethod yX5_isWord ∈ zlwg ∧ Cond.selects yX5_isWord.cls yX5_isWord yX5_isWord ∈ zlwg := ⟨zlwg_of (List.mem_of_getElem? (i := 520) (by decide +kernel)) rfl, zlwg_of (List.mem_of_getElem? (i := 17) (by decide +kernel)) rfl⟩
theorem mpX2_hasNode : zMp yX2_hasNode cX2_hasNode 2 (some .boolean) 1 := ⟨zlwg_of (List.mem_of_getElem? (i := 608) (by decide +kernel)) rfl, zlwg_of (List.mem_of_getElem? (i := 140) (by decide +kernel)) rfl, by decide, by decide, by decide +kernel⟩
theorem miX2_hasNode : Cond.instanceMethod yX2_hasNode ∈ zlwg ∧ Cond.selects yX2_hasNode.cls yX2_hasNode yX2_hasNode ∈ zlwg := ⟨zlwg_of (List.mem_of_getElem? (i := 607) (by decide +kernel)) rfl, zlwg_of (List.mem_of_getElem? (i := 25) (by decide +kernel)) rfl⟩
theorem mpX7_bitAt : zMp yX7_bitAt cX7_bitAt 2 (some .int) 2 := ⟨zlwg_of (List.mem_of_getElem? (i := 627) (by decide +kernel)) rfl, zlwg_of (List.mem_of_getElem? (i := 137) (by decide +kernel)) rfl, by decide, by decide, by decide +kernel⟩
theorem miX7_bitAt : Cond.static yX7_bitAt ∈ zlwg := zlwg_of (List.mem_of_getElem? (i := 626) (by decide +kernel)) rfl
theorem mpX2_hasPart : zMp yX2_hasPart cX2_hasPart 3 (some .boolean) 2 := ⟨zlwg_of (List.mem_of_getElem? (i := 624) (by decide +kernel)) rfl, zlwg_of (List.mem_of_getElem? (i := 140) (by decide +kernel)) rfl, by decide, by decide, by decide +kernel⟩
theorem miX2_hasPart : Cond.instanceMethod yX2_hasPart ∈ zlwg ∧ Cond.selects yX2_hasPart.cls yX2_hasPart yX2_hasPart ∈ zlwg := ⟨zlwg_of (List.mem_of_getElem? (i := 623) (by decide +kernel)) rfl, zlwg_of (List.mem_of_getElem? (i := 28) (by decide +kernel)) rfl⟩
theorem mpX2_addPart : zMp yX2_addPart cX2_addPart 3 none 2 := ⟨zlwg_of (List.mem_of_getElem? (i := 631) (by decide +kernel)) rfl, zlwg_of (List.mem_of_getElem? (i := 140) (by decide +kernel)) rfl, by decide, by decide, by decide +kernel⟩
theorem miX2_addPart : Cond.instanceMethod yX2_addPart ∈ zlwg ∧ Cond.selects yX2_addPart.cls yX2_addPart yX2_addPart ∈ zlwg := ⟨zlwg_of (List.mem_of_getElem? (i := 630) (by decide +kernel)) rfl, zlwg_of (List.mem_of_getElem? (i := 29) (by decide +kernel)) rfl⟩
theorem mpX5_readPart : zMp yX5_readPart cX5_readPart 3 (some .int) 2 := ⟨zlwg_of (List.mem_of_getElem? (i := 619) (by decide +kernel)) rfl, zlwg_of (List.mem_of_getElem? (i := 139) (by decide +kernel)) rfl, by decide, by decide, by decide +kernel⟩
theorem miX5_readPart : Cond.instanceMethod yX5_readPart ∈ zlwg ∧ Cond.selects yX5_readPart.cls yX5_readPart yX5_readPart ∈ zlwg := ⟨zlwg_of (List.mem_of_getElem? (i := 618) (by decide +kernel)) rfl, zlwg_of (List.mem_of_getElem? (i := 27) (by decide +kernel)) rfl⟩
theorem mpX5_formTold : zMp yX5_formTold cX5_formTold 1 (some .int) 0 := ⟨zlwg_of (List.mem_of_getElem? (i := 596) (by decide +kernel)) rfl, zlwg_of (List.mem_of_getElem? (i := 139) (by decide +kernel)) rfl, by decide, by decide, by decide +kernel⟩
theorem miX5_formTold : Cond.instanceMethod yX5_formTold ∈ zlwg ∧ Cond.selects yX5_formTold.cls yX5_formTold yX5_formTold ∈ zlwg := ⟨zlwg_of (List.mem_of_getElem? (i := 595) (by decide +kernel)) rfl, zlwg_of (List.mem_of_getElem? (i := 23) (by decide +kernel)) rfl⟩
theorem mpX2_isClaim : zMp yX2_isClaim cX2_isClaim 2 (some .boolean) 1 := ⟨zlwg_of (List.mem_of_getElem? (i := 604) (by decide +kernel)) rfl, zlwg_of (List.mem_of_getElem? (i := 140) (by decide +kernel)) rfl, by decide, by decide, by decide +kernel⟩
theorem miX2_isClaim : Cond.instanceMethod yX2_isClaim ∈ zlwg ∧ Cond.selects yX2_isClaim.cls yX2_isClaim yX2_isClaim ∈ zlwg := ⟨zlwg_of (List.mem_of_getElem? (i := 603) (by decide +kernel)) rfl, zlwg_of (List.mem_of_getElem? (i := 24) (by decide +kernel)) rfl⟩
theorem mpX2_addStep : zMp yX2_addStep cX2_addStep 5 (some .int) 2 := ⟨zlwg_of (List.mem_of_getElem? (i := 612) (by decide +kernel)) rfl, zlwg_of (List.mem_of_getElem? (i := 140) (by decide +kernel)) rfl, by decide, by decide, by decide +kernel⟩
theorem miX2_addStep : Cond.instanceMethod yX2_addStep ∈ zlwg ∧ Cond.selects yX2_addStep.cls yX2_addStep yX2_addStep ∈ zlwg := ⟨zlwg_of (List.mem_of_getElem? (i := 611) (by decide +kernel)) rfl, zlwg_of (List.mem_of_getElem? (i := 26) (by decide +kernel)) rfl⟩
theorem mpX5_readStep : zMp yX5_readStep cX5_readStep 6 (some .int) 1 := ⟨zlwg_of (List.mem_of_getElem? (i := 592) (by decide +kernel)) rfl, zlwg_of (List.mem_of_getElem? (i := 139) (by decide +kernel)) rfl, by decide, by decide, by decide +kernel⟩
theorem miX5_readStep : Cond.instanceMethod yX5_readStep ∈ zlwg ∧ Cond.selects yX5_readStep.cls yX5_readStep yX5_readStep ∈ zlwg := ⟨zlwg_of (List.mem_of_getElem? (i := 591) (by decide +kernel)) rfl, zlwg_of (List.mem_of_getElem? (i := 22) (by decide +kernel)) rfl⟩
theorem mpX5_readClaim : zMp yX5_readClaim cX5_readClaim 2 (some .int) 1 := ⟨zlwg_of (List.mem_of_getElem? (i := 587) (by decide +kernel)) rfl, zlwg_of (List.mem_of_getElem? (i := 139) (by decide +kernel)) rfl, by decide, by decide, by decide +kernel⟩
theorem miX5_readClaim : Cond.instanceMethod yX5_readClaim ∈ zlwg ∧ Cond.selects yX5_readClaim.cls yX5_readClaim yX5_readClaim ∈ zlwg := ⟨zlwg_of (List.mem_of_getElem? (i := 586) (by decide +kernel)) rfl, zlwg_of (List.mem_of_getElem? (i := 21) (by decide +kernel)) rfl⟩
theorem mpX5_readGround : zMp yX5_readGround cX5_readGround 3 (some .int) 2 := ⟨zlwg_of (List.mem_of_getElem? (i := 573) (by decide +kernel)) rfl, zlwg_of (List.mem_of_getElem? (i := 139) (by decide +kernel)) rfl, by decide, by decide, by decide +kernel⟩
theorem miX5_readGround : Cond.instanceMethod yX5_readGround ∈ zlwg ∧ Cond.selects yX5_readGround.cls yX5_readGround yX5_readGround ∈ zlwg := ⟨zlwg_of (List.mem_of_getElem? (i := 572) (by decide +kernel)) rfl, zlwg_of (List.mem_of_getElem? (i := 18) (by decide +kernel)) rfl⟩
theorem mpX5_readSentence : zMp yX5_readSentence cX5_readSentence 2 (some .int) 1 := ⟨zlwg_of (List.mem_of_getElem? (i := 516) (by decide +kernel)) rfl, zlwg_of (List.mem_of_getElem? (i := 139) (by decide +kernel)) rfl, by decide, by decide, by decide +kernel⟩
theorem miX5_readSentence : Cond.instanceMethod yX5_readSentence ∈ zlwg ∧ Cond.selects yX5_readSentence.cls yX5_readSentence yX5_readSentence ∈ zlwg := ⟨zlwg_of (List.mem_of_getElem? (i := 515) (by decide +kernel)) rfl, zlwg_of (List.mem_of_getElem? (i := 16) (by decide +kernel)) rfl⟩
theorem mpX5_read : zMp yX5_read cX5_read 4 (some .int) 1 := ⟨zlwg_of (List.mem_of_getElem? (i := 497) (by decide +kernel)) rfl, zlwg_of (List.mem_of_getElem? (i := 139) (by decide +kernel)) rfl, by decide, by decide, by decide +kernel⟩
theorem miX5_read : Cond.instanceMethod yX5_read ∈ zlwg ∧ Cond.selects yX5_read.cls yX5_read yX5_read ∈ zlwg := ⟨zlwg_of (List.mem_of_getElem? (i := 496) (by decide +kernel)) rfl, zlwg_of (List.mem_of_getElem? (i := 12) (by decide +kernel)) rfl⟩
theorem mpX2_cutBack : zMp yX2_cutBack cX2_cutBack 3 none 2 := ⟨zlwg_of (List.mem_of_getElem? (i := 635) (by decide +kernel)) rfl, zlwg_of (List.mem_of_getElem? (i := 140) (by decide +kernel)) rfl, by decide, by decide, by decide +kernel⟩
theorem miX2_cutBack : Cond.instanceMethod yX2_cutBack ∈ zlwg ∧ Cond.selects yX2_cutBack.cls yX2_cutBack yX2_cutBack ∈ zlwg := ⟨zlwg_of (List.mem_of_getElem? (i := 634) (by decide +kernel)) rfl, zlwg_of (List.mem_of_getElem? (i := 30) (by decide +kernel)) rfl⟩
theorem mpX8_byteAt : zMp yX8_byteAt cX8_byteAt 2 (some .int) 1 := ⟨zlwg_of (List.mem_of_getElem? (i := 1241) (by decide +kernel)) rfl, zlwg_of (List.mem_of_getElem? (i := 145) (by decide +kernel)) rfl, by decide, by decide, by decide +kernel⟩
theorem miX8_byteAt : Cond.instanceMethod yX8_byteAt ∈ zlwg ∧ Cond.selects yX8_byteAt.cls yX8_byteAt yX8_byteAt ∈ zlwg := ⟨zlwg_of (List.mem_of_getElem? (i := 1240) (by decide +kernel)) rfl, zlwg_of (List.mem_of_getElem? (i := 99) (by decide +kernel)) rfl⟩
theorem mpX8_isLetter : zMp yX8_isLetter cX8_isLetter 1 (some .boolean) 1 := ⟨zlwg_of (List.mem_of_getElem? (i := 1245) (by decide +kernel)) rfl, zlwg_of (List.mem_of_getElem? (i := 145) (by decide +kernel)) rfl, by decide, by decide, by decide +kernel⟩
theorem miX8_isLetter : Cond.static yX8_isLetter ∈ zlwg := zlwg_of (List.mem_of_getElem? (i := 1244) (by decide +kernel)) rfl
theorem mpX8_isFigure : zMp yX8_isFigure cX8_isFigure 1 (some .boolean) 1 := ⟨zlwg_of (List.mem_of_getElem? (i := 1248) (by decide +kernel)) rfl, zlwg_of (List.mem_of_getElem? (i := 145) (by decide +kernel)) rfl, by decide, by decide, by decide +kernel⟩
theorem miX8_isFigure : Cond.static yX8_isFigure ∈ zlwg := zlwg_of (List.mem_of_getElem? (i := 1247) (by decide +kernel)) rfl
theorem mpX8_next : zMp yX8_next cX8_next 2 none 0 := ⟨zlwg_of (List.mem_of_getElem? (i := 1237) (by decide +kernel)) rfl, zlwg_of (List.mem_of_getElem? (i := 145) (by decide +kernel)) rfl, by decide, by decide, by decide +kernel⟩
theorem miX8_next : Cond.instanceMethod yX8_next ∈ zlwg ∧ Cond.selects yX8_next.cls yX8_next yX8_next ∈ zlwg := ⟨zlwg_of (List.mem_of_getElem? (i := 1236) (by decide +kernel)) rfl, zlwg_of (List.mem_of_getElem? (i := 98) (by decide +kernel)) rfl⟩
theorem mpX8_bad : zMp yX8_bad cX8_bad 2 none 1 := ⟨zlwg_of (List.mem_of_getElem? (i := 1260) (by decide +kernel)) rfl, zlwg_of (List.mem_of_getElem? (i := 145) (by decide +kernel)) rfl, by decide, by decide, by decide +kernel⟩
theorem miX8_bad : Cond.instanceMethod yX8_bad ∈ zlwg ∧ Cond.selects yX8_bad.cls yX8_bad yX8_bad ∈ zlwg := ⟨zlwg_of (List.mem_of_getElem? (i := 1259) (by decide +kernel)) rfl, zlwg_of (List.mem_of_getElem? (i := 101) (by decide +kernel)) rfl⟩
theorem mpX8_must : zMp yX8_must cX8_must 2 none 1 := ⟨zlwg_of (List.mem_of_getElem? (i := 1264) (by decide +kernel)) rfl, zlwg_of (List.mem_of_getElem? (i := 145) (by decide +kernel)) rfl, by decide, by decide, by decide +kernel⟩
theorem miX8_must : Cond.instanceMethod yX8_must ∈ zlwg ∧ Cond.selects yX8_must.cls yX8_must yX8_must ∈ zlwg := ⟨zlwg_of (List.mem_of_getElem? (i := 1263) (by decide +kernel)) rfl, zlwg_of (List.mem_of_getElem? (i := 102) (by decide +kernel)) rfl⟩
theorem mpX8_numberHere : zMp yX8_numberHere cX8_numberHere 3 (some .int) 0 := ⟨zlwg_of (List.mem_of_getElem? (i := 1272) (by decide +kernel)) rfl, zlwg_of (List.mem_of_getElem? (i := 145) (by decide +kernel)) rfl, by decide, by decide, by decide +kernel⟩
theorem miX8_numberHere : Cond.instanceMethod yX8_numberHere ∈ zlwg ∧ Cond.selects yX8_numberHere.cls yX8_numberHere yX8_numberHere ∈ zlwg := ⟨zlwg_of (List.mem_of_getElem? (i := 1271) (by decide +kernel)) rfl, zlwg_of (List.mem_of_getElem? (i := 104) (by decide +kernel)) rfl⟩
theorem mpX8_isPart : zMp yX8_isPart cX8_isPart 5 (some .boolean) 2 := ⟨zlwg_of (List.mem_of_getElem? (i := 1284) (by decide +kernel)) rfl, zlwg_of (List.mem_of_getElem? (i := 145) (by decide +kernel)) rfl, by decide, by decide, by decide +kernel⟩
theorem miX8_isPart : Cond.instanceMethod yX8_isPart ∈ zlwg ∧ Cond.selects yX8_isPart.cls yX8_isPart yX8_isPart ∈ zlwg := ⟨zlwg_of (List.mem_of_getElem? (i := 1283) (by decide +kernel)) rfl, zlwg_of (List.mem_of_getElem? (i := 106) (by decide +kernel)) rfl⟩
theorem mpX8_word : zMp yX8_word cX8_word 4 (some .long) 0 := ⟨zlwg_of (List.mem_of_getElem? (i := 1252) (by decide +kernel)) rfl, zlwg_of (List.mem_of_getElem? (i := 145) (by decide +kernel)) rfl, by decide, by decide, by decide +kernel⟩
theorem miX8_word : Cond.instanceMethod yX8_word ∈ zlwg ∧ Cond.selects yX8_word.cls yX8_word yX8_word ∈ zlwg := ⟨zlwg_of (List.mem_of_getElem? (i := 1251) (by decide +kernel)) rfl, zlwg_of (List.mem_of_getElem? (i := 100) (by decide +kernel)) rfl⟩
theorem mpX8_readStep : zMp yX8_readStep cX8_readStep 6 none 0 := ⟨zlwg_of (List.mem_of_getElem? (i := 1276) (by decide +kernel)) rfl, zlwg_of (List.mem_of_getElem? (i := 145) (by decide +kernel)) rfl, by decide, by decide, by decide +kernel⟩
theorem miX8_readStep : Cond.instanceMethod yX8_readStep ∈ zlwg ∧ Cond.selects yX8_readStep.cls yX8_readStep yX8_readStep ∈ zlwg := ⟨zlwg_of (List.mem_of_getElem? (i := 1275) (by decide +kernel)) rfl, zlwg_of (List.mem_of_getElem? (i := 105) (by decide +kernel)) rfl⟩
theorem mpX8_readNode : zMp yX8_readNode cX8_readNode 4 none 1 := ⟨zlwg_of (List.mem_of_getElem? (i := 1268) (by decide +kernel)) rfl, zlwg_of (List.mem_of_getElem? (i := 145) (by decide +kernel)) rfl, by decide, by decide, by decide +kernel⟩
theorem miX8_readNode : Cond.instanceMethod yX8_readNode ∈ zlwg ∧ Cond.selects yX8_readNode.cls yX8_readNode yX8_readNode ∈ zlwg := ⟨zlwg_of (List.mem_of_getElem? (i := 1267) (by decide +kernel)) rfl, zlwg_of (List.mem_of_getElem? (i := 103) (by decide +kernel)) rfl⟩
theorem mpX2_stands : zMp yX2_stands cX2_stands 2 (some .boolean) 1 := ⟨zlwg_of (List.mem_of_getElem? (i := 659) (by decide +kernel)) rfl, zlwg_of (List.mem_of_getElem? (i := 140) (by decide +kernel)) rfl, by decide, by decide, by decide +kernel⟩
theorem miX2_stands : Cond.instanceMethod yX2_stands ∈ zlwg ∧ Cond.selects yX2_stands.cls yX2_stands yX2_stands ∈ zlwg := ⟨zlwg_of (List.mem_of_getElem? (i := 658) (by decide +kernel)) rfl, zlwg_of (List.mem_of_getElem? (i := 33) (by decide +kernel)) rfl⟩
theorem mpJ6_bitCount_0f7a4 : zMp yJ6_bitCount_0f7a4 cJ6_bitCount_0f7a4 1 (some .int) 1 := ⟨zlwg_of (List.mem_of_getElem? (i := 674) (by decide +kernel)) rfl, zlwg_of (List.mem_of_getElem? (i := 152) (by decide +kernel)) rfl, by decide, by decide, by decide +kernel⟩
theorem miJ6_bitCount_0f7a4 : Cond.static yJ6_bitCount_0f7a4 ∈ zlwg := zlwg_of (List.mem_of_getElem? (i := 673) (by decide +kernel)) rfl
theorem mpX2_isBorneUp : zMp yX2_isBorneUp cX2_isBorneUp 4 (some .boolean) 2 := ⟨zlwg_of (List.mem_of_getElem? (i := 671) (by decide +kernel)) rfl, zlwg_of (List.mem_of_getElem? (i := 140) (by decide +kernel)) rfl, by decide, by decide, by decide +kernel⟩
theorem miX2_isBorneUp : Cond.instanceMethod yX2_isBorneUp ∈ zlwg ∧ Cond.selects yX2_isBorneUp.cls yX2_isBorneUp yX2_isBorneUp ∈ zlwg := ⟨zlwg_of (List.mem_of_getElem? (i := 670) (by decide +kernel)) rfl, zlwg_of (List.mem_of_getElem? (i := 36) (by decide +kernel)) rfl⟩
theorem mpX2_nextRound : zMp yX2_nextRound cX2_nextRound 6 (some .int) 2 := ⟨zlwg_of (List.mem_of_getElem? (i := 667) (by decide +kernel)) rfl, zlwg_of (List.mem_of_getElem? (i := 140) (by decide +kernel)) rfl, by decide, by decide, by decide +kernel⟩
theorem miX2_nextRound : Cond.instanceMethod yX2_nextRound ∈ zlwg ∧ Cond.selects yX2_nextRound.cls yX2_nextRound yX2_nextRound ∈ zlwg := ⟨zlwg_of (List.mem_of_getElem? (i := 666) (by decide +kernel)) rfl, zlwg_of (List.mem_of_getElem? (i := 35) (by decide +kernel)) rfl⟩
theorem mpX2_standing : zMp yX2_standing cX2_standing 3 (some .int) 0 := ⟨zlwg_of (List.mem_of_getElem? (i := 655) (by decide +kernel)) rfl, zlwg_of (List.mem_of_getElem? (i := 140) (by decide +kernel)) rfl, by decide, by decide, by decide +kernel⟩
theorem miX2_standing : Cond.instanceMethod yX2_standing ∈ zlwg ∧ Cond.selects yX2_standing.cls yX2_standing yX2_standing ∈ zlwg := ⟨zlwg_of (List.mem_of_getElem? (i := 654) (by decide +kernel)) rfl, zlwg_of (List.mem_of_getElem? (i := 32) (by decide +kernel)) rfl⟩
theorem mpX2_spread : zMp yX2_spread cX2_spread 6 (some .int) 2 := ⟨zlwg_of (List.mem_of_getElem? (i := 663) (by decide +kernel)) rfl, zlwg_of (List.mem_of_getElem? (i := 140) (by decide +kernel)) rfl, by decide, by decide, by decide +kernel⟩
theorem miX2_spread : Cond.instanceMethod yX2_spread ∈ zlwg ∧ Cond.selects yX2_spread.cls yX2_spread yX2_spread ∈ zlwg := ⟨zlwg_of (List.mem_of_getElem? (i := 662) (by decide +kernel)) rfl, zlwg_of (List.mem_of_getElem? (i := 34) (by decide +kernel)) rfl⟩
theorem mpX2_shownNow : zMp yX2_shownNow cX2_shownNow 1 (some .int) 0 := ⟨zlwg_of (List.mem_of_getElem? (i := 651) (by decide +kernel)) rfl, zlwg_of (List.mem_of_getElem? (i := 140) (by decide +kernel)) rfl, by decide, by decide, by decide +kernel⟩
theorem miX2_shownNow : Cond.instanceMethod yX2_shownNow ∈ zlwg ∧ Cond.selects yX2_shownNow.cls yX2_shownNow yX2_shownNow ∈ zlwg := ⟨zlwg_of (List.mem_of_getElem? (i := 650) (by decide +kernel)) rfl, zlwg_of (List.mem_of_getElem? (i := 31) (by decide +kernel)) rfl⟩
theorem mpX8_stands : zMp yX8_stands cX8_stands 2 (some .boolean) 1 := ⟨zlwg_of (List.mem_of_getElem? (i := 1305) (by decide +kernel)) rfl, zlwg_of (List.mem_of_getElem? (i := 145) (by decide +kernel)) rfl, by decide, by decide, by decide +kernel⟩
theorem miX8_stands : Cond.instanceMethod yX8_stands ∈ zlwg ∧ Cond.selects yX8_stands.cls yX8_stands yX8_stands ∈ zlwg := ⟨zlwg_of (List.mem_of_getElem? (i := 1304) (by decide +kernel)) rfl, zlwg_of (List.mem_of_getElem? (i := 109) (by decide +kernel)) rfl⟩
theorem mpX8_doubtsOf : zMp yX8_doubtsOf cX8_doubtsOf 1 (some .int) 1 := ⟨zlwg_of (List.mem_of_getElem? (i := 1316) (by decide +kernel)) rfl, zlwg_of (List.mem_of_getElem? (i := 145) (by decide +kernel)) rfl, by decide, by decide, by decide +kernel⟩
theorem miX8_doubtsOf : Cond.static yX8_doubtsOf ∈ zlwg := zlwg_of (List.mem_of_getElem? (i := 1315) (by decide +kernel)) rfl
theorem mpX8_openOf : zMp yX8_openOf cX8_openOf 4 (some .int) 1 := ⟨zlwg_of (List.mem_of_getElem? (i := 1313) (by decide +kernel)) rfl, zlwg_of (List.mem_of_getElem? (i := 145) (by decide +kernel)) rfl, by decide, by decide, by decide +kernel⟩
theorem miX8_openOf : Cond.instanceMethod yX8_openOf ∈ zlwg ∧ Cond.selects yX8_openOf.cls yX8_openOf yX8_openOf ∈ zlwg := ⟨zlwg_of (List.mem_of_getElem? (i := 1312) (by decide +kernel)) rfl, zlwg_of (List.mem_of_getElem? (i := 111) (by decide +kernel)) rfl⟩
theorem mpX8_isBorneUp : zMp yX8_isBorneUp cX8_isBorneUp 5 (some .boolean) 2 := ⟨zlwg_of (List.mem_of_getElem? (i := 1320) (by decide +kernel)) rfl, zlwg_of (List.mem_of_getElem? (i := 145) (by decide +kernel)) rfl, by decide, by decide, by decide +kernel⟩
theorem miX8_isBorneUp : Cond.instanceMethod yX8_isBorneUp ∈ zlwg ∧ Cond.selects yX8_isBorneUp.cls yX8_isBorneUp yX8_isBorneUp ∈ zlwg := ⟨zlwg_of (List.mem_of_getElem? (i := 1319) (by decide +kernel)) rfl, zlwg_of (List.mem_of_getElem? (i := 112) (by decide +kernel)) rfl⟩
theorem mpX8_standing : zMp yX8_standing cX8_standing 3 (some .int) 0 := ⟨zlwg_of (List.mem_of_getElem? (i := 1301) (by decide +kernel)) rfl, zlwg_of (List.mem_of_getElem? (i := 145) (by decide +kernel)) rfl, by decide, by decide, by decide +kernel⟩
theorem miX8_standing : Cond.instanceMethod yX8_standing ∈ zlwg ∧ Cond.selects yX8_standing.cls yX8_standing yX8_standing ∈ zlwg := ⟨zlwg_of (List.mem_of_getElem? (i := 1300) (by decide +kernel)) rfl, zlwg_of (List.mem_of_getElem? (i := 108) (by decide +kernel)) rfl⟩
theorem mpX8_shownBy : zMp yX8_shownBy cX8_shownBy 7 (some .int) 2 := ⟨zlwg_of (List.mem_of_getElem? (i := 1309) (by decide +kernel)) rfl, zlwg_of (List.mem_of_getElem? (i := 145) (by decide +kernel)) rfl, by decide, by decide, by decide +kernel⟩
theorem miX8_shownBy : Cond.instanceMethod yX8_shownBy ∈ zlwg ∧ Cond.selects yX8_shownBy.cls yX8_shownBy yX8_shownBy ∈ zlwg := ⟨zlwg_of (List.mem_of_getElem? (i := 1308) (by decide +kernel)) rfl, zlwg_of (List.mem_of_getElem? (i := 110) (by decide +kernel)) rfl⟩
theorem mpX8_isNode : zMp yX8_isNode cX8_isNode 2 (some .boolean) 1 := ⟨zlwg_of (List.mem_of_getElem? (i := 1336) (by decide +kernel)) rfl, zlwg_of (List.mem_of_getElem? (i := 145) (by decide +kernel)) rfl, by decide, by decide, by decide +kernel⟩
theorem miX8_isNode : Cond.instanceMethod yX8_isNode ∈ zlwg ∧ Cond.selects yX8_isNode.cls yX8_isNode yX8_isNode ∈ zlwg := ⟨zlwg_of (List.mem_of_getElem? (i := 1335) (by decide +kernel)) rfl, zlwg_of (List.mem_of_getElem? (i := 115) (by decide +kernel)) rfl⟩
theorem mpX8_shownNow : zMp yX8_shownNow cX8_shownNow 1 (some .int) 0 := ⟨zlwg_of (List.mem_of_getElem? (i := 1297) (by decide +kernel)) rfl, zlwg_of (List.mem_of_getElem? (i := 145) (by decide +kernel)) rfl, by decide, by decide, by decide +kernel⟩
theorem miX8_shownNow : Cond.instanceMethod yX8_shownNow ∈ zlwg ∧ Cond.selects yX8_shownNow.cls yX8_shownNow yX8_shownNow ∈ zlwg := ⟨zlwg_of (List.mem_of_getElem? (i := 1296) (by decide +kernel)) rfl, zlwg_of (List.mem_of_getElem? (i := 107) (by decide +kernel)) rfl⟩
theorem mpX2_hasStep : zMp yX2_hasStep cX2_hasStep 2 (some .boolean) 1 := ⟨zlwg_of (List.mem_of_getElem? (i := 686) (by decide +kernel)) rfl, zlwg_of (List.mem_of_getElem? (i := 140) (by decide +kernel)) rfl, by decide, by decide, by decide +kernel⟩
theorem miX2_hasStep : Cond.instanceMethod yX2_hasStep ∈ zlwg ∧ Cond.selects yX2_hasStep.cls yX2_hasStep yX2_hasStep ∈ zlwg := ⟨zlwg_of (List.mem_of_getElem? (i := 685) (by decide +kernel)) rfl, zlwg_of (List.mem_of_getElem? (i := 37) (by decide +kernel)) rfl⟩
theorem mpX2_doubtsOf : zMp yX2_doubtsOf cX2_doubtsOf 2 (some .int) 1 := ⟨zlwg_of (List.mem_of_getElem? (i := 690) (by decide +kernel)) rfl, zlwg_of (List.mem_of_getElem? (i := 140) (by decide +kernel)) rfl, by decide, by decide, by decide +kernel⟩
theorem miX2_doubtsOf : Cond.instanceMethod yX2_doubtsOf ∈ zlwg ∧ Cond.selects yX2_doubtsOf.cls yX2_doubtsOf yX2_doubtsOf ∈ zlwg := ⟨zlwg_of (List.mem_of_getElem? (i := 689) (by decide +kernel)) rfl, zlwg_of (List.mem_of_getElem? (i := 38) (by decide +kernel)) rfl⟩
theorem mpX8_isStep : zMp yX8_isStep cX8_isStep 2 (some .boolean) 1 := ⟨zlwg_of (List.mem_of_getElem? (i := 1373) (by decide +kernel)) rfl, zlwg_of (List.mem_of_getElem? (i := 145) (by decide +kernel)) rfl, by decide, by decide, by decide +kernel⟩
theorem miX8_isStep : Cond.instanceMethod yX8_isStep ∈ zlwg ∧ Cond.selects yX8_isStep.cls yX8_isStep yX8_isStep ∈ zlwg := ⟨zlwg_of (List.mem_of_getElem? (i := 1372) (by decide +kernel)) rfl, zlwg_of (List.mem_of_getElem? (i := 119) (by decide +kernel)) rfl⟩
theorem mpX2_partAt : zMp yX2_partAt cX2_partAt 3 (some .int) 2 := ⟨zlwg_of (List.mem_of_getElem? (i := 699) (by decide +kernel)) rfl, zlwg_of (List.mem_of_getElem? (i := 140) (by decide +kernel)) rfl, by decide, by decide, by decide +kernel⟩
theorem miX2_partAt : Cond.instanceMethod yX2_partAt ∈ zlwg ∧ Cond.selects yX2_partAt.cls yX2_partAt yX2_partAt ∈ zlwg := ⟨zlwg_of (List.mem_of_getElem? (i := 698) (by decide +kernel)) rfl, zlwg_of (List.mem_of_getElem? (i := 39) (by decide +kernel)) rfl⟩
theorem mpX2_tellDoubt : zMp yX2_tellDoubt cX2_tellDoubt 5 (some .int) 3 := ⟨zlwg_of (List.mem_of_getElem? (i := 707) (by decide +kernel)) rfl, zlwg_of (List.mem_of_getElem? (i := 140) (by decide +kernel)) rfl, by decide, by decide, by decide +kernel⟩
theorem miX2_tellDoubt : Cond.instanceMethod yX2_tellDoubt ∈ zlwg ∧ Cond.selects yX2_tellDoubt.cls yX2_tellDoubt yX2_tellDoubt ∈ zlwg := ⟨zlwg_of (List.mem_of_getElem? (i := 706) (by decide +kernel)) rfl, zlwg_of (List.mem_of_getElem? (i := 40) (by decide +kernel)) rfl⟩
theorem mpX2_doubtsToldAs : zMp yX2_doubtsToldAs cX2_doubtsToldAs 5 (some .int) 1 := ⟨zlwg_of (List.mem_of_getElem? (i := 715) (by decide +kernel)) rfl, zlwg_of (List.mem_of_getElem? (i := 140) (by decide +kernel)) rfl, by decide, by decide, by decide +kernel⟩
theorem miX2_doubtsToldAs : Cond.instanceMethod yX2_doubtsToldAs ∈ zlwg ∧ Cond.selects yX2_doubtsToldAs.cls yX2_doubtsToldAs yX2_doubtsToldAs ∈ zlwg := ⟨zlwg_of (List.mem_of_getElem? (i := 714) (by decide +kernel)) rfl, zlwg_of (List.mem_of_getElem? (i := 41) (by decide +kernel)) rfl⟩
theorem mpX3_itemAt : zMp yX3_itemAt cX3_itemAt 3 (some .int) 2 := ⟨zlwg_of (List.mem_of_getElem? (i := 728) (by decide +kernel)) rfl, zlwg_of (List.mem_of_getElem? (i := 138) (by decide +kernel)) rfl, by decide, by decide, by decide +kernel⟩
theorem miX3_itemAt : Cond.instanceMethod yX3_itemAt ∈ zlwg ∧ Cond.selects yX3_itemAt.cls yX3_itemAt yX3_itemAt ∈ zlwg := ⟨zlwg_of (List.mem_of_getElem? (i := 727) (by decide +kernel)) rfl, zlwg_of (List.mem_of_getElem? (i := 43) (by decide +kernel)) rfl⟩
theorem mpX2_isGround : zMp yX2_isGround cX2_isGround 2 (some .boolean) 1 := ⟨zlwg_of (List.mem_of_getElem? (i := 732) (by decide +kernel)) rfl, zlwg_of (List.mem_of_getElem? (i := 140) (by decide +kernel)) rfl, by decide, by decide, by decide +kernel⟩
theorem miX2_isGround : Cond.instanceMethod yX2_isGround ∈ zlwg ∧ Cond.selects yX2_isGround.cls yX2_isGround yX2_isGround ∈ zlwg := ⟨zlwg_of (List.mem_of_getElem? (i := 731) (by decide +kernel)) rfl, zlwg_of (List.mem_of_getElem? (i := 44) (by decide +kernel)) rfl⟩
theorem mpX7_tellLook : zMp yX7_tellLook cX7_tellLook 4 none 2 := ⟨zlwg_of (List.mem_of_getElem? (i := 736) (by decide +kernel)) rfl, zlwg_of (List.mem_of_getElem? (i := 137) (by decide +kernel)) rfl, by decide, by decide, by decide +kernel⟩
theorem miX7_tellLook : Cond.instanceMethod yX7_tellLook ∈ zlwg ∧ Cond.selects yX7_tellLook.cls yX7_tellLook yX7_tellLook ∈ zlwg := ⟨zlwg_of (List.mem_of_getElem? (i := 735) (by decide +kernel)) rfl, zlwg_of (List.mem_of_getElem? (i := 45) (by decide +kernel)) rfl⟩
theorem mpX7_isLook : zMp yX7_isLook cX7_isLook 3 (some .boolean) 2 := ⟨zlwg_of (List.mem_of_getElem? (i := 724) (by decide +kernel)) rfl, zlwg_of (List.mem_of_getElem? (i := 137) (by decide +kernel)) rfl, by decide, by decide, by decide +kernel⟩
theorem miX7_isLook : Cond.instanceMethod yX7_isLook ∈ zlwg ∧ Cond.selects yX7_isLook.cls yX7_isLook yX7_isLook ∈ zlwg := ⟨zlwg_of (List.mem_of_getElem? (i := 723) (by decide +kernel)) rfl, zlwg_of (List.mem_of_getElem? (i := 42) (by decide +kernel)) rfl⟩
theorem mpX8_isLeaf : zMp yX8_isLeaf cX8_isLeaf 2 (some .boolean) 1 := ⟨zlwg_of (List.mem_of_getElem? (i := 1395) (by decide +kernel)) rfl, zlwg_of (List.mem_of_getElem? (i := 145) (by decide +kernel)) rfl, by decide, by decide, by decide +kernel⟩
theorem miX8_isLeaf : Cond.instanceMethod yX8_isLeaf ∈ zlwg ∧ Cond.selects yX8_isLeaf.cls yX8_isLeaf yX8_isLeaf ∈ zlwg := ⟨zlwg_of (List.mem_of_getElem? (i := 1394) (by decide +kernel)) rfl, zlwg_of (List.mem_of_getElem? (i := 120) (by decide +kernel)) rfl⟩
theorem mpX2_claims : zMp yX2_claims cX2_claims 3 (some .int) 0 := ⟨zlwg_of (List.mem_of_getElem? (i := 752) (by decide +kernel)) rfl, zlwg_of (List.mem_of_getElem? (i := 140) (by decide +kernel)) rfl, by decide, by decide, by decide +kernel⟩
theorem miX2_claims : Cond.instanceMethod yX2_claims ∈ zlwg ∧ Cond.selects yX2_claims.cls yX2_claims yX2_claims ∈ zlwg := ⟨zlwg_of (List.mem_of_getElem? (i := 751) (by decide +kernel)) rfl, zlwg_of (List.mem_of_getElem? (i := 46) (by decide +kernel)) rfl⟩
theorem mpX2_roundsNow : zMp yX2_roundsNow cX2_roundsNow 5 (some .int) 0 := ⟨zlwg_of (List.mem_of_getElem? (i := 756) (by decide +kernel)) rfl, zlwg_of (List.mem_of_getElem? (i := 140) (by decide +kernel)) rfl, by decide, by decide, by decide +kernel⟩
theorem miX2_roundsNow : Cond.instanceMethod yX2_roundsNow ∈ zlwg ∧ Cond.selects yX2_roundsNow.cls yX2_roundsNow yX2_roundsNow ∈ zlwg := ⟨zlwg_of (List.mem_of_getElem? (i := 755) (by decide +kernel)) rfl, zlwg_of (List.mem_of_getElem? (i := 47) (by decide +kernel)) rfl⟩
theorem mpX2_circles : zMp yX2_circles cX2_circles 3 (some .int) 0 := ⟨zlwg_of (List.mem_of_getElem? (i := 760) (by decide +kernel)) rfl, zlwg_of (List.mem_of_getElem? (i := 140) (by decide +kernel)) rfl, by decide, by decide, by decide +kernel⟩
theorem miX2_circles : Cond.instanceMethod yX2_circles ∈ zlwg ∧ Cond.selects yX2_circles.cls yX2_circles yX2_circles ∈ zlwg := ⟨zlwg_of (List.mem_of_getElem? (i := 759) (by decide +kernel)) rfl, zlwg_of (List.mem_of_getElem? (i := 48) (by decide +kernel)) rfl⟩
theorem mpX8_reachedFrom : zMp yX8_reachedFrom cX8_reachedFrom 7 (some .int) 1 := ⟨zlwg_of (List.mem_of_getElem? (i := 1328) (by decide +kernel)) rfl, zlwg_of (List.mem_of_getElem? (i := 145) (by decide +kernel)) rfl, by decide, by decide, by decide +kernel⟩
theorem miX8_reachedFrom : Cond.instanceMethod yX8_reachedFrom ∈ zlwg ∧ Cond.selects yX8_reachedFrom.cls yX8_reachedFrom yX8_reachedFrom ∈ zlwg := ⟨zlwg_of (List.mem_of_getElem? (i := 1327) (by decide +kernel)) rfl, zlwg_of (List.mem_of_getElem? (i := 114) (by decide +kernel)) rfl⟩
theorem mpX8_claims : zMp yX8_claims cX8_claims 3 (some .int) 0 := ⟨zlwg_of (List.mem_of_getElem? (i := 1324) (by decide +kernel)) rfl, zlwg_of (List.mem_of_getElem? (i := 145) (by decide +kernel)) rfl, by decide, by decide, by decide +kernel⟩
theorem miX8_claims : Cond.instanceMethod yX8_claims ∈ zlwg ∧ Cond.selects yX8_claims.cls yX8_claims yX8_claims ∈ zlwg := ⟨zlwg_of (List.mem_of_getElem? (i := 1323) (by decide +kernel)) rfl, zlwg_of (List.mem_of_getElem? (i := 113) (by decide +kernel)) rfl⟩
theorem mpX1_countIfItFells : zMp yX1_countIfItFells cX1_countIfItFells 3 (some .boolean) 2 := ⟨zlwg_of (List.mem_of_getElem? (i := 786) (by decide +kernel)) rfl, zlwg_of (List.mem_of_getElem? (i := 141) (by decide +kernel)) rfl, by decide, by decide, by decide +kernel⟩
theorem miX1_countIfItFells : Cond.instanceMethod yX1_countIfItFells ∈ zlwg ∧ Cond.selects yX1_countIfItFells.cls yX1_countIfItFells yX1_countIfItFells ∈ zlwg := ⟨zlwg_of (List.mem_of_getElem? (i := 785) (by decide +kernel)) rfl, zlwg_of (List.mem_of_getElem? (i := 51) (by decide +kernel)) rfl⟩
theorem mpX1_seekOnes : zMp yX1_seekOnes cX1_seekOnes 4 (some .int) 1 := ⟨zlwg_of (List.mem_of_getElem? (i := 781) (by decide +kernel)) rfl, zlwg_of (List.mem_of_getElem? (i := 141) (by decide +kernel)) rfl, by decide, by decide, by decide +kernel⟩
theorem miX1_seekOnes : Cond.instanceMethod yX1_seekOnes ∈ zlwg ∧ Cond.selects yX1_seekOnes.cls yX1_seekOnes yX1_seekOnes ∈ zlwg := ⟨zlwg_of (List.mem_of_getElem? (i := 780) (by decide +kernel)) rfl, zlwg_of (List.mem_of_getElem? (i := 50) (by decide +kernel)) rfl⟩
theorem mpX1_seekTwos : zMp yX1_seekTwos cX1_seekTwos 5 none 2 := ⟨zlwg_of (List.mem_of_getElem? (i := 791) (by decide +kernel)) rfl, zlwg_of (List.mem_of_getElem? (i := 141) (by decide +kernel)) rfl, by decide, by decide, by decide +kernel⟩
theorem miX1_seekTwos : Cond.instanceMethod yX1_seekTwos ∈ zlwg ∧ Cond.selects yX1_seekTwos.cls yX1_seekTwos yX1_seekTwos ∈ zlwg := ⟨zlwg_of (List.mem_of_getElem? (i := 790) (by decide +kernel)) rfl, zlwg_of (List.mem_of_getElem? (i := 52) (by decide +kernel)) rfl⟩
theorem mpX1_seekThrees : zMp yX1_seekThrees cX1_seekThrees 8 none 2 := ⟨zlwg_of (List.mem_of_getElem? (i := 795) (by decide +kernel)) rfl, zlwg_of (List.mem_of_getElem? (i := 141) (by decide +kernel)) rfl, by decide, by decide, by decide +kernel⟩
theorem miX1_seekThrees : Cond.instanceMethod yX1_seekThrees ∈ zlwg ∧ Cond.selects yX1_seekThrees.cls yX1_seekThrees yX1_seekThrees ∈ zlwg := ⟨zlwg_of (List.mem_of_getElem? (i := 794) (by decide +kernel)) rfl, zlwg_of (List.mem_of_getElem? (i := 53) (by decide +kernel)) rfl⟩
theorem mpX1_seek : zMp yX1_seek cX1_seek 5 (some .int) 3 := ⟨zlwg_of (List.mem_of_getElem? (i := 775) (by decide +kernel)) rfl, zlwg_of (List.mem_of_getElem? (i := 141) (by decide +kernel)) rfl, by decide, by decide, by decide +kernel⟩
theorem miX1_seek : Cond.instanceMethod yX1_seek ∈ zlwg ∧ Cond.selects yX1_seek.cls yX1_seek yX1_seek ∈ zlwg := ⟨zlwg_of (List.mem_of_getElem? (i := 774) (by decide +kernel)) rfl, zlwg_of (List.mem_of_getElem? (i := 49) (by decide +kernel)) rfl⟩
theorem mpX8_isFelled : zMp yX8_isFelled cX8_isFelled 3 (some .boolean) 2 := ⟨zlwg_of (List.mem_of_getElem? (i := 1353) (by decide +kernel)) rfl, zlwg_of (List.mem_of_getElem? (i := 145) (by decide +kernel)) rfl, by decide, by decide, by decide +kernel⟩
theorem miX8_isFelled : Cond.instanceMethod yX8_isFelled ∈ zlwg ∧ Cond.selects yX8_isFelled.cls yX8_isFelled yX8_isFelled ∈ zlwg := ⟨zlwg_of (List.mem_of_getElem? (i := 1352) (by decide +kernel)) rfl, zlwg_of (List.mem_of_getElem? (i := 118) (by decide +kernel)) rfl⟩
theorem mpX8_isFelling : zMp yX8_isFelling cX8_isFelling 5 (some .boolean) 2 := ⟨zlwg_of (List.mem_of_getElem? (i := 1349) (by decide +kernel)) rfl, zlwg_of (List.mem_of_getElem? (i := 145) (by decide +kernel)) rfl, by decide, by decide, by decide +kernel⟩
theorem miX8_isFelling : Cond.instanceMethod yX8_isFelling ∈ zlwg ∧ Cond.selects yX8_isFelling.cls yX8_isFelling yX8_isFelling ∈ zlwg := ⟨zlwg_of (List.mem_of_getElem? (i := 1348) (by decide +kernel)) rfl, zlwg_of (List.mem_of_getElem? (i := 117) (by decide +kernel)) rfl⟩
theorem mpX8_isClaim : zMp yX8_isClaim cX8_isClaim 2 (some .boolean) 1 := ⟨zlwg_of (List.mem_of_getElem? (i := 1344) (by decide +kernel)) rfl, zlwg_of (List.mem_of_getElem? (i := 145) (by decide +kernel)) rfl, by decide, by decide, by decide +kernel⟩
theorem miX8_isClaim : Cond.instanceMethod yX8_isClaim ∈ zlwg ∧ Cond.selects yX8_isClaim.cls yX8_isClaim yX8_isClaim ∈ zlwg := ⟨zlwg_of (List.mem_of_getElem? (i := 1343) (by decide +kernel)) rfl, zlwg_of (List.mem_of_getElem? (i := 116) (by decide +kernel)) rfl⟩
theorem mpX2_groundsOf : zMp yX2_groundsOf cX2_groundsOf 4 (some .int) 1 := ⟨zlwg_of (List.mem_of_getElem? (i := 803) (by decide +kernel)) rfl, zlwg_of (List.mem_of_getElem? (i := 140) (by decide +kernel)) rfl, by decide, by decide, by decide +kernel⟩
theorem miX2_groundsOf : Cond.instanceMethod yX2_groundsOf ∈ zlwg ∧ Cond.selects yX2_groundsOf.cls yX2_groundsOf yX2_groundsOf ∈ zlwg := ⟨zlwg_of (List.mem_of_getElem? (i := 802) (by decide +kernel)) rfl, zlwg_of (List.mem_of_getElem? (i := 54) (by decide +kernel)) rfl⟩
theorem mpX8_bits : zMp yX8_bits cX8_bits 3 (some .int) 1 := ⟨zlwg_of (List.mem_of_getElem? (i := 1360) (by decide +kernel)) rfl, zlwg_of (List.mem_of_getElem? (i := 145) (by decide +kernel)) rfl, by decide, by decide, by decide +kernel⟩
theorem miX8_bits : Cond.static yX8_bits ∈ zlwg := zlwg_of (List.mem_of_getElem? (i := 1359) (by decide +kernel)) rfl
theorem mpX7_isSpan : zMp yX7_isSpan cX7_isSpan 2 (some .boolean) 2 := ⟨zlwg_of (List.mem_of_getElem? (i := 811) (by decide +kernel)) rfl, zlwg_of (List.mem_of_getElem? (i := 137) (by decide +kernel)) rfl, by decide, by decide, by decide +kernel⟩
theorem miX7_isSpan : Cond.static yX7_isSpan ∈ zlwg := zlwg_of (List.mem_of_getElem? (i := 810) (by decide +kernel)) rfl
theorem mpX6_has : zMp yX6_has cX6_has 3 (some .boolean) 1 := ⟨zlwg_of (List.mem_of_getElem? (i := 815) (by decide +kernel)) rfl, zlwg_of (List.mem_of_getElem? (i := 142) (by decide +kernel)) rfl, by decide, by decide, by decide +kernel⟩
theorem miX6_has : Cond.instanceMethod yX6_has ∈ zlwg ∧ Cond.selects yX6_has.cls yX6_has yX6_has ∈ zlwg := ⟨zlwg_of (List.mem_of_getElem? (i := 814) (by decide +kernel)) rfl, zlwg_of (List.mem_of_getElem? (i := 55) (by decide +kernel)) rfl⟩
theorem mpX6_isFull : zMp yX6_isFull cX6_isFull 1 (some .boolean) 0 := ⟨zlwg_of (List.mem_of_getElem? (i := 819) (by decide +kernel)) rfl, zlwg_of (List.mem_of_getElem? (i := 142) (by decide +kernel)) rfl, by decide, by decide, by decide +kernel⟩
theorem miX6_isFull : Cond.instanceMethod yX6_isFull ∈ zlwg ∧ Cond.selects yX6_isFull.cls yX6_isFull yX6_isFull ∈ zlwg := ⟨zlwg_of (List.mem_of_getElem? (i := 818) (by decide +kernel)) rfl, zlwg_of (List.mem_of_getElem? (i := 56) (by decide +kernel)) rfl⟩
theorem mpX6_add : zMp yX6_add cX6_add 4 (some .int) 3 := ⟨zlwg_of (List.mem_of_getElem? (i := 823) (by decide +kernel)) rfl, zlwg_of (List.mem_of_getElem? (i := 142) (by decide +kernel)) rfl, by decide, by decide, by decide +kernel⟩
theorem miX6_add : Cond.instanceMethod yX6_add ∈ zlwg ∧ Cond.selects yX6_add.cls yX6_add yX6_add ∈ zlwg := ⟨zlwg_of (List.mem_of_getElem? (i := 822) (by decide +kernel)) rfl, zlwg_of (List.mem_of_getElem? (i := 57) (by decide +kernel)) rfl⟩
theorem mpX6_isPlace : zMp yX6_isPlace cX6_isPlace 2 (some .boolean) 1 := ⟨zlwg_of (List.mem_of_getElem? (i := 831) (by decide +kernel)) rfl, zlwg_of (List.mem_of_getElem? (i := 142) (by decide +kernel)) rfl, by decide, by decide, by decide +kernel⟩
theorem miX6_isPlace : Cond.instanceMethod yX6_isPlace ∈ zlwg ∧ Cond.selects yX6_isPlace.cls yX6_isPlace yX6_isPlace ∈ zlwg := ⟨zlwg_of (List.mem_of_getElem? (i := 830) (by decide +kernel)) rfl, zlwg_of (List.mem_of_getElem? (i := 58) (by decide +kernel)) rfl⟩
theorem mpX6_tellPair : zMp yX6_tellPair cX6_tellPair 5 none 4 := ⟨zlwg_of (List.mem_of_getElem? (i := 835) (by decide +kernel)) rfl, zlwg_of (List.mem_of_getElem? (i := 142) (by decide +kernel)) rfl, by decide, by decide, by decide +kernel⟩
theorem miX6_tellPair : Cond.instanceMethod yX6_tellPair ∈ zlwg ∧ Cond.selects yX6_tellPair.cls yX6_tellPair yX6_tellPair ∈ zlwg := ⟨zlwg_of (List.mem_of_getElem? (i := 834) (by decide +kernel)) rfl, zlwg_of (List.mem_of_getElem? (i := 59) (by decide +kernel)) rfl⟩
theorem mpX6_clear : zMp yX6_clear cX6_clear 3 (some .int) 0 := ⟨zlwg_of (List.mem_of_getElem? (i := 843) (by decide +kernel)) rfl, zlwg_of (List.mem_of_getElem? (i := 142) (by decide +kernel)) rfl, by decide, by decide, by decide +kernel⟩
theorem miX6_clear : Cond.instanceMethod yX6_clear ∈ zlwg ∧ Cond.selects yX6_clear.cls yX6_clear yX6_clear ∈ zlwg := ⟨zlwg_of (List.mem_of_getElem? (i := 842) (by decide +kernel)) rfl, zlwg_of (List.mem_of_getElem? (i := 60) (by decide +kernel)) rfl⟩
theorem mpX4_addRow : zMp yX4_addRow cX4_addRow 5 none 3 := ⟨zlwg_of (List.mem_of_getElem? (i := 860) (by decide +kernel)) rfl, zlwg_of (List.mem_of_getElem? (i := 143) (by decide +kernel)) rfl, by decide, by decide, by decide +kernel⟩
theorem miX4_addRow : Cond.instanceMethod yX4_addRow ∈ zlwg ∧ Cond.selects yX4_addRow.cls yX4_addRow yX4_addRow ∈ zlwg := ⟨zlwg_of (List.mem_of_getElem? (i := 859) (by decide +kernel)) rfl, zlwg_of (List.mem_of_getElem? (i := 63) (by decide +kernel)) rfl⟩
theorem mpX4_isCheaper : zMp yX4_isCheaper cX4_isCheaper 8 (some .boolean) 3 := ⟨zlwg_of (List.mem_of_getElem? (i := 889) (by decide +kernel)) rfl, zlwg_of (List.mem_of_getElem? (i := 143) (by decide +kernel)) rfl, by decide, by decide, by decide +kernel⟩
theorem miX4_isCheaper : Cond.instanceMethod yX4_isCheaper ∈ zlwg ∧ Cond.selects yX4_isCheaper.cls yX4_isCheaper yX4_isCheaper ∈ zlwg := ⟨zlwg_of (List.mem_of_getElem? (i := 888) (by decide +kernel)) rfl, zlwg_of (List.mem_of_getElem? (i := 69) (by decide +kernel)) rfl⟩
theorem mpX4_divide : zMp yX4_divide cX4_divide 4 (some .long) 2 := ⟨zlwg_of (List.mem_of_getElem? (i := 900) (by decide +kernel)) rfl, zlwg_of (List.mem_of_getElem? (i := 143) (by decide +kernel)) rfl, by decide, by decide, by decide +kernel⟩
theorem miX4_divide : Cond.static yX4_divide ∈ zlwg := zlwg_of (List.mem_of_getElem? (i := 899) (by decide +kernel)) rfl
theorem mpX4_clearOf : zMp yX4_clearOf cX4_clearOf 9 none 3 := ⟨zlwg_of (List.mem_of_getElem? (i := 897) (by decide +kernel)) rfl, zlwg_of (List.mem_of_getElem? (i := 143) (by decide +kernel)) rfl, by decide, by decide, by decide +kernel⟩
theorem miX4_clearOf : Cond.instanceMethod yX4_clearOf ∈ zlwg ∧ Cond.selects yX4_clearOf.cls yX4_clearOf yX4_clearOf ∈ zlwg := ⟨zlwg_of (List.mem_of_getElem? (i := 896) (by decide +kernel)) rfl, zlwg_of (List.mem_of_getElem? (i := 71) (by decide +kernel)) rfl⟩
theorem mpX4_brokenRow : zMp yX4_brokenRow cX4_brokenRow 3 (some .int) 0 := ⟨zlwg_of (List.mem_of_getElem? (i := 881) (by decide +kernel)) rfl, zlwg_of (List.mem_of_getElem? (i := 143) (by decide +kernel)) rfl, by decide, by decide, by decide +kernel⟩
theorem miX4_brokenRow : Cond.instanceMethod yX4_brokenRow ∈ zlwg ∧ Cond.selects yX4_brokenRow.cls yX4_brokenRow yX4_brokenRow ∈ zlwg := ⟨zlwg_of (List.mem_of_getElem? (i := 880) (by decide +kernel)) rfl, zlwg_of (List.mem_of_getElem? (i := 67) (by decide +kernel)) rfl⟩
theorem mpX4_mendingColumn : zMp yX4_mendingColumn cX4_mendingColumn 4 (some .int) 1 := ⟨zlwg_of (List.mem_of_getElem? (i := 885) (by decide +kernel)) rfl, zlwg_of (List.mem_of_getElem? (i := 143) (by decide +kernel)) rfl, by decide, by decide, by decide +kernel⟩
theorem miX4_mendingColumn : Cond.instanceMethod yX4_mendingColumn ∈ zlwg ∧ Cond.selects yX4_mendingColumn.cls yX4_mendingColumn yX4_mendingColumn ∈ zlwg := ⟨zlwg_of (List.mem_of_getElem? (i := 884) (by decide +kernel)) rfl, zlwg_of (List.mem_of_getElem? (i := 68) (by decide +kernel)) rfl⟩
theorem mpX4_exchange : zMp yX4_exchange cX4_exchange 6 none 2 := ⟨zlwg_of (List.mem_of_getElem? (i := 893) (by decide +kernel)) rfl, zlwg_of (List.mem_of_getElem? (i := 143) (by decide +kernel)) rfl, by decide, by decide, by decide +kernel⟩
theorem miX4_exchange : Cond.instanceMethod yX4_exchange ∈ zlwg ∧ Cond.selects yX4_exchange.cls yX4_exchange yX4_exchange ∈ zlwg := ⟨zlwg_of (List.mem_of_getElem? (i := 892) (by decide +kernel)) rfl, zlwg_of (List.mem_of_getElem? (i := 70) (by decide +kernel)) rfl⟩
theorem mpX6_addSpan : zMp yX6_addSpan cX6_addSpan 4 none 3 := ⟨zlwg_of (List.mem_of_getElem? (i := 872) (by decide +kernel)) rfl, zlwg_of (List.mem_of_getElem? (i := 142) (by decide +kernel)) rfl, by decide, by decide, by decide +kernel⟩
theorem miX6_addSpan : Cond.instanceMethod yX6_addSpan ∈ zlwg ∧ Cond.selects yX6_addSpan.cls yX6_addSpan yX6_addSpan ∈ zlwg := ⟨zlwg_of (List.mem_of_getElem? (i := 871) (by decide +kernel)) rfl, zlwg_of (List.mem_of_getElem? (i := 65) (by decide +kernel)) rfl⟩
theorem mpX4_settle : zMp yX4_settle cX4_settle 4 (some .boolean) 0 := ⟨zlwg_of (List.mem_of_getElem? (i := 876) (by decide +kernel)) rfl, zlwg_of (List.mem_of_getElem? (i := 143) (by decide +kernel)) rfl, by decide, by decide, by decide +kernel⟩
theorem miX4_settle : Cond.instanceMethod yX4_settle ∈ zlwg ∧ Cond.selects yX4_settle.cls yX4_settle yX4_settle ∈ zlwg := ⟨zlwg_of (List.mem_of_getElem? (i := 875) (by decide +kernel)) rfl, zlwg_of (List.mem_of_getElem? (i := 66) (by decide +kernel)) rfl⟩
theorem mpX4_least : zMp yX4_least cX4_least 1 (some .long) 0 := ⟨zlwg_of (List.mem_of_getElem? (i := 904) (by decide +kernel)) rfl, zlwg_of (List.mem_of_getElem? (i := 143) (by decide +kernel)) rfl, by decide, by decide, by decide +kernel⟩
theorem miX4_least : Cond.instanceMethod yX4_least ∈ zlwg ∧ Cond.selects yX4_least.cls yX4_least yX4_least ∈ zlwg := ⟨zlwg_of (List.mem_of_getElem? (i := 903) (by decide +kernel)) rfl, zlwg_of (List.mem_of_getElem? (i := 72) (by decide +kernel)) rfl⟩
theorem mpX6_reduce : zMp yX6_reduce cX6_reduce 12 none 2 := ⟨zlwg_of (List.mem_of_getElem? (i := 909) (by decide +kernel)) rfl, zlwg_of (List.mem_of_getElem? (i := 142) (by decide +kernel)) rfl, by decide, by decide, by decide +kernel⟩
theorem miX6_reduce : Cond.instanceMethod yX6_reduce ∈ zlwg ∧ Cond.selects yX6_reduce.cls yX6_reduce yX6_reduce ∈ zlwg := ⟨zlwg_of (List.mem_of_getElem? (i := 908) (by decide +kernel)) rfl, zlwg_of (List.mem_of_getElem? (i := 73) (by decide +kernel)) rfl⟩
theorem mpX4_begin : zMp yX4_begin cX4_begin 4 none 2 := ⟨zlwg_of (List.mem_of_getElem? (i := 855) (by decide +kernel)) rfl, zlwg_of (List.mem_of_getElem? (i := 143) (by decide +kernel)) rfl, by decide, by decide, by decide +kernel⟩
theorem miX4_begin : Cond.instanceMethod yX4_begin ∈ zlwg ∧ Cond.selects yX4_begin.cls yX4_begin yX4_begin ∈ zlwg := ⟨zlwg_of (List.mem_of_getElem? (i := 854) (by decide +kernel)) rfl, zlwg_of (List.mem_of_getElem? (i := 62) (by decide +kernel)) rfl⟩
theorem mpX6_allWorlds : zMp yX6_allWorlds cX6_allWorlds 1 (some .int) 0 := ⟨zlwg_of (List.mem_of_getElem? (i := 865) (by decide +kernel)) rfl, zlwg_of (List.mem_of_getElem? (i := 142) (by decide +kernel)) rfl, by decide, by decide, by decide +kernel⟩
theorem miX6_allWorlds : Cond.instanceMethod yX6_allWorlds ∈ zlwg ∧ Cond.selects yX6_allWorlds.cls yX6_allWorlds yX6_allWorlds ∈ zlwg := ⟨zlwg_of (List.mem_of_getElem? (i := 864) (by decide +kernel)) rfl, zlwg_of (List.mem_of_getElem? (i := 64) (by decide +kernel)) rfl⟩
theorem mpX6_findLeast : zMp yX6_findLeast cX6_findLeast 4 (some .boolean) 1 := ⟨zlwg_of (List.mem_of_getElem? (i := 851) (by decide +kernel)) rfl, zlwg_of (List.mem_of_getElem? (i := 142) (by decide +kernel)) rfl, by decide, by decide, by decide +kernel⟩
theorem miX6_findLeast : Cond.instanceMethod yX6_findLeast ∈ zlwg ∧ Cond.selects yX6_findLeast.cls yX6_findLeast yX6_findLeast ∈ zlwg := ⟨zlwg_of (List.mem_of_getElem? (i := 850) (by decide +kernel)) rfl, zlwg_of (List.mem_of_getElem? (i := 61) (by decide +kernel)) rfl⟩
theorem mpX8_put : zMp yX8_put cX8_put 5 none 3 := ⟨zlwg_of (List.mem_of_getElem? (i := 1436) (by decide +kernel)) rfl, zlwg_of (List.mem_of_getElem? (i := 145) (by decide +kernel)) rfl, by decide, by decide, by decide +kernel⟩
theorem miX8_put : Cond.instanceMethod yX8_put ∈ zlwg ∧ Cond.selects yX8_put.cls yX8_put yX8_put ∈ zlwg := ⟨zlwg_of (List.mem_of_getElem? (i := 1435) (by decide +kernel)) rfl, zlwg_of (List.mem_of_getElem? (i := 123) (by decide +kernel)) rfl⟩
theorem mpX8_isOfWorld : zMp yX8_isOfWorld cX8_isOfWorld 3 (some .boolean) 2 := ⟨zlwg_of (List.mem_of_getElem? (i := 1432) (by decide +kernel)) rfl, zlwg_of (List.mem_of_getElem? (i := 145) (by decide +kernel)) rfl, by decide, by decide, by decide +kernel⟩
theorem miX8_isOfWorld : Cond.static yX8_isOfWorld ∈ zlwg := zlwg_of (List.mem_of_getElem? (i := 1431) (by decide +kernel)) rfl
theorem mpX8_at : zMp yX8_at cX8_at 3 (some .long) 2 := ⟨zlwg_of (List.mem_of_getElem? (i := 1448) (by decide +kernel)) rfl, zlwg_of (List.mem_of_getElem? (i := 145) (by decide +kernel)) rfl, by decide, by decide, by decide +kernel⟩
theorem miX8_at : Cond.instanceMethod yX8_at ∈ zlwg ∧ Cond.selects yX8_at.cls yX8_at yX8_at ∈ zlwg := ⟨zlwg_of (List.mem_of_getElem? (i := 1447) (by decide +kernel)) rfl, zlwg_of (List.mem_of_getElem? (i := 126) (by decide +kernel)) rfl⟩
theorem mpX8_leastRow : zMp yX8_leastRow cX8_leastRow 3 (some .int) 0 := ⟨zlwg_of (List.mem_of_getElem? (i := 1444) (by decide +kernel)) rfl, zlwg_of (List.mem_of_getElem? (i := 145) (by decide +kernel)) rfl, by decide, by decide, by decide +kernel⟩
theorem miX8_leastRow : Cond.instanceMethod yX8_leastRow ∈ zlwg ∧ Cond.selects yX8_leastRow.cls yX8_leastRow yX8_leastRow ∈ zlwg := ⟨zlwg_of (List.mem_of_getElem? (i := 1443) (by decide +kernel)) rfl, zlwg_of (List.mem_of_getElem? (i := 125) (by decide +kernel)) rfl⟩
theorem mpX8_leastColumn : zMp yX8_leastColumn cX8_leastColumn 3 (some .int) 0 := ⟨zlwg_of (List.mem_of_getElem? (i := 1452) (by decide +kernel)) rfl, zlwg_of (List.mem_of_getElem? (i := 145) (by decide +kernel)) rfl, by decide, by decide, by decide +kernel⟩
theorem miX8_leastColumn : Cond.instanceMethod yX8_leastColumn ∈ zlwg ∧ Cond.selects yX8_leastColumn.cls yX8_leastColumn yX8_leastColumn ∈ zlwg := ⟨zlwg_of (List.mem_of_getElem? (i := 1451) (by decide +kernel)) rfl, zlwg_of (List.mem_of_getElem? (i := 127) (by decide +kernel)) rfl⟩
theorem mpX8_turn : zMp yX8_turn cX8_turn 7 none 2 := ⟨zlwg_of (List.mem_of_getElem? (i := 1456) (by decide +kernel)) rfl, zlwg_of (List.mem_of_getElem? (i := 145) (by decide +kernel)) rfl, by decide, by decide, by decide +kernel⟩
theorem miX8_turn : Cond.instanceMethod yX8_turn ∈ zlwg ∧ Cond.selects yX8_turn.cls yX8_turn yX8_turn ∈ zlwg := ⟨zlwg_of (List.mem_of_getElem? (i := 1455) (by decide +kernel)) rfl, zlwg_of (List.mem_of_getElem? (i := 128) (by decide +kernel)) rfl⟩
theorem mpX8_addRow : zMp yX8_addRow cX8_addRow 5 none 3 := ⟨zlwg_of (List.mem_of_getElem? (i := 1429) (by decide +kernel)) rfl, zlwg_of (List.mem_of_getElem? (i := 145) (by decide +kernel)) rfl, by decide, by decide, by decide +kernel⟩
theorem miX8_addRow : Cond.instanceMethod yX8_addRow ∈ zlwg ∧ Cond.selects yX8_addRow.cls yX8_addRow yX8_addRow ∈ zlwg := ⟨zlwg_of (List.mem_of_getElem? (i := 1428) (by decide +kernel)) rfl, zlwg_of (List.mem_of_getElem? (i := 122) (by decide +kernel)) rfl⟩
theorem mpX8_isSolved : zMp yX8_isSolved cX8_isSolved 5 (some .boolean) 0 := ⟨zlwg_of (List.mem_of_getElem? (i := 1440) (by decide +kernel)) rfl, zlwg_of (List.mem_of_getElem? (i := 145) (by decide +kernel)) rfl, by decide, by decide, by decide +kernel⟩
theorem miX8_isSolved : Cond.instanceMethod yX8_isSolved ∈ zlwg ∧ Cond.selects yX8_isSolved.cls yX8_isSolved yX8_isSolved ∈ zlwg := ⟨zlwg_of (List.mem_of_getElem? (i := 1439) (by decide +kernel)) rfl, zlwg_of (List.mem_of_getElem? (i := 124) (by decide +kernel)) rfl⟩
theorem mpX8_find : zMp yX8_find cX8_find 6 (some .boolean) 3 := ⟨zlwg_of (List.mem_of_getElem? (i := 1425) (by decide +kernel)) rfl, zlwg_of (List.mem_of_getElem? (i := 145) (by decide +kernel)) rfl, by decide, by decide, by decide +kernel⟩
theorem miX8_find : Cond.instanceMethod yX8_find ∈ zlwg ∧ Cond.selects yX8_find.cls yX8_find yX8_find ∈ zlwg := ⟨zlwg_of (List.mem_of_getElem? (i := 1424) (by decide +kernel)) rfl, zlwg_of (List.mem_of_getElem? (i := 121) (by decide +kernel)) rfl⟩
theorem mpX6_worldsShowing : zMp yX6_worldsShowing cX6_worldsShowing 8 (some .int) 2 := ⟨zlwg_of (List.mem_of_getElem? (i := 918) (by decide +kernel)) rfl, zlwg_of (List.mem_of_getElem? (i := 142) (by decide +kernel)) rfl, by decide, by decide, by decide +kernel⟩
theorem miX6_worldsShowing : Cond.instanceMethod yX6_worldsShowing ∈ zlwg ∧ Cond.selects yX6_worldsShowing.cls yX6_worldsShowing yX6_worldsShowing ∈ zlwg := ⟨zlwg_of (List.mem_of_getElem? (i := 917) (by decide +kernel)) rfl, zlwg_of (List.mem_of_getElem? (i := 74) (by decide +kernel)) rfl⟩
theorem mpX6_findMost : zMp yX6_findMost cX6_findMost 2 (some .boolean) 1 := ⟨zlwg_of (List.mem_of_getElem? (i := 925) (by decide +kernel)) rfl, zlwg_of (List.mem_of_getElem? (i := 142) (by decide +kernel)) rfl, by decide, by decide, by decide +kernel⟩
theorem miX6_findMost : Cond.instanceMethod yX6_findMost ∈ zlwg ∧ Cond.selects yX6_findMost.cls yX6_findMost yX6_findMost ∈ zlwg := ⟨zlwg_of (List.mem_of_getElem? (i := 924) (by decide +kernel)) rfl, zlwg_of (List.mem_of_getElem? (i := 75) (by decide +kernel)) rfl⟩
theorem mpX8_worldsOf : zMp yX8_worldsOf cX8_worldsOf 7 (some .int) 1 := ⟨zlwg_of (List.mem_of_getElem? (i := 1465) (by decide +kernel)) rfl, zlwg_of (List.mem_of_getElem? (i := 145) (by decide +kernel)) rfl, by decide, by decide, by decide +kernel⟩
theorem miX8_worldsOf : Cond.instanceMethod yX8_worldsOf ∈ zlwg ∧ Cond.selects yX8_worldsOf.cls yX8_worldsOf yX8_worldsOf ∈ zlwg := ⟨zlwg_of (List.mem_of_getElem? (i := 1464) (by decide +kernel)) rfl, zlwg_of (List.mem_of_getElem? (i := 129) (by decide +kernel)) rfl⟩
theorem mpX6_findLeastRaised : zMp yX6_findLeastRaised cX6_findLeastRaised 5 (some .boolean) 2 := ⟨zlwg_of (List.mem_of_getElem? (i := 938) (by decide +kernel)) rfl, zlwg_of (List.mem_of_getElem? (i := 142) (by decide +kernel)) rfl, by decide, by decide, by decide +kernel⟩
theorem miX6_findLeastRaised : Cond.instanceMethod yX6_findLeastRaised ∈ zlwg ∧ Cond.selects yX6_findLeastRaised.cls yX6_findLeastRaised yX6_findLeastRaised ∈ zlwg := ⟨zlwg_of (List.mem_of_getElem? (i := 937) (by decide +kernel)) rfl, zlwg_of (List.mem_of_getElem? (i := 77) (by decide +kernel)) rfl⟩
theorem mpX6_bestRaise : zMp yX6_bestRaise cX6_bestRaise 8 (some .int) 1 := ⟨zlwg_of (List.mem_of_getElem? (i := 934) (by decide +kernel)) rfl, zlwg_of (List.mem_of_getElem? (i := 142) (by decide +kernel)) rfl, by decide, by decide, by decide +kernel⟩
theorem miX6_bestRaise : Cond.instanceMethod yX6_bestRaise ∈ zlwg ∧ Cond.selects yX6_bestRaise.cls yX6_bestRaise yX6_bestRaise ∈ zlwg := ⟨zlwg_of (List.mem_of_getElem? (i := 933) (by decide +kernel)) rfl, zlwg_of (List.mem_of_getElem? (i := 76) (by decide +kernel)) rfl⟩
theorem mpX2_timesPart : zMp yX2_timesPart cX2_timesPart 4 (some .int) 1 := ⟨zlwg_of (List.mem_of_getElem? (i := 950) (by decide +kernel)) rfl, zlwg_of (List.mem_of_getElem? (i := 140) (by decide +kernel)) rfl, by decide, by decide, by decide +kernel⟩
theorem miX2_timesPart : Cond.instanceMethod yX2_timesPart ∈ zlwg ∧ Cond.selects yX2_timesPart.cls yX2_timesPart yX2_timesPart ∈ zlwg := ⟨zlwg_of (List.mem_of_getElem? (i := 949) (by decide +kernel)) rfl, zlwg_of (List.mem_of_getElem? (i := 79) (by decide +kernel)) rfl⟩
theorem mpX2_kindOf : zMp yX2_kindOf cX2_kindOf 2 (some .int) 1 := ⟨zlwg_of (List.mem_of_getElem? (i := 946) (by decide +kernel)) rfl, zlwg_of (List.mem_of_getElem? (i := 140) (by decide +kernel)) rfl, by decide, by decide, by decide +kernel⟩
theorem miX2_kindOf : Cond.instanceMethod yX2_kindOf ∈ zlwg ∧ Cond.selects yX2_kindOf.cls yX2_kindOf yX2_kindOf ∈ zlwg := ⟨zlwg_of (List.mem_of_getElem? (i := 945) (by decide +kernel)) rfl, zlwg_of (List.mem_of_getElem? (i := 78) (by decide +kernel)) rfl⟩
theorem mpX8_partsIn : zMp yX8_partsIn cX8_partsIn 4 (some .int) 1 := ⟨zlwg_of (List.mem_of_getElem? (i := 1481) (by decide +kernel)) rfl, zlwg_of (List.mem_of_getElem? (i := 145) (by decide +kernel)) rfl, by decide, by decide, by decide +kernel⟩
theorem miX8_partsIn : Cond.instanceMethod yX8_partsIn ∈ zlwg ∧ Cond.selects yX8_partsIn.cls yX8_partsIn yX8_partsIn ∈ zlwg := ⟨zlwg_of (List.mem_of_getElem? (i := 1480) (by decide +kernel)) rfl, zlwg_of (List.mem_of_getElem? (i := 131) (by decide +kernel)) rfl⟩
theorem mpX8_kindOf : zMp yX8_kindOf cX8_kindOf 2 (some .int) 1 := ⟨zlwg_of (List.mem_of_getElem? (i := 1477) (by decide +kernel)) rfl, zlwg_of (List.mem_of_getElem? (i := 145) (by decide +kernel)) rfl, by decide, by decide, by decide +kernel⟩
theorem miX8_kindOf : Cond.instanceMethod yX8_kindOf ∈ zlwg ∧ Cond.selects yX8_kindOf.cls yX8_kindOf yX8_kindOf ∈ zlwg := ⟨zlwg_of (List.mem_of_getElem? (i := 1476) (by decide +kernel)) rfl, zlwg_of (List.mem_of_getElem? (i := 130) (by decide +kernel)) rfl⟩
theorem mpX2_isTakenAs : zMp yX2_isTakenAs cX2_isTakenAs 3 (some .boolean) 2 := ⟨zlwg_of (List.mem_of_getElem? (i := 958) (by decide +kernel)) rfl, zlwg_of (List.mem_of_getElem? (i := 140) (by decide +kernel)) rfl, by decide, by decide, by decide +kernel⟩
theorem miX2_isTakenAs : Cond.instanceMethod yX2_isTakenAs ∈ zlwg ∧ Cond.selects yX2_isTakenAs.cls yX2_isTakenAs yX2_isTakenAs ∈ zlwg := ⟨zlwg_of (List.mem_of_getElem? (i := 957) (by decide +kernel)) rfl, zlwg_of (List.mem_of_getElem? (i := 80) (by decide +kernel)) rfl⟩
theorem mpX8_isOf : zMp yX8_isOf cX8_isOf 2 (some .boolean) 2 := ⟨zlwg_of (List.mem_of_getElem? (i := 1488) (by decide +kernel)) rfl, zlwg_of (List.mem_of_getElem? (i := 145) (by decide +kernel)) rfl, by decide, by decide, by decide +kernel⟩
theorem miX8_isOf : Cond.static yX8_isOf ∈ zlwg := zlwg_of (List.mem_of_getElem? (i := 1487) (by decide +kernel)) rfl
theorem mpX0_begin : zMp yX0_begin cX0_begin 2 none 1 := ⟨zlwg_of (List.mem_of_getElem? (i := 982) (by decide +kernel)) rfl, zlwg_of (List.mem_of_getElem? (i := 144) (by decide +kernel)) rfl, by decide, by decide, by decide +kernel⟩
theorem miX0_begin : Cond.instanceMethod yX0_begin ∈ zlwg ∧ Cond.selects yX0_begin.cls yX0_begin yX0_begin ∈ zlwg := ⟨zlwg_of (List.mem_of_getElem? (i := 981) (by decide +kernel)) rfl, zlwg_of (List.mem_of_getElem? (i := 84) (by decide +kernel)) rfl⟩
theorem mpX0_size10 : zMp yX0_size10 cX0_size10 3 (some .int) 2 := ⟨zlwg_of (List.mem_of_getElem? (i := 986) (by decide +kernel)) rfl, zlwg_of (List.mem_of_getElem? (i := 144) (by decide +kernel)) rfl, by decide, by decide, by decide +kernel⟩
theorem miX0_size10 : Cond.instanceMethod yX0_size10 ∈ zlwg ∧ Cond.selects yX0_size10.cls yX0_size10 yX0_size10 ∈ zlwg := ⟨zlwg_of (List.mem_of_getElem? (i := 985) (by decide +kernel)) rfl, zlwg_of (List.mem_of_getElem? (i := 85) (by decide +kernel)) rfl⟩
theorem mpX0_size11 : zMp yX0_size11 cX0_size11 3 (some .int) 2 := ⟨zlwg_of (List.mem_of_getElem? (i := 978) (by decide +kernel)) rfl, zlwg_of (List.mem_of_getElem? (i := 144) (by decide +kernel)) rfl, by decide, by decide, by decide +kernel⟩
theorem miX0_size11 : Cond.instanceMethod yX0_size11 ∈ zlwg ∧ Cond.selects yX0_size11.cls yX0_size11 yX0_size11 ∈ zlwg := ⟨zlwg_of (List.mem_of_getElem? (i := 977) (by decide +kernel)) rfl, zlwg_of (List.mem_of_getElem? (i := 83) (by decide +kernel)) rfl⟩
theorem mpX0_mark20 : zMp yX0_mark20 cX0_mark20 2 (some .int) 1 := ⟨zlwg_of (List.mem_of_getElem? (i := 1007) (by decide +kernel)) rfl, zlwg_of (List.mem_of_getElem? (i := 144) (by decide +kernel)) rfl, by decide, by decide, by decide +kernel⟩
theorem miX0_mark20 : Cond.instanceMethod yX0_mark20 ∈ zlwg ∧ Cond.selects yX0_mark20.cls yX0_mark20 yX0_mark20 ∈ zlwg := ⟨zlwg_of (List.mem_of_getElem? (i := 1006) (by decide +kernel)) rfl, zlwg_of (List.mem_of_getElem? (i := 90) (by decide +kernel)) rfl⟩
theorem mpX0_mark21 : zMp yX0_mark21 cX0_mark21 2 (some .int) 1 := ⟨zlwg_of (List.mem_of_getElem? (i := 1003) (by decide +kernel)) rfl, zlwg_of (List.mem_of_getElem? (i := 144) (by decide +kernel)) rfl, by decide, by decide, by decide +kernel⟩
theorem miX0_mark21 : Cond.instanceMethod yX0_mark21 ∈ zlwg ∧ Cond.selects yX0_mark21.cls yX0_mark21 yX0_mark21 ∈ zlwg := ⟨zlwg_of (List.mem_of_getElem? (i := 1002) (by decide +kernel)) rfl, zlwg_of (List.mem_of_getElem? (i := 89) (by decide +kernel)) rfl⟩
theorem mpX0_mark22 : zMp yX0_mark22 cX0_mark22 3 (some .int) 2 := ⟨zlwg_of (List.mem_of_getElem? (i := 1012) (by decide +kernel)) rfl, zlwg_of (List.mem_of_getElem? (i := 144) (by decide +kernel)) rfl, by decide, by decide, by decide +kernel⟩
theorem miX0_mark22 : Cond.instanceMethod yX0_mark22 ∈ zlwg ∧ Cond.selects yX0_mark22.cls yX0_mark22 yX0_mark22 ∈ zlwg := ⟨zlwg_of (List.mem_of_getElem? (i := 1011) (by decide +kernel)) rfl, zlwg_of (List.mem_of_getElem? (i := 91) (by decide +kernel)) rfl⟩
theorem mpX0_mark : zMp yX0_mark cX0_mark 3 (some .int) 2 := ⟨zlwg_of (List.mem_of_getElem? (i := 999) (by decide +kernel)) rfl, zlwg_of (List.mem_of_getElem? (i := 144) (by decide +kernel)) rfl, by decide, by decide, by decide +kernel⟩
theorem miX0_mark : Cond.instanceMethod yX0_mark ∈ zlwg ∧ Cond.selects yX0_mark.cls yX0_mark yX0_mark ∈ zlwg := ⟨zlwg_of (List.mem_of_getElem? (i := 998) (by decide +kernel)) rfl, zlwg_of (List.mem_of_getElem? (i := 88) (by decide +kernel)) rfl⟩
theorem mpX0_size13 : zMp yX0_size13 cX0_size13 3 (some .int) 2 := ⟨zlwg_of (List.mem_of_getElem? (i := 995) (by decide +kernel)) rfl, zlwg_of (List.mem_of_getElem? (i := 144) (by decide +kernel)) rfl, by decide, by decide, by decide +kernel⟩
theorem miX0_size13 : Cond.instanceMethod yX0_size13 ∈ zlwg ∧ Cond.selects yX0_size13.cls yX0_size13 yX0_size13 ∈ zlwg := ⟨zlwg_of (List.mem_of_getElem? (i := 994) (by decide +kernel)) rfl, zlwg_of (List.mem_of_getElem? (i := 87) (by decide +kernel)) rfl⟩
theorem mpX2_timesHeld : zMp yX2_timesHeld cX2_timesHeld 4 (some .int) 1 := ⟨zlwg_of (List.mem_of_getElem? (i := 1020) (by decide +kernel)) rfl, zlwg_of (List.mem_of_getElem? (i := 140) (by decide +kernel)) rfl, by decide, by decide, by decide +kernel⟩
theorem miX2_timesHeld : Cond.instanceMethod yX2_timesHeld ∈ zlwg ∧ Cond.selects yX2_timesHeld.cls yX2_timesHeld yX2_timesHeld ∈ zlwg := ⟨zlwg_of (List.mem_of_getElem? (i := 1019) (by decide +kernel)) rfl, zlwg_of (List.mem_of_getElem? (i := 93) (by decide +kernel)) rfl⟩
theorem mpX0_size12 : zMp yX0_size12 cX0_size12 3 (some .int) 2 := ⟨zlwg_of (List.mem_of_getElem? (i := 991) (by decide +kernel)) rfl, zlwg_of (List.mem_of_getElem? (i := 144) (by decide +kernel)) rfl, by decide, by decide, by decide +kernel⟩
theorem miX0_size12 : Cond.instanceMethod yX0_size12 ∈ zlwg ∧ Cond.selects yX0_size12.cls yX0_size12 yX0_size12 ∈ zlwg := ⟨zlwg_of (List.mem_of_getElem? (i := 990) (by decide +kernel)) rfl, zlwg_of (List.mem_of_getElem? (i := 86) (by decide +kernel)) rfl⟩
theorem mpX0_size14 : zMp yX0_size14 cX0_size14 3 (some .int) 2 := ⟨zlwg_of (List.mem_of_getElem? (i := 1016) (by decide +kernel)) rfl, zlwg_of (List.mem_of_getElem? (i := 144) (by decide +kernel)) rfl, by decide, by decide, by decide +kernel⟩
theorem miX0_size14 : Cond.instanceMethod yX0_size14 ∈ zlwg ∧ Cond.selects yX0_size14.cls yX0_size14 yX0_size14 ∈ zlwg := ⟨zlwg_of (List.mem_of_getElem? (i := 1015) (by decide +kernel)) rfl, zlwg_of (List.mem_of_getElem? (i := 92) (by decide +kernel)) rfl⟩
theorem mpX0_size15 : zMp yX0_size15 cX0_size15 3 (some .int) 2 := ⟨zlwg_of (List.mem_of_getElem? (i := 1024) (by decide +kernel)) rfl, zlwg_of (List.mem_of_getElem? (i := 144) (by decide +kernel)) rfl, by decide, by decide, by decide +kernel⟩
theorem miX0_size15 : Cond.instanceMethod yX0_size15 ∈ zlwg ∧ Cond.selects yX0_size15.cls yX0_size15 yX0_size15 ∈ zlwg := ⟨zlwg_of (List.mem_of_getElem? (i := 1023) (by decide +kernel)) rfl, zlwg_of (List.mem_of_getElem? (i := 94) (by decide +kernel)) rfl⟩
theorem mpX0_start : zMp yX0_start cX0_start 2 none 1 := ⟨zlwg_of (List.mem_of_getElem? (i := 969) (by decide +kernel)) rfl, zlwg_of (List.mem_of_getElem? (i := 144) (by decide +kernel)) rfl, by decide, by decide, by decide +kernel⟩
theorem miX0_start : Cond.instanceMethod yX0_start ∈ zlwg ∧ Cond.selects yX0_start.cls yX0_start yX0_start ∈ zlwg := ⟨zlwg_of (List.mem_of_getElem? (i := 968) (by decide +kernel)) rfl, zlwg_of (List.mem_of_getElem? (i := 81) (by decide +kernel)) rfl⟩
theorem mpX0_size : zMp yX0_size cX0_size 3 (some .int) 2 := ⟨zlwg_of (List.mem_of_getElem? (i := 973) (by decide +kernel)) rfl, zlwg_of (List.mem_of_getElem? (i := 144) (by decide +kernel)) rfl, by decide, by decide, by decide +kernel⟩
theorem miX0_size : Cond.instanceMethod yX0_size ∈ zlwg ∧ Cond.selects yX0_size.cls yX0_size yX0_size ∈ zlwg := ⟨zlwg_of (List.mem_of_getElem? (i := 972) (by decide +kernel)) rfl, zlwg_of (List.mem_of_getElem? (i := 82) (by decide +kernel)) rfl⟩
theorem mpX8_began : zMp yX8_began cX8_began 2 none 1 := ⟨zlwg_of (List.mem_of_getElem? (i := 1500) (by decide +kernel)) rfl, zlwg_of (List.mem_of_getElem? (i := 145) (by decide +kernel)) rfl, by decide, by decide, by decide +kernel⟩
theorem miX8_began : Cond.instanceMethod yX8_began ∈ zlwg ∧ Cond.selects yX8_began.cls yX8_began yX8_began ∈ zlwg := ⟨zlwg_of (List.mem_of_getElem? (i := 1499) (by decide +kernel)) rfl, zlwg_of (List.mem_of_getElem? (i := 133) (by decide +kernel)) rfl⟩
theorem mpX8_heldBy : zMp yX8_heldBy cX8_heldBy 4 (some .int) 1 := ⟨zlwg_of (List.mem_of_getElem? (i := 1508) (by decide +kernel)) rfl, zlwg_of (List.mem_of_getElem? (i := 145) (by decide +kernel)) rfl, by decide, by decide, by decide +kernel⟩
theorem miX8_heldBy : Cond.instanceMethod yX8_heldBy ∈ zlwg ∧ Cond.selects yX8_heldBy.cls yX8_heldBy yX8_heldBy ∈ zlwg := ⟨zlwg_of (List.mem_of_getElem? (i := 1507) (by decide +kernel)) rfl, zlwg_of (List.mem_of_getElem? (i := 135) (by decide +kernel)) rfl⟩
theorem mpX8_markOf : zMp yX8_markOf cX8_markOf 3 (some .int) 2 := ⟨zlwg_of (List.mem_of_getElem? (i := 1504) (by decide +kernel)) rfl, zlwg_of (List.mem_of_getElem? (i := 145) (by decide +kernel)) rfl, by decide, by decide, by decide +kernel⟩
theorem miX8_markOf : Cond.instanceMethod yX8_markOf ∈ zlwg ∧ Cond.selects yX8_markOf.cls yX8_markOf yX8_markOf ∈ zlwg := ⟨zlwg_of (List.mem_of_getElem? (i := 1503) (by decide +kernel)) rfl, zlwg_of (List.mem_of_getElem? (i := 134) (by decide +kernel)) rfl⟩
theorem mpX8_sizeOf : zMp yX8_sizeOf cX8_sizeOf 4 (some .int) 2 := ⟨zlwg_of (List.mem_of_getElem? (i := 1496) (by decide +kernel)) rfl, zlwg_of (List.mem_of_getElem? (i := 145) (by decide +kernel)) rfl, by decide, by decide, by decide +kernel⟩
theorem miX8_sizeOf : Cond.instanceMethod yX8_sizeOf ∈ zlwg ∧ Cond.selects yX8_sizeOf.cls yX8_sizeOf yX8_sizeOf ∈ zlwg := ⟨zlwg_of (List.mem_of_getElem? (i := 1495) (by decide +kernel)) rfl, zlwg_of (List.mem_of_getElem? (i := 132) (by decide +kernel)) rfl⟩
theorem mpX3_laid : zMp yX3_laid cX3_laid 3 (some .int) 0 := ⟨zlwg_of (List.mem_of_getElem? (i := 1037) (by decide +kernel)) rfl, zlwg_of (List.mem_of_getElem? (i := 138) (by decide +kernel)) rfl, by decide, by decide, by decide +kernel⟩
theorem miX3_laid : Cond.instanceMethod yX3_laid ∈ zlwg ∧ Cond.selects yX3_laid.cls yX3_laid yX3_laid ∈ zlwg := ⟨zlwg_of (List.mem_of_getElem? (i := 1036) (by decide +kernel)) rfl, zlwg_of (List.mem_of_getElem? (i := 95) (by decide +kernel)) rfl⟩
theorem mpX2_grounds : zMp yX2_grounds cX2_grounds 1 (some .int) 0 := ⟨zlwg_of (List.mem_of_getElem? (i := 1041) (by decide +kernel)) rfl, zlwg_of (List.mem_of_getElem? (i := 140) (by decide +kernel)) rfl, by decide, by decide, by decide +kernel⟩
theorem miX2_grounds : Cond.instanceMethod yX2_grounds ∈ zlwg ∧ Cond.selects yX2_grounds.cls yX2_grounds yX2_grounds ∈ zlwg := ⟨zlwg_of (List.mem_of_getElem? (i := 1040) (by decide +kernel)) rfl, zlwg_of (List.mem_of_getElem? (i := 96) (by decide +kernel)) rfl⟩
