section
-- ===== PART A: goes FIRST, ahead of the names: the tables' words, and 'selects' of the private methods out of them =====
/-- a private method of a class that the tables say can be made, by its rows of tables_1 -/
def lw_okq (q : MethodName × Nat) : Prop := (q.1.cls ≠ "java/lang/invoke/MethodHandle" ∧ q.1.cls ≠ "java/lang/invoke/VarHandle") ∧ Cond.instantiable q.1.cls q.2 ∈ tables_1 ∧ Cond.privateMethod q.1 ∈ tables_1 ∧ Cond.instanceMethod q.1 ∈ tables_1
theorem lw_p0 : lw_okq (⟨"SafeNet$Sheets", "isNumber", "(I)Z"⟩, 3) := ⟨⟨by decide +kernel, by decide +kernel⟩, List.mem_of_getElem? (i := 26) (by decide +kernel), List.mem_of_getElem? (i := 282) (by decide +kernel), List.mem_of_getElem? (i := 283) (by decide +kernel)⟩
theorem lw_p1 : lw_okq (⟨"SafeNet", "found", "(I)I"⟩, 8) := ⟨⟨by decide +kernel, by decide +kernel⟩, List.mem_of_getElem? (i := 18) (by decide +kernel), List.mem_of_getElem? (i := 290) (by decide +kernel), List.mem_of_getElem? (i := 291) (by decide +kernel)⟩
theorem lw_p2 : lw_okq (⟨"SafeNet$Sheets", "lay", "(III)V"⟩, 3) := ⟨⟨by decide +kernel, by decide +kernel⟩, List.mem_of_getElem? (i := 26) (by decide +kernel), List.mem_of_getElem? (i := 295) (by decide +kernel), List.mem_of_getElem? (i := 296) (by decide +kernel)⟩
theorem lw_p3 : lw_okq (⟨"SafeNet", "unfound", "(I)I"⟩, 8) := ⟨⟨by decide +kernel, by decide +kernel⟩, List.mem_of_getElem? (i := 18) (by decide +kernel), List.mem_of_getElem? (i := 299) (by decide +kernel), List.mem_of_getElem? (i := 300) (by decide +kernel)⟩
theorem lw_p4 : lw_okq (⟨"SafeNet$Sheets", "isMissing", "(I)Z"⟩, 3) := ⟨⟨by decide +kernel, by decide +kernel⟩, List.mem_of_getElem? (i := 26) (by decide +kernel), List.mem_of_getElem? (i := 307) (by decide +kernel), List.mem_of_getElem? (i := 308) (by decide +kernel)⟩
theorem lw_p5 : lw_okq (⟨"SafeNet$Sheets", "hasPlaces", "(III)Z"⟩, 3) := ⟨⟨by decide +kernel, by decide +kernel⟩, List.mem_of_getElem? (i := 26) (by decide +kernel), List.mem_of_getElem? (i := 311) (by decide +kernel), List.mem_of_getElem? (i := 312) (by decide +kernel)⟩
theorem lw_p6 : lw_okq (⟨"SafeNet$Sheets", "put", "(III)I"⟩, 3) := ⟨⟨by decide +kernel, by decide +kernel⟩, List.mem_of_getElem? (i := 26) (by decide +kernel), List.mem_of_getElem? (i := 315) (by decide +kernel), List.mem_of_getElem? (i := 316) (by decide +kernel)⟩
theorem lw_p7 : lw_okq (⟨"SafeNet$Sheets", "areOfOneLane", "(II)Z"⟩, 3) := ⟨⟨by decide +kernel, by decide +kernel⟩, List.mem_of_getElem? (i := 26) (by decide +kernel), List.mem_of_getElem? (i := 323) (by decide +kernel), List.mem_of_getElem? (i := 324) (by decide +kernel)⟩
theorem lw_p8 : lw_okq (⟨"SafeNet$Sheets", "move", "(IIIII)V"⟩, 3) := ⟨⟨by decide +kernel, by decide +kernel⟩, List.mem_of_getElem? (i := 26) (by decide +kernel), List.mem_of_getElem? (i := 327) (by decide +kernel), List.mem_of_getElem? (i := 328) (by decide +kernel)⟩
theorem lw_p9 : lw_okq (⟨"SafeNet$Sheets", "takeAway", "(I)I"⟩, 3) := ⟨⟨by decide +kernel, by decide +kernel⟩, List.mem_of_getElem? (i := 26) (by decide +kernel), List.mem_of_getElem? (i := 338) (by decide +kernel), List.mem_of_getElem? (i := 339) (by decide +kernel)⟩
theorem lw_p10 : lw_okq (⟨"SafeNet$Text", "hasRoom", "(I)Z"⟩, 6) := ⟨⟨by decide +kernel, by decide +kernel⟩, List.mem_of_getElem? (i := 43) (by decide +kernel), List.mem_of_getElem? (i := 346) (by decide +kernel), List.mem_of_getElem? (i := 347) (by decide +kernel)⟩
theorem lw_p11 : lw_okq (⟨"SafeNet$Text", "append", "(JI)I"⟩, 6) := ⟨⟨by decide +kernel, by decide +kernel⟩, List.mem_of_getElem? (i := 43) (by decide +kernel), List.mem_of_getElem? (i := 351) (by decide +kernel), List.mem_of_getElem? (i := 352) (by decide +kernel)⟩
theorem lw_p12 : lw_okq (⟨"SafeNet$Text", "read", "(LSafeNet$Net;)I"⟩, 6) := ⟨⟨by decide +kernel, by decide +kernel⟩, List.mem_of_getElem? (i := 43) (by decide +kernel), List.mem_of_getElem? (i := 359) (by decide +kernel), List.mem_of_getElem? (i := 360) (by decide +kernel)⟩
theorem lw_p13 : lw_okq (⟨"SafeNet$Text", "take", "()V"⟩, 6) := ⟨⟨by decide +kernel, by decide +kernel⟩, List.mem_of_getElem? (i := 43) (by decide +kernel), List.mem_of_getElem? (i := 363) (by decide +kernel), List.mem_of_getElem? (i := 364) (by decide +kernel)⟩
theorem lw_p14 : lw_okq (⟨"SafeNet$Text", "sortAt", "(I)I"⟩, 6) := ⟨⟨by decide +kernel, by decide +kernel⟩, List.mem_of_getElem? (i := 43) (by decide +kernel), List.mem_of_getElem? (i := 367) (by decide +kernel), List.mem_of_getElem? (i := 368) (by decide +kernel)⟩
theorem lw_p15 : lw_okq (⟨"SafeNet$Text", "takeWorth", "()V"⟩, 6) := ⟨⟨by decide +kernel, by decide +kernel⟩, List.mem_of_getElem? (i := 43) (by decide +kernel), List.mem_of_getElem? (i := 374) (by decide +kernel), List.mem_of_getElem? (i := 375) (by decide +kernel)⟩
def lw_privs_1 : List (MethodName × Nat) := [(⟨"SafeNet$Sheets", "isNumber", "(I)Z"⟩, 3), (⟨"SafeNet", "found", "(I)I"⟩, 8), (⟨"SafeNet$Sheets", "lay", "(III)V"⟩, 3), (⟨"SafeNet", "unfound", "(I)I"⟩, 8), (⟨"SafeNet$Sheets", "isMissing", "(I)Z"⟩, 3), (⟨"SafeNet$Sheets", "hasPlaces", "(III)Z"⟩, 3), (⟨"SafeNet$Sheets", "put", "(III)I"⟩, 3), (⟨"SafeNet$Sheets", "areOfOneLane", "(II)Z"⟩, 3), (⟨"SafeNet$Sheets", "move", "(IIIII)V"⟩, 3), (⟨"SafeNet$Sheets", "takeAway", "(I)I"⟩, 3), (⟨"SafeNet$Text", "hasRoom", "(I)Z"⟩, 6), (⟨"SafeNet$Text", "append", "(JI)I"⟩, 6), (⟨"SafeNet$Text", "read", "(LSafeNet$Net;)I"⟩, 6), (⟨"SafeNet$Text", "take", "()V"⟩, 6), (⟨"SafeNet$Text", "sortAt", "(I)I"⟩, 6), (⟨"SafeNet$Text", "takeWorth", "()V"⟩, 6)]
theorem lw_r1 : ∀ q ∈ lw_privs_1, lw_okq q := List.forall_mem_cons.mpr ⟨lw_p0, List.forall_mem_cons.mpr ⟨lw_p1, List.forall_mem_cons.mpr ⟨lw_p2, List.forall_mem_cons.mpr ⟨lw_p3, List.forall_mem_cons.mpr ⟨lw_p4, List.forall_mem_cons.mpr ⟨lw_p5, List.forall_mem_cons.mpr ⟨lw_p6, List.forall_mem_cons.mpr ⟨lw_p7, List.forall_mem_cons.mpr ⟨lw_p8, List.forall_mem_cons.mpr ⟨lw_p9, List.forall_mem_cons.mpr ⟨lw_p10, List.forall_mem_cons.mpr ⟨lw_p11, List.forall_mem_cons.mpr ⟨lw_p12, List.forall_mem_cons.mpr ⟨lw_p13, List.forall_mem_cons.mpr ⟨lw_p14, List.forall_mem_cons.mpr ⟨lw_p15, fun _ h => absurd h List.not_mem_nil⟩⟩⟩⟩⟩⟩⟩⟩⟩⟩⟩⟩⟩⟩⟩⟩
theorem lw_p16 : lw_okq (⟨"SafeNet$Text", "readSentence", "(LSafeNet$Net;)I"⟩, 6) := ⟨⟨by decide +kernel, by decide +kernel⟩, List.mem_of_getElem? (i := 43) (by decide +kernel), List.mem_of_getElem? (i := 378) (by decide +kernel), List.mem_of_getElem? (i := 379) (by decide +kernel)⟩
theorem lw_p17 : lw_okq (⟨"SafeNet$Text", "isWord", "(Ljava/lang/String;)Z"⟩, 6) := ⟨⟨by decide +kernel, by decide +kernel⟩, List.mem_of_getElem? (i := 43) (by decide +kernel), List.mem_of_getElem? (i := 383) (by decide +kernel), List.mem_of_getElem? (i := 384) (by decide +kernel)⟩
theorem lw_p18 : lw_okq (⟨"SafeNet$Text", "readGround", "(LSafeNet$Net;I)I"⟩, 6) := ⟨⟨by decide +kernel, by decide +kernel⟩, List.mem_of_getElem? (i := 43) (by decide +kernel), List.mem_of_getElem? (i := 435) (by decide +kernel), List.mem_of_getElem? (i := 436) (by decide +kernel)⟩
theorem lw_p19 : lw_okq (⟨"SafeNet$Net", "addNode", "(II)V"⟩, 16) := ⟨⟨by decide +kernel, by decide +kernel⟩, List.mem_of_getElem? (i := 71) (by decide +kernel), List.mem_of_getElem? (i := 439) (by decide +kernel), List.mem_of_getElem? (i := 440) (by decide +kernel)⟩
theorem lw_p20 : lw_okq (⟨"SafeNet$Text", "readSign", "()I"⟩, 6) := ⟨⟨by decide +kernel, by decide +kernel⟩, List.mem_of_getElem? (i := 43) (by decide +kernel), List.mem_of_getElem? (i := 443) (by decide +kernel), List.mem_of_getElem? (i := 444) (by decide +kernel)⟩
theorem lw_p21 : lw_okq (⟨"SafeNet$Text", "readClaim", "(LSafeNet$Net;)I"⟩, 6) := ⟨⟨by decide +kernel, by decide +kernel⟩, List.mem_of_getElem? (i := 43) (by decide +kernel), List.mem_of_getElem? (i := 449) (by decide +kernel), List.mem_of_getElem? (i := 450) (by decide +kernel)⟩
theorem lw_p22 : lw_okq (⟨"SafeNet$Text", "readStep", "(LSafeNet$Net;)I"⟩, 6) := ⟨⟨by decide +kernel, by decide +kernel⟩, List.mem_of_getElem? (i := 43) (by decide +kernel), List.mem_of_getElem? (i := 454) (by decide +kernel), List.mem_of_getElem? (i := 455) (by decide +kernel)⟩
theorem lw_p23 : lw_okq (⟨"SafeNet$Text", "formTold", "()I"⟩, 6) := ⟨⟨by decide +kernel, by decide +kernel⟩, List.mem_of_getElem? (i := 43) (by decide +kernel), List.mem_of_getElem? (i := 458) (by decide +kernel), List.mem_of_getElem? (i := 459) (by decide +kernel)⟩
theorem lw_p24 : lw_okq (⟨"SafeNet$Net", "isClaim", "(I)Z"⟩, 16) := ⟨⟨by decide +kernel, by decide +kernel⟩, List.mem_of_getElem? (i := 71) (by decide +kernel), List.mem_of_getElem? (i := 466) (by decide +kernel), List.mem_of_getElem? (i := 467) (by decide +kernel)⟩
theorem lw_p25 : lw_okq (⟨"SafeNet$Net", "hasNode", "(I)Z"⟩, 16) := ⟨⟨by decide +kernel, by decide +kernel⟩, List.mem_of_getElem? (i := 71) (by decide +kernel), List.mem_of_getElem? (i := 470) (by decide +kernel), List.mem_of_getElem? (i := 471) (by decide +kernel)⟩
theorem lw_p26 : lw_okq (⟨"SafeNet$Net", "addStep", "(II)I"⟩, 16) := ⟨⟨by decide +kernel, by decide +kernel⟩, List.mem_of_getElem? (i := 71) (by decide +kernel), List.mem_of_getElem? (i := 474) (by decide +kernel), List.mem_of_getElem? (i := 475) (by decide +kernel)⟩
theorem lw_p27 : lw_okq (⟨"SafeNet$Text", "readPart", "(LSafeNet$Net;I)I"⟩, 6) := ⟨⟨by decide +kernel, by decide +kernel⟩, List.mem_of_getElem? (i := 43) (by decide +kernel), List.mem_of_getElem? (i := 481) (by decide +kernel), List.mem_of_getElem? (i := 482) (by decide +kernel)⟩
theorem lw_p28 : lw_okq (⟨"SafeNet$Net", "hasPart", "(II)Z"⟩, 16) := ⟨⟨by decide +kernel, by decide +kernel⟩, List.mem_of_getElem? (i := 71) (by decide +kernel), List.mem_of_getElem? (i := 486) (by decide +kernel), List.mem_of_getElem? (i := 487) (by decide +kernel)⟩
theorem lw_p29 : lw_okq (⟨"SafeNet$Net", "addPart", "(II)V"⟩, 16) := ⟨⟨by decide +kernel, by decide +kernel⟩, List.mem_of_getElem? (i := 71) (by decide +kernel), List.mem_of_getElem? (i := 493) (by decide +kernel), List.mem_of_getElem? (i := 494) (by decide +kernel)⟩
theorem lw_p30 : lw_okq (⟨"SafeNet$Net", "cutBack", "(II)V"⟩, 16) := ⟨⟨by decide +kernel, by decide +kernel⟩, List.mem_of_getElem? (i := 71) (by decide +kernel), List.mem_of_getElem? (i := 497) (by decide +kernel), List.mem_of_getElem? (i := 498) (by decide +kernel)⟩
theorem lw_p31 : lw_okq (⟨"SafeNet$Net", "shownNow", "()I"⟩, 16) := ⟨⟨by decide +kernel, by decide +kernel⟩, List.mem_of_getElem? (i := 71) (by decide +kernel), List.mem_of_getElem? (i := 513) (by decide +kernel), List.mem_of_getElem? (i := 514) (by decide +kernel)⟩
def lw_privs_2 : List (MethodName × Nat) := [(⟨"SafeNet$Text", "readSentence", "(LSafeNet$Net;)I"⟩, 6), (⟨"SafeNet$Text", "isWord", "(Ljava/lang/String;)Z"⟩, 6), (⟨"SafeNet$Text", "readGround", "(LSafeNet$Net;I)I"⟩, 6), (⟨"SafeNet$Net", "addNode", "(II)V"⟩, 16), (⟨"SafeNet$Text", "readSign", "()I"⟩, 6), (⟨"SafeNet$Text", "readClaim", "(LSafeNet$Net;)I"⟩, 6), (⟨"SafeNet$Text", "readStep", "(LSafeNet$Net;)I"⟩, 6), (⟨"SafeNet$Text", "formTold", "()I"⟩, 6), (⟨"SafeNet$Net", "isClaim", "(I)Z"⟩, 16), (⟨"SafeNet$Net", "hasNode", "(I)Z"⟩, 16), (⟨"SafeNet$Net", "addStep", "(II)I"⟩, 16), (⟨"SafeNet$Text", "readPart", "(LSafeNet$Net;I)I"⟩, 6), (⟨"SafeNet$Net", "hasPart", "(II)Z"⟩, 16), (⟨"SafeNet$Net", "addPart", "(II)V"⟩, 16), (⟨"SafeNet$Net", "cutBack", "(II)V"⟩, 16), (⟨"SafeNet$Net", "shownNow", "()I"⟩, 16)]
theorem lw_r2 : ∀ q ∈ lw_privs_2, lw_okq q := List.forall_mem_cons.mpr ⟨lw_p16, List.forall_mem_cons.mpr ⟨lw_p17, List.forall_mem_cons.mpr ⟨lw_p18, List.forall_mem_cons.mpr ⟨lw_p19, List.forall_mem_cons.mpr ⟨lw_p20, List.forall_mem_cons.mpr ⟨lw_p21, List.forall_mem_cons.mpr ⟨lw_p22, List.forall_mem_cons.mpr ⟨lw_p23, List.forall_mem_cons.mpr ⟨lw_p24, List.forall_mem_cons.mpr ⟨lw_p25, List.forall_mem_cons.mpr ⟨lw_p26, List.forall_mem_cons.mpr ⟨lw_p27, List.forall_mem_cons.mpr ⟨lw_p28, List.forall_mem_cons.mpr ⟨lw_p29, List.forall_mem_cons.mpr ⟨lw_p30, List.forall_mem_cons.mpr ⟨lw_p31, fun _ h => absurd h List.not_mem_nil⟩⟩⟩⟩⟩⟩⟩⟩⟩⟩⟩⟩⟩⟩⟩⟩
theorem lw_p32 : lw_okq (⟨"SafeNet$Net", "standing", "()I"⟩, 16) := ⟨⟨by decide +kernel, by decide +kernel⟩, List.mem_of_getElem? (i := 71) (by decide +kernel), List.mem_of_getElem? (i := 517) (by decide +kernel), List.mem_of_getElem? (i := 518) (by decide +kernel)⟩
theorem lw_p33 : lw_okq (⟨"SafeNet$Net", "stands", "(I)Z"⟩, 16) := ⟨⟨by decide +kernel, by decide +kernel⟩, List.mem_of_getElem? (i := 71) (by decide +kernel), List.mem_of_getElem? (i := 521) (by decide +kernel), List.mem_of_getElem? (i := 522) (by decide +kernel)⟩
theorem lw_p34 : lw_okq (⟨"SafeNet$Net", "spread", "(II)I"⟩, 16) := ⟨⟨by decide +kernel, by decide +kernel⟩, List.mem_of_getElem? (i := 71) (by decide +kernel), List.mem_of_getElem? (i := 525) (by decide +kernel), List.mem_of_getElem? (i := 526) (by decide +kernel)⟩
theorem lw_p35 : lw_okq (⟨"SafeNet$Net", "nextRound", "(II)I"⟩, 16) := ⟨⟨by decide +kernel, by decide +kernel⟩, List.mem_of_getElem? (i := 71) (by decide +kernel), List.mem_of_getElem? (i := 529) (by decide +kernel), List.mem_of_getElem? (i := 530) (by decide +kernel)⟩
theorem lw_p36 : lw_okq (⟨"SafeNet$Net", "isBorneUp", "(II)Z"⟩, 16) := ⟨⟨by decide +kernel, by decide +kernel⟩, List.mem_of_getElem? (i := 71) (by decide +kernel), List.mem_of_getElem? (i := 533) (by decide +kernel), List.mem_of_getElem? (i := 534) (by decide +kernel)⟩
theorem lw_p37 : lw_okq (⟨"SafeNet$Net", "hasStep", "(I)Z"⟩, 16) := ⟨⟨by decide +kernel, by decide +kernel⟩, List.mem_of_getElem? (i := 71) (by decide +kernel), List.mem_of_getElem? (i := 548) (by decide +kernel), List.mem_of_getElem? (i := 549) (by decide +kernel)⟩
theorem lw_p38 : lw_okq (⟨"SafeNet$Net", "doubtsOf", "(I)I"⟩, 16) := ⟨⟨by decide +kernel, by decide +kernel⟩, List.mem_of_getElem? (i := 71) (by decide +kernel), List.mem_of_getElem? (i := 552) (by decide +kernel), List.mem_of_getElem? (i := 553) (by decide +kernel)⟩
theorem lw_p39 : lw_okq (⟨"SafeNet$Net", "partAt", "(II)I"⟩, 16) := ⟨⟨by decide +kernel, by decide +kernel⟩, List.mem_of_getElem? (i := 71) (by decide +kernel), List.mem_of_getElem? (i := 561) (by decide +kernel), List.mem_of_getElem? (i := 562) (by decide +kernel)⟩
theorem lw_p40 : lw_okq (⟨"SafeNet$Net", "tellDoubt", "(III)I"⟩, 16) := ⟨⟨by decide +kernel, by decide +kernel⟩, List.mem_of_getElem? (i := 71) (by decide +kernel), List.mem_of_getElem? (i := 569) (by decide +kernel), List.mem_of_getElem? (i := 570) (by decide +kernel)⟩
theorem lw_p41 : lw_okq (⟨"SafeNet$Net", "doubtsToldAs", "(I)I"⟩, 16) := ⟨⟨by decide +kernel, by decide +kernel⟩, List.mem_of_getElem? (i := 71) (by decide +kernel), List.mem_of_getElem? (i := 577) (by decide +kernel), List.mem_of_getElem? (i := 578) (by decide +kernel)⟩
theorem lw_p42 : lw_okq (⟨"SafeNet", "isLook", "(II)Z"⟩, 8) := ⟨⟨by decide +kernel, by decide +kernel⟩, List.mem_of_getElem? (i := 18) (by decide +kernel), List.mem_of_getElem? (i := 586) (by decide +kernel), List.mem_of_getElem? (i := 587) (by decide +kernel)⟩
theorem lw_p43 : lw_okq (⟨"SafeNet$Sheets", "itemAt", "(II)I"⟩, 3) := ⟨⟨by decide +kernel, by decide +kernel⟩, List.mem_of_getElem? (i := 26) (by decide +kernel), List.mem_of_getElem? (i := 590) (by decide +kernel), List.mem_of_getElem? (i := 591) (by decide +kernel)⟩
theorem lw_p44 : lw_okq (⟨"SafeNet$Net", "isGround", "(I)Z"⟩, 16) := ⟨⟨by decide +kernel, by decide +kernel⟩, List.mem_of_getElem? (i := 71) (by decide +kernel), List.mem_of_getElem? (i := 594) (by decide +kernel), List.mem_of_getElem? (i := 595) (by decide +kernel)⟩
theorem lw_p45 : lw_okq (⟨"SafeNet", "tellLook", "(II)V"⟩, 8) := ⟨⟨by decide +kernel, by decide +kernel⟩, List.mem_of_getElem? (i := 18) (by decide +kernel), List.mem_of_getElem? (i := 598) (by decide +kernel), List.mem_of_getElem? (i := 599) (by decide +kernel)⟩
theorem lw_p46 : lw_okq (⟨"SafeNet$Net", "claims", "()I"⟩, 16) := ⟨⟨by decide +kernel, by decide +kernel⟩, List.mem_of_getElem? (i := 71) (by decide +kernel), List.mem_of_getElem? (i := 614) (by decide +kernel), List.mem_of_getElem? (i := 615) (by decide +kernel)⟩
theorem lw_p47 : lw_okq (⟨"SafeNet$Net", "roundsNow", "()I"⟩, 16) := ⟨⟨by decide +kernel, by decide +kernel⟩, List.mem_of_getElem? (i := 71) (by decide +kernel), List.mem_of_getElem? (i := 618) (by decide +kernel), List.mem_of_getElem? (i := 619) (by decide +kernel)⟩
def lw_privs_3 : List (MethodName × Nat) := [(⟨"SafeNet$Net", "standing", "()I"⟩, 16), (⟨"SafeNet$Net", "stands", "(I)Z"⟩, 16), (⟨"SafeNet$Net", "spread", "(II)I"⟩, 16), (⟨"SafeNet$Net", "nextRound", "(II)I"⟩, 16), (⟨"SafeNet$Net", "isBorneUp", "(II)Z"⟩, 16), (⟨"SafeNet$Net", "hasStep", "(I)Z"⟩, 16), (⟨"SafeNet$Net", "doubtsOf", "(I)I"⟩, 16), (⟨"SafeNet$Net", "partAt", "(II)I"⟩, 16), (⟨"SafeNet$Net", "tellDoubt", "(III)I"⟩, 16), (⟨"SafeNet$Net", "doubtsToldAs", "(I)I"⟩, 16), (⟨"SafeNet", "isLook", "(II)Z"⟩, 8), (⟨"SafeNet$Sheets", "itemAt", "(II)I"⟩, 3), (⟨"SafeNet$Net", "isGround", "(I)Z"⟩, 16), (⟨"SafeNet", "tellLook", "(II)V"⟩, 8), (⟨"SafeNet$Net", "claims", "()I"⟩, 16), (⟨"SafeNet$Net", "roundsNow", "()I"⟩, 16)]
theorem lw_r3 : ∀ q ∈ lw_privs_3, lw_okq q := List.forall_mem_cons.mpr ⟨lw_p32, List.forall_mem_cons.mpr ⟨lw_p33, List.forall_mem_cons.mpr ⟨lw_p34, List.forall_mem_cons.mpr ⟨lw_p35, List.forall_mem_cons.mpr ⟨lw_p36, List.forall_mem_cons.mpr ⟨lw_p37, List.forall_mem_cons.mpr ⟨lw_p38, List.forall_mem_cons.mpr ⟨lw_p39, List.forall_mem_cons.mpr ⟨lw_p40, List.forall_mem_cons.mpr ⟨lw_p41, List.forall_mem_cons.mpr ⟨lw_p42, List.forall_mem_cons.mpr ⟨lw_p43, List.forall_mem_cons.mpr ⟨lw_p44, List.forall_mem_cons.mpr ⟨lw_p45, List.forall_mem_cons.mpr ⟨lw_p46, List.forall_mem_cons.mpr ⟨lw_p47, fun _ h => absurd h List.not_mem_nil⟩⟩⟩⟩⟩⟩⟩⟩⟩⟩⟩⟩⟩⟩⟩⟩
theorem lw_p48 : lw_okq (⟨"SafeNet$Net", "circles", "()I"⟩, 16) := ⟨⟨by decide +kernel, by decide +kernel⟩, List.mem_of_getElem? (i := 71) (by decide +kernel), List.mem_of_getElem? (i := 622) (by decide +kernel), List.mem_of_getElem? (i := 623) (by decide +kernel)⟩
theorem lw_p49 : lw_okq (⟨"SafeNet$FellingSets", "seek", "(LSafeNet$Net;II)I"⟩, 6) := ⟨⟨by decide +kernel, by decide +kernel⟩, List.mem_of_getElem? (i := 143) (by decide +kernel), List.mem_of_getElem? (i := 637) (by decide +kernel), List.mem_of_getElem? (i := 638) (by decide +kernel)⟩
theorem lw_p50 : lw_okq (⟨"SafeNet$FellingSets", "seekOnes", "(LSafeNet$Net;)I"⟩, 6) := ⟨⟨by decide +kernel, by decide +kernel⟩, List.mem_of_getElem? (i := 143) (by decide +kernel), List.mem_of_getElem? (i := 643) (by decide +kernel), List.mem_of_getElem? (i := 644) (by decide +kernel)⟩
theorem lw_p51 : lw_okq (⟨"SafeNet$FellingSets", "countIfItFells", "(LSafeNet$Net;I)Z"⟩, 6) := ⟨⟨by decide +kernel, by decide +kernel⟩, List.mem_of_getElem? (i := 143) (by decide +kernel), List.mem_of_getElem? (i := 648) (by decide +kernel), List.mem_of_getElem? (i := 649) (by decide +kernel)⟩
theorem lw_p52 : lw_okq (⟨"SafeNet$FellingSets", "seekTwos", "(LSafeNet$Net;I)V"⟩, 6) := ⟨⟨by decide +kernel, by decide +kernel⟩, List.mem_of_getElem? (i := 143) (by decide +kernel), List.mem_of_getElem? (i := 653) (by decide +kernel), List.mem_of_getElem? (i := 654) (by decide +kernel)⟩
theorem lw_p53 : lw_okq (⟨"SafeNet$FellingSets", "seekThrees", "(LSafeNet$Net;I)V"⟩, 6) := ⟨⟨by decide +kernel, by decide +kernel⟩, List.mem_of_getElem? (i := 143) (by decide +kernel), List.mem_of_getElem? (i := 657) (by decide +kernel), List.mem_of_getElem? (i := 658) (by decide +kernel)⟩
theorem lw_p54 : lw_okq (⟨"SafeNet$Net", "groundsOf", "(I)I"⟩, 16) := ⟨⟨by decide +kernel, by decide +kernel⟩, List.mem_of_getElem? (i := 71) (by decide +kernel), List.mem_of_getElem? (i := 665) (by decide +kernel), List.mem_of_getElem? (i := 666) (by decide +kernel)⟩
theorem lw_p55 : lw_okq (⟨"SafeNet$Weights", "has", "(I)Z"⟩, 9) := ⟨⟨by decide +kernel, by decide +kernel⟩, List.mem_of_getElem? (i := 168) (by decide +kernel), List.mem_of_getElem? (i := 677) (by decide +kernel), List.mem_of_getElem? (i := 678) (by decide +kernel)⟩
theorem lw_p56 : lw_okq (⟨"SafeNet$Weights", "isFull", "()Z"⟩, 9) := ⟨⟨by decide +kernel, by decide +kernel⟩, List.mem_of_getElem? (i := 168) (by decide +kernel), List.mem_of_getElem? (i := 681) (by decide +kernel), List.mem_of_getElem? (i := 682) (by decide +kernel)⟩
theorem lw_p57 : lw_okq (⟨"SafeNet$Weights", "add", "(III)I"⟩, 9) := ⟨⟨by decide +kernel, by decide +kernel⟩, List.mem_of_getElem? (i := 168) (by decide +kernel), List.mem_of_getElem? (i := 685) (by decide +kernel), List.mem_of_getElem? (i := 686) (by decide +kernel)⟩
theorem lw_p58 : lw_okq (⟨"SafeNet$Weights", "isPlace", "(I)Z"⟩, 9) := ⟨⟨by decide +kernel, by decide +kernel⟩, List.mem_of_getElem? (i := 168) (by decide +kernel), List.mem_of_getElem? (i := 693) (by decide +kernel), List.mem_of_getElem? (i := 694) (by decide +kernel)⟩
theorem lw_p59 : lw_okq (⟨"SafeNet$Weights", "tellPair", "(IIII)V"⟩, 9) := ⟨⟨by decide +kernel, by decide +kernel⟩, List.mem_of_getElem? (i := 168) (by decide +kernel), List.mem_of_getElem? (i := 697) (by decide +kernel), List.mem_of_getElem? (i := 698) (by decide +kernel)⟩
theorem lw_p60 : lw_okq (⟨"SafeNet$Weights", "clear", "()I"⟩, 9) := ⟨⟨by decide +kernel, by decide +kernel⟩, List.mem_of_getElem? (i := 168) (by decide +kernel), List.mem_of_getElem? (i := 705) (by decide +kernel), List.mem_of_getElem? (i := 706) (by decide +kernel)⟩
theorem lw_p61 : lw_okq (⟨"SafeNet$Weights", "findLeast", "(I)Z"⟩, 9) := ⟨⟨by decide +kernel, by decide +kernel⟩, List.mem_of_getElem? (i := 168) (by decide +kernel), List.mem_of_getElem? (i := 713) (by decide +kernel), List.mem_of_getElem? (i := 714) (by decide +kernel)⟩
theorem lw_p62 : lw_okq (⟨"SafeNet$Table", "begin", "(II)V"⟩, 6) := ⟨⟨by decide +kernel, by decide +kernel⟩, List.mem_of_getElem? (i := 174) (by decide +kernel), List.mem_of_getElem? (i := 717) (by decide +kernel), List.mem_of_getElem? (i := 718) (by decide +kernel)⟩
theorem lw_p63 : lw_okq (⟨"SafeNet$Table", "addRow", "(III)V"⟩, 6) := ⟨⟨by decide +kernel, by decide +kernel⟩, List.mem_of_getElem? (i := 174) (by decide +kernel), List.mem_of_getElem? (i := 722) (by decide +kernel), List.mem_of_getElem? (i := 723) (by decide +kernel)⟩
def lw_privs_4 : List (MethodName × Nat) := [(⟨"SafeNet$Net", "circles", "()I"⟩, 16), (⟨"SafeNet$FellingSets", "seek", "(LSafeNet$Net;II)I"⟩, 6), (⟨"SafeNet$FellingSets", "seekOnes", "(LSafeNet$Net;)I"⟩, 6), (⟨"SafeNet$FellingSets", "countIfItFells", "(LSafeNet$Net;I)Z"⟩, 6), (⟨"SafeNet$FellingSets", "seekTwos", "(LSafeNet$Net;I)V"⟩, 6), (⟨"SafeNet$FellingSets", "seekThrees", "(LSafeNet$Net;I)V"⟩, 6), (⟨"SafeNet$Net", "groundsOf", "(I)I"⟩, 16), (⟨"SafeNet$Weights", "has", "(I)Z"⟩, 9), (⟨"SafeNet$Weights", "isFull", "()Z"⟩, 9), (⟨"SafeNet$Weights", "add", "(III)I"⟩, 9), (⟨"SafeNet$Weights", "isPlace", "(I)Z"⟩, 9), (⟨"SafeNet$Weights", "tellPair", "(IIII)V"⟩, 9), (⟨"SafeNet$Weights", "clear", "()I"⟩, 9), (⟨"SafeNet$Weights", "findLeast", "(I)Z"⟩, 9), (⟨"SafeNet$Table", "begin", "(II)V"⟩, 6), (⟨"SafeNet$Table", "addRow", "(III)V"⟩, 6)]
theorem lw_r4 : ∀ q ∈ lw_privs_4, lw_okq q := List.forall_mem_cons.mpr ⟨lw_p48, List.forall_mem_cons.mpr ⟨lw_p49, List.forall_mem_cons.mpr ⟨lw_p50, List.forall_mem_cons.mpr ⟨lw_p51, List.forall_mem_cons.mpr ⟨lw_p52, List.forall_mem_cons.mpr ⟨lw_p53, List.forall_mem_cons.mpr ⟨lw_p54, List.forall_mem_cons.mpr ⟨lw_p55, List.forall_mem_cons.mpr ⟨lw_p56, List.forall_mem_cons.mpr ⟨lw_p57, List.forall_mem_cons.mpr ⟨lw_p58, List.forall_mem_cons.mpr ⟨lw_p59, List.forall_mem_cons.mpr ⟨lw_p60, List.forall_mem_cons.mpr ⟨lw_p61, List.forall_mem_cons.mpr ⟨lw_p62, List.forall_mem_cons.mpr ⟨lw_p63, fun _ h => absurd h List.not_mem_nil⟩⟩⟩⟩⟩⟩⟩⟩⟩⟩⟩⟩⟩⟩⟩⟩
theorem lw_p64 : lw_okq (⟨"SafeNet$Weights", "allWorlds", "()I"⟩, 9) := ⟨⟨by decide +kernel, by decide +kernel⟩, List.mem_of_getElem? (i := 168) (by decide +kernel), List.mem_of_getElem? (i := 727) (by decide +kernel), List.mem_of_getElem? (i := 728) (by decide +kernel)⟩
theorem lw_p65 : lw_okq (⟨"SafeNet$Weights", "addSpan", "(III)V"⟩, 9) := ⟨⟨by decide +kernel, by decide +kernel⟩, List.mem_of_getElem? (i := 168) (by decide +kernel), List.mem_of_getElem? (i := 734) (by decide +kernel), List.mem_of_getElem? (i := 735) (by decide +kernel)⟩
theorem lw_p66 : lw_okq (⟨"SafeNet$Table", "settle", "()Z"⟩, 6) := ⟨⟨by decide +kernel, by decide +kernel⟩, List.mem_of_getElem? (i := 174) (by decide +kernel), List.mem_of_getElem? (i := 738) (by decide +kernel), List.mem_of_getElem? (i := 739) (by decide +kernel)⟩
theorem lw_p67 : lw_okq (⟨"SafeNet$Table", "brokenRow", "()I"⟩, 6) := ⟨⟨by decide +kernel, by decide +kernel⟩, List.mem_of_getElem? (i := 174) (by decide +kernel), List.mem_of_getElem? (i := 743) (by decide +kernel), List.mem_of_getElem? (i := 744) (by decide +kernel)⟩
theorem lw_p68 : lw_okq (⟨"SafeNet$Table", "mendingColumn", "(I)I"⟩, 6) := ⟨⟨by decide +kernel, by decide +kernel⟩, List.mem_of_getElem? (i := 174) (by decide +kernel), List.mem_of_getElem? (i := 747) (by decide +kernel), List.mem_of_getElem? (i := 748) (by decide +kernel)⟩
theorem lw_p69 : lw_okq (⟨"SafeNet$Table", "isCheaper", "(III)Z"⟩, 6) := ⟨⟨by decide +kernel, by decide +kernel⟩, List.mem_of_getElem? (i := 174) (by decide +kernel), List.mem_of_getElem? (i := 751) (by decide +kernel), List.mem_of_getElem? (i := 752) (by decide +kernel)⟩
theorem lw_p70 : lw_okq (⟨"SafeNet$Table", "exchange", "(II)V"⟩, 6) := ⟨⟨by decide +kernel, by decide +kernel⟩, List.mem_of_getElem? (i := 174) (by decide +kernel), List.mem_of_getElem? (i := 755) (by decide +kernel), List.mem_of_getElem? (i := 756) (by decide +kernel)⟩
theorem lw_p71 : lw_okq (⟨"SafeNet$Table", "clearOf", "(III)V"⟩, 6) := ⟨⟨by decide +kernel, by decide +kernel⟩, List.mem_of_getElem? (i := 174) (by decide +kernel), List.mem_of_getElem? (i := 759) (by decide +kernel), List.mem_of_getElem? (i := 760) (by decide +kernel)⟩
theorem lw_p72 : lw_okq (⟨"SafeNet$Table", "least", "()J"⟩, 6) := ⟨⟨by decide +kernel, by decide +kernel⟩, List.mem_of_getElem? (i := 174) (by decide +kernel), List.mem_of_getElem? (i := 766) (by decide +kernel), List.mem_of_getElem? (i := 767) (by decide +kernel)⟩
theorem lw_p73 : lw_okq (⟨"SafeNet$Weights", "reduce", "(JJ)V"⟩, 9) := ⟨⟨by decide +kernel, by decide +kernel⟩, List.mem_of_getElem? (i := 168) (by decide +kernel), List.mem_of_getElem? (i := 771) (by decide +kernel), List.mem_of_getElem? (i := 772) (by decide +kernel)⟩
theorem lw_p74 : lw_okq (⟨"SafeNet$Weights", "worldsShowing", "(LSafeNet$Net;I)I"⟩, 9) := ⟨⟨by decide +kernel, by decide +kernel⟩, List.mem_of_getElem? (i := 168) (by decide +kernel), List.mem_of_getElem? (i := 780) (by decide +kernel), List.mem_of_getElem? (i := 781) (by decide +kernel)⟩
theorem lw_p75 : lw_okq (⟨"SafeNet$Weights", "findMost", "(I)Z"⟩, 9) := ⟨⟨by decide +kernel, by decide +kernel⟩, List.mem_of_getElem? (i := 168) (by decide +kernel), List.mem_of_getElem? (i := 787) (by decide +kernel), List.mem_of_getElem? (i := 788) (by decide +kernel)⟩
theorem lw_p76 : lw_okq (⟨"SafeNet$Weights", "bestRaise", "(I)I"⟩, 9) := ⟨⟨by decide +kernel, by decide +kernel⟩, List.mem_of_getElem? (i := 168) (by decide +kernel), List.mem_of_getElem? (i := 796) (by decide +kernel), List.mem_of_getElem? (i := 797) (by decide +kernel)⟩
theorem lw_p77 : lw_okq (⟨"SafeNet$Weights", "findLeastRaised", "(II)Z"⟩, 9) := ⟨⟨by decide +kernel, by decide +kernel⟩, List.mem_of_getElem? (i := 168) (by decide +kernel), List.mem_of_getElem? (i := 800) (by decide +kernel), List.mem_of_getElem? (i := 801) (by decide +kernel)⟩
theorem lw_p78 : lw_okq (⟨"SafeNet$Net", "kindOf", "(I)I"⟩, 16) := ⟨⟨by decide +kernel, by decide +kernel⟩, List.mem_of_getElem? (i := 71) (by decide +kernel), List.mem_of_getElem? (i := 808) (by decide +kernel), List.mem_of_getElem? (i := 809) (by decide +kernel)⟩
theorem lw_p79 : lw_okq (⟨"SafeNet$Net", "timesPart", "(I)I"⟩, 16) := ⟨⟨by decide +kernel, by decide +kernel⟩, List.mem_of_getElem? (i := 71) (by decide +kernel), List.mem_of_getElem? (i := 812) (by decide +kernel), List.mem_of_getElem? (i := 813) (by decide +kernel)⟩
def lw_privs_5 : List (MethodName × Nat) := [(⟨"SafeNet$Weights", "allWorlds", "()I"⟩, 9), (⟨"SafeNet$Weights", "addSpan", "(III)V"⟩, 9), (⟨"SafeNet$Table", "settle", "()Z"⟩, 6), (⟨"SafeNet$Table", "brokenRow", "()I"⟩, 6), (⟨"SafeNet$Table", "mendingColumn", "(I)I"⟩, 6), (⟨"SafeNet$Table", "isCheaper", "(III)Z"⟩, 6), (⟨"SafeNet$Table", "exchange", "(II)V"⟩, 6), (⟨"SafeNet$Table", "clearOf", "(III)V"⟩, 6), (⟨"SafeNet$Table", "least", "()J"⟩, 6), (⟨"SafeNet$Weights", "reduce", "(JJ)V"⟩, 9), (⟨"SafeNet$Weights", "worldsShowing", "(LSafeNet$Net;I)I"⟩, 9), (⟨"SafeNet$Weights", "findMost", "(I)Z"⟩, 9), (⟨"SafeNet$Weights", "bestRaise", "(I)I"⟩, 9), (⟨"SafeNet$Weights", "findLeastRaised", "(II)Z"⟩, 9), (⟨"SafeNet$Net", "kindOf", "(I)I"⟩, 16), (⟨"SafeNet$Net", "timesPart", "(I)I"⟩, 16)]
theorem lw_r5 : ∀ q ∈ lw_privs_5, lw_okq q := List.forall_mem_cons.mpr ⟨lw_p64, List.forall_mem_cons.mpr ⟨lw_p65, List.forall_mem_cons.mpr ⟨lw_p66, List.forall_mem_cons.mpr ⟨lw_p67, List.forall_mem_cons.mpr ⟨lw_p68, List.forall_mem_cons.mpr ⟨lw_p69, List.forall_mem_cons.mpr ⟨lw_p70, List.forall_mem_cons.mpr ⟨lw_p71, List.forall_mem_cons.mpr ⟨lw_p72, List.forall_mem_cons.mpr ⟨lw_p73, List.forall_mem_cons.mpr ⟨lw_p74, List.forall_mem_cons.mpr ⟨lw_p75, List.forall_mem_cons.mpr ⟨lw_p76, List.forall_mem_cons.mpr ⟨lw_p77, List.forall_mem_cons.mpr ⟨lw_p78, List.forall_mem_cons.mpr ⟨lw_p79, fun _ h => absurd h List.not_mem_nil⟩⟩⟩⟩⟩⟩⟩⟩⟩⟩⟩⟩⟩⟩⟩⟩
theorem lw_p80 : lw_okq (⟨"SafeNet$Net", "isTakenAs", "(II)Z"⟩, 16) := ⟨⟨by decide +kernel, by decide +kernel⟩, List.mem_of_getElem? (i := 71) (by decide +kernel), List.mem_of_getElem? (i := 820) (by decide +kernel), List.mem_of_getElem? (i := 821) (by decide +kernel)⟩
theorem lw_p81 : lw_okq (⟨"SafeNet$Asks", "start", "(I)V"⟩, 3) := ⟨⟨by decide +kernel, by decide +kernel⟩, List.mem_of_getElem? (i := 235) (by decide +kernel), List.mem_of_getElem? (i := 831) (by decide +kernel), List.mem_of_getElem? (i := 832) (by decide +kernel)⟩
theorem lw_p82 : lw_okq (⟨"SafeNet$Asks", "size", "(LSafeNet$Net;I)I"⟩, 3) := ⟨⟨by decide +kernel, by decide +kernel⟩, List.mem_of_getElem? (i := 235) (by decide +kernel), List.mem_of_getElem? (i := 835) (by decide +kernel), List.mem_of_getElem? (i := 836) (by decide +kernel)⟩
theorem lw_p83 : lw_okq (⟨"SafeNet$Asks", "size11", "(LSafeNet$Net;I)I"⟩, 3) := ⟨⟨by decide +kernel, by decide +kernel⟩, List.mem_of_getElem? (i := 235) (by decide +kernel), List.mem_of_getElem? (i := 840) (by decide +kernel), List.mem_of_getElem? (i := 841) (by decide +kernel)⟩
theorem lw_p84 : lw_okq (⟨"SafeNet$Asks", "begin", "(I)V"⟩, 3) := ⟨⟨by decide +kernel, by decide +kernel⟩, List.mem_of_getElem? (i := 235) (by decide +kernel), List.mem_of_getElem? (i := 844) (by decide +kernel), List.mem_of_getElem? (i := 845) (by decide +kernel)⟩
theorem lw_p85 : lw_okq (⟨"SafeNet$Asks", "size10", "(LSafeNet$Net;I)I"⟩, 3) := ⟨⟨by decide +kernel, by decide +kernel⟩, List.mem_of_getElem? (i := 235) (by decide +kernel), List.mem_of_getElem? (i := 848) (by decide +kernel), List.mem_of_getElem? (i := 849) (by decide +kernel)⟩
theorem lw_p86 : lw_okq (⟨"SafeNet$Asks", "size12", "(LSafeNet$Net;I)I"⟩, 3) := ⟨⟨by decide +kernel, by decide +kernel⟩, List.mem_of_getElem? (i := 235) (by decide +kernel), List.mem_of_getElem? (i := 853) (by decide +kernel), List.mem_of_getElem? (i := 854) (by decide +kernel)⟩
theorem lw_p87 : lw_okq (⟨"SafeNet$Asks", "size13", "(LSafeNet$Net;I)I"⟩, 3) := ⟨⟨by decide +kernel, by decide +kernel⟩, List.mem_of_getElem? (i := 235) (by decide +kernel), List.mem_of_getElem? (i := 857) (by decide +kernel), List.mem_of_getElem? (i := 858) (by decide +kernel)⟩
theorem lw_p88 : lw_okq (⟨"SafeNet$Asks", "mark", "(LSafeNet$Net;I)I"⟩, 3) := ⟨⟨by decide +kernel, by decide +kernel⟩, List.mem_of_getElem? (i := 235) (by decide +kernel), List.mem_of_getElem? (i := 861) (by decide +kernel), List.mem_of_getElem? (i := 862) (by decide +kernel)⟩
theorem lw_p89 : lw_okq (⟨"SafeNet$Asks", "mark21", "(I)I"⟩, 3) := ⟨⟨by decide +kernel, by decide +kernel⟩, List.mem_of_getElem? (i := 235) (by decide +kernel), List.mem_of_getElem? (i := 865) (by decide +kernel), List.mem_of_getElem? (i := 866) (by decide +kernel)⟩
theorem lw_p90 : lw_okq (⟨"SafeNet$Asks", "mark20", "(I)I"⟩, 3) := ⟨⟨by decide +kernel, by decide +kernel⟩, List.mem_of_getElem? (i := 235) (by decide +kernel), List.mem_of_getElem? (i := 869) (by decide +kernel), List.mem_of_getElem? (i := 870) (by decide +kernel)⟩
theorem lw_p91 : lw_okq (⟨"SafeNet$Asks", "mark22", "(LSafeNet$Net;I)I"⟩, 3) := ⟨⟨by decide +kernel, by decide +kernel⟩, List.mem_of_getElem? (i := 235) (by decide +kernel), List.mem_of_getElem? (i := 874) (by decide +kernel), List.mem_of_getElem? (i := 875) (by decide +kernel)⟩
theorem lw_p92 : lw_okq (⟨"SafeNet$Asks", "size14", "(LSafeNet$Net;I)I"⟩, 3) := ⟨⟨by decide +kernel, by decide +kernel⟩, List.mem_of_getElem? (i := 235) (by decide +kernel), List.mem_of_getElem? (i := 878) (by decide +kernel), List.mem_of_getElem? (i := 879) (by decide +kernel)⟩
theorem lw_p93 : lw_okq (⟨"SafeNet$Net", "timesHeld", "(I)I"⟩, 16) := ⟨⟨by decide +kernel, by decide +kernel⟩, List.mem_of_getElem? (i := 71) (by decide +kernel), List.mem_of_getElem? (i := 882) (by decide +kernel), List.mem_of_getElem? (i := 883) (by decide +kernel)⟩
theorem lw_p94 : lw_okq (⟨"SafeNet$Asks", "size15", "(LSafeNet$Net;I)I"⟩, 3) := ⟨⟨by decide +kernel, by decide +kernel⟩, List.mem_of_getElem? (i := 235) (by decide +kernel), List.mem_of_getElem? (i := 886) (by decide +kernel), List.mem_of_getElem? (i := 887) (by decide +kernel)⟩
theorem lw_p95 : lw_okq (⟨"SafeNet$Sheets", "laid", "()I"⟩, 3) := ⟨⟨by decide +kernel, by decide +kernel⟩, List.mem_of_getElem? (i := 26) (by decide +kernel), List.mem_of_getElem? (i := 899) (by decide +kernel), List.mem_of_getElem? (i := 900) (by decide +kernel)⟩
def lw_privs_6 : List (MethodName × Nat) := [(⟨"SafeNet$Net", "isTakenAs", "(II)Z"⟩, 16), (⟨"SafeNet$Asks", "start", "(I)V"⟩, 3), (⟨"SafeNet$Asks", "size", "(LSafeNet$Net;I)I"⟩, 3), (⟨"SafeNet$Asks", "size11", "(LSafeNet$Net;I)I"⟩, 3), (⟨"SafeNet$Asks", "begin", "(I)V"⟩, 3), (⟨"SafeNet$Asks", "size10", "(LSafeNet$Net;I)I"⟩, 3), (⟨"SafeNet$Asks", "size12", "(LSafeNet$Net;I)I"⟩, 3), (⟨"SafeNet$Asks", "size13", "(LSafeNet$Net;I)I"⟩, 3), (⟨"SafeNet$Asks", "mark", "(LSafeNet$Net;I)I"⟩, 3), (⟨"SafeNet$Asks", "mark21", "(I)I"⟩, 3), (⟨"SafeNet$Asks", "mark20", "(I)I"⟩, 3), (⟨"SafeNet$Asks", "mark22", "(LSafeNet$Net;I)I"⟩, 3), (⟨"SafeNet$Asks", "size14", "(LSafeNet$Net;I)I"⟩, 3), (⟨"SafeNet$Net", "timesHeld", "(I)I"⟩, 16), (⟨"SafeNet$Asks", "size15", "(LSafeNet$Net;I)I"⟩, 3), (⟨"SafeNet$Sheets", "laid", "()I"⟩, 3)]
theorem lw_r6 : ∀ q ∈ lw_privs_6, lw_okq q := List.forall_mem_cons.mpr ⟨lw_p80, List.forall_mem_cons.mpr ⟨lw_p81, List.forall_mem_cons.mpr ⟨lw_p82, List.forall_mem_cons.mpr ⟨lw_p83, List.forall_mem_cons.mpr ⟨lw_p84, List.forall_mem_cons.mpr ⟨lw_p85, List.forall_mem_cons.mpr ⟨lw_p86, List.forall_mem_cons.mpr ⟨lw_p87, List.forall_mem_cons.mpr ⟨lw_p88, List.forall_mem_cons.mpr ⟨lw_p89, List.forall_mem_cons.mpr ⟨lw_p90, List.forall_mem_cons.mpr ⟨lw_p91, List.forall_mem_cons.mpr ⟨lw_p92, List.forall_mem_cons.mpr ⟨lw_p93, List.forall_mem_cons.mpr ⟨lw_p94, List.forall_mem_cons.mpr ⟨lw_p95, fun _ h => absurd h List.not_mem_nil⟩⟩⟩⟩⟩⟩⟩⟩⟩⟩⟩⟩⟩⟩⟩⟩
theorem lw_p96 : lw_okq (⟨"SafeNet$Net", "grounds", "()I"⟩, 16) := ⟨⟨by decide +kernel, by decide +kernel⟩, List.mem_of_getElem? (i := 71) (by decide +kernel), List.mem_of_getElem? (i := 903) (by decide +kernel), List.mem_of_getElem? (i := 904) (by decide +kernel)⟩
theorem lw_p97 : lw_okq (⟨"SafeNetModel", "finding", "(I)I"⟩, 46) := ⟨⟨by decide +kernel, by decide +kernel⟩, List.mem_of_getElem? (i := 912) (by decide +kernel), List.mem_of_getElem? (i := 1071) (by decide +kernel), List.mem_of_getElem? (i := 1072) (by decide +kernel)⟩
theorem lw_p98 : lw_okq (⟨"SafeNetModel", "next", "()V"⟩, 46) := ⟨⟨by decide +kernel, by decide +kernel⟩, List.mem_of_getElem? (i := 912) (by decide +kernel), List.mem_of_getElem? (i := 1099) (by decide +kernel), List.mem_of_getElem? (i := 1100) (by decide +kernel)⟩
theorem lw_p99 : lw_okq (⟨"SafeNetModel", "byteAt", "(I)I"⟩, 46) := ⟨⟨by decide +kernel, by decide +kernel⟩, List.mem_of_getElem? (i := 912) (by decide +kernel), List.mem_of_getElem? (i := 1103) (by decide +kernel), List.mem_of_getElem? (i := 1104) (by decide +kernel)⟩
theorem lw_p100 : lw_okq (⟨"SafeNetModel", "word", "()J"⟩, 46) := ⟨⟨by decide +kernel, by decide +kernel⟩, List.mem_of_getElem? (i := 912) (by decide +kernel), List.mem_of_getElem? (i := 1114) (by decide +kernel), List.mem_of_getElem? (i := 1115) (by decide +kernel)⟩
theorem lw_p101 : lw_okq (⟨"SafeNetModel", "bad", "(I)V"⟩, 46) := ⟨⟨by decide +kernel, by decide +kernel⟩, List.mem_of_getElem? (i := 912) (by decide +kernel), List.mem_of_getElem? (i := 1122) (by decide +kernel), List.mem_of_getElem? (i := 1123) (by decide +kernel)⟩
theorem lw_p102 : lw_okq (⟨"SafeNetModel", "must", "(Z)V"⟩, 46) := ⟨⟨by decide +kernel, by decide +kernel⟩, List.mem_of_getElem? (i := 912) (by decide +kernel), List.mem_of_getElem? (i := 1126) (by decide +kernel), List.mem_of_getElem? (i := 1127) (by decide +kernel)⟩
theorem lw_p103 : lw_okq (⟨"SafeNetModel", "readNode", "(J)V"⟩, 46) := ⟨⟨by decide +kernel, by decide +kernel⟩, List.mem_of_getElem? (i := 912) (by decide +kernel), List.mem_of_getElem? (i := 1130) (by decide +kernel), List.mem_of_getElem? (i := 1131) (by decide +kernel)⟩
theorem lw_p104 : lw_okq (⟨"SafeNetModel", "numberHere", "()I"⟩, 46) := ⟨⟨by decide +kernel, by decide +kernel⟩, List.mem_of_getElem? (i := 912) (by decide +kernel), List.mem_of_getElem? (i := 1134) (by decide +kernel), List.mem_of_getElem? (i := 1135) (by decide +kernel)⟩
theorem lw_p105 : lw_okq (⟨"SafeNetModel", "readStep", "()V"⟩, 46) := ⟨⟨by decide +kernel, by decide +kernel⟩, List.mem_of_getElem? (i := 912) (by decide +kernel), List.mem_of_getElem? (i := 1138) (by decide +kernel), List.mem_of_getElem? (i := 1139) (by decide +kernel)⟩
theorem lw_p106 : lw_okq (⟨"SafeNetModel", "isPart", "(II)Z"⟩, 46) := ⟨⟨by decide +kernel, by decide +kernel⟩, List.mem_of_getElem? (i := 912) (by decide +kernel), List.mem_of_getElem? (i := 1146) (by decide +kernel), List.mem_of_getElem? (i := 1147) (by decide +kernel)⟩
theorem lw_p107 : lw_okq (⟨"SafeNetModel", "shownNow", "()I"⟩, 46) := ⟨⟨by decide +kernel, by decide +kernel⟩, List.mem_of_getElem? (i := 912) (by decide +kernel), List.mem_of_getElem? (i := 1159) (by decide +kernel), List.mem_of_getElem? (i := 1160) (by decide +kernel)⟩
theorem lw_p108 : lw_okq (⟨"SafeNetModel", "standing", "()I"⟩, 46) := ⟨⟨by decide +kernel, by decide +kernel⟩, List.mem_of_getElem? (i := 912) (by decide +kernel), List.mem_of_getElem? (i := 1163) (by decide +kernel), List.mem_of_getElem? (i := 1164) (by decide +kernel)⟩
theorem lw_p109 : lw_okq (⟨"SafeNetModel", "stands", "(I)Z"⟩, 46) := ⟨⟨by decide +kernel, by decide +kernel⟩, List.mem_of_getElem? (i := 912) (by decide +kernel), List.mem_of_getElem? (i := 1167) (by decide +kernel), List.mem_of_getElem? (i := 1168) (by decide +kernel)⟩
theorem lw_p110 : lw_okq (⟨"SafeNetModel", "shownBy", "(II)I"⟩, 46) := ⟨⟨by decide +kernel, by decide +kernel⟩, List.mem_of_getElem? (i := 912) (by decide +kernel), List.mem_of_getElem? (i := 1171) (by decide +kernel), List.mem_of_getElem? (i := 1172) (by decide +kernel)⟩
theorem lw_p111 : lw_okq (⟨"SafeNetModel", "openOf", "(I)I"⟩, 46) := ⟨⟨by decide +kernel, by decide +kernel⟩, List.mem_of_getElem? (i := 912) (by decide +kernel), List.mem_of_getElem? (i := 1175) (by decide +kernel), List.mem_of_getElem? (i := 1176) (by decide +kernel)⟩
def lw_privs_7 : List (MethodName × Nat) := [(⟨"SafeNet$Net", "grounds", "()I"⟩, 16), (⟨"SafeNetModel", "finding", "(I)I"⟩, 46), (⟨"SafeNetModel", "next", "()V"⟩, 46), (⟨"SafeNetModel", "byteAt", "(I)I"⟩, 46), (⟨"SafeNetModel", "word", "()J"⟩, 46), (⟨"SafeNetModel", "bad", "(I)V"⟩, 46), (⟨"SafeNetModel", "must", "(Z)V"⟩, 46), (⟨"SafeNetModel", "readNode", "(J)V"⟩, 46), (⟨"SafeNetModel", "numberHere", "()I"⟩, 46), (⟨"SafeNetModel", "readStep", "()V"⟩, 46), (⟨"SafeNetModel", "isPart", "(II)Z"⟩, 46), (⟨"SafeNetModel", "shownNow", "()I"⟩, 46), (⟨"SafeNetModel", "standing", "()I"⟩, 46), (⟨"SafeNetModel", "stands", "(I)Z"⟩, 46), (⟨"SafeNetModel", "shownBy", "(II)I"⟩, 46), (⟨"SafeNetModel", "openOf", "(I)I"⟩, 46)]
theorem lw_r7 : ∀ q ∈ lw_privs_7, lw_okq q := List.forall_mem_cons.mpr ⟨lw_p96, List.forall_mem_cons.mpr ⟨lw_p97, List.forall_mem_cons.mpr ⟨lw_p98, List.forall_mem_cons.mpr ⟨lw_p99, List.forall_mem_cons.mpr ⟨lw_p100, List.forall_mem_cons.mpr ⟨lw_p101, List.forall_mem_cons.mpr ⟨lw_p102, List.forall_mem_cons.mpr ⟨lw_p103, List.forall_mem_cons.mpr ⟨lw_p104, List.forall_mem_cons.mpr ⟨lw_p105, List.forall_mem_cons.mpr ⟨lw_p106, List.forall_mem_cons.mpr ⟨lw_p107, List.forall_mem_cons.mpr ⟨lw_p108, List.forall_mem_cons.mpr ⟨lw_p109, List.forall_mem_cons.mpr ⟨lw_p110, List.forall_mem_cons.mpr ⟨lw_p111, fun _ h => absurd h List.not_mem_nil⟩⟩⟩⟩⟩⟩⟩⟩⟩⟩⟩⟩⟩⟩⟩⟩
theorem lw_p112 : lw_okq (⟨"SafeNetModel", "isBorneUp", "(II)Z"⟩, 46) := ⟨⟨by decide +kernel, by decide +kernel⟩, List.mem_of_getElem? (i := 912) (by decide +kernel), List.mem_of_getElem? (i := 1182) (by decide +kernel), List.mem_of_getElem? (i := 1183) (by decide +kernel)⟩
theorem lw_p113 : lw_okq (⟨"SafeNetModel", "claims", "()I"⟩, 46) := ⟨⟨by decide +kernel, by decide +kernel⟩, List.mem_of_getElem? (i := 912) (by decide +kernel), List.mem_of_getElem? (i := 1186) (by decide +kernel), List.mem_of_getElem? (i := 1187) (by decide +kernel)⟩
theorem lw_p114 : lw_okq (⟨"SafeNetModel", "reachedFrom", "(I)I"⟩, 46) := ⟨⟨by decide +kernel, by decide +kernel⟩, List.mem_of_getElem? (i := 912) (by decide +kernel), List.mem_of_getElem? (i := 1190) (by decide +kernel), List.mem_of_getElem? (i := 1191) (by decide +kernel)⟩
theorem lw_p115 : lw_okq (⟨"SafeNetModel", "isNode", "(I)Z"⟩, 46) := ⟨⟨by decide +kernel, by decide +kernel⟩, List.mem_of_getElem? (i := 912) (by decide +kernel), List.mem_of_getElem? (i := 1198) (by decide +kernel), List.mem_of_getElem? (i := 1199) (by decide +kernel)⟩
theorem lw_p116 : lw_okq (⟨"SafeNetModel", "isClaim", "(I)Z"⟩, 46) := ⟨⟨by decide +kernel, by decide +kernel⟩, List.mem_of_getElem? (i := 912) (by decide +kernel), List.mem_of_getElem? (i := 1206) (by decide +kernel), List.mem_of_getElem? (i := 1207) (by decide +kernel)⟩
theorem lw_p117 : lw_okq (⟨"SafeNetModel", "isFelling", "(II)Z"⟩, 46) := ⟨⟨by decide +kernel, by decide +kernel⟩, List.mem_of_getElem? (i := 912) (by decide +kernel), List.mem_of_getElem? (i := 1211) (by decide +kernel), List.mem_of_getElem? (i := 1212) (by decide +kernel)⟩
theorem lw_p118 : lw_okq (⟨"SafeNetModel", "isFelled", "(II)Z"⟩, 46) := ⟨⟨by decide +kernel, by decide +kernel⟩, List.mem_of_getElem? (i := 912) (by decide +kernel), List.mem_of_getElem? (i := 1215) (by decide +kernel), List.mem_of_getElem? (i := 1216) (by decide +kernel)⟩
theorem lw_p119 : lw_okq (⟨"SafeNetModel", "isStep", "(I)Z"⟩, 46) := ⟨⟨by decide +kernel, by decide +kernel⟩, List.mem_of_getElem? (i := 912) (by decide +kernel), List.mem_of_getElem? (i := 1235) (by decide +kernel), List.mem_of_getElem? (i := 1236) (by decide +kernel)⟩
theorem lw_p120 : lw_okq (⟨"SafeNetModel", "isLeaf", "(I)Z"⟩, 46) := ⟨⟨by decide +kernel, by decide +kernel⟩, List.mem_of_getElem? (i := 912) (by decide +kernel), List.mem_of_getElem? (i := 1257) (by decide +kernel), List.mem_of_getElem? (i := 1258) (by decide +kernel)⟩
theorem lw_p121 : lw_okq (⟨"SafeNetModel", "find", "(III)Z"⟩, 46) := ⟨⟨by decide +kernel, by decide +kernel⟩, List.mem_of_getElem? (i := 912) (by decide +kernel), List.mem_of_getElem? (i := 1287) (by decide +kernel), List.mem_of_getElem? (i := 1288) (by decide +kernel)⟩
theorem lw_p122 : lw_okq (⟨"SafeNetModel", "addRow", "(III)V"⟩, 46) := ⟨⟨by decide +kernel, by decide +kernel⟩, List.mem_of_getElem? (i := 912) (by decide +kernel), List.mem_of_getElem? (i := 1291) (by decide +kernel), List.mem_of_getElem? (i := 1292) (by decide +kernel)⟩
theorem lw_p123 : lw_okq (⟨"SafeNetModel", "put", "(IIJ)V"⟩, 46) := ⟨⟨by decide +kernel, by decide +kernel⟩, List.mem_of_getElem? (i := 912) (by decide +kernel), List.mem_of_getElem? (i := 1298) (by decide +kernel), List.mem_of_getElem? (i := 1299) (by decide +kernel)⟩
theorem lw_p124 : lw_okq (⟨"SafeNetModel", "isSolved", "()Z"⟩, 46) := ⟨⟨by decide +kernel, by decide +kernel⟩, List.mem_of_getElem? (i := 912) (by decide +kernel), List.mem_of_getElem? (i := 1302) (by decide +kernel), List.mem_of_getElem? (i := 1303) (by decide +kernel)⟩
theorem lw_p125 : lw_okq (⟨"SafeNetModel", "leastRow", "()I"⟩, 46) := ⟨⟨by decide +kernel, by decide +kernel⟩, List.mem_of_getElem? (i := 912) (by decide +kernel), List.mem_of_getElem? (i := 1306) (by decide +kernel), List.mem_of_getElem? (i := 1307) (by decide +kernel)⟩
theorem lw_p126 : lw_okq (⟨"SafeNetModel", "at", "(II)J"⟩, 46) := ⟨⟨by decide +kernel, by decide +kernel⟩, List.mem_of_getElem? (i := 912) (by decide +kernel), List.mem_of_getElem? (i := 1310) (by decide +kernel), List.mem_of_getElem? (i := 1311) (by decide +kernel)⟩
theorem lw_p127 : lw_okq (⟨"SafeNetModel", "leastColumn", "()I"⟩, 46) := ⟨⟨by decide +kernel, by decide +kernel⟩, List.mem_of_getElem? (i := 912) (by decide +kernel), List.mem_of_getElem? (i := 1314) (by decide +kernel), List.mem_of_getElem? (i := 1315) (by decide +kernel)⟩
def lw_privs_8 : List (MethodName × Nat) := [(⟨"SafeNetModel", "isBorneUp", "(II)Z"⟩, 46), (⟨"SafeNetModel", "claims", "()I"⟩, 46), (⟨"SafeNetModel", "reachedFrom", "(I)I"⟩, 46), (⟨"SafeNetModel", "isNode", "(I)Z"⟩, 46), (⟨"SafeNetModel", "isClaim", "(I)Z"⟩, 46), (⟨"SafeNetModel", "isFelling", "(II)Z"⟩, 46), (⟨"SafeNetModel", "isFelled", "(II)Z"⟩, 46), (⟨"SafeNetModel", "isStep", "(I)Z"⟩, 46), (⟨"SafeNetModel", "isLeaf", "(I)Z"⟩, 46), (⟨"SafeNetModel", "find", "(III)Z"⟩, 46), (⟨"SafeNetModel", "addRow", "(III)V"⟩, 46), (⟨"SafeNetModel", "put", "(IIJ)V"⟩, 46), (⟨"SafeNetModel", "isSolved", "()Z"⟩, 46), (⟨"SafeNetModel", "leastRow", "()I"⟩, 46), (⟨"SafeNetModel", "at", "(II)J"⟩, 46), (⟨"SafeNetModel", "leastColumn", "()I"⟩, 46)]
theorem lw_r8 : ∀ q ∈ lw_privs_8, lw_okq q := List.forall_mem_cons.mpr ⟨lw_p112, List.forall_mem_cons.mpr ⟨lw_p113, List.forall_mem_cons.mpr ⟨lw_p114, List.forall_mem_cons.mpr ⟨lw_p115, List.forall_mem_cons.mpr ⟨lw_p116, List.forall_mem_cons.mpr ⟨lw_p117, List.forall_mem_cons.mpr ⟨lw_p118, List.forall_mem_cons.mpr ⟨lw_p119, List.forall_mem_cons.mpr ⟨lw_p120, List.forall_mem_cons.mpr ⟨lw_p121, List.forall_mem_cons.mpr ⟨lw_p122, List.forall_mem_cons.mpr ⟨lw_p123, List.forall_mem_cons.mpr ⟨lw_p124, List.forall_mem_cons.mpr ⟨lw_p125, List.forall_mem_cons.mpr ⟨lw_p126, List.forall_mem_cons.mpr ⟨lw_p127, fun _ h => absurd h List.not_mem_nil⟩⟩⟩⟩⟩⟩⟩⟩⟩⟩⟩⟩⟩⟩⟩⟩
theorem lw_p128 : lw_okq (⟨"SafeNetModel", "turn", "(II)V"⟩, 46) := ⟨⟨by decide +kernel, by decide +kernel⟩, List.mem_of_getElem? (i := 912) (by decide +kernel), List.mem_of_getElem? (i := 1318) (by decide +kernel), List.mem_of_getElem? (i := 1319) (by decide +kernel)⟩
theorem lw_p129 : lw_okq (⟨"SafeNetModel", "worldsOf", "(I)I"⟩, 46) := ⟨⟨by decide +kernel, by decide +kernel⟩, List.mem_of_getElem? (i := 912) (by decide +kernel), List.mem_of_getElem? (i := 1327) (by decide +kernel), List.mem_of_getElem? (i := 1328) (by decide +kernel)⟩
theorem lw_p130 : lw_okq (⟨"SafeNetModel", "kindOf", "(I)I"⟩, 46) := ⟨⟨by decide +kernel, by decide +kernel⟩, List.mem_of_getElem? (i := 912) (by decide +kernel), List.mem_of_getElem? (i := 1339) (by decide +kernel), List.mem_of_getElem? (i := 1340) (by decide +kernel)⟩
theorem lw_p131 : lw_okq (⟨"SafeNetModel", "partsIn", "(I)I"⟩, 46) := ⟨⟨by decide +kernel, by decide +kernel⟩, List.mem_of_getElem? (i := 912) (by decide +kernel), List.mem_of_getElem? (i := 1343) (by decide +kernel), List.mem_of_getElem? (i := 1344) (by decide +kernel)⟩
theorem lw_p132 : lw_okq (⟨"SafeNetModel", "sizeOf", "(II)I"⟩, 46) := ⟨⟨by decide +kernel, by decide +kernel⟩, List.mem_of_getElem? (i := 912) (by decide +kernel), List.mem_of_getElem? (i := 1358) (by decide +kernel), List.mem_of_getElem? (i := 1359) (by decide +kernel)⟩
theorem lw_p133 : lw_okq (⟨"SafeNetModel", "began", "(I)V"⟩, 46) := ⟨⟨by decide +kernel, by decide +kernel⟩, List.mem_of_getElem? (i := 912) (by decide +kernel), List.mem_of_getElem? (i := 1362) (by decide +kernel), List.mem_of_getElem? (i := 1363) (by decide +kernel)⟩
theorem lw_p134 : lw_okq (⟨"SafeNetModel", "markOf", "(II)I"⟩, 46) := ⟨⟨by decide +kernel, by decide +kernel⟩, List.mem_of_getElem? (i := 912) (by decide +kernel), List.mem_of_getElem? (i := 1366) (by decide +kernel), List.mem_of_getElem? (i := 1367) (by decide +kernel)⟩
theorem lw_p135 : lw_okq (⟨"SafeNetModel", "heldBy", "(I)I"⟩, 46) := ⟨⟨by decide +kernel, by decide +kernel⟩, List.mem_of_getElem? (i := 912) (by decide +kernel), List.mem_of_getElem? (i := 1370) (by decide +kernel), List.mem_of_getElem? (i := 1371) (by decide +kernel)⟩
def lw_privs_9 : List (MethodName × Nat) := [(⟨"SafeNetModel", "turn", "(II)V"⟩, 46), (⟨"SafeNetModel", "worldsOf", "(I)I"⟩, 46), (⟨"SafeNetModel", "kindOf", "(I)I"⟩, 46), (⟨"SafeNetModel", "partsIn", "(I)I"⟩, 46), (⟨"SafeNetModel", "sizeOf", "(II)I"⟩, 46), (⟨"SafeNetModel", "began", "(I)V"⟩, 46), (⟨"SafeNetModel", "markOf", "(II)I"⟩, 46), (⟨"SafeNetModel", "heldBy", "(I)I"⟩, 46)]
theorem lw_r9 : ∀ q ∈ lw_privs_9, lw_okq q := List.forall_mem_cons.mpr ⟨lw_p128, List.forall_mem_cons.mpr ⟨lw_p129, List.forall_mem_cons.mpr ⟨lw_p130, List.forall_mem_cons.mpr ⟨lw_p131, List.forall_mem_cons.mpr ⟨lw_p132, List.forall_mem_cons.mpr ⟨lw_p133, List.forall_mem_cons.mpr ⟨lw_p134, List.forall_mem_cons.mpr ⟨lw_p135, fun _ h => absurd h List.not_mem_nil⟩⟩⟩⟩⟩⟩⟩⟩
def lw_privs : List (MethodName × Nat) := lw_privs_1 ++ (lw_privs_2 ++ (lw_privs_3 ++ (lw_privs_4 ++ (lw_privs_5 ++ (lw_privs_6 ++ (lw_privs_7 ++ (lw_privs_8 ++ (lw_privs_9))))))))
def lw_tbl : List Cond := k2_sels lw_privs ++ tables_1
theorem lw_privs_ok : ∀ q ∈ lw_privs, lw_okq q := by
  show ∀ q ∈ lw_privs_1 ++ (lw_privs_2 ++ (lw_privs_3 ++ (lw_privs_4 ++ (lw_privs_5 ++ (lw_privs_6 ++ (lw_privs_7 ++ (lw_privs_8 ++ (lw_privs_9)))))))), lw_okq q
  exact List.forall_mem_append.mpr ⟨lw_r1, List.forall_mem_append.mpr ⟨lw_r2, List.forall_mem_append.mpr ⟨lw_r3, List.forall_mem_append.mpr ⟨lw_r4, List.forall_mem_append.mpr ⟨lw_r5, List.forall_mem_append.mpr ⟨lw_r6, List.forall_mem_append.mpr ⟨lw_r7, List.forall_mem_append.mpr ⟨lw_r8, lw_r9⟩⟩⟩⟩⟩⟩⟩⟩
end
section
theorem goodIn_r {big : List Cond} (ws : List Cond) (ps : List Nat) (hp : ws = ps.filterMap (fun i => big[i]?)) (h : ws.all goodWord = true) : GoodIn big ws := by
  intro w hw
  have h1 := List.all_eq_true.mp h w hw
  rw [hp] at hw
  obtain ⟨i, -, hi⟩ := List.mem_filterMap.mp hw
  have hm : w ∈ big := by first | exact List.mem_of_getElem? hi | exact List.getElem?_mem hi
  exact ⟨hm, good_of_word h1⟩
theorem goodIn_app {big a b : List Cond} (ha : GoodIn big a) (hb : GoodIn big b) : GoodIn big (a ++ b) := fun w h => (List.mem_append.mp h).elim (ha w) (hb w)
theorem goodIn_ca {big a b : List Cond} {c : Cond} (ha : GoodIn big (c :: a)) (hb : GoodIn big b) : GoodIn big (c :: (a ++ b)) := fun w h => (List.mem_cons.mp h).elim (fun e => ha w (List.mem_cons.mpr (Or.inl e))) (fun h => (List.mem_append.mp h).elim (fun h => ha w (List.mem_cons.mpr (Or.inr h))) (hb w))
theorem goodIn_sub {big ws : List Cond} (hm : ∀ w ∈ ws, w ∈ big) (h : ws.all goodWord = true) : GoodIn big ws := fun w hw => ⟨hm w hw, good_of_word (List.all_eq_true.mp h w hw)⟩

def RX0 : String := "SafeNet$Asks"
def TX0 : u_T := fun k => match k with
  | 0 => ("SafeNet$Asks", "trace", "[I", true)
  | 1 => ("SafeNet$Asks", "traced", "I", false)
  | _ => ("SafeNet$Asks", "shownBits", "I", false)
def tyX0 : Nat → FieldType := fun k => match k with
  | 0 => .array .int
  | 1 => .int
  | _ => .int
abbrev wsX00 : List Cond := u_ws RX0 TX0 3
theorem nmX0 : ∀ a, a < 3 → ∀ b, b < 3 → a ≠ b → (TX0 a).2.1 ≠ (TX0 b).2.1 := by decide +kernel
theorem tyX0_ok : ∀ k, k < 3 → parseFieldDescriptor (TX0 k).2.2.1 = some (tyX0 k) := by decide +kernel
abbrev cX0_init : ByteArray := prog_2_method_1_code
def yX0_init : MethodName := ⟨RX0, "<init>", "()V"⟩
abbrev cX0_start : ByteArray := prog_2_method_2_code
def yX0_start : MethodName := ⟨RX0, "start", "(I)V"⟩
abbrev cX0_begin : ByteArray := prog_2_method_3_code
def yX0_begin : MethodName := ⟨RX0, "begin", "(I)V"⟩
abbrev cX0_size : ByteArray := prog_2_method_4_code
def yX0_size : MethodName := ⟨RX0, "size", "(LSafeNet$Net;I)I"⟩
abbrev cX0_mark : ByteArray := prog_2_method_5_code
def yX0_mark : MethodName := ⟨RX0, "mark", "(LSafeNet$Net;I)I"⟩
abbrev cX0_size10 : ByteArray := prog_2_method_6_code
def yX0_size10 : MethodName := ⟨RX0, "size10", "(LSafeNet$Net;I)I"⟩
abbrev cX0_size11 : ByteArray := prog_2_method_7_code
def yX0_size11 : MethodName := ⟨RX0, "size11", "(LSafeNet$Net;I)I"⟩
abbrev cX0_size12 : ByteArray := prog_2_method_8_code
def yX0_size12 : MethodName := ⟨RX0, "size12", "(LSafeNet$Net;I)I"⟩
abbrev cX0_size13 : ByteArray := prog_2_method_9_code
def yX0_size13 : MethodName := ⟨RX0, "size13", "(LSafeNet$Net;I)I"⟩
abbrev cX0_size14 : ByteArray := prog_2_method_10_code
def yX0_size14 : MethodName := ⟨RX0, "size14", "(LSafeNet$Net;I)I"⟩
abbrev cX0_size15 : ByteArray := prog_2_method_11_code
def yX0_size15 : MethodName := ⟨RX0, "size15", "(LSafeNet$Net;I)I"⟩
abbrev cX0_mark20 : ByteArray := prog_2_method_12_code
def yX0_mark20 : MethodName := ⟨RX0, "mark20", "(I)I"⟩
abbrev cX0_mark21 : ByteArray := prog_2_method_13_code
def yX0_mark21 : MethodName := ⟨RX0, "mark21", "(I)I"⟩
abbrev cX0_mark22 : ByteArray := prog_2_method_14_code
def yX0_mark22 : MethodName := ⟨RX0, "mark22", "(LSafeNet$Net;I)I"⟩
def RX1 : String := "SafeNet$FellingSets"
def TX1 : u_T := fun k => match k with
  | 0 => ("SafeNet$FellingSets", "partners", "[I", true)
  | 1 => ("SafeNet$FellingSets", "claim", "I", false)
  | 2 => ("SafeNet$FellingSets", "standing", "I", false)
  | 3 => ("SafeNet$FellingSets", "wanted", "I", false)
  | 4 => ("SafeNet$FellingSets", "found", "I", false)
  | _ => ("SafeNet$FellingSets", "answer", "I", false)
def tyX1 : Nat → FieldType := fun k => match k with
  | 0 => .array .int
  | 1 => .int
  | 2 => .int
  | 3 => .int
  | 4 => .int
  | _ => .int
abbrev wsX10 : List Cond := u_ws RX1 TX1 6
theorem nmX1 : ∀ a, a < 6 → ∀ b, b < 6 → a ≠ b → (TX1 a).2.1 ≠ (TX1 b).2.1 := by decide +kernel
theorem tyX1_ok : ∀ k, k < 6 → parseFieldDescriptor (TX1 k).2.2.1 = some (tyX1 k) := by decide +kernel
abbrev cX1_init : ByteArray := prog_3_method_1_code
def yX1_init : MethodName := ⟨RX1, "<init>", "()V"⟩
abbrev cX1_seek : ByteArray := prog_3_method_2_code
def yX1_seek : MethodName := ⟨RX1, "seek", "(LSafeNet$Net;II)I"⟩
abbrev cX1_seekOnes : ByteArray := prog_3_method_3_code
def yX1_seekOnes : MethodName := ⟨RX1, "seekOnes", "(LSafeNet$Net;)I"⟩
abbrev cX1_seekTwos : ByteArray := prog_3_method_4_code
def yX1_seekTwos : MethodName := ⟨RX1, "seekTwos", "(LSafeNet$Net;I)V"⟩
abbrev cX1_seekThrees : ByteArray := prog_3_method_5_code
def yX1_seekThrees : MethodName := ⟨RX1, "seekThrees", "(LSafeNet$Net;I)V"⟩
abbrev cX1_countIfItFells : ByteArray := prog_3_method_6_code
def yX1_countIfItFells : MethodName := ⟨RX1, "countIfItFells", "(LSafeNet$Net;I)Z"⟩
def RX2 : String := "SafeNet$Net"
def TX2 : u_T := fun k => match k with
  | 0 => ("SafeNet$Net", "nodes", "I", false)
  | 1 => ("SafeNet$Net", "steps", "I", false)
  | 2 => ("SafeNet$Net", "today", "I", false)
  | 3 => ("SafeNet$Net", "sort", "[I", true)
  | 4 => ("SafeNet$Net", "hand", "[I", true)
  | 5 => ("SafeNet$Net", "lookedAt", "[I", true)
  | 6 => ("SafeNet$Net", "goodFor", "[I", true)
  | 7 => ("SafeNet$Net", "fallen", "[I", true)
  | 8 => ("SafeNet$Net", "form", "[I", true)
  | 9 => ("SafeNet$Net", "held", "[I", true)
  | 10 => ("SafeNet$Net", "partCount", "[I", true)
  | 11 => ("SafeNet$Net", "partBits", "[I", true)
  | 12 => ("SafeNet$Net", "parts", "[I", true)
  | 13 => ("SafeNet$Net", "open", "[I", true)
  | 14 => ("SafeNet$Net", "doubts", "[I", true)
  | _ => ("SafeNet$Net", "reached", "[I", true)
def tyX2 : Nat → FieldType := fun k => match k with
  | 0 => .int
  | 1 => .int
  | 2 => .int
  | 3 => .array .int
  | 4 => .array .int
  | 5 => .array .int
  | 6 => .array .int
  | 7 => .array .int
  | 8 => .array .int
  | 9 => .array .int
  | 10 => .array .int
  | 11 => .array .int
  | 12 => .array .int
  | 13 => .array .int
  | 14 => .array .int
  | _ => .array .int
abbrev wsX20 : List Cond := u_ws RX2 TX2 16
theorem nmX2 : ∀ a, a < 16 → ∀ b, b < 16 → a ≠ b → (TX2 a).2.1 ≠ (TX2 b).2.1 := by decide +kernel
theorem tyX2_ok : ∀ k, k < 16 → parseFieldDescriptor (TX2 k).2.2.1 = some (tyX2 k) := by decide +kernel
abbrev cX2_init : ByteArray := prog_4_method_1_code
def yX2_init : MethodName := ⟨RX2, "<init>", "()V"⟩
abbrev cX2_hasNode : ByteArray := prog_4_method_2_code
def yX2_hasNode : MethodName := ⟨RX2, "hasNode", "(I)Z"⟩
abbrev cX2_isClaim : ByteArray := prog_4_method_3_code
def yX2_isClaim : MethodName := ⟨RX2, "isClaim", "(I)Z"⟩
abbrev cX2_isGround : ByteArray := prog_4_method_4_code
def yX2_isGround : MethodName := ⟨RX2, "isGround", "(I)Z"⟩
abbrev cX2_hasStep : ByteArray := prog_4_method_5_code
def yX2_hasStep : MethodName := ⟨RX2, "hasStep", "(I)Z"⟩
abbrev cX2_hasPart : ByteArray := prog_4_method_6_code
def yX2_hasPart : MethodName := ⟨RX2, "hasPart", "(II)Z"⟩
abbrev cX2_partAt : ByteArray := prog_4_method_7_code
def yX2_partAt : MethodName := ⟨RX2, "partAt", "(II)I"⟩
abbrev cX2_doubtsOf : ByteArray := prog_4_method_8_code
def yX2_doubtsOf : MethodName := ⟨RX2, "doubtsOf", "(I)I"⟩
abbrev cX2_addNode : ByteArray := prog_4_method_9_code
def yX2_addNode : MethodName := ⟨RX2, "addNode", "(II)V"⟩
abbrev cX2_addStep : ByteArray := prog_4_method_10_code
def yX2_addStep : MethodName := ⟨RX2, "addStep", "(II)I"⟩
abbrev cX2_addPart : ByteArray := prog_4_method_11_code
def yX2_addPart : MethodName := ⟨RX2, "addPart", "(II)V"⟩
abbrev cX2_cutBack : ByteArray := prog_4_method_12_code
def yX2_cutBack : MethodName := ⟨RX2, "cutBack", "(II)V"⟩
abbrev cX2_tellDoubt : ByteArray := prog_4_method_13_code
def yX2_tellDoubt : MethodName := ⟨RX2, "tellDoubt", "(III)I"⟩
abbrev cX2_doubtsToldAs : ByteArray := prog_4_method_14_code
def yX2_doubtsToldAs : MethodName := ⟨RX2, "doubtsToldAs", "(I)I"⟩
abbrev cX2_stands : ByteArray := prog_4_method_15_code
def yX2_stands : MethodName := ⟨RX2, "stands", "(I)Z"⟩
abbrev cX2_claims : ByteArray := prog_4_method_16_code
def yX2_claims : MethodName := ⟨RX2, "claims", "()I"⟩
abbrev cX2_grounds : ByteArray := prog_4_method_17_code
def yX2_grounds : MethodName := ⟨RX2, "grounds", "()I"⟩
abbrev cX2_groundsOf : ByteArray := prog_4_method_18_code
def yX2_groundsOf : MethodName := ⟨RX2, "groundsOf", "(I)I"⟩
abbrev cX2_standing : ByteArray := prog_4_method_19_code
def yX2_standing : MethodName := ⟨RX2, "standing", "()I"⟩
abbrev cX2_isBorneUp : ByteArray := prog_4_method_20_code
def yX2_isBorneUp : MethodName := ⟨RX2, "isBorneUp", "(II)Z"⟩
abbrev cX2_nextRound : ByteArray := prog_4_method_21_code
def yX2_nextRound : MethodName := ⟨RX2, "nextRound", "(II)I"⟩
abbrev cX2_spread : ByteArray := prog_4_method_22_code
def yX2_spread : MethodName := ⟨RX2, "spread", "(II)I"⟩
abbrev cX2_shownNow : ByteArray := prog_4_method_23_code
def yX2_shownNow : MethodName := ⟨RX2, "shownNow", "()I"⟩
abbrev cX2_roundsNow : ByteArray := prog_4_method_24_code
def yX2_roundsNow : MethodName := ⟨RX2, "roundsNow", "()I"⟩
abbrev cX2_circles : ByteArray := prog_4_method_25_code
def yX2_circles : MethodName := ⟨RX2, "circles", "()I"⟩
abbrev cX2_timesPart : ByteArray := prog_4_method_26_code
def yX2_timesPart : MethodName := ⟨RX2, "timesPart", "(I)I"⟩
abbrev cX2_timesHeld : ByteArray := prog_4_method_27_code
def yX2_timesHeld : MethodName := ⟨RX2, "timesHeld", "(I)I"⟩
abbrev cX2_kindOf : ByteArray := prog_4_method_28_code
def yX2_kindOf : MethodName := ⟨RX2, "kindOf", "(I)I"⟩
abbrev cX2_isTakenAs : ByteArray := prog_4_method_29_code
def yX2_isTakenAs : MethodName := ⟨RX2, "isTakenAs", "(II)Z"⟩
def RX3 : String := "SafeNet$Sheets"
def TX3 : u_T := fun k => match k with
  | 0 => ("SafeNet$Sheets", "items", "[I", true)
  | 1 => ("SafeNet$Sheets", "lane", "[I", true)
  | _ => ("SafeNet$Sheets", "size", "[I", true)
def tyX3 : Nat → FieldType := fun k => match k with
  | 0 => .array .int
  | 1 => .array .int
  | _ => .array .int
abbrev wsX30 : List Cond := u_ws RX3 TX3 3
theorem nmX3 : ∀ a, a < 3 → ∀ b, b < 3 → a ≠ b → (TX3 a).2.1 ≠ (TX3 b).2.1 := by decide +kernel
theorem tyX3_ok : ∀ k, k < 3 → parseFieldDescriptor (TX3 k).2.2.1 = some (tyX3 k) := by decide +kernel
abbrev cX3_init : ByteArray := prog_5_method_1_code
def yX3_init : MethodName := ⟨RX3, "<init>", "()V"⟩
abbrev cX3_isNumber : ByteArray := prog_5_method_2_code
def yX3_isNumber : MethodName := ⟨RX3, "isNumber", "(I)Z"⟩
abbrev cX3_isMissing : ByteArray := prog_5_method_3_code
def yX3_isMissing : MethodName := ⟨RX3, "isMissing", "(I)Z"⟩
abbrev cX3_areOfOneLane : ByteArray := prog_5_method_4_code
def yX3_areOfOneLane : MethodName := ⟨RX3, "areOfOneLane", "(II)Z"⟩
abbrev cX3_hasPlaces : ByteArray := prog_5_method_5_code
def yX3_hasPlaces : MethodName := ⟨RX3, "hasPlaces", "(III)Z"⟩
abbrev cX3_laid : ByteArray := prog_5_method_6_code
def yX3_laid : MethodName := ⟨RX3, "laid", "()I"⟩
abbrev cX3_lay : ByteArray := prog_5_method_7_code
def yX3_lay : MethodName := ⟨RX3, "lay", "(III)V"⟩
abbrev cX3_takeAway : ByteArray := prog_5_method_8_code
def yX3_takeAway : MethodName := ⟨RX3, "takeAway", "(I)I"⟩
abbrev cX3_itemAt : ByteArray := prog_5_method_9_code
def yX3_itemAt : MethodName := ⟨RX3, "itemAt", "(II)I"⟩
abbrev cX3_put : ByteArray := prog_5_method_10_code
def yX3_put : MethodName := ⟨RX3, "put", "(III)I"⟩
abbrev cX3_move : ByteArray := prog_5_method_11_code
def yX3_move : MethodName := ⟨RX3, "move", "(IIIII)V"⟩
def RX4 : String := "SafeNet$Table"
def TX4 : u_T := fun k => match k with
  | 0 => ("SafeNet$Table", "cells", "[[J", true)
  | 1 => ("SafeNet$Table", "rowName", "[I", true)
  | 2 => ("SafeNet$Table", "columnName", "[I", true)
  | 3 => ("SafeNet$Table", "rows", "I", false)
  | 4 => ("SafeNet$Table", "columns", "I", false)
  | _ => ("SafeNet$Table", "divisor", "J", false)
def tyX4 : Nat → FieldType := fun k => match k with
  | 0 => .array (.array .long)
  | 1 => .array .int
  | 2 => .array .int
  | 3 => .int
  | 4 => .int
  | _ => .long
abbrev wsX40 : List Cond := u_ws RX4 TX4 6
theorem nmX4 : ∀ a, a < 6 → ∀ b, b < 6 → a ≠ b → (TX4 a).2.1 ≠ (TX4 b).2.1 := by decide +kernel
theorem tyX4_ok : ∀ k, k < 6 → parseFieldDescriptor (TX4 k).2.2.1 = some (tyX4 k) := by decide +kernel
abbrev cX4_init : ByteArray := prog_6_method_1_code
def yX4_init : MethodName := ⟨RX4, "<init>", "()V"⟩
abbrev cX4_begin : ByteArray := prog_6_method_2_code
def yX4_begin : MethodName := ⟨RX4, "begin", "(II)V"⟩
abbrev cX4_addRow : ByteArray := prog_6_method_3_code
def yX4_addRow : MethodName := ⟨RX4, "addRow", "(III)V"⟩
abbrev cX4_least : ByteArray := prog_6_method_4_code
def yX4_least : MethodName := ⟨RX4, "least", "()J"⟩
abbrev cX4_settle : ByteArray := prog_6_method_5_code
def yX4_settle : MethodName := ⟨RX4, "settle", "()Z"⟩
abbrev cX4_brokenRow : ByteArray := prog_6_method_6_code
def yX4_brokenRow : MethodName := ⟨RX4, "brokenRow", "()I"⟩
abbrev cX4_mendingColumn : ByteArray := prog_6_method_7_code
def yX4_mendingColumn : MethodName := ⟨RX4, "mendingColumn", "(I)I"⟩
abbrev cX4_isCheaper : ByteArray := prog_6_method_8_code
def yX4_isCheaper : MethodName := ⟨RX4, "isCheaper", "(III)Z"⟩
abbrev cX4_exchange : ByteArray := prog_6_method_9_code
def yX4_exchange : MethodName := ⟨RX4, "exchange", "(II)V"⟩
abbrev cX4_clearOf : ByteArray := prog_6_method_10_code
def yX4_clearOf : MethodName := ⟨RX4, "clearOf", "(III)V"⟩
abbrev cX4_divide : ByteArray := prog_6_method_11_code
def yX4_divide : MethodName := ⟨RX4, "divide", "(JJ)J"⟩
def RX5 : String := "SafeNet$Text"
def TX5 : u_T := fun k => match k with
  | 0 => ("SafeNet$Text", "bytes", "[B", true)
  | 1 => ("SafeNet$Text", "length", "I", false)
  | 2 => ("SafeNet$Text", "place", "I", false)
  | 3 => ("SafeNet$Text", "behind", "I", false)
  | 4 => ("SafeNet$Text", "token", "I", false)
  | _ => ("SafeNet$Text", "worth", "I", false)
def tyX5 : Nat → FieldType := fun k => match k with
  | 0 => .array .byte
  | 1 => .int
  | 2 => .int
  | 3 => .int
  | 4 => .int
  | _ => .int
abbrev wsX50 : List Cond := u_ws RX5 TX5 6
theorem nmX5 : ∀ a, a < 6 → ∀ b, b < 6 → a ≠ b → (TX5 a).2.1 ≠ (TX5 b).2.1 := by decide +kernel
theorem tyX5_ok : ∀ k, k < 6 → parseFieldDescriptor (TX5 k).2.2.1 = some (tyX5 k) := by decide +kernel
abbrev cX5_init : ByteArray := prog_7_method_1_code
def yX5_init : MethodName := ⟨RX5, "<init>", "()V"⟩
abbrev cX5_hasRoom : ByteArray := prog_7_method_2_code
def yX5_hasRoom : MethodName := ⟨RX5, "hasRoom", "(I)Z"⟩
abbrev cX5_append : ByteArray := prog_7_method_3_code
def yX5_append : MethodName := ⟨RX5, "append", "(JI)I"⟩
abbrev cX5_read : ByteArray := prog_7_method_4_code
def yX5_read : MethodName := ⟨RX5, "read", "(LSafeNet$Net;)I"⟩
abbrev cX5_readSentence : ByteArray := prog_7_method_5_code
def yX5_readSentence : MethodName := ⟨RX5, "readSentence", "(LSafeNet$Net;)I"⟩
abbrev cX5_readGround : ByteArray := prog_7_method_6_code
def yX5_readGround : MethodName := ⟨RX5, "readGround", "(LSafeNet$Net;I)I"⟩
abbrev cX5_readClaim : ByteArray := prog_7_method_7_code
def yX5_readClaim : MethodName := ⟨RX5, "readClaim", "(LSafeNet$Net;)I"⟩
abbrev cX5_readStep : ByteArray := prog_7_method_8_code
def yX5_readStep : MethodName := ⟨RX5, "readStep", "(LSafeNet$Net;)I"⟩
abbrev cX5_readPart : ByteArray := prog_7_method_9_code
def yX5_readPart : MethodName := ⟨RX5, "readPart", "(LSafeNet$Net;I)I"⟩
abbrev cX5_readSign : ByteArray := prog_7_method_10_code
def yX5_readSign : MethodName := ⟨RX5, "readSign", "()I"⟩
abbrev cX5_formTold : ByteArray := prog_7_method_11_code
def yX5_formTold : MethodName := ⟨RX5, "formTold", "()I"⟩
abbrev cX5_take : ByteArray := prog_7_method_12_code
def yX5_take : MethodName := ⟨RX5, "take", "()V"⟩
abbrev cX5_takeWorth : ByteArray := prog_7_method_13_code
def yX5_takeWorth : MethodName := ⟨RX5, "takeWorth", "()V"⟩
abbrev cX5_sortAt : ByteArray := prog_7_method_14_code
def yX5_sortAt : MethodName := ⟨RX5, "sortAt", "(I)I"⟩
abbrev cX5_isWord : ByteArray := prog_7_method_15_code
def yX5_isWord : MethodName := ⟨RX5, "isWord", "(Ljava/lang/String;)Z"⟩
def RX6 : String := "SafeNet$Weights"
def TX6 : u_T := fun k => match k with
  | 0 => ("SafeNet$Weights", "count", "I", false)
  | 1 => ("SafeNet$Weights", "node", "[I", true)
  | 2 => ("SafeNet$Weights", "low", "[I", true)
  | 3 => ("SafeNet$Weights", "high", "[I", true)
  | 4 => ("SafeNet$Weights", "pairLow", "[I", true)
  | 5 => ("SafeNet$Weights", "pairHigh", "[I", true)
  | 6 => ("SafeNet$Weights", "table", "LSafeNet$Table;", true)
  | 7 => ("SafeNet$Weights", "above", "J", false)
  | _ => ("SafeNet$Weights", "below", "J", false)
def tyX6 : Nat → FieldType := fun k => match k with
  | 0 => .int
  | 1 => .array .int
  | 2 => .array .int
  | 3 => .array .int
  | 4 => .array .int
  | 5 => .array .int
  | 6 => .object "SafeNet$Table"
  | 7 => .long
  | _ => .long
abbrev wsX60 : List Cond := u_ws RX6 TX6 9
theorem nmX6 : ∀ a, a < 9 → ∀ b, b < 9 → a ≠ b → (TX6 a).2.1 ≠ (TX6 b).2.1 := by decide +kernel
theorem tyX6_ok : ∀ k, k < 9 → parseFieldDescriptor (TX6 k).2.2.1 = some (tyX6 k) := by decide +kernel
abbrev cX6_init : ByteArray := prog_8_method_1_code
def yX6_init : MethodName := ⟨RX6, "<init>", "()V"⟩
abbrev cX6_isPlace : ByteArray := prog_8_method_2_code
def yX6_isPlace : MethodName := ⟨RX6, "isPlace", "(I)Z"⟩
abbrev cX6_isFull : ByteArray := prog_8_method_3_code
def yX6_isFull : MethodName := ⟨RX6, "isFull", "()Z"⟩
abbrev cX6_has : ByteArray := prog_8_method_4_code
def yX6_has : MethodName := ⟨RX6, "has", "(I)Z"⟩
abbrev cX6_add : ByteArray := prog_8_method_5_code
def yX6_add : MethodName := ⟨RX6, "add", "(III)I"⟩
abbrev cX6_tellPair : ByteArray := prog_8_method_6_code
def yX6_tellPair : MethodName := ⟨RX6, "tellPair", "(IIII)V"⟩
abbrev cX6_clear : ByteArray := prog_8_method_7_code
def yX6_clear : MethodName := ⟨RX6, "clear", "()I"⟩
abbrev cX6_allWorlds : ByteArray := prog_8_method_8_code
def yX6_allWorlds : MethodName := ⟨RX6, "allWorlds", "()I"⟩
abbrev cX6_worldsShowing : ByteArray := prog_8_method_9_code
def yX6_worldsShowing : MethodName := ⟨RX6, "worldsShowing", "(LSafeNet$Net;I)I"⟩
abbrev cX6_findLeast : ByteArray := prog_8_method_10_code
def yX6_findLeast : MethodName := ⟨RX6, "findLeast", "(I)Z"⟩
abbrev cX6_findMost : ByteArray := prog_8_method_11_code
def yX6_findMost : MethodName := ⟨RX6, "findMost", "(I)Z"⟩
abbrev cX6_addSpan : ByteArray := prog_8_method_12_code
def yX6_addSpan : MethodName := ⟨RX6, "addSpan", "(III)V"⟩
abbrev cX6_bestRaise : ByteArray := prog_8_method_13_code
def yX6_bestRaise : MethodName := ⟨RX6, "bestRaise", "(I)I"⟩
abbrev cX6_findLeastRaised : ByteArray := prog_8_method_14_code
def yX6_findLeastRaised : MethodName := ⟨RX6, "findLeastRaised", "(II)Z"⟩
abbrev cX6_reduce : ByteArray := prog_8_method_15_code
def yX6_reduce : MethodName := ⟨RX6, "reduce", "(JJ)V"⟩
def RX7 : String := "SafeNet"
def TX7 : u_T := fun k => match k with
  | 0 => ("SafeNet", "sheets", "LSafeNet$Sheets;", true)
  | 1 => ("SafeNet", "text", "LSafeNet$Text;", true)
  | 2 => ("SafeNet", "net", "LSafeNet$Net;", true)
  | 3 => ("SafeNet", "fellingSets", "LSafeNet$FellingSets;", true)
  | 4 => ("SafeNet", "weights", "LSafeNet$Weights;", true)
  | 5 => ("SafeNet", "asks", "LSafeNet$Asks;", true)
  | 6 => ("SafeNet", "latestFault", "I", false)
  | _ => ("SafeNet", "latestFinding", "I", false)
def tyX7 : Nat → FieldType := fun k => match k with
  | 0 => .object "SafeNet$Sheets"
  | 1 => .object "SafeNet$Text"
  | 2 => .object "SafeNet$Net"
  | 3 => .object "SafeNet$FellingSets"
  | 4 => .object "SafeNet$Weights"
  | 5 => .object "SafeNet$Asks"
  | 6 => .int
  | _ => .int
abbrev wsX70 : List Cond := u_ws RX7 TX7 8
theorem nmX7 : ∀ a, a < 8 → ∀ b, b < 8 → a ≠ b → (TX7 a).2.1 ≠ (TX7 b).2.1 := by decide +kernel
theorem tyX7_ok : ∀ k, k < 8 → parseFieldDescriptor (TX7 k).2.2.1 = some (tyX7 k) := by decide +kernel
abbrev cX7_init : ByteArray := prog_1_method_1_code
def yX7_init : MethodName := ⟨RX7, "<init>", "()V"⟩
abbrev cX7_sheet : ByteArray := prog_1_method_2_code
def yX7_sheet : MethodName := ⟨RX7, "sheet", "(III)I"⟩
abbrev cX7_set : ByteArray := prog_1_method_3_code
def yX7_set : MethodName := ⟨RX7, "set", "(III)I"⟩
abbrev cX7_copy : ByteArray := prog_1_method_4_code
def yX7_copy : MethodName := ⟨RX7, "copy", "(IIIII)I"⟩
abbrev cX7_drop : ByteArray := prog_1_method_5_code
def yX7_drop : MethodName := ⟨RX7, "drop", "(I)I"⟩
abbrev cX7_feed : ByteArray := prog_1_method_6_code
def yX7_feed : MethodName := ⟨RX7, "feed", "(JI)I"⟩
abbrev cX7_net : ByteArray := prog_1_method_7_code
def yX7_net : MethodName := ⟨RX7, "net", "()I"⟩
abbrev cX7_fault : ByteArray := prog_1_method_8_code
def yX7_fault : MethodName := ⟨RX7, "fault", "()I"⟩
abbrev cX7_node : ByteArray := prog_1_method_9_code
def yX7_node : MethodName := ⟨RX7, "node", "(II)I"⟩
abbrev cX7_step : ByteArray := prog_1_method_10_code
def yX7_step : MethodName := ⟨RX7, "step", "(II)I"⟩
abbrev cX7_part : ByteArray := prog_1_method_11_code
def yX7_part : MethodName := ⟨RX7, "part", "(II)I"⟩
abbrev cX7_doubt : ByteArray := prog_1_method_12_code
def yX7_doubt : MethodName := ⟨RX7, "doubt", "(III)I"⟩
abbrev cX7_borne : ByteArray := prog_1_method_13_code
def yX7_borne : MethodName := ⟨RX7, "borne", "(I)I"⟩
abbrev cX7_looked : ByteArray := prog_1_method_14_code
def yX7_looked : MethodName := ⟨RX7, "looked", "(III)I"⟩
abbrev cX7_fall : ByteArray := prog_1_method_15_code
def yX7_fall : MethodName := ⟨RX7, "fall", "(II)I"⟩
abbrev cX7_day : ByteArray := prog_1_method_16_code
def yX7_day : MethodName := ⟨RX7, "day", "(I)I"⟩
abbrev cX7_shown : ByteArray := prog_1_method_17_code
def yX7_shown : MethodName := ⟨RX7, "shown", "(I)I"⟩
abbrev cX7_leaning : ByteArray := prog_1_method_18_code
def yX7_leaning : MethodName := ⟨RX7, "leaning", "(I)I"⟩
abbrev cX7_felling : ByteArray := prog_1_method_19_code
def yX7_felling : MethodName := ⟨RX7, "felling", "(II)I"⟩
abbrev cX7_hand : ByteArray := prog_1_method_20_code
def yX7_hand : MethodName := ⟨RX7, "hand", "()I"⟩
abbrev cX7_weigh : ByteArray := prog_1_method_21_code
def yX7_weigh : MethodName := ⟨RX7, "weigh", "(III)I"⟩
abbrev cX7_pair : ByteArray := prog_1_method_22_code
def yX7_pair : MethodName := ⟨RX7, "pair", "(IIII)I"⟩
abbrev cX7_unweigh : ByteArray := prog_1_method_23_code
def yX7_unweigh : MethodName := ⟨RX7, "unweigh", "()I"⟩
abbrev cX7_agree : ByteArray := prog_1_method_24_code
def yX7_agree : MethodName := ⟨RX7, "agree", "()I"⟩
abbrev cX7_odds : ByteArray := prog_1_method_25_code
def yX7_odds : MethodName := ⟨RX7, "odds", "(II)I"⟩
abbrev cX7_raise : ByteArray := prog_1_method_26_code
def yX7_raise : MethodName := ⟨RX7, "raise", "(I)I"⟩
abbrev cX7_kind : ByteArray := prog_1_method_27_code
def yX7_kind : MethodName := ⟨RX7, "kind", "(I)I"⟩
abbrev cX7_as : ByteArray := prog_1_method_28_code
def yX7_as : MethodName := ⟨RX7, "as", "(II)I"⟩
abbrev cX7_ask : ByteArray := prog_1_method_29_code
def yX7_ask : MethodName := ⟨RX7, "ask", "(II)I"⟩
abbrev cX7_trace : ByteArray := prog_1_method_30_code
def yX7_trace : MethodName := ⟨RX7, "trace", "(I)I"⟩
abbrev cX7_count : ByteArray := prog_1_method_31_code
def yX7_count : MethodName := ⟨RX7, "count", "(I)I"⟩
abbrev cX7_status : ByteArray := prog_1_method_32_code
def yX7_status : MethodName := ⟨RX7, "status", "()I"⟩
abbrev cX7_found : ByteArray := prog_1_method_33_code
def yX7_found : MethodName := ⟨RX7, "found", "(I)I"⟩
abbrev cX7_unfound : ByteArray := prog_1_method_34_code
def yX7_unfound : MethodName := ⟨RX7, "unfound", "(I)I"⟩
abbrev cX7_isLook : ByteArray := prog_1_method_35_code
def yX7_isLook : MethodName := ⟨RX7, "isLook", "(II)Z"⟩
abbrev cX7_tellLook : ByteArray := prog_1_method_36_code
def yX7_tellLook : MethodName := ⟨RX7, "tellLook", "(II)V"⟩
abbrev cX7_isWithin : ByteArray := prog_1_method_37_code
def yX7_isWithin : MethodName := ⟨RX7, "isWithin", "(III)Z"⟩
abbrev cX7_isSpan : ByteArray := prog_1_method_38_code
def yX7_isSpan : MethodName := ⟨RX7, "isSpan", "(II)Z"⟩
abbrev cX7_bitAt : ByteArray := prog_1_method_39_code
def yX7_bitAt : MethodName := ⟨RX7, "bitAt", "(II)I"⟩
def RX8 : String := "SafeNetModel"
def TX8 : u_T := fun k => match k with
  | 0 => ("SafeNetModel", "thrown", "I", false)
  | 1 => ("SafeNetModel", "status", "I", false)
  | 2 => ("SafeNetModel", "lane", "[I", true)
  | 3 => ("SafeNetModel", "many", "[I", true)
  | 4 => ("SafeNetModel", "item", "[I", true)
  | 5 => ("SafeNetModel", "nodes", "I", false)
  | 6 => ("SafeNetModel", "steps", "I", false)
  | 7 => ("SafeNetModel", "newNodes", "I", false)
  | 8 => ("SafeNetModel", "newSteps", "I", false)
  | 9 => ("SafeNetModel", "what", "[I", true)
  | 10 => ("SafeNetModel", "handOf", "[I", true)
  | 11 => ("SafeNetModel", "dayOf", "[I", true)
  | 12 => ("SafeNetModel", "daysOf", "[I", true)
  | 13 => ("SafeNetModel", "isFallen", "[Z", true)
  | 14 => ("SafeNetModel", "form", "[I", true)
  | 15 => ("SafeNetModel", "claimOf", "[I", true)
  | 16 => ("SafeNetModel", "parts", "[I", true)
  | 17 => ("SafeNetModel", "partOf", "[I", true)
  | 18 => ("SafeNetModel", "doubtHow", "[I", true)
  | 19 => ("SafeNetModel", "tape", "[I", true)
  | 20 => ("SafeNetModel", "taped", "I", false)
  | 21 => ("SafeNetModel", "latest", "I", false)
  | 22 => ("SafeNetModel", "length", "I", false)
  | 23 => ("SafeNetModel", "cursor", "I", false)
  | 24 => ("SafeNetModel", "token", "I", false)
  | 25 => ("SafeNetModel", "from", "I", false)
  | 26 => ("SafeNetModel", "till", "I", false)
  | 27 => ("SafeNetModel", "fault", "I", false)
  | 28 => ("SafeNetModel", "faultAt", "I", false)
  | 29 => ("SafeNetModel", "theDay", "I", false)
  | 30 => ("SafeNetModel", "roundsThen", "I", false)
  | 31 => ("SafeNetModel", "weighed", "I", false)
  | 32 => ("SafeNetModel", "weighedNode", "[I", true)
  | 33 => ("SafeNetModel", "hasSpan", "[Z", true)
  | 34 => ("SafeNetModel", "spanLow", "[I", true)
  | 35 => ("SafeNetModel", "spanHigh", "[I", true)
  | 36 => ("SafeNetModel", "rows", "I", false)
  | 37 => ("SafeNetModel", "columns", "I", false)
  | 38 => ("SafeNetModel", "bottom", "J", false)
  | 39 => ("SafeNetModel", "plan", "[J", true)
  | 40 => ("SafeNetModel", "rowIs", "[I", true)
  | 41 => ("SafeNetModel", "columnIs", "[I", true)
  | 42 => ("SafeNetModel", "foundAbove", "J", false)
  | 43 => ("SafeNetModel", "foundBelow", "J", false)
  | 44 => ("SafeNetModel", "trace", "[I", true)
  | _ => ("SafeNetModel", "traced", "I", false)
def tyX8 : Nat → FieldType := fun k => match k with
  | 0 => .int
  | 1 => .int
  | 2 => .array .int
  | 3 => .array .int
  | 4 => .array .int
  | 5 => .int
  | 6 => .int
  | 7 => .int
  | 8 => .int
  | 9 => .array .int
  | 10 => .array .int
  | 11 => .array .int
  | 12 => .array .int
  | 13 => .array .boolean
  | 14 => .array .int
  | 15 => .array .int
  | 16 => .array .int
  | 17 => .array .int
  | 18 => .array .int
  | 19 => .array .int
  | 20 => .int
  | 21 => .int
  | 22 => .int
  | 23 => .int
  | 24 => .int
  | 25 => .int
  | 26 => .int
  | 27 => .int
  | 28 => .int
  | 29 => .int
  | 30 => .int
  | 31 => .int
  | 32 => .array .int
  | 33 => .array .boolean
  | 34 => .array .int
  | 35 => .array .int
  | 36 => .int
  | 37 => .int
  | 38 => .long
  | 39 => .array .long
  | 40 => .array .int
  | 41 => .array .int
  | 42 => .long
  | 43 => .long
  | 44 => .array .int
  | _ => .int
abbrev wsX80 : List Cond := u_ws RX8 TX8 46
theorem nmX8 : ∀ a, a < 46 → ∀ b, b < 46 → a ≠ b → (TX8 a).2.1 ≠ (TX8 b).2.1 := by decide +kernel
theorem tyX8_ok : ∀ k, k < 46 → parseFieldDescriptor (TX8 k).2.2.1 = some (tyX8 k) := by decide +kernel
abbrev cX8_init : ByteArray := prog_10_method_1_code
def yX8_init : MethodName := ⟨RX8, "<init>", "()V"⟩
abbrev cX8_in : ByteArray := prog_10_method_3_code
def yX8_in : MethodName := ⟨RX8, "in", "(JJJ)Z"⟩
abbrev cX8_finding : ByteArray := prog_10_method_4_code
def yX8_finding : MethodName := ⟨RX8, "finding", "(I)I"⟩
abbrev cX8_isSheet : ByteArray := prog_10_method_5_code
def yX8_isSheet : MethodName := ⟨RX8, "isSheet", "(I)Z"⟩
abbrev cX8_sheet : ByteArray := prog_10_method_6_code
def yX8_sheet : MethodName := ⟨RX8, "sheet", "(III)I"⟩
abbrev cX8_set : ByteArray := prog_10_method_7_code
def yX8_set : MethodName := ⟨RX8, "set", "(III)I"⟩
abbrev cX8_copy : ByteArray := prog_10_method_8_code
def yX8_copy : MethodName := ⟨RX8, "copy", "(IIIII)I"⟩
abbrev cX8_drop : ByteArray := prog_10_method_9_code
def yX8_drop : MethodName := ⟨RX8, "drop", "(I)I"⟩
abbrev cX8_doubtsOf : ByteArray := prog_10_method_10_code
def yX8_doubtsOf : MethodName := ⟨RX8, "doubtsOf", "(I)I"⟩
abbrev cX8_feed : ByteArray := prog_10_method_11_code
def yX8_feed : MethodName := ⟨RX8, "feed", "(JI)I"⟩
abbrev cX8_byteAt : ByteArray := prog_10_method_12_code
def yX8_byteAt : MethodName := ⟨RX8, "byteAt", "(I)I"⟩
abbrev cX8_isLetter : ByteArray := prog_10_method_13_code
def yX8_isLetter : MethodName := ⟨RX8, "isLetter", "(I)Z"⟩
abbrev cX8_isFigure : ByteArray := prog_10_method_14_code
def yX8_isFigure : MethodName := ⟨RX8, "isFigure", "(I)Z"⟩
abbrev cX8_next : ByteArray := prog_10_method_15_code
def yX8_next : MethodName := ⟨RX8, "next", "()V"⟩
abbrev cX8_bad : ByteArray := prog_10_method_16_code
def yX8_bad : MethodName := ⟨RX8, "bad", "(I)V"⟩
abbrev cX8_must : ByteArray := prog_10_method_17_code
def yX8_must : MethodName := ⟨RX8, "must", "(Z)V"⟩
abbrev cX8_word : ByteArray := prog_10_method_18_code
def yX8_word : MethodName := ⟨RX8, "word", "()J"⟩
abbrev cX8_numberHere : ByteArray := prog_10_method_19_code
def yX8_numberHere : MethodName := ⟨RX8, "numberHere", "()I"⟩
abbrev cX8_readNode : ByteArray := prog_10_method_20_code
def yX8_readNode : MethodName := ⟨RX8, "readNode", "(J)V"⟩
abbrev cX8_isPart : ByteArray := prog_10_method_21_code
def yX8_isPart : MethodName := ⟨RX8, "isPart", "(II)Z"⟩
abbrev cX8_readStep : ByteArray := prog_10_method_22_code
def yX8_readStep : MethodName := ⟨RX8, "readStep", "()V"⟩
abbrev cX8_net : ByteArray := prog_10_method_23_code
def yX8_net : MethodName := ⟨RX8, "net", "()I"⟩
abbrev cX8_fault : ByteArray := prog_10_method_24_code
def yX8_fault : MethodName := ⟨RX8, "fault", "()I"⟩
abbrev cX8_isNode : ByteArray := prog_10_method_25_code
def yX8_isNode : MethodName := ⟨RX8, "isNode", "(I)Z"⟩
abbrev cX8_isClaim : ByteArray := prog_10_method_26_code
def yX8_isClaim : MethodName := ⟨RX8, "isClaim", "(I)Z"⟩
abbrev cX8_isLeaf : ByteArray := prog_10_method_27_code
def yX8_isLeaf : MethodName := ⟨RX8, "isLeaf", "(I)Z"⟩
abbrev cX8_isStep : ByteArray := prog_10_method_28_code
def yX8_isStep : MethodName := ⟨RX8, "isStep", "(I)Z"⟩
abbrev cX8_stands : ByteArray := prog_10_method_29_code
def yX8_stands : MethodName := ⟨RX8, "stands", "(I)Z"⟩
abbrev cX8_standing : ByteArray := prog_10_method_30_code
def yX8_standing : MethodName := ⟨RX8, "standing", "()I"⟩
abbrev cX8_isBorneUp : ByteArray := prog_10_method_31_code
def yX8_isBorneUp : MethodName := ⟨RX8, "isBorneUp", "(II)Z"⟩
abbrev cX8_openOf : ByteArray := prog_10_method_32_code
def yX8_openOf : MethodName := ⟨RX8, "openOf", "(I)I"⟩
abbrev cX8_shownBy : ByteArray := prog_10_method_33_code
def yX8_shownBy : MethodName := ⟨RX8, "shownBy", "(II)I"⟩
abbrev cX8_claims : ByteArray := prog_10_method_34_code
def yX8_claims : MethodName := ⟨RX8, "claims", "()I"⟩
abbrev cX8_shownNow : ByteArray := prog_10_method_35_code
def yX8_shownNow : MethodName := ⟨RX8, "shownNow", "()I"⟩
abbrev cX8_reachedFrom : ByteArray := prog_10_method_36_code
def yX8_reachedFrom : MethodName := ⟨RX8, "reachedFrom", "(I)I"⟩
abbrev cX8_shown : ByteArray := prog_10_method_37_code
def yX8_shown : MethodName := ⟨RX8, "shown", "(I)I"⟩
abbrev cX8_leaning : ByteArray := prog_10_method_38_code
def yX8_leaning : MethodName := ⟨RX8, "leaning", "(I)I"⟩
abbrev cX8_isFelled : ByteArray := prog_10_method_39_code
def yX8_isFelled : MethodName := ⟨RX8, "isFelled", "(II)Z"⟩
abbrev cX8_isFelling : ByteArray := prog_10_method_40_code
def yX8_isFelling : MethodName := ⟨RX8, "isFelling", "(II)Z"⟩
abbrev cX8_bits : ByteArray := prog_10_method_41_code
def yX8_bits : MethodName := ⟨RX8, "bits", "(I)I"⟩
abbrev cX8_felling : ByteArray := prog_10_method_42_code
def yX8_felling : MethodName := ⟨RX8, "felling", "(II)I"⟩
abbrev cX8_hand : ByteArray := prog_10_method_43_code
def yX8_hand : MethodName := ⟨RX8, "hand", "()I"⟩
abbrev cX8_node : ByteArray := prog_10_method_44_code
def yX8_node : MethodName := ⟨RX8, "node", "(II)I"⟩
abbrev cX8_step : ByteArray := prog_10_method_45_code
def yX8_step : MethodName := ⟨RX8, "step", "(II)I"⟩
abbrev cX8_part : ByteArray := prog_10_method_46_code
def yX8_part : MethodName := ⟨RX8, "part", "(II)I"⟩
abbrev cX8_doubt : ByteArray := prog_10_method_47_code
def yX8_doubt : MethodName := ⟨RX8, "doubt", "(III)I"⟩
abbrev cX8_borne : ByteArray := prog_10_method_48_code
def yX8_borne : MethodName := ⟨RX8, "borne", "(I)I"⟩
abbrev cX8_looked : ByteArray := prog_10_method_49_code
def yX8_looked : MethodName := ⟨RX8, "looked", "(III)I"⟩
abbrev cX8_fall : ByteArray := prog_10_method_50_code
def yX8_fall : MethodName := ⟨RX8, "fall", "(II)I"⟩
abbrev cX8_day : ByteArray := prog_10_method_51_code
def yX8_day : MethodName := ⟨RX8, "day", "(I)I"⟩
abbrev cX8_weigh : ByteArray := prog_10_method_52_code
def yX8_weigh : MethodName := ⟨RX8, "weigh", "(III)I"⟩
abbrev cX8_pair : ByteArray := prog_10_method_53_code
def yX8_pair : MethodName := ⟨RX8, "pair", "(IIII)I"⟩
abbrev cX8_unweigh : ByteArray := prog_10_method_54_code
def yX8_unweigh : MethodName := ⟨RX8, "unweigh", "()I"⟩
abbrev cX8_isOfWorld : ByteArray := prog_10_method_55_code
def yX8_isOfWorld : MethodName := ⟨RX8, "isOfWorld", "(II)Z"⟩
abbrev cX8_at : ByteArray := prog_10_method_56_code
def yX8_at : MethodName := ⟨RX8, "at", "(II)J"⟩
abbrev cX8_put : ByteArray := prog_10_method_57_code
def yX8_put : MethodName := ⟨RX8, "put", "(IIJ)V"⟩
abbrev cX8_turn : ByteArray := prog_10_method_58_code
def yX8_turn : MethodName := ⟨RX8, "turn", "(II)V"⟩
abbrev cX8_leastRow : ByteArray := prog_10_method_59_code
def yX8_leastRow : MethodName := ⟨RX8, "leastRow", "()I"⟩
abbrev cX8_leastColumn : ByteArray := prog_10_method_60_code
def yX8_leastColumn : MethodName := ⟨RX8, "leastColumn", "()I"⟩
abbrev cX8_isSolved : ByteArray := prog_10_method_61_code
def yX8_isSolved : MethodName := ⟨RX8, "isSolved", "()Z"⟩
abbrev cX8_addRow : ByteArray := prog_10_method_62_code
def yX8_addRow : MethodName := ⟨RX8, "addRow", "(III)V"⟩
abbrev cX8_find : ByteArray := prog_10_method_63_code
def yX8_find : MethodName := ⟨RX8, "find", "(III)Z"⟩
abbrev cX8_worldsOf : ByteArray := prog_10_method_64_code
def yX8_worldsOf : MethodName := ⟨RX8, "worldsOf", "(I)I"⟩
abbrev cX8_agree : ByteArray := prog_10_method_65_code
def yX8_agree : MethodName := ⟨RX8, "agree", "()I"⟩
abbrev cX8_odds : ByteArray := prog_10_method_66_code
def yX8_odds : MethodName := ⟨RX8, "odds", "(II)I"⟩
abbrev cX8_raise : ByteArray := prog_10_method_67_code
def yX8_raise : MethodName := ⟨RX8, "raise", "(I)I"⟩
abbrev cX8_partsIn : ByteArray := prog_10_method_68_code
def yX8_partsIn : MethodName := ⟨RX8, "partsIn", "(I)I"⟩
abbrev cX8_heldBy : ByteArray := prog_10_method_69_code
def yX8_heldBy : MethodName := ⟨RX8, "heldBy", "(I)I"⟩
abbrev cX8_kindOf : ByteArray := prog_10_method_70_code
def yX8_kindOf : MethodName := ⟨RX8, "kindOf", "(I)I"⟩
abbrev cX8_isOf : ByteArray := prog_10_method_71_code
def yX8_isOf : MethodName := ⟨RX8, "isOf", "(II)Z"⟩
abbrev cX8_kind : ByteArray := prog_10_method_72_code
def yX8_kind : MethodName := ⟨RX8, "kind", "(I)I"⟩
abbrev cX8_as : ByteArray := prog_10_method_73_code
def yX8_as : MethodName := ⟨RX8, "as", "(II)I"⟩
abbrev cX8_began : ByteArray := prog_10_method_74_code
def yX8_began : MethodName := ⟨RX8, "began", "(I)V"⟩
abbrev cX8_markOf : ByteArray := prog_10_method_75_code
def yX8_markOf : MethodName := ⟨RX8, "markOf", "(II)I"⟩
abbrev cX8_sizeOf : ByteArray := prog_10_method_76_code
def yX8_sizeOf : MethodName := ⟨RX8, "sizeOf", "(II)I"⟩
abbrev cX8_ask : ByteArray := prog_10_method_77_code
def yX8_ask : MethodName := ⟨RX8, "ask", "(II)I"⟩
abbrev cX8_trace : ByteArray := prog_10_method_78_code
def yX8_trace : MethodName := ⟨RX8, "trace", "(I)I"⟩
abbrev cX8_count : ByteArray := prog_10_method_79_code
def yX8_count : MethodName := ⟨RX8, "count", "(I)I"⟩
abbrev cX8_status : ByteArray := prog_10_method_80_code
def yX8_status : MethodName := ⟨RX8, "status", "()I"⟩
def RJ6 : String := "java/lang/Integer"
def TJ6 : u_T := fun k => match k with
  | _ => ("", "", "", false)
def tyJ6 : Nat → FieldType := fun k => match k with
  | _ => .int
abbrev wsJ60 : List Cond := u_ws RJ6 TJ6 0
theorem nmJ6 : ∀ a, a < 0 → ∀ b, b < 0 → a ≠ b → (TJ6 a).2.1 ≠ (TJ6 b).2.1 := by decide +kernel
theorem tyJ6_ok : ∀ k, k < 0 → parseFieldDescriptor (TJ6 k).2.2.1 = some (tyJ6 k) := by decide +kernel
abbrev cJ6_bitCount_0f7a4 : ByteArray := prog_11_method_49_code
def yJ6_bitCount_0f7a4 : MethodName := ⟨RJ6, "bitCount", "(I)I"⟩
def RJ9 : String := "java/lang/Math"
def TJ9 : u_T := fun k => match k with
  | _ => ("", "", "", false)
def tyJ9 : Nat → FieldType := fun k => match k with
  | _ => .int
abbrev wsJ90 : List Cond := u_ws RJ9 TJ9 0
theorem nmJ9 : ∀ a, a < 0 → ∀ b, b < 0 → a ≠ b → (TJ9 a).2.1 ≠ (TJ9 b).2.1 := by decide +kernel
theorem tyJ9_ok : ∀ k, k < 0 → parseFieldDescriptor (TJ9 k).2.2.1 = some (tyJ9 k) := by decide +kernel
abbrev cJ9_min_7cf53 : ByteArray := prog_12_method_69_code
def yJ9_min_7cf53 : MethodName := ⟨RJ9, "min", "(II)I"⟩
def RJ0 : String := "java/lang/String"
def TJ0 : u_T := fun k => match k with
  | _ => ("", "", "", false)
def tyJ0 : Nat → FieldType := fun k => match k with
  | _ => .int
abbrev wsJ00 : List Cond := u_ws RJ0 TJ0 0
theorem nmJ0 : ∀ a, a < 0 → ∀ b, b < 0 → a ≠ b → (TJ0 a).2.1 ≠ (TJ0 b).2.1 := by decide +kernel
theorem tyJ0_ok : ∀ k, k < 0 → parseFieldDescriptor (TJ0 k).2.2.1 = some (tyJ0 k) := by decide +kernel
abbrev cJ0_length_8abf5 : ByteArray := prog_13_method_54_code
def yJ0_length_8abf5 : MethodName := ⟨RJ0, "length", "()I"⟩
abbrev cJ0_charAt_5068e : ByteArray := prog_13_method_56_code
def yJ0_charAt_5068e : MethodName := ⟨RJ0, "charAt", "(I)C"⟩
abbrev cJ0_coder_7d493 : ByteArray := prog_13_method_152_code
def yJ0_coder_7d493 : MethodName := ⟨RJ0, "coder", "()B"⟩
abbrev cJ0_isLatin1_aae02 : ByteArray := prog_13_method_154_code
def yJ0_isLatin1_aae02 : MethodName := ⟨RJ0, "isLatin1", "()Z"⟩
abbrev cJ0_checkIndex_df160 : ByteArray := prog_13_method_155_code
def yJ0_checkIndex_df160 : MethodName := ⟨RJ0, "checkIndex", "(II)V"⟩
def RJ1 : String := "java/lang/StringLatin1"
def TJ1 : u_T := fun k => match k with
  | _ => ("", "", "", false)
def tyJ1 : Nat → FieldType := fun k => match k with
  | _ => .int
abbrev wsJ10 : List Cond := u_ws RJ1 TJ1 0
theorem nmJ1 : ∀ a, a < 0 → ∀ b, b < 0 → a ≠ b → (TJ1 a).2.1 ≠ (TJ1 b).2.1 := by decide +kernel
theorem tyJ1_ok : ∀ k, k < 0 → parseFieldDescriptor (TJ1 k).2.2.1 = some (tyJ1 k) := by decide +kernel
abbrev cJ1_charAt_3b067 : ByteArray := prog_14_method_2_code
def yJ1_charAt_3b067 : MethodName := ⟨RJ1, "charAt", "([BI)C"⟩
def RJ2 : String := "java/lang/StringUTF16"
def TJ2 : u_T := fun k => match k with
  | _ => ("", "", "", false)
def tyJ2 : Nat → FieldType := fun k => match k with
  | _ => .int
abbrev wsJ20 : List Cond := u_ws RJ2 TJ2 0
theorem nmJ2 : ∀ a, a < 0 → ∀ b, b < 0 → a ≠ b → (TJ2 a).2.1 ≠ (TJ2 b).2.1 := by decide +kernel
theorem tyJ2_ok : ∀ k, k < 0 → parseFieldDescriptor (TJ2 k).2.2.1 = some (tyJ2 k) := by decide +kernel
abbrev cJ2_getChar_3b067 : ByteArray := prog_15_method_5_code
def yJ2_getChar_3b067 : MethodName := ⟨RJ2, "getChar", "([BI)C"⟩
abbrev cJ2_length_9d52b : ByteArray := prog_15_method_6_code
def yJ2_length_9d52b : MethodName := ⟨RJ2, "length", "([B)I"⟩
abbrev cJ2_charAt_3b067 : ByteArray := prog_15_method_83_code
def yJ2_charAt_3b067 : MethodName := ⟨RJ2, "charAt", "([BI)C"⟩
abbrev cJ2_checkIndex_2214a : ByteArray := prog_15_method_91_code
def yJ2_checkIndex_2214a : MethodName := ⟨RJ2, "checkIndex", "(I[B)V"⟩
def RJ10 : String := "java/lang/System"
def TJ10 : u_T := fun k => match k with
  | _ => ("", "", "", false)
def tyJ10 : Nat → FieldType := fun k => match k with
  | _ => .int
abbrev wsJ100 : List Cond := u_ws RJ10 TJ10 0
theorem nmJ10 : ∀ a, a < 0 → ∀ b, b < 0 → a ≠ b → (TJ10 a).2.1 ≠ (TJ10 b).2.1 := by decide +kernel
theorem tyJ10_ok : ∀ k, k < 0 → parseFieldDescriptor (TJ10 k).2.2.1 = some (tyJ10 k) := by decide +kernel
def RJ3 : String := "jdk/internal/util/Preconditions"
def TJ3 : u_T := fun k => match k with
  | _ => ("", "", "", false)
def tyJ3 : Nat → FieldType := fun k => match k with
  | _ => .int
abbrev wsJ30 : List Cond := u_ws RJ3 TJ3 0
theorem nmJ3 : ∀ a, a < 0 → ∀ b, b < 0 → a ≠ b → (TJ3 a).2.1 ≠ (TJ3 b).2.1 := by decide +kernel
theorem tyJ3_ok : ∀ k, k < 0 → parseFieldDescriptor (TJ3 k).2.2.1 = some (tyJ3 k) := by decide +kernel
abbrev cJ3_checkIndex_8e157 : ByteArray := prog_17_method_11_code
def yJ3_checkIndex_8e157 : MethodName := ⟨RJ3, "checkIndex", "(IILjava/util/function/BiFunction;)I"⟩
def RL : String := "SafeNetLaw"
abbrev cL_law : ByteArray := code
def yL_law : MethodName := ⟨RL, "law", "([I)Z"⟩
abbrev vwCl : List vw_C := [(RX0, TX0, 3), (RX1, TX1, 6), (RX2, TX2, 16), (RX3, TX3, 3), (RX4, TX4, 6), (RX5, TX5, 6), (RX6, TX6, 9), (RX7, TX7, 8), (RX8, TX8, 46)]
end
section
def va_AOA (ty : FieldType) (U : State) : Prop := (Cond.arrayOver (.array ty)).before #[] U = true
theorem va_AOA.use {ty : FieldType} {A : Array Value} {U : State} (h : va_AOA ty U) : (Cond.arrayOver (.array ty)).before A U = true := h
theorem va_AOA.of {ty : FieldType} {A : Array Value} {U : State} (h : (Cond.arrayOver (.array ty)).before A U = true) : va_AOA ty U := h

/-- f, but v at every address of l -/
def vr_up {α : Type} (f : Nat → α) (l : List Nat) (v : α) : Nat → α := fun a => if a ∈ l then v else f a
theorem vr_up_in {α : Type} {f : Nat → α} {l : List Nat} {v : α} {a : Nat} (h : a ∈ l) : vr_up f l v a = v := if_pos h
theorem vr_up_ne {α : Type} {f : Nat → α} {l : List Nat} {v : α} {a : Nat} (h : a ∉ l) : vr_up f l v a = f a := if_neg h
theorem vr_rows {L l : List Nat} {f : Nat → va_E} {e : va_E} (h : ∀ a, a ∈ l → a ∉ L) : va_pl L f ++ l.map (fun a => (a, e)) = va_pl (L ++ l) (vr_up f l e) := by
  unfold va_pl
  rw [List.map_append]
  congr 1
  · apply List.map_congr_left
    intro a ha
    rw [vr_up_ne (fun q => h a q ha)]
  · apply List.map_congr_left
    intro a ha
    rw [vr_up_in ha]
theorem vr_lay {X rows : va_W} {x : Nat × va_E} {pl : va_W} {D : va_G} {cl : List vw_C} {H : Heap} (hP : va_P D cl (((X ++ pl) ++ [x]) ++ rows) H) : va_P D cl ((X ++ [x]) ++ (pl ++ rows)) H := by
  rw [List.append_assoc (X ++ pl)] at hP
  have h := va_P.swap hP
  rw [← List.append_assoc X] at h
  have h2 := va_P.swap h
  rw [List.append_assoc (X ++ [x])] at h2
  exact h2
theorem vr_layD {X rows : va_W} {x : Nat × va_E} {pl : va_W} {A : Nat → Prop} (hD : va_D A (((X ++ pl) ++ [x]) ++ rows)) : va_D A ((X ++ [x]) ++ (pl ++ rows)) := by
  rw [List.append_assoc (X ++ pl)] at hD
  have h := va_D.swap hD
  rw [← List.append_assoc X] at h
  have h2 := va_D.swap h
  rw [List.append_assoc (X ++ [x])] at h2
  exact h2
theorem vr_outer (c : ClassId) (N h0 : Nat) : ∀ i : Nat, Jvm.Free.Multi.outerC c N h0 i = arrV c N (fun j => va_rf (if j < i then some (h0 + 1 + j) else none))
  | 0 => by
    show ({ cls := c, slots := Array.replicate N .null, vm := .none } : Cell) = _
    rw [arrV_new]
    refine congrArg (arrV c N) (funext fun j => ?_)
    simp [va_rf]
  | i + 1 => by
    show (Jvm.Free.Multi.outerC c N h0 i).setSlot i (.ref (h0 + 1 + i)) = _
    rw [vr_outer c N h0 i, arrV_store]
    refine congrArg (arrV c N) (funext fun j => ?_)
    by_cases e : j = i
    · subst e
      simp [updV, va_rf]
    · by_cases h : j < i
      · simp [updV, e, h, Nat.lt_succ_of_lt h]
      · simp [updV, e, h, show ¬ j < i + 1 by omega]
section VGM
variable {p : Program} {l : Launch} {e : Env} {R : Room} {s : State} {m : MethodId} {args : Array Value} {below : List Frame} {meth : Method} {c : Code} {H : Heap} {locs : List Loc} {cells slots : Nat} {Q : State → Prop}
variable {cc : ByteArray} {pc : Nat} {ls : Array Slot} {rest : List Value} {D : va_G} {cl : List vw_C} {A : Nat → Prop} {a : Nat} {tys : List (ClassId × FieldType)} {ws : va_W} {H0 : Heap}
theorem va_mna {X : va_W} {L : List Nat} {f : Nat → va_E} {cc : ByteArray} (hexec : p.tables.exec = Jvm.exec) (hb : c.code = cc) {own : String} {index : Nat} {ty : FieldType} {cy : ClassId} (hown : s.vm.findClass own = some m.cls) (hclink : (Cond.classLink own index ("[" ++ (FieldType.array ty).toString)).before args s = true) (hover : va_AOA ty s) (harr : (Cond.arrayClass ty).before args s = true) (hcy : s.vm.findClass (FieldType.array ty).toString = some cy)
    (hK : va_K D cl tys s) (hP : va_P D cl (X ++ va_pl L f) H) (hD : va_D A (X ++ va_pl L f)) (hS : va_S A H0 H locs) (hA : ∀ q, H0.size ≤ q → A q) {n k : Int32} {N' K' : Nat} {z : vp_A} (hn : ¬ n < 0) (hk : ¬ k < 0) (hN : n.toNatClampNeg = N') (hM : k.toNatClampNeg = K')
    (hb1 : N' * 4 ≤ 536870912) (hb2 : K' * componentBytes ty ≤ 536870912) (hb3 : K' ≤ 536870912) (hdf : fits ty (defaultValue ty) = true) (hdd : (defaultValue ty).isDefault = true) (hcells : cells + (1 + N') ≤ R.cells) (hslots : slots + (N' + N' * K') ≤ R.slots) (hz : ∀ c : ClassId, Jvm.Free.Multi.innerC c K' (defaultValue ty) = vp_cell c z) (hdg : decode cc pc = .ok (.multianewarray index 2, 4))
    (kk : ∀ (q : Nat) (r : Nat → Nat) (cA : ClassId) (H1 : Heap), (∀ i j : Nat, i < N' → j < N' → r i = r j → i = j) → (∀ i : Nat, i < N' → r i ∉ L) → va_K D cl (tys ++ [(cA, .array ty)]) s →
      va_P D cl ((X ++ [(q, .inl (cA, N', .inr (.inr (.inr (.inr (fun i => if i < N' then some (r i) else none))))))]) ++ va_pl (L ++ (List.range N').map r) (vr_up f ((List.range N').map r) (.inl (cy, z)))) H1 → va_D A ((X ++ [(q, .inl (cA, N', .inr (.inr (.inr (.inr (fun i => if i < N' then some (r i) else none))))))]) ++ va_pl (L ++ (List.range N').map r) (vr_up f ((List.range N').map r) (.inl (cy, z)))) → va_S A H0 H1 locs →
      W p l e R s m args below meth c H1 locs (cells + 1 + N') (slots + N' + N' * K') Q (F0 m (pc + 4) ls (.ref q :: rest))) : W p l e R s m args below meth c H locs cells slots Q (F0 m pc ls (.int k :: .int n :: rest)) := by
  subst hN
  subst hM
  intro T hT Xs
  obtain ⟨vm₁, cA, comp, -, fA, fC, hO, -, X', step⟩ := Xs.multianewarray2F hexec hown hclink (va_AOA.use hover) harr (g := F0 m pc ls (.int k :: .int n :: rest)) rfl (by rw [hb]; exact hdg) rfl hn hk hb1 hb2 hb3 hdf hdd hcells hslots
  have ec : some cy = some comp := hcy.symm.trans fC
  cases ec
  generalize hF : Jvm.Free.Multi.fill (T.setVm vm₁) cA cy n.toNatClampNeg k.toNatClampNeg (defaultValue ty) n.toNatClampNeg = F at X' step
  have hTh : (T.setVm vm₁).heap = H := hT
  obtain ⟨f1, f2, -, -⟩ := Jvm.Free.Multi.fill_facts (T.setVm vm₁) cA cy n.toNatClampNeg k.toNatClampNeg (defaultValue ty) n.toNatClampNeg
  rw [hF, hTh] at f1 f2
  have hold : ∀ x : Nat, x < H.size → F.heap[x]? = H[x]? := fun x hx => by
    have := Jvm.Free.Multi.fill_old (T.setVm vm₁) cA cy n.toNatClampNeg k.toNatClampNeg (defaultValue ty) (a := x) (by rw [hTh]; exact hx) n.toNatClampNeg
    rw [hF, hTh] at this
    exact this
  have hrow : ∀ j : Nat, j < n.toNatClampNeg → F.heap[H.size + 1 + j]? = some (vp_cell cy z) := fun j hj => by
    have := Jvm.Free.Multi.fill_inner (T.setVm vm₁) cA cy n.toNatClampNeg k.toNatClampNeg (defaultValue ty) n.toNatClampNeg j hj
    rw [hF, hTh, hz] at this
    exact this
  have hout : Jvm.Free.Multi.outerC cA n.toNatClampNeg H.size n.toNatClampNeg = vp_cell cA (n.toNatClampNeg, .inr (.inr (.inr (.inr (fun i => if i < n.toNatClampNeg then some (H.size + 1 + i) else none))))) := by
    rw [vp_cell_q]
    exact vr_outer cA n.toNatClampNeg H.size n.toNatClampNeg
  rw [hout] at f2
  have hlt : ∀ a, a ∈ L → a < H.size := fun a ha => by
    obtain ⟨k9, hk9⟩ := va_pl_get (X := X) (f := f) ha
    exact (hP k9 _ hk9).lt
  have hnl : ∀ i : Nat, i < n.toNatClampNeg → H.size + 1 + i ∉ L := fun i _ h => by
    have := hlt _ h
    omega
  have hnm : ∀ a, a ∈ (List.range n.toNatClampNeg).map (fun i => H.size + 1 + i) → a ∉ L := fun a ha h => by
    obtain ⟨i, -, rfl⟩ := List.mem_map.mp ha
    have := hlt _ h
    omega
  have hP0 : va_P D cl (X ++ va_pl L f) F.heap := hP.kept (fun k9 x hx => hold x.1 ((hP k9 x hx).lt))
  have hP1 : va_P D cl ((X ++ va_pl L f) ++ [(H.size, .inl (cA, n.toNatClampNeg, .inr (.inr (.inr (.inr (fun i => if i < n.toNatClampNeg then some (H.size + 1 + i) else none))))))]) F.heap := hP0.app (fun k9 x hx => by
    have h0 : k9 < 1 := (List.getElem?_eq_some_iff.mp hx).1
    rw [show k9 = 0 by omega] at hx
    cases hx
    exact f2)
  have hP2 : va_P D cl (((X ++ va_pl L f) ++ [(H.size, .inl (cA, n.toNatClampNeg, .inr (.inr (.inr (.inr (fun i => if i < n.toNatClampNeg then some (H.size + 1 + i) else none))))))]) ++ ((List.range n.toNatClampNeg).map (fun i => H.size + 1 + i)).map (fun a => (a, .inl (cy, z)))) F.heap := hP1.app (fun k9 x hx => by
    obtain ⟨a, ha, rfl⟩ := List.mem_map.mp (List.mem_of_getElem? hx)
    obtain ⟨i, hi, rfl⟩ := List.mem_map.mp ha
    exact hrow i (List.mem_range.mp hi))
  have hD2 : va_D A (((X ++ va_pl L f) ++ [(H.size, .inl (cA, n.toNatClampNeg, .inr (.inr (.inr (.inr (fun i => if i < n.toNatClampNeg then some (H.size + 1 + i) else none))))))]) ++ ((List.range n.toNatClampNeg).map (fun i => H.size + 1 + i)).map (fun a => (a, .inl (cy, z)))) := by
    have hD1 := hD.push (e := .inl (cA, n.toNatClampNeg, .inr (.inr (.inr (.inr (fun i => if i < n.toNatClampNeg then some (H.size + 1 + i) else none)))))) hP rfl (hA _ hS.1)
    generalize hW1 : (X ++ va_pl L f) ++ [(H.size, .inl (cA, n.toNatClampNeg, .inr (.inr (.inr (.inr (fun i => if i < n.toNatClampNeg then some (H.size + 1 + i) else none))))))] = W1 at hD1 hP1 ⊢
    have hle : ∀ (k9 : Nat) (x : Nat × va_E), W1[k9]? = some x → x.1 ≤ H.size := fun k9 x hx => by
      rw [← hW1] at hx
      by_cases hl : k9 < (X ++ va_pl L f).length
      · rw [List.getElem?_append_left hl] at hx
        exact Nat.le_of_lt ((hP k9 x hx).lt)
      · rw [List.getElem?_append_right (by omega)] at hx
        have h0 : k9 - (X ++ va_pl L f).length < 1 := (List.getElem?_eq_some_iff.mp hx).1
        rw [show k9 - (X ++ va_pl L f).length = 0 by omega] at hx
        cases hx
        exact Nat.le_refl _
    have hr : ∀ (k9 : Nat) (x : Nat × va_E), (((List.range n.toNatClampNeg).map (fun i => H.size + 1 + i)).map (fun a => ((a, .inl (cy, z)) : Nat × va_E)))[k9]? = some x → x.1 = H.size + 1 + k9 := fun k9 x hx => by
      rw [List.getElem?_map, List.getElem?_map] at hx
      by_cases h9 : k9 < n.toNatClampNeg
      · rw [List.getElem?_range h9] at hx
        cases hx
        rfl
      · have hn0 : (List.range n.toNatClampNeg)[k9]? = none := List.getElem?_eq_none (by rw [List.length_range]; omega)
        rw [hn0] at hx
        cases hx
    refine ⟨fun i j x y hi hj hxy => ?_, fun k9 x hx => ?_⟩
    · by_cases h1 : i < W1.length <;> by_cases h2 : j < W1.length
      · rw [List.getElem?_append_left h1] at hi
        rw [List.getElem?_append_left h2] at hj
        exact hD1.1 i j x y hi hj hxy
      · rw [List.getElem?_append_left h1] at hi
        rw [List.getElem?_append_right (by omega)] at hj
        have := hle _ _ hi
        have := hr _ _ hj
        omega
      · rw [List.getElem?_append_right (by omega)] at hi
        rw [List.getElem?_append_left h2] at hj
        have := hle _ _ hj
        have := hr _ _ hi
        omega
      · rw [List.getElem?_append_right (by omega)] at hi hj
        have := hr _ _ hi
        have := hr _ _ hj
        omega
    · by_cases h1 : k9 < W1.length
      · rw [List.getElem?_append_left h1] at hx
        exact hD1.2 k9 x hx
      · rw [List.getElem?_append_right (by omega)] at hx
        have := hr _ _ hx
        exact hA _ (by have := hS.1; omega)
  have hAr : ArrOfT s cA (.array ty) := fun N9 z9 => by
    obtain ⟨-, k9, hk9, cm9, hkk9⟩ := (hO 0 0 0).1
    exact ⟨(fun q hq => by cases hq), k9, hk9, cm9, hkk9⟩
  have hK2 : va_K D cl (tys ++ [(cA, .array ty)]) s := ⟨hK.1, fun k9 x hx => by
    by_cases hl : k9 < tys.length
    · rw [List.getElem?_append_left hl] at hx
      exact hK.2 k9 x hx
    · rw [List.getElem?_append_right (by omega)] at hx
      have h0 : k9 - tys.length < 1 := (List.getElem?_eq_some_iff.mp hx).1
      rw [show k9 - tys.length = 0 by omega] at hx
      cases hx
      exact ⟨hAr, fA⟩⟩
  obtain ⟨t, a1, b1⟩ := kk H.size (fun i => H.size + 1 + i) cA F.heap (fun i j _ _ h => by have h9 : H.size + 1 + i = H.size + 1 + j := h; omega) hnl hK2 (by rw [← vr_rows hnm]; exact vr_lay hP2) (by rw [← vr_rows hnm]; exact vr_layD hD2) ⟨by rw [f1]; have := hS.1; omega, fun x h1 h2 => (hold x (Nat.lt_of_lt_of_le h1 hS.1)).trans (hS.2.1 x h1 h2), hS.2.2⟩ F rfl X'
  refine ⟨t, step t ?_, b1⟩
  have e : T.heap.size = H.size := by rw [hT]
  rw [e]
  exact a1
end VGM
end
section
theorem dX0_init_0 : decode cX0_init 0 = .ok (.aload_n 0, 1) := by decide +kernel
theorem dX0_init_1 : decode cX0_init 1 = .ok (.invokespecial 3, 3) := by decide +kernel
theorem dX0_init_4 : decode cX0_init 4 = .ok (.aload_n 0, 1) := by decide +kernel
theorem dX0_init_5 : decode cX0_init 5 = .ok (.bipush 16, 2) := by decide +kernel
theorem dX0_init_7 : decode cX0_init 7 = .ok (.newarray .int, 2) := by decide +kernel
theorem dX0_init_9 : decode cX0_init 9 = .ok (.putfield 11, 3) := by decide +kernel
theorem dX0_init_12 : decode cX0_init 12 = .ok (.return_, 1) := by decide +kernel
theorem dX0_start_0 : decode cX0_start 0 = .ok (.aload_n 0, 1) := by decide +kernel
theorem dX0_start_1 : decode cX0_start 1 = .ok (.iconst 0, 1) := by decide +kernel
theorem dX0_start_2 : decode cX0_start 2 = .ok (.putfield 15, 3) := by decide +kernel
theorem dX0_start_5 : decode cX0_start 5 = .ok (.aload_n 0, 1) := by decide +kernel
theorem dX0_start_6 : decode cX0_start 6 = .ok (.iload_n 1, 1) := by decide +kernel
theorem dX0_start_7 : decode cX0_start 7 = .ok (.putfield 19, 3) := by decide +kernel
theorem dX0_start_10 : decode cX0_start 10 = .ok (.return_, 1) := by decide +kernel
theorem dX0_begin_0 : decode cX0_begin 0 = .ok (.aload_n 0, 1) := by decide +kernel
theorem dX0_begin_1 : decode cX0_begin 1 = .ok (.getfield 15, 3) := by decide +kernel
theorem dX0_begin_4 : decode cX0_begin 4 = .ok (.bipush 16, 2) := by decide +kernel
theorem dX0_begin_6 : decode cX0_begin 6 = .ok (.if_icmp .lt 4, 3) := by decide +kernel
theorem dX0_begin_9 : decode cX0_begin 9 = .ok (.return_, 1) := by decide +kernel
theorem dX0_begin_10 : decode cX0_begin 10 = .ok (.aload_n 0, 1) := by decide +kernel
theorem dX0_begin_11 : decode cX0_begin 11 = .ok (.getfield 11, 3) := by decide +kernel
theorem dX0_begin_14 : decode cX0_begin 14 = .ok (.aload_n 0, 1) := by decide +kernel
theorem dX0_begin_15 : decode cX0_begin 15 = .ok (.getfield 15, 3) := by decide +kernel
theorem dX0_begin_18 : decode cX0_begin 18 = .ok (.iload_n 1, 1) := by decide +kernel
theorem dX0_begin_19 : decode cX0_begin 19 = .ok (.iastore, 1) := by decide +kernel
theorem dX0_begin_20 : decode cX0_begin 20 = .ok (.aload_n 0, 1) := by decide +kernel
theorem dX0_begin_21 : decode cX0_begin 21 = .ok (.dup, 1) := by decide +kernel
theorem dX0_begin_22 : decode cX0_begin 22 = .ok (.getfield 15, 3) := by decide +kernel
theorem dX0_begin_25 : decode cX0_begin 25 = .ok (.iconst 1, 1) := by decide +kernel
theorem dX0_begin_26 : decode cX0_begin 26 = .ok (.iadd, 1) := by decide +kernel
theorem dX0_begin_27 : decode cX0_begin 27 = .ok (.putfield 15, 3) := by decide +kernel
theorem dX0_begin_30 : decode cX0_begin 30 = .ok (.return_, 1) := by decide +kernel
theorem dX0_size_0 : decode cX0_size 0 = .ok (.aload_n 1, 1) := by decide +kernel
theorem dX0_size_1 : decode cX0_size 1 = .ok (.iload_n 2, 1) := by decide +kernel
theorem dX0_size_2 : decode cX0_size 2 = .ok (.invokevirtual 22, 3) := by decide +kernel
theorem dX0_size_5 : decode cX0_size 5 = .ok (.tableswitch 70 1 5 #[35, 42, 49, 56, 63], 35) := by decide +kernel
theorem dX0_size_40 : decode cX0_size 40 = .ok (.aload_n 0, 1) := by decide +kernel
theorem dX0_size_41 : decode cX0_size 41 = .ok (.aload_n 1, 1) := by decide +kernel
theorem dX0_size_42 : decode cX0_size 42 = .ok (.iload_n 2, 1) := by decide +kernel
theorem dX0_size_43 : decode cX0_size 43 = .ok (.invokevirtual 28, 3) := by decide +kernel
theorem dX0_size_46 : decode cX0_size 46 = .ok (.ireturn, 1) := by decide +kernel
theorem dX0_size_47 : decode cX0_size 47 = .ok (.aload_n 0, 1) := by decide +kernel
theorem dX0_size_48 : decode cX0_size 48 = .ok (.aload_n 1, 1) := by decide +kernel
theorem dX0_size_49 : decode cX0_size 49 = .ok (.iload_n 2, 1) := by decide +kernel
theorem dX0_size_50 : decode cX0_size 50 = .ok (.invokevirtual 32, 3) := by decide +kernel
theorem dX0_size_53 : decode cX0_size 53 = .ok (.ireturn, 1) := by decide +kernel
theorem dX0_size_54 : decode cX0_size 54 = .ok (.aload_n 0, 1) := by decide +kernel
theorem dX0_size_55 : decode cX0_size 55 = .ok (.aload_n 1, 1) := by decide +kernel
theorem dX0_size_56 : decode cX0_size 56 = .ok (.iload_n 2, 1) := by decide +kernel
theorem dX0_size_57 : decode cX0_size 57 = .ok (.invokevirtual 35, 3) := by decide +kernel
theorem dX0_size_60 : decode cX0_size 60 = .ok (.ireturn, 1) := by decide +kernel
theorem dX0_size_61 : decode cX0_size 61 = .ok (.aload_n 0, 1) := by decide +kernel
theorem dX0_size_62 : decode cX0_size 62 = .ok (.aload_n 1, 1) := by decide +kernel
theorem dX0_size_63 : decode cX0_size 63 = .ok (.iload_n 2, 1) := by decide +kernel
theorem dX0_size_64 : decode cX0_size 64 = .ok (.invokevirtual 38, 3) := by decide +kernel
theorem dX0_size_67 : decode cX0_size 67 = .ok (.ireturn, 1) := by decide +kernel
theorem dX0_size_68 : decode cX0_size 68 = .ok (.aload_n 0, 1) := by decide +kernel
theorem dX0_size_69 : decode cX0_size 69 = .ok (.aload_n 1, 1) := by decide +kernel
theorem dX0_size_70 : decode cX0_size 70 = .ok (.iload_n 2, 1) := by decide +kernel
theorem dX0_size_71 : decode cX0_size 71 = .ok (.invokevirtual 41, 3) := by decide +kernel
theorem dX0_size_74 : decode cX0_size 74 = .ok (.ireturn, 1) := by decide +kernel
theorem dX0_size_75 : decode cX0_size 75 = .ok (.aload_n 0, 1) := by decide +kernel
theorem dX0_size_76 : decode cX0_size 76 = .ok (.aload_n 1, 1) := by decide +kernel
theorem dX0_size_77 : decode cX0_size 77 = .ok (.iload_n 2, 1) := by decide +kernel
theorem dX0_size_78 : decode cX0_size 78 = .ok (.invokevirtual 44, 3) := by decide +kernel
theorem dX0_size_81 : decode cX0_size 81 = .ok (.ireturn, 1) := by decide +kernel
theorem dX0_mark_0 : decode cX0_mark 0 = .ok (.aload_n 1, 1) := by decide +kernel
theorem dX0_mark_1 : decode cX0_mark 1 = .ok (.iload_n 2, 1) := by decide +kernel
theorem dX0_mark_2 : decode cX0_mark 2 = .ok (.invokevirtual 22, 3) := by decide +kernel
theorem dX0_mark_5 : decode cX0_mark 5 = .ok (.tableswitch 40 3 5 #[27, 27, 33], 27) := by decide +kernel
theorem dX0_mark_32 : decode cX0_mark 32 = .ok (.aload_n 0, 1) := by decide +kernel
theorem dX0_mark_33 : decode cX0_mark 33 = .ok (.iload_n 2, 1) := by decide +kernel
theorem dX0_mark_34 : decode cX0_mark 34 = .ok (.invokevirtual 47, 3) := by decide +kernel
theorem dX0_mark_37 : decode cX0_mark 37 = .ok (.ireturn, 1) := by decide +kernel
theorem dX0_mark_38 : decode cX0_mark 38 = .ok (.aload_n 0, 1) := by decide +kernel
theorem dX0_mark_39 : decode cX0_mark 39 = .ok (.aload_n 1, 1) := by decide +kernel
theorem dX0_mark_40 : decode cX0_mark 40 = .ok (.iload_n 2, 1) := by decide +kernel
theorem dX0_mark_41 : decode cX0_mark 41 = .ok (.invokevirtual 50, 3) := by decide +kernel
theorem dX0_mark_44 : decode cX0_mark 44 = .ok (.ireturn, 1) := by decide +kernel
theorem dX0_mark_45 : decode cX0_mark 45 = .ok (.aload_n 0, 1) := by decide +kernel
theorem dX0_mark_46 : decode cX0_mark 46 = .ok (.iload_n 2, 1) := by decide +kernel
theorem dX0_mark_47 : decode cX0_mark 47 = .ok (.invokevirtual 53, 3) := by decide +kernel
theorem dX0_mark_50 : decode cX0_mark 50 = .ok (.ireturn, 1) := by decide +kernel
theorem dX0_size10_0 : decode cX0_size10 0 = .ok (.aload_n 0, 1) := by decide +kernel
theorem dX0_size10_1 : decode cX0_size10 1 = .ok (.bipush 10, 2) := by decide +kernel
theorem dX0_size10_3 : decode cX0_size10 3 = .ok (.invokevirtual 56, 3) := by decide +kernel
theorem dX0_size10_6 : decode cX0_size10 6 = .ok (.aload_n 1, 1) := by decide +kernel
theorem dX0_size10_7 : decode cX0_size10 7 = .ok (.iload_n 2, 1) := by decide +kernel
theorem dX0_size10_8 : decode cX0_size10 8 = .ok (.invokevirtual 60, 3) := by decide +kernel
theorem dX0_size10_11 : decode cX0_size10 11 = .ok (.ireturn, 1) := by decide +kernel
theorem dX0_size11_0 : decode cX0_size11 0 = .ok (.aload_n 0, 1) := by decide +kernel
theorem dX0_size11_1 : decode cX0_size11 1 = .ok (.bipush 11, 2) := by decide +kernel
theorem dX0_size11_3 : decode cX0_size11 3 = .ok (.invokevirtual 56, 3) := by decide +kernel
theorem dX0_size11_6 : decode cX0_size11 6 = .ok (.aload_n 0, 1) := by decide +kernel
theorem dX0_size11_7 : decode cX0_size11 7 = .ok (.aload_n 1, 1) := by decide +kernel
theorem dX0_size11_8 : decode cX0_size11 8 = .ok (.iload_n 2, 1) := by decide +kernel
theorem dX0_size11_9 : decode cX0_size11 9 = .ok (.invokevirtual 44, 3) := by decide +kernel
theorem dX0_size11_12 : decode cX0_size11 12 = .ok (.aload_n 1, 1) := by decide +kernel
theorem dX0_size11_13 : decode cX0_size11 13 = .ok (.getfield 63, 3) := by decide +kernel
theorem dX0_size11_16 : decode cX0_size11 16 = .ok (.iload_n 2, 1) := by decide +kernel
theorem dX0_size11_17 : decode cX0_size11 17 = .ok (.iaload, 1) := by decide +kernel
theorem dX0_size11_18 : decode cX0_size11 18 = .ok (.iadd, 1) := by decide +kernel
theorem dX0_size11_19 : decode cX0_size11 19 = .ok (.ireturn, 1) := by decide +kernel
theorem dX0_size12_0 : decode cX0_size12 0 = .ok (.aload_n 0, 1) := by decide +kernel
theorem dX0_size12_1 : decode cX0_size12 1 = .ok (.bipush 12, 2) := by decide +kernel
theorem dX0_size12_3 : decode cX0_size12 3 = .ok (.invokevirtual 56, 3) := by decide +kernel
theorem dX0_size12_6 : decode cX0_size12 6 = .ok (.iconst 2, 1) := by decide +kernel
theorem dX0_size12_7 : decode cX0_size12 7 = .ok (.aload_n 0, 1) := by decide +kernel
theorem dX0_size12_8 : decode cX0_size12 8 = .ok (.aload_n 1, 1) := by decide +kernel
theorem dX0_size12_9 : decode cX0_size12 9 = .ok (.iload_n 2, 1) := by decide +kernel
theorem dX0_size12_10 : decode cX0_size12 10 = .ok (.invokevirtual 28, 3) := by decide +kernel
theorem dX0_size12_13 : decode cX0_size12 13 = .ok (.imul, 1) := by decide +kernel
theorem dX0_size12_14 : decode cX0_size12 14 = .ok (.ireturn, 1) := by decide +kernel
theorem dX0_size13_0 : decode cX0_size13 0 = .ok (.aload_n 0, 1) := by decide +kernel
theorem dX0_size13_1 : decode cX0_size13 1 = .ok (.bipush 13, 2) := by decide +kernel
theorem dX0_size13_3 : decode cX0_size13 3 = .ok (.invokevirtual 56, 3) := by decide +kernel
theorem dX0_size13_6 : decode cX0_size13 6 = .ok (.aload_n 0, 1) := by decide +kernel
theorem dX0_size13_7 : decode cX0_size13 7 = .ok (.aload_n 1, 1) := by decide +kernel
theorem dX0_size13_8 : decode cX0_size13 8 = .ok (.iload_n 2, 1) := by decide +kernel
theorem dX0_size13_9 : decode cX0_size13 9 = .ok (.invokevirtual 44, 3) := by decide +kernel
theorem dX0_size13_12 : decode cX0_size13 12 = .ok (.aload_n 0, 1) := by decide +kernel
theorem dX0_size13_13 : decode cX0_size13 13 = .ok (.aload_n 1, 1) := by decide +kernel
theorem dX0_size13_14 : decode cX0_size13 14 = .ok (.iload_n 2, 1) := by decide +kernel
theorem dX0_size13_15 : decode cX0_size13 15 = .ok (.invokevirtual 66, 3) := by decide +kernel
theorem dX0_size13_18 : decode cX0_size13 18 = .ok (.iadd, 1) := by decide +kernel
theorem dX0_size13_19 : decode cX0_size13 19 = .ok (.ireturn, 1) := by decide +kernel
theorem dX0_size14_0 : decode cX0_size14 0 = .ok (.aload_n 0, 1) := by decide +kernel
theorem dX0_size14_1 : decode cX0_size14 1 = .ok (.bipush 14, 2) := by decide +kernel
theorem dX0_size14_3 : decode cX0_size14 3 = .ok (.invokevirtual 56, 3) := by decide +kernel
theorem dX0_size14_6 : decode cX0_size14 6 = .ok (.aload_n 0, 1) := by decide +kernel
theorem dX0_size14_7 : decode cX0_size14 7 = .ok (.aload_n 1, 1) := by decide +kernel
theorem dX0_size14_8 : decode cX0_size14 8 = .ok (.iload_n 2, 1) := by decide +kernel
theorem dX0_size14_9 : decode cX0_size14 9 = .ok (.invokevirtual 35, 3) := by decide +kernel
theorem dX0_size14_12 : decode cX0_size14 12 = .ok (.aload_n 1, 1) := by decide +kernel
theorem dX0_size14_13 : decode cX0_size14 13 = .ok (.iload_n 2, 1) := by decide +kernel
theorem dX0_size14_14 : decode cX0_size14 14 = .ok (.invokevirtual 69, 3) := by decide +kernel
theorem dX0_size14_17 : decode cX0_size14 17 = .ok (.iadd, 1) := by decide +kernel
theorem dX0_size14_18 : decode cX0_size14 18 = .ok (.ireturn, 1) := by decide +kernel
theorem dX0_size15_0 : decode cX0_size15 0 = .ok (.aload_n 0, 1) := by decide +kernel
theorem dX0_size15_1 : decode cX0_size15 1 = .ok (.bipush 15, 2) := by decide +kernel
theorem dX0_size15_3 : decode cX0_size15 3 = .ok (.invokevirtual 56, 3) := by decide +kernel
theorem dX0_size15_6 : decode cX0_size15 6 = .ok (.aload_n 0, 1) := by decide +kernel
theorem dX0_size15_7 : decode cX0_size15 7 = .ok (.aload_n 1, 1) := by decide +kernel
theorem dX0_size15_8 : decode cX0_size15 8 = .ok (.iload_n 2, 1) := by decide +kernel
theorem dX0_size15_9 : decode cX0_size15 9 = .ok (.invokevirtual 28, 3) := by decide +kernel
theorem dX0_size15_12 : decode cX0_size15 12 = .ok (.ineg, 1) := by decide +kernel
theorem dX0_size15_13 : decode cX0_size15 13 = .ok (.ireturn, 1) := by decide +kernel
theorem dX0_mark20_0 : decode cX0_mark20 0 = .ok (.aload_n 0, 1) := by decide +kernel
theorem dX0_mark20_1 : decode cX0_mark20 1 = .ok (.bipush 20, 2) := by decide +kernel
theorem dX0_mark20_3 : decode cX0_mark20 3 = .ok (.invokevirtual 56, 3) := by decide +kernel
theorem dX0_mark20_6 : decode cX0_mark20 6 = .ok (.iload_n 1, 1) := by decide +kernel
theorem dX0_mark20_7 : decode cX0_mark20 7 = .ok (.ireturn, 1) := by decide +kernel
theorem dX0_mark21_0 : decode cX0_mark21 0 = .ok (.aload_n 0, 1) := by decide +kernel
theorem dX0_mark21_1 : decode cX0_mark21 1 = .ok (.bipush 21, 2) := by decide +kernel
theorem dX0_mark21_3 : decode cX0_mark21 3 = .ok (.invokevirtual 56, 3) := by decide +kernel
theorem dX0_mark21_6 : decode cX0_mark21 6 = .ok (.aload_n 0, 1) := by decide +kernel
theorem dX0_mark21_7 : decode cX0_mark21 7 = .ok (.iload_n 1, 1) := by decide +kernel
theorem dX0_mark21_8 : decode cX0_mark21 8 = .ok (.invokevirtual 53, 3) := by decide +kernel
theorem dX0_mark21_11 : decode cX0_mark21 11 = .ok (.bipush 100, 2) := by decide +kernel
theorem dX0_mark21_13 : decode cX0_mark21 13 = .ok (.aload_n 0, 1) := by decide +kernel
theorem dX0_mark21_14 : decode cX0_mark21 14 = .ok (.getfield 19, 3) := by decide +kernel
theorem dX0_mark21_17 : decode cX0_mark21 17 = .ok (.iload_n 1, 1) := by decide +kernel
theorem dX0_mark21_18 : decode cX0_mark21 18 = .ok (.invokestatic 72, 3) := by decide +kernel
theorem dX0_mark21_21 : decode cX0_mark21 21 = .ok (.imul, 1) := by decide +kernel
theorem dX0_mark21_22 : decode cX0_mark21 22 = .ok (.iadd, 1) := by decide +kernel
theorem dX0_mark21_23 : decode cX0_mark21 23 = .ok (.ireturn, 1) := by decide +kernel
theorem dX0_mark22_0 : decode cX0_mark22 0 = .ok (.aload_n 0, 1) := by decide +kernel
theorem dX0_mark22_1 : decode cX0_mark22 1 = .ok (.bipush 22, 2) := by decide +kernel
theorem dX0_mark22_3 : decode cX0_mark22 3 = .ok (.invokevirtual 56, 3) := by decide +kernel
theorem dX0_mark22_6 : decode cX0_mark22 6 = .ok (.aload_n 0, 1) := by decide +kernel
theorem dX0_mark22_7 : decode cX0_mark22 7 = .ok (.iload_n 2, 1) := by decide +kernel
theorem dX0_mark22_8 : decode cX0_mark22 8 = .ok (.invokevirtual 53, 3) := by decide +kernel
theorem dX0_mark22_11 : decode cX0_mark22 11 = .ok (.aload_n 1, 1) := by decide +kernel
theorem dX0_mark22_12 : decode cX0_mark22 12 = .ok (.getfield 76, 3) := by decide +kernel
theorem dX0_mark22_15 : decode cX0_mark22 15 = .ok (.iadd, 1) := by decide +kernel
theorem dX0_mark22_16 : decode cX0_mark22 16 = .ok (.ireturn, 1) := by decide +kernel
theorem dX1_init_0 : decode cX1_init 0 = .ok (.aload_n 0, 1) := by decide +kernel
theorem dX1_init_1 : decode cX1_init 1 = .ok (.invokespecial 3, 3) := by decide +kernel
theorem dX1_init_4 : decode cX1_init 4 = .ok (.aload_n 0, 1) := by decide +kernel
theorem dX1_init_5 : decode cX1_init 5 = .ok (.bipush 20, 2) := by decide +kernel
theorem dX1_init_7 : decode cX1_init 7 = .ok (.newarray .int, 2) := by decide +kernel
theorem dX1_init_9 : decode cX1_init 9 = .ok (.putfield 9, 3) := by decide +kernel
theorem dX1_init_12 : decode cX1_init 12 = .ok (.return_, 1) := by decide +kernel
theorem dX1_seek_0 : decode cX1_seek 0 = .ok (.aload_n 0, 1) := by decide +kernel
theorem dX1_seek_1 : decode cX1_seek 1 = .ok (.iload_n 2, 1) := by decide +kernel
theorem dX1_seek_2 : decode cX1_seek 2 = .ok (.putfield 15, 3) := by decide +kernel
theorem dX1_seek_5 : decode cX1_seek 5 = .ok (.aload_n 0, 1) := by decide +kernel
theorem dX1_seek_6 : decode cX1_seek 6 = .ok (.aload_n 1, 1) := by decide +kernel
theorem dX1_seek_7 : decode cX1_seek 7 = .ok (.invokevirtual 19, 3) := by decide +kernel
theorem dX1_seek_10 : decode cX1_seek 10 = .ok (.putfield 25, 3) := by decide +kernel
theorem dX1_seek_13 : decode cX1_seek 13 = .ok (.aload_n 0, 1) := by decide +kernel
theorem dX1_seek_14 : decode cX1_seek 14 = .ok (.iload_n 3, 1) := by decide +kernel
theorem dX1_seek_15 : decode cX1_seek 15 = .ok (.putfield 27, 3) := by decide +kernel
theorem dX1_seek_18 : decode cX1_seek 18 = .ok (.aload_n 0, 1) := by decide +kernel
theorem dX1_seek_19 : decode cX1_seek 19 = .ok (.iconst 0, 1) := by decide +kernel
theorem dX1_seek_20 : decode cX1_seek 20 = .ok (.putfield 30, 3) := by decide +kernel
theorem dX1_seek_23 : decode cX1_seek 23 = .ok (.aload_n 0, 1) := by decide +kernel
theorem dX1_seek_24 : decode cX1_seek 24 = .ok (.ldc 33, 2) := by decide +kernel
theorem dX1_seek_26 : decode cX1_seek 26 = .ok (.putfield 34, 3) := by decide +kernel
theorem dX1_seek_29 : decode cX1_seek 29 = .ok (.aload_n 0, 1) := by decide +kernel
theorem dX1_seek_30 : decode cX1_seek 30 = .ok (.getfield 25, 3) := by decide +kernel
theorem dX1_seek_33 : decode cX1_seek 33 = .ok (.aload_n 0, 1) := by decide +kernel
theorem dX1_seek_34 : decode cX1_seek 34 = .ok (.aload_n 1, 1) := by decide +kernel
theorem dX1_seek_35 : decode cX1_seek 35 = .ok (.invokevirtual 37, 3) := by decide +kernel
theorem dX1_seek_38 : decode cX1_seek 38 = .ok (.iconst (-1), 1) := by decide +kernel
theorem dX1_seek_39 : decode cX1_seek 39 = .ok (.ixor, 1) := by decide +kernel
theorem dX1_seek_40 : decode cX1_seek 40 = .ok (.iand, 1) := by decide +kernel
theorem dX1_seek_41 : decode cX1_seek 41 = .ok (.istore 4, 2) := by decide +kernel
theorem dX1_seek_43 : decode cX1_seek 43 = .ok (.aload_n 0, 1) := by decide +kernel
theorem dX1_seek_44 : decode cX1_seek 44 = .ok (.aload_n 1, 1) := by decide +kernel
theorem dX1_seek_45 : decode cX1_seek 45 = .ok (.iload 4, 2) := by decide +kernel
theorem dX1_seek_47 : decode cX1_seek 47 = .ok (.invokevirtual 41, 3) := by decide +kernel
theorem dX1_seek_50 : decode cX1_seek 50 = .ok (.aload_n 0, 1) := by decide +kernel
theorem dX1_seek_51 : decode cX1_seek 51 = .ok (.aload_n 1, 1) := by decide +kernel
theorem dX1_seek_52 : decode cX1_seek 52 = .ok (.iload 4, 2) := by decide +kernel
theorem dX1_seek_54 : decode cX1_seek 54 = .ok (.invokevirtual 45, 3) := by decide +kernel
theorem dX1_seek_57 : decode cX1_seek 57 = .ok (.iload_n 3, 1) := by decide +kernel
theorem dX1_seek_58 : decode cX1_seek 58 = .ok (.ifCond .ge 10, 3) := by decide +kernel
theorem dX1_seek_61 : decode cX1_seek 61 = .ok (.aload_n 0, 1) := by decide +kernel
theorem dX1_seek_62 : decode cX1_seek 62 = .ok (.getfield 30, 3) := by decide +kernel
theorem dX1_seek_65 : decode cX1_seek 65 = .ok (.goto 7, 3) := by decide +kernel
theorem dX1_seek_68 : decode cX1_seek 68 = .ok (.aload_n 0, 1) := by decide +kernel
theorem dX1_seek_69 : decode cX1_seek 69 = .ok (.getfield 34, 3) := by decide +kernel
theorem dX1_seek_72 : decode cX1_seek 72 = .ok (.ireturn, 1) := by decide +kernel
theorem dX1_seekOnes_0 : decode cX1_seekOnes 0 = .ok (.iconst 0, 1) := by decide +kernel
theorem dX1_seekOnes_1 : decode cX1_seekOnes 1 = .ok (.istore_n 2, 1) := by decide +kernel
theorem dX1_seekOnes_2 : decode cX1_seekOnes 2 = .ok (.iconst 0, 1) := by decide +kernel
theorem dX1_seekOnes_3 : decode cX1_seekOnes 3 = .ok (.istore_n 3, 1) := by decide +kernel
theorem dX1_seekOnes_4 : decode cX1_seekOnes 4 = .ok (.iload_n 3, 1) := by decide +kernel
theorem dX1_seekOnes_5 : decode cX1_seekOnes 5 = .ok (.bipush 20, 2) := by decide +kernel
theorem dX1_seekOnes_7 : decode cX1_seekOnes 7 = .ok (.if_icmp .ge 38, 3) := by decide +kernel
theorem dX1_seekOnes_10 : decode cX1_seekOnes 10 = .ok (.aload_n 0, 1) := by decide +kernel
theorem dX1_seekOnes_11 : decode cX1_seekOnes 11 = .ok (.getfield 25, 3) := by decide +kernel
theorem dX1_seekOnes_14 : decode cX1_seekOnes 14 = .ok (.iload_n 3, 1) := by decide +kernel
theorem dX1_seekOnes_15 : decode cX1_seekOnes 15 = .ok (.invokestatic 48, 3) := by decide +kernel
theorem dX1_seekOnes_18 : decode cX1_seekOnes 18 = .ok (.iconst 1, 1) := by decide +kernel
theorem dX1_seekOnes_19 : decode cX1_seekOnes 19 = .ok (.if_icmp .ne 20, 3) := by decide +kernel
theorem dX1_seekOnes_22 : decode cX1_seekOnes 22 = .ok (.aload_n 0, 1) := by decide +kernel
theorem dX1_seekOnes_23 : decode cX1_seekOnes 23 = .ok (.aload_n 1, 1) := by decide +kernel
theorem dX1_seekOnes_24 : decode cX1_seekOnes 24 = .ok (.iconst 1, 1) := by decide +kernel
theorem dX1_seekOnes_25 : decode cX1_seekOnes 25 = .ok (.iload_n 3, 1) := by decide +kernel
theorem dX1_seekOnes_26 : decode cX1_seekOnes 26 = .ok (.ishl, 1) := by decide +kernel
theorem dX1_seekOnes_27 : decode cX1_seekOnes 27 = .ok (.invokevirtual 52, 3) := by decide +kernel
theorem dX1_seekOnes_30 : decode cX1_seekOnes 30 = .ok (.ifCond .eq 9, 3) := by decide +kernel
theorem dX1_seekOnes_33 : decode cX1_seekOnes 33 = .ok (.iload_n 2, 1) := by decide +kernel
theorem dX1_seekOnes_34 : decode cX1_seekOnes 34 = .ok (.iconst 1, 1) := by decide +kernel
theorem dX1_seekOnes_35 : decode cX1_seekOnes 35 = .ok (.iload_n 3, 1) := by decide +kernel
theorem dX1_seekOnes_36 : decode cX1_seekOnes 36 = .ok (.ishl, 1) := by decide +kernel
theorem dX1_seekOnes_37 : decode cX1_seekOnes 37 = .ok (.ior, 1) := by decide +kernel
theorem dX1_seekOnes_38 : decode cX1_seekOnes 38 = .ok (.istore_n 2, 1) := by decide +kernel
theorem dX1_seekOnes_39 : decode cX1_seekOnes 39 = .ok (.iinc 3 1, 3) := by decide +kernel
theorem dX1_seekOnes_42 : decode cX1_seekOnes 42 = .ok (.goto (-38), 3) := by decide +kernel
theorem dX1_seekOnes_45 : decode cX1_seekOnes 45 = .ok (.iload_n 2, 1) := by decide +kernel
theorem dX1_seekOnes_46 : decode cX1_seekOnes 46 = .ok (.ireturn, 1) := by decide +kernel
theorem dX1_seekTwos_0 : decode cX1_seekTwos 0 = .ok (.iconst 0, 1) := by decide +kernel
theorem dX1_seekTwos_1 : decode cX1_seekTwos 1 = .ok (.istore_n 3, 1) := by decide +kernel
theorem dX1_seekTwos_2 : decode cX1_seekTwos 2 = .ok (.iload_n 3, 1) := by decide +kernel
theorem dX1_seekTwos_3 : decode cX1_seekTwos 3 = .ok (.bipush 20, 2) := by decide +kernel
theorem dX1_seekTwos_5 : decode cX1_seekTwos 5 = .ok (.if_icmp .ge 81, 3) := by decide +kernel
theorem dX1_seekTwos_8 : decode cX1_seekTwos 8 = .ok (.aload_n 0, 1) := by decide +kernel
theorem dX1_seekTwos_9 : decode cX1_seekTwos 9 = .ok (.getfield 9, 3) := by decide +kernel
theorem dX1_seekTwos_12 : decode cX1_seekTwos 12 = .ok (.iload_n 3, 1) := by decide +kernel
theorem dX1_seekTwos_13 : decode cX1_seekTwos 13 = .ok (.iconst 0, 1) := by decide +kernel
theorem dX1_seekTwos_14 : decode cX1_seekTwos 14 = .ok (.iastore, 1) := by decide +kernel
theorem dX1_seekTwos_15 : decode cX1_seekTwos 15 = .ok (.iload_n 2, 1) := by decide +kernel
theorem dX1_seekTwos_16 : decode cX1_seekTwos 16 = .ok (.iload_n 3, 1) := by decide +kernel
theorem dX1_seekTwos_17 : decode cX1_seekTwos 17 = .ok (.invokestatic 48, 3) := by decide +kernel
theorem dX1_seekTwos_20 : decode cX1_seekTwos 20 = .ok (.ifCond .ne 6, 3) := by decide +kernel
theorem dX1_seekTwos_23 : decode cX1_seekTwos 23 = .ok (.goto 57, 3) := by decide +kernel
theorem dX1_seekTwos_26 : decode cX1_seekTwos 26 = .ok (.iconst 0, 1) := by decide +kernel
theorem dX1_seekTwos_27 : decode cX1_seekTwos 27 = .ok (.istore 4, 2) := by decide +kernel
theorem dX1_seekTwos_29 : decode cX1_seekTwos 29 = .ok (.iload 4, 2) := by decide +kernel
theorem dX1_seekTwos_31 : decode cX1_seekTwos 31 = .ok (.iload_n 3, 1) := by decide +kernel
theorem dX1_seekTwos_32 : decode cX1_seekTwos 32 = .ok (.if_icmp .ge 48, 3) := by decide +kernel
theorem dX1_seekTwos_35 : decode cX1_seekTwos 35 = .ok (.iload_n 2, 1) := by decide +kernel
theorem dX1_seekTwos_36 : decode cX1_seekTwos 36 = .ok (.iload 4, 2) := by decide +kernel
theorem dX1_seekTwos_38 : decode cX1_seekTwos 38 = .ok (.invokestatic 48, 3) := by decide +kernel
theorem dX1_seekTwos_41 : decode cX1_seekTwos 41 = .ok (.iconst 1, 1) := by decide +kernel
theorem dX1_seekTwos_42 : decode cX1_seekTwos 42 = .ok (.if_icmp .ne 32, 3) := by decide +kernel
theorem dX1_seekTwos_45 : decode cX1_seekTwos 45 = .ok (.aload_n 0, 1) := by decide +kernel
theorem dX1_seekTwos_46 : decode cX1_seekTwos 46 = .ok (.aload_n 1, 1) := by decide +kernel
theorem dX1_seekTwos_47 : decode cX1_seekTwos 47 = .ok (.iconst 1, 1) := by decide +kernel
theorem dX1_seekTwos_48 : decode cX1_seekTwos 48 = .ok (.iload_n 3, 1) := by decide +kernel
theorem dX1_seekTwos_49 : decode cX1_seekTwos 49 = .ok (.ishl, 1) := by decide +kernel
theorem dX1_seekTwos_50 : decode cX1_seekTwos 50 = .ok (.iconst 1, 1) := by decide +kernel
theorem dX1_seekTwos_51 : decode cX1_seekTwos 51 = .ok (.iload 4, 2) := by decide +kernel
theorem dX1_seekTwos_53 : decode cX1_seekTwos 53 = .ok (.ishl, 1) := by decide +kernel
theorem dX1_seekTwos_54 : decode cX1_seekTwos 54 = .ok (.ior, 1) := by decide +kernel
theorem dX1_seekTwos_55 : decode cX1_seekTwos 55 = .ok (.invokevirtual 52, 3) := by decide +kernel
theorem dX1_seekTwos_58 : decode cX1_seekTwos 58 = .ok (.ifCond .eq 16, 3) := by decide +kernel
theorem dX1_seekTwos_61 : decode cX1_seekTwos 61 = .ok (.aload_n 0, 1) := by decide +kernel
theorem dX1_seekTwos_62 : decode cX1_seekTwos 62 = .ok (.getfield 9, 3) := by decide +kernel
theorem dX1_seekTwos_65 : decode cX1_seekTwos 65 = .ok (.iload_n 3, 1) := by decide +kernel
theorem dX1_seekTwos_66 : decode cX1_seekTwos 66 = .ok (.dup2, 1) := by decide +kernel
theorem dX1_seekTwos_67 : decode cX1_seekTwos 67 = .ok (.iaload, 1) := by decide +kernel
theorem dX1_seekTwos_68 : decode cX1_seekTwos 68 = .ok (.iconst 1, 1) := by decide +kernel
theorem dX1_seekTwos_69 : decode cX1_seekTwos 69 = .ok (.iload 4, 2) := by decide +kernel
theorem dX1_seekTwos_71 : decode cX1_seekTwos 71 = .ok (.ishl, 1) := by decide +kernel
theorem dX1_seekTwos_72 : decode cX1_seekTwos 72 = .ok (.ior, 1) := by decide +kernel
theorem dX1_seekTwos_73 : decode cX1_seekTwos 73 = .ok (.iastore, 1) := by decide +kernel
theorem dX1_seekTwos_74 : decode cX1_seekTwos 74 = .ok (.iinc 4 1, 3) := by decide +kernel
theorem dX1_seekTwos_77 : decode cX1_seekTwos 77 = .ok (.goto (-48), 3) := by decide +kernel
theorem dX1_seekTwos_80 : decode cX1_seekTwos 80 = .ok (.iinc 3 1, 3) := by decide +kernel
theorem dX1_seekTwos_83 : decode cX1_seekTwos 83 = .ok (.goto (-81), 3) := by decide +kernel
theorem dX1_seekTwos_86 : decode cX1_seekTwos 86 = .ok (.return_, 1) := by decide +kernel
theorem dX1_seekThrees_0 : decode cX1_seekThrees 0 = .ok (.iconst 0, 1) := by decide +kernel
theorem dX1_seekThrees_1 : decode cX1_seekThrees 1 = .ok (.istore_n 3, 1) := by decide +kernel
theorem dX1_seekThrees_2 : decode cX1_seekThrees 2 = .ok (.iload_n 3, 1) := by decide +kernel
theorem dX1_seekThrees_3 : decode cX1_seekThrees 3 = .ok (.bipush 20, 2) := by decide +kernel
theorem dX1_seekThrees_5 : decode cX1_seekThrees 5 = .ok (.if_icmp .ge 120, 3) := by decide +kernel
theorem dX1_seekThrees_8 : decode cX1_seekThrees 8 = .ok (.iload_n 2, 1) := by decide +kernel
theorem dX1_seekThrees_9 : decode cX1_seekThrees 9 = .ok (.iload_n 3, 1) := by decide +kernel
theorem dX1_seekThrees_10 : decode cX1_seekThrees 10 = .ok (.invokestatic 48, 3) := by decide +kernel
theorem dX1_seekThrees_13 : decode cX1_seekThrees 13 = .ok (.ifCond .ne 6, 3) := by decide +kernel
theorem dX1_seekThrees_16 : decode cX1_seekThrees 16 = .ok (.goto 103, 3) := by decide +kernel
theorem dX1_seekThrees_19 : decode cX1_seekThrees 19 = .ok (.iload_n 2, 1) := by decide +kernel
theorem dX1_seekThrees_20 : decode cX1_seekThrees 20 = .ok (.aload_n 0, 1) := by decide +kernel
theorem dX1_seekThrees_21 : decode cX1_seekThrees 21 = .ok (.getfield 9, 3) := by decide +kernel
theorem dX1_seekThrees_24 : decode cX1_seekThrees 24 = .ok (.iload_n 3, 1) := by decide +kernel
theorem dX1_seekThrees_25 : decode cX1_seekThrees 25 = .ok (.iaload, 1) := by decide +kernel
theorem dX1_seekThrees_26 : decode cX1_seekThrees 26 = .ok (.iconst (-1), 1) := by decide +kernel
theorem dX1_seekThrees_27 : decode cX1_seekThrees 27 = .ok (.ixor, 1) := by decide +kernel
theorem dX1_seekThrees_28 : decode cX1_seekThrees 28 = .ok (.iand, 1) := by decide +kernel
theorem dX1_seekThrees_29 : decode cX1_seekThrees 29 = .ok (.istore 4, 2) := by decide +kernel
theorem dX1_seekThrees_31 : decode cX1_seekThrees 31 = .ok (.iconst 0, 1) := by decide +kernel
theorem dX1_seekThrees_32 : decode cX1_seekThrees 32 = .ok (.istore 5, 2) := by decide +kernel
theorem dX1_seekThrees_34 : decode cX1_seekThrees 34 = .ok (.iload 5, 2) := by decide +kernel
theorem dX1_seekThrees_36 : decode cX1_seekThrees 36 = .ok (.iload_n 3, 1) := by decide +kernel
theorem dX1_seekThrees_37 : decode cX1_seekThrees 37 = .ok (.if_icmp .ge 82, 3) := by decide +kernel
theorem dX1_seekThrees_40 : decode cX1_seekThrees 40 = .ok (.iload 4, 2) := by decide +kernel
theorem dX1_seekThrees_42 : decode cX1_seekThrees 42 = .ok (.iload 5, 2) := by decide +kernel
theorem dX1_seekThrees_44 : decode cX1_seekThrees 44 = .ok (.invokestatic 48, 3) := by decide +kernel
theorem dX1_seekThrees_47 : decode cX1_seekThrees 47 = .ok (.ifCond .ne 6, 3) := by decide +kernel
theorem dX1_seekThrees_50 : decode cX1_seekThrees 50 = .ok (.goto 63, 3) := by decide +kernel
theorem dX1_seekThrees_53 : decode cX1_seekThrees 53 = .ok (.iload 4, 2) := by decide +kernel
theorem dX1_seekThrees_55 : decode cX1_seekThrees 55 = .ok (.aload_n 0, 1) := by decide +kernel
theorem dX1_seekThrees_56 : decode cX1_seekThrees 56 = .ok (.getfield 9, 3) := by decide +kernel
theorem dX1_seekThrees_59 : decode cX1_seekThrees 59 = .ok (.iload 5, 2) := by decide +kernel
theorem dX1_seekThrees_61 : decode cX1_seekThrees 61 = .ok (.iaload, 1) := by decide +kernel
theorem dX1_seekThrees_62 : decode cX1_seekThrees 62 = .ok (.iconst (-1), 1) := by decide +kernel
theorem dX1_seekThrees_63 : decode cX1_seekThrees 63 = .ok (.ixor, 1) := by decide +kernel
theorem dX1_seekThrees_64 : decode cX1_seekThrees 64 = .ok (.iand, 1) := by decide +kernel
theorem dX1_seekThrees_65 : decode cX1_seekThrees 65 = .ok (.istore 6, 2) := by decide +kernel
theorem dX1_seekThrees_67 : decode cX1_seekThrees 67 = .ok (.iconst 0, 1) := by decide +kernel
theorem dX1_seekThrees_68 : decode cX1_seekThrees 68 = .ok (.istore 7, 2) := by decide +kernel
theorem dX1_seekThrees_70 : decode cX1_seekThrees 70 = .ok (.iload 7, 2) := by decide +kernel
theorem dX1_seekThrees_72 : decode cX1_seekThrees 72 = .ok (.iload 5, 2) := by decide +kernel
theorem dX1_seekThrees_74 : decode cX1_seekThrees 74 = .ok (.if_icmp .ge 39, 3) := by decide +kernel
theorem dX1_seekThrees_77 : decode cX1_seekThrees 77 = .ok (.iload 6, 2) := by decide +kernel
theorem dX1_seekThrees_79 : decode cX1_seekThrees 79 = .ok (.iload 7, 2) := by decide +kernel
theorem dX1_seekThrees_81 : decode cX1_seekThrees 81 = .ok (.invokestatic 48, 3) := by decide +kernel
theorem dX1_seekThrees_84 : decode cX1_seekThrees 84 = .ok (.iconst 1, 1) := by decide +kernel
theorem dX1_seekThrees_85 : decode cX1_seekThrees 85 = .ok (.if_icmp .ne 22, 3) := by decide +kernel
theorem dX1_seekThrees_88 : decode cX1_seekThrees 88 = .ok (.aload_n 0, 1) := by decide +kernel
theorem dX1_seekThrees_89 : decode cX1_seekThrees 89 = .ok (.aload_n 1, 1) := by decide +kernel
theorem dX1_seekThrees_90 : decode cX1_seekThrees 90 = .ok (.iconst 1, 1) := by decide +kernel
theorem dX1_seekThrees_91 : decode cX1_seekThrees 91 = .ok (.iload_n 3, 1) := by decide +kernel
theorem dX1_seekThrees_92 : decode cX1_seekThrees 92 = .ok (.ishl, 1) := by decide +kernel
theorem dX1_seekThrees_93 : decode cX1_seekThrees 93 = .ok (.iconst 1, 1) := by decide +kernel
theorem dX1_seekThrees_94 : decode cX1_seekThrees 94 = .ok (.iload 5, 2) := by decide +kernel
theorem dX1_seekThrees_96 : decode cX1_seekThrees 96 = .ok (.ishl, 1) := by decide +kernel
theorem dX1_seekThrees_97 : decode cX1_seekThrees 97 = .ok (.ior, 1) := by decide +kernel
theorem dX1_seekThrees_98 : decode cX1_seekThrees 98 = .ok (.iconst 1, 1) := by decide +kernel
theorem dX1_seekThrees_99 : decode cX1_seekThrees 99 = .ok (.iload 7, 2) := by decide +kernel
theorem dX1_seekThrees_101 : decode cX1_seekThrees 101 = .ok (.ishl, 1) := by decide +kernel
theorem dX1_seekThrees_102 : decode cX1_seekThrees 102 = .ok (.ior, 1) := by decide +kernel
theorem dX1_seekThrees_103 : decode cX1_seekThrees 103 = .ok (.invokevirtual 52, 3) := by decide +kernel
theorem dX1_seekThrees_106 : decode cX1_seekThrees 106 = .ok (.pop, 1) := by decide +kernel
theorem dX1_seekThrees_107 : decode cX1_seekThrees 107 = .ok (.iinc 7 1, 3) := by decide +kernel
theorem dX1_seekThrees_110 : decode cX1_seekThrees 110 = .ok (.goto (-40), 3) := by decide +kernel
theorem dX1_seekThrees_113 : decode cX1_seekThrees 113 = .ok (.iinc 5 1, 3) := by decide +kernel
theorem dX1_seekThrees_116 : decode cX1_seekThrees 116 = .ok (.goto (-82), 3) := by decide +kernel
theorem dX1_seekThrees_119 : decode cX1_seekThrees 119 = .ok (.iinc 3 1, 3) := by decide +kernel
theorem dX1_seekThrees_122 : decode cX1_seekThrees 122 = .ok (.goto (-120), 3) := by decide +kernel
theorem dX1_seekThrees_125 : decode cX1_seekThrees 125 = .ok (.return_, 1) := by decide +kernel
theorem dX1_countIfItFells_0 : decode cX1_countIfItFells 0 = .ok (.aload_n 1, 1) := by decide +kernel
theorem dX1_countIfItFells_1 : decode cX1_countIfItFells 1 = .ok (.aload_n 0, 1) := by decide +kernel
theorem dX1_countIfItFells_2 : decode cX1_countIfItFells 2 = .ok (.getfield 25, 3) := by decide +kernel
theorem dX1_countIfItFells_5 : decode cX1_countIfItFells 5 = .ok (.iload_n 2, 1) := by decide +kernel
theorem dX1_countIfItFells_6 : decode cX1_countIfItFells 6 = .ok (.iconst (-1), 1) := by decide +kernel
theorem dX1_countIfItFells_7 : decode cX1_countIfItFells 7 = .ok (.ixor, 1) := by decide +kernel
theorem dX1_countIfItFells_8 : decode cX1_countIfItFells 8 = .ok (.iand, 1) := by decide +kernel
theorem dX1_countIfItFells_9 : decode cX1_countIfItFells 9 = .ok (.iconst 0, 1) := by decide +kernel
theorem dX1_countIfItFells_10 : decode cX1_countIfItFells 10 = .ok (.invokevirtual 56, 3) := by decide +kernel
theorem dX1_countIfItFells_13 : decode cX1_countIfItFells 13 = .ok (.aload_n 0, 1) := by decide +kernel
theorem dX1_countIfItFells_14 : decode cX1_countIfItFells 14 = .ok (.getfield 15, 3) := by decide +kernel
theorem dX1_countIfItFells_17 : decode cX1_countIfItFells 17 = .ok (.invokestatic 48, 3) := by decide +kernel
theorem dX1_countIfItFells_20 : decode cX1_countIfItFells 20 = .ok (.iconst 1, 1) := by decide +kernel
theorem dX1_countIfItFells_21 : decode cX1_countIfItFells 21 = .ok (.if_icmp .ne 5, 3) := by decide +kernel
theorem dX1_countIfItFells_24 : decode cX1_countIfItFells 24 = .ok (.iconst 0, 1) := by decide +kernel
theorem dX1_countIfItFells_25 : decode cX1_countIfItFells 25 = .ok (.ireturn, 1) := by decide +kernel
theorem dX1_countIfItFells_26 : decode cX1_countIfItFells 26 = .ok (.aload_n 0, 1) := by decide +kernel
theorem dX1_countIfItFells_27 : decode cX1_countIfItFells 27 = .ok (.getfield 30, 3) := by decide +kernel
theorem dX1_countIfItFells_30 : decode cX1_countIfItFells 30 = .ok (.aload_n 0, 1) := by decide +kernel
theorem dX1_countIfItFells_31 : decode cX1_countIfItFells 31 = .ok (.getfield 27, 3) := by decide +kernel
theorem dX1_countIfItFells_34 : decode cX1_countIfItFells 34 = .ok (.if_icmp .ne 8, 3) := by decide +kernel
theorem dX1_countIfItFells_37 : decode cX1_countIfItFells 37 = .ok (.aload_n 0, 1) := by decide +kernel
theorem dX1_countIfItFells_38 : decode cX1_countIfItFells 38 = .ok (.iload_n 2, 1) := by decide +kernel
theorem dX1_countIfItFells_39 : decode cX1_countIfItFells 39 = .ok (.putfield 34, 3) := by decide +kernel
theorem dX1_countIfItFells_42 : decode cX1_countIfItFells 42 = .ok (.aload_n 0, 1) := by decide +kernel
theorem dX1_countIfItFells_43 : decode cX1_countIfItFells 43 = .ok (.dup, 1) := by decide +kernel
theorem dX1_countIfItFells_44 : decode cX1_countIfItFells 44 = .ok (.getfield 30, 3) := by decide +kernel
theorem dX1_countIfItFells_47 : decode cX1_countIfItFells 47 = .ok (.iconst 1, 1) := by decide +kernel
theorem dX1_countIfItFells_48 : decode cX1_countIfItFells 48 = .ok (.iadd, 1) := by decide +kernel
theorem dX1_countIfItFells_49 : decode cX1_countIfItFells 49 = .ok (.putfield 30, 3) := by decide +kernel
theorem dX1_countIfItFells_52 : decode cX1_countIfItFells 52 = .ok (.iconst 1, 1) := by decide +kernel
theorem dX1_countIfItFells_53 : decode cX1_countIfItFells 53 = .ok (.ireturn, 1) := by decide +kernel
theorem dX2_init_0 : decode cX2_init 0 = .ok (.aload_n 0, 1) := by decide +kernel
theorem dX2_init_1 : decode cX2_init 1 = .ok (.invokespecial 3, 3) := by decide +kernel
theorem dX2_init_4 : decode cX2_init 4 = .ok (.aload_n 0, 1) := by decide +kernel
theorem dX2_init_5 : decode cX2_init 5 = .ok (.bipush 20, 2) := by decide +kernel
theorem dX2_init_7 : decode cX2_init 7 = .ok (.newarray .int, 2) := by decide +kernel
theorem dX2_init_9 : decode cX2_init 9 = .ok (.putfield 9, 3) := by decide +kernel
theorem dX2_init_12 : decode cX2_init 12 = .ok (.aload_n 0, 1) := by decide +kernel
theorem dX2_init_13 : decode cX2_init 13 = .ok (.bipush 20, 2) := by decide +kernel
theorem dX2_init_15 : decode cX2_init 15 = .ok (.newarray .int, 2) := by decide +kernel
theorem dX2_init_17 : decode cX2_init 17 = .ok (.putfield 15, 3) := by decide +kernel
theorem dX2_init_20 : decode cX2_init 20 = .ok (.aload_n 0, 1) := by decide +kernel
theorem dX2_init_21 : decode cX2_init 21 = .ok (.bipush 20, 2) := by decide +kernel
theorem dX2_init_23 : decode cX2_init 23 = .ok (.newarray .int, 2) := by decide +kernel
theorem dX2_init_25 : decode cX2_init 25 = .ok (.putfield 18, 3) := by decide +kernel
theorem dX2_init_28 : decode cX2_init 28 = .ok (.aload_n 0, 1) := by decide +kernel
theorem dX2_init_29 : decode cX2_init 29 = .ok (.bipush 20, 2) := by decide +kernel
theorem dX2_init_31 : decode cX2_init 31 = .ok (.newarray .int, 2) := by decide +kernel
theorem dX2_init_33 : decode cX2_init 33 = .ok (.putfield 21, 3) := by decide +kernel
theorem dX2_init_36 : decode cX2_init 36 = .ok (.aload_n 0, 1) := by decide +kernel
theorem dX2_init_37 : decode cX2_init 37 = .ok (.bipush 20, 2) := by decide +kernel
theorem dX2_init_39 : decode cX2_init 39 = .ok (.newarray .int, 2) := by decide +kernel
theorem dX2_init_41 : decode cX2_init 41 = .ok (.putfield 24, 3) := by decide +kernel
theorem dX2_init_44 : decode cX2_init 44 = .ok (.aload_n 0, 1) := by decide +kernel
theorem dX2_init_45 : decode cX2_init 45 = .ok (.bipush 16, 2) := by decide +kernel
theorem dX2_init_47 : decode cX2_init 47 = .ok (.newarray .int, 2) := by decide +kernel
theorem dX2_init_49 : decode cX2_init 49 = .ok (.putfield 27, 3) := by decide +kernel
theorem dX2_init_52 : decode cX2_init 52 = .ok (.aload_n 0, 1) := by decide +kernel
theorem dX2_init_53 : decode cX2_init 53 = .ok (.bipush 16, 2) := by decide +kernel
theorem dX2_init_55 : decode cX2_init 55 = .ok (.newarray .int, 2) := by decide +kernel
theorem dX2_init_57 : decode cX2_init 57 = .ok (.putfield 30, 3) := by decide +kernel
theorem dX2_init_60 : decode cX2_init 60 = .ok (.aload_n 0, 1) := by decide +kernel
theorem dX2_init_61 : decode cX2_init 61 = .ok (.bipush 16, 2) := by decide +kernel
theorem dX2_init_63 : decode cX2_init 63 = .ok (.newarray .int, 2) := by decide +kernel
theorem dX2_init_65 : decode cX2_init 65 = .ok (.putfield 33, 3) := by decide +kernel
theorem dX2_init_68 : decode cX2_init 68 = .ok (.aload_n 0, 1) := by decide +kernel
theorem dX2_init_69 : decode cX2_init 69 = .ok (.bipush 16, 2) := by decide +kernel
theorem dX2_init_71 : decode cX2_init 71 = .ok (.newarray .int, 2) := by decide +kernel
theorem dX2_init_73 : decode cX2_init 73 = .ok (.putfield 36, 3) := by decide +kernel
theorem dX2_init_76 : decode cX2_init 76 = .ok (.aload_n 0, 1) := by decide +kernel
theorem dX2_init_77 : decode cX2_init 77 = .ok (.bipush 96, 2) := by decide +kernel
theorem dX2_init_79 : decode cX2_init 79 = .ok (.newarray .int, 2) := by decide +kernel
theorem dX2_init_81 : decode cX2_init 81 = .ok (.putfield 39, 3) := by decide +kernel
theorem dX2_init_84 : decode cX2_init 84 = .ok (.aload_n 0, 1) := by decide +kernel
theorem dX2_init_85 : decode cX2_init 85 = .ok (.bipush 16, 2) := by decide +kernel
theorem dX2_init_87 : decode cX2_init 87 = .ok (.newarray .int, 2) := by decide +kernel
theorem dX2_init_89 : decode cX2_init 89 = .ok (.putfield 42, 3) := by decide +kernel
theorem dX2_init_92 : decode cX2_init 92 = .ok (.aload_n 0, 1) := by decide +kernel
theorem dX2_init_93 : decode cX2_init 93 = .ok (.bipush 48, 2) := by decide +kernel
theorem dX2_init_95 : decode cX2_init 95 = .ok (.newarray .int, 2) := by decide +kernel
theorem dX2_init_97 : decode cX2_init 97 = .ok (.putfield 45, 3) := by decide +kernel
theorem dX2_init_100 : decode cX2_init 100 = .ok (.aload_n 0, 1) := by decide +kernel
theorem dX2_init_101 : decode cX2_init 101 = .ok (.bipush 20, 2) := by decide +kernel
theorem dX2_init_103 : decode cX2_init 103 = .ok (.newarray .int, 2) := by decide +kernel
theorem dX2_init_105 : decode cX2_init 105 = .ok (.putfield 48, 3) := by decide +kernel
theorem dX2_init_108 : decode cX2_init 108 = .ok (.return_, 1) := by decide +kernel
theorem dX2_hasNode_0 : decode cX2_hasNode 0 = .ok (.iload_n 1, 1) := by decide +kernel
theorem dX2_hasNode_1 : decode cX2_hasNode 1 = .ok (.ifCond .lt 15, 3) := by decide +kernel
theorem dX2_hasNode_4 : decode cX2_hasNode 4 = .ok (.iload_n 1, 1) := by decide +kernel
theorem dX2_hasNode_5 : decode cX2_hasNode 5 = .ok (.aload_n 0, 1) := by decide +kernel
theorem dX2_hasNode_6 : decode cX2_hasNode 6 = .ok (.getfield 51, 3) := by decide +kernel
theorem dX2_hasNode_9 : decode cX2_hasNode 9 = .ok (.if_icmp .ge 7, 3) := by decide +kernel
theorem dX2_hasNode_12 : decode cX2_hasNode 12 = .ok (.iconst 1, 1) := by decide +kernel
theorem dX2_hasNode_13 : decode cX2_hasNode 13 = .ok (.goto 4, 3) := by decide +kernel
theorem dX2_hasNode_16 : decode cX2_hasNode 16 = .ok (.iconst 0, 1) := by decide +kernel
theorem dX2_hasNode_17 : decode cX2_hasNode 17 = .ok (.ireturn, 1) := by decide +kernel
theorem dX2_isClaim_0 : decode cX2_isClaim 0 = .ok (.aload_n 0, 1) := by decide +kernel
theorem dX2_isClaim_1 : decode cX2_isClaim 1 = .ok (.iload_n 1, 1) := by decide +kernel
theorem dX2_isClaim_2 : decode cX2_isClaim 2 = .ok (.invokevirtual 55, 3) := by decide +kernel
theorem dX2_isClaim_5 : decode cX2_isClaim 5 = .ok (.ifCond .eq 17, 3) := by decide +kernel
theorem dX2_isClaim_8 : decode cX2_isClaim 8 = .ok (.aload_n 0, 1) := by decide +kernel
theorem dX2_isClaim_9 : decode cX2_isClaim 9 = .ok (.getfield 9, 3) := by decide +kernel
theorem dX2_isClaim_12 : decode cX2_isClaim 12 = .ok (.iload_n 1, 1) := by decide +kernel
theorem dX2_isClaim_13 : decode cX2_isClaim 13 = .ok (.iaload, 1) := by decide +kernel
theorem dX2_isClaim_14 : decode cX2_isClaim 14 = .ok (.iconst 2, 1) := by decide +kernel
theorem dX2_isClaim_15 : decode cX2_isClaim 15 = .ok (.if_icmp .ne 7, 3) := by decide +kernel
theorem dX2_isClaim_18 : decode cX2_isClaim 18 = .ok (.iconst 1, 1) := by decide +kernel
theorem dX2_isClaim_19 : decode cX2_isClaim 19 = .ok (.goto 4, 3) := by decide +kernel
theorem dX2_isClaim_22 : decode cX2_isClaim 22 = .ok (.iconst 0, 1) := by decide +kernel
theorem dX2_isClaim_23 : decode cX2_isClaim 23 = .ok (.ireturn, 1) := by decide +kernel
theorem dX2_isGround_0 : decode cX2_isGround 0 = .ok (.aload_n 0, 1) := by decide +kernel
theorem dX2_isGround_1 : decode cX2_isGround 1 = .ok (.iload_n 1, 1) := by decide +kernel
theorem dX2_isGround_2 : decode cX2_isGround 2 = .ok (.invokevirtual 55, 3) := by decide +kernel
theorem dX2_isGround_5 : decode cX2_isGround 5 = .ok (.ifCond .eq 17, 3) := by decide +kernel
theorem dX2_isGround_8 : decode cX2_isGround 8 = .ok (.aload_n 0, 1) := by decide +kernel
theorem dX2_isGround_9 : decode cX2_isGround 9 = .ok (.getfield 9, 3) := by decide +kernel
theorem dX2_isGround_12 : decode cX2_isGround 12 = .ok (.iload_n 1, 1) := by decide +kernel
theorem dX2_isGround_13 : decode cX2_isGround 13 = .ok (.iaload, 1) := by decide +kernel
theorem dX2_isGround_14 : decode cX2_isGround 14 = .ok (.iconst 2, 1) := by decide +kernel
theorem dX2_isGround_15 : decode cX2_isGround 15 = .ok (.if_icmp .eq 7, 3) := by decide +kernel
theorem dX2_isGround_18 : decode cX2_isGround 18 = .ok (.iconst 1, 1) := by decide +kernel
theorem dX2_isGround_19 : decode cX2_isGround 19 = .ok (.goto 4, 3) := by decide +kernel
theorem dX2_isGround_22 : decode cX2_isGround 22 = .ok (.iconst 0, 1) := by decide +kernel
theorem dX2_isGround_23 : decode cX2_isGround 23 = .ok (.ireturn, 1) := by decide +kernel
theorem dX2_hasStep_0 : decode cX2_hasStep 0 = .ok (.iload_n 1, 1) := by decide +kernel
theorem dX2_hasStep_1 : decode cX2_hasStep 1 = .ok (.ifCond .lt 15, 3) := by decide +kernel
theorem dX2_hasStep_4 : decode cX2_hasStep 4 = .ok (.iload_n 1, 1) := by decide +kernel
theorem dX2_hasStep_5 : decode cX2_hasStep 5 = .ok (.aload_n 0, 1) := by decide +kernel
theorem dX2_hasStep_6 : decode cX2_hasStep 6 = .ok (.getfield 59, 3) := by decide +kernel
theorem dX2_hasStep_9 : decode cX2_hasStep 9 = .ok (.if_icmp .ge 7, 3) := by decide +kernel
theorem dX2_hasStep_12 : decode cX2_hasStep 12 = .ok (.iconst 1, 1) := by decide +kernel
theorem dX2_hasStep_13 : decode cX2_hasStep 13 = .ok (.goto 4, 3) := by decide +kernel
theorem dX2_hasStep_16 : decode cX2_hasStep 16 = .ok (.iconst 0, 1) := by decide +kernel
theorem dX2_hasStep_17 : decode cX2_hasStep 17 = .ok (.ireturn, 1) := by decide +kernel
theorem dX2_hasPart_0 : decode cX2_hasPart 0 = .ok (.aload_n 0, 1) := by decide +kernel
theorem dX2_hasPart_1 : decode cX2_hasPart 1 = .ok (.getfield 36, 3) := by decide +kernel
theorem dX2_hasPart_4 : decode cX2_hasPart 4 = .ok (.iload_n 1, 1) := by decide +kernel
theorem dX2_hasPart_5 : decode cX2_hasPart 5 = .ok (.iaload, 1) := by decide +kernel
theorem dX2_hasPart_6 : decode cX2_hasPart 6 = .ok (.iload_n 2, 1) := by decide +kernel
theorem dX2_hasPart_7 : decode cX2_hasPart 7 = .ok (.invokestatic 62, 3) := by decide +kernel
theorem dX2_hasPart_10 : decode cX2_hasPart 10 = .ok (.iconst 1, 1) := by decide +kernel
theorem dX2_hasPart_11 : decode cX2_hasPart 11 = .ok (.if_icmp .ne 7, 3) := by decide +kernel
theorem dX2_hasPart_14 : decode cX2_hasPart 14 = .ok (.iconst 1, 1) := by decide +kernel
theorem dX2_hasPart_15 : decode cX2_hasPart 15 = .ok (.goto 4, 3) := by decide +kernel
theorem dX2_hasPart_18 : decode cX2_hasPart 18 = .ok (.iconst 0, 1) := by decide +kernel
theorem dX2_hasPart_19 : decode cX2_hasPart 19 = .ok (.ireturn, 1) := by decide +kernel
theorem dX2_partAt_0 : decode cX2_partAt 0 = .ok (.aload_n 0, 1) := by decide +kernel
theorem dX2_partAt_1 : decode cX2_partAt 1 = .ok (.getfield 39, 3) := by decide +kernel
theorem dX2_partAt_4 : decode cX2_partAt 4 = .ok (.iload_n 1, 1) := by decide +kernel
theorem dX2_partAt_5 : decode cX2_partAt 5 = .ok (.bipush 6, 2) := by decide +kernel
theorem dX2_partAt_7 : decode cX2_partAt 7 = .ok (.imul, 1) := by decide +kernel
theorem dX2_partAt_8 : decode cX2_partAt 8 = .ok (.iload_n 2, 1) := by decide +kernel
theorem dX2_partAt_9 : decode cX2_partAt 9 = .ok (.iadd, 1) := by decide +kernel
theorem dX2_partAt_10 : decode cX2_partAt 10 = .ok (.iaload, 1) := by decide +kernel
theorem dX2_partAt_11 : decode cX2_partAt 11 = .ok (.ireturn, 1) := by decide +kernel
theorem dX2_doubtsOf_0 : decode cX2_doubtsOf 0 = .ok (.getstatic 66, 3) := by decide +kernel
theorem dX2_doubtsOf_3 : decode cX2_doubtsOf 3 = .ok (.aload_n 0, 1) := by decide +kernel
theorem dX2_doubtsOf_4 : decode cX2_doubtsOf 4 = .ok (.getfield 27, 3) := by decide +kernel
theorem dX2_doubtsOf_7 : decode cX2_doubtsOf 7 = .ok (.iload_n 1, 1) := by decide +kernel
theorem dX2_doubtsOf_8 : decode cX2_doubtsOf 8 = .ok (.iaload, 1) := by decide +kernel
theorem dX2_doubtsOf_9 : decode cX2_doubtsOf 9 = .ok (.iaload, 1) := by decide +kernel
theorem dX2_doubtsOf_10 : decode cX2_doubtsOf 10 = .ok (.ireturn, 1) := by decide +kernel
theorem dX2_addNode_0 : decode cX2_addNode 0 = .ok (.aload_n 0, 1) := by decide +kernel
theorem dX2_addNode_1 : decode cX2_addNode 1 = .ok (.getfield 51, 3) := by decide +kernel
theorem dX2_addNode_4 : decode cX2_addNode 4 = .ok (.bipush 20, 2) := by decide +kernel
theorem dX2_addNode_6 : decode cX2_addNode 6 = .ok (.if_icmp .lt 4, 3) := by decide +kernel
theorem dX2_addNode_9 : decode cX2_addNode 9 = .ok (.return_, 1) := by decide +kernel
theorem dX2_addNode_10 : decode cX2_addNode 10 = .ok (.aload_n 0, 1) := by decide +kernel
theorem dX2_addNode_11 : decode cX2_addNode 11 = .ok (.getfield 9, 3) := by decide +kernel
theorem dX2_addNode_14 : decode cX2_addNode 14 = .ok (.aload_n 0, 1) := by decide +kernel
theorem dX2_addNode_15 : decode cX2_addNode 15 = .ok (.getfield 51, 3) := by decide +kernel
theorem dX2_addNode_18 : decode cX2_addNode 18 = .ok (.iload_n 1, 1) := by decide +kernel
theorem dX2_addNode_19 : decode cX2_addNode 19 = .ok (.iastore, 1) := by decide +kernel
theorem dX2_addNode_20 : decode cX2_addNode 20 = .ok (.aload_n 0, 1) := by decide +kernel
theorem dX2_addNode_21 : decode cX2_addNode 21 = .ok (.getfield 15, 3) := by decide +kernel
theorem dX2_addNode_24 : decode cX2_addNode 24 = .ok (.aload_n 0, 1) := by decide +kernel
theorem dX2_addNode_25 : decode cX2_addNode 25 = .ok (.getfield 51, 3) := by decide +kernel
theorem dX2_addNode_28 : decode cX2_addNode 28 = .ok (.iload_n 2, 1) := by decide +kernel
theorem dX2_addNode_29 : decode cX2_addNode 29 = .ok (.iastore, 1) := by decide +kernel
theorem dX2_addNode_30 : decode cX2_addNode 30 = .ok (.aload_n 0, 1) := by decide +kernel
theorem dX2_addNode_31 : decode cX2_addNode 31 = .ok (.getfield 18, 3) := by decide +kernel
theorem dX2_addNode_34 : decode cX2_addNode 34 = .ok (.aload_n 0, 1) := by decide +kernel
theorem dX2_addNode_35 : decode cX2_addNode 35 = .ok (.getfield 51, 3) := by decide +kernel
theorem dX2_addNode_38 : decode cX2_addNode 38 = .ok (.iconst 0, 1) := by decide +kernel
theorem dX2_addNode_39 : decode cX2_addNode 39 = .ok (.iastore, 1) := by decide +kernel
theorem dX2_addNode_40 : decode cX2_addNode 40 = .ok (.aload_n 0, 1) := by decide +kernel
theorem dX2_addNode_41 : decode cX2_addNode 41 = .ok (.getfield 21, 3) := by decide +kernel
theorem dX2_addNode_44 : decode cX2_addNode 44 = .ok (.aload_n 0, 1) := by decide +kernel
theorem dX2_addNode_45 : decode cX2_addNode 45 = .ok (.getfield 51, 3) := by decide +kernel
theorem dX2_addNode_48 : decode cX2_addNode 48 = .ok (.sipush 9999, 3) := by decide +kernel
theorem dX2_addNode_51 : decode cX2_addNode 51 = .ok (.iastore, 1) := by decide +kernel
theorem dX2_addNode_52 : decode cX2_addNode 52 = .ok (.aload_n 0, 1) := by decide +kernel
theorem dX2_addNode_53 : decode cX2_addNode 53 = .ok (.getfield 24, 3) := by decide +kernel
theorem dX2_addNode_56 : decode cX2_addNode 56 = .ok (.aload_n 0, 1) := by decide +kernel
theorem dX2_addNode_57 : decode cX2_addNode 57 = .ok (.getfield 51, 3) := by decide +kernel
theorem dX2_addNode_60 : decode cX2_addNode 60 = .ok (.iconst 0, 1) := by decide +kernel
theorem dX2_addNode_61 : decode cX2_addNode 61 = .ok (.iastore, 1) := by decide +kernel
theorem dX2_addNode_62 : decode cX2_addNode 62 = .ok (.aload_n 0, 1) := by decide +kernel
theorem dX2_addNode_63 : decode cX2_addNode 63 = .ok (.dup, 1) := by decide +kernel
theorem dX2_addNode_64 : decode cX2_addNode 64 = .ok (.getfield 51, 3) := by decide +kernel
theorem dX2_addNode_67 : decode cX2_addNode 67 = .ok (.iconst 1, 1) := by decide +kernel
theorem dX2_addNode_68 : decode cX2_addNode 68 = .ok (.iadd, 1) := by decide +kernel
theorem dX2_addNode_69 : decode cX2_addNode 69 = .ok (.putfield 51, 3) := by decide +kernel
theorem dX2_addNode_72 : decode cX2_addNode 72 = .ok (.return_, 1) := by decide +kernel
theorem dX2_addStep_0 : decode cX2_addStep 0 = .ok (.aload_n 0, 1) := by decide +kernel
theorem dX2_addStep_1 : decode cX2_addStep 1 = .ok (.getfield 59, 3) := by decide +kernel
theorem dX2_addStep_4 : decode cX2_addStep 4 = .ok (.bipush 15, 2) := by decide +kernel
theorem dX2_addStep_6 : decode cX2_addStep 6 = .ok (.invokestatic 69, 3) := by decide +kernel
theorem dX2_addStep_9 : decode cX2_addStep 9 = .ok (.istore_n 3, 1) := by decide +kernel
theorem dX2_addStep_10 : decode cX2_addStep 10 = .ok (.aload_n 0, 1) := by decide +kernel
theorem dX2_addStep_11 : decode cX2_addStep 11 = .ok (.getfield 27, 3) := by decide +kernel
theorem dX2_addStep_14 : decode cX2_addStep 14 = .ok (.iload_n 3, 1) := by decide +kernel
theorem dX2_addStep_15 : decode cX2_addStep 15 = .ok (.iload_n 1, 1) := by decide +kernel
theorem dX2_addStep_16 : decode cX2_addStep 16 = .ok (.iastore, 1) := by decide +kernel
theorem dX2_addStep_17 : decode cX2_addStep 17 = .ok (.aload_n 0, 1) := by decide +kernel
theorem dX2_addStep_18 : decode cX2_addStep 18 = .ok (.getfield 30, 3) := by decide +kernel
theorem dX2_addStep_21 : decode cX2_addStep 21 = .ok (.iload_n 3, 1) := by decide +kernel
theorem dX2_addStep_22 : decode cX2_addStep 22 = .ok (.iload_n 2, 1) := by decide +kernel
theorem dX2_addStep_23 : decode cX2_addStep 23 = .ok (.iastore, 1) := by decide +kernel
theorem dX2_addStep_24 : decode cX2_addStep 24 = .ok (.aload_n 0, 1) := by decide +kernel
theorem dX2_addStep_25 : decode cX2_addStep 25 = .ok (.getfield 33, 3) := by decide +kernel
theorem dX2_addStep_28 : decode cX2_addStep 28 = .ok (.iload_n 3, 1) := by decide +kernel
theorem dX2_addStep_29 : decode cX2_addStep 29 = .ok (.iconst 0, 1) := by decide +kernel
theorem dX2_addStep_30 : decode cX2_addStep 30 = .ok (.iastore, 1) := by decide +kernel
theorem dX2_addStep_31 : decode cX2_addStep 31 = .ok (.aload_n 0, 1) := by decide +kernel
theorem dX2_addStep_32 : decode cX2_addStep 32 = .ok (.getfield 36, 3) := by decide +kernel
theorem dX2_addStep_35 : decode cX2_addStep 35 = .ok (.iload_n 3, 1) := by decide +kernel
theorem dX2_addStep_36 : decode cX2_addStep 36 = .ok (.iconst 0, 1) := by decide +kernel
theorem dX2_addStep_37 : decode cX2_addStep 37 = .ok (.iastore, 1) := by decide +kernel
theorem dX2_addStep_38 : decode cX2_addStep 38 = .ok (.aload_n 0, 1) := by decide +kernel
theorem dX2_addStep_39 : decode cX2_addStep 39 = .ok (.getfield 42, 3) := by decide +kernel
theorem dX2_addStep_42 : decode cX2_addStep 42 = .ok (.iload_n 3, 1) := by decide +kernel
theorem dX2_addStep_43 : decode cX2_addStep 43 = .ok (.getstatic 66, 3) := by decide +kernel
theorem dX2_addStep_46 : decode cX2_addStep 46 = .ok (.iload_n 1, 1) := by decide +kernel
theorem dX2_addStep_47 : decode cX2_addStep 47 = .ok (.iaload, 1) := by decide +kernel
theorem dX2_addStep_48 : decode cX2_addStep 48 = .ok (.iastore, 1) := by decide +kernel
theorem dX2_addStep_49 : decode cX2_addStep 49 = .ok (.iconst 0, 1) := by decide +kernel
theorem dX2_addStep_50 : decode cX2_addStep 50 = .ok (.istore 4, 2) := by decide +kernel
theorem dX2_addStep_52 : decode cX2_addStep 52 = .ok (.iload 4, 2) := by decide +kernel
theorem dX2_addStep_54 : decode cX2_addStep 54 = .ok (.iconst 3, 1) := by decide +kernel
theorem dX2_addStep_55 : decode cX2_addStep 55 = .ok (.if_icmp .ge 21, 3) := by decide +kernel
theorem dX2_addStep_58 : decode cX2_addStep 58 = .ok (.aload_n 0, 1) := by decide +kernel
theorem dX2_addStep_59 : decode cX2_addStep 59 = .ok (.getfield 45, 3) := by decide +kernel
theorem dX2_addStep_62 : decode cX2_addStep 62 = .ok (.iload_n 3, 1) := by decide +kernel
theorem dX2_addStep_63 : decode cX2_addStep 63 = .ok (.iconst 3, 1) := by decide +kernel
theorem dX2_addStep_64 : decode cX2_addStep 64 = .ok (.imul, 1) := by decide +kernel
theorem dX2_addStep_65 : decode cX2_addStep 65 = .ok (.iload 4, 2) := by decide +kernel
theorem dX2_addStep_67 : decode cX2_addStep 67 = .ok (.iadd, 1) := by decide +kernel
theorem dX2_addStep_68 : decode cX2_addStep 68 = .ok (.iconst 0, 1) := by decide +kernel
theorem dX2_addStep_69 : decode cX2_addStep 69 = .ok (.iastore, 1) := by decide +kernel
theorem dX2_addStep_70 : decode cX2_addStep 70 = .ok (.iinc 4 1, 3) := by decide +kernel
theorem dX2_addStep_73 : decode cX2_addStep 73 = .ok (.goto (-21), 3) := by decide +kernel
theorem dX2_addStep_76 : decode cX2_addStep 76 = .ok (.aload_n 0, 1) := by decide +kernel
theorem dX2_addStep_77 : decode cX2_addStep 77 = .ok (.iload_n 3, 1) := by decide +kernel
theorem dX2_addStep_78 : decode cX2_addStep 78 = .ok (.iconst 1, 1) := by decide +kernel
theorem dX2_addStep_79 : decode cX2_addStep 79 = .ok (.iadd, 1) := by decide +kernel
theorem dX2_addStep_80 : decode cX2_addStep 80 = .ok (.putfield 59, 3) := by decide +kernel
theorem dX2_addStep_83 : decode cX2_addStep 83 = .ok (.iload_n 3, 1) := by decide +kernel
theorem dX2_addStep_84 : decode cX2_addStep 84 = .ok (.ireturn, 1) := by decide +kernel
theorem dX2_addPart_0 : decode cX2_addPart 0 = .ok (.aload_n 0, 1) := by decide +kernel
theorem dX2_addPart_1 : decode cX2_addPart 1 = .ok (.getfield 33, 3) := by decide +kernel
theorem dX2_addPart_4 : decode cX2_addPart 4 = .ok (.iload_n 1, 1) := by decide +kernel
theorem dX2_addPart_5 : decode cX2_addPart 5 = .ok (.iaload, 1) := by decide +kernel
theorem dX2_addPart_6 : decode cX2_addPart 6 = .ok (.bipush 6, 2) := by decide +kernel
theorem dX2_addPart_8 : decode cX2_addPart 8 = .ok (.if_icmp .lt 4, 3) := by decide +kernel
theorem dX2_addPart_11 : decode cX2_addPart 11 = .ok (.return_, 1) := by decide +kernel
theorem dX2_addPart_12 : decode cX2_addPart 12 = .ok (.aload_n 0, 1) := by decide +kernel
theorem dX2_addPart_13 : decode cX2_addPart 13 = .ok (.getfield 39, 3) := by decide +kernel
theorem dX2_addPart_16 : decode cX2_addPart 16 = .ok (.iload_n 1, 1) := by decide +kernel
theorem dX2_addPart_17 : decode cX2_addPart 17 = .ok (.bipush 6, 2) := by decide +kernel
theorem dX2_addPart_19 : decode cX2_addPart 19 = .ok (.imul, 1) := by decide +kernel
theorem dX2_addPart_20 : decode cX2_addPart 20 = .ok (.aload_n 0, 1) := by decide +kernel
theorem dX2_addPart_21 : decode cX2_addPart 21 = .ok (.getfield 33, 3) := by decide +kernel
theorem dX2_addPart_24 : decode cX2_addPart 24 = .ok (.iload_n 1, 1) := by decide +kernel
theorem dX2_addPart_25 : decode cX2_addPart 25 = .ok (.iaload, 1) := by decide +kernel
theorem dX2_addPart_26 : decode cX2_addPart 26 = .ok (.iadd, 1) := by decide +kernel
theorem dX2_addPart_27 : decode cX2_addPart 27 = .ok (.iload_n 2, 1) := by decide +kernel
theorem dX2_addPart_28 : decode cX2_addPart 28 = .ok (.iastore, 1) := by decide +kernel
theorem dX2_addPart_29 : decode cX2_addPart 29 = .ok (.aload_n 0, 1) := by decide +kernel
theorem dX2_addPart_30 : decode cX2_addPart 30 = .ok (.getfield 36, 3) := by decide +kernel
theorem dX2_addPart_33 : decode cX2_addPart 33 = .ok (.iload_n 1, 1) := by decide +kernel
theorem dX2_addPart_34 : decode cX2_addPart 34 = .ok (.dup2, 1) := by decide +kernel
theorem dX2_addPart_35 : decode cX2_addPart 35 = .ok (.iaload, 1) := by decide +kernel
theorem dX2_addPart_36 : decode cX2_addPart 36 = .ok (.iconst 1, 1) := by decide +kernel
theorem dX2_addPart_37 : decode cX2_addPart 37 = .ok (.iload_n 2, 1) := by decide +kernel
theorem dX2_addPart_38 : decode cX2_addPart 38 = .ok (.ishl, 1) := by decide +kernel
theorem dX2_addPart_39 : decode cX2_addPart 39 = .ok (.ior, 1) := by decide +kernel
theorem dX2_addPart_40 : decode cX2_addPart 40 = .ok (.iastore, 1) := by decide +kernel
theorem dX2_addPart_41 : decode cX2_addPart 41 = .ok (.aload_n 0, 1) := by decide +kernel
theorem dX2_addPart_42 : decode cX2_addPart 42 = .ok (.getfield 33, 3) := by decide +kernel
theorem dX2_addPart_45 : decode cX2_addPart 45 = .ok (.iload_n 1, 1) := by decide +kernel
theorem dX2_addPart_46 : decode cX2_addPart 46 = .ok (.dup2, 1) := by decide +kernel
theorem dX2_addPart_47 : decode cX2_addPart 47 = .ok (.iaload, 1) := by decide +kernel
theorem dX2_addPart_48 : decode cX2_addPart 48 = .ok (.iconst 1, 1) := by decide +kernel
theorem dX2_addPart_49 : decode cX2_addPart 49 = .ok (.iadd, 1) := by decide +kernel
theorem dX2_addPart_50 : decode cX2_addPart 50 = .ok (.iastore, 1) := by decide +kernel
theorem dX2_addPart_51 : decode cX2_addPart 51 = .ok (.return_, 1) := by decide +kernel
theorem dX2_cutBack_0 : decode cX2_cutBack 0 = .ok (.aload_n 0, 1) := by decide +kernel
theorem dX2_cutBack_1 : decode cX2_cutBack 1 = .ok (.iload_n 1, 1) := by decide +kernel
theorem dX2_cutBack_2 : decode cX2_cutBack 2 = .ok (.putfield 51, 3) := by decide +kernel
theorem dX2_cutBack_5 : decode cX2_cutBack 5 = .ok (.aload_n 0, 1) := by decide +kernel
theorem dX2_cutBack_6 : decode cX2_cutBack 6 = .ok (.iload_n 2, 1) := by decide +kernel
theorem dX2_cutBack_7 : decode cX2_cutBack 7 = .ok (.putfield 59, 3) := by decide +kernel
theorem dX2_cutBack_10 : decode cX2_cutBack 10 = .ok (.return_, 1) := by decide +kernel
theorem dX2_tellDoubt_0 : decode cX2_tellDoubt 0 = .ok (.aload_n 0, 1) := by decide +kernel
theorem dX2_tellDoubt_1 : decode cX2_tellDoubt 1 = .ok (.getfield 45, 3) := by decide +kernel
theorem dX2_tellDoubt_4 : decode cX2_tellDoubt 4 = .ok (.iload_n 1, 1) := by decide +kernel
theorem dX2_tellDoubt_5 : decode cX2_tellDoubt 5 = .ok (.iconst 3, 1) := by decide +kernel
theorem dX2_tellDoubt_6 : decode cX2_tellDoubt 6 = .ok (.imul, 1) := by decide +kernel
theorem dX2_tellDoubt_7 : decode cX2_tellDoubt 7 = .ok (.iload_n 2, 1) := by decide +kernel
theorem dX2_tellDoubt_8 : decode cX2_tellDoubt 8 = .ok (.iadd, 1) := by decide +kernel
theorem dX2_tellDoubt_9 : decode cX2_tellDoubt 9 = .ok (.iaload, 1) := by decide +kernel
theorem dX2_tellDoubt_10 : decode cX2_tellDoubt 10 = .ok (.istore 4, 2) := by decide +kernel
theorem dX2_tellDoubt_12 : decode cX2_tellDoubt 12 = .ok (.iload 4, 2) := by decide +kernel
theorem dX2_tellDoubt_14 : decode cX2_tellDoubt 14 = .ok (.ifCond .ne 13, 3) := by decide +kernel
theorem dX2_tellDoubt_17 : decode cX2_tellDoubt 17 = .ok (.aload_n 0, 1) := by decide +kernel
theorem dX2_tellDoubt_18 : decode cX2_tellDoubt 18 = .ok (.getfield 42, 3) := by decide +kernel
theorem dX2_tellDoubt_21 : decode cX2_tellDoubt 21 = .ok (.iload_n 1, 1) := by decide +kernel
theorem dX2_tellDoubt_22 : decode cX2_tellDoubt 22 = .ok (.dup2, 1) := by decide +kernel
theorem dX2_tellDoubt_23 : decode cX2_tellDoubt 23 = .ok (.iaload, 1) := by decide +kernel
theorem dX2_tellDoubt_24 : decode cX2_tellDoubt 24 = .ok (.iconst 1, 1) := by decide +kernel
theorem dX2_tellDoubt_25 : decode cX2_tellDoubt 25 = .ok (.isub, 1) := by decide +kernel
theorem dX2_tellDoubt_26 : decode cX2_tellDoubt 26 = .ok (.iastore, 1) := by decide +kernel
theorem dX2_tellDoubt_27 : decode cX2_tellDoubt 27 = .ok (.iload_n 3, 1) := by decide +kernel
theorem dX2_tellDoubt_28 : decode cX2_tellDoubt 28 = .ok (.ifCond .ne 13, 3) := by decide +kernel
theorem dX2_tellDoubt_31 : decode cX2_tellDoubt 31 = .ok (.aload_n 0, 1) := by decide +kernel
theorem dX2_tellDoubt_32 : decode cX2_tellDoubt 32 = .ok (.getfield 42, 3) := by decide +kernel
theorem dX2_tellDoubt_35 : decode cX2_tellDoubt 35 = .ok (.iload_n 1, 1) := by decide +kernel
theorem dX2_tellDoubt_36 : decode cX2_tellDoubt 36 = .ok (.dup2, 1) := by decide +kernel
theorem dX2_tellDoubt_37 : decode cX2_tellDoubt 37 = .ok (.iaload, 1) := by decide +kernel
theorem dX2_tellDoubt_38 : decode cX2_tellDoubt 38 = .ok (.iconst 1, 1) := by decide +kernel
theorem dX2_tellDoubt_39 : decode cX2_tellDoubt 39 = .ok (.iadd, 1) := by decide +kernel
theorem dX2_tellDoubt_40 : decode cX2_tellDoubt 40 = .ok (.iastore, 1) := by decide +kernel
theorem dX2_tellDoubt_41 : decode cX2_tellDoubt 41 = .ok (.aload_n 0, 1) := by decide +kernel
theorem dX2_tellDoubt_42 : decode cX2_tellDoubt 42 = .ok (.getfield 45, 3) := by decide +kernel
theorem dX2_tellDoubt_45 : decode cX2_tellDoubt 45 = .ok (.iload_n 1, 1) := by decide +kernel
theorem dX2_tellDoubt_46 : decode cX2_tellDoubt 46 = .ok (.iconst 3, 1) := by decide +kernel
theorem dX2_tellDoubt_47 : decode cX2_tellDoubt 47 = .ok (.imul, 1) := by decide +kernel
theorem dX2_tellDoubt_48 : decode cX2_tellDoubt 48 = .ok (.iload_n 2, 1) := by decide +kernel
theorem dX2_tellDoubt_49 : decode cX2_tellDoubt 49 = .ok (.iadd, 1) := by decide +kernel
theorem dX2_tellDoubt_50 : decode cX2_tellDoubt 50 = .ok (.iload_n 3, 1) := by decide +kernel
theorem dX2_tellDoubt_51 : decode cX2_tellDoubt 51 = .ok (.iastore, 1) := by decide +kernel
theorem dX2_tellDoubt_52 : decode cX2_tellDoubt 52 = .ok (.iload 4, 2) := by decide +kernel
theorem dX2_tellDoubt_54 : decode cX2_tellDoubt 54 = .ok (.ireturn, 1) := by decide +kernel
theorem dX2_doubtsToldAs_0 : decode cX2_doubtsToldAs 0 = .ok (.iconst 0, 1) := by decide +kernel
theorem dX2_doubtsToldAs_1 : decode cX2_doubtsToldAs 1 = .ok (.istore_n 2, 1) := by decide +kernel
theorem dX2_doubtsToldAs_2 : decode cX2_doubtsToldAs 2 = .ok (.iconst 0, 1) := by decide +kernel
theorem dX2_doubtsToldAs_3 : decode cX2_doubtsToldAs 3 = .ok (.istore_n 3, 1) := by decide +kernel
theorem dX2_doubtsToldAs_4 : decode cX2_doubtsToldAs 4 = .ok (.iload_n 3, 1) := by decide +kernel
theorem dX2_doubtsToldAs_5 : decode cX2_doubtsToldAs 5 = .ok (.aload_n 0, 1) := by decide +kernel
theorem dX2_doubtsToldAs_6 : decode cX2_doubtsToldAs 6 = .ok (.getfield 59, 3) := by decide +kernel
theorem dX2_doubtsToldAs_9 : decode cX2_doubtsToldAs 9 = .ok (.if_icmp .ge 46, 3) := by decide +kernel
theorem dX2_doubtsToldAs_12 : decode cX2_doubtsToldAs 12 = .ok (.iconst 0, 1) := by decide +kernel
theorem dX2_doubtsToldAs_13 : decode cX2_doubtsToldAs 13 = .ok (.istore 4, 2) := by decide +kernel
theorem dX2_doubtsToldAs_15 : decode cX2_doubtsToldAs 15 = .ok (.iload 4, 2) := by decide +kernel
theorem dX2_doubtsToldAs_17 : decode cX2_doubtsToldAs 17 = .ok (.aload_n 0, 1) := by decide +kernel
theorem dX2_doubtsToldAs_18 : decode cX2_doubtsToldAs 18 = .ok (.iload_n 3, 1) := by decide +kernel
theorem dX2_doubtsToldAs_19 : decode cX2_doubtsToldAs 19 = .ok (.invokevirtual 74, 3) := by decide +kernel
theorem dX2_doubtsToldAs_22 : decode cX2_doubtsToldAs 22 = .ok (.if_icmp .ge 27, 3) := by decide +kernel
theorem dX2_doubtsToldAs_25 : decode cX2_doubtsToldAs 25 = .ok (.aload_n 0, 1) := by decide +kernel
theorem dX2_doubtsToldAs_26 : decode cX2_doubtsToldAs 26 = .ok (.getfield 45, 3) := by decide +kernel
theorem dX2_doubtsToldAs_29 : decode cX2_doubtsToldAs 29 = .ok (.iload_n 3, 1) := by decide +kernel
theorem dX2_doubtsToldAs_30 : decode cX2_doubtsToldAs 30 = .ok (.iconst 3, 1) := by decide +kernel
theorem dX2_doubtsToldAs_31 : decode cX2_doubtsToldAs 31 = .ok (.imul, 1) := by decide +kernel
theorem dX2_doubtsToldAs_32 : decode cX2_doubtsToldAs 32 = .ok (.iload 4, 2) := by decide +kernel
theorem dX2_doubtsToldAs_34 : decode cX2_doubtsToldAs 34 = .ok (.iadd, 1) := by decide +kernel
theorem dX2_doubtsToldAs_35 : decode cX2_doubtsToldAs 35 = .ok (.iaload, 1) := by decide +kernel
theorem dX2_doubtsToldAs_36 : decode cX2_doubtsToldAs 36 = .ok (.iload_n 1, 1) := by decide +kernel
theorem dX2_doubtsToldAs_37 : decode cX2_doubtsToldAs 37 = .ok (.if_icmp .ne 6, 3) := by decide +kernel
theorem dX2_doubtsToldAs_40 : decode cX2_doubtsToldAs 40 = .ok (.iinc 2 1, 3) := by decide +kernel
theorem dX2_doubtsToldAs_43 : decode cX2_doubtsToldAs 43 = .ok (.iinc 4 1, 3) := by decide +kernel
theorem dX2_doubtsToldAs_46 : decode cX2_doubtsToldAs 46 = .ok (.goto (-31), 3) := by decide +kernel
theorem dX2_doubtsToldAs_49 : decode cX2_doubtsToldAs 49 = .ok (.iinc 3 1, 3) := by decide +kernel
theorem dX2_doubtsToldAs_52 : decode cX2_doubtsToldAs 52 = .ok (.goto (-48), 3) := by decide +kernel
theorem dX2_doubtsToldAs_55 : decode cX2_doubtsToldAs 55 = .ok (.iload_n 2, 1) := by decide +kernel
theorem dX2_doubtsToldAs_56 : decode cX2_doubtsToldAs 56 = .ok (.ireturn, 1) := by decide +kernel
theorem dX2_stands_0 : decode cX2_stands 0 = .ok (.aload_n 0, 1) := by decide +kernel
theorem dX2_stands_1 : decode cX2_stands 1 = .ok (.getfield 24, 3) := by decide +kernel
theorem dX2_stands_4 : decode cX2_stands 4 = .ok (.iload_n 1, 1) := by decide +kernel
theorem dX2_stands_5 : decode cX2_stands 5 = .ok (.iaload, 1) := by decide +kernel
theorem dX2_stands_6 : decode cX2_stands 6 = .ok (.ifCond .ne 27, 3) := by decide +kernel
theorem dX2_stands_9 : decode cX2_stands 9 = .ok (.aload_n 0, 1) := by decide +kernel
theorem dX2_stands_10 : decode cX2_stands 10 = .ok (.getfield 78, 3) := by decide +kernel
theorem dX2_stands_13 : decode cX2_stands 13 = .ok (.aload_n 0, 1) := by decide +kernel
theorem dX2_stands_14 : decode cX2_stands 14 = .ok (.getfield 18, 3) := by decide +kernel
theorem dX2_stands_17 : decode cX2_stands 17 = .ok (.iload_n 1, 1) := by decide +kernel
theorem dX2_stands_18 : decode cX2_stands 18 = .ok (.iaload, 1) := by decide +kernel
theorem dX2_stands_19 : decode cX2_stands 19 = .ok (.aload_n 0, 1) := by decide +kernel
theorem dX2_stands_20 : decode cX2_stands 20 = .ok (.getfield 21, 3) := by decide +kernel
theorem dX2_stands_23 : decode cX2_stands 23 = .ok (.iload_n 1, 1) := by decide +kernel
theorem dX2_stands_24 : decode cX2_stands 24 = .ok (.iaload, 1) := by decide +kernel
theorem dX2_stands_25 : decode cX2_stands 25 = .ok (.iadd, 1) := by decide +kernel
theorem dX2_stands_26 : decode cX2_stands 26 = .ok (.if_icmp .gt 7, 3) := by decide +kernel
theorem dX2_stands_29 : decode cX2_stands 29 = .ok (.iconst 1, 1) := by decide +kernel
theorem dX2_stands_30 : decode cX2_stands 30 = .ok (.goto 4, 3) := by decide +kernel
theorem dX2_stands_33 : decode cX2_stands 33 = .ok (.iconst 0, 1) := by decide +kernel
theorem dX2_stands_34 : decode cX2_stands 34 = .ok (.ireturn, 1) := by decide +kernel
theorem dX2_claims_0 : decode cX2_claims 0 = .ok (.iconst 0, 1) := by decide +kernel
theorem dX2_claims_1 : decode cX2_claims 1 = .ok (.istore_n 1, 1) := by decide +kernel
theorem dX2_claims_2 : decode cX2_claims 2 = .ok (.iconst 0, 1) := by decide +kernel
theorem dX2_claims_3 : decode cX2_claims 3 = .ok (.istore_n 2, 1) := by decide +kernel
theorem dX2_claims_4 : decode cX2_claims 4 = .ok (.iload_n 2, 1) := by decide +kernel
theorem dX2_claims_5 : decode cX2_claims 5 = .ok (.aload_n 0, 1) := by decide +kernel
theorem dX2_claims_6 : decode cX2_claims 6 = .ok (.getfield 51, 3) := by decide +kernel
theorem dX2_claims_9 : decode cX2_claims 9 = .ok (.if_icmp .ge 25, 3) := by decide +kernel
theorem dX2_claims_12 : decode cX2_claims 12 = .ok (.aload_n 0, 1) := by decide +kernel
theorem dX2_claims_13 : decode cX2_claims 13 = .ok (.getfield 9, 3) := by decide +kernel
theorem dX2_claims_16 : decode cX2_claims 16 = .ok (.iload_n 2, 1) := by decide +kernel
theorem dX2_claims_17 : decode cX2_claims 17 = .ok (.iaload, 1) := by decide +kernel
theorem dX2_claims_18 : decode cX2_claims 18 = .ok (.iconst 2, 1) := by decide +kernel
theorem dX2_claims_19 : decode cX2_claims 19 = .ok (.if_icmp .ne 9, 3) := by decide +kernel
theorem dX2_claims_22 : decode cX2_claims 22 = .ok (.iload_n 1, 1) := by decide +kernel
theorem dX2_claims_23 : decode cX2_claims 23 = .ok (.iconst 1, 1) := by decide +kernel
theorem dX2_claims_24 : decode cX2_claims 24 = .ok (.iload_n 2, 1) := by decide +kernel
theorem dX2_claims_25 : decode cX2_claims 25 = .ok (.ishl, 1) := by decide +kernel
theorem dX2_claims_26 : decode cX2_claims 26 = .ok (.ior, 1) := by decide +kernel
theorem dX2_claims_27 : decode cX2_claims 27 = .ok (.istore_n 1, 1) := by decide +kernel
theorem dX2_claims_28 : decode cX2_claims 28 = .ok (.iinc 2 1, 3) := by decide +kernel
theorem dX2_claims_31 : decode cX2_claims 31 = .ok (.goto (-27), 3) := by decide +kernel
theorem dX2_claims_34 : decode cX2_claims 34 = .ok (.iload_n 1, 1) := by decide +kernel
theorem dX2_claims_35 : decode cX2_claims 35 = .ok (.ireturn, 1) := by decide +kernel
theorem dX2_grounds_0 : decode cX2_grounds 0 = .ok (.iconst 1, 1) := by decide +kernel
theorem dX2_grounds_1 : decode cX2_grounds 1 = .ok (.aload_n 0, 1) := by decide +kernel
theorem dX2_grounds_2 : decode cX2_grounds 2 = .ok (.getfield 51, 3) := by decide +kernel
theorem dX2_grounds_5 : decode cX2_grounds 5 = .ok (.ishl, 1) := by decide +kernel
theorem dX2_grounds_6 : decode cX2_grounds 6 = .ok (.iconst 1, 1) := by decide +kernel
theorem dX2_grounds_7 : decode cX2_grounds 7 = .ok (.isub, 1) := by decide +kernel
theorem dX2_grounds_8 : decode cX2_grounds 8 = .ok (.aload_n 0, 1) := by decide +kernel
theorem dX2_grounds_9 : decode cX2_grounds 9 = .ok (.invokevirtual 81, 3) := by decide +kernel
theorem dX2_grounds_12 : decode cX2_grounds 12 = .ok (.iconst (-1), 1) := by decide +kernel
theorem dX2_grounds_13 : decode cX2_grounds 13 = .ok (.ixor, 1) := by decide +kernel
theorem dX2_grounds_14 : decode cX2_grounds 14 = .ok (.iand, 1) := by decide +kernel
theorem dX2_grounds_15 : decode cX2_grounds 15 = .ok (.ireturn, 1) := by decide +kernel
theorem dX2_groundsOf_0 : decode cX2_groundsOf 0 = .ok (.iconst 0, 1) := by decide +kernel
theorem dX2_groundsOf_1 : decode cX2_groundsOf 1 = .ok (.istore_n 2, 1) := by decide +kernel
theorem dX2_groundsOf_2 : decode cX2_groundsOf 2 = .ok (.iconst 0, 1) := by decide +kernel
theorem dX2_groundsOf_3 : decode cX2_groundsOf 3 = .ok (.istore_n 3, 1) := by decide +kernel
theorem dX2_groundsOf_4 : decode cX2_groundsOf 4 = .ok (.iload_n 3, 1) := by decide +kernel
theorem dX2_groundsOf_5 : decode cX2_groundsOf 5 = .ok (.aload_n 0, 1) := by decide +kernel
theorem dX2_groundsOf_6 : decode cX2_groundsOf 6 = .ok (.getfield 51, 3) := by decide +kernel
theorem dX2_groundsOf_9 : decode cX2_groundsOf 9 = .ok (.if_icmp .ge 35, 3) := by decide +kernel
theorem dX2_groundsOf_12 : decode cX2_groundsOf 12 = .ok (.aload_n 0, 1) := by decide +kernel
theorem dX2_groundsOf_13 : decode cX2_groundsOf 13 = .ok (.getfield 9, 3) := by decide +kernel
theorem dX2_groundsOf_16 : decode cX2_groundsOf 16 = .ok (.iload_n 3, 1) := by decide +kernel
theorem dX2_groundsOf_17 : decode cX2_groundsOf 17 = .ok (.iaload, 1) := by decide +kernel
theorem dX2_groundsOf_18 : decode cX2_groundsOf 18 = .ok (.iconst 2, 1) := by decide +kernel
theorem dX2_groundsOf_19 : decode cX2_groundsOf 19 = .ok (.if_icmp .eq 19, 3) := by decide +kernel
theorem dX2_groundsOf_22 : decode cX2_groundsOf 22 = .ok (.aload_n 0, 1) := by decide +kernel
theorem dX2_groundsOf_23 : decode cX2_groundsOf 23 = .ok (.getfield 15, 3) := by decide +kernel
theorem dX2_groundsOf_26 : decode cX2_groundsOf 26 = .ok (.iload_n 3, 1) := by decide +kernel
theorem dX2_groundsOf_27 : decode cX2_groundsOf 27 = .ok (.iaload, 1) := by decide +kernel
theorem dX2_groundsOf_28 : decode cX2_groundsOf 28 = .ok (.iload_n 1, 1) := by decide +kernel
theorem dX2_groundsOf_29 : decode cX2_groundsOf 29 = .ok (.if_icmp .ne 9, 3) := by decide +kernel
theorem dX2_groundsOf_32 : decode cX2_groundsOf 32 = .ok (.iload_n 2, 1) := by decide +kernel
theorem dX2_groundsOf_33 : decode cX2_groundsOf 33 = .ok (.iconst 1, 1) := by decide +kernel
theorem dX2_groundsOf_34 : decode cX2_groundsOf 34 = .ok (.iload_n 3, 1) := by decide +kernel
theorem dX2_groundsOf_35 : decode cX2_groundsOf 35 = .ok (.ishl, 1) := by decide +kernel
theorem dX2_groundsOf_36 : decode cX2_groundsOf 36 = .ok (.ior, 1) := by decide +kernel
theorem dX2_groundsOf_37 : decode cX2_groundsOf 37 = .ok (.istore_n 2, 1) := by decide +kernel
theorem dX2_groundsOf_38 : decode cX2_groundsOf 38 = .ok (.iinc 3 1, 3) := by decide +kernel
theorem dX2_groundsOf_41 : decode cX2_groundsOf 41 = .ok (.goto (-37), 3) := by decide +kernel
theorem dX2_groundsOf_44 : decode cX2_groundsOf 44 = .ok (.iload_n 2, 1) := by decide +kernel
theorem dX2_groundsOf_45 : decode cX2_groundsOf 45 = .ok (.ireturn, 1) := by decide +kernel
theorem dX2_standing_0 : decode cX2_standing 0 = .ok (.iconst 0, 1) := by decide +kernel
theorem dX2_standing_1 : decode cX2_standing 1 = .ok (.istore_n 1, 1) := by decide +kernel
theorem dX2_standing_2 : decode cX2_standing 2 = .ok (.iconst 0, 1) := by decide +kernel
theorem dX2_standing_3 : decode cX2_standing 3 = .ok (.istore_n 2, 1) := by decide +kernel
theorem dX2_standing_4 : decode cX2_standing 4 = .ok (.iload_n 2, 1) := by decide +kernel
theorem dX2_standing_5 : decode cX2_standing 5 = .ok (.aload_n 0, 1) := by decide +kernel
theorem dX2_standing_6 : decode cX2_standing 6 = .ok (.getfield 51, 3) := by decide +kernel
theorem dX2_standing_9 : decode cX2_standing 9 = .ok (.if_icmp .ge 33, 3) := by decide +kernel
theorem dX2_standing_12 : decode cX2_standing 12 = .ok (.aload_n 0, 1) := by decide +kernel
theorem dX2_standing_13 : decode cX2_standing 13 = .ok (.getfield 9, 3) := by decide +kernel
theorem dX2_standing_16 : decode cX2_standing 16 = .ok (.iload_n 2, 1) := by decide +kernel
theorem dX2_standing_17 : decode cX2_standing 17 = .ok (.iaload, 1) := by decide +kernel
theorem dX2_standing_18 : decode cX2_standing 18 = .ok (.iconst 2, 1) := by decide +kernel
theorem dX2_standing_19 : decode cX2_standing 19 = .ok (.if_icmp .eq 17, 3) := by decide +kernel
theorem dX2_standing_22 : decode cX2_standing 22 = .ok (.aload_n 0, 1) := by decide +kernel
theorem dX2_standing_23 : decode cX2_standing 23 = .ok (.iload_n 2, 1) := by decide +kernel
theorem dX2_standing_24 : decode cX2_standing 24 = .ok (.invokevirtual 85, 3) := by decide +kernel
theorem dX2_standing_27 : decode cX2_standing 27 = .ok (.ifCond .eq 9, 3) := by decide +kernel
theorem dX2_standing_30 : decode cX2_standing 30 = .ok (.iload_n 1, 1) := by decide +kernel
theorem dX2_standing_31 : decode cX2_standing 31 = .ok (.iconst 1, 1) := by decide +kernel
theorem dX2_standing_32 : decode cX2_standing 32 = .ok (.iload_n 2, 1) := by decide +kernel
theorem dX2_standing_33 : decode cX2_standing 33 = .ok (.ishl, 1) := by decide +kernel
theorem dX2_standing_34 : decode cX2_standing 34 = .ok (.ior, 1) := by decide +kernel
theorem dX2_standing_35 : decode cX2_standing 35 = .ok (.istore_n 1, 1) := by decide +kernel
theorem dX2_standing_36 : decode cX2_standing 36 = .ok (.iinc 2 1, 3) := by decide +kernel
theorem dX2_standing_39 : decode cX2_standing 39 = .ok (.goto (-35), 3) := by decide +kernel
theorem dX2_standing_42 : decode cX2_standing 42 = .ok (.iload_n 1, 1) := by decide +kernel
theorem dX2_standing_43 : decode cX2_standing 43 = .ok (.ireturn, 1) := by decide +kernel
theorem dX2_isBorneUp_0 : decode cX2_isBorneUp 0 = .ok (.aload_n 0, 1) := by decide +kernel
theorem dX2_isBorneUp_1 : decode cX2_isBorneUp 1 = .ok (.getfield 36, 3) := by decide +kernel
theorem dX2_isBorneUp_4 : decode cX2_isBorneUp 4 = .ok (.iload_n 1, 1) := by decide +kernel
theorem dX2_isBorneUp_5 : decode cX2_isBorneUp 5 = .ok (.iaload, 1) := by decide +kernel
theorem dX2_isBorneUp_6 : decode cX2_isBorneUp 6 = .ok (.iload_n 2, 1) := by decide +kernel
theorem dX2_isBorneUp_7 : decode cX2_isBorneUp 7 = .ok (.iand, 1) := by decide +kernel
theorem dX2_isBorneUp_8 : decode cX2_isBorneUp 8 = .ok (.istore_n 3, 1) := by decide +kernel
theorem dX2_isBorneUp_9 : decode cX2_isBorneUp 9 = .ok (.aload_n 0, 1) := by decide +kernel
theorem dX2_isBorneUp_10 : decode cX2_isBorneUp 10 = .ok (.getfield 27, 3) := by decide +kernel
theorem dX2_isBorneUp_13 : decode cX2_isBorneUp 13 = .ok (.iload_n 1, 1) := by decide +kernel
theorem dX2_isBorneUp_14 : decode cX2_isBorneUp 14 = .ok (.iaload, 1) := by decide +kernel
theorem dX2_isBorneUp_15 : decode cX2_isBorneUp 15 = .ok (.tableswitch 72 0 2 #[25, 41, 51], 25) := by decide +kernel
theorem dX2_isBorneUp_40 : decode cX2_isBorneUp 40 = .ok (.iload_n 3, 1) := by decide +kernel
theorem dX2_isBorneUp_41 : decode cX2_isBorneUp 41 = .ok (.aload_n 0, 1) := by decide +kernel
theorem dX2_isBorneUp_42 : decode cX2_isBorneUp 42 = .ok (.getfield 36, 3) := by decide +kernel
theorem dX2_isBorneUp_45 : decode cX2_isBorneUp 45 = .ok (.iload_n 1, 1) := by decide +kernel
theorem dX2_isBorneUp_46 : decode cX2_isBorneUp 46 = .ok (.iaload, 1) := by decide +kernel
theorem dX2_isBorneUp_47 : decode cX2_isBorneUp 47 = .ok (.if_icmp .ne 7, 3) := by decide +kernel
theorem dX2_isBorneUp_50 : decode cX2_isBorneUp 50 = .ok (.iconst 1, 1) := by decide +kernel
theorem dX2_isBorneUp_51 : decode cX2_isBorneUp 51 = .ok (.goto 4, 3) := by decide +kernel
theorem dX2_isBorneUp_54 : decode cX2_isBorneUp 54 = .ok (.iconst 0, 1) := by decide +kernel
theorem dX2_isBorneUp_55 : decode cX2_isBorneUp 55 = .ok (.ireturn, 1) := by decide +kernel
theorem dX2_isBorneUp_56 : decode cX2_isBorneUp 56 = .ok (.iload_n 3, 1) := by decide +kernel
theorem dX2_isBorneUp_57 : decode cX2_isBorneUp 57 = .ok (.ifCond .eq 7, 3) := by decide +kernel
theorem dX2_isBorneUp_60 : decode cX2_isBorneUp 60 = .ok (.iconst 1, 1) := by decide +kernel
theorem dX2_isBorneUp_61 : decode cX2_isBorneUp 61 = .ok (.goto 4, 3) := by decide +kernel
theorem dX2_isBorneUp_64 : decode cX2_isBorneUp 64 = .ok (.iconst 0, 1) := by decide +kernel
theorem dX2_isBorneUp_65 : decode cX2_isBorneUp 65 = .ok (.ireturn, 1) := by decide +kernel
theorem dX2_isBorneUp_66 : decode cX2_isBorneUp 66 = .ok (.iconst 2, 1) := by decide +kernel
theorem dX2_isBorneUp_67 : decode cX2_isBorneUp 67 = .ok (.iload_n 3, 1) := by decide +kernel
theorem dX2_isBorneUp_68 : decode cX2_isBorneUp 68 = .ok (.invokestatic 88, 3) := by decide +kernel
theorem dX2_isBorneUp_71 : decode cX2_isBorneUp 71 = .ok (.imul, 1) := by decide +kernel
theorem dX2_isBorneUp_72 : decode cX2_isBorneUp 72 = .ok (.aload_n 0, 1) := by decide +kernel
theorem dX2_isBorneUp_73 : decode cX2_isBorneUp 73 = .ok (.getfield 33, 3) := by decide +kernel
theorem dX2_isBorneUp_76 : decode cX2_isBorneUp 76 = .ok (.iload_n 1, 1) := by decide +kernel
theorem dX2_isBorneUp_77 : decode cX2_isBorneUp 77 = .ok (.iaload, 1) := by decide +kernel
theorem dX2_isBorneUp_78 : decode cX2_isBorneUp 78 = .ok (.if_icmp .le 7, 3) := by decide +kernel
theorem dX2_isBorneUp_81 : decode cX2_isBorneUp 81 = .ok (.iconst 1, 1) := by decide +kernel
theorem dX2_isBorneUp_82 : decode cX2_isBorneUp 82 = .ok (.goto 4, 3) := by decide +kernel
theorem dX2_isBorneUp_85 : decode cX2_isBorneUp 85 = .ok (.iconst 0, 1) := by decide +kernel
theorem dX2_isBorneUp_86 : decode cX2_isBorneUp 86 = .ok (.ireturn, 1) := by decide +kernel
theorem dX2_isBorneUp_87 : decode cX2_isBorneUp 87 = .ok (.iload_n 2, 1) := by decide +kernel
theorem dX2_isBorneUp_88 : decode cX2_isBorneUp 88 = .ok (.aload_n 0, 1) := by decide +kernel
theorem dX2_isBorneUp_89 : decode cX2_isBorneUp 89 = .ok (.getfield 39, 3) := by decide +kernel
theorem dX2_isBorneUp_92 : decode cX2_isBorneUp 92 = .ok (.iload_n 1, 1) := by decide +kernel
theorem dX2_isBorneUp_93 : decode cX2_isBorneUp 93 = .ok (.bipush 6, 2) := by decide +kernel
theorem dX2_isBorneUp_95 : decode cX2_isBorneUp 95 = .ok (.imul, 1) := by decide +kernel
theorem dX2_isBorneUp_96 : decode cX2_isBorneUp 96 = .ok (.iaload, 1) := by decide +kernel
theorem dX2_isBorneUp_97 : decode cX2_isBorneUp 97 = .ok (.ishr, 1) := by decide +kernel
theorem dX2_isBorneUp_98 : decode cX2_isBorneUp 98 = .ok (.iconst 1, 1) := by decide +kernel
theorem dX2_isBorneUp_99 : decode cX2_isBorneUp 99 = .ok (.iand, 1) := by decide +kernel
theorem dX2_isBorneUp_100 : decode cX2_isBorneUp 100 = .ok (.iconst 1, 1) := by decide +kernel
theorem dX2_isBorneUp_101 : decode cX2_isBorneUp 101 = .ok (.if_icmp .ne 7, 3) := by decide +kernel
theorem dX2_isBorneUp_104 : decode cX2_isBorneUp 104 = .ok (.iconst 1, 1) := by decide +kernel
theorem dX2_isBorneUp_105 : decode cX2_isBorneUp 105 = .ok (.goto 4, 3) := by decide +kernel
theorem dX2_isBorneUp_108 : decode cX2_isBorneUp 108 = .ok (.iconst 0, 1) := by decide +kernel
theorem dX2_isBorneUp_109 : decode cX2_isBorneUp 109 = .ok (.ireturn, 1) := by decide +kernel
theorem dX2_nextRound_0 : decode cX2_nextRound 0 = .ok (.iload_n 1, 1) := by decide +kernel
theorem dX2_nextRound_1 : decode cX2_nextRound 1 = .ok (.istore_n 3, 1) := by decide +kernel
theorem dX2_nextRound_2 : decode cX2_nextRound 2 = .ok (.iconst 0, 1) := by decide +kernel
theorem dX2_nextRound_3 : decode cX2_nextRound 3 = .ok (.istore 4, 2) := by decide +kernel
theorem dX2_nextRound_5 : decode cX2_nextRound 5 = .ok (.iload 4, 2) := by decide +kernel
theorem dX2_nextRound_7 : decode cX2_nextRound 7 = .ok (.aload_n 0, 1) := by decide +kernel
theorem dX2_nextRound_8 : decode cX2_nextRound 8 = .ok (.getfield 59, 3) := by decide +kernel
theorem dX2_nextRound_11 : decode cX2_nextRound 11 = .ok (.if_icmp .ge 58, 3) := by decide +kernel
theorem dX2_nextRound_14 : decode cX2_nextRound 14 = .ok (.iconst 1, 1) := by decide +kernel
theorem dX2_nextRound_15 : decode cX2_nextRound 15 = .ok (.aload_n 0, 1) := by decide +kernel
theorem dX2_nextRound_16 : decode cX2_nextRound 16 = .ok (.getfield 30, 3) := by decide +kernel
theorem dX2_nextRound_19 : decode cX2_nextRound 19 = .ok (.iload 4, 2) := by decide +kernel
theorem dX2_nextRound_21 : decode cX2_nextRound 21 = .ok (.iaload, 1) := by decide +kernel
theorem dX2_nextRound_22 : decode cX2_nextRound 22 = .ok (.ishl, 1) := by decide +kernel
theorem dX2_nextRound_23 : decode cX2_nextRound 23 = .ok (.iload_n 2, 1) := by decide +kernel
theorem dX2_nextRound_24 : decode cX2_nextRound 24 = .ok (.iconst (-1), 1) := by decide +kernel
theorem dX2_nextRound_25 : decode cX2_nextRound 25 = .ok (.ixor, 1) := by decide +kernel
theorem dX2_nextRound_26 : decode cX2_nextRound 26 = .ok (.iand, 1) := by decide +kernel
theorem dX2_nextRound_27 : decode cX2_nextRound 27 = .ok (.iload_n 3, 1) := by decide +kernel
theorem dX2_nextRound_28 : decode cX2_nextRound 28 = .ok (.iconst (-1), 1) := by decide +kernel
theorem dX2_nextRound_29 : decode cX2_nextRound 29 = .ok (.ixor, 1) := by decide +kernel
theorem dX2_nextRound_30 : decode cX2_nextRound 30 = .ok (.iand, 1) := by decide +kernel
theorem dX2_nextRound_31 : decode cX2_nextRound 31 = .ok (.istore 5, 2) := by decide +kernel
theorem dX2_nextRound_33 : decode cX2_nextRound 33 = .ok (.iload 5, 2) := by decide +kernel
theorem dX2_nextRound_35 : decode cX2_nextRound 35 = .ok (.ifCond .eq 28, 3) := by decide +kernel
theorem dX2_nextRound_38 : decode cX2_nextRound 38 = .ok (.aload_n 0, 1) := by decide +kernel
theorem dX2_nextRound_39 : decode cX2_nextRound 39 = .ok (.getfield 42, 3) := by decide +kernel
theorem dX2_nextRound_42 : decode cX2_nextRound 42 = .ok (.iload 4, 2) := by decide +kernel
theorem dX2_nextRound_44 : decode cX2_nextRound 44 = .ok (.iaload, 1) := by decide +kernel
theorem dX2_nextRound_45 : decode cX2_nextRound 45 = .ok (.ifCond .ne 18, 3) := by decide +kernel
theorem dX2_nextRound_48 : decode cX2_nextRound 48 = .ok (.aload_n 0, 1) := by decide +kernel
theorem dX2_nextRound_49 : decode cX2_nextRound 49 = .ok (.iload 4, 2) := by decide +kernel
theorem dX2_nextRound_51 : decode cX2_nextRound 51 = .ok (.iload_n 1, 1) := by decide +kernel
theorem dX2_nextRound_52 : decode cX2_nextRound 52 = .ok (.invokevirtual 93, 3) := by decide +kernel
theorem dX2_nextRound_55 : decode cX2_nextRound 55 = .ok (.ifCond .eq 8, 3) := by decide +kernel
theorem dX2_nextRound_58 : decode cX2_nextRound 58 = .ok (.iload_n 3, 1) := by decide +kernel
theorem dX2_nextRound_59 : decode cX2_nextRound 59 = .ok (.iload 5, 2) := by decide +kernel
theorem dX2_nextRound_61 : decode cX2_nextRound 61 = .ok (.ior, 1) := by decide +kernel
theorem dX2_nextRound_62 : decode cX2_nextRound 62 = .ok (.istore_n 3, 1) := by decide +kernel
theorem dX2_nextRound_63 : decode cX2_nextRound 63 = .ok (.iinc 4 1, 3) := by decide +kernel
theorem dX2_nextRound_66 : decode cX2_nextRound 66 = .ok (.goto (-61), 3) := by decide +kernel
theorem dX2_nextRound_69 : decode cX2_nextRound 69 = .ok (.iload_n 3, 1) := by decide +kernel
theorem dX2_nextRound_70 : decode cX2_nextRound 70 = .ok (.ireturn, 1) := by decide +kernel
theorem dX2_spread_0 : decode cX2_spread 0 = .ok (.iload_n 1, 1) := by decide +kernel
theorem dX2_spread_1 : decode cX2_spread 1 = .ok (.istore_n 3, 1) := by decide +kernel
theorem dX2_spread_2 : decode cX2_spread 2 = .ok (.iconst 0, 1) := by decide +kernel
theorem dX2_spread_3 : decode cX2_spread 3 = .ok (.istore 4, 2) := by decide +kernel
theorem dX2_spread_5 : decode cX2_spread 5 = .ok (.iload 4, 2) := by decide +kernel
theorem dX2_spread_7 : decode cX2_spread 7 = .ok (.bipush 20, 2) := by decide +kernel
theorem dX2_spread_9 : decode cX2_spread 9 = .ok (.if_icmp .ge 29, 3) := by decide +kernel
theorem dX2_spread_12 : decode cX2_spread 12 = .ok (.aload_n 0, 1) := by decide +kernel
theorem dX2_spread_13 : decode cX2_spread 13 = .ok (.iload_n 3, 1) := by decide +kernel
theorem dX2_spread_14 : decode cX2_spread 14 = .ok (.iload_n 2, 1) := by decide +kernel
theorem dX2_spread_15 : decode cX2_spread 15 = .ok (.invokevirtual 97, 3) := by decide +kernel
theorem dX2_spread_18 : decode cX2_spread 18 = .ok (.istore 5, 2) := by decide +kernel
theorem dX2_spread_20 : decode cX2_spread 20 = .ok (.iload 5, 2) := by decide +kernel
theorem dX2_spread_22 : decode cX2_spread 22 = .ok (.iload_n 3, 1) := by decide +kernel
theorem dX2_spread_23 : decode cX2_spread 23 = .ok (.if_icmp .ne 6, 3) := by decide +kernel
theorem dX2_spread_26 : decode cX2_spread 26 = .ok (.goto 12, 3) := by decide +kernel
theorem dX2_spread_29 : decode cX2_spread 29 = .ok (.iload 5, 2) := by decide +kernel
theorem dX2_spread_31 : decode cX2_spread 31 = .ok (.istore_n 3, 1) := by decide +kernel
theorem dX2_spread_32 : decode cX2_spread 32 = .ok (.iinc 4 1, 3) := by decide +kernel
theorem dX2_spread_35 : decode cX2_spread 35 = .ok (.goto (-30), 3) := by decide +kernel
theorem dX2_spread_38 : decode cX2_spread 38 = .ok (.iload_n 3, 1) := by decide +kernel
theorem dX2_spread_39 : decode cX2_spread 39 = .ok (.ireturn, 1) := by decide +kernel
theorem dX2_shownNow_0 : decode cX2_shownNow 0 = .ok (.aload_n 0, 1) := by decide +kernel
theorem dX2_shownNow_1 : decode cX2_shownNow 1 = .ok (.aload_n 0, 1) := by decide +kernel
theorem dX2_shownNow_2 : decode cX2_shownNow 2 = .ok (.invokevirtual 100, 3) := by decide +kernel
theorem dX2_shownNow_5 : decode cX2_shownNow 5 = .ok (.iconst 0, 1) := by decide +kernel
theorem dX2_shownNow_6 : decode cX2_shownNow 6 = .ok (.invokevirtual 103, 3) := by decide +kernel
theorem dX2_shownNow_9 : decode cX2_shownNow 9 = .ok (.ireturn, 1) := by decide +kernel
theorem dX2_roundsNow_0 : decode cX2_roundsNow 0 = .ok (.iconst 0, 1) := by decide +kernel
theorem dX2_roundsNow_1 : decode cX2_roundsNow 1 = .ok (.istore_n 1, 1) := by decide +kernel
theorem dX2_roundsNow_2 : decode cX2_roundsNow 2 = .ok (.aload_n 0, 1) := by decide +kernel
theorem dX2_roundsNow_3 : decode cX2_roundsNow 3 = .ok (.invokevirtual 100, 3) := by decide +kernel
theorem dX2_roundsNow_6 : decode cX2_roundsNow 6 = .ok (.istore_n 2, 1) := by decide +kernel
theorem dX2_roundsNow_7 : decode cX2_roundsNow 7 = .ok (.iconst 0, 1) := by decide +kernel
theorem dX2_roundsNow_8 : decode cX2_roundsNow 8 = .ok (.istore_n 3, 1) := by decide +kernel
theorem dX2_roundsNow_9 : decode cX2_roundsNow 9 = .ok (.iload_n 3, 1) := by decide +kernel
theorem dX2_roundsNow_10 : decode cX2_roundsNow 10 = .ok (.bipush 20, 2) := by decide +kernel
theorem dX2_roundsNow_12 : decode cX2_roundsNow 12 = .ok (.if_icmp .ge 32, 3) := by decide +kernel
theorem dX2_roundsNow_15 : decode cX2_roundsNow 15 = .ok (.aload_n 0, 1) := by decide +kernel
theorem dX2_roundsNow_16 : decode cX2_roundsNow 16 = .ok (.iload_n 2, 1) := by decide +kernel
theorem dX2_roundsNow_17 : decode cX2_roundsNow 17 = .ok (.iconst 0, 1) := by decide +kernel
theorem dX2_roundsNow_18 : decode cX2_roundsNow 18 = .ok (.invokevirtual 97, 3) := by decide +kernel
theorem dX2_roundsNow_21 : decode cX2_roundsNow 21 = .ok (.istore 4, 2) := by decide +kernel
theorem dX2_roundsNow_23 : decode cX2_roundsNow 23 = .ok (.iload 4, 2) := by decide +kernel
theorem dX2_roundsNow_25 : decode cX2_roundsNow 25 = .ok (.iload_n 2, 1) := by decide +kernel
theorem dX2_roundsNow_26 : decode cX2_roundsNow 26 = .ok (.if_icmp .ne 6, 3) := by decide +kernel
theorem dX2_roundsNow_29 : decode cX2_roundsNow 29 = .ok (.goto 15, 3) := by decide +kernel
theorem dX2_roundsNow_32 : decode cX2_roundsNow 32 = .ok (.iload 4, 2) := by decide +kernel
theorem dX2_roundsNow_34 : decode cX2_roundsNow 34 = .ok (.istore_n 2, 1) := by decide +kernel
theorem dX2_roundsNow_35 : decode cX2_roundsNow 35 = .ok (.iinc 1 1, 3) := by decide +kernel
theorem dX2_roundsNow_38 : decode cX2_roundsNow 38 = .ok (.iinc 3 1, 3) := by decide +kernel
theorem dX2_roundsNow_41 : decode cX2_roundsNow 41 = .ok (.goto (-32), 3) := by decide +kernel
theorem dX2_roundsNow_44 : decode cX2_roundsNow 44 = .ok (.iload_n 1, 1) := by decide +kernel
theorem dX2_roundsNow_45 : decode cX2_roundsNow 45 = .ok (.ireturn, 1) := by decide +kernel
theorem dX2_circles_0 : decode cX2_circles 0 = .ok (.iconst 0, 1) := by decide +kernel
theorem dX2_circles_1 : decode cX2_circles 1 = .ok (.istore_n 1, 1) := by decide +kernel
theorem dX2_circles_2 : decode cX2_circles 2 = .ok (.iload_n 1, 1) := by decide +kernel
theorem dX2_circles_3 : decode cX2_circles 3 = .ok (.aload_n 0, 1) := by decide +kernel
theorem dX2_circles_4 : decode cX2_circles 4 = .ok (.getfield 51, 3) := by decide +kernel
theorem dX2_circles_7 : decode cX2_circles 7 = .ok (.if_icmp .ge 16, 3) := by decide +kernel
theorem dX2_circles_10 : decode cX2_circles 10 = .ok (.aload_n 0, 1) := by decide +kernel
theorem dX2_circles_11 : decode cX2_circles 11 = .ok (.getfield 48, 3) := by decide +kernel
theorem dX2_circles_14 : decode cX2_circles 14 = .ok (.iload_n 1, 1) := by decide +kernel
theorem dX2_circles_15 : decode cX2_circles 15 = .ok (.iconst 0, 1) := by decide +kernel
theorem dX2_circles_16 : decode cX2_circles 16 = .ok (.iastore, 1) := by decide +kernel
theorem dX2_circles_17 : decode cX2_circles 17 = .ok (.iinc 1 1, 3) := by decide +kernel
theorem dX2_circles_20 : decode cX2_circles 20 = .ok (.goto (-18), 3) := by decide +kernel
theorem dX2_circles_23 : decode cX2_circles 23 = .ok (.iconst 0, 1) := by decide +kernel
theorem dX2_circles_24 : decode cX2_circles 24 = .ok (.istore_n 1, 1) := by decide +kernel
theorem dX2_circles_25 : decode cX2_circles 25 = .ok (.iload_n 1, 1) := by decide +kernel
theorem dX2_circles_26 : decode cX2_circles 26 = .ok (.aload_n 0, 1) := by decide +kernel
theorem dX2_circles_27 : decode cX2_circles 27 = .ok (.getfield 59, 3) := by decide +kernel
theorem dX2_circles_30 : decode cX2_circles 30 = .ok (.if_icmp .ge 29, 3) := by decide +kernel
theorem dX2_circles_33 : decode cX2_circles 33 = .ok (.aload_n 0, 1) := by decide +kernel
theorem dX2_circles_34 : decode cX2_circles 34 = .ok (.getfield 48, 3) := by decide +kernel
theorem dX2_circles_37 : decode cX2_circles 37 = .ok (.aload_n 0, 1) := by decide +kernel
theorem dX2_circles_38 : decode cX2_circles 38 = .ok (.getfield 30, 3) := by decide +kernel
theorem dX2_circles_41 : decode cX2_circles 41 = .ok (.iload_n 1, 1) := by decide +kernel
theorem dX2_circles_42 : decode cX2_circles 42 = .ok (.iaload, 1) := by decide +kernel
theorem dX2_circles_43 : decode cX2_circles 43 = .ok (.dup2, 1) := by decide +kernel
theorem dX2_circles_44 : decode cX2_circles 44 = .ok (.iaload, 1) := by decide +kernel
theorem dX2_circles_45 : decode cX2_circles 45 = .ok (.aload_n 0, 1) := by decide +kernel
theorem dX2_circles_46 : decode cX2_circles 46 = .ok (.getfield 36, 3) := by decide +kernel
theorem dX2_circles_49 : decode cX2_circles 49 = .ok (.iload_n 1, 1) := by decide +kernel
theorem dX2_circles_50 : decode cX2_circles 50 = .ok (.iaload, 1) := by decide +kernel
theorem dX2_circles_51 : decode cX2_circles 51 = .ok (.ior, 1) := by decide +kernel
theorem dX2_circles_52 : decode cX2_circles 52 = .ok (.iastore, 1) := by decide +kernel
theorem dX2_circles_53 : decode cX2_circles 53 = .ok (.iinc 1 1, 3) := by decide +kernel
theorem dX2_circles_56 : decode cX2_circles 56 = .ok (.goto (-31), 3) := by decide +kernel
theorem dX2_circles_59 : decode cX2_circles 59 = .ok (.iconst 0, 1) := by decide +kernel
theorem dX2_circles_60 : decode cX2_circles 60 = .ok (.istore_n 1, 1) := by decide +kernel
theorem dX2_circles_61 : decode cX2_circles 61 = .ok (.iload_n 1, 1) := by decide +kernel
theorem dX2_circles_62 : decode cX2_circles 62 = .ok (.aload_n 0, 1) := by decide +kernel
theorem dX2_circles_63 : decode cX2_circles 63 = .ok (.getfield 51, 3) := by decide +kernel
theorem dX2_circles_66 : decode cX2_circles 66 = .ok (.if_icmp .ge 54, 3) := by decide +kernel
theorem dX2_circles_69 : decode cX2_circles 69 = .ok (.iconst 0, 1) := by decide +kernel
theorem dX2_circles_70 : decode cX2_circles 70 = .ok (.istore_n 2, 1) := by decide +kernel
theorem dX2_circles_71 : decode cX2_circles 71 = .ok (.iload_n 2, 1) := by decide +kernel
theorem dX2_circles_72 : decode cX2_circles 72 = .ok (.aload_n 0, 1) := by decide +kernel
theorem dX2_circles_73 : decode cX2_circles 73 = .ok (.getfield 51, 3) := by decide +kernel
theorem dX2_circles_76 : decode cX2_circles 76 = .ok (.if_icmp .ge 38, 3) := by decide +kernel
theorem dX2_circles_79 : decode cX2_circles 79 = .ok (.aload_n 0, 1) := by decide +kernel
theorem dX2_circles_80 : decode cX2_circles 80 = .ok (.getfield 48, 3) := by decide +kernel
theorem dX2_circles_83 : decode cX2_circles 83 = .ok (.iload_n 2, 1) := by decide +kernel
theorem dX2_circles_84 : decode cX2_circles 84 = .ok (.iaload, 1) := by decide +kernel
theorem dX2_circles_85 : decode cX2_circles 85 = .ok (.iload_n 1, 1) := by decide +kernel
theorem dX2_circles_86 : decode cX2_circles 86 = .ok (.invokestatic 62, 3) := by decide +kernel
theorem dX2_circles_89 : decode cX2_circles 89 = .ok (.iconst 1, 1) := by decide +kernel
theorem dX2_circles_90 : decode cX2_circles 90 = .ok (.if_icmp .ne 18, 3) := by decide +kernel
theorem dX2_circles_93 : decode cX2_circles 93 = .ok (.aload_n 0, 1) := by decide +kernel
theorem dX2_circles_94 : decode cX2_circles 94 = .ok (.getfield 48, 3) := by decide +kernel
theorem dX2_circles_97 : decode cX2_circles 97 = .ok (.iload_n 2, 1) := by decide +kernel
theorem dX2_circles_98 : decode cX2_circles 98 = .ok (.dup2, 1) := by decide +kernel
theorem dX2_circles_99 : decode cX2_circles 99 = .ok (.iaload, 1) := by decide +kernel
theorem dX2_circles_100 : decode cX2_circles 100 = .ok (.aload_n 0, 1) := by decide +kernel
theorem dX2_circles_101 : decode cX2_circles 101 = .ok (.getfield 48, 3) := by decide +kernel
theorem dX2_circles_104 : decode cX2_circles 104 = .ok (.iload_n 1, 1) := by decide +kernel
theorem dX2_circles_105 : decode cX2_circles 105 = .ok (.iaload, 1) := by decide +kernel
theorem dX2_circles_106 : decode cX2_circles 106 = .ok (.ior, 1) := by decide +kernel
theorem dX2_circles_107 : decode cX2_circles 107 = .ok (.iastore, 1) := by decide +kernel
theorem dX2_circles_108 : decode cX2_circles 108 = .ok (.iinc 2 1, 3) := by decide +kernel
theorem dX2_circles_111 : decode cX2_circles 111 = .ok (.goto (-40), 3) := by decide +kernel
theorem dX2_circles_114 : decode cX2_circles 114 = .ok (.iinc 1 1, 3) := by decide +kernel
theorem dX2_circles_117 : decode cX2_circles 117 = .ok (.goto (-56), 3) := by decide +kernel
theorem dX2_circles_120 : decode cX2_circles 120 = .ok (.iconst 0, 1) := by decide +kernel
theorem dX2_circles_121 : decode cX2_circles 121 = .ok (.istore_n 1, 1) := by decide +kernel
theorem dX2_circles_122 : decode cX2_circles 122 = .ok (.iconst 0, 1) := by decide +kernel
theorem dX2_circles_123 : decode cX2_circles 123 = .ok (.istore_n 2, 1) := by decide +kernel
theorem dX2_circles_124 : decode cX2_circles 124 = .ok (.iload_n 2, 1) := by decide +kernel
theorem dX2_circles_125 : decode cX2_circles 125 = .ok (.aload_n 0, 1) := by decide +kernel
theorem dX2_circles_126 : decode cX2_circles 126 = .ok (.getfield 51, 3) := by decide +kernel
theorem dX2_circles_129 : decode cX2_circles 129 = .ok (.if_icmp .ge 22, 3) := by decide +kernel
theorem dX2_circles_132 : decode cX2_circles 132 = .ok (.iload_n 1, 1) := by decide +kernel
theorem dX2_circles_133 : decode cX2_circles 133 = .ok (.aload_n 0, 1) := by decide +kernel
theorem dX2_circles_134 : decode cX2_circles 134 = .ok (.getfield 48, 3) := by decide +kernel
theorem dX2_circles_137 : decode cX2_circles 137 = .ok (.iload_n 2, 1) := by decide +kernel
theorem dX2_circles_138 : decode cX2_circles 138 = .ok (.iaload, 1) := by decide +kernel
theorem dX2_circles_139 : decode cX2_circles 139 = .ok (.iconst 1, 1) := by decide +kernel
theorem dX2_circles_140 : decode cX2_circles 140 = .ok (.iload_n 2, 1) := by decide +kernel
theorem dX2_circles_141 : decode cX2_circles 141 = .ok (.ishl, 1) := by decide +kernel
theorem dX2_circles_142 : decode cX2_circles 142 = .ok (.iand, 1) := by decide +kernel
theorem dX2_circles_143 : decode cX2_circles 143 = .ok (.ior, 1) := by decide +kernel
theorem dX2_circles_144 : decode cX2_circles 144 = .ok (.istore_n 1, 1) := by decide +kernel
theorem dX2_circles_145 : decode cX2_circles 145 = .ok (.iinc 2 1, 3) := by decide +kernel
theorem dX2_circles_148 : decode cX2_circles 148 = .ok (.goto (-24), 3) := by decide +kernel
theorem dX2_circles_151 : decode cX2_circles 151 = .ok (.iload_n 1, 1) := by decide +kernel
theorem dX2_circles_152 : decode cX2_circles 152 = .ok (.ireturn, 1) := by decide +kernel
theorem dX2_timesPart_0 : decode cX2_timesPart 0 = .ok (.iconst 0, 1) := by decide +kernel
theorem dX2_timesPart_1 : decode cX2_timesPart 1 = .ok (.istore_n 2, 1) := by decide +kernel
theorem dX2_timesPart_2 : decode cX2_timesPart 2 = .ok (.iconst 0, 1) := by decide +kernel
theorem dX2_timesPart_3 : decode cX2_timesPart 3 = .ok (.istore_n 3, 1) := by decide +kernel
theorem dX2_timesPart_4 : decode cX2_timesPart 4 = .ok (.iload_n 3, 1) := by decide +kernel
theorem dX2_timesPart_5 : decode cX2_timesPart 5 = .ok (.aload_n 0, 1) := by decide +kernel
theorem dX2_timesPart_6 : decode cX2_timesPart 6 = .ok (.getfield 59, 3) := by decide +kernel
theorem dX2_timesPart_9 : decode cX2_timesPart 9 = .ok (.if_icmp .ge 22, 3) := by decide +kernel
theorem dX2_timesPart_12 : decode cX2_timesPart 12 = .ok (.iload_n 2, 1) := by decide +kernel
theorem dX2_timesPart_13 : decode cX2_timesPart 13 = .ok (.aload_n 0, 1) := by decide +kernel
theorem dX2_timesPart_14 : decode cX2_timesPart 14 = .ok (.getfield 36, 3) := by decide +kernel
theorem dX2_timesPart_17 : decode cX2_timesPart 17 = .ok (.iload_n 3, 1) := by decide +kernel
theorem dX2_timesPart_18 : decode cX2_timesPart 18 = .ok (.iaload, 1) := by decide +kernel
theorem dX2_timesPart_19 : decode cX2_timesPart 19 = .ok (.iload_n 1, 1) := by decide +kernel
theorem dX2_timesPart_20 : decode cX2_timesPart 20 = .ok (.invokestatic 62, 3) := by decide +kernel
theorem dX2_timesPart_23 : decode cX2_timesPart 23 = .ok (.iadd, 1) := by decide +kernel
theorem dX2_timesPart_24 : decode cX2_timesPart 24 = .ok (.istore_n 2, 1) := by decide +kernel
theorem dX2_timesPart_25 : decode cX2_timesPart 25 = .ok (.iinc 3 1, 3) := by decide +kernel
theorem dX2_timesPart_28 : decode cX2_timesPart 28 = .ok (.goto (-24), 3) := by decide +kernel
theorem dX2_timesPart_31 : decode cX2_timesPart 31 = .ok (.iload_n 2, 1) := by decide +kernel
theorem dX2_timesPart_32 : decode cX2_timesPart 32 = .ok (.ireturn, 1) := by decide +kernel
theorem dX2_timesHeld_0 : decode cX2_timesHeld 0 = .ok (.iconst 0, 1) := by decide +kernel
theorem dX2_timesHeld_1 : decode cX2_timesHeld 1 = .ok (.istore_n 2, 1) := by decide +kernel
theorem dX2_timesHeld_2 : decode cX2_timesHeld 2 = .ok (.iconst 0, 1) := by decide +kernel
theorem dX2_timesHeld_3 : decode cX2_timesHeld 3 = .ok (.istore_n 3, 1) := by decide +kernel
theorem dX2_timesHeld_4 : decode cX2_timesHeld 4 = .ok (.iload_n 3, 1) := by decide +kernel
theorem dX2_timesHeld_5 : decode cX2_timesHeld 5 = .ok (.aload_n 0, 1) := by decide +kernel
theorem dX2_timesHeld_6 : decode cX2_timesHeld 6 = .ok (.getfield 59, 3) := by decide +kernel
theorem dX2_timesHeld_9 : decode cX2_timesHeld 9 = .ok (.if_icmp .ge 22, 3) := by decide +kernel
theorem dX2_timesHeld_12 : decode cX2_timesHeld 12 = .ok (.aload_n 0, 1) := by decide +kernel
theorem dX2_timesHeld_13 : decode cX2_timesHeld 13 = .ok (.getfield 30, 3) := by decide +kernel
theorem dX2_timesHeld_16 : decode cX2_timesHeld 16 = .ok (.iload_n 3, 1) := by decide +kernel
theorem dX2_timesHeld_17 : decode cX2_timesHeld 17 = .ok (.iaload, 1) := by decide +kernel
theorem dX2_timesHeld_18 : decode cX2_timesHeld 18 = .ok (.iload_n 1, 1) := by decide +kernel
theorem dX2_timesHeld_19 : decode cX2_timesHeld 19 = .ok (.if_icmp .ne 6, 3) := by decide +kernel
theorem dX2_timesHeld_22 : decode cX2_timesHeld 22 = .ok (.iinc 2 1, 3) := by decide +kernel
theorem dX2_timesHeld_25 : decode cX2_timesHeld 25 = .ok (.iinc 3 1, 3) := by decide +kernel
theorem dX2_timesHeld_28 : decode cX2_timesHeld 28 = .ok (.goto (-24), 3) := by decide +kernel
theorem dX2_timesHeld_31 : decode cX2_timesHeld 31 = .ok (.iload_n 2, 1) := by decide +kernel
theorem dX2_timesHeld_32 : decode cX2_timesHeld 32 = .ok (.ireturn, 1) := by decide +kernel
theorem dX2_kindOf_0 : decode cX2_kindOf 0 = .ok (.aload_n 0, 1) := by decide +kernel
theorem dX2_kindOf_1 : decode cX2_kindOf 1 = .ok (.getfield 9, 3) := by decide +kernel
theorem dX2_kindOf_4 : decode cX2_kindOf 4 = .ok (.iload_n 1, 1) := by decide +kernel
theorem dX2_kindOf_5 : decode cX2_kindOf 5 = .ok (.iaload, 1) := by decide +kernel
theorem dX2_kindOf_6 : decode cX2_kindOf 6 = .ok (.iconst 2, 1) := by decide +kernel
theorem dX2_kindOf_7 : decode cX2_kindOf 7 = .ok (.if_icmp .ne 17, 3) := by decide +kernel
theorem dX2_kindOf_10 : decode cX2_kindOf 10 = .ok (.aload_n 0, 1) := by decide +kernel
theorem dX2_kindOf_11 : decode cX2_kindOf 11 = .ok (.iload_n 1, 1) := by decide +kernel
theorem dX2_kindOf_12 : decode cX2_kindOf 12 = .ok (.invokevirtual 106, 3) := by decide +kernel
theorem dX2_kindOf_15 : decode cX2_kindOf 15 = .ok (.ifCond .ne 7, 3) := by decide +kernel
theorem dX2_kindOf_18 : decode cX2_kindOf 18 = .ok (.iconst 4, 1) := by decide +kernel
theorem dX2_kindOf_19 : decode cX2_kindOf 19 = .ok (.goto 4, 3) := by decide +kernel
theorem dX2_kindOf_22 : decode cX2_kindOf 22 = .ok (.iconst 3, 1) := by decide +kernel
theorem dX2_kindOf_23 : decode cX2_kindOf 23 = .ok (.ireturn, 1) := by decide +kernel
theorem dX2_kindOf_24 : decode cX2_kindOf 24 = .ok (.aload_n 0, 1) := by decide +kernel
theorem dX2_kindOf_25 : decode cX2_kindOf 25 = .ok (.iload_n 1, 1) := by decide +kernel
theorem dX2_kindOf_26 : decode cX2_kindOf 26 = .ok (.invokevirtual 85, 3) := by decide +kernel
theorem dX2_kindOf_29 : decode cX2_kindOf 29 = .ok (.ifCond .ne 5, 3) := by decide +kernel
theorem dX2_kindOf_32 : decode cX2_kindOf 32 = .ok (.iconst 5, 1) := by decide +kernel
theorem dX2_kindOf_33 : decode cX2_kindOf 33 = .ok (.ireturn, 1) := by decide +kernel
theorem dX2_kindOf_34 : decode cX2_kindOf 34 = .ok (.aload_n 0, 1) := by decide +kernel
theorem dX2_kindOf_35 : decode cX2_kindOf 35 = .ok (.getfield 9, 3) := by decide +kernel
theorem dX2_kindOf_38 : decode cX2_kindOf 38 = .ok (.iload_n 1, 1) := by decide +kernel
theorem dX2_kindOf_39 : decode cX2_kindOf 39 = .ok (.iaload, 1) := by decide +kernel
theorem dX2_kindOf_40 : decode cX2_kindOf 40 = .ok (.iconst 1, 1) := by decide +kernel
theorem dX2_kindOf_41 : decode cX2_kindOf 41 = .ok (.if_icmp .ne 7, 3) := by decide +kernel
theorem dX2_kindOf_44 : decode cX2_kindOf 44 = .ok (.iconst 2, 1) := by decide +kernel
theorem dX2_kindOf_45 : decode cX2_kindOf 45 = .ok (.goto 4, 3) := by decide +kernel
theorem dX2_kindOf_48 : decode cX2_kindOf 48 = .ok (.iconst 1, 1) := by decide +kernel
theorem dX2_kindOf_49 : decode cX2_kindOf 49 = .ok (.ireturn, 1) := by decide +kernel
theorem dX2_isTakenAs_0 : decode cX2_isTakenAs 0 = .ok (.getstatic 109, 3) := by decide +kernel
theorem dX2_isTakenAs_3 : decode cX2_isTakenAs 3 = .ok (.aload_n 0, 1) := by decide +kernel
theorem dX2_isTakenAs_4 : decode cX2_isTakenAs 4 = .ok (.iload_n 1, 1) := by decide +kernel
theorem dX2_isTakenAs_5 : decode cX2_isTakenAs 5 = .ok (.invokevirtual 112, 3) := by decide +kernel
theorem dX2_isTakenAs_8 : decode cX2_isTakenAs 8 = .ok (.iaload, 1) := by decide +kernel
theorem dX2_isTakenAs_9 : decode cX2_isTakenAs 9 = .ok (.iload_n 2, 1) := by decide +kernel
theorem dX2_isTakenAs_10 : decode cX2_isTakenAs 10 = .ok (.invokestatic 62, 3) := by decide +kernel
theorem dX2_isTakenAs_13 : decode cX2_isTakenAs 13 = .ok (.iconst 1, 1) := by decide +kernel
theorem dX2_isTakenAs_14 : decode cX2_isTakenAs 14 = .ok (.if_icmp .ne 7, 3) := by decide +kernel
theorem dX2_isTakenAs_17 : decode cX2_isTakenAs 17 = .ok (.iconst 1, 1) := by decide +kernel
theorem dX2_isTakenAs_18 : decode cX2_isTakenAs 18 = .ok (.goto 4, 3) := by decide +kernel
theorem dX2_isTakenAs_21 : decode cX2_isTakenAs 21 = .ok (.iconst 0, 1) := by decide +kernel
theorem dX2_isTakenAs_22 : decode cX2_isTakenAs 22 = .ok (.ireturn, 1) := by decide +kernel
theorem dX3_init_0 : decode cX3_init 0 = .ok (.aload_n 0, 1) := by decide +kernel
theorem dX3_init_1 : decode cX3_init 1 = .ok (.invokespecial 1, 3) := by decide +kernel
theorem dX3_init_4 : decode cX3_init 4 = .ok (.aload_n 0, 1) := by decide +kernel
theorem dX3_init_5 : decode cX3_init 5 = .ok (.sipush 320, 3) := by decide +kernel
theorem dX3_init_8 : decode cX3_init 8 = .ok (.newarray .int, 2) := by decide +kernel
theorem dX3_init_10 : decode cX3_init 10 = .ok (.putfield 9, 3) := by decide +kernel
theorem dX3_init_13 : decode cX3_init 13 = .ok (.aload_n 0, 1) := by decide +kernel
theorem dX3_init_14 : decode cX3_init 14 = .ok (.bipush 8, 2) := by decide +kernel
theorem dX3_init_16 : decode cX3_init 16 = .ok (.newarray .int, 2) := by decide +kernel
theorem dX3_init_18 : decode cX3_init 18 = .ok (.putfield 13, 3) := by decide +kernel
theorem dX3_init_21 : decode cX3_init 21 = .ok (.aload_n 0, 1) := by decide +kernel
theorem dX3_init_22 : decode cX3_init 22 = .ok (.bipush 8, 2) := by decide +kernel
theorem dX3_init_24 : decode cX3_init 24 = .ok (.newarray .int, 2) := by decide +kernel
theorem dX3_init_26 : decode cX3_init 26 = .ok (.putfield 16, 3) := by decide +kernel
theorem dX3_init_29 : decode cX3_init 29 = .ok (.iconst 0, 1) := by decide +kernel
theorem dX3_init_30 : decode cX3_init 30 = .ok (.istore_n 1, 1) := by decide +kernel
theorem dX3_init_31 : decode cX3_init 31 = .ok (.iload_n 1, 1) := by decide +kernel
theorem dX3_init_32 : decode cX3_init 32 = .ok (.bipush 8, 2) := by decide +kernel
theorem dX3_init_34 : decode cX3_init 34 = .ok (.if_icmp .ge 16, 3) := by decide +kernel
theorem dX3_init_37 : decode cX3_init 37 = .ok (.aload_n 0, 1) := by decide +kernel
theorem dX3_init_38 : decode cX3_init 38 = .ok (.getfield 16, 3) := by decide +kernel
theorem dX3_init_41 : decode cX3_init 41 = .ok (.iload_n 1, 1) := by decide +kernel
theorem dX3_init_42 : decode cX3_init 42 = .ok (.iconst (-1), 1) := by decide +kernel
theorem dX3_init_43 : decode cX3_init 43 = .ok (.iastore, 1) := by decide +kernel
theorem dX3_init_44 : decode cX3_init 44 = .ok (.iinc 1 1, 3) := by decide +kernel
theorem dX3_init_47 : decode cX3_init 47 = .ok (.goto (-16), 3) := by decide +kernel
theorem dX3_init_50 : decode cX3_init 50 = .ok (.return_, 1) := by decide +kernel
theorem dX3_isNumber_0 : decode cX3_isNumber 0 = .ok (.iload_n 1, 1) := by decide +kernel
theorem dX3_isNumber_1 : decode cX3_isNumber 1 = .ok (.ifCond .lt 13, 3) := by decide +kernel
theorem dX3_isNumber_4 : decode cX3_isNumber 4 = .ok (.iload_n 1, 1) := by decide +kernel
theorem dX3_isNumber_5 : decode cX3_isNumber 5 = .ok (.bipush 8, 2) := by decide +kernel
theorem dX3_isNumber_7 : decode cX3_isNumber 7 = .ok (.if_icmp .ge 7, 3) := by decide +kernel
theorem dX3_isNumber_10 : decode cX3_isNumber 10 = .ok (.iconst 1, 1) := by decide +kernel
theorem dX3_isNumber_11 : decode cX3_isNumber 11 = .ok (.goto 4, 3) := by decide +kernel
theorem dX3_isNumber_14 : decode cX3_isNumber 14 = .ok (.iconst 0, 1) := by decide +kernel
theorem dX3_isNumber_15 : decode cX3_isNumber 15 = .ok (.ireturn, 1) := by decide +kernel
theorem dX3_isMissing_0 : decode cX3_isMissing 0 = .ok (.aload_n 0, 1) := by decide +kernel
theorem dX3_isMissing_1 : decode cX3_isMissing 1 = .ok (.getfield 16, 3) := by decide +kernel
theorem dX3_isMissing_4 : decode cX3_isMissing 4 = .ok (.iload_n 1, 1) := by decide +kernel
theorem dX3_isMissing_5 : decode cX3_isMissing 5 = .ok (.iaload, 1) := by decide +kernel
theorem dX3_isMissing_6 : decode cX3_isMissing 6 = .ok (.iconst (-1), 1) := by decide +kernel
theorem dX3_isMissing_7 : decode cX3_isMissing 7 = .ok (.if_icmp .ne 7, 3) := by decide +kernel
theorem dX3_isMissing_10 : decode cX3_isMissing 10 = .ok (.iconst 1, 1) := by decide +kernel
theorem dX3_isMissing_11 : decode cX3_isMissing 11 = .ok (.goto 4, 3) := by decide +kernel
theorem dX3_isMissing_14 : decode cX3_isMissing 14 = .ok (.iconst 0, 1) := by decide +kernel
theorem dX3_isMissing_15 : decode cX3_isMissing 15 = .ok (.ireturn, 1) := by decide +kernel
theorem dX3_areOfOneLane_0 : decode cX3_areOfOneLane 0 = .ok (.aload_n 0, 1) := by decide +kernel
theorem dX3_areOfOneLane_1 : decode cX3_areOfOneLane 1 = .ok (.getfield 13, 3) := by decide +kernel
theorem dX3_areOfOneLane_4 : decode cX3_areOfOneLane 4 = .ok (.iload_n 1, 1) := by decide +kernel
theorem dX3_areOfOneLane_5 : decode cX3_areOfOneLane 5 = .ok (.iaload, 1) := by decide +kernel
theorem dX3_areOfOneLane_6 : decode cX3_areOfOneLane 6 = .ok (.aload_n 0, 1) := by decide +kernel
theorem dX3_areOfOneLane_7 : decode cX3_areOfOneLane 7 = .ok (.getfield 13, 3) := by decide +kernel
theorem dX3_areOfOneLane_10 : decode cX3_areOfOneLane 10 = .ok (.iload_n 2, 1) := by decide +kernel
theorem dX3_areOfOneLane_11 : decode cX3_areOfOneLane 11 = .ok (.iaload, 1) := by decide +kernel
theorem dX3_areOfOneLane_12 : decode cX3_areOfOneLane 12 = .ok (.if_icmp .ne 7, 3) := by decide +kernel
theorem dX3_areOfOneLane_15 : decode cX3_areOfOneLane 15 = .ok (.iconst 1, 1) := by decide +kernel
theorem dX3_areOfOneLane_16 : decode cX3_areOfOneLane 16 = .ok (.goto 4, 3) := by decide +kernel
theorem dX3_areOfOneLane_19 : decode cX3_areOfOneLane 19 = .ok (.iconst 0, 1) := by decide +kernel
theorem dX3_areOfOneLane_20 : decode cX3_areOfOneLane 20 = .ok (.ireturn, 1) := by decide +kernel
theorem dX3_hasPlaces_0 : decode cX3_hasPlaces 0 = .ok (.iload_n 2, 1) := by decide +kernel
theorem dX3_hasPlaces_1 : decode cX3_hasPlaces 1 = .ok (.ifCond .lt 23, 3) := by decide +kernel
theorem dX3_hasPlaces_4 : decode cX3_hasPlaces 4 = .ok (.iload_n 3, 1) := by decide +kernel
theorem dX3_hasPlaces_5 : decode cX3_hasPlaces 5 = .ok (.ifCond .lt 19, 3) := by decide +kernel
theorem dX3_hasPlaces_8 : decode cX3_hasPlaces 8 = .ok (.iload_n 3, 1) := by decide +kernel
theorem dX3_hasPlaces_9 : decode cX3_hasPlaces 9 = .ok (.aload_n 0, 1) := by decide +kernel
theorem dX3_hasPlaces_10 : decode cX3_hasPlaces 10 = .ok (.getfield 16, 3) := by decide +kernel
theorem dX3_hasPlaces_13 : decode cX3_hasPlaces 13 = .ok (.iload_n 1, 1) := by decide +kernel
theorem dX3_hasPlaces_14 : decode cX3_hasPlaces 14 = .ok (.iaload, 1) := by decide +kernel
theorem dX3_hasPlaces_15 : decode cX3_hasPlaces 15 = .ok (.iload_n 2, 1) := by decide +kernel
theorem dX3_hasPlaces_16 : decode cX3_hasPlaces 16 = .ok (.isub, 1) := by decide +kernel
theorem dX3_hasPlaces_17 : decode cX3_hasPlaces 17 = .ok (.if_icmp .gt 7, 3) := by decide +kernel
theorem dX3_hasPlaces_20 : decode cX3_hasPlaces 20 = .ok (.iconst 1, 1) := by decide +kernel
theorem dX3_hasPlaces_21 : decode cX3_hasPlaces 21 = .ok (.goto 4, 3) := by decide +kernel
theorem dX3_hasPlaces_24 : decode cX3_hasPlaces 24 = .ok (.iconst 0, 1) := by decide +kernel
theorem dX3_hasPlaces_25 : decode cX3_hasPlaces 25 = .ok (.ireturn, 1) := by decide +kernel
theorem dX3_laid_0 : decode cX3_laid 0 = .ok (.iconst 0, 1) := by decide +kernel
theorem dX3_laid_1 : decode cX3_laid 1 = .ok (.istore_n 1, 1) := by decide +kernel
theorem dX3_laid_2 : decode cX3_laid 2 = .ok (.iconst 0, 1) := by decide +kernel
theorem dX3_laid_3 : decode cX3_laid 3 = .ok (.istore_n 2, 1) := by decide +kernel
theorem dX3_laid_4 : decode cX3_laid 4 = .ok (.iload_n 2, 1) := by decide +kernel
theorem dX3_laid_5 : decode cX3_laid 5 = .ok (.bipush 8, 2) := by decide +kernel
theorem dX3_laid_7 : decode cX3_laid 7 = .ok (.if_icmp .ge 22, 3) := by decide +kernel
theorem dX3_laid_10 : decode cX3_laid 10 = .ok (.aload_n 0, 1) := by decide +kernel
theorem dX3_laid_11 : decode cX3_laid 11 = .ok (.getfield 16, 3) := by decide +kernel
theorem dX3_laid_14 : decode cX3_laid 14 = .ok (.iload_n 2, 1) := by decide +kernel
theorem dX3_laid_15 : decode cX3_laid 15 = .ok (.iaload, 1) := by decide +kernel
theorem dX3_laid_16 : decode cX3_laid 16 = .ok (.iconst (-1), 1) := by decide +kernel
theorem dX3_laid_17 : decode cX3_laid 17 = .ok (.if_icmp .eq 6, 3) := by decide +kernel
theorem dX3_laid_20 : decode cX3_laid 20 = .ok (.iinc 1 1, 3) := by decide +kernel
theorem dX3_laid_23 : decode cX3_laid 23 = .ok (.iinc 2 1, 3) := by decide +kernel
theorem dX3_laid_26 : decode cX3_laid 26 = .ok (.goto (-22), 3) := by decide +kernel
theorem dX3_laid_29 : decode cX3_laid 29 = .ok (.iload_n 1, 1) := by decide +kernel
theorem dX3_laid_30 : decode cX3_laid 30 = .ok (.ireturn, 1) := by decide +kernel
theorem dX3_lay_0 : decode cX3_lay 0 = .ok (.aload_n 0, 1) := by decide +kernel
theorem dX3_lay_1 : decode cX3_lay 1 = .ok (.getfield 13, 3) := by decide +kernel
theorem dX3_lay_4 : decode cX3_lay 4 = .ok (.iload_n 1, 1) := by decide +kernel
theorem dX3_lay_5 : decode cX3_lay 5 = .ok (.iload_n 2, 1) := by decide +kernel
theorem dX3_lay_6 : decode cX3_lay 6 = .ok (.iastore, 1) := by decide +kernel
theorem dX3_lay_7 : decode cX3_lay 7 = .ok (.aload_n 0, 1) := by decide +kernel
theorem dX3_lay_8 : decode cX3_lay 8 = .ok (.getfield 16, 3) := by decide +kernel
theorem dX3_lay_11 : decode cX3_lay 11 = .ok (.iload_n 1, 1) := by decide +kernel
theorem dX3_lay_12 : decode cX3_lay 12 = .ok (.iload_n 3, 1) := by decide +kernel
theorem dX3_lay_13 : decode cX3_lay 13 = .ok (.iastore, 1) := by decide +kernel
theorem dX3_lay_14 : decode cX3_lay 14 = .ok (.iconst 0, 1) := by decide +kernel
theorem dX3_lay_15 : decode cX3_lay 15 = .ok (.istore 4, 2) := by decide +kernel
theorem dX3_lay_17 : decode cX3_lay 17 = .ok (.iload 4, 2) := by decide +kernel
theorem dX3_lay_19 : decode cX3_lay 19 = .ok (.bipush 40, 2) := by decide +kernel
theorem dX3_lay_21 : decode cX3_lay 21 = .ok (.if_icmp .ge 22, 3) := by decide +kernel
theorem dX3_lay_24 : decode cX3_lay 24 = .ok (.aload_n 0, 1) := by decide +kernel
theorem dX3_lay_25 : decode cX3_lay 25 = .ok (.getfield 9, 3) := by decide +kernel
theorem dX3_lay_28 : decode cX3_lay 28 = .ok (.iload_n 1, 1) := by decide +kernel
theorem dX3_lay_29 : decode cX3_lay 29 = .ok (.bipush 40, 2) := by decide +kernel
theorem dX3_lay_31 : decode cX3_lay 31 = .ok (.imul, 1) := by decide +kernel
theorem dX3_lay_32 : decode cX3_lay 32 = .ok (.iload 4, 2) := by decide +kernel
theorem dX3_lay_34 : decode cX3_lay 34 = .ok (.iadd, 1) := by decide +kernel
theorem dX3_lay_35 : decode cX3_lay 35 = .ok (.iconst 0, 1) := by decide +kernel
theorem dX3_lay_36 : decode cX3_lay 36 = .ok (.iastore, 1) := by decide +kernel
theorem dX3_lay_37 : decode cX3_lay 37 = .ok (.iinc 4 1, 3) := by decide +kernel
theorem dX3_lay_40 : decode cX3_lay 40 = .ok (.goto (-23), 3) := by decide +kernel
theorem dX3_lay_43 : decode cX3_lay 43 = .ok (.return_, 1) := by decide +kernel
theorem dX3_takeAway_0 : decode cX3_takeAway 0 = .ok (.aload_n 0, 1) := by decide +kernel
theorem dX3_takeAway_1 : decode cX3_takeAway 1 = .ok (.getfield 16, 3) := by decide +kernel
theorem dX3_takeAway_4 : decode cX3_takeAway 4 = .ok (.iload_n 1, 1) := by decide +kernel
theorem dX3_takeAway_5 : decode cX3_takeAway 5 = .ok (.iaload, 1) := by decide +kernel
theorem dX3_takeAway_6 : decode cX3_takeAway 6 = .ok (.istore_n 2, 1) := by decide +kernel
theorem dX3_takeAway_7 : decode cX3_takeAway 7 = .ok (.aload_n 0, 1) := by decide +kernel
theorem dX3_takeAway_8 : decode cX3_takeAway 8 = .ok (.getfield 16, 3) := by decide +kernel
theorem dX3_takeAway_11 : decode cX3_takeAway 11 = .ok (.iload_n 1, 1) := by decide +kernel
theorem dX3_takeAway_12 : decode cX3_takeAway 12 = .ok (.iconst (-1), 1) := by decide +kernel
theorem dX3_takeAway_13 : decode cX3_takeAway 13 = .ok (.iastore, 1) := by decide +kernel
theorem dX3_takeAway_14 : decode cX3_takeAway 14 = .ok (.iload_n 2, 1) := by decide +kernel
theorem dX3_takeAway_15 : decode cX3_takeAway 15 = .ok (.ireturn, 1) := by decide +kernel
theorem dX3_itemAt_0 : decode cX3_itemAt 0 = .ok (.aload_n 0, 1) := by decide +kernel
theorem dX3_itemAt_1 : decode cX3_itemAt 1 = .ok (.getfield 9, 3) := by decide +kernel
theorem dX3_itemAt_4 : decode cX3_itemAt 4 = .ok (.iload_n 1, 1) := by decide +kernel
theorem dX3_itemAt_5 : decode cX3_itemAt 5 = .ok (.bipush 40, 2) := by decide +kernel
theorem dX3_itemAt_7 : decode cX3_itemAt 7 = .ok (.imul, 1) := by decide +kernel
theorem dX3_itemAt_8 : decode cX3_itemAt 8 = .ok (.iload_n 2, 1) := by decide +kernel
theorem dX3_itemAt_9 : decode cX3_itemAt 9 = .ok (.iadd, 1) := by decide +kernel
theorem dX3_itemAt_10 : decode cX3_itemAt 10 = .ok (.iaload, 1) := by decide +kernel
theorem dX3_itemAt_11 : decode cX3_itemAt 11 = .ok (.ireturn, 1) := by decide +kernel
theorem dX3_put_0 : decode cX3_put 0 = .ok (.iload_n 3, 1) := by decide +kernel
theorem dX3_put_1 : decode cX3_put 1 = .ok (.istore 4, 2) := by decide +kernel
theorem dX3_put_3 : decode cX3_put 3 = .ok (.aload_n 0, 1) := by decide +kernel
theorem dX3_put_4 : decode cX3_put 4 = .ok (.getfield 13, 3) := by decide +kernel
theorem dX3_put_7 : decode cX3_put 7 = .ok (.iload_n 1, 1) := by decide +kernel
theorem dX3_put_8 : decode cX3_put 8 = .ok (.iaload, 1) := by decide +kernel
theorem dX3_put_9 : decode cX3_put 9 = .ok (.ifCond .ne 7, 3) := by decide +kernel
theorem dX3_put_12 : decode cX3_put 12 = .ok (.iload_n 3, 1) := by decide +kernel
theorem dX3_put_13 : decode cX3_put 13 = .ok (.i2b, 1) := by decide +kernel
theorem dX3_put_14 : decode cX3_put 14 = .ok (.istore 4, 2) := by decide +kernel
theorem dX3_put_16 : decode cX3_put 16 = .ok (.aload_n 0, 1) := by decide +kernel
theorem dX3_put_17 : decode cX3_put 17 = .ok (.getfield 13, 3) := by decide +kernel
theorem dX3_put_20 : decode cX3_put 20 = .ok (.iload_n 1, 1) := by decide +kernel
theorem dX3_put_21 : decode cX3_put 21 = .ok (.iaload, 1) := by decide +kernel
theorem dX3_put_22 : decode cX3_put 22 = .ok (.iconst 1, 1) := by decide +kernel
theorem dX3_put_23 : decode cX3_put 23 = .ok (.if_icmp .ne 7, 3) := by decide +kernel
theorem dX3_put_26 : decode cX3_put 26 = .ok (.iload_n 3, 1) := by decide +kernel
theorem dX3_put_27 : decode cX3_put 27 = .ok (.i2s, 1) := by decide +kernel
theorem dX3_put_28 : decode cX3_put 28 = .ok (.istore 4, 2) := by decide +kernel
theorem dX3_put_30 : decode cX3_put 30 = .ok (.aload_n 0, 1) := by decide +kernel
theorem dX3_put_31 : decode cX3_put 31 = .ok (.getfield 9, 3) := by decide +kernel
theorem dX3_put_34 : decode cX3_put 34 = .ok (.iload_n 1, 1) := by decide +kernel
theorem dX3_put_35 : decode cX3_put 35 = .ok (.bipush 40, 2) := by decide +kernel
theorem dX3_put_37 : decode cX3_put 37 = .ok (.imul, 1) := by decide +kernel
theorem dX3_put_38 : decode cX3_put 38 = .ok (.iload_n 2, 1) := by decide +kernel
theorem dX3_put_39 : decode cX3_put 39 = .ok (.iadd, 1) := by decide +kernel
theorem dX3_put_40 : decode cX3_put 40 = .ok (.iload 4, 2) := by decide +kernel
theorem dX3_put_42 : decode cX3_put 42 = .ok (.iastore, 1) := by decide +kernel
theorem dX3_put_43 : decode cX3_put 43 = .ok (.iload 4, 2) := by decide +kernel
theorem dX3_put_45 : decode cX3_put 45 = .ok (.ireturn, 1) := by decide +kernel
theorem dX3_move_0 : decode cX3_move 0 = .ok (.aload_n 0, 1) := by decide +kernel
theorem dX3_move_1 : decode cX3_move 1 = .ok (.getfield 9, 3) := by decide +kernel
theorem dX3_move_4 : decode cX3_move 4 = .ok (.iload_n 1, 1) := by decide +kernel
theorem dX3_move_5 : decode cX3_move 5 = .ok (.bipush 40, 2) := by decide +kernel
theorem dX3_move_7 : decode cX3_move 7 = .ok (.imul, 1) := by decide +kernel
theorem dX3_move_8 : decode cX3_move 8 = .ok (.iload_n 2, 1) := by decide +kernel
theorem dX3_move_9 : decode cX3_move 9 = .ok (.iadd, 1) := by decide +kernel
theorem dX3_move_10 : decode cX3_move 10 = .ok (.aload_n 0, 1) := by decide +kernel
theorem dX3_move_11 : decode cX3_move 11 = .ok (.getfield 9, 3) := by decide +kernel
theorem dX3_move_14 : decode cX3_move 14 = .ok (.iload_n 3, 1) := by decide +kernel
theorem dX3_move_15 : decode cX3_move 15 = .ok (.bipush 40, 2) := by decide +kernel
theorem dX3_move_17 : decode cX3_move 17 = .ok (.imul, 1) := by decide +kernel
theorem dX3_move_18 : decode cX3_move 18 = .ok (.iload 4, 2) := by decide +kernel
theorem dX3_move_20 : decode cX3_move 20 = .ok (.iadd, 1) := by decide +kernel
theorem dX3_move_21 : decode cX3_move 21 = .ok (.iload 5, 2) := by decide +kernel
theorem dX3_move_23 : decode cX3_move 23 = .ok (.invokestatic 19, 3) := by decide +kernel
theorem dX3_move_26 : decode cX3_move 26 = .ok (.return_, 1) := by decide +kernel
theorem dX4_init_0 : decode cX4_init 0 = .ok (.aload_n 0, 1) := by decide +kernel
theorem dX4_init_1 : decode cX4_init 1 = .ok (.invokespecial 1, 3) := by decide +kernel
theorem dX4_init_4 : decode cX4_init 4 = .ok (.aload_n 0, 1) := by decide +kernel
theorem dX4_init_5 : decode cX4_init 5 = .ok (.bipush 15, 2) := by decide +kernel
theorem dX4_init_7 : decode cX4_init 7 = .ok (.bipush 9, 2) := by decide +kernel
theorem dX4_init_9 : decode cX4_init 9 = .ok (.multianewarray 9 2, 4) := by decide +kernel
theorem dX4_init_13 : decode cX4_init 13 = .ok (.putfield 11, 3) := by decide +kernel
theorem dX4_init_16 : decode cX4_init 16 = .ok (.aload_n 0, 1) := by decide +kernel
theorem dX4_init_17 : decode cX4_init 17 = .ok (.bipush 15, 2) := by decide +kernel
theorem dX4_init_19 : decode cX4_init 19 = .ok (.newarray .int, 2) := by decide +kernel
theorem dX4_init_21 : decode cX4_init 21 = .ok (.putfield 14, 3) := by decide +kernel
theorem dX4_init_24 : decode cX4_init 24 = .ok (.aload_n 0, 1) := by decide +kernel
theorem dX4_init_25 : decode cX4_init 25 = .ok (.bipush 8, 2) := by decide +kernel
theorem dX4_init_27 : decode cX4_init 27 = .ok (.newarray .int, 2) := by decide +kernel
theorem dX4_init_29 : decode cX4_init 29 = .ok (.putfield 18, 3) := by decide +kernel
theorem dX4_init_32 : decode cX4_init 32 = .ok (.return_, 1) := by decide +kernel
theorem dX4_begin_0 : decode cX4_begin 0 = .ok (.aload_n 0, 1) := by decide +kernel
theorem dX4_begin_1 : decode cX4_begin 1 = .ok (.iload_n 1, 1) := by decide +kernel
theorem dX4_begin_2 : decode cX4_begin 2 = .ok (.bipush 8, 2) := by decide +kernel
theorem dX4_begin_4 : decode cX4_begin 4 = .ok (.invokestatic 21, 3) := by decide +kernel
theorem dX4_begin_7 : decode cX4_begin 7 = .ok (.putfield 27, 3) := by decide +kernel
theorem dX4_begin_10 : decode cX4_begin 10 = .ok (.iconst 0, 1) := by decide +kernel
theorem dX4_begin_11 : decode cX4_begin 11 = .ok (.istore_n 3, 1) := by decide +kernel
theorem dX4_begin_12 : decode cX4_begin 12 = .ok (.iload_n 3, 1) := by decide +kernel
theorem dX4_begin_13 : decode cX4_begin 13 = .ok (.aload_n 0, 1) := by decide +kernel
theorem dX4_begin_14 : decode cX4_begin 14 = .ok (.getfield 27, 3) := by decide +kernel
theorem dX4_begin_17 : decode cX4_begin 17 = .ok (.if_icmp .ge 16, 3) := by decide +kernel
theorem dX4_begin_20 : decode cX4_begin 20 = .ok (.aload_n 0, 1) := by decide +kernel
theorem dX4_begin_21 : decode cX4_begin 21 = .ok (.getfield 18, 3) := by decide +kernel
theorem dX4_begin_24 : decode cX4_begin 24 = .ok (.iload_n 3, 1) := by decide +kernel
theorem dX4_begin_25 : decode cX4_begin 25 = .ok (.iload_n 3, 1) := by decide +kernel
theorem dX4_begin_26 : decode cX4_begin 26 = .ok (.iastore, 1) := by decide +kernel
theorem dX4_begin_27 : decode cX4_begin 27 = .ok (.iinc 3 1, 3) := by decide +kernel
theorem dX4_begin_30 : decode cX4_begin 30 = .ok (.goto (-18), 3) := by decide +kernel
theorem dX4_begin_33 : decode cX4_begin 33 = .ok (.aload_n 0, 1) := by decide +kernel
theorem dX4_begin_34 : decode cX4_begin 34 = .ok (.lconst 1, 1) := by decide +kernel
theorem dX4_begin_35 : decode cX4_begin 35 = .ok (.putfield 31, 3) := by decide +kernel
theorem dX4_begin_38 : decode cX4_begin 38 = .ok (.aload_n 0, 1) := by decide +kernel
theorem dX4_begin_39 : decode cX4_begin 39 = .ok (.iconst 0, 1) := by decide +kernel
theorem dX4_begin_40 : decode cX4_begin 40 = .ok (.putfield 35, 3) := by decide +kernel
theorem dX4_begin_43 : decode cX4_begin 43 = .ok (.aload_n 0, 1) := by decide +kernel
theorem dX4_begin_44 : decode cX4_begin 44 = .ok (.iload_n 2, 1) := by decide +kernel
theorem dX4_begin_45 : decode cX4_begin 45 = .ok (.iconst 1, 1) := by decide +kernel
theorem dX4_begin_46 : decode cX4_begin 46 = .ok (.iconst 0, 1) := by decide +kernel
theorem dX4_begin_47 : decode cX4_begin 47 = .ok (.invokevirtual 38, 3) := by decide +kernel
theorem dX4_begin_50 : decode cX4_begin 50 = .ok (.return_, 1) := by decide +kernel
theorem dX4_addRow_0 : decode cX4_addRow 0 = .ok (.aload_n 0, 1) := by decide +kernel
theorem dX4_addRow_1 : decode cX4_addRow 1 = .ok (.getfield 35, 3) := by decide +kernel
theorem dX4_addRow_4 : decode cX4_addRow 4 = .ok (.bipush 15, 2) := by decide +kernel
theorem dX4_addRow_6 : decode cX4_addRow 6 = .ok (.if_icmp .lt 4, 3) := by decide +kernel
theorem dX4_addRow_9 : decode cX4_addRow 9 = .ok (.return_, 1) := by decide +kernel
theorem dX4_addRow_10 : decode cX4_addRow 10 = .ok (.iconst 0, 1) := by decide +kernel
theorem dX4_addRow_11 : decode cX4_addRow 11 = .ok (.istore 4, 2) := by decide +kernel
theorem dX4_addRow_13 : decode cX4_addRow 13 = .ok (.iload 4, 2) := by decide +kernel
theorem dX4_addRow_15 : decode cX4_addRow 15 = .ok (.aload_n 0, 1) := by decide +kernel
theorem dX4_addRow_16 : decode cX4_addRow 16 = .ok (.getfield 27, 3) := by decide +kernel
theorem dX4_addRow_19 : decode cX4_addRow 19 = .ok (.if_icmp .ge 30, 3) := by decide +kernel
theorem dX4_addRow_22 : decode cX4_addRow 22 = .ok (.aload_n 0, 1) := by decide +kernel
theorem dX4_addRow_23 : decode cX4_addRow 23 = .ok (.getfield 11, 3) := by decide +kernel
theorem dX4_addRow_26 : decode cX4_addRow 26 = .ok (.aload_n 0, 1) := by decide +kernel
theorem dX4_addRow_27 : decode cX4_addRow 27 = .ok (.getfield 35, 3) := by decide +kernel
theorem dX4_addRow_30 : decode cX4_addRow 30 = .ok (.aaload, 1) := by decide +kernel
theorem dX4_addRow_31 : decode cX4_addRow 31 = .ok (.iload 4, 2) := by decide +kernel
theorem dX4_addRow_33 : decode cX4_addRow 33 = .ok (.iload_n 2, 1) := by decide +kernel
theorem dX4_addRow_34 : decode cX4_addRow 34 = .ok (.iload_n 1, 1) := by decide +kernel
theorem dX4_addRow_35 : decode cX4_addRow 35 = .ok (.iload 4, 2) := by decide +kernel
theorem dX4_addRow_37 : decode cX4_addRow 37 = .ok (.invokestatic 42, 3) := by decide +kernel
theorem dX4_addRow_40 : decode cX4_addRow 40 = .ok (.imul, 1) := by decide +kernel
theorem dX4_addRow_41 : decode cX4_addRow 41 = .ok (.i2l, 1) := by decide +kernel
theorem dX4_addRow_42 : decode cX4_addRow 42 = .ok (.lastore, 1) := by decide +kernel
theorem dX4_addRow_43 : decode cX4_addRow 43 = .ok (.iinc 4 1, 3) := by decide +kernel
theorem dX4_addRow_46 : decode cX4_addRow 46 = .ok (.goto (-33), 3) := by decide +kernel
theorem dX4_addRow_49 : decode cX4_addRow 49 = .ok (.aload_n 0, 1) := by decide +kernel
theorem dX4_addRow_50 : decode cX4_addRow 50 = .ok (.getfield 11, 3) := by decide +kernel
theorem dX4_addRow_53 : decode cX4_addRow 53 = .ok (.aload_n 0, 1) := by decide +kernel
theorem dX4_addRow_54 : decode cX4_addRow 54 = .ok (.getfield 35, 3) := by decide +kernel
theorem dX4_addRow_57 : decode cX4_addRow 57 = .ok (.aaload, 1) := by decide +kernel
theorem dX4_addRow_58 : decode cX4_addRow 58 = .ok (.aload_n 0, 1) := by decide +kernel
theorem dX4_addRow_59 : decode cX4_addRow 59 = .ok (.getfield 27, 3) := by decide +kernel
theorem dX4_addRow_62 : decode cX4_addRow 62 = .ok (.iload_n 3, 1) := by decide +kernel
theorem dX4_addRow_63 : decode cX4_addRow 63 = .ok (.i2l, 1) := by decide +kernel
theorem dX4_addRow_64 : decode cX4_addRow 64 = .ok (.lastore, 1) := by decide +kernel
theorem dX4_addRow_65 : decode cX4_addRow 65 = .ok (.aload_n 0, 1) := by decide +kernel
theorem dX4_addRow_66 : decode cX4_addRow 66 = .ok (.getfield 14, 3) := by decide +kernel
theorem dX4_addRow_69 : decode cX4_addRow 69 = .ok (.aload_n 0, 1) := by decide +kernel
theorem dX4_addRow_70 : decode cX4_addRow 70 = .ok (.getfield 35, 3) := by decide +kernel
theorem dX4_addRow_73 : decode cX4_addRow 73 = .ok (.bipush 8, 2) := by decide +kernel
theorem dX4_addRow_75 : decode cX4_addRow 75 = .ok (.aload_n 0, 1) := by decide +kernel
theorem dX4_addRow_76 : decode cX4_addRow 76 = .ok (.getfield 35, 3) := by decide +kernel
theorem dX4_addRow_79 : decode cX4_addRow 79 = .ok (.iadd, 1) := by decide +kernel
theorem dX4_addRow_80 : decode cX4_addRow 80 = .ok (.iastore, 1) := by decide +kernel
theorem dX4_addRow_81 : decode cX4_addRow 81 = .ok (.aload_n 0, 1) := by decide +kernel
theorem dX4_addRow_82 : decode cX4_addRow 82 = .ok (.dup, 1) := by decide +kernel
theorem dX4_addRow_83 : decode cX4_addRow 83 = .ok (.getfield 35, 3) := by decide +kernel
theorem dX4_addRow_86 : decode cX4_addRow 86 = .ok (.iconst 1, 1) := by decide +kernel
theorem dX4_addRow_87 : decode cX4_addRow 87 = .ok (.iadd, 1) := by decide +kernel
theorem dX4_addRow_88 : decode cX4_addRow 88 = .ok (.putfield 35, 3) := by decide +kernel
theorem dX4_addRow_91 : decode cX4_addRow 91 = .ok (.return_, 1) := by decide +kernel
theorem dX4_least_0 : decode cX4_least 0 = .ok (.aload_n 0, 1) := by decide +kernel
theorem dX4_least_1 : decode cX4_least 1 = .ok (.getfield 11, 3) := by decide +kernel
theorem dX4_least_4 : decode cX4_least 4 = .ok (.iconst 0, 1) := by decide +kernel
theorem dX4_least_5 : decode cX4_least 5 = .ok (.aaload, 1) := by decide +kernel
theorem dX4_least_6 : decode cX4_least 6 = .ok (.aload_n 0, 1) := by decide +kernel
theorem dX4_least_7 : decode cX4_least 7 = .ok (.getfield 27, 3) := by decide +kernel
theorem dX4_least_10 : decode cX4_least 10 = .ok (.laload, 1) := by decide +kernel
theorem dX4_least_11 : decode cX4_least 11 = .ok (.lneg, 1) := by decide +kernel
theorem dX4_least_12 : decode cX4_least 12 = .ok (.lreturn, 1) := by decide +kernel
theorem dX4_settle_0 : decode cX4_settle 0 = .ok (.iconst 0, 1) := by decide +kernel
theorem dX4_settle_1 : decode cX4_settle 1 = .ok (.istore_n 1, 1) := by decide +kernel
theorem dX4_settle_2 : decode cX4_settle 2 = .ok (.iload_n 1, 1) := by decide +kernel
theorem dX4_settle_3 : decode cX4_settle 3 = .ok (.ldc 47, 2) := by decide +kernel
theorem dX4_settle_5 : decode cX4_settle 5 = .ok (.if_icmp .ge 38, 3) := by decide +kernel
theorem dX4_settle_8 : decode cX4_settle 8 = .ok (.aload_n 0, 1) := by decide +kernel
theorem dX4_settle_9 : decode cX4_settle 9 = .ok (.invokevirtual 48, 3) := by decide +kernel
theorem dX4_settle_12 : decode cX4_settle 12 = .ok (.istore_n 2, 1) := by decide +kernel
theorem dX4_settle_13 : decode cX4_settle 13 = .ok (.iload_n 2, 1) := by decide +kernel
theorem dX4_settle_14 : decode cX4_settle 14 = .ok (.ifCond .ge 5, 3) := by decide +kernel
theorem dX4_settle_17 : decode cX4_settle 17 = .ok (.iconst 1, 1) := by decide +kernel
theorem dX4_settle_18 : decode cX4_settle 18 = .ok (.ireturn, 1) := by decide +kernel
theorem dX4_settle_19 : decode cX4_settle 19 = .ok (.aload_n 0, 1) := by decide +kernel
theorem dX4_settle_20 : decode cX4_settle 20 = .ok (.iload_n 2, 1) := by decide +kernel
theorem dX4_settle_21 : decode cX4_settle 21 = .ok (.invokevirtual 52, 3) := by decide +kernel
theorem dX4_settle_24 : decode cX4_settle 24 = .ok (.istore_n 3, 1) := by decide +kernel
theorem dX4_settle_25 : decode cX4_settle 25 = .ok (.iload_n 3, 1) := by decide +kernel
theorem dX4_settle_26 : decode cX4_settle 26 = .ok (.ifCond .ge 5, 3) := by decide +kernel
theorem dX4_settle_29 : decode cX4_settle 29 = .ok (.iconst 0, 1) := by decide +kernel
theorem dX4_settle_30 : decode cX4_settle 30 = .ok (.ireturn, 1) := by decide +kernel
theorem dX4_settle_31 : decode cX4_settle 31 = .ok (.aload_n 0, 1) := by decide +kernel
theorem dX4_settle_32 : decode cX4_settle 32 = .ok (.iload_n 2, 1) := by decide +kernel
theorem dX4_settle_33 : decode cX4_settle 33 = .ok (.iload_n 3, 1) := by decide +kernel
theorem dX4_settle_34 : decode cX4_settle 34 = .ok (.invokevirtual 56, 3) := by decide +kernel
theorem dX4_settle_37 : decode cX4_settle 37 = .ok (.iinc 1 1, 3) := by decide +kernel
theorem dX4_settle_40 : decode cX4_settle 40 = .ok (.goto (-38), 3) := by decide +kernel
theorem dX4_settle_43 : decode cX4_settle 43 = .ok (.iconst 0, 1) := by decide +kernel
theorem dX4_settle_44 : decode cX4_settle 44 = .ok (.ireturn, 1) := by decide +kernel
theorem dX4_brokenRow_0 : decode cX4_brokenRow 0 = .ok (.iconst (-1), 1) := by decide +kernel
theorem dX4_brokenRow_1 : decode cX4_brokenRow 1 = .ok (.istore_n 1, 1) := by decide +kernel
theorem dX4_brokenRow_2 : decode cX4_brokenRow 2 = .ok (.iconst 1, 1) := by decide +kernel
theorem dX4_brokenRow_3 : decode cX4_brokenRow 3 = .ok (.istore_n 2, 1) := by decide +kernel
theorem dX4_brokenRow_4 : decode cX4_brokenRow 4 = .ok (.iload_n 2, 1) := by decide +kernel
theorem dX4_brokenRow_5 : decode cX4_brokenRow 5 = .ok (.aload_n 0, 1) := by decide +kernel
theorem dX4_brokenRow_6 : decode cX4_brokenRow 6 = .ok (.getfield 35, 3) := by decide +kernel
theorem dX4_brokenRow_9 : decode cX4_brokenRow 9 = .ok (.if_icmp .ge 46, 3) := by decide +kernel
theorem dX4_brokenRow_12 : decode cX4_brokenRow 12 = .ok (.aload_n 0, 1) := by decide +kernel
theorem dX4_brokenRow_13 : decode cX4_brokenRow 13 = .ok (.getfield 11, 3) := by decide +kernel
theorem dX4_brokenRow_16 : decode cX4_brokenRow 16 = .ok (.iload_n 2, 1) := by decide +kernel
theorem dX4_brokenRow_17 : decode cX4_brokenRow 17 = .ok (.aaload, 1) := by decide +kernel
theorem dX4_brokenRow_18 : decode cX4_brokenRow 18 = .ok (.aload_n 0, 1) := by decide +kernel
theorem dX4_brokenRow_19 : decode cX4_brokenRow 19 = .ok (.getfield 27, 3) := by decide +kernel
theorem dX4_brokenRow_22 : decode cX4_brokenRow 22 = .ok (.laload, 1) := by decide +kernel
theorem dX4_brokenRow_23 : decode cX4_brokenRow 23 = .ok (.lconst 0, 1) := by decide +kernel
theorem dX4_brokenRow_24 : decode cX4_brokenRow 24 = .ok (.lcmp, 1) := by decide +kernel
theorem dX4_brokenRow_25 : decode cX4_brokenRow 25 = .ok (.ifCond .ge 24, 3) := by decide +kernel
theorem dX4_brokenRow_28 : decode cX4_brokenRow 28 = .ok (.iload_n 1, 1) := by decide +kernel
theorem dX4_brokenRow_29 : decode cX4_brokenRow 29 = .ok (.ifCond .lt 18, 3) := by decide +kernel
theorem dX4_brokenRow_32 : decode cX4_brokenRow 32 = .ok (.aload_n 0, 1) := by decide +kernel
theorem dX4_brokenRow_33 : decode cX4_brokenRow 33 = .ok (.getfield 14, 3) := by decide +kernel
theorem dX4_brokenRow_36 : decode cX4_brokenRow 36 = .ok (.iload_n 2, 1) := by decide +kernel
theorem dX4_brokenRow_37 : decode cX4_brokenRow 37 = .ok (.iaload, 1) := by decide +kernel
theorem dX4_brokenRow_38 : decode cX4_brokenRow 38 = .ok (.aload_n 0, 1) := by decide +kernel
theorem dX4_brokenRow_39 : decode cX4_brokenRow 39 = .ok (.getfield 14, 3) := by decide +kernel
theorem dX4_brokenRow_42 : decode cX4_brokenRow 42 = .ok (.iload_n 1, 1) := by decide +kernel
theorem dX4_brokenRow_43 : decode cX4_brokenRow 43 = .ok (.iaload, 1) := by decide +kernel
theorem dX4_brokenRow_44 : decode cX4_brokenRow 44 = .ok (.if_icmp .ge 5, 3) := by decide +kernel
theorem dX4_brokenRow_47 : decode cX4_brokenRow 47 = .ok (.iload_n 2, 1) := by decide +kernel
theorem dX4_brokenRow_48 : decode cX4_brokenRow 48 = .ok (.istore_n 1, 1) := by decide +kernel
theorem dX4_brokenRow_49 : decode cX4_brokenRow 49 = .ok (.iinc 2 1, 3) := by decide +kernel
theorem dX4_brokenRow_52 : decode cX4_brokenRow 52 = .ok (.goto (-48), 3) := by decide +kernel
theorem dX4_brokenRow_55 : decode cX4_brokenRow 55 = .ok (.iload_n 1, 1) := by decide +kernel
theorem dX4_brokenRow_56 : decode cX4_brokenRow 56 = .ok (.ireturn, 1) := by decide +kernel
theorem dX4_mendingColumn_0 : decode cX4_mendingColumn 0 = .ok (.iconst (-1), 1) := by decide +kernel
theorem dX4_mendingColumn_1 : decode cX4_mendingColumn 1 = .ok (.istore_n 2, 1) := by decide +kernel
theorem dX4_mendingColumn_2 : decode cX4_mendingColumn 2 = .ok (.iconst 0, 1) := by decide +kernel
theorem dX4_mendingColumn_3 : decode cX4_mendingColumn 3 = .ok (.istore_n 3, 1) := by decide +kernel
theorem dX4_mendingColumn_4 : decode cX4_mendingColumn 4 = .ok (.iload_n 3, 1) := by decide +kernel
theorem dX4_mendingColumn_5 : decode cX4_mendingColumn 5 = .ok (.aload_n 0, 1) := by decide +kernel
theorem dX4_mendingColumn_6 : decode cX4_mendingColumn 6 = .ok (.getfield 27, 3) := by decide +kernel
theorem dX4_mendingColumn_9 : decode cX4_mendingColumn 9 = .ok (.if_icmp .ge 38, 3) := by decide +kernel
theorem dX4_mendingColumn_12 : decode cX4_mendingColumn 12 = .ok (.aload_n 0, 1) := by decide +kernel
theorem dX4_mendingColumn_13 : decode cX4_mendingColumn 13 = .ok (.getfield 11, 3) := by decide +kernel
theorem dX4_mendingColumn_16 : decode cX4_mendingColumn 16 = .ok (.iload_n 1, 1) := by decide +kernel
theorem dX4_mendingColumn_17 : decode cX4_mendingColumn 17 = .ok (.aaload, 1) := by decide +kernel
theorem dX4_mendingColumn_18 : decode cX4_mendingColumn 18 = .ok (.iload_n 3, 1) := by decide +kernel
theorem dX4_mendingColumn_19 : decode cX4_mendingColumn 19 = .ok (.laload, 1) := by decide +kernel
theorem dX4_mendingColumn_20 : decode cX4_mendingColumn 20 = .ok (.lconst 0, 1) := by decide +kernel
theorem dX4_mendingColumn_21 : decode cX4_mendingColumn 21 = .ok (.lcmp, 1) := by decide +kernel
theorem dX4_mendingColumn_22 : decode cX4_mendingColumn 22 = .ok (.ifCond .ge 19, 3) := by decide +kernel
theorem dX4_mendingColumn_25 : decode cX4_mendingColumn 25 = .ok (.iload_n 2, 1) := by decide +kernel
theorem dX4_mendingColumn_26 : decode cX4_mendingColumn 26 = .ok (.ifCond .lt 13, 3) := by decide +kernel
theorem dX4_mendingColumn_29 : decode cX4_mendingColumn 29 = .ok (.aload_n 0, 1) := by decide +kernel
theorem dX4_mendingColumn_30 : decode cX4_mendingColumn 30 = .ok (.iload_n 1, 1) := by decide +kernel
theorem dX4_mendingColumn_31 : decode cX4_mendingColumn 31 = .ok (.iload_n 3, 1) := by decide +kernel
theorem dX4_mendingColumn_32 : decode cX4_mendingColumn 32 = .ok (.iload_n 2, 1) := by decide +kernel
theorem dX4_mendingColumn_33 : decode cX4_mendingColumn 33 = .ok (.invokevirtual 60, 3) := by decide +kernel
theorem dX4_mendingColumn_36 : decode cX4_mendingColumn 36 = .ok (.ifCond .eq 5, 3) := by decide +kernel
theorem dX4_mendingColumn_39 : decode cX4_mendingColumn 39 = .ok (.iload_n 3, 1) := by decide +kernel
theorem dX4_mendingColumn_40 : decode cX4_mendingColumn 40 = .ok (.istore_n 2, 1) := by decide +kernel
theorem dX4_mendingColumn_41 : decode cX4_mendingColumn 41 = .ok (.iinc 3 1, 3) := by decide +kernel
theorem dX4_mendingColumn_44 : decode cX4_mendingColumn 44 = .ok (.goto (-40), 3) := by decide +kernel
theorem dX4_mendingColumn_47 : decode cX4_mendingColumn 47 = .ok (.iload_n 2, 1) := by decide +kernel
theorem dX4_mendingColumn_48 : decode cX4_mendingColumn 48 = .ok (.ireturn, 1) := by decide +kernel
theorem dX4_isCheaper_0 : decode cX4_isCheaper 0 = .ok (.aload_n 0, 1) := by decide +kernel
theorem dX4_isCheaper_1 : decode cX4_isCheaper 1 = .ok (.getfield 11, 3) := by decide +kernel
theorem dX4_isCheaper_4 : decode cX4_isCheaper 4 = .ok (.iconst 0, 1) := by decide +kernel
theorem dX4_isCheaper_5 : decode cX4_isCheaper 5 = .ok (.aaload, 1) := by decide +kernel
theorem dX4_isCheaper_6 : decode cX4_isCheaper 6 = .ok (.iload_n 2, 1) := by decide +kernel
theorem dX4_isCheaper_7 : decode cX4_isCheaper 7 = .ok (.laload, 1) := by decide +kernel
theorem dX4_isCheaper_8 : decode cX4_isCheaper 8 = .ok (.aload_n 0, 1) := by decide +kernel
theorem dX4_isCheaper_9 : decode cX4_isCheaper 9 = .ok (.getfield 11, 3) := by decide +kernel
theorem dX4_isCheaper_12 : decode cX4_isCheaper 12 = .ok (.iload_n 1, 1) := by decide +kernel
theorem dX4_isCheaper_13 : decode cX4_isCheaper 13 = .ok (.aaload, 1) := by decide +kernel
theorem dX4_isCheaper_14 : decode cX4_isCheaper 14 = .ok (.iload_n 3, 1) := by decide +kernel
theorem dX4_isCheaper_15 : decode cX4_isCheaper 15 = .ok (.laload, 1) := by decide +kernel
theorem dX4_isCheaper_16 : decode cX4_isCheaper 16 = .ok (.lneg, 1) := by decide +kernel
theorem dX4_isCheaper_17 : decode cX4_isCheaper 17 = .ok (.lmul, 1) := by decide +kernel
theorem dX4_isCheaper_18 : decode cX4_isCheaper 18 = .ok (.lstore 4, 2) := by decide +kernel
theorem dX4_isCheaper_20 : decode cX4_isCheaper 20 = .ok (.aload_n 0, 1) := by decide +kernel
theorem dX4_isCheaper_21 : decode cX4_isCheaper 21 = .ok (.getfield 11, 3) := by decide +kernel
theorem dX4_isCheaper_24 : decode cX4_isCheaper 24 = .ok (.iconst 0, 1) := by decide +kernel
theorem dX4_isCheaper_25 : decode cX4_isCheaper 25 = .ok (.aaload, 1) := by decide +kernel
theorem dX4_isCheaper_26 : decode cX4_isCheaper 26 = .ok (.iload_n 3, 1) := by decide +kernel
theorem dX4_isCheaper_27 : decode cX4_isCheaper 27 = .ok (.laload, 1) := by decide +kernel
theorem dX4_isCheaper_28 : decode cX4_isCheaper 28 = .ok (.aload_n 0, 1) := by decide +kernel
theorem dX4_isCheaper_29 : decode cX4_isCheaper 29 = .ok (.getfield 11, 3) := by decide +kernel
theorem dX4_isCheaper_32 : decode cX4_isCheaper 32 = .ok (.iload_n 1, 1) := by decide +kernel
theorem dX4_isCheaper_33 : decode cX4_isCheaper 33 = .ok (.aaload, 1) := by decide +kernel
theorem dX4_isCheaper_34 : decode cX4_isCheaper 34 = .ok (.iload_n 2, 1) := by decide +kernel
theorem dX4_isCheaper_35 : decode cX4_isCheaper 35 = .ok (.laload, 1) := by decide +kernel
theorem dX4_isCheaper_36 : decode cX4_isCheaper 36 = .ok (.lneg, 1) := by decide +kernel
theorem dX4_isCheaper_37 : decode cX4_isCheaper 37 = .ok (.lmul, 1) := by decide +kernel
theorem dX4_isCheaper_38 : decode cX4_isCheaper 38 = .ok (.lstore 6, 2) := by decide +kernel
theorem dX4_isCheaper_40 : decode cX4_isCheaper 40 = .ok (.lload 4, 2) := by decide +kernel
theorem dX4_isCheaper_42 : decode cX4_isCheaper 42 = .ok (.lload 6, 2) := by decide +kernel
theorem dX4_isCheaper_44 : decode cX4_isCheaper 44 = .ok (.lcmp, 1) := by decide +kernel
theorem dX4_isCheaper_45 : decode cX4_isCheaper 45 = .ok (.ifCond .lt 26, 3) := by decide +kernel
theorem dX4_isCheaper_48 : decode cX4_isCheaper 48 = .ok (.lload 4, 2) := by decide +kernel
theorem dX4_isCheaper_50 : decode cX4_isCheaper 50 = .ok (.lload 6, 2) := by decide +kernel
theorem dX4_isCheaper_52 : decode cX4_isCheaper 52 = .ok (.lcmp, 1) := by decide +kernel
theorem dX4_isCheaper_53 : decode cX4_isCheaper 53 = .ok (.ifCond .ne 22, 3) := by decide +kernel
theorem dX4_isCheaper_56 : decode cX4_isCheaper 56 = .ok (.aload_n 0, 1) := by decide +kernel
theorem dX4_isCheaper_57 : decode cX4_isCheaper 57 = .ok (.getfield 18, 3) := by decide +kernel
theorem dX4_isCheaper_60 : decode cX4_isCheaper 60 = .ok (.iload_n 2, 1) := by decide +kernel
theorem dX4_isCheaper_61 : decode cX4_isCheaper 61 = .ok (.iaload, 1) := by decide +kernel
theorem dX4_isCheaper_62 : decode cX4_isCheaper 62 = .ok (.aload_n 0, 1) := by decide +kernel
theorem dX4_isCheaper_63 : decode cX4_isCheaper 63 = .ok (.getfield 18, 3) := by decide +kernel
theorem dX4_isCheaper_66 : decode cX4_isCheaper 66 = .ok (.iload_n 3, 1) := by decide +kernel
theorem dX4_isCheaper_67 : decode cX4_isCheaper 67 = .ok (.iaload, 1) := by decide +kernel
theorem dX4_isCheaper_68 : decode cX4_isCheaper 68 = .ok (.if_icmp .ge 7, 3) := by decide +kernel
theorem dX4_isCheaper_71 : decode cX4_isCheaper 71 = .ok (.iconst 1, 1) := by decide +kernel
theorem dX4_isCheaper_72 : decode cX4_isCheaper 72 = .ok (.goto 4, 3) := by decide +kernel
theorem dX4_isCheaper_75 : decode cX4_isCheaper 75 = .ok (.iconst 0, 1) := by decide +kernel
theorem dX4_isCheaper_76 : decode cX4_isCheaper 76 = .ok (.ireturn, 1) := by decide +kernel
theorem dX4_exchange_0 : decode cX4_exchange 0 = .ok (.aload_n 0, 1) := by decide +kernel
theorem dX4_exchange_1 : decode cX4_exchange 1 = .ok (.getfield 11, 3) := by decide +kernel
theorem dX4_exchange_4 : decode cX4_exchange 4 = .ok (.iload_n 1, 1) := by decide +kernel
theorem dX4_exchange_5 : decode cX4_exchange 5 = .ok (.aaload, 1) := by decide +kernel
theorem dX4_exchange_6 : decode cX4_exchange 6 = .ok (.iload_n 2, 1) := by decide +kernel
theorem dX4_exchange_7 : decode cX4_exchange 7 = .ok (.laload, 1) := by decide +kernel
theorem dX4_exchange_8 : decode cX4_exchange 8 = .ok (.lneg, 1) := by decide +kernel
theorem dX4_exchange_9 : decode cX4_exchange 9 = .ok (.lstore_n 3, 1) := by decide +kernel
theorem dX4_exchange_10 : decode cX4_exchange 10 = .ok (.iconst 0, 1) := by decide +kernel
theorem dX4_exchange_11 : decode cX4_exchange 11 = .ok (.istore 5, 2) := by decide +kernel
theorem dX4_exchange_13 : decode cX4_exchange 13 = .ok (.iload 5, 2) := by decide +kernel
theorem dX4_exchange_15 : decode cX4_exchange 15 = .ok (.aload_n 0, 1) := by decide +kernel
theorem dX4_exchange_16 : decode cX4_exchange 16 = .ok (.getfield 35, 3) := by decide +kernel
theorem dX4_exchange_19 : decode cX4_exchange 19 = .ok (.if_icmp .ge 23, 3) := by decide +kernel
theorem dX4_exchange_22 : decode cX4_exchange 22 = .ok (.iload 5, 2) := by decide +kernel
theorem dX4_exchange_24 : decode cX4_exchange 24 = .ok (.iload_n 1, 1) := by decide +kernel
theorem dX4_exchange_25 : decode cX4_exchange 25 = .ok (.if_icmp .eq 11, 3) := by decide +kernel
theorem dX4_exchange_28 : decode cX4_exchange 28 = .ok (.aload_n 0, 1) := by decide +kernel
theorem dX4_exchange_29 : decode cX4_exchange 29 = .ok (.iload 5, 2) := by decide +kernel
theorem dX4_exchange_31 : decode cX4_exchange 31 = .ok (.iload_n 1, 1) := by decide +kernel
theorem dX4_exchange_32 : decode cX4_exchange 32 = .ok (.iload_n 2, 1) := by decide +kernel
theorem dX4_exchange_33 : decode cX4_exchange 33 = .ok (.invokevirtual 64, 3) := by decide +kernel
theorem dX4_exchange_36 : decode cX4_exchange 36 = .ok (.iinc 5 1, 3) := by decide +kernel
theorem dX4_exchange_39 : decode cX4_exchange 39 = .ok (.goto (-26), 3) := by decide +kernel
theorem dX4_exchange_42 : decode cX4_exchange 42 = .ok (.iconst 0, 1) := by decide +kernel
theorem dX4_exchange_43 : decode cX4_exchange 43 = .ok (.istore 5, 2) := by decide +kernel
theorem dX4_exchange_45 : decode cX4_exchange 45 = .ok (.iload 5, 2) := by decide +kernel
theorem dX4_exchange_47 : decode cX4_exchange 47 = .ok (.aload_n 0, 1) := by decide +kernel
theorem dX4_exchange_48 : decode cX4_exchange 48 = .ok (.getfield 27, 3) := by decide +kernel
theorem dX4_exchange_51 : decode cX4_exchange 51 = .ok (.if_icmp .gt 28, 3) := by decide +kernel
theorem dX4_exchange_54 : decode cX4_exchange 54 = .ok (.aload_n 0, 1) := by decide +kernel
theorem dX4_exchange_55 : decode cX4_exchange 55 = .ok (.getfield 11, 3) := by decide +kernel
theorem dX4_exchange_58 : decode cX4_exchange 58 = .ok (.iload_n 1, 1) := by decide +kernel
theorem dX4_exchange_59 : decode cX4_exchange 59 = .ok (.aaload, 1) := by decide +kernel
theorem dX4_exchange_60 : decode cX4_exchange 60 = .ok (.iload 5, 2) := by decide +kernel
theorem dX4_exchange_62 : decode cX4_exchange 62 = .ok (.aload_n 0, 1) := by decide +kernel
theorem dX4_exchange_63 : decode cX4_exchange 63 = .ok (.getfield 11, 3) := by decide +kernel
theorem dX4_exchange_66 : decode cX4_exchange 66 = .ok (.iload_n 1, 1) := by decide +kernel
theorem dX4_exchange_67 : decode cX4_exchange 67 = .ok (.aaload, 1) := by decide +kernel
theorem dX4_exchange_68 : decode cX4_exchange 68 = .ok (.iload 5, 2) := by decide +kernel
theorem dX4_exchange_70 : decode cX4_exchange 70 = .ok (.laload, 1) := by decide +kernel
theorem dX4_exchange_71 : decode cX4_exchange 71 = .ok (.lneg, 1) := by decide +kernel
theorem dX4_exchange_72 : decode cX4_exchange 72 = .ok (.lastore, 1) := by decide +kernel
theorem dX4_exchange_73 : decode cX4_exchange 73 = .ok (.iinc 5 1, 3) := by decide +kernel
theorem dX4_exchange_76 : decode cX4_exchange 76 = .ok (.goto (-31), 3) := by decide +kernel
theorem dX4_exchange_79 : decode cX4_exchange 79 = .ok (.aload_n 0, 1) := by decide +kernel
theorem dX4_exchange_80 : decode cX4_exchange 80 = .ok (.getfield 11, 3) := by decide +kernel
theorem dX4_exchange_83 : decode cX4_exchange 83 = .ok (.iload_n 1, 1) := by decide +kernel
theorem dX4_exchange_84 : decode cX4_exchange 84 = .ok (.aaload, 1) := by decide +kernel
theorem dX4_exchange_85 : decode cX4_exchange 85 = .ok (.iload_n 2, 1) := by decide +kernel
theorem dX4_exchange_86 : decode cX4_exchange 86 = .ok (.aload_n 0, 1) := by decide +kernel
theorem dX4_exchange_87 : decode cX4_exchange 87 = .ok (.getfield 31, 3) := by decide +kernel
theorem dX4_exchange_90 : decode cX4_exchange 90 = .ok (.lneg, 1) := by decide +kernel
theorem dX4_exchange_91 : decode cX4_exchange 91 = .ok (.lastore, 1) := by decide +kernel
theorem dX4_exchange_92 : decode cX4_exchange 92 = .ok (.aload_n 0, 1) := by decide +kernel
theorem dX4_exchange_93 : decode cX4_exchange 93 = .ok (.lload_n 3, 1) := by decide +kernel
theorem dX4_exchange_94 : decode cX4_exchange 94 = .ok (.putfield 31, 3) := by decide +kernel
theorem dX4_exchange_97 : decode cX4_exchange 97 = .ok (.aload_n 0, 1) := by decide +kernel
theorem dX4_exchange_98 : decode cX4_exchange 98 = .ok (.getfield 14, 3) := by decide +kernel
theorem dX4_exchange_101 : decode cX4_exchange 101 = .ok (.iload_n 1, 1) := by decide +kernel
theorem dX4_exchange_102 : decode cX4_exchange 102 = .ok (.iaload, 1) := by decide +kernel
theorem dX4_exchange_103 : decode cX4_exchange 103 = .ok (.istore 5, 2) := by decide +kernel
theorem dX4_exchange_105 : decode cX4_exchange 105 = .ok (.aload_n 0, 1) := by decide +kernel
theorem dX4_exchange_106 : decode cX4_exchange 106 = .ok (.getfield 14, 3) := by decide +kernel
theorem dX4_exchange_109 : decode cX4_exchange 109 = .ok (.iload_n 1, 1) := by decide +kernel
theorem dX4_exchange_110 : decode cX4_exchange 110 = .ok (.aload_n 0, 1) := by decide +kernel
theorem dX4_exchange_111 : decode cX4_exchange 111 = .ok (.getfield 18, 3) := by decide +kernel
theorem dX4_exchange_114 : decode cX4_exchange 114 = .ok (.iload_n 2, 1) := by decide +kernel
theorem dX4_exchange_115 : decode cX4_exchange 115 = .ok (.iaload, 1) := by decide +kernel
theorem dX4_exchange_116 : decode cX4_exchange 116 = .ok (.iastore, 1) := by decide +kernel
theorem dX4_exchange_117 : decode cX4_exchange 117 = .ok (.aload_n 0, 1) := by decide +kernel
theorem dX4_exchange_118 : decode cX4_exchange 118 = .ok (.getfield 18, 3) := by decide +kernel
theorem dX4_exchange_121 : decode cX4_exchange 121 = .ok (.iload_n 2, 1) := by decide +kernel
theorem dX4_exchange_122 : decode cX4_exchange 122 = .ok (.iload 5, 2) := by decide +kernel
theorem dX4_exchange_124 : decode cX4_exchange 124 = .ok (.iastore, 1) := by decide +kernel
theorem dX4_exchange_125 : decode cX4_exchange 125 = .ok (.return_, 1) := by decide +kernel
theorem dX4_clearOf_0 : decode cX4_clearOf 0 = .ok (.aload_n 0, 1) := by decide +kernel
theorem dX4_clearOf_1 : decode cX4_clearOf 1 = .ok (.getfield 11, 3) := by decide +kernel
theorem dX4_clearOf_4 : decode cX4_clearOf 4 = .ok (.iload_n 2, 1) := by decide +kernel
theorem dX4_clearOf_5 : decode cX4_clearOf 5 = .ok (.aaload, 1) := by decide +kernel
theorem dX4_clearOf_6 : decode cX4_clearOf 6 = .ok (.iload_n 3, 1) := by decide +kernel
theorem dX4_clearOf_7 : decode cX4_clearOf 7 = .ok (.laload, 1) := by decide +kernel
theorem dX4_clearOf_8 : decode cX4_clearOf 8 = .ok (.lneg, 1) := by decide +kernel
theorem dX4_clearOf_9 : decode cX4_clearOf 9 = .ok (.lstore 4, 2) := by decide +kernel
theorem dX4_clearOf_11 : decode cX4_clearOf 11 = .ok (.aload_n 0, 1) := by decide +kernel
theorem dX4_clearOf_12 : decode cX4_clearOf 12 = .ok (.getfield 11, 3) := by decide +kernel
theorem dX4_clearOf_15 : decode cX4_clearOf 15 = .ok (.iload_n 1, 1) := by decide +kernel
theorem dX4_clearOf_16 : decode cX4_clearOf 16 = .ok (.aaload, 1) := by decide +kernel
theorem dX4_clearOf_17 : decode cX4_clearOf 17 = .ok (.iload_n 3, 1) := by decide +kernel
theorem dX4_clearOf_18 : decode cX4_clearOf 18 = .ok (.laload, 1) := by decide +kernel
theorem dX4_clearOf_19 : decode cX4_clearOf 19 = .ok (.lstore 6, 2) := by decide +kernel
theorem dX4_clearOf_21 : decode cX4_clearOf 21 = .ok (.iconst 0, 1) := by decide +kernel
theorem dX4_clearOf_22 : decode cX4_clearOf 22 = .ok (.istore 8, 2) := by decide +kernel
theorem dX4_clearOf_24 : decode cX4_clearOf 24 = .ok (.iload 8, 2) := by decide +kernel
theorem dX4_clearOf_26 : decode cX4_clearOf 26 = .ok (.aload_n 0, 1) := by decide +kernel
theorem dX4_clearOf_27 : decode cX4_clearOf 27 = .ok (.getfield 27, 3) := by decide +kernel
theorem dX4_clearOf_30 : decode cX4_clearOf 30 = .ok (.if_icmp .gt 56, 3) := by decide +kernel
theorem dX4_clearOf_33 : decode cX4_clearOf 33 = .ok (.iload 8, 2) := by decide +kernel
theorem dX4_clearOf_35 : decode cX4_clearOf 35 = .ok (.iload_n 3, 1) := by decide +kernel
theorem dX4_clearOf_36 : decode cX4_clearOf 36 = .ok (.if_icmp .eq 44, 3) := by decide +kernel
theorem dX4_clearOf_39 : decode cX4_clearOf 39 = .ok (.aload_n 0, 1) := by decide +kernel
theorem dX4_clearOf_40 : decode cX4_clearOf 40 = .ok (.getfield 11, 3) := by decide +kernel
theorem dX4_clearOf_43 : decode cX4_clearOf 43 = .ok (.iload_n 1, 1) := by decide +kernel
theorem dX4_clearOf_44 : decode cX4_clearOf 44 = .ok (.aaload, 1) := by decide +kernel
theorem dX4_clearOf_45 : decode cX4_clearOf 45 = .ok (.iload 8, 2) := by decide +kernel
theorem dX4_clearOf_47 : decode cX4_clearOf 47 = .ok (.lload 4, 2) := by decide +kernel
theorem dX4_clearOf_49 : decode cX4_clearOf 49 = .ok (.aload_n 0, 1) := by decide +kernel
theorem dX4_clearOf_50 : decode cX4_clearOf 50 = .ok (.getfield 11, 3) := by decide +kernel
theorem dX4_clearOf_53 : decode cX4_clearOf 53 = .ok (.iload_n 1, 1) := by decide +kernel
theorem dX4_clearOf_54 : decode cX4_clearOf 54 = .ok (.aaload, 1) := by decide +kernel
theorem dX4_clearOf_55 : decode cX4_clearOf 55 = .ok (.iload 8, 2) := by decide +kernel
theorem dX4_clearOf_57 : decode cX4_clearOf 57 = .ok (.laload, 1) := by decide +kernel
theorem dX4_clearOf_58 : decode cX4_clearOf 58 = .ok (.lmul, 1) := by decide +kernel
theorem dX4_clearOf_59 : decode cX4_clearOf 59 = .ok (.lload 6, 2) := by decide +kernel
theorem dX4_clearOf_61 : decode cX4_clearOf 61 = .ok (.aload_n 0, 1) := by decide +kernel
theorem dX4_clearOf_62 : decode cX4_clearOf 62 = .ok (.getfield 11, 3) := by decide +kernel
theorem dX4_clearOf_65 : decode cX4_clearOf 65 = .ok (.iload_n 2, 1) := by decide +kernel
theorem dX4_clearOf_66 : decode cX4_clearOf 66 = .ok (.aaload, 1) := by decide +kernel
theorem dX4_clearOf_67 : decode cX4_clearOf 67 = .ok (.iload 8, 2) := by decide +kernel
theorem dX4_clearOf_69 : decode cX4_clearOf 69 = .ok (.laload, 1) := by decide +kernel
theorem dX4_clearOf_70 : decode cX4_clearOf 70 = .ok (.lmul, 1) := by decide +kernel
theorem dX4_clearOf_71 : decode cX4_clearOf 71 = .ok (.ladd, 1) := by decide +kernel
theorem dX4_clearOf_72 : decode cX4_clearOf 72 = .ok (.aload_n 0, 1) := by decide +kernel
theorem dX4_clearOf_73 : decode cX4_clearOf 73 = .ok (.getfield 31, 3) := by decide +kernel
theorem dX4_clearOf_76 : decode cX4_clearOf 76 = .ok (.invokestatic 67, 3) := by decide +kernel
theorem dX4_clearOf_79 : decode cX4_clearOf 79 = .ok (.lastore, 1) := by decide +kernel
theorem dX4_clearOf_80 : decode cX4_clearOf 80 = .ok (.iinc 8 1, 3) := by decide +kernel
theorem dX4_clearOf_83 : decode cX4_clearOf 83 = .ok (.goto (-59), 3) := by decide +kernel
theorem dX4_clearOf_86 : decode cX4_clearOf 86 = .ok (.return_, 1) := by decide +kernel
theorem dX4_divide_0 : decode cX4_divide 0 = .ok (.lload_n 2, 1) := by decide +kernel
theorem dX4_divide_1 : decode cX4_divide 1 = .ok (.lconst 0, 1) := by decide +kernel
theorem dX4_divide_2 : decode cX4_divide 2 = .ok (.lcmp, 1) := by decide +kernel
theorem dX4_divide_3 : decode cX4_divide 3 = .ok (.ifCond .ne 7, 3) := by decide +kernel
theorem dX4_divide_6 : decode cX4_divide 6 = .ok (.lconst 0, 1) := by decide +kernel
theorem dX4_divide_7 : decode cX4_divide 7 = .ok (.goto 6, 3) := by decide +kernel
theorem dX4_divide_10 : decode cX4_divide 10 = .ok (.lload_n 0, 1) := by decide +kernel
theorem dX4_divide_11 : decode cX4_divide 11 = .ok (.lload_n 2, 1) := by decide +kernel
theorem dX4_divide_12 : decode cX4_divide 12 = .ok (.ldiv, 1) := by decide +kernel
theorem dX4_divide_13 : decode cX4_divide 13 = .ok (.lreturn, 1) := by decide +kernel
theorem dX5_init_0 : decode cX5_init 0 = .ok (.aload_n 0, 1) := by decide +kernel
theorem dX5_init_1 : decode cX5_init 1 = .ok (.invokespecial 3, 3) := by decide +kernel
theorem dX5_init_4 : decode cX5_init 4 = .ok (.aload_n 0, 1) := by decide +kernel
theorem dX5_init_5 : decode cX5_init 5 = .ok (.sipush 400, 3) := by decide +kernel
theorem dX5_init_8 : decode cX5_init 8 = .ok (.newarray .byte, 2) := by decide +kernel
theorem dX5_init_10 : decode cX5_init 10 = .ok (.putfield 11, 3) := by decide +kernel
theorem dX5_init_13 : decode cX5_init 13 = .ok (.return_, 1) := by decide +kernel
theorem dX5_hasRoom_0 : decode cX5_hasRoom 0 = .ok (.iload_n 1, 1) := by decide +kernel
theorem dX5_hasRoom_1 : decode cX5_hasRoom 1 = .ok (.sipush 400, 3) := by decide +kernel
theorem dX5_hasRoom_4 : decode cX5_hasRoom 4 = .ok (.aload_n 0, 1) := by decide +kernel
theorem dX5_hasRoom_5 : decode cX5_hasRoom 5 = .ok (.getfield 15, 3) := by decide +kernel
theorem dX5_hasRoom_8 : decode cX5_hasRoom 8 = .ok (.isub, 1) := by decide +kernel
theorem dX5_hasRoom_9 : decode cX5_hasRoom 9 = .ok (.if_icmp .gt 7, 3) := by decide +kernel
theorem dX5_hasRoom_12 : decode cX5_hasRoom 12 = .ok (.iconst 1, 1) := by decide +kernel
theorem dX5_hasRoom_13 : decode cX5_hasRoom 13 = .ok (.goto 4, 3) := by decide +kernel
theorem dX5_hasRoom_16 : decode cX5_hasRoom 16 = .ok (.iconst 0, 1) := by decide +kernel
theorem dX5_hasRoom_17 : decode cX5_hasRoom 17 = .ok (.ireturn, 1) := by decide +kernel
theorem dX5_append_0 : decode cX5_append 0 = .ok (.iload_n 3, 1) := by decide +kernel
theorem dX5_append_1 : decode cX5_append 1 = .ok (.iconst 1, 1) := by decide +kernel
theorem dX5_append_2 : decode cX5_append 2 = .ok (.isub, 1) := by decide +kernel
theorem dX5_append_3 : decode cX5_append 3 = .ok (.istore 4, 2) := by decide +kernel
theorem dX5_append_5 : decode cX5_append 5 = .ok (.iload 4, 2) := by decide +kernel
theorem dX5_append_7 : decode cX5_append 7 = .ok (.ifCond .lt 47, 3) := by decide +kernel
theorem dX5_append_10 : decode cX5_append 10 = .ok (.aload_n 0, 1) := by decide +kernel
theorem dX5_append_11 : decode cX5_append 11 = .ok (.getfield 15, 3) := by decide +kernel
theorem dX5_append_14 : decode cX5_append 14 = .ok (.sipush 400, 3) := by decide +kernel
theorem dX5_append_17 : decode cX5_append 17 = .ok (.if_icmp .ge 37, 3) := by decide +kernel
theorem dX5_append_20 : decode cX5_append 20 = .ok (.aload_n 0, 1) := by decide +kernel
theorem dX5_append_21 : decode cX5_append 21 = .ok (.getfield 11, 3) := by decide +kernel
theorem dX5_append_24 : decode cX5_append 24 = .ok (.aload_n 0, 1) := by decide +kernel
theorem dX5_append_25 : decode cX5_append 25 = .ok (.getfield 15, 3) := by decide +kernel
theorem dX5_append_28 : decode cX5_append 28 = .ok (.lload_n 1, 1) := by decide +kernel
theorem dX5_append_29 : decode cX5_append 29 = .ok (.bipush 8, 2) := by decide +kernel
theorem dX5_append_31 : decode cX5_append 31 = .ok (.iload 4, 2) := by decide +kernel
theorem dX5_append_33 : decode cX5_append 33 = .ok (.imul, 1) := by decide +kernel
theorem dX5_append_34 : decode cX5_append 34 = .ok (.lshr, 1) := by decide +kernel
theorem dX5_append_35 : decode cX5_append 35 = .ok (.l2i, 1) := by decide +kernel
theorem dX5_append_36 : decode cX5_append 36 = .ok (.i2b, 1) := by decide +kernel
theorem dX5_append_37 : decode cX5_append 37 = .ok (.bastore, 1) := by decide +kernel
theorem dX5_append_38 : decode cX5_append 38 = .ok (.aload_n 0, 1) := by decide +kernel
theorem dX5_append_39 : decode cX5_append 39 = .ok (.dup, 1) := by decide +kernel
theorem dX5_append_40 : decode cX5_append 40 = .ok (.getfield 15, 3) := by decide +kernel
theorem dX5_append_43 : decode cX5_append 43 = .ok (.iconst 1, 1) := by decide +kernel
theorem dX5_append_44 : decode cX5_append 44 = .ok (.iadd, 1) := by decide +kernel
theorem dX5_append_45 : decode cX5_append 45 = .ok (.putfield 15, 3) := by decide +kernel
theorem dX5_append_48 : decode cX5_append 48 = .ok (.iinc 4 (-1), 3) := by decide +kernel
theorem dX5_append_51 : decode cX5_append 51 = .ok (.goto (-46), 3) := by decide +kernel
theorem dX5_append_54 : decode cX5_append 54 = .ok (.aload_n 0, 1) := by decide +kernel
theorem dX5_append_55 : decode cX5_append 55 = .ok (.getfield 15, 3) := by decide +kernel
theorem dX5_append_58 : decode cX5_append 58 = .ok (.ireturn, 1) := by decide +kernel
theorem dX5_read_0 : decode cX5_read 0 = .ok (.aload_n 0, 1) := by decide +kernel
theorem dX5_read_1 : decode cX5_read 1 = .ok (.iconst 0, 1) := by decide +kernel
theorem dX5_read_2 : decode cX5_read 2 = .ok (.putfield 19, 3) := by decide +kernel
theorem dX5_read_5 : decode cX5_read 5 = .ok (.aload_n 0, 1) := by decide +kernel
theorem dX5_read_6 : decode cX5_read 6 = .ok (.invokevirtual 22, 3) := by decide +kernel
theorem dX5_read_9 : decode cX5_read 9 = .ok (.iconst 0, 1) := by decide +kernel
theorem dX5_read_10 : decode cX5_read 10 = .ok (.istore_n 2, 1) := by decide +kernel
theorem dX5_read_11 : decode cX5_read 11 = .ok (.iconst 0, 1) := by decide +kernel
theorem dX5_read_12 : decode cX5_read 12 = .ok (.istore_n 3, 1) := by decide +kernel
theorem dX5_read_13 : decode cX5_read 13 = .ok (.iload_n 3, 1) := by decide +kernel
theorem dX5_read_14 : decode cX5_read 14 = .ok (.sipush 400, 3) := by decide +kernel
theorem dX5_read_17 : decode cX5_read 17 = .ok (.if_icmp .ge 26, 3) := by decide +kernel
theorem dX5_read_20 : decode cX5_read 20 = .ok (.aload_n 0, 1) := by decide +kernel
theorem dX5_read_21 : decode cX5_read 21 = .ok (.getfield 25, 3) := by decide +kernel
theorem dX5_read_24 : decode cX5_read 24 = .ok (.ifCond .eq 19, 3) := by decide +kernel
theorem dX5_read_27 : decode cX5_read 27 = .ok (.iload_n 2, 1) := by decide +kernel
theorem dX5_read_28 : decode cX5_read 28 = .ok (.ifCond .ne 15, 3) := by decide +kernel
theorem dX5_read_31 : decode cX5_read 31 = .ok (.aload_n 0, 1) := by decide +kernel
theorem dX5_read_32 : decode cX5_read 32 = .ok (.aload_n 1, 1) := by decide +kernel
theorem dX5_read_33 : decode cX5_read 33 = .ok (.invokevirtual 28, 3) := by decide +kernel
theorem dX5_read_36 : decode cX5_read 36 = .ok (.istore_n 2, 1) := by decide +kernel
theorem dX5_read_37 : decode cX5_read 37 = .ok (.iinc 3 1, 3) := by decide +kernel
theorem dX5_read_40 : decode cX5_read 40 = .ok (.goto (-27), 3) := by decide +kernel
theorem dX5_read_43 : decode cX5_read 43 = .ok (.aload_n 0, 1) := by decide +kernel
theorem dX5_read_44 : decode cX5_read 44 = .ok (.iconst 0, 1) := by decide +kernel
theorem dX5_read_45 : decode cX5_read 45 = .ok (.putfield 15, 3) := by decide +kernel
theorem dX5_read_48 : decode cX5_read 48 = .ok (.iload_n 2, 1) := by decide +kernel
theorem dX5_read_49 : decode cX5_read 49 = .ok (.ireturn, 1) := by decide +kernel
theorem dX5_readSentence_0 : decode cX5_readSentence 0 = .ok (.aload_n 0, 1) := by decide +kernel
theorem dX5_readSentence_1 : decode cX5_readSentence 1 = .ok (.ldc 32, 2) := by decide +kernel
theorem dX5_readSentence_3 : decode cX5_readSentence 3 = .ok (.invokevirtual 34, 3) := by decide +kernel
theorem dX5_readSentence_6 : decode cX5_readSentence 6 = .ok (.ifCond .eq 10, 3) := by decide +kernel
theorem dX5_readSentence_9 : decode cX5_readSentence 9 = .ok (.aload_n 0, 1) := by decide +kernel
theorem dX5_readSentence_10 : decode cX5_readSentence 10 = .ok (.aload_n 1, 1) := by decide +kernel
theorem dX5_readSentence_11 : decode cX5_readSentence 11 = .ok (.iconst 0, 1) := by decide +kernel
theorem dX5_readSentence_12 : decode cX5_readSentence 12 = .ok (.invokevirtual 38, 3) := by decide +kernel
theorem dX5_readSentence_15 : decode cX5_readSentence 15 = .ok (.ireturn, 1) := by decide +kernel
theorem dX5_readSentence_16 : decode cX5_readSentence 16 = .ok (.aload_n 0, 1) := by decide +kernel
theorem dX5_readSentence_17 : decode cX5_readSentence 17 = .ok (.ldc 42, 2) := by decide +kernel
theorem dX5_readSentence_19 : decode cX5_readSentence 19 = .ok (.invokevirtual 34, 3) := by decide +kernel
theorem dX5_readSentence_22 : decode cX5_readSentence 22 = .ok (.ifCond .eq 10, 3) := by decide +kernel
theorem dX5_readSentence_25 : decode cX5_readSentence 25 = .ok (.aload_n 0, 1) := by decide +kernel
theorem dX5_readSentence_26 : decode cX5_readSentence 26 = .ok (.aload_n 1, 1) := by decide +kernel
theorem dX5_readSentence_27 : decode cX5_readSentence 27 = .ok (.iconst 1, 1) := by decide +kernel
theorem dX5_readSentence_28 : decode cX5_readSentence 28 = .ok (.invokevirtual 38, 3) := by decide +kernel
theorem dX5_readSentence_31 : decode cX5_readSentence 31 = .ok (.ireturn, 1) := by decide +kernel
theorem dX5_readSentence_32 : decode cX5_readSentence 32 = .ok (.aload_n 0, 1) := by decide +kernel
theorem dX5_readSentence_33 : decode cX5_readSentence 33 = .ok (.ldc 44, 2) := by decide +kernel
theorem dX5_readSentence_35 : decode cX5_readSentence 35 = .ok (.invokevirtual 34, 3) := by decide +kernel
theorem dX5_readSentence_38 : decode cX5_readSentence 38 = .ok (.ifCond .eq 9, 3) := by decide +kernel
theorem dX5_readSentence_41 : decode cX5_readSentence 41 = .ok (.aload_n 0, 1) := by decide +kernel
theorem dX5_readSentence_42 : decode cX5_readSentence 42 = .ok (.aload_n 1, 1) := by decide +kernel
theorem dX5_readSentence_43 : decode cX5_readSentence 43 = .ok (.invokevirtual 46, 3) := by decide +kernel
theorem dX5_readSentence_46 : decode cX5_readSentence 46 = .ok (.ireturn, 1) := by decide +kernel
theorem dX5_readSentence_47 : decode cX5_readSentence 47 = .ok (.aload_n 0, 1) := by decide +kernel
theorem dX5_readSentence_48 : decode cX5_readSentence 48 = .ok (.ldc 49, 2) := by decide +kernel
theorem dX5_readSentence_50 : decode cX5_readSentence 50 = .ok (.invokevirtual 34, 3) := by decide +kernel
theorem dX5_readSentence_53 : decode cX5_readSentence 53 = .ok (.ifCond .eq 9, 3) := by decide +kernel
theorem dX5_readSentence_56 : decode cX5_readSentence 56 = .ok (.aload_n 0, 1) := by decide +kernel
theorem dX5_readSentence_57 : decode cX5_readSentence 57 = .ok (.aload_n 1, 1) := by decide +kernel
theorem dX5_readSentence_58 : decode cX5_readSentence 58 = .ok (.invokevirtual 51, 3) := by decide +kernel
theorem dX5_readSentence_61 : decode cX5_readSentence 61 = .ok (.ireturn, 1) := by decide +kernel
theorem dX5_readSentence_62 : decode cX5_readSentence 62 = .ok (.iconst 1, 1) := by decide +kernel
theorem dX5_readSentence_63 : decode cX5_readSentence 63 = .ok (.ireturn, 1) := by decide +kernel
theorem dX5_readGround_0 : decode cX5_readGround 0 = .ok (.aload_n 1, 1) := by decide +kernel
theorem dX5_readGround_1 : decode cX5_readGround 1 = .ok (.getfield 54, 3) := by decide +kernel
theorem dX5_readGround_4 : decode cX5_readGround 4 = .ok (.bipush 20, 2) := by decide +kernel
theorem dX5_readGround_6 : decode cX5_readGround 6 = .ok (.if_icmp .lt 5, 3) := by decide +kernel
theorem dX5_readGround_9 : decode cX5_readGround 9 = .ok (.iconst 3, 1) := by decide +kernel
theorem dX5_readGround_10 : decode cX5_readGround 10 = .ok (.ireturn, 1) := by decide +kernel
theorem dX5_readGround_11 : decode cX5_readGround 11 = .ok (.aload_n 0, 1) := by decide +kernel
theorem dX5_readGround_12 : decode cX5_readGround 12 = .ok (.invokevirtual 22, 3) := by decide +kernel
theorem dX5_readGround_15 : decode cX5_readGround 15 = .ok (.aload_n 0, 1) := by decide +kernel
theorem dX5_readGround_16 : decode cX5_readGround 16 = .ok (.getfield 25, 3) := by decide +kernel
theorem dX5_readGround_19 : decode cX5_readGround 19 = .ok (.iconst 2, 1) := by decide +kernel
theorem dX5_readGround_20 : decode cX5_readGround 20 = .ok (.if_icmp .eq 5, 3) := by decide +kernel
theorem dX5_readGround_23 : decode cX5_readGround 23 = .ok (.iconst 1, 1) := by decide +kernel
theorem dX5_readGround_24 : decode cX5_readGround 24 = .ok (.ireturn, 1) := by decide +kernel
theorem dX5_readGround_25 : decode cX5_readGround 25 = .ok (.aload_n 0, 1) := by decide +kernel
theorem dX5_readGround_26 : decode cX5_readGround 26 = .ok (.getfield 59, 3) := by decide +kernel
theorem dX5_readGround_29 : decode cX5_readGround 29 = .ok (.bipush 9, 2) := by decide +kernel
theorem dX5_readGround_31 : decode cX5_readGround 31 = .ok (.if_icmp .le 5, 3) := by decide +kernel
theorem dX5_readGround_34 : decode cX5_readGround 34 = .ok (.iconst 2, 1) := by decide +kernel
theorem dX5_readGround_35 : decode cX5_readGround 35 = .ok (.ireturn, 1) := by decide +kernel
theorem dX5_readGround_36 : decode cX5_readGround 36 = .ok (.aload_n 1, 1) := by decide +kernel
theorem dX5_readGround_37 : decode cX5_readGround 37 = .ok (.iload_n 2, 1) := by decide +kernel
theorem dX5_readGround_38 : decode cX5_readGround 38 = .ok (.aload_n 0, 1) := by decide +kernel
theorem dX5_readGround_39 : decode cX5_readGround 39 = .ok (.getfield 59, 3) := by decide +kernel
theorem dX5_readGround_42 : decode cX5_readGround 42 = .ok (.invokevirtual 62, 3) := by decide +kernel
theorem dX5_readGround_45 : decode cX5_readGround 45 = .ok (.aload_n 0, 1) := by decide +kernel
theorem dX5_readGround_46 : decode cX5_readGround 46 = .ok (.invokevirtual 22, 3) := by decide +kernel
theorem dX5_readGround_49 : decode cX5_readGround 49 = .ok (.aload_n 0, 1) := by decide +kernel
theorem dX5_readGround_50 : decode cX5_readGround 50 = .ok (.invokevirtual 66, 3) := by decide +kernel
theorem dX5_readGround_53 : decode cX5_readGround 53 = .ok (.ireturn, 1) := by decide +kernel
theorem dX5_readClaim_0 : decode cX5_readClaim 0 = .ok (.aload_n 1, 1) := by decide +kernel
theorem dX5_readClaim_1 : decode cX5_readClaim 1 = .ok (.getfield 54, 3) := by decide +kernel
theorem dX5_readClaim_4 : decode cX5_readClaim 4 = .ok (.bipush 20, 2) := by decide +kernel
theorem dX5_readClaim_6 : decode cX5_readClaim 6 = .ok (.if_icmp .lt 5, 3) := by decide +kernel
theorem dX5_readClaim_9 : decode cX5_readClaim 9 = .ok (.iconst 3, 1) := by decide +kernel
theorem dX5_readClaim_10 : decode cX5_readClaim 10 = .ok (.ireturn, 1) := by decide +kernel
theorem dX5_readClaim_11 : decode cX5_readClaim 11 = .ok (.aload_n 1, 1) := by decide +kernel
theorem dX5_readClaim_12 : decode cX5_readClaim 12 = .ok (.iconst 2, 1) := by decide +kernel
theorem dX5_readClaim_13 : decode cX5_readClaim 13 = .ok (.iconst 0, 1) := by decide +kernel
theorem dX5_readClaim_14 : decode cX5_readClaim 14 = .ok (.invokevirtual 62, 3) := by decide +kernel
theorem dX5_readClaim_17 : decode cX5_readClaim 17 = .ok (.aload_n 0, 1) := by decide +kernel
theorem dX5_readClaim_18 : decode cX5_readClaim 18 = .ok (.invokevirtual 22, 3) := by decide +kernel
theorem dX5_readClaim_21 : decode cX5_readClaim 21 = .ok (.aload_n 0, 1) := by decide +kernel
theorem dX5_readClaim_22 : decode cX5_readClaim 22 = .ok (.invokevirtual 66, 3) := by decide +kernel
theorem dX5_readClaim_25 : decode cX5_readClaim 25 = .ok (.ireturn, 1) := by decide +kernel
theorem dX5_readStep_0 : decode cX5_readStep 0 = .ok (.aload_n 1, 1) := by decide +kernel
theorem dX5_readStep_1 : decode cX5_readStep 1 = .ok (.getfield 70, 3) := by decide +kernel
theorem dX5_readStep_4 : decode cX5_readStep 4 = .ok (.bipush 16, 2) := by decide +kernel
theorem dX5_readStep_6 : decode cX5_readStep 6 = .ok (.if_icmp .lt 5, 3) := by decide +kernel
theorem dX5_readStep_9 : decode cX5_readStep 9 = .ok (.iconst 3, 1) := by decide +kernel
theorem dX5_readStep_10 : decode cX5_readStep 10 = .ok (.ireturn, 1) := by decide +kernel
theorem dX5_readStep_11 : decode cX5_readStep 11 = .ok (.aload_n 0, 1) := by decide +kernel
theorem dX5_readStep_12 : decode cX5_readStep 12 = .ok (.invokevirtual 22, 3) := by decide +kernel
theorem dX5_readStep_15 : decode cX5_readStep 15 = .ok (.aload_n 0, 1) := by decide +kernel
theorem dX5_readStep_16 : decode cX5_readStep 16 = .ok (.invokevirtual 73, 3) := by decide +kernel
theorem dX5_readStep_19 : decode cX5_readStep 19 = .ok (.istore_n 2, 1) := by decide +kernel
theorem dX5_readStep_20 : decode cX5_readStep 20 = .ok (.iload_n 2, 1) := by decide +kernel
theorem dX5_readStep_21 : decode cX5_readStep 21 = .ok (.ifCond .ge 5, 3) := by decide +kernel
theorem dX5_readStep_24 : decode cX5_readStep 24 = .ok (.iconst 1, 1) := by decide +kernel
theorem dX5_readStep_25 : decode cX5_readStep 25 = .ok (.ireturn, 1) := by decide +kernel
theorem dX5_readStep_26 : decode cX5_readStep 26 = .ok (.aload_n 0, 1) := by decide +kernel
theorem dX5_readStep_27 : decode cX5_readStep 27 = .ok (.invokevirtual 22, 3) := by decide +kernel
theorem dX5_readStep_30 : decode cX5_readStep 30 = .ok (.aload_n 0, 1) := by decide +kernel
theorem dX5_readStep_31 : decode cX5_readStep 31 = .ok (.getfield 25, 3) := by decide +kernel
theorem dX5_readStep_34 : decode cX5_readStep 34 = .ok (.iconst 2, 1) := by decide +kernel
theorem dX5_readStep_35 : decode cX5_readStep 35 = .ok (.if_icmp .eq 5, 3) := by decide +kernel
theorem dX5_readStep_38 : decode cX5_readStep 38 = .ok (.iconst 1, 1) := by decide +kernel
theorem dX5_readStep_39 : decode cX5_readStep 39 = .ok (.ireturn, 1) := by decide +kernel
theorem dX5_readStep_40 : decode cX5_readStep 40 = .ok (.aload_n 1, 1) := by decide +kernel
theorem dX5_readStep_41 : decode cX5_readStep 41 = .ok (.aload_n 0, 1) := by decide +kernel
theorem dX5_readStep_42 : decode cX5_readStep 42 = .ok (.getfield 59, 3) := by decide +kernel
theorem dX5_readStep_45 : decode cX5_readStep 45 = .ok (.invokevirtual 76, 3) := by decide +kernel
theorem dX5_readStep_48 : decode cX5_readStep 48 = .ok (.ifCond .ne 5, 3) := by decide +kernel
theorem dX5_readStep_51 : decode cX5_readStep 51 = .ok (.iconst 2, 1) := by decide +kernel
theorem dX5_readStep_52 : decode cX5_readStep 52 = .ok (.ireturn, 1) := by decide +kernel
theorem dX5_readStep_53 : decode cX5_readStep 53 = .ok (.aload_n 1, 1) := by decide +kernel
theorem dX5_readStep_54 : decode cX5_readStep 54 = .ok (.iload_n 2, 1) := by decide +kernel
theorem dX5_readStep_55 : decode cX5_readStep 55 = .ok (.aload_n 0, 1) := by decide +kernel
theorem dX5_readStep_56 : decode cX5_readStep 56 = .ok (.getfield 59, 3) := by decide +kernel
theorem dX5_readStep_59 : decode cX5_readStep 59 = .ok (.invokevirtual 80, 3) := by decide +kernel
theorem dX5_readStep_62 : decode cX5_readStep 62 = .ok (.istore_n 3, 1) := by decide +kernel
theorem dX5_readStep_63 : decode cX5_readStep 63 = .ok (.aload_n 0, 1) := by decide +kernel
theorem dX5_readStep_64 : decode cX5_readStep 64 = .ok (.invokevirtual 22, 3) := by decide +kernel
theorem dX5_readStep_67 : decode cX5_readStep 67 = .ok (.aload_n 0, 1) := by decide +kernel
theorem dX5_readStep_68 : decode cX5_readStep 68 = .ok (.aload_n 1, 1) := by decide +kernel
theorem dX5_readStep_69 : decode cX5_readStep 69 = .ok (.iload_n 3, 1) := by decide +kernel
theorem dX5_readStep_70 : decode cX5_readStep 70 = .ok (.invokevirtual 84, 3) := by decide +kernel
theorem dX5_readStep_73 : decode cX5_readStep 73 = .ok (.istore 4, 2) := by decide +kernel
theorem dX5_readStep_75 : decode cX5_readStep 75 = .ok (.iconst 0, 1) := by decide +kernel
theorem dX5_readStep_76 : decode cX5_readStep 76 = .ok (.istore 5, 2) := by decide +kernel
theorem dX5_readStep_78 : decode cX5_readStep 78 = .ok (.iload 5, 2) := by decide +kernel
theorem dX5_readStep_80 : decode cX5_readStep 80 = .ok (.bipush 6, 2) := by decide +kernel
theorem dX5_readStep_82 : decode cX5_readStep 82 = .ok (.if_icmp .ge 30, 3) := by decide +kernel
theorem dX5_readStep_85 : decode cX5_readStep 85 = .ok (.iload 4, 2) := by decide +kernel
theorem dX5_readStep_87 : decode cX5_readStep 87 = .ok (.ifCond .ne 25, 3) := by decide +kernel
theorem dX5_readStep_90 : decode cX5_readStep 90 = .ok (.aload_n 0, 1) := by decide +kernel
theorem dX5_readStep_91 : decode cX5_readStep 91 = .ok (.getfield 25, 3) := by decide +kernel
theorem dX5_readStep_94 : decode cX5_readStep 94 = .ok (.iconst 2, 1) := by decide +kernel
theorem dX5_readStep_95 : decode cX5_readStep 95 = .ok (.if_icmp .ne 17, 3) := by decide +kernel
theorem dX5_readStep_98 : decode cX5_readStep 98 = .ok (.aload_n 0, 1) := by decide +kernel
theorem dX5_readStep_99 : decode cX5_readStep 99 = .ok (.aload_n 1, 1) := by decide +kernel
theorem dX5_readStep_100 : decode cX5_readStep 100 = .ok (.iload_n 3, 1) := by decide +kernel
theorem dX5_readStep_101 : decode cX5_readStep 101 = .ok (.invokevirtual 84, 3) := by decide +kernel
theorem dX5_readStep_104 : decode cX5_readStep 104 = .ok (.istore 4, 2) := by decide +kernel
theorem dX5_readStep_106 : decode cX5_readStep 106 = .ok (.iinc 5 1, 3) := by decide +kernel
theorem dX5_readStep_109 : decode cX5_readStep 109 = .ok (.goto (-31), 3) := by decide +kernel
theorem dX5_readStep_112 : decode cX5_readStep 112 = .ok (.iload 4, 2) := by decide +kernel
theorem dX5_readStep_114 : decode cX5_readStep 114 = .ok (.ifCond .eq 8, 3) := by decide +kernel
theorem dX5_readStep_117 : decode cX5_readStep 117 = .ok (.iload 4, 2) := by decide +kernel
theorem dX5_readStep_119 : decode cX5_readStep 119 = .ok (.goto 7, 3) := by decide +kernel
theorem dX5_readStep_122 : decode cX5_readStep 122 = .ok (.aload_n 0, 1) := by decide +kernel
theorem dX5_readStep_123 : decode cX5_readStep 123 = .ok (.invokevirtual 66, 3) := by decide +kernel
theorem dX5_readStep_126 : decode cX5_readStep 126 = .ok (.ireturn, 1) := by decide +kernel
theorem dX5_readPart_0 : decode cX5_readPart 0 = .ok (.aload_n 0, 1) := by decide +kernel
theorem dX5_readPart_1 : decode cX5_readPart 1 = .ok (.getfield 25, 3) := by decide +kernel
theorem dX5_readPart_4 : decode cX5_readPart 4 = .ok (.iconst 2, 1) := by decide +kernel
theorem dX5_readPart_5 : decode cX5_readPart 5 = .ok (.if_icmp .eq 5, 3) := by decide +kernel
theorem dX5_readPart_8 : decode cX5_readPart 8 = .ok (.iconst 1, 1) := by decide +kernel
theorem dX5_readPart_9 : decode cX5_readPart 9 = .ok (.ireturn, 1) := by decide +kernel
theorem dX5_readPart_10 : decode cX5_readPart 10 = .ok (.aload_n 1, 1) := by decide +kernel
theorem dX5_readPart_11 : decode cX5_readPart 11 = .ok (.aload_n 0, 1) := by decide +kernel
theorem dX5_readPart_12 : decode cX5_readPart 12 = .ok (.getfield 59, 3) := by decide +kernel
theorem dX5_readPart_15 : decode cX5_readPart 15 = .ok (.invokevirtual 87, 3) := by decide +kernel
theorem dX5_readPart_18 : decode cX5_readPart 18 = .ok (.ifCond .eq 15, 3) := by decide +kernel
theorem dX5_readPart_21 : decode cX5_readPart 21 = .ok (.aload_n 1, 1) := by decide +kernel
theorem dX5_readPart_22 : decode cX5_readPart 22 = .ok (.iload_n 2, 1) := by decide +kernel
theorem dX5_readPart_23 : decode cX5_readPart 23 = .ok (.aload_n 0, 1) := by decide +kernel
theorem dX5_readPart_24 : decode cX5_readPart 24 = .ok (.getfield 59, 3) := by decide +kernel
theorem dX5_readPart_27 : decode cX5_readPart 27 = .ok (.invokevirtual 90, 3) := by decide +kernel
theorem dX5_readPart_30 : decode cX5_readPart 30 = .ok (.ifCond .eq 5, 3) := by decide +kernel
theorem dX5_readPart_33 : decode cX5_readPart 33 = .ok (.iconst 2, 1) := by decide +kernel
theorem dX5_readPart_34 : decode cX5_readPart 34 = .ok (.ireturn, 1) := by decide +kernel
theorem dX5_readPart_35 : decode cX5_readPart 35 = .ok (.aload_n 1, 1) := by decide +kernel
theorem dX5_readPart_36 : decode cX5_readPart 36 = .ok (.getfield 94, 3) := by decide +kernel
theorem dX5_readPart_39 : decode cX5_readPart 39 = .ok (.iload_n 2, 1) := by decide +kernel
theorem dX5_readPart_40 : decode cX5_readPart 40 = .ok (.iaload, 1) := by decide +kernel
theorem dX5_readPart_41 : decode cX5_readPart 41 = .ok (.bipush 6, 2) := by decide +kernel
theorem dX5_readPart_43 : decode cX5_readPart 43 = .ok (.if_icmp .lt 5, 3) := by decide +kernel
theorem dX5_readPart_46 : decode cX5_readPart 46 = .ok (.iconst 3, 1) := by decide +kernel
theorem dX5_readPart_47 : decode cX5_readPart 47 = .ok (.ireturn, 1) := by decide +kernel
theorem dX5_readPart_48 : decode cX5_readPart 48 = .ok (.aload_n 1, 1) := by decide +kernel
theorem dX5_readPart_49 : decode cX5_readPart 49 = .ok (.iload_n 2, 1) := by decide +kernel
theorem dX5_readPart_50 : decode cX5_readPart 50 = .ok (.aload_n 0, 1) := by decide +kernel
theorem dX5_readPart_51 : decode cX5_readPart 51 = .ok (.getfield 59, 3) := by decide +kernel
theorem dX5_readPart_54 : decode cX5_readPart 54 = .ok (.invokevirtual 98, 3) := by decide +kernel
theorem dX5_readPart_57 : decode cX5_readPart 57 = .ok (.aload_n 0, 1) := by decide +kernel
theorem dX5_readPart_58 : decode cX5_readPart 58 = .ok (.invokevirtual 22, 3) := by decide +kernel
theorem dX5_readPart_61 : decode cX5_readPart 61 = .ok (.iconst 0, 1) := by decide +kernel
theorem dX5_readPart_62 : decode cX5_readPart 62 = .ok (.ireturn, 1) := by decide +kernel
theorem dX5_readSign_0 : decode cX5_readSign 0 = .ok (.aload_n 0, 1) := by decide +kernel
theorem dX5_readSign_1 : decode cX5_readSign 1 = .ok (.getfield 25, 3) := by decide +kernel
theorem dX5_readSign_4 : decode cX5_readSign 4 = .ok (.iconst 3, 1) := by decide +kernel
theorem dX5_readSign_5 : decode cX5_readSign 5 = .ok (.if_icmp .eq 5, 3) := by decide +kernel
theorem dX5_readSign_8 : decode cX5_readSign 8 = .ok (.iconst 1, 1) := by decide +kernel
theorem dX5_readSign_9 : decode cX5_readSign 9 = .ok (.ireturn, 1) := by decide +kernel
theorem dX5_readSign_10 : decode cX5_readSign 10 = .ok (.aload_n 0, 1) := by decide +kernel
theorem dX5_readSign_11 : decode cX5_readSign 11 = .ok (.invokevirtual 22, 3) := by decide +kernel
theorem dX5_readSign_14 : decode cX5_readSign 14 = .ok (.iconst 0, 1) := by decide +kernel
theorem dX5_readSign_15 : decode cX5_readSign 15 = .ok (.ireturn, 1) := by decide +kernel
theorem dX5_formTold_0 : decode cX5_formTold 0 = .ok (.aload_n 0, 1) := by decide +kernel
theorem dX5_formTold_1 : decode cX5_formTold 1 = .ok (.ldc 101, 2) := by decide +kernel
theorem dX5_formTold_3 : decode cX5_formTold 3 = .ok (.invokevirtual 34, 3) := by decide +kernel
theorem dX5_formTold_6 : decode cX5_formTold 6 = .ok (.ifCond .eq 5, 3) := by decide +kernel
theorem dX5_formTold_9 : decode cX5_formTold 9 = .ok (.iconst 0, 1) := by decide +kernel
theorem dX5_formTold_10 : decode cX5_formTold 10 = .ok (.ireturn, 1) := by decide +kernel
theorem dX5_formTold_11 : decode cX5_formTold 11 = .ok (.aload_n 0, 1) := by decide +kernel
theorem dX5_formTold_12 : decode cX5_formTold 12 = .ok (.ldc 103, 2) := by decide +kernel
theorem dX5_formTold_14 : decode cX5_formTold 14 = .ok (.invokevirtual 34, 3) := by decide +kernel
theorem dX5_formTold_17 : decode cX5_formTold 17 = .ok (.ifCond .eq 5, 3) := by decide +kernel
theorem dX5_formTold_20 : decode cX5_formTold 20 = .ok (.iconst 1, 1) := by decide +kernel
theorem dX5_formTold_21 : decode cX5_formTold 21 = .ok (.ireturn, 1) := by decide +kernel
theorem dX5_formTold_22 : decode cX5_formTold 22 = .ok (.aload_n 0, 1) := by decide +kernel
theorem dX5_formTold_23 : decode cX5_formTold 23 = .ok (.ldc 105, 2) := by decide +kernel
theorem dX5_formTold_25 : decode cX5_formTold 25 = .ok (.invokevirtual 34, 3) := by decide +kernel
theorem dX5_formTold_28 : decode cX5_formTold 28 = .ok (.ifCond .eq 5, 3) := by decide +kernel
theorem dX5_formTold_31 : decode cX5_formTold 31 = .ok (.iconst 2, 1) := by decide +kernel
theorem dX5_formTold_32 : decode cX5_formTold 32 = .ok (.ireturn, 1) := by decide +kernel
theorem dX5_formTold_33 : decode cX5_formTold 33 = .ok (.aload_n 0, 1) := by decide +kernel
theorem dX5_formTold_34 : decode cX5_formTold 34 = .ok (.ldc 107, 2) := by decide +kernel
theorem dX5_formTold_36 : decode cX5_formTold 36 = .ok (.invokevirtual 34, 3) := by decide +kernel
theorem dX5_formTold_39 : decode cX5_formTold 39 = .ok (.ifCond .eq 7, 3) := by decide +kernel
theorem dX5_formTold_42 : decode cX5_formTold 42 = .ok (.iconst 3, 1) := by decide +kernel
theorem dX5_formTold_43 : decode cX5_formTold 43 = .ok (.goto 4, 3) := by decide +kernel
theorem dX5_formTold_46 : decode cX5_formTold 46 = .ok (.iconst (-1), 1) := by decide +kernel
theorem dX5_formTold_47 : decode cX5_formTold 47 = .ok (.ireturn, 1) := by decide +kernel
theorem dX5_take_0 : decode cX5_take 0 = .ok (.aload_n 0, 1) := by decide +kernel
theorem dX5_take_1 : decode cX5_take 1 = .ok (.aload_n 0, 1) := by decide +kernel
theorem dX5_take_2 : decode cX5_take 2 = .ok (.getfield 19, 3) := by decide +kernel
theorem dX5_take_5 : decode cX5_take 5 = .ok (.putfield 109, 3) := by decide +kernel
theorem dX5_take_8 : decode cX5_take 8 = .ok (.aload_n 0, 1) := by decide +kernel
theorem dX5_take_9 : decode cX5_take 9 = .ok (.getfield 109, 3) := by decide +kernel
theorem dX5_take_12 : decode cX5_take 12 = .ok (.aload_n 0, 1) := by decide +kernel
theorem dX5_take_13 : decode cX5_take 13 = .ok (.getfield 15, 3) := by decide +kernel
theorem dX5_take_16 : decode cX5_take 16 = .ok (.if_icmp .ge 28, 3) := by decide +kernel
theorem dX5_take_19 : decode cX5_take 19 = .ok (.aload_n 0, 1) := by decide +kernel
theorem dX5_take_20 : decode cX5_take 20 = .ok (.aload_n 0, 1) := by decide +kernel
theorem dX5_take_21 : decode cX5_take 21 = .ok (.getfield 109, 3) := by decide +kernel
theorem dX5_take_24 : decode cX5_take 24 = .ok (.invokevirtual 112, 3) := by decide +kernel
theorem dX5_take_27 : decode cX5_take 27 = .ok (.iconst 4, 1) := by decide +kernel
theorem dX5_take_28 : decode cX5_take 28 = .ok (.if_icmp .ne 16, 3) := by decide +kernel
theorem dX5_take_31 : decode cX5_take 31 = .ok (.aload_n 0, 1) := by decide +kernel
theorem dX5_take_32 : decode cX5_take 32 = .ok (.dup, 1) := by decide +kernel
theorem dX5_take_33 : decode cX5_take 33 = .ok (.getfield 109, 3) := by decide +kernel
theorem dX5_take_36 : decode cX5_take 36 = .ok (.iconst 1, 1) := by decide +kernel
theorem dX5_take_37 : decode cX5_take 37 = .ok (.iadd, 1) := by decide +kernel
theorem dX5_take_38 : decode cX5_take 38 = .ok (.putfield 109, 3) := by decide +kernel
theorem dX5_take_41 : decode cX5_take 41 = .ok (.goto (-33), 3) := by decide +kernel
theorem dX5_take_44 : decode cX5_take 44 = .ok (.aload_n 0, 1) := by decide +kernel
theorem dX5_take_45 : decode cX5_take 45 = .ok (.aload_n 0, 1) := by decide +kernel
theorem dX5_take_46 : decode cX5_take 46 = .ok (.aload_n 0, 1) := by decide +kernel
theorem dX5_take_47 : decode cX5_take 47 = .ok (.getfield 109, 3) := by decide +kernel
theorem dX5_take_50 : decode cX5_take 50 = .ok (.invokevirtual 112, 3) := by decide +kernel
theorem dX5_take_53 : decode cX5_take 53 = .ok (.putfield 25, 3) := by decide +kernel
theorem dX5_take_56 : decode cX5_take 56 = .ok (.aload_n 0, 1) := by decide +kernel
theorem dX5_take_57 : decode cX5_take 57 = .ok (.aload_n 0, 1) := by decide +kernel
theorem dX5_take_58 : decode cX5_take 58 = .ok (.getfield 109, 3) := by decide +kernel
theorem dX5_take_61 : decode cX5_take 61 = .ok (.iconst 1, 1) := by decide +kernel
theorem dX5_take_62 : decode cX5_take 62 = .ok (.iadd, 1) := by decide +kernel
theorem dX5_take_63 : decode cX5_take 63 = .ok (.aload_n 0, 1) := by decide +kernel
theorem dX5_take_64 : decode cX5_take 64 = .ok (.getfield 15, 3) := by decide +kernel
theorem dX5_take_67 : decode cX5_take 67 = .ok (.invokestatic 116, 3) := by decide +kernel
theorem dX5_take_70 : decode cX5_take 70 = .ok (.putfield 19, 3) := by decide +kernel
theorem dX5_take_73 : decode cX5_take 73 = .ok (.aload_n 0, 1) := by decide +kernel
theorem dX5_take_74 : decode cX5_take 74 = .ok (.getfield 25, 3) := by decide +kernel
theorem dX5_take_77 : decode cX5_take 77 = .ok (.iconst 1, 1) := by decide +kernel
theorem dX5_take_78 : decode cX5_take 78 = .ok (.if_icmp .eq 11, 3) := by decide +kernel
theorem dX5_take_81 : decode cX5_take 81 = .ok (.aload_n 0, 1) := by decide +kernel
theorem dX5_take_82 : decode cX5_take 82 = .ok (.getfield 25, 3) := by decide +kernel
theorem dX5_take_85 : decode cX5_take 85 = .ok (.iconst 2, 1) := by decide +kernel
theorem dX5_take_86 : decode cX5_take 86 = .ok (.if_icmp .ne 7, 3) := by decide +kernel
theorem dX5_take_89 : decode cX5_take 89 = .ok (.iconst 1, 1) := by decide +kernel
theorem dX5_take_90 : decode cX5_take 90 = .ok (.goto 4, 3) := by decide +kernel
theorem dX5_take_93 : decode cX5_take 93 = .ok (.iconst 0, 1) := by decide +kernel
theorem dX5_take_94 : decode cX5_take 94 = .ok (.istore_n 1, 1) := by decide +kernel
theorem dX5_take_95 : decode cX5_take 95 = .ok (.iload_n 1, 1) := by decide +kernel
theorem dX5_take_96 : decode cX5_take 96 = .ok (.ifCond .eq 42, 3) := by decide +kernel
theorem dX5_take_99 : decode cX5_take 99 = .ok (.aload_n 0, 1) := by decide +kernel
theorem dX5_take_100 : decode cX5_take 100 = .ok (.getfield 19, 3) := by decide +kernel
theorem dX5_take_103 : decode cX5_take 103 = .ok (.aload_n 0, 1) := by decide +kernel
theorem dX5_take_104 : decode cX5_take 104 = .ok (.getfield 15, 3) := by decide +kernel
theorem dX5_take_107 : decode cX5_take 107 = .ok (.if_icmp .ge 31, 3) := by decide +kernel
theorem dX5_take_110 : decode cX5_take 110 = .ok (.aload_n 0, 1) := by decide +kernel
theorem dX5_take_111 : decode cX5_take 111 = .ok (.aload_n 0, 1) := by decide +kernel
theorem dX5_take_112 : decode cX5_take 112 = .ok (.getfield 19, 3) := by decide +kernel
theorem dX5_take_115 : decode cX5_take 115 = .ok (.invokevirtual 112, 3) := by decide +kernel
theorem dX5_take_118 : decode cX5_take 118 = .ok (.aload_n 0, 1) := by decide +kernel
theorem dX5_take_119 : decode cX5_take 119 = .ok (.getfield 25, 3) := by decide +kernel
theorem dX5_take_122 : decode cX5_take 122 = .ok (.if_icmp .ne 16, 3) := by decide +kernel
theorem dX5_take_125 : decode cX5_take 125 = .ok (.aload_n 0, 1) := by decide +kernel
theorem dX5_take_126 : decode cX5_take 126 = .ok (.dup, 1) := by decide +kernel
theorem dX5_take_127 : decode cX5_take 127 = .ok (.getfield 19, 3) := by decide +kernel
theorem dX5_take_130 : decode cX5_take 130 = .ok (.iconst 1, 1) := by decide +kernel
theorem dX5_take_131 : decode cX5_take 131 = .ok (.iadd, 1) := by decide +kernel
theorem dX5_take_132 : decode cX5_take 132 = .ok (.putfield 19, 3) := by decide +kernel
theorem dX5_take_135 : decode cX5_take 135 = .ok (.goto (-40), 3) := by decide +kernel
theorem dX5_take_138 : decode cX5_take 138 = .ok (.aload_n 0, 1) := by decide +kernel
theorem dX5_take_139 : decode cX5_take 139 = .ok (.getfield 25, 3) := by decide +kernel
theorem dX5_take_142 : decode cX5_take 142 = .ok (.iconst 2, 1) := by decide +kernel
theorem dX5_take_143 : decode cX5_take 143 = .ok (.if_icmp .ne 7, 3) := by decide +kernel
theorem dX5_take_146 : decode cX5_take 146 = .ok (.aload_n 0, 1) := by decide +kernel
theorem dX5_take_147 : decode cX5_take 147 = .ok (.invokevirtual 121, 3) := by decide +kernel
theorem dX5_take_150 : decode cX5_take 150 = .ok (.return_, 1) := by decide +kernel
theorem dX5_takeWorth_0 : decode cX5_takeWorth 0 = .ok (.aload_n 0, 1) := by decide +kernel
theorem dX5_takeWorth_1 : decode cX5_takeWorth 1 = .ok (.iconst 0, 1) := by decide +kernel
theorem dX5_takeWorth_2 : decode cX5_takeWorth 2 = .ok (.putfield 59, 3) := by decide +kernel
theorem dX5_takeWorth_5 : decode cX5_takeWorth 5 = .ok (.aload_n 0, 1) := by decide +kernel
theorem dX5_takeWorth_6 : decode cX5_takeWorth 6 = .ok (.getfield 109, 3) := by decide +kernel
theorem dX5_takeWorth_9 : decode cX5_takeWorth 9 = .ok (.istore_n 1, 1) := by decide +kernel
theorem dX5_takeWorth_10 : decode cX5_takeWorth 10 = .ok (.iload_n 1, 1) := by decide +kernel
theorem dX5_takeWorth_11 : decode cX5_takeWorth 11 = .ok (.aload_n 0, 1) := by decide +kernel
theorem dX5_takeWorth_12 : decode cX5_takeWorth 12 = .ok (.getfield 19, 3) := by decide +kernel
theorem dX5_takeWorth_15 : decode cX5_takeWorth 15 = .ok (.if_icmp .ge 40, 3) := by decide +kernel
theorem dX5_takeWorth_18 : decode cX5_takeWorth 18 = .ok (.iload_n 1, 1) := by decide +kernel
theorem dX5_takeWorth_19 : decode cX5_takeWorth 19 = .ok (.aload_n 0, 1) := by decide +kernel
theorem dX5_takeWorth_20 : decode cX5_takeWorth 20 = .ok (.getfield 109, 3) := by decide +kernel
theorem dX5_takeWorth_23 : decode cX5_takeWorth 23 = .ok (.iconst 4, 1) := by decide +kernel
theorem dX5_takeWorth_24 : decode cX5_takeWorth 24 = .ok (.iadd, 1) := by decide +kernel
theorem dX5_takeWorth_25 : decode cX5_takeWorth 25 = .ok (.if_icmp .ge 30, 3) := by decide +kernel
theorem dX5_takeWorth_28 : decode cX5_takeWorth 28 = .ok (.aload_n 0, 1) := by decide +kernel
theorem dX5_takeWorth_29 : decode cX5_takeWorth 29 = .ok (.bipush 10, 2) := by decide +kernel
theorem dX5_takeWorth_31 : decode cX5_takeWorth 31 = .ok (.aload_n 0, 1) := by decide +kernel
theorem dX5_takeWorth_32 : decode cX5_takeWorth 32 = .ok (.getfield 59, 3) := by decide +kernel
theorem dX5_takeWorth_35 : decode cX5_takeWorth 35 = .ok (.imul, 1) := by decide +kernel
theorem dX5_takeWorth_36 : decode cX5_takeWorth 36 = .ok (.aload_n 0, 1) := by decide +kernel
theorem dX5_takeWorth_37 : decode cX5_takeWorth 37 = .ok (.getfield 11, 3) := by decide +kernel
theorem dX5_takeWorth_40 : decode cX5_takeWorth 40 = .ok (.iload_n 1, 1) := by decide +kernel
theorem dX5_takeWorth_41 : decode cX5_takeWorth 41 = .ok (.baload, 1) := by decide +kernel
theorem dX5_takeWorth_42 : decode cX5_takeWorth 42 = .ok (.iadd, 1) := by decide +kernel
theorem dX5_takeWorth_43 : decode cX5_takeWorth 43 = .ok (.bipush 48, 2) := by decide +kernel
theorem dX5_takeWorth_45 : decode cX5_takeWorth 45 = .ok (.isub, 1) := by decide +kernel
theorem dX5_takeWorth_46 : decode cX5_takeWorth 46 = .ok (.putfield 59, 3) := by decide +kernel
theorem dX5_takeWorth_49 : decode cX5_takeWorth 49 = .ok (.iinc 1 1, 3) := by decide +kernel
theorem dX5_takeWorth_52 : decode cX5_takeWorth 52 = .ok (.goto (-42), 3) := by decide +kernel
theorem dX5_takeWorth_55 : decode cX5_takeWorth 55 = .ok (.aload_n 0, 1) := by decide +kernel
theorem dX5_takeWorth_56 : decode cX5_takeWorth 56 = .ok (.getfield 19, 3) := by decide +kernel
theorem dX5_takeWorth_59 : decode cX5_takeWorth 59 = .ok (.aload_n 0, 1) := by decide +kernel
theorem dX5_takeWorth_60 : decode cX5_takeWorth 60 = .ok (.getfield 109, 3) := by decide +kernel
theorem dX5_takeWorth_63 : decode cX5_takeWorth 63 = .ok (.isub, 1) := by decide +kernel
theorem dX5_takeWorth_64 : decode cX5_takeWorth 64 = .ok (.iconst 4, 1) := by decide +kernel
theorem dX5_takeWorth_65 : decode cX5_takeWorth 65 = .ok (.if_icmp .le 8, 3) := by decide +kernel
theorem dX5_takeWorth_68 : decode cX5_takeWorth 68 = .ok (.aload_n 0, 1) := by decide +kernel
theorem dX5_takeWorth_69 : decode cX5_takeWorth 69 = .ok (.iconst 5, 1) := by decide +kernel
theorem dX5_takeWorth_70 : decode cX5_takeWorth 70 = .ok (.putfield 25, 3) := by decide +kernel
theorem dX5_takeWorth_73 : decode cX5_takeWorth 73 = .ok (.return_, 1) := by decide +kernel
theorem dX5_sortAt_0 : decode cX5_sortAt 0 = .ok (.iload_n 1, 1) := by decide +kernel
theorem dX5_sortAt_1 : decode cX5_sortAt 1 = .ok (.ifCond .lt 11, 3) := by decide +kernel
theorem dX5_sortAt_4 : decode cX5_sortAt 4 = .ok (.iload_n 1, 1) := by decide +kernel
theorem dX5_sortAt_5 : decode cX5_sortAt 5 = .ok (.aload_n 0, 1) := by decide +kernel
theorem dX5_sortAt_6 : decode cX5_sortAt 6 = .ok (.getfield 15, 3) := by decide +kernel
theorem dX5_sortAt_9 : decode cX5_sortAt 9 = .ok (.if_icmp .lt 5, 3) := by decide +kernel
theorem dX5_sortAt_12 : decode cX5_sortAt 12 = .ok (.iconst 0, 1) := by decide +kernel
theorem dX5_sortAt_13 : decode cX5_sortAt 13 = .ok (.ireturn, 1) := by decide +kernel
theorem dX5_sortAt_14 : decode cX5_sortAt 14 = .ok (.aload_n 0, 1) := by decide +kernel
theorem dX5_sortAt_15 : decode cX5_sortAt 15 = .ok (.getfield 11, 3) := by decide +kernel
theorem dX5_sortAt_18 : decode cX5_sortAt 18 = .ok (.iload_n 1, 1) := by decide +kernel
theorem dX5_sortAt_19 : decode cX5_sortAt 19 = .ok (.baload, 1) := by decide +kernel
theorem dX5_sortAt_20 : decode cX5_sortAt 20 = .ok (.istore_n 2, 1) := by decide +kernel
theorem dX5_sortAt_21 : decode cX5_sortAt 21 = .ok (.iload_n 2, 1) := by decide +kernel
theorem dX5_sortAt_22 : decode cX5_sortAt 22 = .ok (.bipush 32, 2) := by decide +kernel
theorem dX5_sortAt_24 : decode cX5_sortAt 24 = .ok (.if_icmp .eq 9, 3) := by decide +kernel
theorem dX5_sortAt_27 : decode cX5_sortAt 27 = .ok (.iload_n 2, 1) := by decide +kernel
theorem dX5_sortAt_28 : decode cX5_sortAt 28 = .ok (.bipush 10, 2) := by decide +kernel
theorem dX5_sortAt_30 : decode cX5_sortAt 30 = .ok (.if_icmp .ne 5, 3) := by decide +kernel
theorem dX5_sortAt_33 : decode cX5_sortAt 33 = .ok (.iconst 4, 1) := by decide +kernel
theorem dX5_sortAt_34 : decode cX5_sortAt 34 = .ok (.ireturn, 1) := by decide +kernel
theorem dX5_sortAt_35 : decode cX5_sortAt 35 = .ok (.iload_n 2, 1) := by decide +kernel
theorem dX5_sortAt_36 : decode cX5_sortAt 36 = .ok (.bipush 97, 2) := by decide +kernel
theorem dX5_sortAt_38 : decode cX5_sortAt 38 = .ok (.if_icmp .lt 11, 3) := by decide +kernel
theorem dX5_sortAt_41 : decode cX5_sortAt 41 = .ok (.iload_n 2, 1) := by decide +kernel
theorem dX5_sortAt_42 : decode cX5_sortAt 42 = .ok (.bipush 122, 2) := by decide +kernel
theorem dX5_sortAt_44 : decode cX5_sortAt 44 = .ok (.if_icmp .gt 5, 3) := by decide +kernel
theorem dX5_sortAt_47 : decode cX5_sortAt 47 = .ok (.iconst 1, 1) := by decide +kernel
theorem dX5_sortAt_48 : decode cX5_sortAt 48 = .ok (.ireturn, 1) := by decide +kernel
theorem dX5_sortAt_49 : decode cX5_sortAt 49 = .ok (.iload_n 2, 1) := by decide +kernel
theorem dX5_sortAt_50 : decode cX5_sortAt 50 = .ok (.bipush 48, 2) := by decide +kernel
theorem dX5_sortAt_52 : decode cX5_sortAt 52 = .ok (.if_icmp .lt 11, 3) := by decide +kernel
theorem dX5_sortAt_55 : decode cX5_sortAt 55 = .ok (.iload_n 2, 1) := by decide +kernel
theorem dX5_sortAt_56 : decode cX5_sortAt 56 = .ok (.bipush 57, 2) := by decide +kernel
theorem dX5_sortAt_58 : decode cX5_sortAt 58 = .ok (.if_icmp .gt 5, 3) := by decide +kernel
theorem dX5_sortAt_61 : decode cX5_sortAt 61 = .ok (.iconst 2, 1) := by decide +kernel
theorem dX5_sortAt_62 : decode cX5_sortAt 62 = .ok (.ireturn, 1) := by decide +kernel
theorem dX5_sortAt_63 : decode cX5_sortAt 63 = .ok (.iload_n 2, 1) := by decide +kernel
theorem dX5_sortAt_64 : decode cX5_sortAt 64 = .ok (.bipush 59, 2) := by decide +kernel
theorem dX5_sortAt_66 : decode cX5_sortAt 66 = .ok (.if_icmp .ne 7, 3) := by decide +kernel
theorem dX5_sortAt_69 : decode cX5_sortAt 69 = .ok (.iconst 3, 1) := by decide +kernel
theorem dX5_sortAt_70 : decode cX5_sortAt 70 = .ok (.goto 4, 3) := by decide +kernel
theorem dX5_sortAt_73 : decode cX5_sortAt 73 = .ok (.iconst 5, 1) := by decide +kernel
theorem dX5_sortAt_74 : decode cX5_sortAt 74 = .ok (.ireturn, 1) := by decide +kernel
theorem dX5_isWord_0 : decode cX5_isWord 0 = .ok (.aload_n 0, 1) := by decide +kernel
theorem dX5_isWord_1 : decode cX5_isWord 1 = .ok (.getfield 25, 3) := by decide +kernel
theorem dX5_isWord_4 : decode cX5_isWord 4 = .ok (.iconst 1, 1) := by decide +kernel
theorem dX5_isWord_5 : decode cX5_isWord 5 = .ok (.if_icmp .ne 19, 3) := by decide +kernel
theorem dX5_isWord_8 : decode cX5_isWord 8 = .ok (.aload_n 0, 1) := by decide +kernel
theorem dX5_isWord_9 : decode cX5_isWord 9 = .ok (.getfield 19, 3) := by decide +kernel
theorem dX5_isWord_12 : decode cX5_isWord 12 = .ok (.aload_n 0, 1) := by decide +kernel
theorem dX5_isWord_13 : decode cX5_isWord 13 = .ok (.getfield 109, 3) := by decide +kernel
theorem dX5_isWord_16 : decode cX5_isWord 16 = .ok (.isub, 1) := by decide +kernel
theorem dX5_isWord_17 : decode cX5_isWord 17 = .ok (.aload_n 1, 1) := by decide +kernel
theorem dX5_isWord_18 : decode cX5_isWord 18 = .ok (.invokevirtual 124, 3) := by decide +kernel
theorem dX5_isWord_21 : decode cX5_isWord 21 = .ok (.if_icmp .eq 5, 3) := by decide +kernel
theorem dX5_isWord_24 : decode cX5_isWord 24 = .ok (.iconst 0, 1) := by decide +kernel
theorem dX5_isWord_25 : decode cX5_isWord 25 = .ok (.ireturn, 1) := by decide +kernel
theorem dX5_isWord_26 : decode cX5_isWord 26 = .ok (.iconst 0, 1) := by decide +kernel
theorem dX5_isWord_27 : decode cX5_isWord 27 = .ok (.istore_n 2, 1) := by decide +kernel
theorem dX5_isWord_28 : decode cX5_isWord 28 = .ok (.iload_n 2, 1) := by decide +kernel
theorem dX5_isWord_29 : decode cX5_isWord 29 = .ok (.aload_n 1, 1) := by decide +kernel
theorem dX5_isWord_30 : decode cX5_isWord 30 = .ok (.invokevirtual 124, 3) := by decide +kernel
theorem dX5_isWord_33 : decode cX5_isWord 33 = .ok (.if_icmp .ge 30, 3) := by decide +kernel
theorem dX5_isWord_36 : decode cX5_isWord 36 = .ok (.aload_n 0, 1) := by decide +kernel
theorem dX5_isWord_37 : decode cX5_isWord 37 = .ok (.getfield 11, 3) := by decide +kernel
theorem dX5_isWord_40 : decode cX5_isWord 40 = .ok (.aload_n 0, 1) := by decide +kernel
theorem dX5_isWord_41 : decode cX5_isWord 41 = .ok (.getfield 109, 3) := by decide +kernel
theorem dX5_isWord_44 : decode cX5_isWord 44 = .ok (.iload_n 2, 1) := by decide +kernel
theorem dX5_isWord_45 : decode cX5_isWord 45 = .ok (.iadd, 1) := by decide +kernel
theorem dX5_isWord_46 : decode cX5_isWord 46 = .ok (.baload, 1) := by decide +kernel
theorem dX5_isWord_47 : decode cX5_isWord 47 = .ok (.aload_n 1, 1) := by decide +kernel
theorem dX5_isWord_48 : decode cX5_isWord 48 = .ok (.iload_n 2, 1) := by decide +kernel
theorem dX5_isWord_49 : decode cX5_isWord 49 = .ok (.invokevirtual 128, 3) := by decide +kernel
theorem dX5_isWord_52 : decode cX5_isWord 52 = .ok (.if_icmp .eq 5, 3) := by decide +kernel
theorem dX5_isWord_55 : decode cX5_isWord 55 = .ok (.iconst 0, 1) := by decide +kernel
theorem dX5_isWord_56 : decode cX5_isWord 56 = .ok (.ireturn, 1) := by decide +kernel
theorem dX5_isWord_57 : decode cX5_isWord 57 = .ok (.iinc 2 1, 3) := by decide +kernel
theorem dX5_isWord_60 : decode cX5_isWord 60 = .ok (.goto (-32), 3) := by decide +kernel
theorem dX5_isWord_63 : decode cX5_isWord 63 = .ok (.iconst 1, 1) := by decide +kernel
theorem dX5_isWord_64 : decode cX5_isWord 64 = .ok (.ireturn, 1) := by decide +kernel
theorem dX6_init_0 : decode cX6_init 0 = .ok (.aload_n 0, 1) := by decide +kernel
theorem dX6_init_1 : decode cX6_init 1 = .ok (.invokespecial 3, 3) := by decide +kernel
theorem dX6_init_4 : decode cX6_init 4 = .ok (.aload_n 0, 1) := by decide +kernel
theorem dX6_init_5 : decode cX6_init 5 = .ok (.iconst 3, 1) := by decide +kernel
theorem dX6_init_6 : decode cX6_init 6 = .ok (.newarray .int, 2) := by decide +kernel
theorem dX6_init_8 : decode cX6_init 8 = .ok (.putfield 11, 3) := by decide +kernel
theorem dX6_init_11 : decode cX6_init 11 = .ok (.aload_n 0, 1) := by decide +kernel
theorem dX6_init_12 : decode cX6_init 12 = .ok (.iconst 3, 1) := by decide +kernel
theorem dX6_init_13 : decode cX6_init 13 = .ok (.newarray .int, 2) := by decide +kernel
theorem dX6_init_15 : decode cX6_init 15 = .ok (.putfield 15, 3) := by decide +kernel
theorem dX6_init_18 : decode cX6_init 18 = .ok (.aload_n 0, 1) := by decide +kernel
theorem dX6_init_19 : decode cX6_init 19 = .ok (.iconst 3, 1) := by decide +kernel
theorem dX6_init_20 : decode cX6_init 20 = .ok (.newarray .int, 2) := by decide +kernel
theorem dX6_init_22 : decode cX6_init 22 = .ok (.putfield 18, 3) := by decide +kernel
theorem dX6_init_25 : decode cX6_init 25 = .ok (.aload_n 0, 1) := by decide +kernel
theorem dX6_init_26 : decode cX6_init 26 = .ok (.iconst 3, 1) := by decide +kernel
theorem dX6_init_27 : decode cX6_init 27 = .ok (.newarray .int, 2) := by decide +kernel
theorem dX6_init_29 : decode cX6_init 29 = .ok (.putfield 21, 3) := by decide +kernel
theorem dX6_init_32 : decode cX6_init 32 = .ok (.aload_n 0, 1) := by decide +kernel
theorem dX6_init_33 : decode cX6_init 33 = .ok (.iconst 3, 1) := by decide +kernel
theorem dX6_init_34 : decode cX6_init 34 = .ok (.newarray .int, 2) := by decide +kernel
theorem dX6_init_36 : decode cX6_init 36 = .ok (.putfield 24, 3) := by decide +kernel
theorem dX6_init_39 : decode cX6_init 39 = .ok (.aload_n 0, 1) := by decide +kernel
theorem dX6_init_40 : decode cX6_init 40 = .ok (.new 27, 3) := by decide +kernel
theorem dX6_init_43 : decode cX6_init 43 = .ok (.dup, 1) := by decide +kernel
theorem dX6_init_44 : decode cX6_init 44 = .ok (.invokespecial 29, 3) := by decide +kernel
theorem dX6_init_47 : decode cX6_init 47 = .ok (.putfield 30, 3) := by decide +kernel
theorem dX6_init_50 : decode cX6_init 50 = .ok (.iconst 0, 1) := by decide +kernel
theorem dX6_init_51 : decode cX6_init 51 = .ok (.istore_n 1, 1) := by decide +kernel
theorem dX6_init_52 : decode cX6_init 52 = .ok (.iload_n 1, 1) := by decide +kernel
theorem dX6_init_53 : decode cX6_init 53 = .ok (.iconst 3, 1) := by decide +kernel
theorem dX6_init_54 : decode cX6_init 54 = .ok (.if_icmp .ge 17, 3) := by decide +kernel
theorem dX6_init_57 : decode cX6_init 57 = .ok (.aload_n 0, 1) := by decide +kernel
theorem dX6_init_58 : decode cX6_init 58 = .ok (.getfield 24, 3) := by decide +kernel
theorem dX6_init_61 : decode cX6_init 61 = .ok (.iload_n 1, 1) := by decide +kernel
theorem dX6_init_62 : decode cX6_init 62 = .ok (.bipush 100, 2) := by decide +kernel
theorem dX6_init_64 : decode cX6_init 64 = .ok (.iastore, 1) := by decide +kernel
theorem dX6_init_65 : decode cX6_init 65 = .ok (.iinc 1 1, 3) := by decide +kernel
theorem dX6_init_68 : decode cX6_init 68 = .ok (.goto (-16), 3) := by decide +kernel
theorem dX6_init_71 : decode cX6_init 71 = .ok (.return_, 1) := by decide +kernel
theorem dX6_isPlace_0 : decode cX6_isPlace 0 = .ok (.iload_n 1, 1) := by decide +kernel
theorem dX6_isPlace_1 : decode cX6_isPlace 1 = .ok (.ifCond .lt 15, 3) := by decide +kernel
theorem dX6_isPlace_4 : decode cX6_isPlace 4 = .ok (.iload_n 1, 1) := by decide +kernel
theorem dX6_isPlace_5 : decode cX6_isPlace 5 = .ok (.aload_n 0, 1) := by decide +kernel
theorem dX6_isPlace_6 : decode cX6_isPlace 6 = .ok (.getfield 34, 3) := by decide +kernel
theorem dX6_isPlace_9 : decode cX6_isPlace 9 = .ok (.if_icmp .ge 7, 3) := by decide +kernel
theorem dX6_isPlace_12 : decode cX6_isPlace 12 = .ok (.iconst 1, 1) := by decide +kernel
theorem dX6_isPlace_13 : decode cX6_isPlace 13 = .ok (.goto 4, 3) := by decide +kernel
theorem dX6_isPlace_16 : decode cX6_isPlace 16 = .ok (.iconst 0, 1) := by decide +kernel
theorem dX6_isPlace_17 : decode cX6_isPlace 17 = .ok (.ireturn, 1) := by decide +kernel
theorem dX6_isFull_0 : decode cX6_isFull 0 = .ok (.aload_n 0, 1) := by decide +kernel
theorem dX6_isFull_1 : decode cX6_isFull 1 = .ok (.getfield 34, 3) := by decide +kernel
theorem dX6_isFull_4 : decode cX6_isFull 4 = .ok (.iconst 3, 1) := by decide +kernel
theorem dX6_isFull_5 : decode cX6_isFull 5 = .ok (.if_icmp .lt 7, 3) := by decide +kernel
theorem dX6_isFull_8 : decode cX6_isFull 8 = .ok (.iconst 1, 1) := by decide +kernel
theorem dX6_isFull_9 : decode cX6_isFull 9 = .ok (.goto 4, 3) := by decide +kernel
theorem dX6_isFull_12 : decode cX6_isFull 12 = .ok (.iconst 0, 1) := by decide +kernel
theorem dX6_isFull_13 : decode cX6_isFull 13 = .ok (.ireturn, 1) := by decide +kernel
theorem dX6_has_0 : decode cX6_has 0 = .ok (.iconst 0, 1) := by decide +kernel
theorem dX6_has_1 : decode cX6_has 1 = .ok (.istore_n 2, 1) := by decide +kernel
theorem dX6_has_2 : decode cX6_has 2 = .ok (.iload_n 2, 1) := by decide +kernel
theorem dX6_has_3 : decode cX6_has 3 = .ok (.aload_n 0, 1) := by decide +kernel
theorem dX6_has_4 : decode cX6_has 4 = .ok (.getfield 34, 3) := by decide +kernel
theorem dX6_has_7 : decode cX6_has 7 = .ok (.if_icmp .ge 21, 3) := by decide +kernel
theorem dX6_has_10 : decode cX6_has 10 = .ok (.aload_n 0, 1) := by decide +kernel
theorem dX6_has_11 : decode cX6_has 11 = .ok (.getfield 11, 3) := by decide +kernel
theorem dX6_has_14 : decode cX6_has 14 = .ok (.iload_n 2, 1) := by decide +kernel
theorem dX6_has_15 : decode cX6_has 15 = .ok (.iaload, 1) := by decide +kernel
theorem dX6_has_16 : decode cX6_has 16 = .ok (.iload_n 1, 1) := by decide +kernel
theorem dX6_has_17 : decode cX6_has 17 = .ok (.if_icmp .ne 5, 3) := by decide +kernel
theorem dX6_has_20 : decode cX6_has 20 = .ok (.iconst 1, 1) := by decide +kernel
theorem dX6_has_21 : decode cX6_has 21 = .ok (.ireturn, 1) := by decide +kernel
theorem dX6_has_22 : decode cX6_has 22 = .ok (.iinc 2 1, 3) := by decide +kernel
theorem dX6_has_25 : decode cX6_has 25 = .ok (.goto (-23), 3) := by decide +kernel
theorem dX6_has_28 : decode cX6_has 28 = .ok (.iconst 0, 1) := by decide +kernel
theorem dX6_has_29 : decode cX6_has 29 = .ok (.ireturn, 1) := by decide +kernel
theorem dX6_add_0 : decode cX6_add 0 = .ok (.aload_n 0, 1) := by decide +kernel
theorem dX6_add_1 : decode cX6_add 1 = .ok (.getfield 34, 3) := by decide +kernel
theorem dX6_add_4 : decode cX6_add 4 = .ok (.iconst 3, 1) := by decide +kernel
theorem dX6_add_5 : decode cX6_add 5 = .ok (.if_icmp .lt 8, 3) := by decide +kernel
theorem dX6_add_8 : decode cX6_add 8 = .ok (.aload_n 0, 1) := by decide +kernel
theorem dX6_add_9 : decode cX6_add 9 = .ok (.getfield 34, 3) := by decide +kernel
theorem dX6_add_12 : decode cX6_add 12 = .ok (.ireturn, 1) := by decide +kernel
theorem dX6_add_13 : decode cX6_add 13 = .ok (.aload_n 0, 1) := by decide +kernel
theorem dX6_add_14 : decode cX6_add 14 = .ok (.getfield 11, 3) := by decide +kernel
theorem dX6_add_17 : decode cX6_add 17 = .ok (.aload_n 0, 1) := by decide +kernel
theorem dX6_add_18 : decode cX6_add 18 = .ok (.getfield 34, 3) := by decide +kernel
theorem dX6_add_21 : decode cX6_add 21 = .ok (.iload_n 1, 1) := by decide +kernel
theorem dX6_add_22 : decode cX6_add 22 = .ok (.iastore, 1) := by decide +kernel
theorem dX6_add_23 : decode cX6_add 23 = .ok (.aload_n 0, 1) := by decide +kernel
theorem dX6_add_24 : decode cX6_add 24 = .ok (.getfield 15, 3) := by decide +kernel
theorem dX6_add_27 : decode cX6_add 27 = .ok (.aload_n 0, 1) := by decide +kernel
theorem dX6_add_28 : decode cX6_add 28 = .ok (.getfield 34, 3) := by decide +kernel
theorem dX6_add_31 : decode cX6_add 31 = .ok (.iload_n 2, 1) := by decide +kernel
theorem dX6_add_32 : decode cX6_add 32 = .ok (.iastore, 1) := by decide +kernel
theorem dX6_add_33 : decode cX6_add 33 = .ok (.aload_n 0, 1) := by decide +kernel
theorem dX6_add_34 : decode cX6_add 34 = .ok (.getfield 18, 3) := by decide +kernel
theorem dX6_add_37 : decode cX6_add 37 = .ok (.aload_n 0, 1) := by decide +kernel
theorem dX6_add_38 : decode cX6_add 38 = .ok (.getfield 34, 3) := by decide +kernel
theorem dX6_add_41 : decode cX6_add 41 = .ok (.iload_n 3, 1) := by decide +kernel
theorem dX6_add_42 : decode cX6_add 42 = .ok (.iastore, 1) := by decide +kernel
theorem dX6_add_43 : decode cX6_add 43 = .ok (.aload_n 0, 1) := by decide +kernel
theorem dX6_add_44 : decode cX6_add 44 = .ok (.dup, 1) := by decide +kernel
theorem dX6_add_45 : decode cX6_add 45 = .ok (.getfield 34, 3) := by decide +kernel
theorem dX6_add_48 : decode cX6_add 48 = .ok (.iconst 1, 1) := by decide +kernel
theorem dX6_add_49 : decode cX6_add 49 = .ok (.iadd, 1) := by decide +kernel
theorem dX6_add_50 : decode cX6_add 50 = .ok (.putfield 34, 3) := by decide +kernel
theorem dX6_add_53 : decode cX6_add 53 = .ok (.aload_n 0, 1) := by decide +kernel
theorem dX6_add_54 : decode cX6_add 54 = .ok (.getfield 34, 3) := by decide +kernel
theorem dX6_add_57 : decode cX6_add 57 = .ok (.ireturn, 1) := by decide +kernel
theorem dX6_tellPair_0 : decode cX6_tellPair 0 = .ok (.aload_n 0, 1) := by decide +kernel
theorem dX6_tellPair_1 : decode cX6_tellPair 1 = .ok (.getfield 21, 3) := by decide +kernel
theorem dX6_tellPair_4 : decode cX6_tellPair 4 = .ok (.iload_n 1, 1) := by decide +kernel
theorem dX6_tellPair_5 : decode cX6_tellPair 5 = .ok (.iload_n 2, 1) := by decide +kernel
theorem dX6_tellPair_6 : decode cX6_tellPair 6 = .ok (.iadd, 1) := by decide +kernel
theorem dX6_tellPair_7 : decode cX6_tellPair 7 = .ok (.iconst 1, 1) := by decide +kernel
theorem dX6_tellPair_8 : decode cX6_tellPair 8 = .ok (.isub, 1) := by decide +kernel
theorem dX6_tellPair_9 : decode cX6_tellPair 9 = .ok (.iload_n 3, 1) := by decide +kernel
theorem dX6_tellPair_10 : decode cX6_tellPair 10 = .ok (.iastore, 1) := by decide +kernel
theorem dX6_tellPair_11 : decode cX6_tellPair 11 = .ok (.aload_n 0, 1) := by decide +kernel
theorem dX6_tellPair_12 : decode cX6_tellPair 12 = .ok (.getfield 24, 3) := by decide +kernel
theorem dX6_tellPair_15 : decode cX6_tellPair 15 = .ok (.iload_n 1, 1) := by decide +kernel
theorem dX6_tellPair_16 : decode cX6_tellPair 16 = .ok (.iload_n 2, 1) := by decide +kernel
theorem dX6_tellPair_17 : decode cX6_tellPair 17 = .ok (.iadd, 1) := by decide +kernel
theorem dX6_tellPair_18 : decode cX6_tellPair 18 = .ok (.iconst 1, 1) := by decide +kernel
theorem dX6_tellPair_19 : decode cX6_tellPair 19 = .ok (.isub, 1) := by decide +kernel
theorem dX6_tellPair_20 : decode cX6_tellPair 20 = .ok (.iload 4, 2) := by decide +kernel
theorem dX6_tellPair_22 : decode cX6_tellPair 22 = .ok (.iastore, 1) := by decide +kernel
theorem dX6_tellPair_23 : decode cX6_tellPair 23 = .ok (.return_, 1) := by decide +kernel
theorem dX6_clear_0 : decode cX6_clear 0 = .ok (.aload_n 0, 1) := by decide +kernel
theorem dX6_clear_1 : decode cX6_clear 1 = .ok (.getfield 34, 3) := by decide +kernel
theorem dX6_clear_4 : decode cX6_clear 4 = .ok (.istore_n 1, 1) := by decide +kernel
theorem dX6_clear_5 : decode cX6_clear 5 = .ok (.aload_n 0, 1) := by decide +kernel
theorem dX6_clear_6 : decode cX6_clear 6 = .ok (.iconst 0, 1) := by decide +kernel
theorem dX6_clear_7 : decode cX6_clear 7 = .ok (.putfield 34, 3) := by decide +kernel
theorem dX6_clear_10 : decode cX6_clear 10 = .ok (.iconst 0, 1) := by decide +kernel
theorem dX6_clear_11 : decode cX6_clear 11 = .ok (.istore_n 2, 1) := by decide +kernel
theorem dX6_clear_12 : decode cX6_clear 12 = .ok (.iload_n 2, 1) := by decide +kernel
theorem dX6_clear_13 : decode cX6_clear 13 = .ok (.iconst 3, 1) := by decide +kernel
theorem dX6_clear_14 : decode cX6_clear 14 = .ok (.if_icmp .ge 24, 3) := by decide +kernel
theorem dX6_clear_17 : decode cX6_clear 17 = .ok (.aload_n 0, 1) := by decide +kernel
theorem dX6_clear_18 : decode cX6_clear 18 = .ok (.getfield 21, 3) := by decide +kernel
theorem dX6_clear_21 : decode cX6_clear 21 = .ok (.iload_n 2, 1) := by decide +kernel
theorem dX6_clear_22 : decode cX6_clear 22 = .ok (.iconst 0, 1) := by decide +kernel
theorem dX6_clear_23 : decode cX6_clear 23 = .ok (.iastore, 1) := by decide +kernel
theorem dX6_clear_24 : decode cX6_clear 24 = .ok (.aload_n 0, 1) := by decide +kernel
theorem dX6_clear_25 : decode cX6_clear 25 = .ok (.getfield 24, 3) := by decide +kernel
theorem dX6_clear_28 : decode cX6_clear 28 = .ok (.iload_n 2, 1) := by decide +kernel
theorem dX6_clear_29 : decode cX6_clear 29 = .ok (.bipush 100, 2) := by decide +kernel
theorem dX6_clear_31 : decode cX6_clear 31 = .ok (.iastore, 1) := by decide +kernel
theorem dX6_clear_32 : decode cX6_clear 32 = .ok (.iinc 2 1, 3) := by decide +kernel
theorem dX6_clear_35 : decode cX6_clear 35 = .ok (.goto (-23), 3) := by decide +kernel
theorem dX6_clear_38 : decode cX6_clear 38 = .ok (.iload_n 1, 1) := by decide +kernel
theorem dX6_clear_39 : decode cX6_clear 39 = .ok (.ireturn, 1) := by decide +kernel
theorem dX6_allWorlds_0 : decode cX6_allWorlds 0 = .ok (.iconst 1, 1) := by decide +kernel
theorem dX6_allWorlds_1 : decode cX6_allWorlds 1 = .ok (.iconst 1, 1) := by decide +kernel
theorem dX6_allWorlds_2 : decode cX6_allWorlds 2 = .ok (.aload_n 0, 1) := by decide +kernel
theorem dX6_allWorlds_3 : decode cX6_allWorlds 3 = .ok (.getfield 34, 3) := by decide +kernel
theorem dX6_allWorlds_6 : decode cX6_allWorlds 6 = .ok (.ishl, 1) := by decide +kernel
theorem dX6_allWorlds_7 : decode cX6_allWorlds 7 = .ok (.ishl, 1) := by decide +kernel
theorem dX6_allWorlds_8 : decode cX6_allWorlds 8 = .ok (.iconst 1, 1) := by decide +kernel
theorem dX6_allWorlds_9 : decode cX6_allWorlds 9 = .ok (.isub, 1) := by decide +kernel
theorem dX6_allWorlds_10 : decode cX6_allWorlds 10 = .ok (.ireturn, 1) := by decide +kernel
theorem dX6_worldsShowing_0 : decode cX6_worldsShowing 0 = .ok (.aload_n 1, 1) := by decide +kernel
theorem dX6_worldsShowing_1 : decode cX6_worldsShowing 1 = .ok (.invokevirtual 38, 3) := by decide +kernel
theorem dX6_worldsShowing_4 : decode cX6_worldsShowing 4 = .ok (.istore_n 3, 1) := by decide +kernel
theorem dX6_worldsShowing_5 : decode cX6_worldsShowing 5 = .ok (.iconst 0, 1) := by decide +kernel
theorem dX6_worldsShowing_6 : decode cX6_worldsShowing 6 = .ok (.istore 4, 2) := by decide +kernel
theorem dX6_worldsShowing_8 : decode cX6_worldsShowing 8 = .ok (.iload 4, 2) := by decide +kernel
theorem dX6_worldsShowing_10 : decode cX6_worldsShowing 10 = .ok (.aload_n 0, 1) := by decide +kernel
theorem dX6_worldsShowing_11 : decode cX6_worldsShowing 11 = .ok (.getfield 34, 3) := by decide +kernel
theorem dX6_worldsShowing_14 : decode cX6_worldsShowing 14 = .ok (.if_icmp .ge 23, 3) := by decide +kernel
theorem dX6_worldsShowing_17 : decode cX6_worldsShowing 17 = .ok (.iload_n 3, 1) := by decide +kernel
theorem dX6_worldsShowing_18 : decode cX6_worldsShowing 18 = .ok (.iconst 1, 1) := by decide +kernel
theorem dX6_worldsShowing_19 : decode cX6_worldsShowing 19 = .ok (.aload_n 0, 1) := by decide +kernel
theorem dX6_worldsShowing_20 : decode cX6_worldsShowing 20 = .ok (.getfield 11, 3) := by decide +kernel
theorem dX6_worldsShowing_23 : decode cX6_worldsShowing 23 = .ok (.iload 4, 2) := by decide +kernel
theorem dX6_worldsShowing_25 : decode cX6_worldsShowing 25 = .ok (.iaload, 1) := by decide +kernel
theorem dX6_worldsShowing_26 : decode cX6_worldsShowing 26 = .ok (.ishl, 1) := by decide +kernel
theorem dX6_worldsShowing_27 : decode cX6_worldsShowing 27 = .ok (.iconst (-1), 1) := by decide +kernel
theorem dX6_worldsShowing_28 : decode cX6_worldsShowing 28 = .ok (.ixor, 1) := by decide +kernel
theorem dX6_worldsShowing_29 : decode cX6_worldsShowing 29 = .ok (.iand, 1) := by decide +kernel
theorem dX6_worldsShowing_30 : decode cX6_worldsShowing 30 = .ok (.istore_n 3, 1) := by decide +kernel
theorem dX6_worldsShowing_31 : decode cX6_worldsShowing 31 = .ok (.iinc 4 1, 3) := by decide +kernel
theorem dX6_worldsShowing_34 : decode cX6_worldsShowing 34 = .ok (.goto (-26), 3) := by decide +kernel
theorem dX6_worldsShowing_37 : decode cX6_worldsShowing 37 = .ok (.iconst 0, 1) := by decide +kernel
theorem dX6_worldsShowing_38 : decode cX6_worldsShowing 38 = .ok (.istore 4, 2) := by decide +kernel
theorem dX6_worldsShowing_40 : decode cX6_worldsShowing 40 = .ok (.iconst 0, 1) := by decide +kernel
theorem dX6_worldsShowing_41 : decode cX6_worldsShowing 41 = .ok (.istore 5, 2) := by decide +kernel
theorem dX6_worldsShowing_43 : decode cX6_worldsShowing 43 = .ok (.iload 5, 2) := by decide +kernel
theorem dX6_worldsShowing_45 : decode cX6_worldsShowing 45 = .ok (.iconst 1, 1) := by decide +kernel
theorem dX6_worldsShowing_46 : decode cX6_worldsShowing 46 = .ok (.aload_n 0, 1) := by decide +kernel
theorem dX6_worldsShowing_47 : decode cX6_worldsShowing 47 = .ok (.getfield 34, 3) := by decide +kernel
theorem dX6_worldsShowing_50 : decode cX6_worldsShowing 50 = .ok (.ishl, 1) := by decide +kernel
theorem dX6_worldsShowing_51 : decode cX6_worldsShowing 51 = .ok (.if_icmp .ge 69, 3) := by decide +kernel
theorem dX6_worldsShowing_54 : decode cX6_worldsShowing 54 = .ok (.iload_n 3, 1) := by decide +kernel
theorem dX6_worldsShowing_55 : decode cX6_worldsShowing 55 = .ok (.istore 6, 2) := by decide +kernel
theorem dX6_worldsShowing_57 : decode cX6_worldsShowing 57 = .ok (.iconst 0, 1) := by decide +kernel
theorem dX6_worldsShowing_58 : decode cX6_worldsShowing 58 = .ok (.istore 7, 2) := by decide +kernel
theorem dX6_worldsShowing_60 : decode cX6_worldsShowing 60 = .ok (.iload 7, 2) := by decide +kernel
theorem dX6_worldsShowing_62 : decode cX6_worldsShowing 62 = .ok (.aload_n 0, 1) := by decide +kernel
theorem dX6_worldsShowing_63 : decode cX6_worldsShowing 63 = .ok (.getfield 34, 3) := by decide +kernel
theorem dX6_worldsShowing_66 : decode cX6_worldsShowing 66 = .ok (.if_icmp .ge 29, 3) := by decide +kernel
theorem dX6_worldsShowing_69 : decode cX6_worldsShowing 69 = .ok (.iload 6, 2) := by decide +kernel
theorem dX6_worldsShowing_71 : decode cX6_worldsShowing 71 = .ok (.iload 5, 2) := by decide +kernel
theorem dX6_worldsShowing_73 : decode cX6_worldsShowing 73 = .ok (.iload 7, 2) := by decide +kernel
theorem dX6_worldsShowing_75 : decode cX6_worldsShowing 75 = .ok (.invokestatic 44, 3) := by decide +kernel
theorem dX6_worldsShowing_78 : decode cX6_worldsShowing 78 = .ok (.aload_n 0, 1) := by decide +kernel
theorem dX6_worldsShowing_79 : decode cX6_worldsShowing 79 = .ok (.getfield 11, 3) := by decide +kernel
theorem dX6_worldsShowing_82 : decode cX6_worldsShowing 82 = .ok (.iload 7, 2) := by decide +kernel
theorem dX6_worldsShowing_84 : decode cX6_worldsShowing 84 = .ok (.iaload, 1) := by decide +kernel
theorem dX6_worldsShowing_85 : decode cX6_worldsShowing 85 = .ok (.ishl, 1) := by decide +kernel
theorem dX6_worldsShowing_86 : decode cX6_worldsShowing 86 = .ok (.ior, 1) := by decide +kernel
theorem dX6_worldsShowing_87 : decode cX6_worldsShowing 87 = .ok (.istore 6, 2) := by decide +kernel
theorem dX6_worldsShowing_89 : decode cX6_worldsShowing 89 = .ok (.iinc 7 1, 3) := by decide +kernel
theorem dX6_worldsShowing_92 : decode cX6_worldsShowing 92 = .ok (.goto (-32), 3) := by decide +kernel
theorem dX6_worldsShowing_95 : decode cX6_worldsShowing 95 = .ok (.iload 4, 2) := by decide +kernel
theorem dX6_worldsShowing_97 : decode cX6_worldsShowing 97 = .ok (.aload_n 1, 1) := by decide +kernel
theorem dX6_worldsShowing_98 : decode cX6_worldsShowing 98 = .ok (.iload 6, 2) := by decide +kernel
theorem dX6_worldsShowing_100 : decode cX6_worldsShowing 100 = .ok (.iconst 0, 1) := by decide +kernel
theorem dX6_worldsShowing_101 : decode cX6_worldsShowing 101 = .ok (.invokevirtual 48, 3) := by decide +kernel
theorem dX6_worldsShowing_104 : decode cX6_worldsShowing 104 = .ok (.iload_n 2, 1) := by decide +kernel
theorem dX6_worldsShowing_105 : decode cX6_worldsShowing 105 = .ok (.invokestatic 44, 3) := by decide +kernel
theorem dX6_worldsShowing_108 : decode cX6_worldsShowing 108 = .ok (.iload 5, 2) := by decide +kernel
theorem dX6_worldsShowing_110 : decode cX6_worldsShowing 110 = .ok (.ishl, 1) := by decide +kernel
theorem dX6_worldsShowing_111 : decode cX6_worldsShowing 111 = .ok (.ior, 1) := by decide +kernel
theorem dX6_worldsShowing_112 : decode cX6_worldsShowing 112 = .ok (.istore 4, 2) := by decide +kernel
theorem dX6_worldsShowing_114 : decode cX6_worldsShowing 114 = .ok (.iinc 5 1, 3) := by decide +kernel
theorem dX6_worldsShowing_117 : decode cX6_worldsShowing 117 = .ok (.goto (-74), 3) := by decide +kernel
theorem dX6_worldsShowing_120 : decode cX6_worldsShowing 120 = .ok (.iload 4, 2) := by decide +kernel
theorem dX6_worldsShowing_122 : decode cX6_worldsShowing 122 = .ok (.ireturn, 1) := by decide +kernel
theorem dX6_findLeast_0 : decode cX6_findLeast 0 = .ok (.aload_n 0, 1) := by decide +kernel
theorem dX6_findLeast_1 : decode cX6_findLeast 1 = .ok (.getfield 30, 3) := by decide +kernel
theorem dX6_findLeast_4 : decode cX6_findLeast 4 = .ok (.iconst 1, 1) := by decide +kernel
theorem dX6_findLeast_5 : decode cX6_findLeast 5 = .ok (.aload_n 0, 1) := by decide +kernel
theorem dX6_findLeast_6 : decode cX6_findLeast 6 = .ok (.getfield 34, 3) := by decide +kernel
theorem dX6_findLeast_9 : decode cX6_findLeast 9 = .ok (.ishl, 1) := by decide +kernel
theorem dX6_findLeast_10 : decode cX6_findLeast 10 = .ok (.iload_n 1, 1) := by decide +kernel
theorem dX6_findLeast_11 : decode cX6_findLeast 11 = .ok (.invokevirtual 51, 3) := by decide +kernel
theorem dX6_findLeast_14 : decode cX6_findLeast 14 = .ok (.aload_n 0, 1) := by decide +kernel
theorem dX6_findLeast_15 : decode cX6_findLeast 15 = .ok (.getfield 30, 3) := by decide +kernel
theorem dX6_findLeast_18 : decode cX6_findLeast 18 = .ok (.aload_n 0, 1) := by decide +kernel
theorem dX6_findLeast_19 : decode cX6_findLeast 19 = .ok (.invokevirtual 55, 3) := by decide +kernel
theorem dX6_findLeast_22 : decode cX6_findLeast 22 = .ok (.iconst 1, 1) := by decide +kernel
theorem dX6_findLeast_23 : decode cX6_findLeast 23 = .ok (.bipush 100, 2) := by decide +kernel
theorem dX6_findLeast_25 : decode cX6_findLeast 25 = .ok (.invokevirtual 58, 3) := by decide +kernel
theorem dX6_findLeast_28 : decode cX6_findLeast 28 = .ok (.aload_n 0, 1) := by decide +kernel
theorem dX6_findLeast_29 : decode cX6_findLeast 29 = .ok (.getfield 30, 3) := by decide +kernel
theorem dX6_findLeast_32 : decode cX6_findLeast 32 = .ok (.aload_n 0, 1) := by decide +kernel
theorem dX6_findLeast_33 : decode cX6_findLeast 33 = .ok (.invokevirtual 55, 3) := by decide +kernel
theorem dX6_findLeast_36 : decode cX6_findLeast 36 = .ok (.iconst (-1), 1) := by decide +kernel
theorem dX6_findLeast_37 : decode cX6_findLeast 37 = .ok (.bipush (-100), 2) := by decide +kernel
theorem dX6_findLeast_39 : decode cX6_findLeast 39 = .ok (.invokevirtual 58, 3) := by decide +kernel
theorem dX6_findLeast_42 : decode cX6_findLeast 42 = .ok (.iconst 0, 1) := by decide +kernel
theorem dX6_findLeast_43 : decode cX6_findLeast 43 = .ok (.istore_n 2, 1) := by decide +kernel
theorem dX6_findLeast_44 : decode cX6_findLeast 44 = .ok (.iload_n 2, 1) := by decide +kernel
theorem dX6_findLeast_45 : decode cX6_findLeast 45 = .ok (.aload_n 0, 1) := by decide +kernel
theorem dX6_findLeast_46 : decode cX6_findLeast 46 = .ok (.getfield 34, 3) := by decide +kernel
theorem dX6_findLeast_49 : decode cX6_findLeast 49 = .ok (.if_icmp .ge 78, 3) := by decide +kernel
theorem dX6_findLeast_52 : decode cX6_findLeast 52 = .ok (.aload_n 0, 1) := by decide +kernel
theorem dX6_findLeast_53 : decode cX6_findLeast 53 = .ok (.getstatic 62, 3) := by decide +kernel
theorem dX6_findLeast_56 : decode cX6_findLeast 56 = .ok (.iload_n 2, 1) := by decide +kernel
theorem dX6_findLeast_57 : decode cX6_findLeast 57 = .ok (.iaload, 1) := by decide +kernel
theorem dX6_findLeast_58 : decode cX6_findLeast 58 = .ok (.aload_n 0, 1) := by decide +kernel
theorem dX6_findLeast_59 : decode cX6_findLeast 59 = .ok (.getfield 15, 3) := by decide +kernel
theorem dX6_findLeast_62 : decode cX6_findLeast 62 = .ok (.iload_n 2, 1) := by decide +kernel
theorem dX6_findLeast_63 : decode cX6_findLeast 63 = .ok (.iaload, 1) := by decide +kernel
theorem dX6_findLeast_64 : decode cX6_findLeast 64 = .ok (.aload_n 0, 1) := by decide +kernel
theorem dX6_findLeast_65 : decode cX6_findLeast 65 = .ok (.getfield 18, 3) := by decide +kernel
theorem dX6_findLeast_68 : decode cX6_findLeast 68 = .ok (.iload_n 2, 1) := by decide +kernel
theorem dX6_findLeast_69 : decode cX6_findLeast 69 = .ok (.iaload, 1) := by decide +kernel
theorem dX6_findLeast_70 : decode cX6_findLeast 70 = .ok (.invokevirtual 65, 3) := by decide +kernel
theorem dX6_findLeast_73 : decode cX6_findLeast 73 = .ok (.iconst 0, 1) := by decide +kernel
theorem dX6_findLeast_74 : decode cX6_findLeast 74 = .ok (.istore_n 3, 1) := by decide +kernel
theorem dX6_findLeast_75 : decode cX6_findLeast 75 = .ok (.iload_n 3, 1) := by decide +kernel
theorem dX6_findLeast_76 : decode cX6_findLeast 76 = .ok (.iload_n 2, 1) := by decide +kernel
theorem dX6_findLeast_77 : decode cX6_findLeast 77 = .ok (.if_icmp .ge 44, 3) := by decide +kernel
theorem dX6_findLeast_80 : decode cX6_findLeast 80 = .ok (.aload_n 0, 1) := by decide +kernel
theorem dX6_findLeast_81 : decode cX6_findLeast 81 = .ok (.getstatic 62, 3) := by decide +kernel
theorem dX6_findLeast_84 : decode cX6_findLeast 84 = .ok (.iload_n 2, 1) := by decide +kernel
theorem dX6_findLeast_85 : decode cX6_findLeast 85 = .ok (.iaload, 1) := by decide +kernel
theorem dX6_findLeast_86 : decode cX6_findLeast 86 = .ok (.getstatic 62, 3) := by decide +kernel
theorem dX6_findLeast_89 : decode cX6_findLeast 89 = .ok (.iload_n 3, 1) := by decide +kernel
theorem dX6_findLeast_90 : decode cX6_findLeast 90 = .ok (.iaload, 1) := by decide +kernel
theorem dX6_findLeast_91 : decode cX6_findLeast 91 = .ok (.iand, 1) := by decide +kernel
theorem dX6_findLeast_92 : decode cX6_findLeast 92 = .ok (.aload_n 0, 1) := by decide +kernel
theorem dX6_findLeast_93 : decode cX6_findLeast 93 = .ok (.getfield 21, 3) := by decide +kernel
theorem dX6_findLeast_96 : decode cX6_findLeast 96 = .ok (.iload_n 2, 1) := by decide +kernel
theorem dX6_findLeast_97 : decode cX6_findLeast 97 = .ok (.iload_n 3, 1) := by decide +kernel
theorem dX6_findLeast_98 : decode cX6_findLeast 98 = .ok (.iadd, 1) := by decide +kernel
theorem dX6_findLeast_99 : decode cX6_findLeast 99 = .ok (.iconst 1, 1) := by decide +kernel
theorem dX6_findLeast_100 : decode cX6_findLeast 100 = .ok (.isub, 1) := by decide +kernel
theorem dX6_findLeast_101 : decode cX6_findLeast 101 = .ok (.iaload, 1) := by decide +kernel
theorem dX6_findLeast_102 : decode cX6_findLeast 102 = .ok (.aload_n 0, 1) := by decide +kernel
theorem dX6_findLeast_103 : decode cX6_findLeast 103 = .ok (.getfield 24, 3) := by decide +kernel
theorem dX6_findLeast_106 : decode cX6_findLeast 106 = .ok (.iload_n 2, 1) := by decide +kernel
theorem dX6_findLeast_107 : decode cX6_findLeast 107 = .ok (.iload_n 3, 1) := by decide +kernel
theorem dX6_findLeast_108 : decode cX6_findLeast 108 = .ok (.iadd, 1) := by decide +kernel
theorem dX6_findLeast_109 : decode cX6_findLeast 109 = .ok (.iconst 1, 1) := by decide +kernel
theorem dX6_findLeast_110 : decode cX6_findLeast 110 = .ok (.isub, 1) := by decide +kernel
theorem dX6_findLeast_111 : decode cX6_findLeast 111 = .ok (.iaload, 1) := by decide +kernel
theorem dX6_findLeast_112 : decode cX6_findLeast 112 = .ok (.invokevirtual 65, 3) := by decide +kernel
theorem dX6_findLeast_115 : decode cX6_findLeast 115 = .ok (.iinc 3 1, 3) := by decide +kernel
theorem dX6_findLeast_118 : decode cX6_findLeast 118 = .ok (.goto (-43), 3) := by decide +kernel
theorem dX6_findLeast_121 : decode cX6_findLeast 121 = .ok (.iinc 2 1, 3) := by decide +kernel
theorem dX6_findLeast_124 : decode cX6_findLeast 124 = .ok (.goto (-80), 3) := by decide +kernel
theorem dX6_findLeast_127 : decode cX6_findLeast 127 = .ok (.aload_n 0, 1) := by decide +kernel
theorem dX6_findLeast_128 : decode cX6_findLeast 128 = .ok (.getfield 30, 3) := by decide +kernel
theorem dX6_findLeast_131 : decode cX6_findLeast 131 = .ok (.invokevirtual 68, 3) := by decide +kernel
theorem dX6_findLeast_134 : decode cX6_findLeast 134 = .ok (.ifCond .ne 5, 3) := by decide +kernel
theorem dX6_findLeast_137 : decode cX6_findLeast 137 = .ok (.iconst 0, 1) := by decide +kernel
theorem dX6_findLeast_138 : decode cX6_findLeast 138 = .ok (.ireturn, 1) := by decide +kernel
theorem dX6_findLeast_139 : decode cX6_findLeast 139 = .ok (.aload_n 0, 1) := by decide +kernel
theorem dX6_findLeast_140 : decode cX6_findLeast 140 = .ok (.aload_n 0, 1) := by decide +kernel
theorem dX6_findLeast_141 : decode cX6_findLeast 141 = .ok (.getfield 30, 3) := by decide +kernel
theorem dX6_findLeast_144 : decode cX6_findLeast 144 = .ok (.invokevirtual 72, 3) := by decide +kernel
theorem dX6_findLeast_147 : decode cX6_findLeast 147 = .ok (.ldc2_w 76, 3) := by decide +kernel
theorem dX6_findLeast_150 : decode cX6_findLeast 150 = .ok (.aload_n 0, 1) := by decide +kernel
theorem dX6_findLeast_151 : decode cX6_findLeast 151 = .ok (.getfield 30, 3) := by decide +kernel
theorem dX6_findLeast_154 : decode cX6_findLeast 154 = .ok (.getfield 78, 3) := by decide +kernel
theorem dX6_findLeast_157 : decode cX6_findLeast 157 = .ok (.lmul, 1) := by decide +kernel
theorem dX6_findLeast_158 : decode cX6_findLeast 158 = .ok (.invokevirtual 82, 3) := by decide +kernel
theorem dX6_findLeast_161 : decode cX6_findLeast 161 = .ok (.iconst 1, 1) := by decide +kernel
theorem dX6_findLeast_162 : decode cX6_findLeast 162 = .ok (.ireturn, 1) := by decide +kernel
theorem dX6_findMost_0 : decode cX6_findMost 0 = .ok (.aload_n 0, 1) := by decide +kernel
theorem dX6_findMost_1 : decode cX6_findMost 1 = .ok (.aload_n 0, 1) := by decide +kernel
theorem dX6_findMost_2 : decode cX6_findMost 2 = .ok (.invokevirtual 55, 3) := by decide +kernel
theorem dX6_findMost_5 : decode cX6_findMost 5 = .ok (.iload_n 1, 1) := by decide +kernel
theorem dX6_findMost_6 : decode cX6_findMost 6 = .ok (.iconst (-1), 1) := by decide +kernel
theorem dX6_findMost_7 : decode cX6_findMost 7 = .ok (.ixor, 1) := by decide +kernel
theorem dX6_findMost_8 : decode cX6_findMost 8 = .ok (.iand, 1) := by decide +kernel
theorem dX6_findMost_9 : decode cX6_findMost 9 = .ok (.invokevirtual 86, 3) := by decide +kernel
theorem dX6_findMost_12 : decode cX6_findMost 12 = .ok (.ifCond .ne 5, 3) := by decide +kernel
theorem dX6_findMost_15 : decode cX6_findMost 15 = .ok (.iconst 0, 1) := by decide +kernel
theorem dX6_findMost_16 : decode cX6_findMost 16 = .ok (.ireturn, 1) := by decide +kernel
theorem dX6_findMost_17 : decode cX6_findMost 17 = .ok (.aload_n 0, 1) := by decide +kernel
theorem dX6_findMost_18 : decode cX6_findMost 18 = .ok (.aload_n 0, 1) := by decide +kernel
theorem dX6_findMost_19 : decode cX6_findMost 19 = .ok (.getfield 90, 3) := by decide +kernel
theorem dX6_findMost_22 : decode cX6_findMost 22 = .ok (.aload_n 0, 1) := by decide +kernel
theorem dX6_findMost_23 : decode cX6_findMost 23 = .ok (.getfield 93, 3) := by decide +kernel
theorem dX6_findMost_26 : decode cX6_findMost 26 = .ok (.lsub, 1) := by decide +kernel
theorem dX6_findMost_27 : decode cX6_findMost 27 = .ok (.putfield 93, 3) := by decide +kernel
theorem dX6_findMost_30 : decode cX6_findMost 30 = .ok (.iconst 1, 1) := by decide +kernel
theorem dX6_findMost_31 : decode cX6_findMost 31 = .ok (.ireturn, 1) := by decide +kernel
theorem dX6_addSpan_0 : decode cX6_addSpan 0 = .ok (.iload_n 3, 1) := by decide +kernel
theorem dX6_addSpan_1 : decode cX6_addSpan 1 = .ok (.bipush 100, 2) := by decide +kernel
theorem dX6_addSpan_3 : decode cX6_addSpan 3 = .ok (.if_icmp .ge 13, 3) := by decide +kernel
theorem dX6_addSpan_6 : decode cX6_addSpan 6 = .ok (.aload_n 0, 1) := by decide +kernel
theorem dX6_addSpan_7 : decode cX6_addSpan 7 = .ok (.getfield 30, 3) := by decide +kernel
theorem dX6_addSpan_10 : decode cX6_addSpan 10 = .ok (.iload_n 1, 1) := by decide +kernel
theorem dX6_addSpan_11 : decode cX6_addSpan 11 = .ok (.iconst 1, 1) := by decide +kernel
theorem dX6_addSpan_12 : decode cX6_addSpan 12 = .ok (.iload_n 3, 1) := by decide +kernel
theorem dX6_addSpan_13 : decode cX6_addSpan 13 = .ok (.invokevirtual 58, 3) := by decide +kernel
theorem dX6_addSpan_16 : decode cX6_addSpan 16 = .ok (.iload_n 2, 1) := by decide +kernel
theorem dX6_addSpan_17 : decode cX6_addSpan 17 = .ok (.ifCond .le 14, 3) := by decide +kernel
theorem dX6_addSpan_20 : decode cX6_addSpan 20 = .ok (.aload_n 0, 1) := by decide +kernel
theorem dX6_addSpan_21 : decode cX6_addSpan 21 = .ok (.getfield 30, 3) := by decide +kernel
theorem dX6_addSpan_24 : decode cX6_addSpan 24 = .ok (.iload_n 1, 1) := by decide +kernel
theorem dX6_addSpan_25 : decode cX6_addSpan 25 = .ok (.iconst (-1), 1) := by decide +kernel
theorem dX6_addSpan_26 : decode cX6_addSpan 26 = .ok (.iload_n 2, 1) := by decide +kernel
theorem dX6_addSpan_27 : decode cX6_addSpan 27 = .ok (.ineg, 1) := by decide +kernel
theorem dX6_addSpan_28 : decode cX6_addSpan 28 = .ok (.invokevirtual 58, 3) := by decide +kernel
theorem dX6_addSpan_31 : decode cX6_addSpan 31 = .ok (.return_, 1) := by decide +kernel
theorem dX6_bestRaise_0 : decode cX6_bestRaise 0 = .ok (.iconst (-1), 1) := by decide +kernel
theorem dX6_bestRaise_1 : decode cX6_bestRaise 1 = .ok (.istore_n 2, 1) := by decide +kernel
theorem dX6_bestRaise_2 : decode cX6_bestRaise 2 = .ok (.aload_n 0, 1) := by decide +kernel
theorem dX6_bestRaise_3 : decode cX6_bestRaise 3 = .ok (.getfield 93, 3) := by decide +kernel
theorem dX6_bestRaise_6 : decode cX6_bestRaise 6 = .ok (.lstore_n 3, 1) := by decide +kernel
theorem dX6_bestRaise_7 : decode cX6_bestRaise 7 = .ok (.aload_n 0, 1) := by decide +kernel
theorem dX6_bestRaise_8 : decode cX6_bestRaise 8 = .ok (.getfield 90, 3) := by decide +kernel
theorem dX6_bestRaise_11 : decode cX6_bestRaise 11 = .ok (.lstore 5, 2) := by decide +kernel
theorem dX6_bestRaise_13 : decode cX6_bestRaise 13 = .ok (.iconst 0, 1) := by decide +kernel
theorem dX6_bestRaise_14 : decode cX6_bestRaise 14 = .ok (.istore 7, 2) := by decide +kernel
theorem dX6_bestRaise_16 : decode cX6_bestRaise 16 = .ok (.iload 7, 2) := by decide +kernel
theorem dX6_bestRaise_18 : decode cX6_bestRaise 18 = .ok (.aload_n 0, 1) := by decide +kernel
theorem dX6_bestRaise_19 : decode cX6_bestRaise 19 = .ok (.getfield 34, 3) := by decide +kernel
theorem dX6_bestRaise_22 : decode cX6_bestRaise 22 = .ok (.if_icmp .ge 50, 3) := by decide +kernel
theorem dX6_bestRaise_25 : decode cX6_bestRaise 25 = .ok (.aload_n 0, 1) := by decide +kernel
theorem dX6_bestRaise_26 : decode cX6_bestRaise 26 = .ok (.iload_n 1, 1) := by decide +kernel
theorem dX6_bestRaise_27 : decode cX6_bestRaise 27 = .ok (.iload 7, 2) := by decide +kernel
theorem dX6_bestRaise_29 : decode cX6_bestRaise 29 = .ok (.invokevirtual 96, 3) := by decide +kernel
theorem dX6_bestRaise_32 : decode cX6_bestRaise 32 = .ok (.ifCond .eq 34, 3) := by decide +kernel
theorem dX6_bestRaise_35 : decode cX6_bestRaise 35 = .ok (.aload_n 0, 1) := by decide +kernel
theorem dX6_bestRaise_36 : decode cX6_bestRaise 36 = .ok (.getfield 93, 3) := by decide +kernel
theorem dX6_bestRaise_39 : decode cX6_bestRaise 39 = .ok (.lload 5, 2) := by decide +kernel
theorem dX6_bestRaise_41 : decode cX6_bestRaise 41 = .ok (.lmul, 1) := by decide +kernel
theorem dX6_bestRaise_42 : decode cX6_bestRaise 42 = .ok (.lload_n 3, 1) := by decide +kernel
theorem dX6_bestRaise_43 : decode cX6_bestRaise 43 = .ok (.aload_n 0, 1) := by decide +kernel
theorem dX6_bestRaise_44 : decode cX6_bestRaise 44 = .ok (.getfield 90, 3) := by decide +kernel
theorem dX6_bestRaise_47 : decode cX6_bestRaise 47 = .ok (.lmul, 1) := by decide +kernel
theorem dX6_bestRaise_48 : decode cX6_bestRaise 48 = .ok (.lcmp, 1) := by decide +kernel
theorem dX6_bestRaise_49 : decode cX6_bestRaise 49 = .ok (.ifCond .le 17, 3) := by decide +kernel
theorem dX6_bestRaise_52 : decode cX6_bestRaise 52 = .ok (.iload 7, 2) := by decide +kernel
theorem dX6_bestRaise_54 : decode cX6_bestRaise 54 = .ok (.istore_n 2, 1) := by decide +kernel
theorem dX6_bestRaise_55 : decode cX6_bestRaise 55 = .ok (.aload_n 0, 1) := by decide +kernel
theorem dX6_bestRaise_56 : decode cX6_bestRaise 56 = .ok (.getfield 93, 3) := by decide +kernel
theorem dX6_bestRaise_59 : decode cX6_bestRaise 59 = .ok (.lstore_n 3, 1) := by decide +kernel
theorem dX6_bestRaise_60 : decode cX6_bestRaise 60 = .ok (.aload_n 0, 1) := by decide +kernel
theorem dX6_bestRaise_61 : decode cX6_bestRaise 61 = .ok (.getfield 90, 3) := by decide +kernel
theorem dX6_bestRaise_64 : decode cX6_bestRaise 64 = .ok (.lstore 5, 2) := by decide +kernel
theorem dX6_bestRaise_66 : decode cX6_bestRaise 66 = .ok (.iinc 7 1, 3) := by decide +kernel
theorem dX6_bestRaise_69 : decode cX6_bestRaise 69 = .ok (.goto (-53), 3) := by decide +kernel
theorem dX6_bestRaise_72 : decode cX6_bestRaise 72 = .ok (.iload_n 2, 1) := by decide +kernel
theorem dX6_bestRaise_73 : decode cX6_bestRaise 73 = .ok (.ireturn, 1) := by decide +kernel
theorem dX6_findLeastRaised_0 : decode cX6_findLeastRaised 0 = .ok (.aload_n 0, 1) := by decide +kernel
theorem dX6_findLeastRaised_1 : decode cX6_findLeastRaised 1 = .ok (.getfield 15, 3) := by decide +kernel
theorem dX6_findLeastRaised_4 : decode cX6_findLeastRaised 4 = .ok (.iload_n 2, 1) := by decide +kernel
theorem dX6_findLeastRaised_5 : decode cX6_findLeastRaised 5 = .ok (.iaload, 1) := by decide +kernel
theorem dX6_findLeastRaised_6 : decode cX6_findLeastRaised 6 = .ok (.istore_n 3, 1) := by decide +kernel
theorem dX6_findLeastRaised_7 : decode cX6_findLeastRaised 7 = .ok (.aload_n 0, 1) := by decide +kernel
theorem dX6_findLeastRaised_8 : decode cX6_findLeastRaised 8 = .ok (.getfield 15, 3) := by decide +kernel
theorem dX6_findLeastRaised_11 : decode cX6_findLeastRaised 11 = .ok (.iload_n 2, 1) := by decide +kernel
theorem dX6_findLeastRaised_12 : decode cX6_findLeastRaised 12 = .ok (.aload_n 0, 1) := by decide +kernel
theorem dX6_findLeastRaised_13 : decode cX6_findLeastRaised 13 = .ok (.getfield 18, 3) := by decide +kernel
theorem dX6_findLeastRaised_16 : decode cX6_findLeastRaised 16 = .ok (.iload_n 2, 1) := by decide +kernel
theorem dX6_findLeastRaised_17 : decode cX6_findLeastRaised 17 = .ok (.iaload, 1) := by decide +kernel
theorem dX6_findLeastRaised_18 : decode cX6_findLeastRaised 18 = .ok (.iastore, 1) := by decide +kernel
theorem dX6_findLeastRaised_19 : decode cX6_findLeastRaised 19 = .ok (.aload_n 0, 1) := by decide +kernel
theorem dX6_findLeastRaised_20 : decode cX6_findLeastRaised 20 = .ok (.iload_n 1, 1) := by decide +kernel
theorem dX6_findLeastRaised_21 : decode cX6_findLeastRaised 21 = .ok (.invokevirtual 86, 3) := by decide +kernel
theorem dX6_findLeastRaised_24 : decode cX6_findLeastRaised 24 = .ok (.istore 4, 2) := by decide +kernel
theorem dX6_findLeastRaised_26 : decode cX6_findLeastRaised 26 = .ok (.aload_n 0, 1) := by decide +kernel
theorem dX6_findLeastRaised_27 : decode cX6_findLeastRaised 27 = .ok (.getfield 15, 3) := by decide +kernel
theorem dX6_findLeastRaised_30 : decode cX6_findLeastRaised 30 = .ok (.iload_n 2, 1) := by decide +kernel
theorem dX6_findLeastRaised_31 : decode cX6_findLeastRaised 31 = .ok (.iload_n 3, 1) := by decide +kernel
theorem dX6_findLeastRaised_32 : decode cX6_findLeastRaised 32 = .ok (.iastore, 1) := by decide +kernel
theorem dX6_findLeastRaised_33 : decode cX6_findLeastRaised 33 = .ok (.iload 4, 2) := by decide +kernel
theorem dX6_findLeastRaised_35 : decode cX6_findLeastRaised 35 = .ok (.ireturn, 1) := by decide +kernel
theorem dX6_reduce_0 : decode cX6_reduce 0 = .ok (.lload_n 3, 1) := by decide +kernel
theorem dX6_reduce_1 : decode cX6_reduce 1 = .ok (.lstore 5, 2) := by decide +kernel
theorem dX6_reduce_3 : decode cX6_reduce 3 = .ok (.lload_n 1, 1) := by decide +kernel
theorem dX6_reduce_4 : decode cX6_reduce 4 = .ok (.lstore 7, 2) := by decide +kernel
theorem dX6_reduce_6 : decode cX6_reduce 6 = .ok (.iconst 0, 1) := by decide +kernel
theorem dX6_reduce_7 : decode cX6_reduce 7 = .ok (.istore 9, 2) := by decide +kernel
theorem dX6_reduce_9 : decode cX6_reduce 9 = .ok (.iload 9, 2) := by decide +kernel
theorem dX6_reduce_11 : decode cX6_reduce 11 = .ok (.bipush 100, 2) := by decide +kernel
theorem dX6_reduce_13 : decode cX6_reduce 13 = .ok (.if_icmp .ge 31, 3) := by decide +kernel
theorem dX6_reduce_16 : decode cX6_reduce 16 = .ok (.lload 7, 2) := by decide +kernel
theorem dX6_reduce_18 : decode cX6_reduce 18 = .ok (.lconst 0, 1) := by decide +kernel
theorem dX6_reduce_19 : decode cX6_reduce 19 = .ok (.lcmp, 1) := by decide +kernel
theorem dX6_reduce_20 : decode cX6_reduce 20 = .ok (.ifCond .eq 24, 3) := by decide +kernel
theorem dX6_reduce_23 : decode cX6_reduce 23 = .ok (.lload 5, 2) := by decide +kernel
theorem dX6_reduce_25 : decode cX6_reduce 25 = .ok (.lload 7, 2) := by decide +kernel
theorem dX6_reduce_27 : decode cX6_reduce 27 = .ok (.lrem, 1) := by decide +kernel
theorem dX6_reduce_28 : decode cX6_reduce 28 = .ok (.lstore 10, 2) := by decide +kernel
theorem dX6_reduce_30 : decode cX6_reduce 30 = .ok (.lload 7, 2) := by decide +kernel
theorem dX6_reduce_32 : decode cX6_reduce 32 = .ok (.lstore 5, 2) := by decide +kernel
theorem dX6_reduce_34 : decode cX6_reduce 34 = .ok (.lload 10, 2) := by decide +kernel
theorem dX6_reduce_36 : decode cX6_reduce 36 = .ok (.lstore 7, 2) := by decide +kernel
theorem dX6_reduce_38 : decode cX6_reduce 38 = .ok (.iinc 9 1, 3) := by decide +kernel
theorem dX6_reduce_41 : decode cX6_reduce 41 = .ok (.goto (-32), 3) := by decide +kernel
theorem dX6_reduce_44 : decode cX6_reduce 44 = .ok (.aload_n 0, 1) := by decide +kernel
theorem dX6_reduce_45 : decode cX6_reduce 45 = .ok (.lload_n 1, 1) := by decide +kernel
theorem dX6_reduce_46 : decode cX6_reduce 46 = .ok (.lload 5, 2) := by decide +kernel
theorem dX6_reduce_48 : decode cX6_reduce 48 = .ok (.invokestatic 100, 3) := by decide +kernel
theorem dX6_reduce_51 : decode cX6_reduce 51 = .ok (.putfield 93, 3) := by decide +kernel
theorem dX6_reduce_54 : decode cX6_reduce 54 = .ok (.aload_n 0, 1) := by decide +kernel
theorem dX6_reduce_55 : decode cX6_reduce 55 = .ok (.lload_n 3, 1) := by decide +kernel
theorem dX6_reduce_56 : decode cX6_reduce 56 = .ok (.lload 5, 2) := by decide +kernel
theorem dX6_reduce_58 : decode cX6_reduce 58 = .ok (.invokestatic 100, 3) := by decide +kernel
theorem dX6_reduce_61 : decode cX6_reduce 61 = .ok (.putfield 90, 3) := by decide +kernel
theorem dX6_reduce_64 : decode cX6_reduce 64 = .ok (.return_, 1) := by decide +kernel
theorem dX7_init_0 : decode cX7_init 0 = .ok (.aload_n 0, 1) := by decide +kernel
theorem dX7_init_1 : decode cX7_init 1 = .ok (.invokespecial 1, 3) := by decide +kernel
theorem dX7_init_4 : decode cX7_init 4 = .ok (.aload_n 0, 1) := by decide +kernel
theorem dX7_init_5 : decode cX7_init 5 = .ok (.new 7, 3) := by decide +kernel
theorem dX7_init_8 : decode cX7_init 8 = .ok (.dup, 1) := by decide +kernel
theorem dX7_init_9 : decode cX7_init 9 = .ok (.invokespecial 9, 3) := by decide +kernel
theorem dX7_init_12 : decode cX7_init 12 = .ok (.putfield 10, 3) := by decide +kernel
theorem dX7_init_15 : decode cX7_init 15 = .ok (.aload_n 0, 1) := by decide +kernel
theorem dX7_init_16 : decode cX7_init 16 = .ok (.new 16, 3) := by decide +kernel
theorem dX7_init_19 : decode cX7_init 19 = .ok (.dup, 1) := by decide +kernel
theorem dX7_init_20 : decode cX7_init 20 = .ok (.invokespecial 18, 3) := by decide +kernel
theorem dX7_init_23 : decode cX7_init 23 = .ok (.putfield 19, 3) := by decide +kernel
theorem dX7_init_26 : decode cX7_init 26 = .ok (.aload_n 0, 1) := by decide +kernel
theorem dX7_init_27 : decode cX7_init 27 = .ok (.new 23, 3) := by decide +kernel
theorem dX7_init_30 : decode cX7_init 30 = .ok (.dup, 1) := by decide +kernel
theorem dX7_init_31 : decode cX7_init 31 = .ok (.invokespecial 25, 3) := by decide +kernel
theorem dX7_init_34 : decode cX7_init 34 = .ok (.putfield 26, 3) := by decide +kernel
theorem dX7_init_37 : decode cX7_init 37 = .ok (.aload_n 0, 1) := by decide +kernel
theorem dX7_init_38 : decode cX7_init 38 = .ok (.new 30, 3) := by decide +kernel
theorem dX7_init_41 : decode cX7_init 41 = .ok (.dup, 1) := by decide +kernel
theorem dX7_init_42 : decode cX7_init 42 = .ok (.invokespecial 32, 3) := by decide +kernel
theorem dX7_init_45 : decode cX7_init 45 = .ok (.putfield 33, 3) := by decide +kernel
theorem dX7_init_48 : decode cX7_init 48 = .ok (.aload_n 0, 1) := by decide +kernel
theorem dX7_init_49 : decode cX7_init 49 = .ok (.new 37, 3) := by decide +kernel
theorem dX7_init_52 : decode cX7_init 52 = .ok (.dup, 1) := by decide +kernel
theorem dX7_init_53 : decode cX7_init 53 = .ok (.invokespecial 39, 3) := by decide +kernel
theorem dX7_init_56 : decode cX7_init 56 = .ok (.putfield 40, 3) := by decide +kernel
theorem dX7_init_59 : decode cX7_init 59 = .ok (.aload_n 0, 1) := by decide +kernel
theorem dX7_init_60 : decode cX7_init 60 = .ok (.new 44, 3) := by decide +kernel
theorem dX7_init_63 : decode cX7_init 63 = .ok (.dup, 1) := by decide +kernel
theorem dX7_init_64 : decode cX7_init 64 = .ok (.invokespecial 46, 3) := by decide +kernel
theorem dX7_init_67 : decode cX7_init 67 = .ok (.putfield 47, 3) := by decide +kernel
theorem dX7_init_70 : decode cX7_init 70 = .ok (.aload_n 0, 1) := by decide +kernel
theorem dX7_init_71 : decode cX7_init 71 = .ok (.iconst 0, 1) := by decide +kernel
theorem dX7_init_72 : decode cX7_init 72 = .ok (.putfield 51, 3) := by decide +kernel
theorem dX7_init_75 : decode cX7_init 75 = .ok (.aload_n 0, 1) := by decide +kernel
theorem dX7_init_76 : decode cX7_init 76 = .ok (.iconst 0, 1) := by decide +kernel
theorem dX7_init_77 : decode cX7_init 77 = .ok (.putfield 55, 3) := by decide +kernel
theorem dX7_init_80 : decode cX7_init 80 = .ok (.return_, 1) := by decide +kernel
theorem dX7_sheet_0 : decode cX7_sheet 0 = .ok (.aload_n 0, 1) := by decide +kernel
theorem dX7_sheet_1 : decode cX7_sheet 1 = .ok (.getfield 10, 3) := by decide +kernel
theorem dX7_sheet_4 : decode cX7_sheet 4 = .ok (.iload_n 1, 1) := by decide +kernel
theorem dX7_sheet_5 : decode cX7_sheet 5 = .ok (.invokevirtual 58, 3) := by decide +kernel
theorem dX7_sheet_8 : decode cX7_sheet 8 = .ok (.ifCond .eq 18, 3) := by decide +kernel
theorem dX7_sheet_11 : decode cX7_sheet 11 = .ok (.iload_n 2, 1) := by decide +kernel
theorem dX7_sheet_12 : decode cX7_sheet 12 = .ok (.iconst 0, 1) := by decide +kernel
theorem dX7_sheet_13 : decode cX7_sheet 13 = .ok (.iconst 2, 1) := by decide +kernel
theorem dX7_sheet_14 : decode cX7_sheet 14 = .ok (.invokestatic 62, 3) := by decide +kernel
theorem dX7_sheet_17 : decode cX7_sheet 17 = .ok (.ifCond .eq 9, 3) := by decide +kernel
theorem dX7_sheet_20 : decode cX7_sheet 20 = .ok (.iload_n 3, 1) := by decide +kernel
theorem dX7_sheet_21 : decode cX7_sheet 21 = .ok (.bipush 40, 2) := by decide +kernel
theorem dX7_sheet_23 : decode cX7_sheet 23 = .ok (.if_icmp .le 6, 3) := by decide +kernel
theorem dX7_sheet_26 : decode cX7_sheet 26 = .ok (.ldc 66, 2) := by decide +kernel
theorem dX7_sheet_28 : decode cX7_sheet 28 = .ok (.ireturn, 1) := by decide +kernel
theorem dX7_sheet_29 : decode cX7_sheet 29 = .ok (.iload_n 3, 1) := by decide +kernel
theorem dX7_sheet_30 : decode cX7_sheet 30 = .ok (.ifCond .ge 9, 3) := by decide +kernel
theorem dX7_sheet_33 : decode cX7_sheet 33 = .ok (.aload_n 0, 1) := by decide +kernel
theorem dX7_sheet_34 : decode cX7_sheet 34 = .ok (.iconst 4, 1) := by decide +kernel
theorem dX7_sheet_35 : decode cX7_sheet 35 = .ok (.invokevirtual 67, 3) := by decide +kernel
theorem dX7_sheet_38 : decode cX7_sheet 38 = .ok (.ireturn, 1) := by decide +kernel
theorem dX7_sheet_39 : decode cX7_sheet 39 = .ok (.aload_n 0, 1) := by decide +kernel
theorem dX7_sheet_40 : decode cX7_sheet 40 = .ok (.getfield 10, 3) := by decide +kernel
theorem dX7_sheet_43 : decode cX7_sheet 43 = .ok (.iload_n 1, 1) := by decide +kernel
theorem dX7_sheet_44 : decode cX7_sheet 44 = .ok (.iload_n 2, 1) := by decide +kernel
theorem dX7_sheet_45 : decode cX7_sheet 45 = .ok (.iload_n 3, 1) := by decide +kernel
theorem dX7_sheet_46 : decode cX7_sheet 46 = .ok (.invokevirtual 71, 3) := by decide +kernel
theorem dX7_sheet_49 : decode cX7_sheet 49 = .ok (.aload_n 0, 1) := by decide +kernel
theorem dX7_sheet_50 : decode cX7_sheet 50 = .ok (.iload_n 3, 1) := by decide +kernel
theorem dX7_sheet_51 : decode cX7_sheet 51 = .ok (.invokevirtual 75, 3) := by decide +kernel
theorem dX7_sheet_54 : decode cX7_sheet 54 = .ok (.ireturn, 1) := by decide +kernel
theorem dX7_set_0 : decode cX7_set 0 = .ok (.aload_n 0, 1) := by decide +kernel
theorem dX7_set_1 : decode cX7_set 1 = .ok (.getfield 10, 3) := by decide +kernel
theorem dX7_set_4 : decode cX7_set 4 = .ok (.iload_n 1, 1) := by decide +kernel
theorem dX7_set_5 : decode cX7_set 5 = .ok (.invokevirtual 58, 3) := by decide +kernel
theorem dX7_set_8 : decode cX7_set 8 = .ok (.ifCond .ne 6, 3) := by decide +kernel
theorem dX7_set_11 : decode cX7_set 11 = .ok (.ldc 66, 2) := by decide +kernel
theorem dX7_set_13 : decode cX7_set 13 = .ok (.ireturn, 1) := by decide +kernel
theorem dX7_set_14 : decode cX7_set 14 = .ok (.aload_n 0, 1) := by decide +kernel
theorem dX7_set_15 : decode cX7_set 15 = .ok (.getfield 10, 3) := by decide +kernel
theorem dX7_set_18 : decode cX7_set 18 = .ok (.iload_n 1, 1) := by decide +kernel
theorem dX7_set_19 : decode cX7_set 19 = .ok (.invokevirtual 78, 3) := by decide +kernel
theorem dX7_set_22 : decode cX7_set 22 = .ok (.ifCond .eq 9, 3) := by decide +kernel
theorem dX7_set_25 : decode cX7_set 25 = .ok (.aload_n 0, 1) := by decide +kernel
theorem dX7_set_26 : decode cX7_set 26 = .ok (.iconst 1, 1) := by decide +kernel
theorem dX7_set_27 : decode cX7_set 27 = .ok (.invokevirtual 67, 3) := by decide +kernel
theorem dX7_set_30 : decode cX7_set 30 = .ok (.ireturn, 1) := by decide +kernel
theorem dX7_set_31 : decode cX7_set 31 = .ok (.aload_n 0, 1) := by decide +kernel
theorem dX7_set_32 : decode cX7_set 32 = .ok (.getfield 10, 3) := by decide +kernel
theorem dX7_set_35 : decode cX7_set 35 = .ok (.iload_n 1, 1) := by decide +kernel
theorem dX7_set_36 : decode cX7_set 36 = .ok (.iload_n 2, 1) := by decide +kernel
theorem dX7_set_37 : decode cX7_set 37 = .ok (.iconst 1, 1) := by decide +kernel
theorem dX7_set_38 : decode cX7_set 38 = .ok (.invokevirtual 81, 3) := by decide +kernel
theorem dX7_set_41 : decode cX7_set 41 = .ok (.ifCond .ne 9, 3) := by decide +kernel
theorem dX7_set_44 : decode cX7_set 44 = .ok (.aload_n 0, 1) := by decide +kernel
theorem dX7_set_45 : decode cX7_set 45 = .ok (.iconst 2, 1) := by decide +kernel
end
section
theorem dX7_set_46 : decode cX7_set 46 = .ok (.invokevirtual 67, 3) := by decide +kernel
theorem dX7_set_49 : decode cX7_set 49 = .ok (.ireturn, 1) := by decide +kernel
theorem dX7_set_50 : decode cX7_set 50 = .ok (.aload_n 0, 1) := by decide +kernel
theorem dX7_set_51 : decode cX7_set 51 = .ok (.aload_n 0, 1) := by decide +kernel
theorem dX7_set_52 : decode cX7_set 52 = .ok (.getfield 10, 3) := by decide +kernel
theorem dX7_set_55 : decode cX7_set 55 = .ok (.iload_n 1, 1) := by decide +kernel
theorem dX7_set_56 : decode cX7_set 56 = .ok (.iload_n 2, 1) := by decide +kernel
theorem dX7_set_57 : decode cX7_set 57 = .ok (.iload_n 3, 1) := by decide +kernel
theorem dX7_set_58 : decode cX7_set 58 = .ok (.invokevirtual 84, 3) := by decide +kernel
theorem dX7_set_61 : decode cX7_set 61 = .ok (.invokevirtual 75, 3) := by decide +kernel
theorem dX7_set_64 : decode cX7_set 64 = .ok (.ireturn, 1) := by decide +kernel
theorem dX7_copy_0 : decode cX7_copy 0 = .ok (.aload_n 0, 1) := by decide +kernel
theorem dX7_copy_1 : decode cX7_copy 1 = .ok (.getfield 10, 3) := by decide +kernel
theorem dX7_copy_4 : decode cX7_copy 4 = .ok (.iload_n 1, 1) := by decide +kernel
theorem dX7_copy_5 : decode cX7_copy 5 = .ok (.invokevirtual 58, 3) := by decide +kernel
theorem dX7_copy_8 : decode cX7_copy 8 = .ok (.ifCond .eq 14, 3) := by decide +kernel
theorem dX7_copy_11 : decode cX7_copy 11 = .ok (.aload_n 0, 1) := by decide +kernel
theorem dX7_copy_12 : decode cX7_copy 12 = .ok (.getfield 10, 3) := by decide +kernel
theorem dX7_copy_15 : decode cX7_copy 15 = .ok (.iload_n 3, 1) := by decide +kernel
theorem dX7_copy_16 : decode cX7_copy 16 = .ok (.invokevirtual 58, 3) := by decide +kernel
theorem dX7_copy_19 : decode cX7_copy 19 = .ok (.ifCond .ne 6, 3) := by decide +kernel
theorem dX7_copy_22 : decode cX7_copy 22 = .ok (.ldc 66, 2) := by decide +kernel
theorem dX7_copy_24 : decode cX7_copy 24 = .ok (.ireturn, 1) := by decide +kernel
theorem dX7_copy_25 : decode cX7_copy 25 = .ok (.aload_n 0, 1) := by decide +kernel
theorem dX7_copy_26 : decode cX7_copy 26 = .ok (.getfield 10, 3) := by decide +kernel
theorem dX7_copy_29 : decode cX7_copy 29 = .ok (.iload_n 1, 1) := by decide +kernel
theorem dX7_copy_30 : decode cX7_copy 30 = .ok (.invokevirtual 78, 3) := by decide +kernel
theorem dX7_copy_33 : decode cX7_copy 33 = .ok (.ifCond .ne 14, 3) := by decide +kernel
theorem dX7_copy_36 : decode cX7_copy 36 = .ok (.aload_n 0, 1) := by decide +kernel
theorem dX7_copy_37 : decode cX7_copy 37 = .ok (.getfield 10, 3) := by decide +kernel
theorem dX7_copy_40 : decode cX7_copy 40 = .ok (.iload_n 3, 1) := by decide +kernel
theorem dX7_copy_41 : decode cX7_copy 41 = .ok (.invokevirtual 78, 3) := by decide +kernel
theorem dX7_copy_44 : decode cX7_copy 44 = .ok (.ifCond .eq 9, 3) := by decide +kernel
theorem dX7_copy_47 : decode cX7_copy 47 = .ok (.aload_n 0, 1) := by decide +kernel
theorem dX7_copy_48 : decode cX7_copy 48 = .ok (.iconst 1, 1) := by decide +kernel
theorem dX7_copy_49 : decode cX7_copy 49 = .ok (.invokevirtual 67, 3) := by decide +kernel
theorem dX7_copy_52 : decode cX7_copy 52 = .ok (.ireturn, 1) := by decide +kernel
theorem dX7_copy_53 : decode cX7_copy 53 = .ok (.aload_n 0, 1) := by decide +kernel
theorem dX7_copy_54 : decode cX7_copy 54 = .ok (.getfield 10, 3) := by decide +kernel
theorem dX7_copy_57 : decode cX7_copy 57 = .ok (.iload_n 1, 1) := by decide +kernel
theorem dX7_copy_58 : decode cX7_copy 58 = .ok (.iload_n 3, 1) := by decide +kernel
theorem dX7_copy_59 : decode cX7_copy 59 = .ok (.invokevirtual 88, 3) := by decide +kernel
theorem dX7_copy_62 : decode cX7_copy 62 = .ok (.ifCond .ne 9, 3) := by decide +kernel
theorem dX7_copy_65 : decode cX7_copy 65 = .ok (.aload_n 0, 1) := by decide +kernel
theorem dX7_copy_66 : decode cX7_copy 66 = .ok (.iconst 5, 1) := by decide +kernel
theorem dX7_copy_67 : decode cX7_copy 67 = .ok (.invokevirtual 67, 3) := by decide +kernel
theorem dX7_copy_70 : decode cX7_copy 70 = .ok (.ireturn, 1) := by decide +kernel
theorem dX7_copy_71 : decode cX7_copy 71 = .ok (.aload_n 0, 1) := by decide +kernel
theorem dX7_copy_72 : decode cX7_copy 72 = .ok (.getfield 10, 3) := by decide +kernel
theorem dX7_copy_75 : decode cX7_copy 75 = .ok (.iload_n 1, 1) := by decide +kernel
theorem dX7_copy_76 : decode cX7_copy 76 = .ok (.iload_n 2, 1) := by decide +kernel
theorem dX7_copy_77 : decode cX7_copy 77 = .ok (.iload 5, 2) := by decide +kernel
theorem dX7_copy_79 : decode cX7_copy 79 = .ok (.invokevirtual 81, 3) := by decide +kernel
theorem dX7_copy_82 : decode cX7_copy 82 = .ok (.ifCond .eq 18, 3) := by decide +kernel
theorem dX7_copy_85 : decode cX7_copy 85 = .ok (.aload_n 0, 1) := by decide +kernel
theorem dX7_copy_86 : decode cX7_copy 86 = .ok (.getfield 10, 3) := by decide +kernel
theorem dX7_copy_89 : decode cX7_copy 89 = .ok (.iload_n 3, 1) := by decide +kernel
theorem dX7_copy_90 : decode cX7_copy 90 = .ok (.iload 4, 2) := by decide +kernel
theorem dX7_copy_92 : decode cX7_copy 92 = .ok (.iload 5, 2) := by decide +kernel
theorem dX7_copy_94 : decode cX7_copy 94 = .ok (.invokevirtual 81, 3) := by decide +kernel
theorem dX7_copy_97 : decode cX7_copy 97 = .ok (.ifCond .ne 9, 3) := by decide +kernel
theorem dX7_copy_100 : decode cX7_copy 100 = .ok (.aload_n 0, 1) := by decide +kernel
theorem dX7_copy_101 : decode cX7_copy 101 = .ok (.iconst 2, 1) := by decide +kernel
theorem dX7_copy_102 : decode cX7_copy 102 = .ok (.invokevirtual 67, 3) := by decide +kernel
theorem dX7_copy_105 : decode cX7_copy 105 = .ok (.ireturn, 1) := by decide +kernel
theorem dX7_copy_106 : decode cX7_copy 106 = .ok (.aload_n 0, 1) := by decide +kernel
theorem dX7_copy_107 : decode cX7_copy 107 = .ok (.getfield 10, 3) := by decide +kernel
theorem dX7_copy_110 : decode cX7_copy 110 = .ok (.iload_n 1, 1) := by decide +kernel
theorem dX7_copy_111 : decode cX7_copy 111 = .ok (.iload_n 2, 1) := by decide +kernel
theorem dX7_copy_112 : decode cX7_copy 112 = .ok (.iload_n 3, 1) := by decide +kernel
theorem dX7_copy_113 : decode cX7_copy 113 = .ok (.iload 4, 2) := by decide +kernel
theorem dX7_copy_115 : decode cX7_copy 115 = .ok (.iload 5, 2) := by decide +kernel
theorem dX7_copy_117 : decode cX7_copy 117 = .ok (.invokevirtual 92, 3) := by decide +kernel
theorem dX7_copy_120 : decode cX7_copy 120 = .ok (.aload_n 0, 1) := by decide +kernel
theorem dX7_copy_121 : decode cX7_copy 121 = .ok (.iload 5, 2) := by decide +kernel
theorem dX7_copy_123 : decode cX7_copy 123 = .ok (.invokevirtual 75, 3) := by decide +kernel
theorem dX7_copy_126 : decode cX7_copy 126 = .ok (.ireturn, 1) := by decide +kernel
theorem dX7_drop_0 : decode cX7_drop 0 = .ok (.aload_n 0, 1) := by decide +kernel
theorem dX7_drop_1 : decode cX7_drop 1 = .ok (.getfield 10, 3) := by decide +kernel
theorem dX7_drop_4 : decode cX7_drop 4 = .ok (.iload_n 1, 1) := by decide +kernel
theorem dX7_drop_5 : decode cX7_drop 5 = .ok (.invokevirtual 58, 3) := by decide +kernel
theorem dX7_drop_8 : decode cX7_drop 8 = .ok (.ifCond .ne 6, 3) := by decide +kernel
theorem dX7_drop_11 : decode cX7_drop 11 = .ok (.ldc 66, 2) := by decide +kernel
theorem dX7_drop_13 : decode cX7_drop 13 = .ok (.ireturn, 1) := by decide +kernel
theorem dX7_drop_14 : decode cX7_drop 14 = .ok (.aload_n 0, 1) := by decide +kernel
theorem dX7_drop_15 : decode cX7_drop 15 = .ok (.getfield 10, 3) := by decide +kernel
theorem dX7_drop_18 : decode cX7_drop 18 = .ok (.iload_n 1, 1) := by decide +kernel
theorem dX7_drop_19 : decode cX7_drop 19 = .ok (.invokevirtual 78, 3) := by decide +kernel
theorem dX7_drop_22 : decode cX7_drop 22 = .ok (.ifCond .eq 9, 3) := by decide +kernel
theorem dX7_drop_25 : decode cX7_drop 25 = .ok (.aload_n 0, 1) := by decide +kernel
theorem dX7_drop_26 : decode cX7_drop 26 = .ok (.iconst 1, 1) := by decide +kernel
theorem dX7_drop_27 : decode cX7_drop 27 = .ok (.invokevirtual 67, 3) := by decide +kernel
theorem dX7_drop_30 : decode cX7_drop 30 = .ok (.ireturn, 1) := by decide +kernel
theorem dX7_drop_31 : decode cX7_drop 31 = .ok (.aload_n 0, 1) := by decide +kernel
theorem dX7_drop_32 : decode cX7_drop 32 = .ok (.aload_n 0, 1) := by decide +kernel
theorem dX7_drop_33 : decode cX7_drop 33 = .ok (.getfield 10, 3) := by decide +kernel
theorem dX7_drop_36 : decode cX7_drop 36 = .ok (.iload_n 1, 1) := by decide +kernel
theorem dX7_drop_37 : decode cX7_drop 37 = .ok (.invokevirtual 96, 3) := by decide +kernel
theorem dX7_drop_40 : decode cX7_drop 40 = .ok (.invokevirtual 75, 3) := by decide +kernel
theorem dX7_drop_43 : decode cX7_drop 43 = .ok (.ireturn, 1) := by decide +kernel
theorem dX7_feed_0 : decode cX7_feed 0 = .ok (.iload_n 3, 1) := by decide +kernel
theorem dX7_feed_1 : decode cX7_feed 1 = .ok (.iconst 1, 1) := by decide +kernel
theorem dX7_feed_2 : decode cX7_feed 2 = .ok (.bipush 8, 2) := by decide +kernel
theorem dX7_feed_4 : decode cX7_feed 4 = .ok (.invokestatic 62, 3) := by decide +kernel
theorem dX7_feed_7 : decode cX7_feed 7 = .ok (.ifCond .ne 6, 3) := by decide +kernel
theorem dX7_feed_10 : decode cX7_feed 10 = .ok (.ldc 66, 2) := by decide +kernel
theorem dX7_feed_12 : decode cX7_feed 12 = .ok (.ireturn, 1) := by decide +kernel
theorem dX7_feed_13 : decode cX7_feed 13 = .ok (.aload_n 0, 1) := by decide +kernel
theorem dX7_feed_14 : decode cX7_feed 14 = .ok (.getfield 19, 3) := by decide +kernel
theorem dX7_feed_17 : decode cX7_feed 17 = .ok (.iload_n 3, 1) := by decide +kernel
theorem dX7_feed_18 : decode cX7_feed 18 = .ok (.invokevirtual 99, 3) := by decide +kernel
theorem dX7_feed_21 : decode cX7_feed 21 = .ok (.ifCond .ne 6, 3) := by decide +kernel
theorem dX7_feed_24 : decode cX7_feed 24 = .ok (.ldc 102, 2) := by decide +kernel
theorem dX7_feed_26 : decode cX7_feed 26 = .ok (.ireturn, 1) := by decide +kernel
theorem dX7_feed_27 : decode cX7_feed 27 = .ok (.aload_n 0, 1) := by decide +kernel
theorem dX7_feed_28 : decode cX7_feed 28 = .ok (.getfield 19, 3) := by decide +kernel
theorem dX7_feed_31 : decode cX7_feed 31 = .ok (.lload_n 1, 1) := by decide +kernel
theorem dX7_feed_32 : decode cX7_feed 32 = .ok (.iload_n 3, 1) := by decide +kernel
theorem dX7_feed_33 : decode cX7_feed 33 = .ok (.invokevirtual 103, 3) := by decide +kernel
theorem dX7_feed_36 : decode cX7_feed 36 = .ok (.ireturn, 1) := by decide +kernel
theorem dX7_net_0 : decode cX7_net 0 = .ok (.aload_n 0, 1) := by decide +kernel
theorem dX7_net_1 : decode cX7_net 1 = .ok (.getfield 26, 3) := by decide +kernel
theorem dX7_net_4 : decode cX7_net 4 = .ok (.getfield 107, 3) := by decide +kernel
theorem dX7_net_7 : decode cX7_net 7 = .ok (.istore_n 1, 1) := by decide +kernel
theorem dX7_net_8 : decode cX7_net 8 = .ok (.aload_n 0, 1) := by decide +kernel
theorem dX7_net_9 : decode cX7_net 9 = .ok (.getfield 26, 3) := by decide +kernel
theorem dX7_net_12 : decode cX7_net 12 = .ok (.getfield 110, 3) := by decide +kernel
theorem dX7_net_15 : decode cX7_net 15 = .ok (.istore_n 2, 1) := by decide +kernel
theorem dX7_net_16 : decode cX7_net 16 = .ok (.aload_n 0, 1) := by decide +kernel
theorem dX7_net_17 : decode cX7_net 17 = .ok (.getfield 19, 3) := by decide +kernel
theorem dX7_net_20 : decode cX7_net 20 = .ok (.aload_n 0, 1) := by decide +kernel
theorem dX7_net_21 : decode cX7_net 21 = .ok (.getfield 26, 3) := by decide +kernel
theorem dX7_net_24 : decode cX7_net 24 = .ok (.invokevirtual 113, 3) := by decide +kernel
theorem dX7_net_27 : decode cX7_net 27 = .ok (.istore_n 3, 1) := by decide +kernel
theorem dX7_net_28 : decode cX7_net 28 = .ok (.iload_n 3, 1) := by decide +kernel
theorem dX7_net_29 : decode cX7_net 29 = .ok (.ifCond .ne 11, 3) := by decide +kernel
theorem dX7_net_32 : decode cX7_net 32 = .ok (.aload_n 0, 1) := by decide +kernel
theorem dX7_net_33 : decode cX7_net 33 = .ok (.getfield 26, 3) := by decide +kernel
theorem dX7_net_36 : decode cX7_net 36 = .ok (.getfield 107, 3) := by decide +kernel
theorem dX7_net_39 : decode cX7_net 39 = .ok (.ireturn, 1) := by decide +kernel
theorem dX7_net_40 : decode cX7_net 40 = .ok (.aload_n 0, 1) := by decide +kernel
theorem dX7_net_41 : decode cX7_net 41 = .ok (.getfield 26, 3) := by decide +kernel
theorem dX7_net_44 : decode cX7_net 44 = .ok (.iload_n 1, 1) := by decide +kernel
theorem dX7_net_45 : decode cX7_net 45 = .ok (.iload_n 2, 1) := by decide +kernel
theorem dX7_net_46 : decode cX7_net 46 = .ok (.invokevirtual 117, 3) := by decide +kernel
theorem dX7_net_49 : decode cX7_net 49 = .ok (.aload_n 0, 1) := by decide +kernel
theorem dX7_net_50 : decode cX7_net 50 = .ok (.iload_n 3, 1) := by decide +kernel
theorem dX7_net_51 : decode cX7_net 51 = .ok (.putfield 51, 3) := by decide +kernel
theorem dX7_net_54 : decode cX7_net 54 = .ok (.ldc 121, 2) := by decide +kernel
theorem dX7_net_56 : decode cX7_net 56 = .ok (.aload_n 0, 1) := by decide +kernel
theorem dX7_net_57 : decode cX7_net 57 = .ok (.getfield 19, 3) := by decide +kernel
theorem dX7_net_60 : decode cX7_net 60 = .ok (.getfield 122, 3) := by decide +kernel
theorem dX7_net_63 : decode cX7_net 63 = .ok (.isub, 1) := by decide +kernel
theorem dX7_net_64 : decode cX7_net 64 = .ok (.ireturn, 1) := by decide +kernel
theorem dX7_fault_0 : decode cX7_fault 0 = .ok (.aload_n 0, 1) := by decide +kernel
theorem dX7_fault_1 : decode cX7_fault 1 = .ok (.getfield 51, 3) := by decide +kernel
theorem dX7_fault_4 : decode cX7_fault 4 = .ok (.ireturn, 1) := by decide +kernel
theorem dX7_node_0 : decode cX7_node 0 = .ok (.aload_n 0, 1) := by decide +kernel
theorem dX7_node_1 : decode cX7_node 1 = .ok (.getfield 26, 3) := by decide +kernel
theorem dX7_node_4 : decode cX7_node 4 = .ok (.iload_n 1, 1) := by decide +kernel
theorem dX7_node_5 : decode cX7_node 5 = .ok (.invokevirtual 125, 3) := by decide +kernel
theorem dX7_node_8 : decode cX7_node 8 = .ok (.ifCond .ne 6, 3) := by decide +kernel
theorem dX7_node_11 : decode cX7_node 11 = .ok (.ldc 66, 2) := by decide +kernel
theorem dX7_node_13 : decode cX7_node 13 = .ok (.ireturn, 1) := by decide +kernel
theorem dX7_node_14 : decode cX7_node 14 = .ok (.aload_n 0, 1) := by decide +kernel
theorem dX7_node_15 : decode cX7_node 15 = .ok (.getfield 26, 3) := by decide +kernel
theorem dX7_node_18 : decode cX7_node 18 = .ok (.iload_n 1, 1) := by decide +kernel
theorem dX7_node_19 : decode cX7_node 19 = .ok (.invokevirtual 128, 3) := by decide +kernel
theorem dX7_node_22 : decode cX7_node 22 = .ok (.istore_n 3, 1) := by decide +kernel
theorem dX7_node_23 : decode cX7_node 23 = .ok (.iload_n 2, 1) := by decide +kernel
theorem dX7_node_24 : decode cX7_node 24 = .ok (.tableswitch 129 0 5 #[40, 50, 69, 88, 107, 117], 40) := by decide +kernel
theorem dX7_node_64 : decode cX7_node 64 = .ok (.aload_n 0, 1) := by decide +kernel
theorem dX7_node_65 : decode cX7_node 65 = .ok (.getfield 26, 3) := by decide +kernel
theorem dX7_node_68 : decode cX7_node 68 = .ok (.getfield 131, 3) := by decide +kernel
theorem dX7_node_71 : decode cX7_node 71 = .ok (.iload_n 1, 1) := by decide +kernel
theorem dX7_node_72 : decode cX7_node 72 = .ok (.iaload, 1) := by decide +kernel
theorem dX7_node_73 : decode cX7_node 73 = .ok (.ireturn, 1) := by decide +kernel
theorem dX7_node_74 : decode cX7_node 74 = .ok (.iload_n 3, 1) := by decide +kernel
theorem dX7_node_75 : decode cX7_node 75 = .ok (.ifCond .eq 8, 3) := by decide +kernel
theorem dX7_node_78 : decode cX7_node 78 = .ok (.ldc 135, 2) := by decide +kernel
theorem dX7_node_80 : decode cX7_node 80 = .ok (.goto 12, 3) := by decide +kernel
theorem dX7_node_83 : decode cX7_node 83 = .ok (.aload_n 0, 1) := by decide +kernel
theorem dX7_node_84 : decode cX7_node 84 = .ok (.getfield 26, 3) := by decide +kernel
theorem dX7_node_87 : decode cX7_node 87 = .ok (.getfield 136, 3) := by decide +kernel
theorem dX7_node_90 : decode cX7_node 90 = .ok (.iload_n 1, 1) := by decide +kernel
theorem dX7_node_91 : decode cX7_node 91 = .ok (.iaload, 1) := by decide +kernel
theorem dX7_node_92 : decode cX7_node 92 = .ok (.ireturn, 1) := by decide +kernel
theorem dX7_node_93 : decode cX7_node 93 = .ok (.iload_n 3, 1) := by decide +kernel
theorem dX7_node_94 : decode cX7_node 94 = .ok (.ifCond .eq 8, 3) := by decide +kernel
theorem dX7_node_97 : decode cX7_node 97 = .ok (.ldc 135, 2) := by decide +kernel
theorem dX7_node_99 : decode cX7_node 99 = .ok (.goto 12, 3) := by decide +kernel
theorem dX7_node_102 : decode cX7_node 102 = .ok (.aload_n 0, 1) := by decide +kernel
theorem dX7_node_103 : decode cX7_node 103 = .ok (.getfield 26, 3) := by decide +kernel
theorem dX7_node_106 : decode cX7_node 106 = .ok (.getfield 139, 3) := by decide +kernel
theorem dX7_node_109 : decode cX7_node 109 = .ok (.iload_n 1, 1) := by decide +kernel
theorem dX7_node_110 : decode cX7_node 110 = .ok (.iaload, 1) := by decide +kernel
theorem dX7_node_111 : decode cX7_node 111 = .ok (.ireturn, 1) := by decide +kernel
theorem dX7_node_112 : decode cX7_node 112 = .ok (.iload_n 3, 1) := by decide +kernel
theorem dX7_node_113 : decode cX7_node 113 = .ok (.ifCond .eq 8, 3) := by decide +kernel
theorem dX7_node_116 : decode cX7_node 116 = .ok (.ldc 135, 2) := by decide +kernel
theorem dX7_node_118 : decode cX7_node 118 = .ok (.goto 12, 3) := by decide +kernel
theorem dX7_node_121 : decode cX7_node 121 = .ok (.aload_n 0, 1) := by decide +kernel
theorem dX7_node_122 : decode cX7_node 122 = .ok (.getfield 26, 3) := by decide +kernel
theorem dX7_node_125 : decode cX7_node 125 = .ok (.getfield 142, 3) := by decide +kernel
theorem dX7_node_128 : decode cX7_node 128 = .ok (.iload_n 1, 1) := by decide +kernel
theorem dX7_node_129 : decode cX7_node 129 = .ok (.iaload, 1) := by decide +kernel
theorem dX7_node_130 : decode cX7_node 130 = .ok (.ireturn, 1) := by decide +kernel
theorem dX7_node_131 : decode cX7_node 131 = .ok (.aload_n 0, 1) := by decide +kernel
theorem dX7_node_132 : decode cX7_node 132 = .ok (.getfield 26, 3) := by decide +kernel
theorem dX7_node_135 : decode cX7_node 135 = .ok (.getfield 145, 3) := by decide +kernel
theorem dX7_node_138 : decode cX7_node 138 = .ok (.iload_n 1, 1) := by decide +kernel
theorem dX7_node_139 : decode cX7_node 139 = .ok (.iaload, 1) := by decide +kernel
theorem dX7_node_140 : decode cX7_node 140 = .ok (.ireturn, 1) := by decide +kernel
theorem dX7_node_141 : decode cX7_node 141 = .ok (.aload_n 0, 1) := by decide +kernel
theorem dX7_node_142 : decode cX7_node 142 = .ok (.getfield 26, 3) := by decide +kernel
theorem dX7_node_145 : decode cX7_node 145 = .ok (.invokevirtual 148, 3) := by decide +kernel
theorem dX7_node_148 : decode cX7_node 148 = .ok (.iload_n 1, 1) := by decide +kernel
theorem dX7_node_149 : decode cX7_node 149 = .ok (.invokestatic 152, 3) := by decide +kernel
theorem dX7_node_152 : decode cX7_node 152 = .ok (.ireturn, 1) := by decide +kernel
theorem dX7_node_153 : decode cX7_node 153 = .ok (.ldc 66, 2) := by decide +kernel
theorem dX7_node_155 : decode cX7_node 155 = .ok (.ireturn, 1) := by decide +kernel
theorem dX7_step_0 : decode cX7_step 0 = .ok (.aload_n 0, 1) := by decide +kernel
theorem dX7_step_1 : decode cX7_step 1 = .ok (.getfield 26, 3) := by decide +kernel
theorem dX7_step_4 : decode cX7_step 4 = .ok (.iload_n 1, 1) := by decide +kernel
theorem dX7_step_5 : decode cX7_step 5 = .ok (.invokevirtual 156, 3) := by decide +kernel
theorem dX7_step_8 : decode cX7_step 8 = .ok (.ifCond .ne 6, 3) := by decide +kernel
theorem dX7_step_11 : decode cX7_step 11 = .ok (.ldc 66, 2) := by decide +kernel
theorem dX7_step_13 : decode cX7_step 13 = .ok (.ireturn, 1) := by decide +kernel
theorem dX7_step_14 : decode cX7_step 14 = .ok (.iload_n 2, 1) := by decide +kernel
theorem dX7_step_15 : decode cX7_step 15 = .ok (.tableswitch 110 0 5 #[37, 47, 57, 67, 76, 86], 37) := by decide +kernel
theorem dX7_step_52 : decode cX7_step 52 = .ok (.aload_n 0, 1) := by decide +kernel
theorem dX7_step_53 : decode cX7_step 53 = .ok (.getfield 26, 3) := by decide +kernel
theorem dX7_step_56 : decode cX7_step 56 = .ok (.getfield 159, 3) := by decide +kernel
theorem dX7_step_59 : decode cX7_step 59 = .ok (.iload_n 1, 1) := by decide +kernel
theorem dX7_step_60 : decode cX7_step 60 = .ok (.iaload, 1) := by decide +kernel
theorem dX7_step_61 : decode cX7_step 61 = .ok (.ireturn, 1) := by decide +kernel
theorem dX7_step_62 : decode cX7_step 62 = .ok (.aload_n 0, 1) := by decide +kernel
theorem dX7_step_63 : decode cX7_step 63 = .ok (.getfield 26, 3) := by decide +kernel
theorem dX7_step_66 : decode cX7_step 66 = .ok (.getfield 162, 3) := by decide +kernel
theorem dX7_step_69 : decode cX7_step 69 = .ok (.iload_n 1, 1) := by decide +kernel
theorem dX7_step_70 : decode cX7_step 70 = .ok (.iaload, 1) := by decide +kernel
theorem dX7_step_71 : decode cX7_step 71 = .ok (.ireturn, 1) := by decide +kernel
theorem dX7_step_72 : decode cX7_step 72 = .ok (.aload_n 0, 1) := by decide +kernel
theorem dX7_step_73 : decode cX7_step 73 = .ok (.getfield 26, 3) := by decide +kernel
theorem dX7_step_76 : decode cX7_step 76 = .ok (.getfield 165, 3) := by decide +kernel
theorem dX7_step_79 : decode cX7_step 79 = .ok (.iload_n 1, 1) := by decide +kernel
theorem dX7_step_80 : decode cX7_step 80 = .ok (.iaload, 1) := by decide +kernel
theorem dX7_step_81 : decode cX7_step 81 = .ok (.ireturn, 1) := by decide +kernel
theorem dX7_step_82 : decode cX7_step 82 = .ok (.aload_n 0, 1) := by decide +kernel
theorem dX7_step_83 : decode cX7_step 83 = .ok (.getfield 26, 3) := by decide +kernel
theorem dX7_step_86 : decode cX7_step 86 = .ok (.iload_n 1, 1) := by decide +kernel
theorem dX7_step_87 : decode cX7_step 87 = .ok (.invokevirtual 168, 3) := by decide +kernel
theorem dX7_step_90 : decode cX7_step 90 = .ok (.ireturn, 1) := by decide +kernel
theorem dX7_step_91 : decode cX7_step 91 = .ok (.aload_n 0, 1) := by decide +kernel
theorem dX7_step_92 : decode cX7_step 92 = .ok (.getfield 26, 3) := by decide +kernel
theorem dX7_step_95 : decode cX7_step 95 = .ok (.getfield 171, 3) := by decide +kernel
theorem dX7_step_98 : decode cX7_step 98 = .ok (.iload_n 1, 1) := by decide +kernel
theorem dX7_step_99 : decode cX7_step 99 = .ok (.iaload, 1) := by decide +kernel
theorem dX7_step_100 : decode cX7_step 100 = .ok (.ireturn, 1) := by decide +kernel
theorem dX7_step_101 : decode cX7_step 101 = .ok (.aload_n 0, 1) := by decide +kernel
theorem dX7_step_102 : decode cX7_step 102 = .ok (.getfield 26, 3) := by decide +kernel
theorem dX7_step_105 : decode cX7_step 105 = .ok (.iload_n 1, 1) := by decide +kernel
theorem dX7_step_106 : decode cX7_step 106 = .ok (.aload_n 0, 1) := by decide +kernel
theorem dX7_step_107 : decode cX7_step 107 = .ok (.getfield 26, 3) := by decide +kernel
theorem dX7_step_110 : decode cX7_step 110 = .ok (.invokevirtual 148, 3) := by decide +kernel
theorem dX7_step_113 : decode cX7_step 113 = .ok (.invokevirtual 174, 3) := by decide +kernel
theorem dX7_step_116 : decode cX7_step 116 = .ok (.ifCond .eq 7, 3) := by decide +kernel
theorem dX7_step_119 : decode cX7_step 119 = .ok (.iconst 1, 1) := by decide +kernel
theorem dX7_step_120 : decode cX7_step 120 = .ok (.goto 4, 3) := by decide +kernel
theorem dX7_step_123 : decode cX7_step 123 = .ok (.iconst 0, 1) := by decide +kernel
theorem dX7_step_124 : decode cX7_step 124 = .ok (.ireturn, 1) := by decide +kernel
theorem dX7_step_125 : decode cX7_step 125 = .ok (.ldc 66, 2) := by decide +kernel
theorem dX7_step_127 : decode cX7_step 127 = .ok (.ireturn, 1) := by decide +kernel
theorem dX7_part_0 : decode cX7_part 0 = .ok (.aload_n 0, 1) := by decide +kernel
theorem dX7_part_1 : decode cX7_part 1 = .ok (.getfield 26, 3) := by decide +kernel
theorem dX7_part_4 : decode cX7_part 4 = .ok (.iload_n 1, 1) := by decide +kernel
theorem dX7_part_5 : decode cX7_part 5 = .ok (.invokevirtual 156, 3) := by decide +kernel
theorem dX7_part_8 : decode cX7_part 8 = .ok (.ifCond .eq 7, 3) := by decide +kernel
theorem dX7_part_11 : decode cX7_part 11 = .ok (.iload_n 2, 1) := by decide +kernel
theorem dX7_part_12 : decode cX7_part 12 = .ok (.ifCond .ge 6, 3) := by decide +kernel
theorem dX7_part_15 : decode cX7_part 15 = .ok (.ldc 66, 2) := by decide +kernel
theorem dX7_part_17 : decode cX7_part 17 = .ok (.ireturn, 1) := by decide +kernel
theorem dX7_part_18 : decode cX7_part 18 = .ok (.iload_n 2, 1) := by decide +kernel
theorem dX7_part_19 : decode cX7_part 19 = .ok (.aload_n 0, 1) := by decide +kernel
theorem dX7_part_20 : decode cX7_part 20 = .ok (.getfield 26, 3) := by decide +kernel
theorem dX7_part_23 : decode cX7_part 23 = .ok (.getfield 165, 3) := by decide +kernel
theorem dX7_part_26 : decode cX7_part 26 = .ok (.iload_n 1, 1) := by decide +kernel
theorem dX7_part_27 : decode cX7_part 27 = .ok (.iaload, 1) := by decide +kernel
theorem dX7_part_28 : decode cX7_part 28 = .ok (.if_icmp .ge 15, 3) := by decide +kernel
theorem dX7_part_31 : decode cX7_part 31 = .ok (.aload_n 0, 1) := by decide +kernel
theorem dX7_part_32 : decode cX7_part 32 = .ok (.getfield 26, 3) := by decide +kernel
theorem dX7_part_35 : decode cX7_part 35 = .ok (.iload_n 1, 1) := by decide +kernel
theorem dX7_part_36 : decode cX7_part 36 = .ok (.iload_n 2, 1) := by decide +kernel
theorem dX7_part_37 : decode cX7_part 37 = .ok (.invokevirtual 177, 3) := by decide +kernel
theorem dX7_part_40 : decode cX7_part 40 = .ok (.goto 5, 3) := by decide +kernel
theorem dX7_part_43 : decode cX7_part 43 = .ok (.ldc 135, 2) := by decide +kernel
theorem dX7_part_45 : decode cX7_part 45 = .ok (.ireturn, 1) := by decide +kernel
theorem dX7_doubt_0 : decode cX7_doubt 0 = .ok (.aload_n 0, 1) := by decide +kernel
theorem dX7_doubt_1 : decode cX7_doubt 1 = .ok (.getfield 26, 3) := by decide +kernel
theorem dX7_doubt_4 : decode cX7_doubt 4 = .ok (.iload_n 1, 1) := by decide +kernel
theorem dX7_doubt_5 : decode cX7_doubt 5 = .ok (.invokevirtual 156, 3) := by decide +kernel
theorem dX7_doubt_8 : decode cX7_doubt 8 = .ok (.ifCond .eq 21, 3) := by decide +kernel
theorem dX7_doubt_11 : decode cX7_doubt 11 = .ok (.iload_n 2, 1) := by decide +kernel
theorem dX7_doubt_12 : decode cX7_doubt 12 = .ok (.iconst 0, 1) := by decide +kernel
theorem dX7_doubt_13 : decode cX7_doubt 13 = .ok (.aload_n 0, 1) := by decide +kernel
theorem dX7_doubt_14 : decode cX7_doubt 14 = .ok (.getfield 26, 3) := by decide +kernel
theorem dX7_doubt_17 : decode cX7_doubt 17 = .ok (.iload_n 1, 1) := by decide +kernel
theorem dX7_doubt_18 : decode cX7_doubt 18 = .ok (.invokevirtual 168, 3) := by decide +kernel
theorem dX7_doubt_21 : decode cX7_doubt 21 = .ok (.iconst 1, 1) := by decide +kernel
theorem dX7_doubt_22 : decode cX7_doubt 22 = .ok (.isub, 1) := by decide +kernel
theorem dX7_doubt_23 : decode cX7_doubt 23 = .ok (.invokestatic 62, 3) := by decide +kernel
theorem dX7_doubt_26 : decode cX7_doubt 26 = .ok (.ifCond .ne 6, 3) := by decide +kernel
theorem dX7_doubt_29 : decode cX7_doubt 29 = .ok (.ldc 66, 2) := by decide +kernel
theorem dX7_doubt_31 : decode cX7_doubt 31 = .ok (.ireturn, 1) := by decide +kernel
theorem dX7_doubt_32 : decode cX7_doubt 32 = .ok (.iload_n 3, 1) := by decide +kernel
theorem dX7_doubt_33 : decode cX7_doubt 33 = .ok (.iconst 0, 1) := by decide +kernel
theorem dX7_doubt_34 : decode cX7_doubt 34 = .ok (.bipush 11, 2) := by decide +kernel
theorem dX7_doubt_36 : decode cX7_doubt 36 = .ok (.invokestatic 62, 3) := by decide +kernel
theorem dX7_doubt_39 : decode cX7_doubt 39 = .ok (.ifCond .ne 6, 3) := by decide +kernel
theorem dX7_doubt_42 : decode cX7_doubt 42 = .ok (.ldc 66, 2) := by decide +kernel
theorem dX7_doubt_44 : decode cX7_doubt 44 = .ok (.ireturn, 1) := by decide +kernel
theorem dX7_doubt_45 : decode cX7_doubt 45 = .ok (.aload_n 0, 1) := by decide +kernel
theorem dX7_doubt_46 : decode cX7_doubt 46 = .ok (.getfield 26, 3) := by decide +kernel
theorem dX7_doubt_49 : decode cX7_doubt 49 = .ok (.iload_n 1, 1) := by decide +kernel
theorem dX7_doubt_50 : decode cX7_doubt 50 = .ok (.iload_n 2, 1) := by decide +kernel
theorem dX7_doubt_51 : decode cX7_doubt 51 = .ok (.iload_n 3, 1) := by decide +kernel
theorem dX7_doubt_52 : decode cX7_doubt 52 = .ok (.invokevirtual 180, 3) := by decide +kernel
theorem dX7_doubt_55 : decode cX7_doubt 55 = .ok (.ireturn, 1) := by decide +kernel
theorem dX7_borne_0 : decode cX7_borne 0 = .ok (.iload_n 1, 1) := by decide +kernel
theorem dX7_borne_1 : decode cX7_borne 1 = .ok (.iconst 0, 1) := by decide +kernel
theorem dX7_borne_2 : decode cX7_borne 2 = .ok (.bipush 9, 2) := by decide +kernel
theorem dX7_borne_4 : decode cX7_borne 4 = .ok (.invokestatic 62, 3) := by decide +kernel
theorem dX7_borne_7 : decode cX7_borne 7 = .ok (.ifCond .ne 6, 3) := by decide +kernel
theorem dX7_borne_10 : decode cX7_borne 10 = .ok (.ldc 66, 2) := by decide +kernel
theorem dX7_borne_12 : decode cX7_borne 12 = .ok (.ireturn, 1) := by decide +kernel
theorem dX7_borne_13 : decode cX7_borne 13 = .ok (.aload_n 0, 1) := by decide +kernel
theorem dX7_borne_14 : decode cX7_borne 14 = .ok (.getfield 26, 3) := by decide +kernel
theorem dX7_borne_17 : decode cX7_borne 17 = .ok (.iconst 2, 1) := by decide +kernel
theorem dX7_borne_18 : decode cX7_borne 18 = .ok (.iload_n 1, 1) := by decide +kernel
theorem dX7_borne_19 : decode cX7_borne 19 = .ok (.iadd, 1) := by decide +kernel
theorem dX7_borne_20 : decode cX7_borne 20 = .ok (.invokevirtual 183, 3) := by decide +kernel
theorem dX7_borne_23 : decode cX7_borne 23 = .ok (.ireturn, 1) := by decide +kernel
theorem dX7_looked_0 : decode cX7_looked 0 = .ok (.aload_n 0, 1) := by decide +kernel
theorem dX7_looked_1 : decode cX7_looked 1 = .ok (.getfield 10, 3) := by decide +kernel
theorem dX7_looked_4 : decode cX7_looked 4 = .ok (.iload_n 1, 1) := by decide +kernel
theorem dX7_looked_5 : decode cX7_looked 5 = .ok (.invokevirtual 58, 3) := by decide +kernel
theorem dX7_looked_8 : decode cX7_looked 8 = .ok (.ifCond .eq 13, 3) := by decide +kernel
theorem dX7_looked_11 : decode cX7_looked 11 = .ok (.iload_n 3, 1) := by decide +kernel
theorem dX7_looked_12 : decode cX7_looked 12 = .ok (.iconst 1, 1) := by decide +kernel
theorem dX7_looked_13 : decode cX7_looked 13 = .ok (.bipush 8, 2) := by decide +kernel
theorem dX7_looked_15 : decode cX7_looked 15 = .ok (.invokestatic 62, 3) := by decide +kernel
theorem dX7_looked_18 : decode cX7_looked 18 = .ok (.ifCond .ne 6, 3) := by decide +kernel
theorem dX7_looked_21 : decode cX7_looked 21 = .ok (.ldc 66, 2) := by decide +kernel
theorem dX7_looked_23 : decode cX7_looked 23 = .ok (.ireturn, 1) := by decide +kernel
theorem dX7_looked_24 : decode cX7_looked 24 = .ok (.aload_n 0, 1) := by decide +kernel
theorem dX7_looked_25 : decode cX7_looked 25 = .ok (.getfield 10, 3) := by decide +kernel
theorem dX7_looked_28 : decode cX7_looked 28 = .ok (.iload_n 1, 1) := by decide +kernel
theorem dX7_looked_29 : decode cX7_looked 29 = .ok (.invokevirtual 78, 3) := by decide +kernel
theorem dX7_looked_32 : decode cX7_looked 32 = .ok (.ifCond .eq 9, 3) := by decide +kernel
theorem dX7_looked_35 : decode cX7_looked 35 = .ok (.aload_n 0, 1) := by decide +kernel
theorem dX7_looked_36 : decode cX7_looked 36 = .ok (.iconst 1, 1) := by decide +kernel
theorem dX7_looked_37 : decode cX7_looked 37 = .ok (.invokevirtual 67, 3) := by decide +kernel
theorem dX7_looked_40 : decode cX7_looked 40 = .ok (.ireturn, 1) := by decide +kernel
theorem dX7_looked_41 : decode cX7_looked 41 = .ok (.aload_n 0, 1) := by decide +kernel
theorem dX7_looked_42 : decode cX7_looked 42 = .ok (.getfield 10, 3) := by decide +kernel
theorem dX7_looked_45 : decode cX7_looked 45 = .ok (.iload_n 1, 1) := by decide +kernel
theorem dX7_looked_46 : decode cX7_looked 46 = .ok (.iload_n 2, 1) := by decide +kernel
theorem dX7_looked_47 : decode cX7_looked 47 = .ok (.iconst 3, 1) := by decide +kernel
theorem dX7_looked_48 : decode cX7_looked 48 = .ok (.iload_n 3, 1) := by decide +kernel
theorem dX7_looked_49 : decode cX7_looked 49 = .ok (.imul, 1) := by decide +kernel
theorem dX7_looked_50 : decode cX7_looked 50 = .ok (.invokevirtual 81, 3) := by decide +kernel
theorem dX7_looked_53 : decode cX7_looked 53 = .ok (.ifCond .ne 9, 3) := by decide +kernel
theorem dX7_looked_56 : decode cX7_looked 56 = .ok (.aload_n 0, 1) := by decide +kernel
theorem dX7_looked_57 : decode cX7_looked 57 = .ok (.iconst 2, 1) := by decide +kernel
theorem dX7_looked_58 : decode cX7_looked 58 = .ok (.invokevirtual 67, 3) := by decide +kernel
theorem dX7_looked_61 : decode cX7_looked 61 = .ok (.ireturn, 1) := by decide +kernel
theorem dX7_looked_62 : decode cX7_looked 62 = .ok (.iconst 0, 1) := by decide +kernel
theorem dX7_looked_63 : decode cX7_looked 63 = .ok (.istore 4, 2) := by decide +kernel
theorem dX7_looked_65 : decode cX7_looked 65 = .ok (.iload 4, 2) := by decide +kernel
theorem dX7_looked_67 : decode cX7_looked 67 = .ok (.iload_n 3, 1) := by decide +kernel
theorem dX7_looked_68 : decode cX7_looked 68 = .ok (.if_icmp .ge 26, 3) := by decide +kernel
theorem dX7_looked_71 : decode cX7_looked 71 = .ok (.aload_n 0, 1) := by decide +kernel
theorem dX7_looked_72 : decode cX7_looked 72 = .ok (.iload_n 1, 1) := by decide +kernel
theorem dX7_looked_73 : decode cX7_looked 73 = .ok (.iload_n 2, 1) := by decide +kernel
theorem dX7_looked_74 : decode cX7_looked 74 = .ok (.iconst 3, 1) := by decide +kernel
theorem dX7_looked_75 : decode cX7_looked 75 = .ok (.iload 4, 2) := by decide +kernel
theorem dX7_looked_77 : decode cX7_looked 77 = .ok (.imul, 1) := by decide +kernel
theorem dX7_looked_78 : decode cX7_looked 78 = .ok (.iadd, 1) := by decide +kernel
theorem dX7_looked_79 : decode cX7_looked 79 = .ok (.invokevirtual 186, 3) := by decide +kernel
theorem dX7_looked_82 : decode cX7_looked 82 = .ok (.ifCond .ne 6, 3) := by decide +kernel
theorem dX7_looked_85 : decode cX7_looked 85 = .ok (.ldc 66, 2) := by decide +kernel
theorem dX7_looked_87 : decode cX7_looked 87 = .ok (.ireturn, 1) := by decide +kernel
theorem dX7_looked_88 : decode cX7_looked 88 = .ok (.iinc 4 1, 3) := by decide +kernel
theorem dX7_looked_91 : decode cX7_looked 91 = .ok (.goto (-26), 3) := by decide +kernel
theorem dX7_looked_94 : decode cX7_looked 94 = .ok (.iconst 0, 1) := by decide +kernel
theorem dX7_looked_95 : decode cX7_looked 95 = .ok (.istore 4, 2) := by decide +kernel
theorem dX7_looked_97 : decode cX7_looked 97 = .ok (.iload 4, 2) := by decide +kernel
theorem dX7_looked_99 : decode cX7_looked 99 = .ok (.iload_n 3, 1) := by decide +kernel
theorem dX7_looked_100 : decode cX7_looked 100 = .ok (.if_icmp .ge 20, 3) := by decide +kernel
theorem dX7_looked_103 : decode cX7_looked 103 = .ok (.aload_n 0, 1) := by decide +kernel
theorem dX7_looked_104 : decode cX7_looked 104 = .ok (.iload_n 1, 1) := by decide +kernel
theorem dX7_looked_105 : decode cX7_looked 105 = .ok (.iload_n 2, 1) := by decide +kernel
theorem dX7_looked_106 : decode cX7_looked 106 = .ok (.iconst 3, 1) := by decide +kernel
theorem dX7_looked_107 : decode cX7_looked 107 = .ok (.iload 4, 2) := by decide +kernel
theorem dX7_looked_109 : decode cX7_looked 109 = .ok (.imul, 1) := by decide +kernel
theorem dX7_looked_110 : decode cX7_looked 110 = .ok (.iadd, 1) := by decide +kernel
theorem dX7_looked_111 : decode cX7_looked 111 = .ok (.invokevirtual 189, 3) := by decide +kernel
theorem dX7_looked_114 : decode cX7_looked 114 = .ok (.iinc 4 1, 3) := by decide +kernel
theorem dX7_looked_117 : decode cX7_looked 117 = .ok (.goto (-20), 3) := by decide +kernel
theorem dX7_looked_120 : decode cX7_looked 120 = .ok (.aload_n 0, 1) := by decide +kernel
theorem dX7_looked_121 : decode cX7_looked 121 = .ok (.iload_n 3, 1) := by decide +kernel
theorem dX7_looked_122 : decode cX7_looked 122 = .ok (.invokevirtual 75, 3) := by decide +kernel
theorem dX7_looked_125 : decode cX7_looked 125 = .ok (.ireturn, 1) := by decide +kernel
theorem dX7_fall_0 : decode cX7_fall 0 = .ok (.aload_n 0, 1) := by decide +kernel
theorem dX7_fall_1 : decode cX7_fall 1 = .ok (.getfield 26, 3) := by decide +kernel
theorem dX7_fall_4 : decode cX7_fall 4 = .ok (.iload_n 1, 1) := by decide +kernel
theorem dX7_fall_5 : decode cX7_fall 5 = .ok (.invokevirtual 192, 3) := by decide +kernel
theorem dX7_fall_8 : decode cX7_fall 8 = .ok (.ifCond .eq 12, 3) := by decide +kernel
theorem dX7_fall_11 : decode cX7_fall 11 = .ok (.iload_n 2, 1) := by decide +kernel
theorem dX7_fall_12 : decode cX7_fall 12 = .ok (.iconst 0, 1) := by decide +kernel
theorem dX7_fall_13 : decode cX7_fall 13 = .ok (.iconst 1, 1) := by decide +kernel
theorem dX7_fall_14 : decode cX7_fall 14 = .ok (.invokestatic 62, 3) := by decide +kernel
theorem dX7_fall_17 : decode cX7_fall 17 = .ok (.ifCond .ne 6, 3) := by decide +kernel
theorem dX7_fall_20 : decode cX7_fall 20 = .ok (.ldc 66, 2) := by decide +kernel
theorem dX7_fall_22 : decode cX7_fall 22 = .ok (.ireturn, 1) := by decide +kernel
theorem dX7_fall_23 : decode cX7_fall 23 = .ok (.aload_n 0, 1) := by decide +kernel
theorem dX7_fall_24 : decode cX7_fall 24 = .ok (.getfield 26, 3) := by decide +kernel
theorem dX7_fall_27 : decode cX7_fall 27 = .ok (.getfield 145, 3) := by decide +kernel
theorem dX7_fall_30 : decode cX7_fall 30 = .ok (.iload_n 1, 1) := by decide +kernel
theorem dX7_fall_31 : decode cX7_fall 31 = .ok (.iaload, 1) := by decide +kernel
theorem dX7_fall_32 : decode cX7_fall 32 = .ok (.istore_n 3, 1) := by decide +kernel
theorem dX7_fall_33 : decode cX7_fall 33 = .ok (.aload_n 0, 1) := by decide +kernel
theorem dX7_fall_34 : decode cX7_fall 34 = .ok (.getfield 26, 3) := by decide +kernel
theorem dX7_fall_37 : decode cX7_fall 37 = .ok (.getfield 145, 3) := by decide +kernel
theorem dX7_fall_40 : decode cX7_fall 40 = .ok (.iload_n 1, 1) := by decide +kernel
theorem dX7_fall_41 : decode cX7_fall 41 = .ok (.iload_n 2, 1) := by decide +kernel
theorem dX7_fall_42 : decode cX7_fall 42 = .ok (.iastore, 1) := by decide +kernel
theorem dX7_fall_43 : decode cX7_fall 43 = .ok (.iload_n 3, 1) := by decide +kernel
theorem dX7_fall_44 : decode cX7_fall 44 = .ok (.ireturn, 1) := by decide +kernel
theorem dX7_day_0 : decode cX7_day 0 = .ok (.iload_n 1, 1) := by decide +kernel
theorem dX7_day_1 : decode cX7_day 1 = .ok (.iconst 0, 1) := by decide +kernel
theorem dX7_day_2 : decode cX7_day 2 = .ok (.sipush 9999, 3) := by decide +kernel
theorem dX7_day_5 : decode cX7_day 5 = .ok (.invokestatic 62, 3) := by decide +kernel
theorem dX7_day_8 : decode cX7_day 8 = .ok (.ifCond .ne 6, 3) := by decide +kernel
theorem dX7_day_11 : decode cX7_day 11 = .ok (.ldc 66, 2) := by decide +kernel
theorem dX7_day_13 : decode cX7_day 13 = .ok (.ireturn, 1) := by decide +kernel
theorem dX7_day_14 : decode cX7_day 14 = .ok (.aload_n 0, 1) := by decide +kernel
theorem dX7_day_15 : decode cX7_day 15 = .ok (.getfield 26, 3) := by decide +kernel
theorem dX7_day_18 : decode cX7_day 18 = .ok (.getfield 195, 3) := by decide +kernel
theorem dX7_day_21 : decode cX7_day 21 = .ok (.istore_n 2, 1) := by decide +kernel
theorem dX7_day_22 : decode cX7_day 22 = .ok (.aload_n 0, 1) := by decide +kernel
theorem dX7_day_23 : decode cX7_day 23 = .ok (.getfield 26, 3) := by decide +kernel
theorem dX7_day_26 : decode cX7_day 26 = .ok (.iload_n 1, 1) := by decide +kernel
theorem dX7_day_27 : decode cX7_day 27 = .ok (.putfield 195, 3) := by decide +kernel
theorem dX7_day_30 : decode cX7_day 30 = .ok (.iload_n 2, 1) := by decide +kernel
theorem dX7_day_31 : decode cX7_day 31 = .ok (.ireturn, 1) := by decide +kernel
theorem dX7_shown_0 : decode cX7_shown 0 = .ok (.iload_n 1, 1) := by decide +kernel
theorem dX7_shown_1 : decode cX7_shown 1 = .ok (.tableswitch 59 0 2 #[27, 43, 51], 27) := by decide +kernel
theorem dX7_shown_28 : decode cX7_shown 28 = .ok (.aload_n 0, 1) := by decide +kernel
theorem dX7_shown_29 : decode cX7_shown 29 = .ok (.getfield 26, 3) := by decide +kernel
theorem dX7_shown_32 : decode cX7_shown 32 = .ok (.invokevirtual 148, 3) := by decide +kernel
theorem dX7_shown_35 : decode cX7_shown 35 = .ok (.aload_n 0, 1) := by decide +kernel
theorem dX7_shown_36 : decode cX7_shown 36 = .ok (.getfield 26, 3) := by decide +kernel
theorem dX7_shown_39 : decode cX7_shown 39 = .ok (.invokevirtual 198, 3) := by decide +kernel
theorem dX7_shown_42 : decode cX7_shown 42 = .ok (.iand, 1) := by decide +kernel
theorem dX7_shown_43 : decode cX7_shown 43 = .ok (.ireturn, 1) := by decide +kernel
theorem dX7_shown_44 : decode cX7_shown 44 = .ok (.aload_n 0, 1) := by decide +kernel
theorem dX7_shown_45 : decode cX7_shown 45 = .ok (.getfield 26, 3) := by decide +kernel
theorem dX7_shown_48 : decode cX7_shown 48 = .ok (.invokevirtual 201, 3) := by decide +kernel
theorem dX7_shown_51 : decode cX7_shown 51 = .ok (.ireturn, 1) := by decide +kernel
theorem dX7_shown_52 : decode cX7_shown 52 = .ok (.aload_n 0, 1) := by decide +kernel
theorem dX7_shown_53 : decode cX7_shown 53 = .ok (.getfield 26, 3) := by decide +kernel
theorem dX7_shown_56 : decode cX7_shown 56 = .ok (.invokevirtual 204, 3) := by decide +kernel
theorem dX7_shown_59 : decode cX7_shown 59 = .ok (.ireturn, 1) := by decide +kernel
theorem dX7_shown_60 : decode cX7_shown 60 = .ok (.ldc 66, 2) := by decide +kernel
theorem dX7_shown_62 : decode cX7_shown 62 = .ok (.ireturn, 1) := by decide +kernel
theorem dX7_leaning_0 : decode cX7_leaning 0 = .ok (.aload_n 0, 1) := by decide +kernel
theorem dX7_leaning_1 : decode cX7_leaning 1 = .ok (.getfield 26, 3) := by decide +kernel
theorem dX7_leaning_4 : decode cX7_leaning 4 = .ok (.iload_n 1, 1) := by decide +kernel
theorem dX7_leaning_5 : decode cX7_leaning 5 = .ok (.invokevirtual 125, 3) := by decide +kernel
theorem dX7_leaning_8 : decode cX7_leaning 8 = .ok (.ifCond .ne 6, 3) := by decide +kernel
theorem dX7_leaning_11 : decode cX7_leaning 11 = .ok (.ldc 66, 2) := by decide +kernel
theorem dX7_leaning_13 : decode cX7_leaning 13 = .ok (.ireturn, 1) := by decide +kernel
theorem dX7_leaning_14 : decode cX7_leaning 14 = .ok (.iconst 1, 1) := by decide +kernel
theorem dX7_leaning_15 : decode cX7_leaning 15 = .ok (.iload_n 1, 1) := by decide +kernel
theorem dX7_leaning_16 : decode cX7_leaning 16 = .ok (.ishl, 1) := by decide +kernel
theorem dX7_leaning_17 : decode cX7_leaning 17 = .ok (.istore_n 2, 1) := by decide +kernel
theorem dX7_leaning_18 : decode cX7_leaning 18 = .ok (.aload_n 0, 1) := by decide +kernel
theorem dX7_leaning_19 : decode cX7_leaning 19 = .ok (.getfield 26, 3) := by decide +kernel
theorem dX7_leaning_22 : decode cX7_leaning 22 = .ok (.aload_n 0, 1) := by decide +kernel
theorem dX7_leaning_23 : decode cX7_leaning 23 = .ok (.getfield 26, 3) := by decide +kernel
theorem dX7_leaning_26 : decode cX7_leaning 26 = .ok (.invokevirtual 207, 3) := by decide +kernel
theorem dX7_leaning_29 : decode cX7_leaning 29 = .ok (.iload_n 2, 1) := by decide +kernel
theorem dX7_leaning_30 : decode cX7_leaning 30 = .ok (.iconst (-1), 1) := by decide +kernel
theorem dX7_leaning_31 : decode cX7_leaning 31 = .ok (.ixor, 1) := by decide +kernel
theorem dX7_leaning_32 : decode cX7_leaning 32 = .ok (.iand, 1) := by decide +kernel
theorem dX7_leaning_33 : decode cX7_leaning 33 = .ok (.iload_n 2, 1) := by decide +kernel
theorem dX7_leaning_34 : decode cX7_leaning 34 = .ok (.invokevirtual 210, 3) := by decide +kernel
theorem dX7_leaning_37 : decode cX7_leaning 37 = .ok (.istore_n 3, 1) := by decide +kernel
theorem dX7_leaning_38 : decode cX7_leaning 38 = .ok (.aload_n 0, 1) := by decide +kernel
theorem dX7_leaning_39 : decode cX7_leaning 39 = .ok (.getfield 26, 3) := by decide +kernel
theorem dX7_leaning_42 : decode cX7_leaning 42 = .ok (.invokevirtual 148, 3) := by decide +kernel
theorem dX7_leaning_45 : decode cX7_leaning 45 = .ok (.aload_n 0, 1) := by decide +kernel
theorem dX7_leaning_46 : decode cX7_leaning 46 = .ok (.getfield 26, 3) := by decide +kernel
theorem dX7_leaning_49 : decode cX7_leaning 49 = .ok (.invokevirtual 198, 3) := by decide +kernel
theorem dX7_leaning_52 : decode cX7_leaning 52 = .ok (.iand, 1) := by decide +kernel
theorem dX7_leaning_53 : decode cX7_leaning 53 = .ok (.iload_n 3, 1) := by decide +kernel
theorem dX7_leaning_54 : decode cX7_leaning 54 = .ok (.iconst (-1), 1) := by decide +kernel
theorem dX7_leaning_55 : decode cX7_leaning 55 = .ok (.ixor, 1) := by decide +kernel
theorem dX7_leaning_56 : decode cX7_leaning 56 = .ok (.iand, 1) := by decide +kernel
theorem dX7_leaning_57 : decode cX7_leaning 57 = .ok (.iload_n 2, 1) := by decide +kernel
theorem dX7_leaning_58 : decode cX7_leaning 58 = .ok (.iconst (-1), 1) := by decide +kernel
theorem dX7_leaning_59 : decode cX7_leaning 59 = .ok (.ixor, 1) := by decide +kernel
theorem dX7_leaning_60 : decode cX7_leaning 60 = .ok (.iand, 1) := by decide +kernel
theorem dX7_leaning_61 : decode cX7_leaning 61 = .ok (.ireturn, 1) := by decide +kernel
theorem dX7_felling_0 : decode cX7_felling 0 = .ok (.aload_n 0, 1) := by decide +kernel
theorem dX7_felling_1 : decode cX7_felling 1 = .ok (.getfield 26, 3) := by decide +kernel
theorem dX7_felling_4 : decode cX7_felling 4 = .ok (.iload_n 1, 1) := by decide +kernel
theorem dX7_felling_5 : decode cX7_felling 5 = .ok (.invokevirtual 128, 3) := by decide +kernel
theorem dX7_felling_8 : decode cX7_felling 8 = .ok (.ifCond .eq 8, 3) := by decide +kernel
theorem dX7_felling_11 : decode cX7_felling 11 = .ok (.iload_n 2, 1) := by decide +kernel
theorem dX7_felling_12 : decode cX7_felling 12 = .ok (.iconst (-1), 1) := by decide +kernel
theorem dX7_felling_13 : decode cX7_felling 13 = .ok (.if_icmp .ge 6, 3) := by decide +kernel
theorem dX7_felling_16 : decode cX7_felling 16 = .ok (.ldc 66, 2) := by decide +kernel
theorem dX7_felling_18 : decode cX7_felling 18 = .ok (.ireturn, 1) := by decide +kernel
theorem dX7_felling_19 : decode cX7_felling 19 = .ok (.aload_n 0, 1) := by decide +kernel
theorem dX7_felling_20 : decode cX7_felling 20 = .ok (.getfield 26, 3) := by decide +kernel
theorem dX7_felling_23 : decode cX7_felling 23 = .ok (.invokevirtual 148, 3) := by decide +kernel
theorem dX7_felling_26 : decode cX7_felling 26 = .ok (.iload_n 1, 1) := by decide +kernel
theorem dX7_felling_27 : decode cX7_felling 27 = .ok (.invokestatic 152, 3) := by decide +kernel
theorem dX7_felling_30 : decode cX7_felling 30 = .ok (.ifCond .ne 6, 3) := by decide +kernel
theorem dX7_felling_33 : decode cX7_felling 33 = .ok (.ldc 213, 2) := by decide +kernel
theorem dX7_felling_35 : decode cX7_felling 35 = .ok (.ireturn, 1) := by decide +kernel
theorem dX7_felling_36 : decode cX7_felling 36 = .ok (.aload_n 0, 1) := by decide +kernel
theorem dX7_felling_37 : decode cX7_felling 37 = .ok (.getfield 33, 3) := by decide +kernel
theorem dX7_felling_40 : decode cX7_felling 40 = .ok (.aload_n 0, 1) := by decide +kernel
theorem dX7_felling_41 : decode cX7_felling 41 = .ok (.getfield 26, 3) := by decide +kernel
theorem dX7_felling_44 : decode cX7_felling 44 = .ok (.iload_n 1, 1) := by decide +kernel
theorem dX7_felling_45 : decode cX7_felling 45 = .ok (.iload_n 2, 1) := by decide +kernel
theorem dX7_felling_46 : decode cX7_felling 46 = .ok (.invokevirtual 214, 3) := by decide +kernel
theorem dX7_felling_49 : decode cX7_felling 49 = .ok (.ireturn, 1) := by decide +kernel
theorem dX7_hand_0 : decode cX7_hand 0 = .ok (.aload_n 0, 1) := by decide +kernel
theorem dX7_hand_1 : decode cX7_hand 1 = .ok (.getfield 26, 3) := by decide +kernel
theorem dX7_hand_4 : decode cX7_hand 4 = .ok (.invokevirtual 207, 3) := by decide +kernel
theorem dX7_hand_7 : decode cX7_hand 7 = .ok (.istore_n 1, 1) := by decide +kernel
theorem dX7_hand_8 : decode cX7_hand 8 = .ok (.aload_n 0, 1) := by decide +kernel
theorem dX7_hand_9 : decode cX7_hand 9 = .ok (.getfield 26, 3) := by decide +kernel
theorem dX7_hand_12 : decode cX7_hand 12 = .ok (.invokevirtual 148, 3) := by decide +kernel
theorem dX7_hand_15 : decode cX7_hand 15 = .ok (.aload_n 0, 1) := by decide +kernel
theorem dX7_hand_16 : decode cX7_hand 16 = .ok (.getfield 26, 3) := by decide +kernel
theorem dX7_hand_19 : decode cX7_hand 19 = .ok (.invokevirtual 198, 3) := by decide +kernel
theorem dX7_hand_22 : decode cX7_hand 22 = .ok (.iand, 1) := by decide +kernel
theorem dX7_hand_23 : decode cX7_hand 23 = .ok (.istore_n 2, 1) := by decide +kernel
theorem dX7_hand_24 : decode cX7_hand 24 = .ok (.ldc 135, 2) := by decide +kernel
theorem dX7_hand_26 : decode cX7_hand 26 = .ok (.istore_n 3, 1) := by decide +kernel
theorem dX7_hand_27 : decode cX7_hand 27 = .ok (.iconst 0, 1) := by decide +kernel
theorem dX7_hand_28 : decode cX7_hand 28 = .ok (.istore 4, 2) := by decide +kernel
theorem dX7_hand_30 : decode cX7_hand 30 = .ok (.iconst 0, 1) := by decide +kernel
theorem dX7_hand_31 : decode cX7_hand 31 = .ok (.istore 5, 2) := by decide +kernel
theorem dX7_hand_33 : decode cX7_hand 33 = .ok (.iload 5, 2) := by decide +kernel
theorem dX7_hand_35 : decode cX7_hand 35 = .ok (.bipush 9, 2) := by decide +kernel
theorem dX7_hand_37 : decode cX7_hand 37 = .ok (.if_icmp .gt 57, 3) := by decide +kernel
theorem dX7_hand_40 : decode cX7_hand 40 = .ok (.aload_n 0, 1) := by decide +kernel
theorem dX7_hand_41 : decode cX7_hand 41 = .ok (.getfield 26, 3) := by decide +kernel
theorem dX7_hand_44 : decode cX7_hand 44 = .ok (.iload_n 1, 1) := by decide +kernel
theorem dX7_hand_45 : decode cX7_hand 45 = .ok (.aload_n 0, 1) := by decide +kernel
theorem dX7_hand_46 : decode cX7_hand 46 = .ok (.getfield 26, 3) := by decide +kernel
theorem dX7_hand_49 : decode cX7_hand 49 = .ok (.iload 5, 2) := by decide +kernel
theorem dX7_hand_51 : decode cX7_hand 51 = .ok (.invokevirtual 218, 3) := by decide +kernel
theorem dX7_hand_54 : decode cX7_hand 54 = .ok (.iconst (-1), 1) := by decide +kernel
theorem dX7_hand_55 : decode cX7_hand 55 = .ok (.ixor, 1) := by decide +kernel
theorem dX7_hand_56 : decode cX7_hand 56 = .ok (.iand, 1) := by decide +kernel
theorem dX7_hand_57 : decode cX7_hand 57 = .ok (.iconst 0, 1) := by decide +kernel
theorem dX7_hand_58 : decode cX7_hand 58 = .ok (.invokevirtual 210, 3) := by decide +kernel
theorem dX7_hand_61 : decode cX7_hand 61 = .ok (.istore 6, 2) := by decide +kernel
theorem dX7_hand_63 : decode cX7_hand 63 = .ok (.iload_n 2, 1) := by decide +kernel
theorem dX7_hand_64 : decode cX7_hand 64 = .ok (.iload 6, 2) := by decide +kernel
theorem dX7_hand_66 : decode cX7_hand 66 = .ok (.iconst (-1), 1) := by decide +kernel
theorem dX7_hand_67 : decode cX7_hand 67 = .ok (.ixor, 1) := by decide +kernel
theorem dX7_hand_68 : decode cX7_hand 68 = .ok (.iand, 1) := by decide +kernel
theorem dX7_hand_69 : decode cX7_hand 69 = .ok (.invokestatic 221, 3) := by decide +kernel
theorem dX7_hand_72 : decode cX7_hand 72 = .ok (.istore 7, 2) := by decide +kernel
theorem dX7_hand_74 : decode cX7_hand 74 = .ok (.iload 7, 2) := by decide +kernel
theorem dX7_hand_76 : decode cX7_hand 76 = .ok (.iload 4, 2) := by decide +kernel
theorem dX7_hand_78 : decode cX7_hand 78 = .ok (.if_icmp .le 10, 3) := by decide +kernel
theorem dX7_hand_81 : decode cX7_hand 81 = .ok (.iload 7, 2) := by decide +kernel
theorem dX7_hand_83 : decode cX7_hand 83 = .ok (.istore 4, 2) := by decide +kernel
theorem dX7_hand_85 : decode cX7_hand 85 = .ok (.iload 5, 2) := by decide +kernel
theorem dX7_hand_87 : decode cX7_hand 87 = .ok (.istore_n 3, 1) := by decide +kernel
theorem dX7_hand_88 : decode cX7_hand 88 = .ok (.iinc 5 1, 3) := by decide +kernel
theorem dX7_hand_91 : decode cX7_hand 91 = .ok (.goto (-58), 3) := by decide +kernel
theorem dX7_hand_94 : decode cX7_hand 94 = .ok (.iload_n 3, 1) := by decide +kernel
theorem dX7_hand_95 : decode cX7_hand 95 = .ok (.ireturn, 1) := by decide +kernel
theorem dX7_weigh_0 : decode cX7_weigh 0 = .ok (.aload_n 0, 1) := by decide +kernel
theorem dX7_weigh_1 : decode cX7_weigh 1 = .ok (.getfield 26, 3) := by decide +kernel
theorem dX7_weigh_4 : decode cX7_weigh 4 = .ok (.iload_n 1, 1) := by decide +kernel
theorem dX7_weigh_5 : decode cX7_weigh 5 = .ok (.invokevirtual 192, 3) := by decide +kernel
theorem dX7_weigh_8 : decode cX7_weigh 8 = .ok (.ifCond .eq 11, 3) := by decide +kernel
theorem dX7_weigh_11 : decode cX7_weigh 11 = .ok (.iload_n 2, 1) := by decide +kernel
theorem dX7_weigh_12 : decode cX7_weigh 12 = .ok (.iload_n 3, 1) := by decide +kernel
theorem dX7_weigh_13 : decode cX7_weigh 13 = .ok (.invokestatic 226, 3) := by decide +kernel
theorem dX7_weigh_16 : decode cX7_weigh 16 = .ok (.ifCond .ne 6, 3) := by decide +kernel
theorem dX7_weigh_19 : decode cX7_weigh 19 = .ok (.ldc 66, 2) := by decide +kernel
theorem dX7_weigh_21 : decode cX7_weigh 21 = .ok (.ireturn, 1) := by decide +kernel
theorem dX7_weigh_22 : decode cX7_weigh 22 = .ok (.aload_n 0, 1) := by decide +kernel
theorem dX7_weigh_23 : decode cX7_weigh 23 = .ok (.getfield 40, 3) := by decide +kernel
theorem dX7_weigh_26 : decode cX7_weigh 26 = .ok (.iload_n 1, 1) := by decide +kernel
theorem dX7_weigh_27 : decode cX7_weigh 27 = .ok (.invokevirtual 229, 3) := by decide +kernel
theorem dX7_weigh_30 : decode cX7_weigh 30 = .ok (.ifCond .eq 6, 3) := by decide +kernel
theorem dX7_weigh_33 : decode cX7_weigh 33 = .ok (.ldc 213, 2) := by decide +kernel
theorem dX7_weigh_35 : decode cX7_weigh 35 = .ok (.ireturn, 1) := by decide +kernel
theorem dX7_weigh_36 : decode cX7_weigh 36 = .ok (.aload_n 0, 1) := by decide +kernel
theorem dX7_weigh_37 : decode cX7_weigh 37 = .ok (.getfield 40, 3) := by decide +kernel
theorem dX7_weigh_40 : decode cX7_weigh 40 = .ok (.invokevirtual 232, 3) := by decide +kernel
theorem dX7_weigh_43 : decode cX7_weigh 43 = .ok (.ifCond .eq 6, 3) := by decide +kernel
theorem dX7_weigh_46 : decode cX7_weigh 46 = .ok (.ldc 102, 2) := by decide +kernel
theorem dX7_weigh_48 : decode cX7_weigh 48 = .ok (.ireturn, 1) := by decide +kernel
theorem dX7_weigh_49 : decode cX7_weigh 49 = .ok (.aload_n 0, 1) := by decide +kernel
theorem dX7_weigh_50 : decode cX7_weigh 50 = .ok (.getfield 40, 3) := by decide +kernel
theorem dX7_weigh_53 : decode cX7_weigh 53 = .ok (.iload_n 1, 1) := by decide +kernel
theorem dX7_weigh_54 : decode cX7_weigh 54 = .ok (.iload_n 2, 1) := by decide +kernel
theorem dX7_weigh_55 : decode cX7_weigh 55 = .ok (.iload_n 3, 1) := by decide +kernel
theorem dX7_weigh_56 : decode cX7_weigh 56 = .ok (.invokevirtual 236, 3) := by decide +kernel
theorem dX7_weigh_59 : decode cX7_weigh 59 = .ok (.ireturn, 1) := by decide +kernel
theorem dX7_pair_0 : decode cX7_pair 0 = .ok (.aload_n 0, 1) := by decide +kernel
theorem dX7_pair_1 : decode cX7_pair 1 = .ok (.getfield 40, 3) := by decide +kernel
theorem dX7_pair_4 : decode cX7_pair 4 = .ok (.iload_n 1, 1) := by decide +kernel
theorem dX7_pair_5 : decode cX7_pair 5 = .ok (.invokevirtual 239, 3) := by decide +kernel
theorem dX7_pair_8 : decode cX7_pair 8 = .ok (.ifCond .eq 28, 3) := by decide +kernel
theorem dX7_pair_11 : decode cX7_pair 11 = .ok (.aload_n 0, 1) := by decide +kernel
theorem dX7_pair_12 : decode cX7_pair 12 = .ok (.getfield 40, 3) := by decide +kernel
theorem dX7_pair_15 : decode cX7_pair 15 = .ok (.iload_n 2, 1) := by decide +kernel
theorem dX7_pair_16 : decode cX7_pair 16 = .ok (.invokevirtual 239, 3) := by decide +kernel
theorem dX7_pair_19 : decode cX7_pair 19 = .ok (.ifCond .eq 17, 3) := by decide +kernel
theorem dX7_pair_22 : decode cX7_pair 22 = .ok (.iload_n 1, 1) := by decide +kernel
theorem dX7_pair_23 : decode cX7_pair 23 = .ok (.iload_n 2, 1) := by decide +kernel
theorem dX7_pair_24 : decode cX7_pair 24 = .ok (.if_icmp .eq 12, 3) := by decide +kernel
theorem dX7_pair_27 : decode cX7_pair 27 = .ok (.iload_n 3, 1) := by decide +kernel
theorem dX7_pair_28 : decode cX7_pair 28 = .ok (.iload 4, 2) := by decide +kernel
theorem dX7_pair_30 : decode cX7_pair 30 = .ok (.invokestatic 226, 3) := by decide +kernel
theorem dX7_pair_33 : decode cX7_pair 33 = .ok (.ifCond .ne 6, 3) := by decide +kernel
theorem dX7_pair_36 : decode cX7_pair 36 = .ok (.ldc 66, 2) := by decide +kernel
theorem dX7_pair_38 : decode cX7_pair 38 = .ok (.ireturn, 1) := by decide +kernel
theorem dX7_pair_39 : decode cX7_pair 39 = .ok (.aload_n 0, 1) := by decide +kernel
theorem dX7_pair_40 : decode cX7_pair 40 = .ok (.getfield 40, 3) := by decide +kernel
theorem dX7_pair_43 : decode cX7_pair 43 = .ok (.iload_n 1, 1) := by decide +kernel
theorem dX7_pair_44 : decode cX7_pair 44 = .ok (.iload_n 2, 1) := by decide +kernel
theorem dX7_pair_45 : decode cX7_pair 45 = .ok (.iload_n 3, 1) := by decide +kernel
theorem dX7_pair_46 : decode cX7_pair 46 = .ok (.iload 4, 2) := by decide +kernel
theorem dX7_pair_48 : decode cX7_pair 48 = .ok (.invokevirtual 242, 3) := by decide +kernel
theorem dX7_pair_51 : decode cX7_pair 51 = .ok (.iconst 1, 1) := by decide +kernel
theorem dX7_pair_52 : decode cX7_pair 52 = .ok (.ireturn, 1) := by decide +kernel
theorem dX7_unweigh_0 : decode cX7_unweigh 0 = .ok (.aload_n 0, 1) := by decide +kernel
theorem dX7_unweigh_1 : decode cX7_unweigh 1 = .ok (.getfield 40, 3) := by decide +kernel
theorem dX7_unweigh_4 : decode cX7_unweigh 4 = .ok (.invokevirtual 246, 3) := by decide +kernel
theorem dX7_unweigh_7 : decode cX7_unweigh 7 = .ok (.ireturn, 1) := by decide +kernel
theorem dX7_agree_0 : decode cX7_agree 0 = .ok (.aload_n 0, 1) := by decide +kernel
theorem dX7_agree_1 : decode cX7_agree 1 = .ok (.getfield 40, 3) := by decide +kernel
theorem dX7_agree_4 : decode cX7_agree 4 = .ok (.iconst 0, 1) := by decide +kernel
theorem dX7_agree_5 : decode cX7_agree 5 = .ok (.invokevirtual 249, 3) := by decide +kernel
theorem dX7_agree_8 : decode cX7_agree 8 = .ok (.ifCond .eq 7, 3) := by decide +kernel
theorem dX7_agree_11 : decode cX7_agree 11 = .ok (.iconst 1, 1) := by decide +kernel
theorem dX7_agree_12 : decode cX7_agree 12 = .ok (.goto 4, 3) := by decide +kernel
theorem dX7_agree_15 : decode cX7_agree 15 = .ok (.iconst 0, 1) := by decide +kernel
theorem dX7_agree_16 : decode cX7_agree 16 = .ok (.ireturn, 1) := by decide +kernel
theorem dX7_odds_0 : decode cX7_odds 0 = .ok (.aload_n 0, 1) := by decide +kernel
theorem dX7_odds_1 : decode cX7_odds 1 = .ok (.getfield 26, 3) := by decide +kernel
theorem dX7_odds_4 : decode cX7_odds 4 = .ok (.iload_n 1, 1) := by decide +kernel
theorem dX7_odds_5 : decode cX7_odds 5 = .ok (.invokevirtual 128, 3) := by decide +kernel
theorem dX7_odds_8 : decode cX7_odds 8 = .ok (.ifCond .eq 12, 3) := by decide +kernel
theorem dX7_odds_11 : decode cX7_odds 11 = .ok (.iload_n 2, 1) := by decide +kernel
theorem dX7_odds_12 : decode cX7_odds 12 = .ok (.iconst 0, 1) := by decide +kernel
theorem dX7_odds_13 : decode cX7_odds 13 = .ok (.iconst 3, 1) := by decide +kernel
theorem dX7_odds_14 : decode cX7_odds 14 = .ok (.invokestatic 62, 3) := by decide +kernel
theorem dX7_odds_17 : decode cX7_odds 17 = .ok (.ifCond .ne 6, 3) := by decide +kernel
theorem dX7_odds_20 : decode cX7_odds 20 = .ok (.ldc 66, 2) := by decide +kernel
theorem dX7_odds_22 : decode cX7_odds 22 = .ok (.ireturn, 1) := by decide +kernel
theorem dX7_odds_23 : decode cX7_odds 23 = .ok (.aload_n 0, 1) := by decide +kernel
theorem dX7_odds_24 : decode cX7_odds 24 = .ok (.getfield 40, 3) := by decide +kernel
theorem dX7_odds_27 : decode cX7_odds 27 = .ok (.aload_n 0, 1) := by decide +kernel
theorem dX7_odds_28 : decode cX7_odds 28 = .ok (.getfield 26, 3) := by decide +kernel
theorem dX7_odds_31 : decode cX7_odds 31 = .ok (.iload_n 1, 1) := by decide +kernel
theorem dX7_odds_32 : decode cX7_odds 32 = .ok (.invokevirtual 252, 3) := by decide +kernel
theorem dX7_odds_35 : decode cX7_odds 35 = .ok (.istore_n 3, 1) := by decide +kernel
theorem dX7_odds_36 : decode cX7_odds 36 = .ok (.iload_n 2, 1) := by decide +kernel
theorem dX7_odds_37 : decode cX7_odds 37 = .ok (.iconst 2, 1) := by decide +kernel
theorem dX7_odds_38 : decode cX7_odds 38 = .ok (.if_icmp .ge 14, 3) := by decide +kernel
theorem dX7_odds_41 : decode cX7_odds 41 = .ok (.aload_n 0, 1) := by decide +kernel
theorem dX7_odds_42 : decode cX7_odds 42 = .ok (.getfield 40, 3) := by decide +kernel
theorem dX7_odds_45 : decode cX7_odds 45 = .ok (.iload_n 3, 1) := by decide +kernel
theorem dX7_odds_46 : decode cX7_odds 46 = .ok (.invokevirtual 249, 3) := by decide +kernel
theorem dX7_odds_49 : decode cX7_odds 49 = .ok (.goto 11, 3) := by decide +kernel
theorem dX7_odds_52 : decode cX7_odds 52 = .ok (.aload_n 0, 1) := by decide +kernel
theorem dX7_odds_53 : decode cX7_odds 53 = .ok (.getfield 40, 3) := by decide +kernel
theorem dX7_odds_56 : decode cX7_odds 56 = .ok (.iload_n 3, 1) := by decide +kernel
theorem dX7_odds_57 : decode cX7_odds 57 = .ok (.invokevirtual 256, 3) := by decide +kernel
theorem dX7_odds_60 : decode cX7_odds 60 = .ok (.istore 4, 2) := by decide +kernel
theorem dX7_odds_62 : decode cX7_odds 62 = .ok (.iload 4, 2) := by decide +kernel
theorem dX7_odds_64 : decode cX7_odds 64 = .ok (.ifCond .ne 6, 3) := by decide +kernel
theorem dX7_odds_67 : decode cX7_odds 67 = .ok (.ldc 213, 2) := by decide +kernel
theorem dX7_odds_69 : decode cX7_odds 69 = .ok (.ireturn, 1) := by decide +kernel
theorem dX7_odds_70 : decode cX7_odds 70 = .ok (.iload_n 2, 1) := by decide +kernel
theorem dX7_odds_71 : decode cX7_odds 71 = .ok (.iconst 2, 1) := by decide +kernel
theorem dX7_odds_72 : decode cX7_odds 72 = .ok (.irem, 1) := by decide +kernel
theorem dX7_odds_73 : decode cX7_odds 73 = .ok (.ifCond .ne 13, 3) := by decide +kernel
theorem dX7_odds_76 : decode cX7_odds 76 = .ok (.aload_n 0, 1) := by decide +kernel
theorem dX7_odds_77 : decode cX7_odds 77 = .ok (.getfield 40, 3) := by decide +kernel
theorem dX7_odds_80 : decode cX7_odds 80 = .ok (.getfield 259, 3) := by decide +kernel
theorem dX7_odds_83 : decode cX7_odds 83 = .ok (.goto 10, 3) := by decide +kernel
theorem dX7_odds_86 : decode cX7_odds 86 = .ok (.aload_n 0, 1) := by decide +kernel
theorem dX7_odds_87 : decode cX7_odds 87 = .ok (.getfield 40, 3) := by decide +kernel
theorem dX7_odds_90 : decode cX7_odds 90 = .ok (.getfield 263, 3) := by decide +kernel
theorem dX7_odds_93 : decode cX7_odds 93 = .ok (.l2i, 1) := by decide +kernel
theorem dX7_odds_94 : decode cX7_odds 94 = .ok (.ireturn, 1) := by decide +kernel
theorem dX7_raise_0 : decode cX7_raise 0 = .ok (.aload_n 0, 1) := by decide +kernel
theorem dX7_raise_1 : decode cX7_raise 1 = .ok (.getfield 26, 3) := by decide +kernel
theorem dX7_raise_4 : decode cX7_raise 4 = .ok (.iload_n 1, 1) := by decide +kernel
theorem dX7_raise_5 : decode cX7_raise 5 = .ok (.invokevirtual 128, 3) := by decide +kernel
theorem dX7_raise_8 : decode cX7_raise 8 = .ok (.ifCond .ne 6, 3) := by decide +kernel
theorem dX7_raise_11 : decode cX7_raise 11 = .ok (.ldc 66, 2) := by decide +kernel
theorem dX7_raise_13 : decode cX7_raise 13 = .ok (.ireturn, 1) := by decide +kernel
theorem dX7_raise_14 : decode cX7_raise 14 = .ok (.aload_n 0, 1) := by decide +kernel
theorem dX7_raise_15 : decode cX7_raise 15 = .ok (.getfield 40, 3) := by decide +kernel
theorem dX7_raise_18 : decode cX7_raise 18 = .ok (.aload_n 0, 1) := by decide +kernel
theorem dX7_raise_19 : decode cX7_raise 19 = .ok (.getfield 26, 3) := by decide +kernel
theorem dX7_raise_22 : decode cX7_raise 22 = .ok (.iload_n 1, 1) := by decide +kernel
theorem dX7_raise_23 : decode cX7_raise 23 = .ok (.invokevirtual 252, 3) := by decide +kernel
theorem dX7_raise_26 : decode cX7_raise 26 = .ok (.istore_n 2, 1) := by decide +kernel
theorem dX7_raise_27 : decode cX7_raise 27 = .ok (.aload_n 0, 1) := by decide +kernel
theorem dX7_raise_28 : decode cX7_raise 28 = .ok (.getfield 40, 3) := by decide +kernel
theorem dX7_raise_31 : decode cX7_raise 31 = .ok (.iload_n 2, 1) := by decide +kernel
theorem dX7_raise_32 : decode cX7_raise 32 = .ok (.invokevirtual 249, 3) := by decide +kernel
theorem dX7_raise_35 : decode cX7_raise 35 = .ok (.ifCond .ne 6, 3) := by decide +kernel
theorem dX7_raise_38 : decode cX7_raise 38 = .ok (.ldc 213, 2) := by decide +kernel
theorem dX7_raise_40 : decode cX7_raise 40 = .ok (.ireturn, 1) := by decide +kernel
theorem dX7_raise_41 : decode cX7_raise 41 = .ok (.aload_n 0, 1) := by decide +kernel
theorem dX7_raise_42 : decode cX7_raise 42 = .ok (.getfield 40, 3) := by decide +kernel
theorem dX7_raise_45 : decode cX7_raise 45 = .ok (.iload_n 2, 1) := by decide +kernel
theorem dX7_raise_46 : decode cX7_raise 46 = .ok (.invokevirtual 266, 3) := by decide +kernel
theorem dX7_raise_49 : decode cX7_raise 49 = .ok (.istore_n 3, 1) := by decide +kernel
theorem dX7_raise_50 : decode cX7_raise 50 = .ok (.iload_n 3, 1) := by decide +kernel
theorem dX7_raise_51 : decode cX7_raise 51 = .ok (.ifCond .ge 8, 3) := by decide +kernel
theorem dX7_raise_54 : decode cX7_raise 54 = .ok (.ldc 135, 2) := by decide +kernel
theorem dX7_raise_56 : decode cX7_raise 56 = .ok (.goto 12, 3) := by decide +kernel
theorem dX7_raise_59 : decode cX7_raise 59 = .ok (.aload_n 0, 1) := by decide +kernel
theorem dX7_raise_60 : decode cX7_raise 60 = .ok (.getfield 40, 3) := by decide +kernel
theorem dX7_raise_63 : decode cX7_raise 63 = .ok (.getfield 269, 3) := by decide +kernel
theorem dX7_raise_66 : decode cX7_raise 66 = .ok (.iload_n 3, 1) := by decide +kernel
theorem dX7_raise_67 : decode cX7_raise 67 = .ok (.iaload, 1) := by decide +kernel
theorem dX7_raise_68 : decode cX7_raise 68 = .ok (.ireturn, 1) := by decide +kernel
theorem dX7_kind_0 : decode cX7_kind 0 = .ok (.aload_n 0, 1) := by decide +kernel
theorem dX7_kind_1 : decode cX7_kind 1 = .ok (.getfield 26, 3) := by decide +kernel
theorem dX7_kind_4 : decode cX7_kind 4 = .ok (.iload_n 1, 1) := by decide +kernel
theorem dX7_kind_5 : decode cX7_kind 5 = .ok (.invokevirtual 125, 3) := by decide +kernel
theorem dX7_kind_8 : decode cX7_kind 8 = .ok (.ifCond .ne 6, 3) := by decide +kernel
theorem dX7_kind_11 : decode cX7_kind 11 = .ok (.ldc 66, 2) := by decide +kernel
theorem dX7_kind_13 : decode cX7_kind 13 = .ok (.ireturn, 1) := by decide +kernel
theorem dX7_kind_14 : decode cX7_kind 14 = .ok (.aload_n 0, 1) := by decide +kernel
theorem dX7_kind_15 : decode cX7_kind 15 = .ok (.getfield 26, 3) := by decide +kernel
theorem dX7_kind_18 : decode cX7_kind 18 = .ok (.iload_n 1, 1) := by decide +kernel
theorem dX7_kind_19 : decode cX7_kind 19 = .ok (.invokevirtual 272, 3) := by decide +kernel
theorem dX7_kind_22 : decode cX7_kind 22 = .ok (.ireturn, 1) := by decide +kernel
theorem dX7_as_0 : decode cX7_as 0 = .ok (.aload_n 0, 1) := by decide +kernel
theorem dX7_as_1 : decode cX7_as 1 = .ok (.getfield 26, 3) := by decide +kernel
theorem dX7_as_4 : decode cX7_as 4 = .ok (.iload_n 1, 1) := by decide +kernel
theorem dX7_as_5 : decode cX7_as 5 = .ok (.invokevirtual 125, 3) := by decide +kernel
theorem dX7_as_8 : decode cX7_as 8 = .ok (.ifCond .eq 12, 3) := by decide +kernel
theorem dX7_as_11 : decode cX7_as 11 = .ok (.iload_n 2, 1) := by decide +kernel
theorem dX7_as_12 : decode cX7_as 12 = .ok (.iconst 0, 1) := by decide +kernel
theorem dX7_as_13 : decode cX7_as 13 = .ok (.iconst 5, 1) := by decide +kernel
theorem dX7_as_14 : decode cX7_as 14 = .ok (.invokestatic 62, 3) := by decide +kernel
theorem dX7_as_17 : decode cX7_as 17 = .ok (.ifCond .ne 6, 3) := by decide +kernel
theorem dX7_as_20 : decode cX7_as 20 = .ok (.ldc 66, 2) := by decide +kernel
theorem dX7_as_22 : decode cX7_as 22 = .ok (.ireturn, 1) := by decide +kernel
theorem dX7_as_23 : decode cX7_as 23 = .ok (.aload_n 0, 1) := by decide +kernel
theorem dX7_as_24 : decode cX7_as 24 = .ok (.getfield 26, 3) := by decide +kernel
theorem dX7_as_27 : decode cX7_as 27 = .ok (.iload_n 1, 1) := by decide +kernel
theorem dX7_as_28 : decode cX7_as 28 = .ok (.iload_n 2, 1) := by decide +kernel
theorem dX7_as_29 : decode cX7_as 29 = .ok (.invokevirtual 275, 3) := by decide +kernel
theorem dX7_as_32 : decode cX7_as 32 = .ok (.ifCond .ne 9, 3) := by decide +kernel
theorem dX7_as_35 : decode cX7_as 35 = .ok (.aload_n 0, 1) := by decide +kernel
theorem dX7_as_36 : decode cX7_as 36 = .ok (.iconst 3, 1) := by decide +kernel
theorem dX7_as_37 : decode cX7_as 37 = .ok (.invokevirtual 67, 3) := by decide +kernel
theorem dX7_as_40 : decode cX7_as 40 = .ok (.ireturn, 1) := by decide +kernel
theorem dX7_as_41 : decode cX7_as 41 = .ok (.aload_n 0, 1) := by decide +kernel
theorem dX7_as_42 : decode cX7_as 42 = .ok (.iload_n 1, 1) := by decide +kernel
theorem dX7_as_43 : decode cX7_as 43 = .ok (.invokevirtual 75, 3) := by decide +kernel
theorem dX7_as_46 : decode cX7_as 46 = .ok (.ireturn, 1) := by decide +kernel
theorem dX7_ask_0 : decode cX7_ask 0 = .ok (.aload_n 0, 1) := by decide +kernel
theorem dX7_ask_1 : decode cX7_ask 1 = .ok (.getfield 26, 3) := by decide +kernel
theorem dX7_ask_4 : decode cX7_ask 4 = .ok (.iload_n 1, 1) := by decide +kernel
theorem dX7_ask_5 : decode cX7_ask 5 = .ok (.invokevirtual 125, 3) := by decide +kernel
theorem dX7_ask_8 : decode cX7_ask 8 = .ok (.ifCond .eq 12, 3) := by decide +kernel
theorem dX7_ask_11 : decode cX7_ask 11 = .ok (.iload_n 2, 1) := by decide +kernel
theorem dX7_ask_12 : decode cX7_ask 12 = .ok (.iconst 0, 1) := by decide +kernel
theorem dX7_ask_13 : decode cX7_ask 13 = .ok (.iconst 1, 1) := by decide +kernel
theorem dX7_ask_14 : decode cX7_ask 14 = .ok (.invokestatic 62, 3) := by decide +kernel
theorem dX7_ask_17 : decode cX7_ask 17 = .ok (.ifCond .ne 6, 3) := by decide +kernel
theorem dX7_ask_20 : decode cX7_ask 20 = .ok (.ldc 66, 2) := by decide +kernel
theorem dX7_ask_22 : decode cX7_ask 22 = .ok (.ireturn, 1) := by decide +kernel
theorem dX7_ask_23 : decode cX7_ask 23 = .ok (.aload_n 0, 1) := by decide +kernel
theorem dX7_ask_24 : decode cX7_ask 24 = .ok (.getfield 47, 3) := by decide +kernel
theorem dX7_ask_27 : decode cX7_ask 27 = .ok (.aload_n 0, 1) := by decide +kernel
theorem dX7_ask_28 : decode cX7_ask 28 = .ok (.getfield 26, 3) := by decide +kernel
theorem dX7_ask_31 : decode cX7_ask 31 = .ok (.invokevirtual 148, 3) := by decide +kernel
theorem dX7_ask_34 : decode cX7_ask 34 = .ok (.invokevirtual 278, 3) := by decide +kernel
theorem dX7_ask_37 : decode cX7_ask 37 = .ok (.iload_n 2, 1) := by decide +kernel
theorem dX7_ask_38 : decode cX7_ask 38 = .ok (.ifCond .ne 18, 3) := by decide +kernel
theorem dX7_ask_41 : decode cX7_ask 41 = .ok (.aload_n 0, 1) := by decide +kernel
theorem dX7_ask_42 : decode cX7_ask 42 = .ok (.getfield 47, 3) := by decide +kernel
theorem dX7_ask_45 : decode cX7_ask 45 = .ok (.aload_n 0, 1) := by decide +kernel
theorem dX7_ask_46 : decode cX7_ask 46 = .ok (.getfield 26, 3) := by decide +kernel
theorem dX7_ask_49 : decode cX7_ask 49 = .ok (.iload_n 1, 1) := by decide +kernel
theorem dX7_ask_50 : decode cX7_ask 50 = .ok (.invokevirtual 282, 3) := by decide +kernel
theorem dX7_ask_53 : decode cX7_ask 53 = .ok (.goto 15, 3) := by decide +kernel
theorem dX7_ask_56 : decode cX7_ask 56 = .ok (.aload_n 0, 1) := by decide +kernel
theorem dX7_ask_57 : decode cX7_ask 57 = .ok (.getfield 47, 3) := by decide +kernel
theorem dX7_ask_60 : decode cX7_ask 60 = .ok (.aload_n 0, 1) := by decide +kernel
theorem dX7_ask_61 : decode cX7_ask 61 = .ok (.getfield 26, 3) := by decide +kernel
theorem dX7_ask_64 : decode cX7_ask 64 = .ok (.iload_n 1, 1) := by decide +kernel
theorem dX7_ask_65 : decode cX7_ask 65 = .ok (.invokevirtual 285, 3) := by decide +kernel
theorem dX7_ask_68 : decode cX7_ask 68 = .ok (.ireturn, 1) := by decide +kernel
theorem dX7_trace_0 : decode cX7_trace 0 = .ok (.iload_n 1, 1) := by decide +kernel
theorem dX7_trace_1 : decode cX7_trace 1 = .ok (.iconst 0, 1) := by decide +kernel
theorem dX7_trace_2 : decode cX7_trace 2 = .ok (.aload_n 0, 1) := by decide +kernel
theorem dX7_trace_3 : decode cX7_trace 3 = .ok (.getfield 47, 3) := by decide +kernel
theorem dX7_trace_6 : decode cX7_trace 6 = .ok (.getfield 288, 3) := by decide +kernel
theorem dX7_trace_9 : decode cX7_trace 9 = .ok (.iconst 1, 1) := by decide +kernel
theorem dX7_trace_10 : decode cX7_trace 10 = .ok (.isub, 1) := by decide +kernel
theorem dX7_trace_11 : decode cX7_trace 11 = .ok (.invokestatic 62, 3) := by decide +kernel
theorem dX7_trace_14 : decode cX7_trace 14 = .ok (.ifCond .eq 15, 3) := by decide +kernel
theorem dX7_trace_17 : decode cX7_trace 17 = .ok (.aload_n 0, 1) := by decide +kernel
theorem dX7_trace_18 : decode cX7_trace 18 = .ok (.getfield 47, 3) := by decide +kernel
theorem dX7_trace_21 : decode cX7_trace 21 = .ok (.getfield 291, 3) := by decide +kernel
theorem dX7_trace_24 : decode cX7_trace 24 = .ok (.iload_n 1, 1) := by decide +kernel
theorem dX7_trace_25 : decode cX7_trace 25 = .ok (.iaload, 1) := by decide +kernel
theorem dX7_trace_26 : decode cX7_trace 26 = .ok (.goto 5, 3) := by decide +kernel
theorem dX7_trace_29 : decode cX7_trace 29 = .ok (.ldc 135, 2) := by decide +kernel
theorem dX7_trace_31 : decode cX7_trace 31 = .ok (.ireturn, 1) := by decide +kernel
theorem dX7_count_0 : decode cX7_count 0 = .ok (.iload_n 1, 1) := by decide +kernel
theorem dX7_count_1 : decode cX7_count 1 = .ok (.tableswitch 128 0 7 #[47, 55, 63, 74, 82, 91, 112, 120], 47) := by decide +kernel
theorem dX7_count_48 : decode cX7_count 48 = .ok (.aload_n 0, 1) := by decide +kernel
theorem dX7_count_49 : decode cX7_count 49 = .ok (.getfield 10, 3) := by decide +kernel
theorem dX7_count_52 : decode cX7_count 52 = .ok (.invokevirtual 294, 3) := by decide +kernel
theorem dX7_count_55 : decode cX7_count 55 = .ok (.ireturn, 1) := by decide +kernel
theorem dX7_count_56 : decode cX7_count 56 = .ok (.aload_n 0, 1) := by decide +kernel
theorem dX7_count_57 : decode cX7_count 57 = .ok (.getfield 26, 3) := by decide +kernel
theorem dX7_count_60 : decode cX7_count 60 = .ok (.getfield 107, 3) := by decide +kernel
theorem dX7_count_63 : decode cX7_count 63 = .ok (.ireturn, 1) := by decide +kernel
theorem dX7_count_64 : decode cX7_count 64 = .ok (.aload_n 0, 1) := by decide +kernel
theorem dX7_count_65 : decode cX7_count 65 = .ok (.getfield 26, 3) := by decide +kernel
theorem dX7_count_68 : decode cX7_count 68 = .ok (.invokevirtual 198, 3) := by decide +kernel
theorem dX7_count_71 : decode cX7_count 71 = .ok (.invokestatic 221, 3) := by decide +kernel
theorem dX7_count_74 : decode cX7_count 74 = .ok (.ireturn, 1) := by decide +kernel
theorem dX7_count_75 : decode cX7_count 75 = .ok (.aload_n 0, 1) := by decide +kernel
theorem dX7_count_76 : decode cX7_count 76 = .ok (.getfield 26, 3) := by decide +kernel
theorem dX7_count_79 : decode cX7_count 79 = .ok (.getfield 110, 3) := by decide +kernel
theorem dX7_count_82 : decode cX7_count 82 = .ok (.ireturn, 1) := by decide +kernel
theorem dX7_count_83 : decode cX7_count 83 = .ok (.aload_n 0, 1) := by decide +kernel
theorem dX7_count_84 : decode cX7_count 84 = .ok (.getfield 26, 3) := by decide +kernel
theorem dX7_count_87 : decode cX7_count 87 = .ok (.iconst 0, 1) := by decide +kernel
theorem dX7_count_88 : decode cX7_count 88 = .ok (.invokevirtual 183, 3) := by decide +kernel
theorem dX7_count_91 : decode cX7_count 91 = .ok (.ireturn, 1) := by decide +kernel
theorem dX7_count_92 : decode cX7_count 92 = .ok (.aload_n 0, 1) := by decide +kernel
theorem dX7_count_93 : decode cX7_count 93 = .ok (.getfield 26, 3) := by decide +kernel
theorem dX7_count_96 : decode cX7_count 96 = .ok (.invokevirtual 297, 3) := by decide +kernel
theorem dX7_count_99 : decode cX7_count 99 = .ok (.aload_n 0, 1) := by decide +kernel
theorem dX7_count_100 : decode cX7_count 100 = .ok (.getfield 26, 3) := by decide +kernel
theorem dX7_count_103 : decode cX7_count 103 = .ok (.invokevirtual 207, 3) := by decide +kernel
theorem dX7_count_106 : decode cX7_count 106 = .ok (.iconst (-1), 1) := by decide +kernel
theorem dX7_count_107 : decode cX7_count 107 = .ok (.ixor, 1) := by decide +kernel
theorem dX7_count_108 : decode cX7_count 108 = .ok (.iand, 1) := by decide +kernel
theorem dX7_count_109 : decode cX7_count 109 = .ok (.invokestatic 221, 3) := by decide +kernel
theorem dX7_count_112 : decode cX7_count 112 = .ok (.ireturn, 1) := by decide +kernel
theorem dX7_count_113 : decode cX7_count 113 = .ok (.aload_n 0, 1) := by decide +kernel
theorem dX7_count_114 : decode cX7_count 114 = .ok (.getfield 40, 3) := by decide +kernel
theorem dX7_count_117 : decode cX7_count 117 = .ok (.getfield 300, 3) := by decide +kernel
theorem dX7_count_120 : decode cX7_count 120 = .ok (.ireturn, 1) := by decide +kernel
theorem dX7_count_121 : decode cX7_count 121 = .ok (.aload_n 0, 1) := by decide +kernel
theorem dX7_count_122 : decode cX7_count 122 = .ok (.getfield 19, 3) := by decide +kernel
theorem dX7_count_125 : decode cX7_count 125 = .ok (.getfield 303, 3) := by decide +kernel
theorem dX7_count_128 : decode cX7_count 128 = .ok (.ireturn, 1) := by decide +kernel
theorem dX7_count_129 : decode cX7_count 129 = .ok (.ldc 66, 2) := by decide +kernel
theorem dX7_count_131 : decode cX7_count 131 = .ok (.ireturn, 1) := by decide +kernel
theorem dX7_status_0 : decode cX7_status 0 = .ok (.aload_n 0, 1) := by decide +kernel
theorem dX7_status_1 : decode cX7_status 1 = .ok (.getfield 55, 3) := by decide +kernel
theorem dX7_status_4 : decode cX7_status 4 = .ok (.ireturn, 1) := by decide +kernel
theorem dX7_found_0 : decode cX7_found 0 = .ok (.aload_n 0, 1) := by decide +kernel
theorem dX7_found_1 : decode cX7_found 1 = .ok (.iload_n 1, 1) := by decide +kernel
theorem dX7_found_2 : decode cX7_found 2 = .ok (.putfield 55, 3) := by decide +kernel
theorem dX7_found_5 : decode cX7_found 5 = .ok (.ldc_w 306, 3) := by decide +kernel
theorem dX7_found_8 : decode cX7_found 8 = .ok (.iload_n 1, 1) := by decide +kernel
theorem dX7_found_9 : decode cX7_found 9 = .ok (.isub, 1) := by decide +kernel
theorem dX7_found_10 : decode cX7_found 10 = .ok (.ireturn, 1) := by decide +kernel
theorem dX7_unfound_0 : decode cX7_unfound 0 = .ok (.aload_n 0, 1) := by decide +kernel
theorem dX7_unfound_1 : decode cX7_unfound 1 = .ok (.iconst 0, 1) := by decide +kernel
theorem dX7_unfound_2 : decode cX7_unfound 2 = .ok (.putfield 55, 3) := by decide +kernel
theorem dX7_unfound_5 : decode cX7_unfound 5 = .ok (.iload_n 1, 1) := by decide +kernel
theorem dX7_unfound_6 : decode cX7_unfound 6 = .ok (.ireturn, 1) := by decide +kernel
theorem dX7_isLook_0 : decode cX7_isLook 0 = .ok (.aload_n 0, 1) := by decide +kernel
theorem dX7_isLook_1 : decode cX7_isLook 1 = .ok (.getfield 26, 3) := by decide +kernel
theorem dX7_isLook_4 : decode cX7_isLook 4 = .ok (.aload_n 0, 1) := by decide +kernel
theorem dX7_isLook_5 : decode cX7_isLook 5 = .ok (.getfield 10, 3) := by decide +kernel
theorem dX7_isLook_8 : decode cX7_isLook 8 = .ok (.iload_n 1, 1) := by decide +kernel
theorem dX7_isLook_9 : decode cX7_isLook 9 = .ok (.iload_n 2, 1) := by decide +kernel
theorem dX7_isLook_10 : decode cX7_isLook 10 = .ok (.invokevirtual 307, 3) := by decide +kernel
theorem dX7_isLook_13 : decode cX7_isLook 13 = .ok (.invokevirtual 192, 3) := by decide +kernel
theorem dX7_isLook_16 : decode cX7_isLook 16 = .ok (.ifCond .eq 49, 3) := by decide +kernel
theorem dX7_isLook_19 : decode cX7_isLook 19 = .ok (.aload_n 0, 1) := by decide +kernel
theorem dX7_isLook_20 : decode cX7_isLook 20 = .ok (.getfield 10, 3) := by decide +kernel
theorem dX7_isLook_23 : decode cX7_isLook 23 = .ok (.iload_n 1, 1) := by decide +kernel
theorem dX7_isLook_24 : decode cX7_isLook 24 = .ok (.iload_n 2, 1) := by decide +kernel
theorem dX7_isLook_25 : decode cX7_isLook 25 = .ok (.iconst 1, 1) := by decide +kernel
theorem dX7_isLook_26 : decode cX7_isLook 26 = .ok (.iadd, 1) := by decide +kernel
theorem dX7_isLook_27 : decode cX7_isLook 27 = .ok (.invokevirtual 307, 3) := by decide +kernel
theorem dX7_isLook_30 : decode cX7_isLook 30 = .ok (.iconst 0, 1) := by decide +kernel
theorem dX7_isLook_31 : decode cX7_isLook 31 = .ok (.sipush 9999, 3) := by decide +kernel
theorem dX7_isLook_34 : decode cX7_isLook 34 = .ok (.invokestatic 62, 3) := by decide +kernel
theorem dX7_isLook_37 : decode cX7_isLook 37 = .ok (.ifCond .eq 28, 3) := by decide +kernel
theorem dX7_isLook_40 : decode cX7_isLook 40 = .ok (.aload_n 0, 1) := by decide +kernel
theorem dX7_isLook_41 : decode cX7_isLook 41 = .ok (.getfield 10, 3) := by decide +kernel
theorem dX7_isLook_44 : decode cX7_isLook 44 = .ok (.iload_n 1, 1) := by decide +kernel
theorem dX7_isLook_45 : decode cX7_isLook 45 = .ok (.iload_n 2, 1) := by decide +kernel
theorem dX7_isLook_46 : decode cX7_isLook 46 = .ok (.iconst 2, 1) := by decide +kernel
theorem dX7_isLook_47 : decode cX7_isLook 47 = .ok (.iadd, 1) := by decide +kernel
theorem dX7_isLook_48 : decode cX7_isLook 48 = .ok (.invokevirtual 307, 3) := by decide +kernel
theorem dX7_isLook_51 : decode cX7_isLook 51 = .ok (.iconst 0, 1) := by decide +kernel
theorem dX7_isLook_52 : decode cX7_isLook 52 = .ok (.sipush 9999, 3) := by decide +kernel
theorem dX7_isLook_55 : decode cX7_isLook 55 = .ok (.invokestatic 62, 3) := by decide +kernel
theorem dX7_isLook_58 : decode cX7_isLook 58 = .ok (.ifCond .eq 7, 3) := by decide +kernel
theorem dX7_isLook_61 : decode cX7_isLook 61 = .ok (.iconst 1, 1) := by decide +kernel
theorem dX7_isLook_62 : decode cX7_isLook 62 = .ok (.goto 4, 3) := by decide +kernel
theorem dX7_isLook_65 : decode cX7_isLook 65 = .ok (.iconst 0, 1) := by decide +kernel
theorem dX7_isLook_66 : decode cX7_isLook 66 = .ok (.ireturn, 1) := by decide +kernel
theorem dX7_tellLook_0 : decode cX7_tellLook 0 = .ok (.aload_n 0, 1) := by decide +kernel
theorem dX7_tellLook_1 : decode cX7_tellLook 1 = .ok (.getfield 10, 3) := by decide +kernel
theorem dX7_tellLook_4 : decode cX7_tellLook 4 = .ok (.iload_n 1, 1) := by decide +kernel
theorem dX7_tellLook_5 : decode cX7_tellLook 5 = .ok (.iload_n 2, 1) := by decide +kernel
theorem dX7_tellLook_6 : decode cX7_tellLook 6 = .ok (.invokevirtual 307, 3) := by decide +kernel
theorem dX7_tellLook_9 : decode cX7_tellLook 9 = .ok (.istore_n 3, 1) := by decide +kernel
theorem dX7_tellLook_10 : decode cX7_tellLook 10 = .ok (.aload_n 0, 1) := by decide +kernel
theorem dX7_tellLook_11 : decode cX7_tellLook 11 = .ok (.getfield 26, 3) := by decide +kernel
theorem dX7_tellLook_14 : decode cX7_tellLook 14 = .ok (.iload_n 3, 1) := by decide +kernel
theorem dX7_tellLook_15 : decode cX7_tellLook 15 = .ok (.invokevirtual 192, 3) := by decide +kernel
theorem dX7_tellLook_18 : decode cX7_tellLook 18 = .ok (.ifCond .ne 4, 3) := by decide +kernel
theorem dX7_tellLook_21 : decode cX7_tellLook 21 = .ok (.return_, 1) := by decide +kernel
theorem dX7_tellLook_22 : decode cX7_tellLook 22 = .ok (.aload_n 0, 1) := by decide +kernel
theorem dX7_tellLook_23 : decode cX7_tellLook 23 = .ok (.getfield 26, 3) := by decide +kernel
theorem dX7_tellLook_26 : decode cX7_tellLook 26 = .ok (.getfield 139, 3) := by decide +kernel
theorem dX7_tellLook_29 : decode cX7_tellLook 29 = .ok (.iload_n 3, 1) := by decide +kernel
theorem dX7_tellLook_30 : decode cX7_tellLook 30 = .ok (.aload_n 0, 1) := by decide +kernel
theorem dX7_tellLook_31 : decode cX7_tellLook 31 = .ok (.getfield 10, 3) := by decide +kernel
theorem dX7_tellLook_34 : decode cX7_tellLook 34 = .ok (.iload_n 1, 1) := by decide +kernel
theorem dX7_tellLook_35 : decode cX7_tellLook 35 = .ok (.iload_n 2, 1) := by decide +kernel
theorem dX7_tellLook_36 : decode cX7_tellLook 36 = .ok (.iconst 1, 1) := by decide +kernel
theorem dX7_tellLook_37 : decode cX7_tellLook 37 = .ok (.iadd, 1) := by decide +kernel
theorem dX7_tellLook_38 : decode cX7_tellLook 38 = .ok (.invokevirtual 307, 3) := by decide +kernel
theorem dX7_tellLook_41 : decode cX7_tellLook 41 = .ok (.iastore, 1) := by decide +kernel
theorem dX7_tellLook_42 : decode cX7_tellLook 42 = .ok (.aload_n 0, 1) := by decide +kernel
theorem dX7_tellLook_43 : decode cX7_tellLook 43 = .ok (.getfield 26, 3) := by decide +kernel
theorem dX7_tellLook_46 : decode cX7_tellLook 46 = .ok (.getfield 142, 3) := by decide +kernel
theorem dX7_tellLook_49 : decode cX7_tellLook 49 = .ok (.iload_n 3, 1) := by decide +kernel
theorem dX7_tellLook_50 : decode cX7_tellLook 50 = .ok (.aload_n 0, 1) := by decide +kernel
theorem dX7_tellLook_51 : decode cX7_tellLook 51 = .ok (.getfield 10, 3) := by decide +kernel
theorem dX7_tellLook_54 : decode cX7_tellLook 54 = .ok (.iload_n 1, 1) := by decide +kernel
theorem dX7_tellLook_55 : decode cX7_tellLook 55 = .ok (.iload_n 2, 1) := by decide +kernel
theorem dX7_tellLook_56 : decode cX7_tellLook 56 = .ok (.iconst 2, 1) := by decide +kernel
theorem dX7_tellLook_57 : decode cX7_tellLook 57 = .ok (.iadd, 1) := by decide +kernel
theorem dX7_tellLook_58 : decode cX7_tellLook 58 = .ok (.invokevirtual 307, 3) := by decide +kernel
theorem dX7_tellLook_61 : decode cX7_tellLook 61 = .ok (.iastore, 1) := by decide +kernel
theorem dX7_tellLook_62 : decode cX7_tellLook 62 = .ok (.return_, 1) := by decide +kernel
theorem dX7_isWithin_0 : decode cX7_isWithin 0 = .ok (.iload_n 0, 1) := by decide +kernel
theorem dX7_isWithin_1 : decode cX7_isWithin 1 = .ok (.iload_n 1, 1) := by decide +kernel
theorem dX7_isWithin_2 : decode cX7_isWithin 2 = .ok (.if_icmp .lt 12, 3) := by decide +kernel
theorem dX7_isWithin_5 : decode cX7_isWithin 5 = .ok (.iload_n 0, 1) := by decide +kernel
theorem dX7_isWithin_6 : decode cX7_isWithin 6 = .ok (.iload_n 2, 1) := by decide +kernel
theorem dX7_isWithin_7 : decode cX7_isWithin 7 = .ok (.if_icmp .gt 7, 3) := by decide +kernel
theorem dX7_isWithin_10 : decode cX7_isWithin 10 = .ok (.iconst 1, 1) := by decide +kernel
theorem dX7_isWithin_11 : decode cX7_isWithin 11 = .ok (.goto 4, 3) := by decide +kernel
theorem dX7_isWithin_14 : decode cX7_isWithin 14 = .ok (.iconst 0, 1) := by decide +kernel
theorem dX7_isWithin_15 : decode cX7_isWithin 15 = .ok (.ireturn, 1) := by decide +kernel
theorem dX7_isSpan_0 : decode cX7_isSpan 0 = .ok (.iload_n 0, 1) := by decide +kernel
theorem dX7_isSpan_1 : decode cX7_isSpan 1 = .ok (.ifCond .lt 18, 3) := by decide +kernel
theorem dX7_isSpan_4 : decode cX7_isSpan 4 = .ok (.iload_n 0, 1) := by decide +kernel
theorem dX7_isSpan_5 : decode cX7_isSpan 5 = .ok (.iload_n 1, 1) := by decide +kernel
theorem dX7_isSpan_6 : decode cX7_isSpan 6 = .ok (.if_icmp .gt 13, 3) := by decide +kernel
theorem dX7_isSpan_9 : decode cX7_isSpan 9 = .ok (.iload_n 1, 1) := by decide +kernel
theorem dX7_isSpan_10 : decode cX7_isSpan 10 = .ok (.bipush 100, 2) := by decide +kernel
theorem dX7_isSpan_12 : decode cX7_isSpan 12 = .ok (.if_icmp .gt 7, 3) := by decide +kernel
theorem dX7_isSpan_15 : decode cX7_isSpan 15 = .ok (.iconst 1, 1) := by decide +kernel
theorem dX7_isSpan_16 : decode cX7_isSpan 16 = .ok (.goto 4, 3) := by decide +kernel
theorem dX7_isSpan_19 : decode cX7_isSpan 19 = .ok (.iconst 0, 1) := by decide +kernel
theorem dX7_isSpan_20 : decode cX7_isSpan 20 = .ok (.ireturn, 1) := by decide +kernel
theorem dX7_bitAt_0 : decode cX7_bitAt 0 = .ok (.iload_n 0, 1) := by decide +kernel
theorem dX7_bitAt_1 : decode cX7_bitAt 1 = .ok (.iload_n 1, 1) := by decide +kernel
theorem dX7_bitAt_2 : decode cX7_bitAt 2 = .ok (.ishr, 1) := by decide +kernel
theorem dX7_bitAt_3 : decode cX7_bitAt 3 = .ok (.iconst 1, 1) := by decide +kernel
theorem dX7_bitAt_4 : decode cX7_bitAt 4 = .ok (.iand, 1) := by decide +kernel
theorem dX7_bitAt_5 : decode cX7_bitAt 5 = .ok (.ireturn, 1) := by decide +kernel
theorem dX8_init_0 : decode cX8_init 0 = .ok (.aload_n 0, 1) := by decide +kernel
theorem dX8_init_1 : decode cX8_init 1 = .ok (.invokespecial 1, 3) := by decide +kernel
theorem dX8_init_4 : decode cX8_init 4 = .ok (.aload_n 0, 1) := by decide +kernel
theorem dX8_init_5 : decode cX8_init 5 = .ok (.bipush 8, 2) := by decide +kernel
theorem dX8_init_7 : decode cX8_init 7 = .ok (.newarray .int, 2) := by decide +kernel
theorem dX8_init_9 : decode cX8_init 9 = .ok (.dup, 1) := by decide +kernel
theorem dX8_init_10 : decode cX8_init 10 = .ok (.iconst 0, 1) := by decide +kernel
theorem dX8_init_11 : decode cX8_init 11 = .ok (.iconst (-1), 1) := by decide +kernel
theorem dX8_init_12 : decode cX8_init 12 = .ok (.iastore, 1) := by decide +kernel
theorem dX8_init_13 : decode cX8_init 13 = .ok (.dup, 1) := by decide +kernel
theorem dX8_init_14 : decode cX8_init 14 = .ok (.iconst 1, 1) := by decide +kernel
theorem dX8_init_15 : decode cX8_init 15 = .ok (.iconst (-1), 1) := by decide +kernel
theorem dX8_init_16 : decode cX8_init 16 = .ok (.iastore, 1) := by decide +kernel
theorem dX8_init_17 : decode cX8_init 17 = .ok (.dup, 1) := by decide +kernel
theorem dX8_init_18 : decode cX8_init 18 = .ok (.iconst 2, 1) := by decide +kernel
theorem dX8_init_19 : decode cX8_init 19 = .ok (.iconst (-1), 1) := by decide +kernel
theorem dX8_init_20 : decode cX8_init 20 = .ok (.iastore, 1) := by decide +kernel
theorem dX8_init_21 : decode cX8_init 21 = .ok (.dup, 1) := by decide +kernel
theorem dX8_init_22 : decode cX8_init 22 = .ok (.iconst 3, 1) := by decide +kernel
theorem dX8_init_23 : decode cX8_init 23 = .ok (.iconst (-1), 1) := by decide +kernel
theorem dX8_init_24 : decode cX8_init 24 = .ok (.iastore, 1) := by decide +kernel
theorem dX8_init_25 : decode cX8_init 25 = .ok (.dup, 1) := by decide +kernel
theorem dX8_init_26 : decode cX8_init 26 = .ok (.iconst 4, 1) := by decide +kernel
theorem dX8_init_27 : decode cX8_init 27 = .ok (.iconst (-1), 1) := by decide +kernel
theorem dX8_init_28 : decode cX8_init 28 = .ok (.iastore, 1) := by decide +kernel
theorem dX8_init_29 : decode cX8_init 29 = .ok (.dup, 1) := by decide +kernel
theorem dX8_init_30 : decode cX8_init 30 = .ok (.iconst 5, 1) := by decide +kernel
theorem dX8_init_31 : decode cX8_init 31 = .ok (.iconst (-1), 1) := by decide +kernel
theorem dX8_init_32 : decode cX8_init 32 = .ok (.iastore, 1) := by decide +kernel
theorem dX8_init_33 : decode cX8_init 33 = .ok (.dup, 1) := by decide +kernel
theorem dX8_init_34 : decode cX8_init 34 = .ok (.bipush 6, 2) := by decide +kernel
theorem dX8_init_36 : decode cX8_init 36 = .ok (.iconst (-1), 1) := by decide +kernel
theorem dX8_init_37 : decode cX8_init 37 = .ok (.iastore, 1) := by decide +kernel
theorem dX8_init_38 : decode cX8_init 38 = .ok (.dup, 1) := by decide +kernel
theorem dX8_init_39 : decode cX8_init 39 = .ok (.bipush 7, 2) := by decide +kernel
theorem dX8_init_41 : decode cX8_init 41 = .ok (.iconst (-1), 1) := by decide +kernel
theorem dX8_init_42 : decode cX8_init 42 = .ok (.iastore, 1) := by decide +kernel
theorem dX8_init_43 : decode cX8_init 43 = .ok (.putfield 7, 3) := by decide +kernel
theorem dX8_init_46 : decode cX8_init 46 = .ok (.aload_n 0, 1) := by decide +kernel
theorem dX8_init_47 : decode cX8_init 47 = .ok (.bipush 8, 2) := by decide +kernel
theorem dX8_init_49 : decode cX8_init 49 = .ok (.newarray .int, 2) := by decide +kernel
theorem dX8_init_51 : decode cX8_init 51 = .ok (.putfield 13, 3) := by decide +kernel
theorem dX8_init_54 : decode cX8_init 54 = .ok (.aload_n 0, 1) := by decide +kernel
theorem dX8_init_55 : decode cX8_init 55 = .ok (.sipush 320, 3) := by decide +kernel
theorem dX8_init_58 : decode cX8_init 58 = .ok (.newarray .int, 2) := by decide +kernel
theorem dX8_init_60 : decode cX8_init 60 = .ok (.putfield 16, 3) := by decide +kernel
theorem dX8_init_63 : decode cX8_init 63 = .ok (.aload_n 0, 1) := by decide +kernel
theorem dX8_init_64 : decode cX8_init 64 = .ok (.bipush 20, 2) := by decide +kernel
theorem dX8_init_66 : decode cX8_init 66 = .ok (.newarray .int, 2) := by decide +kernel
theorem dX8_init_68 : decode cX8_init 68 = .ok (.putfield 19, 3) := by decide +kernel
theorem dX8_init_71 : decode cX8_init 71 = .ok (.aload_n 0, 1) := by decide +kernel
theorem dX8_init_72 : decode cX8_init 72 = .ok (.bipush 20, 2) := by decide +kernel
theorem dX8_init_74 : decode cX8_init 74 = .ok (.newarray .int, 2) := by decide +kernel
theorem dX8_init_76 : decode cX8_init 76 = .ok (.putfield 22, 3) := by decide +kernel
theorem dX8_init_79 : decode cX8_init 79 = .ok (.aload_n 0, 1) := by decide +kernel
theorem dX8_init_80 : decode cX8_init 80 = .ok (.bipush 20, 2) := by decide +kernel
theorem dX8_init_82 : decode cX8_init 82 = .ok (.newarray .int, 2) := by decide +kernel
theorem dX8_init_84 : decode cX8_init 84 = .ok (.putfield 25, 3) := by decide +kernel
theorem dX8_init_87 : decode cX8_init 87 = .ok (.aload_n 0, 1) := by decide +kernel
theorem dX8_init_88 : decode cX8_init 88 = .ok (.bipush 20, 2) := by decide +kernel
theorem dX8_init_90 : decode cX8_init 90 = .ok (.newarray .int, 2) := by decide +kernel
theorem dX8_init_92 : decode cX8_init 92 = .ok (.putfield 28, 3) := by decide +kernel
theorem dX8_init_95 : decode cX8_init 95 = .ok (.aload_n 0, 1) := by decide +kernel
theorem dX8_init_96 : decode cX8_init 96 = .ok (.bipush 20, 2) := by decide +kernel
theorem dX8_init_98 : decode cX8_init 98 = .ok (.newarray .boolean, 2) := by decide +kernel
theorem dX8_init_100 : decode cX8_init 100 = .ok (.putfield 31, 3) := by decide +kernel
theorem dX8_init_103 : decode cX8_init 103 = .ok (.aload_n 0, 1) := by decide +kernel
theorem dX8_init_104 : decode cX8_init 104 = .ok (.bipush 16, 2) := by decide +kernel
theorem dX8_init_106 : decode cX8_init 106 = .ok (.newarray .int, 2) := by decide +kernel
theorem dX8_init_108 : decode cX8_init 108 = .ok (.putfield 35, 3) := by decide +kernel
theorem dX8_init_111 : decode cX8_init 111 = .ok (.aload_n 0, 1) := by decide +kernel
theorem dX8_init_112 : decode cX8_init 112 = .ok (.bipush 16, 2) := by decide +kernel
theorem dX8_init_114 : decode cX8_init 114 = .ok (.newarray .int, 2) := by decide +kernel
theorem dX8_init_116 : decode cX8_init 116 = .ok (.putfield 38, 3) := by decide +kernel
theorem dX8_init_119 : decode cX8_init 119 = .ok (.aload_n 0, 1) := by decide +kernel
theorem dX8_init_120 : decode cX8_init 120 = .ok (.bipush 16, 2) := by decide +kernel
theorem dX8_init_122 : decode cX8_init 122 = .ok (.newarray .int, 2) := by decide +kernel
theorem dX8_init_124 : decode cX8_init 124 = .ok (.putfield 41, 3) := by decide +kernel
theorem dX8_init_127 : decode cX8_init 127 = .ok (.aload_n 0, 1) := by decide +kernel
theorem dX8_init_128 : decode cX8_init 128 = .ok (.bipush 96, 2) := by decide +kernel
theorem dX8_init_130 : decode cX8_init 130 = .ok (.newarray .int, 2) := by decide +kernel
theorem dX8_init_132 : decode cX8_init 132 = .ok (.putfield 44, 3) := by decide +kernel
theorem dX8_init_135 : decode cX8_init 135 = .ok (.aload_n 0, 1) := by decide +kernel
theorem dX8_init_136 : decode cX8_init 136 = .ok (.bipush 48, 2) := by decide +kernel
theorem dX8_init_138 : decode cX8_init 138 = .ok (.newarray .int, 2) := by decide +kernel
theorem dX8_init_140 : decode cX8_init 140 = .ok (.putfield 47, 3) := by decide +kernel
theorem dX8_init_143 : decode cX8_init 143 = .ok (.aload_n 0, 1) := by decide +kernel
theorem dX8_init_144 : decode cX8_init 144 = .ok (.sipush 400, 3) := by decide +kernel
theorem dX8_init_147 : decode cX8_init 147 = .ok (.newarray .int, 2) := by decide +kernel
theorem dX8_init_149 : decode cX8_init 149 = .ok (.putfield 50, 3) := by decide +kernel
theorem dX8_init_152 : decode cX8_init 152 = .ok (.aload_n 0, 1) := by decide +kernel
theorem dX8_init_153 : decode cX8_init 153 = .ok (.iconst 3, 1) := by decide +kernel
theorem dX8_init_154 : decode cX8_init 154 = .ok (.newarray .int, 2) := by decide +kernel
theorem dX8_init_156 : decode cX8_init 156 = .ok (.putfield 53, 3) := by decide +kernel
theorem dX8_init_159 : decode cX8_init 159 = .ok (.aload_n 0, 1) := by decide +kernel
theorem dX8_init_160 : decode cX8_init 160 = .ok (.bipush 6, 2) := by decide +kernel
theorem dX8_init_162 : decode cX8_init 162 = .ok (.newarray .boolean, 2) := by decide +kernel
theorem dX8_init_164 : decode cX8_init 164 = .ok (.putfield 56, 3) := by decide +kernel
theorem dX8_init_167 : decode cX8_init 167 = .ok (.aload_n 0, 1) := by decide +kernel
theorem dX8_init_168 : decode cX8_init 168 = .ok (.bipush 6, 2) := by decide +kernel
theorem dX8_init_170 : decode cX8_init 170 = .ok (.newarray .int, 2) := by decide +kernel
theorem dX8_init_172 : decode cX8_init 172 = .ok (.putfield 59, 3) := by decide +kernel
theorem dX8_init_175 : decode cX8_init 175 = .ok (.aload_n 0, 1) := by decide +kernel
theorem dX8_init_176 : decode cX8_init 176 = .ok (.bipush 6, 2) := by decide +kernel
theorem dX8_init_178 : decode cX8_init 178 = .ok (.newarray .int, 2) := by decide +kernel
theorem dX8_init_180 : decode cX8_init 180 = .ok (.putfield 62, 3) := by decide +kernel
theorem dX8_init_183 : decode cX8_init 183 = .ok (.aload_n 0, 1) := by decide +kernel
theorem dX8_init_184 : decode cX8_init 184 = .ok (.bipush 112, 2) := by decide +kernel
theorem dX8_init_186 : decode cX8_init 186 = .ok (.newarray .long, 2) := by decide +kernel
theorem dX8_init_188 : decode cX8_init 188 = .ok (.putfield 65, 3) := by decide +kernel
theorem dX8_init_191 : decode cX8_init 191 = .ok (.aload_n 0, 1) := by decide +kernel
theorem dX8_init_192 : decode cX8_init 192 = .ok (.bipush 14, 2) := by decide +kernel
theorem dX8_init_194 : decode cX8_init 194 = .ok (.newarray .int, 2) := by decide +kernel
theorem dX8_init_196 : decode cX8_init 196 = .ok (.putfield 69, 3) := by decide +kernel
theorem dX8_init_199 : decode cX8_init 199 = .ok (.aload_n 0, 1) := by decide +kernel
theorem dX8_init_200 : decode cX8_init 200 = .ok (.bipush 8, 2) := by decide +kernel
theorem dX8_init_202 : decode cX8_init 202 = .ok (.newarray .int, 2) := by decide +kernel
theorem dX8_init_204 : decode cX8_init 204 = .ok (.putfield 72, 3) := by decide +kernel
theorem dX8_init_207 : decode cX8_init 207 = .ok (.aload_n 0, 1) := by decide +kernel
theorem dX8_init_208 : decode cX8_init 208 = .ok (.bipush 16, 2) := by decide +kernel
theorem dX8_init_210 : decode cX8_init 210 = .ok (.newarray .int, 2) := by decide +kernel
theorem dX8_init_212 : decode cX8_init 212 = .ok (.putfield 75, 3) := by decide +kernel
theorem dX8_init_215 : decode cX8_init 215 = .ok (.return_, 1) := by decide +kernel
theorem dX8_in_0 : decode cX8_in 0 = .ok (.lload_n 0, 1) := by decide +kernel
theorem dX8_in_1 : decode cX8_in 1 = .ok (.lload_n 2, 1) := by decide +kernel
theorem dX8_in_2 : decode cX8_in 2 = .ok (.lcmp, 1) := by decide +kernel
theorem dX8_in_3 : decode cX8_in 3 = .ok (.ifCond .lt 14, 3) := by decide +kernel
theorem dX8_in_6 : decode cX8_in 6 = .ok (.lload_n 0, 1) := by decide +kernel
theorem dX8_in_7 : decode cX8_in 7 = .ok (.lload 4, 2) := by decide +kernel
theorem dX8_in_9 : decode cX8_in 9 = .ok (.lcmp, 1) := by decide +kernel
theorem dX8_in_10 : decode cX8_in 10 = .ok (.ifCond .gt 7, 3) := by decide +kernel
theorem dX8_in_13 : decode cX8_in 13 = .ok (.iconst 1, 1) := by decide +kernel
theorem dX8_in_14 : decode cX8_in 14 = .ok (.goto 4, 3) := by decide +kernel
theorem dX8_in_17 : decode cX8_in 17 = .ok (.iconst 0, 1) := by decide +kernel
theorem dX8_in_18 : decode cX8_in 18 = .ok (.ireturn, 1) := by decide +kernel
theorem dX8_finding_0 : decode cX8_finding 0 = .ok (.aload_n 0, 1) := by decide +kernel
theorem dX8_finding_1 : decode cX8_finding 1 = .ok (.iload_n 1, 1) := by decide +kernel
theorem dX8_finding_2 : decode cX8_finding 2 = .ok (.putfield 82, 3) := by decide +kernel
theorem dX8_finding_5 : decode cX8_finding 5 = .ok (.ldc 85, 2) := by decide +kernel
theorem dX8_finding_7 : decode cX8_finding 7 = .ok (.iload_n 1, 1) := by decide +kernel
theorem dX8_finding_8 : decode cX8_finding 8 = .ok (.isub, 1) := by decide +kernel
theorem dX8_finding_9 : decode cX8_finding 9 = .ok (.ireturn, 1) := by decide +kernel
theorem dX8_isSheet_0 : decode cX8_isSheet 0 = .ok (.iload_n 0, 1) := by decide +kernel
theorem dX8_isSheet_1 : decode cX8_isSheet 1 = .ok (.i2l, 1) := by decide +kernel
theorem dX8_isSheet_2 : decode cX8_isSheet 2 = .ok (.lconst 0, 1) := by decide +kernel
theorem dX8_isSheet_3 : decode cX8_isSheet 3 = .ok (.ldc2_w 86, 3) := by decide +kernel
theorem dX8_isSheet_6 : decode cX8_isSheet 6 = .ok (.invokestatic 88, 3) := by decide +kernel
theorem dX8_isSheet_9 : decode cX8_isSheet 9 = .ok (.ireturn, 1) := by decide +kernel
theorem dX8_sheet_0 : decode cX8_sheet 0 = .ok (.aload_n 0, 1) := by decide +kernel
theorem dX8_sheet_1 : decode cX8_sheet 1 = .ok (.iconst 0, 1) := by decide +kernel
theorem dX8_sheet_2 : decode cX8_sheet 2 = .ok (.putfield 78, 3) := by decide +kernel
theorem dX8_sheet_5 : decode cX8_sheet 5 = .ok (.iload_n 1, 1) := by decide +kernel
theorem dX8_sheet_6 : decode cX8_sheet 6 = .ok (.invokestatic 92, 3) := by decide +kernel
theorem dX8_sheet_9 : decode cX8_sheet 9 = .ok (.ifCond .eq 21, 3) := by decide +kernel
theorem dX8_sheet_12 : decode cX8_sheet 12 = .ok (.iload_n 2, 1) := by decide +kernel
theorem dX8_sheet_13 : decode cX8_sheet 13 = .ok (.i2l, 1) := by decide +kernel
theorem dX8_sheet_14 : decode cX8_sheet 14 = .ok (.lconst 0, 1) := by decide +kernel
theorem dX8_sheet_15 : decode cX8_sheet 15 = .ok (.ldc2_w 96, 3) := by decide +kernel
theorem dX8_sheet_18 : decode cX8_sheet 18 = .ok (.invokestatic 88, 3) := by decide +kernel
theorem dX8_sheet_21 : decode cX8_sheet 21 = .ok (.ifCond .eq 9, 3) := by decide +kernel
theorem dX8_sheet_24 : decode cX8_sheet 24 = .ok (.iload_n 3, 1) := by decide +kernel
theorem dX8_sheet_25 : decode cX8_sheet 25 = .ok (.bipush 40, 2) := by decide +kernel
theorem dX8_sheet_27 : decode cX8_sheet 27 = .ok (.if_icmp .le 6, 3) := by decide +kernel
theorem dX8_sheet_30 : decode cX8_sheet 30 = .ok (.ldc 98, 2) := by decide +kernel
theorem dX8_sheet_32 : decode cX8_sheet 32 = .ok (.ireturn, 1) := by decide +kernel
theorem dX8_sheet_33 : decode cX8_sheet 33 = .ok (.aload_n 0, 1) := by decide +kernel
theorem dX8_sheet_34 : decode cX8_sheet 34 = .ok (.iconst 0, 1) := by decide +kernel
theorem dX8_sheet_35 : decode cX8_sheet 35 = .ok (.putfield 82, 3) := by decide +kernel
theorem dX8_sheet_38 : decode cX8_sheet 38 = .ok (.iload_n 3, 1) := by decide +kernel
theorem dX8_sheet_39 : decode cX8_sheet 39 = .ok (.ifCond .ge 9, 3) := by decide +kernel
theorem dX8_sheet_42 : decode cX8_sheet 42 = .ok (.aload_n 0, 1) := by decide +kernel
theorem dX8_sheet_43 : decode cX8_sheet 43 = .ok (.iconst 4, 1) := by decide +kernel
theorem dX8_sheet_44 : decode cX8_sheet 44 = .ok (.invokevirtual 99, 3) := by decide +kernel
theorem dX8_sheet_47 : decode cX8_sheet 47 = .ok (.ireturn, 1) := by decide +kernel
theorem dX8_sheet_48 : decode cX8_sheet 48 = .ok (.aload_n 0, 1) := by decide +kernel
theorem dX8_sheet_49 : decode cX8_sheet 49 = .ok (.getfield 7, 3) := by decide +kernel
theorem dX8_sheet_52 : decode cX8_sheet 52 = .ok (.iload_n 1, 1) := by decide +kernel
theorem dX8_sheet_53 : decode cX8_sheet 53 = .ok (.iload_n 2, 1) := by decide +kernel
theorem dX8_sheet_54 : decode cX8_sheet 54 = .ok (.iastore, 1) := by decide +kernel
theorem dX8_sheet_55 : decode cX8_sheet 55 = .ok (.aload_n 0, 1) := by decide +kernel
theorem dX8_sheet_56 : decode cX8_sheet 56 = .ok (.getfield 13, 3) := by decide +kernel
theorem dX8_sheet_59 : decode cX8_sheet 59 = .ok (.iload_n 1, 1) := by decide +kernel
theorem dX8_sheet_60 : decode cX8_sheet 60 = .ok (.iload_n 3, 1) := by decide +kernel
theorem dX8_sheet_61 : decode cX8_sheet 61 = .ok (.iastore, 1) := by decide +kernel
theorem dX8_sheet_62 : decode cX8_sheet 62 = .ok (.iconst 0, 1) := by decide +kernel
theorem dX8_sheet_63 : decode cX8_sheet 63 = .ok (.istore 4, 2) := by decide +kernel
theorem dX8_sheet_65 : decode cX8_sheet 65 = .ok (.iload 4, 2) := by decide +kernel
theorem dX8_sheet_67 : decode cX8_sheet 67 = .ok (.bipush 40, 2) := by decide +kernel
theorem dX8_sheet_69 : decode cX8_sheet 69 = .ok (.if_icmp .ge 22, 3) := by decide +kernel
theorem dX8_sheet_72 : decode cX8_sheet 72 = .ok (.aload_n 0, 1) := by decide +kernel
theorem dX8_sheet_73 : decode cX8_sheet 73 = .ok (.getfield 16, 3) := by decide +kernel
theorem dX8_sheet_76 : decode cX8_sheet 76 = .ok (.bipush 40, 2) := by decide +kernel
theorem dX8_sheet_78 : decode cX8_sheet 78 = .ok (.iload_n 1, 1) := by decide +kernel
theorem dX8_sheet_79 : decode cX8_sheet 79 = .ok (.imul, 1) := by decide +kernel
theorem dX8_sheet_80 : decode cX8_sheet 80 = .ok (.iload 4, 2) := by decide +kernel
theorem dX8_sheet_82 : decode cX8_sheet 82 = .ok (.iadd, 1) := by decide +kernel
theorem dX8_sheet_83 : decode cX8_sheet 83 = .ok (.iconst 0, 1) := by decide +kernel
theorem dX8_sheet_84 : decode cX8_sheet 84 = .ok (.iastore, 1) := by decide +kernel
theorem dX8_sheet_85 : decode cX8_sheet 85 = .ok (.iinc 4 1, 3) := by decide +kernel
theorem dX8_sheet_88 : decode cX8_sheet 88 = .ok (.goto (-23), 3) := by decide +kernel
theorem dX8_sheet_91 : decode cX8_sheet 91 = .ok (.iload_n 3, 1) := by decide +kernel
theorem dX8_sheet_92 : decode cX8_sheet 92 = .ok (.ireturn, 1) := by decide +kernel
theorem dX8_set_0 : decode cX8_set 0 = .ok (.aload_n 0, 1) := by decide +kernel
theorem dX8_set_1 : decode cX8_set 1 = .ok (.iconst 0, 1) := by decide +kernel
theorem dX8_set_2 : decode cX8_set 2 = .ok (.putfield 78, 3) := by decide +kernel
theorem dX8_set_5 : decode cX8_set 5 = .ok (.iload_n 1, 1) := by decide +kernel
theorem dX8_set_6 : decode cX8_set 6 = .ok (.invokestatic 92, 3) := by decide +kernel
theorem dX8_set_9 : decode cX8_set 9 = .ok (.ifCond .ne 6, 3) := by decide +kernel
theorem dX8_set_12 : decode cX8_set 12 = .ok (.ldc 98, 2) := by decide +kernel
theorem dX8_set_14 : decode cX8_set 14 = .ok (.ireturn, 1) := by decide +kernel
theorem dX8_set_15 : decode cX8_set 15 = .ok (.aload_n 0, 1) := by decide +kernel
theorem dX8_set_16 : decode cX8_set 16 = .ok (.iconst 0, 1) := by decide +kernel
theorem dX8_set_17 : decode cX8_set 17 = .ok (.putfield 82, 3) := by decide +kernel
theorem dX8_set_20 : decode cX8_set 20 = .ok (.aload_n 0, 1) := by decide +kernel
theorem dX8_set_21 : decode cX8_set 21 = .ok (.getfield 7, 3) := by decide +kernel
theorem dX8_set_24 : decode cX8_set 24 = .ok (.iload_n 1, 1) := by decide +kernel
theorem dX8_set_25 : decode cX8_set 25 = .ok (.iaload, 1) := by decide +kernel
theorem dX8_set_26 : decode cX8_set 26 = .ok (.ifCond .ge 9, 3) := by decide +kernel
theorem dX8_set_29 : decode cX8_set 29 = .ok (.aload_n 0, 1) := by decide +kernel
theorem dX8_set_30 : decode cX8_set 30 = .ok (.iconst 1, 1) := by decide +kernel
theorem dX8_set_31 : decode cX8_set 31 = .ok (.invokevirtual 99, 3) := by decide +kernel
theorem dX8_set_34 : decode cX8_set 34 = .ok (.ireturn, 1) := by decide +kernel
theorem dX8_set_35 : decode cX8_set 35 = .ok (.iload_n 2, 1) := by decide +kernel
theorem dX8_set_36 : decode cX8_set 36 = .ok (.i2l, 1) := by decide +kernel
theorem dX8_set_37 : decode cX8_set 37 = .ok (.lconst 0, 1) := by decide +kernel
theorem dX8_set_38 : decode cX8_set 38 = .ok (.aload_n 0, 1) := by decide +kernel
theorem dX8_set_39 : decode cX8_set 39 = .ok (.getfield 13, 3) := by decide +kernel
theorem dX8_set_42 : decode cX8_set 42 = .ok (.iload_n 1, 1) := by decide +kernel
theorem dX8_set_43 : decode cX8_set 43 = .ok (.iaload, 1) := by decide +kernel
theorem dX8_set_44 : decode cX8_set 44 = .ok (.iconst 1, 1) := by decide +kernel
theorem dX8_set_45 : decode cX8_set 45 = .ok (.isub, 1) := by decide +kernel
theorem dX8_set_46 : decode cX8_set 46 = .ok (.i2l, 1) := by decide +kernel
theorem dX8_set_47 : decode cX8_set 47 = .ok (.invokestatic 88, 3) := by decide +kernel
theorem dX8_set_50 : decode cX8_set 50 = .ok (.ifCond .ne 9, 3) := by decide +kernel
theorem dX8_set_53 : decode cX8_set 53 = .ok (.aload_n 0, 1) := by decide +kernel
theorem dX8_set_54 : decode cX8_set 54 = .ok (.iconst 2, 1) := by decide +kernel
theorem dX8_set_55 : decode cX8_set 55 = .ok (.invokevirtual 99, 3) := by decide +kernel
theorem dX8_set_58 : decode cX8_set 58 = .ok (.ireturn, 1) := by decide +kernel
theorem dX8_set_59 : decode cX8_set 59 = .ok (.aload_n 0, 1) := by decide +kernel
theorem dX8_set_60 : decode cX8_set 60 = .ok (.getfield 16, 3) := by decide +kernel
theorem dX8_set_63 : decode cX8_set 63 = .ok (.bipush 40, 2) := by decide +kernel
theorem dX8_set_65 : decode cX8_set 65 = .ok (.iload_n 1, 1) := by decide +kernel
theorem dX8_set_66 : decode cX8_set 66 = .ok (.imul, 1) := by decide +kernel
theorem dX8_set_67 : decode cX8_set 67 = .ok (.iload_n 2, 1) := by decide +kernel
theorem dX8_set_68 : decode cX8_set 68 = .ok (.iadd, 1) := by decide +kernel
theorem dX8_set_69 : decode cX8_set 69 = .ok (.aload_n 0, 1) := by decide +kernel
theorem dX8_set_70 : decode cX8_set 70 = .ok (.getfield 7, 3) := by decide +kernel
theorem dX8_set_73 : decode cX8_set 73 = .ok (.iload_n 1, 1) := by decide +kernel
theorem dX8_set_74 : decode cX8_set 74 = .ok (.iaload, 1) := by decide +kernel
theorem dX8_set_75 : decode cX8_set 75 = .ok (.ifCond .ne 8, 3) := by decide +kernel
theorem dX8_set_78 : decode cX8_set 78 = .ok (.iload_n 3, 1) := by decide +kernel
theorem dX8_set_79 : decode cX8_set 79 = .ok (.i2b, 1) := by decide +kernel
theorem dX8_set_80 : decode cX8_set 80 = .ok (.goto 19, 3) := by decide +kernel
theorem dX8_set_83 : decode cX8_set 83 = .ok (.aload_n 0, 1) := by decide +kernel
theorem dX8_set_84 : decode cX8_set 84 = .ok (.getfield 7, 3) := by decide +kernel
theorem dX8_set_87 : decode cX8_set 87 = .ok (.iload_n 1, 1) := by decide +kernel
theorem dX8_set_88 : decode cX8_set 88 = .ok (.iaload, 1) := by decide +kernel
theorem dX8_set_89 : decode cX8_set 89 = .ok (.iconst 1, 1) := by decide +kernel
theorem dX8_set_90 : decode cX8_set 90 = .ok (.if_icmp .ne 8, 3) := by decide +kernel
theorem dX8_set_93 : decode cX8_set 93 = .ok (.iload_n 3, 1) := by decide +kernel
theorem dX8_set_94 : decode cX8_set 94 = .ok (.i2s, 1) := by decide +kernel
theorem dX8_set_95 : decode cX8_set 95 = .ok (.goto 4, 3) := by decide +kernel
theorem dX8_set_98 : decode cX8_set 98 = .ok (.iload_n 3, 1) := by decide +kernel
theorem dX8_set_99 : decode cX8_set 99 = .ok (.iastore, 1) := by decide +kernel
theorem dX8_set_100 : decode cX8_set 100 = .ok (.aload_n 0, 1) := by decide +kernel
theorem dX8_set_101 : decode cX8_set 101 = .ok (.getfield 16, 3) := by decide +kernel
theorem dX8_set_104 : decode cX8_set 104 = .ok (.bipush 40, 2) := by decide +kernel
theorem dX8_set_106 : decode cX8_set 106 = .ok (.iload_n 1, 1) := by decide +kernel
theorem dX8_set_107 : decode cX8_set 107 = .ok (.imul, 1) := by decide +kernel
theorem dX8_set_108 : decode cX8_set 108 = .ok (.iload_n 2, 1) := by decide +kernel
theorem dX8_set_109 : decode cX8_set 109 = .ok (.iadd, 1) := by decide +kernel
theorem dX8_set_110 : decode cX8_set 110 = .ok (.iaload, 1) := by decide +kernel
theorem dX8_set_111 : decode cX8_set 111 = .ok (.ireturn, 1) := by decide +kernel
theorem dX8_copy_0 : decode cX8_copy 0 = .ok (.aload_n 0, 1) := by decide +kernel
theorem dX8_copy_1 : decode cX8_copy 1 = .ok (.iconst 0, 1) := by decide +kernel
theorem dX8_copy_2 : decode cX8_copy 2 = .ok (.putfield 78, 3) := by decide +kernel
theorem dX8_copy_5 : decode cX8_copy 5 = .ok (.iload_n 1, 1) := by decide +kernel
theorem dX8_copy_6 : decode cX8_copy 6 = .ok (.invokestatic 92, 3) := by decide +kernel
theorem dX8_copy_9 : decode cX8_copy 9 = .ok (.ifCond .eq 10, 3) := by decide +kernel
theorem dX8_copy_12 : decode cX8_copy 12 = .ok (.iload_n 3, 1) := by decide +kernel
theorem dX8_copy_13 : decode cX8_copy 13 = .ok (.invokestatic 92, 3) := by decide +kernel
theorem dX8_copy_16 : decode cX8_copy 16 = .ok (.ifCond .ne 6, 3) := by decide +kernel
theorem dX8_copy_19 : decode cX8_copy 19 = .ok (.ldc 98, 2) := by decide +kernel
theorem dX8_copy_21 : decode cX8_copy 21 = .ok (.ireturn, 1) := by decide +kernel
theorem dX8_copy_22 : decode cX8_copy 22 = .ok (.aload_n 0, 1) := by decide +kernel
theorem dX8_copy_23 : decode cX8_copy 23 = .ok (.iconst 0, 1) := by decide +kernel
theorem dX8_copy_24 : decode cX8_copy 24 = .ok (.putfield 82, 3) := by decide +kernel
theorem dX8_copy_27 : decode cX8_copy 27 = .ok (.aload_n 0, 1) := by decide +kernel
theorem dX8_copy_28 : decode cX8_copy 28 = .ok (.getfield 7, 3) := by decide +kernel
theorem dX8_copy_31 : decode cX8_copy 31 = .ok (.iload_n 1, 1) := by decide +kernel
theorem dX8_copy_32 : decode cX8_copy 32 = .ok (.iaload, 1) := by decide +kernel
theorem dX8_copy_33 : decode cX8_copy 33 = .ok (.ifCond .lt 12, 3) := by decide +kernel
theorem dX8_copy_36 : decode cX8_copy 36 = .ok (.aload_n 0, 1) := by decide +kernel
theorem dX8_copy_37 : decode cX8_copy 37 = .ok (.getfield 7, 3) := by decide +kernel
theorem dX8_copy_40 : decode cX8_copy 40 = .ok (.iload_n 3, 1) := by decide +kernel
theorem dX8_copy_41 : decode cX8_copy 41 = .ok (.iaload, 1) := by decide +kernel
theorem dX8_copy_42 : decode cX8_copy 42 = .ok (.ifCond .ge 9, 3) := by decide +kernel
theorem dX8_copy_45 : decode cX8_copy 45 = .ok (.aload_n 0, 1) := by decide +kernel
theorem dX8_copy_46 : decode cX8_copy 46 = .ok (.iconst 1, 1) := by decide +kernel
theorem dX8_copy_47 : decode cX8_copy 47 = .ok (.invokevirtual 99, 3) := by decide +kernel
theorem dX8_copy_50 : decode cX8_copy 50 = .ok (.ireturn, 1) := by decide +kernel
theorem dX8_copy_51 : decode cX8_copy 51 = .ok (.aload_n 0, 1) := by decide +kernel
theorem dX8_copy_52 : decode cX8_copy 52 = .ok (.getfield 7, 3) := by decide +kernel
theorem dX8_copy_55 : decode cX8_copy 55 = .ok (.iload_n 1, 1) := by decide +kernel
theorem dX8_copy_56 : decode cX8_copy 56 = .ok (.iaload, 1) := by decide +kernel
theorem dX8_copy_57 : decode cX8_copy 57 = .ok (.aload_n 0, 1) := by decide +kernel
theorem dX8_copy_58 : decode cX8_copy 58 = .ok (.getfield 7, 3) := by decide +kernel
theorem dX8_copy_61 : decode cX8_copy 61 = .ok (.iload_n 3, 1) := by decide +kernel
theorem dX8_copy_62 : decode cX8_copy 62 = .ok (.iaload, 1) := by decide +kernel
theorem dX8_copy_63 : decode cX8_copy 63 = .ok (.if_icmp .eq 9, 3) := by decide +kernel
theorem dX8_copy_66 : decode cX8_copy 66 = .ok (.aload_n 0, 1) := by decide +kernel
theorem dX8_copy_67 : decode cX8_copy 67 = .ok (.iconst 5, 1) := by decide +kernel
theorem dX8_copy_68 : decode cX8_copy 68 = .ok (.invokevirtual 99, 3) := by decide +kernel
theorem dX8_copy_71 : decode cX8_copy 71 = .ok (.ireturn, 1) := by decide +kernel
theorem dX8_copy_72 : decode cX8_copy 72 = .ok (.iload_n 2, 1) := by decide +kernel
theorem dX8_copy_73 : decode cX8_copy 73 = .ok (.ifCond .lt 48, 3) := by decide +kernel
theorem dX8_copy_76 : decode cX8_copy 76 = .ok (.iload 4, 2) := by decide +kernel
theorem dX8_copy_78 : decode cX8_copy 78 = .ok (.ifCond .lt 43, 3) := by decide +kernel
theorem dX8_copy_81 : decode cX8_copy 81 = .ok (.iload 5, 2) := by decide +kernel
theorem dX8_copy_83 : decode cX8_copy 83 = .ok (.ifCond .lt 38, 3) := by decide +kernel
theorem dX8_copy_86 : decode cX8_copy 86 = .ok (.iload_n 2, 1) := by decide +kernel
theorem dX8_copy_87 : decode cX8_copy 87 = .ok (.i2l, 1) := by decide +kernel
theorem dX8_copy_88 : decode cX8_copy 88 = .ok (.iload 5, 2) := by decide +kernel
theorem dX8_copy_90 : decode cX8_copy 90 = .ok (.i2l, 1) := by decide +kernel
theorem dX8_copy_91 : decode cX8_copy 91 = .ok (.ladd, 1) := by decide +kernel
theorem dX8_copy_92 : decode cX8_copy 92 = .ok (.aload_n 0, 1) := by decide +kernel
theorem dX8_copy_93 : decode cX8_copy 93 = .ok (.getfield 13, 3) := by decide +kernel
theorem dX8_copy_96 : decode cX8_copy 96 = .ok (.iload_n 1, 1) := by decide +kernel
theorem dX8_copy_97 : decode cX8_copy 97 = .ok (.iaload, 1) := by decide +kernel
theorem dX8_copy_98 : decode cX8_copy 98 = .ok (.i2l, 1) := by decide +kernel
theorem dX8_copy_99 : decode cX8_copy 99 = .ok (.lcmp, 1) := by decide +kernel
theorem dX8_copy_100 : decode cX8_copy 100 = .ok (.ifCond .gt 21, 3) := by decide +kernel
theorem dX8_copy_103 : decode cX8_copy 103 = .ok (.iload 4, 2) := by decide +kernel
theorem dX8_copy_105 : decode cX8_copy 105 = .ok (.i2l, 1) := by decide +kernel
theorem dX8_copy_106 : decode cX8_copy 106 = .ok (.iload 5, 2) := by decide +kernel
theorem dX8_copy_108 : decode cX8_copy 108 = .ok (.i2l, 1) := by decide +kernel
theorem dX8_copy_109 : decode cX8_copy 109 = .ok (.ladd, 1) := by decide +kernel
theorem dX8_copy_110 : decode cX8_copy 110 = .ok (.aload_n 0, 1) := by decide +kernel
theorem dX8_copy_111 : decode cX8_copy 111 = .ok (.getfield 13, 3) := by decide +kernel
theorem dX8_copy_114 : decode cX8_copy 114 = .ok (.iload_n 3, 1) := by decide +kernel
theorem dX8_copy_115 : decode cX8_copy 115 = .ok (.iaload, 1) := by decide +kernel
theorem dX8_copy_116 : decode cX8_copy 116 = .ok (.i2l, 1) := by decide +kernel
theorem dX8_copy_117 : decode cX8_copy 117 = .ok (.lcmp, 1) := by decide +kernel
theorem dX8_copy_118 : decode cX8_copy 118 = .ok (.ifCond .le 9, 3) := by decide +kernel
theorem dX8_copy_121 : decode cX8_copy 121 = .ok (.aload_n 0, 1) := by decide +kernel
theorem dX8_copy_122 : decode cX8_copy 122 = .ok (.iconst 2, 1) := by decide +kernel
theorem dX8_copy_123 : decode cX8_copy 123 = .ok (.invokevirtual 99, 3) := by decide +kernel
theorem dX8_copy_126 : decode cX8_copy 126 = .ok (.ireturn, 1) := by decide +kernel
theorem dX8_copy_127 : decode cX8_copy 127 = .ok (.iload_n 2, 1) := by decide +kernel
theorem dX8_copy_128 : decode cX8_copy 128 = .ok (.iload 4, 2) := by decide +kernel
theorem dX8_copy_130 : decode cX8_copy 130 = .ok (.if_icmp .lt 7, 3) := by decide +kernel
theorem dX8_copy_133 : decode cX8_copy 133 = .ok (.iconst 1, 1) := by decide +kernel
theorem dX8_copy_134 : decode cX8_copy 134 = .ok (.goto 4, 3) := by decide +kernel
theorem dX8_copy_137 : decode cX8_copy 137 = .ok (.iconst 0, 1) := by decide +kernel
theorem dX8_copy_138 : decode cX8_copy 138 = .ok (.istore 6, 2) := by decide +kernel
theorem dX8_copy_140 : decode cX8_copy 140 = .ok (.iconst 0, 1) := by decide +kernel
theorem dX8_copy_141 : decode cX8_copy 141 = .ok (.istore 7, 2) := by decide +kernel
theorem dX8_copy_143 : decode cX8_copy 143 = .ok (.iload 7, 2) := by decide +kernel
theorem dX8_copy_145 : decode cX8_copy 145 = .ok (.iload 5, 2) := by decide +kernel
theorem dX8_copy_147 : decode cX8_copy 147 = .ok (.if_icmp .ge 57, 3) := by decide +kernel
theorem dX8_copy_150 : decode cX8_copy 150 = .ok (.iload 6, 2) := by decide +kernel
theorem dX8_copy_152 : decode cX8_copy 152 = .ok (.ifCond .eq 8, 3) := by decide +kernel
theorem dX8_copy_155 : decode cX8_copy 155 = .ok (.iload 7, 2) := by decide +kernel
theorem dX8_copy_157 : decode cX8_copy 157 = .ok (.goto 10, 3) := by decide +kernel
theorem dX8_copy_160 : decode cX8_copy 160 = .ok (.iload 5, 2) := by decide +kernel
theorem dX8_copy_162 : decode cX8_copy 162 = .ok (.iconst 1, 1) := by decide +kernel
theorem dX8_copy_163 : decode cX8_copy 163 = .ok (.isub, 1) := by decide +kernel
theorem dX8_copy_164 : decode cX8_copy 164 = .ok (.iload 7, 2) := by decide +kernel
theorem dX8_copy_166 : decode cX8_copy 166 = .ok (.isub, 1) := by decide +kernel
theorem dX8_copy_167 : decode cX8_copy 167 = .ok (.istore 8, 2) := by decide +kernel
theorem dX8_copy_169 : decode cX8_copy 169 = .ok (.aload_n 0, 1) := by decide +kernel
theorem dX8_copy_170 : decode cX8_copy 170 = .ok (.getfield 16, 3) := by decide +kernel
theorem dX8_copy_173 : decode cX8_copy 173 = .ok (.bipush 40, 2) := by decide +kernel
theorem dX8_copy_175 : decode cX8_copy 175 = .ok (.iload_n 3, 1) := by decide +kernel
theorem dX8_copy_176 : decode cX8_copy 176 = .ok (.imul, 1) := by decide +kernel
theorem dX8_copy_177 : decode cX8_copy 177 = .ok (.iload 4, 2) := by decide +kernel
theorem dX8_copy_179 : decode cX8_copy 179 = .ok (.iadd, 1) := by decide +kernel
theorem dX8_copy_180 : decode cX8_copy 180 = .ok (.iload 8, 2) := by decide +kernel
theorem dX8_copy_182 : decode cX8_copy 182 = .ok (.iadd, 1) := by decide +kernel
theorem dX8_copy_183 : decode cX8_copy 183 = .ok (.aload_n 0, 1) := by decide +kernel
theorem dX8_copy_184 : decode cX8_copy 184 = .ok (.getfield 16, 3) := by decide +kernel
theorem dX8_copy_187 : decode cX8_copy 187 = .ok (.bipush 40, 2) := by decide +kernel
theorem dX8_copy_189 : decode cX8_copy 189 = .ok (.iload_n 1, 1) := by decide +kernel
theorem dX8_copy_190 : decode cX8_copy 190 = .ok (.imul, 1) := by decide +kernel
theorem dX8_copy_191 : decode cX8_copy 191 = .ok (.iload_n 2, 1) := by decide +kernel
theorem dX8_copy_192 : decode cX8_copy 192 = .ok (.iadd, 1) := by decide +kernel
theorem dX8_copy_193 : decode cX8_copy 193 = .ok (.iload 8, 2) := by decide +kernel
theorem dX8_copy_195 : decode cX8_copy 195 = .ok (.iadd, 1) := by decide +kernel
theorem dX8_copy_196 : decode cX8_copy 196 = .ok (.iaload, 1) := by decide +kernel
theorem dX8_copy_197 : decode cX8_copy 197 = .ok (.iastore, 1) := by decide +kernel
theorem dX8_copy_198 : decode cX8_copy 198 = .ok (.iinc 7 1, 3) := by decide +kernel
theorem dX8_copy_201 : decode cX8_copy 201 = .ok (.goto (-58), 3) := by decide +kernel
theorem dX8_copy_204 : decode cX8_copy 204 = .ok (.iload 5, 2) := by decide +kernel
theorem dX8_copy_206 : decode cX8_copy 206 = .ok (.ireturn, 1) := by decide +kernel
theorem dX8_drop_0 : decode cX8_drop 0 = .ok (.aload_n 0, 1) := by decide +kernel
theorem dX8_drop_1 : decode cX8_drop 1 = .ok (.iconst 0, 1) := by decide +kernel
theorem dX8_drop_2 : decode cX8_drop 2 = .ok (.putfield 78, 3) := by decide +kernel
theorem dX8_drop_5 : decode cX8_drop 5 = .ok (.iload_n 1, 1) := by decide +kernel
theorem dX8_drop_6 : decode cX8_drop 6 = .ok (.invokestatic 92, 3) := by decide +kernel
theorem dX8_drop_9 : decode cX8_drop 9 = .ok (.ifCond .ne 6, 3) := by decide +kernel
theorem dX8_drop_12 : decode cX8_drop 12 = .ok (.ldc 98, 2) := by decide +kernel
theorem dX8_drop_14 : decode cX8_drop 14 = .ok (.ireturn, 1) := by decide +kernel
theorem dX8_drop_15 : decode cX8_drop 15 = .ok (.aload_n 0, 1) := by decide +kernel
theorem dX8_drop_16 : decode cX8_drop 16 = .ok (.iconst 0, 1) := by decide +kernel
theorem dX8_drop_17 : decode cX8_drop 17 = .ok (.putfield 82, 3) := by decide +kernel
theorem dX8_drop_20 : decode cX8_drop 20 = .ok (.aload_n 0, 1) := by decide +kernel
theorem dX8_drop_21 : decode cX8_drop 21 = .ok (.getfield 7, 3) := by decide +kernel
theorem dX8_drop_24 : decode cX8_drop 24 = .ok (.iload_n 1, 1) := by decide +kernel
theorem dX8_drop_25 : decode cX8_drop 25 = .ok (.iaload, 1) := by decide +kernel
theorem dX8_drop_26 : decode cX8_drop 26 = .ok (.ifCond .ge 9, 3) := by decide +kernel
theorem dX8_drop_29 : decode cX8_drop 29 = .ok (.aload_n 0, 1) := by decide +kernel
theorem dX8_drop_30 : decode cX8_drop 30 = .ok (.iconst 1, 1) := by decide +kernel
theorem dX8_drop_31 : decode cX8_drop 31 = .ok (.invokevirtual 99, 3) := by decide +kernel
theorem dX8_drop_34 : decode cX8_drop 34 = .ok (.ireturn, 1) := by decide +kernel
theorem dX8_drop_35 : decode cX8_drop 35 = .ok (.aload_n 0, 1) := by decide +kernel
theorem dX8_drop_36 : decode cX8_drop 36 = .ok (.getfield 7, 3) := by decide +kernel
theorem dX8_drop_39 : decode cX8_drop 39 = .ok (.iload_n 1, 1) := by decide +kernel
theorem dX8_drop_40 : decode cX8_drop 40 = .ok (.iconst (-1), 1) := by decide +kernel
theorem dX8_drop_41 : decode cX8_drop 41 = .ok (.iastore, 1) := by decide +kernel
theorem dX8_drop_42 : decode cX8_drop 42 = .ok (.aload_n 0, 1) := by decide +kernel
theorem dX8_drop_43 : decode cX8_drop 43 = .ok (.getfield 13, 3) := by decide +kernel
theorem dX8_drop_46 : decode cX8_drop 46 = .ok (.iload_n 1, 1) := by decide +kernel
theorem dX8_drop_47 : decode cX8_drop 47 = .ok (.iaload, 1) := by decide +kernel
theorem dX8_drop_48 : decode cX8_drop 48 = .ok (.ireturn, 1) := by decide +kernel
theorem dX8_doubtsOf_0 : decode cX8_doubtsOf 0 = .ok (.iload_n 0, 1) := by decide +kernel
theorem dX8_doubtsOf_1 : decode cX8_doubtsOf 1 = .ok (.iconst 1, 1) := by decide +kernel
theorem dX8_doubtsOf_2 : decode cX8_doubtsOf 2 = .ok (.if_icmp .ne 7, 3) := by decide +kernel
theorem dX8_doubtsOf_5 : decode cX8_doubtsOf 5 = .ok (.iconst 1, 1) := by decide +kernel
theorem dX8_doubtsOf_6 : decode cX8_doubtsOf 6 = .ok (.goto 13, 3) := by decide +kernel
theorem dX8_doubtsOf_9 : decode cX8_doubtsOf 9 = .ok (.iload_n 0, 1) := by decide +kernel
theorem dX8_doubtsOf_10 : decode cX8_doubtsOf 10 = .ok (.iconst 3, 1) := by decide +kernel
theorem dX8_doubtsOf_11 : decode cX8_doubtsOf 11 = .ok (.if_icmp .ne 7, 3) := by decide +kernel
theorem dX8_doubtsOf_14 : decode cX8_doubtsOf 14 = .ok (.iconst 3, 1) := by decide +kernel
theorem dX8_doubtsOf_15 : decode cX8_doubtsOf 15 = .ok (.goto 4, 3) := by decide +kernel
theorem dX8_doubtsOf_18 : decode cX8_doubtsOf 18 = .ok (.iconst 2, 1) := by decide +kernel
theorem dX8_doubtsOf_19 : decode cX8_doubtsOf 19 = .ok (.ireturn, 1) := by decide +kernel
theorem dX8_feed_0 : decode cX8_feed 0 = .ok (.aload_n 0, 1) := by decide +kernel
theorem dX8_feed_1 : decode cX8_feed 1 = .ok (.iconst 0, 1) := by decide +kernel
theorem dX8_feed_2 : decode cX8_feed 2 = .ok (.putfield 78, 3) := by decide +kernel
theorem dX8_feed_5 : decode cX8_feed 5 = .ok (.iload_n 3, 1) := by decide +kernel
theorem dX8_feed_6 : decode cX8_feed 6 = .ok (.i2l, 1) := by decide +kernel
theorem dX8_feed_7 : decode cX8_feed 7 = .ok (.lconst 1, 1) := by decide +kernel
theorem dX8_feed_8 : decode cX8_feed 8 = .ok (.ldc2_w 103, 3) := by decide +kernel
theorem dX8_feed_11 : decode cX8_feed 11 = .ok (.invokestatic 88, 3) := by decide +kernel
theorem dX8_feed_14 : decode cX8_feed 14 = .ok (.ifCond .ne 6, 3) := by decide +kernel
theorem dX8_feed_17 : decode cX8_feed 17 = .ok (.ldc 98, 2) := by decide +kernel
theorem dX8_feed_19 : decode cX8_feed 19 = .ok (.ireturn, 1) := by decide +kernel
theorem dX8_feed_20 : decode cX8_feed 20 = .ok (.aload_n 0, 1) := by decide +kernel
theorem dX8_feed_21 : decode cX8_feed 21 = .ok (.getfield 105, 3) := by decide +kernel
theorem dX8_feed_24 : decode cX8_feed 24 = .ok (.iload_n 3, 1) := by decide +kernel
theorem dX8_feed_25 : decode cX8_feed 25 = .ok (.iadd, 1) := by decide +kernel
theorem dX8_feed_26 : decode cX8_feed 26 = .ok (.sipush 400, 3) := by decide +kernel
theorem dX8_feed_29 : decode cX8_feed 29 = .ok (.if_icmp .le 6, 3) := by decide +kernel
theorem dX8_feed_32 : decode cX8_feed 32 = .ok (.ldc 108, 2) := by decide +kernel
theorem dX8_feed_34 : decode cX8_feed 34 = .ok (.ireturn, 1) := by decide +kernel
theorem dX8_feed_35 : decode cX8_feed 35 = .ok (.iload_n 3, 1) := by decide +kernel
theorem dX8_feed_36 : decode cX8_feed 36 = .ok (.iconst 1, 1) := by decide +kernel
theorem dX8_feed_37 : decode cX8_feed 37 = .ok (.isub, 1) := by decide +kernel
theorem dX8_feed_38 : decode cX8_feed 38 = .ok (.istore 4, 2) := by decide +kernel
theorem dX8_feed_40 : decode cX8_feed 40 = .ok (.iload 4, 2) := by decide +kernel
theorem dX8_feed_42 : decode cX8_feed 42 = .ok (.ifCond .lt 40, 3) := by decide +kernel
theorem dX8_feed_45 : decode cX8_feed 45 = .ok (.aload_n 0, 1) := by decide +kernel
theorem dX8_feed_46 : decode cX8_feed 46 = .ok (.getfield 50, 3) := by decide +kernel
theorem dX8_feed_49 : decode cX8_feed 49 = .ok (.aload_n 0, 1) := by decide +kernel
theorem dX8_feed_50 : decode cX8_feed 50 = .ok (.getfield 105, 3) := by decide +kernel
theorem dX8_feed_53 : decode cX8_feed 53 = .ok (.lload_n 1, 1) := by decide +kernel
theorem dX8_feed_54 : decode cX8_feed 54 = .ok (.bipush 8, 2) := by decide +kernel
theorem dX8_feed_56 : decode cX8_feed 56 = .ok (.iload 4, 2) := by decide +kernel
theorem dX8_feed_58 : decode cX8_feed 58 = .ok (.imul, 1) := by decide +kernel
theorem dX8_feed_59 : decode cX8_feed 59 = .ok (.lshr, 1) := by decide +kernel
theorem dX8_feed_60 : decode cX8_feed 60 = .ok (.ldc2_w 109, 3) := by decide +kernel
theorem dX8_feed_63 : decode cX8_feed 63 = .ok (.land, 1) := by decide +kernel
theorem dX8_feed_64 : decode cX8_feed 64 = .ok (.l2i, 1) := by decide +kernel
theorem dX8_feed_65 : decode cX8_feed 65 = .ok (.iastore, 1) := by decide +kernel
theorem dX8_feed_66 : decode cX8_feed 66 = .ok (.aload_n 0, 1) := by decide +kernel
theorem dX8_feed_67 : decode cX8_feed 67 = .ok (.dup, 1) := by decide +kernel
theorem dX8_feed_68 : decode cX8_feed 68 = .ok (.getfield 105, 3) := by decide +kernel
theorem dX8_feed_71 : decode cX8_feed 71 = .ok (.iconst 1, 1) := by decide +kernel
theorem dX8_feed_72 : decode cX8_feed 72 = .ok (.iadd, 1) := by decide +kernel
theorem dX8_feed_73 : decode cX8_feed 73 = .ok (.putfield 105, 3) := by decide +kernel
theorem dX8_feed_76 : decode cX8_feed 76 = .ok (.iinc 4 (-1), 3) := by decide +kernel
theorem dX8_feed_79 : decode cX8_feed 79 = .ok (.goto (-39), 3) := by decide +kernel
theorem dX8_feed_82 : decode cX8_feed 82 = .ok (.aload_n 0, 1) := by decide +kernel
theorem dX8_feed_83 : decode cX8_feed 83 = .ok (.getfield 105, 3) := by decide +kernel
theorem dX8_feed_86 : decode cX8_feed 86 = .ok (.ireturn, 1) := by decide +kernel
theorem dX8_byteAt_0 : decode cX8_byteAt 0 = .ok (.iload_n 1, 1) := by decide +kernel
theorem dX8_byteAt_1 : decode cX8_byteAt 1 = .ok (.aload_n 0, 1) := by decide +kernel
theorem dX8_byteAt_2 : decode cX8_byteAt 2 = .ok (.getfield 111, 3) := by decide +kernel
theorem dX8_byteAt_5 : decode cX8_byteAt 5 = .ok (.if_icmp .ge 12, 3) := by decide +kernel
theorem dX8_byteAt_8 : decode cX8_byteAt 8 = .ok (.aload_n 0, 1) := by decide +kernel
theorem dX8_byteAt_9 : decode cX8_byteAt 9 = .ok (.getfield 50, 3) := by decide +kernel
theorem dX8_byteAt_12 : decode cX8_byteAt 12 = .ok (.iload_n 1, 1) := by decide +kernel
theorem dX8_byteAt_13 : decode cX8_byteAt 13 = .ok (.iaload, 1) := by decide +kernel
theorem dX8_byteAt_14 : decode cX8_byteAt 14 = .ok (.goto 5, 3) := by decide +kernel
theorem dX8_byteAt_17 : decode cX8_byteAt 17 = .ok (.ldc 114, 2) := by decide +kernel
theorem dX8_byteAt_19 : decode cX8_byteAt 19 = .ok (.ireturn, 1) := by decide +kernel
theorem dX8_isLetter_0 : decode cX8_isLetter 0 = .ok (.iload_n 0, 1) := by decide +kernel
theorem dX8_isLetter_1 : decode cX8_isLetter 1 = .ok (.bipush 97, 2) := by decide +kernel
theorem dX8_isLetter_3 : decode cX8_isLetter 3 = .ok (.if_icmp .lt 13, 3) := by decide +kernel
theorem dX8_isLetter_6 : decode cX8_isLetter 6 = .ok (.iload_n 0, 1) := by decide +kernel
theorem dX8_isLetter_7 : decode cX8_isLetter 7 = .ok (.bipush 122, 2) := by decide +kernel
theorem dX8_isLetter_9 : decode cX8_isLetter 9 = .ok (.if_icmp .gt 7, 3) := by decide +kernel
theorem dX8_isLetter_12 : decode cX8_isLetter 12 = .ok (.iconst 1, 1) := by decide +kernel
theorem dX8_isLetter_13 : decode cX8_isLetter 13 = .ok (.goto 4, 3) := by decide +kernel
theorem dX8_isLetter_16 : decode cX8_isLetter 16 = .ok (.iconst 0, 1) := by decide +kernel
theorem dX8_isLetter_17 : decode cX8_isLetter 17 = .ok (.ireturn, 1) := by decide +kernel
theorem dX8_isFigure_0 : decode cX8_isFigure 0 = .ok (.iload_n 0, 1) := by decide +kernel
theorem dX8_isFigure_1 : decode cX8_isFigure 1 = .ok (.bipush 48, 2) := by decide +kernel
theorem dX8_isFigure_3 : decode cX8_isFigure 3 = .ok (.if_icmp .lt 13, 3) := by decide +kernel
theorem dX8_isFigure_6 : decode cX8_isFigure 6 = .ok (.iload_n 0, 1) := by decide +kernel
theorem dX8_isFigure_7 : decode cX8_isFigure 7 = .ok (.bipush 57, 2) := by decide +kernel
theorem dX8_isFigure_9 : decode cX8_isFigure 9 = .ok (.if_icmp .gt 7, 3) := by decide +kernel
theorem dX8_isFigure_12 : decode cX8_isFigure 12 = .ok (.iconst 1, 1) := by decide +kernel
theorem dX8_isFigure_13 : decode cX8_isFigure 13 = .ok (.goto 4, 3) := by decide +kernel
theorem dX8_isFigure_16 : decode cX8_isFigure 16 = .ok (.iconst 0, 1) := by decide +kernel
theorem dX8_isFigure_17 : decode cX8_isFigure 17 = .ok (.ireturn, 1) := by decide +kernel
theorem dX8_next_0 : decode cX8_next 0 = .ok (.aload_n 0, 1) := by decide +kernel
theorem dX8_next_1 : decode cX8_next 1 = .ok (.aload_n 0, 1) := by decide +kernel
theorem dX8_next_2 : decode cX8_next 2 = .ok (.getfield 115, 3) := by decide +kernel
theorem dX8_next_5 : decode cX8_next 5 = .ok (.invokevirtual 118, 3) := by decide +kernel
theorem dX8_next_8 : decode cX8_next 8 = .ok (.bipush 32, 2) := by decide +kernel
theorem dX8_next_10 : decode cX8_next 10 = .ok (.if_icmp .eq 16, 3) := by decide +kernel
theorem dX8_next_13 : decode cX8_next 13 = .ok (.aload_n 0, 1) := by decide +kernel
theorem dX8_next_14 : decode cX8_next 14 = .ok (.aload_n 0, 1) := by decide +kernel
theorem dX8_next_15 : decode cX8_next 15 = .ok (.getfield 115, 3) := by decide +kernel
theorem dX8_next_18 : decode cX8_next 18 = .ok (.invokevirtual 118, 3) := by decide +kernel
theorem dX8_next_21 : decode cX8_next 21 = .ok (.bipush 10, 2) := by decide +kernel
theorem dX8_next_23 : decode cX8_next 23 = .ok (.if_icmp .ne 16, 3) := by decide +kernel
theorem dX8_next_26 : decode cX8_next 26 = .ok (.aload_n 0, 1) := by decide +kernel
theorem dX8_next_27 : decode cX8_next 27 = .ok (.dup, 1) := by decide +kernel
theorem dX8_next_28 : decode cX8_next 28 = .ok (.getfield 115, 3) := by decide +kernel
theorem dX8_next_31 : decode cX8_next 31 = .ok (.iconst 1, 1) := by decide +kernel
theorem dX8_next_32 : decode cX8_next 32 = .ok (.iadd, 1) := by decide +kernel
theorem dX8_next_33 : decode cX8_next 33 = .ok (.putfield 115, 3) := by decide +kernel
theorem dX8_next_36 : decode cX8_next 36 = .ok (.goto (-36), 3) := by decide +kernel
theorem dX8_next_39 : decode cX8_next 39 = .ok (.aload_n 0, 1) := by decide +kernel
theorem dX8_next_40 : decode cX8_next 40 = .ok (.aload_n 0, 1) := by decide +kernel
theorem dX8_next_41 : decode cX8_next 41 = .ok (.getfield 115, 3) := by decide +kernel
theorem dX8_next_44 : decode cX8_next 44 = .ok (.putfield 121, 3) := by decide +kernel
theorem dX8_next_47 : decode cX8_next 47 = .ok (.aload_n 0, 1) := by decide +kernel
theorem dX8_next_48 : decode cX8_next 48 = .ok (.aload_n 0, 1) := by decide +kernel
theorem dX8_next_49 : decode cX8_next 49 = .ok (.getfield 115, 3) := by decide +kernel
theorem dX8_next_52 : decode cX8_next 52 = .ok (.invokevirtual 118, 3) := by decide +kernel
theorem dX8_next_55 : decode cX8_next 55 = .ok (.istore_n 1, 1) := by decide +kernel
theorem dX8_next_56 : decode cX8_next 56 = .ok (.iload_n 1, 1) := by decide +kernel
theorem dX8_next_57 : decode cX8_next 57 = .ok (.ldc 114, 2) := by decide +kernel
theorem dX8_next_59 : decode cX8_next 59 = .ok (.if_icmp .ne 11, 3) := by decide +kernel
theorem dX8_next_62 : decode cX8_next 62 = .ok (.aload_n 0, 1) := by decide +kernel
theorem dX8_next_63 : decode cX8_next 63 = .ok (.iconst 1, 1) := by decide +kernel
theorem dX8_next_64 : decode cX8_next 64 = .ok (.putfield 124, 3) := by decide +kernel
theorem dX8_next_67 : decode cX8_next 67 = .ok (.goto 129, 3) := by decide +kernel
theorem dX8_next_70 : decode cX8_next 70 = .ok (.iload_n 1, 1) := by decide +kernel
theorem dX8_next_71 : decode cX8_next 71 = .ok (.invokestatic 127, 3) := by decide +kernel
theorem dX8_next_74 : decode cX8_next 74 = .ok (.ifCond .eq 38, 3) := by decide +kernel
theorem dX8_next_77 : decode cX8_next 77 = .ok (.aload_n 0, 1) := by decide +kernel
theorem dX8_next_78 : decode cX8_next 78 = .ok (.aload_n 0, 1) := by decide +kernel
theorem dX8_next_79 : decode cX8_next 79 = .ok (.getfield 115, 3) := by decide +kernel
theorem dX8_next_82 : decode cX8_next 82 = .ok (.invokevirtual 118, 3) := by decide +kernel
theorem dX8_next_85 : decode cX8_next 85 = .ok (.invokestatic 127, 3) := by decide +kernel
theorem dX8_next_88 : decode cX8_next 88 = .ok (.ifCond .eq 16, 3) := by decide +kernel
theorem dX8_next_91 : decode cX8_next 91 = .ok (.aload_n 0, 1) := by decide +kernel
theorem dX8_next_92 : decode cX8_next 92 = .ok (.dup, 1) := by decide +kernel
theorem dX8_next_93 : decode cX8_next 93 = .ok (.getfield 115, 3) := by decide +kernel
theorem dX8_next_96 : decode cX8_next 96 = .ok (.iconst 1, 1) := by decide +kernel
theorem dX8_next_97 : decode cX8_next 97 = .ok (.iadd, 1) := by decide +kernel
theorem dX8_next_98 : decode cX8_next 98 = .ok (.putfield 115, 3) := by decide +kernel
theorem dX8_next_101 : decode cX8_next 101 = .ok (.goto (-24), 3) := by decide +kernel
theorem dX8_next_104 : decode cX8_next 104 = .ok (.aload_n 0, 1) := by decide +kernel
theorem dX8_next_105 : decode cX8_next 105 = .ok (.iconst 2, 1) := by decide +kernel
theorem dX8_next_106 : decode cX8_next 106 = .ok (.putfield 124, 3) := by decide +kernel
theorem dX8_next_109 : decode cX8_next 109 = .ok (.goto 87, 3) := by decide +kernel
theorem dX8_next_112 : decode cX8_next 112 = .ok (.iload_n 1, 1) := by decide +kernel
theorem dX8_next_113 : decode cX8_next 113 = .ok (.invokestatic 130, 3) := by decide +kernel
theorem dX8_next_116 : decode cX8_next 116 = .ok (.ifCond .eq 55, 3) := by decide +kernel
theorem dX8_next_119 : decode cX8_next 119 = .ok (.aload_n 0, 1) := by decide +kernel
theorem dX8_next_120 : decode cX8_next 120 = .ok (.aload_n 0, 1) := by decide +kernel
theorem dX8_next_121 : decode cX8_next 121 = .ok (.getfield 115, 3) := by decide +kernel
theorem dX8_next_124 : decode cX8_next 124 = .ok (.invokevirtual 118, 3) := by decide +kernel
theorem dX8_next_127 : decode cX8_next 127 = .ok (.invokestatic 130, 3) := by decide +kernel
theorem dX8_next_130 : decode cX8_next 130 = .ok (.ifCond .eq 16, 3) := by decide +kernel
theorem dX8_next_133 : decode cX8_next 133 = .ok (.aload_n 0, 1) := by decide +kernel
theorem dX8_next_134 : decode cX8_next 134 = .ok (.dup, 1) := by decide +kernel
theorem dX8_next_135 : decode cX8_next 135 = .ok (.getfield 115, 3) := by decide +kernel
theorem dX8_next_138 : decode cX8_next 138 = .ok (.iconst 1, 1) := by decide +kernel
theorem dX8_next_139 : decode cX8_next 139 = .ok (.iadd, 1) := by decide +kernel
theorem dX8_next_140 : decode cX8_next 140 = .ok (.putfield 115, 3) := by decide +kernel
theorem dX8_next_143 : decode cX8_next 143 = .ok (.goto (-24), 3) := by decide +kernel
theorem dX8_next_146 : decode cX8_next 146 = .ok (.aload_n 0, 1) := by decide +kernel
theorem dX8_next_147 : decode cX8_next 147 = .ok (.aload_n 0, 1) := by decide +kernel
theorem dX8_next_148 : decode cX8_next 148 = .ok (.getfield 115, 3) := by decide +kernel
theorem dX8_next_151 : decode cX8_next 151 = .ok (.aload_n 0, 1) := by decide +kernel
theorem dX8_next_152 : decode cX8_next 152 = .ok (.getfield 121, 3) := by decide +kernel
theorem dX8_next_155 : decode cX8_next 155 = .ok (.isub, 1) := by decide +kernel
theorem dX8_next_156 : decode cX8_next 156 = .ok (.iconst 4, 1) := by decide +kernel
theorem dX8_next_157 : decode cX8_next 157 = .ok (.if_icmp .le 7, 3) := by decide +kernel
theorem dX8_next_160 : decode cX8_next 160 = .ok (.iconst 0, 1) := by decide +kernel
theorem dX8_next_161 : decode cX8_next 161 = .ok (.goto 4, 3) := by decide +kernel
theorem dX8_next_164 : decode cX8_next 164 = .ok (.iconst 3, 1) := by decide +kernel
theorem dX8_next_165 : decode cX8_next 165 = .ok (.putfield 124, 3) := by decide +kernel
theorem dX8_next_168 : decode cX8_next 168 = .ok (.goto 28, 3) := by decide +kernel
theorem dX8_next_171 : decode cX8_next 171 = .ok (.aload_n 0, 1) := by decide +kernel
theorem dX8_next_172 : decode cX8_next 172 = .ok (.dup, 1) := by decide +kernel
theorem dX8_next_173 : decode cX8_next 173 = .ok (.getfield 115, 3) := by decide +kernel
theorem dX8_next_176 : decode cX8_next 176 = .ok (.iconst 1, 1) := by decide +kernel
theorem dX8_next_177 : decode cX8_next 177 = .ok (.iadd, 1) := by decide +kernel
theorem dX8_next_178 : decode cX8_next 178 = .ok (.putfield 115, 3) := by decide +kernel
theorem dX8_next_181 : decode cX8_next 181 = .ok (.aload_n 0, 1) := by decide +kernel
theorem dX8_next_182 : decode cX8_next 182 = .ok (.iload_n 1, 1) := by decide +kernel
theorem dX8_next_183 : decode cX8_next 183 = .ok (.bipush 59, 2) := by decide +kernel
theorem dX8_next_185 : decode cX8_next 185 = .ok (.if_icmp .ne 7, 3) := by decide +kernel
theorem dX8_next_188 : decode cX8_next 188 = .ok (.iconst 4, 1) := by decide +kernel
theorem dX8_next_189 : decode cX8_next 189 = .ok (.goto 4, 3) := by decide +kernel
theorem dX8_next_192 : decode cX8_next 192 = .ok (.iconst 0, 1) := by decide +kernel
theorem dX8_next_193 : decode cX8_next 193 = .ok (.putfield 124, 3) := by decide +kernel
theorem dX8_next_196 : decode cX8_next 196 = .ok (.aload_n 0, 1) := by decide +kernel
theorem dX8_next_197 : decode cX8_next 197 = .ok (.aload_n 0, 1) := by decide +kernel
theorem dX8_next_198 : decode cX8_next 198 = .ok (.getfield 115, 3) := by decide +kernel
theorem dX8_next_201 : decode cX8_next 201 = .ok (.putfield 133, 3) := by decide +kernel
theorem dX8_next_204 : decode cX8_next 204 = .ok (.return_, 1) := by decide +kernel
theorem dX8_bad_0 : decode cX8_bad 0 = .ok (.aload_n 0, 1) := by decide +kernel
theorem dX8_bad_1 : decode cX8_bad 1 = .ok (.getfield 136, 3) := by decide +kernel
theorem dX8_bad_4 : decode cX8_bad 4 = .ok (.ifCond .ne 16, 3) := by decide +kernel
theorem dX8_bad_7 : decode cX8_bad 7 = .ok (.aload_n 0, 1) := by decide +kernel
theorem dX8_bad_8 : decode cX8_bad 8 = .ok (.iload_n 1, 1) := by decide +kernel
theorem dX8_bad_9 : decode cX8_bad 9 = .ok (.putfield 136, 3) := by decide +kernel
theorem dX8_bad_12 : decode cX8_bad 12 = .ok (.aload_n 0, 1) := by decide +kernel
theorem dX8_bad_13 : decode cX8_bad 13 = .ok (.aload_n 0, 1) := by decide +kernel
theorem dX8_bad_14 : decode cX8_bad 14 = .ok (.getfield 121, 3) := by decide +kernel
theorem dX8_bad_17 : decode cX8_bad 17 = .ok (.putfield 139, 3) := by decide +kernel
theorem dX8_bad_20 : decode cX8_bad 20 = .ok (.return_, 1) := by decide +kernel
theorem dX8_must_0 : decode cX8_must 0 = .ok (.iload_n 1, 1) := by decide +kernel
theorem dX8_must_1 : decode cX8_must 1 = .ok (.ifCond .ne 8, 3) := by decide +kernel
theorem dX8_must_4 : decode cX8_must 4 = .ok (.aload_n 0, 1) := by decide +kernel
theorem dX8_must_5 : decode cX8_must 5 = .ok (.iconst 1, 1) := by decide +kernel
theorem dX8_must_6 : decode cX8_must 6 = .ok (.invokevirtual 142, 3) := by decide +kernel
theorem dX8_must_9 : decode cX8_must 9 = .ok (.aload_n 0, 1) := by decide +kernel
theorem dX8_must_10 : decode cX8_must 10 = .ok (.getfield 136, 3) := by decide +kernel
theorem dX8_must_13 : decode cX8_must 13 = .ok (.ifCond .ne 7, 3) := by decide +kernel
theorem dX8_must_16 : decode cX8_must 16 = .ok (.aload_n 0, 1) := by decide +kernel
theorem dX8_must_17 : decode cX8_must 17 = .ok (.invokevirtual 146, 3) := by decide +kernel
theorem dX8_must_20 : decode cX8_must 20 = .ok (.return_, 1) := by decide +kernel
theorem dX8_word_0 : decode cX8_word 0 = .ok (.lconst 0, 1) := by decide +kernel
theorem dX8_word_1 : decode cX8_word 1 = .ok (.lstore_n 1, 1) := by decide +kernel
theorem dX8_word_2 : decode cX8_word 2 = .ok (.aload_n 0, 1) := by decide +kernel
theorem dX8_word_3 : decode cX8_word 3 = .ok (.getfield 121, 3) := by decide +kernel
theorem dX8_word_6 : decode cX8_word 6 = .ok (.istore_n 3, 1) := by decide +kernel
theorem dX8_word_7 : decode cX8_word 7 = .ok (.iload_n 3, 1) := by decide +kernel
theorem dX8_word_8 : decode cX8_word 8 = .ok (.aload_n 0, 1) := by decide +kernel
theorem dX8_word_9 : decode cX8_word 9 = .ok (.getfield 133, 3) := by decide +kernel
theorem dX8_word_12 : decode cX8_word 12 = .ok (.if_icmp .ge 44, 3) := by decide +kernel
theorem dX8_word_15 : decode cX8_word 15 = .ok (.aload_n 0, 1) := by decide +kernel
theorem dX8_word_16 : decode cX8_word 16 = .ok (.getfield 124, 3) := by decide +kernel
theorem dX8_word_19 : decode cX8_word 19 = .ok (.iconst 2, 1) := by decide +kernel
theorem dX8_word_20 : decode cX8_word 20 = .ok (.if_icmp .ne 36, 3) := by decide +kernel
theorem dX8_word_23 : decode cX8_word 23 = .ok (.aload_n 0, 1) := by decide +kernel
theorem dX8_word_24 : decode cX8_word 24 = .ok (.getfield 133, 3) := by decide +kernel
theorem dX8_word_27 : decode cX8_word 27 = .ok (.aload_n 0, 1) := by decide +kernel
theorem dX8_word_28 : decode cX8_word 28 = .ok (.getfield 121, 3) := by decide +kernel
theorem dX8_word_31 : decode cX8_word 31 = .ok (.isub, 1) := by decide +kernel
theorem dX8_word_32 : decode cX8_word 32 = .ok (.bipush 8, 2) := by decide +kernel
theorem dX8_word_34 : decode cX8_word 34 = .ok (.if_icmp .ge 22, 3) := by decide +kernel
theorem dX8_word_37 : decode cX8_word 37 = .ok (.lload_n 1, 1) := by decide +kernel
theorem dX8_word_38 : decode cX8_word 38 = .ok (.bipush 8, 2) := by decide +kernel
theorem dX8_word_40 : decode cX8_word 40 = .ok (.lshl, 1) := by decide +kernel
theorem dX8_word_41 : decode cX8_word 41 = .ok (.aload_n 0, 1) := by decide +kernel
theorem dX8_word_42 : decode cX8_word 42 = .ok (.getfield 50, 3) := by decide +kernel
theorem dX8_word_45 : decode cX8_word 45 = .ok (.iload_n 3, 1) := by decide +kernel
theorem dX8_word_46 : decode cX8_word 46 = .ok (.iaload, 1) := by decide +kernel
theorem dX8_word_47 : decode cX8_word 47 = .ok (.i2l, 1) := by decide +kernel
theorem dX8_word_48 : decode cX8_word 48 = .ok (.lor, 1) := by decide +kernel
theorem dX8_word_49 : decode cX8_word 49 = .ok (.lstore_n 1, 1) := by decide +kernel
theorem dX8_word_50 : decode cX8_word 50 = .ok (.iinc 3 1, 3) := by decide +kernel
theorem dX8_word_53 : decode cX8_word 53 = .ok (.goto (-46), 3) := by decide +kernel
theorem dX8_word_56 : decode cX8_word 56 = .ok (.lload_n 1, 1) := by decide +kernel
theorem dX8_word_57 : decode cX8_word 57 = .ok (.lreturn, 1) := by decide +kernel
theorem dX8_numberHere_0 : decode cX8_numberHere 0 = .ok (.iconst 0, 1) := by decide +kernel
theorem dX8_numberHere_1 : decode cX8_numberHere 1 = .ok (.istore_n 1, 1) := by decide +kernel
theorem dX8_numberHere_2 : decode cX8_numberHere 2 = .ok (.aload_n 0, 1) := by decide +kernel
theorem dX8_numberHere_3 : decode cX8_numberHere 3 = .ok (.getfield 121, 3) := by decide +kernel
theorem dX8_numberHere_6 : decode cX8_numberHere 6 = .ok (.istore_n 2, 1) := by decide +kernel
theorem dX8_numberHere_7 : decode cX8_numberHere 7 = .ok (.iload_n 2, 1) := by decide +kernel
theorem dX8_numberHere_8 : decode cX8_numberHere 8 = .ok (.aload_n 0, 1) := by decide +kernel
theorem dX8_numberHere_9 : decode cX8_numberHere 9 = .ok (.getfield 133, 3) := by decide +kernel
theorem dX8_numberHere_12 : decode cX8_numberHere 12 = .ok (.if_icmp .ge 32, 3) := by decide +kernel
theorem dX8_numberHere_15 : decode cX8_numberHere 15 = .ok (.aload_n 0, 1) := by decide +kernel
theorem dX8_numberHere_16 : decode cX8_numberHere 16 = .ok (.getfield 124, 3) := by decide +kernel
theorem dX8_numberHere_19 : decode cX8_numberHere 19 = .ok (.iconst 3, 1) := by decide +kernel
theorem dX8_numberHere_20 : decode cX8_numberHere 20 = .ok (.if_icmp .ne 24, 3) := by decide +kernel
theorem dX8_numberHere_23 : decode cX8_numberHere 23 = .ok (.bipush 10, 2) := by decide +kernel
theorem dX8_numberHere_25 : decode cX8_numberHere 25 = .ok (.iload_n 1, 1) := by decide +kernel
theorem dX8_numberHere_26 : decode cX8_numberHere 26 = .ok (.imul, 1) := by decide +kernel
theorem dX8_numberHere_27 : decode cX8_numberHere 27 = .ok (.aload_n 0, 1) := by decide +kernel
theorem dX8_numberHere_28 : decode cX8_numberHere 28 = .ok (.getfield 50, 3) := by decide +kernel
theorem dX8_numberHere_31 : decode cX8_numberHere 31 = .ok (.iload_n 2, 1) := by decide +kernel
theorem dX8_numberHere_32 : decode cX8_numberHere 32 = .ok (.iaload, 1) := by decide +kernel
theorem dX8_numberHere_33 : decode cX8_numberHere 33 = .ok (.iadd, 1) := by decide +kernel
theorem dX8_numberHere_34 : decode cX8_numberHere 34 = .ok (.bipush 48, 2) := by decide +kernel
theorem dX8_numberHere_36 : decode cX8_numberHere 36 = .ok (.isub, 1) := by decide +kernel
theorem dX8_numberHere_37 : decode cX8_numberHere 37 = .ok (.istore_n 1, 1) := by decide +kernel
theorem dX8_numberHere_38 : decode cX8_numberHere 38 = .ok (.iinc 2 1, 3) := by decide +kernel
theorem dX8_numberHere_41 : decode cX8_numberHere 41 = .ok (.goto (-34), 3) := by decide +kernel
theorem dX8_numberHere_44 : decode cX8_numberHere 44 = .ok (.iload_n 1, 1) := by decide +kernel
theorem dX8_numberHere_45 : decode cX8_numberHere 45 = .ok (.ireturn, 1) := by decide +kernel
theorem dX8_readNode_0 : decode cX8_readNode 0 = .ok (.aload_n 0, 1) := by decide +kernel
theorem dX8_readNode_1 : decode cX8_readNode 1 = .ok (.getfield 149, 3) := by decide +kernel
theorem dX8_readNode_4 : decode cX8_readNode 4 = .ok (.istore_n 3, 1) := by decide +kernel
theorem dX8_readNode_5 : decode cX8_readNode 5 = .ok (.aload_n 0, 1) := by decide +kernel
theorem dX8_readNode_6 : decode cX8_readNode 6 = .ok (.getfield 19, 3) := by decide +kernel
theorem dX8_readNode_9 : decode cX8_readNode 9 = .ok (.iload_n 3, 1) := by decide +kernel
theorem dX8_readNode_10 : decode cX8_readNode 10 = .ok (.lload_n 1, 1) := by decide +kernel
theorem dX8_readNode_11 : decode cX8_readNode 11 = .ok (.ldc2_w 152, 3) := by decide +kernel
theorem dX8_readNode_14 : decode cX8_readNode 14 = .ok (.lcmp, 1) := by decide +kernel
theorem dX8_readNode_15 : decode cX8_readNode 15 = .ok (.ifCond .ne 7, 3) := by decide +kernel
theorem dX8_readNode_18 : decode cX8_readNode 18 = .ok (.iconst 0, 1) := by decide +kernel
theorem dX8_readNode_19 : decode cX8_readNode 19 = .ok (.goto 16, 3) := by decide +kernel
theorem dX8_readNode_22 : decode cX8_readNode 22 = .ok (.lload_n 1, 1) := by decide +kernel
theorem dX8_readNode_23 : decode cX8_readNode 23 = .ok (.ldc2_w 154, 3) := by decide +kernel
theorem dX8_readNode_26 : decode cX8_readNode 26 = .ok (.lcmp, 1) := by decide +kernel
theorem dX8_readNode_27 : decode cX8_readNode 27 = .ok (.ifCond .ne 7, 3) := by decide +kernel
theorem dX8_readNode_30 : decode cX8_readNode 30 = .ok (.iconst 1, 1) := by decide +kernel
theorem dX8_readNode_31 : decode cX8_readNode 31 = .ok (.goto 4, 3) := by decide +kernel
theorem dX8_readNode_34 : decode cX8_readNode 34 = .ok (.iconst 2, 1) := by decide +kernel
theorem dX8_readNode_35 : decode cX8_readNode 35 = .ok (.iastore, 1) := by decide +kernel
theorem dX8_readNode_36 : decode cX8_readNode 36 = .ok (.aload_n 0, 1) := by decide +kernel
theorem dX8_readNode_37 : decode cX8_readNode 37 = .ok (.getfield 22, 3) := by decide +kernel
theorem dX8_readNode_40 : decode cX8_readNode 40 = .ok (.iload_n 3, 1) := by decide +kernel
theorem dX8_readNode_41 : decode cX8_readNode 41 = .ok (.ldc 114, 2) := by decide +kernel
theorem dX8_readNode_43 : decode cX8_readNode 43 = .ok (.iastore, 1) := by decide +kernel
theorem dX8_readNode_44 : decode cX8_readNode 44 = .ok (.aload_n 0, 1) := by decide +kernel
theorem dX8_readNode_45 : decode cX8_readNode 45 = .ok (.getfield 25, 3) := by decide +kernel
theorem dX8_readNode_48 : decode cX8_readNode 48 = .ok (.iload_n 3, 1) := by decide +kernel
theorem dX8_readNode_49 : decode cX8_readNode 49 = .ok (.lload_n 1, 1) := by decide +kernel
theorem dX8_readNode_50 : decode cX8_readNode 50 = .ok (.ldc2_w 156, 3) := by decide +kernel
theorem dX8_readNode_53 : decode cX8_readNode 53 = .ok (.lcmp, 1) := by decide +kernel
theorem dX8_readNode_54 : decode cX8_readNode 54 = .ok (.ifCond .ne 8, 3) := by decide +kernel
theorem dX8_readNode_57 : decode cX8_readNode 57 = .ok (.ldc 114, 2) := by decide +kernel
theorem dX8_readNode_59 : decode cX8_readNode 59 = .ok (.goto 4, 3) := by decide +kernel
theorem dX8_readNode_62 : decode cX8_readNode 62 = .ok (.iconst 0, 1) := by decide +kernel
theorem dX8_readNode_63 : decode cX8_readNode 63 = .ok (.iastore, 1) := by decide +kernel
theorem dX8_readNode_64 : decode cX8_readNode 64 = .ok (.aload_n 0, 1) := by decide +kernel
theorem dX8_readNode_65 : decode cX8_readNode 65 = .ok (.getfield 28, 3) := by decide +kernel
theorem dX8_readNode_68 : decode cX8_readNode 68 = .ok (.iload_n 3, 1) := by decide +kernel
theorem dX8_readNode_69 : decode cX8_readNode 69 = .ok (.lload_n 1, 1) := by decide +kernel
theorem dX8_readNode_70 : decode cX8_readNode 70 = .ok (.ldc2_w 156, 3) := by decide +kernel
theorem dX8_readNode_73 : decode cX8_readNode 73 = .ok (.lcmp, 1) := by decide +kernel
theorem dX8_readNode_74 : decode cX8_readNode 74 = .ok (.ifCond .ne 8, 3) := by decide +kernel
theorem dX8_readNode_77 : decode cX8_readNode 77 = .ok (.ldc 114, 2) := by decide +kernel
theorem dX8_readNode_79 : decode cX8_readNode 79 = .ok (.goto 6, 3) := by decide +kernel
theorem dX8_readNode_82 : decode cX8_readNode 82 = .ok (.sipush 9999, 3) := by decide +kernel
theorem dX8_readNode_85 : decode cX8_readNode 85 = .ok (.iastore, 1) := by decide +kernel
theorem dX8_readNode_86 : decode cX8_readNode 86 = .ok (.aload_n 0, 1) := by decide +kernel
theorem dX8_readNode_87 : decode cX8_readNode 87 = .ok (.getfield 31, 3) := by decide +kernel
theorem dX8_readNode_90 : decode cX8_readNode 90 = .ok (.iload_n 3, 1) := by decide +kernel
theorem dX8_readNode_91 : decode cX8_readNode 91 = .ok (.iconst 0, 1) := by decide +kernel
theorem dX8_readNode_92 : decode cX8_readNode 92 = .ok (.bastore, 1) := by decide +kernel
theorem dX8_readNode_93 : decode cX8_readNode 93 = .ok (.lload_n 1, 1) := by decide +kernel
theorem dX8_readNode_94 : decode cX8_readNode 94 = .ok (.ldc2_w 156, 3) := by decide +kernel
theorem dX8_readNode_97 : decode cX8_readNode 97 = .ok (.lcmp, 1) := by decide +kernel
theorem dX8_readNode_98 : decode cX8_readNode 98 = .ok (.ifCond .eq 54, 3) := by decide +kernel
theorem dX8_readNode_101 : decode cX8_readNode 101 = .ok (.aload_n 0, 1) := by decide +kernel
theorem dX8_readNode_102 : decode cX8_readNode 102 = .ok (.getfield 22, 3) := by decide +kernel
theorem dX8_readNode_105 : decode cX8_readNode 105 = .ok (.iload_n 3, 1) := by decide +kernel
theorem dX8_readNode_106 : decode cX8_readNode 106 = .ok (.aload_n 0, 1) := by decide +kernel
theorem dX8_readNode_107 : decode cX8_readNode 107 = .ok (.invokevirtual 158, 3) := by decide +kernel
theorem dX8_readNode_110 : decode cX8_readNode 110 = .ok (.iastore, 1) := by decide +kernel
theorem dX8_readNode_111 : decode cX8_readNode 111 = .ok (.aload_n 0, 1) := by decide +kernel
theorem dX8_readNode_112 : decode cX8_readNode 112 = .ok (.getfield 124, 3) := by decide +kernel
theorem dX8_readNode_115 : decode cX8_readNode 115 = .ok (.iconst 3, 1) := by decide +kernel
theorem dX8_readNode_116 : decode cX8_readNode 116 = .ok (.if_icmp .ne 19, 3) := by decide +kernel
theorem dX8_readNode_119 : decode cX8_readNode 119 = .ok (.aload_n 0, 1) := by decide +kernel
theorem dX8_readNode_120 : decode cX8_readNode 120 = .ok (.getfield 22, 3) := by decide +kernel
theorem dX8_readNode_123 : decode cX8_readNode 123 = .ok (.iload_n 3, 1) := by decide +kernel
theorem dX8_readNode_124 : decode cX8_readNode 124 = .ok (.iaload, 1) := by decide +kernel
theorem dX8_readNode_125 : decode cX8_readNode 125 = .ok (.bipush 9, 2) := by decide +kernel
theorem dX8_readNode_127 : decode cX8_readNode 127 = .ok (.if_icmp .le 8, 3) := by decide +kernel
theorem dX8_readNode_130 : decode cX8_readNode 130 = .ok (.aload_n 0, 1) := by decide +kernel
theorem dX8_readNode_131 : decode cX8_readNode 131 = .ok (.iconst 2, 1) := by decide +kernel
theorem dX8_readNode_132 : decode cX8_readNode 132 = .ok (.invokevirtual 142, 3) := by decide +kernel
theorem dX8_readNode_135 : decode cX8_readNode 135 = .ok (.aload_n 0, 1) := by decide +kernel
theorem dX8_readNode_136 : decode cX8_readNode 136 = .ok (.aload_n 0, 1) := by decide +kernel
theorem dX8_readNode_137 : decode cX8_readNode 137 = .ok (.getfield 124, 3) := by decide +kernel
theorem dX8_readNode_140 : decode cX8_readNode 140 = .ok (.iconst 3, 1) := by decide +kernel
theorem dX8_readNode_141 : decode cX8_readNode 141 = .ok (.if_icmp .ne 7, 3) := by decide +kernel
theorem dX8_readNode_144 : decode cX8_readNode 144 = .ok (.iconst 1, 1) := by decide +kernel
theorem dX8_readNode_145 : decode cX8_readNode 145 = .ok (.goto 4, 3) := by decide +kernel
theorem dX8_readNode_148 : decode cX8_readNode 148 = .ok (.iconst 0, 1) := by decide +kernel
theorem dX8_readNode_149 : decode cX8_readNode 149 = .ok (.invokevirtual 162, 3) := by decide +kernel
theorem dX8_readNode_152 : decode cX8_readNode 152 = .ok (.aload_n 0, 1) := by decide +kernel
theorem dX8_readNode_153 : decode cX8_readNode 153 = .ok (.dup, 1) := by decide +kernel
theorem dX8_readNode_154 : decode cX8_readNode 154 = .ok (.getfield 149, 3) := by decide +kernel
theorem dX8_readNode_157 : decode cX8_readNode 157 = .ok (.iconst 1, 1) := by decide +kernel
theorem dX8_readNode_158 : decode cX8_readNode 158 = .ok (.iadd, 1) := by decide +kernel
theorem dX8_readNode_159 : decode cX8_readNode 159 = .ok (.putfield 149, 3) := by decide +kernel
theorem dX8_readNode_162 : decode cX8_readNode 162 = .ok (.return_, 1) := by decide +kernel
theorem dX8_isPart_0 : decode cX8_isPart 0 = .ok (.iconst 0, 1) := by decide +kernel
theorem dX8_isPart_1 : decode cX8_isPart 1 = .ok (.istore_n 3, 1) := by decide +kernel
theorem dX8_isPart_2 : decode cX8_isPart 2 = .ok (.iconst 0, 1) := by decide +kernel
theorem dX8_isPart_3 : decode cX8_isPart 3 = .ok (.istore 4, 2) := by decide +kernel
theorem dX8_isPart_5 : decode cX8_isPart 5 = .ok (.iload 4, 2) := by decide +kernel
theorem dX8_isPart_7 : decode cX8_isPart 7 = .ok (.aload_n 0, 1) := by decide +kernel
theorem dX8_isPart_8 : decode cX8_isPart 8 = .ok (.getfield 41, 3) := by decide +kernel
theorem dX8_isPart_11 : decode cX8_isPart 11 = .ok (.iload_n 1, 1) := by decide +kernel
theorem dX8_isPart_12 : decode cX8_isPart 12 = .ok (.iaload, 1) := by decide +kernel
theorem dX8_isPart_13 : decode cX8_isPart 13 = .ok (.if_icmp .ge 35, 3) := by decide +kernel
theorem dX8_isPart_16 : decode cX8_isPart 16 = .ok (.iload_n 3, 1) := by decide +kernel
theorem dX8_isPart_17 : decode cX8_isPart 17 = .ok (.ifCond .ne 19, 3) := by decide +kernel
theorem dX8_isPart_20 : decode cX8_isPart 20 = .ok (.aload_n 0, 1) := by decide +kernel
theorem dX8_isPart_21 : decode cX8_isPart 21 = .ok (.getfield 44, 3) := by decide +kernel
theorem dX8_isPart_24 : decode cX8_isPart 24 = .ok (.bipush 6, 2) := by decide +kernel
theorem dX8_isPart_26 : decode cX8_isPart 26 = .ok (.iload_n 1, 1) := by decide +kernel
theorem dX8_isPart_27 : decode cX8_isPart 27 = .ok (.imul, 1) := by decide +kernel
theorem dX8_isPart_28 : decode cX8_isPart 28 = .ok (.iload 4, 2) := by decide +kernel
theorem dX8_isPart_30 : decode cX8_isPart 30 = .ok (.iadd, 1) := by decide +kernel
theorem dX8_isPart_31 : decode cX8_isPart 31 = .ok (.iaload, 1) := by decide +kernel
theorem dX8_isPart_32 : decode cX8_isPart 32 = .ok (.iload_n 2, 1) := by decide +kernel
theorem dX8_isPart_33 : decode cX8_isPart 33 = .ok (.if_icmp .ne 7, 3) := by decide +kernel
theorem dX8_isPart_36 : decode cX8_isPart 36 = .ok (.iconst 1, 1) := by decide +kernel
theorem dX8_isPart_37 : decode cX8_isPart 37 = .ok (.goto 4, 3) := by decide +kernel
theorem dX8_isPart_40 : decode cX8_isPart 40 = .ok (.iconst 0, 1) := by decide +kernel
theorem dX8_isPart_41 : decode cX8_isPart 41 = .ok (.istore_n 3, 1) := by decide +kernel
theorem dX8_isPart_42 : decode cX8_isPart 42 = .ok (.iinc 4 1, 3) := by decide +kernel
theorem dX8_isPart_45 : decode cX8_isPart 45 = .ok (.goto (-40), 3) := by decide +kernel
theorem dX8_isPart_48 : decode cX8_isPart 48 = .ok (.iload_n 3, 1) := by decide +kernel
theorem dX8_isPart_49 : decode cX8_isPart 49 = .ok (.ireturn, 1) := by decide +kernel
theorem dX8_readStep_0 : decode cX8_readStep 0 = .ok (.aload_n 0, 1) := by decide +kernel
theorem dX8_readStep_1 : decode cX8_readStep 1 = .ok (.getfield 166, 3) := by decide +kernel
theorem dX8_readStep_4 : decode cX8_readStep 4 = .ok (.istore_n 1, 1) := by decide +kernel
theorem dX8_readStep_5 : decode cX8_readStep 5 = .ok (.aload_n 0, 1) := by decide +kernel
theorem dX8_readStep_6 : decode cX8_readStep 6 = .ok (.invokevirtual 169, 3) := by decide +kernel
theorem dX8_readStep_9 : decode cX8_readStep 9 = .ok (.lstore_n 2, 1) := by decide +kernel
theorem dX8_readStep_10 : decode cX8_readStep 10 = .ok (.aload_n 0, 1) := by decide +kernel
theorem dX8_readStep_11 : decode cX8_readStep 11 = .ok (.getfield 35, 3) := by decide +kernel
theorem dX8_readStep_14 : decode cX8_readStep 14 = .ok (.iload_n 1, 1) := by decide +kernel
theorem dX8_readStep_15 : decode cX8_readStep 15 = .ok (.lload_n 2, 1) := by decide +kernel
theorem dX8_readStep_16 : decode cX8_readStep 16 = .ok (.ldc2_w 173, 3) := by decide +kernel
theorem dX8_readStep_19 : decode cX8_readStep 19 = .ok (.lcmp, 1) := by decide +kernel
theorem dX8_readStep_20 : decode cX8_readStep 20 = .ok (.ifCond .ne 7, 3) := by decide +kernel
theorem dX8_readStep_23 : decode cX8_readStep 23 = .ok (.iconst 0, 1) := by decide +kernel
theorem dX8_readStep_24 : decode cX8_readStep 24 = .ok (.goto 41, 3) := by decide +kernel
theorem dX8_readStep_27 : decode cX8_readStep 27 = .ok (.lload_n 2, 1) := by decide +kernel
theorem dX8_readStep_28 : decode cX8_readStep 28 = .ok (.ldc2_w 175, 3) := by decide +kernel
theorem dX8_readStep_31 : decode cX8_readStep 31 = .ok (.lcmp, 1) := by decide +kernel
theorem dX8_readStep_32 : decode cX8_readStep 32 = .ok (.ifCond .ne 7, 3) := by decide +kernel
theorem dX8_readStep_35 : decode cX8_readStep 35 = .ok (.iconst 1, 1) := by decide +kernel
theorem dX8_readStep_36 : decode cX8_readStep 36 = .ok (.goto 29, 3) := by decide +kernel
theorem dX8_readStep_39 : decode cX8_readStep 39 = .ok (.lload_n 2, 1) := by decide +kernel
theorem dX8_readStep_40 : decode cX8_readStep 40 = .ok (.ldc2_w 177, 3) := by decide +kernel
theorem dX8_readStep_43 : decode cX8_readStep 43 = .ok (.lcmp, 1) := by decide +kernel
theorem dX8_readStep_44 : decode cX8_readStep 44 = .ok (.ifCond .ne 7, 3) := by decide +kernel
theorem dX8_readStep_47 : decode cX8_readStep 47 = .ok (.iconst 2, 1) := by decide +kernel
theorem dX8_readStep_48 : decode cX8_readStep 48 = .ok (.goto 17, 3) := by decide +kernel
theorem dX8_readStep_51 : decode cX8_readStep 51 = .ok (.lload_n 2, 1) := by decide +kernel
theorem dX8_readStep_52 : decode cX8_readStep 52 = .ok (.ldc2_w 179, 3) := by decide +kernel
theorem dX8_readStep_55 : decode cX8_readStep 55 = .ok (.lcmp, 1) := by decide +kernel
theorem dX8_readStep_56 : decode cX8_readStep 56 = .ok (.ifCond .ne 7, 3) := by decide +kernel
theorem dX8_readStep_59 : decode cX8_readStep 59 = .ok (.iconst 3, 1) := by decide +kernel
theorem dX8_readStep_60 : decode cX8_readStep 60 = .ok (.goto 5, 3) := by decide +kernel
theorem dX8_readStep_63 : decode cX8_readStep 63 = .ok (.ldc 114, 2) := by decide +kernel
theorem dX8_readStep_65 : decode cX8_readStep 65 = .ok (.iastore, 1) := by decide +kernel
theorem dX8_readStep_66 : decode cX8_readStep 66 = .ok (.aload_n 0, 1) := by decide +kernel
theorem dX8_readStep_67 : decode cX8_readStep 67 = .ok (.aload_n 0, 1) := by decide +kernel
theorem dX8_readStep_68 : decode cX8_readStep 68 = .ok (.getfield 35, 3) := by decide +kernel
theorem dX8_readStep_71 : decode cX8_readStep 71 = .ok (.iload_n 1, 1) := by decide +kernel
theorem dX8_readStep_72 : decode cX8_readStep 72 = .ok (.iaload, 1) := by decide +kernel
theorem dX8_readStep_73 : decode cX8_readStep 73 = .ok (.ldc 114, 2) := by decide +kernel
theorem dX8_readStep_75 : decode cX8_readStep 75 = .ok (.if_icmp .eq 7, 3) := by decide +kernel
theorem dX8_readStep_78 : decode cX8_readStep 78 = .ok (.iconst 1, 1) := by decide +kernel
theorem dX8_readStep_79 : decode cX8_readStep 79 = .ok (.goto 4, 3) := by decide +kernel
theorem dX8_readStep_82 : decode cX8_readStep 82 = .ok (.iconst 0, 1) := by decide +kernel
theorem dX8_readStep_83 : decode cX8_readStep 83 = .ok (.invokevirtual 162, 3) := by decide +kernel
theorem dX8_readStep_86 : decode cX8_readStep 86 = .ok (.aload_n 0, 1) := by decide +kernel
theorem dX8_readStep_87 : decode cX8_readStep 87 = .ok (.getfield 136, 3) := by decide +kernel
theorem dX8_readStep_90 : decode cX8_readStep 90 = .ok (.ifCond .ne 71, 3) := by decide +kernel
theorem dX8_readStep_93 : decode cX8_readStep 93 = .ok (.aload_n 0, 1) := by decide +kernel
theorem dX8_readStep_94 : decode cX8_readStep 94 = .ok (.getfield 38, 3) := by decide +kernel
theorem dX8_readStep_97 : decode cX8_readStep 97 = .ok (.iload_n 1, 1) := by decide +kernel
theorem dX8_readStep_98 : decode cX8_readStep 98 = .ok (.aload_n 0, 1) := by decide +kernel
theorem dX8_readStep_99 : decode cX8_readStep 99 = .ok (.invokevirtual 158, 3) := by decide +kernel
theorem dX8_readStep_102 : decode cX8_readStep 102 = .ok (.iastore, 1) := by decide +kernel
theorem dX8_readStep_103 : decode cX8_readStep 103 = .ok (.aload_n 0, 1) := by decide +kernel
theorem dX8_readStep_104 : decode cX8_readStep 104 = .ok (.getfield 124, 3) := by decide +kernel
theorem dX8_readStep_107 : decode cX8_readStep 107 = .ok (.iconst 3, 1) := by decide +kernel
theorem dX8_readStep_108 : decode cX8_readStep 108 = .ok (.if_icmp .ne 36, 3) := by decide +kernel
theorem dX8_readStep_111 : decode cX8_readStep 111 = .ok (.aload_n 0, 1) := by decide +kernel
theorem dX8_readStep_112 : decode cX8_readStep 112 = .ok (.getfield 38, 3) := by decide +kernel
theorem dX8_readStep_115 : decode cX8_readStep 115 = .ok (.iload_n 1, 1) := by decide +kernel
theorem dX8_readStep_116 : decode cX8_readStep 116 = .ok (.iaload, 1) := by decide +kernel
theorem dX8_readStep_117 : decode cX8_readStep 117 = .ok (.aload_n 0, 1) := by decide +kernel
theorem dX8_readStep_118 : decode cX8_readStep 118 = .ok (.getfield 149, 3) := by decide +kernel
theorem dX8_readStep_121 : decode cX8_readStep 121 = .ok (.if_icmp .ge 18, 3) := by decide +kernel
theorem dX8_readStep_124 : decode cX8_readStep 124 = .ok (.aload_n 0, 1) := by decide +kernel
theorem dX8_readStep_125 : decode cX8_readStep 125 = .ok (.getfield 19, 3) := by decide +kernel
theorem dX8_readStep_128 : decode cX8_readStep 128 = .ok (.aload_n 0, 1) := by decide +kernel
theorem dX8_readStep_129 : decode cX8_readStep 129 = .ok (.getfield 38, 3) := by decide +kernel
theorem dX8_readStep_132 : decode cX8_readStep 132 = .ok (.iload_n 1, 1) := by decide +kernel
theorem dX8_readStep_133 : decode cX8_readStep 133 = .ok (.iaload, 1) := by decide +kernel
theorem dX8_readStep_134 : decode cX8_readStep 134 = .ok (.iaload, 1) := by decide +kernel
theorem dX8_readStep_135 : decode cX8_readStep 135 = .ok (.iconst 2, 1) := by decide +kernel
theorem dX8_readStep_136 : decode cX8_readStep 136 = .ok (.if_icmp .eq 8, 3) := by decide +kernel
theorem dX8_readStep_139 : decode cX8_readStep 139 = .ok (.aload_n 0, 1) := by decide +kernel
theorem dX8_readStep_140 : decode cX8_readStep 140 = .ok (.iconst 2, 1) := by decide +kernel
theorem dX8_readStep_141 : decode cX8_readStep 141 = .ok (.invokevirtual 142, 3) := by decide +kernel
theorem dX8_readStep_144 : decode cX8_readStep 144 = .ok (.aload_n 0, 1) := by decide +kernel
theorem dX8_readStep_145 : decode cX8_readStep 145 = .ok (.aload_n 0, 1) := by decide +kernel
theorem dX8_readStep_146 : decode cX8_readStep 146 = .ok (.getfield 124, 3) := by decide +kernel
theorem dX8_readStep_149 : decode cX8_readStep 149 = .ok (.iconst 3, 1) := by decide +kernel
theorem dX8_readStep_150 : decode cX8_readStep 150 = .ok (.if_icmp .ne 7, 3) := by decide +kernel
theorem dX8_readStep_153 : decode cX8_readStep 153 = .ok (.iconst 1, 1) := by decide +kernel
theorem dX8_readStep_154 : decode cX8_readStep 154 = .ok (.goto 4, 3) := by decide +kernel
theorem dX8_readStep_157 : decode cX8_readStep 157 = .ok (.iconst 0, 1) := by decide +kernel
theorem dX8_readStep_158 : decode cX8_readStep 158 = .ok (.invokevirtual 162, 3) := by decide +kernel
theorem dX8_readStep_161 : decode cX8_readStep 161 = .ok (.aload_n 0, 1) := by decide +kernel
theorem dX8_readStep_162 : decode cX8_readStep 162 = .ok (.getfield 41, 3) := by decide +kernel
theorem dX8_readStep_165 : decode cX8_readStep 165 = .ok (.iload_n 1, 1) := by decide +kernel
theorem dX8_readStep_166 : decode cX8_readStep 166 = .ok (.iconst 0, 1) := by decide +kernel
theorem dX8_readStep_167 : decode cX8_readStep 167 = .ok (.iastore, 1) := by decide +kernel
theorem dX8_readStep_168 : decode cX8_readStep 168 = .ok (.aload_n 0, 1) := by decide +kernel
theorem dX8_readStep_169 : decode cX8_readStep 169 = .ok (.getfield 136, 3) := by decide +kernel
theorem dX8_readStep_172 : decode cX8_readStep 172 = .ok (.ifCond .ne 7, 3) := by decide +kernel
theorem dX8_readStep_175 : decode cX8_readStep 175 = .ok (.iconst 1, 1) := by decide +kernel
theorem dX8_readStep_176 : decode cX8_readStep 176 = .ok (.goto 4, 3) := by decide +kernel
theorem dX8_readStep_179 : decode cX8_readStep 179 = .ok (.iconst 0, 1) := by decide +kernel
theorem dX8_readStep_180 : decode cX8_readStep 180 = .ok (.istore 4, 2) := by decide +kernel
theorem dX8_readStep_182 : decode cX8_readStep 182 = .ok (.iload 4, 2) := by decide +kernel
theorem dX8_readStep_184 : decode cX8_readStep 184 = .ok (.ifCond .eq 142, 3) := by decide +kernel
theorem dX8_readStep_187 : decode cX8_readStep 187 = .ok (.aload_n 0, 1) := by decide +kernel
theorem dX8_readStep_188 : decode cX8_readStep 188 = .ok (.invokevirtual 158, 3) := by decide +kernel
theorem dX8_readStep_191 : decode cX8_readStep 191 = .ok (.istore 5, 2) := by decide +kernel
theorem dX8_readStep_193 : decode cX8_readStep 193 = .ok (.aload_n 0, 1) := by decide +kernel
theorem dX8_readStep_194 : decode cX8_readStep 194 = .ok (.getfield 124, 3) := by decide +kernel
theorem dX8_readStep_197 : decode cX8_readStep 197 = .ok (.iconst 3, 1) := by decide +kernel
theorem dX8_readStep_198 : decode cX8_readStep 198 = .ok (.if_icmp .ne 27, 3) := by decide +kernel
theorem dX8_readStep_201 : decode cX8_readStep 201 = .ok (.iload 5, 2) := by decide +kernel
theorem dX8_readStep_203 : decode cX8_readStep 203 = .ok (.aload_n 0, 1) := by decide +kernel
theorem dX8_readStep_204 : decode cX8_readStep 204 = .ok (.getfield 149, 3) := by decide +kernel
theorem dX8_readStep_207 : decode cX8_readStep 207 = .ok (.if_icmp .ge 13, 3) := by decide +kernel
theorem dX8_readStep_210 : decode cX8_readStep 210 = .ok (.aload_n 0, 1) := by decide +kernel
theorem dX8_readStep_211 : decode cX8_readStep 211 = .ok (.iload_n 1, 1) := by decide +kernel
theorem dX8_readStep_212 : decode cX8_readStep 212 = .ok (.iload 5, 2) := by decide +kernel
theorem dX8_readStep_214 : decode cX8_readStep 214 = .ok (.invokevirtual 181, 3) := by decide +kernel
theorem dX8_readStep_217 : decode cX8_readStep 217 = .ok (.ifCond .eq 8, 3) := by decide +kernel
theorem dX8_readStep_220 : decode cX8_readStep 220 = .ok (.aload_n 0, 1) := by decide +kernel
theorem dX8_readStep_221 : decode cX8_readStep 221 = .ok (.iconst 2, 1) := by decide +kernel
theorem dX8_readStep_222 : decode cX8_readStep 222 = .ok (.invokevirtual 142, 3) := by decide +kernel
theorem dX8_readStep_225 : decode cX8_readStep 225 = .ok (.aload_n 0, 1) := by decide +kernel
theorem dX8_readStep_226 : decode cX8_readStep 226 = .ok (.getfield 124, 3) := by decide +kernel
theorem dX8_readStep_229 : decode cX8_readStep 229 = .ok (.iconst 3, 1) := by decide +kernel
theorem dX8_readStep_230 : decode cX8_readStep 230 = .ok (.if_icmp .ne 19, 3) := by decide +kernel
theorem dX8_readStep_233 : decode cX8_readStep 233 = .ok (.aload_n 0, 1) := by decide +kernel
theorem dX8_readStep_234 : decode cX8_readStep 234 = .ok (.getfield 41, 3) := by decide +kernel
theorem dX8_readStep_237 : decode cX8_readStep 237 = .ok (.iload_n 1, 1) := by decide +kernel
theorem dX8_readStep_238 : decode cX8_readStep 238 = .ok (.iaload, 1) := by decide +kernel
theorem dX8_readStep_239 : decode cX8_readStep 239 = .ok (.bipush 6, 2) := by decide +kernel
theorem dX8_readStep_241 : decode cX8_readStep 241 = .ok (.if_icmp .ne 8, 3) := by decide +kernel
theorem dX8_readStep_244 : decode cX8_readStep 244 = .ok (.aload_n 0, 1) := by decide +kernel
theorem dX8_readStep_245 : decode cX8_readStep 245 = .ok (.iconst 3, 1) := by decide +kernel
theorem dX8_readStep_246 : decode cX8_readStep 246 = .ok (.invokevirtual 142, 3) := by decide +kernel
theorem dX8_readStep_249 : decode cX8_readStep 249 = .ok (.aload_n 0, 1) := by decide +kernel
theorem dX8_readStep_250 : decode cX8_readStep 250 = .ok (.aload_n 0, 1) := by decide +kernel
theorem dX8_readStep_251 : decode cX8_readStep 251 = .ok (.getfield 124, 3) := by decide +kernel
theorem dX8_readStep_254 : decode cX8_readStep 254 = .ok (.iconst 3, 1) := by decide +kernel
theorem dX8_readStep_255 : decode cX8_readStep 255 = .ok (.if_icmp .ne 7, 3) := by decide +kernel
theorem dX8_readStep_258 : decode cX8_readStep 258 = .ok (.iconst 1, 1) := by decide +kernel
theorem dX8_readStep_259 : decode cX8_readStep 259 = .ok (.goto 4, 3) := by decide +kernel
theorem dX8_readStep_262 : decode cX8_readStep 262 = .ok (.iconst 0, 1) := by decide +kernel
theorem dX8_readStep_263 : decode cX8_readStep 263 = .ok (.invokevirtual 162, 3) := by decide +kernel
theorem dX8_readStep_266 : decode cX8_readStep 266 = .ok (.aload_n 0, 1) := by decide +kernel
theorem dX8_readStep_267 : decode cX8_readStep 267 = .ok (.getfield 136, 3) := by decide +kernel
theorem dX8_readStep_270 : decode cX8_readStep 270 = .ok (.ifCond .ne 31, 3) := by decide +kernel
theorem dX8_readStep_273 : decode cX8_readStep 273 = .ok (.aload_n 0, 1) := by decide +kernel
theorem dX8_readStep_274 : decode cX8_readStep 274 = .ok (.getfield 44, 3) := by decide +kernel
theorem dX8_readStep_277 : decode cX8_readStep 277 = .ok (.bipush 6, 2) := by decide +kernel
theorem dX8_readStep_279 : decode cX8_readStep 279 = .ok (.iload_n 1, 1) := by decide +kernel
theorem dX8_readStep_280 : decode cX8_readStep 280 = .ok (.imul, 1) := by decide +kernel
theorem dX8_readStep_281 : decode cX8_readStep 281 = .ok (.aload_n 0, 1) := by decide +kernel
theorem dX8_readStep_282 : decode cX8_readStep 282 = .ok (.getfield 41, 3) := by decide +kernel
theorem dX8_readStep_285 : decode cX8_readStep 285 = .ok (.iload_n 1, 1) := by decide +kernel
theorem dX8_readStep_286 : decode cX8_readStep 286 = .ok (.iaload, 1) := by decide +kernel
theorem dX8_readStep_287 : decode cX8_readStep 287 = .ok (.iadd, 1) := by decide +kernel
theorem dX8_readStep_288 : decode cX8_readStep 288 = .ok (.iload 5, 2) := by decide +kernel
theorem dX8_readStep_290 : decode cX8_readStep 290 = .ok (.iastore, 1) := by decide +kernel
theorem dX8_readStep_291 : decode cX8_readStep 291 = .ok (.aload_n 0, 1) := by decide +kernel
theorem dX8_readStep_292 : decode cX8_readStep 292 = .ok (.getfield 41, 3) := by decide +kernel
theorem dX8_readStep_295 : decode cX8_readStep 295 = .ok (.iload_n 1, 1) := by decide +kernel
theorem dX8_readStep_296 : decode cX8_readStep 296 = .ok (.dup2, 1) := by decide +kernel
theorem dX8_readStep_297 : decode cX8_readStep 297 = .ok (.iaload, 1) := by decide +kernel
theorem dX8_readStep_298 : decode cX8_readStep 298 = .ok (.iconst 1, 1) := by decide +kernel
theorem dX8_readStep_299 : decode cX8_readStep 299 = .ok (.iadd, 1) := by decide +kernel
theorem dX8_readStep_300 : decode cX8_readStep 300 = .ok (.iastore, 1) := by decide +kernel
theorem dX8_readStep_301 : decode cX8_readStep 301 = .ok (.aload_n 0, 1) := by decide +kernel
theorem dX8_readStep_302 : decode cX8_readStep 302 = .ok (.getfield 136, 3) := by decide +kernel
theorem dX8_readStep_305 : decode cX8_readStep 305 = .ok (.ifCond .ne 15, 3) := by decide +kernel
theorem dX8_readStep_308 : decode cX8_readStep 308 = .ok (.aload_n 0, 1) := by decide +kernel
theorem dX8_readStep_309 : decode cX8_readStep 309 = .ok (.getfield 124, 3) := by decide +kernel
theorem dX8_readStep_312 : decode cX8_readStep 312 = .ok (.iconst 3, 1) := by decide +kernel
theorem dX8_readStep_313 : decode cX8_readStep 313 = .ok (.if_icmp .ne 7, 3) := by decide +kernel
theorem dX8_readStep_316 : decode cX8_readStep 316 = .ok (.iconst 1, 1) := by decide +kernel
theorem dX8_readStep_317 : decode cX8_readStep 317 = .ok (.goto 4, 3) := by decide +kernel
theorem dX8_readStep_320 : decode cX8_readStep 320 = .ok (.iconst 0, 1) := by decide +kernel
theorem dX8_readStep_321 : decode cX8_readStep 321 = .ok (.istore 4, 2) := by decide +kernel
theorem dX8_readStep_323 : decode cX8_readStep 323 = .ok (.goto (-141), 3) := by decide +kernel
theorem dX8_readStep_326 : decode cX8_readStep 326 = .ok (.iconst 0, 1) := by decide +kernel
theorem dX8_readStep_327 : decode cX8_readStep 327 = .ok (.istore 5, 2) := by decide +kernel
theorem dX8_readStep_329 : decode cX8_readStep 329 = .ok (.iload 5, 2) := by decide +kernel
theorem dX8_readStep_331 : decode cX8_readStep 331 = .ok (.iconst 3, 1) := by decide +kernel
theorem dX8_readStep_332 : decode cX8_readStep 332 = .ok (.if_icmp .ge 21, 3) := by decide +kernel
theorem dX8_readStep_335 : decode cX8_readStep 335 = .ok (.aload_n 0, 1) := by decide +kernel
theorem dX8_readStep_336 : decode cX8_readStep 336 = .ok (.getfield 47, 3) := by decide +kernel
theorem dX8_readStep_339 : decode cX8_readStep 339 = .ok (.iconst 3, 1) := by decide +kernel
theorem dX8_readStep_340 : decode cX8_readStep 340 = .ok (.iload_n 1, 1) := by decide +kernel
theorem dX8_readStep_341 : decode cX8_readStep 341 = .ok (.imul, 1) := by decide +kernel
theorem dX8_readStep_342 : decode cX8_readStep 342 = .ok (.iload 5, 2) := by decide +kernel
theorem dX8_readStep_344 : decode cX8_readStep 344 = .ok (.iadd, 1) := by decide +kernel
theorem dX8_readStep_345 : decode cX8_readStep 345 = .ok (.iconst 0, 1) := by decide +kernel
theorem dX8_readStep_346 : decode cX8_readStep 346 = .ok (.iastore, 1) := by decide +kernel
theorem dX8_readStep_347 : decode cX8_readStep 347 = .ok (.iinc 5 1, 3) := by decide +kernel
theorem dX8_readStep_350 : decode cX8_readStep 350 = .ok (.goto (-21), 3) := by decide +kernel
theorem dX8_readStep_353 : decode cX8_readStep 353 = .ok (.aload_n 0, 1) := by decide +kernel
theorem dX8_readStep_354 : decode cX8_readStep 354 = .ok (.dup, 1) := by decide +kernel
theorem dX8_readStep_355 : decode cX8_readStep 355 = .ok (.getfield 166, 3) := by decide +kernel
theorem dX8_readStep_358 : decode cX8_readStep 358 = .ok (.iconst 1, 1) := by decide +kernel
theorem dX8_readStep_359 : decode cX8_readStep 359 = .ok (.iadd, 1) := by decide +kernel
theorem dX8_readStep_360 : decode cX8_readStep 360 = .ok (.putfield 166, 3) := by decide +kernel
theorem dX8_readStep_363 : decode cX8_readStep 363 = .ok (.return_, 1) := by decide +kernel
theorem dX8_net_0 : decode cX8_net 0 = .ok (.aload_n 0, 1) := by decide +kernel
theorem dX8_net_1 : decode cX8_net 1 = .ok (.iconst 0, 1) := by decide +kernel
theorem dX8_net_2 : decode cX8_net 2 = .ok (.putfield 78, 3) := by decide +kernel
theorem dX8_net_5 : decode cX8_net 5 = .ok (.aload_n 0, 1) := by decide +kernel
theorem dX8_net_6 : decode cX8_net 6 = .ok (.aload_n 0, 1) := by decide +kernel
theorem dX8_net_7 : decode cX8_net 7 = .ok (.getfield 105, 3) := by decide +kernel
theorem dX8_net_10 : decode cX8_net 10 = .ok (.putfield 111, 3) := by decide +kernel
theorem dX8_net_13 : decode cX8_net 13 = .ok (.aload_n 0, 1) := by decide +kernel
theorem dX8_net_14 : decode cX8_net 14 = .ok (.iconst 0, 1) := by decide +kernel
theorem dX8_net_15 : decode cX8_net 15 = .ok (.putfield 105, 3) := by decide +kernel
theorem dX8_net_18 : decode cX8_net 18 = .ok (.aload_n 0, 1) := by decide +kernel
theorem dX8_net_19 : decode cX8_net 19 = .ok (.iconst 0, 1) := by decide +kernel
theorem dX8_net_20 : decode cX8_net 20 = .ok (.putfield 115, 3) := by decide +kernel
theorem dX8_net_23 : decode cX8_net 23 = .ok (.aload_n 0, 1) := by decide +kernel
theorem dX8_net_24 : decode cX8_net 24 = .ok (.iconst 0, 1) := by decide +kernel
theorem dX8_net_25 : decode cX8_net 25 = .ok (.putfield 136, 3) := by decide +kernel
theorem dX8_net_28 : decode cX8_net 28 = .ok (.aload_n 0, 1) := by decide +kernel
theorem dX8_net_29 : decode cX8_net 29 = .ok (.aload_n 0, 1) := by decide +kernel
theorem dX8_net_30 : decode cX8_net 30 = .ok (.getfield 185, 3) := by decide +kernel
theorem dX8_net_33 : decode cX8_net 33 = .ok (.putfield 149, 3) := by decide +kernel
theorem dX8_net_36 : decode cX8_net 36 = .ok (.aload_n 0, 1) := by decide +kernel
theorem dX8_net_37 : decode cX8_net 37 = .ok (.aload_n 0, 1) := by decide +kernel
theorem dX8_net_38 : decode cX8_net 38 = .ok (.getfield 188, 3) := by decide +kernel
theorem dX8_net_41 : decode cX8_net 41 = .ok (.putfield 166, 3) := by decide +kernel
theorem dX8_net_44 : decode cX8_net 44 = .ok (.aload_n 0, 1) := by decide +kernel
theorem dX8_net_45 : decode cX8_net 45 = .ok (.invokevirtual 146, 3) := by decide +kernel
theorem dX8_net_48 : decode cX8_net 48 = .ok (.aload_n 0, 1) := by decide +kernel
theorem dX8_net_49 : decode cX8_net 49 = .ok (.getfield 136, 3) := by decide +kernel
theorem dX8_net_52 : decode cX8_net 52 = .ok (.ifCond .ne 159, 3) := by decide +kernel
theorem dX8_net_55 : decode cX8_net 55 = .ok (.aload_n 0, 1) := by decide +kernel
theorem dX8_net_56 : decode cX8_net 56 = .ok (.getfield 124, 3) := by decide +kernel
theorem dX8_net_59 : decode cX8_net 59 = .ok (.iconst 1, 1) := by decide +kernel
theorem dX8_net_60 : decode cX8_net 60 = .ok (.if_icmp .eq 151, 3) := by decide +kernel
theorem dX8_net_63 : decode cX8_net 63 = .ok (.aload_n 0, 1) := by decide +kernel
theorem dX8_net_64 : decode cX8_net 64 = .ok (.invokevirtual 169, 3) := by decide +kernel
theorem dX8_net_67 : decode cX8_net 67 = .ok (.lstore_n 1, 1) := by decide +kernel
theorem dX8_net_68 : decode cX8_net 68 = .ok (.lload_n 1, 1) := by decide +kernel
theorem dX8_net_69 : decode cX8_net 69 = .ok (.ldc2_w 152, 3) := by decide +kernel
theorem dX8_net_72 : decode cX8_net 72 = .ok (.lcmp, 1) := by decide +kernel
theorem dX8_net_73 : decode cX8_net 73 = .ok (.ifCond .eq 19, 3) := by decide +kernel
theorem dX8_net_76 : decode cX8_net 76 = .ok (.lload_n 1, 1) := by decide +kernel
theorem dX8_net_77 : decode cX8_net 77 = .ok (.ldc2_w 154, 3) := by decide +kernel
theorem dX8_net_80 : decode cX8_net 80 = .ok (.lcmp, 1) := by decide +kernel
theorem dX8_net_81 : decode cX8_net 81 = .ok (.ifCond .eq 11, 3) := by decide +kernel
theorem dX8_net_84 : decode cX8_net 84 = .ok (.lload_n 1, 1) := by decide +kernel
theorem dX8_net_85 : decode cX8_net 85 = .ok (.ldc2_w 156, 3) := by decide +kernel
theorem dX8_net_88 : decode cX8_net 88 = .ok (.lcmp, 1) := by decide +kernel
theorem dX8_net_89 : decode cX8_net 89 = .ok (.ifCond .ne 7, 3) := by decide +kernel
theorem dX8_net_92 : decode cX8_net 92 = .ok (.iconst 1, 1) := by decide +kernel
theorem dX8_net_93 : decode cX8_net 93 = .ok (.goto 4, 3) := by decide +kernel
theorem dX8_net_96 : decode cX8_net 96 = .ok (.iconst 0, 1) := by decide +kernel
theorem dX8_net_97 : decode cX8_net 97 = .ok (.istore_n 3, 1) := by decide +kernel
theorem dX8_net_98 : decode cX8_net 98 = .ok (.iload_n 3, 1) := by decide +kernel
theorem dX8_net_99 : decode cX8_net 99 = .ok (.ifCond .eq 12, 3) := by decide +kernel
theorem dX8_net_102 : decode cX8_net 102 = .ok (.aload_n 0, 1) := by decide +kernel
theorem dX8_net_103 : decode cX8_net 103 = .ok (.getfield 149, 3) := by decide +kernel
theorem dX8_net_106 : decode cX8_net 106 = .ok (.bipush 20, 2) := by decide +kernel
theorem dX8_net_108 : decode cX8_net 108 = .ok (.if_icmp .eq 20, 3) := by decide +kernel
theorem dX8_net_111 : decode cX8_net 111 = .ok (.lload_n 1, 1) := by decide +kernel
theorem dX8_net_112 : decode cX8_net 112 = .ok (.ldc2_w 191, 3) := by decide +kernel
theorem dX8_net_115 : decode cX8_net 115 = .ok (.lcmp, 1) := by decide +kernel
theorem dX8_net_116 : decode cX8_net 116 = .ok (.ifCond .ne 17, 3) := by decide +kernel
theorem dX8_net_119 : decode cX8_net 119 = .ok (.aload_n 0, 1) := by decide +kernel
theorem dX8_net_120 : decode cX8_net 120 = .ok (.getfield 166, 3) := by decide +kernel
theorem dX8_net_123 : decode cX8_net 123 = .ok (.bipush 16, 2) := by decide +kernel
theorem dX8_net_125 : decode cX8_net 125 = .ok (.if_icmp .ne 8, 3) := by decide +kernel
theorem dX8_net_128 : decode cX8_net 128 = .ok (.aload_n 0, 1) := by decide +kernel
theorem dX8_net_129 : decode cX8_net 129 = .ok (.iconst 3, 1) := by decide +kernel
theorem dX8_net_130 : decode cX8_net 130 = .ok (.invokevirtual 142, 3) := by decide +kernel
theorem dX8_net_133 : decode cX8_net 133 = .ok (.aload_n 0, 1) := by decide +kernel
theorem dX8_net_134 : decode cX8_net 134 = .ok (.iload_n 3, 1) := by decide +kernel
theorem dX8_net_135 : decode cX8_net 135 = .ok (.ifCond .ne 11, 3) := by decide +kernel
theorem dX8_net_138 : decode cX8_net 138 = .ok (.lload_n 1, 1) := by decide +kernel
theorem dX8_net_139 : decode cX8_net 139 = .ok (.ldc2_w 191, 3) := by decide +kernel
theorem dX8_net_142 : decode cX8_net 142 = .ok (.lcmp, 1) := by decide +kernel
theorem dX8_net_143 : decode cX8_net 143 = .ok (.ifCond .ne 7, 3) := by decide +kernel
theorem dX8_net_146 : decode cX8_net 146 = .ok (.iconst 1, 1) := by decide +kernel
theorem dX8_net_147 : decode cX8_net 147 = .ok (.goto 4, 3) := by decide +kernel
theorem dX8_net_150 : decode cX8_net 150 = .ok (.iconst 0, 1) := by decide +kernel
theorem dX8_net_151 : decode cX8_net 151 = .ok (.invokevirtual 162, 3) := by decide +kernel
theorem dX8_net_154 : decode cX8_net 154 = .ok (.aload_n 0, 1) := by decide +kernel
theorem dX8_net_155 : decode cX8_net 155 = .ok (.getfield 136, 3) := by decide +kernel
theorem dX8_net_158 : decode cX8_net 158 = .ok (.ifCond .ne 15, 3) := by decide +kernel
theorem dX8_net_161 : decode cX8_net 161 = .ok (.iload_n 3, 1) := by decide +kernel
theorem dX8_net_162 : decode cX8_net 162 = .ok (.ifCond .eq 11, 3) := by decide +kernel
theorem dX8_net_165 : decode cX8_net 165 = .ok (.aload_n 0, 1) := by decide +kernel
theorem dX8_net_166 : decode cX8_net 166 = .ok (.lload_n 1, 1) := by decide +kernel
theorem dX8_net_167 : decode cX8_net 167 = .ok (.invokevirtual 193, 3) := by decide +kernel
theorem dX8_net_170 : decode cX8_net 170 = .ok (.goto 14, 3) := by decide +kernel
theorem dX8_net_173 : decode cX8_net 173 = .ok (.aload_n 0, 1) := by decide +kernel
theorem dX8_net_174 : decode cX8_net 174 = .ok (.getfield 136, 3) := by decide +kernel
theorem dX8_net_177 : decode cX8_net 177 = .ok (.ifCond .ne 7, 3) := by decide +kernel
theorem dX8_net_180 : decode cX8_net 180 = .ok (.aload_n 0, 1) := by decide +kernel
theorem dX8_net_181 : decode cX8_net 181 = .ok (.invokevirtual 197, 3) := by decide +kernel
theorem dX8_net_184 : decode cX8_net 184 = .ok (.aload_n 0, 1) := by decide +kernel
theorem dX8_net_185 : decode cX8_net 185 = .ok (.getfield 136, 3) := by decide +kernel
theorem dX8_net_188 : decode cX8_net 188 = .ok (.ifCond .ne 20, 3) := by decide +kernel
theorem dX8_net_191 : decode cX8_net 191 = .ok (.aload_n 0, 1) := by decide +kernel
theorem dX8_net_192 : decode cX8_net 192 = .ok (.aload_n 0, 1) := by decide +kernel
theorem dX8_net_193 : decode cX8_net 193 = .ok (.getfield 124, 3) := by decide +kernel
theorem dX8_net_196 : decode cX8_net 196 = .ok (.iconst 4, 1) := by decide +kernel
theorem dX8_net_197 : decode cX8_net 197 = .ok (.if_icmp .ne 7, 3) := by decide +kernel
theorem dX8_net_200 : decode cX8_net 200 = .ok (.iconst 1, 1) := by decide +kernel
theorem dX8_net_201 : decode cX8_net 201 = .ok (.goto 4, 3) := by decide +kernel
theorem dX8_net_204 : decode cX8_net 204 = .ok (.iconst 0, 1) := by decide +kernel
theorem dX8_net_205 : decode cX8_net 205 = .ok (.invokevirtual 162, 3) := by decide +kernel
theorem dX8_net_208 : decode cX8_net 208 = .ok (.goto (-160), 3) := by decide +kernel
theorem dX8_net_211 : decode cX8_net 211 = .ok (.aload_n 0, 1) := by decide +kernel
theorem dX8_net_212 : decode cX8_net 212 = .ok (.getfield 136, 3) := by decide +kernel
theorem dX8_net_215 : decode cX8_net 215 = .ok (.ifCond .le 19, 3) := by decide +kernel
theorem dX8_net_218 : decode cX8_net 218 = .ok (.aload_n 0, 1) := by decide +kernel
theorem dX8_net_219 : decode cX8_net 219 = .ok (.aload_n 0, 1) := by decide +kernel
theorem dX8_net_220 : decode cX8_net 220 = .ok (.getfield 136, 3) := by decide +kernel
theorem dX8_net_223 : decode cX8_net 223 = .ok (.putfield 200, 3) := by decide +kernel
theorem dX8_net_226 : decode cX8_net 226 = .ok (.ldc 203, 2) := by decide +kernel
theorem dX8_net_228 : decode cX8_net 228 = .ok (.aload_n 0, 1) := by decide +kernel
theorem dX8_net_229 : decode cX8_net 229 = .ok (.getfield 139, 3) := by decide +kernel
theorem dX8_net_232 : decode cX8_net 232 = .ok (.isub, 1) := by decide +kernel
theorem dX8_net_233 : decode cX8_net 233 = .ok (.ireturn, 1) := by decide +kernel
theorem dX8_net_234 : decode cX8_net 234 = .ok (.aload_n 0, 1) := by decide +kernel
theorem dX8_net_235 : decode cX8_net 235 = .ok (.aload_n 0, 1) := by decide +kernel
theorem dX8_net_236 : decode cX8_net 236 = .ok (.getfield 149, 3) := by decide +kernel
theorem dX8_net_239 : decode cX8_net 239 = .ok (.putfield 185, 3) := by decide +kernel
theorem dX8_net_242 : decode cX8_net 242 = .ok (.aload_n 0, 1) := by decide +kernel
theorem dX8_net_243 : decode cX8_net 243 = .ok (.aload_n 0, 1) := by decide +kernel
theorem dX8_net_244 : decode cX8_net 244 = .ok (.getfield 166, 3) := by decide +kernel
theorem dX8_net_247 : decode cX8_net 247 = .ok (.putfield 188, 3) := by decide +kernel
theorem dX8_net_250 : decode cX8_net 250 = .ok (.aload_n 0, 1) := by decide +kernel
theorem dX8_net_251 : decode cX8_net 251 = .ok (.getfield 185, 3) := by decide +kernel
theorem dX8_net_254 : decode cX8_net 254 = .ok (.ireturn, 1) := by decide +kernel
theorem dX8_fault_0 : decode cX8_fault 0 = .ok (.aload_n 0, 1) := by decide +kernel
theorem dX8_fault_1 : decode cX8_fault 1 = .ok (.iconst 0, 1) := by decide +kernel
theorem dX8_fault_2 : decode cX8_fault 2 = .ok (.putfield 78, 3) := by decide +kernel
theorem dX8_fault_5 : decode cX8_fault 5 = .ok (.aload_n 0, 1) := by decide +kernel
theorem dX8_fault_6 : decode cX8_fault 6 = .ok (.getfield 200, 3) := by decide +kernel
theorem dX8_fault_9 : decode cX8_fault 9 = .ok (.ireturn, 1) := by decide +kernel
theorem dX8_isNode_0 : decode cX8_isNode 0 = .ok (.iload_n 1, 1) := by decide +kernel
theorem dX8_isNode_1 : decode cX8_isNode 1 = .ok (.i2l, 1) := by decide +kernel
theorem dX8_isNode_2 : decode cX8_isNode 2 = .ok (.lconst 0, 1) := by decide +kernel
theorem dX8_isNode_3 : decode cX8_isNode 3 = .ok (.aload_n 0, 1) := by decide +kernel
theorem dX8_isNode_4 : decode cX8_isNode 4 = .ok (.getfield 185, 3) := by decide +kernel
theorem dX8_isNode_7 : decode cX8_isNode 7 = .ok (.iconst 1, 1) := by decide +kernel
theorem dX8_isNode_8 : decode cX8_isNode 8 = .ok (.isub, 1) := by decide +kernel
theorem dX8_isNode_9 : decode cX8_isNode 9 = .ok (.i2l, 1) := by decide +kernel
theorem dX8_isNode_10 : decode cX8_isNode 10 = .ok (.invokestatic 88, 3) := by decide +kernel
theorem dX8_isNode_13 : decode cX8_isNode 13 = .ok (.ireturn, 1) := by decide +kernel
theorem dX8_isClaim_0 : decode cX8_isClaim 0 = .ok (.aload_n 0, 1) := by decide +kernel
theorem dX8_isClaim_1 : decode cX8_isClaim 1 = .ok (.iload_n 1, 1) := by decide +kernel
theorem dX8_isClaim_2 : decode cX8_isClaim 2 = .ok (.invokevirtual 204, 3) := by decide +kernel
theorem dX8_isClaim_5 : decode cX8_isClaim 5 = .ok (.ifCond .eq 17, 3) := by decide +kernel
theorem dX8_isClaim_8 : decode cX8_isClaim 8 = .ok (.aload_n 0, 1) := by decide +kernel
theorem dX8_isClaim_9 : decode cX8_isClaim 9 = .ok (.getfield 19, 3) := by decide +kernel
theorem dX8_isClaim_12 : decode cX8_isClaim 12 = .ok (.iload_n 1, 1) := by decide +kernel
theorem dX8_isClaim_13 : decode cX8_isClaim 13 = .ok (.iaload, 1) := by decide +kernel
theorem dX8_isClaim_14 : decode cX8_isClaim 14 = .ok (.iconst 2, 1) := by decide +kernel
theorem dX8_isClaim_15 : decode cX8_isClaim 15 = .ok (.if_icmp .ne 7, 3) := by decide +kernel
theorem dX8_isClaim_18 : decode cX8_isClaim 18 = .ok (.iconst 1, 1) := by decide +kernel
theorem dX8_isClaim_19 : decode cX8_isClaim 19 = .ok (.goto 4, 3) := by decide +kernel
theorem dX8_isClaim_22 : decode cX8_isClaim 22 = .ok (.iconst 0, 1) := by decide +kernel
theorem dX8_isClaim_23 : decode cX8_isClaim 23 = .ok (.ireturn, 1) := by decide +kernel
theorem dX8_isLeaf_0 : decode cX8_isLeaf 0 = .ok (.aload_n 0, 1) := by decide +kernel
theorem dX8_isLeaf_1 : decode cX8_isLeaf 1 = .ok (.iload_n 1, 1) := by decide +kernel
theorem dX8_isLeaf_2 : decode cX8_isLeaf 2 = .ok (.invokevirtual 204, 3) := by decide +kernel
theorem dX8_isLeaf_5 : decode cX8_isLeaf 5 = .ok (.ifCond .eq 17, 3) := by decide +kernel
theorem dX8_isLeaf_8 : decode cX8_isLeaf 8 = .ok (.aload_n 0, 1) := by decide +kernel
theorem dX8_isLeaf_9 : decode cX8_isLeaf 9 = .ok (.getfield 19, 3) := by decide +kernel
theorem dX8_isLeaf_12 : decode cX8_isLeaf 12 = .ok (.iload_n 1, 1) := by decide +kernel
theorem dX8_isLeaf_13 : decode cX8_isLeaf 13 = .ok (.iaload, 1) := by decide +kernel
theorem dX8_isLeaf_14 : decode cX8_isLeaf 14 = .ok (.iconst 2, 1) := by decide +kernel
theorem dX8_isLeaf_15 : decode cX8_isLeaf 15 = .ok (.if_icmp .ge 7, 3) := by decide +kernel
theorem dX8_isLeaf_18 : decode cX8_isLeaf 18 = .ok (.iconst 1, 1) := by decide +kernel
theorem dX8_isLeaf_19 : decode cX8_isLeaf 19 = .ok (.goto 4, 3) := by decide +kernel
theorem dX8_isLeaf_22 : decode cX8_isLeaf 22 = .ok (.iconst 0, 1) := by decide +kernel
theorem dX8_isLeaf_23 : decode cX8_isLeaf 23 = .ok (.ireturn, 1) := by decide +kernel
theorem dX8_isStep_0 : decode cX8_isStep 0 = .ok (.iload_n 1, 1) := by decide +kernel
theorem dX8_isStep_1 : decode cX8_isStep 1 = .ok (.i2l, 1) := by decide +kernel
theorem dX8_isStep_2 : decode cX8_isStep 2 = .ok (.lconst 0, 1) := by decide +kernel
theorem dX8_isStep_3 : decode cX8_isStep 3 = .ok (.aload_n 0, 1) := by decide +kernel
theorem dX8_isStep_4 : decode cX8_isStep 4 = .ok (.getfield 188, 3) := by decide +kernel
theorem dX8_isStep_7 : decode cX8_isStep 7 = .ok (.iconst 1, 1) := by decide +kernel
theorem dX8_isStep_8 : decode cX8_isStep 8 = .ok (.isub, 1) := by decide +kernel
theorem dX8_isStep_9 : decode cX8_isStep 9 = .ok (.i2l, 1) := by decide +kernel
theorem dX8_isStep_10 : decode cX8_isStep 10 = .ok (.invokestatic 88, 3) := by decide +kernel
theorem dX8_isStep_13 : decode cX8_isStep 13 = .ok (.ireturn, 1) := by decide +kernel
theorem dX8_stands_0 : decode cX8_stands 0 = .ok (.aload_n 0, 1) := by decide +kernel
theorem dX8_stands_1 : decode cX8_stands 1 = .ok (.getfield 31, 3) := by decide +kernel
theorem dX8_stands_4 : decode cX8_stands 4 = .ok (.iload_n 1, 1) := by decide +kernel
theorem dX8_stands_5 : decode cX8_stands 5 = .ok (.baload, 1) := by decide +kernel
theorem dX8_stands_6 : decode cX8_stands 6 = .ok (.ifCond .ne 27, 3) := by decide +kernel
theorem dX8_stands_9 : decode cX8_stands 9 = .ok (.aload_n 0, 1) := by decide +kernel
theorem dX8_stands_10 : decode cX8_stands 10 = .ok (.getfield 207, 3) := by decide +kernel
theorem dX8_stands_13 : decode cX8_stands 13 = .ok (.aload_n 0, 1) := by decide +kernel
theorem dX8_stands_14 : decode cX8_stands 14 = .ok (.getfield 25, 3) := by decide +kernel
theorem dX8_stands_17 : decode cX8_stands 17 = .ok (.iload_n 1, 1) := by decide +kernel
theorem dX8_stands_18 : decode cX8_stands 18 = .ok (.iaload, 1) := by decide +kernel
theorem dX8_stands_19 : decode cX8_stands 19 = .ok (.isub, 1) := by decide +kernel
theorem dX8_stands_20 : decode cX8_stands 20 = .ok (.aload_n 0, 1) := by decide +kernel
theorem dX8_stands_21 : decode cX8_stands 21 = .ok (.getfield 28, 3) := by decide +kernel
theorem dX8_stands_24 : decode cX8_stands 24 = .ok (.iload_n 1, 1) := by decide +kernel
theorem dX8_stands_25 : decode cX8_stands 25 = .ok (.iaload, 1) := by decide +kernel
theorem dX8_stands_26 : decode cX8_stands 26 = .ok (.if_icmp .gt 7, 3) := by decide +kernel
theorem dX8_stands_29 : decode cX8_stands 29 = .ok (.iconst 1, 1) := by decide +kernel
theorem dX8_stands_30 : decode cX8_stands 30 = .ok (.goto 4, 3) := by decide +kernel
theorem dX8_stands_33 : decode cX8_stands 33 = .ok (.iconst 0, 1) := by decide +kernel
theorem dX8_stands_34 : decode cX8_stands 34 = .ok (.ireturn, 1) := by decide +kernel
theorem dX8_standing_0 : decode cX8_standing 0 = .ok (.iconst 0, 1) := by decide +kernel
theorem dX8_standing_1 : decode cX8_standing 1 = .ok (.istore_n 1, 1) := by decide +kernel
theorem dX8_standing_2 : decode cX8_standing 2 = .ok (.iconst 0, 1) := by decide +kernel
theorem dX8_standing_3 : decode cX8_standing 3 = .ok (.istore_n 2, 1) := by decide +kernel
theorem dX8_standing_4 : decode cX8_standing 4 = .ok (.iload_n 2, 1) := by decide +kernel
theorem dX8_standing_5 : decode cX8_standing 5 = .ok (.aload_n 0, 1) := by decide +kernel
theorem dX8_standing_6 : decode cX8_standing 6 = .ok (.getfield 185, 3) := by decide +kernel
theorem dX8_standing_9 : decode cX8_standing 9 = .ok (.if_icmp .ge 37, 3) := by decide +kernel
theorem dX8_standing_12 : decode cX8_standing 12 = .ok (.iload_n 1, 1) := by decide +kernel
theorem dX8_standing_13 : decode cX8_standing 13 = .ok (.aload_n 0, 1) := by decide +kernel
theorem dX8_standing_14 : decode cX8_standing 14 = .ok (.getfield 19, 3) := by decide +kernel
theorem dX8_standing_17 : decode cX8_standing 17 = .ok (.iload_n 2, 1) := by decide +kernel
theorem dX8_standing_18 : decode cX8_standing 18 = .ok (.iaload, 1) := by decide +kernel
theorem dX8_standing_19 : decode cX8_standing 19 = .ok (.iconst 2, 1) := by decide +kernel
theorem dX8_standing_20 : decode cX8_standing 20 = .ok (.if_icmp .ge 17, 3) := by decide +kernel
theorem dX8_standing_23 : decode cX8_standing 23 = .ok (.aload_n 0, 1) := by decide +kernel
theorem dX8_standing_24 : decode cX8_standing 24 = .ok (.iload_n 2, 1) := by decide +kernel
theorem dX8_standing_25 : decode cX8_standing 25 = .ok (.invokevirtual 210, 3) := by decide +kernel
theorem dX8_standing_28 : decode cX8_standing 28 = .ok (.ifCond .eq 9, 3) := by decide +kernel
theorem dX8_standing_31 : decode cX8_standing 31 = .ok (.iconst 1, 1) := by decide +kernel
theorem dX8_standing_32 : decode cX8_standing 32 = .ok (.iload_n 2, 1) := by decide +kernel
theorem dX8_standing_33 : decode cX8_standing 33 = .ok (.ishl, 1) := by decide +kernel
theorem dX8_standing_34 : decode cX8_standing 34 = .ok (.goto 4, 3) := by decide +kernel
theorem dX8_standing_37 : decode cX8_standing 37 = .ok (.iconst 0, 1) := by decide +kernel
theorem dX8_standing_38 : decode cX8_standing 38 = .ok (.ior, 1) := by decide +kernel
theorem dX8_standing_39 : decode cX8_standing 39 = .ok (.istore_n 1, 1) := by decide +kernel
theorem dX8_standing_40 : decode cX8_standing 40 = .ok (.iinc 2 1, 3) := by decide +kernel
theorem dX8_standing_43 : decode cX8_standing 43 = .ok (.goto (-39), 3) := by decide +kernel
theorem dX8_standing_46 : decode cX8_standing 46 = .ok (.iload_n 1, 1) := by decide +kernel
theorem dX8_standing_47 : decode cX8_standing 47 = .ok (.ireturn, 1) := by decide +kernel
theorem dX8_isBorneUp_0 : decode cX8_isBorneUp 0 = .ok (.iconst 0, 1) := by decide +kernel
theorem dX8_isBorneUp_1 : decode cX8_isBorneUp 1 = .ok (.istore_n 3, 1) := by decide +kernel
theorem dX8_isBorneUp_2 : decode cX8_isBorneUp 2 = .ok (.iconst 0, 1) := by decide +kernel
theorem dX8_isBorneUp_3 : decode cX8_isBorneUp 3 = .ok (.istore 4, 2) := by decide +kernel
theorem dX8_isBorneUp_5 : decode cX8_isBorneUp 5 = .ok (.iload 4, 2) := by decide +kernel
theorem dX8_isBorneUp_7 : decode cX8_isBorneUp 7 = .ok (.aload_n 0, 1) := by decide +kernel
theorem dX8_isBorneUp_8 : decode cX8_isBorneUp 8 = .ok (.getfield 41, 3) := by decide +kernel
theorem dX8_isBorneUp_11 : decode cX8_isBorneUp 11 = .ok (.iload_n 1, 1) := by decide +kernel
theorem dX8_isBorneUp_12 : decode cX8_isBorneUp 12 = .ok (.iaload, 1) := by decide +kernel
theorem dX8_isBorneUp_13 : decode cX8_isBorneUp 13 = .ok (.if_icmp .ge 28, 3) := by decide +kernel
theorem dX8_isBorneUp_16 : decode cX8_isBorneUp 16 = .ok (.iload_n 3, 1) := by decide +kernel
theorem dX8_isBorneUp_17 : decode cX8_isBorneUp 17 = .ok (.iload_n 2, 1) := by decide +kernel
theorem dX8_isBorneUp_18 : decode cX8_isBorneUp 18 = .ok (.aload_n 0, 1) := by decide +kernel
theorem dX8_isBorneUp_19 : decode cX8_isBorneUp 19 = .ok (.getfield 44, 3) := by decide +kernel
theorem dX8_isBorneUp_22 : decode cX8_isBorneUp 22 = .ok (.bipush 6, 2) := by decide +kernel
theorem dX8_isBorneUp_24 : decode cX8_isBorneUp 24 = .ok (.iload_n 1, 1) := by decide +kernel
theorem dX8_isBorneUp_25 : decode cX8_isBorneUp 25 = .ok (.imul, 1) := by decide +kernel
theorem dX8_isBorneUp_26 : decode cX8_isBorneUp 26 = .ok (.iload 4, 2) := by decide +kernel
theorem dX8_isBorneUp_28 : decode cX8_isBorneUp 28 = .ok (.iadd, 1) := by decide +kernel
theorem dX8_isBorneUp_29 : decode cX8_isBorneUp 29 = .ok (.iaload, 1) := by decide +kernel
theorem dX8_isBorneUp_30 : decode cX8_isBorneUp 30 = .ok (.ishr, 1) := by decide +kernel
theorem dX8_isBorneUp_31 : decode cX8_isBorneUp 31 = .ok (.iconst 1, 1) := by decide +kernel
theorem dX8_isBorneUp_32 : decode cX8_isBorneUp 32 = .ok (.iand, 1) := by decide +kernel
theorem dX8_isBorneUp_33 : decode cX8_isBorneUp 33 = .ok (.iadd, 1) := by decide +kernel
theorem dX8_isBorneUp_34 : decode cX8_isBorneUp 34 = .ok (.istore_n 3, 1) := by decide +kernel
theorem dX8_isBorneUp_35 : decode cX8_isBorneUp 35 = .ok (.iinc 4 1, 3) := by decide +kernel
theorem dX8_isBorneUp_38 : decode cX8_isBorneUp 38 = .ok (.goto (-33), 3) := by decide +kernel
theorem dX8_isBorneUp_41 : decode cX8_isBorneUp 41 = .ok (.aload_n 0, 1) := by decide +kernel
theorem dX8_isBorneUp_42 : decode cX8_isBorneUp 42 = .ok (.getfield 35, 3) := by decide +kernel
theorem dX8_isBorneUp_45 : decode cX8_isBorneUp 45 = .ok (.iload_n 1, 1) := by decide +kernel
theorem dX8_isBorneUp_46 : decode cX8_isBorneUp 46 = .ok (.iaload, 1) := by decide +kernel
theorem dX8_isBorneUp_47 : decode cX8_isBorneUp 47 = .ok (.ifCond .ne 21, 3) := by decide +kernel
theorem dX8_isBorneUp_50 : decode cX8_isBorneUp 50 = .ok (.iload_n 3, 1) := by decide +kernel
theorem dX8_isBorneUp_51 : decode cX8_isBorneUp 51 = .ok (.aload_n 0, 1) := by decide +kernel
theorem dX8_isBorneUp_52 : decode cX8_isBorneUp 52 = .ok (.getfield 41, 3) := by decide +kernel
theorem dX8_isBorneUp_55 : decode cX8_isBorneUp 55 = .ok (.iload_n 1, 1) := by decide +kernel
theorem dX8_isBorneUp_56 : decode cX8_isBorneUp 56 = .ok (.iaload, 1) := by decide +kernel
theorem dX8_isBorneUp_57 : decode cX8_isBorneUp 57 = .ok (.if_icmp .ne 7, 3) := by decide +kernel
theorem dX8_isBorneUp_60 : decode cX8_isBorneUp 60 = .ok (.iconst 1, 1) := by decide +kernel
theorem dX8_isBorneUp_61 : decode cX8_isBorneUp 61 = .ok (.goto 81, 3) := by decide +kernel
theorem dX8_isBorneUp_64 : decode cX8_isBorneUp 64 = .ok (.iconst 0, 1) := by decide +kernel
theorem dX8_isBorneUp_65 : decode cX8_isBorneUp 65 = .ok (.goto 77, 3) := by decide +kernel
theorem dX8_isBorneUp_68 : decode cX8_isBorneUp 68 = .ok (.aload_n 0, 1) := by decide +kernel
theorem dX8_isBorneUp_69 : decode cX8_isBorneUp 69 = .ok (.getfield 35, 3) := by decide +kernel
theorem dX8_isBorneUp_72 : decode cX8_isBorneUp 72 = .ok (.iload_n 1, 1) := by decide +kernel
theorem dX8_isBorneUp_73 : decode cX8_isBorneUp 73 = .ok (.iaload, 1) := by decide +kernel
theorem dX8_isBorneUp_74 : decode cX8_isBorneUp 74 = .ok (.iconst 1, 1) := by decide +kernel
theorem dX8_isBorneUp_75 : decode cX8_isBorneUp 75 = .ok (.if_icmp .ne 15, 3) := by decide +kernel
theorem dX8_isBorneUp_78 : decode cX8_isBorneUp 78 = .ok (.iload_n 3, 1) := by decide +kernel
theorem dX8_isBorneUp_79 : decode cX8_isBorneUp 79 = .ok (.ifCond .le 7, 3) := by decide +kernel
theorem dX8_isBorneUp_82 : decode cX8_isBorneUp 82 = .ok (.iconst 1, 1) := by decide +kernel
theorem dX8_isBorneUp_83 : decode cX8_isBorneUp 83 = .ok (.goto 59, 3) := by decide +kernel
theorem dX8_isBorneUp_86 : decode cX8_isBorneUp 86 = .ok (.iconst 0, 1) := by decide +kernel
theorem dX8_isBorneUp_87 : decode cX8_isBorneUp 87 = .ok (.goto 55, 3) := by decide +kernel
theorem dX8_isBorneUp_90 : decode cX8_isBorneUp 90 = .ok (.aload_n 0, 1) := by decide +kernel
theorem dX8_isBorneUp_91 : decode cX8_isBorneUp 91 = .ok (.getfield 35, 3) := by decide +kernel
theorem dX8_isBorneUp_94 : decode cX8_isBorneUp 94 = .ok (.iload_n 1, 1) := by decide +kernel
theorem dX8_isBorneUp_95 : decode cX8_isBorneUp 95 = .ok (.iaload, 1) := by decide +kernel
theorem dX8_isBorneUp_96 : decode cX8_isBorneUp 96 = .ok (.iconst 2, 1) := by decide +kernel
theorem dX8_isBorneUp_97 : decode cX8_isBorneUp 97 = .ok (.if_icmp .ne 23, 3) := by decide +kernel
theorem dX8_isBorneUp_100 : decode cX8_isBorneUp 100 = .ok (.iconst 2, 1) := by decide +kernel
theorem dX8_isBorneUp_101 : decode cX8_isBorneUp 101 = .ok (.iload_n 3, 1) := by decide +kernel
theorem dX8_isBorneUp_102 : decode cX8_isBorneUp 102 = .ok (.imul, 1) := by decide +kernel
theorem dX8_isBorneUp_103 : decode cX8_isBorneUp 103 = .ok (.aload_n 0, 1) := by decide +kernel
theorem dX8_isBorneUp_104 : decode cX8_isBorneUp 104 = .ok (.getfield 41, 3) := by decide +kernel
theorem dX8_isBorneUp_107 : decode cX8_isBorneUp 107 = .ok (.iload_n 1, 1) := by decide +kernel
theorem dX8_isBorneUp_108 : decode cX8_isBorneUp 108 = .ok (.iaload, 1) := by decide +kernel
theorem dX8_isBorneUp_109 : decode cX8_isBorneUp 109 = .ok (.if_icmp .le 7, 3) := by decide +kernel
theorem dX8_isBorneUp_112 : decode cX8_isBorneUp 112 = .ok (.iconst 1, 1) := by decide +kernel
theorem dX8_isBorneUp_113 : decode cX8_isBorneUp 113 = .ok (.goto 29, 3) := by decide +kernel
theorem dX8_isBorneUp_116 : decode cX8_isBorneUp 116 = .ok (.iconst 0, 1) := by decide +kernel
theorem dX8_isBorneUp_117 : decode cX8_isBorneUp 117 = .ok (.goto 25, 3) := by decide +kernel
theorem dX8_isBorneUp_120 : decode cX8_isBorneUp 120 = .ok (.iload_n 2, 1) := by decide +kernel
theorem dX8_isBorneUp_121 : decode cX8_isBorneUp 121 = .ok (.aload_n 0, 1) := by decide +kernel
theorem dX8_isBorneUp_122 : decode cX8_isBorneUp 122 = .ok (.getfield 44, 3) := by decide +kernel
theorem dX8_isBorneUp_125 : decode cX8_isBorneUp 125 = .ok (.bipush 6, 2) := by decide +kernel
theorem dX8_isBorneUp_127 : decode cX8_isBorneUp 127 = .ok (.iload_n 1, 1) := by decide +kernel
theorem dX8_isBorneUp_128 : decode cX8_isBorneUp 128 = .ok (.imul, 1) := by decide +kernel
theorem dX8_isBorneUp_129 : decode cX8_isBorneUp 129 = .ok (.iaload, 1) := by decide +kernel
theorem dX8_isBorneUp_130 : decode cX8_isBorneUp 130 = .ok (.ishr, 1) := by decide +kernel
theorem dX8_isBorneUp_131 : decode cX8_isBorneUp 131 = .ok (.iconst 1, 1) := by decide +kernel
theorem dX8_isBorneUp_132 : decode cX8_isBorneUp 132 = .ok (.iand, 1) := by decide +kernel
theorem dX8_isBorneUp_133 : decode cX8_isBorneUp 133 = .ok (.iconst 1, 1) := by decide +kernel
theorem dX8_isBorneUp_134 : decode cX8_isBorneUp 134 = .ok (.if_icmp .ne 7, 3) := by decide +kernel
theorem dX8_isBorneUp_137 : decode cX8_isBorneUp 137 = .ok (.iconst 1, 1) := by decide +kernel
theorem dX8_isBorneUp_138 : decode cX8_isBorneUp 138 = .ok (.goto 4, 3) := by decide +kernel
theorem dX8_isBorneUp_141 : decode cX8_isBorneUp 141 = .ok (.iconst 0, 1) := by decide +kernel
theorem dX8_isBorneUp_142 : decode cX8_isBorneUp 142 = .ok (.ireturn, 1) := by decide +kernel
theorem dX8_openOf_0 : decode cX8_openOf 0 = .ok (.iconst 0, 1) := by decide +kernel
theorem dX8_openOf_1 : decode cX8_openOf 1 = .ok (.istore_n 2, 1) := by decide +kernel
theorem dX8_openOf_2 : decode cX8_openOf 2 = .ok (.iconst 0, 1) := by decide +kernel
theorem dX8_openOf_3 : decode cX8_openOf 3 = .ok (.istore_n 3, 1) := by decide +kernel
theorem dX8_openOf_4 : decode cX8_openOf 4 = .ok (.iload_n 3, 1) := by decide +kernel
theorem dX8_openOf_5 : decode cX8_openOf 5 = .ok (.aload_n 0, 1) := by decide +kernel
theorem dX8_openOf_6 : decode cX8_openOf 6 = .ok (.getfield 35, 3) := by decide +kernel
theorem dX8_openOf_9 : decode cX8_openOf 9 = .ok (.iload_n 1, 1) := by decide +kernel
theorem dX8_openOf_10 : decode cX8_openOf 10 = .ok (.iaload, 1) := by decide +kernel
theorem dX8_openOf_11 : decode cX8_openOf 11 = .ok (.invokestatic 213, 3) := by decide +kernel
theorem dX8_openOf_14 : decode cX8_openOf 14 = .ok (.if_icmp .ge 30, 3) := by decide +kernel
theorem dX8_openOf_17 : decode cX8_openOf 17 = .ok (.iload_n 2, 1) := by decide +kernel
theorem dX8_openOf_18 : decode cX8_openOf 18 = .ok (.aload_n 0, 1) := by decide +kernel
theorem dX8_openOf_19 : decode cX8_openOf 19 = .ok (.getfield 47, 3) := by decide +kernel
theorem dX8_openOf_22 : decode cX8_openOf 22 = .ok (.iconst 3, 1) := by decide +kernel
theorem dX8_openOf_23 : decode cX8_openOf 23 = .ok (.iload_n 1, 1) := by decide +kernel
theorem dX8_openOf_24 : decode cX8_openOf 24 = .ok (.imul, 1) := by decide +kernel
theorem dX8_openOf_25 : decode cX8_openOf 25 = .ok (.iload_n 3, 1) := by decide +kernel
theorem dX8_openOf_26 : decode cX8_openOf 26 = .ok (.iadd, 1) := by decide +kernel
theorem dX8_openOf_27 : decode cX8_openOf 27 = .ok (.iaload, 1) := by decide +kernel
theorem dX8_openOf_28 : decode cX8_openOf 28 = .ok (.ifCond .ne 7, 3) := by decide +kernel
theorem dX8_openOf_31 : decode cX8_openOf 31 = .ok (.iconst 1, 1) := by decide +kernel
theorem dX8_openOf_32 : decode cX8_openOf 32 = .ok (.goto 4, 3) := by decide +kernel
theorem dX8_openOf_35 : decode cX8_openOf 35 = .ok (.iconst 0, 1) := by decide +kernel
theorem dX8_openOf_36 : decode cX8_openOf 36 = .ok (.iadd, 1) := by decide +kernel
theorem dX8_openOf_37 : decode cX8_openOf 37 = .ok (.istore_n 2, 1) := by decide +kernel
theorem dX8_openOf_38 : decode cX8_openOf 38 = .ok (.iinc 3 1, 3) := by decide +kernel
theorem dX8_openOf_41 : decode cX8_openOf 41 = .ok (.goto (-37), 3) := by decide +kernel
theorem dX8_openOf_44 : decode cX8_openOf 44 = .ok (.iload_n 2, 1) := by decide +kernel
theorem dX8_openOf_45 : decode cX8_openOf 45 = .ok (.ireturn, 1) := by decide +kernel
theorem dX8_shownBy_0 : decode cX8_shownBy 0 = .ok (.iload_n 1, 1) := by decide +kernel
theorem dX8_shownBy_1 : decode cX8_shownBy 1 = .ok (.istore_n 3, 1) := by decide +kernel
theorem dX8_shownBy_2 : decode cX8_shownBy 2 = .ok (.iconst 1, 1) := by decide +kernel
theorem dX8_shownBy_3 : decode cX8_shownBy 3 = .ok (.istore 4, 2) := by decide +kernel
theorem dX8_shownBy_5 : decode cX8_shownBy 5 = .ok (.aload_n 0, 1) := by decide +kernel
theorem dX8_shownBy_6 : decode cX8_shownBy 6 = .ok (.iconst 0, 1) := by decide +kernel
theorem dX8_shownBy_7 : decode cX8_shownBy 7 = .ok (.putfield 216, 3) := by decide +kernel
theorem dX8_shownBy_10 : decode cX8_shownBy 10 = .ok (.iload 4, 2) := by decide +kernel
theorem dX8_shownBy_12 : decode cX8_shownBy 12 = .ok (.ifCond .eq 110, 3) := by decide +kernel
theorem dX8_shownBy_15 : decode cX8_shownBy 15 = .ok (.iload_n 3, 1) := by decide +kernel
theorem dX8_shownBy_16 : decode cX8_shownBy 16 = .ok (.istore 5, 2) := by decide +kernel
theorem dX8_shownBy_18 : decode cX8_shownBy 18 = .ok (.iconst 0, 1) := by decide +kernel
theorem dX8_shownBy_19 : decode cX8_shownBy 19 = .ok (.istore 6, 2) := by decide +kernel
theorem dX8_shownBy_21 : decode cX8_shownBy 21 = .ok (.iload 6, 2) := by decide +kernel
theorem dX8_shownBy_23 : decode cX8_shownBy 23 = .ok (.aload_n 0, 1) := by decide +kernel
theorem dX8_shownBy_24 : decode cX8_shownBy 24 = .ok (.getfield 188, 3) := by decide +kernel
theorem dX8_shownBy_27 : decode cX8_shownBy 27 = .ok (.if_icmp .ge 57, 3) := by decide +kernel
theorem dX8_shownBy_30 : decode cX8_shownBy 30 = .ok (.iload 5, 2) := by decide +kernel
theorem dX8_shownBy_32 : decode cX8_shownBy 32 = .ok (.aload_n 0, 1) := by decide +kernel
theorem dX8_shownBy_33 : decode cX8_shownBy 33 = .ok (.getfield 38, 3) := by decide +kernel
theorem dX8_shownBy_36 : decode cX8_shownBy 36 = .ok (.iload 6, 2) := by decide +kernel
theorem dX8_shownBy_38 : decode cX8_shownBy 38 = .ok (.iaload, 1) := by decide +kernel
theorem dX8_shownBy_39 : decode cX8_shownBy 39 = .ok (.iload_n 2, 1) := by decide +kernel
theorem dX8_shownBy_40 : decode cX8_shownBy 40 = .ok (.if_icmp .eq 34, 3) := by decide +kernel
theorem dX8_shownBy_43 : decode cX8_shownBy 43 = .ok (.aload_n 0, 1) := by decide +kernel
theorem dX8_shownBy_44 : decode cX8_shownBy 44 = .ok (.iload 6, 2) := by decide +kernel
theorem dX8_shownBy_46 : decode cX8_shownBy 46 = .ok (.invokevirtual 219, 3) := by decide +kernel
theorem dX8_shownBy_49 : decode cX8_shownBy 49 = .ok (.ifCond .ne 25, 3) := by decide +kernel
theorem dX8_shownBy_52 : decode cX8_shownBy 52 = .ok (.aload_n 0, 1) := by decide +kernel
theorem dX8_shownBy_53 : decode cX8_shownBy 53 = .ok (.iload 6, 2) := by decide +kernel
theorem dX8_shownBy_55 : decode cX8_shownBy 55 = .ok (.iload_n 3, 1) := by decide +kernel
theorem dX8_shownBy_56 : decode cX8_shownBy 56 = .ok (.invokevirtual 222, 3) := by decide +kernel
theorem dX8_shownBy_59 : decode cX8_shownBy 59 = .ok (.ifCond .eq 15, 3) := by decide +kernel
theorem dX8_shownBy_62 : decode cX8_shownBy 62 = .ok (.iconst 1, 1) := by decide +kernel
theorem dX8_shownBy_63 : decode cX8_shownBy 63 = .ok (.aload_n 0, 1) := by decide +kernel
theorem dX8_shownBy_64 : decode cX8_shownBy 64 = .ok (.getfield 38, 3) := by decide +kernel
theorem dX8_shownBy_67 : decode cX8_shownBy 67 = .ok (.iload 6, 2) := by decide +kernel
theorem dX8_shownBy_69 : decode cX8_shownBy 69 = .ok (.iaload, 1) := by decide +kernel
theorem dX8_shownBy_70 : decode cX8_shownBy 70 = .ok (.ishl, 1) := by decide +kernel
theorem dX8_shownBy_71 : decode cX8_shownBy 71 = .ok (.goto 4, 3) := by decide +kernel
theorem dX8_shownBy_74 : decode cX8_shownBy 74 = .ok (.iconst 0, 1) := by decide +kernel
theorem dX8_shownBy_75 : decode cX8_shownBy 75 = .ok (.ior, 1) := by decide +kernel
theorem dX8_shownBy_76 : decode cX8_shownBy 76 = .ok (.istore 5, 2) := by decide +kernel
theorem dX8_shownBy_78 : decode cX8_shownBy 78 = .ok (.iinc 6 1, 3) := by decide +kernel
theorem dX8_shownBy_81 : decode cX8_shownBy 81 = .ok (.goto (-60), 3) := by decide +kernel
theorem dX8_shownBy_84 : decode cX8_shownBy 84 = .ok (.iload 5, 2) := by decide +kernel
theorem dX8_shownBy_86 : decode cX8_shownBy 86 = .ok (.iload_n 3, 1) := by decide +kernel
theorem dX8_shownBy_87 : decode cX8_shownBy 87 = .ok (.if_icmp .eq 7, 3) := by decide +kernel
theorem dX8_shownBy_90 : decode cX8_shownBy 90 = .ok (.iconst 1, 1) := by decide +kernel
theorem dX8_shownBy_91 : decode cX8_shownBy 91 = .ok (.goto 4, 3) := by decide +kernel
theorem dX8_shownBy_94 : decode cX8_shownBy 94 = .ok (.iconst 0, 1) := by decide +kernel
theorem dX8_shownBy_95 : decode cX8_shownBy 95 = .ok (.istore 4, 2) := by decide +kernel
theorem dX8_shownBy_97 : decode cX8_shownBy 97 = .ok (.aload_n 0, 1) := by decide +kernel
theorem dX8_shownBy_98 : decode cX8_shownBy 98 = .ok (.dup, 1) := by decide +kernel
theorem dX8_shownBy_99 : decode cX8_shownBy 99 = .ok (.getfield 216, 3) := by decide +kernel
theorem dX8_shownBy_102 : decode cX8_shownBy 102 = .ok (.iload 4, 2) := by decide +kernel
theorem dX8_shownBy_104 : decode cX8_shownBy 104 = .ok (.ifCond .eq 7, 3) := by decide +kernel
theorem dX8_shownBy_107 : decode cX8_shownBy 107 = .ok (.iconst 1, 1) := by decide +kernel
theorem dX8_shownBy_108 : decode cX8_shownBy 108 = .ok (.goto 4, 3) := by decide +kernel
theorem dX8_shownBy_111 : decode cX8_shownBy 111 = .ok (.iconst 0, 1) := by decide +kernel
theorem dX8_shownBy_112 : decode cX8_shownBy 112 = .ok (.iadd, 1) := by decide +kernel
theorem dX8_shownBy_113 : decode cX8_shownBy 113 = .ok (.putfield 216, 3) := by decide +kernel
theorem dX8_shownBy_116 : decode cX8_shownBy 116 = .ok (.iload 5, 2) := by decide +kernel
theorem dX8_shownBy_118 : decode cX8_shownBy 118 = .ok (.istore_n 3, 1) := by decide +kernel
theorem dX8_shownBy_119 : decode cX8_shownBy 119 = .ok (.goto (-109), 3) := by decide +kernel
theorem dX8_shownBy_122 : decode cX8_shownBy 122 = .ok (.iload_n 3, 1) := by decide +kernel
theorem dX8_shownBy_123 : decode cX8_shownBy 123 = .ok (.ireturn, 1) := by decide +kernel
theorem dX8_claims_0 : decode cX8_claims 0 = .ok (.iconst 0, 1) := by decide +kernel
theorem dX8_claims_1 : decode cX8_claims 1 = .ok (.istore_n 1, 1) := by decide +kernel
theorem dX8_claims_2 : decode cX8_claims 2 = .ok (.iconst 0, 1) := by decide +kernel
theorem dX8_claims_3 : decode cX8_claims 3 = .ok (.istore_n 2, 1) := by decide +kernel
theorem dX8_claims_4 : decode cX8_claims 4 = .ok (.iload_n 2, 1) := by decide +kernel
theorem dX8_claims_5 : decode cX8_claims 5 = .ok (.aload_n 0, 1) := by decide +kernel
theorem dX8_claims_6 : decode cX8_claims 6 = .ok (.getfield 185, 3) := by decide +kernel
theorem dX8_claims_9 : decode cX8_claims 9 = .ok (.if_icmp .ge 29, 3) := by decide +kernel
theorem dX8_claims_12 : decode cX8_claims 12 = .ok (.iload_n 1, 1) := by decide +kernel
theorem dX8_claims_13 : decode cX8_claims 13 = .ok (.aload_n 0, 1) := by decide +kernel
theorem dX8_claims_14 : decode cX8_claims 14 = .ok (.getfield 19, 3) := by decide +kernel
theorem dX8_claims_17 : decode cX8_claims 17 = .ok (.iload_n 2, 1) := by decide +kernel
theorem dX8_claims_18 : decode cX8_claims 18 = .ok (.iaload, 1) := by decide +kernel
theorem dX8_claims_19 : decode cX8_claims 19 = .ok (.iconst 2, 1) := by decide +kernel
theorem dX8_claims_20 : decode cX8_claims 20 = .ok (.if_icmp .ne 9, 3) := by decide +kernel
theorem dX8_claims_23 : decode cX8_claims 23 = .ok (.iconst 1, 1) := by decide +kernel
theorem dX8_claims_24 : decode cX8_claims 24 = .ok (.iload_n 2, 1) := by decide +kernel
theorem dX8_claims_25 : decode cX8_claims 25 = .ok (.ishl, 1) := by decide +kernel
theorem dX8_claims_26 : decode cX8_claims 26 = .ok (.goto 4, 3) := by decide +kernel
theorem dX8_claims_29 : decode cX8_claims 29 = .ok (.iconst 0, 1) := by decide +kernel
theorem dX8_claims_30 : decode cX8_claims 30 = .ok (.ior, 1) := by decide +kernel
theorem dX8_claims_31 : decode cX8_claims 31 = .ok (.istore_n 1, 1) := by decide +kernel
theorem dX8_claims_32 : decode cX8_claims 32 = .ok (.iinc 2 1, 3) := by decide +kernel
theorem dX8_claims_35 : decode cX8_claims 35 = .ok (.goto (-31), 3) := by decide +kernel
theorem dX8_claims_38 : decode cX8_claims 38 = .ok (.iload_n 1, 1) := by decide +kernel
theorem dX8_claims_39 : decode cX8_claims 39 = .ok (.ireturn, 1) := by decide +kernel
theorem dX8_shownNow_0 : decode cX8_shownNow 0 = .ok (.aload_n 0, 1) := by decide +kernel
theorem dX8_shownNow_1 : decode cX8_shownNow 1 = .ok (.aload_n 0, 1) := by decide +kernel
theorem dX8_shownNow_2 : decode cX8_shownNow 2 = .ok (.invokevirtual 225, 3) := by decide +kernel
theorem dX8_shownNow_5 : decode cX8_shownNow 5 = .ok (.ldc 114, 2) := by decide +kernel
theorem dX8_shownNow_7 : decode cX8_shownNow 7 = .ok (.invokevirtual 228, 3) := by decide +kernel
theorem dX8_shownNow_10 : decode cX8_shownNow 10 = .ok (.ireturn, 1) := by decide +kernel
theorem dX8_reachedFrom_0 : decode cX8_reachedFrom 0 = .ok (.iconst 0, 1) := by decide +kernel
theorem dX8_reachedFrom_1 : decode cX8_reachedFrom 1 = .ok (.istore_n 2, 1) := by decide +kernel
theorem dX8_reachedFrom_2 : decode cX8_reachedFrom 2 = .ok (.iconst 1, 1) := by decide +kernel
theorem dX8_reachedFrom_3 : decode cX8_reachedFrom 3 = .ok (.istore_n 3, 1) := by decide +kernel
theorem dX8_reachedFrom_4 : decode cX8_reachedFrom 4 = .ok (.iload_n 3, 1) := by decide +kernel
theorem dX8_reachedFrom_5 : decode cX8_reachedFrom 5 = .ok (.ifCond .eq 113, 3) := by decide +kernel
theorem dX8_reachedFrom_8 : decode cX8_reachedFrom 8 = .ok (.iload_n 2, 1) := by decide +kernel
theorem dX8_reachedFrom_9 : decode cX8_reachedFrom 9 = .ok (.istore 4, 2) := by decide +kernel
theorem dX8_reachedFrom_11 : decode cX8_reachedFrom 11 = .ok (.iconst 0, 1) := by decide +kernel
theorem dX8_reachedFrom_12 : decode cX8_reachedFrom 12 = .ok (.istore 5, 2) := by decide +kernel
theorem dX8_reachedFrom_14 : decode cX8_reachedFrom 14 = .ok (.iload 5, 2) := by decide +kernel
theorem dX8_reachedFrom_16 : decode cX8_reachedFrom 16 = .ok (.aload_n 0, 1) := by decide +kernel
theorem dX8_reachedFrom_17 : decode cX8_reachedFrom 17 = .ok (.getfield 188, 3) := by decide +kernel
theorem dX8_reachedFrom_20 : decode cX8_reachedFrom 20 = .ok (.if_icmp .ge 80, 3) := by decide +kernel
theorem dX8_reachedFrom_23 : decode cX8_reachedFrom 23 = .ok (.iconst 0, 1) := by decide +kernel
theorem dX8_reachedFrom_24 : decode cX8_reachedFrom 24 = .ok (.istore 6, 2) := by decide +kernel
theorem dX8_reachedFrom_26 : decode cX8_reachedFrom 26 = .ok (.iload 6, 2) := by decide +kernel
theorem dX8_reachedFrom_28 : decode cX8_reachedFrom 28 = .ok (.aload_n 0, 1) := by decide +kernel
theorem dX8_reachedFrom_29 : decode cX8_reachedFrom 29 = .ok (.getfield 41, 3) := by decide +kernel
theorem dX8_reachedFrom_32 : decode cX8_reachedFrom 32 = .ok (.iload 5, 2) := by decide +kernel
theorem dX8_reachedFrom_34 : decode cX8_reachedFrom 34 = .ok (.iaload, 1) := by decide +kernel
theorem dX8_reachedFrom_35 : decode cX8_reachedFrom 35 = .ok (.if_icmp .ge 59, 3) := by decide +kernel
theorem dX8_reachedFrom_38 : decode cX8_reachedFrom 38 = .ok (.iload 4, 2) := by decide +kernel
theorem dX8_reachedFrom_40 : decode cX8_reachedFrom 40 = .ok (.aload_n 0, 1) := by decide +kernel
theorem dX8_reachedFrom_41 : decode cX8_reachedFrom 41 = .ok (.getfield 38, 3) := by decide +kernel
theorem dX8_reachedFrom_44 : decode cX8_reachedFrom 44 = .ok (.iload 5, 2) := by decide +kernel
theorem dX8_reachedFrom_46 : decode cX8_reachedFrom 46 = .ok (.iaload, 1) := by decide +kernel
theorem dX8_reachedFrom_47 : decode cX8_reachedFrom 47 = .ok (.iload_n 1, 1) := by decide +kernel
theorem dX8_reachedFrom_48 : decode cX8_reachedFrom 48 = .ok (.if_icmp .eq 18, 3) := by decide +kernel
theorem dX8_reachedFrom_51 : decode cX8_reachedFrom 51 = .ok (.iload_n 2, 1) := by decide +kernel
theorem dX8_reachedFrom_52 : decode cX8_reachedFrom 52 = .ok (.aload_n 0, 1) := by decide +kernel
theorem dX8_reachedFrom_53 : decode cX8_reachedFrom 53 = .ok (.getfield 38, 3) := by decide +kernel
theorem dX8_reachedFrom_56 : decode cX8_reachedFrom 56 = .ok (.iload 5, 2) := by decide +kernel
theorem dX8_reachedFrom_58 : decode cX8_reachedFrom 58 = .ok (.iaload, 1) := by decide +kernel
theorem dX8_reachedFrom_59 : decode cX8_reachedFrom 59 = .ok (.ishr, 1) := by decide +kernel
theorem dX8_reachedFrom_60 : decode cX8_reachedFrom 60 = .ok (.iconst 1, 1) := by decide +kernel
theorem dX8_reachedFrom_61 : decode cX8_reachedFrom 61 = .ok (.iand, 1) := by decide +kernel
theorem dX8_reachedFrom_62 : decode cX8_reachedFrom 62 = .ok (.iconst 1, 1) := by decide +kernel
theorem dX8_reachedFrom_63 : decode cX8_reachedFrom 63 = .ok (.if_icmp .ne 21, 3) := by decide +kernel
theorem dX8_reachedFrom_66 : decode cX8_reachedFrom 66 = .ok (.iconst 1, 1) := by decide +kernel
theorem dX8_reachedFrom_67 : decode cX8_reachedFrom 67 = .ok (.aload_n 0, 1) := by decide +kernel
theorem dX8_reachedFrom_68 : decode cX8_reachedFrom 68 = .ok (.getfield 44, 3) := by decide +kernel
theorem dX8_reachedFrom_71 : decode cX8_reachedFrom 71 = .ok (.bipush 6, 2) := by decide +kernel
theorem dX8_reachedFrom_73 : decode cX8_reachedFrom 73 = .ok (.iload 5, 2) := by decide +kernel
theorem dX8_reachedFrom_75 : decode cX8_reachedFrom 75 = .ok (.imul, 1) := by decide +kernel
theorem dX8_reachedFrom_76 : decode cX8_reachedFrom 76 = .ok (.iload 6, 2) := by decide +kernel
theorem dX8_reachedFrom_78 : decode cX8_reachedFrom 78 = .ok (.iadd, 1) := by decide +kernel
theorem dX8_reachedFrom_79 : decode cX8_reachedFrom 79 = .ok (.iaload, 1) := by decide +kernel
theorem dX8_reachedFrom_80 : decode cX8_reachedFrom 80 = .ok (.ishl, 1) := by decide +kernel
theorem dX8_reachedFrom_81 : decode cX8_reachedFrom 81 = .ok (.goto 4, 3) := by decide +kernel
theorem dX8_reachedFrom_84 : decode cX8_reachedFrom 84 = .ok (.iconst 0, 1) := by decide +kernel
theorem dX8_reachedFrom_85 : decode cX8_reachedFrom 85 = .ok (.ior, 1) := by decide +kernel
theorem dX8_reachedFrom_86 : decode cX8_reachedFrom 86 = .ok (.istore 4, 2) := by decide +kernel
theorem dX8_reachedFrom_88 : decode cX8_reachedFrom 88 = .ok (.iinc 6 1, 3) := by decide +kernel
theorem dX8_reachedFrom_91 : decode cX8_reachedFrom 91 = .ok (.goto (-65), 3) := by decide +kernel
theorem dX8_reachedFrom_94 : decode cX8_reachedFrom 94 = .ok (.iinc 5 1, 3) := by decide +kernel
theorem dX8_reachedFrom_97 : decode cX8_reachedFrom 97 = .ok (.goto (-83), 3) := by decide +kernel
theorem dX8_reachedFrom_100 : decode cX8_reachedFrom 100 = .ok (.iload 4, 2) := by decide +kernel
theorem dX8_reachedFrom_102 : decode cX8_reachedFrom 102 = .ok (.iload_n 2, 1) := by decide +kernel
theorem dX8_reachedFrom_103 : decode cX8_reachedFrom 103 = .ok (.if_icmp .eq 7, 3) := by decide +kernel
theorem dX8_reachedFrom_106 : decode cX8_reachedFrom 106 = .ok (.iconst 1, 1) := by decide +kernel
theorem dX8_reachedFrom_107 : decode cX8_reachedFrom 107 = .ok (.goto 4, 3) := by decide +kernel
theorem dX8_reachedFrom_110 : decode cX8_reachedFrom 110 = .ok (.iconst 0, 1) := by decide +kernel
theorem dX8_reachedFrom_111 : decode cX8_reachedFrom 111 = .ok (.istore_n 3, 1) := by decide +kernel
theorem dX8_reachedFrom_112 : decode cX8_reachedFrom 112 = .ok (.iload 4, 2) := by decide +kernel
theorem dX8_reachedFrom_114 : decode cX8_reachedFrom 114 = .ok (.istore_n 2, 1) := by decide +kernel
theorem dX8_reachedFrom_115 : decode cX8_reachedFrom 115 = .ok (.goto (-111), 3) := by decide +kernel
theorem dX8_reachedFrom_118 : decode cX8_reachedFrom 118 = .ok (.iload_n 2, 1) := by decide +kernel
theorem dX8_reachedFrom_119 : decode cX8_reachedFrom 119 = .ok (.ireturn, 1) := by decide +kernel
theorem dX8_shown_0 : decode cX8_shown 0 = .ok (.aload_n 0, 1) := by decide +kernel
theorem dX8_shown_1 : decode cX8_shown 1 = .ok (.iconst 0, 1) := by decide +kernel
theorem dX8_shown_2 : decode cX8_shown 2 = .ok (.putfield 78, 3) := by decide +kernel
theorem dX8_shown_5 : decode cX8_shown 5 = .ok (.iload_n 1, 1) := by decide +kernel
theorem dX8_shown_6 : decode cX8_shown 6 = .ok (.i2l, 1) := by decide +kernel
theorem dX8_shown_7 : decode cX8_shown 7 = .ok (.lconst 0, 1) := by decide +kernel
theorem dX8_shown_8 : decode cX8_shown 8 = .ok (.ldc2_w 96, 3) := by decide +kernel
theorem dX8_shown_11 : decode cX8_shown 11 = .ok (.invokestatic 88, 3) := by decide +kernel
theorem dX8_shown_14 : decode cX8_shown 14 = .ok (.ifCond .ne 6, 3) := by decide +kernel
theorem dX8_shown_17 : decode cX8_shown 17 = .ok (.ldc 98, 2) := by decide +kernel
theorem dX8_shown_19 : decode cX8_shown 19 = .ok (.ireturn, 1) := by decide +kernel
theorem dX8_shown_20 : decode cX8_shown 20 = .ok (.aload_n 0, 1) := by decide +kernel
theorem dX8_shown_21 : decode cX8_shown 21 = .ok (.invokevirtual 232, 3) := by decide +kernel
theorem dX8_shown_24 : decode cX8_shown 24 = .ok (.aload_n 0, 1) := by decide +kernel
theorem dX8_shown_25 : decode cX8_shown 25 = .ok (.invokevirtual 235, 3) := by decide +kernel
theorem dX8_shown_28 : decode cX8_shown 28 = .ok (.iand, 1) := by decide +kernel
theorem dX8_shown_29 : decode cX8_shown 29 = .ok (.istore_n 2, 1) := by decide +kernel
theorem dX8_shown_30 : decode cX8_shown 30 = .ok (.iload_n 1, 1) := by decide +kernel
theorem dX8_shown_31 : decode cX8_shown 31 = .ok (.iconst 2, 1) := by decide +kernel
theorem dX8_shown_32 : decode cX8_shown 32 = .ok (.if_icmp .ge 16, 3) := by decide +kernel
theorem dX8_shown_35 : decode cX8_shown 35 = .ok (.iload_n 1, 1) := by decide +kernel
theorem dX8_shown_36 : decode cX8_shown 36 = .ok (.ifCond .ne 7, 3) := by decide +kernel
theorem dX8_shown_39 : decode cX8_shown 39 = .ok (.iload_n 2, 1) := by decide +kernel
theorem dX8_shown_40 : decode cX8_shown 40 = .ok (.goto 7, 3) := by decide +kernel
theorem dX8_shown_43 : decode cX8_shown 43 = .ok (.aload_n 0, 1) := by decide +kernel
theorem dX8_shown_44 : decode cX8_shown 44 = .ok (.getfield 216, 3) := by decide +kernel
theorem dX8_shown_47 : decode cX8_shown 47 = .ok (.ireturn, 1) := by decide +kernel
theorem dX8_shown_48 : decode cX8_shown 48 = .ok (.iconst 0, 1) := by decide +kernel
theorem dX8_shown_49 : decode cX8_shown 49 = .ok (.istore_n 3, 1) := by decide +kernel
theorem dX8_shown_50 : decode cX8_shown 50 = .ok (.iconst 0, 1) := by decide +kernel
theorem dX8_shown_51 : decode cX8_shown 51 = .ok (.istore 4, 2) := by decide +kernel
theorem dX8_shown_53 : decode cX8_shown 53 = .ok (.iload 4, 2) := by decide +kernel
theorem dX8_shown_55 : decode cX8_shown 55 = .ok (.aload_n 0, 1) := by decide +kernel
theorem dX8_shown_56 : decode cX8_shown 56 = .ok (.getfield 185, 3) := by decide +kernel
theorem dX8_shown_59 : decode cX8_shown 59 = .ok (.if_icmp .ge 46, 3) := by decide +kernel
theorem dX8_shown_62 : decode cX8_shown 62 = .ok (.iload_n 3, 1) := by decide +kernel
theorem dX8_shown_63 : decode cX8_shown 63 = .ok (.aload_n 0, 1) := by decide +kernel
theorem dX8_shown_64 : decode cX8_shown 64 = .ok (.getfield 19, 3) := by decide +kernel
theorem dX8_shown_67 : decode cX8_shown 67 = .ok (.iload 4, 2) := by decide +kernel
theorem dX8_shown_69 : decode cX8_shown 69 = .ok (.iaload, 1) := by decide +kernel
theorem dX8_shown_70 : decode cX8_shown 70 = .ok (.iconst 2, 1) := by decide +kernel
theorem dX8_shown_71 : decode cX8_shown 71 = .ok (.if_icmp .ne 25, 3) := by decide +kernel
theorem dX8_shown_74 : decode cX8_shown 74 = .ok (.aload_n 0, 1) := by decide +kernel
theorem dX8_shown_75 : decode cX8_shown 75 = .ok (.iload 4, 2) := by decide +kernel
theorem dX8_shown_77 : decode cX8_shown 77 = .ok (.invokevirtual 238, 3) := by decide +kernel
theorem dX8_shown_80 : decode cX8_shown 80 = .ok (.iload 4, 2) := by decide +kernel
theorem dX8_shown_82 : decode cX8_shown 82 = .ok (.ishr, 1) := by decide +kernel
theorem dX8_shown_83 : decode cX8_shown 83 = .ok (.iconst 1, 1) := by decide +kernel
theorem dX8_shown_84 : decode cX8_shown 84 = .ok (.iand, 1) := by decide +kernel
theorem dX8_shown_85 : decode cX8_shown 85 = .ok (.iconst 1, 1) := by decide +kernel
theorem dX8_shown_86 : decode cX8_shown 86 = .ok (.if_icmp .ne 10, 3) := by decide +kernel
theorem dX8_shown_89 : decode cX8_shown 89 = .ok (.iconst 1, 1) := by decide +kernel
theorem dX8_shown_90 : decode cX8_shown 90 = .ok (.iload 4, 2) := by decide +kernel
theorem dX8_shown_92 : decode cX8_shown 92 = .ok (.ishl, 1) := by decide +kernel
theorem dX8_shown_93 : decode cX8_shown 93 = .ok (.goto 4, 3) := by decide +kernel
theorem dX8_shown_96 : decode cX8_shown 96 = .ok (.iconst 0, 1) := by decide +kernel
theorem dX8_shown_97 : decode cX8_shown 97 = .ok (.ior, 1) := by decide +kernel
theorem dX8_shown_98 : decode cX8_shown 98 = .ok (.istore_n 3, 1) := by decide +kernel
theorem dX8_shown_99 : decode cX8_shown 99 = .ok (.iinc 4 1, 3) := by decide +kernel
theorem dX8_shown_102 : decode cX8_shown 102 = .ok (.goto (-49), 3) := by decide +kernel
theorem dX8_shown_105 : decode cX8_shown 105 = .ok (.iload_n 3, 1) := by decide +kernel
theorem dX8_shown_106 : decode cX8_shown 106 = .ok (.ireturn, 1) := by decide +kernel
theorem dX8_leaning_0 : decode cX8_leaning 0 = .ok (.aload_n 0, 1) := by decide +kernel
theorem dX8_leaning_1 : decode cX8_leaning 1 = .ok (.iconst 0, 1) := by decide +kernel
theorem dX8_leaning_2 : decode cX8_leaning 2 = .ok (.putfield 78, 3) := by decide +kernel
theorem dX8_leaning_5 : decode cX8_leaning 5 = .ok (.aload_n 0, 1) := by decide +kernel
theorem dX8_leaning_6 : decode cX8_leaning 6 = .ok (.iload_n 1, 1) := by decide +kernel
theorem dX8_leaning_7 : decode cX8_leaning 7 = .ok (.invokevirtual 204, 3) := by decide +kernel
theorem dX8_leaning_10 : decode cX8_leaning 10 = .ok (.ifCond .ne 6, 3) := by decide +kernel
theorem dX8_leaning_13 : decode cX8_leaning 13 = .ok (.ldc 98, 2) := by decide +kernel
theorem dX8_leaning_15 : decode cX8_leaning 15 = .ok (.ireturn, 1) := by decide +kernel
theorem dX8_leaning_16 : decode cX8_leaning 16 = .ok (.aload_n 0, 1) := by decide +kernel
theorem dX8_leaning_17 : decode cX8_leaning 17 = .ok (.invokevirtual 232, 3) := by decide +kernel
theorem dX8_leaning_20 : decode cX8_leaning 20 = .ok (.istore_n 2, 1) := by decide +kernel
theorem dX8_leaning_21 : decode cX8_leaning 21 = .ok (.aload_n 0, 1) := by decide +kernel
theorem dX8_leaning_22 : decode cX8_leaning 22 = .ok (.getfield 19, 3) := by decide +kernel
theorem dX8_leaning_25 : decode cX8_leaning 25 = .ok (.iload_n 1, 1) := by decide +kernel
theorem dX8_leaning_26 : decode cX8_leaning 26 = .ok (.iaload, 1) := by decide +kernel
theorem dX8_leaning_27 : decode cX8_leaning 27 = .ok (.iconst 2, 1) := by decide +kernel
theorem dX8_leaning_28 : decode cX8_leaning 28 = .ok (.if_icmp .ne 15, 3) := by decide +kernel
theorem dX8_leaning_31 : decode cX8_leaning 31 = .ok (.aload_n 0, 1) := by decide +kernel
theorem dX8_leaning_32 : decode cX8_leaning 32 = .ok (.aload_n 0, 1) := by decide +kernel
theorem dX8_leaning_33 : decode cX8_leaning 33 = .ok (.invokevirtual 225, 3) := by decide +kernel
theorem dX8_leaning_36 : decode cX8_leaning 36 = .ok (.iload_n 1, 1) := by decide +kernel
theorem dX8_leaning_37 : decode cX8_leaning 37 = .ok (.invokevirtual 228, 3) := by decide +kernel
theorem dX8_leaning_40 : decode cX8_leaning 40 = .ok (.goto 19, 3) := by decide +kernel
theorem dX8_leaning_43 : decode cX8_leaning 43 = .ok (.aload_n 0, 1) := by decide +kernel
theorem dX8_leaning_44 : decode cX8_leaning 44 = .ok (.aload_n 0, 1) := by decide +kernel
theorem dX8_leaning_45 : decode cX8_leaning 45 = .ok (.invokevirtual 225, 3) := by decide +kernel
theorem dX8_leaning_48 : decode cX8_leaning 48 = .ok (.iconst 1, 1) := by decide +kernel
theorem dX8_leaning_49 : decode cX8_leaning 49 = .ok (.iload_n 1, 1) := by decide +kernel
theorem dX8_leaning_50 : decode cX8_leaning 50 = .ok (.ishl, 1) := by decide +kernel
theorem dX8_leaning_51 : decode cX8_leaning 51 = .ok (.iconst (-1), 1) := by decide +kernel
theorem dX8_leaning_52 : decode cX8_leaning 52 = .ok (.ixor, 1) := by decide +kernel
theorem dX8_leaning_53 : decode cX8_leaning 53 = .ok (.iand, 1) := by decide +kernel
theorem dX8_leaning_54 : decode cX8_leaning 54 = .ok (.ldc 114, 2) := by decide +kernel
theorem dX8_leaning_56 : decode cX8_leaning 56 = .ok (.invokevirtual 228, 3) := by decide +kernel
theorem dX8_leaning_59 : decode cX8_leaning 59 = .ok (.istore_n 3, 1) := by decide +kernel
theorem dX8_leaning_60 : decode cX8_leaning 60 = .ok (.iload_n 2, 1) := by decide +kernel
theorem dX8_leaning_61 : decode cX8_leaning 61 = .ok (.iload_n 3, 1) := by decide +kernel
theorem dX8_leaning_62 : decode cX8_leaning 62 = .ok (.iconst (-1), 1) := by decide +kernel
theorem dX8_leaning_63 : decode cX8_leaning 63 = .ok (.ixor, 1) := by decide +kernel
theorem dX8_leaning_64 : decode cX8_leaning 64 = .ok (.iand, 1) := by decide +kernel
theorem dX8_leaning_65 : decode cX8_leaning 65 = .ok (.aload_n 0, 1) := by decide +kernel
theorem dX8_leaning_66 : decode cX8_leaning 66 = .ok (.invokevirtual 235, 3) := by decide +kernel
theorem dX8_leaning_69 : decode cX8_leaning 69 = .ok (.iand, 1) := by decide +kernel
theorem dX8_leaning_70 : decode cX8_leaning 70 = .ok (.iconst 1, 1) := by decide +kernel
theorem dX8_leaning_71 : decode cX8_leaning 71 = .ok (.iload_n 1, 1) := by decide +kernel
theorem dX8_leaning_72 : decode cX8_leaning 72 = .ok (.ishl, 1) := by decide +kernel
theorem dX8_leaning_73 : decode cX8_leaning 73 = .ok (.iconst (-1), 1) := by decide +kernel
theorem dX8_leaning_74 : decode cX8_leaning 74 = .ok (.ixor, 1) := by decide +kernel
theorem dX8_leaning_75 : decode cX8_leaning 75 = .ok (.iand, 1) := by decide +kernel
theorem dX8_leaning_76 : decode cX8_leaning 76 = .ok (.ireturn, 1) := by decide +kernel
theorem dX8_isFelled_0 : decode cX8_isFelled 0 = .ok (.aload_n 0, 1) := by decide +kernel
theorem dX8_isFelled_1 : decode cX8_isFelled 1 = .ok (.aload_n 0, 1) := by decide +kernel
theorem dX8_isFelled_2 : decode cX8_isFelled 2 = .ok (.invokevirtual 225, 3) := by decide +kernel
theorem dX8_isFelled_5 : decode cX8_isFelled 5 = .ok (.iload_n 2, 1) := by decide +kernel
theorem dX8_isFelled_6 : decode cX8_isFelled 6 = .ok (.iconst (-1), 1) := by decide +kernel
theorem dX8_isFelled_7 : decode cX8_isFelled 7 = .ok (.ixor, 1) := by decide +kernel
theorem dX8_isFelled_8 : decode cX8_isFelled 8 = .ok (.iand, 1) := by decide +kernel
theorem dX8_isFelled_9 : decode cX8_isFelled 9 = .ok (.ldc 114, 2) := by decide +kernel
theorem dX8_isFelled_11 : decode cX8_isFelled 11 = .ok (.invokevirtual 228, 3) := by decide +kernel
theorem dX8_isFelled_14 : decode cX8_isFelled 14 = .ok (.iload_n 1, 1) := by decide +kernel
theorem dX8_isFelled_15 : decode cX8_isFelled 15 = .ok (.ishr, 1) := by decide +kernel
theorem dX8_isFelled_16 : decode cX8_isFelled 16 = .ok (.iconst 1, 1) := by decide +kernel
theorem dX8_isFelled_17 : decode cX8_isFelled 17 = .ok (.iand, 1) := by decide +kernel
theorem dX8_isFelled_18 : decode cX8_isFelled 18 = .ok (.ifCond .ne 7, 3) := by decide +kernel
theorem dX8_isFelled_21 : decode cX8_isFelled 21 = .ok (.iconst 1, 1) := by decide +kernel
theorem dX8_isFelled_22 : decode cX8_isFelled 22 = .ok (.goto 4, 3) := by decide +kernel
theorem dX8_isFelled_25 : decode cX8_isFelled 25 = .ok (.iconst 0, 1) := by decide +kernel
theorem dX8_isFelled_26 : decode cX8_isFelled 26 = .ok (.ireturn, 1) := by decide +kernel
theorem dX8_isFelling_0 : decode cX8_isFelling 0 = .ok (.aload_n 0, 1) := by decide +kernel
theorem dX8_isFelling_1 : decode cX8_isFelling 1 = .ok (.iload_n 1, 1) := by decide +kernel
theorem dX8_isFelling_2 : decode cX8_isFelling 2 = .ok (.iload_n 2, 1) := by decide +kernel
theorem dX8_isFelling_3 : decode cX8_isFelling 3 = .ok (.invokevirtual 241, 3) := by decide +kernel
theorem dX8_isFelling_6 : decode cX8_isFelling 6 = .ok (.istore_n 3, 1) := by decide +kernel
theorem dX8_isFelling_7 : decode cX8_isFelling 7 = .ok (.iconst 0, 1) := by decide +kernel
theorem dX8_isFelling_8 : decode cX8_isFelling 8 = .ok (.istore 4, 2) := by decide +kernel
theorem dX8_isFelling_10 : decode cX8_isFelling 10 = .ok (.iload 4, 2) := by decide +kernel
theorem dX8_isFelling_12 : decode cX8_isFelling 12 = .ok (.aload_n 0, 1) := by decide +kernel
theorem dX8_isFelling_13 : decode cX8_isFelling 13 = .ok (.getfield 185, 3) := by decide +kernel
theorem dX8_isFelling_16 : decode cX8_isFelling 16 = .ok (.if_icmp .ge 44, 3) := by decide +kernel
theorem dX8_isFelling_19 : decode cX8_isFelling 19 = .ok (.iload_n 3, 1) := by decide +kernel
theorem dX8_isFelling_20 : decode cX8_isFelling 20 = .ok (.ifCond .eq 40, 3) := by decide +kernel
theorem dX8_isFelling_23 : decode cX8_isFelling 23 = .ok (.iload_n 2, 1) := by decide +kernel
theorem dX8_isFelling_24 : decode cX8_isFelling 24 = .ok (.iload 4, 2) := by decide +kernel
theorem dX8_isFelling_26 : decode cX8_isFelling 26 = .ok (.ishr, 1) := by decide +kernel
theorem dX8_isFelling_27 : decode cX8_isFelling 27 = .ok (.iconst 1, 1) := by decide +kernel
theorem dX8_isFelling_28 : decode cX8_isFelling 28 = .ok (.iand, 1) := by decide +kernel
theorem dX8_isFelling_29 : decode cX8_isFelling 29 = .ok (.ifCond .eq 19, 3) := by decide +kernel
theorem dX8_isFelling_32 : decode cX8_isFelling 32 = .ok (.aload_n 0, 1) := by decide +kernel
theorem dX8_isFelling_33 : decode cX8_isFelling 33 = .ok (.iload_n 1, 1) := by decide +kernel
theorem dX8_isFelling_34 : decode cX8_isFelling 34 = .ok (.iload_n 2, 1) := by decide +kernel
theorem dX8_isFelling_35 : decode cX8_isFelling 35 = .ok (.iconst 1, 1) := by decide +kernel
theorem dX8_isFelling_36 : decode cX8_isFelling 36 = .ok (.iload 4, 2) := by decide +kernel
theorem dX8_isFelling_38 : decode cX8_isFelling 38 = .ok (.ishl, 1) := by decide +kernel
theorem dX8_isFelling_39 : decode cX8_isFelling 39 = .ok (.iconst (-1), 1) := by decide +kernel
theorem dX8_isFelling_40 : decode cX8_isFelling 40 = .ok (.ixor, 1) := by decide +kernel
theorem dX8_isFelling_41 : decode cX8_isFelling 41 = .ok (.iand, 1) := by decide +kernel
theorem dX8_isFelling_42 : decode cX8_isFelling 42 = .ok (.invokevirtual 241, 3) := by decide +kernel
theorem dX8_isFelling_45 : decode cX8_isFelling 45 = .ok (.ifCond .ne 7, 3) := by decide +kernel
theorem dX8_isFelling_48 : decode cX8_isFelling 48 = .ok (.iconst 1, 1) := by decide +kernel
theorem dX8_isFelling_49 : decode cX8_isFelling 49 = .ok (.goto 4, 3) := by decide +kernel
theorem dX8_isFelling_52 : decode cX8_isFelling 52 = .ok (.iconst 0, 1) := by decide +kernel
theorem dX8_isFelling_53 : decode cX8_isFelling 53 = .ok (.istore_n 3, 1) := by decide +kernel
theorem dX8_isFelling_54 : decode cX8_isFelling 54 = .ok (.iinc 4 1, 3) := by decide +kernel
theorem dX8_isFelling_57 : decode cX8_isFelling 57 = .ok (.goto (-47), 3) := by decide +kernel
theorem dX8_isFelling_60 : decode cX8_isFelling 60 = .ok (.iload_n 3, 1) := by decide +kernel
theorem dX8_isFelling_61 : decode cX8_isFelling 61 = .ok (.ireturn, 1) := by decide +kernel
theorem dX8_bits_0 : decode cX8_bits 0 = .ok (.iconst 0, 1) := by decide +kernel
theorem dX8_bits_1 : decode cX8_bits 1 = .ok (.istore_n 1, 1) := by decide +kernel
theorem dX8_bits_2 : decode cX8_bits 2 = .ok (.iconst 0, 1) := by decide +kernel
theorem dX8_bits_3 : decode cX8_bits 3 = .ok (.istore_n 2, 1) := by decide +kernel
theorem dX8_bits_4 : decode cX8_bits 4 = .ok (.iload_n 2, 1) := by decide +kernel
theorem dX8_bits_5 : decode cX8_bits 5 = .ok (.bipush 20, 2) := by decide +kernel
theorem dX8_bits_7 : decode cX8_bits 7 = .ok (.if_icmp .ge 17, 3) := by decide +kernel
theorem dX8_bits_10 : decode cX8_bits 10 = .ok (.iload_n 1, 1) := by decide +kernel
theorem dX8_bits_11 : decode cX8_bits 11 = .ok (.iload_n 0, 1) := by decide +kernel
theorem dX8_bits_12 : decode cX8_bits 12 = .ok (.iload_n 2, 1) := by decide +kernel
theorem dX8_bits_13 : decode cX8_bits 13 = .ok (.ishr, 1) := by decide +kernel
theorem dX8_bits_14 : decode cX8_bits 14 = .ok (.iconst 1, 1) := by decide +kernel
theorem dX8_bits_15 : decode cX8_bits 15 = .ok (.iand, 1) := by decide +kernel
theorem dX8_bits_16 : decode cX8_bits 16 = .ok (.iadd, 1) := by decide +kernel
theorem dX8_bits_17 : decode cX8_bits 17 = .ok (.istore_n 1, 1) := by decide +kernel
theorem dX8_bits_18 : decode cX8_bits 18 = .ok (.iinc 2 1, 3) := by decide +kernel
theorem dX8_bits_21 : decode cX8_bits 21 = .ok (.goto (-17), 3) := by decide +kernel
theorem dX8_bits_24 : decode cX8_bits 24 = .ok (.iload_n 1, 1) := by decide +kernel
theorem dX8_bits_25 : decode cX8_bits 25 = .ok (.ireturn, 1) := by decide +kernel
theorem dX8_felling_0 : decode cX8_felling 0 = .ok (.aload_n 0, 1) := by decide +kernel
theorem dX8_felling_1 : decode cX8_felling 1 = .ok (.iconst 0, 1) := by decide +kernel
theorem dX8_felling_2 : decode cX8_felling 2 = .ok (.putfield 78, 3) := by decide +kernel
theorem dX8_felling_5 : decode cX8_felling 5 = .ok (.aload_n 0, 1) := by decide +kernel
theorem dX8_felling_6 : decode cX8_felling 6 = .ok (.iload_n 1, 1) := by decide +kernel
theorem dX8_felling_7 : decode cX8_felling 7 = .ok (.invokevirtual 244, 3) := by decide +kernel
theorem dX8_felling_10 : decode cX8_felling 10 = .ok (.ifCond .eq 8, 3) := by decide +kernel
theorem dX8_felling_13 : decode cX8_felling 13 = .ok (.iload_n 2, 1) := by decide +kernel
theorem dX8_felling_14 : decode cX8_felling 14 = .ok (.iconst (-1), 1) := by decide +kernel
theorem dX8_felling_15 : decode cX8_felling 15 = .ok (.if_icmp .ge 6, 3) := by decide +kernel
theorem dX8_felling_18 : decode cX8_felling 18 = .ok (.ldc 98, 2) := by decide +kernel
theorem dX8_felling_20 : decode cX8_felling 20 = .ok (.ireturn, 1) := by decide +kernel
theorem dX8_felling_21 : decode cX8_felling 21 = .ok (.aload_n 0, 1) := by decide +kernel
theorem dX8_felling_22 : decode cX8_felling 22 = .ok (.invokevirtual 232, 3) := by decide +kernel
theorem dX8_felling_25 : decode cX8_felling 25 = .ok (.iload_n 1, 1) := by decide +kernel
theorem dX8_felling_26 : decode cX8_felling 26 = .ok (.ishr, 1) := by decide +kernel
theorem dX8_felling_27 : decode cX8_felling 27 = .ok (.iconst 1, 1) := by decide +kernel
theorem dX8_felling_28 : decode cX8_felling 28 = .ok (.iand, 1) := by decide +kernel
theorem dX8_felling_29 : decode cX8_felling 29 = .ok (.ifCond .ne 6, 3) := by decide +kernel
theorem dX8_felling_32 : decode cX8_felling 32 = .ok (.ldc 247, 2) := by decide +kernel
theorem dX8_felling_34 : decode cX8_felling 34 = .ok (.ireturn, 1) := by decide +kernel
theorem dX8_felling_35 : decode cX8_felling 35 = .ok (.aload_n 0, 1) := by decide +kernel
theorem dX8_felling_36 : decode cX8_felling 36 = .ok (.invokevirtual 225, 3) := by decide +kernel
theorem dX8_felling_39 : decode cX8_felling 39 = .ok (.istore_n 3, 1) := by decide +kernel
theorem dX8_felling_40 : decode cX8_felling 40 = .ok (.iconst 0, 1) := by decide +kernel
theorem dX8_felling_41 : decode cX8_felling 41 = .ok (.istore 4, 2) := by decide +kernel
theorem dX8_felling_43 : decode cX8_felling 43 = .ok (.iconst 1, 1) := by decide +kernel
theorem dX8_felling_44 : decode cX8_felling 44 = .ok (.istore 5, 2) := by decide +kernel
theorem dX8_felling_46 : decode cX8_felling 46 = .ok (.iload 5, 2) := by decide +kernel
theorem dX8_felling_48 : decode cX8_felling 48 = .ok (.iconst 4, 1) := by decide +kernel
theorem dX8_felling_49 : decode cX8_felling 49 = .ok (.if_icmp .ge 204, 3) := by decide +kernel
theorem dX8_felling_52 : decode cX8_felling 52 = .ok (.iload 5, 2) := by decide +kernel
theorem dX8_felling_54 : decode cX8_felling 54 = .ok (.iconst 2, 1) := by decide +kernel
theorem dX8_felling_55 : decode cX8_felling 55 = .ok (.if_icmp .le 7, 3) := by decide +kernel
theorem dX8_felling_58 : decode cX8_felling 58 = .ok (.iconst 0, 1) := by decide +kernel
theorem dX8_felling_59 : decode cX8_felling 59 = .ok (.goto 4, 3) := by decide +kernel
theorem dX8_felling_62 : decode cX8_felling 62 = .ok (.iconst (-1), 1) := by decide +kernel
theorem dX8_felling_63 : decode cX8_felling 63 = .ok (.istore 6, 2) := by decide +kernel
theorem dX8_felling_65 : decode cX8_felling 65 = .ok (.iload 6, 2) := by decide +kernel
theorem dX8_felling_67 : decode cX8_felling 67 = .ok (.iload 5, 2) := by decide +kernel
theorem dX8_felling_69 : decode cX8_felling 69 = .ok (.iconst 2, 1) := by decide +kernel
theorem dX8_felling_70 : decode cX8_felling 70 = .ok (.if_icmp .le 10, 3) := by decide +kernel
theorem dX8_felling_73 : decode cX8_felling 73 = .ok (.aload_n 0, 1) := by decide +kernel
theorem dX8_felling_74 : decode cX8_felling 74 = .ok (.getfield 185, 3) := by decide +kernel
theorem dX8_felling_77 : decode cX8_felling 77 = .ok (.goto 4, 3) := by decide +kernel
theorem dX8_felling_80 : decode cX8_felling 80 = .ok (.iconst 0, 1) := by decide +kernel
theorem dX8_felling_81 : decode cX8_felling 81 = .ok (.if_icmp .ge 166, 3) := by decide +kernel
theorem dX8_felling_84 : decode cX8_felling 84 = .ok (.iload 5, 2) := by decide +kernel
theorem dX8_felling_86 : decode cX8_felling 86 = .ok (.iconst 1, 1) := by decide +kernel
theorem dX8_felling_87 : decode cX8_felling 87 = .ok (.if_icmp .le 7, 3) := by decide +kernel
theorem dX8_felling_90 : decode cX8_felling 90 = .ok (.iconst 0, 1) := by decide +kernel
theorem dX8_felling_91 : decode cX8_felling 91 = .ok (.goto 4, 3) := by decide +kernel
theorem dX8_felling_94 : decode cX8_felling 94 = .ok (.iconst (-1), 1) := by decide +kernel
theorem dX8_felling_95 : decode cX8_felling 95 = .ok (.istore 7, 2) := by decide +kernel
theorem dX8_felling_97 : decode cX8_felling 97 = .ok (.iload 7, 2) := by decide +kernel
theorem dX8_felling_99 : decode cX8_felling 99 = .ok (.iload 5, 2) := by decide +kernel
theorem dX8_felling_101 : decode cX8_felling 101 = .ok (.iconst 1, 1) := by decide +kernel
theorem dX8_felling_102 : decode cX8_felling 102 = .ok (.if_icmp .le 10, 3) := by decide +kernel
theorem dX8_felling_105 : decode cX8_felling 105 = .ok (.aload_n 0, 1) := by decide +kernel
theorem dX8_felling_106 : decode cX8_felling 106 = .ok (.getfield 185, 3) := by decide +kernel
theorem dX8_felling_109 : decode cX8_felling 109 = .ok (.goto 4, 3) := by decide +kernel
theorem dX8_felling_112 : decode cX8_felling 112 = .ok (.iconst 0, 1) := by decide +kernel
theorem dX8_felling_113 : decode cX8_felling 113 = .ok (.if_icmp .ge 128, 3) := by decide +kernel
theorem dX8_felling_116 : decode cX8_felling 116 = .ok (.iconst 0, 1) := by decide +kernel
theorem dX8_felling_117 : decode cX8_felling 117 = .ok (.istore 8, 2) := by decide +kernel
theorem dX8_felling_119 : decode cX8_felling 119 = .ok (.iload 8, 2) := by decide +kernel
theorem dX8_felling_121 : decode cX8_felling 121 = .ok (.aload_n 0, 1) := by decide +kernel
theorem dX8_felling_122 : decode cX8_felling 122 = .ok (.getfield 185, 3) := by decide +kernel
theorem dX8_felling_125 : decode cX8_felling 125 = .ok (.if_icmp .ge 110, 3) := by decide +kernel
theorem dX8_felling_128 : decode cX8_felling 128 = .ok (.iconst 1, 1) := by decide +kernel
theorem dX8_felling_129 : decode cX8_felling 129 = .ok (.iload 8, 2) := by decide +kernel
theorem dX8_felling_131 : decode cX8_felling 131 = .ok (.ishl, 1) := by decide +kernel
theorem dX8_felling_132 : decode cX8_felling 132 = .ok (.iload 7, 2) := by decide +kernel
theorem dX8_felling_134 : decode cX8_felling 134 = .ok (.ifCond .ge 7, 3) := by decide +kernel
theorem dX8_felling_137 : decode cX8_felling 137 = .ok (.iconst 0, 1) := by decide +kernel
theorem dX8_felling_138 : decode cX8_felling 138 = .ok (.goto 7, 3) := by decide +kernel
theorem dX8_felling_141 : decode cX8_felling 141 = .ok (.iconst 1, 1) := by decide +kernel
theorem dX8_felling_142 : decode cX8_felling 142 = .ok (.iload 7, 2) := by decide +kernel
theorem dX8_felling_144 : decode cX8_felling 144 = .ok (.ishl, 1) := by decide +kernel
theorem dX8_felling_145 : decode cX8_felling 145 = .ok (.ior, 1) := by decide +kernel
theorem dX8_felling_146 : decode cX8_felling 146 = .ok (.iload 6, 2) := by decide +kernel
theorem dX8_felling_148 : decode cX8_felling 148 = .ok (.ifCond .ge 7, 3) := by decide +kernel
theorem dX8_felling_151 : decode cX8_felling 151 = .ok (.iconst 0, 1) := by decide +kernel
theorem dX8_felling_152 : decode cX8_felling 152 = .ok (.goto 7, 3) := by decide +kernel
theorem dX8_felling_155 : decode cX8_felling 155 = .ok (.iconst 1, 1) := by decide +kernel
theorem dX8_felling_156 : decode cX8_felling 156 = .ok (.iload 6, 2) := by decide +kernel
theorem dX8_felling_158 : decode cX8_felling 158 = .ok (.ishl, 1) := by decide +kernel
theorem dX8_felling_159 : decode cX8_felling 159 = .ok (.ior, 1) := by decide +kernel
theorem dX8_felling_160 : decode cX8_felling 160 = .ok (.istore 9, 2) := by decide +kernel
theorem dX8_felling_162 : decode cX8_felling 162 = .ok (.iload 7, 2) := by decide +kernel
theorem dX8_felling_164 : decode cX8_felling 164 = .ok (.ifCond .lt 10, 3) := by decide +kernel
theorem dX8_felling_167 : decode cX8_felling 167 = .ok (.iload 8, 2) := by decide +kernel
theorem dX8_felling_169 : decode cX8_felling 169 = .ok (.iload 7, 2) := by decide +kernel
theorem dX8_felling_171 : decode cX8_felling 171 = .ok (.if_icmp .ge 19, 3) := by decide +kernel
theorem dX8_felling_174 : decode cX8_felling 174 = .ok (.iload 6, 2) := by decide +kernel
theorem dX8_felling_176 : decode cX8_felling 176 = .ok (.ifCond .lt 10, 3) := by decide +kernel
theorem dX8_felling_179 : decode cX8_felling 179 = .ok (.iload 7, 2) := by decide +kernel
theorem dX8_felling_181 : decode cX8_felling 181 = .ok (.iload 6, 2) := by decide +kernel
theorem dX8_felling_183 : decode cX8_felling 183 = .ok (.if_icmp .ge 7, 3) := by decide +kernel
theorem dX8_felling_186 : decode cX8_felling 186 = .ok (.iconst 1, 1) := by decide +kernel
end
section
theorem dX8_felling_187 : decode cX8_felling 187 = .ok (.goto 4, 3) := by decide +kernel
theorem dX8_felling_190 : decode cX8_felling 190 = .ok (.iconst 0, 1) := by decide +kernel
theorem dX8_felling_191 : decode cX8_felling 191 = .ok (.istore 10, 2) := by decide +kernel
theorem dX8_felling_193 : decode cX8_felling 193 = .ok (.iload 10, 2) := by decide +kernel
theorem dX8_felling_195 : decode cX8_felling 195 = .ok (.ifCond .eq 34, 3) := by decide +kernel
theorem dX8_felling_198 : decode cX8_felling 198 = .ok (.iload 9, 2) := by decide +kernel
theorem dX8_felling_200 : decode cX8_felling 200 = .ok (.iload_n 3, 1) := by decide +kernel
theorem dX8_felling_201 : decode cX8_felling 201 = .ok (.iconst (-1), 1) := by decide +kernel
theorem dX8_felling_202 : decode cX8_felling 202 = .ok (.ixor, 1) := by decide +kernel
theorem dX8_felling_203 : decode cX8_felling 203 = .ok (.iand, 1) := by decide +kernel
theorem dX8_felling_204 : decode cX8_felling 204 = .ok (.ifCond .ne 25, 3) := by decide +kernel
theorem dX8_felling_207 : decode cX8_felling 207 = .ok (.aload_n 0, 1) := by decide +kernel
theorem dX8_felling_208 : decode cX8_felling 208 = .ok (.iload_n 1, 1) := by decide +kernel
theorem dX8_felling_209 : decode cX8_felling 209 = .ok (.iload 9, 2) := by decide +kernel
theorem dX8_felling_211 : decode cX8_felling 211 = .ok (.invokevirtual 248, 3) := by decide +kernel
theorem dX8_felling_214 : decode cX8_felling 214 = .ok (.ifCond .eq 15, 3) := by decide +kernel
theorem dX8_felling_217 : decode cX8_felling 217 = .ok (.iload 4, 2) := by decide +kernel
theorem dX8_felling_219 : decode cX8_felling 219 = .ok (.iload_n 2, 1) := by decide +kernel
theorem dX8_felling_220 : decode cX8_felling 220 = .ok (.if_icmp .ne 6, 3) := by decide +kernel
theorem dX8_felling_223 : decode cX8_felling 223 = .ok (.iload 9, 2) := by decide +kernel
theorem dX8_felling_225 : decode cX8_felling 225 = .ok (.ireturn, 1) := by decide +kernel
theorem dX8_felling_226 : decode cX8_felling 226 = .ok (.iinc 4 1, 3) := by decide +kernel
theorem dX8_felling_229 : decode cX8_felling 229 = .ok (.iinc 8 1, 3) := by decide +kernel
theorem dX8_felling_232 : decode cX8_felling 232 = .ok (.goto (-113), 3) := by decide +kernel
theorem dX8_felling_235 : decode cX8_felling 235 = .ok (.iinc 7 1, 3) := by decide +kernel
theorem dX8_felling_238 : decode cX8_felling 238 = .ok (.goto (-141), 3) := by decide +kernel
theorem dX8_felling_241 : decode cX8_felling 241 = .ok (.iinc 6 1, 3) := by decide +kernel
theorem dX8_felling_244 : decode cX8_felling 244 = .ok (.goto (-179), 3) := by decide +kernel
theorem dX8_felling_247 : decode cX8_felling 247 = .ok (.iinc 5 1, 3) := by decide +kernel
theorem dX8_felling_250 : decode cX8_felling 250 = .ok (.goto (-204), 3) := by decide +kernel
theorem dX8_felling_253 : decode cX8_felling 253 = .ok (.iload_n 2, 1) := by decide +kernel
theorem dX8_felling_254 : decode cX8_felling 254 = .ok (.iconst (-1), 1) := by decide +kernel
theorem dX8_felling_255 : decode cX8_felling 255 = .ok (.if_icmp .ne 8, 3) := by decide +kernel
theorem dX8_felling_258 : decode cX8_felling 258 = .ok (.iload 4, 2) := by decide +kernel
theorem dX8_felling_260 : decode cX8_felling 260 = .ok (.goto 5, 3) := by decide +kernel
theorem dX8_felling_263 : decode cX8_felling 263 = .ok (.ldc 114, 2) := by decide +kernel
theorem dX8_felling_265 : decode cX8_felling 265 = .ok (.ireturn, 1) := by decide +kernel
theorem dX8_hand_0 : decode cX8_hand 0 = .ok (.aload_n 0, 1) := by decide +kernel
theorem dX8_hand_1 : decode cX8_hand 1 = .ok (.iconst 0, 1) := by decide +kernel
theorem dX8_hand_2 : decode cX8_hand 2 = .ok (.putfield 78, 3) := by decide +kernel
theorem dX8_hand_5 : decode cX8_hand 5 = .ok (.ldc 114, 2) := by decide +kernel
theorem dX8_hand_7 : decode cX8_hand 7 = .ok (.istore_n 1, 1) := by decide +kernel
theorem dX8_hand_8 : decode cX8_hand 8 = .ok (.iconst 0, 1) := by decide +kernel
theorem dX8_hand_9 : decode cX8_hand 9 = .ok (.istore_n 2, 1) := by decide +kernel
theorem dX8_hand_10 : decode cX8_hand 10 = .ok (.aload_n 0, 1) := by decide +kernel
theorem dX8_hand_11 : decode cX8_hand 11 = .ok (.invokevirtual 225, 3) := by decide +kernel
theorem dX8_hand_14 : decode cX8_hand 14 = .ok (.istore_n 3, 1) := by decide +kernel
theorem dX8_hand_15 : decode cX8_hand 15 = .ok (.aload_n 0, 1) := by decide +kernel
theorem dX8_hand_16 : decode cX8_hand 16 = .ok (.invokevirtual 232, 3) := by decide +kernel
theorem dX8_hand_19 : decode cX8_hand 19 = .ok (.aload_n 0, 1) := by decide +kernel
theorem dX8_hand_20 : decode cX8_hand 20 = .ok (.invokevirtual 235, 3) := by decide +kernel
theorem dX8_hand_23 : decode cX8_hand 23 = .ok (.iand, 1) := by decide +kernel
theorem dX8_hand_24 : decode cX8_hand 24 = .ok (.istore 4, 2) := by decide +kernel
theorem dX8_hand_26 : decode cX8_hand 26 = .ok (.iconst 0, 1) := by decide +kernel
theorem dX8_hand_27 : decode cX8_hand 27 = .ok (.istore 5, 2) := by decide +kernel
theorem dX8_hand_29 : decode cX8_hand 29 = .ok (.iload 5, 2) := by decide +kernel
theorem dX8_hand_31 : decode cX8_hand 31 = .ok (.bipush 10, 2) := by decide +kernel
theorem dX8_hand_33 : decode cX8_hand 33 = .ok (.if_icmp .ge 100, 3) := by decide +kernel
theorem dX8_hand_36 : decode cX8_hand 36 = .ok (.iconst 0, 1) := by decide +kernel
theorem dX8_hand_37 : decode cX8_hand 37 = .ok (.istore 6, 2) := by decide +kernel
theorem dX8_hand_39 : decode cX8_hand 39 = .ok (.iconst 0, 1) := by decide +kernel
theorem dX8_hand_40 : decode cX8_hand 40 = .ok (.istore 7, 2) := by decide +kernel
theorem dX8_hand_42 : decode cX8_hand 42 = .ok (.iload 7, 2) := by decide +kernel
theorem dX8_hand_44 : decode cX8_hand 44 = .ok (.aload_n 0, 1) := by decide +kernel
theorem dX8_hand_45 : decode cX8_hand 45 = .ok (.getfield 185, 3) := by decide +kernel
theorem dX8_hand_48 : decode cX8_hand 48 = .ok (.if_icmp .ge 45, 3) := by decide +kernel
theorem dX8_hand_51 : decode cX8_hand 51 = .ok (.iload 6, 2) := by decide +kernel
theorem dX8_hand_53 : decode cX8_hand 53 = .ok (.aload_n 0, 1) := by decide +kernel
theorem dX8_hand_54 : decode cX8_hand 54 = .ok (.getfield 19, 3) := by decide +kernel
theorem dX8_hand_57 : decode cX8_hand 57 = .ok (.iload 7, 2) := by decide +kernel
theorem dX8_hand_59 : decode cX8_hand 59 = .ok (.iaload, 1) := by decide +kernel
theorem dX8_hand_60 : decode cX8_hand 60 = .ok (.iconst 2, 1) := by decide +kernel
theorem dX8_hand_61 : decode cX8_hand 61 = .ok (.if_icmp .ge 22, 3) := by decide +kernel
theorem dX8_hand_64 : decode cX8_hand 64 = .ok (.aload_n 0, 1) := by decide +kernel
theorem dX8_hand_65 : decode cX8_hand 65 = .ok (.getfield 22, 3) := by decide +kernel
theorem dX8_hand_68 : decode cX8_hand 68 = .ok (.iload 7, 2) := by decide +kernel
theorem dX8_hand_70 : decode cX8_hand 70 = .ok (.iaload, 1) := by decide +kernel
theorem dX8_hand_71 : decode cX8_hand 71 = .ok (.iload 5, 2) := by decide +kernel
theorem dX8_hand_73 : decode cX8_hand 73 = .ok (.if_icmp .ne 10, 3) := by decide +kernel
theorem dX8_hand_76 : decode cX8_hand 76 = .ok (.iconst 1, 1) := by decide +kernel
theorem dX8_hand_77 : decode cX8_hand 77 = .ok (.iload 7, 2) := by decide +kernel
theorem dX8_hand_79 : decode cX8_hand 79 = .ok (.ishl, 1) := by decide +kernel
theorem dX8_hand_80 : decode cX8_hand 80 = .ok (.goto 4, 3) := by decide +kernel
theorem dX8_hand_83 : decode cX8_hand 83 = .ok (.iconst 0, 1) := by decide +kernel
theorem dX8_hand_84 : decode cX8_hand 84 = .ok (.ior, 1) := by decide +kernel
theorem dX8_hand_85 : decode cX8_hand 85 = .ok (.istore 6, 2) := by decide +kernel
theorem dX8_hand_87 : decode cX8_hand 87 = .ok (.iinc 7 1, 3) := by decide +kernel
theorem dX8_hand_90 : decode cX8_hand 90 = .ok (.goto (-48), 3) := by decide +kernel
theorem dX8_hand_93 : decode cX8_hand 93 = .ok (.iload 4, 2) := by decide +kernel
theorem dX8_hand_95 : decode cX8_hand 95 = .ok (.aload_n 0, 1) := by decide +kernel
theorem dX8_hand_96 : decode cX8_hand 96 = .ok (.iload_n 3, 1) := by decide +kernel
theorem dX8_hand_97 : decode cX8_hand 97 = .ok (.iload 6, 2) := by decide +kernel
theorem dX8_hand_99 : decode cX8_hand 99 = .ok (.iconst (-1), 1) := by decide +kernel
theorem dX8_hand_100 : decode cX8_hand 100 = .ok (.ixor, 1) := by decide +kernel
theorem dX8_hand_101 : decode cX8_hand 101 = .ok (.iand, 1) := by decide +kernel
theorem dX8_hand_102 : decode cX8_hand 102 = .ok (.ldc 114, 2) := by decide +kernel
theorem dX8_hand_104 : decode cX8_hand 104 = .ok (.invokevirtual 228, 3) := by decide +kernel
theorem dX8_hand_107 : decode cX8_hand 107 = .ok (.iconst (-1), 1) := by decide +kernel
theorem dX8_hand_108 : decode cX8_hand 108 = .ok (.ixor, 1) := by decide +kernel
theorem dX8_hand_109 : decode cX8_hand 109 = .ok (.iand, 1) := by decide +kernel
theorem dX8_hand_110 : decode cX8_hand 110 = .ok (.invokestatic 251, 3) := by decide +kernel
theorem dX8_hand_113 : decode cX8_hand 113 = .ok (.istore 7, 2) := by decide +kernel
theorem dX8_hand_115 : decode cX8_hand 115 = .ok (.iload 7, 2) := by decide +kernel
theorem dX8_hand_117 : decode cX8_hand 117 = .ok (.iload_n 2, 1) := by decide +kernel
theorem dX8_hand_118 : decode cX8_hand 118 = .ok (.if_icmp .le 9, 3) := by decide +kernel
theorem dX8_hand_121 : decode cX8_hand 121 = .ok (.iload 5, 2) := by decide +kernel
theorem dX8_hand_123 : decode cX8_hand 123 = .ok (.istore_n 1, 1) := by decide +kernel
theorem dX8_hand_124 : decode cX8_hand 124 = .ok (.iload 7, 2) := by decide +kernel
theorem dX8_hand_126 : decode cX8_hand 126 = .ok (.istore_n 2, 1) := by decide +kernel
theorem dX8_hand_127 : decode cX8_hand 127 = .ok (.iinc 5 1, 3) := by decide +kernel
theorem dX8_hand_130 : decode cX8_hand 130 = .ok (.goto (-101), 3) := by decide +kernel
theorem dX8_hand_133 : decode cX8_hand 133 = .ok (.iload_n 1, 1) := by decide +kernel
theorem dX8_hand_134 : decode cX8_hand 134 = .ok (.ireturn, 1) := by decide +kernel
theorem dX8_node_0 : decode cX8_node 0 = .ok (.aload_n 0, 1) := by decide +kernel
theorem dX8_node_1 : decode cX8_node 1 = .ok (.iconst 0, 1) := by decide +kernel
theorem dX8_node_2 : decode cX8_node 2 = .ok (.putfield 78, 3) := by decide +kernel
theorem dX8_node_5 : decode cX8_node 5 = .ok (.aload_n 0, 1) := by decide +kernel
theorem dX8_node_6 : decode cX8_node 6 = .ok (.iload_n 1, 1) := by decide +kernel
theorem dX8_node_7 : decode cX8_node 7 = .ok (.invokevirtual 204, 3) := by decide +kernel
theorem dX8_node_10 : decode cX8_node 10 = .ok (.ifCond .eq 15, 3) := by decide +kernel
theorem dX8_node_13 : decode cX8_node 13 = .ok (.iload_n 2, 1) := by decide +kernel
theorem dX8_node_14 : decode cX8_node 14 = .ok (.i2l, 1) := by decide +kernel
theorem dX8_node_15 : decode cX8_node 15 = .ok (.lconst 0, 1) := by decide +kernel
theorem dX8_node_16 : decode cX8_node 16 = .ok (.ldc2_w 254, 3) := by decide +kernel
theorem dX8_node_19 : decode cX8_node 19 = .ok (.invokestatic 88, 3) := by decide +kernel
theorem dX8_node_22 : decode cX8_node 22 = .ok (.ifCond .ne 6, 3) := by decide +kernel
theorem dX8_node_25 : decode cX8_node 25 = .ok (.ldc 98, 2) := by decide +kernel
theorem dX8_node_27 : decode cX8_node 27 = .ok (.ireturn, 1) := by decide +kernel
theorem dX8_node_28 : decode cX8_node 28 = .ok (.iload_n 2, 1) := by decide +kernel
theorem dX8_node_29 : decode cX8_node 29 = .ok (.tableswitch 78 0 4 #[35, 42, 49, 56, 63], 35) := by decide +kernel
theorem dX8_node_64 : decode cX8_node 64 = .ok (.aload_n 0, 1) := by decide +kernel
theorem dX8_node_65 : decode cX8_node 65 = .ok (.getfield 19, 3) := by decide +kernel
theorem dX8_node_68 : decode cX8_node 68 = .ok (.iload_n 1, 1) := by decide +kernel
theorem dX8_node_69 : decode cX8_node 69 = .ok (.iaload, 1) := by decide +kernel
theorem dX8_node_70 : decode cX8_node 70 = .ok (.ireturn, 1) := by decide +kernel
theorem dX8_node_71 : decode cX8_node 71 = .ok (.aload_n 0, 1) := by decide +kernel
theorem dX8_node_72 : decode cX8_node 72 = .ok (.getfield 22, 3) := by decide +kernel
theorem dX8_node_75 : decode cX8_node 75 = .ok (.iload_n 1, 1) := by decide +kernel
theorem dX8_node_76 : decode cX8_node 76 = .ok (.iaload, 1) := by decide +kernel
theorem dX8_node_77 : decode cX8_node 77 = .ok (.ireturn, 1) := by decide +kernel
theorem dX8_node_78 : decode cX8_node 78 = .ok (.aload_n 0, 1) := by decide +kernel
theorem dX8_node_79 : decode cX8_node 79 = .ok (.getfield 25, 3) := by decide +kernel
theorem dX8_node_82 : decode cX8_node 82 = .ok (.iload_n 1, 1) := by decide +kernel
theorem dX8_node_83 : decode cX8_node 83 = .ok (.iaload, 1) := by decide +kernel
theorem dX8_node_84 : decode cX8_node 84 = .ok (.ireturn, 1) := by decide +kernel
theorem dX8_node_85 : decode cX8_node 85 = .ok (.aload_n 0, 1) := by decide +kernel
theorem dX8_node_86 : decode cX8_node 86 = .ok (.getfield 28, 3) := by decide +kernel
theorem dX8_node_89 : decode cX8_node 89 = .ok (.iload_n 1, 1) := by decide +kernel
theorem dX8_node_90 : decode cX8_node 90 = .ok (.iaload, 1) := by decide +kernel
theorem dX8_node_91 : decode cX8_node 91 = .ok (.ireturn, 1) := by decide +kernel
theorem dX8_node_92 : decode cX8_node 92 = .ok (.aload_n 0, 1) := by decide +kernel
theorem dX8_node_93 : decode cX8_node 93 = .ok (.getfield 31, 3) := by decide +kernel
theorem dX8_node_96 : decode cX8_node 96 = .ok (.iload_n 1, 1) := by decide +kernel
theorem dX8_node_97 : decode cX8_node 97 = .ok (.baload, 1) := by decide +kernel
theorem dX8_node_98 : decode cX8_node 98 = .ok (.ifCond .eq 7, 3) := by decide +kernel
theorem dX8_node_101 : decode cX8_node 101 = .ok (.iconst 1, 1) := by decide +kernel
theorem dX8_node_102 : decode cX8_node 102 = .ok (.goto 4, 3) := by decide +kernel
theorem dX8_node_105 : decode cX8_node 105 = .ok (.iconst 0, 1) := by decide +kernel
theorem dX8_node_106 : decode cX8_node 106 = .ok (.ireturn, 1) := by decide +kernel
theorem dX8_node_107 : decode cX8_node 107 = .ok (.aload_n 0, 1) := by decide +kernel
theorem dX8_node_108 : decode cX8_node 108 = .ok (.invokevirtual 232, 3) := by decide +kernel
theorem dX8_node_111 : decode cX8_node 111 = .ok (.iload_n 1, 1) := by decide +kernel
theorem dX8_node_112 : decode cX8_node 112 = .ok (.ishr, 1) := by decide +kernel
theorem dX8_node_113 : decode cX8_node 113 = .ok (.iconst 1, 1) := by decide +kernel
theorem dX8_node_114 : decode cX8_node 114 = .ok (.iand, 1) := by decide +kernel
theorem dX8_node_115 : decode cX8_node 115 = .ok (.ireturn, 1) := by decide +kernel
theorem dX8_step_0 : decode cX8_step 0 = .ok (.aload_n 0, 1) := by decide +kernel
theorem dX8_step_1 : decode cX8_step 1 = .ok (.iconst 0, 1) := by decide +kernel
theorem dX8_step_2 : decode cX8_step 2 = .ok (.putfield 78, 3) := by decide +kernel
theorem dX8_step_5 : decode cX8_step 5 = .ok (.aload_n 0, 1) := by decide +kernel
theorem dX8_step_6 : decode cX8_step 6 = .ok (.iload_n 1, 1) := by decide +kernel
theorem dX8_step_7 : decode cX8_step 7 = .ok (.invokevirtual 256, 3) := by decide +kernel
theorem dX8_step_10 : decode cX8_step 10 = .ok (.ifCond .eq 15, 3) := by decide +kernel
theorem dX8_step_13 : decode cX8_step 13 = .ok (.iload_n 2, 1) := by decide +kernel
theorem dX8_step_14 : decode cX8_step 14 = .ok (.i2l, 1) := by decide +kernel
theorem dX8_step_15 : decode cX8_step 15 = .ok (.lconst 0, 1) := by decide +kernel
theorem dX8_step_16 : decode cX8_step 16 = .ok (.ldc2_w 254, 3) := by decide +kernel
theorem dX8_step_19 : decode cX8_step 19 = .ok (.invokestatic 88, 3) := by decide +kernel
theorem dX8_step_22 : decode cX8_step 22 = .ok (.ifCond .ne 6, 3) := by decide +kernel
theorem dX8_step_25 : decode cX8_step 25 = .ok (.ldc 98, 2) := by decide +kernel
theorem dX8_step_27 : decode cX8_step 27 = .ok (.ireturn, 1) := by decide +kernel
theorem dX8_step_28 : decode cX8_step 28 = .ok (.iload_n 2, 1) := by decide +kernel
theorem dX8_step_29 : decode cX8_step 29 = .ok (.tableswitch 72 0 4 #[35, 42, 49, 56, 66], 35) := by decide +kernel
theorem dX8_step_64 : decode cX8_step 64 = .ok (.aload_n 0, 1) := by decide +kernel
theorem dX8_step_65 : decode cX8_step 65 = .ok (.getfield 35, 3) := by decide +kernel
theorem dX8_step_68 : decode cX8_step 68 = .ok (.iload_n 1, 1) := by decide +kernel
theorem dX8_step_69 : decode cX8_step 69 = .ok (.iaload, 1) := by decide +kernel
theorem dX8_step_70 : decode cX8_step 70 = .ok (.ireturn, 1) := by decide +kernel
theorem dX8_step_71 : decode cX8_step 71 = .ok (.aload_n 0, 1) := by decide +kernel
theorem dX8_step_72 : decode cX8_step 72 = .ok (.getfield 38, 3) := by decide +kernel
theorem dX8_step_75 : decode cX8_step 75 = .ok (.iload_n 1, 1) := by decide +kernel
theorem dX8_step_76 : decode cX8_step 76 = .ok (.iaload, 1) := by decide +kernel
theorem dX8_step_77 : decode cX8_step 77 = .ok (.ireturn, 1) := by decide +kernel
theorem dX8_step_78 : decode cX8_step 78 = .ok (.aload_n 0, 1) := by decide +kernel
theorem dX8_step_79 : decode cX8_step 79 = .ok (.getfield 41, 3) := by decide +kernel
theorem dX8_step_82 : decode cX8_step 82 = .ok (.iload_n 1, 1) := by decide +kernel
theorem dX8_step_83 : decode cX8_step 83 = .ok (.iaload, 1) := by decide +kernel
theorem dX8_step_84 : decode cX8_step 84 = .ok (.ireturn, 1) := by decide +kernel
theorem dX8_step_85 : decode cX8_step 85 = .ok (.aload_n 0, 1) := by decide +kernel
theorem dX8_step_86 : decode cX8_step 86 = .ok (.getfield 35, 3) := by decide +kernel
theorem dX8_step_89 : decode cX8_step 89 = .ok (.iload_n 1, 1) := by decide +kernel
theorem dX8_step_90 : decode cX8_step 90 = .ok (.iaload, 1) := by decide +kernel
theorem dX8_step_91 : decode cX8_step 91 = .ok (.invokestatic 213, 3) := by decide +kernel
theorem dX8_step_94 : decode cX8_step 94 = .ok (.ireturn, 1) := by decide +kernel
theorem dX8_step_95 : decode cX8_step 95 = .ok (.aload_n 0, 1) := by decide +kernel
theorem dX8_step_96 : decode cX8_step 96 = .ok (.iload_n 1, 1) := by decide +kernel
theorem dX8_step_97 : decode cX8_step 97 = .ok (.invokevirtual 219, 3) := by decide +kernel
theorem dX8_step_100 : decode cX8_step 100 = .ok (.ireturn, 1) := by decide +kernel
theorem dX8_step_101 : decode cX8_step 101 = .ok (.aload_n 0, 1) := by decide +kernel
theorem dX8_step_102 : decode cX8_step 102 = .ok (.iload_n 1, 1) := by decide +kernel
theorem dX8_step_103 : decode cX8_step 103 = .ok (.aload_n 0, 1) := by decide +kernel
theorem dX8_step_104 : decode cX8_step 104 = .ok (.invokevirtual 232, 3) := by decide +kernel
theorem dX8_step_107 : decode cX8_step 107 = .ok (.invokevirtual 222, 3) := by decide +kernel
theorem dX8_step_110 : decode cX8_step 110 = .ok (.ifCond .eq 7, 3) := by decide +kernel
theorem dX8_step_113 : decode cX8_step 113 = .ok (.iconst 1, 1) := by decide +kernel
theorem dX8_step_114 : decode cX8_step 114 = .ok (.goto 4, 3) := by decide +kernel
theorem dX8_step_117 : decode cX8_step 117 = .ok (.iconst 0, 1) := by decide +kernel
theorem dX8_step_118 : decode cX8_step 118 = .ok (.ireturn, 1) := by decide +kernel
theorem dX8_part_0 : decode cX8_part 0 = .ok (.aload_n 0, 1) := by decide +kernel
theorem dX8_part_1 : decode cX8_part 1 = .ok (.iconst 0, 1) := by decide +kernel
theorem dX8_part_2 : decode cX8_part 2 = .ok (.putfield 78, 3) := by decide +kernel
theorem dX8_part_5 : decode cX8_part 5 = .ok (.aload_n 0, 1) := by decide +kernel
theorem dX8_part_6 : decode cX8_part 6 = .ok (.iload_n 1, 1) := by decide +kernel
theorem dX8_part_7 : decode cX8_part 7 = .ok (.invokevirtual 256, 3) := by decide +kernel
theorem dX8_part_10 : decode cX8_part 10 = .ok (.ifCond .eq 7, 3) := by decide +kernel
theorem dX8_part_13 : decode cX8_part 13 = .ok (.iload_n 2, 1) := by decide +kernel
theorem dX8_part_14 : decode cX8_part 14 = .ok (.ifCond .ge 8, 3) := by decide +kernel
theorem dX8_part_17 : decode cX8_part 17 = .ok (.ldc 98, 2) := by decide +kernel
theorem dX8_part_19 : decode cX8_part 19 = .ok (.goto 29, 3) := by decide +kernel
theorem dX8_part_22 : decode cX8_part 22 = .ok (.iload_n 2, 1) := by decide +kernel
theorem dX8_part_23 : decode cX8_part 23 = .ok (.aload_n 0, 1) := by decide +kernel
theorem dX8_part_24 : decode cX8_part 24 = .ok (.getfield 41, 3) := by decide +kernel
theorem dX8_part_27 : decode cX8_part 27 = .ok (.iload_n 1, 1) := by decide +kernel
theorem dX8_part_28 : decode cX8_part 28 = .ok (.iaload, 1) := by decide +kernel
theorem dX8_part_29 : decode cX8_part 29 = .ok (.if_icmp .ge 17, 3) := by decide +kernel
theorem dX8_part_32 : decode cX8_part 32 = .ok (.aload_n 0, 1) := by decide +kernel
theorem dX8_part_33 : decode cX8_part 33 = .ok (.getfield 44, 3) := by decide +kernel
theorem dX8_part_36 : decode cX8_part 36 = .ok (.bipush 6, 2) := by decide +kernel
theorem dX8_part_38 : decode cX8_part 38 = .ok (.iload_n 1, 1) := by decide +kernel
theorem dX8_part_39 : decode cX8_part 39 = .ok (.imul, 1) := by decide +kernel
theorem dX8_part_40 : decode cX8_part 40 = .ok (.iload_n 2, 1) := by decide +kernel
theorem dX8_part_41 : decode cX8_part 41 = .ok (.iadd, 1) := by decide +kernel
theorem dX8_part_42 : decode cX8_part 42 = .ok (.iaload, 1) := by decide +kernel
theorem dX8_part_43 : decode cX8_part 43 = .ok (.goto 5, 3) := by decide +kernel
theorem dX8_part_46 : decode cX8_part 46 = .ok (.ldc 114, 2) := by decide +kernel
theorem dX8_part_48 : decode cX8_part 48 = .ok (.ireturn, 1) := by decide +kernel
theorem dX8_doubt_0 : decode cX8_doubt 0 = .ok (.aload_n 0, 1) := by decide +kernel
theorem dX8_doubt_1 : decode cX8_doubt 1 = .ok (.iconst 0, 1) := by decide +kernel
theorem dX8_doubt_2 : decode cX8_doubt 2 = .ok (.putfield 78, 3) := by decide +kernel
theorem dX8_doubt_5 : decode cX8_doubt 5 = .ok (.aload_n 0, 1) := by decide +kernel
theorem dX8_doubt_6 : decode cX8_doubt 6 = .ok (.iload_n 1, 1) := by decide +kernel
theorem dX8_doubt_7 : decode cX8_doubt 7 = .ok (.invokevirtual 256, 3) := by decide +kernel
theorem dX8_doubt_10 : decode cX8_doubt 10 = .ok (.ifCond .eq 36, 3) := by decide +kernel
theorem dX8_doubt_13 : decode cX8_doubt 13 = .ok (.iload_n 2, 1) := by decide +kernel
theorem dX8_doubt_14 : decode cX8_doubt 14 = .ok (.i2l, 1) := by decide +kernel
theorem dX8_doubt_15 : decode cX8_doubt 15 = .ok (.lconst 0, 1) := by decide +kernel
theorem dX8_doubt_16 : decode cX8_doubt 16 = .ok (.aload_n 0, 1) := by decide +kernel
theorem dX8_doubt_17 : decode cX8_doubt 17 = .ok (.getfield 35, 3) := by decide +kernel
theorem dX8_doubt_20 : decode cX8_doubt 20 = .ok (.iload_n 1, 1) := by decide +kernel
theorem dX8_doubt_21 : decode cX8_doubt 21 = .ok (.iaload, 1) := by decide +kernel
theorem dX8_doubt_22 : decode cX8_doubt 22 = .ok (.invokestatic 213, 3) := by decide +kernel
theorem dX8_doubt_25 : decode cX8_doubt 25 = .ok (.iconst 1, 1) := by decide +kernel
theorem dX8_doubt_26 : decode cX8_doubt 26 = .ok (.isub, 1) := by decide +kernel
theorem dX8_doubt_27 : decode cX8_doubt 27 = .ok (.i2l, 1) := by decide +kernel
theorem dX8_doubt_28 : decode cX8_doubt 28 = .ok (.invokestatic 88, 3) := by decide +kernel
theorem dX8_doubt_31 : decode cX8_doubt 31 = .ok (.ifCond .eq 15, 3) := by decide +kernel
theorem dX8_doubt_34 : decode cX8_doubt 34 = .ok (.iload_n 3, 1) := by decide +kernel
theorem dX8_doubt_35 : decode cX8_doubt 35 = .ok (.i2l, 1) := by decide +kernel
theorem dX8_doubt_36 : decode cX8_doubt 36 = .ok (.lconst 0, 1) := by decide +kernel
theorem dX8_doubt_37 : decode cX8_doubt 37 = .ok (.ldc2_w 259, 3) := by decide +kernel
theorem dX8_doubt_40 : decode cX8_doubt 40 = .ok (.invokestatic 88, 3) := by decide +kernel
theorem dX8_doubt_43 : decode cX8_doubt 43 = .ok (.ifCond .ne 6, 3) := by decide +kernel
theorem dX8_doubt_46 : decode cX8_doubt 46 = .ok (.ldc 98, 2) := by decide +kernel
theorem dX8_doubt_48 : decode cX8_doubt 48 = .ok (.ireturn, 1) := by decide +kernel
theorem dX8_doubt_49 : decode cX8_doubt 49 = .ok (.aload_n 0, 1) := by decide +kernel
theorem dX8_doubt_50 : decode cX8_doubt 50 = .ok (.getfield 47, 3) := by decide +kernel
theorem dX8_doubt_53 : decode cX8_doubt 53 = .ok (.iconst 3, 1) := by decide +kernel
theorem dX8_doubt_54 : decode cX8_doubt 54 = .ok (.iload_n 1, 1) := by decide +kernel
theorem dX8_doubt_55 : decode cX8_doubt 55 = .ok (.imul, 1) := by decide +kernel
theorem dX8_doubt_56 : decode cX8_doubt 56 = .ok (.iload_n 2, 1) := by decide +kernel
theorem dX8_doubt_57 : decode cX8_doubt 57 = .ok (.iadd, 1) := by decide +kernel
theorem dX8_doubt_58 : decode cX8_doubt 58 = .ok (.iaload, 1) := by decide +kernel
theorem dX8_doubt_59 : decode cX8_doubt 59 = .ok (.istore 4, 2) := by decide +kernel
theorem dX8_doubt_61 : decode cX8_doubt 61 = .ok (.aload_n 0, 1) := by decide +kernel
theorem dX8_doubt_62 : decode cX8_doubt 62 = .ok (.getfield 47, 3) := by decide +kernel
theorem dX8_doubt_65 : decode cX8_doubt 65 = .ok (.iconst 3, 1) := by decide +kernel
theorem dX8_doubt_66 : decode cX8_doubt 66 = .ok (.iload_n 1, 1) := by decide +kernel
theorem dX8_doubt_67 : decode cX8_doubt 67 = .ok (.imul, 1) := by decide +kernel
theorem dX8_doubt_68 : decode cX8_doubt 68 = .ok (.iload_n 2, 1) := by decide +kernel
theorem dX8_doubt_69 : decode cX8_doubt 69 = .ok (.iadd, 1) := by decide +kernel
theorem dX8_doubt_70 : decode cX8_doubt 70 = .ok (.iload_n 3, 1) := by decide +kernel
theorem dX8_doubt_71 : decode cX8_doubt 71 = .ok (.iastore, 1) := by decide +kernel
theorem dX8_doubt_72 : decode cX8_doubt 72 = .ok (.iload 4, 2) := by decide +kernel
theorem dX8_doubt_74 : decode cX8_doubt 74 = .ok (.ireturn, 1) := by decide +kernel
theorem dX8_borne_0 : decode cX8_borne 0 = .ok (.aload_n 0, 1) := by decide +kernel
theorem dX8_borne_1 : decode cX8_borne 1 = .ok (.iconst 0, 1) := by decide +kernel
theorem dX8_borne_2 : decode cX8_borne 2 = .ok (.putfield 78, 3) := by decide +kernel
theorem dX8_borne_5 : decode cX8_borne 5 = .ok (.iload_n 1, 1) := by decide +kernel
theorem dX8_borne_6 : decode cX8_borne 6 = .ok (.i2l, 1) := by decide +kernel
theorem dX8_borne_7 : decode cX8_borne 7 = .ok (.lconst 0, 1) := by decide +kernel
theorem dX8_borne_8 : decode cX8_borne 8 = .ok (.ldc2_w 261, 3) := by decide +kernel
theorem dX8_borne_11 : decode cX8_borne 11 = .ok (.invokestatic 88, 3) := by decide +kernel
theorem dX8_borne_14 : decode cX8_borne 14 = .ok (.ifCond .ne 6, 3) := by decide +kernel
theorem dX8_borne_17 : decode cX8_borne 17 = .ok (.ldc 98, 2) := by decide +kernel
theorem dX8_borne_19 : decode cX8_borne 19 = .ok (.ireturn, 1) := by decide +kernel
theorem dX8_borne_20 : decode cX8_borne 20 = .ok (.iconst 0, 1) := by decide +kernel
theorem dX8_borne_21 : decode cX8_borne 21 = .ok (.istore_n 2, 1) := by decide +kernel
theorem dX8_borne_22 : decode cX8_borne 22 = .ok (.iconst 0, 1) := by decide +kernel
theorem dX8_borne_23 : decode cX8_borne 23 = .ok (.istore_n 3, 1) := by decide +kernel
theorem dX8_borne_24 : decode cX8_borne 24 = .ok (.iload_n 3, 1) := by decide +kernel
theorem dX8_borne_25 : decode cX8_borne 25 = .ok (.iconst 3, 1) := by decide +kernel
theorem dX8_borne_26 : decode cX8_borne 26 = .ok (.aload_n 0, 1) := by decide +kernel
theorem dX8_borne_27 : decode cX8_borne 27 = .ok (.getfield 188, 3) := by decide +kernel
theorem dX8_borne_30 : decode cX8_borne 30 = .ok (.imul, 1) := by decide +kernel
theorem dX8_borne_31 : decode cX8_borne 31 = .ok (.if_icmp .ge 29, 3) := by decide +kernel
theorem dX8_borne_34 : decode cX8_borne 34 = .ok (.iload_n 2, 1) := by decide +kernel
theorem dX8_borne_35 : decode cX8_borne 35 = .ok (.aload_n 0, 1) := by decide +kernel
theorem dX8_borne_36 : decode cX8_borne 36 = .ok (.getfield 47, 3) := by decide +kernel
theorem dX8_borne_39 : decode cX8_borne 39 = .ok (.iload_n 3, 1) := by decide +kernel
theorem dX8_borne_40 : decode cX8_borne 40 = .ok (.iaload, 1) := by decide +kernel
theorem dX8_borne_41 : decode cX8_borne 41 = .ok (.iconst 2, 1) := by decide +kernel
theorem dX8_borne_42 : decode cX8_borne 42 = .ok (.iload_n 1, 1) := by decide +kernel
theorem dX8_borne_43 : decode cX8_borne 43 = .ok (.iadd, 1) := by decide +kernel
theorem dX8_borne_44 : decode cX8_borne 44 = .ok (.if_icmp .ne 7, 3) := by decide +kernel
theorem dX8_borne_47 : decode cX8_borne 47 = .ok (.iconst 1, 1) := by decide +kernel
theorem dX8_borne_48 : decode cX8_borne 48 = .ok (.goto 4, 3) := by decide +kernel
theorem dX8_borne_51 : decode cX8_borne 51 = .ok (.iconst 0, 1) := by decide +kernel
theorem dX8_borne_52 : decode cX8_borne 52 = .ok (.iadd, 1) := by decide +kernel
theorem dX8_borne_53 : decode cX8_borne 53 = .ok (.istore_n 2, 1) := by decide +kernel
theorem dX8_borne_54 : decode cX8_borne 54 = .ok (.iinc 3 1, 3) := by decide +kernel
theorem dX8_borne_57 : decode cX8_borne 57 = .ok (.goto (-33), 3) := by decide +kernel
theorem dX8_borne_60 : decode cX8_borne 60 = .ok (.iload_n 2, 1) := by decide +kernel
theorem dX8_borne_61 : decode cX8_borne 61 = .ok (.ireturn, 1) := by decide +kernel
theorem dX8_looked_0 : decode cX8_looked 0 = .ok (.aload_n 0, 1) := by decide +kernel
theorem dX8_looked_1 : decode cX8_looked 1 = .ok (.iconst 0, 1) := by decide +kernel
theorem dX8_looked_2 : decode cX8_looked 2 = .ok (.putfield 78, 3) := by decide +kernel
theorem dX8_looked_5 : decode cX8_looked 5 = .ok (.iload_n 1, 1) := by decide +kernel
theorem dX8_looked_6 : decode cX8_looked 6 = .ok (.invokestatic 92, 3) := by decide +kernel
theorem dX8_looked_9 : decode cX8_looked 9 = .ok (.ifCond .eq 15, 3) := by decide +kernel
theorem dX8_looked_12 : decode cX8_looked 12 = .ok (.iload_n 3, 1) := by decide +kernel
theorem dX8_looked_13 : decode cX8_looked 13 = .ok (.i2l, 1) := by decide +kernel
theorem dX8_looked_14 : decode cX8_looked 14 = .ok (.lconst 1, 1) := by decide +kernel
theorem dX8_looked_15 : decode cX8_looked 15 = .ok (.ldc2_w 103, 3) := by decide +kernel
theorem dX8_looked_18 : decode cX8_looked 18 = .ok (.invokestatic 88, 3) := by decide +kernel
theorem dX8_looked_21 : decode cX8_looked 21 = .ok (.ifCond .ne 6, 3) := by decide +kernel
theorem dX8_looked_24 : decode cX8_looked 24 = .ok (.ldc 98, 2) := by decide +kernel
theorem dX8_looked_26 : decode cX8_looked 26 = .ok (.ireturn, 1) := by decide +kernel
theorem dX8_looked_27 : decode cX8_looked 27 = .ok (.aload_n 0, 1) := by decide +kernel
theorem dX8_looked_28 : decode cX8_looked 28 = .ok (.getfield 7, 3) := by decide +kernel
theorem dX8_looked_31 : decode cX8_looked 31 = .ok (.iload_n 1, 1) := by decide +kernel
theorem dX8_looked_32 : decode cX8_looked 32 = .ok (.iaload, 1) := by decide +kernel
theorem dX8_looked_33 : decode cX8_looked 33 = .ok (.ifCond .ge 9, 3) := by decide +kernel
theorem dX8_looked_36 : decode cX8_looked 36 = .ok (.aload_n 0, 1) := by decide +kernel
theorem dX8_looked_37 : decode cX8_looked 37 = .ok (.iconst 1, 1) := by decide +kernel
theorem dX8_looked_38 : decode cX8_looked 38 = .ok (.invokevirtual 99, 3) := by decide +kernel
theorem dX8_looked_41 : decode cX8_looked 41 = .ok (.ireturn, 1) := by decide +kernel
theorem dX8_looked_42 : decode cX8_looked 42 = .ok (.iload_n 2, 1) := by decide +kernel
theorem dX8_looked_43 : decode cX8_looked 43 = .ok (.ifCond .lt 21, 3) := by decide +kernel
theorem dX8_looked_46 : decode cX8_looked 46 = .ok (.iload_n 2, 1) := by decide +kernel
theorem dX8_looked_47 : decode cX8_looked 47 = .ok (.i2l, 1) := by decide +kernel
theorem dX8_looked_48 : decode cX8_looked 48 = .ok (.iconst 3, 1) := by decide +kernel
theorem dX8_looked_49 : decode cX8_looked 49 = .ok (.iload_n 3, 1) := by decide +kernel
theorem dX8_looked_50 : decode cX8_looked 50 = .ok (.imul, 1) := by decide +kernel
theorem dX8_looked_51 : decode cX8_looked 51 = .ok (.i2l, 1) := by decide +kernel
theorem dX8_looked_52 : decode cX8_looked 52 = .ok (.ladd, 1) := by decide +kernel
theorem dX8_looked_53 : decode cX8_looked 53 = .ok (.aload_n 0, 1) := by decide +kernel
theorem dX8_looked_54 : decode cX8_looked 54 = .ok (.getfield 13, 3) := by decide +kernel
theorem dX8_looked_57 : decode cX8_looked 57 = .ok (.iload_n 1, 1) := by decide +kernel
theorem dX8_looked_58 : decode cX8_looked 58 = .ok (.iaload, 1) := by decide +kernel
theorem dX8_looked_59 : decode cX8_looked 59 = .ok (.i2l, 1) := by decide +kernel
theorem dX8_looked_60 : decode cX8_looked 60 = .ok (.lcmp, 1) := by decide +kernel
theorem dX8_looked_61 : decode cX8_looked 61 = .ok (.ifCond .le 9, 3) := by decide +kernel
theorem dX8_looked_64 : decode cX8_looked 64 = .ok (.aload_n 0, 1) := by decide +kernel
theorem dX8_looked_65 : decode cX8_looked 65 = .ok (.iconst 2, 1) := by decide +kernel
theorem dX8_looked_66 : decode cX8_looked 66 = .ok (.invokevirtual 99, 3) := by decide +kernel
theorem dX8_looked_69 : decode cX8_looked 69 = .ok (.ireturn, 1) := by decide +kernel
theorem dX8_looked_70 : decode cX8_looked 70 = .ok (.bipush 40, 2) := by decide +kernel
theorem dX8_looked_72 : decode cX8_looked 72 = .ok (.iload_n 1, 1) := by decide +kernel
theorem dX8_looked_73 : decode cX8_looked 73 = .ok (.imul, 1) := by decide +kernel
theorem dX8_looked_74 : decode cX8_looked 74 = .ok (.iload_n 2, 1) := by decide +kernel
theorem dX8_looked_75 : decode cX8_looked 75 = .ok (.iadd, 1) := by decide +kernel
theorem dX8_looked_76 : decode cX8_looked 76 = .ok (.istore 4, 2) := by decide +kernel
theorem dX8_looked_78 : decode cX8_looked 78 = .ok (.iload 4, 2) := by decide +kernel
theorem dX8_looked_80 : decode cX8_looked 80 = .ok (.istore 5, 2) := by decide +kernel
theorem dX8_looked_82 : decode cX8_looked 82 = .ok (.iload 5, 2) := by decide +kernel
theorem dX8_looked_84 : decode cX8_looked 84 = .ok (.iload 4, 2) := by decide +kernel
theorem dX8_looked_86 : decode cX8_looked 86 = .ok (.iconst 3, 1) := by decide +kernel
theorem dX8_looked_87 : decode cX8_looked 87 = .ok (.iload_n 3, 1) := by decide +kernel
theorem dX8_looked_88 : decode cX8_looked 88 = .ok (.imul, 1) := by decide +kernel
theorem dX8_looked_89 : decode cX8_looked 89 = .ok (.iadd, 1) := by decide +kernel
theorem dX8_looked_90 : decode cX8_looked 90 = .ok (.if_icmp .ge 66, 3) := by decide +kernel
theorem dX8_looked_93 : decode cX8_looked 93 = .ok (.aload_n 0, 1) := by decide +kernel
theorem dX8_looked_94 : decode cX8_looked 94 = .ok (.aload_n 0, 1) := by decide +kernel
theorem dX8_looked_95 : decode cX8_looked 95 = .ok (.getfield 16, 3) := by decide +kernel
theorem dX8_looked_98 : decode cX8_looked 98 = .ok (.iload 5, 2) := by decide +kernel
theorem dX8_looked_100 : decode cX8_looked 100 = .ok (.iaload, 1) := by decide +kernel
theorem dX8_looked_101 : decode cX8_looked 101 = .ok (.invokevirtual 263, 3) := by decide +kernel
theorem dX8_looked_104 : decode cX8_looked 104 = .ok (.ifCond .eq 43, 3) := by decide +kernel
theorem dX8_looked_107 : decode cX8_looked 107 = .ok (.aload_n 0, 1) := by decide +kernel
theorem dX8_looked_108 : decode cX8_looked 108 = .ok (.getfield 16, 3) := by decide +kernel
theorem dX8_looked_111 : decode cX8_looked 111 = .ok (.iload 5, 2) := by decide +kernel
theorem dX8_looked_113 : decode cX8_looked 113 = .ok (.iconst 1, 1) := by decide +kernel
theorem dX8_looked_114 : decode cX8_looked 114 = .ok (.iadd, 1) := by decide +kernel
theorem dX8_looked_115 : decode cX8_looked 115 = .ok (.iaload, 1) := by decide +kernel
theorem dX8_looked_116 : decode cX8_looked 116 = .ok (.i2l, 1) := by decide +kernel
theorem dX8_looked_117 : decode cX8_looked 117 = .ok (.lconst 0, 1) := by decide +kernel
theorem dX8_looked_118 : decode cX8_looked 118 = .ok (.ldc2_w 266, 3) := by decide +kernel
theorem dX8_looked_121 : decode cX8_looked 121 = .ok (.invokestatic 88, 3) := by decide +kernel
theorem dX8_looked_124 : decode cX8_looked 124 = .ok (.ifCond .eq 23, 3) := by decide +kernel
theorem dX8_looked_127 : decode cX8_looked 127 = .ok (.aload_n 0, 1) := by decide +kernel
theorem dX8_looked_128 : decode cX8_looked 128 = .ok (.getfield 16, 3) := by decide +kernel
theorem dX8_looked_131 : decode cX8_looked 131 = .ok (.iload 5, 2) := by decide +kernel
theorem dX8_looked_133 : decode cX8_looked 133 = .ok (.iconst 2, 1) := by decide +kernel
theorem dX8_looked_134 : decode cX8_looked 134 = .ok (.iadd, 1) := by decide +kernel
theorem dX8_looked_135 : decode cX8_looked 135 = .ok (.iaload, 1) := by decide +kernel
theorem dX8_looked_136 : decode cX8_looked 136 = .ok (.i2l, 1) := by decide +kernel
theorem dX8_looked_137 : decode cX8_looked 137 = .ok (.lconst 0, 1) := by decide +kernel
theorem dX8_looked_138 : decode cX8_looked 138 = .ok (.ldc2_w 266, 3) := by decide +kernel
theorem dX8_looked_141 : decode cX8_looked 141 = .ok (.invokestatic 88, 3) := by decide +kernel
theorem dX8_looked_144 : decode cX8_looked 144 = .ok (.ifCond .ne 6, 3) := by decide +kernel
theorem dX8_looked_147 : decode cX8_looked 147 = .ok (.ldc 98, 2) := by decide +kernel
theorem dX8_looked_149 : decode cX8_looked 149 = .ok (.ireturn, 1) := by decide +kernel
theorem dX8_looked_150 : decode cX8_looked 150 = .ok (.iinc 5 3, 3) := by decide +kernel
theorem dX8_looked_153 : decode cX8_looked 153 = .ok (.goto (-71), 3) := by decide +kernel
theorem dX8_looked_156 : decode cX8_looked 156 = .ok (.aload_n 0, 1) := by decide +kernel
theorem dX8_looked_157 : decode cX8_looked 157 = .ok (.iconst 0, 1) := by decide +kernel
theorem dX8_looked_158 : decode cX8_looked 158 = .ok (.putfield 82, 3) := by decide +kernel
theorem dX8_looked_161 : decode cX8_looked 161 = .ok (.iload 4, 2) := by decide +kernel
theorem dX8_looked_163 : decode cX8_looked 163 = .ok (.istore 5, 2) := by decide +kernel
theorem dX8_looked_165 : decode cX8_looked 165 = .ok (.iload 5, 2) := by decide +kernel
theorem dX8_looked_167 : decode cX8_looked 167 = .ok (.iload 4, 2) := by decide +kernel
theorem dX8_looked_169 : decode cX8_looked 169 = .ok (.iconst 3, 1) := by decide +kernel
theorem dX8_looked_170 : decode cX8_looked 170 = .ok (.iload_n 3, 1) := by decide +kernel
theorem dX8_looked_171 : decode cX8_looked 171 = .ok (.imul, 1) := by decide +kernel
theorem dX8_looked_172 : decode cX8_looked 172 = .ok (.iadd, 1) := by decide +kernel
theorem dX8_looked_173 : decode cX8_looked 173 = .ok (.if_icmp .ge 51, 3) := by decide +kernel
theorem dX8_looked_176 : decode cX8_looked 176 = .ok (.aload_n 0, 1) := by decide +kernel
theorem dX8_looked_177 : decode cX8_looked 177 = .ok (.getfield 25, 3) := by decide +kernel
theorem dX8_looked_180 : decode cX8_looked 180 = .ok (.aload_n 0, 1) := by decide +kernel
theorem dX8_looked_181 : decode cX8_looked 181 = .ok (.getfield 16, 3) := by decide +kernel
theorem dX8_looked_184 : decode cX8_looked 184 = .ok (.iload 5, 2) := by decide +kernel
theorem dX8_looked_186 : decode cX8_looked 186 = .ok (.iaload, 1) := by decide +kernel
theorem dX8_looked_187 : decode cX8_looked 187 = .ok (.aload_n 0, 1) := by decide +kernel
theorem dX8_looked_188 : decode cX8_looked 188 = .ok (.getfield 16, 3) := by decide +kernel
theorem dX8_looked_191 : decode cX8_looked 191 = .ok (.iload 5, 2) := by decide +kernel
theorem dX8_looked_193 : decode cX8_looked 193 = .ok (.iconst 1, 1) := by decide +kernel
theorem dX8_looked_194 : decode cX8_looked 194 = .ok (.iadd, 1) := by decide +kernel
theorem dX8_looked_195 : decode cX8_looked 195 = .ok (.iaload, 1) := by decide +kernel
theorem dX8_looked_196 : decode cX8_looked 196 = .ok (.iastore, 1) := by decide +kernel
theorem dX8_looked_197 : decode cX8_looked 197 = .ok (.aload_n 0, 1) := by decide +kernel
theorem dX8_looked_198 : decode cX8_looked 198 = .ok (.getfield 28, 3) := by decide +kernel
theorem dX8_looked_201 : decode cX8_looked 201 = .ok (.aload_n 0, 1) := by decide +kernel
theorem dX8_looked_202 : decode cX8_looked 202 = .ok (.getfield 16, 3) := by decide +kernel
theorem dX8_looked_205 : decode cX8_looked 205 = .ok (.iload 5, 2) := by decide +kernel
theorem dX8_looked_207 : decode cX8_looked 207 = .ok (.iaload, 1) := by decide +kernel
theorem dX8_looked_208 : decode cX8_looked 208 = .ok (.aload_n 0, 1) := by decide +kernel
theorem dX8_looked_209 : decode cX8_looked 209 = .ok (.getfield 16, 3) := by decide +kernel
theorem dX8_looked_212 : decode cX8_looked 212 = .ok (.iload 5, 2) := by decide +kernel
theorem dX8_looked_214 : decode cX8_looked 214 = .ok (.iconst 2, 1) := by decide +kernel
theorem dX8_looked_215 : decode cX8_looked 215 = .ok (.iadd, 1) := by decide +kernel
theorem dX8_looked_216 : decode cX8_looked 216 = .ok (.iaload, 1) := by decide +kernel
theorem dX8_looked_217 : decode cX8_looked 217 = .ok (.iastore, 1) := by decide +kernel
theorem dX8_looked_218 : decode cX8_looked 218 = .ok (.iinc 5 3, 3) := by decide +kernel
theorem dX8_looked_221 : decode cX8_looked 221 = .ok (.goto (-56), 3) := by decide +kernel
theorem dX8_looked_224 : decode cX8_looked 224 = .ok (.iload_n 3, 1) := by decide +kernel
theorem dX8_looked_225 : decode cX8_looked 225 = .ok (.ireturn, 1) := by decide +kernel
theorem dX8_fall_0 : decode cX8_fall 0 = .ok (.aload_n 0, 1) := by decide +kernel
theorem dX8_fall_1 : decode cX8_fall 1 = .ok (.iconst 0, 1) := by decide +kernel
theorem dX8_fall_2 : decode cX8_fall 2 = .ok (.putfield 78, 3) := by decide +kernel
theorem dX8_fall_5 : decode cX8_fall 5 = .ok (.aload_n 0, 1) := by decide +kernel
theorem dX8_fall_6 : decode cX8_fall 6 = .ok (.iload_n 1, 1) := by decide +kernel
theorem dX8_fall_7 : decode cX8_fall 7 = .ok (.invokevirtual 263, 3) := by decide +kernel
theorem dX8_fall_10 : decode cX8_fall 10 = .ok (.ifCond .eq 13, 3) := by decide +kernel
theorem dX8_fall_13 : decode cX8_fall 13 = .ok (.iload_n 2, 1) := by decide +kernel
theorem dX8_fall_14 : decode cX8_fall 14 = .ok (.i2l, 1) := by decide +kernel
theorem dX8_fall_15 : decode cX8_fall 15 = .ok (.lconst 0, 1) := by decide +kernel
theorem dX8_fall_16 : decode cX8_fall 16 = .ok (.lconst 1, 1) := by decide +kernel
theorem dX8_fall_17 : decode cX8_fall 17 = .ok (.invokestatic 88, 3) := by decide +kernel
theorem dX8_fall_20 : decode cX8_fall 20 = .ok (.ifCond .ne 6, 3) := by decide +kernel
theorem dX8_fall_23 : decode cX8_fall 23 = .ok (.ldc 98, 2) := by decide +kernel
theorem dX8_fall_25 : decode cX8_fall 25 = .ok (.ireturn, 1) := by decide +kernel
theorem dX8_fall_26 : decode cX8_fall 26 = .ok (.aload_n 0, 1) := by decide +kernel
theorem dX8_fall_27 : decode cX8_fall 27 = .ok (.getfield 31, 3) := by decide +kernel
theorem dX8_fall_30 : decode cX8_fall 30 = .ok (.iload_n 1, 1) := by decide +kernel
theorem dX8_fall_31 : decode cX8_fall 31 = .ok (.baload, 1) := by decide +kernel
theorem dX8_fall_32 : decode cX8_fall 32 = .ok (.ifCond .eq 7, 3) := by decide +kernel
theorem dX8_fall_35 : decode cX8_fall 35 = .ok (.iconst 1, 1) := by decide +kernel
theorem dX8_fall_36 : decode cX8_fall 36 = .ok (.goto 4, 3) := by decide +kernel
theorem dX8_fall_39 : decode cX8_fall 39 = .ok (.iconst 0, 1) := by decide +kernel
theorem dX8_fall_40 : decode cX8_fall 40 = .ok (.istore_n 3, 1) := by decide +kernel
theorem dX8_fall_41 : decode cX8_fall 41 = .ok (.aload_n 0, 1) := by decide +kernel
theorem dX8_fall_42 : decode cX8_fall 42 = .ok (.getfield 31, 3) := by decide +kernel
theorem dX8_fall_45 : decode cX8_fall 45 = .ok (.iload_n 1, 1) := by decide +kernel
theorem dX8_fall_46 : decode cX8_fall 46 = .ok (.iload_n 2, 1) := by decide +kernel
theorem dX8_fall_47 : decode cX8_fall 47 = .ok (.iconst 1, 1) := by decide +kernel
theorem dX8_fall_48 : decode cX8_fall 48 = .ok (.if_icmp .ne 7, 3) := by decide +kernel
theorem dX8_fall_51 : decode cX8_fall 51 = .ok (.iconst 1, 1) := by decide +kernel
theorem dX8_fall_52 : decode cX8_fall 52 = .ok (.goto 4, 3) := by decide +kernel
theorem dX8_fall_55 : decode cX8_fall 55 = .ok (.iconst 0, 1) := by decide +kernel
theorem dX8_fall_56 : decode cX8_fall 56 = .ok (.bastore, 1) := by decide +kernel
theorem dX8_fall_57 : decode cX8_fall 57 = .ok (.iload_n 3, 1) := by decide +kernel
theorem dX8_fall_58 : decode cX8_fall 58 = .ok (.ireturn, 1) := by decide +kernel
theorem dX8_day_0 : decode cX8_day 0 = .ok (.aload_n 0, 1) := by decide +kernel
theorem dX8_day_1 : decode cX8_day 1 = .ok (.iconst 0, 1) := by decide +kernel
theorem dX8_day_2 : decode cX8_day 2 = .ok (.putfield 78, 3) := by decide +kernel
theorem dX8_day_5 : decode cX8_day 5 = .ok (.iload_n 1, 1) := by decide +kernel
theorem dX8_day_6 : decode cX8_day 6 = .ok (.i2l, 1) := by decide +kernel
theorem dX8_day_7 : decode cX8_day 7 = .ok (.lconst 0, 1) := by decide +kernel
theorem dX8_day_8 : decode cX8_day 8 = .ok (.ldc2_w 266, 3) := by decide +kernel
theorem dX8_day_11 : decode cX8_day 11 = .ok (.invokestatic 88, 3) := by decide +kernel
theorem dX8_day_14 : decode cX8_day 14 = .ok (.ifCond .ne 6, 3) := by decide +kernel
theorem dX8_day_17 : decode cX8_day 17 = .ok (.ldc 98, 2) := by decide +kernel
theorem dX8_day_19 : decode cX8_day 19 = .ok (.ireturn, 1) := by decide +kernel
theorem dX8_day_20 : decode cX8_day 20 = .ok (.aload_n 0, 1) := by decide +kernel
theorem dX8_day_21 : decode cX8_day 21 = .ok (.getfield 207, 3) := by decide +kernel
theorem dX8_day_24 : decode cX8_day 24 = .ok (.istore_n 2, 1) := by decide +kernel
theorem dX8_day_25 : decode cX8_day 25 = .ok (.aload_n 0, 1) := by decide +kernel
theorem dX8_day_26 : decode cX8_day 26 = .ok (.iload_n 1, 1) := by decide +kernel
theorem dX8_day_27 : decode cX8_day 27 = .ok (.putfield 207, 3) := by decide +kernel
theorem dX8_day_30 : decode cX8_day 30 = .ok (.iload_n 2, 1) := by decide +kernel
theorem dX8_day_31 : decode cX8_day 31 = .ok (.ireturn, 1) := by decide +kernel
theorem dX8_weigh_0 : decode cX8_weigh 0 = .ok (.aload_n 0, 1) := by decide +kernel
theorem dX8_weigh_1 : decode cX8_weigh 1 = .ok (.iconst 0, 1) := by decide +kernel
theorem dX8_weigh_2 : decode cX8_weigh 2 = .ok (.putfield 78, 3) := by decide +kernel
theorem dX8_weigh_5 : decode cX8_weigh 5 = .ok (.aload_n 0, 1) := by decide +kernel
theorem dX8_weigh_6 : decode cX8_weigh 6 = .ok (.iload_n 1, 1) := by decide +kernel
theorem dX8_weigh_7 : decode cX8_weigh 7 = .ok (.invokevirtual 263, 3) := by decide +kernel
theorem dX8_weigh_10 : decode cX8_weigh 10 = .ok (.ifCond .eq 28, 3) := by decide +kernel
theorem dX8_weigh_13 : decode cX8_weigh 13 = .ok (.iload_n 2, 1) := by decide +kernel
theorem dX8_weigh_14 : decode cX8_weigh 14 = .ok (.i2l, 1) := by decide +kernel
theorem dX8_weigh_15 : decode cX8_weigh 15 = .ok (.lconst 0, 1) := by decide +kernel
theorem dX8_weigh_16 : decode cX8_weigh 16 = .ok (.ldc2_w 268, 3) := by decide +kernel
theorem dX8_weigh_19 : decode cX8_weigh 19 = .ok (.invokestatic 88, 3) := by decide +kernel
theorem dX8_weigh_22 : decode cX8_weigh 22 = .ok (.ifCond .eq 16, 3) := by decide +kernel
theorem dX8_weigh_25 : decode cX8_weigh 25 = .ok (.iload_n 3, 1) := by decide +kernel
theorem dX8_weigh_26 : decode cX8_weigh 26 = .ok (.i2l, 1) := by decide +kernel
theorem dX8_weigh_27 : decode cX8_weigh 27 = .ok (.iload_n 2, 1) := by decide +kernel
theorem dX8_weigh_28 : decode cX8_weigh 28 = .ok (.i2l, 1) := by decide +kernel
theorem dX8_weigh_29 : decode cX8_weigh 29 = .ok (.ldc2_w 268, 3) := by decide +kernel
theorem dX8_weigh_32 : decode cX8_weigh 32 = .ok (.invokestatic 88, 3) := by decide +kernel
theorem dX8_weigh_35 : decode cX8_weigh 35 = .ok (.ifCond .ne 6, 3) := by decide +kernel
theorem dX8_weigh_38 : decode cX8_weigh 38 = .ok (.ldc 98, 2) := by decide +kernel
theorem dX8_weigh_40 : decode cX8_weigh 40 = .ok (.ireturn, 1) := by decide +kernel
theorem dX8_weigh_41 : decode cX8_weigh 41 = .ok (.iconst 0, 1) := by decide +kernel
theorem dX8_weigh_42 : decode cX8_weigh 42 = .ok (.istore 4, 2) := by decide +kernel
theorem dX8_weigh_44 : decode cX8_weigh 44 = .ok (.iload 4, 2) := by decide +kernel
theorem dX8_weigh_46 : decode cX8_weigh 46 = .ok (.aload_n 0, 1) := by decide +kernel
theorem dX8_weigh_47 : decode cX8_weigh 47 = .ok (.getfield 270, 3) := by decide +kernel
theorem dX8_weigh_50 : decode cX8_weigh 50 = .ok (.if_icmp .ge 23, 3) := by decide +kernel
theorem dX8_weigh_53 : decode cX8_weigh 53 = .ok (.aload_n 0, 1) := by decide +kernel
theorem dX8_weigh_54 : decode cX8_weigh 54 = .ok (.getfield 53, 3) := by decide +kernel
theorem dX8_weigh_57 : decode cX8_weigh 57 = .ok (.iload 4, 2) := by decide +kernel
theorem dX8_weigh_59 : decode cX8_weigh 59 = .ok (.iaload, 1) := by decide +kernel
theorem dX8_weigh_60 : decode cX8_weigh 60 = .ok (.iload_n 1, 1) := by decide +kernel
theorem dX8_weigh_61 : decode cX8_weigh 61 = .ok (.if_icmp .ne 6, 3) := by decide +kernel
theorem dX8_weigh_64 : decode cX8_weigh 64 = .ok (.ldc 247, 2) := by decide +kernel
theorem dX8_weigh_66 : decode cX8_weigh 66 = .ok (.ireturn, 1) := by decide +kernel
theorem dX8_weigh_67 : decode cX8_weigh 67 = .ok (.iinc 4 1, 3) := by decide +kernel
theorem dX8_weigh_70 : decode cX8_weigh 70 = .ok (.goto (-26), 3) := by decide +kernel
theorem dX8_weigh_73 : decode cX8_weigh 73 = .ok (.aload_n 0, 1) := by decide +kernel
theorem dX8_weigh_74 : decode cX8_weigh 74 = .ok (.getfield 270, 3) := by decide +kernel
theorem dX8_weigh_77 : decode cX8_weigh 77 = .ok (.iconst 3, 1) := by decide +kernel
theorem dX8_weigh_78 : decode cX8_weigh 78 = .ok (.if_icmp .ne 6, 3) := by decide +kernel
theorem dX8_weigh_81 : decode cX8_weigh 81 = .ok (.ldc 108, 2) := by decide +kernel
theorem dX8_weigh_83 : decode cX8_weigh 83 = .ok (.ireturn, 1) := by decide +kernel
theorem dX8_weigh_84 : decode cX8_weigh 84 = .ok (.aload_n 0, 1) := by decide +kernel
theorem dX8_weigh_85 : decode cX8_weigh 85 = .ok (.getfield 53, 3) := by decide +kernel
theorem dX8_weigh_88 : decode cX8_weigh 88 = .ok (.aload_n 0, 1) := by decide +kernel
theorem dX8_weigh_89 : decode cX8_weigh 89 = .ok (.getfield 270, 3) := by decide +kernel
theorem dX8_weigh_92 : decode cX8_weigh 92 = .ok (.iload_n 1, 1) := by decide +kernel
theorem dX8_weigh_93 : decode cX8_weigh 93 = .ok (.iastore, 1) := by decide +kernel
theorem dX8_weigh_94 : decode cX8_weigh 94 = .ok (.aload_n 0, 1) := by decide +kernel
theorem dX8_weigh_95 : decode cX8_weigh 95 = .ok (.getfield 56, 3) := by decide +kernel
theorem dX8_weigh_98 : decode cX8_weigh 98 = .ok (.aload_n 0, 1) := by decide +kernel
theorem dX8_weigh_99 : decode cX8_weigh 99 = .ok (.getfield 270, 3) := by decide +kernel
theorem dX8_weigh_102 : decode cX8_weigh 102 = .ok (.iconst 1, 1) := by decide +kernel
theorem dX8_weigh_103 : decode cX8_weigh 103 = .ok (.bastore, 1) := by decide +kernel
theorem dX8_weigh_104 : decode cX8_weigh 104 = .ok (.aload_n 0, 1) := by decide +kernel
theorem dX8_weigh_105 : decode cX8_weigh 105 = .ok (.getfield 59, 3) := by decide +kernel
theorem dX8_weigh_108 : decode cX8_weigh 108 = .ok (.aload_n 0, 1) := by decide +kernel
theorem dX8_weigh_109 : decode cX8_weigh 109 = .ok (.getfield 270, 3) := by decide +kernel
theorem dX8_weigh_112 : decode cX8_weigh 112 = .ok (.iload_n 2, 1) := by decide +kernel
theorem dX8_weigh_113 : decode cX8_weigh 113 = .ok (.iastore, 1) := by decide +kernel
theorem dX8_weigh_114 : decode cX8_weigh 114 = .ok (.aload_n 0, 1) := by decide +kernel
theorem dX8_weigh_115 : decode cX8_weigh 115 = .ok (.getfield 62, 3) := by decide +kernel
theorem dX8_weigh_118 : decode cX8_weigh 118 = .ok (.aload_n 0, 1) := by decide +kernel
theorem dX8_weigh_119 : decode cX8_weigh 119 = .ok (.getfield 270, 3) := by decide +kernel
theorem dX8_weigh_122 : decode cX8_weigh 122 = .ok (.iload_n 3, 1) := by decide +kernel
theorem dX8_weigh_123 : decode cX8_weigh 123 = .ok (.iastore, 1) := by decide +kernel
theorem dX8_weigh_124 : decode cX8_weigh 124 = .ok (.aload_n 0, 1) := by decide +kernel
theorem dX8_weigh_125 : decode cX8_weigh 125 = .ok (.dup, 1) := by decide +kernel
theorem dX8_weigh_126 : decode cX8_weigh 126 = .ok (.getfield 270, 3) := by decide +kernel
theorem dX8_weigh_129 : decode cX8_weigh 129 = .ok (.iconst 1, 1) := by decide +kernel
theorem dX8_weigh_130 : decode cX8_weigh 130 = .ok (.iadd, 1) := by decide +kernel
theorem dX8_weigh_131 : decode cX8_weigh 131 = .ok (.putfield 270, 3) := by decide +kernel
theorem dX8_weigh_134 : decode cX8_weigh 134 = .ok (.aload_n 0, 1) := by decide +kernel
theorem dX8_weigh_135 : decode cX8_weigh 135 = .ok (.getfield 270, 3) := by decide +kernel
theorem dX8_weigh_138 : decode cX8_weigh 138 = .ok (.ireturn, 1) := by decide +kernel
theorem dX8_pair_0 : decode cX8_pair 0 = .ok (.aload_n 0, 1) := by decide +kernel
theorem dX8_pair_1 : decode cX8_pair 1 = .ok (.iconst 0, 1) := by decide +kernel
theorem dX8_pair_2 : decode cX8_pair 2 = .ok (.putfield 78, 3) := by decide +kernel
theorem dX8_pair_5 : decode cX8_pair 5 = .ok (.iload_n 1, 1) := by decide +kernel
theorem dX8_pair_6 : decode cX8_pair 6 = .ok (.i2l, 1) := by decide +kernel
theorem dX8_pair_7 : decode cX8_pair 7 = .ok (.lconst 0, 1) := by decide +kernel
theorem dX8_pair_8 : decode cX8_pair 8 = .ok (.aload_n 0, 1) := by decide +kernel
theorem dX8_pair_9 : decode cX8_pair 9 = .ok (.getfield 270, 3) := by decide +kernel
theorem dX8_pair_12 : decode cX8_pair 12 = .ok (.iconst 1, 1) := by decide +kernel
theorem dX8_pair_13 : decode cX8_pair 13 = .ok (.isub, 1) := by decide +kernel
theorem dX8_pair_14 : decode cX8_pair 14 = .ok (.i2l, 1) := by decide +kernel
theorem dX8_pair_15 : decode cX8_pair 15 = .ok (.invokestatic 88, 3) := by decide +kernel
theorem dX8_pair_18 : decode cX8_pair 18 = .ok (.ifCond .eq 50, 3) := by decide +kernel
theorem dX8_pair_21 : decode cX8_pair 21 = .ok (.iload_n 2, 1) := by decide +kernel
theorem dX8_pair_22 : decode cX8_pair 22 = .ok (.i2l, 1) := by decide +kernel
theorem dX8_pair_23 : decode cX8_pair 23 = .ok (.lconst 0, 1) := by decide +kernel
theorem dX8_pair_24 : decode cX8_pair 24 = .ok (.aload_n 0, 1) := by decide +kernel
theorem dX8_pair_25 : decode cX8_pair 25 = .ok (.getfield 270, 3) := by decide +kernel
theorem dX8_pair_28 : decode cX8_pair 28 = .ok (.iconst 1, 1) := by decide +kernel
theorem dX8_pair_29 : decode cX8_pair 29 = .ok (.isub, 1) := by decide +kernel
theorem dX8_pair_30 : decode cX8_pair 30 = .ok (.i2l, 1) := by decide +kernel
theorem dX8_pair_31 : decode cX8_pair 31 = .ok (.invokestatic 88, 3) := by decide +kernel
theorem dX8_pair_34 : decode cX8_pair 34 = .ok (.ifCond .eq 34, 3) := by decide +kernel
theorem dX8_pair_37 : decode cX8_pair 37 = .ok (.iload_n 1, 1) := by decide +kernel
theorem dX8_pair_38 : decode cX8_pair 38 = .ok (.iload_n 2, 1) := by decide +kernel
theorem dX8_pair_39 : decode cX8_pair 39 = .ok (.if_icmp .eq 29, 3) := by decide +kernel
theorem dX8_pair_42 : decode cX8_pair 42 = .ok (.iload_n 3, 1) := by decide +kernel
theorem dX8_pair_43 : decode cX8_pair 43 = .ok (.i2l, 1) := by decide +kernel
theorem dX8_pair_44 : decode cX8_pair 44 = .ok (.lconst 0, 1) := by decide +kernel
theorem dX8_pair_45 : decode cX8_pair 45 = .ok (.ldc2_w 268, 3) := by decide +kernel
theorem dX8_pair_48 : decode cX8_pair 48 = .ok (.invokestatic 88, 3) := by decide +kernel
theorem dX8_pair_51 : decode cX8_pair 51 = .ok (.ifCond .eq 17, 3) := by decide +kernel
theorem dX8_pair_54 : decode cX8_pair 54 = .ok (.iload 4, 2) := by decide +kernel
theorem dX8_pair_56 : decode cX8_pair 56 = .ok (.i2l, 1) := by decide +kernel
theorem dX8_pair_57 : decode cX8_pair 57 = .ok (.iload_n 3, 1) := by decide +kernel
theorem dX8_pair_58 : decode cX8_pair 58 = .ok (.i2l, 1) := by decide +kernel
theorem dX8_pair_59 : decode cX8_pair 59 = .ok (.ldc2_w 268, 3) := by decide +kernel
theorem dX8_pair_62 : decode cX8_pair 62 = .ok (.invokestatic 88, 3) := by decide +kernel
theorem dX8_pair_65 : decode cX8_pair 65 = .ok (.ifCond .ne 6, 3) := by decide +kernel
theorem dX8_pair_68 : decode cX8_pair 68 = .ok (.ldc 98, 2) := by decide +kernel
theorem dX8_pair_70 : decode cX8_pair 70 = .ok (.ireturn, 1) := by decide +kernel
theorem dX8_pair_71 : decode cX8_pair 71 = .ok (.aload_n 0, 1) := by decide +kernel
theorem dX8_pair_72 : decode cX8_pair 72 = .ok (.getfield 56, 3) := by decide +kernel
theorem dX8_pair_75 : decode cX8_pair 75 = .ok (.iconst 2, 1) := by decide +kernel
theorem dX8_pair_76 : decode cX8_pair 76 = .ok (.iload_n 1, 1) := by decide +kernel
theorem dX8_pair_77 : decode cX8_pair 77 = .ok (.iadd, 1) := by decide +kernel
theorem dX8_pair_78 : decode cX8_pair 78 = .ok (.iload_n 2, 1) := by decide +kernel
theorem dX8_pair_79 : decode cX8_pair 79 = .ok (.iadd, 1) := by decide +kernel
theorem dX8_pair_80 : decode cX8_pair 80 = .ok (.iconst 1, 1) := by decide +kernel
theorem dX8_pair_81 : decode cX8_pair 81 = .ok (.bastore, 1) := by decide +kernel
theorem dX8_pair_82 : decode cX8_pair 82 = .ok (.aload_n 0, 1) := by decide +kernel
theorem dX8_pair_83 : decode cX8_pair 83 = .ok (.getfield 59, 3) := by decide +kernel
theorem dX8_pair_86 : decode cX8_pair 86 = .ok (.iconst 2, 1) := by decide +kernel
theorem dX8_pair_87 : decode cX8_pair 87 = .ok (.iload_n 1, 1) := by decide +kernel
theorem dX8_pair_88 : decode cX8_pair 88 = .ok (.iadd, 1) := by decide +kernel
theorem dX8_pair_89 : decode cX8_pair 89 = .ok (.iload_n 2, 1) := by decide +kernel
theorem dX8_pair_90 : decode cX8_pair 90 = .ok (.iadd, 1) := by decide +kernel
theorem dX8_pair_91 : decode cX8_pair 91 = .ok (.iload_n 3, 1) := by decide +kernel
theorem dX8_pair_92 : decode cX8_pair 92 = .ok (.iastore, 1) := by decide +kernel
theorem dX8_pair_93 : decode cX8_pair 93 = .ok (.aload_n 0, 1) := by decide +kernel
theorem dX8_pair_94 : decode cX8_pair 94 = .ok (.getfield 62, 3) := by decide +kernel
theorem dX8_pair_97 : decode cX8_pair 97 = .ok (.iconst 2, 1) := by decide +kernel
theorem dX8_pair_98 : decode cX8_pair 98 = .ok (.iload_n 1, 1) := by decide +kernel
theorem dX8_pair_99 : decode cX8_pair 99 = .ok (.iadd, 1) := by decide +kernel
theorem dX8_pair_100 : decode cX8_pair 100 = .ok (.iload_n 2, 1) := by decide +kernel
theorem dX8_pair_101 : decode cX8_pair 101 = .ok (.iadd, 1) := by decide +kernel
theorem dX8_pair_102 : decode cX8_pair 102 = .ok (.iload 4, 2) := by decide +kernel
theorem dX8_pair_104 : decode cX8_pair 104 = .ok (.iastore, 1) := by decide +kernel
theorem dX8_pair_105 : decode cX8_pair 105 = .ok (.iconst 1, 1) := by decide +kernel
theorem dX8_pair_106 : decode cX8_pair 106 = .ok (.ireturn, 1) := by decide +kernel
theorem dX8_unweigh_0 : decode cX8_unweigh 0 = .ok (.aload_n 0, 1) := by decide +kernel
theorem dX8_unweigh_1 : decode cX8_unweigh 1 = .ok (.iconst 0, 1) := by decide +kernel
theorem dX8_unweigh_2 : decode cX8_unweigh 2 = .ok (.putfield 78, 3) := by decide +kernel
theorem dX8_unweigh_5 : decode cX8_unweigh 5 = .ok (.aload_n 0, 1) := by decide +kernel
theorem dX8_unweigh_6 : decode cX8_unweigh 6 = .ok (.getfield 270, 3) := by decide +kernel
theorem dX8_unweigh_9 : decode cX8_unweigh 9 = .ok (.istore_n 1, 1) := by decide +kernel
theorem dX8_unweigh_10 : decode cX8_unweigh 10 = .ok (.aload_n 0, 1) := by decide +kernel
theorem dX8_unweigh_11 : decode cX8_unweigh 11 = .ok (.iconst 0, 1) := by decide +kernel
theorem dX8_unweigh_12 : decode cX8_unweigh 12 = .ok (.putfield 270, 3) := by decide +kernel
theorem dX8_unweigh_15 : decode cX8_unweigh 15 = .ok (.iconst 0, 1) := by decide +kernel
theorem dX8_unweigh_16 : decode cX8_unweigh 16 = .ok (.istore_n 2, 1) := by decide +kernel
theorem dX8_unweigh_17 : decode cX8_unweigh 17 = .ok (.iload_n 2, 1) := by decide +kernel
theorem dX8_unweigh_18 : decode cX8_unweigh 18 = .ok (.bipush 6, 2) := by decide +kernel
theorem dX8_unweigh_20 : decode cX8_unweigh 20 = .ok (.if_icmp .ge 16, 3) := by decide +kernel
theorem dX8_unweigh_23 : decode cX8_unweigh 23 = .ok (.aload_n 0, 1) := by decide +kernel
theorem dX8_unweigh_24 : decode cX8_unweigh 24 = .ok (.getfield 56, 3) := by decide +kernel
theorem dX8_unweigh_27 : decode cX8_unweigh 27 = .ok (.iload_n 2, 1) := by decide +kernel
theorem dX8_unweigh_28 : decode cX8_unweigh 28 = .ok (.iconst 0, 1) := by decide +kernel
theorem dX8_unweigh_29 : decode cX8_unweigh 29 = .ok (.bastore, 1) := by decide +kernel
theorem dX8_unweigh_30 : decode cX8_unweigh 30 = .ok (.iinc 2 1, 3) := by decide +kernel
theorem dX8_unweigh_33 : decode cX8_unweigh 33 = .ok (.goto (-16), 3) := by decide +kernel
theorem dX8_unweigh_36 : decode cX8_unweigh 36 = .ok (.iload_n 1, 1) := by decide +kernel
theorem dX8_unweigh_37 : decode cX8_unweigh 37 = .ok (.ireturn, 1) := by decide +kernel
theorem dX8_isOfWorld_0 : decode cX8_isOfWorld 0 = .ok (.iload_n 0, 1) := by decide +kernel
theorem dX8_isOfWorld_1 : decode cX8_isOfWorld 1 = .ok (.iconst 3, 1) := by decide +kernel
theorem dX8_isOfWorld_2 : decode cX8_isOfWorld 2 = .ok (.if_icmp .ge 9, 3) := by decide +kernel
theorem dX8_isOfWorld_5 : decode cX8_isOfWorld 5 = .ok (.iconst 1, 1) := by decide +kernel
theorem dX8_isOfWorld_6 : decode cX8_isOfWorld 6 = .ok (.iload_n 0, 1) := by decide +kernel
theorem dX8_isOfWorld_7 : decode cX8_isOfWorld 7 = .ok (.ishl, 1) := by decide +kernel
theorem dX8_isOfWorld_8 : decode cX8_isOfWorld 8 = .ok (.goto 23, 3) := by decide +kernel
theorem dX8_isOfWorld_11 : decode cX8_isOfWorld 11 = .ok (.iload_n 0, 1) := by decide +kernel
theorem dX8_isOfWorld_12 : decode cX8_isOfWorld 12 = .ok (.iconst 3, 1) := by decide +kernel
theorem dX8_isOfWorld_13 : decode cX8_isOfWorld 13 = .ok (.if_icmp .ne 7, 3) := by decide +kernel
theorem dX8_isOfWorld_16 : decode cX8_isOfWorld 16 = .ok (.iconst 3, 1) := by decide +kernel
theorem dX8_isOfWorld_17 : decode cX8_isOfWorld 17 = .ok (.goto 14, 3) := by decide +kernel
theorem dX8_isOfWorld_20 : decode cX8_isOfWorld 20 = .ok (.iload_n 0, 1) := by decide +kernel
theorem dX8_isOfWorld_21 : decode cX8_isOfWorld 21 = .ok (.iconst 4, 1) := by decide +kernel
theorem dX8_isOfWorld_22 : decode cX8_isOfWorld 22 = .ok (.if_icmp .ne 7, 3) := by decide +kernel
theorem dX8_isOfWorld_25 : decode cX8_isOfWorld 25 = .ok (.iconst 5, 1) := by decide +kernel
theorem dX8_isOfWorld_26 : decode cX8_isOfWorld 26 = .ok (.goto 5, 3) := by decide +kernel
theorem dX8_isOfWorld_29 : decode cX8_isOfWorld 29 = .ok (.bipush 6, 2) := by decide +kernel
theorem dX8_isOfWorld_31 : decode cX8_isOfWorld 31 = .ok (.istore_n 2, 1) := by decide +kernel
theorem dX8_isOfWorld_32 : decode cX8_isOfWorld 32 = .ok (.iload_n 1, 1) := by decide +kernel
theorem dX8_isOfWorld_33 : decode cX8_isOfWorld 33 = .ok (.iload_n 2, 1) := by decide +kernel
theorem dX8_isOfWorld_34 : decode cX8_isOfWorld 34 = .ok (.iand, 1) := by decide +kernel
theorem dX8_isOfWorld_35 : decode cX8_isOfWorld 35 = .ok (.iload_n 2, 1) := by decide +kernel
theorem dX8_isOfWorld_36 : decode cX8_isOfWorld 36 = .ok (.if_icmp .ne 7, 3) := by decide +kernel
theorem dX8_isOfWorld_39 : decode cX8_isOfWorld 39 = .ok (.iconst 1, 1) := by decide +kernel
theorem dX8_isOfWorld_40 : decode cX8_isOfWorld 40 = .ok (.goto 4, 3) := by decide +kernel
theorem dX8_isOfWorld_43 : decode cX8_isOfWorld 43 = .ok (.iconst 0, 1) := by decide +kernel
theorem dX8_isOfWorld_44 : decode cX8_isOfWorld 44 = .ok (.ireturn, 1) := by decide +kernel
theorem dX8_at_0 : decode cX8_at 0 = .ok (.aload_n 0, 1) := by decide +kernel
theorem dX8_at_1 : decode cX8_at 1 = .ok (.getfield 65, 3) := by decide +kernel
theorem dX8_at_4 : decode cX8_at 4 = .ok (.bipush 8, 2) := by decide +kernel
theorem dX8_at_6 : decode cX8_at 6 = .ok (.iload_n 1, 1) := by decide +kernel
theorem dX8_at_7 : decode cX8_at 7 = .ok (.imul, 1) := by decide +kernel
theorem dX8_at_8 : decode cX8_at 8 = .ok (.iload_n 2, 1) := by decide +kernel
theorem dX8_at_9 : decode cX8_at 9 = .ok (.iadd, 1) := by decide +kernel
theorem dX8_at_10 : decode cX8_at 10 = .ok (.laload, 1) := by decide +kernel
theorem dX8_at_11 : decode cX8_at 11 = .ok (.lreturn, 1) := by decide +kernel
theorem dX8_put_0 : decode cX8_put 0 = .ok (.aload_n 0, 1) := by decide +kernel
theorem dX8_put_1 : decode cX8_put 1 = .ok (.getfield 65, 3) := by decide +kernel
theorem dX8_put_4 : decode cX8_put 4 = .ok (.bipush 8, 2) := by decide +kernel
theorem dX8_put_6 : decode cX8_put 6 = .ok (.iload_n 1, 1) := by decide +kernel
theorem dX8_put_7 : decode cX8_put 7 = .ok (.imul, 1) := by decide +kernel
theorem dX8_put_8 : decode cX8_put 8 = .ok (.iload_n 2, 1) := by decide +kernel
theorem dX8_put_9 : decode cX8_put 9 = .ok (.iadd, 1) := by decide +kernel
theorem dX8_put_10 : decode cX8_put 10 = .ok (.lload_n 3, 1) := by decide +kernel
theorem dX8_put_11 : decode cX8_put 11 = .ok (.lastore, 1) := by decide +kernel
theorem dX8_put_12 : decode cX8_put 12 = .ok (.return_, 1) := by decide +kernel
theorem dX8_turn_0 : decode cX8_turn 0 = .ok (.aload_n 0, 1) := by decide +kernel
theorem dX8_turn_1 : decode cX8_turn 1 = .ok (.iload_n 1, 1) := by decide +kernel
theorem dX8_turn_2 : decode cX8_turn 2 = .ok (.iload_n 2, 1) := by decide +kernel
theorem dX8_turn_3 : decode cX8_turn 3 = .ok (.invokevirtual 273, 3) := by decide +kernel
theorem dX8_turn_6 : decode cX8_turn 6 = .ok (.lstore_n 3, 1) := by decide +kernel
theorem dX8_turn_7 : decode cX8_turn 7 = .ok (.iconst 0, 1) := by decide +kernel
theorem dX8_turn_8 : decode cX8_turn 8 = .ok (.istore 5, 2) := by decide +kernel
theorem dX8_turn_10 : decode cX8_turn 10 = .ok (.iload 5, 2) := by decide +kernel
theorem dX8_turn_12 : decode cX8_turn 12 = .ok (.aload_n 0, 1) := by decide +kernel
theorem dX8_turn_13 : decode cX8_turn 13 = .ok (.getfield 277, 3) := by decide +kernel
theorem dX8_turn_16 : decode cX8_turn 16 = .ok (.if_icmp .gt 78, 3) := by decide +kernel
theorem dX8_turn_19 : decode cX8_turn 19 = .ok (.iconst 0, 1) := by decide +kernel
theorem dX8_turn_20 : decode cX8_turn 20 = .ok (.istore 6, 2) := by decide +kernel
theorem dX8_turn_22 : decode cX8_turn 22 = .ok (.iload 6, 2) := by decide +kernel
theorem dX8_turn_24 : decode cX8_turn 24 = .ok (.aload_n 0, 1) := by decide +kernel
theorem dX8_turn_25 : decode cX8_turn 25 = .ok (.getfield 280, 3) := by decide +kernel
theorem dX8_turn_28 : decode cX8_turn 28 = .ok (.if_icmp .gt 60, 3) := by decide +kernel
theorem dX8_turn_31 : decode cX8_turn 31 = .ok (.iload 5, 2) := by decide +kernel
theorem dX8_turn_33 : decode cX8_turn 33 = .ok (.iload_n 1, 1) := by decide +kernel
theorem dX8_turn_34 : decode cX8_turn 34 = .ok (.if_icmp .eq 48, 3) := by decide +kernel
theorem dX8_turn_37 : decode cX8_turn 37 = .ok (.iload 6, 2) := by decide +kernel
theorem dX8_turn_39 : decode cX8_turn 39 = .ok (.iload_n 2, 1) := by decide +kernel
theorem dX8_turn_40 : decode cX8_turn 40 = .ok (.if_icmp .eq 42, 3) := by decide +kernel
theorem dX8_turn_43 : decode cX8_turn 43 = .ok (.aload_n 0, 1) := by decide +kernel
theorem dX8_turn_44 : decode cX8_turn 44 = .ok (.iload 5, 2) := by decide +kernel
theorem dX8_turn_46 : decode cX8_turn 46 = .ok (.iload 6, 2) := by decide +kernel
theorem dX8_turn_48 : decode cX8_turn 48 = .ok (.aload_n 0, 1) := by decide +kernel
theorem dX8_turn_49 : decode cX8_turn 49 = .ok (.iload 5, 2) := by decide +kernel
theorem dX8_turn_51 : decode cX8_turn 51 = .ok (.iload 6, 2) := by decide +kernel
theorem dX8_turn_53 : decode cX8_turn 53 = .ok (.invokevirtual 273, 3) := by decide +kernel
theorem dX8_turn_56 : decode cX8_turn 56 = .ok (.lload_n 3, 1) := by decide +kernel
theorem dX8_turn_57 : decode cX8_turn 57 = .ok (.lmul, 1) := by decide +kernel
theorem dX8_turn_58 : decode cX8_turn 58 = .ok (.aload_n 0, 1) := by decide +kernel
theorem dX8_turn_59 : decode cX8_turn 59 = .ok (.iload 5, 2) := by decide +kernel
theorem dX8_turn_61 : decode cX8_turn 61 = .ok (.iload_n 2, 1) := by decide +kernel
theorem dX8_turn_62 : decode cX8_turn 62 = .ok (.invokevirtual 273, 3) := by decide +kernel
theorem dX8_turn_65 : decode cX8_turn 65 = .ok (.aload_n 0, 1) := by decide +kernel
theorem dX8_turn_66 : decode cX8_turn 66 = .ok (.iload_n 1, 1) := by decide +kernel
theorem dX8_turn_67 : decode cX8_turn 67 = .ok (.iload 6, 2) := by decide +kernel
theorem dX8_turn_69 : decode cX8_turn 69 = .ok (.invokevirtual 273, 3) := by decide +kernel
theorem dX8_turn_72 : decode cX8_turn 72 = .ok (.lmul, 1) := by decide +kernel
theorem dX8_turn_73 : decode cX8_turn 73 = .ok (.lsub, 1) := by decide +kernel
theorem dX8_turn_74 : decode cX8_turn 74 = .ok (.aload_n 0, 1) := by decide +kernel
theorem dX8_turn_75 : decode cX8_turn 75 = .ok (.getfield 283, 3) := by decide +kernel
theorem dX8_turn_78 : decode cX8_turn 78 = .ok (.ldiv, 1) := by decide +kernel
theorem dX8_turn_79 : decode cX8_turn 79 = .ok (.invokevirtual 287, 3) := by decide +kernel
theorem dX8_turn_82 : decode cX8_turn 82 = .ok (.iinc 6 1, 3) := by decide +kernel
theorem dX8_turn_85 : decode cX8_turn 85 = .ok (.goto (-63), 3) := by decide +kernel
theorem dX8_turn_88 : decode cX8_turn 88 = .ok (.iinc 5 1, 3) := by decide +kernel
theorem dX8_turn_91 : decode cX8_turn 91 = .ok (.goto (-81), 3) := by decide +kernel
theorem dX8_turn_94 : decode cX8_turn 94 = .ok (.iconst 0, 1) := by decide +kernel
theorem dX8_turn_95 : decode cX8_turn 95 = .ok (.istore 5, 2) := by decide +kernel
theorem dX8_turn_97 : decode cX8_turn 97 = .ok (.iload 5, 2) := by decide +kernel
theorem dX8_turn_99 : decode cX8_turn 99 = .ok (.aload_n 0, 1) := by decide +kernel
theorem dX8_turn_100 : decode cX8_turn 100 = .ok (.getfield 277, 3) := by decide +kernel
theorem dX8_turn_103 : decode cX8_turn 103 = .ok (.if_icmp .gt 37, 3) := by decide +kernel
theorem dX8_turn_106 : decode cX8_turn 106 = .ok (.aload_n 0, 1) := by decide +kernel
theorem dX8_turn_107 : decode cX8_turn 107 = .ok (.iload 5, 2) := by decide +kernel
theorem dX8_turn_109 : decode cX8_turn 109 = .ok (.iload_n 2, 1) := by decide +kernel
theorem dX8_turn_110 : decode cX8_turn 110 = .ok (.iload 5, 2) := by decide +kernel
theorem dX8_turn_112 : decode cX8_turn 112 = .ok (.iload_n 1, 1) := by decide +kernel
theorem dX8_turn_113 : decode cX8_turn 113 = .ok (.if_icmp .ne 10, 3) := by decide +kernel
theorem dX8_turn_116 : decode cX8_turn 116 = .ok (.aload_n 0, 1) := by decide +kernel
theorem dX8_turn_117 : decode cX8_turn 117 = .ok (.getfield 283, 3) := by decide +kernel
theorem dX8_turn_120 : decode cX8_turn 120 = .ok (.goto 11, 3) := by decide +kernel
theorem dX8_turn_123 : decode cX8_turn 123 = .ok (.aload_n 0, 1) := by decide +kernel
theorem dX8_turn_124 : decode cX8_turn 124 = .ok (.iload 5, 2) := by decide +kernel
theorem dX8_turn_126 : decode cX8_turn 126 = .ok (.iload_n 2, 1) := by decide +kernel
theorem dX8_turn_127 : decode cX8_turn 127 = .ok (.invokevirtual 273, 3) := by decide +kernel
theorem dX8_turn_130 : decode cX8_turn 130 = .ok (.lneg, 1) := by decide +kernel
theorem dX8_turn_131 : decode cX8_turn 131 = .ok (.invokevirtual 287, 3) := by decide +kernel
theorem dX8_turn_134 : decode cX8_turn 134 = .ok (.iinc 5 1, 3) := by decide +kernel
theorem dX8_turn_137 : decode cX8_turn 137 = .ok (.goto (-40), 3) := by decide +kernel
theorem dX8_turn_140 : decode cX8_turn 140 = .ok (.aload_n 0, 1) := by decide +kernel
theorem dX8_turn_141 : decode cX8_turn 141 = .ok (.lload_n 3, 1) := by decide +kernel
theorem dX8_turn_142 : decode cX8_turn 142 = .ok (.putfield 283, 3) := by decide +kernel
theorem dX8_turn_145 : decode cX8_turn 145 = .ok (.lload_n 3, 1) := by decide +kernel
theorem dX8_turn_146 : decode cX8_turn 146 = .ok (.lconst 0, 1) := by decide +kernel
theorem dX8_turn_147 : decode cX8_turn 147 = .ok (.lcmp, 1) := by decide +kernel
theorem dX8_turn_148 : decode cX8_turn 148 = .ok (.ifCond .ge 48, 3) := by decide +kernel
theorem dX8_turn_151 : decode cX8_turn 151 = .ok (.aload_n 0, 1) := by decide +kernel
theorem dX8_turn_152 : decode cX8_turn 152 = .ok (.lload_n 3, 1) := by decide +kernel
theorem dX8_turn_153 : decode cX8_turn 153 = .ok (.lneg, 1) := by decide +kernel
theorem dX8_turn_154 : decode cX8_turn 154 = .ok (.putfield 283, 3) := by decide +kernel
theorem dX8_turn_157 : decode cX8_turn 157 = .ok (.iconst 0, 1) := by decide +kernel
theorem dX8_turn_158 : decode cX8_turn 158 = .ok (.istore 5, 2) := by decide +kernel
theorem dX8_turn_160 : decode cX8_turn 160 = .ok (.iload 5, 2) := by decide +kernel
theorem dX8_turn_162 : decode cX8_turn 162 = .ok (.bipush 8, 2) := by decide +kernel
theorem dX8_turn_164 : decode cX8_turn 164 = .ok (.aload_n 0, 1) := by decide +kernel
theorem dX8_turn_165 : decode cX8_turn 165 = .ok (.getfield 277, 3) := by decide +kernel
theorem dX8_turn_168 : decode cX8_turn 168 = .ok (.imul, 1) := by decide +kernel
theorem dX8_turn_169 : decode cX8_turn 169 = .ok (.bipush 8, 2) := by decide +kernel
theorem dX8_turn_171 : decode cX8_turn 171 = .ok (.iadd, 1) := by decide +kernel
theorem dX8_turn_172 : decode cX8_turn 172 = .ok (.if_icmp .ge 24, 3) := by decide +kernel
theorem dX8_turn_175 : decode cX8_turn 175 = .ok (.aload_n 0, 1) := by decide +kernel
theorem dX8_turn_176 : decode cX8_turn 176 = .ok (.getfield 65, 3) := by decide +kernel
theorem dX8_turn_179 : decode cX8_turn 179 = .ok (.iload 5, 2) := by decide +kernel
theorem dX8_turn_181 : decode cX8_turn 181 = .ok (.aload_n 0, 1) := by decide +kernel
theorem dX8_turn_182 : decode cX8_turn 182 = .ok (.getfield 65, 3) := by decide +kernel
theorem dX8_turn_185 : decode cX8_turn 185 = .ok (.iload 5, 2) := by decide +kernel
theorem dX8_turn_187 : decode cX8_turn 187 = .ok (.laload, 1) := by decide +kernel
theorem dX8_turn_188 : decode cX8_turn 188 = .ok (.lneg, 1) := by decide +kernel
theorem dX8_turn_189 : decode cX8_turn 189 = .ok (.lastore, 1) := by decide +kernel
theorem dX8_turn_190 : decode cX8_turn 190 = .ok (.iinc 5 1, 3) := by decide +kernel
theorem dX8_turn_193 : decode cX8_turn 193 = .ok (.goto (-33), 3) := by decide +kernel
theorem dX8_turn_196 : decode cX8_turn 196 = .ok (.aload_n 0, 1) := by decide +kernel
theorem dX8_turn_197 : decode cX8_turn 197 = .ok (.getfield 69, 3) := by decide +kernel
theorem dX8_turn_200 : decode cX8_turn 200 = .ok (.iload_n 1, 1) := by decide +kernel
theorem dX8_turn_201 : decode cX8_turn 201 = .ok (.iaload, 1) := by decide +kernel
theorem dX8_turn_202 : decode cX8_turn 202 = .ok (.istore 5, 2) := by decide +kernel
theorem dX8_turn_204 : decode cX8_turn 204 = .ok (.aload_n 0, 1) := by decide +kernel
theorem dX8_turn_205 : decode cX8_turn 205 = .ok (.getfield 69, 3) := by decide +kernel
theorem dX8_turn_208 : decode cX8_turn 208 = .ok (.iload_n 1, 1) := by decide +kernel
theorem dX8_turn_209 : decode cX8_turn 209 = .ok (.aload_n 0, 1) := by decide +kernel
theorem dX8_turn_210 : decode cX8_turn 210 = .ok (.getfield 72, 3) := by decide +kernel
theorem dX8_turn_213 : decode cX8_turn 213 = .ok (.iload_n 2, 1) := by decide +kernel
theorem dX8_turn_214 : decode cX8_turn 214 = .ok (.iaload, 1) := by decide +kernel
theorem dX8_turn_215 : decode cX8_turn 215 = .ok (.iastore, 1) := by decide +kernel
theorem dX8_turn_216 : decode cX8_turn 216 = .ok (.aload_n 0, 1) := by decide +kernel
theorem dX8_turn_217 : decode cX8_turn 217 = .ok (.getfield 72, 3) := by decide +kernel
theorem dX8_turn_220 : decode cX8_turn 220 = .ok (.iload_n 2, 1) := by decide +kernel
theorem dX8_turn_221 : decode cX8_turn 221 = .ok (.iload 5, 2) := by decide +kernel
theorem dX8_turn_223 : decode cX8_turn 223 = .ok (.iastore, 1) := by decide +kernel
theorem dX8_turn_224 : decode cX8_turn 224 = .ok (.return_, 1) := by decide +kernel
theorem dX8_leastRow_0 : decode cX8_leastRow 0 = .ok (.ldc 114, 2) := by decide +kernel
theorem dX8_leastRow_2 : decode cX8_leastRow 2 = .ok (.istore_n 1, 1) := by decide +kernel
theorem dX8_leastRow_3 : decode cX8_leastRow 3 = .ok (.iconst 0, 1) := by decide +kernel
theorem dX8_leastRow_4 : decode cX8_leastRow 4 = .ok (.istore_n 2, 1) := by decide +kernel
theorem dX8_leastRow_5 : decode cX8_leastRow 5 = .ok (.iload_n 2, 1) := by decide +kernel
theorem dX8_leastRow_6 : decode cX8_leastRow 6 = .ok (.aload_n 0, 1) := by decide +kernel
theorem dX8_leastRow_7 : decode cX8_leastRow 7 = .ok (.getfield 277, 3) := by decide +kernel
theorem dX8_leastRow_10 : decode cX8_leastRow 10 = .ok (.if_icmp .ge 50, 3) := by decide +kernel
theorem dX8_leastRow_13 : decode cX8_leastRow 13 = .ok (.aload_n 0, 1) := by decide +kernel
theorem dX8_leastRow_14 : decode cX8_leastRow 14 = .ok (.iload_n 2, 1) := by decide +kernel
theorem dX8_leastRow_15 : decode cX8_leastRow 15 = .ok (.aload_n 0, 1) := by decide +kernel
theorem dX8_leastRow_16 : decode cX8_leastRow 16 = .ok (.getfield 280, 3) := by decide +kernel
theorem dX8_leastRow_19 : decode cX8_leastRow 19 = .ok (.invokevirtual 273, 3) := by decide +kernel
theorem dX8_leastRow_22 : decode cX8_leastRow 22 = .ok (.lconst 0, 1) := by decide +kernel
theorem dX8_leastRow_23 : decode cX8_leastRow 23 = .ok (.lcmp, 1) := by decide +kernel
theorem dX8_leastRow_24 : decode cX8_leastRow 24 = .ok (.ifCond .ge 28, 3) := by decide +kernel
theorem dX8_leastRow_27 : decode cX8_leastRow 27 = .ok (.iload_n 1, 1) := by decide +kernel
theorem dX8_leastRow_28 : decode cX8_leastRow 28 = .ok (.ldc 114, 2) := by decide +kernel
theorem dX8_leastRow_30 : decode cX8_leastRow 30 = .ok (.if_icmp .eq 18, 3) := by decide +kernel
theorem dX8_leastRow_33 : decode cX8_leastRow 33 = .ok (.aload_n 0, 1) := by decide +kernel
theorem dX8_leastRow_34 : decode cX8_leastRow 34 = .ok (.getfield 69, 3) := by decide +kernel
theorem dX8_leastRow_37 : decode cX8_leastRow 37 = .ok (.iload_n 2, 1) := by decide +kernel
theorem dX8_leastRow_38 : decode cX8_leastRow 38 = .ok (.iaload, 1) := by decide +kernel
theorem dX8_leastRow_39 : decode cX8_leastRow 39 = .ok (.aload_n 0, 1) := by decide +kernel
theorem dX8_leastRow_40 : decode cX8_leastRow 40 = .ok (.getfield 69, 3) := by decide +kernel
theorem dX8_leastRow_43 : decode cX8_leastRow 43 = .ok (.iload_n 1, 1) := by decide +kernel
theorem dX8_leastRow_44 : decode cX8_leastRow 44 = .ok (.iaload, 1) := by decide +kernel
theorem dX8_leastRow_45 : decode cX8_leastRow 45 = .ok (.if_icmp .ge 7, 3) := by decide +kernel
theorem dX8_leastRow_48 : decode cX8_leastRow 48 = .ok (.iload_n 2, 1) := by decide +kernel
theorem dX8_leastRow_49 : decode cX8_leastRow 49 = .ok (.goto 4, 3) := by decide +kernel
theorem dX8_leastRow_52 : decode cX8_leastRow 52 = .ok (.iload_n 1, 1) := by decide +kernel
theorem dX8_leastRow_53 : decode cX8_leastRow 53 = .ok (.istore_n 1, 1) := by decide +kernel
theorem dX8_leastRow_54 : decode cX8_leastRow 54 = .ok (.iinc 2 1, 3) := by decide +kernel
theorem dX8_leastRow_57 : decode cX8_leastRow 57 = .ok (.goto (-52), 3) := by decide +kernel
theorem dX8_leastRow_60 : decode cX8_leastRow 60 = .ok (.iload_n 1, 1) := by decide +kernel
theorem dX8_leastRow_61 : decode cX8_leastRow 61 = .ok (.ireturn, 1) := by decide +kernel
theorem dX8_leastColumn_0 : decode cX8_leastColumn 0 = .ok (.ldc 114, 2) := by decide +kernel
theorem dX8_leastColumn_2 : decode cX8_leastColumn 2 = .ok (.istore_n 1, 1) := by decide +kernel
theorem dX8_leastColumn_3 : decode cX8_leastColumn 3 = .ok (.iconst 0, 1) := by decide +kernel
theorem dX8_leastColumn_4 : decode cX8_leastColumn 4 = .ok (.istore_n 2, 1) := by decide +kernel
theorem dX8_leastColumn_5 : decode cX8_leastColumn 5 = .ok (.iload_n 2, 1) := by decide +kernel
theorem dX8_leastColumn_6 : decode cX8_leastColumn 6 = .ok (.aload_n 0, 1) := by decide +kernel
theorem dX8_leastColumn_7 : decode cX8_leastColumn 7 = .ok (.getfield 280, 3) := by decide +kernel
theorem dX8_leastColumn_10 : decode cX8_leastColumn 10 = .ok (.if_icmp .ge 50, 3) := by decide +kernel
theorem dX8_leastColumn_13 : decode cX8_leastColumn 13 = .ok (.aload_n 0, 1) := by decide +kernel
theorem dX8_leastColumn_14 : decode cX8_leastColumn 14 = .ok (.aload_n 0, 1) := by decide +kernel
theorem dX8_leastColumn_15 : decode cX8_leastColumn 15 = .ok (.getfield 277, 3) := by decide +kernel
theorem dX8_leastColumn_18 : decode cX8_leastColumn 18 = .ok (.iload_n 2, 1) := by decide +kernel
theorem dX8_leastColumn_19 : decode cX8_leastColumn 19 = .ok (.invokevirtual 273, 3) := by decide +kernel
theorem dX8_leastColumn_22 : decode cX8_leastColumn 22 = .ok (.lconst 0, 1) := by decide +kernel
theorem dX8_leastColumn_23 : decode cX8_leastColumn 23 = .ok (.lcmp, 1) := by decide +kernel
theorem dX8_leastColumn_24 : decode cX8_leastColumn 24 = .ok (.ifCond .ge 28, 3) := by decide +kernel
theorem dX8_leastColumn_27 : decode cX8_leastColumn 27 = .ok (.iload_n 1, 1) := by decide +kernel
theorem dX8_leastColumn_28 : decode cX8_leastColumn 28 = .ok (.ldc 114, 2) := by decide +kernel
theorem dX8_leastColumn_30 : decode cX8_leastColumn 30 = .ok (.if_icmp .eq 18, 3) := by decide +kernel
theorem dX8_leastColumn_33 : decode cX8_leastColumn 33 = .ok (.aload_n 0, 1) := by decide +kernel
theorem dX8_leastColumn_34 : decode cX8_leastColumn 34 = .ok (.getfield 72, 3) := by decide +kernel
theorem dX8_leastColumn_37 : decode cX8_leastColumn 37 = .ok (.iload_n 2, 1) := by decide +kernel
theorem dX8_leastColumn_38 : decode cX8_leastColumn 38 = .ok (.iaload, 1) := by decide +kernel
theorem dX8_leastColumn_39 : decode cX8_leastColumn 39 = .ok (.aload_n 0, 1) := by decide +kernel
theorem dX8_leastColumn_40 : decode cX8_leastColumn 40 = .ok (.getfield 72, 3) := by decide +kernel
theorem dX8_leastColumn_43 : decode cX8_leastColumn 43 = .ok (.iload_n 1, 1) := by decide +kernel
theorem dX8_leastColumn_44 : decode cX8_leastColumn 44 = .ok (.iaload, 1) := by decide +kernel
theorem dX8_leastColumn_45 : decode cX8_leastColumn 45 = .ok (.if_icmp .ge 7, 3) := by decide +kernel
theorem dX8_leastColumn_48 : decode cX8_leastColumn 48 = .ok (.iload_n 2, 1) := by decide +kernel
theorem dX8_leastColumn_49 : decode cX8_leastColumn 49 = .ok (.goto 4, 3) := by decide +kernel
theorem dX8_leastColumn_52 : decode cX8_leastColumn 52 = .ok (.iload_n 1, 1) := by decide +kernel
theorem dX8_leastColumn_53 : decode cX8_leastColumn 53 = .ok (.istore_n 1, 1) := by decide +kernel
theorem dX8_leastColumn_54 : decode cX8_leastColumn 54 = .ok (.iinc 2 1, 3) := by decide +kernel
theorem dX8_leastColumn_57 : decode cX8_leastColumn 57 = .ok (.goto (-52), 3) := by decide +kernel
theorem dX8_leastColumn_60 : decode cX8_leastColumn 60 = .ok (.iload_n 1, 1) := by decide +kernel
theorem dX8_leastColumn_61 : decode cX8_leastColumn 61 = .ok (.ireturn, 1) := by decide +kernel
theorem dX8_isSolved_0 : decode cX8_isSolved 0 = .ok (.aload_n 0, 1) := by decide +kernel
theorem dX8_isSolved_1 : decode cX8_isSolved 1 = .ok (.invokevirtual 291, 3) := by decide +kernel
theorem dX8_isSolved_4 : decode cX8_isSolved 4 = .ok (.istore_n 1, 1) := by decide +kernel
theorem dX8_isSolved_5 : decode cX8_isSolved 5 = .ok (.aload_n 0, 1) := by decide +kernel
theorem dX8_isSolved_6 : decode cX8_isSolved 6 = .ok (.invokevirtual 294, 3) := by decide +kernel
theorem dX8_isSolved_9 : decode cX8_isSolved 9 = .ok (.istore_n 2, 1) := by decide +kernel
theorem dX8_isSolved_10 : decode cX8_isSolved 10 = .ok (.iload_n 1, 1) := by decide +kernel
theorem dX8_isSolved_11 : decode cX8_isSolved 11 = .ok (.ldc 114, 2) := by decide +kernel
theorem dX8_isSolved_13 : decode cX8_isSolved 13 = .ok (.if_icmp .ne 9, 3) := by decide +kernel
theorem dX8_isSolved_16 : decode cX8_isSolved 16 = .ok (.iload_n 2, 1) := by decide +kernel
theorem dX8_isSolved_17 : decode cX8_isSolved 17 = .ok (.ldc 114, 2) := by decide +kernel
theorem dX8_isSolved_19 : decode cX8_isSolved 19 = .ok (.if_icmp .eq 195, 3) := by decide +kernel
theorem dX8_isSolved_22 : decode cX8_isSolved 22 = .ok (.ldc 114, 2) := by decide +kernel
theorem dX8_isSolved_24 : decode cX8_isSolved 24 = .ok (.istore_n 3, 1) := by decide +kernel
theorem dX8_isSolved_25 : decode cX8_isSolved 25 = .ok (.iload_n 2, 1) := by decide +kernel
theorem dX8_isSolved_26 : decode cX8_isSolved 26 = .ok (.ldc 114, 2) := by decide +kernel
theorem dX8_isSolved_28 : decode cX8_isSolved 28 = .ok (.if_icmp .eq 24, 3) := by decide +kernel
theorem dX8_isSolved_31 : decode cX8_isSolved 31 = .ok (.iload_n 1, 1) := by decide +kernel
theorem dX8_isSolved_32 : decode cX8_isSolved 32 = .ok (.ldc 114, 2) := by decide +kernel
theorem dX8_isSolved_34 : decode cX8_isSolved 34 = .ok (.if_icmp .eq 94, 3) := by decide +kernel
theorem dX8_isSolved_37 : decode cX8_isSolved 37 = .ok (.aload_n 0, 1) := by decide +kernel
theorem dX8_isSolved_38 : decode cX8_isSolved 38 = .ok (.getfield 69, 3) := by decide +kernel
theorem dX8_isSolved_41 : decode cX8_isSolved 41 = .ok (.iload_n 1, 1) := by decide +kernel
theorem dX8_isSolved_42 : decode cX8_isSolved 42 = .ok (.iaload, 1) := by decide +kernel
theorem dX8_isSolved_43 : decode cX8_isSolved 43 = .ok (.aload_n 0, 1) := by decide +kernel
theorem dX8_isSolved_44 : decode cX8_isSolved 44 = .ok (.getfield 72, 3) := by decide +kernel
theorem dX8_isSolved_47 : decode cX8_isSolved 47 = .ok (.iload_n 2, 1) := by decide +kernel
theorem dX8_isSolved_48 : decode cX8_isSolved 48 = .ok (.iaload, 1) := by decide +kernel
theorem dX8_isSolved_49 : decode cX8_isSolved 49 = .ok (.if_icmp .ge 79, 3) := by decide +kernel
theorem dX8_isSolved_52 : decode cX8_isSolved 52 = .ok (.iconst 0, 1) := by decide +kernel
theorem dX8_isSolved_53 : decode cX8_isSolved 53 = .ok (.istore 4, 2) := by decide +kernel
theorem dX8_isSolved_55 : decode cX8_isSolved 55 = .ok (.iload 4, 2) := by decide +kernel
theorem dX8_isSolved_57 : decode cX8_isSolved 57 = .ok (.aload_n 0, 1) := by decide +kernel
theorem dX8_isSolved_58 : decode cX8_isSolved 58 = .ok (.getfield 280, 3) := by decide +kernel
theorem dX8_isSolved_61 : decode cX8_isSolved 61 = .ok (.if_icmp .ge 50, 3) := by decide +kernel
theorem dX8_isSolved_64 : decode cX8_isSolved 64 = .ok (.aload_n 0, 1) := by decide +kernel
theorem dX8_isSolved_65 : decode cX8_isSolved 65 = .ok (.iload_n 1, 1) := by decide +kernel
theorem dX8_isSolved_66 : decode cX8_isSolved 66 = .ok (.iload 4, 2) := by decide +kernel
theorem dX8_isSolved_68 : decode cX8_isSolved 68 = .ok (.invokevirtual 273, 3) := by decide +kernel
theorem dX8_isSolved_71 : decode cX8_isSolved 71 = .ok (.lconst 0, 1) := by decide +kernel
theorem dX8_isSolved_72 : decode cX8_isSolved 72 = .ok (.lcmp, 1) := by decide +kernel
theorem dX8_isSolved_73 : decode cX8_isSolved 73 = .ok (.ifCond .ge 30, 3) := by decide +kernel
theorem dX8_isSolved_76 : decode cX8_isSolved 76 = .ok (.iload_n 3, 1) := by decide +kernel
theorem dX8_isSolved_77 : decode cX8_isSolved 77 = .ok (.ldc 114, 2) := by decide +kernel
theorem dX8_isSolved_79 : decode cX8_isSolved 79 = .ok (.if_icmp .eq 19, 3) := by decide +kernel
theorem dX8_isSolved_82 : decode cX8_isSolved 82 = .ok (.aload_n 0, 1) := by decide +kernel
theorem dX8_isSolved_83 : decode cX8_isSolved 83 = .ok (.getfield 72, 3) := by decide +kernel
theorem dX8_isSolved_86 : decode cX8_isSolved 86 = .ok (.iload 4, 2) := by decide +kernel
theorem dX8_isSolved_88 : decode cX8_isSolved 88 = .ok (.iaload, 1) := by decide +kernel
theorem dX8_isSolved_89 : decode cX8_isSolved 89 = .ok (.aload_n 0, 1) := by decide +kernel
theorem dX8_isSolved_90 : decode cX8_isSolved 90 = .ok (.getfield 72, 3) := by decide +kernel
theorem dX8_isSolved_93 : decode cX8_isSolved 93 = .ok (.iload_n 3, 1) := by decide +kernel
theorem dX8_isSolved_94 : decode cX8_isSolved 94 = .ok (.iaload, 1) := by decide +kernel
theorem dX8_isSolved_95 : decode cX8_isSolved 95 = .ok (.if_icmp .ge 8, 3) := by decide +kernel
theorem dX8_isSolved_98 : decode cX8_isSolved 98 = .ok (.iload 4, 2) := by decide +kernel
theorem dX8_isSolved_100 : decode cX8_isSolved 100 = .ok (.goto 4, 3) := by decide +kernel
theorem dX8_isSolved_103 : decode cX8_isSolved 103 = .ok (.iload_n 3, 1) := by decide +kernel
theorem dX8_isSolved_104 : decode cX8_isSolved 104 = .ok (.istore_n 3, 1) := by decide +kernel
theorem dX8_isSolved_105 : decode cX8_isSolved 105 = .ok (.iinc 4 1, 3) := by decide +kernel
theorem dX8_isSolved_108 : decode cX8_isSolved 108 = .ok (.goto (-53), 3) := by decide +kernel
theorem dX8_isSolved_111 : decode cX8_isSolved 111 = .ok (.iload_n 3, 1) := by decide +kernel
theorem dX8_isSolved_112 : decode cX8_isSolved 112 = .ok (.ldc 114, 2) := by decide +kernel
theorem dX8_isSolved_114 : decode cX8_isSolved 114 = .ok (.if_icmp .ne 5, 3) := by decide +kernel
theorem dX8_isSolved_117 : decode cX8_isSolved 117 = .ok (.iconst 0, 1) := by decide +kernel
theorem dX8_isSolved_118 : decode cX8_isSolved 118 = .ok (.ireturn, 1) := by decide +kernel
theorem dX8_isSolved_119 : decode cX8_isSolved 119 = .ok (.aload_n 0, 1) := by decide +kernel
theorem dX8_isSolved_120 : decode cX8_isSolved 120 = .ok (.iload_n 1, 1) := by decide +kernel
theorem dX8_isSolved_121 : decode cX8_isSolved 121 = .ok (.iload_n 3, 1) := by decide +kernel
theorem dX8_isSolved_122 : decode cX8_isSolved 122 = .ok (.invokevirtual 297, 3) := by decide +kernel
theorem dX8_isSolved_125 : decode cX8_isSolved 125 = .ok (.goto 76, 3) := by decide +kernel
theorem dX8_isSolved_128 : decode cX8_isSolved 128 = .ok (.iconst 0, 1) := by decide +kernel
theorem dX8_isSolved_129 : decode cX8_isSolved 129 = .ok (.istore 4, 2) := by decide +kernel
theorem dX8_isSolved_131 : decode cX8_isSolved 131 = .ok (.iload 4, 2) := by decide +kernel
theorem dX8_isSolved_133 : decode cX8_isSolved 133 = .ok (.aload_n 0, 1) := by decide +kernel
theorem dX8_isSolved_134 : decode cX8_isSolved 134 = .ok (.getfield 277, 3) := by decide +kernel
theorem dX8_isSolved_137 : decode cX8_isSolved 137 = .ok (.if_icmp .ge 50, 3) := by decide +kernel
theorem dX8_isSolved_140 : decode cX8_isSolved 140 = .ok (.aload_n 0, 1) := by decide +kernel
theorem dX8_isSolved_141 : decode cX8_isSolved 141 = .ok (.iload 4, 2) := by decide +kernel
theorem dX8_isSolved_143 : decode cX8_isSolved 143 = .ok (.iload_n 2, 1) := by decide +kernel
theorem dX8_isSolved_144 : decode cX8_isSolved 144 = .ok (.invokevirtual 273, 3) := by decide +kernel
theorem dX8_isSolved_147 : decode cX8_isSolved 147 = .ok (.lconst 0, 1) := by decide +kernel
theorem dX8_isSolved_148 : decode cX8_isSolved 148 = .ok (.lcmp, 1) := by decide +kernel
theorem dX8_isSolved_149 : decode cX8_isSolved 149 = .ok (.ifCond .le 30, 3) := by decide +kernel
theorem dX8_isSolved_152 : decode cX8_isSolved 152 = .ok (.iload_n 3, 1) := by decide +kernel
theorem dX8_isSolved_153 : decode cX8_isSolved 153 = .ok (.ldc 114, 2) := by decide +kernel
theorem dX8_isSolved_155 : decode cX8_isSolved 155 = .ok (.if_icmp .eq 19, 3) := by decide +kernel
theorem dX8_isSolved_158 : decode cX8_isSolved 158 = .ok (.aload_n 0, 1) := by decide +kernel
theorem dX8_isSolved_159 : decode cX8_isSolved 159 = .ok (.getfield 69, 3) := by decide +kernel
theorem dX8_isSolved_162 : decode cX8_isSolved 162 = .ok (.iload 4, 2) := by decide +kernel
theorem dX8_isSolved_164 : decode cX8_isSolved 164 = .ok (.iaload, 1) := by decide +kernel
theorem dX8_isSolved_165 : decode cX8_isSolved 165 = .ok (.aload_n 0, 1) := by decide +kernel
theorem dX8_isSolved_166 : decode cX8_isSolved 166 = .ok (.getfield 69, 3) := by decide +kernel
theorem dX8_isSolved_169 : decode cX8_isSolved 169 = .ok (.iload_n 3, 1) := by decide +kernel
theorem dX8_isSolved_170 : decode cX8_isSolved 170 = .ok (.iaload, 1) := by decide +kernel
theorem dX8_isSolved_171 : decode cX8_isSolved 171 = .ok (.if_icmp .ge 8, 3) := by decide +kernel
theorem dX8_isSolved_174 : decode cX8_isSolved 174 = .ok (.iload 4, 2) := by decide +kernel
theorem dX8_isSolved_176 : decode cX8_isSolved 176 = .ok (.goto 4, 3) := by decide +kernel
theorem dX8_isSolved_179 : decode cX8_isSolved 179 = .ok (.iload_n 3, 1) := by decide +kernel
theorem dX8_isSolved_180 : decode cX8_isSolved 180 = .ok (.istore_n 3, 1) := by decide +kernel
theorem dX8_isSolved_181 : decode cX8_isSolved 181 = .ok (.iinc 4 1, 3) := by decide +kernel
theorem dX8_isSolved_184 : decode cX8_isSolved 184 = .ok (.goto (-53), 3) := by decide +kernel
theorem dX8_isSolved_187 : decode cX8_isSolved 187 = .ok (.iload_n 3, 1) := by decide +kernel
theorem dX8_isSolved_188 : decode cX8_isSolved 188 = .ok (.ldc 114, 2) := by decide +kernel
theorem dX8_isSolved_190 : decode cX8_isSolved 190 = .ok (.if_icmp .ne 5, 3) := by decide +kernel
theorem dX8_isSolved_193 : decode cX8_isSolved 193 = .ok (.iconst 0, 1) := by decide +kernel
theorem dX8_isSolved_194 : decode cX8_isSolved 194 = .ok (.ireturn, 1) := by decide +kernel
theorem dX8_isSolved_195 : decode cX8_isSolved 195 = .ok (.aload_n 0, 1) := by decide +kernel
theorem dX8_isSolved_196 : decode cX8_isSolved 196 = .ok (.iload_n 3, 1) := by decide +kernel
theorem dX8_isSolved_197 : decode cX8_isSolved 197 = .ok (.iload_n 2, 1) := by decide +kernel
theorem dX8_isSolved_198 : decode cX8_isSolved 198 = .ok (.invokevirtual 297, 3) := by decide +kernel
theorem dX8_isSolved_201 : decode cX8_isSolved 201 = .ok (.aload_n 0, 1) := by decide +kernel
theorem dX8_isSolved_202 : decode cX8_isSolved 202 = .ok (.invokevirtual 291, 3) := by decide +kernel
theorem dX8_isSolved_205 : decode cX8_isSolved 205 = .ok (.istore_n 1, 1) := by decide +kernel
theorem dX8_isSolved_206 : decode cX8_isSolved 206 = .ok (.aload_n 0, 1) := by decide +kernel
theorem dX8_isSolved_207 : decode cX8_isSolved 207 = .ok (.invokevirtual 294, 3) := by decide +kernel
theorem dX8_isSolved_210 : decode cX8_isSolved 210 = .ok (.istore_n 2, 1) := by decide +kernel
theorem dX8_isSolved_211 : decode cX8_isSolved 211 = .ok (.goto (-201), 3) := by decide +kernel
theorem dX8_isSolved_214 : decode cX8_isSolved 214 = .ok (.iconst 1, 1) := by decide +kernel
theorem dX8_isSolved_215 : decode cX8_isSolved 215 = .ok (.ireturn, 1) := by decide +kernel
theorem dX8_addRow_0 : decode cX8_addRow 0 = .ok (.iconst 0, 1) := by decide +kernel
theorem dX8_addRow_1 : decode cX8_addRow 1 = .ok (.istore 4, 2) := by decide +kernel
theorem dX8_addRow_3 : decode cX8_addRow 3 = .ok (.iload 4, 2) := by decide +kernel
theorem dX8_addRow_5 : decode cX8_addRow 5 = .ok (.aload_n 0, 1) := by decide +kernel
theorem dX8_addRow_6 : decode cX8_addRow 6 = .ok (.getfield 280, 3) := by decide +kernel
theorem dX8_addRow_9 : decode cX8_addRow 9 = .ok (.if_icmp .ge 42, 3) := by decide +kernel
theorem dX8_addRow_12 : decode cX8_addRow 12 = .ok (.aload_n 0, 1) := by decide +kernel
theorem dX8_addRow_13 : decode cX8_addRow 13 = .ok (.aload_n 0, 1) := by decide +kernel
theorem dX8_addRow_14 : decode cX8_addRow 14 = .ok (.getfield 277, 3) := by decide +kernel
theorem dX8_addRow_17 : decode cX8_addRow 17 = .ok (.iload 4, 2) := by decide +kernel
theorem dX8_addRow_19 : decode cX8_addRow 19 = .ok (.iload_n 1, 1) := by decide +kernel
theorem dX8_addRow_20 : decode cX8_addRow 20 = .ok (.ldc 114, 2) := by decide +kernel
theorem dX8_addRow_22 : decode cX8_addRow 22 = .ok (.if_icmp .eq 14, 3) := by decide +kernel
theorem dX8_addRow_25 : decode cX8_addRow 25 = .ok (.iload_n 1, 1) := by decide +kernel
theorem dX8_addRow_26 : decode cX8_addRow 26 = .ok (.iload 4, 2) := by decide +kernel
theorem dX8_addRow_28 : decode cX8_addRow 28 = .ok (.iconst 1, 1) := by decide +kernel
theorem dX8_addRow_29 : decode cX8_addRow 29 = .ok (.iadd, 1) := by decide +kernel
theorem dX8_addRow_30 : decode cX8_addRow 30 = .ok (.invokestatic 301, 3) := by decide +kernel
theorem dX8_addRow_33 : decode cX8_addRow 33 = .ok (.ifCond .eq 8, 3) := by decide +kernel
theorem dX8_addRow_36 : decode cX8_addRow 36 = .ok (.iload_n 2, 1) := by decide +kernel
theorem dX8_addRow_37 : decode cX8_addRow 37 = .ok (.i2l, 1) := by decide +kernel
theorem dX8_addRow_38 : decode cX8_addRow 38 = .ok (.goto 4, 3) := by decide +kernel
theorem dX8_addRow_41 : decode cX8_addRow 41 = .ok (.lconst 0, 1) := by decide +kernel
theorem dX8_addRow_42 : decode cX8_addRow 42 = .ok (.invokevirtual 287, 3) := by decide +kernel
theorem dX8_addRow_45 : decode cX8_addRow 45 = .ok (.iinc 4 1, 3) := by decide +kernel
theorem dX8_addRow_48 : decode cX8_addRow 48 = .ok (.goto (-45), 3) := by decide +kernel
theorem dX8_addRow_51 : decode cX8_addRow 51 = .ok (.aload_n 0, 1) := by decide +kernel
theorem dX8_addRow_52 : decode cX8_addRow 52 = .ok (.aload_n 0, 1) := by decide +kernel
theorem dX8_addRow_53 : decode cX8_addRow 53 = .ok (.getfield 277, 3) := by decide +kernel
theorem dX8_addRow_56 : decode cX8_addRow 56 = .ok (.aload_n 0, 1) := by decide +kernel
theorem dX8_addRow_57 : decode cX8_addRow 57 = .ok (.getfield 280, 3) := by decide +kernel
theorem dX8_addRow_60 : decode cX8_addRow 60 = .ok (.iload_n 2, 1) := by decide +kernel
theorem dX8_addRow_61 : decode cX8_addRow 61 = .ok (.i2l, 1) := by decide +kernel
theorem dX8_addRow_62 : decode cX8_addRow 62 = .ok (.iload_n 3, 1) := by decide +kernel
theorem dX8_addRow_63 : decode cX8_addRow 63 = .ok (.i2l, 1) := by decide +kernel
theorem dX8_addRow_64 : decode cX8_addRow 64 = .ok (.lmul, 1) := by decide +kernel
theorem dX8_addRow_65 : decode cX8_addRow 65 = .ok (.invokevirtual 287, 3) := by decide +kernel
theorem dX8_addRow_68 : decode cX8_addRow 68 = .ok (.aload_n 0, 1) := by decide +kernel
theorem dX8_addRow_69 : decode cX8_addRow 69 = .ok (.dup, 1) := by decide +kernel
theorem dX8_addRow_70 : decode cX8_addRow 70 = .ok (.getfield 277, 3) := by decide +kernel
theorem dX8_addRow_73 : decode cX8_addRow 73 = .ok (.iconst 1, 1) := by decide +kernel
theorem dX8_addRow_74 : decode cX8_addRow 74 = .ok (.iadd, 1) := by decide +kernel
theorem dX8_addRow_75 : decode cX8_addRow 75 = .ok (.putfield 277, 3) := by decide +kernel
theorem dX8_addRow_78 : decode cX8_addRow 78 = .ok (.return_, 1) := by decide +kernel
theorem dX8_find_0 : decode cX8_find 0 = .ok (.aload_n 0, 1) := by decide +kernel
theorem dX8_find_1 : decode cX8_find 1 = .ok (.iconst 0, 1) := by decide +kernel
theorem dX8_find_2 : decode cX8_find 2 = .ok (.putfield 277, 3) := by decide +kernel
theorem dX8_find_5 : decode cX8_find 5 = .ok (.aload_n 0, 1) := by decide +kernel
theorem dX8_find_6 : decode cX8_find 6 = .ok (.iconst 1, 1) := by decide +kernel
theorem dX8_find_7 : decode cX8_find 7 = .ok (.aload_n 0, 1) := by decide +kernel
theorem dX8_find_8 : decode cX8_find 8 = .ok (.getfield 270, 3) := by decide +kernel
theorem dX8_find_11 : decode cX8_find 11 = .ok (.ishl, 1) := by decide +kernel
theorem dX8_find_12 : decode cX8_find 12 = .ok (.iconst 1, 1) := by decide +kernel
theorem dX8_find_13 : decode cX8_find 13 = .ok (.isub, 1) := by decide +kernel
theorem dX8_find_14 : decode cX8_find 14 = .ok (.putfield 280, 3) := by decide +kernel
theorem dX8_find_17 : decode cX8_find 17 = .ok (.aload_n 0, 1) := by decide +kernel
theorem dX8_find_18 : decode cX8_find 18 = .ok (.lconst 1, 1) := by decide +kernel
theorem dX8_find_19 : decode cX8_find 19 = .ok (.putfield 283, 3) := by decide +kernel
theorem dX8_find_22 : decode cX8_find 22 = .ok (.aload_n 0, 1) := by decide +kernel
theorem dX8_find_23 : decode cX8_find 23 = .ok (.ldc 114, 2) := by decide +kernel
theorem dX8_find_25 : decode cX8_find 25 = .ok (.iconst 1, 1) := by decide +kernel
theorem dX8_find_26 : decode cX8_find 26 = .ok (.bipush 100, 2) := by decide +kernel
theorem dX8_find_28 : decode cX8_find 28 = .ok (.invokevirtual 304, 3) := by decide +kernel
theorem dX8_find_31 : decode cX8_find 31 = .ok (.iconst 0, 1) := by decide +kernel
theorem dX8_find_32 : decode cX8_find 32 = .ok (.istore 4, 2) := by decide +kernel
theorem dX8_find_34 : decode cX8_find 34 = .ok (.iload 4, 2) := by decide +kernel
theorem dX8_find_36 : decode cX8_find 36 = .ok (.bipush 6, 2) := by decide +kernel
theorem dX8_find_38 : decode cX8_find 38 = .ok (.if_icmp .ge 63, 3) := by decide +kernel
theorem dX8_find_41 : decode cX8_find 41 = .ok (.aload_n 0, 1) := by decide +kernel
theorem dX8_find_42 : decode cX8_find 42 = .ok (.getfield 56, 3) := by decide +kernel
theorem dX8_find_45 : decode cX8_find 45 = .ok (.iload 4, 2) := by decide +kernel
theorem dX8_find_47 : decode cX8_find 47 = .ok (.baload, 1) := by decide +kernel
theorem dX8_find_48 : decode cX8_find 48 = .ok (.ifCond .eq 47, 3) := by decide +kernel
theorem dX8_find_51 : decode cX8_find 51 = .ok (.aload_n 0, 1) := by decide +kernel
theorem dX8_find_52 : decode cX8_find 52 = .ok (.iload 4, 2) := by decide +kernel
theorem dX8_find_54 : decode cX8_find 54 = .ok (.iconst 1, 1) := by decide +kernel
theorem dX8_find_55 : decode cX8_find 55 = .ok (.aload_n 0, 1) := by decide +kernel
theorem dX8_find_56 : decode cX8_find 56 = .ok (.getfield 62, 3) := by decide +kernel
theorem dX8_find_59 : decode cX8_find 59 = .ok (.iload 4, 2) := by decide +kernel
theorem dX8_find_61 : decode cX8_find 61 = .ok (.iaload, 1) := by decide +kernel
theorem dX8_find_62 : decode cX8_find 62 = .ok (.invokevirtual 304, 3) := by decide +kernel
theorem dX8_find_65 : decode cX8_find 65 = .ok (.aload_n 0, 1) := by decide +kernel
theorem dX8_find_66 : decode cX8_find 66 = .ok (.iload 4, 2) := by decide +kernel
theorem dX8_find_68 : decode cX8_find 68 = .ok (.iconst (-1), 1) := by decide +kernel
theorem dX8_find_69 : decode cX8_find 69 = .ok (.iload 4, 2) := by decide +kernel
theorem dX8_find_71 : decode cX8_find 71 = .ok (.iload_n 3, 1) := by decide +kernel
theorem dX8_find_72 : decode cX8_find 72 = .ok (.if_icmp .ne 13, 3) := by decide +kernel
theorem dX8_find_75 : decode cX8_find 75 = .ok (.aload_n 0, 1) := by decide +kernel
theorem dX8_find_76 : decode cX8_find 76 = .ok (.getfield 62, 3) := by decide +kernel
theorem dX8_find_79 : decode cX8_find 79 = .ok (.iload 4, 2) := by decide +kernel
theorem dX8_find_81 : decode cX8_find 81 = .ok (.iaload, 1) := by decide +kernel
theorem dX8_find_82 : decode cX8_find 82 = .ok (.goto 10, 3) := by decide +kernel
theorem dX8_find_85 : decode cX8_find 85 = .ok (.aload_n 0, 1) := by decide +kernel
theorem dX8_find_86 : decode cX8_find 86 = .ok (.getfield 59, 3) := by decide +kernel
theorem dX8_find_89 : decode cX8_find 89 = .ok (.iload 4, 2) := by decide +kernel
theorem dX8_find_91 : decode cX8_find 91 = .ok (.iaload, 1) := by decide +kernel
theorem dX8_find_92 : decode cX8_find 92 = .ok (.invokevirtual 304, 3) := by decide +kernel
theorem dX8_find_95 : decode cX8_find 95 = .ok (.iinc 4 1, 3) := by decide +kernel
theorem dX8_find_98 : decode cX8_find 98 = .ok (.goto (-64), 3) := by decide +kernel
theorem dX8_find_101 : decode cX8_find 101 = .ok (.iload_n 1, 1) := by decide +kernel
theorem dX8_find_102 : decode cX8_find 102 = .ok (.iconst 1, 1) := by decide +kernel
theorem dX8_find_103 : decode cX8_find 103 = .ok (.iand, 1) := by decide +kernel
theorem dX8_find_104 : decode cX8_find 104 = .ok (.istore 4, 2) := by decide +kernel
theorem dX8_find_106 : decode cX8_find 106 = .ok (.iconst 0, 1) := by decide +kernel
theorem dX8_find_107 : decode cX8_find 107 = .ok (.istore 5, 2) := by decide +kernel
theorem dX8_find_109 : decode cX8_find 109 = .ok (.iload 5, 2) := by decide +kernel
theorem dX8_find_111 : decode cX8_find 111 = .ok (.aload_n 0, 1) := by decide +kernel
theorem dX8_find_112 : decode cX8_find 112 = .ok (.getfield 280, 3) := by decide +kernel
theorem dX8_find_115 : decode cX8_find 115 = .ok (.if_icmp .ge 43, 3) := by decide +kernel
theorem dX8_find_118 : decode cX8_find 118 = .ok (.aload_n 0, 1) := by decide +kernel
theorem dX8_find_119 : decode cX8_find 119 = .ok (.aload_n 0, 1) := by decide +kernel
theorem dX8_find_120 : decode cX8_find 120 = .ok (.getfield 277, 3) := by decide +kernel
theorem dX8_find_123 : decode cX8_find 123 = .ok (.iload 5, 2) := by decide +kernel
theorem dX8_find_125 : decode cX8_find 125 = .ok (.iload_n 2, 1) := by decide +kernel
theorem dX8_find_126 : decode cX8_find 126 = .ok (.ineg, 1) := by decide +kernel
theorem dX8_find_127 : decode cX8_find 127 = .ok (.iload_n 1, 1) := by decide +kernel
theorem dX8_find_128 : decode cX8_find 128 = .ok (.iload 5, 2) := by decide +kernel
theorem dX8_find_130 : decode cX8_find 130 = .ok (.iconst 1, 1) := by decide +kernel
theorem dX8_find_131 : decode cX8_find 131 = .ok (.iadd, 1) := by decide +kernel
theorem dX8_find_132 : decode cX8_find 132 = .ok (.ishr, 1) := by decide +kernel
theorem dX8_find_133 : decode cX8_find 133 = .ok (.iconst 1, 1) := by decide +kernel
theorem dX8_find_134 : decode cX8_find 134 = .ok (.iand, 1) := by decide +kernel
theorem dX8_find_135 : decode cX8_find 135 = .ok (.iload 4, 2) := by decide +kernel
theorem dX8_find_137 : decode cX8_find 137 = .ok (.isub, 1) := by decide +kernel
theorem dX8_find_138 : decode cX8_find 138 = .ok (.imul, 1) := by decide +kernel
theorem dX8_find_139 : decode cX8_find 139 = .ok (.i2l, 1) := by decide +kernel
theorem dX8_find_140 : decode cX8_find 140 = .ok (.invokevirtual 287, 3) := by decide +kernel
theorem dX8_find_143 : decode cX8_find 143 = .ok (.aload_n 0, 1) := by decide +kernel
theorem dX8_find_144 : decode cX8_find 144 = .ok (.getfield 72, 3) := by decide +kernel
theorem dX8_find_147 : decode cX8_find 147 = .ok (.iload 5, 2) := by decide +kernel
theorem dX8_find_149 : decode cX8_find 149 = .ok (.iload 5, 2) := by decide +kernel
theorem dX8_find_151 : decode cX8_find 151 = .ok (.iastore, 1) := by decide +kernel
theorem dX8_find_152 : decode cX8_find 152 = .ok (.iinc 5 1, 3) := by decide +kernel
theorem dX8_find_155 : decode cX8_find 155 = .ok (.goto (-46), 3) := by decide +kernel
theorem dX8_find_158 : decode cX8_find 158 = .ok (.aload_n 0, 1) := by decide +kernel
theorem dX8_find_159 : decode cX8_find 159 = .ok (.aload_n 0, 1) := by decide +kernel
theorem dX8_find_160 : decode cX8_find 160 = .ok (.getfield 277, 3) := by decide +kernel
theorem dX8_find_163 : decode cX8_find 163 = .ok (.aload_n 0, 1) := by decide +kernel
theorem dX8_find_164 : decode cX8_find 164 = .ok (.getfield 280, 3) := by decide +kernel
theorem dX8_find_167 : decode cX8_find 167 = .ok (.lconst 0, 1) := by decide +kernel
theorem dX8_find_168 : decode cX8_find 168 = .ok (.invokevirtual 287, 3) := by decide +kernel
theorem dX8_find_171 : decode cX8_find 171 = .ok (.iconst 0, 1) := by decide +kernel
theorem dX8_find_172 : decode cX8_find 172 = .ok (.istore 5, 2) := by decide +kernel
theorem dX8_find_174 : decode cX8_find 174 = .ok (.iload 5, 2) := by decide +kernel
theorem dX8_find_176 : decode cX8_find 176 = .ok (.aload_n 0, 1) := by decide +kernel
theorem dX8_find_177 : decode cX8_find 177 = .ok (.getfield 277, 3) := by decide +kernel
theorem dX8_find_180 : decode cX8_find 180 = .ok (.if_icmp .ge 23, 3) := by decide +kernel
theorem dX8_find_183 : decode cX8_find 183 = .ok (.aload_n 0, 1) := by decide +kernel
theorem dX8_find_184 : decode cX8_find 184 = .ok (.getfield 69, 3) := by decide +kernel
theorem dX8_find_187 : decode cX8_find 187 = .ok (.iload 5, 2) := by decide +kernel
theorem dX8_find_189 : decode cX8_find 189 = .ok (.aload_n 0, 1) := by decide +kernel
theorem dX8_find_190 : decode cX8_find 190 = .ok (.getfield 280, 3) := by decide +kernel
theorem dX8_find_193 : decode cX8_find 193 = .ok (.iload 5, 2) := by decide +kernel
theorem dX8_find_195 : decode cX8_find 195 = .ok (.iadd, 1) := by decide +kernel
theorem dX8_find_196 : decode cX8_find 196 = .ok (.iastore, 1) := by decide +kernel
theorem dX8_find_197 : decode cX8_find 197 = .ok (.iinc 5 1, 3) := by decide +kernel
theorem dX8_find_200 : decode cX8_find 200 = .ok (.goto (-26), 3) := by decide +kernel
theorem dX8_find_203 : decode cX8_find 203 = .ok (.aload_n 0, 1) := by decide +kernel
theorem dX8_find_204 : decode cX8_find 204 = .ok (.invokevirtual 308, 3) := by decide +kernel
theorem dX8_find_207 : decode cX8_find 207 = .ok (.ifCond .ne 5, 3) := by decide +kernel
theorem dX8_find_210 : decode cX8_find 210 = .ok (.iconst 0, 1) := by decide +kernel
theorem dX8_find_211 : decode cX8_find 211 = .ok (.ireturn, 1) := by decide +kernel
theorem dX8_find_212 : decode cX8_find 212 = .ok (.aload_n 0, 1) := by decide +kernel
theorem dX8_find_213 : decode cX8_find 213 = .ok (.ldc2_w 268, 3) := by decide +kernel
theorem dX8_find_216 : decode cX8_find 216 = .ok (.iload 4, 2) := by decide +kernel
theorem dX8_find_218 : decode cX8_find 218 = .ok (.i2l, 1) := by decide +kernel
theorem dX8_find_219 : decode cX8_find 219 = .ok (.lmul, 1) := by decide +kernel
theorem dX8_find_220 : decode cX8_find 220 = .ok (.aload_n 0, 1) := by decide +kernel
theorem dX8_find_221 : decode cX8_find 221 = .ok (.getfield 283, 3) := by decide +kernel
theorem dX8_find_224 : decode cX8_find 224 = .ok (.lmul, 1) := by decide +kernel
theorem dX8_find_225 : decode cX8_find 225 = .ok (.iload_n 2, 1) := by decide +kernel
theorem dX8_find_226 : decode cX8_find 226 = .ok (.i2l, 1) := by decide +kernel
theorem dX8_find_227 : decode cX8_find 227 = .ok (.aload_n 0, 1) := by decide +kernel
theorem dX8_find_228 : decode cX8_find 228 = .ok (.aload_n 0, 1) := by decide +kernel
theorem dX8_find_229 : decode cX8_find 229 = .ok (.getfield 277, 3) := by decide +kernel
theorem dX8_find_232 : decode cX8_find 232 = .ok (.aload_n 0, 1) := by decide +kernel
theorem dX8_find_233 : decode cX8_find 233 = .ok (.getfield 280, 3) := by decide +kernel
theorem dX8_find_236 : decode cX8_find 236 = .ok (.invokevirtual 273, 3) := by decide +kernel
theorem dX8_find_239 : decode cX8_find 239 = .ok (.lmul, 1) := by decide +kernel
theorem dX8_find_240 : decode cX8_find 240 = .ok (.ladd, 1) := by decide +kernel
theorem dX8_find_241 : decode cX8_find 241 = .ok (.putfield 312, 3) := by decide +kernel
theorem dX8_find_244 : decode cX8_find 244 = .ok (.aload_n 0, 1) := by decide +kernel
theorem dX8_find_245 : decode cX8_find 245 = .ok (.aload_n 0, 1) := by decide +kernel
theorem dX8_find_246 : decode cX8_find 246 = .ok (.getfield 283, 3) := by decide +kernel
theorem dX8_find_249 : decode cX8_find 249 = .ok (.putfield 315, 3) := by decide +kernel
theorem dX8_find_252 : decode cX8_find 252 = .ok (.iconst 1, 1) := by decide +kernel
theorem dX8_find_253 : decode cX8_find 253 = .ok (.ireturn, 1) := by decide +kernel
theorem dX8_worldsOf_0 : decode cX8_worldsOf 0 = .ok (.iconst 0, 1) := by decide +kernel
theorem dX8_worldsOf_1 : decode cX8_worldsOf 1 = .ok (.istore_n 2, 1) := by decide +kernel
theorem dX8_worldsOf_2 : decode cX8_worldsOf 2 = .ok (.iconst 0, 1) := by decide +kernel
theorem dX8_worldsOf_3 : decode cX8_worldsOf 3 = .ok (.istore_n 3, 1) := by decide +kernel
theorem dX8_worldsOf_4 : decode cX8_worldsOf 4 = .ok (.iload_n 3, 1) := by decide +kernel
theorem dX8_worldsOf_5 : decode cX8_worldsOf 5 = .ok (.aload_n 0, 1) := by decide +kernel
theorem dX8_worldsOf_6 : decode cX8_worldsOf 6 = .ok (.getfield 270, 3) := by decide +kernel
theorem dX8_worldsOf_9 : decode cX8_worldsOf 9 = .ok (.if_icmp .ge 20, 3) := by decide +kernel
theorem dX8_worldsOf_12 : decode cX8_worldsOf 12 = .ok (.iload_n 2, 1) := by decide +kernel
theorem dX8_worldsOf_13 : decode cX8_worldsOf 13 = .ok (.iconst 1, 1) := by decide +kernel
theorem dX8_worldsOf_14 : decode cX8_worldsOf 14 = .ok (.aload_n 0, 1) := by decide +kernel
theorem dX8_worldsOf_15 : decode cX8_worldsOf 15 = .ok (.getfield 53, 3) := by decide +kernel
theorem dX8_worldsOf_18 : decode cX8_worldsOf 18 = .ok (.iload_n 3, 1) := by decide +kernel
theorem dX8_worldsOf_19 : decode cX8_worldsOf 19 = .ok (.iaload, 1) := by decide +kernel
theorem dX8_worldsOf_20 : decode cX8_worldsOf 20 = .ok (.ishl, 1) := by decide +kernel
theorem dX8_worldsOf_21 : decode cX8_worldsOf 21 = .ok (.ior, 1) := by decide +kernel
theorem dX8_worldsOf_22 : decode cX8_worldsOf 22 = .ok (.istore_n 2, 1) := by decide +kernel
theorem dX8_worldsOf_23 : decode cX8_worldsOf 23 = .ok (.iinc 3 1, 3) := by decide +kernel
theorem dX8_worldsOf_26 : decode cX8_worldsOf 26 = .ok (.goto (-22), 3) := by decide +kernel
theorem dX8_worldsOf_29 : decode cX8_worldsOf 29 = .ok (.iconst 0, 1) := by decide +kernel
theorem dX8_worldsOf_30 : decode cX8_worldsOf 30 = .ok (.istore_n 3, 1) := by decide +kernel
theorem dX8_worldsOf_31 : decode cX8_worldsOf 31 = .ok (.iconst 0, 1) := by decide +kernel
theorem dX8_worldsOf_32 : decode cX8_worldsOf 32 = .ok (.istore 4, 2) := by decide +kernel
theorem dX8_worldsOf_34 : decode cX8_worldsOf 34 = .ok (.iload 4, 2) := by decide +kernel
theorem dX8_worldsOf_36 : decode cX8_worldsOf 36 = .ok (.iconst 1, 1) := by decide +kernel
theorem dX8_worldsOf_37 : decode cX8_worldsOf 37 = .ok (.aload_n 0, 1) := by decide +kernel
theorem dX8_worldsOf_38 : decode cX8_worldsOf 38 = .ok (.getfield 270, 3) := by decide +kernel
theorem dX8_worldsOf_41 : decode cX8_worldsOf 41 = .ok (.ishl, 1) := by decide +kernel
theorem dX8_worldsOf_42 : decode cX8_worldsOf 42 = .ok (.if_icmp .ge 93, 3) := by decide +kernel
theorem dX8_worldsOf_45 : decode cX8_worldsOf 45 = .ok (.aload_n 0, 1) := by decide +kernel
theorem dX8_worldsOf_46 : decode cX8_worldsOf 46 = .ok (.invokevirtual 225, 3) := by decide +kernel
theorem dX8_worldsOf_49 : decode cX8_worldsOf 49 = .ok (.iload_n 2, 1) := by decide +kernel
theorem dX8_worldsOf_50 : decode cX8_worldsOf 50 = .ok (.iconst (-1), 1) := by decide +kernel
theorem dX8_worldsOf_51 : decode cX8_worldsOf 51 = .ok (.ixor, 1) := by decide +kernel
theorem dX8_worldsOf_52 : decode cX8_worldsOf 52 = .ok (.iand, 1) := by decide +kernel
theorem dX8_worldsOf_53 : decode cX8_worldsOf 53 = .ok (.istore 5, 2) := by decide +kernel
theorem dX8_worldsOf_55 : decode cX8_worldsOf 55 = .ok (.iconst 0, 1) := by decide +kernel
theorem dX8_worldsOf_56 : decode cX8_worldsOf 56 = .ok (.istore 6, 2) := by decide +kernel
theorem dX8_worldsOf_58 : decode cX8_worldsOf 58 = .ok (.iload 6, 2) := by decide +kernel
theorem dX8_worldsOf_60 : decode cX8_worldsOf 60 = .ok (.aload_n 0, 1) := by decide +kernel
theorem dX8_worldsOf_61 : decode cX8_worldsOf 61 = .ok (.getfield 270, 3) := by decide +kernel
theorem dX8_worldsOf_64 : decode cX8_worldsOf 64 = .ok (.if_icmp .ge 38, 3) := by decide +kernel
theorem dX8_worldsOf_67 : decode cX8_worldsOf 67 = .ok (.iload 5, 2) := by decide +kernel
theorem dX8_worldsOf_69 : decode cX8_worldsOf 69 = .ok (.iload 4, 2) := by decide +kernel
theorem dX8_worldsOf_71 : decode cX8_worldsOf 71 = .ok (.iload 6, 2) := by decide +kernel
theorem dX8_worldsOf_73 : decode cX8_worldsOf 73 = .ok (.ishr, 1) := by decide +kernel
theorem dX8_worldsOf_74 : decode cX8_worldsOf 74 = .ok (.iconst 1, 1) := by decide +kernel
theorem dX8_worldsOf_75 : decode cX8_worldsOf 75 = .ok (.iand, 1) := by decide +kernel
theorem dX8_worldsOf_76 : decode cX8_worldsOf 76 = .ok (.iconst 1, 1) := by decide +kernel
theorem dX8_worldsOf_77 : decode cX8_worldsOf 77 = .ok (.if_icmp .ne 15, 3) := by decide +kernel
theorem dX8_worldsOf_80 : decode cX8_worldsOf 80 = .ok (.iconst 1, 1) := by decide +kernel
theorem dX8_worldsOf_81 : decode cX8_worldsOf 81 = .ok (.aload_n 0, 1) := by decide +kernel
theorem dX8_worldsOf_82 : decode cX8_worldsOf 82 = .ok (.getfield 53, 3) := by decide +kernel
theorem dX8_worldsOf_85 : decode cX8_worldsOf 85 = .ok (.iload 6, 2) := by decide +kernel
theorem dX8_worldsOf_87 : decode cX8_worldsOf 87 = .ok (.iaload, 1) := by decide +kernel
theorem dX8_worldsOf_88 : decode cX8_worldsOf 88 = .ok (.ishl, 1) := by decide +kernel
theorem dX8_worldsOf_89 : decode cX8_worldsOf 89 = .ok (.goto 4, 3) := by decide +kernel
theorem dX8_worldsOf_92 : decode cX8_worldsOf 92 = .ok (.iconst 0, 1) := by decide +kernel
theorem dX8_worldsOf_93 : decode cX8_worldsOf 93 = .ok (.ior, 1) := by decide +kernel
theorem dX8_worldsOf_94 : decode cX8_worldsOf 94 = .ok (.istore 5, 2) := by decide +kernel
theorem dX8_worldsOf_96 : decode cX8_worldsOf 96 = .ok (.iinc 6 1, 3) := by decide +kernel
theorem dX8_worldsOf_99 : decode cX8_worldsOf 99 = .ok (.goto (-41), 3) := by decide +kernel
theorem dX8_worldsOf_102 : decode cX8_worldsOf 102 = .ok (.iload_n 3, 1) := by decide +kernel
theorem dX8_worldsOf_103 : decode cX8_worldsOf 103 = .ok (.aload_n 0, 1) := by decide +kernel
theorem dX8_worldsOf_104 : decode cX8_worldsOf 104 = .ok (.iload 5, 2) := by decide +kernel
theorem dX8_worldsOf_106 : decode cX8_worldsOf 106 = .ok (.ldc 114, 2) := by decide +kernel
theorem dX8_worldsOf_108 : decode cX8_worldsOf 108 = .ok (.invokevirtual 228, 3) := by decide +kernel
theorem dX8_worldsOf_111 : decode cX8_worldsOf 111 = .ok (.iload_n 1, 1) := by decide +kernel
theorem dX8_worldsOf_112 : decode cX8_worldsOf 112 = .ok (.ishr, 1) := by decide +kernel
theorem dX8_worldsOf_113 : decode cX8_worldsOf 113 = .ok (.iconst 1, 1) := by decide +kernel
theorem dX8_worldsOf_114 : decode cX8_worldsOf 114 = .ok (.iand, 1) := by decide +kernel
theorem dX8_worldsOf_115 : decode cX8_worldsOf 115 = .ok (.iconst 1, 1) := by decide +kernel
theorem dX8_worldsOf_116 : decode cX8_worldsOf 116 = .ok (.if_icmp .ne 10, 3) := by decide +kernel
theorem dX8_worldsOf_119 : decode cX8_worldsOf 119 = .ok (.iconst 1, 1) := by decide +kernel
theorem dX8_worldsOf_120 : decode cX8_worldsOf 120 = .ok (.iload 4, 2) := by decide +kernel
theorem dX8_worldsOf_122 : decode cX8_worldsOf 122 = .ok (.ishl, 1) := by decide +kernel
theorem dX8_worldsOf_123 : decode cX8_worldsOf 123 = .ok (.goto 4, 3) := by decide +kernel
theorem dX8_worldsOf_126 : decode cX8_worldsOf 126 = .ok (.iconst 0, 1) := by decide +kernel
theorem dX8_worldsOf_127 : decode cX8_worldsOf 127 = .ok (.ior, 1) := by decide +kernel
theorem dX8_worldsOf_128 : decode cX8_worldsOf 128 = .ok (.istore_n 3, 1) := by decide +kernel
theorem dX8_worldsOf_129 : decode cX8_worldsOf 129 = .ok (.iinc 4 1, 3) := by decide +kernel
theorem dX8_worldsOf_132 : decode cX8_worldsOf 132 = .ok (.goto (-98), 3) := by decide +kernel
theorem dX8_worldsOf_135 : decode cX8_worldsOf 135 = .ok (.iload_n 3, 1) := by decide +kernel
theorem dX8_worldsOf_136 : decode cX8_worldsOf 136 = .ok (.ireturn, 1) := by decide +kernel
theorem dX8_agree_0 : decode cX8_agree 0 = .ok (.aload_n 0, 1) := by decide +kernel
theorem dX8_agree_1 : decode cX8_agree 1 = .ok (.iconst 0, 1) := by decide +kernel
theorem dX8_agree_2 : decode cX8_agree 2 = .ok (.putfield 78, 3) := by decide +kernel
theorem dX8_agree_5 : decode cX8_agree 5 = .ok (.aload_n 0, 1) := by decide +kernel
theorem dX8_agree_6 : decode cX8_agree 6 = .ok (.iconst 0, 1) := by decide +kernel
theorem dX8_agree_7 : decode cX8_agree 7 = .ok (.iconst 1, 1) := by decide +kernel
theorem dX8_agree_8 : decode cX8_agree 8 = .ok (.ldc 114, 2) := by decide +kernel
theorem dX8_agree_10 : decode cX8_agree 10 = .ok (.invokevirtual 318, 3) := by decide +kernel
theorem dX8_agree_13 : decode cX8_agree 13 = .ok (.ifCond .eq 7, 3) := by decide +kernel
theorem dX8_agree_16 : decode cX8_agree 16 = .ok (.iconst 1, 1) := by decide +kernel
theorem dX8_agree_17 : decode cX8_agree 17 = .ok (.goto 4, 3) := by decide +kernel
theorem dX8_agree_20 : decode cX8_agree 20 = .ok (.iconst 0, 1) := by decide +kernel
theorem dX8_agree_21 : decode cX8_agree 21 = .ok (.ireturn, 1) := by decide +kernel
theorem dX8_odds_0 : decode cX8_odds 0 = .ok (.aload_n 0, 1) := by decide +kernel
theorem dX8_odds_1 : decode cX8_odds 1 = .ok (.iconst 0, 1) := by decide +kernel
theorem dX8_odds_2 : decode cX8_odds 2 = .ok (.putfield 78, 3) := by decide +kernel
theorem dX8_odds_5 : decode cX8_odds 5 = .ok (.aload_n 0, 1) := by decide +kernel
theorem dX8_odds_6 : decode cX8_odds 6 = .ok (.iload_n 1, 1) := by decide +kernel
theorem dX8_odds_7 : decode cX8_odds 7 = .ok (.invokevirtual 244, 3) := by decide +kernel
theorem dX8_odds_10 : decode cX8_odds 10 = .ok (.ifCond .eq 15, 3) := by decide +kernel
theorem dX8_odds_13 : decode cX8_odds 13 = .ok (.iload_n 2, 1) := by decide +kernel
theorem dX8_odds_14 : decode cX8_odds 14 = .ok (.i2l, 1) := by decide +kernel
theorem dX8_odds_15 : decode cX8_odds 15 = .ok (.lconst 0, 1) := by decide +kernel
theorem dX8_odds_16 : decode cX8_odds 16 = .ok (.ldc2_w 322, 3) := by decide +kernel
theorem dX8_odds_19 : decode cX8_odds 19 = .ok (.invokestatic 88, 3) := by decide +kernel
theorem dX8_odds_22 : decode cX8_odds 22 = .ok (.ifCond .ne 6, 3) := by decide +kernel
theorem dX8_odds_25 : decode cX8_odds 25 = .ok (.ldc 98, 2) := by decide +kernel
theorem dX8_odds_27 : decode cX8_odds 27 = .ok (.ireturn, 1) := by decide +kernel
theorem dX8_odds_28 : decode cX8_odds 28 = .ok (.aload_n 0, 1) := by decide +kernel
theorem dX8_odds_29 : decode cX8_odds 29 = .ok (.aload_n 0, 1) := by decide +kernel
theorem dX8_odds_30 : decode cX8_odds 30 = .ok (.iload_n 1, 1) := by decide +kernel
theorem dX8_odds_31 : decode cX8_odds 31 = .ok (.invokevirtual 324, 3) := by decide +kernel
theorem dX8_odds_34 : decode cX8_odds 34 = .ok (.iload_n 2, 1) := by decide +kernel
theorem dX8_odds_35 : decode cX8_odds 35 = .ok (.iconst 2, 1) := by decide +kernel
theorem dX8_odds_36 : decode cX8_odds 36 = .ok (.if_icmp .ge 7, 3) := by decide +kernel
theorem dX8_odds_39 : decode cX8_odds 39 = .ok (.iconst (-1), 1) := by decide +kernel
theorem dX8_odds_40 : decode cX8_odds 40 = .ok (.goto 4, 3) := by decide +kernel
theorem dX8_odds_43 : decode cX8_odds 43 = .ok (.iconst 1, 1) := by decide +kernel
theorem dX8_odds_44 : decode cX8_odds 44 = .ok (.ldc 114, 2) := by decide +kernel
theorem dX8_odds_46 : decode cX8_odds 46 = .ok (.invokevirtual 318, 3) := by decide +kernel
theorem dX8_odds_49 : decode cX8_odds 49 = .ok (.ifCond .ne 6, 3) := by decide +kernel
theorem dX8_odds_52 : decode cX8_odds 52 = .ok (.ldc 247, 2) := by decide +kernel
theorem dX8_odds_54 : decode cX8_odds 54 = .ok (.ireturn, 1) := by decide +kernel
theorem dX8_odds_55 : decode cX8_odds 55 = .ok (.ldc2_w 268, 3) := by decide +kernel
theorem dX8_odds_58 : decode cX8_odds 58 = .ok (.aload_n 0, 1) := by decide +kernel
theorem dX8_odds_59 : decode cX8_odds 59 = .ok (.getfield 315, 3) := by decide +kernel
theorem dX8_odds_62 : decode cX8_odds 62 = .ok (.lmul, 1) := by decide +kernel
theorem dX8_odds_63 : decode cX8_odds 63 = .ok (.lstore_n 3, 1) := by decide +kernel
theorem dX8_odds_64 : decode cX8_odds 64 = .ok (.aload_n 0, 1) := by decide +kernel
theorem dX8_odds_65 : decode cX8_odds 65 = .ok (.getfield 312, 3) := by decide +kernel
theorem dX8_odds_68 : decode cX8_odds 68 = .ok (.lstore 5, 2) := by decide +kernel
theorem dX8_odds_70 : decode cX8_odds 70 = .ok (.lload_n 3, 1) := by decide +kernel
theorem dX8_odds_71 : decode cX8_odds 71 = .ok (.lstore 7, 2) := by decide +kernel
theorem dX8_odds_73 : decode cX8_odds 73 = .ok (.lload 7, 2) := by decide +kernel
theorem dX8_odds_75 : decode cX8_odds 75 = .ok (.lconst 0, 1) := by decide +kernel
theorem dX8_odds_76 : decode cX8_odds 76 = .ok (.lcmp, 1) := by decide +kernel
theorem dX8_odds_77 : decode cX8_odds 77 = .ok (.ifCond .eq 21, 3) := by decide +kernel
theorem dX8_odds_80 : decode cX8_odds 80 = .ok (.lload 5, 2) := by decide +kernel
theorem dX8_odds_82 : decode cX8_odds 82 = .ok (.lload 7, 2) := by decide +kernel
theorem dX8_odds_84 : decode cX8_odds 84 = .ok (.lrem, 1) := by decide +kernel
theorem dX8_odds_85 : decode cX8_odds 85 = .ok (.lstore 9, 2) := by decide +kernel
theorem dX8_odds_87 : decode cX8_odds 87 = .ok (.lload 7, 2) := by decide +kernel
theorem dX8_odds_89 : decode cX8_odds 89 = .ok (.lstore 5, 2) := by decide +kernel
theorem dX8_odds_91 : decode cX8_odds 91 = .ok (.lload 9, 2) := by decide +kernel
theorem dX8_odds_93 : decode cX8_odds 93 = .ok (.lstore 7, 2) := by decide +kernel
theorem dX8_odds_95 : decode cX8_odds 95 = .ok (.goto (-22), 3) := by decide +kernel
theorem dX8_odds_98 : decode cX8_odds 98 = .ok (.iload_n 2, 1) := by decide +kernel
theorem dX8_odds_99 : decode cX8_odds 99 = .ok (.iconst 2, 1) := by decide +kernel
theorem dX8_odds_100 : decode cX8_odds 100 = .ok (.irem, 1) := by decide +kernel
theorem dX8_odds_101 : decode cX8_odds 101 = .ok (.ifCond .ne 10, 3) := by decide +kernel
theorem dX8_odds_104 : decode cX8_odds 104 = .ok (.aload_n 0, 1) := by decide +kernel
theorem dX8_odds_105 : decode cX8_odds 105 = .ok (.getfield 312, 3) := by decide +kernel
theorem dX8_odds_108 : decode cX8_odds 108 = .ok (.goto 4, 3) := by decide +kernel
theorem dX8_odds_111 : decode cX8_odds 111 = .ok (.lload_n 3, 1) := by decide +kernel
theorem dX8_odds_112 : decode cX8_odds 112 = .ok (.lload 5, 2) := by decide +kernel
theorem dX8_odds_114 : decode cX8_odds 114 = .ok (.ldiv, 1) := by decide +kernel
theorem dX8_odds_115 : decode cX8_odds 115 = .ok (.l2i, 1) := by decide +kernel
theorem dX8_odds_116 : decode cX8_odds 116 = .ok (.ireturn, 1) := by decide +kernel
theorem dX8_raise_0 : decode cX8_raise 0 = .ok (.aload_n 0, 1) := by decide +kernel
theorem dX8_raise_1 : decode cX8_raise 1 = .ok (.iconst 0, 1) := by decide +kernel
theorem dX8_raise_2 : decode cX8_raise 2 = .ok (.putfield 78, 3) := by decide +kernel
theorem dX8_raise_5 : decode cX8_raise 5 = .ok (.aload_n 0, 1) := by decide +kernel
theorem dX8_raise_6 : decode cX8_raise 6 = .ok (.iload_n 1, 1) := by decide +kernel
theorem dX8_raise_7 : decode cX8_raise 7 = .ok (.invokevirtual 244, 3) := by decide +kernel
theorem dX8_raise_10 : decode cX8_raise 10 = .ok (.ifCond .ne 6, 3) := by decide +kernel
theorem dX8_raise_13 : decode cX8_raise 13 = .ok (.ldc 98, 2) := by decide +kernel
theorem dX8_raise_15 : decode cX8_raise 15 = .ok (.ireturn, 1) := by decide +kernel
theorem dX8_raise_16 : decode cX8_raise 16 = .ok (.aload_n 0, 1) := by decide +kernel
theorem dX8_raise_17 : decode cX8_raise 17 = .ok (.iload_n 1, 1) := by decide +kernel
theorem dX8_raise_18 : decode cX8_raise 18 = .ok (.invokevirtual 324, 3) := by decide +kernel
theorem dX8_raise_21 : decode cX8_raise 21 = .ok (.istore_n 2, 1) := by decide +kernel
theorem dX8_raise_22 : decode cX8_raise 22 = .ok (.aload_n 0, 1) := by decide +kernel
theorem dX8_raise_23 : decode cX8_raise 23 = .ok (.iload_n 2, 1) := by decide +kernel
theorem dX8_raise_24 : decode cX8_raise 24 = .ok (.iconst (-1), 1) := by decide +kernel
theorem dX8_raise_25 : decode cX8_raise 25 = .ok (.ldc 114, 2) := by decide +kernel
theorem dX8_raise_27 : decode cX8_raise 27 = .ok (.invokevirtual 318, 3) := by decide +kernel
theorem dX8_raise_30 : decode cX8_raise 30 = .ok (.ifCond .ne 6, 3) := by decide +kernel
theorem dX8_raise_33 : decode cX8_raise 33 = .ok (.ldc 247, 2) := by decide +kernel
theorem dX8_raise_35 : decode cX8_raise 35 = .ok (.ireturn, 1) := by decide +kernel
theorem dX8_raise_36 : decode cX8_raise 36 = .ok (.aload_n 0, 1) := by decide +kernel
theorem dX8_raise_37 : decode cX8_raise 37 = .ok (.getfield 312, 3) := by decide +kernel
theorem dX8_raise_40 : decode cX8_raise 40 = .ok (.lstore_n 3, 1) := by decide +kernel
theorem dX8_raise_41 : decode cX8_raise 41 = .ok (.aload_n 0, 1) := by decide +kernel
theorem dX8_raise_42 : decode cX8_raise 42 = .ok (.getfield 315, 3) := by decide +kernel
theorem dX8_raise_45 : decode cX8_raise 45 = .ok (.lstore 5, 2) := by decide +kernel
theorem dX8_raise_47 : decode cX8_raise 47 = .ok (.ldc 114, 2) := by decide +kernel
theorem dX8_raise_49 : decode cX8_raise 49 = .ok (.istore 7, 2) := by decide +kernel
theorem dX8_raise_51 : decode cX8_raise 51 = .ok (.iconst 0, 1) := by decide +kernel
theorem dX8_raise_52 : decode cX8_raise 52 = .ok (.istore 8, 2) := by decide +kernel
theorem dX8_raise_54 : decode cX8_raise 54 = .ok (.iload 8, 2) := by decide +kernel
theorem dX8_raise_56 : decode cX8_raise 56 = .ok (.aload_n 0, 1) := by decide +kernel
theorem dX8_raise_57 : decode cX8_raise 57 = .ok (.getfield 270, 3) := by decide +kernel
theorem dX8_raise_60 : decode cX8_raise 60 = .ok (.if_icmp .ge 57, 3) := by decide +kernel
theorem dX8_raise_63 : decode cX8_raise 63 = .ok (.aload_n 0, 1) := by decide +kernel
theorem dX8_raise_64 : decode cX8_raise 64 = .ok (.iload_n 2, 1) := by decide +kernel
theorem dX8_raise_65 : decode cX8_raise 65 = .ok (.iconst (-1), 1) := by decide +kernel
theorem dX8_raise_66 : decode cX8_raise 66 = .ok (.iload 8, 2) := by decide +kernel
theorem dX8_raise_68 : decode cX8_raise 68 = .ok (.invokevirtual 318, 3) := by decide +kernel
theorem dX8_raise_71 : decode cX8_raise 71 = .ok (.ifCond .eq 40, 3) := by decide +kernel
theorem dX8_raise_74 : decode cX8_raise 74 = .ok (.aload_n 0, 1) := by decide +kernel
theorem dX8_raise_75 : decode cX8_raise 75 = .ok (.getfield 312, 3) := by decide +kernel
theorem dX8_raise_78 : decode cX8_raise 78 = .ok (.lload 5, 2) := by decide +kernel
theorem dX8_raise_80 : decode cX8_raise 80 = .ok (.lmul, 1) := by decide +kernel
theorem dX8_raise_81 : decode cX8_raise 81 = .ok (.lload_n 3, 1) := by decide +kernel
theorem dX8_raise_82 : decode cX8_raise 82 = .ok (.aload_n 0, 1) := by decide +kernel
theorem dX8_raise_83 : decode cX8_raise 83 = .ok (.getfield 315, 3) := by decide +kernel
theorem dX8_raise_86 : decode cX8_raise 86 = .ok (.lmul, 1) := by decide +kernel
theorem dX8_raise_87 : decode cX8_raise 87 = .ok (.lcmp, 1) := by decide +kernel
theorem dX8_raise_88 : decode cX8_raise 88 = .ok (.ifCond .le 23, 3) := by decide +kernel
theorem dX8_raise_91 : decode cX8_raise 91 = .ok (.aload_n 0, 1) := by decide +kernel
theorem dX8_raise_92 : decode cX8_raise 92 = .ok (.getfield 53, 3) := by decide +kernel
theorem dX8_raise_95 : decode cX8_raise 95 = .ok (.iload 8, 2) := by decide +kernel
theorem dX8_raise_97 : decode cX8_raise 97 = .ok (.iaload, 1) := by decide +kernel
theorem dX8_raise_98 : decode cX8_raise 98 = .ok (.istore 7, 2) := by decide +kernel
theorem dX8_raise_100 : decode cX8_raise 100 = .ok (.aload_n 0, 1) := by decide +kernel
theorem dX8_raise_101 : decode cX8_raise 101 = .ok (.getfield 312, 3) := by decide +kernel
theorem dX8_raise_104 : decode cX8_raise 104 = .ok (.lstore_n 3, 1) := by decide +kernel
theorem dX8_raise_105 : decode cX8_raise 105 = .ok (.aload_n 0, 1) := by decide +kernel
theorem dX8_raise_106 : decode cX8_raise 106 = .ok (.getfield 315, 3) := by decide +kernel
theorem dX8_raise_109 : decode cX8_raise 109 = .ok (.lstore 5, 2) := by decide +kernel
theorem dX8_raise_111 : decode cX8_raise 111 = .ok (.iinc 8 1, 3) := by decide +kernel
theorem dX8_raise_114 : decode cX8_raise 114 = .ok (.goto (-60), 3) := by decide +kernel
theorem dX8_raise_117 : decode cX8_raise 117 = .ok (.iload 7, 2) := by decide +kernel
theorem dX8_raise_119 : decode cX8_raise 119 = .ok (.ireturn, 1) := by decide +kernel
theorem dX8_partsIn_0 : decode cX8_partsIn 0 = .ok (.iconst 0, 1) := by decide +kernel
theorem dX8_partsIn_1 : decode cX8_partsIn 1 = .ok (.istore_n 2, 1) := by decide +kernel
theorem dX8_partsIn_2 : decode cX8_partsIn 2 = .ok (.iconst 0, 1) := by decide +kernel
theorem dX8_partsIn_3 : decode cX8_partsIn 3 = .ok (.istore_n 3, 1) := by decide +kernel
theorem dX8_partsIn_4 : decode cX8_partsIn 4 = .ok (.iload_n 3, 1) := by decide +kernel
theorem dX8_partsIn_5 : decode cX8_partsIn 5 = .ok (.aload_n 0, 1) := by decide +kernel
theorem dX8_partsIn_6 : decode cX8_partsIn 6 = .ok (.getfield 188, 3) := by decide +kernel
theorem dX8_partsIn_9 : decode cX8_partsIn 9 = .ok (.if_icmp .ge 26, 3) := by decide +kernel
theorem dX8_partsIn_12 : decode cX8_partsIn 12 = .ok (.iload_n 2, 1) := by decide +kernel
theorem dX8_partsIn_13 : decode cX8_partsIn 13 = .ok (.aload_n 0, 1) := by decide +kernel
theorem dX8_partsIn_14 : decode cX8_partsIn 14 = .ok (.iload_n 3, 1) := by decide +kernel
theorem dX8_partsIn_15 : decode cX8_partsIn 15 = .ok (.iload_n 1, 1) := by decide +kernel
theorem dX8_partsIn_16 : decode cX8_partsIn 16 = .ok (.invokevirtual 181, 3) := by decide +kernel
theorem dX8_partsIn_19 : decode cX8_partsIn 19 = .ok (.ifCond .eq 7, 3) := by decide +kernel
theorem dX8_partsIn_22 : decode cX8_partsIn 22 = .ok (.iconst 1, 1) := by decide +kernel
theorem dX8_partsIn_23 : decode cX8_partsIn 23 = .ok (.goto 4, 3) := by decide +kernel
theorem dX8_partsIn_26 : decode cX8_partsIn 26 = .ok (.iconst 0, 1) := by decide +kernel
theorem dX8_partsIn_27 : decode cX8_partsIn 27 = .ok (.iadd, 1) := by decide +kernel
theorem dX8_partsIn_28 : decode cX8_partsIn 28 = .ok (.istore_n 2, 1) := by decide +kernel
theorem dX8_partsIn_29 : decode cX8_partsIn 29 = .ok (.iinc 3 1, 3) := by decide +kernel
theorem dX8_partsIn_32 : decode cX8_partsIn 32 = .ok (.goto (-28), 3) := by decide +kernel
theorem dX8_partsIn_35 : decode cX8_partsIn 35 = .ok (.iload_n 2, 1) := by decide +kernel
theorem dX8_partsIn_36 : decode cX8_partsIn 36 = .ok (.ireturn, 1) := by decide +kernel
theorem dX8_heldBy_0 : decode cX8_heldBy 0 = .ok (.iconst 0, 1) := by decide +kernel
theorem dX8_heldBy_1 : decode cX8_heldBy 1 = .ok (.istore_n 2, 1) := by decide +kernel
theorem dX8_heldBy_2 : decode cX8_heldBy 2 = .ok (.iconst 0, 1) := by decide +kernel
theorem dX8_heldBy_3 : decode cX8_heldBy 3 = .ok (.istore_n 3, 1) := by decide +kernel
theorem dX8_heldBy_4 : decode cX8_heldBy 4 = .ok (.iload_n 3, 1) := by decide +kernel
theorem dX8_heldBy_5 : decode cX8_heldBy 5 = .ok (.aload_n 0, 1) := by decide +kernel
theorem dX8_heldBy_6 : decode cX8_heldBy 6 = .ok (.getfield 188, 3) := by decide +kernel
theorem dX8_heldBy_9 : decode cX8_heldBy 9 = .ok (.if_icmp .ge 27, 3) := by decide +kernel
theorem dX8_heldBy_12 : decode cX8_heldBy 12 = .ok (.iload_n 2, 1) := by decide +kernel
theorem dX8_heldBy_13 : decode cX8_heldBy 13 = .ok (.aload_n 0, 1) := by decide +kernel
theorem dX8_heldBy_14 : decode cX8_heldBy 14 = .ok (.getfield 38, 3) := by decide +kernel
theorem dX8_heldBy_17 : decode cX8_heldBy 17 = .ok (.iload_n 3, 1) := by decide +kernel
theorem dX8_heldBy_18 : decode cX8_heldBy 18 = .ok (.iaload, 1) := by decide +kernel
theorem dX8_heldBy_19 : decode cX8_heldBy 19 = .ok (.iload_n 1, 1) := by decide +kernel
theorem dX8_heldBy_20 : decode cX8_heldBy 20 = .ok (.if_icmp .ne 7, 3) := by decide +kernel
theorem dX8_heldBy_23 : decode cX8_heldBy 23 = .ok (.iconst 1, 1) := by decide +kernel
theorem dX8_heldBy_24 : decode cX8_heldBy 24 = .ok (.goto 4, 3) := by decide +kernel
theorem dX8_heldBy_27 : decode cX8_heldBy 27 = .ok (.iconst 0, 1) := by decide +kernel
theorem dX8_heldBy_28 : decode cX8_heldBy 28 = .ok (.iadd, 1) := by decide +kernel
theorem dX8_heldBy_29 : decode cX8_heldBy 29 = .ok (.istore_n 2, 1) := by decide +kernel
theorem dX8_heldBy_30 : decode cX8_heldBy 30 = .ok (.iinc 3 1, 3) := by decide +kernel
theorem dX8_heldBy_33 : decode cX8_heldBy 33 = .ok (.goto (-29), 3) := by decide +kernel
theorem dX8_heldBy_36 : decode cX8_heldBy 36 = .ok (.iload_n 2, 1) := by decide +kernel
theorem dX8_heldBy_37 : decode cX8_heldBy 37 = .ok (.ireturn, 1) := by decide +kernel
theorem dX8_kindOf_0 : decode cX8_kindOf 0 = .ok (.aload_n 0, 1) := by decide +kernel
theorem dX8_kindOf_1 : decode cX8_kindOf 1 = .ok (.getfield 19, 3) := by decide +kernel
theorem dX8_kindOf_4 : decode cX8_kindOf 4 = .ok (.iload_n 1, 1) := by decide +kernel
theorem dX8_kindOf_5 : decode cX8_kindOf 5 = .ok (.iaload, 1) := by decide +kernel
theorem dX8_kindOf_6 : decode cX8_kindOf 6 = .ok (.iconst 2, 1) := by decide +kernel
theorem dX8_kindOf_7 : decode cX8_kindOf 7 = .ok (.if_icmp .ne 19, 3) := by decide +kernel
theorem dX8_kindOf_10 : decode cX8_kindOf 10 = .ok (.aload_n 0, 1) := by decide +kernel
theorem dX8_kindOf_11 : decode cX8_kindOf 11 = .ok (.iload_n 1, 1) := by decide +kernel
theorem dX8_kindOf_12 : decode cX8_kindOf 12 = .ok (.invokevirtual 327, 3) := by decide +kernel
theorem dX8_kindOf_15 : decode cX8_kindOf 15 = .ok (.ifCond .ne 7, 3) := by decide +kernel
theorem dX8_kindOf_18 : decode cX8_kindOf 18 = .ok (.iconst 4, 1) := by decide +kernel
theorem dX8_kindOf_19 : decode cX8_kindOf 19 = .ok (.goto 34, 3) := by decide +kernel
theorem dX8_kindOf_22 : decode cX8_kindOf 22 = .ok (.iconst 3, 1) := by decide +kernel
theorem dX8_kindOf_23 : decode cX8_kindOf 23 = .ok (.goto 30, 3) := by decide +kernel
theorem dX8_kindOf_26 : decode cX8_kindOf 26 = .ok (.aload_n 0, 1) := by decide +kernel
theorem dX8_kindOf_27 : decode cX8_kindOf 27 = .ok (.iload_n 1, 1) := by decide +kernel
theorem dX8_kindOf_28 : decode cX8_kindOf 28 = .ok (.invokevirtual 210, 3) := by decide +kernel
theorem dX8_kindOf_31 : decode cX8_kindOf 31 = .ok (.ifCond .ne 7, 3) := by decide +kernel
theorem dX8_kindOf_34 : decode cX8_kindOf 34 = .ok (.iconst 5, 1) := by decide +kernel
theorem dX8_kindOf_35 : decode cX8_kindOf 35 = .ok (.goto 18, 3) := by decide +kernel
theorem dX8_kindOf_38 : decode cX8_kindOf 38 = .ok (.aload_n 0, 1) := by decide +kernel
theorem dX8_kindOf_39 : decode cX8_kindOf 39 = .ok (.getfield 19, 3) := by decide +kernel
theorem dX8_kindOf_42 : decode cX8_kindOf 42 = .ok (.iload_n 1, 1) := by decide +kernel
theorem dX8_kindOf_43 : decode cX8_kindOf 43 = .ok (.iaload, 1) := by decide +kernel
theorem dX8_kindOf_44 : decode cX8_kindOf 44 = .ok (.iconst 1, 1) := by decide +kernel
theorem dX8_kindOf_45 : decode cX8_kindOf 45 = .ok (.if_icmp .ne 7, 3) := by decide +kernel
theorem dX8_kindOf_48 : decode cX8_kindOf 48 = .ok (.iconst 2, 1) := by decide +kernel
theorem dX8_kindOf_49 : decode cX8_kindOf 49 = .ok (.goto 4, 3) := by decide +kernel
theorem dX8_kindOf_52 : decode cX8_kindOf 52 = .ok (.iconst 1, 1) := by decide +kernel
theorem dX8_kindOf_53 : decode cX8_kindOf 53 = .ok (.ireturn, 1) := by decide +kernel
theorem dX8_isOf_0 : decode cX8_isOf 0 = .ok (.iload_n 1, 1) := by decide +kernel
theorem dX8_isOf_1 : decode cX8_isOf 1 = .ok (.ifCond .eq 33, 3) := by decide +kernel
theorem dX8_isOf_4 : decode cX8_isOf 4 = .ok (.iload_n 0, 1) := by decide +kernel
theorem dX8_isOf_5 : decode cX8_isOf 5 = .ok (.iload_n 1, 1) := by decide +kernel
theorem dX8_isOf_6 : decode cX8_isOf 6 = .ok (.if_icmp .eq 28, 3) := by decide +kernel
theorem dX8_isOf_9 : decode cX8_isOf 9 = .ok (.iload_n 1, 1) := by decide +kernel
theorem dX8_isOf_10 : decode cX8_isOf 10 = .ok (.iconst 1, 1) := by decide +kernel
theorem dX8_isOf_11 : decode cX8_isOf 11 = .ok (.if_icmp .ne 13, 3) := by decide +kernel
theorem dX8_isOf_14 : decode cX8_isOf 14 = .ok (.iload_n 0, 1) := by decide +kernel
theorem dX8_isOf_15 : decode cX8_isOf 15 = .ok (.iconst 2, 1) := by decide +kernel
theorem dX8_isOf_16 : decode cX8_isOf 16 = .ok (.if_icmp .eq 18, 3) := by decide +kernel
theorem dX8_isOf_19 : decode cX8_isOf 19 = .ok (.iload_n 0, 1) := by decide +kernel
theorem dX8_isOf_20 : decode cX8_isOf 20 = .ok (.iconst 5, 1) := by decide +kernel
theorem dX8_isOf_21 : decode cX8_isOf 21 = .ok (.if_icmp .eq 13, 3) := by decide +kernel
theorem dX8_isOf_24 : decode cX8_isOf 24 = .ok (.iload_n 1, 1) := by decide +kernel
theorem dX8_isOf_25 : decode cX8_isOf 25 = .ok (.iconst 3, 1) := by decide +kernel
theorem dX8_isOf_26 : decode cX8_isOf 26 = .ok (.if_icmp .ne 12, 3) := by decide +kernel
theorem dX8_isOf_29 : decode cX8_isOf 29 = .ok (.iload_n 0, 1) := by decide +kernel
theorem dX8_isOf_30 : decode cX8_isOf 30 = .ok (.iconst 4, 1) := by decide +kernel
theorem dX8_isOf_31 : decode cX8_isOf 31 = .ok (.if_icmp .ne 7, 3) := by decide +kernel
theorem dX8_isOf_34 : decode cX8_isOf 34 = .ok (.iconst 1, 1) := by decide +kernel
theorem dX8_isOf_35 : decode cX8_isOf 35 = .ok (.goto 4, 3) := by decide +kernel
theorem dX8_isOf_38 : decode cX8_isOf 38 = .ok (.iconst 0, 1) := by decide +kernel
theorem dX8_isOf_39 : decode cX8_isOf 39 = .ok (.ireturn, 1) := by decide +kernel
theorem dX8_kind_0 : decode cX8_kind 0 = .ok (.aload_n 0, 1) := by decide +kernel
theorem dX8_kind_1 : decode cX8_kind 1 = .ok (.iconst 0, 1) := by decide +kernel
theorem dX8_kind_2 : decode cX8_kind 2 = .ok (.putfield 78, 3) := by decide +kernel
theorem dX8_kind_5 : decode cX8_kind 5 = .ok (.aload_n 0, 1) := by decide +kernel
theorem dX8_kind_6 : decode cX8_kind 6 = .ok (.iload_n 1, 1) := by decide +kernel
theorem dX8_kind_7 : decode cX8_kind 7 = .ok (.invokevirtual 204, 3) := by decide +kernel
theorem dX8_kind_10 : decode cX8_kind 10 = .ok (.ifCond .eq 11, 3) := by decide +kernel
theorem dX8_kind_13 : decode cX8_kind 13 = .ok (.aload_n 0, 1) := by decide +kernel
theorem dX8_kind_14 : decode cX8_kind 14 = .ok (.iload_n 1, 1) := by decide +kernel
theorem dX8_kind_15 : decode cX8_kind 15 = .ok (.invokevirtual 330, 3) := by decide +kernel
theorem dX8_kind_18 : decode cX8_kind 18 = .ok (.goto 5, 3) := by decide +kernel
theorem dX8_kind_21 : decode cX8_kind 21 = .ok (.ldc 98, 2) := by decide +kernel
theorem dX8_kind_23 : decode cX8_kind 23 = .ok (.ireturn, 1) := by decide +kernel
theorem dX8_as_0 : decode cX8_as 0 = .ok (.aload_n 0, 1) := by decide +kernel
theorem dX8_as_1 : decode cX8_as 1 = .ok (.iconst 0, 1) := by decide +kernel
theorem dX8_as_2 : decode cX8_as 2 = .ok (.putfield 78, 3) := by decide +kernel
theorem dX8_as_5 : decode cX8_as 5 = .ok (.aload_n 0, 1) := by decide +kernel
theorem dX8_as_6 : decode cX8_as 6 = .ok (.iload_n 1, 1) := by decide +kernel
theorem dX8_as_7 : decode cX8_as 7 = .ok (.invokevirtual 204, 3) := by decide +kernel
theorem dX8_as_10 : decode cX8_as 10 = .ok (.ifCond .eq 15, 3) := by decide +kernel
theorem dX8_as_13 : decode cX8_as 13 = .ok (.iload_n 2, 1) := by decide +kernel
theorem dX8_as_14 : decode cX8_as 14 = .ok (.i2l, 1) := by decide +kernel
theorem dX8_as_15 : decode cX8_as 15 = .ok (.lconst 0, 1) := by decide +kernel
theorem dX8_as_16 : decode cX8_as 16 = .ok (.ldc2_w 254, 3) := by decide +kernel
theorem dX8_as_19 : decode cX8_as 19 = .ok (.invokestatic 88, 3) := by decide +kernel
theorem dX8_as_22 : decode cX8_as 22 = .ok (.ifCond .ne 6, 3) := by decide +kernel
theorem dX8_as_25 : decode cX8_as 25 = .ok (.ldc 98, 2) := by decide +kernel
theorem dX8_as_27 : decode cX8_as 27 = .ok (.ireturn, 1) := by decide +kernel
theorem dX8_as_28 : decode cX8_as 28 = .ok (.aload_n 0, 1) := by decide +kernel
theorem dX8_as_29 : decode cX8_as 29 = .ok (.iconst 0, 1) := by decide +kernel
theorem dX8_as_30 : decode cX8_as 30 = .ok (.putfield 82, 3) := by decide +kernel
theorem dX8_as_33 : decode cX8_as 33 = .ok (.aload_n 0, 1) := by decide +kernel
theorem dX8_as_34 : decode cX8_as 34 = .ok (.iload_n 1, 1) := by decide +kernel
theorem dX8_as_35 : decode cX8_as 35 = .ok (.invokevirtual 330, 3) := by decide +kernel
theorem dX8_as_38 : decode cX8_as 38 = .ok (.iload_n 2, 1) := by decide +kernel
theorem dX8_as_39 : decode cX8_as 39 = .ok (.invokestatic 333, 3) := by decide +kernel
theorem dX8_as_42 : decode cX8_as 42 = .ok (.ifCond .eq 7, 3) := by decide +kernel
theorem dX8_as_45 : decode cX8_as 45 = .ok (.iload_n 1, 1) := by decide +kernel
theorem dX8_as_46 : decode cX8_as 46 = .ok (.goto 8, 3) := by decide +kernel
theorem dX8_as_49 : decode cX8_as 49 = .ok (.aload_n 0, 1) := by decide +kernel
theorem dX8_as_50 : decode cX8_as 50 = .ok (.iconst 3, 1) := by decide +kernel
theorem dX8_as_51 : decode cX8_as 51 = .ok (.invokevirtual 99, 3) := by decide +kernel
theorem dX8_as_54 : decode cX8_as 54 = .ok (.ireturn, 1) := by decide +kernel
theorem dX8_began_0 : decode cX8_began 0 = .ok (.aload_n 0, 1) := by decide +kernel
theorem dX8_began_1 : decode cX8_began 1 = .ok (.getfield 336, 3) := by decide +kernel
theorem dX8_began_4 : decode cX8_began 4 = .ok (.bipush 16, 2) := by decide +kernel
theorem dX8_began_6 : decode cX8_began 6 = .ok (.if_icmp .ge 23, 3) := by decide +kernel
theorem dX8_began_9 : decode cX8_began 9 = .ok (.aload_n 0, 1) := by decide +kernel
theorem dX8_began_10 : decode cX8_began 10 = .ok (.getfield 75, 3) := by decide +kernel
theorem dX8_began_13 : decode cX8_began 13 = .ok (.aload_n 0, 1) := by decide +kernel
theorem dX8_began_14 : decode cX8_began 14 = .ok (.getfield 336, 3) := by decide +kernel
theorem dX8_began_17 : decode cX8_began 17 = .ok (.iload_n 1, 1) := by decide +kernel
theorem dX8_began_18 : decode cX8_began 18 = .ok (.iastore, 1) := by decide +kernel
theorem dX8_began_19 : decode cX8_began 19 = .ok (.aload_n 0, 1) := by decide +kernel
theorem dX8_began_20 : decode cX8_began 20 = .ok (.dup, 1) := by decide +kernel
theorem dX8_began_21 : decode cX8_began 21 = .ok (.getfield 336, 3) := by decide +kernel
theorem dX8_began_24 : decode cX8_began 24 = .ok (.iconst 1, 1) := by decide +kernel
theorem dX8_began_25 : decode cX8_began 25 = .ok (.iadd, 1) := by decide +kernel
theorem dX8_began_26 : decode cX8_began 26 = .ok (.putfield 336, 3) := by decide +kernel
theorem dX8_began_29 : decode cX8_began 29 = .ok (.return_, 1) := by decide +kernel
theorem dX8_markOf_0 : decode cX8_markOf 0 = .ok (.iload_n 2, 1) := by decide +kernel
theorem dX8_markOf_1 : decode cX8_markOf 1 = .ok (.iconst 5, 1) := by decide +kernel
theorem dX8_markOf_2 : decode cX8_markOf 2 = .ok (.if_icmp .eq 11, 3) := by decide +kernel
theorem dX8_markOf_5 : decode cX8_markOf 5 = .ok (.iload_n 2, 1) := by decide +kernel
theorem dX8_markOf_6 : decode cX8_markOf 6 = .ok (.iconst 3, 1) := by decide +kernel
theorem dX8_markOf_7 : decode cX8_markOf 7 = .ok (.invokestatic 333, 3) := by decide +kernel
theorem dX8_markOf_10 : decode cX8_markOf 10 = .ok (.ifCond .eq 19, 3) := by decide +kernel
theorem dX8_markOf_13 : decode cX8_markOf 13 = .ok (.aload_n 0, 1) := by decide +kernel
theorem dX8_markOf_14 : decode cX8_markOf 14 = .ok (.iload_n 2, 1) := by decide +kernel
theorem dX8_markOf_15 : decode cX8_markOf 15 = .ok (.iconst 5, 1) := by decide +kernel
theorem dX8_markOf_16 : decode cX8_markOf 16 = .ok (.if_icmp .ne 8, 3) := by decide +kernel
theorem dX8_markOf_19 : decode cX8_markOf 19 = .ok (.bipush 22, 2) := by decide +kernel
theorem dX8_markOf_21 : decode cX8_markOf 21 = .ok (.goto 5, 3) := by decide +kernel
theorem dX8_markOf_24 : decode cX8_markOf 24 = .ok (.bipush 21, 2) := by decide +kernel
theorem dX8_markOf_26 : decode cX8_markOf 26 = .ok (.invokevirtual 339, 3) := by decide +kernel
theorem dX8_markOf_29 : decode cX8_markOf 29 = .ok (.aload_n 0, 1) := by decide +kernel
theorem dX8_markOf_30 : decode cX8_markOf 30 = .ok (.bipush 20, 2) := by decide +kernel
theorem dX8_markOf_32 : decode cX8_markOf 32 = .ok (.invokevirtual 339, 3) := by decide +kernel
theorem dX8_markOf_35 : decode cX8_markOf 35 = .ok (.iload_n 1, 1) := by decide +kernel
theorem dX8_markOf_36 : decode cX8_markOf 36 = .ok (.iload_n 2, 1) := by decide +kernel
theorem dX8_markOf_37 : decode cX8_markOf 37 = .ok (.iconst 5, 1) := by decide +kernel
theorem dX8_markOf_38 : decode cX8_markOf 38 = .ok (.if_icmp .ne 10, 3) := by decide +kernel
theorem dX8_markOf_41 : decode cX8_markOf 41 = .ok (.aload_n 0, 1) := by decide +kernel
theorem dX8_markOf_42 : decode cX8_markOf 42 = .ok (.getfield 207, 3) := by decide +kernel
theorem dX8_markOf_45 : decode cX8_markOf 45 = .ok (.goto 29, 3) := by decide +kernel
theorem dX8_markOf_48 : decode cX8_markOf 48 = .ok (.iload_n 2, 1) := by decide +kernel
theorem dX8_markOf_49 : decode cX8_markOf 49 = .ok (.iconst 3, 1) := by decide +kernel
theorem dX8_markOf_50 : decode cX8_markOf 50 = .ok (.invokestatic 333, 3) := by decide +kernel
theorem dX8_markOf_53 : decode cX8_markOf 53 = .ok (.ifCond .eq 20, 3) := by decide +kernel
theorem dX8_markOf_56 : decode cX8_markOf 56 = .ok (.aload_n 0, 1) := by decide +kernel
theorem dX8_markOf_57 : decode cX8_markOf 57 = .ok (.invokevirtual 232, 3) := by decide +kernel
theorem dX8_markOf_60 : decode cX8_markOf 60 = .ok (.iload_n 1, 1) := by decide +kernel
theorem dX8_markOf_61 : decode cX8_markOf 61 = .ok (.ishr, 1) := by decide +kernel
theorem dX8_markOf_62 : decode cX8_markOf 62 = .ok (.iconst 1, 1) := by decide +kernel
theorem dX8_markOf_63 : decode cX8_markOf 63 = .ok (.iand, 1) := by decide +kernel
theorem dX8_markOf_64 : decode cX8_markOf 64 = .ok (.iconst 1, 1) := by decide +kernel
theorem dX8_markOf_65 : decode cX8_markOf 65 = .ok (.if_icmp .ne 8, 3) := by decide +kernel
theorem dX8_markOf_68 : decode cX8_markOf 68 = .ok (.bipush 100, 2) := by decide +kernel
theorem dX8_markOf_70 : decode cX8_markOf 70 = .ok (.goto 4, 3) := by decide +kernel
theorem dX8_markOf_73 : decode cX8_markOf 73 = .ok (.iconst 0, 1) := by decide +kernel
theorem dX8_markOf_74 : decode cX8_markOf 74 = .ok (.iadd, 1) := by decide +kernel
theorem dX8_markOf_75 : decode cX8_markOf 75 = .ok (.ireturn, 1) := by decide +kernel
theorem dX8_sizeOf_0 : decode cX8_sizeOf 0 = .ok (.iload_n 2, 1) := by decide +kernel
theorem dX8_sizeOf_1 : decode cX8_sizeOf 1 = .ok (.iconst 2, 1) := by decide +kernel
theorem dX8_sizeOf_2 : decode cX8_sizeOf 2 = .ok (.if_icmp .eq 13, 3) := by decide +kernel
theorem dX8_sizeOf_5 : decode cX8_sizeOf 5 = .ok (.iload_n 2, 1) := by decide +kernel
theorem dX8_sizeOf_6 : decode cX8_sizeOf 6 = .ok (.iconst 5, 1) := by decide +kernel
theorem dX8_sizeOf_7 : decode cX8_sizeOf 7 = .ok (.if_icmp .eq 8, 3) := by decide +kernel
theorem dX8_sizeOf_10 : decode cX8_sizeOf 10 = .ok (.iload_n 2, 1) := by decide +kernel
theorem dX8_sizeOf_11 : decode cX8_sizeOf 11 = .ok (.iconst 4, 1) := by decide +kernel
theorem dX8_sizeOf_12 : decode cX8_sizeOf 12 = .ok (.if_icmp .ne 29, 3) := by decide +kernel
theorem dX8_sizeOf_15 : decode cX8_sizeOf 15 = .ok (.aload_n 0, 1) := by decide +kernel
theorem dX8_sizeOf_16 : decode cX8_sizeOf 16 = .ok (.iload_n 2, 1) := by decide +kernel
theorem dX8_sizeOf_17 : decode cX8_sizeOf 17 = .ok (.iconst 2, 1) := by decide +kernel
theorem dX8_sizeOf_18 : decode cX8_sizeOf 18 = .ok (.if_icmp .ne 8, 3) := by decide +kernel
theorem dX8_sizeOf_21 : decode cX8_sizeOf 21 = .ok (.bipush 12, 2) := by decide +kernel
theorem dX8_sizeOf_23 : decode cX8_sizeOf 23 = .ok (.goto 15, 3) := by decide +kernel
theorem dX8_sizeOf_26 : decode cX8_sizeOf 26 = .ok (.iload_n 2, 1) := by decide +kernel
theorem dX8_sizeOf_27 : decode cX8_sizeOf 27 = .ok (.iconst 5, 1) := by decide +kernel
theorem dX8_sizeOf_28 : decode cX8_sizeOf 28 = .ok (.if_icmp .ne 8, 3) := by decide +kernel
theorem dX8_sizeOf_31 : decode cX8_sizeOf 31 = .ok (.bipush 15, 2) := by decide +kernel
theorem dX8_sizeOf_33 : decode cX8_sizeOf 33 = .ok (.goto 5, 3) := by decide +kernel
theorem dX8_sizeOf_36 : decode cX8_sizeOf 36 = .ok (.bipush 14, 2) := by decide +kernel
theorem dX8_sizeOf_38 : decode cX8_sizeOf 38 = .ok (.invokevirtual 339, 3) := by decide +kernel
theorem dX8_sizeOf_41 : decode cX8_sizeOf 41 = .ok (.aload_n 0, 1) := by decide +kernel
theorem dX8_sizeOf_42 : decode cX8_sizeOf 42 = .ok (.iload_n 2, 1) := by decide +kernel
theorem dX8_sizeOf_43 : decode cX8_sizeOf 43 = .ok (.iconst 1, 1) := by decide +kernel
theorem dX8_sizeOf_44 : decode cX8_sizeOf 44 = .ok (.invokestatic 333, 3) := by decide +kernel
theorem dX8_sizeOf_47 : decode cX8_sizeOf 47 = .ok (.ifCond .eq 8, 3) := by decide +kernel
theorem dX8_sizeOf_50 : decode cX8_sizeOf 50 = .ok (.bipush 11, 2) := by decide +kernel
theorem dX8_sizeOf_52 : decode cX8_sizeOf 52 = .ok (.goto 5, 3) := by decide +kernel
theorem dX8_sizeOf_55 : decode cX8_sizeOf 55 = .ok (.bipush 13, 2) := by decide +kernel
theorem dX8_sizeOf_57 : decode cX8_sizeOf 57 = .ok (.invokevirtual 339, 3) := by decide +kernel
theorem dX8_sizeOf_60 : decode cX8_sizeOf 60 = .ok (.aload_n 0, 1) := by decide +kernel
theorem dX8_sizeOf_61 : decode cX8_sizeOf 61 = .ok (.bipush 10, 2) := by decide +kernel
theorem dX8_sizeOf_63 : decode cX8_sizeOf 63 = .ok (.invokevirtual 339, 3) := by decide +kernel
theorem dX8_sizeOf_66 : decode cX8_sizeOf 66 = .ok (.aload_n 0, 1) := by decide +kernel
theorem dX8_sizeOf_67 : decode cX8_sizeOf 67 = .ok (.iload_n 1, 1) := by decide +kernel
theorem dX8_sizeOf_68 : decode cX8_sizeOf 68 = .ok (.invokevirtual 327, 3) := by decide +kernel
theorem dX8_sizeOf_71 : decode cX8_sizeOf 71 = .ok (.iload_n 2, 1) := by decide +kernel
theorem dX8_sizeOf_72 : decode cX8_sizeOf 72 = .ok (.iconst 1, 1) := by decide +kernel
theorem dX8_sizeOf_73 : decode cX8_sizeOf 73 = .ok (.invokestatic 333, 3) := by decide +kernel
theorem dX8_sizeOf_76 : decode cX8_sizeOf 76 = .ok (.ifCond .eq 12, 3) := by decide +kernel
theorem dX8_sizeOf_79 : decode cX8_sizeOf 79 = .ok (.aload_n 0, 1) := by decide +kernel
theorem dX8_sizeOf_80 : decode cX8_sizeOf 80 = .ok (.getfield 22, 3) := by decide +kernel
theorem dX8_sizeOf_83 : decode cX8_sizeOf 83 = .ok (.iload_n 1, 1) := by decide +kernel
theorem dX8_sizeOf_84 : decode cX8_sizeOf 84 = .ok (.iaload, 1) := by decide +kernel
theorem dX8_sizeOf_85 : decode cX8_sizeOf 85 = .ok (.goto 9, 3) := by decide +kernel
theorem dX8_sizeOf_88 : decode cX8_sizeOf 88 = .ok (.aload_n 0, 1) := by decide +kernel
theorem dX8_sizeOf_89 : decode cX8_sizeOf 89 = .ok (.iload_n 1, 1) := by decide +kernel
theorem dX8_sizeOf_90 : decode cX8_sizeOf 90 = .ok (.iload_n 2, 1) := by decide +kernel
theorem dX8_sizeOf_91 : decode cX8_sizeOf 91 = .ok (.invokevirtual 342, 3) := by decide +kernel
theorem dX8_sizeOf_94 : decode cX8_sizeOf 94 = .ok (.iadd, 1) := by decide +kernel
theorem dX8_sizeOf_95 : decode cX8_sizeOf 95 = .ok (.istore_n 3, 1) := by decide +kernel
theorem dX8_sizeOf_96 : decode cX8_sizeOf 96 = .ok (.iload_n 2, 1) := by decide +kernel
theorem dX8_sizeOf_97 : decode cX8_sizeOf 97 = .ok (.iconst 2, 1) := by decide +kernel
theorem dX8_sizeOf_98 : decode cX8_sizeOf 98 = .ok (.if_icmp .ne 9, 3) := by decide +kernel
theorem dX8_sizeOf_101 : decode cX8_sizeOf 101 = .ok (.iconst 2, 1) := by decide +kernel
theorem dX8_sizeOf_102 : decode cX8_sizeOf 102 = .ok (.iload_n 3, 1) := by decide +kernel
theorem dX8_sizeOf_103 : decode cX8_sizeOf 103 = .ok (.imul, 1) := by decide +kernel
theorem dX8_sizeOf_104 : decode cX8_sizeOf 104 = .ok (.goto 29, 3) := by decide +kernel
theorem dX8_sizeOf_107 : decode cX8_sizeOf 107 = .ok (.iload_n 2, 1) := by decide +kernel
theorem dX8_sizeOf_108 : decode cX8_sizeOf 108 = .ok (.iconst 5, 1) := by decide +kernel
theorem dX8_sizeOf_109 : decode cX8_sizeOf 109 = .ok (.if_icmp .ne 8, 3) := by decide +kernel
theorem dX8_sizeOf_112 : decode cX8_sizeOf 112 = .ok (.iload_n 3, 1) := by decide +kernel
theorem dX8_sizeOf_113 : decode cX8_sizeOf 113 = .ok (.ineg, 1) := by decide +kernel
theorem dX8_sizeOf_114 : decode cX8_sizeOf 114 = .ok (.goto 19, 3) := by decide +kernel
theorem dX8_sizeOf_117 : decode cX8_sizeOf 117 = .ok (.iload_n 2, 1) := by decide +kernel
theorem dX8_sizeOf_118 : decode cX8_sizeOf 118 = .ok (.iconst 4, 1) := by decide +kernel
theorem dX8_sizeOf_119 : decode cX8_sizeOf 119 = .ok (.if_icmp .ne 13, 3) := by decide +kernel
theorem dX8_sizeOf_122 : decode cX8_sizeOf 122 = .ok (.iload_n 3, 1) := by decide +kernel
theorem dX8_sizeOf_123 : decode cX8_sizeOf 123 = .ok (.aload_n 0, 1) := by decide +kernel
theorem dX8_sizeOf_124 : decode cX8_sizeOf 124 = .ok (.iload_n 1, 1) := by decide +kernel
theorem dX8_sizeOf_125 : decode cX8_sizeOf 125 = .ok (.invokevirtual 345, 3) := by decide +kernel
theorem dX8_sizeOf_128 : decode cX8_sizeOf 128 = .ok (.iadd, 1) := by decide +kernel
theorem dX8_sizeOf_129 : decode cX8_sizeOf 129 = .ok (.goto 4, 3) := by decide +kernel
theorem dX8_sizeOf_132 : decode cX8_sizeOf 132 = .ok (.iload_n 3, 1) := by decide +kernel
theorem dX8_sizeOf_133 : decode cX8_sizeOf 133 = .ok (.ireturn, 1) := by decide +kernel
theorem dX8_ask_0 : decode cX8_ask 0 = .ok (.aload_n 0, 1) := by decide +kernel
theorem dX8_ask_1 : decode cX8_ask 1 = .ok (.iconst 0, 1) := by decide +kernel
theorem dX8_ask_2 : decode cX8_ask 2 = .ok (.putfield 78, 3) := by decide +kernel
theorem dX8_ask_5 : decode cX8_ask 5 = .ok (.aload_n 0, 1) := by decide +kernel
theorem dX8_ask_6 : decode cX8_ask 6 = .ok (.iload_n 1, 1) := by decide +kernel
theorem dX8_ask_7 : decode cX8_ask 7 = .ok (.invokevirtual 204, 3) := by decide +kernel
theorem dX8_ask_10 : decode cX8_ask 10 = .ok (.ifCond .eq 13, 3) := by decide +kernel
theorem dX8_ask_13 : decode cX8_ask 13 = .ok (.iload_n 2, 1) := by decide +kernel
theorem dX8_ask_14 : decode cX8_ask 14 = .ok (.i2l, 1) := by decide +kernel
theorem dX8_ask_15 : decode cX8_ask 15 = .ok (.lconst 0, 1) := by decide +kernel
theorem dX8_ask_16 : decode cX8_ask 16 = .ok (.lconst 1, 1) := by decide +kernel
theorem dX8_ask_17 : decode cX8_ask 17 = .ok (.invokestatic 88, 3) := by decide +kernel
theorem dX8_ask_20 : decode cX8_ask 20 = .ok (.ifCond .ne 6, 3) := by decide +kernel
theorem dX8_ask_23 : decode cX8_ask 23 = .ok (.ldc 98, 2) := by decide +kernel
theorem dX8_ask_25 : decode cX8_ask 25 = .ok (.ireturn, 1) := by decide +kernel
theorem dX8_ask_26 : decode cX8_ask 26 = .ok (.aload_n 0, 1) := by decide +kernel
theorem dX8_ask_27 : decode cX8_ask 27 = .ok (.iconst 0, 1) := by decide +kernel
theorem dX8_ask_28 : decode cX8_ask 28 = .ok (.putfield 336, 3) := by decide +kernel
theorem dX8_ask_31 : decode cX8_ask 31 = .ok (.iload_n 2, 1) := by decide +kernel
theorem dX8_ask_32 : decode cX8_ask 32 = .ok (.ifCond .ne 16, 3) := by decide +kernel
theorem dX8_ask_35 : decode cX8_ask 35 = .ok (.aload_n 0, 1) := by decide +kernel
theorem dX8_ask_36 : decode cX8_ask 36 = .ok (.iload_n 1, 1) := by decide +kernel
theorem dX8_ask_37 : decode cX8_ask 37 = .ok (.aload_n 0, 1) := by decide +kernel
theorem dX8_ask_38 : decode cX8_ask 38 = .ok (.iload_n 1, 1) := by decide +kernel
theorem dX8_ask_39 : decode cX8_ask 39 = .ok (.invokevirtual 330, 3) := by decide +kernel
theorem dX8_ask_42 : decode cX8_ask 42 = .ok (.invokevirtual 348, 3) := by decide +kernel
theorem dX8_ask_45 : decode cX8_ask 45 = .ok (.goto 13, 3) := by decide +kernel
theorem dX8_ask_48 : decode cX8_ask 48 = .ok (.aload_n 0, 1) := by decide +kernel
theorem dX8_ask_49 : decode cX8_ask 49 = .ok (.iload_n 1, 1) := by decide +kernel
theorem dX8_ask_50 : decode cX8_ask 50 = .ok (.aload_n 0, 1) := by decide +kernel
theorem dX8_ask_51 : decode cX8_ask 51 = .ok (.iload_n 1, 1) := by decide +kernel
theorem dX8_ask_52 : decode cX8_ask 52 = .ok (.invokevirtual 330, 3) := by decide +kernel
theorem dX8_ask_55 : decode cX8_ask 55 = .ok (.invokevirtual 342, 3) := by decide +kernel
theorem dX8_ask_58 : decode cX8_ask 58 = .ok (.ireturn, 1) := by decide +kernel
theorem dX8_trace_0 : decode cX8_trace 0 = .ok (.aload_n 0, 1) := by decide +kernel
theorem dX8_trace_1 : decode cX8_trace 1 = .ok (.iconst 0, 1) := by decide +kernel
theorem dX8_trace_2 : decode cX8_trace 2 = .ok (.putfield 78, 3) := by decide +kernel
theorem dX8_trace_5 : decode cX8_trace 5 = .ok (.iload_n 1, 1) := by decide +kernel
theorem dX8_trace_6 : decode cX8_trace 6 = .ok (.i2l, 1) := by decide +kernel
theorem dX8_trace_7 : decode cX8_trace 7 = .ok (.lconst 0, 1) := by decide +kernel
theorem dX8_trace_8 : decode cX8_trace 8 = .ok (.aload_n 0, 1) := by decide +kernel
theorem dX8_trace_9 : decode cX8_trace 9 = .ok (.getfield 336, 3) := by decide +kernel
theorem dX8_trace_12 : decode cX8_trace 12 = .ok (.iconst 1, 1) := by decide +kernel
theorem dX8_trace_13 : decode cX8_trace 13 = .ok (.isub, 1) := by decide +kernel
theorem dX8_trace_14 : decode cX8_trace 14 = .ok (.i2l, 1) := by decide +kernel
theorem dX8_trace_15 : decode cX8_trace 15 = .ok (.invokestatic 88, 3) := by decide +kernel
theorem dX8_trace_18 : decode cX8_trace 18 = .ok (.ifCond .eq 12, 3) := by decide +kernel
theorem dX8_trace_21 : decode cX8_trace 21 = .ok (.aload_n 0, 1) := by decide +kernel
theorem dX8_trace_22 : decode cX8_trace 22 = .ok (.getfield 75, 3) := by decide +kernel
theorem dX8_trace_25 : decode cX8_trace 25 = .ok (.iload_n 1, 1) := by decide +kernel
theorem dX8_trace_26 : decode cX8_trace 26 = .ok (.iaload, 1) := by decide +kernel
theorem dX8_trace_27 : decode cX8_trace 27 = .ok (.goto 5, 3) := by decide +kernel
theorem dX8_trace_30 : decode cX8_trace 30 = .ok (.ldc 114, 2) := by decide +kernel
theorem dX8_trace_32 : decode cX8_trace 32 = .ok (.ireturn, 1) := by decide +kernel
theorem dX8_count_0 : decode cX8_count 0 = .ok (.aload_n 0, 1) := by decide +kernel
theorem dX8_count_1 : decode cX8_count 1 = .ok (.iconst 0, 1) := by decide +kernel
theorem dX8_count_2 : decode cX8_count 2 = .ok (.putfield 78, 3) := by decide +kernel
theorem dX8_count_5 : decode cX8_count 5 = .ok (.iconst 0, 1) := by decide +kernel
theorem dX8_count_6 : decode cX8_count 6 = .ok (.istore_n 2, 1) := by decide +kernel
theorem dX8_count_7 : decode cX8_count 7 = .ok (.iload_n 1, 1) := by decide +kernel
theorem dX8_count_8 : decode cX8_count 8 = .ok (.tableswitch 170 0 7 #[48, 81, 86, 94, 99, 125, 160, 165], 48) := by decide +kernel
theorem dX8_count_56 : decode cX8_count 56 = .ok (.iconst 0, 1) := by decide +kernel
theorem dX8_count_57 : decode cX8_count 57 = .ok (.istore_n 3, 1) := by decide +kernel
theorem dX8_count_58 : decode cX8_count 58 = .ok (.iload_n 3, 1) := by decide +kernel
theorem dX8_count_59 : decode cX8_count 59 = .ok (.bipush 8, 2) := by decide +kernel
theorem dX8_count_61 : decode cX8_count 61 = .ok (.if_icmp .ge 26, 3) := by decide +kernel
theorem dX8_count_64 : decode cX8_count 64 = .ok (.iload_n 2, 1) := by decide +kernel
theorem dX8_count_65 : decode cX8_count 65 = .ok (.aload_n 0, 1) := by decide +kernel
theorem dX8_count_66 : decode cX8_count 66 = .ok (.getfield 7, 3) := by decide +kernel
theorem dX8_count_69 : decode cX8_count 69 = .ok (.iload_n 3, 1) := by decide +kernel
theorem dX8_count_70 : decode cX8_count 70 = .ok (.iaload, 1) := by decide +kernel
theorem dX8_count_71 : decode cX8_count 71 = .ok (.ifCond .lt 7, 3) := by decide +kernel
theorem dX8_count_74 : decode cX8_count 74 = .ok (.iconst 1, 1) := by decide +kernel
theorem dX8_count_75 : decode cX8_count 75 = .ok (.goto 4, 3) := by decide +kernel
theorem dX8_count_78 : decode cX8_count 78 = .ok (.iconst 0, 1) := by decide +kernel
theorem dX8_count_79 : decode cX8_count 79 = .ok (.iadd, 1) := by decide +kernel
theorem dX8_count_80 : decode cX8_count 80 = .ok (.istore_n 2, 1) := by decide +kernel
theorem dX8_count_81 : decode cX8_count 81 = .ok (.iinc 3 1, 3) := by decide +kernel
theorem dX8_count_84 : decode cX8_count 84 = .ok (.goto (-26), 3) := by decide +kernel
theorem dX8_count_87 : decode cX8_count 87 = .ok (.iload_n 2, 1) := by decide +kernel
theorem dX8_count_88 : decode cX8_count 88 = .ok (.ireturn, 1) := by decide +kernel
theorem dX8_count_89 : decode cX8_count 89 = .ok (.aload_n 0, 1) := by decide +kernel
theorem dX8_count_90 : decode cX8_count 90 = .ok (.getfield 185, 3) := by decide +kernel
theorem dX8_count_93 : decode cX8_count 93 = .ok (.ireturn, 1) := by decide +kernel
theorem dX8_count_94 : decode cX8_count 94 = .ok (.aload_n 0, 1) := by decide +kernel
theorem dX8_count_95 : decode cX8_count 95 = .ok (.invokevirtual 235, 3) := by decide +kernel
theorem dX8_count_98 : decode cX8_count 98 = .ok (.invokestatic 251, 3) := by decide +kernel
theorem dX8_count_101 : decode cX8_count 101 = .ok (.ireturn, 1) := by decide +kernel
theorem dX8_count_102 : decode cX8_count 102 = .ok (.aload_n 0, 1) := by decide +kernel
theorem dX8_count_103 : decode cX8_count 103 = .ok (.getfield 188, 3) := by decide +kernel
theorem dX8_count_106 : decode cX8_count 106 = .ok (.ireturn, 1) := by decide +kernel
theorem dX8_count_107 : decode cX8_count 107 = .ok (.iconst 0, 1) := by decide +kernel
theorem dX8_count_108 : decode cX8_count 108 = .ok (.istore_n 3, 1) := by decide +kernel
theorem dX8_count_109 : decode cX8_count 109 = .ok (.iload_n 3, 1) := by decide +kernel
theorem dX8_count_110 : decode cX8_count 110 = .ok (.aload_n 0, 1) := by decide +kernel
theorem dX8_count_111 : decode cX8_count 111 = .ok (.getfield 188, 3) := by decide +kernel
theorem dX8_count_114 : decode cX8_count 114 = .ok (.if_icmp .ge 17, 3) := by decide +kernel
theorem dX8_count_117 : decode cX8_count 117 = .ok (.iload_n 2, 1) := by decide +kernel
theorem dX8_count_118 : decode cX8_count 118 = .ok (.aload_n 0, 1) := by decide +kernel
theorem dX8_count_119 : decode cX8_count 119 = .ok (.iload_n 3, 1) := by decide +kernel
theorem dX8_count_120 : decode cX8_count 120 = .ok (.invokevirtual 219, 3) := by decide +kernel
theorem dX8_count_123 : decode cX8_count 123 = .ok (.iadd, 1) := by decide +kernel
theorem dX8_count_124 : decode cX8_count 124 = .ok (.istore_n 2, 1) := by decide +kernel
theorem dX8_count_125 : decode cX8_count 125 = .ok (.iinc 3 1, 3) := by decide +kernel
theorem dX8_count_128 : decode cX8_count 128 = .ok (.goto (-19), 3) := by decide +kernel
theorem dX8_count_131 : decode cX8_count 131 = .ok (.iload_n 2, 1) := by decide +kernel
theorem dX8_count_132 : decode cX8_count 132 = .ok (.ireturn, 1) := by decide +kernel
theorem dX8_count_133 : decode cX8_count 133 = .ok (.iconst 0, 1) := by decide +kernel
theorem dX8_count_134 : decode cX8_count 134 = .ok (.istore_n 3, 1) := by decide +kernel
theorem dX8_count_135 : decode cX8_count 135 = .ok (.iload_n 3, 1) := by decide +kernel
theorem dX8_count_136 : decode cX8_count 136 = .ok (.aload_n 0, 1) := by decide +kernel
theorem dX8_count_137 : decode cX8_count 137 = .ok (.getfield 185, 3) := by decide +kernel
theorem dX8_count_140 : decode cX8_count 140 = .ok (.if_icmp .ge 26, 3) := by decide +kernel
theorem dX8_count_143 : decode cX8_count 143 = .ok (.iload_n 2, 1) := by decide +kernel
theorem dX8_count_144 : decode cX8_count 144 = .ok (.aload_n 0, 1) := by decide +kernel
theorem dX8_count_145 : decode cX8_count 145 = .ok (.iload_n 3, 1) := by decide +kernel
theorem dX8_count_146 : decode cX8_count 146 = .ok (.invokevirtual 330, 3) := by decide +kernel
theorem dX8_count_149 : decode cX8_count 149 = .ok (.iconst 5, 1) := by decide +kernel
theorem dX8_count_150 : decode cX8_count 150 = .ok (.if_icmp .ne 7, 3) := by decide +kernel
theorem dX8_count_153 : decode cX8_count 153 = .ok (.iconst 1, 1) := by decide +kernel
theorem dX8_count_154 : decode cX8_count 154 = .ok (.goto 4, 3) := by decide +kernel
theorem dX8_count_157 : decode cX8_count 157 = .ok (.iconst 0, 1) := by decide +kernel
theorem dX8_count_158 : decode cX8_count 158 = .ok (.iadd, 1) := by decide +kernel
theorem dX8_count_159 : decode cX8_count 159 = .ok (.istore_n 2, 1) := by decide +kernel
theorem dX8_count_160 : decode cX8_count 160 = .ok (.iinc 3 1, 3) := by decide +kernel
theorem dX8_count_163 : decode cX8_count 163 = .ok (.goto (-28), 3) := by decide +kernel
theorem dX8_count_166 : decode cX8_count 166 = .ok (.iload_n 2, 1) := by decide +kernel
theorem dX8_count_167 : decode cX8_count 167 = .ok (.ireturn, 1) := by decide +kernel
theorem dX8_count_168 : decode cX8_count 168 = .ok (.aload_n 0, 1) := by decide +kernel
theorem dX8_count_169 : decode cX8_count 169 = .ok (.getfield 270, 3) := by decide +kernel
theorem dX8_count_172 : decode cX8_count 172 = .ok (.ireturn, 1) := by decide +kernel
theorem dX8_count_173 : decode cX8_count 173 = .ok (.aload_n 0, 1) := by decide +kernel
theorem dX8_count_174 : decode cX8_count 174 = .ok (.getfield 105, 3) := by decide +kernel
theorem dX8_count_177 : decode cX8_count 177 = .ok (.ireturn, 1) := by decide +kernel
theorem dX8_count_178 : decode cX8_count 178 = .ok (.ldc 98, 2) := by decide +kernel
theorem dX8_count_180 : decode cX8_count 180 = .ok (.ireturn, 1) := by decide +kernel
theorem dX8_status_0 : decode cX8_status 0 = .ok (.aload_n 0, 1) := by decide +kernel
theorem dX8_status_1 : decode cX8_status 1 = .ok (.iconst 0, 1) := by decide +kernel
theorem dX8_status_2 : decode cX8_status 2 = .ok (.putfield 78, 3) := by decide +kernel
theorem dX8_status_5 : decode cX8_status 5 = .ok (.aload_n 0, 1) := by decide +kernel
theorem dX8_status_6 : decode cX8_status 6 = .ok (.getfield 82, 3) := by decide +kernel
theorem dX8_status_9 : decode cX8_status 9 = .ok (.ireturn, 1) := by decide +kernel
theorem dJ6_bitCount_0f7a4_0 : decode cJ6_bitCount_0f7a4 0 = .ok (.iload_n 0, 1) := by decide +kernel
theorem dJ6_bitCount_0f7a4_1 : decode cJ6_bitCount_0f7a4 1 = .ok (.iload_n 0, 1) := by decide +kernel
theorem dJ6_bitCount_0f7a4_2 : decode cJ6_bitCount_0f7a4 2 = .ok (.iconst 1, 1) := by decide +kernel
theorem dJ6_bitCount_0f7a4_3 : decode cJ6_bitCount_0f7a4 3 = .ok (.iushr, 1) := by decide +kernel
theorem dJ6_bitCount_0f7a4_4 : decode cJ6_bitCount_0f7a4 4 = .ok (.ldc_w 265, 3) := by decide +kernel
theorem dJ6_bitCount_0f7a4_7 : decode cJ6_bitCount_0f7a4 7 = .ok (.iand, 1) := by decide +kernel
theorem dJ6_bitCount_0f7a4_8 : decode cJ6_bitCount_0f7a4 8 = .ok (.isub, 1) := by decide +kernel
theorem dJ6_bitCount_0f7a4_9 : decode cJ6_bitCount_0f7a4 9 = .ok (.istore_n 0, 1) := by decide +kernel
theorem dJ6_bitCount_0f7a4_10 : decode cJ6_bitCount_0f7a4 10 = .ok (.iload_n 0, 1) := by decide +kernel
theorem dJ6_bitCount_0f7a4_11 : decode cJ6_bitCount_0f7a4 11 = .ok (.ldc_w 266, 3) := by decide +kernel
theorem dJ6_bitCount_0f7a4_14 : decode cJ6_bitCount_0f7a4 14 = .ok (.iand, 1) := by decide +kernel
theorem dJ6_bitCount_0f7a4_15 : decode cJ6_bitCount_0f7a4 15 = .ok (.iload_n 0, 1) := by decide +kernel
theorem dJ6_bitCount_0f7a4_16 : decode cJ6_bitCount_0f7a4 16 = .ok (.iconst 2, 1) := by decide +kernel
theorem dJ6_bitCount_0f7a4_17 : decode cJ6_bitCount_0f7a4 17 = .ok (.iushr, 1) := by decide +kernel
theorem dJ6_bitCount_0f7a4_18 : decode cJ6_bitCount_0f7a4 18 = .ok (.ldc_w 266, 3) := by decide +kernel
theorem dJ6_bitCount_0f7a4_21 : decode cJ6_bitCount_0f7a4 21 = .ok (.iand, 1) := by decide +kernel
theorem dJ6_bitCount_0f7a4_22 : decode cJ6_bitCount_0f7a4 22 = .ok (.iadd, 1) := by decide +kernel
theorem dJ6_bitCount_0f7a4_23 : decode cJ6_bitCount_0f7a4 23 = .ok (.istore_n 0, 1) := by decide +kernel
theorem dJ6_bitCount_0f7a4_24 : decode cJ6_bitCount_0f7a4 24 = .ok (.iload_n 0, 1) := by decide +kernel
theorem dJ6_bitCount_0f7a4_25 : decode cJ6_bitCount_0f7a4 25 = .ok (.iload_n 0, 1) := by decide +kernel
theorem dJ6_bitCount_0f7a4_26 : decode cJ6_bitCount_0f7a4 26 = .ok (.iconst 4, 1) := by decide +kernel
theorem dJ6_bitCount_0f7a4_27 : decode cJ6_bitCount_0f7a4 27 = .ok (.iushr, 1) := by decide +kernel
theorem dJ6_bitCount_0f7a4_28 : decode cJ6_bitCount_0f7a4 28 = .ok (.iadd, 1) := by decide +kernel
theorem dJ6_bitCount_0f7a4_29 : decode cJ6_bitCount_0f7a4 29 = .ok (.ldc_w 267, 3) := by decide +kernel
theorem dJ6_bitCount_0f7a4_32 : decode cJ6_bitCount_0f7a4 32 = .ok (.iand, 1) := by decide +kernel
theorem dJ6_bitCount_0f7a4_33 : decode cJ6_bitCount_0f7a4 33 = .ok (.istore_n 0, 1) := by decide +kernel
theorem dJ6_bitCount_0f7a4_34 : decode cJ6_bitCount_0f7a4 34 = .ok (.iload_n 0, 1) := by decide +kernel
theorem dJ6_bitCount_0f7a4_35 : decode cJ6_bitCount_0f7a4 35 = .ok (.iload_n 0, 1) := by decide +kernel
theorem dJ6_bitCount_0f7a4_36 : decode cJ6_bitCount_0f7a4 36 = .ok (.bipush 8, 2) := by decide +kernel
theorem dJ6_bitCount_0f7a4_38 : decode cJ6_bitCount_0f7a4 38 = .ok (.iushr, 1) := by decide +kernel
theorem dJ6_bitCount_0f7a4_39 : decode cJ6_bitCount_0f7a4 39 = .ok (.iadd, 1) := by decide +kernel
theorem dJ6_bitCount_0f7a4_40 : decode cJ6_bitCount_0f7a4 40 = .ok (.istore_n 0, 1) := by decide +kernel
theorem dJ6_bitCount_0f7a4_41 : decode cJ6_bitCount_0f7a4 41 = .ok (.iload_n 0, 1) := by decide +kernel
theorem dJ6_bitCount_0f7a4_42 : decode cJ6_bitCount_0f7a4 42 = .ok (.iload_n 0, 1) := by decide +kernel
theorem dJ6_bitCount_0f7a4_43 : decode cJ6_bitCount_0f7a4 43 = .ok (.bipush 16, 2) := by decide +kernel
theorem dJ6_bitCount_0f7a4_45 : decode cJ6_bitCount_0f7a4 45 = .ok (.iushr, 1) := by decide +kernel
theorem dJ6_bitCount_0f7a4_46 : decode cJ6_bitCount_0f7a4 46 = .ok (.iadd, 1) := by decide +kernel
theorem dJ6_bitCount_0f7a4_47 : decode cJ6_bitCount_0f7a4 47 = .ok (.istore_n 0, 1) := by decide +kernel
theorem dJ6_bitCount_0f7a4_48 : decode cJ6_bitCount_0f7a4 48 = .ok (.iload_n 0, 1) := by decide +kernel
theorem dJ6_bitCount_0f7a4_49 : decode cJ6_bitCount_0f7a4 49 = .ok (.bipush 63, 2) := by decide +kernel
theorem dJ6_bitCount_0f7a4_51 : decode cJ6_bitCount_0f7a4 51 = .ok (.iand, 1) := by decide +kernel
theorem dJ6_bitCount_0f7a4_52 : decode cJ6_bitCount_0f7a4 52 = .ok (.ireturn, 1) := by decide +kernel
theorem dJ9_min_7cf53_0 : decode cJ9_min_7cf53 0 = .ok (.iload_n 0, 1) := by decide +kernel
theorem dJ9_min_7cf53_1 : decode cJ9_min_7cf53 1 = .ok (.iload_n 1, 1) := by decide +kernel
theorem dJ9_min_7cf53_2 : decode cJ9_min_7cf53 2 = .ok (.if_icmp .gt 7, 3) := by decide +kernel
theorem dJ9_min_7cf53_5 : decode cJ9_min_7cf53 5 = .ok (.iload_n 0, 1) := by decide +kernel
theorem dJ9_min_7cf53_6 : decode cJ9_min_7cf53 6 = .ok (.goto 4, 3) := by decide +kernel
theorem dJ9_min_7cf53_9 : decode cJ9_min_7cf53 9 = .ok (.iload_n 1, 1) := by decide +kernel
theorem dJ9_min_7cf53_10 : decode cJ9_min_7cf53 10 = .ok (.ireturn, 1) := by decide +kernel
theorem dJ0_length_8abf5_0 : decode cJ0_length_8abf5 0 = .ok (.aload_n 0, 1) := by decide +kernel
theorem dJ0_length_8abf5_1 : decode cJ0_length_8abf5 1 = .ok (.getfield 9, 3) := by decide +kernel
theorem dJ0_length_8abf5_4 : decode cJ0_length_8abf5 4 = .ok (.arraylength, 1) := by decide +kernel
theorem dJ0_length_8abf5_5 : decode cJ0_length_8abf5 5 = .ok (.aload_n 0, 1) := by decide +kernel
theorem dJ0_length_8abf5_6 : decode cJ0_length_8abf5 6 = .ok (.invokevirtual 335, 3) := by decide +kernel
theorem dJ0_length_8abf5_9 : decode cJ0_length_8abf5 9 = .ok (.ishr, 1) := by decide +kernel
theorem dJ0_length_8abf5_10 : decode cJ0_length_8abf5 10 = .ok (.ireturn, 1) := by decide +kernel
theorem dJ0_charAt_5068e_0 : decode cJ0_charAt_5068e 0 = .ok (.aload_n 0, 1) := by decide +kernel
theorem dJ0_charAt_5068e_1 : decode cJ0_charAt_5068e 1 = .ok (.invokevirtual 492, 3) := by decide +kernel
theorem dJ0_charAt_5068e_4 : decode cJ0_charAt_5068e 4 = .ok (.ifCond .eq 12, 3) := by decide +kernel
theorem dJ0_charAt_5068e_7 : decode cJ0_charAt_5068e 7 = .ok (.aload_n 0, 1) := by decide +kernel
theorem dJ0_charAt_5068e_8 : decode cJ0_charAt_5068e 8 = .ok (.getfield 9, 3) := by decide +kernel
theorem dJ0_charAt_5068e_11 : decode cJ0_charAt_5068e 11 = .ok (.iload_n 1, 1) := by decide +kernel
theorem dJ0_charAt_5068e_12 : decode cJ0_charAt_5068e 12 = .ok (.invokestatic 495, 3) := by decide +kernel
theorem dJ0_charAt_5068e_15 : decode cJ0_charAt_5068e 15 = .ok (.ireturn, 1) := by decide +kernel
theorem dJ0_charAt_5068e_16 : decode cJ0_charAt_5068e 16 = .ok (.aload_n 0, 1) := by decide +kernel
theorem dJ0_charAt_5068e_17 : decode cJ0_charAt_5068e 17 = .ok (.getfield 9, 3) := by decide +kernel
theorem dJ0_charAt_5068e_20 : decode cJ0_charAt_5068e 20 = .ok (.iload_n 1, 1) := by decide +kernel
theorem dJ0_charAt_5068e_21 : decode cJ0_charAt_5068e 21 = .ok (.invokestatic 498, 3) := by decide +kernel
theorem dJ0_charAt_5068e_24 : decode cJ0_charAt_5068e 24 = .ok (.ireturn, 1) := by decide +kernel
theorem dJ0_coder_7d493_0 : decode cJ0_coder_7d493 0 = .ok (.getstatic 38, 3) := by decide +kernel
theorem dJ0_coder_7d493_3 : decode cJ0_coder_7d493 3 = .ok (.ifCond .eq 10, 3) := by decide +kernel
theorem dJ0_coder_7d493_6 : decode cJ0_coder_7d493 6 = .ok (.aload_n 0, 1) := by decide +kernel
theorem dJ0_coder_7d493_7 : decode cJ0_coder_7d493 7 = .ok (.getfield 15, 3) := by decide +kernel
theorem dJ0_coder_7d493_10 : decode cJ0_coder_7d493 10 = .ok (.goto 4, 3) := by decide +kernel
theorem dJ0_coder_7d493_13 : decode cJ0_coder_7d493 13 = .ok (.iconst 1, 1) := by decide +kernel
theorem dJ0_coder_7d493_14 : decode cJ0_coder_7d493 14 = .ok (.ireturn, 1) := by decide +kernel
theorem dJ0_isLatin1_aae02_0 : decode cJ0_isLatin1_aae02 0 = .ok (.getstatic 38, 3) := by decide +kernel
theorem dJ0_isLatin1_aae02_3 : decode cJ0_isLatin1_aae02 3 = .ok (.ifCond .eq 14, 3) := by decide +kernel
theorem dJ0_isLatin1_aae02_6 : decode cJ0_isLatin1_aae02 6 = .ok (.aload_n 0, 1) := by decide +kernel
theorem dJ0_isLatin1_aae02_7 : decode cJ0_isLatin1_aae02 7 = .ok (.getfield 15, 3) := by decide +kernel
theorem dJ0_isLatin1_aae02_10 : decode cJ0_isLatin1_aae02 10 = .ok (.ifCond .ne 7, 3) := by decide +kernel
theorem dJ0_isLatin1_aae02_13 : decode cJ0_isLatin1_aae02 13 = .ok (.iconst 1, 1) := by decide +kernel
theorem dJ0_isLatin1_aae02_14 : decode cJ0_isLatin1_aae02 14 = .ok (.goto 4, 3) := by decide +kernel
theorem dJ0_isLatin1_aae02_17 : decode cJ0_isLatin1_aae02 17 = .ok (.iconst 0, 1) := by decide +kernel
theorem dJ0_isLatin1_aae02_18 : decode cJ0_isLatin1_aae02 18 = .ok (.ireturn, 1) := by decide +kernel
theorem dJ0_checkIndex_df160_0 : decode cJ0_checkIndex_df160 0 = .ok (.iload_n 0, 1) := by decide +kernel
theorem dJ0_checkIndex_df160_1 : decode cJ0_checkIndex_df160 1 = .ok (.iload_n 1, 1) := by decide +kernel
theorem dJ0_checkIndex_df160_2 : decode cJ0_checkIndex_df160 2 = .ok (.getstatic 1053, 3) := by decide +kernel
theorem dJ0_checkIndex_df160_5 : decode cJ0_checkIndex_df160 5 = .ok (.invokestatic 1059, 3) := by decide +kernel
theorem dJ0_checkIndex_df160_8 : decode cJ0_checkIndex_df160 8 = .ok (.pop, 1) := by decide +kernel
theorem dJ0_checkIndex_df160_9 : decode cJ0_checkIndex_df160 9 = .ok (.return_, 1) := by decide +kernel
theorem dJ1_charAt_3b067_0 : decode cJ1_charAt_3b067 0 = .ok (.iload_n 1, 1) := by decide +kernel
theorem dJ1_charAt_3b067_1 : decode cJ1_charAt_3b067 1 = .ok (.aload_n 0, 1) := by decide +kernel
theorem dJ1_charAt_3b067_2 : decode cJ1_charAt_3b067 2 = .ok (.arraylength, 1) := by decide +kernel
theorem dJ1_charAt_3b067_3 : decode cJ1_charAt_3b067 3 = .ok (.invokestatic 9, 3) := by decide +kernel
theorem dJ1_charAt_3b067_6 : decode cJ1_charAt_3b067 6 = .ok (.aload_n 0, 1) := by decide +kernel
theorem dJ1_charAt_3b067_7 : decode cJ1_charAt_3b067 7 = .ok (.iload_n 1, 1) := by decide +kernel
theorem dJ1_charAt_3b067_8 : decode cJ1_charAt_3b067 8 = .ok (.baload, 1) := by decide +kernel
theorem dJ1_charAt_3b067_9 : decode cJ1_charAt_3b067 9 = .ok (.sipush 255, 3) := by decide +kernel
theorem dJ1_charAt_3b067_12 : decode cJ1_charAt_3b067 12 = .ok (.iand, 1) := by decide +kernel
theorem dJ1_charAt_3b067_13 : decode cJ1_charAt_3b067 13 = .ok (.i2c, 1) := by decide +kernel
theorem dJ1_charAt_3b067_14 : decode cJ1_charAt_3b067 14 = .ok (.ireturn, 1) := by decide +kernel
theorem dJ2_getChar_3b067_0 : decode cJ2_getChar_3b067 0 = .ok (.getstatic 44, 3) := by decide +kernel
theorem dJ2_getChar_3b067_3 : decode cJ2_getChar_3b067 3 = .ok (.ifCond .ne 25, 3) := by decide +kernel
theorem dJ2_getChar_3b067_6 : decode cJ2_getChar_3b067 6 = .ok (.iload_n 1, 1) := by decide +kernel
theorem dJ2_getChar_3b067_7 : decode cJ2_getChar_3b067 7 = .ok (.ifCond .lt 11, 3) := by decide +kernel
theorem dJ2_getChar_3b067_10 : decode cJ2_getChar_3b067 10 = .ok (.iload_n 1, 1) := by decide +kernel
theorem dJ2_getChar_3b067_11 : decode cJ2_getChar_3b067 11 = .ok (.aload_n 0, 1) := by decide +kernel
theorem dJ2_getChar_3b067_12 : decode cJ2_getChar_3b067 12 = .ok (.invokestatic 48, 3) := by decide +kernel
theorem dJ2_getChar_3b067_15 : decode cJ2_getChar_3b067 15 = .ok (.if_icmp .lt 13, 3) := by decide +kernel
theorem dJ2_getChar_3b067_18 : decode cJ2_getChar_3b067 18 = .ok (.new 52, 3) := by decide +kernel
theorem dJ2_getChar_3b067_21 : decode cJ2_getChar_3b067 21 = .ok (.dup, 1) := by decide +kernel
theorem dJ2_getChar_3b067_22 : decode cJ2_getChar_3b067 22 = .ok (.ldc 54, 2) := by decide +kernel
theorem dJ2_getChar_3b067_24 : decode cJ2_getChar_3b067 24 = .ok (.invokespecial 56, 3) := by decide +kernel
theorem dJ2_getChar_3b067_27 : decode cJ2_getChar_3b067 27 = .ok (.athrow, 1) := by decide +kernel
theorem dJ2_getChar_3b067_28 : decode cJ2_getChar_3b067 28 = .ok (.iload_n 1, 1) := by decide +kernel
theorem dJ2_getChar_3b067_29 : decode cJ2_getChar_3b067 29 = .ok (.iconst 1, 1) := by decide +kernel
theorem dJ2_getChar_3b067_30 : decode cJ2_getChar_3b067 30 = .ok (.ishl, 1) := by decide +kernel
theorem dJ2_getChar_3b067_31 : decode cJ2_getChar_3b067 31 = .ok (.istore_n 1, 1) := by decide +kernel
theorem dJ2_getChar_3b067_32 : decode cJ2_getChar_3b067 32 = .ok (.aload_n 0, 1) := by decide +kernel
theorem dJ2_getChar_3b067_33 : decode cJ2_getChar_3b067 33 = .ok (.iload_n 1, 1) := by decide +kernel
theorem dJ2_getChar_3b067_34 : decode cJ2_getChar_3b067 34 = .ok (.iinc 1 1, 3) := by decide +kernel
theorem dJ2_getChar_3b067_37 : decode cJ2_getChar_3b067 37 = .ok (.baload, 1) := by decide +kernel
theorem dJ2_getChar_3b067_38 : decode cJ2_getChar_3b067 38 = .ok (.sipush 255, 3) := by decide +kernel
theorem dJ2_getChar_3b067_41 : decode cJ2_getChar_3b067 41 = .ok (.iand, 1) := by decide +kernel
theorem dJ2_getChar_3b067_42 : decode cJ2_getChar_3b067 42 = .ok (.getstatic 59, 3) := by decide +kernel
theorem dJ2_getChar_3b067_45 : decode cJ2_getChar_3b067 45 = .ok (.ishl, 1) := by decide +kernel
theorem dJ2_getChar_3b067_46 : decode cJ2_getChar_3b067 46 = .ok (.aload_n 0, 1) := by decide +kernel
theorem dJ2_getChar_3b067_47 : decode cJ2_getChar_3b067 47 = .ok (.iload_n 1, 1) := by decide +kernel
theorem dJ2_getChar_3b067_48 : decode cJ2_getChar_3b067 48 = .ok (.baload, 1) := by decide +kernel
theorem dJ2_getChar_3b067_49 : decode cJ2_getChar_3b067 49 = .ok (.sipush 255, 3) := by decide +kernel
theorem dJ2_getChar_3b067_52 : decode cJ2_getChar_3b067 52 = .ok (.iand, 1) := by decide +kernel
theorem dJ2_getChar_3b067_53 : decode cJ2_getChar_3b067 53 = .ok (.getstatic 63, 3) := by decide +kernel
theorem dJ2_getChar_3b067_56 : decode cJ2_getChar_3b067 56 = .ok (.ishl, 1) := by decide +kernel
theorem dJ2_getChar_3b067_57 : decode cJ2_getChar_3b067 57 = .ok (.ior, 1) := by decide +kernel
theorem dJ2_getChar_3b067_58 : decode cJ2_getChar_3b067 58 = .ok (.i2c, 1) := by decide +kernel
theorem dJ2_getChar_3b067_59 : decode cJ2_getChar_3b067 59 = .ok (.ireturn, 1) := by decide +kernel
theorem dJ2_length_9d52b_0 : decode cJ2_length_9d52b 0 = .ok (.aload_n 0, 1) := by decide +kernel
theorem dJ2_length_9d52b_1 : decode cJ2_length_9d52b 1 = .ok (.arraylength, 1) := by decide +kernel
theorem dJ2_length_9d52b_2 : decode cJ2_length_9d52b 2 = .ok (.iconst 1, 1) := by decide +kernel
theorem dJ2_length_9d52b_3 : decode cJ2_length_9d52b 3 = .ok (.ishr, 1) := by decide +kernel
theorem dJ2_length_9d52b_4 : decode cJ2_length_9d52b 4 = .ok (.ireturn, 1) := by decide +kernel
theorem dJ2_charAt_3b067_0 : decode cJ2_charAt_3b067 0 = .ok (.iload_n 1, 1) := by decide +kernel
theorem dJ2_charAt_3b067_1 : decode cJ2_charAt_3b067 1 = .ok (.aload_n 0, 1) := by decide +kernel
theorem dJ2_charAt_3b067_2 : decode cJ2_charAt_3b067 2 = .ok (.invokestatic 67, 3) := by decide +kernel
theorem dJ2_charAt_3b067_5 : decode cJ2_charAt_3b067 5 = .ok (.aload_n 0, 1) := by decide +kernel
theorem dJ2_charAt_3b067_6 : decode cJ2_charAt_3b067 6 = .ok (.iload_n 1, 1) := by decide +kernel
theorem dJ2_charAt_3b067_7 : decode cJ2_charAt_3b067 7 = .ok (.invokestatic 71, 3) := by decide +kernel
theorem dJ2_charAt_3b067_10 : decode cJ2_charAt_3b067 10 = .ok (.ireturn, 1) := by decide +kernel
theorem dJ2_checkIndex_2214a_0 : decode cJ2_checkIndex_2214a 0 = .ok (.iload_n 0, 1) := by decide +kernel
theorem dJ2_checkIndex_2214a_1 : decode cJ2_checkIndex_2214a 1 = .ok (.aload_n 1, 1) := by decide +kernel
theorem dJ2_checkIndex_2214a_2 : decode cJ2_checkIndex_2214a 2 = .ok (.invokestatic 48, 3) := by decide +kernel
theorem dJ2_checkIndex_2214a_5 : decode cJ2_checkIndex_2214a 5 = .ok (.invokestatic 414, 3) := by decide +kernel
theorem dJ2_checkIndex_2214a_8 : decode cJ2_checkIndex_2214a 8 = .ok (.return_, 1) := by decide +kernel
theorem dJ3_checkIndex_8e157_0 : decode cJ3_checkIndex_8e157 0 = .ok (.iload_n 0, 1) := by decide +kernel
theorem dJ3_checkIndex_8e157_1 : decode cJ3_checkIndex_8e157 1 = .ok (.ifCond .lt 8, 3) := by decide +kernel
theorem dJ3_checkIndex_8e157_4 : decode cJ3_checkIndex_8e157 4 = .ok (.iload_n 0, 1) := by decide +kernel
theorem dJ3_checkIndex_8e157_5 : decode cJ3_checkIndex_8e157 5 = .ok (.iload_n 1, 1) := by decide +kernel
theorem dJ3_checkIndex_8e157_6 : decode cJ3_checkIndex_8e157 6 = .ok (.if_icmp .lt 10, 3) := by decide +kernel
theorem dJ3_checkIndex_8e157_9 : decode cJ3_checkIndex_8e157 9 = .ok (.aload_n 2, 1) := by decide +kernel
theorem dJ3_checkIndex_8e157_10 : decode cJ3_checkIndex_8e157 10 = .ok (.iload_n 0, 1) := by decide +kernel
theorem dJ3_checkIndex_8e157_11 : decode cJ3_checkIndex_8e157 11 = .ok (.iload_n 1, 1) := by decide +kernel
theorem dJ3_checkIndex_8e157_12 : decode cJ3_checkIndex_8e157 12 = .ok (.invokestatic 95, 3) := by decide +kernel
theorem dJ3_checkIndex_8e157_15 : decode cJ3_checkIndex_8e157 15 = .ok (.athrow, 1) := by decide +kernel
theorem dJ3_checkIndex_8e157_16 : decode cJ3_checkIndex_8e157 16 = .ok (.iload_n 0, 1) := by decide +kernel
theorem dJ3_checkIndex_8e157_17 : decode cJ3_checkIndex_8e157 17 = .ok (.ireturn, 1) := by decide +kernel
theorem dL_law_0 : decode cL_law 0 = .ok (.new 7, 3) := by decide +kernel
theorem dL_law_3 : decode cL_law 3 = .ok (.dup, 1) := by decide +kernel
theorem dL_law_4 : decode cL_law 4 = .ok (.invokespecial 9, 3) := by decide +kernel
theorem dL_law_7 : decode cL_law 7 = .ok (.astore_n 1, 1) := by decide +kernel
theorem dL_law_8 : decode cL_law 8 = .ok (.new 10, 3) := by decide +kernel
theorem dL_law_11 : decode cL_law 11 = .ok (.dup, 1) := by decide +kernel
theorem dL_law_12 : decode cL_law 12 = .ok (.invokespecial 12, 3) := by decide +kernel
theorem dL_law_15 : decode cL_law 15 = .ok (.astore_n 2, 1) := by decide +kernel
theorem dL_law_16 : decode cL_law 16 = .ok (.iconst 0, 1) := by decide +kernel
theorem dL_law_17 : decode cL_law 17 = .ok (.istore_n 3, 1) := by decide +kernel
theorem dL_law_18 : decode cL_law 18 = .ok (.iload_n 3, 1) := by decide +kernel
theorem dL_law_19 : decode cL_law 19 = .ok (.aload_n 0, 1) := by decide +kernel
theorem dL_law_20 : decode cL_law 20 = .ok (.arraylength, 1) := by decide +kernel
theorem dL_law_21 : decode cL_law 21 = .ok (.bipush 6, 2) := by decide +kernel
theorem dL_law_23 : decode cL_law 23 = .ok (.isub, 1) := by decide +kernel
theorem dL_law_24 : decode cL_law 24 = .ok (.if_icmp .gt 1097, 3) := by decide +kernel
theorem dL_law_27 : decode cL_law 27 = .ok (.aload_n 0, 1) := by decide +kernel
theorem dL_law_28 : decode cL_law 28 = .ok (.iload_n 3, 1) := by decide +kernel
theorem dL_law_29 : decode cL_law 29 = .ok (.iaload, 1) := by decide +kernel
theorem dL_law_30 : decode cL_law 30 = .ok (.bipush 31, 2) := by decide +kernel
theorem dL_law_32 : decode cL_law 32 = .ok (.iand, 1) := by decide +kernel
theorem dL_law_33 : decode cL_law 33 = .ok (.tableswitch 1082 0 30 #[139, 182, 225, 288, 311, 374, 387, 400, 433, 466, 499, 542, 565, 608, 641, 664, 687, 710, 743, 756, 799, 852, 865, 878, 911, 934, 957, 990, 1023, 1046, 1069], 139) := by decide +kernel
theorem dL_law_172 : decode cL_law 172 = .ok (.aload_n 1, 1) := by decide +kernel
theorem dL_law_173 : decode cL_law 173 = .ok (.aload_n 0, 1) := by decide +kernel
theorem dL_law_174 : decode cL_law 174 = .ok (.iload_n 3, 1) := by decide +kernel
theorem dL_law_175 : decode cL_law 175 = .ok (.iconst 1, 1) := by decide +kernel
theorem dL_law_176 : decode cL_law 176 = .ok (.iadd, 1) := by decide +kernel
theorem dL_law_177 : decode cL_law 177 = .ok (.iaload, 1) := by decide +kernel
theorem dL_law_178 : decode cL_law 178 = .ok (.aload_n 0, 1) := by decide +kernel
theorem dL_law_179 : decode cL_law 179 = .ok (.iload_n 3, 1) := by decide +kernel
theorem dL_law_180 : decode cL_law 180 = .ok (.iconst 2, 1) := by decide +kernel
theorem dL_law_181 : decode cL_law 181 = .ok (.iadd, 1) := by decide +kernel
theorem dL_law_182 : decode cL_law 182 = .ok (.iaload, 1) := by decide +kernel
theorem dL_law_183 : decode cL_law 183 = .ok (.aload_n 0, 1) := by decide +kernel
theorem dL_law_184 : decode cL_law 184 = .ok (.iload_n 3, 1) := by decide +kernel
theorem dL_law_185 : decode cL_law 185 = .ok (.iconst 3, 1) := by decide +kernel
theorem dL_law_186 : decode cL_law 186 = .ok (.iadd, 1) := by decide +kernel
theorem dL_law_187 : decode cL_law 187 = .ok (.iaload, 1) := by decide +kernel
theorem dL_law_188 : decode cL_law 188 = .ok (.invokevirtual 13, 3) := by decide +kernel
theorem dL_law_191 : decode cL_law 191 = .ok (.aload_n 2, 1) := by decide +kernel
theorem dL_law_192 : decode cL_law 192 = .ok (.aload_n 0, 1) := by decide +kernel
theorem dL_law_193 : decode cL_law 193 = .ok (.iload_n 3, 1) := by decide +kernel
theorem dL_law_194 : decode cL_law 194 = .ok (.iconst 1, 1) := by decide +kernel
theorem dL_law_195 : decode cL_law 195 = .ok (.iadd, 1) := by decide +kernel
theorem dL_law_196 : decode cL_law 196 = .ok (.iaload, 1) := by decide +kernel
theorem dL_law_197 : decode cL_law 197 = .ok (.aload_n 0, 1) := by decide +kernel
theorem dL_law_198 : decode cL_law 198 = .ok (.iload_n 3, 1) := by decide +kernel
theorem dL_law_199 : decode cL_law 199 = .ok (.iconst 2, 1) := by decide +kernel
theorem dL_law_200 : decode cL_law 200 = .ok (.iadd, 1) := by decide +kernel
theorem dL_law_201 : decode cL_law 201 = .ok (.iaload, 1) := by decide +kernel
theorem dL_law_202 : decode cL_law 202 = .ok (.aload_n 0, 1) := by decide +kernel
theorem dL_law_203 : decode cL_law 203 = .ok (.iload_n 3, 1) := by decide +kernel
theorem dL_law_204 : decode cL_law 204 = .ok (.iconst 3, 1) := by decide +kernel
theorem dL_law_205 : decode cL_law 205 = .ok (.iadd, 1) := by decide +kernel
theorem dL_law_206 : decode cL_law 206 = .ok (.iaload, 1) := by decide +kernel
theorem dL_law_207 : decode cL_law 207 = .ok (.invokevirtual 17, 3) := by decide +kernel
theorem dL_law_210 : decode cL_law 210 = .ok (.if_icmp .eq 905, 3) := by decide +kernel
theorem dL_law_213 : decode cL_law 213 = .ok (.iconst 0, 1) := by decide +kernel
theorem dL_law_214 : decode cL_law 214 = .ok (.ireturn, 1) := by decide +kernel
theorem dL_law_215 : decode cL_law 215 = .ok (.aload_n 1, 1) := by decide +kernel
theorem dL_law_216 : decode cL_law 216 = .ok (.aload_n 0, 1) := by decide +kernel
theorem dL_law_217 : decode cL_law 217 = .ok (.iload_n 3, 1) := by decide +kernel
theorem dL_law_218 : decode cL_law 218 = .ok (.iconst 1, 1) := by decide +kernel
theorem dL_law_219 : decode cL_law 219 = .ok (.iadd, 1) := by decide +kernel
theorem dL_law_220 : decode cL_law 220 = .ok (.iaload, 1) := by decide +kernel
theorem dL_law_221 : decode cL_law 221 = .ok (.aload_n 0, 1) := by decide +kernel
theorem dL_law_222 : decode cL_law 222 = .ok (.iload_n 3, 1) := by decide +kernel
theorem dL_law_223 : decode cL_law 223 = .ok (.iconst 2, 1) := by decide +kernel
theorem dL_law_224 : decode cL_law 224 = .ok (.iadd, 1) := by decide +kernel
theorem dL_law_225 : decode cL_law 225 = .ok (.iaload, 1) := by decide +kernel
theorem dL_law_226 : decode cL_law 226 = .ok (.aload_n 0, 1) := by decide +kernel
theorem dL_law_227 : decode cL_law 227 = .ok (.iload_n 3, 1) := by decide +kernel
theorem dL_law_228 : decode cL_law 228 = .ok (.iconst 3, 1) := by decide +kernel
theorem dL_law_229 : decode cL_law 229 = .ok (.iadd, 1) := by decide +kernel
theorem dL_law_230 : decode cL_law 230 = .ok (.iaload, 1) := by decide +kernel
theorem dL_law_231 : decode cL_law 231 = .ok (.invokevirtual 18, 3) := by decide +kernel
theorem dL_law_234 : decode cL_law 234 = .ok (.aload_n 2, 1) := by decide +kernel
theorem dL_law_235 : decode cL_law 235 = .ok (.aload_n 0, 1) := by decide +kernel
theorem dL_law_236 : decode cL_law 236 = .ok (.iload_n 3, 1) := by decide +kernel
theorem dL_law_237 : decode cL_law 237 = .ok (.iconst 1, 1) := by decide +kernel
theorem dL_law_238 : decode cL_law 238 = .ok (.iadd, 1) := by decide +kernel
theorem dL_law_239 : decode cL_law 239 = .ok (.iaload, 1) := by decide +kernel
theorem dL_law_240 : decode cL_law 240 = .ok (.aload_n 0, 1) := by decide +kernel
theorem dL_law_241 : decode cL_law 241 = .ok (.iload_n 3, 1) := by decide +kernel
theorem dL_law_242 : decode cL_law 242 = .ok (.iconst 2, 1) := by decide +kernel
theorem dL_law_243 : decode cL_law 243 = .ok (.iadd, 1) := by decide +kernel
theorem dL_law_244 : decode cL_law 244 = .ok (.iaload, 1) := by decide +kernel
theorem dL_law_245 : decode cL_law 245 = .ok (.aload_n 0, 1) := by decide +kernel
theorem dL_law_246 : decode cL_law 246 = .ok (.iload_n 3, 1) := by decide +kernel
theorem dL_law_247 : decode cL_law 247 = .ok (.iconst 3, 1) := by decide +kernel
theorem dL_law_248 : decode cL_law 248 = .ok (.iadd, 1) := by decide +kernel
theorem dL_law_249 : decode cL_law 249 = .ok (.iaload, 1) := by decide +kernel
theorem dL_law_250 : decode cL_law 250 = .ok (.invokevirtual 21, 3) := by decide +kernel
theorem dL_law_253 : decode cL_law 253 = .ok (.if_icmp .eq 862, 3) := by decide +kernel
theorem dL_law_256 : decode cL_law 256 = .ok (.iconst 0, 1) := by decide +kernel
theorem dL_law_257 : decode cL_law 257 = .ok (.ireturn, 1) := by decide +kernel
theorem dL_law_258 : decode cL_law 258 = .ok (.aload_n 1, 1) := by decide +kernel
theorem dL_law_259 : decode cL_law 259 = .ok (.aload_n 0, 1) := by decide +kernel
theorem dL_law_260 : decode cL_law 260 = .ok (.iload_n 3, 1) := by decide +kernel
theorem dL_law_261 : decode cL_law 261 = .ok (.iconst 1, 1) := by decide +kernel
theorem dL_law_262 : decode cL_law 262 = .ok (.iadd, 1) := by decide +kernel
theorem dL_law_263 : decode cL_law 263 = .ok (.iaload, 1) := by decide +kernel
theorem dL_law_264 : decode cL_law 264 = .ok (.aload_n 0, 1) := by decide +kernel
theorem dL_law_265 : decode cL_law 265 = .ok (.iload_n 3, 1) := by decide +kernel
theorem dL_law_266 : decode cL_law 266 = .ok (.iconst 2, 1) := by decide +kernel
theorem dL_law_267 : decode cL_law 267 = .ok (.iadd, 1) := by decide +kernel
theorem dL_law_268 : decode cL_law 268 = .ok (.iaload, 1) := by decide +kernel
theorem dL_law_269 : decode cL_law 269 = .ok (.aload_n 0, 1) := by decide +kernel
theorem dL_law_270 : decode cL_law 270 = .ok (.iload_n 3, 1) := by decide +kernel
theorem dL_law_271 : decode cL_law 271 = .ok (.iconst 3, 1) := by decide +kernel
theorem dL_law_272 : decode cL_law 272 = .ok (.iadd, 1) := by decide +kernel
theorem dL_law_273 : decode cL_law 273 = .ok (.iaload, 1) := by decide +kernel
theorem dL_law_274 : decode cL_law 274 = .ok (.aload_n 0, 1) := by decide +kernel
theorem dL_law_275 : decode cL_law 275 = .ok (.iload_n 3, 1) := by decide +kernel
theorem dL_law_276 : decode cL_law 276 = .ok (.iconst 4, 1) := by decide +kernel
theorem dL_law_277 : decode cL_law 277 = .ok (.iadd, 1) := by decide +kernel
theorem dL_law_278 : decode cL_law 278 = .ok (.iaload, 1) := by decide +kernel
theorem dL_law_279 : decode cL_law 279 = .ok (.aload_n 0, 1) := by decide +kernel
theorem dL_law_280 : decode cL_law 280 = .ok (.iload_n 3, 1) := by decide +kernel
theorem dL_law_281 : decode cL_law 281 = .ok (.iconst 5, 1) := by decide +kernel
theorem dL_law_282 : decode cL_law 282 = .ok (.iadd, 1) := by decide +kernel
theorem dL_law_283 : decode cL_law 283 = .ok (.iaload, 1) := by decide +kernel
theorem dL_law_284 : decode cL_law 284 = .ok (.invokevirtual 22, 3) := by decide +kernel
theorem dL_law_287 : decode cL_law 287 = .ok (.aload_n 2, 1) := by decide +kernel
theorem dL_law_288 : decode cL_law 288 = .ok (.aload_n 0, 1) := by decide +kernel
theorem dL_law_289 : decode cL_law 289 = .ok (.iload_n 3, 1) := by decide +kernel
theorem dL_law_290 : decode cL_law 290 = .ok (.iconst 1, 1) := by decide +kernel
theorem dL_law_291 : decode cL_law 291 = .ok (.iadd, 1) := by decide +kernel
theorem dL_law_292 : decode cL_law 292 = .ok (.iaload, 1) := by decide +kernel
theorem dL_law_293 : decode cL_law 293 = .ok (.aload_n 0, 1) := by decide +kernel
theorem dL_law_294 : decode cL_law 294 = .ok (.iload_n 3, 1) := by decide +kernel
theorem dL_law_295 : decode cL_law 295 = .ok (.iconst 2, 1) := by decide +kernel
theorem dL_law_296 : decode cL_law 296 = .ok (.iadd, 1) := by decide +kernel
theorem dL_law_297 : decode cL_law 297 = .ok (.iaload, 1) := by decide +kernel
theorem dL_law_298 : decode cL_law 298 = .ok (.aload_n 0, 1) := by decide +kernel
theorem dL_law_299 : decode cL_law 299 = .ok (.iload_n 3, 1) := by decide +kernel
theorem dL_law_300 : decode cL_law 300 = .ok (.iconst 3, 1) := by decide +kernel
theorem dL_law_301 : decode cL_law 301 = .ok (.iadd, 1) := by decide +kernel
theorem dL_law_302 : decode cL_law 302 = .ok (.iaload, 1) := by decide +kernel
theorem dL_law_303 : decode cL_law 303 = .ok (.aload_n 0, 1) := by decide +kernel
theorem dL_law_304 : decode cL_law 304 = .ok (.iload_n 3, 1) := by decide +kernel
theorem dL_law_305 : decode cL_law 305 = .ok (.iconst 4, 1) := by decide +kernel
theorem dL_law_306 : decode cL_law 306 = .ok (.iadd, 1) := by decide +kernel
theorem dL_law_307 : decode cL_law 307 = .ok (.iaload, 1) := by decide +kernel
theorem dL_law_308 : decode cL_law 308 = .ok (.aload_n 0, 1) := by decide +kernel
theorem dL_law_309 : decode cL_law 309 = .ok (.iload_n 3, 1) := by decide +kernel
theorem dL_law_310 : decode cL_law 310 = .ok (.iconst 5, 1) := by decide +kernel
theorem dL_law_311 : decode cL_law 311 = .ok (.iadd, 1) := by decide +kernel
theorem dL_law_312 : decode cL_law 312 = .ok (.iaload, 1) := by decide +kernel
theorem dL_law_313 : decode cL_law 313 = .ok (.invokevirtual 26, 3) := by decide +kernel
theorem dL_law_316 : decode cL_law 316 = .ok (.if_icmp .eq 799, 3) := by decide +kernel
theorem dL_law_319 : decode cL_law 319 = .ok (.iconst 0, 1) := by decide +kernel
theorem dL_law_320 : decode cL_law 320 = .ok (.ireturn, 1) := by decide +kernel
theorem dL_law_321 : decode cL_law 321 = .ok (.aload_n 1, 1) := by decide +kernel
theorem dL_law_322 : decode cL_law 322 = .ok (.aload_n 0, 1) := by decide +kernel
theorem dL_law_323 : decode cL_law 323 = .ok (.iload_n 3, 1) := by decide +kernel
theorem dL_law_324 : decode cL_law 324 = .ok (.iconst 1, 1) := by decide +kernel
theorem dL_law_325 : decode cL_law 325 = .ok (.iadd, 1) := by decide +kernel
theorem dL_law_326 : decode cL_law 326 = .ok (.iaload, 1) := by decide +kernel
theorem dL_law_327 : decode cL_law 327 = .ok (.invokevirtual 27, 3) := by decide +kernel
theorem dL_law_330 : decode cL_law 330 = .ok (.aload_n 2, 1) := by decide +kernel
theorem dL_law_331 : decode cL_law 331 = .ok (.aload_n 0, 1) := by decide +kernel
theorem dL_law_332 : decode cL_law 332 = .ok (.iload_n 3, 1) := by decide +kernel
theorem dL_law_333 : decode cL_law 333 = .ok (.iconst 1, 1) := by decide +kernel
theorem dL_law_334 : decode cL_law 334 = .ok (.iadd, 1) := by decide +kernel
theorem dL_law_335 : decode cL_law 335 = .ok (.iaload, 1) := by decide +kernel
theorem dL_law_336 : decode cL_law 336 = .ok (.invokevirtual 31, 3) := by decide +kernel
theorem dL_law_339 : decode cL_law 339 = .ok (.if_icmp .eq 776, 3) := by decide +kernel
theorem dL_law_342 : decode cL_law 342 = .ok (.iconst 0, 1) := by decide +kernel
theorem dL_law_343 : decode cL_law 343 = .ok (.ireturn, 1) := by decide +kernel
theorem dL_law_344 : decode cL_law 344 = .ok (.aload_n 1, 1) := by decide +kernel
theorem dL_law_345 : decode cL_law 345 = .ok (.aload_n 0, 1) := by decide +kernel
theorem dL_law_346 : decode cL_law 346 = .ok (.iload_n 3, 1) := by decide +kernel
theorem dL_law_347 : decode cL_law 347 = .ok (.iconst 1, 1) := by decide +kernel
theorem dL_law_348 : decode cL_law 348 = .ok (.iadd, 1) := by decide +kernel
theorem dL_law_349 : decode cL_law 349 = .ok (.iaload, 1) := by decide +kernel
theorem dL_law_350 : decode cL_law 350 = .ok (.i2l, 1) := by decide +kernel
theorem dL_law_351 : decode cL_law 351 = .ok (.bipush 32, 2) := by decide +kernel
theorem dL_law_353 : decode cL_law 353 = .ok (.lshl, 1) := by decide +kernel
theorem dL_law_354 : decode cL_law 354 = .ok (.aload_n 0, 1) := by decide +kernel
theorem dL_law_355 : decode cL_law 355 = .ok (.iload_n 3, 1) := by decide +kernel
theorem dL_law_356 : decode cL_law 356 = .ok (.iconst 2, 1) := by decide +kernel
theorem dL_law_357 : decode cL_law 357 = .ok (.iadd, 1) := by decide +kernel
theorem dL_law_358 : decode cL_law 358 = .ok (.iaload, 1) := by decide +kernel
theorem dL_law_359 : decode cL_law 359 = .ok (.i2l, 1) := by decide +kernel
theorem dL_law_360 : decode cL_law 360 = .ok (.ldc2_w 32, 3) := by decide +kernel
theorem dL_law_363 : decode cL_law 363 = .ok (.land, 1) := by decide +kernel
theorem dL_law_364 : decode cL_law 364 = .ok (.lor, 1) := by decide +kernel
theorem dL_law_365 : decode cL_law 365 = .ok (.aload_n 0, 1) := by decide +kernel
theorem dL_law_366 : decode cL_law 366 = .ok (.iload_n 3, 1) := by decide +kernel
theorem dL_law_367 : decode cL_law 367 = .ok (.iconst 3, 1) := by decide +kernel
theorem dL_law_368 : decode cL_law 368 = .ok (.iadd, 1) := by decide +kernel
theorem dL_law_369 : decode cL_law 369 = .ok (.iaload, 1) := by decide +kernel
theorem dL_law_370 : decode cL_law 370 = .ok (.invokevirtual 34, 3) := by decide +kernel
theorem dL_law_373 : decode cL_law 373 = .ok (.aload_n 2, 1) := by decide +kernel
theorem dL_law_374 : decode cL_law 374 = .ok (.aload_n 0, 1) := by decide +kernel
theorem dL_law_375 : decode cL_law 375 = .ok (.iload_n 3, 1) := by decide +kernel
theorem dL_law_376 : decode cL_law 376 = .ok (.iconst 1, 1) := by decide +kernel
theorem dL_law_377 : decode cL_law 377 = .ok (.iadd, 1) := by decide +kernel
theorem dL_law_378 : decode cL_law 378 = .ok (.iaload, 1) := by decide +kernel
theorem dL_law_379 : decode cL_law 379 = .ok (.i2l, 1) := by decide +kernel
theorem dL_law_380 : decode cL_law 380 = .ok (.bipush 32, 2) := by decide +kernel
theorem dL_law_382 : decode cL_law 382 = .ok (.lshl, 1) := by decide +kernel
theorem dL_law_383 : decode cL_law 383 = .ok (.aload_n 0, 1) := by decide +kernel
theorem dL_law_384 : decode cL_law 384 = .ok (.iload_n 3, 1) := by decide +kernel
theorem dL_law_385 : decode cL_law 385 = .ok (.iconst 2, 1) := by decide +kernel
theorem dL_law_386 : decode cL_law 386 = .ok (.iadd, 1) := by decide +kernel
theorem dL_law_387 : decode cL_law 387 = .ok (.iaload, 1) := by decide +kernel
theorem dL_law_388 : decode cL_law 388 = .ok (.i2l, 1) := by decide +kernel
theorem dL_law_389 : decode cL_law 389 = .ok (.ldc2_w 32, 3) := by decide +kernel
theorem dL_law_392 : decode cL_law 392 = .ok (.land, 1) := by decide +kernel
theorem dL_law_393 : decode cL_law 393 = .ok (.lor, 1) := by decide +kernel
theorem dL_law_394 : decode cL_law 394 = .ok (.aload_n 0, 1) := by decide +kernel
theorem dL_law_395 : decode cL_law 395 = .ok (.iload_n 3, 1) := by decide +kernel
theorem dL_law_396 : decode cL_law 396 = .ok (.iconst 3, 1) := by decide +kernel
theorem dL_law_397 : decode cL_law 397 = .ok (.iadd, 1) := by decide +kernel
theorem dL_law_398 : decode cL_law 398 = .ok (.iaload, 1) := by decide +kernel
theorem dL_law_399 : decode cL_law 399 = .ok (.invokevirtual 38, 3) := by decide +kernel
theorem dL_law_402 : decode cL_law 402 = .ok (.if_icmp .eq 713, 3) := by decide +kernel
theorem dL_law_405 : decode cL_law 405 = .ok (.iconst 0, 1) := by decide +kernel
theorem dL_law_406 : decode cL_law 406 = .ok (.ireturn, 1) := by decide +kernel
theorem dL_law_407 : decode cL_law 407 = .ok (.aload_n 1, 1) := by decide +kernel
theorem dL_law_408 : decode cL_law 408 = .ok (.invokevirtual 39, 3) := by decide +kernel
theorem dL_law_411 : decode cL_law 411 = .ok (.aload_n 2, 1) := by decide +kernel
theorem dL_law_412 : decode cL_law 412 = .ok (.invokevirtual 43, 3) := by decide +kernel
theorem dL_law_415 : decode cL_law 415 = .ok (.if_icmp .eq 700, 3) := by decide +kernel
theorem dL_law_418 : decode cL_law 418 = .ok (.iconst 0, 1) := by decide +kernel
theorem dL_law_419 : decode cL_law 419 = .ok (.ireturn, 1) := by decide +kernel
theorem dL_law_420 : decode cL_law 420 = .ok (.aload_n 1, 1) := by decide +kernel
theorem dL_law_421 : decode cL_law 421 = .ok (.invokevirtual 44, 3) := by decide +kernel
theorem dL_law_424 : decode cL_law 424 = .ok (.aload_n 2, 1) := by decide +kernel
theorem dL_law_425 : decode cL_law 425 = .ok (.invokevirtual 47, 3) := by decide +kernel
theorem dL_law_428 : decode cL_law 428 = .ok (.if_icmp .eq 687, 3) := by decide +kernel
theorem dL_law_431 : decode cL_law 431 = .ok (.iconst 0, 1) := by decide +kernel
theorem dL_law_432 : decode cL_law 432 = .ok (.ireturn, 1) := by decide +kernel
theorem dL_law_433 : decode cL_law 433 = .ok (.aload_n 1, 1) := by decide +kernel
theorem dL_law_434 : decode cL_law 434 = .ok (.aload_n 0, 1) := by decide +kernel
theorem dL_law_435 : decode cL_law 435 = .ok (.iload_n 3, 1) := by decide +kernel
theorem dL_law_436 : decode cL_law 436 = .ok (.iconst 1, 1) := by decide +kernel
theorem dL_law_437 : decode cL_law 437 = .ok (.iadd, 1) := by decide +kernel
theorem dL_law_438 : decode cL_law 438 = .ok (.iaload, 1) := by decide +kernel
theorem dL_law_439 : decode cL_law 439 = .ok (.aload_n 0, 1) := by decide +kernel
theorem dL_law_440 : decode cL_law 440 = .ok (.iload_n 3, 1) := by decide +kernel
theorem dL_law_441 : decode cL_law 441 = .ok (.iconst 2, 1) := by decide +kernel
theorem dL_law_442 : decode cL_law 442 = .ok (.iadd, 1) := by decide +kernel
theorem dL_law_443 : decode cL_law 443 = .ok (.iaload, 1) := by decide +kernel
theorem dL_law_444 : decode cL_law 444 = .ok (.invokevirtual 48, 3) := by decide +kernel
theorem dL_law_447 : decode cL_law 447 = .ok (.aload_n 2, 1) := by decide +kernel
theorem dL_law_448 : decode cL_law 448 = .ok (.aload_n 0, 1) := by decide +kernel
theorem dL_law_449 : decode cL_law 449 = .ok (.iload_n 3, 1) := by decide +kernel
theorem dL_law_450 : decode cL_law 450 = .ok (.iconst 1, 1) := by decide +kernel
theorem dL_law_451 : decode cL_law 451 = .ok (.iadd, 1) := by decide +kernel
theorem dL_law_452 : decode cL_law 452 = .ok (.iaload, 1) := by decide +kernel
theorem dL_law_453 : decode cL_law 453 = .ok (.aload_n 0, 1) := by decide +kernel
theorem dL_law_454 : decode cL_law 454 = .ok (.iload_n 3, 1) := by decide +kernel
theorem dL_law_455 : decode cL_law 455 = .ok (.iconst 2, 1) := by decide +kernel
theorem dL_law_456 : decode cL_law 456 = .ok (.iadd, 1) := by decide +kernel
theorem dL_law_457 : decode cL_law 457 = .ok (.iaload, 1) := by decide +kernel
theorem dL_law_458 : decode cL_law 458 = .ok (.invokevirtual 52, 3) := by decide +kernel
theorem dL_law_461 : decode cL_law 461 = .ok (.if_icmp .eq 654, 3) := by decide +kernel
theorem dL_law_464 : decode cL_law 464 = .ok (.iconst 0, 1) := by decide +kernel
theorem dL_law_465 : decode cL_law 465 = .ok (.ireturn, 1) := by decide +kernel
theorem dL_law_466 : decode cL_law 466 = .ok (.aload_n 1, 1) := by decide +kernel
theorem dL_law_467 : decode cL_law 467 = .ok (.aload_n 0, 1) := by decide +kernel
theorem dL_law_468 : decode cL_law 468 = .ok (.iload_n 3, 1) := by decide +kernel
theorem dL_law_469 : decode cL_law 469 = .ok (.iconst 1, 1) := by decide +kernel
theorem dL_law_470 : decode cL_law 470 = .ok (.iadd, 1) := by decide +kernel
theorem dL_law_471 : decode cL_law 471 = .ok (.iaload, 1) := by decide +kernel
theorem dL_law_472 : decode cL_law 472 = .ok (.aload_n 0, 1) := by decide +kernel
theorem dL_law_473 : decode cL_law 473 = .ok (.iload_n 3, 1) := by decide +kernel
theorem dL_law_474 : decode cL_law 474 = .ok (.iconst 2, 1) := by decide +kernel
theorem dL_law_475 : decode cL_law 475 = .ok (.iadd, 1) := by decide +kernel
theorem dL_law_476 : decode cL_law 476 = .ok (.iaload, 1) := by decide +kernel
theorem dL_law_477 : decode cL_law 477 = .ok (.invokevirtual 53, 3) := by decide +kernel
theorem dL_law_480 : decode cL_law 480 = .ok (.aload_n 2, 1) := by decide +kernel
theorem dL_law_481 : decode cL_law 481 = .ok (.aload_n 0, 1) := by decide +kernel
theorem dL_law_482 : decode cL_law 482 = .ok (.iload_n 3, 1) := by decide +kernel
theorem dL_law_483 : decode cL_law 483 = .ok (.iconst 1, 1) := by decide +kernel
theorem dL_law_484 : decode cL_law 484 = .ok (.iadd, 1) := by decide +kernel
theorem dL_law_485 : decode cL_law 485 = .ok (.iaload, 1) := by decide +kernel
theorem dL_law_486 : decode cL_law 486 = .ok (.aload_n 0, 1) := by decide +kernel
theorem dL_law_487 : decode cL_law 487 = .ok (.iload_n 3, 1) := by decide +kernel
theorem dL_law_488 : decode cL_law 488 = .ok (.iconst 2, 1) := by decide +kernel
theorem dL_law_489 : decode cL_law 489 = .ok (.iadd, 1) := by decide +kernel
theorem dL_law_490 : decode cL_law 490 = .ok (.iaload, 1) := by decide +kernel
theorem dL_law_491 : decode cL_law 491 = .ok (.invokevirtual 56, 3) := by decide +kernel
theorem dL_law_494 : decode cL_law 494 = .ok (.if_icmp .eq 621, 3) := by decide +kernel
theorem dL_law_497 : decode cL_law 497 = .ok (.iconst 0, 1) := by decide +kernel
theorem dL_law_498 : decode cL_law 498 = .ok (.ireturn, 1) := by decide +kernel
theorem dL_law_499 : decode cL_law 499 = .ok (.aload_n 1, 1) := by decide +kernel
theorem dL_law_500 : decode cL_law 500 = .ok (.aload_n 0, 1) := by decide +kernel
theorem dL_law_501 : decode cL_law 501 = .ok (.iload_n 3, 1) := by decide +kernel
theorem dL_law_502 : decode cL_law 502 = .ok (.iconst 1, 1) := by decide +kernel
theorem dL_law_503 : decode cL_law 503 = .ok (.iadd, 1) := by decide +kernel
theorem dL_law_504 : decode cL_law 504 = .ok (.iaload, 1) := by decide +kernel
theorem dL_law_505 : decode cL_law 505 = .ok (.aload_n 0, 1) := by decide +kernel
theorem dL_law_506 : decode cL_law 506 = .ok (.iload_n 3, 1) := by decide +kernel
theorem dL_law_507 : decode cL_law 507 = .ok (.iconst 2, 1) := by decide +kernel
theorem dL_law_508 : decode cL_law 508 = .ok (.iadd, 1) := by decide +kernel
theorem dL_law_509 : decode cL_law 509 = .ok (.iaload, 1) := by decide +kernel
theorem dL_law_510 : decode cL_law 510 = .ok (.invokevirtual 57, 3) := by decide +kernel
theorem dL_law_513 : decode cL_law 513 = .ok (.aload_n 2, 1) := by decide +kernel
theorem dL_law_514 : decode cL_law 514 = .ok (.aload_n 0, 1) := by decide +kernel
theorem dL_law_515 : decode cL_law 515 = .ok (.iload_n 3, 1) := by decide +kernel
theorem dL_law_516 : decode cL_law 516 = .ok (.iconst 1, 1) := by decide +kernel
theorem dL_law_517 : decode cL_law 517 = .ok (.iadd, 1) := by decide +kernel
theorem dL_law_518 : decode cL_law 518 = .ok (.iaload, 1) := by decide +kernel
theorem dL_law_519 : decode cL_law 519 = .ok (.aload_n 0, 1) := by decide +kernel
theorem dL_law_520 : decode cL_law 520 = .ok (.iload_n 3, 1) := by decide +kernel
theorem dL_law_521 : decode cL_law 521 = .ok (.iconst 2, 1) := by decide +kernel
theorem dL_law_522 : decode cL_law 522 = .ok (.iadd, 1) := by decide +kernel
theorem dL_law_523 : decode cL_law 523 = .ok (.iaload, 1) := by decide +kernel
theorem dL_law_524 : decode cL_law 524 = .ok (.invokevirtual 60, 3) := by decide +kernel
theorem dL_law_527 : decode cL_law 527 = .ok (.if_icmp .eq 588, 3) := by decide +kernel
theorem dL_law_530 : decode cL_law 530 = .ok (.iconst 0, 1) := by decide +kernel
theorem dL_law_531 : decode cL_law 531 = .ok (.ireturn, 1) := by decide +kernel
theorem dL_law_532 : decode cL_law 532 = .ok (.aload_n 1, 1) := by decide +kernel
theorem dL_law_533 : decode cL_law 533 = .ok (.aload_n 0, 1) := by decide +kernel
theorem dL_law_534 : decode cL_law 534 = .ok (.iload_n 3, 1) := by decide +kernel
theorem dL_law_535 : decode cL_law 535 = .ok (.iconst 1, 1) := by decide +kernel
theorem dL_law_536 : decode cL_law 536 = .ok (.iadd, 1) := by decide +kernel
theorem dL_law_537 : decode cL_law 537 = .ok (.iaload, 1) := by decide +kernel
theorem dL_law_538 : decode cL_law 538 = .ok (.aload_n 0, 1) := by decide +kernel
theorem dL_law_539 : decode cL_law 539 = .ok (.iload_n 3, 1) := by decide +kernel
theorem dL_law_540 : decode cL_law 540 = .ok (.iconst 2, 1) := by decide +kernel
theorem dL_law_541 : decode cL_law 541 = .ok (.iadd, 1) := by decide +kernel
theorem dL_law_542 : decode cL_law 542 = .ok (.iaload, 1) := by decide +kernel
theorem dL_law_543 : decode cL_law 543 = .ok (.aload_n 0, 1) := by decide +kernel
theorem dL_law_544 : decode cL_law 544 = .ok (.iload_n 3, 1) := by decide +kernel
theorem dL_law_545 : decode cL_law 545 = .ok (.iconst 3, 1) := by decide +kernel
theorem dL_law_546 : decode cL_law 546 = .ok (.iadd, 1) := by decide +kernel
theorem dL_law_547 : decode cL_law 547 = .ok (.iaload, 1) := by decide +kernel
theorem dL_law_548 : decode cL_law 548 = .ok (.invokevirtual 61, 3) := by decide +kernel
theorem dL_law_551 : decode cL_law 551 = .ok (.aload_n 2, 1) := by decide +kernel
theorem dL_law_552 : decode cL_law 552 = .ok (.aload_n 0, 1) := by decide +kernel
theorem dL_law_553 : decode cL_law 553 = .ok (.iload_n 3, 1) := by decide +kernel
theorem dL_law_554 : decode cL_law 554 = .ok (.iconst 1, 1) := by decide +kernel
theorem dL_law_555 : decode cL_law 555 = .ok (.iadd, 1) := by decide +kernel
theorem dL_law_556 : decode cL_law 556 = .ok (.iaload, 1) := by decide +kernel
theorem dL_law_557 : decode cL_law 557 = .ok (.aload_n 0, 1) := by decide +kernel
theorem dL_law_558 : decode cL_law 558 = .ok (.iload_n 3, 1) := by decide +kernel
theorem dL_law_559 : decode cL_law 559 = .ok (.iconst 2, 1) := by decide +kernel
theorem dL_law_560 : decode cL_law 560 = .ok (.iadd, 1) := by decide +kernel
theorem dL_law_561 : decode cL_law 561 = .ok (.iaload, 1) := by decide +kernel
theorem dL_law_562 : decode cL_law 562 = .ok (.aload_n 0, 1) := by decide +kernel
theorem dL_law_563 : decode cL_law 563 = .ok (.iload_n 3, 1) := by decide +kernel
theorem dL_law_564 : decode cL_law 564 = .ok (.iconst 3, 1) := by decide +kernel
theorem dL_law_565 : decode cL_law 565 = .ok (.iadd, 1) := by decide +kernel
theorem dL_law_566 : decode cL_law 566 = .ok (.iaload, 1) := by decide +kernel
theorem dL_law_567 : decode cL_law 567 = .ok (.invokevirtual 64, 3) := by decide +kernel
theorem dL_law_570 : decode cL_law 570 = .ok (.if_icmp .eq 545, 3) := by decide +kernel
theorem dL_law_573 : decode cL_law 573 = .ok (.iconst 0, 1) := by decide +kernel
theorem dL_law_574 : decode cL_law 574 = .ok (.ireturn, 1) := by decide +kernel
theorem dL_law_575 : decode cL_law 575 = .ok (.aload_n 1, 1) := by decide +kernel
theorem dL_law_576 : decode cL_law 576 = .ok (.aload_n 0, 1) := by decide +kernel
theorem dL_law_577 : decode cL_law 577 = .ok (.iload_n 3, 1) := by decide +kernel
theorem dL_law_578 : decode cL_law 578 = .ok (.iconst 1, 1) := by decide +kernel
theorem dL_law_579 : decode cL_law 579 = .ok (.iadd, 1) := by decide +kernel
theorem dL_law_580 : decode cL_law 580 = .ok (.iaload, 1) := by decide +kernel
theorem dL_law_581 : decode cL_law 581 = .ok (.invokevirtual 65, 3) := by decide +kernel
theorem dL_law_584 : decode cL_law 584 = .ok (.aload_n 2, 1) := by decide +kernel
theorem dL_law_585 : decode cL_law 585 = .ok (.aload_n 0, 1) := by decide +kernel
theorem dL_law_586 : decode cL_law 586 = .ok (.iload_n 3, 1) := by decide +kernel
theorem dL_law_587 : decode cL_law 587 = .ok (.iconst 1, 1) := by decide +kernel
theorem dL_law_588 : decode cL_law 588 = .ok (.iadd, 1) := by decide +kernel
theorem dL_law_589 : decode cL_law 589 = .ok (.iaload, 1) := by decide +kernel
theorem dL_law_590 : decode cL_law 590 = .ok (.invokevirtual 68, 3) := by decide +kernel
theorem dL_law_593 : decode cL_law 593 = .ok (.if_icmp .eq 522, 3) := by decide +kernel
theorem dL_law_596 : decode cL_law 596 = .ok (.iconst 0, 1) := by decide +kernel
theorem dL_law_597 : decode cL_law 597 = .ok (.ireturn, 1) := by decide +kernel
theorem dL_law_598 : decode cL_law 598 = .ok (.aload_n 1, 1) := by decide +kernel
theorem dL_law_599 : decode cL_law 599 = .ok (.aload_n 0, 1) := by decide +kernel
theorem dL_law_600 : decode cL_law 600 = .ok (.iload_n 3, 1) := by decide +kernel
theorem dL_law_601 : decode cL_law 601 = .ok (.iconst 1, 1) := by decide +kernel
theorem dL_law_602 : decode cL_law 602 = .ok (.iadd, 1) := by decide +kernel
theorem dL_law_603 : decode cL_law 603 = .ok (.iaload, 1) := by decide +kernel
theorem dL_law_604 : decode cL_law 604 = .ok (.aload_n 0, 1) := by decide +kernel
theorem dL_law_605 : decode cL_law 605 = .ok (.iload_n 3, 1) := by decide +kernel
theorem dL_law_606 : decode cL_law 606 = .ok (.iconst 2, 1) := by decide +kernel
theorem dL_law_607 : decode cL_law 607 = .ok (.iadd, 1) := by decide +kernel
theorem dL_law_608 : decode cL_law 608 = .ok (.iaload, 1) := by decide +kernel
theorem dL_law_609 : decode cL_law 609 = .ok (.aload_n 0, 1) := by decide +kernel
theorem dL_law_610 : decode cL_law 610 = .ok (.iload_n 3, 1) := by decide +kernel
theorem dL_law_611 : decode cL_law 611 = .ok (.iconst 3, 1) := by decide +kernel
theorem dL_law_612 : decode cL_law 612 = .ok (.iadd, 1) := by decide +kernel
theorem dL_law_613 : decode cL_law 613 = .ok (.iaload, 1) := by decide +kernel
theorem dL_law_614 : decode cL_law 614 = .ok (.invokevirtual 69, 3) := by decide +kernel
theorem dL_law_617 : decode cL_law 617 = .ok (.aload_n 2, 1) := by decide +kernel
theorem dL_law_618 : decode cL_law 618 = .ok (.aload_n 0, 1) := by decide +kernel
theorem dL_law_619 : decode cL_law 619 = .ok (.iload_n 3, 1) := by decide +kernel
theorem dL_law_620 : decode cL_law 620 = .ok (.iconst 1, 1) := by decide +kernel
theorem dL_law_621 : decode cL_law 621 = .ok (.iadd, 1) := by decide +kernel
theorem dL_law_622 : decode cL_law 622 = .ok (.iaload, 1) := by decide +kernel
theorem dL_law_623 : decode cL_law 623 = .ok (.aload_n 0, 1) := by decide +kernel
theorem dL_law_624 : decode cL_law 624 = .ok (.iload_n 3, 1) := by decide +kernel
theorem dL_law_625 : decode cL_law 625 = .ok (.iconst 2, 1) := by decide +kernel
theorem dL_law_626 : decode cL_law 626 = .ok (.iadd, 1) := by decide +kernel
theorem dL_law_627 : decode cL_law 627 = .ok (.iaload, 1) := by decide +kernel
theorem dL_law_628 : decode cL_law 628 = .ok (.aload_n 0, 1) := by decide +kernel
theorem dL_law_629 : decode cL_law 629 = .ok (.iload_n 3, 1) := by decide +kernel
theorem dL_law_630 : decode cL_law 630 = .ok (.iconst 3, 1) := by decide +kernel
theorem dL_law_631 : decode cL_law 631 = .ok (.iadd, 1) := by decide +kernel
theorem dL_law_632 : decode cL_law 632 = .ok (.iaload, 1) := by decide +kernel
theorem dL_law_633 : decode cL_law 633 = .ok (.invokevirtual 72, 3) := by decide +kernel
theorem dL_law_636 : decode cL_law 636 = .ok (.if_icmp .eq 479, 3) := by decide +kernel
theorem dL_law_639 : decode cL_law 639 = .ok (.iconst 0, 1) := by decide +kernel
theorem dL_law_640 : decode cL_law 640 = .ok (.ireturn, 1) := by decide +kernel
theorem dL_law_641 : decode cL_law 641 = .ok (.aload_n 1, 1) := by decide +kernel
theorem dL_law_642 : decode cL_law 642 = .ok (.aload_n 0, 1) := by decide +kernel
theorem dL_law_643 : decode cL_law 643 = .ok (.iload_n 3, 1) := by decide +kernel
theorem dL_law_644 : decode cL_law 644 = .ok (.iconst 1, 1) := by decide +kernel
theorem dL_law_645 : decode cL_law 645 = .ok (.iadd, 1) := by decide +kernel
theorem dL_law_646 : decode cL_law 646 = .ok (.iaload, 1) := by decide +kernel
theorem dL_law_647 : decode cL_law 647 = .ok (.aload_n 0, 1) := by decide +kernel
theorem dL_law_648 : decode cL_law 648 = .ok (.iload_n 3, 1) := by decide +kernel
theorem dL_law_649 : decode cL_law 649 = .ok (.iconst 2, 1) := by decide +kernel
theorem dL_law_650 : decode cL_law 650 = .ok (.iadd, 1) := by decide +kernel
theorem dL_law_651 : decode cL_law 651 = .ok (.iaload, 1) := by decide +kernel
theorem dL_law_652 : decode cL_law 652 = .ok (.invokevirtual 73, 3) := by decide +kernel
theorem dL_law_655 : decode cL_law 655 = .ok (.aload_n 2, 1) := by decide +kernel
theorem dL_law_656 : decode cL_law 656 = .ok (.aload_n 0, 1) := by decide +kernel
theorem dL_law_657 : decode cL_law 657 = .ok (.iload_n 3, 1) := by decide +kernel
theorem dL_law_658 : decode cL_law 658 = .ok (.iconst 1, 1) := by decide +kernel
theorem dL_law_659 : decode cL_law 659 = .ok (.iadd, 1) := by decide +kernel
theorem dL_law_660 : decode cL_law 660 = .ok (.iaload, 1) := by decide +kernel
theorem dL_law_661 : decode cL_law 661 = .ok (.aload_n 0, 1) := by decide +kernel
theorem dL_law_662 : decode cL_law 662 = .ok (.iload_n 3, 1) := by decide +kernel
theorem dL_law_663 : decode cL_law 663 = .ok (.iconst 2, 1) := by decide +kernel
theorem dL_law_664 : decode cL_law 664 = .ok (.iadd, 1) := by decide +kernel
theorem dL_law_665 : decode cL_law 665 = .ok (.iaload, 1) := by decide +kernel
theorem dL_law_666 : decode cL_law 666 = .ok (.invokevirtual 76, 3) := by decide +kernel
theorem dL_law_669 : decode cL_law 669 = .ok (.if_icmp .eq 446, 3) := by decide +kernel
theorem dL_law_672 : decode cL_law 672 = .ok (.iconst 0, 1) := by decide +kernel
theorem dL_law_673 : decode cL_law 673 = .ok (.ireturn, 1) := by decide +kernel
theorem dL_law_674 : decode cL_law 674 = .ok (.aload_n 1, 1) := by decide +kernel
theorem dL_law_675 : decode cL_law 675 = .ok (.aload_n 0, 1) := by decide +kernel
theorem dL_law_676 : decode cL_law 676 = .ok (.iload_n 3, 1) := by decide +kernel
theorem dL_law_677 : decode cL_law 677 = .ok (.iconst 1, 1) := by decide +kernel
theorem dL_law_678 : decode cL_law 678 = .ok (.iadd, 1) := by decide +kernel
theorem dL_law_679 : decode cL_law 679 = .ok (.iaload, 1) := by decide +kernel
theorem dL_law_680 : decode cL_law 680 = .ok (.invokevirtual 77, 3) := by decide +kernel
theorem dL_law_683 : decode cL_law 683 = .ok (.aload_n 2, 1) := by decide +kernel
theorem dL_law_684 : decode cL_law 684 = .ok (.aload_n 0, 1) := by decide +kernel
theorem dL_law_685 : decode cL_law 685 = .ok (.iload_n 3, 1) := by decide +kernel
theorem dL_law_686 : decode cL_law 686 = .ok (.iconst 1, 1) := by decide +kernel
theorem dL_law_687 : decode cL_law 687 = .ok (.iadd, 1) := by decide +kernel
theorem dL_law_688 : decode cL_law 688 = .ok (.iaload, 1) := by decide +kernel
theorem dL_law_689 : decode cL_law 689 = .ok (.invokevirtual 80, 3) := by decide +kernel
theorem dL_law_692 : decode cL_law 692 = .ok (.if_icmp .eq 423, 3) := by decide +kernel
theorem dL_law_695 : decode cL_law 695 = .ok (.iconst 0, 1) := by decide +kernel
theorem dL_law_696 : decode cL_law 696 = .ok (.ireturn, 1) := by decide +kernel
theorem dL_law_697 : decode cL_law 697 = .ok (.aload_n 1, 1) := by decide +kernel
theorem dL_law_698 : decode cL_law 698 = .ok (.aload_n 0, 1) := by decide +kernel
theorem dL_law_699 : decode cL_law 699 = .ok (.iload_n 3, 1) := by decide +kernel
theorem dL_law_700 : decode cL_law 700 = .ok (.iconst 1, 1) := by decide +kernel
theorem dL_law_701 : decode cL_law 701 = .ok (.iadd, 1) := by decide +kernel
theorem dL_law_702 : decode cL_law 702 = .ok (.iaload, 1) := by decide +kernel
theorem dL_law_703 : decode cL_law 703 = .ok (.invokevirtual 81, 3) := by decide +kernel
theorem dL_law_706 : decode cL_law 706 = .ok (.aload_n 2, 1) := by decide +kernel
theorem dL_law_707 : decode cL_law 707 = .ok (.aload_n 0, 1) := by decide +kernel
theorem dL_law_708 : decode cL_law 708 = .ok (.iload_n 3, 1) := by decide +kernel
theorem dL_law_709 : decode cL_law 709 = .ok (.iconst 1, 1) := by decide +kernel
theorem dL_law_710 : decode cL_law 710 = .ok (.iadd, 1) := by decide +kernel
theorem dL_law_711 : decode cL_law 711 = .ok (.iaload, 1) := by decide +kernel
theorem dL_law_712 : decode cL_law 712 = .ok (.invokevirtual 84, 3) := by decide +kernel
theorem dL_law_715 : decode cL_law 715 = .ok (.if_icmp .eq 400, 3) := by decide +kernel
theorem dL_law_718 : decode cL_law 718 = .ok (.iconst 0, 1) := by decide +kernel
theorem dL_law_719 : decode cL_law 719 = .ok (.ireturn, 1) := by decide +kernel
theorem dL_law_720 : decode cL_law 720 = .ok (.aload_n 1, 1) := by decide +kernel
theorem dL_law_721 : decode cL_law 721 = .ok (.aload_n 0, 1) := by decide +kernel
theorem dL_law_722 : decode cL_law 722 = .ok (.iload_n 3, 1) := by decide +kernel
theorem dL_law_723 : decode cL_law 723 = .ok (.iconst 1, 1) := by decide +kernel
theorem dL_law_724 : decode cL_law 724 = .ok (.iadd, 1) := by decide +kernel
theorem dL_law_725 : decode cL_law 725 = .ok (.iaload, 1) := by decide +kernel
theorem dL_law_726 : decode cL_law 726 = .ok (.invokevirtual 85, 3) := by decide +kernel
theorem dL_law_729 : decode cL_law 729 = .ok (.aload_n 2, 1) := by decide +kernel
theorem dL_law_730 : decode cL_law 730 = .ok (.aload_n 0, 1) := by decide +kernel
theorem dL_law_731 : decode cL_law 731 = .ok (.iload_n 3, 1) := by decide +kernel
theorem dL_law_732 : decode cL_law 732 = .ok (.iconst 1, 1) := by decide +kernel
theorem dL_law_733 : decode cL_law 733 = .ok (.iadd, 1) := by decide +kernel
theorem dL_law_734 : decode cL_law 734 = .ok (.iaload, 1) := by decide +kernel
theorem dL_law_735 : decode cL_law 735 = .ok (.invokevirtual 88, 3) := by decide +kernel
theorem dL_law_738 : decode cL_law 738 = .ok (.if_icmp .eq 377, 3) := by decide +kernel
theorem dL_law_741 : decode cL_law 741 = .ok (.iconst 0, 1) := by decide +kernel
theorem dL_law_742 : decode cL_law 742 = .ok (.ireturn, 1) := by decide +kernel
theorem dL_law_743 : decode cL_law 743 = .ok (.aload_n 1, 1) := by decide +kernel
theorem dL_law_744 : decode cL_law 744 = .ok (.aload_n 0, 1) := by decide +kernel
theorem dL_law_745 : decode cL_law 745 = .ok (.iload_n 3, 1) := by decide +kernel
theorem dL_law_746 : decode cL_law 746 = .ok (.iconst 1, 1) := by decide +kernel
theorem dL_law_747 : decode cL_law 747 = .ok (.iadd, 1) := by decide +kernel
theorem dL_law_748 : decode cL_law 748 = .ok (.iaload, 1) := by decide +kernel
theorem dL_law_749 : decode cL_law 749 = .ok (.aload_n 0, 1) := by decide +kernel
theorem dL_law_750 : decode cL_law 750 = .ok (.iload_n 3, 1) := by decide +kernel
theorem dL_law_751 : decode cL_law 751 = .ok (.iconst 2, 1) := by decide +kernel
theorem dL_law_752 : decode cL_law 752 = .ok (.iadd, 1) := by decide +kernel
theorem dL_law_753 : decode cL_law 753 = .ok (.iaload, 1) := by decide +kernel
theorem dL_law_754 : decode cL_law 754 = .ok (.invokevirtual 89, 3) := by decide +kernel
theorem dL_law_757 : decode cL_law 757 = .ok (.aload_n 2, 1) := by decide +kernel
theorem dL_law_758 : decode cL_law 758 = .ok (.aload_n 0, 1) := by decide +kernel
theorem dL_law_759 : decode cL_law 759 = .ok (.iload_n 3, 1) := by decide +kernel
theorem dL_law_760 : decode cL_law 760 = .ok (.iconst 1, 1) := by decide +kernel
theorem dL_law_761 : decode cL_law 761 = .ok (.iadd, 1) := by decide +kernel
theorem dL_law_762 : decode cL_law 762 = .ok (.iaload, 1) := by decide +kernel
theorem dL_law_763 : decode cL_law 763 = .ok (.aload_n 0, 1) := by decide +kernel
theorem dL_law_764 : decode cL_law 764 = .ok (.iload_n 3, 1) := by decide +kernel
theorem dL_law_765 : decode cL_law 765 = .ok (.iconst 2, 1) := by decide +kernel
theorem dL_law_766 : decode cL_law 766 = .ok (.iadd, 1) := by decide +kernel
theorem dL_law_767 : decode cL_law 767 = .ok (.iaload, 1) := by decide +kernel
theorem dL_law_768 : decode cL_law 768 = .ok (.invokevirtual 92, 3) := by decide +kernel
theorem dL_law_771 : decode cL_law 771 = .ok (.if_icmp .eq 344, 3) := by decide +kernel
theorem dL_law_774 : decode cL_law 774 = .ok (.iconst 0, 1) := by decide +kernel
theorem dL_law_775 : decode cL_law 775 = .ok (.ireturn, 1) := by decide +kernel
theorem dL_law_776 : decode cL_law 776 = .ok (.aload_n 1, 1) := by decide +kernel
theorem dL_law_777 : decode cL_law 777 = .ok (.invokevirtual 93, 3) := by decide +kernel
theorem dL_law_780 : decode cL_law 780 = .ok (.aload_n 2, 1) := by decide +kernel
theorem dL_law_781 : decode cL_law 781 = .ok (.invokevirtual 96, 3) := by decide +kernel
theorem dL_law_784 : decode cL_law 784 = .ok (.if_icmp .eq 331, 3) := by decide +kernel
theorem dL_law_787 : decode cL_law 787 = .ok (.iconst 0, 1) := by decide +kernel
theorem dL_law_788 : decode cL_law 788 = .ok (.ireturn, 1) := by decide +kernel
theorem dL_law_789 : decode cL_law 789 = .ok (.aload_n 1, 1) := by decide +kernel
theorem dL_law_790 : decode cL_law 790 = .ok (.aload_n 0, 1) := by decide +kernel
theorem dL_law_791 : decode cL_law 791 = .ok (.iload_n 3, 1) := by decide +kernel
theorem dL_law_792 : decode cL_law 792 = .ok (.iconst 1, 1) := by decide +kernel
theorem dL_law_793 : decode cL_law 793 = .ok (.iadd, 1) := by decide +kernel
theorem dL_law_794 : decode cL_law 794 = .ok (.iaload, 1) := by decide +kernel
theorem dL_law_795 : decode cL_law 795 = .ok (.aload_n 0, 1) := by decide +kernel
theorem dL_law_796 : decode cL_law 796 = .ok (.iload_n 3, 1) := by decide +kernel
theorem dL_law_797 : decode cL_law 797 = .ok (.iconst 2, 1) := by decide +kernel
theorem dL_law_798 : decode cL_law 798 = .ok (.iadd, 1) := by decide +kernel
theorem dL_law_799 : decode cL_law 799 = .ok (.iaload, 1) := by decide +kernel
theorem dL_law_800 : decode cL_law 800 = .ok (.aload_n 0, 1) := by decide +kernel
theorem dL_law_801 : decode cL_law 801 = .ok (.iload_n 3, 1) := by decide +kernel
theorem dL_law_802 : decode cL_law 802 = .ok (.iconst 3, 1) := by decide +kernel
theorem dL_law_803 : decode cL_law 803 = .ok (.iadd, 1) := by decide +kernel
theorem dL_law_804 : decode cL_law 804 = .ok (.iaload, 1) := by decide +kernel
theorem dL_law_805 : decode cL_law 805 = .ok (.invokevirtual 97, 3) := by decide +kernel
theorem dL_law_808 : decode cL_law 808 = .ok (.aload_n 2, 1) := by decide +kernel
theorem dL_law_809 : decode cL_law 809 = .ok (.aload_n 0, 1) := by decide +kernel
theorem dL_law_810 : decode cL_law 810 = .ok (.iload_n 3, 1) := by decide +kernel
theorem dL_law_811 : decode cL_law 811 = .ok (.iconst 1, 1) := by decide +kernel
theorem dL_law_812 : decode cL_law 812 = .ok (.iadd, 1) := by decide +kernel
theorem dL_law_813 : decode cL_law 813 = .ok (.iaload, 1) := by decide +kernel
theorem dL_law_814 : decode cL_law 814 = .ok (.aload_n 0, 1) := by decide +kernel
theorem dL_law_815 : decode cL_law 815 = .ok (.iload_n 3, 1) := by decide +kernel
theorem dL_law_816 : decode cL_law 816 = .ok (.iconst 2, 1) := by decide +kernel
theorem dL_law_817 : decode cL_law 817 = .ok (.iadd, 1) := by decide +kernel
theorem dL_law_818 : decode cL_law 818 = .ok (.iaload, 1) := by decide +kernel
theorem dL_law_819 : decode cL_law 819 = .ok (.aload_n 0, 1) := by decide +kernel
theorem dL_law_820 : decode cL_law 820 = .ok (.iload_n 3, 1) := by decide +kernel
theorem dL_law_821 : decode cL_law 821 = .ok (.iconst 3, 1) := by decide +kernel
theorem dL_law_822 : decode cL_law 822 = .ok (.iadd, 1) := by decide +kernel
theorem dL_law_823 : decode cL_law 823 = .ok (.iaload, 1) := by decide +kernel
theorem dL_law_824 : decode cL_law 824 = .ok (.invokevirtual 100, 3) := by decide +kernel
theorem dL_law_827 : decode cL_law 827 = .ok (.if_icmp .eq 288, 3) := by decide +kernel
theorem dL_law_830 : decode cL_law 830 = .ok (.iconst 0, 1) := by decide +kernel
theorem dL_law_831 : decode cL_law 831 = .ok (.ireturn, 1) := by decide +kernel
theorem dL_law_832 : decode cL_law 832 = .ok (.aload_n 1, 1) := by decide +kernel
theorem dL_law_833 : decode cL_law 833 = .ok (.aload_n 0, 1) := by decide +kernel
theorem dL_law_834 : decode cL_law 834 = .ok (.iload_n 3, 1) := by decide +kernel
theorem dL_law_835 : decode cL_law 835 = .ok (.iconst 1, 1) := by decide +kernel
theorem dL_law_836 : decode cL_law 836 = .ok (.iadd, 1) := by decide +kernel
theorem dL_law_837 : decode cL_law 837 = .ok (.iaload, 1) := by decide +kernel
theorem dL_law_838 : decode cL_law 838 = .ok (.aload_n 0, 1) := by decide +kernel
theorem dL_law_839 : decode cL_law 839 = .ok (.iload_n 3, 1) := by decide +kernel
theorem dL_law_840 : decode cL_law 840 = .ok (.iconst 2, 1) := by decide +kernel
theorem dL_law_841 : decode cL_law 841 = .ok (.iadd, 1) := by decide +kernel
theorem dL_law_842 : decode cL_law 842 = .ok (.iaload, 1) := by decide +kernel
theorem dL_law_843 : decode cL_law 843 = .ok (.aload_n 0, 1) := by decide +kernel
theorem dL_law_844 : decode cL_law 844 = .ok (.iload_n 3, 1) := by decide +kernel
theorem dL_law_845 : decode cL_law 845 = .ok (.iconst 3, 1) := by decide +kernel
theorem dL_law_846 : decode cL_law 846 = .ok (.iadd, 1) := by decide +kernel
theorem dL_law_847 : decode cL_law 847 = .ok (.iaload, 1) := by decide +kernel
theorem dL_law_848 : decode cL_law 848 = .ok (.aload_n 0, 1) := by decide +kernel
theorem dL_law_849 : decode cL_law 849 = .ok (.iload_n 3, 1) := by decide +kernel
theorem dL_law_850 : decode cL_law 850 = .ok (.iconst 4, 1) := by decide +kernel
theorem dL_law_851 : decode cL_law 851 = .ok (.iadd, 1) := by decide +kernel
theorem dL_law_852 : decode cL_law 852 = .ok (.iaload, 1) := by decide +kernel
theorem dL_law_853 : decode cL_law 853 = .ok (.invokevirtual 101, 3) := by decide +kernel
theorem dL_law_856 : decode cL_law 856 = .ok (.aload_n 2, 1) := by decide +kernel
theorem dL_law_857 : decode cL_law 857 = .ok (.aload_n 0, 1) := by decide +kernel
theorem dL_law_858 : decode cL_law 858 = .ok (.iload_n 3, 1) := by decide +kernel
theorem dL_law_859 : decode cL_law 859 = .ok (.iconst 1, 1) := by decide +kernel
theorem dL_law_860 : decode cL_law 860 = .ok (.iadd, 1) := by decide +kernel
theorem dL_law_861 : decode cL_law 861 = .ok (.iaload, 1) := by decide +kernel
theorem dL_law_862 : decode cL_law 862 = .ok (.aload_n 0, 1) := by decide +kernel
theorem dL_law_863 : decode cL_law 863 = .ok (.iload_n 3, 1) := by decide +kernel
theorem dL_law_864 : decode cL_law 864 = .ok (.iconst 2, 1) := by decide +kernel
theorem dL_law_865 : decode cL_law 865 = .ok (.iadd, 1) := by decide +kernel
theorem dL_law_866 : decode cL_law 866 = .ok (.iaload, 1) := by decide +kernel
theorem dL_law_867 : decode cL_law 867 = .ok (.aload_n 0, 1) := by decide +kernel
theorem dL_law_868 : decode cL_law 868 = .ok (.iload_n 3, 1) := by decide +kernel
theorem dL_law_869 : decode cL_law 869 = .ok (.iconst 3, 1) := by decide +kernel
theorem dL_law_870 : decode cL_law 870 = .ok (.iadd, 1) := by decide +kernel
theorem dL_law_871 : decode cL_law 871 = .ok (.iaload, 1) := by decide +kernel
theorem dL_law_872 : decode cL_law 872 = .ok (.aload_n 0, 1) := by decide +kernel
theorem dL_law_873 : decode cL_law 873 = .ok (.iload_n 3, 1) := by decide +kernel
theorem dL_law_874 : decode cL_law 874 = .ok (.iconst 4, 1) := by decide +kernel
theorem dL_law_875 : decode cL_law 875 = .ok (.iadd, 1) := by decide +kernel
theorem dL_law_876 : decode cL_law 876 = .ok (.iaload, 1) := by decide +kernel
theorem dL_law_877 : decode cL_law 877 = .ok (.invokevirtual 105, 3) := by decide +kernel
theorem dL_law_880 : decode cL_law 880 = .ok (.if_icmp .eq 235, 3) := by decide +kernel
theorem dL_law_883 : decode cL_law 883 = .ok (.iconst 0, 1) := by decide +kernel
theorem dL_law_884 : decode cL_law 884 = .ok (.ireturn, 1) := by decide +kernel
theorem dL_law_885 : decode cL_law 885 = .ok (.aload_n 1, 1) := by decide +kernel
theorem dL_law_886 : decode cL_law 886 = .ok (.invokevirtual 106, 3) := by decide +kernel
theorem dL_law_889 : decode cL_law 889 = .ok (.aload_n 2, 1) := by decide +kernel
theorem dL_law_890 : decode cL_law 890 = .ok (.invokevirtual 109, 3) := by decide +kernel
theorem dL_law_893 : decode cL_law 893 = .ok (.if_icmp .eq 222, 3) := by decide +kernel
theorem dL_law_896 : decode cL_law 896 = .ok (.iconst 0, 1) := by decide +kernel
theorem dL_law_897 : decode cL_law 897 = .ok (.ireturn, 1) := by decide +kernel
theorem dL_law_898 : decode cL_law 898 = .ok (.aload_n 1, 1) := by decide +kernel
theorem dL_law_899 : decode cL_law 899 = .ok (.invokevirtual 110, 3) := by decide +kernel
theorem dL_law_902 : decode cL_law 902 = .ok (.aload_n 2, 1) := by decide +kernel
theorem dL_law_903 : decode cL_law 903 = .ok (.invokevirtual 113, 3) := by decide +kernel
theorem dL_law_906 : decode cL_law 906 = .ok (.if_icmp .eq 209, 3) := by decide +kernel
theorem dL_law_909 : decode cL_law 909 = .ok (.iconst 0, 1) := by decide +kernel
theorem dL_law_910 : decode cL_law 910 = .ok (.ireturn, 1) := by decide +kernel
theorem dL_law_911 : decode cL_law 911 = .ok (.aload_n 1, 1) := by decide +kernel
theorem dL_law_912 : decode cL_law 912 = .ok (.aload_n 0, 1) := by decide +kernel
theorem dL_law_913 : decode cL_law 913 = .ok (.iload_n 3, 1) := by decide +kernel
theorem dL_law_914 : decode cL_law 914 = .ok (.iconst 1, 1) := by decide +kernel
theorem dL_law_915 : decode cL_law 915 = .ok (.iadd, 1) := by decide +kernel
theorem dL_law_916 : decode cL_law 916 = .ok (.iaload, 1) := by decide +kernel
theorem dL_law_917 : decode cL_law 917 = .ok (.aload_n 0, 1) := by decide +kernel
theorem dL_law_918 : decode cL_law 918 = .ok (.iload_n 3, 1) := by decide +kernel
theorem dL_law_919 : decode cL_law 919 = .ok (.iconst 2, 1) := by decide +kernel
theorem dL_law_920 : decode cL_law 920 = .ok (.iadd, 1) := by decide +kernel
theorem dL_law_921 : decode cL_law 921 = .ok (.iaload, 1) := by decide +kernel
theorem dL_law_922 : decode cL_law 922 = .ok (.invokevirtual 114, 3) := by decide +kernel
theorem dL_law_925 : decode cL_law 925 = .ok (.aload_n 2, 1) := by decide +kernel
theorem dL_law_926 : decode cL_law 926 = .ok (.aload_n 0, 1) := by decide +kernel
theorem dL_law_927 : decode cL_law 927 = .ok (.iload_n 3, 1) := by decide +kernel
theorem dL_law_928 : decode cL_law 928 = .ok (.iconst 1, 1) := by decide +kernel
theorem dL_law_929 : decode cL_law 929 = .ok (.iadd, 1) := by decide +kernel
theorem dL_law_930 : decode cL_law 930 = .ok (.iaload, 1) := by decide +kernel
theorem dL_law_931 : decode cL_law 931 = .ok (.aload_n 0, 1) := by decide +kernel
theorem dL_law_932 : decode cL_law 932 = .ok (.iload_n 3, 1) := by decide +kernel
theorem dL_law_933 : decode cL_law 933 = .ok (.iconst 2, 1) := by decide +kernel
theorem dL_law_934 : decode cL_law 934 = .ok (.iadd, 1) := by decide +kernel
theorem dL_law_935 : decode cL_law 935 = .ok (.iaload, 1) := by decide +kernel
theorem dL_law_936 : decode cL_law 936 = .ok (.invokevirtual 117, 3) := by decide +kernel
theorem dL_law_939 : decode cL_law 939 = .ok (.if_icmp .eq 176, 3) := by decide +kernel
theorem dL_law_942 : decode cL_law 942 = .ok (.iconst 0, 1) := by decide +kernel
theorem dL_law_943 : decode cL_law 943 = .ok (.ireturn, 1) := by decide +kernel
theorem dL_law_944 : decode cL_law 944 = .ok (.aload_n 1, 1) := by decide +kernel
theorem dL_law_945 : decode cL_law 945 = .ok (.aload_n 0, 1) := by decide +kernel
theorem dL_law_946 : decode cL_law 946 = .ok (.iload_n 3, 1) := by decide +kernel
theorem dL_law_947 : decode cL_law 947 = .ok (.iconst 1, 1) := by decide +kernel
theorem dL_law_948 : decode cL_law 948 = .ok (.iadd, 1) := by decide +kernel
theorem dL_law_949 : decode cL_law 949 = .ok (.iaload, 1) := by decide +kernel
theorem dL_law_950 : decode cL_law 950 = .ok (.invokevirtual 118, 3) := by decide +kernel
theorem dL_law_953 : decode cL_law 953 = .ok (.aload_n 2, 1) := by decide +kernel
theorem dL_law_954 : decode cL_law 954 = .ok (.aload_n 0, 1) := by decide +kernel
theorem dL_law_955 : decode cL_law 955 = .ok (.iload_n 3, 1) := by decide +kernel
theorem dL_law_956 : decode cL_law 956 = .ok (.iconst 1, 1) := by decide +kernel
theorem dL_law_957 : decode cL_law 957 = .ok (.iadd, 1) := by decide +kernel
theorem dL_law_958 : decode cL_law 958 = .ok (.iaload, 1) := by decide +kernel
theorem dL_law_959 : decode cL_law 959 = .ok (.invokevirtual 121, 3) := by decide +kernel
theorem dL_law_962 : decode cL_law 962 = .ok (.if_icmp .eq 153, 3) := by decide +kernel
theorem dL_law_965 : decode cL_law 965 = .ok (.iconst 0, 1) := by decide +kernel
theorem dL_law_966 : decode cL_law 966 = .ok (.ireturn, 1) := by decide +kernel
theorem dL_law_967 : decode cL_law 967 = .ok (.aload_n 1, 1) := by decide +kernel
theorem dL_law_968 : decode cL_law 968 = .ok (.aload_n 0, 1) := by decide +kernel
theorem dL_law_969 : decode cL_law 969 = .ok (.iload_n 3, 1) := by decide +kernel
theorem dL_law_970 : decode cL_law 970 = .ok (.iconst 1, 1) := by decide +kernel
theorem dL_law_971 : decode cL_law 971 = .ok (.iadd, 1) := by decide +kernel
theorem dL_law_972 : decode cL_law 972 = .ok (.iaload, 1) := by decide +kernel
theorem dL_law_973 : decode cL_law 973 = .ok (.invokevirtual 122, 3) := by decide +kernel
theorem dL_law_976 : decode cL_law 976 = .ok (.aload_n 2, 1) := by decide +kernel
theorem dL_law_977 : decode cL_law 977 = .ok (.aload_n 0, 1) := by decide +kernel
theorem dL_law_978 : decode cL_law 978 = .ok (.iload_n 3, 1) := by decide +kernel
theorem dL_law_979 : decode cL_law 979 = .ok (.iconst 1, 1) := by decide +kernel
theorem dL_law_980 : decode cL_law 980 = .ok (.iadd, 1) := by decide +kernel
theorem dL_law_981 : decode cL_law 981 = .ok (.iaload, 1) := by decide +kernel
theorem dL_law_982 : decode cL_law 982 = .ok (.invokevirtual 125, 3) := by decide +kernel
theorem dL_law_985 : decode cL_law 985 = .ok (.if_icmp .eq 130, 3) := by decide +kernel
theorem dL_law_988 : decode cL_law 988 = .ok (.iconst 0, 1) := by decide +kernel
theorem dL_law_989 : decode cL_law 989 = .ok (.ireturn, 1) := by decide +kernel
theorem dL_law_990 : decode cL_law 990 = .ok (.aload_n 1, 1) := by decide +kernel
theorem dL_law_991 : decode cL_law 991 = .ok (.aload_n 0, 1) := by decide +kernel
theorem dL_law_992 : decode cL_law 992 = .ok (.iload_n 3, 1) := by decide +kernel
theorem dL_law_993 : decode cL_law 993 = .ok (.iconst 1, 1) := by decide +kernel
theorem dL_law_994 : decode cL_law 994 = .ok (.iadd, 1) := by decide +kernel
theorem dL_law_995 : decode cL_law 995 = .ok (.iaload, 1) := by decide +kernel
theorem dL_law_996 : decode cL_law 996 = .ok (.aload_n 0, 1) := by decide +kernel
theorem dL_law_997 : decode cL_law 997 = .ok (.iload_n 3, 1) := by decide +kernel
theorem dL_law_998 : decode cL_law 998 = .ok (.iconst 2, 1) := by decide +kernel
theorem dL_law_999 : decode cL_law 999 = .ok (.iadd, 1) := by decide +kernel
theorem dL_law_1000 : decode cL_law 1000 = .ok (.iaload, 1) := by decide +kernel
theorem dL_law_1001 : decode cL_law 1001 = .ok (.invokevirtual 126, 3) := by decide +kernel
theorem dL_law_1004 : decode cL_law 1004 = .ok (.aload_n 2, 1) := by decide +kernel
theorem dL_law_1005 : decode cL_law 1005 = .ok (.aload_n 0, 1) := by decide +kernel
theorem dL_law_1006 : decode cL_law 1006 = .ok (.iload_n 3, 1) := by decide +kernel
theorem dL_law_1007 : decode cL_law 1007 = .ok (.iconst 1, 1) := by decide +kernel
theorem dL_law_1008 : decode cL_law 1008 = .ok (.iadd, 1) := by decide +kernel
theorem dL_law_1009 : decode cL_law 1009 = .ok (.iaload, 1) := by decide +kernel
theorem dL_law_1010 : decode cL_law 1010 = .ok (.aload_n 0, 1) := by decide +kernel
theorem dL_law_1011 : decode cL_law 1011 = .ok (.iload_n 3, 1) := by decide +kernel
theorem dL_law_1012 : decode cL_law 1012 = .ok (.iconst 2, 1) := by decide +kernel
theorem dL_law_1013 : decode cL_law 1013 = .ok (.iadd, 1) := by decide +kernel
theorem dL_law_1014 : decode cL_law 1014 = .ok (.iaload, 1) := by decide +kernel
theorem dL_law_1015 : decode cL_law 1015 = .ok (.invokevirtual 129, 3) := by decide +kernel
theorem dL_law_1018 : decode cL_law 1018 = .ok (.if_icmp .eq 97, 3) := by decide +kernel
theorem dL_law_1021 : decode cL_law 1021 = .ok (.iconst 0, 1) := by decide +kernel
theorem dL_law_1022 : decode cL_law 1022 = .ok (.ireturn, 1) := by decide +kernel
theorem dL_law_1023 : decode cL_law 1023 = .ok (.aload_n 1, 1) := by decide +kernel
theorem dL_law_1024 : decode cL_law 1024 = .ok (.aload_n 0, 1) := by decide +kernel
theorem dL_law_1025 : decode cL_law 1025 = .ok (.iload_n 3, 1) := by decide +kernel
theorem dL_law_1026 : decode cL_law 1026 = .ok (.iconst 1, 1) := by decide +kernel
theorem dL_law_1027 : decode cL_law 1027 = .ok (.iadd, 1) := by decide +kernel
theorem dL_law_1028 : decode cL_law 1028 = .ok (.iaload, 1) := by decide +kernel
theorem dL_law_1029 : decode cL_law 1029 = .ok (.aload_n 0, 1) := by decide +kernel
theorem dL_law_1030 : decode cL_law 1030 = .ok (.iload_n 3, 1) := by decide +kernel
theorem dL_law_1031 : decode cL_law 1031 = .ok (.iconst 2, 1) := by decide +kernel
theorem dL_law_1032 : decode cL_law 1032 = .ok (.iadd, 1) := by decide +kernel
theorem dL_law_1033 : decode cL_law 1033 = .ok (.iaload, 1) := by decide +kernel
theorem dL_law_1034 : decode cL_law 1034 = .ok (.invokevirtual 130, 3) := by decide +kernel
theorem dL_law_1037 : decode cL_law 1037 = .ok (.aload_n 2, 1) := by decide +kernel
theorem dL_law_1038 : decode cL_law 1038 = .ok (.aload_n 0, 1) := by decide +kernel
theorem dL_law_1039 : decode cL_law 1039 = .ok (.iload_n 3, 1) := by decide +kernel
theorem dL_law_1040 : decode cL_law 1040 = .ok (.iconst 1, 1) := by decide +kernel
theorem dL_law_1041 : decode cL_law 1041 = .ok (.iadd, 1) := by decide +kernel
theorem dL_law_1042 : decode cL_law 1042 = .ok (.iaload, 1) := by decide +kernel
theorem dL_law_1043 : decode cL_law 1043 = .ok (.aload_n 0, 1) := by decide +kernel
theorem dL_law_1044 : decode cL_law 1044 = .ok (.iload_n 3, 1) := by decide +kernel
theorem dL_law_1045 : decode cL_law 1045 = .ok (.iconst 2, 1) := by decide +kernel
theorem dL_law_1046 : decode cL_law 1046 = .ok (.iadd, 1) := by decide +kernel
theorem dL_law_1047 : decode cL_law 1047 = .ok (.iaload, 1) := by decide +kernel
theorem dL_law_1048 : decode cL_law 1048 = .ok (.invokevirtual 133, 3) := by decide +kernel
theorem dL_law_1051 : decode cL_law 1051 = .ok (.if_icmp .eq 64, 3) := by decide +kernel
theorem dL_law_1054 : decode cL_law 1054 = .ok (.iconst 0, 1) := by decide +kernel
theorem dL_law_1055 : decode cL_law 1055 = .ok (.ireturn, 1) := by decide +kernel
theorem dL_law_1056 : decode cL_law 1056 = .ok (.aload_n 1, 1) := by decide +kernel
theorem dL_law_1057 : decode cL_law 1057 = .ok (.aload_n 0, 1) := by decide +kernel
theorem dL_law_1058 : decode cL_law 1058 = .ok (.iload_n 3, 1) := by decide +kernel
theorem dL_law_1059 : decode cL_law 1059 = .ok (.iconst 1, 1) := by decide +kernel
theorem dL_law_1060 : decode cL_law 1060 = .ok (.iadd, 1) := by decide +kernel
theorem dL_law_1061 : decode cL_law 1061 = .ok (.iaload, 1) := by decide +kernel
theorem dL_law_1062 : decode cL_law 1062 = .ok (.invokevirtual 134, 3) := by decide +kernel
theorem dL_law_1065 : decode cL_law 1065 = .ok (.aload_n 2, 1) := by decide +kernel
theorem dL_law_1066 : decode cL_law 1066 = .ok (.aload_n 0, 1) := by decide +kernel
theorem dL_law_1067 : decode cL_law 1067 = .ok (.iload_n 3, 1) := by decide +kernel
theorem dL_law_1068 : decode cL_law 1068 = .ok (.iconst 1, 1) := by decide +kernel
theorem dL_law_1069 : decode cL_law 1069 = .ok (.iadd, 1) := by decide +kernel
theorem dL_law_1070 : decode cL_law 1070 = .ok (.iaload, 1) := by decide +kernel
theorem dL_law_1071 : decode cL_law 1071 = .ok (.invokevirtual 137, 3) := by decide +kernel
theorem dL_law_1074 : decode cL_law 1074 = .ok (.if_icmp .eq 41, 3) := by decide +kernel
theorem dL_law_1077 : decode cL_law 1077 = .ok (.iconst 0, 1) := by decide +kernel
theorem dL_law_1078 : decode cL_law 1078 = .ok (.ireturn, 1) := by decide +kernel
theorem dL_law_1079 : decode cL_law 1079 = .ok (.aload_n 1, 1) := by decide +kernel
theorem dL_law_1080 : decode cL_law 1080 = .ok (.aload_n 0, 1) := by decide +kernel
theorem dL_law_1081 : decode cL_law 1081 = .ok (.iload_n 3, 1) := by decide +kernel
theorem dL_law_1082 : decode cL_law 1082 = .ok (.iconst 1, 1) := by decide +kernel
theorem dL_law_1083 : decode cL_law 1083 = .ok (.iadd, 1) := by decide +kernel
theorem dL_law_1084 : decode cL_law 1084 = .ok (.iaload, 1) := by decide +kernel
theorem dL_law_1085 : decode cL_law 1085 = .ok (.invokevirtual 138, 3) := by decide +kernel
theorem dL_law_1088 : decode cL_law 1088 = .ok (.aload_n 2, 1) := by decide +kernel
theorem dL_law_1089 : decode cL_law 1089 = .ok (.aload_n 0, 1) := by decide +kernel
theorem dL_law_1090 : decode cL_law 1090 = .ok (.iload_n 3, 1) := by decide +kernel
theorem dL_law_1091 : decode cL_law 1091 = .ok (.iconst 1, 1) := by decide +kernel
theorem dL_law_1092 : decode cL_law 1092 = .ok (.iadd, 1) := by decide +kernel
theorem dL_law_1093 : decode cL_law 1093 = .ok (.iaload, 1) := by decide +kernel
theorem dL_law_1094 : decode cL_law 1094 = .ok (.invokevirtual 141, 3) := by decide +kernel
theorem dL_law_1097 : decode cL_law 1097 = .ok (.if_icmp .eq 18, 3) := by decide +kernel
theorem dL_law_1100 : decode cL_law 1100 = .ok (.iconst 0, 1) := by decide +kernel
theorem dL_law_1101 : decode cL_law 1101 = .ok (.ireturn, 1) := by decide +kernel
theorem dL_law_1102 : decode cL_law 1102 = .ok (.aload_n 1, 1) := by decide +kernel
theorem dL_law_1103 : decode cL_law 1103 = .ok (.invokevirtual 142, 3) := by decide +kernel
theorem dL_law_1106 : decode cL_law 1106 = .ok (.aload_n 2, 1) := by decide +kernel
theorem dL_law_1107 : decode cL_law 1107 = .ok (.invokevirtual 145, 3) := by decide +kernel
theorem dL_law_1110 : decode cL_law 1110 = .ok (.if_icmp .eq 5, 3) := by decide +kernel
theorem dL_law_1113 : decode cL_law 1113 = .ok (.iconst 0, 1) := by decide +kernel
theorem dL_law_1114 : decode cL_law 1114 = .ok (.ireturn, 1) := by decide +kernel
theorem dL_law_1115 : decode cL_law 1115 = .ok (.iinc 3 6, 3) := by decide +kernel
theorem dL_law_1118 : decode cL_law 1118 = .ok (.goto (-1100), 3) := by decide +kernel
theorem dL_law_1121 : decode cL_law 1121 = .ok (.iconst 1, 1) := by decide +kernel
theorem dL_law_1122 : decode cL_law 1122 = .ok (.ireturn, 1) := by decide +kernel
end
section
/-! ===== stores: what the cells of a world hold, by cell and place ===== -/
abbrev zSt : Type := (Nat → Nat → Int32) × (Nat → Nat → Int64)
def zsi (σ : zSt) (k i : Nat) (v : Int32) : zSt := (fun a => if a = k then upd (σ.1 a) i v else σ.1 a, σ.2)
def zsl (σ : zSt) (k i : Nat) (v : Int64) : zSt := (σ.1, fun a => if a = k then vp_updL (σ.2 a) i v else σ.2 a)
def zsc (σ : zSt) (k : Nat) (f : Nat → Int32) : zSt := (fun a => if a = k then f else σ.1 a, σ.2)
/-- the shape of a world: a cell by its number and what it holds -/
abbrev zSh : Type := Nat → (Nat → Int32) → (Nat → Int64) → Nat × va_E
def zlay (cl : zSh) (n : Nat) (σ : zSt) : va_W := (List.range n).map (fun k => cl k (σ.1 k) (σ.2 k))
theorem zlay_get {cl : zSh} {n : Nat} {σ : zSt} {k : Nat} (h : k < n) : (zlay cl n σ)[k]? = some (cl k (σ.1 k) (σ.2 k)) := by
  unfold zlay
  rw [List.getElem?_map, List.getElem?_range h]
  rfl
theorem zlay_no {cl : zSh} {n : Nat} {σ : zSt} {k : Nat} (h : ¬ k < n) : (zlay cl n σ)[k]? = none := by
  unfold zlay
  rw [List.getElem?_map, List.getElem?_eq_none (by rw [List.length_range]; omega)]
  rfl
theorem zlay_len {cl : zSh} {n : Nat} {σ : zSt} : (zlay cl n σ).length = n := by
  unfold zlay
  rw [List.length_map, List.length_range]
theorem zlay_set {cl : zSh} {n k : Nat} {σ τ : zSt} {x : Nat × va_E} (h : cl k (τ.1 k) (τ.2 k) = x) (ho : ∀ j, j ≠ k → τ.1 j = σ.1 j ∧ τ.2 j = σ.2 j) : (zlay cl n σ).set k x = zlay cl n τ := by
  apply List.ext_getElem?
  intro j
  rw [List.getElem?_set]
  by_cases hj : j < n
  · rw [zlay_get hj, zlay_get hj, zlay_len]
    by_cases e : k = j
    · subst e
      rw [if_pos rfl, if_pos hj, h]
    · obtain ⟨a, b⟩ := ho j (fun q => e q.symm)
      rw [if_neg e, a, b]
  · rw [zlay_no hj, zlay_no hj, zlay_len]
    by_cases e : k = j
    · subst e
      rw [if_pos rfl, if_neg hj]
    · rw [if_neg e]
theorem zsi_at {σ : zSt} {k i : Nat} {v : Int32} : (zsi σ k i v).1 k = upd (σ.1 k) i v := if_pos rfl
theorem zsi_ne {σ : zSt} {k i j : Nat} {v : Int32} (h : j ≠ k) : (zsi σ k i v).1 j = σ.1 j := if_neg h
theorem zsl_at {σ : zSt} {k i : Nat} {v : Int64} : (zsl σ k i v).2 k = vp_updL (σ.2 k) i v := if_pos rfl
theorem zsl_ne {σ : zSt} {k i j : Nat} {v : Int64} (h : j ≠ k) : (zsl σ k i v).2 j = σ.2 j := if_neg h
theorem zlay_si {cl : zSh} {n k i : Nat} {σ : zSt} {v : Int32} {x : Nat × va_E} (h : cl k (upd (σ.1 k) i v) (σ.2 k) = x) : (zlay cl n σ).set k x = zlay cl n (zsi σ k i v) :=
  zlay_set (by rw [zsi_at]; exact h) (fun j hj => ⟨zsi_ne hj, rfl⟩)
theorem zlay_sl {cl : zSh} {n k i : Nat} {σ : zSt} {v : Int64} {x : Nat × va_E} (h : cl k (σ.1 k) (vp_updL (σ.2 k) i v) = x) : (zlay cl n σ).set k x = zlay cl n (zsl σ k i v) :=
  zlay_set (by rw [zsl_at]; exact h) (fun j hj => ⟨rfl, zsl_ne hj⟩)
theorem zlay_sc {cl : zSh} {n k : Nat} {σ : zSt} {f : Nat → Int32} {x : Nat × va_E} (h : cl k f (σ.2 k) = x) : (zlay cl n σ).set k x = zlay cl n (zsc σ k f) :=
  zlay_set (by show cl k (if k = k then f else _) (σ.2 k) = x; rw [if_pos rfl]; exact h) (fun j hj => ⟨if_neg hj, rfl⟩)
/-- apart is said of addresses alone -/
theorem zlay_D {cl : zSh} {n : Nat} {A : Nat → Prop} {ad : Nat → Nat} (hcl : ∀ k f g, (cl k f g).1 = ad k) (h : ∀ i j, i < n → j < n → ad i = ad j → i = j) (hA : ∀ i, i < n → A (ad i)) (σ : zSt) : va_D A (zlay cl n σ) := by
  have lt : ∀ {k : Nat} {q : Nat × va_E}, (zlay cl n σ)[k]? = some q → k < n ∧ q.1 = ad k := by
    intro k q hq
    by_cases hk : k < n
    · rw [zlay_get hk] at hq
      cases hq
      exact ⟨hk, hcl _ _ _⟩
    · rw [zlay_no hk] at hq
      cases hq
  refine ⟨fun i j a b ha hb hab => ?_, fun k q hq => ?_⟩
  · obtain ⟨h1, h2⟩ := lt ha
    obtain ⟨h3, h4⟩ := lt hb
    exact h i j h1 h3 (by rw [← h2, ← h4]; exact hab)
  · obtain ⟨h1, h2⟩ := lt hq
    rw [h2]
    exact hA k h1
/-! ===== pieces of which the functions are made ===== -/
def zin (i : Int32) (n : Nat) : Prop := 0 ≤ i ∧ i.toNatClampNeg < n
abbrev zinD (i : Int32) (n : Nat) : Decidable (zin i n) := by unfold zin; exact inferInstance
theorem zin_vp {i : Int32} {n : Nat} (h : zin i n) : vp_in i n := by
  rintro (q | q)
  · exact absurd h.1 (by rw [Int32.not_le]; exact q)
  · exact absurd h.2 (Nat.not_lt.mpr q)
/-- a call -/
def zbnd {α β : Type} {S : Type} (o : Option (α × S)) (k : α → S → Option β) : Option β := match o with
  | some (a, τ) => k a τ
  | none => none
/-- a name for a number -/
def znm {α β : Type} (x : α) (k : α → β) : β := k x
/-- ITEM i of an array of n, cell c -/
def zag {β : Type} (σ : zSt) (c n : Nat) (i : Int32) (k : Int32 → Option β) : Option β := @ite _ (zin i n) (zinD i n) (k (σ.1 c i.toNatClampNeg)) none
def zas {β : Type} (σ : zSt) (c n : Nat) (i v : Int32) (k : zSt → Option β) : Option β := @ite _ (zin i n) (zinD i n) (k (zsi σ c i.toNatClampNeg v)) none
def zagL {β : Type} (σ : zSt) (c n : Nat) (i : Int32) (k : Int64 → Option β) : Option β := @ite _ (zin i n) (zinD i n) (k (σ.2 c i.toNatClampNeg)) none
def zasL {β : Type} (σ : zSt) (c n : Nat) (i : Int32) (v : Int64) (k : zSt → Option β) : Option β := @ite _ (zin i n) (zinD i n) (k (zsl σ c i.toNatClampNeg v)) none
/-- row i of an array of n rows -/
def zrow {β : Type} (n : Nat) (i : Int32) (k : Nat → Option β) : Option β := @ite _ (zin i n) (zinD i n) (k i.toNatClampNeg) none
/-- a table that never changes -/
def ztab {β : Type} (f : Nat → Int32) (n : Nat) (i : Int32) (k : Int32 → Option β) : Option β := @ite _ (zin i n) (zinD i n) (k (f i.toNatClampNeg)) none
def zpf {β : Type} (σ : zSt) (c j : Nat) (v : Int32) (k : zSt → β) : β := k (zsi σ c j v)
def zpfL {β : Type} (σ : zSt) (c j : Nat) (v : Int64) (k : zSt → β) : β := k (zsl σ c j v)
def zdvL {β : Type} (x y : Int64) (k : Int64 → Option β) : Option β := if y = 0 then none else k (x / y)
def zrmL {β : Type} (x y : Int64) (k : Int64 → Option β) : Option β := if y = 0 then none else k (x - x / y * y)
def zrm {β : Type} (x y : Int32) (k : Int32 → Option β) : Option β := if y = 0 then none else k (x - x / y * y)
/-- an answer that is true or false -/
def zrz {S : Type} (v : Int32) (σ : S) : Option (Int32 × S) := if v = 0 ∨ v = 1 then some (v, σ) else none
/-- System.arraycopy within one array of n -/
def zcp {β : Type} (σ : zSt) (c n : Nat) (sp dp len : Int32) (k : zSt → Option β) : Option β :=
  if 0 ≤ sp ∧ 0 ≤ dp ∧ 0 ≤ len ∧ sp.toNatClampNeg + len.toNatClampNeg ≤ n ∧ dp.toNatClampNeg + len.toNatClampNeg ≤ n then k (zsc σ c (va_cpy (σ.1 c) (σ.1 c) sp.toNatClampNeg dp.toNatClampNeg len.toNatClampNeg)) else none
/-! ===== words ===== -/
def zlwg : List Cond := lw_tbl.filter goodWord
theorem zlwg_of {w : Cond} (h : w ∈ lw_tbl) (g : goodWord w = true) : w ∈ zlwg := List.mem_filter.mpr ⟨h, g⟩
theorem zlwg_good {w : Cond} (h : w ∈ zlwg) : (w.onTables && w.keeps) = true ∨ ∃ ty, w = .arrayClass ty := good_of_word (List.mem_filter.mp h).2
def znestW : Cond → Bool
  | .fieldLinkNest .. => true
  | .methodLinkNest .. => true
  | _ => false
def znest : List Cond := lw_tbl.filter znestW
theorem znest_of {w : Cond} (h : w ∈ lw_tbl) (g : znestW w = true) : w ∈ znest := List.mem_filter.mpr ⟨h, g⟩
theorem zGood {cd : Cond} {ws : List Cond} (h : ∀ w ∈ ws, w ∈ zlwg) : GoodIn (cd :: zlwg) ws := fun w hw => ⟨List.mem_cons_of_mem _ (h w hw), zlwg_good (h w hw)⟩

/-! ===== what never changes: tables, texts ===== -/
def zTW (j : Nat) : Int32 := ([170, 204, 240] : List Int32).getD j 0
def zTD (j : Nat) : Int32 := ([2, 1, 2, 3] : List Int32).getD j 0
def zTK (j : Nat) : Int32 := ([1, 3, 7, 9, 25, 35] : List Int32).getD j 0
def zSlen : List Nat := [4, 5, 5, 4, 3, 3, 4, 4]
def zSbyt : List (List Int32) := [[108, 101, 97, 102], [103, 105, 118, 101, 110], [99, 108, 97, 105, 109], [115, 116, 101, 112], [97, 108, 108], [97, 110, 121], [109, 111, 115, 116], [108, 105, 107, 101]]
def zSpool (i : Nat) : Nat := ([32, 42, 44, 49, 101, 103, 105, 107] : List Nat).getD i 0
def zStext (i : Nat) : String := (["leaf", "given", "claim", "step", "all", "any", "most", "like"] : List String).getD i ""
def zEx (xa : Nat → Nat) (A : Nat → Prop) (U : State) : Prop :=
  (va_Z "SafeNet$Weights" "WORLDS_WITH" "[I" (.ref (xa 0)) A U U.heap ∧ va_T .int (xa 0) 3 (fun j => .int (zTW j)) A U U.heap) ∧
  (va_Z "SafeNet$Net" "DOUBTS_BY_FORM" "[I" (.ref (xa 1)) A U U.heap ∧ va_T .int (xa 1) 4 (fun j => .int (zTD j)) A U U.heap) ∧
  (va_Z "SafeNet$Net" "KINDS_ABOVE" "[I" (.ref (xa 2)) A U U.heap ∧ va_T .int (xa 2) 6 (fun j => .int (zTK j)) A U U.heap) ∧
  (va_Z "java/lang/String" "COMPACT_STRINGS" "Z" (.int 1) A U U.heap ∧ va_Zq "jdk/internal/util/Preconditions" "SIOOBE_FORMATTER" "Ljava/util/function/BiFunction;" A U U.heap) ∧
  vk_S 8 zSlen zSbyt (fun i => xa (10 + i)) (fun i => xa (20 + i)) A U U.heap ∧
  ∀ i, i < 8 → vk_R "SafeNet$Text" (zSpool i) (zStext i) (xa (10 + i)) U
theorem zEx.at {xa : Nat → Nat} {A : Nat → Prop} {s U : State} (h : zEx xa A s) (hW : s.WarmedH U.vm) (hq : ∀ a : Nat, a < s.heap.size → ¬ A a → U.heap[a]? = s.heap[a]?) : zEx xa A U := by
  obtain ⟨⟨a1, a2⟩, ⟨b1, b2⟩, ⟨c1, c2⟩, ⟨d1, d2⟩, e1, f1⟩ := h
  have hv := hW.alike
  exact ⟨⟨(a1.kept hq).moved hv, (a2.kept hq).moved hv⟩, ⟨(b1.kept hq).moved hv, (b2.kept hq).moved hv⟩, ⟨(c1.kept hq).moved hv, (c2.kept hq).moved hv⟩, ⟨(d1.kept hq).moved hv, (d2.kept hq).moved hv⟩, (e1.kept hq).moved hv, fun i hi => (f1 i hi).warm hW⟩
theorem zEx.blind {xa : Nat → Nat} {A : Nat → Prop} {s U : State} (h : zEx xa A s) (hv : s.vm = U.vm) (hh : U.heap = s.heap) : zEx xa A U := by
  obtain ⟨⟨a1, a2⟩, ⟨b1, b2⟩, ⟨c1, c2⟩, ⟨d1, d2⟩, e1, f1⟩ := h
  have hq : ∀ a : Nat, a < s.heap.size → ¬ A a → U.heap[a]? = s.heap[a]? := fun a _ _ => by rw [hh]
  have hl : s.vm.Alike U.vm := by rw [hv]; exact Vm.Alike.refl _
  exact ⟨⟨(a1.kept hq).moved hl, (a2.kept hq).moved hl⟩, ⟨(b1.kept hq).moved hl, (b2.kept hq).moved hl⟩, ⟨(c1.kept hq).moved hl, (c2.kept hq).moved hl⟩, ⟨(d1.kept hq).moved hl, (d2.kept hq).moved hl⟩, (e1.kept hq).moved hl, fun i hi => (f1 i hi).same hv.symm⟩
theorem zEx.narrow {xa : Nat → Nat} {A B : Nat → Prop} {s : State} (h : zEx xa A s) (hAB : ∀ q, B q → A q) : zEx xa B s := by
  obtain ⟨⟨a1, a2⟩, ⟨b1, b2⟩, ⟨c1, c2⟩, ⟨d1, d2⟩, e1, f1⟩ := h
  exact ⟨⟨a1.narrow hAB, a2.narrow hAB⟩, ⟨b1.narrow hAB, b2.narrow hAB⟩, ⟨c1.narrow hAB, c2.narrow hAB⟩, ⟨d1.narrow hAB, d2.narrow hAB⟩, e1.narrow hAB, f1⟩
/-- the array classes, by their numbers -/
def ztys (ca : Nat → ClassId) : List (ClassId × FieldType) := [(ca 0, .int), (ca 1, .byte), (ca 2, .long), (ca 3, .boolean), (ca 4, .array .long)]
def zKx {S : Type} (D : va_G) (ca : Nat → ClassId) (xa : Nat → Nat) (A : Nat → Prop) (lw : S → va_W) (U : State) : Prop :=
  va_K D vwCl (ztys ca) U ∧ (∀ σ, va_D A (lw σ)) ∧ (∀ w ∈ znest, va_Nw w U) ∧ zEx xa A U
theorem zNw_warm {w : Cond} (h : znestW w = true) {s U : State} (hW : s.WarmedH U.vm) (hZ : va_Nw w s) : va_Nw w U := by
  cases w <;> first | (exact va_Nw.warmF hW hZ) | (exact va_Nw.warmM hW hZ) | (simp [znestW] at h)
theorem zNw_same {w : Cond} (h : znestW w = true) {s U : State} (hv : s.vm = U.vm) (hZ : va_Nw w s) : va_Nw w U := by
  cases w <;> first | (exact va_Nw.same rfl hv hZ) | (simp [znestW] at h)
theorem zKx.at {S : Type} {D : va_G} {ca : Nat → ClassId} {xa : Nat → Nat} {A : Nat → Prop} {lw : S → va_W} {s U : State} (h : zKx D ca xa A lw s) (hW : s.WarmedH U.vm) (hq : ∀ a : Nat, a < s.heap.size → ¬ A a → U.heap[a]? = s.heap[a]?) : zKx D ca xa A lw U :=
  ⟨h.1.moved hW.alike, h.2.1, fun w hw => zNw_warm (List.mem_filter.mp hw).2 hW (h.2.2.1 w hw), h.2.2.2.at hW hq⟩
theorem zKx.blind {S : Type} {D : va_G} {ca : Nat → ClassId} {xa : Nat → Nat} {A : Nat → Prop} {lw : S → va_W} {s U : State} (h : zKx D ca xa A lw s) (hv : s.vm = U.vm) (hh : U.heap = s.heap) : zKx D ca xa A lw U :=
  ⟨h.1.moved (by rw [hv]; exact Vm.Alike.refl _), h.2.1, fun w hw => zNw_same (List.mem_filter.mp hw).2 hv (h.2.2.1 w hw), h.2.2.2.blind hv hh⟩
def zPre {S : Type} (D : va_G) (ca : Nat → ClassId) (xa : Nat → Nat) (A : Nat → Prop) (lw : S → va_W) (σ : S) (U : State) : Prop :=
  (∀ q, U.heap.size ≤ q → A q) ∧ va_P D vwCl (lw σ) U.heap ∧ zKx D ca xa A lw U
def zPost {S : Type} (D : va_G) (A : Nat → Prop) (lw : S → va_W) (rv : Option Value) (τ : S) : Array Value → State → Outcome → State → Prop :=
  fun _ st oc t => (oc = .returned rv ∧ va_P D vwCl (lw τ) t.heap) ∧ va_F A st t
/-- a contract: from store σ the method comes to store τ with the answer rv -/
def zCt {S : Type} (l : Launch) (y : MethodName) (cc : ByteArray) (nL : Nat) (ret : Option FieldType) (rm : Room) (D : va_G) (ca : Nat → ClassId) (xa : Nat → Nat) (A : Nat → Prop) (lw : S → va_W) (al : List Value) (σ : S) (rv : Option Value) (τ : S) : Prop :=
  Met l y (Cond.code y cc nL ret :: zlwg) rm (va_Pc al (zPre D ca xa A lw σ)) (zPost D A lw rv τ) 0 0 A
section zG
variable {p : Program} {l : Launch} {e : Env} {R : Room} {s : State} {m : MethodId} {args : Array Value} {below : List Frame} {meth : Method} {c : Code} {cells slots : Nat}
variable {S α : Type}
/-- the machine at pc with locals lv and stack st, in the world of σ, comes to where o says -/
def zGO (p : Program) (l : Launch) (e : Env) (R : Room) (s : State) (m : MethodId) (args : Array Value) (below : List Frame) (meth : Method) (c : Code) (cells slots : Nat) (lw : S → va_W) (D : va_G) (A : Nat → Prop) (nL : Nat) (Qf : α → S → State → Prop) (o : Option (α × S)) (σ : S) (pc : Nat) (lv : List (Nat × Value)) (st : List Value) : Prop :=
  ∀ (a : α) (τ : S), o = some (a, τ) → ∀ (H : Heap) (locs : List Loc) (ls : Array Slot), va_P D vwCl (lw σ) H → va_S A s.heap H locs → lv_has ls nL lv → W p l e R s m args below meth c H locs cells slots (Qf a τ) (F0 m pc ls st)
def zCx (p : Program) (s : State) (m : MethodId) (args : Array Value) (meth : Method) (c : Code) (cc : ByteArray) (nL : Nat) (own : String) (D : va_G) (ca : Nat → ClassId) (xa : Nat → Nat) (A : Nat → Prop) (lw : S → va_W) : Prop :=
  p.tables.exec = Jvm.exec ∧ c.code = cc ∧ c.maxLocals = nL ∧ s.vm.findClass own = some m.cls ∧ (∀ w ∈ zlwg, w.before args s = true) ∧ meth.locks = false ∧ (∀ q, s.heap.size ≤ q → A q) ∧ zKx D ca xa A lw s
variable {lw : S → va_W} {D : va_G} {ca : Nat → ClassId} {xa : Nat → Nat} {A : Nat → Prop} {nL : Nat} {Qf : α → S → State → Prop} {cc : ByteArray} {own : String}
variable {o o1 o2 : Option (α × S)} {σ : S} {pc tgt : Nat} {lv lv' : List (Nat × Value)} {st : List Value}

theorem z_lift {pc' : Nat} {st' : List Value} (k : zGO p l e R s m args below meth c cells slots lw D A nL Qf o σ (pc') lv' (st')) (f : ∀ {H : Heap} {locs : List Loc} {ls : Array Slot} {Q : State → Prop}, lv_has ls nL lv → (∀ ls' : Array Slot, lv_has ls' nL lv' → W p l e R s m args below meth c H locs cells slots Q (F0 m (pc') ls' (st'))) → W p l e R s m args below meth c H locs cells slots Q (F0 m (pc) ls (st))) : zGO p l e R s m args below meth c cells slots lw D A nL Qf o σ (pc) lv (st) :=
  fun a τ h H locs ls hP hS hl => f hl (fun ls' hl' => k a τ h H locs ls' hP hS hl')
theorem z_none : zGO p l e R s m args below meth c cells slots lw D A nL Qf none σ (pc) lv (st) := fun a τ h => by cases h
theorem z_ite {P : Prop} {dP : Decidable P} (h1 : P → zGO p l e R s m args below meth c cells slots lw D A nL Qf o1 σ (pc) lv (st)) (h2 : ¬ P → zGO p l e R s m args below meth c cells slots lw D A nL Qf o2 σ (pc) lv (st)) : zGO p l e R s m args below meth c cells slots lw D A nL Qf (@ite _ P dP o1 o2) σ (pc) lv (st) := by
  by_cases hP : P
  · rw [if_pos hP]; exact h1 hP
  · rw [if_neg hP]; exact h2 hP
theorem z_sub (ks : List Nat) (hk : lv_pick lv ks = lv') (k : zGO p l e R s m args below meth c cells slots lw D A nL Qf o σ (pc) lv' (st)) : zGO p l e R s m args below meth c cells slots lw D A nL Qf o σ (pc) lv (st) :=
  fun a τ h H locs ls hP hS hl => k a τ h H locs ls hP hS (lv_sub hl ks hk)
theorem z_nm {x : Int32} {k : Int32 → Option (α × S)} (h : ∀ y : Int32, zGO p l e R s m args below meth c cells slots lw D A nL Qf (k y) σ (pc) lv (.int y :: st)) : zGO p l e R s m args below meth c cells slots lw D A nL Qf (znm x k) σ (pc) lv (.int x :: st) := h x
theorem z_nmL {x : Int64} {k : Int64 → Option (α × S)} (h : ∀ y : Int64, zGO p l e R s m args below meth c cells slots lw D A nL Qf (k y) σ (pc) lv (.long y :: st)) : zGO p l e R s m args below meth c cells slots lw D A nL Qf (znm x k) σ (pc) lv (.long x :: st) := h x

theorem z_iconst (hc : zCx p s m args meth c cc nL own D ca xa A lw) {n : Int} {v : Int32}  (d : decode cc pc = .ok (.iconst n, 1)) (hv : Int32.ofInt n = v) (k : zGO p l e R s m args below meth c cells slots lw D A nL Qf o σ (pc + 1) lv (.int v :: st)) : zGO p l e R s m args below meth c cells slots lw D A nL Qf o σ (pc) lv (st) := z_lift k (fun hl kk => lv_iconst hc.1 hc.2.1 d hv (kk _ hl))
theorem z_bipush (hc : zCx p s m args meth c cc nL own D ca xa A lw) {n : Int} {v : Int32}  (d : decode cc pc = .ok (.bipush n, 2)) (hv : (Int8.ofInt n).toInt32 = v) (k : zGO p l e R s m args below meth c cells slots lw D A nL Qf o σ (pc + 2) lv (.int v :: st)) : zGO p l e R s m args below meth c cells slots lw D A nL Qf o σ (pc) lv (st) := z_lift k (fun hl kk => lv_bipush hc.1 hc.2.1 d hv (kk _ hl))
theorem z_sipush (hc : zCx p s m args meth c cc nL own D ca xa A lw) {n : Int} {v : Int32}  (d : decode cc pc = .ok (.sipush n, 3)) (hv : (Int16.ofInt n).toInt32 = v) (k : zGO p l e R s m args below meth c cells slots lw D A nL Qf o σ (pc + 3) lv (.int v :: st)) : zGO p l e R s m args below meth c cells slots lw D A nL Qf o σ (pc) lv (st) := z_lift k (fun hl kk => lv_sipush hc.1 hc.2.1 d hv (kk _ hl))
theorem z_lconst (hc : zCx p s m args meth c cc nL own D ca xa A lw) {n : Fin 2} {v : Int64}  (d : decode cc pc = .ok (.lconst n, 1)) (hv : Int64.ofNat (n : Nat) = v) (k : zGO p l e R s m args below meth c cells slots lw D A nL Qf o σ (pc + 1) lv (.long v :: st)) : zGO p l e R s m args below meth c cells slots lw D A nL Qf o σ (pc) lv (st) := z_lift k (fun hl kk => lv_lconst hc.1 hc.2.1 d hv (kk _ hl))
theorem z_ldc (hc : zCx p s m args meth c cc nL own D ca xa A lw) {n : Nat} {v : Int32}  (d : decode cc pc = .ok (.ldc n, 2)) (hw : Cond.constant own n v ∈ zlwg) (k : zGO p l e R s m args below meth c cells slots lw D A nL Qf o σ (pc + 2) lv (.int v :: st)) : zGO p l e R s m args below meth c cells slots lw D A nL Qf o σ (pc) lv (st) := z_lift k (fun hl kk => lv_ldc hc.1 hc.2.1 hc.2.2.2.1 (hc.2.2.2.2.1 _ hw) d (kk _ hl))
theorem z_ldc2 (hc : zCx p s m args meth c cc nL own D ca xa A lw) {n : Nat} {v : Int64}  (d : decode cc pc = .ok (.ldc2_w n, 3)) (hw : Cond.constantLong own n v ∈ zlwg) (k : zGO p l e R s m args below meth c cells slots lw D A nL Qf o σ (pc + 3) lv (.long v :: st)) : zGO p l e R s m args below meth c cells slots lw D A nL Qf o σ (pc) lv (st) := z_lift k (fun hl kk => lv_ldc2 hc.1 hc.2.1 hc.2.2.2.1 (hc.2.2.2.2.1 _ hw) d (kk _ hl))
theorem z_iload_n (hc : zCx p s m args meth c cc nL own D ca xa A lw) {kk0 : Fin 4} {x : Int32}  (d : decode cc pc = .ok (.iload_n kk0, 1)) (q : Nat) (hq : lv[q]? = some ((kk0 : Nat), .int x)) (k : zGO p l e R s m args below meth c cells slots lw D A nL Qf o σ (pc + 1) lv (.int x :: st)) : zGO p l e R s m args below meth c cells slots lw D A nL Qf o σ (pc) lv (st) := z_lift k (fun hl kk => lv_iload_n hc.1 hc.2.1 d rfl (lv_at hl q hq) (kk _ hl))
theorem z_iload (hc : zCx p s m args meth c cc nL own D ca xa A lw) {i : Nat} {x : Int32}  (d : decode cc pc = .ok (.iload i, 2)) (q : Nat) (hq : lv[q]? = some (i, .int x)) (k : zGO p l e R s m args below meth c cells slots lw D A nL Qf o σ (pc + 2) lv (.int x :: st)) : zGO p l e R s m args below meth c cells slots lw D A nL Qf o σ (pc) lv (st) := z_lift k (fun hl kk => lv_iload hc.1 hc.2.1 d (lv_at hl q hq) (kk _ hl))
theorem z_lload_n (hc : zCx p s m args meth c cc nL own D ca xa A lw) {kk0 : Fin 4} {x : Int64}  (d : decode cc pc = .ok (.lload_n kk0, 1)) (q : Nat) (hq : lv[q]? = some ((kk0 : Nat), .long x)) (k : zGO p l e R s m args below meth c cells slots lw D A nL Qf o σ (pc + 1) lv (.long x :: st)) : zGO p l e R s m args below meth c cells slots lw D A nL Qf o σ (pc) lv (st) := z_lift k (fun hl kk => lv_lload_n hc.1 hc.2.1 d rfl (lv_at hl q hq) (kk _ hl))
theorem z_lload (hc : zCx p s m args meth c cc nL own D ca xa A lw) {i : Nat} {x : Int64}  (d : decode cc pc = .ok (.lload i, 2)) (q : Nat) (hq : lv[q]? = some (i, .long x)) (k : zGO p l e R s m args below meth c cells slots lw D A nL Qf o σ (pc + 2) lv (.long x :: st)) : zGO p l e R s m args below meth c cells slots lw D A nL Qf o σ (pc) lv (st) := z_lift k (fun hl kk => lv_lload hc.1 hc.2.1 d (lv_at hl q hq) (kk _ hl))
theorem z_aload_n (hc : zCx p s m args meth c cc nL own D ca xa A lw) {kk0 : Fin 4} {x : Nat}  (d : decode cc pc = .ok (.aload_n kk0, 1)) (q : Nat) (hq : lv[q]? = some ((kk0 : Nat), .ref x)) (k : zGO p l e R s m args below meth c cells slots lw D A nL Qf o σ (pc + 1) lv (.ref x :: st)) : zGO p l e R s m args below meth c cells slots lw D A nL Qf o σ (pc) lv (st) := z_lift k (fun hl kk => lv_aload_n hc.1 hc.2.1 d rfl (lv_at hl q hq) (kk _ hl))
theorem z_aload (hc : zCx p s m args meth c cc nL own D ca xa A lw) {i : Nat} {x : Nat}  (d : decode cc pc = .ok (.aload i, 2)) (q : Nat) (hq : lv[q]? = some (i, .ref x)) (k : zGO p l e R s m args below meth c cells slots lw D A nL Qf o σ (pc + 2) lv (.ref x :: st)) : zGO p l e R s m args below meth c cells slots lw D A nL Qf o σ (pc) lv (st) := z_lift k (fun hl kk => lv_aload hc.1 hc.2.1 d (lv_at hl q hq) (kk _ hl))
theorem z_istore_n (hc : zCx p s m args meth c cc nL own D ca xa A lw) {kk0 : Fin 4} {i : Nat} {x : Int32}  (d : decode cc pc = .ok (.istore_n kk0, 1)) (hi : (kk0 : Nat) = i) (hn : i < nL) (hv : (i, Value.int x) :: lv.filter (fun q => !(q.1 == i) && !(q.1 + 1 == i && q.2.category == 2)) = lv') (k : zGO p l e R s m args below meth c cells slots lw D A nL Qf o σ (pc + 1) lv' (st)) : zGO p l e R s m args below meth c cells slots lw D A nL Qf o σ (pc) lv (.int x :: st) := z_lift k (fun hl kk => lv_istore_n hc.1 hc.2.1 d hi hl hn hv kk)
theorem z_istore (hc : zCx p s m args meth c cc nL own D ca xa A lw) {i : Nat} {x : Int32}  (d : decode cc pc = .ok (.istore i, 2)) (hn : i < nL) (hv : (i, Value.int x) :: lv.filter (fun q => !(q.1 == i) && !(q.1 + 1 == i && q.2.category == 2)) = lv') (k : zGO p l e R s m args below meth c cells slots lw D A nL Qf o σ (pc + 2) lv' (st)) : zGO p l e R s m args below meth c cells slots lw D A nL Qf o σ (pc) lv (.int x :: st) := z_lift k (fun hl kk => lv_istore hc.1 hc.2.1 d hl hn hv kk)
theorem z_lstore_n (hc : zCx p s m args meth c cc nL own D ca xa A lw) {kk0 : Fin 4} {i : Nat} {x : Int64}  (d : decode cc pc = .ok (.lstore_n kk0, 1)) (hi : (kk0 : Nat) = i) (hn : i + 1 < nL) (hv : (i, Value.long x) :: lv.filter (fun q => !(q.1 == i) && (!(q.1 == i + 1) && !(q.1 + 1 == i && q.2.category == 2))) = lv') (k : zGO p l e R s m args below meth c cells slots lw D A nL Qf o σ (pc + 1) lv' (st)) : zGO p l e R s m args below meth c cells slots lw D A nL Qf o σ (pc) lv (.long x :: st) := z_lift k (fun hl kk => lv_lstore_n hc.1 hc.2.1 d hi hl hn hv kk)
theorem z_lstore (hc : zCx p s m args meth c cc nL own D ca xa A lw) {i : Nat} {x : Int64}  (d : decode cc pc = .ok (.lstore i, 2)) (hn : i + 1 < nL) (hv : (i, Value.long x) :: lv.filter (fun q => !(q.1 == i) && (!(q.1 == i + 1) && !(q.1 + 1 == i && q.2.category == 2))) = lv') (k : zGO p l e R s m args below meth c cells slots lw D A nL Qf o σ (pc + 2) lv' (st)) : zGO p l e R s m args below meth c cells slots lw D A nL Qf o σ (pc) lv (.long x :: st) := z_lift k (fun hl kk => lv_lstore hc.1 hc.2.1 d hl hn hv kk)
theorem z_astore_n (hc : zCx p s m args meth c cc nL own D ca xa A lw) {kk0 : Fin 4} {i : Nat} {x : Nat}  (d : decode cc pc = .ok (.astore_n kk0, 1)) (hi : (kk0 : Nat) = i) (hn : i < nL) (hv : (i, Value.ref x) :: lv.filter (fun q => !(q.1 == i) && !(q.1 + 1 == i && q.2.category == 2)) = lv') (k : zGO p l e R s m args below meth c cells slots lw D A nL Qf o σ (pc + 1) lv' (st)) : zGO p l e R s m args below meth c cells slots lw D A nL Qf o σ (pc) lv (.ref x :: st) := z_lift k (fun hl kk => lv_astore_n hc.1 hc.2.1 d hi hl hn hv kk)
theorem z_astore (hc : zCx p s m args meth c cc nL own D ca xa A lw) {i : Nat} {x : Nat}  (d : decode cc pc = .ok (.astore i, 2)) (hn : i < nL) (hv : (i, Value.ref x) :: lv.filter (fun q => !(q.1 == i) && !(q.1 + 1 == i && q.2.category == 2)) = lv') (k : zGO p l e R s m args below meth c cells slots lw D A nL Qf o σ (pc + 2) lv' (st)) : zGO p l e R s m args below meth c cells slots lw D A nL Qf o σ (pc) lv (.ref x :: st) := z_lift k (fun hl kk => lv_astore hc.1 hc.2.1 d hl hn hv kk)
theorem z_iinc (hc : zCx p s m args meth c cc nL own D ca xa A lw) {i : Nat} {n : Int} {x v : Int32} (d : decode cc pc = .ok (.iinc i n, 3)) (q : Nat) (hq : lv[q]? = some (i, .int x)) (hx : x + Int32.ofInt n = v) (hn : i < nL) (hv : (i, Value.int v) :: lv.filter (fun q => !(q.1 == i) && !(q.1 + 1 == i && q.2.category == 2)) = lv') (k : zGO p l e R s m args below meth c cells slots lw D A nL Qf o σ (pc + 3) lv' (st)) : zGO p l e R s m args below meth c cells slots lw D A nL Qf o σ (pc) lv (st) := z_lift k (fun hl kk => lv_iinc hc.1 hc.2.1 d hl hq hx hn hv kk)
theorem z_iadd (hc : zCx p s m args meth c cc nL own D ca xa A lw) {x y : Int32} (d : decode cc pc = .ok (.iadd, 1))  (k : zGO p l e R s m args below meth c cells slots lw D A nL Qf o σ (pc + 1) lv (.int (x + y) :: st)) : zGO p l e R s m args below meth c cells slots lw D A nL Qf o σ (pc) lv (.int y :: .int x :: st) := z_lift k (fun hl kk => lv_iadd hc.1 hc.2.1 d (kk _ hl))
theorem z_isub (hc : zCx p s m args meth c cc nL own D ca xa A lw) {x y : Int32} (d : decode cc pc = .ok (.isub, 1))  (k : zGO p l e R s m args below meth c cells slots lw D A nL Qf o σ (pc + 1) lv (.int (x - y) :: st)) : zGO p l e R s m args below meth c cells slots lw D A nL Qf o σ (pc) lv (.int y :: .int x :: st) := z_lift k (fun hl kk => lv_isub hc.1 hc.2.1 d (kk _ hl))
theorem z_imul (hc : zCx p s m args meth c cc nL own D ca xa A lw) {x y : Int32} (d : decode cc pc = .ok (.imul, 1))  (k : zGO p l e R s m args below meth c cells slots lw D A nL Qf o σ (pc + 1) lv (.int (x * y) :: st)) : zGO p l e R s m args below meth c cells slots lw D A nL Qf o σ (pc) lv (.int y :: .int x :: st) := z_lift k (fun hl kk => lv_imul hc.1 hc.2.1 d (kk _ hl))
theorem z_iand (hc : zCx p s m args meth c cc nL own D ca xa A lw) {x y : Int32} (d : decode cc pc = .ok (.iand, 1))  (k : zGO p l e R s m args below meth c cells slots lw D A nL Qf o σ (pc + 1) lv (.int (x &&& y) :: st)) : zGO p l e R s m args below meth c cells slots lw D A nL Qf o σ (pc) lv (.int y :: .int x :: st) := z_lift k (fun hl kk => lv_iand hc.1 hc.2.1 d (kk _ hl))
theorem z_ior (hc : zCx p s m args meth c cc nL own D ca xa A lw) {x y : Int32} (d : decode cc pc = .ok (.ior, 1))  (k : zGO p l e R s m args below meth c cells slots lw D A nL Qf o σ (pc + 1) lv (.int (x ||| y) :: st)) : zGO p l e R s m args below meth c cells slots lw D A nL Qf o σ (pc) lv (.int y :: .int x :: st) := z_lift k (fun hl kk => lv_ior hc.1 hc.2.1 d (kk _ hl))
theorem z_ixor (hc : zCx p s m args meth c cc nL own D ca xa A lw) {x y : Int32} (d : decode cc pc = .ok (.ixor, 1))  (k : zGO p l e R s m args below meth c cells slots lw D A nL Qf o σ (pc + 1) lv (.int (x ^^^ y) :: st)) : zGO p l e R s m args below meth c cells slots lw D A nL Qf o σ (pc) lv (.int y :: .int x :: st) := z_lift k (fun hl kk => lv_ixor hc.1 hc.2.1 d (kk _ hl))
theorem z_ishl (hc : zCx p s m args meth c cc nL own D ca xa A lw) {x y : Int32} (d : decode cc pc = .ok (.ishl, 1))  (k : zGO p l e R s m args below meth c cells slots lw D A nL Qf o σ (pc + 1) lv (.int (x <<< (y &&& 31)) :: st)) : zGO p l e R s m args below meth c cells slots lw D A nL Qf o σ (pc) lv (.int y :: .int x :: st) := z_lift k (fun hl kk => lv_ishl hc.1 hc.2.1 d (kk _ hl))
theorem z_ishr (hc : zCx p s m args meth c cc nL own D ca xa A lw) {x y : Int32} (d : decode cc pc = .ok (.ishr, 1))  (k : zGO p l e R s m args below meth c cells slots lw D A nL Qf o σ (pc + 1) lv (.int (x >>> (y &&& 31)) :: st)) : zGO p l e R s m args below meth c cells slots lw D A nL Qf o σ (pc) lv (.int y :: .int x :: st) := z_lift k (fun hl kk => lv_ishr hc.1 hc.2.1 d (kk _ hl))
theorem z_ladd (hc : zCx p s m args meth c cc nL own D ca xa A lw) {x y : Int64} (d : decode cc pc = .ok (.ladd, 1))  (k : zGO p l e R s m args below meth c cells slots lw D A nL Qf o σ (pc + 1) lv (.long (x + y) :: st)) : zGO p l e R s m args below meth c cells slots lw D A nL Qf o σ (pc) lv (.long y :: .long x :: st) := z_lift k (fun hl kk => lv_ladd hc.1 hc.2.1 d (kk _ hl))
theorem z_lsub (hc : zCx p s m args meth c cc nL own D ca xa A lw) {x y : Int64} (d : decode cc pc = .ok (.lsub, 1))  (k : zGO p l e R s m args below meth c cells slots lw D A nL Qf o σ (pc + 1) lv (.long (x - y) :: st)) : zGO p l e R s m args below meth c cells slots lw D A nL Qf o σ (pc) lv (.long y :: .long x :: st) := z_lift k (fun hl kk => lv_lsub hc.1 hc.2.1 d (kk _ hl))
theorem z_lmul (hc : zCx p s m args meth c cc nL own D ca xa A lw) {x y : Int64} (d : decode cc pc = .ok (.lmul, 1))  (k : zGO p l e R s m args below meth c cells slots lw D A nL Qf o σ (pc + 1) lv (.long (x * y) :: st)) : zGO p l e R s m args below meth c cells slots lw D A nL Qf o σ (pc) lv (.long y :: .long x :: st) := z_lift k (fun hl kk => lv_lmul hc.1 hc.2.1 d (kk _ hl))
theorem z_land (hc : zCx p s m args meth c cc nL own D ca xa A lw) {x y : Int64} (d : decode cc pc = .ok (.land, 1))  (k : zGO p l e R s m args below meth c cells slots lw D A nL Qf o σ (pc + 1) lv (.long (x &&& y) :: st)) : zGO p l e R s m args below meth c cells slots lw D A nL Qf o σ (pc) lv (.long y :: .long x :: st) := z_lift k (fun hl kk => lv_land hc.1 hc.2.1 d (kk _ hl))
theorem z_lor (hc : zCx p s m args meth c cc nL own D ca xa A lw) {x y : Int64} (d : decode cc pc = .ok (.lor, 1))  (k : zGO p l e R s m args below meth c cells slots lw D A nL Qf o σ (pc + 1) lv (.long (x ||| y) :: st)) : zGO p l e R s m args below meth c cells slots lw D A nL Qf o σ (pc) lv (.long y :: .long x :: st) := z_lift k (fun hl kk => lv_lor hc.1 hc.2.1 d (kk _ hl))
theorem z_iushr (hc : zCx p s m args meth c cc nL own D ca xa A lw) {x y : Int32} (d : decode cc pc = .ok (.iushr, 1))  (k : zGO p l e R s m args below meth c cells slots lw D A nL Qf o σ (pc + 1) lv (.int (x.toUInt32 >>> (y.toUInt32 &&& Int32.toUInt32 31)).toInt32 :: st)) : zGO p l e R s m args below meth c cells slots lw D A nL Qf o σ (pc) lv (.int y :: .int x :: st) := z_lift k (fun hl kk => lv_iushr hc.1 hc.2.1 d rfl (kk _ hl))
theorem z_ineg (hc : zCx p s m args meth c cc nL own D ca xa A lw) {x : Int32} (d : decode cc pc = .ok (.ineg, 1))  (k : zGO p l e R s m args below meth c cells slots lw D A nL Qf o σ (pc + 1) lv (.int (-x) :: st)) : zGO p l e R s m args below meth c cells slots lw D A nL Qf o σ (pc) lv (.int x :: st) := z_lift k (fun hl kk => lv_ineg hc.1 hc.2.1 d (kk _ hl))
theorem z_lneg (hc : zCx p s m args meth c cc nL own D ca xa A lw) {x : Int64} (d : decode cc pc = .ok (.lneg, 1))  (k : zGO p l e R s m args below meth c cells slots lw D A nL Qf o σ (pc + 1) lv (.long (-x) :: st)) : zGO p l e R s m args below meth c cells slots lw D A nL Qf o σ (pc) lv (.long x :: st) := z_lift k (fun hl kk => lv_lneg hc.1 hc.2.1 d (kk _ hl))
theorem z_i2l (hc : zCx p s m args meth c cc nL own D ca xa A lw) {x : Int32} (d : decode cc pc = .ok (.i2l, 1))  (k : zGO p l e R s m args below meth c cells slots lw D A nL Qf o σ (pc + 1) lv (.long x.toInt64 :: st)) : zGO p l e R s m args below meth c cells slots lw D A nL Qf o σ (pc) lv (.int x :: st) := z_lift k (fun hl kk => lv_i2l hc.1 hc.2.1 d rfl (kk _ hl))
theorem z_l2i (hc : zCx p s m args meth c cc nL own D ca xa A lw) {x : Int64} (d : decode cc pc = .ok (.l2i, 1))  (k : zGO p l e R s m args below meth c cells slots lw D A nL Qf o σ (pc + 1) lv (.int x.toInt32 :: st)) : zGO p l e R s m args below meth c cells slots lw D A nL Qf o σ (pc) lv (.long x :: st) := z_lift k (fun hl kk => lv_l2i hc.1 hc.2.1 d rfl (kk _ hl))
theorem z_i2b (hc : zCx p s m args meth c cc nL own D ca xa A lw) {x : Int32} (d : decode cc pc = .ok (.i2b, 1))  (k : zGO p l e R s m args below meth c cells slots lw D A nL Qf o σ (pc + 1) lv (.int x.toInt8.toInt32 :: st)) : zGO p l e R s m args below meth c cells slots lw D A nL Qf o σ (pc) lv (.int x :: st) := z_lift k (fun hl kk => lv_i2b hc.1 hc.2.1 d rfl (kk _ hl))
theorem z_i2s (hc : zCx p s m args meth c cc nL own D ca xa A lw) {x : Int32} (d : decode cc pc = .ok (.i2s, 1))  (k : zGO p l e R s m args below meth c cells slots lw D A nL Qf o σ (pc + 1) lv (.int x.toInt16.toInt32 :: st)) : zGO p l e R s m args below meth c cells slots lw D A nL Qf o σ (pc) lv (.int x :: st) := z_lift k (fun hl kk => lv_i2s hc.1 hc.2.1 d rfl (kk _ hl))
theorem z_i2c (hc : zCx p s m args meth c cc nL own D ca xa A lw) {x : Int32} (d : decode cc pc = .ok (.i2c, 1))  (k : zGO p l e R s m args below meth c cells slots lw D A nL Qf o σ (pc + 1) lv (.int (x.toUInt32 % 65536).toInt32 :: st)) : zGO p l e R s m args below meth c cells slots lw D A nL Qf o σ (pc) lv (.int x :: st) := z_lift k (fun hl kk => lv_i2c hc.1 hc.2.1 d rfl (kk _ hl))
theorem z_lshl (hc : zCx p s m args meth c cc nL own D ca xa A lw) {x : Int64} {y : Int32} (d : decode cc pc = .ok (.lshl, 1))  (k : zGO p l e R s m args below meth c cells slots lw D A nL Qf o σ (pc + 1) lv (.long (x <<< (y.toInt64 &&& 63)) :: st)) : zGO p l e R s m args below meth c cells slots lw D A nL Qf o σ (pc) lv (.int y :: .long x :: st) := z_lift k (fun hl kk => lv_lshl hc.1 hc.2.1 d rfl (kk _ hl))
theorem z_lshr (hc : zCx p s m args meth c cc nL own D ca xa A lw) {x : Int64} {y : Int32} (d : decode cc pc = .ok (.lshr, 1))  (k : zGO p l e R s m args below meth c cells slots lw D A nL Qf o σ (pc + 1) lv (.long (x >>> (y.toInt64 &&& 63)) :: st)) : zGO p l e R s m args below meth c cells slots lw D A nL Qf o σ (pc) lv (.int y :: .long x :: st) := z_lift k (fun hl kk => lv_lshr hc.1 hc.2.1 d rfl (kk _ hl))
theorem z_dup (hc : zCx p s m args meth c cc nL own D ca xa A lw) {va : Value}  (d : decode cc pc = .ok (.dup, 1)) (h1 : va.category = 1) (k : zGO p l e R s m args below meth c cells slots lw D A nL Qf o σ (pc + 1) lv (va :: va :: st)) : zGO p l e R s m args below meth c cells slots lw D A nL Qf o σ (pc) lv (va :: st) := z_lift k (fun hl kk => lv_dup hc.1 hc.2.1 d h1 (kk _ hl))
theorem z_pop (hc : zCx p s m args meth c cc nL own D ca xa A lw) {va : Value}  (d : decode cc pc = .ok (.pop, 1)) (h1 : va.category = 1) (k : zGO p l e R s m args below meth c cells slots lw D A nL Qf o σ (pc + 1) lv (st)) : zGO p l e R s m args below meth c cells slots lw D A nL Qf o σ (pc) lv (va :: st) := z_lift k (fun hl kk => lv_pop hc.1 hc.2.1 d h1 (kk _ hl))
theorem z_dup_x1 (hc : zCx p s m args meth c cc nL own D ca xa A lw) {va vb : Value}  (d : decode cc pc = .ok (.dup_x1, 1)) (h1 : va.category = 1) (h2 : vb.category = 1) (k : zGO p l e R s m args below meth c cells slots lw D A nL Qf o σ (pc + 1) lv (va :: vb :: va :: st)) : zGO p l e R s m args below meth c cells slots lw D A nL Qf o σ (pc) lv (va :: vb :: st) := z_lift k (fun hl kk => lv_dup_x1 hc.1 hc.2.1 d h1 h2 (kk _ hl))
theorem z_dup_x2 (hc : zCx p s m args meth c cc nL own D ca xa A lw) {va vb vd : Value}  (d : decode cc pc = .ok (.dup_x2, 1)) (h1 : va.category = 1) (h2 : vb.category = 1) (h3 : vd.category = 1) (k : zGO p l e R s m args below meth c cells slots lw D A nL Qf o σ (pc + 1) lv (va :: vb :: vd :: va :: st)) : zGO p l e R s m args below meth c cells slots lw D A nL Qf o σ (pc) lv (va :: vb :: vd :: st) := z_lift k (fun hl kk => lv_dup_x2 hc.1 hc.2.1 d h1 h2 h3 (kk _ hl))
theorem z_dup2_11 (hc : zCx p s m args meth c cc nL own D ca xa A lw) {va vb : Value}  (d : decode cc pc = .ok (.dup2, 1)) (h1 : va.category = 1) (h2 : vb.category = 1) (k : zGO p l e R s m args below meth c cells slots lw D A nL Qf o σ (pc + 1) lv (va :: vb :: va :: vb :: st)) : zGO p l e R s m args below meth c cells slots lw D A nL Qf o σ (pc) lv (va :: vb :: st) := z_lift k (fun hl kk => lv_dup2_11 hc.1 hc.2.1 d h1 h2 (kk _ hl))
theorem z_dup2_2 (hc : zCx p s m args meth c cc nL own D ca xa A lw) {va : Value}  (d : decode cc pc = .ok (.dup2, 1)) (h1 : va.category = 2) (k : zGO p l e R s m args below meth c cells slots lw D A nL Qf o σ (pc + 1) lv (va :: va :: st)) : zGO p l e R s m args below meth c cells slots lw D A nL Qf o σ (pc) lv (va :: st) := z_lift k (fun hl kk => lv_dup2_2 hc.1 hc.2.1 d h1 (kk _ hl))
theorem z_goto (hc : zCx p s m args meth c cc nL own D ca xa A lw) {off : Int}  (d : decode cc pc = .ok (.goto off, 3)) (ht : (pc : Int) + off = (tgt : Int)) (k : zGO p l e R s m args below meth c cells slots lw D A nL Qf o σ (tgt) lv (st)) : zGO p l e R s m args below meth c cells slots lw D A nL Qf o σ (pc) lv (st) := z_lift k (fun hl kk => lv_goto hc.1 hc.2.1 d ht (kk _ hl))
theorem z_if_ne (hc : zCx p s m args meth c cc nL own D ca xa A lw) {x : Int32} {off : Int} {dP : Decidable (x = 0)} (d : decode cc pc = .ok (.ifCond .ne off, 3)) (ht : (pc : Int) + off = (tgt : Int)) (k1 : zGO p l e R s m args below meth c cells slots lw D A nL Qf o1 σ (pc + 3) lv (st)) (k2 : zGO p l e R s m args below meth c cells slots lw D A nL Qf o2 σ (tgt) lv (st)) : zGO p l e R s m args below meth c cells slots lw D A nL Qf (@ite _ (x = 0) dP o1 o2) σ (pc) lv (.int x :: st) := by
  intro a τ h H locs ls hP hS hl
  refine lv_if_ne hc.1 hc.2.1 d ht (fun q => ?_) (fun q => ?_)
  · rw [if_neg q] at h
    exact k2 a τ h H locs ls hP hS hl
  · rw [if_pos q] at h
    exact k1 a τ h H locs ls hP hS hl
theorem z_icmp_ne (hc : zCx p s m args meth c cc nL own D ca xa A lw) {x y : Int32} {off : Int} {dP : Decidable (x = y)} (d : decode cc pc = .ok (.if_icmp .ne off, 3)) (ht : (pc : Int) + off = (tgt : Int)) (k1 : zGO p l e R s m args below meth c cells slots lw D A nL Qf o1 σ (pc + 3) lv (st)) (k2 : zGO p l e R s m args below meth c cells slots lw D A nL Qf o2 σ (tgt) lv (st)) : zGO p l e R s m args below meth c cells slots lw D A nL Qf (@ite _ (x = y) dP o1 o2) σ (pc) lv (.int y :: .int x :: st) := by
  intro a τ h H locs ls hP hS hl
  refine lv_icmp_ne hc.1 hc.2.1 d ht (fun q => ?_) (fun q => ?_)
  · rw [if_neg q] at h
    exact k2 a τ h H locs ls hP hS hl
  · rw [if_pos q] at h
    exact k1 a τ h H locs ls hP hS hl
theorem z_if_eq (hc : zCx p s m args meth c cc nL own D ca xa A lw) {x : Int32} {off : Int} {dP : Decidable (x = 0)} (d : decode cc pc = .ok (.ifCond .eq off, 3)) (ht : (pc : Int) + off = (tgt : Int)) (k1 : zGO p l e R s m args below meth c cells slots lw D A nL Qf o1 σ (tgt) lv (st)) (k2 : zGO p l e R s m args below meth c cells slots lw D A nL Qf o2 σ (pc + 3) lv (st)) : zGO p l e R s m args below meth c cells slots lw D A nL Qf (@ite _ (x = 0) dP o1 o2) σ (pc) lv (.int x :: st) := by
  intro a τ h H locs ls hP hS hl
  refine lv_if_eq hc.1 hc.2.1 d ht (fun q => ?_) (fun q => ?_)
  · first | rw [if_pos q] at h | rw [if_neg q] at h
    first | exact k1 a τ h H locs ls hP hS hl | exact k2 a τ h H locs ls hP hS hl
  · first | rw [if_neg q] at h | rw [if_pos q] at h
    first | exact k2 a τ h H locs ls hP hS hl | exact k1 a τ h H locs ls hP hS hl
theorem z_icmp_eq (hc : zCx p s m args meth c cc nL own D ca xa A lw) {x y : Int32} {off : Int} {dP : Decidable (x = y)} (d : decode cc pc = .ok (.if_icmp .eq off, 3)) (ht : (pc : Int) + off = (tgt : Int)) (k1 : zGO p l e R s m args below meth c cells slots lw D A nL Qf o1 σ (tgt) lv (st)) (k2 : zGO p l e R s m args below meth c cells slots lw D A nL Qf o2 σ (pc + 3) lv (st)) : zGO p l e R s m args below meth c cells slots lw D A nL Qf (@ite _ (x = y) dP o1 o2) σ (pc) lv (.int y :: .int x :: st) := by
  intro a τ h H locs ls hP hS hl
  refine lv_icmp_eq hc.1 hc.2.1 d ht (fun q => ?_) (fun q => ?_)
  · first | rw [if_pos q] at h | rw [if_neg q] at h
    first | exact k1 a τ h H locs ls hP hS hl | exact k2 a τ h H locs ls hP hS hl
  · first | rw [if_neg q] at h | rw [if_pos q] at h
    first | exact k2 a τ h H locs ls hP hS hl | exact k1 a τ h H locs ls hP hS hl
theorem z_if_lt (hc : zCx p s m args meth c cc nL own D ca xa A lw) {x : Int32} {off : Int} {dP : Decidable (x < 0)} (d : decode cc pc = .ok (.ifCond .lt off, 3)) (ht : (pc : Int) + off = (tgt : Int)) (k1 : zGO p l e R s m args below meth c cells slots lw D A nL Qf o1 σ (tgt) lv (st)) (k2 : zGO p l e R s m args below meth c cells slots lw D A nL Qf o2 σ (pc + 3) lv (st)) : zGO p l e R s m args below meth c cells slots lw D A nL Qf (@ite _ (x < 0) dP o1 o2) σ (pc) lv (.int x :: st) := by
  intro a τ h H locs ls hP hS hl
  refine lv_if_lt hc.1 hc.2.1 d ht (fun q => ?_) (fun q => ?_)
  · first | rw [if_pos q] at h | rw [if_neg q] at h
    first | exact k1 a τ h H locs ls hP hS hl | exact k2 a τ h H locs ls hP hS hl
  · first | rw [if_neg q] at h | rw [if_pos q] at h
    first | exact k2 a τ h H locs ls hP hS hl | exact k1 a τ h H locs ls hP hS hl
theorem z_icmp_lt (hc : zCx p s m args meth c cc nL own D ca xa A lw) {x y : Int32} {off : Int} {dP : Decidable (x < y)} (d : decode cc pc = .ok (.if_icmp .lt off, 3)) (ht : (pc : Int) + off = (tgt : Int)) (k1 : zGO p l e R s m args below meth c cells slots lw D A nL Qf o1 σ (tgt) lv (st)) (k2 : zGO p l e R s m args below meth c cells slots lw D A nL Qf o2 σ (pc + 3) lv (st)) : zGO p l e R s m args below meth c cells slots lw D A nL Qf (@ite _ (x < y) dP o1 o2) σ (pc) lv (.int y :: .int x :: st) := by
  intro a τ h H locs ls hP hS hl
  refine lv_icmp_lt hc.1 hc.2.1 d ht (fun q => ?_) (fun q => ?_)
  · first | rw [if_pos q] at h | rw [if_neg q] at h
    first | exact k1 a τ h H locs ls hP hS hl | exact k2 a τ h H locs ls hP hS hl
  · first | rw [if_neg q] at h | rw [if_pos q] at h
    first | exact k2 a τ h H locs ls hP hS hl | exact k1 a τ h H locs ls hP hS hl
theorem z_if_ge (hc : zCx p s m args meth c cc nL own D ca xa A lw) {x : Int32} {off : Int} {dP : Decidable (0 ≤ x)} (d : decode cc pc = .ok (.ifCond .ge off, 3)) (ht : (pc : Int) + off = (tgt : Int)) (k1 : zGO p l e R s m args below meth c cells slots lw D A nL Qf o1 σ (tgt) lv (st)) (k2 : zGO p l e R s m args below meth c cells slots lw D A nL Qf o2 σ (pc + 3) lv (st)) : zGO p l e R s m args below meth c cells slots lw D A nL Qf (@ite _ (0 ≤ x) dP o1 o2) σ (pc) lv (.int x :: st) := by
  intro a τ h H locs ls hP hS hl
  refine lv_if_ge hc.1 hc.2.1 d ht (fun q => ?_) (fun q => ?_)
  · first | rw [if_pos q] at h | rw [if_neg q] at h
    first | exact k1 a τ h H locs ls hP hS hl | exact k2 a τ h H locs ls hP hS hl
  · first | rw [if_neg q] at h | rw [if_pos q] at h
    first | exact k2 a τ h H locs ls hP hS hl | exact k1 a τ h H locs ls hP hS hl
theorem z_icmp_ge (hc : zCx p s m args meth c cc nL own D ca xa A lw) {x y : Int32} {off : Int} {dP : Decidable (y ≤ x)} (d : decode cc pc = .ok (.if_icmp .ge off, 3)) (ht : (pc : Int) + off = (tgt : Int)) (k1 : zGO p l e R s m args below meth c cells slots lw D A nL Qf o1 σ (tgt) lv (st)) (k2 : zGO p l e R s m args below meth c cells slots lw D A nL Qf o2 σ (pc + 3) lv (st)) : zGO p l e R s m args below meth c cells slots lw D A nL Qf (@ite _ (y ≤ x) dP o1 o2) σ (pc) lv (.int y :: .int x :: st) := by
  intro a τ h H locs ls hP hS hl
  refine lv_icmp_ge hc.1 hc.2.1 d ht (fun q => ?_) (fun q => ?_)
  · first | rw [if_pos q] at h | rw [if_neg q] at h
    first | exact k1 a τ h H locs ls hP hS hl | exact k2 a τ h H locs ls hP hS hl
  · first | rw [if_neg q] at h | rw [if_pos q] at h
    first | exact k2 a τ h H locs ls hP hS hl | exact k1 a τ h H locs ls hP hS hl
theorem z_if_gt (hc : zCx p s m args meth c cc nL own D ca xa A lw) {x : Int32} {off : Int} {dP : Decidable (0 < x)} (d : decode cc pc = .ok (.ifCond .gt off, 3)) (ht : (pc : Int) + off = (tgt : Int)) (k1 : zGO p l e R s m args below meth c cells slots lw D A nL Qf o1 σ (tgt) lv (st)) (k2 : zGO p l e R s m args below meth c cells slots lw D A nL Qf o2 σ (pc + 3) lv (st)) : zGO p l e R s m args below meth c cells slots lw D A nL Qf (@ite _ (0 < x) dP o1 o2) σ (pc) lv (.int x :: st) := by
  intro a τ h H locs ls hP hS hl
  refine lv_if_gt hc.1 hc.2.1 d ht (fun q => ?_) (fun q => ?_)
  · first | rw [if_pos q] at h | rw [if_neg q] at h
    first | exact k1 a τ h H locs ls hP hS hl | exact k2 a τ h H locs ls hP hS hl
  · first | rw [if_neg q] at h | rw [if_pos q] at h
    first | exact k2 a τ h H locs ls hP hS hl | exact k1 a τ h H locs ls hP hS hl
theorem z_icmp_gt (hc : zCx p s m args meth c cc nL own D ca xa A lw) {x y : Int32} {off : Int} {dP : Decidable (y < x)} (d : decode cc pc = .ok (.if_icmp .gt off, 3)) (ht : (pc : Int) + off = (tgt : Int)) (k1 : zGO p l e R s m args below meth c cells slots lw D A nL Qf o1 σ (tgt) lv (st)) (k2 : zGO p l e R s m args below meth c cells slots lw D A nL Qf o2 σ (pc + 3) lv (st)) : zGO p l e R s m args below meth c cells slots lw D A nL Qf (@ite _ (y < x) dP o1 o2) σ (pc) lv (.int y :: .int x :: st) := by
  intro a τ h H locs ls hP hS hl
  refine lv_icmp_gt hc.1 hc.2.1 d ht (fun q => ?_) (fun q => ?_)
  · first | rw [if_pos q] at h | rw [if_neg q] at h
    first | exact k1 a τ h H locs ls hP hS hl | exact k2 a τ h H locs ls hP hS hl
  · first | rw [if_neg q] at h | rw [if_pos q] at h
    first | exact k2 a τ h H locs ls hP hS hl | exact k1 a τ h H locs ls hP hS hl
theorem z_if_le (hc : zCx p s m args meth c cc nL own D ca xa A lw) {x : Int32} {off : Int} {dP : Decidable (x ≤ 0)} (d : decode cc pc = .ok (.ifCond .le off, 3)) (ht : (pc : Int) + off = (tgt : Int)) (k1 : zGO p l e R s m args below meth c cells slots lw D A nL Qf o1 σ (tgt) lv (st)) (k2 : zGO p l e R s m args below meth c cells slots lw D A nL Qf o2 σ (pc + 3) lv (st)) : zGO p l e R s m args below meth c cells slots lw D A nL Qf (@ite _ (x ≤ 0) dP o1 o2) σ (pc) lv (.int x :: st) := by
  intro a τ h H locs ls hP hS hl
  refine lv_if_le hc.1 hc.2.1 d ht (fun q => ?_) (fun q => ?_)
  · first | rw [if_pos q] at h | rw [if_neg q] at h
    first | exact k1 a τ h H locs ls hP hS hl | exact k2 a τ h H locs ls hP hS hl
  · first | rw [if_neg q] at h | rw [if_pos q] at h
    first | exact k2 a τ h H locs ls hP hS hl | exact k1 a τ h H locs ls hP hS hl
theorem z_icmp_le (hc : zCx p s m args meth c cc nL own D ca xa A lw) {x y : Int32} {off : Int} {dP : Decidable (x ≤ y)} (d : decode cc pc = .ok (.if_icmp .le off, 3)) (ht : (pc : Int) + off = (tgt : Int)) (k1 : zGO p l e R s m args below meth c cells slots lw D A nL Qf o1 σ (tgt) lv (st)) (k2 : zGO p l e R s m args below meth c cells slots lw D A nL Qf o2 σ (pc + 3) lv (st)) : zGO p l e R s m args below meth c cells slots lw D A nL Qf (@ite _ (x ≤ y) dP o1 o2) σ (pc) lv (.int y :: .int x :: st) := by
  intro a τ h H locs ls hP hS hl
  refine lv_icmp_le hc.1 hc.2.1 d ht (fun q => ?_) (fun q => ?_)
  · first | rw [if_pos q] at h | rw [if_neg q] at h
    first | exact k1 a τ h H locs ls hP hS hl | exact k2 a τ h H locs ls hP hS hl
  · first | rw [if_neg q] at h | rw [if_pos q] at h
    first | exact k2 a τ h H locs ls hP hS hl | exact k1 a τ h H locs ls hP hS hl
theorem zcm_lt (x y : Int64) : lg_cmp x y < 0 ↔ x < y := by
  unfold lg_cmp
  by_cases h : x > y
  · rw [if_pos h]; exact ⟨fun q => absurd q (by decide), fun q => absurd (Int64.lt_trans q h) (Int64.lt_irrefl)⟩
  · rw [if_neg h]
    by_cases e : x = y
    · rw [if_pos e]; exact ⟨fun q => absurd q (by decide), fun q => absurd q (by rw [e]; exact Int64.lt_irrefl)⟩
    · rw [if_neg e]; exact ⟨fun _ => Int64.lt_of_le_of_ne (Int64.not_lt.mp h) e, fun _ => by decide⟩
theorem zcm_gt (x y : Int64) : 0 < lg_cmp x y ↔ y < x := by
  unfold lg_cmp
  by_cases h : x > y
  · rw [if_pos h]; exact ⟨fun _ => h, fun _ => by decide⟩
  · rw [if_neg h]
    refine ⟨fun q => ?_, fun q => absurd q h⟩
    by_cases e : x = y
    · rw [if_pos e] at q; exact absurd q (by decide)
    · rw [if_neg e] at q; exact absurd q (by decide)
theorem zcm_eq (x y : Int64) : lg_cmp x y = 0 ↔ x = y := by
  unfold lg_cmp
  by_cases h : x > y
  · rw [if_pos h]; exact ⟨fun q => absurd q (by decide), fun q => absurd h (by rw [q]; exact Int64.lt_irrefl)⟩
  · rw [if_neg h]
    by_cases e : x = y
    · rw [if_pos e]; exact ⟨fun _ => e, fun _ => rfl⟩
    · rw [if_neg e]; exact ⟨fun q => absurd q (by decide), fun q => absurd q e⟩
theorem zcm_le (x y : Int64) : lg_cmp x y ≤ 0 ↔ x ≤ y := by
  rw [← Int32.not_lt, zcm_gt, Int64.not_lt]
theorem zcm_ge (x y : Int64) : 0 ≤ lg_cmp x y ↔ y ≤ x := by
  rw [← Int32.not_lt, zcm_lt, Int64.not_lt]

theorem z_lcmp_eq (hc : zCx p s m args meth c cc nL own D ca xa A lw) {x y : Int64} {off : Int} {dP : Decidable (x = y)} (d1 : decode cc pc = .ok (.lcmp, 1)) (d2 : decode cc (pc + 1) = .ok (.ifCond .eq off, 3)) (ht : ((pc + 1 : Nat) : Int) + off = (tgt : Int)) (k1 : zGO p l e R s m args below meth c cells slots lw D A nL Qf o1 σ (tgt) lv (st)) (k2 : zGO p l e R s m args below meth c cells slots lw D A nL Qf o2 σ (pc + 4) lv (st)) : zGO p l e R s m args below meth c cells slots lw D A nL Qf (@ite _ (x = y) dP o1 o2) σ (pc) lv (.long y :: .long x :: st) := by
  intro a τ h H locs ls hP hS hl
  refine W.lcmp hc.1 hc.2.1 d1 (lv_if_eq hc.1 hc.2.1 d2 ht (fun q => ?_) (fun q => ?_))
  · have q' : x = y := (zcm_eq x y).mp q
    rw [if_pos q'] at h
    exact k1 a τ h H locs ls hP hS hl
  · have q' : ¬ (x = y) := fun z => q ((zcm_eq x y).mpr z)
    rw [if_neg q'] at h
    exact k2 a τ h H locs ls hP hS hl
theorem z_lcmp_lt (hc : zCx p s m args meth c cc nL own D ca xa A lw) {x y : Int64} {off : Int} {dP : Decidable (x < y)} (d1 : decode cc pc = .ok (.lcmp, 1)) (d2 : decode cc (pc + 1) = .ok (.ifCond .lt off, 3)) (ht : ((pc + 1 : Nat) : Int) + off = (tgt : Int)) (k1 : zGO p l e R s m args below meth c cells slots lw D A nL Qf o1 σ (tgt) lv (st)) (k2 : zGO p l e R s m args below meth c cells slots lw D A nL Qf o2 σ (pc + 4) lv (st)) : zGO p l e R s m args below meth c cells slots lw D A nL Qf (@ite _ (x < y) dP o1 o2) σ (pc) lv (.long y :: .long x :: st) := by
  intro a τ h H locs ls hP hS hl
  refine W.lcmp hc.1 hc.2.1 d1 (lv_if_lt hc.1 hc.2.1 d2 ht (fun q => ?_) (fun q => ?_))
  · have q' : x < y := (zcm_lt x y).mp q
    rw [if_pos q'] at h
    exact k1 a τ h H locs ls hP hS hl
  · have q' : ¬ (x < y) := fun z => q ((zcm_lt x y).mpr z)
    rw [if_neg q'] at h
    exact k2 a τ h H locs ls hP hS hl
theorem z_lcmp_ge (hc : zCx p s m args meth c cc nL own D ca xa A lw) {x y : Int64} {off : Int} {dP : Decidable (y ≤ x)} (d1 : decode cc pc = .ok (.lcmp, 1)) (d2 : decode cc (pc + 1) = .ok (.ifCond .ge off, 3)) (ht : ((pc + 1 : Nat) : Int) + off = (tgt : Int)) (k1 : zGO p l e R s m args below meth c cells slots lw D A nL Qf o1 σ (tgt) lv (st)) (k2 : zGO p l e R s m args below meth c cells slots lw D A nL Qf o2 σ (pc + 4) lv (st)) : zGO p l e R s m args below meth c cells slots lw D A nL Qf (@ite _ (y ≤ x) dP o1 o2) σ (pc) lv (.long y :: .long x :: st) := by
  intro a τ h H locs ls hP hS hl
  refine W.lcmp hc.1 hc.2.1 d1 (lv_if_ge hc.1 hc.2.1 d2 ht (fun q => ?_) (fun q => ?_))
  · have q' : y ≤ x := (zcm_ge x y).mp q
    rw [if_pos q'] at h
    exact k1 a τ h H locs ls hP hS hl
  · have q' : ¬ (y ≤ x) := fun z => q ((zcm_ge x y).mpr z)
    rw [if_neg q'] at h
    exact k2 a τ h H locs ls hP hS hl
theorem z_lcmp_gt (hc : zCx p s m args meth c cc nL own D ca xa A lw) {x y : Int64} {off : Int} {dP : Decidable (y < x)} (d1 : decode cc pc = .ok (.lcmp, 1)) (d2 : decode cc (pc + 1) = .ok (.ifCond .gt off, 3)) (ht : ((pc + 1 : Nat) : Int) + off = (tgt : Int)) (k1 : zGO p l e R s m args below meth c cells slots lw D A nL Qf o1 σ (tgt) lv (st)) (k2 : zGO p l e R s m args below meth c cells slots lw D A nL Qf o2 σ (pc + 4) lv (st)) : zGO p l e R s m args below meth c cells slots lw D A nL Qf (@ite _ (y < x) dP o1 o2) σ (pc) lv (.long y :: .long x :: st) := by
  intro a τ h H locs ls hP hS hl
  refine W.lcmp hc.1 hc.2.1 d1 (lv_if_gt hc.1 hc.2.1 d2 ht (fun q => ?_) (fun q => ?_))
  · have q' : y < x := (zcm_gt x y).mp q
    rw [if_pos q'] at h
    exact k1 a τ h H locs ls hP hS hl
  · have q' : ¬ (y < x) := fun z => q ((zcm_gt x y).mpr z)
    rw [if_neg q'] at h
    exact k2 a τ h H locs ls hP hS hl
theorem z_lcmp_le (hc : zCx p s m args meth c cc nL own D ca xa A lw) {x y : Int64} {off : Int} {dP : Decidable (x ≤ y)} (d1 : decode cc pc = .ok (.lcmp, 1)) (d2 : decode cc (pc + 1) = .ok (.ifCond .le off, 3)) (ht : ((pc + 1 : Nat) : Int) + off = (tgt : Int)) (k1 : zGO p l e R s m args below meth c cells slots lw D A nL Qf o1 σ (tgt) lv (st)) (k2 : zGO p l e R s m args below meth c cells slots lw D A nL Qf o2 σ (pc + 4) lv (st)) : zGO p l e R s m args below meth c cells slots lw D A nL Qf (@ite _ (x ≤ y) dP o1 o2) σ (pc) lv (.long y :: .long x :: st) := by
  intro a τ h H locs ls hP hS hl
  refine W.lcmp hc.1 hc.2.1 d1 (lv_if_le hc.1 hc.2.1 d2 ht (fun q => ?_) (fun q => ?_))
  · have q' : x ≤ y := (zcm_le x y).mp q
    rw [if_pos q'] at h
    exact k1 a τ h H locs ls hP hS hl
  · have q' : ¬ (x ≤ y) := fun z => q ((zcm_le x y).mpr z)
    rw [if_neg q'] at h
    exact k2 a τ h H locs ls hP hS hl
theorem z_lcmp_ne (hc : zCx p s m args meth c cc nL own D ca xa A lw) {x y : Int64} {off : Int} {dP : Decidable (x = y)} (d1 : decode cc pc = .ok (.lcmp, 1)) (d2 : decode cc (pc + 1) = .ok (.ifCond .ne off, 3)) (ht : ((pc + 1 : Nat) : Int) + off = (tgt : Int)) (k1 : zGO p l e R s m args below meth c cells slots lw D A nL Qf o1 σ (pc + 4) lv (st)) (k2 : zGO p l e R s m args below meth c cells slots lw D A nL Qf o2 σ (tgt) lv (st)) : zGO p l e R s m args below meth c cells slots lw D A nL Qf (@ite _ (x = y) dP o1 o2) σ (pc) lv (.long y :: .long x :: st) := by
  intro a τ h H locs ls hP hS hl
  refine W.lcmp hc.1 hc.2.1 d1 (lv_if_ne hc.1 hc.2.1 d2 ht (fun q => ?_) (fun q => ?_))
  · rw [if_neg (fun z => q ((zcm_eq x y).mpr z))] at h
    exact k2 a τ h H locs ls hP hS hl
  · rw [if_pos ((zcm_eq x y).mp q)] at h
    exact k1 a τ h H locs ls hP hS hl
theorem z_ldiv (hc : zCx p s m args meth c cc nL own D ca xa A lw) {x y : Int64} {k : Int64 → Option (α × S)} (d : decode cc pc = .ok (.ldiv, 1)) (h : ∀ z : Int64, zGO p l e R s m args below meth c cells slots lw D A nL Qf (k z) σ (pc + 1) lv (.long z :: st)) : zGO p l e R s m args below meth c cells slots lw D A nL Qf (zdvL x y k) σ (pc) lv (.long y :: .long x :: st) := by
  unfold zdvL
  refine z_ite (fun _ => z_none) (fun q => ?_)
  intro a τ h' H locs ls hP hS hl
  exact lv_ldiv hc.1 hc.2.1 d q (h _ a τ h' H locs ls hP hS hl)
theorem z_lrem (hc : zCx p s m args meth c cc nL own D ca xa A lw) {x y : Int64} {k : Int64 → Option (α × S)} (d : decode cc pc = .ok (.lrem, 1)) (h : ∀ z : Int64, zGO p l e R s m args below meth c cells slots lw D A nL Qf (k z) σ (pc + 1) lv (.long z :: st)) : zGO p l e R s m args below meth c cells slots lw D A nL Qf (zrmL x y k) σ (pc) lv (.long y :: .long x :: st) := by
  unfold zrmL
  refine z_ite (fun _ => z_none) (fun q => ?_)
  intro a τ h' H locs ls hP hS hl
  exact lv_lrem hc.1 hc.2.1 d q (h _ a τ h' H locs ls hP hS hl)
theorem z_irem (hc : zCx p s m args meth c cc nL own D ca xa A lw) {x y : Int32} {k : Int32 → Option (α × S)} (d : decode cc pc = .ok (.irem, 1)) (h : ∀ z : Int32, zGO p l e R s m args below meth c cells slots lw D A nL Qf (k z) σ (pc + 1) lv (.int z :: st)) : zGO p l e R s m args below meth c cells slots lw D A nL Qf (zrm x y k) σ (pc) lv (.int y :: .int x :: st) := by
  unfold zrm
  refine z_ite (fun _ => z_none) (fun q => ?_)
  intro a τ h' H locs ls hP hS hl
  exact lv_irem hc.1 hc.2.1 d q (h _ a τ h' H locs ls hP hS hl)
theorem z_swIn (hc : zCx p s m args meth c cc nL own D ca xa A lw) {dflt lo hi : Int} {offs : Array Int} {len : Nat} {x : Int32} {off : Int} (d : decode cc pc = .ok (.tableswitch dflt lo hi offs, len)) (h1 : ¬ x.toInt < lo) (h2 : ¬ hi < x.toInt) (ho : offs[(x.toInt - lo).toNat]? = some off) (ht : (pc : Int) + off = (tgt : Int)) (k : zGO p l e R s m args below meth c cells slots lw D A nL Qf o σ (tgt) lv (st)) : zGO p l e R s m args below meth c cells slots lw D A nL Qf o σ (pc) lv (.int x :: st) := z_lift k (fun hl kk => lv_tableIn hc.1 hc.2.1 d h1 h2 ho ht (kk _ hl))
theorem z_swOut (hc : zCx p s m args meth c cc nL own D ca xa A lw) {dflt lo hi : Int} {offs : Array Int} {len : Nat} {x : Int32} (d : decode cc pc = .ok (.tableswitch dflt lo hi offs, len)) (h : x.toInt < lo ∨ hi < x.toInt) (ht : (pc : Int) + dflt = (tgt : Int)) (k : zGO p l e R s m args below meth c cells slots lw D A nL Qf o σ (tgt) lv (st)) : zGO p l e R s m args below meth c cells slots lw D A nL Qf o σ (pc) lv (.int x :: st) := z_lift k (fun hl kk => lv_tableOut hc.1 hc.2.1 d h ht (kk _ hl))

theorem z_ldcw (hc : zCx p s m args meth c cc nL own D ca xa A lw) {n : Nat} {v : Int32} (hw : Cond.constant own n v ∈ zlwg) (d : decode cc pc = .ok (.ldc_w n, 3)) (k : zGO p l e R s m args below meth c cells slots lw D A nL Qf o σ (pc + 3) lv (.int v :: st)) : zGO p l e R s m args below meth c cells slots lw D A nL Qf o σ (pc) lv (st) := z_lift k (fun hl kk => lv_ldcw hc.1 hc.2.1 hc.2.2.2.1 (hc.2.2.2.2.1 _ hw) d (kk _ hl))
theorem z_mmin (hc : zCx p s m args meth c cc nL own D ca xa A lw) {n : Nat} {x y : Int32} (hw : Cond.methodLink own n Lib.Math.min.name ∈ zlwg ∧ Cond.static Lib.Math.min.name ∈ zlwg ∧ Cond.initialized "java/lang/Math" ∈ zlwg ∧ Cond.code Lib.Math.min.name Lib.Math.min.code 2 (some .int) ∈ zlwg) (hR : 1 ≤ R.frames ∧ (st.map fun v => v.category).sum + 13 ≤ R.locals ∧ cells ≤ R.cells ∧ slots ≤ R.slots) (d : decode cc pc = .ok (.invokestatic n, 3)) (k : zGO p l e R s m args below meth c cells slots lw D A nL Qf o σ (pc + 3) lv (.int (if y < x then y else x) :: st)) : zGO p l e R s m args below meth c cells slots lw D A nL Qf o σ (pc) lv (.int y :: .int x :: st) := z_lift k (fun hl kk => va_mmin hc.1 hc.2.1 (hc.2.2.1.trans hl.1.symm) hc.2.2.2.1 (hc.2.2.2.2.1 _ hw.1) (hc.2.2.2.2.1 _ hw.2.1) (hc.2.2.2.2.1 _ hw.2.2.1) (hc.2.2.2.2.1 _ hw.2.2.2) hR.1 hR.2.1 hR.2.2.1 hR.2.2.2 d (kk _ hl))
end zG
/-! ===== rows of the heap, over a world zlay cl n ===== -/
section zH
variable {p : Program} {l : Launch} {e : Env} {R : Room} {s : State} {m : MethodId} {args : Array Value} {below : List Frame} {meth : Method} {c : Code} {cells slots : Nat}
variable {α : Type} {cl : zSh} {nW : Nat} {D : va_G} {ca : Nat → ClassId} {xa : Nat → Nat} {A : Nat → Prop} {nL : Nat} {Qf : α → zSt → State → Prop} {cc : ByteArray} {own : String}
variable {o o1 o2 : Option (α × zSt)} {σ : zSt} {pc tgt : Nat} {lv lv' : List (Nat × Value)} {st : List Value}
theorem z_get (hc : zCx p s m args meth c cc nL own D ca xa A (zlay cl nW)) {ref C : String} {T : u_T} {N ci idx : Nat} (hin : ∀ w ∈ u_ws C T N, w ∈ zlwg) (k0 : Nat) (hk0 : k0 < nW) {a : Nat} {fs : List Value} (he : cl k0 (σ.1 k0) (σ.2 k0) = (a, .inr (ci, fs))) (hcl : vwCl[ci]? = some (C, T, N)) (j : Nat) (hj : j < N) (href : ref = (T j).1) (hlink : Cond.fieldLink own idx ref (T j).2.1 (T j).2.2.1 ∈ zlwg) {v : Value} (hv : fs[j]? = some v) (d : decode cc pc = .ok (.getfield idx, 3)) (k : zGO p l e R s m args below meth c cells slots (zlay cl nW) D A nL Qf o σ (pc + 3) lv (v :: st)) : zGO p l e R s m args below meth c cells slots (zlay cl nW) D A nL Qf o σ (pc) lv (.ref a :: st) :=
  fun a0 τ h H locs ls hP hS hl => va_get hc.1 hc.2.1 hc.2.2.2.2.1 hin hc.2.2.2.1 hc.2.2.2.2.2.2.2.1 hP k0 ((zlay_get hk0).trans (congrArg some he)) hcl j hj (hc.2.2.2.2.1 _ hlink) (fun _ h9 => by rw [href]; exact h9) hv d (k a0 τ h H locs ls hP hS hl)
theorem z_puti (hc : zCx p s m args meth c cc nL own D ca xa A (zlay cl nW)) {ref C : String} {T : u_T} {N ci idx : Nat} (hin : ∀ w ∈ u_ws C T N, w ∈ zlwg) (k0 : Nat) (hk0 : k0 < nW) {a : Nat} {fs : List Value} (he : cl k0 (σ.1 k0) (σ.2 k0) = (a, .inr (ci, fs))) (hcl : vwCl[ci]? = some (C, T, N)) (j : Nat) (hj : j < N) (href : ref = (T j).1) (hlink : Cond.fieldLink own idx ref (T j).2.1 (T j).2.2.1 ∈ zlwg) (ty0 : Nat → FieldType) (hty : ∀ k, k < N → parseFieldDescriptor (T k).2.2.1 = some (ty0 k)) (hnm : ∀ a, a < N → ∀ b, b < N → a ≠ b → (T a).2.1 ≠ (T b).2.1) (hfin : (T j).2.2.2 = false) (hd : parseFieldDescriptor (T j).2.2.1 = some .int) (hl' : j < fs.length) {v : Int32} (hup : cl k0 (upd (σ.1 k0) j v) (σ.2 k0) = (a, .inr (ci, fs.set j (.int v)))) {kf : zSt → Option (α × zSt)} (d : decode cc pc = .ok (.putfield idx, 3)) (k : ∀ τ : zSt, zGO p l e R s m args below meth c cells slots (zlay cl nW) D A nL Qf (kf τ) τ (pc + 3) lv (st)) : zGO p l e R s m args below meth c cells slots (zlay cl nW) D A nL Qf (zpf σ k0 j v kf) σ (pc) lv (.int v :: .ref a :: st) :=
  fun a0 τ h H locs ls hP hS hl => va_put hc.1 hc.2.1 hc.2.2.2.2.1 hin ty0 hty hnm hc.2.2.2.1 hc.2.2.2.2.2.2.2.1 hP (hc.2.2.2.2.2.2.2.2.1 σ) hS k0 ((zlay_get hk0).trans (congrArg some he)) hcl j hj (hc.2.2.2.2.1 _ hlink) (fun _ h9 => by rw [href]; exact h9) hfin hd rfl rfl hl' d (fun H1 locs1 hP1 hD1 hS1 => k (zsi σ k0 j v) a0 τ h H1 locs1 ls (by rw [zlay_si hup] at hP1; exact hP1) hS1 hl)
theorem z_putl (hc : zCx p s m args meth c cc nL own D ca xa A (zlay cl nW)) {ref C : String} {T : u_T} {N ci idx : Nat} (hin : ∀ w ∈ u_ws C T N, w ∈ zlwg) (k0 : Nat) (hk0 : k0 < nW) {a : Nat} {fs : List Value} (he : cl k0 (σ.1 k0) (σ.2 k0) = (a, .inr (ci, fs))) (hcl : vwCl[ci]? = some (C, T, N)) (j : Nat) (hj : j < N) (href : ref = (T j).1) (hlink : Cond.fieldLink own idx ref (T j).2.1 (T j).2.2.1 ∈ zlwg) (ty0 : Nat → FieldType) (hty : ∀ k, k < N → parseFieldDescriptor (T k).2.2.1 = some (ty0 k)) (hnm : ∀ a, a < N → ∀ b, b < N → a ≠ b → (T a).2.1 ≠ (T b).2.1) (hfin : (T j).2.2.2 = false) (hd : parseFieldDescriptor (T j).2.2.1 = some .long) (hl' : j < fs.length) {v : Int64} (hup : cl k0 (σ.1 k0) (vp_updL (σ.2 k0) j v) = (a, .inr (ci, fs.set j (.long v)))) {kf : zSt → Option (α × zSt)} (d : decode cc pc = .ok (.putfield idx, 3)) (k : ∀ τ : zSt, zGO p l e R s m args below meth c cells slots (zlay cl nW) D A nL Qf (kf τ) τ (pc + 3) lv (st)) : zGO p l e R s m args below meth c cells slots (zlay cl nW) D A nL Qf (zpfL σ k0 j v kf) σ (pc) lv (.long v :: .ref a :: st) :=
  fun a0 τ h H locs ls hP hS hl => va_put hc.1 hc.2.1 hc.2.2.2.2.1 hin ty0 hty hnm hc.2.2.2.1 hc.2.2.2.2.2.2.2.1 hP (hc.2.2.2.2.2.2.2.2.1 σ) hS k0 ((zlay_get hk0).trans (congrArg some he)) hcl j hj (hc.2.2.2.2.1 _ hlink) (fun _ h9 => by rw [href]; exact h9) hfin hd rfl rfl hl' d (fun H1 locs1 hP1 hD1 hS1 => k (zsl σ k0 j v) a0 τ h H1 locs1 ls (by rw [zlay_sl hup] at hP1; exact hP1) hS1 hl)
theorem z_getN (hc : zCx p s m args meth c cc nL own D ca xa A (zlay cl nW)) {ref C host : String} {T : u_T} {N ci idx : Nat} (hin : ∀ w ∈ u_ws C T N, w ∈ zlwg) (k0 : Nat) (hk0 : k0 < nW) {a : Nat} {fs : List Value} (he : cl k0 (σ.1 k0) (σ.2 k0) = (a, .inr (ci, fs))) (hcl : vwCl[ci]? = some (C, T, N)) (j : Nat) (hj : j < N) (href : ref = (T j).1) (hlink : Cond.fieldLinkNest own idx ref (T j).2.1 (T j).2.2.1 host ∈ znest) {v : Value} (hv : fs[j]? = some v) (d : decode cc pc = .ok (.getfield idx, 3)) (k : zGO p l e R s m args below meth c cells slots (zlay cl nW) D A nL Qf o σ (pc + 3) lv (v :: st)) : zGO p l e R s m args below meth c cells slots (zlay cl nW) D A nL Qf o σ (pc) lv (.ref a :: st) :=
  fun a0 τ h H locs ls hP hS hl => va_getN hc.1 hc.2.1 hc.2.2.2.2.1 hin hc.2.2.2.1 hc.2.2.2.2.2.2.2.1 hP k0 ((zlay_get hk0).trans (congrArg some he)) hcl j hj ((hc.2.2.2.2.2.2.2.2.2.1 _ hlink).use rfl) (fun _ h9 => by rw [href]; exact h9) hv d (k a0 τ h H locs ls hP hS hl)
theorem z_putNi (hc : zCx p s m args meth c cc nL own D ca xa A (zlay cl nW)) {ref C host : String} {T : u_T} {N ci idx : Nat} (hin : ∀ w ∈ u_ws C T N, w ∈ zlwg) (k0 : Nat) (hk0 : k0 < nW) {a : Nat} {fs : List Value} (he : cl k0 (σ.1 k0) (σ.2 k0) = (a, .inr (ci, fs))) (hcl : vwCl[ci]? = some (C, T, N)) (j : Nat) (hj : j < N) (href : ref = (T j).1) (hlink : Cond.fieldLinkNest own idx ref (T j).2.1 (T j).2.2.1 host ∈ znest) (ty0 : Nat → FieldType) (hty : ∀ k, k < N → parseFieldDescriptor (T k).2.2.1 = some (ty0 k)) (hnm : ∀ a, a < N → ∀ b, b < N → a ≠ b → (T a).2.1 ≠ (T b).2.1) (hfin : (T j).2.2.2 = false) (hd : parseFieldDescriptor (T j).2.2.1 = some .int) (hl' : j < fs.length) {v : Int32} (hup : cl k0 (upd (σ.1 k0) j v) (σ.2 k0) = (a, .inr (ci, fs.set j (.int v)))) {kf : zSt → Option (α × zSt)} (d : decode cc pc = .ok (.putfield idx, 3)) (k : ∀ τ : zSt, zGO p l e R s m args below meth c cells slots (zlay cl nW) D A nL Qf (kf τ) τ (pc + 3) lv (st)) : zGO p l e R s m args below meth c cells slots (zlay cl nW) D A nL Qf (zpf σ k0 j v kf) σ (pc) lv (.int v :: .ref a :: st) :=
  fun a0 τ h H locs ls hP hS hl => va_putN hc.1 hc.2.1 hc.2.2.2.2.1 hin ty0 hty hnm hc.2.2.2.1 hc.2.2.2.2.2.2.2.1 hP (hc.2.2.2.2.2.2.2.2.1 σ) hS k0 ((zlay_get hk0).trans (congrArg some he)) hcl j hj ((hc.2.2.2.2.2.2.2.2.2.1 _ hlink).use rfl) (fun _ h9 => by rw [href]; exact h9) hfin hd rfl rfl hl' d (fun H1 locs1 hP1 hD1 hS1 => k (zsi σ k0 j v) a0 τ h H1 locs1 ls (by rw [zlay_si hup] at hP1; exact hP1) hS1 hl)
theorem z_putNl (hc : zCx p s m args meth c cc nL own D ca xa A (zlay cl nW)) {ref C host : String} {T : u_T} {N ci idx : Nat} (hin : ∀ w ∈ u_ws C T N, w ∈ zlwg) (k0 : Nat) (hk0 : k0 < nW) {a : Nat} {fs : List Value} (he : cl k0 (σ.1 k0) (σ.2 k0) = (a, .inr (ci, fs))) (hcl : vwCl[ci]? = some (C, T, N)) (j : Nat) (hj : j < N) (href : ref = (T j).1) (hlink : Cond.fieldLinkNest own idx ref (T j).2.1 (T j).2.2.1 host ∈ znest) (ty0 : Nat → FieldType) (hty : ∀ k, k < N → parseFieldDescriptor (T k).2.2.1 = some (ty0 k)) (hnm : ∀ a, a < N → ∀ b, b < N → a ≠ b → (T a).2.1 ≠ (T b).2.1) (hfin : (T j).2.2.2 = false) (hd : parseFieldDescriptor (T j).2.2.1 = some .long) (hl' : j < fs.length) {v : Int64} (hup : cl k0 (σ.1 k0) (vp_updL (σ.2 k0) j v) = (a, .inr (ci, fs.set j (.long v)))) {kf : zSt → Option (α × zSt)} (d : decode cc pc = .ok (.putfield idx, 3)) (k : ∀ τ : zSt, zGO p l e R s m args below meth c cells slots (zlay cl nW) D A nL Qf (kf τ) τ (pc + 3) lv (st)) : zGO p l e R s m args below meth c cells slots (zlay cl nW) D A nL Qf (zpfL σ k0 j v kf) σ (pc) lv (.long v :: .ref a :: st) :=
  fun a0 τ h H locs ls hP hS hl => va_putN hc.1 hc.2.1 hc.2.2.2.2.1 hin ty0 hty hnm hc.2.2.2.1 hc.2.2.2.2.2.2.2.1 hP (hc.2.2.2.2.2.2.2.2.1 σ) hS k0 ((zlay_get hk0).trans (congrArg some he)) hcl j hj ((hc.2.2.2.2.2.2.2.2.2.1 _ hlink).use rfl) (fun _ h9 => by rw [href]; exact h9) hfin hd rfl rfl hl' d (fun H1 locs1 hP1 hD1 hS1 => k (zsl σ k0 j v) a0 τ h H1 locs1 ls (by rw [zlay_sl hup] at hP1; exact hP1) hS1 hl)
theorem z_iaload (hc : zCx p s m args meth c cc nL own D ca xa A (zlay cl nW)) (k0 : Nat) (hk0 : k0 < nW) {a n0 : Nat} (he : cl k0 (σ.1 k0) (σ.2 k0) = (a, .inl (ca 0, n0, .inl (σ.1 k0)))) {i : Int32} {kf : Int32 → Option (α × zSt)} (d : decode cc pc = .ok (.iaload, 1)) (k : ∀ x : Int32, zGO p l e R s m args below meth c cells slots (zlay cl nW) D A nL Qf (kf x) σ (pc + 1) lv (.int x :: st)) : zGO p l e R s m args below meth c cells slots (zlay cl nW) D A nL Qf (zag σ k0 n0 i kf) σ (pc) lv (.int i :: .ref a :: st) := by
  unfold zag
  refine z_ite (fun q => ?_) (fun _ => z_none)
  intro a0 τ h H locs ls hP hS hl
  exact va_iald hc.1 hc.2.1 hc.2.2.2.2.2.2.2.1 hP k0 0 ((zlay_get hk0).trans (congrArg some he)) rfl (zin_vp q) d (k _ a0 τ h H locs ls hP hS hl)
theorem z_baload (hc : zCx p s m args meth c cc nL own D ca xa A (zlay cl nW)) (k0 : Nat) (hk0 : k0 < nW) {a n0 : Nat} (he : cl k0 (σ.1 k0) (σ.2 k0) = (a, .inl (ca 1, n0, .inl (σ.1 k0)))) {i : Int32} {kf : Int32 → Option (α × zSt)} (d : decode cc pc = .ok (.baload, 1)) (k : ∀ x : Int32, zGO p l e R s m args below meth c cells slots (zlay cl nW) D A nL Qf (kf x) σ (pc + 1) lv (.int x :: st)) : zGO p l e R s m args below meth c cells slots (zlay cl nW) D A nL Qf (zag σ k0 n0 i kf) σ (pc) lv (.int i :: .ref a :: st) := by
  unfold zag
  refine z_ite (fun q => ?_) (fun _ => z_none)
  intro a0 τ h H locs ls hP hS hl
  exact va_bald hc.1 hc.2.1 hc.2.2.2.2.2.2.2.1 hP k0 1 ((zlay_get hk0).trans (congrArg some he)) rfl (zin_vp q) d (k _ a0 τ h H locs ls hP hS hl)
theorem z_zaload (hc : zCx p s m args meth c cc nL own D ca xa A (zlay cl nW)) (k0 : Nat) (hk0 : k0 < nW) {a n0 : Nat} (he : cl k0 (σ.1 k0) (σ.2 k0) = (a, .inl (ca 3, n0, .inl (σ.1 k0)))) {i : Int32} {kf : Int32 → Option (α × zSt)} (d : decode cc pc = .ok (.baload, 1)) (k : ∀ x : Int32, zGO p l e R s m args below meth c cells slots (zlay cl nW) D A nL Qf (kf x) σ (pc + 1) lv (.int x :: st)) : zGO p l e R s m args below meth c cells slots (zlay cl nW) D A nL Qf (zag σ k0 n0 i kf) σ (pc) lv (.int i :: .ref a :: st) := by
  unfold zag
  refine z_ite (fun q => ?_) (fun _ => z_none)
  intro a0 τ h H locs ls hP hS hl
  exact va_zald hc.1 hc.2.1 hc.2.2.2.2.2.2.2.1 hP k0 3 ((zlay_get hk0).trans (congrArg some he)) rfl (zin_vp q) d (k _ a0 τ h H locs ls hP hS hl)
theorem z_laload (hc : zCx p s m args meth c cc nL own D ca xa A (zlay cl nW)) (k0 : Nat) (hk0 : k0 < nW) {a n0 : Nat} (he : cl k0 (σ.1 k0) (σ.2 k0) = (a, .inl (ca 2, n0, .inr (.inl (σ.2 k0))))) {i : Int32} {kf : Int64 → Option (α × zSt)} (d : decode cc pc = .ok (.laload, 1)) (k : ∀ x : Int64, zGO p l e R s m args below meth c cells slots (zlay cl nW) D A nL Qf (kf x) σ (pc + 1) lv (.long x :: st)) : zGO p l e R s m args below meth c cells slots (zlay cl nW) D A nL Qf (zagL σ k0 n0 i kf) σ (pc) lv (.int i :: .ref a :: st) := by
  unfold zagL
  refine z_ite (fun q => ?_) (fun _ => z_none)
  intro a0 τ h H locs ls hP hS hl
  exact va_lald hc.1 hc.2.1 hc.2.2.2.2.2.2.2.1 hP k0 2 ((zlay_get hk0).trans (congrArg some he)) rfl (zin_vp q) d (k _ a0 τ h H locs ls hP hS hl)
theorem z_iastore (hc : zCx p s m args meth c cc nL own D ca xa A (zlay cl nW)) (k0 : Nat) (hk0 : k0 < nW) {a n0 : Nat} (he : ∀ f g, cl k0 f g = (a, .inl (ca 0, n0, .inl f))) {i : Int32} {x : Int32} {kf : zSt → Option (α × zSt)} (d : decode cc pc = .ok (.iastore, 1)) (k : ∀ τ : zSt, zGO p l e R s m args below meth c cells slots (zlay cl nW) D A nL Qf (kf τ) τ (pc + 1) lv (st)) : zGO p l e R s m args below meth c cells slots (zlay cl nW) D A nL Qf (zas σ k0 n0 i x kf) σ (pc) lv (.int x :: .int i :: .ref a :: st) := by
  unfold zas
  refine z_ite (fun q => ?_) (fun _ => z_none)
  intro a0 τ h H locs ls hP hS hl
  exact va_iast hc.1 hc.2.1 hc.2.2.2.2.2.2.2.1 hP (hc.2.2.2.2.2.2.2.2.1 σ) hS k0 0 ((zlay_get hk0).trans (congrArg some (he _ _))) rfl (zin_vp q) d (fun H1 locs1 hP1 hD1 hS1 => k _ a0 τ h H1 locs1 ls (by rw [zlay_si (he _ _)] at hP1; exact hP1) hS1 hl)
theorem z_bastore (hc : zCx p s m args meth c cc nL own D ca xa A (zlay cl nW)) (k0 : Nat) (hk0 : k0 < nW) {a n0 : Nat} (he : ∀ f g, cl k0 f g = (a, .inl (ca 1, n0, .inl f))) {i : Int32} {x : Int32} {kf : zSt → Option (α × zSt)} (d : decode cc pc = .ok (.bastore, 1)) (k : ∀ τ : zSt, zGO p l e R s m args below meth c cells slots (zlay cl nW) D A nL Qf (kf τ) τ (pc + 1) lv (st)) : zGO p l e R s m args below meth c cells slots (zlay cl nW) D A nL Qf (zas σ k0 n0 i (vp_nar .byte x) kf) σ (pc) lv (.int x :: .int i :: .ref a :: st) := by
  unfold zas
  refine z_ite (fun q => ?_) (fun _ => z_none)
  intro a0 τ h H locs ls hP hS hl
  exact va_bast hc.1 hc.2.1 hc.2.2.2.2.2.2.2.1 hP (hc.2.2.2.2.2.2.2.2.1 σ) hS k0 1 ((zlay_get hk0).trans (congrArg some (he _ _))) rfl (zin_vp q) d (fun H1 locs1 hP1 hD1 hS1 => k _ a0 τ h H1 locs1 ls (by rw [zlay_si (he _ _)] at hP1; exact hP1) hS1 hl)
theorem z_zastore (hc : zCx p s m args meth c cc nL own D ca xa A (zlay cl nW)) (k0 : Nat) (hk0 : k0 < nW) {a n0 : Nat} (he : ∀ f g, cl k0 f g = (a, .inl (ca 3, n0, .inl f))) {i : Int32} {x : Int32} {kf : zSt → Option (α × zSt)} (d : decode cc pc = .ok (.bastore, 1)) (k : ∀ τ : zSt, zGO p l e R s m args below meth c cells slots (zlay cl nW) D A nL Qf (kf τ) τ (pc + 1) lv (st)) : zGO p l e R s m args below meth c cells slots (zlay cl nW) D A nL Qf (zas σ k0 n0 i (vp_nar .boolean x) kf) σ (pc) lv (.int x :: .int i :: .ref a :: st) := by
  unfold zas
  refine z_ite (fun q => ?_) (fun _ => z_none)
  intro a0 τ h H locs ls hP hS hl
  exact va_zast hc.1 hc.2.1 hc.2.2.2.2.2.2.2.1 hP (hc.2.2.2.2.2.2.2.2.1 σ) hS k0 3 ((zlay_get hk0).trans (congrArg some (he _ _))) rfl (zin_vp q) d (fun H1 locs1 hP1 hD1 hS1 => k _ a0 τ h H1 locs1 ls (by rw [zlay_si (he _ _)] at hP1; exact hP1) hS1 hl)
theorem z_lastore (hc : zCx p s m args meth c cc nL own D ca xa A (zlay cl nW)) (k0 : Nat) (hk0 : k0 < nW) {a n0 : Nat} (he : ∀ f g, cl k0 f g = (a, .inl (ca 2, n0, .inr (.inl g)))) {i : Int32} {x : Int64} {kf : zSt → Option (α × zSt)} (d : decode cc pc = .ok (.lastore, 1)) (k : ∀ τ : zSt, zGO p l e R s m args below meth c cells slots (zlay cl nW) D A nL Qf (kf τ) τ (pc + 1) lv (st)) : zGO p l e R s m args below meth c cells slots (zlay cl nW) D A nL Qf (zasL σ k0 n0 i x kf) σ (pc) lv (.long x :: .int i :: .ref a :: st) := by
  unfold zasL
  refine z_ite (fun q => ?_) (fun _ => z_none)
  intro a0 τ h H locs ls hP hS hl
  exact va_last hc.1 hc.2.1 hc.2.2.2.2.2.2.2.1 hP (hc.2.2.2.2.2.2.2.2.1 σ) hS k0 2 ((zlay_get hk0).trans (congrArg some (he _ _))) rfl (zin_vp q) d (fun H1 locs1 hP1 hD1 hS1 => k _ a0 τ h H1 locs1 ls (by rw [zlay_sl (he _ _)] at hP1; exact hP1) hS1 hl)
theorem z_aaload (hc : zCx p s m args meth c cc nL own D ca xa A (zlay cl nW)) (k0 : Nat) (hk0 : k0 < nW) {a n0 : Nat} {r : Nat → Nat} (he : cl k0 (σ.1 k0) (σ.2 k0) = (a, .inl (ca 4, n0, .inr (.inr (.inr (.inr (fun j => some (r j)))))))) {i : Int32} {kf : Nat → Option (α × zSt)} (d : decode cc pc = .ok (.aaload, 1)) (k : ∀ j : Nat, j < n0 → zGO p l e R s m args below meth c cells slots (zlay cl nW) D A nL Qf (kf j) σ (pc + 1) lv (.ref (r j) :: st)) : zGO p l e R s m args below meth c cells slots (zlay cl nW) D A nL Qf (zrow n0 i kf) σ (pc) lv (.int i :: .ref a :: st) := by
  unfold zrow
  refine z_ite (fun q => ?_) (fun _ => z_none)
  intro a0 τ h H locs ls hP hS hl
  have hlt : i.toNatClampNeg < n0 := q.2
  have hin := zin_vp q
  exact W.aald (v := .ref (r i.toNatClampNeg)) (ty := .array .long) hc.1 hc.2.1 (hP k0 _ ((zlay_get hk0).trans (congrArg some he))) ((hc.2.2.2.2.2.2.2.1.2 4 _ rfl).1 n0 (fun j => va_rf (some (r j)))) rfl (fun q => by cases q) (by show ¬ (i < 0 ∨ (arrV _ _ _).slots.size ≤ _); rw [arrV_size]; exact hin) (by show (arrV _ _ _).slots[_]? = _; rw [arrV_read _ _ hlt]; rfl) rfl rfl d (k _ hlt a0 τ h H locs ls hP hS hl)
theorem z_tab (hc : zCx p s m args meth c cc nL own D ca xa A (zlay cl nW)) {C n dsc ref : String} {idx ti N : Nat} {f : Nat → Int32} (hZ : va_Z C n dsc (.ref ti) A s s.heap) (hlink : Cond.fieldLink own idx C n dsc ∈ zlwg) (d : decode cc pc = .ok (.getstatic idx, 3)) (k : zGO p l e R s m args below meth c cells slots (zlay cl nW) D A nL Qf o σ (pc + 3) lv (.ref ti :: st)) : zGO p l e R s m args below meth c cells slots (zlay cl nW) D A nL Qf o σ (pc) lv (st) :=
  fun a0 τ h H locs ls hP hS hl => va_gets hc.1 hc.2.1 hZ hS hc.2.2.2.1 (hc.2.2.2.2.1 _ hlink) (fun _ h9 => h9) d (k a0 τ h H locs ls hP hS hl)
theorem z_tabld (hc : zCx p s m args meth c cc nL own D ca xa A (zlay cl nW)) {ti N : Nat} {f : Nat → Int32} (hT : va_T .int ti N (fun j => .int (f j)) A s s.heap) {i : Int32} {kf : Int32 → Option (α × zSt)} (d : decode cc pc = .ok (.iaload, 1)) (k : ∀ x : Int32, zGO p l e R s m args below meth c cells slots (zlay cl nW) D A nL Qf (kf x) σ (pc + 1) lv (.int x :: st)) : zGO p l e R s m args below meth c cells slots (zlay cl nW) D A nL Qf (ztab f N i kf) σ (pc) lv (.int i :: .ref ti :: st) := by
  unfold ztab
  refine z_ite (fun q => ?_) (fun _ => z_none)
  intro a0 τ h H locs ls hP hS hl
  obtain ⟨cell, h1, h2, h3, h4, h5, h6, h7⟩ := hT.kept hS.2.1
  exact W.iald hc.1 hc.2.1 h1 h2 h3 (fun z => (zin_vp q) (z.elim Or.inl (fun y => Or.inr (Nat.le_trans h4 y)))) (h6 _ q.2) rfl rfl d (k _ a0 τ h H locs ls hP hS hl)
theorem z_copy (hc : zCx p s m args meth c cc nL own D ca xa A (zlay cl nW)) (k0 : Nat) (hk0 : k0 < nW) {a n0 idx : Nat} (he : ∀ f g, cl k0 f g = (a, .inl (ca 0, n0, .inl f))) {sp dp len : Int32} {kf : zSt → Option (α × zSt)} (hw : Cond.methodLink own idx arraycopyName ∈ zlwg ∧ Cond.native arraycopyName ∈ zlwg ∧ Cond.static arraycopyName ∈ zlwg ∧ Cond.initialized "java/lang/System" ∈ zlwg) (hR : 1 ≤ R.frames ∧ (st.map fun v => v.category).sum + (nativeFrameWords "java/lang/System" "arraycopy" 5 + 11) ≤ R.locals) (d : decode cc pc = .ok (.invokestatic idx, 3)) (k : ∀ τ : zSt, zGO p l e R s m args below meth c cells slots (zlay cl nW) D A nL Qf (kf τ) τ (pc + 3) lv (st)) : zGO p l e R s m args below meth c cells slots (zlay cl nW) D A nL Qf (zcp σ k0 n0 sp dp len kf) σ (pc) lv (.int len :: .int dp :: .ref a :: .int sp :: .ref a :: st) := by
  unfold zcp
  refine z_ite (fun q => ?_) (fun _ => z_none)
  obtain ⟨q1, q2, q3, q4, q5⟩ := q
  intro a0 τ h H locs ls hP hS hl
  have hg := (zlay_get (cl := cl) (σ := σ) hk0).trans (congrArg some (he (σ.1 k0) (σ.2 k0)))
  exact va_copyi hc.1 hc.2.1 (hc.2.2.1.trans hl.1.symm) hc.2.2.2.1 (hc.2.2.2.2.1 _ hw.1) (hc.2.2.2.2.1 _ hw.2.1) (hc.2.2.2.2.1 _ hw.2.2.1) (hc.2.2.2.2.1 _ hw.2.2.2) hc.2.2.2.2.2.2.2.1 hP (hc.2.2.2.2.2.2.2.2.1 σ) hS k0 k0 0 0 hg hg rfl rfl rfl (Int32.not_lt.mpr q1) (Int32.not_lt.mpr q2) (Int32.not_lt.mpr q3) q4 q5 (fun _ _ => rfl) hR.1 hR.2 d (fun H1 locs1 hP1 hD1 hS1 => k _ a0 τ h H1 locs1 ls (by rw [zlay_sc (he _ _)] at hP1; exact hP1) hS1 hl)
end zH
/-! ===== answers, calls, contracts ===== -/
section zC
variable {p : Program} {l : Launch} {e : Env} {R : Room} {s : State} {m : MethodId} {args : Array Value} {below : List Frame} {meth : Method} {c : Code} {cells slots : Nat}
variable {S α : Type} {lw : S → va_W} {D : va_G} {ca : Nat → ClassId} {xa : Nat → Nat} {A : Nat → Prop} {nL : Nat} {Qf : α → S → State → Prop} {cc : ByteArray} {own : String}
variable {o o1 o2 : Option (α × S)} {σ : S} {pc tgt : Nat} {lv lv' : List (Nat × Value)} {st : List Value}
abbrev zI (a : Int32) : Option Value := some (.int a)
abbrev zL (a : Int64) : Option Value := some (.long a)
abbrev zV (_ : Unit) : Option Value := none
/-- where a method's walk ends -/
abbrev zQ (below : List Frame) (D : va_G) (A : Nat → Prop) (lw : S → va_W) (args : Array Value) (s : State) (inj : α → Option Value) : α → S → State → Prop := fun a τ => MQ below (zPost D A lw (inj a) τ) args s 0 0 A
theorem z_iret (hc : zCx p s m args meth c cc nL own D ca xa A lw) (hr : meth.sig.returnType = some .int) {v : Int32} (d : decode cc pc = .ok (.ireturn, 1)) : zGO p l e R s m args below meth c 0 0 lw D A nL (zQ below D A lw args s zI) (some (v, σ)) σ pc lv [.int v] := by
  intro a τ h H locs ls hP hS hl
  cases h
  have hlocks : meth.locks = false := hc.2.2.2.2.2.1
  exact W.iret hc.1 hc.2.1 hr (fun t ht hW => ⟨⟨rfl, by rw [ht]; exact hP⟩, hS.F ht⟩) hS.2.2 d
theorem z_zret (hc : zCx p s m args meth c cc nL own D ca xa A lw) (hr : meth.sig.returnType = some .boolean) {v : Int32} (d : decode cc pc = .ok (.ireturn, 1)) : zGO p l e R s m args below meth c 0 0 lw D A nL (zQ below D A lw args s zI) (zrz v σ) σ pc lv [.int v] := by
  unfold zrz
  refine z_ite (fun q => ?_) (fun _ => z_none)
  intro a τ h H locs ls hP hS hl
  cases h
  have hlocks : meth.locks = false := hc.2.2.2.2.2.1
  have hn : narrow .boolean (.int v) = .int v := by rcases q with q | q <;> subst q <;> rfl
  exact W.zret hc.1 hc.2.1 hr hn (fun t ht hW => ⟨⟨rfl, by rw [ht]; exact hP⟩, hS.F ht⟩) hS.2.2 d
theorem z_lret (hc : zCx p s m args meth c cc nL own D ca xa A lw) (hr : meth.sig.returnType = some .long) {v : Int64} (d : decode cc pc = .ok (.lreturn, 1)) : zGO p l e R s m args below meth c 0 0 lw D A nL (zQ below D A lw args s zL) (some (v, σ)) σ pc lv [.long v] := by
  intro a τ h H locs ls hP hS hl
  cases h
  have hlocks : meth.locks = false := hc.2.2.2.2.2.1
  exact W.lret hc.1 hc.2.1 hr (fun t ht hW => ⟨⟨rfl, by rw [ht]; exact hP⟩, hS.F ht⟩) hS.2.2 d
theorem z_vret (hc : zCx p s m args meth c cc nL own D ca xa A lw) (hr : meth.sig.returnType = none) (d : decode cc pc = .ok (.return_, 1)) : zGO p l e R s m args below meth c 0 0 lw D A nL (zQ below D A lw args s zV) (some ((), σ)) σ pc lv [] := by
  intro a τ h H locs ls hP hS hl
  cases h
  have hlocks : meth.locks = false := hc.2.2.2.2.2.1
  exact W.vret hc.1 hc.2.1 hr (fun t ht hW => ⟨⟨rfl, by rw [ht]; exact hP⟩, hS.F ht⟩) hS.2.2 d
/-- a contract out of a walk -/
theorem z_met {y : MethodName} {ret : Option FieldType} {rm : Room} {inj : α → Option Value} {al : List Value} (hy : plainName y.cls = true) (hlen : (lg_sl al).length ≤ nL) (hlv : lv_args 0 al = lv)
    (body : ∀ (p : Program) (e : Env) (s : State) (m : MethodId) (args : Array Value) (below : List Frame) (meth : Method) (c : Code), zCx p s m args meth c cc nL y.cls D ca xa A lw → meth.sig.returnType = ret → zGO p l e rm s m args below meth c 0 0 lw D A nL (zQ below D A lw args s inj) o σ 0 lv []) {a : α} {τ : S} (h : o = some (a, τ)) : zCt l y cc nL ret rm D ca xa A lw al σ (inj a) τ := by
  refine Met.ofW (cc := cc) (maxL := nL) (ret := ret) hy rfl ?_
  intro p e s m args below meth c s₁ B hml hv
  obtain ⟨rfl, hA, hP, hKx⟩ := hv
  have hts := atoms_spec (ws := Cond.code y cc nL ret :: zlwg) B.pre
  have hown : s.vm.findClass y.cls = some m.cls := findClass_of_methodNamed B.named
  have hl := lv_entry al (n := nL) hlen
  rw [lg_entry_eq]
  rw [hlv] at hl
  exact body p e s m al.toArray below meth c ⟨B.exec, B.bytes, hml, hown, fun w hw => hts w (List.mem_cons_of_mem _ hw), B.notSynchronized, hA, hKx⟩ B.returns a τ h s.heap [] _ hP va_S.rf hl
theorem zPre.blind {al : List Value} : FrameBlind (va_Pc al (zPre D ca xa A lw σ)) := fun a U g mk q => ⟨q.1, q.2.1, q.2.2.1, q.2.2.2.blind rfl rfl⟩
theorem zPre.at (hc : zCx p s m args meth c cc nL own D ca xa A lw) {H : Heap} {locs : List Loc} (hP : va_P D vwCl (lw σ) H) (hS : va_S A s.heap H locs) (U : State) (hU : U.heap = H) (hW : s.WarmedH U.vm) : zPre D ca xa A lw σ U :=
  ⟨fun q hq => hc.2.2.2.2.2.2.1 q (Nat.le_trans hS.1 (by rw [← hU]; exact hq)), by rw [hU]; exact hP, hc.2.2.2.2.2.2.2.at hW (fun a h1 h2 => by rw [hU]; exact hS.2.1 a h1 h2)⟩
/-- a call, whatever its kind -/
theorem z_run {β : Type} {inj : β → Option Value} {o' : Option (β × S)} {k : β → S → Option (α × S)} {rest : List Value} {av : Array Value}
    (hM : ∀ (b : β) (τ : S), o' = some (b, τ) → ∀ (H : Heap) (locs : List Loc) (ls : Array Slot), va_P D vwCl (lw σ) H → va_S A s.heap H locs → lv_has ls nL lv → va_Run p l e R s m args below meth c H locs cells slots 0 0 (F0 m pc ls st) rest (zPost D A lw (inj b) τ av) A)
    (kk : ∀ (b : β) (τ : S), zGO p l e R s m args below meth c cells slots lw D A nL Qf (k b τ) τ (pc + 3) lv ((inj b).toList ++ rest)) : zGO p l e R s m args below meth c cells slots lw D A nL Qf (zbnd o' k) σ (pc) lv (st) := by
  intro a τ h H locs ls hP hS hl
  cases ho : o' with
  | none => rw [ho] at h; cases h
  | some bt =>
    obtain ⟨b, τ1⟩ := bt
    rw [ho] at h
    have h' : k b τ1 = some (a, τ) := h
    intro T hT X
    obtain ⟨v, st₀, t, T', L, h0, X', hL, e1, e2, ⟨⟨hv, hp⟩, hz, hk⟩, stp⟩ := hM b τ1 ho H locs ls hP hS hl T hT X
    cases hv
    rw [h0] at hz hk
    obtain ⟨t2, a1, b1⟩ := kk b τ1 a τ h' T'.heap (locs ++ L) ls (by rw [e1]; exact hp)
      ⟨Nat.le_trans hS.1 (by rw [e1]; exact hz), fun q h1 h2 => by rw [e1, hk q (Nat.lt_of_lt_of_le h1 hS.1) h2]; exact hS.2.1 q h1 h2, fun q hq => by
        rcases List.mem_append.mp hq with h | h
        · exact hS.2.2 q h
        · exact hL q h⟩ hl T' rfl X'
    exact ⟨t2, stp t2 a1, b1⟩
/-- what the tables say of a method that is called -/
def zMp (y : MethodName) (cc : ByteArray) (nL : Nat) (ret : Option FieldType) (n : Nat) : Prop :=
  Cond.code y cc nL ret ∈ zlwg ∧ Cond.initialized y.cls ∈ zlwg ∧ y.cls ≠ "java/lang/invoke/MethodHandle" ∧ y.cls ≠ "java/lang/invoke/VarHandle" ∧ (parseMethodDescriptor y.desc).map (fun d => d.parameters.length) = some n
theorem zG2 {y : MethodName} {cc2 : ByteArray} {nL2 n : Nat} {ret : Option FieldType} (hp : zMp y cc2 nL2 ret n) : GoodIn zlwg (Cond.code y cc2 nL2 ret :: zlwg) := fun w hw => by
  rcases List.mem_cons.mp hw with rfl | h
  · exact ⟨hp.1, zlwg_good hp.1⟩
  · exact ⟨h, zlwg_good h⟩
theorem zG3 {y : MethodName} {cc2 : ByteArray} {nL2 n : Nat} {ret : Option FieldType} (hp : zMp y cc2 nL2 ret n) {ws : List Cond} (h : ∀ w ∈ ws, w ∈ zlwg) : GoodIn zlwg (ws ++ (Cond.code y cc2 nL2 ret :: zlwg)) := fun w hw => by
  rcases List.mem_append.mp hw with h1 | h1
  · exact ⟨h w h1, zlwg_good (h w h1)⟩
  · exact zG2 hp w h1
section zCalls
variable {β : Type} {inj : β → Option Value} {o' : Option (β × S)} {k : β → S → Option (α × S)} {rest : List Value} {y : MethodName} {cc2 : ByteArray} {nL2 idx b0 : Nat} {ret2 : Option FieldType} {rm2 : Room} {As : List Value} {host : String}
theorem z_runV (hc : zCx p s m args meth c cc nL own D ca xa A lw) (hct : ∀ (b : β) (τ : S), o' = some (b, τ) → zCt l y cc2 nL2 ret2 rm2 D ca xa A lw (.ref b0 :: As) σ (inj b) τ) (hp : zMp y cc2 nL2 ret2 As.length) (hi : Cond.instanceMethod y ∈ zlwg ∧ Cond.selects y.cls y y ∈ zlwg) (hlk : Cond.methodLink own idx y ∈ zlwg) (hrm : rm2.cells = 0 ∧ rm2.slots = 0 ∧ rm2.frames + 1 ≤ R.frames ∧ 8 + (nL2 + 11) + rm2.locals ≤ R.locals) (hcs : cells ≤ R.cells ∧ slots ≤ R.slots)
    (hrc : ∃ (q0 ci : Nat) (fs : List Value) (T : u_T) (N : Nat), (lw σ)[q0]? = some (b0, .inr (ci, fs)) ∧ vwCl[ci]? = some (y.cls, T, N)) (hst : st = As.reverse ++ .ref b0 :: rest) (hcat : (rest.map fun v => v.category).sum ≤ 8) (d : decode cc pc = .ok (.invokevirtual idx, 3))
    (kk : ∀ (b : β) (τ : S), zGO p l e R s m args below meth c cells slots lw D A nL Qf (k b τ) τ (pc + 3) lv ((inj b).toList ++ rest)) : zGO p l e R s m args below meth c cells slots lw D A nL Qf (zbnd o' k) σ (pc) lv (st) := by
  refine z_run (inj := inj) (rest := rest) (av := (Value.ref b0 :: As).toArray) (fun b τ ho H locs ls hP hS hl => ?_) kk
  obtain ⟨q0, ci, fs, T, N, hq, hcl⟩ := hrc
  subst hst
  exact va_runV (As := As) (rest := rest) ⟨hc.1, hc.2.1, hc.2.2.1, hc.2.2.2.1, hc.2.2.2.2.1⟩ (hct b τ ho) (cwV As.length hc.2.2.2.2.1 (zG3 hp (fun w hw => by
      simp only [List.mem_cons, List.not_mem_nil, or_false] at hw
      rcases hw with rfl | rfl | rfl | rfl
      · exact hlk
      · exact hi.1
      · exact hi.2
      · exact hp.2.1)) rfl hrm.1 hrm.2.1 ⟨rfl, hp.2.2⟩ hrm.2.2) ⟨zPre.blind, va_recv hc.2.2.2.2.2.2.2.1 hP hcl hq, fun U hU hW => ⟨rfl, zPre.at hc hP hS U hU hW⟩⟩ rfl rfl hl.1 rfl (lv_room hcat) d hcs
theorem z_runVN (hc : zCx p s m args meth c cc nL own D ca xa A lw) (hct : ∀ (b : β) (τ : S), o' = some (b, τ) → zCt l y cc2 nL2 ret2 rm2 D ca xa A lw (.ref b0 :: As) σ (inj b) τ) (hp : zMp y cc2 nL2 ret2 As.length) (hi : Cond.instanceMethod y ∈ zlwg ∧ Cond.selects y.cls y y ∈ zlwg) (hlk : Cond.methodLinkNest own idx y host ∈ znest) (hrm : rm2.cells = 0 ∧ rm2.slots = 0 ∧ rm2.frames + 1 ≤ R.frames ∧ 8 + (nL2 + 11) + rm2.locals ≤ R.locals) (hcs : cells ≤ R.cells ∧ slots ≤ R.slots)
    (hrc : ∃ (q0 ci : Nat) (fs : List Value) (T : u_T) (N : Nat), (lw σ)[q0]? = some (b0, .inr (ci, fs)) ∧ vwCl[ci]? = some (y.cls, T, N)) (hst : st = As.reverse ++ .ref b0 :: rest) (hcat : (rest.map fun v => v.category).sum ≤ 8) (d : decode cc pc = .ok (.invokevirtual idx, 3))
    (kk : ∀ (b : β) (τ : S), zGO p l e R s m args below meth c cells slots lw D A nL Qf (k b τ) τ (pc + 3) lv ((inj b).toList ++ rest)) : zGO p l e R s m args below meth c cells slots lw D A nL Qf (zbnd o' k) σ (pc) lv (st) := by
  refine z_run (inj := inj) (rest := rest) (av := (Value.ref b0 :: As).toArray) (fun b τ ho H locs ls hP hS hl => ?_) kk
  obtain ⟨q0, ci, fs, T, N, hq, hcl⟩ := hrc
  subst hst
  exact va_runVN (As := As) (rest := rest) (C := y.cls) ⟨hc.1, hc.2.1, hc.2.2.1, hc.2.2.2.1, hc.2.2.2.2.1⟩ (hct b τ ho) ⟨va_cnB As.length hc.2.2.2.2.1 (zG2 hp) rfl hrm.1 hrm.2.1 (hc.2.2.2.2.2.2.2.2.2.1 _ hlk) (hc.2.2.2.2.1 _ hp.2.1) hp.2.2 hrm.2.2, hc.2.2.2.2.1 _ hi.1, hc.2.2.2.2.1 _ hi.2⟩ ⟨zPre.blind, va_recv hc.2.2.2.2.2.2.2.1 hP hcl hq, fun U hU hW => ⟨rfl, zPre.at hc hP hS U hU hW⟩⟩ rfl rfl hl.1 rfl (lv_room hcat) d hcs
theorem z_runS (hc : zCx p s m args meth c cc nL own D ca xa A lw) (hct : ∀ (b : β) (τ : S), o' = some (b, τ) → zCt l y cc2 nL2 ret2 rm2 D ca xa A lw As σ (inj b) τ) (hp : zMp y cc2 nL2 ret2 As.length) (hi : Cond.static y ∈ zlwg) (hlk : Cond.methodLink own idx y ∈ zlwg) (hrm : rm2.cells = 0 ∧ rm2.slots = 0 ∧ rm2.frames + 1 ≤ R.frames ∧ 8 + (nL2 + 11) + rm2.locals ≤ R.locals) (hcs : cells ≤ R.cells ∧ slots ≤ R.slots)
    (hst : st = As.reverse ++ rest) (hcat : (rest.map fun v => v.category).sum ≤ 8) (d : decode cc pc = .ok (.invokestatic idx, 3))
    (kk : ∀ (b : β) (τ : S), zGO p l e R s m args below meth c cells slots lw D A nL Qf (k b τ) τ (pc + 3) lv ((inj b).toList ++ rest)) : zGO p l e R s m args below meth c cells slots lw D A nL Qf (zbnd o' k) σ (pc) lv (st) := by
  refine z_run (inj := inj) (rest := rest) (av := As.toArray) (fun b τ ho H locs ls hP hS hl => ?_) kk
  subst hst
  exact va_runS (As := As) (rest := rest) ⟨hc.1, hc.2.1, hc.2.2.1, hc.2.2.2.1, hc.2.2.2.2.1⟩ (hct b τ ho) ⟨callB_of As.length hc.2.2.2.2.1 (zG2 hp) rfl hrm.1 hrm.2.1 (hc.2.2.2.2.1 _ hp.2.1) (hc.2.2.2.2.1 _ hlk) hp.2.2 hrm.2.2, hc.2.2.2.2.1 _ hi⟩ ⟨zPre.blind, fun U hU hW => ⟨rfl, zPre.at hc hP hS U hU hW⟩⟩ rfl rfl hl.1 rfl (lv_room hcat) d hcs
theorem z_runSN (hc : zCx p s m args meth c cc nL own D ca xa A lw) (hct : ∀ (b : β) (τ : S), o' = some (b, τ) → zCt l y cc2 nL2 ret2 rm2 D ca xa A lw As σ (inj b) τ) (hp : zMp y cc2 nL2 ret2 As.length) (hi : Cond.static y ∈ zlwg) (hlk : Cond.methodLinkNest own idx y host ∈ znest) (hrm : rm2.cells = 0 ∧ rm2.slots = 0 ∧ rm2.frames + 1 ≤ R.frames ∧ 8 + (nL2 + 11) + rm2.locals ≤ R.locals) (hcs : cells ≤ R.cells ∧ slots ≤ R.slots)
    (hst : st = As.reverse ++ rest) (hcat : (rest.map fun v => v.category).sum ≤ 8) (d : decode cc pc = .ok (.invokestatic idx, 3))
    (kk : ∀ (b : β) (τ : S), zGO p l e R s m args below meth c cells slots lw D A nL Qf (k b τ) τ (pc + 3) lv ((inj b).toList ++ rest)) : zGO p l e R s m args below meth c cells slots lw D A nL Qf (zbnd o' k) σ (pc) lv (st) := by
  refine z_run (inj := inj) (rest := rest) (av := As.toArray) (fun b τ ho H locs ls hP hS hl => ?_) kk
  subst hst
  exact va_runSN (As := As) (rest := rest) ⟨hc.1, hc.2.1, hc.2.2.1, hc.2.2.2.1, hc.2.2.2.2.1⟩ (hct b τ ho) ⟨va_cnB As.length hc.2.2.2.2.1 (zG2 hp) rfl hrm.1 hrm.2.1 (hc.2.2.2.2.2.2.2.2.2.1 _ hlk) (hc.2.2.2.2.1 _ hp.2.1) hp.2.2 hrm.2.2, hc.2.2.2.2.1 _ hi, trivial⟩ ⟨zPre.blind, fun U hU hW => ⟨rfl, zPre.at hc hP hS U hU hW⟩⟩ rfl rfl hl.1 rfl (lv_room hcat) d hcs

theorem z_runVi (hc : zCx p s m args meth c cc nL own D ca xa A lw) {o' : Option (Int32 × S)} {k : Int32 → S → Option (α × S)} (d : decode cc pc = .ok (.invokevirtual idx, 3)) (hct : ∀ (b : Int32) (τ : S), o' = some (b, τ) → zCt l y cc2 nL2 ret2 rm2 D ca xa A lw (.ref b0 :: As) σ (zI b) τ) (hp : zMp y cc2 nL2 ret2 As.length) (hi : Cond.instanceMethod y ∈ zlwg ∧ Cond.selects y.cls y y ∈ zlwg) (hlk : Cond.methodLink own idx y ∈ zlwg) (hrm : rm2.cells = 0 ∧ rm2.slots = 0 ∧ rm2.frames + 1 ≤ R.frames ∧ 8 + (nL2 + 11) + rm2.locals ≤ R.locals) (hcs : cells ≤ R.cells ∧ slots ≤ R.slots) (hrc : ∃ (q0 ci : Nat) (fs : List Value) (T : u_T) (N : Nat), (lw σ)[q0]? = some (b0, .inr (ci, fs)) ∧ vwCl[ci]? = some (y.cls, T, N)) (hst : st = As.reverse ++ .ref b0 :: rest) (hcat : (rest.map fun v => v.category).sum ≤ 8) (kk : ∀ (b : Int32) (τ : S), zGO p l e R s m args below meth c cells slots lw D A nL Qf (k b τ) τ (pc + 3) lv (.int b :: rest)) : zGO p l e R s m args below meth c cells slots lw D A nL Qf (zbnd o' k) σ (pc) lv (st) := z_runV (inj := zI) hc hct hp hi hlk hrm hcs hrc hst hcat d kk
theorem z_runVl (hc : zCx p s m args meth c cc nL own D ca xa A lw) {o' : Option (Int64 × S)} {k : Int64 → S → Option (α × S)} (d : decode cc pc = .ok (.invokevirtual idx, 3)) (hct : ∀ (b : Int64) (τ : S), o' = some (b, τ) → zCt l y cc2 nL2 ret2 rm2 D ca xa A lw (.ref b0 :: As) σ (zL b) τ) (hp : zMp y cc2 nL2 ret2 As.length) (hi : Cond.instanceMethod y ∈ zlwg ∧ Cond.selects y.cls y y ∈ zlwg) (hlk : Cond.methodLink own idx y ∈ zlwg) (hrm : rm2.cells = 0 ∧ rm2.slots = 0 ∧ rm2.frames + 1 ≤ R.frames ∧ 8 + (nL2 + 11) + rm2.locals ≤ R.locals) (hcs : cells ≤ R.cells ∧ slots ≤ R.slots) (hrc : ∃ (q0 ci : Nat) (fs : List Value) (T : u_T) (N : Nat), (lw σ)[q0]? = some (b0, .inr (ci, fs)) ∧ vwCl[ci]? = some (y.cls, T, N)) (hst : st = As.reverse ++ .ref b0 :: rest) (hcat : (rest.map fun v => v.category).sum ≤ 8) (kk : ∀ (b : Int64) (τ : S), zGO p l e R s m args below meth c cells slots lw D A nL Qf (k b τ) τ (pc + 3) lv (.long b :: rest)) : zGO p l e R s m args below meth c cells slots lw D A nL Qf (zbnd o' k) σ (pc) lv (st) := z_runV (inj := zL) hc hct hp hi hlk hrm hcs hrc hst hcat d kk
theorem z_runVv (hc : zCx p s m args meth c cc nL own D ca xa A lw) {o' : Option (Unit × S)} {k : Unit → S → Option (α × S)} (d : decode cc pc = .ok (.invokevirtual idx, 3)) (hct : ∀ (b : Unit) (τ : S), o' = some (b, τ) → zCt l y cc2 nL2 ret2 rm2 D ca xa A lw (.ref b0 :: As) σ (zV b) τ) (hp : zMp y cc2 nL2 ret2 As.length) (hi : Cond.instanceMethod y ∈ zlwg ∧ Cond.selects y.cls y y ∈ zlwg) (hlk : Cond.methodLink own idx y ∈ zlwg) (hrm : rm2.cells = 0 ∧ rm2.slots = 0 ∧ rm2.frames + 1 ≤ R.frames ∧ 8 + (nL2 + 11) + rm2.locals ≤ R.locals) (hcs : cells ≤ R.cells ∧ slots ≤ R.slots) (hrc : ∃ (q0 ci : Nat) (fs : List Value) (T : u_T) (N : Nat), (lw σ)[q0]? = some (b0, .inr (ci, fs)) ∧ vwCl[ci]? = some (y.cls, T, N)) (hst : st = As.reverse ++ .ref b0 :: rest) (hcat : (rest.map fun v => v.category).sum ≤ 8) (kk : ∀ (b : Unit) (τ : S), zGO p l e R s m args below meth c cells slots lw D A nL Qf (k b τ) τ (pc + 3) lv (rest)) : zGO p l e R s m args below meth c cells slots lw D A nL Qf (zbnd o' k) σ (pc) lv (st) := z_runV (inj := zV) hc hct hp hi hlk hrm hcs hrc hst hcat d kk
theorem z_runVNi (hc : zCx p s m args meth c cc nL own D ca xa A lw) {o' : Option (Int32 × S)} {k : Int32 → S → Option (α × S)} (d : decode cc pc = .ok (.invokevirtual idx, 3)) (hct : ∀ (b : Int32) (τ : S), o' = some (b, τ) → zCt l y cc2 nL2 ret2 rm2 D ca xa A lw (.ref b0 :: As) σ (zI b) τ) (hp : zMp y cc2 nL2 ret2 As.length) (hi : Cond.instanceMethod y ∈ zlwg ∧ Cond.selects y.cls y y ∈ zlwg) (hlk : Cond.methodLinkNest own idx y host ∈ znest) (hrm : rm2.cells = 0 ∧ rm2.slots = 0 ∧ rm2.frames + 1 ≤ R.frames ∧ 8 + (nL2 + 11) + rm2.locals ≤ R.locals) (hcs : cells ≤ R.cells ∧ slots ≤ R.slots) (hrc : ∃ (q0 ci : Nat) (fs : List Value) (T : u_T) (N : Nat), (lw σ)[q0]? = some (b0, .inr (ci, fs)) ∧ vwCl[ci]? = some (y.cls, T, N)) (hst : st = As.reverse ++ .ref b0 :: rest) (hcat : (rest.map fun v => v.category).sum ≤ 8) (kk : ∀ (b : Int32) (τ : S), zGO p l e R s m args below meth c cells slots lw D A nL Qf (k b τ) τ (pc + 3) lv (.int b :: rest)) : zGO p l e R s m args below meth c cells slots lw D A nL Qf (zbnd o' k) σ (pc) lv (st) := z_runVN (inj := zI) hc hct hp hi hlk hrm hcs hrc hst hcat d kk
theorem z_runVNl (hc : zCx p s m args meth c cc nL own D ca xa A lw) {o' : Option (Int64 × S)} {k : Int64 → S → Option (α × S)} (d : decode cc pc = .ok (.invokevirtual idx, 3)) (hct : ∀ (b : Int64) (τ : S), o' = some (b, τ) → zCt l y cc2 nL2 ret2 rm2 D ca xa A lw (.ref b0 :: As) σ (zL b) τ) (hp : zMp y cc2 nL2 ret2 As.length) (hi : Cond.instanceMethod y ∈ zlwg ∧ Cond.selects y.cls y y ∈ zlwg) (hlk : Cond.methodLinkNest own idx y host ∈ znest) (hrm : rm2.cells = 0 ∧ rm2.slots = 0 ∧ rm2.frames + 1 ≤ R.frames ∧ 8 + (nL2 + 11) + rm2.locals ≤ R.locals) (hcs : cells ≤ R.cells ∧ slots ≤ R.slots) (hrc : ∃ (q0 ci : Nat) (fs : List Value) (T : u_T) (N : Nat), (lw σ)[q0]? = some (b0, .inr (ci, fs)) ∧ vwCl[ci]? = some (y.cls, T, N)) (hst : st = As.reverse ++ .ref b0 :: rest) (hcat : (rest.map fun v => v.category).sum ≤ 8) (kk : ∀ (b : Int64) (τ : S), zGO p l e R s m args below meth c cells slots lw D A nL Qf (k b τ) τ (pc + 3) lv (.long b :: rest)) : zGO p l e R s m args below meth c cells slots lw D A nL Qf (zbnd o' k) σ (pc) lv (st) := z_runVN (inj := zL) hc hct hp hi hlk hrm hcs hrc hst hcat d kk
theorem z_runVNv (hc : zCx p s m args meth c cc nL own D ca xa A lw) {o' : Option (Unit × S)} {k : Unit → S → Option (α × S)} (d : decode cc pc = .ok (.invokevirtual idx, 3)) (hct : ∀ (b : Unit) (τ : S), o' = some (b, τ) → zCt l y cc2 nL2 ret2 rm2 D ca xa A lw (.ref b0 :: As) σ (zV b) τ) (hp : zMp y cc2 nL2 ret2 As.length) (hi : Cond.instanceMethod y ∈ zlwg ∧ Cond.selects y.cls y y ∈ zlwg) (hlk : Cond.methodLinkNest own idx y host ∈ znest) (hrm : rm2.cells = 0 ∧ rm2.slots = 0 ∧ rm2.frames + 1 ≤ R.frames ∧ 8 + (nL2 + 11) + rm2.locals ≤ R.locals) (hcs : cells ≤ R.cells ∧ slots ≤ R.slots) (hrc : ∃ (q0 ci : Nat) (fs : List Value) (T : u_T) (N : Nat), (lw σ)[q0]? = some (b0, .inr (ci, fs)) ∧ vwCl[ci]? = some (y.cls, T, N)) (hst : st = As.reverse ++ .ref b0 :: rest) (hcat : (rest.map fun v => v.category).sum ≤ 8) (kk : ∀ (b : Unit) (τ : S), zGO p l e R s m args below meth c cells slots lw D A nL Qf (k b τ) τ (pc + 3) lv (rest)) : zGO p l e R s m args below meth c cells slots lw D A nL Qf (zbnd o' k) σ (pc) lv (st) := z_runVN (inj := zV) hc hct hp hi hlk hrm hcs hrc hst hcat d kk
theorem z_runSi (hc : zCx p s m args meth c cc nL own D ca xa A lw) {o' : Option (Int32 × S)} {k : Int32 → S → Option (α × S)} (d : decode cc pc = .ok (.invokestatic idx, 3)) (hct : ∀ (b : Int32) (τ : S), o' = some (b, τ) → zCt l y cc2 nL2 ret2 rm2 D ca xa A lw As σ (zI b) τ) (hp : zMp y cc2 nL2 ret2 As.length) (hi : Cond.static y ∈ zlwg) (hlk : Cond.methodLink own idx y ∈ zlwg) (hrm : rm2.cells = 0 ∧ rm2.slots = 0 ∧ rm2.frames + 1 ≤ R.frames ∧ 8 + (nL2 + 11) + rm2.locals ≤ R.locals) (hcs : cells ≤ R.cells ∧ slots ≤ R.slots) (hst : st = As.reverse ++ rest) (hcat : (rest.map fun v => v.category).sum ≤ 8) (kk : ∀ (b : Int32) (τ : S), zGO p l e R s m args below meth c cells slots lw D A nL Qf (k b τ) τ (pc + 3) lv (.int b :: rest)) : zGO p l e R s m args below meth c cells slots lw D A nL Qf (zbnd o' k) σ (pc) lv (st) := z_runS (inj := zI) hc hct hp hi hlk hrm hcs hst hcat d kk
theorem z_runSl (hc : zCx p s m args meth c cc nL own D ca xa A lw) {o' : Option (Int64 × S)} {k : Int64 → S → Option (α × S)} (d : decode cc pc = .ok (.invokestatic idx, 3)) (hct : ∀ (b : Int64) (τ : S), o' = some (b, τ) → zCt l y cc2 nL2 ret2 rm2 D ca xa A lw As σ (zL b) τ) (hp : zMp y cc2 nL2 ret2 As.length) (hi : Cond.static y ∈ zlwg) (hlk : Cond.methodLink own idx y ∈ zlwg) (hrm : rm2.cells = 0 ∧ rm2.slots = 0 ∧ rm2.frames + 1 ≤ R.frames ∧ 8 + (nL2 + 11) + rm2.locals ≤ R.locals) (hcs : cells ≤ R.cells ∧ slots ≤ R.slots) (hst : st = As.reverse ++ rest) (hcat : (rest.map fun v => v.category).sum ≤ 8) (kk : ∀ (b : Int64) (τ : S), zGO p l e R s m args below meth c cells slots lw D A nL Qf (k b τ) τ (pc + 3) lv (.long b :: rest)) : zGO p l e R s m args below meth c cells slots lw D A nL Qf (zbnd o' k) σ (pc) lv (st) := z_runS (inj := zL) hc hct hp hi hlk hrm hcs hst hcat d kk
theorem z_runSv (hc : zCx p s m args meth c cc nL own D ca xa A lw) {o' : Option (Unit × S)} {k : Unit → S → Option (α × S)} (d : decode cc pc = .ok (.invokestatic idx, 3)) (hct : ∀ (b : Unit) (τ : S), o' = some (b, τ) → zCt l y cc2 nL2 ret2 rm2 D ca xa A lw As σ (zV b) τ) (hp : zMp y cc2 nL2 ret2 As.length) (hi : Cond.static y ∈ zlwg) (hlk : Cond.methodLink own idx y ∈ zlwg) (hrm : rm2.cells = 0 ∧ rm2.slots = 0 ∧ rm2.frames + 1 ≤ R.frames ∧ 8 + (nL2 + 11) + rm2.locals ≤ R.locals) (hcs : cells ≤ R.cells ∧ slots ≤ R.slots) (hst : st = As.reverse ++ rest) (hcat : (rest.map fun v => v.category).sum ≤ 8) (kk : ∀ (b : Unit) (τ : S), zGO p l e R s m args below meth c cells slots lw D A nL Qf (k b τ) τ (pc + 3) lv (rest)) : zGO p l e R s m args below meth c cells slots lw D A nL Qf (zbnd o' k) σ (pc) lv (st) := z_runS (inj := zV) hc hct hp hi hlk hrm hcs hst hcat d kk
theorem z_runSNi (hc : zCx p s m args meth c cc nL own D ca xa A lw) {o' : Option (Int32 × S)} {k : Int32 → S → Option (α × S)} (d : decode cc pc = .ok (.invokestatic idx, 3)) (hct : ∀ (b : Int32) (τ : S), o' = some (b, τ) → zCt l y cc2 nL2 ret2 rm2 D ca xa A lw As σ (zI b) τ) (hp : zMp y cc2 nL2 ret2 As.length) (hi : Cond.static y ∈ zlwg) (hlk : Cond.methodLinkNest own idx y host ∈ znest) (hrm : rm2.cells = 0 ∧ rm2.slots = 0 ∧ rm2.frames + 1 ≤ R.frames ∧ 8 + (nL2 + 11) + rm2.locals ≤ R.locals) (hcs : cells ≤ R.cells ∧ slots ≤ R.slots) (hst : st = As.reverse ++ rest) (hcat : (rest.map fun v => v.category).sum ≤ 8) (kk : ∀ (b : Int32) (τ : S), zGO p l e R s m args below meth c cells slots lw D A nL Qf (k b τ) τ (pc + 3) lv (.int b :: rest)) : zGO p l e R s m args below meth c cells slots lw D A nL Qf (zbnd o' k) σ (pc) lv (st) := z_runSN (inj := zI) hc hct hp hi hlk hrm hcs hst hcat d kk
theorem z_runSNl (hc : zCx p s m args meth c cc nL own D ca xa A lw) {o' : Option (Int64 × S)} {k : Int64 → S → Option (α × S)} (d : decode cc pc = .ok (.invokestatic idx, 3)) (hct : ∀ (b : Int64) (τ : S), o' = some (b, τ) → zCt l y cc2 nL2 ret2 rm2 D ca xa A lw As σ (zL b) τ) (hp : zMp y cc2 nL2 ret2 As.length) (hi : Cond.static y ∈ zlwg) (hlk : Cond.methodLinkNest own idx y host ∈ znest) (hrm : rm2.cells = 0 ∧ rm2.slots = 0 ∧ rm2.frames + 1 ≤ R.frames ∧ 8 + (nL2 + 11) + rm2.locals ≤ R.locals) (hcs : cells ≤ R.cells ∧ slots ≤ R.slots) (hst : st = As.reverse ++ rest) (hcat : (rest.map fun v => v.category).sum ≤ 8) (kk : ∀ (b : Int64) (τ : S), zGO p l e R s m args below meth c cells slots lw D A nL Qf (k b τ) τ (pc + 3) lv (.long b :: rest)) : zGO p l e R s m args below meth c cells slots lw D A nL Qf (zbnd o' k) σ (pc) lv (st) := z_runSN (inj := zL) hc hct hp hi hlk hrm hcs hst hcat d kk
theorem z_runSNv (hc : zCx p s m args meth c cc nL own D ca xa A lw) {o' : Option (Unit × S)} {k : Unit → S → Option (α × S)} (d : decode cc pc = .ok (.invokestatic idx, 3)) (hct : ∀ (b : Unit) (τ : S), o' = some (b, τ) → zCt l y cc2 nL2 ret2 rm2 D ca xa A lw As σ (zV b) τ) (hp : zMp y cc2 nL2 ret2 As.length) (hi : Cond.static y ∈ zlwg) (hlk : Cond.methodLinkNest own idx y host ∈ znest) (hrm : rm2.cells = 0 ∧ rm2.slots = 0 ∧ rm2.frames + 1 ≤ R.frames ∧ 8 + (nL2 + 11) + rm2.locals ≤ R.locals) (hcs : cells ≤ R.cells ∧ slots ≤ R.slots) (hst : st = As.reverse ++ rest) (hcat : (rest.map fun v => v.category).sum ≤ 8) (kk : ∀ (b : Unit) (τ : S), zGO p l e R s m args below meth c cells slots lw D A nL Qf (k b τ) τ (pc + 3) lv (rest)) : zGO p l e R s m args below meth c cells slots lw D A nL Qf (zbnd o' k) σ (pc) lv (st) := z_runSN (inj := zV) hc hct hp hi hlk hrm hcs hst hcat d kk
end zCalls
/-- String constant w -/
def zstr {β : Type} (w : Nat) (o : Option β) : Option β := if w < 8 then o else none
def zstrAt {β : Type} (w : Nat) (i : Int32) (k : Int32 → Option β) : Option β := @ite _ (w < 8 ∧ zin i (zSlen.getD w 0)) (@instDecidableAnd _ _ _ (zinD _ _)) (k ((zSbyt.getD w []).getD i.toNatClampNeg 0)) none
section zStr
variable {wi : Nat}
theorem zexZ0 (hc : zCx p s m args meth c cc nL own D ca xa A lw) : va_Z "SafeNet$Weights" "WORLDS_WITH" "[I" (.ref (xa 0)) A s s.heap := hc.2.2.2.2.2.2.2.2.2.2.1.1
theorem zexT0 (hc : zCx p s m args meth c cc nL own D ca xa A lw) : va_T .int (xa 0) 3 (fun j => .int (zTW j)) A s s.heap := hc.2.2.2.2.2.2.2.2.2.2.1.2
theorem zexZ1 (hc : zCx p s m args meth c cc nL own D ca xa A lw) : va_Z "SafeNet$Net" "DOUBTS_BY_FORM" "[I" (.ref (xa 1)) A s s.heap := hc.2.2.2.2.2.2.2.2.2.2.2.1.1
theorem zexT1 (hc : zCx p s m args meth c cc nL own D ca xa A lw) : va_T .int (xa 1) 4 (fun j => .int (zTD j)) A s s.heap := hc.2.2.2.2.2.2.2.2.2.2.2.1.2
theorem zexZ2 (hc : zCx p s m args meth c cc nL own D ca xa A lw) : va_Z "SafeNet$Net" "KINDS_ABOVE" "[I" (.ref (xa 2)) A s s.heap := hc.2.2.2.2.2.2.2.2.2.2.2.2.1.1
theorem zexT2 (hc : zCx p s m args meth c cc nL own D ca xa A lw) : va_T .int (xa 2) 6 (fun j => .int (zTK j)) A s s.heap := hc.2.2.2.2.2.2.2.2.2.2.2.2.1.2
theorem zexS (hc : zCx p s m args meth c cc nL own D ca xa A lw) : vk_S 8 zSlen zSbyt (fun i => xa (10 + i)) (fun i => xa (20 + i)) A s s.heap := hc.2.2.2.2.2.2.2.2.2.2.2.2.2.2.1
theorem z_ldcS (hc : zCx p s m args meth c cc nL "SafeNet$Text" D ca xa A lw) {n i : Nat} (d : decode cc pc = .ok (.ldc n, 2)) (hi : i < 8) (hn : zSpool i = n) (k : zGO p l e R s m args below meth c cells slots lw D A nL Qf o σ (pc + 2) lv (.ref (xa (10 + i)) :: st)) : zGO p l e R s m args below meth c cells slots lw D A nL Qf o σ (pc) lv (st) := z_lift k (fun hl kk => va_ldcS hc.1 hc.2.1 hc.2.2.2.1 (hc.2.2.2.2.2.2.2.2.2.2.2.2.2.2.2 i hi) (by rw [hn]; exact d) (kk _ hl))
theorem z_strV (hc : zCx p s m args meth c cc nL own D ca xa A lw) {n : Nat} (hlk : Cond.fieldLink own n "java/lang/String" "value" "[B" ∈ zlwg) (d : decode cc pc = .ok (.getfield n, 3)) (k : zGO p l e R s m args below meth c cells slots lw D A nL Qf o σ (pc + 3) lv (.ref (xa (20 + wi)) :: st)) : zGO p l e R s m args below meth c cells slots lw D A nL Qf (zstr wi o) σ (pc) lv (.ref (xa (10 + wi)) :: st) := by
  unfold zstr
  refine z_ite (fun q => ?_) (fun _ => z_none)
  intro a τ h H locs ls hP hS hl
  exact vk_getf hc.1 hc.2.1 ((zexS hc).1 wi q).2.2.1 hS hc.2.2.2.1 (hc.2.2.2.2.1 _ hlk) (fun _ h9 => h9) d (k a τ h H locs ls hP hS hl)
theorem z_strC (hc : zCx p s m args meth c cc nL own D ca xa A lw) {n : Nat} (hlk : Cond.fieldLink own n "java/lang/String" "coder" "B" ∈ zlwg) (d : decode cc pc = .ok (.getfield n, 3)) (k : zGO p l e R s m args below meth c cells slots lw D A nL Qf o σ (pc + 3) lv (.int 0 :: st)) : zGO p l e R s m args below meth c cells slots lw D A nL Qf (zstr wi o) σ (pc) lv (.ref (xa (10 + wi)) :: st) := by
  unfold zstr
  refine z_ite (fun q => ?_) (fun _ => z_none)
  intro a τ h H locs ls hP hS hl
  exact vk_getf hc.1 hc.2.1 ((zexS hc).1 wi q).2.1 hS hc.2.2.2.1 (hc.2.2.2.2.1 _ hlk) (fun _ h9 => h9) d (k a τ h H locs ls hP hS hl)
theorem z_strLen (hc : zCx p s m args meth c cc nL own D ca xa A lw) (d : decode cc pc = .ok (.arraylength, 1)) (k : zGO p l e R s m args below meth c cells slots lw D A nL Qf o σ (pc + 1) lv (.int (Int32.ofNat (zSlen.getD wi 0)) :: st)) : zGO p l e R s m args below meth c cells slots lw D A nL Qf (zstr wi o) σ (pc) lv (.ref (xa (20 + wi)) :: st) := by
  unfold zstr
  refine z_ite (fun q => ?_) (fun _ => z_none)
  intro a τ h H locs ls hP hS hl
  obtain ⟨cell, h1, h2, h3, h4, h5, h6, h7⟩ := (((zexS hc).1 wi q).2.2.2).kept hS.2.1
  exact W.alen hc.1 hc.2.1 h1 h2 h5 rfl rfl d (k a τ h H locs ls hP hS hl)
theorem z_strAt (hc : zCx p s m args meth c cc nL own D ca xa A lw) {i : Int32} {kf : Int32 → Option (α × S)} (d : decode cc pc = .ok (.baload, 1)) (k : ∀ x : Int32, zGO p l e R s m args below meth c cells slots lw D A nL Qf (kf x) σ (pc + 1) lv (.int x :: st)) : zGO p l e R s m args below meth c cells slots lw D A nL Qf (zstrAt wi i kf) σ (pc) lv (.int i :: .ref (xa (20 + wi)) :: st) := by
  unfold zstrAt
  refine z_ite (fun q => ?_) (fun _ => z_none)
  intro a τ h H locs ls hP hS hl
  obtain ⟨cell, h1, h2, h3, h4, h5, h6, h7⟩ := (((zexS hc).1 wi q.1).2.2.2).kept hS.2.1
  exact W.bald hc.1 hc.2.1 h1 h2 h3 (fun z => (zin_vp q.2) (z.elim Or.inl (fun y => Or.inr (Nat.le_trans h4 y)))) (h6 _ q.2.2) rfl rfl d (k _ a τ h H locs ls hP hS hl)
theorem z_compact (hc : zCx p s m args meth c cc nL own D ca xa A lw) {n : Nat} (hlk : Cond.fieldLink own n "java/lang/String" "COMPACT_STRINGS" "Z" ∈ zlwg) (d : decode cc pc = .ok (.getstatic n, 3)) (k : zGO p l e R s m args below meth c cells slots lw D A nL Qf o σ (pc + 3) lv (.int 1 :: st)) : zGO p l e R s m args below meth c cells slots lw D A nL Qf o σ (pc) lv (st) :=
  fun a τ h H locs ls hP hS hl => va_gets hc.1 hc.2.1 hc.2.2.2.2.2.2.2.2.2.2.2.2.2.1.1 hS hc.2.2.2.1 (hc.2.2.2.2.1 _ hlk) (fun _ h9 => h9) d (k a τ h H locs ls hP hS hl)
theorem z_fmt (hc : zCx p s m args meth c cc nL own D ca xa A lw) {n : Nat} (hlk : Cond.fieldLink own n "jdk/internal/util/Preconditions" "SIOOBE_FORMATTER" "Ljava/util/function/BiFunction;" ∈ zlwg) (d : decode cc pc = .ok (.getstatic n, 3)) (k : ∀ u : Option Nat, zGO p l e R s m args below meth c cells slots lw D A nL Qf o σ (pc + 3) lv (va_rf u :: st)) : zGO p l e R s m args below meth c cells slots lw D A nL Qf o σ (pc) lv (st) := by
  intro a τ h H locs ls hP hS hl
  rcases hc.2.2.2.2.2.2.2.2.2.2.2.2.2.1.2 with hz | ⟨t, hz⟩
  · exact va_gets hc.1 hc.2.1 hz hS hc.2.2.2.1 (hc.2.2.2.2.1 _ hlk) (fun _ h9 => h9) d (k none a τ h H locs ls hP hS hl)
  · exact va_gets hc.1 hc.2.1 hz hS hc.2.2.2.1 (hc.2.2.2.2.1 _ hlk) (fun _ h9 => h9) d (k (some t) a τ h H locs ls hP hS hl)
/-- a call on String constant w -/
theorem z_runStr (hc : zCx p s m args meth c cc nL own D ca xa A lw) {β : Type} {inj : β → Option Value} {o' : Option (β × S)} {k : β → S → Option (α × S)} {rest : List Value} {y : MethodName} {cc2 : ByteArray} {nL2 idx : Nat} {ret2 : Option FieldType} {rm2 : Room} {As : List Value} (d : decode cc pc = .ok (.invokevirtual idx, 3)) (hw : o' ≠ none → wi < 8) (hct : ∀ (b : β) (τ : S), o' = some (b, τ) → zCt l y cc2 nL2 ret2 rm2 D ca xa A lw (.ref (xa (10 + wi)) :: As) σ (inj b) τ) (hy : y.cls = "java/lang/String") (hp : zMp y cc2 nL2 ret2 As.length) (hi : Cond.instanceMethod y ∈ zlwg ∧ Cond.selects y.cls y y ∈ zlwg) (hlk : Cond.methodLink own idx y ∈ zlwg) (hrm : rm2.cells = 0 ∧ rm2.slots = 0 ∧ rm2.frames + 1 ≤ R.frames ∧ 8 + (nL2 + 11) + rm2.locals ≤ R.locals) (hcs : cells ≤ R.cells ∧ slots ≤ R.slots)
    (hst : st = As.reverse ++ .ref (xa (10 + wi)) :: rest) (hcat : (rest.map fun v => v.category).sum ≤ 8)
    (kk : ∀ (b : β) (τ : S), zGO p l e R s m args below meth c cells slots lw D A nL Qf (k b τ) τ (pc + 3) lv ((inj b).toList ++ rest)) : zGO p l e R s m args below meth c cells slots lw D A nL Qf (zbnd o' k) σ (pc) lv (st) := by
  refine z_run (inj := inj) (rest := rest) (av := (Value.ref (xa (10 + wi)) :: As).toArray) (fun b τ ho H locs ls hP hS hl => ?_) kk
  subst hst
  have hr := vk_recv (zexS hc) (hw (by rw [ho]; exact fun q => by cases q)) hS
  rw [← hy] at hr
  exact va_runV (As := As) (rest := rest) ⟨hc.1, hc.2.1, hc.2.2.1, hc.2.2.2.1, hc.2.2.2.2.1⟩ (hct b τ ho) (cwV As.length hc.2.2.2.2.1 (zG3 hp (fun w hw => by
      simp only [List.mem_cons, List.not_mem_nil, or_false] at hw
      rcases hw with rfl | rfl | rfl | rfl
      · exact hlk
      · exact hi.1
      · exact hi.2
      · exact hp.2.1)) rfl hrm.1 hrm.2.1 ⟨rfl, hp.2.2⟩ hrm.2.2) ⟨zPre.blind, hr, fun U hU hW => ⟨rfl, zPre.at hc hP hS U hU hW⟩⟩ rfl rfl hl.1 rfl (lv_room hcat) d hcs
end zStr
end zC
end
