section
-- ===== PART A: goes FIRST, ahead of the names: the tables' words, and 'selects' of the private methods out of them =====
/-- a private method of a class that the tables say can be made, by its rows of tables_1 -/
def lw_okq (q : MethodName × Nat) : Prop := (q.1.cls ≠ "java/lang/invoke/MethodHandle" ∧ q.1.cls ≠ "java/lang/invoke/VarHandle") ∧ Cond.instantiable q.1.cls q.2 ∈ tables_1 ∧ Cond.privateMethod q.1 ∈ tables_1 ∧ Cond.instanceMethod q.1 ∈ tables_1
theorem lw_p0 : lw_okq (⟨"NumberMachines", "emptyAll", "(I)V"⟩, 5) := ⟨⟨by decide +kernel, by decide +kernel⟩, List.mem_of_getElem? (i := 13) (by decide +kernel), List.mem_of_getElem? (i := 91) (by decide +kernel), List.mem_of_getElem? (i := 92) (by decide +kernel)⟩
theorem lw_p1 : lw_okq (⟨"NumberMachines", "drafted", "()LNumberMachines$Round;"⟩, 5) := ⟨⟨by decide +kernel, by decide +kernel⟩, List.mem_of_getElem? (i := 13) (by decide +kernel), List.mem_of_getElem? (i := 105) (by decide +kernel), List.mem_of_getElem? (i := 106) (by decide +kernel)⟩
theorem lw_p2 : lw_okq (⟨"NumberMachines$Draft", "leastPeriod", "()I"⟩, 3) := ⟨⟨by decide +kernel, by decide +kernel⟩, List.mem_of_getElem? (i := 25) (by decide +kernel), List.mem_of_getElem? (i := 113) (by decide +kernel), List.mem_of_getElem? (i := 114) (by decide +kernel)⟩
theorem lw_p3 : lw_okq (⟨"NumberMachines$Draft", "comesRoundBy", "(I)Z"⟩, 3) := ⟨⟨by decide +kernel, by decide +kernel⟩, List.mem_of_getElem? (i := 25) (by decide +kernel), List.mem_of_getElem? (i := 117) (by decide +kernel), List.mem_of_getElem? (i := 118) (by decide +kernel)⟩
theorem lw_p4 : lw_okq (⟨"NumberMachines$Draft", "leastStart", "()I"⟩, 3) := ⟨⟨by decide +kernel, by decide +kernel⟩, List.mem_of_getElem? (i := 25) (by decide +kernel), List.mem_of_getElem? (i := 128) (by decide +kernel), List.mem_of_getElem? (i := 129) (by decide +kernel)⟩
theorem lw_p5 : lw_okq (⟨"NumberMachines$Draft", "clearBehind", "()V"⟩, 3) := ⟨⟨by decide +kernel, by decide +kernel⟩, List.mem_of_getElem? (i := 25) (by decide +kernel), List.mem_of_getElem? (i := 132) (by decide +kernel), List.mem_of_getElem? (i := 133) (by decide +kernel)⟩
theorem lw_p6 : lw_okq (⟨"NumberMachines$Tracer", "writeRest", "(II)V"⟩, 6) := ⟨⟨by decide +kernel, by decide +kernel⟩, List.mem_of_getElem? (i := 48) (by decide +kernel), List.mem_of_getElem? (i := 150) (by decide +kernel), List.mem_of_getElem? (i := 151) (by decide +kernel)⟩
theorem lw_p7 : lw_okq (⟨"NumberMachines$Tracer", "metAs", "()I"⟩, 6) := ⟨⟨by decide +kernel, by decide +kernel⟩, List.mem_of_getElem? (i := 48) (by decide +kernel), List.mem_of_getElem? (i := 157) (by decide +kernel), List.mem_of_getElem? (i := 158) (by decide +kernel)⟩
theorem lw_p8 : lw_okq (⟨"NumberMachines$Tracer", "sameRows", "(II)Z"⟩, 6) := ⟨⟨by decide +kernel, by decide +kernel⟩, List.mem_of_getElem? (i := 48) (by decide +kernel), List.mem_of_getElem? (i := 161) (by decide +kernel), List.mem_of_getElem? (i := 162) (by decide +kernel)⟩
theorem lw_p9 : lw_okq (⟨"NumberMachines", "unknown", "(I)Z"⟩, 5) := ⟨⟨by decide +kernel, by decide +kernel⟩, List.mem_of_getElem? (i := 13) (by decide +kernel), List.mem_of_getElem? (i := 256) (by decide +kernel), List.mem_of_getElem? (i := 257) (by decide +kernel)⟩
theorem lw_p10 : lw_okq (⟨"NumberMachines", "draftKind", "(III)V"⟩, 5) := ⟨⟨by decide +kernel, by decide +kernel⟩, List.mem_of_getElem? (i := 13) (by decide +kernel), List.mem_of_getElem? (i := 263) (by decide +kernel), List.mem_of_getElem? (i := 264) (by decide +kernel)⟩
theorem lw_p11 : lw_okq (⟨"NumberMachines", "hold", "(I)I"⟩, 5) := ⟨⟨by decide +kernel, by decide +kernel⟩, List.mem_of_getElem? (i := 13) (by decide +kernel), List.mem_of_getElem? (i := 274) (by decide +kernel), List.mem_of_getElem? (i := 275) (by decide +kernel)⟩
theorem lw_p12 : lw_okq (⟨"NumberMachines", "draftJoin", "(LNumberMachines$Round;LNumberMachines$Round;I)V"⟩, 5) := ⟨⟨by decide +kernel, by decide +kernel⟩, List.mem_of_getElem? (i := 13) (by decide +kernel), List.mem_of_getElem? (i := 282) (by decide +kernel), List.mem_of_getElem? (i := 283) (by decide +kernel)⟩
theorem lw_p13 : lw_okq (⟨"NumberMachines", "draftTurn", "(LNumberMachines$Round;)V"⟩, 5) := ⟨⟨by decide +kernel, by decide +kernel⟩, List.mem_of_getElem? (i := 13) (by decide +kernel), List.mem_of_getElem? (i := 307) (by decide +kernel), List.mem_of_getElem? (i := 308) (by decide +kernel)⟩
theorem lw_p14 : lw_okq (⟨"NumberMachines", "draftShift", "(LNumberMachines$Round;I)V"⟩, 5) := ⟨⟨by decide +kernel, by decide +kernel⟩, List.mem_of_getElem? (i := 13) (by decide +kernel), List.mem_of_getElem? (i := 315) (by decide +kernel), List.mem_of_getElem? (i := 316) (by decide +kernel)⟩
theorem lw_p15 : lw_okq (⟨"NumberMachines", "draftStretch", "(LNumberMachines$Round;II)V"⟩, 5) := ⟨⟨by decide +kernel, by decide +kernel⟩, List.mem_of_getElem? (i := 13) (by decide +kernel), List.mem_of_getElem? (i := 329) (by decide +kernel), List.mem_of_getElem? (i := 330) (by decide +kernel)⟩
def lw_privs_1 : List (MethodName × Nat) := [(⟨"NumberMachines", "emptyAll", "(I)V"⟩, 5), (⟨"NumberMachines", "drafted", "()LNumberMachines$Round;"⟩, 5), (⟨"NumberMachines$Draft", "leastPeriod", "()I"⟩, 3), (⟨"NumberMachines$Draft", "comesRoundBy", "(I)Z"⟩, 3), (⟨"NumberMachines$Draft", "leastStart", "()I"⟩, 3), (⟨"NumberMachines$Draft", "clearBehind", "()V"⟩, 3), (⟨"NumberMachines$Tracer", "writeRest", "(II)V"⟩, 6), (⟨"NumberMachines$Tracer", "metAs", "()I"⟩, 6), (⟨"NumberMachines$Tracer", "sameRows", "(II)Z"⟩, 6), (⟨"NumberMachines", "unknown", "(I)Z"⟩, 5), (⟨"NumberMachines", "draftKind", "(III)V"⟩, 5), (⟨"NumberMachines", "hold", "(I)I"⟩, 5), (⟨"NumberMachines", "draftJoin", "(LNumberMachines$Round;LNumberMachines$Round;I)V"⟩, 5), (⟨"NumberMachines", "draftTurn", "(LNumberMachines$Round;)V"⟩, 5), (⟨"NumberMachines", "draftShift", "(LNumberMachines$Round;I)V"⟩, 5), (⟨"NumberMachines", "draftStretch", "(LNumberMachines$Round;II)V"⟩, 5)]
theorem lw_r1 : ∀ q ∈ lw_privs_1, lw_okq q := List.forall_mem_cons.mpr ⟨lw_p0, List.forall_mem_cons.mpr ⟨lw_p1, List.forall_mem_cons.mpr ⟨lw_p2, List.forall_mem_cons.mpr ⟨lw_p3, List.forall_mem_cons.mpr ⟨lw_p4, List.forall_mem_cons.mpr ⟨lw_p5, List.forall_mem_cons.mpr ⟨lw_p6, List.forall_mem_cons.mpr ⟨lw_p7, List.forall_mem_cons.mpr ⟨lw_p8, List.forall_mem_cons.mpr ⟨lw_p9, List.forall_mem_cons.mpr ⟨lw_p10, List.forall_mem_cons.mpr ⟨lw_p11, List.forall_mem_cons.mpr ⟨lw_p12, List.forall_mem_cons.mpr ⟨lw_p13, List.forall_mem_cons.mpr ⟨lw_p14, List.forall_mem_cons.mpr ⟨lw_p15, fun _ h => absurd h List.not_mem_nil⟩⟩⟩⟩⟩⟩⟩⟩⟩⟩⟩⟩⟩⟩⟩⟩
theorem lw_p16 : lw_okq (⟨"NumberMachines", "draftShrink", "(LNumberMachines$Round;II)V"⟩, 5) := ⟨⟨by decide +kernel, by decide +kernel⟩, List.mem_of_getElem? (i := 13) (by decide +kernel), List.mem_of_getElem? (i := 337) (by decide +kernel), List.mem_of_getElem? (i := 338) (by decide +kernel)⟩
theorem lw_p17 : lw_okq (⟨"NumberMachines$Round", "placesBefore", "(I)I"⟩, 4) := ⟨⟨by decide +kernel, by decide +kernel⟩, List.mem_of_getElem? (i := 165) (by decide +kernel), List.mem_of_getElem? (i := 355) (by decide +kernel), List.mem_of_getElem? (i := 356) (by decide +kernel)⟩
theorem lw_p18 : lw_okq (⟨"NumberMachines$Machine", "afterAnyOf", "(J)J"⟩, 4) := ⟨⟨by decide +kernel, by decide +kernel⟩, List.mem_of_getElem? (i := 171) (by decide +kernel), List.mem_of_getElem? (i := 378) (by decide +kernel), List.mem_of_getElem? (i := 379) (by decide +kernel)⟩
theorem lw_p19 : lw_okq (⟨"NumberMachines", "noImage", "(I)Z"⟩, 5) := ⟨⟨by decide +kernel, by decide +kernel⟩, List.mem_of_getElem? (i := 13) (by decide +kernel), List.mem_of_getElem? (i := 424) (by decide +kernel), List.mem_of_getElem? (i := 425) (by decide +kernel)⟩
theorem lw_p20 : lw_okq (⟨"NumberMachines", "slotsWithNumbers", "()I"⟩, 5) := ⟨⟨by decide +kernel, by decide +kernel⟩, List.mem_of_getElem? (i := 13) (by decide +kernel), List.mem_of_getElem? (i := 447) (by decide +kernel), List.mem_of_getElem? (i := 448) (by decide +kernel)⟩
theorem lw_p21 : lw_okq (⟨"NumberMachines", "unlikeSets", "()I"⟩, 5) := ⟨⟨by decide +kernel, by decide +kernel⟩, List.mem_of_getElem? (i := 13) (by decide +kernel), List.mem_of_getElem? (i := 451) (by decide +kernel), List.mem_of_getElem? (i := 452) (by decide +kernel)⟩
theorem lw_p22 : lw_okq (⟨"NumberMachines", "heldBefore", "(I)Z"⟩, 5) := ⟨⟨by decide +kernel, by decide +kernel⟩, List.mem_of_getElem? (i := 13) (by decide +kernel), List.mem_of_getElem? (i := 455) (by decide +kernel), List.mem_of_getElem? (i := 456) (by decide +kernel)⟩
theorem lw_p23 : lw_okq (⟨"NumberMachines", "statesOfAll", "()I"⟩, 5) := ⟨⟨by decide +kernel, by decide +kernel⟩, List.mem_of_getElem? (i := 13) (by decide +kernel), List.mem_of_getElem? (i := 459) (by decide +kernel), List.mem_of_getElem? (i := 460) (by decide +kernel)⟩
theorem lw_p24 : lw_okq (⟨"NumberMachines", "imagesKept", "()I"⟩, 5) := ⟨⟨by decide +kernel, by decide +kernel⟩, List.mem_of_getElem? (i := 13) (by decide +kernel), List.mem_of_getElem? (i := 463) (by decide +kernel), List.mem_of_getElem? (i := 464) (by decide +kernel)⟩
theorem lw_p25 : lw_okq (⟨"NumberMachinesModel", "keep", "(I)I"⟩, 12) := ⟨⟨by decide +kernel, by decide +kernel⟩, List.mem_of_getElem? (i := 467) (by decide +kernel), List.mem_of_getElem? (i := 525) (by decide +kernel), List.mem_of_getElem? (i := 526) (by decide +kernel)⟩
theorem lw_p26 : lw_okq (⟨"NumberMachinesModel", "isKept", "(I)Z"⟩, 12) := ⟨⟨by decide +kernel, by decide +kernel⟩, List.mem_of_getElem? (i := 467) (by decide +kernel), List.mem_of_getElem? (i := 529) (by decide +kernel), List.mem_of_getElem? (i := 530) (by decide +kernel)⟩
theorem lw_p27 : lw_okq (⟨"NumberMachinesModel", "shorten", "()V"⟩, 12) := ⟨⟨by decide +kernel, by decide +kernel⟩, List.mem_of_getElem? (i := 467) (by decide +kernel), List.mem_of_getElem? (i := 533) (by decide +kernel), List.mem_of_getElem? (i := 534) (by decide +kernel)⟩
theorem lw_p28 : lw_okq (⟨"NumberMachinesModel", "comesRound", "(I)Z"⟩, 12) := ⟨⟨by decide +kernel, by decide +kernel⟩, List.mem_of_getElem? (i := 467) (by decide +kernel), List.mem_of_getElem? (i := 537) (by decide +kernel), List.mem_of_getElem? (i := 538) (by decide +kernel)⟩
theorem lw_p29 : lw_okq (⟨"NumberMachinesModel", "inRow", "(I)Z"⟩, 12) := ⟨⟨by decide +kernel, by decide +kernel⟩, List.mem_of_getElem? (i := 467) (by decide +kernel), List.mem_of_getElem? (i := 541) (by decide +kernel), List.mem_of_getElem? (i := 542) (by decide +kernel)⟩
theorem lw_p30 : lw_okq (⟨"NumberMachinesModel", "copy", "(II)V"⟩, 12) := ⟨⟨by decide +kernel, by decide +kernel⟩, List.mem_of_getElem? (i := 467) (by decide +kernel), List.mem_of_getElem? (i := 545) (by decide +kernel), List.mem_of_getElem? (i := 546) (by decide +kernel)⟩
theorem lw_p31 : lw_okq (⟨"NumberMachinesModel", "layMachine", "(I)V"⟩, 12) := ⟨⟨by decide +kernel, by decide +kernel⟩, List.mem_of_getElem? (i := 467) (by decide +kernel), List.mem_of_getElem? (i := 549) (by decide +kernel), List.mem_of_getElem? (i := 550) (by decide +kernel)⟩
def lw_privs_2 : List (MethodName × Nat) := [(⟨"NumberMachines", "draftShrink", "(LNumberMachines$Round;II)V"⟩, 5), (⟨"NumberMachines$Round", "placesBefore", "(I)I"⟩, 4), (⟨"NumberMachines$Machine", "afterAnyOf", "(J)J"⟩, 4), (⟨"NumberMachines", "noImage", "(I)Z"⟩, 5), (⟨"NumberMachines", "slotsWithNumbers", "()I"⟩, 5), (⟨"NumberMachines", "unlikeSets", "()I"⟩, 5), (⟨"NumberMachines", "heldBefore", "(I)Z"⟩, 5), (⟨"NumberMachines", "statesOfAll", "()I"⟩, 5), (⟨"NumberMachines", "imagesKept", "()I"⟩, 5), (⟨"NumberMachinesModel", "keep", "(I)I"⟩, 12), (⟨"NumberMachinesModel", "isKept", "(I)Z"⟩, 12), (⟨"NumberMachinesModel", "shorten", "()V"⟩, 12), (⟨"NumberMachinesModel", "comesRound", "(I)Z"⟩, 12), (⟨"NumberMachinesModel", "inRow", "(I)Z"⟩, 12), (⟨"NumberMachinesModel", "copy", "(II)V"⟩, 12), (⟨"NumberMachinesModel", "layMachine", "(I)V"⟩, 12)]
theorem lw_r2 : ∀ q ∈ lw_privs_2, lw_okq q := List.forall_mem_cons.mpr ⟨lw_p16, List.forall_mem_cons.mpr ⟨lw_p17, List.forall_mem_cons.mpr ⟨lw_p18, List.forall_mem_cons.mpr ⟨lw_p19, List.forall_mem_cons.mpr ⟨lw_p20, List.forall_mem_cons.mpr ⟨lw_p21, List.forall_mem_cons.mpr ⟨lw_p22, List.forall_mem_cons.mpr ⟨lw_p23, List.forall_mem_cons.mpr ⟨lw_p24, List.forall_mem_cons.mpr ⟨lw_p25, List.forall_mem_cons.mpr ⟨lw_p26, List.forall_mem_cons.mpr ⟨lw_p27, List.forall_mem_cons.mpr ⟨lw_p28, List.forall_mem_cons.mpr ⟨lw_p29, List.forall_mem_cons.mpr ⟨lw_p30, List.forall_mem_cons.mpr ⟨lw_p31, fun _ h => absurd h List.not_mem_nil⟩⟩⟩⟩⟩⟩⟩⟩⟩⟩⟩⟩⟩⟩⟩⟩
theorem lw_p32 : lw_okq (⟨"NumberMachinesModel", "layRest", "(III)V"⟩, 12) := ⟨⟨by decide +kernel, by decide +kernel⟩, List.mem_of_getElem? (i := 467) (by decide +kernel), List.mem_of_getElem? (i := 553) (by decide +kernel), List.mem_of_getElem? (i := 554) (by decide +kernel)⟩
theorem lw_p33 : lw_okq (⟨"NumberMachinesModel", "isIn", "(II)Z"⟩, 12) := ⟨⟨by decide +kernel, by decide +kernel⟩, List.mem_of_getElem? (i := 467) (by decide +kernel), List.mem_of_getElem? (i := 557) (by decide +kernel), List.mem_of_getElem? (i := 558) (by decide +kernel)⟩
theorem lw_p34 : lw_okq (⟨"NumberMachinesModel", "areSame", "(II)Z"⟩, 12) := ⟨⟨by decide +kernel, by decide +kernel⟩, List.mem_of_getElem? (i := 467) (by decide +kernel), List.mem_of_getElem? (i := 561) (by decide +kernel), List.mem_of_getElem? (i := 562) (by decide +kernel)⟩
theorem lw_p35 : lw_okq (⟨"NumberMachinesModel", "later", "(II)I"⟩, 12) := ⟨⟨by decide +kernel, by decide +kernel⟩, List.mem_of_getElem? (i := 467) (by decide +kernel), List.mem_of_getElem? (i := 569) (by decide +kernel), List.mem_of_getElem? (i := 570) (by decide +kernel)⟩
theorem lw_p36 : lw_okq (⟨"NumberMachinesModel", "together", "(II)I"⟩, 12) := ⟨⟨by decide +kernel, by decide +kernel⟩, List.mem_of_getElem? (i := 467) (by decide +kernel), List.mem_of_getElem? (i := 573) (by decide +kernel), List.mem_of_getElem? (i := 574) (by decide +kernel)⟩
theorem lw_p37 : lw_okq (⟨"NumberMachinesModel", "isGood", "(I)Z"⟩, 12) := ⟨⟨by decide +kernel, by decide +kernel⟩, List.mem_of_getElem? (i := 467) (by decide +kernel), List.mem_of_getElem? (i := 600) (by decide +kernel), List.mem_of_getElem? (i := 601) (by decide +kernel)⟩
theorem lw_p38 : lw_okq (⟨"NumberMachinesModel", "countUpTo", "(III)I"⟩, 12) := ⟨⟨by decide +kernel, by decide +kernel⟩, List.mem_of_getElem? (i := 467) (by decide +kernel), List.mem_of_getElem? (i := 604) (by decide +kernel), List.mem_of_getElem? (i := 605) (by decide +kernel)⟩
theorem lw_p39 : lw_okq (⟨"NumberMachinesModel", "layFar", "(Z)V"⟩, 12) := ⟨⟨by decide +kernel, by decide +kernel⟩, List.mem_of_getElem? (i := 467) (by decide +kernel), List.mem_of_getElem? (i := 612) (by decide +kernel), List.mem_of_getElem? (i := 613) (by decide +kernel)⟩
theorem lw_p40 : lw_okq (⟨"NumberMachinesModel", "allStates", "()I"⟩, 12) := ⟨⟨by decide +kernel, by decide +kernel⟩, List.mem_of_getElem? (i := 467) (by decide +kernel), List.mem_of_getElem? (i := 649) (by decide +kernel), List.mem_of_getElem? (i := 650) (by decide +kernel)⟩
def lw_privs_3 : List (MethodName × Nat) := [(⟨"NumberMachinesModel", "layRest", "(III)V"⟩, 12), (⟨"NumberMachinesModel", "isIn", "(II)Z"⟩, 12), (⟨"NumberMachinesModel", "areSame", "(II)Z"⟩, 12), (⟨"NumberMachinesModel", "later", "(II)I"⟩, 12), (⟨"NumberMachinesModel", "together", "(II)I"⟩, 12), (⟨"NumberMachinesModel", "isGood", "(I)Z"⟩, 12), (⟨"NumberMachinesModel", "countUpTo", "(III)I"⟩, 12), (⟨"NumberMachinesModel", "layFar", "(Z)V"⟩, 12), (⟨"NumberMachinesModel", "allStates", "()I"⟩, 12)]
theorem lw_r3 : ∀ q ∈ lw_privs_3, lw_okq q := List.forall_mem_cons.mpr ⟨lw_p32, List.forall_mem_cons.mpr ⟨lw_p33, List.forall_mem_cons.mpr ⟨lw_p34, List.forall_mem_cons.mpr ⟨lw_p35, List.forall_mem_cons.mpr ⟨lw_p36, List.forall_mem_cons.mpr ⟨lw_p37, List.forall_mem_cons.mpr ⟨lw_p38, List.forall_mem_cons.mpr ⟨lw_p39, List.forall_mem_cons.mpr ⟨lw_p40, fun _ h => absurd h List.not_mem_nil⟩⟩⟩⟩⟩⟩⟩⟩⟩
def lw_privs : List (MethodName × Nat) := lw_privs_1 ++ (lw_privs_2 ++ (lw_privs_3))
def lw_tbl : List Cond := k2_sels lw_privs ++ tables_1
theorem lw_privs_ok : ∀ q ∈ lw_privs, lw_okq q := by
  show ∀ q ∈ lw_privs_1 ++ (lw_privs_2 ++ (lw_privs_3)), lw_okq q
  exact List.forall_mem_append.mpr ⟨lw_r1, List.forall_mem_append.mpr ⟨lw_r2, lw_r3⟩⟩
end
section
def RX0 : String := "NumberMachines$Draft"
def TX0 : u_T := fun k => match k with
  | 0 => ("NumberMachines$Draft", "row", "[J", true)
  | 1 => ("NumberMachines$Draft", "start", "I", false)
  | _ => ("NumberMachines$Draft", "period", "I", false)
def tyX0 : Nat → FieldType := fun k => match k with
  | 0 => .array .long
  | 1 => .int
  | _ => .int
abbrev wsX00 : List Cond := u_ws RX0 TX0 3
theorem nmX0 : ∀ a, a < 3 → ∀ b, b < 3 → a ≠ b → (TX0 a).2.1 ≠ (TX0 b).2.1 := by decide +kernel
theorem tyX0_ok : ∀ k, k < 3 → parseFieldDescriptor (TX0 k).2.2.1 = some (tyX0 k) := by decide +kernel
abbrev cX0_init : ByteArray := prog_2_method_1_code
def yX0_init : MethodName := ⟨RX0, "<init>", "()V"⟩
abbrev cX0_open : ByteArray := prog_2_method_2_code
def yX0_open : MethodName := ⟨RX0, "open", "(II)V"⟩
abbrev cX0_length : ByteArray := prog_2_method_3_code
def yX0_length : MethodName := ⟨RX0, "length", "()I"⟩
abbrev cX0_mark : ByteArray := prog_2_method_4_code
def yX0_mark : MethodName := ⟨RX0, "mark", "(I)V"⟩
abbrev cX0_reduce : ByteArray := prog_2_method_5_code
def yX0_reduce : MethodName := ⟨RX0, "reduce", "()Z"⟩
abbrev cX0_leastPeriod : ByteArray := prog_2_method_6_code
def yX0_leastPeriod : MethodName := ⟨RX0, "leastPeriod", "()I"⟩
abbrev cX0_comesRoundBy : ByteArray := prog_2_method_7_code
def yX0_comesRoundBy : MethodName := ⟨RX0, "comesRoundBy", "(I)Z"⟩
abbrev cX0_leastStart : ByteArray := prog_2_method_8_code
def yX0_leastStart : MethodName := ⟨RX0, "leastStart", "()I"⟩
abbrev cX0_clearBehind : ByteArray := prog_2_method_9_code
def yX0_clearBehind : MethodName := ⟨RX0, "clearBehind", "()V"⟩
def RX1 : String := "NumberMachines$Image"
def TX1 : u_T := fun k => match k with
  | 0 => ("NumberMachines$Image", "sets", "[LNumberMachines$Round;", true)
  | 1 => ("NumberMachines$Image", "keptBase", "I", false)
  | _ => ("NumberMachines$Image", "kept", "Z", false)
def tyX1 : Nat → FieldType := fun k => match k with
  | 0 => .array (.object "NumberMachines$Round")
  | 1 => .int
  | _ => .boolean
abbrev wsX10 : List Cond := u_ws RX1 TX1 3
theorem nmX1 : ∀ a, a < 3 → ∀ b, b < 3 → a ≠ b → (TX1 a).2.1 ≠ (TX1 b).2.1 := by decide +kernel
theorem tyX1_ok : ∀ k, k < 3 → parseFieldDescriptor (TX1 k).2.2.1 = some (tyX1 k) := by decide +kernel
abbrev cX1_init : ByteArray := prog_3_method_1_code
def yX1_init : MethodName := ⟨RX1, "<init>", "()V"⟩
abbrev cX1_keep : ByteArray := prog_3_method_2_code
def yX1_keep : MethodName := ⟨RX1, "keep", "([LNumberMachines$Round;I)V"⟩
abbrev cX1_giveBack : ByteArray := prog_3_method_3_code
def yX1_giveBack : MethodName := ⟨RX1, "giveBack", "([LNumberMachines$Round;)I"⟩
abbrev cX1_copySets : ByteArray := prog_3_method_4_code
def yX1_copySets : MethodName := ⟨RX1, "copySets", "([LNumberMachines$Round;[LNumberMachines$Round;)V"⟩
def RX2 : String := "NumberMachines$Machine"
def TX2 : u_T := fun k => match k with
  | 0 => ("NumberMachines$Machine", "base", "I", true)
  | 1 => ("NumberMachines$Machine", "states", "I", true)
  | 2 => ("NumberMachines$Machine", "goes", "[I", true)
  | _ => ("NumberMachines$Machine", "good", "J", true)
def tyX2 : Nat → FieldType := fun k => match k with
  | 0 => .int
  | 1 => .int
  | 2 => .array .int
  | _ => .long
abbrev wsX20 : List Cond := u_ws RX2 TX2 4
theorem nmX2 : ∀ a, a < 4 → ∀ b, b < 4 → a ≠ b → (TX2 a).2.1 ≠ (TX2 b).2.1 := by decide +kernel
theorem tyX2_ok : ∀ k, k < 4 → parseFieldDescriptor (TX2 k).2.2.1 = some (tyX2 k) := by decide +kernel
abbrev cX2_init : ByteArray := prog_4_method_1_code
def yX2_init : MethodName := ⟨RX2, "<init>", "(II[IJ)V"⟩
abbrev cX2_after : ByteArray := prog_4_method_2_code
def yX2_after : MethodName := ⟨RX2, "after", "(II)I"⟩
abbrev cX2_isGood : ByteArray := prog_4_method_3_code
def yX2_isGood : MethodName := ⟨RX2, "isGood", "(I)Z"⟩
abbrev cX2_read : ByteArray := prog_4_method_4_code
def yX2_read : MethodName := ⟨RX2, "read", "(II)I"⟩
abbrev cX2_steps : ByteArray := prog_4_method_5_code
def yX2_steps : MethodName := ⟨RX2, "steps", "(JJ)I"⟩
abbrev cX2_afterAnyOf : ByteArray := prog_4_method_6_code
def yX2_afterAnyOf : MethodName := ⟨RX2, "afterAnyOf", "(J)J"⟩
def RX3 : String := "NumberMachines$Round"
def TX3 : u_T := fun k => match k with
  | 0 => ("NumberMachines$Round", "start", "I", true)
  | 1 => ("NumberMachines$Round", "period", "I", true)
  | 2 => ("NumberMachines$Round", "row", "[J", true)
  | _ => ("NumberMachines$Round", "machine", "LNumberMachines$Machine;", true)
def tyX3 : Nat → FieldType := fun k => match k with
  | 0 => .int
  | 1 => .int
  | 2 => .array .long
  | _ => .object "NumberMachines$Machine"
abbrev wsX30 : List Cond := u_ws RX3 TX3 4
theorem nmX3 : ∀ a, a < 4 → ∀ b, b < 4 → a ≠ b → (TX3 a).2.1 ≠ (TX3 b).2.1 := by decide +kernel
theorem tyX3_ok : ∀ k, k < 4 → parseFieldDescriptor (TX3 k).2.2.1 = some (tyX3 k) := by decide +kernel
abbrev cX3_init : ByteArray := prog_5_method_1_code
def yX3_init : MethodName := ⟨RX3, "<init>", "(LNumberMachines$Draft;LNumberMachines$Machine;)V"⟩
abbrev cX3_holds : ByteArray := prog_5_method_2_code
def yX3_holds : MethodName := ⟨RX3, "holds", "(I)Z"⟩
abbrev cX3_at : ByteArray := prog_5_method_3_code
def yX3_at : MethodName := ⟨RX3, "at", "(I)Z"⟩
abbrev cX3_placeAfter : ByteArray := prog_5_method_4_code
def yX3_placeAfter : MethodName := ⟨RX3, "placeAfter", "(I)I"⟩
abbrev cX3_leastFrom : ByteArray := prog_5_method_5_code
def yX3_leastFrom : MethodName := ⟨RX3, "leastFrom", "(I)I"⟩
abbrev cX3_numbersBefore : ByteArray := prog_5_method_6_code
def yX3_numbersBefore : MethodName := ⟨RX3, "numbersBefore", "(I)I"⟩
abbrev cX3_placesBefore : ByteArray := prog_5_method_7_code
def yX3_placesBefore : MethodName := ⟨RX3, "placesBefore", "(I)I"⟩
abbrev cX3_sameAs : ByteArray := prog_5_method_8_code
def yX3_sameAs : MethodName := ⟨RX3, "sameAs", "(LNumberMachines$Round;)Z"⟩
def RX4 : String := "NumberMachines$Tracer"
def TX4 : u_T := fun k => match k with
  | 0 => ("NumberMachines$Tracer", "rows", "[J", true)
  | 1 => ("NumberMachines$Tracer", "goes", "[I", true)
  | 2 => ("NumberMachines$Tracer", "base", "I", false)
  | 3 => ("NumberMachines$Tracer", "start", "I", false)
  | 4 => ("NumberMachines$Tracer", "period", "I", false)
  | _ => ("NumberMachines$Tracer", "found", "I", false)
def tyX4 : Nat → FieldType := fun k => match k with
  | 0 => .array .long
  | 1 => .array .int
  | 2 => .int
  | 3 => .int
  | 4 => .int
  | _ => .int
abbrev wsX40 : List Cond := u_ws RX4 TX4 6
theorem nmX4 : ∀ a, a < 6 → ∀ b, b < 6 → a ≠ b → (TX4 a).2.1 ≠ (TX4 b).2.1 := by decide +kernel
theorem tyX4_ok : ∀ k, k < 6 → parseFieldDescriptor (TX4 k).2.2.1 = some (tyX4 k) := by decide +kernel
abbrev cX4_init : ByteArray := prog_6_method_1_code
def yX4_init : MethodName := ⟨RX4, "<init>", "()V"⟩
abbrev cX4_trace : ByteArray := prog_6_method_2_code
def yX4_trace : MethodName := ⟨RX4, "trace", "(LNumberMachines$Draft;I)Z"⟩
abbrev cX4_machine : ByteArray := prog_6_method_3_code
def yX4_machine : MethodName := ⟨RX4, "machine", "()LNumberMachines$Machine;"⟩
abbrev cX4_writeRest : ByteArray := prog_6_method_4_code
def yX4_writeRest : MethodName := ⟨RX4, "writeRest", "(II)V"⟩
abbrev cX4_metAs : ByteArray := prog_6_method_5_code
def yX4_metAs : MethodName := ⟨RX4, "metAs", "()I"⟩
abbrev cX4_sameRows : ByteArray := prog_6_method_6_code
def yX4_sameRows : MethodName := ⟨RX4, "sameRows", "(II)Z"⟩
def RX5 : String := "NumberMachines"
def TX5 : u_T := fun k => match k with
  | 0 => ("NumberMachines", "slots", "[LNumberMachines$Round;", true)
  | 1 => ("NumberMachines", "images", "[LNumberMachines$Image;", true)
  | 2 => ("NumberMachines", "draft", "LNumberMachines$Draft;", true)
  | 3 => ("NumberMachines", "tracer", "LNumberMachines$Tracer;", true)
  | _ => ("NumberMachines", "base", "I", false)
def tyX5 : Nat → FieldType := fun k => match k with
  | 0 => .array (.object "NumberMachines$Round")
  | 1 => .array (.object "NumberMachines$Image")
  | 2 => .object "NumberMachines$Draft"
  | 3 => .object "NumberMachines$Tracer"
  | _ => .int
abbrev wsX50 : List Cond := u_ws RX5 TX5 5
theorem nmX5 : ∀ a, a < 5 → ∀ b, b < 5 → a ≠ b → (TX5 a).2.1 ≠ (TX5 b).2.1 := by decide +kernel
theorem tyX5_ok : ∀ k, k < 5 → parseFieldDescriptor (TX5 k).2.2.1 = some (tyX5 k) := by decide +kernel
abbrev cX5_init : ByteArray := prog_1_method_1_code
def yX5_init : MethodName := ⟨RX5, "<init>", "()V"⟩
abbrev cX5_base : ByteArray := prog_1_method_2_code
def yX5_base : MethodName := ⟨RX5, "base", "(I)I"⟩
abbrev cX5_put : ByteArray := prog_1_method_3_code
def yX5_put : MethodName := ⟨RX5, "put", "(IIII)I"⟩
abbrev cX5_join : ByteArray := prog_1_method_4_code
def yX5_join : MethodName := ⟨RX5, "join", "(IIII)I"⟩
abbrev cX5_turn : ByteArray := prog_1_method_5_code
def yX5_turn : MethodName := ⟨RX5, "turn", "(II)I"⟩
abbrev cX5_shift : ByteArray := prog_1_method_6_code
def yX5_shift : MethodName := ⟨RX5, "shift", "(III)I"⟩
abbrev cX5_stretch : ByteArray := prog_1_method_7_code
def yX5_stretch : MethodName := ⟨RX5, "stretch", "(IIII)I"⟩
abbrev cX5_shrink : ByteArray := prog_1_method_8_code
def yX5_shrink : MethodName := ⟨RX5, "shrink", "(IIII)I"⟩
abbrev cX5_told : ByteArray := prog_1_method_9_code
def yX5_told : MethodName := ⟨RX5, "told", "(II)I"⟩
abbrev cX5_state : ByteArray := prog_1_method_10_code
def yX5_state : MethodName := ⟨RX5, "state", "(III)I"⟩
abbrev cX5_walk : ByteArray := prog_1_method_11_code
def yX5_walk : MethodName := ⟨RX5, "walk", "(III)I"⟩
abbrev cX5_has : ByteArray := prog_1_method_12_code
def yX5_has : MethodName := ⟨RX5, "has", "(II)I"⟩
abbrev cX5_next : ByteArray := prog_1_method_13_code
def yX5_next : MethodName := ⟨RX5, "next", "(II)I"⟩
abbrev cX5_below : ByteArray := prog_1_method_14_code
def yX5_below : MethodName := ⟨RX5, "below", "(II)I"⟩
abbrev cX5_alike : ByteArray := prog_1_method_15_code
def yX5_alike : MethodName := ⟨RX5, "alike", "(III)I"⟩
abbrev cX5_image : ByteArray := prog_1_method_16_code
def yX5_image : MethodName := ⟨RX5, "image", "(I)I"⟩
abbrev cX5_restore : ByteArray := prog_1_method_17_code
def yX5_restore : MethodName := ⟨RX5, "restore", "(I)I"⟩
abbrev cX5_count : ByteArray := prog_1_method_18_code
def yX5_count : MethodName := ⟨RX5, "count", "(I)I"⟩
abbrev cX5_unknown : ByteArray := prog_1_method_19_code
def yX5_unknown : MethodName := ⟨RX5, "unknown", "(I)Z"⟩
abbrev cX5_noImage : ByteArray := prog_1_method_20_code
def yX5_noImage : MethodName := ⟨RX5, "noImage", "(I)Z"⟩
abbrev cX5_within : ByteArray := prog_1_method_21_code
def yX5_within : MethodName := ⟨RX5, "within", "(III)Z"⟩
abbrev cX5_truth : ByteArray := prog_1_method_22_code
def yX5_truth : MethodName := ⟨RX5, "truth", "(Z)I"⟩
abbrev cX5_emptyAll : ByteArray := prog_1_method_23_code
def yX5_emptyAll : MethodName := ⟨RX5, "emptyAll", "(I)V"⟩
abbrev cX5_hold : ByteArray := prog_1_method_24_code
def yX5_hold : MethodName := ⟨RX5, "hold", "(I)I"⟩
abbrev cX5_drafted : ByteArray := prog_1_method_25_code
def yX5_drafted : MethodName := ⟨RX5, "drafted", "()LNumberMachines$Round;"⟩
abbrev cX5_draftKind : ByteArray := prog_1_method_26_code
def yX5_draftKind : MethodName := ⟨RX5, "draftKind", "(III)V"⟩
abbrev cX5_draftJoin : ByteArray := prog_1_method_27_code
def yX5_draftJoin : MethodName := ⟨RX5, "draftJoin", "(LNumberMachines$Round;LNumberMachines$Round;I)V"⟩
abbrev cX5_draftTurn : ByteArray := prog_1_method_28_code
def yX5_draftTurn : MethodName := ⟨RX5, "draftTurn", "(LNumberMachines$Round;)V"⟩
abbrev cX5_draftShift : ByteArray := prog_1_method_29_code
def yX5_draftShift : MethodName := ⟨RX5, "draftShift", "(LNumberMachines$Round;I)V"⟩
abbrev cX5_draftStretch : ByteArray := prog_1_method_30_code
def yX5_draftStretch : MethodName := ⟨RX5, "draftStretch", "(LNumberMachines$Round;II)V"⟩
abbrev cX5_draftShrink : ByteArray := prog_1_method_31_code
def yX5_draftShrink : MethodName := ⟨RX5, "draftShrink", "(LNumberMachines$Round;II)V"⟩
abbrev cX5_joined : ByteArray := prog_1_method_32_code
def yX5_joined : MethodName := ⟨RX5, "joined", "(ZZI)Z"⟩
abbrev cX5_leastJoined : ByteArray := prog_1_method_33_code
def yX5_leastJoined : MethodName := ⟨RX5, "leastJoined", "(LNumberMachines$Round;LNumberMachines$Round;I)I"⟩
abbrev cX5_leastCommon : ByteArray := prog_1_method_34_code
def yX5_leastCommon : MethodName := ⟨RX5, "leastCommon", "(II)I"⟩
abbrev cX5_slotsWithNumbers : ByteArray := prog_1_method_35_code
def yX5_slotsWithNumbers : MethodName := ⟨RX5, "slotsWithNumbers", "()I"⟩
abbrev cX5_unlikeSets : ByteArray := prog_1_method_36_code
def yX5_unlikeSets : MethodName := ⟨RX5, "unlikeSets", "()I"⟩
abbrev cX5_heldBefore : ByteArray := prog_1_method_37_code
def yX5_heldBefore : MethodName := ⟨RX5, "heldBefore", "(I)Z"⟩
abbrev cX5_statesOfAll : ByteArray := prog_1_method_38_code
def yX5_statesOfAll : MethodName := ⟨RX5, "statesOfAll", "()I"⟩
abbrev cX5_imagesKept : ByteArray := prog_1_method_39_code
def yX5_imagesKept : MethodName := ⟨RX5, "imagesKept", "()I"⟩
abbrev cX5_folded : ByteArray := prog_1_method_40_code
def yX5_folded : MethodName := ⟨RX5, "folded", "(III)I"⟩
abbrev cX5_bit : ByteArray := prog_1_method_41_code
def yX5_bit : MethodName := ⟨RX5, "bit", "([JI)Z"⟩
abbrev cX5_setBit : ByteArray := prog_1_method_42_code
def yX5_setBit : MethodName := ⟨RX5, "setBit", "([JI)V"⟩
abbrev cX5_clearBit : ByteArray := prog_1_method_43_code
def yX5_clearBit : MethodName := ⟨RX5, "clearBit", "([JI)V"⟩
def RX6 : String := "NumberMachinesModel"
def TX6 : u_T := fun k => match k with
  | 0 => ("NumberMachinesModel", "base", "I", false)
  | 1 => ("NumberMachinesModel", "starts", "[I", true)
  | 2 => ("NumberMachinesModel", "periods", "[I", true)
  | 3 => ("NumberMachinesModel", "bits", "[J", true)
  | 4 => ("NumberMachinesModel", "row", "[Z", true)
  | 5 => ("NumberMachinesModel", "from", "I", false)
  | 6 => ("NumberMachinesModel", "by", "I", false)
  | 7 => ("NumberMachinesModel", "goes", "[I", true)
  | 8 => ("NumberMachinesModel", "states", "I", false)
  | 9 => ("NumberMachinesModel", "far", "[I", true)
  | 10 => ("NumberMachinesModel", "bases", "[I", true)
  | _ => ("NumberMachinesModel", "isThere", "[Z", true)
def tyX6 : Nat → FieldType := fun k => match k with
  | 0 => .int
  | 1 => .array .int
  | 2 => .array .int
  | 3 => .array .long
  | 4 => .array .boolean
  | 5 => .int
  | 6 => .int
  | 7 => .array .int
  | 8 => .int
  | 9 => .array .int
  | 10 => .array .int
  | _ => .array .boolean
abbrev wsX60 : List Cond := u_ws RX6 TX6 12
theorem nmX6 : ∀ a, a < 12 → ∀ b, b < 12 → a ≠ b → (TX6 a).2.1 ≠ (TX6 b).2.1 := by decide +kernel
theorem tyX6_ok : ∀ k, k < 12 → parseFieldDescriptor (TX6 k).2.2.1 = some (tyX6 k) := by decide +kernel
abbrev cX6_init : ByteArray := prog_8_method_1_code
def yX6_init : MethodName := ⟨RX6, "<init>", "()V"⟩
abbrev cX6_in : ByteArray := prog_8_method_2_code
def yX6_in : MethodName := ⟨RX6, "in", "(III)Z"⟩
abbrev cX6_isSlot : ByteArray := prog_8_method_3_code
def yX6_isSlot : MethodName := ⟨RX6, "isSlot", "(I)Z"⟩
abbrev cX6_isIn : ByteArray := prog_8_method_4_code
def yX6_isIn : MethodName := ⟨RX6, "isIn", "(II)Z"⟩
abbrev cX6_copy : ByteArray := prog_8_method_5_code
def yX6_copy : MethodName := ⟨RX6, "copy", "(II)V"⟩
abbrev cX6_areSame : ByteArray := prog_8_method_6_code
def yX6_areSame : MethodName := ⟨RX6, "areSame", "(II)Z"⟩
abbrev cX6_inRow : ByteArray := prog_8_method_7_code
def yX6_inRow : MethodName := ⟨RX6, "inRow", "(I)Z"⟩
abbrev cX6_shorten : ByteArray := prog_8_method_8_code
def yX6_shorten : MethodName := ⟨RX6, "shorten", "()V"⟩
abbrev cX6_comesRound : ByteArray := prog_8_method_9_code
def yX6_comesRound : MethodName := ⟨RX6, "comesRound", "(I)Z"⟩
abbrev cX6_isKept : ByteArray := prog_8_method_10_code
def yX6_isKept : MethodName := ⟨RX6, "isKept", "(I)Z"⟩
abbrev cX6_layRest : ByteArray := prog_8_method_11_code
def yX6_layRest : MethodName := ⟨RX6, "layRest", "(III)V"⟩
abbrev cX6_layMachine : ByteArray := prog_8_method_12_code
def yX6_layMachine : MethodName := ⟨RX6, "layMachine", "(I)V"⟩
abbrev cX6_keep : ByteArray := prog_8_method_13_code
def yX6_keep : MethodName := ⟨RX6, "keep", "(I)I"⟩
abbrev cX6_base : ByteArray := prog_8_method_14_code
def yX6_base : MethodName := ⟨RX6, "base", "(I)I"⟩
abbrev cX6_put : ByteArray := prog_8_method_15_code
def yX6_put : MethodName := ⟨RX6, "put", "(IIII)I"⟩
abbrev cX6_common : ByteArray := prog_8_method_16_code
def yX6_common : MethodName := ⟨RX6, "common", "(II)I"⟩
abbrev cX6_together : ByteArray := prog_8_method_17_code
def yX6_together : MethodName := ⟨RX6, "together", "(II)I"⟩
abbrev cX6_later : ByteArray := prog_8_method_18_code
def yX6_later : MethodName := ⟨RX6, "later", "(II)I"⟩
abbrev cX6_join : ByteArray := prog_8_method_19_code
def yX6_join : MethodName := ⟨RX6, "join", "(IIII)I"⟩
abbrev cX6_turn : ByteArray := prog_8_method_20_code
def yX6_turn : MethodName := ⟨RX6, "turn", "(II)I"⟩
abbrev cX6_shift : ByteArray := prog_8_method_21_code
def yX6_shift : MethodName := ⟨RX6, "shift", "(III)I"⟩
abbrev cX6_stretch : ByteArray := prog_8_method_22_code
def yX6_stretch : MethodName := ⟨RX6, "stretch", "(IIII)I"⟩
abbrev cX6_shrink : ByteArray := prog_8_method_23_code
def yX6_shrink : MethodName := ⟨RX6, "shrink", "(IIII)I"⟩
abbrev cX6_countUpTo : ByteArray := prog_8_method_24_code
def yX6_countUpTo : MethodName := ⟨RX6, "countUpTo", "(III)I"⟩
abbrev cX6_isGood : ByteArray := prog_8_method_25_code
def yX6_isGood : MethodName := ⟨RX6, "isGood", "(I)Z"⟩
abbrev cX6_told : ByteArray := prog_8_method_26_code
def yX6_told : MethodName := ⟨RX6, "told", "(II)I"⟩
abbrev cX6_layFar : ByteArray := prog_8_method_27_code
def yX6_layFar : MethodName := ⟨RX6, "layFar", "(Z)V"⟩
abbrev cX6_state : ByteArray := prog_8_method_28_code
def yX6_state : MethodName := ⟨RX6, "state", "(III)I"⟩
abbrev cX6_walk : ByteArray := prog_8_method_29_code
def yX6_walk : MethodName := ⟨RX6, "walk", "(III)I"⟩
abbrev cX6_has : ByteArray := prog_8_method_30_code
def yX6_has : MethodName := ⟨RX6, "has", "(II)I"⟩
abbrev cX6_next : ByteArray := prog_8_method_31_code
def yX6_next : MethodName := ⟨RX6, "next", "(II)I"⟩
abbrev cX6_below : ByteArray := prog_8_method_32_code
def yX6_below : MethodName := ⟨RX6, "below", "(II)I"⟩
abbrev cX6_alike : ByteArray := prog_8_method_33_code
def yX6_alike : MethodName := ⟨RX6, "alike", "(III)I"⟩
abbrev cX6_image : ByteArray := prog_8_method_34_code
def yX6_image : MethodName := ⟨RX6, "image", "(I)I"⟩
abbrev cX6_restore : ByteArray := prog_8_method_35_code
def yX6_restore : MethodName := ⟨RX6, "restore", "(I)I"⟩
abbrev cX6_allStates : ByteArray := prog_8_method_36_code
def yX6_allStates : MethodName := ⟨RX6, "allStates", "()I"⟩
abbrev cX6_count : ByteArray := prog_8_method_37_code
def yX6_count : MethodName := ⟨RX6, "count", "(I)I"⟩
def RJx8e188 : String := "java/lang/Cloneable"
def TJx8e188 : u_T := fun k => match k with
  | _ => ("", "", "", false)
def tyJx8e188 : Nat → FieldType := fun k => match k with
  | _ => .int
abbrev wsJx8e1880 : List Cond := u_ws RJx8e188 TJx8e188 0
theorem nmJx8e188 : ∀ a, a < 0 → ∀ b, b < 0 → a ≠ b → (TJx8e188 a).2.1 ≠ (TJx8e188 b).2.1 := by decide +kernel
theorem tyJx8e188_ok : ∀ k, k < 0 → parseFieldDescriptor (TJx8e188 k).2.2.1 = some (tyJx8e188 k) := by decide +kernel
def RJ13 : String := "java/lang/Long"
def TJ13 : u_T := fun k => match k with
  | _ => ("", "", "", false)
def tyJ13 : Nat → FieldType := fun k => match k with
  | _ => .int
abbrev wsJ130 : List Cond := u_ws RJ13 TJ13 0
theorem nmJ13 : ∀ a, a < 0 → ∀ b, b < 0 → a ≠ b → (TJ13 a).2.1 ≠ (TJ13 b).2.1 := by decide +kernel
theorem tyJ13_ok : ∀ k, k < 0 → parseFieldDescriptor (TJ13 k).2.2.1 = some (tyJ13 k) := by decide +kernel
abbrev cJ13_bitCount_95d88 : ByteArray := prog_10_method_50_code
def yJ13_bitCount_95d88 : MethodName := ⟨RJ13, "bitCount", "(J)I"⟩
def RJ9 : String := "java/lang/Math"
def TJ9 : u_T := fun k => match k with
  | _ => ("", "", "", false)
def tyJ9 : Nat → FieldType := fun k => match k with
  | _ => .int
abbrev wsJ90 : List Cond := u_ws RJ9 TJ9 0
theorem nmJ9 : ∀ a, a < 0 → ∀ b, b < 0 → a ≠ b → (TJ9 a).2.1 ≠ (TJ9 b).2.1 := by decide +kernel
theorem tyJ9_ok : ∀ k, k < 0 → parseFieldDescriptor (TJ9 k).2.2.1 = some (tyJ9 k) := by decide +kernel
abbrev cJ9_max_7cf53 : ByteArray := prog_11_method_65_code
def yJ9_max_7cf53 : MethodName := ⟨RJ9, "max", "(II)I"⟩
abbrev cJ9_min_7cf53 : ByteArray := prog_11_method_69_code
def yJ9_min_7cf53 : MethodName := ⟨RJ9, "min", "(II)I"⟩
def RJ10 : String := "java/lang/System"
def TJ10 : u_T := fun k => match k with
  | _ => ("", "", "", false)
def tyJ10 : Nat → FieldType := fun k => match k with
  | _ => .int
abbrev wsJ100 : List Cond := u_ws RJ10 TJ10 0
theorem nmJ10 : ∀ a, a < 0 → ∀ b, b < 0 → a ≠ b → (TJ10 a).2.1 ≠ (TJ10 b).2.1 := by decide +kernel
theorem tyJ10_ok : ∀ k, k < 0 → parseFieldDescriptor (TJ10 k).2.2.1 = some (tyJ10 k) := by decide +kernel
def RJ7 : String := "java/util/Arrays"
def TJ7 : u_T := fun k => match k with
  | _ => ("", "", "", false)
def tyJ7 : Nat → FieldType := fun k => match k with
  | _ => .int
abbrev wsJ70 : List Cond := u_ws RJ7 TJ7 0
theorem nmJ7 : ∀ a, a < 0 → ∀ b, b < 0 → a ≠ b → (TJ7 a).2.1 ≠ (TJ7 b).2.1 := by decide +kernel
theorem tyJ7_ok : ∀ k, k < 0 → parseFieldDescriptor (TJ7 k).2.2.1 = some (tyJ7 k) := by decide +kernel
abbrev cJ7_fill_d0a16 : ByteArray := prog_13_method_101_code
def yJ7_fill_d0a16 : MethodName := ⟨RJ7, "fill", "([JJ)V"⟩
abbrev cJ7_copyOf_59c91 : ByteArray := prog_13_method_123_code
def yJ7_copyOf_59c91 : MethodName := ⟨RJ7, "copyOf", "([II)[I"⟩
abbrev cJ7_copyOf_c38d5 : ByteArray := prog_13_method_124_code
def yJ7_copyOf_c38d5 : MethodName := ⟨RJ7, "copyOf", "([JI)[J"⟩
def RL : String := "NumberMachinesLaw"
abbrev cL_law : ByteArray := code
def yL_law : MethodName := ⟨RL, "law", "([I)Z"⟩
abbrev vwCl : List vw_C := [(RX0, TX0, 3), (RX1, TX1, 3), (RX2, TX2, 4), (RX3, TX3, 4), (RX4, TX4, 6), (RX5, TX5, 5), (RX6, TX6, 12)]
end
section
def wsL_law : List Cond := lw_tbl.filter goodWord
theorem wmk {w : Cond} (h : w ∈ tables_1) (hg : goodWord w = true) : w ∈ wsL_law := List.mem_filter.mpr ⟨List.mem_append_right _ h, hg⟩
theorem wms {w : Cond} (h : w ∈ k2_sels lw_privs) (hg : goodWord w = true) : w ∈ wsL_law := List.mem_filter.mpr ⟨List.mem_append_left _ h, hg⟩
theorem wm1 {w : Cond} (h : w ∈ tables_1_1) (hg : goodWord w = true) : w ∈ wsL_law := wmk (List.mem_append_left _ h) hg
theorem wm2 {w : Cond} (h : w ∈ tables_1_2) (hg : goodWord w = true) : w ∈ wsL_law := wmk (List.mem_append_right _ (List.mem_append_left _ h)) hg
theorem wm3 {w : Cond} (h : w ∈ tables_1_3) (hg : goodWord w = true) : w ∈ wsL_law := wmk (List.mem_append_right _ (List.mem_append_right _ h)) hg
theorem wsL_in : ∀ w ∈ wsL_law, w ∈ lw_tbl := fun w h => (List.mem_filter.mp h).1
theorem wsL_good {w : Cond} (h : w ∈ wsL_law) : (w.onTables && w.keeps) = true ∨ ∃ ty, w = .arrayClass ty := good_of_word (List.mem_filter.mp h).2
theorem w1_0 : Cond.initialized RL ∈ wsL_law := wm1 (List.mem_of_getElem? (i := 0) rfl) rfl
theorem w1_1 : Cond.initialized RX5 ∈ wsL_law := wm1 (List.mem_of_getElem? (i := 1) rfl) rfl
theorem w1_2 : Cond.initialized RX0 ∈ wsL_law := wm1 (List.mem_of_getElem? (i := 2) rfl) rfl
theorem w1_3 : Cond.initialized RX4 ∈ wsL_law := wm1 (List.mem_of_getElem? (i := 3) rfl) rfl
theorem w1_4 : Cond.initialized RX1 ∈ wsL_law := wm1 (List.mem_of_getElem? (i := 4) rfl) rfl
theorem w1_5 : Cond.initialized "java/lang/Math" ∈ wsL_law := wm1 (List.mem_of_getElem? (i := 5) rfl) rfl
theorem w1_6 : Cond.initialized RJ7 ∈ wsL_law := wm1 (List.mem_of_getElem? (i := 6) rfl) rfl
theorem w1_7 : Cond.initialized "java/lang/System" ∈ wsL_law := wm1 (List.mem_of_getElem? (i := 7) rfl) rfl
theorem w1_8 : Cond.initialized RX3 ∈ wsL_law := wm1 (List.mem_of_getElem? (i := 8) rfl) rfl
theorem w1_9 : Cond.initialized RX2 ∈ wsL_law := wm1 (List.mem_of_getElem? (i := 9) rfl) rfl
theorem w1_10 : Cond.initialized RX6 ∈ wsL_law := wm1 (List.mem_of_getElem? (i := 10) rfl) rfl
theorem w1_11 : Cond.initialized RJ13 ∈ wsL_law := wm1 (List.mem_of_getElem? (i := 11) rfl) rfl
theorem w1_12 : Cond.classLink RL 7 RX5 ∈ wsL_law := wm1 (List.mem_of_getElem? (i := 12) rfl) rfl
theorem w1_13 : Cond.instantiable RX5 5 ∈ wsL_law := wm1 (List.mem_of_getElem? (i := 13) rfl) rfl
theorem w1_14 : Cond.methodLink RL 9 yX5_init ∈ wsL_law := wm1 (List.mem_of_getElem? (i := 14) rfl) rfl
theorem w1_15 : Cond.instanceMethod yX5_init ∈ wsL_law := wm1 (List.mem_of_getElem? (i := 15) rfl) rfl
theorem w1_16 : Cond.code yX5_init cX5_init 2 none ∈ wsL_law := wm1 (List.mem_of_getElem? (i := 16) rfl) rfl
theorem w1_17 : Cond.methodLink RX5 3 objectInit ∈ wsL_law := wm1 (List.mem_of_getElem? (i := 17) rfl) rfl
theorem w1_18 : Cond.instanceMethod objectInit ∈ wsL_law := wm1 (List.mem_of_getElem? (i := 18) rfl) rfl
theorem w1_19 : Cond.code objectInit ⟨#[0xb1]⟩ 1 none ∈ wsL_law := wm1 (List.mem_of_getElem? (i := 19) rfl) rfl
theorem w1_20 : Cond.classLink RX5 9 RX3 ∈ wsL_law := wm1 (List.mem_of_getElem? (i := 20) rfl) rfl
theorem w1_22 : Cond.classLink RX5 15 RX1 ∈ wsL_law := wm1 (List.mem_of_getElem? (i := 22) rfl) rfl
theorem w1_24 : Cond.classLink RX5 21 RX0 ∈ wsL_law := wm1 (List.mem_of_getElem? (i := 24) rfl) rfl
theorem w1_25 : Cond.instantiable RX0 3 ∈ wsL_law := wm1 (List.mem_of_getElem? (i := 25) rfl) rfl
theorem w1_27 : Cond.instanceMethod yX0_init ∈ wsL_law := wm1 (List.mem_of_getElem? (i := 27) rfl) rfl
theorem w1_28 : Cond.code yX0_init cX0_init 1 none ∈ wsL_law := wm1 (List.mem_of_getElem? (i := 28) rfl) rfl
theorem w1_29 : Cond.methodLink RX0 3 objectInit ∈ wsL_law := wm1 (List.mem_of_getElem? (i := 29) rfl) rfl
theorem w1_30 : Cond.fieldLink RX0 9 "NumberMachines$Draft" "row" "[J" ∈ wsL_law := wm1 (List.mem_of_getElem? (i := 30) rfl) rfl
theorem w1_35 : Cond.fieldLink RX0 21 "NumberMachines$Draft" "start" "I" ∈ wsL_law := wm1 (List.mem_of_getElem? (i := 35) rfl) rfl
theorem w1_38 : Cond.fieldLink RX0 25 "NumberMachines$Draft" "period" "I" ∈ wsL_law := wm1 (List.mem_of_getElem? (i := 38) rfl) rfl
theorem w1_39 : Cond.laysFinal RX0 "NumberMachines$Draft" "row" "[J" ∈ wsL_law := wm1 (List.mem_of_getElem? (i := 39) rfl) rfl
theorem w1_41 : Cond.lays RX0 "NumberMachines$Draft" "start" "I" ∈ wsL_law := wm1 (List.mem_of_getElem? (i := 41) rfl) rfl
theorem w1_43 : Cond.lays RX0 "NumberMachines$Draft" "period" "I" ∈ wsL_law := wm1 (List.mem_of_getElem? (i := 43) rfl) rfl
theorem w1_46 : Cond.arrayClass FieldType.long ∈ wsL_law := wm1 (List.mem_of_getElem? (i := 46) rfl) rfl
theorem w1_47 : Cond.classLink RX5 28 RX4 ∈ wsL_law := wm1 (List.mem_of_getElem? (i := 47) rfl) rfl
theorem w1_48 : Cond.instantiable RX4 6 ∈ wsL_law := wm1 (List.mem_of_getElem? (i := 48) rfl) rfl
theorem w1_50 : Cond.instanceMethod yX4_init ∈ wsL_law := wm1 (List.mem_of_getElem? (i := 50) rfl) rfl
theorem w1_51 : Cond.code yX4_init cX4_init 1 none ∈ wsL_law := wm1 (List.mem_of_getElem? (i := 51) rfl) rfl
theorem w1_52 : Cond.methodLink RX4 3 objectInit ∈ wsL_law := wm1 (List.mem_of_getElem? (i := 52) rfl) rfl
theorem w1_53 : Cond.fieldLink RX4 9 "NumberMachines$Tracer" "rows" "[J" ∈ wsL_law := wm1 (List.mem_of_getElem? (i := 53) rfl) rfl
theorem w1_54 : Cond.fieldLink RX4 15 "NumberMachines$Tracer" "goes" "[I" ∈ wsL_law := wm1 (List.mem_of_getElem? (i := 54) rfl) rfl
theorem w1_55 : Cond.fieldLink RX4 34 "NumberMachines$Tracer" "base" "I" ∈ wsL_law := wm1 (List.mem_of_getElem? (i := 55) rfl) rfl
theorem w1_56 : Cond.fieldLink RX4 37 "NumberMachines$Tracer" "start" "I" ∈ wsL_law := wm1 (List.mem_of_getElem? (i := 56) rfl) rfl
theorem w1_57 : Cond.fieldLink RX4 38 "NumberMachines$Tracer" "period" "I" ∈ wsL_law := wm1 (List.mem_of_getElem? (i := 57) rfl) rfl
theorem w1_58 : Cond.fieldLink RX4 48 "NumberMachines$Tracer" "found" "I" ∈ wsL_law := wm1 (List.mem_of_getElem? (i := 58) rfl) rfl
theorem w1_59 : Cond.laysFinal RX4 "NumberMachines$Tracer" "rows" "[J" ∈ wsL_law := wm1 (List.mem_of_getElem? (i := 59) rfl) rfl
theorem w1_61 : Cond.laysFinal RX4 "NumberMachines$Tracer" "goes" "[I" ∈ wsL_law := wm1 (List.mem_of_getElem? (i := 61) rfl) rfl
theorem w1_63 : Cond.lays RX4 "NumberMachines$Tracer" "base" "I" ∈ wsL_law := wm1 (List.mem_of_getElem? (i := 63) rfl) rfl
theorem w1_65 : Cond.lays RX4 "NumberMachines$Tracer" "start" "I" ∈ wsL_law := wm1 (List.mem_of_getElem? (i := 65) rfl) rfl
theorem w1_67 : Cond.lays RX4 "NumberMachines$Tracer" "period" "I" ∈ wsL_law := wm1 (List.mem_of_getElem? (i := 67) rfl) rfl
theorem w1_69 : Cond.lays RX4 "NumberMachines$Tracer" "found" "I" ∈ wsL_law := wm1 (List.mem_of_getElem? (i := 69) rfl) rfl
theorem w1_72 : Cond.arrayClass FieldType.int ∈ wsL_law := wm1 (List.mem_of_getElem? (i := 72) rfl) rfl
theorem w1_73 : Cond.instantiable RX1 3 ∈ wsL_law := wm1 (List.mem_of_getElem? (i := 73) rfl) rfl
theorem w1_75 : Cond.instanceMethod yX1_init ∈ wsL_law := wm1 (List.mem_of_getElem? (i := 75) rfl) rfl
theorem w1_76 : Cond.code yX1_init cX1_init 1 none ∈ wsL_law := wm1 (List.mem_of_getElem? (i := 76) rfl) rfl
theorem w1_77 : Cond.methodLink RX1 3 objectInit ∈ wsL_law := wm1 (List.mem_of_getElem? (i := 77) rfl) rfl
theorem w1_78 : Cond.classLink RX1 9 RX3 ∈ wsL_law := wm1 (List.mem_of_getElem? (i := 78) rfl) rfl
theorem w1_79 : Cond.fieldLink RX1 11 "NumberMachines$Image" "sets" "[LNumberMachines$Round;" ∈ wsL_law := wm1 (List.mem_of_getElem? (i := 79) rfl) rfl
theorem w1_80 : Cond.fieldLink RX1 17 "NumberMachines$Image" "keptBase" "I" ∈ wsL_law := wm1 (List.mem_of_getElem? (i := 80) rfl) rfl
theorem w1_81 : Cond.fieldLink RX1 21 "NumberMachines$Image" "kept" "Z" ∈ wsL_law := wm1 (List.mem_of_getElem? (i := 81) rfl) rfl
theorem w1_83 : Cond.laysFinal RX1 "NumberMachines$Image" "sets" "[LNumberMachines$Round;" ∈ wsL_law := wm1 (List.mem_of_getElem? (i := 83) rfl) rfl
theorem w1_85 : Cond.lays RX1 "NumberMachines$Image" "keptBase" "I" ∈ wsL_law := wm1 (List.mem_of_getElem? (i := 85) rfl) rfl
theorem w1_87 : Cond.lays RX1 "NumberMachines$Image" "kept" "Z" ∈ wsL_law := wm1 (List.mem_of_getElem? (i := 87) rfl) rfl
theorem w1_90 : Cond.methodLink RX5 36 yX5_emptyAll ∈ wsL_law := wm1 (List.mem_of_getElem? (i := 90) rfl) rfl
theorem w1_92 : Cond.instanceMethod yX5_emptyAll ∈ wsL_law := wm1 (List.mem_of_getElem? (i := 92) rfl) rfl
theorem w1_93 : Cond.code yX5_emptyAll cX5_emptyAll 4 none ∈ wsL_law := wm1 (List.mem_of_getElem? (i := 93) rfl) rfl
theorem w1_94 : Cond.methodLink RX5 168 yX0_open ∈ wsL_law := wm1 (List.mem_of_getElem? (i := 94) rfl) rfl
theorem w1_95 : Cond.instanceMethod yX0_open ∈ wsL_law := wm1 (List.mem_of_getElem? (i := 95) rfl) rfl
theorem w1_96 : Cond.selects RX0 yX0_open yX0_open ∈ wsL_law := wm1 (List.mem_of_getElem? (i := 96) rfl) rfl
theorem w1_97 : Cond.code yX0_open cX0_open 3 none ∈ wsL_law := wm1 (List.mem_of_getElem? (i := 97) rfl) rfl
theorem w1_98 : Cond.methodLink RX0 15 Lib.Math.max.name ∈ wsL_law := wm1 (List.mem_of_getElem? (i := 98) rfl) rfl
theorem w1_99 : Cond.static Lib.Math.max.name ∈ wsL_law := wm1 (List.mem_of_getElem? (i := 99) rfl) rfl
theorem w1_100 : Cond.code Lib.Math.max.name Lib.Math.max.code 2 (Option.some FieldType.int) ∈ wsL_law := wm1 (List.mem_of_getElem? (i := 100) rfl) rfl
theorem w1_101 : Cond.methodLink RX0 28 yJ7_fill_d0a16 ∈ wsL_law := wm1 (List.mem_of_getElem? (i := 101) rfl) rfl
theorem w1_102 : Cond.static yJ7_fill_d0a16 ∈ wsL_law := wm1 (List.mem_of_getElem? (i := 102) rfl) rfl
theorem w1_103 : Cond.code yJ7_fill_d0a16 cJ7_fill_d0a16 5 none ∈ wsL_law := wm1 (List.mem_of_getElem? (i := 103) rfl) rfl
theorem w1_104 : Cond.methodLink RX5 172 yX5_drafted ∈ wsL_law := wm1 (List.mem_of_getElem? (i := 104) rfl) rfl
theorem w1_106 : Cond.instanceMethod yX5_drafted ∈ wsL_law := wm1 (List.mem_of_getElem? (i := 106) rfl) rfl
theorem w1_107 : Cond.code yX5_drafted cX5_drafted 1 (Option.some (FieldType.object "NumberMachines$Round")) ∈ wsL_law := wm1 (List.mem_of_getElem? (i := 107) rfl) rfl
theorem w1_108 : Cond.methodLink RX5 176 yX0_reduce ∈ wsL_law := wm1 (List.mem_of_getElem? (i := 108) rfl) rfl
theorem w1_109 : Cond.instanceMethod yX0_reduce ∈ wsL_law := wm1 (List.mem_of_getElem? (i := 109) rfl) rfl
theorem w1_110 : Cond.selects RX0 yX0_reduce yX0_reduce ∈ wsL_law := wm1 (List.mem_of_getElem? (i := 110) rfl) rfl
theorem w1_111 : Cond.code yX0_reduce cX0_reduce 2 (Option.some FieldType.boolean) ∈ wsL_law := wm1 (List.mem_of_getElem? (i := 111) rfl) rfl
theorem w1_112 : Cond.methodLink RX0 38 yX0_leastPeriod ∈ wsL_law := wm1 (List.mem_of_getElem? (i := 112) rfl) rfl
theorem w1_114 : Cond.instanceMethod yX0_leastPeriod ∈ wsL_law := wm1 (List.mem_of_getElem? (i := 114) rfl) rfl
theorem w1_115 : Cond.code yX0_leastPeriod cX0_leastPeriod 2 (Option.some FieldType.int) ∈ wsL_law := wm1 (List.mem_of_getElem? (i := 115) rfl) rfl
theorem w1_116 : Cond.methodLink RX0 48 yX0_comesRoundBy ∈ wsL_law := wm1 (List.mem_of_getElem? (i := 116) rfl) rfl
theorem w1_118 : Cond.instanceMethod yX0_comesRoundBy ∈ wsL_law := wm1 (List.mem_of_getElem? (i := 118) rfl) rfl
theorem w1_119 : Cond.code yX0_comesRoundBy cX0_comesRoundBy 3 (Option.some FieldType.boolean) ∈ wsL_law := wm1 (List.mem_of_getElem? (i := 119) rfl) rfl
theorem w1_120 : Cond.methodLink RX0 52 yX0_length ∈ wsL_law := wm1 (List.mem_of_getElem? (i := 120) rfl) rfl
theorem w1_121 : Cond.instanceMethod yX0_length ∈ wsL_law := wm1 (List.mem_of_getElem? (i := 121) rfl) rfl
theorem w1_122 : Cond.selects RX0 yX0_length yX0_length ∈ wsL_law := wm1 (List.mem_of_getElem? (i := 122) rfl) rfl
theorem w1_123 : Cond.code yX0_length cX0_length 1 (Option.some FieldType.int) ∈ wsL_law := wm1 (List.mem_of_getElem? (i := 123) rfl) rfl
theorem w1_125 : Cond.static yX5_bit ∈ wsL_law := wm1 (List.mem_of_getElem? (i := 125) rfl) rfl
theorem w1_126 : Cond.code yX5_bit cX5_bit 3 (Option.some FieldType.boolean) ∈ wsL_law := wm1 (List.mem_of_getElem? (i := 126) rfl) rfl
theorem w1_127 : Cond.methodLink RX0 42 yX0_leastStart ∈ wsL_law := wm1 (List.mem_of_getElem? (i := 127) rfl) rfl
theorem w1_129 : Cond.instanceMethod yX0_leastStart ∈ wsL_law := wm1 (List.mem_of_getElem? (i := 129) rfl) rfl
theorem w1_130 : Cond.code yX0_leastStart cX0_leastStart 2 (Option.some FieldType.int) ∈ wsL_law := wm1 (List.mem_of_getElem? (i := 130) rfl) rfl
theorem w1_131 : Cond.methodLink RX0 45 yX0_clearBehind ∈ wsL_law := wm1 (List.mem_of_getElem? (i := 131) rfl) rfl
theorem w1_133 : Cond.instanceMethod yX0_clearBehind ∈ wsL_law := wm1 (List.mem_of_getElem? (i := 133) rfl) rfl
theorem w1_134 : Cond.code yX0_clearBehind cX0_clearBehind 2 none ∈ wsL_law := wm1 (List.mem_of_getElem? (i := 134) rfl) rfl
theorem w1_136 : Cond.static yX5_clearBit ∈ wsL_law := wm1 (List.mem_of_getElem? (i := 136) rfl) rfl
theorem w1_137 : Cond.code yX5_clearBit cX5_clearBit 3 none ∈ wsL_law := wm1 (List.mem_of_getElem? (i := 137) rfl) rfl
theorem w1_138 : Cond.constantLong RX5 217 (-1 : Int64) ∈ wsL_law := wm1 (List.mem_of_getElem? (i := 138) rfl) rfl
theorem w1_139 : Cond.methodLink RX5 180 yX4_trace ∈ wsL_law := wm1 (List.mem_of_getElem? (i := 139) rfl) rfl
theorem w1_140 : Cond.instanceMethod yX4_trace ∈ wsL_law := wm1 (List.mem_of_getElem? (i := 140) rfl) rfl
theorem w1_141 : Cond.selects RX4 yX4_trace yX4_trace ∈ wsL_law := wm1 (List.mem_of_getElem? (i := 141) rfl) rfl
theorem w1_142 : Cond.code yX4_trace cX4_trace 6 (Option.some FieldType.boolean) ∈ wsL_law := wm1 (List.mem_of_getElem? (i := 142) rfl) rfl
theorem w1_143 : Cond.methodLink RX4 28 Lib.Math.min.name ∈ wsL_law := wm1 (List.mem_of_getElem? (i := 143) rfl) rfl
theorem w1_144 : Cond.static Lib.Math.min.name ∈ wsL_law := wm1 (List.mem_of_getElem? (i := 144) rfl) rfl
theorem w1_145 : Cond.code Lib.Math.min.name Lib.Math.min.code 2 (Option.some FieldType.int) ∈ wsL_law := wm1 (List.mem_of_getElem? (i := 145) rfl) rfl
theorem w1_146 : Cond.methodLink RX4 42 arraycopyName ∈ wsL_law := wm1 (List.mem_of_getElem? (i := 146) rfl) rfl
theorem w1_147 : Cond.static arraycopyName ∈ wsL_law := wm1 (List.mem_of_getElem? (i := 147) rfl) rfl
theorem w1_148 : Cond.native arraycopyName ∈ wsL_law := wm1 (List.mem_of_getElem? (i := 148) rfl) rfl
theorem w1_149 : Cond.methodLink RX4 51 yX4_writeRest ∈ wsL_law := wm1 (List.mem_of_getElem? (i := 149) rfl) rfl
theorem w1_151 : Cond.instanceMethod yX4_writeRest ∈ wsL_law := wm1 (List.mem_of_getElem? (i := 151) rfl) rfl
theorem w1_152 : Cond.code yX4_writeRest cX4_writeRest 7 none ∈ wsL_law := wm1 (List.mem_of_getElem? (i := 152) rfl) rfl
theorem w1_154 : Cond.static yX5_folded ∈ wsL_law := wm1 (List.mem_of_getElem? (i := 154) rfl) rfl
theorem w1_155 : Cond.code yX5_folded cX5_folded 3 (Option.some FieldType.int) ∈ wsL_law := wm1 (List.mem_of_getElem? (i := 155) rfl) rfl
theorem w1_156 : Cond.methodLink RX4 55 yX4_metAs ∈ wsL_law := wm1 (List.mem_of_getElem? (i := 156) rfl) rfl
theorem w1_158 : Cond.instanceMethod yX4_metAs ∈ wsL_law := wm1 (List.mem_of_getElem? (i := 158) rfl) rfl
theorem w1_159 : Cond.code yX4_metAs cX4_metAs 2 (Option.some FieldType.int) ∈ wsL_law := wm1 (List.mem_of_getElem? (i := 159) rfl) rfl
theorem w1_160 : Cond.methodLink RX4 77 yX4_sameRows ∈ wsL_law := wm1 (List.mem_of_getElem? (i := 160) rfl) rfl
theorem w1_162 : Cond.instanceMethod yX4_sameRows ∈ wsL_law := wm1 (List.mem_of_getElem? (i := 162) rfl) rfl
theorem w1_163 : Cond.code yX4_sameRows cX4_sameRows 4 (Option.some FieldType.boolean) ∈ wsL_law := wm1 (List.mem_of_getElem? (i := 163) rfl) rfl
theorem w1_164 : Cond.methodLink RX4 59 Lib.Math.max.name ∈ wsL_law := wm1 (List.mem_of_getElem? (i := 164) rfl) rfl
theorem w1_165 : Cond.instantiable RX3 4 ∈ wsL_law := wm1 (List.mem_of_getElem? (i := 165) rfl) rfl
theorem w1_166 : Cond.methodLink RX5 184 yX4_machine ∈ wsL_law := wm1 (List.mem_of_getElem? (i := 166) rfl) rfl
theorem w1_167 : Cond.instanceMethod yX4_machine ∈ wsL_law := wm1 (List.mem_of_getElem? (i := 167) rfl) rfl
theorem w1_168 : Cond.selects RX4 yX4_machine yX4_machine ∈ wsL_law := wm1 (List.mem_of_getElem? (i := 168) rfl) rfl
theorem w1_169 : Cond.code yX4_machine cX4_machine 4 (Option.some (FieldType.object "NumberMachines$Machine")) ∈ wsL_law := wm1 (List.mem_of_getElem? (i := 169) rfl) rfl
theorem w1_170 : Cond.classLink RX4 62 RX2 ∈ wsL_law := wm1 (List.mem_of_getElem? (i := 170) rfl) rfl
theorem w1_171 : Cond.instantiable RX2 4 ∈ wsL_law := wm1 (List.mem_of_getElem? (i := 171) rfl) rfl
theorem w1_172 : Cond.methodLink RX4 64 yJ7_copyOf_59c91 ∈ wsL_law := wm1 (List.mem_of_getElem? (i := 172) rfl) rfl
theorem w1_173 : Cond.static yJ7_copyOf_59c91 ∈ wsL_law := wm1 (List.mem_of_getElem? (i := 173) rfl) rfl
theorem w1_174 : Cond.code yJ7_copyOf_59c91 cJ7_copyOf_59c91 3 (Option.some (FieldType.array FieldType.int)) ∈ wsL_law := wm1 (List.mem_of_getElem? (i := 174) rfl) rfl
theorem w1_175 : Cond.methodLink RJ7 316 ⟨"[I", "clone", "()Ljava/lang/Object;"⟩ ∈ wsL_law := wm1 (List.mem_of_getElem? (i := 175) rfl) rfl
theorem w1_176 : Cond.sameMethod "[I" "java/lang/Object" "clone" "()Ljava/lang/Object;" ∈ wsL_law := wm1 (List.mem_of_getElem? (i := 176) rfl) rfl
theorem w1_177 : Cond.native ⟨"java/lang/Object", "clone", "()Ljava/lang/Object;"⟩ ∈ wsL_law := wm1 (List.mem_of_getElem? (i := 177) rfl) rfl
theorem w1_178 : Cond.instanceMethod ⟨"java/lang/Object", "clone", "()Ljava/lang/Object;"⟩ ∈ wsL_law := wm1 (List.mem_of_getElem? (i := 178) rfl) rfl
theorem w1_179 : Cond.selects "[I" ⟨"[I", "clone", "()Ljava/lang/Object;"⟩ ⟨"java/lang/Object", "clone", "()Ljava/lang/Object;"⟩ ∈ wsL_law := wm1 (List.mem_of_getElem? (i := 179) rfl) rfl
theorem w1_181 : Cond.classLink RJ7 317 "[I" ∈ wsL_law := wm1 (List.mem_of_getElem? (i := 181) rfl) rfl
theorem w1_182 : Cond.methodLink RJ7 304 Lib.Math.min.name ∈ wsL_law := wm1 (List.mem_of_getElem? (i := 182) rfl) rfl
theorem w1_183 : Cond.methodLink RJ7 150 arraycopyName ∈ wsL_law := wm1 (List.mem_of_getElem? (i := 183) rfl) rfl
theorem w1_184 : Cond.methodLink RX4 70 yX2_init ∈ wsL_law := wm1 (List.mem_of_getElem? (i := 184) rfl) rfl
theorem w1_185 : Cond.instanceMethod yX2_init ∈ wsL_law := wm1 (List.mem_of_getElem? (i := 185) rfl) rfl
theorem w1_186 : Cond.code yX2_init cX2_init 6 none ∈ wsL_law := wm1 (List.mem_of_getElem? (i := 186) rfl) rfl
theorem w1_187 : Cond.methodLink RX2 3 objectInit ∈ wsL_law := wm1 (List.mem_of_getElem? (i := 187) rfl) rfl
theorem w1_188 : Cond.fieldLink RX2 9 "NumberMachines$Machine" "base" "I" ∈ wsL_law := wm1 (List.mem_of_getElem? (i := 188) rfl) rfl
theorem w1_189 : Cond.fieldLink RX2 15 "NumberMachines$Machine" "states" "I" ∈ wsL_law := wm1 (List.mem_of_getElem? (i := 189) rfl) rfl
theorem w1_191 : Cond.fieldLink RX2 18 "NumberMachines$Machine" "goes" "[I" ∈ wsL_law := wm1 (List.mem_of_getElem? (i := 191) rfl) rfl
theorem w1_192 : Cond.fieldLink RX2 22 "NumberMachines$Machine" "good" "J" ∈ wsL_law := wm1 (List.mem_of_getElem? (i := 192) rfl) rfl
theorem w1_194 : Cond.laysFinal RX2 "NumberMachines$Machine" "base" "I" ∈ wsL_law := wm1 (List.mem_of_getElem? (i := 194) rfl) rfl
theorem w1_196 : Cond.laysFinal RX2 "NumberMachines$Machine" "states" "I" ∈ wsL_law := wm1 (List.mem_of_getElem? (i := 196) rfl) rfl
theorem w1_198 : Cond.laysFinal RX2 "NumberMachines$Machine" "goes" "[I" ∈ wsL_law := wm1 (List.mem_of_getElem? (i := 198) rfl) rfl
theorem w1_200 : Cond.laysFinal RX2 "NumberMachines$Machine" "good" "J" ∈ wsL_law := wm1 (List.mem_of_getElem? (i := 200) rfl) rfl
theorem w1_203 : Cond.methodLink RX5 187 yX3_init ∈ wsL_law := wm1 (List.mem_of_getElem? (i := 203) rfl) rfl
theorem w1_204 : Cond.instanceMethod yX3_init ∈ wsL_law := wm1 (List.mem_of_getElem? (i := 204) rfl) rfl
theorem w1_205 : Cond.code yX3_init cX3_init 3 none ∈ wsL_law := wm1 (List.mem_of_getElem? (i := 205) rfl) rfl
theorem w1_206 : Cond.methodLink RX3 3 objectInit ∈ wsL_law := wm1 (List.mem_of_getElem? (i := 206) rfl) rfl
theorem w1_207 : Cond.methodLink RX3 26 yJ7_copyOf_c38d5 ∈ wsL_law := wm1 (List.mem_of_getElem? (i := 207) rfl) rfl
theorem w1_208 : Cond.static yJ7_copyOf_c38d5 ∈ wsL_law := wm1 (List.mem_of_getElem? (i := 208) rfl) rfl
theorem w1_209 : Cond.code yJ7_copyOf_c38d5 cJ7_copyOf_c38d5 3 (Option.some (FieldType.array FieldType.long)) ∈ wsL_law := wm1 (List.mem_of_getElem? (i := 209) rfl) rfl
theorem w1_210 : Cond.methodLink RJ7 319 ⟨"[J", "clone", "()Ljava/lang/Object;"⟩ ∈ wsL_law := wm1 (List.mem_of_getElem? (i := 210) rfl) rfl
theorem w1_211 : Cond.sameMethod "[J" "java/lang/Object" "clone" "()Ljava/lang/Object;" ∈ wsL_law := wm1 (List.mem_of_getElem? (i := 211) rfl) rfl
theorem w1_212 : Cond.selects "[J" ⟨"[J", "clone", "()Ljava/lang/Object;"⟩ ⟨"java/lang/Object", "clone", "()Ljava/lang/Object;"⟩ ∈ wsL_law := wm1 (List.mem_of_getElem? (i := 212) rfl) rfl
theorem w1_214 : Cond.classLink RJ7 320 "[J" ∈ wsL_law := wm1 (List.mem_of_getElem? (i := 214) rfl) rfl
theorem w1_215 : Cond.fieldLink RX3 15 "NumberMachines$Round" "start" "I" ∈ wsL_law := wm1 (List.mem_of_getElem? (i := 215) rfl) rfl
theorem w1_217 : Cond.fieldLink RX3 21 "NumberMachines$Round" "period" "I" ∈ wsL_law := wm1 (List.mem_of_getElem? (i := 217) rfl) rfl
theorem w1_219 : Cond.fieldLink RX3 32 "NumberMachines$Round" "row" "[J" ∈ wsL_law := wm1 (List.mem_of_getElem? (i := 219) rfl) rfl
theorem w1_220 : Cond.fieldLink RX3 33 "NumberMachines$Round" "machine" "LNumberMachines$Machine;" ∈ wsL_law := wm1 (List.mem_of_getElem? (i := 220) rfl) rfl
theorem w1_222 : Cond.laysFinal RX3 "NumberMachines$Round" "start" "I" ∈ wsL_law := wm1 (List.mem_of_getElem? (i := 222) rfl) rfl
theorem w1_224 : Cond.laysFinal RX3 "NumberMachines$Round" "period" "I" ∈ wsL_law := wm1 (List.mem_of_getElem? (i := 224) rfl) rfl
theorem w1_226 : Cond.laysFinal RX3 "NumberMachines$Round" "row" "[J" ∈ wsL_law := wm1 (List.mem_of_getElem? (i := 226) rfl) rfl
theorem w1_228 : Cond.laysFinal RX3 "NumberMachines$Round" "machine" "LNumberMachines$Machine;" ∈ wsL_law := wm1 (List.mem_of_getElem? (i := 228) rfl) rfl
theorem w1_231 : Cond.fieldLink RX5 11 "NumberMachines" "slots" "[LNumberMachines$Round;" ∈ wsL_law := wm1 (List.mem_of_getElem? (i := 231) rfl) rfl
theorem w1_232 : Cond.fieldLink RX5 17 "NumberMachines" "images" "[LNumberMachines$Image;" ∈ wsL_law := wm1 (List.mem_of_getElem? (i := 232) rfl) rfl
theorem w1_233 : Cond.fieldLink RX5 24 "NumberMachines" "draft" "LNumberMachines$Draft;" ∈ wsL_law := wm1 (List.mem_of_getElem? (i := 233) rfl) rfl
theorem w1_234 : Cond.fieldLink RX5 31 "NumberMachines" "tracer" "LNumberMachines$Tracer;" ∈ wsL_law := wm1 (List.mem_of_getElem? (i := 234) rfl) rfl
theorem w1_235 : Cond.fieldLink RX5 40 "NumberMachines" "base" "I" ∈ wsL_law := wm1 (List.mem_of_getElem? (i := 235) rfl) rfl
theorem w1_236 : Cond.laysFinal RX5 "NumberMachines" "slots" "[LNumberMachines$Round;" ∈ wsL_law := wm1 (List.mem_of_getElem? (i := 236) rfl) rfl
theorem w1_238 : Cond.laysFinal RX5 "NumberMachines" "images" "[LNumberMachines$Image;" ∈ wsL_law := wm1 (List.mem_of_getElem? (i := 238) rfl) rfl
theorem w2_0 : Cond.laysFinal RX5 "NumberMachines" "draft" "LNumberMachines$Draft;" ∈ wsL_law := wm2 (List.mem_of_getElem? (i := 0) rfl) rfl
theorem w2_2 : Cond.laysFinal RX5 "NumberMachines" "tracer" "LNumberMachines$Tracer;" ∈ wsL_law := wm2 (List.mem_of_getElem? (i := 2) rfl) rfl
theorem w2_4 : Cond.lays RX5 "NumberMachines" "base" "I" ∈ wsL_law := wm2 (List.mem_of_getElem? (i := 4) rfl) rfl
theorem w2_7 : Cond.methodLink RL 13 yX5_base ∈ wsL_law := wm2 (List.mem_of_getElem? (i := 7) rfl) rfl
theorem w2_8 : Cond.instanceMethod yX5_base ∈ wsL_law := wm2 (List.mem_of_getElem? (i := 8) rfl) rfl
theorem w2_9 : Cond.selects RX5 yX5_base yX5_base ∈ wsL_law := wm2 (List.mem_of_getElem? (i := 9) rfl) rfl
theorem w2_10 : Cond.code yX5_base cX5_base 3 (Option.some FieldType.int) ∈ wsL_law := wm2 (List.mem_of_getElem? (i := 10) rfl) rfl
theorem w2_11 : Cond.methodLink RL 18 yX5_put ∈ wsL_law := wm2 (List.mem_of_getElem? (i := 11) rfl) rfl
theorem w2_12 : Cond.instanceMethod yX5_put ∈ wsL_law := wm2 (List.mem_of_getElem? (i := 12) rfl) rfl
theorem w2_13 : Cond.selects RX5 yX5_put yX5_put ∈ wsL_law := wm2 (List.mem_of_getElem? (i := 13) rfl) rfl
theorem w2_14 : Cond.code yX5_put cX5_put 5 (Option.some FieldType.int) ∈ wsL_law := wm2 (List.mem_of_getElem? (i := 14) rfl) rfl
theorem w2_15 : Cond.methodLink RX5 44 yX5_unknown ∈ wsL_law := wm2 (List.mem_of_getElem? (i := 15) rfl) rfl
theorem w2_17 : Cond.instanceMethod yX5_unknown ∈ wsL_law := wm2 (List.mem_of_getElem? (i := 17) rfl) rfl
theorem w2_18 : Cond.code yX5_unknown cX5_unknown 2 (Option.some FieldType.boolean) ∈ wsL_law := wm2 (List.mem_of_getElem? (i := 18) rfl) rfl
theorem w2_19 : Cond.methodLink RX5 48 yX5_within ∈ wsL_law := wm2 (List.mem_of_getElem? (i := 19) rfl) rfl
theorem w2_20 : Cond.static yX5_within ∈ wsL_law := wm2 (List.mem_of_getElem? (i := 20) rfl) rfl
theorem w2_21 : Cond.code yX5_within cX5_within 3 (Option.some FieldType.boolean) ∈ wsL_law := wm2 (List.mem_of_getElem? (i := 21) rfl) rfl
theorem w2_22 : Cond.methodLink RX5 52 yX5_draftKind ∈ wsL_law := wm2 (List.mem_of_getElem? (i := 22) rfl) rfl
theorem w2_24 : Cond.instanceMethod yX5_draftKind ∈ wsL_law := wm2 (List.mem_of_getElem? (i := 24) rfl) rfl
theorem w2_25 : Cond.code yX5_draftKind cX5_draftKind 4 none ∈ wsL_law := wm2 (List.mem_of_getElem? (i := 25) rfl) rfl
theorem w2_26 : Cond.methodLink RX5 190 yX0_mark ∈ wsL_law := wm2 (List.mem_of_getElem? (i := 26) rfl) rfl
theorem w2_27 : Cond.instanceMethod yX0_mark ∈ wsL_law := wm2 (List.mem_of_getElem? (i := 27) rfl) rfl
theorem w2_28 : Cond.selects RX0 yX0_mark yX0_mark ∈ wsL_law := wm2 (List.mem_of_getElem? (i := 28) rfl) rfl
theorem w2_29 : Cond.code yX0_mark cX0_mark 2 none ∈ wsL_law := wm2 (List.mem_of_getElem? (i := 29) rfl) rfl
theorem w2_31 : Cond.static yX5_setBit ∈ wsL_law := wm2 (List.mem_of_getElem? (i := 31) rfl) rfl
theorem w2_32 : Cond.code yX5_setBit cX5_setBit 3 none ∈ wsL_law := wm2 (List.mem_of_getElem? (i := 32) rfl) rfl
theorem w2_33 : Cond.methodLink RX5 56 yX5_hold ∈ wsL_law := wm2 (List.mem_of_getElem? (i := 33) rfl) rfl
theorem w2_35 : Cond.instanceMethod yX5_hold ∈ wsL_law := wm2 (List.mem_of_getElem? (i := 35) rfl) rfl
theorem w2_36 : Cond.code yX5_hold cX5_hold 3 (Option.some FieldType.int) ∈ wsL_law := wm2 (List.mem_of_getElem? (i := 36) rfl) rfl
theorem w2_37 : Cond.methodLink RL 23 yX5_join ∈ wsL_law := wm2 (List.mem_of_getElem? (i := 37) rfl) rfl
theorem w2_38 : Cond.instanceMethod yX5_join ∈ wsL_law := wm2 (List.mem_of_getElem? (i := 38) rfl) rfl
theorem w2_39 : Cond.selects RX5 yX5_join yX5_join ∈ wsL_law := wm2 (List.mem_of_getElem? (i := 39) rfl) rfl
theorem w2_40 : Cond.code yX5_join cX5_join 5 (Option.some FieldType.int) ∈ wsL_law := wm2 (List.mem_of_getElem? (i := 40) rfl) rfl
theorem w2_41 : Cond.methodLink RX5 60 yX5_draftJoin ∈ wsL_law := wm2 (List.mem_of_getElem? (i := 41) rfl) rfl
theorem w2_43 : Cond.instanceMethod yX5_draftJoin ∈ wsL_law := wm2 (List.mem_of_getElem? (i := 43) rfl) rfl
theorem w2_44 : Cond.code yX5_draftJoin cX5_draftJoin 7 none ∈ wsL_law := wm2 (List.mem_of_getElem? (i := 44) rfl) rfl
theorem w2_45 : Cond.methodLink RX5 193 Lib.Math.max.name ∈ wsL_law := wm2 (List.mem_of_getElem? (i := 45) rfl) rfl
theorem w2_46 : Cond.methodLink RX5 198 yX5_leastCommon ∈ wsL_law := wm2 (List.mem_of_getElem? (i := 46) rfl) rfl
theorem w2_47 : Cond.static yX5_leastCommon ∈ wsL_law := wm2 (List.mem_of_getElem? (i := 47) rfl) rfl
theorem w2_48 : Cond.code yX5_leastCommon cX5_leastCommon 3 (Option.some FieldType.int) ∈ wsL_law := wm2 (List.mem_of_getElem? (i := 48) rfl) rfl
theorem w2_49 : Cond.methodLink RX5 201 yX0_length ∈ wsL_law := wm2 (List.mem_of_getElem? (i := 49) rfl) rfl
theorem w2_50 : Cond.methodLink RX5 204 yX3_at ∈ wsL_law := wm2 (List.mem_of_getElem? (i := 50) rfl) rfl
theorem w2_51 : Cond.instanceMethod yX3_at ∈ wsL_law := wm2 (List.mem_of_getElem? (i := 51) rfl) rfl
theorem w2_52 : Cond.selects RX3 yX3_at yX3_at ∈ wsL_law := wm2 (List.mem_of_getElem? (i := 52) rfl) rfl
theorem w2_53 : Cond.code yX3_at cX3_at 2 (Option.some FieldType.boolean) ∈ wsL_law := wm2 (List.mem_of_getElem? (i := 53) rfl) rfl
theorem w2_55 : Cond.methodLink RX5 207 yX5_joined ∈ wsL_law := wm2 (List.mem_of_getElem? (i := 55) rfl) rfl
theorem w2_56 : Cond.static yX5_joined ∈ wsL_law := wm2 (List.mem_of_getElem? (i := 56) rfl) rfl
theorem w2_57 : Cond.code yX5_joined cX5_joined 3 (Option.some FieldType.boolean) ∈ wsL_law := wm2 (List.mem_of_getElem? (i := 57) rfl) rfl
theorem w2_58 : Cond.methodLink RX5 211 yX3_placeAfter ∈ wsL_law := wm2 (List.mem_of_getElem? (i := 58) rfl) rfl
theorem w2_59 : Cond.instanceMethod yX3_placeAfter ∈ wsL_law := wm2 (List.mem_of_getElem? (i := 59) rfl) rfl
theorem w2_60 : Cond.selects RX3 yX3_placeAfter yX3_placeAfter ∈ wsL_law := wm2 (List.mem_of_getElem? (i := 60) rfl) rfl
theorem w2_61 : Cond.code yX3_placeAfter cX3_placeAfter 2 (Option.some FieldType.int) ∈ wsL_law := wm2 (List.mem_of_getElem? (i := 61) rfl) rfl
theorem w2_62 : Cond.methodLink RL 27 yX5_turn ∈ wsL_law := wm2 (List.mem_of_getElem? (i := 62) rfl) rfl
theorem w2_63 : Cond.instanceMethod yX5_turn ∈ wsL_law := wm2 (List.mem_of_getElem? (i := 63) rfl) rfl
theorem w2_64 : Cond.selects RX5 yX5_turn yX5_turn ∈ wsL_law := wm2 (List.mem_of_getElem? (i := 64) rfl) rfl
theorem w2_65 : Cond.code yX5_turn cX5_turn 3 (Option.some FieldType.int) ∈ wsL_law := wm2 (List.mem_of_getElem? (i := 65) rfl) rfl
theorem w2_66 : Cond.methodLink RX5 64 yX5_draftTurn ∈ wsL_law := wm2 (List.mem_of_getElem? (i := 66) rfl) rfl
theorem w2_68 : Cond.instanceMethod yX5_draftTurn ∈ wsL_law := wm2 (List.mem_of_getElem? (i := 68) rfl) rfl
theorem w2_69 : Cond.code yX5_draftTurn cX5_draftTurn 3 none ∈ wsL_law := wm2 (List.mem_of_getElem? (i := 69) rfl) rfl
theorem w2_70 : Cond.methodLink RL 32 yX5_shift ∈ wsL_law := wm2 (List.mem_of_getElem? (i := 70) rfl) rfl
theorem w2_71 : Cond.instanceMethod yX5_shift ∈ wsL_law := wm2 (List.mem_of_getElem? (i := 71) rfl) rfl
theorem w2_72 : Cond.selects RX5 yX5_shift yX5_shift ∈ wsL_law := wm2 (List.mem_of_getElem? (i := 72) rfl) rfl
theorem w2_73 : Cond.code yX5_shift cX5_shift 4 (Option.some FieldType.int) ∈ wsL_law := wm2 (List.mem_of_getElem? (i := 73) rfl) rfl
theorem w2_74 : Cond.methodLink RX5 68 yX5_draftShift ∈ wsL_law := wm2 (List.mem_of_getElem? (i := 74) rfl) rfl
theorem w2_76 : Cond.instanceMethod yX5_draftShift ∈ wsL_law := wm2 (List.mem_of_getElem? (i := 76) rfl) rfl
theorem w2_77 : Cond.code yX5_draftShift cX5_draftShift 4 none ∈ wsL_law := wm2 (List.mem_of_getElem? (i := 77) rfl) rfl
theorem w2_78 : Cond.methodLink RX5 126 yX3_holds ∈ wsL_law := wm2 (List.mem_of_getElem? (i := 78) rfl) rfl
theorem w2_79 : Cond.instanceMethod yX3_holds ∈ wsL_law := wm2 (List.mem_of_getElem? (i := 79) rfl) rfl
theorem w2_80 : Cond.selects RX3 yX3_holds yX3_holds ∈ wsL_law := wm2 (List.mem_of_getElem? (i := 80) rfl) rfl
theorem w2_81 : Cond.code yX3_holds cX3_holds 2 (Option.some FieldType.boolean) ∈ wsL_law := wm2 (List.mem_of_getElem? (i := 81) rfl) rfl
theorem w2_83 : Cond.methodLink RX3 41 yX3_at ∈ wsL_law := wm2 (List.mem_of_getElem? (i := 83) rfl) rfl
theorem w2_84 : Cond.methodLink RL 37 yX5_stretch ∈ wsL_law := wm2 (List.mem_of_getElem? (i := 84) rfl) rfl
theorem w2_85 : Cond.instanceMethod yX5_stretch ∈ wsL_law := wm2 (List.mem_of_getElem? (i := 85) rfl) rfl
theorem w2_86 : Cond.selects RX5 yX5_stretch yX5_stretch ∈ wsL_law := wm2 (List.mem_of_getElem? (i := 86) rfl) rfl
theorem w2_87 : Cond.code yX5_stretch cX5_stretch 5 (Option.some FieldType.int) ∈ wsL_law := wm2 (List.mem_of_getElem? (i := 87) rfl) rfl
theorem w2_88 : Cond.methodLink RX5 72 yX5_draftStretch ∈ wsL_law := wm2 (List.mem_of_getElem? (i := 88) rfl) rfl
theorem w2_90 : Cond.instanceMethod yX5_draftStretch ∈ wsL_law := wm2 (List.mem_of_getElem? (i := 90) rfl) rfl
theorem w2_91 : Cond.code yX5_draftStretch cX5_draftStretch 5 none ∈ wsL_law := wm2 (List.mem_of_getElem? (i := 91) rfl) rfl
theorem w2_92 : Cond.methodLink RL 41 yX5_shrink ∈ wsL_law := wm2 (List.mem_of_getElem? (i := 92) rfl) rfl
theorem w2_93 : Cond.instanceMethod yX5_shrink ∈ wsL_law := wm2 (List.mem_of_getElem? (i := 93) rfl) rfl
theorem w2_94 : Cond.selects RX5 yX5_shrink yX5_shrink ∈ wsL_law := wm2 (List.mem_of_getElem? (i := 94) rfl) rfl
theorem w2_95 : Cond.code yX5_shrink cX5_shrink 5 (Option.some FieldType.int) ∈ wsL_law := wm2 (List.mem_of_getElem? (i := 95) rfl) rfl
theorem w2_96 : Cond.methodLink RX5 76 yX5_draftShrink ∈ wsL_law := wm2 (List.mem_of_getElem? (i := 96) rfl) rfl
theorem w2_98 : Cond.instanceMethod yX5_draftShrink ∈ wsL_law := wm2 (List.mem_of_getElem? (i := 98) rfl) rfl
theorem w2_99 : Cond.code yX5_draftShrink cX5_draftShrink 5 none ∈ wsL_law := wm2 (List.mem_of_getElem? (i := 99) rfl) rfl
theorem w2_100 : Cond.methodLink RL 45 yX5_told ∈ wsL_law := wm2 (List.mem_of_getElem? (i := 100) rfl) rfl
theorem w2_101 : Cond.instanceMethod yX5_told ∈ wsL_law := wm2 (List.mem_of_getElem? (i := 101) rfl) rfl
theorem w2_102 : Cond.selects RX5 yX5_told yX5_told ∈ wsL_law := wm2 (List.mem_of_getElem? (i := 102) rfl) rfl
theorem w2_103 : Cond.code yX5_told cX5_told 4 (Option.some FieldType.int) ∈ wsL_law := wm2 (List.mem_of_getElem? (i := 103) rfl) rfl
theorem w2_104 : Cond.methodLink RX5 98 yJ13_bitCount_95d88 ∈ wsL_law := wm2 (List.mem_of_getElem? (i := 104) rfl) rfl
theorem w2_105 : Cond.static yJ13_bitCount_95d88 ∈ wsL_law := wm2 (List.mem_of_getElem? (i := 105) rfl) rfl
theorem w2_106 : Cond.code yJ13_bitCount_95d88 cJ13_bitCount_95d88 2 (Option.some FieldType.int) ∈ wsL_law := wm2 (List.mem_of_getElem? (i := 106) rfl) rfl
theorem w2_107 : Cond.constantLong RJ13 314 (6148914691236517205 : Int64) ∈ wsL_law := wm2 (List.mem_of_getElem? (i := 107) rfl) rfl
theorem w2_108 : Cond.constantLong RJ13 316 (3689348814741910323 : Int64) ∈ wsL_law := wm2 (List.mem_of_getElem? (i := 108) rfl) rfl
theorem w2_109 : Cond.constantLong RJ13 318 (1085102592571150095 : Int64) ∈ wsL_law := wm2 (List.mem_of_getElem? (i := 109) rfl) rfl
theorem w2_110 : Cond.methodLink RX5 104 yX3_numbersBefore ∈ wsL_law := wm2 (List.mem_of_getElem? (i := 110) rfl) rfl
theorem w2_111 : Cond.instanceMethod yX3_numbersBefore ∈ wsL_law := wm2 (List.mem_of_getElem? (i := 111) rfl) rfl
theorem w2_112 : Cond.selects RX3 yX3_numbersBefore yX3_numbersBefore ∈ wsL_law := wm2 (List.mem_of_getElem? (i := 112) rfl) rfl
theorem w2_113 : Cond.code yX3_numbersBefore cX3_numbersBefore 4 (Option.some FieldType.int) ∈ wsL_law := wm2 (List.mem_of_getElem? (i := 113) rfl) rfl
theorem w2_114 : Cond.methodLink RX3 52 yX3_placesBefore ∈ wsL_law := wm2 (List.mem_of_getElem? (i := 114) rfl) rfl
theorem w2_116 : Cond.instanceMethod yX3_placesBefore ∈ wsL_law := wm2 (List.mem_of_getElem? (i := 116) rfl) rfl
theorem w2_117 : Cond.code yX3_placesBefore cX3_placesBefore 4 (Option.some FieldType.int) ∈ wsL_law := wm2 (List.mem_of_getElem? (i := 117) rfl) rfl
theorem w2_118 : Cond.methodLink RL 49 yX5_state ∈ wsL_law := wm2 (List.mem_of_getElem? (i := 118) rfl) rfl
theorem w2_119 : Cond.instanceMethod yX5_state ∈ wsL_law := wm2 (List.mem_of_getElem? (i := 119) rfl) rfl
theorem w2_120 : Cond.selects RX5 yX5_state yX5_state ∈ wsL_law := wm2 (List.mem_of_getElem? (i := 120) rfl) rfl
theorem w2_121 : Cond.code yX5_state cX5_state 5 (Option.some FieldType.int) ∈ wsL_law := wm2 (List.mem_of_getElem? (i := 121) rfl) rfl
theorem w2_122 : Cond.methodLink RX5 107 yX2_after ∈ wsL_law := wm2 (List.mem_of_getElem? (i := 122) rfl) rfl
theorem w2_123 : Cond.instanceMethod yX2_after ∈ wsL_law := wm2 (List.mem_of_getElem? (i := 123) rfl) rfl
theorem w2_124 : Cond.selects RX2 yX2_after yX2_after ∈ wsL_law := wm2 (List.mem_of_getElem? (i := 124) rfl) rfl
theorem w2_125 : Cond.code yX2_after cX2_after 4 (Option.some FieldType.int) ∈ wsL_law := wm2 (List.mem_of_getElem? (i := 125) rfl) rfl
theorem w2_126 : Cond.methodLink RX5 111 yX2_isGood ∈ wsL_law := wm2 (List.mem_of_getElem? (i := 126) rfl) rfl
theorem w2_127 : Cond.instanceMethod yX2_isGood ∈ wsL_law := wm2 (List.mem_of_getElem? (i := 127) rfl) rfl
theorem w2_128 : Cond.selects RX2 yX2_isGood yX2_isGood ∈ wsL_law := wm2 (List.mem_of_getElem? (i := 128) rfl) rfl
theorem w2_129 : Cond.code yX2_isGood cX2_isGood 2 (Option.some FieldType.boolean) ∈ wsL_law := wm2 (List.mem_of_getElem? (i := 129) rfl) rfl
theorem w2_130 : Cond.methodLink RX5 114 yX5_truth ∈ wsL_law := wm2 (List.mem_of_getElem? (i := 130) rfl) rfl
theorem w2_131 : Cond.static yX5_truth ∈ wsL_law := wm2 (List.mem_of_getElem? (i := 131) rfl) rfl
theorem w2_132 : Cond.code yX5_truth cX5_truth 1 (Option.some FieldType.int) ∈ wsL_law := wm2 (List.mem_of_getElem? (i := 132) rfl) rfl
theorem w2_133 : Cond.methodLink RX5 118 yX2_steps ∈ wsL_law := wm2 (List.mem_of_getElem? (i := 133) rfl) rfl
theorem w2_134 : Cond.instanceMethod yX2_steps ∈ wsL_law := wm2 (List.mem_of_getElem? (i := 134) rfl) rfl
theorem w2_135 : Cond.selects RX2 yX2_steps yX2_steps ∈ wsL_law := wm2 (List.mem_of_getElem? (i := 135) rfl) rfl
theorem w2_136 : Cond.code yX2_steps cX2_steps 8 (Option.some FieldType.int) ∈ wsL_law := wm2 (List.mem_of_getElem? (i := 136) rfl) rfl
theorem w2_137 : Cond.methodLink RX2 30 yX2_afterAnyOf ∈ wsL_law := wm2 (List.mem_of_getElem? (i := 137) rfl) rfl
theorem w2_139 : Cond.instanceMethod yX2_afterAnyOf ∈ wsL_law := wm2 (List.mem_of_getElem? (i := 139) rfl) rfl
theorem w2_140 : Cond.code yX2_afterAnyOf cX2_afterAnyOf 7 (Option.some FieldType.long) ∈ wsL_law := wm2 (List.mem_of_getElem? (i := 140) rfl) rfl
theorem w2_141 : Cond.methodLink RX2 26 yX2_after ∈ wsL_law := wm2 (List.mem_of_getElem? (i := 141) rfl) rfl
theorem w2_142 : Cond.methodLink RL 53 yX5_walk ∈ wsL_law := wm2 (List.mem_of_getElem? (i := 142) rfl) rfl
theorem w2_143 : Cond.instanceMethod yX5_walk ∈ wsL_law := wm2 (List.mem_of_getElem? (i := 143) rfl) rfl
theorem w2_144 : Cond.selects RX5 yX5_walk yX5_walk ∈ wsL_law := wm2 (List.mem_of_getElem? (i := 144) rfl) rfl
theorem w2_145 : Cond.code yX5_walk cX5_walk 4 (Option.some FieldType.int) ∈ wsL_law := wm2 (List.mem_of_getElem? (i := 145) rfl) rfl
theorem w2_146 : Cond.methodLink RX5 122 yX2_read ∈ wsL_law := wm2 (List.mem_of_getElem? (i := 146) rfl) rfl
theorem w2_147 : Cond.instanceMethod yX2_read ∈ wsL_law := wm2 (List.mem_of_getElem? (i := 147) rfl) rfl
theorem w2_148 : Cond.selects RX2 yX2_read yX2_read ∈ wsL_law := wm2 (List.mem_of_getElem? (i := 148) rfl) rfl
theorem w2_149 : Cond.code yX2_read cX2_read 6 (Option.some FieldType.int) ∈ wsL_law := wm2 (List.mem_of_getElem? (i := 149) rfl) rfl
theorem w2_150 : Cond.methodLink RL 57 yX5_has ∈ wsL_law := wm2 (List.mem_of_getElem? (i := 150) rfl) rfl
theorem w2_151 : Cond.instanceMethod yX5_has ∈ wsL_law := wm2 (List.mem_of_getElem? (i := 151) rfl) rfl
theorem w2_152 : Cond.selects RX5 yX5_has yX5_has ∈ wsL_law := wm2 (List.mem_of_getElem? (i := 152) rfl) rfl
theorem w2_153 : Cond.code yX5_has cX5_has 3 (Option.some FieldType.int) ∈ wsL_law := wm2 (List.mem_of_getElem? (i := 153) rfl) rfl
theorem w2_154 : Cond.constant RX5 125 (1000000000 : Int32) ∈ wsL_law := wm2 (List.mem_of_getElem? (i := 154) rfl) rfl
theorem w2_155 : Cond.methodLink RL 61 yX5_next ∈ wsL_law := wm2 (List.mem_of_getElem? (i := 155) rfl) rfl
theorem w2_156 : Cond.instanceMethod yX5_next ∈ wsL_law := wm2 (List.mem_of_getElem? (i := 156) rfl) rfl
theorem w2_157 : Cond.selects RX5 yX5_next yX5_next ∈ wsL_law := wm2 (List.mem_of_getElem? (i := 157) rfl) rfl
theorem w2_158 : Cond.code yX5_next cX5_next 3 (Option.some FieldType.int) ∈ wsL_law := wm2 (List.mem_of_getElem? (i := 158) rfl) rfl
theorem w2_159 : Cond.methodLink RX5 129 yX3_leastFrom ∈ wsL_law := wm2 (List.mem_of_getElem? (i := 159) rfl) rfl
theorem w2_160 : Cond.instanceMethod yX3_leastFrom ∈ wsL_law := wm2 (List.mem_of_getElem? (i := 160) rfl) rfl
theorem w2_161 : Cond.selects RX3 yX3_leastFrom yX3_leastFrom ∈ wsL_law := wm2 (List.mem_of_getElem? (i := 161) rfl) rfl
theorem w2_162 : Cond.code yX3_leastFrom cX3_leastFrom 3 (Option.some FieldType.int) ∈ wsL_law := wm2 (List.mem_of_getElem? (i := 162) rfl) rfl
theorem w2_163 : Cond.methodLink RX3 49 yX3_holds ∈ wsL_law := wm2 (List.mem_of_getElem? (i := 163) rfl) rfl
theorem w2_164 : Cond.methodLink RL 65 yX5_below ∈ wsL_law := wm2 (List.mem_of_getElem? (i := 164) rfl) rfl
theorem w2_165 : Cond.instanceMethod yX5_below ∈ wsL_law := wm2 (List.mem_of_getElem? (i := 165) rfl) rfl
theorem w2_166 : Cond.selects RX5 yX5_below yX5_below ∈ wsL_law := wm2 (List.mem_of_getElem? (i := 166) rfl) rfl
theorem w2_167 : Cond.code yX5_below cX5_below 3 (Option.some FieldType.int) ∈ wsL_law := wm2 (List.mem_of_getElem? (i := 167) rfl) rfl
theorem w2_168 : Cond.methodLink RL 69 yX5_alike ∈ wsL_law := wm2 (List.mem_of_getElem? (i := 168) rfl) rfl
theorem w2_169 : Cond.instanceMethod yX5_alike ∈ wsL_law := wm2 (List.mem_of_getElem? (i := 169) rfl) rfl
theorem w2_170 : Cond.selects RX5 yX5_alike yX5_alike ∈ wsL_law := wm2 (List.mem_of_getElem? (i := 170) rfl) rfl
theorem w2_171 : Cond.code yX5_alike cX5_alike 6 (Option.some FieldType.int) ∈ wsL_law := wm2 (List.mem_of_getElem? (i := 171) rfl) rfl
theorem w2_172 : Cond.methodLink RX5 132 yX3_sameAs ∈ wsL_law := wm2 (List.mem_of_getElem? (i := 172) rfl) rfl
theorem w2_173 : Cond.instanceMethod yX3_sameAs ∈ wsL_law := wm2 (List.mem_of_getElem? (i := 173) rfl) rfl
theorem w2_174 : Cond.selects RX3 yX3_sameAs yX3_sameAs ∈ wsL_law := wm2 (List.mem_of_getElem? (i := 174) rfl) rfl
theorem w2_175 : Cond.code yX3_sameAs cX3_sameAs 3 (Option.some FieldType.boolean) ∈ wsL_law := wm2 (List.mem_of_getElem? (i := 175) rfl) rfl
theorem w2_176 : Cond.methodLink RX5 136 yX5_leastJoined ∈ wsL_law := wm2 (List.mem_of_getElem? (i := 176) rfl) rfl
theorem w2_177 : Cond.static yX5_leastJoined ∈ wsL_law := wm2 (List.mem_of_getElem? (i := 177) rfl) rfl
theorem w2_178 : Cond.code yX5_leastJoined cX5_leastJoined 7 (Option.some FieldType.int) ∈ wsL_law := wm2 (List.mem_of_getElem? (i := 178) rfl) rfl
theorem w2_179 : Cond.methodLink RL 73 yX5_image ∈ wsL_law := wm2 (List.mem_of_getElem? (i := 179) rfl) rfl
theorem w2_180 : Cond.instanceMethod yX5_image ∈ wsL_law := wm2 (List.mem_of_getElem? (i := 180) rfl) rfl
theorem w2_181 : Cond.selects RX5 yX5_image yX5_image ∈ wsL_law := wm2 (List.mem_of_getElem? (i := 181) rfl) rfl
theorem w2_182 : Cond.code yX5_image cX5_image 2 (Option.some FieldType.int) ∈ wsL_law := wm2 (List.mem_of_getElem? (i := 182) rfl) rfl
theorem w2_183 : Cond.methodLink RX5 140 yX5_noImage ∈ wsL_law := wm2 (List.mem_of_getElem? (i := 183) rfl) rfl
theorem w2_185 : Cond.instanceMethod yX5_noImage ∈ wsL_law := wm2 (List.mem_of_getElem? (i := 185) rfl) rfl
theorem w2_186 : Cond.code yX5_noImage cX5_noImage 2 (Option.some FieldType.boolean) ∈ wsL_law := wm2 (List.mem_of_getElem? (i := 186) rfl) rfl
theorem w2_187 : Cond.methodLink RX5 143 yX1_keep ∈ wsL_law := wm2 (List.mem_of_getElem? (i := 187) rfl) rfl
theorem w2_188 : Cond.instanceMethod yX1_keep ∈ wsL_law := wm2 (List.mem_of_getElem? (i := 188) rfl) rfl
theorem w2_189 : Cond.selects RX1 yX1_keep yX1_keep ∈ wsL_law := wm2 (List.mem_of_getElem? (i := 189) rfl) rfl
theorem w2_190 : Cond.code yX1_keep cX1_keep 3 none ∈ wsL_law := wm2 (List.mem_of_getElem? (i := 190) rfl) rfl
theorem w2_191 : Cond.methodLink RX1 25 yX1_copySets ∈ wsL_law := wm2 (List.mem_of_getElem? (i := 191) rfl) rfl
theorem w2_192 : Cond.static yX1_copySets ∈ wsL_law := wm2 (List.mem_of_getElem? (i := 192) rfl) rfl
theorem w2_193 : Cond.code yX1_copySets cX1_copySets 3 none ∈ wsL_law := wm2 (List.mem_of_getElem? (i := 193) rfl) rfl
theorem w2_194 : Cond.methodLink RL 77 yX5_restore ∈ wsL_law := wm2 (List.mem_of_getElem? (i := 194) rfl) rfl
theorem w2_195 : Cond.instanceMethod yX5_restore ∈ wsL_law := wm2 (List.mem_of_getElem? (i := 195) rfl) rfl
theorem w2_196 : Cond.selects RX5 yX5_restore yX5_restore ∈ wsL_law := wm2 (List.mem_of_getElem? (i := 196) rfl) rfl
theorem w2_197 : Cond.code yX5_restore cX5_restore 2 (Option.some FieldType.int) ∈ wsL_law := wm2 (List.mem_of_getElem? (i := 197) rfl) rfl
theorem w2_198 : Cond.methodLink RX5 151 yX1_giveBack ∈ wsL_law := wm2 (List.mem_of_getElem? (i := 198) rfl) rfl
theorem w2_199 : Cond.instanceMethod yX1_giveBack ∈ wsL_law := wm2 (List.mem_of_getElem? (i := 199) rfl) rfl
theorem w2_200 : Cond.selects RX1 yX1_giveBack yX1_giveBack ∈ wsL_law := wm2 (List.mem_of_getElem? (i := 200) rfl) rfl
theorem w2_201 : Cond.code yX1_giveBack cX1_giveBack 2 (Option.some FieldType.int) ∈ wsL_law := wm2 (List.mem_of_getElem? (i := 201) rfl) rfl
theorem w2_202 : Cond.methodLink RL 81 yX5_count ∈ wsL_law := wm2 (List.mem_of_getElem? (i := 202) rfl) rfl
theorem w2_203 : Cond.instanceMethod yX5_count ∈ wsL_law := wm2 (List.mem_of_getElem? (i := 203) rfl) rfl
theorem w2_204 : Cond.selects RX5 yX5_count yX5_count ∈ wsL_law := wm2 (List.mem_of_getElem? (i := 204) rfl) rfl
theorem w2_205 : Cond.code yX5_count cX5_count 2 (Option.some FieldType.int) ∈ wsL_law := wm2 (List.mem_of_getElem? (i := 205) rfl) rfl
theorem w2_206 : Cond.methodLink RX5 155 yX5_slotsWithNumbers ∈ wsL_law := wm2 (List.mem_of_getElem? (i := 206) rfl) rfl
theorem w2_208 : Cond.instanceMethod yX5_slotsWithNumbers ∈ wsL_law := wm2 (List.mem_of_getElem? (i := 208) rfl) rfl
theorem w2_209 : Cond.code yX5_slotsWithNumbers cX5_slotsWithNumbers 3 (Option.some FieldType.int) ∈ wsL_law := wm2 (List.mem_of_getElem? (i := 209) rfl) rfl
theorem w2_210 : Cond.methodLink RX5 159 yX5_unlikeSets ∈ wsL_law := wm2 (List.mem_of_getElem? (i := 210) rfl) rfl
theorem w2_212 : Cond.instanceMethod yX5_unlikeSets ∈ wsL_law := wm2 (List.mem_of_getElem? (i := 212) rfl) rfl
theorem w2_213 : Cond.code yX5_unlikeSets cX5_unlikeSets 3 (Option.some FieldType.int) ∈ wsL_law := wm2 (List.mem_of_getElem? (i := 213) rfl) rfl
theorem w2_214 : Cond.methodLink RX5 214 yX5_heldBefore ∈ wsL_law := wm2 (List.mem_of_getElem? (i := 214) rfl) rfl
theorem w2_216 : Cond.instanceMethod yX5_heldBefore ∈ wsL_law := wm2 (List.mem_of_getElem? (i := 216) rfl) rfl
theorem w2_217 : Cond.code yX5_heldBefore cX5_heldBefore 3 (Option.some FieldType.boolean) ∈ wsL_law := wm2 (List.mem_of_getElem? (i := 217) rfl) rfl
theorem w2_218 : Cond.methodLink RX5 162 yX5_statesOfAll ∈ wsL_law := wm2 (List.mem_of_getElem? (i := 218) rfl) rfl
theorem w2_220 : Cond.instanceMethod yX5_statesOfAll ∈ wsL_law := wm2 (List.mem_of_getElem? (i := 220) rfl) rfl
theorem w2_221 : Cond.code yX5_statesOfAll cX5_statesOfAll 3 (Option.some FieldType.int) ∈ wsL_law := wm2 (List.mem_of_getElem? (i := 221) rfl) rfl
theorem w2_222 : Cond.methodLink RX5 165 yX5_imagesKept ∈ wsL_law := wm2 (List.mem_of_getElem? (i := 222) rfl) rfl
theorem w2_224 : Cond.instanceMethod yX5_imagesKept ∈ wsL_law := wm2 (List.mem_of_getElem? (i := 224) rfl) rfl
theorem w2_225 : Cond.code yX5_imagesKept cX5_imagesKept 3 (Option.some FieldType.int) ∈ wsL_law := wm2 (List.mem_of_getElem? (i := 225) rfl) rfl
theorem w2_226 : Cond.classLink RL 10 RX6 ∈ wsL_law := wm2 (List.mem_of_getElem? (i := 226) rfl) rfl
theorem w2_227 : Cond.instantiable RX6 12 ∈ wsL_law := wm2 (List.mem_of_getElem? (i := 227) rfl) rfl
theorem w2_228 : Cond.methodLink RL 12 yX6_init ∈ wsL_law := wm2 (List.mem_of_getElem? (i := 228) rfl) rfl
theorem w2_229 : Cond.instanceMethod yX6_init ∈ wsL_law := wm2 (List.mem_of_getElem? (i := 229) rfl) rfl
theorem w2_230 : Cond.code yX6_init cX6_init 2 none ∈ wsL_law := wm2 (List.mem_of_getElem? (i := 230) rfl) rfl
theorem w2_231 : Cond.methodLink RX6 1 objectInit ∈ wsL_law := wm2 (List.mem_of_getElem? (i := 231) rfl) rfl
theorem w2_232 : Cond.fieldLink RX6 7 "NumberMachinesModel" "base" "I" ∈ wsL_law := wm2 (List.mem_of_getElem? (i := 232) rfl) rfl
theorem w2_233 : Cond.fieldLink RX6 13 "NumberMachinesModel" "starts" "[I" ∈ wsL_law := wm2 (List.mem_of_getElem? (i := 233) rfl) rfl
theorem w2_234 : Cond.fieldLink RX6 17 "NumberMachinesModel" "periods" "[I" ∈ wsL_law := wm2 (List.mem_of_getElem? (i := 234) rfl) rfl
theorem w2_235 : Cond.fieldLink RX6 20 "NumberMachinesModel" "bits" "[J" ∈ wsL_law := wm2 (List.mem_of_getElem? (i := 235) rfl) rfl
theorem w2_236 : Cond.fieldLink RX6 24 "NumberMachinesModel" "row" "[Z" ∈ wsL_law := wm2 (List.mem_of_getElem? (i := 236) rfl) rfl
theorem w2_237 : Cond.fieldLink RX6 44 "NumberMachinesModel" "from" "I" ∈ wsL_law := wm2 (List.mem_of_getElem? (i := 237) rfl) rfl
theorem w2_238 : Cond.fieldLink RX6 47 "NumberMachinesModel" "by" "I" ∈ wsL_law := wm2 (List.mem_of_getElem? (i := 238) rfl) rfl
theorem w2_239 : Cond.fieldLink RX6 28 "NumberMachinesModel" "goes" "[I" ∈ wsL_law := wm2 (List.mem_of_getElem? (i := 239) rfl) rfl
theorem w3_0 : Cond.fieldLink RX6 71 "NumberMachinesModel" "states" "I" ∈ wsL_law := wm3 (List.mem_of_getElem? (i := 0) rfl) rfl
theorem w3_1 : Cond.fieldLink RX6 31 "NumberMachinesModel" "far" "[I" ∈ wsL_law := wm3 (List.mem_of_getElem? (i := 1) rfl) rfl
theorem w3_2 : Cond.fieldLink RX6 34 "NumberMachinesModel" "bases" "[I" ∈ wsL_law := wm3 (List.mem_of_getElem? (i := 2) rfl) rfl
theorem w3_3 : Cond.fieldLink RX6 37 "NumberMachinesModel" "isThere" "[Z" ∈ wsL_law := wm3 (List.mem_of_getElem? (i := 3) rfl) rfl
theorem w3_4 : Cond.lays RX6 "NumberMachinesModel" "base" "I" ∈ wsL_law := wm3 (List.mem_of_getElem? (i := 4) rfl) rfl
theorem w3_6 : Cond.laysFinal RX6 "NumberMachinesModel" "starts" "[I" ∈ wsL_law := wm3 (List.mem_of_getElem? (i := 6) rfl) rfl
theorem w3_8 : Cond.laysFinal RX6 "NumberMachinesModel" "periods" "[I" ∈ wsL_law := wm3 (List.mem_of_getElem? (i := 8) rfl) rfl
theorem w3_10 : Cond.laysFinal RX6 "NumberMachinesModel" "bits" "[J" ∈ wsL_law := wm3 (List.mem_of_getElem? (i := 10) rfl) rfl
theorem w3_12 : Cond.laysFinal RX6 "NumberMachinesModel" "row" "[Z" ∈ wsL_law := wm3 (List.mem_of_getElem? (i := 12) rfl) rfl
theorem w3_14 : Cond.lays RX6 "NumberMachinesModel" "from" "I" ∈ wsL_law := wm3 (List.mem_of_getElem? (i := 14) rfl) rfl
theorem w3_16 : Cond.lays RX6 "NumberMachinesModel" "by" "I" ∈ wsL_law := wm3 (List.mem_of_getElem? (i := 16) rfl) rfl
theorem w3_18 : Cond.laysFinal RX6 "NumberMachinesModel" "goes" "[I" ∈ wsL_law := wm3 (List.mem_of_getElem? (i := 18) rfl) rfl
theorem w3_20 : Cond.lays RX6 "NumberMachinesModel" "states" "I" ∈ wsL_law := wm3 (List.mem_of_getElem? (i := 20) rfl) rfl
theorem w3_22 : Cond.laysFinal RX6 "NumberMachinesModel" "far" "[I" ∈ wsL_law := wm3 (List.mem_of_getElem? (i := 22) rfl) rfl
theorem w3_24 : Cond.laysFinal RX6 "NumberMachinesModel" "bases" "[I" ∈ wsL_law := wm3 (List.mem_of_getElem? (i := 24) rfl) rfl
theorem w3_26 : Cond.laysFinal RX6 "NumberMachinesModel" "isThere" "[Z" ∈ wsL_law := wm3 (List.mem_of_getElem? (i := 26) rfl) rfl
theorem w3_29 : Cond.arrayClass FieldType.boolean ∈ wsL_law := wm3 (List.mem_of_getElem? (i := 29) rfl) rfl
theorem w3_30 : Cond.methodLink RL 17 yX6_base ∈ wsL_law := wm3 (List.mem_of_getElem? (i := 30) rfl) rfl
theorem w3_31 : Cond.instanceMethod yX6_base ∈ wsL_law := wm3 (List.mem_of_getElem? (i := 31) rfl) rfl
theorem w3_32 : Cond.selects RX6 yX6_base yX6_base ∈ wsL_law := wm3 (List.mem_of_getElem? (i := 32) rfl) rfl
theorem w3_33 : Cond.code yX6_base cX6_base 5 (Option.some FieldType.int) ∈ wsL_law := wm3 (List.mem_of_getElem? (i := 33) rfl) rfl
theorem w3_34 : Cond.methodLink RL 22 yX6_put ∈ wsL_law := wm3 (List.mem_of_getElem? (i := 34) rfl) rfl
theorem w3_35 : Cond.instanceMethod yX6_put ∈ wsL_law := wm3 (List.mem_of_getElem? (i := 35) rfl) rfl
theorem w3_36 : Cond.selects RX6 yX6_put yX6_put ∈ wsL_law := wm3 (List.mem_of_getElem? (i := 36) rfl) rfl
theorem w3_37 : Cond.code yX6_put cX6_put 6 (Option.some FieldType.int) ∈ wsL_law := wm3 (List.mem_of_getElem? (i := 37) rfl) rfl
theorem w3_38 : Cond.methodLink RX6 85 yX6_isSlot ∈ wsL_law := wm3 (List.mem_of_getElem? (i := 38) rfl) rfl
theorem w3_39 : Cond.static yX6_isSlot ∈ wsL_law := wm3 (List.mem_of_getElem? (i := 39) rfl) rfl
theorem w3_40 : Cond.code yX6_isSlot cX6_isSlot 1 (Option.some FieldType.boolean) ∈ wsL_law := wm3 (List.mem_of_getElem? (i := 40) rfl) rfl
theorem w3_41 : Cond.methodLink RX6 40 yX6_in ∈ wsL_law := wm3 (List.mem_of_getElem? (i := 41) rfl) rfl
theorem w3_42 : Cond.static yX6_in ∈ wsL_law := wm3 (List.mem_of_getElem? (i := 42) rfl) rfl
theorem w3_43 : Cond.code yX6_in cX6_in 3 (Option.some FieldType.boolean) ∈ wsL_law := wm3 (List.mem_of_getElem? (i := 43) rfl) rfl
theorem w3_44 : Cond.methodLink RX6 88 yX6_keep ∈ wsL_law := wm3 (List.mem_of_getElem? (i := 44) rfl) rfl
theorem w3_46 : Cond.instanceMethod yX6_keep ∈ wsL_law := wm3 (List.mem_of_getElem? (i := 46) rfl) rfl
theorem w3_47 : Cond.code yX6_keep cX6_keep 2 (Option.some FieldType.int) ∈ wsL_law := wm3 (List.mem_of_getElem? (i := 47) rfl) rfl
theorem w3_48 : Cond.methodLink RX6 64 yX6_isKept ∈ wsL_law := wm3 (List.mem_of_getElem? (i := 48) rfl) rfl
theorem w3_50 : Cond.instanceMethod yX6_isKept ∈ wsL_law := wm3 (List.mem_of_getElem? (i := 50) rfl) rfl
theorem w3_51 : Cond.code yX6_isKept cX6_isKept 3 (Option.some FieldType.boolean) ∈ wsL_law := wm3 (List.mem_of_getElem? (i := 51) rfl) rfl
theorem w3_52 : Cond.methodLink RX6 57 yX6_shorten ∈ wsL_law := wm3 (List.mem_of_getElem? (i := 52) rfl) rfl
theorem w3_54 : Cond.instanceMethod yX6_shorten ∈ wsL_law := wm3 (List.mem_of_getElem? (i := 54) rfl) rfl
theorem w3_55 : Cond.code yX6_shorten cX6_shorten 3 none ∈ wsL_law := wm3 (List.mem_of_getElem? (i := 55) rfl) rfl
theorem w3_56 : Cond.methodLink RX6 50 yX6_comesRound ∈ wsL_law := wm3 (List.mem_of_getElem? (i := 56) rfl) rfl
theorem w3_58 : Cond.instanceMethod yX6_comesRound ∈ wsL_law := wm3 (List.mem_of_getElem? (i := 58) rfl) rfl
theorem w3_59 : Cond.code yX6_comesRound cX6_comesRound 4 (Option.some FieldType.boolean) ∈ wsL_law := wm3 (List.mem_of_getElem? (i := 59) rfl) rfl
theorem w3_60 : Cond.methodLink RX6 54 yX6_inRow ∈ wsL_law := wm3 (List.mem_of_getElem? (i := 60) rfl) rfl
theorem w3_62 : Cond.instanceMethod yX6_inRow ∈ wsL_law := wm3 (List.mem_of_getElem? (i := 62) rfl) rfl
theorem w3_63 : Cond.code yX6_inRow cX6_inRow 2 (Option.some FieldType.boolean) ∈ wsL_law := wm3 (List.mem_of_getElem? (i := 63) rfl) rfl
theorem w3_64 : Cond.methodLink RX6 67 yX6_copy ∈ wsL_law := wm3 (List.mem_of_getElem? (i := 64) rfl) rfl
theorem w3_66 : Cond.instanceMethod yX6_copy ∈ wsL_law := wm3 (List.mem_of_getElem? (i := 66) rfl) rfl
theorem w3_67 : Cond.code yX6_copy cX6_copy 4 none ∈ wsL_law := wm3 (List.mem_of_getElem? (i := 67) rfl) rfl
theorem w3_68 : Cond.methodLink RX6 81 yX6_layMachine ∈ wsL_law := wm3 (List.mem_of_getElem? (i := 68) rfl) rfl
theorem w3_70 : Cond.instanceMethod yX6_layMachine ∈ wsL_law := wm3 (List.mem_of_getElem? (i := 70) rfl) rfl
theorem w3_71 : Cond.code yX6_layMachine cX6_layMachine 5 none ∈ wsL_law := wm3 (List.mem_of_getElem? (i := 71) rfl) rfl
theorem w3_72 : Cond.methodLink RX6 74 yX6_layRest ∈ wsL_law := wm3 (List.mem_of_getElem? (i := 72) rfl) rfl
theorem w3_74 : Cond.instanceMethod yX6_layRest ∈ wsL_law := wm3 (List.mem_of_getElem? (i := 74) rfl) rfl
theorem w3_75 : Cond.code yX6_layRest cX6_layRest 5 none ∈ wsL_law := wm3 (List.mem_of_getElem? (i := 75) rfl) rfl
theorem w3_76 : Cond.methodLink RX6 60 yX6_isIn ∈ wsL_law := wm3 (List.mem_of_getElem? (i := 76) rfl) rfl
theorem w3_78 : Cond.instanceMethod yX6_isIn ∈ wsL_law := wm3 (List.mem_of_getElem? (i := 78) rfl) rfl
theorem w3_79 : Cond.code yX6_isIn cX6_isIn 6 (Option.some FieldType.boolean) ∈ wsL_law := wm3 (List.mem_of_getElem? (i := 79) rfl) rfl
theorem w3_80 : Cond.methodLink RX6 78 yX6_areSame ∈ wsL_law := wm3 (List.mem_of_getElem? (i := 80) rfl) rfl
theorem w3_82 : Cond.instanceMethod yX6_areSame ∈ wsL_law := wm3 (List.mem_of_getElem? (i := 82) rfl) rfl
theorem w3_83 : Cond.code yX6_areSame cX6_areSame 5 (Option.some FieldType.boolean) ∈ wsL_law := wm3 (List.mem_of_getElem? (i := 83) rfl) rfl
theorem w3_84 : Cond.methodLink RL 26 yX6_join ∈ wsL_law := wm3 (List.mem_of_getElem? (i := 84) rfl) rfl
theorem w3_85 : Cond.instanceMethod yX6_join ∈ wsL_law := wm3 (List.mem_of_getElem? (i := 85) rfl) rfl
theorem w3_86 : Cond.selects RX6 yX6_join yX6_join ∈ wsL_law := wm3 (List.mem_of_getElem? (i := 86) rfl) rfl
theorem w3_87 : Cond.code yX6_join cX6_join 8 (Option.some FieldType.int) ∈ wsL_law := wm3 (List.mem_of_getElem? (i := 87) rfl) rfl
theorem w3_88 : Cond.methodLink RX6 96 yX6_later ∈ wsL_law := wm3 (List.mem_of_getElem? (i := 88) rfl) rfl
theorem w3_90 : Cond.instanceMethod yX6_later ∈ wsL_law := wm3 (List.mem_of_getElem? (i := 90) rfl) rfl
theorem w3_91 : Cond.code yX6_later cX6_later 3 (Option.some FieldType.int) ∈ wsL_law := wm3 (List.mem_of_getElem? (i := 91) rfl) rfl
theorem w3_92 : Cond.methodLink RX6 99 yX6_together ∈ wsL_law := wm3 (List.mem_of_getElem? (i := 92) rfl) rfl
theorem w3_94 : Cond.instanceMethod yX6_together ∈ wsL_law := wm3 (List.mem_of_getElem? (i := 94) rfl) rfl
theorem w3_95 : Cond.code yX6_together cX6_together 3 (Option.some FieldType.int) ∈ wsL_law := wm3 (List.mem_of_getElem? (i := 95) rfl) rfl
theorem w3_96 : Cond.methodLink RX6 92 yX6_common ∈ wsL_law := wm3 (List.mem_of_getElem? (i := 96) rfl) rfl
theorem w3_97 : Cond.static yX6_common ∈ wsL_law := wm3 (List.mem_of_getElem? (i := 97) rfl) rfl
theorem w3_98 : Cond.code yX6_common cX6_common 6 (Option.some FieldType.int) ∈ wsL_law := wm3 (List.mem_of_getElem? (i := 98) rfl) rfl
theorem w3_99 : Cond.methodLink RL 31 yX6_turn ∈ wsL_law := wm3 (List.mem_of_getElem? (i := 99) rfl) rfl
theorem w3_100 : Cond.instanceMethod yX6_turn ∈ wsL_law := wm3 (List.mem_of_getElem? (i := 100) rfl) rfl
theorem w3_101 : Cond.selects RX6 yX6_turn yX6_turn ∈ wsL_law := wm3 (List.mem_of_getElem? (i := 101) rfl) rfl
theorem w3_102 : Cond.code yX6_turn cX6_turn 4 (Option.some FieldType.int) ∈ wsL_law := wm3 (List.mem_of_getElem? (i := 102) rfl) rfl
theorem w3_103 : Cond.methodLink RL 36 yX6_shift ∈ wsL_law := wm3 (List.mem_of_getElem? (i := 103) rfl) rfl
theorem w3_104 : Cond.instanceMethod yX6_shift ∈ wsL_law := wm3 (List.mem_of_getElem? (i := 104) rfl) rfl
theorem w3_105 : Cond.selects RX6 yX6_shift yX6_shift ∈ wsL_law := wm3 (List.mem_of_getElem? (i := 105) rfl) rfl
theorem w3_106 : Cond.code yX6_shift cX6_shift 5 (Option.some FieldType.int) ∈ wsL_law := wm3 (List.mem_of_getElem? (i := 106) rfl) rfl
theorem w3_107 : Cond.methodLink RL 40 yX6_stretch ∈ wsL_law := wm3 (List.mem_of_getElem? (i := 107) rfl) rfl
theorem w3_108 : Cond.instanceMethod yX6_stretch ∈ wsL_law := wm3 (List.mem_of_getElem? (i := 108) rfl) rfl
theorem w3_109 : Cond.selects RX6 yX6_stretch yX6_stretch ∈ wsL_law := wm3 (List.mem_of_getElem? (i := 109) rfl) rfl
theorem w3_110 : Cond.code yX6_stretch cX6_stretch 6 (Option.some FieldType.int) ∈ wsL_law := wm3 (List.mem_of_getElem? (i := 110) rfl) rfl
theorem w3_111 : Cond.methodLink RL 44 yX6_shrink ∈ wsL_law := wm3 (List.mem_of_getElem? (i := 111) rfl) rfl
theorem w3_112 : Cond.instanceMethod yX6_shrink ∈ wsL_law := wm3 (List.mem_of_getElem? (i := 112) rfl) rfl
theorem w3_113 : Cond.selects RX6 yX6_shrink yX6_shrink ∈ wsL_law := wm3 (List.mem_of_getElem? (i := 113) rfl) rfl
theorem w3_114 : Cond.code yX6_shrink cX6_shrink 6 (Option.some FieldType.int) ∈ wsL_law := wm3 (List.mem_of_getElem? (i := 114) rfl) rfl
theorem w3_115 : Cond.methodLink RL 48 yX6_told ∈ wsL_law := wm3 (List.mem_of_getElem? (i := 115) rfl) rfl
theorem w3_116 : Cond.instanceMethod yX6_told ∈ wsL_law := wm3 (List.mem_of_getElem? (i := 116) rfl) rfl
theorem w3_117 : Cond.selects RX6 yX6_told yX6_told ∈ wsL_law := wm3 (List.mem_of_getElem? (i := 117) rfl) rfl
theorem w3_118 : Cond.code yX6_told cX6_told 7 (Option.some FieldType.int) ∈ wsL_law := wm3 (List.mem_of_getElem? (i := 118) rfl) rfl
theorem w3_119 : Cond.methodLink RX6 102 yX6_isGood ∈ wsL_law := wm3 (List.mem_of_getElem? (i := 119) rfl) rfl
theorem w3_121 : Cond.instanceMethod yX6_isGood ∈ wsL_law := wm3 (List.mem_of_getElem? (i := 121) rfl) rfl
theorem w3_122 : Cond.code yX6_isGood cX6_isGood 2 (Option.some FieldType.boolean) ∈ wsL_law := wm3 (List.mem_of_getElem? (i := 122) rfl) rfl
theorem w3_123 : Cond.methodLink RX6 105 yX6_countUpTo ∈ wsL_law := wm3 (List.mem_of_getElem? (i := 123) rfl) rfl
theorem w3_125 : Cond.instanceMethod yX6_countUpTo ∈ wsL_law := wm3 (List.mem_of_getElem? (i := 125) rfl) rfl
theorem w3_126 : Cond.code yX6_countUpTo cX6_countUpTo 6 (Option.some FieldType.int) ∈ wsL_law := wm3 (List.mem_of_getElem? (i := 126) rfl) rfl
theorem w3_127 : Cond.methodLink RL 52 yX6_state ∈ wsL_law := wm3 (List.mem_of_getElem? (i := 127) rfl) rfl
theorem w3_128 : Cond.instanceMethod yX6_state ∈ wsL_law := wm3 (List.mem_of_getElem? (i := 128) rfl) rfl
theorem w3_129 : Cond.selects RX6 yX6_state yX6_state ∈ wsL_law := wm3 (List.mem_of_getElem? (i := 129) rfl) rfl
theorem w3_130 : Cond.code yX6_state cX6_state 4 (Option.some FieldType.int) ∈ wsL_law := wm3 (List.mem_of_getElem? (i := 130) rfl) rfl
theorem w3_131 : Cond.methodLink RX6 109 yX6_layFar ∈ wsL_law := wm3 (List.mem_of_getElem? (i := 131) rfl) rfl
theorem w3_133 : Cond.instanceMethod yX6_layFar ∈ wsL_law := wm3 (List.mem_of_getElem? (i := 133) rfl) rfl
theorem w3_134 : Cond.code yX6_layFar cX6_layFar 8 none ∈ wsL_law := wm3 (List.mem_of_getElem? (i := 134) rfl) rfl
theorem w3_135 : Cond.methodLink RL 56 yX6_walk ∈ wsL_law := wm3 (List.mem_of_getElem? (i := 135) rfl) rfl
theorem w3_136 : Cond.instanceMethod yX6_walk ∈ wsL_law := wm3 (List.mem_of_getElem? (i := 136) rfl) rfl
theorem w3_137 : Cond.selects RX6 yX6_walk yX6_walk ∈ wsL_law := wm3 (List.mem_of_getElem? (i := 137) rfl) rfl
theorem w3_138 : Cond.code yX6_walk cX6_walk 7 (Option.some FieldType.int) ∈ wsL_law := wm3 (List.mem_of_getElem? (i := 138) rfl) rfl
theorem w3_139 : Cond.methodLink RL 60 yX6_has ∈ wsL_law := wm3 (List.mem_of_getElem? (i := 139) rfl) rfl
theorem w3_140 : Cond.instanceMethod yX6_has ∈ wsL_law := wm3 (List.mem_of_getElem? (i := 140) rfl) rfl
theorem w3_141 : Cond.selects RX6 yX6_has yX6_has ∈ wsL_law := wm3 (List.mem_of_getElem? (i := 141) rfl) rfl
theorem w3_142 : Cond.code yX6_has cX6_has 3 (Option.some FieldType.int) ∈ wsL_law := wm3 (List.mem_of_getElem? (i := 142) rfl) rfl
theorem w3_143 : Cond.constant RX6 113 (1000000000 : Int32) ∈ wsL_law := wm3 (List.mem_of_getElem? (i := 143) rfl) rfl
theorem w3_144 : Cond.methodLink RL 64 yX6_next ∈ wsL_law := wm3 (List.mem_of_getElem? (i := 144) rfl) rfl
theorem w3_145 : Cond.instanceMethod yX6_next ∈ wsL_law := wm3 (List.mem_of_getElem? (i := 145) rfl) rfl
theorem w3_146 : Cond.selects RX6 yX6_next yX6_next ∈ wsL_law := wm3 (List.mem_of_getElem? (i := 146) rfl) rfl
theorem w3_147 : Cond.code yX6_next cX6_next 4 (Option.some FieldType.int) ∈ wsL_law := wm3 (List.mem_of_getElem? (i := 147) rfl) rfl
theorem w3_148 : Cond.methodLink RL 68 yX6_below ∈ wsL_law := wm3 (List.mem_of_getElem? (i := 148) rfl) rfl
theorem w3_149 : Cond.instanceMethod yX6_below ∈ wsL_law := wm3 (List.mem_of_getElem? (i := 149) rfl) rfl
theorem w3_150 : Cond.selects RX6 yX6_below yX6_below ∈ wsL_law := wm3 (List.mem_of_getElem? (i := 150) rfl) rfl
theorem w3_151 : Cond.code yX6_below cX6_below 6 (Option.some FieldType.int) ∈ wsL_law := wm3 (List.mem_of_getElem? (i := 151) rfl) rfl
theorem w3_152 : Cond.methodLink RL 72 yX6_alike ∈ wsL_law := wm3 (List.mem_of_getElem? (i := 152) rfl) rfl
theorem w3_153 : Cond.instanceMethod yX6_alike ∈ wsL_law := wm3 (List.mem_of_getElem? (i := 153) rfl) rfl
theorem w3_154 : Cond.selects RX6 yX6_alike yX6_alike ∈ wsL_law := wm3 (List.mem_of_getElem? (i := 154) rfl) rfl
theorem w3_155 : Cond.code yX6_alike cX6_alike 10 (Option.some FieldType.int) ∈ wsL_law := wm3 (List.mem_of_getElem? (i := 155) rfl) rfl
theorem w3_156 : Cond.methodLink RL 76 yX6_image ∈ wsL_law := wm3 (List.mem_of_getElem? (i := 156) rfl) rfl
theorem w3_157 : Cond.instanceMethod yX6_image ∈ wsL_law := wm3 (List.mem_of_getElem? (i := 157) rfl) rfl
theorem w3_158 : Cond.selects RX6 yX6_image yX6_image ∈ wsL_law := wm3 (List.mem_of_getElem? (i := 158) rfl) rfl
theorem w3_159 : Cond.code yX6_image cX6_image 3 (Option.some FieldType.int) ∈ wsL_law := wm3 (List.mem_of_getElem? (i := 159) rfl) rfl
theorem w3_160 : Cond.methodLink RL 80 yX6_restore ∈ wsL_law := wm3 (List.mem_of_getElem? (i := 160) rfl) rfl
theorem w3_161 : Cond.instanceMethod yX6_restore ∈ wsL_law := wm3 (List.mem_of_getElem? (i := 161) rfl) rfl
theorem w3_162 : Cond.selects RX6 yX6_restore yX6_restore ∈ wsL_law := wm3 (List.mem_of_getElem? (i := 162) rfl) rfl
theorem w3_163 : Cond.code yX6_restore cX6_restore 3 (Option.some FieldType.int) ∈ wsL_law := wm3 (List.mem_of_getElem? (i := 163) rfl) rfl
theorem w3_164 : Cond.methodLink RL 84 yX6_count ∈ wsL_law := wm3 (List.mem_of_getElem? (i := 164) rfl) rfl
theorem w3_165 : Cond.instanceMethod yX6_count ∈ wsL_law := wm3 (List.mem_of_getElem? (i := 165) rfl) rfl
theorem w3_166 : Cond.selects RX6 yX6_count yX6_count ∈ wsL_law := wm3 (List.mem_of_getElem? (i := 166) rfl) rfl
theorem w3_167 : Cond.code yX6_count cX6_count 7 (Option.some FieldType.int) ∈ wsL_law := wm3 (List.mem_of_getElem? (i := 167) rfl) rfl
theorem w3_168 : Cond.methodLink RX6 114 yX6_allStates ∈ wsL_law := wm3 (List.mem_of_getElem? (i := 168) rfl) rfl
theorem w3_170 : Cond.instanceMethod yX6_allStates ∈ wsL_law := wm3 (List.mem_of_getElem? (i := 170) rfl) rfl
theorem w3_171 : Cond.code yX6_allStates cX6_allStates 3 (Option.some FieldType.int) ∈ wsL_law := wm3 (List.mem_of_getElem? (i := 171) rfl) rfl
theorem ws_0 : Cond.selects RX5 yX5_emptyAll yX5_emptyAll ∈ wsL_law := wms (List.mem_of_getElem? (i := 0) rfl) rfl
theorem ws_1 : Cond.selects RX5 yX5_drafted yX5_drafted ∈ wsL_law := wms (List.mem_of_getElem? (i := 1) rfl) rfl
theorem ws_2 : Cond.selects RX0 yX0_leastPeriod yX0_leastPeriod ∈ wsL_law := wms (List.mem_of_getElem? (i := 2) rfl) rfl
theorem ws_3 : Cond.selects RX0 yX0_comesRoundBy yX0_comesRoundBy ∈ wsL_law := wms (List.mem_of_getElem? (i := 3) rfl) rfl
theorem ws_4 : Cond.selects RX0 yX0_leastStart yX0_leastStart ∈ wsL_law := wms (List.mem_of_getElem? (i := 4) rfl) rfl
theorem ws_5 : Cond.selects RX0 yX0_clearBehind yX0_clearBehind ∈ wsL_law := wms (List.mem_of_getElem? (i := 5) rfl) rfl
theorem ws_6 : Cond.selects RX4 yX4_writeRest yX4_writeRest ∈ wsL_law := wms (List.mem_of_getElem? (i := 6) rfl) rfl
theorem ws_7 : Cond.selects RX4 yX4_metAs yX4_metAs ∈ wsL_law := wms (List.mem_of_getElem? (i := 7) rfl) rfl
theorem ws_8 : Cond.selects RX4 yX4_sameRows yX4_sameRows ∈ wsL_law := wms (List.mem_of_getElem? (i := 8) rfl) rfl
theorem ws_9 : Cond.selects RX5 yX5_unknown yX5_unknown ∈ wsL_law := wms (List.mem_of_getElem? (i := 9) rfl) rfl
theorem ws_10 : Cond.selects RX5 yX5_draftKind yX5_draftKind ∈ wsL_law := wms (List.mem_of_getElem? (i := 10) rfl) rfl
theorem ws_11 : Cond.selects RX5 yX5_hold yX5_hold ∈ wsL_law := wms (List.mem_of_getElem? (i := 11) rfl) rfl
theorem ws_12 : Cond.selects RX5 yX5_draftJoin yX5_draftJoin ∈ wsL_law := wms (List.mem_of_getElem? (i := 12) rfl) rfl
theorem ws_13 : Cond.selects RX5 yX5_draftTurn yX5_draftTurn ∈ wsL_law := wms (List.mem_of_getElem? (i := 13) rfl) rfl
theorem ws_14 : Cond.selects RX5 yX5_draftShift yX5_draftShift ∈ wsL_law := wms (List.mem_of_getElem? (i := 14) rfl) rfl
theorem ws_15 : Cond.selects RX5 yX5_draftStretch yX5_draftStretch ∈ wsL_law := wms (List.mem_of_getElem? (i := 15) rfl) rfl
theorem ws_16 : Cond.selects RX5 yX5_draftShrink yX5_draftShrink ∈ wsL_law := wms (List.mem_of_getElem? (i := 16) rfl) rfl
theorem ws_17 : Cond.selects RX3 yX3_placesBefore yX3_placesBefore ∈ wsL_law := wms (List.mem_of_getElem? (i := 17) rfl) rfl
theorem ws_18 : Cond.selects RX2 yX2_afterAnyOf yX2_afterAnyOf ∈ wsL_law := wms (List.mem_of_getElem? (i := 18) rfl) rfl
theorem ws_19 : Cond.selects RX5 yX5_noImage yX5_noImage ∈ wsL_law := wms (List.mem_of_getElem? (i := 19) rfl) rfl
theorem ws_20 : Cond.selects RX5 yX5_slotsWithNumbers yX5_slotsWithNumbers ∈ wsL_law := wms (List.mem_of_getElem? (i := 20) rfl) rfl
theorem ws_21 : Cond.selects RX5 yX5_unlikeSets yX5_unlikeSets ∈ wsL_law := wms (List.mem_of_getElem? (i := 21) rfl) rfl
theorem ws_22 : Cond.selects RX5 yX5_heldBefore yX5_heldBefore ∈ wsL_law := wms (List.mem_of_getElem? (i := 22) rfl) rfl
theorem ws_23 : Cond.selects RX5 yX5_statesOfAll yX5_statesOfAll ∈ wsL_law := wms (List.mem_of_getElem? (i := 23) rfl) rfl
theorem ws_24 : Cond.selects RX5 yX5_imagesKept yX5_imagesKept ∈ wsL_law := wms (List.mem_of_getElem? (i := 24) rfl) rfl
theorem ws_25 : Cond.selects RX6 yX6_keep yX6_keep ∈ wsL_law := wms (List.mem_of_getElem? (i := 25) rfl) rfl
theorem ws_26 : Cond.selects RX6 yX6_isKept yX6_isKept ∈ wsL_law := wms (List.mem_of_getElem? (i := 26) rfl) rfl
theorem ws_27 : Cond.selects RX6 yX6_shorten yX6_shorten ∈ wsL_law := wms (List.mem_of_getElem? (i := 27) rfl) rfl
theorem ws_28 : Cond.selects RX6 yX6_comesRound yX6_comesRound ∈ wsL_law := wms (List.mem_of_getElem? (i := 28) rfl) rfl
theorem ws_29 : Cond.selects RX6 yX6_inRow yX6_inRow ∈ wsL_law := wms (List.mem_of_getElem? (i := 29) rfl) rfl
theorem ws_30 : Cond.selects RX6 yX6_copy yX6_copy ∈ wsL_law := wms (List.mem_of_getElem? (i := 30) rfl) rfl
theorem ws_31 : Cond.selects RX6 yX6_layMachine yX6_layMachine ∈ wsL_law := wms (List.mem_of_getElem? (i := 31) rfl) rfl
theorem ws_32 : Cond.selects RX6 yX6_layRest yX6_layRest ∈ wsL_law := wms (List.mem_of_getElem? (i := 32) rfl) rfl
theorem ws_33 : Cond.selects RX6 yX6_isIn yX6_isIn ∈ wsL_law := wms (List.mem_of_getElem? (i := 33) rfl) rfl
theorem ws_34 : Cond.selects RX6 yX6_areSame yX6_areSame ∈ wsL_law := wms (List.mem_of_getElem? (i := 34) rfl) rfl
theorem ws_35 : Cond.selects RX6 yX6_later yX6_later ∈ wsL_law := wms (List.mem_of_getElem? (i := 35) rfl) rfl
theorem ws_36 : Cond.selects RX6 yX6_together yX6_together ∈ wsL_law := wms (List.mem_of_getElem? (i := 36) rfl) rfl
theorem ws_37 : Cond.selects RX6 yX6_isGood yX6_isGood ∈ wsL_law := wms (List.mem_of_getElem? (i := 37) rfl) rfl
theorem ws_38 : Cond.selects RX6 yX6_countUpTo yX6_countUpTo ∈ wsL_law := wms (List.mem_of_getElem? (i := 38) rfl) rfl
theorem ws_39 : Cond.selects RX6 yX6_layFar yX6_layFar ∈ wsL_law := wms (List.mem_of_getElem? (i := 39) rfl) rfl
theorem ws_40 : Cond.selects RX6 yX6_allStates yX6_allStates ∈ wsL_law := wms (List.mem_of_getElem? (i := 40) rfl) rfl
theorem inlX0 : ∀ w ∈ wsX00, w ∈ wsL_law := by
  intro w h
  obtain ⟨k, hk, rfl⟩ := List.mem_map.mp h
  have hk := List.mem_range.mp hk
  match k, hk with
  | 0, _ => exact w1_39
  | 1, _ => exact w1_41
  | 2, _ => exact w1_43
  | k + 3, hk => exact absurd hk (by omega)
theorem inlX1 : ∀ w ∈ wsX10, w ∈ wsL_law := by
  intro w h
  obtain ⟨k, hk, rfl⟩ := List.mem_map.mp h
  have hk := List.mem_range.mp hk
  match k, hk with
  | 0, _ => exact w1_83
  | 1, _ => exact w1_85
  | 2, _ => exact w1_87
  | k + 3, hk => exact absurd hk (by omega)
theorem inlX2 : ∀ w ∈ wsX20, w ∈ wsL_law := by
  intro w h
  obtain ⟨k, hk, rfl⟩ := List.mem_map.mp h
  have hk := List.mem_range.mp hk
  match k, hk with
  | 0, _ => exact w1_194
  | 1, _ => exact w1_196
  | 2, _ => exact w1_198
  | 3, _ => exact w1_200
  | k + 4, hk => exact absurd hk (by omega)
theorem inlX3 : ∀ w ∈ wsX30, w ∈ wsL_law := by
  intro w h
  obtain ⟨k, hk, rfl⟩ := List.mem_map.mp h
  have hk := List.mem_range.mp hk
  match k, hk with
  | 0, _ => exact w1_222
  | 1, _ => exact w1_224
  | 2, _ => exact w1_226
  | 3, _ => exact w1_228
  | k + 4, hk => exact absurd hk (by omega)
theorem inlX4 : ∀ w ∈ wsX40, w ∈ wsL_law := by
  intro w h
  obtain ⟨k, hk, rfl⟩ := List.mem_map.mp h
  have hk := List.mem_range.mp hk
  match k, hk with
  | 0, _ => exact w1_59
  | 1, _ => exact w1_61
  | 2, _ => exact w1_63
  | 3, _ => exact w1_65
  | 4, _ => exact w1_67
  | 5, _ => exact w1_69
  | k + 6, hk => exact absurd hk (by omega)
theorem inlX5 : ∀ w ∈ wsX50, w ∈ wsL_law := by
  intro w h
  obtain ⟨k, hk, rfl⟩ := List.mem_map.mp h
  have hk := List.mem_range.mp hk
  match k, hk with
  | 0, _ => exact w1_236
  | 1, _ => exact w1_238
  | 2, _ => exact w2_0
  | 3, _ => exact w2_2
  | 4, _ => exact w2_4
  | k + 5, hk => exact absurd hk (by omega)
theorem inlX6 : ∀ w ∈ wsX60, w ∈ wsL_law := by
  intro w h
  obtain ⟨k, hk, rfl⟩ := List.mem_map.mp h
  have hk := List.mem_range.mp hk
  match k, hk with
  | 0, _ => exact w3_4
  | 1, _ => exact w3_6
  | 2, _ => exact w3_8
  | 3, _ => exact w3_10
  | 4, _ => exact w3_12
  | 5, _ => exact w3_14
  | 6, _ => exact w3_16
  | 7, _ => exact w3_18
  | 8, _ => exact w3_20
  | 9, _ => exact w3_22
  | 10, _ => exact w3_24
  | 11, _ => exact w3_26
  | k + 12, hk => exact absurd hk (by omega)
end
section
theorem dX0_init_0 : decode cX0_init 0 = .ok (.aload_n 0, 1) := by decide +kernel
theorem dX0_init_1 : decode cX0_init 1 = .ok (.invokespecial 3, 3) := by decide +kernel
theorem dX0_init_4 : decode cX0_init 4 = .ok (.aload_n 0, 1) := by decide +kernel
theorem dX0_init_5 : decode cX0_init 5 = .ok (.bipush 59, 2) := by decide +kernel
theorem dX0_init_7 : decode cX0_init 7 = .ok (.newarray .long, 2) := by decide +kernel
theorem dX0_init_9 : decode cX0_init 9 = .ok (.putfield 9, 3) := by decide +kernel
theorem dX0_init_12 : decode cX0_init 12 = .ok (.return_, 1) := by decide +kernel
theorem dX0_open_0 : decode cX0_open 0 = .ok (.aload_n 0, 1) := by decide +kernel
theorem dX0_open_1 : decode cX0_open 1 = .ok (.iconst 0, 1) := by decide +kernel
theorem dX0_open_2 : decode cX0_open 2 = .ok (.iload_n 1, 1) := by decide +kernel
theorem dX0_open_3 : decode cX0_open 3 = .ok (.invokestatic 15, 3) := by decide +kernel
theorem dX0_open_6 : decode cX0_open 6 = .ok (.putfield 21, 3) := by decide +kernel
theorem dX0_open_9 : decode cX0_open 9 = .ok (.aload_n 0, 1) := by decide +kernel
theorem dX0_open_10 : decode cX0_open 10 = .ok (.iconst 1, 1) := by decide +kernel
theorem dX0_open_11 : decode cX0_open 11 = .ok (.iload_n 2, 1) := by decide +kernel
theorem dX0_open_12 : decode cX0_open 12 = .ok (.invokestatic 15, 3) := by decide +kernel
theorem dX0_open_15 : decode cX0_open 15 = .ok (.putfield 25, 3) := by decide +kernel
theorem dX0_open_18 : decode cX0_open 18 = .ok (.aload_n 0, 1) := by decide +kernel
theorem dX0_open_19 : decode cX0_open 19 = .ok (.getfield 9, 3) := by decide +kernel
theorem dX0_open_22 : decode cX0_open 22 = .ok (.lconst 0, 1) := by decide +kernel
theorem dX0_open_23 : decode cX0_open 23 = .ok (.invokestatic 28, 3) := by decide +kernel
theorem dX0_open_26 : decode cX0_open 26 = .ok (.return_, 1) := by decide +kernel
theorem dX0_length_0 : decode cX0_length 0 = .ok (.aload_n 0, 1) := by decide +kernel
theorem dX0_length_1 : decode cX0_length 1 = .ok (.getfield 21, 3) := by decide +kernel
theorem dX0_length_4 : decode cX0_length 4 = .ok (.aload_n 0, 1) := by decide +kernel
theorem dX0_length_5 : decode cX0_length 5 = .ok (.getfield 25, 3) := by decide +kernel
theorem dX0_length_8 : decode cX0_length 8 = .ok (.iadd, 1) := by decide +kernel
theorem dX0_length_9 : decode cX0_length 9 = .ok (.ireturn, 1) := by decide +kernel
theorem dX0_mark_0 : decode cX0_mark 0 = .ok (.aload_n 0, 1) := by decide +kernel
theorem dX0_mark_1 : decode cX0_mark 1 = .ok (.getfield 9, 3) := by decide +kernel
theorem dX0_mark_4 : decode cX0_mark 4 = .ok (.iload_n 1, 1) := by decide +kernel
theorem dX0_mark_5 : decode cX0_mark 5 = .ok (.invokestatic 34, 3) := by decide +kernel
theorem dX0_mark_8 : decode cX0_mark 8 = .ok (.return_, 1) := by decide +kernel
theorem dX0_reduce_0 : decode cX0_reduce 0 = .ok (.aload_n 0, 1) := by decide +kernel
theorem dX0_reduce_1 : decode cX0_reduce 1 = .ok (.invokevirtual 38, 3) := by decide +kernel
theorem dX0_reduce_4 : decode cX0_reduce 4 = .ok (.istore_n 1, 1) := by decide +kernel
theorem dX0_reduce_5 : decode cX0_reduce 5 = .ok (.iload_n 1, 1) := by decide +kernel
theorem dX0_reduce_6 : decode cX0_reduce 6 = .ok (.ifCond .ne 5, 3) := by decide +kernel
theorem dX0_reduce_9 : decode cX0_reduce 9 = .ok (.iconst 0, 1) := by decide +kernel
theorem dX0_reduce_10 : decode cX0_reduce 10 = .ok (.ireturn, 1) := by decide +kernel
theorem dX0_reduce_11 : decode cX0_reduce 11 = .ok (.aload_n 0, 1) := by decide +kernel
theorem dX0_reduce_12 : decode cX0_reduce 12 = .ok (.iload_n 1, 1) := by decide +kernel
theorem dX0_reduce_13 : decode cX0_reduce 13 = .ok (.putfield 25, 3) := by decide +kernel
theorem dX0_reduce_16 : decode cX0_reduce 16 = .ok (.aload_n 0, 1) := by decide +kernel
theorem dX0_reduce_17 : decode cX0_reduce 17 = .ok (.aload_n 0, 1) := by decide +kernel
theorem dX0_reduce_18 : decode cX0_reduce 18 = .ok (.invokevirtual 42, 3) := by decide +kernel
theorem dX0_reduce_21 : decode cX0_reduce 21 = .ok (.putfield 21, 3) := by decide +kernel
theorem dX0_reduce_24 : decode cX0_reduce 24 = .ok (.aload_n 0, 1) := by decide +kernel
theorem dX0_reduce_25 : decode cX0_reduce 25 = .ok (.invokevirtual 45, 3) := by decide +kernel
theorem dX0_reduce_28 : decode cX0_reduce 28 = .ok (.aload_n 0, 1) := by decide +kernel
theorem dX0_reduce_29 : decode cX0_reduce 29 = .ok (.getfield 21, 3) := by decide +kernel
theorem dX0_reduce_32 : decode cX0_reduce 32 = .ok (.bipush 120, 2) := by decide +kernel
theorem dX0_reduce_34 : decode cX0_reduce 34 = .ok (.if_icmp .gt 7, 3) := by decide +kernel
theorem dX0_reduce_37 : decode cX0_reduce 37 = .ok (.iconst 1, 1) := by decide +kernel
theorem dX0_reduce_38 : decode cX0_reduce 38 = .ok (.goto 4, 3) := by decide +kernel
theorem dX0_reduce_41 : decode cX0_reduce 41 = .ok (.iconst 0, 1) := by decide +kernel
theorem dX0_reduce_42 : decode cX0_reduce 42 = .ok (.ireturn, 1) := by decide +kernel
theorem dX0_leastPeriod_0 : decode cX0_leastPeriod 0 = .ok (.iconst 1, 1) := by decide +kernel
theorem dX0_leastPeriod_1 : decode cX0_leastPeriod 1 = .ok (.istore_n 1, 1) := by decide +kernel
theorem dX0_leastPeriod_2 : decode cX0_leastPeriod 2 = .ok (.iload_n 1, 1) := by decide +kernel
theorem dX0_leastPeriod_3 : decode cX0_leastPeriod 3 = .ok (.aload_n 0, 1) := by decide +kernel
theorem dX0_leastPeriod_4 : decode cX0_leastPeriod 4 = .ok (.getfield 25, 3) := by decide +kernel
theorem dX0_leastPeriod_7 : decode cX0_leastPeriod 7 = .ok (.if_icmp .gt 34, 3) := by decide +kernel
theorem dX0_leastPeriod_10 : decode cX0_leastPeriod 10 = .ok (.iload_n 1, 1) := by decide +kernel
theorem dX0_leastPeriod_11 : decode cX0_leastPeriod 11 = .ok (.bipush 60, 2) := by decide +kernel
theorem dX0_leastPeriod_13 : decode cX0_leastPeriod 13 = .ok (.if_icmp .gt 28, 3) := by decide +kernel
theorem dX0_leastPeriod_16 : decode cX0_leastPeriod 16 = .ok (.aload_n 0, 1) := by decide +kernel
theorem dX0_leastPeriod_17 : decode cX0_leastPeriod 17 = .ok (.getfield 25, 3) := by decide +kernel
theorem dX0_leastPeriod_20 : decode cX0_leastPeriod 20 = .ok (.iload_n 1, 1) := by decide +kernel
theorem dX0_leastPeriod_21 : decode cX0_leastPeriod 21 = .ok (.irem, 1) := by decide +kernel
theorem dX0_leastPeriod_22 : decode cX0_leastPeriod 22 = .ok (.ifCond .ne 13, 3) := by decide +kernel
theorem dX0_leastPeriod_25 : decode cX0_leastPeriod 25 = .ok (.aload_n 0, 1) := by decide +kernel
theorem dX0_leastPeriod_26 : decode cX0_leastPeriod 26 = .ok (.iload_n 1, 1) := by decide +kernel
theorem dX0_leastPeriod_27 : decode cX0_leastPeriod 27 = .ok (.invokevirtual 48, 3) := by decide +kernel
theorem dX0_leastPeriod_30 : decode cX0_leastPeriod 30 = .ok (.ifCond .eq 5, 3) := by decide +kernel
theorem dX0_leastPeriod_33 : decode cX0_leastPeriod 33 = .ok (.iload_n 1, 1) := by decide +kernel
theorem dX0_leastPeriod_34 : decode cX0_leastPeriod 34 = .ok (.ireturn, 1) := by decide +kernel
theorem dX0_leastPeriod_35 : decode cX0_leastPeriod 35 = .ok (.iinc 1 1, 3) := by decide +kernel
theorem dX0_leastPeriod_38 : decode cX0_leastPeriod 38 = .ok (.goto (-36), 3) := by decide +kernel
theorem dX0_leastPeriod_41 : decode cX0_leastPeriod 41 = .ok (.iconst 0, 1) := by decide +kernel
theorem dX0_leastPeriod_42 : decode cX0_leastPeriod 42 = .ok (.ireturn, 1) := by decide +kernel
theorem dX0_comesRoundBy_0 : decode cX0_comesRoundBy 0 = .ok (.aload_n 0, 1) := by decide +kernel
theorem dX0_comesRoundBy_1 : decode cX0_comesRoundBy 1 = .ok (.getfield 21, 3) := by decide +kernel
theorem dX0_comesRoundBy_4 : decode cX0_comesRoundBy 4 = .ok (.istore_n 2, 1) := by decide +kernel
theorem dX0_comesRoundBy_5 : decode cX0_comesRoundBy 5 = .ok (.iload_n 2, 1) := by decide +kernel
theorem dX0_comesRoundBy_6 : decode cX0_comesRoundBy 6 = .ok (.iload_n 1, 1) := by decide +kernel
theorem dX0_comesRoundBy_7 : decode cX0_comesRoundBy 7 = .ok (.iadd, 1) := by decide +kernel
theorem dX0_comesRoundBy_8 : decode cX0_comesRoundBy 8 = .ok (.aload_n 0, 1) := by decide +kernel
theorem dX0_comesRoundBy_9 : decode cX0_comesRoundBy 9 = .ok (.invokevirtual 52, 3) := by decide +kernel
theorem dX0_comesRoundBy_12 : decode cX0_comesRoundBy 12 = .ok (.if_icmp .ge 32, 3) := by decide +kernel
theorem dX0_comesRoundBy_15 : decode cX0_comesRoundBy 15 = .ok (.aload_n 0, 1) := by decide +kernel
theorem dX0_comesRoundBy_16 : decode cX0_comesRoundBy 16 = .ok (.getfield 9, 3) := by decide +kernel
theorem dX0_comesRoundBy_19 : decode cX0_comesRoundBy 19 = .ok (.iload_n 2, 1) := by decide +kernel
theorem dX0_comesRoundBy_20 : decode cX0_comesRoundBy 20 = .ok (.invokestatic 55, 3) := by decide +kernel
theorem dX0_comesRoundBy_23 : decode cX0_comesRoundBy 23 = .ok (.aload_n 0, 1) := by decide +kernel
theorem dX0_comesRoundBy_24 : decode cX0_comesRoundBy 24 = .ok (.getfield 9, 3) := by decide +kernel
theorem dX0_comesRoundBy_27 : decode cX0_comesRoundBy 27 = .ok (.iload_n 2, 1) := by decide +kernel
theorem dX0_comesRoundBy_28 : decode cX0_comesRoundBy 28 = .ok (.iload_n 1, 1) := by decide +kernel
theorem dX0_comesRoundBy_29 : decode cX0_comesRoundBy 29 = .ok (.iadd, 1) := by decide +kernel
theorem dX0_comesRoundBy_30 : decode cX0_comesRoundBy 30 = .ok (.invokestatic 55, 3) := by decide +kernel
theorem dX0_comesRoundBy_33 : decode cX0_comesRoundBy 33 = .ok (.if_icmp .eq 5, 3) := by decide +kernel
theorem dX0_comesRoundBy_36 : decode cX0_comesRoundBy 36 = .ok (.iconst 0, 1) := by decide +kernel
theorem dX0_comesRoundBy_37 : decode cX0_comesRoundBy 37 = .ok (.ireturn, 1) := by decide +kernel
theorem dX0_comesRoundBy_38 : decode cX0_comesRoundBy 38 = .ok (.iinc 2 1, 3) := by decide +kernel
theorem dX0_comesRoundBy_41 : decode cX0_comesRoundBy 41 = .ok (.goto (-36), 3) := by decide +kernel
theorem dX0_comesRoundBy_44 : decode cX0_comesRoundBy 44 = .ok (.iconst 1, 1) := by decide +kernel
theorem dX0_comesRoundBy_45 : decode cX0_comesRoundBy 45 = .ok (.ireturn, 1) := by decide +kernel
theorem dX0_leastStart_0 : decode cX0_leastStart 0 = .ok (.aload_n 0, 1) := by decide +kernel
theorem dX0_leastStart_1 : decode cX0_leastStart 1 = .ok (.getfield 21, 3) := by decide +kernel
theorem dX0_leastStart_4 : decode cX0_leastStart 4 = .ok (.istore_n 1, 1) := by decide +kernel
theorem dX0_leastStart_5 : decode cX0_leastStart 5 = .ok (.iload_n 1, 1) := by decide +kernel
theorem dX0_leastStart_6 : decode cX0_leastStart 6 = .ok (.ifCond .le 37, 3) := by decide +kernel
theorem dX0_leastStart_9 : decode cX0_leastStart 9 = .ok (.aload_n 0, 1) := by decide +kernel
theorem dX0_leastStart_10 : decode cX0_leastStart 10 = .ok (.getfield 9, 3) := by decide +kernel
theorem dX0_leastStart_13 : decode cX0_leastStart 13 = .ok (.iload_n 1, 1) := by decide +kernel
theorem dX0_leastStart_14 : decode cX0_leastStart 14 = .ok (.iconst 1, 1) := by decide +kernel
theorem dX0_leastStart_15 : decode cX0_leastStart 15 = .ok (.isub, 1) := by decide +kernel
theorem dX0_leastStart_16 : decode cX0_leastStart 16 = .ok (.invokestatic 55, 3) := by decide +kernel
theorem dX0_leastStart_19 : decode cX0_leastStart 19 = .ok (.aload_n 0, 1) := by decide +kernel
theorem dX0_leastStart_20 : decode cX0_leastStart 20 = .ok (.getfield 9, 3) := by decide +kernel
theorem dX0_leastStart_23 : decode cX0_leastStart 23 = .ok (.iload_n 1, 1) := by decide +kernel
theorem dX0_leastStart_24 : decode cX0_leastStart 24 = .ok (.iconst 1, 1) := by decide +kernel
theorem dX0_leastStart_25 : decode cX0_leastStart 25 = .ok (.isub, 1) := by decide +kernel
theorem dX0_leastStart_26 : decode cX0_leastStart 26 = .ok (.aload_n 0, 1) := by decide +kernel
theorem dX0_leastStart_27 : decode cX0_leastStart 27 = .ok (.getfield 25, 3) := by decide +kernel
theorem dX0_leastStart_30 : decode cX0_leastStart 30 = .ok (.iadd, 1) := by decide +kernel
theorem dX0_leastStart_31 : decode cX0_leastStart 31 = .ok (.invokestatic 55, 3) := by decide +kernel
theorem dX0_leastStart_34 : decode cX0_leastStart 34 = .ok (.if_icmp .ne 9, 3) := by decide +kernel
theorem dX0_leastStart_37 : decode cX0_leastStart 37 = .ok (.iinc 1 (-1), 3) := by decide +kernel
theorem dX0_leastStart_40 : decode cX0_leastStart 40 = .ok (.goto (-35), 3) := by decide +kernel
theorem dX0_leastStart_43 : decode cX0_leastStart 43 = .ok (.iload_n 1, 1) := by decide +kernel
theorem dX0_leastStart_44 : decode cX0_leastStart 44 = .ok (.ireturn, 1) := by decide +kernel
theorem dX0_clearBehind_0 : decode cX0_clearBehind 0 = .ok (.aload_n 0, 1) := by decide +kernel
theorem dX0_clearBehind_1 : decode cX0_clearBehind 1 = .ok (.invokevirtual 52, 3) := by decide +kernel
theorem dX0_clearBehind_4 : decode cX0_clearBehind 4 = .ok (.istore_n 1, 1) := by decide +kernel
theorem dX0_clearBehind_5 : decode cX0_clearBehind 5 = .ok (.iload_n 1, 1) := by decide +kernel
theorem dX0_clearBehind_6 : decode cX0_clearBehind 6 = .ok (.sipush 192, 3) := by decide +kernel
theorem dX0_clearBehind_9 : decode cX0_clearBehind 9 = .ok (.if_icmp .ge 17, 3) := by decide +kernel
theorem dX0_clearBehind_12 : decode cX0_clearBehind 12 = .ok (.aload_n 0, 1) := by decide +kernel
theorem dX0_clearBehind_13 : decode cX0_clearBehind 13 = .ok (.getfield 9, 3) := by decide +kernel
theorem dX0_clearBehind_16 : decode cX0_clearBehind 16 = .ok (.iload_n 1, 1) := by decide +kernel
theorem dX0_clearBehind_17 : decode cX0_clearBehind 17 = .ok (.invokestatic 59, 3) := by decide +kernel
theorem dX0_clearBehind_20 : decode cX0_clearBehind 20 = .ok (.iinc 1 1, 3) := by decide +kernel
theorem dX0_clearBehind_23 : decode cX0_clearBehind 23 = .ok (.goto (-18), 3) := by decide +kernel
theorem dX0_clearBehind_26 : decode cX0_clearBehind 26 = .ok (.return_, 1) := by decide +kernel
theorem dX1_init_0 : decode cX1_init 0 = .ok (.aload_n 0, 1) := by decide +kernel
theorem dX1_init_1 : decode cX1_init 1 = .ok (.invokespecial 3, 3) := by decide +kernel
theorem dX1_init_4 : decode cX1_init 4 = .ok (.aload_n 0, 1) := by decide +kernel
theorem dX1_init_5 : decode cX1_init 5 = .ok (.bipush 6, 2) := by decide +kernel
theorem dX1_init_7 : decode cX1_init 7 = .ok (.anewarray 9, 3) := by decide +kernel
theorem dX1_init_10 : decode cX1_init 10 = .ok (.putfield 11, 3) := by decide +kernel
theorem dX1_init_13 : decode cX1_init 13 = .ok (.aload_n 0, 1) := by decide +kernel
theorem dX1_init_14 : decode cX1_init 14 = .ok (.iconst 2, 1) := by decide +kernel
theorem dX1_init_15 : decode cX1_init 15 = .ok (.putfield 17, 3) := by decide +kernel
theorem dX1_init_18 : decode cX1_init 18 = .ok (.aload_n 0, 1) := by decide +kernel
theorem dX1_init_19 : decode cX1_init 19 = .ok (.iconst 0, 1) := by decide +kernel
theorem dX1_init_20 : decode cX1_init 20 = .ok (.putfield 21, 3) := by decide +kernel
theorem dX1_init_23 : decode cX1_init 23 = .ok (.return_, 1) := by decide +kernel
theorem dX1_keep_0 : decode cX1_keep 0 = .ok (.aload_n 1, 1) := by decide +kernel
theorem dX1_keep_1 : decode cX1_keep 1 = .ok (.aload_n 0, 1) := by decide +kernel
theorem dX1_keep_2 : decode cX1_keep 2 = .ok (.getfield 11, 3) := by decide +kernel
theorem dX1_keep_5 : decode cX1_keep 5 = .ok (.invokestatic 25, 3) := by decide +kernel
theorem dX1_keep_8 : decode cX1_keep 8 = .ok (.aload_n 0, 1) := by decide +kernel
theorem dX1_keep_9 : decode cX1_keep 9 = .ok (.iload_n 2, 1) := by decide +kernel
theorem dX1_keep_10 : decode cX1_keep 10 = .ok (.putfield 17, 3) := by decide +kernel
theorem dX1_keep_13 : decode cX1_keep 13 = .ok (.aload_n 0, 1) := by decide +kernel
theorem dX1_keep_14 : decode cX1_keep 14 = .ok (.iconst 1, 1) := by decide +kernel
theorem dX1_keep_15 : decode cX1_keep 15 = .ok (.putfield 21, 3) := by decide +kernel
theorem dX1_keep_18 : decode cX1_keep 18 = .ok (.return_, 1) := by decide +kernel
theorem dX1_giveBack_0 : decode cX1_giveBack 0 = .ok (.aload_n 0, 1) := by decide +kernel
theorem dX1_giveBack_1 : decode cX1_giveBack 1 = .ok (.getfield 11, 3) := by decide +kernel
theorem dX1_giveBack_4 : decode cX1_giveBack 4 = .ok (.aload_n 1, 1) := by decide +kernel
theorem dX1_giveBack_5 : decode cX1_giveBack 5 = .ok (.invokestatic 25, 3) := by decide +kernel
theorem dX1_giveBack_8 : decode cX1_giveBack 8 = .ok (.aload_n 0, 1) := by decide +kernel
theorem dX1_giveBack_9 : decode cX1_giveBack 9 = .ok (.getfield 17, 3) := by decide +kernel
theorem dX1_giveBack_12 : decode cX1_giveBack 12 = .ok (.ireturn, 1) := by decide +kernel
theorem dX1_copySets_0 : decode cX1_copySets 0 = .ok (.iconst 0, 1) := by decide +kernel
theorem dX1_copySets_1 : decode cX1_copySets 1 = .ok (.istore_n 2, 1) := by decide +kernel
theorem dX1_copySets_2 : decode cX1_copySets 2 = .ok (.iload_n 2, 1) := by decide +kernel
theorem dX1_copySets_3 : decode cX1_copySets 3 = .ok (.aload_n 0, 1) := by decide +kernel
theorem dX1_copySets_4 : decode cX1_copySets 4 = .ok (.arraylength, 1) := by decide +kernel
theorem dX1_copySets_5 : decode cX1_copySets 5 = .ok (.if_icmp .ge 21, 3) := by decide +kernel
theorem dX1_copySets_8 : decode cX1_copySets 8 = .ok (.iload_n 2, 1) := by decide +kernel
theorem dX1_copySets_9 : decode cX1_copySets 9 = .ok (.aload_n 1, 1) := by decide +kernel
theorem dX1_copySets_10 : decode cX1_copySets 10 = .ok (.arraylength, 1) := by decide +kernel
theorem dX1_copySets_11 : decode cX1_copySets 11 = .ok (.if_icmp .ge 15, 3) := by decide +kernel
theorem dX1_copySets_14 : decode cX1_copySets 14 = .ok (.aload_n 1, 1) := by decide +kernel
theorem dX1_copySets_15 : decode cX1_copySets 15 = .ok (.iload_n 2, 1) := by decide +kernel
theorem dX1_copySets_16 : decode cX1_copySets 16 = .ok (.aload_n 0, 1) := by decide +kernel
theorem dX1_copySets_17 : decode cX1_copySets 17 = .ok (.iload_n 2, 1) := by decide +kernel
theorem dX1_copySets_18 : decode cX1_copySets 18 = .ok (.aaload, 1) := by decide +kernel
theorem dX1_copySets_19 : decode cX1_copySets 19 = .ok (.aastore, 1) := by decide +kernel
theorem dX1_copySets_20 : decode cX1_copySets 20 = .ok (.iinc 2 1, 3) := by decide +kernel
theorem dX1_copySets_23 : decode cX1_copySets 23 = .ok (.goto (-21), 3) := by decide +kernel
theorem dX1_copySets_26 : decode cX1_copySets 26 = .ok (.return_, 1) := by decide +kernel
theorem dX2_init_0 : decode cX2_init 0 = .ok (.aload_n 0, 1) := by decide +kernel
theorem dX2_init_1 : decode cX2_init 1 = .ok (.invokespecial 3, 3) := by decide +kernel
theorem dX2_init_4 : decode cX2_init 4 = .ok (.aload_n 0, 1) := by decide +kernel
theorem dX2_init_5 : decode cX2_init 5 = .ok (.iload_n 1, 1) := by decide +kernel
theorem dX2_init_6 : decode cX2_init 6 = .ok (.putfield 9, 3) := by decide +kernel
theorem dX2_init_9 : decode cX2_init 9 = .ok (.aload_n 0, 1) := by decide +kernel
theorem dX2_init_10 : decode cX2_init 10 = .ok (.iload_n 2, 1) := by decide +kernel
theorem dX2_init_11 : decode cX2_init 11 = .ok (.putfield 15, 3) := by decide +kernel
theorem dX2_init_14 : decode cX2_init 14 = .ok (.aload_n 0, 1) := by decide +kernel
theorem dX2_init_15 : decode cX2_init 15 = .ok (.aload_n 3, 1) := by decide +kernel
theorem dX2_init_16 : decode cX2_init 16 = .ok (.putfield 18, 3) := by decide +kernel
theorem dX2_init_19 : decode cX2_init 19 = .ok (.aload_n 0, 1) := by decide +kernel
theorem dX2_init_20 : decode cX2_init 20 = .ok (.lload 4, 2) := by decide +kernel
theorem dX2_init_22 : decode cX2_init 22 = .ok (.putfield 22, 3) := by decide +kernel
theorem dX2_init_25 : decode cX2_init 25 = .ok (.return_, 1) := by decide +kernel
theorem dX2_after_0 : decode cX2_after 0 = .ok (.iload_n 1, 1) := by decide +kernel
theorem dX2_after_1 : decode cX2_after 1 = .ok (.aload_n 0, 1) := by decide +kernel
theorem dX2_after_2 : decode cX2_after 2 = .ok (.getfield 9, 3) := by decide +kernel
theorem dX2_after_5 : decode cX2_after 5 = .ok (.imul, 1) := by decide +kernel
theorem dX2_after_6 : decode cX2_after 6 = .ok (.iload_n 2, 1) := by decide +kernel
theorem dX2_after_7 : decode cX2_after 7 = .ok (.iadd, 1) := by decide +kernel
theorem dX2_after_8 : decode cX2_after 8 = .ok (.istore_n 3, 1) := by decide +kernel
theorem dX2_after_9 : decode cX2_after 9 = .ok (.iload_n 3, 1) := by decide +kernel
theorem dX2_after_10 : decode cX2_after 10 = .ok (.ifCond .lt 21, 3) := by decide +kernel
theorem dX2_after_13 : decode cX2_after 13 = .ok (.iload_n 3, 1) := by decide +kernel
theorem dX2_after_14 : decode cX2_after 14 = .ok (.aload_n 0, 1) := by decide +kernel
theorem dX2_after_15 : decode cX2_after 15 = .ok (.getfield 18, 3) := by decide +kernel
theorem dX2_after_18 : decode cX2_after 18 = .ok (.arraylength, 1) := by decide +kernel
theorem dX2_after_19 : decode cX2_after 19 = .ok (.if_icmp .ge 12, 3) := by decide +kernel
theorem dX2_after_22 : decode cX2_after 22 = .ok (.aload_n 0, 1) := by decide +kernel
theorem dX2_after_23 : decode cX2_after 23 = .ok (.getfield 18, 3) := by decide +kernel
theorem dX2_after_26 : decode cX2_after 26 = .ok (.iload_n 3, 1) := by decide +kernel
theorem dX2_after_27 : decode cX2_after 27 = .ok (.iaload, 1) := by decide +kernel
theorem dX2_after_28 : decode cX2_after 28 = .ok (.goto 4, 3) := by decide +kernel
theorem dX2_after_31 : decode cX2_after 31 = .ok (.iconst 0, 1) := by decide +kernel
theorem dX2_after_32 : decode cX2_after 32 = .ok (.ireturn, 1) := by decide +kernel
theorem dX2_isGood_0 : decode cX2_isGood 0 = .ok (.aload_n 0, 1) := by decide +kernel
theorem dX2_isGood_1 : decode cX2_isGood 1 = .ok (.getfield 22, 3) := by decide +kernel
theorem dX2_isGood_4 : decode cX2_isGood 4 = .ok (.iload_n 1, 1) := by decide +kernel
theorem dX2_isGood_5 : decode cX2_isGood 5 = .ok (.lushr, 1) := by decide +kernel
theorem dX2_isGood_6 : decode cX2_isGood 6 = .ok (.lconst 1, 1) := by decide +kernel
theorem dX2_isGood_7 : decode cX2_isGood 7 = .ok (.land, 1) := by decide +kernel
theorem dX2_isGood_8 : decode cX2_isGood 8 = .ok (.lconst 0, 1) := by decide +kernel
theorem dX2_isGood_9 : decode cX2_isGood 9 = .ok (.lcmp, 1) := by decide +kernel
theorem dX2_isGood_10 : decode cX2_isGood 10 = .ok (.ifCond .eq 7, 3) := by decide +kernel
theorem dX2_isGood_13 : decode cX2_isGood 13 = .ok (.iconst 1, 1) := by decide +kernel
theorem dX2_isGood_14 : decode cX2_isGood 14 = .ok (.goto 4, 3) := by decide +kernel
theorem dX2_isGood_17 : decode cX2_isGood 17 = .ok (.iconst 0, 1) := by decide +kernel
theorem dX2_isGood_18 : decode cX2_isGood 18 = .ok (.ireturn, 1) := by decide +kernel
theorem dX2_read_0 : decode cX2_read 0 = .ok (.iconst 0, 1) := by decide +kernel
theorem dX2_read_1 : decode cX2_read 1 = .ok (.istore_n 3, 1) := by decide +kernel
theorem dX2_read_2 : decode cX2_read 2 = .ok (.iload_n 1, 1) := by decide +kernel
theorem dX2_read_3 : decode cX2_read 3 = .ok (.istore 4, 2) := by decide +kernel
theorem dX2_read_5 : decode cX2_read 5 = .ok (.iconst 0, 1) := by decide +kernel
theorem dX2_read_6 : decode cX2_read 6 = .ok (.istore 5, 2) := by decide +kernel
theorem dX2_read_8 : decode cX2_read 8 = .ok (.iload 5, 2) := by decide +kernel
theorem dX2_read_10 : decode cX2_read 10 = .ok (.iload_n 2, 1) := by decide +kernel
theorem dX2_read_11 : decode cX2_read 11 = .ok (.if_icmp .ge 39, 3) := by decide +kernel
theorem dX2_read_14 : decode cX2_read 14 = .ok (.aload_n 0, 1) := by decide +kernel
theorem dX2_read_15 : decode cX2_read 15 = .ok (.getfield 9, 3) := by decide +kernel
theorem dX2_read_18 : decode cX2_read 18 = .ok (.iconst 1, 1) := by decide +kernel
theorem dX2_read_19 : decode cX2_read 19 = .ok (.if_icmp .le 31, 3) := by decide +kernel
theorem dX2_read_22 : decode cX2_read 22 = .ok (.aload_n 0, 1) := by decide +kernel
theorem dX2_read_23 : decode cX2_read 23 = .ok (.iload_n 3, 1) := by decide +kernel
theorem dX2_read_24 : decode cX2_read 24 = .ok (.iload 4, 2) := by decide +kernel
theorem dX2_read_26 : decode cX2_read 26 = .ok (.aload_n 0, 1) := by decide +kernel
theorem dX2_read_27 : decode cX2_read 27 = .ok (.getfield 9, 3) := by decide +kernel
theorem dX2_read_30 : decode cX2_read 30 = .ok (.irem, 1) := by decide +kernel
theorem dX2_read_31 : decode cX2_read 31 = .ok (.invokevirtual 26, 3) := by decide +kernel
theorem dX2_read_34 : decode cX2_read 34 = .ok (.istore_n 3, 1) := by decide +kernel
theorem dX2_read_35 : decode cX2_read 35 = .ok (.iload 4, 2) := by decide +kernel
theorem dX2_read_37 : decode cX2_read 37 = .ok (.aload_n 0, 1) := by decide +kernel
theorem dX2_read_38 : decode cX2_read 38 = .ok (.getfield 9, 3) := by decide +kernel
theorem dX2_read_41 : decode cX2_read 41 = .ok (.idiv, 1) := by decide +kernel
theorem dX2_read_42 : decode cX2_read 42 = .ok (.istore 4, 2) := by decide +kernel
theorem dX2_read_44 : decode cX2_read 44 = .ok (.iinc 5 1, 3) := by decide +kernel
theorem dX2_read_47 : decode cX2_read 47 = .ok (.goto (-39), 3) := by decide +kernel
theorem dX2_read_50 : decode cX2_read 50 = .ok (.iload_n 3, 1) := by decide +kernel
theorem dX2_read_51 : decode cX2_read 51 = .ok (.ireturn, 1) := by decide +kernel
theorem dX2_steps_0 : decode cX2_steps 0 = .ok (.lload_n 1, 1) := by decide +kernel
theorem dX2_steps_1 : decode cX2_steps 1 = .ok (.lstore 5, 2) := by decide +kernel
theorem dX2_steps_3 : decode cX2_steps 3 = .ok (.iconst 0, 1) := by decide +kernel
theorem dX2_steps_4 : decode cX2_steps 4 = .ok (.istore 7, 2) := by decide +kernel
theorem dX2_steps_6 : decode cX2_steps 6 = .ok (.iload 7, 2) := by decide +kernel
theorem dX2_steps_8 : decode cX2_steps 8 = .ok (.bipush 64, 2) := by decide +kernel
theorem dX2_steps_10 : decode cX2_steps 10 = .ok (.if_icmp .ge 32, 3) := by decide +kernel
theorem dX2_steps_13 : decode cX2_steps 13 = .ok (.lload 5, 2) := by decide +kernel
theorem dX2_steps_15 : decode cX2_steps 15 = .ok (.lload_n 3, 1) := by decide +kernel
theorem dX2_steps_16 : decode cX2_steps 16 = .ok (.land, 1) := by decide +kernel
theorem dX2_steps_17 : decode cX2_steps 17 = .ok (.lconst 0, 1) := by decide +kernel
theorem dX2_steps_18 : decode cX2_steps 18 = .ok (.lcmp, 1) := by decide +kernel
theorem dX2_steps_19 : decode cX2_steps 19 = .ok (.ifCond .eq 6, 3) := by decide +kernel
theorem dX2_steps_22 : decode cX2_steps 22 = .ok (.iload 7, 2) := by decide +kernel
theorem dX2_steps_24 : decode cX2_steps 24 = .ok (.ireturn, 1) := by decide +kernel
theorem dX2_steps_25 : decode cX2_steps 25 = .ok (.lload 5, 2) := by decide +kernel
theorem dX2_steps_27 : decode cX2_steps 27 = .ok (.aload_n 0, 1) := by decide +kernel
theorem dX2_steps_28 : decode cX2_steps 28 = .ok (.lload 5, 2) := by decide +kernel
theorem dX2_steps_30 : decode cX2_steps 30 = .ok (.invokevirtual 30, 3) := by decide +kernel
theorem dX2_steps_33 : decode cX2_steps 33 = .ok (.lor, 1) := by decide +kernel
theorem dX2_steps_34 : decode cX2_steps 34 = .ok (.lstore 5, 2) := by decide +kernel
theorem dX2_steps_36 : decode cX2_steps 36 = .ok (.iinc 7 1, 3) := by decide +kernel
theorem dX2_steps_39 : decode cX2_steps 39 = .ok (.goto (-33), 3) := by decide +kernel
theorem dX2_steps_42 : decode cX2_steps 42 = .ok (.bipush (-6), 2) := by decide +kernel
theorem dX2_steps_44 : decode cX2_steps 44 = .ok (.ireturn, 1) := by decide +kernel
theorem dX2_afterAnyOf_0 : decode cX2_afterAnyOf 0 = .ok (.lconst 0, 1) := by decide +kernel
theorem dX2_afterAnyOf_1 : decode cX2_afterAnyOf 1 = .ok (.lstore_n 3, 1) := by decide +kernel
theorem dX2_afterAnyOf_2 : decode cX2_afterAnyOf 2 = .ok (.iconst 0, 1) := by decide +kernel
theorem dX2_afterAnyOf_3 : decode cX2_afterAnyOf 3 = .ok (.istore 5, 2) := by decide +kernel
theorem dX2_afterAnyOf_5 : decode cX2_afterAnyOf 5 = .ok (.iload 5, 2) := by decide +kernel
theorem dX2_afterAnyOf_7 : decode cX2_afterAnyOf 7 = .ok (.aload_n 0, 1) := by decide +kernel
theorem dX2_afterAnyOf_8 : decode cX2_afterAnyOf 8 = .ok (.getfield 15, 3) := by decide +kernel
theorem dX2_afterAnyOf_11 : decode cX2_afterAnyOf 11 = .ok (.if_icmp .ge 51, 3) := by decide +kernel
theorem dX2_afterAnyOf_14 : decode cX2_afterAnyOf 14 = .ok (.lload_n 1, 1) := by decide +kernel
theorem dX2_afterAnyOf_15 : decode cX2_afterAnyOf 15 = .ok (.iload 5, 2) := by decide +kernel
theorem dX2_afterAnyOf_17 : decode cX2_afterAnyOf 17 = .ok (.lushr, 1) := by decide +kernel
theorem dX2_afterAnyOf_18 : decode cX2_afterAnyOf 18 = .ok (.lconst 1, 1) := by decide +kernel
theorem dX2_afterAnyOf_19 : decode cX2_afterAnyOf 19 = .ok (.land, 1) := by decide +kernel
theorem dX2_afterAnyOf_20 : decode cX2_afterAnyOf 20 = .ok (.lconst 0, 1) := by decide +kernel
theorem dX2_afterAnyOf_21 : decode cX2_afterAnyOf 21 = .ok (.lcmp, 1) := by decide +kernel
theorem dX2_afterAnyOf_22 : decode cX2_afterAnyOf 22 = .ok (.ifCond .eq 34, 3) := by decide +kernel
theorem dX2_afterAnyOf_25 : decode cX2_afterAnyOf 25 = .ok (.iconst 0, 1) := by decide +kernel
theorem dX2_afterAnyOf_26 : decode cX2_afterAnyOf 26 = .ok (.istore 6, 2) := by decide +kernel
theorem dX2_afterAnyOf_28 : decode cX2_afterAnyOf 28 = .ok (.iload 6, 2) := by decide +kernel
theorem dX2_afterAnyOf_30 : decode cX2_afterAnyOf 30 = .ok (.aload_n 0, 1) := by decide +kernel
theorem dX2_afterAnyOf_31 : decode cX2_afterAnyOf 31 = .ok (.getfield 9, 3) := by decide +kernel
theorem dX2_afterAnyOf_34 : decode cX2_afterAnyOf 34 = .ok (.if_icmp .ge 22, 3) := by decide +kernel
theorem dX2_afterAnyOf_37 : decode cX2_afterAnyOf 37 = .ok (.lload_n 3, 1) := by decide +kernel
theorem dX2_afterAnyOf_38 : decode cX2_afterAnyOf 38 = .ok (.lconst 1, 1) := by decide +kernel
theorem dX2_afterAnyOf_39 : decode cX2_afterAnyOf 39 = .ok (.aload_n 0, 1) := by decide +kernel
theorem dX2_afterAnyOf_40 : decode cX2_afterAnyOf 40 = .ok (.iload 5, 2) := by decide +kernel
theorem dX2_afterAnyOf_42 : decode cX2_afterAnyOf 42 = .ok (.iload 6, 2) := by decide +kernel
theorem dX2_afterAnyOf_44 : decode cX2_afterAnyOf 44 = .ok (.invokevirtual 26, 3) := by decide +kernel
theorem dX2_afterAnyOf_47 : decode cX2_afterAnyOf 47 = .ok (.lshl, 1) := by decide +kernel
theorem dX2_afterAnyOf_48 : decode cX2_afterAnyOf 48 = .ok (.lor, 1) := by decide +kernel
theorem dX2_afterAnyOf_49 : decode cX2_afterAnyOf 49 = .ok (.lstore_n 3, 1) := by decide +kernel
theorem dX2_afterAnyOf_50 : decode cX2_afterAnyOf 50 = .ok (.iinc 6 1, 3) := by decide +kernel
theorem dX2_afterAnyOf_53 : decode cX2_afterAnyOf 53 = .ok (.goto (-25), 3) := by decide +kernel
theorem dX2_afterAnyOf_56 : decode cX2_afterAnyOf 56 = .ok (.iinc 5 1, 3) := by decide +kernel
theorem dX2_afterAnyOf_59 : decode cX2_afterAnyOf 59 = .ok (.goto (-54), 3) := by decide +kernel
theorem dX2_afterAnyOf_62 : decode cX2_afterAnyOf 62 = .ok (.lload_n 3, 1) := by decide +kernel
theorem dX2_afterAnyOf_63 : decode cX2_afterAnyOf 63 = .ok (.lreturn, 1) := by decide +kernel
theorem dX3_init_0 : decode cX3_init 0 = .ok (.aload_n 0, 1) := by decide +kernel
theorem dX3_init_1 : decode cX3_init 1 = .ok (.invokespecial 3, 3) := by decide +kernel
theorem dX3_init_4 : decode cX3_init 4 = .ok (.aload_n 0, 1) := by decide +kernel
theorem dX3_init_5 : decode cX3_init 5 = .ok (.aload_n 1, 1) := by decide +kernel
theorem dX3_init_6 : decode cX3_init 6 = .ok (.getfield 9, 3) := by decide +kernel
theorem dX3_init_9 : decode cX3_init 9 = .ok (.putfield 15, 3) := by decide +kernel
theorem dX3_init_12 : decode cX3_init 12 = .ok (.aload_n 0, 1) := by decide +kernel
theorem dX3_init_13 : decode cX3_init 13 = .ok (.aload_n 1, 1) := by decide +kernel
theorem dX3_init_14 : decode cX3_init 14 = .ok (.getfield 18, 3) := by decide +kernel
theorem dX3_init_17 : decode cX3_init 17 = .ok (.putfield 21, 3) := by decide +kernel
theorem dX3_init_20 : decode cX3_init 20 = .ok (.aload_n 0, 1) := by decide +kernel
theorem dX3_init_21 : decode cX3_init 21 = .ok (.aload_n 1, 1) := by decide +kernel
theorem dX3_init_22 : decode cX3_init 22 = .ok (.getfield 22, 3) := by decide +kernel
theorem dX3_init_25 : decode cX3_init 25 = .ok (.iconst 3, 1) := by decide +kernel
theorem dX3_init_26 : decode cX3_init 26 = .ok (.invokestatic 26, 3) := by decide +kernel
theorem dX3_init_29 : decode cX3_init 29 = .ok (.putfield 32, 3) := by decide +kernel
theorem dX3_init_32 : decode cX3_init 32 = .ok (.aload_n 0, 1) := by decide +kernel
theorem dX3_init_33 : decode cX3_init 33 = .ok (.aload_n 2, 1) := by decide +kernel
theorem dX3_init_34 : decode cX3_init 34 = .ok (.putfield 33, 3) := by decide +kernel
theorem dX3_init_37 : decode cX3_init 37 = .ok (.return_, 1) := by decide +kernel
theorem dX3_holds_0 : decode cX3_holds 0 = .ok (.aload_n 0, 1) := by decide +kernel
theorem dX3_holds_1 : decode cX3_holds 1 = .ok (.iload_n 1, 1) := by decide +kernel
theorem dX3_holds_2 : decode cX3_holds 2 = .ok (.aload_n 0, 1) := by decide +kernel
theorem dX3_holds_3 : decode cX3_holds 3 = .ok (.getfield 15, 3) := by decide +kernel
theorem dX3_holds_6 : decode cX3_holds 6 = .ok (.aload_n 0, 1) := by decide +kernel
theorem dX3_holds_7 : decode cX3_holds 7 = .ok (.getfield 21, 3) := by decide +kernel
theorem dX3_holds_10 : decode cX3_holds 10 = .ok (.invokestatic 37, 3) := by decide +kernel
theorem dX3_holds_13 : decode cX3_holds 13 = .ok (.invokevirtual 41, 3) := by decide +kernel
theorem dX3_holds_16 : decode cX3_holds 16 = .ok (.ireturn, 1) := by decide +kernel
theorem dX3_at_0 : decode cX3_at 0 = .ok (.aload_n 0, 1) := by decide +kernel
theorem dX3_at_1 : decode cX3_at 1 = .ok (.getfield 32, 3) := by decide +kernel
theorem dX3_at_4 : decode cX3_at 4 = .ok (.iload_n 1, 1) := by decide +kernel
theorem dX3_at_5 : decode cX3_at 5 = .ok (.invokestatic 45, 3) := by decide +kernel
theorem dX3_at_8 : decode cX3_at 8 = .ok (.ireturn, 1) := by decide +kernel
theorem dX3_placeAfter_0 : decode cX3_placeAfter 0 = .ok (.iload_n 1, 1) := by decide +kernel
theorem dX3_placeAfter_1 : decode cX3_placeAfter 1 = .ok (.iconst 1, 1) := by decide +kernel
theorem dX3_placeAfter_2 : decode cX3_placeAfter 2 = .ok (.iadd, 1) := by decide +kernel
theorem dX3_placeAfter_3 : decode cX3_placeAfter 3 = .ok (.aload_n 0, 1) := by decide +kernel
theorem dX3_placeAfter_4 : decode cX3_placeAfter 4 = .ok (.getfield 15, 3) := by decide +kernel
theorem dX3_placeAfter_7 : decode cX3_placeAfter 7 = .ok (.aload_n 0, 1) := by decide +kernel
theorem dX3_placeAfter_8 : decode cX3_placeAfter 8 = .ok (.getfield 21, 3) := by decide +kernel
theorem dX3_placeAfter_11 : decode cX3_placeAfter 11 = .ok (.iadd, 1) := by decide +kernel
theorem dX3_placeAfter_12 : decode cX3_placeAfter 12 = .ok (.if_icmp .ge 9, 3) := by decide +kernel
theorem dX3_placeAfter_15 : decode cX3_placeAfter 15 = .ok (.iload_n 1, 1) := by decide +kernel
theorem dX3_placeAfter_16 : decode cX3_placeAfter 16 = .ok (.iconst 1, 1) := by decide +kernel
theorem dX3_placeAfter_17 : decode cX3_placeAfter 17 = .ok (.iadd, 1) := by decide +kernel
theorem dX3_placeAfter_18 : decode cX3_placeAfter 18 = .ok (.goto 7, 3) := by decide +kernel
theorem dX3_placeAfter_21 : decode cX3_placeAfter 21 = .ok (.aload_n 0, 1) := by decide +kernel
theorem dX3_placeAfter_22 : decode cX3_placeAfter 22 = .ok (.getfield 15, 3) := by decide +kernel
theorem dX3_placeAfter_25 : decode cX3_placeAfter 25 = .ok (.ireturn, 1) := by decide +kernel
theorem dX3_leastFrom_0 : decode cX3_leastFrom 0 = .ok (.iconst 0, 1) := by decide +kernel
theorem dX3_leastFrom_1 : decode cX3_leastFrom 1 = .ok (.istore_n 2, 1) := by decide +kernel
theorem dX3_leastFrom_2 : decode cX3_leastFrom 2 = .ok (.iload_n 2, 1) := by decide +kernel
theorem dX3_leastFrom_3 : decode cX3_leastFrom 3 = .ok (.aload_n 0, 1) := by decide +kernel
theorem dX3_leastFrom_4 : decode cX3_leastFrom 4 = .ok (.getfield 15, 3) := by decide +kernel
theorem dX3_leastFrom_7 : decode cX3_leastFrom 7 = .ok (.aload_n 0, 1) := by decide +kernel
theorem dX3_leastFrom_8 : decode cX3_leastFrom 8 = .ok (.getfield 21, 3) := by decide +kernel
theorem dX3_leastFrom_11 : decode cX3_leastFrom 11 = .ok (.iadd, 1) := by decide +kernel
theorem dX3_leastFrom_12 : decode cX3_leastFrom 12 = .ok (.if_icmp .ge 23, 3) := by decide +kernel
theorem dX3_leastFrom_15 : decode cX3_leastFrom 15 = .ok (.aload_n 0, 1) := by decide +kernel
theorem dX3_leastFrom_16 : decode cX3_leastFrom 16 = .ok (.iload_n 1, 1) := by decide +kernel
theorem dX3_leastFrom_17 : decode cX3_leastFrom 17 = .ok (.iload_n 2, 1) := by decide +kernel
theorem dX3_leastFrom_18 : decode cX3_leastFrom 18 = .ok (.iadd, 1) := by decide +kernel
theorem dX3_leastFrom_19 : decode cX3_leastFrom 19 = .ok (.invokevirtual 49, 3) := by decide +kernel
theorem dX3_leastFrom_22 : decode cX3_leastFrom 22 = .ok (.ifCond .eq 7, 3) := by decide +kernel
theorem dX3_leastFrom_25 : decode cX3_leastFrom 25 = .ok (.iload_n 1, 1) := by decide +kernel
theorem dX3_leastFrom_26 : decode cX3_leastFrom 26 = .ok (.iload_n 2, 1) := by decide +kernel
theorem dX3_leastFrom_27 : decode cX3_leastFrom 27 = .ok (.iadd, 1) := by decide +kernel
theorem dX3_leastFrom_28 : decode cX3_leastFrom 28 = .ok (.ireturn, 1) := by decide +kernel
theorem dX3_leastFrom_29 : decode cX3_leastFrom 29 = .ok (.iinc 2 1, 3) := by decide +kernel
theorem dX3_leastFrom_32 : decode cX3_leastFrom 32 = .ok (.goto (-30), 3) := by decide +kernel
theorem dX3_leastFrom_35 : decode cX3_leastFrom 35 = .ok (.bipush (-6), 2) := by decide +kernel
theorem dX3_leastFrom_37 : decode cX3_leastFrom 37 = .ok (.ireturn, 1) := by decide +kernel
theorem dX3_numbersBefore_0 : decode cX3_numbersBefore 0 = .ok (.iload_n 1, 1) := by decide +kernel
theorem dX3_numbersBefore_1 : decode cX3_numbersBefore 1 = .ok (.aload_n 0, 1) := by decide +kernel
theorem dX3_numbersBefore_2 : decode cX3_numbersBefore 2 = .ok (.getfield 15, 3) := by decide +kernel
theorem dX3_numbersBefore_5 : decode cX3_numbersBefore 5 = .ok (.aload_n 0, 1) := by decide +kernel
theorem dX3_numbersBefore_6 : decode cX3_numbersBefore 6 = .ok (.getfield 21, 3) := by decide +kernel
theorem dX3_numbersBefore_9 : decode cX3_numbersBefore 9 = .ok (.iadd, 1) := by decide +kernel
theorem dX3_numbersBefore_10 : decode cX3_numbersBefore 10 = .ok (.if_icmp .le 11, 3) := by decide +kernel
theorem dX3_numbersBefore_13 : decode cX3_numbersBefore 13 = .ok (.aload_n 0, 1) := by decide +kernel
theorem dX3_numbersBefore_14 : decode cX3_numbersBefore 14 = .ok (.getfield 21, 3) := by decide +kernel
theorem dX3_numbersBefore_17 : decode cX3_numbersBefore 17 = .ok (.iconst 1, 1) := by decide +kernel
theorem dX3_numbersBefore_18 : decode cX3_numbersBefore 18 = .ok (.if_icmp .ge 9, 3) := by decide +kernel
theorem dX3_numbersBefore_21 : decode cX3_numbersBefore 21 = .ok (.aload_n 0, 1) := by decide +kernel
theorem dX3_numbersBefore_22 : decode cX3_numbersBefore 22 = .ok (.iload_n 1, 1) := by decide +kernel
theorem dX3_numbersBefore_23 : decode cX3_numbersBefore 23 = .ok (.invokevirtual 52, 3) := by decide +kernel
theorem dX3_numbersBefore_26 : decode cX3_numbersBefore 26 = .ok (.ireturn, 1) := by decide +kernel
theorem dX3_numbersBefore_27 : decode cX3_numbersBefore 27 = .ok (.aload_n 0, 1) := by decide +kernel
theorem dX3_numbersBefore_28 : decode cX3_numbersBefore 28 = .ok (.aload_n 0, 1) := by decide +kernel
theorem dX3_numbersBefore_29 : decode cX3_numbersBefore 29 = .ok (.getfield 15, 3) := by decide +kernel
theorem dX3_numbersBefore_32 : decode cX3_numbersBefore 32 = .ok (.aload_n 0, 1) := by decide +kernel
theorem dX3_numbersBefore_33 : decode cX3_numbersBefore 33 = .ok (.getfield 21, 3) := by decide +kernel
theorem dX3_numbersBefore_36 : decode cX3_numbersBefore 36 = .ok (.iadd, 1) := by decide +kernel
theorem dX3_numbersBefore_37 : decode cX3_numbersBefore 37 = .ok (.invokevirtual 52, 3) := by decide +kernel
theorem dX3_numbersBefore_40 : decode cX3_numbersBefore 40 = .ok (.aload_n 0, 1) := by decide +kernel
theorem dX3_numbersBefore_41 : decode cX3_numbersBefore 41 = .ok (.aload_n 0, 1) := by decide +kernel
theorem dX3_numbersBefore_42 : decode cX3_numbersBefore 42 = .ok (.getfield 15, 3) := by decide +kernel
theorem dX3_numbersBefore_45 : decode cX3_numbersBefore 45 = .ok (.invokevirtual 52, 3) := by decide +kernel
theorem dX3_numbersBefore_48 : decode cX3_numbersBefore 48 = .ok (.isub, 1) := by decide +kernel
theorem dX3_numbersBefore_49 : decode cX3_numbersBefore 49 = .ok (.istore_n 2, 1) := by decide +kernel
theorem dX3_numbersBefore_50 : decode cX3_numbersBefore 50 = .ok (.iload_n 1, 1) := by decide +kernel
theorem dX3_numbersBefore_51 : decode cX3_numbersBefore 51 = .ok (.aload_n 0, 1) := by decide +kernel
theorem dX3_numbersBefore_52 : decode cX3_numbersBefore 52 = .ok (.getfield 15, 3) := by decide +kernel
theorem dX3_numbersBefore_55 : decode cX3_numbersBefore 55 = .ok (.isub, 1) := by decide +kernel
theorem dX3_numbersBefore_56 : decode cX3_numbersBefore 56 = .ok (.aload_n 0, 1) := by decide +kernel
theorem dX3_numbersBefore_57 : decode cX3_numbersBefore 57 = .ok (.getfield 21, 3) := by decide +kernel
theorem dX3_numbersBefore_60 : decode cX3_numbersBefore 60 = .ok (.idiv, 1) := by decide +kernel
theorem dX3_numbersBefore_61 : decode cX3_numbersBefore 61 = .ok (.istore_n 3, 1) := by decide +kernel
theorem dX3_numbersBefore_62 : decode cX3_numbersBefore 62 = .ok (.aload_n 0, 1) := by decide +kernel
theorem dX3_numbersBefore_63 : decode cX3_numbersBefore 63 = .ok (.aload_n 0, 1) := by decide +kernel
theorem dX3_numbersBefore_64 : decode cX3_numbersBefore 64 = .ok (.getfield 15, 3) := by decide +kernel
theorem dX3_numbersBefore_67 : decode cX3_numbersBefore 67 = .ok (.iload_n 1, 1) := by decide +kernel
theorem dX3_numbersBefore_68 : decode cX3_numbersBefore 68 = .ok (.aload_n 0, 1) := by decide +kernel
theorem dX3_numbersBefore_69 : decode cX3_numbersBefore 69 = .ok (.getfield 15, 3) := by decide +kernel
theorem dX3_numbersBefore_72 : decode cX3_numbersBefore 72 = .ok (.isub, 1) := by decide +kernel
theorem dX3_numbersBefore_73 : decode cX3_numbersBefore 73 = .ok (.aload_n 0, 1) := by decide +kernel
theorem dX3_numbersBefore_74 : decode cX3_numbersBefore 74 = .ok (.getfield 21, 3) := by decide +kernel
theorem dX3_numbersBefore_77 : decode cX3_numbersBefore 77 = .ok (.irem, 1) := by decide +kernel
theorem dX3_numbersBefore_78 : decode cX3_numbersBefore 78 = .ok (.iadd, 1) := by decide +kernel
theorem dX3_numbersBefore_79 : decode cX3_numbersBefore 79 = .ok (.invokevirtual 52, 3) := by decide +kernel
theorem dX3_numbersBefore_82 : decode cX3_numbersBefore 82 = .ok (.iload_n 3, 1) := by decide +kernel
theorem dX3_numbersBefore_83 : decode cX3_numbersBefore 83 = .ok (.iload_n 2, 1) := by decide +kernel
theorem dX3_numbersBefore_84 : decode cX3_numbersBefore 84 = .ok (.imul, 1) := by decide +kernel
theorem dX3_numbersBefore_85 : decode cX3_numbersBefore 85 = .ok (.iadd, 1) := by decide +kernel
theorem dX3_numbersBefore_86 : decode cX3_numbersBefore 86 = .ok (.ireturn, 1) := by decide +kernel
theorem dX3_placesBefore_0 : decode cX3_placesBefore 0 = .ok (.iconst 0, 1) := by decide +kernel
theorem dX3_placesBefore_1 : decode cX3_placesBefore 1 = .ok (.istore_n 2, 1) := by decide +kernel
theorem dX3_placesBefore_2 : decode cX3_placesBefore 2 = .ok (.iconst 0, 1) := by decide +kernel
theorem dX3_placesBefore_3 : decode cX3_placesBefore 3 = .ok (.istore_n 3, 1) := by decide +kernel
theorem dX3_placesBefore_4 : decode cX3_placesBefore 4 = .ok (.iload_n 3, 1) := by decide +kernel
theorem dX3_placesBefore_5 : decode cX3_placesBefore 5 = .ok (.iload_n 1, 1) := by decide +kernel
theorem dX3_placesBefore_6 : decode cX3_placesBefore 6 = .ok (.if_icmp .ge 33, 3) := by decide +kernel
theorem dX3_placesBefore_9 : decode cX3_placesBefore 9 = .ok (.iload_n 3, 1) := by decide +kernel
theorem dX3_placesBefore_10 : decode cX3_placesBefore 10 = .ok (.aload_n 0, 1) := by decide +kernel
theorem dX3_placesBefore_11 : decode cX3_placesBefore 11 = .ok (.getfield 15, 3) := by decide +kernel
theorem dX3_placesBefore_14 : decode cX3_placesBefore 14 = .ok (.aload_n 0, 1) := by decide +kernel
theorem dX3_placesBefore_15 : decode cX3_placesBefore 15 = .ok (.getfield 21, 3) := by decide +kernel
theorem dX3_placesBefore_18 : decode cX3_placesBefore 18 = .ok (.iadd, 1) := by decide +kernel
theorem dX3_placesBefore_19 : decode cX3_placesBefore 19 = .ok (.if_icmp .ge 20, 3) := by decide +kernel
theorem dX3_placesBefore_22 : decode cX3_placesBefore 22 = .ok (.aload_n 0, 1) := by decide +kernel
theorem dX3_placesBefore_23 : decode cX3_placesBefore 23 = .ok (.iload_n 3, 1) := by decide +kernel
theorem dX3_placesBefore_24 : decode cX3_placesBefore 24 = .ok (.invokevirtual 41, 3) := by decide +kernel
theorem dX3_placesBefore_27 : decode cX3_placesBefore 27 = .ok (.ifCond .eq 6, 3) := by decide +kernel
theorem dX3_placesBefore_30 : decode cX3_placesBefore 30 = .ok (.iinc 2 1, 3) := by decide +kernel
theorem dX3_placesBefore_33 : decode cX3_placesBefore 33 = .ok (.iinc 3 1, 3) := by decide +kernel
theorem dX3_placesBefore_36 : decode cX3_placesBefore 36 = .ok (.goto (-32), 3) := by decide +kernel
theorem dX3_placesBefore_39 : decode cX3_placesBefore 39 = .ok (.iload_n 2, 1) := by decide +kernel
theorem dX3_placesBefore_40 : decode cX3_placesBefore 40 = .ok (.ireturn, 1) := by decide +kernel
theorem dX3_sameAs_0 : decode cX3_sameAs 0 = .ok (.aload_n 0, 1) := by decide +kernel
theorem dX3_sameAs_1 : decode cX3_sameAs 1 = .ok (.getfield 15, 3) := by decide +kernel
theorem dX3_sameAs_4 : decode cX3_sameAs 4 = .ok (.aload_n 1, 1) := by decide +kernel
theorem dX3_sameAs_5 : decode cX3_sameAs 5 = .ok (.getfield 15, 3) := by decide +kernel
theorem dX3_sameAs_8 : decode cX3_sameAs 8 = .ok (.if_icmp .ne 14, 3) := by decide +kernel
theorem dX3_sameAs_11 : decode cX3_sameAs 11 = .ok (.aload_n 0, 1) := by decide +kernel
theorem dX3_sameAs_12 : decode cX3_sameAs 12 = .ok (.getfield 21, 3) := by decide +kernel
theorem dX3_sameAs_15 : decode cX3_sameAs 15 = .ok (.aload_n 1, 1) := by decide +kernel
theorem dX3_sameAs_16 : decode cX3_sameAs 16 = .ok (.getfield 21, 3) := by decide +kernel
theorem dX3_sameAs_19 : decode cX3_sameAs 19 = .ok (.if_icmp .eq 5, 3) := by decide +kernel
theorem dX3_sameAs_22 : decode cX3_sameAs 22 = .ok (.iconst 0, 1) := by decide +kernel
theorem dX3_sameAs_23 : decode cX3_sameAs 23 = .ok (.ireturn, 1) := by decide +kernel
theorem dX3_sameAs_24 : decode cX3_sameAs 24 = .ok (.iconst 0, 1) := by decide +kernel
theorem dX3_sameAs_25 : decode cX3_sameAs 25 = .ok (.istore_n 2, 1) := by decide +kernel
theorem dX3_sameAs_26 : decode cX3_sameAs 26 = .ok (.iload_n 2, 1) := by decide +kernel
theorem dX3_sameAs_27 : decode cX3_sameAs 27 = .ok (.aload_n 0, 1) := by decide +kernel
theorem dX3_sameAs_28 : decode cX3_sameAs 28 = .ok (.getfield 32, 3) := by decide +kernel
theorem dX3_sameAs_31 : decode cX3_sameAs 31 = .ok (.arraylength, 1) := by decide +kernel
theorem dX3_sameAs_32 : decode cX3_sameAs 32 = .ok (.if_icmp .ge 36, 3) := by decide +kernel
theorem dX3_sameAs_35 : decode cX3_sameAs 35 = .ok (.iload_n 2, 1) := by decide +kernel
theorem dX3_sameAs_36 : decode cX3_sameAs 36 = .ok (.aload_n 1, 1) := by decide +kernel
theorem dX3_sameAs_37 : decode cX3_sameAs 37 = .ok (.getfield 32, 3) := by decide +kernel
theorem dX3_sameAs_40 : decode cX3_sameAs 40 = .ok (.arraylength, 1) := by decide +kernel
theorem dX3_sameAs_41 : decode cX3_sameAs 41 = .ok (.if_icmp .ge 27, 3) := by decide +kernel
theorem dX3_sameAs_44 : decode cX3_sameAs 44 = .ok (.aload_n 0, 1) := by decide +kernel
theorem dX3_sameAs_45 : decode cX3_sameAs 45 = .ok (.getfield 32, 3) := by decide +kernel
theorem dX3_sameAs_48 : decode cX3_sameAs 48 = .ok (.iload_n 2, 1) := by decide +kernel
theorem dX3_sameAs_49 : decode cX3_sameAs 49 = .ok (.laload, 1) := by decide +kernel
theorem dX3_sameAs_50 : decode cX3_sameAs 50 = .ok (.aload_n 1, 1) := by decide +kernel
theorem dX3_sameAs_51 : decode cX3_sameAs 51 = .ok (.getfield 32, 3) := by decide +kernel
theorem dX3_sameAs_54 : decode cX3_sameAs 54 = .ok (.iload_n 2, 1) := by decide +kernel
theorem dX3_sameAs_55 : decode cX3_sameAs 55 = .ok (.laload, 1) := by decide +kernel
theorem dX3_sameAs_56 : decode cX3_sameAs 56 = .ok (.lcmp, 1) := by decide +kernel
theorem dX3_sameAs_57 : decode cX3_sameAs 57 = .ok (.ifCond .eq 5, 3) := by decide +kernel
theorem dX3_sameAs_60 : decode cX3_sameAs 60 = .ok (.iconst 0, 1) := by decide +kernel
theorem dX3_sameAs_61 : decode cX3_sameAs 61 = .ok (.ireturn, 1) := by decide +kernel
theorem dX3_sameAs_62 : decode cX3_sameAs 62 = .ok (.iinc 2 1, 3) := by decide +kernel
theorem dX3_sameAs_65 : decode cX3_sameAs 65 = .ok (.goto (-39), 3) := by decide +kernel
theorem dX3_sameAs_68 : decode cX3_sameAs 68 = .ok (.iconst 1, 1) := by decide +kernel
theorem dX3_sameAs_69 : decode cX3_sameAs 69 = .ok (.ireturn, 1) := by decide +kernel
theorem dX4_init_0 : decode cX4_init 0 = .ok (.aload_n 0, 1) := by decide +kernel
theorem dX4_init_1 : decode cX4_init 1 = .ok (.invokespecial 3, 3) := by decide +kernel
theorem dX4_init_4 : decode cX4_init 4 = .ok (.aload_n 0, 1) := by decide +kernel
theorem dX4_init_5 : decode cX4_init 5 = .ok (.sipush 195, 3) := by decide +kernel
theorem dX4_init_8 : decode cX4_init 8 = .ok (.newarray .long, 2) := by decide +kernel
theorem dX4_init_10 : decode cX4_init 10 = .ok (.putfield 9, 3) := by decide +kernel
theorem dX4_init_13 : decode cX4_init 13 = .ok (.aload_n 0, 1) := by decide +kernel
theorem dX4_init_14 : decode cX4_init 14 = .ok (.sipush 320, 3) := by decide +kernel
theorem dX4_init_17 : decode cX4_init 17 = .ok (.newarray .int, 2) := by decide +kernel
theorem dX4_init_19 : decode cX4_init 19 = .ok (.putfield 15, 3) := by decide +kernel
theorem dX4_init_22 : decode cX4_init 22 = .ok (.return_, 1) := by decide +kernel
theorem dX4_trace_0 : decode cX4_trace 0 = .ok (.aload_n 1, 1) := by decide +kernel
theorem dX4_trace_1 : decode cX4_trace 1 = .ok (.getfield 19, 3) := by decide +kernel
theorem dX4_trace_4 : decode cX4_trace 4 = .ok (.bipush 120, 2) := by decide +kernel
theorem dX4_trace_6 : decode cX4_trace 6 = .ok (.if_icmp .gt 12, 3) := by decide +kernel
theorem dX4_trace_9 : decode cX4_trace 9 = .ok (.aload_n 1, 1) := by decide +kernel
theorem dX4_trace_10 : decode cX4_trace 10 = .ok (.getfield 25, 3) := by decide +kernel
theorem dX4_trace_13 : decode cX4_trace 13 = .ok (.bipush 60, 2) := by decide +kernel
theorem dX4_trace_15 : decode cX4_trace 15 = .ok (.if_icmp .le 5, 3) := by decide +kernel
theorem dX4_trace_18 : decode cX4_trace 18 = .ok (.iconst 0, 1) := by decide +kernel
theorem dX4_trace_19 : decode cX4_trace 19 = .ok (.ireturn, 1) := by decide +kernel
theorem dX4_trace_20 : decode cX4_trace 20 = .ok (.aload_n 0, 1) := by decide +kernel
theorem dX4_trace_21 : decode cX4_trace 21 = .ok (.iload_n 2, 1) := by decide +kernel
theorem dX4_trace_22 : decode cX4_trace 22 = .ok (.iconst 5, 1) := by decide +kernel
theorem dX4_trace_23 : decode cX4_trace 23 = .ok (.invokestatic 28, 3) := by decide +kernel
theorem dX4_trace_26 : decode cX4_trace 26 = .ok (.putfield 34, 3) := by decide +kernel
theorem dX4_trace_29 : decode cX4_trace 29 = .ok (.aload_n 0, 1) := by decide +kernel
theorem dX4_trace_30 : decode cX4_trace 30 = .ok (.aload_n 1, 1) := by decide +kernel
theorem dX4_trace_31 : decode cX4_trace 31 = .ok (.getfield 19, 3) := by decide +kernel
theorem dX4_trace_34 : decode cX4_trace 34 = .ok (.putfield 37, 3) := by decide +kernel
theorem dX4_trace_37 : decode cX4_trace 37 = .ok (.aload_n 0, 1) := by decide +kernel
theorem dX4_trace_38 : decode cX4_trace 38 = .ok (.aload_n 1, 1) := by decide +kernel
theorem dX4_trace_39 : decode cX4_trace 39 = .ok (.getfield 25, 3) := by decide +kernel
theorem dX4_trace_42 : decode cX4_trace 42 = .ok (.putfield 38, 3) := by decide +kernel
theorem dX4_trace_45 : decode cX4_trace 45 = .ok (.aload_n 1, 1) := by decide +kernel
theorem dX4_trace_46 : decode cX4_trace 46 = .ok (.getfield 39, 3) := by decide +kernel
theorem dX4_trace_49 : decode cX4_trace 49 = .ok (.iconst 0, 1) := by decide +kernel
theorem dX4_trace_50 : decode cX4_trace 50 = .ok (.aload_n 0, 1) := by decide +kernel
theorem dX4_trace_51 : decode cX4_trace 51 = .ok (.getfield 9, 3) := by decide +kernel
theorem dX4_trace_54 : decode cX4_trace 54 = .ok (.iconst 0, 1) := by decide +kernel
theorem dX4_trace_55 : decode cX4_trace 55 = .ok (.iconst 3, 1) := by decide +kernel
theorem dX4_trace_56 : decode cX4_trace 56 = .ok (.invokestatic 42, 3) := by decide +kernel
theorem dX4_trace_59 : decode cX4_trace 59 = .ok (.aload_n 0, 1) := by decide +kernel
theorem dX4_trace_60 : decode cX4_trace 60 = .ok (.iconst 1, 1) := by decide +kernel
theorem dX4_trace_61 : decode cX4_trace 61 = .ok (.putfield 48, 3) := by decide +kernel
theorem dX4_trace_64 : decode cX4_trace 64 = .ok (.iconst 0, 1) := by decide +kernel
theorem dX4_trace_65 : decode cX4_trace 65 = .ok (.istore_n 3, 1) := by decide +kernel
theorem dX4_trace_66 : decode cX4_trace 66 = .ok (.iload_n 3, 1) := by decide +kernel
theorem dX4_trace_67 : decode cX4_trace 67 = .ok (.aload_n 0, 1) := by decide +kernel
theorem dX4_trace_68 : decode cX4_trace 68 = .ok (.getfield 48, 3) := by decide +kernel
theorem dX4_trace_71 : decode cX4_trace 71 = .ok (.if_icmp .ge 86, 3) := by decide +kernel
theorem dX4_trace_74 : decode cX4_trace 74 = .ok (.iload_n 3, 1) := by decide +kernel
theorem dX4_trace_75 : decode cX4_trace 75 = .ok (.bipush 64, 2) := by decide +kernel
theorem dX4_trace_77 : decode cX4_trace 77 = .ok (.if_icmp .ge 80, 3) := by decide +kernel
theorem dX4_trace_80 : decode cX4_trace 80 = .ok (.iconst 0, 1) := by decide +kernel
theorem dX4_trace_81 : decode cX4_trace 81 = .ok (.istore 4, 2) := by decide +kernel
theorem dX4_trace_83 : decode cX4_trace 83 = .ok (.iload 4, 2) := by decide +kernel
theorem dX4_trace_85 : decode cX4_trace 85 = .ok (.aload_n 0, 1) := by decide +kernel
theorem dX4_trace_86 : decode cX4_trace 86 = .ok (.getfield 34, 3) := by decide +kernel
theorem dX4_trace_89 : decode cX4_trace 89 = .ok (.if_icmp .ge 62, 3) := by decide +kernel
theorem dX4_trace_92 : decode cX4_trace 92 = .ok (.aload_n 0, 1) := by decide +kernel
theorem dX4_trace_93 : decode cX4_trace 93 = .ok (.iload_n 3, 1) := by decide +kernel
theorem dX4_trace_94 : decode cX4_trace 94 = .ok (.iload 4, 2) := by decide +kernel
theorem dX4_trace_96 : decode cX4_trace 96 = .ok (.invokevirtual 51, 3) := by decide +kernel
theorem dX4_trace_99 : decode cX4_trace 99 = .ok (.aload_n 0, 1) := by decide +kernel
theorem dX4_trace_100 : decode cX4_trace 100 = .ok (.invokevirtual 55, 3) := by decide +kernel
theorem dX4_trace_103 : decode cX4_trace 103 = .ok (.istore 5, 2) := by decide +kernel
theorem dX4_trace_105 : decode cX4_trace 105 = .ok (.iload 5, 2) := by decide +kernel
theorem dX4_trace_107 : decode cX4_trace 107 = .ok (.bipush 64, 2) := by decide +kernel
theorem dX4_trace_109 : decode cX4_trace 109 = .ok (.if_icmp .ne 5, 3) := by decide +kernel
theorem dX4_trace_112 : decode cX4_trace 112 = .ok (.iconst 0, 1) := by decide +kernel
theorem dX4_trace_113 : decode cX4_trace 113 = .ok (.ireturn, 1) := by decide +kernel
theorem dX4_trace_114 : decode cX4_trace 114 = .ok (.aload_n 0, 1) := by decide +kernel
theorem dX4_trace_115 : decode cX4_trace 115 = .ok (.getfield 15, 3) := by decide +kernel
theorem dX4_trace_118 : decode cX4_trace 118 = .ok (.iload_n 3, 1) := by decide +kernel
theorem dX4_trace_119 : decode cX4_trace 119 = .ok (.aload_n 0, 1) := by decide +kernel
theorem dX4_trace_120 : decode cX4_trace 120 = .ok (.getfield 34, 3) := by decide +kernel
theorem dX4_trace_123 : decode cX4_trace 123 = .ok (.imul, 1) := by decide +kernel
theorem dX4_trace_124 : decode cX4_trace 124 = .ok (.iload 4, 2) := by decide +kernel
theorem dX4_trace_126 : decode cX4_trace 126 = .ok (.iadd, 1) := by decide +kernel
theorem dX4_trace_127 : decode cX4_trace 127 = .ok (.iload 5, 2) := by decide +kernel
theorem dX4_trace_129 : decode cX4_trace 129 = .ok (.iastore, 1) := by decide +kernel
theorem dX4_trace_130 : decode cX4_trace 130 = .ok (.aload_n 0, 1) := by decide +kernel
theorem dX4_trace_131 : decode cX4_trace 131 = .ok (.aload_n 0, 1) := by decide +kernel
theorem dX4_trace_132 : decode cX4_trace 132 = .ok (.getfield 48, 3) := by decide +kernel
theorem dX4_trace_135 : decode cX4_trace 135 = .ok (.iload 5, 2) := by decide +kernel
theorem dX4_trace_137 : decode cX4_trace 137 = .ok (.iconst 1, 1) := by decide +kernel
theorem dX4_trace_138 : decode cX4_trace 138 = .ok (.iadd, 1) := by decide +kernel
theorem dX4_trace_139 : decode cX4_trace 139 = .ok (.invokestatic 59, 3) := by decide +kernel
theorem dX4_trace_142 : decode cX4_trace 142 = .ok (.putfield 48, 3) := by decide +kernel
theorem dX4_trace_145 : decode cX4_trace 145 = .ok (.iinc 4 1, 3) := by decide +kernel
theorem dX4_trace_148 : decode cX4_trace 148 = .ok (.goto (-65), 3) := by decide +kernel
theorem dX4_trace_151 : decode cX4_trace 151 = .ok (.iinc 3 1, 3) := by decide +kernel
theorem dX4_trace_154 : decode cX4_trace 154 = .ok (.goto (-88), 3) := by decide +kernel
theorem dX4_trace_157 : decode cX4_trace 157 = .ok (.iconst 1, 1) := by decide +kernel
theorem dX4_trace_158 : decode cX4_trace 158 = .ok (.ireturn, 1) := by decide +kernel
theorem dX4_machine_0 : decode cX4_machine 0 = .ok (.lconst 0, 1) := by decide +kernel
theorem dX4_machine_1 : decode cX4_machine 1 = .ok (.lstore_n 1, 1) := by decide +kernel
theorem dX4_machine_2 : decode cX4_machine 2 = .ok (.iconst 0, 1) := by decide +kernel
theorem dX4_machine_3 : decode cX4_machine 3 = .ok (.istore_n 3, 1) := by decide +kernel
theorem dX4_machine_4 : decode cX4_machine 4 = .ok (.iload_n 3, 1) := by decide +kernel
theorem dX4_machine_5 : decode cX4_machine 5 = .ok (.aload_n 0, 1) := by decide +kernel
theorem dX4_machine_6 : decode cX4_machine 6 = .ok (.getfield 48, 3) := by decide +kernel
theorem dX4_machine_9 : decode cX4_machine 9 = .ok (.if_icmp .ge 24, 3) := by decide +kernel
theorem dX4_machine_12 : decode cX4_machine 12 = .ok (.lload_n 1, 1) := by decide +kernel
theorem dX4_machine_13 : decode cX4_machine 13 = .ok (.aload_n 0, 1) := by decide +kernel
theorem dX4_machine_14 : decode cX4_machine 14 = .ok (.getfield 9, 3) := by decide +kernel
theorem dX4_machine_17 : decode cX4_machine 17 = .ok (.iload_n 3, 1) := by decide +kernel
theorem dX4_machine_18 : decode cX4_machine 18 = .ok (.iconst 3, 1) := by decide +kernel
theorem dX4_machine_19 : decode cX4_machine 19 = .ok (.imul, 1) := by decide +kernel
theorem dX4_machine_20 : decode cX4_machine 20 = .ok (.laload, 1) := by decide +kernel
theorem dX4_machine_21 : decode cX4_machine 21 = .ok (.lconst 1, 1) := by decide +kernel
theorem dX4_machine_22 : decode cX4_machine 22 = .ok (.land, 1) := by decide +kernel
theorem dX4_machine_23 : decode cX4_machine 23 = .ok (.iload_n 3, 1) := by decide +kernel
theorem dX4_machine_24 : decode cX4_machine 24 = .ok (.lshl, 1) := by decide +kernel
theorem dX4_machine_25 : decode cX4_machine 25 = .ok (.lor, 1) := by decide +kernel
theorem dX4_machine_26 : decode cX4_machine 26 = .ok (.lstore_n 1, 1) := by decide +kernel
theorem dX4_machine_27 : decode cX4_machine 27 = .ok (.iinc 3 1, 3) := by decide +kernel
theorem dX4_machine_30 : decode cX4_machine 30 = .ok (.goto (-26), 3) := by decide +kernel
theorem dX4_machine_33 : decode cX4_machine 33 = .ok (.new 62, 3) := by decide +kernel
theorem dX4_machine_36 : decode cX4_machine 36 = .ok (.dup, 1) := by decide +kernel
theorem dX4_machine_37 : decode cX4_machine 37 = .ok (.aload_n 0, 1) := by decide +kernel
theorem dX4_machine_38 : decode cX4_machine 38 = .ok (.getfield 34, 3) := by decide +kernel
theorem dX4_machine_41 : decode cX4_machine 41 = .ok (.aload_n 0, 1) := by decide +kernel
theorem dX4_machine_42 : decode cX4_machine 42 = .ok (.getfield 48, 3) := by decide +kernel
theorem dX4_machine_45 : decode cX4_machine 45 = .ok (.aload_n 0, 1) := by decide +kernel
theorem dX4_machine_46 : decode cX4_machine 46 = .ok (.getfield 15, 3) := by decide +kernel
theorem dX4_machine_49 : decode cX4_machine 49 = .ok (.aload_n 0, 1) := by decide +kernel
theorem dX4_machine_50 : decode cX4_machine 50 = .ok (.getfield 48, 3) := by decide +kernel
theorem dX4_machine_53 : decode cX4_machine 53 = .ok (.aload_n 0, 1) := by decide +kernel
theorem dX4_machine_54 : decode cX4_machine 54 = .ok (.getfield 34, 3) := by decide +kernel
theorem dX4_machine_57 : decode cX4_machine 57 = .ok (.imul, 1) := by decide +kernel
theorem dX4_machine_58 : decode cX4_machine 58 = .ok (.invokestatic 64, 3) := by decide +kernel
theorem dX4_machine_61 : decode cX4_machine 61 = .ok (.lload_n 1, 1) := by decide +kernel
theorem dX4_machine_62 : decode cX4_machine 62 = .ok (.invokespecial 70, 3) := by decide +kernel
theorem dX4_machine_65 : decode cX4_machine 65 = .ok (.areturn, 1) := by decide +kernel
theorem dX4_writeRest_0 : decode cX4_writeRest 0 = .ok (.iload_n 1, 1) := by decide +kernel
theorem dX4_writeRest_1 : decode cX4_writeRest 1 = .ok (.iconst 3, 1) := by decide +kernel
theorem dX4_writeRest_2 : decode cX4_writeRest 2 = .ok (.imul, 1) := by decide +kernel
theorem dX4_writeRest_3 : decode cX4_writeRest 3 = .ok (.istore_n 3, 1) := by decide +kernel
theorem dX4_writeRest_4 : decode cX4_writeRest 4 = .ok (.aload_n 0, 1) := by decide +kernel
theorem dX4_writeRest_5 : decode cX4_writeRest 5 = .ok (.getfield 48, 3) := by decide +kernel
theorem dX4_writeRest_8 : decode cX4_writeRest 8 = .ok (.iconst 3, 1) := by decide +kernel
theorem dX4_writeRest_9 : decode cX4_writeRest 9 = .ok (.imul, 1) := by decide +kernel
theorem dX4_writeRest_10 : decode cX4_writeRest 10 = .ok (.istore 4, 2) := by decide +kernel
theorem dX4_writeRest_12 : decode cX4_writeRest 12 = .ok (.iconst 0, 1) := by decide +kernel
theorem dX4_writeRest_13 : decode cX4_writeRest 13 = .ok (.istore 5, 2) := by decide +kernel
theorem dX4_writeRest_15 : decode cX4_writeRest 15 = .ok (.iload 5, 2) := by decide +kernel
theorem dX4_writeRest_17 : decode cX4_writeRest 17 = .ok (.iconst 3, 1) := by decide +kernel
theorem dX4_writeRest_18 : decode cX4_writeRest 18 = .ok (.if_icmp .ge 20, 3) := by decide +kernel
theorem dX4_writeRest_21 : decode cX4_writeRest 21 = .ok (.aload_n 0, 1) := by decide +kernel
theorem dX4_writeRest_22 : decode cX4_writeRest 22 = .ok (.getfield 9, 3) := by decide +kernel
theorem dX4_writeRest_25 : decode cX4_writeRest 25 = .ok (.iload 4, 2) := by decide +kernel
theorem dX4_writeRest_27 : decode cX4_writeRest 27 = .ok (.iload 5, 2) := by decide +kernel
theorem dX4_writeRest_29 : decode cX4_writeRest 29 = .ok (.iadd, 1) := by decide +kernel
theorem dX4_writeRest_30 : decode cX4_writeRest 30 = .ok (.lconst 0, 1) := by decide +kernel
theorem dX4_writeRest_31 : decode cX4_writeRest 31 = .ok (.lastore, 1) := by decide +kernel
theorem dX4_writeRest_32 : decode cX4_writeRest 32 = .ok (.iinc 5 1, 3) := by decide +kernel
theorem dX4_writeRest_35 : decode cX4_writeRest 35 = .ok (.goto (-20), 3) := by decide +kernel
theorem dX4_writeRest_38 : decode cX4_writeRest 38 = .ok (.iload_n 2, 1) := by decide +kernel
theorem dX4_writeRest_39 : decode cX4_writeRest 39 = .ok (.aload_n 0, 1) := by decide +kernel
theorem dX4_writeRest_40 : decode cX4_writeRest 40 = .ok (.getfield 37, 3) := by decide +kernel
theorem dX4_writeRest_43 : decode cX4_writeRest 43 = .ok (.aload_n 0, 1) := by decide +kernel
theorem dX4_writeRest_44 : decode cX4_writeRest 44 = .ok (.getfield 38, 3) := by decide +kernel
theorem dX4_writeRest_47 : decode cX4_writeRest 47 = .ok (.invokestatic 73, 3) := by decide +kernel
theorem dX4_writeRest_50 : decode cX4_writeRest 50 = .ok (.istore 5, 2) := by decide +kernel
theorem dX4_writeRest_52 : decode cX4_writeRest 52 = .ok (.iconst 0, 1) := by decide +kernel
theorem dX4_writeRest_53 : decode cX4_writeRest 53 = .ok (.istore 6, 2) := by decide +kernel
theorem dX4_writeRest_55 : decode cX4_writeRest 55 = .ok (.iload 6, 2) := by decide +kernel
theorem dX4_writeRest_57 : decode cX4_writeRest 57 = .ok (.aload_n 0, 1) := by decide +kernel
theorem dX4_writeRest_58 : decode cX4_writeRest 58 = .ok (.getfield 37, 3) := by decide +kernel
theorem dX4_writeRest_61 : decode cX4_writeRest 61 = .ok (.aload_n 0, 1) := by decide +kernel
theorem dX4_writeRest_62 : decode cX4_writeRest 62 = .ok (.getfield 38, 3) := by decide +kernel
theorem dX4_writeRest_65 : decode cX4_writeRest 65 = .ok (.iadd, 1) := by decide +kernel
theorem dX4_writeRest_66 : decode cX4_writeRest 66 = .ok (.if_icmp .ge 65, 3) := by decide +kernel
theorem dX4_writeRest_69 : decode cX4_writeRest 69 = .ok (.aload_n 0, 1) := by decide +kernel
theorem dX4_writeRest_70 : decode cX4_writeRest 70 = .ok (.getfield 9, 3) := by decide +kernel
theorem dX4_writeRest_73 : decode cX4_writeRest 73 = .ok (.iload 4, 2) := by decide +kernel
theorem dX4_writeRest_75 : decode cX4_writeRest 75 = .ok (.iload 6, 2) := by decide +kernel
theorem dX4_writeRest_77 : decode cX4_writeRest 77 = .ok (.bipush 6, 2) := by decide +kernel
theorem dX4_writeRest_79 : decode cX4_writeRest 79 = .ok (.ishr, 1) := by decide +kernel
theorem dX4_writeRest_80 : decode cX4_writeRest 80 = .ok (.iadd, 1) := by decide +kernel
theorem dX4_writeRest_81 : decode cX4_writeRest 81 = .ok (.dup2, 1) := by decide +kernel
theorem dX4_writeRest_82 : decode cX4_writeRest 82 = .ok (.laload, 1) := by decide +kernel
theorem dX4_writeRest_83 : decode cX4_writeRest 83 = .ok (.aload_n 0, 1) := by decide +kernel
theorem dX4_writeRest_84 : decode cX4_writeRest 84 = .ok (.getfield 9, 3) := by decide +kernel
theorem dX4_writeRest_87 : decode cX4_writeRest 87 = .ok (.iload_n 3, 1) := by decide +kernel
theorem dX4_writeRest_88 : decode cX4_writeRest 88 = .ok (.iload 5, 2) := by decide +kernel
theorem dX4_writeRest_90 : decode cX4_writeRest 90 = .ok (.bipush 6, 2) := by decide +kernel
theorem dX4_writeRest_92 : decode cX4_writeRest 92 = .ok (.ishr, 1) := by decide +kernel
theorem dX4_writeRest_93 : decode cX4_writeRest 93 = .ok (.iadd, 1) := by decide +kernel
theorem dX4_writeRest_94 : decode cX4_writeRest 94 = .ok (.laload, 1) := by decide +kernel
theorem dX4_writeRest_95 : decode cX4_writeRest 95 = .ok (.iload 5, 2) := by decide +kernel
theorem dX4_writeRest_97 : decode cX4_writeRest 97 = .ok (.lushr, 1) := by decide +kernel
theorem dX4_writeRest_98 : decode cX4_writeRest 98 = .ok (.lconst 1, 1) := by decide +kernel
theorem dX4_writeRest_99 : decode cX4_writeRest 99 = .ok (.land, 1) := by decide +kernel
theorem dX4_writeRest_100 : decode cX4_writeRest 100 = .ok (.iload 6, 2) := by decide +kernel
theorem dX4_writeRest_102 : decode cX4_writeRest 102 = .ok (.lshl, 1) := by decide +kernel
theorem dX4_writeRest_103 : decode cX4_writeRest 103 = .ok (.lor, 1) := by decide +kernel
theorem dX4_writeRest_104 : decode cX4_writeRest 104 = .ok (.lastore, 1) := by decide +kernel
theorem dX4_writeRest_105 : decode cX4_writeRest 105 = .ok (.iload 5, 2) := by decide +kernel
theorem dX4_writeRest_107 : decode cX4_writeRest 107 = .ok (.aload_n 0, 1) := by decide +kernel
theorem dX4_writeRest_108 : decode cX4_writeRest 108 = .ok (.getfield 34, 3) := by decide +kernel
theorem dX4_writeRest_111 : decode cX4_writeRest 111 = .ok (.iadd, 1) := by decide +kernel
theorem dX4_writeRest_112 : decode cX4_writeRest 112 = .ok (.aload_n 0, 1) := by decide +kernel
theorem dX4_writeRest_113 : decode cX4_writeRest 113 = .ok (.getfield 37, 3) := by decide +kernel
theorem dX4_writeRest_116 : decode cX4_writeRest 116 = .ok (.aload_n 0, 1) := by decide +kernel
theorem dX4_writeRest_117 : decode cX4_writeRest 117 = .ok (.getfield 38, 3) := by decide +kernel
theorem dX4_writeRest_120 : decode cX4_writeRest 120 = .ok (.invokestatic 73, 3) := by decide +kernel
theorem dX4_writeRest_123 : decode cX4_writeRest 123 = .ok (.istore 5, 2) := by decide +kernel
theorem dX4_writeRest_125 : decode cX4_writeRest 125 = .ok (.iinc 6 1, 3) := by decide +kernel
theorem dX4_writeRest_128 : decode cX4_writeRest 128 = .ok (.goto (-73), 3) := by decide +kernel
theorem dX4_writeRest_131 : decode cX4_writeRest 131 = .ok (.return_, 1) := by decide +kernel
theorem dX4_metAs_0 : decode cX4_metAs 0 = .ok (.iconst 0, 1) := by decide +kernel
theorem dX4_metAs_1 : decode cX4_metAs 1 = .ok (.istore_n 1, 1) := by decide +kernel
theorem dX4_metAs_2 : decode cX4_metAs 2 = .ok (.iload_n 1, 1) := by decide +kernel
theorem dX4_metAs_3 : decode cX4_metAs 3 = .ok (.aload_n 0, 1) := by decide +kernel
theorem dX4_metAs_4 : decode cX4_metAs 4 = .ok (.getfield 48, 3) := by decide +kernel
theorem dX4_metAs_7 : decode cX4_metAs 7 = .ok (.if_icmp .ge 21, 3) := by decide +kernel
theorem dX4_metAs_10 : decode cX4_metAs 10 = .ok (.aload_n 0, 1) := by decide +kernel
theorem dX4_metAs_11 : decode cX4_metAs 11 = .ok (.iload_n 1, 1) := by decide +kernel
theorem dX4_metAs_12 : decode cX4_metAs 12 = .ok (.aload_n 0, 1) := by decide +kernel
theorem dX4_metAs_13 : decode cX4_metAs 13 = .ok (.getfield 48, 3) := by decide +kernel
theorem dX4_metAs_16 : decode cX4_metAs 16 = .ok (.invokevirtual 77, 3) := by decide +kernel
theorem dX4_metAs_19 : decode cX4_metAs 19 = .ok (.ifCond .ne 9, 3) := by decide +kernel
theorem dX4_metAs_22 : decode cX4_metAs 22 = .ok (.iinc 1 1, 3) := by decide +kernel
theorem dX4_metAs_25 : decode cX4_metAs 25 = .ok (.goto (-23), 3) := by decide +kernel
theorem dX4_metAs_28 : decode cX4_metAs 28 = .ok (.iload_n 1, 1) := by decide +kernel
theorem dX4_metAs_29 : decode cX4_metAs 29 = .ok (.ireturn, 1) := by decide +kernel
theorem dX4_sameRows_0 : decode cX4_sameRows 0 = .ok (.iconst 0, 1) := by decide +kernel
theorem dX4_sameRows_1 : decode cX4_sameRows 1 = .ok (.istore_n 3, 1) := by decide +kernel
theorem dX4_sameRows_2 : decode cX4_sameRows 2 = .ok (.iload_n 3, 1) := by decide +kernel
theorem dX4_sameRows_3 : decode cX4_sameRows 3 = .ok (.iconst 3, 1) := by decide +kernel
theorem dX4_sameRows_4 : decode cX4_sameRows 4 = .ok (.if_icmp .ge 35, 3) := by decide +kernel
theorem dX4_sameRows_7 : decode cX4_sameRows 7 = .ok (.aload_n 0, 1) := by decide +kernel
theorem dX4_sameRows_8 : decode cX4_sameRows 8 = .ok (.getfield 9, 3) := by decide +kernel
theorem dX4_sameRows_11 : decode cX4_sameRows 11 = .ok (.iload_n 1, 1) := by decide +kernel
theorem dX4_sameRows_12 : decode cX4_sameRows 12 = .ok (.iconst 3, 1) := by decide +kernel
theorem dX4_sameRows_13 : decode cX4_sameRows 13 = .ok (.imul, 1) := by decide +kernel
theorem dX4_sameRows_14 : decode cX4_sameRows 14 = .ok (.iload_n 3, 1) := by decide +kernel
theorem dX4_sameRows_15 : decode cX4_sameRows 15 = .ok (.iadd, 1) := by decide +kernel
theorem dX4_sameRows_16 : decode cX4_sameRows 16 = .ok (.laload, 1) := by decide +kernel
theorem dX4_sameRows_17 : decode cX4_sameRows 17 = .ok (.aload_n 0, 1) := by decide +kernel
theorem dX4_sameRows_18 : decode cX4_sameRows 18 = .ok (.getfield 9, 3) := by decide +kernel
theorem dX4_sameRows_21 : decode cX4_sameRows 21 = .ok (.iload_n 2, 1) := by decide +kernel
theorem dX4_sameRows_22 : decode cX4_sameRows 22 = .ok (.iconst 3, 1) := by decide +kernel
theorem dX4_sameRows_23 : decode cX4_sameRows 23 = .ok (.imul, 1) := by decide +kernel
theorem dX4_sameRows_24 : decode cX4_sameRows 24 = .ok (.iload_n 3, 1) := by decide +kernel
theorem dX4_sameRows_25 : decode cX4_sameRows 25 = .ok (.iadd, 1) := by decide +kernel
theorem dX4_sameRows_26 : decode cX4_sameRows 26 = .ok (.laload, 1) := by decide +kernel
theorem dX4_sameRows_27 : decode cX4_sameRows 27 = .ok (.lcmp, 1) := by decide +kernel
theorem dX4_sameRows_28 : decode cX4_sameRows 28 = .ok (.ifCond .eq 5, 3) := by decide +kernel
theorem dX4_sameRows_31 : decode cX4_sameRows 31 = .ok (.iconst 0, 1) := by decide +kernel
theorem dX4_sameRows_32 : decode cX4_sameRows 32 = .ok (.ireturn, 1) := by decide +kernel
theorem dX4_sameRows_33 : decode cX4_sameRows 33 = .ok (.iinc 3 1, 3) := by decide +kernel
theorem dX4_sameRows_36 : decode cX4_sameRows 36 = .ok (.goto (-34), 3) := by decide +kernel
theorem dX4_sameRows_39 : decode cX4_sameRows 39 = .ok (.iconst 1, 1) := by decide +kernel
theorem dX4_sameRows_40 : decode cX4_sameRows 40 = .ok (.ireturn, 1) := by decide +kernel
theorem dX5_init_0 : decode cX5_init 0 = .ok (.aload_n 0, 1) := by decide +kernel
theorem dX5_init_1 : decode cX5_init 1 = .ok (.invokespecial 3, 3) := by decide +kernel
theorem dX5_init_4 : decode cX5_init 4 = .ok (.aload_n 0, 1) := by decide +kernel
theorem dX5_init_5 : decode cX5_init 5 = .ok (.bipush 6, 2) := by decide +kernel
theorem dX5_init_7 : decode cX5_init 7 = .ok (.anewarray 9, 3) := by decide +kernel
theorem dX5_init_10 : decode cX5_init 10 = .ok (.putfield 11, 3) := by decide +kernel
theorem dX5_init_13 : decode cX5_init 13 = .ok (.aload_n 0, 1) := by decide +kernel
theorem dX5_init_14 : decode cX5_init 14 = .ok (.iconst 2, 1) := by decide +kernel
theorem dX5_init_15 : decode cX5_init 15 = .ok (.anewarray 15, 3) := by decide +kernel
theorem dX5_init_18 : decode cX5_init 18 = .ok (.putfield 17, 3) := by decide +kernel
theorem dX5_init_21 : decode cX5_init 21 = .ok (.aload_n 0, 1) := by decide +kernel
theorem dX5_init_22 : decode cX5_init 22 = .ok (.new 21, 3) := by decide +kernel
theorem dX5_init_25 : decode cX5_init 25 = .ok (.dup, 1) := by decide +kernel
theorem dX5_init_26 : decode cX5_init 26 = .ok (.invokespecial 23, 3) := by decide +kernel
theorem dX5_init_29 : decode cX5_init 29 = .ok (.putfield 24, 3) := by decide +kernel
theorem dX5_init_32 : decode cX5_init 32 = .ok (.aload_n 0, 1) := by decide +kernel
theorem dX5_init_33 : decode cX5_init 33 = .ok (.new 28, 3) := by decide +kernel
theorem dX5_init_36 : decode cX5_init 36 = .ok (.dup, 1) := by decide +kernel
theorem dX5_init_37 : decode cX5_init 37 = .ok (.invokespecial 30, 3) := by decide +kernel
theorem dX5_init_40 : decode cX5_init 40 = .ok (.putfield 31, 3) := by decide +kernel
theorem dX5_init_43 : decode cX5_init 43 = .ok (.iconst 0, 1) := by decide +kernel
theorem dX5_init_44 : decode cX5_init 44 = .ok (.istore_n 1, 1) := by decide +kernel
theorem dX5_init_45 : decode cX5_init 45 = .ok (.iload_n 1, 1) := by decide +kernel
theorem dX5_init_46 : decode cX5_init 46 = .ok (.iconst 2, 1) := by decide +kernel
theorem dX5_init_47 : decode cX5_init 47 = .ok (.if_icmp .ge 22, 3) := by decide +kernel
theorem dX5_init_50 : decode cX5_init 50 = .ok (.aload_n 0, 1) := by decide +kernel
theorem dX5_init_51 : decode cX5_init 51 = .ok (.getfield 17, 3) := by decide +kernel
theorem dX5_init_54 : decode cX5_init 54 = .ok (.iload_n 1, 1) := by decide +kernel
theorem dX5_init_55 : decode cX5_init 55 = .ok (.new 15, 3) := by decide +kernel
theorem dX5_init_58 : decode cX5_init 58 = .ok (.dup, 1) := by decide +kernel
theorem dX5_init_59 : decode cX5_init 59 = .ok (.invokespecial 35, 3) := by decide +kernel
theorem dX5_init_62 : decode cX5_init 62 = .ok (.aastore, 1) := by decide +kernel
theorem dX5_init_63 : decode cX5_init 63 = .ok (.iinc 1 1, 3) := by decide +kernel
theorem dX5_init_66 : decode cX5_init 66 = .ok (.goto (-21), 3) := by decide +kernel
theorem dX5_init_69 : decode cX5_init 69 = .ok (.aload_n 0, 1) := by decide +kernel
theorem dX5_init_70 : decode cX5_init 70 = .ok (.iconst 2, 1) := by decide +kernel
theorem dX5_init_71 : decode cX5_init 71 = .ok (.invokevirtual 36, 3) := by decide +kernel
theorem dX5_init_74 : decode cX5_init 74 = .ok (.return_, 1) := by decide +kernel
theorem dX5_base_0 : decode cX5_base 0 = .ok (.iload_n 1, 1) := by decide +kernel
theorem dX5_base_1 : decode cX5_base 1 = .ok (.iconst 2, 1) := by decide +kernel
theorem dX5_base_2 : decode cX5_base 2 = .ok (.if_icmp .eq 16, 3) := by decide +kernel
theorem dX5_base_5 : decode cX5_base 5 = .ok (.iload_n 1, 1) := by decide +kernel
theorem dX5_base_6 : decode cX5_base 6 = .ok (.iconst 3, 1) := by decide +kernel
theorem dX5_base_7 : decode cX5_base 7 = .ok (.if_icmp .eq 11, 3) := by decide +kernel
theorem dX5_base_10 : decode cX5_base 10 = .ok (.iload_n 1, 1) := by decide +kernel
theorem dX5_base_11 : decode cX5_base 11 = .ok (.iconst 5, 1) := by decide +kernel
theorem dX5_base_12 : decode cX5_base 12 = .ok (.if_icmp .eq 6, 3) := by decide +kernel
theorem dX5_base_15 : decode cX5_base 15 = .ok (.bipush (-2), 2) := by decide +kernel
theorem dX5_base_17 : decode cX5_base 17 = .ok (.ireturn, 1) := by decide +kernel
theorem dX5_base_18 : decode cX5_base 18 = .ok (.aload_n 0, 1) := by decide +kernel
theorem dX5_base_19 : decode cX5_base 19 = .ok (.getfield 40, 3) := by decide +kernel
theorem dX5_base_22 : decode cX5_base 22 = .ok (.istore_n 2, 1) := by decide +kernel
theorem dX5_base_23 : decode cX5_base 23 = .ok (.aload_n 0, 1) := by decide +kernel
theorem dX5_base_24 : decode cX5_base 24 = .ok (.iload_n 1, 1) := by decide +kernel
theorem dX5_base_25 : decode cX5_base 25 = .ok (.invokevirtual 36, 3) := by decide +kernel
theorem dX5_base_28 : decode cX5_base 28 = .ok (.iload_n 2, 1) := by decide +kernel
theorem dX5_base_29 : decode cX5_base 29 = .ok (.ireturn, 1) := by decide +kernel
theorem dX5_put_0 : decode cX5_put 0 = .ok (.aload_n 0, 1) := by decide +kernel
theorem dX5_put_1 : decode cX5_put 1 = .ok (.iload_n 1, 1) := by decide +kernel
theorem dX5_put_2 : decode cX5_put 2 = .ok (.invokevirtual 44, 3) := by decide +kernel
theorem dX5_put_5 : decode cX5_put 5 = .ok (.ifCond .eq 5, 3) := by decide +kernel
theorem dX5_put_8 : decode cX5_put 8 = .ok (.iconst (-1), 1) := by decide +kernel
theorem dX5_put_9 : decode cX5_put 9 = .ok (.ireturn, 1) := by decide +kernel
theorem dX5_put_10 : decode cX5_put 10 = .ok (.iload_n 2, 1) := by decide +kernel
theorem dX5_put_11 : decode cX5_put 11 = .ok (.iconst 0, 1) := by decide +kernel
theorem dX5_put_12 : decode cX5_put 12 = .ok (.iconst 4, 1) := by decide +kernel
theorem dX5_put_13 : decode cX5_put 13 = .ok (.invokestatic 48, 3) := by decide +kernel
theorem dX5_put_16 : decode cX5_put 16 = .ok (.ifCond .ne 6, 3) := by decide +kernel
theorem dX5_put_19 : decode cX5_put 19 = .ok (.bipush (-2), 2) := by decide +kernel
theorem dX5_put_21 : decode cX5_put 21 = .ok (.ireturn, 1) := by decide +kernel
theorem dX5_put_22 : decode cX5_put 22 = .ok (.iload_n 2, 1) := by decide +kernel
theorem dX5_put_23 : decode cX5_put 23 = .ok (.iconst 3, 1) := by decide +kernel
theorem dX5_put_24 : decode cX5_put 24 = .ok (.if_icmp .eq 21, 3) := by decide +kernel
theorem dX5_put_27 : decode cX5_put 27 = .ok (.iload_n 2, 1) := by decide +kernel
theorem dX5_put_28 : decode cX5_put 28 = .ok (.iconst 4, 1) := by decide +kernel
theorem dX5_put_29 : decode cX5_put 29 = .ok (.if_icmp .eq 16, 3) := by decide +kernel
theorem dX5_put_32 : decode cX5_put 32 = .ok (.iload_n 3, 1) := by decide +kernel
theorem dX5_put_33 : decode cX5_put 33 = .ok (.iconst 0, 1) := by decide +kernel
theorem dX5_put_34 : decode cX5_put 34 = .ok (.bipush 100, 2) := by decide +kernel
theorem dX5_put_36 : decode cX5_put 36 = .ok (.invokestatic 48, 3) := by decide +kernel
theorem dX5_put_39 : decode cX5_put 39 = .ok (.ifCond .ne 6, 3) := by decide +kernel
theorem dX5_put_42 : decode cX5_put 42 = .ok (.bipush (-2), 2) := by decide +kernel
theorem dX5_put_44 : decode cX5_put 44 = .ok (.ireturn, 1) := by decide +kernel
theorem dX5_put_45 : decode cX5_put 45 = .ok (.iload_n 2, 1) := by decide +kernel
theorem dX5_put_46 : decode cX5_put 46 = .ok (.iconst 2, 1) := by decide +kernel
theorem dX5_put_47 : decode cX5_put 47 = .ok (.if_icmp .ne 17, 3) := by decide +kernel
theorem dX5_put_50 : decode cX5_put 50 = .ok (.iload 4, 2) := by decide +kernel
theorem dX5_put_52 : decode cX5_put 52 = .ok (.iconst 1, 1) := by decide +kernel
theorem dX5_put_53 : decode cX5_put 53 = .ok (.bipush 60, 2) := by decide +kernel
theorem dX5_put_55 : decode cX5_put 55 = .ok (.invokestatic 48, 3) := by decide +kernel
theorem dX5_put_58 : decode cX5_put 58 = .ok (.ifCond .ne 6, 3) := by decide +kernel
theorem dX5_put_61 : decode cX5_put 61 = .ok (.bipush (-2), 2) := by decide +kernel
theorem dX5_put_63 : decode cX5_put 63 = .ok (.ireturn, 1) := by decide +kernel
theorem dX5_put_64 : decode cX5_put 64 = .ok (.aload_n 0, 1) := by decide +kernel
theorem dX5_put_65 : decode cX5_put 65 = .ok (.iload_n 2, 1) := by decide +kernel
theorem dX5_put_66 : decode cX5_put 66 = .ok (.iload_n 3, 1) := by decide +kernel
theorem dX5_put_67 : decode cX5_put 67 = .ok (.iload 4, 2) := by decide +kernel
theorem dX5_put_69 : decode cX5_put 69 = .ok (.invokevirtual 52, 3) := by decide +kernel
theorem dX5_put_72 : decode cX5_put 72 = .ok (.aload_n 0, 1) := by decide +kernel
theorem dX5_put_73 : decode cX5_put 73 = .ok (.iload_n 1, 1) := by decide +kernel
theorem dX5_put_74 : decode cX5_put 74 = .ok (.invokevirtual 56, 3) := by decide +kernel
theorem dX5_put_77 : decode cX5_put 77 = .ok (.ireturn, 1) := by decide +kernel
theorem dX5_join_0 : decode cX5_join 0 = .ok (.aload_n 0, 1) := by decide +kernel
theorem dX5_join_1 : decode cX5_join 1 = .ok (.iload_n 1, 1) := by decide +kernel
theorem dX5_join_2 : decode cX5_join 2 = .ok (.invokevirtual 44, 3) := by decide +kernel
theorem dX5_join_5 : decode cX5_join 5 = .ok (.ifCond .ne 19, 3) := by decide +kernel
theorem dX5_join_8 : decode cX5_join 8 = .ok (.aload_n 0, 1) := by decide +kernel
theorem dX5_join_9 : decode cX5_join 9 = .ok (.iload_n 2, 1) := by decide +kernel
theorem dX5_join_10 : decode cX5_join 10 = .ok (.invokevirtual 44, 3) := by decide +kernel
theorem dX5_join_13 : decode cX5_join 13 = .ok (.ifCond .ne 11, 3) := by decide +kernel
theorem dX5_join_16 : decode cX5_join 16 = .ok (.aload_n 0, 1) := by decide +kernel
theorem dX5_join_17 : decode cX5_join 17 = .ok (.iload_n 3, 1) := by decide +kernel
theorem dX5_join_18 : decode cX5_join 18 = .ok (.invokevirtual 44, 3) := by decide +kernel
theorem dX5_join_21 : decode cX5_join 21 = .ok (.ifCond .eq 5, 3) := by decide +kernel
theorem dX5_join_24 : decode cX5_join 24 = .ok (.iconst (-1), 1) := by decide +kernel
theorem dX5_join_25 : decode cX5_join 25 = .ok (.ireturn, 1) := by decide +kernel
theorem dX5_join_26 : decode cX5_join 26 = .ok (.iload 4, 2) := by decide +kernel
theorem dX5_join_28 : decode cX5_join 28 = .ok (.iconst 0, 1) := by decide +kernel
theorem dX5_join_29 : decode cX5_join 29 = .ok (.iconst 3, 1) := by decide +kernel
theorem dX5_join_30 : decode cX5_join 30 = .ok (.invokestatic 48, 3) := by decide +kernel
theorem dX5_join_33 : decode cX5_join 33 = .ok (.ifCond .ne 6, 3) := by decide +kernel
theorem dX5_join_36 : decode cX5_join 36 = .ok (.bipush (-2), 2) := by decide +kernel
theorem dX5_join_38 : decode cX5_join 38 = .ok (.ireturn, 1) := by decide +kernel
theorem dX5_join_39 : decode cX5_join 39 = .ok (.aload_n 0, 1) := by decide +kernel
theorem dX5_join_40 : decode cX5_join 40 = .ok (.aload_n 0, 1) := by decide +kernel
theorem dX5_join_41 : decode cX5_join 41 = .ok (.getfield 11, 3) := by decide +kernel
theorem dX5_join_44 : decode cX5_join 44 = .ok (.iload_n 2, 1) := by decide +kernel
theorem dX5_join_45 : decode cX5_join 45 = .ok (.aaload, 1) := by decide +kernel
theorem dX5_join_46 : decode cX5_join 46 = .ok (.aload_n 0, 1) := by decide +kernel
theorem dX5_join_47 : decode cX5_join 47 = .ok (.getfield 11, 3) := by decide +kernel
theorem dX5_join_50 : decode cX5_join 50 = .ok (.iload_n 3, 1) := by decide +kernel
theorem dX5_join_51 : decode cX5_join 51 = .ok (.aaload, 1) := by decide +kernel
theorem dX5_join_52 : decode cX5_join 52 = .ok (.iload 4, 2) := by decide +kernel
theorem dX5_join_54 : decode cX5_join 54 = .ok (.invokevirtual 60, 3) := by decide +kernel
theorem dX5_join_57 : decode cX5_join 57 = .ok (.aload_n 0, 1) := by decide +kernel
theorem dX5_join_58 : decode cX5_join 58 = .ok (.iload_n 1, 1) := by decide +kernel
theorem dX5_join_59 : decode cX5_join 59 = .ok (.invokevirtual 56, 3) := by decide +kernel
theorem dX5_join_62 : decode cX5_join 62 = .ok (.ireturn, 1) := by decide +kernel
theorem dX5_turn_0 : decode cX5_turn 0 = .ok (.aload_n 0, 1) := by decide +kernel
theorem dX5_turn_1 : decode cX5_turn 1 = .ok (.iload_n 1, 1) := by decide +kernel
theorem dX5_turn_2 : decode cX5_turn 2 = .ok (.invokevirtual 44, 3) := by decide +kernel
theorem dX5_turn_5 : decode cX5_turn 5 = .ok (.ifCond .ne 11, 3) := by decide +kernel
theorem dX5_turn_8 : decode cX5_turn 8 = .ok (.aload_n 0, 1) := by decide +kernel
theorem dX5_turn_9 : decode cX5_turn 9 = .ok (.iload_n 2, 1) := by decide +kernel
theorem dX5_turn_10 : decode cX5_turn 10 = .ok (.invokevirtual 44, 3) := by decide +kernel
theorem dX5_turn_13 : decode cX5_turn 13 = .ok (.ifCond .eq 5, 3) := by decide +kernel
theorem dX5_turn_16 : decode cX5_turn 16 = .ok (.iconst (-1), 1) := by decide +kernel
theorem dX5_turn_17 : decode cX5_turn 17 = .ok (.ireturn, 1) := by decide +kernel
theorem dX5_turn_18 : decode cX5_turn 18 = .ok (.aload_n 0, 1) := by decide +kernel
theorem dX5_turn_19 : decode cX5_turn 19 = .ok (.aload_n 0, 1) := by decide +kernel
theorem dX5_turn_20 : decode cX5_turn 20 = .ok (.getfield 11, 3) := by decide +kernel
theorem dX5_turn_23 : decode cX5_turn 23 = .ok (.iload_n 2, 1) := by decide +kernel
theorem dX5_turn_24 : decode cX5_turn 24 = .ok (.aaload, 1) := by decide +kernel
theorem dX5_turn_25 : decode cX5_turn 25 = .ok (.invokevirtual 64, 3) := by decide +kernel
theorem dX5_turn_28 : decode cX5_turn 28 = .ok (.aload_n 0, 1) := by decide +kernel
theorem dX5_turn_29 : decode cX5_turn 29 = .ok (.iload_n 1, 1) := by decide +kernel
theorem dX5_turn_30 : decode cX5_turn 30 = .ok (.invokevirtual 56, 3) := by decide +kernel
theorem dX5_turn_33 : decode cX5_turn 33 = .ok (.ireturn, 1) := by decide +kernel
theorem dX5_shift_0 : decode cX5_shift 0 = .ok (.aload_n 0, 1) := by decide +kernel
theorem dX5_shift_1 : decode cX5_shift 1 = .ok (.iload_n 1, 1) := by decide +kernel
theorem dX5_shift_2 : decode cX5_shift 2 = .ok (.invokevirtual 44, 3) := by decide +kernel
theorem dX5_shift_5 : decode cX5_shift 5 = .ok (.ifCond .ne 11, 3) := by decide +kernel
theorem dX5_shift_8 : decode cX5_shift 8 = .ok (.aload_n 0, 1) := by decide +kernel
theorem dX5_shift_9 : decode cX5_shift 9 = .ok (.iload_n 2, 1) := by decide +kernel
theorem dX5_shift_10 : decode cX5_shift 10 = .ok (.invokevirtual 44, 3) := by decide +kernel
theorem dX5_shift_13 : decode cX5_shift 13 = .ok (.ifCond .eq 5, 3) := by decide +kernel
theorem dX5_shift_16 : decode cX5_shift 16 = .ok (.iconst (-1), 1) := by decide +kernel
theorem dX5_shift_17 : decode cX5_shift 17 = .ok (.ireturn, 1) := by decide +kernel
theorem dX5_shift_18 : decode cX5_shift 18 = .ok (.iload_n 3, 1) := by decide +kernel
theorem dX5_shift_19 : decode cX5_shift 19 = .ok (.bipush (-100), 2) := by decide +kernel
theorem dX5_shift_21 : decode cX5_shift 21 = .ok (.bipush 100, 2) := by decide +kernel
theorem dX5_shift_23 : decode cX5_shift 23 = .ok (.invokestatic 48, 3) := by decide +kernel
theorem dX5_shift_26 : decode cX5_shift 26 = .ok (.ifCond .ne 6, 3) := by decide +kernel
theorem dX5_shift_29 : decode cX5_shift 29 = .ok (.bipush (-2), 2) := by decide +kernel
theorem dX5_shift_31 : decode cX5_shift 31 = .ok (.ireturn, 1) := by decide +kernel
theorem dX5_shift_32 : decode cX5_shift 32 = .ok (.aload_n 0, 1) := by decide +kernel
theorem dX5_shift_33 : decode cX5_shift 33 = .ok (.aload_n 0, 1) := by decide +kernel
theorem dX5_shift_34 : decode cX5_shift 34 = .ok (.getfield 11, 3) := by decide +kernel
theorem dX5_shift_37 : decode cX5_shift 37 = .ok (.iload_n 2, 1) := by decide +kernel
theorem dX5_shift_38 : decode cX5_shift 38 = .ok (.aaload, 1) := by decide +kernel
theorem dX5_shift_39 : decode cX5_shift 39 = .ok (.iload_n 3, 1) := by decide +kernel
theorem dX5_shift_40 : decode cX5_shift 40 = .ok (.invokevirtual 68, 3) := by decide +kernel
theorem dX5_shift_43 : decode cX5_shift 43 = .ok (.aload_n 0, 1) := by decide +kernel
theorem dX5_shift_44 : decode cX5_shift 44 = .ok (.iload_n 1, 1) := by decide +kernel
theorem dX5_shift_45 : decode cX5_shift 45 = .ok (.invokevirtual 56, 3) := by decide +kernel
theorem dX5_shift_48 : decode cX5_shift 48 = .ok (.ireturn, 1) := by decide +kernel
theorem dX5_stretch_0 : decode cX5_stretch 0 = .ok (.aload_n 0, 1) := by decide +kernel
theorem dX5_stretch_1 : decode cX5_stretch 1 = .ok (.iload_n 1, 1) := by decide +kernel
theorem dX5_stretch_2 : decode cX5_stretch 2 = .ok (.invokevirtual 44, 3) := by decide +kernel
theorem dX5_stretch_5 : decode cX5_stretch 5 = .ok (.ifCond .ne 11, 3) := by decide +kernel
theorem dX5_stretch_8 : decode cX5_stretch 8 = .ok (.aload_n 0, 1) := by decide +kernel
theorem dX5_stretch_9 : decode cX5_stretch 9 = .ok (.iload_n 2, 1) := by decide +kernel
theorem dX5_stretch_10 : decode cX5_stretch 10 = .ok (.invokevirtual 44, 3) := by decide +kernel
theorem dX5_stretch_13 : decode cX5_stretch 13 = .ok (.ifCond .eq 5, 3) := by decide +kernel
theorem dX5_stretch_16 : decode cX5_stretch 16 = .ok (.iconst (-1), 1) := by decide +kernel
theorem dX5_stretch_17 : decode cX5_stretch 17 = .ok (.ireturn, 1) := by decide +kernel
theorem dX5_stretch_18 : decode cX5_stretch 18 = .ok (.iload_n 3, 1) := by decide +kernel
theorem dX5_stretch_19 : decode cX5_stretch 19 = .ok (.iconst 1, 1) := by decide +kernel
theorem dX5_stretch_20 : decode cX5_stretch 20 = .ok (.bipush 12, 2) := by decide +kernel
theorem dX5_stretch_22 : decode cX5_stretch 22 = .ok (.invokestatic 48, 3) := by decide +kernel
theorem dX5_stretch_25 : decode cX5_stretch 25 = .ok (.ifCond .eq 14, 3) := by decide +kernel
theorem dX5_stretch_28 : decode cX5_stretch 28 = .ok (.iload 4, 2) := by decide +kernel
theorem dX5_stretch_30 : decode cX5_stretch 30 = .ok (.iconst 0, 1) := by decide +kernel
theorem dX5_stretch_31 : decode cX5_stretch 31 = .ok (.bipush 20, 2) := by decide +kernel
theorem dX5_stretch_33 : decode cX5_stretch 33 = .ok (.invokestatic 48, 3) := by decide +kernel
theorem dX5_stretch_36 : decode cX5_stretch 36 = .ok (.ifCond .ne 6, 3) := by decide +kernel
theorem dX5_stretch_39 : decode cX5_stretch 39 = .ok (.bipush (-2), 2) := by decide +kernel
theorem dX5_stretch_41 : decode cX5_stretch 41 = .ok (.ireturn, 1) := by decide +kernel
theorem dX5_stretch_42 : decode cX5_stretch 42 = .ok (.aload_n 0, 1) := by decide +kernel
theorem dX5_stretch_43 : decode cX5_stretch 43 = .ok (.aload_n 0, 1) := by decide +kernel
theorem dX5_stretch_44 : decode cX5_stretch 44 = .ok (.getfield 11, 3) := by decide +kernel
theorem dX5_stretch_47 : decode cX5_stretch 47 = .ok (.iload_n 2, 1) := by decide +kernel
theorem dX5_stretch_48 : decode cX5_stretch 48 = .ok (.aaload, 1) := by decide +kernel
theorem dX5_stretch_49 : decode cX5_stretch 49 = .ok (.iload_n 3, 1) := by decide +kernel
theorem dX5_stretch_50 : decode cX5_stretch 50 = .ok (.iload 4, 2) := by decide +kernel
theorem dX5_stretch_52 : decode cX5_stretch 52 = .ok (.invokevirtual 72, 3) := by decide +kernel
theorem dX5_stretch_55 : decode cX5_stretch 55 = .ok (.aload_n 0, 1) := by decide +kernel
theorem dX5_stretch_56 : decode cX5_stretch 56 = .ok (.iload_n 1, 1) := by decide +kernel
theorem dX5_stretch_57 : decode cX5_stretch 57 = .ok (.invokevirtual 56, 3) := by decide +kernel
theorem dX5_stretch_60 : decode cX5_stretch 60 = .ok (.ireturn, 1) := by decide +kernel
theorem dX5_shrink_0 : decode cX5_shrink 0 = .ok (.aload_n 0, 1) := by decide +kernel
theorem dX5_shrink_1 : decode cX5_shrink 1 = .ok (.iload_n 1, 1) := by decide +kernel
theorem dX5_shrink_2 : decode cX5_shrink 2 = .ok (.invokevirtual 44, 3) := by decide +kernel
theorem dX5_shrink_5 : decode cX5_shrink 5 = .ok (.ifCond .ne 11, 3) := by decide +kernel
theorem dX5_shrink_8 : decode cX5_shrink 8 = .ok (.aload_n 0, 1) := by decide +kernel
theorem dX5_shrink_9 : decode cX5_shrink 9 = .ok (.iload_n 2, 1) := by decide +kernel
theorem dX5_shrink_10 : decode cX5_shrink 10 = .ok (.invokevirtual 44, 3) := by decide +kernel
theorem dX5_shrink_13 : decode cX5_shrink 13 = .ok (.ifCond .eq 5, 3) := by decide +kernel
theorem dX5_shrink_16 : decode cX5_shrink 16 = .ok (.iconst (-1), 1) := by decide +kernel
theorem dX5_shrink_17 : decode cX5_shrink 17 = .ok (.ireturn, 1) := by decide +kernel
theorem dX5_shrink_18 : decode cX5_shrink 18 = .ok (.iload_n 3, 1) := by decide +kernel
theorem dX5_shrink_19 : decode cX5_shrink 19 = .ok (.iconst 1, 1) := by decide +kernel
theorem dX5_shrink_20 : decode cX5_shrink 20 = .ok (.bipush 12, 2) := by decide +kernel
theorem dX5_shrink_22 : decode cX5_shrink 22 = .ok (.invokestatic 48, 3) := by decide +kernel
theorem dX5_shrink_25 : decode cX5_shrink 25 = .ok (.ifCond .eq 14, 3) := by decide +kernel
theorem dX5_shrink_28 : decode cX5_shrink 28 = .ok (.iload 4, 2) := by decide +kernel
theorem dX5_shrink_30 : decode cX5_shrink 30 = .ok (.iconst 0, 1) := by decide +kernel
theorem dX5_shrink_31 : decode cX5_shrink 31 = .ok (.bipush 20, 2) := by decide +kernel
theorem dX5_shrink_33 : decode cX5_shrink 33 = .ok (.invokestatic 48, 3) := by decide +kernel
theorem dX5_shrink_36 : decode cX5_shrink 36 = .ok (.ifCond .ne 6, 3) := by decide +kernel
theorem dX5_shrink_39 : decode cX5_shrink 39 = .ok (.bipush (-2), 2) := by decide +kernel
theorem dX5_shrink_41 : decode cX5_shrink 41 = .ok (.ireturn, 1) := by decide +kernel
theorem dX5_shrink_42 : decode cX5_shrink 42 = .ok (.aload_n 0, 1) := by decide +kernel
theorem dX5_shrink_43 : decode cX5_shrink 43 = .ok (.aload_n 0, 1) := by decide +kernel
theorem dX5_shrink_44 : decode cX5_shrink 44 = .ok (.getfield 11, 3) := by decide +kernel
theorem dX5_shrink_47 : decode cX5_shrink 47 = .ok (.iload_n 2, 1) := by decide +kernel
theorem dX5_shrink_48 : decode cX5_shrink 48 = .ok (.aaload, 1) := by decide +kernel
theorem dX5_shrink_49 : decode cX5_shrink 49 = .ok (.iload_n 3, 1) := by decide +kernel
theorem dX5_shrink_50 : decode cX5_shrink 50 = .ok (.iload 4, 2) := by decide +kernel
theorem dX5_shrink_52 : decode cX5_shrink 52 = .ok (.invokevirtual 76, 3) := by decide +kernel
theorem dX5_shrink_55 : decode cX5_shrink 55 = .ok (.aload_n 0, 1) := by decide +kernel
theorem dX5_shrink_56 : decode cX5_shrink 56 = .ok (.iload_n 1, 1) := by decide +kernel
theorem dX5_shrink_57 : decode cX5_shrink 57 = .ok (.invokevirtual 56, 3) := by decide +kernel
theorem dX5_shrink_60 : decode cX5_shrink 60 = .ok (.ireturn, 1) := by decide +kernel
theorem dX5_told_0 : decode cX5_told 0 = .ok (.aload_n 0, 1) := by decide +kernel
theorem dX5_told_1 : decode cX5_told 1 = .ok (.iload_n 1, 1) := by decide +kernel
theorem dX5_told_2 : decode cX5_told 2 = .ok (.invokevirtual 44, 3) := by decide +kernel
theorem dX5_told_5 : decode cX5_told 5 = .ok (.ifCond .eq 5, 3) := by decide +kernel
theorem dX5_told_8 : decode cX5_told 8 = .ok (.iconst (-1), 1) := by decide +kernel
theorem dX5_told_9 : decode cX5_told 9 = .ok (.ireturn, 1) := by decide +kernel
theorem dX5_told_10 : decode cX5_told 10 = .ok (.aload_n 0, 1) := by decide +kernel
theorem dX5_told_11 : decode cX5_told 11 = .ok (.getfield 11, 3) := by decide +kernel
theorem dX5_told_14 : decode cX5_told 14 = .ok (.iload_n 1, 1) := by decide +kernel
theorem dX5_told_15 : decode cX5_told 15 = .ok (.aaload, 1) := by decide +kernel
theorem dX5_told_16 : decode cX5_told 16 = .ok (.astore_n 3, 1) := by decide +kernel
theorem dX5_told_17 : decode cX5_told 17 = .ok (.iload_n 2, 1) := by decide +kernel
theorem dX5_told_18 : decode cX5_told 18 = .ok (.tableswitch 99 0 5 #[38, 43, 48, 56, 67, 76], 38) := by decide +kernel
theorem dX5_told_56 : decode cX5_told 56 = .ok (.aload_n 3, 1) := by decide +kernel
theorem dX5_told_57 : decode cX5_told 57 = .ok (.getfield 79, 3) := by decide +kernel
theorem dX5_told_60 : decode cX5_told 60 = .ok (.ireturn, 1) := by decide +kernel
theorem dX5_told_61 : decode cX5_told 61 = .ok (.aload_n 3, 1) := by decide +kernel
theorem dX5_told_62 : decode cX5_told 62 = .ok (.getfield 82, 3) := by decide +kernel
theorem dX5_told_65 : decode cX5_told 65 = .ok (.ireturn, 1) := by decide +kernel
theorem dX5_told_66 : decode cX5_told 66 = .ok (.aload_n 3, 1) := by decide +kernel
theorem dX5_told_67 : decode cX5_told 67 = .ok (.getfield 85, 3) := by decide +kernel
theorem dX5_told_70 : decode cX5_told 70 = .ok (.getfield 89, 3) := by decide +kernel
theorem dX5_told_73 : decode cX5_told 73 = .ok (.ireturn, 1) := by decide +kernel
theorem dX5_told_74 : decode cX5_told 74 = .ok (.aload_n 3, 1) := by decide +kernel
theorem dX5_told_75 : decode cX5_told 75 = .ok (.getfield 85, 3) := by decide +kernel
theorem dX5_told_78 : decode cX5_told 78 = .ok (.getfield 94, 3) := by decide +kernel
theorem dX5_told_81 : decode cX5_told 81 = .ok (.invokestatic 98, 3) := by decide +kernel
theorem dX5_told_84 : decode cX5_told 84 = .ok (.ireturn, 1) := by decide +kernel
theorem dX5_told_85 : decode cX5_told 85 = .ok (.aload_n 3, 1) := by decide +kernel
theorem dX5_told_86 : decode cX5_told 86 = .ok (.aload_n 3, 1) := by decide +kernel
theorem dX5_told_87 : decode cX5_told 87 = .ok (.getfield 79, 3) := by decide +kernel
theorem dX5_told_90 : decode cX5_told 90 = .ok (.invokevirtual 104, 3) := by decide +kernel
theorem dX5_told_93 : decode cX5_told 93 = .ok (.ireturn, 1) := by decide +kernel
theorem dX5_told_94 : decode cX5_told 94 = .ok (.aload_n 3, 1) := by decide +kernel
theorem dX5_told_95 : decode cX5_told 95 = .ok (.aload_n 3, 1) := by decide +kernel
theorem dX5_told_96 : decode cX5_told 96 = .ok (.getfield 79, 3) := by decide +kernel
theorem dX5_told_99 : decode cX5_told 99 = .ok (.aload_n 3, 1) := by decide +kernel
theorem dX5_told_100 : decode cX5_told 100 = .ok (.getfield 82, 3) := by decide +kernel
theorem dX5_told_103 : decode cX5_told 103 = .ok (.iadd, 1) := by decide +kernel
theorem dX5_told_104 : decode cX5_told 104 = .ok (.invokevirtual 104, 3) := by decide +kernel
theorem dX5_told_107 : decode cX5_told 107 = .ok (.aload_n 3, 1) := by decide +kernel
theorem dX5_told_108 : decode cX5_told 108 = .ok (.aload_n 3, 1) := by decide +kernel
theorem dX5_told_109 : decode cX5_told 109 = .ok (.getfield 79, 3) := by decide +kernel
theorem dX5_told_112 : decode cX5_told 112 = .ok (.invokevirtual 104, 3) := by decide +kernel
theorem dX5_told_115 : decode cX5_told 115 = .ok (.isub, 1) := by decide +kernel
theorem dX5_told_116 : decode cX5_told 116 = .ok (.ireturn, 1) := by decide +kernel
theorem dX5_told_117 : decode cX5_told 117 = .ok (.bipush (-2), 2) := by decide +kernel
theorem dX5_told_119 : decode cX5_told 119 = .ok (.ireturn, 1) := by decide +kernel
theorem dX5_state_0 : decode cX5_state 0 = .ok (.aload_n 0, 1) := by decide +kernel
theorem dX5_state_1 : decode cX5_state 1 = .ok (.iload_n 1, 1) := by decide +kernel
theorem dX5_state_2 : decode cX5_state 2 = .ok (.invokevirtual 44, 3) := by decide +kernel
theorem dX5_state_5 : decode cX5_state 5 = .ok (.ifCond .ne 25, 3) := by decide +kernel
theorem dX5_state_8 : decode cX5_state 8 = .ok (.iload_n 2, 1) := by decide +kernel
theorem dX5_state_9 : decode cX5_state 9 = .ok (.iconst 0, 1) := by decide +kernel
theorem dX5_state_10 : decode cX5_state 10 = .ok (.aload_n 0, 1) := by decide +kernel
theorem dX5_state_11 : decode cX5_state 11 = .ok (.getfield 11, 3) := by decide +kernel
theorem dX5_state_14 : decode cX5_state 14 = .ok (.iload_n 1, 1) := by decide +kernel
theorem dX5_state_15 : decode cX5_state 15 = .ok (.aaload, 1) := by decide +kernel
theorem dX5_state_16 : decode cX5_state 16 = .ok (.getfield 85, 3) := by decide +kernel
theorem dX5_state_19 : decode cX5_state 19 = .ok (.getfield 89, 3) := by decide +kernel
theorem dX5_state_22 : decode cX5_state 22 = .ok (.iconst 1, 1) := by decide +kernel
theorem dX5_state_23 : decode cX5_state 23 = .ok (.isub, 1) := by decide +kernel
theorem dX5_state_24 : decode cX5_state 24 = .ok (.invokestatic 48, 3) := by decide +kernel
theorem dX5_state_27 : decode cX5_state 27 = .ok (.ifCond .ne 5, 3) := by decide +kernel
theorem dX5_state_30 : decode cX5_state 30 = .ok (.iconst (-1), 1) := by decide +kernel
theorem dX5_state_31 : decode cX5_state 31 = .ok (.ireturn, 1) := by decide +kernel
theorem dX5_state_32 : decode cX5_state 32 = .ok (.aload_n 0, 1) := by decide +kernel
theorem dX5_state_33 : decode cX5_state 33 = .ok (.getfield 11, 3) := by decide +kernel
theorem dX5_state_36 : decode cX5_state 36 = .ok (.iload_n 1, 1) := by decide +kernel
theorem dX5_state_37 : decode cX5_state 37 = .ok (.aaload, 1) := by decide +kernel
theorem dX5_state_38 : decode cX5_state 38 = .ok (.getfield 85, 3) := by decide +kernel
theorem dX5_state_41 : decode cX5_state 41 = .ok (.astore 4, 2) := by decide +kernel
theorem dX5_state_43 : decode cX5_state 43 = .ok (.iload_n 3, 1) := by decide +kernel
theorem dX5_state_44 : decode cX5_state 44 = .ok (.tableswitch 103 0 7 #[48, 48, 48, 48, 48, 69, 79, 89], 48) := by decide +kernel
theorem dX5_state_92 : decode cX5_state 92 = .ok (.iload_n 3, 1) := by decide +kernel
theorem dX5_state_93 : decode cX5_state 93 = .ok (.aload_n 0, 1) := by decide +kernel
theorem dX5_state_94 : decode cX5_state 94 = .ok (.getfield 40, 3) := by decide +kernel
theorem dX5_state_97 : decode cX5_state 97 = .ok (.if_icmp .ge 13, 3) := by decide +kernel
theorem dX5_state_100 : decode cX5_state 100 = .ok (.aload 4, 2) := by decide +kernel
theorem dX5_state_102 : decode cX5_state 102 = .ok (.iload_n 2, 1) := by decide +kernel
theorem dX5_state_103 : decode cX5_state 103 = .ok (.iload_n 3, 1) := by decide +kernel
theorem dX5_state_104 : decode cX5_state 104 = .ok (.invokevirtual 107, 3) := by decide +kernel
theorem dX5_state_107 : decode cX5_state 107 = .ok (.goto 5, 3) := by decide +kernel
theorem dX5_state_110 : decode cX5_state 110 = .ok (.bipush (-3), 2) := by decide +kernel
theorem dX5_state_112 : decode cX5_state 112 = .ok (.ireturn, 1) := by decide +kernel
theorem dX5_state_113 : decode cX5_state 113 = .ok (.aload 4, 2) := by decide +kernel
theorem dX5_state_115 : decode cX5_state 115 = .ok (.iload_n 2, 1) := by decide +kernel
theorem dX5_state_116 : decode cX5_state 116 = .ok (.invokevirtual 111, 3) := by decide +kernel
theorem dX5_state_119 : decode cX5_state 119 = .ok (.invokestatic 114, 3) := by decide +kernel
theorem dX5_state_122 : decode cX5_state 122 = .ok (.ireturn, 1) := by decide +kernel
theorem dX5_state_123 : decode cX5_state 123 = .ok (.aload 4, 2) := by decide +kernel
theorem dX5_state_125 : decode cX5_state 125 = .ok (.lconst 1, 1) := by decide +kernel
theorem dX5_state_126 : decode cX5_state 126 = .ok (.lconst 1, 1) := by decide +kernel
theorem dX5_state_127 : decode cX5_state 127 = .ok (.iload_n 2, 1) := by decide +kernel
theorem dX5_state_128 : decode cX5_state 128 = .ok (.lshl, 1) := by decide +kernel
theorem dX5_state_129 : decode cX5_state 129 = .ok (.invokevirtual 118, 3) := by decide +kernel
theorem dX5_state_132 : decode cX5_state 132 = .ok (.ireturn, 1) := by decide +kernel
theorem dX5_state_133 : decode cX5_state 133 = .ok (.aload 4, 2) := by decide +kernel
theorem dX5_state_135 : decode cX5_state 135 = .ok (.lconst 1, 1) := by decide +kernel
theorem dX5_state_136 : decode cX5_state 136 = .ok (.iload_n 2, 1) := by decide +kernel
theorem dX5_state_137 : decode cX5_state 137 = .ok (.lshl, 1) := by decide +kernel
theorem dX5_state_138 : decode cX5_state 138 = .ok (.aload 4, 2) := by decide +kernel
theorem dX5_state_140 : decode cX5_state 140 = .ok (.getfield 94, 3) := by decide +kernel
theorem dX5_state_143 : decode cX5_state 143 = .ok (.invokevirtual 118, 3) := by decide +kernel
theorem dX5_state_146 : decode cX5_state 146 = .ok (.ireturn, 1) := by decide +kernel
theorem dX5_state_147 : decode cX5_state 147 = .ok (.bipush (-2), 2) := by decide +kernel
theorem dX5_state_149 : decode cX5_state 149 = .ok (.ireturn, 1) := by decide +kernel
theorem dX5_walk_0 : decode cX5_walk 0 = .ok (.aload_n 0, 1) := by decide +kernel
theorem dX5_walk_1 : decode cX5_walk 1 = .ok (.iload_n 1, 1) := by decide +kernel
theorem dX5_walk_2 : decode cX5_walk 2 = .ok (.invokevirtual 44, 3) := by decide +kernel
theorem dX5_walk_5 : decode cX5_walk 5 = .ok (.ifCond .eq 5, 3) := by decide +kernel
theorem dX5_walk_8 : decode cX5_walk 8 = .ok (.iconst (-1), 1) := by decide +kernel
theorem dX5_walk_9 : decode cX5_walk 9 = .ok (.ireturn, 1) := by decide +kernel
theorem dX5_walk_10 : decode cX5_walk 10 = .ok (.iload_n 3, 1) := by decide +kernel
theorem dX5_walk_11 : decode cX5_walk 11 = .ok (.iconst 0, 1) := by decide +kernel
theorem dX5_walk_12 : decode cX5_walk 12 = .ok (.bipush 40, 2) := by decide +kernel
theorem dX5_walk_14 : decode cX5_walk 14 = .ok (.invokestatic 48, 3) := by decide +kernel
theorem dX5_walk_17 : decode cX5_walk 17 = .ok (.ifCond .eq 7, 3) := by decide +kernel
theorem dX5_walk_20 : decode cX5_walk 20 = .ok (.iload_n 2, 1) := by decide +kernel
theorem dX5_walk_21 : decode cX5_walk 21 = .ok (.ifCond .ge 6, 3) := by decide +kernel
theorem dX5_walk_24 : decode cX5_walk 24 = .ok (.bipush (-2), 2) := by decide +kernel
theorem dX5_walk_26 : decode cX5_walk 26 = .ok (.ireturn, 1) := by decide +kernel
theorem dX5_walk_27 : decode cX5_walk 27 = .ok (.aload_n 0, 1) := by decide +kernel
theorem dX5_walk_28 : decode cX5_walk 28 = .ok (.getfield 11, 3) := by decide +kernel
theorem dX5_walk_31 : decode cX5_walk 31 = .ok (.iload_n 1, 1) := by decide +kernel
theorem dX5_walk_32 : decode cX5_walk 32 = .ok (.aaload, 1) := by decide +kernel
theorem dX5_walk_33 : decode cX5_walk 33 = .ok (.getfield 85, 3) := by decide +kernel
theorem dX5_walk_36 : decode cX5_walk 36 = .ok (.iload_n 2, 1) := by decide +kernel
theorem dX5_walk_37 : decode cX5_walk 37 = .ok (.iload_n 3, 1) := by decide +kernel
theorem dX5_walk_38 : decode cX5_walk 38 = .ok (.invokevirtual 122, 3) := by decide +kernel
theorem dX5_walk_41 : decode cX5_walk 41 = .ok (.ireturn, 1) := by decide +kernel
theorem dX5_has_0 : decode cX5_has 0 = .ok (.aload_n 0, 1) := by decide +kernel
theorem dX5_has_1 : decode cX5_has 1 = .ok (.iload_n 1, 1) := by decide +kernel
theorem dX5_has_2 : decode cX5_has 2 = .ok (.invokevirtual 44, 3) := by decide +kernel
theorem dX5_has_5 : decode cX5_has 5 = .ok (.ifCond .eq 5, 3) := by decide +kernel
theorem dX5_has_8 : decode cX5_has 8 = .ok (.iconst (-1), 1) := by decide +kernel
theorem dX5_has_9 : decode cX5_has 9 = .ok (.ireturn, 1) := by decide +kernel
theorem dX5_has_10 : decode cX5_has 10 = .ok (.iload_n 2, 1) := by decide +kernel
theorem dX5_has_11 : decode cX5_has 11 = .ok (.iconst 0, 1) := by decide +kernel
theorem dX5_has_12 : decode cX5_has 12 = .ok (.ldc 125, 2) := by decide +kernel
theorem dX5_has_14 : decode cX5_has 14 = .ok (.invokestatic 48, 3) := by decide +kernel
theorem dX5_has_17 : decode cX5_has 17 = .ok (.ifCond .ne 6, 3) := by decide +kernel
theorem dX5_has_20 : decode cX5_has 20 = .ok (.bipush (-2), 2) := by decide +kernel
theorem dX5_has_22 : decode cX5_has 22 = .ok (.ireturn, 1) := by decide +kernel
theorem dX5_has_23 : decode cX5_has 23 = .ok (.aload_n 0, 1) := by decide +kernel
theorem dX5_has_24 : decode cX5_has 24 = .ok (.getfield 11, 3) := by decide +kernel
theorem dX5_has_27 : decode cX5_has 27 = .ok (.iload_n 1, 1) := by decide +kernel
theorem dX5_has_28 : decode cX5_has 28 = .ok (.aaload, 1) := by decide +kernel
theorem dX5_has_29 : decode cX5_has 29 = .ok (.iload_n 2, 1) := by decide +kernel
theorem dX5_has_30 : decode cX5_has 30 = .ok (.invokevirtual 126, 3) := by decide +kernel
theorem dX5_has_33 : decode cX5_has 33 = .ok (.invokestatic 114, 3) := by decide +kernel
theorem dX5_has_36 : decode cX5_has 36 = .ok (.ireturn, 1) := by decide +kernel
theorem dX5_next_0 : decode cX5_next 0 = .ok (.aload_n 0, 1) := by decide +kernel
theorem dX5_next_1 : decode cX5_next 1 = .ok (.iload_n 1, 1) := by decide +kernel
theorem dX5_next_2 : decode cX5_next 2 = .ok (.invokevirtual 44, 3) := by decide +kernel
theorem dX5_next_5 : decode cX5_next 5 = .ok (.ifCond .eq 5, 3) := by decide +kernel
theorem dX5_next_8 : decode cX5_next 8 = .ok (.iconst (-1), 1) := by decide +kernel
theorem dX5_next_9 : decode cX5_next 9 = .ok (.ireturn, 1) := by decide +kernel
theorem dX5_next_10 : decode cX5_next 10 = .ok (.iload_n 2, 1) := by decide +kernel
theorem dX5_next_11 : decode cX5_next 11 = .ok (.iconst 0, 1) := by decide +kernel
theorem dX5_next_12 : decode cX5_next 12 = .ok (.ldc 125, 2) := by decide +kernel
theorem dX5_next_14 : decode cX5_next 14 = .ok (.invokestatic 48, 3) := by decide +kernel
theorem dX5_next_17 : decode cX5_next 17 = .ok (.ifCond .ne 6, 3) := by decide +kernel
theorem dX5_next_20 : decode cX5_next 20 = .ok (.bipush (-2), 2) := by decide +kernel
theorem dX5_next_22 : decode cX5_next 22 = .ok (.ireturn, 1) := by decide +kernel
theorem dX5_next_23 : decode cX5_next 23 = .ok (.aload_n 0, 1) := by decide +kernel
theorem dX5_next_24 : decode cX5_next 24 = .ok (.getfield 11, 3) := by decide +kernel
theorem dX5_next_27 : decode cX5_next 27 = .ok (.iload_n 1, 1) := by decide +kernel
theorem dX5_next_28 : decode cX5_next 28 = .ok (.aaload, 1) := by decide +kernel
theorem dX5_next_29 : decode cX5_next 29 = .ok (.iload_n 2, 1) := by decide +kernel
theorem dX5_next_30 : decode cX5_next 30 = .ok (.invokevirtual 129, 3) := by decide +kernel
theorem dX5_next_33 : decode cX5_next 33 = .ok (.ireturn, 1) := by decide +kernel
theorem dX5_below_0 : decode cX5_below 0 = .ok (.aload_n 0, 1) := by decide +kernel
theorem dX5_below_1 : decode cX5_below 1 = .ok (.iload_n 1, 1) := by decide +kernel
theorem dX5_below_2 : decode cX5_below 2 = .ok (.invokevirtual 44, 3) := by decide +kernel
theorem dX5_below_5 : decode cX5_below 5 = .ok (.ifCond .eq 5, 3) := by decide +kernel
theorem dX5_below_8 : decode cX5_below 8 = .ok (.iconst (-1), 1) := by decide +kernel
theorem dX5_below_9 : decode cX5_below 9 = .ok (.ireturn, 1) := by decide +kernel
theorem dX5_below_10 : decode cX5_below 10 = .ok (.iload_n 2, 1) := by decide +kernel
theorem dX5_below_11 : decode cX5_below 11 = .ok (.iconst 0, 1) := by decide +kernel
theorem dX5_below_12 : decode cX5_below 12 = .ok (.ldc 125, 2) := by decide +kernel
theorem dX5_below_14 : decode cX5_below 14 = .ok (.invokestatic 48, 3) := by decide +kernel
theorem dX5_below_17 : decode cX5_below 17 = .ok (.ifCond .ne 6, 3) := by decide +kernel
theorem dX5_below_20 : decode cX5_below 20 = .ok (.bipush (-2), 2) := by decide +kernel
theorem dX5_below_22 : decode cX5_below 22 = .ok (.ireturn, 1) := by decide +kernel
theorem dX5_below_23 : decode cX5_below 23 = .ok (.aload_n 0, 1) := by decide +kernel
theorem dX5_below_24 : decode cX5_below 24 = .ok (.getfield 11, 3) := by decide +kernel
theorem dX5_below_27 : decode cX5_below 27 = .ok (.iload_n 1, 1) := by decide +kernel
theorem dX5_below_28 : decode cX5_below 28 = .ok (.aaload, 1) := by decide +kernel
theorem dX5_below_29 : decode cX5_below 29 = .ok (.iload_n 2, 1) := by decide +kernel
theorem dX5_below_30 : decode cX5_below 30 = .ok (.invokevirtual 104, 3) := by decide +kernel
theorem dX5_below_33 : decode cX5_below 33 = .ok (.ireturn, 1) := by decide +kernel
theorem dX5_alike_0 : decode cX5_alike 0 = .ok (.aload_n 0, 1) := by decide +kernel
theorem dX5_alike_1 : decode cX5_alike 1 = .ok (.iload_n 1, 1) := by decide +kernel
theorem dX5_alike_2 : decode cX5_alike 2 = .ok (.invokevirtual 44, 3) := by decide +kernel
theorem dX5_alike_5 : decode cX5_alike 5 = .ok (.ifCond .ne 11, 3) := by decide +kernel
theorem dX5_alike_8 : decode cX5_alike 8 = .ok (.aload_n 0, 1) := by decide +kernel
theorem dX5_alike_9 : decode cX5_alike 9 = .ok (.iload_n 2, 1) := by decide +kernel
theorem dX5_alike_10 : decode cX5_alike 10 = .ok (.invokevirtual 44, 3) := by decide +kernel
theorem dX5_alike_13 : decode cX5_alike 13 = .ok (.ifCond .eq 5, 3) := by decide +kernel
theorem dX5_alike_16 : decode cX5_alike 16 = .ok (.iconst (-1), 1) := by decide +kernel
theorem dX5_alike_17 : decode cX5_alike 17 = .ok (.ireturn, 1) := by decide +kernel
theorem dX5_alike_18 : decode cX5_alike 18 = .ok (.aload_n 0, 1) := by decide +kernel
theorem dX5_alike_19 : decode cX5_alike 19 = .ok (.getfield 11, 3) := by decide +kernel
theorem dX5_alike_22 : decode cX5_alike 22 = .ok (.iload_n 1, 1) := by decide +kernel
theorem dX5_alike_23 : decode cX5_alike 23 = .ok (.aaload, 1) := by decide +kernel
theorem dX5_alike_24 : decode cX5_alike 24 = .ok (.astore 4, 2) := by decide +kernel
theorem dX5_alike_26 : decode cX5_alike 26 = .ok (.aload_n 0, 1) := by decide +kernel
theorem dX5_alike_27 : decode cX5_alike 27 = .ok (.getfield 11, 3) := by decide +kernel
theorem dX5_alike_30 : decode cX5_alike 30 = .ok (.iload_n 2, 1) := by decide +kernel
theorem dX5_alike_31 : decode cX5_alike 31 = .ok (.aaload, 1) := by decide +kernel
theorem dX5_alike_32 : decode cX5_alike 32 = .ok (.astore 5, 2) := by decide +kernel
theorem dX5_alike_34 : decode cX5_alike 34 = .ok (.iload_n 3, 1) := by decide +kernel
theorem dX5_alike_35 : decode cX5_alike 35 = .ok (.tableswitch 106 0 4 #[33, 44, 66, 88, 97], 33) := by decide +kernel
theorem dX5_alike_68 : decode cX5_alike 68 = .ok (.aload 4, 2) := by decide +kernel
theorem dX5_alike_70 : decode cX5_alike 70 = .ok (.aload 5, 2) := by decide +kernel
theorem dX5_alike_72 : decode cX5_alike 72 = .ok (.invokevirtual 132, 3) := by decide +kernel
theorem dX5_alike_75 : decode cX5_alike 75 = .ok (.invokestatic 114, 3) := by decide +kernel
theorem dX5_alike_78 : decode cX5_alike 78 = .ok (.ireturn, 1) := by decide +kernel
theorem dX5_alike_79 : decode cX5_alike 79 = .ok (.aload 4, 2) := by decide +kernel
theorem dX5_alike_81 : decode cX5_alike 81 = .ok (.aload 5, 2) := by decide +kernel
theorem dX5_alike_83 : decode cX5_alike 83 = .ok (.iconst 2, 1) := by decide +kernel
theorem dX5_alike_84 : decode cX5_alike 84 = .ok (.invokestatic 136, 3) := by decide +kernel
theorem dX5_alike_87 : decode cX5_alike 87 = .ok (.bipush (-6), 2) := by decide +kernel
theorem dX5_alike_89 : decode cX5_alike 89 = .ok (.if_icmp .ne 7, 3) := by decide +kernel
theorem dX5_alike_92 : decode cX5_alike 92 = .ok (.iconst 1, 1) := by decide +kernel
theorem dX5_alike_93 : decode cX5_alike 93 = .ok (.goto 4, 3) := by decide +kernel
theorem dX5_alike_96 : decode cX5_alike 96 = .ok (.iconst 0, 1) := by decide +kernel
theorem dX5_alike_97 : decode cX5_alike 97 = .ok (.invokestatic 114, 3) := by decide +kernel
theorem dX5_alike_100 : decode cX5_alike 100 = .ok (.ireturn, 1) := by decide +kernel
theorem dX5_alike_101 : decode cX5_alike 101 = .ok (.aload 4, 2) := by decide +kernel
theorem dX5_alike_103 : decode cX5_alike 103 = .ok (.aload 5, 2) := by decide +kernel
theorem dX5_alike_105 : decode cX5_alike 105 = .ok (.iconst 1, 1) := by decide +kernel
theorem dX5_alike_106 : decode cX5_alike 106 = .ok (.invokestatic 136, 3) := by decide +kernel
theorem dX5_alike_109 : decode cX5_alike 109 = .ok (.bipush (-6), 2) := by decide +kernel
theorem dX5_alike_111 : decode cX5_alike 111 = .ok (.if_icmp .ne 7, 3) := by decide +kernel
theorem dX5_alike_114 : decode cX5_alike 114 = .ok (.iconst 1, 1) := by decide +kernel
theorem dX5_alike_115 : decode cX5_alike 115 = .ok (.goto 4, 3) := by decide +kernel
theorem dX5_alike_118 : decode cX5_alike 118 = .ok (.iconst 0, 1) := by decide +kernel
theorem dX5_alike_119 : decode cX5_alike 119 = .ok (.invokestatic 114, 3) := by decide +kernel
theorem dX5_alike_122 : decode cX5_alike 122 = .ok (.ireturn, 1) := by decide +kernel
theorem dX5_alike_123 : decode cX5_alike 123 = .ok (.aload 4, 2) := by decide +kernel
theorem dX5_alike_125 : decode cX5_alike 125 = .ok (.aload 5, 2) := by decide +kernel
theorem dX5_alike_127 : decode cX5_alike 127 = .ok (.iconst 3, 1) := by decide +kernel
theorem dX5_alike_128 : decode cX5_alike 128 = .ok (.invokestatic 136, 3) := by decide +kernel
theorem dX5_alike_131 : decode cX5_alike 131 = .ok (.ireturn, 1) := by decide +kernel
theorem dX5_alike_132 : decode cX5_alike 132 = .ok (.aload 4, 2) := by decide +kernel
theorem dX5_alike_134 : decode cX5_alike 134 = .ok (.aload 5, 2) := by decide +kernel
theorem dX5_alike_136 : decode cX5_alike 136 = .ok (.iconst 1, 1) := by decide +kernel
theorem dX5_alike_137 : decode cX5_alike 137 = .ok (.invokestatic 136, 3) := by decide +kernel
theorem dX5_alike_140 : decode cX5_alike 140 = .ok (.ireturn, 1) := by decide +kernel
theorem dX5_alike_141 : decode cX5_alike 141 = .ok (.bipush (-2), 2) := by decide +kernel
theorem dX5_alike_143 : decode cX5_alike 143 = .ok (.ireturn, 1) := by decide +kernel
theorem dX5_image_0 : decode cX5_image 0 = .ok (.aload_n 0, 1) := by decide +kernel
theorem dX5_image_1 : decode cX5_image 1 = .ok (.iload_n 1, 1) := by decide +kernel
theorem dX5_image_2 : decode cX5_image 2 = .ok (.invokevirtual 140, 3) := by decide +kernel
theorem dX5_image_5 : decode cX5_image 5 = .ok (.ifCond .eq 6, 3) := by decide +kernel
theorem dX5_image_8 : decode cX5_image 8 = .ok (.bipush (-2), 2) := by decide +kernel
theorem dX5_image_10 : decode cX5_image 10 = .ok (.ireturn, 1) := by decide +kernel
theorem dX5_image_11 : decode cX5_image 11 = .ok (.aload_n 0, 1) := by decide +kernel
theorem dX5_image_12 : decode cX5_image 12 = .ok (.getfield 17, 3) := by decide +kernel
theorem dX5_image_15 : decode cX5_image 15 = .ok (.iload_n 1, 1) := by decide +kernel
theorem dX5_image_16 : decode cX5_image 16 = .ok (.aaload, 1) := by decide +kernel
theorem dX5_image_17 : decode cX5_image 17 = .ok (.aload_n 0, 1) := by decide +kernel
theorem dX5_image_18 : decode cX5_image 18 = .ok (.getfield 11, 3) := by decide +kernel
theorem dX5_image_21 : decode cX5_image 21 = .ok (.aload_n 0, 1) := by decide +kernel
theorem dX5_image_22 : decode cX5_image 22 = .ok (.getfield 40, 3) := by decide +kernel
theorem dX5_image_25 : decode cX5_image 25 = .ok (.invokevirtual 143, 3) := by decide +kernel
theorem dX5_image_28 : decode cX5_image 28 = .ok (.iconst 1, 1) := by decide +kernel
theorem dX5_image_29 : decode cX5_image 29 = .ok (.ireturn, 1) := by decide +kernel
theorem dX5_restore_0 : decode cX5_restore 0 = .ok (.aload_n 0, 1) := by decide +kernel
theorem dX5_restore_1 : decode cX5_restore 1 = .ok (.iload_n 1, 1) := by decide +kernel
theorem dX5_restore_2 : decode cX5_restore 2 = .ok (.invokevirtual 140, 3) := by decide +kernel
theorem dX5_restore_5 : decode cX5_restore 5 = .ok (.ifCond .eq 6, 3) := by decide +kernel
theorem dX5_restore_8 : decode cX5_restore 8 = .ok (.bipush (-2), 2) := by decide +kernel
theorem dX5_restore_10 : decode cX5_restore 10 = .ok (.ireturn, 1) := by decide +kernel
theorem dX5_restore_11 : decode cX5_restore 11 = .ok (.aload_n 0, 1) := by decide +kernel
theorem dX5_restore_12 : decode cX5_restore 12 = .ok (.getfield 17, 3) := by decide +kernel
theorem dX5_restore_15 : decode cX5_restore 15 = .ok (.iload_n 1, 1) := by decide +kernel
theorem dX5_restore_16 : decode cX5_restore 16 = .ok (.aaload, 1) := by decide +kernel
theorem dX5_restore_17 : decode cX5_restore 17 = .ok (.getfield 147, 3) := by decide +kernel
theorem dX5_restore_20 : decode cX5_restore 20 = .ok (.ifCond .ne 6, 3) := by decide +kernel
theorem dX5_restore_23 : decode cX5_restore 23 = .ok (.bipush (-3), 2) := by decide +kernel
theorem dX5_restore_25 : decode cX5_restore 25 = .ok (.ireturn, 1) := by decide +kernel
theorem dX5_restore_26 : decode cX5_restore 26 = .ok (.aload_n 0, 1) := by decide +kernel
theorem dX5_restore_27 : decode cX5_restore 27 = .ok (.aload_n 0, 1) := by decide +kernel
theorem dX5_restore_28 : decode cX5_restore 28 = .ok (.getfield 17, 3) := by decide +kernel
theorem dX5_restore_31 : decode cX5_restore 31 = .ok (.iload_n 1, 1) := by decide +kernel
theorem dX5_restore_32 : decode cX5_restore 32 = .ok (.aaload, 1) := by decide +kernel
theorem dX5_restore_33 : decode cX5_restore 33 = .ok (.aload_n 0, 1) := by decide +kernel
theorem dX5_restore_34 : decode cX5_restore 34 = .ok (.getfield 11, 3) := by decide +kernel
theorem dX5_restore_37 : decode cX5_restore 37 = .ok (.invokevirtual 151, 3) := by decide +kernel
theorem dX5_restore_40 : decode cX5_restore 40 = .ok (.putfield 40, 3) := by decide +kernel
theorem dX5_restore_43 : decode cX5_restore 43 = .ok (.iconst 1, 1) := by decide +kernel
theorem dX5_restore_44 : decode cX5_restore 44 = .ok (.ireturn, 1) := by decide +kernel
theorem dX5_count_0 : decode cX5_count 0 = .ok (.iload_n 1, 1) := by decide +kernel
theorem dX5_count_1 : decode cX5_count 1 = .ok (.tableswitch 60 0 4 #[35, 40, 45, 50, 55], 35) := by decide +kernel
theorem dX5_count_36 : decode cX5_count 36 = .ok (.aload_n 0, 1) := by decide +kernel
theorem dX5_count_37 : decode cX5_count 37 = .ok (.invokevirtual 155, 3) := by decide +kernel
theorem dX5_count_40 : decode cX5_count 40 = .ok (.ireturn, 1) := by decide +kernel
theorem dX5_count_41 : decode cX5_count 41 = .ok (.aload_n 0, 1) := by decide +kernel
theorem dX5_count_42 : decode cX5_count 42 = .ok (.invokevirtual 159, 3) := by decide +kernel
theorem dX5_count_45 : decode cX5_count 45 = .ok (.ireturn, 1) := by decide +kernel
theorem dX5_count_46 : decode cX5_count 46 = .ok (.aload_n 0, 1) := by decide +kernel
theorem dX5_count_47 : decode cX5_count 47 = .ok (.getfield 40, 3) := by decide +kernel
theorem dX5_count_50 : decode cX5_count 50 = .ok (.ireturn, 1) := by decide +kernel
theorem dX5_count_51 : decode cX5_count 51 = .ok (.aload_n 0, 1) := by decide +kernel
theorem dX5_count_52 : decode cX5_count 52 = .ok (.invokevirtual 162, 3) := by decide +kernel
theorem dX5_count_55 : decode cX5_count 55 = .ok (.ireturn, 1) := by decide +kernel
theorem dX5_count_56 : decode cX5_count 56 = .ok (.aload_n 0, 1) := by decide +kernel
theorem dX5_count_57 : decode cX5_count 57 = .ok (.invokevirtual 165, 3) := by decide +kernel
theorem dX5_count_60 : decode cX5_count 60 = .ok (.ireturn, 1) := by decide +kernel
theorem dX5_count_61 : decode cX5_count 61 = .ok (.bipush (-2), 2) := by decide +kernel
theorem dX5_count_63 : decode cX5_count 63 = .ok (.ireturn, 1) := by decide +kernel
theorem dX5_unknown_0 : decode cX5_unknown 0 = .ok (.iload_n 1, 1) := by decide +kernel
theorem dX5_unknown_1 : decode cX5_unknown 1 = .ok (.ifCond .lt 18, 3) := by decide +kernel
theorem dX5_unknown_4 : decode cX5_unknown 4 = .ok (.iload_n 1, 1) := by decide +kernel
theorem dX5_unknown_5 : decode cX5_unknown 5 = .ok (.bipush 6, 2) := by decide +kernel
theorem dX5_unknown_7 : decode cX5_unknown 7 = .ok (.if_icmp .ge 12, 3) := by decide +kernel
theorem dX5_unknown_10 : decode cX5_unknown 10 = .ok (.aload_n 0, 1) := by decide +kernel
theorem dX5_unknown_11 : decode cX5_unknown 11 = .ok (.getfield 11, 3) := by decide +kernel
theorem dX5_unknown_14 : decode cX5_unknown 14 = .ok (.iload_n 1, 1) := by decide +kernel
theorem dX5_unknown_15 : decode cX5_unknown 15 = .ok (.aaload, 1) := by decide +kernel
theorem dX5_unknown_16 : decode cX5_unknown 16 = .ok (.ifnonnull 7, 3) := by decide +kernel
theorem dX5_unknown_19 : decode cX5_unknown 19 = .ok (.iconst 1, 1) := by decide +kernel
theorem dX5_unknown_20 : decode cX5_unknown 20 = .ok (.goto 4, 3) := by decide +kernel
theorem dX5_unknown_23 : decode cX5_unknown 23 = .ok (.iconst 0, 1) := by decide +kernel
theorem dX5_unknown_24 : decode cX5_unknown 24 = .ok (.ireturn, 1) := by decide +kernel
theorem dX5_noImage_0 : decode cX5_noImage 0 = .ok (.iload_n 1, 1) := by decide +kernel
theorem dX5_noImage_1 : decode cX5_noImage 1 = .ok (.ifCond .lt 17, 3) := by decide +kernel
theorem dX5_noImage_4 : decode cX5_noImage 4 = .ok (.iload_n 1, 1) := by decide +kernel
theorem dX5_noImage_5 : decode cX5_noImage 5 = .ok (.iconst 2, 1) := by decide +kernel
theorem dX5_noImage_6 : decode cX5_noImage 6 = .ok (.if_icmp .ge 12, 3) := by decide +kernel
theorem dX5_noImage_9 : decode cX5_noImage 9 = .ok (.aload_n 0, 1) := by decide +kernel
theorem dX5_noImage_10 : decode cX5_noImage 10 = .ok (.getfield 17, 3) := by decide +kernel
theorem dX5_noImage_13 : decode cX5_noImage 13 = .ok (.iload_n 1, 1) := by decide +kernel
theorem dX5_noImage_14 : decode cX5_noImage 14 = .ok (.aaload, 1) := by decide +kernel
theorem dX5_noImage_15 : decode cX5_noImage 15 = .ok (.ifnonnull 7, 3) := by decide +kernel
theorem dX5_noImage_18 : decode cX5_noImage 18 = .ok (.iconst 1, 1) := by decide +kernel
theorem dX5_noImage_19 : decode cX5_noImage 19 = .ok (.goto 4, 3) := by decide +kernel
theorem dX5_noImage_22 : decode cX5_noImage 22 = .ok (.iconst 0, 1) := by decide +kernel
theorem dX5_noImage_23 : decode cX5_noImage 23 = .ok (.ireturn, 1) := by decide +kernel
theorem dX5_within_0 : decode cX5_within 0 = .ok (.iload_n 1, 1) := by decide +kernel
theorem dX5_within_1 : decode cX5_within 1 = .ok (.iload_n 0, 1) := by decide +kernel
theorem dX5_within_2 : decode cX5_within 2 = .ok (.if_icmp .gt 12, 3) := by decide +kernel
theorem dX5_within_5 : decode cX5_within 5 = .ok (.iload_n 0, 1) := by decide +kernel
theorem dX5_within_6 : decode cX5_within 6 = .ok (.iload_n 2, 1) := by decide +kernel
theorem dX5_within_7 : decode cX5_within 7 = .ok (.if_icmp .gt 7, 3) := by decide +kernel
theorem dX5_within_10 : decode cX5_within 10 = .ok (.iconst 1, 1) := by decide +kernel
theorem dX5_within_11 : decode cX5_within 11 = .ok (.goto 4, 3) := by decide +kernel
theorem dX5_within_14 : decode cX5_within 14 = .ok (.iconst 0, 1) := by decide +kernel
theorem dX5_within_15 : decode cX5_within 15 = .ok (.ireturn, 1) := by decide +kernel
theorem dX5_truth_0 : decode cX5_truth 0 = .ok (.iload_n 0, 1) := by decide +kernel
theorem dX5_truth_1 : decode cX5_truth 1 = .ok (.ifCond .eq 7, 3) := by decide +kernel
theorem dX5_truth_4 : decode cX5_truth 4 = .ok (.iconst 1, 1) := by decide +kernel
theorem dX5_truth_5 : decode cX5_truth 5 = .ok (.goto 4, 3) := by decide +kernel
theorem dX5_truth_8 : decode cX5_truth 8 = .ok (.iconst 0, 1) := by decide +kernel
theorem dX5_truth_9 : decode cX5_truth 9 = .ok (.ireturn, 1) := by decide +kernel
theorem dX5_emptyAll_0 : decode cX5_emptyAll 0 = .ok (.aload_n 0, 1) := by decide +kernel
theorem dX5_emptyAll_1 : decode cX5_emptyAll 1 = .ok (.iload_n 1, 1) := by decide +kernel
theorem dX5_emptyAll_2 : decode cX5_emptyAll 2 = .ok (.putfield 40, 3) := by decide +kernel
theorem dX5_emptyAll_5 : decode cX5_emptyAll 5 = .ok (.aload_n 0, 1) := by decide +kernel
theorem dX5_emptyAll_6 : decode cX5_emptyAll 6 = .ok (.getfield 24, 3) := by decide +kernel
theorem dX5_emptyAll_9 : decode cX5_emptyAll 9 = .ok (.iconst 0, 1) := by decide +kernel
theorem dX5_emptyAll_10 : decode cX5_emptyAll 10 = .ok (.iconst 1, 1) := by decide +kernel
theorem dX5_emptyAll_11 : decode cX5_emptyAll 11 = .ok (.invokevirtual 168, 3) := by decide +kernel
theorem dX5_emptyAll_14 : decode cX5_emptyAll 14 = .ok (.aload_n 0, 1) := by decide +kernel
theorem dX5_emptyAll_15 : decode cX5_emptyAll 15 = .ok (.invokevirtual 172, 3) := by decide +kernel
theorem dX5_emptyAll_18 : decode cX5_emptyAll 18 = .ok (.astore_n 2, 1) := by decide +kernel
theorem dX5_emptyAll_19 : decode cX5_emptyAll 19 = .ok (.iconst 0, 1) := by decide +kernel
theorem dX5_emptyAll_20 : decode cX5_emptyAll 20 = .ok (.istore_n 3, 1) := by decide +kernel
theorem dX5_emptyAll_21 : decode cX5_emptyAll 21 = .ok (.iload_n 3, 1) := by decide +kernel
theorem dX5_emptyAll_22 : decode cX5_emptyAll 22 = .ok (.bipush 6, 2) := by decide +kernel
theorem dX5_emptyAll_24 : decode cX5_emptyAll 24 = .ok (.if_icmp .ge 16, 3) := by decide +kernel
theorem dX5_emptyAll_27 : decode cX5_emptyAll 27 = .ok (.aload_n 0, 1) := by decide +kernel
theorem dX5_emptyAll_28 : decode cX5_emptyAll 28 = .ok (.getfield 11, 3) := by decide +kernel
theorem dX5_emptyAll_31 : decode cX5_emptyAll 31 = .ok (.iload_n 3, 1) := by decide +kernel
theorem dX5_emptyAll_32 : decode cX5_emptyAll 32 = .ok (.aload_n 2, 1) := by decide +kernel
theorem dX5_emptyAll_33 : decode cX5_emptyAll 33 = .ok (.aastore, 1) := by decide +kernel
theorem dX5_emptyAll_34 : decode cX5_emptyAll 34 = .ok (.iinc 3 1, 3) := by decide +kernel
theorem dX5_emptyAll_37 : decode cX5_emptyAll 37 = .ok (.goto (-16), 3) := by decide +kernel
theorem dX5_emptyAll_40 : decode cX5_emptyAll 40 = .ok (.return_, 1) := by decide +kernel
theorem dX5_hold_0 : decode cX5_hold 0 = .ok (.aload_n 0, 1) := by decide +kernel
theorem dX5_hold_1 : decode cX5_hold 1 = .ok (.invokevirtual 172, 3) := by decide +kernel
theorem dX5_hold_4 : decode cX5_hold 4 = .ok (.astore_n 2, 1) := by decide +kernel
theorem dX5_hold_5 : decode cX5_hold 5 = .ok (.aload_n 2, 1) := by decide +kernel
theorem dX5_hold_6 : decode cX5_hold 6 = .ok (.ifnonnull 6, 3) := by decide +kernel
theorem dX5_hold_9 : decode cX5_hold 9 = .ok (.bipush (-4), 2) := by decide +kernel
theorem dX5_hold_11 : decode cX5_hold 11 = .ok (.ireturn, 1) := by decide +kernel
theorem dX5_hold_12 : decode cX5_hold 12 = .ok (.aload_n 0, 1) := by decide +kernel
theorem dX5_hold_13 : decode cX5_hold 13 = .ok (.getfield 11, 3) := by decide +kernel
theorem dX5_hold_16 : decode cX5_hold 16 = .ok (.iload_n 1, 1) := by decide +kernel
theorem dX5_hold_17 : decode cX5_hold 17 = .ok (.aload_n 2, 1) := by decide +kernel
theorem dX5_hold_18 : decode cX5_hold 18 = .ok (.aastore, 1) := by decide +kernel
theorem dX5_hold_19 : decode cX5_hold 19 = .ok (.aload_n 2, 1) := by decide +kernel
theorem dX5_hold_20 : decode cX5_hold 20 = .ok (.getfield 85, 3) := by decide +kernel
theorem dX5_hold_23 : decode cX5_hold 23 = .ok (.getfield 89, 3) := by decide +kernel
theorem dX5_hold_26 : decode cX5_hold 26 = .ok (.ireturn, 1) := by decide +kernel
theorem dX5_drafted_0 : decode cX5_drafted 0 = .ok (.aload_n 0, 1) := by decide +kernel
theorem dX5_drafted_1 : decode cX5_drafted 1 = .ok (.getfield 24, 3) := by decide +kernel
theorem dX5_drafted_4 : decode cX5_drafted 4 = .ok (.invokevirtual 176, 3) := by decide +kernel
theorem dX5_drafted_7 : decode cX5_drafted 7 = .ok (.ifCond .eq 21, 3) := by decide +kernel
theorem dX5_drafted_10 : decode cX5_drafted 10 = .ok (.aload_n 0, 1) := by decide +kernel
theorem dX5_drafted_11 : decode cX5_drafted 11 = .ok (.getfield 31, 3) := by decide +kernel
theorem dX5_drafted_14 : decode cX5_drafted 14 = .ok (.aload_n 0, 1) := by decide +kernel
theorem dX5_drafted_15 : decode cX5_drafted 15 = .ok (.getfield 24, 3) := by decide +kernel
theorem dX5_drafted_18 : decode cX5_drafted 18 = .ok (.aload_n 0, 1) := by decide +kernel
theorem dX5_drafted_19 : decode cX5_drafted 19 = .ok (.getfield 40, 3) := by decide +kernel
theorem dX5_drafted_22 : decode cX5_drafted 22 = .ok (.invokevirtual 180, 3) := by decide +kernel
theorem dX5_drafted_25 : decode cX5_drafted 25 = .ok (.ifCond .ne 5, 3) := by decide +kernel
theorem dX5_drafted_28 : decode cX5_drafted 28 = .ok (.aconst_null, 1) := by decide +kernel
theorem dX5_drafted_29 : decode cX5_drafted 29 = .ok (.areturn, 1) := by decide +kernel
theorem dX5_drafted_30 : decode cX5_drafted 30 = .ok (.new 9, 3) := by decide +kernel
theorem dX5_drafted_33 : decode cX5_drafted 33 = .ok (.dup, 1) := by decide +kernel
theorem dX5_drafted_34 : decode cX5_drafted 34 = .ok (.aload_n 0, 1) := by decide +kernel
theorem dX5_drafted_35 : decode cX5_drafted 35 = .ok (.getfield 24, 3) := by decide +kernel
theorem dX5_drafted_38 : decode cX5_drafted 38 = .ok (.aload_n 0, 1) := by decide +kernel
theorem dX5_drafted_39 : decode cX5_drafted 39 = .ok (.getfield 31, 3) := by decide +kernel
theorem dX5_drafted_42 : decode cX5_drafted 42 = .ok (.invokevirtual 184, 3) := by decide +kernel
theorem dX5_drafted_45 : decode cX5_drafted 45 = .ok (.invokespecial 187, 3) := by decide +kernel
theorem dX5_drafted_48 : decode cX5_drafted 48 = .ok (.areturn, 1) := by decide +kernel
theorem dX5_draftKind_0 : decode cX5_draftKind 0 = .ok (.iload_n 1, 1) := by decide +kernel
theorem dX5_draftKind_1 : decode cX5_draftKind 1 = .ok (.ifCond .ne 25, 3) := by decide +kernel
theorem dX5_draftKind_4 : decode cX5_draftKind 4 = .ok (.aload_n 0, 1) := by decide +kernel
theorem dX5_draftKind_5 : decode cX5_draftKind 5 = .ok (.getfield 24, 3) := by decide +kernel
theorem dX5_draftKind_8 : decode cX5_draftKind 8 = .ok (.iload_n 2, 1) := by decide +kernel
theorem dX5_draftKind_9 : decode cX5_draftKind 9 = .ok (.iconst 1, 1) := by decide +kernel
theorem dX5_draftKind_10 : decode cX5_draftKind 10 = .ok (.iadd, 1) := by decide +kernel
theorem dX5_draftKind_11 : decode cX5_draftKind 11 = .ok (.iconst 1, 1) := by decide +kernel
theorem dX5_draftKind_12 : decode cX5_draftKind 12 = .ok (.invokevirtual 168, 3) := by decide +kernel
theorem dX5_draftKind_15 : decode cX5_draftKind 15 = .ok (.aload_n 0, 1) := by decide +kernel
theorem dX5_draftKind_16 : decode cX5_draftKind 16 = .ok (.getfield 24, 3) := by decide +kernel
theorem dX5_draftKind_19 : decode cX5_draftKind 19 = .ok (.iload_n 2, 1) := by decide +kernel
theorem dX5_draftKind_20 : decode cX5_draftKind 20 = .ok (.invokevirtual 190, 3) := by decide +kernel
theorem dX5_draftKind_23 : decode cX5_draftKind 23 = .ok (.goto 81, 3) := by decide +kernel
theorem dX5_draftKind_26 : decode cX5_draftKind 26 = .ok (.iload_n 1, 1) := by decide +kernel
theorem dX5_draftKind_27 : decode cX5_draftKind 27 = .ok (.iconst 1, 1) := by decide +kernel
theorem dX5_draftKind_28 : decode cX5_draftKind 28 = .ok (.if_icmp .ne 23, 3) := by decide +kernel
theorem dX5_draftKind_31 : decode cX5_draftKind 31 = .ok (.aload_n 0, 1) := by decide +kernel
theorem dX5_draftKind_32 : decode cX5_draftKind 32 = .ok (.getfield 24, 3) := by decide +kernel
theorem dX5_draftKind_35 : decode cX5_draftKind 35 = .ok (.iload_n 2, 1) := by decide +kernel
theorem dX5_draftKind_36 : decode cX5_draftKind 36 = .ok (.iconst 1, 1) := by decide +kernel
theorem dX5_draftKind_37 : decode cX5_draftKind 37 = .ok (.invokevirtual 168, 3) := by decide +kernel
theorem dX5_draftKind_40 : decode cX5_draftKind 40 = .ok (.aload_n 0, 1) := by decide +kernel
theorem dX5_draftKind_41 : decode cX5_draftKind 41 = .ok (.getfield 24, 3) := by decide +kernel
theorem dX5_draftKind_44 : decode cX5_draftKind 44 = .ok (.iload_n 2, 1) := by decide +kernel
theorem dX5_draftKind_45 : decode cX5_draftKind 45 = .ok (.invokevirtual 190, 3) := by decide +kernel
theorem dX5_draftKind_48 : decode cX5_draftKind 48 = .ok (.goto 56, 3) := by decide +kernel
theorem dX5_draftKind_51 : decode cX5_draftKind 51 = .ok (.iload_n 1, 1) := by decide +kernel
theorem dX5_draftKind_52 : decode cX5_draftKind 52 = .ok (.iconst 2, 1) := by decide +kernel
theorem dX5_draftKind_53 : decode cX5_draftKind 53 = .ok (.if_icmp .ne 29, 3) := by decide +kernel
theorem dX5_draftKind_56 : decode cX5_draftKind 56 = .ok (.iload_n 3, 1) := by decide +kernel
theorem dX5_draftKind_57 : decode cX5_draftKind 57 = .ok (.ifCond .le 25, 3) := by decide +kernel
theorem dX5_draftKind_60 : decode cX5_draftKind 60 = .ok (.aload_n 0, 1) := by decide +kernel
theorem dX5_draftKind_61 : decode cX5_draftKind 61 = .ok (.getfield 24, 3) := by decide +kernel
theorem dX5_draftKind_64 : decode cX5_draftKind 64 = .ok (.iconst 0, 1) := by decide +kernel
theorem dX5_draftKind_65 : decode cX5_draftKind 65 = .ok (.iload_n 3, 1) := by decide +kernel
theorem dX5_draftKind_66 : decode cX5_draftKind 66 = .ok (.invokevirtual 168, 3) := by decide +kernel
theorem dX5_draftKind_69 : decode cX5_draftKind 69 = .ok (.aload_n 0, 1) := by decide +kernel
theorem dX5_draftKind_70 : decode cX5_draftKind 70 = .ok (.getfield 24, 3) := by decide +kernel
theorem dX5_draftKind_73 : decode cX5_draftKind 73 = .ok (.iload_n 2, 1) := by decide +kernel
theorem dX5_draftKind_74 : decode cX5_draftKind 74 = .ok (.iload_n 3, 1) := by decide +kernel
theorem dX5_draftKind_75 : decode cX5_draftKind 75 = .ok (.irem, 1) := by decide +kernel
theorem dX5_draftKind_76 : decode cX5_draftKind 76 = .ok (.invokevirtual 190, 3) := by decide +kernel
theorem dX5_draftKind_79 : decode cX5_draftKind 79 = .ok (.goto 25, 3) := by decide +kernel
theorem dX5_draftKind_82 : decode cX5_draftKind 82 = .ok (.aload_n 0, 1) := by decide +kernel
theorem dX5_draftKind_83 : decode cX5_draftKind 83 = .ok (.getfield 24, 3) := by decide +kernel
theorem dX5_draftKind_86 : decode cX5_draftKind 86 = .ok (.iconst 0, 1) := by decide +kernel
theorem dX5_draftKind_87 : decode cX5_draftKind 87 = .ok (.iconst 1, 1) := by decide +kernel
theorem dX5_draftKind_88 : decode cX5_draftKind 88 = .ok (.invokevirtual 168, 3) := by decide +kernel
theorem dX5_draftKind_91 : decode cX5_draftKind 91 = .ok (.iload_n 1, 1) := by decide +kernel
theorem dX5_draftKind_92 : decode cX5_draftKind 92 = .ok (.iconst 4, 1) := by decide +kernel
theorem dX5_draftKind_93 : decode cX5_draftKind 93 = .ok (.if_icmp .ne 11, 3) := by decide +kernel
theorem dX5_draftKind_96 : decode cX5_draftKind 96 = .ok (.aload_n 0, 1) := by decide +kernel
theorem dX5_draftKind_97 : decode cX5_draftKind 97 = .ok (.getfield 24, 3) := by decide +kernel
theorem dX5_draftKind_100 : decode cX5_draftKind 100 = .ok (.iconst 0, 1) := by decide +kernel
theorem dX5_draftKind_101 : decode cX5_draftKind 101 = .ok (.invokevirtual 190, 3) := by decide +kernel
theorem dX5_draftKind_104 : decode cX5_draftKind 104 = .ok (.return_, 1) := by decide +kernel
theorem dX5_draftJoin_0 : decode cX5_draftJoin 0 = .ok (.aload_n 0, 1) := by decide +kernel
theorem dX5_draftJoin_1 : decode cX5_draftJoin 1 = .ok (.getfield 24, 3) := by decide +kernel
theorem dX5_draftJoin_4 : decode cX5_draftJoin 4 = .ok (.aload_n 1, 1) := by decide +kernel
theorem dX5_draftJoin_5 : decode cX5_draftJoin 5 = .ok (.getfield 79, 3) := by decide +kernel
theorem dX5_draftJoin_8 : decode cX5_draftJoin 8 = .ok (.aload_n 2, 1) := by decide +kernel
end
section
theorem dX5_draftJoin_9 : decode cX5_draftJoin 9 = .ok (.getfield 79, 3) := by decide +kernel
theorem dX5_draftJoin_12 : decode cX5_draftJoin 12 = .ok (.invokestatic 193, 3) := by decide +kernel
theorem dX5_draftJoin_15 : decode cX5_draftJoin 15 = .ok (.aload_n 1, 1) := by decide +kernel
theorem dX5_draftJoin_16 : decode cX5_draftJoin 16 = .ok (.getfield 82, 3) := by decide +kernel
theorem dX5_draftJoin_19 : decode cX5_draftJoin 19 = .ok (.aload_n 2, 1) := by decide +kernel
theorem dX5_draftJoin_20 : decode cX5_draftJoin 20 = .ok (.getfield 82, 3) := by decide +kernel
theorem dX5_draftJoin_23 : decode cX5_draftJoin 23 = .ok (.invokestatic 198, 3) := by decide +kernel
theorem dX5_draftJoin_26 : decode cX5_draftJoin 26 = .ok (.invokevirtual 168, 3) := by decide +kernel
theorem dX5_draftJoin_29 : decode cX5_draftJoin 29 = .ok (.iconst 0, 1) := by decide +kernel
theorem dX5_draftJoin_30 : decode cX5_draftJoin 30 = .ok (.istore 4, 2) := by decide +kernel
theorem dX5_draftJoin_32 : decode cX5_draftJoin 32 = .ok (.iconst 0, 1) := by decide +kernel
theorem dX5_draftJoin_33 : decode cX5_draftJoin 33 = .ok (.istore 5, 2) := by decide +kernel
theorem dX5_draftJoin_35 : decode cX5_draftJoin 35 = .ok (.iconst 0, 1) := by decide +kernel
theorem dX5_draftJoin_36 : decode cX5_draftJoin 36 = .ok (.istore 6, 2) := by decide +kernel
theorem dX5_draftJoin_38 : decode cX5_draftJoin 38 = .ok (.iload 6, 2) := by decide +kernel
theorem dX5_draftJoin_40 : decode cX5_draftJoin 40 = .ok (.aload_n 0, 1) := by decide +kernel
theorem dX5_draftJoin_41 : decode cX5_draftJoin 41 = .ok (.getfield 24, 3) := by decide +kernel
theorem dX5_draftJoin_44 : decode cX5_draftJoin 44 = .ok (.invokevirtual 201, 3) := by decide +kernel
theorem dX5_draftJoin_47 : decode cX5_draftJoin 47 = .ok (.if_icmp .ge 53, 3) := by decide +kernel
theorem dX5_draftJoin_50 : decode cX5_draftJoin 50 = .ok (.aload_n 1, 1) := by decide +kernel
theorem dX5_draftJoin_51 : decode cX5_draftJoin 51 = .ok (.iload 4, 2) := by decide +kernel
theorem dX5_draftJoin_53 : decode cX5_draftJoin 53 = .ok (.invokevirtual 204, 3) := by decide +kernel
theorem dX5_draftJoin_56 : decode cX5_draftJoin 56 = .ok (.aload_n 2, 1) := by decide +kernel
theorem dX5_draftJoin_57 : decode cX5_draftJoin 57 = .ok (.iload 5, 2) := by decide +kernel
theorem dX5_draftJoin_59 : decode cX5_draftJoin 59 = .ok (.invokevirtual 204, 3) := by decide +kernel
theorem dX5_draftJoin_62 : decode cX5_draftJoin 62 = .ok (.iload_n 3, 1) := by decide +kernel
theorem dX5_draftJoin_63 : decode cX5_draftJoin 63 = .ok (.invokestatic 207, 3) := by decide +kernel
theorem dX5_draftJoin_66 : decode cX5_draftJoin 66 = .ok (.ifCond .eq 12, 3) := by decide +kernel
theorem dX5_draftJoin_69 : decode cX5_draftJoin 69 = .ok (.aload_n 0, 1) := by decide +kernel
theorem dX5_draftJoin_70 : decode cX5_draftJoin 70 = .ok (.getfield 24, 3) := by decide +kernel
theorem dX5_draftJoin_73 : decode cX5_draftJoin 73 = .ok (.iload 6, 2) := by decide +kernel
theorem dX5_draftJoin_75 : decode cX5_draftJoin 75 = .ok (.invokevirtual 190, 3) := by decide +kernel
theorem dX5_draftJoin_78 : decode cX5_draftJoin 78 = .ok (.aload_n 1, 1) := by decide +kernel
theorem dX5_draftJoin_79 : decode cX5_draftJoin 79 = .ok (.iload 4, 2) := by decide +kernel
theorem dX5_draftJoin_81 : decode cX5_draftJoin 81 = .ok (.invokevirtual 211, 3) := by decide +kernel
theorem dX5_draftJoin_84 : decode cX5_draftJoin 84 = .ok (.istore 4, 2) := by decide +kernel
theorem dX5_draftJoin_86 : decode cX5_draftJoin 86 = .ok (.aload_n 2, 1) := by decide +kernel
theorem dX5_draftJoin_87 : decode cX5_draftJoin 87 = .ok (.iload 5, 2) := by decide +kernel
theorem dX5_draftJoin_89 : decode cX5_draftJoin 89 = .ok (.invokevirtual 211, 3) := by decide +kernel
theorem dX5_draftJoin_92 : decode cX5_draftJoin 92 = .ok (.istore 5, 2) := by decide +kernel
theorem dX5_draftJoin_94 : decode cX5_draftJoin 94 = .ok (.iinc 6 1, 3) := by decide +kernel
theorem dX5_draftJoin_97 : decode cX5_draftJoin 97 = .ok (.goto (-59), 3) := by decide +kernel
theorem dX5_draftJoin_100 : decode cX5_draftJoin 100 = .ok (.return_, 1) := by decide +kernel
theorem dX5_draftTurn_0 : decode cX5_draftTurn 0 = .ok (.aload_n 0, 1) := by decide +kernel
theorem dX5_draftTurn_1 : decode cX5_draftTurn 1 = .ok (.getfield 24, 3) := by decide +kernel
theorem dX5_draftTurn_4 : decode cX5_draftTurn 4 = .ok (.aload_n 1, 1) := by decide +kernel
theorem dX5_draftTurn_5 : decode cX5_draftTurn 5 = .ok (.getfield 79, 3) := by decide +kernel
theorem dX5_draftTurn_8 : decode cX5_draftTurn 8 = .ok (.aload_n 1, 1) := by decide +kernel
theorem dX5_draftTurn_9 : decode cX5_draftTurn 9 = .ok (.getfield 82, 3) := by decide +kernel
theorem dX5_draftTurn_12 : decode cX5_draftTurn 12 = .ok (.invokevirtual 168, 3) := by decide +kernel
theorem dX5_draftTurn_15 : decode cX5_draftTurn 15 = .ok (.iconst 0, 1) := by decide +kernel
theorem dX5_draftTurn_16 : decode cX5_draftTurn 16 = .ok (.istore_n 2, 1) := by decide +kernel
theorem dX5_draftTurn_17 : decode cX5_draftTurn 17 = .ok (.iload_n 2, 1) := by decide +kernel
theorem dX5_draftTurn_18 : decode cX5_draftTurn 18 = .ok (.aload_n 0, 1) := by decide +kernel
theorem dX5_draftTurn_19 : decode cX5_draftTurn 19 = .ok (.getfield 24, 3) := by decide +kernel
theorem dX5_draftTurn_22 : decode cX5_draftTurn 22 = .ok (.invokevirtual 201, 3) := by decide +kernel
theorem dX5_draftTurn_25 : decode cX5_draftTurn 25 = .ok (.if_icmp .ge 25, 3) := by decide +kernel
theorem dX5_draftTurn_28 : decode cX5_draftTurn 28 = .ok (.aload_n 1, 1) := by decide +kernel
theorem dX5_draftTurn_29 : decode cX5_draftTurn 29 = .ok (.iload_n 2, 1) := by decide +kernel
theorem dX5_draftTurn_30 : decode cX5_draftTurn 30 = .ok (.invokevirtual 204, 3) := by decide +kernel
theorem dX5_draftTurn_33 : decode cX5_draftTurn 33 = .ok (.ifCond .ne 11, 3) := by decide +kernel
theorem dX5_draftTurn_36 : decode cX5_draftTurn 36 = .ok (.aload_n 0, 1) := by decide +kernel
theorem dX5_draftTurn_37 : decode cX5_draftTurn 37 = .ok (.getfield 24, 3) := by decide +kernel
theorem dX5_draftTurn_40 : decode cX5_draftTurn 40 = .ok (.iload_n 2, 1) := by decide +kernel
theorem dX5_draftTurn_41 : decode cX5_draftTurn 41 = .ok (.invokevirtual 190, 3) := by decide +kernel
theorem dX5_draftTurn_44 : decode cX5_draftTurn 44 = .ok (.iinc 2 1, 3) := by decide +kernel
theorem dX5_draftTurn_47 : decode cX5_draftTurn 47 = .ok (.goto (-30), 3) := by decide +kernel
theorem dX5_draftTurn_50 : decode cX5_draftTurn 50 = .ok (.return_, 1) := by decide +kernel
theorem dX5_draftShift_0 : decode cX5_draftShift 0 = .ok (.aload_n 0, 1) := by decide +kernel
theorem dX5_draftShift_1 : decode cX5_draftShift 1 = .ok (.getfield 24, 3) := by decide +kernel
theorem dX5_draftShift_4 : decode cX5_draftShift 4 = .ok (.iconst 0, 1) := by decide +kernel
theorem dX5_draftShift_5 : decode cX5_draftShift 5 = .ok (.aload_n 1, 1) := by decide +kernel
theorem dX5_draftShift_6 : decode cX5_draftShift 6 = .ok (.getfield 79, 3) := by decide +kernel
theorem dX5_draftShift_9 : decode cX5_draftShift 9 = .ok (.iload_n 2, 1) := by decide +kernel
theorem dX5_draftShift_10 : decode cX5_draftShift 10 = .ok (.iadd, 1) := by decide +kernel
theorem dX5_draftShift_11 : decode cX5_draftShift 11 = .ok (.invokestatic 193, 3) := by decide +kernel
theorem dX5_draftShift_14 : decode cX5_draftShift 14 = .ok (.aload_n 1, 1) := by decide +kernel
theorem dX5_draftShift_15 : decode cX5_draftShift 15 = .ok (.getfield 82, 3) := by decide +kernel
theorem dX5_draftShift_18 : decode cX5_draftShift 18 = .ok (.invokevirtual 168, 3) := by decide +kernel
theorem dX5_draftShift_21 : decode cX5_draftShift 21 = .ok (.iconst 0, 1) := by decide +kernel
theorem dX5_draftShift_22 : decode cX5_draftShift 22 = .ok (.iload_n 2, 1) := by decide +kernel
theorem dX5_draftShift_23 : decode cX5_draftShift 23 = .ok (.invokestatic 193, 3) := by decide +kernel
theorem dX5_draftShift_26 : decode cX5_draftShift 26 = .ok (.istore_n 3, 1) := by decide +kernel
theorem dX5_draftShift_27 : decode cX5_draftShift 27 = .ok (.iload_n 3, 1) := by decide +kernel
theorem dX5_draftShift_28 : decode cX5_draftShift 28 = .ok (.aload_n 0, 1) := by decide +kernel
theorem dX5_draftShift_29 : decode cX5_draftShift 29 = .ok (.getfield 24, 3) := by decide +kernel
theorem dX5_draftShift_32 : decode cX5_draftShift 32 = .ok (.invokevirtual 201, 3) := by decide +kernel
theorem dX5_draftShift_35 : decode cX5_draftShift 35 = .ok (.if_icmp .ge 27, 3) := by decide +kernel
theorem dX5_draftShift_38 : decode cX5_draftShift 38 = .ok (.aload_n 1, 1) := by decide +kernel
theorem dX5_draftShift_39 : decode cX5_draftShift 39 = .ok (.iload_n 3, 1) := by decide +kernel
theorem dX5_draftShift_40 : decode cX5_draftShift 40 = .ok (.iload_n 2, 1) := by decide +kernel
theorem dX5_draftShift_41 : decode cX5_draftShift 41 = .ok (.isub, 1) := by decide +kernel
theorem dX5_draftShift_42 : decode cX5_draftShift 42 = .ok (.invokevirtual 126, 3) := by decide +kernel
theorem dX5_draftShift_45 : decode cX5_draftShift 45 = .ok (.ifCond .eq 11, 3) := by decide +kernel
theorem dX5_draftShift_48 : decode cX5_draftShift 48 = .ok (.aload_n 0, 1) := by decide +kernel
theorem dX5_draftShift_49 : decode cX5_draftShift 49 = .ok (.getfield 24, 3) := by decide +kernel
theorem dX5_draftShift_52 : decode cX5_draftShift 52 = .ok (.iload_n 3, 1) := by decide +kernel
theorem dX5_draftShift_53 : decode cX5_draftShift 53 = .ok (.invokevirtual 190, 3) := by decide +kernel
theorem dX5_draftShift_56 : decode cX5_draftShift 56 = .ok (.iinc 3 1, 3) := by decide +kernel
theorem dX5_draftShift_59 : decode cX5_draftShift 59 = .ok (.goto (-32), 3) := by decide +kernel
theorem dX5_draftShift_62 : decode cX5_draftShift 62 = .ok (.return_, 1) := by decide +kernel
theorem dX5_draftStretch_0 : decode cX5_draftStretch 0 = .ok (.aload_n 0, 1) := by decide +kernel
theorem dX5_draftStretch_1 : decode cX5_draftStretch 1 = .ok (.getfield 24, 3) := by decide +kernel
theorem dX5_draftStretch_4 : decode cX5_draftStretch 4 = .ok (.iload_n 2, 1) := by decide +kernel
theorem dX5_draftStretch_5 : decode cX5_draftStretch 5 = .ok (.aload_n 1, 1) := by decide +kernel
theorem dX5_draftStretch_6 : decode cX5_draftStretch 6 = .ok (.getfield 79, 3) := by decide +kernel
theorem dX5_draftStretch_9 : decode cX5_draftStretch 9 = .ok (.imul, 1) := by decide +kernel
theorem dX5_draftStretch_10 : decode cX5_draftStretch 10 = .ok (.iload_n 3, 1) := by decide +kernel
theorem dX5_draftStretch_11 : decode cX5_draftStretch 11 = .ok (.iadd, 1) := by decide +kernel
theorem dX5_draftStretch_12 : decode cX5_draftStretch 12 = .ok (.iload_n 2, 1) := by decide +kernel
theorem dX5_draftStretch_13 : decode cX5_draftStretch 13 = .ok (.aload_n 1, 1) := by decide +kernel
theorem dX5_draftStretch_14 : decode cX5_draftStretch 14 = .ok (.getfield 82, 3) := by decide +kernel
theorem dX5_draftStretch_17 : decode cX5_draftStretch 17 = .ok (.imul, 1) := by decide +kernel
theorem dX5_draftStretch_18 : decode cX5_draftStretch 18 = .ok (.invokevirtual 168, 3) := by decide +kernel
theorem dX5_draftStretch_21 : decode cX5_draftStretch 21 = .ok (.iconst 0, 1) := by decide +kernel
theorem dX5_draftStretch_22 : decode cX5_draftStretch 22 = .ok (.istore 4, 2) := by decide +kernel
theorem dX5_draftStretch_24 : decode cX5_draftStretch 24 = .ok (.iload 4, 2) := by decide +kernel
theorem dX5_draftStretch_26 : decode cX5_draftStretch 26 = .ok (.aload_n 1, 1) := by decide +kernel
theorem dX5_draftStretch_27 : decode cX5_draftStretch 27 = .ok (.getfield 79, 3) := by decide +kernel
theorem dX5_draftStretch_30 : decode cX5_draftStretch 30 = .ok (.aload_n 1, 1) := by decide +kernel
theorem dX5_draftStretch_31 : decode cX5_draftStretch 31 = .ok (.getfield 82, 3) := by decide +kernel
theorem dX5_draftStretch_34 : decode cX5_draftStretch 34 = .ok (.iadd, 1) := by decide +kernel
theorem dX5_draftStretch_35 : decode cX5_draftStretch 35 = .ok (.if_icmp .ge 31, 3) := by decide +kernel
theorem dX5_draftStretch_38 : decode cX5_draftStretch 38 = .ok (.aload_n 1, 1) := by decide +kernel
theorem dX5_draftStretch_39 : decode cX5_draftStretch 39 = .ok (.iload 4, 2) := by decide +kernel
theorem dX5_draftStretch_41 : decode cX5_draftStretch 41 = .ok (.invokevirtual 204, 3) := by decide +kernel
theorem dX5_draftStretch_44 : decode cX5_draftStretch 44 = .ok (.ifCond .eq 16, 3) := by decide +kernel
theorem dX5_draftStretch_47 : decode cX5_draftStretch 47 = .ok (.aload_n 0, 1) := by decide +kernel
theorem dX5_draftStretch_48 : decode cX5_draftStretch 48 = .ok (.getfield 24, 3) := by decide +kernel
theorem dX5_draftStretch_51 : decode cX5_draftStretch 51 = .ok (.iload_n 2, 1) := by decide +kernel
theorem dX5_draftStretch_52 : decode cX5_draftStretch 52 = .ok (.iload 4, 2) := by decide +kernel
theorem dX5_draftStretch_54 : decode cX5_draftStretch 54 = .ok (.imul, 1) := by decide +kernel
theorem dX5_draftStretch_55 : decode cX5_draftStretch 55 = .ok (.iload_n 3, 1) := by decide +kernel
theorem dX5_draftStretch_56 : decode cX5_draftStretch 56 = .ok (.iadd, 1) := by decide +kernel
theorem dX5_draftStretch_57 : decode cX5_draftStretch 57 = .ok (.invokevirtual 190, 3) := by decide +kernel
theorem dX5_draftStretch_60 : decode cX5_draftStretch 60 = .ok (.iinc 4 1, 3) := by decide +kernel
theorem dX5_draftStretch_63 : decode cX5_draftStretch 63 = .ok (.goto (-39), 3) := by decide +kernel
theorem dX5_draftStretch_66 : decode cX5_draftStretch 66 = .ok (.return_, 1) := by decide +kernel
theorem dX5_draftShrink_0 : decode cX5_draftShrink 0 = .ok (.aload_n 0, 1) := by decide +kernel
theorem dX5_draftShrink_1 : decode cX5_draftShrink 1 = .ok (.getfield 24, 3) := by decide +kernel
theorem dX5_draftShrink_4 : decode cX5_draftShrink 4 = .ok (.aload_n 1, 1) := by decide +kernel
theorem dX5_draftShrink_5 : decode cX5_draftShrink 5 = .ok (.getfield 79, 3) := by decide +kernel
theorem dX5_draftShrink_8 : decode cX5_draftShrink 8 = .ok (.aload_n 1, 1) := by decide +kernel
theorem dX5_draftShrink_9 : decode cX5_draftShrink 9 = .ok (.getfield 82, 3) := by decide +kernel
theorem dX5_draftShrink_12 : decode cX5_draftShrink 12 = .ok (.invokevirtual 168, 3) := by decide +kernel
theorem dX5_draftShrink_15 : decode cX5_draftShrink 15 = .ok (.iconst 0, 1) := by decide +kernel
theorem dX5_draftShrink_16 : decode cX5_draftShrink 16 = .ok (.istore 4, 2) := by decide +kernel
theorem dX5_draftShrink_18 : decode cX5_draftShrink 18 = .ok (.iload 4, 2) := by decide +kernel
theorem dX5_draftShrink_20 : decode cX5_draftShrink 20 = .ok (.aload_n 0, 1) := by decide +kernel
theorem dX5_draftShrink_21 : decode cX5_draftShrink 21 = .ok (.getfield 24, 3) := by decide +kernel
theorem dX5_draftShrink_24 : decode cX5_draftShrink 24 = .ok (.invokevirtual 201, 3) := by decide +kernel
theorem dX5_draftShrink_27 : decode cX5_draftShrink 27 = .ok (.if_icmp .ge 31, 3) := by decide +kernel
theorem dX5_draftShrink_30 : decode cX5_draftShrink 30 = .ok (.aload_n 1, 1) := by decide +kernel
theorem dX5_draftShrink_31 : decode cX5_draftShrink 31 = .ok (.iload_n 2, 1) := by decide +kernel
theorem dX5_draftShrink_32 : decode cX5_draftShrink 32 = .ok (.iload 4, 2) := by decide +kernel
theorem dX5_draftShrink_34 : decode cX5_draftShrink 34 = .ok (.imul, 1) := by decide +kernel
theorem dX5_draftShrink_35 : decode cX5_draftShrink 35 = .ok (.iload_n 3, 1) := by decide +kernel
theorem dX5_draftShrink_36 : decode cX5_draftShrink 36 = .ok (.iadd, 1) := by decide +kernel
theorem dX5_draftShrink_37 : decode cX5_draftShrink 37 = .ok (.invokevirtual 126, 3) := by decide +kernel
theorem dX5_draftShrink_40 : decode cX5_draftShrink 40 = .ok (.ifCond .eq 12, 3) := by decide +kernel
theorem dX5_draftShrink_43 : decode cX5_draftShrink 43 = .ok (.aload_n 0, 1) := by decide +kernel
theorem dX5_draftShrink_44 : decode cX5_draftShrink 44 = .ok (.getfield 24, 3) := by decide +kernel
theorem dX5_draftShrink_47 : decode cX5_draftShrink 47 = .ok (.iload 4, 2) := by decide +kernel
theorem dX5_draftShrink_49 : decode cX5_draftShrink 49 = .ok (.invokevirtual 190, 3) := by decide +kernel
theorem dX5_draftShrink_52 : decode cX5_draftShrink 52 = .ok (.iinc 4 1, 3) := by decide +kernel
theorem dX5_draftShrink_55 : decode cX5_draftShrink 55 = .ok (.goto (-37), 3) := by decide +kernel
theorem dX5_draftShrink_58 : decode cX5_draftShrink 58 = .ok (.return_, 1) := by decide +kernel
theorem dX5_joined_0 : decode cX5_joined 0 = .ok (.iload_n 2, 1) := by decide +kernel
theorem dX5_joined_1 : decode cX5_joined 1 = .ok (.tableswitch 69 0 2 #[27, 41, 55], 27) := by decide +kernel
theorem dX5_joined_28 : decode cX5_joined 28 = .ok (.iload_n 0, 1) := by decide +kernel
theorem dX5_joined_29 : decode cX5_joined 29 = .ok (.ifCond .ne 7, 3) := by decide +kernel
theorem dX5_joined_32 : decode cX5_joined 32 = .ok (.iload_n 1, 1) := by decide +kernel
theorem dX5_joined_33 : decode cX5_joined 33 = .ok (.ifCond .eq 7, 3) := by decide +kernel
theorem dX5_joined_36 : decode cX5_joined 36 = .ok (.iconst 1, 1) := by decide +kernel
theorem dX5_joined_37 : decode cX5_joined 37 = .ok (.goto 4, 3) := by decide +kernel
theorem dX5_joined_40 : decode cX5_joined 40 = .ok (.iconst 0, 1) := by decide +kernel
theorem dX5_joined_41 : decode cX5_joined 41 = .ok (.ireturn, 1) := by decide +kernel
theorem dX5_joined_42 : decode cX5_joined 42 = .ok (.iload_n 0, 1) := by decide +kernel
theorem dX5_joined_43 : decode cX5_joined 43 = .ok (.ifCond .eq 11, 3) := by decide +kernel
theorem dX5_joined_46 : decode cX5_joined 46 = .ok (.iload_n 1, 1) := by decide +kernel
theorem dX5_joined_47 : decode cX5_joined 47 = .ok (.ifCond .eq 7, 3) := by decide +kernel
theorem dX5_joined_50 : decode cX5_joined 50 = .ok (.iconst 1, 1) := by decide +kernel
theorem dX5_joined_51 : decode cX5_joined 51 = .ok (.goto 4, 3) := by decide +kernel
theorem dX5_joined_54 : decode cX5_joined 54 = .ok (.iconst 0, 1) := by decide +kernel
theorem dX5_joined_55 : decode cX5_joined 55 = .ok (.ireturn, 1) := by decide +kernel
theorem dX5_joined_56 : decode cX5_joined 56 = .ok (.iload_n 0, 1) := by decide +kernel
theorem dX5_joined_57 : decode cX5_joined 57 = .ok (.ifCond .eq 11, 3) := by decide +kernel
theorem dX5_joined_60 : decode cX5_joined 60 = .ok (.iload_n 1, 1) := by decide +kernel
theorem dX5_joined_61 : decode cX5_joined 61 = .ok (.ifCond .ne 7, 3) := by decide +kernel
theorem dX5_joined_64 : decode cX5_joined 64 = .ok (.iconst 1, 1) := by decide +kernel
theorem dX5_joined_65 : decode cX5_joined 65 = .ok (.goto 4, 3) := by decide +kernel
theorem dX5_joined_68 : decode cX5_joined 68 = .ok (.iconst 0, 1) := by decide +kernel
theorem dX5_joined_69 : decode cX5_joined 69 = .ok (.ireturn, 1) := by decide +kernel
theorem dX5_joined_70 : decode cX5_joined 70 = .ok (.iload_n 0, 1) := by decide +kernel
theorem dX5_joined_71 : decode cX5_joined 71 = .ok (.iload_n 1, 1) := by decide +kernel
theorem dX5_joined_72 : decode cX5_joined 72 = .ok (.if_icmp .eq 7, 3) := by decide +kernel
theorem dX5_joined_75 : decode cX5_joined 75 = .ok (.iconst 1, 1) := by decide +kernel
theorem dX5_joined_76 : decode cX5_joined 76 = .ok (.goto 4, 3) := by decide +kernel
theorem dX5_joined_79 : decode cX5_joined 79 = .ok (.iconst 0, 1) := by decide +kernel
theorem dX5_joined_80 : decode cX5_joined 80 = .ok (.ireturn, 1) := by decide +kernel
theorem dX5_leastJoined_0 : decode cX5_leastJoined 0 = .ok (.aload_n 0, 1) := by decide +kernel
theorem dX5_leastJoined_1 : decode cX5_leastJoined 1 = .ok (.getfield 79, 3) := by decide +kernel
theorem dX5_leastJoined_4 : decode cX5_leastJoined 4 = .ok (.aload_n 1, 1) := by decide +kernel
theorem dX5_leastJoined_5 : decode cX5_leastJoined 5 = .ok (.getfield 79, 3) := by decide +kernel
theorem dX5_leastJoined_8 : decode cX5_leastJoined 8 = .ok (.invokestatic 193, 3) := by decide +kernel
theorem dX5_leastJoined_11 : decode cX5_leastJoined 11 = .ok (.aload_n 0, 1) := by decide +kernel
theorem dX5_leastJoined_12 : decode cX5_leastJoined 12 = .ok (.getfield 82, 3) := by decide +kernel
theorem dX5_leastJoined_15 : decode cX5_leastJoined 15 = .ok (.aload_n 1, 1) := by decide +kernel
theorem dX5_leastJoined_16 : decode cX5_leastJoined 16 = .ok (.getfield 82, 3) := by decide +kernel
theorem dX5_leastJoined_19 : decode cX5_leastJoined 19 = .ok (.invokestatic 198, 3) := by decide +kernel
theorem dX5_leastJoined_22 : decode cX5_leastJoined 22 = .ok (.iadd, 1) := by decide +kernel
theorem dX5_leastJoined_23 : decode cX5_leastJoined 23 = .ok (.istore_n 3, 1) := by decide +kernel
theorem dX5_leastJoined_24 : decode cX5_leastJoined 24 = .ok (.iconst 0, 1) := by decide +kernel
theorem dX5_leastJoined_25 : decode cX5_leastJoined 25 = .ok (.istore 4, 2) := by decide +kernel
theorem dX5_leastJoined_27 : decode cX5_leastJoined 27 = .ok (.iconst 0, 1) := by decide +kernel
theorem dX5_leastJoined_28 : decode cX5_leastJoined 28 = .ok (.istore 5, 2) := by decide +kernel
theorem dX5_leastJoined_30 : decode cX5_leastJoined 30 = .ok (.iconst 0, 1) := by decide +kernel
theorem dX5_leastJoined_31 : decode cX5_leastJoined 31 = .ok (.istore 6, 2) := by decide +kernel
theorem dX5_leastJoined_33 : decode cX5_leastJoined 33 = .ok (.iload 6, 2) := by decide +kernel
theorem dX5_leastJoined_35 : decode cX5_leastJoined 35 = .ok (.iload_n 3, 1) := by decide +kernel
theorem dX5_leastJoined_36 : decode cX5_leastJoined 36 = .ok (.if_icmp .ge 47, 3) := by decide +kernel
theorem dX5_leastJoined_39 : decode cX5_leastJoined 39 = .ok (.aload_n 0, 1) := by decide +kernel
theorem dX5_leastJoined_40 : decode cX5_leastJoined 40 = .ok (.iload 4, 2) := by decide +kernel
theorem dX5_leastJoined_42 : decode cX5_leastJoined 42 = .ok (.invokevirtual 204, 3) := by decide +kernel
theorem dX5_leastJoined_45 : decode cX5_leastJoined 45 = .ok (.aload_n 1, 1) := by decide +kernel
theorem dX5_leastJoined_46 : decode cX5_leastJoined 46 = .ok (.iload 5, 2) := by decide +kernel
theorem dX5_leastJoined_48 : decode cX5_leastJoined 48 = .ok (.invokevirtual 204, 3) := by decide +kernel
theorem dX5_leastJoined_51 : decode cX5_leastJoined 51 = .ok (.iload_n 2, 1) := by decide +kernel
theorem dX5_leastJoined_52 : decode cX5_leastJoined 52 = .ok (.invokestatic 207, 3) := by decide +kernel
theorem dX5_leastJoined_55 : decode cX5_leastJoined 55 = .ok (.ifCond .eq 6, 3) := by decide +kernel
theorem dX5_leastJoined_58 : decode cX5_leastJoined 58 = .ok (.iload 6, 2) := by decide +kernel
theorem dX5_leastJoined_60 : decode cX5_leastJoined 60 = .ok (.ireturn, 1) := by decide +kernel
theorem dX5_leastJoined_61 : decode cX5_leastJoined 61 = .ok (.aload_n 0, 1) := by decide +kernel
theorem dX5_leastJoined_62 : decode cX5_leastJoined 62 = .ok (.iload 4, 2) := by decide +kernel
theorem dX5_leastJoined_64 : decode cX5_leastJoined 64 = .ok (.invokevirtual 211, 3) := by decide +kernel
theorem dX5_leastJoined_67 : decode cX5_leastJoined 67 = .ok (.istore 4, 2) := by decide +kernel
theorem dX5_leastJoined_69 : decode cX5_leastJoined 69 = .ok (.aload_n 1, 1) := by decide +kernel
theorem dX5_leastJoined_70 : decode cX5_leastJoined 70 = .ok (.iload 5, 2) := by decide +kernel
theorem dX5_leastJoined_72 : decode cX5_leastJoined 72 = .ok (.invokevirtual 211, 3) := by decide +kernel
theorem dX5_leastJoined_75 : decode cX5_leastJoined 75 = .ok (.istore 5, 2) := by decide +kernel
theorem dX5_leastJoined_77 : decode cX5_leastJoined 77 = .ok (.iinc 6 1, 3) := by decide +kernel
theorem dX5_leastJoined_80 : decode cX5_leastJoined 80 = .ok (.goto (-47), 3) := by decide +kernel
theorem dX5_leastJoined_83 : decode cX5_leastJoined 83 = .ok (.bipush (-6), 2) := by decide +kernel
theorem dX5_leastJoined_85 : decode cX5_leastJoined 85 = .ok (.ireturn, 1) := by decide +kernel
theorem dX5_leastCommon_0 : decode cX5_leastCommon 0 = .ok (.iload_n 0, 1) := by decide +kernel
theorem dX5_leastCommon_1 : decode cX5_leastCommon 1 = .ok (.iconst 1, 1) := by decide +kernel
theorem dX5_leastCommon_2 : decode cX5_leastCommon 2 = .ok (.if_icmp .lt 8, 3) := by decide +kernel
theorem dX5_leastCommon_5 : decode cX5_leastCommon 5 = .ok (.iload_n 1, 1) := by decide +kernel
theorem dX5_leastCommon_6 : decode cX5_leastCommon 6 = .ok (.iconst 1, 1) := by decide +kernel
theorem dX5_leastCommon_7 : decode cX5_leastCommon 7 = .ok (.if_icmp .ge 5, 3) := by decide +kernel
theorem dX5_leastCommon_10 : decode cX5_leastCommon 10 = .ok (.iconst 1, 1) := by decide +kernel
theorem dX5_leastCommon_11 : decode cX5_leastCommon 11 = .ok (.ireturn, 1) := by decide +kernel
theorem dX5_leastCommon_12 : decode cX5_leastCommon 12 = .ok (.iconst 1, 1) := by decide +kernel
theorem dX5_leastCommon_13 : decode cX5_leastCommon 13 = .ok (.istore_n 2, 1) := by decide +kernel
theorem dX5_leastCommon_14 : decode cX5_leastCommon 14 = .ok (.iload_n 2, 1) := by decide +kernel
theorem dX5_leastCommon_15 : decode cX5_leastCommon 15 = .ok (.iload_n 1, 1) := by decide +kernel
theorem dX5_leastCommon_16 : decode cX5_leastCommon 16 = .ok (.if_icmp .ge 21, 3) := by decide +kernel
theorem dX5_leastCommon_19 : decode cX5_leastCommon 19 = .ok (.iload_n 0, 1) := by decide +kernel
theorem dX5_leastCommon_20 : decode cX5_leastCommon 20 = .ok (.iload_n 2, 1) := by decide +kernel
theorem dX5_leastCommon_21 : decode cX5_leastCommon 21 = .ok (.imul, 1) := by decide +kernel
theorem dX5_leastCommon_22 : decode cX5_leastCommon 22 = .ok (.iload_n 1, 1) := by decide +kernel
theorem dX5_leastCommon_23 : decode cX5_leastCommon 23 = .ok (.irem, 1) := by decide +kernel
theorem dX5_leastCommon_24 : decode cX5_leastCommon 24 = .ok (.ifCond .ne 7, 3) := by decide +kernel
theorem dX5_leastCommon_27 : decode cX5_leastCommon 27 = .ok (.iload_n 0, 1) := by decide +kernel
theorem dX5_leastCommon_28 : decode cX5_leastCommon 28 = .ok (.iload_n 2, 1) := by decide +kernel
theorem dX5_leastCommon_29 : decode cX5_leastCommon 29 = .ok (.imul, 1) := by decide +kernel
theorem dX5_leastCommon_30 : decode cX5_leastCommon 30 = .ok (.ireturn, 1) := by decide +kernel
theorem dX5_leastCommon_31 : decode cX5_leastCommon 31 = .ok (.iinc 2 1, 3) := by decide +kernel
theorem dX5_leastCommon_34 : decode cX5_leastCommon 34 = .ok (.goto (-20), 3) := by decide +kernel
theorem dX5_leastCommon_37 : decode cX5_leastCommon 37 = .ok (.iload_n 0, 1) := by decide +kernel
theorem dX5_leastCommon_38 : decode cX5_leastCommon 38 = .ok (.iload_n 1, 1) := by decide +kernel
theorem dX5_leastCommon_39 : decode cX5_leastCommon 39 = .ok (.imul, 1) := by decide +kernel
theorem dX5_leastCommon_40 : decode cX5_leastCommon 40 = .ok (.ireturn, 1) := by decide +kernel
theorem dX5_slotsWithNumbers_0 : decode cX5_slotsWithNumbers 0 = .ok (.iconst 0, 1) := by decide +kernel
theorem dX5_slotsWithNumbers_1 : decode cX5_slotsWithNumbers 1 = .ok (.istore_n 1, 1) := by decide +kernel
theorem dX5_slotsWithNumbers_2 : decode cX5_slotsWithNumbers 2 = .ok (.iconst 0, 1) := by decide +kernel
theorem dX5_slotsWithNumbers_3 : decode cX5_slotsWithNumbers 3 = .ok (.istore_n 2, 1) := by decide +kernel
theorem dX5_slotsWithNumbers_4 : decode cX5_slotsWithNumbers 4 = .ok (.iload_n 2, 1) := by decide +kernel
theorem dX5_slotsWithNumbers_5 : decode cX5_slotsWithNumbers 5 = .ok (.bipush 6, 2) := by decide +kernel
theorem dX5_slotsWithNumbers_7 : decode cX5_slotsWithNumbers 7 = .ok (.if_icmp .ge 35, 3) := by decide +kernel
theorem dX5_slotsWithNumbers_10 : decode cX5_slotsWithNumbers 10 = .ok (.aload_n 0, 1) := by decide +kernel
theorem dX5_slotsWithNumbers_11 : decode cX5_slotsWithNumbers 11 = .ok (.iload_n 2, 1) := by decide +kernel
theorem dX5_slotsWithNumbers_12 : decode cX5_slotsWithNumbers 12 = .ok (.invokevirtual 44, 3) := by decide +kernel
theorem dX5_slotsWithNumbers_15 : decode cX5_slotsWithNumbers 15 = .ok (.ifCond .ne 21, 3) := by decide +kernel
theorem dX5_slotsWithNumbers_18 : decode cX5_slotsWithNumbers 18 = .ok (.aload_n 0, 1) := by decide +kernel
theorem dX5_slotsWithNumbers_19 : decode cX5_slotsWithNumbers 19 = .ok (.getfield 11, 3) := by decide +kernel
theorem dX5_slotsWithNumbers_22 : decode cX5_slotsWithNumbers 22 = .ok (.iload_n 2, 1) := by decide +kernel
theorem dX5_slotsWithNumbers_23 : decode cX5_slotsWithNumbers 23 = .ok (.aaload, 1) := by decide +kernel
theorem dX5_slotsWithNumbers_24 : decode cX5_slotsWithNumbers 24 = .ok (.iconst 0, 1) := by decide +kernel
theorem dX5_slotsWithNumbers_25 : decode cX5_slotsWithNumbers 25 = .ok (.invokevirtual 129, 3) := by decide +kernel
theorem dX5_slotsWithNumbers_28 : decode cX5_slotsWithNumbers 28 = .ok (.bipush (-6), 2) := by decide +kernel
theorem dX5_slotsWithNumbers_30 : decode cX5_slotsWithNumbers 30 = .ok (.if_icmp .eq 6, 3) := by decide +kernel
theorem dX5_slotsWithNumbers_33 : decode cX5_slotsWithNumbers 33 = .ok (.iinc 1 1, 3) := by decide +kernel
theorem dX5_slotsWithNumbers_36 : decode cX5_slotsWithNumbers 36 = .ok (.iinc 2 1, 3) := by decide +kernel
theorem dX5_slotsWithNumbers_39 : decode cX5_slotsWithNumbers 39 = .ok (.goto (-35), 3) := by decide +kernel
theorem dX5_slotsWithNumbers_42 : decode cX5_slotsWithNumbers 42 = .ok (.iload_n 1, 1) := by decide +kernel
theorem dX5_slotsWithNumbers_43 : decode cX5_slotsWithNumbers 43 = .ok (.ireturn, 1) := by decide +kernel
theorem dX5_unlikeSets_0 : decode cX5_unlikeSets 0 = .ok (.iconst 0, 1) := by decide +kernel
theorem dX5_unlikeSets_1 : decode cX5_unlikeSets 1 = .ok (.istore_n 1, 1) := by decide +kernel
theorem dX5_unlikeSets_2 : decode cX5_unlikeSets 2 = .ok (.iconst 0, 1) := by decide +kernel
theorem dX5_unlikeSets_3 : decode cX5_unlikeSets 3 = .ok (.istore_n 2, 1) := by decide +kernel
theorem dX5_unlikeSets_4 : decode cX5_unlikeSets 4 = .ok (.iload_n 2, 1) := by decide +kernel
theorem dX5_unlikeSets_5 : decode cX5_unlikeSets 5 = .ok (.bipush 6, 2) := by decide +kernel
theorem dX5_unlikeSets_7 : decode cX5_unlikeSets 7 = .ok (.if_icmp .ge 28, 3) := by decide +kernel
theorem dX5_unlikeSets_10 : decode cX5_unlikeSets 10 = .ok (.aload_n 0, 1) := by decide +kernel
theorem dX5_unlikeSets_11 : decode cX5_unlikeSets 11 = .ok (.iload_n 2, 1) := by decide +kernel
theorem dX5_unlikeSets_12 : decode cX5_unlikeSets 12 = .ok (.invokevirtual 44, 3) := by decide +kernel
theorem dX5_unlikeSets_15 : decode cX5_unlikeSets 15 = .ok (.ifCond .ne 14, 3) := by decide +kernel
theorem dX5_unlikeSets_18 : decode cX5_unlikeSets 18 = .ok (.aload_n 0, 1) := by decide +kernel
theorem dX5_unlikeSets_19 : decode cX5_unlikeSets 19 = .ok (.iload_n 2, 1) := by decide +kernel
theorem dX5_unlikeSets_20 : decode cX5_unlikeSets 20 = .ok (.invokevirtual 214, 3) := by decide +kernel
theorem dX5_unlikeSets_23 : decode cX5_unlikeSets 23 = .ok (.ifCond .ne 6, 3) := by decide +kernel
theorem dX5_unlikeSets_26 : decode cX5_unlikeSets 26 = .ok (.iinc 1 1, 3) := by decide +kernel
theorem dX5_unlikeSets_29 : decode cX5_unlikeSets 29 = .ok (.iinc 2 1, 3) := by decide +kernel
theorem dX5_unlikeSets_32 : decode cX5_unlikeSets 32 = .ok (.goto (-28), 3) := by decide +kernel
theorem dX5_unlikeSets_35 : decode cX5_unlikeSets 35 = .ok (.iload_n 1, 1) := by decide +kernel
theorem dX5_unlikeSets_36 : decode cX5_unlikeSets 36 = .ok (.ireturn, 1) := by decide +kernel
theorem dX5_heldBefore_0 : decode cX5_heldBefore 0 = .ok (.iconst 0, 1) := by decide +kernel
theorem dX5_heldBefore_1 : decode cX5_heldBefore 1 = .ok (.istore_n 2, 1) := by decide +kernel
theorem dX5_heldBefore_2 : decode cX5_heldBefore 2 = .ok (.iload_n 2, 1) := by decide +kernel
theorem dX5_heldBefore_3 : decode cX5_heldBefore 3 = .ok (.iload_n 1, 1) := by decide +kernel
theorem dX5_heldBefore_4 : decode cX5_heldBefore 4 = .ok (.if_icmp .ge 37, 3) := by decide +kernel
theorem dX5_heldBefore_7 : decode cX5_heldBefore 7 = .ok (.aload_n 0, 1) := by decide +kernel
theorem dX5_heldBefore_8 : decode cX5_heldBefore 8 = .ok (.iload_n 2, 1) := by decide +kernel
theorem dX5_heldBefore_9 : decode cX5_heldBefore 9 = .ok (.invokevirtual 44, 3) := by decide +kernel
theorem dX5_heldBefore_12 : decode cX5_heldBefore 12 = .ok (.ifCond .ne 23, 3) := by decide +kernel
theorem dX5_heldBefore_15 : decode cX5_heldBefore 15 = .ok (.aload_n 0, 1) := by decide +kernel
theorem dX5_heldBefore_16 : decode cX5_heldBefore 16 = .ok (.getfield 11, 3) := by decide +kernel
theorem dX5_heldBefore_19 : decode cX5_heldBefore 19 = .ok (.iload_n 2, 1) := by decide +kernel
theorem dX5_heldBefore_20 : decode cX5_heldBefore 20 = .ok (.aaload, 1) := by decide +kernel
theorem dX5_heldBefore_21 : decode cX5_heldBefore 21 = .ok (.aload_n 0, 1) := by decide +kernel
theorem dX5_heldBefore_22 : decode cX5_heldBefore 22 = .ok (.getfield 11, 3) := by decide +kernel
theorem dX5_heldBefore_25 : decode cX5_heldBefore 25 = .ok (.iload_n 1, 1) := by decide +kernel
theorem dX5_heldBefore_26 : decode cX5_heldBefore 26 = .ok (.aaload, 1) := by decide +kernel
theorem dX5_heldBefore_27 : decode cX5_heldBefore 27 = .ok (.invokevirtual 132, 3) := by decide +kernel
theorem dX5_heldBefore_30 : decode cX5_heldBefore 30 = .ok (.ifCond .eq 5, 3) := by decide +kernel
theorem dX5_heldBefore_33 : decode cX5_heldBefore 33 = .ok (.iconst 1, 1) := by decide +kernel
theorem dX5_heldBefore_34 : decode cX5_heldBefore 34 = .ok (.ireturn, 1) := by decide +kernel
theorem dX5_heldBefore_35 : decode cX5_heldBefore 35 = .ok (.iinc 2 1, 3) := by decide +kernel
theorem dX5_heldBefore_38 : decode cX5_heldBefore 38 = .ok (.goto (-36), 3) := by decide +kernel
theorem dX5_heldBefore_41 : decode cX5_heldBefore 41 = .ok (.iconst 0, 1) := by decide +kernel
theorem dX5_heldBefore_42 : decode cX5_heldBefore 42 = .ok (.ireturn, 1) := by decide +kernel
theorem dX5_statesOfAll_0 : decode cX5_statesOfAll 0 = .ok (.iconst 0, 1) := by decide +kernel
theorem dX5_statesOfAll_1 : decode cX5_statesOfAll 1 = .ok (.istore_n 1, 1) := by decide +kernel
theorem dX5_statesOfAll_2 : decode cX5_statesOfAll 2 = .ok (.iconst 0, 1) := by decide +kernel
theorem dX5_statesOfAll_3 : decode cX5_statesOfAll 3 = .ok (.istore_n 2, 1) := by decide +kernel
theorem dX5_statesOfAll_4 : decode cX5_statesOfAll 4 = .ok (.iload_n 2, 1) := by decide +kernel
theorem dX5_statesOfAll_5 : decode cX5_statesOfAll 5 = .ok (.bipush 6, 2) := by decide +kernel
theorem dX5_statesOfAll_7 : decode cX5_statesOfAll 7 = .ok (.if_icmp .ge 32, 3) := by decide +kernel
theorem dX5_statesOfAll_10 : decode cX5_statesOfAll 10 = .ok (.aload_n 0, 1) := by decide +kernel
theorem dX5_statesOfAll_11 : decode cX5_statesOfAll 11 = .ok (.iload_n 2, 1) := by decide +kernel
theorem dX5_statesOfAll_12 : decode cX5_statesOfAll 12 = .ok (.invokevirtual 44, 3) := by decide +kernel
theorem dX5_statesOfAll_15 : decode cX5_statesOfAll 15 = .ok (.ifCond .ne 18, 3) := by decide +kernel
theorem dX5_statesOfAll_18 : decode cX5_statesOfAll 18 = .ok (.iload_n 1, 1) := by decide +kernel
theorem dX5_statesOfAll_19 : decode cX5_statesOfAll 19 = .ok (.aload_n 0, 1) := by decide +kernel
theorem dX5_statesOfAll_20 : decode cX5_statesOfAll 20 = .ok (.getfield 11, 3) := by decide +kernel
theorem dX5_statesOfAll_23 : decode cX5_statesOfAll 23 = .ok (.iload_n 2, 1) := by decide +kernel
theorem dX5_statesOfAll_24 : decode cX5_statesOfAll 24 = .ok (.aaload, 1) := by decide +kernel
theorem dX5_statesOfAll_25 : decode cX5_statesOfAll 25 = .ok (.getfield 85, 3) := by decide +kernel
theorem dX5_statesOfAll_28 : decode cX5_statesOfAll 28 = .ok (.getfield 89, 3) := by decide +kernel
theorem dX5_statesOfAll_31 : decode cX5_statesOfAll 31 = .ok (.iadd, 1) := by decide +kernel
theorem dX5_statesOfAll_32 : decode cX5_statesOfAll 32 = .ok (.istore_n 1, 1) := by decide +kernel
theorem dX5_statesOfAll_33 : decode cX5_statesOfAll 33 = .ok (.iinc 2 1, 3) := by decide +kernel
theorem dX5_statesOfAll_36 : decode cX5_statesOfAll 36 = .ok (.goto (-32), 3) := by decide +kernel
theorem dX5_statesOfAll_39 : decode cX5_statesOfAll 39 = .ok (.iload_n 1, 1) := by decide +kernel
theorem dX5_statesOfAll_40 : decode cX5_statesOfAll 40 = .ok (.ireturn, 1) := by decide +kernel
theorem dX5_imagesKept_0 : decode cX5_imagesKept 0 = .ok (.iconst 0, 1) := by decide +kernel
theorem dX5_imagesKept_1 : decode cX5_imagesKept 1 = .ok (.istore_n 1, 1) := by decide +kernel
theorem dX5_imagesKept_2 : decode cX5_imagesKept 2 = .ok (.iconst 0, 1) := by decide +kernel
theorem dX5_imagesKept_3 : decode cX5_imagesKept 3 = .ok (.istore_n 2, 1) := by decide +kernel
theorem dX5_imagesKept_4 : decode cX5_imagesKept 4 = .ok (.iload_n 2, 1) := by decide +kernel
theorem dX5_imagesKept_5 : decode cX5_imagesKept 5 = .ok (.iconst 2, 1) := by decide +kernel
theorem dX5_imagesKept_6 : decode cX5_imagesKept 6 = .ok (.if_icmp .ge 35, 3) := by decide +kernel
theorem dX5_imagesKept_9 : decode cX5_imagesKept 9 = .ok (.aload_n 0, 1) := by decide +kernel
theorem dX5_imagesKept_10 : decode cX5_imagesKept 10 = .ok (.iload_n 2, 1) := by decide +kernel
theorem dX5_imagesKept_11 : decode cX5_imagesKept 11 = .ok (.invokevirtual 140, 3) := by decide +kernel
theorem dX5_imagesKept_14 : decode cX5_imagesKept 14 = .ok (.ifCond .ne 21, 3) := by decide +kernel
theorem dX5_imagesKept_17 : decode cX5_imagesKept 17 = .ok (.aload_n 0, 1) := by decide +kernel
theorem dX5_imagesKept_18 : decode cX5_imagesKept 18 = .ok (.getfield 17, 3) := by decide +kernel
theorem dX5_imagesKept_21 : decode cX5_imagesKept 21 = .ok (.iload_n 2, 1) := by decide +kernel
theorem dX5_imagesKept_22 : decode cX5_imagesKept 22 = .ok (.aaload, 1) := by decide +kernel
theorem dX5_imagesKept_23 : decode cX5_imagesKept 23 = .ok (.getfield 147, 3) := by decide +kernel
theorem dX5_imagesKept_26 : decode cX5_imagesKept 26 = .ok (.ifCond .eq 9, 3) := by decide +kernel
theorem dX5_imagesKept_29 : decode cX5_imagesKept 29 = .ok (.iload_n 1, 1) := by decide +kernel
theorem dX5_imagesKept_30 : decode cX5_imagesKept 30 = .ok (.iconst 1, 1) := by decide +kernel
theorem dX5_imagesKept_31 : decode cX5_imagesKept 31 = .ok (.iload_n 2, 1) := by decide +kernel
theorem dX5_imagesKept_32 : decode cX5_imagesKept 32 = .ok (.ishl, 1) := by decide +kernel
theorem dX5_imagesKept_33 : decode cX5_imagesKept 33 = .ok (.iadd, 1) := by decide +kernel
theorem dX5_imagesKept_34 : decode cX5_imagesKept 34 = .ok (.istore_n 1, 1) := by decide +kernel
theorem dX5_imagesKept_35 : decode cX5_imagesKept 35 = .ok (.iinc 2 1, 3) := by decide +kernel
theorem dX5_imagesKept_38 : decode cX5_imagesKept 38 = .ok (.goto (-34), 3) := by decide +kernel
theorem dX5_imagesKept_41 : decode cX5_imagesKept 41 = .ok (.iload_n 1, 1) := by decide +kernel
theorem dX5_imagesKept_42 : decode cX5_imagesKept 42 = .ok (.ireturn, 1) := by decide +kernel
theorem dX5_folded_0 : decode cX5_folded 0 = .ok (.iload_n 0, 1) := by decide +kernel
theorem dX5_folded_1 : decode cX5_folded 1 = .ok (.iload_n 1, 1) := by decide +kernel
theorem dX5_folded_2 : decode cX5_folded 2 = .ok (.iload_n 2, 1) := by decide +kernel
theorem dX5_folded_3 : decode cX5_folded 3 = .ok (.iadd, 1) := by decide +kernel
theorem dX5_folded_4 : decode cX5_folded 4 = .ok (.if_icmp .lt 8, 3) := by decide +kernel
theorem dX5_folded_7 : decode cX5_folded 7 = .ok (.iload_n 2, 1) := by decide +kernel
theorem dX5_folded_8 : decode cX5_folded 8 = .ok (.iconst 1, 1) := by decide +kernel
theorem dX5_folded_9 : decode cX5_folded 9 = .ok (.if_icmp .ge 7, 3) := by decide +kernel
theorem dX5_folded_12 : decode cX5_folded 12 = .ok (.iload_n 0, 1) := by decide +kernel
theorem dX5_folded_13 : decode cX5_folded 13 = .ok (.goto 10, 3) := by decide +kernel
theorem dX5_folded_16 : decode cX5_folded 16 = .ok (.iload_n 1, 1) := by decide +kernel
theorem dX5_folded_17 : decode cX5_folded 17 = .ok (.iload_n 0, 1) := by decide +kernel
theorem dX5_folded_18 : decode cX5_folded 18 = .ok (.iload_n 1, 1) := by decide +kernel
theorem dX5_folded_19 : decode cX5_folded 19 = .ok (.isub, 1) := by decide +kernel
theorem dX5_folded_20 : decode cX5_folded 20 = .ok (.iload_n 2, 1) := by decide +kernel
theorem dX5_folded_21 : decode cX5_folded 21 = .ok (.irem, 1) := by decide +kernel
theorem dX5_folded_22 : decode cX5_folded 22 = .ok (.iadd, 1) := by decide +kernel
theorem dX5_folded_23 : decode cX5_folded 23 = .ok (.ireturn, 1) := by decide +kernel
theorem dX5_bit_0 : decode cX5_bit 0 = .ok (.iload_n 1, 1) := by decide +kernel
theorem dX5_bit_1 : decode cX5_bit 1 = .ok (.bipush 6, 2) := by decide +kernel
theorem dX5_bit_3 : decode cX5_bit 3 = .ok (.ishr, 1) := by decide +kernel
theorem dX5_bit_4 : decode cX5_bit 4 = .ok (.istore_n 2, 1) := by decide +kernel
theorem dX5_bit_5 : decode cX5_bit 5 = .ok (.iload_n 2, 1) := by decide +kernel
theorem dX5_bit_6 : decode cX5_bit 6 = .ok (.ifCond .lt 25, 3) := by decide +kernel
theorem dX5_bit_9 : decode cX5_bit 9 = .ok (.iload_n 2, 1) := by decide +kernel
theorem dX5_bit_10 : decode cX5_bit 10 = .ok (.aload_n 0, 1) := by decide +kernel
theorem dX5_bit_11 : decode cX5_bit 11 = .ok (.arraylength, 1) := by decide +kernel
theorem dX5_bit_12 : decode cX5_bit 12 = .ok (.if_icmp .ge 19, 3) := by decide +kernel
theorem dX5_bit_15 : decode cX5_bit 15 = .ok (.aload_n 0, 1) := by decide +kernel
theorem dX5_bit_16 : decode cX5_bit 16 = .ok (.iload_n 2, 1) := by decide +kernel
theorem dX5_bit_17 : decode cX5_bit 17 = .ok (.laload, 1) := by decide +kernel
theorem dX5_bit_18 : decode cX5_bit 18 = .ok (.iload_n 1, 1) := by decide +kernel
theorem dX5_bit_19 : decode cX5_bit 19 = .ok (.lushr, 1) := by decide +kernel
theorem dX5_bit_20 : decode cX5_bit 20 = .ok (.lconst 1, 1) := by decide +kernel
theorem dX5_bit_21 : decode cX5_bit 21 = .ok (.land, 1) := by decide +kernel
theorem dX5_bit_22 : decode cX5_bit 22 = .ok (.lconst 0, 1) := by decide +kernel
theorem dX5_bit_23 : decode cX5_bit 23 = .ok (.lcmp, 1) := by decide +kernel
theorem dX5_bit_24 : decode cX5_bit 24 = .ok (.ifCond .eq 7, 3) := by decide +kernel
theorem dX5_bit_27 : decode cX5_bit 27 = .ok (.iconst 1, 1) := by decide +kernel
theorem dX5_bit_28 : decode cX5_bit 28 = .ok (.goto 4, 3) := by decide +kernel
theorem dX5_bit_31 : decode cX5_bit 31 = .ok (.iconst 0, 1) := by decide +kernel
theorem dX5_bit_32 : decode cX5_bit 32 = .ok (.ireturn, 1) := by decide +kernel
theorem dX5_setBit_0 : decode cX5_setBit 0 = .ok (.iload_n 1, 1) := by decide +kernel
theorem dX5_setBit_1 : decode cX5_setBit 1 = .ok (.bipush 6, 2) := by decide +kernel
theorem dX5_setBit_3 : decode cX5_setBit 3 = .ok (.ishr, 1) := by decide +kernel
theorem dX5_setBit_4 : decode cX5_setBit 4 = .ok (.istore_n 2, 1) := by decide +kernel
theorem dX5_setBit_5 : decode cX5_setBit 5 = .ok (.iload_n 2, 1) := by decide +kernel
theorem dX5_setBit_6 : decode cX5_setBit 6 = .ok (.ifCond .lt 18, 3) := by decide +kernel
theorem dX5_setBit_9 : decode cX5_setBit 9 = .ok (.iload_n 2, 1) := by decide +kernel
theorem dX5_setBit_10 : decode cX5_setBit 10 = .ok (.aload_n 0, 1) := by decide +kernel
theorem dX5_setBit_11 : decode cX5_setBit 11 = .ok (.arraylength, 1) := by decide +kernel
theorem dX5_setBit_12 : decode cX5_setBit 12 = .ok (.if_icmp .ge 12, 3) := by decide +kernel
theorem dX5_setBit_15 : decode cX5_setBit 15 = .ok (.aload_n 0, 1) := by decide +kernel
theorem dX5_setBit_16 : decode cX5_setBit 16 = .ok (.iload_n 2, 1) := by decide +kernel
theorem dX5_setBit_17 : decode cX5_setBit 17 = .ok (.dup2, 1) := by decide +kernel
theorem dX5_setBit_18 : decode cX5_setBit 18 = .ok (.laload, 1) := by decide +kernel
theorem dX5_setBit_19 : decode cX5_setBit 19 = .ok (.lconst 1, 1) := by decide +kernel
theorem dX5_setBit_20 : decode cX5_setBit 20 = .ok (.iload_n 1, 1) := by decide +kernel
theorem dX5_setBit_21 : decode cX5_setBit 21 = .ok (.lshl, 1) := by decide +kernel
theorem dX5_setBit_22 : decode cX5_setBit 22 = .ok (.lor, 1) := by decide +kernel
theorem dX5_setBit_23 : decode cX5_setBit 23 = .ok (.lastore, 1) := by decide +kernel
theorem dX5_setBit_24 : decode cX5_setBit 24 = .ok (.return_, 1) := by decide +kernel
theorem dX5_clearBit_0 : decode cX5_clearBit 0 = .ok (.iload_n 1, 1) := by decide +kernel
theorem dX5_clearBit_1 : decode cX5_clearBit 1 = .ok (.bipush 6, 2) := by decide +kernel
theorem dX5_clearBit_3 : decode cX5_clearBit 3 = .ok (.ishr, 1) := by decide +kernel
theorem dX5_clearBit_4 : decode cX5_clearBit 4 = .ok (.istore_n 2, 1) := by decide +kernel
theorem dX5_clearBit_5 : decode cX5_clearBit 5 = .ok (.iload_n 2, 1) := by decide +kernel
theorem dX5_clearBit_6 : decode cX5_clearBit 6 = .ok (.ifCond .lt 22, 3) := by decide +kernel
theorem dX5_clearBit_9 : decode cX5_clearBit 9 = .ok (.iload_n 2, 1) := by decide +kernel
theorem dX5_clearBit_10 : decode cX5_clearBit 10 = .ok (.aload_n 0, 1) := by decide +kernel
theorem dX5_clearBit_11 : decode cX5_clearBit 11 = .ok (.arraylength, 1) := by decide +kernel
theorem dX5_clearBit_12 : decode cX5_clearBit 12 = .ok (.if_icmp .ge 16, 3) := by decide +kernel
theorem dX5_clearBit_15 : decode cX5_clearBit 15 = .ok (.aload_n 0, 1) := by decide +kernel
theorem dX5_clearBit_16 : decode cX5_clearBit 16 = .ok (.iload_n 2, 1) := by decide +kernel
theorem dX5_clearBit_17 : decode cX5_clearBit 17 = .ok (.dup2, 1) := by decide +kernel
theorem dX5_clearBit_18 : decode cX5_clearBit 18 = .ok (.laload, 1) := by decide +kernel
theorem dX5_clearBit_19 : decode cX5_clearBit 19 = .ok (.lconst 1, 1) := by decide +kernel
theorem dX5_clearBit_20 : decode cX5_clearBit 20 = .ok (.iload_n 1, 1) := by decide +kernel
theorem dX5_clearBit_21 : decode cX5_clearBit 21 = .ok (.lshl, 1) := by decide +kernel
theorem dX5_clearBit_22 : decode cX5_clearBit 22 = .ok (.ldc2_w 217, 3) := by decide +kernel
theorem dX5_clearBit_25 : decode cX5_clearBit 25 = .ok (.lxor, 1) := by decide +kernel
theorem dX5_clearBit_26 : decode cX5_clearBit 26 = .ok (.land, 1) := by decide +kernel
theorem dX5_clearBit_27 : decode cX5_clearBit 27 = .ok (.lastore, 1) := by decide +kernel
theorem dX5_clearBit_28 : decode cX5_clearBit 28 = .ok (.return_, 1) := by decide +kernel
theorem dX6_init_0 : decode cX6_init 0 = .ok (.aload_n 0, 1) := by decide +kernel
theorem dX6_init_1 : decode cX6_init 1 = .ok (.invokespecial 1, 3) := by decide +kernel
theorem dX6_init_4 : decode cX6_init 4 = .ok (.aload_n 0, 1) := by decide +kernel
theorem dX6_init_5 : decode cX6_init 5 = .ok (.iconst 2, 1) := by decide +kernel
theorem dX6_init_6 : decode cX6_init 6 = .ok (.putfield 7, 3) := by decide +kernel
theorem dX6_init_9 : decode cX6_init 9 = .ok (.aload_n 0, 1) := by decide +kernel
theorem dX6_init_10 : decode cX6_init 10 = .ok (.bipush 84, 2) := by decide +kernel
theorem dX6_init_12 : decode cX6_init 12 = .ok (.newarray .int, 2) := by decide +kernel
theorem dX6_init_14 : decode cX6_init 14 = .ok (.putfield 13, 3) := by decide +kernel
theorem dX6_init_17 : decode cX6_init 17 = .ok (.aload_n 0, 1) := by decide +kernel
theorem dX6_init_18 : decode cX6_init 18 = .ok (.bipush 84, 2) := by decide +kernel
theorem dX6_init_20 : decode cX6_init 20 = .ok (.newarray .int, 2) := by decide +kernel
theorem dX6_init_22 : decode cX6_init 22 = .ok (.putfield 17, 3) := by decide +kernel
theorem dX6_init_25 : decode cX6_init 25 = .ok (.aload_n 0, 1) := by decide +kernel
theorem dX6_init_26 : decode cX6_init 26 = .ok (.sipush 252, 3) := by decide +kernel
theorem dX6_init_29 : decode cX6_init 29 = .ok (.newarray .long, 2) := by decide +kernel
theorem dX6_init_31 : decode cX6_init 31 = .ok (.putfield 20, 3) := by decide +kernel
theorem dX6_init_34 : decode cX6_init 34 = .ok (.aload_n 0, 1) := by decide +kernel
theorem dX6_init_35 : decode cX6_init 35 = .ok (.sipush 4096, 3) := by decide +kernel
theorem dX6_init_38 : decode cX6_init 38 = .ok (.newarray .boolean, 2) := by decide +kernel
theorem dX6_init_40 : decode cX6_init 40 = .ok (.putfield 24, 3) := by decide +kernel
theorem dX6_init_43 : decode cX6_init 43 = .ok (.aload_n 0, 1) := by decide +kernel
theorem dX6_init_44 : decode cX6_init 44 = .ok (.sipush 325, 3) := by decide +kernel
theorem dX6_init_47 : decode cX6_init 47 = .ok (.newarray .int, 2) := by decide +kernel
theorem dX6_init_49 : decode cX6_init 49 = .ok (.putfield 28, 3) := by decide +kernel
theorem dX6_init_52 : decode cX6_init 52 = .ok (.aload_n 0, 1) := by decide +kernel
theorem dX6_init_53 : decode cX6_init 53 = .ok (.bipush 65, 2) := by decide +kernel
theorem dX6_init_55 : decode cX6_init 55 = .ok (.newarray .int, 2) := by decide +kernel
theorem dX6_init_57 : decode cX6_init 57 = .ok (.putfield 31, 3) := by decide +kernel
theorem dX6_init_60 : decode cX6_init 60 = .ok (.aload_n 0, 1) := by decide +kernel
theorem dX6_init_61 : decode cX6_init 61 = .ok (.iconst 2, 1) := by decide +kernel
theorem dX6_init_62 : decode cX6_init 62 = .ok (.newarray .int, 2) := by decide +kernel
theorem dX6_init_64 : decode cX6_init 64 = .ok (.putfield 34, 3) := by decide +kernel
theorem dX6_init_67 : decode cX6_init 67 = .ok (.aload_n 0, 1) := by decide +kernel
theorem dX6_init_68 : decode cX6_init 68 = .ok (.iconst 2, 1) := by decide +kernel
theorem dX6_init_69 : decode cX6_init 69 = .ok (.newarray .boolean, 2) := by decide +kernel
theorem dX6_init_71 : decode cX6_init 71 = .ok (.putfield 37, 3) := by decide +kernel
theorem dX6_init_74 : decode cX6_init 74 = .ok (.iconst 0, 1) := by decide +kernel
theorem dX6_init_75 : decode cX6_init 75 = .ok (.istore_n 1, 1) := by decide +kernel
theorem dX6_init_76 : decode cX6_init 76 = .ok (.iload_n 1, 1) := by decide +kernel
theorem dX6_init_77 : decode cX6_init 77 = .ok (.bipush 84, 2) := by decide +kernel
theorem dX6_init_79 : decode cX6_init 79 = .ok (.if_icmp .ge 16, 3) := by decide +kernel
theorem dX6_init_82 : decode cX6_init 82 = .ok (.aload_n 0, 1) := by decide +kernel
theorem dX6_init_83 : decode cX6_init 83 = .ok (.getfield 17, 3) := by decide +kernel
theorem dX6_init_86 : decode cX6_init 86 = .ok (.iload_n 1, 1) := by decide +kernel
theorem dX6_init_87 : decode cX6_init 87 = .ok (.iconst 1, 1) := by decide +kernel
theorem dX6_init_88 : decode cX6_init 88 = .ok (.iastore, 1) := by decide +kernel
theorem dX6_init_89 : decode cX6_init 89 = .ok (.iinc 1 1, 3) := by decide +kernel
theorem dX6_init_92 : decode cX6_init 92 = .ok (.goto (-16), 3) := by decide +kernel
theorem dX6_init_95 : decode cX6_init 95 = .ok (.return_, 1) := by decide +kernel
theorem dX6_in_0 : decode cX6_in 0 = .ok (.iload_n 0, 1) := by decide +kernel
theorem dX6_in_1 : decode cX6_in 1 = .ok (.iload_n 1, 1) := by decide +kernel
theorem dX6_in_2 : decode cX6_in 2 = .ok (.if_icmp .lt 12, 3) := by decide +kernel
theorem dX6_in_5 : decode cX6_in 5 = .ok (.iload_n 0, 1) := by decide +kernel
theorem dX6_in_6 : decode cX6_in 6 = .ok (.iload_n 2, 1) := by decide +kernel
theorem dX6_in_7 : decode cX6_in 7 = .ok (.if_icmp .gt 7, 3) := by decide +kernel
theorem dX6_in_10 : decode cX6_in 10 = .ok (.iconst 1, 1) := by decide +kernel
theorem dX6_in_11 : decode cX6_in 11 = .ok (.goto 4, 3) := by decide +kernel
theorem dX6_in_14 : decode cX6_in 14 = .ok (.iconst 0, 1) := by decide +kernel
theorem dX6_in_15 : decode cX6_in 15 = .ok (.ireturn, 1) := by decide +kernel
theorem dX6_isSlot_0 : decode cX6_isSlot 0 = .ok (.iload_n 0, 1) := by decide +kernel
theorem dX6_isSlot_1 : decode cX6_isSlot 1 = .ok (.iconst 0, 1) := by decide +kernel
theorem dX6_isSlot_2 : decode cX6_isSlot 2 = .ok (.iconst 5, 1) := by decide +kernel
theorem dX6_isSlot_3 : decode cX6_isSlot 3 = .ok (.invokestatic 40, 3) := by decide +kernel
theorem dX6_isSlot_6 : decode cX6_isSlot 6 = .ok (.ireturn, 1) := by decide +kernel
theorem dX6_isIn_0 : decode cX6_isIn 0 = .ok (.aload_n 0, 1) := by decide +kernel
theorem dX6_isIn_1 : decode cX6_isIn 1 = .ok (.getfield 13, 3) := by decide +kernel
theorem dX6_isIn_4 : decode cX6_isIn 4 = .ok (.iload_n 1, 1) := by decide +kernel
theorem dX6_isIn_5 : decode cX6_isIn 5 = .ok (.iaload, 1) := by decide +kernel
theorem dX6_isIn_6 : decode cX6_isIn 6 = .ok (.istore_n 3, 1) := by decide +kernel
theorem dX6_isIn_7 : decode cX6_isIn 7 = .ok (.aload_n 0, 1) := by decide +kernel
theorem dX6_isIn_8 : decode cX6_isIn 8 = .ok (.getfield 17, 3) := by decide +kernel
theorem dX6_isIn_11 : decode cX6_isIn 11 = .ok (.iload_n 1, 1) := by decide +kernel
theorem dX6_isIn_12 : decode cX6_isIn 12 = .ok (.iaload, 1) := by decide +kernel
theorem dX6_isIn_13 : decode cX6_isIn 13 = .ok (.istore 4, 2) := by decide +kernel
theorem dX6_isIn_15 : decode cX6_isIn 15 = .ok (.iload_n 2, 1) := by decide +kernel
theorem dX6_isIn_16 : decode cX6_isIn 16 = .ok (.iload_n 3, 1) := by decide +kernel
theorem dX6_isIn_17 : decode cX6_isIn 17 = .ok (.iload 4, 2) := by decide +kernel
theorem dX6_isIn_19 : decode cX6_isIn 19 = .ok (.iadd, 1) := by decide +kernel
theorem dX6_isIn_20 : decode cX6_isIn 20 = .ok (.if_icmp .ge 7, 3) := by decide +kernel
theorem dX6_isIn_23 : decode cX6_isIn 23 = .ok (.iload_n 2, 1) := by decide +kernel
theorem dX6_isIn_24 : decode cX6_isIn 24 = .ok (.goto 11, 3) := by decide +kernel
theorem dX6_isIn_27 : decode cX6_isIn 27 = .ok (.iload_n 3, 1) := by decide +kernel
theorem dX6_isIn_28 : decode cX6_isIn 28 = .ok (.iload_n 2, 1) := by decide +kernel
theorem dX6_isIn_29 : decode cX6_isIn 29 = .ok (.iload_n 3, 1) := by decide +kernel
theorem dX6_isIn_30 : decode cX6_isIn 30 = .ok (.isub, 1) := by decide +kernel
theorem dX6_isIn_31 : decode cX6_isIn 31 = .ok (.iload 4, 2) := by decide +kernel
theorem dX6_isIn_33 : decode cX6_isIn 33 = .ok (.irem, 1) := by decide +kernel
theorem dX6_isIn_34 : decode cX6_isIn 34 = .ok (.iadd, 1) := by decide +kernel
theorem dX6_isIn_35 : decode cX6_isIn 35 = .ok (.istore 5, 2) := by decide +kernel
theorem dX6_isIn_37 : decode cX6_isIn 37 = .ok (.aload_n 0, 1) := by decide +kernel
theorem dX6_isIn_38 : decode cX6_isIn 38 = .ok (.getfield 20, 3) := by decide +kernel
theorem dX6_isIn_41 : decode cX6_isIn 41 = .ok (.iconst 3, 1) := by decide +kernel
theorem dX6_isIn_42 : decode cX6_isIn 42 = .ok (.iload_n 1, 1) := by decide +kernel
theorem dX6_isIn_43 : decode cX6_isIn 43 = .ok (.imul, 1) := by decide +kernel
theorem dX6_isIn_44 : decode cX6_isIn 44 = .ok (.iload 5, 2) := by decide +kernel
theorem dX6_isIn_46 : decode cX6_isIn 46 = .ok (.bipush 64, 2) := by decide +kernel
theorem dX6_isIn_48 : decode cX6_isIn 48 = .ok (.idiv, 1) := by decide +kernel
theorem dX6_isIn_49 : decode cX6_isIn 49 = .ok (.iadd, 1) := by decide +kernel
theorem dX6_isIn_50 : decode cX6_isIn 50 = .ok (.laload, 1) := by decide +kernel
theorem dX6_isIn_51 : decode cX6_isIn 51 = .ok (.iload 5, 2) := by decide +kernel
theorem dX6_isIn_53 : decode cX6_isIn 53 = .ok (.bipush 64, 2) := by decide +kernel
theorem dX6_isIn_55 : decode cX6_isIn 55 = .ok (.irem, 1) := by decide +kernel
theorem dX6_isIn_56 : decode cX6_isIn 56 = .ok (.lshr, 1) := by decide +kernel
theorem dX6_isIn_57 : decode cX6_isIn 57 = .ok (.lconst 1, 1) := by decide +kernel
theorem dX6_isIn_58 : decode cX6_isIn 58 = .ok (.land, 1) := by decide +kernel
theorem dX6_isIn_59 : decode cX6_isIn 59 = .ok (.lconst 1, 1) := by decide +kernel
theorem dX6_isIn_60 : decode cX6_isIn 60 = .ok (.lcmp, 1) := by decide +kernel
theorem dX6_isIn_61 : decode cX6_isIn 61 = .ok (.ifCond .ne 7, 3) := by decide +kernel
theorem dX6_isIn_64 : decode cX6_isIn 64 = .ok (.iconst 1, 1) := by decide +kernel
theorem dX6_isIn_65 : decode cX6_isIn 65 = .ok (.goto 4, 3) := by decide +kernel
theorem dX6_isIn_68 : decode cX6_isIn 68 = .ok (.iconst 0, 1) := by decide +kernel
theorem dX6_isIn_69 : decode cX6_isIn 69 = .ok (.ireturn, 1) := by decide +kernel
theorem dX6_copy_0 : decode cX6_copy 0 = .ok (.aload_n 0, 1) := by decide +kernel
theorem dX6_copy_1 : decode cX6_copy 1 = .ok (.getfield 13, 3) := by decide +kernel
theorem dX6_copy_4 : decode cX6_copy 4 = .ok (.iload_n 2, 1) := by decide +kernel
theorem dX6_copy_5 : decode cX6_copy 5 = .ok (.aload_n 0, 1) := by decide +kernel
theorem dX6_copy_6 : decode cX6_copy 6 = .ok (.getfield 13, 3) := by decide +kernel
theorem dX6_copy_9 : decode cX6_copy 9 = .ok (.iload_n 1, 1) := by decide +kernel
theorem dX6_copy_10 : decode cX6_copy 10 = .ok (.iaload, 1) := by decide +kernel
theorem dX6_copy_11 : decode cX6_copy 11 = .ok (.iastore, 1) := by decide +kernel
theorem dX6_copy_12 : decode cX6_copy 12 = .ok (.aload_n 0, 1) := by decide +kernel
theorem dX6_copy_13 : decode cX6_copy 13 = .ok (.getfield 17, 3) := by decide +kernel
theorem dX6_copy_16 : decode cX6_copy 16 = .ok (.iload_n 2, 1) := by decide +kernel
theorem dX6_copy_17 : decode cX6_copy 17 = .ok (.aload_n 0, 1) := by decide +kernel
theorem dX6_copy_18 : decode cX6_copy 18 = .ok (.getfield 17, 3) := by decide +kernel
theorem dX6_copy_21 : decode cX6_copy 21 = .ok (.iload_n 1, 1) := by decide +kernel
theorem dX6_copy_22 : decode cX6_copy 22 = .ok (.iaload, 1) := by decide +kernel
theorem dX6_copy_23 : decode cX6_copy 23 = .ok (.iastore, 1) := by decide +kernel
theorem dX6_copy_24 : decode cX6_copy 24 = .ok (.iconst 0, 1) := by decide +kernel
theorem dX6_copy_25 : decode cX6_copy 25 = .ok (.istore_n 3, 1) := by decide +kernel
theorem dX6_copy_26 : decode cX6_copy 26 = .ok (.iload_n 3, 1) := by decide +kernel
theorem dX6_copy_27 : decode cX6_copy 27 = .ok (.iconst 3, 1) := by decide +kernel
theorem dX6_copy_28 : decode cX6_copy 28 = .ok (.if_icmp .ge 29, 3) := by decide +kernel
theorem dX6_copy_31 : decode cX6_copy 31 = .ok (.aload_n 0, 1) := by decide +kernel
theorem dX6_copy_32 : decode cX6_copy 32 = .ok (.getfield 20, 3) := by decide +kernel
theorem dX6_copy_35 : decode cX6_copy 35 = .ok (.iconst 3, 1) := by decide +kernel
theorem dX6_copy_36 : decode cX6_copy 36 = .ok (.iload_n 2, 1) := by decide +kernel
theorem dX6_copy_37 : decode cX6_copy 37 = .ok (.imul, 1) := by decide +kernel
theorem dX6_copy_38 : decode cX6_copy 38 = .ok (.iload_n 3, 1) := by decide +kernel
theorem dX6_copy_39 : decode cX6_copy 39 = .ok (.iadd, 1) := by decide +kernel
theorem dX6_copy_40 : decode cX6_copy 40 = .ok (.aload_n 0, 1) := by decide +kernel
theorem dX6_copy_41 : decode cX6_copy 41 = .ok (.getfield 20, 3) := by decide +kernel
theorem dX6_copy_44 : decode cX6_copy 44 = .ok (.iconst 3, 1) := by decide +kernel
theorem dX6_copy_45 : decode cX6_copy 45 = .ok (.iload_n 1, 1) := by decide +kernel
theorem dX6_copy_46 : decode cX6_copy 46 = .ok (.imul, 1) := by decide +kernel
theorem dX6_copy_47 : decode cX6_copy 47 = .ok (.iload_n 3, 1) := by decide +kernel
theorem dX6_copy_48 : decode cX6_copy 48 = .ok (.iadd, 1) := by decide +kernel
theorem dX6_copy_49 : decode cX6_copy 49 = .ok (.laload, 1) := by decide +kernel
theorem dX6_copy_50 : decode cX6_copy 50 = .ok (.lastore, 1) := by decide +kernel
theorem dX6_copy_51 : decode cX6_copy 51 = .ok (.iinc 3 1, 3) := by decide +kernel
theorem dX6_copy_54 : decode cX6_copy 54 = .ok (.goto (-28), 3) := by decide +kernel
theorem dX6_copy_57 : decode cX6_copy 57 = .ok (.return_, 1) := by decide +kernel
theorem dX6_areSame_0 : decode cX6_areSame 0 = .ok (.aload_n 0, 1) := by decide +kernel
theorem dX6_areSame_1 : decode cX6_areSame 1 = .ok (.getfield 13, 3) := by decide +kernel
theorem dX6_areSame_4 : decode cX6_areSame 4 = .ok (.iload_n 1, 1) := by decide +kernel
theorem dX6_areSame_5 : decode cX6_areSame 5 = .ok (.iaload, 1) := by decide +kernel
theorem dX6_areSame_6 : decode cX6_areSame 6 = .ok (.aload_n 0, 1) := by decide +kernel
theorem dX6_areSame_7 : decode cX6_areSame 7 = .ok (.getfield 13, 3) := by decide +kernel
theorem dX6_areSame_10 : decode cX6_areSame 10 = .ok (.iload_n 2, 1) := by decide +kernel
theorem dX6_areSame_11 : decode cX6_areSame 11 = .ok (.iaload, 1) := by decide +kernel
theorem dX6_areSame_12 : decode cX6_areSame 12 = .ok (.if_icmp .ne 22, 3) := by decide +kernel
theorem dX6_areSame_15 : decode cX6_areSame 15 = .ok (.aload_n 0, 1) := by decide +kernel
theorem dX6_areSame_16 : decode cX6_areSame 16 = .ok (.getfield 17, 3) := by decide +kernel
theorem dX6_areSame_19 : decode cX6_areSame 19 = .ok (.iload_n 1, 1) := by decide +kernel
theorem dX6_areSame_20 : decode cX6_areSame 20 = .ok (.iaload, 1) := by decide +kernel
theorem dX6_areSame_21 : decode cX6_areSame 21 = .ok (.aload_n 0, 1) := by decide +kernel
theorem dX6_areSame_22 : decode cX6_areSame 22 = .ok (.getfield 17, 3) := by decide +kernel
theorem dX6_areSame_25 : decode cX6_areSame 25 = .ok (.iload_n 2, 1) := by decide +kernel
theorem dX6_areSame_26 : decode cX6_areSame 26 = .ok (.iaload, 1) := by decide +kernel
theorem dX6_areSame_27 : decode cX6_areSame 27 = .ok (.if_icmp .ne 7, 3) := by decide +kernel
theorem dX6_areSame_30 : decode cX6_areSame 30 = .ok (.iconst 1, 1) := by decide +kernel
theorem dX6_areSame_31 : decode cX6_areSame 31 = .ok (.goto 4, 3) := by decide +kernel
theorem dX6_areSame_34 : decode cX6_areSame 34 = .ok (.iconst 0, 1) := by decide +kernel
theorem dX6_areSame_35 : decode cX6_areSame 35 = .ok (.istore_n 3, 1) := by decide +kernel
theorem dX6_areSame_36 : decode cX6_areSame 36 = .ok (.iconst 0, 1) := by decide +kernel
theorem dX6_areSame_37 : decode cX6_areSame 37 = .ok (.istore 4, 2) := by decide +kernel
theorem dX6_areSame_39 : decode cX6_areSame 39 = .ok (.iload 4, 2) := by decide +kernel
theorem dX6_areSame_41 : decode cX6_areSame 41 = .ok (.iconst 3, 1) := by decide +kernel
theorem dX6_areSame_42 : decode cX6_areSame 42 = .ok (.if_icmp .ge 45, 3) := by decide +kernel
theorem dX6_areSame_45 : decode cX6_areSame 45 = .ok (.iload_n 3, 1) := by decide +kernel
theorem dX6_areSame_46 : decode cX6_areSame 46 = .ok (.ifCond .eq 33, 3) := by decide +kernel
theorem dX6_areSame_49 : decode cX6_areSame 49 = .ok (.aload_n 0, 1) := by decide +kernel
theorem dX6_areSame_50 : decode cX6_areSame 50 = .ok (.getfield 20, 3) := by decide +kernel
theorem dX6_areSame_53 : decode cX6_areSame 53 = .ok (.iconst 3, 1) := by decide +kernel
theorem dX6_areSame_54 : decode cX6_areSame 54 = .ok (.iload_n 1, 1) := by decide +kernel
theorem dX6_areSame_55 : decode cX6_areSame 55 = .ok (.imul, 1) := by decide +kernel
theorem dX6_areSame_56 : decode cX6_areSame 56 = .ok (.iload 4, 2) := by decide +kernel
theorem dX6_areSame_58 : decode cX6_areSame 58 = .ok (.iadd, 1) := by decide +kernel
theorem dX6_areSame_59 : decode cX6_areSame 59 = .ok (.laload, 1) := by decide +kernel
theorem dX6_areSame_60 : decode cX6_areSame 60 = .ok (.aload_n 0, 1) := by decide +kernel
theorem dX6_areSame_61 : decode cX6_areSame 61 = .ok (.getfield 20, 3) := by decide +kernel
theorem dX6_areSame_64 : decode cX6_areSame 64 = .ok (.iconst 3, 1) := by decide +kernel
theorem dX6_areSame_65 : decode cX6_areSame 65 = .ok (.iload_n 2, 1) := by decide +kernel
theorem dX6_areSame_66 : decode cX6_areSame 66 = .ok (.imul, 1) := by decide +kernel
theorem dX6_areSame_67 : decode cX6_areSame 67 = .ok (.iload 4, 2) := by decide +kernel
theorem dX6_areSame_69 : decode cX6_areSame 69 = .ok (.iadd, 1) := by decide +kernel
theorem dX6_areSame_70 : decode cX6_areSame 70 = .ok (.laload, 1) := by decide +kernel
theorem dX6_areSame_71 : decode cX6_areSame 71 = .ok (.lcmp, 1) := by decide +kernel
theorem dX6_areSame_72 : decode cX6_areSame 72 = .ok (.ifCond .ne 7, 3) := by decide +kernel
theorem dX6_areSame_75 : decode cX6_areSame 75 = .ok (.iconst 1, 1) := by decide +kernel
theorem dX6_areSame_76 : decode cX6_areSame 76 = .ok (.goto 4, 3) := by decide +kernel
theorem dX6_areSame_79 : decode cX6_areSame 79 = .ok (.iconst 0, 1) := by decide +kernel
theorem dX6_areSame_80 : decode cX6_areSame 80 = .ok (.istore_n 3, 1) := by decide +kernel
theorem dX6_areSame_81 : decode cX6_areSame 81 = .ok (.iinc 4 1, 3) := by decide +kernel
theorem dX6_areSame_84 : decode cX6_areSame 84 = .ok (.goto (-45), 3) := by decide +kernel
theorem dX6_areSame_87 : decode cX6_areSame 87 = .ok (.iload_n 3, 1) := by decide +kernel
theorem dX6_areSame_88 : decode cX6_areSame 88 = .ok (.ireturn, 1) := by decide +kernel
theorem dX6_inRow_0 : decode cX6_inRow 0 = .ok (.aload_n 0, 1) := by decide +kernel
theorem dX6_inRow_1 : decode cX6_inRow 1 = .ok (.getfield 24, 3) := by decide +kernel
theorem dX6_inRow_4 : decode cX6_inRow 4 = .ok (.iload_n 1, 1) := by decide +kernel
theorem dX6_inRow_5 : decode cX6_inRow 5 = .ok (.aload_n 0, 1) := by decide +kernel
theorem dX6_inRow_6 : decode cX6_inRow 6 = .ok (.getfield 44, 3) := by decide +kernel
theorem dX6_inRow_9 : decode cX6_inRow 9 = .ok (.aload_n 0, 1) := by decide +kernel
theorem dX6_inRow_10 : decode cX6_inRow 10 = .ok (.getfield 47, 3) := by decide +kernel
theorem dX6_inRow_13 : decode cX6_inRow 13 = .ok (.iadd, 1) := by decide +kernel
theorem dX6_inRow_14 : decode cX6_inRow 14 = .ok (.if_icmp .ge 7, 3) := by decide +kernel
theorem dX6_inRow_17 : decode cX6_inRow 17 = .ok (.iload_n 1, 1) := by decide +kernel
theorem dX6_inRow_18 : decode cX6_inRow 18 = .ok (.goto 19, 3) := by decide +kernel
theorem dX6_inRow_21 : decode cX6_inRow 21 = .ok (.aload_n 0, 1) := by decide +kernel
theorem dX6_inRow_22 : decode cX6_inRow 22 = .ok (.getfield 44, 3) := by decide +kernel
theorem dX6_inRow_25 : decode cX6_inRow 25 = .ok (.iload_n 1, 1) := by decide +kernel
theorem dX6_inRow_26 : decode cX6_inRow 26 = .ok (.aload_n 0, 1) := by decide +kernel
theorem dX6_inRow_27 : decode cX6_inRow 27 = .ok (.getfield 44, 3) := by decide +kernel
theorem dX6_inRow_30 : decode cX6_inRow 30 = .ok (.isub, 1) := by decide +kernel
theorem dX6_inRow_31 : decode cX6_inRow 31 = .ok (.aload_n 0, 1) := by decide +kernel
theorem dX6_inRow_32 : decode cX6_inRow 32 = .ok (.getfield 47, 3) := by decide +kernel
theorem dX6_inRow_35 : decode cX6_inRow 35 = .ok (.irem, 1) := by decide +kernel
theorem dX6_inRow_36 : decode cX6_inRow 36 = .ok (.iadd, 1) := by decide +kernel
theorem dX6_inRow_37 : decode cX6_inRow 37 = .ok (.baload, 1) := by decide +kernel
theorem dX6_inRow_38 : decode cX6_inRow 38 = .ok (.ireturn, 1) := by decide +kernel
theorem dX6_shorten_0 : decode cX6_shorten 0 = .ok (.iconst 1, 1) := by decide +kernel
theorem dX6_shorten_1 : decode cX6_shorten 1 = .ok (.istore_n 1, 1) := by decide +kernel
theorem dX6_shorten_2 : decode cX6_shorten 2 = .ok (.aload_n 0, 1) := by decide +kernel
theorem dX6_shorten_3 : decode cX6_shorten 3 = .ok (.iload_n 1, 1) := by decide +kernel
theorem dX6_shorten_4 : decode cX6_shorten 4 = .ok (.invokevirtual 50, 3) := by decide +kernel
theorem dX6_shorten_7 : decode cX6_shorten 7 = .ok (.ifCond .ne 9, 3) := by decide +kernel
theorem dX6_shorten_10 : decode cX6_shorten 10 = .ok (.iinc 1 1, 3) := by decide +kernel
theorem dX6_shorten_13 : decode cX6_shorten 13 = .ok (.goto (-11), 3) := by decide +kernel
theorem dX6_shorten_16 : decode cX6_shorten 16 = .ok (.aload_n 0, 1) := by decide +kernel
theorem dX6_shorten_17 : decode cX6_shorten 17 = .ok (.getfield 44, 3) := by decide +kernel
theorem dX6_shorten_20 : decode cX6_shorten 20 = .ok (.istore_n 2, 1) := by decide +kernel
theorem dX6_shorten_21 : decode cX6_shorten 21 = .ok (.iload_n 2, 1) := by decide +kernel
theorem dX6_shorten_22 : decode cX6_shorten 22 = .ok (.ifCond .le 29, 3) := by decide +kernel
theorem dX6_shorten_25 : decode cX6_shorten 25 = .ok (.aload_n 0, 1) := by decide +kernel
theorem dX6_shorten_26 : decode cX6_shorten 26 = .ok (.getfield 24, 3) := by decide +kernel
theorem dX6_shorten_29 : decode cX6_shorten 29 = .ok (.iload_n 2, 1) := by decide +kernel
theorem dX6_shorten_30 : decode cX6_shorten 30 = .ok (.iconst 1, 1) := by decide +kernel
theorem dX6_shorten_31 : decode cX6_shorten 31 = .ok (.isub, 1) := by decide +kernel
theorem dX6_shorten_32 : decode cX6_shorten 32 = .ok (.baload, 1) := by decide +kernel
theorem dX6_shorten_33 : decode cX6_shorten 33 = .ok (.aload_n 0, 1) := by decide +kernel
theorem dX6_shorten_34 : decode cX6_shorten 34 = .ok (.iload_n 2, 1) := by decide +kernel
theorem dX6_shorten_35 : decode cX6_shorten 35 = .ok (.iconst 1, 1) := by decide +kernel
theorem dX6_shorten_36 : decode cX6_shorten 36 = .ok (.isub, 1) := by decide +kernel
theorem dX6_shorten_37 : decode cX6_shorten 37 = .ok (.iload_n 1, 1) := by decide +kernel
theorem dX6_shorten_38 : decode cX6_shorten 38 = .ok (.iadd, 1) := by decide +kernel
theorem dX6_shorten_39 : decode cX6_shorten 39 = .ok (.invokevirtual 54, 3) := by decide +kernel
theorem dX6_shorten_42 : decode cX6_shorten 42 = .ok (.if_icmp .ne 9, 3) := by decide +kernel
theorem dX6_shorten_45 : decode cX6_shorten 45 = .ok (.iinc 2 (-1), 3) := by decide +kernel
theorem dX6_shorten_48 : decode cX6_shorten 48 = .ok (.goto (-27), 3) := by decide +kernel
theorem dX6_shorten_51 : decode cX6_shorten 51 = .ok (.aload_n 0, 1) := by decide +kernel
theorem dX6_shorten_52 : decode cX6_shorten 52 = .ok (.iload_n 2, 1) := by decide +kernel
theorem dX6_shorten_53 : decode cX6_shorten 53 = .ok (.putfield 44, 3) := by decide +kernel
theorem dX6_shorten_56 : decode cX6_shorten 56 = .ok (.aload_n 0, 1) := by decide +kernel
theorem dX6_shorten_57 : decode cX6_shorten 57 = .ok (.iload_n 1, 1) := by decide +kernel
theorem dX6_shorten_58 : decode cX6_shorten 58 = .ok (.putfield 47, 3) := by decide +kernel
theorem dX6_shorten_61 : decode cX6_shorten 61 = .ok (.return_, 1) := by decide +kernel
theorem dX6_comesRound_0 : decode cX6_comesRound 0 = .ok (.aload_n 0, 1) := by decide +kernel
theorem dX6_comesRound_1 : decode cX6_comesRound 1 = .ok (.getfield 47, 3) := by decide +kernel
theorem dX6_comesRound_4 : decode cX6_comesRound 4 = .ok (.iload_n 1, 1) := by decide +kernel
theorem dX6_comesRound_5 : decode cX6_comesRound 5 = .ok (.irem, 1) := by decide +kernel
theorem dX6_comesRound_6 : decode cX6_comesRound 6 = .ok (.ifCond .eq 5, 3) := by decide +kernel
theorem dX6_comesRound_9 : decode cX6_comesRound 9 = .ok (.iconst 0, 1) := by decide +kernel
theorem dX6_comesRound_10 : decode cX6_comesRound 10 = .ok (.ireturn, 1) := by decide +kernel
theorem dX6_comesRound_11 : decode cX6_comesRound 11 = .ok (.iconst 1, 1) := by decide +kernel
theorem dX6_comesRound_12 : decode cX6_comesRound 12 = .ok (.istore_n 2, 1) := by decide +kernel
theorem dX6_comesRound_13 : decode cX6_comesRound 13 = .ok (.iconst 0, 1) := by decide +kernel
theorem dX6_comesRound_14 : decode cX6_comesRound 14 = .ok (.istore_n 3, 1) := by decide +kernel
theorem dX6_comesRound_15 : decode cX6_comesRound 15 = .ok (.iload_n 3, 1) := by decide +kernel
theorem dX6_comesRound_16 : decode cX6_comesRound 16 = .ok (.aload_n 0, 1) := by decide +kernel
theorem dX6_comesRound_17 : decode cX6_comesRound 17 = .ok (.getfield 47, 3) := by decide +kernel
theorem dX6_comesRound_20 : decode cX6_comesRound 20 = .ok (.if_icmp .ge 51, 3) := by decide +kernel
theorem dX6_comesRound_23 : decode cX6_comesRound 23 = .ok (.iload_n 2, 1) := by decide +kernel
theorem dX6_comesRound_24 : decode cX6_comesRound 24 = .ok (.ifCond .eq 39, 3) := by decide +kernel
theorem dX6_comesRound_27 : decode cX6_comesRound 27 = .ok (.aload_n 0, 1) := by decide +kernel
theorem dX6_comesRound_28 : decode cX6_comesRound 28 = .ok (.getfield 24, 3) := by decide +kernel
theorem dX6_comesRound_31 : decode cX6_comesRound 31 = .ok (.aload_n 0, 1) := by decide +kernel
theorem dX6_comesRound_32 : decode cX6_comesRound 32 = .ok (.getfield 44, 3) := by decide +kernel
theorem dX6_comesRound_35 : decode cX6_comesRound 35 = .ok (.iload_n 3, 1) := by decide +kernel
theorem dX6_comesRound_36 : decode cX6_comesRound 36 = .ok (.iadd, 1) := by decide +kernel
theorem dX6_comesRound_37 : decode cX6_comesRound 37 = .ok (.baload, 1) := by decide +kernel
theorem dX6_comesRound_38 : decode cX6_comesRound 38 = .ok (.aload_n 0, 1) := by decide +kernel
theorem dX6_comesRound_39 : decode cX6_comesRound 39 = .ok (.getfield 24, 3) := by decide +kernel
theorem dX6_comesRound_42 : decode cX6_comesRound 42 = .ok (.aload_n 0, 1) := by decide +kernel
theorem dX6_comesRound_43 : decode cX6_comesRound 43 = .ok (.getfield 44, 3) := by decide +kernel
theorem dX6_comesRound_46 : decode cX6_comesRound 46 = .ok (.iload_n 3, 1) := by decide +kernel
theorem dX6_comesRound_47 : decode cX6_comesRound 47 = .ok (.iload_n 1, 1) := by decide +kernel
theorem dX6_comesRound_48 : decode cX6_comesRound 48 = .ok (.iadd, 1) := by decide +kernel
theorem dX6_comesRound_49 : decode cX6_comesRound 49 = .ok (.aload_n 0, 1) := by decide +kernel
theorem dX6_comesRound_50 : decode cX6_comesRound 50 = .ok (.getfield 47, 3) := by decide +kernel
theorem dX6_comesRound_53 : decode cX6_comesRound 53 = .ok (.irem, 1) := by decide +kernel
theorem dX6_comesRound_54 : decode cX6_comesRound 54 = .ok (.iadd, 1) := by decide +kernel
theorem dX6_comesRound_55 : decode cX6_comesRound 55 = .ok (.baload, 1) := by decide +kernel
theorem dX6_comesRound_56 : decode cX6_comesRound 56 = .ok (.if_icmp .ne 7, 3) := by decide +kernel
theorem dX6_comesRound_59 : decode cX6_comesRound 59 = .ok (.iconst 1, 1) := by decide +kernel
theorem dX6_comesRound_60 : decode cX6_comesRound 60 = .ok (.goto 4, 3) := by decide +kernel
theorem dX6_comesRound_63 : decode cX6_comesRound 63 = .ok (.iconst 0, 1) := by decide +kernel
theorem dX6_comesRound_64 : decode cX6_comesRound 64 = .ok (.istore_n 2, 1) := by decide +kernel
theorem dX6_comesRound_65 : decode cX6_comesRound 65 = .ok (.iinc 3 1, 3) := by decide +kernel
theorem dX6_comesRound_68 : decode cX6_comesRound 68 = .ok (.goto (-53), 3) := by decide +kernel
theorem dX6_comesRound_71 : decode cX6_comesRound 71 = .ok (.iload_n 2, 1) := by decide +kernel
theorem dX6_comesRound_72 : decode cX6_comesRound 72 = .ok (.ireturn, 1) := by decide +kernel
theorem dX6_isKept_0 : decode cX6_isKept 0 = .ok (.aload_n 0, 1) := by decide +kernel
theorem dX6_isKept_1 : decode cX6_isKept 1 = .ok (.invokevirtual 57, 3) := by decide +kernel
theorem dX6_isKept_4 : decode cX6_isKept 4 = .ok (.aload_n 0, 1) := by decide +kernel
theorem dX6_isKept_5 : decode cX6_isKept 5 = .ok (.getfield 47, 3) := by decide +kernel
theorem dX6_isKept_8 : decode cX6_isKept 8 = .ok (.bipush 60, 2) := by decide +kernel
theorem dX6_isKept_10 : decode cX6_isKept 10 = .ok (.if_icmp .gt 12, 3) := by decide +kernel
theorem dX6_isKept_13 : decode cX6_isKept 13 = .ok (.aload_n 0, 1) := by decide +kernel
theorem dX6_isKept_14 : decode cX6_isKept 14 = .ok (.getfield 44, 3) := by decide +kernel
theorem dX6_isKept_17 : decode cX6_isKept 17 = .ok (.bipush 120, 2) := by decide +kernel
theorem dX6_isKept_19 : decode cX6_isKept 19 = .ok (.if_icmp .le 5, 3) := by decide +kernel
theorem dX6_isKept_22 : decode cX6_isKept 22 = .ok (.iconst 0, 1) := by decide +kernel
theorem dX6_isKept_23 : decode cX6_isKept 23 = .ok (.ireturn, 1) := by decide +kernel
theorem dX6_isKept_24 : decode cX6_isKept 24 = .ok (.aload_n 0, 1) := by decide +kernel
theorem dX6_isKept_25 : decode cX6_isKept 25 = .ok (.getfield 13, 3) := by decide +kernel
theorem dX6_isKept_28 : decode cX6_isKept 28 = .ok (.iload_n 1, 1) := by decide +kernel
theorem dX6_isKept_29 : decode cX6_isKept 29 = .ok (.aload_n 0, 1) := by decide +kernel
theorem dX6_isKept_30 : decode cX6_isKept 30 = .ok (.getfield 44, 3) := by decide +kernel
theorem dX6_isKept_33 : decode cX6_isKept 33 = .ok (.iastore, 1) := by decide +kernel
theorem dX6_isKept_34 : decode cX6_isKept 34 = .ok (.aload_n 0, 1) := by decide +kernel
theorem dX6_isKept_35 : decode cX6_isKept 35 = .ok (.getfield 17, 3) := by decide +kernel
theorem dX6_isKept_38 : decode cX6_isKept 38 = .ok (.iload_n 1, 1) := by decide +kernel
theorem dX6_isKept_39 : decode cX6_isKept 39 = .ok (.aload_n 0, 1) := by decide +kernel
theorem dX6_isKept_40 : decode cX6_isKept 40 = .ok (.getfield 47, 3) := by decide +kernel
theorem dX6_isKept_43 : decode cX6_isKept 43 = .ok (.iastore, 1) := by decide +kernel
theorem dX6_isKept_44 : decode cX6_isKept 44 = .ok (.iconst 0, 1) := by decide +kernel
theorem dX6_isKept_45 : decode cX6_isKept 45 = .ok (.istore_n 2, 1) := by decide +kernel
theorem dX6_isKept_46 : decode cX6_isKept 46 = .ok (.iload_n 2, 1) := by decide +kernel
theorem dX6_isKept_47 : decode cX6_isKept 47 = .ok (.iconst 3, 1) := by decide +kernel
theorem dX6_isKept_48 : decode cX6_isKept 48 = .ok (.if_icmp .ge 20, 3) := by decide +kernel
theorem dX6_isKept_51 : decode cX6_isKept 51 = .ok (.aload_n 0, 1) := by decide +kernel
theorem dX6_isKept_52 : decode cX6_isKept 52 = .ok (.getfield 20, 3) := by decide +kernel
theorem dX6_isKept_55 : decode cX6_isKept 55 = .ok (.iconst 3, 1) := by decide +kernel
theorem dX6_isKept_56 : decode cX6_isKept 56 = .ok (.iload_n 1, 1) := by decide +kernel
theorem dX6_isKept_57 : decode cX6_isKept 57 = .ok (.imul, 1) := by decide +kernel
theorem dX6_isKept_58 : decode cX6_isKept 58 = .ok (.iload_n 2, 1) := by decide +kernel
theorem dX6_isKept_59 : decode cX6_isKept 59 = .ok (.iadd, 1) := by decide +kernel
theorem dX6_isKept_60 : decode cX6_isKept 60 = .ok (.lconst 0, 1) := by decide +kernel
theorem dX6_isKept_61 : decode cX6_isKept 61 = .ok (.lastore, 1) := by decide +kernel
theorem dX6_isKept_62 : decode cX6_isKept 62 = .ok (.iinc 2 1, 3) := by decide +kernel
theorem dX6_isKept_65 : decode cX6_isKept 65 = .ok (.goto (-19), 3) := by decide +kernel
theorem dX6_isKept_68 : decode cX6_isKept 68 = .ok (.iconst 0, 1) := by decide +kernel
theorem dX6_isKept_69 : decode cX6_isKept 69 = .ok (.istore_n 2, 1) := by decide +kernel
theorem dX6_isKept_70 : decode cX6_isKept 70 = .ok (.iload_n 2, 1) := by decide +kernel
theorem dX6_isKept_71 : decode cX6_isKept 71 = .ok (.aload_n 0, 1) := by decide +kernel
theorem dX6_isKept_72 : decode cX6_isKept 72 = .ok (.getfield 44, 3) := by decide +kernel
theorem dX6_isKept_75 : decode cX6_isKept 75 = .ok (.aload_n 0, 1) := by decide +kernel
theorem dX6_isKept_76 : decode cX6_isKept 76 = .ok (.getfield 47, 3) := by decide +kernel
theorem dX6_isKept_79 : decode cX6_isKept 79 = .ok (.iadd, 1) := by decide +kernel
theorem dX6_isKept_80 : decode cX6_isKept 80 = .ok (.if_icmp .ge 44, 3) := by decide +kernel
theorem dX6_isKept_83 : decode cX6_isKept 83 = .ok (.aload_n 0, 1) := by decide +kernel
theorem dX6_isKept_84 : decode cX6_isKept 84 = .ok (.getfield 20, 3) := by decide +kernel
theorem dX6_isKept_87 : decode cX6_isKept 87 = .ok (.iconst 3, 1) := by decide +kernel
theorem dX6_isKept_88 : decode cX6_isKept 88 = .ok (.iload_n 1, 1) := by decide +kernel
theorem dX6_isKept_89 : decode cX6_isKept 89 = .ok (.imul, 1) := by decide +kernel
theorem dX6_isKept_90 : decode cX6_isKept 90 = .ok (.iload_n 2, 1) := by decide +kernel
theorem dX6_isKept_91 : decode cX6_isKept 91 = .ok (.bipush 64, 2) := by decide +kernel
theorem dX6_isKept_93 : decode cX6_isKept 93 = .ok (.idiv, 1) := by decide +kernel
theorem dX6_isKept_94 : decode cX6_isKept 94 = .ok (.iadd, 1) := by decide +kernel
theorem dX6_isKept_95 : decode cX6_isKept 95 = .ok (.dup2, 1) := by decide +kernel
theorem dX6_isKept_96 : decode cX6_isKept 96 = .ok (.laload, 1) := by decide +kernel
theorem dX6_isKept_97 : decode cX6_isKept 97 = .ok (.aload_n 0, 1) := by decide +kernel
theorem dX6_isKept_98 : decode cX6_isKept 98 = .ok (.getfield 24, 3) := by decide +kernel
theorem dX6_isKept_101 : decode cX6_isKept 101 = .ok (.iload_n 2, 1) := by decide +kernel
theorem dX6_isKept_102 : decode cX6_isKept 102 = .ok (.baload, 1) := by decide +kernel
theorem dX6_isKept_103 : decode cX6_isKept 103 = .ok (.ifCond .eq 12, 3) := by decide +kernel
theorem dX6_isKept_106 : decode cX6_isKept 106 = .ok (.lconst 1, 1) := by decide +kernel
theorem dX6_isKept_107 : decode cX6_isKept 107 = .ok (.iload_n 2, 1) := by decide +kernel
theorem dX6_isKept_108 : decode cX6_isKept 108 = .ok (.bipush 64, 2) := by decide +kernel
theorem dX6_isKept_110 : decode cX6_isKept 110 = .ok (.irem, 1) := by decide +kernel
theorem dX6_isKept_111 : decode cX6_isKept 111 = .ok (.lshl, 1) := by decide +kernel
theorem dX6_isKept_112 : decode cX6_isKept 112 = .ok (.goto 4, 3) := by decide +kernel
theorem dX6_isKept_115 : decode cX6_isKept 115 = .ok (.lconst 0, 1) := by decide +kernel
theorem dX6_isKept_116 : decode cX6_isKept 116 = .ok (.lor, 1) := by decide +kernel
theorem dX6_isKept_117 : decode cX6_isKept 117 = .ok (.lastore, 1) := by decide +kernel
theorem dX6_isKept_118 : decode cX6_isKept 118 = .ok (.iinc 2 1, 3) := by decide +kernel
theorem dX6_isKept_121 : decode cX6_isKept 121 = .ok (.goto (-51), 3) := by decide +kernel
theorem dX6_isKept_124 : decode cX6_isKept 124 = .ok (.iconst 1, 1) := by decide +kernel
theorem dX6_isKept_125 : decode cX6_isKept 125 = .ok (.ireturn, 1) := by decide +kernel
theorem dX6_layRest_0 : decode cX6_layRest 0 = .ok (.aload_n 0, 1) := by decide +kernel
theorem dX6_layRest_1 : decode cX6_layRest 1 = .ok (.aload_n 0, 1) := by decide +kernel
theorem dX6_layRest_2 : decode cX6_layRest 2 = .ok (.getfield 13, 3) := by decide +kernel
theorem dX6_layRest_5 : decode cX6_layRest 5 = .ok (.iload_n 1, 1) := by decide +kernel
theorem dX6_layRest_6 : decode cX6_layRest 6 = .ok (.iaload, 1) := by decide +kernel
theorem dX6_layRest_7 : decode cX6_layRest 7 = .ok (.putfield 44, 3) := by decide +kernel
theorem dX6_layRest_10 : decode cX6_layRest 10 = .ok (.aload_n 0, 1) := by decide +kernel
theorem dX6_layRest_11 : decode cX6_layRest 11 = .ok (.aload_n 0, 1) := by decide +kernel
theorem dX6_layRest_12 : decode cX6_layRest 12 = .ok (.getfield 17, 3) := by decide +kernel
theorem dX6_layRest_15 : decode cX6_layRest 15 = .ok (.iload_n 1, 1) := by decide +kernel
theorem dX6_layRest_16 : decode cX6_layRest 16 = .ok (.iaload, 1) := by decide +kernel
theorem dX6_layRest_17 : decode cX6_layRest 17 = .ok (.putfield 47, 3) := by decide +kernel
theorem dX6_layRest_20 : decode cX6_layRest 20 = .ok (.iconst 0, 1) := by decide +kernel
theorem dX6_layRest_21 : decode cX6_layRest 21 = .ok (.istore 4, 2) := by decide +kernel
theorem dX6_layRest_23 : decode cX6_layRest 23 = .ok (.iload 4, 2) := by decide +kernel
theorem dX6_layRest_25 : decode cX6_layRest 25 = .ok (.aload_n 0, 1) := by decide +kernel
theorem dX6_layRest_26 : decode cX6_layRest 26 = .ok (.getfield 44, 3) := by decide +kernel
theorem dX6_layRest_29 : decode cX6_layRest 29 = .ok (.aload_n 0, 1) := by decide +kernel
theorem dX6_layRest_30 : decode cX6_layRest 30 = .ok (.getfield 47, 3) := by decide +kernel
theorem dX6_layRest_33 : decode cX6_layRest 33 = .ok (.iadd, 1) := by decide +kernel
theorem dX6_layRest_34 : decode cX6_layRest 34 = .ok (.if_icmp .ge 30, 3) := by decide +kernel
theorem dX6_layRest_37 : decode cX6_layRest 37 = .ok (.aload_n 0, 1) := by decide +kernel
theorem dX6_layRest_38 : decode cX6_layRest 38 = .ok (.getfield 24, 3) := by decide +kernel
theorem dX6_layRest_41 : decode cX6_layRest 41 = .ok (.iload 4, 2) := by decide +kernel
theorem dX6_layRest_43 : decode cX6_layRest 43 = .ok (.aload_n 0, 1) := by decide +kernel
theorem dX6_layRest_44 : decode cX6_layRest 44 = .ok (.iload_n 1, 1) := by decide +kernel
theorem dX6_layRest_45 : decode cX6_layRest 45 = .ok (.aload_n 0, 1) := by decide +kernel
theorem dX6_layRest_46 : decode cX6_layRest 46 = .ok (.getfield 7, 3) := by decide +kernel
theorem dX6_layRest_49 : decode cX6_layRest 49 = .ok (.iload 4, 2) := by decide +kernel
theorem dX6_layRest_51 : decode cX6_layRest 51 = .ok (.imul, 1) := by decide +kernel
theorem dX6_layRest_52 : decode cX6_layRest 52 = .ok (.iload_n 2, 1) := by decide +kernel
theorem dX6_layRest_53 : decode cX6_layRest 53 = .ok (.iadd, 1) := by decide +kernel
theorem dX6_layRest_54 : decode cX6_layRest 54 = .ok (.invokevirtual 60, 3) := by decide +kernel
theorem dX6_layRest_57 : decode cX6_layRest 57 = .ok (.bastore, 1) := by decide +kernel
theorem dX6_layRest_58 : decode cX6_layRest 58 = .ok (.iinc 4 1, 3) := by decide +kernel
theorem dX6_layRest_61 : decode cX6_layRest 61 = .ok (.goto (-38), 3) := by decide +kernel
theorem dX6_layRest_64 : decode cX6_layRest 64 = .ok (.aload_n 0, 1) := by decide +kernel
theorem dX6_layRest_65 : decode cX6_layRest 65 = .ok (.iload_n 3, 1) := by decide +kernel
theorem dX6_layRest_66 : decode cX6_layRest 66 = .ok (.invokevirtual 64, 3) := by decide +kernel
theorem dX6_layRest_69 : decode cX6_layRest 69 = .ok (.pop, 1) := by decide +kernel
theorem dX6_layRest_70 : decode cX6_layRest 70 = .ok (.return_, 1) := by decide +kernel
theorem dX6_layMachine_0 : decode cX6_layMachine 0 = .ok (.aload_n 0, 1) := by decide +kernel
theorem dX6_layMachine_1 : decode cX6_layMachine 1 = .ok (.iload_n 1, 1) := by decide +kernel
theorem dX6_layMachine_2 : decode cX6_layMachine 2 = .ok (.bipush 18, 2) := by decide +kernel
theorem dX6_layMachine_4 : decode cX6_layMachine 4 = .ok (.invokevirtual 67, 3) := by decide +kernel
theorem dX6_layMachine_7 : decode cX6_layMachine 7 = .ok (.aload_n 0, 1) := by decide +kernel
theorem dX6_layMachine_8 : decode cX6_layMachine 8 = .ok (.iconst 1, 1) := by decide +kernel
theorem dX6_layMachine_9 : decode cX6_layMachine 9 = .ok (.putfield 71, 3) := by decide +kernel
theorem dX6_layMachine_12 : decode cX6_layMachine 12 = .ok (.iconst 0, 1) := by decide +kernel
theorem dX6_layMachine_13 : decode cX6_layMachine 13 = .ok (.istore_n 2, 1) := by decide +kernel
theorem dX6_layMachine_14 : decode cX6_layMachine 14 = .ok (.iload_n 2, 1) := by decide +kernel
theorem dX6_layMachine_15 : decode cX6_layMachine 15 = .ok (.aload_n 0, 1) := by decide +kernel
theorem dX6_layMachine_16 : decode cX6_layMachine 16 = .ok (.getfield 71, 3) := by decide +kernel
theorem dX6_layMachine_19 : decode cX6_layMachine 19 = .ok (.if_icmp .ge 130, 3) := by decide +kernel
theorem dX6_layMachine_22 : decode cX6_layMachine 22 = .ok (.aload_n 0, 1) := by decide +kernel
theorem dX6_layMachine_23 : decode cX6_layMachine 23 = .ok (.getfield 71, 3) := by decide +kernel
theorem dX6_layMachine_26 : decode cX6_layMachine 26 = .ok (.bipush 64, 2) := by decide +kernel
theorem dX6_layMachine_28 : decode cX6_layMachine 28 = .ok (.if_icmp .gt 121, 3) := by decide +kernel
theorem dX6_layMachine_31 : decode cX6_layMachine 31 = .ok (.iconst 0, 1) := by decide +kernel
theorem dX6_layMachine_32 : decode cX6_layMachine 32 = .ok (.istore_n 3, 1) := by decide +kernel
theorem dX6_layMachine_33 : decode cX6_layMachine 33 = .ok (.iload_n 3, 1) := by decide +kernel
theorem dX6_layMachine_34 : decode cX6_layMachine 34 = .ok (.aload_n 0, 1) := by decide +kernel
theorem dX6_layMachine_35 : decode cX6_layMachine 35 = .ok (.getfield 7, 3) := by decide +kernel
theorem dX6_layMachine_38 : decode cX6_layMachine 38 = .ok (.if_icmp .ge 105, 3) := by decide +kernel
theorem dX6_layMachine_41 : decode cX6_layMachine 41 = .ok (.aload_n 0, 1) := by decide +kernel
theorem dX6_layMachine_42 : decode cX6_layMachine 42 = .ok (.getfield 71, 3) := by decide +kernel
theorem dX6_layMachine_45 : decode cX6_layMachine 45 = .ok (.bipush 64, 2) := by decide +kernel
theorem dX6_layMachine_47 : decode cX6_layMachine 47 = .ok (.if_icmp .gt 96, 3) := by decide +kernel
theorem dX6_layMachine_50 : decode cX6_layMachine 50 = .ok (.aload_n 0, 1) := by decide +kernel
theorem dX6_layMachine_51 : decode cX6_layMachine 51 = .ok (.bipush 18, 2) := by decide +kernel
theorem dX6_layMachine_53 : decode cX6_layMachine 53 = .ok (.iload_n 2, 1) := by decide +kernel
theorem dX6_layMachine_54 : decode cX6_layMachine 54 = .ok (.iadd, 1) := by decide +kernel
theorem dX6_layMachine_55 : decode cX6_layMachine 55 = .ok (.iload_n 3, 1) := by decide +kernel
theorem dX6_layMachine_56 : decode cX6_layMachine 56 = .ok (.bipush 83, 2) := by decide +kernel
theorem dX6_layMachine_58 : decode cX6_layMachine 58 = .ok (.invokevirtual 74, 3) := by decide +kernel
theorem dX6_layMachine_61 : decode cX6_layMachine 61 = .ok (.iconst 0, 1) := by decide +kernel
theorem dX6_layMachine_62 : decode cX6_layMachine 62 = .ok (.istore 4, 2) := by decide +kernel
theorem dX6_layMachine_64 : decode cX6_layMachine 64 = .ok (.iload 4, 2) := by decide +kernel
theorem dX6_layMachine_66 : decode cX6_layMachine 66 = .ok (.aload_n 0, 1) := by decide +kernel
theorem dX6_layMachine_67 : decode cX6_layMachine 67 = .ok (.getfield 71, 3) := by decide +kernel
theorem dX6_layMachine_70 : decode cX6_layMachine 70 = .ok (.if_icmp .ge 23, 3) := by decide +kernel
theorem dX6_layMachine_73 : decode cX6_layMachine 73 = .ok (.aload_n 0, 1) := by decide +kernel
theorem dX6_layMachine_74 : decode cX6_layMachine 74 = .ok (.bipush 18, 2) := by decide +kernel
theorem dX6_layMachine_76 : decode cX6_layMachine 76 = .ok (.iload 4, 2) := by decide +kernel
theorem dX6_layMachine_78 : decode cX6_layMachine 78 = .ok (.iadd, 1) := by decide +kernel
theorem dX6_layMachine_79 : decode cX6_layMachine 79 = .ok (.bipush 83, 2) := by decide +kernel
theorem dX6_layMachine_81 : decode cX6_layMachine 81 = .ok (.invokevirtual 78, 3) := by decide +kernel
theorem dX6_layMachine_84 : decode cX6_layMachine 84 = .ok (.ifCond .ne 9, 3) := by decide +kernel
theorem dX6_layMachine_87 : decode cX6_layMachine 87 = .ok (.iinc 4 1, 3) := by decide +kernel
theorem dX6_layMachine_90 : decode cX6_layMachine 90 = .ok (.goto (-26), 3) := by decide +kernel
theorem dX6_layMachine_93 : decode cX6_layMachine 93 = .ok (.iload 4, 2) := by decide +kernel
theorem dX6_layMachine_95 : decode cX6_layMachine 95 = .ok (.aload_n 0, 1) := by decide +kernel
theorem dX6_layMachine_96 : decode cX6_layMachine 96 = .ok (.getfield 71, 3) := by decide +kernel
theorem dX6_layMachine_99 : decode cX6_layMachine 99 = .ok (.if_icmp .ne 26, 3) := by decide +kernel
theorem dX6_layMachine_102 : decode cX6_layMachine 102 = .ok (.aload_n 0, 1) := by decide +kernel
theorem dX6_layMachine_103 : decode cX6_layMachine 103 = .ok (.bipush 83, 2) := by decide +kernel
theorem dX6_layMachine_105 : decode cX6_layMachine 105 = .ok (.bipush 18, 2) := by decide +kernel
theorem dX6_layMachine_107 : decode cX6_layMachine 107 = .ok (.aload_n 0, 1) := by decide +kernel
theorem dX6_layMachine_108 : decode cX6_layMachine 108 = .ok (.getfield 71, 3) := by decide +kernel
theorem dX6_layMachine_111 : decode cX6_layMachine 111 = .ok (.iadd, 1) := by decide +kernel
theorem dX6_layMachine_112 : decode cX6_layMachine 112 = .ok (.invokevirtual 67, 3) := by decide +kernel
theorem dX6_layMachine_115 : decode cX6_layMachine 115 = .ok (.aload_n 0, 1) := by decide +kernel
theorem dX6_layMachine_116 : decode cX6_layMachine 116 = .ok (.dup, 1) := by decide +kernel
theorem dX6_layMachine_117 : decode cX6_layMachine 117 = .ok (.getfield 71, 3) := by decide +kernel
theorem dX6_layMachine_120 : decode cX6_layMachine 120 = .ok (.iconst 1, 1) := by decide +kernel
theorem dX6_layMachine_121 : decode cX6_layMachine 121 = .ok (.iadd, 1) := by decide +kernel
theorem dX6_layMachine_122 : decode cX6_layMachine 122 = .ok (.putfield 71, 3) := by decide +kernel
theorem dX6_layMachine_125 : decode cX6_layMachine 125 = .ok (.aload_n 0, 1) := by decide +kernel
theorem dX6_layMachine_126 : decode cX6_layMachine 126 = .ok (.getfield 28, 3) := by decide +kernel
theorem dX6_layMachine_129 : decode cX6_layMachine 129 = .ok (.iconst 5, 1) := by decide +kernel
theorem dX6_layMachine_130 : decode cX6_layMachine 130 = .ok (.iload_n 2, 1) := by decide +kernel
theorem dX6_layMachine_131 : decode cX6_layMachine 131 = .ok (.imul, 1) := by decide +kernel
theorem dX6_layMachine_132 : decode cX6_layMachine 132 = .ok (.iload_n 3, 1) := by decide +kernel
theorem dX6_layMachine_133 : decode cX6_layMachine 133 = .ok (.iadd, 1) := by decide +kernel
theorem dX6_layMachine_134 : decode cX6_layMachine 134 = .ok (.iload 4, 2) := by decide +kernel
theorem dX6_layMachine_136 : decode cX6_layMachine 136 = .ok (.iastore, 1) := by decide +kernel
theorem dX6_layMachine_137 : decode cX6_layMachine 137 = .ok (.iinc 3 1, 3) := by decide +kernel
theorem dX6_layMachine_140 : decode cX6_layMachine 140 = .ok (.goto (-107), 3) := by decide +kernel
theorem dX6_layMachine_143 : decode cX6_layMachine 143 = .ok (.iinc 2 1, 3) := by decide +kernel
theorem dX6_layMachine_146 : decode cX6_layMachine 146 = .ok (.goto (-132), 3) := by decide +kernel
theorem dX6_layMachine_149 : decode cX6_layMachine 149 = .ok (.return_, 1) := by decide +kernel
theorem dX6_keep_0 : decode cX6_keep 0 = .ok (.aload_n 0, 1) := by decide +kernel
theorem dX6_keep_1 : decode cX6_keep 1 = .ok (.bipush 83, 2) := by decide +kernel
theorem dX6_keep_3 : decode cX6_keep 3 = .ok (.invokevirtual 64, 3) := by decide +kernel
theorem dX6_keep_6 : decode cX6_keep 6 = .ok (.ifCond .ne 6, 3) := by decide +kernel
theorem dX6_keep_9 : decode cX6_keep 9 = .ok (.bipush (-4), 2) := by decide +kernel
theorem dX6_keep_11 : decode cX6_keep 11 = .ok (.ireturn, 1) := by decide +kernel
theorem dX6_keep_12 : decode cX6_keep 12 = .ok (.aload_n 0, 1) := by decide +kernel
theorem dX6_keep_13 : decode cX6_keep 13 = .ok (.bipush 83, 2) := by decide +kernel
theorem dX6_keep_15 : decode cX6_keep 15 = .ok (.bipush 18, 2) := by decide +kernel
theorem dX6_keep_17 : decode cX6_keep 17 = .ok (.invokevirtual 67, 3) := by decide +kernel
theorem dX6_keep_20 : decode cX6_keep 20 = .ok (.aload_n 0, 1) := by decide +kernel
theorem dX6_keep_21 : decode cX6_keep 21 = .ok (.bipush 18, 2) := by decide +kernel
theorem dX6_keep_23 : decode cX6_keep 23 = .ok (.invokevirtual 81, 3) := by decide +kernel
theorem dX6_keep_26 : decode cX6_keep 26 = .ok (.aload_n 0, 1) := by decide +kernel
theorem dX6_keep_27 : decode cX6_keep 27 = .ok (.getfield 71, 3) := by decide +kernel
theorem dX6_keep_30 : decode cX6_keep 30 = .ok (.bipush 64, 2) := by decide +kernel
theorem dX6_keep_32 : decode cX6_keep 32 = .ok (.if_icmp .le 6, 3) := by decide +kernel
theorem dX6_keep_35 : decode cX6_keep 35 = .ok (.bipush (-4), 2) := by decide +kernel
theorem dX6_keep_37 : decode cX6_keep 37 = .ok (.ireturn, 1) := by decide +kernel
theorem dX6_keep_38 : decode cX6_keep 38 = .ok (.aload_n 0, 1) := by decide +kernel
theorem dX6_keep_39 : decode cX6_keep 39 = .ok (.bipush 18, 2) := by decide +kernel
theorem dX6_keep_41 : decode cX6_keep 41 = .ok (.iload_n 1, 1) := by decide +kernel
theorem dX6_keep_42 : decode cX6_keep 42 = .ok (.invokevirtual 67, 3) := by decide +kernel
theorem dX6_keep_45 : decode cX6_keep 45 = .ok (.aload_n 0, 1) := by decide +kernel
theorem dX6_keep_46 : decode cX6_keep 46 = .ok (.getfield 71, 3) := by decide +kernel
theorem dX6_keep_49 : decode cX6_keep 49 = .ok (.ireturn, 1) := by decide +kernel
theorem dX6_base_0 : decode cX6_base 0 = .ok (.iload_n 1, 1) := by decide +kernel
theorem dX6_base_1 : decode cX6_base 1 = .ok (.iconst 2, 1) := by decide +kernel
theorem dX6_base_2 : decode cX6_base 2 = .ok (.if_icmp .eq 16, 3) := by decide +kernel
theorem dX6_base_5 : decode cX6_base 5 = .ok (.iload_n 1, 1) := by decide +kernel
theorem dX6_base_6 : decode cX6_base 6 = .ok (.iconst 3, 1) := by decide +kernel
theorem dX6_base_7 : decode cX6_base 7 = .ok (.if_icmp .eq 11, 3) := by decide +kernel
theorem dX6_base_10 : decode cX6_base 10 = .ok (.iload_n 1, 1) := by decide +kernel
theorem dX6_base_11 : decode cX6_base 11 = .ok (.iconst 5, 1) := by decide +kernel
theorem dX6_base_12 : decode cX6_base 12 = .ok (.if_icmp .eq 6, 3) := by decide +kernel
theorem dX6_base_15 : decode cX6_base 15 = .ok (.bipush (-2), 2) := by decide +kernel
theorem dX6_base_17 : decode cX6_base 17 = .ok (.ireturn, 1) := by decide +kernel
theorem dX6_base_18 : decode cX6_base 18 = .ok (.aload_n 0, 1) := by decide +kernel
theorem dX6_base_19 : decode cX6_base 19 = .ok (.getfield 7, 3) := by decide +kernel
theorem dX6_base_22 : decode cX6_base 22 = .ok (.istore_n 2, 1) := by decide +kernel
theorem dX6_base_23 : decode cX6_base 23 = .ok (.aload_n 0, 1) := by decide +kernel
theorem dX6_base_24 : decode cX6_base 24 = .ok (.iload_n 1, 1) := by decide +kernel
theorem dX6_base_25 : decode cX6_base 25 = .ok (.putfield 7, 3) := by decide +kernel
theorem dX6_base_28 : decode cX6_base 28 = .ok (.iconst 0, 1) := by decide +kernel
theorem dX6_base_29 : decode cX6_base 29 = .ok (.istore_n 3, 1) := by decide +kernel
theorem dX6_base_30 : decode cX6_base 30 = .ok (.iload_n 3, 1) := by decide +kernel
theorem dX6_base_31 : decode cX6_base 31 = .ok (.bipush 6, 2) := by decide +kernel
theorem dX6_base_33 : decode cX6_base 33 = .ok (.if_icmp .ge 50, 3) := by decide +kernel
theorem dX6_base_36 : decode cX6_base 36 = .ok (.aload_n 0, 1) := by decide +kernel
theorem dX6_base_37 : decode cX6_base 37 = .ok (.getfield 13, 3) := by decide +kernel
theorem dX6_base_40 : decode cX6_base 40 = .ok (.iload_n 3, 1) := by decide +kernel
theorem dX6_base_41 : decode cX6_base 41 = .ok (.iconst 0, 1) := by decide +kernel
theorem dX6_base_42 : decode cX6_base 42 = .ok (.iastore, 1) := by decide +kernel
theorem dX6_base_43 : decode cX6_base 43 = .ok (.aload_n 0, 1) := by decide +kernel
theorem dX6_base_44 : decode cX6_base 44 = .ok (.getfield 17, 3) := by decide +kernel
theorem dX6_base_47 : decode cX6_base 47 = .ok (.iload_n 3, 1) := by decide +kernel
theorem dX6_base_48 : decode cX6_base 48 = .ok (.iconst 1, 1) := by decide +kernel
theorem dX6_base_49 : decode cX6_base 49 = .ok (.iastore, 1) := by decide +kernel
theorem dX6_base_50 : decode cX6_base 50 = .ok (.iconst 0, 1) := by decide +kernel
theorem dX6_base_51 : decode cX6_base 51 = .ok (.istore 4, 2) := by decide +kernel
theorem dX6_base_53 : decode cX6_base 53 = .ok (.iload 4, 2) := by decide +kernel
theorem dX6_base_55 : decode cX6_base 55 = .ok (.iconst 3, 1) := by decide +kernel
theorem dX6_base_56 : decode cX6_base 56 = .ok (.if_icmp .ge 21, 3) := by decide +kernel
theorem dX6_base_59 : decode cX6_base 59 = .ok (.aload_n 0, 1) := by decide +kernel
theorem dX6_base_60 : decode cX6_base 60 = .ok (.getfield 20, 3) := by decide +kernel
theorem dX6_base_63 : decode cX6_base 63 = .ok (.iconst 3, 1) := by decide +kernel
theorem dX6_base_64 : decode cX6_base 64 = .ok (.iload_n 3, 1) := by decide +kernel
theorem dX6_base_65 : decode cX6_base 65 = .ok (.imul, 1) := by decide +kernel
theorem dX6_base_66 : decode cX6_base 66 = .ok (.iload 4, 2) := by decide +kernel
theorem dX6_base_68 : decode cX6_base 68 = .ok (.iadd, 1) := by decide +kernel
theorem dX6_base_69 : decode cX6_base 69 = .ok (.lconst 0, 1) := by decide +kernel
theorem dX6_base_70 : decode cX6_base 70 = .ok (.lastore, 1) := by decide +kernel
theorem dX6_base_71 : decode cX6_base 71 = .ok (.iinc 4 1, 3) := by decide +kernel
theorem dX6_base_74 : decode cX6_base 74 = .ok (.goto (-21), 3) := by decide +kernel
theorem dX6_base_77 : decode cX6_base 77 = .ok (.iinc 3 1, 3) := by decide +kernel
theorem dX6_base_80 : decode cX6_base 80 = .ok (.goto (-50), 3) := by decide +kernel
theorem dX6_base_83 : decode cX6_base 83 = .ok (.iload_n 2, 1) := by decide +kernel
theorem dX6_base_84 : decode cX6_base 84 = .ok (.ireturn, 1) := by decide +kernel
theorem dX6_put_0 : decode cX6_put 0 = .ok (.iload_n 1, 1) := by decide +kernel
theorem dX6_put_1 : decode cX6_put 1 = .ok (.invokestatic 85, 3) := by decide +kernel
theorem dX6_put_4 : decode cX6_put 4 = .ok (.ifCond .ne 5, 3) := by decide +kernel
theorem dX6_put_7 : decode cX6_put 7 = .ok (.iconst (-1), 1) := by decide +kernel
theorem dX6_put_8 : decode cX6_put 8 = .ok (.ireturn, 1) := by decide +kernel
theorem dX6_put_9 : decode cX6_put 9 = .ok (.iload_n 2, 1) := by decide +kernel
theorem dX6_put_10 : decode cX6_put 10 = .ok (.iconst 0, 1) := by decide +kernel
theorem dX6_put_11 : decode cX6_put 11 = .ok (.iconst 4, 1) := by decide +kernel
theorem dX6_put_12 : decode cX6_put 12 = .ok (.invokestatic 40, 3) := by decide +kernel
theorem dX6_put_15 : decode cX6_put 15 = .ok (.ifCond .eq 34, 3) := by decide +kernel
theorem dX6_put_18 : decode cX6_put 18 = .ok (.iload_n 2, 1) := by decide +kernel
theorem dX6_put_19 : decode cX6_put 19 = .ok (.iconst 3, 1) := by decide +kernel
theorem dX6_put_20 : decode cX6_put 20 = .ok (.if_icmp .ge 13, 3) := by decide +kernel
theorem dX6_put_23 : decode cX6_put 23 = .ok (.iload_n 3, 1) := by decide +kernel
theorem dX6_put_24 : decode cX6_put 24 = .ok (.iconst 0, 1) := by decide +kernel
theorem dX6_put_25 : decode cX6_put 25 = .ok (.bipush 100, 2) := by decide +kernel
theorem dX6_put_27 : decode cX6_put 27 = .ok (.invokestatic 40, 3) := by decide +kernel
theorem dX6_put_30 : decode cX6_put 30 = .ok (.ifCond .eq 19, 3) := by decide +kernel
theorem dX6_put_33 : decode cX6_put 33 = .ok (.iload_n 2, 1) := by decide +kernel
theorem dX6_put_34 : decode cX6_put 34 = .ok (.iconst 2, 1) := by decide +kernel
theorem dX6_put_35 : decode cX6_put 35 = .ok (.if_icmp .ne 17, 3) := by decide +kernel
theorem dX6_put_38 : decode cX6_put 38 = .ok (.iload 4, 2) := by decide +kernel
theorem dX6_put_40 : decode cX6_put 40 = .ok (.iconst 1, 1) := by decide +kernel
theorem dX6_put_41 : decode cX6_put 41 = .ok (.bipush 60, 2) := by decide +kernel
theorem dX6_put_43 : decode cX6_put 43 = .ok (.invokestatic 40, 3) := by decide +kernel
theorem dX6_put_46 : decode cX6_put 46 = .ok (.ifCond .ne 6, 3) := by decide +kernel
theorem dX6_put_49 : decode cX6_put 49 = .ok (.bipush (-2), 2) := by decide +kernel
theorem dX6_put_51 : decode cX6_put 51 = .ok (.ireturn, 1) := by decide +kernel
theorem dX6_put_52 : decode cX6_put 52 = .ok (.aload_n 0, 1) := by decide +kernel
theorem dX6_put_53 : decode cX6_put 53 = .ok (.iload_n 2, 1) := by decide +kernel
theorem dX6_put_54 : decode cX6_put 54 = .ok (.ifCond .ne 9, 3) := by decide +kernel
theorem dX6_put_57 : decode cX6_put 57 = .ok (.iload_n 3, 1) := by decide +kernel
theorem dX6_put_58 : decode cX6_put 58 = .ok (.iconst 1, 1) := by decide +kernel
theorem dX6_put_59 : decode cX6_put 59 = .ok (.iadd, 1) := by decide +kernel
theorem dX6_put_60 : decode cX6_put 60 = .ok (.goto 13, 3) := by decide +kernel
theorem dX6_put_63 : decode cX6_put 63 = .ok (.iload_n 2, 1) := by decide +kernel
theorem dX6_put_64 : decode cX6_put 64 = .ok (.iconst 1, 1) := by decide +kernel
theorem dX6_put_65 : decode cX6_put 65 = .ok (.if_icmp .ne 7, 3) := by decide +kernel
theorem dX6_put_68 : decode cX6_put 68 = .ok (.iload_n 3, 1) := by decide +kernel
theorem dX6_put_69 : decode cX6_put 69 = .ok (.goto 4, 3) := by decide +kernel
theorem dX6_put_72 : decode cX6_put 72 = .ok (.iconst 0, 1) := by decide +kernel
theorem dX6_put_73 : decode cX6_put 73 = .ok (.putfield 44, 3) := by decide +kernel
theorem dX6_put_76 : decode cX6_put 76 = .ok (.aload_n 0, 1) := by decide +kernel
theorem dX6_put_77 : decode cX6_put 77 = .ok (.iload_n 2, 1) := by decide +kernel
theorem dX6_put_78 : decode cX6_put 78 = .ok (.iconst 2, 1) := by decide +kernel
theorem dX6_put_79 : decode cX6_put 79 = .ok (.if_icmp .ne 8, 3) := by decide +kernel
theorem dX6_put_82 : decode cX6_put 82 = .ok (.iload 4, 2) := by decide +kernel
theorem dX6_put_84 : decode cX6_put 84 = .ok (.goto 4, 3) := by decide +kernel
theorem dX6_put_87 : decode cX6_put 87 = .ok (.iconst 1, 1) := by decide +kernel
theorem dX6_put_88 : decode cX6_put 88 = .ok (.putfield 47, 3) := by decide +kernel
theorem dX6_put_91 : decode cX6_put 91 = .ok (.iconst 0, 1) := by decide +kernel
theorem dX6_put_92 : decode cX6_put 92 = .ok (.istore 5, 2) := by decide +kernel
theorem dX6_put_94 : decode cX6_put 94 = .ok (.iload 5, 2) := by decide +kernel
theorem dX6_put_96 : decode cX6_put 96 = .ok (.aload_n 0, 1) := by decide +kernel
theorem dX6_put_97 : decode cX6_put 97 = .ok (.getfield 44, 3) := by decide +kernel
theorem dX6_put_100 : decode cX6_put 100 = .ok (.aload_n 0, 1) := by decide +kernel
theorem dX6_put_101 : decode cX6_put 101 = .ok (.getfield 47, 3) := by decide +kernel
theorem dX6_put_104 : decode cX6_put 104 = .ok (.iadd, 1) := by decide +kernel
theorem dX6_put_105 : decode cX6_put 105 = .ok (.if_icmp .ge 88, 3) := by decide +kernel
theorem dX6_put_108 : decode cX6_put 108 = .ok (.aload_n 0, 1) := by decide +kernel
theorem dX6_put_109 : decode cX6_put 109 = .ok (.getfield 24, 3) := by decide +kernel
theorem dX6_put_112 : decode cX6_put 112 = .ok (.iload 5, 2) := by decide +kernel
theorem dX6_put_114 : decode cX6_put 114 = .ok (.iload_n 2, 1) := by decide +kernel
theorem dX6_put_115 : decode cX6_put 115 = .ok (.ifCond .ne 17, 3) := by decide +kernel
theorem dX6_put_118 : decode cX6_put 118 = .ok (.iload 5, 2) := by decide +kernel
theorem dX6_put_120 : decode cX6_put 120 = .ok (.iload_n 3, 1) := by decide +kernel
theorem dX6_put_121 : decode cX6_put 121 = .ok (.if_icmp .ne 7, 3) := by decide +kernel
theorem dX6_put_124 : decode cX6_put 124 = .ok (.iconst 1, 1) := by decide +kernel
theorem dX6_put_125 : decode cX6_put 125 = .ok (.goto 61, 3) := by decide +kernel
theorem dX6_put_128 : decode cX6_put 128 = .ok (.iconst 0, 1) := by decide +kernel
theorem dX6_put_129 : decode cX6_put 129 = .ok (.goto 57, 3) := by decide +kernel
theorem dX6_put_132 : decode cX6_put 132 = .ok (.iload_n 2, 1) := by decide +kernel
theorem dX6_put_133 : decode cX6_put 133 = .ok (.iconst 1, 1) := by decide +kernel
theorem dX6_put_134 : decode cX6_put 134 = .ok (.if_icmp .ne 17, 3) := by decide +kernel
theorem dX6_put_137 : decode cX6_put 137 = .ok (.iload 5, 2) := by decide +kernel
theorem dX6_put_139 : decode cX6_put 139 = .ok (.iload_n 3, 1) := by decide +kernel
theorem dX6_put_140 : decode cX6_put 140 = .ok (.if_icmp .lt 7, 3) := by decide +kernel
theorem dX6_put_143 : decode cX6_put 143 = .ok (.iconst 1, 1) := by decide +kernel
theorem dX6_put_144 : decode cX6_put 144 = .ok (.goto 42, 3) := by decide +kernel
theorem dX6_put_147 : decode cX6_put 147 = .ok (.iconst 0, 1) := by decide +kernel
theorem dX6_put_148 : decode cX6_put 148 = .ok (.goto 38, 3) := by decide +kernel
theorem dX6_put_151 : decode cX6_put 151 = .ok (.iload_n 2, 1) := by decide +kernel
theorem dX6_put_152 : decode cX6_put 152 = .ok (.iconst 2, 1) := by decide +kernel
theorem dX6_put_153 : decode cX6_put 153 = .ok (.if_icmp .ne 23, 3) := by decide +kernel
theorem dX6_put_156 : decode cX6_put 156 = .ok (.iload 5, 2) := by decide +kernel
theorem dX6_put_158 : decode cX6_put 158 = .ok (.iload 4, 2) := by decide +kernel
theorem dX6_put_160 : decode cX6_put 160 = .ok (.irem, 1) := by decide +kernel
theorem dX6_put_161 : decode cX6_put 161 = .ok (.iload_n 3, 1) := by decide +kernel
theorem dX6_put_162 : decode cX6_put 162 = .ok (.iload 4, 2) := by decide +kernel
theorem dX6_put_164 : decode cX6_put 164 = .ok (.irem, 1) := by decide +kernel
theorem dX6_put_165 : decode cX6_put 165 = .ok (.if_icmp .ne 7, 3) := by decide +kernel
theorem dX6_put_168 : decode cX6_put 168 = .ok (.iconst 1, 1) := by decide +kernel
theorem dX6_put_169 : decode cX6_put 169 = .ok (.goto 17, 3) := by decide +kernel
theorem dX6_put_172 : decode cX6_put 172 = .ok (.iconst 0, 1) := by decide +kernel
theorem dX6_put_173 : decode cX6_put 173 = .ok (.goto 13, 3) := by decide +kernel
theorem dX6_put_176 : decode cX6_put 176 = .ok (.iload_n 2, 1) := by decide +kernel
theorem dX6_put_177 : decode cX6_put 177 = .ok (.iconst 4, 1) := by decide +kernel
theorem dX6_put_178 : decode cX6_put 178 = .ok (.if_icmp .ne 7, 3) := by decide +kernel
theorem dX6_put_181 : decode cX6_put 181 = .ok (.iconst 1, 1) := by decide +kernel
theorem dX6_put_182 : decode cX6_put 182 = .ok (.goto 4, 3) := by decide +kernel
theorem dX6_put_185 : decode cX6_put 185 = .ok (.iconst 0, 1) := by decide +kernel
theorem dX6_put_186 : decode cX6_put 186 = .ok (.bastore, 1) := by decide +kernel
theorem dX6_put_187 : decode cX6_put 187 = .ok (.iinc 5 1, 3) := by decide +kernel
theorem dX6_put_190 : decode cX6_put 190 = .ok (.goto (-96), 3) := by decide +kernel
theorem dX6_put_193 : decode cX6_put 193 = .ok (.aload_n 0, 1) := by decide +kernel
theorem dX6_put_194 : decode cX6_put 194 = .ok (.iload_n 1, 1) := by decide +kernel
theorem dX6_put_195 : decode cX6_put 195 = .ok (.invokevirtual 88, 3) := by decide +kernel
theorem dX6_put_198 : decode cX6_put 198 = .ok (.ireturn, 1) := by decide +kernel
theorem dX6_common_0 : decode cX6_common 0 = .ok (.iload_n 0, 1) := by decide +kernel
theorem dX6_common_1 : decode cX6_common 1 = .ok (.istore_n 2, 1) := by decide +kernel
theorem dX6_common_2 : decode cX6_common 2 = .ok (.iload_n 1, 1) := by decide +kernel
theorem dX6_common_3 : decode cX6_common 3 = .ok (.istore_n 3, 1) := by decide +kernel
theorem dX6_common_4 : decode cX6_common 4 = .ok (.iconst 0, 1) := by decide +kernel
theorem dX6_common_5 : decode cX6_common 5 = .ok (.istore 4, 2) := by decide +kernel
theorem dX6_common_7 : decode cX6_common 7 = .ok (.iload 4, 2) := by decide +kernel
theorem dX6_common_9 : decode cX6_common 9 = .ok (.bipush 100, 2) := by decide +kernel
theorem dX6_common_11 : decode cX6_common 11 = .ok (.if_icmp .ge 23, 3) := by decide +kernel
theorem dX6_common_14 : decode cX6_common 14 = .ok (.iload_n 3, 1) := by decide +kernel
theorem dX6_common_15 : decode cX6_common 15 = .ok (.ifCond .eq 19, 3) := by decide +kernel
theorem dX6_common_18 : decode cX6_common 18 = .ok (.iload_n 2, 1) := by decide +kernel
theorem dX6_common_19 : decode cX6_common 19 = .ok (.iload_n 3, 1) := by decide +kernel
theorem dX6_common_20 : decode cX6_common 20 = .ok (.irem, 1) := by decide +kernel
theorem dX6_common_21 : decode cX6_common 21 = .ok (.istore 5, 2) := by decide +kernel
theorem dX6_common_23 : decode cX6_common 23 = .ok (.iload_n 3, 1) := by decide +kernel
theorem dX6_common_24 : decode cX6_common 24 = .ok (.istore_n 2, 1) := by decide +kernel
theorem dX6_common_25 : decode cX6_common 25 = .ok (.iload 5, 2) := by decide +kernel
theorem dX6_common_27 : decode cX6_common 27 = .ok (.istore_n 3, 1) := by decide +kernel
theorem dX6_common_28 : decode cX6_common 28 = .ok (.iinc 4 1, 3) := by decide +kernel
theorem dX6_common_31 : decode cX6_common 31 = .ok (.goto (-24), 3) := by decide +kernel
theorem dX6_common_34 : decode cX6_common 34 = .ok (.iload_n 2, 1) := by decide +kernel
theorem dX6_common_35 : decode cX6_common 35 = .ok (.ireturn, 1) := by decide +kernel
theorem dX6_together_0 : decode cX6_together 0 = .ok (.aload_n 0, 1) := by decide +kernel
theorem dX6_together_1 : decode cX6_together 1 = .ok (.getfield 17, 3) := by decide +kernel
theorem dX6_together_4 : decode cX6_together 4 = .ok (.iload_n 1, 1) := by decide +kernel
theorem dX6_together_5 : decode cX6_together 5 = .ok (.iaload, 1) := by decide +kernel
theorem dX6_together_6 : decode cX6_together 6 = .ok (.aload_n 0, 1) := by decide +kernel
theorem dX6_together_7 : decode cX6_together 7 = .ok (.getfield 17, 3) := by decide +kernel
theorem dX6_together_10 : decode cX6_together 10 = .ok (.iload_n 1, 1) := by decide +kernel
theorem dX6_together_11 : decode cX6_together 11 = .ok (.iaload, 1) := by decide +kernel
theorem dX6_together_12 : decode cX6_together 12 = .ok (.aload_n 0, 1) := by decide +kernel
theorem dX6_together_13 : decode cX6_together 13 = .ok (.getfield 17, 3) := by decide +kernel
theorem dX6_together_16 : decode cX6_together 16 = .ok (.iload_n 2, 1) := by decide +kernel
theorem dX6_together_17 : decode cX6_together 17 = .ok (.iaload, 1) := by decide +kernel
theorem dX6_together_18 : decode cX6_together 18 = .ok (.invokestatic 92, 3) := by decide +kernel
theorem dX6_together_21 : decode cX6_together 21 = .ok (.idiv, 1) := by decide +kernel
theorem dX6_together_22 : decode cX6_together 22 = .ok (.aload_n 0, 1) := by decide +kernel
theorem dX6_together_23 : decode cX6_together 23 = .ok (.getfield 17, 3) := by decide +kernel
theorem dX6_together_26 : decode cX6_together 26 = .ok (.iload_n 2, 1) := by decide +kernel
theorem dX6_together_27 : decode cX6_together 27 = .ok (.iaload, 1) := by decide +kernel
theorem dX6_together_28 : decode cX6_together 28 = .ok (.imul, 1) := by decide +kernel
theorem dX6_together_29 : decode cX6_together 29 = .ok (.ireturn, 1) := by decide +kernel
theorem dX6_later_0 : decode cX6_later 0 = .ok (.aload_n 0, 1) := by decide +kernel
theorem dX6_later_1 : decode cX6_later 1 = .ok (.getfield 13, 3) := by decide +kernel
theorem dX6_later_4 : decode cX6_later 4 = .ok (.iload_n 1, 1) := by decide +kernel
theorem dX6_later_5 : decode cX6_later 5 = .ok (.iaload, 1) := by decide +kernel
theorem dX6_later_6 : decode cX6_later 6 = .ok (.aload_n 0, 1) := by decide +kernel
theorem dX6_later_7 : decode cX6_later 7 = .ok (.getfield 13, 3) := by decide +kernel
theorem dX6_later_10 : decode cX6_later 10 = .ok (.iload_n 2, 1) := by decide +kernel
theorem dX6_later_11 : decode cX6_later 11 = .ok (.iaload, 1) := by decide +kernel
theorem dX6_later_12 : decode cX6_later 12 = .ok (.if_icmp .le 12, 3) := by decide +kernel
theorem dX6_later_15 : decode cX6_later 15 = .ok (.aload_n 0, 1) := by decide +kernel
theorem dX6_later_16 : decode cX6_later 16 = .ok (.getfield 13, 3) := by decide +kernel
theorem dX6_later_19 : decode cX6_later 19 = .ok (.iload_n 1, 1) := by decide +kernel
theorem dX6_later_20 : decode cX6_later 20 = .ok (.iaload, 1) := by decide +kernel
theorem dX6_later_21 : decode cX6_later 21 = .ok (.goto 9, 3) := by decide +kernel
theorem dX6_later_24 : decode cX6_later 24 = .ok (.aload_n 0, 1) := by decide +kernel
theorem dX6_later_25 : decode cX6_later 25 = .ok (.getfield 13, 3) := by decide +kernel
theorem dX6_later_28 : decode cX6_later 28 = .ok (.iload_n 2, 1) := by decide +kernel
theorem dX6_later_29 : decode cX6_later 29 = .ok (.iaload, 1) := by decide +kernel
theorem dX6_later_30 : decode cX6_later 30 = .ok (.ireturn, 1) := by decide +kernel
theorem dX6_join_0 : decode cX6_join 0 = .ok (.iload_n 1, 1) := by decide +kernel
theorem dX6_join_1 : decode cX6_join 1 = .ok (.invokestatic 85, 3) := by decide +kernel
theorem dX6_join_4 : decode cX6_join 4 = .ok (.ifCond .eq 17, 3) := by decide +kernel
theorem dX6_join_7 : decode cX6_join 7 = .ok (.iload_n 2, 1) := by decide +kernel
theorem dX6_join_8 : decode cX6_join 8 = .ok (.invokestatic 85, 3) := by decide +kernel
theorem dX6_join_11 : decode cX6_join 11 = .ok (.ifCond .eq 10, 3) := by decide +kernel
theorem dX6_join_14 : decode cX6_join 14 = .ok (.iload_n 3, 1) := by decide +kernel
theorem dX6_join_15 : decode cX6_join 15 = .ok (.invokestatic 85, 3) := by decide +kernel
theorem dX6_join_18 : decode cX6_join 18 = .ok (.ifCond .ne 5, 3) := by decide +kernel
theorem dX6_join_21 : decode cX6_join 21 = .ok (.iconst (-1), 1) := by decide +kernel
theorem dX6_join_22 : decode cX6_join 22 = .ok (.ireturn, 1) := by decide +kernel
theorem dX6_join_23 : decode cX6_join 23 = .ok (.iload 4, 2) := by decide +kernel
theorem dX6_join_25 : decode cX6_join 25 = .ok (.iconst 0, 1) := by decide +kernel
theorem dX6_join_26 : decode cX6_join 26 = .ok (.iconst 3, 1) := by decide +kernel
theorem dX6_join_27 : decode cX6_join 27 = .ok (.invokestatic 40, 3) := by decide +kernel
theorem dX6_join_30 : decode cX6_join 30 = .ok (.ifCond .ne 6, 3) := by decide +kernel
theorem dX6_join_33 : decode cX6_join 33 = .ok (.bipush (-2), 2) := by decide +kernel
theorem dX6_join_35 : decode cX6_join 35 = .ok (.ireturn, 1) := by decide +kernel
theorem dX6_join_36 : decode cX6_join 36 = .ok (.aload_n 0, 1) := by decide +kernel
theorem dX6_join_37 : decode cX6_join 37 = .ok (.aload_n 0, 1) := by decide +kernel
theorem dX6_join_38 : decode cX6_join 38 = .ok (.iload_n 2, 1) := by decide +kernel
theorem dX6_join_39 : decode cX6_join 39 = .ok (.iload_n 3, 1) := by decide +kernel
theorem dX6_join_40 : decode cX6_join 40 = .ok (.invokevirtual 96, 3) := by decide +kernel
theorem dX6_join_43 : decode cX6_join 43 = .ok (.putfield 44, 3) := by decide +kernel
theorem dX6_join_46 : decode cX6_join 46 = .ok (.aload_n 0, 1) := by decide +kernel
theorem dX6_join_47 : decode cX6_join 47 = .ok (.aload_n 0, 1) := by decide +kernel
theorem dX6_join_48 : decode cX6_join 48 = .ok (.iload_n 2, 1) := by decide +kernel
theorem dX6_join_49 : decode cX6_join 49 = .ok (.iload_n 3, 1) := by decide +kernel
theorem dX6_join_50 : decode cX6_join 50 = .ok (.invokevirtual 99, 3) := by decide +kernel
theorem dX6_join_53 : decode cX6_join 53 = .ok (.putfield 47, 3) := by decide +kernel
theorem dX6_join_56 : decode cX6_join 56 = .ok (.iconst 0, 1) := by decide +kernel
theorem dX6_join_57 : decode cX6_join 57 = .ok (.istore 5, 2) := by decide +kernel
theorem dX6_join_59 : decode cX6_join 59 = .ok (.iload 5, 2) := by decide +kernel
theorem dX6_join_61 : decode cX6_join 61 = .ok (.aload_n 0, 1) := by decide +kernel
theorem dX6_join_62 : decode cX6_join 62 = .ok (.getfield 44, 3) := by decide +kernel
theorem dX6_join_65 : decode cX6_join 65 = .ok (.aload_n 0, 1) := by decide +kernel
theorem dX6_join_66 : decode cX6_join 66 = .ok (.getfield 47, 3) := by decide +kernel
theorem dX6_join_69 : decode cX6_join 69 = .ok (.iadd, 1) := by decide +kernel
theorem dX6_join_70 : decode cX6_join 70 = .ok (.if_icmp .ge 117, 3) := by decide +kernel
theorem dX6_join_73 : decode cX6_join 73 = .ok (.aload_n 0, 1) := by decide +kernel
theorem dX6_join_74 : decode cX6_join 74 = .ok (.iload_n 2, 1) := by decide +kernel
theorem dX6_join_75 : decode cX6_join 75 = .ok (.iload 5, 2) := by decide +kernel
theorem dX6_join_77 : decode cX6_join 77 = .ok (.invokevirtual 60, 3) := by decide +kernel
theorem dX6_join_80 : decode cX6_join 80 = .ok (.istore 6, 2) := by decide +kernel
theorem dX6_join_82 : decode cX6_join 82 = .ok (.aload_n 0, 1) := by decide +kernel
theorem dX6_join_83 : decode cX6_join 83 = .ok (.iload_n 3, 1) := by decide +kernel
theorem dX6_join_84 : decode cX6_join 84 = .ok (.iload 5, 2) := by decide +kernel
theorem dX6_join_86 : decode cX6_join 86 = .ok (.invokevirtual 60, 3) := by decide +kernel
theorem dX6_join_89 : decode cX6_join 89 = .ok (.istore 7, 2) := by decide +kernel
theorem dX6_join_91 : decode cX6_join 91 = .ok (.aload_n 0, 1) := by decide +kernel
theorem dX6_join_92 : decode cX6_join 92 = .ok (.getfield 24, 3) := by decide +kernel
theorem dX6_join_95 : decode cX6_join 95 = .ok (.iload 5, 2) := by decide +kernel
theorem dX6_join_97 : decode cX6_join 97 = .ok (.iload 4, 2) := by decide +kernel
theorem dX6_join_99 : decode cX6_join 99 = .ok (.ifCond .ne 21, 3) := by decide +kernel
theorem dX6_join_102 : decode cX6_join 102 = .ok (.iload 6, 2) := by decide +kernel
theorem dX6_join_104 : decode cX6_join 104 = .ok (.ifCond .ne 8, 3) := by decide +kernel
theorem dX6_join_107 : decode cX6_join 107 = .ok (.iload 7, 2) := by decide +kernel
theorem dX6_join_109 : decode cX6_join 109 = .ok (.ifCond .eq 7, 3) := by decide +kernel
theorem dX6_join_112 : decode cX6_join 112 = .ok (.iconst 1, 1) := by decide +kernel
theorem dX6_join_113 : decode cX6_join 113 = .ok (.goto 67, 3) := by decide +kernel
theorem dX6_join_116 : decode cX6_join 116 = .ok (.iconst 0, 1) := by decide +kernel
theorem dX6_join_117 : decode cX6_join 117 = .ok (.goto 63, 3) := by decide +kernel
theorem dX6_join_120 : decode cX6_join 120 = .ok (.iload 4, 2) := by decide +kernel
theorem dX6_join_122 : decode cX6_join 122 = .ok (.iconst 1, 1) := by decide +kernel
theorem dX6_join_123 : decode cX6_join 123 = .ok (.if_icmp .ne 21, 3) := by decide +kernel
theorem dX6_join_126 : decode cX6_join 126 = .ok (.iload 6, 2) := by decide +kernel
theorem dX6_join_128 : decode cX6_join 128 = .ok (.ifCond .eq 12, 3) := by decide +kernel
theorem dX6_join_131 : decode cX6_join 131 = .ok (.iload 7, 2) := by decide +kernel
theorem dX6_join_133 : decode cX6_join 133 = .ok (.ifCond .eq 7, 3) := by decide +kernel
theorem dX6_join_136 : decode cX6_join 136 = .ok (.iconst 1, 1) := by decide +kernel
theorem dX6_join_137 : decode cX6_join 137 = .ok (.goto 43, 3) := by decide +kernel
theorem dX6_join_140 : decode cX6_join 140 = .ok (.iconst 0, 1) := by decide +kernel
theorem dX6_join_141 : decode cX6_join 141 = .ok (.goto 39, 3) := by decide +kernel
theorem dX6_join_144 : decode cX6_join 144 = .ok (.iload 4, 2) := by decide +kernel
theorem dX6_join_146 : decode cX6_join 146 = .ok (.iconst 2, 1) := by decide +kernel
theorem dX6_join_147 : decode cX6_join 147 = .ok (.if_icmp .ne 21, 3) := by decide +kernel
theorem dX6_join_150 : decode cX6_join 150 = .ok (.iload 6, 2) := by decide +kernel
theorem dX6_join_152 : decode cX6_join 152 = .ok (.ifCond .eq 12, 3) := by decide +kernel
theorem dX6_join_155 : decode cX6_join 155 = .ok (.iload 7, 2) := by decide +kernel
theorem dX6_join_157 : decode cX6_join 157 = .ok (.ifCond .ne 7, 3) := by decide +kernel
theorem dX6_join_160 : decode cX6_join 160 = .ok (.iconst 1, 1) := by decide +kernel
theorem dX6_join_161 : decode cX6_join 161 = .ok (.goto 19, 3) := by decide +kernel
theorem dX6_join_164 : decode cX6_join 164 = .ok (.iconst 0, 1) := by decide +kernel
theorem dX6_join_165 : decode cX6_join 165 = .ok (.goto 15, 3) := by decide +kernel
theorem dX6_join_168 : decode cX6_join 168 = .ok (.iload 6, 2) := by decide +kernel
theorem dX6_join_170 : decode cX6_join 170 = .ok (.iload 7, 2) := by decide +kernel
theorem dX6_join_172 : decode cX6_join 172 = .ok (.if_icmp .eq 7, 3) := by decide +kernel
theorem dX6_join_175 : decode cX6_join 175 = .ok (.iconst 1, 1) := by decide +kernel
theorem dX6_join_176 : decode cX6_join 176 = .ok (.goto 4, 3) := by decide +kernel
theorem dX6_join_179 : decode cX6_join 179 = .ok (.iconst 0, 1) := by decide +kernel
theorem dX6_join_180 : decode cX6_join 180 = .ok (.bastore, 1) := by decide +kernel
theorem dX6_join_181 : decode cX6_join 181 = .ok (.iinc 5 1, 3) := by decide +kernel
theorem dX6_join_184 : decode cX6_join 184 = .ok (.goto (-125), 3) := by decide +kernel
theorem dX6_join_187 : decode cX6_join 187 = .ok (.aload_n 0, 1) := by decide +kernel
theorem dX6_join_188 : decode cX6_join 188 = .ok (.iload_n 1, 1) := by decide +kernel
theorem dX6_join_189 : decode cX6_join 189 = .ok (.invokevirtual 88, 3) := by decide +kernel
theorem dX6_join_192 : decode cX6_join 192 = .ok (.ireturn, 1) := by decide +kernel
theorem dX6_turn_0 : decode cX6_turn 0 = .ok (.iload_n 1, 1) := by decide +kernel
theorem dX6_turn_1 : decode cX6_turn 1 = .ok (.invokestatic 85, 3) := by decide +kernel
theorem dX6_turn_4 : decode cX6_turn 4 = .ok (.ifCond .eq 10, 3) := by decide +kernel
theorem dX6_turn_7 : decode cX6_turn 7 = .ok (.iload_n 2, 1) := by decide +kernel
theorem dX6_turn_8 : decode cX6_turn 8 = .ok (.invokestatic 85, 3) := by decide +kernel
theorem dX6_turn_11 : decode cX6_turn 11 = .ok (.ifCond .ne 5, 3) := by decide +kernel
theorem dX6_turn_14 : decode cX6_turn 14 = .ok (.iconst (-1), 1) := by decide +kernel
theorem dX6_turn_15 : decode cX6_turn 15 = .ok (.ireturn, 1) := by decide +kernel
theorem dX6_turn_16 : decode cX6_turn 16 = .ok (.aload_n 0, 1) := by decide +kernel
theorem dX6_turn_17 : decode cX6_turn 17 = .ok (.aload_n 0, 1) := by decide +kernel
theorem dX6_turn_18 : decode cX6_turn 18 = .ok (.getfield 13, 3) := by decide +kernel
theorem dX6_turn_21 : decode cX6_turn 21 = .ok (.iload_n 2, 1) := by decide +kernel
theorem dX6_turn_22 : decode cX6_turn 22 = .ok (.iaload, 1) := by decide +kernel
theorem dX6_turn_23 : decode cX6_turn 23 = .ok (.putfield 44, 3) := by decide +kernel
theorem dX6_turn_26 : decode cX6_turn 26 = .ok (.aload_n 0, 1) := by decide +kernel
theorem dX6_turn_27 : decode cX6_turn 27 = .ok (.aload_n 0, 1) := by decide +kernel
theorem dX6_turn_28 : decode cX6_turn 28 = .ok (.getfield 17, 3) := by decide +kernel
theorem dX6_turn_31 : decode cX6_turn 31 = .ok (.iload_n 2, 1) := by decide +kernel
theorem dX6_turn_32 : decode cX6_turn 32 = .ok (.iaload, 1) := by decide +kernel
theorem dX6_turn_33 : decode cX6_turn 33 = .ok (.putfield 47, 3) := by decide +kernel
theorem dX6_turn_36 : decode cX6_turn 36 = .ok (.iconst 0, 1) := by decide +kernel
theorem dX6_turn_37 : decode cX6_turn 37 = .ok (.istore_n 3, 1) := by decide +kernel
theorem dX6_turn_38 : decode cX6_turn 38 = .ok (.iload_n 3, 1) := by decide +kernel
theorem dX6_turn_39 : decode cX6_turn 39 = .ok (.aload_n 0, 1) := by decide +kernel
theorem dX6_turn_40 : decode cX6_turn 40 = .ok (.getfield 44, 3) := by decide +kernel
theorem dX6_turn_43 : decode cX6_turn 43 = .ok (.aload_n 0, 1) := by decide +kernel
theorem dX6_turn_44 : decode cX6_turn 44 = .ok (.getfield 47, 3) := by decide +kernel
theorem dX6_turn_47 : decode cX6_turn 47 = .ok (.iadd, 1) := by decide +kernel
theorem dX6_turn_48 : decode cX6_turn 48 = .ok (.if_icmp .ge 29, 3) := by decide +kernel
theorem dX6_turn_51 : decode cX6_turn 51 = .ok (.aload_n 0, 1) := by decide +kernel
theorem dX6_turn_52 : decode cX6_turn 52 = .ok (.getfield 24, 3) := by decide +kernel
theorem dX6_turn_55 : decode cX6_turn 55 = .ok (.iload_n 3, 1) := by decide +kernel
theorem dX6_turn_56 : decode cX6_turn 56 = .ok (.aload_n 0, 1) := by decide +kernel
theorem dX6_turn_57 : decode cX6_turn 57 = .ok (.iload_n 2, 1) := by decide +kernel
theorem dX6_turn_58 : decode cX6_turn 58 = .ok (.iload_n 3, 1) := by decide +kernel
theorem dX6_turn_59 : decode cX6_turn 59 = .ok (.invokevirtual 60, 3) := by decide +kernel
theorem dX6_turn_62 : decode cX6_turn 62 = .ok (.ifCond .ne 7, 3) := by decide +kernel
theorem dX6_turn_65 : decode cX6_turn 65 = .ok (.iconst 1, 1) := by decide +kernel
theorem dX6_turn_66 : decode cX6_turn 66 = .ok (.goto 4, 3) := by decide +kernel
theorem dX6_turn_69 : decode cX6_turn 69 = .ok (.iconst 0, 1) := by decide +kernel
theorem dX6_turn_70 : decode cX6_turn 70 = .ok (.bastore, 1) := by decide +kernel
theorem dX6_turn_71 : decode cX6_turn 71 = .ok (.iinc 3 1, 3) := by decide +kernel
theorem dX6_turn_74 : decode cX6_turn 74 = .ok (.goto (-36), 3) := by decide +kernel
theorem dX6_turn_77 : decode cX6_turn 77 = .ok (.aload_n 0, 1) := by decide +kernel
theorem dX6_turn_78 : decode cX6_turn 78 = .ok (.iload_n 1, 1) := by decide +kernel
theorem dX6_turn_79 : decode cX6_turn 79 = .ok (.invokevirtual 88, 3) := by decide +kernel
theorem dX6_turn_82 : decode cX6_turn 82 = .ok (.ireturn, 1) := by decide +kernel
theorem dX6_shift_0 : decode cX6_shift 0 = .ok (.iload_n 1, 1) := by decide +kernel
theorem dX6_shift_1 : decode cX6_shift 1 = .ok (.invokestatic 85, 3) := by decide +kernel
theorem dX6_shift_4 : decode cX6_shift 4 = .ok (.ifCond .eq 10, 3) := by decide +kernel
theorem dX6_shift_7 : decode cX6_shift 7 = .ok (.iload_n 2, 1) := by decide +kernel
theorem dX6_shift_8 : decode cX6_shift 8 = .ok (.invokestatic 85, 3) := by decide +kernel
theorem dX6_shift_11 : decode cX6_shift 11 = .ok (.ifCond .ne 5, 3) := by decide +kernel
theorem dX6_shift_14 : decode cX6_shift 14 = .ok (.iconst (-1), 1) := by decide +kernel
theorem dX6_shift_15 : decode cX6_shift 15 = .ok (.ireturn, 1) := by decide +kernel
theorem dX6_shift_16 : decode cX6_shift 16 = .ok (.iload_n 3, 1) := by decide +kernel
theorem dX6_shift_17 : decode cX6_shift 17 = .ok (.bipush (-100), 2) := by decide +kernel
theorem dX6_shift_19 : decode cX6_shift 19 = .ok (.bipush 100, 2) := by decide +kernel
theorem dX6_shift_21 : decode cX6_shift 21 = .ok (.invokestatic 40, 3) := by decide +kernel
theorem dX6_shift_24 : decode cX6_shift 24 = .ok (.ifCond .ne 6, 3) := by decide +kernel
theorem dX6_shift_27 : decode cX6_shift 27 = .ok (.bipush (-2), 2) := by decide +kernel
theorem dX6_shift_29 : decode cX6_shift 29 = .ok (.ireturn, 1) := by decide +kernel
theorem dX6_shift_30 : decode cX6_shift 30 = .ok (.aload_n 0, 1) := by decide +kernel
theorem dX6_shift_31 : decode cX6_shift 31 = .ok (.aload_n 0, 1) := by decide +kernel
theorem dX6_shift_32 : decode cX6_shift 32 = .ok (.getfield 13, 3) := by decide +kernel
theorem dX6_shift_35 : decode cX6_shift 35 = .ok (.iload_n 2, 1) := by decide +kernel
theorem dX6_shift_36 : decode cX6_shift 36 = .ok (.iaload, 1) := by decide +kernel
theorem dX6_shift_37 : decode cX6_shift 37 = .ok (.iload_n 3, 1) := by decide +kernel
theorem dX6_shift_38 : decode cX6_shift 38 = .ok (.iadd, 1) := by decide +kernel
theorem dX6_shift_39 : decode cX6_shift 39 = .ok (.ifCond .le 14, 3) := by decide +kernel
theorem dX6_shift_42 : decode cX6_shift 42 = .ok (.aload_n 0, 1) := by decide +kernel
theorem dX6_shift_43 : decode cX6_shift 43 = .ok (.getfield 13, 3) := by decide +kernel
theorem dX6_shift_46 : decode cX6_shift 46 = .ok (.iload_n 2, 1) := by decide +kernel
theorem dX6_shift_47 : decode cX6_shift 47 = .ok (.iaload, 1) := by decide +kernel
theorem dX6_shift_48 : decode cX6_shift 48 = .ok (.iload_n 3, 1) := by decide +kernel
theorem dX6_shift_49 : decode cX6_shift 49 = .ok (.iadd, 1) := by decide +kernel
theorem dX6_shift_50 : decode cX6_shift 50 = .ok (.goto 4, 3) := by decide +kernel
theorem dX6_shift_53 : decode cX6_shift 53 = .ok (.iconst 0, 1) := by decide +kernel
theorem dX6_shift_54 : decode cX6_shift 54 = .ok (.putfield 44, 3) := by decide +kernel
theorem dX6_shift_57 : decode cX6_shift 57 = .ok (.aload_n 0, 1) := by decide +kernel
theorem dX6_shift_58 : decode cX6_shift 58 = .ok (.aload_n 0, 1) := by decide +kernel
theorem dX6_shift_59 : decode cX6_shift 59 = .ok (.getfield 17, 3) := by decide +kernel
theorem dX6_shift_62 : decode cX6_shift 62 = .ok (.iload_n 2, 1) := by decide +kernel
theorem dX6_shift_63 : decode cX6_shift 63 = .ok (.iaload, 1) := by decide +kernel
theorem dX6_shift_64 : decode cX6_shift 64 = .ok (.putfield 47, 3) := by decide +kernel
theorem dX6_shift_67 : decode cX6_shift 67 = .ok (.iconst 0, 1) := by decide +kernel
theorem dX6_shift_68 : decode cX6_shift 68 = .ok (.istore 4, 2) := by decide +kernel
theorem dX6_shift_70 : decode cX6_shift 70 = .ok (.iload 4, 2) := by decide +kernel
theorem dX6_shift_72 : decode cX6_shift 72 = .ok (.aload_n 0, 1) := by decide +kernel
theorem dX6_shift_73 : decode cX6_shift 73 = .ok (.getfield 44, 3) := by decide +kernel
theorem dX6_shift_76 : decode cX6_shift 76 = .ok (.aload_n 0, 1) := by decide +kernel
theorem dX6_shift_77 : decode cX6_shift 77 = .ok (.getfield 47, 3) := by decide +kernel
theorem dX6_shift_80 : decode cX6_shift 80 = .ok (.iadd, 1) := by decide +kernel
theorem dX6_shift_81 : decode cX6_shift 81 = .ok (.if_icmp .ge 39, 3) := by decide +kernel
theorem dX6_shift_84 : decode cX6_shift 84 = .ok (.aload_n 0, 1) := by decide +kernel
theorem dX6_shift_85 : decode cX6_shift 85 = .ok (.getfield 24, 3) := by decide +kernel
theorem dX6_shift_88 : decode cX6_shift 88 = .ok (.iload 4, 2) := by decide +kernel
theorem dX6_shift_90 : decode cX6_shift 90 = .ok (.iload 4, 2) := by decide +kernel
theorem dX6_shift_92 : decode cX6_shift 92 = .ok (.iload_n 3, 1) := by decide +kernel
theorem dX6_shift_93 : decode cX6_shift 93 = .ok (.if_icmp .lt 19, 3) := by decide +kernel
theorem dX6_shift_96 : decode cX6_shift 96 = .ok (.aload_n 0, 1) := by decide +kernel
theorem dX6_shift_97 : decode cX6_shift 97 = .ok (.iload_n 2, 1) := by decide +kernel
theorem dX6_shift_98 : decode cX6_shift 98 = .ok (.iload 4, 2) := by decide +kernel
theorem dX6_shift_100 : decode cX6_shift 100 = .ok (.iload_n 3, 1) := by decide +kernel
theorem dX6_shift_101 : decode cX6_shift 101 = .ok (.isub, 1) := by decide +kernel
theorem dX6_shift_102 : decode cX6_shift 102 = .ok (.invokevirtual 60, 3) := by decide +kernel
theorem dX6_shift_105 : decode cX6_shift 105 = .ok (.ifCond .eq 7, 3) := by decide +kernel
theorem dX6_shift_108 : decode cX6_shift 108 = .ok (.iconst 1, 1) := by decide +kernel
theorem dX6_shift_109 : decode cX6_shift 109 = .ok (.goto 4, 3) := by decide +kernel
theorem dX6_shift_112 : decode cX6_shift 112 = .ok (.iconst 0, 1) := by decide +kernel
theorem dX6_shift_113 : decode cX6_shift 113 = .ok (.bastore, 1) := by decide +kernel
theorem dX6_shift_114 : decode cX6_shift 114 = .ok (.iinc 4 1, 3) := by decide +kernel
theorem dX6_shift_117 : decode cX6_shift 117 = .ok (.goto (-47), 3) := by decide +kernel
theorem dX6_shift_120 : decode cX6_shift 120 = .ok (.aload_n 0, 1) := by decide +kernel
theorem dX6_shift_121 : decode cX6_shift 121 = .ok (.iload_n 1, 1) := by decide +kernel
theorem dX6_shift_122 : decode cX6_shift 122 = .ok (.invokevirtual 88, 3) := by decide +kernel
theorem dX6_shift_125 : decode cX6_shift 125 = .ok (.ireturn, 1) := by decide +kernel
theorem dX6_stretch_0 : decode cX6_stretch 0 = .ok (.iload_n 1, 1) := by decide +kernel
theorem dX6_stretch_1 : decode cX6_stretch 1 = .ok (.invokestatic 85, 3) := by decide +kernel
theorem dX6_stretch_4 : decode cX6_stretch 4 = .ok (.ifCond .eq 10, 3) := by decide +kernel
theorem dX6_stretch_7 : decode cX6_stretch 7 = .ok (.iload_n 2, 1) := by decide +kernel
theorem dX6_stretch_8 : decode cX6_stretch 8 = .ok (.invokestatic 85, 3) := by decide +kernel
theorem dX6_stretch_11 : decode cX6_stretch 11 = .ok (.ifCond .ne 5, 3) := by decide +kernel
theorem dX6_stretch_14 : decode cX6_stretch 14 = .ok (.iconst (-1), 1) := by decide +kernel
theorem dX6_stretch_15 : decode cX6_stretch 15 = .ok (.ireturn, 1) := by decide +kernel
theorem dX6_stretch_16 : decode cX6_stretch 16 = .ok (.iload_n 3, 1) := by decide +kernel
theorem dX6_stretch_17 : decode cX6_stretch 17 = .ok (.iconst 1, 1) := by decide +kernel
theorem dX6_stretch_18 : decode cX6_stretch 18 = .ok (.bipush 12, 2) := by decide +kernel
theorem dX6_stretch_20 : decode cX6_stretch 20 = .ok (.invokestatic 40, 3) := by decide +kernel
theorem dX6_stretch_23 : decode cX6_stretch 23 = .ok (.ifCond .eq 14, 3) := by decide +kernel
theorem dX6_stretch_26 : decode cX6_stretch 26 = .ok (.iload 4, 2) := by decide +kernel
theorem dX6_stretch_28 : decode cX6_stretch 28 = .ok (.iconst 0, 1) := by decide +kernel
theorem dX6_stretch_29 : decode cX6_stretch 29 = .ok (.bipush 20, 2) := by decide +kernel
theorem dX6_stretch_31 : decode cX6_stretch 31 = .ok (.invokestatic 40, 3) := by decide +kernel
theorem dX6_stretch_34 : decode cX6_stretch 34 = .ok (.ifCond .ne 6, 3) := by decide +kernel
theorem dX6_stretch_37 : decode cX6_stretch 37 = .ok (.bipush (-2), 2) := by decide +kernel
theorem dX6_stretch_39 : decode cX6_stretch 39 = .ok (.ireturn, 1) := by decide +kernel
theorem dX6_stretch_40 : decode cX6_stretch 40 = .ok (.aload_n 0, 1) := by decide +kernel
theorem dX6_stretch_41 : decode cX6_stretch 41 = .ok (.iload_n 3, 1) := by decide +kernel
theorem dX6_stretch_42 : decode cX6_stretch 42 = .ok (.aload_n 0, 1) := by decide +kernel
theorem dX6_stretch_43 : decode cX6_stretch 43 = .ok (.getfield 13, 3) := by decide +kernel
theorem dX6_stretch_46 : decode cX6_stretch 46 = .ok (.iload_n 2, 1) := by decide +kernel
theorem dX6_stretch_47 : decode cX6_stretch 47 = .ok (.iaload, 1) := by decide +kernel
theorem dX6_stretch_48 : decode cX6_stretch 48 = .ok (.imul, 1) := by decide +kernel
theorem dX6_stretch_49 : decode cX6_stretch 49 = .ok (.iload 4, 2) := by decide +kernel
theorem dX6_stretch_51 : decode cX6_stretch 51 = .ok (.iadd, 1) := by decide +kernel
theorem dX6_stretch_52 : decode cX6_stretch 52 = .ok (.putfield 44, 3) := by decide +kernel
theorem dX6_stretch_55 : decode cX6_stretch 55 = .ok (.aload_n 0, 1) := by decide +kernel
theorem dX6_stretch_56 : decode cX6_stretch 56 = .ok (.iload_n 3, 1) := by decide +kernel
theorem dX6_stretch_57 : decode cX6_stretch 57 = .ok (.aload_n 0, 1) := by decide +kernel
theorem dX6_stretch_58 : decode cX6_stretch 58 = .ok (.getfield 17, 3) := by decide +kernel
theorem dX6_stretch_61 : decode cX6_stretch 61 = .ok (.iload_n 2, 1) := by decide +kernel
theorem dX6_stretch_62 : decode cX6_stretch 62 = .ok (.iaload, 1) := by decide +kernel
theorem dX6_stretch_63 : decode cX6_stretch 63 = .ok (.imul, 1) := by decide +kernel
theorem dX6_stretch_64 : decode cX6_stretch 64 = .ok (.putfield 47, 3) := by decide +kernel
theorem dX6_stretch_67 : decode cX6_stretch 67 = .ok (.iconst 0, 1) := by decide +kernel
theorem dX6_stretch_68 : decode cX6_stretch 68 = .ok (.istore 5, 2) := by decide +kernel
theorem dX6_stretch_70 : decode cX6_stretch 70 = .ok (.iload 5, 2) := by decide +kernel
theorem dX6_stretch_72 : decode cX6_stretch 72 = .ok (.aload_n 0, 1) := by decide +kernel
theorem dX6_stretch_73 : decode cX6_stretch 73 = .ok (.getfield 44, 3) := by decide +kernel
theorem dX6_stretch_76 : decode cX6_stretch 76 = .ok (.aload_n 0, 1) := by decide +kernel
theorem dX6_stretch_77 : decode cX6_stretch 77 = .ok (.getfield 47, 3) := by decide +kernel
theorem dX6_stretch_80 : decode cX6_stretch 80 = .ok (.iadd, 1) := by decide +kernel
theorem dX6_stretch_81 : decode cX6_stretch 81 = .ok (.if_icmp .ge 53, 3) := by decide +kernel
theorem dX6_stretch_84 : decode cX6_stretch 84 = .ok (.aload_n 0, 1) := by decide +kernel
theorem dX6_stretch_85 : decode cX6_stretch 85 = .ok (.getfield 24, 3) := by decide +kernel
theorem dX6_stretch_88 : decode cX6_stretch 88 = .ok (.iload 5, 2) := by decide +kernel
theorem dX6_stretch_90 : decode cX6_stretch 90 = .ok (.iload 5, 2) := by decide +kernel
theorem dX6_stretch_92 : decode cX6_stretch 92 = .ok (.iload 4, 2) := by decide +kernel
theorem dX6_stretch_94 : decode cX6_stretch 94 = .ok (.if_icmp .lt 32, 3) := by decide +kernel
theorem dX6_stretch_97 : decode cX6_stretch 97 = .ok (.iload 5, 2) := by decide +kernel
theorem dX6_stretch_99 : decode cX6_stretch 99 = .ok (.iload 4, 2) := by decide +kernel
theorem dX6_stretch_101 : decode cX6_stretch 101 = .ok (.isub, 1) := by decide +kernel
theorem dX6_stretch_102 : decode cX6_stretch 102 = .ok (.iload_n 3, 1) := by decide +kernel
theorem dX6_stretch_103 : decode cX6_stretch 103 = .ok (.irem, 1) := by decide +kernel
theorem dX6_stretch_104 : decode cX6_stretch 104 = .ok (.ifCond .ne 22, 3) := by decide +kernel
theorem dX6_stretch_107 : decode cX6_stretch 107 = .ok (.aload_n 0, 1) := by decide +kernel
theorem dX6_stretch_108 : decode cX6_stretch 108 = .ok (.iload_n 2, 1) := by decide +kernel
theorem dX6_stretch_109 : decode cX6_stretch 109 = .ok (.iload 5, 2) := by decide +kernel
theorem dX6_stretch_111 : decode cX6_stretch 111 = .ok (.iload 4, 2) := by decide +kernel
theorem dX6_stretch_113 : decode cX6_stretch 113 = .ok (.isub, 1) := by decide +kernel
theorem dX6_stretch_114 : decode cX6_stretch 114 = .ok (.iload_n 3, 1) := by decide +kernel
theorem dX6_stretch_115 : decode cX6_stretch 115 = .ok (.idiv, 1) := by decide +kernel
theorem dX6_stretch_116 : decode cX6_stretch 116 = .ok (.invokevirtual 60, 3) := by decide +kernel
theorem dX6_stretch_119 : decode cX6_stretch 119 = .ok (.ifCond .eq 7, 3) := by decide +kernel
theorem dX6_stretch_122 : decode cX6_stretch 122 = .ok (.iconst 1, 1) := by decide +kernel
theorem dX6_stretch_123 : decode cX6_stretch 123 = .ok (.goto 4, 3) := by decide +kernel
end
section
theorem dX6_stretch_126 : decode cX6_stretch 126 = .ok (.iconst 0, 1) := by decide +kernel
theorem dX6_stretch_127 : decode cX6_stretch 127 = .ok (.bastore, 1) := by decide +kernel
theorem dX6_stretch_128 : decode cX6_stretch 128 = .ok (.iinc 5 1, 3) := by decide +kernel
theorem dX6_stretch_131 : decode cX6_stretch 131 = .ok (.goto (-61), 3) := by decide +kernel
theorem dX6_stretch_134 : decode cX6_stretch 134 = .ok (.aload_n 0, 1) := by decide +kernel
theorem dX6_stretch_135 : decode cX6_stretch 135 = .ok (.iload_n 1, 1) := by decide +kernel
theorem dX6_stretch_136 : decode cX6_stretch 136 = .ok (.invokevirtual 88, 3) := by decide +kernel
theorem dX6_stretch_139 : decode cX6_stretch 139 = .ok (.ireturn, 1) := by decide +kernel
theorem dX6_shrink_0 : decode cX6_shrink 0 = .ok (.iload_n 1, 1) := by decide +kernel
theorem dX6_shrink_1 : decode cX6_shrink 1 = .ok (.invokestatic 85, 3) := by decide +kernel
theorem dX6_shrink_4 : decode cX6_shrink 4 = .ok (.ifCond .eq 10, 3) := by decide +kernel
theorem dX6_shrink_7 : decode cX6_shrink 7 = .ok (.iload_n 2, 1) := by decide +kernel
theorem dX6_shrink_8 : decode cX6_shrink 8 = .ok (.invokestatic 85, 3) := by decide +kernel
theorem dX6_shrink_11 : decode cX6_shrink 11 = .ok (.ifCond .ne 5, 3) := by decide +kernel
theorem dX6_shrink_14 : decode cX6_shrink 14 = .ok (.iconst (-1), 1) := by decide +kernel
theorem dX6_shrink_15 : decode cX6_shrink 15 = .ok (.ireturn, 1) := by decide +kernel
theorem dX6_shrink_16 : decode cX6_shrink 16 = .ok (.iload_n 3, 1) := by decide +kernel
theorem dX6_shrink_17 : decode cX6_shrink 17 = .ok (.iconst 1, 1) := by decide +kernel
theorem dX6_shrink_18 : decode cX6_shrink 18 = .ok (.bipush 12, 2) := by decide +kernel
theorem dX6_shrink_20 : decode cX6_shrink 20 = .ok (.invokestatic 40, 3) := by decide +kernel
theorem dX6_shrink_23 : decode cX6_shrink 23 = .ok (.ifCond .eq 14, 3) := by decide +kernel
theorem dX6_shrink_26 : decode cX6_shrink 26 = .ok (.iload 4, 2) := by decide +kernel
theorem dX6_shrink_28 : decode cX6_shrink 28 = .ok (.iconst 0, 1) := by decide +kernel
theorem dX6_shrink_29 : decode cX6_shrink 29 = .ok (.bipush 20, 2) := by decide +kernel
theorem dX6_shrink_31 : decode cX6_shrink 31 = .ok (.invokestatic 40, 3) := by decide +kernel
theorem dX6_shrink_34 : decode cX6_shrink 34 = .ok (.ifCond .ne 6, 3) := by decide +kernel
theorem dX6_shrink_37 : decode cX6_shrink 37 = .ok (.bipush (-2), 2) := by decide +kernel
theorem dX6_shrink_39 : decode cX6_shrink 39 = .ok (.ireturn, 1) := by decide +kernel
theorem dX6_shrink_40 : decode cX6_shrink 40 = .ok (.aload_n 0, 1) := by decide +kernel
theorem dX6_shrink_41 : decode cX6_shrink 41 = .ok (.aload_n 0, 1) := by decide +kernel
theorem dX6_shrink_42 : decode cX6_shrink 42 = .ok (.getfield 13, 3) := by decide +kernel
theorem dX6_shrink_45 : decode cX6_shrink 45 = .ok (.iload_n 2, 1) := by decide +kernel
theorem dX6_shrink_46 : decode cX6_shrink 46 = .ok (.iaload, 1) := by decide +kernel
theorem dX6_shrink_47 : decode cX6_shrink 47 = .ok (.putfield 44, 3) := by decide +kernel
theorem dX6_shrink_50 : decode cX6_shrink 50 = .ok (.aload_n 0, 1) := by decide +kernel
theorem dX6_shrink_51 : decode cX6_shrink 51 = .ok (.aload_n 0, 1) := by decide +kernel
theorem dX6_shrink_52 : decode cX6_shrink 52 = .ok (.getfield 17, 3) := by decide +kernel
theorem dX6_shrink_55 : decode cX6_shrink 55 = .ok (.iload_n 2, 1) := by decide +kernel
theorem dX6_shrink_56 : decode cX6_shrink 56 = .ok (.iaload, 1) := by decide +kernel
theorem dX6_shrink_57 : decode cX6_shrink 57 = .ok (.putfield 47, 3) := by decide +kernel
theorem dX6_shrink_60 : decode cX6_shrink 60 = .ok (.iconst 0, 1) := by decide +kernel
theorem dX6_shrink_61 : decode cX6_shrink 61 = .ok (.istore 5, 2) := by decide +kernel
theorem dX6_shrink_63 : decode cX6_shrink 63 = .ok (.iload 5, 2) := by decide +kernel
theorem dX6_shrink_65 : decode cX6_shrink 65 = .ok (.aload_n 0, 1) := by decide +kernel
theorem dX6_shrink_66 : decode cX6_shrink 66 = .ok (.getfield 44, 3) := by decide +kernel
theorem dX6_shrink_69 : decode cX6_shrink 69 = .ok (.aload_n 0, 1) := by decide +kernel
theorem dX6_shrink_70 : decode cX6_shrink 70 = .ok (.getfield 47, 3) := by decide +kernel
theorem dX6_shrink_73 : decode cX6_shrink 73 = .ok (.iadd, 1) := by decide +kernel
theorem dX6_shrink_74 : decode cX6_shrink 74 = .ok (.if_icmp .ge 28, 3) := by decide +kernel
theorem dX6_shrink_77 : decode cX6_shrink 77 = .ok (.aload_n 0, 1) := by decide +kernel
theorem dX6_shrink_78 : decode cX6_shrink 78 = .ok (.getfield 24, 3) := by decide +kernel
theorem dX6_shrink_81 : decode cX6_shrink 81 = .ok (.iload 5, 2) := by decide +kernel
theorem dX6_shrink_83 : decode cX6_shrink 83 = .ok (.aload_n 0, 1) := by decide +kernel
theorem dX6_shrink_84 : decode cX6_shrink 84 = .ok (.iload_n 2, 1) := by decide +kernel
theorem dX6_shrink_85 : decode cX6_shrink 85 = .ok (.iload_n 3, 1) := by decide +kernel
theorem dX6_shrink_86 : decode cX6_shrink 86 = .ok (.iload 5, 2) := by decide +kernel
theorem dX6_shrink_88 : decode cX6_shrink 88 = .ok (.imul, 1) := by decide +kernel
theorem dX6_shrink_89 : decode cX6_shrink 89 = .ok (.iload 4, 2) := by decide +kernel
theorem dX6_shrink_91 : decode cX6_shrink 91 = .ok (.iadd, 1) := by decide +kernel
theorem dX6_shrink_92 : decode cX6_shrink 92 = .ok (.invokevirtual 60, 3) := by decide +kernel
theorem dX6_shrink_95 : decode cX6_shrink 95 = .ok (.bastore, 1) := by decide +kernel
theorem dX6_shrink_96 : decode cX6_shrink 96 = .ok (.iinc 5 1, 3) := by decide +kernel
theorem dX6_shrink_99 : decode cX6_shrink 99 = .ok (.goto (-36), 3) := by decide +kernel
theorem dX6_shrink_102 : decode cX6_shrink 102 = .ok (.aload_n 0, 1) := by decide +kernel
theorem dX6_shrink_103 : decode cX6_shrink 103 = .ok (.iload_n 1, 1) := by decide +kernel
theorem dX6_shrink_104 : decode cX6_shrink 104 = .ok (.invokevirtual 88, 3) := by decide +kernel
theorem dX6_shrink_107 : decode cX6_shrink 107 = .ok (.ireturn, 1) := by decide +kernel
theorem dX6_countUpTo_0 : decode cX6_countUpTo 0 = .ok (.iconst 0, 1) := by decide +kernel
theorem dX6_countUpTo_1 : decode cX6_countUpTo 1 = .ok (.istore 4, 2) := by decide +kernel
theorem dX6_countUpTo_3 : decode cX6_countUpTo 3 = .ok (.iload_n 2, 1) := by decide +kernel
theorem dX6_countUpTo_4 : decode cX6_countUpTo 4 = .ok (.istore 5, 2) := by decide +kernel
theorem dX6_countUpTo_6 : decode cX6_countUpTo 6 = .ok (.iload 5, 2) := by decide +kernel
theorem dX6_countUpTo_8 : decode cX6_countUpTo 8 = .ok (.iload_n 3, 1) := by decide +kernel
theorem dX6_countUpTo_9 : decode cX6_countUpTo 9 = .ok (.if_icmp .ge 29, 3) := by decide +kernel
theorem dX6_countUpTo_12 : decode cX6_countUpTo 12 = .ok (.iload 4, 2) := by decide +kernel
theorem dX6_countUpTo_14 : decode cX6_countUpTo 14 = .ok (.aload_n 0, 1) := by decide +kernel
theorem dX6_countUpTo_15 : decode cX6_countUpTo 15 = .ok (.iload_n 1, 1) := by decide +kernel
theorem dX6_countUpTo_16 : decode cX6_countUpTo 16 = .ok (.iload 5, 2) := by decide +kernel
theorem dX6_countUpTo_18 : decode cX6_countUpTo 18 = .ok (.invokevirtual 60, 3) := by decide +kernel
theorem dX6_countUpTo_21 : decode cX6_countUpTo 21 = .ok (.ifCond .eq 7, 3) := by decide +kernel
theorem dX6_countUpTo_24 : decode cX6_countUpTo 24 = .ok (.iconst 1, 1) := by decide +kernel
theorem dX6_countUpTo_25 : decode cX6_countUpTo 25 = .ok (.goto 4, 3) := by decide +kernel
theorem dX6_countUpTo_28 : decode cX6_countUpTo 28 = .ok (.iconst 0, 1) := by decide +kernel
theorem dX6_countUpTo_29 : decode cX6_countUpTo 29 = .ok (.iadd, 1) := by decide +kernel
theorem dX6_countUpTo_30 : decode cX6_countUpTo 30 = .ok (.istore 4, 2) := by decide +kernel
theorem dX6_countUpTo_32 : decode cX6_countUpTo 32 = .ok (.iinc 5 1, 3) := by decide +kernel
theorem dX6_countUpTo_35 : decode cX6_countUpTo 35 = .ok (.goto (-29), 3) := by decide +kernel
theorem dX6_countUpTo_38 : decode cX6_countUpTo 38 = .ok (.iload 4, 2) := by decide +kernel
theorem dX6_countUpTo_40 : decode cX6_countUpTo 40 = .ok (.ireturn, 1) := by decide +kernel
theorem dX6_isGood_0 : decode cX6_isGood 0 = .ok (.aload_n 0, 1) := by decide +kernel
theorem dX6_isGood_1 : decode cX6_isGood 1 = .ok (.bipush 18, 2) := by decide +kernel
theorem dX6_isGood_3 : decode cX6_isGood 3 = .ok (.iload_n 1, 1) := by decide +kernel
theorem dX6_isGood_4 : decode cX6_isGood 4 = .ok (.iadd, 1) := by decide +kernel
theorem dX6_isGood_5 : decode cX6_isGood 5 = .ok (.iconst 0, 1) := by decide +kernel
theorem dX6_isGood_6 : decode cX6_isGood 6 = .ok (.invokevirtual 60, 3) := by decide +kernel
theorem dX6_isGood_9 : decode cX6_isGood 9 = .ok (.ireturn, 1) := by decide +kernel
theorem dX6_told_0 : decode cX6_told 0 = .ok (.iload_n 1, 1) := by decide +kernel
theorem dX6_told_1 : decode cX6_told 1 = .ok (.invokestatic 85, 3) := by decide +kernel
theorem dX6_told_4 : decode cX6_told 4 = .ok (.ifCond .ne 5, 3) := by decide +kernel
theorem dX6_told_7 : decode cX6_told 7 = .ok (.iconst (-1), 1) := by decide +kernel
theorem dX6_told_8 : decode cX6_told 8 = .ok (.ireturn, 1) := by decide +kernel
theorem dX6_told_9 : decode cX6_told 9 = .ok (.iload_n 2, 1) := by decide +kernel
theorem dX6_told_10 : decode cX6_told 10 = .ok (.iconst 0, 1) := by decide +kernel
theorem dX6_told_11 : decode cX6_told 11 = .ok (.iconst 5, 1) := by decide +kernel
theorem dX6_told_12 : decode cX6_told 12 = .ok (.invokestatic 40, 3) := by decide +kernel
theorem dX6_told_15 : decode cX6_told 15 = .ok (.ifCond .ne 6, 3) := by decide +kernel
theorem dX6_told_18 : decode cX6_told 18 = .ok (.bipush (-2), 2) := by decide +kernel
theorem dX6_told_20 : decode cX6_told 20 = .ok (.ireturn, 1) := by decide +kernel
theorem dX6_told_21 : decode cX6_told 21 = .ok (.aload_n 0, 1) := by decide +kernel
theorem dX6_told_22 : decode cX6_told 22 = .ok (.getfield 13, 3) := by decide +kernel
theorem dX6_told_25 : decode cX6_told 25 = .ok (.iload_n 1, 1) := by decide +kernel
theorem dX6_told_26 : decode cX6_told 26 = .ok (.iaload, 1) := by decide +kernel
theorem dX6_told_27 : decode cX6_told 27 = .ok (.istore_n 3, 1) := by decide +kernel
theorem dX6_told_28 : decode cX6_told 28 = .ok (.aload_n 0, 1) := by decide +kernel
theorem dX6_told_29 : decode cX6_told 29 = .ok (.getfield 17, 3) := by decide +kernel
theorem dX6_told_32 : decode cX6_told 32 = .ok (.iload_n 1, 1) := by decide +kernel
theorem dX6_told_33 : decode cX6_told 33 = .ok (.iaload, 1) := by decide +kernel
theorem dX6_told_34 : decode cX6_told 34 = .ok (.istore 4, 2) := by decide +kernel
theorem dX6_told_36 : decode cX6_told 36 = .ok (.aload_n 0, 1) := by decide +kernel
theorem dX6_told_37 : decode cX6_told 37 = .ok (.iload_n 1, 1) := by decide +kernel
theorem dX6_told_38 : decode cX6_told 38 = .ok (.invokevirtual 81, 3) := by decide +kernel
theorem dX6_told_41 : decode cX6_told 41 = .ok (.iconst 0, 1) := by decide +kernel
theorem dX6_told_42 : decode cX6_told 42 = .ok (.istore 5, 2) := by decide +kernel
theorem dX6_told_44 : decode cX6_told 44 = .ok (.iconst 0, 1) := by decide +kernel
theorem dX6_told_45 : decode cX6_told 45 = .ok (.istore 6, 2) := by decide +kernel
theorem dX6_told_47 : decode cX6_told 47 = .ok (.iload 6, 2) := by decide +kernel
theorem dX6_told_49 : decode cX6_told 49 = .ok (.aload_n 0, 1) := by decide +kernel
theorem dX6_told_50 : decode cX6_told 50 = .ok (.getfield 71, 3) := by decide +kernel
theorem dX6_told_53 : decode cX6_told 53 = .ok (.if_icmp .ge 28, 3) := by decide +kernel
theorem dX6_told_56 : decode cX6_told 56 = .ok (.iload 5, 2) := by decide +kernel
theorem dX6_told_58 : decode cX6_told 58 = .ok (.aload_n 0, 1) := by decide +kernel
theorem dX6_told_59 : decode cX6_told 59 = .ok (.iload 6, 2) := by decide +kernel
theorem dX6_told_61 : decode cX6_told 61 = .ok (.invokevirtual 102, 3) := by decide +kernel
theorem dX6_told_64 : decode cX6_told 64 = .ok (.ifCond .eq 7, 3) := by decide +kernel
theorem dX6_told_67 : decode cX6_told 67 = .ok (.iconst 1, 1) := by decide +kernel
theorem dX6_told_68 : decode cX6_told 68 = .ok (.goto 4, 3) := by decide +kernel
theorem dX6_told_71 : decode cX6_told 71 = .ok (.iconst 0, 1) := by decide +kernel
theorem dX6_told_72 : decode cX6_told 72 = .ok (.iadd, 1) := by decide +kernel
theorem dX6_told_73 : decode cX6_told 73 = .ok (.istore 5, 2) := by decide +kernel
theorem dX6_told_75 : decode cX6_told 75 = .ok (.iinc 6 1, 3) := by decide +kernel
theorem dX6_told_78 : decode cX6_told 78 = .ok (.goto (-31), 3) := by decide +kernel
theorem dX6_told_81 : decode cX6_told 81 = .ok (.iload_n 2, 1) := by decide +kernel
theorem dX6_told_82 : decode cX6_told 82 = .ok (.ifCond .ne 7, 3) := by decide +kernel
theorem dX6_told_85 : decode cX6_told 85 = .ok (.iload_n 3, 1) := by decide +kernel
theorem dX6_told_86 : decode cX6_told 86 = .ok (.goto 60, 3) := by decide +kernel
theorem dX6_told_89 : decode cX6_told 89 = .ok (.iload_n 2, 1) := by decide +kernel
theorem dX6_told_90 : decode cX6_told 90 = .ok (.iconst 1, 1) := by decide +kernel
theorem dX6_told_91 : decode cX6_told 91 = .ok (.if_icmp .ne 8, 3) := by decide +kernel
theorem dX6_told_94 : decode cX6_told 94 = .ok (.iload 4, 2) := by decide +kernel
theorem dX6_told_96 : decode cX6_told 96 = .ok (.goto 50, 3) := by decide +kernel
theorem dX6_told_99 : decode cX6_told 99 = .ok (.iload_n 2, 1) := by decide +kernel
theorem dX6_told_100 : decode cX6_told 100 = .ok (.iconst 2, 1) := by decide +kernel
theorem dX6_told_101 : decode cX6_told 101 = .ok (.if_icmp .ne 10, 3) := by decide +kernel
theorem dX6_told_104 : decode cX6_told 104 = .ok (.aload_n 0, 1) := by decide +kernel
theorem dX6_told_105 : decode cX6_told 105 = .ok (.getfield 71, 3) := by decide +kernel
theorem dX6_told_108 : decode cX6_told 108 = .ok (.goto 38, 3) := by decide +kernel
theorem dX6_told_111 : decode cX6_told 111 = .ok (.iload_n 2, 1) := by decide +kernel
theorem dX6_told_112 : decode cX6_told 112 = .ok (.iconst 3, 1) := by decide +kernel
theorem dX6_told_113 : decode cX6_told 113 = .ok (.if_icmp .ne 8, 3) := by decide +kernel
theorem dX6_told_116 : decode cX6_told 116 = .ok (.iload 5, 2) := by decide +kernel
theorem dX6_told_118 : decode cX6_told 118 = .ok (.goto 28, 3) := by decide +kernel
theorem dX6_told_121 : decode cX6_told 121 = .ok (.iload_n 2, 1) := by decide +kernel
theorem dX6_told_122 : decode cX6_told 122 = .ok (.iconst 4, 1) := by decide +kernel
theorem dX6_told_123 : decode cX6_told 123 = .ok (.if_icmp .ne 13, 3) := by decide +kernel
theorem dX6_told_126 : decode cX6_told 126 = .ok (.aload_n 0, 1) := by decide +kernel
theorem dX6_told_127 : decode cX6_told 127 = .ok (.iload_n 1, 1) := by decide +kernel
theorem dX6_told_128 : decode cX6_told 128 = .ok (.iconst 0, 1) := by decide +kernel
theorem dX6_told_129 : decode cX6_told 129 = .ok (.iload_n 3, 1) := by decide +kernel
theorem dX6_told_130 : decode cX6_told 130 = .ok (.invokevirtual 105, 3) := by decide +kernel
theorem dX6_told_133 : decode cX6_told 133 = .ok (.goto 13, 3) := by decide +kernel
theorem dX6_told_136 : decode cX6_told 136 = .ok (.aload_n 0, 1) := by decide +kernel
theorem dX6_told_137 : decode cX6_told 137 = .ok (.iload_n 1, 1) := by decide +kernel
theorem dX6_told_138 : decode cX6_told 138 = .ok (.iload_n 3, 1) := by decide +kernel
theorem dX6_told_139 : decode cX6_told 139 = .ok (.iload_n 3, 1) := by decide +kernel
theorem dX6_told_140 : decode cX6_told 140 = .ok (.iload 4, 2) := by decide +kernel
theorem dX6_told_142 : decode cX6_told 142 = .ok (.iadd, 1) := by decide +kernel
theorem dX6_told_143 : decode cX6_told 143 = .ok (.invokevirtual 105, 3) := by decide +kernel
theorem dX6_told_146 : decode cX6_told 146 = .ok (.ireturn, 1) := by decide +kernel
theorem dX6_layFar_0 : decode cX6_layFar 0 = .ok (.iconst 0, 1) := by decide +kernel
theorem dX6_layFar_1 : decode cX6_layFar 1 = .ok (.istore_n 2, 1) := by decide +kernel
theorem dX6_layFar_2 : decode cX6_layFar 2 = .ok (.iload_n 2, 1) := by decide +kernel
theorem dX6_layFar_3 : decode cX6_layFar 3 = .ok (.aload_n 0, 1) := by decide +kernel
theorem dX6_layFar_4 : decode cX6_layFar 4 = .ok (.getfield 71, 3) := by decide +kernel
theorem dX6_layFar_7 : decode cX6_layFar 7 = .ok (.if_icmp .ge 40, 3) := by decide +kernel
theorem dX6_layFar_10 : decode cX6_layFar 10 = .ok (.aload_n 0, 1) := by decide +kernel
theorem dX6_layFar_11 : decode cX6_layFar 11 = .ok (.getfield 31, 3) := by decide +kernel
theorem dX6_layFar_14 : decode cX6_layFar 14 = .ok (.iload_n 2, 1) := by decide +kernel
theorem dX6_layFar_15 : decode cX6_layFar 15 = .ok (.iload_n 1, 1) := by decide +kernel
theorem dX6_layFar_16 : decode cX6_layFar 16 = .ok (.ifCond .eq 14, 3) := by decide +kernel
theorem dX6_layFar_19 : decode cX6_layFar 19 = .ok (.aload_n 0, 1) := by decide +kernel
theorem dX6_layFar_20 : decode cX6_layFar 20 = .ok (.iload_n 2, 1) := by decide +kernel
theorem dX6_layFar_21 : decode cX6_layFar 21 = .ok (.invokevirtual 102, 3) := by decide +kernel
theorem dX6_layFar_24 : decode cX6_layFar 24 = .ok (.ifCond .eq 14, 3) := by decide +kernel
theorem dX6_layFar_27 : decode cX6_layFar 27 = .ok (.goto 7, 3) := by decide +kernel
theorem dX6_layFar_30 : decode cX6_layFar 30 = .ok (.iload_n 2, 1) := by decide +kernel
theorem dX6_layFar_31 : decode cX6_layFar 31 = .ok (.ifCond .ne 7, 3) := by decide +kernel
theorem dX6_layFar_34 : decode cX6_layFar 34 = .ok (.iconst 0, 1) := by decide +kernel
theorem dX6_layFar_35 : decode cX6_layFar 35 = .ok (.goto 5, 3) := by decide +kernel
theorem dX6_layFar_38 : decode cX6_layFar 38 = .ok (.bipush (-6), 2) := by decide +kernel
theorem dX6_layFar_40 : decode cX6_layFar 40 = .ok (.iastore, 1) := by decide +kernel
theorem dX6_layFar_41 : decode cX6_layFar 41 = .ok (.iinc 2 1, 3) := by decide +kernel
theorem dX6_layFar_44 : decode cX6_layFar 44 = .ok (.goto (-42), 3) := by decide +kernel
theorem dX6_layFar_47 : decode cX6_layFar 47 = .ok (.iconst 0, 1) := by decide +kernel
theorem dX6_layFar_48 : decode cX6_layFar 48 = .ok (.istore_n 2, 1) := by decide +kernel
theorem dX6_layFar_49 : decode cX6_layFar 49 = .ok (.iload_n 2, 1) := by decide +kernel
theorem dX6_layFar_50 : decode cX6_layFar 50 = .ok (.aload_n 0, 1) := by decide +kernel
theorem dX6_layFar_51 : decode cX6_layFar 51 = .ok (.getfield 71, 3) := by decide +kernel
theorem dX6_layFar_54 : decode cX6_layFar 54 = .ok (.if_icmp .ge 113, 3) := by decide +kernel
theorem dX6_layFar_57 : decode cX6_layFar 57 = .ok (.iconst 0, 1) := by decide +kernel
theorem dX6_layFar_58 : decode cX6_layFar 58 = .ok (.istore_n 3, 1) := by decide +kernel
theorem dX6_layFar_59 : decode cX6_layFar 59 = .ok (.iload_n 3, 1) := by decide +kernel
theorem dX6_layFar_60 : decode cX6_layFar 60 = .ok (.aload_n 0, 1) := by decide +kernel
theorem dX6_layFar_61 : decode cX6_layFar 61 = .ok (.getfield 71, 3) := by decide +kernel
theorem dX6_layFar_64 : decode cX6_layFar 64 = .ok (.aload_n 0, 1) := by decide +kernel
theorem dX6_layFar_65 : decode cX6_layFar 65 = .ok (.getfield 7, 3) := by decide +kernel
theorem dX6_layFar_68 : decode cX6_layFar 68 = .ok (.imul, 1) := by decide +kernel
theorem dX6_layFar_69 : decode cX6_layFar 69 = .ok (.if_icmp .ge 92, 3) := by decide +kernel
theorem dX6_layFar_72 : decode cX6_layFar 72 = .ok (.iload_n 3, 1) := by decide +kernel
theorem dX6_layFar_73 : decode cX6_layFar 73 = .ok (.aload_n 0, 1) := by decide +kernel
theorem dX6_layFar_74 : decode cX6_layFar 74 = .ok (.getfield 7, 3) := by decide +kernel
theorem dX6_layFar_77 : decode cX6_layFar 77 = .ok (.idiv, 1) := by decide +kernel
theorem dX6_layFar_78 : decode cX6_layFar 78 = .ok (.istore 4, 2) := by decide +kernel
theorem dX6_layFar_80 : decode cX6_layFar 80 = .ok (.aload_n 0, 1) := by decide +kernel
theorem dX6_layFar_81 : decode cX6_layFar 81 = .ok (.getfield 28, 3) := by decide +kernel
theorem dX6_layFar_84 : decode cX6_layFar 84 = .ok (.iconst 5, 1) := by decide +kernel
theorem dX6_layFar_85 : decode cX6_layFar 85 = .ok (.iload 4, 2) := by decide +kernel
theorem dX6_layFar_87 : decode cX6_layFar 87 = .ok (.imul, 1) := by decide +kernel
theorem dX6_layFar_88 : decode cX6_layFar 88 = .ok (.iload_n 3, 1) := by decide +kernel
theorem dX6_layFar_89 : decode cX6_layFar 89 = .ok (.aload_n 0, 1) := by decide +kernel
theorem dX6_layFar_90 : decode cX6_layFar 90 = .ok (.getfield 7, 3) := by decide +kernel
theorem dX6_layFar_93 : decode cX6_layFar 93 = .ok (.irem, 1) := by decide +kernel
theorem dX6_layFar_94 : decode cX6_layFar 94 = .ok (.iadd, 1) := by decide +kernel
theorem dX6_layFar_95 : decode cX6_layFar 95 = .ok (.iaload, 1) := by decide +kernel
theorem dX6_layFar_96 : decode cX6_layFar 96 = .ok (.istore 5, 2) := by decide +kernel
theorem dX6_layFar_98 : decode cX6_layFar 98 = .ok (.iload_n 1, 1) := by decide +kernel
theorem dX6_layFar_99 : decode cX6_layFar 99 = .ok (.ifCond .eq 8, 3) := by decide +kernel
theorem dX6_layFar_102 : decode cX6_layFar 102 = .ok (.iload 5, 2) := by decide +kernel
theorem dX6_layFar_104 : decode cX6_layFar 104 = .ok (.goto 5, 3) := by decide +kernel
theorem dX6_layFar_107 : decode cX6_layFar 107 = .ok (.iload 4, 2) := by decide +kernel
theorem dX6_layFar_109 : decode cX6_layFar 109 = .ok (.istore 6, 2) := by decide +kernel
theorem dX6_layFar_111 : decode cX6_layFar 111 = .ok (.iload_n 1, 1) := by decide +kernel
theorem dX6_layFar_112 : decode cX6_layFar 112 = .ok (.ifCond .eq 8, 3) := by decide +kernel
theorem dX6_layFar_115 : decode cX6_layFar 115 = .ok (.iload 4, 2) := by decide +kernel
theorem dX6_layFar_117 : decode cX6_layFar 117 = .ok (.goto 5, 3) := by decide +kernel
theorem dX6_layFar_120 : decode cX6_layFar 120 = .ok (.iload 5, 2) := by decide +kernel
theorem dX6_layFar_122 : decode cX6_layFar 122 = .ok (.istore 7, 2) := by decide +kernel
theorem dX6_layFar_124 : decode cX6_layFar 124 = .ok (.aload_n 0, 1) := by decide +kernel
theorem dX6_layFar_125 : decode cX6_layFar 125 = .ok (.getfield 31, 3) := by decide +kernel
theorem dX6_layFar_128 : decode cX6_layFar 128 = .ok (.iload 6, 2) := by decide +kernel
theorem dX6_layFar_130 : decode cX6_layFar 130 = .ok (.iaload, 1) := by decide +kernel
theorem dX6_layFar_131 : decode cX6_layFar 131 = .ok (.iload_n 2, 1) := by decide +kernel
theorem dX6_layFar_132 : decode cX6_layFar 132 = .ok (.if_icmp .ne 23, 3) := by decide +kernel
theorem dX6_layFar_135 : decode cX6_layFar 135 = .ok (.aload_n 0, 1) := by decide +kernel
theorem dX6_layFar_136 : decode cX6_layFar 136 = .ok (.getfield 31, 3) := by decide +kernel
theorem dX6_layFar_139 : decode cX6_layFar 139 = .ok (.iload 7, 2) := by decide +kernel
theorem dX6_layFar_141 : decode cX6_layFar 141 = .ok (.iaload, 1) := by decide +kernel
theorem dX6_layFar_142 : decode cX6_layFar 142 = .ok (.ifCond .ge 13, 3) := by decide +kernel
theorem dX6_layFar_145 : decode cX6_layFar 145 = .ok (.aload_n 0, 1) := by decide +kernel
theorem dX6_layFar_146 : decode cX6_layFar 146 = .ok (.getfield 31, 3) := by decide +kernel
theorem dX6_layFar_149 : decode cX6_layFar 149 = .ok (.iload 7, 2) := by decide +kernel
theorem dX6_layFar_151 : decode cX6_layFar 151 = .ok (.iload_n 2, 1) := by decide +kernel
theorem dX6_layFar_152 : decode cX6_layFar 152 = .ok (.iconst 1, 1) := by decide +kernel
theorem dX6_layFar_153 : decode cX6_layFar 153 = .ok (.iadd, 1) := by decide +kernel
theorem dX6_layFar_154 : decode cX6_layFar 154 = .ok (.iastore, 1) := by decide +kernel
theorem dX6_layFar_155 : decode cX6_layFar 155 = .ok (.iinc 3 1, 3) := by decide +kernel
theorem dX6_layFar_158 : decode cX6_layFar 158 = .ok (.goto (-99), 3) := by decide +kernel
theorem dX6_layFar_161 : decode cX6_layFar 161 = .ok (.iinc 2 1, 3) := by decide +kernel
theorem dX6_layFar_164 : decode cX6_layFar 164 = .ok (.goto (-115), 3) := by decide +kernel
theorem dX6_layFar_167 : decode cX6_layFar 167 = .ok (.return_, 1) := by decide +kernel
theorem dX6_state_0 : decode cX6_state 0 = .ok (.iload_n 1, 1) := by decide +kernel
theorem dX6_state_1 : decode cX6_state 1 = .ok (.invokestatic 85, 3) := by decide +kernel
theorem dX6_state_4 : decode cX6_state 4 = .ok (.ifCond .ne 5, 3) := by decide +kernel
theorem dX6_state_7 : decode cX6_state 7 = .ok (.iconst (-1), 1) := by decide +kernel
theorem dX6_state_8 : decode cX6_state 8 = .ok (.ireturn, 1) := by decide +kernel
theorem dX6_state_9 : decode cX6_state 9 = .ok (.aload_n 0, 1) := by decide +kernel
theorem dX6_state_10 : decode cX6_state 10 = .ok (.iload_n 1, 1) := by decide +kernel
theorem dX6_state_11 : decode cX6_state 11 = .ok (.invokevirtual 81, 3) := by decide +kernel
theorem dX6_state_14 : decode cX6_state 14 = .ok (.iload_n 2, 1) := by decide +kernel
theorem dX6_state_15 : decode cX6_state 15 = .ok (.iconst 0, 1) := by decide +kernel
theorem dX6_state_16 : decode cX6_state 16 = .ok (.aload_n 0, 1) := by decide +kernel
theorem dX6_state_17 : decode cX6_state 17 = .ok (.getfield 71, 3) := by decide +kernel
theorem dX6_state_20 : decode cX6_state 20 = .ok (.iconst 1, 1) := by decide +kernel
theorem dX6_state_21 : decode cX6_state 21 = .ok (.isub, 1) := by decide +kernel
theorem dX6_state_22 : decode cX6_state 22 = .ok (.invokestatic 40, 3) := by decide +kernel
theorem dX6_state_25 : decode cX6_state 25 = .ok (.ifCond .ne 5, 3) := by decide +kernel
theorem dX6_state_28 : decode cX6_state 28 = .ok (.iconst (-1), 1) := by decide +kernel
theorem dX6_state_29 : decode cX6_state 29 = .ok (.ireturn, 1) := by decide +kernel
theorem dX6_state_30 : decode cX6_state 30 = .ok (.iload_n 3, 1) := by decide +kernel
theorem dX6_state_31 : decode cX6_state 31 = .ok (.iconst 0, 1) := by decide +kernel
theorem dX6_state_32 : decode cX6_state 32 = .ok (.bipush 7, 2) := by decide +kernel
theorem dX6_state_34 : decode cX6_state 34 = .ok (.invokestatic 40, 3) := by decide +kernel
theorem dX6_state_37 : decode cX6_state 37 = .ok (.ifCond .ne 6, 3) := by decide +kernel
theorem dX6_state_40 : decode cX6_state 40 = .ok (.bipush (-2), 2) := by decide +kernel
theorem dX6_state_42 : decode cX6_state 42 = .ok (.ireturn, 1) := by decide +kernel
theorem dX6_state_43 : decode cX6_state 43 = .ok (.iload_n 3, 1) := by decide +kernel
theorem dX6_state_44 : decode cX6_state 44 = .ok (.iconst 5, 1) := by decide +kernel
theorem dX6_state_45 : decode cX6_state 45 = .ok (.if_icmp .ge 27, 3) := by decide +kernel
theorem dX6_state_48 : decode cX6_state 48 = .ok (.iload_n 3, 1) := by decide +kernel
theorem dX6_state_49 : decode cX6_state 49 = .ok (.aload_n 0, 1) := by decide +kernel
theorem dX6_state_50 : decode cX6_state 50 = .ok (.getfield 7, 3) := by decide +kernel
theorem dX6_state_53 : decode cX6_state 53 = .ok (.if_icmp .ge 16, 3) := by decide +kernel
theorem dX6_state_56 : decode cX6_state 56 = .ok (.aload_n 0, 1) := by decide +kernel
theorem dX6_state_57 : decode cX6_state 57 = .ok (.getfield 28, 3) := by decide +kernel
theorem dX6_state_60 : decode cX6_state 60 = .ok (.iconst 5, 1) := by decide +kernel
theorem dX6_state_61 : decode cX6_state 61 = .ok (.iload_n 2, 1) := by decide +kernel
theorem dX6_state_62 : decode cX6_state 62 = .ok (.imul, 1) := by decide +kernel
theorem dX6_state_63 : decode cX6_state 63 = .ok (.iload_n 3, 1) := by decide +kernel
theorem dX6_state_64 : decode cX6_state 64 = .ok (.iadd, 1) := by decide +kernel
theorem dX6_state_65 : decode cX6_state 65 = .ok (.iaload, 1) := by decide +kernel
theorem dX6_state_66 : decode cX6_state 66 = .ok (.goto 5, 3) := by decide +kernel
theorem dX6_state_69 : decode cX6_state 69 = .ok (.bipush (-3), 2) := by decide +kernel
theorem dX6_state_71 : decode cX6_state 71 = .ok (.ireturn, 1) := by decide +kernel
theorem dX6_state_72 : decode cX6_state 72 = .ok (.iload_n 3, 1) := by decide +kernel
theorem dX6_state_73 : decode cX6_state 73 = .ok (.iconst 5, 1) := by decide +kernel
theorem dX6_state_74 : decode cX6_state 74 = .ok (.if_icmp .ne 17, 3) := by decide +kernel
theorem dX6_state_77 : decode cX6_state 77 = .ok (.aload_n 0, 1) := by decide +kernel
theorem dX6_state_78 : decode cX6_state 78 = .ok (.iload_n 2, 1) := by decide +kernel
theorem dX6_state_79 : decode cX6_state 79 = .ok (.invokevirtual 102, 3) := by decide +kernel
theorem dX6_state_82 : decode cX6_state 82 = .ok (.ifCond .eq 7, 3) := by decide +kernel
theorem dX6_state_85 : decode cX6_state 85 = .ok (.iconst 1, 1) := by decide +kernel
theorem dX6_state_86 : decode cX6_state 86 = .ok (.goto 4, 3) := by decide +kernel
theorem dX6_state_89 : decode cX6_state 89 = .ok (.iconst 0, 1) := by decide +kernel
theorem dX6_state_90 : decode cX6_state 90 = .ok (.ireturn, 1) := by decide +kernel
theorem dX6_state_91 : decode cX6_state 91 = .ok (.aload_n 0, 1) := by decide +kernel
theorem dX6_state_92 : decode cX6_state 92 = .ok (.iload_n 3, 1) := by decide +kernel
theorem dX6_state_93 : decode cX6_state 93 = .ok (.bipush 7, 2) := by decide +kernel
theorem dX6_state_95 : decode cX6_state 95 = .ok (.if_icmp .ne 7, 3) := by decide +kernel
theorem dX6_state_98 : decode cX6_state 98 = .ok (.iconst 1, 1) := by decide +kernel
theorem dX6_state_99 : decode cX6_state 99 = .ok (.goto 4, 3) := by decide +kernel
theorem dX6_state_102 : decode cX6_state 102 = .ok (.iconst 0, 1) := by decide +kernel
theorem dX6_state_103 : decode cX6_state 103 = .ok (.invokevirtual 109, 3) := by decide +kernel
theorem dX6_state_106 : decode cX6_state 106 = .ok (.aload_n 0, 1) := by decide +kernel
theorem dX6_state_107 : decode cX6_state 107 = .ok (.getfield 31, 3) := by decide +kernel
theorem dX6_state_110 : decode cX6_state 110 = .ok (.iload_n 2, 1) := by decide +kernel
theorem dX6_state_111 : decode cX6_state 111 = .ok (.iaload, 1) := by decide +kernel
theorem dX6_state_112 : decode cX6_state 112 = .ok (.ireturn, 1) := by decide +kernel
theorem dX6_walk_0 : decode cX6_walk 0 = .ok (.iload_n 1, 1) := by decide +kernel
theorem dX6_walk_1 : decode cX6_walk 1 = .ok (.invokestatic 85, 3) := by decide +kernel
theorem dX6_walk_4 : decode cX6_walk 4 = .ok (.ifCond .ne 5, 3) := by decide +kernel
theorem dX6_walk_7 : decode cX6_walk 7 = .ok (.iconst (-1), 1) := by decide +kernel
theorem dX6_walk_8 : decode cX6_walk 8 = .ok (.ireturn, 1) := by decide +kernel
theorem dX6_walk_9 : decode cX6_walk 9 = .ok (.iload_n 3, 1) := by decide +kernel
theorem dX6_walk_10 : decode cX6_walk 10 = .ok (.iconst 0, 1) := by decide +kernel
theorem dX6_walk_11 : decode cX6_walk 11 = .ok (.bipush 40, 2) := by decide +kernel
theorem dX6_walk_13 : decode cX6_walk 13 = .ok (.invokestatic 40, 3) := by decide +kernel
theorem dX6_walk_16 : decode cX6_walk 16 = .ok (.ifCond .eq 7, 3) := by decide +kernel
theorem dX6_walk_19 : decode cX6_walk 19 = .ok (.iload_n 2, 1) := by decide +kernel
theorem dX6_walk_20 : decode cX6_walk 20 = .ok (.ifCond .ge 6, 3) := by decide +kernel
theorem dX6_walk_23 : decode cX6_walk 23 = .ok (.bipush (-2), 2) := by decide +kernel
theorem dX6_walk_25 : decode cX6_walk 25 = .ok (.ireturn, 1) := by decide +kernel
theorem dX6_walk_26 : decode cX6_walk 26 = .ok (.aload_n 0, 1) := by decide +kernel
theorem dX6_walk_27 : decode cX6_walk 27 = .ok (.iload_n 1, 1) := by decide +kernel
theorem dX6_walk_28 : decode cX6_walk 28 = .ok (.invokevirtual 81, 3) := by decide +kernel
theorem dX6_walk_31 : decode cX6_walk 31 = .ok (.iconst 0, 1) := by decide +kernel
theorem dX6_walk_32 : decode cX6_walk 32 = .ok (.istore 4, 2) := by decide +kernel
theorem dX6_walk_34 : decode cX6_walk 34 = .ok (.iload_n 2, 1) := by decide +kernel
theorem dX6_walk_35 : decode cX6_walk 35 = .ok (.istore 5, 2) := by decide +kernel
theorem dX6_walk_37 : decode cX6_walk 37 = .ok (.iconst 0, 1) := by decide +kernel
theorem dX6_walk_38 : decode cX6_walk 38 = .ok (.istore 6, 2) := by decide +kernel
theorem dX6_walk_40 : decode cX6_walk 40 = .ok (.iload 6, 2) := by decide +kernel
theorem dX6_walk_42 : decode cX6_walk 42 = .ok (.iload_n 3, 1) := by decide +kernel
theorem dX6_walk_43 : decode cX6_walk 43 = .ok (.if_icmp .ge 37, 3) := by decide +kernel
theorem dX6_walk_46 : decode cX6_walk 46 = .ok (.aload_n 0, 1) := by decide +kernel
theorem dX6_walk_47 : decode cX6_walk 47 = .ok (.getfield 28, 3) := by decide +kernel
theorem dX6_walk_50 : decode cX6_walk 50 = .ok (.iconst 5, 1) := by decide +kernel
theorem dX6_walk_51 : decode cX6_walk 51 = .ok (.iload 4, 2) := by decide +kernel
theorem dX6_walk_53 : decode cX6_walk 53 = .ok (.imul, 1) := by decide +kernel
theorem dX6_walk_54 : decode cX6_walk 54 = .ok (.iload 5, 2) := by decide +kernel
theorem dX6_walk_56 : decode cX6_walk 56 = .ok (.aload_n 0, 1) := by decide +kernel
theorem dX6_walk_57 : decode cX6_walk 57 = .ok (.getfield 7, 3) := by decide +kernel
theorem dX6_walk_60 : decode cX6_walk 60 = .ok (.irem, 1) := by decide +kernel
theorem dX6_walk_61 : decode cX6_walk 61 = .ok (.iadd, 1) := by decide +kernel
theorem dX6_walk_62 : decode cX6_walk 62 = .ok (.iaload, 1) := by decide +kernel
theorem dX6_walk_63 : decode cX6_walk 63 = .ok (.istore 4, 2) := by decide +kernel
theorem dX6_walk_65 : decode cX6_walk 65 = .ok (.iload 5, 2) := by decide +kernel
theorem dX6_walk_67 : decode cX6_walk 67 = .ok (.aload_n 0, 1) := by decide +kernel
theorem dX6_walk_68 : decode cX6_walk 68 = .ok (.getfield 7, 3) := by decide +kernel
theorem dX6_walk_71 : decode cX6_walk 71 = .ok (.idiv, 1) := by decide +kernel
theorem dX6_walk_72 : decode cX6_walk 72 = .ok (.istore 5, 2) := by decide +kernel
theorem dX6_walk_74 : decode cX6_walk 74 = .ok (.iinc 6 1, 3) := by decide +kernel
theorem dX6_walk_77 : decode cX6_walk 77 = .ok (.goto (-37), 3) := by decide +kernel
theorem dX6_walk_80 : decode cX6_walk 80 = .ok (.iload 4, 2) := by decide +kernel
theorem dX6_walk_82 : decode cX6_walk 82 = .ok (.ireturn, 1) := by decide +kernel
theorem dX6_has_0 : decode cX6_has 0 = .ok (.iload_n 1, 1) := by decide +kernel
theorem dX6_has_1 : decode cX6_has 1 = .ok (.invokestatic 85, 3) := by decide +kernel
theorem dX6_has_4 : decode cX6_has 4 = .ok (.ifCond .ne 5, 3) := by decide +kernel
theorem dX6_has_7 : decode cX6_has 7 = .ok (.iconst (-1), 1) := by decide +kernel
theorem dX6_has_8 : decode cX6_has 8 = .ok (.ireturn, 1) := by decide +kernel
theorem dX6_has_9 : decode cX6_has 9 = .ok (.iload_n 2, 1) := by decide +kernel
theorem dX6_has_10 : decode cX6_has 10 = .ok (.iconst 0, 1) := by decide +kernel
theorem dX6_has_11 : decode cX6_has 11 = .ok (.ldc 113, 2) := by decide +kernel
theorem dX6_has_13 : decode cX6_has 13 = .ok (.invokestatic 40, 3) := by decide +kernel
theorem dX6_has_16 : decode cX6_has 16 = .ok (.ifCond .ne 8, 3) := by decide +kernel
theorem dX6_has_19 : decode cX6_has 19 = .ok (.bipush (-2), 2) := by decide +kernel
theorem dX6_has_21 : decode cX6_has 21 = .ok (.goto 17, 3) := by decide +kernel
theorem dX6_has_24 : decode cX6_has 24 = .ok (.aload_n 0, 1) := by decide +kernel
theorem dX6_has_25 : decode cX6_has 25 = .ok (.iload_n 1, 1) := by decide +kernel
theorem dX6_has_26 : decode cX6_has 26 = .ok (.iload_n 2, 1) := by decide +kernel
theorem dX6_has_27 : decode cX6_has 27 = .ok (.invokevirtual 60, 3) := by decide +kernel
theorem dX6_has_30 : decode cX6_has 30 = .ok (.ifCond .eq 7, 3) := by decide +kernel
theorem dX6_has_33 : decode cX6_has 33 = .ok (.iconst 1, 1) := by decide +kernel
theorem dX6_has_34 : decode cX6_has 34 = .ok (.goto 4, 3) := by decide +kernel
theorem dX6_has_37 : decode cX6_has 37 = .ok (.iconst 0, 1) := by decide +kernel
theorem dX6_has_38 : decode cX6_has 38 = .ok (.ireturn, 1) := by decide +kernel
theorem dX6_next_0 : decode cX6_next 0 = .ok (.iload_n 1, 1) := by decide +kernel
theorem dX6_next_1 : decode cX6_next 1 = .ok (.invokestatic 85, 3) := by decide +kernel
theorem dX6_next_4 : decode cX6_next 4 = .ok (.ifCond .ne 5, 3) := by decide +kernel
theorem dX6_next_7 : decode cX6_next 7 = .ok (.iconst (-1), 1) := by decide +kernel
theorem dX6_next_8 : decode cX6_next 8 = .ok (.ireturn, 1) := by decide +kernel
theorem dX6_next_9 : decode cX6_next 9 = .ok (.iload_n 2, 1) := by decide +kernel
theorem dX6_next_10 : decode cX6_next 10 = .ok (.iconst 0, 1) := by decide +kernel
theorem dX6_next_11 : decode cX6_next 11 = .ok (.ldc 113, 2) := by decide +kernel
theorem dX6_next_13 : decode cX6_next 13 = .ok (.invokestatic 40, 3) := by decide +kernel
theorem dX6_next_16 : decode cX6_next 16 = .ok (.ifCond .ne 6, 3) := by decide +kernel
theorem dX6_next_19 : decode cX6_next 19 = .ok (.bipush (-2), 2) := by decide +kernel
theorem dX6_next_21 : decode cX6_next 21 = .ok (.ireturn, 1) := by decide +kernel
theorem dX6_next_22 : decode cX6_next 22 = .ok (.iconst 0, 1) := by decide +kernel
theorem dX6_next_23 : decode cX6_next 23 = .ok (.istore_n 3, 1) := by decide +kernel
theorem dX6_next_24 : decode cX6_next 24 = .ok (.iload_n 3, 1) := by decide +kernel
theorem dX6_next_25 : decode cX6_next 25 = .ok (.aload_n 0, 1) := by decide +kernel
theorem dX6_next_26 : decode cX6_next 26 = .ok (.getfield 13, 3) := by decide +kernel
theorem dX6_next_29 : decode cX6_next 29 = .ok (.iload_n 1, 1) := by decide +kernel
theorem dX6_next_30 : decode cX6_next 30 = .ok (.iaload, 1) := by decide +kernel
theorem dX6_next_31 : decode cX6_next 31 = .ok (.aload_n 0, 1) := by decide +kernel
theorem dX6_next_32 : decode cX6_next 32 = .ok (.getfield 17, 3) := by decide +kernel
theorem dX6_next_35 : decode cX6_next 35 = .ok (.iload_n 1, 1) := by decide +kernel
theorem dX6_next_36 : decode cX6_next 36 = .ok (.iaload, 1) := by decide +kernel
theorem dX6_next_37 : decode cX6_next 37 = .ok (.iadd, 1) := by decide +kernel
theorem dX6_next_38 : decode cX6_next 38 = .ok (.if_icmp .ge 24, 3) := by decide +kernel
theorem dX6_next_41 : decode cX6_next 41 = .ok (.aload_n 0, 1) := by decide +kernel
theorem dX6_next_42 : decode cX6_next 42 = .ok (.iload_n 1, 1) := by decide +kernel
theorem dX6_next_43 : decode cX6_next 43 = .ok (.iload_n 2, 1) := by decide +kernel
theorem dX6_next_44 : decode cX6_next 44 = .ok (.iload_n 3, 1) := by decide +kernel
theorem dX6_next_45 : decode cX6_next 45 = .ok (.iadd, 1) := by decide +kernel
theorem dX6_next_46 : decode cX6_next 46 = .ok (.invokevirtual 60, 3) := by decide +kernel
theorem dX6_next_49 : decode cX6_next 49 = .ok (.ifCond .eq 7, 3) := by decide +kernel
theorem dX6_next_52 : decode cX6_next 52 = .ok (.iload_n 2, 1) := by decide +kernel
theorem dX6_next_53 : decode cX6_next 53 = .ok (.iload_n 3, 1) := by decide +kernel
theorem dX6_next_54 : decode cX6_next 54 = .ok (.iadd, 1) := by decide +kernel
theorem dX6_next_55 : decode cX6_next 55 = .ok (.ireturn, 1) := by decide +kernel
theorem dX6_next_56 : decode cX6_next 56 = .ok (.iinc 3 1, 3) := by decide +kernel
theorem dX6_next_59 : decode cX6_next 59 = .ok (.goto (-35), 3) := by decide +kernel
theorem dX6_next_62 : decode cX6_next 62 = .ok (.bipush (-6), 2) := by decide +kernel
theorem dX6_next_64 : decode cX6_next 64 = .ok (.ireturn, 1) := by decide +kernel
theorem dX6_below_0 : decode cX6_below 0 = .ok (.iload_n 1, 1) := by decide +kernel
theorem dX6_below_1 : decode cX6_below 1 = .ok (.invokestatic 85, 3) := by decide +kernel
theorem dX6_below_4 : decode cX6_below 4 = .ok (.ifCond .ne 5, 3) := by decide +kernel
theorem dX6_below_7 : decode cX6_below 7 = .ok (.iconst (-1), 1) := by decide +kernel
theorem dX6_below_8 : decode cX6_below 8 = .ok (.ireturn, 1) := by decide +kernel
theorem dX6_below_9 : decode cX6_below 9 = .ok (.iload_n 2, 1) := by decide +kernel
theorem dX6_below_10 : decode cX6_below 10 = .ok (.iconst 0, 1) := by decide +kernel
theorem dX6_below_11 : decode cX6_below 11 = .ok (.ldc 113, 2) := by decide +kernel
theorem dX6_below_13 : decode cX6_below 13 = .ok (.invokestatic 40, 3) := by decide +kernel
theorem dX6_below_16 : decode cX6_below 16 = .ok (.ifCond .ne 6, 3) := by decide +kernel
theorem dX6_below_19 : decode cX6_below 19 = .ok (.bipush (-2), 2) := by decide +kernel
theorem dX6_below_21 : decode cX6_below 21 = .ok (.ireturn, 1) := by decide +kernel
theorem dX6_below_22 : decode cX6_below 22 = .ok (.aload_n 0, 1) := by decide +kernel
theorem dX6_below_23 : decode cX6_below 23 = .ok (.getfield 13, 3) := by decide +kernel
theorem dX6_below_26 : decode cX6_below 26 = .ok (.iload_n 1, 1) := by decide +kernel
theorem dX6_below_27 : decode cX6_below 27 = .ok (.iaload, 1) := by decide +kernel
theorem dX6_below_28 : decode cX6_below 28 = .ok (.istore_n 3, 1) := by decide +kernel
theorem dX6_below_29 : decode cX6_below 29 = .ok (.aload_n 0, 1) := by decide +kernel
theorem dX6_below_30 : decode cX6_below 30 = .ok (.getfield 17, 3) := by decide +kernel
theorem dX6_below_33 : decode cX6_below 33 = .ok (.iload_n 1, 1) := by decide +kernel
theorem dX6_below_34 : decode cX6_below 34 = .ok (.iaload, 1) := by decide +kernel
theorem dX6_below_35 : decode cX6_below 35 = .ok (.istore 4, 2) := by decide +kernel
theorem dX6_below_37 : decode cX6_below 37 = .ok (.iload_n 2, 1) := by decide +kernel
theorem dX6_below_38 : decode cX6_below 38 = .ok (.iload_n 3, 1) := by decide +kernel
theorem dX6_below_39 : decode cX6_below 39 = .ok (.if_icmp .gt 11, 3) := by decide +kernel
theorem dX6_below_42 : decode cX6_below 42 = .ok (.aload_n 0, 1) := by decide +kernel
theorem dX6_below_43 : decode cX6_below 43 = .ok (.iload_n 1, 1) := by decide +kernel
theorem dX6_below_44 : decode cX6_below 44 = .ok (.iconst 0, 1) := by decide +kernel
theorem dX6_below_45 : decode cX6_below 45 = .ok (.iload_n 2, 1) := by decide +kernel
theorem dX6_below_46 : decode cX6_below 46 = .ok (.invokevirtual 105, 3) := by decide +kernel
theorem dX6_below_49 : decode cX6_below 49 = .ok (.ireturn, 1) := by decide +kernel
theorem dX6_below_50 : decode cX6_below 50 = .ok (.iload_n 2, 1) := by decide +kernel
theorem dX6_below_51 : decode cX6_below 51 = .ok (.iload_n 3, 1) := by decide +kernel
theorem dX6_below_52 : decode cX6_below 52 = .ok (.isub, 1) := by decide +kernel
theorem dX6_below_53 : decode cX6_below 53 = .ok (.iload 4, 2) := by decide +kernel
theorem dX6_below_55 : decode cX6_below 55 = .ok (.idiv, 1) := by decide +kernel
theorem dX6_below_56 : decode cX6_below 56 = .ok (.istore 5, 2) := by decide +kernel
theorem dX6_below_58 : decode cX6_below 58 = .ok (.aload_n 0, 1) := by decide +kernel
theorem dX6_below_59 : decode cX6_below 59 = .ok (.iload_n 1, 1) := by decide +kernel
theorem dX6_below_60 : decode cX6_below 60 = .ok (.iconst 0, 1) := by decide +kernel
theorem dX6_below_61 : decode cX6_below 61 = .ok (.iload_n 3, 1) := by decide +kernel
theorem dX6_below_62 : decode cX6_below 62 = .ok (.invokevirtual 105, 3) := by decide +kernel
theorem dX6_below_65 : decode cX6_below 65 = .ok (.iload 5, 2) := by decide +kernel
theorem dX6_below_67 : decode cX6_below 67 = .ok (.aload_n 0, 1) := by decide +kernel
theorem dX6_below_68 : decode cX6_below 68 = .ok (.iload_n 1, 1) := by decide +kernel
theorem dX6_below_69 : decode cX6_below 69 = .ok (.iload_n 3, 1) := by decide +kernel
theorem dX6_below_70 : decode cX6_below 70 = .ok (.iload_n 3, 1) := by decide +kernel
theorem dX6_below_71 : decode cX6_below 71 = .ok (.iload 4, 2) := by decide +kernel
theorem dX6_below_73 : decode cX6_below 73 = .ok (.iadd, 1) := by decide +kernel
theorem dX6_below_74 : decode cX6_below 74 = .ok (.invokevirtual 105, 3) := by decide +kernel
theorem dX6_below_77 : decode cX6_below 77 = .ok (.imul, 1) := by decide +kernel
theorem dX6_below_78 : decode cX6_below 78 = .ok (.iadd, 1) := by decide +kernel
theorem dX6_below_79 : decode cX6_below 79 = .ok (.aload_n 0, 1) := by decide +kernel
theorem dX6_below_80 : decode cX6_below 80 = .ok (.iload_n 1, 1) := by decide +kernel
theorem dX6_below_81 : decode cX6_below 81 = .ok (.iload_n 3, 1) := by decide +kernel
theorem dX6_below_82 : decode cX6_below 82 = .ok (.iload_n 3, 1) := by decide +kernel
theorem dX6_below_83 : decode cX6_below 83 = .ok (.iload_n 2, 1) := by decide +kernel
theorem dX6_below_84 : decode cX6_below 84 = .ok (.iload_n 3, 1) := by decide +kernel
theorem dX6_below_85 : decode cX6_below 85 = .ok (.isub, 1) := by decide +kernel
theorem dX6_below_86 : decode cX6_below 86 = .ok (.iload 4, 2) := by decide +kernel
theorem dX6_below_88 : decode cX6_below 88 = .ok (.irem, 1) := by decide +kernel
theorem dX6_below_89 : decode cX6_below 89 = .ok (.iadd, 1) := by decide +kernel
theorem dX6_below_90 : decode cX6_below 90 = .ok (.invokevirtual 105, 3) := by decide +kernel
theorem dX6_below_93 : decode cX6_below 93 = .ok (.iadd, 1) := by decide +kernel
theorem dX6_below_94 : decode cX6_below 94 = .ok (.ireturn, 1) := by decide +kernel
theorem dX6_alike_0 : decode cX6_alike 0 = .ok (.iload_n 1, 1) := by decide +kernel
theorem dX6_alike_1 : decode cX6_alike 1 = .ok (.invokestatic 85, 3) := by decide +kernel
theorem dX6_alike_4 : decode cX6_alike 4 = .ok (.ifCond .eq 10, 3) := by decide +kernel
theorem dX6_alike_7 : decode cX6_alike 7 = .ok (.iload_n 2, 1) := by decide +kernel
theorem dX6_alike_8 : decode cX6_alike 8 = .ok (.invokestatic 85, 3) := by decide +kernel
theorem dX6_alike_11 : decode cX6_alike 11 = .ok (.ifCond .ne 5, 3) := by decide +kernel
theorem dX6_alike_14 : decode cX6_alike 14 = .ok (.iconst (-1), 1) := by decide +kernel
theorem dX6_alike_15 : decode cX6_alike 15 = .ok (.ireturn, 1) := by decide +kernel
theorem dX6_alike_16 : decode cX6_alike 16 = .ok (.iload_n 3, 1) := by decide +kernel
theorem dX6_alike_17 : decode cX6_alike 17 = .ok (.iconst 0, 1) := by decide +kernel
theorem dX6_alike_18 : decode cX6_alike 18 = .ok (.iconst 4, 1) := by decide +kernel
theorem dX6_alike_19 : decode cX6_alike 19 = .ok (.invokestatic 40, 3) := by decide +kernel
theorem dX6_alike_22 : decode cX6_alike 22 = .ok (.ifCond .ne 6, 3) := by decide +kernel
theorem dX6_alike_25 : decode cX6_alike 25 = .ok (.bipush (-2), 2) := by decide +kernel
theorem dX6_alike_27 : decode cX6_alike 27 = .ok (.ireturn, 1) := by decide +kernel
theorem dX6_alike_28 : decode cX6_alike 28 = .ok (.bipush (-6), 2) := by decide +kernel
theorem dX6_alike_30 : decode cX6_alike 30 = .ok (.istore 4, 2) := by decide +kernel
theorem dX6_alike_32 : decode cX6_alike 32 = .ok (.bipush (-6), 2) := by decide +kernel
theorem dX6_alike_34 : decode cX6_alike 34 = .ok (.istore 5, 2) := by decide +kernel
theorem dX6_alike_36 : decode cX6_alike 36 = .ok (.iconst 1, 1) := by decide +kernel
theorem dX6_alike_37 : decode cX6_alike 37 = .ok (.istore 6, 2) := by decide +kernel
theorem dX6_alike_39 : decode cX6_alike 39 = .ok (.aload_n 0, 1) := by decide +kernel
theorem dX6_alike_40 : decode cX6_alike 40 = .ok (.iload_n 1, 1) := by decide +kernel
theorem dX6_alike_41 : decode cX6_alike 41 = .ok (.iload_n 2, 1) := by decide +kernel
theorem dX6_alike_42 : decode cX6_alike 42 = .ok (.invokevirtual 96, 3) := by decide +kernel
theorem dX6_alike_45 : decode cX6_alike 45 = .ok (.aload_n 0, 1) := by decide +kernel
theorem dX6_alike_46 : decode cX6_alike 46 = .ok (.iload_n 1, 1) := by decide +kernel
theorem dX6_alike_47 : decode cX6_alike 47 = .ok (.iload_n 2, 1) := by decide +kernel
theorem dX6_alike_48 : decode cX6_alike 48 = .ok (.invokevirtual 99, 3) := by decide +kernel
theorem dX6_alike_51 : decode cX6_alike 51 = .ok (.iadd, 1) := by decide +kernel
theorem dX6_alike_52 : decode cX6_alike 52 = .ok (.iconst 1, 1) := by decide +kernel
theorem dX6_alike_53 : decode cX6_alike 53 = .ok (.isub, 1) := by decide +kernel
theorem dX6_alike_54 : decode cX6_alike 54 = .ok (.istore 7, 2) := by decide +kernel
theorem dX6_alike_56 : decode cX6_alike 56 = .ok (.iload 7, 2) := by decide +kernel
theorem dX6_alike_58 : decode cX6_alike 58 = .ok (.ifCond .lt 84, 3) := by decide +kernel
theorem dX6_alike_61 : decode cX6_alike 61 = .ok (.aload_n 0, 1) := by decide +kernel
theorem dX6_alike_62 : decode cX6_alike 62 = .ok (.iload_n 1, 1) := by decide +kernel
theorem dX6_alike_63 : decode cX6_alike 63 = .ok (.iload 7, 2) := by decide +kernel
theorem dX6_alike_65 : decode cX6_alike 65 = .ok (.invokevirtual 60, 3) := by decide +kernel
theorem dX6_alike_68 : decode cX6_alike 68 = .ok (.istore 8, 2) := by decide +kernel
theorem dX6_alike_70 : decode cX6_alike 70 = .ok (.aload_n 0, 1) := by decide +kernel
theorem dX6_alike_71 : decode cX6_alike 71 = .ok (.iload_n 2, 1) := by decide +kernel
theorem dX6_alike_72 : decode cX6_alike 72 = .ok (.iload 7, 2) := by decide +kernel
theorem dX6_alike_74 : decode cX6_alike 74 = .ok (.invokevirtual 60, 3) := by decide +kernel
theorem dX6_alike_77 : decode cX6_alike 77 = .ok (.istore 9, 2) := by decide +kernel
theorem dX6_alike_79 : decode cX6_alike 79 = .ok (.iload 8, 2) := by decide +kernel
theorem dX6_alike_81 : decode cX6_alike 81 = .ok (.iload 9, 2) := by decide +kernel
theorem dX6_alike_83 : decode cX6_alike 83 = .ok (.if_icmp .eq 8, 3) := by decide +kernel
theorem dX6_alike_86 : decode cX6_alike 86 = .ok (.iload 7, 2) := by decide +kernel
theorem dX6_alike_88 : decode cX6_alike 88 = .ok (.goto 5, 3) := by decide +kernel
theorem dX6_alike_91 : decode cX6_alike 91 = .ok (.iload 4, 2) := by decide +kernel
theorem dX6_alike_93 : decode cX6_alike 93 = .ok (.istore 4, 2) := by decide +kernel
theorem dX6_alike_95 : decode cX6_alike 95 = .ok (.iload 8, 2) := by decide +kernel
theorem dX6_alike_97 : decode cX6_alike 97 = .ok (.ifCond .eq 13, 3) := by decide +kernel
theorem dX6_alike_100 : decode cX6_alike 100 = .ok (.iload 9, 2) := by decide +kernel
theorem dX6_alike_102 : decode cX6_alike 102 = .ok (.ifCond .eq 8, 3) := by decide +kernel
theorem dX6_alike_105 : decode cX6_alike 105 = .ok (.iload 7, 2) := by decide +kernel
theorem dX6_alike_107 : decode cX6_alike 107 = .ok (.goto 5, 3) := by decide +kernel
theorem dX6_alike_110 : decode cX6_alike 110 = .ok (.iload 5, 2) := by decide +kernel
theorem dX6_alike_112 : decode cX6_alike 112 = .ok (.istore 5, 2) := by decide +kernel
theorem dX6_alike_114 : decode cX6_alike 114 = .ok (.iload 6, 2) := by decide +kernel
theorem dX6_alike_116 : decode cX6_alike 116 = .ok (.ifCond .eq 17, 3) := by decide +kernel
theorem dX6_alike_119 : decode cX6_alike 119 = .ok (.iload 8, 2) := by decide +kernel
theorem dX6_alike_121 : decode cX6_alike 121 = .ok (.ifCond .eq 8, 3) := by decide +kernel
theorem dX6_alike_124 : decode cX6_alike 124 = .ok (.iload 9, 2) := by decide +kernel
theorem dX6_alike_126 : decode cX6_alike 126 = .ok (.ifCond .eq 7, 3) := by decide +kernel
theorem dX6_alike_129 : decode cX6_alike 129 = .ok (.iconst 1, 1) := by decide +kernel
theorem dX6_alike_130 : decode cX6_alike 130 = .ok (.goto 4, 3) := by decide +kernel
theorem dX6_alike_133 : decode cX6_alike 133 = .ok (.iconst 0, 1) := by decide +kernel
theorem dX6_alike_134 : decode cX6_alike 134 = .ok (.istore 6, 2) := by decide +kernel
theorem dX6_alike_136 : decode cX6_alike 136 = .ok (.iinc 7 (-1), 3) := by decide +kernel
theorem dX6_alike_139 : decode cX6_alike 139 = .ok (.goto (-83), 3) := by decide +kernel
theorem dX6_alike_142 : decode cX6_alike 142 = .ok (.iload_n 3, 1) := by decide +kernel
theorem dX6_alike_143 : decode cX6_alike 143 = .ok (.ifCond .ne 16, 3) := by decide +kernel
theorem dX6_alike_146 : decode cX6_alike 146 = .ok (.iload 4, 2) := by decide +kernel
theorem dX6_alike_148 : decode cX6_alike 148 = .ok (.ifCond .ge 7, 3) := by decide +kernel
theorem dX6_alike_151 : decode cX6_alike 151 = .ok (.iconst 1, 1) := by decide +kernel
theorem dX6_alike_152 : decode cX6_alike 152 = .ok (.goto 55, 3) := by decide +kernel
theorem dX6_alike_155 : decode cX6_alike 155 = .ok (.iconst 0, 1) := by decide +kernel
theorem dX6_alike_156 : decode cX6_alike 156 = .ok (.goto 51, 3) := by decide +kernel
theorem dX6_alike_159 : decode cX6_alike 159 = .ok (.iload_n 3, 1) := by decide +kernel
theorem dX6_alike_160 : decode cX6_alike 160 = .ok (.iconst 1, 1) := by decide +kernel
theorem dX6_alike_161 : decode cX6_alike 161 = .ok (.if_icmp .ne 16, 3) := by decide +kernel
theorem dX6_alike_164 : decode cX6_alike 164 = .ok (.iload 6, 2) := by decide +kernel
theorem dX6_alike_166 : decode cX6_alike 166 = .ok (.ifCond .eq 7, 3) := by decide +kernel
theorem dX6_alike_169 : decode cX6_alike 169 = .ok (.iconst 1, 1) := by decide +kernel
theorem dX6_alike_170 : decode cX6_alike 170 = .ok (.goto 37, 3) := by decide +kernel
theorem dX6_alike_173 : decode cX6_alike 173 = .ok (.iconst 0, 1) := by decide +kernel
theorem dX6_alike_174 : decode cX6_alike 174 = .ok (.goto 33, 3) := by decide +kernel
theorem dX6_alike_177 : decode cX6_alike 177 = .ok (.iload_n 3, 1) := by decide +kernel
theorem dX6_alike_178 : decode cX6_alike 178 = .ok (.iconst 2, 1) := by decide +kernel
theorem dX6_alike_179 : decode cX6_alike 179 = .ok (.if_icmp .ne 16, 3) := by decide +kernel
theorem dX6_alike_182 : decode cX6_alike 182 = .ok (.iload 5, 2) := by decide +kernel
theorem dX6_alike_184 : decode cX6_alike 184 = .ok (.ifCond .ge 7, 3) := by decide +kernel
theorem dX6_alike_187 : decode cX6_alike 187 = .ok (.iconst 1, 1) := by decide +kernel
theorem dX6_alike_188 : decode cX6_alike 188 = .ok (.goto 19, 3) := by decide +kernel
theorem dX6_alike_191 : decode cX6_alike 191 = .ok (.iconst 0, 1) := by decide +kernel
theorem dX6_alike_192 : decode cX6_alike 192 = .ok (.goto 15, 3) := by decide +kernel
theorem dX6_alike_195 : decode cX6_alike 195 = .ok (.iload_n 3, 1) := by decide +kernel
theorem dX6_alike_196 : decode cX6_alike 196 = .ok (.iconst 3, 1) := by decide +kernel
theorem dX6_alike_197 : decode cX6_alike 197 = .ok (.if_icmp .ne 8, 3) := by decide +kernel
theorem dX6_alike_200 : decode cX6_alike 200 = .ok (.iload 4, 2) := by decide +kernel
theorem dX6_alike_202 : decode cX6_alike 202 = .ok (.goto 5, 3) := by decide +kernel
theorem dX6_alike_205 : decode cX6_alike 205 = .ok (.iload 5, 2) := by decide +kernel
theorem dX6_alike_207 : decode cX6_alike 207 = .ok (.ireturn, 1) := by decide +kernel
theorem dX6_image_0 : decode cX6_image 0 = .ok (.iload_n 1, 1) := by decide +kernel
theorem dX6_image_1 : decode cX6_image 1 = .ok (.iconst 0, 1) := by decide +kernel
theorem dX6_image_2 : decode cX6_image 2 = .ok (.iconst 1, 1) := by decide +kernel
theorem dX6_image_3 : decode cX6_image 3 = .ok (.invokestatic 40, 3) := by decide +kernel
theorem dX6_image_6 : decode cX6_image 6 = .ok (.ifCond .ne 6, 3) := by decide +kernel
theorem dX6_image_9 : decode cX6_image 9 = .ok (.bipush (-2), 2) := by decide +kernel
theorem dX6_image_11 : decode cX6_image 11 = .ok (.ireturn, 1) := by decide +kernel
theorem dX6_image_12 : decode cX6_image 12 = .ok (.iconst 0, 1) := by decide +kernel
theorem dX6_image_13 : decode cX6_image 13 = .ok (.istore_n 2, 1) := by decide +kernel
theorem dX6_image_14 : decode cX6_image 14 = .ok (.iload_n 2, 1) := by decide +kernel
theorem dX6_image_15 : decode cX6_image 15 = .ok (.bipush 6, 2) := by decide +kernel
theorem dX6_image_17 : decode cX6_image 17 = .ok (.if_icmp .ge 23, 3) := by decide +kernel
theorem dX6_image_20 : decode cX6_image 20 = .ok (.aload_n 0, 1) := by decide +kernel
theorem dX6_image_21 : decode cX6_image 21 = .ok (.iload_n 2, 1) := by decide +kernel
theorem dX6_image_22 : decode cX6_image 22 = .ok (.bipush 6, 2) := by decide +kernel
theorem dX6_image_24 : decode cX6_image 24 = .ok (.bipush 6, 2) := by decide +kernel
theorem dX6_image_26 : decode cX6_image 26 = .ok (.iload_n 1, 1) := by decide +kernel
theorem dX6_image_27 : decode cX6_image 27 = .ok (.imul, 1) := by decide +kernel
theorem dX6_image_28 : decode cX6_image 28 = .ok (.iadd, 1) := by decide +kernel
theorem dX6_image_29 : decode cX6_image 29 = .ok (.iload_n 2, 1) := by decide +kernel
theorem dX6_image_30 : decode cX6_image 30 = .ok (.iadd, 1) := by decide +kernel
theorem dX6_image_31 : decode cX6_image 31 = .ok (.invokevirtual 67, 3) := by decide +kernel
theorem dX6_image_34 : decode cX6_image 34 = .ok (.iinc 2 1, 3) := by decide +kernel
theorem dX6_image_37 : decode cX6_image 37 = .ok (.goto (-23), 3) := by decide +kernel
theorem dX6_image_40 : decode cX6_image 40 = .ok (.aload_n 0, 1) := by decide +kernel
theorem dX6_image_41 : decode cX6_image 41 = .ok (.getfield 34, 3) := by decide +kernel
theorem dX6_image_44 : decode cX6_image 44 = .ok (.iload_n 1, 1) := by decide +kernel
theorem dX6_image_45 : decode cX6_image 45 = .ok (.aload_n 0, 1) := by decide +kernel
theorem dX6_image_46 : decode cX6_image 46 = .ok (.getfield 7, 3) := by decide +kernel
theorem dX6_image_49 : decode cX6_image 49 = .ok (.iastore, 1) := by decide +kernel
theorem dX6_image_50 : decode cX6_image 50 = .ok (.aload_n 0, 1) := by decide +kernel
theorem dX6_image_51 : decode cX6_image 51 = .ok (.getfield 37, 3) := by decide +kernel
theorem dX6_image_54 : decode cX6_image 54 = .ok (.iload_n 1, 1) := by decide +kernel
theorem dX6_image_55 : decode cX6_image 55 = .ok (.iconst 1, 1) := by decide +kernel
theorem dX6_image_56 : decode cX6_image 56 = .ok (.bastore, 1) := by decide +kernel
theorem dX6_image_57 : decode cX6_image 57 = .ok (.iconst 1, 1) := by decide +kernel
theorem dX6_image_58 : decode cX6_image 58 = .ok (.ireturn, 1) := by decide +kernel
theorem dX6_restore_0 : decode cX6_restore 0 = .ok (.iload_n 1, 1) := by decide +kernel
theorem dX6_restore_1 : decode cX6_restore 1 = .ok (.iconst 0, 1) := by decide +kernel
theorem dX6_restore_2 : decode cX6_restore 2 = .ok (.iconst 1, 1) := by decide +kernel
theorem dX6_restore_3 : decode cX6_restore 3 = .ok (.invokestatic 40, 3) := by decide +kernel
theorem dX6_restore_6 : decode cX6_restore 6 = .ok (.ifCond .ne 6, 3) := by decide +kernel
theorem dX6_restore_9 : decode cX6_restore 9 = .ok (.bipush (-2), 2) := by decide +kernel
theorem dX6_restore_11 : decode cX6_restore 11 = .ok (.ireturn, 1) := by decide +kernel
theorem dX6_restore_12 : decode cX6_restore 12 = .ok (.aload_n 0, 1) := by decide +kernel
theorem dX6_restore_13 : decode cX6_restore 13 = .ok (.getfield 37, 3) := by decide +kernel
theorem dX6_restore_16 : decode cX6_restore 16 = .ok (.iload_n 1, 1) := by decide +kernel
theorem dX6_restore_17 : decode cX6_restore 17 = .ok (.baload, 1) := by decide +kernel
theorem dX6_restore_18 : decode cX6_restore 18 = .ok (.ifCond .ne 6, 3) := by decide +kernel
theorem dX6_restore_21 : decode cX6_restore 21 = .ok (.bipush (-3), 2) := by decide +kernel
theorem dX6_restore_23 : decode cX6_restore 23 = .ok (.ireturn, 1) := by decide +kernel
theorem dX6_restore_24 : decode cX6_restore 24 = .ok (.iconst 0, 1) := by decide +kernel
theorem dX6_restore_25 : decode cX6_restore 25 = .ok (.istore_n 2, 1) := by decide +kernel
theorem dX6_restore_26 : decode cX6_restore 26 = .ok (.iload_n 2, 1) := by decide +kernel
theorem dX6_restore_27 : decode cX6_restore 27 = .ok (.bipush 6, 2) := by decide +kernel
theorem dX6_restore_29 : decode cX6_restore 29 = .ok (.if_icmp .ge 23, 3) := by decide +kernel
theorem dX6_restore_32 : decode cX6_restore 32 = .ok (.aload_n 0, 1) := by decide +kernel
theorem dX6_restore_33 : decode cX6_restore 33 = .ok (.bipush 6, 2) := by decide +kernel
theorem dX6_restore_35 : decode cX6_restore 35 = .ok (.bipush 6, 2) := by decide +kernel
theorem dX6_restore_37 : decode cX6_restore 37 = .ok (.iload_n 1, 1) := by decide +kernel
theorem dX6_restore_38 : decode cX6_restore 38 = .ok (.imul, 1) := by decide +kernel
theorem dX6_restore_39 : decode cX6_restore 39 = .ok (.iadd, 1) := by decide +kernel
theorem dX6_restore_40 : decode cX6_restore 40 = .ok (.iload_n 2, 1) := by decide +kernel
theorem dX6_restore_41 : decode cX6_restore 41 = .ok (.iadd, 1) := by decide +kernel
theorem dX6_restore_42 : decode cX6_restore 42 = .ok (.iload_n 2, 1) := by decide +kernel
theorem dX6_restore_43 : decode cX6_restore 43 = .ok (.invokevirtual 67, 3) := by decide +kernel
theorem dX6_restore_46 : decode cX6_restore 46 = .ok (.iinc 2 1, 3) := by decide +kernel
theorem dX6_restore_49 : decode cX6_restore 49 = .ok (.goto (-23), 3) := by decide +kernel
theorem dX6_restore_52 : decode cX6_restore 52 = .ok (.aload_n 0, 1) := by decide +kernel
theorem dX6_restore_53 : decode cX6_restore 53 = .ok (.aload_n 0, 1) := by decide +kernel
theorem dX6_restore_54 : decode cX6_restore 54 = .ok (.getfield 34, 3) := by decide +kernel
theorem dX6_restore_57 : decode cX6_restore 57 = .ok (.iload_n 1, 1) := by decide +kernel
theorem dX6_restore_58 : decode cX6_restore 58 = .ok (.iaload, 1) := by decide +kernel
theorem dX6_restore_59 : decode cX6_restore 59 = .ok (.putfield 7, 3) := by decide +kernel
theorem dX6_restore_62 : decode cX6_restore 62 = .ok (.iconst 1, 1) := by decide +kernel
theorem dX6_restore_63 : decode cX6_restore 63 = .ok (.ireturn, 1) := by decide +kernel
theorem dX6_allStates_0 : decode cX6_allStates 0 = .ok (.iconst 0, 1) := by decide +kernel
theorem dX6_allStates_1 : decode cX6_allStates 1 = .ok (.istore_n 1, 1) := by decide +kernel
theorem dX6_allStates_2 : decode cX6_allStates 2 = .ok (.iconst 0, 1) := by decide +kernel
theorem dX6_allStates_3 : decode cX6_allStates 3 = .ok (.istore_n 2, 1) := by decide +kernel
theorem dX6_allStates_4 : decode cX6_allStates 4 = .ok (.iload_n 2, 1) := by decide +kernel
theorem dX6_allStates_5 : decode cX6_allStates 5 = .ok (.bipush 6, 2) := by decide +kernel
theorem dX6_allStates_7 : decode cX6_allStates 7 = .ok (.if_icmp .ge 21, 3) := by decide +kernel
theorem dX6_allStates_10 : decode cX6_allStates 10 = .ok (.aload_n 0, 1) := by decide +kernel
theorem dX6_allStates_11 : decode cX6_allStates 11 = .ok (.iload_n 2, 1) := by decide +kernel
theorem dX6_allStates_12 : decode cX6_allStates 12 = .ok (.invokevirtual 81, 3) := by decide +kernel
theorem dX6_allStates_15 : decode cX6_allStates 15 = .ok (.iload_n 1, 1) := by decide +kernel
theorem dX6_allStates_16 : decode cX6_allStates 16 = .ok (.aload_n 0, 1) := by decide +kernel
theorem dX6_allStates_17 : decode cX6_allStates 17 = .ok (.getfield 71, 3) := by decide +kernel
theorem dX6_allStates_20 : decode cX6_allStates 20 = .ok (.iadd, 1) := by decide +kernel
theorem dX6_allStates_21 : decode cX6_allStates 21 = .ok (.istore_n 1, 1) := by decide +kernel
theorem dX6_allStates_22 : decode cX6_allStates 22 = .ok (.iinc 2 1, 3) := by decide +kernel
theorem dX6_allStates_25 : decode cX6_allStates 25 = .ok (.goto (-21), 3) := by decide +kernel
theorem dX6_allStates_28 : decode cX6_allStates 28 = .ok (.iload_n 1, 1) := by decide +kernel
theorem dX6_allStates_29 : decode cX6_allStates 29 = .ok (.ireturn, 1) := by decide +kernel
theorem dX6_count_0 : decode cX6_count 0 = .ok (.iload_n 1, 1) := by decide +kernel
theorem dX6_count_1 : decode cX6_count 1 = .ok (.iconst 0, 1) := by decide +kernel
theorem dX6_count_2 : decode cX6_count 2 = .ok (.iconst 4, 1) := by decide +kernel
theorem dX6_count_3 : decode cX6_count 3 = .ok (.invokestatic 40, 3) := by decide +kernel
theorem dX6_count_6 : decode cX6_count 6 = .ok (.ifCond .ne 6, 3) := by decide +kernel
theorem dX6_count_9 : decode cX6_count 9 = .ok (.bipush (-2), 2) := by decide +kernel
theorem dX6_count_11 : decode cX6_count 11 = .ok (.ireturn, 1) := by decide +kernel
theorem dX6_count_12 : decode cX6_count 12 = .ok (.iconst 0, 1) := by decide +kernel
theorem dX6_count_13 : decode cX6_count 13 = .ok (.istore_n 2, 1) := by decide +kernel
theorem dX6_count_14 : decode cX6_count 14 = .ok (.iconst 0, 1) := by decide +kernel
theorem dX6_count_15 : decode cX6_count 15 = .ok (.istore_n 3, 1) := by decide +kernel
theorem dX6_count_16 : decode cX6_count 16 = .ok (.iconst 0, 1) := by decide +kernel
theorem dX6_count_17 : decode cX6_count 17 = .ok (.istore 4, 2) := by decide +kernel
theorem dX6_count_19 : decode cX6_count 19 = .ok (.iload 4, 2) := by decide +kernel
theorem dX6_count_21 : decode cX6_count 21 = .ok (.bipush 6, 2) := by decide +kernel
theorem dX6_count_23 : decode cX6_count 23 = .ok (.if_icmp .ge 118, 3) := by decide +kernel
theorem dX6_count_26 : decode cX6_count 26 = .ok (.iload_n 2, 1) := by decide +kernel
theorem dX6_count_27 : decode cX6_count 27 = .ok (.aload_n 0, 1) := by decide +kernel
theorem dX6_count_28 : decode cX6_count 28 = .ok (.getfield 20, 3) := by decide +kernel
theorem dX6_count_31 : decode cX6_count 31 = .ok (.iconst 3, 1) := by decide +kernel
theorem dX6_count_32 : decode cX6_count 32 = .ok (.iload 4, 2) := by decide +kernel
theorem dX6_count_34 : decode cX6_count 34 = .ok (.imul, 1) := by decide +kernel
theorem dX6_count_35 : decode cX6_count 35 = .ok (.laload, 1) := by decide +kernel
theorem dX6_count_36 : decode cX6_count 36 = .ok (.lconst 0, 1) := by decide +kernel
theorem dX6_count_37 : decode cX6_count 37 = .ok (.lcmp, 1) := by decide +kernel
theorem dX6_count_38 : decode cX6_count 38 = .ok (.ifCond .ne 35, 3) := by decide +kernel
theorem dX6_count_41 : decode cX6_count 41 = .ok (.aload_n 0, 1) := by decide +kernel
theorem dX6_count_42 : decode cX6_count 42 = .ok (.getfield 20, 3) := by decide +kernel
theorem dX6_count_45 : decode cX6_count 45 = .ok (.iconst 3, 1) := by decide +kernel
theorem dX6_count_46 : decode cX6_count 46 = .ok (.iload 4, 2) := by decide +kernel
theorem dX6_count_48 : decode cX6_count 48 = .ok (.imul, 1) := by decide +kernel
theorem dX6_count_49 : decode cX6_count 49 = .ok (.iconst 1, 1) := by decide +kernel
theorem dX6_count_50 : decode cX6_count 50 = .ok (.iadd, 1) := by decide +kernel
theorem dX6_count_51 : decode cX6_count 51 = .ok (.laload, 1) := by decide +kernel
theorem dX6_count_52 : decode cX6_count 52 = .ok (.lconst 0, 1) := by decide +kernel
theorem dX6_count_53 : decode cX6_count 53 = .ok (.lcmp, 1) := by decide +kernel
theorem dX6_count_54 : decode cX6_count 54 = .ok (.ifCond .ne 19, 3) := by decide +kernel
theorem dX6_count_57 : decode cX6_count 57 = .ok (.aload_n 0, 1) := by decide +kernel
theorem dX6_count_58 : decode cX6_count 58 = .ok (.getfield 20, 3) := by decide +kernel
theorem dX6_count_61 : decode cX6_count 61 = .ok (.iconst 3, 1) := by decide +kernel
theorem dX6_count_62 : decode cX6_count 62 = .ok (.iload 4, 2) := by decide +kernel
theorem dX6_count_64 : decode cX6_count 64 = .ok (.imul, 1) := by decide +kernel
theorem dX6_count_65 : decode cX6_count 65 = .ok (.iconst 2, 1) := by decide +kernel
theorem dX6_count_66 : decode cX6_count 66 = .ok (.iadd, 1) := by decide +kernel
theorem dX6_count_67 : decode cX6_count 67 = .ok (.laload, 1) := by decide +kernel
theorem dX6_count_68 : decode cX6_count 68 = .ok (.lconst 0, 1) := by decide +kernel
theorem dX6_count_69 : decode cX6_count 69 = .ok (.lcmp, 1) := by decide +kernel
theorem dX6_count_70 : decode cX6_count 70 = .ok (.ifCond .eq 7, 3) := by decide +kernel
theorem dX6_count_73 : decode cX6_count 73 = .ok (.iconst 1, 1) := by decide +kernel
theorem dX6_count_74 : decode cX6_count 74 = .ok (.goto 4, 3) := by decide +kernel
theorem dX6_count_77 : decode cX6_count 77 = .ok (.iconst 0, 1) := by decide +kernel
theorem dX6_count_78 : decode cX6_count 78 = .ok (.iadd, 1) := by decide +kernel
theorem dX6_count_79 : decode cX6_count 79 = .ok (.istore_n 2, 1) := by decide +kernel
theorem dX6_count_80 : decode cX6_count 80 = .ok (.iconst 1, 1) := by decide +kernel
theorem dX6_count_81 : decode cX6_count 81 = .ok (.istore 5, 2) := by decide +kernel
theorem dX6_count_83 : decode cX6_count 83 = .ok (.iconst 0, 1) := by decide +kernel
theorem dX6_count_84 : decode cX6_count 84 = .ok (.istore 6, 2) := by decide +kernel
theorem dX6_count_86 : decode cX6_count 86 = .ok (.iload 6, 2) := by decide +kernel
theorem dX6_count_88 : decode cX6_count 88 = .ok (.iload 4, 2) := by decide +kernel
theorem dX6_count_90 : decode cX6_count 90 = .ok (.if_icmp .ge 32, 3) := by decide +kernel
theorem dX6_count_93 : decode cX6_count 93 = .ok (.iload 5, 2) := by decide +kernel
theorem dX6_count_95 : decode cX6_count 95 = .ok (.ifCond .eq 18, 3) := by decide +kernel
theorem dX6_count_98 : decode cX6_count 98 = .ok (.aload_n 0, 1) := by decide +kernel
theorem dX6_count_99 : decode cX6_count 99 = .ok (.iload 6, 2) := by decide +kernel
theorem dX6_count_101 : decode cX6_count 101 = .ok (.iload 4, 2) := by decide +kernel
theorem dX6_count_103 : decode cX6_count 103 = .ok (.invokevirtual 78, 3) := by decide +kernel
theorem dX6_count_106 : decode cX6_count 106 = .ok (.ifCond .ne 7, 3) := by decide +kernel
theorem dX6_count_109 : decode cX6_count 109 = .ok (.iconst 1, 1) := by decide +kernel
theorem dX6_count_110 : decode cX6_count 110 = .ok (.goto 4, 3) := by decide +kernel
theorem dX6_count_113 : decode cX6_count 113 = .ok (.iconst 0, 1) := by decide +kernel
theorem dX6_count_114 : decode cX6_count 114 = .ok (.istore 5, 2) := by decide +kernel
theorem dX6_count_116 : decode cX6_count 116 = .ok (.iinc 6 1, 3) := by decide +kernel
theorem dX6_count_119 : decode cX6_count 119 = .ok (.goto (-33), 3) := by decide +kernel
theorem dX6_count_122 : decode cX6_count 122 = .ok (.iload_n 3, 1) := by decide +kernel
theorem dX6_count_123 : decode cX6_count 123 = .ok (.iload 5, 2) := by decide +kernel
theorem dX6_count_125 : decode cX6_count 125 = .ok (.ifCond .eq 7, 3) := by decide +kernel
theorem dX6_count_128 : decode cX6_count 128 = .ok (.iconst 1, 1) := by decide +kernel
theorem dX6_count_129 : decode cX6_count 129 = .ok (.goto 4, 3) := by decide +kernel
theorem dX6_count_132 : decode cX6_count 132 = .ok (.iconst 0, 1) := by decide +kernel
theorem dX6_count_133 : decode cX6_count 133 = .ok (.iadd, 1) := by decide +kernel
theorem dX6_count_134 : decode cX6_count 134 = .ok (.istore_n 3, 1) := by decide +kernel
theorem dX6_count_135 : decode cX6_count 135 = .ok (.iinc 4 1, 3) := by decide +kernel
theorem dX6_count_138 : decode cX6_count 138 = .ok (.goto (-119), 3) := by decide +kernel
theorem dX6_count_141 : decode cX6_count 141 = .ok (.iload_n 1, 1) := by decide +kernel
theorem dX6_count_142 : decode cX6_count 142 = .ok (.ifCond .ne 7, 3) := by decide +kernel
theorem dX6_count_145 : decode cX6_count 145 = .ok (.iload_n 2, 1) := by decide +kernel
theorem dX6_count_146 : decode cX6_count 146 = .ok (.goto 65, 3) := by decide +kernel
theorem dX6_count_149 : decode cX6_count 149 = .ok (.iload_n 1, 1) := by decide +kernel
theorem dX6_count_150 : decode cX6_count 150 = .ok (.iconst 1, 1) := by decide +kernel
theorem dX6_count_151 : decode cX6_count 151 = .ok (.if_icmp .ne 7, 3) := by decide +kernel
theorem dX6_count_154 : decode cX6_count 154 = .ok (.iload_n 3, 1) := by decide +kernel
theorem dX6_count_155 : decode cX6_count 155 = .ok (.goto 56, 3) := by decide +kernel
theorem dX6_count_158 : decode cX6_count 158 = .ok (.iload_n 1, 1) := by decide +kernel
theorem dX6_count_159 : decode cX6_count 159 = .ok (.iconst 2, 1) := by decide +kernel
theorem dX6_count_160 : decode cX6_count 160 = .ok (.if_icmp .ne 10, 3) := by decide +kernel
theorem dX6_count_163 : decode cX6_count 163 = .ok (.aload_n 0, 1) := by decide +kernel
theorem dX6_count_164 : decode cX6_count 164 = .ok (.getfield 7, 3) := by decide +kernel
theorem dX6_count_167 : decode cX6_count 167 = .ok (.goto 44, 3) := by decide +kernel
theorem dX6_count_170 : decode cX6_count 170 = .ok (.iload_n 1, 1) := by decide +kernel
theorem dX6_count_171 : decode cX6_count 171 = .ok (.iconst 3, 1) := by decide +kernel
theorem dX6_count_172 : decode cX6_count 172 = .ok (.if_icmp .ne 10, 3) := by decide +kernel
theorem dX6_count_175 : decode cX6_count 175 = .ok (.aload_n 0, 1) := by decide +kernel
theorem dX6_count_176 : decode cX6_count 176 = .ok (.invokevirtual 114, 3) := by decide +kernel
theorem dX6_count_179 : decode cX6_count 179 = .ok (.goto 32, 3) := by decide +kernel
theorem dX6_count_182 : decode cX6_count 182 = .ok (.aload_n 0, 1) := by decide +kernel
theorem dX6_count_183 : decode cX6_count 183 = .ok (.getfield 37, 3) := by decide +kernel
theorem dX6_count_186 : decode cX6_count 186 = .ok (.iconst 0, 1) := by decide +kernel
theorem dX6_count_187 : decode cX6_count 187 = .ok (.baload, 1) := by decide +kernel
theorem dX6_count_188 : decode cX6_count 188 = .ok (.ifCond .eq 7, 3) := by decide +kernel
theorem dX6_count_191 : decode cX6_count 191 = .ok (.iconst 1, 1) := by decide +kernel
theorem dX6_count_192 : decode cX6_count 192 = .ok (.goto 4, 3) := by decide +kernel
theorem dX6_count_195 : decode cX6_count 195 = .ok (.iconst 0, 1) := by decide +kernel
theorem dX6_count_196 : decode cX6_count 196 = .ok (.aload_n 0, 1) := by decide +kernel
theorem dX6_count_197 : decode cX6_count 197 = .ok (.getfield 37, 3) := by decide +kernel
theorem dX6_count_200 : decode cX6_count 200 = .ok (.iconst 1, 1) := by decide +kernel
theorem dX6_count_201 : decode cX6_count 201 = .ok (.baload, 1) := by decide +kernel
theorem dX6_count_202 : decode cX6_count 202 = .ok (.ifCond .eq 7, 3) := by decide +kernel
theorem dX6_count_205 : decode cX6_count 205 = .ok (.iconst 2, 1) := by decide +kernel
theorem dX6_count_206 : decode cX6_count 206 = .ok (.goto 4, 3) := by decide +kernel
theorem dX6_count_209 : decode cX6_count 209 = .ok (.iconst 0, 1) := by decide +kernel
theorem dX6_count_210 : decode cX6_count 210 = .ok (.iadd, 1) := by decide +kernel
theorem dX6_count_211 : decode cX6_count 211 = .ok (.ireturn, 1) := by decide +kernel
theorem dJ13_bitCount_95d88_0 : decode cJ13_bitCount_95d88 0 = .ok (.lload_n 0, 1) := by decide +kernel
theorem dJ13_bitCount_95d88_1 : decode cJ13_bitCount_95d88 1 = .ok (.lload_n 0, 1) := by decide +kernel
theorem dJ13_bitCount_95d88_2 : decode cJ13_bitCount_95d88 2 = .ok (.iconst 1, 1) := by decide +kernel
theorem dJ13_bitCount_95d88_3 : decode cJ13_bitCount_95d88 3 = .ok (.lushr, 1) := by decide +kernel
theorem dJ13_bitCount_95d88_4 : decode cJ13_bitCount_95d88 4 = .ok (.ldc2_w 314, 3) := by decide +kernel
theorem dJ13_bitCount_95d88_7 : decode cJ13_bitCount_95d88 7 = .ok (.land, 1) := by decide +kernel
theorem dJ13_bitCount_95d88_8 : decode cJ13_bitCount_95d88 8 = .ok (.lsub, 1) := by decide +kernel
theorem dJ13_bitCount_95d88_9 : decode cJ13_bitCount_95d88 9 = .ok (.lstore_n 0, 1) := by decide +kernel
theorem dJ13_bitCount_95d88_10 : decode cJ13_bitCount_95d88 10 = .ok (.lload_n 0, 1) := by decide +kernel
theorem dJ13_bitCount_95d88_11 : decode cJ13_bitCount_95d88 11 = .ok (.ldc2_w 316, 3) := by decide +kernel
theorem dJ13_bitCount_95d88_14 : decode cJ13_bitCount_95d88 14 = .ok (.land, 1) := by decide +kernel
theorem dJ13_bitCount_95d88_15 : decode cJ13_bitCount_95d88 15 = .ok (.lload_n 0, 1) := by decide +kernel
theorem dJ13_bitCount_95d88_16 : decode cJ13_bitCount_95d88 16 = .ok (.iconst 2, 1) := by decide +kernel
theorem dJ13_bitCount_95d88_17 : decode cJ13_bitCount_95d88 17 = .ok (.lushr, 1) := by decide +kernel
theorem dJ13_bitCount_95d88_18 : decode cJ13_bitCount_95d88 18 = .ok (.ldc2_w 316, 3) := by decide +kernel
theorem dJ13_bitCount_95d88_21 : decode cJ13_bitCount_95d88 21 = .ok (.land, 1) := by decide +kernel
theorem dJ13_bitCount_95d88_22 : decode cJ13_bitCount_95d88 22 = .ok (.ladd, 1) := by decide +kernel
theorem dJ13_bitCount_95d88_23 : decode cJ13_bitCount_95d88 23 = .ok (.lstore_n 0, 1) := by decide +kernel
theorem dJ13_bitCount_95d88_24 : decode cJ13_bitCount_95d88 24 = .ok (.lload_n 0, 1) := by decide +kernel
theorem dJ13_bitCount_95d88_25 : decode cJ13_bitCount_95d88 25 = .ok (.lload_n 0, 1) := by decide +kernel
theorem dJ13_bitCount_95d88_26 : decode cJ13_bitCount_95d88 26 = .ok (.iconst 4, 1) := by decide +kernel
theorem dJ13_bitCount_95d88_27 : decode cJ13_bitCount_95d88 27 = .ok (.lushr, 1) := by decide +kernel
theorem dJ13_bitCount_95d88_28 : decode cJ13_bitCount_95d88 28 = .ok (.ladd, 1) := by decide +kernel
theorem dJ13_bitCount_95d88_29 : decode cJ13_bitCount_95d88 29 = .ok (.ldc2_w 318, 3) := by decide +kernel
theorem dJ13_bitCount_95d88_32 : decode cJ13_bitCount_95d88 32 = .ok (.land, 1) := by decide +kernel
theorem dJ13_bitCount_95d88_33 : decode cJ13_bitCount_95d88 33 = .ok (.lstore_n 0, 1) := by decide +kernel
theorem dJ13_bitCount_95d88_34 : decode cJ13_bitCount_95d88 34 = .ok (.lload_n 0, 1) := by decide +kernel
theorem dJ13_bitCount_95d88_35 : decode cJ13_bitCount_95d88 35 = .ok (.lload_n 0, 1) := by decide +kernel
theorem dJ13_bitCount_95d88_36 : decode cJ13_bitCount_95d88 36 = .ok (.bipush 8, 2) := by decide +kernel
theorem dJ13_bitCount_95d88_38 : decode cJ13_bitCount_95d88 38 = .ok (.lushr, 1) := by decide +kernel
theorem dJ13_bitCount_95d88_39 : decode cJ13_bitCount_95d88 39 = .ok (.ladd, 1) := by decide +kernel
theorem dJ13_bitCount_95d88_40 : decode cJ13_bitCount_95d88 40 = .ok (.lstore_n 0, 1) := by decide +kernel
theorem dJ13_bitCount_95d88_41 : decode cJ13_bitCount_95d88 41 = .ok (.lload_n 0, 1) := by decide +kernel
theorem dJ13_bitCount_95d88_42 : decode cJ13_bitCount_95d88 42 = .ok (.lload_n 0, 1) := by decide +kernel
theorem dJ13_bitCount_95d88_43 : decode cJ13_bitCount_95d88 43 = .ok (.bipush 16, 2) := by decide +kernel
theorem dJ13_bitCount_95d88_45 : decode cJ13_bitCount_95d88 45 = .ok (.lushr, 1) := by decide +kernel
theorem dJ13_bitCount_95d88_46 : decode cJ13_bitCount_95d88 46 = .ok (.ladd, 1) := by decide +kernel
theorem dJ13_bitCount_95d88_47 : decode cJ13_bitCount_95d88 47 = .ok (.lstore_n 0, 1) := by decide +kernel
theorem dJ13_bitCount_95d88_48 : decode cJ13_bitCount_95d88 48 = .ok (.lload_n 0, 1) := by decide +kernel
theorem dJ13_bitCount_95d88_49 : decode cJ13_bitCount_95d88 49 = .ok (.lload_n 0, 1) := by decide +kernel
theorem dJ13_bitCount_95d88_50 : decode cJ13_bitCount_95d88 50 = .ok (.bipush 32, 2) := by decide +kernel
theorem dJ13_bitCount_95d88_52 : decode cJ13_bitCount_95d88 52 = .ok (.lushr, 1) := by decide +kernel
theorem dJ13_bitCount_95d88_53 : decode cJ13_bitCount_95d88 53 = .ok (.ladd, 1) := by decide +kernel
theorem dJ13_bitCount_95d88_54 : decode cJ13_bitCount_95d88 54 = .ok (.lstore_n 0, 1) := by decide +kernel
theorem dJ13_bitCount_95d88_55 : decode cJ13_bitCount_95d88 55 = .ok (.lload_n 0, 1) := by decide +kernel
theorem dJ13_bitCount_95d88_56 : decode cJ13_bitCount_95d88 56 = .ok (.l2i, 1) := by decide +kernel
theorem dJ13_bitCount_95d88_57 : decode cJ13_bitCount_95d88 57 = .ok (.bipush 127, 2) := by decide +kernel
theorem dJ13_bitCount_95d88_59 : decode cJ13_bitCount_95d88 59 = .ok (.iand, 1) := by decide +kernel
theorem dJ13_bitCount_95d88_60 : decode cJ13_bitCount_95d88 60 = .ok (.ireturn, 1) := by decide +kernel
theorem dJ9_max_7cf53_0 : decode cJ9_max_7cf53 0 = .ok (.iload_n 0, 1) := by decide +kernel
theorem dJ9_max_7cf53_1 : decode cJ9_max_7cf53 1 = .ok (.iload_n 1, 1) := by decide +kernel
theorem dJ9_max_7cf53_2 : decode cJ9_max_7cf53 2 = .ok (.if_icmp .lt 7, 3) := by decide +kernel
theorem dJ9_max_7cf53_5 : decode cJ9_max_7cf53 5 = .ok (.iload_n 0, 1) := by decide +kernel
theorem dJ9_max_7cf53_6 : decode cJ9_max_7cf53 6 = .ok (.goto 4, 3) := by decide +kernel
theorem dJ9_max_7cf53_9 : decode cJ9_max_7cf53 9 = .ok (.iload_n 1, 1) := by decide +kernel
theorem dJ9_max_7cf53_10 : decode cJ9_max_7cf53 10 = .ok (.ireturn, 1) := by decide +kernel
theorem dJ9_min_7cf53_0 : decode cJ9_min_7cf53 0 = .ok (.iload_n 0, 1) := by decide +kernel
theorem dJ9_min_7cf53_1 : decode cJ9_min_7cf53 1 = .ok (.iload_n 1, 1) := by decide +kernel
theorem dJ9_min_7cf53_2 : decode cJ9_min_7cf53 2 = .ok (.if_icmp .gt 7, 3) := by decide +kernel
theorem dJ9_min_7cf53_5 : decode cJ9_min_7cf53 5 = .ok (.iload_n 0, 1) := by decide +kernel
theorem dJ9_min_7cf53_6 : decode cJ9_min_7cf53 6 = .ok (.goto 4, 3) := by decide +kernel
theorem dJ9_min_7cf53_9 : decode cJ9_min_7cf53 9 = .ok (.iload_n 1, 1) := by decide +kernel
theorem dJ9_min_7cf53_10 : decode cJ9_min_7cf53 10 = .ok (.ireturn, 1) := by decide +kernel
theorem dJ7_fill_d0a16_0 : decode cJ7_fill_d0a16 0 = .ok (.iconst 0, 1) := by decide +kernel
theorem dJ7_fill_d0a16_1 : decode cJ7_fill_d0a16 1 = .ok (.istore_n 3, 1) := by decide +kernel
theorem dJ7_fill_d0a16_2 : decode cJ7_fill_d0a16 2 = .ok (.aload_n 0, 1) := by decide +kernel
theorem dJ7_fill_d0a16_3 : decode cJ7_fill_d0a16 3 = .ok (.arraylength, 1) := by decide +kernel
theorem dJ7_fill_d0a16_4 : decode cJ7_fill_d0a16 4 = .ok (.istore 4, 2) := by decide +kernel
theorem dJ7_fill_d0a16_6 : decode cJ7_fill_d0a16 6 = .ok (.iload_n 3, 1) := by decide +kernel
theorem dJ7_fill_d0a16_7 : decode cJ7_fill_d0a16 7 = .ok (.iload 4, 2) := by decide +kernel
theorem dJ7_fill_d0a16_9 : decode cJ7_fill_d0a16 9 = .ok (.if_icmp .ge 13, 3) := by decide +kernel
theorem dJ7_fill_d0a16_12 : decode cJ7_fill_d0a16 12 = .ok (.aload_n 0, 1) := by decide +kernel
theorem dJ7_fill_d0a16_13 : decode cJ7_fill_d0a16 13 = .ok (.iload_n 3, 1) := by decide +kernel
theorem dJ7_fill_d0a16_14 : decode cJ7_fill_d0a16 14 = .ok (.lload_n 1, 1) := by decide +kernel
theorem dJ7_fill_d0a16_15 : decode cJ7_fill_d0a16 15 = .ok (.lastore, 1) := by decide +kernel
theorem dJ7_fill_d0a16_16 : decode cJ7_fill_d0a16 16 = .ok (.iinc 3 1, 3) := by decide +kernel
theorem dJ7_fill_d0a16_19 : decode cJ7_fill_d0a16 19 = .ok (.goto (-13), 3) := by decide +kernel
theorem dJ7_fill_d0a16_22 : decode cJ7_fill_d0a16 22 = .ok (.return_, 1) := by decide +kernel
theorem dJ7_copyOf_59c91_0 : decode cJ7_copyOf_59c91 0 = .ok (.iload_n 1, 1) := by decide +kernel
theorem dJ7_copyOf_59c91_1 : decode cJ7_copyOf_59c91 1 = .ok (.aload_n 0, 1) := by decide +kernel
theorem dJ7_copyOf_59c91_2 : decode cJ7_copyOf_59c91 2 = .ok (.arraylength, 1) := by decide +kernel
theorem dJ7_copyOf_59c91_3 : decode cJ7_copyOf_59c91 3 = .ok (.if_icmp .ne 11, 3) := by decide +kernel
theorem dJ7_copyOf_59c91_6 : decode cJ7_copyOf_59c91 6 = .ok (.aload_n 0, 1) := by decide +kernel
theorem dJ7_copyOf_59c91_7 : decode cJ7_copyOf_59c91 7 = .ok (.invokevirtual 316, 3) := by decide +kernel
theorem dJ7_copyOf_59c91_10 : decode cJ7_copyOf_59c91 10 = .ok (.checkcast 317, 3) := by decide +kernel
theorem dJ7_copyOf_59c91_13 : decode cJ7_copyOf_59c91 13 = .ok (.areturn, 1) := by decide +kernel
theorem dJ7_copyOf_59c91_14 : decode cJ7_copyOf_59c91 14 = .ok (.iload_n 1, 1) := by decide +kernel
theorem dJ7_copyOf_59c91_15 : decode cJ7_copyOf_59c91 15 = .ok (.newarray .int, 2) := by decide +kernel
theorem dJ7_copyOf_59c91_17 : decode cJ7_copyOf_59c91 17 = .ok (.astore_n 2, 1) := by decide +kernel
theorem dJ7_copyOf_59c91_18 : decode cJ7_copyOf_59c91 18 = .ok (.aload_n 0, 1) := by decide +kernel
theorem dJ7_copyOf_59c91_19 : decode cJ7_copyOf_59c91 19 = .ok (.iconst 0, 1) := by decide +kernel
theorem dJ7_copyOf_59c91_20 : decode cJ7_copyOf_59c91 20 = .ok (.aload_n 2, 1) := by decide +kernel
theorem dJ7_copyOf_59c91_21 : decode cJ7_copyOf_59c91 21 = .ok (.iconst 0, 1) := by decide +kernel
theorem dJ7_copyOf_59c91_22 : decode cJ7_copyOf_59c91 22 = .ok (.aload_n 0, 1) := by decide +kernel
theorem dJ7_copyOf_59c91_23 : decode cJ7_copyOf_59c91 23 = .ok (.arraylength, 1) := by decide +kernel
theorem dJ7_copyOf_59c91_24 : decode cJ7_copyOf_59c91 24 = .ok (.iload_n 1, 1) := by decide +kernel
theorem dJ7_copyOf_59c91_25 : decode cJ7_copyOf_59c91 25 = .ok (.invokestatic 304, 3) := by decide +kernel
theorem dJ7_copyOf_59c91_28 : decode cJ7_copyOf_59c91 28 = .ok (.invokestatic 150, 3) := by decide +kernel
theorem dJ7_copyOf_59c91_31 : decode cJ7_copyOf_59c91 31 = .ok (.aload_n 2, 1) := by decide +kernel
theorem dJ7_copyOf_59c91_32 : decode cJ7_copyOf_59c91 32 = .ok (.areturn, 1) := by decide +kernel
theorem dJ7_copyOf_c38d5_0 : decode cJ7_copyOf_c38d5 0 = .ok (.iload_n 1, 1) := by decide +kernel
theorem dJ7_copyOf_c38d5_1 : decode cJ7_copyOf_c38d5 1 = .ok (.aload_n 0, 1) := by decide +kernel
theorem dJ7_copyOf_c38d5_2 : decode cJ7_copyOf_c38d5 2 = .ok (.arraylength, 1) := by decide +kernel
theorem dJ7_copyOf_c38d5_3 : decode cJ7_copyOf_c38d5 3 = .ok (.if_icmp .ne 11, 3) := by decide +kernel
theorem dJ7_copyOf_c38d5_6 : decode cJ7_copyOf_c38d5 6 = .ok (.aload_n 0, 1) := by decide +kernel
theorem dJ7_copyOf_c38d5_7 : decode cJ7_copyOf_c38d5 7 = .ok (.invokevirtual 319, 3) := by decide +kernel
theorem dJ7_copyOf_c38d5_10 : decode cJ7_copyOf_c38d5 10 = .ok (.checkcast 320, 3) := by decide +kernel
theorem dJ7_copyOf_c38d5_13 : decode cJ7_copyOf_c38d5 13 = .ok (.areturn, 1) := by decide +kernel
theorem dJ7_copyOf_c38d5_14 : decode cJ7_copyOf_c38d5 14 = .ok (.iload_n 1, 1) := by decide +kernel
theorem dJ7_copyOf_c38d5_15 : decode cJ7_copyOf_c38d5 15 = .ok (.newarray .long, 2) := by decide +kernel
theorem dJ7_copyOf_c38d5_17 : decode cJ7_copyOf_c38d5 17 = .ok (.astore_n 2, 1) := by decide +kernel
theorem dJ7_copyOf_c38d5_18 : decode cJ7_copyOf_c38d5 18 = .ok (.aload_n 0, 1) := by decide +kernel
theorem dJ7_copyOf_c38d5_19 : decode cJ7_copyOf_c38d5 19 = .ok (.iconst 0, 1) := by decide +kernel
theorem dJ7_copyOf_c38d5_20 : decode cJ7_copyOf_c38d5 20 = .ok (.aload_n 2, 1) := by decide +kernel
theorem dJ7_copyOf_c38d5_21 : decode cJ7_copyOf_c38d5 21 = .ok (.iconst 0, 1) := by decide +kernel
theorem dJ7_copyOf_c38d5_22 : decode cJ7_copyOf_c38d5 22 = .ok (.aload_n 0, 1) := by decide +kernel
theorem dJ7_copyOf_c38d5_23 : decode cJ7_copyOf_c38d5 23 = .ok (.arraylength, 1) := by decide +kernel
theorem dJ7_copyOf_c38d5_24 : decode cJ7_copyOf_c38d5 24 = .ok (.iload_n 1, 1) := by decide +kernel
theorem dJ7_copyOf_c38d5_25 : decode cJ7_copyOf_c38d5 25 = .ok (.invokestatic 304, 3) := by decide +kernel
theorem dJ7_copyOf_c38d5_28 : decode cJ7_copyOf_c38d5 28 = .ok (.invokestatic 150, 3) := by decide +kernel
theorem dJ7_copyOf_c38d5_31 : decode cJ7_copyOf_c38d5 31 = .ok (.aload_n 2, 1) := by decide +kernel
theorem dJ7_copyOf_c38d5_32 : decode cJ7_copyOf_c38d5 32 = .ok (.areturn, 1) := by decide +kernel
theorem dL_law_0 : decode cL_law 0 = .ok (.new 7, 3) := by decide +kernel
theorem dL_law_3 : decode cL_law 3 = .ok (.dup, 1) := by decide +kernel
theorem dL_law_4 : decode cL_law 4 = .ok (.invokespecial 9, 3) := by decide +kernel
theorem dL_law_7 : decode cL_law 7 = .ok (.astore_n 1, 1) := by decide +kernel
theorem dL_law_8 : decode cL_law 8 = .ok (.new 10, 3) := by decide +kernel
theorem dL_law_11 : decode cL_law 11 = .ok (.dup, 1) := by decide +kernel
theorem dL_law_12 : decode cL_law 12 = .ok (.invokespecial 12, 3) := by decide +kernel
theorem dL_law_15 : decode cL_law 15 = .ok (.astore_n 2, 1) := by decide +kernel
theorem dL_law_16 : decode cL_law 16 = .ok (.iconst 0, 1) := by decide +kernel
theorem dL_law_17 : decode cL_law 17 = .ok (.istore_n 3, 1) := by decide +kernel
theorem dL_law_18 : decode cL_law 18 = .ok (.iload_n 3, 1) := by decide +kernel
theorem dL_law_19 : decode cL_law 19 = .ok (.aload_n 0, 1) := by decide +kernel
theorem dL_law_20 : decode cL_law 20 = .ok (.arraylength, 1) := by decide +kernel
theorem dL_law_21 : decode cL_law 21 = .ok (.iconst 5, 1) := by decide +kernel
theorem dL_law_22 : decode cL_law 22 = .ok (.isub, 1) := by decide +kernel
theorem dL_law_23 : decode cL_law 23 = .ok (.if_icmp .gt 740, 3) := by decide +kernel
theorem dL_law_26 : decode cL_law 26 = .ok (.aload_n 0, 1) := by decide +kernel
theorem dL_law_27 : decode cL_law 27 = .ok (.iload_n 3, 1) := by decide +kernel
theorem dL_law_28 : decode cL_law 28 = .ok (.iaload, 1) := by decide +kernel
theorem dL_law_29 : decode cL_law 29 = .ok (.bipush 31, 2) := by decide +kernel
theorem dL_law_31 : decode cL_law 31 = .ok (.iand, 1) := by decide +kernel
theorem dL_law_32 : decode cL_law 32 = .ok (.tableswitch 725 0 16 #[84, 107, 160, 213, 246, 289, 342, 395, 428, 471, 514, 547, 580, 613, 656, 679, 702], 84) := by decide +kernel
theorem dL_law_116 : decode cL_law 116 = .ok (.aload_n 1, 1) := by decide +kernel
theorem dL_law_117 : decode cL_law 117 = .ok (.aload_n 0, 1) := by decide +kernel
theorem dL_law_118 : decode cL_law 118 = .ok (.iload_n 3, 1) := by decide +kernel
theorem dL_law_119 : decode cL_law 119 = .ok (.iconst 1, 1) := by decide +kernel
theorem dL_law_120 : decode cL_law 120 = .ok (.iadd, 1) := by decide +kernel
theorem dL_law_121 : decode cL_law 121 = .ok (.iaload, 1) := by decide +kernel
theorem dL_law_122 : decode cL_law 122 = .ok (.invokevirtual 13, 3) := by decide +kernel
theorem dL_law_125 : decode cL_law 125 = .ok (.aload_n 2, 1) := by decide +kernel
theorem dL_law_126 : decode cL_law 126 = .ok (.aload_n 0, 1) := by decide +kernel
theorem dL_law_127 : decode cL_law 127 = .ok (.iload_n 3, 1) := by decide +kernel
theorem dL_law_128 : decode cL_law 128 = .ok (.iconst 1, 1) := by decide +kernel
theorem dL_law_129 : decode cL_law 129 = .ok (.iadd, 1) := by decide +kernel
theorem dL_law_130 : decode cL_law 130 = .ok (.iaload, 1) := by decide +kernel
theorem dL_law_131 : decode cL_law 131 = .ok (.invokevirtual 17, 3) := by decide +kernel
theorem dL_law_134 : decode cL_law 134 = .ok (.if_icmp .eq 623, 3) := by decide +kernel
theorem dL_law_137 : decode cL_law 137 = .ok (.iconst 0, 1) := by decide +kernel
theorem dL_law_138 : decode cL_law 138 = .ok (.ireturn, 1) := by decide +kernel
theorem dL_law_139 : decode cL_law 139 = .ok (.aload_n 1, 1) := by decide +kernel
theorem dL_law_140 : decode cL_law 140 = .ok (.aload_n 0, 1) := by decide +kernel
theorem dL_law_141 : decode cL_law 141 = .ok (.iload_n 3, 1) := by decide +kernel
theorem dL_law_142 : decode cL_law 142 = .ok (.iconst 1, 1) := by decide +kernel
theorem dL_law_143 : decode cL_law 143 = .ok (.iadd, 1) := by decide +kernel
theorem dL_law_144 : decode cL_law 144 = .ok (.iaload, 1) := by decide +kernel
theorem dL_law_145 : decode cL_law 145 = .ok (.aload_n 0, 1) := by decide +kernel
theorem dL_law_146 : decode cL_law 146 = .ok (.iload_n 3, 1) := by decide +kernel
theorem dL_law_147 : decode cL_law 147 = .ok (.iconst 2, 1) := by decide +kernel
theorem dL_law_148 : decode cL_law 148 = .ok (.iadd, 1) := by decide +kernel
theorem dL_law_149 : decode cL_law 149 = .ok (.iaload, 1) := by decide +kernel
theorem dL_law_150 : decode cL_law 150 = .ok (.aload_n 0, 1) := by decide +kernel
theorem dL_law_151 : decode cL_law 151 = .ok (.iload_n 3, 1) := by decide +kernel
theorem dL_law_152 : decode cL_law 152 = .ok (.iconst 3, 1) := by decide +kernel
theorem dL_law_153 : decode cL_law 153 = .ok (.iadd, 1) := by decide +kernel
theorem dL_law_154 : decode cL_law 154 = .ok (.iaload, 1) := by decide +kernel
theorem dL_law_155 : decode cL_law 155 = .ok (.aload_n 0, 1) := by decide +kernel
theorem dL_law_156 : decode cL_law 156 = .ok (.iload_n 3, 1) := by decide +kernel
theorem dL_law_157 : decode cL_law 157 = .ok (.iconst 4, 1) := by decide +kernel
theorem dL_law_158 : decode cL_law 158 = .ok (.iadd, 1) := by decide +kernel
theorem dL_law_159 : decode cL_law 159 = .ok (.iaload, 1) := by decide +kernel
theorem dL_law_160 : decode cL_law 160 = .ok (.invokevirtual 18, 3) := by decide +kernel
theorem dL_law_163 : decode cL_law 163 = .ok (.aload_n 2, 1) := by decide +kernel
theorem dL_law_164 : decode cL_law 164 = .ok (.aload_n 0, 1) := by decide +kernel
theorem dL_law_165 : decode cL_law 165 = .ok (.iload_n 3, 1) := by decide +kernel
theorem dL_law_166 : decode cL_law 166 = .ok (.iconst 1, 1) := by decide +kernel
theorem dL_law_167 : decode cL_law 167 = .ok (.iadd, 1) := by decide +kernel
theorem dL_law_168 : decode cL_law 168 = .ok (.iaload, 1) := by decide +kernel
theorem dL_law_169 : decode cL_law 169 = .ok (.aload_n 0, 1) := by decide +kernel
theorem dL_law_170 : decode cL_law 170 = .ok (.iload_n 3, 1) := by decide +kernel
theorem dL_law_171 : decode cL_law 171 = .ok (.iconst 2, 1) := by decide +kernel
theorem dL_law_172 : decode cL_law 172 = .ok (.iadd, 1) := by decide +kernel
theorem dL_law_173 : decode cL_law 173 = .ok (.iaload, 1) := by decide +kernel
theorem dL_law_174 : decode cL_law 174 = .ok (.aload_n 0, 1) := by decide +kernel
theorem dL_law_175 : decode cL_law 175 = .ok (.iload_n 3, 1) := by decide +kernel
theorem dL_law_176 : decode cL_law 176 = .ok (.iconst 3, 1) := by decide +kernel
theorem dL_law_177 : decode cL_law 177 = .ok (.iadd, 1) := by decide +kernel
theorem dL_law_178 : decode cL_law 178 = .ok (.iaload, 1) := by decide +kernel
theorem dL_law_179 : decode cL_law 179 = .ok (.aload_n 0, 1) := by decide +kernel
theorem dL_law_180 : decode cL_law 180 = .ok (.iload_n 3, 1) := by decide +kernel
theorem dL_law_181 : decode cL_law 181 = .ok (.iconst 4, 1) := by decide +kernel
theorem dL_law_182 : decode cL_law 182 = .ok (.iadd, 1) := by decide +kernel
theorem dL_law_183 : decode cL_law 183 = .ok (.iaload, 1) := by decide +kernel
theorem dL_law_184 : decode cL_law 184 = .ok (.invokevirtual 22, 3) := by decide +kernel
theorem dL_law_187 : decode cL_law 187 = .ok (.if_icmp .eq 570, 3) := by decide +kernel
theorem dL_law_190 : decode cL_law 190 = .ok (.iconst 0, 1) := by decide +kernel
theorem dL_law_191 : decode cL_law 191 = .ok (.ireturn, 1) := by decide +kernel
theorem dL_law_192 : decode cL_law 192 = .ok (.aload_n 1, 1) := by decide +kernel
theorem dL_law_193 : decode cL_law 193 = .ok (.aload_n 0, 1) := by decide +kernel
theorem dL_law_194 : decode cL_law 194 = .ok (.iload_n 3, 1) := by decide +kernel
theorem dL_law_195 : decode cL_law 195 = .ok (.iconst 1, 1) := by decide +kernel
theorem dL_law_196 : decode cL_law 196 = .ok (.iadd, 1) := by decide +kernel
theorem dL_law_197 : decode cL_law 197 = .ok (.iaload, 1) := by decide +kernel
theorem dL_law_198 : decode cL_law 198 = .ok (.aload_n 0, 1) := by decide +kernel
theorem dL_law_199 : decode cL_law 199 = .ok (.iload_n 3, 1) := by decide +kernel
theorem dL_law_200 : decode cL_law 200 = .ok (.iconst 2, 1) := by decide +kernel
theorem dL_law_201 : decode cL_law 201 = .ok (.iadd, 1) := by decide +kernel
theorem dL_law_202 : decode cL_law 202 = .ok (.iaload, 1) := by decide +kernel
theorem dL_law_203 : decode cL_law 203 = .ok (.aload_n 0, 1) := by decide +kernel
theorem dL_law_204 : decode cL_law 204 = .ok (.iload_n 3, 1) := by decide +kernel
theorem dL_law_205 : decode cL_law 205 = .ok (.iconst 3, 1) := by decide +kernel
theorem dL_law_206 : decode cL_law 206 = .ok (.iadd, 1) := by decide +kernel
theorem dL_law_207 : decode cL_law 207 = .ok (.iaload, 1) := by decide +kernel
theorem dL_law_208 : decode cL_law 208 = .ok (.aload_n 0, 1) := by decide +kernel
theorem dL_law_209 : decode cL_law 209 = .ok (.iload_n 3, 1) := by decide +kernel
theorem dL_law_210 : decode cL_law 210 = .ok (.iconst 4, 1) := by decide +kernel
theorem dL_law_211 : decode cL_law 211 = .ok (.iadd, 1) := by decide +kernel
theorem dL_law_212 : decode cL_law 212 = .ok (.iaload, 1) := by decide +kernel
theorem dL_law_213 : decode cL_law 213 = .ok (.invokevirtual 23, 3) := by decide +kernel
theorem dL_law_216 : decode cL_law 216 = .ok (.aload_n 2, 1) := by decide +kernel
theorem dL_law_217 : decode cL_law 217 = .ok (.aload_n 0, 1) := by decide +kernel
theorem dL_law_218 : decode cL_law 218 = .ok (.iload_n 3, 1) := by decide +kernel
theorem dL_law_219 : decode cL_law 219 = .ok (.iconst 1, 1) := by decide +kernel
theorem dL_law_220 : decode cL_law 220 = .ok (.iadd, 1) := by decide +kernel
theorem dL_law_221 : decode cL_law 221 = .ok (.iaload, 1) := by decide +kernel
theorem dL_law_222 : decode cL_law 222 = .ok (.aload_n 0, 1) := by decide +kernel
theorem dL_law_223 : decode cL_law 223 = .ok (.iload_n 3, 1) := by decide +kernel
theorem dL_law_224 : decode cL_law 224 = .ok (.iconst 2, 1) := by decide +kernel
theorem dL_law_225 : decode cL_law 225 = .ok (.iadd, 1) := by decide +kernel
theorem dL_law_226 : decode cL_law 226 = .ok (.iaload, 1) := by decide +kernel
theorem dL_law_227 : decode cL_law 227 = .ok (.aload_n 0, 1) := by decide +kernel
theorem dL_law_228 : decode cL_law 228 = .ok (.iload_n 3, 1) := by decide +kernel
theorem dL_law_229 : decode cL_law 229 = .ok (.iconst 3, 1) := by decide +kernel
theorem dL_law_230 : decode cL_law 230 = .ok (.iadd, 1) := by decide +kernel
theorem dL_law_231 : decode cL_law 231 = .ok (.iaload, 1) := by decide +kernel
theorem dL_law_232 : decode cL_law 232 = .ok (.aload_n 0, 1) := by decide +kernel
theorem dL_law_233 : decode cL_law 233 = .ok (.iload_n 3, 1) := by decide +kernel
theorem dL_law_234 : decode cL_law 234 = .ok (.iconst 4, 1) := by decide +kernel
theorem dL_law_235 : decode cL_law 235 = .ok (.iadd, 1) := by decide +kernel
theorem dL_law_236 : decode cL_law 236 = .ok (.iaload, 1) := by decide +kernel
theorem dL_law_237 : decode cL_law 237 = .ok (.invokevirtual 26, 3) := by decide +kernel
theorem dL_law_240 : decode cL_law 240 = .ok (.if_icmp .eq 517, 3) := by decide +kernel
theorem dL_law_243 : decode cL_law 243 = .ok (.iconst 0, 1) := by decide +kernel
theorem dL_law_244 : decode cL_law 244 = .ok (.ireturn, 1) := by decide +kernel
theorem dL_law_245 : decode cL_law 245 = .ok (.aload_n 1, 1) := by decide +kernel
theorem dL_law_246 : decode cL_law 246 = .ok (.aload_n 0, 1) := by decide +kernel
theorem dL_law_247 : decode cL_law 247 = .ok (.iload_n 3, 1) := by decide +kernel
theorem dL_law_248 : decode cL_law 248 = .ok (.iconst 1, 1) := by decide +kernel
theorem dL_law_249 : decode cL_law 249 = .ok (.iadd, 1) := by decide +kernel
theorem dL_law_250 : decode cL_law 250 = .ok (.iaload, 1) := by decide +kernel
theorem dL_law_251 : decode cL_law 251 = .ok (.aload_n 0, 1) := by decide +kernel
theorem dL_law_252 : decode cL_law 252 = .ok (.iload_n 3, 1) := by decide +kernel
theorem dL_law_253 : decode cL_law 253 = .ok (.iconst 2, 1) := by decide +kernel
theorem dL_law_254 : decode cL_law 254 = .ok (.iadd, 1) := by decide +kernel
theorem dL_law_255 : decode cL_law 255 = .ok (.iaload, 1) := by decide +kernel
theorem dL_law_256 : decode cL_law 256 = .ok (.invokevirtual 27, 3) := by decide +kernel
theorem dL_law_259 : decode cL_law 259 = .ok (.aload_n 2, 1) := by decide +kernel
theorem dL_law_260 : decode cL_law 260 = .ok (.aload_n 0, 1) := by decide +kernel
theorem dL_law_261 : decode cL_law 261 = .ok (.iload_n 3, 1) := by decide +kernel
theorem dL_law_262 : decode cL_law 262 = .ok (.iconst 1, 1) := by decide +kernel
theorem dL_law_263 : decode cL_law 263 = .ok (.iadd, 1) := by decide +kernel
theorem dL_law_264 : decode cL_law 264 = .ok (.iaload, 1) := by decide +kernel
theorem dL_law_265 : decode cL_law 265 = .ok (.aload_n 0, 1) := by decide +kernel
theorem dL_law_266 : decode cL_law 266 = .ok (.iload_n 3, 1) := by decide +kernel
theorem dL_law_267 : decode cL_law 267 = .ok (.iconst 2, 1) := by decide +kernel
theorem dL_law_268 : decode cL_law 268 = .ok (.iadd, 1) := by decide +kernel
theorem dL_law_269 : decode cL_law 269 = .ok (.iaload, 1) := by decide +kernel
theorem dL_law_270 : decode cL_law 270 = .ok (.invokevirtual 31, 3) := by decide +kernel
theorem dL_law_273 : decode cL_law 273 = .ok (.if_icmp .eq 484, 3) := by decide +kernel
theorem dL_law_276 : decode cL_law 276 = .ok (.iconst 0, 1) := by decide +kernel
theorem dL_law_277 : decode cL_law 277 = .ok (.ireturn, 1) := by decide +kernel
theorem dL_law_278 : decode cL_law 278 = .ok (.aload_n 1, 1) := by decide +kernel
theorem dL_law_279 : decode cL_law 279 = .ok (.aload_n 0, 1) := by decide +kernel
theorem dL_law_280 : decode cL_law 280 = .ok (.iload_n 3, 1) := by decide +kernel
theorem dL_law_281 : decode cL_law 281 = .ok (.iconst 1, 1) := by decide +kernel
theorem dL_law_282 : decode cL_law 282 = .ok (.iadd, 1) := by decide +kernel
theorem dL_law_283 : decode cL_law 283 = .ok (.iaload, 1) := by decide +kernel
theorem dL_law_284 : decode cL_law 284 = .ok (.aload_n 0, 1) := by decide +kernel
theorem dL_law_285 : decode cL_law 285 = .ok (.iload_n 3, 1) := by decide +kernel
theorem dL_law_286 : decode cL_law 286 = .ok (.iconst 2, 1) := by decide +kernel
theorem dL_law_287 : decode cL_law 287 = .ok (.iadd, 1) := by decide +kernel
theorem dL_law_288 : decode cL_law 288 = .ok (.iaload, 1) := by decide +kernel
theorem dL_law_289 : decode cL_law 289 = .ok (.aload_n 0, 1) := by decide +kernel
theorem dL_law_290 : decode cL_law 290 = .ok (.iload_n 3, 1) := by decide +kernel
theorem dL_law_291 : decode cL_law 291 = .ok (.iconst 3, 1) := by decide +kernel
theorem dL_law_292 : decode cL_law 292 = .ok (.iadd, 1) := by decide +kernel
theorem dL_law_293 : decode cL_law 293 = .ok (.iaload, 1) := by decide +kernel
theorem dL_law_294 : decode cL_law 294 = .ok (.invokevirtual 32, 3) := by decide +kernel
theorem dL_law_297 : decode cL_law 297 = .ok (.aload_n 2, 1) := by decide +kernel
theorem dL_law_298 : decode cL_law 298 = .ok (.aload_n 0, 1) := by decide +kernel
theorem dL_law_299 : decode cL_law 299 = .ok (.iload_n 3, 1) := by decide +kernel
theorem dL_law_300 : decode cL_law 300 = .ok (.iconst 1, 1) := by decide +kernel
theorem dL_law_301 : decode cL_law 301 = .ok (.iadd, 1) := by decide +kernel
theorem dL_law_302 : decode cL_law 302 = .ok (.iaload, 1) := by decide +kernel
theorem dL_law_303 : decode cL_law 303 = .ok (.aload_n 0, 1) := by decide +kernel
theorem dL_law_304 : decode cL_law 304 = .ok (.iload_n 3, 1) := by decide +kernel
theorem dL_law_305 : decode cL_law 305 = .ok (.iconst 2, 1) := by decide +kernel
theorem dL_law_306 : decode cL_law 306 = .ok (.iadd, 1) := by decide +kernel
theorem dL_law_307 : decode cL_law 307 = .ok (.iaload, 1) := by decide +kernel
theorem dL_law_308 : decode cL_law 308 = .ok (.aload_n 0, 1) := by decide +kernel
theorem dL_law_309 : decode cL_law 309 = .ok (.iload_n 3, 1) := by decide +kernel
theorem dL_law_310 : decode cL_law 310 = .ok (.iconst 3, 1) := by decide +kernel
theorem dL_law_311 : decode cL_law 311 = .ok (.iadd, 1) := by decide +kernel
theorem dL_law_312 : decode cL_law 312 = .ok (.iaload, 1) := by decide +kernel
theorem dL_law_313 : decode cL_law 313 = .ok (.invokevirtual 36, 3) := by decide +kernel
theorem dL_law_316 : decode cL_law 316 = .ok (.if_icmp .eq 441, 3) := by decide +kernel
theorem dL_law_319 : decode cL_law 319 = .ok (.iconst 0, 1) := by decide +kernel
theorem dL_law_320 : decode cL_law 320 = .ok (.ireturn, 1) := by decide +kernel
theorem dL_law_321 : decode cL_law 321 = .ok (.aload_n 1, 1) := by decide +kernel
theorem dL_law_322 : decode cL_law 322 = .ok (.aload_n 0, 1) := by decide +kernel
theorem dL_law_323 : decode cL_law 323 = .ok (.iload_n 3, 1) := by decide +kernel
theorem dL_law_324 : decode cL_law 324 = .ok (.iconst 1, 1) := by decide +kernel
theorem dL_law_325 : decode cL_law 325 = .ok (.iadd, 1) := by decide +kernel
theorem dL_law_326 : decode cL_law 326 = .ok (.iaload, 1) := by decide +kernel
theorem dL_law_327 : decode cL_law 327 = .ok (.aload_n 0, 1) := by decide +kernel
theorem dL_law_328 : decode cL_law 328 = .ok (.iload_n 3, 1) := by decide +kernel
theorem dL_law_329 : decode cL_law 329 = .ok (.iconst 2, 1) := by decide +kernel
theorem dL_law_330 : decode cL_law 330 = .ok (.iadd, 1) := by decide +kernel
theorem dL_law_331 : decode cL_law 331 = .ok (.iaload, 1) := by decide +kernel
theorem dL_law_332 : decode cL_law 332 = .ok (.aload_n 0, 1) := by decide +kernel
theorem dL_law_333 : decode cL_law 333 = .ok (.iload_n 3, 1) := by decide +kernel
theorem dL_law_334 : decode cL_law 334 = .ok (.iconst 3, 1) := by decide +kernel
theorem dL_law_335 : decode cL_law 335 = .ok (.iadd, 1) := by decide +kernel
theorem dL_law_336 : decode cL_law 336 = .ok (.iaload, 1) := by decide +kernel
theorem dL_law_337 : decode cL_law 337 = .ok (.aload_n 0, 1) := by decide +kernel
theorem dL_law_338 : decode cL_law 338 = .ok (.iload_n 3, 1) := by decide +kernel
theorem dL_law_339 : decode cL_law 339 = .ok (.iconst 4, 1) := by decide +kernel
theorem dL_law_340 : decode cL_law 340 = .ok (.iadd, 1) := by decide +kernel
theorem dL_law_341 : decode cL_law 341 = .ok (.iaload, 1) := by decide +kernel
theorem dL_law_342 : decode cL_law 342 = .ok (.invokevirtual 37, 3) := by decide +kernel
theorem dL_law_345 : decode cL_law 345 = .ok (.aload_n 2, 1) := by decide +kernel
theorem dL_law_346 : decode cL_law 346 = .ok (.aload_n 0, 1) := by decide +kernel
theorem dL_law_347 : decode cL_law 347 = .ok (.iload_n 3, 1) := by decide +kernel
theorem dL_law_348 : decode cL_law 348 = .ok (.iconst 1, 1) := by decide +kernel
theorem dL_law_349 : decode cL_law 349 = .ok (.iadd, 1) := by decide +kernel
theorem dL_law_350 : decode cL_law 350 = .ok (.iaload, 1) := by decide +kernel
theorem dL_law_351 : decode cL_law 351 = .ok (.aload_n 0, 1) := by decide +kernel
theorem dL_law_352 : decode cL_law 352 = .ok (.iload_n 3, 1) := by decide +kernel
theorem dL_law_353 : decode cL_law 353 = .ok (.iconst 2, 1) := by decide +kernel
theorem dL_law_354 : decode cL_law 354 = .ok (.iadd, 1) := by decide +kernel
theorem dL_law_355 : decode cL_law 355 = .ok (.iaload, 1) := by decide +kernel
theorem dL_law_356 : decode cL_law 356 = .ok (.aload_n 0, 1) := by decide +kernel
theorem dL_law_357 : decode cL_law 357 = .ok (.iload_n 3, 1) := by decide +kernel
theorem dL_law_358 : decode cL_law 358 = .ok (.iconst 3, 1) := by decide +kernel
theorem dL_law_359 : decode cL_law 359 = .ok (.iadd, 1) := by decide +kernel
theorem dL_law_360 : decode cL_law 360 = .ok (.iaload, 1) := by decide +kernel
theorem dL_law_361 : decode cL_law 361 = .ok (.aload_n 0, 1) := by decide +kernel
theorem dL_law_362 : decode cL_law 362 = .ok (.iload_n 3, 1) := by decide +kernel
theorem dL_law_363 : decode cL_law 363 = .ok (.iconst 4, 1) := by decide +kernel
theorem dL_law_364 : decode cL_law 364 = .ok (.iadd, 1) := by decide +kernel
theorem dL_law_365 : decode cL_law 365 = .ok (.iaload, 1) := by decide +kernel
theorem dL_law_366 : decode cL_law 366 = .ok (.invokevirtual 40, 3) := by decide +kernel
theorem dL_law_369 : decode cL_law 369 = .ok (.if_icmp .eq 388, 3) := by decide +kernel
theorem dL_law_372 : decode cL_law 372 = .ok (.iconst 0, 1) := by decide +kernel
theorem dL_law_373 : decode cL_law 373 = .ok (.ireturn, 1) := by decide +kernel
theorem dL_law_374 : decode cL_law 374 = .ok (.aload_n 1, 1) := by decide +kernel
theorem dL_law_375 : decode cL_law 375 = .ok (.aload_n 0, 1) := by decide +kernel
theorem dL_law_376 : decode cL_law 376 = .ok (.iload_n 3, 1) := by decide +kernel
theorem dL_law_377 : decode cL_law 377 = .ok (.iconst 1, 1) := by decide +kernel
theorem dL_law_378 : decode cL_law 378 = .ok (.iadd, 1) := by decide +kernel
theorem dL_law_379 : decode cL_law 379 = .ok (.iaload, 1) := by decide +kernel
theorem dL_law_380 : decode cL_law 380 = .ok (.aload_n 0, 1) := by decide +kernel
theorem dL_law_381 : decode cL_law 381 = .ok (.iload_n 3, 1) := by decide +kernel
theorem dL_law_382 : decode cL_law 382 = .ok (.iconst 2, 1) := by decide +kernel
theorem dL_law_383 : decode cL_law 383 = .ok (.iadd, 1) := by decide +kernel
theorem dL_law_384 : decode cL_law 384 = .ok (.iaload, 1) := by decide +kernel
theorem dL_law_385 : decode cL_law 385 = .ok (.aload_n 0, 1) := by decide +kernel
theorem dL_law_386 : decode cL_law 386 = .ok (.iload_n 3, 1) := by decide +kernel
theorem dL_law_387 : decode cL_law 387 = .ok (.iconst 3, 1) := by decide +kernel
theorem dL_law_388 : decode cL_law 388 = .ok (.iadd, 1) := by decide +kernel
theorem dL_law_389 : decode cL_law 389 = .ok (.iaload, 1) := by decide +kernel
theorem dL_law_390 : decode cL_law 390 = .ok (.aload_n 0, 1) := by decide +kernel
theorem dL_law_391 : decode cL_law 391 = .ok (.iload_n 3, 1) := by decide +kernel
theorem dL_law_392 : decode cL_law 392 = .ok (.iconst 4, 1) := by decide +kernel
theorem dL_law_393 : decode cL_law 393 = .ok (.iadd, 1) := by decide +kernel
theorem dL_law_394 : decode cL_law 394 = .ok (.iaload, 1) := by decide +kernel
theorem dL_law_395 : decode cL_law 395 = .ok (.invokevirtual 41, 3) := by decide +kernel
theorem dL_law_398 : decode cL_law 398 = .ok (.aload_n 2, 1) := by decide +kernel
theorem dL_law_399 : decode cL_law 399 = .ok (.aload_n 0, 1) := by decide +kernel
theorem dL_law_400 : decode cL_law 400 = .ok (.iload_n 3, 1) := by decide +kernel
theorem dL_law_401 : decode cL_law 401 = .ok (.iconst 1, 1) := by decide +kernel
theorem dL_law_402 : decode cL_law 402 = .ok (.iadd, 1) := by decide +kernel
theorem dL_law_403 : decode cL_law 403 = .ok (.iaload, 1) := by decide +kernel
theorem dL_law_404 : decode cL_law 404 = .ok (.aload_n 0, 1) := by decide +kernel
theorem dL_law_405 : decode cL_law 405 = .ok (.iload_n 3, 1) := by decide +kernel
theorem dL_law_406 : decode cL_law 406 = .ok (.iconst 2, 1) := by decide +kernel
theorem dL_law_407 : decode cL_law 407 = .ok (.iadd, 1) := by decide +kernel
theorem dL_law_408 : decode cL_law 408 = .ok (.iaload, 1) := by decide +kernel
theorem dL_law_409 : decode cL_law 409 = .ok (.aload_n 0, 1) := by decide +kernel
theorem dL_law_410 : decode cL_law 410 = .ok (.iload_n 3, 1) := by decide +kernel
theorem dL_law_411 : decode cL_law 411 = .ok (.iconst 3, 1) := by decide +kernel
theorem dL_law_412 : decode cL_law 412 = .ok (.iadd, 1) := by decide +kernel
theorem dL_law_413 : decode cL_law 413 = .ok (.iaload, 1) := by decide +kernel
theorem dL_law_414 : decode cL_law 414 = .ok (.aload_n 0, 1) := by decide +kernel
theorem dL_law_415 : decode cL_law 415 = .ok (.iload_n 3, 1) := by decide +kernel
theorem dL_law_416 : decode cL_law 416 = .ok (.iconst 4, 1) := by decide +kernel
theorem dL_law_417 : decode cL_law 417 = .ok (.iadd, 1) := by decide +kernel
theorem dL_law_418 : decode cL_law 418 = .ok (.iaload, 1) := by decide +kernel
theorem dL_law_419 : decode cL_law 419 = .ok (.invokevirtual 44, 3) := by decide +kernel
theorem dL_law_422 : decode cL_law 422 = .ok (.if_icmp .eq 335, 3) := by decide +kernel
theorem dL_law_425 : decode cL_law 425 = .ok (.iconst 0, 1) := by decide +kernel
theorem dL_law_426 : decode cL_law 426 = .ok (.ireturn, 1) := by decide +kernel
theorem dL_law_427 : decode cL_law 427 = .ok (.aload_n 1, 1) := by decide +kernel
theorem dL_law_428 : decode cL_law 428 = .ok (.aload_n 0, 1) := by decide +kernel
theorem dL_law_429 : decode cL_law 429 = .ok (.iload_n 3, 1) := by decide +kernel
theorem dL_law_430 : decode cL_law 430 = .ok (.iconst 1, 1) := by decide +kernel
theorem dL_law_431 : decode cL_law 431 = .ok (.iadd, 1) := by decide +kernel
theorem dL_law_432 : decode cL_law 432 = .ok (.iaload, 1) := by decide +kernel
theorem dL_law_433 : decode cL_law 433 = .ok (.aload_n 0, 1) := by decide +kernel
theorem dL_law_434 : decode cL_law 434 = .ok (.iload_n 3, 1) := by decide +kernel
theorem dL_law_435 : decode cL_law 435 = .ok (.iconst 2, 1) := by decide +kernel
theorem dL_law_436 : decode cL_law 436 = .ok (.iadd, 1) := by decide +kernel
theorem dL_law_437 : decode cL_law 437 = .ok (.iaload, 1) := by decide +kernel
theorem dL_law_438 : decode cL_law 438 = .ok (.invokevirtual 45, 3) := by decide +kernel
theorem dL_law_441 : decode cL_law 441 = .ok (.aload_n 2, 1) := by decide +kernel
theorem dL_law_442 : decode cL_law 442 = .ok (.aload_n 0, 1) := by decide +kernel
theorem dL_law_443 : decode cL_law 443 = .ok (.iload_n 3, 1) := by decide +kernel
theorem dL_law_444 : decode cL_law 444 = .ok (.iconst 1, 1) := by decide +kernel
theorem dL_law_445 : decode cL_law 445 = .ok (.iadd, 1) := by decide +kernel
theorem dL_law_446 : decode cL_law 446 = .ok (.iaload, 1) := by decide +kernel
theorem dL_law_447 : decode cL_law 447 = .ok (.aload_n 0, 1) := by decide +kernel
theorem dL_law_448 : decode cL_law 448 = .ok (.iload_n 3, 1) := by decide +kernel
theorem dL_law_449 : decode cL_law 449 = .ok (.iconst 2, 1) := by decide +kernel
theorem dL_law_450 : decode cL_law 450 = .ok (.iadd, 1) := by decide +kernel
theorem dL_law_451 : decode cL_law 451 = .ok (.iaload, 1) := by decide +kernel
theorem dL_law_452 : decode cL_law 452 = .ok (.invokevirtual 48, 3) := by decide +kernel
theorem dL_law_455 : decode cL_law 455 = .ok (.if_icmp .eq 302, 3) := by decide +kernel
theorem dL_law_458 : decode cL_law 458 = .ok (.iconst 0, 1) := by decide +kernel
theorem dL_law_459 : decode cL_law 459 = .ok (.ireturn, 1) := by decide +kernel
theorem dL_law_460 : decode cL_law 460 = .ok (.aload_n 1, 1) := by decide +kernel
theorem dL_law_461 : decode cL_law 461 = .ok (.aload_n 0, 1) := by decide +kernel
theorem dL_law_462 : decode cL_law 462 = .ok (.iload_n 3, 1) := by decide +kernel
theorem dL_law_463 : decode cL_law 463 = .ok (.iconst 1, 1) := by decide +kernel
theorem dL_law_464 : decode cL_law 464 = .ok (.iadd, 1) := by decide +kernel
theorem dL_law_465 : decode cL_law 465 = .ok (.iaload, 1) := by decide +kernel
theorem dL_law_466 : decode cL_law 466 = .ok (.aload_n 0, 1) := by decide +kernel
theorem dL_law_467 : decode cL_law 467 = .ok (.iload_n 3, 1) := by decide +kernel
theorem dL_law_468 : decode cL_law 468 = .ok (.iconst 2, 1) := by decide +kernel
theorem dL_law_469 : decode cL_law 469 = .ok (.iadd, 1) := by decide +kernel
theorem dL_law_470 : decode cL_law 470 = .ok (.iaload, 1) := by decide +kernel
theorem dL_law_471 : decode cL_law 471 = .ok (.aload_n 0, 1) := by decide +kernel
theorem dL_law_472 : decode cL_law 472 = .ok (.iload_n 3, 1) := by decide +kernel
theorem dL_law_473 : decode cL_law 473 = .ok (.iconst 3, 1) := by decide +kernel
theorem dL_law_474 : decode cL_law 474 = .ok (.iadd, 1) := by decide +kernel
theorem dL_law_475 : decode cL_law 475 = .ok (.iaload, 1) := by decide +kernel
theorem dL_law_476 : decode cL_law 476 = .ok (.invokevirtual 49, 3) := by decide +kernel
theorem dL_law_479 : decode cL_law 479 = .ok (.aload_n 2, 1) := by decide +kernel
theorem dL_law_480 : decode cL_law 480 = .ok (.aload_n 0, 1) := by decide +kernel
theorem dL_law_481 : decode cL_law 481 = .ok (.iload_n 3, 1) := by decide +kernel
theorem dL_law_482 : decode cL_law 482 = .ok (.iconst 1, 1) := by decide +kernel
theorem dL_law_483 : decode cL_law 483 = .ok (.iadd, 1) := by decide +kernel
theorem dL_law_484 : decode cL_law 484 = .ok (.iaload, 1) := by decide +kernel
theorem dL_law_485 : decode cL_law 485 = .ok (.aload_n 0, 1) := by decide +kernel
theorem dL_law_486 : decode cL_law 486 = .ok (.iload_n 3, 1) := by decide +kernel
theorem dL_law_487 : decode cL_law 487 = .ok (.iconst 2, 1) := by decide +kernel
theorem dL_law_488 : decode cL_law 488 = .ok (.iadd, 1) := by decide +kernel
theorem dL_law_489 : decode cL_law 489 = .ok (.iaload, 1) := by decide +kernel
theorem dL_law_490 : decode cL_law 490 = .ok (.aload_n 0, 1) := by decide +kernel
theorem dL_law_491 : decode cL_law 491 = .ok (.iload_n 3, 1) := by decide +kernel
theorem dL_law_492 : decode cL_law 492 = .ok (.iconst 3, 1) := by decide +kernel
theorem dL_law_493 : decode cL_law 493 = .ok (.iadd, 1) := by decide +kernel
theorem dL_law_494 : decode cL_law 494 = .ok (.iaload, 1) := by decide +kernel
theorem dL_law_495 : decode cL_law 495 = .ok (.invokevirtual 52, 3) := by decide +kernel
theorem dL_law_498 : decode cL_law 498 = .ok (.if_icmp .eq 259, 3) := by decide +kernel
theorem dL_law_501 : decode cL_law 501 = .ok (.iconst 0, 1) := by decide +kernel
theorem dL_law_502 : decode cL_law 502 = .ok (.ireturn, 1) := by decide +kernel
theorem dL_law_503 : decode cL_law 503 = .ok (.aload_n 1, 1) := by decide +kernel
theorem dL_law_504 : decode cL_law 504 = .ok (.aload_n 0, 1) := by decide +kernel
theorem dL_law_505 : decode cL_law 505 = .ok (.iload_n 3, 1) := by decide +kernel
theorem dL_law_506 : decode cL_law 506 = .ok (.iconst 1, 1) := by decide +kernel
theorem dL_law_507 : decode cL_law 507 = .ok (.iadd, 1) := by decide +kernel
theorem dL_law_508 : decode cL_law 508 = .ok (.iaload, 1) := by decide +kernel
theorem dL_law_509 : decode cL_law 509 = .ok (.aload_n 0, 1) := by decide +kernel
theorem dL_law_510 : decode cL_law 510 = .ok (.iload_n 3, 1) := by decide +kernel
theorem dL_law_511 : decode cL_law 511 = .ok (.iconst 2, 1) := by decide +kernel
theorem dL_law_512 : decode cL_law 512 = .ok (.iadd, 1) := by decide +kernel
theorem dL_law_513 : decode cL_law 513 = .ok (.iaload, 1) := by decide +kernel
theorem dL_law_514 : decode cL_law 514 = .ok (.aload_n 0, 1) := by decide +kernel
theorem dL_law_515 : decode cL_law 515 = .ok (.iload_n 3, 1) := by decide +kernel
theorem dL_law_516 : decode cL_law 516 = .ok (.iconst 3, 1) := by decide +kernel
theorem dL_law_517 : decode cL_law 517 = .ok (.iadd, 1) := by decide +kernel
theorem dL_law_518 : decode cL_law 518 = .ok (.iaload, 1) := by decide +kernel
theorem dL_law_519 : decode cL_law 519 = .ok (.invokevirtual 53, 3) := by decide +kernel
theorem dL_law_522 : decode cL_law 522 = .ok (.aload_n 2, 1) := by decide +kernel
theorem dL_law_523 : decode cL_law 523 = .ok (.aload_n 0, 1) := by decide +kernel
theorem dL_law_524 : decode cL_law 524 = .ok (.iload_n 3, 1) := by decide +kernel
theorem dL_law_525 : decode cL_law 525 = .ok (.iconst 1, 1) := by decide +kernel
theorem dL_law_526 : decode cL_law 526 = .ok (.iadd, 1) := by decide +kernel
theorem dL_law_527 : decode cL_law 527 = .ok (.iaload, 1) := by decide +kernel
theorem dL_law_528 : decode cL_law 528 = .ok (.aload_n 0, 1) := by decide +kernel
theorem dL_law_529 : decode cL_law 529 = .ok (.iload_n 3, 1) := by decide +kernel
theorem dL_law_530 : decode cL_law 530 = .ok (.iconst 2, 1) := by decide +kernel
theorem dL_law_531 : decode cL_law 531 = .ok (.iadd, 1) := by decide +kernel
theorem dL_law_532 : decode cL_law 532 = .ok (.iaload, 1) := by decide +kernel
theorem dL_law_533 : decode cL_law 533 = .ok (.aload_n 0, 1) := by decide +kernel
theorem dL_law_534 : decode cL_law 534 = .ok (.iload_n 3, 1) := by decide +kernel
theorem dL_law_535 : decode cL_law 535 = .ok (.iconst 3, 1) := by decide +kernel
theorem dL_law_536 : decode cL_law 536 = .ok (.iadd, 1) := by decide +kernel
theorem dL_law_537 : decode cL_law 537 = .ok (.iaload, 1) := by decide +kernel
theorem dL_law_538 : decode cL_law 538 = .ok (.invokevirtual 56, 3) := by decide +kernel
theorem dL_law_541 : decode cL_law 541 = .ok (.if_icmp .eq 216, 3) := by decide +kernel
theorem dL_law_544 : decode cL_law 544 = .ok (.iconst 0, 1) := by decide +kernel
theorem dL_law_545 : decode cL_law 545 = .ok (.ireturn, 1) := by decide +kernel
theorem dL_law_546 : decode cL_law 546 = .ok (.aload_n 1, 1) := by decide +kernel
theorem dL_law_547 : decode cL_law 547 = .ok (.aload_n 0, 1) := by decide +kernel
theorem dL_law_548 : decode cL_law 548 = .ok (.iload_n 3, 1) := by decide +kernel
theorem dL_law_549 : decode cL_law 549 = .ok (.iconst 1, 1) := by decide +kernel
theorem dL_law_550 : decode cL_law 550 = .ok (.iadd, 1) := by decide +kernel
theorem dL_law_551 : decode cL_law 551 = .ok (.iaload, 1) := by decide +kernel
theorem dL_law_552 : decode cL_law 552 = .ok (.aload_n 0, 1) := by decide +kernel
theorem dL_law_553 : decode cL_law 553 = .ok (.iload_n 3, 1) := by decide +kernel
theorem dL_law_554 : decode cL_law 554 = .ok (.iconst 2, 1) := by decide +kernel
theorem dL_law_555 : decode cL_law 555 = .ok (.iadd, 1) := by decide +kernel
theorem dL_law_556 : decode cL_law 556 = .ok (.iaload, 1) := by decide +kernel
theorem dL_law_557 : decode cL_law 557 = .ok (.invokevirtual 57, 3) := by decide +kernel
theorem dL_law_560 : decode cL_law 560 = .ok (.aload_n 2, 1) := by decide +kernel
theorem dL_law_561 : decode cL_law 561 = .ok (.aload_n 0, 1) := by decide +kernel
theorem dL_law_562 : decode cL_law 562 = .ok (.iload_n 3, 1) := by decide +kernel
theorem dL_law_563 : decode cL_law 563 = .ok (.iconst 1, 1) := by decide +kernel
theorem dL_law_564 : decode cL_law 564 = .ok (.iadd, 1) := by decide +kernel
theorem dL_law_565 : decode cL_law 565 = .ok (.iaload, 1) := by decide +kernel
theorem dL_law_566 : decode cL_law 566 = .ok (.aload_n 0, 1) := by decide +kernel
theorem dL_law_567 : decode cL_law 567 = .ok (.iload_n 3, 1) := by decide +kernel
theorem dL_law_568 : decode cL_law 568 = .ok (.iconst 2, 1) := by decide +kernel
theorem dL_law_569 : decode cL_law 569 = .ok (.iadd, 1) := by decide +kernel
theorem dL_law_570 : decode cL_law 570 = .ok (.iaload, 1) := by decide +kernel
theorem dL_law_571 : decode cL_law 571 = .ok (.invokevirtual 60, 3) := by decide +kernel
theorem dL_law_574 : decode cL_law 574 = .ok (.if_icmp .eq 183, 3) := by decide +kernel
theorem dL_law_577 : decode cL_law 577 = .ok (.iconst 0, 1) := by decide +kernel
theorem dL_law_578 : decode cL_law 578 = .ok (.ireturn, 1) := by decide +kernel
theorem dL_law_579 : decode cL_law 579 = .ok (.aload_n 1, 1) := by decide +kernel
theorem dL_law_580 : decode cL_law 580 = .ok (.aload_n 0, 1) := by decide +kernel
theorem dL_law_581 : decode cL_law 581 = .ok (.iload_n 3, 1) := by decide +kernel
theorem dL_law_582 : decode cL_law 582 = .ok (.iconst 1, 1) := by decide +kernel
theorem dL_law_583 : decode cL_law 583 = .ok (.iadd, 1) := by decide +kernel
theorem dL_law_584 : decode cL_law 584 = .ok (.iaload, 1) := by decide +kernel
theorem dL_law_585 : decode cL_law 585 = .ok (.aload_n 0, 1) := by decide +kernel
theorem dL_law_586 : decode cL_law 586 = .ok (.iload_n 3, 1) := by decide +kernel
theorem dL_law_587 : decode cL_law 587 = .ok (.iconst 2, 1) := by decide +kernel
theorem dL_law_588 : decode cL_law 588 = .ok (.iadd, 1) := by decide +kernel
theorem dL_law_589 : decode cL_law 589 = .ok (.iaload, 1) := by decide +kernel
theorem dL_law_590 : decode cL_law 590 = .ok (.invokevirtual 61, 3) := by decide +kernel
theorem dL_law_593 : decode cL_law 593 = .ok (.aload_n 2, 1) := by decide +kernel
theorem dL_law_594 : decode cL_law 594 = .ok (.aload_n 0, 1) := by decide +kernel
theorem dL_law_595 : decode cL_law 595 = .ok (.iload_n 3, 1) := by decide +kernel
theorem dL_law_596 : decode cL_law 596 = .ok (.iconst 1, 1) := by decide +kernel
theorem dL_law_597 : decode cL_law 597 = .ok (.iadd, 1) := by decide +kernel
theorem dL_law_598 : decode cL_law 598 = .ok (.iaload, 1) := by decide +kernel
theorem dL_law_599 : decode cL_law 599 = .ok (.aload_n 0, 1) := by decide +kernel
theorem dL_law_600 : decode cL_law 600 = .ok (.iload_n 3, 1) := by decide +kernel
theorem dL_law_601 : decode cL_law 601 = .ok (.iconst 2, 1) := by decide +kernel
theorem dL_law_602 : decode cL_law 602 = .ok (.iadd, 1) := by decide +kernel
theorem dL_law_603 : decode cL_law 603 = .ok (.iaload, 1) := by decide +kernel
theorem dL_law_604 : decode cL_law 604 = .ok (.invokevirtual 64, 3) := by decide +kernel
theorem dL_law_607 : decode cL_law 607 = .ok (.if_icmp .eq 150, 3) := by decide +kernel
theorem dL_law_610 : decode cL_law 610 = .ok (.iconst 0, 1) := by decide +kernel
theorem dL_law_611 : decode cL_law 611 = .ok (.ireturn, 1) := by decide +kernel
theorem dL_law_612 : decode cL_law 612 = .ok (.aload_n 1, 1) := by decide +kernel
theorem dL_law_613 : decode cL_law 613 = .ok (.aload_n 0, 1) := by decide +kernel
theorem dL_law_614 : decode cL_law 614 = .ok (.iload_n 3, 1) := by decide +kernel
theorem dL_law_615 : decode cL_law 615 = .ok (.iconst 1, 1) := by decide +kernel
theorem dL_law_616 : decode cL_law 616 = .ok (.iadd, 1) := by decide +kernel
theorem dL_law_617 : decode cL_law 617 = .ok (.iaload, 1) := by decide +kernel
theorem dL_law_618 : decode cL_law 618 = .ok (.aload_n 0, 1) := by decide +kernel
theorem dL_law_619 : decode cL_law 619 = .ok (.iload_n 3, 1) := by decide +kernel
theorem dL_law_620 : decode cL_law 620 = .ok (.iconst 2, 1) := by decide +kernel
theorem dL_law_621 : decode cL_law 621 = .ok (.iadd, 1) := by decide +kernel
theorem dL_law_622 : decode cL_law 622 = .ok (.iaload, 1) := by decide +kernel
theorem dL_law_623 : decode cL_law 623 = .ok (.invokevirtual 65, 3) := by decide +kernel
theorem dL_law_626 : decode cL_law 626 = .ok (.aload_n 2, 1) := by decide +kernel
theorem dL_law_627 : decode cL_law 627 = .ok (.aload_n 0, 1) := by decide +kernel
theorem dL_law_628 : decode cL_law 628 = .ok (.iload_n 3, 1) := by decide +kernel
theorem dL_law_629 : decode cL_law 629 = .ok (.iconst 1, 1) := by decide +kernel
theorem dL_law_630 : decode cL_law 630 = .ok (.iadd, 1) := by decide +kernel
theorem dL_law_631 : decode cL_law 631 = .ok (.iaload, 1) := by decide +kernel
theorem dL_law_632 : decode cL_law 632 = .ok (.aload_n 0, 1) := by decide +kernel
theorem dL_law_633 : decode cL_law 633 = .ok (.iload_n 3, 1) := by decide +kernel
theorem dL_law_634 : decode cL_law 634 = .ok (.iconst 2, 1) := by decide +kernel
theorem dL_law_635 : decode cL_law 635 = .ok (.iadd, 1) := by decide +kernel
theorem dL_law_636 : decode cL_law 636 = .ok (.iaload, 1) := by decide +kernel
theorem dL_law_637 : decode cL_law 637 = .ok (.invokevirtual 68, 3) := by decide +kernel
theorem dL_law_640 : decode cL_law 640 = .ok (.if_icmp .eq 117, 3) := by decide +kernel
theorem dL_law_643 : decode cL_law 643 = .ok (.iconst 0, 1) := by decide +kernel
theorem dL_law_644 : decode cL_law 644 = .ok (.ireturn, 1) := by decide +kernel
theorem dL_law_645 : decode cL_law 645 = .ok (.aload_n 1, 1) := by decide +kernel
theorem dL_law_646 : decode cL_law 646 = .ok (.aload_n 0, 1) := by decide +kernel
theorem dL_law_647 : decode cL_law 647 = .ok (.iload_n 3, 1) := by decide +kernel
theorem dL_law_648 : decode cL_law 648 = .ok (.iconst 1, 1) := by decide +kernel
theorem dL_law_649 : decode cL_law 649 = .ok (.iadd, 1) := by decide +kernel
theorem dL_law_650 : decode cL_law 650 = .ok (.iaload, 1) := by decide +kernel
theorem dL_law_651 : decode cL_law 651 = .ok (.aload_n 0, 1) := by decide +kernel
theorem dL_law_652 : decode cL_law 652 = .ok (.iload_n 3, 1) := by decide +kernel
theorem dL_law_653 : decode cL_law 653 = .ok (.iconst 2, 1) := by decide +kernel
theorem dL_law_654 : decode cL_law 654 = .ok (.iadd, 1) := by decide +kernel
theorem dL_law_655 : decode cL_law 655 = .ok (.iaload, 1) := by decide +kernel
theorem dL_law_656 : decode cL_law 656 = .ok (.aload_n 0, 1) := by decide +kernel
theorem dL_law_657 : decode cL_law 657 = .ok (.iload_n 3, 1) := by decide +kernel
theorem dL_law_658 : decode cL_law 658 = .ok (.iconst 3, 1) := by decide +kernel
theorem dL_law_659 : decode cL_law 659 = .ok (.iadd, 1) := by decide +kernel
theorem dL_law_660 : decode cL_law 660 = .ok (.iaload, 1) := by decide +kernel
theorem dL_law_661 : decode cL_law 661 = .ok (.invokevirtual 69, 3) := by decide +kernel
theorem dL_law_664 : decode cL_law 664 = .ok (.aload_n 2, 1) := by decide +kernel
theorem dL_law_665 : decode cL_law 665 = .ok (.aload_n 0, 1) := by decide +kernel
theorem dL_law_666 : decode cL_law 666 = .ok (.iload_n 3, 1) := by decide +kernel
theorem dL_law_667 : decode cL_law 667 = .ok (.iconst 1, 1) := by decide +kernel
theorem dL_law_668 : decode cL_law 668 = .ok (.iadd, 1) := by decide +kernel
theorem dL_law_669 : decode cL_law 669 = .ok (.iaload, 1) := by decide +kernel
theorem dL_law_670 : decode cL_law 670 = .ok (.aload_n 0, 1) := by decide +kernel
theorem dL_law_671 : decode cL_law 671 = .ok (.iload_n 3, 1) := by decide +kernel
theorem dL_law_672 : decode cL_law 672 = .ok (.iconst 2, 1) := by decide +kernel
theorem dL_law_673 : decode cL_law 673 = .ok (.iadd, 1) := by decide +kernel
theorem dL_law_674 : decode cL_law 674 = .ok (.iaload, 1) := by decide +kernel
theorem dL_law_675 : decode cL_law 675 = .ok (.aload_n 0, 1) := by decide +kernel
theorem dL_law_676 : decode cL_law 676 = .ok (.iload_n 3, 1) := by decide +kernel
theorem dL_law_677 : decode cL_law 677 = .ok (.iconst 3, 1) := by decide +kernel
theorem dL_law_678 : decode cL_law 678 = .ok (.iadd, 1) := by decide +kernel
theorem dL_law_679 : decode cL_law 679 = .ok (.iaload, 1) := by decide +kernel
theorem dL_law_680 : decode cL_law 680 = .ok (.invokevirtual 72, 3) := by decide +kernel
theorem dL_law_683 : decode cL_law 683 = .ok (.if_icmp .eq 74, 3) := by decide +kernel
theorem dL_law_686 : decode cL_law 686 = .ok (.iconst 0, 1) := by decide +kernel
theorem dL_law_687 : decode cL_law 687 = .ok (.ireturn, 1) := by decide +kernel
theorem dL_law_688 : decode cL_law 688 = .ok (.aload_n 1, 1) := by decide +kernel
theorem dL_law_689 : decode cL_law 689 = .ok (.aload_n 0, 1) := by decide +kernel
theorem dL_law_690 : decode cL_law 690 = .ok (.iload_n 3, 1) := by decide +kernel
theorem dL_law_691 : decode cL_law 691 = .ok (.iconst 1, 1) := by decide +kernel
theorem dL_law_692 : decode cL_law 692 = .ok (.iadd, 1) := by decide +kernel
theorem dL_law_693 : decode cL_law 693 = .ok (.iaload, 1) := by decide +kernel
theorem dL_law_694 : decode cL_law 694 = .ok (.invokevirtual 73, 3) := by decide +kernel
theorem dL_law_697 : decode cL_law 697 = .ok (.aload_n 2, 1) := by decide +kernel
theorem dL_law_698 : decode cL_law 698 = .ok (.aload_n 0, 1) := by decide +kernel
theorem dL_law_699 : decode cL_law 699 = .ok (.iload_n 3, 1) := by decide +kernel
theorem dL_law_700 : decode cL_law 700 = .ok (.iconst 1, 1) := by decide +kernel
theorem dL_law_701 : decode cL_law 701 = .ok (.iadd, 1) := by decide +kernel
theorem dL_law_702 : decode cL_law 702 = .ok (.iaload, 1) := by decide +kernel
theorem dL_law_703 : decode cL_law 703 = .ok (.invokevirtual 76, 3) := by decide +kernel
theorem dL_law_706 : decode cL_law 706 = .ok (.if_icmp .eq 51, 3) := by decide +kernel
theorem dL_law_709 : decode cL_law 709 = .ok (.iconst 0, 1) := by decide +kernel
theorem dL_law_710 : decode cL_law 710 = .ok (.ireturn, 1) := by decide +kernel
theorem dL_law_711 : decode cL_law 711 = .ok (.aload_n 1, 1) := by decide +kernel
theorem dL_law_712 : decode cL_law 712 = .ok (.aload_n 0, 1) := by decide +kernel
theorem dL_law_713 : decode cL_law 713 = .ok (.iload_n 3, 1) := by decide +kernel
theorem dL_law_714 : decode cL_law 714 = .ok (.iconst 1, 1) := by decide +kernel
theorem dL_law_715 : decode cL_law 715 = .ok (.iadd, 1) := by decide +kernel
theorem dL_law_716 : decode cL_law 716 = .ok (.iaload, 1) := by decide +kernel
theorem dL_law_717 : decode cL_law 717 = .ok (.invokevirtual 77, 3) := by decide +kernel
theorem dL_law_720 : decode cL_law 720 = .ok (.aload_n 2, 1) := by decide +kernel
theorem dL_law_721 : decode cL_law 721 = .ok (.aload_n 0, 1) := by decide +kernel
theorem dL_law_722 : decode cL_law 722 = .ok (.iload_n 3, 1) := by decide +kernel
theorem dL_law_723 : decode cL_law 723 = .ok (.iconst 1, 1) := by decide +kernel
theorem dL_law_724 : decode cL_law 724 = .ok (.iadd, 1) := by decide +kernel
theorem dL_law_725 : decode cL_law 725 = .ok (.iaload, 1) := by decide +kernel
theorem dL_law_726 : decode cL_law 726 = .ok (.invokevirtual 80, 3) := by decide +kernel
theorem dL_law_729 : decode cL_law 729 = .ok (.if_icmp .eq 28, 3) := by decide +kernel
theorem dL_law_732 : decode cL_law 732 = .ok (.iconst 0, 1) := by decide +kernel
theorem dL_law_733 : decode cL_law 733 = .ok (.ireturn, 1) := by decide +kernel
theorem dL_law_734 : decode cL_law 734 = .ok (.aload_n 1, 1) := by decide +kernel
theorem dL_law_735 : decode cL_law 735 = .ok (.aload_n 0, 1) := by decide +kernel
theorem dL_law_736 : decode cL_law 736 = .ok (.iload_n 3, 1) := by decide +kernel
theorem dL_law_737 : decode cL_law 737 = .ok (.iconst 1, 1) := by decide +kernel
theorem dL_law_738 : decode cL_law 738 = .ok (.iadd, 1) := by decide +kernel
theorem dL_law_739 : decode cL_law 739 = .ok (.iaload, 1) := by decide +kernel
theorem dL_law_740 : decode cL_law 740 = .ok (.invokevirtual 81, 3) := by decide +kernel
theorem dL_law_743 : decode cL_law 743 = .ok (.aload_n 2, 1) := by decide +kernel
theorem dL_law_744 : decode cL_law 744 = .ok (.aload_n 0, 1) := by decide +kernel
theorem dL_law_745 : decode cL_law 745 = .ok (.iload_n 3, 1) := by decide +kernel
theorem dL_law_746 : decode cL_law 746 = .ok (.iconst 1, 1) := by decide +kernel
theorem dL_law_747 : decode cL_law 747 = .ok (.iadd, 1) := by decide +kernel
theorem dL_law_748 : decode cL_law 748 = .ok (.iaload, 1) := by decide +kernel
theorem dL_law_749 : decode cL_law 749 = .ok (.invokevirtual 84, 3) := by decide +kernel
theorem dL_law_752 : decode cL_law 752 = .ok (.if_icmp .eq 5, 3) := by decide +kernel
theorem dL_law_755 : decode cL_law 755 = .ok (.iconst 0, 1) := by decide +kernel
theorem dL_law_756 : decode cL_law 756 = .ok (.ireturn, 1) := by decide +kernel
theorem dL_law_757 : decode cL_law 757 = .ok (.iinc 3 5, 3) := by decide +kernel
theorem dL_law_760 : decode cL_law 760 = .ok (.goto (-742), 3) := by decide +kernel
theorem dL_law_763 : decode cL_law 763 = .ok (.iconst 1, 1) := by decide +kernel
theorem dL_law_764 : decode cL_law 764 = .ok (.ireturn, 1) := by decide +kernel
end
section
/-! OWN KIT: a world is a pool (L, f): the addresses L, what each holds f. One environment E, one world hypothesis hw. -/
def b2i (b : Bool) : Int32 := if b then 1 else 0
def nxW : List Cond := [.methodLinkNest RX5 23 yX0_init "NumberMachines", .fieldLinkNest RX3 22 "NumberMachines$Draft" "row" "[J" "NumberMachines", .fieldLinkNest RX4 39 "NumberMachines$Draft" "row" "[J" "NumberMachines", .fieldLinkNest RX3 9 "NumberMachines$Draft" "start" "I" "NumberMachines", .fieldLinkNest RX4 19 "NumberMachines$Draft" "start" "I" "NumberMachines", .fieldLinkNest RX3 18 "NumberMachines$Draft" "period" "I" "NumberMachines", .fieldLinkNest RX4 25 "NumberMachines$Draft" "period" "I" "NumberMachines", .methodLinkNest RX5 30 yX4_init "NumberMachines", .methodLinkNest RX5 35 yX1_init "NumberMachines", .fieldLinkNest RX5 147 "NumberMachines$Image" "kept" "Z" "NumberMachines", .methodLinkNest RX0 55 yX5_bit "NumberMachines", .methodLinkNest RX0 59 yX5_clearBit "NumberMachines", .methodLinkNest RX4 73 yX5_folded "NumberMachines", .fieldLinkNest RX5 89 "NumberMachines$Machine" "states" "I" "NumberMachines", .fieldLinkNest RX5 94 "NumberMachines$Machine" "good" "J" "NumberMachines", .fieldLinkNest RX5 79 "NumberMachines$Round" "start" "I" "NumberMachines", .fieldLinkNest RX5 82 "NumberMachines$Round" "period" "I" "NumberMachines", .fieldLinkNest RX5 85 "NumberMachines$Round" "machine" "LNumberMachines$Machine;" "NumberMachines", .methodLinkNest RX0 34 yX5_setBit "NumberMachines", .methodLinkNest RX3 45 yX5_bit "NumberMachines", .methodLinkNest RX3 37 yX5_folded "NumberMachines", .castable "[I" "java/lang/Cloneable"]
abbrev tyz (cy : Nat → ClassId) : List (ClassId × FieldType) := [(cy 0, .int), (cy 1, .long), (cy 2, .boolean), (cy 3, .object "NumberMachines$Image"), (cy 4, .object "NumberMachines$Round")]
def KK (D : va_G) (cy : Nat → ClassId) (U : State) : Prop := va_K D vwCl (tyz cy) U ∧ (∀ w ∈ nxW, va_Nw w U) ∧ va_AO "NumberMachines$Image" U ∧ va_AO "NumberMachines$Round" U
theorem nx_warm {s U : State} (hW : s.WarmedH U.vm) (h : ∀ w ∈ nxW, va_Nw w s) : ∀ w ∈ nxW, va_Nw w U := by
  intro w hw
  have h1 := h w hw
  simp only [nxW, List.mem_cons, List.not_mem_nil, or_false] at hw
  rcases hw with rfl | rfl | rfl | rfl | rfl | rfl | rfl | rfl | rfl | rfl | rfl | rfl | rfl | rfl | rfl | rfl | rfl | rfl | rfl | rfl | rfl | rfl <;> first | exact va_Nw.warmM hW h1 | exact va_Nw.warmF hW h1 | exact va_Nw.warmC hW h1
theorem nx_tab : ∀ w ∈ nxW, w.onTables = true := by decide +kernel
theorem KK.warm {D : va_G} {cy : Nat → ClassId} {s U : State} (hW : s.WarmedH U.vm) (h : KK D cy s) : KK D cy U := ⟨va_K.moved hW.alike h.1, nx_warm hW h.2.1, h.2.2.1.moved hW.alike, h.2.2.2.moved hW.alike⟩
theorem KK.same {D : va_G} {cy : Nat → ClassId} {s U : State} (hv : s.vm = U.vm) (h : KK D cy s) : KK D cy U := by
  have ha : s.vm.Alike U.vm := by rw [hv]; exact Vm.Alike.refl U.vm
  exact ⟨va_K.moved ha h.1, fun w hw => va_Nw.same (nx_tab w hw) hv (h.2.1 w hw), h.2.2.1.moved ha, h.2.2.2.moved ha⟩
/-- a cell of the pool -/
def cel (L : List Nat) (f : Nat → va_E) (a : Nat) (e : va_E) : Prop := a ∈ L ∧ f a = e
theorem cel.ne {L : List Nat} {f : Nat → va_E} {a b : Nat} {x y : va_E} (h1 : cel L f a x) (h2 : cel L f b y) (h : x ≠ y) : a ≠ b := fun e => h (by rw [← h1.2, ← h2.2, e])
theorem cel.keep {L L1 : List Nat} {f f1 : Nat → va_E} {a : Nat} {x : va_E} (h : cel L f a x) (hL : ∀ b ∈ L, b ∈ L1) (hf : f1 a = f a) : cel L1 f1 a x := ⟨hL a h.1, hf.trans h.2⟩
theorem cel.kp {L : List Nat} {f f1 : Nat → va_E} {a q : Nat} {x : va_E} (h : cel L f a x) (hf : ∀ b, b ≠ q → f1 b = f b) (hn : a ≠ q) : cel L f1 a x := ⟨h.1, (hf a hn).trans h.2⟩
theorem cel.kq {L L1 : List Nat} {f f1 : Nat → va_E} {a q : Nat} {x : va_E} (h : cel L f a x) (hL : ∀ b ∈ L, b ∈ L1) (hf : ∀ b ∈ L, f1 b = f b) : cel L1 f1 a x := ⟨hL a h.1, (hf a h.1).trans h.2⟩
def AW (L : List Nat) (sz : Nat) : Nat → Prop := fun q => q ∈ L ∨ sz ≤ q
/-- the world: the pool in the heap, apart, and what may change -/
def WW (D : va_G) (A : Nat → Prop) (H0 : Heap) (L : List Nat) (f : Nat → va_E) (H : Heap) (locs : List Loc) : Prop := va_P D vwCl (va_pl L f) H ∧ va_D A (va_pl L f) ∧ va_S A H0 H locs ∧ ∀ q, H0.size ≤ q → A q
def PW (D : va_G) (cy : Nat → ClassId) (L : List Nat) (f : Nat → va_E) (sz : Nat) (U : State) : Prop := U.heap.size = sz ∧ va_P D vwCl (va_pl L f) U.heap ∧ KK D cy U ∧ va_D (fun _ => True) (va_pl L f)
def PB (D : va_G) (A : Nat → Prop) (u : List Nat × (Nat → va_E)) (t : State) : Prop := va_P D vwCl (va_pl u.1 u.2) t.heap ∧ va_D A (va_pl u.1 u.2)
theorem pl_get {L : List Nat} {f : Nat → va_E} {a : Nat} (h : a ∈ L) : ∃ k : Nat, (va_pl L f)[k]? = some (a, f a) := va_pl_get (X := []) h
theorem cel.at {L : List Nat} {f : Nat → va_E} {a : Nat} {x : va_E} (h : cel L f a x) : ∃ k : Nat, (va_pl L f)[k]? = some (a, x) := by
  obtain ⟨k, hk⟩ := pl_get (f := f) h.1
  exact ⟨k, by rw [hk, h.2]⟩
theorem pl_mem {L : List Nat} {f : Nat → va_E} {k : Nat} {q : Nat × va_E} (h : (va_pl L f)[k]? = some q) : q.1 ∈ L := by
  simp only [va_pl, List.getElem?_map] at h
  cases hb : L[k]? with
  | none => rw [hb] at h; cases h
  | some b =>
    rw [hb] at h
    have h2 : (b, f b) = q := Option.some.inj h
    rw [← h2]
    exact List.mem_of_getElem? hb
theorem pl_set {A : Nat → Prop} {L : List Nat} {f : Nat → va_E} {a k : Nat} {e x : va_E} (hD : va_D A (va_pl L f)) (h : a ∈ L) (hk : (va_pl L f)[k]? = some (a, x)) : (va_pl L f).set k (a, e) = va_pl L (va_up f a e) := by
  obtain ⟨k2, hk2⟩ := pl_get (f := f) h
  have e1 : k = k2 := hD.1 k k2 _ _ hk hk2 rfl
  subst e1
  exact va_pl_set (X := []) hD h hk2
theorem WW.A {D : va_G} {A : Nat → Prop} {H0 : Heap} {L : List Nat} {f : Nat → va_E} {H : Heap} {locs : List Loc} (hw : WW D A H0 L f H locs) : ∀ q, AW L H.size q → A q := by
  intro q h
  rcases h with h | h
  · obtain ⟨k, hk⟩ := pl_get (f := f) h
    exact hw.2.1.2 k _ hk
  · exact hw.2.2.2 q (Nat.le_trans hw.2.2.1.1 h)
theorem WW.lt {D : va_G} {A : Nat → Prop} {H0 : Heap} {L : List Nat} {f : Nat → va_E} {H : Heap} {locs : List Loc} (hw : WW D A H0 L f H locs) {a : Nat} (h : a ∈ L) : a < H.size := va_pl_lt (X := []) hw.1 h
/-- arrays are told by their values below their length -/
theorem arr_ext {cA : ClassId} {n : Nat} {f g : Nat → Value} (h : ∀ j, j < n → f j = g j) : arrV cA n f = arrV cA n g := by
  unfold arrV
  congr 1
  apply Array.ext
  · simp
  · intro i h1 h2
    simp at h1
    simp [h i h1]
/-- the fixed things of a walk: the machine, the code, the class, the tables' words, the classes -/
abbrev EE (p : Program) (s : State) (m : MethodId) (args : Array Value) (c : Code) (cc : ByteArray) (nL : Nat) (own : String) (D : va_G) (cy : Nat → ClassId) : Prop := CallFix p m c cc nL s args wsL_law own ∧ KK D cy s
end
section
section KT
variable {p : Program} {l : Launch} {e : Env} {R : Room} {s : State} {m : MethodId} {args : Array Value} {below : List Frame} {meth : Method} {c : Code} {H : Heap} {locs : List Loc} {cells slots : Nat} {Q : State → Prop} {cc : ByteArray} {nL : Nat} {own : String} {D : va_G} {cy : Nat → ClassId} {A : Nat → Prop} {H0 : Heap} {L : List Nat} {f : Nat → va_E} {pc : Nat} {ls : Array Slot} {rest : List Value}
theorem k_add (E : EE p s m args c cc nL own D cy) {a b : Nat} (hdg : decode cc pc = .ok (.iadd, 1)) (k : W p l e R s m args below meth c H locs cells slots Q (F0 m (pc + 1) ls (.int (nI (a + b)) :: rest))) : W p l e R s m args below meth c H locs cells slots Q (F0 m pc ls (.int (nI b) :: .int (nI a) :: rest)) :=
  lv_iadd E.1.1 E.1.2.1 hdg (by rw [nI_add]; exact k)
theorem k_sub (E : EE p s m args c cc nL own D cy) {a b : Nat} (hdg : decode cc pc = .ok (.isub, 1)) (h : b ≤ a) (k : W p l e R s m args below meth c H locs cells slots Q (F0 m (pc + 1) ls (.int (nI (a - b)) :: rest))) : W p l e R s m args below meth c H locs cells slots Q (F0 m pc ls (.int (nI b) :: .int (nI a) :: rest)) :=
  lv_isub E.1.1 E.1.2.1 hdg (by rw [pk_sub h]; exact k)
theorem k_mul (E : EE p s m args c cc nL own D cy) {a b : Nat} (hdg : decode cc pc = .ok (.imul, 1)) (k : W p l e R s m args below meth c H locs cells slots Q (F0 m (pc + 1) ls (.int (nI (a * b)) :: rest))) : W p l e R s m args below meth c H locs cells slots Q (F0 m pc ls (.int (nI b) :: .int (nI a) :: rest)) :=
  lv_imul E.1.1 E.1.2.1 hdg (by rw [pk_mul]; exact k)
theorem k_div (E : EE p s m args c cc nL own D cy) {a d : Nat} (hdg : decode cc pc = .ok (.idiv, 1)) (ha : a < 2147483648) (h0 : 0 < d) (hd : d < 2147483648) (k : W p l e R s m args below meth c H locs cells slots Q (F0 m (pc + 1) ls (.int (nI (a / d)) :: rest))) : W p l e R s m args below meth c H locs cells slots Q (F0 m pc ls (.int (nI d) :: .int (nI a) :: rest)) :=
  lv_idiv E.1.1 E.1.2.1 hdg (nI_ne0 h0 hd) (by rw [pk_div ha h0 hd]; exact k)
theorem k_rem (E : EE p s m args c cc nL own D cy) {a d : Nat} (hdg : decode cc pc = .ok (.irem, 1)) (ha : a < 2147483648) (h0 : 0 < d) (hd : d < 2147483648) (k : W p l e R s m args below meth c H locs cells slots Q (F0 m (pc + 1) ls (.int (nI (a % d)) :: rest))) : W p l e R s m args below meth c H locs cells slots Q (F0 m pc ls (.int (nI d) :: .int (nI a) :: rest)) :=
  lv_irem E.1.1 E.1.2.1 hdg (nI_ne0 h0 hd) (by rw [pk_rem ha h0 hd]; exact k)
theorem k_shr6 (E : EE p s m args c cc nL own D cy) {a : Nat} (hdg : decode cc pc = .ok (.ishr, 1)) (ha : a < 2147483648) (k : W p l e R s m args below meth c H locs cells slots Q (F0 m (pc + 1) ls (.int (nI (a / 64)) :: rest))) : W p l e R s m args below meth c H locs cells slots Q (F0 m pc ls (.int (nI 6) :: .int (nI a) :: rest)) :=
  lv_ishr E.1.1 E.1.2.1 hdg (by rw [pk_shrN ha (nI 6 &&& 31) 6 (by decide +kernel)]; exact k)
theorem k_top (E : EE p s m args c cc nL own D cy) {x : Int32} (y : Int32) (h : x = y) (k : W p l e R s m args below meth c H locs cells slots Q (F0 m pc ls (.int y :: rest))) : W p l e R s m args below meth c H locs cells slots Q (F0 m pc ls (.int x :: rest)) := by rw [h]; exact k
theorem k_topl (E : EE p s m args c cc nL own D cy) {x : Int64} (y : Int64) (h : x = y) (k : W p l e R s m args below meth c H locs cells slots Q (F0 m pc ls (.long y :: rest))) : W p l e R s m args below meth c H locs cells slots Q (F0 m pc ls (.long x :: rest)) := by rw [h]; exact k
theorem k_ge (E : EE p s m args c cc nL own D cy) {a b : Nat} {off : Int} {tgt : Nat} (hdg : decode cc pc = .ok (.if_icmp .ge off, 3)) (ht : (pc : Int) + off = (tgt : Int)) (ha : a < 2147483648) (hb : b < 2147483648) (kt : b ≤ a → W p l e R s m args below meth c H locs cells slots Q (F0 m tgt ls rest)) (kf : a < b → W p l e R s m args below meth c H locs cells slots Q (F0 m (pc + 3) ls rest)) : W p l e R s m args below meth c H locs cells slots Q (F0 m pc ls (.int (nI b) :: .int (nI a) :: rest)) :=
  lv_icmp_ge E.1.1 E.1.2.1 hdg ht (fun h => kt ((nI_leI hb ha).mp h)) (fun h => kf (Nat.lt_of_not_le (fun q => h ((nI_leI hb ha).mpr q))))
theorem k_lt (E : EE p s m args c cc nL own D cy) {a b : Nat} {off : Int} {tgt : Nat} (hdg : decode cc pc = .ok (.if_icmp .lt off, 3)) (ht : (pc : Int) + off = (tgt : Int)) (ha : a < 2147483648) (hb : b < 2147483648) (kt : a < b → W p l e R s m args below meth c H locs cells slots Q (F0 m tgt ls rest)) (kf : b ≤ a → W p l e R s m args below meth c H locs cells slots Q (F0 m (pc + 3) ls rest)) : W p l e R s m args below meth c H locs cells slots Q (F0 m pc ls (.int (nI b) :: .int (nI a) :: rest)) :=
  lv_icmp_lt E.1.1 E.1.2.1 hdg ht (fun h => kt ((nI_ltI ha hb).mp h)) (fun h => kf (Nat.le_of_not_lt (fun q => h ((nI_ltI ha hb).mpr q))))
theorem k_gt (E : EE p s m args c cc nL own D cy) {a b : Nat} {off : Int} {tgt : Nat} (hdg : decode cc pc = .ok (.if_icmp .gt off, 3)) (ht : (pc : Int) + off = (tgt : Int)) (ha : a < 2147483648) (hb : b < 2147483648) (kt : b < a → W p l e R s m args below meth c H locs cells slots Q (F0 m tgt ls rest)) (kf : a ≤ b → W p l e R s m args below meth c H locs cells slots Q (F0 m (pc + 3) ls rest)) : W p l e R s m args below meth c H locs cells slots Q (F0 m pc ls (.int (nI b) :: .int (nI a) :: rest)) :=
  lv_icmp_gt E.1.1 E.1.2.1 hdg ht (fun h => kt ((nI_ltI hb ha).mp h)) (fun h => kf (Nat.le_of_not_lt (fun q => h ((nI_ltI hb ha).mpr q))))
theorem k_le (E : EE p s m args c cc nL own D cy) {a b : Nat} {off : Int} {tgt : Nat} (hdg : decode cc pc = .ok (.if_icmp .le off, 3)) (ht : (pc : Int) + off = (tgt : Int)) (ha : a < 2147483648) (hb : b < 2147483648) (kt : a ≤ b → W p l e R s m args below meth c H locs cells slots Q (F0 m tgt ls rest)) (kf : b < a → W p l e R s m args below meth c H locs cells slots Q (F0 m (pc + 3) ls rest)) : W p l e R s m args below meth c H locs cells slots Q (F0 m pc ls (.int (nI b) :: .int (nI a) :: rest)) :=
  lv_icmp_le E.1.1 E.1.2.1 hdg ht (fun h => kt ((nI_leI ha hb).mp h)) (fun h => kf (Nat.lt_of_not_le (fun q => h ((nI_leI ha hb).mpr q))))
theorem k_eq (E : EE p s m args c cc nL own D cy) {a b : Nat} {off : Int} {tgt : Nat} (hdg : decode cc pc = .ok (.if_icmp .eq off, 3)) (ht : (pc : Int) + off = (tgt : Int)) (ha : a < 2147483648) (hb : b < 2147483648) (kt : a = b → W p l e R s m args below meth c H locs cells slots Q (F0 m tgt ls rest)) (kf : a ≠ b → W p l e R s m args below meth c H locs cells slots Q (F0 m (pc + 3) ls rest)) : W p l e R s m args below meth c H locs cells slots Q (F0 m pc ls (.int (nI b) :: .int (nI a) :: rest)) :=
  lv_icmp_eq E.1.1 E.1.2.1 hdg ht (fun h => kt ((nI_eq ha hb).mp h)) (fun h => kf (fun q => h ((nI_eq ha hb).mpr q)))
theorem k_ne (E : EE p s m args c cc nL own D cy) {a b : Nat} {off : Int} {tgt : Nat} (hdg : decode cc pc = .ok (.if_icmp .ne off, 3)) (ht : (pc : Int) + off = (tgt : Int)) (ha : a < 2147483648) (hb : b < 2147483648) (kt : a ≠ b → W p l e R s m args below meth c H locs cells slots Q (F0 m tgt ls rest)) (kf : a = b → W p l e R s m args below meth c H locs cells slots Q (F0 m (pc + 3) ls rest)) : W p l e R s m args below meth c H locs cells slots Q (F0 m pc ls (.int (nI b) :: .int (nI a) :: rest)) :=
  lv_icmp_ne E.1.1 E.1.2.1 hdg ht (fun h => kt (fun q => h ((nI_eq ha hb).mpr q))) (fun h => kf ((nI_eq ha hb).mp h))
theorem k_bne {x y : Bool} (E : EE p s m args c cc nL own D cy) {off : Int} {tgt : Nat} (hdg : decode cc pc = .ok (.if_icmp .ne off, 3)) (ht : (pc : Int) + off = (tgt : Int)) (kt : x ≠ y → W p l e R s m args below meth c H locs cells slots Q (F0 m tgt ls rest)) (kf : x = y → W p l e R s m args below meth c H locs cells slots Q (F0 m (pc + 3) ls rest)) : W p l e R s m args below meth c H locs cells slots Q (F0 m pc ls (.int (b2i y) :: .int (b2i x) :: rest)) :=
  lv_icmp_ne E.1.1 E.1.2.1 hdg ht (fun h => kt (fun q => h (by rw [q]))) (fun h => kf (by revert h; cases x <;> cases y <;> simp [b2i]))
theorem k_beq {x y : Bool} (E : EE p s m args c cc nL own D cy) {off : Int} {tgt : Nat} (hdg : decode cc pc = .ok (.if_icmp .eq off, 3)) (ht : (pc : Int) + off = (tgt : Int)) (kt : x = y → W p l e R s m args below meth c H locs cells slots Q (F0 m tgt ls rest)) (kf : x ≠ y → W p l e R s m args below meth c H locs cells slots Q (F0 m (pc + 3) ls rest)) : W p l e R s m args below meth c H locs cells slots Q (F0 m pc ls (.int (b2i y) :: .int (b2i x) :: rest)) :=
  lv_icmp_eq E.1.1 E.1.2.1 hdg ht (fun h => kt (by revert h; cases x <;> cases y <;> simp [b2i])) (fun h => kf (fun q => h (by rw [q])))
theorem b2i_0 {x : Bool} : b2i x = 0 ↔ x = false := by cases x <;> simp [b2i]
theorem k_if0 {x : Bool} (E : EE p s m args c cc nL own D cy) {off : Int} {tgt : Nat} (hdg : decode cc pc = .ok (.ifCond .eq off, 3)) (ht : (pc : Int) + off = (tgt : Int)) (kt : x = false → W p l e R s m args below meth c H locs cells slots Q (F0 m tgt ls rest)) (kf : x = true → W p l e R s m args below meth c H locs cells slots Q (F0 m (pc + 3) ls rest)) : W p l e R s m args below meth c H locs cells slots Q (F0 m pc ls (.int (b2i x) :: rest)) :=
  lv_if_eq E.1.1 E.1.2.1 hdg ht (fun h => kt (b2i_0.mp h)) (fun h => kf (by cases x; exact absurd rfl h; rfl))
theorem k_if1 {x : Bool} (E : EE p s m args c cc nL own D cy) {off : Int} {tgt : Nat} (hdg : decode cc pc = .ok (.ifCond .ne off, 3)) (ht : (pc : Int) + off = (tgt : Int)) (kt : x = true → W p l e R s m args below meth c H locs cells slots Q (F0 m tgt ls rest)) (kf : x = false → W p l e R s m args below meth c H locs cells slots Q (F0 m (pc + 3) ls rest)) : W p l e R s m args below meth c H locs cells slots Q (F0 m pc ls (.int (b2i x) :: rest)) :=
  lv_if_ne E.1.1 E.1.2.1 hdg ht (fun h => kt (by cases x; exact absurd rfl h; rfl)) (fun h => kf (b2i_0.mp h))
theorem k_z0 {a : Nat} (E : EE p s m args c cc nL own D cy) {off : Int} {tgt : Nat} (hdg : decode cc pc = .ok (.ifCond .eq off, 3)) (ht : (pc : Int) + off = (tgt : Int)) (ha : a < 2147483648) (kt : a = 0 → W p l e R s m args below meth c H locs cells slots Q (F0 m tgt ls rest)) (kf : a ≠ 0 → W p l e R s m args below meth c H locs cells slots Q (F0 m (pc + 3) ls rest)) : W p l e R s m args below meth c H locs cells slots Q (F0 m pc ls (.int (nI a) :: rest)) :=
  lv_if_eq E.1.1 E.1.2.1 hdg ht (fun h => kt ((nI_eq ha (by decide)).mp (h.trans nI_0.symm))) (fun h => kf (fun q => h (by rw [q]; exact nI_0)))
theorem k_z1 {a : Nat} (E : EE p s m args c cc nL own D cy) {off : Int} {tgt : Nat} (hdg : decode cc pc = .ok (.ifCond .ne off, 3)) (ht : (pc : Int) + off = (tgt : Int)) (ha : a < 2147483648) (kt : a ≠ 0 → W p l e R s m args below meth c H locs cells slots Q (F0 m tgt ls rest)) (kf : a = 0 → W p l e R s m args below meth c H locs cells slots Q (F0 m (pc + 3) ls rest)) : W p l e R s m args below meth c H locs cells slots Q (F0 m pc ls (.int (nI a) :: rest)) :=
  lv_if_ne E.1.1 E.1.2.1 hdg ht (fun h => kt (fun q => h (by rw [q]; exact nI_0))) (fun h => kf ((nI_eq ha (by decide)).mp (h.trans nI_0.symm)))
theorem k_zlt {a : Nat} (E : EE p s m args c cc nL own D cy) {off : Int} (hdg : decode cc pc = .ok (.ifCond .lt off, 3)) {tgt : Nat} (ht : (pc : Int) + off = (tgt : Int)) (ha : a < 2147483648) (kf : W p l e R s m args below meth c H locs cells slots Q (F0 m (pc + 3) ls rest)) : W p l e R s m args below meth c H locs cells slots Q (F0 m pc ls (.int (nI a) :: rest)) :=
  lv_if_lt E.1.1 E.1.2.1 hdg ht (fun h => absurd h (nI_pos ha)) (fun _ => kf)
theorem k_zge {a : Nat} (E : EE p s m args c cc nL own D cy) {off : Int} {tgt : Nat} (hdg : decode cc pc = .ok (.ifCond .ge off, 3)) (ht : (pc : Int) + off = (tgt : Int)) (ha : a < 2147483648) (kt : W p l e R s m args below meth c H locs cells slots Q (F0 m tgt ls rest)) : W p l e R s m args below meth c H locs cells slots Q (F0 m pc ls (.int (nI a) :: rest)) :=
  lv_if_ge E.1.1 E.1.2.1 hdg ht (fun _ => kt) (fun h => absurd (nI_pos' ha) h)
theorem k_zle {a : Nat} (E : EE p s m args c cc nL own D cy) {off : Int} {tgt : Nat} (hdg : decode cc pc = .ok (.ifCond .le off, 3)) (ht : (pc : Int) + off = (tgt : Int)) (ha : a < 2147483648) (kt : a = 0 → W p l e R s m args below meth c H locs cells slots Q (F0 m tgt ls rest)) (kf : a ≠ 0 → W p l e R s m args below meth c H locs cells slots Q (F0 m (pc + 3) ls rest)) : W p l e R s m args below meth c H locs cells slots Q (F0 m pc ls (.int (nI a) :: rest)) :=
  lv_if_le E.1.1 E.1.2.1 hdg ht (fun h => kt (by rcases Nat.eq_zero_or_pos a with q | q; exact q; exact absurd h (nI_nle q ha))) (fun h => kf (fun q => h (by rw [q]; decide)))
/-- reading -/
theorem k_get {ci N : Nat} {C : String} {T : u_T} (E : EE p s m args c cc nL own D cy) (hin : ∀ w ∈ u_ws C T N, w ∈ wsL_law) (hcl : vwCl[ci]? = some (C, T, N)) {index : Nat} {ref : String} (k : Nat) (hk : k < N) (hl : Cond.fieldLink own index ref (T k).2.1 (T k).2.2.1 ∈ wsL_law) (hs : (T k).1 = ref) (hw : WW D A H0 L f H locs) {a : Nat} {fs : List Value} (hc : cel L f a (.inr (ci, fs))) {v : Value} (hv : fs[k]? = some v) (hdg : decode cc pc = .ok (.getfield index, 3)) (kk : W p l e R s m args below meth c H locs cells slots Q (F0 m (pc + 3) ls (v :: rest))) : W p l e R s m args below meth c H locs cells slots Q (F0 m pc ls (.ref a :: rest)) := by
  obtain ⟨q0, hq⟩ := hc.at
  exact va_get E.1.1 E.1.2.1 E.1.2.2.2.2 hin E.1.2.2.2.1 E.2.1 hw.1 q0 hq hcl k hk (E.1.2.2.2.2 _ hl) (fun x h => by rw [← hs]; exact h) hv hdg kk
theorem k_getN {ci N : Nat} {C : String} {T : u_T} (E : EE p s m args c cc nL own D cy) (hin : ∀ w ∈ u_ws C T N, w ∈ wsL_law) (hcl : vwCl[ci]? = some (C, T, N)) {index : Nat} {ref host : String} (k : Nat) (hk : k < N) (hl : Cond.fieldLinkNest own index ref (T k).2.1 (T k).2.2.1 host ∈ nxW) (hs : (T k).1 = ref) (hw : WW D A H0 L f H locs) {a : Nat} {fs : List Value} (hc : cel L f a (.inr (ci, fs))) {v : Value} (hv : fs[k]? = some v) (hdg : decode cc pc = .ok (.getfield index, 3)) (kk : W p l e R s m args below meth c H locs cells slots Q (F0 m (pc + 3) ls (v :: rest))) : W p l e R s m args below meth c H locs cells slots Q (F0 m pc ls (.ref a :: rest)) := by
  obtain ⟨q0, hq⟩ := hc.at
  exact va_getN E.1.1 E.1.2.1 E.1.2.2.2.2 hin E.1.2.2.2.1 E.2.1 hw.1 q0 hq hcl k hk (va_Nw.use (nx_tab _ hl) (E.2.2.1 _ hl)) (fun x h => by rw [← hs]; exact h) hv hdg kk
theorem k_iald (E : EE p s m args c cc nL own D cy) (hw : WW D A H0 L f H locs) {a i n : Nat} {g : Nat → Int32} {v : Int32} (hc : cel L f a (.inl (cy 0, n, .inl g))) (hi : i < n) (hn : n < 2147483648) (hv : g i = v) (hdg : decode cc pc = .ok (.iaload, 1)) (kk : W p l e R s m args below meth c H locs cells slots Q (F0 m (pc + 1) ls (.int v :: rest))) : W p l e R s m args below meth c H locs cells slots Q (F0 m pc ls (.int (nI i) :: .ref a :: rest)) := by
  obtain ⟨q0, hq⟩ := hc.at
  refine va_iald E.1.1 E.1.2.1 E.2.1 hw.1 q0 0 hq rfl (vp_in_nI hi hn) hdg ?_
  rw [nI_clamp (Nat.lt_trans hi hn), hv]
  exact kk
theorem k_zald (E : EE p s m args c cc nL own D cy) (hw : WW D A H0 L f H locs) {a i n : Nat} {g : Nat → Int32} {v : Int32} (hc : cel L f a (.inl (cy 2, n, .inl g))) (hi : i < n) (hn : n < 2147483648) (hv : g i = v) (hdg : decode cc pc = .ok (.baload, 1)) (kk : W p l e R s m args below meth c H locs cells slots Q (F0 m (pc + 1) ls (.int v :: rest))) : W p l e R s m args below meth c H locs cells slots Q (F0 m pc ls (.int (nI i) :: .ref a :: rest)) := by
  obtain ⟨q0, hq⟩ := hc.at
  refine va_zald E.1.1 E.1.2.1 E.2.1 hw.1 q0 2 hq rfl (vp_in_nI hi hn) hdg ?_
  rw [nI_clamp (Nat.lt_trans hi hn), hv]
  exact kk
theorem k_lald (E : EE p s m args c cc nL own D cy) (hw : WW D A H0 L f H locs) {a i n : Nat} {g : Nat → Int64} {v : Int64} (hc : cel L f a (.inl (cy 1, n, .inr (.inl g)))) (hi : i < n) (hn : n < 2147483648) (hv : g i = v) (hdg : decode cc pc = .ok (.laload, 1)) (kk : W p l e R s m args below meth c H locs cells slots Q (F0 m (pc + 1) ls (.long v :: rest))) : W p l e R s m args below meth c H locs cells slots Q (F0 m pc ls (.int (nI i) :: .ref a :: rest)) := by
  obtain ⟨q0, hq⟩ := hc.at
  refine va_lald E.1.1 E.1.2.1 E.2.1 hw.1 q0 1 hq rfl (vp_in_nI hi hn) hdg ?_
  rw [nI_clamp (Nat.lt_trans hi hn), hv]
  exact kk
theorem k_aald (E : EE p s m args c cc nL own D cy) (hw : WW D A H0 L f H locs) (t0 : Nat) {a i n r : Nat} {g : Nat → Option Nat} {C : String} {cA : ClassId} (hc : cel L f a (.inl (cA, n, .inr (.inr (.inr (.inr g)))))) (ht : (tyz cy)[t0]? = some (cA, .object C)) (hi : i < n) (hn : n < 2147483648) (hv : g i = some r) (hdg : decode cc pc = .ok (.aaload, 1)) (kk : W p l e R s m args below meth c H locs cells slots Q (F0 m (pc + 1) ls (.ref r :: rest))) : W p l e R s m args below meth c H locs cells slots Q (F0 m pc ls (.int (nI i) :: .ref a :: rest)) := by
  obtain ⟨q0, hq⟩ := hc.at
  refine va_aldq E.1.1 E.1.2.1 E.2.1 hw.1 q0 t0 hq ht (vp_in_nI hi hn) hdg ?_
  rw [nI_clamp (Nat.lt_trans hi hn), hv]
  exact kk
theorem k_alen (E : EE p s m args c cc nL own D cy) (hw : WW D A H0 L f H locs) (t0 : Nat) {a : Nat} {x : vp_A} {cA : ClassId} {ty : FieldType} (hc : cel L f a (.inl (cA, x))) (ht : (tyz cy)[t0]? = some (cA, ty)) {n : Nat} (hn : x.1 = n) (hdg : decode cc pc = .ok (.arraylength, 1)) (kk : W p l e R s m args below meth c H locs cells slots Q (F0 m (pc + 1) ls (.int (nI n) :: rest))) : W p l e R s m args below meth c H locs cells slots Q (F0 m pc ls (.ref a :: rest)) := by
  obtain ⟨q0, hq⟩ := hc.at
  exact va_alen E.1.1 E.1.2.1 E.2.1 hw.1 q0 t0 hq ht (by rw [hn]; rfl) hdg kk
/-- writing -/
theorem up_at {L : List Nat} {g : Nat → va_E} {a : Nat} {x : va_E} (h : a ∈ L) : cel L (va_up g a x) a x := ⟨h, va_up_self g a x⟩
theorem k_upd {a : Nat} {x y z : va_E} (hw : WW D A H0 L f H locs) (hc : cel L f a x) {q0 : Nat} (hq : (va_pl L f)[q0]? = some (a, x)) {H1 : Heap} {locs1 : List Loc} (hP : va_P D vwCl ((va_pl L f).set q0 (a, y)) H1) (hD : va_D A ((va_pl L f).set q0 (a, y))) (hS : va_S A H0 H1 locs1) (hyz : ∀ Hq : Heap, va_at D vwCl (a, y) Hq → va_at D vwCl (a, z) Hq) : WW D A H0 L (va_up f a z) H1 locs1 := by
  have e1 := pl_set (e := y) hw.2.1 hc.1 hq
  have e2 := pl_set (e := z) hw.2.1 hc.1 hq
  rw [e1] at hP hD
  refine ⟨?_, ?_, hS, hw.2.2.2⟩
  · rw [← e2]
    intro k r hk
    by_cases hkq : k = q0
    · subst hkq
      have hl := (List.getElem?_eq_some_iff.mp hq).1
      rw [List.getElem?_set_self hl] at hk
      obtain rfl := Option.some.inj hk
      refine hyz H1 (hP k (a, y) ?_)
      rw [← e1, List.getElem?_set_self hl]
    · rw [List.getElem?_set_ne (Ne.symm hkq)] at hk
      exact hP k r (by rw [← e1, List.getElem?_set_ne (Ne.symm hkq)]; exact hk)
  · rw [← e2]
    exact hw.2.1.set hq
theorem at_int {a n : Nat} {cA : ClassId} {g g' : Nat → Int32} (h : ∀ j, j < n → g j = g' j) (Hq : Heap) (hv : va_at D vwCl (a, .inl (cA, n, .inl g)) Hq) : va_at D vwCl (a, .inl (cA, n, .inl g')) Hq := by
  have e1 : vp_cell cA (n, .inl g) = vp_cell cA (n, .inl g') := arr_ext (f := fun j => .int (g j)) (g := fun j => .int (g' j)) (fun j hj => by rw [h j hj])
  show Hq[a]? = some (vp_cell cA (n, .inl g'))
  rw [← e1]
  exact hv
theorem at_long {a n : Nat} {cA : ClassId} {g g' : Nat → Int64} (h : ∀ j, j < n → g j = g' j) (Hq : Heap) (hv : va_at D vwCl (a, .inl (cA, n, .inr (.inl g))) Hq) : va_at D vwCl (a, .inl (cA, n, .inr (.inl g'))) Hq := by
  have e1 : vp_cell cA (n, .inr (.inl g)) = vp_cell cA (n, .inr (.inl g')) := arr_ext (f := fun j => .long (g j)) (g := fun j => .long (g' j)) (fun j hj => by rw [h j hj])
  show Hq[a]? = some (vp_cell cA (n, .inr (.inl g')))
  rw [← e1]
  exact hv
theorem at_ref {a n : Nat} {cA : ClassId} {g g' : Nat → Option Nat} (h : ∀ j, j < n → g j = g' j) (Hq : Heap) (hv : va_at D vwCl (a, .inl (cA, n, .inr (.inr (.inr (.inr g))))) Hq) : va_at D vwCl (a, .inl (cA, n, .inr (.inr (.inr (.inr g'))))) Hq := by
  have e1 : vp_cell cA (n, .inr (.inr (.inr (.inr g)))) = vp_cell cA (n, .inr (.inr (.inr (.inr g')))) := arr_ext (f := fun j => va_rf (g j)) (g := fun j => va_rf (g' j)) (fun j hj => by rw [h j hj])
  show Hq[a]? = some (vp_cell cA (n, .inr (.inr (.inr (.inr g')))))
  rw [← e1]
  exact hv
theorem k_iast (E : EE p s m args c cc nL own D cy) (hw : WW D A H0 L f H locs) {a i n : Nat} {g : Nat → Int32} {x : Int32} (g' : Nat → Int32) (hc : cel L f a (.inl (cy 0, n, .inl g))) (hi : i < n) (hn : n < 2147483648) (hg : ∀ j, j < n → (if j = i then x else g j) = g' j) (hdg : decode cc pc = .ok (.iastore, 1))
    (kk : ∀ (f1 : Nat → va_E) (H1 : Heap) (locs1 : List Loc), cel L f1 a (.inl (cy 0, n, .inl g')) → (∀ b, b ≠ a → f1 b = f b) → WW D A H0 L f1 H1 locs1 → W p l e R s m args below meth c H1 locs1 cells slots Q (F0 m (pc + 1) ls rest)) : W p l e R s m args below meth c H locs cells slots Q (F0 m pc ls (.int x :: .int (nI i) :: .ref a :: rest)) := by
  obtain ⟨q0, hq⟩ := hc.at
  refine va_iast E.1.1 E.1.2.1 E.2.1 hw.1 hw.2.1 hw.2.2.1 q0 0 hq rfl (vp_in_nI hi hn) hdg (fun H1 locs1 hP hD hS => ?_)
  rw [nI_clamp (Nat.lt_trans hi hn)] at hP hD
  exact kk (va_up f a (.inl (cy 0, n, .inl g'))) H1 locs1 (up_at hc.1) (fun b hb => va_up_ne _ _ hb) (k_upd hw hc hq hP hD hS (at_int (fun j hj => by rw [← hg j hj]; rfl)))
theorem k_zast (E : EE p s m args c cc nL own D cy) (hw : WW D A H0 L f H locs) {a i n : Nat} {g : Nat → Int32} {x : Bool} (g' : Nat → Int32) (hc : cel L f a (.inl (cy 2, n, .inl g))) (hi : i < n) (hn : n < 2147483648) (hg : ∀ j, j < n → (if j = i then b2i x else g j) = g' j) (hdg : decode cc pc = .ok (.bastore, 1))
    (kk : ∀ (f1 : Nat → va_E) (H1 : Heap) (locs1 : List Loc), cel L f1 a (.inl (cy 2, n, .inl g')) → (∀ b, b ≠ a → f1 b = f b) → WW D A H0 L f1 H1 locs1 → W p l e R s m args below meth c H1 locs1 cells slots Q (F0 m (pc + 1) ls rest)) : W p l e R s m args below meth c H locs cells slots Q (F0 m pc ls (.int (b2i x) :: .int (nI i) :: .ref a :: rest)) := by
  obtain ⟨q0, hq⟩ := hc.at
  refine va_zast E.1.1 E.1.2.1 E.2.1 hw.1 hw.2.1 hw.2.2.1 q0 2 hq rfl (vp_in_nI hi hn) hdg (fun H1 locs1 hP hD hS => ?_)
  have hx : vp_nar .boolean (b2i x) = b2i x := by cases x <;> decide +kernel
  rw [nI_clamp (Nat.lt_trans hi hn), hx] at hP hD
  exact kk (va_up f a (.inl (cy 2, n, .inl g'))) H1 locs1 (up_at hc.1) (fun b hb => va_up_ne _ _ hb) (k_upd hw hc hq hP hD hS (at_int (fun j hj => by rw [← hg j hj]; rfl)))
theorem k_last (E : EE p s m args c cc nL own D cy) (hw : WW D A H0 L f H locs) {a i n : Nat} {g : Nat → Int64} {x : Int64} (g' : Nat → Int64) (hc : cel L f a (.inl (cy 1, n, .inr (.inl g)))) (hi : i < n) (hn : n < 2147483648) (hg : ∀ j, j < n → (if j = i then x else g j) = g' j) (hdg : decode cc pc = .ok (.lastore, 1))
    (kk : ∀ (f1 : Nat → va_E) (H1 : Heap) (locs1 : List Loc), cel L f1 a (.inl (cy 1, n, .inr (.inl g'))) → (∀ b, b ≠ a → f1 b = f b) → WW D A H0 L f1 H1 locs1 → W p l e R s m args below meth c H1 locs1 cells slots Q (F0 m (pc + 1) ls rest)) : W p l e R s m args below meth c H locs cells slots Q (F0 m pc ls (.long x :: .int (nI i) :: .ref a :: rest)) := by
  obtain ⟨q0, hq⟩ := hc.at
  refine va_last E.1.1 E.1.2.1 E.2.1 hw.1 hw.2.1 hw.2.2.1 q0 1 hq rfl (vp_in_nI hi hn) hdg (fun H1 locs1 hP hD hS => ?_)
  rw [nI_clamp (Nat.lt_trans hi hn)] at hP hD
  exact kk (va_up f a (.inl (cy 1, n, .inr (.inl g')))) H1 locs1 (up_at hc.1) (fun b hb => va_up_ne _ _ hb) (k_upd hw hc hq hP hD hS (at_long (fun j hj => by rw [← hg j hj]; rfl)))
theorem k_aast (E : EE p s m args c cc nL own D cy) (hw : WW D A H0 L f H locs) (t0 ci : Nat) {r : vw_C} {a i n v : Nat} {vs : List Value} {g : Nat → Option Nat} {cA : ClassId} (g' : Nat → Option Nat) (hc : cel L f a (.inl (cA, n, .inr (.inr (.inr (.inr g)))))) (ht : (tyz cy)[t0]? = some (cA, .object r.1)) (hv : cel L f v (.inr (ci, vs))) (hcl : vwCl[ci]? = some r) (hi : i < n) (hn : n < 2147483648) (hg : ∀ j, j < n → (if j = i then some v else g j) = g' j) (hdg : decode cc pc = .ok (.aastore, 1))
    (kk : ∀ (f1 : Nat → va_E) (H1 : Heap) (locs1 : List Loc), cel L f1 a (.inl (cA, n, .inr (.inr (.inr (.inr g'))))) → (∀ b, b ≠ a → f1 b = f b) → WW D A H0 L f1 H1 locs1 → W p l e R s m args below meth c H1 locs1 cells slots Q (F0 m (pc + 1) ls rest)) : W p l e R s m args below meth c H locs cells slots Q (F0 m pc ls (.ref v :: .int (nI i) :: .ref a :: rest)) := by
  obtain ⟨q0, hq⟩ := hc.at
  obtain ⟨q1, hq1⟩ := hv.at
  refine va_astq E.1.1 E.1.2.1 E.2.1 hw.1 hw.2.1 hw.2.2.1 q0 t0 q1 ci hq ht hq1 hcl (vp_in_nI hi hn) hdg (fun H1 locs1 hP hD hS => ?_)
  rw [nI_clamp (Nat.lt_trans hi hn)] at hP hD
  exact kk (va_up f a (.inl (cA, n, .inr (.inr (.inr (.inr g')))))) H1 locs1 (up_at hc.1) (fun b hb => va_up_ne _ _ hb) (k_upd hw hc hq hP hD hS (at_ref (fun j hj => by rw [← hg j hj]; rfl)))
theorem k_put {ci N : Nat} {C : String} {T : u_T} {ty0 : Nat → FieldType} (E : EE p s m args c cc nL own D cy) (hin : ∀ w ∈ u_ws C T N, w ∈ wsL_law) (hcl : vwCl[ci]? = some (C, T, N)) (hty : ∀ k, k < N → parseFieldDescriptor (T k).2.2.1 = some (ty0 k)) (hnm : ∀ a, a < N → ∀ b, b < N → a ≠ b → (T a).2.1 ≠ (T b).2.1) {index : Nat} {ref : String} (k : Nat) (hk : k < N) (hl : Cond.fieldLink own index ref (T k).2.1 (T k).2.2.1 ∈ wsL_law) (hs : (T k).1 = ref) (hfin : (T k).2.2.2 = false) (hw : WW D A H0 L f H locs) {a : Nat} {fs : List Value} {v : Value} (fs' : List Value) (hc : cel L f a (.inr (ci, fs))) (hn : narrow (ty0 k) v = v) (hfit : fits (ty0 k) v = true) (hlen : k < fs.length) (hfs : fs.set k v = fs') (hdg : decode cc pc = .ok (.putfield index, 3))
    (kk : ∀ (f1 : Nat → va_E) (H1 : Heap) (locs1 : List Loc), cel L f1 a (.inr (ci, fs')) → (∀ b, b ≠ a → f1 b = f b) → WW D A H0 L f1 H1 locs1 → W p l e R s m args below meth c H1 locs1 cells slots Q (F0 m (pc + 3) ls rest)) : W p l e R s m args below meth c H locs cells slots Q (F0 m pc ls (v :: .ref a :: rest)) := by
  obtain ⟨q0, hq⟩ := hc.at
  refine va_put E.1.1 E.1.2.1 E.1.2.2.2.2 hin ty0 hty hnm E.1.2.2.2.1 E.2.1 hw.1 hw.2.1 hw.2.2.1 q0 hq hcl k hk (E.1.2.2.2.2 _ hl) (fun x h => by rw [← hs]; exact h) hfin (hty k hk) hn hfit hlen hdg (fun H1 locs1 hP hD hS => ?_)
  rw [hfs] at hP hD
  exact kk (va_up f a (.inr (ci, fs'))) H1 locs1 (up_at hc.1) (fun b hb => va_up_ne _ _ hb) (k_upd hw hc hq hP hD hS (fun _ h => h))
theorem k_putF {ci N : Nat} {C : String} {T : u_T} {ty0 : Nat → FieldType} (E : EE p s m args c cc nL own D cy) (hin : ∀ w ∈ u_ws C T N, w ∈ wsL_law) (hcl : vwCl[ci]? = some (C, T, N)) (hty : ∀ k, k < N → parseFieldDescriptor (T k).2.2.1 = some (ty0 k)) (hnm : ∀ a, a < N → ∀ b, b < N → a ≠ b → (T a).2.1 ≠ (T b).2.1) {index : Nat} {ref : String} (k : Nat) (hk : k < N) (hl : Cond.fieldLink own index ref (T k).2.1 (T k).2.2.1 ∈ wsL_law) (hs : (T k).1 = ref) (hfin : (T k).2.2.2 = true) (hin2 : meth.name = "<init>") (hdecl : (T k).1 = own) (hw : WW D A H0 L f H locs) {a : Nat} {fs : List Value} {v : Value} (fs' : List Value) (hc : cel L f a (.inr (ci, fs))) (hn : narrow (ty0 k) v = v) (hfit : fits (ty0 k) v = true) (hlen : k < fs.length) (hfs : fs.set k v = fs') (hdg : decode cc pc = .ok (.putfield index, 3))
    (kk : ∀ (f1 : Nat → va_E) (H1 : Heap) (locs1 : List Loc), cel L f1 a (.inr (ci, fs')) → (∀ b, b ≠ a → f1 b = f b) → WW D A H0 L f1 H1 locs1 → W p l e R s m args below meth c H1 locs1 cells slots Q (F0 m (pc + 3) ls rest)) : W p l e R s m args below meth c H locs cells slots Q (F0 m pc ls (v :: .ref a :: rest)) := by
  obtain ⟨q0, hq⟩ := hc.at
  refine va_putF E.1.1 E.1.2.1 E.1.2.2.2.2 hin ty0 hty hnm E.1.2.2.2.1 E.2.1 hw.1 hw.2.1 hw.2.2.1 q0 hq hcl k hk (E.1.2.2.2.2 _ hl) (fun x h => by rw [← hs]; exact h) hfin hin2 hdecl (hty k hk) hn hfit hlen hdg (fun H1 locs1 hP hD hS => ?_)
  rw [hfs] at hP hD
  exact kk (va_up f a (.inr (ci, fs'))) H1 locs1 (up_at hc.1) (fun b hb => va_up_ne _ _ hb) (k_upd hw hc hq hP hD hS (fun _ h => h))
/-- making -/
theorem k_mk {a : Nat} {x y : va_E} (hw : WW D A H0 L f H locs) {H1 : Heap} (hP : va_P D vwCl (va_pl L f ++ [(a, x)]) H1) (hD : va_D A (va_pl L f ++ [(a, x)])) (hS : va_S A H0 H1 locs) (hxy : ∀ Hq : Heap, va_at D vwCl (a, x) Hq → va_at D vwCl (a, y) Hq) : a ∉ L ∧ WW D A H0 (L ++ [a]) (va_up f a y) H1 locs := by
  have ha : a ∉ L := va_pl_fresh2 (X := []) hD
  refine ⟨ha, ?_, ?_, hS, hw.2.2.2⟩
  · rw [← va_pl_push ha]
    refine va_P.app (fun k q hk => ?_) (fun k q hk => ?_)
    · exact hP k q (by rw [List.getElem?_append_left (List.getElem?_eq_some_iff.mp hk).1]; exact hk)
    · have hk0 : k = 0 := by
        have := (List.getElem?_eq_some_iff.mp hk).1
        simp at this
        exact this
      subst hk0
      obtain rfl := Option.some.inj hk
      refine hxy H1 (hP (va_pl L f).length (a, x) ?_)
      simp
  · rw [← va_pl_push ha]
    refine ⟨fun i j p q hi hj hpq => ?_, fun k q hk => ?_⟩
    · have conv : ∀ (i : Nat) (p : Nat × va_E), (va_pl L f ++ [(a, y)])[i]? = some p → ∃ p', (va_pl L f ++ [(a, x)])[i]? = some p' ∧ p'.1 = p.1 := by
        intro i p hi
        by_cases hil : i < (va_pl L f).length
        · rw [List.getElem?_append_left hil] at hi
          exact ⟨p, by rw [List.getElem?_append_left hil]; exact hi, rfl⟩
        · rw [List.getElem?_append_right (by omega)] at hi
          have hk0 : i - (va_pl L f).length = 0 := by
            have := (List.getElem?_eq_some_iff.mp hi).1
            simp at this
            exact this
          rw [hk0] at hi
          obtain rfl := Option.some.inj hi
          exact ⟨(a, x), by rw [List.getElem?_append_right (by omega), hk0]; rfl, rfl⟩
      obtain ⟨p', hp', e1⟩ := conv i p hi
      obtain ⟨q', hq', e2⟩ := conv j q hj
      exact hD.1 i j p' q' hp' hq' (by rw [e1, e2, hpq])
    · by_cases hil : k < (va_pl L f).length
      · rw [List.getElem?_append_left hil] at hk
        exact hw.2.1.2 k q hk
      · rw [List.getElem?_append_right (by omega)] at hk
        have hk0 : k - (va_pl L f).length = 0 := by
          have := (List.getElem?_eq_some_iff.mp hk).1
          simp at this
          exact this
        rw [hk0] at hk
        obtain rfl := Option.some.inj hk
        have h9 := hD.2 (va_pl L f).length (a, x) (by simp)
        exact h9
theorem mem_snoc {L : List Nat} {a : Nat} : a ∈ L ++ [a] := List.mem_append_right _ (List.mem_singleton.mpr rfl)
theorem sub_snoc {L : List Nat} {a : Nat} : ∀ b ∈ L, b ∈ L ++ [a] := fun _ h => List.mem_append_left _ h
theorem k_new {ci N : Nat} {C : String} {T : u_T} {ty0 : Nat → FieldType} (E : EE p s m args c cc nL own D cy) (hin : ∀ w ∈ u_ws C T N, w ∈ wsL_law) (hcl : vwCl[ci]? = some (C, T, N)) (hty : ∀ k, k < N → parseFieldDescriptor (T k).2.2.1 = some (ty0 k)) {index : Nat} (h1 : Cond.classLink own index C ∈ wsL_law) (h2 : Cond.instantiable C N ∈ wsL_law) (h3 : Cond.initialized C ∈ wsL_law) (hw : WW D A H0 L f H locs) (fs : List Value) (hfs : ∀ j, j < N → defaultValue (ty0 j) = vp_V fs j) (hcells : cells + 1 ≤ R.cells) (hslots : slots + N ≤ R.slots) (hdg : decode cc pc = .ok (.new index, 3))
    (kk : ∀ (q : Nat) (f1 : Nat → va_E) (H1 : Heap), q ∉ L → cel (L ++ [q]) f1 q (.inr (ci, fs)) → (∀ b, b ≠ q → f1 b = f b) → WW D A H0 (L ++ [q]) f1 H1 locs → W p l e R s m args below meth c H1 locs (cells + 1) (slots + N) Q (F0 m (pc + 3) ls (.ref q :: rest))) : W p l e R s m args below meth c H locs cells slots Q (F0 m pc ls rest) := by
  refine va_new E.1.1 E.1.2.1 E.1.2.2.2.2 hin ty0 hty E.1.2.2.2.1 (E.1.2.2.2.2 _ h1) (E.1.2.2.2.2 _ h2) (E.1.2.2.2.2 _ h3) E.2.1 hw.1 hw.2.1 hw.2.2.1 hw.2.2.2 hcl hfs hcells hslots hdg (fun q H1 hP hD hS => ?_)
  obtain ⟨hq, hw1⟩ := k_mk hw hP hD hS (fun _ h => h)
  exact kk q _ H1 hq (up_at mem_snoc) (fun b hb => va_up_ne _ _ hb) hw1
theorem KK.arr {U : State} (hK : KK D cy U) {cA : ClassId} {ty : FieldType} (t0 : Nat) (ht : (tyz cy)[t0]? = some (cA, ty)) {c2 : ClassId} (h2 : va_RA U c2 ty) : c2 = cA := by
  have h1 := (hK.1.2 t0 _ ht).2
  cases ty with
  | object C =>
    obtain ⟨k1, m1, a1, a2, a3, a4⟩ := h1
    obtain ⟨k2, m2, b1, b2, b3, b4⟩ := h2
    exact Option.some.inj (b4.symm.trans a4)
  | _ => exact Option.some.inj ((show U.vm.findClass _ = some c2 from h2).symm.trans (show U.vm.findClass _ = some cA from h1))
theorem k_newa (E : EE p s m args c cc nL own D cy) {atype : ArrayType} {ty : FieldType} (hty : newarray.typeOf atype = ty) (harr : Cond.arrayClass (newarray.typeOf atype) ∈ wsL_law) (t0 : Nat) {cA : ClassId} (ht : (tyz cy)[t0]? = some (cA, ty)) (hw : WW D A H0 L f H locs) {n : Nat} (x : vp_A) (hx : ∀ cB : ClassId, vp_cell cB x = arrV cB n (fun _ => defaultValue ty)) (hn : n < 2147483648) (hbytes : n * componentBytes ty ≤ 536870912) (hcells : cells + 1 ≤ R.cells) (hslots : slots + n ≤ R.slots) (hdg : decode cc pc = .ok (.newarray atype, 2))
    (kk : ∀ (q : Nat) (f1 : Nat → va_E) (H1 : Heap), q ∉ L → cel (L ++ [q]) f1 q (.inl (cA, x)) → (∀ b, b ≠ q → f1 b = f b) → WW D A H0 (L ++ [q]) f1 H1 locs → W p l e R s m args below meth c H1 locs (cells + 1) (slots + n) Q (F0 m (pc + 2) ls (.ref q :: rest))) : W p l e R s m args below meth c H locs cells slots Q (F0 m pc ls (.int (nI n) :: rest)) := by
  refine va_newa (atype := atype) E.1.1 E.1.2.1 (E.1.2.2.2.2 _ harr) hty E.2.1 hw.1 hw.2.1 hw.2.2.1 hw.2.2.2 hx (nI_pos hn) (nI_clamp hn) hbytes hcells hslots hdg (fun q cB H1 hK hP hD hS => ?_)
  have e1 : cB = cA := E.2.arr t0 ht (hK.2 5 (cB, ty) rfl).2
  subst e1
  obtain ⟨hq, hw1⟩ := k_mk hw hP hD hS (fun _ h => h)
  exact kk q _ H1 hq (up_at mem_snoc) (fun b hb => va_up_ne _ _ hb) hw1
theorem k_newq (E : EE p s m args c cc nL own D cy) {C : String} {index : Nat} (h1 : Cond.classLink own index C ∈ wsL_law) (hao : va_AO C s) (t0 : Nat) {cA : ClassId} (ht : (tyz cy)[t0]? = some (cA, .object C)) (hw : WW D A H0 L f H locs) {n : Nat} (hn : n < 2147483648) (hbytes : n * 4 ≤ 536870912) (hcells : cells + 1 ≤ R.cells) (hslots : slots + n ≤ R.slots) (hdg : decode cc pc = .ok (.anewarray index, 3))
    (kk : ∀ (q : Nat) (f1 : Nat → va_E) (H1 : Heap), q ∉ L → cel (L ++ [q]) f1 q (.inl (cA, n, .inr (.inr (.inr (.inr (fun _ => none)))))) → (∀ b, b ≠ q → f1 b = f b) → WW D A H0 (L ++ [q]) f1 H1 locs → W p l e R s m args below meth c H1 locs (cells + 1) (slots + n) Q (F0 m (pc + 3) ls (.ref q :: rest))) : W p l e R s m args below meth c H locs cells slots Q (F0 m pc ls (.int (nI n) :: rest)) := by
  refine va_newq E.1.1 E.1.2.1 E.1.2.2.2.1 (E.1.2.2.2.2 _ h1) hao E.2.1 hw.1 hw.2.1 hw.2.2.1 hw.2.2.2 (nI_pos hn) (nI_clamp hn) hbytes hcells hslots hdg (fun q cB H1 hK hP hD hS => ?_)
  have e1 : cB = cA := E.2.arr t0 ht (hK.2 5 (cB, .object C) rfl).2
  subst e1
  obtain ⟨hq, hw1⟩ := k_mk hw hP hD hS (fun _ h => h)
  exact kk q _ H1 hq (up_at mem_snoc) (fun b hb => va_up_ne _ _ hb) hw1
/-- calls -/
theorem pw_pre {As : List Value} (hK : KK D cy s) (hw : WW D A H0 L f H locs) : PreS s H (va_Pc As (PW D cy L f H.size)) As := by
  refine ⟨fun a U g mk q => ?_, fun U hU hW => ⟨rfl, by rw [hU], by rw [hU]; exact hw.1, hK.warm hW, hw.2.1.weaken (fun _ _ _ _ => trivial)⟩⟩
  obtain ⟨q0, q1, qP, qK, qD⟩ := q
  exact ⟨q0, q1, qP, KK.same (s := U) (U := U.calling g mk a) rfl qK, qD⟩
theorem pw_preV {As : List Value} {b ci : Nat} {q : vw_C} {fs : List Value} (hK : KK D cy s) (hw : WW D A H0 L f H locs) (hc : cel L f b (.inr (ci, fs))) (hcl : vwCl[ci]? = some q) : PreV s H q.1 b (va_Pc (.ref b :: As) (PW D cy L f H.size)) As := by
  obtain ⟨h1, h2⟩ := pw_pre (As := .ref b :: As) hK hw
  obtain ⟨q0, hq⟩ := hc.at
  exact ⟨h1, va_recv hK.1 hw.1 hcl hq, h2⟩
theorem k_ri {a : Array Value} {st0 : List Value} {v : Int32} (hr : va_Run p l e R s m args below meth c H locs cells slots 0 0 (F0 m pc ls st0) rest (vp_Si (fun r => r = v) a) (fun _ => False)) (kk : W p l e R s m args below meth c H locs cells slots Q (F0 m (pc + 3) ls (.int v :: rest))) : W p l e R s m args below meth c H locs cells slots Q (F0 m pc ls st0) := by
  intro T hT X
  obtain ⟨v1, st₀, t, T', L1, h0, X', hL, e1, e2, ⟨r, hv, hp, hh⟩, st⟩ := hr T hT X
  cases hv
  subst hp
  obtain ⟨t2, a1, b1⟩ := kk T' (by rw [e1, hh, h0]) (Stand.forget X' (fun q h => (hL q h).elim))
  exact ⟨t2, st t2 a1, b1⟩
theorem k_rl {a : Array Value} {st0 : List Value} {v : Int64} (hr : va_Run p l e R s m args below meth c H locs cells slots 0 0 (F0 m pc ls st0) rest (vp_Sl (fun r => r = v) a) (fun _ => False)) (kk : W p l e R s m args below meth c H locs cells slots Q (F0 m (pc + 3) ls (.long v :: rest))) : W p l e R s m args below meth c H locs cells slots Q (F0 m pc ls st0) := by
  intro T hT X
  obtain ⟨v1, st₀, t, T', L1, h0, X', hL, e1, e2, ⟨r, hv, hp, hh⟩, st⟩ := hr T hT X
  cases hv
  subst hp
  obtain ⟨t2, a1, b1⟩ := kk T' (by rw [e1, hh, h0]) (Stand.forget X' (fun q h => (hL q h).elim))
  exact ⟨t2, st t2 a1, b1⟩
theorem k_mv {a : Array Value} {st0 : List Value} {mc ms : Nat} {post : List Nat × (Nat → va_E) → Prop} (hw : WW D A H0 L f H locs) (hr : va_Run p l e R s m args below meth c H locs cells slots mc ms (F0 m pc ls st0) rest (va_Qv post (PB D (AW L H.size)) (AW L H.size) a) (AW L H.size))
    (kk : ∀ (L1 : List Nat) (f1 : Nat → va_E) (H1 : Heap) (locs1 : List Loc), post (L1, f1) → WW D A H0 L1 f1 H1 locs1 → W p l e R s m args below meth c H1 locs1 (cells + mc) (slots + ms) Q (F0 m (pc + 3) ls rest)) : W p l e R s m args below meth c H locs cells slots Q (F0 m pc ls st0) :=
  va_callv hr hw.2.2.1 (fun q _ h => hw.A q h) hw.A (fun u t H1 locs1 ht _ hp hB _ _ hS => kk u.1 u.2 H1 locs1 hp ⟨by rw [← ht]; exact hB.1, hB.2.weaken (fun k q _ h => hw.A _ h), hS, hw.2.2.2⟩)
theorem k_mi {a : Array Value} {st0 : List Value} {mc ms : Nat} {post : Int32 → List Nat × (Nat → va_E) → Prop} (hw : WW D A H0 L f H locs) (hr : va_Run p l e R s m args below meth c H locs cells slots mc ms (F0 m pc ls st0) rest (va_Qi post (PB D (AW L H.size)) (AW L H.size) a) (AW L H.size))
    (kk : ∀ (r : Int32) (L1 : List Nat) (f1 : Nat → va_E) (H1 : Heap) (locs1 : List Loc), post r (L1, f1) → WW D A H0 L1 f1 H1 locs1 → W p l e R s m args below meth c H1 locs1 (cells + mc) (slots + ms) Q (F0 m (pc + 3) ls (.int r :: rest))) : W p l e R s m args below meth c H locs cells slots Q (F0 m pc ls st0) :=
  va_calli hr hw.2.2.1 (fun q _ h => hw.A q h) hw.A (fun r u t H1 locs1 ht _ hp hB _ _ hS => kk r u.1 u.2 H1 locs1 hp ⟨by rw [← ht]; exact hB.1, hB.2.weaken (fun k q _ h => hw.A _ h), hS, hw.2.2.2⟩)
/-- an answer that is a cell or null -/
def Qq (post : Option Nat → List Nat × (Nat → va_E) → Prop) (B : List Nat × (Nat → va_E) → State → Prop) (A : Nat → Prop) : Array Value → State → Outcome → State → Prop := va_Qq post B A
theorem k_mq {a : Array Value} {st0 : List Value} {mc ms : Nat} {post : Option Nat → List Nat × (Nat → va_E) → Prop} (hw : WW D A H0 L f H locs) (hr : va_Run p l e R s m args below meth c H locs cells slots mc ms (F0 m pc ls st0) rest (va_Qq post (PB D (AW L H.size)) (AW L H.size) a) (AW L H.size))
    (kk : ∀ (r : Option Nat) (L1 : List Nat) (f1 : Nat → va_E) (H1 : Heap) (locs1 : List Loc), post r (L1, f1) → WW D A H0 L1 f1 H1 locs1 → W p l e R s m args below meth c H1 locs1 (cells + mc) (slots + ms) Q (F0 m (pc + 3) ls (va_rf r :: rest))) : W p l e R s m args below meth c H locs cells slots Q (F0 m pc ls st0) := by
  intro T hT X
  obtain ⟨v, st₀, t, T', L2, h0, X', hL, e1, e2, ⟨⟨r, u, hv, hp, hb⟩, hz, hk⟩, st⟩ := hr T hT X
  cases hv
  rw [h0] at hz hk
  have hS := hw.2.2.1
  obtain ⟨t2, a1, b1⟩ := kk r u.1 u.2 T'.heap (locs ++ L2) hp ⟨by rw [e1]; exact hb.1, hb.2.weaken (fun k q _ h => hw.A _ h), ⟨Nat.le_trans hS.1 (by rw [e1]; exact hz), fun q h1 h2 => by rw [e1, hk q (Nat.lt_of_lt_of_le h1 hS.1) (fun z => h2 (hw.A q z))]; exact hS.2.1 q h1 h2, fun q hq => by
      rcases List.mem_append.mp hq with h | h
      · exact hS.2.2 q h
      · exact hw.A _ (hL q h)⟩, hw.2.2.2⟩ T' rfl X'
  exact ⟨t2, st t2 a1, b1⟩
/-- ends -/
theorem k_iret {v : Int32} {post : Int32 → Prop} (E : EE p s m args c cc nL own D cy) {Q0 : State → Prop} (hQ : Q0 = MQ below (vp_Si post) args s 0 0 (fun _ => False)) (hlk : meth.locks = false) (hr : meth.sig.returnType = some .int) (hp : post v) (hdg : decode cc pc = .ok (.ireturn, 1)) : W p l e R s m args below meth c s.heap [] 0 0 Q0 (F0 m pc ls [.int v]) := by
  rw [hQ]
  exact W.iret E.1.1 E.1.2.1 hr (fun t ht _ => ⟨v, rfl, hp, ht⟩) (fun q h => by cases h) hdg hlk
theorem k_zret {v : Bool} {post : Int32 → Prop} (E : EE p s m args c cc nL own D cy) {Q0 : State → Prop} (hQ : Q0 = MQ below (vp_Si post) args s 0 0 (fun _ => False)) (hlk : meth.locks = false) (hr : meth.sig.returnType = some .boolean) (hp : post (b2i v)) (hdg : decode cc pc = .ok (.ireturn, 1)) : W p l e R s m args below meth c s.heap [] 0 0 Q0 (F0 m pc ls [.int (b2i v)]) := by
  rw [hQ]
  exact W.zret E.1.1 E.1.2.1 hr (by cases v <;> decide +kernel) (fun t ht _ => ⟨b2i v, rfl, hp, ht⟩) (fun q h => by cases h) hdg hlk
theorem k_lret {v : Int64} {post : Int64 → Prop} (E : EE p s m args c cc nL own D cy) {Q0 : State → Prop} (hQ : Q0 = MQ below (vp_Sl post) args s 0 0 (fun _ => False)) (hlk : meth.locks = false) (hr : meth.sig.returnType = some .long) (hp : post v) (hdg : decode cc pc = .ok (.lreturn, 1)) : W p l e R s m args below meth c s.heap [] 0 0 Q0 (F0 m pc ls [.long v]) := by
  rw [hQ]
  exact W.lret E.1.1 E.1.2.1 hr (fun t ht _ => ⟨v, rfl, hp, ht⟩) (fun q h => by cases h) hdg hlk
theorem k_mvret {A : Nat → Prop} {mc ms : Nat} {post : List Nat × (Nat → va_E) → Prop} (E : EE p s m args c cc nL own D cy) {Q0 : State → Prop} (hQ : Q0 = MQ below (va_Qv post (PB D A) A) args s mc ms A) (hlk : meth.locks = false) (hr : meth.sig.returnType = none) (hw : WW D A s.heap L f H locs) (hc : cells ≤ mc) (hs : slots ≤ ms) (hp : post (L, f)) (hdg : decode cc pc = .ok (.return_, 1)) : W p l e R s m args below meth c H locs cells slots Q0 (F0 m pc ls []) := by
  rw [hQ]
  exact W.widen hc hs (W.vret E.1.1 E.1.2.1 hr (fun t ht _ => ⟨⟨(L, f), rfl, hp, by rw [ht]; exact hw.1, hw.2.1⟩, hw.2.2.1.F ht⟩) hw.2.2.1.2.2 hdg hlk)
theorem k_miret {A : Nat → Prop} {mc ms : Nat} {v : Int32} {post : Int32 → List Nat × (Nat → va_E) → Prop} (E : EE p s m args c cc nL own D cy) {Q0 : State → Prop} (hQ : Q0 = MQ below (va_Qi post (PB D A) A) args s mc ms A) (hlk : meth.locks = false) (hr : meth.sig.returnType = some .int) (hw : WW D A s.heap L f H locs) (hc : cells ≤ mc) (hs : slots ≤ ms) (hp : post v (L, f)) (hdg : decode cc pc = .ok (.ireturn, 1)) : W p l e R s m args below meth c H locs cells slots Q0 (F0 m pc ls [.int v]) := by
  rw [hQ]
  exact W.widen hc hs (W.iret E.1.1 E.1.2.1 hr (fun t ht _ => ⟨⟨v, (L, f), rfl, hp, by rw [ht]; exact hw.1, hw.2.1⟩, hw.2.2.1.F ht⟩) hw.2.2.1.2.2 hdg hlk)
theorem k_mzret {A : Nat → Prop} {mc ms : Nat} {v : Bool} {post : Int32 → List Nat × (Nat → va_E) → Prop} (E : EE p s m args c cc nL own D cy) {Q0 : State → Prop} (hQ : Q0 = MQ below (va_Qi post (PB D A) A) args s mc ms A) (hlk : meth.locks = false) (hr : meth.sig.returnType = some .boolean) (hw : WW D A s.heap L f H locs) (hc : cells ≤ mc) (hs : slots ≤ ms) (hp : post (b2i v) (L, f)) (hdg : decode cc pc = .ok (.ireturn, 1)) : W p l e R s m args below meth c H locs cells slots Q0 (F0 m pc ls [.int (b2i v)]) := by
  rw [hQ]
  exact W.widen hc hs (W.zret E.1.1 E.1.2.1 hr (by cases v <;> decide +kernel) (fun t ht _ => ⟨⟨b2i v, (L, f), rfl, hp, by rw [ht]; exact hw.1, hw.2.1⟩, hw.2.2.1.F ht⟩) hw.2.2.1.2.2 hdg hlk)
theorem k_mqret {A : Nat → Prop} {mc ms : Nat} {v : Option Nat} {rt : FieldType} {post : Option Nat → List Nat × (Nat → va_E) → Prop} (E : EE p s m args c cc nL own D cy) {Q0 : State → Prop} (hQ : Q0 = MQ below (va_Qq post (PB D A) A) args s mc ms A) (hlk : meth.locks = false) (hr : meth.sig.returnType = some rt) (hrt : (∃ n, rt = .object n) ∨ ∃ t, rt = .array t) (hw : WW D A s.heap L f H locs) (hc : cells ≤ mc) (hs : slots ≤ ms) (hp : post v (L, f)) (hdg : decode cc pc = .ok (.areturn, 1)) : W p l e R s m args below meth c H locs cells slots Q0 (F0 m pc ls [va_rf v]) := by
  rw [hQ]
  exact W.widen hc hs (W.aret E.1.1 E.1.2.1 hr hrt (by cases v; exact Or.inl rfl; exact Or.inr ⟨_, rfl⟩) (fun t ht _ => ⟨⟨v, (L, f), rfl, hp, by rw [ht]; exact hw.1, hw.2.1⟩, hw.2.2.1.F ht⟩) hw.2.2.1.2.2 hdg hlk)
/-- a method's start -/
theorem m_start {y : MethodName} {maxL : Nat} {ret : Option FieldType} {rm : Room} {As : List Value} {Qc : Array Value → State → Outcome → State → Prop} {mc ms : Nat} {free : Addr → Prop} {sz : Nat} (hy : plainName y.cls = true) (hlen : (lg_sl As).length ≤ maxL)
    (body : ∀ (p : Program) (e : Env) (R : Room) (Q : State → Prop) (s : State) (m : MethodId) (args : Array Value) (below : List Frame) (meth : Method) (c : Code) (ls : Array Slot), s.heap.size = sz → R = rm → Q = MQ below Qc args s mc ms free → EE p s m args c cc maxL y.cls D cy → meth.sig.returnType = ret → meth.locks = false → meth.name = y.name → WW D (AW L sz) s.heap L f s.heap [] → lv_has ls maxL (lv_args 0 As) → W p l e R s m args below meth c s.heap [] 0 0 Q (F0 m 0 ls [])) :
    Met l y (.code y cc maxL ret :: wsL_law) rm (va_Pc As (PW D cy L f sz)) Qc mc ms free := by
  refine Met.ofW (cc := cc) (maxL := maxL) (ret := ret) hy rfl ?_
  intro p e s m args below meth c s₁ B hml hv
  obtain ⟨rfl, hsz, hP, hK, hD0⟩ := hv
  have hts := atoms_spec (ws := .code y cc maxL ret :: wsL_law) B.pre
  rw [lg_entry_eq]
  refine body p e _ _ s m As.toArray below meth c _ hsz rfl rfl ⟨⟨B.exec, B.bytes, hml, findClass_of_methodNamed B.named, fun w hw => hts w (List.mem_cons_of_mem _ hw)⟩, hK⟩ B.returns B.notSynchronized (name_of_methodNamed B.named B.method).1 ?_ (lv_entry As (n := maxL) hlen)
  refine ⟨hP, ⟨hD0.1, fun k q hk => Or.inl (pl_mem hk)⟩, va_S.rf, fun q h => Or.inr (by rw [← hsz]; exact h)⟩
theorem gd_own {y : MethodName} {bytes : ByteArray} {maxL : Nat} {ret : Option FieldType} (h : Cond.code y bytes maxL ret ∈ wsL_law) : GoodIn wsL_law (.code y bytes maxL ret :: wsL_law) := by
  intro w hw
  rcases List.mem_cons.mp hw with rfl | hw
  · exact ⟨h, wsL_good h⟩
  · exact ⟨hw, wsL_good hw⟩
theorem gd_1 {w : Cond} {ws : List Cond} (h : w ∈ wsL_law) (hG : GoodIn wsL_law ws) : GoodIn wsL_law (w :: ws) := by
  intro v hv
  rcases List.mem_cons.mp hv with rfl | hv
  · exact ⟨h, wsL_good h⟩
  · exact hG v hv
theorem gd_V {own : String} {idx : Nat} {y : MethodName} {bytes : ByteArray} {maxL : Nat} {ret : Option FieldType} {C : String} (h1 : Cond.methodLink own idx y ∈ wsL_law) (h2 : Cond.instanceMethod y ∈ wsL_law) (h3 : Cond.selects C y y ∈ wsL_law) (h4 : Cond.initialized C ∈ wsL_law) (h5 : Cond.code y bytes maxL ret ∈ wsL_law) : GoodIn wsL_law (wsV own idx C y (.code y bytes maxL ret :: wsL_law)) := gd_1 h1 (gd_1 h2 (gd_1 h3 (gd_1 h4 (gd_own h5))))
theorem gd_S {own : String} {idx : Nat} {y : MethodName} {bytes : ByteArray} {maxL : Nat} {ret : Option FieldType} (h1 : Cond.methodLink own idx y ∈ wsL_law) (h2 : Cond.static y ∈ wsL_law) (h4 : Cond.initialized own ∈ wsL_law) (h5 : Cond.code y bytes maxL ret ∈ wsL_law) : GoodIn wsL_law (wsS own idx y (.code y bytes maxL ret :: wsL_law)) := gd_1 h1 (gd_1 h2 (gd_1 h4 (gd_own h5)))
end KT
end
section
theorem hd_X0_init : yX0_init.cls ≠ "java/lang/invoke/MethodHandle" ∧ yX0_init.cls ≠ "java/lang/invoke/VarHandle" ∧ (parseMethodDescriptor yX0_init.desc).map (fun d => d.parameters.length) = some 0 := by decide +kernel
theorem hd_X0_open : yX0_open.cls ≠ "java/lang/invoke/MethodHandle" ∧ yX0_open.cls ≠ "java/lang/invoke/VarHandle" ∧ (parseMethodDescriptor yX0_open.desc).map (fun d => d.parameters.length) = some 2 := by decide +kernel
theorem hd_X0_length : yX0_length.cls ≠ "java/lang/invoke/MethodHandle" ∧ yX0_length.cls ≠ "java/lang/invoke/VarHandle" ∧ (parseMethodDescriptor yX0_length.desc).map (fun d => d.parameters.length) = some 0 := by decide +kernel
theorem hd_X0_mark : yX0_mark.cls ≠ "java/lang/invoke/MethodHandle" ∧ yX0_mark.cls ≠ "java/lang/invoke/VarHandle" ∧ (parseMethodDescriptor yX0_mark.desc).map (fun d => d.parameters.length) = some 1 := by decide +kernel
theorem hd_X0_reduce : yX0_reduce.cls ≠ "java/lang/invoke/MethodHandle" ∧ yX0_reduce.cls ≠ "java/lang/invoke/VarHandle" ∧ (parseMethodDescriptor yX0_reduce.desc).map (fun d => d.parameters.length) = some 0 := by decide +kernel
theorem hd_X0_leastPeriod : yX0_leastPeriod.cls ≠ "java/lang/invoke/MethodHandle" ∧ yX0_leastPeriod.cls ≠ "java/lang/invoke/VarHandle" ∧ (parseMethodDescriptor yX0_leastPeriod.desc).map (fun d => d.parameters.length) = some 0 := by decide +kernel
theorem hd_X0_comesRoundBy : yX0_comesRoundBy.cls ≠ "java/lang/invoke/MethodHandle" ∧ yX0_comesRoundBy.cls ≠ "java/lang/invoke/VarHandle" ∧ (parseMethodDescriptor yX0_comesRoundBy.desc).map (fun d => d.parameters.length) = some 1 := by decide +kernel
theorem hd_X0_leastStart : yX0_leastStart.cls ≠ "java/lang/invoke/MethodHandle" ∧ yX0_leastStart.cls ≠ "java/lang/invoke/VarHandle" ∧ (parseMethodDescriptor yX0_leastStart.desc).map (fun d => d.parameters.length) = some 0 := by decide +kernel
theorem hd_X0_clearBehind : yX0_clearBehind.cls ≠ "java/lang/invoke/MethodHandle" ∧ yX0_clearBehind.cls ≠ "java/lang/invoke/VarHandle" ∧ (parseMethodDescriptor yX0_clearBehind.desc).map (fun d => d.parameters.length) = some 0 := by decide +kernel
theorem hd_X1_init : yX1_init.cls ≠ "java/lang/invoke/MethodHandle" ∧ yX1_init.cls ≠ "java/lang/invoke/VarHandle" ∧ (parseMethodDescriptor yX1_init.desc).map (fun d => d.parameters.length) = some 0 := by decide +kernel
theorem hd_X1_keep : yX1_keep.cls ≠ "java/lang/invoke/MethodHandle" ∧ yX1_keep.cls ≠ "java/lang/invoke/VarHandle" ∧ (parseMethodDescriptor yX1_keep.desc).map (fun d => d.parameters.length) = some 2 := by decide +kernel
theorem hd_X1_giveBack : yX1_giveBack.cls ≠ "java/lang/invoke/MethodHandle" ∧ yX1_giveBack.cls ≠ "java/lang/invoke/VarHandle" ∧ (parseMethodDescriptor yX1_giveBack.desc).map (fun d => d.parameters.length) = some 1 := by decide +kernel
theorem hd_X1_copySets : yX1_copySets.cls ≠ "java/lang/invoke/MethodHandle" ∧ yX1_copySets.cls ≠ "java/lang/invoke/VarHandle" ∧ (parseMethodDescriptor yX1_copySets.desc).map (fun d => d.parameters.length) = some 2 := by decide +kernel
theorem hd_X2_init : yX2_init.cls ≠ "java/lang/invoke/MethodHandle" ∧ yX2_init.cls ≠ "java/lang/invoke/VarHandle" ∧ (parseMethodDescriptor yX2_init.desc).map (fun d => d.parameters.length) = some 4 := by decide +kernel
theorem hd_X2_after : yX2_after.cls ≠ "java/lang/invoke/MethodHandle" ∧ yX2_after.cls ≠ "java/lang/invoke/VarHandle" ∧ (parseMethodDescriptor yX2_after.desc).map (fun d => d.parameters.length) = some 2 := by decide +kernel
theorem hd_X2_isGood : yX2_isGood.cls ≠ "java/lang/invoke/MethodHandle" ∧ yX2_isGood.cls ≠ "java/lang/invoke/VarHandle" ∧ (parseMethodDescriptor yX2_isGood.desc).map (fun d => d.parameters.length) = some 1 := by decide +kernel
theorem hd_X2_read : yX2_read.cls ≠ "java/lang/invoke/MethodHandle" ∧ yX2_read.cls ≠ "java/lang/invoke/VarHandle" ∧ (parseMethodDescriptor yX2_read.desc).map (fun d => d.parameters.length) = some 2 := by decide +kernel
theorem hd_X2_steps : yX2_steps.cls ≠ "java/lang/invoke/MethodHandle" ∧ yX2_steps.cls ≠ "java/lang/invoke/VarHandle" ∧ (parseMethodDescriptor yX2_steps.desc).map (fun d => d.parameters.length) = some 2 := by decide +kernel
theorem hd_X2_afterAnyOf : yX2_afterAnyOf.cls ≠ "java/lang/invoke/MethodHandle" ∧ yX2_afterAnyOf.cls ≠ "java/lang/invoke/VarHandle" ∧ (parseMethodDescriptor yX2_afterAnyOf.desc).map (fun d => d.parameters.length) = some 1 := by decide +kernel
theorem hd_X3_init : yX3_init.cls ≠ "java/lang/invoke/MethodHandle" ∧ yX3_init.cls ≠ "java/lang/invoke/VarHandle" ∧ (parseMethodDescriptor yX3_init.desc).map (fun d => d.parameters.length) = some 2 := by decide +kernel
theorem hd_X3_holds : yX3_holds.cls ≠ "java/lang/invoke/MethodHandle" ∧ yX3_holds.cls ≠ "java/lang/invoke/VarHandle" ∧ (parseMethodDescriptor yX3_holds.desc).map (fun d => d.parameters.length) = some 1 := by decide +kernel
theorem hd_X3_at : yX3_at.cls ≠ "java/lang/invoke/MethodHandle" ∧ yX3_at.cls ≠ "java/lang/invoke/VarHandle" ∧ (parseMethodDescriptor yX3_at.desc).map (fun d => d.parameters.length) = some 1 := by decide +kernel
theorem hd_X3_placeAfter : yX3_placeAfter.cls ≠ "java/lang/invoke/MethodHandle" ∧ yX3_placeAfter.cls ≠ "java/lang/invoke/VarHandle" ∧ (parseMethodDescriptor yX3_placeAfter.desc).map (fun d => d.parameters.length) = some 1 := by decide +kernel
theorem hd_X3_leastFrom : yX3_leastFrom.cls ≠ "java/lang/invoke/MethodHandle" ∧ yX3_leastFrom.cls ≠ "java/lang/invoke/VarHandle" ∧ (parseMethodDescriptor yX3_leastFrom.desc).map (fun d => d.parameters.length) = some 1 := by decide +kernel
theorem hd_X3_numbersBefore : yX3_numbersBefore.cls ≠ "java/lang/invoke/MethodHandle" ∧ yX3_numbersBefore.cls ≠ "java/lang/invoke/VarHandle" ∧ (parseMethodDescriptor yX3_numbersBefore.desc).map (fun d => d.parameters.length) = some 1 := by decide +kernel
theorem hd_X3_placesBefore : yX3_placesBefore.cls ≠ "java/lang/invoke/MethodHandle" ∧ yX3_placesBefore.cls ≠ "java/lang/invoke/VarHandle" ∧ (parseMethodDescriptor yX3_placesBefore.desc).map (fun d => d.parameters.length) = some 1 := by decide +kernel
theorem hd_X3_sameAs : yX3_sameAs.cls ≠ "java/lang/invoke/MethodHandle" ∧ yX3_sameAs.cls ≠ "java/lang/invoke/VarHandle" ∧ (parseMethodDescriptor yX3_sameAs.desc).map (fun d => d.parameters.length) = some 1 := by decide +kernel
theorem hd_X4_init : yX4_init.cls ≠ "java/lang/invoke/MethodHandle" ∧ yX4_init.cls ≠ "java/lang/invoke/VarHandle" ∧ (parseMethodDescriptor yX4_init.desc).map (fun d => d.parameters.length) = some 0 := by decide +kernel
theorem hd_X4_trace : yX4_trace.cls ≠ "java/lang/invoke/MethodHandle" ∧ yX4_trace.cls ≠ "java/lang/invoke/VarHandle" ∧ (parseMethodDescriptor yX4_trace.desc).map (fun d => d.parameters.length) = some 2 := by decide +kernel
theorem hd_X4_machine : yX4_machine.cls ≠ "java/lang/invoke/MethodHandle" ∧ yX4_machine.cls ≠ "java/lang/invoke/VarHandle" ∧ (parseMethodDescriptor yX4_machine.desc).map (fun d => d.parameters.length) = some 0 := by decide +kernel
theorem hd_X4_writeRest : yX4_writeRest.cls ≠ "java/lang/invoke/MethodHandle" ∧ yX4_writeRest.cls ≠ "java/lang/invoke/VarHandle" ∧ (parseMethodDescriptor yX4_writeRest.desc).map (fun d => d.parameters.length) = some 2 := by decide +kernel
theorem hd_X4_metAs : yX4_metAs.cls ≠ "java/lang/invoke/MethodHandle" ∧ yX4_metAs.cls ≠ "java/lang/invoke/VarHandle" ∧ (parseMethodDescriptor yX4_metAs.desc).map (fun d => d.parameters.length) = some 0 := by decide +kernel
theorem hd_X4_sameRows : yX4_sameRows.cls ≠ "java/lang/invoke/MethodHandle" ∧ yX4_sameRows.cls ≠ "java/lang/invoke/VarHandle" ∧ (parseMethodDescriptor yX4_sameRows.desc).map (fun d => d.parameters.length) = some 2 := by decide +kernel
theorem hd_X5_init : yX5_init.cls ≠ "java/lang/invoke/MethodHandle" ∧ yX5_init.cls ≠ "java/lang/invoke/VarHandle" ∧ (parseMethodDescriptor yX5_init.desc).map (fun d => d.parameters.length) = some 0 := by decide +kernel
theorem hd_X5_base : yX5_base.cls ≠ "java/lang/invoke/MethodHandle" ∧ yX5_base.cls ≠ "java/lang/invoke/VarHandle" ∧ (parseMethodDescriptor yX5_base.desc).map (fun d => d.parameters.length) = some 1 := by decide +kernel
theorem hd_X5_put : yX5_put.cls ≠ "java/lang/invoke/MethodHandle" ∧ yX5_put.cls ≠ "java/lang/invoke/VarHandle" ∧ (parseMethodDescriptor yX5_put.desc).map (fun d => d.parameters.length) = some 4 := by decide +kernel
theorem hd_X5_join : yX5_join.cls ≠ "java/lang/invoke/MethodHandle" ∧ yX5_join.cls ≠ "java/lang/invoke/VarHandle" ∧ (parseMethodDescriptor yX5_join.desc).map (fun d => d.parameters.length) = some 4 := by decide +kernel
theorem hd_X5_turn : yX5_turn.cls ≠ "java/lang/invoke/MethodHandle" ∧ yX5_turn.cls ≠ "java/lang/invoke/VarHandle" ∧ (parseMethodDescriptor yX5_turn.desc).map (fun d => d.parameters.length) = some 2 := by decide +kernel
theorem hd_X5_shift : yX5_shift.cls ≠ "java/lang/invoke/MethodHandle" ∧ yX5_shift.cls ≠ "java/lang/invoke/VarHandle" ∧ (parseMethodDescriptor yX5_shift.desc).map (fun d => d.parameters.length) = some 3 := by decide +kernel
theorem hd_X5_stretch : yX5_stretch.cls ≠ "java/lang/invoke/MethodHandle" ∧ yX5_stretch.cls ≠ "java/lang/invoke/VarHandle" ∧ (parseMethodDescriptor yX5_stretch.desc).map (fun d => d.parameters.length) = some 4 := by decide +kernel
theorem hd_X5_shrink : yX5_shrink.cls ≠ "java/lang/invoke/MethodHandle" ∧ yX5_shrink.cls ≠ "java/lang/invoke/VarHandle" ∧ (parseMethodDescriptor yX5_shrink.desc).map (fun d => d.parameters.length) = some 4 := by decide +kernel
theorem hd_X5_told : yX5_told.cls ≠ "java/lang/invoke/MethodHandle" ∧ yX5_told.cls ≠ "java/lang/invoke/VarHandle" ∧ (parseMethodDescriptor yX5_told.desc).map (fun d => d.parameters.length) = some 2 := by decide +kernel
theorem hd_X5_state : yX5_state.cls ≠ "java/lang/invoke/MethodHandle" ∧ yX5_state.cls ≠ "java/lang/invoke/VarHandle" ∧ (parseMethodDescriptor yX5_state.desc).map (fun d => d.parameters.length) = some 3 := by decide +kernel
theorem hd_X5_walk : yX5_walk.cls ≠ "java/lang/invoke/MethodHandle" ∧ yX5_walk.cls ≠ "java/lang/invoke/VarHandle" ∧ (parseMethodDescriptor yX5_walk.desc).map (fun d => d.parameters.length) = some 3 := by decide +kernel
theorem hd_X5_has : yX5_has.cls ≠ "java/lang/invoke/MethodHandle" ∧ yX5_has.cls ≠ "java/lang/invoke/VarHandle" ∧ (parseMethodDescriptor yX5_has.desc).map (fun d => d.parameters.length) = some 2 := by decide +kernel
theorem hd_X5_next : yX5_next.cls ≠ "java/lang/invoke/MethodHandle" ∧ yX5_next.cls ≠ "java/lang/invoke/VarHandle" ∧ (parseMethodDescriptor yX5_next.desc).map (fun d => d.parameters.length) = some 2 := by decide +kernel
theorem hd_X5_below : yX5_below.cls ≠ "java/lang/invoke/MethodHandle" ∧ yX5_below.cls ≠ "java/lang/invoke/VarHandle" ∧ (parseMethodDescriptor yX5_below.desc).map (fun d => d.parameters.length) = some 2 := by decide +kernel
theorem hd_X5_alike : yX5_alike.cls ≠ "java/lang/invoke/MethodHandle" ∧ yX5_alike.cls ≠ "java/lang/invoke/VarHandle" ∧ (parseMethodDescriptor yX5_alike.desc).map (fun d => d.parameters.length) = some 3 := by decide +kernel
theorem hd_X5_image : yX5_image.cls ≠ "java/lang/invoke/MethodHandle" ∧ yX5_image.cls ≠ "java/lang/invoke/VarHandle" ∧ (parseMethodDescriptor yX5_image.desc).map (fun d => d.parameters.length) = some 1 := by decide +kernel
theorem hd_X5_restore : yX5_restore.cls ≠ "java/lang/invoke/MethodHandle" ∧ yX5_restore.cls ≠ "java/lang/invoke/VarHandle" ∧ (parseMethodDescriptor yX5_restore.desc).map (fun d => d.parameters.length) = some 1 := by decide +kernel
theorem hd_X5_count : yX5_count.cls ≠ "java/lang/invoke/MethodHandle" ∧ yX5_count.cls ≠ "java/lang/invoke/VarHandle" ∧ (parseMethodDescriptor yX5_count.desc).map (fun d => d.parameters.length) = some 1 := by decide +kernel
theorem hd_X5_unknown : yX5_unknown.cls ≠ "java/lang/invoke/MethodHandle" ∧ yX5_unknown.cls ≠ "java/lang/invoke/VarHandle" ∧ (parseMethodDescriptor yX5_unknown.desc).map (fun d => d.parameters.length) = some 1 := by decide +kernel
theorem hd_X5_noImage : yX5_noImage.cls ≠ "java/lang/invoke/MethodHandle" ∧ yX5_noImage.cls ≠ "java/lang/invoke/VarHandle" ∧ (parseMethodDescriptor yX5_noImage.desc).map (fun d => d.parameters.length) = some 1 := by decide +kernel
theorem hd_X5_within : yX5_within.cls ≠ "java/lang/invoke/MethodHandle" ∧ yX5_within.cls ≠ "java/lang/invoke/VarHandle" ∧ (parseMethodDescriptor yX5_within.desc).map (fun d => d.parameters.length) = some 3 := by decide +kernel
theorem hd_X5_truth : yX5_truth.cls ≠ "java/lang/invoke/MethodHandle" ∧ yX5_truth.cls ≠ "java/lang/invoke/VarHandle" ∧ (parseMethodDescriptor yX5_truth.desc).map (fun d => d.parameters.length) = some 1 := by decide +kernel
theorem hd_X5_emptyAll : yX5_emptyAll.cls ≠ "java/lang/invoke/MethodHandle" ∧ yX5_emptyAll.cls ≠ "java/lang/invoke/VarHandle" ∧ (parseMethodDescriptor yX5_emptyAll.desc).map (fun d => d.parameters.length) = some 1 := by decide +kernel
theorem hd_X5_hold : yX5_hold.cls ≠ "java/lang/invoke/MethodHandle" ∧ yX5_hold.cls ≠ "java/lang/invoke/VarHandle" ∧ (parseMethodDescriptor yX5_hold.desc).map (fun d => d.parameters.length) = some 1 := by decide +kernel
theorem hd_X5_drafted : yX5_drafted.cls ≠ "java/lang/invoke/MethodHandle" ∧ yX5_drafted.cls ≠ "java/lang/invoke/VarHandle" ∧ (parseMethodDescriptor yX5_drafted.desc).map (fun d => d.parameters.length) = some 0 := by decide +kernel
theorem hd_X5_draftKind : yX5_draftKind.cls ≠ "java/lang/invoke/MethodHandle" ∧ yX5_draftKind.cls ≠ "java/lang/invoke/VarHandle" ∧ (parseMethodDescriptor yX5_draftKind.desc).map (fun d => d.parameters.length) = some 3 := by decide +kernel
theorem hd_X5_draftJoin : yX5_draftJoin.cls ≠ "java/lang/invoke/MethodHandle" ∧ yX5_draftJoin.cls ≠ "java/lang/invoke/VarHandle" ∧ (parseMethodDescriptor yX5_draftJoin.desc).map (fun d => d.parameters.length) = some 3 := by decide +kernel
theorem hd_X5_draftTurn : yX5_draftTurn.cls ≠ "java/lang/invoke/MethodHandle" ∧ yX5_draftTurn.cls ≠ "java/lang/invoke/VarHandle" ∧ (parseMethodDescriptor yX5_draftTurn.desc).map (fun d => d.parameters.length) = some 1 := by decide +kernel
theorem hd_X5_draftShift : yX5_draftShift.cls ≠ "java/lang/invoke/MethodHandle" ∧ yX5_draftShift.cls ≠ "java/lang/invoke/VarHandle" ∧ (parseMethodDescriptor yX5_draftShift.desc).map (fun d => d.parameters.length) = some 2 := by decide +kernel
theorem hd_X5_draftStretch : yX5_draftStretch.cls ≠ "java/lang/invoke/MethodHandle" ∧ yX5_draftStretch.cls ≠ "java/lang/invoke/VarHandle" ∧ (parseMethodDescriptor yX5_draftStretch.desc).map (fun d => d.parameters.length) = some 3 := by decide +kernel
theorem hd_X5_draftShrink : yX5_draftShrink.cls ≠ "java/lang/invoke/MethodHandle" ∧ yX5_draftShrink.cls ≠ "java/lang/invoke/VarHandle" ∧ (parseMethodDescriptor yX5_draftShrink.desc).map (fun d => d.parameters.length) = some 3 := by decide +kernel
theorem hd_X5_joined : yX5_joined.cls ≠ "java/lang/invoke/MethodHandle" ∧ yX5_joined.cls ≠ "java/lang/invoke/VarHandle" ∧ (parseMethodDescriptor yX5_joined.desc).map (fun d => d.parameters.length) = some 3 := by decide +kernel
theorem hd_X5_leastJoined : yX5_leastJoined.cls ≠ "java/lang/invoke/MethodHandle" ∧ yX5_leastJoined.cls ≠ "java/lang/invoke/VarHandle" ∧ (parseMethodDescriptor yX5_leastJoined.desc).map (fun d => d.parameters.length) = some 3 := by decide +kernel
theorem hd_X5_leastCommon : yX5_leastCommon.cls ≠ "java/lang/invoke/MethodHandle" ∧ yX5_leastCommon.cls ≠ "java/lang/invoke/VarHandle" ∧ (parseMethodDescriptor yX5_leastCommon.desc).map (fun d => d.parameters.length) = some 2 := by decide +kernel
theorem hd_X5_slotsWithNumbers : yX5_slotsWithNumbers.cls ≠ "java/lang/invoke/MethodHandle" ∧ yX5_slotsWithNumbers.cls ≠ "java/lang/invoke/VarHandle" ∧ (parseMethodDescriptor yX5_slotsWithNumbers.desc).map (fun d => d.parameters.length) = some 0 := by decide +kernel
theorem hd_X5_unlikeSets : yX5_unlikeSets.cls ≠ "java/lang/invoke/MethodHandle" ∧ yX5_unlikeSets.cls ≠ "java/lang/invoke/VarHandle" ∧ (parseMethodDescriptor yX5_unlikeSets.desc).map (fun d => d.parameters.length) = some 0 := by decide +kernel
theorem hd_X5_heldBefore : yX5_heldBefore.cls ≠ "java/lang/invoke/MethodHandle" ∧ yX5_heldBefore.cls ≠ "java/lang/invoke/VarHandle" ∧ (parseMethodDescriptor yX5_heldBefore.desc).map (fun d => d.parameters.length) = some 1 := by decide +kernel
theorem hd_X5_statesOfAll : yX5_statesOfAll.cls ≠ "java/lang/invoke/MethodHandle" ∧ yX5_statesOfAll.cls ≠ "java/lang/invoke/VarHandle" ∧ (parseMethodDescriptor yX5_statesOfAll.desc).map (fun d => d.parameters.length) = some 0 := by decide +kernel
theorem hd_X5_imagesKept : yX5_imagesKept.cls ≠ "java/lang/invoke/MethodHandle" ∧ yX5_imagesKept.cls ≠ "java/lang/invoke/VarHandle" ∧ (parseMethodDescriptor yX5_imagesKept.desc).map (fun d => d.parameters.length) = some 0 := by decide +kernel
theorem hd_X5_folded : yX5_folded.cls ≠ "java/lang/invoke/MethodHandle" ∧ yX5_folded.cls ≠ "java/lang/invoke/VarHandle" ∧ (parseMethodDescriptor yX5_folded.desc).map (fun d => d.parameters.length) = some 3 := by decide +kernel
theorem hd_X5_bit : yX5_bit.cls ≠ "java/lang/invoke/MethodHandle" ∧ yX5_bit.cls ≠ "java/lang/invoke/VarHandle" ∧ (parseMethodDescriptor yX5_bit.desc).map (fun d => d.parameters.length) = some 2 := by decide +kernel
theorem hd_X5_setBit : yX5_setBit.cls ≠ "java/lang/invoke/MethodHandle" ∧ yX5_setBit.cls ≠ "java/lang/invoke/VarHandle" ∧ (parseMethodDescriptor yX5_setBit.desc).map (fun d => d.parameters.length) = some 2 := by decide +kernel
theorem hd_X5_clearBit : yX5_clearBit.cls ≠ "java/lang/invoke/MethodHandle" ∧ yX5_clearBit.cls ≠ "java/lang/invoke/VarHandle" ∧ (parseMethodDescriptor yX5_clearBit.desc).map (fun d => d.parameters.length) = some 2 := by decide +kernel
theorem hd_X6_init : yX6_init.cls ≠ "java/lang/invoke/MethodHandle" ∧ yX6_init.cls ≠ "java/lang/invoke/VarHandle" ∧ (parseMethodDescriptor yX6_init.desc).map (fun d => d.parameters.length) = some 0 := by decide +kernel
theorem hd_X6_in : yX6_in.cls ≠ "java/lang/invoke/MethodHandle" ∧ yX6_in.cls ≠ "java/lang/invoke/VarHandle" ∧ (parseMethodDescriptor yX6_in.desc).map (fun d => d.parameters.length) = some 3 := by decide +kernel
theorem hd_X6_isSlot : yX6_isSlot.cls ≠ "java/lang/invoke/MethodHandle" ∧ yX6_isSlot.cls ≠ "java/lang/invoke/VarHandle" ∧ (parseMethodDescriptor yX6_isSlot.desc).map (fun d => d.parameters.length) = some 1 := by decide +kernel
theorem hd_X6_isIn : yX6_isIn.cls ≠ "java/lang/invoke/MethodHandle" ∧ yX6_isIn.cls ≠ "java/lang/invoke/VarHandle" ∧ (parseMethodDescriptor yX6_isIn.desc).map (fun d => d.parameters.length) = some 2 := by decide +kernel
theorem hd_X6_copy : yX6_copy.cls ≠ "java/lang/invoke/MethodHandle" ∧ yX6_copy.cls ≠ "java/lang/invoke/VarHandle" ∧ (parseMethodDescriptor yX6_copy.desc).map (fun d => d.parameters.length) = some 2 := by decide +kernel
theorem hd_X6_areSame : yX6_areSame.cls ≠ "java/lang/invoke/MethodHandle" ∧ yX6_areSame.cls ≠ "java/lang/invoke/VarHandle" ∧ (parseMethodDescriptor yX6_areSame.desc).map (fun d => d.parameters.length) = some 2 := by decide +kernel
theorem hd_X6_inRow : yX6_inRow.cls ≠ "java/lang/invoke/MethodHandle" ∧ yX6_inRow.cls ≠ "java/lang/invoke/VarHandle" ∧ (parseMethodDescriptor yX6_inRow.desc).map (fun d => d.parameters.length) = some 1 := by decide +kernel
theorem hd_X6_shorten : yX6_shorten.cls ≠ "java/lang/invoke/MethodHandle" ∧ yX6_shorten.cls ≠ "java/lang/invoke/VarHandle" ∧ (parseMethodDescriptor yX6_shorten.desc).map (fun d => d.parameters.length) = some 0 := by decide +kernel
theorem hd_X6_comesRound : yX6_comesRound.cls ≠ "java/lang/invoke/MethodHandle" ∧ yX6_comesRound.cls ≠ "java/lang/invoke/VarHandle" ∧ (parseMethodDescriptor yX6_comesRound.desc).map (fun d => d.parameters.length) = some 1 := by decide +kernel
theorem hd_X6_isKept : yX6_isKept.cls ≠ "java/lang/invoke/MethodHandle" ∧ yX6_isKept.cls ≠ "java/lang/invoke/VarHandle" ∧ (parseMethodDescriptor yX6_isKept.desc).map (fun d => d.parameters.length) = some 1 := by decide +kernel
theorem hd_X6_layRest : yX6_layRest.cls ≠ "java/lang/invoke/MethodHandle" ∧ yX6_layRest.cls ≠ "java/lang/invoke/VarHandle" ∧ (parseMethodDescriptor yX6_layRest.desc).map (fun d => d.parameters.length) = some 3 := by decide +kernel
theorem hd_X6_layMachine : yX6_layMachine.cls ≠ "java/lang/invoke/MethodHandle" ∧ yX6_layMachine.cls ≠ "java/lang/invoke/VarHandle" ∧ (parseMethodDescriptor yX6_layMachine.desc).map (fun d => d.parameters.length) = some 1 := by decide +kernel
theorem hd_X6_keep : yX6_keep.cls ≠ "java/lang/invoke/MethodHandle" ∧ yX6_keep.cls ≠ "java/lang/invoke/VarHandle" ∧ (parseMethodDescriptor yX6_keep.desc).map (fun d => d.parameters.length) = some 1 := by decide +kernel
theorem hd_X6_base : yX6_base.cls ≠ "java/lang/invoke/MethodHandle" ∧ yX6_base.cls ≠ "java/lang/invoke/VarHandle" ∧ (parseMethodDescriptor yX6_base.desc).map (fun d => d.parameters.length) = some 1 := by decide +kernel
theorem hd_X6_put : yX6_put.cls ≠ "java/lang/invoke/MethodHandle" ∧ yX6_put.cls ≠ "java/lang/invoke/VarHandle" ∧ (parseMethodDescriptor yX6_put.desc).map (fun d => d.parameters.length) = some 4 := by decide +kernel
theorem hd_X6_common : yX6_common.cls ≠ "java/lang/invoke/MethodHandle" ∧ yX6_common.cls ≠ "java/lang/invoke/VarHandle" ∧ (parseMethodDescriptor yX6_common.desc).map (fun d => d.parameters.length) = some 2 := by decide +kernel
theorem hd_X6_together : yX6_together.cls ≠ "java/lang/invoke/MethodHandle" ∧ yX6_together.cls ≠ "java/lang/invoke/VarHandle" ∧ (parseMethodDescriptor yX6_together.desc).map (fun d => d.parameters.length) = some 2 := by decide +kernel
theorem hd_X6_later : yX6_later.cls ≠ "java/lang/invoke/MethodHandle" ∧ yX6_later.cls ≠ "java/lang/invoke/VarHandle" ∧ (parseMethodDescriptor yX6_later.desc).map (fun d => d.parameters.length) = some 2 := by decide +kernel
theorem hd_X6_join : yX6_join.cls ≠ "java/lang/invoke/MethodHandle" ∧ yX6_join.cls ≠ "java/lang/invoke/VarHandle" ∧ (parseMethodDescriptor yX6_join.desc).map (fun d => d.parameters.length) = some 4 := by decide +kernel
theorem hd_X6_turn : yX6_turn.cls ≠ "java/lang/invoke/MethodHandle" ∧ yX6_turn.cls ≠ "java/lang/invoke/VarHandle" ∧ (parseMethodDescriptor yX6_turn.desc).map (fun d => d.parameters.length) = some 2 := by decide +kernel
theorem hd_X6_shift : yX6_shift.cls ≠ "java/lang/invoke/MethodHandle" ∧ yX6_shift.cls ≠ "java/lang/invoke/VarHandle" ∧ (parseMethodDescriptor yX6_shift.desc).map (fun d => d.parameters.length) = some 3 := by decide +kernel
theorem hd_X6_stretch : yX6_stretch.cls ≠ "java/lang/invoke/MethodHandle" ∧ yX6_stretch.cls ≠ "java/lang/invoke/VarHandle" ∧ (parseMethodDescriptor yX6_stretch.desc).map (fun d => d.parameters.length) = some 4 := by decide +kernel
theorem hd_X6_shrink : yX6_shrink.cls ≠ "java/lang/invoke/MethodHandle" ∧ yX6_shrink.cls ≠ "java/lang/invoke/VarHandle" ∧ (parseMethodDescriptor yX6_shrink.desc).map (fun d => d.parameters.length) = some 4 := by decide +kernel
theorem hd_X6_countUpTo : yX6_countUpTo.cls ≠ "java/lang/invoke/MethodHandle" ∧ yX6_countUpTo.cls ≠ "java/lang/invoke/VarHandle" ∧ (parseMethodDescriptor yX6_countUpTo.desc).map (fun d => d.parameters.length) = some 3 := by decide +kernel
theorem hd_X6_isGood : yX6_isGood.cls ≠ "java/lang/invoke/MethodHandle" ∧ yX6_isGood.cls ≠ "java/lang/invoke/VarHandle" ∧ (parseMethodDescriptor yX6_isGood.desc).map (fun d => d.parameters.length) = some 1 := by decide +kernel
theorem hd_X6_told : yX6_told.cls ≠ "java/lang/invoke/MethodHandle" ∧ yX6_told.cls ≠ "java/lang/invoke/VarHandle" ∧ (parseMethodDescriptor yX6_told.desc).map (fun d => d.parameters.length) = some 2 := by decide +kernel
theorem hd_X6_layFar : yX6_layFar.cls ≠ "java/lang/invoke/MethodHandle" ∧ yX6_layFar.cls ≠ "java/lang/invoke/VarHandle" ∧ (parseMethodDescriptor yX6_layFar.desc).map (fun d => d.parameters.length) = some 1 := by decide +kernel
theorem hd_X6_state : yX6_state.cls ≠ "java/lang/invoke/MethodHandle" ∧ yX6_state.cls ≠ "java/lang/invoke/VarHandle" ∧ (parseMethodDescriptor yX6_state.desc).map (fun d => d.parameters.length) = some 3 := by decide +kernel
theorem hd_X6_walk : yX6_walk.cls ≠ "java/lang/invoke/MethodHandle" ∧ yX6_walk.cls ≠ "java/lang/invoke/VarHandle" ∧ (parseMethodDescriptor yX6_walk.desc).map (fun d => d.parameters.length) = some 3 := by decide +kernel
theorem hd_X6_has : yX6_has.cls ≠ "java/lang/invoke/MethodHandle" ∧ yX6_has.cls ≠ "java/lang/invoke/VarHandle" ∧ (parseMethodDescriptor yX6_has.desc).map (fun d => d.parameters.length) = some 2 := by decide +kernel
theorem hd_X6_next : yX6_next.cls ≠ "java/lang/invoke/MethodHandle" ∧ yX6_next.cls ≠ "java/lang/invoke/VarHandle" ∧ (parseMethodDescriptor yX6_next.desc).map (fun d => d.parameters.length) = some 2 := by decide +kernel
theorem hd_X6_below : yX6_below.cls ≠ "java/lang/invoke/MethodHandle" ∧ yX6_below.cls ≠ "java/lang/invoke/VarHandle" ∧ (parseMethodDescriptor yX6_below.desc).map (fun d => d.parameters.length) = some 2 := by decide +kernel
theorem hd_X6_alike : yX6_alike.cls ≠ "java/lang/invoke/MethodHandle" ∧ yX6_alike.cls ≠ "java/lang/invoke/VarHandle" ∧ (parseMethodDescriptor yX6_alike.desc).map (fun d => d.parameters.length) = some 3 := by decide +kernel
theorem hd_X6_image : yX6_image.cls ≠ "java/lang/invoke/MethodHandle" ∧ yX6_image.cls ≠ "java/lang/invoke/VarHandle" ∧ (parseMethodDescriptor yX6_image.desc).map (fun d => d.parameters.length) = some 1 := by decide +kernel
theorem hd_X6_restore : yX6_restore.cls ≠ "java/lang/invoke/MethodHandle" ∧ yX6_restore.cls ≠ "java/lang/invoke/VarHandle" ∧ (parseMethodDescriptor yX6_restore.desc).map (fun d => d.parameters.length) = some 1 := by decide +kernel
theorem hd_X6_allStates : yX6_allStates.cls ≠ "java/lang/invoke/MethodHandle" ∧ yX6_allStates.cls ≠ "java/lang/invoke/VarHandle" ∧ (parseMethodDescriptor yX6_allStates.desc).map (fun d => d.parameters.length) = some 0 := by decide +kernel
theorem hd_X6_count : yX6_count.cls ≠ "java/lang/invoke/MethodHandle" ∧ yX6_count.cls ≠ "java/lang/invoke/VarHandle" ∧ (parseMethodDescriptor yX6_count.desc).map (fun d => d.parameters.length) = some 1 := by decide +kernel
theorem hd_J13_bitCount_95d88 : yJ13_bitCount_95d88.cls ≠ "java/lang/invoke/MethodHandle" ∧ yJ13_bitCount_95d88.cls ≠ "java/lang/invoke/VarHandle" ∧ (parseMethodDescriptor yJ13_bitCount_95d88.desc).map (fun d => d.parameters.length) = some 1 := by decide +kernel
theorem hd_J9_max_7cf53 : yJ9_max_7cf53.cls ≠ "java/lang/invoke/MethodHandle" ∧ yJ9_max_7cf53.cls ≠ "java/lang/invoke/VarHandle" ∧ (parseMethodDescriptor yJ9_max_7cf53.desc).map (fun d => d.parameters.length) = some 2 := by decide +kernel
theorem hd_J9_min_7cf53 : yJ9_min_7cf53.cls ≠ "java/lang/invoke/MethodHandle" ∧ yJ9_min_7cf53.cls ≠ "java/lang/invoke/VarHandle" ∧ (parseMethodDescriptor yJ9_min_7cf53.desc).map (fun d => d.parameters.length) = some 2 := by decide +kernel
theorem hd_J7_fill_d0a16 : yJ7_fill_d0a16.cls ≠ "java/lang/invoke/MethodHandle" ∧ yJ7_fill_d0a16.cls ≠ "java/lang/invoke/VarHandle" ∧ (parseMethodDescriptor yJ7_fill_d0a16.desc).map (fun d => d.parameters.length) = some 2 := by decide +kernel
theorem hd_J7_copyOf_59c91 : yJ7_copyOf_59c91.cls ≠ "java/lang/invoke/MethodHandle" ∧ yJ7_copyOf_59c91.cls ≠ "java/lang/invoke/VarHandle" ∧ (parseMethodDescriptor yJ7_copyOf_59c91.desc).map (fun d => d.parameters.length) = some 2 := by decide +kernel
theorem hd_J7_copyOf_c38d5 : yJ7_copyOf_c38d5.cls ≠ "java/lang/invoke/MethodHandle" ∧ yJ7_copyOf_c38d5.cls ≠ "java/lang/invoke/VarHandle" ∧ (parseMethodDescriptor yJ7_copyOf_c38d5.desc).map (fun d => d.parameters.length) = some 2 := by decide +kernel
end
section
/-! rows 195-237 of BITS.to-paste and some of COUNTS.to-paste (starting texts), then own rows on words of bits -/
theorem wb_tb (n : Nat) : (lN n).toBitVec = BitVec.ofNat 64 n := rfl
theorem wb_inj {a b : Int64} (h : a.toBitVec = b.toBitVec) : a = b := Int64.toBitVec_inj.mp h
theorem wb_tn {n : Nat} (h : n < 2 ^ 64) : (lN n).toBitVec.toNat = n := by rw [wb_tb, BitVec.toNat_ofNat, Nat.mod_eq_of_lt h]
theorem wb_of (x : Int64) : ∃ n, n < 2 ^ 64 ∧ x = lN n := ⟨x.toBitVec.toNat, x.toBitVec.isLt, wb_inj (by rw [wb_tb]; simp)⟩
theorem wb_of32 (x : Int32) : ∃ n, n < 2 ^ 32 ∧ x = nI n := ⟨x.toBitVec.toNat, x.toBitVec.isLt, Int32.toBitVec_inj.mp (by show _ = BitVec.ofNat 32 _; simp)⟩
theorem wb_c : ∀ k, k < 64 → ((nI k).toInt64 &&& 63) = lN k := by decide +kernel
theorem wb_cu : ∀ k, k < 64 → ((nI k).toInt64.toUInt64 &&& Int64.toUInt64 63) = UInt64.ofNat k := by decide +kernel
theorem wb_sm : ∀ k, k < 64 → (BitVec.ofNat 64 k).smod 64 = BitVec.ofNat 64 k := by decide +kernel
theorem wb_pw {a b : Nat} (h : a ≤ b) : 2 ^ b = 2 ^ a * 2 ^ (b - a) := by rw [← Nat.pow_add]; congr 1; omega
theorem wb_lt2 {a b : Nat} (h : a < b) : 2 ^ a < 2 ^ b := Nat.pow_lt_pow_right (by decide) h
theorem wb_mod (n : Nat) : lN n = lN (n % 2 ^ 64) := wb_inj (by rw [wb_tb, wb_tb]; apply BitVec.eq_of_toNat_eq; rw [BitVec.toNat_ofNat, BitVec.toNat_ofNat, Nat.mod_mod])
theorem wb_shr {n k : Nat} (hn : n < 2 ^ 64) (hk : k < 64) : ((lN n).toUInt64 >>> ((nI k).toInt64.toUInt64 &&& Int64.toUInt64 63)).toInt64 = lN (n / 2 ^ k) := by
  rw [wb_cu k hk]
  apply wb_inj
  apply BitVec.eq_of_toNat_eq
  show ((lN n).toUInt64 >>> UInt64.ofNat k).toNat = (BitVec.ofNat 64 _).toNat
  have h1 : (UInt64.ofNat k).toNat = k := by
    show (BitVec.ofNat 64 k).toNat = k
    rw [BitVec.toNat_ofNat, Nat.mod_eq_of_lt (by omega)]
  have h2 : (lN n).toUInt64.toNat = n := wb_tn hn
  rw [UInt64.toNat_shiftRight, h1, h2, Nat.mod_eq_of_lt hk, Nat.shiftRight_eq_div_pow, BitVec.toNat_ofNat, Nat.mod_eq_of_lt (Nat.lt_of_le_of_lt (Nat.div_le_self _ _) hn)]
theorem wb_shl (n : Nat) {k : Nat} (hk : k < 64) : lN n <<< ((nI k).toInt64 &&& 63) = lN (n * 2 ^ k) := by
  rw [wb_c k hk]
  apply wb_inj
  rw [Int64.toBitVec_shiftLeft, wb_tb, wb_tb, wb_tb, wb_sm k hk]
  apply BitVec.eq_of_toNat_eq
  rw [BitVec.shiftLeft_eq', BitVec.toNat_shiftLeft, BitVec.toNat_ofNat, BitVec.toNat_ofNat, BitVec.toNat_ofNat, Nat.mod_eq_of_lt (show k < 2 ^ 64 by omega), Nat.shiftLeft_eq, Nat.mul_mod, Nat.mod_mod, ← Nat.mul_mod]
theorem wb_and {a b : Nat} (ha : a < 2 ^ 64) (hb : b < 2 ^ 64) : lN a &&& lN b = lN (a &&& b) := by
  apply wb_inj
  rw [Int64.toBitVec_and, wb_tb, wb_tb, wb_tb]
  apply BitVec.eq_of_toNat_eq
  rw [BitVec.toNat_and, BitVec.toNat_ofNat, BitVec.toNat_ofNat, BitVec.toNat_ofNat, Nat.mod_eq_of_lt ha, Nat.mod_eq_of_lt hb, Nat.mod_eq_of_lt (Nat.and_lt_two_pow _ hb)]
theorem wb_or {a b : Nat} (ha : a < 2 ^ 64) (hb : b < 2 ^ 64) : lN a ||| lN b = lN (a ||| b) := by
  apply wb_inj
  rw [Int64.toBitVec_or, wb_tb, wb_tb, wb_tb]
  apply BitVec.eq_of_toNat_eq
  rw [BitVec.toNat_or, BitVec.toNat_ofNat, BitVec.toNat_ofNat, BitVec.toNat_ofNat, Nat.mod_eq_of_lt ha, Nat.mod_eq_of_lt hb, Nat.mod_eq_of_lt (Nat.or_lt_two_pow ha hb)]
theorem wb_mask {n k : Nat} (hn : n < 2 ^ 64) (hk : k < 64) : lN n &&& lN (2 ^ k - 1) = lN (n % 2 ^ k) := by
  rw [wb_and hn (by have := wb_lt2 hk; omega), Nat.and_two_pow_sub_one_eq_mod]
theorem wb_a1 {n : Nat} (hn : n < 2 ^ 64) : lN n &&& 1 = lN (n % 2) := wb_mask (k := 1) hn (by decide)
theorem wb_bit {n k : Nat} (hn : n < 2 ^ 64) (hk : k < 64) : ((lN n).toUInt64 >>> ((nI k).toInt64.toUInt64 &&& Int64.toUInt64 63)).toInt64 &&& 1 = lN (n / 2 ^ k % 2) := by
  rw [wb_shr hn hk, wb_a1 (Nat.lt_of_le_of_lt (Nat.div_le_self _ _) hn)]
theorem fb_andL (a b : Nat) : lN a &&& lN b = lN (a &&& b) := by
  apply Int64.toBitVec_inj.1
  show BitVec.ofNat 64 a &&& BitVec.ofNat 64 b = BitVec.ofNat 64 (a &&& b)
  apply BitVec.eq_of_getLsbD_eq
  intro i hi
  simp [hi]
theorem fb_orL (a b : Nat) : lN a ||| lN b = lN (a ||| b) := by
  apply Int64.toBitVec_inj.1
  show BitVec.ofNat 64 a ||| BitVec.ofNat 64 b = BitVec.ofNat 64 (a ||| b)
  apply BitVec.eq_of_getLsbD_eq
  intro i hi
  simp [hi]
theorem fb_xorL (a b : Nat) : lN a ^^^ lN b = lN (a ^^^ b) := by
  apply Int64.toBitVec_inj.1
  show BitVec.ofNat 64 a ^^^ BitVec.ofNat 64 b = BitVec.ofNat 64 (a ^^^ b)
  apply BitVec.eq_of_getLsbD_eq
  intro i hi
  simp [hi]
theorem fb_bit_set (n j i : Nat) : (n ||| 2 ^ j).testBit i = (n.testBit i || decide (i = j)) := by
  rw [Nat.testBit_or]
  by_cases h : j = i
  · subst h; simp
  · have h2 : ¬ i = j := fun e => h e.symm
    first | (simp [Nat.testBit_two_pow, h, h2]; done) | (simp [Nat.testBit_two_pow_of_ne h, h2]; done)
def bsum (g : Nat → Bool) : Nat → Nat
  | 0 => 0
  | n + 1 => bsum g n + if g n then 2 ^ n else 0
theorem bsum_lt (g : Nat → Bool) : ∀ n, bsum g n < 2 ^ n
  | 0 => by simp [bsum]
  | n + 1 => by
    have := bsum_lt g n
    rw [bsum, Nat.pow_succ]
    split <;> omega
theorem bsum_test (g : Nat → Bool) (i : Nat) : ∀ n, (bsum g n).testBit i = (decide (i < n) && g i)
  | 0 => by simp [bsum]
  | n + 1 => by
    have ih := bsum_test g i n
    have hl := bsum_lt g n
    rw [bsum]
    by_cases hg : g n = true
    · rw [if_pos hg, Nat.add_comm]
      rcases Nat.lt_trichotomy i n with h | h | h
      · rw [Nat.testBit_two_pow_add_gt h, ih]
        simp [h, Nat.lt_succ_of_lt h]
      · subst h
        rw [Nat.testBit_two_pow_add_eq, ih]
        simp [hg]
      · rw [Nat.testBit_lt_two_pow]
        · simp [show ¬ i < n + 1 by omega]
        · have : 2 ^ (n + 1) ≤ 2 ^ i := Nat.pow_le_pow_right (by decide) h
          rw [Nat.pow_succ] at this
          omega
    · rw [if_neg hg, Nat.add_zero, ih]
      rcases Nat.lt_trichotomy i n with h | h | h
      · simp [h, Nat.lt_succ_of_lt h]
      · subst h
        have : g i = false := by cases hh : g i <;> simp_all
        simp [this]
      · simp [show ¬ i < n by omega, show ¬ i < n + 1 by omega]
theorem bsum_ext {n a : Nat} {g : Nat → Bool} (ha : a < 2 ^ n) (h : ∀ i, i < n → a.testBit i = g i) : a = bsum g n := by
  apply Nat.eq_of_testBit_eq
  intro i
  rw [bsum_test]
  by_cases hi : i < n
  · rw [h i hi]; simp [hi]
  · rw [Nat.testBit_lt_two_pow]
    · simp [hi]
    · exact Nat.lt_of_lt_of_le ha (Nat.pow_le_pow_right (by decide) (by omega))
theorem bsum_cong {n : Nat} {g g' : Nat → Bool} (h : ∀ i, i < n → g i = g' i) : bsum g n = bsum g' n := bsum_ext (bsum_lt g n) (fun i hi => by rw [bsum_test]; simp [hi, h i hi])
theorem bsum_inj {n : Nat} {g g' : Nat → Bool} (h : bsum g n = bsum g' n) : ∀ i, i < n → g i = g' i := by
  intro i hi
  have h1 := congrArg (fun x => x.testBit i) h
  simp only [bsum_test] at h1
  simpa [hi] using h1
/-- word k of a row of bits -/
def wd (b : Nat → Bool) (k : Nat) : Int64 := lN (bsum (fun i => b (64 * k + i)) 64)
theorem wd_cong {b b' : Nat → Bool} {k : Nat} (h : ∀ i, i < 64 → b (64 * k + i) = b' (64 * k + i)) : wd b k = wd b' k := by
  unfold wd
  rw [bsum_cong h]
theorem lN_inj {a b : Nat} (ha : a < 2 ^ 64) (hb : b < 2 ^ 64) (h : lN a = lN b) : a = b := by
  have h1 := congrArg (fun x => x.toBitVec.toNat) h
  simp only [wb_tn ha, wb_tn hb] at h1
  exact h1
theorem wd_inj {b b' : Nat → Bool} {k : Nat} (h : wd b k = wd b' k) : ∀ i, i < 64 → b (64 * k + i) = b' (64 * k + i) := bsum_inj (lN_inj (bsum_lt _ _) (bsum_lt _ _) h)
theorem wd_zero {b : Nat → Bool} {k : Nat} (h : ∀ i, i < 64 → b (64 * k + i) = false) : wd b k = 0 := by
  have e : bsum (fun i => b (64 * k + i)) 64 = bsum (fun _ => false) 64 := bsum_cong h
  have e2 : ∀ n, bsum (fun _ => false) n = 0 := by
    intro n
    induction n with
    | zero => rfl
    | succ n ih => rw [bsum, ih]; rfl
  unfold wd
  rw [e, e2]
  rfl
theorem sh_mod {n : Nat} (hn : n < 2147483648) : (nI n).toInt64 &&& 63 = (nI (n % 64)).toInt64 &&& 63 := by
  rw [nI_l hn, nI_l (show n % 64 < 2 ^ 31 by omega)]
  have e : (63 : Int64) = lN (2 ^ 6 - 1) := rfl
  rw [e, fb_andL, fb_andL, Nat.and_two_pow_sub_one_eq_mod, Nat.and_two_pow_sub_one_eq_mod, Nat.mod_mod]
theorem sh_modU {n : Nat} (hn : n < 2147483648) : (nI n).toInt64.toUInt64 &&& Int64.toUInt64 63 = (nI (n % 64)).toInt64.toUInt64 &&& Int64.toUInt64 63 := congrArg Int64.toUInt64 (sh_mod hn)
theorem lN_and_one (a : Nat) : lN a &&& 1 = lN (a % 2) := by
  have e : (1 : Int64) = lN (2 ^ 1 - 1) := rfl
  rw [e, fb_andL, Nat.and_two_pow_sub_one_eq_mod]
theorem b01 {a i : Nat} {x : Bool} (h : a.testBit i = x) : a / 2 ^ i % 2 = if x then 1 else 0 := by
  rw [Nat.testBit_eq_decide_div_mod_eq] at h
  have : a / 2 ^ i % 2 < 2 := Nat.mod_lt _ (by decide)
  cases x
  · have : ¬ a / 2 ^ i % 2 = 1 := by simpa using h
    simp; omega
  · have : a / 2 ^ i % 2 = 1 := by simpa using h
    simp [this]
theorem ush_bit {a n : Nat} (ha : a < 2 ^ 64) (hn : n < 2147483648) : ((lN a).toUInt64 >>> ((nI n).toInt64.toUInt64 &&& Int64.toUInt64 63)).toInt64 &&& 1 = lN (if a.testBit (n % 64) then 1 else 0) := by
  rw [sh_modU hn, wb_bit ha (show n % 64 < 64 by omega), b01 rfl]
theorem cmp_01 (x : Bool) : lg_cmp (lN (if x then 1 else 0)) 0 = b2i x := by cases x <;> decide +kernel
theorem cmp_11 (x : Bool) : lg_cmp (lN (if x then 1 else 0)) 1 = b2i x - 1 := by cases x <;> decide +kernel
theorem wd_tb {b : Nat → Bool} {k j : Nat} (hj : j < 64) : (bsum (fun i => b (64 * k + i)) 64).testBit j = b (64 * k + j) := by rw [bsum_test]; simp [hj]
theorem wd_bit {b : Nat → Bool} {k n : Nat} (hn : n < 2147483648) : ((wd b k).toUInt64 >>> ((nI n).toInt64.toUInt64 &&& Int64.toUInt64 63)).toInt64 &&& 1 = lN (if b (64 * k + n % 64) then 1 else 0) := by
  unfold wd
  rw [ush_bit (bsum_lt _ _) hn, wd_tb (show n % 64 < 64 by omega)]
theorem wd_cmp {b : Nat → Bool} {k n : Nat} {x : Bool} (hn : n < 2147483648) (hx : b (64 * k + n % 64) = x) : lg_cmp (((wd b k).toUInt64 >>> ((nI n).toInt64.toUInt64 &&& Int64.toUInt64 63)).toInt64 &&& 1) 0 = b2i x := by
  rw [wd_bit hn, hx, cmp_01]
theorem one_shl {n : Nat} (hn : n < 2147483648) : (1 : Int64) <<< ((nI n).toInt64 &&& 63) = lN (2 ^ (n % 64)) := by
  have e : (1 : Int64) = lN 1 := rfl
  rw [sh_mod hn, e, wb_shl 1 (show n % 64 < 64 by omega), Nat.one_mul]
theorem bit_shl {x : Bool} {n : Nat} (hn : n < 2147483648) : lN (if x then 1 else 0) <<< ((nI n).toInt64 &&& 63) = lN (if x then 2 ^ (n % 64) else 0) := by
  rw [sh_mod hn, wb_shl _ (show n % 64 < 64 by omega)]
  cases x <;> simp
def bset (b : Nat → Bool) (n : Nat) (x : Bool) : Nat → Bool := fun j => if j = n then x else b j
theorem bset_same (b : Nat → Bool) (n : Nat) (x : Bool) : bset b n x n = x := by simp [bset]
theorem bset_ne (b : Nat → Bool) {n j : Nat} (x : Bool) (h : j ≠ n) : bset b n x j = b j := by simp [bset, h]
theorem two_tb (j i : Nat) : (2 ^ j).testBit i = decide (j = i) := Nat.testBit_two_pow
/-- one more bit in a word: 'or' with a shifted bit -/
theorem wd_or {b : Nat → Bool} {k n : Nat} {x : Bool} (hk : n / 64 = k) : wd b k ||| lN (if x then 2 ^ (n % 64) else 0) = wd (bset b n (b n || x)) k := by
  have hn : 64 * k + n % 64 = n := by omega
  unfold wd
  rw [fb_orL]
  congr 1
  apply bsum_ext
  · apply Nat.or_lt_two_pow (bsum_lt _ _)
    split
    · exact Nat.pow_lt_pow_right (by decide) (by omega)
    · decide
  · intro i hi
    rw [Nat.testBit_or, wd_tb hi]
    by_cases h : i = n % 64
    · subst h
      rw [hn, bset_same]
      cases x <;> simp
    · rw [bset_ne _ _ (show 64 * k + i ≠ n by omega)]
      cases x
      · simp
      · simp [two_tb, show ¬ n % 64 = i by omega]
theorem wd_or_ne {b : Nat → Bool} {j n : Nat} {x : Bool} (hk : n / 64 ≠ j) : wd b j = wd (bset b n x) j := wd_cong (fun i hi => by rw [bset_ne _ _ (show 64 * j + i ≠ n by omega)])
theorem wd_set {b : Nat → Bool} {n k : Nat} (hn : n < 2147483648) (hk : n / 64 = k) : wd b k ||| ((1 : Int64) <<< ((nI n).toInt64 &&& 63)) = wd (bset b n true) k := by
  have h := wd_or (b := b) (x := true) hk
  rw [if_pos rfl] at h
  rw [one_shl hn, h, Bool.or_true]
theorem wd_clr {b : Nat → Bool} {n k : Nat} (hn : n < 2147483648) (hk : n / 64 = k) : wd b k &&& (((1 : Int64) <<< ((nI n).toInt64 &&& 63)) ^^^ (-1)) = wd (bset b n false) k := by
  have hn2 : 64 * k + n % 64 = n := by omega
  have e : (-1 : Int64) = lN (2 ^ 64 - 1) := by decide +kernel
  rw [one_shl hn, e, fb_xorL]
  unfold wd
  rw [fb_andL]
  congr 1
  apply bsum_ext
  · exact Nat.lt_of_le_of_lt Nat.and_le_left (bsum_lt _ _)
  · intro i hi
    rw [Nat.testBit_and, wd_tb hi, Nat.testBit_xor, two_tb, Nat.testBit_two_pow_sub_one]
    by_cases h : i = n % 64
    · subst h
      rw [hn2, bset_same]
      simp [hi]
    · rw [bset_ne _ _ (show 64 * k + i ≠ n by omega)]
      simp [hi, show ¬ n % 64 = i by omega]
end
section
/-! what the sets are: a row b of bits, told from t on by p -/
def fold (t p n : Nat) : Nat := if n < t + p then n else t + (n - t) % p
theorem fold_lt {t p n : Nat} (hp : 0 < p) : fold t p n < t + p := by
  unfold fold
  split
  · assumption
  · have := Nat.mod_lt (n - t) hp; omega
theorem fold_in {t p n : Nat} (h : n < t + p) : fold t p n = n := by simp [fold, h]
def den (t p : Nat) (b : Nat → Bool) : Nat → Bool := fun n => b (fold t p n)
def i32in (x lo hi : Int32) : Bool := decide (lo ≤ x) && decide (x ≤ hi)
def jw (way : Nat) (a b : Bool) : Bool := if way = 0 then a || b else if way = 1 then a && b else if way = 2 then a && !b else a != b
end
section
theorem k_rip {p : Program} {l : Launch} {e : Env} {R : Room} {s : State} {m : MethodId} {args : Array Value} {below : List Frame} {meth : Method} {c : Code} {H : Heap} {locs : List Loc} {cells slots : Nat} {Q : State → Prop} {pc : Nat} {ls : Array Slot} {rest : List Value} {a : Array Value} {st0 : List Value} {post : Int32 → Prop} (hr : va_Run p l e R s m args below meth c H locs cells slots 0 0 (F0 m pc ls st0) rest (vp_Si post a) (fun _ => False)) (kk : ∀ r, post r → W p l e R s m args below meth c H locs cells slots Q (F0 m (pc + 3) ls (.int r :: rest))) : W p l e R s m args below meth c H locs cells slots Q (F0 m pc ls st0) := by
  intro T hT X
  obtain ⟨v1, st₀, t, T', L1, h0, X', hL, e1, e2, ⟨r, hv, hp, hh⟩, st⟩ := hr T hT X
  cases hv
  obtain ⟨t2, a1, b1⟩ := kk r hp T' (by rw [e1, hh, h0]) (Stand.forget X' (fun q h => (hL q h).elim))
  exact ⟨t2, st t2 a1, b1⟩
theorem k_sw {D : va_G} {A : Nat → Prop} {H0 : Heap} {L : List Nat} {f : Nat → va_E} {H : Heap} {locs : List Loc} {a : Nat} {x y : va_E} (hw : WW D A H0 L f H locs) (hc : cel L f a x) (h : ∀ Hq : Heap, va_at D vwCl (a, x) Hq → va_at D vwCl (a, y) Hq) : ∃ f1, cel L f1 a y ∧ (∀ b, b ≠ a → f1 b = f b) ∧ WW D A H0 L f1 H locs := by
  obtain ⟨q0, hq⟩ := hc.at
  have e0 : (va_pl L f).set q0 (a, x) = va_pl L f := by
    apply List.ext_getElem?
    intro j
    by_cases hj : j = q0
    · subst hj
      rw [List.getElem?_set_self (List.getElem?_eq_some_iff.mp hq).1, hq]
    · rw [List.getElem?_set_ne (Ne.symm hj)]
  exact ⟨va_up f a y, up_at hc.1, fun b hb => va_up_ne _ _ hb, k_upd hw hc hq (by rw [e0]; exact hw.1) (by rw [e0]; exact hw.2.1) hw.2.2.1 h⟩
theorem k_swl {D : va_G} {A : Nat → Prop} {H0 : Heap} {L : List Nat} {f : Nat → va_E} {H : Heap} {locs : List Loc} {a n : Nat} {cA : ClassId} {g : Nat → Int64} (g' : Nat → Int64) (hw : WW D A H0 L f H locs) (hc : cel L f a (.inl (cA, n, .inr (.inl g)))) (h : ∀ j, j < n → g j = g' j) : ∃ f1, cel L f1 a (.inl (cA, n, .inr (.inl g'))) ∧ (∀ b, b ≠ a → f1 b = f b) ∧ WW D A H0 L f1 H locs := k_sw hw hc (at_long h)
theorem k_swi {D : va_G} {A : Nat → Prop} {H0 : Heap} {L : List Nat} {f : Nat → va_E} {H : Heap} {locs : List Loc} {a n : Nat} {cA : ClassId} {g : Nat → Int32} (g' : Nat → Int32) (hw : WW D A H0 L f H locs) (hc : cel L f a (.inl (cA, n, .inl g))) (h : ∀ j, j < n → g j = g' j) : ∃ f1, cel L f1 a (.inl (cA, n, .inl g')) ∧ (∀ b, b ≠ a → f1 b = f b) ∧ WW D A H0 L f1 H locs := k_sw hw hc (at_int h)
theorem k_swr {D : va_G} {A : Nat → Prop} {H0 : Heap} {L : List Nat} {f : Nat → va_E} {H : Heap} {locs : List Loc} {a n : Nat} {cA : ClassId} {g : Nat → Option Nat} (g' : Nat → Option Nat) (hw : WW D A H0 L f H locs) (hc : cel L f a (.inl (cA, n, .inr (.inr (.inr (.inr g)))))) (h : ∀ j, j < n → g j = g' j) : ∃ f1, cel L f1 a (.inl (cA, n, .inr (.inr (.inr (.inr g'))))) ∧ (∀ b, b ≠ a → f1 b = f b) ∧ WW D A H0 L f1 H locs := k_sw hw hc (at_ref h)
noncomputable def dB (x : Prop) : Bool := @decide x (Classical.propDecidable x)
theorem dB_t {x : Prop} (h : x) : dB x = true := @decide_eq_true x (Classical.propDecidable x) h
theorem dB_f {x : Prop} (h : ¬ x) : dB x = false := @decide_eq_false x (Classical.propDecidable x) h
theorem dB_iff {x : Prop} : dB x = true ↔ x := @decide_eq_true_iff x (Classical.propDecidable x)
end
section
theorem fa_of_nlt {a b : Int32} (h : ¬ a < b) : b ≤ a := by
  rw [Int32.le_iff_toInt_le]
  rw [Int32.lt_iff_toInt_lt] at h
  omega
theorem fa_lt_nle {a b : Int32} (h : a < b) : ¬ b ≤ a := by
  rw [Int32.le_iff_toInt_le]
  rw [Int32.lt_iff_toInt_lt] at h
  omega
set_option maxHeartbeats 4000000 in
set_option maxRecDepth 100000 in
theorem c_bit (l : Launch) (D : va_G) (cy : Nat → ClassId) (L : List Nat) (f : Nat → va_E) (sz : Nat) (a n len : Nat) (b : Nat → Bool) (hn : n < 2147483648) (hlen : len < 33554432) (h_row : cel L f a (.inl (cy 1, len, .inr (.inl (wd b))))) : Met l yX5_bit (.code yX5_bit cX5_bit 3 (Option.some FieldType.boolean) :: wsL_law) { frames := 0, cells := 0, slots := 0, locals := 0 } (va_Pc [.ref a, .int (nI n)] (PW D cy L f sz)) (vp_Si (fun r => r = b2i (decide (n < 64 * len) && b n))) 0 0 (fun _ => False) := by
  refine m_start (by decide) (Nat.le_of_ble_eq_true rfl) ?_
  intro p e R Q s m args below meth c ls hsz hR hQ E hr hlk hnm hw hl
  have hl : lv_has ls 3 [(0, .ref a), (1, .int (nI n))] := hl
  refine lv_iload_n E.1.1 E.1.2.1 dX5_bit_0 rfl (lv_at hl 1 rfl) ?_
  refine lv_bipush (v := nI 6) E.1.1 E.1.2.1 dX5_bit_1 rfl ?_
  refine k_shr6 E dX5_bit_3 (by omega) ?_
  refine lv_istore_n (lv' := [(2, .int (nI (n / 64))), (0, .ref a), (1, .int (nI n))]) E.1.1 E.1.2.1 dX5_bit_4 rfl hl (by decide) rfl (fun ls hl => ?_)
  refine lv_iload_n E.1.1 E.1.2.1 dX5_bit_5 rfl (lv_at hl 0 rfl) ?_
  refine k_zlt (tgt := 31) E dX5_bit_6 (by decide) (by omega) ?_
  refine lv_iload_n E.1.1 E.1.2.1 dX5_bit_9 rfl (lv_at hl 0 rfl) ?_
  refine lv_aload_n E.1.1 E.1.2.1 dX5_bit_10 rfl (lv_at hl 1 rfl) ?_
  refine k_alen E hw 1 h_row rfl (n := len) rfl dX5_bit_11 ?_
  refine k_ge (tgt := 31) E dX5_bit_12 (by decide) (by omega) (by omega) (fun c12 => ?_) (fun c12 => ?_)
  · refine lv_iconst (v := nI 0) E.1.1 E.1.2.1 dX5_bit_31 rfl ?_
    refine k_top E (b2i false) rfl ?_
    exact k_zret E hQ hlk hr (by rw [show decide (n < 64 * len) = false from decide_eq_false (by omega)]; rfl) dX5_bit_32
  · refine lv_aload_n E.1.1 E.1.2.1 dX5_bit_15 rfl (lv_at hl 1 rfl) ?_
    refine lv_iload_n E.1.1 E.1.2.1 dX5_bit_16 rfl (lv_at hl 0 rfl) ?_
    refine k_lald E hw (v := (wd b) (n / 64)) h_row (by omega) (by omega) (rfl) dX5_bit_17 ?_
    refine lv_iload_n E.1.1 E.1.2.1 dX5_bit_18 rfl (lv_at hl 2 rfl) ?_
    refine lv_lushr E.1.1 E.1.2.1 dX5_bit_19 rfl ?_
    refine lv_lconst (v := 1) E.1.1 E.1.2.1 dX5_bit_20 rfl ?_
    refine lv_land E.1.1 E.1.2.1 dX5_bit_21 ?_
    refine lv_lconst (v := 0) E.1.1 E.1.2.1 dX5_bit_22 rfl ?_
    refine W.lcmp E.1.1 E.1.2.1 dX5_bit_23 ?_
    refine k_top E (b2i (b n)) (wd_cmp hn (by rw [show 64 * (n / 64) + n % 64 = n by omega])) ?_
    refine k_if0 (tgt := 31) E dX5_bit_24 (by decide) (fun c24 => ?_) (fun c24 => ?_)
    · refine lv_iconst (v := nI 0) E.1.1 E.1.2.1 dX5_bit_31 rfl ?_
      refine k_top E (b2i false) rfl ?_
      exact k_zret E hQ hlk hr (by rw [show decide (n < 64 * len) = true from decide_eq_true (by omega), c24]; rfl) dX5_bit_32
    · refine lv_iconst (v := nI 1) E.1.1 E.1.2.1 dX5_bit_27 rfl ?_
      refine lv_goto (tgt := 32) E.1.1 E.1.2.1 dX5_bit_28 (by decide) ?_
      refine k_top E (b2i true) rfl ?_
      exact k_zret E hQ hlk hr (by rw [show decide (n < 64 * len) = true from decide_eq_true (by omega), c24]; rfl) dX5_bit_32

set_option maxHeartbeats 4000000 in
set_option maxRecDepth 100000 in
theorem c_setBit (l : Launch) (D : va_G) (cy : Nat → ClassId) (L : List Nat) (f0 : Nat → va_E) (sz : Nat) (a n len : Nat) (b : Nat → Bool) (hn : n < 64 * len) (hlen : len < 33554432) (h_row : cel L f0 a (.inl (cy 1, len, .inr (.inl (wd b))))) : Met l yX5_setBit (.code yX5_setBit cX5_setBit 3 none :: wsL_law) { frames := 0, cells := 0, slots := 0, locals := 0 } (va_Pc [.ref a, .int (nI n)] (PW D cy L f0 sz)) (va_Qv (fun u : List Nat × (Nat → va_E) => L = u.1 ∧ (∀ b ∈ L, b ≠ a → u.2 b = f0 b) ∧ cel L u.2 a (.inl (cy 1, len, .inr (.inl (wd (bset b n true)))))) (PB D (AW L sz)) (AW L sz)) 0 0 (AW L sz) := by
  refine m_start (by decide) (Nat.le_of_ble_eq_true rfl) ?_
  intro p e R Q s m args below meth c ls hsz hR hQ E hr hlk hnm hw hl
  have hl : lv_has ls 3 [(0, .ref a), (1, .int (nI n))] := hl
  obtain ⟨H, hH⟩ : ∃ X, X = s.heap := ⟨_, rfl⟩
  obtain ⟨locs, hlocs⟩ : ∃ X : List Loc, X = [] := ⟨_, rfl⟩
  have hw0 := hw
  obtain ⟨f, hf0⟩ : ∃ X, X = f0 := ⟨_, rfl⟩
  rw [← hf0] at h_row
  have hw : WW D (AW L sz) s.heap L f H locs := by rw [hH, hlocs, hf0]; exact hw
  have hF : ∀ b ∈ L, b ≠ a → f b = f0 b := fun b hb h0 => by rw [hf0]
  suffices hgo : W p l e R s m args below meth c H locs 0 0 Q (F0 m 0 ls []) by rw [hH, hlocs] at hgo; exact hgo
  clear hH hlocs hw0 hf0
  have hLs : ∀ b ∈ L, b ∈ L := fun _ h => h
  refine lv_iload_n E.1.1 E.1.2.1 dX5_setBit_0 rfl (lv_at hl 1 rfl) ?_
  refine lv_bipush (v := nI 6) E.1.1 E.1.2.1 dX5_setBit_1 rfl ?_
  refine k_shr6 E dX5_setBit_3 (by omega) ?_
  refine lv_istore_n (lv' := [(2, .int (nI (n / 64))), (0, .ref a), (1, .int (nI n))]) E.1.1 E.1.2.1 dX5_setBit_4 rfl hl (by decide) rfl (fun ls hl => ?_)
  refine lv_iload_n E.1.1 E.1.2.1 dX5_setBit_5 rfl (lv_at hl 0 rfl) ?_
  refine k_zlt (tgt := 24) E dX5_setBit_6 (by decide) (by omega) ?_
  refine lv_iload_n E.1.1 E.1.2.1 dX5_setBit_9 rfl (lv_at hl 0 rfl) ?_
  refine lv_aload_n E.1.1 E.1.2.1 dX5_setBit_10 rfl (lv_at hl 1 rfl) ?_
  refine k_alen E hw 1 h_row rfl (n := len) rfl dX5_setBit_11 ?_
  refine k_ge (tgt := 24) E dX5_setBit_12 (by decide) (by omega) (by omega) (fun c12 => absurd c12 (by omega)) (fun c12 => ?_)
  refine lv_aload_n E.1.1 E.1.2.1 dX5_setBit_15 rfl (lv_at hl 1 rfl) ?_
  refine lv_iload_n E.1.1 E.1.2.1 dX5_setBit_16 rfl (lv_at hl 0 rfl) ?_
  refine lv_dup2_11 E.1.1 E.1.2.1 dX5_setBit_17 rfl rfl ?_
  refine k_lald E hw (v := (wd b) (n / 64)) h_row (by omega) (by omega) (rfl) dX5_setBit_18 ?_
  refine lv_lconst (v := 1) E.1.1 E.1.2.1 dX5_setBit_19 rfl ?_
  refine lv_iload_n E.1.1 E.1.2.1 dX5_setBit_20 rfl (lv_at hl 2 rfl) ?_
  refine lv_lshl E.1.1 E.1.2.1 dX5_setBit_21 rfl ?_
  refine lv_lor E.1.1 E.1.2.1 dX5_setBit_22 ?_
  refine k_last E hw (wd (bset b n true)) h_row (by omega) (by omega) (fun j hj => by
    by_cases h : j = n / 64
    · rw [if_pos h, h]; exact wd_set (by omega) rfl
    · rw [if_neg h]; exact wd_or_ne (fun q => h q.symm)) dX5_setBit_23 (fun f H locs h_row hfr hw => ?_)
  have hF : ∀ b ∈ L, b ≠ a → f b = f0 b := fun b hb h0 => (hfr b h0).trans (hF b hb h0)
  exact k_mvret E hQ hlk hr hw (Nat.le_of_ble_eq_true rfl) (Nat.le_of_ble_eq_true rfl) (⟨rfl, hF, h_row⟩) dX5_setBit_24

set_option maxHeartbeats 4000000 in
set_option maxRecDepth 100000 in
theorem c_clearBit (l : Launch) (D : va_G) (cy : Nat → ClassId) (L : List Nat) (f0 : Nat → va_E) (sz : Nat) (a n len : Nat) (b : Nat → Bool) (hn : n < 64 * len) (hlen : len < 33554432) (h_row : cel L f0 a (.inl (cy 1, len, .inr (.inl (wd b))))) : Met l yX5_clearBit (.code yX5_clearBit cX5_clearBit 3 none :: wsL_law) { frames := 0, cells := 0, slots := 0, locals := 0 } (va_Pc [.ref a, .int (nI n)] (PW D cy L f0 sz)) (va_Qv (fun u : List Nat × (Nat → va_E) => L = u.1 ∧ (∀ b ∈ L, b ≠ a → u.2 b = f0 b) ∧ cel L u.2 a (.inl (cy 1, len, .inr (.inl (wd (bset b n false)))))) (PB D (AW L sz)) (AW L sz)) 0 0 (AW L sz) := by
  refine m_start (by decide) (Nat.le_of_ble_eq_true rfl) ?_
  intro p e R Q s m args below meth c ls hsz hR hQ E hr hlk hnm hw hl
  have hl : lv_has ls 3 [(0, .ref a), (1, .int (nI n))] := hl
  obtain ⟨H, hH⟩ : ∃ X, X = s.heap := ⟨_, rfl⟩
  obtain ⟨locs, hlocs⟩ : ∃ X : List Loc, X = [] := ⟨_, rfl⟩
  have hw0 := hw
  obtain ⟨f, hf0⟩ : ∃ X, X = f0 := ⟨_, rfl⟩
  rw [← hf0] at h_row
  have hw : WW D (AW L sz) s.heap L f H locs := by rw [hH, hlocs, hf0]; exact hw
  have hF : ∀ b ∈ L, b ≠ a → f b = f0 b := fun b hb h0 => by rw [hf0]
  suffices hgo : W p l e R s m args below meth c H locs 0 0 Q (F0 m 0 ls []) by rw [hH, hlocs] at hgo; exact hgo
  clear hH hlocs hw0 hf0
  have hLs : ∀ b ∈ L, b ∈ L := fun _ h => h
  refine lv_iload_n E.1.1 E.1.2.1 dX5_clearBit_0 rfl (lv_at hl 1 rfl) ?_
  refine lv_bipush (v := nI 6) E.1.1 E.1.2.1 dX5_clearBit_1 rfl ?_
  refine k_shr6 E dX5_clearBit_3 (by omega) ?_
  refine lv_istore_n (lv' := [(2, .int (nI (n / 64))), (0, .ref a), (1, .int (nI n))]) E.1.1 E.1.2.1 dX5_clearBit_4 rfl hl (by decide) rfl (fun ls hl => ?_)
  refine lv_iload_n E.1.1 E.1.2.1 dX5_clearBit_5 rfl (lv_at hl 0 rfl) ?_
  refine k_zlt (tgt := 28) E dX5_clearBit_6 (by decide) (by omega) ?_
  refine lv_iload_n E.1.1 E.1.2.1 dX5_clearBit_9 rfl (lv_at hl 0 rfl) ?_
  refine lv_aload_n E.1.1 E.1.2.1 dX5_clearBit_10 rfl (lv_at hl 1 rfl) ?_
  refine k_alen E hw 1 h_row rfl (n := len) rfl dX5_clearBit_11 ?_
  refine k_ge (tgt := 28) E dX5_clearBit_12 (by decide) (by omega) (by omega) (fun c12 => absurd c12 (by omega)) (fun c12 => ?_)
  refine lv_aload_n E.1.1 E.1.2.1 dX5_clearBit_15 rfl (lv_at hl 1 rfl) ?_
  refine lv_iload_n E.1.1 E.1.2.1 dX5_clearBit_16 rfl (lv_at hl 0 rfl) ?_
  refine lv_dup2_11 E.1.1 E.1.2.1 dX5_clearBit_17 rfl rfl ?_
  refine k_lald E hw (v := (wd b) (n / 64)) h_row (by omega) (by omega) (rfl) dX5_clearBit_18 ?_
  refine lv_lconst (v := 1) E.1.1 E.1.2.1 dX5_clearBit_19 rfl ?_
  refine lv_iload_n E.1.1 E.1.2.1 dX5_clearBit_20 rfl (lv_at hl 2 rfl) ?_
  refine lv_lshl E.1.1 E.1.2.1 dX5_clearBit_21 rfl ?_
  refine lv_ldc2 (v := (-1)) E.1.1 E.1.2.1 E.1.2.2.2.1 (E.1.2.2.2.2 _ w1_138) dX5_clearBit_22 ?_
  refine lv_lxor E.1.1 E.1.2.1 dX5_clearBit_25 ?_
  refine lv_land E.1.1 E.1.2.1 dX5_clearBit_26 ?_
  refine k_last E hw (wd (bset b n false)) h_row (by omega) (by omega) (fun j hj => by
    by_cases h : j = n / 64
    · rw [if_pos h, h]; exact wd_clr (by omega) rfl
    · rw [if_neg h]; exact wd_or_ne (fun q => h q.symm)) dX5_clearBit_27 (fun f H locs h_row hfr hw => ?_)
  have hF : ∀ b ∈ L, b ≠ a → f b = f0 b := fun b hb h0 => (hfr b h0).trans (hF b hb h0)
  exact k_mvret E hQ hlk hr hw (Nat.le_of_ble_eq_true rfl) (Nat.le_of_ble_eq_true rfl) (⟨rfl, hF, h_row⟩) dX5_clearBit_28

set_option maxHeartbeats 4000000 in
set_option maxRecDepth 100000 in
theorem c_folded (l : Launch) (D : va_G) (cy : Nat → ClassId) (L : List Nat) (f : Nat → va_E) (sz : Nat) (n t p0 : Nat) (hp : 0 < p0) (hn : n < 2147483648) (ht : t + p0 < 2147483648) : Met l yX5_folded (.code yX5_folded cX5_folded 3 (Option.some FieldType.int) :: wsL_law) { frames := 0, cells := 0, slots := 0, locals := 0 } (va_Pc [.int (nI n), .int (nI t), .int (nI p0)] (PW D cy L f sz)) (vp_Si (fun r => r = nI (fold t p0 n))) 0 0 (fun _ => False) := by
  refine m_start (by decide) (Nat.le_of_ble_eq_true rfl) ?_
  intro p e R Q s m args below meth c ls hsz hR hQ E hr hlk hnm hw hl
  have hl : lv_has ls 3 [(0, .int (nI n)), (1, .int (nI t)), (2, .int (nI p0))] := hl
  refine lv_iload_n E.1.1 E.1.2.1 dX5_folded_0 rfl (lv_at hl 0 rfl) ?_
  refine lv_iload_n E.1.1 E.1.2.1 dX5_folded_1 rfl (lv_at hl 1 rfl) ?_
  refine lv_iload_n E.1.1 E.1.2.1 dX5_folded_2 rfl (lv_at hl 2 rfl) ?_
  refine k_add E dX5_folded_3 ?_
  refine k_lt (tgt := 12) E dX5_folded_4 (by decide) (by omega) (by omega) (fun c4 => ?_) (fun c4 => ?_)
  · refine lv_iload_n E.1.1 E.1.2.1 dX5_folded_12 rfl (lv_at hl 0 rfl) ?_
    refine lv_goto (tgt := 23) E.1.1 E.1.2.1 dX5_folded_13 (by decide) ?_
    exact k_iret E hQ hlk hr (by rw [fold, if_pos c4]) dX5_folded_23
  · refine lv_iload_n E.1.1 E.1.2.1 dX5_folded_7 rfl (lv_at hl 2 rfl) ?_
    refine lv_iconst (v := nI 1) E.1.1 E.1.2.1 dX5_folded_8 rfl ?_
    refine k_ge (tgt := 16) E dX5_folded_9 (by decide) (by omega) (by omega) (fun c9 => ?_) (fun c9 => absurd c9 (by omega))
    refine lv_iload_n E.1.1 E.1.2.1 dX5_folded_16 rfl (lv_at hl 1 rfl) ?_
    refine lv_iload_n E.1.1 E.1.2.1 dX5_folded_17 rfl (lv_at hl 0 rfl) ?_
    refine lv_iload_n E.1.1 E.1.2.1 dX5_folded_18 rfl (lv_at hl 1 rfl) ?_
    refine k_sub E dX5_folded_19 (by omega) ?_
    refine lv_iload_n E.1.1 E.1.2.1 dX5_folded_20 rfl (lv_at hl 2 rfl) ?_
    refine k_rem E dX5_folded_21 (by omega) (by omega) (by omega) ?_
    refine k_add E dX5_folded_22 ?_
    exact k_iret E hQ hlk hr (by rw [fold, if_neg (by omega)]) dX5_folded_23

set_option maxHeartbeats 4000000 in
set_option maxRecDepth 100000 in
theorem c_within (l : Launch) (D : va_G) (cy : Nat → ClassId) (L : List Nat) (f : Nat → va_E) (sz : Nat) (x lo hi : Int32) : Met l yX5_within (.code yX5_within cX5_within 3 (Option.some FieldType.boolean) :: wsL_law) { frames := 0, cells := 0, slots := 0, locals := 0 } (va_Pc [.int x, .int lo, .int hi] (PW D cy L f sz)) (vp_Si (fun r => r = b2i (i32in x lo hi))) 0 0 (fun _ => False) := by
  refine m_start (by decide) (Nat.le_of_ble_eq_true rfl) ?_
  intro p e R Q s m args below meth c ls hsz hR hQ E hr hlk hnm hw hl
  have hl : lv_has ls 3 [(0, .int x), (1, .int lo), (2, .int hi)] := hl
  refine lv_iload_n E.1.1 E.1.2.1 dX5_within_0 rfl (lv_at hl 1 rfl) ?_
  refine lv_iload_n E.1.1 E.1.2.1 dX5_within_1 rfl (lv_at hl 0 rfl) ?_
  refine lv_icmp_gt (tgt := 14) E.1.1 E.1.2.1 dX5_within_2 (by decide) (fun c2 => ?_) (fun c2 => ?_)
  · refine lv_iconst (v := nI 0) E.1.1 E.1.2.1 dX5_within_14 rfl ?_
    refine k_top E (b2i false) rfl ?_
    exact k_zret E hQ hlk hr (by rw [i32in, decide_eq_false (fa_lt_nle c2)]; rfl) dX5_within_15
  · refine lv_iload_n E.1.1 E.1.2.1 dX5_within_5 rfl (lv_at hl 0 rfl) ?_
    refine lv_iload_n E.1.1 E.1.2.1 dX5_within_6 rfl (lv_at hl 2 rfl) ?_
    refine lv_icmp_gt (tgt := 14) E.1.1 E.1.2.1 dX5_within_7 (by decide) (fun c7 => ?_) (fun c7 => ?_)
    · refine lv_iconst (v := nI 0) E.1.1 E.1.2.1 dX5_within_14 rfl ?_
      refine k_top E (b2i false) rfl ?_
      exact k_zret E hQ hlk hr (by rw [i32in, decide_eq_true (fa_of_nlt c2), decide_eq_false (fa_lt_nle c7)]; rfl) dX5_within_15
    · refine lv_iconst (v := nI 1) E.1.1 E.1.2.1 dX5_within_10 rfl ?_
      refine lv_goto (tgt := 15) E.1.1 E.1.2.1 dX5_within_11 (by decide) ?_
      refine k_top E (b2i true) rfl ?_
      exact k_zret E hQ hlk hr (by rw [i32in, decide_eq_true (fa_of_nlt c2), decide_eq_true (fa_of_nlt c7)]; rfl) dX5_within_15

set_option maxHeartbeats 4000000 in
set_option maxRecDepth 100000 in
theorem c_truth (l : Launch) (D : va_G) (cy : Nat → ClassId) (L : List Nat) (f : Nat → va_E) (sz : Nat) (x : Bool) : Met l yX5_truth (.code yX5_truth cX5_truth 1 (Option.some FieldType.int) :: wsL_law) { frames := 0, cells := 0, slots := 0, locals := 0 } (va_Pc [.int (b2i x)] (PW D cy L f sz)) (vp_Si (fun r => r = b2i x)) 0 0 (fun _ => False) := by
  refine m_start (by decide) (Nat.le_of_ble_eq_true rfl) ?_
  intro p e R Q s m args below meth c ls hsz hR hQ E hr hlk hnm hw hl
  have hl : lv_has ls 1 [(0, .int (b2i x))] := hl
  refine lv_iload_n E.1.1 E.1.2.1 dX5_truth_0 rfl (lv_at hl 0 rfl) ?_
  refine k_if0 (tgt := 8) E dX5_truth_1 (by decide) (fun c1 => ?_) (fun c1 => ?_)
  · refine lv_iconst (v := nI 0) E.1.1 E.1.2.1 dX5_truth_8 rfl ?_
    exact k_iret E hQ hlk hr (by rw [c1]; rfl) dX5_truth_9
  · refine lv_iconst (v := nI 1) E.1.1 E.1.2.1 dX5_truth_4 rfl ?_
    refine lv_goto (tgt := 9) E.1.1 E.1.2.1 dX5_truth_5 (by decide) ?_
    exact k_iret E hQ hlk hr (by rw [c1]; rfl) dX5_truth_9

set_option maxHeartbeats 4000000 in
set_option maxRecDepth 100000 in
theorem c_joined (l : Launch) (D : va_G) (cy : Nat → ClassId) (L : List Nat) (f : Nat → va_E) (sz : Nat) (a b : Bool) (way : Nat) (hw4 : way < 4) : Met l yX5_joined (.code yX5_joined cX5_joined 3 (Option.some FieldType.boolean) :: wsL_law) { frames := 0, cells := 0, slots := 0, locals := 0 } (va_Pc [.int (b2i a), .int (b2i b), .int (nI way)] (PW D cy L f sz)) (vp_Si (fun r => r = b2i (jw way a b))) 0 0 (fun _ => False) := by
  refine m_start (by decide) (Nat.le_of_ble_eq_true rfl) ?_
  intro p e R Q s m args below meth c ls hsz hR hQ E hr hlk hnm hw hl
  have hl : lv_has ls 3 [(0, .int (b2i a)), (1, .int (b2i b)), (2, .int (nI way))] := hl
  refine lv_iload_n E.1.1 E.1.2.1 dX5_joined_0 rfl (lv_at hl 2 rfl) ?_
  rcases (show way = 0 ∨ way = 1 ∨ way = 2 ∨ way = 3 by omega) with rfl | rfl | rfl | rfl
  · refine lv_tableIn (tgt := 28) E.1.1 E.1.2.1 dX5_joined_1 (by decide) (by decide) (off := 27) (by decide) (by decide) ?_
    refine lv_iload_n E.1.1 E.1.2.1 dX5_joined_28 rfl (lv_at hl 0 rfl) ?_
    refine k_if1 (tgt := 36) E dX5_joined_29 (by decide) (fun c29 => ?_) (fun c29 => ?_)
    · refine lv_iconst (v := nI 1) E.1.1 E.1.2.1 dX5_joined_36 rfl ?_
      refine lv_goto (tgt := 41) E.1.1 E.1.2.1 dX5_joined_37 (by decide) ?_
      refine k_top E (b2i true) rfl ?_
      exact k_zret E hQ hlk hr (by cases a <;> cases b <;> first | rfl | (cases c29; done) | exact absurd rfl c29) dX5_joined_41
    · refine lv_iload_n E.1.1 E.1.2.1 dX5_joined_32 rfl (lv_at hl 1 rfl) ?_
      refine k_if0 (tgt := 40) E dX5_joined_33 (by decide) (fun c33 => ?_) (fun c33 => ?_)
      · refine lv_iconst (v := nI 0) E.1.1 E.1.2.1 dX5_joined_40 rfl ?_
        refine k_top E (b2i false) rfl ?_
        exact k_zret E hQ hlk hr (by cases a <;> cases b <;> first | rfl | (cases c29; done) | exact absurd rfl c29 | (cases c33; done) | exact absurd rfl c33) dX5_joined_41
      · refine lv_iconst (v := nI 1) E.1.1 E.1.2.1 dX5_joined_36 rfl ?_
        refine lv_goto (tgt := 41) E.1.1 E.1.2.1 dX5_joined_37 (by decide) ?_
        refine k_top E (b2i true) rfl ?_
        exact k_zret E hQ hlk hr (by cases a <;> cases b <;> first | rfl | (cases c29; done) | exact absurd rfl c29 | (cases c33; done) | exact absurd rfl c33) dX5_joined_41
  · refine lv_tableIn (tgt := 42) E.1.1 E.1.2.1 dX5_joined_1 (by decide) (by decide) (off := 41) (by decide) (by decide) ?_
    refine lv_iload_n E.1.1 E.1.2.1 dX5_joined_42 rfl (lv_at hl 0 rfl) ?_
    refine k_if0 (tgt := 54) E dX5_joined_43 (by decide) (fun c43 => ?_) (fun c43 => ?_)
    · refine lv_iconst (v := nI 0) E.1.1 E.1.2.1 dX5_joined_54 rfl ?_
      refine k_top E (b2i false) rfl ?_
      exact k_zret E hQ hlk hr (by cases a <;> cases b <;> first | rfl | (cases c43; done) | exact absurd rfl c43) dX5_joined_55
    · refine lv_iload_n E.1.1 E.1.2.1 dX5_joined_46 rfl (lv_at hl 1 rfl) ?_
      refine k_if0 (tgt := 54) E dX5_joined_47 (by decide) (fun c47 => ?_) (fun c47 => ?_)
      · refine lv_iconst (v := nI 0) E.1.1 E.1.2.1 dX5_joined_54 rfl ?_
        refine k_top E (b2i false) rfl ?_
        exact k_zret E hQ hlk hr (by cases a <;> cases b <;> first | rfl | (cases c43; done) | exact absurd rfl c43 | (cases c47; done) | exact absurd rfl c47) dX5_joined_55
      · refine lv_iconst (v := nI 1) E.1.1 E.1.2.1 dX5_joined_50 rfl ?_
        refine lv_goto (tgt := 55) E.1.1 E.1.2.1 dX5_joined_51 (by decide) ?_
        refine k_top E (b2i true) rfl ?_
        exact k_zret E hQ hlk hr (by cases a <;> cases b <;> first | rfl | (cases c43; done) | exact absurd rfl c43 | (cases c47; done) | exact absurd rfl c47) dX5_joined_55
  · refine lv_tableIn (tgt := 56) E.1.1 E.1.2.1 dX5_joined_1 (by decide) (by decide) (off := 55) (by decide) (by decide) ?_
    refine lv_iload_n E.1.1 E.1.2.1 dX5_joined_56 rfl (lv_at hl 0 rfl) ?_
    refine k_if0 (tgt := 68) E dX5_joined_57 (by decide) (fun c57 => ?_) (fun c57 => ?_)
    · refine lv_iconst (v := nI 0) E.1.1 E.1.2.1 dX5_joined_68 rfl ?_
      refine k_top E (b2i false) rfl ?_
      exact k_zret E hQ hlk hr (by cases a <;> cases b <;> first | rfl | (cases c57; done) | exact absurd rfl c57) dX5_joined_69
    · refine lv_iload_n E.1.1 E.1.2.1 dX5_joined_60 rfl (lv_at hl 1 rfl) ?_
      refine k_if1 (tgt := 68) E dX5_joined_61 (by decide) (fun c61 => ?_) (fun c61 => ?_)
      · refine lv_iconst (v := nI 0) E.1.1 E.1.2.1 dX5_joined_68 rfl ?_
        refine k_top E (b2i false) rfl ?_
        exact k_zret E hQ hlk hr (by cases a <;> cases b <;> first | rfl | (cases c57; done) | exact absurd rfl c57 | (cases c61; done) | exact absurd rfl c61) dX5_joined_69
      · refine lv_iconst (v := nI 1) E.1.1 E.1.2.1 dX5_joined_64 rfl ?_
        refine lv_goto (tgt := 69) E.1.1 E.1.2.1 dX5_joined_65 (by decide) ?_
        refine k_top E (b2i true) rfl ?_
        exact k_zret E hQ hlk hr (by cases a <;> cases b <;> first | rfl | (cases c57; done) | exact absurd rfl c57 | (cases c61; done) | exact absurd rfl c61) dX5_joined_69
  · refine lv_tableOut (tgt := 70) E.1.1 E.1.2.1 dX5_joined_1 (Or.inr (by decide)) (by decide) ?_
    refine lv_iload_n E.1.1 E.1.2.1 dX5_joined_70 rfl (lv_at hl 0 rfl) ?_
    refine lv_iload_n E.1.1 E.1.2.1 dX5_joined_71 rfl (lv_at hl 1 rfl) ?_
    refine k_beq (tgt := 79) E dX5_joined_72 (by decide) (fun c72 => ?_) (fun c72 => ?_)
    · refine lv_iconst (v := nI 0) E.1.1 E.1.2.1 dX5_joined_79 rfl ?_
      refine k_top E (b2i false) rfl ?_
      exact k_zret E hQ hlk hr (by cases a <;> cases b <;> first | rfl | (cases c72; done) | exact absurd rfl c72) dX5_joined_80
    · refine lv_iconst (v := nI 1) E.1.1 E.1.2.1 dX5_joined_75 rfl ?_
      refine lv_goto (tgt := 80) E.1.1 E.1.2.1 dX5_joined_76 (by decide) ?_
      refine k_top E (b2i true) rfl ?_
      exact k_zret E hQ hlk hr (by cases a <;> cases b <;> first | rfl | (cases c72; done) | exact absurd rfl c72) dX5_joined_80
end
section
theorem mx0 {t : Nat} (ht : t < 2147483648) : (if nI 0 < nI t then nI t else nI 0) = nI t := by
  split
  · rfl
  · rename_i h
    have : ¬ 0 < t := fun z => h ((nI_ltI (by decide) ht).mpr z)
    rw [show t = 0 by omega]
theorem mx1 {t : Nat} (h0 : 0 < t) (ht : t < 2147483648) : (if nI 1 < nI t then nI t else nI 1) = nI t := by
  split
  · rfl
  · rename_i h
    have : ¬ 1 < t := fun z => h ((nI_ltI (by decide) ht).mpr z)
    rw [show t = 1 by omega]
theorem mxn {a b : Nat} (ha : a < 2147483648) (hb : b < 2147483648) : (if nI a < nI b then nI b else nI a) = nI (max a b) := by
  split
  · rename_i h
    have := (nI_ltI ha hb).mp h
    rw [Nat.max_eq_right (by omega)]
  · rename_i h
    have : ¬ a < b := fun z => h ((nI_ltI ha hb).mpr z)
    rw [Nat.max_eq_left (by omega)]
theorem wd0 : (fun _ : Nat => (0 : Int64)) = wd (fun _ => false) := funext (fun k => (wd_zero (fun _ _ => rfl)).symm)
/-- within the row, from t on, all comes round by q -/
def CR (b : Nat → Bool) (t per q : Nat) : Prop := ∀ n, t ≤ n → n + q < t + per → b n = b (n + q)
def LPer (b : Nat → Bool) (t per q : Nat) : Prop := (q = 0 ∧ ∀ j, 1 ≤ j → j ≤ 60 → j ≤ per → per % j = 0 → ¬ CR b t per j) ∨ (1 ≤ q ∧ q ≤ 60 ∧ q ≤ per ∧ per % q = 0 ∧ CR b t per q ∧ ∀ j, 1 ≤ j → j < q → per % j = 0 → ¬ CR b t per j)
def LSt (b : Nat → Bool) (t per x : Nat) : Prop := x ≤ t ∧ (∀ n, x ≤ n → n < t → b n = b (n + per)) ∧ (x = 0 ∨ (1 ≤ x ∧ b (x - 1) ≠ b (x - 1 + per)))
def bclr (b : Nat → Bool) (lo hi : Nat) : Nat → Bool := fun n => if lo ≤ n ∧ n < hi then false else b n
theorem bclr_0 (b : Nat → Bool) (n : Nat) : bclr b n n = b := by
  funext j
  simp only [bclr]
  rw [if_neg (by omega)]
theorem bclr_s (b : Nat → Bool) {lo n : Nat} (h : lo ≤ n) : bset (bclr b lo n) n false = bclr b lo (n + 1) := by
  funext j
  by_cases hj : j = n
  · subst hj
    rw [bset_same]
    simp [bclr, h]
  · rw [bset_ne _ _ hj]
    simp only [bclr]
    by_cases h2 : lo ≤ j ∧ j < n
    · rw [if_pos h2, if_pos (by omega)]
    · rw [if_neg h2, if_neg (by omega)]
theorem c_bitin (l : Launch) (D : va_G) (cy : Nat → ClassId) (L : List Nat) (f : Nat → va_E) (sz : Nat) (a n len : Nat) (b : Nat → Bool) (hn2 : n < 64 * len) (hn : n < 2147483648) (hlen : len < 33554432) (h_row : cel L f a (.inl (cy 1, len, .inr (.inl (wd b))))) : Met l yX5_bit (.code yX5_bit cX5_bit 3 (Option.some FieldType.boolean) :: wsL_law) { frames := 0, cells := 0, slots := 0, locals := 0 } (va_Pc [.ref a, .int (nI n)] (PW D cy L f sz)) (vp_Si (fun r => r = b2i (b n))) 0 0 (fun _ => False) := by
  have h := c_bit l D cy L f sz a n len b hn hlen h_row
  rw [show decide (n < 64 * len) = true from decide_eq_true hn2, Bool.true_and] at h
  exact h
theorem bclr_e (b : Nat → Bool) {lo n : Nat} (h1 : 192 ≤ n) (h2 : n ≤ 192 ∨ n = lo) : bclr b lo n = bclr b lo 192 := by
  rcases h2 with h2 | h2
  · rw [show n = 192 by omega]
  · subst h2
    funext j
    simp only [bclr]
    rw [if_neg (by omega), if_neg (by omega)]
set_option maxHeartbeats 4000000 in
set_option maxRecDepth 100000 in
theorem c_fill (l : Launch) (D : va_G) (cy : Nat → ClassId) (L : List Nat) (f0 : Nat → va_E) (sz : Nat) (a len : Nat) (g : Nat → Int64) (v : Int64) (hlen : len < 2147483648) (h_row : cel L f0 a (.inl (cy 1, len, .inr (.inl g)))) : Met l yJ7_fill_d0a16 (.code yJ7_fill_d0a16 cJ7_fill_d0a16 5 none :: wsL_law) { frames := 0, cells := 0, slots := 0, locals := 0 } (va_Pc [.ref a, .long v] (PW D cy L f0 sz)) (va_Qv (fun u : List Nat × (Nat → va_E) => L = u.1 ∧ (∀ b ∈ L, b ≠ a → u.2 b = f0 b) ∧ cel L u.2 a (.inl (cy 1, len, .inr (.inl (fun _ => v))))) (PB D (AW L sz)) (AW L sz)) 0 0 (AW L sz) := by
  refine m_start (by decide) (Nat.le_of_ble_eq_true rfl) ?_
  intro p e R Q s m args below meth c ls hsz hR hQ E hr hlk hnm hw hl
  have hl : lv_has ls 5 [(0, .ref a), (1, .long v)] := hl
  obtain ⟨H, hH⟩ : ∃ X, X = s.heap := ⟨_, rfl⟩
  obtain ⟨locs, hlocs⟩ : ∃ X : List Loc, X = [] := ⟨_, rfl⟩
  have hw0 := hw
  obtain ⟨f, hf0⟩ : ∃ X, X = f0 := ⟨_, rfl⟩
  rw [← hf0] at h_row
  have hw : WW D (AW L sz) s.heap L f H locs := by rw [hH, hlocs, hf0]; exact hw
  have hF : ∀ b ∈ L, b ≠ a → f b = f0 b := fun b hb h0 => by rw [hf0]
  suffices hgo : W p l e R s m args below meth c H locs 0 0 Q (F0 m 0 ls []) by rw [hH, hlocs] at hgo; exact hgo
  clear hH hlocs hw0 hf0
  have hLs : ∀ b ∈ L, b ∈ L := fun _ h => h
  refine lv_iconst (v := nI 0) E.1.1 E.1.2.1 dJ7_fill_d0a16_0 rfl ?_
  refine lv_istore_n (lv' := [(3, .int (nI 0)), (0, .ref a), (1, .long v)]) E.1.1 E.1.2.1 dJ7_fill_d0a16_1 rfl hl (by decide) rfl (fun ls hl => ?_)
  refine lv_aload_n E.1.1 E.1.2.1 dJ7_fill_d0a16_2 rfl (lv_at hl 1 rfl) ?_
  refine k_alen E hw 1 h_row rfl (n := len) rfl dJ7_fill_d0a16_3 ?_
  refine lv_istore (lv' := [(4, .int (nI len)), (3, .int (nI 0)), (0, .ref a), (1, .long v)]) E.1.1 E.1.2.1 dJ7_fill_d0a16_4 hl (by decide) rfl (fun ls hl => ?_)
  have lp6 : ∀ (k : Nat) (i : Nat) (g : Nat → Int64) (f : Nat → va_E) (H : Heap) (locs : List Loc) (ls : Array Slot), (len - i < k) → (i ≤ len) → (∀ j, j < i → g j = v) → (cel L f a (.inl (cy 1, len, .inr (.inl g)))) → (∀ b ∈ L, b ≠ a → f b = f0 b) → (WW D (AW L sz) s.heap L f H locs) → (lv_has ls 5 [(3, .int (nI i)), (4, .int (nI len)), (0, .ref a), (1, .long v)]) → W p l e R s m args below meth c H locs 0 0 Q (F0 m 6 ls []) := by
    intro k
    induction k with
    | zero => intro _ _ _ _ _ _ hk; exact absurd hk (Nat.not_lt_zero _)
    | succ k ih6 =>
      intro i g f H locs ls hk hi hg h_row hF hw hl
      refine lv_iload_n E.1.1 E.1.2.1 dJ7_fill_d0a16_6 rfl (lv_at hl 0 rfl) ?_
      refine lv_iload E.1.1 E.1.2.1 dJ7_fill_d0a16_7 (lv_at hl 1 rfl) ?_
      refine k_ge (tgt := 22) E dJ7_fill_d0a16_9 (by decide) (by omega) (by omega) (fun c9 => ?_) (fun c9 => ?_)
      · obtain ⟨f, h_row, hfr, hw⟩ := k_swl (fun _ => v) hw h_row (fun j hj => hg j (by omega))
        have hF : ∀ b ∈ L, b ≠ a → f b = f0 b := fun b hb h0 => (hfr b h0).trans (hF b hb h0)
        exact k_mvret E hQ hlk hr hw (Nat.le_of_ble_eq_true rfl) (Nat.le_of_ble_eq_true rfl) (⟨rfl, hF, h_row⟩) dJ7_fill_d0a16_22
      · refine lv_aload_n E.1.1 E.1.2.1 dJ7_fill_d0a16_12 rfl (lv_at hl 2 rfl) ?_
        refine lv_iload_n E.1.1 E.1.2.1 dJ7_fill_d0a16_13 rfl (lv_at hl 0 rfl) ?_
        refine lv_lload_n E.1.1 E.1.2.1 dJ7_fill_d0a16_14 rfl (lv_at hl 3 rfl) ?_
        refine k_last E hw (fun j => if j = i then v else g j) h_row (by omega) (by omega) (fun j hj => rfl) dJ7_fill_d0a16_15 (fun f H locs h_row hfr hw => ?_)
        have hF : ∀ b ∈ L, b ≠ a → f b = f0 b := fun b hb h0 => (hfr b h0).trans (hF b hb h0)
        refine lv_iinc (v := nI (i + 1)) (lv' := [(3, .int (nI (i + 1))), (4, .int (nI len)), (0, .ref a), (1, .long v)]) E.1.1 E.1.2.1 dJ7_fill_d0a16_16 hl (k := 0) rfl (nI_1 _) (by decide) rfl (fun ls hl => ?_)
        refine lv_goto (tgt := 6) E.1.1 E.1.2.1 dJ7_fill_d0a16_19 (by decide) ?_
        exact ih6  (i + 1) (fun j => if j = i then v else g j) f H locs ls (by omega) (by omega) (fun j hj => by
      by_cases h : j = i
      · simp [h]
      · simp [h]; exact hg j (by omega)) h_row hF hw (lv_sub hl [0, 1, 2, 3] rfl)
  exact lp6 (len - 0 + 1) 0 g f H locs ls (Nat.lt_succ_self _) (by omega) (fun j hj => absurd hj (by omega)) h_row hF hw (lv_sub hl [1, 0, 2, 3] rfl)

set_option maxHeartbeats 4000000 in
set_option maxRecDepth 100000 in
theorem c_open (l : Launch) (D : va_G) (cy : Nat → ClassId) (L : List Nat) (f0 : Nat → va_E) (sz : Nat) (d r0 t per : Nat) (i1 i2 : Int32) (g : Nat → Int64) (ht : t < 2147483648) (hper : 0 < per) (hper2 : per < 2147483648) (h_d : cel L f0 d (.inr (0, [.ref r0, .int i1, .int i2]))) (h_row : cel L f0 r0 (.inl (cy 1, 59, .inr (.inl g)))) : Met l yX0_open (.code yX0_open cX0_open 3 none :: wsL_law) { frames := 1, cells := 0, slots := 0, locals := 24 } (va_Pc [.ref d, .int (nI t), .int (nI per)] (PW D cy L f0 sz)) (va_Qv (fun u : List Nat × (Nat → va_E) => L = u.1 ∧ (∀ b ∈ L, b ≠ d → b ≠ r0 → u.2 b = f0 b) ∧ cel L u.2 d (.inr (0, [.ref r0, .int (nI t), .int (nI per)])) ∧ cel L u.2 r0 (.inl (cy 1, 59, .inr (.inl (wd (fun _ => false)))))) (PB D (AW L sz)) (AW L sz)) 0 0 (AW L sz) := by
  refine m_start (by decide) (Nat.le_of_ble_eq_true rfl) ?_
  intro p e R Q s m args below meth c ls hsz hR hQ E hr hlk hnm hw hl
  have hl : lv_has ls 3 [(0, .ref d), (1, .int (nI t)), (2, .int (nI per))] := hl
  obtain ⟨H, hH⟩ : ∃ X, X = s.heap := ⟨_, rfl⟩
  obtain ⟨locs, hlocs⟩ : ∃ X : List Loc, X = [] := ⟨_, rfl⟩
  have hw0 := hw
  obtain ⟨f, hf0⟩ : ∃ X, X = f0 := ⟨_, rfl⟩
  rw [← hf0] at h_d h_row
  have hw : WW D (AW L sz) s.heap L f H locs := by rw [hH, hlocs, hf0]; exact hw
  have hF : ∀ b ∈ L, b ≠ d → b ≠ r0 → f b = f0 b := fun b hb h0 h1 => by rw [hf0]
  suffices hgo : W p l e R s m args below meth c H locs 0 0 Q (F0 m 0 ls []) by rw [hH, hlocs] at hgo; exact hgo
  clear hH hlocs hw0 hf0
  have hLs : ∀ b ∈ L, b ∈ L := fun _ h => h
  have n_d_row : d ≠ r0 := h_d.ne h_row (by simp)
  have n_row_d : r0 ≠ d := h_row.ne h_d (by simp)
  refine lv_aload_n E.1.1 E.1.2.1 dX0_open_0 rfl (lv_at hl 0 rfl) ?_
  refine lv_iconst (v := nI 0) E.1.1 E.1.2.1 dX0_open_1 rfl ?_
  refine lv_iload_n E.1.1 E.1.2.1 dX0_open_2 rfl (lv_at hl 1 rfl) ?_
  refine va_mmax E.1.1 E.1.2.1 (by rw [E.1.2.2.1]; exact hl.1.symm) E.1.2.2.2.1 (E.1.2.2.2.2 _ w1_98) (E.1.2.2.2.2 _ w1_99) (E.1.2.2.2.2 _ w1_5) (E.1.2.2.2.2 _ w1_100) (by rw [hR]; exact Nat.le_of_ble_eq_true rfl) (by rw [hR]; exact Nat.le_of_ble_eq_true rfl) (by rw [hR]; exact Nat.le_of_ble_eq_true rfl) (by rw [hR]; first | exact Nat.le_of_ble_eq_true rfl | (dsimp only; omega)) dX0_open_3 ?_
  refine k_top E (nI t) (mx0 ht) ?_
  refine k_put (ty0 := tyX0) E inlX0 rfl tyX0_ok nmX0 1 (by decide) w1_35 rfl rfl hw [.ref r0, .int (nI t), .int i2] h_d (rfl) (rfl) (Nat.le_of_ble_eq_true rfl) rfl dX0_open_6 (fun f H locs h_d hfr hw => ?_)
  have h_row := h_row.kp hfr n_row_d
  have hF : ∀ b ∈ L, b ≠ d → b ≠ r0 → f b = f0 b := fun b hb h0 h1 => (hfr b h0).trans (hF b hb h0 h1)
  refine lv_aload_n E.1.1 E.1.2.1 dX0_open_9 rfl (lv_at hl 0 rfl) ?_
  refine lv_iconst (v := nI 1) E.1.1 E.1.2.1 dX0_open_10 rfl ?_
  refine lv_iload_n E.1.1 E.1.2.1 dX0_open_11 rfl (lv_at hl 2 rfl) ?_
  refine va_mmax E.1.1 E.1.2.1 (by rw [E.1.2.2.1]; exact hl.1.symm) E.1.2.2.2.1 (E.1.2.2.2.2 _ w1_98) (E.1.2.2.2.2 _ w1_99) (E.1.2.2.2.2 _ w1_5) (E.1.2.2.2.2 _ w1_100) (by rw [hR]; exact Nat.le_of_ble_eq_true rfl) (by rw [hR]; exact Nat.le_of_ble_eq_true rfl) (by rw [hR]; exact Nat.le_of_ble_eq_true rfl) (by rw [hR]; first | exact Nat.le_of_ble_eq_true rfl | (dsimp only; omega)) dX0_open_12 ?_
  refine k_top E (nI per) (mx1 hper hper2) ?_
  refine k_put (ty0 := tyX0) E inlX0 rfl tyX0_ok nmX0 2 (by decide) w1_38 rfl rfl hw [.ref r0, .int (nI t), .int (nI per)] h_d (rfl) (rfl) (Nat.le_of_ble_eq_true rfl) rfl dX0_open_15 (fun f H locs h_d hfr hw => ?_)
  have h_row := h_row.kp hfr n_row_d
  have hF : ∀ b ∈ L, b ≠ d → b ≠ r0 → f b = f0 b := fun b hb h0 h1 => (hfr b h0).trans (hF b hb h0 h1)
  refine lv_aload_n E.1.1 E.1.2.1 dX0_open_18 rfl (lv_at hl 0 rfl) ?_
  refine k_get (v := .ref r0) E inlX0 rfl 0 (by decide) w1_30 rfl hw h_d rfl dX0_open_19 ?_
  refine lv_lconst (v := 0) E.1.1 E.1.2.1 dX0_open_22 rfl ?_
  refine k_mv hw (va_runS (As := [.ref r0, .long 0]) (rest := []) E.1 (c_fill l D cy L f H.size r0 59 g 0 (by decide) h_row) ⟨callB_of 2 E.1.2.2.2.2 (gd_own w1_103) rfl rfl rfl (E.1.2.2.2.2 _ w1_6) (E.1.2.2.2.2 _ w1_101) hd_J7_fill_d0a16 (by rw [hR]; exact ⟨Nat.le_of_ble_eq_true rfl, Nat.le_of_ble_eq_true rfl⟩), E.1.2.2.2.2 _ w1_102⟩ (pw_pre E.2 hw) rfl rfl hl.1 rfl (lv_room (Nat.le_of_ble_eq_true rfl)) dX0_open_23 (by rw [hR]; exact ⟨Nat.le_of_ble_eq_true rfl, Nat.le_of_ble_eq_true rfl⟩)) (fun L1 f H locs hp hw => ?_)
  obtain ⟨hL1, hfr, h_row⟩ := hp
  have hL1 : L = L1 := hL1
  subst hL1
  have h_row : cel L f r0 (.inl (cy 1, 59, .inr (.inl (fun _ => 0)))) := h_row
  have h_d := h_d.keep (fun _ h => h) (hfr _ h_d.1 n_d_row)
  have hF : ∀ b ∈ L, b ≠ d → b ≠ r0 → f b = f0 b := fun b hb h0 h1 => (hfr b (hLs b hb) h1).trans (hF b hb h0 h1)
  rw [wd0] at h_row
  exact k_mvret E hQ hlk hr hw (Nat.le_of_ble_eq_true rfl) (Nat.le_of_ble_eq_true rfl) (⟨rfl, hF, h_d, h_row⟩) dX0_open_26

set_option maxHeartbeats 4000000 in
set_option maxRecDepth 100000 in
theorem c_length (l : Launch) (D : va_G) (cy : Nat → ClassId) (L : List Nat) (f : Nat → va_E) (sz : Nat) (d r0 t per : Nat) (h_d : cel L f d (.inr (0, [.ref r0, .int (nI t), .int (nI per)]))) : Met l yX0_length (.code yX0_length cX0_length 1 (Option.some FieldType.int) :: wsL_law) { frames := 0, cells := 0, slots := 0, locals := 0 } (va_Pc [.ref d] (PW D cy L f sz)) (vp_Si (fun r => r = nI (t + per))) 0 0 (fun _ => False) := by
  refine m_start (by decide) (Nat.le_of_ble_eq_true rfl) ?_
  intro p e R Q s m args below meth c ls hsz hR hQ E hr hlk hnm hw hl
  have hl : lv_has ls 1 [(0, .ref d)] := hl
  refine lv_aload_n E.1.1 E.1.2.1 dX0_length_0 rfl (lv_at hl 0 rfl) ?_
  refine k_get (v := .int (nI t)) E inlX0 rfl 1 (by decide) w1_35 rfl hw h_d rfl dX0_length_1 ?_
  refine lv_aload_n E.1.1 E.1.2.1 dX0_length_4 rfl (lv_at hl 0 rfl) ?_
  refine k_get (v := .int (nI per)) E inlX0 rfl 2 (by decide) w1_38 rfl hw h_d rfl dX0_length_5 ?_
  refine k_add E dX0_length_8 ?_
  exact k_iret E hQ hlk hr (rfl) dX0_length_9

set_option maxHeartbeats 4000000 in
set_option maxRecDepth 100000 in
theorem c_mark (l : Launch) (D : va_G) (cy : Nat → ClassId) (L : List Nat) (f0 : Nat → va_E) (sz : Nat) (d r0 t per n : Nat) (b : Nat → Bool) (hn : n < 3776) (h_d : cel L f0 d (.inr (0, [.ref r0, .int (nI t), .int (nI per)]))) (h_row : cel L f0 r0 (.inl (cy 1, 59, .inr (.inl (wd b))))) : Met l yX0_mark (.code yX0_mark cX0_mark 2 none :: wsL_law) { frames := 1, cells := 0, slots := 0, locals := 22 } (va_Pc [.ref d, .int (nI n)] (PW D cy L f0 sz)) (va_Qv (fun u : List Nat × (Nat → va_E) => L = u.1 ∧ (∀ b ∈ L, b ≠ r0 → u.2 b = f0 b) ∧ cel L u.2 r0 (.inl (cy 1, 59, .inr (.inl (wd (bset b n true)))))) (PB D (AW L sz)) (AW L sz)) 0 0 (AW L sz) := by
  refine m_start (by decide) (Nat.le_of_ble_eq_true rfl) ?_
  intro p e R Q s m args below meth c ls hsz hR hQ E hr hlk hnm hw hl
  have hl : lv_has ls 2 [(0, .ref d), (1, .int (nI n))] := hl
  obtain ⟨H, hH⟩ : ∃ X, X = s.heap := ⟨_, rfl⟩
  obtain ⟨locs, hlocs⟩ : ∃ X : List Loc, X = [] := ⟨_, rfl⟩
  have hw0 := hw
  obtain ⟨f, hf0⟩ : ∃ X, X = f0 := ⟨_, rfl⟩
  rw [← hf0] at h_d h_row
  have hw : WW D (AW L sz) s.heap L f H locs := by rw [hH, hlocs, hf0]; exact hw
  have hF : ∀ b ∈ L, b ≠ r0 → f b = f0 b := fun b hb h0 => by rw [hf0]
  suffices hgo : W p l e R s m args below meth c H locs 0 0 Q (F0 m 0 ls []) by rw [hH, hlocs] at hgo; exact hgo
  clear hH hlocs hw0 hf0
  have hLs : ∀ b ∈ L, b ∈ L := fun _ h => h
  have n_d_row : d ≠ r0 := h_d.ne h_row (by simp)
  refine lv_aload_n E.1.1 E.1.2.1 dX0_mark_0 rfl (lv_at hl 0 rfl) ?_
  refine k_get (v := .ref r0) E inlX0 rfl 0 (by decide) w1_30 rfl hw h_d rfl dX0_mark_1 ?_
  refine lv_iload_n E.1.1 E.1.2.1 dX0_mark_4 rfl (lv_at hl 1 rfl) ?_
  refine k_mv hw (va_runSN (As := [.ref r0, .int (nI n)]) (rest := []) E.1 (c_setBit l D cy L f H.size r0 n 59 b (by omega) (by decide) h_row) ⟨va_cnB 2 E.1.2.2.2.2 (gd_own w2_32) rfl rfl rfl (E.2.2.1 _ (List.mem_of_getElem? (i := 18) rfl)) (E.1.2.2.2.2 _ w1_1) hd_X5_setBit (by rw [hR]; exact ⟨Nat.le_of_ble_eq_true rfl, Nat.le_of_ble_eq_true rfl⟩), E.1.2.2.2.2 _ w2_31, trivial⟩ (pw_pre E.2 hw) rfl rfl hl.1 rfl (lv_room (Nat.le_of_ble_eq_true rfl)) dX0_mark_5 (by rw [hR]; exact ⟨Nat.le_of_ble_eq_true rfl, Nat.le_of_ble_eq_true rfl⟩)) (fun L1 f H locs hp hw => ?_)
  obtain ⟨hL1, hfr, h_row⟩ := hp
  have hL1 : L = L1 := hL1
  subst hL1
  have h_row : cel L f r0 (.inl (cy 1, 59, .inr (.inl (wd (bset b n true))))) := h_row
  have h_d := h_d.keep (fun _ h => h) (hfr _ h_d.1 n_d_row)
  have hF : ∀ b ∈ L, b ≠ r0 → f b = f0 b := fun b hb h0 => (hfr b (hLs b hb) h0).trans (hF b hb h0)
  exact k_mvret E hQ hlk hr hw (Nat.le_of_ble_eq_true rfl) (Nat.le_of_ble_eq_true rfl) (⟨rfl, hF, h_row⟩) dX0_mark_8

set_option maxHeartbeats 4000000 in
set_option maxRecDepth 100000 in
theorem c_comesRoundBy (l : Launch) (D : va_G) (cy : Nat → ClassId) (L : List Nat) (f : Nat → va_E) (sz : Nat) (d r0 t per q : Nat) (b : Nat → Bool) (hb1 : t + per ≤ 3776) (hq : q ≤ 3776) (h_d : cel L f d (.inr (0, [.ref r0, .int (nI t), .int (nI per)]))) (h_row : cel L f r0 (.inl (cy 1, 59, .inr (.inl (wd b))))) : Met l yX0_comesRoundBy (.code yX0_comesRoundBy cX0_comesRoundBy 3 (Option.some FieldType.boolean) :: wsL_law) { frames := 1, cells := 0, slots := 0, locals := 22 } (va_Pc [.ref d, .int (nI q)] (PW D cy L f sz)) (vp_Si (fun r => r = b2i (dB (CR b t per q)))) 0 0 (fun _ => False) := by
  refine m_start (by decide) (Nat.le_of_ble_eq_true rfl) ?_
  intro p e R Q s m args below meth c ls hsz hR hQ E hr hlk hnm hw hl
  have hl : lv_has ls 3 [(0, .ref d), (1, .int (nI q))] := hl
  refine lv_aload_n E.1.1 E.1.2.1 dX0_comesRoundBy_0 rfl (lv_at hl 0 rfl) ?_
  refine k_get (v := .int (nI t)) E inlX0 rfl 1 (by decide) w1_35 rfl hw h_d rfl dX0_comesRoundBy_1 ?_
  refine lv_istore_n (lv' := [(2, .int (nI t)), (0, .ref d), (1, .int (nI q))]) E.1.1 E.1.2.1 dX0_comesRoundBy_4 rfl hl (by decide) rfl (fun ls hl => ?_)
  have lp5 : ∀ (k : Nat) (n : Nat) (ls : Array Slot), (t + per - n < k) → (t ≤ n) → (∀ j, t ≤ j → j < n → j + q < t + per → b j = b (j + q)) → (n ≤ t + per) → (lv_has ls 3 [(2, .int (nI n)), (0, .ref d), (1, .int (nI q))]) → W p l e R s m args below meth c s.heap [] 0 0 Q (F0 m 5 ls []) := by
    intro k
    induction k with
    | zero => intro _ _ hk; exact absurd hk (Nat.not_lt_zero _)
    | succ k ih5 =>
      intro n  ls hk hn hg hn2 hl
      refine lv_iload_n E.1.1 E.1.2.1 dX0_comesRoundBy_5 rfl (lv_at hl 0 rfl) ?_
      refine lv_iload_n E.1.1 E.1.2.1 dX0_comesRoundBy_6 rfl (lv_at hl 2 rfl) ?_
      refine k_add E dX0_comesRoundBy_7 ?_
      refine lv_aload_n E.1.1 E.1.2.1 dX0_comesRoundBy_8 rfl (lv_at hl 1 rfl) ?_
      refine k_ri (va_runV (As := []) (rest := [.int (nI (n + q))]) E.1 (c_length l D cy L f s.heap.size d r0 t per h_d) ⟨callB_of 0 E.1.2.2.2.2 (gd_own w1_123) rfl rfl rfl (E.1.2.2.2.2 _ w1_2) (E.1.2.2.2.2 _ w1_120) hd_X0_length (by rw [hR]; exact ⟨Nat.le_of_ble_eq_true rfl, Nat.le_of_ble_eq_true rfl⟩), E.1.2.2.2.2 _ w1_121, E.1.2.2.2.2 _ w1_122⟩ (pw_preV (q := (RX0, TX0, 3)) E.2 hw h_d rfl) rfl rfl hl.1 rfl (lv_room (Nat.le_of_ble_eq_true rfl)) dX0_comesRoundBy_9 ⟨Nat.zero_le _, Nat.zero_le _⟩) ?_
      refine k_ge (tgt := 44) E dX0_comesRoundBy_12 (by decide) (by omega) (by omega) (fun c12 => ?_) (fun c12 => ?_)
      · refine lv_iconst (v := nI 1) E.1.1 E.1.2.1 dX0_comesRoundBy_44 rfl ?_
        refine k_top E (b2i true) rfl ?_
        exact k_zret E hQ hlk hr (by rw [dB_t (show CR b t per q from fun j h1 h2 => hg j h1 (by omega) h2)]) dX0_comesRoundBy_45
      · refine lv_aload_n E.1.1 E.1.2.1 dX0_comesRoundBy_15 rfl (lv_at hl 1 rfl) ?_
        refine k_get (v := .ref r0) E inlX0 rfl 0 (by decide) w1_30 rfl hw h_d rfl dX0_comesRoundBy_16 ?_
        refine lv_iload_n E.1.1 E.1.2.1 dX0_comesRoundBy_19 rfl (lv_at hl 0 rfl) ?_
        refine k_ri (va_runSN (As := [.ref r0, .int (nI n)]) (rest := []) E.1 (c_bitin l D cy L f s.heap.size r0 (n) 59 b (by omega) (by omega) (by decide) h_row) ⟨va_cnB 2 E.1.2.2.2.2 (gd_own w1_126) rfl rfl rfl (E.2.2.1 _ (List.mem_of_getElem? (i := 10) rfl)) (E.1.2.2.2.2 _ w1_1) hd_X5_bit (by rw [hR]; exact ⟨Nat.le_of_ble_eq_true rfl, Nat.le_of_ble_eq_true rfl⟩), E.1.2.2.2.2 _ w1_125, trivial⟩ (pw_pre E.2 hw) rfl rfl hl.1 rfl (lv_room (Nat.le_of_ble_eq_true rfl)) dX0_comesRoundBy_20 ⟨Nat.zero_le _, Nat.zero_le _⟩) ?_
        refine lv_aload_n E.1.1 E.1.2.1 dX0_comesRoundBy_23 rfl (lv_at hl 1 rfl) ?_
        refine k_get (v := .ref r0) E inlX0 rfl 0 (by decide) w1_30 rfl hw h_d rfl dX0_comesRoundBy_24 ?_
        refine lv_iload_n E.1.1 E.1.2.1 dX0_comesRoundBy_27 rfl (lv_at hl 0 rfl) ?_
        refine lv_iload_n E.1.1 E.1.2.1 dX0_comesRoundBy_28 rfl (lv_at hl 2 rfl) ?_
        refine k_add E dX0_comesRoundBy_29 ?_
        refine k_ri (va_runSN (As := [.ref r0, .int (nI (n + q))]) (rest := [.int (b2i (b (n)))]) E.1 (c_bitin l D cy L f s.heap.size r0 (n + q) 59 b (by omega) (by omega) (by decide) h_row) ⟨va_cnB 2 E.1.2.2.2.2 (gd_own w1_126) rfl rfl rfl (E.2.2.1 _ (List.mem_of_getElem? (i := 10) rfl)) (E.1.2.2.2.2 _ w1_1) hd_X5_bit (by rw [hR]; exact ⟨Nat.le_of_ble_eq_true rfl, Nat.le_of_ble_eq_true rfl⟩), E.1.2.2.2.2 _ w1_125, trivial⟩ (pw_pre E.2 hw) rfl rfl hl.1 rfl (lv_room (Nat.le_of_ble_eq_true rfl)) dX0_comesRoundBy_30 ⟨Nat.zero_le _, Nat.zero_le _⟩) ?_
        refine k_beq (tgt := 38) E dX0_comesRoundBy_33 (by decide) (fun c33 => ?_) (fun c33 => ?_)
        · refine lv_iinc (v := nI (n + 1)) (lv' := [(2, .int (nI (n + 1))), (0, .ref d), (1, .int (nI q))]) E.1.1 E.1.2.1 dX0_comesRoundBy_38 hl (k := 0) rfl (nI_1 _) (by decide) rfl (fun ls hl => ?_)
          refine lv_goto (tgt := 5) E.1.1 E.1.2.1 dX0_comesRoundBy_41 (by decide) ?_
          exact ih5  (n + 1) ls (by omega) (by omega) (fun j h1 h2 h3 => by
      by_cases h : j = n
      · rw [h]; exact c33
      · exact hg j h1 (by omega) h3) (by omega)  (lv_sub hl [0, 1, 2] rfl)
        · refine lv_iconst (v := nI 0) E.1.1 E.1.2.1 dX0_comesRoundBy_36 rfl ?_
          refine k_top E (b2i false) rfl ?_
          exact k_zret E hQ hlk hr (by rw [dB_f (fun h : CR b t per q => c33 (h n hn (by omega)))]) dX0_comesRoundBy_37
  exact lp5 (t + per - t + 1) t ls (Nat.lt_succ_self _) (by omega) (fun j h1 h2 => absurd h2 (by omega)) (by omega)  (lv_sub hl [0, 1, 2] rfl)

set_option maxHeartbeats 4000000 in
set_option maxRecDepth 100000 in
theorem c_leastPeriod (l : Launch) (D : va_G) (cy : Nat → ClassId) (L : List Nat) (f : Nat → va_E) (sz : Nat) (d r0 t per : Nat) (b : Nat → Bool) (hb1 : t + per ≤ 3776) (hper : 0 < per) (h_d : cel L f d (.inr (0, [.ref r0, .int (nI t), .int (nI per)]))) (h_row : cel L f r0 (.inl (cy 1, 59, .inr (.inl (wd b))))) : Met l yX0_leastPeriod (.code yX0_leastPeriod cX0_leastPeriod 2 (Option.some FieldType.int) :: wsL_law) { frames := 2, cells := 0, slots := 0, locals := 44 } (va_Pc [.ref d] (PW D cy L f sz)) (vp_Si (fun r => ∃ q, r = nI q ∧ LPer b t per q)) 0 0 (fun _ => False) := by
  refine m_start (by decide) (Nat.le_of_ble_eq_true rfl) ?_
  intro p e R Q s m args below meth c ls hsz hR hQ E hr hlk hnm hw hl
  have hl : lv_has ls 2 [(0, .ref d)] := hl
  refine lv_iconst (v := nI 1) E.1.1 E.1.2.1 dX0_leastPeriod_0 rfl ?_
  refine lv_istore_n (lv' := [(1, .int (nI 1)), (0, .ref d)]) E.1.1 E.1.2.1 dX0_leastPeriod_1 rfl hl (by decide) rfl (fun ls hl => ?_)
  have lp2 : ∀ (k : Nat) (q : Nat) (ls : Array Slot), (61 - q < k) → (1 ≤ q) → (q ≤ 61) → (∀ j, 1 ≤ j → j < q → per % j = 0 → ¬ CR b t per j) → (lv_has ls 2 [(1, .int (nI q)), (0, .ref d)]) → W p l e R s m args below meth c s.heap [] 0 0 Q (F0 m 2 ls []) := by
    intro k
    induction k with
    | zero => intro _ _ hk; exact absurd hk (Nat.not_lt_zero _)
    | succ k ih2 =>
      intro q  ls hk hq hq2 hg hl
      refine lv_iload_n E.1.1 E.1.2.1 dX0_leastPeriod_2 rfl (lv_at hl 0 rfl) ?_
      refine lv_aload_n E.1.1 E.1.2.1 dX0_leastPeriod_3 rfl (lv_at hl 1 rfl) ?_
      refine k_get (v := .int (nI per)) E inlX0 rfl 2 (by decide) w1_38 rfl hw h_d rfl dX0_leastPeriod_4 ?_
      refine k_gt (tgt := 41) E dX0_leastPeriod_7 (by decide) (by omega) (by omega) (fun c7 => ?_) (fun c7 => ?_)
      · refine lv_iconst (v := nI 0) E.1.1 E.1.2.1 dX0_leastPeriod_41 rfl ?_
        exact k_iret E hQ hlk hr (⟨0, rfl, Or.inl ⟨rfl, fun j h1 h2 h3 => hg j h1 (by omega)⟩⟩) dX0_leastPeriod_42
      · refine lv_iload_n E.1.1 E.1.2.1 dX0_leastPeriod_10 rfl (lv_at hl 0 rfl) ?_
        refine lv_bipush (v := nI 60) E.1.1 E.1.2.1 dX0_leastPeriod_11 rfl ?_
        refine k_gt (tgt := 41) E dX0_leastPeriod_13 (by decide) (by omega) (by omega) (fun c13 => ?_) (fun c13 => ?_)
        · refine lv_iconst (v := nI 0) E.1.1 E.1.2.1 dX0_leastPeriod_41 rfl ?_
          exact k_iret E hQ hlk hr (⟨0, rfl, Or.inl ⟨rfl, fun j h1 h2 h3 => hg j h1 (by omega)⟩⟩) dX0_leastPeriod_42
        · have hm := Nat.mod_lt per (show 0 < q by omega)
          refine lv_aload_n E.1.1 E.1.2.1 dX0_leastPeriod_16 rfl (lv_at hl 1 rfl) ?_
          refine k_get (v := .int (nI per)) E inlX0 rfl 2 (by decide) w1_38 rfl hw h_d rfl dX0_leastPeriod_17 ?_
          refine lv_iload_n E.1.1 E.1.2.1 dX0_leastPeriod_20 rfl (lv_at hl 0 rfl) ?_
          refine k_rem E dX0_leastPeriod_21 (by omega) (by omega) (by omega) ?_
          refine k_z1 (tgt := 35) E dX0_leastPeriod_22 (by decide) (by omega) (fun c22 => ?_) (fun c22 => ?_)
          · refine lv_iinc (v := nI (q + 1)) (lv' := [(1, .int (nI (q + 1))), (0, .ref d)]) E.1.1 E.1.2.1 dX0_leastPeriod_35 hl (k := 0) rfl (nI_1 _) (by decide) rfl (fun ls hl => ?_)
            refine lv_goto (tgt := 2) E.1.1 E.1.2.1 dX0_leastPeriod_38 (by decide) ?_
            exact ih2  (q + 1) ls (by omega) (by omega) (by omega) (fun j h1 h2 h3 => by
      by_cases h : j = q
      · rw [h] at h3 ⊢; first | exact absurd h3 c22 | exact fun hc => absurd (dB_t hc) (by rw [c30]; decide)
      · exact hg j h1 (by omega) h3)  (lv_sub hl [0, 1] rfl)
          · refine lv_aload_n E.1.1 E.1.2.1 dX0_leastPeriod_25 rfl (lv_at hl 1 rfl) ?_
            refine lv_iload_n E.1.1 E.1.2.1 dX0_leastPeriod_26 rfl (lv_at hl 0 rfl) ?_
            refine k_ri (va_runV (As := [.int (nI q)]) (rest := []) E.1 (c_comesRoundBy l D cy L f s.heap.size d r0 t per q b (by omega) (by omega) h_d h_row) ⟨callB_of 1 E.1.2.2.2.2 (gd_own w1_119) rfl rfl rfl (E.1.2.2.2.2 _ w1_2) (E.1.2.2.2.2 _ w1_116) hd_X0_comesRoundBy (by rw [hR]; exact ⟨Nat.le_of_ble_eq_true rfl, Nat.le_of_ble_eq_true rfl⟩), E.1.2.2.2.2 _ w1_118, E.1.2.2.2.2 _ ws_3⟩ (pw_preV (q := (RX0, TX0, 3)) E.2 hw h_d rfl) rfl rfl hl.1 rfl (lv_room (Nat.le_of_ble_eq_true rfl)) dX0_leastPeriod_27 ⟨Nat.zero_le _, Nat.zero_le _⟩) ?_
            refine k_if0 (tgt := 35) E dX0_leastPeriod_30 (by decide) (fun c30 => ?_) (fun c30 => ?_)
            · refine lv_iinc (v := nI (q + 1)) (lv' := [(1, .int (nI (q + 1))), (0, .ref d)]) E.1.1 E.1.2.1 dX0_leastPeriod_35 hl (k := 0) rfl (nI_1 _) (by decide) rfl (fun ls hl => ?_)
              refine lv_goto (tgt := 2) E.1.1 E.1.2.1 dX0_leastPeriod_38 (by decide) ?_
              exact ih2  (q + 1) ls (by omega) (by omega) (by omega) (fun j h1 h2 h3 => by
      by_cases h : j = q
      · rw [h] at h3 ⊢; first | exact absurd h3 c22 | exact fun hc => absurd (dB_t hc) (by rw [c30]; decide)
      · exact hg j h1 (by omega) h3)  (lv_sub hl [0, 1] rfl)
            · refine lv_iload_n E.1.1 E.1.2.1 dX0_leastPeriod_33 rfl (lv_at hl 0 rfl) ?_
              exact k_iret E hQ hlk hr (⟨q, rfl, Or.inr ⟨by omega, by omega, by omega, c22, dB_iff.mp c30, hg⟩⟩) dX0_leastPeriod_34
  exact lp2 (61 - 1 + 1) 1 ls (Nat.lt_succ_self _) (by omega) (by omega) (fun j h1 h2 => absurd h2 (by omega))  (lv_sub hl [0, 1] rfl)

set_option maxHeartbeats 4000000 in
set_option maxRecDepth 100000 in
theorem c_leastStart (l : Launch) (D : va_G) (cy : Nat → ClassId) (L : List Nat) (f : Nat → va_E) (sz : Nat) (d r0 t per : Nat) (b : Nat → Bool) (hb1 : t + per ≤ 3776) (h_d : cel L f d (.inr (0, [.ref r0, .int (nI t), .int (nI per)]))) (h_row : cel L f r0 (.inl (cy 1, 59, .inr (.inl (wd b))))) : Met l yX0_leastStart (.code yX0_leastStart cX0_leastStart 2 (Option.some FieldType.int) :: wsL_law) { frames := 1, cells := 0, slots := 0, locals := 22 } (va_Pc [.ref d] (PW D cy L f sz)) (vp_Si (fun r => ∃ x, r = nI x ∧ LSt b t per x)) 0 0 (fun _ => False) := by
  refine m_start (by decide) (Nat.le_of_ble_eq_true rfl) ?_
  intro p e R Q s m args below meth c ls hsz hR hQ E hr hlk hnm hw hl
  have hl : lv_has ls 2 [(0, .ref d)] := hl
  refine lv_aload_n E.1.1 E.1.2.1 dX0_leastStart_0 rfl (lv_at hl 0 rfl) ?_
  refine k_get (v := .int (nI t)) E inlX0 rfl 1 (by decide) w1_35 rfl hw h_d rfl dX0_leastStart_1 ?_
  refine lv_istore_n (lv' := [(1, .int (nI t)), (0, .ref d)]) E.1.1 E.1.2.1 dX0_leastStart_4 rfl hl (by decide) rfl (fun ls hl => ?_)
  have lp5 : ∀ (k : Nat) (x : Nat) (ls : Array Slot), (x < k) → (x ≤ t) → (∀ n, x ≤ n → n < t → b n = b (n + per)) → (lv_has ls 2 [(1, .int (nI x)), (0, .ref d)]) → W p l e R s m args below meth c s.heap [] 0 0 Q (F0 m 5 ls []) := by
    intro k
    induction k with
    | zero => intro _ _ hk; exact absurd hk (Nat.not_lt_zero _)
    | succ k ih5 =>
      intro x  ls hk hx hg hl
      refine lv_iload_n E.1.1 E.1.2.1 dX0_leastStart_5 rfl (lv_at hl 0 rfl) ?_
      refine k_zle (tgt := 43) E dX0_leastStart_6 (by decide) (by omega) (fun c6 => ?_) (fun c6 => ?_)
      · refine lv_iload_n E.1.1 E.1.2.1 dX0_leastStart_43 rfl (lv_at hl 0 rfl) ?_
        exact k_iret E hQ hlk hr (⟨x, rfl, hx, hg, Or.inl c6⟩) dX0_leastStart_44
      · refine lv_aload_n E.1.1 E.1.2.1 dX0_leastStart_9 rfl (lv_at hl 1 rfl) ?_
        refine k_get (v := .ref r0) E inlX0 rfl 0 (by decide) w1_30 rfl hw h_d rfl dX0_leastStart_10 ?_
        refine lv_iload_n E.1.1 E.1.2.1 dX0_leastStart_13 rfl (lv_at hl 0 rfl) ?_
        refine lv_iconst (v := nI 1) E.1.1 E.1.2.1 dX0_leastStart_14 rfl ?_
        refine k_sub E dX0_leastStart_15 (by omega) ?_
        refine k_ri (va_runSN (As := [.ref r0, .int (nI (x - 1))]) (rest := []) E.1 (c_bitin l D cy L f s.heap.size r0 (x - 1) 59 b (by omega) (by omega) (by decide) h_row) ⟨va_cnB 2 E.1.2.2.2.2 (gd_own w1_126) rfl rfl rfl (E.2.2.1 _ (List.mem_of_getElem? (i := 10) rfl)) (E.1.2.2.2.2 _ w1_1) hd_X5_bit (by rw [hR]; exact ⟨Nat.le_of_ble_eq_true rfl, Nat.le_of_ble_eq_true rfl⟩), E.1.2.2.2.2 _ w1_125, trivial⟩ (pw_pre E.2 hw) rfl rfl hl.1 rfl (lv_room (Nat.le_of_ble_eq_true rfl)) dX0_leastStart_16 ⟨Nat.zero_le _, Nat.zero_le _⟩) ?_
        refine lv_aload_n E.1.1 E.1.2.1 dX0_leastStart_19 rfl (lv_at hl 1 rfl) ?_
        refine k_get (v := .ref r0) E inlX0 rfl 0 (by decide) w1_30 rfl hw h_d rfl dX0_leastStart_20 ?_
        refine lv_iload_n E.1.1 E.1.2.1 dX0_leastStart_23 rfl (lv_at hl 0 rfl) ?_
        refine lv_iconst (v := nI 1) E.1.1 E.1.2.1 dX0_leastStart_24 rfl ?_
        refine k_sub E dX0_leastStart_25 (by omega) ?_
        refine lv_aload_n E.1.1 E.1.2.1 dX0_leastStart_26 rfl (lv_at hl 1 rfl) ?_
        refine k_get (v := .int (nI per)) E inlX0 rfl 2 (by decide) w1_38 rfl hw h_d rfl dX0_leastStart_27 ?_
        refine k_add E dX0_leastStart_30 ?_
        refine k_ri (va_runSN (As := [.ref r0, .int (nI ((x - 1) + per))]) (rest := [.int (b2i (b (x - 1)))]) E.1 (c_bitin l D cy L f s.heap.size r0 ((x - 1) + per) 59 b (by omega) (by omega) (by decide) h_row) ⟨va_cnB 2 E.1.2.2.2.2 (gd_own w1_126) rfl rfl rfl (E.2.2.1 _ (List.mem_of_getElem? (i := 10) rfl)) (E.1.2.2.2.2 _ w1_1) hd_X5_bit (by rw [hR]; exact ⟨Nat.le_of_ble_eq_true rfl, Nat.le_of_ble_eq_true rfl⟩), E.1.2.2.2.2 _ w1_125, trivial⟩ (pw_pre E.2 hw) rfl rfl hl.1 rfl (lv_room (Nat.le_of_ble_eq_true rfl)) dX0_leastStart_31 ⟨Nat.zero_le _, Nat.zero_le _⟩) ?_
        refine k_bne (tgt := 43) E dX0_leastStart_34 (by decide) (fun c34 => ?_) (fun c34 => ?_)
        · refine lv_iload_n E.1.1 E.1.2.1 dX0_leastStart_43 rfl (lv_at hl 0 rfl) ?_
          exact k_iret E hQ hlk hr (⟨x, rfl, hx, hg, Or.inr ⟨by omega, c34⟩⟩) dX0_leastStart_44
        · refine lv_iinc (v := nI (x - 1)) (lv' := [(1, .int (nI (x - 1))), (0, .ref d)]) E.1.1 E.1.2.1 dX0_leastStart_37 hl (k := 0) rfl (sb_m1 (by omega)) (by decide) rfl (fun ls hl => ?_)
          refine lv_goto (tgt := 5) E.1.1 E.1.2.1 dX0_leastStart_40 (by decide) ?_
          exact ih5  (x - 1) ls (by omega) (by omega) (fun n h1 h2 => by
      by_cases h : n = x - 1
      · rw [h]; exact c34
      · exact hg n (by omega) h2)  (lv_sub hl [0, 1] rfl)
  exact lp5 (t + 1) t ls (Nat.lt_succ_self _) (by omega) (fun n h1 h2 => absurd h2 (by omega))  (lv_sub hl [0, 1] rfl)

set_option maxHeartbeats 4000000 in
set_option maxRecDepth 100000 in
theorem c_clearBehind (l : Launch) (D : va_G) (cy : Nat → ClassId) (L : List Nat) (f0 : Nat → va_E) (sz : Nat) (d r0 t per : Nat) (b : Nat → Bool) (hb1 : t + per ≤ 3776) (h_d : cel L f0 d (.inr (0, [.ref r0, .int (nI t), .int (nI per)]))) (h_row : cel L f0 r0 (.inl (cy 1, 59, .inr (.inl (wd b))))) : Met l yX0_clearBehind (.code yX0_clearBehind cX0_clearBehind 2 none :: wsL_law) { frames := 1, cells := 0, slots := 0, locals := 22 } (va_Pc [.ref d] (PW D cy L f0 sz)) (va_Qv (fun u : List Nat × (Nat → va_E) => L = u.1 ∧ (∀ b ∈ L, b ≠ r0 → u.2 b = f0 b) ∧ cel L u.2 r0 (.inl (cy 1, 59, .inr (.inl (wd (bclr b (t + per) 192)))))) (PB D (AW L sz)) (AW L sz)) 0 0 (AW L sz) := by
  refine m_start (by decide) (Nat.le_of_ble_eq_true rfl) ?_
  intro p e R Q s m args below meth c ls hsz hR hQ E hr hlk hnm hw hl
  have hl : lv_has ls 2 [(0, .ref d)] := hl
  obtain ⟨H, hH⟩ : ∃ X, X = s.heap := ⟨_, rfl⟩
  obtain ⟨locs, hlocs⟩ : ∃ X : List Loc, X = [] := ⟨_, rfl⟩
  have hw0 := hw
  obtain ⟨f, hf0⟩ : ∃ X, X = f0 := ⟨_, rfl⟩
  rw [← hf0] at h_d h_row
  have hw : WW D (AW L sz) s.heap L f H locs := by rw [hH, hlocs, hf0]; exact hw
  have hF : ∀ b ∈ L, b ≠ r0 → f b = f0 b := fun b hb h0 => by rw [hf0]
  suffices hgo : W p l e R s m args below meth c H locs 0 0 Q (F0 m 0 ls []) by rw [hH, hlocs] at hgo; exact hgo
  clear hH hlocs hw0 hf0
  have hLs : ∀ b ∈ L, b ∈ L := fun _ h => h
  have n_d_row : d ≠ r0 := h_d.ne h_row (by simp)
  refine lv_aload_n E.1.1 E.1.2.1 dX0_clearBehind_0 rfl (lv_at hl 0 rfl) ?_
  refine k_ri (va_runV (As := []) (rest := []) E.1 (c_length l D cy L f H.size d r0 t per h_d) ⟨callB_of 0 E.1.2.2.2.2 (gd_own w1_123) rfl rfl rfl (E.1.2.2.2.2 _ w1_2) (E.1.2.2.2.2 _ w1_120) hd_X0_length (by rw [hR]; exact ⟨Nat.le_of_ble_eq_true rfl, Nat.le_of_ble_eq_true rfl⟩), E.1.2.2.2.2 _ w1_121, E.1.2.2.2.2 _ w1_122⟩ (pw_preV (q := (RX0, TX0, 3)) E.2 hw h_d rfl) rfl rfl hl.1 rfl (lv_room (Nat.le_of_ble_eq_true rfl)) dX0_clearBehind_1 ⟨Nat.zero_le _, Nat.zero_le _⟩) ?_
  rw [← bclr_0 b (t + per)] at h_row
  refine lv_istore_n (lv' := [(1, .int (nI (t + per))), (0, .ref d)]) E.1.1 E.1.2.1 dX0_clearBehind_4 rfl hl (by decide) rfl (fun ls hl => ?_)
  have lp5 : ∀ (k : Nat) (n : Nat) (f : Nat → va_E) (H : Heap) (locs : List Loc) (ls : Array Slot), (192 - n < k) → (t + per ≤ n) → (n ≤ 192 ∨ n = t + per) → (cel L f d (.inr (0, [.ref r0, .int (nI t), .int (nI per)]))) → (cel L f r0 (.inl (cy 1, 59, .inr (.inl (wd (bclr b (t + per) n)))))) → (∀ b ∈ L, b ≠ r0 → f b = f0 b) → (WW D (AW L sz) s.heap L f H locs) → (lv_has ls 2 [(1, .int (nI n)), (0, .ref d)]) → W p l e R s m args below meth c H locs 0 0 Q (F0 m 5 ls []) := by
    intro k
    induction k with
    | zero => intro _ _ _ _ _ hk; exact absurd hk (Nat.not_lt_zero _)
    | succ k ih5 =>
      intro n f H locs ls hk hn hn2 h_d h_row hF hw hl
      refine lv_iload_n E.1.1 E.1.2.1 dX0_clearBehind_5 rfl (lv_at hl 0 rfl) ?_
      refine lv_sipush (v := nI 192) E.1.1 E.1.2.1 dX0_clearBehind_6 rfl ?_
      refine k_ge (tgt := 26) E dX0_clearBehind_9 (by decide) (by omega) (by omega) (fun c9 => ?_) (fun c9 => ?_)
      · exact k_mvret E hQ hlk hr hw (Nat.le_of_ble_eq_true rfl) (Nat.le_of_ble_eq_true rfl) (⟨rfl, hF, by rw [bclr_e b c9 hn2] at h_row; exact h_row⟩) dX0_clearBehind_26
      · refine lv_aload_n E.1.1 E.1.2.1 dX0_clearBehind_12 rfl (lv_at hl 1 rfl) ?_
        refine k_get (v := .ref r0) E inlX0 rfl 0 (by decide) w1_30 rfl hw h_d rfl dX0_clearBehind_13 ?_
        refine lv_iload_n E.1.1 E.1.2.1 dX0_clearBehind_16 rfl (lv_at hl 0 rfl) ?_
        refine k_mv hw (va_runSN (As := [.ref r0, .int (nI n)]) (rest := []) E.1 (c_clearBit l D cy L f H.size r0 n 59 (bclr b (t + per) n) (by omega) (by decide) h_row) ⟨va_cnB 2 E.1.2.2.2.2 (gd_own w1_137) rfl rfl rfl (E.2.2.1 _ (List.mem_of_getElem? (i := 11) rfl)) (E.1.2.2.2.2 _ w1_1) hd_X5_clearBit (by rw [hR]; exact ⟨Nat.le_of_ble_eq_true rfl, Nat.le_of_ble_eq_true rfl⟩), E.1.2.2.2.2 _ w1_136, trivial⟩ (pw_pre E.2 hw) rfl rfl hl.1 rfl (lv_room (Nat.le_of_ble_eq_true rfl)) dX0_clearBehind_17 (by rw [hR]; exact ⟨Nat.le_of_ble_eq_true rfl, Nat.le_of_ble_eq_true rfl⟩)) (fun L1 f H locs hp hw => ?_)
        obtain ⟨hL1, hfr, h_row⟩ := hp
        have hL1 : L = L1 := hL1
        subst hL1
        have h_row : cel L f r0 (.inl (cy 1, 59, .inr (.inl (wd (bset (bclr b (t + per) n) n false))))) := h_row
        have h_d := h_d.keep (fun _ h => h) (hfr _ h_d.1 n_d_row)
        have hF : ∀ b ∈ L, b ≠ r0 → f b = f0 b := fun b hb h0 => (hfr b (hLs b hb) h0).trans (hF b hb h0)
        rw [bclr_s b (by omega)] at h_row
        refine lv_iinc (v := nI (n + 1)) (lv' := [(1, .int (nI (n + 1))), (0, .ref d)]) E.1.1 E.1.2.1 dX0_clearBehind_20 hl (k := 0) rfl (nI_1 _) (by decide) rfl (fun ls hl => ?_)
        refine lv_goto (tgt := 5) E.1.1 E.1.2.1 dX0_clearBehind_23 (by decide) ?_
        exact ih5  (n + 1) f H locs ls (by omega) (by omega) (by omega) h_d h_row hF hw (lv_sub hl [0, 1] rfl)
  exact lp5 (192 - (t + per) + 1) (t + per) f H locs ls (Nat.lt_succ_self _) (by omega) (by omega) h_d h_row hF hw (lv_sub hl [0, 1] rfl)
end
section
/-! periods of sets: plain facts -/
def EvP (S : Nat → Bool) (t q : Nat) : Prop := ∀ n, t ≤ n → S n = S (n + q)
def Canon (S : Nat → Bool) (t q : Nat) : Prop := 0 < q ∧ EvP S t q ∧ (∀ q' t', 0 < q' → EvP S t' q' → q ≤ q') ∧ ∀ t', EvP S t' q → t ≤ t'
theorem Canon.uni {S : Nat → Bool} {t q t' q' : Nat} (h : Canon S t q) (h' : Canon S t' q') : t = t' ∧ q = q' := by
  have e : q = q' := Nat.le_antisymm (h.2.2.1 q' t' h'.1 h'.2.1) (h'.2.2.1 q t h.1 h.2.1)
  subst e
  exact ⟨Nat.le_antisymm (h.2.2.2 t' h'.2.1) (h'.2.2.2 t h.2.1), rfl⟩
theorem EvP.mul {S : Nat → Bool} {t q : Nat} (h : EvP S t q) (k : Nat) : EvP S t (k * q) := by
  induction k with
  | zero => intro n _; simp
  | succ k ih =>
    intro n hn
    rw [ih n hn, h (n + k * q) (by omega), Nat.succ_mul, Nat.add_assoc]
theorem EvP.late {S : Nat → Bool} {t t' q : Nat} (h : EvP S t q) (ht : t ≤ t') : EvP S t' q := fun n hn => h n (by omega)
theorem EvP.sub {S : Nat → Bool} {t t' q q' : Nat} (h : EvP S t q) (h' : EvP S t' q') (hq : q ≤ q') : EvP S (max t t') (q' - q) := by
  intro n hn
  have h1 : t ≤ n := by omega
  have h2 : t' ≤ n := by omega
  rw [h' n h2, h (n + (q' - q)) (by omega)]
  congr 1
  omega
theorem EvP.gcd {S : Nat → Bool} : ∀ (k q q' t t' : Nat), q + q' ≤ k → 0 < q → 0 < q' → EvP S t q → EvP S t' q' → ∃ t2, EvP S t2 (Nat.gcd q q') := by
  intro k
  induction k with
  | zero => intro q q' t t' h1 h2; omega
  | succ k ih =>
    intro q q' t t' hk h0 h0' h h'
    rcases Nat.lt_trichotomy q q' with hl | hl | hl
    · obtain ⟨t2, h2⟩ := ih q (q' - q) t (max t t') (by omega) h0 (by omega) h (h.sub h' (by omega))
      refine ⟨t2, ?_⟩
      have e : Nat.gcd q (q' - q) = Nat.gcd q q' := by
        conv => rhs; rw [show q' = (q' - q) + q by omega]
        simp
      rw [← e]; exact h2
    · subst hl
      rw [Nat.gcd_self]
      exact ⟨t, h⟩
    · obtain ⟨t2, h2⟩ := ih (q - q') q' (max t' t) t' (by omega) (by omega) h0' (h'.sub h (by omega)) h'
      refine ⟨t2, ?_⟩
      have e : Nat.gcd (q - q') q' = Nat.gcd q q' := by
        conv => rhs; rw [show q = (q - q') + q' by omega]
        simp
      rw [← e]; exact h2
theorem fold_ge {t per n : Nat} (hp : 0 < per) (h : t ≤ n) : fold t per n = t + (n - t) % per := by
  unfold fold
  split
  · rw [Nat.mod_eq_of_lt (by omega)]; omega
  · rfl
theorem den_ev {t per : Nat} (b : Nat → Bool) (hp : 0 < per) : EvP (den t per b) t per := by
  intro n hn
  unfold den
  rw [fold_ge hp hn, fold_ge hp (by omega), show n + per - t = (n - t) + per by omega, Nat.add_mod_right]
theorem den_in {t per n : Nat} (b : Nat → Bool) (h : n < t + per) : den t per b n = b n := by
  unfold den
  rw [fold_in h]
theorem CR_chain {b : Nat → Bool} {t per q : Nat} (h : CR b t per q) (hq : 0 < q) : ∀ k j, j ≤ k → j < per → b (t + j) = b (t + j % q) := by
  intro k
  induction k with
  | zero => intro j h1 h2; rw [show j = 0 by omega]; simp
  | succ k ih =>
    intro j h1 h2
    by_cases hj : j < q
    · rw [Nat.mod_eq_of_lt hj]
    · have h3 := h (t + (j - q)) (by omega) (by omega)
      rw [show t + (j - q) + q = t + j by omega] at h3
      rw [← h3, ih (j - q) (by omega) (by omega)]
      congr 2
      rw [Nat.mod_eq_sub_mod (by omega : q ≤ j)]
theorem CR_ev {b : Nat → Bool} {t per q : Nat} (h : CR b t per q) (hq : 0 < q) (hper : 0 < per) (hd : per % q = 0) : EvP (den t per b) t q := by
  intro n hn
  unfold den
  have hdv : q ∣ per := Nat.dvd_of_mod_eq_zero hd
  rw [fold_ge hper hn, fold_ge hper (by omega)]
  rw [CR_chain h hq per ((n - t) % per) (Nat.le_of_lt (Nat.mod_lt _ hper)) (Nat.mod_lt _ hper), CR_chain h hq per ((n + q - t) % per) (Nat.le_of_lt (Nat.mod_lt _ hper)) (Nat.mod_lt _ hper)]
  rw [Nat.mod_mod_of_dvd _ hdv, Nat.mod_mod_of_dvd _ hdv, show n + q - t = (n - t) + q by omega, Nat.add_mod_right]
theorem ev_CR {b : Nat → Bool} {t per g t' : Nat} (hper : 0 < per) (h : EvP (den t per b) t' g) : CR b t per g := by
  intro n h1 h2
  have h3 := (den_ev (t := t) b hper).mul t'
  have h4 : t' ≤ t' * per := Nat.le_mul_of_pos_right t' hper
  rw [← den_in b (show n < t + per by omega), ← den_in b h2, h3 n h1, h3 (n + g) (by omega), h (n + t' * per) (by omega)]
  congr 1
  omega
theorem EvP.back {S : Nat → Bool} {t q : Nat} (hq : 0 < q) (h : EvP S t q) {n : Nat} (hn : t ≤ n) : S n = S (t + (n - t) % q) := by
  have h1 := h.mul ((n - t) / q) (t + (n - t) % q) (by omega)
  rw [h1]
  congr 1
  have := Nat.mod_add_div (n - t) q
  rw [Nat.mul_comm]
  omega
theorem ev_den {S : Nat → Bool} {t q : Nat} {b : Nat → Bool} (hq : 0 < q) (h : EvP S t q) (hb : ∀ n, n < t + q → b n = S n) : ∀ n, S n = den t q b n := by
  intro n
  unfold den
  rw [hb _ (fold_lt hq)]
  by_cases hn : n < t + q
  · rw [fold_in hn]
  · rw [fold_ge hq (by omega)]
    exact h.back hq (by omega)
theorem red_ok {b : Nat → Bool} {t per q x : Nat} (hper : 0 < per) (hl : LPer b t per q) (h0 : q ≠ 0) (hs : LSt b t q x) : Canon (den t per b) x q ∧ q ≤ 60 ∧ ∀ n, n < x + q → den t per b n = b n := by
  obtain ⟨h1, h2, h3, h4, h5, h6⟩ : 1 ≤ q ∧ q ≤ 60 ∧ q ≤ per ∧ per % q = 0 ∧ CR b t per q ∧ ∀ j, 1 ≤ j → j < q → per % j = 0 → ¬ CR b t per j := by
    rcases hl with hl | hl
    · exact absurd hl.1 h0
    · exact hl
  obtain ⟨s1, s2, s3⟩ := hs
  have hA : EvP (den t per b) t q := CR_ev h5 (by omega) hper h4
  have hin : ∀ n, n < x + q → den t per b n = b n := fun n hn => den_in b (by omega)
  refine ⟨⟨by omega, fun n hn => ?_, fun q' t' hq' hE => ?_, fun t' hE => ?_⟩, h2, hin⟩
  · by_cases hnt : t ≤ n
    · exact hA n hnt
    · rw [den_in b (by omega), den_in b (by omega)]
      exact s2 n hn (by omega)
  · obtain ⟨t2, hg⟩ := EvP.gcd (q' + per) q' per t' t (Nat.le_refl _) hq' hper hE (den_ev b hper)
    have hgp : 0 < Nat.gcd q' per := Nat.gcd_pos_of_pos_left _ hq'
    have hc := ev_CR hper hg
    have hle : Nat.gcd q' per ≤ q' := Nat.gcd_le_left _ hq'
    rcases Nat.lt_or_ge (Nat.gcd q' per) q with z | z
    · exact absurd hc (h6 _ hgp z (Nat.mod_eq_zero_of_dvd (Nat.gcd_dvd_right q' per)))
    · omega
  · rcases Nat.lt_or_ge t' x with z | z
    · rcases s3 with s3 | s3
      · omega
      · have h9 := hE (x - 1) (by omega)
        rw [den_in b (by omega), den_in b (by omega)] at h9
        exact absurd h9 s3.2
    · exact z
theorem red_no {b : Nat → Bool} {t per : Nat} (hper : 0 < per) (hl : LPer b t per 0) {t' q' : Nat} (hc : Canon (den t per b) t' q') : 60 < q' := by
  have h1 : ∀ j, 1 ≤ j → j ≤ 60 → j ≤ per → per % j = 0 → ¬ CR b t per j := by
    rcases hl with hl | hl
    · exact hl.2
    · omega
  obtain ⟨t2, hg⟩ := EvP.gcd (q' + per) q' per t' t (Nat.le_refl _) hc.1 hper hc.2.1 (den_ev b hper)
  have hgp : 0 < Nat.gcd q' per := Nat.gcd_pos_of_pos_left _ hc.1
  have h2 := hc.2.2.1 _ t2 hgp hg
  have h3 : Nat.gcd q' per ≤ per := Nat.gcd_le_right _ hper
  have hle : Nat.gcd q' per ≤ q' := Nat.gcd_le_left _ hc.1
  rcases Nat.lt_or_ge 60 q' with z | z
  · exact z
  · exact absurd (ev_CR hper hg) (h1 _ hgp (by omega) h3 (Nat.mod_eq_zero_of_dvd (Nat.gcd_dvd_right q' per)))
/-- a set told by its least row: bits beyond the row are false -/
def SetIs (S : Nat → Bool) (t q : Nat) (b : Nat → Bool) : Prop := Canon S t q ∧ q ≤ 60 ∧ t ≤ 120 ∧ (∀ n, n < t + q → b n = S n) ∧ ∀ n, t + q ≤ n → n < 192 → b n = false
theorem SetIs.den {S : Nat → Bool} {t q : Nat} {b : Nat → Bool} (h : SetIs S t q b) : ∀ n, S n = den t q b n := ev_den h.1.1 h.1.2.1 h.2.2.2.1
theorem SetIs.uni {S : Nat → Bool} {t q t' q' : Nat} {b b' : Nat → Bool} (h : SetIs S t q b) (h' : SetIs S t' q' b') : t = t' ∧ q = q' ∧ ∀ n, n < 192 → b n = b' n := by
  obtain ⟨e1, e2⟩ := h.1.uni h'.1
  subst e1; subst e2
  refine ⟨rfl, rfl, fun n hn => ?_⟩
  by_cases hl : n < t + q
  · rw [h.2.2.2.1 n hl, h'.2.2.2.1 n hl]
  · rw [h.2.2.2.2 n (by omega) hn, h'.2.2.2.2 n (by omega) hn]
/-- fit: not too long -/
def Fits (S : Nat → Bool) : Prop := ∃ t q, Canon S t q ∧ q ≤ 60 ∧ t ≤ 120
theorem red_set {b : Nat → Bool} {t per q x : Nat} (hper : 0 < per) (hl : LPer b t per q) (h0 : q ≠ 0) (hs : LSt b t q x) (hx : x ≤ 120) : SetIs (den t per b) x q (bclr b (x + q) 192) := by
  obtain ⟨h1, h2, h3⟩ := red_ok hper hl h0 hs
  refine ⟨h1, h2, hx, fun n hn => ?_, fun n h4 h5 => ?_⟩
  · rw [h3 n hn]; simp only [bclr]; rw [if_neg (by omega)]
  · simp only [bclr]; rw [if_pos ⟨h4, h5⟩]
theorem red_unfit {b : Nat → Bool} {t per q x : Nat} (hper : 0 < per) (hl : LPer b t per q) (h0 : q ≠ 0) (hs : LSt b t q x) (hx : 120 < x) : ¬ Fits (den t per b) := by
  rintro ⟨t', q', hc, h1, h2⟩
  obtain ⟨e1, e2⟩ := hc.uni (red_ok hper hl h0 hs).1
  omega
theorem red_unfit0 {b : Nat → Bool} {t per : Nat} (hper : 0 < per) (hl : LPer b t per 0) : ¬ Fits (den t per b) := by
  rintro ⟨t', q', hc, h1, h2⟩
  have := red_no hper hl hc
  omega
theorem SetIs.fits {S : Nat → Bool} {t q : Nat} {b : Nat → Bool} (h : SetIs S t q b) : Fits S := ⟨t, q, h.1, h.2.1, h.2.2.1⟩
end
section
set_option maxHeartbeats 4000000 in
set_option maxRecDepth 100000 in
theorem c_reduce (l : Launch) (D : va_G) (cy : Nat → ClassId) (L : List Nat) (f0 : Nat → va_E) (sz : Nat) (d r0 t per : Nat) (b : Nat → Bool) (hb1 : t + per ≤ 3776) (hper : 0 < per) (h_d : cel L f0 d (.inr (0, [.ref r0, .int (nI t), .int (nI per)]))) (h_row : cel L f0 r0 (.inl (cy 1, 59, .inr (.inl (wd b))))) : Met l yX0_reduce (.code yX0_reduce cX0_reduce 2 (Option.some FieldType.boolean) :: wsL_law) { frames := 3, cells := 0, slots := 0, locals := 65 } (va_Pc [.ref d] (PW D cy L f0 sz)) (va_Qi (fun (r : Int32) (u : List Nat × (Nat → va_E)) => L = u.1 ∧ (∀ b ∈ L, b ≠ d → b ≠ r0 → u.2 b = f0 b) ∧ ((r = b2i true ∧ ∃ x q b2, cel L u.2 d (.inr (0, [.ref r0, .int (nI x), .int (nI q)])) ∧ cel L u.2 r0 (.inl (cy 1, 59, .inr (.inl (wd b2)))) ∧ SetIs (den t per b) x q b2) ∨ (r = b2i false ∧ ∃ i1 i2 g, cel L u.2 d (.inr (0, [.ref r0, .int i1, .int i2])) ∧ cel L u.2 r0 (.inl (cy 1, 59, .inr (.inl g))) ∧ ¬ Fits (den t per b)))) (PB D (AW L sz)) (AW L sz)) 0 0 (AW L sz) := by
  refine m_start (by decide) (Nat.le_of_ble_eq_true rfl) ?_
  intro p e R Q s m args below meth c ls hsz hR hQ E hr hlk hnm hw hl
  have hl : lv_has ls 2 [(0, .ref d)] := hl
  obtain ⟨H, hH⟩ : ∃ X, X = s.heap := ⟨_, rfl⟩
  obtain ⟨locs, hlocs⟩ : ∃ X : List Loc, X = [] := ⟨_, rfl⟩
  have hw0 := hw
  obtain ⟨f, hf0⟩ : ∃ X, X = f0 := ⟨_, rfl⟩
  rw [← hf0] at h_d h_row
  have hw : WW D (AW L sz) s.heap L f H locs := by rw [hH, hlocs, hf0]; exact hw
  have hF : ∀ b ∈ L, b ≠ d → b ≠ r0 → f b = f0 b := fun b hb h0 h1 => by rw [hf0]
  suffices hgo : W p l e R s m args below meth c H locs 0 0 Q (F0 m 0 ls []) by rw [hH, hlocs] at hgo; exact hgo
  clear hH hlocs hw0 hf0
  have hLs : ∀ b ∈ L, b ∈ L := fun _ h => h
  have n_d_row : d ≠ r0 := h_d.ne h_row (by simp)
  have n_row_d : r0 ≠ d := h_row.ne h_d (by simp)
  refine lv_aload_n E.1.1 E.1.2.1 dX0_reduce_0 rfl (lv_at hl 0 rfl) ?_
  refine k_rip (va_runV (As := []) (rest := []) E.1 (c_leastPeriod l D cy L f H.size d r0 t per b (by omega) hper h_d h_row) ⟨callB_of 0 E.1.2.2.2.2 (gd_own w1_115) rfl rfl rfl (E.1.2.2.2.2 _ w1_2) (E.1.2.2.2.2 _ w1_112) hd_X0_leastPeriod (by rw [hR]; exact ⟨Nat.le_of_ble_eq_true rfl, Nat.le_of_ble_eq_true rfl⟩), E.1.2.2.2.2 _ w1_114, E.1.2.2.2.2 _ ws_2⟩ (pw_preV (q := (RX0, TX0, 3)) E.2 hw h_d rfl) rfl rfl hl.1 rfl (lv_room (Nat.le_of_ble_eq_true rfl)) dX0_reduce_1 ⟨Nat.zero_le _, Nat.zero_le _⟩) (fun r hp => ?_)
  obtain ⟨q, rfl, hq⟩ := hp
  have hq60 : q ≤ 60 := by rcases hq with h | h <;> omega
  refine lv_istore_n (lv' := [(1, .int (nI q)), (0, .ref d)]) E.1.1 E.1.2.1 dX0_reduce_4 rfl hl (by decide) rfl (fun ls hl => ?_)
  refine lv_iload_n E.1.1 E.1.2.1 dX0_reduce_5 rfl (lv_at hl 0 rfl) ?_
  refine k_z1 (tgt := 11) E dX0_reduce_6 (by decide) (by omega) (fun c6 => ?_) (fun c6 => ?_)
  · have hqper : q ≤ per := by rcases hq with h | h <;> omega
    refine lv_aload_n E.1.1 E.1.2.1 dX0_reduce_11 rfl (lv_at hl 1 rfl) ?_
    refine lv_iload_n E.1.1 E.1.2.1 dX0_reduce_12 rfl (lv_at hl 0 rfl) ?_
    refine k_put (ty0 := tyX0) E inlX0 rfl tyX0_ok nmX0 2 (by decide) w1_38 rfl rfl hw [.ref r0, .int (nI t), .int (nI q)] h_d (rfl) (rfl) (Nat.le_of_ble_eq_true rfl) rfl dX0_reduce_13 (fun f H locs h_d hfr hw => ?_)
    have h_row := h_row.kp hfr n_row_d
    have hF : ∀ b ∈ L, b ≠ d → b ≠ r0 → f b = f0 b := fun b hb h0 h1 => (hfr b h0).trans (hF b hb h0 h1)
    refine lv_aload_n E.1.1 E.1.2.1 dX0_reduce_16 rfl (lv_at hl 1 rfl) ?_
    refine lv_aload_n E.1.1 E.1.2.1 dX0_reduce_17 rfl (lv_at hl 1 rfl) ?_
    refine k_rip (va_runV (As := []) (rest := [.ref d]) E.1 (c_leastStart l D cy L f H.size d r0 t q b (by omega) h_d h_row) ⟨callB_of 0 E.1.2.2.2.2 (gd_own w1_130) rfl rfl rfl (E.1.2.2.2.2 _ w1_2) (E.1.2.2.2.2 _ w1_127) hd_X0_leastStart (by rw [hR]; exact ⟨Nat.le_of_ble_eq_true rfl, Nat.le_of_ble_eq_true rfl⟩), E.1.2.2.2.2 _ w1_129, E.1.2.2.2.2 _ ws_4⟩ (pw_preV (q := (RX0, TX0, 3)) E.2 hw h_d rfl) rfl rfl hl.1 rfl (lv_room (Nat.le_of_ble_eq_true rfl)) dX0_reduce_18 ⟨Nat.zero_le _, Nat.zero_le _⟩) (fun r hp => ?_)
    obtain ⟨x, rfl, hx⟩ := hp
    have hxt := hx.1
    refine k_put (ty0 := tyX0) E inlX0 rfl tyX0_ok nmX0 1 (by decide) w1_35 rfl rfl hw [.ref r0, .int (nI x), .int (nI q)] h_d (rfl) (rfl) (Nat.le_of_ble_eq_true rfl) rfl dX0_reduce_21 (fun f H locs h_d hfr hw => ?_)
    have h_row := h_row.kp hfr n_row_d
    have hF : ∀ b ∈ L, b ≠ d → b ≠ r0 → f b = f0 b := fun b hb h0 h1 => (hfr b h0).trans (hF b hb h0 h1)
    refine lv_aload_n E.1.1 E.1.2.1 dX0_reduce_24 rfl (lv_at hl 1 rfl) ?_
    refine k_mv hw (va_runV (As := []) (rest := []) E.1 (c_clearBehind l D cy L f H.size d r0 x q b (by omega) h_d h_row) ⟨callB_of 0 E.1.2.2.2.2 (gd_own w1_134) rfl rfl rfl (E.1.2.2.2.2 _ w1_2) (E.1.2.2.2.2 _ w1_131) hd_X0_clearBehind (by rw [hR]; exact ⟨Nat.le_of_ble_eq_true rfl, Nat.le_of_ble_eq_true rfl⟩), E.1.2.2.2.2 _ w1_133, E.1.2.2.2.2 _ ws_5⟩ (pw_preV (q := (RX0, TX0, 3)) E.2 hw h_d rfl) rfl rfl hl.1 rfl (lv_room (Nat.le_of_ble_eq_true rfl)) dX0_reduce_25 (by rw [hR]; exact ⟨Nat.le_of_ble_eq_true rfl, Nat.le_of_ble_eq_true rfl⟩)) (fun L1 f H locs hp hw => ?_)
    obtain ⟨hL1, hfr, h_row⟩ := hp
    have hL1 : L = L1 := hL1
    subst hL1
    have h_row : cel L f r0 (.inl (cy 1, 59, .inr (.inl (wd (bclr b (x + q) 192))))) := h_row
    have h_d := h_d.keep (fun _ h => h) (hfr _ h_d.1 n_d_row)
    have hF : ∀ b ∈ L, b ≠ d → b ≠ r0 → f b = f0 b := fun b hb h0 h1 => (hfr b (hLs b hb) h1).trans (hF b hb h0 h1)
    refine lv_aload_n E.1.1 E.1.2.1 dX0_reduce_28 rfl (lv_at hl 1 rfl) ?_
    refine k_get (v := .int (nI x)) E inlX0 rfl 1 (by decide) w1_35 rfl hw h_d rfl dX0_reduce_29 ?_
    refine lv_bipush (v := nI 120) E.1.1 E.1.2.1 dX0_reduce_32 rfl ?_
    refine k_gt (tgt := 41) E dX0_reduce_34 (by decide) (by omega) (by omega) (fun c34 => ?_) (fun c34 => ?_)
    · refine lv_iconst (v := nI 0) E.1.1 E.1.2.1 dX0_reduce_41 rfl ?_
      refine k_top E (b2i false) rfl ?_
      exact k_mzret E hQ hlk hr hw (Nat.le_of_ble_eq_true rfl) (Nat.le_of_ble_eq_true rfl) (⟨rfl, hF, Or.inr ⟨rfl, _, _, _, h_d, h_row, red_unfit hper hq c6 hx c34⟩⟩) dX0_reduce_42
    · refine lv_iconst (v := nI 1) E.1.1 E.1.2.1 dX0_reduce_37 rfl ?_
      refine lv_goto (tgt := 42) E.1.1 E.1.2.1 dX0_reduce_38 (by decide) ?_
      refine k_top E (b2i true) rfl ?_
      exact k_mzret E hQ hlk hr hw (Nat.le_of_ble_eq_true rfl) (Nat.le_of_ble_eq_true rfl) (⟨rfl, hF, Or.inl ⟨rfl, x, q, _, h_d, h_row, red_set hper hq c6 hx c34⟩⟩) dX0_reduce_42
  · refine lv_iconst (v := nI 0) E.1.1 E.1.2.1 dX0_reduce_9 rfl ?_
    refine k_top E (b2i false) rfl ?_
    exact k_mzret E hQ hlk hr hw (Nat.le_of_ble_eq_true rfl) (Nat.le_of_ble_eq_true rfl) (⟨rfl, hF, Or.inr ⟨rfl, _, _, _, h_d, h_row, red_unfit0 hper (c6 ▸ hq)⟩⟩) dX0_reduce_10
end
section
/-! ===== the first index with a property; a count ===== -/
/-- the first k < n with p k, n if there is none -/
def fa_first (p : Nat → Bool) : Nat → Nat
  | 0 => 0
  | n + 1 => if fa_first p n < n then fa_first p n else if p n then n else n + 1
theorem fa_first_le (p : Nat → Bool) : ∀ n, fa_first p n ≤ n
  | 0 => Nat.le_refl 0
  | n + 1 => by
    have ih := fa_first_le p n
    unfold fa_first
    split
    · omega
    · split
      · omega
      · omega
theorem fa_first_no (p : Nat → Bool) : ∀ n k, k < fa_first p n → p k = false
  | 0, k, h => absurd h (Nat.not_lt_zero k)
  | n + 1, k, h => by
    have ih := fa_first_no p n
    have hl := fa_first_le p n
    unfold fa_first at h
    split at h
    · exact ih k h
    · rename_i h1
      split at h
      · exact ih k (by omega)
      · rename_i h2
        by_cases e : k = n
        · subst e
          exact Bool.eq_false_iff.mpr h2
        · exact ih k (by omega)
theorem fa_first_yes (p : Nat → Bool) : ∀ n, fa_first p n < n → p (fa_first p n) = true
  | 0, h => absurd h (Nat.not_lt_zero _)
  | n + 1, h => by
    have ih := fa_first_yes p n
    have hl := fa_first_le p n
    unfold fa_first at h ⊢
    split at h
    · rename_i h1
      rw [if_pos h1]
      exact ih h1
    · rename_i h1
      rw [if_neg h1]
      split at h
      · rename_i h2
        rw [if_pos h2]
        exact h2
      · omega
/-- how many k < n have p k -/
def fa_cnt (p : Nat → Bool) : Nat → Nat
  | 0 => 0
  | n + 1 => fa_cnt p n + if p n then 1 else 0
theorem fa_cnt_le (p : Nat → Bool) : ∀ n, fa_cnt p n ≤ n
  | 0 => Nat.le_refl 0
  | n + 1 => by
    have ih := fa_cnt_le p n
    unfold fa_cnt
    split
    · omega
    · omega
theorem fa_cnt_yes {p : Nat → Bool} {n : Nat} (h : p n = true) : fa_cnt p (n + 1) = fa_cnt p n + 1 := by rw [fa_cnt, if_pos h]
theorem fa_cnt_no {p : Nat → Bool} {n : Nat} (h : p n = false) : fa_cnt p (n + 1) = fa_cnt p n := by rw [fa_cnt, if_neg (by rw [h]; decide)]; rfl
theorem fa_cnt_cong {p q : Nat → Bool} : ∀ {n : Nat}, (∀ k, k < n → p k = q k) → fa_cnt p n = fa_cnt q n
  | 0, _ => rfl
  | n + 1, h => by rw [fa_cnt, fa_cnt, fa_cnt_cong (fun k hk => h k (Nat.lt_succ_of_lt hk)), h n (Nat.lt_succ_self n)]
/-! ===== an answer carried into a post; a branch on a boolean answer ===== -/
/-! rows of the tracer: state s has the words 3 s, 3 s + 1, 3 s + 2 -/
def rw3 (B : Nat → Nat → Bool) : Nat → Int64 := fun w => wd (B (w / 3)) (w % 3)
theorem rw3_at (B : Nat → Nat → Bool) (x : Nat) {k : Nat} (hk : k < 3) : rw3 B (x * 3 + k) = wd (B x) k := by
  unfold rw3
  rw [show (x * 3 + k) / 3 = x by omega, show (x * 3 + k) % 3 = k by omega]
theorem rw3_at' (B : Nat → Nat → Bool) (x : Nat) {k : Nat} (hk : k < 3) : rw3 B (3 * x + k) = wd (B x) k := by rw [Nat.mul_comm]; exact rw3_at B x hk
def SameR (x y : Nat → Bool) : Prop := ∀ n, n < 192 → x n = y n
theorem same_wd {x y : Nat → Bool} : (∀ k, k < 3 → wd x k = wd y k) ↔ SameR x y := by
  constructor
  · intro h n hn
    have h1 := wd_inj (h (n / 64) (by omega)) (n % 64) (by omega)
    rw [show 64 * (n / 64) + n % 64 = n by omega] at h1
    exact h1
  · intro h k hk
    exact wd_cong (fun i hi => h _ (by omega))
def rz (B : Nat → Nat → Bool) (x k : Nat) : Nat → Int64 := fun w => if w / 3 = x ∧ w % 3 < k then 0 else rw3 B w
theorem rz_0 (B : Nat → Nat → Bool) (x : Nat) : rz B x 0 = rw3 B := by
  funext w
  simp [rz]
theorem rz_s (B : Nat → Nat → Bool) {x k : Nat} (hk : k < 3) (w : Nat) : (if w = x * 3 + k then 0 else rz B x k w) = rz B x (k + 1) w := by
  unfold rz
  by_cases h : w = x * 3 + k
  · rw [if_pos h, if_pos (by omega)]
  · rw [if_neg h]
    by_cases h2 : w / 3 = x ∧ w % 3 < k
    · rw [if_pos h2, if_pos (by omega)]
    · rw [if_neg h2, if_neg (by omega)]
theorem rz_3 (B : Nat → Nat → Bool) (x : Nat) : rz B x 3 = rw3 (va_up B x (fun _ => false)) := by
  funext w
  unfold rz rw3
  by_cases h : w / 3 = x
  · rw [if_pos ⟨h, by omega⟩, h, va_up_self]
    exact (wd_zero (fun _ _ => rfl)).symm
  · rw [if_neg (fun q => h q.1), va_up_ne _ _ h]
def rb (X : Nat → Bool) (u : Nat) : Nat → Bool := fun n => if n < u then X n else false
theorem rb_0 (X : Nat → Bool) : rb X 0 = fun _ => false := by
  funext n
  simp [rb]
theorem rb_s (X : Nat → Bool) (u : Nat) : bset (rb X u) u (rb X u u || X u) = rb X (u + 1) := by
  funext n
  by_cases h : n = u
  · subst h
    rw [bset_same]
    simp [rb]
  · rw [bset_ne _ _ h]
    simp only [rb]
    by_cases h2 : n < u
    · rw [if_pos h2, if_pos (by omega)]
    · rw [if_neg h2, if_neg (by omega)]
theorem st_rest (B : Nat → Nat → Bool) (X : Nat → Bool) (x : Nat) {u : Nat} (hu : u < 192) (w : Nat) : (if w = x * 3 + u / 64 then wd (rb X u) (u / 64) ||| lN (if X u then 2 ^ (u % 64) else 0) else rw3 (va_up B x (rb X u)) w) = rw3 (va_up B x (rb X (u + 1))) w := by
  by_cases h : w = x * 3 + u / 64
  · rw [if_pos h, h, rw3_at _ _ (by omega), va_up_self, wd_or rfl, rb_s]
  · rw [if_neg h]
    unfold rw3
    by_cases h2 : w / 3 = x
    · rw [h2, va_up_self, va_up_self, ← rb_s X u]
      exact wd_or_ne (by omega)
    · rw [va_up_ne _ _ h2, va_up_ne _ _ h2]
theorem fold_add {t per : Nat} (hp : 0 < per) (n x : Nat) : fold t per (fold t per n + x) = fold t per (n + x) := by
  by_cases h : n < t + per
  · rw [fold_in h]
  · rw [fold_ge hp (show t ≤ n by omega), fold_ge hp (by omega), fold_ge hp (by omega), show t + (n - t) % per + x - t = (n - t) % per + x by omega, Nat.mod_add_mod, show n - t + x = n + x - t by omega]
/-- the states, gone through: how many, which sets, where each goes -/
noncomputable def trn (S : Nat → Bool) (base : Nat) : Nat → Nat × (Nat → Nat → Bool) × (Nat → Nat)
  | 0 => (1, fun _ => S, fun _ => 0)
  | k + 1 => (max (trn S base k).1 (fa_first (fun i => dB ((trn S base k).2.1 i = fun u => (trn S base k).2.1 (k / base) (base * u + k % base))) (trn S base k).1 + 1), va_up (trn S base k).2.1 (trn S base k).1 (fun u => (trn S base k).2.1 (k / base) (base * u + k % base)), va_up (trn S base k).2.2 k (fa_first (fun i => dB ((trn S base k).2.1 i = fun u => (trn S base k).2.1 (k / base) (base * u + k % base))) (trn S base k).1))
def Stop (S : Nat → Bool) (base K : Nat) : Prop := (trn S base K).1 * base ≤ K ∨ 64 < (trn S base K).1
def FS (S : Nat → Bool) (base K : Nat) : Prop := Stop S base K ∧ ∀ K', K' < K → ¬ Stop S base K'
theorem FS.uni {S : Nat → Bool} {base K K' : Nat} (h : FS S base K) (h' : FS S base K') : K = K' := by
  rcases Nat.lt_trichotomy K K' with q | q | q
  · exact absurd h.1 (h'.2 K q)
  · exact q
  · exact absurd h'.1 (h.2 K' q)
def RowOf (t per : Nat) (x σ : Nat → Bool) : Prop := (∀ n, n < t + per → x n = σ n) ∧ (∀ n, t + per ≤ n → n < 192 → x n = false) ∧ EvP σ t per
theorem RowOf.den {t per : Nat} {x σ : Nat → Bool} (hp : 0 < per) (h : RowOf t per x σ) : ∀ n, σ n = x (fold t per n) := ev_den hp h.2.2 h.1
theorem RowOf.rest {t per base d : Nat} {x σ : Nat → Bool} (hp : 0 < per) (hb : 0 < base) (h : RowOf t per x σ) : RowOf t per (rb (fun u => x (fold t per (base * u + d))) (t + per)) (fun u => σ (base * u + d)) := by
  refine ⟨fun n hn => ?_, fun n hn _ => ?_, fun u hu => ?_⟩
  · simp only [rb]
    rw [if_pos hn, h.den hp]
  · simp only [rb]
    rw [if_neg (by omega)]
  · have h1 := h.2.2.mul base (base * u + d) (by have := Nat.le_mul_of_pos_left u hb; omega)
    show σ (base * u + d) = σ (base * (u + per) + d)
    rw [h1, Nat.mul_add]
    congr 1
    omega
theorem RowOf.same {t per : Nat} {x σ y τ : Nat → Bool} (hp : 0 < per) (h192 : t + per ≤ 192) (h : RowOf t per x σ) (h' : RowOf t per y τ) : SameR x y ↔ σ = τ := by
  constructor
  · intro hs
    funext n
    have hl := fold_lt (t := t) (n := n) hp
    rw [h.den hp, h'.den hp]
    exact hs _ (by omega)
  · intro e n hn
    by_cases hl : n < t + per
    · rw [h.1 n hl, h'.1 n hl, e]
    · rw [h.2.1 n (by omega) hn, h'.2.1 n (by omega) hn]
theorem first_is {q : Nat → Bool} {n j : Nat} (h1 : j ≤ n) (h2 : ∀ i, i < j → q i = false) (h3 : j = n ∨ q j = true) : fa_first q n = j := by
  have a1 := fa_first_le q n
  rcases Nat.lt_trichotomy (fa_first q n) j with z | z | z
  · have := fa_first_yes q n (by omega)
    rw [h2 _ z] at this
    cases this
  · exact z
  · rcases h3 with h3 | h3
    · omega
    · have := fa_first_no q n j z
      rw [h3] at this
      cases this
/-- what the tracer holds when K pairs have been gone through -/
def TI (S : Nat → Bool) (base t per K nf : Nat) (B : Nat → Nat → Bool) (G : Nat → Int32) : Prop := nf = (trn S base K).1 ∧ (∀ x, x < nf → RowOf t per (B x) ((trn S base K).2.1 x)) ∧ (∀ x, x < K → G x = nI ((trn S base K).2.2 x)) ∧ ∀ K', K' < K → ¬ Stop S base K'
theorem TI_0 {S : Nat → Bool} {base t per : Nat} {B : Nat → Nat → Bool} {G : Nat → Int32} (h : RowOf t per (B 0) S) : TI S base t per 0 1 B G := by
  refine ⟨rfl, fun x hx => ?_, fun x hx => absurd hx (by omega), fun K' h => absurd h (by omega)⟩
  rw [show x = 0 by omega]
  exact h
theorem trn_1 (S : Nat → Bool) (base K : Nat) : (trn S base (K + 1)).1 = max (trn S base K).1 (fa_first (fun i => dB ((trn S base K).2.1 i = fun u => (trn S base K).2.1 (K / base) (base * u + K % base))) (trn S base K).1 + 1) := rfl
theorem trn_2 (S : Nat → Bool) (base K : Nat) : (trn S base (K + 1)).2.1 = va_up (trn S base K).2.1 (trn S base K).1 (fun u => (trn S base K).2.1 (K / base) (base * u + K % base)) := rfl
theorem trn_3 (S : Nat → Bool) (base K : Nat) : (trn S base (K + 1)).2.2 = va_up (trn S base K).2.2 K (fa_first (fun i => dB ((trn S base K).2.1 i = fun u => (trn S base K).2.1 (K / base) (base * u + K % base))) (trn S base K).1) := rfl
theorem TI_first {S : Nat → Bool} {base t per K nf j i d : Nat} {B : Nat → Nat → Bool} {G : Nat → Int32} (hp : 0 < per) (h192 : t + per ≤ 192) (hb : 0 < base) (h : TI S base t per K nf B G) (hi : K / base = i) (hd : K % base = d) (hin : i < nf) (h1 : j ≤ nf)
    (h2 : ∀ x, x < j → ¬ SameR (va_up B nf (rb (fun u => B i (fold t per (base * u + d))) (t + per)) x) (va_up B nf (rb (fun u => B i (fold t per (base * u + d))) (t + per)) nf))
    (h3 : j = nf ∨ SameR (va_up B nf (rb (fun u => B i (fold t per (base * u + d))) (t + per)) j) (va_up B nf (rb (fun u => B i (fold t per (base * u + d))) (t + per)) nf)) :
    fa_first (fun i => dB ((trn S base K).2.1 i = fun u => (trn S base K).2.1 (K / base) (base * u + K % base))) (trn S base K).1 = j := by
  obtain ⟨e1, e2, e3, e4⟩ := h
  have hrest := (e2 i hin).rest (d := d) hp hb
  rw [va_up_self] at h2 h3
  rw [hi, hd, ← e1]
  refine first_is h1 (fun x hx => ?_) ?_
  · refine dB_f (fun e => h2 x hx ?_)
    rw [va_up_ne _ _ (show x ≠ nf by omega)]
    exact ((e2 x (by omega)).same hp h192 hrest).mpr e
  · rcases h3 with h3 | h3
    · exact Or.inl h3
    · rcases Nat.lt_or_ge j nf with z | z
      · right
        rw [va_up_ne _ _ (show j ≠ nf by omega)] at h3
        exact dB_t (((e2 j z).same hp h192 hrest).mp h3)
      · left; omega
theorem TI_step {S : Nat → Bool} {base t per K nf j i d : Nat} {B : Nat → Nat → Bool} {G G' : Nat → Int32} (hp : 0 < per) (h192 : t + per ≤ 192) (hb : 0 < base) (h : TI S base t per K nf B G) (hi : K / base = i) (hd : K % base = d) (hin : i < nf) (h64 : nf ≤ 64) (h1 : j ≤ nf)
    (h2 : ∀ x, x < j → ¬ SameR (va_up B nf (rb (fun u => B i (fold t per (base * u + d))) (t + per)) x) (va_up B nf (rb (fun u => B i (fold t per (base * u + d))) (t + per)) nf))
    (h3 : j = nf ∨ SameR (va_up B nf (rb (fun u => B i (fold t per (base * u + d))) (t + per)) j) (va_up B nf (rb (fun u => B i (fold t per (base * u + d))) (t + per)) nf))
    (hG : ∀ x, x < K + 1 → G' x = if x = K then nI j else G x) (hstop : K < nf * base) :
    TI S base t per (K + 1) (max nf (j + 1)) (va_up B nf (rb (fun u => B i (fold t per (base * u + d))) (t + per))) G' := by
  have hf := TI_first hp h192 hb h hi hd hin h1 h2 h3
  obtain ⟨e1, e2, e3, e4⟩ := h
  have hrest := (e2 i hin).rest (d := d) hp hb
  refine ⟨?_, fun x hx => ?_, fun x hx => ?_, fun K' hK => ?_⟩
  · rw [trn_1, hf, ← e1]
  · rw [trn_2, ← e1, hi, hd]
    by_cases hxn : x = nf
    · rw [hxn, va_up_self, va_up_self]; exact hrest
    · rw [va_up_ne _ _ hxn, va_up_ne _ _ hxn]; exact e2 x (by omega)
  · rw [trn_3, hf, hG x hx]
    by_cases hxK : x = K
    · rw [if_pos hxK, hxK, va_up_self]
    · rw [if_neg hxK, va_up_ne _ _ hxK]; exact e3 x (by omega)
  · by_cases hKK : K' = K
    · subst hKK
      rintro (hs | hs)
      · rw [← e1] at hs; omega
      · rw [← e1] at hs; omega
    · exact e4 K' (by omega)
theorem TI_big {S : Nat → Bool} {base t per K nf j i d : Nat} {B : Nat → Nat → Bool} {G : Nat → Int32} (hp : 0 < per) (h192 : t + per ≤ 192) (hb : 0 < base) (h : TI S base t per K nf B G) (hi : K / base = i) (hd : K % base = d) (hin : i < nf) (h64 : nf ≤ 64) (h1 : j ≤ nf)
    (h2 : ∀ x, x < j → ¬ SameR (va_up B nf (rb (fun u => B i (fold t per (base * u + d))) (t + per)) x) (va_up B nf (rb (fun u => B i (fold t per (base * u + d))) (t + per)) nf))
    (h3 : j = nf ∨ SameR (va_up B nf (rb (fun u => B i (fold t per (base * u + d))) (t + per)) j) (va_up B nf (rb (fun u => B i (fold t per (base * u + d))) (t + per)) nf)) (hstop : K < nf * base) (hj : j = 64) : FS S base (K + 1) ∧ (trn S base (K + 1)).1 = 65 := by
  have h9 := TI_step (G' := fun x => if x = K then nI j else G x) hp h192 hb h hi hd hin h64 h1 h2 h3 (fun _ _ => rfl) hstop
  have e5 : (trn S base (K + 1)).1 = 65 := by rw [← h9.1]; omega
  exact ⟨⟨Or.inr (by omega), h9.2.2.2⟩, e5⟩
theorem TI_end {S : Nat → Bool} {base t per nf : Nat} {B : Nat → Nat → Bool} {G : Nat → Int32} (h : TI S base t per (nf * base) nf B G) : FS S base (nf * base) := ⟨Or.inl (by rw [← h.1]; exact Nat.le_refl _), h.2.2.2⟩
theorem SetIs.row {S : Nat → Bool} {t q : Nat} {b : Nat → Bool} (h : SetIs S t q b) : RowOf t q b S := ⟨h.2.2.2.1, h.2.2.2.2, h.1.2.1⟩
end
section
section KU
variable {p : Program} {l : Launch} {e : Env} {R : Room} {s : State} {m : MethodId} {args : Array Value} {below : List Frame} {meth : Method} {c : Code} {H : Heap} {locs : List Loc} {cells slots : Nat} {Q : State → Prop} {cc : ByteArray} {nL : Nat} {own : String} {D : va_G} {cy : Nat → ClassId} {A : Nat → Prop} {H0 : Heap} {L : List Nat} {f : Nat → va_E} {pc : Nat} {ls : Array Slot} {rest : List Value}
theorem k_copyl (E : EE p s m args c cc nL own D cy) (hls : ls.size = nL) {index : Nat} (h1 : Cond.methodLink own index arraycopyName ∈ wsL_law) (h2 : Cond.native arraycopyName ∈ wsL_law) (h3 : Cond.static arraycopyName ∈ wsL_law) (h4 : Cond.initialized "java/lang/System" ∈ wsL_law) (hw : WW D A H0 L f H locs) {a0 a n0 n1 sp dp n : Nat} {x y : Nat → Int64} (g' : Nat → Int64) (hc0 : cel L f a0 (.inl (cy 1, n0, .inr (.inl x)))) (hc1 : cel L f a (.inl (cy 1, n1, .inr (.inl y)))) (b1 : sp + n ≤ n0) (b2 : dp + n ≤ n1) (b3 : n0 < 2147483648) (b4 : n1 < 2147483648) (hg : ∀ j, j < n1 → va_cpy x y sp dp n j = g' j) (hfr : 1 ≤ R.frames) (hlo : (rest.map fun v => v.category).sum + 18 ≤ R.locals) (hdg : decode cc pc = .ok (.invokestatic index, 3))
    (kk : ∀ (f1 : Nat → va_E) (H1 : Heap) (locs1 : List Loc), cel L f1 a (.inl (cy 1, n1, .inr (.inl g'))) → (∀ b, b ≠ a → f1 b = f b) → WW D A H0 L f1 H1 locs1 → W p l e R s m args below meth c H1 locs1 cells slots Q (F0 m (pc + 3) ls rest)) : W p l e R s m args below meth c H locs cells slots Q (F0 m pc ls (.int (nI n) :: .int (nI dp) :: .ref a :: .int (nI sp) :: .ref a0 :: rest)) := by
  obtain ⟨q0, hq0⟩ := hc0.at
  obtain ⟨q1, hq1⟩ := hc1.at
  refine va_copyl E.1.1 E.1.2.1 (by rw [hls]; exact E.1.2.2.1) E.1.2.2.2.1 (E.1.2.2.2.2 _ h1) (E.1.2.2.2.2 _ h2) (E.1.2.2.2.2 _ h3) (E.1.2.2.2.2 _ h4) E.2.1 hw.1 hw.2.1 hw.2.2.1 q0 q1 1 1 (ty := .long) hq0 hq1 rfl rfl rfl (nI_pos (show sp < 2 ^ 31 by omega)) (nI_pos (show dp < 2 ^ 31 by omega)) (nI_pos (show n < 2 ^ 31 by omega)) ?_ ?_ (fun _ _ => rfl) hfr hlo hdg (fun H1 locs1 hP hD hS => ?_)
  · rw [nI_clamp (show sp < 2 ^ 31 by omega), nI_clamp (show n < 2 ^ 31 by omega)]; exact b1
  · rw [nI_clamp (show dp < 2 ^ 31 by omega), nI_clamp (show n < 2 ^ 31 by omega)]; exact b2
  rw [nI_clamp (show sp < 2 ^ 31 by omega), nI_clamp (show dp < 2 ^ 31 by omega), nI_clamp (show n < 2 ^ 31 by omega)] at hP hD
  exact kk (va_up f a (.inl (cy 1, n1, .inr (.inl g')))) H1 locs1 (up_at hc1.1) (fun b hb => va_up_ne _ _ hb) (k_upd hw hc1 hq1 hP hD hS (at_long hg))
theorem k_copyi (E : EE p s m args c cc nL own D cy) (hls : ls.size = nL) {index : Nat} (h1 : Cond.methodLink own index arraycopyName ∈ wsL_law) (h2 : Cond.native arraycopyName ∈ wsL_law) (h3 : Cond.static arraycopyName ∈ wsL_law) (h4 : Cond.initialized "java/lang/System" ∈ wsL_law) (hw : WW D A H0 L f H locs) {a0 a n0 n1 sp dp n : Nat} {x y : Nat → Int32} (g' : Nat → Int32) (hc0 : cel L f a0 (.inl (cy 0, n0, .inl x))) (hc1 : cel L f a (.inl (cy 0, n1, .inl y))) (b1 : sp + n ≤ n0) (b2 : dp + n ≤ n1) (b3 : n0 < 2147483648) (b4 : n1 < 2147483648) (hg : ∀ j, j < n1 → va_cpy x y sp dp n j = g' j) (hfr : 1 ≤ R.frames) (hlo : (rest.map fun v => v.category).sum + 18 ≤ R.locals) (hdg : decode cc pc = .ok (.invokestatic index, 3))
    (kk : ∀ (f1 : Nat → va_E) (H1 : Heap) (locs1 : List Loc), cel L f1 a (.inl (cy 0, n1, .inl g')) → (∀ b, b ≠ a → f1 b = f b) → WW D A H0 L f1 H1 locs1 → W p l e R s m args below meth c H1 locs1 cells slots Q (F0 m (pc + 3) ls rest)) : W p l e R s m args below meth c H locs cells slots Q (F0 m pc ls (.int (nI n) :: .int (nI dp) :: .ref a :: .int (nI sp) :: .ref a0 :: rest)) := by
  obtain ⟨q0, hq0⟩ := hc0.at
  obtain ⟨q1, hq1⟩ := hc1.at
  refine va_copyi E.1.1 E.1.2.1 (by rw [hls]; exact E.1.2.2.1) E.1.2.2.2.1 (E.1.2.2.2.2 _ h1) (E.1.2.2.2.2 _ h2) (E.1.2.2.2.2 _ h3) (E.1.2.2.2.2 _ h4) E.2.1 hw.1 hw.2.1 hw.2.2.1 q0 q1 0 0 (ty := .int) hq0 hq1 rfl rfl rfl (nI_pos (show sp < 2 ^ 31 by omega)) (nI_pos (show dp < 2 ^ 31 by omega)) (nI_pos (show n < 2 ^ 31 by omega)) ?_ ?_ (fun _ _ => rfl) hfr hlo hdg (fun H1 locs1 hP hD hS => ?_)
  · rw [nI_clamp (show sp < 2 ^ 31 by omega), nI_clamp (show n < 2 ^ 31 by omega)]; exact b1
  · rw [nI_clamp (show dp < 2 ^ 31 by omega), nI_clamp (show n < 2 ^ 31 by omega)]; exact b2
  rw [nI_clamp (show sp < 2 ^ 31 by omega), nI_clamp (show dp < 2 ^ 31 by omega), nI_clamp (show n < 2 ^ 31 by omega)] at hP hD
  exact kk (va_up f a (.inl (cy 0, n1, .inl g'))) H1 locs1 (up_at hc1.1) (fun b hb => va_up_ne _ _ hb) (k_upd hw hc1 hq1 hP hD hS (at_int hg))
theorem cyI_is (hK : KK D cy s) : s.vm.findClass "[I" = some (cy 0) := (hK.1.2 0 (cy 0, .int) rfl).2
theorem k_clonei (E : EE p s m args c cc nL own D cy) (hls : ls.size = nL) {index : Nat} (h1 : Cond.methodLink own index ⟨"[I", "clone", "()Ljava/lang/Object;"⟩ ∈ wsL_law) (h2 : Cond.sameMethod "[I" "java/lang/Object" "clone" "()Ljava/lang/Object;" ∈ wsL_law) (h3 : Cond.native ⟨"java/lang/Object", "clone", "()Ljava/lang/Object;"⟩ ∈ wsL_law) (h4 : Cond.instanceMethod ⟨"java/lang/Object", "clone", "()Ljava/lang/Object;"⟩ ∈ wsL_law) (h5 : Cond.selects "[I" ⟨"[I", "clone", "()Ljava/lang/Object;"⟩ ⟨"java/lang/Object", "clone", "()Ljava/lang/Object;"⟩ ∈ wsL_law) (hw : WW D A H0 L f H locs) {a n0 : Nat} {x : Nat → Int32} (hc0 : cel L f a (.inl (cy 0, n0, .inl x))) (hfr : 1 ≤ R.frames) (hlo : (rest.map fun v => v.category).sum + 14 ≤ R.locals) (hcells : cells + 1 ≤ R.cells) (hslots : slots + n0 ≤ R.slots) (hdg : decode cc pc = .ok (.invokevirtual index, 3))
    (kk : ∀ (q : Nat) (f1 : Nat → va_E) (H1 : Heap), q ∉ L → cel (L ++ [q]) f1 q (.inl (cy 0, n0, .inl x)) → (∀ b, b ≠ q → f1 b = f b) → WW D A H0 (L ++ [q]) f1 H1 locs → W p l e R s m args below meth c H1 locs (cells + 1) (slots + n0) Q (F0 m (pc + 3) ls (.ref q :: rest))) : W p l e R s m args below meth c H locs cells slots Q (F0 m pc ls (.ref a :: rest)) := by
  obtain ⟨q0, hq0⟩ := hc0.at
  refine va_clone E.1.1 E.1.2.1 (by rw [hls]; exact E.1.2.2.1) E.1.2.2.2.1 (E.1.2.2.2.2 _ h1) (E.1.2.2.2.2 _ h2) (E.1.2.2.2.2 _ h3) (E.1.2.2.2.2 _ h4) (E.1.2.2.2.2 _ h5) (E.2.2.1 _ (List.mem_of_getElem? (i := 21) rfl)) E.2.1 hw.1 hw.2.1 hw.2.2.1 hw.2.2.2 q0 0 (ty := .int) hq0 rfl (cyI_is E.2) ?_ hfr hlo hcells hslots hdg (fun q H1 hK hP hD hS => ?_)
  · intro i v hv
    have hi : i < n0 := by
      have := (Array.getElem?_eq_some_iff.mp hv).1
      have e1 : (vp_cell (cy 0) (n0, .inl x)).slots.size = n0 := arrV_size _ _ _
      omega
    have e2 : (vp_cell (cy 0) (n0, .inl x)).slots[i]? = some (.int (x i)) := arrV_read _ (fun j => .int (x j)) hi
    rw [e2] at hv
    obtain rfl := Option.some.inj hv
    rfl
  obtain ⟨hq, hw1⟩ := k_mk hw hP hD hS (fun _ h => h)
  exact kk q _ H1 hq (up_at mem_snoc) (fun b hb => va_up_ne _ _ hb) hw1
theorem k_casti (E : EE p s m args c cc nL own D cy) {index : Nat} (h1 : Cond.classLink own index "[I" ∈ wsL_law) (hw : WW D A H0 L f H locs) {a n0 : Nat} {x : Nat → Int32} (hc0 : cel L f a (.inl (cy 0, n0, .inl x))) (hdg : decode cc pc = .ok (.checkcast index, 3))
    (kk : W p l e R s m args below meth c H locs cells slots Q (F0 m (pc + 3) ls (.ref a :: rest))) : W p l e R s m args below meth c H locs cells slots Q (F0 m pc ls (.ref a :: rest)) := by
  obtain ⟨q0, hq0⟩ := hc0.at
  exact va_castA E.1.1 E.1.2.1 E.1.2.2.2.1 (E.1.2.2.2.2 _ h1) hw.1 q0 hq0 (cyI_is E.2) hdg kk
end KU
end
section
theorem mn320 {n : Nat} (hn : n ≤ 320) : (if nI n < nI 320 then nI n else nI 320) = nI n := by
  split
  · rfl
  · rename_i h
    have : ¬ n < 320 := fun z => h ((nI_ltI (by omega) (by decide)).mpr z)
    rw [show n = 320 by omega]
theorem mn5 {n : Nat} (hn : n ≤ 5) : (if nI 5 < nI n then nI 5 else nI n) = nI n := by
  split
  · rename_i h
    have := (nI_ltI (by decide) (by omega)).mp h
    omega
  · rfl
theorem cp3 (b : Nat → Bool) (B0 : Nat → Nat → Bool) (w : Nat) : va_cpy (wd b) (rw3 B0) 0 0 3 w = rw3 (va_up B0 0 b) w := by
  unfold va_cpy rw3
  by_cases h : w < 3
  · rw [if_pos ⟨by omega, by omega⟩, show w / 3 = 0 by omega, va_up_self, show w % 3 = w by omega]
    congr 1
    omega
  · rw [if_neg (by omega), va_up_ne _ _ (by omega)]
theorem ix1 {i base d : Nat} (h : d < base) : (i * base + d) / base = i := by
  rw [Nat.mul_comm, Nat.mul_add_div (by omega), Nat.div_eq_of_lt h, Nat.add_zero]
theorem ix2 {i base d : Nat} (h : d < base) : (i * base + d) % base = d := by
  rw [Nat.mul_comm, Nat.mul_add_mod, Nat.mod_eq_of_lt h]
theorem ix3 {i base d n : Nat} (h : i < n) (hd : d < base) : i * base + d < n * base := by
  have := Nat.mul_le_mul_right base (show i + 1 ≤ n from h)
  rw [Nat.succ_mul] at this
  omega
set_option maxHeartbeats 4000000 in
set_option maxRecDepth 100000 in
theorem c_copyOfJ (l : Launch) (D : va_G) (cy : Nat → ClassId) (L : List Nat) (f0 : Nat → va_E) (sz : Nat) (a : Nat) (g : Nat → Int64) (h_row : cel L f0 a (.inl (cy 1, 59, .inr (.inl g)))) : Met l yJ7_copyOf_c38d5 (.code yJ7_copyOf_c38d5 cJ7_copyOf_c38d5 3 (Option.some (FieldType.array FieldType.long)) :: wsL_law) { frames := 1, cells := 1, slots := 3, locals := 18 } (va_Pc [.ref a, .int (nI 3)] (PW D cy L f0 sz)) (va_Qq (fun (r : Option Nat) (u : List Nat × (Nat → va_E)) => (∀ b ∈ L, b ∈ u.1) ∧ (∀ b ∈ L, u.2 b = f0 b) ∧ ∃ q, r = some q ∧ q ∉ L ∧ cel u.1 u.2 q (.inl (cy 1, 3, .inr (.inl g)))) (PB D (AW L sz)) (AW L sz)) 1 3 (AW L sz) := by
  refine m_start (by decide) (Nat.le_of_ble_eq_true rfl) ?_
  intro p e R Q s m args below meth c ls hsz hR hQ E hr hlk hnm hw hl
  have hl : lv_has ls 3 [(0, .ref a), (1, .int (nI 3))] := hl
  obtain ⟨H, hH⟩ : ∃ X, X = s.heap := ⟨_, rfl⟩
  obtain ⟨locs, hlocs⟩ : ∃ X : List Loc, X = [] := ⟨_, rfl⟩
  have hw0 := hw
  obtain ⟨f, hf0⟩ : ∃ X, X = f0 := ⟨_, rfl⟩
  rw [← hf0] at h_row
  have hw : WW D (AW L sz) s.heap L f H locs := by rw [hH, hlocs, hf0]; exact hw
  have hF : ∀ b ∈ L, f b = f0 b := fun b hb => by rw [hf0]
  suffices hgo : W p l e R s m args below meth c H locs 0 0 Q (F0 m 0 ls []) by rw [hH, hlocs] at hgo; exact hgo
  clear hH hlocs hw0 hf0
  have hLs : ∀ b ∈ L, b ∈ L := fun _ h => h
  refine lv_iload_n E.1.1 E.1.2.1 dJ7_copyOf_c38d5_0 rfl (lv_at hl 1 rfl) ?_
  refine lv_aload_n E.1.1 E.1.2.1 dJ7_copyOf_c38d5_1 rfl (lv_at hl 0 rfl) ?_
  refine k_alen E hw 1 h_row rfl (n := 59) rfl dJ7_copyOf_c38d5_2 ?_
  refine k_ne (tgt := 14) E dJ7_copyOf_c38d5_3 (by decide) (by omega) (by omega) (fun c3 => ?_) (fun c3 => absurd c3 (by decide))
  refine lv_iload_n E.1.1 E.1.2.1 dJ7_copyOf_c38d5_14 rfl (lv_at hl 1 rfl) ?_
  refine k_newa (atype := .long) E rfl w1_46 1 rfl hw (3, .inr (.inl (fun _ => 0))) (fun cB => rfl) (by omega) (by decide) (by rw [hR]; exact Nat.le_of_ble_eq_true rfl) (by rw [hR]; exact Nat.le_of_ble_eq_true rfl) dJ7_copyOf_c38d5_15 (fun q f H hq_q h_q hfr hw => ?_)
  have n_row_q : a ≠ q := fun h => hq_q (h ▸ h_row.1)
  have n_q_row := Ne.symm n_row_q
  have h_row := h_row.keep (sub_snoc (a := q)) (hfr _ n_row_q)
  have hd_q : ∀ b ∈ L, b ≠ q := fun b hb h => hq_q (h ▸ hLs b hb)
  have hF : ∀ b ∈ L, f b = f0 b := fun b hb => (hfr b (hd_q b hb)).trans (hF b hb)
  have hLs : ∀ b ∈ L, b ∈ L ++ [q] := fun b hb => List.mem_append_left _ (hLs b hb)
  refine W.cs (cells' := 1) (slots' := 3) rfl rfl ?_
  refine lv_astore_n (lv' := [(2, .ref q), (0, .ref a), (1, .int (nI 3))]) E.1.1 E.1.2.1 dJ7_copyOf_c38d5_17 rfl hl (by decide) rfl (fun ls hl => ?_)
  refine lv_aload_n E.1.1 E.1.2.1 dJ7_copyOf_c38d5_18 rfl (lv_at hl 1 rfl) ?_
  refine lv_iconst (v := nI 0) E.1.1 E.1.2.1 dJ7_copyOf_c38d5_19 rfl ?_
  refine lv_aload_n E.1.1 E.1.2.1 dJ7_copyOf_c38d5_20 rfl (lv_at hl 0 rfl) ?_
  refine lv_iconst (v := nI 0) E.1.1 E.1.2.1 dJ7_copyOf_c38d5_21 rfl ?_
  refine lv_aload_n E.1.1 E.1.2.1 dJ7_copyOf_c38d5_22 rfl (lv_at hl 1 rfl) ?_
  refine k_alen E hw 1 h_row rfl (n := 59) rfl dJ7_copyOf_c38d5_23 ?_
  refine lv_iload_n E.1.1 E.1.2.1 dJ7_copyOf_c38d5_24 rfl (lv_at hl 2 rfl) ?_
  refine va_mmin E.1.1 E.1.2.1 (by rw [E.1.2.2.1]; exact hl.1.symm) E.1.2.2.2.1 (E.1.2.2.2.2 _ w1_182) (E.1.2.2.2.2 _ w1_144) (E.1.2.2.2.2 _ w1_5) (E.1.2.2.2.2 _ w1_145) (by rw [hR]; exact Nat.le_of_ble_eq_true rfl) (by rw [hR]; exact Nat.le_of_ble_eq_true rfl) (by rw [hR]; exact Nat.le_of_ble_eq_true rfl) (by rw [hR]; first | exact Nat.le_of_ble_eq_true rfl | (dsimp only; omega)) dJ7_copyOf_c38d5_25 ?_
  refine k_top E (nI 3) (by decide) ?_
  refine k_copyl E hl.1 w1_183 w1_148 w1_147 w1_7 hw (g) h_row h_q (by omega) (by omega) (by omega) (by omega) (fun j hj => by rw [pk_cpy_in (by omega) (by omega)]; congr 1; omega) (by rw [hR]; exact Nat.le_of_ble_eq_true rfl) (by rw [hR]; exact Nat.le_of_ble_eq_true rfl) dJ7_copyOf_c38d5_28 (fun f H locs h_q hfr hw => ?_)
  have h_row := h_row.kp hfr n_row_q
  have hF : ∀ b ∈ L, f b = f0 b := fun b hb => (hfr b (hd_q b hb)).trans (hF b hb)
  refine lv_aload_n E.1.1 E.1.2.1 dJ7_copyOf_c38d5_31 rfl (lv_at hl 0 rfl) ?_
  exact k_mqret (v := some q) E hQ hlk hr (Or.inr ⟨_, rfl⟩) hw (Nat.le_of_ble_eq_true rfl) (Nat.le_of_ble_eq_true rfl) (⟨hLs, hF, q, rfl, hq_q, h_q⟩) dJ7_copyOf_c38d5_32

set_option maxHeartbeats 4000000 in
set_option maxRecDepth 100000 in
theorem c_copyOfI (l : Launch) (D : va_G) (cy : Nat → ClassId) (L : List Nat) (f0 : Nat → va_E) (sz : Nat) (a n : Nat) (G : Nat → Int32) (hn : n ≤ 320) (h_row : cel L f0 a (.inl (cy 0, 320, .inl G))) : Met l yJ7_copyOf_59c91 (.code yJ7_copyOf_59c91 cJ7_copyOf_59c91 3 (Option.some (FieldType.array FieldType.int)) :: wsL_law) { frames := 1, cells := 1, slots := 320, locals := 18 } (va_Pc [.ref a, .int (nI n)] (PW D cy L f0 sz)) (va_Qq (fun (r : Option Nat) (u : List Nat × (Nat → va_E)) => (∀ b ∈ L, b ∈ u.1) ∧ (∀ b ∈ L, u.2 b = f0 b) ∧ ∃ q, r = some q ∧ q ∉ L ∧ cel u.1 u.2 q (.inl (cy 0, n, .inl G))) (PB D (AW L sz)) (AW L sz)) 1 320 (AW L sz) := by
  refine m_start (by decide) (Nat.le_of_ble_eq_true rfl) ?_
  intro p e R Q s m args below meth c ls hsz hR hQ E hr hlk hnm hw hl
  have hl : lv_has ls 3 [(0, .ref a), (1, .int (nI n))] := hl
  obtain ⟨H, hH⟩ : ∃ X, X = s.heap := ⟨_, rfl⟩
  obtain ⟨locs, hlocs⟩ : ∃ X : List Loc, X = [] := ⟨_, rfl⟩
  have hw0 := hw
  obtain ⟨f, hf0⟩ : ∃ X, X = f0 := ⟨_, rfl⟩
  rw [← hf0] at h_row
  have hw : WW D (AW L sz) s.heap L f H locs := by rw [hH, hlocs, hf0]; exact hw
  have hF : ∀ b ∈ L, f b = f0 b := fun b hb => by rw [hf0]
  suffices hgo : W p l e R s m args below meth c H locs 0 0 Q (F0 m 0 ls []) by rw [hH, hlocs] at hgo; exact hgo
  clear hH hlocs hw0 hf0
  have hLs : ∀ b ∈ L, b ∈ L := fun _ h => h
  refine lv_iload_n E.1.1 E.1.2.1 dJ7_copyOf_59c91_0 rfl (lv_at hl 1 rfl) ?_
  refine lv_aload_n E.1.1 E.1.2.1 dJ7_copyOf_59c91_1 rfl (lv_at hl 0 rfl) ?_
  refine k_alen E hw 0 h_row rfl (n := 320) rfl dJ7_copyOf_59c91_2 ?_
  refine k_ne (tgt := 14) E dJ7_copyOf_59c91_3 (by decide) (by omega) (by omega) (fun c3 => ?_) (fun c3 => ?_)
  · refine lv_iload_n E.1.1 E.1.2.1 dJ7_copyOf_59c91_14 rfl (lv_at hl 1 rfl) ?_
    refine k_newa (atype := .int) E rfl w1_72 0 rfl hw (n, .inl (fun _ => 0)) (fun cB => rfl) (by omega) (by show n * 4 ≤ 536870912; omega) (by rw [hR]; exact Nat.le_of_ble_eq_true rfl) (by rw [hR]; show 0 + n ≤ 320; omega) dJ7_copyOf_59c91_15 (fun q f H hq_q h_q hfr hw => ?_)
    have n_row_q : a ≠ q := fun h => hq_q (h ▸ h_row.1)
    have n_q_row := Ne.symm n_row_q
    have h_row := h_row.keep (sub_snoc (a := q)) (hfr _ n_row_q)
    have hd_q : ∀ b ∈ L, b ≠ q := fun b hb h => hq_q (h ▸ hLs b hb)
    have hF : ∀ b ∈ L, f b = f0 b := fun b hb => (hfr b (hd_q b hb)).trans (hF b hb)
    have hLs : ∀ b ∈ L, b ∈ L ++ [q] := fun b hb => List.mem_append_left _ (hLs b hb)
    refine W.cs (cells' := 1) (slots' := 0 + n) rfl rfl ?_
    refine lv_astore_n (lv' := [(2, .ref q), (0, .ref a), (1, .int (nI n))]) E.1.1 E.1.2.1 dJ7_copyOf_59c91_17 rfl hl (by decide) rfl (fun ls hl => ?_)
    refine lv_aload_n E.1.1 E.1.2.1 dJ7_copyOf_59c91_18 rfl (lv_at hl 1 rfl) ?_
    refine lv_iconst (v := nI 0) E.1.1 E.1.2.1 dJ7_copyOf_59c91_19 rfl ?_
    refine lv_aload_n E.1.1 E.1.2.1 dJ7_copyOf_59c91_20 rfl (lv_at hl 0 rfl) ?_
    refine lv_iconst (v := nI 0) E.1.1 E.1.2.1 dJ7_copyOf_59c91_21 rfl ?_
    refine lv_aload_n E.1.1 E.1.2.1 dJ7_copyOf_59c91_22 rfl (lv_at hl 1 rfl) ?_
    refine k_alen E hw 0 h_row rfl (n := 320) rfl dJ7_copyOf_59c91_23 ?_
    refine lv_iload_n E.1.1 E.1.2.1 dJ7_copyOf_59c91_24 rfl (lv_at hl 2 rfl) ?_
    refine va_mmin E.1.1 E.1.2.1 (by rw [E.1.2.2.1]; exact hl.1.symm) E.1.2.2.2.1 (E.1.2.2.2.2 _ w1_182) (E.1.2.2.2.2 _ w1_144) (E.1.2.2.2.2 _ w1_5) (E.1.2.2.2.2 _ w1_145) (by rw [hR]; exact Nat.le_of_ble_eq_true rfl) (by rw [hR]; exact Nat.le_of_ble_eq_true rfl) (by rw [hR]; exact Nat.le_of_ble_eq_true rfl) (by rw [hR]; first | exact Nat.le_of_ble_eq_true rfl | (dsimp only; omega)) dJ7_copyOf_59c91_25 ?_
    refine k_top E (nI n) (mn320 hn) ?_
    refine k_copyi E hl.1 w1_183 w1_148 w1_147 w1_7 hw (G) h_row h_q (by omega) (by omega) (by omega) (by omega) (fun j hj => by rw [pk_cpy_in (by omega) (by omega)]; congr 1; omega) (by rw [hR]; exact Nat.le_of_ble_eq_true rfl) (by rw [hR]; exact Nat.le_of_ble_eq_true rfl) dJ7_copyOf_59c91_28 (fun f H locs h_q hfr hw => ?_)
    have h_row := h_row.kp hfr n_row_q
    have hF : ∀ b ∈ L, f b = f0 b := fun b hb => (hfr b (hd_q b hb)).trans (hF b hb)
    refine lv_aload_n E.1.1 E.1.2.1 dJ7_copyOf_59c91_31 rfl (lv_at hl 0 rfl) ?_
    exact k_mqret (v := some q) E hQ hlk hr (Or.inr ⟨_, rfl⟩) hw (Nat.le_of_ble_eq_true rfl) (by omega) (⟨hLs, hF, q, rfl, hq_q, h_q⟩) dJ7_copyOf_59c91_32
  · refine lv_aload_n E.1.1 E.1.2.1 dJ7_copyOf_59c91_6 rfl (lv_at hl 0 rfl) ?_
    refine k_clonei E hl.1 w1_175 w1_176 w1_177 w1_178 w1_179 hw h_row (by rw [hR]; exact Nat.le_of_ble_eq_true rfl) (by rw [hR]; exact Nat.le_of_ble_eq_true rfl) (by rw [hR]; exact Nat.le_of_ble_eq_true rfl) (by rw [hR]; exact Nat.le_of_ble_eq_true rfl) dJ7_copyOf_59c91_7 (fun q f H hq_q h_q hfr hw => ?_)
    have n_row_q : a ≠ q := fun h => hq_q (h ▸ h_row.1)
    have n_q_row := Ne.symm n_row_q
    have h_row := h_row.keep (sub_snoc (a := q)) (hfr _ n_row_q)
    have hd_q : ∀ b ∈ L, b ≠ q := fun b hb h => hq_q (h ▸ hLs b hb)
    have hF : ∀ b ∈ L, f b = f0 b := fun b hb => (hfr b (hd_q b hb)).trans (hF b hb)
    have hLs : ∀ b ∈ L, b ∈ L ++ [q] := fun b hb => List.mem_append_left _ (hLs b hb)
    refine W.cs (cells' := 1) (slots' := 320) rfl rfl ?_
    refine k_casti E w1_181 hw h_q dJ7_copyOf_59c91_10 ?_
    exact k_mqret (v := some q) E hQ hlk hr (Or.inr ⟨_, rfl⟩) hw (Nat.le_of_ble_eq_true rfl) (by omega) (⟨hLs, hF, q, rfl, hq_q, by rw [c3]; exact h_q⟩) dJ7_copyOf_59c91_13

set_option maxHeartbeats 4000000 in
set_option maxRecDepth 100000 in
theorem c_sameRows (l : Launch) (D : va_G) (cy : Nat → ClassId) (L : List Nat) (f : Nat → va_E) (sz : Nat) (tr ro go base t per nf x y : Nat) (B : Nat → Nat → Bool) (hx : x ≤ 64) (hy : y ≤ 64) (h_tr : cel L f tr (.inr (4, [.ref ro, .ref go, .int (nI base), .int (nI t), .int (nI per), .int (nI nf)]))) (h_rows : cel L f ro (.inl (cy 1, 195, .inr (.inl (rw3 B))))) : Met l yX4_sameRows (.code yX4_sameRows cX4_sameRows 4 (Option.some FieldType.boolean) :: wsL_law) { frames := 0, cells := 0, slots := 0, locals := 0 } (va_Pc [.ref tr, .int (nI x), .int (nI y)] (PW D cy L f sz)) (vp_Si (fun r => r = b2i (dB (SameR (B x) (B y))))) 0 0 (fun _ => False) := by
  refine m_start (by decide) (Nat.le_of_ble_eq_true rfl) ?_
  intro p e R Q s m args below meth c ls hsz hR hQ E hr hlk hnm hw hl
  have hl : lv_has ls 4 [(0, .ref tr), (1, .int (nI x)), (2, .int (nI y))] := hl
  refine lv_iconst (v := nI 0) E.1.1 E.1.2.1 dX4_sameRows_0 rfl ?_
  refine lv_istore_n (lv' := [(3, .int (nI 0)), (0, .ref tr), (1, .int (nI x)), (2, .int (nI y))]) E.1.1 E.1.2.1 dX4_sameRows_1 rfl hl (by decide) rfl (fun ls hl => ?_)
  have lp2 : ∀ (k : Nat) (i : Nat) (ls : Array Slot), (3 - i < k) → (i ≤ 3) → (∀ j, j < i → wd (B x) j = wd (B y) j) → (lv_has ls 4 [(3, .int (nI i)), (0, .ref tr), (1, .int (nI x)), (2, .int (nI y))]) → W p l e R s m args below meth c s.heap [] 0 0 Q (F0 m 2 ls []) := by
    intro k
    induction k with
    | zero => intro _ _ hk; exact absurd hk (Nat.not_lt_zero _)
    | succ k ih2 =>
      intro i  ls hk hi hg hl
      refine lv_iload_n E.1.1 E.1.2.1 dX4_sameRows_2 rfl (lv_at hl 0 rfl) ?_
      refine lv_iconst (v := nI 3) E.1.1 E.1.2.1 dX4_sameRows_3 rfl ?_
      refine k_ge (tgt := 39) E dX4_sameRows_4 (by decide) (by omega) (by omega) (fun c4 => ?_) (fun c4 => ?_)
      · refine lv_iconst (v := nI 1) E.1.1 E.1.2.1 dX4_sameRows_39 rfl ?_
        refine k_top E (b2i true) rfl ?_
        exact k_zret E hQ hlk hr (by rw [dB_t (same_wd.mp (fun j hj => hg j (by omega)))]) dX4_sameRows_40
      · refine lv_aload_n E.1.1 E.1.2.1 dX4_sameRows_7 rfl (lv_at hl 1 rfl) ?_
        refine k_get (v := .ref ro) E inlX4 rfl 0 (by decide) w1_53 rfl hw h_tr rfl dX4_sameRows_8 ?_
        refine lv_iload_n E.1.1 E.1.2.1 dX4_sameRows_11 rfl (lv_at hl 2 rfl) ?_
        refine lv_iconst (v := nI 3) E.1.1 E.1.2.1 dX4_sameRows_12 rfl ?_
        refine k_mul E dX4_sameRows_13 ?_
        refine lv_iload_n E.1.1 E.1.2.1 dX4_sameRows_14 rfl (lv_at hl 0 rfl) ?_
        refine k_add E dX4_sameRows_15 ?_
        refine k_lald E hw (v := wd (B x) i) h_rows (by omega) (by omega) (rw3_at B x (by omega)) dX4_sameRows_16 ?_
        refine lv_aload_n E.1.1 E.1.2.1 dX4_sameRows_17 rfl (lv_at hl 1 rfl) ?_
        refine k_get (v := .ref ro) E inlX4 rfl 0 (by decide) w1_53 rfl hw h_tr rfl dX4_sameRows_18 ?_
        refine lv_iload_n E.1.1 E.1.2.1 dX4_sameRows_21 rfl (lv_at hl 3 rfl) ?_
        refine lv_iconst (v := nI 3) E.1.1 E.1.2.1 dX4_sameRows_22 rfl ?_
        refine k_mul E dX4_sameRows_23 ?_
        refine lv_iload_n E.1.1 E.1.2.1 dX4_sameRows_24 rfl (lv_at hl 0 rfl) ?_
        refine k_add E dX4_sameRows_25 ?_
        refine k_lald E hw (v := wd (B y) i) h_rows (by omega) (by omega) (rw3_at B y (by omega)) dX4_sameRows_26 ?_
        refine W.lcmp E.1.1 E.1.2.1 dX4_sameRows_27 ?_
        refine lv_if_eq (tgt := 33) E.1.1 E.1.2.1 dX4_sameRows_28 (by decide) (fun c28 => ?_) (fun c28 => ?_)
        · refine lv_iinc (v := nI (i + 1)) (lv' := [(3, .int (nI (i + 1))), (0, .ref tr), (1, .int (nI x)), (2, .int (nI y))]) E.1.1 E.1.2.1 dX4_sameRows_33 hl (k := 0) rfl (nI_1 _) (by decide) rfl (fun ls hl => ?_)
          refine lv_goto (tgt := 2) E.1.1 E.1.2.1 dX4_sameRows_36 (by decide) ?_
          exact ih2  (i + 1) ls (by omega) (by omega) (fun j hj => by
      by_cases h : j = i
      · rw [h]; exact (lg_cmp_eq _ _).mp c28
      · exact hg j (by omega))  (lv_sub hl [0, 1, 2, 3] rfl)
        · refine lv_iconst (v := nI 0) E.1.1 E.1.2.1 dX4_sameRows_31 rfl ?_
          refine k_top E (b2i false) rfl ?_
          exact k_zret E hQ hlk hr (by rw [dB_f (fun h => c28 ((lg_cmp_eq _ _).mpr (same_wd.mpr h i (by omega))))]) dX4_sameRows_32
  exact lp2 (3 - 0 + 1) 0 ls (Nat.lt_succ_self _) (by omega) (fun j hj => absurd hj (by omega))  (lv_sub hl [0, 1, 2, 3] rfl)

set_option maxHeartbeats 4000000 in
set_option maxRecDepth 100000 in
theorem c_metAs (l : Launch) (D : va_G) (cy : Nat → ClassId) (L : List Nat) (f : Nat → va_E) (sz : Nat) (tr ro go base t per nf : Nat) (B : Nat → Nat → Bool) (hnf : nf ≤ 64) (h_tr : cel L f tr (.inr (4, [.ref ro, .ref go, .int (nI base), .int (nI t), .int (nI per), .int (nI nf)]))) (h_rows : cel L f ro (.inl (cy 1, 195, .inr (.inl (rw3 B))))) : Met l yX4_metAs (.code yX4_metAs cX4_metAs 2 (Option.some FieldType.int) :: wsL_law) { frames := 1, cells := 0, slots := 0, locals := 23 } (va_Pc [.ref tr] (PW D cy L f sz)) (vp_Si (fun r => ∃ j, r = nI j ∧ j ≤ nf ∧ (∀ x, x < j → ¬ SameR (B x) (B nf)) ∧ (j = nf ∨ SameR (B j) (B nf)))) 0 0 (fun _ => False) := by
  refine m_start (by decide) (Nat.le_of_ble_eq_true rfl) ?_
  intro p e R Q s m args below meth c ls hsz hR hQ E hr hlk hnm hw hl
  have hl : lv_has ls 2 [(0, .ref tr)] := hl
  refine lv_iconst (v := nI 0) E.1.1 E.1.2.1 dX4_metAs_0 rfl ?_
  refine lv_istore_n (lv' := [(1, .int (nI 0)), (0, .ref tr)]) E.1.1 E.1.2.1 dX4_metAs_1 rfl hl (by decide) rfl (fun ls hl => ?_)
  have lp2 : ∀ (k : Nat) (j : Nat) (ls : Array Slot), (nf - j < k) → (j ≤ nf) → (∀ x, x < j → ¬ SameR (B x) (B nf)) → (lv_has ls 2 [(1, .int (nI j)), (0, .ref tr)]) → W p l e R s m args below meth c s.heap [] 0 0 Q (F0 m 2 ls []) := by
    intro k
    induction k with
    | zero => intro _ _ hk; exact absurd hk (Nat.not_lt_zero _)
    | succ k ih2 =>
      intro j  ls hk hj hg hl
      refine lv_iload_n E.1.1 E.1.2.1 dX4_metAs_2 rfl (lv_at hl 0 rfl) ?_
      refine lv_aload_n E.1.1 E.1.2.1 dX4_metAs_3 rfl (lv_at hl 1 rfl) ?_
      refine k_get (v := .int (nI nf)) E inlX4 rfl 5 (by decide) w1_58 rfl hw h_tr rfl dX4_metAs_4 ?_
      refine k_ge (tgt := 28) E dX4_metAs_7 (by decide) (by omega) (by omega) (fun c7 => ?_) (fun c7 => ?_)
      · refine lv_iload_n E.1.1 E.1.2.1 dX4_metAs_28 rfl (lv_at hl 0 rfl) ?_
        exact k_iret E hQ hlk hr (⟨j, rfl, hj, hg, Or.inl (by omega)⟩) dX4_metAs_29
      · refine lv_aload_n E.1.1 E.1.2.1 dX4_metAs_10 rfl (lv_at hl 1 rfl) ?_
        refine lv_iload_n E.1.1 E.1.2.1 dX4_metAs_11 rfl (lv_at hl 0 rfl) ?_
        refine lv_aload_n E.1.1 E.1.2.1 dX4_metAs_12 rfl (lv_at hl 1 rfl) ?_
        refine k_get (v := .int (nI nf)) E inlX4 rfl 5 (by decide) w1_58 rfl hw h_tr rfl dX4_metAs_13 ?_
        refine k_ri (va_runV (As := [.int (nI j), .int (nI nf)]) (rest := []) E.1 (c_sameRows l D cy L f s.heap.size tr ro go base t per nf j nf B (by omega) (by omega) h_tr h_rows) ⟨callB_of 2 E.1.2.2.2.2 (gd_own w1_163) rfl rfl rfl (E.1.2.2.2.2 _ w1_3) (E.1.2.2.2.2 _ w1_160) hd_X4_sameRows (by rw [hR]; exact ⟨Nat.le_of_ble_eq_true rfl, Nat.le_of_ble_eq_true rfl⟩), E.1.2.2.2.2 _ w1_162, E.1.2.2.2.2 _ ws_8⟩ (pw_preV (q := (RX4, TX4, 6)) E.2 hw h_tr rfl) rfl rfl hl.1 rfl (lv_room (Nat.le_of_ble_eq_true rfl)) dX4_metAs_16 ⟨Nat.zero_le _, Nat.zero_le _⟩) ?_
        refine k_if1 (tgt := 28) E dX4_metAs_19 (by decide) (fun c19 => ?_) (fun c19 => ?_)
        · refine lv_iload_n E.1.1 E.1.2.1 dX4_metAs_28 rfl (lv_at hl 0 rfl) ?_
          exact k_iret E hQ hlk hr (⟨j, rfl, hj, hg, Or.inr (dB_iff.mp c19)⟩) dX4_metAs_29
        · refine lv_iinc (v := nI (j + 1)) (lv' := [(1, .int (nI (j + 1))), (0, .ref tr)]) E.1.1 E.1.2.1 dX4_metAs_22 hl (k := 0) rfl (nI_1 _) (by decide) rfl (fun ls hl => ?_)
          refine lv_goto (tgt := 2) E.1.1 E.1.2.1 dX4_metAs_25 (by decide) ?_
          exact ih2  (j + 1) ls (by omega) (by omega) (fun x hx => by
      by_cases h : x = j
      · rw [h]; exact fun z => absurd (dB_t z) (by rw [c19]; decide)
      · exact hg x (by omega))  (lv_sub hl [0, 1] rfl)
  exact lp2 (nf - 0 + 1) 0 ls (Nat.lt_succ_self _) (by omega) (fun j hj => absurd hj (by omega))  (lv_sub hl [0, 1] rfl)

set_option maxHeartbeats 4000000 in
set_option maxRecDepth 100000 in
theorem c_writeRest (l : Launch) (D : va_G) (cy : Nat → ClassId) (L : List Nat) (f0 : Nat → va_E) (sz : Nat) (tr ro go base t per nf i dg : Nat) (B : Nat → Nat → Bool) (hnf : nf ≤ 64) (hi : i < nf) (hdg : dg < base) (hbase : base ≤ 5) (ht : t ≤ 120) (hper : 0 < per) (hper2 : per ≤ 60) (h_tr : cel L f0 tr (.inr (4, [.ref ro, .ref go, .int (nI base), .int (nI t), .int (nI per), .int (nI nf)]))) (h_rows : cel L f0 ro (.inl (cy 1, 195, .inr (.inl (rw3 B))))) : Met l yX4_writeRest (.code yX4_writeRest cX4_writeRest 7 none :: wsL_law) { frames := 1, cells := 0, slots := 0, locals := 22 } (va_Pc [.ref tr, .int (nI i), .int (nI dg)] (PW D cy L f0 sz)) (va_Qv (fun u : List Nat × (Nat → va_E) => L = u.1 ∧ (∀ b ∈ L, b ≠ ro → u.2 b = f0 b) ∧ cel L u.2 ro (.inl (cy 1, 195, .inr (.inl (rw3 (va_up B nf (rb (fun u => B i (fold t per (base * u + dg))) (t + per)))))))) (PB D (AW L sz)) (AW L sz)) 0 0 (AW L sz) := by
  refine m_start (by decide) (Nat.le_of_ble_eq_true rfl) ?_
  intro p e R Q s m args below meth c ls hsz hR hQ E hr hlk hnm hw hl
  have hl : lv_has ls 7 [(0, .ref tr), (1, .int (nI i)), (2, .int (nI dg))] := hl
  obtain ⟨H, hH⟩ : ∃ X, X = s.heap := ⟨_, rfl⟩
  obtain ⟨locs, hlocs⟩ : ∃ X : List Loc, X = [] := ⟨_, rfl⟩
  have hw0 := hw
  obtain ⟨f, hf0⟩ : ∃ X, X = f0 := ⟨_, rfl⟩
  rw [← hf0] at h_tr h_rows
  have hw : WW D (AW L sz) s.heap L f H locs := by rw [hH, hlocs, hf0]; exact hw
  have hF : ∀ b ∈ L, b ≠ ro → f b = f0 b := fun b hb h0 => by rw [hf0]
  suffices hgo : W p l e R s m args below meth c H locs 0 0 Q (F0 m 0 ls []) by rw [hH, hlocs] at hgo; exact hgo
  clear hH hlocs hw0 hf0
  have hLs : ∀ b ∈ L, b ∈ L := fun _ h => h
  have n_tr_rows : tr ≠ ro := h_tr.ne h_rows (by simp)
  refine lv_iload_n E.1.1 E.1.2.1 dX4_writeRest_0 rfl (lv_at hl 1 rfl) ?_
  refine lv_iconst (v := nI 3) E.1.1 E.1.2.1 dX4_writeRest_1 rfl ?_
  refine k_mul E dX4_writeRest_2 ?_
  refine lv_istore_n (lv' := [(3, .int (nI (i * 3))), (0, .ref tr), (1, .int (nI i)), (2, .int (nI dg))]) E.1.1 E.1.2.1 dX4_writeRest_3 rfl hl (by decide) rfl (fun ls hl => ?_)
  refine lv_aload_n E.1.1 E.1.2.1 dX4_writeRest_4 rfl (lv_at hl 1 rfl) ?_
  refine k_get (v := .int (nI nf)) E inlX4 rfl 5 (by decide) w1_58 rfl hw h_tr rfl dX4_writeRest_5 ?_
  refine lv_iconst (v := nI 3) E.1.1 E.1.2.1 dX4_writeRest_8 rfl ?_
  refine k_mul E dX4_writeRest_9 ?_
  refine lv_istore (lv' := [(4, .int (nI (nf * 3))), (3, .int (nI (i * 3))), (0, .ref tr), (1, .int (nI i)), (2, .int (nI dg))]) E.1.1 E.1.2.1 dX4_writeRest_10 hl (by decide) rfl (fun ls hl => ?_)
  rw [← rz_0 B nf] at h_rows
  refine lv_iconst (v := nI 0) E.1.1 E.1.2.1 dX4_writeRest_12 rfl ?_
  refine lv_istore (lv' := [(5, .int (nI 0)), (4, .int (nI (nf * 3))), (3, .int (nI (i * 3))), (0, .ref tr), (1, .int (nI i)), (2, .int (nI dg))]) E.1.1 E.1.2.1 dX4_writeRest_13 hl (by decide) rfl (fun ls hl => ?_)
  refine lv_iload E.1.1 E.1.2.1 dX4_writeRest_15 (lv_at hl 0 rfl) ?_
  refine lv_iconst (v := nI 3) E.1.1 E.1.2.1 dX4_writeRest_17 rfl ?_
  refine k_ge (tgt := 38) E dX4_writeRest_18 (by decide) (by omega) (by omega) (fun c18 => absurd c18 (by decide)) (fun c18 => ?_)
  refine lv_aload_n E.1.1 E.1.2.1 dX4_writeRest_21 rfl (lv_at hl 3 rfl) ?_
  refine k_get (v := .ref ro) E inlX4 rfl 0 (by decide) w1_53 rfl hw h_tr rfl dX4_writeRest_22 ?_
  refine lv_iload E.1.1 E.1.2.1 dX4_writeRest_25 (lv_at hl 1 rfl) ?_
  refine lv_iload E.1.1 E.1.2.1 dX4_writeRest_27 (lv_at hl 0 rfl) ?_
  refine k_add E dX4_writeRest_29 ?_
  refine lv_lconst (v := 0) E.1.1 E.1.2.1 dX4_writeRest_30 rfl ?_
  refine k_last E hw (rz B nf 1) h_rows (by omega) (by omega) (fun w hw => rz_s B (by decide) w) dX4_writeRest_31 (fun f H locs h_rows hfr hw => ?_)
  have h_tr := h_tr.kp hfr n_tr_rows
  have hF : ∀ b ∈ L, b ≠ ro → f b = f0 b := fun b hb h0 => (hfr b h0).trans (hF b hb h0)
  refine lv_iinc (v := nI 1) (lv' := [(5, .int (nI 1)), (4, .int (nI (nf * 3))), (3, .int (nI (i * 3))), (0, .ref tr), (1, .int (nI i)), (2, .int (nI dg))]) E.1.1 E.1.2.1 dX4_writeRest_32 hl (k := 0) rfl (rfl) (by decide) rfl (fun ls hl => ?_)
  refine lv_goto (tgt := 15) E.1.1 E.1.2.1 dX4_writeRest_35 (by decide) ?_
  refine lv_iload E.1.1 E.1.2.1 dX4_writeRest_15 (lv_at hl 0 rfl) ?_
  refine lv_iconst (v := nI 3) E.1.1 E.1.2.1 dX4_writeRest_17 rfl ?_
  refine k_ge (tgt := 38) E dX4_writeRest_18 (by decide) (by omega) (by omega) (fun c18 => absurd c18 (by decide)) (fun c18 => ?_)
  refine lv_aload_n E.1.1 E.1.2.1 dX4_writeRest_21 rfl (lv_at hl 3 rfl) ?_
  refine k_get (v := .ref ro) E inlX4 rfl 0 (by decide) w1_53 rfl hw h_tr rfl dX4_writeRest_22 ?_
  refine lv_iload E.1.1 E.1.2.1 dX4_writeRest_25 (lv_at hl 1 rfl) ?_
  refine lv_iload E.1.1 E.1.2.1 dX4_writeRest_27 (lv_at hl 0 rfl) ?_
  refine k_add E dX4_writeRest_29 ?_
  refine lv_lconst (v := 0) E.1.1 E.1.2.1 dX4_writeRest_30 rfl ?_
  refine k_last E hw (rz B nf 2) h_rows (by omega) (by omega) (fun w hw => rz_s B (by decide) w) dX4_writeRest_31 (fun f H locs h_rows hfr hw => ?_)
  have h_tr := h_tr.kp hfr n_tr_rows
  have hF : ∀ b ∈ L, b ≠ ro → f b = f0 b := fun b hb h0 => (hfr b h0).trans (hF b hb h0)
  refine lv_iinc (v := nI 2) (lv' := [(5, .int (nI 2)), (4, .int (nI (nf * 3))), (3, .int (nI (i * 3))), (0, .ref tr), (1, .int (nI i)), (2, .int (nI dg))]) E.1.1 E.1.2.1 dX4_writeRest_32 hl (k := 0) rfl (rfl) (by decide) rfl (fun ls hl => ?_)
  refine lv_goto (tgt := 15) E.1.1 E.1.2.1 dX4_writeRest_35 (by decide) ?_
  refine lv_iload E.1.1 E.1.2.1 dX4_writeRest_15 (lv_at hl 0 rfl) ?_
  refine lv_iconst (v := nI 3) E.1.1 E.1.2.1 dX4_writeRest_17 rfl ?_
  refine k_ge (tgt := 38) E dX4_writeRest_18 (by decide) (by omega) (by omega) (fun c18 => absurd c18 (by decide)) (fun c18 => ?_)
  refine lv_aload_n E.1.1 E.1.2.1 dX4_writeRest_21 rfl (lv_at hl 3 rfl) ?_
  refine k_get (v := .ref ro) E inlX4 rfl 0 (by decide) w1_53 rfl hw h_tr rfl dX4_writeRest_22 ?_
  refine lv_iload E.1.1 E.1.2.1 dX4_writeRest_25 (lv_at hl 1 rfl) ?_
  refine lv_iload E.1.1 E.1.2.1 dX4_writeRest_27 (lv_at hl 0 rfl) ?_
  refine k_add E dX4_writeRest_29 ?_
  refine lv_lconst (v := 0) E.1.1 E.1.2.1 dX4_writeRest_30 rfl ?_
  refine k_last E hw (rz B nf 3) h_rows (by omega) (by omega) (fun w hw => rz_s B (by decide) w) dX4_writeRest_31 (fun f H locs h_rows hfr hw => ?_)
  have h_tr := h_tr.kp hfr n_tr_rows
  have hF : ∀ b ∈ L, b ≠ ro → f b = f0 b := fun b hb h0 => (hfr b h0).trans (hF b hb h0)
  refine lv_iinc (v := nI 3) (lv' := [(5, .int (nI 3)), (4, .int (nI (nf * 3))), (3, .int (nI (i * 3))), (0, .ref tr), (1, .int (nI i)), (2, .int (nI dg))]) E.1.1 E.1.2.1 dX4_writeRest_32 hl (k := 0) rfl (rfl) (by decide) rfl (fun ls hl => ?_)
  refine lv_goto (tgt := 15) E.1.1 E.1.2.1 dX4_writeRest_35 (by decide) ?_
  refine lv_iload E.1.1 E.1.2.1 dX4_writeRest_15 (lv_at hl 0 rfl) ?_
  refine lv_iconst (v := nI 3) E.1.1 E.1.2.1 dX4_writeRest_17 rfl ?_
  refine k_ge (tgt := 38) E dX4_writeRest_18 (by decide) (by omega) (by omega) (fun c18 => ?_) (fun c18 => absurd c18 (by decide))
  rw [rz_3 B nf, ← rb_0 (fun u => B i (fold t per (base * u + dg)))] at h_rows
  refine lv_iload_n E.1.1 E.1.2.1 dX4_writeRest_38 rfl (lv_at hl 5 rfl) ?_
  refine lv_aload_n E.1.1 E.1.2.1 dX4_writeRest_39 rfl (lv_at hl 3 rfl) ?_
  refine k_get (v := .int (nI t)) E inlX4 rfl 3 (by decide) w1_56 rfl hw h_tr rfl dX4_writeRest_40 ?_
  refine lv_aload_n E.1.1 E.1.2.1 dX4_writeRest_43 rfl (lv_at hl 3 rfl) ?_
  refine k_get (v := .int (nI per)) E inlX4 rfl 4 (by decide) w1_57 rfl hw h_tr rfl dX4_writeRest_44 ?_
  refine k_ri (va_runSN (As := [.int (nI dg), .int (nI t), .int (nI per)]) (rest := []) E.1 (c_folded l D cy L f H.size dg t per hper (by omega) (by omega)) ⟨va_cnB 3 E.1.2.2.2.2 (gd_own w1_155) rfl rfl rfl (E.2.2.1 _ (List.mem_of_getElem? (i := 12) rfl)) (E.1.2.2.2.2 _ w1_1) hd_X5_folded (by rw [hR]; exact ⟨Nat.le_of_ble_eq_true rfl, Nat.le_of_ble_eq_true rfl⟩), E.1.2.2.2.2 _ w1_154, trivial⟩ (pw_pre E.2 hw) rfl rfl hl.1 rfl (lv_room (Nat.le_of_ble_eq_true rfl)) dX4_writeRest_47 ⟨Nat.zero_le _, Nat.zero_le _⟩) ?_
  refine k_top E (nI (fold t per (base * 0 + dg))) (by rw [Nat.mul_zero, Nat.zero_add]) ?_
  refine lv_istore (lv' := [(5, .int (nI (fold t per (base * 0 + dg)))), (4, .int (nI (nf * 3))), (3, .int (nI (i * 3))), (0, .ref tr), (1, .int (nI i)), (2, .int (nI dg))]) E.1.1 E.1.2.1 dX4_writeRest_50 hl (by decide) rfl (fun ls hl => ?_)
  refine lv_iconst (v := nI 0) E.1.1 E.1.2.1 dX4_writeRest_52 rfl ?_
  refine lv_istore (lv' := [(6, .int (nI 0)), (5, .int (nI (fold t per (base * 0 + dg)))), (4, .int (nI (nf * 3))), (3, .int (nI (i * 3))), (0, .ref tr), (1, .int (nI i)), (2, .int (nI dg))]) E.1.1 E.1.2.1 dX4_writeRest_53 hl (by decide) rfl (fun ls hl => ?_)
  have lp55 : ∀ (k : Nat) (u : Nat) (f : Nat → va_E) (H : Heap) (locs : List Loc) (ls : Array Slot), (t + per - u < k) → (u ≤ t + per) → (cel L f tr (.inr (4, [.ref ro, .ref go, .int (nI base), .int (nI t), .int (nI per), .int (nI nf)]))) → (cel L f ro (.inl (cy 1, 195, .inr (.inl (rw3 (va_up B nf (rb (fun u => B i (fold t per (base * u + dg))) (u)))))))) → (∀ b ∈ L, b ≠ ro → f b = f0 b) → (WW D (AW L sz) s.heap L f H locs) → (lv_has ls 7 [(6, .int (nI u)), (5, .int (nI (fold t per (base * u + dg)))), (4, .int (nI (nf * 3))), (3, .int (nI (i * 3))), (0, .ref tr), (1, .int (nI i)), (2, .int (nI dg))]) → W p l e R s m args below meth c H locs 0 0 Q (F0 m 55 ls []) := by
    intro k
    induction k with
    | zero => intro _ _ _ _ _ hk; exact absurd hk (Nat.not_lt_zero _)
    | succ k ih55 =>
      intro u f H locs ls hk hu h_tr h_rows hF hw hl
      refine lv_iload E.1.1 E.1.2.1 dX4_writeRest_55 (lv_at hl 0 rfl) ?_
      refine lv_aload_n E.1.1 E.1.2.1 dX4_writeRest_57 rfl (lv_at hl 4 rfl) ?_
      refine k_get (v := .int (nI t)) E inlX4 rfl 3 (by decide) w1_56 rfl hw h_tr rfl dX4_writeRest_58 ?_
      refine lv_aload_n E.1.1 E.1.2.1 dX4_writeRest_61 rfl (lv_at hl 4 rfl) ?_
      refine k_get (v := .int (nI per)) E inlX4 rfl 4 (by decide) w1_57 rfl hw h_tr rfl dX4_writeRest_62 ?_
      refine k_add E dX4_writeRest_65 ?_
      refine k_ge (tgt := 131) E dX4_writeRest_66 (by decide) (by omega) (by omega) (fun c66 => ?_) (fun c66 => ?_)
      · exact k_mvret E hQ hlk hr hw (Nat.le_of_ble_eq_true rfl) (Nat.le_of_ble_eq_true rfl) (⟨rfl, hF, by rw [show t + per = u by omega]; exact h_rows⟩) dX4_writeRest_131
      · have hpl := fold_lt (t := t) (p := per) (n := base * u + dg) hper
        refine lv_aload_n E.1.1 E.1.2.1 dX4_writeRest_69 rfl (lv_at hl 4 rfl) ?_
        refine k_get (v := .ref ro) E inlX4 rfl 0 (by decide) w1_53 rfl hw h_tr rfl dX4_writeRest_70 ?_
        refine lv_iload E.1.1 E.1.2.1 dX4_writeRest_73 (lv_at hl 2 rfl) ?_
        refine lv_iload E.1.1 E.1.2.1 dX4_writeRest_75 (lv_at hl 0 rfl) ?_
        refine lv_bipush (v := nI 6) E.1.1 E.1.2.1 dX4_writeRest_77 rfl ?_
        refine k_shr6 E dX4_writeRest_79 (by omega) ?_
        refine k_add E dX4_writeRest_80 ?_
        refine lv_dup2_11 E.1.1 E.1.2.1 dX4_writeRest_81 rfl rfl ?_
        refine k_lald E hw (v := wd (rb (fun u => B i (fold t per (base * u + dg))) u) (u / 64)) h_rows (by omega) (by omega) (by rw [rw3_at _ _ (by omega), va_up_self]) dX4_writeRest_82 ?_
        refine lv_aload_n E.1.1 E.1.2.1 dX4_writeRest_83 rfl (lv_at hl 4 rfl) ?_
        refine k_get (v := .ref ro) E inlX4 rfl 0 (by decide) w1_53 rfl hw h_tr rfl dX4_writeRest_84 ?_
        refine lv_iload_n E.1.1 E.1.2.1 dX4_writeRest_87 rfl (lv_at hl 3 rfl) ?_
        refine lv_iload E.1.1 E.1.2.1 dX4_writeRest_88 (lv_at hl 1 rfl) ?_
        refine lv_bipush (v := nI 6) E.1.1 E.1.2.1 dX4_writeRest_90 rfl ?_
        refine k_shr6 E dX4_writeRest_92 (by omega) ?_
        refine k_add E dX4_writeRest_93 ?_
        refine k_lald E hw (v := wd (B i) (fold t per (base * u + dg) / 64)) h_rows (by omega) (by omega) (by rw [rw3_at _ _ (by omega), va_up_ne _ _ (by omega)]) dX4_writeRest_94 ?_
        refine lv_iload E.1.1 E.1.2.1 dX4_writeRest_95 (lv_at hl 1 rfl) ?_
        refine lv_lushr E.1.1 E.1.2.1 dX4_writeRest_97 rfl ?_
        refine lv_lconst (v := 1) E.1.1 E.1.2.1 dX4_writeRest_98 rfl ?_
        refine lv_land E.1.1 E.1.2.1 dX4_writeRest_99 ?_
        refine k_topl E (lN (if B i (fold t per (base * u + dg)) then 1 else 0)) (by rw [wd_bit (by omega), show 64 * ((fold t per (base * u + dg)) / 64) + (fold t per (base * u + dg)) % 64 = (fold t per (base * u + dg)) by omega]) ?_
        refine lv_iload E.1.1 E.1.2.1 dX4_writeRest_100 (lv_at hl 0 rfl) ?_
        refine lv_lshl E.1.1 E.1.2.1 dX4_writeRest_102 rfl ?_
        refine k_topl E (lN (if B i (fold t per (base * u + dg)) then 2 ^ (u % 64) else 0)) (bit_shl (by omega)) ?_
        refine lv_lor E.1.1 E.1.2.1 dX4_writeRest_103 ?_
        refine k_last E hw (rw3 (va_up B nf (rb (fun u => B i (fold t per (base * u + dg))) (u + 1)))) h_rows (by omega) (by omega) (fun w hw => st_rest B (fun u => B i (fold t per (base * u + dg))) nf (by omega) w) dX4_writeRest_104 (fun f H locs h_rows hfr hw => ?_)
        have h_tr := h_tr.kp hfr n_tr_rows
        have hF : ∀ b ∈ L, b ≠ ro → f b = f0 b := fun b hb h0 => (hfr b h0).trans (hF b hb h0)
        refine lv_iload E.1.1 E.1.2.1 dX4_writeRest_105 (lv_at hl 1 rfl) ?_
        refine lv_aload_n E.1.1 E.1.2.1 dX4_writeRest_107 rfl (lv_at hl 4 rfl) ?_
        refine k_get (v := .int (nI base)) E inlX4 rfl 2 (by decide) w1_55 rfl hw h_tr rfl dX4_writeRest_108 ?_
        refine k_add E dX4_writeRest_111 ?_
        refine lv_aload_n E.1.1 E.1.2.1 dX4_writeRest_112 rfl (lv_at hl 4 rfl) ?_
        refine k_get (v := .int (nI t)) E inlX4 rfl 3 (by decide) w1_56 rfl hw h_tr rfl dX4_writeRest_113 ?_
        refine lv_aload_n E.1.1 E.1.2.1 dX4_writeRest_116 rfl (lv_at hl 4 rfl) ?_
        refine k_get (v := .int (nI per)) E inlX4 rfl 4 (by decide) w1_57 rfl hw h_tr rfl dX4_writeRest_117 ?_
        refine k_ri (va_runSN (As := [.int (nI ((fold t per (base * u + dg)) + base)), .int (nI t), .int (nI per)]) (rest := []) E.1 (c_folded l D cy L f H.size (fold t per (base * u + dg) + base) t per hper (by omega) (by omega)) ⟨va_cnB 3 E.1.2.2.2.2 (gd_own w1_155) rfl rfl rfl (E.2.2.1 _ (List.mem_of_getElem? (i := 12) rfl)) (E.1.2.2.2.2 _ w1_1) hd_X5_folded (by rw [hR]; exact ⟨Nat.le_of_ble_eq_true rfl, Nat.le_of_ble_eq_true rfl⟩), E.1.2.2.2.2 _ w1_154, trivial⟩ (pw_pre E.2 hw) rfl rfl hl.1 rfl (lv_room (Nat.le_of_ble_eq_true rfl)) dX4_writeRest_120 ⟨Nat.zero_le _, Nat.zero_le _⟩) ?_
        refine k_top E (nI (fold t per (base * (u + 1) + dg))) (by rw [fold_add hper, show base * u + dg + base = base * (u + 1) + dg by rw [Nat.mul_succ]; omega]) ?_
        refine lv_istore (lv' := [(5, .int (nI (fold t per (base * (u + 1) + dg)))), (6, .int (nI u)), (4, .int (nI (nf * 3))), (3, .int (nI (i * 3))), (0, .ref tr), (1, .int (nI i)), (2, .int (nI dg))]) E.1.1 E.1.2.1 dX4_writeRest_123 hl (by decide) rfl (fun ls hl => ?_)
        refine lv_iinc (v := nI (u + 1)) (lv' := [(6, .int (nI (u + 1))), (5, .int (nI (fold t per (base * (u + 1) + dg)))), (4, .int (nI (nf * 3))), (3, .int (nI (i * 3))), (0, .ref tr), (1, .int (nI i)), (2, .int (nI dg))]) E.1.1 E.1.2.1 dX4_writeRest_125 hl (k := 1) rfl (nI_1 _) (by decide) rfl (fun ls hl => ?_)
        refine lv_goto (tgt := 55) E.1.1 E.1.2.1 dX4_writeRest_128 (by decide) ?_
        exact ih55  (u + 1) f H locs ls (by omega) (by omega) h_tr h_rows hF hw (lv_sub hl [0, 1, 2, 3, 4, 5, 6] rfl)
  exact lp55 (t + per - 0 + 1) 0 f H locs ls (Nat.lt_succ_self _) (by omega) h_tr h_rows hF hw (lv_sub hl [0, 1, 2, 3, 4, 5, 6] rfl)

set_option maxHeartbeats 4000000 in
set_option maxRecDepth 100000 in
theorem c_trace (l : Launch) (D : va_G) (cy : Nat → ClassId) (L : List Nat) (f0 : Nat → va_E) (sz : Nat) (tr ro go d r0 base t per : Nat) (i1 i2 i3 i4 : Int32) (b : Nat → Bool) (B0 : Nat → Nat → Bool) (G0 : Nat → Int32) (S : Nat → Bool) (hbase : 0 < base) (hbase5 : base ≤ 5) (hS : SetIs S t per b) (h_tr : cel L f0 tr (.inr (4, [.ref ro, .ref go, .int i1, .int i2, .int i3, .int i4]))) (h_rows : cel L f0 ro (.inl (cy 1, 195, .inr (.inl (rw3 B0))))) (h_goes : cel L f0 go (.inl (cy 0, 320, .inl G0))) (h_d : cel L f0 d (.inr (0, [.ref r0, .int (nI t), .int (nI per)]))) (h_row : cel L f0 r0 (.inl (cy 1, 59, .inr (.inl (wd b))))) : Met l yX4_trace (.code yX4_trace cX4_trace 6 (Option.some FieldType.boolean) :: wsL_law) { frames := 2, cells := 0, slots := 0, locals := 48 } (va_Pc [.ref tr, .ref d, .int (nI base)] (PW D cy L f0 sz)) (va_Qi (fun (r : Int32) (u : List Nat × (Nat → va_E)) => L = u.1 ∧ (∀ b ∈ L, b ≠ tr → b ≠ ro → b ≠ go → u.2 b = f0 b) ∧ ∃ nf B G, cel L u.2 tr (.inr (4, [.ref ro, .ref go, .int (nI base), .int (nI t), .int (nI per), .int (nI nf)])) ∧ cel L u.2 ro (.inl (cy 1, 195, .inr (.inl (rw3 B)))) ∧ cel L u.2 go (.inl (cy 0, 320, .inl G)) ∧ ((r = b2i true ∧ nf ≤ 64 ∧ TI S base t per (nf * base) nf B G) ∨ (r = b2i false ∧ ∃ K, FS S base K ∧ 64 < (trn S base K).1))) (PB D (AW L sz)) (AW L sz)) 0 0 (AW L sz) := by
  refine m_start (by decide) (Nat.le_of_ble_eq_true rfl) ?_
  intro p e R Q s m args below meth c ls hsz hR hQ E hr hlk hnm hw hl
  have hl : lv_has ls 6 [(0, .ref tr), (1, .ref d), (2, .int (nI base))] := hl
  obtain ⟨H, hH⟩ : ∃ X, X = s.heap := ⟨_, rfl⟩
  obtain ⟨locs, hlocs⟩ : ∃ X : List Loc, X = [] := ⟨_, rfl⟩
  have hw0 := hw
  obtain ⟨f, hf0⟩ : ∃ X, X = f0 := ⟨_, rfl⟩
  rw [← hf0] at h_tr h_rows h_goes h_d h_row
  have hw : WW D (AW L sz) s.heap L f H locs := by rw [hH, hlocs, hf0]; exact hw
  have hF : ∀ b ∈ L, b ≠ tr → b ≠ ro → b ≠ go → f b = f0 b := fun b hb h0 h1 h2 => by rw [hf0]
  suffices hgo : W p l e R s m args below meth c H locs 0 0 Q (F0 m 0 ls []) by rw [hH, hlocs] at hgo; exact hgo
  clear hH hlocs hw0 hf0
  have hLs : ∀ b ∈ L, b ∈ L := fun _ h => h
  have n_tr_rows : tr ≠ ro := h_tr.ne h_rows (by simp)
  have n_tr_goes : tr ≠ go := h_tr.ne h_goes (by simp)
  have n_rows_tr : ro ≠ tr := h_rows.ne h_tr (by simp)
  have n_rows_goes : ro ≠ go := h_rows.ne h_goes (by simp)
  have n_goes_tr : go ≠ tr := h_goes.ne h_tr (by simp)
  have n_goes_rows : go ≠ ro := h_goes.ne h_rows (by simp)
  have n_d_tr : d ≠ tr := h_d.ne h_tr (by simp)
  have n_d_rows : d ≠ ro := h_d.ne h_rows (by simp)
  have n_d_goes : d ≠ go := h_d.ne h_goes (by simp)
  have n_row_tr : r0 ≠ tr := h_row.ne h_tr (by simp)
  have n_row_rows : r0 ≠ ro := h_row.ne h_rows (by simp)
  have n_row_goes : r0 ≠ go := h_row.ne h_goes (by simp)
  have hper := hS.1.1
  have hper2 := hS.2.1
  have ht := hS.2.2.1
  refine lv_aload_n E.1.1 E.1.2.1 dX4_trace_0 rfl (lv_at hl 1 rfl) ?_
  refine k_getN (v := .int (nI t)) E inlX0 rfl 1 (by decide) (List.mem_of_getElem? (i := 4) rfl) rfl hw h_d rfl dX4_trace_1 ?_
  refine lv_bipush (v := nI 120) E.1.1 E.1.2.1 dX4_trace_4 rfl ?_
  refine k_gt (tgt := 18) E dX4_trace_6 (by decide) (by omega) (by omega) (fun c6 => absurd c6 (by omega)) (fun c6 => ?_)
  refine lv_aload_n E.1.1 E.1.2.1 dX4_trace_9 rfl (lv_at hl 1 rfl) ?_
  refine k_getN (v := .int (nI per)) E inlX0 rfl 2 (by decide) (List.mem_of_getElem? (i := 6) rfl) rfl hw h_d rfl dX4_trace_10 ?_
  refine lv_bipush (v := nI 60) E.1.1 E.1.2.1 dX4_trace_13 rfl ?_
  refine k_le (tgt := 20) E dX4_trace_15 (by decide) (by omega) (by omega) (fun c15 => ?_) (fun c15 => absurd c15 (by omega))
  refine lv_aload_n E.1.1 E.1.2.1 dX4_trace_20 rfl (lv_at hl 0 rfl) ?_
  refine lv_iload_n E.1.1 E.1.2.1 dX4_trace_21 rfl (lv_at hl 2 rfl) ?_
  refine lv_iconst (v := nI 5) E.1.1 E.1.2.1 dX4_trace_22 rfl ?_
  refine va_mmin E.1.1 E.1.2.1 (by rw [E.1.2.2.1]; exact hl.1.symm) E.1.2.2.2.1 (E.1.2.2.2.2 _ w1_143) (E.1.2.2.2.2 _ w1_144) (E.1.2.2.2.2 _ w1_5) (E.1.2.2.2.2 _ w1_145) (by rw [hR]; exact Nat.le_of_ble_eq_true rfl) (by rw [hR]; exact Nat.le_of_ble_eq_true rfl) (by rw [hR]; exact Nat.le_of_ble_eq_true rfl) (by rw [hR]; first | exact Nat.le_of_ble_eq_true rfl | (dsimp only; omega)) dX4_trace_23 ?_
  refine k_top E (nI base) (mn5 hbase5) ?_
  refine k_put (ty0 := tyX4) E inlX4 rfl tyX4_ok nmX4 2 (by decide) w1_55 rfl rfl hw [.ref ro, .ref go, .int (nI base), .int i2, .int i3, .int i4] h_tr (rfl) (rfl) (Nat.le_of_ble_eq_true rfl) rfl dX4_trace_26 (fun f H locs h_tr hfr hw => ?_)
  have h_rows := h_rows.kp hfr n_rows_tr
  have h_goes := h_goes.kp hfr n_goes_tr
  have h_d := h_d.kp hfr n_d_tr
  have h_row := h_row.kp hfr n_row_tr
  have hF : ∀ b ∈ L, b ≠ tr → b ≠ ro → b ≠ go → f b = f0 b := fun b hb h0 h1 h2 => (hfr b h0).trans (hF b hb h0 h1 h2)
  refine lv_aload_n E.1.1 E.1.2.1 dX4_trace_29 rfl (lv_at hl 0 rfl) ?_
  refine lv_aload_n E.1.1 E.1.2.1 dX4_trace_30 rfl (lv_at hl 1 rfl) ?_
  refine k_getN (v := .int (nI t)) E inlX0 rfl 1 (by decide) (List.mem_of_getElem? (i := 4) rfl) rfl hw h_d rfl dX4_trace_31 ?_
  refine k_put (ty0 := tyX4) E inlX4 rfl tyX4_ok nmX4 3 (by decide) w1_56 rfl rfl hw [.ref ro, .ref go, .int (nI base), .int (nI t), .int i3, .int i4] h_tr (rfl) (rfl) (Nat.le_of_ble_eq_true rfl) rfl dX4_trace_34 (fun f H locs h_tr hfr hw => ?_)
  have h_rows := h_rows.kp hfr n_rows_tr
  have h_goes := h_goes.kp hfr n_goes_tr
  have h_d := h_d.kp hfr n_d_tr
  have h_row := h_row.kp hfr n_row_tr
  have hF : ∀ b ∈ L, b ≠ tr → b ≠ ro → b ≠ go → f b = f0 b := fun b hb h0 h1 h2 => (hfr b h0).trans (hF b hb h0 h1 h2)
  refine lv_aload_n E.1.1 E.1.2.1 dX4_trace_37 rfl (lv_at hl 0 rfl) ?_
  refine lv_aload_n E.1.1 E.1.2.1 dX4_trace_38 rfl (lv_at hl 1 rfl) ?_
  refine k_getN (v := .int (nI per)) E inlX0 rfl 2 (by decide) (List.mem_of_getElem? (i := 6) rfl) rfl hw h_d rfl dX4_trace_39 ?_
  refine k_put (ty0 := tyX4) E inlX4 rfl tyX4_ok nmX4 4 (by decide) w1_57 rfl rfl hw [.ref ro, .ref go, .int (nI base), .int (nI t), .int (nI per), .int i4] h_tr (rfl) (rfl) (Nat.le_of_ble_eq_true rfl) rfl dX4_trace_42 (fun f H locs h_tr hfr hw => ?_)
  have h_rows := h_rows.kp hfr n_rows_tr
  have h_goes := h_goes.kp hfr n_goes_tr
  have h_d := h_d.kp hfr n_d_tr
  have h_row := h_row.kp hfr n_row_tr
  have hF : ∀ b ∈ L, b ≠ tr → b ≠ ro → b ≠ go → f b = f0 b := fun b hb h0 h1 h2 => (hfr b h0).trans (hF b hb h0 h1 h2)
  refine lv_aload_n E.1.1 E.1.2.1 dX4_trace_45 rfl (lv_at hl 1 rfl) ?_
  refine k_getN (v := .ref r0) E inlX0 rfl 0 (by decide) (List.mem_of_getElem? (i := 2) rfl) rfl hw h_d rfl dX4_trace_46 ?_
  refine lv_iconst (v := nI 0) E.1.1 E.1.2.1 dX4_trace_49 rfl ?_
  refine lv_aload_n E.1.1 E.1.2.1 dX4_trace_50 rfl (lv_at hl 0 rfl) ?_
  refine k_get (v := .ref ro) E inlX4 rfl 0 (by decide) w1_53 rfl hw h_tr rfl dX4_trace_51 ?_
  refine lv_iconst (v := nI 0) E.1.1 E.1.2.1 dX4_trace_54 rfl ?_
  refine lv_iconst (v := nI 3) E.1.1 E.1.2.1 dX4_trace_55 rfl ?_
  refine k_copyl E hl.1 w1_146 w1_148 w1_147 w1_7 hw (rw3 (va_up B0 0 b)) h_row h_rows (by omega) (by omega) (by omega) (by omega) (fun w hw => cp3 b B0 w) (by rw [hR]; exact Nat.le_of_ble_eq_true rfl) (by rw [hR]; exact Nat.le_of_ble_eq_true rfl) dX4_trace_56 (fun f H locs h_rows hfr hw => ?_)
  have h_tr := h_tr.kp hfr n_tr_rows
  have h_goes := h_goes.kp hfr n_goes_rows
  have h_d := h_d.kp hfr n_d_rows
  have h_row := h_row.kp hfr n_row_rows
  have hF : ∀ b ∈ L, b ≠ tr → b ≠ ro → b ≠ go → f b = f0 b := fun b hb h0 h1 h2 => (hfr b h1).trans (hF b hb h0 h1 h2)
  refine lv_aload_n E.1.1 E.1.2.1 dX4_trace_59 rfl (lv_at hl 0 rfl) ?_
  refine lv_iconst (v := nI 1) E.1.1 E.1.2.1 dX4_trace_60 rfl ?_
  refine k_put (ty0 := tyX4) E inlX4 rfl tyX4_ok nmX4 5 (by decide) w1_58 rfl rfl hw [.ref ro, .ref go, .int (nI base), .int (nI t), .int (nI per), .int (nI 1)] h_tr (rfl) (rfl) (Nat.le_of_ble_eq_true rfl) rfl dX4_trace_61 (fun f H locs h_tr hfr hw => ?_)
  have h_rows := h_rows.kp hfr n_rows_tr
  have h_goes := h_goes.kp hfr n_goes_tr
  have h_d := h_d.kp hfr n_d_tr
  have h_row := h_row.kp hfr n_row_tr
  have hF : ∀ b ∈ L, b ≠ tr → b ≠ ro → b ≠ go → f b = f0 b := fun b hb h0 h1 h2 => (hfr b h0).trans (hF b hb h0 h1 h2)
  refine lv_iconst (v := nI 0) E.1.1 E.1.2.1 dX4_trace_64 rfl ?_
  refine lv_istore_n (lv' := [(3, .int (nI 0)), (0, .ref tr), (1, .ref d), (2, .int (nI base))]) E.1.1 E.1.2.1 dX4_trace_65 rfl hl (by decide) rfl (fun ls hl => ?_)
  have lp66 : ∀ (k : Nat) (i : Nat) (nf : Nat) (B : Nat → Nat → Bool) (G : Nat → Int32) (f : Nat → va_E) (H : Heap) (locs : List Loc) (ls : Array Slot), (65 - i < k) → (i ≤ nf) → (nf ≤ 64) → (TI S base t per (i * base) nf B G) → (cel L f tr (.inr (4, [.ref ro, .ref go, .int (nI base), .int (nI t), .int (nI per), .int (nI nf)]))) → (cel L f ro (.inl (cy 1, 195, .inr (.inl (rw3 B))))) → (cel L f go (.inl (cy 0, 320, .inl G))) → (cel L f d (.inr (0, [.ref r0, .int (nI t), .int (nI per)]))) → (cel L f r0 (.inl (cy 1, 59, .inr (.inl (wd b))))) → (∀ b ∈ L, b ≠ tr → b ≠ ro → b ≠ go → f b = f0 b) → (WW D (AW L sz) s.heap L f H locs) → (lv_has ls 6 [(3, .int (nI i)), (0, .ref tr), (1, .ref d), (2, .int (nI base))]) → W p l e R s m args below meth c H locs 0 0 Q (F0 m 66 ls []) := by
    intro k
    induction k with
    | zero => intro _ _ _ _ _ _ _ _ hk; exact absurd hk (Nat.not_lt_zero _)
    | succ k ih66 =>
      intro i nf B G f H locs ls hk hi hnf hT h_tr h_rows h_goes h_d h_row hF hw hl
      refine lv_iload_n E.1.1 E.1.2.1 dX4_trace_66 rfl (lv_at hl 0 rfl) ?_
      refine lv_aload_n E.1.1 E.1.2.1 dX4_trace_67 rfl (lv_at hl 1 rfl) ?_
      refine k_get (v := .int (nI nf)) E inlX4 rfl 5 (by decide) w1_58 rfl hw h_tr rfl dX4_trace_68 ?_
      refine k_ge (tgt := 157) E dX4_trace_71 (by decide) (by omega) (by omega) (fun c71 => ?_) (fun c71 => ?_)
      · refine lv_iconst (v := nI 1) E.1.1 E.1.2.1 dX4_trace_157 rfl ?_
        refine k_top E (b2i true) rfl ?_
        exact k_mzret E hQ hlk hr hw (Nat.le_of_ble_eq_true rfl) (Nat.le_of_ble_eq_true rfl) (⟨rfl, hF, nf, B, G, h_tr, h_rows, h_goes, Or.inl ⟨rfl, hnf, by rw [show nf = i by omega] at hT ⊢; exact hT⟩⟩) dX4_trace_158
      · refine lv_iload_n E.1.1 E.1.2.1 dX4_trace_74 rfl (lv_at hl 0 rfl) ?_
        refine lv_bipush (v := nI 64) E.1.1 E.1.2.1 dX4_trace_75 rfl ?_
        refine k_ge (tgt := 157) E dX4_trace_77 (by decide) (by omega) (by omega) (fun c77 => ?_) (fun c77 => ?_)
        · refine lv_iconst (v := nI 1) E.1.1 E.1.2.1 dX4_trace_157 rfl ?_
          refine k_top E (b2i true) rfl ?_
          exact k_mzret E hQ hlk hr hw (Nat.le_of_ble_eq_true rfl) (Nat.le_of_ble_eq_true rfl) (⟨rfl, hF, nf, B, G, h_tr, h_rows, h_goes, Or.inl ⟨rfl, hnf, by rw [show nf = i by omega] at hT ⊢; exact hT⟩⟩) dX4_trace_158
        · refine lv_iconst (v := nI 0) E.1.1 E.1.2.1 dX4_trace_80 rfl ?_
          refine lv_istore (lv' := [(4, .int (nI 0)), (3, .int (nI i)), (0, .ref tr), (1, .ref d), (2, .int (nI base))]) E.1.1 E.1.2.1 dX4_trace_81 hl (by decide) rfl (fun ls hl => ?_)
          have lp83 : ∀ (k : Nat) (dg : Nat) (nf : Nat) (B : Nat → Nat → Bool) (G : Nat → Int32) (f : Nat → va_E) (H : Heap) (locs : List Loc) (ls : Array Slot), (base - dg < k) → (dg ≤ base) → (i < nf) → (nf ≤ 64) → (TI S base t per (i * base + dg) nf B G) → (cel L f tr (.inr (4, [.ref ro, .ref go, .int (nI base), .int (nI t), .int (nI per), .int (nI nf)]))) → (cel L f ro (.inl (cy 1, 195, .inr (.inl (rw3 B))))) → (cel L f go (.inl (cy 0, 320, .inl G))) → (cel L f d (.inr (0, [.ref r0, .int (nI t), .int (nI per)]))) → (cel L f r0 (.inl (cy 1, 59, .inr (.inl (wd b))))) → (∀ b ∈ L, b ≠ tr → b ≠ ro → b ≠ go → f b = f0 b) → (WW D (AW L sz) s.heap L f H locs) → (lv_has ls 6 [(4, .int (nI dg)), (3, .int (nI i)), (0, .ref tr), (1, .ref d), (2, .int (nI base))]) → W p l e R s m args below meth c H locs 0 0 Q (F0 m 83 ls []) := by
            intro k
            induction k with
            | zero => intro _ _ _ _ _ _ _ _ hk; exact absurd hk (Nat.not_lt_zero _)
            | succ k ih83 =>
              intro dg nf B G f H locs ls hk hdg hi2 hnf hT2 h_tr h_rows h_goes h_d h_row hF hw hl
              refine lv_iload E.1.1 E.1.2.1 dX4_trace_83 (lv_at hl 0 rfl) ?_
              refine lv_aload_n E.1.1 E.1.2.1 dX4_trace_85 rfl (lv_at hl 2 rfl) ?_
              refine k_get (v := .int (nI base)) E inlX4 rfl 2 (by decide) w1_55 rfl hw h_tr rfl dX4_trace_86 ?_
              refine k_ge (tgt := 151) E dX4_trace_89 (by decide) (by omega) (by omega) (fun c89 => ?_) (fun c89 => ?_)
              · refine lv_iinc (v := nI (i + 1)) (lv' := [(3, .int (nI (i + 1))), (4, .int (nI dg)), (0, .ref tr), (1, .ref d), (2, .int (nI base))]) E.1.1 E.1.2.1 dX4_trace_151 hl (k := 1) rfl (nI_1 _) (by decide) rfl (fun ls hl => ?_)
                refine lv_goto (tgt := 66) E.1.1 E.1.2.1 dX4_trace_154 (by decide) ?_
                exact ih66  (i + 1) nf B G f H locs ls (by omega) (by omega) (by omega) (by rw [Nat.succ_mul, show base = dg by omega]; rw [show dg = base by omega] at hT2 ⊢; exact hT2) h_tr h_rows h_goes h_d h_row hF hw (lv_sub hl [0, 2, 3, 4] rfl)
              · refine lv_aload_n E.1.1 E.1.2.1 dX4_trace_92 rfl (lv_at hl 2 rfl) ?_
                refine lv_iload_n E.1.1 E.1.2.1 dX4_trace_93 rfl (lv_at hl 1 rfl) ?_
                refine lv_iload E.1.1 E.1.2.1 dX4_trace_94 (lv_at hl 0 rfl) ?_
                refine k_mv hw (va_runV (As := [.int (nI i), .int (nI dg)]) (rest := []) E.1 (c_writeRest l D cy L f H.size tr ro go base t per nf i dg B (by omega) (by omega) (by omega) (by omega) (by omega) hper (by omega) h_tr h_rows) ⟨callB_of 2 E.1.2.2.2.2 (gd_own w1_152) rfl rfl rfl (E.1.2.2.2.2 _ w1_3) (E.1.2.2.2.2 _ w1_149) hd_X4_writeRest (by rw [hR]; exact ⟨Nat.le_of_ble_eq_true rfl, Nat.le_of_ble_eq_true rfl⟩), E.1.2.2.2.2 _ w1_151, E.1.2.2.2.2 _ ws_6⟩ (pw_preV (q := (RX4, TX4, 6)) E.2 hw h_tr rfl) rfl rfl hl.1 rfl (lv_room (Nat.le_of_ble_eq_true rfl)) dX4_trace_96 (by rw [hR]; exact ⟨Nat.le_of_ble_eq_true rfl, Nat.le_of_ble_eq_true rfl⟩)) (fun L1 f H locs hp hw => ?_)
                obtain ⟨hL1, hfr, h_rows⟩ := hp
                have hL1 : L = L1 := hL1
                subst hL1
                have h_rows : cel L f ro (.inl (cy 1, 195, .inr (.inl (rw3 (va_up B nf (rb (fun u => B i (fold t per (base * u + dg))) (t + per))))))) := h_rows
                have h_tr := h_tr.keep (fun _ h => h) (hfr _ h_tr.1 n_tr_rows)
                have h_goes := h_goes.keep (fun _ h => h) (hfr _ h_goes.1 n_goes_rows)
                have h_d := h_d.keep (fun _ h => h) (hfr _ h_d.1 n_d_rows)
                have h_row := h_row.keep (fun _ h => h) (hfr _ h_row.1 n_row_rows)
                have hF : ∀ b ∈ L, b ≠ tr → b ≠ ro → b ≠ go → f b = f0 b := fun b hb h0 h1 h2 => (hfr b (hLs b hb) h1).trans (hF b hb h0 h1 h2)
                refine lv_aload_n E.1.1 E.1.2.1 dX4_trace_99 rfl (lv_at hl 2 rfl) ?_
                refine k_rip (va_runV (As := []) (rest := []) E.1 (c_metAs l D cy L f H.size tr ro go base t per nf (va_up B nf (rb (fun u => B i (fold t per (base * u + dg))) (t + per))) (by omega) h_tr h_rows) ⟨callB_of 0 E.1.2.2.2.2 (gd_own w1_159) rfl rfl rfl (E.1.2.2.2.2 _ w1_3) (E.1.2.2.2.2 _ w1_156) hd_X4_metAs (by rw [hR]; exact ⟨Nat.le_of_ble_eq_true rfl, Nat.le_of_ble_eq_true rfl⟩), E.1.2.2.2.2 _ w1_158, E.1.2.2.2.2 _ ws_7⟩ (pw_preV (q := (RX4, TX4, 6)) E.2 hw h_tr rfl) rfl rfl hl.1 rfl (lv_room (Nat.le_of_ble_eq_true rfl)) dX4_trace_100 ⟨Nat.zero_le _, Nat.zero_le _⟩) (fun r hp => ?_)
                obtain ⟨j, rfl, hj1, hj2, hj3⟩ := hp
                refine lv_istore (lv' := [(5, .int (nI j)), (4, .int (nI dg)), (3, .int (nI i)), (0, .ref tr), (1, .ref d), (2, .int (nI base))]) E.1.1 E.1.2.1 dX4_trace_103 hl (by decide) rfl (fun ls hl => ?_)
                refine lv_iload E.1.1 E.1.2.1 dX4_trace_105 (lv_at hl 0 rfl) ?_
                refine lv_bipush (v := nI 64) E.1.1 E.1.2.1 dX4_trace_107 rfl ?_
                refine k_ne (tgt := 114) E dX4_trace_109 (by decide) (by omega) (by omega) (fun c109 => ?_) (fun c109 => ?_)
                · refine lv_aload_n E.1.1 E.1.2.1 dX4_trace_114 rfl (lv_at hl 3 rfl) ?_
                  refine k_get (v := .ref go) E inlX4 rfl 1 (by decide) w1_54 rfl hw h_tr rfl dX4_trace_115 ?_
                  refine lv_iload_n E.1.1 E.1.2.1 dX4_trace_118 rfl (lv_at hl 2 rfl) ?_
                  refine lv_aload_n E.1.1 E.1.2.1 dX4_trace_119 rfl (lv_at hl 3 rfl) ?_
                  refine k_get (v := .int (nI base)) E inlX4 rfl 2 (by decide) w1_55 rfl hw h_tr rfl dX4_trace_120 ?_
                  refine k_mul E dX4_trace_123 ?_
                  refine lv_iload E.1.1 E.1.2.1 dX4_trace_124 (lv_at hl 1 rfl) ?_
                  refine k_add E dX4_trace_126 ?_
                  refine lv_iload E.1.1 E.1.2.1 dX4_trace_127 (lv_at hl 0 rfl) ?_
                  have hix := ix3 (base := base) (d := dg) (show i < 64 by omega) (by omega)
                  have hix2 : 64 * base ≤ 320 := by omega
                  refine k_iast E hw (fun x => if x = i * base + dg then nI j else G x) h_goes (by omega) (by omega) (fun x hx => rfl) dX4_trace_129 (fun f H locs h_goes hfr hw => ?_)
                  have h_tr := h_tr.kp hfr n_tr_goes
                  have h_rows := h_rows.kp hfr n_rows_goes
                  have h_d := h_d.kp hfr n_d_goes
                  have h_row := h_row.kp hfr n_row_goes
                  have hF : ∀ b ∈ L, b ≠ tr → b ≠ ro → b ≠ go → f b = f0 b := fun b hb h0 h1 h2 => (hfr b h2).trans (hF b hb h0 h1 h2)
                  refine lv_aload_n E.1.1 E.1.2.1 dX4_trace_130 rfl (lv_at hl 3 rfl) ?_
                  refine lv_aload_n E.1.1 E.1.2.1 dX4_trace_131 rfl (lv_at hl 3 rfl) ?_
                  refine k_get (v := .int (nI nf)) E inlX4 rfl 5 (by decide) w1_58 rfl hw h_tr rfl dX4_trace_132 ?_
                  refine lv_iload E.1.1 E.1.2.1 dX4_trace_135 (lv_at hl 0 rfl) ?_
                  refine lv_iconst (v := nI 1) E.1.1 E.1.2.1 dX4_trace_137 rfl ?_
                  refine k_add E dX4_trace_138 ?_
                  refine va_mmax E.1.1 E.1.2.1 (by rw [E.1.2.2.1]; exact hl.1.symm) E.1.2.2.2.1 (E.1.2.2.2.2 _ w1_164) (E.1.2.2.2.2 _ w1_99) (E.1.2.2.2.2 _ w1_5) (E.1.2.2.2.2 _ w1_100) (by rw [hR]; exact Nat.le_of_ble_eq_true rfl) (by rw [hR]; exact Nat.le_of_ble_eq_true rfl) (by rw [hR]; exact Nat.le_of_ble_eq_true rfl) (by rw [hR]; first | exact Nat.le_of_ble_eq_true rfl | (dsimp only; omega)) dX4_trace_139 ?_
                  refine k_top E (nI (max nf (j + 1))) (mxn (by omega) (by omega)) ?_
                  refine k_put (ty0 := tyX4) E inlX4 rfl tyX4_ok nmX4 5 (by decide) w1_58 rfl rfl hw [.ref ro, .ref go, .int (nI base), .int (nI t), .int (nI per), .int (nI (max nf (j + 1)))] h_tr (rfl) (rfl) (Nat.le_of_ble_eq_true rfl) rfl dX4_trace_142 (fun f H locs h_tr hfr hw => ?_)
                  have h_rows := h_rows.kp hfr n_rows_tr
                  have h_goes := h_goes.kp hfr n_goes_tr
                  have h_d := h_d.kp hfr n_d_tr
                  have h_row := h_row.kp hfr n_row_tr
                  have hF : ∀ b ∈ L, b ≠ tr → b ≠ ro → b ≠ go → f b = f0 b := fun b hb h0 h1 h2 => (hfr b h0).trans (hF b hb h0 h1 h2)
                  refine lv_iinc (v := nI (dg + 1)) (lv' := [(4, .int (nI (dg + 1))), (5, .int (nI j)), (3, .int (nI i)), (0, .ref tr), (1, .ref d), (2, .int (nI base))]) E.1.1 E.1.2.1 dX4_trace_145 hl (k := 1) rfl (nI_1 _) (by decide) rfl (fun ls hl => ?_)
                  refine lv_goto (tgt := 83) E.1.1 E.1.2.1 dX4_trace_148 (by decide) ?_
                  exact ih83  (dg + 1) (max nf (j + 1)) (va_up B nf (rb (fun u => B i (fold t per (base * u + dg))) (t + per))) (fun x => if x = i * base + dg then nI j else G x) f H locs ls (by omega) (by omega) (by omega) (by omega) (TI_step hper (by omega) hbase hT2 (ix1 (by omega)) (ix2 (by omega)) hi2 (by omega) hj1 hj2 hj3 (fun _ _ => rfl) (ix3 hi2 (by omega))) h_tr h_rows h_goes h_d h_row hF hw (lv_sub hl [0, 2, 3, 4, 5] rfl)
                · refine lv_iconst (v := nI 0) E.1.1 E.1.2.1 dX4_trace_112 rfl ?_
                  refine k_top E (b2i false) rfl ?_
                  exact k_mzret E hQ hlk hr hw (Nat.le_of_ble_eq_true rfl) (Nat.le_of_ble_eq_true rfl) (⟨rfl, hF, nf, _, G, h_tr, h_rows, h_goes, Or.inr ⟨rfl, _, (TI_big hper (by omega) hbase hT2 (ix1 (by omega)) (ix2 (by omega)) hi2 (by omega) hj1 hj2 hj3 (ix3 hi2 (by omega)) c109).1, by rw [(TI_big hper (by omega) hbase hT2 (ix1 (by omega)) (ix2 (by omega)) hi2 (by omega) hj1 hj2 hj3 (ix3 hi2 (by omega)) c109).2]; decide⟩⟩) dX4_trace_113
          exact lp83 (base - 0 + 1) 0 nf B G f H locs ls (Nat.lt_succ_self _) (by omega) (by omega) (by omega) (by rw [Nat.add_zero]; exact hT) h_tr h_rows h_goes h_d h_row hF hw (lv_sub hl [0, 1, 2, 3, 4] rfl)
  exact lp66 (65 - 0 + 1) 0 1 (va_up B0 0 b) G0 f H locs ls (Nat.lt_succ_self _) (by omega) (by omega) (by rw [Nat.zero_mul]; exact TI_0 (by rw [va_up_self]; exact hS.row)) h_tr h_rows h_goes h_d h_row hF hw (lv_sub hl [0, 1, 2, 3] rfl)
end
section
theorem wd_low {b : Nat → Bool} {k : Nat} : wd b k &&& 1 = lN (if b (64 * k) then 1 else 0) := by
  unfold wd
  rw [lN_and_one]
  have h := wd_tb (b := b) (k := k) (show 0 < 64 by decide)
  have h2 := b01 h
  rw [Nat.pow_zero, Nat.div_one] at h2
  rw [h2]
  rfl
theorem bsum_or {g : Nat → Bool} {i : Nat} (hi : i < 64) : lN (bsum g i) ||| lN (if g i then 2 ^ (i % 64) else 0) = lN (bsum g (i + 1)) := by
  rw [fb_orL, Nat.mod_eq_of_lt hi]
  congr 1
  apply bsum_ext
  · apply Nat.or_lt_two_pow
    · exact Nat.lt_of_lt_of_le (bsum_lt g i) (Nat.pow_le_pow_right (by decide) (by omega))
    · split
      · exact Nat.pow_lt_pow_right (by decide) (by omega)
      · exact Nat.pow_pos (by decide)
  · intro j hj
    rw [Nat.testBit_or, bsum_test]
    by_cases h : j = i
    · subst h
      cases hg : g j <;> simp [hg]
    · have : j < i := by omega
      split <;> simp [this, two_tb, show ¬ i = j by omega]
/-- a SET that is kept: its cells, none of them among M -/
def RndC (cy : Nat → ClassId) (L : List Nat) (f : Nat → va_E) (M : List Nat) (a t q : Nat) (b : Nat → Bool) (base n : Nat) (go : Nat → Nat) (gd : Nat → Bool) : Prop := ∃ rw mc gs, a ∉ M ∧ rw ∉ M ∧ mc ∉ M ∧ gs ∉ M ∧ cel L f a (.inr (3, [.int (nI t), .int (nI q), .ref rw, .ref mc])) ∧ cel L f rw (.inl (cy 1, 3, .inr (.inl (wd b)))) ∧ cel L f mc (.inr (2, [.int (nI base), .int (nI n), .ref gs, .long (lN (bsum gd n))])) ∧ cel L f gs (.inl (cy 0, n * base, .inl (fun k => nI (go k))))
def MchOf (S : Nat → Bool) (base n : Nat) : Prop := FS S base (n * base) ∧ n = (trn S base (n * base)).1 ∧ n ≤ 64
def Rnd (cy : Nat → ClassId) (L : List Nat) (f : Nat → va_E) (M : List Nat) (a : Nat) (S : Nat → Bool) (base : Nat) : Prop := ∃ t q b n, SetIs S t q b ∧ MchOf S base n ∧ RndC cy L f M a t q b base n (trn S base (n * base)).2.2 (fun x => (trn S base (n * base)).2.1 x 0)
theorem RndC.keep {cy : Nat → ClassId} {L L1 : List Nat} {f f1 : Nat → va_E} {M : List Nat} {a t q : Nat} {b : Nat → Bool} {base n : Nat} {go : Nat → Nat} {gd : Nat → Bool} (h : RndC cy L f M a t q b base n go gd) (hL : ∀ b ∈ L, b ∈ L1) (hf : ∀ b ∈ L, b ∉ M → f1 b = f b) : RndC cy L1 f1 M a t q b base n go gd := by
  obtain ⟨rw, mc, gs, m1, m2, m3, m4, h1, h2, h3, h4⟩ := h
  exact ⟨rw, mc, gs, m1, m2, m3, m4, h1.keep hL (hf _ h1.1 m1), h2.keep hL (hf _ h2.1 m2), h3.keep hL (hf _ h3.1 m3), h4.keep hL (hf _ h4.1 m4)⟩
theorem Rnd.keep {cy : Nat → ClassId} {L L1 : List Nat} {f f1 : Nat → va_E} {M : List Nat} {a : Nat} {S : Nat → Bool} {base : Nat} (h : Rnd cy L f M a S base) (hL : ∀ b ∈ L, b ∈ L1) (hf : ∀ b ∈ L, b ∉ M → f1 b = f b) : Rnd cy L1 f1 M a S base := by
  obtain ⟨t, q, b, n, h1, h2, h3⟩ := h
  exact ⟨t, q, b, n, h1, h2, h3.keep hL hf⟩
/-- the draft and the tracer, whatever they hold -/
def Scr (cy : Nat → ClassId) (L : List Nat) (f : Nat → va_E) (d r0 tr ro go : Nat) : Prop := ∃ (i1 i2 j1 j2 j3 j4 : Int32) (g : Nat → Int64) (B : Nat → Nat → Bool) (G : Nat → Int32), cel L f d (.inr (0, [.ref r0, .int i1, .int i2])) ∧ cel L f r0 (.inl (cy 1, 59, .inr (.inl g))) ∧ cel L f tr (.inr (4, [.ref ro, .ref go, .int j1, .int j2, .int j3, .int j4])) ∧ cel L f ro (.inl (cy 1, 195, .inr (.inl (rw3 B)))) ∧ cel L f go (.inl (cy 0, 320, .inl G))
def Large (S : Nat → Bool) (base : Nat) : Prop := ¬ Fits S ∨ ∃ K, FS S base K ∧ 64 < (trn S base K).1
theorem good_cong {S : Nat → Bool} {base t per K nf : Nat} {B : Nat → Nat → Bool} {G : Nat → Int32} (h : TI S base t per K nf B G) (hp : 0 < per) : bsum (fun x => B x 0) nf = bsum (fun x => (trn S base K).2.1 x 0) nf := bsum_cong (fun x hx => (h.2.1 x hx).1 0 (by omega))
set_option maxHeartbeats 4000000 in
set_option maxRecDepth 100000 in
theorem c_Machine_init (l : Launch) (D : va_G) (cy : Nat → ClassId) (L : List Nat) (f0 : Nat → va_E) (sz : Nat) (h0 base nf gs : Nat) (gd : Int64) (h_o : cel L f0 h0 (.inr (2, [.int 0, .int 0, .null, .long 0]))) : Met l yX2_init (.code yX2_init cX2_init 6 none :: wsL_law) { frames := 1, cells := 0, slots := 0, locals := 12 } (va_Pc [.ref h0, .int (nI base), .int (nI nf), .ref gs, .long gd] (PW D cy L f0 sz)) (va_Qv (fun u : List Nat × (Nat → va_E) => L = u.1 ∧ (∀ b ∈ L, b ≠ h0 → u.2 b = f0 b) ∧ cel L u.2 h0 (.inr (2, [.int (nI base), .int (nI nf), .ref gs, .long gd]))) (PB D (AW L sz)) (AW L sz)) 0 0 (AW L sz) := by
  refine m_start (by decide) (Nat.le_of_ble_eq_true rfl) ?_
  intro p e R Q s m args below meth c ls hsz hR hQ E hr hlk hnm hw hl
  have hl : lv_has ls 6 [(0, .ref h0), (1, .int (nI base)), (2, .int (nI nf)), (3, .ref gs), (4, .long gd)] := hl
  obtain ⟨H, hH⟩ : ∃ X, X = s.heap := ⟨_, rfl⟩
  obtain ⟨locs, hlocs⟩ : ∃ X : List Loc, X = [] := ⟨_, rfl⟩
  have hw0 := hw
  obtain ⟨f, hf0⟩ : ∃ X, X = f0 := ⟨_, rfl⟩
  rw [← hf0] at h_o
  have hw : WW D (AW L sz) s.heap L f H locs := by rw [hH, hlocs, hf0]; exact hw
  have hF : ∀ b ∈ L, b ≠ h0 → f b = f0 b := fun b hb h0 => by rw [hf0]
  suffices hgo : W p l e R s m args below meth c H locs 0 0 Q (F0 m 0 ls []) by rw [hH, hlocs] at hgo; exact hgo
  clear hH hlocs hw0 hf0
  have hLs : ∀ b ∈ L, b ∈ L := fun _ h => h
  refine lv_aload_n E.1.1 E.1.2.1 dX2_init_0 rfl (lv_at hl 0 rfl) ?_
  refine W.objInit E.1.1 E.1.2.1 E.1.2.2.2.1 (E.1.2.2.2.2 _ w1_187) (E.1.2.2.2.2 _ w1_18) (E.1.2.2.2.2 _ w1_19) rfl (by rw [E.1.2.2.1]; exact hl.1) rfl dX2_init_1 (by rw [hR]; exact Nat.le_of_ble_eq_true rfl) (by rw [hR]; exact Nat.le_of_ble_eq_true rfl) ?_
  refine W.eq (g2 := F0 m 4 ls []) rfl ?_
  refine lv_aload_n E.1.1 E.1.2.1 dX2_init_4 rfl (lv_at hl 0 rfl) ?_
  refine lv_iload_n E.1.1 E.1.2.1 dX2_init_5 rfl (lv_at hl 1 rfl) ?_
  refine k_putF (ty0 := tyX2) E inlX2 rfl tyX2_ok nmX2 0 (by decide) w1_188 rfl rfl hnm rfl hw [.int (nI base), .int 0, .null, .long 0] h_o (rfl) (rfl) (Nat.le_of_ble_eq_true rfl) rfl dX2_init_6 (fun f H locs h_o hfr hw => ?_)
  have hF : ∀ b ∈ L, b ≠ h0 → f b = f0 b := fun b hb h0 => (hfr b h0).trans (hF b hb h0)
  refine lv_aload_n E.1.1 E.1.2.1 dX2_init_9 rfl (lv_at hl 0 rfl) ?_
  refine lv_iload_n E.1.1 E.1.2.1 dX2_init_10 rfl (lv_at hl 2 rfl) ?_
  refine k_putF (ty0 := tyX2) E inlX2 rfl tyX2_ok nmX2 1 (by decide) w1_189 rfl rfl hnm rfl hw [.int (nI base), .int (nI nf), .null, .long 0] h_o (rfl) (rfl) (Nat.le_of_ble_eq_true rfl) rfl dX2_init_11 (fun f H locs h_o hfr hw => ?_)
  have hF : ∀ b ∈ L, b ≠ h0 → f b = f0 b := fun b hb h0 => (hfr b h0).trans (hF b hb h0)
  refine lv_aload_n E.1.1 E.1.2.1 dX2_init_14 rfl (lv_at hl 0 rfl) ?_
  refine lv_aload_n E.1.1 E.1.2.1 dX2_init_15 rfl (lv_at hl 3 rfl) ?_
  refine k_putF (ty0 := tyX2) E inlX2 rfl tyX2_ok nmX2 2 (by decide) w1_191 rfl rfl hnm rfl hw [.int (nI base), .int (nI nf), .ref gs, .long 0] h_o (rfl) (rfl) (Nat.le_of_ble_eq_true rfl) rfl dX2_init_16 (fun f H locs h_o hfr hw => ?_)
  have hF : ∀ b ∈ L, b ≠ h0 → f b = f0 b := fun b hb h0 => (hfr b h0).trans (hF b hb h0)
  refine lv_aload_n E.1.1 E.1.2.1 dX2_init_19 rfl (lv_at hl 0 rfl) ?_
  refine lv_lload E.1.1 E.1.2.1 dX2_init_20 (lv_at hl 4 rfl) ?_
  refine k_putF (ty0 := tyX2) E inlX2 rfl tyX2_ok nmX2 3 (by decide) w1_192 rfl rfl hnm rfl hw [.int (nI base), .int (nI nf), .ref gs, .long gd] h_o (rfl) (rfl) (Nat.le_of_ble_eq_true rfl) rfl dX2_init_22 (fun f H locs h_o hfr hw => ?_)
  have hF : ∀ b ∈ L, b ≠ h0 → f b = f0 b := fun b hb h0 => (hfr b h0).trans (hF b hb h0)
  exact k_mvret E hQ hlk hr hw (Nat.le_of_ble_eq_true rfl) (Nat.le_of_ble_eq_true rfl) (⟨rfl, hF, h_o⟩) dX2_init_25

set_option maxHeartbeats 4000000 in
set_option maxRecDepth 100000 in
theorem c_machine (l : Launch) (D : va_G) (cy : Nat → ClassId) (L : List Nat) (f0 : Nat → va_E) (sz : Nat) (tr ro go base t per nf : Nat) (B : Nat → Nat → Bool) (G : Nat → Int32) (hnf : nf ≤ 64) (hbase : base ≤ 5) (h_tr : cel L f0 tr (.inr (4, [.ref ro, .ref go, .int (nI base), .int (nI t), .int (nI per), .int (nI nf)]))) (h_rows : cel L f0 ro (.inl (cy 1, 195, .inr (.inl (rw3 B))))) (h_goes : cel L f0 go (.inl (cy 0, 320, .inl G))) : Met l yX4_machine (.code yX4_machine cX4_machine 4 (Option.some (FieldType.object "NumberMachines$Machine")) :: wsL_law) { frames := 2, cells := 2, slots := 324, locals := 40 } (va_Pc [.ref tr] (PW D cy L f0 sz)) (va_Qq (fun (r : Option Nat) (u : List Nat × (Nat → va_E)) => (∀ b ∈ L, b ∈ u.1) ∧ (∀ b ∈ L, u.2 b = f0 b) ∧ ∃ mc gs, r = some mc ∧ mc ∉ L ∧ gs ∉ L ∧ cel u.1 u.2 mc (.inr (2, [.int (nI base), .int (nI nf), .ref gs, .long (lN (bsum (fun x => B x 0) nf))])) ∧ cel u.1 u.2 gs (.inl (cy 0, nf * base, .inl G))) (PB D (AW L sz)) (AW L sz)) 2 324 (AW L sz) := by
  refine m_start (by decide) (Nat.le_of_ble_eq_true rfl) ?_
  intro p e R Q s m args below meth c ls hsz hR hQ E hr hlk hnm hw hl
  have hl : lv_has ls 4 [(0, .ref tr)] := hl
  obtain ⟨H, hH⟩ : ∃ X, X = s.heap := ⟨_, rfl⟩
  obtain ⟨locs, hlocs⟩ : ∃ X : List Loc, X = [] := ⟨_, rfl⟩
  have hw0 := hw
  obtain ⟨f, hf0⟩ : ∃ X, X = f0 := ⟨_, rfl⟩
  rw [← hf0] at h_tr h_rows h_goes
  have hw : WW D (AW L sz) s.heap L f H locs := by rw [hH, hlocs, hf0]; exact hw
  have hF : ∀ b ∈ L, f b = f0 b := fun b hb => by rw [hf0]
  suffices hgo : W p l e R s m args below meth c H locs 0 0 Q (F0 m 0 ls []) by rw [hH, hlocs] at hgo; exact hgo
  clear hH hlocs hw0 hf0
  have hLs : ∀ b ∈ L, b ∈ L := fun _ h => h
  refine lv_lconst (v := 0) E.1.1 E.1.2.1 dX4_machine_0 rfl ?_
  refine k_topl E (lN (bsum (fun x => B x 0) 0)) (rfl) ?_
  refine lv_lstore_n (lv' := [(1, .long (lN (bsum (fun x => B x 0) 0))), (0, .ref tr)]) E.1.1 E.1.2.1 dX4_machine_1 rfl hl (by decide) rfl (fun ls hl => ?_)
  refine lv_iconst (v := nI 0) E.1.1 E.1.2.1 dX4_machine_2 rfl ?_
  refine lv_istore_n (lv' := [(3, .int (nI 0)), (1, .long (lN (bsum (fun x => B x 0) 0))), (0, .ref tr)]) E.1.1 E.1.2.1 dX4_machine_3 rfl hl (by decide) rfl (fun ls hl => ?_)
  have lp4 : ∀ (k : Nat) (i : Nat) (f : Nat → va_E) (H : Heap) (locs : List Loc) (ls : Array Slot), (nf - i < k) → (i ≤ nf) → (cel L f tr (.inr (4, [.ref ro, .ref go, .int (nI base), .int (nI t), .int (nI per), .int (nI nf)]))) → (cel L f ro (.inl (cy 1, 195, .inr (.inl (rw3 B))))) → (cel L f go (.inl (cy 0, 320, .inl G))) → (∀ b ∈ L, f b = f0 b) → (WW D (AW L sz) s.heap L f H locs) → (lv_has ls 4 [(3, .int (nI i)), (1, .long (lN (bsum (fun x => B x 0) i))), (0, .ref tr)]) → W p l e R s m args below meth c H locs 0 0 Q (F0 m 4 ls []) := by
    intro k
    induction k with
    | zero => intro _ _ _ _ _ hk; exact absurd hk (Nat.not_lt_zero _)
    | succ k ih4 =>
      intro i f H locs ls hk hi h_tr h_rows h_goes hF hw hl
      refine lv_iload_n E.1.1 E.1.2.1 dX4_machine_4 rfl (lv_at hl 0 rfl) ?_
      refine lv_aload_n E.1.1 E.1.2.1 dX4_machine_5 rfl (lv_at hl 2 rfl) ?_
      refine k_get (v := .int (nI nf)) E inlX4 rfl 5 (by decide) w1_58 rfl hw h_tr rfl dX4_machine_6 ?_
      refine k_ge (tgt := 33) E dX4_machine_9 (by decide) (by omega) (by omega) (fun c9 => ?_) (fun c9 => ?_)
      · obtain rfl : nf = i := by omega
        refine k_new (ci := 2) (ty0 := tyX2) E inlX2 rfl tyX2_ok w1_170 w1_171 w1_9 hw [.int 0, .int 0, .null, .long 0] (fun j hj => by rcases (show j = 0 ∨ j = 1 ∨ j = 2 ∨ j = 3 by omega) with rfl | rfl | rfl | rfl <;> rfl) (by rw [hR]; exact Nat.le_of_ble_eq_true rfl) (by rw [hR]; exact Nat.le_of_ble_eq_true rfl) dX4_machine_33 (fun mc f H hq_mc h_mc hfr hw => ?_)
        have n_tr_mc : tr ≠ mc := fun h => hq_mc (h ▸ h_tr.1)
        have n_mc_tr := Ne.symm n_tr_mc
        have h_tr := h_tr.keep (sub_snoc (a := mc)) (hfr _ n_tr_mc)
        have n_rows_mc : ro ≠ mc := fun h => hq_mc (h ▸ h_rows.1)
        have n_mc_rows := Ne.symm n_rows_mc
        have h_rows := h_rows.keep (sub_snoc (a := mc)) (hfr _ n_rows_mc)
        have n_goes_mc : go ≠ mc := fun h => hq_mc (h ▸ h_goes.1)
        have n_mc_goes := Ne.symm n_goes_mc
        have h_goes := h_goes.keep (sub_snoc (a := mc)) (hfr _ n_goes_mc)
        have hd_mc : ∀ b ∈ L, b ≠ mc := fun b hb h => hq_mc (h ▸ hLs b hb)
        have hF : ∀ b ∈ L, f b = f0 b := fun b hb => (hfr b (hd_mc b hb)).trans (hF b hb)
        have hLs : ∀ b ∈ L, b ∈ L ++ [mc] := fun b hb => List.mem_append_left _ (hLs b hb)
        refine W.cs (cells' := 1) (slots' := 4) rfl rfl ?_
        refine lv_dup E.1.1 E.1.2.1 dX4_machine_36 rfl ?_
        refine lv_aload_n E.1.1 E.1.2.1 dX4_machine_37 rfl (lv_at hl 2 rfl) ?_
        refine k_get (v := .int (nI base)) E inlX4 rfl 2 (by decide) w1_55 rfl hw h_tr rfl dX4_machine_38 ?_
        refine lv_aload_n E.1.1 E.1.2.1 dX4_machine_41 rfl (lv_at hl 2 rfl) ?_
        refine k_get (v := .int (nI nf)) E inlX4 rfl 5 (by decide) w1_58 rfl hw h_tr rfl dX4_machine_42 ?_
        refine lv_aload_n E.1.1 E.1.2.1 dX4_machine_45 rfl (lv_at hl 2 rfl) ?_
        refine k_get (v := .ref go) E inlX4 rfl 1 (by decide) w1_54 rfl hw h_tr rfl dX4_machine_46 ?_
        refine lv_aload_n E.1.1 E.1.2.1 dX4_machine_49 rfl (lv_at hl 2 rfl) ?_
        refine k_get (v := .int (nI nf)) E inlX4 rfl 5 (by decide) w1_58 rfl hw h_tr rfl dX4_machine_50 ?_
        refine lv_aload_n E.1.1 E.1.2.1 dX4_machine_53 rfl (lv_at hl 2 rfl) ?_
        refine k_get (v := .int (nI base)) E inlX4 rfl 2 (by decide) w1_55 rfl hw h_tr rfl dX4_machine_54 ?_
        refine k_mul E dX4_machine_57 ?_
        refine k_mq hw (va_runS (As := [.ref go, .int (nI (nf * base))]) (rest := [.int (nI nf), .int (nI base), .ref mc, .ref mc]) E.1 (c_copyOfI l D cy (L ++ [mc]) f H.size go (nf * base) G (by have := Nat.mul_le_mul hnf hbase; omega) h_goes) ⟨callB_of 2 E.1.2.2.2.2 (gd_own w1_174) rfl rfl rfl (E.1.2.2.2.2 _ w1_6) (E.1.2.2.2.2 _ w1_172) hd_J7_copyOf_59c91 (by rw [hR]; exact ⟨Nat.le_of_ble_eq_true rfl, Nat.le_of_ble_eq_true rfl⟩), E.1.2.2.2.2 _ w1_173⟩ (pw_pre E.2 hw) rfl rfl hl.1 rfl (lv_room (Nat.le_of_ble_eq_true rfl)) dX4_machine_58 (by rw [hR]; exact ⟨Nat.le_of_ble_eq_true rfl, Nat.le_of_ble_eq_true rfl⟩)) (fun r L1 f H locs hp hw => ?_)
        refine W.cs (cells' := 2) (slots' := 324) rfl rfl ?_
        obtain ⟨hLn, hfr, gs, rfl, hq_gs, h_gs⟩ := hp
        obtain ⟨L44, hLx⟩ : ∃ X, X = L1 := ⟨_, rfl⟩
        dsimp only at hLn hfr h_gs
        rw [← hLx] at hLn hw h_gs
        clear hLx
        have hd_gs : ∀ b ∈ L, b ≠ gs := fun b hb h => hq_gs (h ▸ hLs b hb)
        have n_tr_gs : tr ≠ gs := fun h => hq_gs (h ▸ h_tr.1)
        have n_gs_tr := Ne.symm n_tr_gs
        have n_rows_gs : ro ≠ gs := fun h => hq_gs (h ▸ h_rows.1)
        have n_gs_rows := Ne.symm n_rows_gs
        have n_goes_gs : go ≠ gs := fun h => hq_gs (h ▸ h_goes.1)
        have n_gs_goes := Ne.symm n_goes_gs
        have n_mc_gs : mc ≠ gs := fun h => hq_gs (h ▸ h_mc.1)
        have n_gs_mc := Ne.symm n_mc_gs
        have h_tr := h_tr.keep hLn (hfr _ h_tr.1)
        have h_rows := h_rows.keep hLn (hfr _ h_rows.1)
        have h_goes := h_goes.keep hLn (hfr _ h_goes.1)
        have h_mc := h_mc.keep hLn (hfr _ h_mc.1)
        have hF : ∀ b ∈ L, f b = f0 b := fun b hb => (hfr b (hLs b hb)).trans (hF b hb)
        have hLs : ∀ b ∈ L, b ∈ L44 := fun b hb => hLn b (hLs b hb)
        refine lv_lload_n E.1.1 E.1.2.1 dX4_machine_61 rfl (lv_at hl 1 rfl) ?_
        refine k_mv hw (va_runI (As := [.int (nI base), .int (nI nf), .ref gs, .long (lN (bsum (fun x => B x 0) nf))]) (rest := [.ref mc]) E.1 (c_Machine_init l D cy L44 f H.size mc base nf gs (lN (bsum (fun x => B x 0) nf)) h_mc) ⟨callB_of 4 E.1.2.2.2.2 (gd_own w1_186) rfl rfl rfl (E.1.2.2.2.2 _ w1_9) (E.1.2.2.2.2 _ w1_184) hd_X2_init (by rw [hR]; exact ⟨Nat.le_of_ble_eq_true rfl, Nat.le_of_ble_eq_true rfl⟩), rfl, E.1.2.2.2.2 _ w1_185⟩ (pw_pre E.2 hw) rfl rfl hl.1 rfl (lv_room (Nat.le_of_ble_eq_true rfl)) dX4_machine_62 (by rw [hR]; exact ⟨Nat.le_of_ble_eq_true rfl, Nat.le_of_ble_eq_true rfl⟩)) (fun L1 f H locs hp hw => ?_)
        obtain ⟨hL1, hfr, h_mc⟩ := hp
        have hL1 : L44 = L1 := hL1
        subst hL1
        have h_mc : cel L44 f mc (.inr (2, [.int (nI base), .int (nI nf), .ref gs, .long (lN (bsum (fun x => B x 0) nf))])) := h_mc
        have h_tr := h_tr.keep (fun _ h => h) (hfr _ h_tr.1 n_tr_mc)
        have h_rows := h_rows.keep (fun _ h => h) (hfr _ h_rows.1 n_rows_mc)
        have h_goes := h_goes.keep (fun _ h => h) (hfr _ h_goes.1 n_goes_mc)
        have h_gs := h_gs.keep (fun _ h => h) (hfr _ h_gs.1 n_gs_mc)
        have hF : ∀ b ∈ L, f b = f0 b := fun b hb => (hfr b (hLs b hb) (hd_mc b hb)).trans (hF b hb)
        exact k_mqret (v := some mc) E hQ hlk hr (Or.inl ⟨_, rfl⟩) hw (Nat.le_of_ble_eq_true rfl) (Nat.le_of_ble_eq_true rfl) (⟨hLs, hF, mc, gs, rfl, fun h => hd_mc mc h rfl, fun h => hd_gs gs h rfl, h_mc, h_gs⟩) dX4_machine_65
      · refine lv_lload_n E.1.1 E.1.2.1 dX4_machine_12 rfl (lv_at hl 1 rfl) ?_
        refine lv_aload_n E.1.1 E.1.2.1 dX4_machine_13 rfl (lv_at hl 2 rfl) ?_
        refine k_get (v := .ref ro) E inlX4 rfl 0 (by decide) w1_53 rfl hw h_tr rfl dX4_machine_14 ?_
        refine lv_iload_n E.1.1 E.1.2.1 dX4_machine_17 rfl (lv_at hl 0 rfl) ?_
        refine lv_iconst (v := nI 3) E.1.1 E.1.2.1 dX4_machine_18 rfl ?_
        refine k_mul E dX4_machine_19 ?_
        refine k_lald E hw (v := wd (B i) 0) h_rows (by omega) (by omega) (rw3_at B i (k := 0) (by decide)) dX4_machine_20 ?_
        refine lv_lconst (v := 1) E.1.1 E.1.2.1 dX4_machine_21 rfl ?_
        refine lv_land E.1.1 E.1.2.1 dX4_machine_22 ?_
        refine k_topl E (lN (if B i 0 then 1 else 0)) (wd_low) ?_
        refine lv_iload_n E.1.1 E.1.2.1 dX4_machine_23 rfl (lv_at hl 0 rfl) ?_
        refine lv_lshl E.1.1 E.1.2.1 dX4_machine_24 rfl ?_
        refine k_topl E (lN (if B i 0 then 2 ^ (i % 64) else 0)) (bit_shl (by omega)) ?_
        refine lv_lor E.1.1 E.1.2.1 dX4_machine_25 ?_
        refine k_topl E (lN (bsum (fun x => B x 0) (i + 1))) (bsum_or (by omega)) ?_
        refine lv_lstore_n (lv' := [(1, .long (lN (bsum (fun x => B x 0) (i + 1)))), (3, .int (nI i)), (0, .ref tr)]) E.1.1 E.1.2.1 dX4_machine_26 rfl hl (by decide) rfl (fun ls hl => ?_)
        refine lv_iinc (v := nI (i + 1)) (lv' := [(3, .int (nI (i + 1))), (1, .long (lN (bsum (fun x => B x 0) (i + 1)))), (0, .ref tr)]) E.1.1 E.1.2.1 dX4_machine_27 hl (k := 1) rfl (nI_1 _) (by decide) rfl (fun ls hl => ?_)
        refine lv_goto (tgt := 4) E.1.1 E.1.2.1 dX4_machine_30 (by decide) ?_
        exact ih4  (i + 1) f H locs ls (by omega) (by omega) h_tr h_rows h_goes hF hw (lv_sub hl [0, 1, 2] rfl)
  exact lp4 (nf - 0 + 1) 0 f H locs ls (Nat.lt_succ_self _) (by omega) h_tr h_rows h_goes hF hw (lv_sub hl [0, 1, 2] rfl)

set_option maxHeartbeats 4000000 in
set_option maxRecDepth 100000 in
theorem c_Round_init (l : Launch) (D : va_G) (cy : Nat → ClassId) (L : List Nat) (f0 : Nat → va_E) (sz : Nat) (h0 d r0 t per mc : Nat) (b : Nat → Bool) (h_d : cel L f0 d (.inr (0, [.ref r0, .int (nI t), .int (nI per)]))) (h_row : cel L f0 r0 (.inl (cy 1, 59, .inr (.inl (wd b))))) (h_o : cel L f0 h0 (.inr (3, [.int 0, .int 0, .null, .null]))) : Met l yX3_init (.code yX3_init cX3_init 3 none :: wsL_law) { frames := 2, cells := 1, slots := 3, locals := 40 } (va_Pc [.ref h0, .ref d, .ref mc] (PW D cy L f0 sz)) (va_Qv (fun u : List Nat × (Nat → va_E) => (∀ b ∈ L, b ∈ u.1) ∧ (∀ b ∈ L, b ≠ h0 → u.2 b = f0 b) ∧ ∃ rw, rw ∉ L ∧ cel u.1 u.2 rw (.inl (cy 1, 3, .inr (.inl (wd b)))) ∧ cel u.1 u.2 h0 (.inr (3, [.int (nI t), .int (nI per), .ref rw, .ref mc]))) (PB D (AW L sz)) (AW L sz)) 1 3 (AW L sz) := by
  refine m_start (by decide) (Nat.le_of_ble_eq_true rfl) ?_
  intro p e R Q s m args below meth c ls hsz hR hQ E hr hlk hnm hw hl
  have hl : lv_has ls 3 [(0, .ref h0), (1, .ref d), (2, .ref mc)] := hl
  obtain ⟨H, hH⟩ : ∃ X, X = s.heap := ⟨_, rfl⟩
  obtain ⟨locs, hlocs⟩ : ∃ X : List Loc, X = [] := ⟨_, rfl⟩
  have hw0 := hw
  obtain ⟨f, hf0⟩ : ∃ X, X = f0 := ⟨_, rfl⟩
  rw [← hf0] at h_d h_row h_o
  have hw : WW D (AW L sz) s.heap L f H locs := by rw [hH, hlocs, hf0]; exact hw
  have hF : ∀ b ∈ L, b ≠ h0 → f b = f0 b := fun b hb h0 => by rw [hf0]
  suffices hgo : W p l e R s m args below meth c H locs 0 0 Q (F0 m 0 ls []) by rw [hH, hlocs] at hgo; exact hgo
  clear hH hlocs hw0 hf0
  have hLs : ∀ b ∈ L, b ∈ L := fun _ h => h
  have n_d_o : d ≠ h0 := h_d.ne h_o (by simp)
  have n_row_o : r0 ≠ h0 := h_row.ne h_o (by simp)
  refine lv_aload_n E.1.1 E.1.2.1 dX3_init_0 rfl (lv_at hl 0 rfl) ?_
  refine W.objInit E.1.1 E.1.2.1 E.1.2.2.2.1 (E.1.2.2.2.2 _ w1_206) (E.1.2.2.2.2 _ w1_18) (E.1.2.2.2.2 _ w1_19) rfl (by rw [E.1.2.2.1]; exact hl.1) rfl dX3_init_1 (by rw [hR]; exact Nat.le_of_ble_eq_true rfl) (by rw [hR]; exact Nat.le_of_ble_eq_true rfl) ?_
  refine W.eq (g2 := F0 m 4 ls []) rfl ?_
  refine lv_aload_n E.1.1 E.1.2.1 dX3_init_4 rfl (lv_at hl 0 rfl) ?_
  refine lv_aload_n E.1.1 E.1.2.1 dX3_init_5 rfl (lv_at hl 1 rfl) ?_
  refine k_getN (v := .int (nI t)) E inlX0 rfl 1 (by decide) (List.mem_of_getElem? (i := 3) rfl) rfl hw h_d rfl dX3_init_6 ?_
  refine k_putF (ty0 := tyX3) E inlX3 rfl tyX3_ok nmX3 0 (by decide) w1_215 rfl rfl hnm rfl hw [.int (nI t), .int 0, .null, .null] h_o (rfl) (rfl) (Nat.le_of_ble_eq_true rfl) rfl dX3_init_9 (fun f H locs h_o hfr hw => ?_)
  have h_d := h_d.kp hfr n_d_o
  have h_row := h_row.kp hfr n_row_o
  have hF : ∀ b ∈ L, b ≠ h0 → f b = f0 b := fun b hb h0 => (hfr b h0).trans (hF b hb h0)
  refine lv_aload_n E.1.1 E.1.2.1 dX3_init_12 rfl (lv_at hl 0 rfl) ?_
  refine lv_aload_n E.1.1 E.1.2.1 dX3_init_13 rfl (lv_at hl 1 rfl) ?_
  refine k_getN (v := .int (nI per)) E inlX0 rfl 2 (by decide) (List.mem_of_getElem? (i := 5) rfl) rfl hw h_d rfl dX3_init_14 ?_
  refine k_putF (ty0 := tyX3) E inlX3 rfl tyX3_ok nmX3 1 (by decide) w1_217 rfl rfl hnm rfl hw [.int (nI t), .int (nI per), .null, .null] h_o (rfl) (rfl) (Nat.le_of_ble_eq_true rfl) rfl dX3_init_17 (fun f H locs h_o hfr hw => ?_)
  have h_d := h_d.kp hfr n_d_o
  have h_row := h_row.kp hfr n_row_o
  have hF : ∀ b ∈ L, b ≠ h0 → f b = f0 b := fun b hb h0 => (hfr b h0).trans (hF b hb h0)
  refine lv_aload_n E.1.1 E.1.2.1 dX3_init_20 rfl (lv_at hl 0 rfl) ?_
  refine lv_aload_n E.1.1 E.1.2.1 dX3_init_21 rfl (lv_at hl 1 rfl) ?_
  refine k_getN (v := .ref r0) E inlX0 rfl 0 (by decide) (List.mem_of_getElem? (i := 1) rfl) rfl hw h_d rfl dX3_init_22 ?_
  refine lv_iconst (v := nI 3) E.1.1 E.1.2.1 dX3_init_25 rfl ?_
  refine k_mq hw (va_runS (As := [.ref r0, .int (nI 3)]) (rest := [.ref h0]) E.1 (c_copyOfJ l D cy L f H.size r0 (wd b) h_row) ⟨callB_of 2 E.1.2.2.2.2 (gd_own w1_209) rfl rfl rfl (E.1.2.2.2.2 _ w1_6) (E.1.2.2.2.2 _ w1_207) hd_J7_copyOf_c38d5 (by rw [hR]; exact ⟨Nat.le_of_ble_eq_true rfl, Nat.le_of_ble_eq_true rfl⟩), E.1.2.2.2.2 _ w1_208⟩ (pw_pre E.2 hw) rfl rfl hl.1 rfl (lv_room (Nat.le_of_ble_eq_true rfl)) dX3_init_26 (by rw [hR]; exact ⟨Nat.le_of_ble_eq_true rfl, Nat.le_of_ble_eq_true rfl⟩)) (fun r L1 f H locs hp hw => ?_)
  refine W.cs (cells' := 1) (slots' := 3) rfl rfl ?_
  obtain ⟨hLn, hfr, rw, rfl, hq_rw, h_rw⟩ := hp
  obtain ⟨L25, hLx⟩ : ∃ X, X = L1 := ⟨_, rfl⟩
  dsimp only at hLn hfr h_rw
  rw [← hLx] at hLn hw h_rw
  clear hLx
  have hd_rw : ∀ b ∈ L, b ≠ rw := fun b hb h => hq_rw (h ▸ hLs b hb)
  have n_d_rw : d ≠ rw := fun h => hq_rw (h ▸ h_d.1)
  have n_rw_d := Ne.symm n_d_rw
  have n_row_rw : r0 ≠ rw := fun h => hq_rw (h ▸ h_row.1)
  have n_rw_row := Ne.symm n_row_rw
  have n_o_rw : h0 ≠ rw := fun h => hq_rw (h ▸ h_o.1)
  have n_rw_o := Ne.symm n_o_rw
  have h_d := h_d.keep hLn (hfr _ h_d.1)
  have h_row := h_row.keep hLn (hfr _ h_row.1)
  have h_o := h_o.keep hLn (hfr _ h_o.1)
  have hF : ∀ b ∈ L, b ≠ h0 → f b = f0 b := fun b hb h0 => (hfr b (hLs b hb)).trans (hF b hb h0)
  have hLs : ∀ b ∈ L, b ∈ L25 := fun b hb => hLn b (hLs b hb)
  refine k_putF (ty0 := tyX3) E inlX3 rfl tyX3_ok nmX3 2 (by decide) w1_219 rfl rfl hnm rfl hw [.int (nI t), .int (nI per), .ref rw, .null] h_o (rfl) (rfl) (Nat.le_of_ble_eq_true rfl) rfl dX3_init_29 (fun f H locs h_o hfr hw => ?_)
  have h_d := h_d.kp hfr n_d_o
  have h_row := h_row.kp hfr n_row_o
  have h_rw := h_rw.kp hfr n_rw_o
  have hF : ∀ b ∈ L, b ≠ h0 → f b = f0 b := fun b hb h0 => (hfr b h0).trans (hF b hb h0)
  refine lv_aload_n E.1.1 E.1.2.1 dX3_init_32 rfl (lv_at hl 0 rfl) ?_
  refine lv_aload_n E.1.1 E.1.2.1 dX3_init_33 rfl (lv_at hl 2 rfl) ?_
  refine k_putF (ty0 := tyX3) E inlX3 rfl tyX3_ok nmX3 3 (by decide) w1_220 rfl rfl hnm rfl hw [.int (nI t), .int (nI per), .ref rw, .ref mc] h_o (rfl) (rfl) (Nat.le_of_ble_eq_true rfl) rfl dX3_init_34 (fun f H locs h_o hfr hw => ?_)
  have h_d := h_d.kp hfr n_d_o
  have h_row := h_row.kp hfr n_row_o
  have h_rw := h_rw.kp hfr n_rw_o
  have hF : ∀ b ∈ L, b ≠ h0 → f b = f0 b := fun b hb h0 => (hfr b h0).trans (hF b hb h0)
  exact k_mvret E hQ hlk hr hw (Nat.le_of_ble_eq_true rfl) (Nat.le_of_ble_eq_true rfl) (⟨hLs, hF, rw, fun h => hd_rw rw h rfl, h_rw, h_o⟩) dX3_init_37

set_option maxHeartbeats 4000000 in
set_option maxRecDepth 100000 in
theorem c_drafted (l : Launch) (D : va_G) (cy : Nat → ClassId) (L : List Nat) (f0 : Nat → va_E) (sz : Nat) (nm sl im d r0 tr ro go base t per : Nat) (M : List Nat) (j1 j2 j3 j4 : Int32) (b : Nat → Bool) (B0 : Nat → Nat → Bool) (G0 : Nat → Int32) (hbase : 0 < base) (hbase5 : base ≤ 5) (hb1 : t + per ≤ 3776) (hper : 0 < per) (hM : ∀ x ∈ M, x ∈ L) (h_nm : cel L f0 nm (.inr (5, [.ref sl, .ref im, .ref d, .ref tr, .int (nI base)]))) (h_d : cel L f0 d (.inr (0, [.ref r0, .int (nI t), .int (nI per)]))) (h_row : cel L f0 r0 (.inl (cy 1, 59, .inr (.inl (wd b))))) (h_tr : cel L f0 tr (.inr (4, [.ref ro, .ref go, .int j1, .int j2, .int j3, .int j4]))) (h_rows : cel L f0 ro (.inl (cy 1, 195, .inr (.inl (rw3 B0))))) (h_goes : cel L f0 go (.inl (cy 0, 320, .inl G0))) : Met l yX5_drafted (.code yX5_drafted cX5_drafted 1 (Option.some (FieldType.object "NumberMachines$Round")) :: wsL_law) { frames := 4, cells := 4, slots := 331, locals := 86 } (va_Pc [.ref nm] (PW D cy L f0 sz)) (va_Qq (fun (r : Option Nat) (u : List Nat × (Nat → va_E)) => (∀ b ∈ L, b ∈ u.1) ∧ (∀ b ∈ L, b ≠ d → b ≠ r0 → b ≠ tr → b ≠ ro → b ≠ go → u.2 b = f0 b) ∧ Scr cy u.1 u.2 d r0 tr ro go ∧ ((r = none ∧ Large (den t per b) base) ∨ ∃ q, r = some q ∧ q ∉ L ∧ Rnd cy u.1 u.2 M q (den t per b) base)) (PB D (AW L sz)) (AW L sz)) 4 331 (AW L sz) := by
  refine m_start (by decide) (Nat.le_of_ble_eq_true rfl) ?_
  intro p e R Q s m args below meth c ls hsz hR hQ E hr hlk hnm hw hl
  have hl : lv_has ls 1 [(0, .ref nm)] := hl
  obtain ⟨H, hH⟩ : ∃ X, X = s.heap := ⟨_, rfl⟩
  obtain ⟨locs, hlocs⟩ : ∃ X : List Loc, X = [] := ⟨_, rfl⟩
  have hw0 := hw
  obtain ⟨f, hf0⟩ : ∃ X, X = f0 := ⟨_, rfl⟩
  rw [← hf0] at h_nm h_d h_row h_tr h_rows h_goes
  have hw : WW D (AW L sz) s.heap L f H locs := by rw [hH, hlocs, hf0]; exact hw
  have hF : ∀ b ∈ L, b ≠ d → b ≠ r0 → b ≠ tr → b ≠ ro → b ≠ go → f b = f0 b := fun b hb h0 h1 h2 h3 h4 => by rw [hf0]
  suffices hgo : W p l e R s m args below meth c H locs 0 0 Q (F0 m 0 ls []) by rw [hH, hlocs] at hgo; exact hgo
  clear hH hlocs hw0 hf0
  have hLs : ∀ b ∈ L, b ∈ L := fun _ h => h
  have n_nm_d : nm ≠ d := h_nm.ne h_d (by simp)
  have n_nm_row : nm ≠ r0 := h_nm.ne h_row (by simp)
  have n_nm_tr : nm ≠ tr := h_nm.ne h_tr (by simp)
  have n_nm_rows : nm ≠ ro := h_nm.ne h_rows (by simp)
  have n_nm_goes : nm ≠ go := h_nm.ne h_goes (by simp)
  have n_d_row : d ≠ r0 := h_d.ne h_row (by simp)
  have n_d_tr : d ≠ tr := h_d.ne h_tr (by simp)
  have n_d_rows : d ≠ ro := h_d.ne h_rows (by simp)
  have n_d_goes : d ≠ go := h_d.ne h_goes (by simp)
  have n_row_d : r0 ≠ d := h_row.ne h_d (by simp)
  have n_row_tr : r0 ≠ tr := h_row.ne h_tr (by simp)
  have n_row_rows : r0 ≠ ro := h_row.ne h_rows (by simp)
  have n_row_goes : r0 ≠ go := h_row.ne h_goes (by simp)
  have n_tr_d : tr ≠ d := h_tr.ne h_d (by simp)
  have n_tr_row : tr ≠ r0 := h_tr.ne h_row (by simp)
  have n_tr_rows : tr ≠ ro := h_tr.ne h_rows (by simp)
  have n_tr_goes : tr ≠ go := h_tr.ne h_goes (by simp)
  have n_rows_d : ro ≠ d := h_rows.ne h_d (by simp)
  have n_rows_row : ro ≠ r0 := h_rows.ne h_row (by simp)
  have n_rows_tr : ro ≠ tr := h_rows.ne h_tr (by simp)
  have n_rows_goes : ro ≠ go := h_rows.ne h_goes (by simp)
  have n_goes_d : go ≠ d := h_goes.ne h_d (by simp)
  have n_goes_row : go ≠ r0 := h_goes.ne h_row (by simp)
  have n_goes_tr : go ≠ tr := h_goes.ne h_tr (by simp)
  have n_goes_rows : go ≠ ro := h_goes.ne h_rows (by simp)
  refine lv_aload_n E.1.1 E.1.2.1 dX5_drafted_0 rfl (lv_at hl 0 rfl) ?_
  refine k_get (v := .ref d) E inlX5 rfl 2 (by decide) w1_233 rfl hw h_nm rfl dX5_drafted_1 ?_
  refine k_mi hw (va_runV (As := []) (rest := []) E.1 (c_reduce l D cy L f H.size d r0 t per b hb1 hper h_d h_row) ⟨callB_of 0 E.1.2.2.2.2 (gd_own w1_111) rfl rfl rfl (E.1.2.2.2.2 _ w1_2) (E.1.2.2.2.2 _ w1_108) hd_X0_reduce (by rw [hR]; exact ⟨Nat.le_of_ble_eq_true rfl, Nat.le_of_ble_eq_true rfl⟩), E.1.2.2.2.2 _ w1_109, E.1.2.2.2.2 _ w1_110⟩ (pw_preV (q := (RX0, TX0, 3)) E.2 hw h_d rfl) rfl rfl hl.1 rfl (lv_room (Nat.le_of_ble_eq_true rfl)) dX5_drafted_4 (by rw [hR]; exact ⟨Nat.le_of_ble_eq_true rfl, Nat.le_of_ble_eq_true rfl⟩)) (fun r L1 f H locs hp hw => ?_)
  obtain ⟨hL1, hfr, hcase⟩ := hp
  have hL1 : L = L1 := hL1
  subst hL1
  rcases hcase with ⟨rfl, x, q, b2, h_d, h_row, hS⟩ | ⟨rfl, k1, k2, g, h_d, h_row, hno⟩
  · have hS2 := hS
    have h_d : cel L f d (.inr (0, [.ref r0, .int (nI x), .int (nI q)])) := h_d
    have h_row : cel L f r0 (.inl (cy 1, 59, .inr (.inl (wd b2)))) := h_row
    have h_nm := h_nm.keep (fun _ h => h) (hfr _ h_nm.1 n_nm_d n_nm_row)
    have h_tr := h_tr.keep (fun _ h => h) (hfr _ h_tr.1 n_tr_d n_tr_row)
    have h_rows := h_rows.keep (fun _ h => h) (hfr _ h_rows.1 n_rows_d n_rows_row)
    have h_goes := h_goes.keep (fun _ h => h) (hfr _ h_goes.1 n_goes_d n_goes_row)
    have hF : ∀ b ∈ L, b ≠ d → b ≠ r0 → b ≠ tr → b ≠ ro → b ≠ go → f b = f0 b := fun b hb h0 h1 h2 h3 h4 => (hfr b (hLs b hb) h0 h1).trans (hF b hb h0 h1 h2 h3 h4)
    refine k_if0 (tgt := 28) E dX5_drafted_7 (by decide) (fun c7 => absurd c7 (by decide)) (fun c7 => ?_)
    refine lv_aload_n E.1.1 E.1.2.1 dX5_drafted_10 rfl (lv_at hl 0 rfl) ?_
    refine k_get (v := .ref tr) E inlX5 rfl 3 (by decide) w1_234 rfl hw h_nm rfl dX5_drafted_11 ?_
    refine lv_aload_n E.1.1 E.1.2.1 dX5_drafted_14 rfl (lv_at hl 0 rfl) ?_
    refine k_get (v := .ref d) E inlX5 rfl 2 (by decide) w1_233 rfl hw h_nm rfl dX5_drafted_15 ?_
    refine lv_aload_n E.1.1 E.1.2.1 dX5_drafted_18 rfl (lv_at hl 0 rfl) ?_
    refine k_get (v := .int (nI base)) E inlX5 rfl 4 (by decide) w1_235 rfl hw h_nm rfl dX5_drafted_19 ?_
    refine k_mi hw (va_runV (As := [.ref d, .int (nI base)]) (rest := []) E.1 (c_trace l D cy L f H.size tr ro go d r0 base x q j1 j2 j3 j4 b2 B0 G0 (den t per b) hbase hbase5 hS h_tr h_rows h_goes h_d h_row) ⟨callB_of 2 E.1.2.2.2.2 (gd_own w1_142) rfl rfl rfl (E.1.2.2.2.2 _ w1_3) (E.1.2.2.2.2 _ w1_139) hd_X4_trace (by rw [hR]; exact ⟨Nat.le_of_ble_eq_true rfl, Nat.le_of_ble_eq_true rfl⟩), E.1.2.2.2.2 _ w1_140, E.1.2.2.2.2 _ w1_141⟩ (pw_preV (q := (RX4, TX4, 6)) E.2 hw h_tr rfl) rfl rfl hl.1 rfl (lv_room (Nat.le_of_ble_eq_true rfl)) dX5_drafted_22 (by rw [hR]; exact ⟨Nat.le_of_ble_eq_true rfl, Nat.le_of_ble_eq_true rfl⟩)) (fun r L1 f H locs hp hw => ?_)
    obtain ⟨hL1, hfr, nf, B, G, h_tr, h_rows, h_goes, hcase⟩ := hp
    have hL1 : L = L1 := hL1
    subst hL1
    have h_tr : cel L f tr (.inr (4, [.ref ro, .ref go, .int (nI base), .int (nI x), .int (nI q), .int (nI nf)])) := h_tr
    have h_rows : cel L f ro (.inl (cy 1, 195, .inr (.inl (rw3 B)))) := h_rows
    have h_goes : cel L f go (.inl (cy 0, 320, .inl G)) := h_goes
    have h_nm := h_nm.keep (fun _ h => h) (hfr _ h_nm.1 n_nm_tr n_nm_rows n_nm_goes)
    have h_d := h_d.keep (fun _ h => h) (hfr _ h_d.1 n_d_tr n_d_rows n_d_goes)
    have h_row := h_row.keep (fun _ h => h) (hfr _ h_row.1 n_row_tr n_row_rows n_row_goes)
    have hF : ∀ b ∈ L, b ≠ d → b ≠ r0 → b ≠ tr → b ≠ ro → b ≠ go → f b = f0 b := fun b hb h0 h1 h2 h3 h4 => (hfr b (hLs b hb) h2 h3 h4).trans (hF b hb h0 h1 h2 h3 h4)
    rcases hcase with ⟨rfl, hnf, hT⟩ | ⟨rfl, K, hK1, hK2⟩
    · have hT2 := hT
      refine k_if1 (tgt := 30) E dX5_drafted_25 (by decide) (fun c25 => ?_) (fun c25 => absurd c25 (by decide))
      refine k_new (ci := 3) (ty0 := tyX3) E inlX3 rfl tyX3_ok w1_20 w1_165 w1_8 hw [.int 0, .int 0, .null, .null] (fun j hj => by rcases (show j = 0 ∨ j = 1 ∨ j = 2 ∨ j = 3 by omega) with rfl | rfl | rfl | rfl <;> rfl) (by rw [hR]; exact Nat.le_of_ble_eq_true rfl) (by rw [hR]; exact Nat.le_of_ble_eq_true rfl) dX5_drafted_30 (fun ro3 f H hq_ro3 h_ro3 hfr hw => ?_)
      have n_nm_ro3 : nm ≠ ro3 := fun h => hq_ro3 (h ▸ h_nm.1)
      have n_ro3_nm := Ne.symm n_nm_ro3
      have h_nm := h_nm.keep (sub_snoc (a := ro3)) (hfr _ n_nm_ro3)
      have n_d_ro3 : d ≠ ro3 := fun h => hq_ro3 (h ▸ h_d.1)
      have n_ro3_d := Ne.symm n_d_ro3
      have h_d := h_d.keep (sub_snoc (a := ro3)) (hfr _ n_d_ro3)
      have n_row_ro3 : r0 ≠ ro3 := fun h => hq_ro3 (h ▸ h_row.1)
      have n_ro3_row := Ne.symm n_row_ro3
      have h_row := h_row.keep (sub_snoc (a := ro3)) (hfr _ n_row_ro3)
      have n_tr_ro3 : tr ≠ ro3 := fun h => hq_ro3 (h ▸ h_tr.1)
      have n_ro3_tr := Ne.symm n_tr_ro3
      have h_tr := h_tr.keep (sub_snoc (a := ro3)) (hfr _ n_tr_ro3)
      have n_rows_ro3 : ro ≠ ro3 := fun h => hq_ro3 (h ▸ h_rows.1)
      have n_ro3_rows := Ne.symm n_rows_ro3
      have h_rows := h_rows.keep (sub_snoc (a := ro3)) (hfr _ n_rows_ro3)
      have n_goes_ro3 : go ≠ ro3 := fun h => hq_ro3 (h ▸ h_goes.1)
      have n_ro3_goes := Ne.symm n_goes_ro3
      have h_goes := h_goes.keep (sub_snoc (a := ro3)) (hfr _ n_goes_ro3)
      have hd_ro3 : ∀ b ∈ L, b ≠ ro3 := fun b hb h => hq_ro3 (h ▸ hLs b hb)
      have hF : ∀ b ∈ L, b ≠ d → b ≠ r0 → b ≠ tr → b ≠ ro → b ≠ go → f b = f0 b := fun b hb h0 h1 h2 h3 h4 => (hfr b (hd_ro3 b hb)).trans (hF b hb h0 h1 h2 h3 h4)
      have hLs : ∀ b ∈ L, b ∈ L ++ [ro3] := fun b hb => List.mem_append_left _ (hLs b hb)
      refine W.cs (cells' := 1) (slots' := 4) rfl rfl ?_
      refine lv_dup E.1.1 E.1.2.1 dX5_drafted_33 rfl ?_
      refine lv_aload_n E.1.1 E.1.2.1 dX5_drafted_34 rfl (lv_at hl 0 rfl) ?_
      refine k_get (v := .ref d) E inlX5 rfl 2 (by decide) w1_233 rfl hw h_nm rfl dX5_drafted_35 ?_
      refine lv_aload_n E.1.1 E.1.2.1 dX5_drafted_38 rfl (lv_at hl 0 rfl) ?_
      refine k_get (v := .ref tr) E inlX5 rfl 3 (by decide) w1_234 rfl hw h_nm rfl dX5_drafted_39 ?_
      refine k_mq hw (va_runV (As := []) (rest := [.ref d, .ref ro3, .ref ro3]) E.1 (c_machine l D cy (L ++ [ro3]) f H.size tr ro go base x q nf B G hnf hbase5 h_tr h_rows h_goes) ⟨callB_of 0 E.1.2.2.2.2 (gd_own w1_169) rfl rfl rfl (E.1.2.2.2.2 _ w1_3) (E.1.2.2.2.2 _ w1_166) hd_X4_machine (by rw [hR]; exact ⟨Nat.le_of_ble_eq_true rfl, Nat.le_of_ble_eq_true rfl⟩), E.1.2.2.2.2 _ w1_167, E.1.2.2.2.2 _ w1_168⟩ (pw_preV (q := (RX4, TX4, 6)) E.2 hw h_tr rfl) rfl rfl hl.1 rfl (lv_room (Nat.le_of_ble_eq_true rfl)) dX5_drafted_42 (by rw [hR]; exact ⟨Nat.le_of_ble_eq_true rfl, Nat.le_of_ble_eq_true rfl⟩)) (fun r L1 f H locs hp hw => ?_)
      refine W.cs (cells' := 3) (slots' := 328) rfl rfl ?_
      obtain ⟨hLn, hfr, mc, gs, rfl, hq_mc, hq_gs, h_mc, h_gs⟩ := hp
      obtain ⟨L91, hLx⟩ : ∃ X, X = L1 := ⟨_, rfl⟩
      dsimp only at hLn hfr h_mc h_gs
      rw [← hLx] at hLn hw h_mc h_gs
      clear hLx
      have hd_mc : ∀ b ∈ L, b ≠ mc := fun b hb h => hq_mc (h ▸ hLs b hb)
      have n_nm_mc : nm ≠ mc := fun h => hq_mc (h ▸ h_nm.1)
      have n_mc_nm := Ne.symm n_nm_mc
      have n_d_mc : d ≠ mc := fun h => hq_mc (h ▸ h_d.1)
      have n_mc_d := Ne.symm n_d_mc
      have n_row_mc : r0 ≠ mc := fun h => hq_mc (h ▸ h_row.1)
      have n_mc_row := Ne.symm n_row_mc
      have n_tr_mc : tr ≠ mc := fun h => hq_mc (h ▸ h_tr.1)
      have n_mc_tr := Ne.symm n_tr_mc
      have n_rows_mc : ro ≠ mc := fun h => hq_mc (h ▸ h_rows.1)
      have n_mc_rows := Ne.symm n_rows_mc
      have n_goes_mc : go ≠ mc := fun h => hq_mc (h ▸ h_goes.1)
      have n_mc_goes := Ne.symm n_goes_mc
      have n_ro3_mc : ro3 ≠ mc := fun h => hq_mc (h ▸ h_ro3.1)
      have n_mc_ro3 := Ne.symm n_ro3_mc
      have hd_gs : ∀ b ∈ L, b ≠ gs := fun b hb h => hq_gs (h ▸ hLs b hb)
      have n_nm_gs : nm ≠ gs := fun h => hq_gs (h ▸ h_nm.1)
      have n_gs_nm := Ne.symm n_nm_gs
      have n_d_gs : d ≠ gs := fun h => hq_gs (h ▸ h_d.1)
      have n_gs_d := Ne.symm n_d_gs
      have n_row_gs : r0 ≠ gs := fun h => hq_gs (h ▸ h_row.1)
      have n_gs_row := Ne.symm n_row_gs
      have n_tr_gs : tr ≠ gs := fun h => hq_gs (h ▸ h_tr.1)
      have n_gs_tr := Ne.symm n_tr_gs
      have n_rows_gs : ro ≠ gs := fun h => hq_gs (h ▸ h_rows.1)
      have n_gs_rows := Ne.symm n_rows_gs
      have n_goes_gs : go ≠ gs := fun h => hq_gs (h ▸ h_goes.1)
      have n_gs_goes := Ne.symm n_goes_gs
      have n_ro3_gs : ro3 ≠ gs := fun h => hq_gs (h ▸ h_ro3.1)
      have n_gs_ro3 := Ne.symm n_ro3_gs
      have h_nm := h_nm.keep hLn (hfr _ h_nm.1)
      have h_d := h_d.keep hLn (hfr _ h_d.1)
      have h_row := h_row.keep hLn (hfr _ h_row.1)
      have h_tr := h_tr.keep hLn (hfr _ h_tr.1)
      have h_rows := h_rows.keep hLn (hfr _ h_rows.1)
      have h_goes := h_goes.keep hLn (hfr _ h_goes.1)
      have h_ro3 := h_ro3.keep hLn (hfr _ h_ro3.1)
      have hF : ∀ b ∈ L, b ≠ d → b ≠ r0 → b ≠ tr → b ≠ ro → b ≠ go → f b = f0 b := fun b hb h0 h1 h2 h3 h4 => (hfr b (hLs b hb)).trans (hF b hb h0 h1 h2 h3 h4)
      have hLs : ∀ b ∈ L, b ∈ L91 := fun b hb => hLn b (hLs b hb)
      have n_gs_mc : gs ≠ mc := h_gs.ne h_mc (by simp)
      have n_mc_gs := Ne.symm n_gs_mc
      obtain ⟨f, h_gs, hfr, hw⟩ := k_swi (fun k => nI ((trn (den t per b) base (nf * base)).2.2 k)) hw h_gs (fun k hk => hT.2.2.1 k hk)
      have h_nm := h_nm.kp hfr n_nm_gs
      have h_d := h_d.kp hfr n_d_gs
      have h_row := h_row.kp hfr n_row_gs
      have h_tr := h_tr.kp hfr n_tr_gs
      have h_rows := h_rows.kp hfr n_rows_gs
      have h_goes := h_goes.kp hfr n_goes_gs
      have h_ro3 := h_ro3.kp hfr n_ro3_gs
      have h_mc := h_mc.kp hfr n_mc_gs
      have hF : ∀ b ∈ L, b ≠ d → b ≠ r0 → b ≠ tr → b ≠ ro → b ≠ go → f b = f0 b := fun b hb h0 h1 h2 h3 h4 => (hfr b (hd_gs b hb)).trans (hF b hb h0 h1 h2 h3 h4)
      rw [good_cong hT hS.1.1] at h_mc
      refine k_mv hw (va_runI (As := [.ref d, .ref mc]) (rest := [.ref ro3]) E.1 (c_Round_init l D cy L91 f H.size ro3 d r0 x q mc b2 h_d h_row h_ro3) ⟨callB_of 2 E.1.2.2.2.2 (gd_own w1_205) rfl rfl rfl (E.1.2.2.2.2 _ w1_8) (E.1.2.2.2.2 _ w1_203) hd_X3_init (by rw [hR]; exact ⟨Nat.le_of_ble_eq_true rfl, Nat.le_of_ble_eq_true rfl⟩), rfl, E.1.2.2.2.2 _ w1_204⟩ (pw_pre E.2 hw) rfl rfl hl.1 rfl (lv_room (Nat.le_of_ble_eq_true rfl)) dX5_drafted_45 (by rw [hR]; exact ⟨Nat.le_of_ble_eq_true rfl, Nat.le_of_ble_eq_true rfl⟩)) (fun L1 f H locs hp hw => ?_)
      refine W.cs (cells' := 4) (slots' := 331) rfl rfl ?_
      have o_ro3 := h_ro3
      obtain ⟨hLn, hfr, rw, hq_rw, h_rw, h_ro3⟩ := hp
      obtain ⟨L150, hLx⟩ : ∃ X, X = L1 := ⟨_, rfl⟩
      dsimp only at hLn hfr h_rw h_ro3
      rw [← hLx] at hLn hw h_rw h_ro3
      clear hLx
      have hd_rw : ∀ b ∈ L, b ≠ rw := fun b hb h => hq_rw (h ▸ hLs b hb)
      have n_nm_rw : nm ≠ rw := fun h => hq_rw (h ▸ h_nm.1)
      have n_rw_nm := Ne.symm n_nm_rw
      have n_d_rw : d ≠ rw := fun h => hq_rw (h ▸ h_d.1)
      have n_rw_d := Ne.symm n_d_rw
      have n_row_rw : r0 ≠ rw := fun h => hq_rw (h ▸ h_row.1)
      have n_rw_row := Ne.symm n_row_rw
      have n_tr_rw : tr ≠ rw := fun h => hq_rw (h ▸ h_tr.1)
      have n_rw_tr := Ne.symm n_tr_rw
      have n_rows_rw : ro ≠ rw := fun h => hq_rw (h ▸ h_rows.1)
      have n_rw_rows := Ne.symm n_rows_rw
      have n_goes_rw : go ≠ rw := fun h => hq_rw (h ▸ h_goes.1)
      have n_rw_goes := Ne.symm n_goes_rw
      have n_ro3_rw : ro3 ≠ rw := fun h => hq_rw (h ▸ o_ro3.1)
      have n_rw_ro3 := Ne.symm n_ro3_rw
      have n_mc_rw : mc ≠ rw := fun h => hq_rw (h ▸ h_mc.1)
      have n_rw_mc := Ne.symm n_mc_rw
      have n_gs_rw : gs ≠ rw := fun h => hq_rw (h ▸ h_gs.1)
      have n_rw_gs := Ne.symm n_gs_rw
      have h_nm := h_nm.keep hLn (hfr _ h_nm.1 n_nm_ro3)
      have h_d := h_d.keep hLn (hfr _ h_d.1 n_d_ro3)
      have h_row := h_row.keep hLn (hfr _ h_row.1 n_row_ro3)
      have h_tr := h_tr.keep hLn (hfr _ h_tr.1 n_tr_ro3)
      have h_rows := h_rows.keep hLn (hfr _ h_rows.1 n_rows_ro3)
      have h_goes := h_goes.keep hLn (hfr _ h_goes.1 n_goes_ro3)
      have h_mc := h_mc.keep hLn (hfr _ h_mc.1 n_mc_ro3)
      have h_gs := h_gs.keep hLn (hfr _ h_gs.1 n_gs_ro3)
      have hF : ∀ b ∈ L, b ≠ d → b ≠ r0 → b ≠ tr → b ≠ ro → b ≠ go → f b = f0 b := fun b hb h0 h1 h2 h3 h4 => (hfr b (hLs b hb) (hd_ro3 b hb)).trans (hF b hb h0 h1 h2 h3 h4)
      have hLs : ∀ b ∈ L, b ∈ L150 := fun b hb => hLn b (hLs b hb)
      exact k_mqret (v := some ro3) E hQ hlk hr (Or.inl ⟨_, rfl⟩) hw (Nat.le_of_ble_eq_true rfl) (Nat.le_of_ble_eq_true rfl) (⟨hLs, hF, ⟨_, _, _, _, _, _, _, _, _, h_d, h_row, h_tr, h_rows, h_goes⟩, Or.inr ⟨ro3, rfl, fun h => hd_ro3 ro3 h rfl, x, q, b2, nf, hS, ⟨TI_end hT, hT.1, hnf⟩, rw, mc, gs, fun h => hd_ro3 ro3 (hM _ h) rfl, fun h => hd_rw rw (hM _ h) rfl, fun h => hd_mc mc (hM _ h) rfl, fun h => hd_gs gs (hM _ h) rfl, h_ro3, h_rw, h_mc, h_gs⟩⟩) dX5_drafted_48
    · have hK3 := hK2
      refine k_if1 (tgt := 30) E dX5_drafted_25 (by decide) (fun c25 => absurd c25 (by decide)) (fun c25 => ?_)
      refine lv_null E.1.1 E.1.2.1 dX5_drafted_28 ?_
      exact k_mqret (v := none) E hQ hlk hr (Or.inl ⟨_, rfl⟩) hw (Nat.le_of_ble_eq_true rfl) (Nat.le_of_ble_eq_true rfl) (⟨hLs, hF, ⟨_, _, _, _, _, _, _, _, _, h_d, h_row, h_tr, h_rows, h_goes⟩, Or.inl ⟨rfl, Or.inr ⟨K, hK1, hK2⟩⟩⟩) dX5_drafted_29
  · have hno2 := hno
    have h_d : cel L f d (.inr (0, [.ref r0, .int k1, .int k2])) := h_d
    have h_row : cel L f r0 (.inl (cy 1, 59, .inr (.inl g))) := h_row
    have h_nm := h_nm.keep (fun _ h => h) (hfr _ h_nm.1 n_nm_d n_nm_row)
    have h_tr := h_tr.keep (fun _ h => h) (hfr _ h_tr.1 n_tr_d n_tr_row)
    have h_rows := h_rows.keep (fun _ h => h) (hfr _ h_rows.1 n_rows_d n_rows_row)
    have h_goes := h_goes.keep (fun _ h => h) (hfr _ h_goes.1 n_goes_d n_goes_row)
    have hF : ∀ b ∈ L, b ≠ d → b ≠ r0 → b ≠ tr → b ≠ ro → b ≠ go → f b = f0 b := fun b hb h0 h1 h2 h3 h4 => (hfr b (hLs b hb) h0 h1).trans (hF b hb h0 h1 h2 h3 h4)
    refine k_if0 (tgt := 28) E dX5_drafted_7 (by decide) (fun c7 => ?_) (fun c7 => absurd c7 (by decide))
    refine lv_null E.1.1 E.1.2.1 dX5_drafted_28 ?_
    exact k_mqret (v := none) E hQ hlk hr (Or.inl ⟨_, rfl⟩) hw (Nat.le_of_ble_eq_true rfl) (Nat.le_of_ble_eq_true rfl) (⟨hLs, hF, ⟨_, _, _, _, _, _, _, _, _, h_d, h_row, h_tr, h_rows, h_goes⟩, Or.inl ⟨rfl, Or.inl hno⟩⟩) dX5_drafted_29
end
section
theorem pa_fold {t per n : Nat} (hp : 0 < per) : (if fold t per n + 1 < t + per then fold t per n + 1 else t) = fold t per (n + 1) := by
  rw [← fold_add hp n 1]
  have hl := fold_lt (t := t) (n := n) hp
  by_cases h : fold t per n + 1 < t + per
  · rw [if_pos h, fold_in h]
  · rw [if_neg h, fold_ge hp (by omega), show fold t per n + 1 - t = per by omega, Nat.mod_self, Nat.add_zero]
/-- the least one from n on, within w -/
def lfrom (S : Nat → Bool) (w n : Nat) : Int32 := if fa_first (fun k => S (n + k)) w < w then nI (n + fa_first (fun k => S (n + k)) w) else -6
theorem lfrom_at {S : Nat → Bool} {w n i : Nat} (h1 : ∀ j, j < i → S (n + j) = false) (hi : i < w) (h2 : S (n + i) = true) : lfrom S w n = nI (n + i) := by
  have e : fa_first (fun k => S (n + k)) w = i := first_is (by omega) h1 (Or.inr h2)
  unfold lfrom
  rw [e, if_pos hi]
theorem lfrom_no {S : Nat → Bool} {w n : Nat} (h1 : ∀ j, j < w → S (n + j) = false) : lfrom S w n = -6 := by
  have e : fa_first (fun k => S (n + k)) w = w := first_is (by omega) h1 (Or.inl rfl)
  unfold lfrom
  rw [e, if_neg (by omega)]
theorem cnt_mono (x : Nat → Bool) {i j : Nat} (h : i ≤ j) : fa_cnt x i ≤ fa_cnt x j := by
  induction j with
  | zero => rw [show i = 0 by omega]; exact Nat.le_refl _
  | succ j ih =>
    by_cases hij : i = j + 1
    · rw [hij]; exact Nat.le_refl _
    · have := ih (by omega)
      rw [fa_cnt]
      omega
theorem cnt_add (x : Nat → Bool) (i : Nat) : ∀ j, fa_cnt x (i + j) = fa_cnt x i + fa_cnt (fun k => x (i + k)) j
  | 0 => rfl
  | j + 1 => by
    rw [← Nat.add_assoc, fa_cnt, fa_cnt, cnt_add x i j, Nat.add_assoc]
theorem cnt_round {S : Nat → Bool} {t per : Nat} (hp : 0 < per) (hE : EvP S t per) : ∀ (k j : Nat), fa_cnt S (t + j + k * per) = fa_cnt S (t + j) + k * (fa_cnt S (t + per) - fa_cnt S t)
  | 0, j => by simp
  | k + 1, j => by
    have ih := cnt_round hp hE k j
    have e1 : fa_cnt S (t + j + (k + 1) * per) = fa_cnt S (t + j + k * per) + fa_cnt (fun i => S (t + j + k * per + i)) per := by
      rw [← cnt_add, Nat.succ_mul, ← Nat.add_assoc]
    have e2 : ∀ n, t ≤ n → fa_cnt (fun i => S (n + i)) per = fa_cnt (fun i => S (t + i)) per := by
      intro n hn
      obtain ⟨d, rfl⟩ : ∃ d, n = t + d := ⟨n - t, by omega⟩
      clear hn
      induction d with
      | zero => rfl
      | succ d ihd =>
        rw [← ihd]
        have a1 := cnt_add S (t + d) (per + 1)
        have a2 : fa_cnt (fun k => S (t + d + k)) (per + 1) = fa_cnt (fun k => S (t + d + k)) 1 + fa_cnt (fun k => S (t + (d + 1) + k)) per := by
          rw [Nat.add_comm per 1, cnt_add (fun k => S (t + d + k)) 1 per]
          congr 1
          apply fa_cnt_cong
          intro q _
          congr 1
          omega
        have a3 : fa_cnt (fun k => S (t + d + k)) (per + 1) = fa_cnt (fun k => S (t + d + k)) per + if S (t + d + per) then 1 else 0 := rfl
        have a4 : fa_cnt (fun k => S (t + d + k)) 1 = 0 + if S (t + d + 0) then 1 else 0 := rfl
        have a5 := hE (t + d) (by omega)
        rw [Nat.add_zero, a5] at a4
        omega
    have e3 : fa_cnt S (t + per) = fa_cnt S t + fa_cnt (fun i => S (t + i)) per := cnt_add S t per
    rw [e1, ih, e2 _ (by omega), Nat.succ_mul]
    omega
theorem cnt_far {S : Nat → Bool} {t per n : Nat} (hp : 0 < per) (hE : EvP S t per) (hn : t ≤ n) : fa_cnt S n = fa_cnt S (t + (n - t) % per) + (n - t) / per * (fa_cnt S (t + per) - fa_cnt S t) := by
  rw [← cnt_round hp hE]
  congr 1
  have := Nat.mod_add_div (n - t) per
  rw [Nat.mul_comm]
  omega
theorem cnt_den {t per : Nat} (b : Nat → Bool) {n : Nat} (h : n ≤ t + per) : fa_cnt (den t per b) n = fa_cnt b n := fa_cnt_cong (fun k hk => den_in b (by omega))
def wlk (go : Nat → Nat) (base num : Nat) : Nat → Nat
  | 0 => 0
  | k + 1 => go (wlk go base num k * base + num / base ^ k % base)
theorem gbit {g : Nat → Bool} {n i : Nat} (hn : n ≤ 64) (hi : i < n) : lg_cmp (((lN (bsum g n)).toUInt64 >>> ((nI i).toInt64.toUInt64 &&& Int64.toUInt64 63)).toInt64 &&& 1) 0 = b2i (g i) := by
  rw [ush_bit (Nat.lt_of_lt_of_le (bsum_lt g n) (Nat.pow_le_pow_right (by decide) hn)) (by omega), cmp_01, Nat.mod_eq_of_lt (show i < 64 by omega), bsum_test]
  simp [hi]
/-- a set of states as a long -/
def lset (x : Nat → Bool) : Int64 := lN (bsum x 64)
theorem lset_cong {x y : Nat → Bool} (h : ∀ i, i < 64 → x i = y i) : lset x = lset y := by unfold lset; rw [bsum_cong h]
theorem lset_0 : (0 : Int64) = lset (fun _ => false) := by
  have h := wd_zero (b := fun _ => false) (k := 0) (fun _ _ => rfl)
  exact h.symm
theorem lset_or1 {x : Nat → Bool} {j : Nat} (hj : j < 64) : lset x ||| ((1 : Int64) <<< ((nI j).toInt64 &&& 63)) = lset (bset x j true) := by
  have h := wd_set (b := x) (n := j) (k := 0) (by omega) (by omega)
  unfold wd at h
  simp only [Nat.mul_zero, Nat.zero_add] at h
  exact h
theorem lset_or {x y : Nat → Bool} : lset x ||| lset y = lset (fun i => x i || y i) := by
  unfold lset
  rw [fb_orL]
  congr 1
  apply bsum_ext
  · exact Nat.or_lt_two_pow (bsum_lt _ _) (bsum_lt _ _)
  · intro i hi
    rw [Nat.testBit_or, bsum_test, bsum_test]
    simp [hi]
theorem lset_and {x y : Nat → Bool} : lset x &&& lset y = lset (fun i => x i && y i) := by
  unfold lset
  rw [fb_andL]
  congr 1
  apply bsum_ext
  · exact Nat.lt_of_le_of_lt Nat.and_le_left (bsum_lt _ _)
  · intro i hi
    rw [Nat.testBit_and, bsum_test, bsum_test]
    simp [hi]
theorem lset_inj {x y : Nat → Bool} (h : lset x = lset y) : ∀ i, i < 64 → x i = y i := bsum_inj (lN_inj (bsum_lt _ _) (bsum_lt _ _) h)
theorem lset_cmp {x y : Nat → Bool} : lg_cmp (lset x &&& lset y) 0 = 0 ↔ ¬ ∃ j, j < 64 ∧ x j = true ∧ y j = true := by
  have e1 := lg_cmp_eq (lset x &&& lset y) 0
  have e2 : lset x &&& lset y = lset (fun i => x i && y i) := lset_and
  rw [e1, e2]
  constructor
  · rintro h ⟨j, h1, h2, h3⟩
    have h9 := lset_inj (h.trans lset_0) j h1
    have h10 : (x j && y j) = false := h9
    rw [h2, h3] at h10
    cases h10
  · intro h
    refine (lset_cong (fun j hj => ?_)).trans lset_0.symm
    cases hx : x j
    · rfl
    · cases hy : y j
      · rfl
      · exact absurd ⟨j, hj, hx, hy⟩ h
theorem lset_bit {x : Nat → Bool} {i : Nat} (hi : i < 64) : lg_cmp (((lset x).toUInt64 >>> ((nI i).toInt64.toUInt64 &&& Int64.toUInt64 63)).toInt64 &&& 1) 0 = b2i (x i) := gbit (Nat.le_refl 64) hi
/-- where any of the states x goes, by the first K pairs -/
noncomputable def acc (x : Nat → Bool) (go : Nat → Nat) (base K : Nat) : Nat → Bool := fun j => dB (∃ k, k < K ∧ x (k / base) = true ∧ go k = j)
theorem acc_0 (x : Nat → Bool) (go : Nat → Nat) (base : Nat) : acc x go base 0 = fun _ => false := by
  funext j
  exact dB_f (by rintro ⟨k, h, _⟩; omega)
theorem acc_s {x : Nat → Bool} {go : Nat → Nat} {base K : Nat} (h : x (K / base) = true) : bset (acc x go base K) (go K) true = acc x go base (K + 1) := by
  funext j
  by_cases hj : j = go K
  · rw [hj, bset_same]
    exact (dB_t ⟨K, by omega, h, rfl⟩).symm
  · rw [bset_ne _ _ hj]
    unfold acc
    congr 1
    apply propext
    constructor
    · rintro ⟨k, h1, h2, h3⟩; exact ⟨k, by omega, h2, h3⟩
    · rintro ⟨k, h1, h2, h3⟩
      refine ⟨k, ?_, h2, h3⟩
      rcases Nat.lt_or_ge k K with z | z
      · exact z
      · exact absurd h3 (by rw [show k = K by omega]; exact fun z => hj z.symm)
theorem acc_skip {x : Nat → Bool} {go : Nat → Nat} {base i : Nat} (hb : 0 < base) (h : x i = false) : acc x go base (i * base) = acc x go base ((i + 1) * base) := by
  funext j
  unfold acc
  congr 1
  apply propext
  constructor
  · rintro ⟨k, h1, h2, h3⟩; exact ⟨k, by rw [Nat.succ_mul]; omega, h2, h3⟩
  · rintro ⟨k, h1, h2, h3⟩
    refine ⟨k, ?_, h2, h3⟩
    rcases Nat.lt_or_ge k (i * base) with z | z
    · exact z
    · have e : k / base = i := by
        have a1 : i ≤ k / base := (Nat.le_div_iff_mul_le hb).mpr z
        have a2 : k / base < i + 1 := (Nat.div_lt_iff_lt_mul hb).mpr h1
        omega
      rw [e, h] at h2
      cases h2
noncomputable def rch (x : Nat → Bool) (go : Nat → Nat) (base n : Nat) : Nat → Nat → Bool
  | 0 => x
  | k + 1 => fun j => rch x go base n k j || acc (rch x go base n k) go base (n * base) j
noncomputable def stp (x y : Nat → Bool) (go : Nat → Nat) (base n : Nat) : Int32 := if fa_first (fun k => dB (∃ j, j < 64 ∧ rch x go base n k j = true ∧ y j = true)) 64 < 64 then nI (fa_first (fun k => dB (∃ j, j < 64 ∧ rch x go base n k j = true ∧ y j = true)) 64) else -6
theorem stp_at {x y : Nat → Bool} {go : Nat → Nat} {base n i : Nat} (h1 : ∀ j, j < i → dB (∃ a, a < 64 ∧ rch x go base n j a = true ∧ y a = true) = false) (hi : i < 64) (h2 : ∃ a, a < 64 ∧ rch x go base n i a = true ∧ y a = true) : stp x y go base n = nI i := by
  have e : fa_first (fun k => dB (∃ j, j < 64 ∧ rch x go base n k j = true ∧ y j = true)) 64 = i := first_is (by omega) h1 (Or.inr (dB_t h2))
  unfold stp
  rw [e, if_pos hi]
theorem stp_no {x y : Nat → Bool} {go : Nat → Nat} {base n : Nat} (h1 : ∀ j, j < 64 → dB (∃ a, a < 64 ∧ rch x go base n j a = true ∧ y a = true) = false) : stp x y go base n = -6 := by
  have e : fa_first (fun k => dB (∃ j, j < 64 ∧ rch x go base n k j = true ∧ y j = true)) 64 = 64 := first_is (by omega) h1 (Or.inl rfl)
  unfold stp
  rw [e, if_neg (by omega)]
set_option maxHeartbeats 4000000 in
set_option maxRecDepth 100000 in
theorem c_at (l : Launch) (D : va_G) (cy : Nat → ClassId) (L : List Nat) (f : Nat → va_E) (sz : Nat) (a rw mc t per n : Nat) (b : Nat → Bool) (ht : t ≤ 120) (hper : 0 < per) (hper2 : per ≤ 60) (hn : n < 192) (h_a : cel L f a (.inr (3, [.int (nI t), .int (nI per), .ref rw, .ref mc]))) (h_rw : cel L f rw (.inl (cy 1, 3, .inr (.inl (wd b))))) : Met l yX3_at (.code yX3_at cX3_at 2 (Option.some FieldType.boolean) :: wsL_law) { frames := 1, cells := 0, slots := 0, locals := 22 } (va_Pc [.ref a, .int (nI n)] (PW D cy L f sz)) (vp_Si (fun r => r = b2i (b n))) 0 0 (fun _ => False) := by
  refine m_start (by decide) (Nat.le_of_ble_eq_true rfl) ?_
  intro p e R Q s m args below meth c ls hsz hR hQ E hr hlk hnm hw hl
  have hl : lv_has ls 2 [(0, .ref a), (1, .int (nI n))] := hl
  refine lv_aload_n E.1.1 E.1.2.1 dX3_at_0 rfl (lv_at hl 0 rfl) ?_
  refine k_get (v := .ref rw) E inlX3 rfl 2 (by decide) w1_219 rfl hw h_a rfl dX3_at_1 ?_
  refine lv_iload_n E.1.1 E.1.2.1 dX3_at_4 rfl (lv_at hl 1 rfl) ?_
  refine k_ri (va_runSN (As := [.ref rw, .int (nI n)]) (rest := []) E.1 (c_bitin l D cy L f s.heap.size rw n 3 b (by omega) (by omega) (by decide) h_rw) ⟨va_cnB 2 E.1.2.2.2.2 (gd_own w1_126) rfl rfl rfl (E.2.2.1 _ (List.mem_of_getElem? (i := 19) rfl)) (E.1.2.2.2.2 _ w1_1) hd_X5_bit (by rw [hR]; exact ⟨Nat.le_of_ble_eq_true rfl, Nat.le_of_ble_eq_true rfl⟩), E.1.2.2.2.2 _ w1_125, trivial⟩ (pw_pre E.2 hw) rfl rfl hl.1 rfl (lv_room (Nat.le_of_ble_eq_true rfl)) dX3_at_5 ⟨Nat.zero_le _, Nat.zero_le _⟩) ?_
  exact k_zret E hQ hlk hr (rfl) dX3_at_8

set_option maxHeartbeats 4000000 in
set_option maxRecDepth 100000 in
theorem c_holds (l : Launch) (D : va_G) (cy : Nat → ClassId) (L : List Nat) (f : Nat → va_E) (sz : Nat) (a rw mc t per n : Nat) (b : Nat → Bool) (ht : t ≤ 120) (hper : 0 < per) (hper2 : per ≤ 60) (hn : n < 2147483648) (h_a : cel L f a (.inr (3, [.int (nI t), .int (nI per), .ref rw, .ref mc]))) (h_rw : cel L f rw (.inl (cy 1, 3, .inr (.inl (wd b))))) : Met l yX3_holds (.code yX3_holds cX3_holds 2 (Option.some FieldType.boolean) :: wsL_law) { frames := 2, cells := 0, slots := 0, locals := 43 } (va_Pc [.ref a, .int (nI n)] (PW D cy L f sz)) (vp_Si (fun r => r = b2i (den t per b n))) 0 0 (fun _ => False) := by
  refine m_start (by decide) (Nat.le_of_ble_eq_true rfl) ?_
  intro p e R Q s m args below meth c ls hsz hR hQ E hr hlk hnm hw hl
  have hl : lv_has ls 2 [(0, .ref a), (1, .int (nI n))] := hl
  refine lv_aload_n E.1.1 E.1.2.1 dX3_holds_0 rfl (lv_at hl 0 rfl) ?_
  refine lv_iload_n E.1.1 E.1.2.1 dX3_holds_1 rfl (lv_at hl 1 rfl) ?_
  refine lv_aload_n E.1.1 E.1.2.1 dX3_holds_2 rfl (lv_at hl 0 rfl) ?_
  refine k_get (v := .int (nI t)) E inlX3 rfl 0 (by decide) w1_215 rfl hw h_a rfl dX3_holds_3 ?_
  refine lv_aload_n E.1.1 E.1.2.1 dX3_holds_6 rfl (lv_at hl 0 rfl) ?_
  refine k_get (v := .int (nI per)) E inlX3 rfl 1 (by decide) w1_217 rfl hw h_a rfl dX3_holds_7 ?_
  have hf := fold_lt (t := t) (p := per) (n := n) hper
  refine k_ri (va_runSN (As := [.int (nI n), .int (nI t), .int (nI per)]) (rest := [.ref a]) E.1 (c_folded l D cy L f s.heap.size n t per hper (by omega) (by omega)) ⟨va_cnB 3 E.1.2.2.2.2 (gd_own w1_155) rfl rfl rfl (E.2.2.1 _ (List.mem_of_getElem? (i := 20) rfl)) (E.1.2.2.2.2 _ w1_1) hd_X5_folded (by rw [hR]; exact ⟨Nat.le_of_ble_eq_true rfl, Nat.le_of_ble_eq_true rfl⟩), E.1.2.2.2.2 _ w1_154, trivial⟩ (pw_pre E.2 hw) rfl rfl hl.1 rfl (lv_room (Nat.le_of_ble_eq_true rfl)) dX3_holds_10 ⟨Nat.zero_le _, Nat.zero_le _⟩) ?_
  refine k_ri (va_runV (As := [.int (nI (fold t per n))]) (rest := []) E.1 (c_at l D cy L f s.heap.size a rw mc t per (fold t per n) b ht hper hper2 (by omega) h_a h_rw) ⟨callB_of 1 E.1.2.2.2.2 (gd_own w2_53) rfl rfl rfl (E.1.2.2.2.2 _ w1_8) (E.1.2.2.2.2 _ w2_83) hd_X3_at (by rw [hR]; exact ⟨Nat.le_of_ble_eq_true rfl, Nat.le_of_ble_eq_true rfl⟩), E.1.2.2.2.2 _ w2_51, E.1.2.2.2.2 _ w2_52⟩ (pw_preV (q := (RX3, TX3, 4)) E.2 hw h_a rfl) rfl rfl hl.1 rfl (lv_room (Nat.le_of_ble_eq_true rfl)) dX3_holds_13 ⟨Nat.zero_le _, Nat.zero_le _⟩) ?_
  exact k_zret E hQ hlk hr (rfl) dX3_holds_16

set_option maxHeartbeats 4000000 in
set_option maxRecDepth 100000 in
theorem c_placeAfter (l : Launch) (D : va_G) (cy : Nat → ClassId) (L : List Nat) (f : Nat → va_E) (sz : Nat) (a rw mc t per n : Nat) (b : Nat → Bool) (ht : t ≤ 120) (hper : 0 < per) (hper2 : per ≤ 60) (hn : n < 192) (h_a : cel L f a (.inr (3, [.int (nI t), .int (nI per), .ref rw, .ref mc]))) : Met l yX3_placeAfter (.code yX3_placeAfter cX3_placeAfter 2 (Option.some FieldType.int) :: wsL_law) { frames := 0, cells := 0, slots := 0, locals := 0 } (va_Pc [.ref a, .int (nI n)] (PW D cy L f sz)) (vp_Si (fun r => r = nI (if n + 1 < t + per then n + 1 else t))) 0 0 (fun _ => False) := by
  refine m_start (by decide) (Nat.le_of_ble_eq_true rfl) ?_
  intro p e R Q s m args below meth c ls hsz hR hQ E hr hlk hnm hw hl
  have hl : lv_has ls 2 [(0, .ref a), (1, .int (nI n))] := hl
  refine lv_iload_n E.1.1 E.1.2.1 dX3_placeAfter_0 rfl (lv_at hl 1 rfl) ?_
  refine lv_iconst (v := nI 1) E.1.1 E.1.2.1 dX3_placeAfter_1 rfl ?_
  refine k_add E dX3_placeAfter_2 ?_
  refine lv_aload_n E.1.1 E.1.2.1 dX3_placeAfter_3 rfl (lv_at hl 0 rfl) ?_
  refine k_get (v := .int (nI t)) E inlX3 rfl 0 (by decide) w1_215 rfl hw h_a rfl dX3_placeAfter_4 ?_
  refine lv_aload_n E.1.1 E.1.2.1 dX3_placeAfter_7 rfl (lv_at hl 0 rfl) ?_
  refine k_get (v := .int (nI per)) E inlX3 rfl 1 (by decide) w1_217 rfl hw h_a rfl dX3_placeAfter_8 ?_
  refine k_add E dX3_placeAfter_11 ?_
  refine k_ge (tgt := 21) E dX3_placeAfter_12 (by decide) (by omega) (by omega) (fun c12 => ?_) (fun c12 => ?_)
  · refine lv_aload_n E.1.1 E.1.2.1 dX3_placeAfter_21 rfl (lv_at hl 0 rfl) ?_
    refine k_get (v := .int (nI t)) E inlX3 rfl 0 (by decide) w1_215 rfl hw h_a rfl dX3_placeAfter_22 ?_
    exact k_iret E hQ hlk hr (by rw [if_neg (by omega)]) dX3_placeAfter_25
  · refine lv_iload_n E.1.1 E.1.2.1 dX3_placeAfter_15 rfl (lv_at hl 1 rfl) ?_
    refine lv_iconst (v := nI 1) E.1.1 E.1.2.1 dX3_placeAfter_16 rfl ?_
    refine k_add E dX3_placeAfter_17 ?_
    refine lv_goto (tgt := 25) E.1.1 E.1.2.1 dX3_placeAfter_18 (by decide) ?_
    exact k_iret E hQ hlk hr (by rw [if_pos c12]) dX3_placeAfter_25

set_option maxHeartbeats 4000000 in
set_option maxRecDepth 100000 in
theorem c_leastFrom (l : Launch) (D : va_G) (cy : Nat → ClassId) (L : List Nat) (f : Nat → va_E) (sz : Nat) (a rw mc t per n : Nat) (b : Nat → Bool) (ht : t ≤ 120) (hper : 0 < per) (hper2 : per ≤ 60) (hn : n ≤ 1000000000) (h_a : cel L f a (.inr (3, [.int (nI t), .int (nI per), .ref rw, .ref mc]))) (h_rw : cel L f rw (.inl (cy 1, 3, .inr (.inl (wd b))))) : Met l yX3_leastFrom (.code yX3_leastFrom cX3_leastFrom 3 (Option.some FieldType.int) :: wsL_law) { frames := 3, cells := 0, slots := 0, locals := 64 } (va_Pc [.ref a, .int (nI n)] (PW D cy L f sz)) (vp_Si (fun r => r = lfrom (den t per b) (t + per) n)) 0 0 (fun _ => False) := by
  refine m_start (by decide) (Nat.le_of_ble_eq_true rfl) ?_
  intro p e R Q s m args below meth c ls hsz hR hQ E hr hlk hnm hw hl
  have hl : lv_has ls 3 [(0, .ref a), (1, .int (nI n))] := hl
  refine lv_iconst (v := nI 0) E.1.1 E.1.2.1 dX3_leastFrom_0 rfl ?_
  refine lv_istore_n (lv' := [(2, .int (nI 0)), (0, .ref a), (1, .int (nI n))]) E.1.1 E.1.2.1 dX3_leastFrom_1 rfl hl (by decide) rfl (fun ls hl => ?_)
  have lp2 : ∀ (k : Nat) (i : Nat) (ls : Array Slot), (t + per - i < k) → (i ≤ t + per) → (∀ j, j < i → den t per b (n + j) = false) → (lv_has ls 3 [(2, .int (nI i)), (0, .ref a), (1, .int (nI n))]) → W p l e R s m args below meth c s.heap [] 0 0 Q (F0 m 2 ls []) := by
    intro k
    induction k with
    | zero => intro _ _ hk; exact absurd hk (Nat.not_lt_zero _)
    | succ k ih2 =>
      intro i  ls hk hi hg hl
      refine lv_iload_n E.1.1 E.1.2.1 dX3_leastFrom_2 rfl (lv_at hl 0 rfl) ?_
      refine lv_aload_n E.1.1 E.1.2.1 dX3_leastFrom_3 rfl (lv_at hl 1 rfl) ?_
      refine k_get (v := .int (nI t)) E inlX3 rfl 0 (by decide) w1_215 rfl hw h_a rfl dX3_leastFrom_4 ?_
      refine lv_aload_n E.1.1 E.1.2.1 dX3_leastFrom_7 rfl (lv_at hl 1 rfl) ?_
      refine k_get (v := .int (nI per)) E inlX3 rfl 1 (by decide) w1_217 rfl hw h_a rfl dX3_leastFrom_8 ?_
      refine k_add E dX3_leastFrom_11 ?_
      refine k_ge (tgt := 35) E dX3_leastFrom_12 (by decide) (by omega) (by omega) (fun c12 => ?_) (fun c12 => ?_)
      · refine lv_bipush (v := -6) E.1.1 E.1.2.1 dX3_leastFrom_35 rfl ?_
        exact k_iret E hQ hlk hr (by rw [lfrom_no (fun j hj => hg j (by omega))]) dX3_leastFrom_37
      · refine lv_aload_n E.1.1 E.1.2.1 dX3_leastFrom_15 rfl (lv_at hl 1 rfl) ?_
        refine lv_iload_n E.1.1 E.1.2.1 dX3_leastFrom_16 rfl (lv_at hl 2 rfl) ?_
        refine lv_iload_n E.1.1 E.1.2.1 dX3_leastFrom_17 rfl (lv_at hl 0 rfl) ?_
        refine k_add E dX3_leastFrom_18 ?_
        refine k_ri (va_runV (As := [.int (nI (n + i))]) (rest := []) E.1 (c_holds l D cy L f s.heap.size a rw mc t per (n + i) b ht hper hper2 (by omega) h_a h_rw) ⟨callB_of 1 E.1.2.2.2.2 (gd_own w2_81) rfl rfl rfl (E.1.2.2.2.2 _ w1_8) (E.1.2.2.2.2 _ w2_163) hd_X3_holds (by rw [hR]; exact ⟨Nat.le_of_ble_eq_true rfl, Nat.le_of_ble_eq_true rfl⟩), E.1.2.2.2.2 _ w2_79, E.1.2.2.2.2 _ w2_80⟩ (pw_preV (q := (RX3, TX3, 4)) E.2 hw h_a rfl) rfl rfl hl.1 rfl (lv_room (Nat.le_of_ble_eq_true rfl)) dX3_leastFrom_19 ⟨Nat.zero_le _, Nat.zero_le _⟩) ?_
        refine k_if0 (tgt := 29) E dX3_leastFrom_22 (by decide) (fun c22 => ?_) (fun c22 => ?_)
        · refine lv_iinc (v := nI (i + 1)) (lv' := [(2, .int (nI (i + 1))), (0, .ref a), (1, .int (nI n))]) E.1.1 E.1.2.1 dX3_leastFrom_29 hl (k := 0) rfl (nI_1 _) (by decide) rfl (fun ls hl => ?_)
          refine lv_goto (tgt := 2) E.1.1 E.1.2.1 dX3_leastFrom_32 (by decide) ?_
          exact ih2  (i + 1) ls (by omega) (by omega) (lt_s hg c22)  (lv_sub hl [0, 1, 2] rfl)
        · refine lv_iload_n E.1.1 E.1.2.1 dX3_leastFrom_25 rfl (lv_at hl 2 rfl) ?_
          refine lv_iload_n E.1.1 E.1.2.1 dX3_leastFrom_26 rfl (lv_at hl 0 rfl) ?_
          refine k_add E dX3_leastFrom_27 ?_
          exact k_iret E hQ hlk hr (by rw [lfrom_at hg c12 c22]) dX3_leastFrom_28
  exact lp2 (t + per - 0 + 1) 0 ls (Nat.lt_succ_self _) (by omega) (fun j hj => absurd hj (by omega))  (lv_sub hl [0, 1, 2] rfl)

set_option maxHeartbeats 4000000 in
set_option maxRecDepth 100000 in
theorem c_placesBefore (l : Launch) (D : va_G) (cy : Nat → ClassId) (L : List Nat) (f : Nat → va_E) (sz : Nat) (a rw mc t per x : Nat) (b : Nat → Bool) (ht : t ≤ 120) (hper : 0 < per) (hper2 : per ≤ 60) (hx : x ≤ t + per) (h_a : cel L f a (.inr (3, [.int (nI t), .int (nI per), .ref rw, .ref mc]))) (h_rw : cel L f rw (.inl (cy 1, 3, .inr (.inl (wd b))))) : Met l yX3_placesBefore (.code yX3_placesBefore cX3_placesBefore 4 (Option.some FieldType.int) :: wsL_law) { frames := 2, cells := 0, slots := 0, locals := 43 } (va_Pc [.ref a, .int (nI x)] (PW D cy L f sz)) (vp_Si (fun r => r = nI (fa_cnt b x))) 0 0 (fun _ => False) := by
  refine m_start (by decide) (Nat.le_of_ble_eq_true rfl) ?_
  intro p e R Q s m args below meth c ls hsz hR hQ E hr hlk hnm hw hl
  have hl : lv_has ls 4 [(0, .ref a), (1, .int (nI x))] := hl
  refine lv_iconst (v := nI 0) E.1.1 E.1.2.1 dX3_placesBefore_0 rfl ?_
  refine lv_istore_n (lv' := [(2, .int (nI 0)), (0, .ref a), (1, .int (nI x))]) E.1.1 E.1.2.1 dX3_placesBefore_1 rfl hl (by decide) rfl (fun ls hl => ?_)
  refine lv_iconst (v := nI 0) E.1.1 E.1.2.1 dX3_placesBefore_2 rfl ?_
  refine lv_istore_n (lv' := [(3, .int (nI 0)), (2, .int (nI 0)), (0, .ref a), (1, .int (nI x))]) E.1.1 E.1.2.1 dX3_placesBefore_3 rfl hl (by decide) rfl (fun ls hl => ?_)
  have lp4 : ∀ (k : Nat) (i : Nat) (ls : Array Slot), (x - i < k) → (i ≤ x) → (lv_has ls 4 [(3, .int (nI i)), (2, .int (nI (fa_cnt b i))), (0, .ref a), (1, .int (nI x))]) → W p l e R s m args below meth c s.heap [] 0 0 Q (F0 m 4 ls []) := by
    intro k
    induction k with
    | zero => intro _ _ hk; exact absurd hk (Nat.not_lt_zero _)
    | succ k ih4 =>
      intro i  ls hk hi hl
      refine lv_iload_n E.1.1 E.1.2.1 dX3_placesBefore_4 rfl (lv_at hl 0 rfl) ?_
      refine lv_iload_n E.1.1 E.1.2.1 dX3_placesBefore_5 rfl (lv_at hl 3 rfl) ?_
      refine k_ge (tgt := 39) E dX3_placesBefore_6 (by decide) (by omega) (by omega) (fun c6 => ?_) (fun c6 => ?_)
      · refine lv_iload_n E.1.1 E.1.2.1 dX3_placesBefore_39 rfl (lv_at hl 1 rfl) ?_
        exact k_iret E hQ hlk hr (by rw [show x = i by omega]) dX3_placesBefore_40
      · refine lv_iload_n E.1.1 E.1.2.1 dX3_placesBefore_9 rfl (lv_at hl 0 rfl) ?_
        refine lv_aload_n E.1.1 E.1.2.1 dX3_placesBefore_10 rfl (lv_at hl 2 rfl) ?_
        refine k_get (v := .int (nI t)) E inlX3 rfl 0 (by decide) w1_215 rfl hw h_a rfl dX3_placesBefore_11 ?_
        refine lv_aload_n E.1.1 E.1.2.1 dX3_placesBefore_14 rfl (lv_at hl 2 rfl) ?_
        refine k_get (v := .int (nI per)) E inlX3 rfl 1 (by decide) w1_217 rfl hw h_a rfl dX3_placesBefore_15 ?_
        refine k_add E dX3_placesBefore_18 ?_
        refine k_ge (tgt := 39) E dX3_placesBefore_19 (by decide) (by omega) (by omega) (fun c19 => absurd c19 (by omega)) (fun c19 => ?_)
        refine lv_aload_n E.1.1 E.1.2.1 dX3_placesBefore_22 rfl (lv_at hl 2 rfl) ?_
        refine lv_iload_n E.1.1 E.1.2.1 dX3_placesBefore_23 rfl (lv_at hl 0 rfl) ?_
        refine k_ri (va_runV (As := [.int (nI i)]) (rest := []) E.1 (c_at l D cy L f s.heap.size a rw mc t per i b ht hper hper2 (by omega) h_a h_rw) ⟨callB_of 1 E.1.2.2.2.2 (gd_own w2_53) rfl rfl rfl (E.1.2.2.2.2 _ w1_8) (E.1.2.2.2.2 _ w2_83) hd_X3_at (by rw [hR]; exact ⟨Nat.le_of_ble_eq_true rfl, Nat.le_of_ble_eq_true rfl⟩), E.1.2.2.2.2 _ w2_51, E.1.2.2.2.2 _ w2_52⟩ (pw_preV (q := (RX3, TX3, 4)) E.2 hw h_a rfl) rfl rfl hl.1 rfl (lv_room (Nat.le_of_ble_eq_true rfl)) dX3_placesBefore_24 ⟨Nat.zero_le _, Nat.zero_le _⟩) ?_
        refine k_if0 (tgt := 33) E dX3_placesBefore_27 (by decide) (fun c27 => ?_) (fun c27 => ?_)
        · refine lv_iinc (v := nI (i + 1)) (lv' := [(3, .int (nI (i + 1))), (2, .int (nI (fa_cnt b i))), (0, .ref a), (1, .int (nI x))]) E.1.1 E.1.2.1 dX3_placesBefore_33 hl (k := 0) rfl (nI_1 _) (by decide) rfl (fun ls hl => ?_)
          refine lv_goto (tgt := 4) E.1.1 E.1.2.1 dX3_placesBefore_36 (by decide) ?_
          rw [← fa_cnt_no c27] at hl
          exact ih4  (i + 1) ls (by omega) (by omega)  (lv_sub hl [0, 1, 2, 3] rfl)
        · refine lv_iinc (v := nI (fa_cnt b i + 1)) (lv' := [(2, .int (nI (fa_cnt b i + 1))), (3, .int (nI i)), (0, .ref a), (1, .int (nI x))]) E.1.1 E.1.2.1 dX3_placesBefore_30 hl (k := 1) rfl (nI_1 _) (by decide) rfl (fun ls hl => ?_)
          refine lv_iinc (v := nI (i + 1)) (lv' := [(3, .int (nI (i + 1))), (2, .int (nI (fa_cnt b i + 1))), (0, .ref a), (1, .int (nI x))]) E.1.1 E.1.2.1 dX3_placesBefore_33 hl (k := 1) rfl (nI_1 _) (by decide) rfl (fun ls hl => ?_)
          refine lv_goto (tgt := 4) E.1.1 E.1.2.1 dX3_placesBefore_36 (by decide) ?_
          rw [← fa_cnt_yes c27] at hl
          exact ih4  (i + 1) ls (by omega) (by omega)  (lv_sub hl [0, 1, 2, 3] rfl)
  exact lp4 (x - 0 + 1) 0 ls (Nat.lt_succ_self _) (by omega)  (lv_sub hl [0, 1, 2, 3] rfl)

set_option maxHeartbeats 4000000 in
set_option maxRecDepth 100000 in
theorem c_numbersBefore (l : Launch) (D : va_G) (cy : Nat → ClassId) (L : List Nat) (f : Nat → va_E) (sz : Nat) (a rw mc t per n : Nat) (b : Nat → Bool) (ht : t ≤ 120) (hper : 0 < per) (hper2 : per ≤ 60) (hn : n ≤ 1000000000) (h_a : cel L f a (.inr (3, [.int (nI t), .int (nI per), .ref rw, .ref mc]))) (h_rw : cel L f rw (.inl (cy 1, 3, .inr (.inl (wd b))))) : Met l yX3_numbersBefore (.code yX3_numbersBefore cX3_numbersBefore 4 (Option.some FieldType.int) :: wsL_law) { frames := 3, cells := 0, slots := 0, locals := 66 } (va_Pc [.ref a, .int (nI n)] (PW D cy L f sz)) (vp_Si (fun r => r = nI (fa_cnt (den t per b) n))) 0 0 (fun _ => False) := by
  refine m_start (by decide) (Nat.le_of_ble_eq_true rfl) ?_
  intro p e R Q s m args below meth c ls hsz hR hQ E hr hlk hnm hw hl
  have hl : lv_has ls 4 [(0, .ref a), (1, .int (nI n))] := hl
  refine lv_iload_n E.1.1 E.1.2.1 dX3_numbersBefore_0 rfl (lv_at hl 1 rfl) ?_
  refine lv_aload_n E.1.1 E.1.2.1 dX3_numbersBefore_1 rfl (lv_at hl 0 rfl) ?_
  refine k_get (v := .int (nI t)) E inlX3 rfl 0 (by decide) w1_215 rfl hw h_a rfl dX3_numbersBefore_2 ?_
  refine lv_aload_n E.1.1 E.1.2.1 dX3_numbersBefore_5 rfl (lv_at hl 0 rfl) ?_
  refine k_get (v := .int (nI per)) E inlX3 rfl 1 (by decide) w1_217 rfl hw h_a rfl dX3_numbersBefore_6 ?_
  refine k_add E dX3_numbersBefore_9 ?_
  refine k_le (tgt := 21) E dX3_numbersBefore_10 (by decide) (by omega) (by omega) (fun c10 => ?_) (fun c10 => ?_)
  · refine lv_aload_n E.1.1 E.1.2.1 dX3_numbersBefore_21 rfl (lv_at hl 0 rfl) ?_
    refine lv_iload_n E.1.1 E.1.2.1 dX3_numbersBefore_22 rfl (lv_at hl 1 rfl) ?_
    refine k_ri (va_runV (As := [.int (nI n)]) (rest := []) E.1 (c_placesBefore l D cy L f s.heap.size a rw mc t per (n) b ht hper hper2 (by omega) h_a h_rw) ⟨callB_of 1 E.1.2.2.2.2 (gd_own w2_117) rfl rfl rfl (E.1.2.2.2.2 _ w1_8) (E.1.2.2.2.2 _ w2_114) hd_X3_placesBefore (by rw [hR]; exact ⟨Nat.le_of_ble_eq_true rfl, Nat.le_of_ble_eq_true rfl⟩), E.1.2.2.2.2 _ w2_116, E.1.2.2.2.2 _ ws_17⟩ (pw_preV (q := (RX3, TX3, 4)) E.2 hw h_a rfl) rfl rfl hl.1 rfl (lv_room (Nat.le_of_ble_eq_true rfl)) dX3_numbersBefore_23 ⟨Nat.zero_le _, Nat.zero_le _⟩) ?_
    exact k_iret E hQ hlk hr (by rw [cnt_den b c10]) dX3_numbersBefore_26
  · refine lv_aload_n E.1.1 E.1.2.1 dX3_numbersBefore_13 rfl (lv_at hl 0 rfl) ?_
    refine k_get (v := .int (nI per)) E inlX3 rfl 1 (by decide) w1_217 rfl hw h_a rfl dX3_numbersBefore_14 ?_
    refine lv_iconst (v := nI 1) E.1.1 E.1.2.1 dX3_numbersBefore_17 rfl ?_
    refine k_ge (tgt := 27) E dX3_numbersBefore_18 (by decide) (by omega) (by omega) (fun c18 => ?_) (fun c18 => absurd c18 (by omega))
    refine lv_aload_n E.1.1 E.1.2.1 dX3_numbersBefore_27 rfl (lv_at hl 0 rfl) ?_
    refine lv_aload_n E.1.1 E.1.2.1 dX3_numbersBefore_28 rfl (lv_at hl 0 rfl) ?_
    refine k_get (v := .int (nI t)) E inlX3 rfl 0 (by decide) w1_215 rfl hw h_a rfl dX3_numbersBefore_29 ?_
    refine lv_aload_n E.1.1 E.1.2.1 dX3_numbersBefore_32 rfl (lv_at hl 0 rfl) ?_
    refine k_get (v := .int (nI per)) E inlX3 rfl 1 (by decide) w1_217 rfl hw h_a rfl dX3_numbersBefore_33 ?_
    refine k_add E dX3_numbersBefore_36 ?_
    refine k_ri (va_runV (As := [.int (nI (t + per))]) (rest := []) E.1 (c_placesBefore l D cy L f s.heap.size a rw mc t per (t + per) b ht hper hper2 (by omega) h_a h_rw) ⟨callB_of 1 E.1.2.2.2.2 (gd_own w2_117) rfl rfl rfl (E.1.2.2.2.2 _ w1_8) (E.1.2.2.2.2 _ w2_114) hd_X3_placesBefore (by rw [hR]; exact ⟨Nat.le_of_ble_eq_true rfl, Nat.le_of_ble_eq_true rfl⟩), E.1.2.2.2.2 _ w2_116, E.1.2.2.2.2 _ ws_17⟩ (pw_preV (q := (RX3, TX3, 4)) E.2 hw h_a rfl) rfl rfl hl.1 rfl (lv_room (Nat.le_of_ble_eq_true rfl)) dX3_numbersBefore_37 ⟨Nat.zero_le _, Nat.zero_le _⟩) ?_
    refine lv_aload_n E.1.1 E.1.2.1 dX3_numbersBefore_40 rfl (lv_at hl 0 rfl) ?_
    refine lv_aload_n E.1.1 E.1.2.1 dX3_numbersBefore_41 rfl (lv_at hl 0 rfl) ?_
    refine k_get (v := .int (nI t)) E inlX3 rfl 0 (by decide) w1_215 rfl hw h_a rfl dX3_numbersBefore_42 ?_
    refine k_ri (va_runV (As := [.int (nI t)]) (rest := [.int (nI (fa_cnt b (t + per)))]) E.1 (c_placesBefore l D cy L f s.heap.size a rw mc t per (t) b ht hper hper2 (by omega) h_a h_rw) ⟨callB_of 1 E.1.2.2.2.2 (gd_own w2_117) rfl rfl rfl (E.1.2.2.2.2 _ w1_8) (E.1.2.2.2.2 _ w2_114) hd_X3_placesBefore (by rw [hR]; exact ⟨Nat.le_of_ble_eq_true rfl, Nat.le_of_ble_eq_true rfl⟩), E.1.2.2.2.2 _ w2_116, E.1.2.2.2.2 _ ws_17⟩ (pw_preV (q := (RX3, TX3, 4)) E.2 hw h_a rfl) rfl rfl hl.1 rfl (lv_room (Nat.le_of_ble_eq_true rfl)) dX3_numbersBefore_45 ⟨Nat.zero_le _, Nat.zero_le _⟩) ?_
    have hmn := cnt_mono b (show t ≤ t + per by omega)
    refine k_sub E dX3_numbersBefore_48 (by omega) ?_
    refine lv_istore_n (lv' := [(2, .int (nI ((fa_cnt b (t + per)) - (fa_cnt b (t))))), (0, .ref a), (1, .int (nI n))]) E.1.1 E.1.2.1 dX3_numbersBefore_49 rfl hl (by decide) rfl (fun ls hl => ?_)
    refine lv_iload_n E.1.1 E.1.2.1 dX3_numbersBefore_50 rfl (lv_at hl 2 rfl) ?_
    refine lv_aload_n E.1.1 E.1.2.1 dX3_numbersBefore_51 rfl (lv_at hl 1 rfl) ?_
    refine k_get (v := .int (nI t)) E inlX3 rfl 0 (by decide) w1_215 rfl hw h_a rfl dX3_numbersBefore_52 ?_
    refine k_sub E dX3_numbersBefore_55 (by omega) ?_
    refine lv_aload_n E.1.1 E.1.2.1 dX3_numbersBefore_56 rfl (lv_at hl 1 rfl) ?_
    refine k_get (v := .int (nI per)) E inlX3 rfl 1 (by decide) w1_217 rfl hw h_a rfl dX3_numbersBefore_57 ?_
    refine k_div E dX3_numbersBefore_60 (by omega) (by omega) (by omega) ?_
    refine lv_istore_n (lv' := [(3, .int (nI ((n - t) / per))), (2, .int (nI ((fa_cnt b (t + per)) - (fa_cnt b (t))))), (0, .ref a), (1, .int (nI n))]) E.1.1 E.1.2.1 dX3_numbersBefore_61 rfl hl (by decide) rfl (fun ls hl => ?_)
    refine lv_aload_n E.1.1 E.1.2.1 dX3_numbersBefore_62 rfl (lv_at hl 2 rfl) ?_
    refine lv_aload_n E.1.1 E.1.2.1 dX3_numbersBefore_63 rfl (lv_at hl 2 rfl) ?_
    refine k_get (v := .int (nI t)) E inlX3 rfl 0 (by decide) w1_215 rfl hw h_a rfl dX3_numbersBefore_64 ?_
    refine lv_iload_n E.1.1 E.1.2.1 dX3_numbersBefore_67 rfl (lv_at hl 3 rfl) ?_
    refine lv_aload_n E.1.1 E.1.2.1 dX3_numbersBefore_68 rfl (lv_at hl 2 rfl) ?_
    refine k_get (v := .int (nI t)) E inlX3 rfl 0 (by decide) w1_215 rfl hw h_a rfl dX3_numbersBefore_69 ?_
    refine k_sub E dX3_numbersBefore_72 (by omega) ?_
    refine lv_aload_n E.1.1 E.1.2.1 dX3_numbersBefore_73 rfl (lv_at hl 2 rfl) ?_
    refine k_get (v := .int (nI per)) E inlX3 rfl 1 (by decide) w1_217 rfl hw h_a rfl dX3_numbersBefore_74 ?_
    refine k_rem E dX3_numbersBefore_77 (by omega) (by omega) (by omega) ?_
    refine k_add E dX3_numbersBefore_78 ?_
    have hmo := Nat.mod_lt (n - t) hper
    refine k_ri (va_runV (As := [.int (nI (t + ((n - t) % per)))]) (rest := []) E.1 (c_placesBefore l D cy L f s.heap.size a rw mc t per (t + ((n - t) % per)) b ht hper hper2 (by omega) h_a h_rw) ⟨callB_of 1 E.1.2.2.2.2 (gd_own w2_117) rfl rfl rfl (E.1.2.2.2.2 _ w1_8) (E.1.2.2.2.2 _ w2_114) hd_X3_placesBefore (by rw [hR]; exact ⟨Nat.le_of_ble_eq_true rfl, Nat.le_of_ble_eq_true rfl⟩), E.1.2.2.2.2 _ w2_116, E.1.2.2.2.2 _ ws_17⟩ (pw_preV (q := (RX3, TX3, 4)) E.2 hw h_a rfl) rfl rfl hl.1 rfl (lv_room (Nat.le_of_ble_eq_true rfl)) dX3_numbersBefore_79 ⟨Nat.zero_le _, Nat.zero_le _⟩) ?_
    refine lv_iload_n E.1.1 E.1.2.1 dX3_numbersBefore_82 rfl (lv_at hl 0 rfl) ?_
    refine lv_iload_n E.1.1 E.1.2.1 dX3_numbersBefore_83 rfl (lv_at hl 1 rfl) ?_
    refine k_mul E dX3_numbersBefore_84 ?_
    refine k_add E dX3_numbersBefore_85 ?_
    exact k_iret E hQ hlk hr (by rw [cnt_far hper (den_ev b hper) (show t ≤ n by omega), cnt_den b (by omega), cnt_den b (Nat.le_refl _), cnt_den b (by omega)]) dX3_numbersBefore_86

set_option maxHeartbeats 4000000 in
set_option maxRecDepth 100000 in
theorem c_sameAs (l : Launch) (D : va_G) (cy : Nat → ClassId) (L : List Nat) (f : Nat → va_E) (sz : Nat) (a rw mc t per a2 rw2 mc2 t2 per2 : Nat) (b b2 : Nat → Bool) (ht : t ≤ 120) (hper : 0 < per) (hperx : per ≤ 60) (ht2 : t2 ≤ 120) (hper2 : 0 < per2) (hper2x : per2 ≤ 60)  (h_a : cel L f a (.inr (3, [.int (nI t), .int (nI per), .ref rw, .ref mc]))) (h_rw : cel L f rw (.inl (cy 1, 3, .inr (.inl (wd b))))) (h_a2 : cel L f a2 (.inr (3, [.int (nI t2), .int (nI per2), .ref rw2, .ref mc2]))) (h_rw2 : cel L f rw2 (.inl (cy 1, 3, .inr (.inl (wd b2))))) : Met l yX3_sameAs (.code yX3_sameAs cX3_sameAs 3 (Option.some FieldType.boolean) :: wsL_law) { frames := 0, cells := 0, slots := 0, locals := 0 } (va_Pc [.ref a, .ref a2] (PW D cy L f sz)) (vp_Si (fun r => r = b2i (dB (t = t2 ∧ per = per2 ∧ SameR b b2)))) 0 0 (fun _ => False) := by
  refine m_start (by decide) (Nat.le_of_ble_eq_true rfl) ?_
  intro p e R Q s m args below meth c ls hsz hR hQ E hr hlk hnm hw hl
  have hl : lv_has ls 3 [(0, .ref a), (1, .ref a2)] := hl
  refine lv_aload_n E.1.1 E.1.2.1 dX3_sameAs_0 rfl (lv_at hl 0 rfl) ?_
  refine k_get (v := .int (nI t)) E inlX3 rfl 0 (by decide) w1_215 rfl hw h_a rfl dX3_sameAs_1 ?_
  refine lv_aload_n E.1.1 E.1.2.1 dX3_sameAs_4 rfl (lv_at hl 1 rfl) ?_
  refine k_get (v := .int (nI t2)) E inlX3 rfl 0 (by decide) w1_215 rfl hw h_a2 rfl dX3_sameAs_5 ?_
  refine k_ne (tgt := 22) E dX3_sameAs_8 (by decide) (by omega) (by omega) (fun c8 => ?_) (fun c8 => ?_)
  · refine lv_iconst (v := nI 0) E.1.1 E.1.2.1 dX3_sameAs_22 rfl ?_
    refine k_top E (b2i false) rfl ?_
    exact k_zret E hQ hlk hr (by rw [dB_f (fun h => c8 h.1)]) dX3_sameAs_23
  · refine lv_aload_n E.1.1 E.1.2.1 dX3_sameAs_11 rfl (lv_at hl 0 rfl) ?_
    refine k_get (v := .int (nI per)) E inlX3 rfl 1 (by decide) w1_217 rfl hw h_a rfl dX3_sameAs_12 ?_
    refine lv_aload_n E.1.1 E.1.2.1 dX3_sameAs_15 rfl (lv_at hl 1 rfl) ?_
    refine k_get (v := .int (nI per2)) E inlX3 rfl 1 (by decide) w1_217 rfl hw h_a2 rfl dX3_sameAs_16 ?_
    refine k_eq (tgt := 24) E dX3_sameAs_19 (by decide) (by omega) (by omega) (fun c19 => ?_) (fun c19 => ?_)
    · refine lv_iconst (v := nI 0) E.1.1 E.1.2.1 dX3_sameAs_24 rfl ?_
      refine lv_istore_n (lv' := [(2, .int (nI 0)), (0, .ref a), (1, .ref a2)]) E.1.1 E.1.2.1 dX3_sameAs_25 rfl hl (by decide) rfl (fun ls hl => ?_)
      have lp26 : ∀ (k : Nat) (i : Nat) (ls : Array Slot), (3 - i < k) → (i ≤ 3) → (∀ j, j < i → wd b j = wd b2 j) → (lv_has ls 3 [(2, .int (nI i)), (0, .ref a), (1, .ref a2)]) → W p l e R s m args below meth c s.heap [] 0 0 Q (F0 m 26 ls []) := by
        intro k
        induction k with
        | zero => intro _ _ hk; exact absurd hk (Nat.not_lt_zero _)
        | succ k ih26 =>
          intro i  ls hk hi hg hl
          refine lv_iload_n E.1.1 E.1.2.1 dX3_sameAs_26 rfl (lv_at hl 0 rfl) ?_
          refine lv_aload_n E.1.1 E.1.2.1 dX3_sameAs_27 rfl (lv_at hl 1 rfl) ?_
          refine k_get (v := .ref rw) E inlX3 rfl 2 (by decide) w1_219 rfl hw h_a rfl dX3_sameAs_28 ?_
          refine k_alen E hw 1 h_rw rfl (n := 3) rfl dX3_sameAs_31 ?_
          refine k_ge (tgt := 68) E dX3_sameAs_32 (by decide) (by omega) (by omega) (fun c32 => ?_) (fun c32 => ?_)
          · refine lv_iconst (v := nI 1) E.1.1 E.1.2.1 dX3_sameAs_68 rfl ?_
            refine k_top E (b2i true) rfl ?_
            exact k_zret E hQ hlk hr (by rw [dB_t ⟨c8, c19, same_wd.mp (fun j hj => hg j (by omega))⟩]) dX3_sameAs_69
          · refine lv_iload_n E.1.1 E.1.2.1 dX3_sameAs_35 rfl (lv_at hl 0 rfl) ?_
            refine lv_aload_n E.1.1 E.1.2.1 dX3_sameAs_36 rfl (lv_at hl 2 rfl) ?_
            refine k_get (v := .ref rw2) E inlX3 rfl 2 (by decide) w1_219 rfl hw h_a2 rfl dX3_sameAs_37 ?_
            refine k_alen E hw 1 h_rw2 rfl (n := 3) rfl dX3_sameAs_40 ?_
            refine k_ge (tgt := 68) E dX3_sameAs_41 (by decide) (by omega) (by omega) (fun c41 => absurd c41 (by omega)) (fun c41 => ?_)
            refine lv_aload_n E.1.1 E.1.2.1 dX3_sameAs_44 rfl (lv_at hl 1 rfl) ?_
            refine k_get (v := .ref rw) E inlX3 rfl 2 (by decide) w1_219 rfl hw h_a rfl dX3_sameAs_45 ?_
            refine lv_iload_n E.1.1 E.1.2.1 dX3_sameAs_48 rfl (lv_at hl 0 rfl) ?_
            refine k_lald E hw (v := (wd b) i) h_rw (by omega) (by omega) (rfl) dX3_sameAs_49 ?_
            refine lv_aload_n E.1.1 E.1.2.1 dX3_sameAs_50 rfl (lv_at hl 2 rfl) ?_
            refine k_get (v := .ref rw2) E inlX3 rfl 2 (by decide) w1_219 rfl hw h_a2 rfl dX3_sameAs_51 ?_
            refine lv_iload_n E.1.1 E.1.2.1 dX3_sameAs_54 rfl (lv_at hl 0 rfl) ?_
            refine k_lald E hw (v := (wd b2) i) h_rw2 (by omega) (by omega) (rfl) dX3_sameAs_55 ?_
            refine W.lcmp E.1.1 E.1.2.1 dX3_sameAs_56 ?_
            refine lv_if_eq (tgt := 62) E.1.1 E.1.2.1 dX3_sameAs_57 (by decide) (fun c57 => ?_) (fun c57 => ?_)
            · refine lv_iinc (v := nI (i + 1)) (lv' := [(2, .int (nI (i + 1))), (0, .ref a), (1, .ref a2)]) E.1.1 E.1.2.1 dX3_sameAs_62 hl (k := 0) rfl (nI_1 _) (by decide) rfl (fun ls hl => ?_)
              refine lv_goto (tgt := 26) E.1.1 E.1.2.1 dX3_sameAs_65 (by decide) ?_
              exact ih26  (i + 1) ls (by omega) (by omega) (lt_s hg ((lg_cmp_eq _ _).mp c57))  (lv_sub hl [0, 1, 2] rfl)
            · refine lv_iconst (v := nI 0) E.1.1 E.1.2.1 dX3_sameAs_60 rfl ?_
              refine k_top E (b2i false) rfl ?_
              exact k_zret E hQ hlk hr (by rw [dB_f (fun h => c57 ((lg_cmp_eq _ _).mpr (same_wd.mpr h.2.2 i (by omega))))]) dX3_sameAs_61
      exact lp26 (3 - 0 + 1) 0 ls (Nat.lt_succ_self _) (by omega) (fun j hj => absurd hj (by omega))  (lv_sub hl [0, 1, 2] rfl)
    · refine lv_iconst (v := nI 0) E.1.1 E.1.2.1 dX3_sameAs_22 rfl ?_
      refine k_top E (b2i false) rfl ?_
      exact k_zret E hQ hlk hr (by rw [dB_f (fun h => c19 h.2.1)]) dX3_sameAs_23

set_option maxHeartbeats 4000000 in
set_option maxRecDepth 100000 in
theorem c_after (l : Launch) (D : va_G) (cy : Nat → ClassId) (L : List Nat) (f : Nat → va_E) (sz : Nat) (mc gs base nf i dg : Nat) (go : Nat → Nat) (gd : Nat → Bool) (hnf : nf ≤ 64) (hbase : 1 < base) (hbase5 : base ≤ 5) (hi : i < nf) (hdg : dg < base) (h_mc : cel L f mc (.inr (2, [.int (nI base), .int (nI nf), .ref gs, .long (lN (bsum gd nf))]))) (h_gs : cel L f gs (.inl (cy 0, nf * base, .inl (fun k => nI (go k))))) : Met l yX2_after (.code yX2_after cX2_after 4 (Option.some FieldType.int) :: wsL_law) { frames := 0, cells := 0, slots := 0, locals := 0 } (va_Pc [.ref mc, .int (nI i), .int (nI dg)] (PW D cy L f sz)) (vp_Si (fun r => r = nI (go (i * base + dg)))) 0 0 (fun _ => False) := by
  refine m_start (by decide) (Nat.le_of_ble_eq_true rfl) ?_
  intro p e R Q s m args below meth c ls hsz hR hQ E hr hlk hnm hw hl
  have hl : lv_has ls 4 [(0, .ref mc), (1, .int (nI i)), (2, .int (nI dg))] := hl
  have hbb : nf * base ≤ 320 := by have := Nat.mul_le_mul hnf hbase5; omega
  have hix := ix3 (d := dg) hi hdg
  refine lv_iload_n E.1.1 E.1.2.1 dX2_after_0 rfl (lv_at hl 1 rfl) ?_
  refine lv_aload_n E.1.1 E.1.2.1 dX2_after_1 rfl (lv_at hl 0 rfl) ?_
  refine k_get (v := .int (nI base)) E inlX2 rfl 0 (by decide) w1_188 rfl hw h_mc rfl dX2_after_2 ?_
  refine k_mul E dX2_after_5 ?_
  refine lv_iload_n E.1.1 E.1.2.1 dX2_after_6 rfl (lv_at hl 2 rfl) ?_
  refine k_add E dX2_after_7 ?_
  refine lv_istore_n (lv' := [(3, .int (nI ((i * base) + dg))), (0, .ref mc), (1, .int (nI i)), (2, .int (nI dg))]) E.1.1 E.1.2.1 dX2_after_8 rfl hl (by decide) rfl (fun ls hl => ?_)
  refine lv_iload_n E.1.1 E.1.2.1 dX2_after_9 rfl (lv_at hl 0 rfl) ?_
  refine k_zlt (tgt := 31) E dX2_after_10 (by decide) (by omega) ?_
  refine lv_iload_n E.1.1 E.1.2.1 dX2_after_13 rfl (lv_at hl 0 rfl) ?_
  refine lv_aload_n E.1.1 E.1.2.1 dX2_after_14 rfl (lv_at hl 1 rfl) ?_
  refine k_get (v := .ref gs) E inlX2 rfl 2 (by decide) w1_191 rfl hw h_mc rfl dX2_after_15 ?_
  refine k_alen E hw 0 h_gs rfl (n := nf * base) rfl dX2_after_18 ?_
  refine k_ge (tgt := 31) E dX2_after_19 (by decide) (by omega) (by omega) (fun c19 => absurd c19 (by omega)) (fun c19 => ?_)
  refine lv_aload_n E.1.1 E.1.2.1 dX2_after_22 rfl (lv_at hl 1 rfl) ?_
  refine k_get (v := .ref gs) E inlX2 rfl 2 (by decide) w1_191 rfl hw h_mc rfl dX2_after_23 ?_
  refine lv_iload_n E.1.1 E.1.2.1 dX2_after_26 rfl (lv_at hl 0 rfl) ?_
  refine k_iald E hw (v := nI (go ((i * base) + dg))) h_gs (by omega) (by omega) (rfl) dX2_after_27 ?_
  refine lv_goto (tgt := 32) E.1.1 E.1.2.1 dX2_after_28 (by decide) ?_
  exact k_iret E hQ hlk hr (rfl) dX2_after_32

set_option maxHeartbeats 4000000 in
set_option maxRecDepth 100000 in
theorem c_isGood (l : Launch) (D : va_G) (cy : Nat → ClassId) (L : List Nat) (f : Nat → va_E) (sz : Nat) (mc gs base nf i : Nat) (go : Nat → Nat) (gd : Nat → Bool) (hnf : nf ≤ 64) (hbase : 1 < base) (hbase5 : base ≤ 5) (hi : i < nf) (h_mc : cel L f mc (.inr (2, [.int (nI base), .int (nI nf), .ref gs, .long (lN (bsum gd nf))]))) : Met l yX2_isGood (.code yX2_isGood cX2_isGood 2 (Option.some FieldType.boolean) :: wsL_law) { frames := 0, cells := 0, slots := 0, locals := 0 } (va_Pc [.ref mc, .int (nI i)] (PW D cy L f sz)) (vp_Si (fun r => r = b2i (gd i))) 0 0 (fun _ => False) := by
  refine m_start (by decide) (Nat.le_of_ble_eq_true rfl) ?_
  intro p e R Q s m args below meth c ls hsz hR hQ E hr hlk hnm hw hl
  have hl : lv_has ls 2 [(0, .ref mc), (1, .int (nI i))] := hl
  refine lv_aload_n E.1.1 E.1.2.1 dX2_isGood_0 rfl (lv_at hl 0 rfl) ?_
  refine k_get (v := .long (lN (bsum gd nf))) E inlX2 rfl 3 (by decide) w1_192 rfl hw h_mc rfl dX2_isGood_1 ?_
  refine lv_iload_n E.1.1 E.1.2.1 dX2_isGood_4 rfl (lv_at hl 1 rfl) ?_
  refine lv_lushr E.1.1 E.1.2.1 dX2_isGood_5 rfl ?_
  refine lv_lconst (v := 1) E.1.1 E.1.2.1 dX2_isGood_6 rfl ?_
  refine lv_land E.1.1 E.1.2.1 dX2_isGood_7 ?_
  refine lv_lconst (v := 0) E.1.1 E.1.2.1 dX2_isGood_8 rfl ?_
  refine W.lcmp E.1.1 E.1.2.1 dX2_isGood_9 ?_
  refine k_top E (b2i (gd i)) (gbit hnf hi) ?_
  refine k_if0 (tgt := 17) E dX2_isGood_10 (by decide) (fun c10 => ?_) (fun c10 => ?_)
  · refine lv_iconst (v := nI 0) E.1.1 E.1.2.1 dX2_isGood_17 rfl ?_
    refine k_top E (b2i false) rfl ?_
    exact k_zret E hQ hlk hr (by rw [c10]) dX2_isGood_18
  · refine lv_iconst (v := nI 1) E.1.1 E.1.2.1 dX2_isGood_13 rfl ?_
    refine lv_goto (tgt := 18) E.1.1 E.1.2.1 dX2_isGood_14 (by decide) ?_
    refine k_top E (b2i true) rfl ?_
    exact k_zret E hQ hlk hr (by rw [c10]) dX2_isGood_18

set_option maxHeartbeats 4000000 in
set_option maxRecDepth 100000 in
theorem c_read (l : Launch) (D : va_G) (cy : Nat → ClassId) (L : List Nat) (f : Nat → va_E) (sz : Nat) (mc gs base nf num n : Nat) (go : Nat → Nat) (gd : Nat → Bool) (hnf : nf ≤ 64) (hbase : 1 < base) (hbase5 : base ≤ 5) (hgo : ∀ k, k < nf * base → go k < nf) (h0 : 0 < nf) (hn : n ≤ 40) (hnum : num < 2147483648) (h_mc : cel L f mc (.inr (2, [.int (nI base), .int (nI nf), .ref gs, .long (lN (bsum gd nf))]))) (h_gs : cel L f gs (.inl (cy 0, nf * base, .inl (fun k => nI (go k))))) : Met l yX2_read (.code yX2_read cX2_read 6 (Option.some FieldType.int) :: wsL_law) { frames := 1, cells := 0, slots := 0, locals := 23 } (va_Pc [.ref mc, .int (nI num), .int (nI n)] (PW D cy L f sz)) (vp_Si (fun r => r = nI (wlk go base num n))) 0 0 (fun _ => False) := by
  refine m_start (by decide) (Nat.le_of_ble_eq_true rfl) ?_
  intro p e R Q s m args below meth c ls hsz hR hQ E hr hlk hnm hw hl
  have hl : lv_has ls 6 [(0, .ref mc), (1, .int (nI num)), (2, .int (nI n))] := hl
  refine lv_iconst (v := nI 0) E.1.1 E.1.2.1 dX2_read_0 rfl ?_
  refine lv_istore_n (lv' := [(3, .int (nI 0)), (0, .ref mc), (1, .int (nI num)), (2, .int (nI n))]) E.1.1 E.1.2.1 dX2_read_1 rfl hl (by decide) rfl (fun ls hl => ?_)
  refine lv_iload_n E.1.1 E.1.2.1 dX2_read_2 rfl (lv_at hl 2 rfl) ?_
  refine k_top E (nI (num / base ^ 0)) (by rw [Nat.pow_zero, Nat.div_one]) ?_
  refine lv_istore (lv' := [(4, .int (nI (num / base ^ 0))), (3, .int (nI 0)), (0, .ref mc), (1, .int (nI num)), (2, .int (nI n))]) E.1.1 E.1.2.1 dX2_read_3 hl (by decide) rfl (fun ls hl => ?_)
  refine lv_iconst (v := nI 0) E.1.1 E.1.2.1 dX2_read_5 rfl ?_
  refine lv_istore (lv' := [(5, .int (nI 0)), (4, .int (nI (num / base ^ 0))), (3, .int (nI 0)), (0, .ref mc), (1, .int (nI num)), (2, .int (nI n))]) E.1.1 E.1.2.1 dX2_read_6 hl (by decide) rfl (fun ls hl => ?_)
  have lp8 : ∀ (k : Nat) (i : Nat) (ls : Array Slot), (n - i < k) → (i ≤ n) → (wlk go base num i < nf) → (lv_has ls 6 [(5, .int (nI i)), (3, .int (nI (wlk go base num i))), (4, .int (nI (num / base ^ i))), (0, .ref mc), (1, .int (nI num)), (2, .int (nI n))]) → W p l e R s m args below meth c s.heap [] 0 0 Q (F0 m 8 ls []) := by
    intro k
    induction k with
    | zero => intro _ _ hk; exact absurd hk (Nat.not_lt_zero _)
    | succ k ih8 =>
      intro i  ls hk hi hw2 hl
      
      refine lv_iload E.1.1 E.1.2.1 dX2_read_8 (lv_at hl 0 rfl) ?_
      refine lv_iload_n E.1.1 E.1.2.1 dX2_read_10 rfl (lv_at hl 5 rfl) ?_
      refine k_ge (tgt := 50) E dX2_read_11 (by decide) (by omega) (by omega) (fun c11 => ?_) (fun c11 => ?_)
      · refine lv_iload_n E.1.1 E.1.2.1 dX2_read_50 rfl (lv_at hl 1 rfl) ?_
        exact k_iret E hQ hlk hr (by rw [show n = i by omega]) dX2_read_51
      · refine lv_aload_n E.1.1 E.1.2.1 dX2_read_14 rfl (lv_at hl 3 rfl) ?_
        refine k_get (v := .int (nI base)) E inlX2 rfl 0 (by decide) w1_188 rfl hw h_mc rfl dX2_read_15 ?_
        refine lv_iconst (v := nI 1) E.1.1 E.1.2.1 dX2_read_18 rfl ?_
        refine k_le (tgt := 50) E dX2_read_19 (by decide) (by omega) (by omega) (fun c19 => absurd c19 (by omega)) (fun c19 => ?_)
        have hdl := Nat.div_le_self num (base ^ i)
        have hdm := Nat.mod_lt (num / base ^ i) (show 0 < base by omega)
        refine lv_aload_n E.1.1 E.1.2.1 dX2_read_22 rfl (lv_at hl 3 rfl) ?_
        refine lv_iload_n E.1.1 E.1.2.1 dX2_read_23 rfl (lv_at hl 1 rfl) ?_
        refine lv_iload E.1.1 E.1.2.1 dX2_read_24 (lv_at hl 2 rfl) ?_
        refine lv_aload_n E.1.1 E.1.2.1 dX2_read_26 rfl (lv_at hl 3 rfl) ?_
        refine k_get (v := .int (nI base)) E inlX2 rfl 0 (by decide) w1_188 rfl hw h_mc rfl dX2_read_27 ?_
        refine k_rem E dX2_read_30 (by omega) (by omega) (by omega) ?_
        refine k_ri (va_runV (As := [.int (nI (wlk go base num i)), .int (nI ((num / base ^ i) % base))]) (rest := []) E.1 (c_after l D cy L f s.heap.size mc gs base nf (wlk go base num i) (num / base ^ i % base) go gd hnf hbase hbase5 hw2 hdm h_mc h_gs) ⟨callB_of 2 E.1.2.2.2.2 (gd_own w2_125) rfl rfl rfl (E.1.2.2.2.2 _ w1_9) (E.1.2.2.2.2 _ w2_141) hd_X2_after (by rw [hR]; exact ⟨Nat.le_of_ble_eq_true rfl, Nat.le_of_ble_eq_true rfl⟩), E.1.2.2.2.2 _ w2_123, E.1.2.2.2.2 _ w2_124⟩ (pw_preV (q := (RX2, TX2, 4)) E.2 hw h_mc rfl) rfl rfl hl.1 rfl (lv_room (Nat.le_of_ble_eq_true rfl)) dX2_read_31 ⟨Nat.zero_le _, Nat.zero_le _⟩) ?_
        refine lv_istore_n (lv' := [(3, .int (nI (go (wlk go base num i * base + num / base ^ i % base)))), (5, .int (nI i)), (4, .int (nI (num / base ^ i))), (0, .ref mc), (1, .int (nI num)), (2, .int (nI n))]) E.1.1 E.1.2.1 dX2_read_34 rfl hl (by decide) rfl (fun ls hl => ?_)
        refine lv_iload E.1.1 E.1.2.1 dX2_read_35 (lv_at hl 2 rfl) ?_
        refine lv_aload_n E.1.1 E.1.2.1 dX2_read_37 rfl (lv_at hl 3 rfl) ?_
        refine k_get (v := .int (nI base)) E inlX2 rfl 0 (by decide) w1_188 rfl hw h_mc rfl dX2_read_38 ?_
        refine k_div E dX2_read_41 (by omega) (by omega) (by omega) ?_
        refine lv_istore (lv' := [(4, .int (nI ((num / base ^ i) / base))), (3, .int (nI (go (wlk go base num i * base + num / base ^ i % base)))), (5, .int (nI i)), (0, .ref mc), (1, .int (nI num)), (2, .int (nI n))]) E.1.1 E.1.2.1 dX2_read_42 hl (by decide) rfl (fun ls hl => ?_)
        refine lv_iinc (v := nI (i + 1)) (lv' := [(5, .int (nI (i + 1))), (4, .int (nI ((num / base ^ i) / base))), (3, .int (nI (go (wlk go base num i * base + num / base ^ i % base)))), (0, .ref mc), (1, .int (nI num)), (2, .int (nI n))]) E.1.1 E.1.2.1 dX2_read_44 hl (k := 2) rfl (nI_1 _) (by decide) rfl (fun ls hl => ?_)
        refine lv_goto (tgt := 8) E.1.1 E.1.2.1 dX2_read_47 (by decide) ?_
        rw [Nat.div_div_eq_div_mul, ← Nat.pow_succ] at hl
        exact ih8  (i + 1) ls (by omega) (by omega) (hgo _ (ix3 hw2 hdm))  (lv_sub hl [0, 2, 1, 3, 4, 5] rfl)
  exact lp8 (n - 0 + 1) 0 ls (Nat.lt_succ_self _) (by omega) (h0)  (lv_sub hl [0, 2, 1, 3, 4, 5] rfl)

set_option maxHeartbeats 4000000 in
set_option maxRecDepth 100000 in
theorem c_afterAnyOf (l : Launch) (D : va_G) (cy : Nat → ClassId) (L : List Nat) (f : Nat → va_E) (sz : Nat) (mc gs base nf : Nat) (go : Nat → Nat) (gd : Nat → Bool) (hnf : nf ≤ 64) (hbase : 1 < base) (hbase5 : base ≤ 5) (hgo : ∀ k, k < nf * base → go k < nf) (x : Nat → Bool) (h_mc : cel L f mc (.inr (2, [.int (nI base), .int (nI nf), .ref gs, .long (lN (bsum gd nf))]))) (h_gs : cel L f gs (.inl (cy 0, nf * base, .inl (fun k => nI (go k))))) : Met l yX2_afterAnyOf (.code yX2_afterAnyOf cX2_afterAnyOf 7 (Option.some FieldType.long) :: wsL_law) { frames := 1, cells := 0, slots := 0, locals := 23 } (va_Pc [.ref mc, .long (lset x)] (PW D cy L f sz)) (vp_Sl (fun r => r = lset (acc x go base (nf * base)))) 0 0 (fun _ => False) := by
  refine m_start (by decide) (Nat.le_of_ble_eq_true rfl) ?_
  intro p e R Q s m args below meth c ls hsz hR hQ E hr hlk hnm hw hl
  have hl : lv_has ls 7 [(0, .ref mc), (1, .long (lset x))] := hl
  refine lv_lconst (v := 0) E.1.1 E.1.2.1 dX2_afterAnyOf_0 rfl ?_
  refine k_topl E (lset (acc x go base (0 * base))) (by rw [Nat.zero_mul, acc_0]; exact lset_0) ?_
  refine lv_lstore_n (lv' := [(3, .long (lset (acc x go base (0 * base)))), (0, .ref mc), (1, .long (lset x))]) E.1.1 E.1.2.1 dX2_afterAnyOf_1 rfl hl (by decide) rfl (fun ls hl => ?_)
  refine lv_iconst (v := nI 0) E.1.1 E.1.2.1 dX2_afterAnyOf_2 rfl ?_
  refine lv_istore (lv' := [(5, .int (nI 0)), (3, .long (lset (acc x go base (0 * base)))), (0, .ref mc), (1, .long (lset x))]) E.1.1 E.1.2.1 dX2_afterAnyOf_3 hl (by decide) rfl (fun ls hl => ?_)
  have lp5 : ∀ (k : Nat) (i : Nat) (ls : Array Slot), (nf - i < k) → (i ≤ nf) → (lv_has ls 7 [(5, .int (nI i)), (3, .long (lset (acc x go base (i * base)))), (0, .ref mc), (1, .long (lset x))]) → W p l e R s m args below meth c s.heap [] 0 0 Q (F0 m 5 ls []) := by
    intro k
    induction k with
    | zero => intro _ _ hk; exact absurd hk (Nat.not_lt_zero _)
    | succ k ih5 =>
      intro i  ls hk hi hl
      refine lv_iload E.1.1 E.1.2.1 dX2_afterAnyOf_5 (lv_at hl 0 rfl) ?_
      refine lv_aload_n E.1.1 E.1.2.1 dX2_afterAnyOf_7 rfl (lv_at hl 2 rfl) ?_
      refine k_get (v := .int (nI nf)) E inlX2 rfl 1 (by decide) w1_189 rfl hw h_mc rfl dX2_afterAnyOf_8 ?_
      refine k_ge (tgt := 62) E dX2_afterAnyOf_11 (by decide) (by omega) (by omega) (fun c11 => ?_) (fun c11 => ?_)
      · refine lv_lload_n E.1.1 E.1.2.1 dX2_afterAnyOf_62 rfl (lv_at hl 1 rfl) ?_
        exact k_lret E hQ hlk hr (by rw [show nf = i by omega]) dX2_afterAnyOf_63
      · refine lv_lload_n E.1.1 E.1.2.1 dX2_afterAnyOf_14 rfl (lv_at hl 3 rfl) ?_
        refine lv_iload E.1.1 E.1.2.1 dX2_afterAnyOf_15 (lv_at hl 0 rfl) ?_
        refine lv_lushr E.1.1 E.1.2.1 dX2_afterAnyOf_17 rfl ?_
        refine lv_lconst (v := 1) E.1.1 E.1.2.1 dX2_afterAnyOf_18 rfl ?_
        refine lv_land E.1.1 E.1.2.1 dX2_afterAnyOf_19 ?_
        refine lv_lconst (v := 0) E.1.1 E.1.2.1 dX2_afterAnyOf_20 rfl ?_
        refine W.lcmp E.1.1 E.1.2.1 dX2_afterAnyOf_21 ?_
        refine k_top E (b2i (x i)) (lset_bit (by omega)) ?_
        refine k_if0 (tgt := 56) E dX2_afterAnyOf_22 (by decide) (fun c22 => ?_) (fun c22 => ?_)
        · refine lv_iinc (v := nI (i + 1)) (lv' := [(5, .int (nI (i + 1))), (3, .long (lset (acc x go base (i * base)))), (0, .ref mc), (1, .long (lset x))]) E.1.1 E.1.2.1 dX2_afterAnyOf_56 hl (k := 0) rfl (nI_1 _) (by decide) rfl (fun ls hl => ?_)
          refine lv_goto (tgt := 5) E.1.1 E.1.2.1 dX2_afterAnyOf_59 (by decide) ?_
          rw [acc_skip (by omega) c22] at hl
          exact ih5  (i + 1) ls (by omega) (by omega)  (lv_sub hl [0, 1, 2, 3] rfl)
        · refine lv_iconst (v := nI 0) E.1.1 E.1.2.1 dX2_afterAnyOf_25 rfl ?_
          refine lv_istore (lv' := [(6, .int (nI 0)), (5, .int (nI i)), (3, .long (lset (acc x go base (i * base)))), (0, .ref mc), (1, .long (lset x))]) E.1.1 E.1.2.1 dX2_afterAnyOf_26 hl (by decide) rfl (fun ls hl => ?_)
          have lp28 : ∀ (k : Nat) (dg : Nat) (ls : Array Slot), (base - dg < k) → (dg ≤ base) → (lv_has ls 7 [(6, .int (nI dg)), (5, .int (nI i)), (3, .long (lset (acc x go base (i * base + dg)))), (0, .ref mc), (1, .long (lset x))]) → W p l e R s m args below meth c s.heap [] 0 0 Q (F0 m 28 ls []) := by
            intro k
            induction k with
            | zero => intro _ _ hk; exact absurd hk (Nat.not_lt_zero _)
            | succ k ih28 =>
              intro dg  ls hk hdg hl
              refine lv_iload E.1.1 E.1.2.1 dX2_afterAnyOf_28 (lv_at hl 0 rfl) ?_
              refine lv_aload_n E.1.1 E.1.2.1 dX2_afterAnyOf_30 rfl (lv_at hl 3 rfl) ?_
              refine k_get (v := .int (nI base)) E inlX2 rfl 0 (by decide) w1_188 rfl hw h_mc rfl dX2_afterAnyOf_31 ?_
              refine k_ge (tgt := 56) E dX2_afterAnyOf_34 (by decide) (by omega) (by omega) (fun c34 => ?_) (fun c34 => ?_)
              · refine lv_iinc (v := nI (i + 1)) (lv' := [(5, .int (nI (i + 1))), (6, .int (nI dg)), (3, .long (lset (acc x go base (i * base + dg)))), (0, .ref mc), (1, .long (lset x))]) E.1.1 E.1.2.1 dX2_afterAnyOf_56 hl (k := 1) rfl (nI_1 _) (by decide) rfl (fun ls hl => ?_)
                refine lv_goto (tgt := 5) E.1.1 E.1.2.1 dX2_afterAnyOf_59 (by decide) ?_
                rw [show i * base + dg = (i + 1) * base by rw [Nat.succ_mul, show dg = base by omega]] at hl
                exact ih5  (i + 1) ls (by omega) (by omega)  (lv_sub hl [0, 2, 3, 4] rfl)
              · have hgk := hgo _ (ix3 (d := dg) (show i < nf by omega) (by omega))
                refine lv_lload_n E.1.1 E.1.2.1 dX2_afterAnyOf_37 rfl (lv_at hl 2 rfl) ?_
                refine lv_lconst (v := 1) E.1.1 E.1.2.1 dX2_afterAnyOf_38 rfl ?_
                refine lv_aload_n E.1.1 E.1.2.1 dX2_afterAnyOf_39 rfl (lv_at hl 3 rfl) ?_
                refine lv_iload E.1.1 E.1.2.1 dX2_afterAnyOf_40 (lv_at hl 1 rfl) ?_
                refine lv_iload E.1.1 E.1.2.1 dX2_afterAnyOf_42 (lv_at hl 0 rfl) ?_
                refine k_ri (va_runV (As := [.int (nI i), .int (nI dg)]) (rest := [.long 1, .long (lset (acc x go base (i * base + dg)))]) E.1 (c_after l D cy L f s.heap.size mc gs base nf i dg go gd hnf hbase hbase5 (by omega) (by omega) h_mc h_gs) ⟨callB_of 2 E.1.2.2.2.2 (gd_own w2_125) rfl rfl rfl (E.1.2.2.2.2 _ w1_9) (E.1.2.2.2.2 _ w2_141) hd_X2_after (by rw [hR]; exact ⟨Nat.le_of_ble_eq_true rfl, Nat.le_of_ble_eq_true rfl⟩), E.1.2.2.2.2 _ w2_123, E.1.2.2.2.2 _ w2_124⟩ (pw_preV (q := (RX2, TX2, 4)) E.2 hw h_mc rfl) rfl rfl hl.1 rfl (lv_room (Nat.le_of_ble_eq_true rfl)) dX2_afterAnyOf_44 ⟨Nat.zero_le _, Nat.zero_le _⟩) ?_
                refine lv_lshl E.1.1 E.1.2.1 dX2_afterAnyOf_47 rfl ?_
                refine lv_lor E.1.1 E.1.2.1 dX2_afterAnyOf_48 ?_
                refine k_topl E (lset (acc x go base (i * base + dg + 1))) (by rw [lset_or1 (by omega), acc_s (by rw [ix1 (by omega)]; exact c22)]) ?_
                refine lv_lstore_n (lv' := [(3, .long (lset (acc x go base (i * base + dg + 1)))), (6, .int (nI dg)), (5, .int (nI i)), (0, .ref mc), (1, .long (lset x))]) E.1.1 E.1.2.1 dX2_afterAnyOf_49 rfl hl (by decide) rfl (fun ls hl => ?_)
                refine lv_iinc (v := nI (dg + 1)) (lv' := [(6, .int (nI (dg + 1))), (3, .long (lset (acc x go base (i * base + dg + 1)))), (5, .int (nI i)), (0, .ref mc), (1, .long (lset x))]) E.1.1 E.1.2.1 dX2_afterAnyOf_50 hl (k := 1) rfl (nI_1 _) (by decide) rfl (fun ls hl => ?_)
                refine lv_goto (tgt := 28) E.1.1 E.1.2.1 dX2_afterAnyOf_53 (by decide) ?_
                exact ih28  (dg + 1) ls (by omega) (by omega)  (lv_sub hl [0, 2, 1, 3, 4] rfl)
          exact lp28 (base - 0 + 1) 0 ls (Nat.lt_succ_self _) (by omega)  (lv_sub hl [0, 1, 2, 3, 4] rfl)
  exact lp5 (nf - 0 + 1) 0 ls (Nat.lt_succ_self _) (by omega)  (lv_sub hl [0, 1, 2, 3] rfl)

set_option maxHeartbeats 4000000 in
set_option maxRecDepth 100000 in
theorem c_steps (l : Launch) (D : va_G) (cy : Nat → ClassId) (L : List Nat) (f : Nat → va_E) (sz : Nat) (mc gs base nf : Nat) (go : Nat → Nat) (gd : Nat → Bool) (hnf : nf ≤ 64) (hbase : 1 < base) (hbase5 : base ≤ 5) (hgo : ∀ k, k < nf * base → go k < nf) (x y : Nat → Bool) (h_mc : cel L f mc (.inr (2, [.int (nI base), .int (nI nf), .ref gs, .long (lN (bsum gd nf))]))) (h_gs : cel L f gs (.inl (cy 0, nf * base, .inl (fun k => nI (go k))))) : Met l yX2_steps (.code yX2_steps cX2_steps 8 (Option.some FieldType.int) :: wsL_law) { frames := 2, cells := 0, slots := 0, locals := 49 } (va_Pc [.ref mc, .long (lset x), .long (lset y)] (PW D cy L f sz)) (vp_Si (fun r => r = stp x y go base nf)) 0 0 (fun _ => False) := by
  refine m_start (by decide) (Nat.le_of_ble_eq_true rfl) ?_
  intro p e R Q s m args below meth c ls hsz hR hQ E hr hlk hnm hw hl
  have hl : lv_has ls 8 [(0, .ref mc), (1, .long (lset x)), (3, .long (lset y))] := hl
  refine lv_lload_n E.1.1 E.1.2.1 dX2_steps_0 rfl (lv_at hl 1 rfl) ?_
  refine lv_lstore (lv' := [(5, .long (lset x)), (0, .ref mc), (1, .long (lset x)), (3, .long (lset y))]) E.1.1 E.1.2.1 dX2_steps_1 hl (by decide) rfl (fun ls hl => ?_)
  refine lv_iconst (v := nI 0) E.1.1 E.1.2.1 dX2_steps_3 rfl ?_
  refine lv_istore (lv' := [(7, .int (nI 0)), (5, .long (lset x)), (0, .ref mc), (1, .long (lset x)), (3, .long (lset y))]) E.1.1 E.1.2.1 dX2_steps_4 hl (by decide) rfl (fun ls hl => ?_)
  have lp6 : ∀ (k : Nat) (i : Nat) (ls : Array Slot), (64 - i < k) → (i ≤ 64) → (∀ j, j < i → dB (∃ a, a < 64 ∧ rch x go base nf j a = true ∧ y a = true) = false) → (lv_has ls 8 [(7, .int (nI i)), (5, .long (lset (rch x go base nf i))), (0, .ref mc), (1, .long (lset x)), (3, .long (lset y))]) → W p l e R s m args below meth c s.heap [] 0 0 Q (F0 m 6 ls []) := by
    intro k
    induction k with
    | zero => intro _ _ hk; exact absurd hk (Nat.not_lt_zero _)
    | succ k ih6 =>
      intro i  ls hk hi hg hl
      refine lv_iload E.1.1 E.1.2.1 dX2_steps_6 (lv_at hl 0 rfl) ?_
      refine lv_bipush (v := nI 64) E.1.1 E.1.2.1 dX2_steps_8 rfl ?_
      refine k_ge (tgt := 42) E dX2_steps_10 (by decide) (by omega) (by omega) (fun c10 => ?_) (fun c10 => ?_)
      · refine lv_bipush (v := -6) E.1.1 E.1.2.1 dX2_steps_42 rfl ?_
        exact k_iret E hQ hlk hr (by rw [stp_no (fun j hj => hg j (by omega))]) dX2_steps_44
      · refine lv_lload E.1.1 E.1.2.1 dX2_steps_13 (lv_at hl 1 rfl) ?_
        refine lv_lload_n E.1.1 E.1.2.1 dX2_steps_15 rfl (lv_at hl 4 rfl) ?_
        refine lv_land E.1.1 E.1.2.1 dX2_steps_16 ?_
        refine lv_lconst (v := 0) E.1.1 E.1.2.1 dX2_steps_17 rfl ?_
        refine W.lcmp E.1.1 E.1.2.1 dX2_steps_18 ?_
        refine lv_if_eq (tgt := 25) E.1.1 E.1.2.1 dX2_steps_19 (by decide) (fun c19 => ?_) (fun c19 => ?_)
        · refine lv_lload E.1.1 E.1.2.1 dX2_steps_25 (lv_at hl 1 rfl) ?_
          refine lv_aload_n E.1.1 E.1.2.1 dX2_steps_27 rfl (lv_at hl 2 rfl) ?_
          refine lv_lload E.1.1 E.1.2.1 dX2_steps_28 (lv_at hl 1 rfl) ?_
          refine k_rl (va_runV (As := [.long (lset (rch x go base nf i))]) (rest := [.long (lset (rch x go base nf i))]) E.1 (c_afterAnyOf l D cy L f s.heap.size mc gs base nf go gd hnf hbase hbase5 hgo (rch x go base nf i) h_mc h_gs) ⟨callB_of 1 E.1.2.2.2.2 (gd_own w2_140) rfl rfl rfl (E.1.2.2.2.2 _ w1_9) (E.1.2.2.2.2 _ w2_137) hd_X2_afterAnyOf (by rw [hR]; exact ⟨Nat.le_of_ble_eq_true rfl, Nat.le_of_ble_eq_true rfl⟩), E.1.2.2.2.2 _ w2_139, E.1.2.2.2.2 _ ws_18⟩ (pw_preV (q := (RX2, TX2, 4)) E.2 hw h_mc rfl) rfl rfl hl.1 rfl (lv_room (Nat.le_of_ble_eq_true rfl)) dX2_steps_30 ⟨Nat.zero_le _, Nat.zero_le _⟩) ?_
          refine lv_lor E.1.1 E.1.2.1 dX2_steps_33 ?_
          refine k_topl E (lset (fun j => rch x go base nf i j || acc (rch x go base nf i) go base (nf * base) j)) lset_or ?_
          refine lv_lstore (lv' := [(5, .long (lset (fun j => rch x go base nf i j || acc (rch x go base nf i) go base (nf * base) j))), (7, .int (nI i)), (0, .ref mc), (1, .long (lset x)), (3, .long (lset y))]) E.1.1 E.1.2.1 dX2_steps_34 hl (by decide) rfl (fun ls hl => ?_)
          refine lv_iinc (v := nI (i + 1)) (lv' := [(7, .int (nI (i + 1))), (5, .long (lset (fun j => rch x go base nf i j || acc (rch x go base nf i) go base (nf * base) j))), (0, .ref mc), (1, .long (lset x)), (3, .long (lset y))]) E.1.1 E.1.2.1 dX2_steps_36 hl (k := 1) rfl (nI_1 _) (by decide) rfl (fun ls hl => ?_)
          refine lv_goto (tgt := 6) E.1.1 E.1.2.1 dX2_steps_39 (by decide) ?_
          rw [show (fun j => rch x go base nf i j || acc (rch x go base nf i) go base (nf * base) j) = rch x go base nf (i + 1) from rfl] at hl
          exact ih6  (i + 1) ls (by omega) (by omega) (lt_s hg (dB_f (lset_cmp.mp c19)))  (lv_sub hl [0, 1, 2, 3, 4] rfl)
        · refine lv_iload E.1.1 E.1.2.1 dX2_steps_22 (lv_at hl 0 rfl) ?_
          exact k_iret E hQ hlk hr (by rw [stp_at hg c10 (Classical.not_not.mp (fun z => c19 (lset_cmp.mpr z)))]) dX2_steps_24
  exact lp6 (64 - 0 + 1) 0 ls (Nat.lt_succ_self _) (by omega) (fun j hj => absurd hj (by omega))  (lv_sub hl [0, 1, 2, 3, 4] rfl)

set_option maxHeartbeats 4000000 in
set_option maxRecDepth 100000 in
theorem c_leastCommon (l : Launch) (D : va_G) (cy : Nat → ClassId) (L : List Nat) (f : Nat → va_E) (sz : Nat) (x y : Nat) (hx : 0 < x) (hx2 : x ≤ 60) (hy : 0 < y) (hy2 : y ≤ 60) : Met l yX5_leastCommon (.code yX5_leastCommon cX5_leastCommon 3 (Option.some FieldType.int) :: wsL_law) { frames := 0, cells := 0, slots := 0, locals := 0 } (va_Pc [.int (nI x), .int (nI y)] (PW D cy L f sz)) (vp_Si (fun r => ∃ z, r = nI z ∧ 0 < z ∧ z ≤ 3600 ∧ x ∣ z ∧ y ∣ z)) 0 0 (fun _ => False) := by
  refine m_start (by decide) (Nat.le_of_ble_eq_true rfl) ?_
  intro p e R Q s m args below meth c ls hsz hR hQ E hr hlk hnm hw hl
  have hl : lv_has ls 3 [(0, .int (nI x)), (1, .int (nI y))] := hl
  refine lv_iload_n E.1.1 E.1.2.1 dX5_leastCommon_0 rfl (lv_at hl 0 rfl) ?_
  refine lv_iconst (v := nI 1) E.1.1 E.1.2.1 dX5_leastCommon_1 rfl ?_
  refine k_lt (tgt := 10) E dX5_leastCommon_2 (by decide) (by omega) (by omega) (fun c2 => absurd c2 (by omega)) (fun c2 => ?_)
  refine lv_iload_n E.1.1 E.1.2.1 dX5_leastCommon_5 rfl (lv_at hl 1 rfl) ?_
  refine lv_iconst (v := nI 1) E.1.1 E.1.2.1 dX5_leastCommon_6 rfl ?_
  refine k_ge (tgt := 12) E dX5_leastCommon_7 (by decide) (by omega) (by omega) (fun c7 => ?_) (fun c7 => absurd c7 (by omega))
  refine lv_iconst (v := nI 1) E.1.1 E.1.2.1 dX5_leastCommon_12 rfl ?_
  refine lv_istore_n (lv' := [(2, .int (nI 1)), (0, .int (nI x)), (1, .int (nI y))]) E.1.1 E.1.2.1 dX5_leastCommon_13 rfl hl (by decide) rfl (fun ls hl => ?_)
  have lp14 : ∀ (k : Nat) (i : Nat) (ls : Array Slot), (y - i < k) → (1 ≤ i) → (i ≤ y) → (lv_has ls 3 [(2, .int (nI i)), (0, .int (nI x)), (1, .int (nI y))]) → W p l e R s m args below meth c s.heap [] 0 0 Q (F0 m 14 ls []) := by
    intro k
    induction k with
    | zero => intro _ _ hk; exact absurd hk (Nat.not_lt_zero _)
    | succ k ih14 =>
      intro i  ls hk hi hi2 hl
      refine lv_iload_n E.1.1 E.1.2.1 dX5_leastCommon_14 rfl (lv_at hl 0 rfl) ?_
      refine lv_iload_n E.1.1 E.1.2.1 dX5_leastCommon_15 rfl (lv_at hl 2 rfl) ?_
      refine k_ge (tgt := 37) E dX5_leastCommon_16 (by decide) (by omega) (by omega) (fun c16 => ?_) (fun c16 => ?_)
      · have hxy : x * y ≤ 60 * 60 := Nat.mul_le_mul hx2 hy2
        have hxy0 : 0 < x * y := Nat.mul_pos hx hy
        refine lv_iload_n E.1.1 E.1.2.1 dX5_leastCommon_37 rfl (lv_at hl 1 rfl) ?_
        refine lv_iload_n E.1.1 E.1.2.1 dX5_leastCommon_38 rfl (lv_at hl 2 rfl) ?_
        refine k_mul E dX5_leastCommon_39 ?_
        exact k_iret E hQ hlk hr (⟨x * y, rfl, hxy0, by omega, Nat.dvd_mul_right x y, Nat.dvd_mul_left y x⟩) dX5_leastCommon_40
      · have hxi : x * i ≤ 60 * 60 := Nat.mul_le_mul hx2 (by omega)
        have hxi0 : 0 < x * i := Nat.mul_pos hx (by omega)
        have hmod := Nat.mod_lt (x * i) hy
        refine lv_iload_n E.1.1 E.1.2.1 dX5_leastCommon_19 rfl (lv_at hl 1 rfl) ?_
        refine lv_iload_n E.1.1 E.1.2.1 dX5_leastCommon_20 rfl (lv_at hl 0 rfl) ?_
        refine k_mul E dX5_leastCommon_21 ?_
        refine lv_iload_n E.1.1 E.1.2.1 dX5_leastCommon_22 rfl (lv_at hl 2 rfl) ?_
        refine k_rem E dX5_leastCommon_23 (by omega) (by omega) (by omega) ?_
        refine k_z1 (tgt := 31) E dX5_leastCommon_24 (by decide) (by omega) (fun c24 => ?_) (fun c24 => ?_)
        · refine lv_iinc (v := nI (i + 1)) (lv' := [(2, .int (nI (i + 1))), (0, .int (nI x)), (1, .int (nI y))]) E.1.1 E.1.2.1 dX5_leastCommon_31 hl (k := 0) rfl (nI_1 _) (by decide) rfl (fun ls hl => ?_)
          refine lv_goto (tgt := 14) E.1.1 E.1.2.1 dX5_leastCommon_34 (by decide) ?_
          exact ih14  (i + 1) ls (by omega) (by omega) (by omega)  (lv_sub hl [0, 1, 2] rfl)
        · refine lv_iload_n E.1.1 E.1.2.1 dX5_leastCommon_27 rfl (lv_at hl 1 rfl) ?_
          refine lv_iload_n E.1.1 E.1.2.1 dX5_leastCommon_28 rfl (lv_at hl 0 rfl) ?_
          refine k_mul E dX5_leastCommon_29 ?_
          exact k_iret E hQ hlk hr (⟨x * i, rfl, hxi0, by omega, Nat.dvd_mul_right x i, Nat.dvd_of_mod_eq_zero c24⟩) dX5_leastCommon_30
  exact lp14 (y - 1 + 1) 1 ls (Nat.lt_succ_self _) (by omega) (by omega)  (lv_sub hl [0, 1, 2] rfl)
end
section
theorem i32_le (a b : Int32) : a ≤ b ↔ a.toInt ≤ b.toInt := Int32.le_iff_toInt_le
theorem i32_lt (a b : Int32) : a < b ↔ a.toInt < b.toInt := Int32.lt_iff_toInt_lt
theorem nI_t {n : Nat} (h : n < 2147483648) : (nI n).toInt = (n : Int) := nI_toInt h
theorem in_of {x : Int32} {n : Nat} (hn : n < 2147483647) (h1 : ¬ x < 0) (h2 : ¬ nI (n + 1) ≤ x) : ∃ j, j ≤ n ∧ x = nI j := by
  rcases pk_ix x (n := n + 1) (by omega) with h | h | ⟨j, hj, e⟩
  · exact absurd h h1
  · exact absurd h h2
  · exact ⟨j, by omega, e⟩
theorem in_t {j n : Nat} (hn : n < 2147483648) (h : j ≤ n) : i32in (nI j) 0 (nI n) = true := by
  unfold i32in
  rw [decide_eq_true (nI_pos' (show j < 2 ^ 31 by omega)), decide_eq_true ((nI_leI (show j < 2 ^ 31 by omega) hn).mpr h)]
  rfl
theorem in_neg {x hi : Int32} (h : x < 0) : i32in x 0 hi = false := by
  unfold i32in
  rw [decide_eq_false (fun q : (0 : Int32) ≤ x => by rw [i32_le] at q; rw [i32_lt] at h; omega)]
  rfl
theorem in_big {x : Int32} {n : Nat} (hn : n < 2147483647) (h : nI (n + 1) ≤ x) : i32in x 0 (nI n) = false := by
  unfold i32in
  have h2 : ¬ x ≤ nI n := fun q => by
    rw [i32_le] at q h
    rw [nI_t (by omega)] at q h
    omega
  rw [decide_eq_false h2, Bool.and_false]
theorem in_ex {x : Int32} {n : Nat} (hn : n < 2147483647) (h : i32in x 0 (nI n) = true) : ∃ j, j ≤ n ∧ x = nI j := by
  unfold i32in at h
  rw [Bool.and_eq_true, decide_eq_true_eq, decide_eq_true_eq] at h
  refine in_of hn (fun q => ?_) (fun q => ?_)
  · have := h.1
    rw [i32_le] at this; rw [i32_lt] at q; omega
  · have := h.2
    rw [i32_le] at this q
    rw [nI_t (by omega)] at this q
    omega
theorem in_ex1 {x : Int32} {lo n : Nat} (hn : n < 2147483647) (h : i32in x (nI lo) (nI n) = true) (hlo : lo ≤ n) : ∃ j, lo ≤ j ∧ j ≤ n ∧ x = nI j := by
  unfold i32in at h
  rw [Bool.and_eq_true, decide_eq_true_eq, decide_eq_true_eq] at h
  have h1 := h.1
  have h2 := h.2
  rw [i32_le, nI_t (by omega)] at h1 h2
  obtain ⟨j, hj, rfl⟩ := in_of (x := x) hn (fun q => by rw [i32_lt] at q; have e0 : (0 : Int32).toInt = 0 := rfl; omega) (fun q => by rw [i32_le, nI_t (by omega)] at q; omega)
  rw [nI_t (by omega)] at h1
  exact ⟨j, by omega, hj, rfl⟩
theorem den_rb {X : Nat → Bool} {t per : Nat} (hp : 0 < per) (h : EvP X t per) : den t per (rb X (t + per)) = X := by
  funext n
  exact (ev_den hp h (fun n hn => by simp only [rb]; rw [if_pos hn]) n).symm
theorem rb_t {X : Nat → Bool} {i : Nat} (h : X i = true) : bset (rb X i) i true = rb X (i + 1) := by
  rw [← rb_s X i, h, Bool.or_true]
theorem rb_f {X : Nat → Bool} {i : Nat} (h : X i = false) : rb X i = rb X (i + 1) := by
  funext n
  simp only [rb]
  by_cases h1 : n < i
  · rw [if_pos h1, if_pos (by omega)]
  · by_cases h2 : n = i
    · rw [if_neg h1, if_pos (by omega), h2, h]
    · rw [if_neg h1, if_neg (by omega)]
theorem rb_none {X : Nat → Bool} {i : Nat} (h : ∀ n, n < i → X n = false) : (fun _ => false) = rb X i := by
  funext n
  simp only [rb]
  by_cases h1 : n < i
  · rw [if_pos h1, h n h1]
  · rw [if_neg h1]
/-- kinds of put -/
def kd (kind a m : Nat) : Nat → Bool := fun n => if kind = 0 then decide (n = a) else if kind = 1 then decide (a ≤ n) else if kind = 2 then decide (n % m = a % m) else decide (kind = 4)
theorem kd0_rb (a m : Nat) : bset (fun _ => false) a true = rb (kd 0 a m) (a + 1 + 1) := by
  funext n
  by_cases h : n = a
  · subst h
    rw [bset_same]
    simp only [rb]
    rw [if_pos (by omega)]
    simp [kd]
  · rw [bset_ne _ _ h]
    simp [rb, kd, h]
theorem kd0_ev (a m : Nat) : EvP (kd 0 a m) (a + 1) 1 := by
  intro n hn
  simp [kd, show ¬ n = a by omega, show ¬ n + 1 = a by omega]
theorem kd1_rb (a m : Nat) : bset (fun _ => false) a true = rb (kd 1 a m) (a + 1) := by
  funext n
  by_cases h : n = a
  · subst h
    rw [bset_same]
    simp [rb, kd]
  · rw [bset_ne _ _ h]
    simp only [rb, kd]
    by_cases h2 : n < a + 1
    · rw [if_pos h2]; simp; omega
    · rw [if_neg h2]
theorem kd1_ev (a m : Nat) : EvP (kd 1 a m) a 1 := by
  intro n hn
  simp [kd, hn, show a ≤ n + 1 by omega]
theorem kd2_rb (a : Nat) {m : Nat} (hm : 0 < m) : bset (fun _ => false) (a % m) true = rb (kd 2 a m) (0 + m) := by
  have hl := Nat.mod_lt a hm
  funext n
  by_cases h : n = a % m
  · subst h
    rw [bset_same]
    simp only [rb, kd]
    rw [if_pos (by omega)]
    simp
  · rw [bset_ne _ _ h]
    simp only [rb, kd]
    by_cases h2 : n < 0 + m
    · rw [if_pos h2, Nat.mod_eq_of_lt (show n < m by omega)]
      simp [h]
    · rw [if_neg h2]
theorem kd2_ev (a m : Nat) : EvP (kd 2 a m) 0 m := by
  intro n hn
  simp [kd]
theorem kd3_rb (a m : Nat) : (fun _ => false) = rb (kd 3 a m) (0 + 1) := rb_none (fun n _ => by simp [kd])
theorem kd4_rb (a m : Nat) : bset (fun _ => false) 0 true = rb (kd 4 a m) (0 + 1) := by
  funext n
  by_cases h : n = 0
  · subst h
    rw [bset_same]
    simp [rb, kd]
  · rw [bset_ne _ _ h]
    simp only [rb]
    rw [if_neg (by omega)]
theorem kd34_ev {k : Nat} (hk : k = 3 ∨ k = 4) (a m : Nat) : EvP (kd k a m) 0 1 := by
  intro n _
  rcases hk with rfl | rfl <;> simp [kd]
theorem jw_ev {S1 S2 : Nat → Bool} {t1 t2 p1 p2 z : Nat} (way : Nat) (h1 : EvP S1 t1 p1) (h2 : EvP S2 t2 p2) (d1 : p1 ∣ z) (d2 : p2 ∣ z) : EvP (fun n => jw way (S1 n) (S2 n)) (max t1 t2) z := by
  obtain ⟨k1, e1⟩ := d1
  obtain ⟨k2, e2⟩ := d2
  intro n hn
  have a1 := h1.mul k1 n (by omega)
  have a2 := h2.mul k2 n (by omega)
  rw [Nat.mul_comm k1 p1, ← e1] at a1
  rw [Nat.mul_comm k2 p2, ← e2] at a2
  show jw way (S1 n) (S2 n) = jw way (S1 (n + z)) (S2 (n + z))
  rw [← a1, ← a2]
theorem not_ev {S : Nat → Bool} {t q : Nat} (h : EvP S t q) : EvP (fun n => !S n) t q := fun n hn => by
  show (!S n) = !S (n + q)
  rw [h n hn]
def shU (S : Nat → Bool) (k : Nat) : Nat → Bool := fun n => decide (k ≤ n) && S (n - k)
theorem shU_ev {S : Nat → Bool} {t q k : Nat} (h : EvP S t q) : EvP (shU S k) (t + k) q := by
  intro n hn
  unfold shU
  rw [decide_eq_true (show k ≤ n by omega), decide_eq_true (show k ≤ n + q by omega), h (n - k) (by omega), show n - k + q = n + q - k by omega]
def shD (S : Nat → Bool) (k : Nat) : Nat → Bool := fun n => S (n + k)
theorem shD_ev {S : Nat → Bool} {t q k : Nat} (h : EvP S t q) : EvP (shD S k) (t - k) q := by
  intro n hn
  unfold shD
  rw [h (n + k) (by omega), show n + k + q = n + q + k by omega]
def stU (S : Nat → Bool) (c d : Nat) : Nat → Bool := fun n => decide (d ≤ n) && (decide ((n - d) % c = 0) && S ((n - d) / c))
theorem stU_at {S : Nat → Bool} {c d : Nat} (hc : 0 < c) (i : Nat) : stU S c d (c * i + d) = S i := by
  unfold stU
  rw [decide_eq_true (show d ≤ c * i + d by omega), show c * i + d - d = c * i by omega, Nat.mul_mod_right, Nat.mul_div_cancel_left i hc]
  simp
theorem stU_gap {S : Nat → Bool} {c d i n : Nat} (h1 : c * i + d < n) (h2 : n < c * (i + 1) + d) : stU S c d n = false := by
  unfold stU
  have hm : ¬ (n - d) % c = 0 := by
    intro h
    obtain ⟨k, e⟩ := Nat.dvd_of_mod_eq_zero h
    have h3 : c * i < c * k := by omega
    have h4 : c * k < c * (i + 1) := by omega
    have h5 := Nat.lt_of_mul_lt_mul_left h3
    have h6 := Nat.lt_of_mul_lt_mul_left h4
    omega
  rw [decide_eq_false hm]
  simp
theorem stU_low {S : Nat → Bool} {c d n : Nat} (h : n < d) : stU S c d n = false := by
  unfold stU
  rw [decide_eq_false (show ¬ d ≤ n by omega)]
  rfl
theorem stU_ev {S : Nat → Bool} {t q c d : Nat} (hc : 0 < c) (h : EvP S t q) : EvP (stU S c d) (c * t + d) (c * q) := by
  intro n hn
  unfold stU
  rw [decide_eq_true (show d ≤ n by omega), decide_eq_true (show d ≤ n + c * q by omega), show n + c * q - d = (n - d) + c * q by omega, Nat.add_mul_mod_self_left, Nat.add_mul_div_left _ _ hc, h ((n - d) / c) ((Nat.le_div_iff_mul_le hc).mpr (by rw [Nat.mul_comm]; omega))]
theorem stU_s {S : Nat → Bool} {c d i : Nat} (hc : 0 < c) (x : Bool) (hx : S i = x) : (if x then bset (rb (stU S c d) (c * i + d)) (c * i + d) true else rb (stU S c d) (c * i + d)) = rb (stU S c d) (c * (i + 1) + d) := by
  have hlt : c * i < c * (i + 1) := by rw [Nat.mul_succ]; omega
  funext n
  by_cases h : n = c * i + d
  · subst h
    have e1 : rb (stU S c d) (c * (i + 1) + d) (c * i + d) = x := by simp only [rb]; rw [if_pos (by omega), stU_at hc, hx]
    rw [e1]
    cases x
    · simp [rb]
    · simp [bset_same]
  · have e2 : (if x then bset (rb (stU S c d) (c * i + d)) (c * i + d) true else rb (stU S c d) (c * i + d)) n = rb (stU S c d) (c * i + d) n := by
      cases x
      · rfl
      · simp [bset_ne _ _ h]
    rw [e2]
    simp only [rb]
    by_cases h2 : n < c * i + d
    · rw [if_pos h2, if_pos (by omega)]
    · rw [if_neg h2]
      by_cases h3 : n < c * (i + 1) + d
      · rw [if_pos h3, stU_gap (by omega) h3]
      · rw [if_neg h3]
def skD (S : Nat → Bool) (c d : Nat) : Nat → Bool := fun n => S (c * n + d)
theorem skD_ev {S : Nat → Bool} {t q c d : Nat} (hc : 0 < c) (h : EvP S t q) : EvP (skD S c d) t q := by
  intro n hn
  unfold skD
  have := Nat.le_mul_of_pos_left n hc
  rw [h.mul c (c * n + d) (by omega), Nat.mul_add]
  congr 1
  omega
theorem nI_nn {n k : Nat} : nI n - -nI k = nI (n + k) := by
  rw [← nI_add]
  apply Int32.toBitVec_inj.mp
  rw [Int32.toBitVec_sub, Int32.toBitVec_neg, Int32.toBitVec_add, BitVec.sub_eq_add_neg, BitVec.neg_neg]
theorem nI_an {n k : Nat} (hn : n < 1073741824) (hk : k < 1073741824) : (nI n + -nI k).toInt = (n : Int) - k := by
  have e : nI n + -nI k = nI n - nI k := by
    apply Int32.toBitVec_inj.mp
    rw [Int32.toBitVec_add, Int32.toBitVec_sub, Int32.toBitVec_neg, BitVec.sub_eq_add_neg]
  rw [e]
  exact pk_sub_toInt hn hk
theorem mxneg {t k : Nat} (ht : t < 1000) (hk : k < 1000) : (if nI 0 < nI t + -nI k then nI t + -nI k else nI 0) = nI (t - k) := by
  have e := nI_an (n := t) (k := k) (by omega) (by omega)
  split
  · rename_i h
    rw [i32_lt, e, nI_t (by decide)] at h
    apply Int32.toInt_inj.mp
    rw [e, nI_t (by omega)]
    omega
  · rename_i h
    rw [i32_lt, e, nI_t (by decide)] at h
    rw [show t - k = 0 by omega]
theorem mxneg0 {k : Nat} (hk : k < 1000) : (if nI 0 < -nI k then -nI k else nI 0) = nI 0 := by
  split
  · rename_i h
    have e : (-nI k).toInt = -(k : Int) := sb_negT (show k < 2 ^ 31 by omega)
    rw [i32_lt, e, nI_t (by decide)] at h
    omega
  · rfl
set_option maxHeartbeats 4000000 in
set_option maxRecDepth 100000 in
theorem c_leastJoined (l : Launch) (D : va_G) (cy : Nat → ClassId) (L : List Nat) (f : Nat → va_E) (sz : Nat) (a rw mc t per a2 rw2 mc2 t2 per2 way : Nat) (b b2 : Nat → Bool) (ht : t ≤ 120) (hper : 0 < per) (hperx : per ≤ 60) (ht2 : t2 ≤ 120) (hper2 : 0 < per2) (hper2x : per2 ≤ 60) (hw4 : way < 4) (h_a : cel L f a (.inr (3, [.int (nI t), .int (nI per), .ref rw, .ref mc]))) (h_rw : cel L f rw (.inl (cy 1, 3, .inr (.inl (wd b))))) (h_a2 : cel L f a2 (.inr (3, [.int (nI t2), .int (nI per2), .ref rw2, .ref mc2]))) (h_rw2 : cel L f rw2 (.inl (cy 1, 3, .inr (.inl (wd b2))))) : Met l yX5_leastJoined (.code yX5_leastJoined cX5_leastJoined 7 (Option.some FieldType.int) :: wsL_law) { frames := 2, cells := 0, slots := 0, locals := 43 } (va_Pc [.ref a, .ref a2, .int (nI way)] (PW D cy L f sz)) (vp_Si (fun r => ∃ z, 0 < z ∧ z ≤ 3600 ∧ per ∣ z ∧ per2 ∣ z ∧ r = lfrom (fun n => jw way (den t per b n) (den t2 per2 b2 n)) (max t t2 + z) 0)) 0 0 (fun _ => False) := by
  refine m_start (by decide) (Nat.le_of_ble_eq_true rfl) ?_
  intro p e R Q s m args below meth c ls hsz hR hQ E hr hlk hnm hw hl
  have hl : lv_has ls 7 [(0, .ref a), (1, .ref a2), (2, .int (nI way))] := hl
  refine lv_aload_n E.1.1 E.1.2.1 dX5_leastJoined_0 rfl (lv_at hl 0 rfl) ?_
  refine k_getN (v := .int (nI t)) E inlX3 rfl 0 (by decide) (List.mem_of_getElem? (i := 15) rfl) rfl hw h_a rfl dX5_leastJoined_1 ?_
  refine lv_aload_n E.1.1 E.1.2.1 dX5_leastJoined_4 rfl (lv_at hl 1 rfl) ?_
  refine k_getN (v := .int (nI t2)) E inlX3 rfl 0 (by decide) (List.mem_of_getElem? (i := 15) rfl) rfl hw h_a2 rfl dX5_leastJoined_5 ?_
  refine va_mmax E.1.1 E.1.2.1 (by rw [E.1.2.2.1]; exact hl.1.symm) E.1.2.2.2.1 (E.1.2.2.2.2 _ w2_45) (E.1.2.2.2.2 _ w1_99) (E.1.2.2.2.2 _ w1_5) (E.1.2.2.2.2 _ w1_100) (by rw [hR]; exact Nat.le_of_ble_eq_true rfl) (by rw [hR]; exact Nat.le_of_ble_eq_true rfl) (by rw [hR]; exact Nat.le_of_ble_eq_true rfl) (by rw [hR]; first | exact Nat.le_of_ble_eq_true rfl | (dsimp only; omega)) dX5_leastJoined_8 ?_
  refine k_top E (nI (max t t2)) (mxn (by omega) (by omega)) ?_
  refine lv_aload_n E.1.1 E.1.2.1 dX5_leastJoined_11 rfl (lv_at hl 0 rfl) ?_
  refine k_getN (v := .int (nI per)) E inlX3 rfl 1 (by decide) (List.mem_of_getElem? (i := 16) rfl) rfl hw h_a rfl dX5_leastJoined_12 ?_
  refine lv_aload_n E.1.1 E.1.2.1 dX5_leastJoined_15 rfl (lv_at hl 1 rfl) ?_
  refine k_getN (v := .int (nI per2)) E inlX3 rfl 1 (by decide) (List.mem_of_getElem? (i := 16) rfl) rfl hw h_a2 rfl dX5_leastJoined_16 ?_
  refine k_rip (va_runS (As := [.int (nI per), .int (nI per2)]) (rest := [.int (nI (max t t2))]) E.1 (c_leastCommon l D cy L f s.heap.size per per2 hper hperx hper2 hper2x) ⟨callB_of 2 E.1.2.2.2.2 (gd_own w2_48) rfl rfl rfl (E.1.2.2.2.2 _ w1_1) (E.1.2.2.2.2 _ w2_46) hd_X5_leastCommon (by rw [hR]; exact ⟨Nat.le_of_ble_eq_true rfl, Nat.le_of_ble_eq_true rfl⟩), E.1.2.2.2.2 _ w2_47⟩ (pw_pre E.2 hw) rfl rfl hl.1 rfl (lv_room (Nat.le_of_ble_eq_true rfl)) dX5_leastJoined_19 ⟨Nat.zero_le _, Nat.zero_le _⟩) (fun r hp => ?_)
  obtain ⟨z, rfl, hz0, hz1, hz2, hz3⟩ := hp
  refine k_add E dX5_leastJoined_22 ?_
  refine lv_istore_n (lv' := [(3, .int (nI ((max t t2) + z))), (0, .ref a), (1, .ref a2), (2, .int (nI way))]) E.1.1 E.1.2.1 dX5_leastJoined_23 rfl hl (by decide) rfl (fun ls hl => ?_)
  refine lv_iconst (v := nI 0) E.1.1 E.1.2.1 dX5_leastJoined_24 rfl ?_
  refine k_top E (nI (fold t per 0)) (by rw [fold_in (by omega)]) ?_
  refine lv_istore (lv' := [(4, .int (nI (fold t per 0))), (3, .int (nI ((max t t2) + z))), (0, .ref a), (1, .ref a2), (2, .int (nI way))]) E.1.1 E.1.2.1 dX5_leastJoined_25 hl (by decide) rfl (fun ls hl => ?_)
  refine lv_iconst (v := nI 0) E.1.1 E.1.2.1 dX5_leastJoined_27 rfl ?_
  refine k_top E (nI (fold t2 per2 0)) (by rw [fold_in (by omega)]) ?_
  refine lv_istore (lv' := [(5, .int (nI (fold t2 per2 0))), (4, .int (nI (fold t per 0))), (3, .int (nI ((max t t2) + z))), (0, .ref a), (1, .ref a2), (2, .int (nI way))]) E.1.1 E.1.2.1 dX5_leastJoined_28 hl (by decide) rfl (fun ls hl => ?_)
  refine lv_iconst (v := nI 0) E.1.1 E.1.2.1 dX5_leastJoined_30 rfl ?_
  refine lv_istore (lv' := [(6, .int (nI 0)), (5, .int (nI (fold t2 per2 0))), (4, .int (nI (fold t per 0))), (3, .int (nI ((max t t2) + z))), (0, .ref a), (1, .ref a2), (2, .int (nI way))]) E.1.1 E.1.2.1 dX5_leastJoined_31 hl (by decide) rfl (fun ls hl => ?_)
  have lp33 : ∀ (k : Nat) (i : Nat) (ls : Array Slot), (max t t2 + z - i < k) → (i ≤ max t t2 + z) → (∀ j, j < i → jw way (den t per b j) (den t2 per2 b2 j) = false) → (lv_has ls 7 [(6, .int (nI i)), (4, .int (nI (fold t per i))), (5, .int (nI (fold t2 per2 i))), (3, .int (nI (max t t2 + z))), (0, .ref a), (1, .ref a2), (2, .int (nI way))]) → W p l e R s m args below meth c s.heap [] 0 0 Q (F0 m 33 ls []) := by
    intro k
    induction k with
    | zero => intro _ _ hk; exact absurd hk (Nat.not_lt_zero _)
    | succ k ih33 =>
      intro i  ls hk hi hg hl
      refine lv_iload E.1.1 E.1.2.1 dX5_leastJoined_33 (lv_at hl 0 rfl) ?_
      refine lv_iload_n E.1.1 E.1.2.1 dX5_leastJoined_35 rfl (lv_at hl 3 rfl) ?_
      refine k_ge (tgt := 83) E dX5_leastJoined_36 (by decide) (by omega) (by omega) (fun c36 => ?_) (fun c36 => ?_)
      · refine lv_bipush (v := -6) E.1.1 E.1.2.1 dX5_leastJoined_83 rfl ?_
        exact k_iret E hQ hlk hr (⟨z, hz0, hz1, hz2, hz3, by rw [lfrom_no (fun j hj => by rw [Nat.zero_add]; exact hg j (by omega))]⟩) dX5_leastJoined_85
      · have hf1 := fold_lt (t := t) (p := per) (n := i) hper
        have hf2 := fold_lt (t := t2) (p := per2) (n := i) hper2
        refine lv_aload_n E.1.1 E.1.2.1 dX5_leastJoined_39 rfl (lv_at hl 4 rfl) ?_
        refine lv_iload E.1.1 E.1.2.1 dX5_leastJoined_40 (lv_at hl 1 rfl) ?_
        refine k_ri (va_runV (As := [.int (nI (fold t per i))]) (rest := []) E.1 (c_at l D cy L f s.heap.size a rw mc t per (fold t per i) b ht hper hperx (by omega) h_a h_rw) ⟨callB_of 1 E.1.2.2.2.2 (gd_own w2_53) rfl rfl rfl (E.1.2.2.2.2 _ w1_8) (E.1.2.2.2.2 _ w2_50) hd_X3_at (by rw [hR]; exact ⟨Nat.le_of_ble_eq_true rfl, Nat.le_of_ble_eq_true rfl⟩), E.1.2.2.2.2 _ w2_51, E.1.2.2.2.2 _ w2_52⟩ (pw_preV (q := (RX3, TX3, 4)) E.2 hw h_a rfl) rfl rfl hl.1 rfl (lv_room (Nat.le_of_ble_eq_true rfl)) dX5_leastJoined_42 ⟨Nat.zero_le _, Nat.zero_le _⟩) ?_
        refine lv_aload_n E.1.1 E.1.2.1 dX5_leastJoined_45 rfl (lv_at hl 5 rfl) ?_
        refine lv_iload E.1.1 E.1.2.1 dX5_leastJoined_46 (lv_at hl 2 rfl) ?_
        refine k_ri (va_runV (As := [.int (nI (fold t2 per2 i))]) (rest := [.int (b2i (b (fold t per i)))]) E.1 (c_at l D cy L f s.heap.size a2 rw2 mc2 t2 per2 (fold t2 per2 i) b2 ht2 hper2 hper2x (by omega) h_a2 h_rw2) ⟨callB_of 1 E.1.2.2.2.2 (gd_own w2_53) rfl rfl rfl (E.1.2.2.2.2 _ w1_8) (E.1.2.2.2.2 _ w2_50) hd_X3_at (by rw [hR]; exact ⟨Nat.le_of_ble_eq_true rfl, Nat.le_of_ble_eq_true rfl⟩), E.1.2.2.2.2 _ w2_51, E.1.2.2.2.2 _ w2_52⟩ (pw_preV (q := (RX3, TX3, 4)) E.2 hw h_a2 rfl) rfl rfl hl.1 rfl (lv_room (Nat.le_of_ble_eq_true rfl)) dX5_leastJoined_48 ⟨Nat.zero_le _, Nat.zero_le _⟩) ?_
        refine lv_iload_n E.1.1 E.1.2.1 dX5_leastJoined_51 rfl (lv_at hl 6 rfl) ?_
        refine k_ri (va_runS (As := [.int (b2i (b (fold t per i))), .int (b2i (b2 (fold t2 per2 i))), .int (nI way)]) (rest := []) E.1 (c_joined l D cy L f s.heap.size (b (fold t per i)) (b2 (fold t2 per2 i)) way hw4) ⟨callB_of 3 E.1.2.2.2.2 (gd_own w2_57) rfl rfl rfl (E.1.2.2.2.2 _ w1_1) (E.1.2.2.2.2 _ w2_55) hd_X5_joined (by rw [hR]; exact ⟨Nat.le_of_ble_eq_true rfl, Nat.le_of_ble_eq_true rfl⟩), E.1.2.2.2.2 _ w2_56⟩ (pw_pre E.2 hw) rfl rfl hl.1 rfl (lv_room (Nat.le_of_ble_eq_true rfl)) dX5_leastJoined_52 ⟨Nat.zero_le _, Nat.zero_le _⟩) ?_
        refine k_if0 (tgt := 61) E dX5_leastJoined_55 (by decide) (fun c55 => ?_) (fun c55 => ?_)
        · refine lv_aload_n E.1.1 E.1.2.1 dX5_leastJoined_61 rfl (lv_at hl 4 rfl) ?_
          refine lv_iload E.1.1 E.1.2.1 dX5_leastJoined_62 (lv_at hl 1 rfl) ?_
          refine k_ri (va_runV (As := [.int (nI (fold t per i))]) (rest := []) E.1 (c_placeAfter l D cy L f s.heap.size a rw mc t per (fold t per i) b ht hper hperx (by omega) h_a) ⟨callB_of 1 E.1.2.2.2.2 (gd_own w2_61) rfl rfl rfl (E.1.2.2.2.2 _ w1_8) (E.1.2.2.2.2 _ w2_58) hd_X3_placeAfter (by rw [hR]; exact ⟨Nat.le_of_ble_eq_true rfl, Nat.le_of_ble_eq_true rfl⟩), E.1.2.2.2.2 _ w2_59, E.1.2.2.2.2 _ w2_60⟩ (pw_preV (q := (RX3, TX3, 4)) E.2 hw h_a rfl) rfl rfl hl.1 rfl (lv_room (Nat.le_of_ble_eq_true rfl)) dX5_leastJoined_64 ⟨Nat.zero_le _, Nat.zero_le _⟩) ?_
          refine k_top E (nI (fold t per (i + 1))) (by rw [pa_fold hper]) ?_
          refine lv_istore (lv' := [(4, .int (nI (fold t per (i + 1)))), (6, .int (nI i)), (5, .int (nI (fold t2 per2 i))), (3, .int (nI (max t t2 + z))), (0, .ref a), (1, .ref a2), (2, .int (nI way))]) E.1.1 E.1.2.1 dX5_leastJoined_67 hl (by decide) rfl (fun ls hl => ?_)
          refine lv_aload_n E.1.1 E.1.2.1 dX5_leastJoined_69 rfl (lv_at hl 5 rfl) ?_
          refine lv_iload E.1.1 E.1.2.1 dX5_leastJoined_70 (lv_at hl 2 rfl) ?_
          refine k_ri (va_runV (As := [.int (nI (fold t2 per2 i))]) (rest := []) E.1 (c_placeAfter l D cy L f s.heap.size a2 rw2 mc2 t2 per2 (fold t2 per2 i) b2 ht2 hper2 hper2x (by omega) h_a2) ⟨callB_of 1 E.1.2.2.2.2 (gd_own w2_61) rfl rfl rfl (E.1.2.2.2.2 _ w1_8) (E.1.2.2.2.2 _ w2_58) hd_X3_placeAfter (by rw [hR]; exact ⟨Nat.le_of_ble_eq_true rfl, Nat.le_of_ble_eq_true rfl⟩), E.1.2.2.2.2 _ w2_59, E.1.2.2.2.2 _ w2_60⟩ (pw_preV (q := (RX3, TX3, 4)) E.2 hw h_a2 rfl) rfl rfl hl.1 rfl (lv_room (Nat.le_of_ble_eq_true rfl)) dX5_leastJoined_72 ⟨Nat.zero_le _, Nat.zero_le _⟩) ?_
          refine k_top E (nI (fold t2 per2 (i + 1))) (by rw [pa_fold hper2]) ?_
          refine lv_istore (lv' := [(5, .int (nI (fold t2 per2 (i + 1)))), (4, .int (nI (fold t per (i + 1)))), (6, .int (nI i)), (3, .int (nI (max t t2 + z))), (0, .ref a), (1, .ref a2), (2, .int (nI way))]) E.1.1 E.1.2.1 dX5_leastJoined_75 hl (by decide) rfl (fun ls hl => ?_)
          refine lv_iinc (v := nI (i + 1)) (lv' := [(6, .int (nI (i + 1))), (5, .int (nI (fold t2 per2 (i + 1)))), (4, .int (nI (fold t per (i + 1)))), (3, .int (nI (max t t2 + z))), (0, .ref a), (1, .ref a2), (2, .int (nI way))]) E.1.1 E.1.2.1 dX5_leastJoined_77 hl (k := 2) rfl (nI_1 _) (by decide) rfl (fun ls hl => ?_)
          refine lv_goto (tgt := 33) E.1.1 E.1.2.1 dX5_leastJoined_80 (by decide) ?_
          exact ih33  (i + 1) ls (by omega) (by omega) (lt_s hg c55)  (lv_sub hl [0, 2, 1, 3, 4, 5, 6] rfl)
        · refine lv_iload E.1.1 E.1.2.1 dX5_leastJoined_58 (lv_at hl 0 rfl) ?_
          exact k_iret E hQ hlk hr (⟨z, hz0, hz1, hz2, hz3, by rw [lfrom_at (i := i) (fun j hj => by rw [Nat.zero_add]; exact hg j hj) c36 (by rw [Nat.zero_add]; exact c55), Nat.zero_add]⟩) dX5_leastJoined_60
  exact lp33 (max t t2 + z - 0 + 1) 0 ls (Nat.lt_succ_self _) (by omega) (fun j hj => absurd hj (by omega))  (lv_sub hl [0, 2, 1, 3, 4, 5, 6] rfl)

set_option maxHeartbeats 4000000 in
set_option maxRecDepth 100000 in
theorem c_unknown (l : Launch) (D : va_G) (cy : Nat → ClassId) (L : List Nat) (f : Nat → va_E) (sz : Nat) (nm sl im d tr base : Nat) (sa : Nat → Nat) (x : Int32) (h_nm : cel L f nm (.inr (5, [.ref sl, .ref im, .ref d, .ref tr, .int (nI base)]))) (h_sl : cel L f sl (.inl (cy 4, 6, .inr (.inr (.inr (.inr (fun k => some (sa k)))))))) : Met l yX5_unknown (.code yX5_unknown cX5_unknown 2 (Option.some FieldType.boolean) :: wsL_law) { frames := 0, cells := 0, slots := 0, locals := 0 } (va_Pc [.ref nm, .int x] (PW D cy L f sz)) (vp_Si (fun r => r = b2i (!(i32in x 0 (nI 5))))) 0 0 (fun _ => False) := by
  refine m_start (by decide) (Nat.le_of_ble_eq_true rfl) ?_
  intro p e R Q s m args below meth c ls hsz hR hQ E hr hlk hnm hw hl
  have hl : lv_has ls 2 [(0, .ref nm), (1, .int x)] := hl
  refine lv_iload_n E.1.1 E.1.2.1 dX5_unknown_0 rfl (lv_at hl 1 rfl) ?_
  refine lv_if_lt (tgt := 19) E.1.1 E.1.2.1 dX5_unknown_1 (by decide) (fun c1 => ?_) (fun c1 => ?_)
  · refine lv_iconst (v := nI 1) E.1.1 E.1.2.1 dX5_unknown_19 rfl ?_
    refine lv_goto (tgt := 24) E.1.1 E.1.2.1 dX5_unknown_20 (by decide) ?_
    refine k_top E (b2i true) rfl ?_
    exact k_zret E hQ hlk hr (by rw [in_neg c1]; rfl) dX5_unknown_24
  · refine lv_iload_n E.1.1 E.1.2.1 dX5_unknown_4 rfl (lv_at hl 1 rfl) ?_
    refine lv_bipush (v := nI 6) E.1.1 E.1.2.1 dX5_unknown_5 rfl ?_
    refine lv_icmp_ge (tgt := 19) E.1.1 E.1.2.1 dX5_unknown_7 (by decide) (fun c7 => ?_) (fun c7 => ?_)
    · refine lv_iconst (v := nI 1) E.1.1 E.1.2.1 dX5_unknown_19 rfl ?_
      refine lv_goto (tgt := 24) E.1.1 E.1.2.1 dX5_unknown_20 (by decide) ?_
      refine k_top E (b2i true) rfl ?_
      exact k_zret E hQ hlk hr (by rw [in_big (n := 5) (by decide) c7]; rfl) dX5_unknown_24
    · obtain ⟨j, hj, rfl⟩ := in_of (n := 5) (by decide) c1 c7
      refine lv_aload_n E.1.1 E.1.2.1 dX5_unknown_10 rfl (lv_at hl 0 rfl) ?_
      refine k_get (v := .ref sl) E inlX5 rfl 0 (by decide) w1_231 rfl hw h_nm rfl dX5_unknown_11 ?_
      refine lv_iload_n E.1.1 E.1.2.1 dX5_unknown_14 rfl (lv_at hl 1 rfl) ?_
      refine k_aald E hw 4 (r := (sa j)) h_sl rfl (by omega) (by omega) (rfl) dX5_unknown_15 ?_
      refine lv_ifnonnull (tgt := 23) E.1.1 E.1.2.1 dX5_unknown_16 (by decide) ?_
      refine lv_iconst (v := nI 0) E.1.1 E.1.2.1 dX5_unknown_23 rfl ?_
      refine k_top E (b2i false) rfl ?_
      exact k_zret E hQ hlk hr (by rw [in_t (by decide) hj]; rfl) dX5_unknown_24

set_option maxHeartbeats 4000000 in
set_option maxRecDepth 100000 in
theorem c_noImage (l : Launch) (D : va_G) (cy : Nat → ClassId) (L : List Nat) (f : Nat → va_E) (sz : Nat) (nm sl im d tr base : Nat) (ga : Nat → Nat) (x : Int32) (h_nm : cel L f nm (.inr (5, [.ref sl, .ref im, .ref d, .ref tr, .int (nI base)]))) (h_im : cel L f im (.inl (cy 3, 2, .inr (.inr (.inr (.inr (fun k => some (ga k)))))))) : Met l yX5_noImage (.code yX5_noImage cX5_noImage 2 (Option.some FieldType.boolean) :: wsL_law) { frames := 0, cells := 0, slots := 0, locals := 0 } (va_Pc [.ref nm, .int x] (PW D cy L f sz)) (vp_Si (fun r => r = b2i (!(i32in x 0 (nI 1))))) 0 0 (fun _ => False) := by
  refine m_start (by decide) (Nat.le_of_ble_eq_true rfl) ?_
  intro p e R Q s m args below meth c ls hsz hR hQ E hr hlk hnm hw hl
  have hl : lv_has ls 2 [(0, .ref nm), (1, .int x)] := hl
  refine lv_iload_n E.1.1 E.1.2.1 dX5_noImage_0 rfl (lv_at hl 1 rfl) ?_
  refine lv_if_lt (tgt := 18) E.1.1 E.1.2.1 dX5_noImage_1 (by decide) (fun c1 => ?_) (fun c1 => ?_)
  · refine lv_iconst (v := nI 1) E.1.1 E.1.2.1 dX5_noImage_18 rfl ?_
    refine lv_goto (tgt := 23) E.1.1 E.1.2.1 dX5_noImage_19 (by decide) ?_
    refine k_top E (b2i true) rfl ?_
    exact k_zret E hQ hlk hr (by rw [in_neg c1]; rfl) dX5_noImage_23
  · refine lv_iload_n E.1.1 E.1.2.1 dX5_noImage_4 rfl (lv_at hl 1 rfl) ?_
    refine lv_iconst (v := nI 2) E.1.1 E.1.2.1 dX5_noImage_5 rfl ?_
    refine lv_icmp_ge (tgt := 18) E.1.1 E.1.2.1 dX5_noImage_6 (by decide) (fun c6 => ?_) (fun c6 => ?_)
    · refine lv_iconst (v := nI 1) E.1.1 E.1.2.1 dX5_noImage_18 rfl ?_
      refine lv_goto (tgt := 23) E.1.1 E.1.2.1 dX5_noImage_19 (by decide) ?_
      refine k_top E (b2i true) rfl ?_
      exact k_zret E hQ hlk hr (by rw [in_big (n := 1) (by decide) c6]; rfl) dX5_noImage_23
    · obtain ⟨j, hj, rfl⟩ := in_of (n := 1) (by decide) c1 c6
      refine lv_aload_n E.1.1 E.1.2.1 dX5_noImage_9 rfl (lv_at hl 0 rfl) ?_
      refine k_get (v := .ref im) E inlX5 rfl 1 (by decide) w1_232 rfl hw h_nm rfl dX5_noImage_10 ?_
      refine lv_iload_n E.1.1 E.1.2.1 dX5_noImage_13 rfl (lv_at hl 1 rfl) ?_
      refine k_aald E hw 3 (r := (ga j)) h_im rfl (by omega) (by omega) (rfl) dX5_noImage_14 ?_
      refine lv_ifnonnull (tgt := 22) E.1.1 E.1.2.1 dX5_noImage_15 (by decide) ?_
      refine lv_iconst (v := nI 0) E.1.1 E.1.2.1 dX5_noImage_22 rfl ?_
      refine k_top E (b2i false) rfl ?_
      exact k_zret E hQ hlk hr (by rw [in_t (by decide) hj]; rfl) dX5_noImage_23

set_option maxHeartbeats 4000000 in
set_option maxRecDepth 100000 in
theorem c_draftKind0 (l : Launch) (D : va_G) (cy : Nat → ClassId) (L : List Nat) (f0 : Nat → va_E) (sz : Nat) (nm sl im d tr base r0 a : Nat) (i1 i2 : Int32) (g : Nat → Int64) (m0 : Nat) (x : Int32) (ha : a ≤ 100) (h_nm : cel L f0 nm (.inr (5, [.ref sl, .ref im, .ref d, .ref tr, .int (nI base)]))) (h_d : cel L f0 d (.inr (0, [.ref r0, .int i1, .int i2]))) (h_row : cel L f0 r0 (.inl (cy 1, 59, .inr (.inl g)))) : Met l yX5_draftKind (.code yX5_draftKind cX5_draftKind 4 none :: wsL_law) { frames := 2, cells := 0, slots := 0, locals := 46 } (va_Pc [.ref nm, .int (nI 0), .int (nI a), .int x] (PW D cy L f0 sz)) (va_Qv (fun u : List Nat × (Nat → va_E) => L = u.1 ∧ (∀ b ∈ L, b ≠ d → b ≠ r0 → u.2 b = f0 b) ∧ cel L u.2 d (.inr (0, [.ref r0, .int (nI (a + 1)), .int (nI (1))])) ∧ cel L u.2 r0 (.inl (cy 1, 59, .inr (.inl (wd (rb (kd 0 a m0) (a + 1 + 1))))))) (PB D (AW L sz)) (AW L sz)) 0 0 (AW L sz) := by
  refine m_start (by decide) (Nat.le_of_ble_eq_true rfl) ?_
  intro p e R Q s m args below meth c ls hsz hR hQ E hr hlk hnm hw hl
  have hl : lv_has ls 4 [(0, .ref nm), (1, .int (nI 0)), (2, .int (nI a)), (3, .int x)] := hl
  obtain ⟨H, hH⟩ : ∃ X, X = s.heap := ⟨_, rfl⟩
  obtain ⟨locs, hlocs⟩ : ∃ X : List Loc, X = [] := ⟨_, rfl⟩
  have hw0 := hw
  obtain ⟨f, hf0⟩ : ∃ X, X = f0 := ⟨_, rfl⟩
  rw [← hf0] at h_nm h_d h_row
  have hw : WW D (AW L sz) s.heap L f H locs := by rw [hH, hlocs, hf0]; exact hw
  have hF : ∀ b ∈ L, b ≠ d → b ≠ r0 → f b = f0 b := fun b hb h0 h1 => by rw [hf0]
  suffices hgo : W p l e R s m args below meth c H locs 0 0 Q (F0 m 0 ls []) by rw [hH, hlocs] at hgo; exact hgo
  clear hH hlocs hw0 hf0
  have hLs : ∀ b ∈ L, b ∈ L := fun _ h => h
  have n_nm_d : nm ≠ d := h_nm.ne h_d (by simp)
  have n_nm_row : nm ≠ r0 := h_nm.ne h_row (by simp)
  have n_d_row : d ≠ r0 := h_d.ne h_row (by simp)
  have n_row_d : r0 ≠ d := h_row.ne h_d (by simp)
  refine lv_iload_n E.1.1 E.1.2.1 dX5_draftKind_0 rfl (lv_at hl 1 rfl) ?_
  refine k_z1 (tgt := 26) E dX5_draftKind_1 (by decide) (by omega) (fun c1 => absurd c1 (by decide)) (fun c1 => ?_)
  refine lv_aload_n E.1.1 E.1.2.1 dX5_draftKind_4 rfl (lv_at hl 0 rfl) ?_
  refine k_get (v := .ref d) E inlX5 rfl 2 (by decide) w1_233 rfl hw h_nm rfl dX5_draftKind_5 ?_
  refine lv_iload_n E.1.1 E.1.2.1 dX5_draftKind_8 rfl (lv_at hl 2 rfl) ?_
  refine lv_iconst (v := nI 1) E.1.1 E.1.2.1 dX5_draftKind_9 rfl ?_
  refine k_add E dX5_draftKind_10 ?_
  refine lv_iconst (v := nI 1) E.1.1 E.1.2.1 dX5_draftKind_11 rfl ?_
  refine k_mv hw (va_runV (As := [.int (nI (a + 1)), .int (nI 1)]) (rest := []) E.1 (c_open l D cy L f H.size d r0 (a + 1) (1) i1 i2 g (by omega) (by omega) (by omega) h_d h_row) ⟨callB_of 2 E.1.2.2.2.2 (gd_own w1_97) rfl rfl rfl (E.1.2.2.2.2 _ w1_2) (E.1.2.2.2.2 _ w1_94) hd_X0_open (by rw [hR]; exact ⟨Nat.le_of_ble_eq_true rfl, Nat.le_of_ble_eq_true rfl⟩), E.1.2.2.2.2 _ w1_95, E.1.2.2.2.2 _ w1_96⟩ (pw_preV (q := (RX0, TX0, 3)) E.2 hw h_d rfl) rfl rfl hl.1 rfl (lv_room (Nat.le_of_ble_eq_true rfl)) dX5_draftKind_12 (by rw [hR]; exact ⟨Nat.le_of_ble_eq_true rfl, Nat.le_of_ble_eq_true rfl⟩)) (fun L1 f H locs hp hw => ?_)
  obtain ⟨hL1, hfr, h_d, h_row⟩ := hp
  have hL1 : L = L1 := hL1
  subst hL1
  have h_d : cel L f d (.inr (0, [.ref r0, .int (nI (a + 1)), .int (nI 1)])) := h_d
  have h_row : cel L f r0 (.inl (cy 1, 59, .inr (.inl (wd (fun _ => false))))) := h_row
  have h_nm := h_nm.keep (fun _ h => h) (hfr _ h_nm.1 n_nm_d n_nm_row)
  have hF : ∀ b ∈ L, b ≠ d → b ≠ r0 → f b = f0 b := fun b hb h0 h1 => (hfr b (hLs b hb) h0 h1).trans (hF b hb h0 h1)
  refine lv_aload_n E.1.1 E.1.2.1 dX5_draftKind_15 rfl (lv_at hl 0 rfl) ?_
  refine k_get (v := .ref d) E inlX5 rfl 2 (by decide) w1_233 rfl hw h_nm rfl dX5_draftKind_16 ?_
  refine lv_iload_n E.1.1 E.1.2.1 dX5_draftKind_19 rfl (lv_at hl 2 rfl) ?_
  refine k_mv hw (va_runV (As := [.int (nI a)]) (rest := []) E.1 (c_mark l D cy L f H.size d r0 (a + 1) (1) (a) (fun _ => false) (by omega) h_d h_row) ⟨callB_of 1 E.1.2.2.2.2 (gd_own w2_29) rfl rfl rfl (E.1.2.2.2.2 _ w1_2) (E.1.2.2.2.2 _ w2_26) hd_X0_mark (by rw [hR]; exact ⟨Nat.le_of_ble_eq_true rfl, Nat.le_of_ble_eq_true rfl⟩), E.1.2.2.2.2 _ w2_27, E.1.2.2.2.2 _ w2_28⟩ (pw_preV (q := (RX0, TX0, 3)) E.2 hw h_d rfl) rfl rfl hl.1 rfl (lv_room (Nat.le_of_ble_eq_true rfl)) dX5_draftKind_20 (by rw [hR]; exact ⟨Nat.le_of_ble_eq_true rfl, Nat.le_of_ble_eq_true rfl⟩)) (fun L1 f H locs hp hw => ?_)
  obtain ⟨hL1, hfr, h_row⟩ := hp
  have hL1 : L = L1 := hL1
  subst hL1
  have h_row : cel L f r0 (.inl (cy 1, 59, .inr (.inl (wd (bset (fun _ => false) (a) true))))) := h_row
  have h_nm := h_nm.keep (fun _ h => h) (hfr _ h_nm.1 n_nm_row)
  have h_d := h_d.keep (fun _ h => h) (hfr _ h_d.1 n_d_row)
  have hF : ∀ b ∈ L, b ≠ d → b ≠ r0 → f b = f0 b := fun b hb h0 h1 => (hfr b (hLs b hb) h1).trans (hF b hb h0 h1)
  refine lv_goto (tgt := 104) E.1.1 E.1.2.1 dX5_draftKind_23 (by decide) ?_
  exact k_mvret E hQ hlk hr hw (Nat.le_of_ble_eq_true rfl) (Nat.le_of_ble_eq_true rfl) (⟨rfl, hF, h_d, by rw [kd0_rb a m0] at h_row; exact h_row⟩) dX5_draftKind_104

set_option maxHeartbeats 4000000 in
set_option maxRecDepth 100000 in
theorem c_draftKind1 (l : Launch) (D : va_G) (cy : Nat → ClassId) (L : List Nat) (f0 : Nat → va_E) (sz : Nat) (nm sl im d tr base r0 a : Nat) (i1 i2 : Int32) (g : Nat → Int64) (m0 : Nat) (x : Int32) (ha : a ≤ 100) (h_nm : cel L f0 nm (.inr (5, [.ref sl, .ref im, .ref d, .ref tr, .int (nI base)]))) (h_d : cel L f0 d (.inr (0, [.ref r0, .int i1, .int i2]))) (h_row : cel L f0 r0 (.inl (cy 1, 59, .inr (.inl g)))) : Met l yX5_draftKind (.code yX5_draftKind cX5_draftKind 4 none :: wsL_law) { frames := 2, cells := 0, slots := 0, locals := 46 } (va_Pc [.ref nm, .int (nI 1), .int (nI a), .int x] (PW D cy L f0 sz)) (va_Qv (fun u : List Nat × (Nat → va_E) => L = u.1 ∧ (∀ b ∈ L, b ≠ d → b ≠ r0 → u.2 b = f0 b) ∧ cel L u.2 d (.inr (0, [.ref r0, .int (nI (a)), .int (nI (1))])) ∧ cel L u.2 r0 (.inl (cy 1, 59, .inr (.inl (wd (rb (kd 1 a m0) (a + 1))))))) (PB D (AW L sz)) (AW L sz)) 0 0 (AW L sz) := by
  refine m_start (by decide) (Nat.le_of_ble_eq_true rfl) ?_
  intro p e R Q s m args below meth c ls hsz hR hQ E hr hlk hnm hw hl
  have hl : lv_has ls 4 [(0, .ref nm), (1, .int (nI 1)), (2, .int (nI a)), (3, .int x)] := hl
  obtain ⟨H, hH⟩ : ∃ X, X = s.heap := ⟨_, rfl⟩
  obtain ⟨locs, hlocs⟩ : ∃ X : List Loc, X = [] := ⟨_, rfl⟩
  have hw0 := hw
  obtain ⟨f, hf0⟩ : ∃ X, X = f0 := ⟨_, rfl⟩
  rw [← hf0] at h_nm h_d h_row
  have hw : WW D (AW L sz) s.heap L f H locs := by rw [hH, hlocs, hf0]; exact hw
  have hF : ∀ b ∈ L, b ≠ d → b ≠ r0 → f b = f0 b := fun b hb h0 h1 => by rw [hf0]
  suffices hgo : W p l e R s m args below meth c H locs 0 0 Q (F0 m 0 ls []) by rw [hH, hlocs] at hgo; exact hgo
  clear hH hlocs hw0 hf0
  have hLs : ∀ b ∈ L, b ∈ L := fun _ h => h
  have n_nm_d : nm ≠ d := h_nm.ne h_d (by simp)
  have n_nm_row : nm ≠ r0 := h_nm.ne h_row (by simp)
  have n_d_row : d ≠ r0 := h_d.ne h_row (by simp)
  have n_row_d : r0 ≠ d := h_row.ne h_d (by simp)
  refine lv_iload_n E.1.1 E.1.2.1 dX5_draftKind_0 rfl (lv_at hl 1 rfl) ?_
  refine k_z1 (tgt := 26) E dX5_draftKind_1 (by decide) (by omega) (fun c1 => ?_) (fun c1 => absurd c1 (by decide))
  refine lv_iload_n E.1.1 E.1.2.1 dX5_draftKind_26 rfl (lv_at hl 1 rfl) ?_
  refine lv_iconst (v := nI 1) E.1.1 E.1.2.1 dX5_draftKind_27 rfl ?_
  refine k_ne (tgt := 51) E dX5_draftKind_28 (by decide) (by omega) (by omega) (fun c28 => absurd c28 (by decide)) (fun c28 => ?_)
  refine lv_aload_n E.1.1 E.1.2.1 dX5_draftKind_31 rfl (lv_at hl 0 rfl) ?_
  refine k_get (v := .ref d) E inlX5 rfl 2 (by decide) w1_233 rfl hw h_nm rfl dX5_draftKind_32 ?_
  refine lv_iload_n E.1.1 E.1.2.1 dX5_draftKind_35 rfl (lv_at hl 2 rfl) ?_
  refine lv_iconst (v := nI 1) E.1.1 E.1.2.1 dX5_draftKind_36 rfl ?_
  refine k_mv hw (va_runV (As := [.int (nI a), .int (nI 1)]) (rest := []) E.1 (c_open l D cy L f H.size d r0 (a) (1) i1 i2 g (by omega) (by omega) (by omega) h_d h_row) ⟨callB_of 2 E.1.2.2.2.2 (gd_own w1_97) rfl rfl rfl (E.1.2.2.2.2 _ w1_2) (E.1.2.2.2.2 _ w1_94) hd_X0_open (by rw [hR]; exact ⟨Nat.le_of_ble_eq_true rfl, Nat.le_of_ble_eq_true rfl⟩), E.1.2.2.2.2 _ w1_95, E.1.2.2.2.2 _ w1_96⟩ (pw_preV (q := (RX0, TX0, 3)) E.2 hw h_d rfl) rfl rfl hl.1 rfl (lv_room (Nat.le_of_ble_eq_true rfl)) dX5_draftKind_37 (by rw [hR]; exact ⟨Nat.le_of_ble_eq_true rfl, Nat.le_of_ble_eq_true rfl⟩)) (fun L1 f H locs hp hw => ?_)
  obtain ⟨hL1, hfr, h_d, h_row⟩ := hp
  have hL1 : L = L1 := hL1
  subst hL1
  have h_d : cel L f d (.inr (0, [.ref r0, .int (nI a), .int (nI 1)])) := h_d
  have h_row : cel L f r0 (.inl (cy 1, 59, .inr (.inl (wd (fun _ => false))))) := h_row
  have h_nm := h_nm.keep (fun _ h => h) (hfr _ h_nm.1 n_nm_d n_nm_row)
  have hF : ∀ b ∈ L, b ≠ d → b ≠ r0 → f b = f0 b := fun b hb h0 h1 => (hfr b (hLs b hb) h0 h1).trans (hF b hb h0 h1)
  refine lv_aload_n E.1.1 E.1.2.1 dX5_draftKind_40 rfl (lv_at hl 0 rfl) ?_
  refine k_get (v := .ref d) E inlX5 rfl 2 (by decide) w1_233 rfl hw h_nm rfl dX5_draftKind_41 ?_
  refine lv_iload_n E.1.1 E.1.2.1 dX5_draftKind_44 rfl (lv_at hl 2 rfl) ?_
  refine k_mv hw (va_runV (As := [.int (nI a)]) (rest := []) E.1 (c_mark l D cy L f H.size d r0 (a) (1) (a) (fun _ => false) (by omega) h_d h_row) ⟨callB_of 1 E.1.2.2.2.2 (gd_own w2_29) rfl rfl rfl (E.1.2.2.2.2 _ w1_2) (E.1.2.2.2.2 _ w2_26) hd_X0_mark (by rw [hR]; exact ⟨Nat.le_of_ble_eq_true rfl, Nat.le_of_ble_eq_true rfl⟩), E.1.2.2.2.2 _ w2_27, E.1.2.2.2.2 _ w2_28⟩ (pw_preV (q := (RX0, TX0, 3)) E.2 hw h_d rfl) rfl rfl hl.1 rfl (lv_room (Nat.le_of_ble_eq_true rfl)) dX5_draftKind_45 (by rw [hR]; exact ⟨Nat.le_of_ble_eq_true rfl, Nat.le_of_ble_eq_true rfl⟩)) (fun L1 f H locs hp hw => ?_)
  obtain ⟨hL1, hfr, h_row⟩ := hp
  have hL1 : L = L1 := hL1
  subst hL1
  have h_row : cel L f r0 (.inl (cy 1, 59, .inr (.inl (wd (bset (fun _ => false) (a) true))))) := h_row
  have h_nm := h_nm.keep (fun _ h => h) (hfr _ h_nm.1 n_nm_row)
  have h_d := h_d.keep (fun _ h => h) (hfr _ h_d.1 n_d_row)
  have hF : ∀ b ∈ L, b ≠ d → b ≠ r0 → f b = f0 b := fun b hb h0 h1 => (hfr b (hLs b hb) h1).trans (hF b hb h0 h1)
  refine lv_goto (tgt := 104) E.1.1 E.1.2.1 dX5_draftKind_48 (by decide) ?_
  exact k_mvret E hQ hlk hr hw (Nat.le_of_ble_eq_true rfl) (Nat.le_of_ble_eq_true rfl) (⟨rfl, hF, h_d, by rw [kd1_rb a m0] at h_row; exact h_row⟩) dX5_draftKind_104

set_option maxHeartbeats 4000000 in
set_option maxRecDepth 100000 in
theorem c_draftKind2 (l : Launch) (D : va_G) (cy : Nat → ClassId) (L : List Nat) (f0 : Nat → va_E) (sz : Nat) (nm sl im d tr base r0 a m0 : Nat) (i1 i2 : Int32) (g : Nat → Int64) (ha : a ≤ 100) (hm0 : 0 < m0) (hm1 : m0 ≤ 60) (h_nm : cel L f0 nm (.inr (5, [.ref sl, .ref im, .ref d, .ref tr, .int (nI base)]))) (h_d : cel L f0 d (.inr (0, [.ref r0, .int i1, .int i2]))) (h_row : cel L f0 r0 (.inl (cy 1, 59, .inr (.inl g)))) : Met l yX5_draftKind (.code yX5_draftKind cX5_draftKind 4 none :: wsL_law) { frames := 2, cells := 0, slots := 0, locals := 46 } (va_Pc [.ref nm, .int (nI 2), .int (nI a), .int (nI m0)] (PW D cy L f0 sz)) (va_Qv (fun u : List Nat × (Nat → va_E) => L = u.1 ∧ (∀ b ∈ L, b ≠ d → b ≠ r0 → u.2 b = f0 b) ∧ cel L u.2 d (.inr (0, [.ref r0, .int (nI (0)), .int (nI (m0))])) ∧ cel L u.2 r0 (.inl (cy 1, 59, .inr (.inl (wd (rb (kd 2 a m0) (0 + m0))))))) (PB D (AW L sz)) (AW L sz)) 0 0 (AW L sz) := by
  refine m_start (by decide) (Nat.le_of_ble_eq_true rfl) ?_
  intro p e R Q s m args below meth c ls hsz hR hQ E hr hlk hnm hw hl
  have hl : lv_has ls 4 [(0, .ref nm), (1, .int (nI 2)), (2, .int (nI a)), (3, .int (nI m0))] := hl
  obtain ⟨H, hH⟩ : ∃ X, X = s.heap := ⟨_, rfl⟩
  obtain ⟨locs, hlocs⟩ : ∃ X : List Loc, X = [] := ⟨_, rfl⟩
  have hw0 := hw
  obtain ⟨f, hf0⟩ : ∃ X, X = f0 := ⟨_, rfl⟩
  rw [← hf0] at h_nm h_d h_row
  have hw : WW D (AW L sz) s.heap L f H locs := by rw [hH, hlocs, hf0]; exact hw
  have hF : ∀ b ∈ L, b ≠ d → b ≠ r0 → f b = f0 b := fun b hb h0 h1 => by rw [hf0]
  suffices hgo : W p l e R s m args below meth c H locs 0 0 Q (F0 m 0 ls []) by rw [hH, hlocs] at hgo; exact hgo
  clear hH hlocs hw0 hf0
  have hLs : ∀ b ∈ L, b ∈ L := fun _ h => h
  have n_nm_d : nm ≠ d := h_nm.ne h_d (by simp)
  have n_nm_row : nm ≠ r0 := h_nm.ne h_row (by simp)
  have n_d_row : d ≠ r0 := h_d.ne h_row (by simp)
  have n_row_d : r0 ≠ d := h_row.ne h_d (by simp)
  refine lv_iload_n E.1.1 E.1.2.1 dX5_draftKind_0 rfl (lv_at hl 1 rfl) ?_
  refine k_z1 (tgt := 26) E dX5_draftKind_1 (by decide) (by omega) (fun c1 => ?_) (fun c1 => absurd c1 (by decide))
  refine lv_iload_n E.1.1 E.1.2.1 dX5_draftKind_26 rfl (lv_at hl 1 rfl) ?_
  refine lv_iconst (v := nI 1) E.1.1 E.1.2.1 dX5_draftKind_27 rfl ?_
  refine k_ne (tgt := 51) E dX5_draftKind_28 (by decide) (by omega) (by omega) (fun c28 => ?_) (fun c28 => absurd c28 (by decide))
  refine lv_iload_n E.1.1 E.1.2.1 dX5_draftKind_51 rfl (lv_at hl 1 rfl) ?_
  refine lv_iconst (v := nI 2) E.1.1 E.1.2.1 dX5_draftKind_52 rfl ?_
  refine k_ne (tgt := 82) E dX5_draftKind_53 (by decide) (by omega) (by omega) (fun c53 => absurd c53 (by decide)) (fun c53 => ?_)
  refine lv_iload_n E.1.1 E.1.2.1 dX5_draftKind_56 rfl (lv_at hl 3 rfl) ?_
  refine k_zle (tgt := 82) E dX5_draftKind_57 (by decide) (by omega) (fun c57 => absurd c57 (by omega)) (fun c57 => ?_)
  refine lv_aload_n E.1.1 E.1.2.1 dX5_draftKind_60 rfl (lv_at hl 0 rfl) ?_
  refine k_get (v := .ref d) E inlX5 rfl 2 (by decide) w1_233 rfl hw h_nm rfl dX5_draftKind_61 ?_
  refine lv_iconst (v := nI 0) E.1.1 E.1.2.1 dX5_draftKind_64 rfl ?_
  refine lv_iload_n E.1.1 E.1.2.1 dX5_draftKind_65 rfl (lv_at hl 3 rfl) ?_
  refine k_mv hw (va_runV (As := [.int (nI 0), .int (nI m0)]) (rest := []) E.1 (c_open l D cy L f H.size d r0 (0) (m0) i1 i2 g (by omega) (by omega) (by omega) h_d h_row) ⟨callB_of 2 E.1.2.2.2.2 (gd_own w1_97) rfl rfl rfl (E.1.2.2.2.2 _ w1_2) (E.1.2.2.2.2 _ w1_94) hd_X0_open (by rw [hR]; exact ⟨Nat.le_of_ble_eq_true rfl, Nat.le_of_ble_eq_true rfl⟩), E.1.2.2.2.2 _ w1_95, E.1.2.2.2.2 _ w1_96⟩ (pw_preV (q := (RX0, TX0, 3)) E.2 hw h_d rfl) rfl rfl hl.1 rfl (lv_room (Nat.le_of_ble_eq_true rfl)) dX5_draftKind_66 (by rw [hR]; exact ⟨Nat.le_of_ble_eq_true rfl, Nat.le_of_ble_eq_true rfl⟩)) (fun L1 f H locs hp hw => ?_)
  obtain ⟨hL1, hfr, h_d, h_row⟩ := hp
  have hL1 : L = L1 := hL1
  subst hL1
  have h_d : cel L f d (.inr (0, [.ref r0, .int (nI 0), .int (nI m0)])) := h_d
  have h_row : cel L f r0 (.inl (cy 1, 59, .inr (.inl (wd (fun _ => false))))) := h_row
  have h_nm := h_nm.keep (fun _ h => h) (hfr _ h_nm.1 n_nm_d n_nm_row)
  have hF : ∀ b ∈ L, b ≠ d → b ≠ r0 → f b = f0 b := fun b hb h0 h1 => (hfr b (hLs b hb) h0 h1).trans (hF b hb h0 h1)
  refine lv_aload_n E.1.1 E.1.2.1 dX5_draftKind_69 rfl (lv_at hl 0 rfl) ?_
  refine k_get (v := .ref d) E inlX5 rfl 2 (by decide) w1_233 rfl hw h_nm rfl dX5_draftKind_70 ?_
  refine lv_iload_n E.1.1 E.1.2.1 dX5_draftKind_73 rfl (lv_at hl 2 rfl) ?_
  refine lv_iload_n E.1.1 E.1.2.1 dX5_draftKind_74 rfl (lv_at hl 3 rfl) ?_
  have hmd := Nat.mod_lt a hm0
  refine k_rem E dX5_draftKind_75 (by omega) (by omega) (by omega) ?_
  refine k_mv hw (va_runV (As := [.int (nI (a % m0))]) (rest := []) E.1 (c_mark l D cy L f H.size d r0 (0) (m0) (a % m0) (fun _ => false) (by omega) h_d h_row) ⟨callB_of 1 E.1.2.2.2.2 (gd_own w2_29) rfl rfl rfl (E.1.2.2.2.2 _ w1_2) (E.1.2.2.2.2 _ w2_26) hd_X0_mark (by rw [hR]; exact ⟨Nat.le_of_ble_eq_true rfl, Nat.le_of_ble_eq_true rfl⟩), E.1.2.2.2.2 _ w2_27, E.1.2.2.2.2 _ w2_28⟩ (pw_preV (q := (RX0, TX0, 3)) E.2 hw h_d rfl) rfl rfl hl.1 rfl (lv_room (Nat.le_of_ble_eq_true rfl)) dX5_draftKind_76 (by rw [hR]; exact ⟨Nat.le_of_ble_eq_true rfl, Nat.le_of_ble_eq_true rfl⟩)) (fun L1 f H locs hp hw => ?_)
  obtain ⟨hL1, hfr, h_row⟩ := hp
  have hL1 : L = L1 := hL1
  subst hL1
  have h_row : cel L f r0 (.inl (cy 1, 59, .inr (.inl (wd (bset (fun _ => false) (a % m0) true))))) := h_row
  have h_nm := h_nm.keep (fun _ h => h) (hfr _ h_nm.1 n_nm_row)
  have h_d := h_d.keep (fun _ h => h) (hfr _ h_d.1 n_d_row)
  have hF : ∀ b ∈ L, b ≠ d → b ≠ r0 → f b = f0 b := fun b hb h0 h1 => (hfr b (hLs b hb) h1).trans (hF b hb h0 h1)
  refine lv_goto (tgt := 104) E.1.1 E.1.2.1 dX5_draftKind_79 (by decide) ?_
  exact k_mvret E hQ hlk hr hw (Nat.le_of_ble_eq_true rfl) (Nat.le_of_ble_eq_true rfl) (⟨rfl, hF, h_d, by rw [kd2_rb a hm0] at h_row; exact h_row⟩) dX5_draftKind_104

set_option maxHeartbeats 4000000 in
set_option maxRecDepth 100000 in
theorem c_draftKind3 (l : Launch) (D : va_G) (cy : Nat → ClassId) (L : List Nat) (f0 : Nat → va_E) (sz : Nat) (nm sl im d tr base r0 a m0 : Nat) (i1 i2 : Int32) (g : Nat → Int64) (x y : Int32) (h_nm : cel L f0 nm (.inr (5, [.ref sl, .ref im, .ref d, .ref tr, .int (nI base)]))) (h_d : cel L f0 d (.inr (0, [.ref r0, .int i1, .int i2]))) (h_row : cel L f0 r0 (.inl (cy 1, 59, .inr (.inl g)))) : Met l yX5_draftKind (.code yX5_draftKind cX5_draftKind 4 none :: wsL_law) { frames := 2, cells := 0, slots := 0, locals := 46 } (va_Pc [.ref nm, .int (nI 3), .int x, .int y] (PW D cy L f0 sz)) (va_Qv (fun u : List Nat × (Nat → va_E) => L = u.1 ∧ (∀ b ∈ L, b ≠ d → b ≠ r0 → u.2 b = f0 b) ∧ cel L u.2 d (.inr (0, [.ref r0, .int (nI (0)), .int (nI (1))])) ∧ cel L u.2 r0 (.inl (cy 1, 59, .inr (.inl (wd (rb (kd 3 a m0) (0 + 1))))))) (PB D (AW L sz)) (AW L sz)) 0 0 (AW L sz) := by
  refine m_start (by decide) (Nat.le_of_ble_eq_true rfl) ?_
  intro p e R Q s m args below meth c ls hsz hR hQ E hr hlk hnm hw hl
  have hl : lv_has ls 4 [(0, .ref nm), (1, .int (nI 3)), (2, .int x), (3, .int y)] := hl
  obtain ⟨H, hH⟩ : ∃ X, X = s.heap := ⟨_, rfl⟩
  obtain ⟨locs, hlocs⟩ : ∃ X : List Loc, X = [] := ⟨_, rfl⟩
  have hw0 := hw
  obtain ⟨f, hf0⟩ : ∃ X, X = f0 := ⟨_, rfl⟩
  rw [← hf0] at h_nm h_d h_row
  have hw : WW D (AW L sz) s.heap L f H locs := by rw [hH, hlocs, hf0]; exact hw
  have hF : ∀ b ∈ L, b ≠ d → b ≠ r0 → f b = f0 b := fun b hb h0 h1 => by rw [hf0]
  suffices hgo : W p l e R s m args below meth c H locs 0 0 Q (F0 m 0 ls []) by rw [hH, hlocs] at hgo; exact hgo
  clear hH hlocs hw0 hf0
  have hLs : ∀ b ∈ L, b ∈ L := fun _ h => h
  have n_nm_d : nm ≠ d := h_nm.ne h_d (by simp)
  have n_nm_row : nm ≠ r0 := h_nm.ne h_row (by simp)
  have n_d_row : d ≠ r0 := h_d.ne h_row (by simp)
  have n_row_d : r0 ≠ d := h_row.ne h_d (by simp)
  refine lv_iload_n E.1.1 E.1.2.1 dX5_draftKind_0 rfl (lv_at hl 1 rfl) ?_
  refine k_z1 (tgt := 26) E dX5_draftKind_1 (by decide) (by omega) (fun c1 => ?_) (fun c1 => absurd c1 (by decide))
  refine lv_iload_n E.1.1 E.1.2.1 dX5_draftKind_26 rfl (lv_at hl 1 rfl) ?_
  refine lv_iconst (v := nI 1) E.1.1 E.1.2.1 dX5_draftKind_27 rfl ?_
  refine k_ne (tgt := 51) E dX5_draftKind_28 (by decide) (by omega) (by omega) (fun c28 => ?_) (fun c28 => absurd c28 (by decide))
  refine lv_iload_n E.1.1 E.1.2.1 dX5_draftKind_51 rfl (lv_at hl 1 rfl) ?_
  refine lv_iconst (v := nI 2) E.1.1 E.1.2.1 dX5_draftKind_52 rfl ?_
  refine k_ne (tgt := 82) E dX5_draftKind_53 (by decide) (by omega) (by omega) (fun c53 => ?_) (fun c53 => absurd c53 (by decide))
  refine lv_aload_n E.1.1 E.1.2.1 dX5_draftKind_82 rfl (lv_at hl 0 rfl) ?_
  refine k_get (v := .ref d) E inlX5 rfl 2 (by decide) w1_233 rfl hw h_nm rfl dX5_draftKind_83 ?_
  refine lv_iconst (v := nI 0) E.1.1 E.1.2.1 dX5_draftKind_86 rfl ?_
  refine lv_iconst (v := nI 1) E.1.1 E.1.2.1 dX5_draftKind_87 rfl ?_
  refine k_mv hw (va_runV (As := [.int (nI 0), .int (nI 1)]) (rest := []) E.1 (c_open l D cy L f H.size d r0 (0) (1) i1 i2 g (by omega) (by omega) (by omega) h_d h_row) ⟨callB_of 2 E.1.2.2.2.2 (gd_own w1_97) rfl rfl rfl (E.1.2.2.2.2 _ w1_2) (E.1.2.2.2.2 _ w1_94) hd_X0_open (by rw [hR]; exact ⟨Nat.le_of_ble_eq_true rfl, Nat.le_of_ble_eq_true rfl⟩), E.1.2.2.2.2 _ w1_95, E.1.2.2.2.2 _ w1_96⟩ (pw_preV (q := (RX0, TX0, 3)) E.2 hw h_d rfl) rfl rfl hl.1 rfl (lv_room (Nat.le_of_ble_eq_true rfl)) dX5_draftKind_88 (by rw [hR]; exact ⟨Nat.le_of_ble_eq_true rfl, Nat.le_of_ble_eq_true rfl⟩)) (fun L1 f H locs hp hw => ?_)
  obtain ⟨hL1, hfr, h_d, h_row⟩ := hp
  have hL1 : L = L1 := hL1
  subst hL1
  have h_d : cel L f d (.inr (0, [.ref r0, .int (nI 0), .int (nI 1)])) := h_d
  have h_row : cel L f r0 (.inl (cy 1, 59, .inr (.inl (wd (fun _ => false))))) := h_row
  have h_nm := h_nm.keep (fun _ h => h) (hfr _ h_nm.1 n_nm_d n_nm_row)
  have hF : ∀ b ∈ L, b ≠ d → b ≠ r0 → f b = f0 b := fun b hb h0 h1 => (hfr b (hLs b hb) h0 h1).trans (hF b hb h0 h1)
  refine lv_iload_n E.1.1 E.1.2.1 dX5_draftKind_91 rfl (lv_at hl 1 rfl) ?_
  refine lv_iconst (v := nI 4) E.1.1 E.1.2.1 dX5_draftKind_92 rfl ?_
  refine k_ne (tgt := 104) E dX5_draftKind_93 (by decide) (by omega) (by omega) (fun c93 => ?_) (fun c93 => absurd c93 (by decide))
  exact k_mvret E hQ hlk hr hw (Nat.le_of_ble_eq_true rfl) (Nat.le_of_ble_eq_true rfl) (⟨rfl, hF, h_d, by rw [kd3_rb a m0] at h_row; exact h_row⟩) dX5_draftKind_104

set_option maxHeartbeats 4000000 in
set_option maxRecDepth 100000 in
theorem c_draftKind4 (l : Launch) (D : va_G) (cy : Nat → ClassId) (L : List Nat) (f0 : Nat → va_E) (sz : Nat) (nm sl im d tr base r0 a m0 : Nat) (i1 i2 : Int32) (g : Nat → Int64) (x y : Int32) (h_nm : cel L f0 nm (.inr (5, [.ref sl, .ref im, .ref d, .ref tr, .int (nI base)]))) (h_d : cel L f0 d (.inr (0, [.ref r0, .int i1, .int i2]))) (h_row : cel L f0 r0 (.inl (cy 1, 59, .inr (.inl g)))) : Met l yX5_draftKind (.code yX5_draftKind cX5_draftKind 4 none :: wsL_law) { frames := 2, cells := 0, slots := 0, locals := 46 } (va_Pc [.ref nm, .int (nI 4), .int x, .int y] (PW D cy L f0 sz)) (va_Qv (fun u : List Nat × (Nat → va_E) => L = u.1 ∧ (∀ b ∈ L, b ≠ d → b ≠ r0 → u.2 b = f0 b) ∧ cel L u.2 d (.inr (0, [.ref r0, .int (nI (0)), .int (nI (1))])) ∧ cel L u.2 r0 (.inl (cy 1, 59, .inr (.inl (wd (rb (kd 4 a m0) (0 + 1))))))) (PB D (AW L sz)) (AW L sz)) 0 0 (AW L sz) := by
  refine m_start (by decide) (Nat.le_of_ble_eq_true rfl) ?_
  intro p e R Q s m args below meth c ls hsz hR hQ E hr hlk hnm hw hl
  have hl : lv_has ls 4 [(0, .ref nm), (1, .int (nI 4)), (2, .int x), (3, .int y)] := hl
  obtain ⟨H, hH⟩ : ∃ X, X = s.heap := ⟨_, rfl⟩
  obtain ⟨locs, hlocs⟩ : ∃ X : List Loc, X = [] := ⟨_, rfl⟩
  have hw0 := hw
  obtain ⟨f, hf0⟩ : ∃ X, X = f0 := ⟨_, rfl⟩
  rw [← hf0] at h_nm h_d h_row
  have hw : WW D (AW L sz) s.heap L f H locs := by rw [hH, hlocs, hf0]; exact hw
  have hF : ∀ b ∈ L, b ≠ d → b ≠ r0 → f b = f0 b := fun b hb h0 h1 => by rw [hf0]
  suffices hgo : W p l e R s m args below meth c H locs 0 0 Q (F0 m 0 ls []) by rw [hH, hlocs] at hgo; exact hgo
  clear hH hlocs hw0 hf0
  have hLs : ∀ b ∈ L, b ∈ L := fun _ h => h
  have n_nm_d : nm ≠ d := h_nm.ne h_d (by simp)
  have n_nm_row : nm ≠ r0 := h_nm.ne h_row (by simp)
  have n_d_row : d ≠ r0 := h_d.ne h_row (by simp)
  have n_row_d : r0 ≠ d := h_row.ne h_d (by simp)
  refine lv_iload_n E.1.1 E.1.2.1 dX5_draftKind_0 rfl (lv_at hl 1 rfl) ?_
  refine k_z1 (tgt := 26) E dX5_draftKind_1 (by decide) (by omega) (fun c1 => ?_) (fun c1 => absurd c1 (by decide))
  refine lv_iload_n E.1.1 E.1.2.1 dX5_draftKind_26 rfl (lv_at hl 1 rfl) ?_
  refine lv_iconst (v := nI 1) E.1.1 E.1.2.1 dX5_draftKind_27 rfl ?_
  refine k_ne (tgt := 51) E dX5_draftKind_28 (by decide) (by omega) (by omega) (fun c28 => ?_) (fun c28 => absurd c28 (by decide))
  refine lv_iload_n E.1.1 E.1.2.1 dX5_draftKind_51 rfl (lv_at hl 1 rfl) ?_
  refine lv_iconst (v := nI 2) E.1.1 E.1.2.1 dX5_draftKind_52 rfl ?_
  refine k_ne (tgt := 82) E dX5_draftKind_53 (by decide) (by omega) (by omega) (fun c53 => ?_) (fun c53 => absurd c53 (by decide))
  refine lv_aload_n E.1.1 E.1.2.1 dX5_draftKind_82 rfl (lv_at hl 0 rfl) ?_
  refine k_get (v := .ref d) E inlX5 rfl 2 (by decide) w1_233 rfl hw h_nm rfl dX5_draftKind_83 ?_
  refine lv_iconst (v := nI 0) E.1.1 E.1.2.1 dX5_draftKind_86 rfl ?_
  refine lv_iconst (v := nI 1) E.1.1 E.1.2.1 dX5_draftKind_87 rfl ?_
  refine k_mv hw (va_runV (As := [.int (nI 0), .int (nI 1)]) (rest := []) E.1 (c_open l D cy L f H.size d r0 (0) (1) i1 i2 g (by omega) (by omega) (by omega) h_d h_row) ⟨callB_of 2 E.1.2.2.2.2 (gd_own w1_97) rfl rfl rfl (E.1.2.2.2.2 _ w1_2) (E.1.2.2.2.2 _ w1_94) hd_X0_open (by rw [hR]; exact ⟨Nat.le_of_ble_eq_true rfl, Nat.le_of_ble_eq_true rfl⟩), E.1.2.2.2.2 _ w1_95, E.1.2.2.2.2 _ w1_96⟩ (pw_preV (q := (RX0, TX0, 3)) E.2 hw h_d rfl) rfl rfl hl.1 rfl (lv_room (Nat.le_of_ble_eq_true rfl)) dX5_draftKind_88 (by rw [hR]; exact ⟨Nat.le_of_ble_eq_true rfl, Nat.le_of_ble_eq_true rfl⟩)) (fun L1 f H locs hp hw => ?_)
  obtain ⟨hL1, hfr, h_d, h_row⟩ := hp
  have hL1 : L = L1 := hL1
  subst hL1
  have h_d : cel L f d (.inr (0, [.ref r0, .int (nI 0), .int (nI 1)])) := h_d
  have h_row : cel L f r0 (.inl (cy 1, 59, .inr (.inl (wd (fun _ => false))))) := h_row
  have h_nm := h_nm.keep (fun _ h => h) (hfr _ h_nm.1 n_nm_d n_nm_row)
  have hF : ∀ b ∈ L, b ≠ d → b ≠ r0 → f b = f0 b := fun b hb h0 h1 => (hfr b (hLs b hb) h0 h1).trans (hF b hb h0 h1)
  refine lv_iload_n E.1.1 E.1.2.1 dX5_draftKind_91 rfl (lv_at hl 1 rfl) ?_
  refine lv_iconst (v := nI 4) E.1.1 E.1.2.1 dX5_draftKind_92 rfl ?_
  refine k_ne (tgt := 104) E dX5_draftKind_93 (by decide) (by omega) (by omega) (fun c93 => absurd c93 (by decide)) (fun c93 => ?_)
  refine lv_aload_n E.1.1 E.1.2.1 dX5_draftKind_96 rfl (lv_at hl 0 rfl) ?_
  refine k_get (v := .ref d) E inlX5 rfl 2 (by decide) w1_233 rfl hw h_nm rfl dX5_draftKind_97 ?_
  refine lv_iconst (v := nI 0) E.1.1 E.1.2.1 dX5_draftKind_100 rfl ?_
  refine k_mv hw (va_runV (As := [.int (nI 0)]) (rest := []) E.1 (c_mark l D cy L f H.size d r0 (0) (1) (0) (fun _ => false) (by omega) h_d h_row) ⟨callB_of 1 E.1.2.2.2.2 (gd_own w2_29) rfl rfl rfl (E.1.2.2.2.2 _ w1_2) (E.1.2.2.2.2 _ w2_26) hd_X0_mark (by rw [hR]; exact ⟨Nat.le_of_ble_eq_true rfl, Nat.le_of_ble_eq_true rfl⟩), E.1.2.2.2.2 _ w2_27, E.1.2.2.2.2 _ w2_28⟩ (pw_preV (q := (RX0, TX0, 3)) E.2 hw h_d rfl) rfl rfl hl.1 rfl (lv_room (Nat.le_of_ble_eq_true rfl)) dX5_draftKind_101 (by rw [hR]; exact ⟨Nat.le_of_ble_eq_true rfl, Nat.le_of_ble_eq_true rfl⟩)) (fun L1 f H locs hp hw => ?_)
  obtain ⟨hL1, hfr, h_row⟩ := hp
  have hL1 : L = L1 := hL1
  subst hL1
  have h_row : cel L f r0 (.inl (cy 1, 59, .inr (.inl (wd (bset (fun _ => false) (0) true))))) := h_row
  have h_nm := h_nm.keep (fun _ h => h) (hfr _ h_nm.1 n_nm_row)
  have h_d := h_d.keep (fun _ h => h) (hfr _ h_d.1 n_d_row)
  have hF : ∀ b ∈ L, b ≠ d → b ≠ r0 → f b = f0 b := fun b hb h0 h1 => (hfr b (hLs b hb) h1).trans (hF b hb h0 h1)
  exact k_mvret E hQ hlk hr hw (Nat.le_of_ble_eq_true rfl) (Nat.le_of_ble_eq_true rfl) (⟨rfl, hF, h_d, by rw [kd4_rb a m0] at h_row; exact h_row⟩) dX5_draftKind_104

set_option maxHeartbeats 4000000 in
set_option maxRecDepth 100000 in
theorem c_draftTurn (l : Launch) (D : va_G) (cy : Nat → ClassId) (L : List Nat) (f0 : Nat → va_E) (sz : Nat) (nm sl im d tr base r0 : Nat) (i1 i2 : Int32) (g : Nat → Int64) (a rw mc t per : Nat) (b : Nat → Bool) (ht : t ≤ 120) (hper : 0 < per) (hperx : per ≤ 60)  (h_nm : cel L f0 nm (.inr (5, [.ref sl, .ref im, .ref d, .ref tr, .int (nI base)]))) (h_d : cel L f0 d (.inr (0, [.ref r0, .int i1, .int i2]))) (h_row : cel L f0 r0 (.inl (cy 1, 59, .inr (.inl g)))) (h_a : cel L f0 a (.inr (3, [.int (nI t), .int (nI per), .ref rw, .ref mc]))) (h_rw : cel L f0 rw (.inl (cy 1, 3, .inr (.inl (wd b))))) : Met l yX5_draftTurn (.code yX5_draftTurn cX5_draftTurn 3 none :: wsL_law) { frames := 2, cells := 0, slots := 0, locals := 46 } (va_Pc [.ref nm, .ref a] (PW D cy L f0 sz)) (va_Qv (fun u : List Nat × (Nat → va_E) => L = u.1 ∧ (∀ b ∈ L, b ≠ d → b ≠ r0 → u.2 b = f0 b) ∧ cel L u.2 d (.inr (0, [.ref r0, .int (nI (t)), .int (nI (per))])) ∧ cel L u.2 r0 (.inl (cy 1, 59, .inr (.inl (wd (rb (fun n => !den t per b n) (t + per))))))) (PB D (AW L sz)) (AW L sz)) 0 0 (AW L sz) := by
  refine m_start (by decide) (Nat.le_of_ble_eq_true rfl) ?_
  intro p e R Q s m args below meth c ls hsz hR hQ E hr hlk hnm hw hl
  have hl : lv_has ls 3 [(0, .ref nm), (1, .ref a)] := hl
  obtain ⟨H, hH⟩ : ∃ X, X = s.heap := ⟨_, rfl⟩
  obtain ⟨locs, hlocs⟩ : ∃ X : List Loc, X = [] := ⟨_, rfl⟩
  have hw0 := hw
  obtain ⟨f, hf0⟩ : ∃ X, X = f0 := ⟨_, rfl⟩
  rw [← hf0] at h_nm h_d h_row h_a h_rw
  have hw : WW D (AW L sz) s.heap L f H locs := by rw [hH, hlocs, hf0]; exact hw
  have hF : ∀ b ∈ L, b ≠ d → b ≠ r0 → f b = f0 b := fun b hb h0 h1 => by rw [hf0]
  suffices hgo : W p l e R s m args below meth c H locs 0 0 Q (F0 m 0 ls []) by rw [hH, hlocs] at hgo; exact hgo
  clear hH hlocs hw0 hf0
  have hLs : ∀ b ∈ L, b ∈ L := fun _ h => h
  have n_nm_d : nm ≠ d := h_nm.ne h_d (by simp)
  have n_nm_row : nm ≠ r0 := h_nm.ne h_row (by simp)
  have n_d_row : d ≠ r0 := h_d.ne h_row (by simp)
  have n_row_d : r0 ≠ d := h_row.ne h_d (by simp)
  have n_a_d : a ≠ d := h_a.ne h_d (by simp)
  have n_a_row : a ≠ r0 := h_a.ne h_row (by simp)
  have n_rw_d : rw ≠ d := h_rw.ne h_d (by simp)
  have n_rw_row : rw ≠ r0 := h_rw.ne h_row (by simp)
  refine lv_aload_n E.1.1 E.1.2.1 dX5_draftTurn_0 rfl (lv_at hl 0 rfl) ?_
  refine k_get (v := .ref d) E inlX5 rfl 2 (by decide) w1_233 rfl hw h_nm rfl dX5_draftTurn_1 ?_
  refine lv_aload_n E.1.1 E.1.2.1 dX5_draftTurn_4 rfl (lv_at hl 1 rfl) ?_
  refine k_getN (v := .int (nI t)) E inlX3 rfl 0 (by decide) (List.mem_of_getElem? (i := 15) rfl) rfl hw h_a rfl dX5_draftTurn_5 ?_
  refine lv_aload_n E.1.1 E.1.2.1 dX5_draftTurn_8 rfl (lv_at hl 1 rfl) ?_
  refine k_getN (v := .int (nI per)) E inlX3 rfl 1 (by decide) (List.mem_of_getElem? (i := 16) rfl) rfl hw h_a rfl dX5_draftTurn_9 ?_
  refine k_mv hw (va_runV (As := [.int (nI t), .int (nI per)]) (rest := []) E.1 (c_open l D cy L f H.size d r0 (t) (per) i1 i2 g (by omega) (by omega) (by omega) h_d h_row) ⟨callB_of 2 E.1.2.2.2.2 (gd_own w1_97) rfl rfl rfl (E.1.2.2.2.2 _ w1_2) (E.1.2.2.2.2 _ w1_94) hd_X0_open (by rw [hR]; exact ⟨Nat.le_of_ble_eq_true rfl, Nat.le_of_ble_eq_true rfl⟩), E.1.2.2.2.2 _ w1_95, E.1.2.2.2.2 _ w1_96⟩ (pw_preV (q := (RX0, TX0, 3)) E.2 hw h_d rfl) rfl rfl hl.1 rfl (lv_room (Nat.le_of_ble_eq_true rfl)) dX5_draftTurn_12 (by rw [hR]; exact ⟨Nat.le_of_ble_eq_true rfl, Nat.le_of_ble_eq_true rfl⟩)) (fun L1 f H locs hp hw => ?_)
  obtain ⟨hL1, hfr, h_d, h_row⟩ := hp
  have hL1 : L = L1 := hL1
  subst hL1
  have h_d : cel L f d (.inr (0, [.ref r0, .int (nI t), .int (nI per)])) := h_d
  have h_row : cel L f r0 (.inl (cy 1, 59, .inr (.inl (wd (fun _ => false))))) := h_row
  have h_nm := h_nm.keep (fun _ h => h) (hfr _ h_nm.1 n_nm_d n_nm_row)
  have h_a := h_a.keep (fun _ h => h) (hfr _ h_a.1 n_a_d n_a_row)
  have h_rw := h_rw.keep (fun _ h => h) (hfr _ h_rw.1 n_rw_d n_rw_row)
  have hF : ∀ b ∈ L, b ≠ d → b ≠ r0 → f b = f0 b := fun b hb h0 h1 => (hfr b (hLs b hb) h0 h1).trans (hF b hb h0 h1)
  rw [← rb_0 (fun n => !den t per b n)] at h_row
  refine lv_iconst (v := nI 0) E.1.1 E.1.2.1 dX5_draftTurn_15 rfl ?_
  refine lv_istore_n (lv' := [(2, .int (nI 0)), (0, .ref nm), (1, .ref a)]) E.1.1 E.1.2.1 dX5_draftTurn_16 rfl hl (by decide) rfl (fun ls hl => ?_)
  have lp17 : ∀ (k : Nat) (i : Nat) (f : Nat → va_E) (H : Heap) (locs : List Loc) (ls : Array Slot), (t + per - i < k) → (i ≤ t + per) → (cel L f nm (.inr (5, [.ref sl, .ref im, .ref d, .ref tr, .int (nI base)]))) → (cel L f d (.inr (0, [.ref r0, .int (nI t), .int (nI per)]))) → (cel L f r0 (.inl (cy 1, 59, .inr (.inl (wd (rb (fun n => !den t per b n) (i))))))) → (cel L f a (.inr (3, [.int (nI t), .int (nI per), .ref rw, .ref mc]))) → (cel L f rw (.inl (cy 1, 3, .inr (.inl (wd b))))) → (∀ b ∈ L, b ≠ d → b ≠ r0 → f b = f0 b) → (WW D (AW L sz) s.heap L f H locs) → (lv_has ls 3 [(2, .int (nI i)), (0, .ref nm), (1, .ref a)]) → W p l e R s m args below meth c H locs 0 0 Q (F0 m 17 ls []) := by
    intro k
    induction k with
    | zero => intro _ _ _ _ _ hk; exact absurd hk (Nat.not_lt_zero _)
    | succ k ih17 =>
      intro i f H locs ls hk hi h_nm h_d h_row h_a h_rw hF hw hl
      refine lv_iload_n E.1.1 E.1.2.1 dX5_draftTurn_17 rfl (lv_at hl 0 rfl) ?_
      refine lv_aload_n E.1.1 E.1.2.1 dX5_draftTurn_18 rfl (lv_at hl 1 rfl) ?_
      refine k_get (v := .ref d) E inlX5 rfl 2 (by decide) w1_233 rfl hw h_nm rfl dX5_draftTurn_19 ?_
      refine k_ri (va_runV (As := []) (rest := [.int (nI i)]) E.1 (c_length l D cy L f H.size d r0 (t) (per) h_d) ⟨callB_of 0 E.1.2.2.2.2 (gd_own w1_123) rfl rfl rfl (E.1.2.2.2.2 _ w1_2) (E.1.2.2.2.2 _ w2_49) hd_X0_length (by rw [hR]; exact ⟨Nat.le_of_ble_eq_true rfl, Nat.le_of_ble_eq_true rfl⟩), E.1.2.2.2.2 _ w1_121, E.1.2.2.2.2 _ w1_122⟩ (pw_preV (q := (RX0, TX0, 3)) E.2 hw h_d rfl) rfl rfl hl.1 rfl (lv_room (Nat.le_of_ble_eq_true rfl)) dX5_draftTurn_22 ⟨Nat.zero_le _, Nat.zero_le _⟩) ?_
      refine k_ge (tgt := 50) E dX5_draftTurn_25 (by decide) (by omega) (by omega) (fun c25 => ?_) (fun c25 => ?_)
      · exact k_mvret E hQ hlk hr hw (Nat.le_of_ble_eq_true rfl) (Nat.le_of_ble_eq_true rfl) (⟨rfl, hF, h_d, by rw [show t + per = i by omega]; exact h_row⟩) dX5_draftTurn_50
      · refine lv_aload_n E.1.1 E.1.2.1 dX5_draftTurn_28 rfl (lv_at hl 2 rfl) ?_
        refine lv_iload_n E.1.1 E.1.2.1 dX5_draftTurn_29 rfl (lv_at hl 0 rfl) ?_
        refine k_ri (va_runV (As := [.int (nI i)]) (rest := []) E.1 (c_at l D cy L f H.size a rw mc t per i b ht hper hperx (by omega) h_a h_rw) ⟨callB_of 1 E.1.2.2.2.2 (gd_own w2_53) rfl rfl rfl (E.1.2.2.2.2 _ w1_8) (E.1.2.2.2.2 _ w2_50) hd_X3_at (by rw [hR]; exact ⟨Nat.le_of_ble_eq_true rfl, Nat.le_of_ble_eq_true rfl⟩), E.1.2.2.2.2 _ w2_51, E.1.2.2.2.2 _ w2_52⟩ (pw_preV (q := (RX3, TX3, 4)) E.2 hw h_a rfl) rfl rfl hl.1 rfl (lv_room (Nat.le_of_ble_eq_true rfl)) dX5_draftTurn_30 ⟨Nat.zero_le _, Nat.zero_le _⟩) ?_
        refine k_if1 (tgt := 44) E dX5_draftTurn_33 (by decide) (fun c33 => ?_) (fun c33 => ?_)
        · rw [rb_f (X := fun n => !den t per b n) (i := i) (by show (!den t per b i) = false; rw [den_in b (by omega), c33]; rfl)] at h_row
          refine lv_iinc (v := nI (i + 1)) (lv' := [(2, .int (nI (i + 1))), (0, .ref nm), (1, .ref a)]) E.1.1 E.1.2.1 dX5_draftTurn_44 hl (k := 0) rfl (nI_1 _) (by decide) rfl (fun ls hl => ?_)
          refine lv_goto (tgt := 17) E.1.1 E.1.2.1 dX5_draftTurn_47 (by decide) ?_
          exact ih17  (i + 1) f H locs ls (by omega) (by omega) h_nm h_d h_row h_a h_rw hF hw (lv_sub hl [0, 1, 2] rfl)
        · refine lv_aload_n E.1.1 E.1.2.1 dX5_draftTurn_36 rfl (lv_at hl 1 rfl) ?_
          refine k_get (v := .ref d) E inlX5 rfl 2 (by decide) w1_233 rfl hw h_nm rfl dX5_draftTurn_37 ?_
          refine lv_iload_n E.1.1 E.1.2.1 dX5_draftTurn_40 rfl (lv_at hl 0 rfl) ?_
          refine k_mv hw (va_runV (As := [.int (nI i)]) (rest := []) E.1 (c_mark l D cy L f H.size d r0 (t) (per) (i) (rb (fun n => !den t per b n) (i)) (by omega) h_d h_row) ⟨callB_of 1 E.1.2.2.2.2 (gd_own w2_29) rfl rfl rfl (E.1.2.2.2.2 _ w1_2) (E.1.2.2.2.2 _ w2_26) hd_X0_mark (by rw [hR]; exact ⟨Nat.le_of_ble_eq_true rfl, Nat.le_of_ble_eq_true rfl⟩), E.1.2.2.2.2 _ w2_27, E.1.2.2.2.2 _ w2_28⟩ (pw_preV (q := (RX0, TX0, 3)) E.2 hw h_d rfl) rfl rfl hl.1 rfl (lv_room (Nat.le_of_ble_eq_true rfl)) dX5_draftTurn_41 (by rw [hR]; exact ⟨Nat.le_of_ble_eq_true rfl, Nat.le_of_ble_eq_true rfl⟩)) (fun L1 f H locs hp hw => ?_)
          obtain ⟨hL1, hfr, h_row⟩ := hp
          have hL1 : L = L1 := hL1
          subst hL1
          have h_row : cel L f r0 (.inl (cy 1, 59, .inr (.inl (wd (bset (rb (fun n => !den t per b n) (i)) (i) true))))) := h_row
          have h_nm := h_nm.keep (fun _ h => h) (hfr _ h_nm.1 n_nm_row)
          have h_d := h_d.keep (fun _ h => h) (hfr _ h_d.1 n_d_row)
          have h_a := h_a.keep (fun _ h => h) (hfr _ h_a.1 n_a_row)
          have h_rw := h_rw.keep (fun _ h => h) (hfr _ h_rw.1 n_rw_row)
          have hF : ∀ b ∈ L, b ≠ d → b ≠ r0 → f b = f0 b := fun b hb h0 h1 => (hfr b (hLs b hb) h1).trans (hF b hb h0 h1)
          rw [rb_t (X := fun n => !den t per b n) (i := i) (by show (!den t per b i) = true; rw [den_in b (by omega), c33]; rfl)] at h_row
          refine lv_iinc (v := nI (i + 1)) (lv' := [(2, .int (nI (i + 1))), (0, .ref nm), (1, .ref a)]) E.1.1 E.1.2.1 dX5_draftTurn_44 hl (k := 0) rfl (nI_1 _) (by decide) rfl (fun ls hl => ?_)
          refine lv_goto (tgt := 17) E.1.1 E.1.2.1 dX5_draftTurn_47 (by decide) ?_
          exact ih17  (i + 1) f H locs ls (by omega) (by omega) h_nm h_d h_row h_a h_rw hF hw (lv_sub hl [0, 1, 2] rfl)
  exact lp17 (t + per - 0 + 1) 0 f H locs ls (Nat.lt_succ_self _) (by omega) h_nm h_d h_row h_a h_rw hF hw (lv_sub hl [0, 1, 2] rfl)

set_option maxHeartbeats 4000000 in
set_option maxRecDepth 100000 in
theorem c_draftJoin (l : Launch) (D : va_G) (cy : Nat → ClassId) (L : List Nat) (f0 : Nat → va_E) (sz : Nat) (nm sl im d tr base r0 : Nat) (i1 i2 : Int32) (g : Nat → Int64) (a rw mc t per a2 rw2 mc2 t2 per2 way : Nat) (b b2 : Nat → Bool) (ht : t ≤ 120) (hper : 0 < per) (hperx : per ≤ 60) (ht2 : t2 ≤ 120) (hper2 : 0 < per2) (hper2x : per2 ≤ 60) (hw4 : way < 4) (h_nm : cel L f0 nm (.inr (5, [.ref sl, .ref im, .ref d, .ref tr, .int (nI base)]))) (h_d : cel L f0 d (.inr (0, [.ref r0, .int i1, .int i2]))) (h_row : cel L f0 r0 (.inl (cy 1, 59, .inr (.inl g)))) (h_a : cel L f0 a (.inr (3, [.int (nI t), .int (nI per), .ref rw, .ref mc]))) (h_rw : cel L f0 rw (.inl (cy 1, 3, .inr (.inl (wd b))))) (h_a2 : cel L f0 a2 (.inr (3, [.int (nI t2), .int (nI per2), .ref rw2, .ref mc2]))) (h_rw2 : cel L f0 rw2 (.inl (cy 1, 3, .inr (.inl (wd b2))))) : Met l yX5_draftJoin (.code yX5_draftJoin cX5_draftJoin 7 none :: wsL_law) { frames := 2, cells := 0, slots := 0, locals := 46 } (va_Pc [.ref nm, .ref a, .ref a2, .int (nI way)] (PW D cy L f0 sz)) (va_Qv (fun u : List Nat × (Nat → va_E) => L = u.1 ∧ (∀ b ∈ L, b ≠ d → b ≠ r0 → u.2 b = f0 b) ∧ ∃ z, cel L u.2 d (.inr (0, [.ref r0, .int (nI (max t t2)), .int (nI z)])) ∧ cel L u.2 r0 (.inl (cy 1, 59, .inr (.inl (wd (rb (fun n => jw way (den t per b n) (den t2 per2 b2 n)) (max t t2 + z)))))) ∧ 0 < z ∧ z ≤ 3600 ∧ per ∣ z ∧ per2 ∣ z) (PB D (AW L sz)) (AW L sz)) 0 0 (AW L sz) := by
  refine m_start (by decide) (Nat.le_of_ble_eq_true rfl) ?_
  intro p e R Q s m args below meth c ls hsz hR hQ E hr hlk hnm hw hl
  have hl : lv_has ls 7 [(0, .ref nm), (1, .ref a), (2, .ref a2), (3, .int (nI way))] := hl
  obtain ⟨H, hH⟩ : ∃ X, X = s.heap := ⟨_, rfl⟩
  obtain ⟨locs, hlocs⟩ : ∃ X : List Loc, X = [] := ⟨_, rfl⟩
  have hw0 := hw
  obtain ⟨f, hf0⟩ : ∃ X, X = f0 := ⟨_, rfl⟩
  rw [← hf0] at h_nm h_d h_row h_a h_rw h_a2 h_rw2
  have hw : WW D (AW L sz) s.heap L f H locs := by rw [hH, hlocs, hf0]; exact hw
  have hF : ∀ b ∈ L, b ≠ d → b ≠ r0 → f b = f0 b := fun b hb h0 h1 => by rw [hf0]
  suffices hgo : W p l e R s m args below meth c H locs 0 0 Q (F0 m 0 ls []) by rw [hH, hlocs] at hgo; exact hgo
  clear hH hlocs hw0 hf0
  have hLs : ∀ b ∈ L, b ∈ L := fun _ h => h
  have n_nm_d : nm ≠ d := h_nm.ne h_d (by simp)
  have n_nm_row : nm ≠ r0 := h_nm.ne h_row (by simp)
  have n_d_row : d ≠ r0 := h_d.ne h_row (by simp)
  have n_row_d : r0 ≠ d := h_row.ne h_d (by simp)
  have n_a_d : a ≠ d := h_a.ne h_d (by simp)
  have n_a_row : a ≠ r0 := h_a.ne h_row (by simp)
  have n_rw_d : rw ≠ d := h_rw.ne h_d (by simp)
  have n_rw_row : rw ≠ r0 := h_rw.ne h_row (by simp)
  have n_a2_d : a2 ≠ d := h_a2.ne h_d (by simp)
  have n_a2_row : a2 ≠ r0 := h_a2.ne h_row (by simp)
  have n_rw2_d : rw2 ≠ d := h_rw2.ne h_d (by simp)
  have n_rw2_row : rw2 ≠ r0 := h_rw2.ne h_row (by simp)
  refine lv_aload_n E.1.1 E.1.2.1 dX5_draftJoin_0 rfl (lv_at hl 0 rfl) ?_
  refine k_get (v := .ref d) E inlX5 rfl 2 (by decide) w1_233 rfl hw h_nm rfl dX5_draftJoin_1 ?_
  refine lv_aload_n E.1.1 E.1.2.1 dX5_draftJoin_4 rfl (lv_at hl 1 rfl) ?_
  refine k_getN (v := .int (nI t)) E inlX3 rfl 0 (by decide) (List.mem_of_getElem? (i := 15) rfl) rfl hw h_a rfl dX5_draftJoin_5 ?_
  refine lv_aload_n E.1.1 E.1.2.1 dX5_draftJoin_8 rfl (lv_at hl 2 rfl) ?_
  refine k_getN (v := .int (nI t2)) E inlX3 rfl 0 (by decide) (List.mem_of_getElem? (i := 15) rfl) rfl hw h_a2 rfl dX5_draftJoin_9 ?_
  refine va_mmax E.1.1 E.1.2.1 (by rw [E.1.2.2.1]; exact hl.1.symm) E.1.2.2.2.1 (E.1.2.2.2.2 _ w2_45) (E.1.2.2.2.2 _ w1_99) (E.1.2.2.2.2 _ w1_5) (E.1.2.2.2.2 _ w1_100) (by rw [hR]; exact Nat.le_of_ble_eq_true rfl) (by rw [hR]; exact Nat.le_of_ble_eq_true rfl) (by rw [hR]; exact Nat.le_of_ble_eq_true rfl) (by rw [hR]; first | exact Nat.le_of_ble_eq_true rfl | (dsimp only; omega)) dX5_draftJoin_12 ?_
  refine k_top E (nI (max t t2)) (mxn (by omega) (by omega)) ?_
  refine lv_aload_n E.1.1 E.1.2.1 dX5_draftJoin_15 rfl (lv_at hl 1 rfl) ?_
  refine k_getN (v := .int (nI per)) E inlX3 rfl 1 (by decide) (List.mem_of_getElem? (i := 16) rfl) rfl hw h_a rfl dX5_draftJoin_16 ?_
  refine lv_aload_n E.1.1 E.1.2.1 dX5_draftJoin_19 rfl (lv_at hl 2 rfl) ?_
  refine k_getN (v := .int (nI per2)) E inlX3 rfl 1 (by decide) (List.mem_of_getElem? (i := 16) rfl) rfl hw h_a2 rfl dX5_draftJoin_20 ?_
  refine k_rip (va_runS (As := [.int (nI per), .int (nI per2)]) (rest := [.int (nI (max t t2)), .ref d]) E.1 (c_leastCommon l D cy L f H.size per per2 hper hperx hper2 hper2x) ⟨callB_of 2 E.1.2.2.2.2 (gd_own w2_48) rfl rfl rfl (E.1.2.2.2.2 _ w1_1) (E.1.2.2.2.2 _ w2_46) hd_X5_leastCommon (by rw [hR]; exact ⟨Nat.le_of_ble_eq_true rfl, Nat.le_of_ble_eq_true rfl⟩), E.1.2.2.2.2 _ w2_47⟩ (pw_pre E.2 hw) rfl rfl hl.1 rfl (lv_room (Nat.le_of_ble_eq_true rfl)) dX5_draftJoin_23 ⟨Nat.zero_le _, Nat.zero_le _⟩) (fun r hp => ?_)
  obtain ⟨z, rfl, hz0, hz1, hz2, hz3⟩ := hp
  refine k_mv hw (va_runV (As := [.int (nI (max t t2)), .int (nI z)]) (rest := []) E.1 (c_open l D cy L f H.size d r0 (max t t2) (z) i1 i2 g (by omega) (by omega) (by omega) h_d h_row) ⟨callB_of 2 E.1.2.2.2.2 (gd_own w1_97) rfl rfl rfl (E.1.2.2.2.2 _ w1_2) (E.1.2.2.2.2 _ w1_94) hd_X0_open (by rw [hR]; exact ⟨Nat.le_of_ble_eq_true rfl, Nat.le_of_ble_eq_true rfl⟩), E.1.2.2.2.2 _ w1_95, E.1.2.2.2.2 _ w1_96⟩ (pw_preV (q := (RX0, TX0, 3)) E.2 hw h_d rfl) rfl rfl hl.1 rfl (lv_room (Nat.le_of_ble_eq_true rfl)) dX5_draftJoin_26 (by rw [hR]; exact ⟨Nat.le_of_ble_eq_true rfl, Nat.le_of_ble_eq_true rfl⟩)) (fun L1 f H locs hp hw => ?_)
  obtain ⟨hL1, hfr, h_d, h_row⟩ := hp
  have hL1 : L = L1 := hL1
  subst hL1
  have h_d : cel L f d (.inr (0, [.ref r0, .int (nI (max t t2)), .int (nI z)])) := h_d
  have h_row : cel L f r0 (.inl (cy 1, 59, .inr (.inl (wd (fun _ => false))))) := h_row
  have h_nm := h_nm.keep (fun _ h => h) (hfr _ h_nm.1 n_nm_d n_nm_row)
  have h_a := h_a.keep (fun _ h => h) (hfr _ h_a.1 n_a_d n_a_row)
  have h_rw := h_rw.keep (fun _ h => h) (hfr _ h_rw.1 n_rw_d n_rw_row)
  have h_a2 := h_a2.keep (fun _ h => h) (hfr _ h_a2.1 n_a2_d n_a2_row)
  have h_rw2 := h_rw2.keep (fun _ h => h) (hfr _ h_rw2.1 n_rw2_d n_rw2_row)
  have hF : ∀ b ∈ L, b ≠ d → b ≠ r0 → f b = f0 b := fun b hb h0 h1 => (hfr b (hLs b hb) h0 h1).trans (hF b hb h0 h1)
  rw [← rb_0 (fun n => jw way (den t per b n) (den t2 per2 b2 n))] at h_row
  refine lv_iconst (v := nI 0) E.1.1 E.1.2.1 dX5_draftJoin_29 rfl ?_
  refine k_top E (nI (fold t per 0)) (by rw [fold_in (by omega)]) ?_
  refine lv_istore (lv' := [(4, .int (nI (fold t per 0))), (0, .ref nm), (1, .ref a), (2, .ref a2), (3, .int (nI way))]) E.1.1 E.1.2.1 dX5_draftJoin_30 hl (by decide) rfl (fun ls hl => ?_)
  refine lv_iconst (v := nI 0) E.1.1 E.1.2.1 dX5_draftJoin_32 rfl ?_
  refine k_top E (nI (fold t2 per2 0)) (by rw [fold_in (by omega)]) ?_
  refine lv_istore (lv' := [(5, .int (nI (fold t2 per2 0))), (4, .int (nI (fold t per 0))), (0, .ref nm), (1, .ref a), (2, .ref a2), (3, .int (nI way))]) E.1.1 E.1.2.1 dX5_draftJoin_33 hl (by decide) rfl (fun ls hl => ?_)
  refine lv_iconst (v := nI 0) E.1.1 E.1.2.1 dX5_draftJoin_35 rfl ?_
  refine lv_istore (lv' := [(6, .int (nI 0)), (5, .int (nI (fold t2 per2 0))), (4, .int (nI (fold t per 0))), (0, .ref nm), (1, .ref a), (2, .ref a2), (3, .int (nI way))]) E.1.1 E.1.2.1 dX5_draftJoin_36 hl (by decide) rfl (fun ls hl => ?_)
  have lp38 : ∀ (k : Nat) (i : Nat) (f : Nat → va_E) (H : Heap) (locs : List Loc) (ls : Array Slot), (max t t2 + z - i < k) → (i ≤ max t t2 + z) → (cel L f nm (.inr (5, [.ref sl, .ref im, .ref d, .ref tr, .int (nI base)]))) → (cel L f d (.inr (0, [.ref r0, .int (nI (max t t2)), .int (nI z)]))) → (cel L f r0 (.inl (cy 1, 59, .inr (.inl (wd (rb (fun n => jw way (den t per b n) (den t2 per2 b2 n)) (i))))))) → (cel L f a (.inr (3, [.int (nI t), .int (nI per), .ref rw, .ref mc]))) → (cel L f rw (.inl (cy 1, 3, .inr (.inl (wd b))))) → (cel L f a2 (.inr (3, [.int (nI t2), .int (nI per2), .ref rw2, .ref mc2]))) → (cel L f rw2 (.inl (cy 1, 3, .inr (.inl (wd b2))))) → (∀ b ∈ L, b ≠ d → b ≠ r0 → f b = f0 b) → (WW D (AW L sz) s.heap L f H locs) → (lv_has ls 7 [(6, .int (nI i)), (4, .int (nI (fold t per i))), (5, .int (nI (fold t2 per2 i))), (0, .ref nm), (1, .ref a), (2, .ref a2), (3, .int (nI way))]) → W p l e R s m args below meth c H locs 0 0 Q (F0 m 38 ls []) := by
    intro k
    induction k with
    | zero => intro _ _ _ _ _ hk; exact absurd hk (Nat.not_lt_zero _)
    | succ k ih38 =>
      intro i f H locs ls hk hi h_nm h_d h_row h_a h_rw h_a2 h_rw2 hF hw hl
      refine lv_iload E.1.1 E.1.2.1 dX5_draftJoin_38 (lv_at hl 0 rfl) ?_
      refine lv_aload_n E.1.1 E.1.2.1 dX5_draftJoin_40 rfl (lv_at hl 3 rfl) ?_
      refine k_get (v := .ref d) E inlX5 rfl 2 (by decide) w1_233 rfl hw h_nm rfl dX5_draftJoin_41 ?_
      refine k_ri (va_runV (As := []) (rest := [.int (nI i)]) E.1 (c_length l D cy L f H.size d r0 (max t t2) (z) h_d) ⟨callB_of 0 E.1.2.2.2.2 (gd_own w1_123) rfl rfl rfl (E.1.2.2.2.2 _ w1_2) (E.1.2.2.2.2 _ w2_49) hd_X0_length (by rw [hR]; exact ⟨Nat.le_of_ble_eq_true rfl, Nat.le_of_ble_eq_true rfl⟩), E.1.2.2.2.2 _ w1_121, E.1.2.2.2.2 _ w1_122⟩ (pw_preV (q := (RX0, TX0, 3)) E.2 hw h_d rfl) rfl rfl hl.1 rfl (lv_room (Nat.le_of_ble_eq_true rfl)) dX5_draftJoin_44 ⟨Nat.zero_le _, Nat.zero_le _⟩) ?_
      refine k_ge (tgt := 100) E dX5_draftJoin_47 (by decide) (by omega) (by omega) (fun c47 => ?_) (fun c47 => ?_)
      · exact k_mvret E hQ hlk hr hw (Nat.le_of_ble_eq_true rfl) (Nat.le_of_ble_eq_true rfl) (⟨rfl, hF, z, h_d, by rw [show max t t2 + z = i by omega]; exact h_row, hz0, hz1, hz2, hz3⟩) dX5_draftJoin_100
      · have hf1 := fold_lt (t := t) (p := per) (n := i) hper
        have hf2 := fold_lt (t := t2) (p := per2) (n := i) hper2
        refine lv_aload_n E.1.1 E.1.2.1 dX5_draftJoin_50 rfl (lv_at hl 4 rfl) ?_
        refine lv_iload E.1.1 E.1.2.1 dX5_draftJoin_51 (lv_at hl 1 rfl) ?_
        refine k_ri (va_runV (As := [.int (nI (fold t per i))]) (rest := []) E.1 (c_at l D cy L f H.size a rw mc t per (fold t per i) b ht hper hperx (by omega) h_a h_rw) ⟨callB_of 1 E.1.2.2.2.2 (gd_own w2_53) rfl rfl rfl (E.1.2.2.2.2 _ w1_8) (E.1.2.2.2.2 _ w2_50) hd_X3_at (by rw [hR]; exact ⟨Nat.le_of_ble_eq_true rfl, Nat.le_of_ble_eq_true rfl⟩), E.1.2.2.2.2 _ w2_51, E.1.2.2.2.2 _ w2_52⟩ (pw_preV (q := (RX3, TX3, 4)) E.2 hw h_a rfl) rfl rfl hl.1 rfl (lv_room (Nat.le_of_ble_eq_true rfl)) dX5_draftJoin_53 ⟨Nat.zero_le _, Nat.zero_le _⟩) ?_
        refine lv_aload_n E.1.1 E.1.2.1 dX5_draftJoin_56 rfl (lv_at hl 5 rfl) ?_
        refine lv_iload E.1.1 E.1.2.1 dX5_draftJoin_57 (lv_at hl 2 rfl) ?_
        refine k_ri (va_runV (As := [.int (nI (fold t2 per2 i))]) (rest := [.int (b2i (b (fold t per i)))]) E.1 (c_at l D cy L f H.size a2 rw2 mc2 t2 per2 (fold t2 per2 i) b2 ht2 hper2 hper2x (by omega) h_a2 h_rw2) ⟨callB_of 1 E.1.2.2.2.2 (gd_own w2_53) rfl rfl rfl (E.1.2.2.2.2 _ w1_8) (E.1.2.2.2.2 _ w2_50) hd_X3_at (by rw [hR]; exact ⟨Nat.le_of_ble_eq_true rfl, Nat.le_of_ble_eq_true rfl⟩), E.1.2.2.2.2 _ w2_51, E.1.2.2.2.2 _ w2_52⟩ (pw_preV (q := (RX3, TX3, 4)) E.2 hw h_a2 rfl) rfl rfl hl.1 rfl (lv_room (Nat.le_of_ble_eq_true rfl)) dX5_draftJoin_59 ⟨Nat.zero_le _, Nat.zero_le _⟩) ?_
        refine lv_iload_n E.1.1 E.1.2.1 dX5_draftJoin_62 rfl (lv_at hl 6 rfl) ?_
        refine k_ri (va_runS (As := [.int (b2i (b (fold t per i))), .int (b2i (b2 (fold t2 per2 i))), .int (nI way)]) (rest := []) E.1 (c_joined l D cy L f H.size (b (fold t per i)) (b2 (fold t2 per2 i)) way hw4) ⟨callB_of 3 E.1.2.2.2.2 (gd_own w2_57) rfl rfl rfl (E.1.2.2.2.2 _ w1_1) (E.1.2.2.2.2 _ w2_55) hd_X5_joined (by rw [hR]; exact ⟨Nat.le_of_ble_eq_true rfl, Nat.le_of_ble_eq_true rfl⟩), E.1.2.2.2.2 _ w2_56⟩ (pw_pre E.2 hw) rfl rfl hl.1 rfl (lv_room (Nat.le_of_ble_eq_true rfl)) dX5_draftJoin_63 ⟨Nat.zero_le _, Nat.zero_le _⟩) ?_
        refine k_if0 (tgt := 78) E dX5_draftJoin_66 (by decide) (fun c66 => ?_) (fun c66 => ?_)
        · rw [rb_f (X := fun n => jw way (den t per b n) (den t2 per2 b2 n)) (i := i) (c66)] at h_row
          refine lv_aload_n E.1.1 E.1.2.1 dX5_draftJoin_78 rfl (lv_at hl 4 rfl) ?_
          refine lv_iload E.1.1 E.1.2.1 dX5_draftJoin_79 (lv_at hl 1 rfl) ?_
          refine k_ri (va_runV (As := [.int (nI (fold t per i))]) (rest := []) E.1 (c_placeAfter l D cy L f H.size a rw mc t per (fold t per i) b ht hper hperx (by omega) h_a) ⟨callB_of 1 E.1.2.2.2.2 (gd_own w2_61) rfl rfl rfl (E.1.2.2.2.2 _ w1_8) (E.1.2.2.2.2 _ w2_58) hd_X3_placeAfter (by rw [hR]; exact ⟨Nat.le_of_ble_eq_true rfl, Nat.le_of_ble_eq_true rfl⟩), E.1.2.2.2.2 _ w2_59, E.1.2.2.2.2 _ w2_60⟩ (pw_preV (q := (RX3, TX3, 4)) E.2 hw h_a rfl) rfl rfl hl.1 rfl (lv_room (Nat.le_of_ble_eq_true rfl)) dX5_draftJoin_81 ⟨Nat.zero_le _, Nat.zero_le _⟩) ?_
          refine k_top E (nI (fold t per (i + 1))) (by rw [pa_fold hper]) ?_
          refine lv_istore (lv' := [(4, .int (nI (fold t per (i + 1)))), (6, .int (nI i)), (5, .int (nI (fold t2 per2 i))), (0, .ref nm), (1, .ref a), (2, .ref a2), (3, .int (nI way))]) E.1.1 E.1.2.1 dX5_draftJoin_84 hl (by decide) rfl (fun ls hl => ?_)
          refine lv_aload_n E.1.1 E.1.2.1 dX5_draftJoin_86 rfl (lv_at hl 5 rfl) ?_
          refine lv_iload E.1.1 E.1.2.1 dX5_draftJoin_87 (lv_at hl 2 rfl) ?_
          refine k_ri (va_runV (As := [.int (nI (fold t2 per2 i))]) (rest := []) E.1 (c_placeAfter l D cy L f H.size a2 rw2 mc2 t2 per2 (fold t2 per2 i) b2 ht2 hper2 hper2x (by omega) h_a2) ⟨callB_of 1 E.1.2.2.2.2 (gd_own w2_61) rfl rfl rfl (E.1.2.2.2.2 _ w1_8) (E.1.2.2.2.2 _ w2_58) hd_X3_placeAfter (by rw [hR]; exact ⟨Nat.le_of_ble_eq_true rfl, Nat.le_of_ble_eq_true rfl⟩), E.1.2.2.2.2 _ w2_59, E.1.2.2.2.2 _ w2_60⟩ (pw_preV (q := (RX3, TX3, 4)) E.2 hw h_a2 rfl) rfl rfl hl.1 rfl (lv_room (Nat.le_of_ble_eq_true rfl)) dX5_draftJoin_89 ⟨Nat.zero_le _, Nat.zero_le _⟩) ?_
          refine k_top E (nI (fold t2 per2 (i + 1))) (by rw [pa_fold hper2]) ?_
          refine lv_istore (lv' := [(5, .int (nI (fold t2 per2 (i + 1)))), (4, .int (nI (fold t per (i + 1)))), (6, .int (nI i)), (0, .ref nm), (1, .ref a), (2, .ref a2), (3, .int (nI way))]) E.1.1 E.1.2.1 dX5_draftJoin_92 hl (by decide) rfl (fun ls hl => ?_)
          refine lv_iinc (v := nI (i + 1)) (lv' := [(6, .int (nI (i + 1))), (5, .int (nI (fold t2 per2 (i + 1)))), (4, .int (nI (fold t per (i + 1)))), (0, .ref nm), (1, .ref a), (2, .ref a2), (3, .int (nI way))]) E.1.1 E.1.2.1 dX5_draftJoin_94 hl (k := 2) rfl (nI_1 _) (by decide) rfl (fun ls hl => ?_)
          refine lv_goto (tgt := 38) E.1.1 E.1.2.1 dX5_draftJoin_97 (by decide) ?_
          exact ih38  (i + 1) f H locs ls (by omega) (by omega) h_nm h_d h_row h_a h_rw h_a2 h_rw2 hF hw (lv_sub hl [0, 2, 1, 3, 4, 5, 6] rfl)
        · refine lv_aload_n E.1.1 E.1.2.1 dX5_draftJoin_69 rfl (lv_at hl 3 rfl) ?_
          refine k_get (v := .ref d) E inlX5 rfl 2 (by decide) w1_233 rfl hw h_nm rfl dX5_draftJoin_70 ?_
          refine lv_iload E.1.1 E.1.2.1 dX5_draftJoin_73 (lv_at hl 0 rfl) ?_
          refine k_mv hw (va_runV (As := [.int (nI i)]) (rest := []) E.1 (c_mark l D cy L f H.size d r0 (max t t2) (z) (i) (rb (fun n => jw way (den t per b n) (den t2 per2 b2 n)) (i)) (by omega) h_d h_row) ⟨callB_of 1 E.1.2.2.2.2 (gd_own w2_29) rfl rfl rfl (E.1.2.2.2.2 _ w1_2) (E.1.2.2.2.2 _ w2_26) hd_X0_mark (by rw [hR]; exact ⟨Nat.le_of_ble_eq_true rfl, Nat.le_of_ble_eq_true rfl⟩), E.1.2.2.2.2 _ w2_27, E.1.2.2.2.2 _ w2_28⟩ (pw_preV (q := (RX0, TX0, 3)) E.2 hw h_d rfl) rfl rfl hl.1 rfl (lv_room (Nat.le_of_ble_eq_true rfl)) dX5_draftJoin_75 (by rw [hR]; exact ⟨Nat.le_of_ble_eq_true rfl, Nat.le_of_ble_eq_true rfl⟩)) (fun L1 f H locs hp hw => ?_)
          obtain ⟨hL1, hfr, h_row⟩ := hp
          have hL1 : L = L1 := hL1
          subst hL1
          have h_row : cel L f r0 (.inl (cy 1, 59, .inr (.inl (wd (bset (rb (fun n => jw way (den t per b n) (den t2 per2 b2 n)) (i)) (i) true))))) := h_row
          have h_nm := h_nm.keep (fun _ h => h) (hfr _ h_nm.1 n_nm_row)
          have h_d := h_d.keep (fun _ h => h) (hfr _ h_d.1 n_d_row)
          have h_a := h_a.keep (fun _ h => h) (hfr _ h_a.1 n_a_row)
          have h_rw := h_rw.keep (fun _ h => h) (hfr _ h_rw.1 n_rw_row)
          have h_a2 := h_a2.keep (fun _ h => h) (hfr _ h_a2.1 n_a2_row)
          have h_rw2 := h_rw2.keep (fun _ h => h) (hfr _ h_rw2.1 n_rw2_row)
          have hF : ∀ b ∈ L, b ≠ d → b ≠ r0 → f b = f0 b := fun b hb h0 h1 => (hfr b (hLs b hb) h1).trans (hF b hb h0 h1)
          rw [rb_t (X := fun n => jw way (den t per b n) (den t2 per2 b2 n)) (i := i) (c66)] at h_row
          refine lv_aload_n E.1.1 E.1.2.1 dX5_draftJoin_78 rfl (lv_at hl 4 rfl) ?_
          refine lv_iload E.1.1 E.1.2.1 dX5_draftJoin_79 (lv_at hl 1 rfl) ?_
          refine k_ri (va_runV (As := [.int (nI (fold t per i))]) (rest := []) E.1 (c_placeAfter l D cy L f H.size a rw mc t per (fold t per i) b ht hper hperx (by omega) h_a) ⟨callB_of 1 E.1.2.2.2.2 (gd_own w2_61) rfl rfl rfl (E.1.2.2.2.2 _ w1_8) (E.1.2.2.2.2 _ w2_58) hd_X3_placeAfter (by rw [hR]; exact ⟨Nat.le_of_ble_eq_true rfl, Nat.le_of_ble_eq_true rfl⟩), E.1.2.2.2.2 _ w2_59, E.1.2.2.2.2 _ w2_60⟩ (pw_preV (q := (RX3, TX3, 4)) E.2 hw h_a rfl) rfl rfl hl.1 rfl (lv_room (Nat.le_of_ble_eq_true rfl)) dX5_draftJoin_81 ⟨Nat.zero_le _, Nat.zero_le _⟩) ?_
          refine k_top E (nI (fold t per (i + 1))) (by rw [pa_fold hper]) ?_
          refine lv_istore (lv' := [(4, .int (nI (fold t per (i + 1)))), (6, .int (nI i)), (5, .int (nI (fold t2 per2 i))), (0, .ref nm), (1, .ref a), (2, .ref a2), (3, .int (nI way))]) E.1.1 E.1.2.1 dX5_draftJoin_84 hl (by decide) rfl (fun ls hl => ?_)
          refine lv_aload_n E.1.1 E.1.2.1 dX5_draftJoin_86 rfl (lv_at hl 5 rfl) ?_
          refine lv_iload E.1.1 E.1.2.1 dX5_draftJoin_87 (lv_at hl 2 rfl) ?_
          refine k_ri (va_runV (As := [.int (nI (fold t2 per2 i))]) (rest := []) E.1 (c_placeAfter l D cy L f H.size a2 rw2 mc2 t2 per2 (fold t2 per2 i) b2 ht2 hper2 hper2x (by omega) h_a2) ⟨callB_of 1 E.1.2.2.2.2 (gd_own w2_61) rfl rfl rfl (E.1.2.2.2.2 _ w1_8) (E.1.2.2.2.2 _ w2_58) hd_X3_placeAfter (by rw [hR]; exact ⟨Nat.le_of_ble_eq_true rfl, Nat.le_of_ble_eq_true rfl⟩), E.1.2.2.2.2 _ w2_59, E.1.2.2.2.2 _ w2_60⟩ (pw_preV (q := (RX3, TX3, 4)) E.2 hw h_a2 rfl) rfl rfl hl.1 rfl (lv_room (Nat.le_of_ble_eq_true rfl)) dX5_draftJoin_89 ⟨Nat.zero_le _, Nat.zero_le _⟩) ?_
          refine k_top E (nI (fold t2 per2 (i + 1))) (by rw [pa_fold hper2]) ?_
          refine lv_istore (lv' := [(5, .int (nI (fold t2 per2 (i + 1)))), (4, .int (nI (fold t per (i + 1)))), (6, .int (nI i)), (0, .ref nm), (1, .ref a), (2, .ref a2), (3, .int (nI way))]) E.1.1 E.1.2.1 dX5_draftJoin_92 hl (by decide) rfl (fun ls hl => ?_)
          refine lv_iinc (v := nI (i + 1)) (lv' := [(6, .int (nI (i + 1))), (5, .int (nI (fold t2 per2 (i + 1)))), (4, .int (nI (fold t per (i + 1)))), (0, .ref nm), (1, .ref a), (2, .ref a2), (3, .int (nI way))]) E.1.1 E.1.2.1 dX5_draftJoin_94 hl (k := 2) rfl (nI_1 _) (by decide) rfl (fun ls hl => ?_)
          refine lv_goto (tgt := 38) E.1.1 E.1.2.1 dX5_draftJoin_97 (by decide) ?_
          exact ih38  (i + 1) f H locs ls (by omega) (by omega) h_nm h_d h_row h_a h_rw h_a2 h_rw2 hF hw (lv_sub hl [0, 2, 1, 3, 4, 5, 6] rfl)
  exact lp38 (max t t2 + z - 0 + 1) 0 f H locs ls (Nat.lt_succ_self _) (by omega) h_nm h_d h_row h_a h_rw h_a2 h_rw2 hF hw (lv_sub hl [0, 2, 1, 3, 4, 5, 6] rfl)

set_option maxHeartbeats 4000000 in
set_option maxRecDepth 100000 in
theorem c_draftShiftU (l : Launch) (D : va_G) (cy : Nat → ClassId) (L : List Nat) (f0 : Nat → va_E) (sz : Nat) (nm sl im d tr base r0 : Nat) (i1 i2 : Int32) (g : Nat → Int64) (a rw mc t per w : Nat) (b : Nat → Bool) (ht : t ≤ 120) (hper : 0 < per) (hperx : per ≤ 60) (hw1 : w ≤ 100) (h_nm : cel L f0 nm (.inr (5, [.ref sl, .ref im, .ref d, .ref tr, .int (nI base)]))) (h_d : cel L f0 d (.inr (0, [.ref r0, .int i1, .int i2]))) (h_row : cel L f0 r0 (.inl (cy 1, 59, .inr (.inl g)))) (h_a : cel L f0 a (.inr (3, [.int (nI t), .int (nI per), .ref rw, .ref mc]))) (h_rw : cel L f0 rw (.inl (cy 1, 3, .inr (.inl (wd b))))) : Met l yX5_draftShift (.code yX5_draftShift cX5_draftShift 4 none :: wsL_law) { frames := 3, cells := 0, slots := 0, locals := 64 } (va_Pc [.ref nm, .ref a, .int (nI w)] (PW D cy L f0 sz)) (va_Qv (fun u : List Nat × (Nat → va_E) => L = u.1 ∧ (∀ b ∈ L, b ≠ d → b ≠ r0 → u.2 b = f0 b) ∧ cel L u.2 d (.inr (0, [.ref r0, .int (nI (t + w)), .int (nI (per))])) ∧ cel L u.2 r0 (.inl (cy 1, 59, .inr (.inl (wd (rb (shU (den t per b) w) (t + w + per))))))) (PB D (AW L sz)) (AW L sz)) 0 0 (AW L sz) := by
  refine m_start (by decide) (Nat.le_of_ble_eq_true rfl) ?_
  intro p e R Q s m args below meth c ls hsz hR hQ E hr hlk hnm hw hl
  have hl : lv_has ls 4 [(0, .ref nm), (1, .ref a), (2, .int (nI w))] := hl
  obtain ⟨H, hH⟩ : ∃ X, X = s.heap := ⟨_, rfl⟩
  obtain ⟨locs, hlocs⟩ : ∃ X : List Loc, X = [] := ⟨_, rfl⟩
  have hw0 := hw
  obtain ⟨f, hf0⟩ : ∃ X, X = f0 := ⟨_, rfl⟩
  rw [← hf0] at h_nm h_d h_row h_a h_rw
  have hw : WW D (AW L sz) s.heap L f H locs := by rw [hH, hlocs, hf0]; exact hw
  have hF : ∀ b ∈ L, b ≠ d → b ≠ r0 → f b = f0 b := fun b hb h0 h1 => by rw [hf0]
  suffices hgo : W p l e R s m args below meth c H locs 0 0 Q (F0 m 0 ls []) by rw [hH, hlocs] at hgo; exact hgo
  clear hH hlocs hw0 hf0
  have hLs : ∀ b ∈ L, b ∈ L := fun _ h => h
  have n_nm_d : nm ≠ d := h_nm.ne h_d (by simp)
  have n_nm_row : nm ≠ r0 := h_nm.ne h_row (by simp)
  have n_d_row : d ≠ r0 := h_d.ne h_row (by simp)
  have n_row_d : r0 ≠ d := h_row.ne h_d (by simp)
  have n_a_d : a ≠ d := h_a.ne h_d (by simp)
  have n_a_row : a ≠ r0 := h_a.ne h_row (by simp)
  have n_rw_d : rw ≠ d := h_rw.ne h_d (by simp)
  have n_rw_row : rw ≠ r0 := h_rw.ne h_row (by simp)
  refine lv_aload_n E.1.1 E.1.2.1 dX5_draftShift_0 rfl (lv_at hl 0 rfl) ?_
  refine k_get (v := .ref d) E inlX5 rfl 2 (by decide) w1_233 rfl hw h_nm rfl dX5_draftShift_1 ?_
  refine lv_iconst (v := nI 0) E.1.1 E.1.2.1 dX5_draftShift_4 rfl ?_
  refine lv_aload_n E.1.1 E.1.2.1 dX5_draftShift_5 rfl (lv_at hl 1 rfl) ?_
  refine k_getN (v := .int (nI t)) E inlX3 rfl 0 (by decide) (List.mem_of_getElem? (i := 15) rfl) rfl hw h_a rfl dX5_draftShift_6 ?_
  refine lv_iload_n E.1.1 E.1.2.1 dX5_draftShift_9 rfl (lv_at hl 2 rfl) ?_
  refine k_add E dX5_draftShift_10 ?_
  refine va_mmax E.1.1 E.1.2.1 (by rw [E.1.2.2.1]; exact hl.1.symm) E.1.2.2.2.1 (E.1.2.2.2.2 _ w2_45) (E.1.2.2.2.2 _ w1_99) (E.1.2.2.2.2 _ w1_5) (E.1.2.2.2.2 _ w1_100) (by rw [hR]; exact Nat.le_of_ble_eq_true rfl) (by rw [hR]; exact Nat.le_of_ble_eq_true rfl) (by rw [hR]; exact Nat.le_of_ble_eq_true rfl) (by rw [hR]; first | exact Nat.le_of_ble_eq_true rfl | (dsimp only; omega)) dX5_draftShift_11 ?_
  refine k_top E (nI (t + w)) (mx0 (by omega)) ?_
  refine lv_aload_n E.1.1 E.1.2.1 dX5_draftShift_14 rfl (lv_at hl 1 rfl) ?_
  refine k_getN (v := .int (nI per)) E inlX3 rfl 1 (by decide) (List.mem_of_getElem? (i := 16) rfl) rfl hw h_a rfl dX5_draftShift_15 ?_
  refine k_mv hw (va_runV (As := [.int (nI (t + w)), .int (nI per)]) (rest := []) E.1 (c_open l D cy L f H.size d r0 (t + w) (per) i1 i2 g (by omega) (by omega) (by omega) h_d h_row) ⟨callB_of 2 E.1.2.2.2.2 (gd_own w1_97) rfl rfl rfl (E.1.2.2.2.2 _ w1_2) (E.1.2.2.2.2 _ w1_94) hd_X0_open (by rw [hR]; exact ⟨Nat.le_of_ble_eq_true rfl, Nat.le_of_ble_eq_true rfl⟩), E.1.2.2.2.2 _ w1_95, E.1.2.2.2.2 _ w1_96⟩ (pw_preV (q := (RX0, TX0, 3)) E.2 hw h_d rfl) rfl rfl hl.1 rfl (lv_room (Nat.le_of_ble_eq_true rfl)) dX5_draftShift_18 (by rw [hR]; exact ⟨Nat.le_of_ble_eq_true rfl, Nat.le_of_ble_eq_true rfl⟩)) (fun L1 f H locs hp hw => ?_)
  obtain ⟨hL1, hfr, h_d, h_row⟩ := hp
  have hL1 : L = L1 := hL1
  subst hL1
  have h_d : cel L f d (.inr (0, [.ref r0, .int (nI (t + w)), .int (nI per)])) := h_d
  have h_row : cel L f r0 (.inl (cy 1, 59, .inr (.inl (wd (fun _ => false))))) := h_row
  have h_nm := h_nm.keep (fun _ h => h) (hfr _ h_nm.1 n_nm_d n_nm_row)
  have h_a := h_a.keep (fun _ h => h) (hfr _ h_a.1 n_a_d n_a_row)
  have h_rw := h_rw.keep (fun _ h => h) (hfr _ h_rw.1 n_rw_d n_rw_row)
  have hF : ∀ b ∈ L, b ≠ d → b ≠ r0 → f b = f0 b := fun b hb h0 h1 => (hfr b (hLs b hb) h0 h1).trans (hF b hb h0 h1)
  rw [rb_none (X := shU (den t per b) w) (i := w) (fun n hn => by show (decide (w ≤ n) && den t per b (n - w)) = false; rw [decide_eq_false (by omega)]; rfl)] at h_row
  refine lv_iconst (v := nI 0) E.1.1 E.1.2.1 dX5_draftShift_21 rfl ?_
  refine lv_iload_n E.1.1 E.1.2.1 dX5_draftShift_22 rfl (lv_at hl 2 rfl) ?_
  refine va_mmax E.1.1 E.1.2.1 (by rw [E.1.2.2.1]; exact hl.1.symm) E.1.2.2.2.1 (E.1.2.2.2.2 _ w2_45) (E.1.2.2.2.2 _ w1_99) (E.1.2.2.2.2 _ w1_5) (E.1.2.2.2.2 _ w1_100) (by rw [hR]; exact Nat.le_of_ble_eq_true rfl) (by rw [hR]; exact Nat.le_of_ble_eq_true rfl) (by rw [hR]; exact Nat.le_of_ble_eq_true rfl) (by rw [hR]; first | exact Nat.le_of_ble_eq_true rfl | (dsimp only; omega)) dX5_draftShift_23 ?_
  refine k_top E (nI w) (mx0 (by omega)) ?_
  refine lv_istore_n (lv' := [(3, .int (nI w)), (0, .ref nm), (1, .ref a), (2, .int (nI w))]) E.1.1 E.1.2.1 dX5_draftShift_26 rfl hl (by decide) rfl (fun ls hl => ?_)
  have lp27 : ∀ (k : Nat) (i : Nat) (f : Nat → va_E) (H : Heap) (locs : List Loc) (ls : Array Slot), (t + w + per - i < k) → (i ≤ t + w + per) → (w ≤ i) → (cel L f nm (.inr (5, [.ref sl, .ref im, .ref d, .ref tr, .int (nI base)]))) → (cel L f d (.inr (0, [.ref r0, .int (nI (t + w)), .int (nI per)]))) → (cel L f r0 (.inl (cy 1, 59, .inr (.inl (wd (rb (shU (den t per b) w) (i))))))) → (cel L f a (.inr (3, [.int (nI t), .int (nI per), .ref rw, .ref mc]))) → (cel L f rw (.inl (cy 1, 3, .inr (.inl (wd b))))) → (∀ b ∈ L, b ≠ d → b ≠ r0 → f b = f0 b) → (WW D (AW L sz) s.heap L f H locs) → (lv_has ls 4 [(3, .int (nI i)), (0, .ref nm), (1, .ref a), (2, .int (nI w))]) → W p l e R s m args below meth c H locs 0 0 Q (F0 m 27 ls []) := by
    intro k
    induction k with
    | zero => intro _ _ _ _ _ hk; exact absurd hk (Nat.not_lt_zero _)
    | succ k ih27 =>
      intro i f H locs ls hk hi hi0 h_nm h_d h_row h_a h_rw hF hw hl
      refine lv_iload_n E.1.1 E.1.2.1 dX5_draftShift_27 rfl (lv_at hl 0 rfl) ?_
      refine lv_aload_n E.1.1 E.1.2.1 dX5_draftShift_28 rfl (lv_at hl 1 rfl) ?_
      refine k_get (v := .ref d) E inlX5 rfl 2 (by decide) w1_233 rfl hw h_nm rfl dX5_draftShift_29 ?_
      refine k_ri (va_runV (As := []) (rest := [.int (nI i)]) E.1 (c_length l D cy L f H.size d r0 (t + w) (per) h_d) ⟨callB_of 0 E.1.2.2.2.2 (gd_own w1_123) rfl rfl rfl (E.1.2.2.2.2 _ w1_2) (E.1.2.2.2.2 _ w2_49) hd_X0_length (by rw [hR]; exact ⟨Nat.le_of_ble_eq_true rfl, Nat.le_of_ble_eq_true rfl⟩), E.1.2.2.2.2 _ w1_121, E.1.2.2.2.2 _ w1_122⟩ (pw_preV (q := (RX0, TX0, 3)) E.2 hw h_d rfl) rfl rfl hl.1 rfl (lv_room (Nat.le_of_ble_eq_true rfl)) dX5_draftShift_32 ⟨Nat.zero_le _, Nat.zero_le _⟩) ?_
      refine k_ge (tgt := 62) E dX5_draftShift_35 (by decide) (by omega) (by omega) (fun c35 => ?_) (fun c35 => ?_)
      · exact k_mvret E hQ hlk hr hw (Nat.le_of_ble_eq_true rfl) (Nat.le_of_ble_eq_true rfl) (⟨rfl, hF, h_d, by rw [show t + w + per = i by omega]; exact h_row⟩) dX5_draftShift_62
      · refine lv_aload_n E.1.1 E.1.2.1 dX5_draftShift_38 rfl (lv_at hl 2 rfl) ?_
        refine lv_iload_n E.1.1 E.1.2.1 dX5_draftShift_39 rfl (lv_at hl 0 rfl) ?_
        refine lv_iload_n E.1.1 E.1.2.1 dX5_draftShift_40 rfl (lv_at hl 3 rfl) ?_
        refine k_sub E dX5_draftShift_41 (by omega) ?_
        refine k_ri (va_runV (As := [.int (nI (i - w))]) (rest := []) E.1 (c_holds l D cy L f H.size a rw mc t per (i - w) b ht hper hperx (by omega) h_a h_rw) ⟨callB_of 1 E.1.2.2.2.2 (gd_own w2_81) rfl rfl rfl (E.1.2.2.2.2 _ w1_8) (E.1.2.2.2.2 _ w2_78) hd_X3_holds (by rw [hR]; exact ⟨Nat.le_of_ble_eq_true rfl, Nat.le_of_ble_eq_true rfl⟩), E.1.2.2.2.2 _ w2_79, E.1.2.2.2.2 _ w2_80⟩ (pw_preV (q := (RX3, TX3, 4)) E.2 hw h_a rfl) rfl rfl hl.1 rfl (lv_room (Nat.le_of_ble_eq_true rfl)) dX5_draftShift_42 ⟨Nat.zero_le _, Nat.zero_le _⟩) ?_
        refine k_if0 (tgt := 56) E dX5_draftShift_45 (by decide) (fun c45 => ?_) (fun c45 => ?_)
        · rw [rb_f (X := shU (den t per b) w) (i := i) (by show (decide (w ≤ i) && den t per b (i - w)) = false; rw [c45, Bool.and_false])] at h_row
          refine lv_iinc (v := nI (i + 1)) (lv' := [(3, .int (nI (i + 1))), (0, .ref nm), (1, .ref a), (2, .int (nI w))]) E.1.1 E.1.2.1 dX5_draftShift_56 hl (k := 0) rfl (nI_1 _) (by decide) rfl (fun ls hl => ?_)
          refine lv_goto (tgt := 27) E.1.1 E.1.2.1 dX5_draftShift_59 (by decide) ?_
          exact ih27  (i + 1) f H locs ls (by omega) (by omega) (by omega) h_nm h_d h_row h_a h_rw hF hw (lv_sub hl [0, 1, 2, 3] rfl)
        · refine lv_aload_n E.1.1 E.1.2.1 dX5_draftShift_48 rfl (lv_at hl 1 rfl) ?_
          refine k_get (v := .ref d) E inlX5 rfl 2 (by decide) w1_233 rfl hw h_nm rfl dX5_draftShift_49 ?_
          refine lv_iload_n E.1.1 E.1.2.1 dX5_draftShift_52 rfl (lv_at hl 0 rfl) ?_
          refine k_mv hw (va_runV (As := [.int (nI i)]) (rest := []) E.1 (c_mark l D cy L f H.size d r0 (t + w) (per) (i) (rb (shU (den t per b) w) (i)) (by omega) h_d h_row) ⟨callB_of 1 E.1.2.2.2.2 (gd_own w2_29) rfl rfl rfl (E.1.2.2.2.2 _ w1_2) (E.1.2.2.2.2 _ w2_26) hd_X0_mark (by rw [hR]; exact ⟨Nat.le_of_ble_eq_true rfl, Nat.le_of_ble_eq_true rfl⟩), E.1.2.2.2.2 _ w2_27, E.1.2.2.2.2 _ w2_28⟩ (pw_preV (q := (RX0, TX0, 3)) E.2 hw h_d rfl) rfl rfl hl.1 rfl (lv_room (Nat.le_of_ble_eq_true rfl)) dX5_draftShift_53 (by rw [hR]; exact ⟨Nat.le_of_ble_eq_true rfl, Nat.le_of_ble_eq_true rfl⟩)) (fun L1 f H locs hp hw => ?_)
          obtain ⟨hL1, hfr, h_row⟩ := hp
          have hL1 : L = L1 := hL1
          subst hL1
          have h_row : cel L f r0 (.inl (cy 1, 59, .inr (.inl (wd (bset (rb (shU (den t per b) w) (i)) (i) true))))) := h_row
          have h_nm := h_nm.keep (fun _ h => h) (hfr _ h_nm.1 n_nm_row)
          have h_d := h_d.keep (fun _ h => h) (hfr _ h_d.1 n_d_row)
          have h_a := h_a.keep (fun _ h => h) (hfr _ h_a.1 n_a_row)
          have h_rw := h_rw.keep (fun _ h => h) (hfr _ h_rw.1 n_rw_row)
          have hF : ∀ b ∈ L, b ≠ d → b ≠ r0 → f b = f0 b := fun b hb h0 h1 => (hfr b (hLs b hb) h1).trans (hF b hb h0 h1)
          rw [rb_t (X := shU (den t per b) w) (i := i) (by show (decide (w ≤ i) && den t per b (i - w)) = true; rw [c45, decide_eq_true hi0]; rfl)] at h_row
          refine lv_iinc (v := nI (i + 1)) (lv' := [(3, .int (nI (i + 1))), (0, .ref nm), (1, .ref a), (2, .int (nI w))]) E.1.1 E.1.2.1 dX5_draftShift_56 hl (k := 0) rfl (nI_1 _) (by decide) rfl (fun ls hl => ?_)
          refine lv_goto (tgt := 27) E.1.1 E.1.2.1 dX5_draftShift_59 (by decide) ?_
          exact ih27  (i + 1) f H locs ls (by omega) (by omega) (by omega) h_nm h_d h_row h_a h_rw hF hw (lv_sub hl [0, 1, 2, 3] rfl)
  exact lp27 (t + w + per - w + 1) w f H locs ls (Nat.lt_succ_self _) (by omega) (by omega) h_nm h_d h_row h_a h_rw hF hw (lv_sub hl [0, 1, 2, 3] rfl)

set_option maxHeartbeats 4000000 in
set_option maxRecDepth 100000 in
theorem c_draftShiftD (l : Launch) (D : va_G) (cy : Nat → ClassId) (L : List Nat) (f0 : Nat → va_E) (sz : Nat) (nm sl im d tr base r0 : Nat) (i1 i2 : Int32) (g : Nat → Int64) (a rw mc t per w : Nat) (b : Nat → Bool) (ht : t ≤ 120) (hper : 0 < per) (hperx : per ≤ 60) (hw1 : w ≤ 100) (h_nm : cel L f0 nm (.inr (5, [.ref sl, .ref im, .ref d, .ref tr, .int (nI base)]))) (h_d : cel L f0 d (.inr (0, [.ref r0, .int i1, .int i2]))) (h_row : cel L f0 r0 (.inl (cy 1, 59, .inr (.inl g)))) (h_a : cel L f0 a (.inr (3, [.int (nI t), .int (nI per), .ref rw, .ref mc]))) (h_rw : cel L f0 rw (.inl (cy 1, 3, .inr (.inl (wd b))))) : Met l yX5_draftShift (.code yX5_draftShift cX5_draftShift 4 none :: wsL_law) { frames := 3, cells := 0, slots := 0, locals := 64 } (va_Pc [.ref nm, .ref a, .int (-nI w)] (PW D cy L f0 sz)) (va_Qv (fun u : List Nat × (Nat → va_E) => L = u.1 ∧ (∀ b ∈ L, b ≠ d → b ≠ r0 → u.2 b = f0 b) ∧ cel L u.2 d (.inr (0, [.ref r0, .int (nI (t - w)), .int (nI (per))])) ∧ cel L u.2 r0 (.inl (cy 1, 59, .inr (.inl (wd (rb (shD (den t per b) w) (t - w + per))))))) (PB D (AW L sz)) (AW L sz)) 0 0 (AW L sz) := by
  refine m_start (by decide) (Nat.le_of_ble_eq_true rfl) ?_
  intro p e R Q s m args below meth c ls hsz hR hQ E hr hlk hnm hw hl
  have hl : lv_has ls 4 [(0, .ref nm), (1, .ref a), (2, .int (-nI w))] := hl
  obtain ⟨H, hH⟩ : ∃ X, X = s.heap := ⟨_, rfl⟩
  obtain ⟨locs, hlocs⟩ : ∃ X : List Loc, X = [] := ⟨_, rfl⟩
  have hw0 := hw
  obtain ⟨f, hf0⟩ : ∃ X, X = f0 := ⟨_, rfl⟩
  rw [← hf0] at h_nm h_d h_row h_a h_rw
  have hw : WW D (AW L sz) s.heap L f H locs := by rw [hH, hlocs, hf0]; exact hw
  have hF : ∀ b ∈ L, b ≠ d → b ≠ r0 → f b = f0 b := fun b hb h0 h1 => by rw [hf0]
  suffices hgo : W p l e R s m args below meth c H locs 0 0 Q (F0 m 0 ls []) by rw [hH, hlocs] at hgo; exact hgo
  clear hH hlocs hw0 hf0
  have hLs : ∀ b ∈ L, b ∈ L := fun _ h => h
  have n_nm_d : nm ≠ d := h_nm.ne h_d (by simp)
  have n_nm_row : nm ≠ r0 := h_nm.ne h_row (by simp)
  have n_d_row : d ≠ r0 := h_d.ne h_row (by simp)
  have n_row_d : r0 ≠ d := h_row.ne h_d (by simp)
  have n_a_d : a ≠ d := h_a.ne h_d (by simp)
  have n_a_row : a ≠ r0 := h_a.ne h_row (by simp)
  have n_rw_d : rw ≠ d := h_rw.ne h_d (by simp)
  have n_rw_row : rw ≠ r0 := h_rw.ne h_row (by simp)
  refine lv_aload_n E.1.1 E.1.2.1 dX5_draftShift_0 rfl (lv_at hl 0 rfl) ?_
  refine k_get (v := .ref d) E inlX5 rfl 2 (by decide) w1_233 rfl hw h_nm rfl dX5_draftShift_1 ?_
  refine lv_iconst (v := nI 0) E.1.1 E.1.2.1 dX5_draftShift_4 rfl ?_
  refine lv_aload_n E.1.1 E.1.2.1 dX5_draftShift_5 rfl (lv_at hl 1 rfl) ?_
  refine k_getN (v := .int (nI t)) E inlX3 rfl 0 (by decide) (List.mem_of_getElem? (i := 15) rfl) rfl hw h_a rfl dX5_draftShift_6 ?_
  refine lv_iload_n E.1.1 E.1.2.1 dX5_draftShift_9 rfl (lv_at hl 2 rfl) ?_
  refine lv_iadd E.1.1 E.1.2.1 dX5_draftShift_10 ?_
  refine va_mmax E.1.1 E.1.2.1 (by rw [E.1.2.2.1]; exact hl.1.symm) E.1.2.2.2.1 (E.1.2.2.2.2 _ w2_45) (E.1.2.2.2.2 _ w1_99) (E.1.2.2.2.2 _ w1_5) (E.1.2.2.2.2 _ w1_100) (by rw [hR]; exact Nat.le_of_ble_eq_true rfl) (by rw [hR]; exact Nat.le_of_ble_eq_true rfl) (by rw [hR]; exact Nat.le_of_ble_eq_true rfl) (by rw [hR]; first | exact Nat.le_of_ble_eq_true rfl | (dsimp only; omega)) dX5_draftShift_11 ?_
  refine k_top E (nI (t - w)) (mxneg (by omega) (by omega)) ?_
  refine lv_aload_n E.1.1 E.1.2.1 dX5_draftShift_14 rfl (lv_at hl 1 rfl) ?_
  refine k_getN (v := .int (nI per)) E inlX3 rfl 1 (by decide) (List.mem_of_getElem? (i := 16) rfl) rfl hw h_a rfl dX5_draftShift_15 ?_
  refine k_mv hw (va_runV (As := [.int (nI (t - w)), .int (nI per)]) (rest := []) E.1 (c_open l D cy L f H.size d r0 (t - w) (per) i1 i2 g (by omega) (by omega) (by omega) h_d h_row) ⟨callB_of 2 E.1.2.2.2.2 (gd_own w1_97) rfl rfl rfl (E.1.2.2.2.2 _ w1_2) (E.1.2.2.2.2 _ w1_94) hd_X0_open (by rw [hR]; exact ⟨Nat.le_of_ble_eq_true rfl, Nat.le_of_ble_eq_true rfl⟩), E.1.2.2.2.2 _ w1_95, E.1.2.2.2.2 _ w1_96⟩ (pw_preV (q := (RX0, TX0, 3)) E.2 hw h_d rfl) rfl rfl hl.1 rfl (lv_room (Nat.le_of_ble_eq_true rfl)) dX5_draftShift_18 (by rw [hR]; exact ⟨Nat.le_of_ble_eq_true rfl, Nat.le_of_ble_eq_true rfl⟩)) (fun L1 f H locs hp hw => ?_)
  obtain ⟨hL1, hfr, h_d, h_row⟩ := hp
  have hL1 : L = L1 := hL1
  subst hL1
  have h_d : cel L f d (.inr (0, [.ref r0, .int (nI (t - w)), .int (nI per)])) := h_d
  have h_row : cel L f r0 (.inl (cy 1, 59, .inr (.inl (wd (fun _ => false))))) := h_row
  have h_nm := h_nm.keep (fun _ h => h) (hfr _ h_nm.1 n_nm_d n_nm_row)
  have h_a := h_a.keep (fun _ h => h) (hfr _ h_a.1 n_a_d n_a_row)
  have h_rw := h_rw.keep (fun _ h => h) (hfr _ h_rw.1 n_rw_d n_rw_row)
  have hF : ∀ b ∈ L, b ≠ d → b ≠ r0 → f b = f0 b := fun b hb h0 h1 => (hfr b (hLs b hb) h0 h1).trans (hF b hb h0 h1)
  rw [← rb_0 (shD (den t per b) w)] at h_row
  refine lv_iconst (v := nI 0) E.1.1 E.1.2.1 dX5_draftShift_21 rfl ?_
  refine lv_iload_n E.1.1 E.1.2.1 dX5_draftShift_22 rfl (lv_at hl 2 rfl) ?_
  refine va_mmax E.1.1 E.1.2.1 (by rw [E.1.2.2.1]; exact hl.1.symm) E.1.2.2.2.1 (E.1.2.2.2.2 _ w2_45) (E.1.2.2.2.2 _ w1_99) (E.1.2.2.2.2 _ w1_5) (E.1.2.2.2.2 _ w1_100) (by rw [hR]; exact Nat.le_of_ble_eq_true rfl) (by rw [hR]; exact Nat.le_of_ble_eq_true rfl) (by rw [hR]; exact Nat.le_of_ble_eq_true rfl) (by rw [hR]; first | exact Nat.le_of_ble_eq_true rfl | (dsimp only; omega)) dX5_draftShift_23 ?_
  refine k_top E (nI 0) (mxneg0 (by omega)) ?_
  refine lv_istore_n (lv' := [(3, .int (nI 0)), (0, .ref nm), (1, .ref a), (2, .int (-nI w))]) E.1.1 E.1.2.1 dX5_draftShift_26 rfl hl (by decide) rfl (fun ls hl => ?_)
  have lp27 : ∀ (k : Nat) (i : Nat) (f : Nat → va_E) (H : Heap) (locs : List Loc) (ls : Array Slot), (t - w + per - i < k) → (i ≤ t - w + per) → (cel L f nm (.inr (5, [.ref sl, .ref im, .ref d, .ref tr, .int (nI base)]))) → (cel L f d (.inr (0, [.ref r0, .int (nI (t - w)), .int (nI per)]))) → (cel L f r0 (.inl (cy 1, 59, .inr (.inl (wd (rb (shD (den t per b) w) (i))))))) → (cel L f a (.inr (3, [.int (nI t), .int (nI per), .ref rw, .ref mc]))) → (cel L f rw (.inl (cy 1, 3, .inr (.inl (wd b))))) → (∀ b ∈ L, b ≠ d → b ≠ r0 → f b = f0 b) → (WW D (AW L sz) s.heap L f H locs) → (lv_has ls 4 [(3, .int (nI i)), (0, .ref nm), (1, .ref a), (2, .int (-nI w))]) → W p l e R s m args below meth c H locs 0 0 Q (F0 m 27 ls []) := by
    intro k
    induction k with
    | zero => intro _ _ _ _ _ hk; exact absurd hk (Nat.not_lt_zero _)
    | succ k ih27 =>
      intro i f H locs ls hk hi h_nm h_d h_row h_a h_rw hF hw hl
      refine lv_iload_n E.1.1 E.1.2.1 dX5_draftShift_27 rfl (lv_at hl 0 rfl) ?_
      refine lv_aload_n E.1.1 E.1.2.1 dX5_draftShift_28 rfl (lv_at hl 1 rfl) ?_
      refine k_get (v := .ref d) E inlX5 rfl 2 (by decide) w1_233 rfl hw h_nm rfl dX5_draftShift_29 ?_
      refine k_ri (va_runV (As := []) (rest := [.int (nI i)]) E.1 (c_length l D cy L f H.size d r0 (t - w) (per) h_d) ⟨callB_of 0 E.1.2.2.2.2 (gd_own w1_123) rfl rfl rfl (E.1.2.2.2.2 _ w1_2) (E.1.2.2.2.2 _ w2_49) hd_X0_length (by rw [hR]; exact ⟨Nat.le_of_ble_eq_true rfl, Nat.le_of_ble_eq_true rfl⟩), E.1.2.2.2.2 _ w1_121, E.1.2.2.2.2 _ w1_122⟩ (pw_preV (q := (RX0, TX0, 3)) E.2 hw h_d rfl) rfl rfl hl.1 rfl (lv_room (Nat.le_of_ble_eq_true rfl)) dX5_draftShift_32 ⟨Nat.zero_le _, Nat.zero_le _⟩) ?_
      refine k_ge (tgt := 62) E dX5_draftShift_35 (by decide) (by omega) (by omega) (fun c35 => ?_) (fun c35 => ?_)
      · exact k_mvret E hQ hlk hr hw (Nat.le_of_ble_eq_true rfl) (Nat.le_of_ble_eq_true rfl) (⟨rfl, hF, h_d, by rw [show t - w + per = i by omega]; exact h_row⟩) dX5_draftShift_62
      · refine lv_aload_n E.1.1 E.1.2.1 dX5_draftShift_38 rfl (lv_at hl 2 rfl) ?_
        refine lv_iload_n E.1.1 E.1.2.1 dX5_draftShift_39 rfl (lv_at hl 0 rfl) ?_
        refine lv_iload_n E.1.1 E.1.2.1 dX5_draftShift_40 rfl (lv_at hl 3 rfl) ?_
        refine lv_isub E.1.1 E.1.2.1 dX5_draftShift_41 ?_
        refine k_top E (nI (i + w)) nI_nn ?_
        refine k_ri (va_runV (As := [.int (nI (i + w))]) (rest := []) E.1 (c_holds l D cy L f H.size a rw mc t per (i + w) b ht hper hperx (by omega) h_a h_rw) ⟨callB_of 1 E.1.2.2.2.2 (gd_own w2_81) rfl rfl rfl (E.1.2.2.2.2 _ w1_8) (E.1.2.2.2.2 _ w2_78) hd_X3_holds (by rw [hR]; exact ⟨Nat.le_of_ble_eq_true rfl, Nat.le_of_ble_eq_true rfl⟩), E.1.2.2.2.2 _ w2_79, E.1.2.2.2.2 _ w2_80⟩ (pw_preV (q := (RX3, TX3, 4)) E.2 hw h_a rfl) rfl rfl hl.1 rfl (lv_room (Nat.le_of_ble_eq_true rfl)) dX5_draftShift_42 ⟨Nat.zero_le _, Nat.zero_le _⟩) ?_
        refine k_if0 (tgt := 56) E dX5_draftShift_45 (by decide) (fun c45 => ?_) (fun c45 => ?_)
        · rw [rb_f (X := shD (den t per b) w) (i := i) (c45)] at h_row
          refine lv_iinc (v := nI (i + 1)) (lv' := [(3, .int (nI (i + 1))), (0, .ref nm), (1, .ref a), (2, .int (-nI w))]) E.1.1 E.1.2.1 dX5_draftShift_56 hl (k := 0) rfl (nI_1 _) (by decide) rfl (fun ls hl => ?_)
          refine lv_goto (tgt := 27) E.1.1 E.1.2.1 dX5_draftShift_59 (by decide) ?_
          exact ih27  (i + 1) f H locs ls (by omega) (by omega) h_nm h_d h_row h_a h_rw hF hw (lv_sub hl [0, 1, 2, 3] rfl)
        · refine lv_aload_n E.1.1 E.1.2.1 dX5_draftShift_48 rfl (lv_at hl 1 rfl) ?_
          refine k_get (v := .ref d) E inlX5 rfl 2 (by decide) w1_233 rfl hw h_nm rfl dX5_draftShift_49 ?_
          refine lv_iload_n E.1.1 E.1.2.1 dX5_draftShift_52 rfl (lv_at hl 0 rfl) ?_
          refine k_mv hw (va_runV (As := [.int (nI i)]) (rest := []) E.1 (c_mark l D cy L f H.size d r0 (t - w) (per) (i) (rb (shD (den t per b) w) (i)) (by omega) h_d h_row) ⟨callB_of 1 E.1.2.2.2.2 (gd_own w2_29) rfl rfl rfl (E.1.2.2.2.2 _ w1_2) (E.1.2.2.2.2 _ w2_26) hd_X0_mark (by rw [hR]; exact ⟨Nat.le_of_ble_eq_true rfl, Nat.le_of_ble_eq_true rfl⟩), E.1.2.2.2.2 _ w2_27, E.1.2.2.2.2 _ w2_28⟩ (pw_preV (q := (RX0, TX0, 3)) E.2 hw h_d rfl) rfl rfl hl.1 rfl (lv_room (Nat.le_of_ble_eq_true rfl)) dX5_draftShift_53 (by rw [hR]; exact ⟨Nat.le_of_ble_eq_true rfl, Nat.le_of_ble_eq_true rfl⟩)) (fun L1 f H locs hp hw => ?_)
          obtain ⟨hL1, hfr, h_row⟩ := hp
          have hL1 : L = L1 := hL1
          subst hL1
          have h_row : cel L f r0 (.inl (cy 1, 59, .inr (.inl (wd (bset (rb (shD (den t per b) w) (i)) (i) true))))) := h_row
          have h_nm := h_nm.keep (fun _ h => h) (hfr _ h_nm.1 n_nm_row)
          have h_d := h_d.keep (fun _ h => h) (hfr _ h_d.1 n_d_row)
          have h_a := h_a.keep (fun _ h => h) (hfr _ h_a.1 n_a_row)
          have h_rw := h_rw.keep (fun _ h => h) (hfr _ h_rw.1 n_rw_row)
          have hF : ∀ b ∈ L, b ≠ d → b ≠ r0 → f b = f0 b := fun b hb h0 h1 => (hfr b (hLs b hb) h1).trans (hF b hb h0 h1)
          rw [rb_t (X := shD (den t per b) w) (i := i) (c45)] at h_row
          refine lv_iinc (v := nI (i + 1)) (lv' := [(3, .int (nI (i + 1))), (0, .ref nm), (1, .ref a), (2, .int (-nI w))]) E.1.1 E.1.2.1 dX5_draftShift_56 hl (k := 0) rfl (nI_1 _) (by decide) rfl (fun ls hl => ?_)
          refine lv_goto (tgt := 27) E.1.1 E.1.2.1 dX5_draftShift_59 (by decide) ?_
          exact ih27  (i + 1) f H locs ls (by omega) (by omega) h_nm h_d h_row h_a h_rw hF hw (lv_sub hl [0, 1, 2, 3] rfl)
  exact lp27 (t - w + per - 0 + 1) 0 f H locs ls (Nat.lt_succ_self _) (by omega) h_nm h_d h_row h_a h_rw hF hw (lv_sub hl [0, 1, 2, 3] rfl)

set_option maxHeartbeats 4000000 in
set_option maxRecDepth 100000 in
theorem c_draftStretch (l : Launch) (D : va_G) (cy : Nat → ClassId) (L : List Nat) (f0 : Nat → va_E) (sz : Nat) (nm sl im d tr base r0 : Nat) (i1 i2 : Int32) (g : Nat → Int64) (a rw mc t per w v : Nat) (b : Nat → Bool) (ht : t ≤ 120) (hper : 0 < per) (hperx : per ≤ 60) (hw0 : 0 < w) (hw1 : w ≤ 12) (hv : v ≤ 20) (h_nm : cel L f0 nm (.inr (5, [.ref sl, .ref im, .ref d, .ref tr, .int (nI base)]))) (h_d : cel L f0 d (.inr (0, [.ref r0, .int i1, .int i2]))) (h_row : cel L f0 r0 (.inl (cy 1, 59, .inr (.inl g)))) (h_a : cel L f0 a (.inr (3, [.int (nI t), .int (nI per), .ref rw, .ref mc]))) (h_rw : cel L f0 rw (.inl (cy 1, 3, .inr (.inl (wd b))))) : Met l yX5_draftStretch (.code yX5_draftStretch cX5_draftStretch 5 none :: wsL_law) { frames := 2, cells := 0, slots := 0, locals := 46 } (va_Pc [.ref nm, .ref a, .int (nI w), .int (nI v)] (PW D cy L f0 sz)) (va_Qv (fun u : List Nat × (Nat → va_E) => L = u.1 ∧ (∀ b ∈ L, b ≠ d → b ≠ r0 → u.2 b = f0 b) ∧ cel L u.2 d (.inr (0, [.ref r0, .int (nI (w * t + v)), .int (nI (w * per))])) ∧ cel L u.2 r0 (.inl (cy 1, 59, .inr (.inl (wd (rb (stU (den t per b) w v) (w * t + v + w * per))))))) (PB D (AW L sz)) (AW L sz)) 0 0 (AW L sz) := by
  refine m_start (by decide) (Nat.le_of_ble_eq_true rfl) ?_
  intro p e R Q s m args below meth c ls hsz hR hQ E hr hlk hnm hw hl
  have hl : lv_has ls 5 [(0, .ref nm), (1, .ref a), (2, .int (nI w)), (3, .int (nI v))] := hl
  obtain ⟨H, hH⟩ : ∃ X, X = s.heap := ⟨_, rfl⟩
  obtain ⟨locs, hlocs⟩ : ∃ X : List Loc, X = [] := ⟨_, rfl⟩
  have hw0 := hw
  obtain ⟨f, hf0⟩ : ∃ X, X = f0 := ⟨_, rfl⟩
  rw [← hf0] at h_nm h_d h_row h_a h_rw
  have hw : WW D (AW L sz) s.heap L f H locs := by rw [hH, hlocs, hf0]; exact hw
  have hF : ∀ b ∈ L, b ≠ d → b ≠ r0 → f b = f0 b := fun b hb h0 h1 => by rw [hf0]
  suffices hgo : W p l e R s m args below meth c H locs 0 0 Q (F0 m 0 ls []) by rw [hH, hlocs] at hgo; exact hgo
  clear hH hlocs hw0 hf0
  have hLs : ∀ b ∈ L, b ∈ L := fun _ h => h
  have n_nm_d : nm ≠ d := h_nm.ne h_d (by simp)
  have n_nm_row : nm ≠ r0 := h_nm.ne h_row (by simp)
  have n_d_row : d ≠ r0 := h_d.ne h_row (by simp)
  have n_row_d : r0 ≠ d := h_row.ne h_d (by simp)
  have n_a_d : a ≠ d := h_a.ne h_d (by simp)
  have n_a_row : a ≠ r0 := h_a.ne h_row (by simp)
  have n_rw_d : rw ≠ d := h_rw.ne h_d (by simp)
  have n_rw_row : rw ≠ r0 := h_rw.ne h_row (by simp)
  have hwt : w * t ≤ 12 * 120 := Nat.mul_le_mul hw1 ht
  have hwp : w * per ≤ 12 * 60 := Nat.mul_le_mul hw1 hperx
  have hwp0 : 0 < w * per := Nat.mul_pos hw0 hper
  refine lv_aload_n E.1.1 E.1.2.1 dX5_draftStretch_0 rfl (lv_at hl 0 rfl) ?_
  refine k_get (v := .ref d) E inlX5 rfl 2 (by decide) w1_233 rfl hw h_nm rfl dX5_draftStretch_1 ?_
  refine lv_iload_n E.1.1 E.1.2.1 dX5_draftStretch_4 rfl (lv_at hl 2 rfl) ?_
  refine lv_aload_n E.1.1 E.1.2.1 dX5_draftStretch_5 rfl (lv_at hl 1 rfl) ?_
  refine k_getN (v := .int (nI t)) E inlX3 rfl 0 (by decide) (List.mem_of_getElem? (i := 15) rfl) rfl hw h_a rfl dX5_draftStretch_6 ?_
  refine k_mul E dX5_draftStretch_9 ?_
  refine lv_iload_n E.1.1 E.1.2.1 dX5_draftStretch_10 rfl (lv_at hl 3 rfl) ?_
  refine k_add E dX5_draftStretch_11 ?_
  refine lv_iload_n E.1.1 E.1.2.1 dX5_draftStretch_12 rfl (lv_at hl 2 rfl) ?_
  refine lv_aload_n E.1.1 E.1.2.1 dX5_draftStretch_13 rfl (lv_at hl 1 rfl) ?_
  refine k_getN (v := .int (nI per)) E inlX3 rfl 1 (by decide) (List.mem_of_getElem? (i := 16) rfl) rfl hw h_a rfl dX5_draftStretch_14 ?_
  refine k_mul E dX5_draftStretch_17 ?_
  refine k_mv hw (va_runV (As := [.int (nI ((w * t) + v)), .int (nI (w * per))]) (rest := []) E.1 (c_open l D cy L f H.size d r0 ((w * t) + v) (w * per) i1 i2 g (by omega) (by omega) (by omega) h_d h_row) ⟨callB_of 2 E.1.2.2.2.2 (gd_own w1_97) rfl rfl rfl (E.1.2.2.2.2 _ w1_2) (E.1.2.2.2.2 _ w1_94) hd_X0_open (by rw [hR]; exact ⟨Nat.le_of_ble_eq_true rfl, Nat.le_of_ble_eq_true rfl⟩), E.1.2.2.2.2 _ w1_95, E.1.2.2.2.2 _ w1_96⟩ (pw_preV (q := (RX0, TX0, 3)) E.2 hw h_d rfl) rfl rfl hl.1 rfl (lv_room (Nat.le_of_ble_eq_true rfl)) dX5_draftStretch_18 (by rw [hR]; exact ⟨Nat.le_of_ble_eq_true rfl, Nat.le_of_ble_eq_true rfl⟩)) (fun L1 f H locs hp hw => ?_)
  obtain ⟨hL1, hfr, h_d, h_row⟩ := hp
  have hL1 : L = L1 := hL1
  subst hL1
  have h_d : cel L f d (.inr (0, [.ref r0, .int (nI ((w * t) + v)), .int (nI (w * per))])) := h_d
  have h_row : cel L f r0 (.inl (cy 1, 59, .inr (.inl (wd (fun _ => false))))) := h_row
  have h_nm := h_nm.keep (fun _ h => h) (hfr _ h_nm.1 n_nm_d n_nm_row)
  have h_a := h_a.keep (fun _ h => h) (hfr _ h_a.1 n_a_d n_a_row)
  have h_rw := h_rw.keep (fun _ h => h) (hfr _ h_rw.1 n_rw_d n_rw_row)
  have hF : ∀ b ∈ L, b ≠ d → b ≠ r0 → f b = f0 b := fun b hb h0 h1 => (hfr b (hLs b hb) h0 h1).trans (hF b hb h0 h1)
  rw [rb_none (X := stU (den t per b) w v) (i := w * 0 + v) (fun n hn => stU_low (by omega))] at h_row
  refine lv_iconst (v := nI 0) E.1.1 E.1.2.1 dX5_draftStretch_21 rfl ?_
  refine lv_istore (lv' := [(4, .int (nI 0)), (0, .ref nm), (1, .ref a), (2, .int (nI w)), (3, .int (nI v))]) E.1.1 E.1.2.1 dX5_draftStretch_22 hl (by decide) rfl (fun ls hl => ?_)
  have lp24 : ∀ (k : Nat) (i : Nat) (f : Nat → va_E) (H : Heap) (locs : List Loc) (ls : Array Slot), (t + per - i < k) → (i ≤ t + per) → (cel L f nm (.inr (5, [.ref sl, .ref im, .ref d, .ref tr, .int (nI base)]))) → (cel L f d (.inr (0, [.ref r0, .int (nI ((w * t) + v)), .int (nI (w * per))]))) → (cel L f r0 (.inl (cy 1, 59, .inr (.inl (wd (rb (stU (den t per b) w v) (w * i + v))))))) → (cel L f a (.inr (3, [.int (nI t), .int (nI per), .ref rw, .ref mc]))) → (cel L f rw (.inl (cy 1, 3, .inr (.inl (wd b))))) → (∀ b ∈ L, b ≠ d → b ≠ r0 → f b = f0 b) → (WW D (AW L sz) s.heap L f H locs) → (lv_has ls 5 [(4, .int (nI i)), (0, .ref nm), (1, .ref a), (2, .int (nI w)), (3, .int (nI v))]) → W p l e R s m args below meth c H locs 0 0 Q (F0 m 24 ls []) := by
    intro k
    induction k with
    | zero => intro _ _ _ _ _ hk; exact absurd hk (Nat.not_lt_zero _)
    | succ k ih24 =>
      intro i f H locs ls hk hi h_nm h_d h_row h_a h_rw hF hw hl
      refine lv_iload E.1.1 E.1.2.1 dX5_draftStretch_24 (lv_at hl 0 rfl) ?_
      refine lv_aload_n E.1.1 E.1.2.1 dX5_draftStretch_26 rfl (lv_at hl 2 rfl) ?_
      refine k_getN (v := .int (nI t)) E inlX3 rfl 0 (by decide) (List.mem_of_getElem? (i := 15) rfl) rfl hw h_a rfl dX5_draftStretch_27 ?_
      refine lv_aload_n E.1.1 E.1.2.1 dX5_draftStretch_30 rfl (lv_at hl 2 rfl) ?_
      refine k_getN (v := .int (nI per)) E inlX3 rfl 1 (by decide) (List.mem_of_getElem? (i := 16) rfl) rfl hw h_a rfl dX5_draftStretch_31 ?_
      refine k_add E dX5_draftStretch_34 ?_
      refine k_ge (tgt := 66) E dX5_draftStretch_35 (by decide) (by omega) (by omega) (fun c35 => ?_) (fun c35 => ?_)
      · exact k_mvret E hQ hlk hr hw (Nat.le_of_ble_eq_true rfl) (Nat.le_of_ble_eq_true rfl) (⟨rfl, hF, h_d, by rw [show w * t + v + w * per = w * i + v by rw [show i = t + per by omega, Nat.mul_add]; omega]; exact h_row⟩) dX5_draftStretch_66
      · have hwi : w * i ≤ 12 * 180 := Nat.mul_le_mul hw1 (by omega)
        refine lv_aload_n E.1.1 E.1.2.1 dX5_draftStretch_38 rfl (lv_at hl 2 rfl) ?_
        refine lv_iload E.1.1 E.1.2.1 dX5_draftStretch_39 (lv_at hl 0 rfl) ?_
        refine k_ri (va_runV (As := [.int (nI i)]) (rest := []) E.1 (c_at l D cy L f H.size a rw mc t per i b ht hper hperx (by omega) h_a h_rw) ⟨callB_of 1 E.1.2.2.2.2 (gd_own w2_53) rfl rfl rfl (E.1.2.2.2.2 _ w1_8) (E.1.2.2.2.2 _ w2_50) hd_X3_at (by rw [hR]; exact ⟨Nat.le_of_ble_eq_true rfl, Nat.le_of_ble_eq_true rfl⟩), E.1.2.2.2.2 _ w2_51, E.1.2.2.2.2 _ w2_52⟩ (pw_preV (q := (RX3, TX3, 4)) E.2 hw h_a rfl) rfl rfl hl.1 rfl (lv_room (Nat.le_of_ble_eq_true rfl)) dX5_draftStretch_41 ⟨Nat.zero_le _, Nat.zero_le _⟩) ?_
        refine k_if0 (tgt := 60) E dX5_draftStretch_44 (by decide) (fun c44 => ?_) (fun c44 => ?_)
        · rw [show rb (stU (den t per b) w v) (w * i + v) = rb (stU (den t per b) w v) (w * (i + 1) + v) from stU_s hw0 false (by rw [den_in b (by omega)]; exact c44)] at h_row
          refine lv_iinc (v := nI (i + 1)) (lv' := [(4, .int (nI (i + 1))), (0, .ref nm), (1, .ref a), (2, .int (nI w)), (3, .int (nI v))]) E.1.1 E.1.2.1 dX5_draftStretch_60 hl (k := 0) rfl (nI_1 _) (by decide) rfl (fun ls hl => ?_)
          refine lv_goto (tgt := 24) E.1.1 E.1.2.1 dX5_draftStretch_63 (by decide) ?_
          exact ih24  (i + 1) f H locs ls (by omega) (by omega) h_nm h_d h_row h_a h_rw hF hw (lv_sub hl [0, 1, 2, 3, 4] rfl)
        · refine lv_aload_n E.1.1 E.1.2.1 dX5_draftStretch_47 rfl (lv_at hl 1 rfl) ?_
          refine k_get (v := .ref d) E inlX5 rfl 2 (by decide) w1_233 rfl hw h_nm rfl dX5_draftStretch_48 ?_
          refine lv_iload_n E.1.1 E.1.2.1 dX5_draftStretch_51 rfl (lv_at hl 3 rfl) ?_
          refine lv_iload E.1.1 E.1.2.1 dX5_draftStretch_52 (lv_at hl 0 rfl) ?_
          refine k_mul E dX5_draftStretch_54 ?_
          refine lv_iload_n E.1.1 E.1.2.1 dX5_draftStretch_55 rfl (lv_at hl 4 rfl) ?_
          refine k_add E dX5_draftStretch_56 ?_
          refine k_mv hw (va_runV (As := [.int (nI ((w * i) + v))]) (rest := []) E.1 (c_mark l D cy L f H.size d r0 ((w * t) + v) (w * per) ((w * i) + v) (rb (stU (den t per b) w v) (w * i + v)) (by omega) h_d h_row) ⟨callB_of 1 E.1.2.2.2.2 (gd_own w2_29) rfl rfl rfl (E.1.2.2.2.2 _ w1_2) (E.1.2.2.2.2 _ w2_26) hd_X0_mark (by rw [hR]; exact ⟨Nat.le_of_ble_eq_true rfl, Nat.le_of_ble_eq_true rfl⟩), E.1.2.2.2.2 _ w2_27, E.1.2.2.2.2 _ w2_28⟩ (pw_preV (q := (RX0, TX0, 3)) E.2 hw h_d rfl) rfl rfl hl.1 rfl (lv_room (Nat.le_of_ble_eq_true rfl)) dX5_draftStretch_57 (by rw [hR]; exact ⟨Nat.le_of_ble_eq_true rfl, Nat.le_of_ble_eq_true rfl⟩)) (fun L1 f H locs hp hw => ?_)
          obtain ⟨hL1, hfr, h_row⟩ := hp
          have hL1 : L = L1 := hL1
          subst hL1
          have h_row : cel L f r0 (.inl (cy 1, 59, .inr (.inl (wd (bset (rb (stU (den t per b) w v) (w * i + v)) ((w * i) + v) true))))) := h_row
          have h_nm := h_nm.keep (fun _ h => h) (hfr _ h_nm.1 n_nm_row)
          have h_d := h_d.keep (fun _ h => h) (hfr _ h_d.1 n_d_row)
          have h_a := h_a.keep (fun _ h => h) (hfr _ h_a.1 n_a_row)
          have h_rw := h_rw.keep (fun _ h => h) (hfr _ h_rw.1 n_rw_row)
          have hF : ∀ b ∈ L, b ≠ d → b ≠ r0 → f b = f0 b := fun b hb h0 h1 => (hfr b (hLs b hb) h1).trans (hF b hb h0 h1)
          rw [show bset (rb (stU (den t per b) w v) (w * i + v)) (w * i + v) true = rb (stU (den t per b) w v) (w * (i + 1) + v) from stU_s hw0 true (by rw [den_in b (by omega)]; exact c44)] at h_row
          refine lv_iinc (v := nI (i + 1)) (lv' := [(4, .int (nI (i + 1))), (0, .ref nm), (1, .ref a), (2, .int (nI w)), (3, .int (nI v))]) E.1.1 E.1.2.1 dX5_draftStretch_60 hl (k := 0) rfl (nI_1 _) (by decide) rfl (fun ls hl => ?_)
          refine lv_goto (tgt := 24) E.1.1 E.1.2.1 dX5_draftStretch_63 (by decide) ?_
          exact ih24  (i + 1) f H locs ls (by omega) (by omega) h_nm h_d h_row h_a h_rw hF hw (lv_sub hl [0, 1, 2, 3, 4] rfl)
  exact lp24 (t + per - 0 + 1) 0 f H locs ls (Nat.lt_succ_self _) (by omega) h_nm h_d h_row h_a h_rw hF hw (lv_sub hl [0, 1, 2, 3, 4] rfl)

set_option maxHeartbeats 4000000 in
set_option maxRecDepth 100000 in
theorem c_draftShrink (l : Launch) (D : va_G) (cy : Nat → ClassId) (L : List Nat) (f0 : Nat → va_E) (sz : Nat) (nm sl im d tr base r0 : Nat) (i1 i2 : Int32) (g : Nat → Int64) (a rw mc t per w v : Nat) (b : Nat → Bool) (ht : t ≤ 120) (hper : 0 < per) (hperx : per ≤ 60) (hw0 : 0 < w) (hw1 : w ≤ 12) (hv : v ≤ 20) (h_nm : cel L f0 nm (.inr (5, [.ref sl, .ref im, .ref d, .ref tr, .int (nI base)]))) (h_d : cel L f0 d (.inr (0, [.ref r0, .int i1, .int i2]))) (h_row : cel L f0 r0 (.inl (cy 1, 59, .inr (.inl g)))) (h_a : cel L f0 a (.inr (3, [.int (nI t), .int (nI per), .ref rw, .ref mc]))) (h_rw : cel L f0 rw (.inl (cy 1, 3, .inr (.inl (wd b))))) : Met l yX5_draftShrink (.code yX5_draftShrink cX5_draftShrink 5 none :: wsL_law) { frames := 3, cells := 0, slots := 0, locals := 64 } (va_Pc [.ref nm, .ref a, .int (nI w), .int (nI v)] (PW D cy L f0 sz)) (va_Qv (fun u : List Nat × (Nat → va_E) => L = u.1 ∧ (∀ b ∈ L, b ≠ d → b ≠ r0 → u.2 b = f0 b) ∧ cel L u.2 d (.inr (0, [.ref r0, .int (nI (t)), .int (nI (per))])) ∧ cel L u.2 r0 (.inl (cy 1, 59, .inr (.inl (wd (rb (skD (den t per b) w v) (t + per))))))) (PB D (AW L sz)) (AW L sz)) 0 0 (AW L sz) := by
  refine m_start (by decide) (Nat.le_of_ble_eq_true rfl) ?_
  intro p e R Q s m args below meth c ls hsz hR hQ E hr hlk hnm hw hl
  have hl : lv_has ls 5 [(0, .ref nm), (1, .ref a), (2, .int (nI w)), (3, .int (nI v))] := hl
  obtain ⟨H, hH⟩ : ∃ X, X = s.heap := ⟨_, rfl⟩
  obtain ⟨locs, hlocs⟩ : ∃ X : List Loc, X = [] := ⟨_, rfl⟩
  have hw0 := hw
  obtain ⟨f, hf0⟩ : ∃ X, X = f0 := ⟨_, rfl⟩
  rw [← hf0] at h_nm h_d h_row h_a h_rw
  have hw : WW D (AW L sz) s.heap L f H locs := by rw [hH, hlocs, hf0]; exact hw
  have hF : ∀ b ∈ L, b ≠ d → b ≠ r0 → f b = f0 b := fun b hb h0 h1 => by rw [hf0]
  suffices hgo : W p l e R s m args below meth c H locs 0 0 Q (F0 m 0 ls []) by rw [hH, hlocs] at hgo; exact hgo
  clear hH hlocs hw0 hf0
  have hLs : ∀ b ∈ L, b ∈ L := fun _ h => h
  have n_nm_d : nm ≠ d := h_nm.ne h_d (by simp)
  have n_nm_row : nm ≠ r0 := h_nm.ne h_row (by simp)
  have n_d_row : d ≠ r0 := h_d.ne h_row (by simp)
  have n_row_d : r0 ≠ d := h_row.ne h_d (by simp)
  have n_a_d : a ≠ d := h_a.ne h_d (by simp)
  have n_a_row : a ≠ r0 := h_a.ne h_row (by simp)
  have n_rw_d : rw ≠ d := h_rw.ne h_d (by simp)
  have n_rw_row : rw ≠ r0 := h_rw.ne h_row (by simp)
  refine lv_aload_n E.1.1 E.1.2.1 dX5_draftShrink_0 rfl (lv_at hl 0 rfl) ?_
  refine k_get (v := .ref d) E inlX5 rfl 2 (by decide) w1_233 rfl hw h_nm rfl dX5_draftShrink_1 ?_
  refine lv_aload_n E.1.1 E.1.2.1 dX5_draftShrink_4 rfl (lv_at hl 1 rfl) ?_
  refine k_getN (v := .int (nI t)) E inlX3 rfl 0 (by decide) (List.mem_of_getElem? (i := 15) rfl) rfl hw h_a rfl dX5_draftShrink_5 ?_
  refine lv_aload_n E.1.1 E.1.2.1 dX5_draftShrink_8 rfl (lv_at hl 1 rfl) ?_
  refine k_getN (v := .int (nI per)) E inlX3 rfl 1 (by decide) (List.mem_of_getElem? (i := 16) rfl) rfl hw h_a rfl dX5_draftShrink_9 ?_
  refine k_mv hw (va_runV (As := [.int (nI t), .int (nI per)]) (rest := []) E.1 (c_open l D cy L f H.size d r0 (t) (per) i1 i2 g (by omega) (by omega) (by omega) h_d h_row) ⟨callB_of 2 E.1.2.2.2.2 (gd_own w1_97) rfl rfl rfl (E.1.2.2.2.2 _ w1_2) (E.1.2.2.2.2 _ w1_94) hd_X0_open (by rw [hR]; exact ⟨Nat.le_of_ble_eq_true rfl, Nat.le_of_ble_eq_true rfl⟩), E.1.2.2.2.2 _ w1_95, E.1.2.2.2.2 _ w1_96⟩ (pw_preV (q := (RX0, TX0, 3)) E.2 hw h_d rfl) rfl rfl hl.1 rfl (lv_room (Nat.le_of_ble_eq_true rfl)) dX5_draftShrink_12 (by rw [hR]; exact ⟨Nat.le_of_ble_eq_true rfl, Nat.le_of_ble_eq_true rfl⟩)) (fun L1 f H locs hp hw => ?_)
  obtain ⟨hL1, hfr, h_d, h_row⟩ := hp
  have hL1 : L = L1 := hL1
  subst hL1
  have h_d : cel L f d (.inr (0, [.ref r0, .int (nI t), .int (nI per)])) := h_d
  have h_row : cel L f r0 (.inl (cy 1, 59, .inr (.inl (wd (fun _ => false))))) := h_row
  have h_nm := h_nm.keep (fun _ h => h) (hfr _ h_nm.1 n_nm_d n_nm_row)
  have h_a := h_a.keep (fun _ h => h) (hfr _ h_a.1 n_a_d n_a_row)
  have h_rw := h_rw.keep (fun _ h => h) (hfr _ h_rw.1 n_rw_d n_rw_row)
  have hF : ∀ b ∈ L, b ≠ d → b ≠ r0 → f b = f0 b := fun b hb h0 h1 => (hfr b (hLs b hb) h0 h1).trans (hF b hb h0 h1)
  rw [← rb_0 (skD (den t per b) w v)] at h_row
  refine lv_iconst (v := nI 0) E.1.1 E.1.2.1 dX5_draftShrink_15 rfl ?_
  refine lv_istore (lv' := [(4, .int (nI 0)), (0, .ref nm), (1, .ref a), (2, .int (nI w)), (3, .int (nI v))]) E.1.1 E.1.2.1 dX5_draftShrink_16 hl (by decide) rfl (fun ls hl => ?_)
  have lp18 : ∀ (k : Nat) (i : Nat) (f : Nat → va_E) (H : Heap) (locs : List Loc) (ls : Array Slot), (t + per - i < k) → (i ≤ t + per) → (cel L f nm (.inr (5, [.ref sl, .ref im, .ref d, .ref tr, .int (nI base)]))) → (cel L f d (.inr (0, [.ref r0, .int (nI t), .int (nI per)]))) → (cel L f r0 (.inl (cy 1, 59, .inr (.inl (wd (rb (skD (den t per b) w v) (i))))))) → (cel L f a (.inr (3, [.int (nI t), .int (nI per), .ref rw, .ref mc]))) → (cel L f rw (.inl (cy 1, 3, .inr (.inl (wd b))))) → (∀ b ∈ L, b ≠ d → b ≠ r0 → f b = f0 b) → (WW D (AW L sz) s.heap L f H locs) → (lv_has ls 5 [(4, .int (nI i)), (0, .ref nm), (1, .ref a), (2, .int (nI w)), (3, .int (nI v))]) → W p l e R s m args below meth c H locs 0 0 Q (F0 m 18 ls []) := by
    intro k
    induction k with
    | zero => intro _ _ _ _ _ hk; exact absurd hk (Nat.not_lt_zero _)
    | succ k ih18 =>
      intro i f H locs ls hk hi h_nm h_d h_row h_a h_rw hF hw hl
      refine lv_iload E.1.1 E.1.2.1 dX5_draftShrink_18 (lv_at hl 0 rfl) ?_
      refine lv_aload_n E.1.1 E.1.2.1 dX5_draftShrink_20 rfl (lv_at hl 1 rfl) ?_
      refine k_get (v := .ref d) E inlX5 rfl 2 (by decide) w1_233 rfl hw h_nm rfl dX5_draftShrink_21 ?_
      refine k_ri (va_runV (As := []) (rest := [.int (nI i)]) E.1 (c_length l D cy L f H.size d r0 (t) (per) h_d) ⟨callB_of 0 E.1.2.2.2.2 (gd_own w1_123) rfl rfl rfl (E.1.2.2.2.2 _ w1_2) (E.1.2.2.2.2 _ w2_49) hd_X0_length (by rw [hR]; exact ⟨Nat.le_of_ble_eq_true rfl, Nat.le_of_ble_eq_true rfl⟩), E.1.2.2.2.2 _ w1_121, E.1.2.2.2.2 _ w1_122⟩ (pw_preV (q := (RX0, TX0, 3)) E.2 hw h_d rfl) rfl rfl hl.1 rfl (lv_room (Nat.le_of_ble_eq_true rfl)) dX5_draftShrink_24 ⟨Nat.zero_le _, Nat.zero_le _⟩) ?_
      refine k_ge (tgt := 58) E dX5_draftShrink_27 (by decide) (by omega) (by omega) (fun c27 => ?_) (fun c27 => ?_)
      · exact k_mvret E hQ hlk hr hw (Nat.le_of_ble_eq_true rfl) (Nat.le_of_ble_eq_true rfl) (⟨rfl, hF, h_d, by rw [show t + per = i by omega]; exact h_row⟩) dX5_draftShrink_58
      · have hwi : w * i ≤ 12 * 180 := Nat.mul_le_mul hw1 (by omega)
        refine lv_aload_n E.1.1 E.1.2.1 dX5_draftShrink_30 rfl (lv_at hl 2 rfl) ?_
        refine lv_iload_n E.1.1 E.1.2.1 dX5_draftShrink_31 rfl (lv_at hl 3 rfl) ?_
        refine lv_iload E.1.1 E.1.2.1 dX5_draftShrink_32 (lv_at hl 0 rfl) ?_
        refine k_mul E dX5_draftShrink_34 ?_
        refine lv_iload_n E.1.1 E.1.2.1 dX5_draftShrink_35 rfl (lv_at hl 4 rfl) ?_
        refine k_add E dX5_draftShrink_36 ?_
        refine k_ri (va_runV (As := [.int (nI ((w * i) + v))]) (rest := []) E.1 (c_holds l D cy L f H.size a rw mc t per (w * i + v) b ht hper hperx (by omega) h_a h_rw) ⟨callB_of 1 E.1.2.2.2.2 (gd_own w2_81) rfl rfl rfl (E.1.2.2.2.2 _ w1_8) (E.1.2.2.2.2 _ w2_78) hd_X3_holds (by rw [hR]; exact ⟨Nat.le_of_ble_eq_true rfl, Nat.le_of_ble_eq_true rfl⟩), E.1.2.2.2.2 _ w2_79, E.1.2.2.2.2 _ w2_80⟩ (pw_preV (q := (RX3, TX3, 4)) E.2 hw h_a rfl) rfl rfl hl.1 rfl (lv_room (Nat.le_of_ble_eq_true rfl)) dX5_draftShrink_37 ⟨Nat.zero_le _, Nat.zero_le _⟩) ?_
        refine k_if0 (tgt := 52) E dX5_draftShrink_40 (by decide) (fun c40 => ?_) (fun c40 => ?_)
        · rw [rb_f (X := skD (den t per b) w v) (i := i) (c40)] at h_row
          refine lv_iinc (v := nI (i + 1)) (lv' := [(4, .int (nI (i + 1))), (0, .ref nm), (1, .ref a), (2, .int (nI w)), (3, .int (nI v))]) E.1.1 E.1.2.1 dX5_draftShrink_52 hl (k := 0) rfl (nI_1 _) (by decide) rfl (fun ls hl => ?_)
          refine lv_goto (tgt := 18) E.1.1 E.1.2.1 dX5_draftShrink_55 (by decide) ?_
          exact ih18  (i + 1) f H locs ls (by omega) (by omega) h_nm h_d h_row h_a h_rw hF hw (lv_sub hl [0, 1, 2, 3, 4] rfl)
        · refine lv_aload_n E.1.1 E.1.2.1 dX5_draftShrink_43 rfl (lv_at hl 1 rfl) ?_
          refine k_get (v := .ref d) E inlX5 rfl 2 (by decide) w1_233 rfl hw h_nm rfl dX5_draftShrink_44 ?_
          refine lv_iload E.1.1 E.1.2.1 dX5_draftShrink_47 (lv_at hl 0 rfl) ?_
          refine k_mv hw (va_runV (As := [.int (nI i)]) (rest := []) E.1 (c_mark l D cy L f H.size d r0 (t) (per) (i) (rb (skD (den t per b) w v) (i)) (by omega) h_d h_row) ⟨callB_of 1 E.1.2.2.2.2 (gd_own w2_29) rfl rfl rfl (E.1.2.2.2.2 _ w1_2) (E.1.2.2.2.2 _ w2_26) hd_X0_mark (by rw [hR]; exact ⟨Nat.le_of_ble_eq_true rfl, Nat.le_of_ble_eq_true rfl⟩), E.1.2.2.2.2 _ w2_27, E.1.2.2.2.2 _ w2_28⟩ (pw_preV (q := (RX0, TX0, 3)) E.2 hw h_d rfl) rfl rfl hl.1 rfl (lv_room (Nat.le_of_ble_eq_true rfl)) dX5_draftShrink_49 (by rw [hR]; exact ⟨Nat.le_of_ble_eq_true rfl, Nat.le_of_ble_eq_true rfl⟩)) (fun L1 f H locs hp hw => ?_)
          obtain ⟨hL1, hfr, h_row⟩ := hp
          have hL1 : L = L1 := hL1
          subst hL1
          have h_row : cel L f r0 (.inl (cy 1, 59, .inr (.inl (wd (bset (rb (skD (den t per b) w v) (i)) (i) true))))) := h_row
          have h_nm := h_nm.keep (fun _ h => h) (hfr _ h_nm.1 n_nm_row)
          have h_d := h_d.keep (fun _ h => h) (hfr _ h_d.1 n_d_row)
          have h_a := h_a.keep (fun _ h => h) (hfr _ h_a.1 n_a_row)
          have h_rw := h_rw.keep (fun _ h => h) (hfr _ h_rw.1 n_rw_row)
          have hF : ∀ b ∈ L, b ≠ d → b ≠ r0 → f b = f0 b := fun b hb h0 h1 => (hfr b (hLs b hb) h1).trans (hF b hb h0 h1)
          rw [rb_t (X := skD (den t per b) w v) (i := i) (c40)] at h_row
          refine lv_iinc (v := nI (i + 1)) (lv' := [(4, .int (nI (i + 1))), (0, .ref nm), (1, .ref a), (2, .int (nI w)), (3, .int (nI v))]) E.1.1 E.1.2.1 dX5_draftShrink_52 hl (k := 0) rfl (nI_1 _) (by decide) rfl (fun ls hl => ?_)
          refine lv_goto (tgt := 18) E.1.1 E.1.2.1 dX5_draftShrink_55 (by decide) ?_
          exact ih18  (i + 1) f H locs ls (by omega) (by omega) h_nm h_d h_row h_a h_rw hF hw (lv_sub hl [0, 1, 2, 3, 4] rfl)
  exact lp18 (t + per - 0 + 1) 0 f H locs ls (Nat.lt_succ_self _) (by omega) h_nm h_d h_row h_a h_rw hF hw (lv_sub hl [0, 1, 2, 3, 4] rfl)
end
