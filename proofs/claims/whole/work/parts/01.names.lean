-- ===== PART A: goes FIRST, ahead of the names: the tables' words, and 'selects' of the private methods out of them =====
/-- a private method of a class that the tables say can be made, by its rows of tables_1 -/
def lw_okq (q : MethodName × Nat) : Prop := (q.1.cls ≠ "java/lang/invoke/MethodHandle" ∧ q.1.cls ≠ "java/lang/invoke/VarHandle") ∧ Cond.instantiable q.1.cls q.2 ∈ tables_1 ∧ Cond.privateMethod q.1 ∈ tables_1 ∧ Cond.instanceMethod q.1 ∈ tables_1
theorem lw_p0 : lw_okq (⟨"SeepingRock$Rock", "listAt", "(II)V"⟩, 13) := ⟨⟨by decide +kernel, by decide +kernel⟩, List.mem_of_getElem? (i := 18) (by decide +kernel), List.mem_of_getElem? (i := 256) (by decide +kernel), List.mem_of_getElem? (i := 257) (by decide +kernel)⟩
theorem lw_p1 : lw_okq (⟨"SeepingRock$Rock", "rankIn", "(I)V"⟩, 13) := ⟨⟨by decide +kernel, by decide +kernel⟩, List.mem_of_getElem? (i := 18) (by decide +kernel), List.mem_of_getElem? (i := 260) (by decide +kernel), List.mem_of_getElem? (i := 261) (by decide +kernel)⟩
theorem lw_p2 : lw_okq (⟨"SeepingRock$Rock", "isAhead", "(II)Z"⟩, 13) := ⟨⟨by decide +kernel, by decide +kernel⟩, List.mem_of_getElem? (i := 18) (by decide +kernel), List.mem_of_getElem? (i := 264) (by decide +kernel), List.mem_of_getElem? (i := 265) (by decide +kernel)⟩
theorem lw_p3 : lw_okq (⟨"SeepingRock$Rock", "place", "(II)V"⟩, 13) := ⟨⟨by decide +kernel, by decide +kernel⟩, List.mem_of_getElem? (i := 18) (by decide +kernel), List.mem_of_getElem? (i := 268) (by decide +kernel), List.mem_of_getElem? (i := 269) (by decide +kernel)⟩
theorem lw_p4 : lw_okq (⟨"SeepingRock$Rock", "rankOut", "(I)V"⟩, 13) := ⟨⟨by decide +kernel, by decide +kernel⟩, List.mem_of_getElem? (i := 18) (by decide +kernel), List.mem_of_getElem? (i := 293) (by decide +kernel), List.mem_of_getElem? (i := 294) (by decide +kernel)⟩
theorem lw_p5 : lw_okq (⟨"SeepingRock$Core", "wholeOf", "(JI)J"⟩, 5) := ⟨⟨by decide +kernel, by decide +kernel⟩, List.mem_of_getElem? (i := 187) (by decide +kernel), List.mem_of_getElem? (i := 344) (by decide +kernel), List.mem_of_getElem? (i := 345) (by decide +kernel)⟩
theorem lw_p6 : lw_okq (⟨"SeepingRock", "pourOne", "(LSeepingRock$Core;II)V"⟩, 7) := ⟨⟨by decide +kernel, by decide +kernel⟩, List.mem_of_getElem? (i := 10) (by decide +kernel), List.mem_of_getElem? (i := 386) (by decide +kernel), List.mem_of_getElem? (i := 387) (by decide +kernel)⟩
theorem lw_p7 : lw_okq (⟨"SeepingRock$Flow", "cutOff", "()V"⟩, 16) := ⟨⟨by decide +kernel, by decide +kernel⟩, List.mem_of_getElem? (i := 97) (by decide +kernel), List.mem_of_getElem? (i := 402) (by decide +kernel), List.mem_of_getElem? (i := 403) (by decide +kernel)⟩
theorem lw_p8 : lw_okq (⟨"SeepingRock$Flow", "reachFromOutlets", "()V"⟩, 16) := ⟨⟨by decide +kernel, by decide +kernel⟩, List.mem_of_getElem? (i := 97) (by decide +kernel), List.mem_of_getElem? (i := 406) (by decide +kernel), List.mem_of_getElem? (i := 407) (by decide +kernel)⟩
theorem lw_p9 : lw_okq (⟨"SeepingRock$Flow", "reachAround", "(II)I"⟩, 16) := ⟨⟨by decide +kernel, by decide +kernel⟩, List.mem_of_getElem? (i := 97) (by decide +kernel), List.mem_of_getElem? (i := 410) (by decide +kernel), List.mem_of_getElem? (i := 411) (by decide +kernel)⟩
theorem lw_p10 : lw_okq (⟨"SeepingRock$Flow", "addLake", "(I)V"⟩, 16) := ⟨⟨by decide +kernel, by decide +kernel⟩, List.mem_of_getElem? (i := 97) (by decide +kernel), List.mem_of_getElem? (i := 419) (by decide +kernel), List.mem_of_getElem? (i := 420) (by decide +kernel)⟩
theorem lw_p11 : lw_okq (⟨"SeepingRock$Flow", "drownAround", "(II)I"⟩, 16) := ⟨⟨by decide +kernel, by decide +kernel⟩, List.mem_of_getElem? (i := 97) (by decide +kernel), List.mem_of_getElem? (i := 423) (by decide +kernel), List.mem_of_getElem? (i := 424) (by decide +kernel)⟩
theorem lw_p12 : lw_okq (⟨"SeepingRock$Flow", "greatestRankOpened", "()I"⟩, 16) := ⟨⟨by decide +kernel, by decide +kernel⟩, List.mem_of_getElem? (i := 97) (by decide +kernel), List.mem_of_getElem? (i := 427) (by decide +kernel), List.mem_of_getElem? (i := 428) (by decide +kernel)⟩
theorem lw_p13 : lw_okq (⟨"SeepingRock$Flow", "nextThroat", "()I"⟩, 16) := ⟨⟨by decide +kernel, by decide +kernel⟩, List.mem_of_getElem? (i := 97) (by decide +kernel), List.mem_of_getElem? (i := 446) (by decide +kernel), List.mem_of_getElem? (i := 447) (by decide +kernel)⟩
theorem lw_p14 : lw_okq (⟨"SeepingRock$Flow", "preferredAt", "(I)I"⟩, 16) := ⟨⟨by decide +kernel, by decide +kernel⟩, List.mem_of_getElem? (i := 97) (by decide +kernel), List.mem_of_getElem? (i := 450) (by decide +kernel), List.mem_of_getElem? (i := 451) (by decide +kernel)⟩
theorem lw_p15 : lw_okq (⟨"SeepingRock$Flow", "isCandidate", "(I)Z"⟩, 16) := ⟨⟨by decide +kernel, by decide +kernel⟩, List.mem_of_getElem? (i := 97) (by decide +kernel), List.mem_of_getElem? (i := 454) (by decide +kernel), List.mem_of_getElem? (i := 455) (by decide +kernel)⟩
def lw_privs_1 : List (MethodName × Nat) := [(⟨"SeepingRock$Rock", "listAt", "(II)V"⟩, 13), (⟨"SeepingRock$Rock", "rankIn", "(I)V"⟩, 13), (⟨"SeepingRock$Rock", "isAhead", "(II)Z"⟩, 13), (⟨"SeepingRock$Rock", "place", "(II)V"⟩, 13), (⟨"SeepingRock$Rock", "rankOut", "(I)V"⟩, 13), (⟨"SeepingRock$Core", "wholeOf", "(JI)J"⟩, 5), (⟨"SeepingRock", "pourOne", "(LSeepingRock$Core;II)V"⟩, 7), (⟨"SeepingRock$Flow", "cutOff", "()V"⟩, 16), (⟨"SeepingRock$Flow", "reachFromOutlets", "()V"⟩, 16), (⟨"SeepingRock$Flow", "reachAround", "(II)I"⟩, 16), (⟨"SeepingRock$Flow", "addLake", "(I)V"⟩, 16), (⟨"SeepingRock$Flow", "drownAround", "(II)I"⟩, 16), (⟨"SeepingRock$Flow", "greatestRankOpened", "()I"⟩, 16), (⟨"SeepingRock$Flow", "nextThroat", "()I"⟩, 16), (⟨"SeepingRock$Flow", "preferredAt", "(I)I"⟩, 16), (⟨"SeepingRock$Flow", "isCandidate", "(I)Z"⟩, 16)]
theorem lw_r1 : ∀ q ∈ lw_privs_1, lw_okq q := List.forall_mem_cons.mpr ⟨lw_p0, List.forall_mem_cons.mpr ⟨lw_p1, List.forall_mem_cons.mpr ⟨lw_p2, List.forall_mem_cons.mpr ⟨lw_p3, List.forall_mem_cons.mpr ⟨lw_p4, List.forall_mem_cons.mpr ⟨lw_p5, List.forall_mem_cons.mpr ⟨lw_p6, List.forall_mem_cons.mpr ⟨lw_p7, List.forall_mem_cons.mpr ⟨lw_p8, List.forall_mem_cons.mpr ⟨lw_p9, List.forall_mem_cons.mpr ⟨lw_p10, List.forall_mem_cons.mpr ⟨lw_p11, List.forall_mem_cons.mpr ⟨lw_p12, List.forall_mem_cons.mpr ⟨lw_p13, List.forall_mem_cons.mpr ⟨lw_p14, List.forall_mem_cons.mpr ⟨lw_p15, fun _ h => absurd h List.not_mem_nil⟩⟩⟩⟩⟩⟩⟩⟩⟩⟩⟩⟩⟩⟩⟩⟩
theorem lw_p16 : lw_okq (⟨"SeepingRock$Flow", "leads", "(II)Z"⟩, 16) := ⟨⟨by decide +kernel, by decide +kernel⟩, List.mem_of_getElem? (i := 97) (by decide +kernel), List.mem_of_getElem? (i := 458) (by decide +kernel), List.mem_of_getElem? (i := 459) (by decide +kernel)⟩
theorem lw_p17 : lw_okq (⟨"SeepingRock$Flow", "isPreferred", "(IIZ)Z"⟩, 16) := ⟨⟨by decide +kernel, by decide +kernel⟩, List.mem_of_getElem? (i := 97) (by decide +kernel), List.mem_of_getElem? (i := 462) (by decide +kernel), List.mem_of_getElem? (i := 463) (by decide +kernel)⟩
theorem lw_p18 : lw_okq (⟨"SeepingRock", "manyInRun", "(I)I"⟩, 7) := ⟨⟨by decide +kernel, by decide +kernel⟩, List.mem_of_getElem? (i := 10) (by decide +kernel), List.mem_of_getElem? (i := 486) (by decide +kernel), List.mem_of_getElem? (i := 487) (by decide +kernel)⟩
theorem lw_p19 : lw_okq (⟨"SeepingRock$Ways", "fillNext", "()Z"⟩, 5) := ⟨⟨by decide +kernel, by decide +kernel⟩, List.mem_of_getElem? (i := 164) (by decide +kernel), List.mem_of_getElem? (i := 531) (by decide +kernel), List.mem_of_getElem? (i := 532) (by decide +kernel)⟩
theorem lw_p20 : lw_okq (⟨"SeepingRock$Ways", "fill", "(II)V"⟩, 5) := ⟨⟨by decide +kernel, by decide +kernel⟩, List.mem_of_getElem? (i := 164) (by decide +kernel), List.mem_of_getElem? (i := 535) (by decide +kernel), List.mem_of_getElem? (i := 536) (by decide +kernel)⟩
theorem lw_p21 : lw_okq (⟨"SeepingRock$Ways", "stand", "()V"⟩, 5) := ⟨⟨by decide +kernel, by decide +kernel⟩, List.mem_of_getElem? (i := 164) (by decide +kernel), List.mem_of_getElem? (i := 557) (by decide +kernel), List.mem_of_getElem? (i := 558) (by decide +kernel)⟩
theorem lw_p22 : lw_okq (⟨"SeepingRock$Ways", "unite", "(I)Z"⟩, 5) := ⟨⟨by decide +kernel, by decide +kernel⟩, List.mem_of_getElem? (i := 164) (by decide +kernel), List.mem_of_getElem? (i := 561) (by decide +kernel), List.mem_of_getElem? (i := 562) (by decide +kernel)⟩
theorem lw_p23 : lw_okq (⟨"SeepingRockModel", "isPore", "(I)Z"⟩, 33) := ⟨⟨by decide +kernel, by decide +kernel⟩, List.mem_of_getElem? (i := 593) (by decide +kernel), List.mem_of_getElem? (i := 708) (by decide +kernel), List.mem_of_getElem? (i := 709) (by decide +kernel)⟩
theorem lw_p24 : lw_okq (⟨"SeepingRockModel", "isThroat", "(I)Z"⟩, 33) := ⟨⟨by decide +kernel, by decide +kernel⟩, List.mem_of_getElem? (i := 593) (by decide +kernel), List.mem_of_getElem? (i := 716) (by decide +kernel), List.mem_of_getElem? (i := 717) (by decide +kernel)⟩
theorem lw_p25 : lw_okq (⟨"SeepingRockModel", "rank", "(I)I"⟩, 33) := ⟨⟨by decide +kernel, by decide +kernel⟩, List.mem_of_getElem? (i := 593) (by decide +kernel), List.mem_of_getElem? (i := 737) (by decide +kernel), List.mem_of_getElem? (i := 738) (by decide +kernel)⟩
theorem lw_p26 : lw_okq (⟨"SeepingRockModel", "isLess", "(II)Z"⟩, 33) := ⟨⟨by decide +kernel, by decide +kernel⟩, List.mem_of_getElem? (i := 593) (by decide +kernel), List.mem_of_getElem? (i := 741) (by decide +kernel), List.mem_of_getElem? (i := 742) (by decide +kernel)⟩
theorem lw_p27 : lw_okq (⟨"SeepingRockModel", "hasRow", "(III)Z"⟩, 33) := ⟨⟨by decide +kernel, by decide +kernel⟩, List.mem_of_getElem? (i := 593) (by decide +kernel), List.mem_of_getElem? (i := 776) (by decide +kernel), List.mem_of_getElem? (i := 777) (by decide +kernel)⟩
theorem lw_p28 : lw_okq (⟨"SeepingRockModel", "wholeOf", "(II)J"⟩, 33) := ⟨⟨by decide +kernel, by decide +kernel⟩, List.mem_of_getElem? (i := 593) (by decide +kernel), List.mem_of_getElem? (i := 789) (by decide +kernel), List.mem_of_getElem? (i := 790) (by decide +kernel)⟩
theorem lw_p29 : lw_okq (⟨"SeepingRockModel", "start", "()V"⟩, 33) := ⟨⟨by decide +kernel, by decide +kernel⟩, List.mem_of_getElem? (i := 593) (by decide +kernel), List.mem_of_getElem? (i := 802) (by decide +kernel), List.mem_of_getElem? (i := 803) (by decide +kernel)⟩
theorem lw_p30 : lw_okq (⟨"SeepingRockModel", "trap", "()V"⟩, 33) := ⟨⟨by decide +kernel, by decide +kernel⟩, List.mem_of_getElem? (i := 593) (by decide +kernel), List.mem_of_getElem? (i := 806) (by decide +kernel), List.mem_of_getElem? (i := 807) (by decide +kernel)⟩
theorem lw_p31 : lw_okq (⟨"SeepingRockModel", "isFilled", "(I)Z"⟩, 33) := ⟨⟨by decide +kernel, by decide +kernel⟩, List.mem_of_getElem? (i := 593) (by decide +kernel), List.mem_of_getElem? (i := 810) (by decide +kernel), List.mem_of_getElem? (i := 811) (by decide +kernel)⟩
def lw_privs_2 : List (MethodName × Nat) := [(⟨"SeepingRock$Flow", "leads", "(II)Z"⟩, 16), (⟨"SeepingRock$Flow", "isPreferred", "(IIZ)Z"⟩, 16), (⟨"SeepingRock", "manyInRun", "(I)I"⟩, 7), (⟨"SeepingRock$Ways", "fillNext", "()Z"⟩, 5), (⟨"SeepingRock$Ways", "fill", "(II)V"⟩, 5), (⟨"SeepingRock$Ways", "stand", "()V"⟩, 5), (⟨"SeepingRock$Ways", "unite", "(I)Z"⟩, 5), (⟨"SeepingRockModel", "isPore", "(I)Z"⟩, 33), (⟨"SeepingRockModel", "isThroat", "(I)Z"⟩, 33), (⟨"SeepingRockModel", "rank", "(I)I"⟩, 33), (⟨"SeepingRockModel", "isLess", "(II)Z"⟩, 33), (⟨"SeepingRockModel", "hasRow", "(III)Z"⟩, 33), (⟨"SeepingRockModel", "wholeOf", "(II)J"⟩, 33), (⟨"SeepingRockModel", "start", "()V"⟩, 33), (⟨"SeepingRockModel", "trap", "()V"⟩, 33), (⟨"SeepingRockModel", "isFilled", "(I)Z"⟩, 33)]
theorem lw_r2 : ∀ q ∈ lw_privs_2, lw_okq q := List.forall_mem_cons.mpr ⟨lw_p16, List.forall_mem_cons.mpr ⟨lw_p17, List.forall_mem_cons.mpr ⟨lw_p18, List.forall_mem_cons.mpr ⟨lw_p19, List.forall_mem_cons.mpr ⟨lw_p20, List.forall_mem_cons.mpr ⟨lw_p21, List.forall_mem_cons.mpr ⟨lw_p22, List.forall_mem_cons.mpr ⟨lw_p23, List.forall_mem_cons.mpr ⟨lw_p24, List.forall_mem_cons.mpr ⟨lw_p25, List.forall_mem_cons.mpr ⟨lw_p26, List.forall_mem_cons.mpr ⟨lw_p27, List.forall_mem_cons.mpr ⟨lw_p28, List.forall_mem_cons.mpr ⟨lw_p29, List.forall_mem_cons.mpr ⟨lw_p30, List.forall_mem_cons.mpr ⟨lw_p31, fun _ h => absurd h List.not_mem_nil⟩⟩⟩⟩⟩⟩⟩⟩⟩⟩⟩⟩⟩⟩⟩⟩
theorem lw_p32 : lw_okq (⟨"SeepingRockModel", "isFree", "(I)Z"⟩, 33) := ⟨⟨by decide +kernel, by decide +kernel⟩, List.mem_of_getElem? (i := 593) (by decide +kernel), List.mem_of_getElem? (i := 814) (by decide +kernel), List.mem_of_getElem? (i := 815) (by decide +kernel)⟩
theorem lw_p33 : lw_okq (⟨"SeepingRockModel", "countPores", "(I)I"⟩, 33) := ⟨⟨by decide +kernel, by decide +kernel⟩, List.mem_of_getElem? (i := 593) (by decide +kernel), List.mem_of_getElem? (i := 822) (by decide +kernel), List.mem_of_getElem? (i := 823) (by decide +kernel)⟩
theorem lw_p34 : lw_okq (⟨"SeepingRockModel", "tellLakes", "()V"⟩, 33) := ⟨⟨by decide +kernel, by decide +kernel⟩, List.mem_of_getElem? (i := 593) (by decide +kernel), List.mem_of_getElem? (i := 826) (by decide +kernel), List.mem_of_getElem? (i := 827) (by decide +kernel)⟩
theorem lw_p35 : lw_okq (⟨"SeepingRockModel", "spreadLake", "(I)V"⟩, 33) := ⟨⟨by decide +kernel, by decide +kernel⟩, List.mem_of_getElem? (i := 593) (by decide +kernel), List.mem_of_getElem? (i := 830) (by decide +kernel), List.mem_of_getElem? (i := 831) (by decide +kernel)⟩
theorem lw_p36 : lw_okq (⟨"SeepingRockModel", "isCandidate", "(I)Z"⟩, 33) := ⟨⟨by decide +kernel, by decide +kernel⟩, List.mem_of_getElem? (i := 593) (by decide +kernel), List.mem_of_getElem? (i := 834) (by decide +kernel), List.mem_of_getElem? (i := 835) (by decide +kernel)⟩
theorem lw_p37 : lw_okq (⟨"SeepingRockModel", "leads", "(II)Z"⟩, 33) := ⟨⟨by decide +kernel, by decide +kernel⟩, List.mem_of_getElem? (i := 593) (by decide +kernel), List.mem_of_getElem? (i := 838) (by decide +kernel), List.mem_of_getElem? (i := 839) (by decide +kernel)⟩
theorem lw_p38 : lw_okq (⟨"SeepingRockModel", "nextThroat", "()I"⟩, 33) := ⟨⟨by decide +kernel, by decide +kernel⟩, List.mem_of_getElem? (i := 593) (by decide +kernel), List.mem_of_getElem? (i := 846) (by decide +kernel), List.mem_of_getElem? (i := 847) (by decide +kernel)⟩
theorem lw_p39 : lw_okq (⟨"SeepingRockModel", "bestAt", "(IZ)I"⟩, 33) := ⟨⟨by decide +kernel, by decide +kernel⟩, List.mem_of_getElem? (i := 593) (by decide +kernel), List.mem_of_getElem? (i := 850) (by decide +kernel), List.mem_of_getElem? (i := 851) (by decide +kernel)⟩
theorem lw_p40 : lw_okq (⟨"SeepingRockModel", "open", "(I)V"⟩, 33) := ⟨⟨by decide +kernel, by decide +kernel⟩, List.mem_of_getElem? (i := 593) (by decide +kernel), List.mem_of_getElem? (i := 854) (by decide +kernel), List.mem_of_getElem? (i := 855) (by decide +kernel)⟩
theorem lw_p41 : lw_okq (⟨"SeepingRockModel", "plainRun", "()V"⟩, 33) := ⟨⟨by decide +kernel, by decide +kernel⟩, List.mem_of_getElem? (i := 593) (by decide +kernel), List.mem_of_getElem? (i := 891) (by decide +kernel), List.mem_of_getElem? (i := 892) (by decide +kernel)⟩
theorem lw_p42 : lw_okq (⟨"SeepingRockModel", "behind", "(I)I"⟩, 33) := ⟨⟨by decide +kernel, by decide +kernel⟩, List.mem_of_getElem? (i := 593) (by decide +kernel), List.mem_of_getElem? (i := 895) (by decide +kernel), List.mem_of_getElem? (i := 896) (by decide +kernel)⟩
theorem lw_p43 : lw_okq (⟨"SeepingRockModel", "apart", "()V"⟩, 33) := ⟨⟨by decide +kernel, by decide +kernel⟩, List.mem_of_getElem? (i := 593) (by decide +kernel), List.mem_of_getElem? (i := 907) (by decide +kernel), List.mem_of_getElem? (i := 908) (by decide +kernel)⟩
theorem lw_p44 : lw_okq (⟨"SeepingRockModel", "tie", "(I)Z"⟩, 33) := ⟨⟨by decide +kernel, by decide +kernel⟩, List.mem_of_getElem? (i := 593) (by decide +kernel), List.mem_of_getElem? (i := 912) (by decide +kernel), List.mem_of_getElem? (i := 913) (by decide +kernel)⟩
theorem lw_p45 : lw_okq (⟨"SeepingRockModel", "keep", "(Z)V"⟩, 33) := ⟨⟨by decide +kernel, by decide +kernel⟩, List.mem_of_getElem? (i := 593) (by decide +kernel), List.mem_of_getElem? (i := 940) (by decide +kernel), List.mem_of_getElem? (i := 941) (by decide +kernel)⟩
def lw_privs_3 : List (MethodName × Nat) := [(⟨"SeepingRockModel", "isFree", "(I)Z"⟩, 33), (⟨"SeepingRockModel", "countPores", "(I)I"⟩, 33), (⟨"SeepingRockModel", "tellLakes", "()V"⟩, 33), (⟨"SeepingRockModel", "spreadLake", "(I)V"⟩, 33), (⟨"SeepingRockModel", "isCandidate", "(I)Z"⟩, 33), (⟨"SeepingRockModel", "leads", "(II)Z"⟩, 33), (⟨"SeepingRockModel", "nextThroat", "()I"⟩, 33), (⟨"SeepingRockModel", "bestAt", "(IZ)I"⟩, 33), (⟨"SeepingRockModel", "open", "(I)V"⟩, 33), (⟨"SeepingRockModel", "plainRun", "()V"⟩, 33), (⟨"SeepingRockModel", "behind", "(I)I"⟩, 33), (⟨"SeepingRockModel", "apart", "()V"⟩, 33), (⟨"SeepingRockModel", "tie", "(I)Z"⟩, 33), (⟨"SeepingRockModel", "keep", "(Z)V"⟩, 33)]
theorem lw_r3 : ∀ q ∈ lw_privs_3, lw_okq q := List.forall_mem_cons.mpr ⟨lw_p32, List.forall_mem_cons.mpr ⟨lw_p33, List.forall_mem_cons.mpr ⟨lw_p34, List.forall_mem_cons.mpr ⟨lw_p35, List.forall_mem_cons.mpr ⟨lw_p36, List.forall_mem_cons.mpr ⟨lw_p37, List.forall_mem_cons.mpr ⟨lw_p38, List.forall_mem_cons.mpr ⟨lw_p39, List.forall_mem_cons.mpr ⟨lw_p40, List.forall_mem_cons.mpr ⟨lw_p41, List.forall_mem_cons.mpr ⟨lw_p42, List.forall_mem_cons.mpr ⟨lw_p43, List.forall_mem_cons.mpr ⟨lw_p44, List.forall_mem_cons.mpr ⟨lw_p45, fun _ h => absurd h List.not_mem_nil⟩⟩⟩⟩⟩⟩⟩⟩⟩⟩⟩⟩⟩⟩
def lw_privs : List (MethodName × Nat) := lw_privs_1 ++ (lw_privs_2 ++ (lw_privs_3))
def lw_tbl : List Cond := k2_sels lw_privs ++ tables_1
theorem lw_privs_ok : ∀ q ∈ lw_privs, lw_okq q := by
  show ∀ q ∈ lw_privs_1 ++ (lw_privs_2 ++ (lw_privs_3)), lw_okq q
  exact List.forall_mem_append.mpr ⟨lw_r1, List.forall_mem_append.mpr ⟨lw_r2, lw_r3⟩⟩
/-- the streams that the claim lets the run draw from -/
abbrev lw_cs : List Choice := [Jvm.Choice.named "NaN.bits"]
theorem lw_bits : nanBits ∈ lw_cs := by first | decide | exact List.mem_cons_self | simp [lw_cs, nanBits]
/-! ===== BEGIN printed: names, fields, word lists, decode rows ===== -/
def RX0 : String := "SeepingRock$Core"
def TX0 : u_T := fun k => match k with
  | 0 => ("SeepingRock$Core", "there", "Z", false)
  | 1 => ("SeepingRock$Core", "kind", "I", false)
  | 2 => ("SeepingRock$Core", "size", "I", false)
  | 3 => ("SeepingRock$Core", "whole", "[J", true)
  | _ => ("SeepingRock$Core", "noNumber", "[B", true)
def tyX0 : Nat → FieldType := fun k => match k with
  | 0 => .boolean
  | 1 => .int
  | 2 => .int
  | 3 => .array .long
  | _ => .array .byte
abbrev wsX00 : List Cond := u_ws RX0 TX0 5
theorem nmX0 : ∀ a, a < 5 → ∀ b, b < 5 → a ≠ b → (TX0 a).2.1 ≠ (TX0 b).2.1 := by decide +kernel
theorem tyX0_ok : ∀ k, k < 5 → parseFieldDescriptor (TX0 k).2.2.1 = some (tyX0 k) := by decide +kernel
abbrev cX0_init : ByteArray := prog_2_method_1_code
def yX0_init : MethodName := ⟨RX0, "<init>", "()V"⟩
abbrev cX0_renew : ByteArray := prog_2_method_2_code
def yX0_renew : MethodName := ⟨RX0, "renew", "(II)V"⟩
abbrev cX0_hasNumber : ByteArray := prog_2_method_3_code
def yX0_hasNumber : MethodName := ⟨RX0, "hasNumber", "(I)Z"⟩
abbrev cX0_isNoNumber : ByteArray := prog_2_method_4_code
def yX0_isNoNumber : MethodName := ⟨RX0, "isNoNumber", "(I)Z"⟩
abbrev cX0_spans : ByteArray := prog_2_method_5_code
def yX0_spans : MethodName := ⟨RX0, "spans", "(II)Z"⟩
abbrev cX0_put : ByteArray := prog_2_method_6_code
def yX0_put : MethodName := ⟨RX0, "put", "(IJI)V"⟩
abbrev cX0_putWild : ByteArray := prog_2_method_7_code
def yX0_putWild : MethodName := ⟨RX0, "putWild", "(II)V"⟩
abbrev cX0_putFrom : ByteArray := prog_2_method_8_code
def yX0_putFrom : MethodName := ⟨RX0, "putFrom", "(ILSeepingRock$Core;II)V"⟩
abbrev cX0_wholeOf : ByteArray := prog_2_method_9_code
def yX0_wholeOf : MethodName := ⟨RX0, "wholeOf", "(JI)J"⟩
def RX1 : String := "SeepingRock$Flow"
def TX1 : u_T := fun k => match k with
  | 0 => ("SeepingRock$Flow", "rock", "LSeepingRock$Rock;", true)
  | 1 => ("SeepingRock$Flow", "on", "Z", false)
  | 2 => ("SeepingRock$Flow", "steps", "I", false)
  | 3 => ("SeepingRock$Flow", "throatOf", "[I", true)
  | 4 => ("SeepingRock$Flow", "poreOf", "[I", true)
  | 5 => ("SeepingRock$Flow", "filledStep", "[I", true)
  | 6 => ("SeepingRock$Flow", "filledBy", "[I", true)
  | 7 => ("SeepingRock$Flow", "cutStep", "[I", true)
  | 8 => ("SeepingRock$Flow", "lakeOf", "[I", true)
  | 9 => ("SeepingRock$Flow", "lakes", "I", false)
  | 10 => ("SeepingRock$Flow", "lakeStep", "[I", true)
  | 11 => ("SeepingRock$Flow", "lakeSize", "[I", true)
  | 12 => ("SeepingRock$Flow", "lakeLeast", "[I", true)
  | 13 => ("SeepingRock$Flow", "lakeLevel", "[I", true)
  | 14 => ("SeepingRock$Flow", "queue", "[I", true)
  | _ => ("SeepingRock$Flow", "reached", "[Z", true)
def tyX1 : Nat → FieldType := fun k => match k with
  | 0 => .object "SeepingRock$Rock"
  | 1 => .boolean
  | 2 => .int
  | 3 => .array .int
  | 4 => .array .int
  | 5 => .array .int
  | 6 => .array .int
  | 7 => .array .int
  | 8 => .array .int
  | 9 => .int
  | 10 => .array .int
  | 11 => .array .int
  | 12 => .array .int
  | 13 => .array .int
  | 14 => .array .int
  | _ => .array .boolean
abbrev wsX10 : List Cond := u_ws RX1 TX1 16
theorem nmX1 : ∀ a, a < 16 → ∀ b, b < 16 → a ≠ b → (TX1 a).2.1 ≠ (TX1 b).2.1 := by decide +kernel
theorem tyX1_ok : ∀ k, k < 16 → parseFieldDescriptor (TX1 k).2.2.1 = some (tyX1 k) := by decide +kernel
abbrev cX1_init : ByteArray := prog_3_method_1_code
def yX1_init : MethodName := ⟨RX1, "<init>", "(LSeepingRock$Rock;)V"⟩
abbrev cX1_start : ByteArray := prog_3_method_2_code
def yX1_start : MethodName := ⟨RX1, "start", "()V"⟩
abbrev cX1_advance : ByteArray := prog_3_method_3_code
def yX1_advance : MethodName := ⟨RX1, "advance", "()I"⟩
abbrev cX1_takeBackTo : ByteArray := prog_3_method_4_code
def yX1_takeBackTo : MethodName := ⟨RX1, "takeBackTo", "(I)V"⟩
abbrev cX1_candidate : ByteArray := prog_3_method_5_code
def yX1_candidate : MethodName := ⟨RX1, "candidate", "(I)I"⟩
abbrev cX1_countCandidates : ByteArray := prog_3_method_6_code
def yX1_countCandidates : MethodName := ⟨RX1, "countCandidates", "()I"⟩
abbrev cX1_countFilled : ByteArray := prog_3_method_7_code
def yX1_countFilled : MethodName := ⟨RX1, "countFilled", "()I"⟩
abbrev cX1_countCut : ByteArray := prog_3_method_8_code
def yX1_countCut : MethodName := ⟨RX1, "countCut", "()I"⟩
abbrev cX1_firstOutletStep : ByteArray := prog_3_method_9_code
def yX1_firstOutletStep : MethodName := ⟨RX1, "firstOutletStep", "()I"⟩
abbrev cX1_nextThroat : ByteArray := prog_3_method_10_code
def yX1_nextThroat : MethodName := ⟨RX1, "nextThroat", "()I"⟩
abbrev cX1_preferredAt : ByteArray := prog_3_method_11_code
def yX1_preferredAt : MethodName := ⟨RX1, "preferredAt", "(I)I"⟩
abbrev cX1_isPreferred : ByteArray := prog_3_method_12_code
def yX1_isPreferred : MethodName := ⟨RX1, "isPreferred", "(IIZ)Z"⟩
abbrev cX1_isCandidate : ByteArray := prog_3_method_13_code
def yX1_isCandidate : MethodName := ⟨RX1, "isCandidate", "(I)Z"⟩
abbrev cX1_leads : ByteArray := prog_3_method_14_code
def yX1_leads : MethodName := ⟨RX1, "leads", "(II)Z"⟩
abbrev cX1_cutOff : ByteArray := prog_3_method_15_code
def yX1_cutOff : MethodName := ⟨RX1, "cutOff", "()V"⟩
abbrev cX1_reachFromOutlets : ByteArray := prog_3_method_16_code
def yX1_reachFromOutlets : MethodName := ⟨RX1, "reachFromOutlets", "()V"⟩
abbrev cX1_reachAround : ByteArray := prog_3_method_17_code
def yX1_reachAround : MethodName := ⟨RX1, "reachAround", "(II)I"⟩
abbrev cX1_addLake : ByteArray := prog_3_method_18_code
def yX1_addLake : MethodName := ⟨RX1, "addLake", "(I)V"⟩
abbrev cX1_drownAround : ByteArray := prog_3_method_19_code
def yX1_drownAround : MethodName := ⟨RX1, "drownAround", "(II)I"⟩
abbrev cX1_greatestRankOpened : ByteArray := prog_3_method_20_code
def yX1_greatestRankOpened : MethodName := ⟨RX1, "greatestRankOpened", "()I"⟩
def RX2 : String := "SeepingRock$Rock"
def TX2 : u_T := fun k => match k with
  | 0 => ("SeepingRock$Rock", "pores", "I", false)
  | 1 => ("SeepingRock$Rock", "kind", "[I", true)
  | 2 => ("SeepingRock$Rock", "inlet", "[Z", true)
  | 3 => ("SeepingRock$Rock", "throats", "I", false)
  | 4 => ("SeepingRock$Rock", "oneEnd", "[I", true)
  | 5 => ("SeepingRock$Rock", "otherEnd", "[I", true)
  | 6 => ("SeepingRock$Rock", "hindrance", "[I", true)
  | 7 => ("SeepingRock$Rock", "rank", "[I", true)
  | 8 => ("SeepingRock$Rock", "byRank", "[I", true)
  | 9 => ("SeepingRock$Rock", "open", "I", false)
  | 10 => ("SeepingRock$Rock", "firstAt", "[I", true)
  | 11 => ("SeepingRock$Rock", "at", "[I", true)
  | _ => ("SeepingRock$Rock", "trapping", "Z", false)
def tyX2 : Nat → FieldType := fun k => match k with
  | 0 => .int
  | 1 => .array .int
  | 2 => .array .boolean
  | 3 => .int
  | 4 => .array .int
  | 5 => .array .int
  | 6 => .array .int
  | 7 => .array .int
  | 8 => .array .int
  | 9 => .int
  | 10 => .array .int
  | 11 => .array .int
  | _ => .boolean
abbrev wsX20 : List Cond := u_ws RX2 TX2 13
theorem nmX2 : ∀ a, a < 13 → ∀ b, b < 13 → a ≠ b → (TX2 a).2.1 ≠ (TX2 b).2.1 := by decide +kernel
theorem tyX2_ok : ∀ k, k < 13 → parseFieldDescriptor (TX2 k).2.2.1 = some (tyX2 k) := by decide +kernel
abbrev cX2_init : ByteArray := prog_4_method_1_code
def yX2_init : MethodName := ⟨RX2, "<init>", "()V"⟩
abbrev cX2_hasPore : ByteArray := prog_4_method_2_code
def yX2_hasPore : MethodName := ⟨RX2, "hasPore", "(I)Z"⟩
abbrev cX2_hasThroat : ByteArray := prog_4_method_3_code
def yX2_hasThroat : MethodName := ⟨RX2, "hasThroat", "(I)Z"⟩
abbrev cX2_isOpen : ByteArray := prog_4_method_4_code
def yX2_isOpen : MethodName := ⟨RX2, "isOpen", "(I)Z"⟩
abbrev cX2_across : ByteArray := prog_4_method_5_code
def yX2_across : MethodName := ⟨RX2, "across", "(II)I"⟩
abbrev cX2_addPore : ByteArray := prog_4_method_6_code
def yX2_addPore : MethodName := ⟨RX2, "addPore", "(I)I"⟩
abbrev cX2_addThroat : ByteArray := prog_4_method_7_code
def yX2_addThroat : MethodName := ⟨RX2, "addThroat", "(II)I"⟩
abbrev cX2_settle : ByteArray := prog_4_method_8_code
def yX2_settle : MethodName := ⟨RX2, "settle", "(IIZ)V"⟩
abbrev cX2_listAt : ByteArray := prog_4_method_9_code
def yX2_listAt : MethodName := ⟨RX2, "listAt", "(II)V"⟩
abbrev cX2_rankOut : ByteArray := prog_4_method_10_code
def yX2_rankOut : MethodName := ⟨RX2, "rankOut", "(I)V"⟩
abbrev cX2_rankIn : ByteArray := prog_4_method_11_code
def yX2_rankIn : MethodName := ⟨RX2, "rankIn", "(I)V"⟩
abbrev cX2_place : ByteArray := prog_4_method_12_code
def yX2_place : MethodName := ⟨RX2, "place", "(II)V"⟩
abbrev cX2_isAhead : ByteArray := prog_4_method_13_code
def yX2_isAhead : MethodName := ⟨RX2, "isAhead", "(II)Z"⟩
def RX3 : String := "SeepingRock$Ways"
def TX3 : u_T := fun k => match k with
  | 0 => ("SeepingRock$Ways", "rock", "LSeepingRock$Rock;", true)
  | 1 => ("SeepingRock$Ways", "length", "[I", true)
  | 2 => ("SeepingRock$Ways", "worstRank", "[I", true)
  | 3 => ("SeepingRock$Ways", "filledBy", "[I", true)
  | _ => ("SeepingRock$Ways", "group", "[I", true)
def tyX3 : Nat → FieldType := fun k => match k with
  | 0 => .object "SeepingRock$Rock"
  | 1 => .array .int
  | 2 => .array .int
  | 3 => .array .int
  | _ => .array .int
abbrev wsX30 : List Cond := u_ws RX3 TX3 5
theorem nmX3 : ∀ a, a < 5 → ∀ b, b < 5 → a ≠ b → (TX3 a).2.1 ≠ (TX3 b).2.1 := by decide +kernel
theorem tyX3_ok : ∀ k, k < 5 → parseFieldDescriptor (TX3 k).2.2.1 = some (tyX3 k) := by decide +kernel
abbrev cX3_init : ByteArray := prog_5_method_1_code
def yX3_init : MethodName := ⟨RX3, "<init>", "(LSeepingRock$Rock;)V"⟩
abbrev cX3_flood : ByteArray := prog_5_method_2_code
def yX3_flood : MethodName := ⟨RX3, "flood", "()V"⟩
abbrev cX3_throatOnWay : ByteArray := prog_5_method_3_code
def yX3_throatOnWay : MethodName := ⟨RX3, "throatOnWay", "(II)I"⟩
abbrev cX3_rankJoining : ByteArray := prog_5_method_4_code
def yX3_rankJoining : MethodName := ⟨RX3, "rankJoining", "(II)I"⟩
abbrev cX3_branch : ByteArray := prog_5_method_5_code
def yX3_branch : MethodName := ⟨RX3, "branch", "(I)I"⟩
abbrev cX3_fillNext : ByteArray := prog_5_method_6_code
def yX3_fillNext : MethodName := ⟨RX3, "fillNext", "()Z"⟩
abbrev cX3_fill : ByteArray := prog_5_method_7_code
def yX3_fill : MethodName := ⟨RX3, "fill", "(II)V"⟩
abbrev cX3_stand : ByteArray := prog_5_method_8_code
def yX3_stand : MethodName := ⟨RX3, "stand", "()V"⟩
abbrev cX3_unite : ByteArray := prog_5_method_9_code
def yX3_unite : MethodName := ⟨RX3, "unite", "(I)Z"⟩
def RX4 : String := "SeepingRock"
def TX4 : u_T := fun k => match k with
  | 0 => ("SeepingRock", "rock", "LSeepingRock$Rock;", true)
  | 1 => ("SeepingRock", "cores", "[LSeepingRock$Core;", true)
  | 2 => ("SeepingRock", "flow", "LSeepingRock$Flow;", true)
  | 3 => ("SeepingRock", "trial", "LSeepingRock$Flow;", true)
  | 4 => ("SeepingRock", "ways", "LSeepingRock$Ways;", true)
  | 5 => ("SeepingRock", "toldRow", "[I", true)
  | _ => ("SeepingRock", "toldCount", "I", false)
def tyX4 : Nat → FieldType := fun k => match k with
  | 0 => .object "SeepingRock$Rock"
  | 1 => .array (.object "SeepingRock$Core")
  | 2 => .object "SeepingRock$Flow"
  | 3 => .object "SeepingRock$Flow"
  | 4 => .object "SeepingRock$Ways"
  | 5 => .array .int
  | _ => .int
abbrev wsX40 : List Cond := u_ws RX4 TX4 7
theorem nmX4 : ∀ a, a < 7 → ∀ b, b < 7 → a ≠ b → (TX4 a).2.1 ≠ (TX4 b).2.1 := by decide +kernel
theorem tyX4_ok : ∀ k, k < 7 → parseFieldDescriptor (TX4 k).2.2.1 = some (tyX4 k) := by decide +kernel
abbrev cX4_init : ByteArray := prog_1_method_1_code
def yX4_init : MethodName := ⟨RX4, "<init>", "()V"⟩
abbrev cX4_pore : ByteArray := prog_1_method_2_code
def yX4_pore : MethodName := ⟨RX4, "pore", "(I)I"⟩
abbrev cX4_throat : ByteArray := prog_1_method_3_code
def yX4_throat : MethodName := ⟨RX4, "throat", "(II)I"⟩
abbrev cX4_hinder : ByteArray := prog_1_method_4_code
def yX4_hinder : MethodName := ⟨RX4, "hinder", "(II)I"⟩
abbrev cX4_shut : ByteArray := prog_1_method_5_code
def yX4_shut : MethodName := ⟨RX4, "shut", "(IZ)I"⟩
abbrev cX4_inlet : ByteArray := prog_1_method_6_code
def yX4_inlet : MethodName := ⟨RX4, "inlet", "(IZ)I"⟩
abbrev cX4_trapping : ByteArray := prog_1_method_7_code
def yX4_trapping : MethodName := ⟨RX4, "trapping", "(Z)I"⟩
abbrev cX4_about : ByteArray := prog_1_method_8_code
def yX4_about : MethodName := ⟨RX4, "about", "(II)I"⟩
abbrev cX4_of : ByteArray := prog_1_method_9_code
def yX4_of : MethodName := ⟨RX4, "of", "(II)I"⟩
abbrev cX4_ranked : ByteArray := prog_1_method_10_code
def yX4_ranked : MethodName := ⟨RX4, "ranked", "(I)I"⟩
abbrev cX4_core : ByteArray := prog_1_method_11_code
def yX4_core : MethodName := ⟨RX4, "core", "(III)I"⟩
abbrev cX4_cell : ByteArray := prog_1_method_12_code
def yX4_cell : MethodName := ⟨RX4, "cell", "(IIJI)I"⟩
abbrev cX4_wild : ByteArray := prog_1_method_13_code
def yX4_wild : MethodName := ⟨RX4, "wild", "(III)I"⟩
abbrev cX4_splice : ByteArray := prog_1_method_14_code
def yX4_splice : MethodName := ⟨RX4, "splice", "(IIIII)I"⟩
abbrev cX4_lose : ByteArray := prog_1_method_15_code
def yX4_lose : MethodName := ⟨RX4, "lose", "(I)I"⟩
abbrev cX4_told : ByteArray := prog_1_method_16_code
def yX4_told : MethodName := ⟨RX4, "told", "(II)J"⟩
abbrev cX4_pour : ByteArray := prog_1_method_17_code
def yX4_pour : MethodName := ⟨RX4, "pour", "(IIII)I"⟩
abbrev cX4_begin : ByteArray := prog_1_method_18_code
def yX4_begin : MethodName := ⟨RX4, "begin", "()I"⟩
abbrev cX4_step : ByteArray := prog_1_method_19_code
def yX4_step : MethodName := ⟨RX4, "step", "()I"⟩
abbrev cX4_run : ByteArray := prog_1_method_20_code
def yX4_run : MethodName := ⟨RX4, "run", "(I)I"⟩
abbrev cX4_undo : ByteArray := prog_1_method_21_code
def yX4_undo : MethodName := ⟨RX4, "undo", "(I)I"⟩
abbrev cX4_many : ByteArray := prog_1_method_22_code
def yX4_many : MethodName := ⟨RX4, "many", "(I)I"⟩
abbrev cX4_opened : ByteArray := prog_1_method_23_code
def yX4_opened : MethodName := ⟨RX4, "opened", "(I)I"⟩
abbrev cX4_now : ByteArray := prog_1_method_24_code
def yX4_now : MethodName := ⟨RX4, "now", "(II)I"⟩
abbrev cX4_front : ByteArray := prog_1_method_25_code
def yX4_front : MethodName := ⟨RX4, "front", "(I)I"⟩
abbrev cX4_lake : ByteArray := prog_1_method_26_code
def yX4_lake : MethodName := ⟨RX4, "lake", "(II)I"⟩
abbrev cX4_through : ByteArray := prog_1_method_27_code
def yX4_through : MethodName := ⟨RX4, "through", "()I"⟩
abbrev cX4_worst : ByteArray := prog_1_method_28_code
def yX4_worst : MethodName := ⟨RX4, "worst", "(I)I"⟩
abbrev cX4_way : ByteArray := prog_1_method_29_code
def yX4_way : MethodName := ⟨RX4, "way", "(II)I"⟩
abbrev cX4_join : ByteArray := prog_1_method_30_code
def yX4_join : MethodName := ⟨RX4, "join", "(II)I"⟩
abbrev cX4_tree : ByteArray := prog_1_method_31_code
def yX4_tree : MethodName := ⟨RX4, "tree", "(I)I"⟩
abbrev cX4_claim : ByteArray := prog_1_method_32_code
def yX4_claim : MethodName := ⟨RX4, "claim", "(I)I"⟩
abbrev cX4_copy : ByteArray := prog_1_method_33_code
def yX4_copy : MethodName := ⟨RX4, "copy", "()I"⟩
abbrev cX4_alter : ByteArray := prog_1_method_34_code
def yX4_alter : MethodName := ⟨RX4, "alter", "(II)I"⟩
abbrev cX4_unclaim : ByteArray := prog_1_method_35_code
def yX4_unclaim : MethodName := ⟨RX4, "unclaim", "()I"⟩
abbrev cX4_check : ByteArray := prog_1_method_36_code
def yX4_check : MethodName := ⟨RX4, "check", "()I"⟩
abbrev cX4_hasPlace : ByteArray := prog_1_method_37_code
def yX4_hasPlace : MethodName := ⟨RX4, "hasPlace", "(I)Z"⟩
abbrev cX4_mayHinder : ByteArray := prog_1_method_38_code
def yX4_mayHinder : MethodName := ⟨RX4, "mayHinder", "(J)Z"⟩
abbrev cX4_pourOne : ByteArray := prog_1_method_39_code
def yX4_pourOne : MethodName := ⟨RX4, "pourOne", "(LSeepingRock$Core;II)V"⟩
abbrev cX4_manyInRun : ByteArray := prog_1_method_40_code
def yX4_manyInRun : MethodName := ⟨RX4, "manyInRun", "(I)I"⟩
def RX5 : String := "SeepingRockModel"
def TX5 : u_T := fun k => match k with
  | 0 => ("SeepingRockModel", "pores", "I", false)
  | 1 => ("SeepingRockModel", "kind", "[I", true)
  | 2 => ("SeepingRockModel", "isInlet", "[Z", true)
  | 3 => ("SeepingRockModel", "throats", "I", false)
  | 4 => ("SeepingRockModel", "from", "[I", true)
  | 5 => ("SeepingRockModel", "to", "[I", true)
  | 6 => ("SeepingRockModel", "hindrance", "[I", true)
  | 7 => ("SeepingRockModel", "isShut", "[Z", true)
  | 8 => ("SeepingRockModel", "isTrapping", "Z", false)
  | 9 => ("SeepingRockModel", "coreKind", "[I", true)
  | 10 => ("SeepingRockModel", "coreSize", "[I", true)
  | 11 => ("SeepingRockModel", "whole", "[J", true)
  | 12 => ("SeepingRockModel", "broken", "[D", true)
  | 13 => ("SeepingRockModel", "isRun", "Z", false)
  | 14 => ("SeepingRockModel", "steps", "I", false)
  | 15 => ("SeepingRockModel", "opened", "[I", true)
  | 16 => ("SeepingRockModel", "filled", "[I", true)
  | 17 => ("SeepingRockModel", "filledBy", "[I", true)
  | 18 => ("SeepingRockModel", "cut", "[I", true)
  | 19 => ("SeepingRockModel", "told", "I", false)
  | 20 => ("SeepingRockModel", "row", "[I", true)
  | 21 => ("SeepingRockModel", "oldWhole", "[J", true)
  | 22 => ("SeepingRockModel", "oldBroken", "[D", true)
  | 23 => ("SeepingRockModel", "drains", "[Z", true)
  | 24 => ("SeepingRockModel", "lakeOf", "[I", true)
  | 25 => ("SeepingRockModel", "lakes", "I", false)
  | 26 => ("SeepingRockModel", "plainBy", "[I", true)
  | 27 => ("SeepingRockModel", "hang", "[I", true)
  | 28 => ("SeepingRockModel", "keptOpened", "[I", true)
  | 29 => ("SeepingRockModel", "keptFilled", "[I", true)
  | 30 => ("SeepingRockModel", "keptBy", "[I", true)
  | 31 => ("SeepingRockModel", "keptCut", "[I", true)
  | _ => ("SeepingRockModel", "keptSteps", "I", false)
def tyX5 : Nat → FieldType := fun k => match k with
  | 0 => .int
  | 1 => .array .int
  | 2 => .array .boolean
  | 3 => .int
  | 4 => .array .int
  | 5 => .array .int
  | 6 => .array .int
  | 7 => .array .boolean
  | 8 => .boolean
  | 9 => .array .int
  | 10 => .array .int
  | 11 => .array .long
  | 12 => .array .double
  | 13 => .boolean
  | 14 => .int
  | 15 => .array .int
  | 16 => .array .int
  | 17 => .array .int
  | 18 => .array .int
  | 19 => .int
  | 20 => .array .int
  | 21 => .array .long
  | 22 => .array .double
  | 23 => .array .boolean
  | 24 => .array .int
  | 25 => .int
  | 26 => .array .int
  | 27 => .array .int
  | 28 => .array .int
  | 29 => .array .int
  | 30 => .array .int
  | 31 => .array .int
  | _ => .int
abbrev wsX50 : List Cond := u_ws RX5 TX5 33
theorem nmX5 : ∀ a, a < 33 → ∀ b, b < 33 → a ≠ b → (TX5 a).2.1 ≠ (TX5 b).2.1 := by decide +kernel
theorem tyX5_ok : ∀ k, k < 33 → parseFieldDescriptor (TX5 k).2.2.1 = some (tyX5 k) := by decide +kernel
abbrev cX5_init : ByteArray := prog_7_method_1_code
def yX5_init : MethodName := ⟨RX5, "<init>", "()V"⟩
abbrev cX5_isPore : ByteArray := prog_7_method_2_code
def yX5_isPore : MethodName := ⟨RX5, "isPore", "(I)Z"⟩
abbrev cX5_isThroat : ByteArray := prog_7_method_3_code
def yX5_isThroat : MethodName := ⟨RX5, "isThroat", "(I)Z"⟩
abbrev cX5_pore : ByteArray := prog_7_method_4_code
def yX5_pore : MethodName := ⟨RX5, "pore", "(I)I"⟩
abbrev cX5_throat : ByteArray := prog_7_method_5_code
def yX5_throat : MethodName := ⟨RX5, "throat", "(II)I"⟩
abbrev cX5_hinder : ByteArray := prog_7_method_6_code
def yX5_hinder : MethodName := ⟨RX5, "hinder", "(II)I"⟩
abbrev cX5_shut : ByteArray := prog_7_method_7_code
def yX5_shut : MethodName := ⟨RX5, "shut", "(IZ)I"⟩
abbrev cX5_inlet : ByteArray := prog_7_method_8_code
def yX5_inlet : MethodName := ⟨RX5, "inlet", "(IZ)I"⟩
abbrev cX5_trapping : ByteArray := prog_7_method_9_code
def yX5_trapping : MethodName := ⟨RX5, "trapping", "(Z)I"⟩
abbrev cX5_isLess : ByteArray := prog_7_method_10_code
def yX5_isLess : MethodName := ⟨RX5, "isLess", "(II)Z"⟩
abbrev cX5_rank : ByteArray := prog_7_method_11_code
def yX5_rank : MethodName := ⟨RX5, "rank", "(I)I"⟩
abbrev cX5_about : ByteArray := prog_7_method_12_code
def yX5_about : MethodName := ⟨RX5, "about", "(II)I"⟩
abbrev cX5_of : ByteArray := prog_7_method_13_code
def yX5_of : MethodName := ⟨RX5, "of", "(II)I"⟩
abbrev cX5_ranked : ByteArray := prog_7_method_14_code
def yX5_ranked : MethodName := ⟨RX5, "ranked", "(I)I"⟩
abbrev cX5_isCore : ByteArray := prog_7_method_15_code
def yX5_isCore : MethodName := ⟨RX5, "isCore", "(I)Z"⟩
abbrev cX5_core : ByteArray := prog_7_method_16_code
def yX5_core : MethodName := ⟨RX5, "core", "(III)I"⟩
abbrev cX5_cell : ByteArray := prog_7_method_17_code
def yX5_cell : MethodName := ⟨RX5, "cell", "(IIJI)I"⟩
abbrev cX5_wild : ByteArray := prog_7_method_18_code
def yX5_wild : MethodName := ⟨RX5, "wild", "(III)I"⟩
abbrev cX5_hasRow : ByteArray := prog_7_method_19_code
def yX5_hasRow : MethodName := ⟨RX5, "hasRow", "(III)Z"⟩
abbrev cX5_splice : ByteArray := prog_7_method_20_code
def yX5_splice : MethodName := ⟨RX5, "splice", "(IIIII)I"⟩
abbrev cX5_lose : ByteArray := prog_7_method_21_code
def yX5_lose : MethodName := ⟨RX5, "lose", "(I)I"⟩
abbrev cX5_wholeOf : ByteArray := prog_7_method_22_code
def yX5_wholeOf : MethodName := ⟨RX5, "wholeOf", "(II)J"⟩
abbrev cX5_told : ByteArray := prog_7_method_23_code
def yX5_told : MethodName := ⟨RX5, "told", "(II)J"⟩
abbrev cX5_pour : ByteArray := prog_7_method_24_code
def yX5_pour : MethodName := ⟨RX5, "pour", "(IIII)I"⟩
abbrev cX5_isFilled : ByteArray := prog_7_method_25_code
def yX5_isFilled : MethodName := ⟨RX5, "isFilled", "(I)Z"⟩
abbrev cX5_isFree : ByteArray := prog_7_method_26_code
def yX5_isFree : MethodName := ⟨RX5, "isFree", "(I)Z"⟩
abbrev cX5_leads : ByteArray := prog_7_method_27_code
def yX5_leads : MethodName := ⟨RX5, "leads", "(II)Z"⟩
abbrev cX5_isCandidate : ByteArray := prog_7_method_28_code
def yX5_isCandidate : MethodName := ⟨RX5, "isCandidate", "(I)Z"⟩
abbrev cX5_trap : ByteArray := prog_7_method_29_code
def yX5_trap : MethodName := ⟨RX5, "trap", "()V"⟩
abbrev cX5_start : ByteArray := prog_7_method_30_code
def yX5_start : MethodName := ⟨RX5, "start", "()V"⟩
abbrev cX5_begin : ByteArray := prog_7_method_31_code
def yX5_begin : MethodName := ⟨RX5, "begin", "()I"⟩
abbrev cX5_bestAt : ByteArray := prog_7_method_32_code
def yX5_bestAt : MethodName := ⟨RX5, "bestAt", "(IZ)I"⟩
abbrev cX5_nextThroat : ByteArray := prog_7_method_33_code
def yX5_nextThroat : MethodName := ⟨RX5, "nextThroat", "()I"⟩
abbrev cX5_open : ByteArray := prog_7_method_34_code
def yX5_open : MethodName := ⟨RX5, "open", "(I)V"⟩
abbrev cX5_step : ByteArray := prog_7_method_35_code
def yX5_step : MethodName := ⟨RX5, "step", "()I"⟩
abbrev cX5_run : ByteArray := prog_7_method_36_code
def yX5_run : MethodName := ⟨RX5, "run", "(I)I"⟩
abbrev cX5_undo : ByteArray := prog_7_method_37_code
def yX5_undo : MethodName := ⟨RX5, "undo", "(I)I"⟩
abbrev cX5_tellLakes : ByteArray := prog_7_method_38_code
def yX5_tellLakes : MethodName := ⟨RX5, "tellLakes", "()V"⟩
abbrev cX5_spreadLake : ByteArray := prog_7_method_39_code
def yX5_spreadLake : MethodName := ⟨RX5, "spreadLake", "(I)V"⟩
abbrev cX5_countPores : ByteArray := prog_7_method_40_code
def yX5_countPores : MethodName := ⟨RX5, "countPores", "(I)I"⟩
abbrev cX5_many : ByteArray := prog_7_method_41_code
def yX5_many : MethodName := ⟨RX5, "many", "(I)I"⟩
abbrev cX5_opened : ByteArray := prog_7_method_42_code
def yX5_opened : MethodName := ⟨RX5, "opened", "(I)I"⟩
abbrev cX5_now : ByteArray := prog_7_method_43_code
def yX5_now : MethodName := ⟨RX5, "now", "(II)I"⟩
abbrev cX5_front : ByteArray := prog_7_method_44_code
def yX5_front : MethodName := ⟨RX5, "front", "(I)I"⟩
abbrev cX5_lake : ByteArray := prog_7_method_45_code
def yX5_lake : MethodName := ⟨RX5, "lake", "(II)I"⟩
abbrev cX5_through : ByteArray := prog_7_method_46_code
def yX5_through : MethodName := ⟨RX5, "through", "()I"⟩
abbrev cX5_plainRun : ByteArray := prog_7_method_47_code
def yX5_plainRun : MethodName := ⟨RX5, "plainRun", "()V"⟩
abbrev cX5_behind : ByteArray := prog_7_method_48_code
def yX5_behind : MethodName := ⟨RX5, "behind", "(I)I"⟩
abbrev cX5_worst : ByteArray := prog_7_method_49_code
def yX5_worst : MethodName := ⟨RX5, "worst", "(I)I"⟩
abbrev cX5_way : ByteArray := prog_7_method_50_code
def yX5_way : MethodName := ⟨RX5, "way", "(II)I"⟩
abbrev cX5_apart : ByteArray := prog_7_method_51_code
def yX5_apart : MethodName := ⟨RX5, "apart", "()V"⟩
abbrev cX5_tie : ByteArray := prog_7_method_52_code
def yX5_tie : MethodName := ⟨RX5, "tie", "(I)Z"⟩
abbrev cX5_join : ByteArray := prog_7_method_53_code
def yX5_join : MethodName := ⟨RX5, "join", "(II)I"⟩
abbrev cX5_tree : ByteArray := prog_7_method_54_code
def yX5_tree : MethodName := ⟨RX5, "tree", "(I)I"⟩
abbrev cX5_claim : ByteArray := prog_7_method_55_code
def yX5_claim : MethodName := ⟨RX5, "claim", "(I)I"⟩
abbrev cX5_copy : ByteArray := prog_7_method_56_code
def yX5_copy : MethodName := ⟨RX5, "copy", "()I"⟩
abbrev cX5_alter : ByteArray := prog_7_method_57_code
def yX5_alter : MethodName := ⟨RX5, "alter", "(II)I"⟩
abbrev cX5_unclaim : ByteArray := prog_7_method_58_code
def yX5_unclaim : MethodName := ⟨RX5, "unclaim", "()I"⟩
abbrev cX5_keep : ByteArray := prog_7_method_59_code
def yX5_keep : MethodName := ⟨RX5, "keep", "(Z)V"⟩
abbrev cX5_check : ByteArray := prog_7_method_60_code
def yX5_check : MethodName := ⟨RX5, "check", "()I"⟩
def RJ9 : String := "java/lang/Math"
def TJ9 : u_T := fun k => match k with
  | _ => ("", "", "", false)
def tyJ9 : Nat → FieldType := fun k => match k with
  | _ => .int
abbrev wsJ90 : List Cond := u_ws RJ9 TJ9 0
theorem nmJ9 : ∀ a, a < 0 → ∀ b, b < 0 → a ≠ b → (TJ9 a).2.1 ≠ (TJ9 b).2.1 := by decide +kernel
theorem tyJ9_ok : ∀ k, k < 0 → parseFieldDescriptor (TJ9 k).2.2.1 = some (tyJ9 k) := by decide +kernel
abbrev cJ9_max_7cf53 : ByteArray := prog_8_method_65_code
def yJ9_max_7cf53 : MethodName := ⟨RJ9, "max", "(II)I"⟩
def RJ10 : String := "java/lang/System"
def TJ10 : u_T := fun k => match k with
  | _ => ("", "", "", false)
def tyJ10 : Nat → FieldType := fun k => match k with
  | _ => .int
abbrev wsJ100 : List Cond := u_ws RJ10 TJ10 0
theorem nmJ10 : ∀ a, a < 0 → ∀ b, b < 0 → a ≠ b → (TJ10 a).2.1 ≠ (TJ10 b).2.1 := by decide +kernel
theorem tyJ10_ok : ∀ k, k < 0 → parseFieldDescriptor (TJ10 k).2.2.1 = some (tyJ10 k) := by decide +kernel
def RL : String := "SeepingRockLaw"
abbrev cL_law : ByteArray := code
def yL_law : MethodName := ⟨RL, "law", "([I)Z"⟩
abbrev vwCl : List vw_C := [(RX0, TX0, 5), (RX1, TX1, 16), (RX2, TX2, 13), (RX3, TX3, 5), (RX4, TX4, 7), (RX5, TX5, 33)]
