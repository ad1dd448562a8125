section
-- ===== PART A: goes FIRST, ahead of the names: the tables' words, and 'selects' of the private methods out of them =====
/-- a private method of a class that the tables say can be made, by its rows of tables_1 -/
def lw_okq (q : MethodName × Nat) : Prop := (q.1.cls ≠ "java/lang/invoke/MethodHandle" ∧ q.1.cls ≠ "java/lang/invoke/VarHandle") ∧ Cond.instantiable q.1.cls q.2 ∈ tables_1 ∧ Cond.privateMethod q.1 ∈ tables_1 ∧ Cond.instanceMethod q.1 ∈ tables_1
theorem lw_p0 : lw_okq (⟨"SeepingRock$Rock", "listAt", "(II)V"⟩, 13) := ⟨⟨by decide +kernel, by decide +kernel⟩, List.mem_of_getElem? (i := 18) (by decide +kernel), List.mem_of_getElem? (i := 256) (by decide +kernel), List.mem_of_getElem? (i := 257) (by decide +kernel)⟩
theorem lw_p1 : lw_okq (⟨"SeepingRock$Rock", "rankIn", "(I)V"⟩, 13) := ⟨⟨by decide +kernel, by decide +kernel⟩, List.mem_of_getElem? (i := 18) (by decide +kernel), List.mem_of_getElem? (i := 260) (by decide +kernel), List.mem_of_getElem? (i := 261) (by decide +kernel)⟩
theorem lw_p2 : lw_okq (⟨"SeepingRock$Rock", "isAhead", "(II)Z"⟩, 13) := ⟨⟨by decide +kernel, by decide +kernel⟩, List.mem_of_getElem? (i := 18) (by decide +kernel), List.mem_of_getElem? (i := 264) (by decide +kernel), List.mem_of_getElem? (i := 265) (by decide +kernel)⟩
theorem lw_p3 : lw_okq (⟨"SeepingRock$Rock", "place", "(II)V"⟩, 13) := ⟨⟨by decide +kernel, by decide +kernel⟩, List.mem_of_getElem? (i := 18) (by decide +kernel), List.mem_of_getElem? (i := 268) (by decide +kernel), List.mem_of_getElem? (i := 269) (by decide +kernel)⟩
theorem lw_p4 : lw_okq (⟨"SeepingRock$Rock", "rankOut", "(I)V"⟩, 13) := ⟨⟨by decide +kernel, by decide +kernel⟩, List.mem_of_getElem? (i := 18) (by decide +kernel), List.mem_of_getElem? (i := 293) (by decide +kernel), List.mem_of_getElem? (i := 294) (by decide +kernel)⟩
theorem lw_p5 : lw_okq (⟨"SeepingRock$Core", "wholeOf", "(JI)J"⟩, 5) := ⟨⟨by decide +kernel, by decide +kernel⟩, List.mem_of_getElem? (i := 187) (by decide +kernel), List.mem_of_getElem? (i := 344) (by decide +kernel), List.mem_of_getElem? (i := 345) (by decide +kernel)⟩
theorem lw_p6 : lw_okq (⟨"SeepingRock", "pourOne", "(LSeepingRock$Core;II)V"⟩, 7) := ⟨⟨by decide +kernel, by decide +kernel⟩, List.mem_of_getElem? (i := 10) (by decide +kernel), List.mem_of_getElem? (i := 386) (by decide +kernel), List.mem_of_getElem? (i := 387) (by decide +kernel)⟩
theorem lw_p7 : lw_okq (⟨"SeepingRock$Flow", "cutOff", "()V"⟩, 16) := ⟨⟨by decide +kernel, by decide +kernel⟩, List.mem_of_getElem? (i := 97) (by decide +kernel), List.mem_of_getElem? (i := 402) (by decide +kernel), List.mem_of_getElem? (i := 403) (by decide +kernel)⟩
theorem lw_p8 : lw_okq (⟨"SeepingRock$Flow", "reachFromOutlets", "()V"⟩, 16) := ⟨⟨by decide +kernel, by decide +kernel⟩, List.mem_of_getElem? (i := 97) (by decide +kernel), List.mem_of_getElem? (i := 406) (by decide +kernel), List.mem_of_getElem? (i := 407) (by decide +kernel)⟩
theorem lw_p9 : lw_okq (⟨"SeepingRock$Flow", "reachAround", "(II)I"⟩, 16) := ⟨⟨by decide +kernel, by decide +kernel⟩, List.mem_of_getElem? (i := 97) (by decide +kernel), List.mem_of_getElem? (i := 410) (by decide +kernel), List.mem_of_getElem? (i := 411) (by decide +kernel)⟩
theorem lw_p10 : lw_okq (⟨"SeepingRock$Flow", "addLake", "(I)V"⟩, 16) := ⟨⟨by decide +kernel, by decide +kernel⟩, List.mem_of_getElem? (i := 97) (by decide +kernel), List.mem_of_getElem? (i := 419) (by decide +kernel), List.mem_of_getElem? (i := 420) (by decide +kernel)⟩
theorem lw_p11 : lw_okq (⟨"SeepingRock$Flow", "drownAround", "(II)I"⟩, 16) := ⟨⟨by decide +kernel, by decide +kernel⟩, List.mem_of_getElem? (i := 97) (by decide +kernel), List.mem_of_getElem? (i := 423) (by decide +kernel), List.mem_of_getElem? (i := 424) (by decide +kernel)⟩
theorem lw_p12 : lw_okq (⟨"SeepingRock$Flow", "greatestRankOpened", "()I"⟩, 16) := ⟨⟨by decide +kernel, by decide +kernel⟩, List.mem_of_getElem? (i := 97) (by decide +kernel), List.mem_of_getElem? (i := 427) (by decide +kernel), List.mem_of_getElem? (i := 428) (by decide +kernel)⟩
theorem lw_p13 : lw_okq (⟨"SeepingRock$Flow", "nextThroat", "()I"⟩, 16) := ⟨⟨by decide +kernel, by decide +kernel⟩, List.mem_of_getElem? (i := 97) (by decide +kernel), List.mem_of_getElem? (i := 446) (by decide +kernel), List.mem_of_getElem? (i := 447) (by decide +kernel)⟩
theorem lw_p14 : lw_okq (⟨"SeepingRock$Flow", "preferredAt", "(I)I"⟩, 16) := ⟨⟨by decide +kernel, by decide +kernel⟩, List.mem_of_getElem? (i := 97) (by decide +kernel), List.mem_of_getElem? (i := 450) (by decide +kernel), List.mem_of_getElem? (i := 451) (by decide +kernel)⟩
theorem lw_p15 : lw_okq (⟨"SeepingRock$Flow", "isCandidate", "(I)Z"⟩, 16) := ⟨⟨by decide +kernel, by decide +kernel⟩, List.mem_of_getElem? (i := 97) (by decide +kernel), List.mem_of_getElem? (i := 454) (by decide +kernel), List.mem_of_getElem? (i := 455) (by decide +kernel)⟩
def lw_privs_1 : List (MethodName × Nat) := [(⟨"SeepingRock$Rock", "listAt", "(II)V"⟩, 13), (⟨"SeepingRock$Rock", "rankIn", "(I)V"⟩, 13), (⟨"SeepingRock$Rock", "isAhead", "(II)Z"⟩, 13), (⟨"SeepingRock$Rock", "place", "(II)V"⟩, 13), (⟨"SeepingRock$Rock", "rankOut", "(I)V"⟩, 13), (⟨"SeepingRock$Core", "wholeOf", "(JI)J"⟩, 5), (⟨"SeepingRock", "pourOne", "(LSeepingRock$Core;II)V"⟩, 7), (⟨"SeepingRock$Flow", "cutOff", "()V"⟩, 16), (⟨"SeepingRock$Flow", "reachFromOutlets", "()V"⟩, 16), (⟨"SeepingRock$Flow", "reachAround", "(II)I"⟩, 16), (⟨"SeepingRock$Flow", "addLake", "(I)V"⟩, 16), (⟨"SeepingRock$Flow", "drownAround", "(II)I"⟩, 16), (⟨"SeepingRock$Flow", "greatestRankOpened", "()I"⟩, 16), (⟨"SeepingRock$Flow", "nextThroat", "()I"⟩, 16), (⟨"SeepingRock$Flow", "preferredAt", "(I)I"⟩, 16), (⟨"SeepingRock$Flow", "isCandidate", "(I)Z"⟩, 16)]
theorem lw_r1 : ∀ q ∈ lw_privs_1, lw_okq q := List.forall_mem_cons.mpr ⟨lw_p0, List.forall_mem_cons.mpr ⟨lw_p1, List.forall_mem_cons.mpr ⟨lw_p2, List.forall_mem_cons.mpr ⟨lw_p3, List.forall_mem_cons.mpr ⟨lw_p4, List.forall_mem_cons.mpr ⟨lw_p5, List.forall_mem_cons.mpr ⟨lw_p6, List.forall_mem_cons.mpr ⟨lw_p7, List.forall_mem_cons.mpr ⟨lw_p8, List.forall_mem_cons.mpr ⟨lw_p9, List.forall_mem_cons.mpr ⟨lw_p10, List.forall_mem_cons.mpr ⟨lw_p11, List.forall_mem_cons.mpr ⟨lw_p12, List.forall_mem_cons.mpr ⟨lw_p13, List.forall_mem_cons.mpr ⟨lw_p14, List.forall_mem_cons.mpr ⟨lw_p15, fun _ h => absurd h List.not_mem_nil⟩⟩⟩⟩⟩⟩⟩⟩⟩⟩⟩⟩⟩⟩⟩⟩
theorem lw_p16 : lw_okq (⟨"SeepingRock$Flow", "leads", "(II)Z"⟩, 16) := ⟨⟨by decide +kernel, by decide +kernel⟩, List.mem_of_getElem? (i := 97) (by decide +kernel), List.mem_of_getElem? (i := 458) (by decide +kernel), List.mem_of_getElem? (i := 459) (by decide +kernel)⟩
theorem lw_p17 : lw_okq (⟨"SeepingRock$Flow", "isPreferred", "(IIZ)Z"⟩, 16) := ⟨⟨by decide +kernel, by decide +kernel⟩, List.mem_of_getElem? (i := 97) (by decide +kernel), List.mem_of_getElem? (i := 462) (by decide +kernel), List.mem_of_getElem? (i := 463) (by decide +kernel)⟩
theorem lw_p18 : lw_okq (⟨"SeepingRock", "manyInRun", "(I)I"⟩, 7) := ⟨⟨by decide +kernel, by decide +kernel⟩, List.mem_of_getElem? (i := 10) (by decide +kernel), List.mem_of_getElem? (i := 486) (by decide +kernel), List.mem_of_getElem? (i := 487) (by decide +kernel)⟩
theorem lw_p19 : lw_okq (⟨"SeepingRock$Ways", "fillNext", "()Z"⟩, 5) := ⟨⟨by decide +kernel, by decide +kernel⟩, List.mem_of_getElem? (i := 164) (by decide +kernel), List.mem_of_getElem? (i := 531) (by decide +kernel), List.mem_of_getElem? (i := 532) (by decide +kernel)⟩
theorem lw_p20 : lw_okq (⟨"SeepingRock$Ways", "fill", "(II)V"⟩, 5) := ⟨⟨by decide +kernel, by decide +kernel⟩, List.mem_of_getElem? (i := 164) (by decide +kernel), List.mem_of_getElem? (i := 535) (by decide +kernel), List.mem_of_getElem? (i := 536) (by decide +kernel)⟩
theorem lw_p21 : lw_okq (⟨"SeepingRock$Ways", "stand", "()V"⟩, 5) := ⟨⟨by decide +kernel, by decide +kernel⟩, List.mem_of_getElem? (i := 164) (by decide +kernel), List.mem_of_getElem? (i := 557) (by decide +kernel), List.mem_of_getElem? (i := 558) (by decide +kernel)⟩
theorem lw_p22 : lw_okq (⟨"SeepingRock$Ways", "unite", "(I)Z"⟩, 5) := ⟨⟨by decide +kernel, by decide +kernel⟩, List.mem_of_getElem? (i := 164) (by decide +kernel), List.mem_of_getElem? (i := 561) (by decide +kernel), List.mem_of_getElem? (i := 562) (by decide +kernel)⟩
theorem lw_p23 : lw_okq (⟨"SeepingRockModel", "isPore", "(I)Z"⟩, 33) := ⟨⟨by decide +kernel, by decide +kernel⟩, List.mem_of_getElem? (i := 593) (by decide +kernel), List.mem_of_getElem? (i := 708) (by decide +kernel), List.mem_of_getElem? (i := 709) (by decide +kernel)⟩
theorem lw_p24 : lw_okq (⟨"SeepingRockModel", "isThroat", "(I)Z"⟩, 33) := ⟨⟨by decide +kernel, by decide +kernel⟩, List.mem_of_getElem? (i := 593) (by decide +kernel), List.mem_of_getElem? (i := 716) (by decide +kernel), List.mem_of_getElem? (i := 717) (by decide +kernel)⟩
theorem lw_p25 : lw_okq (⟨"SeepingRockModel", "rank", "(I)I"⟩, 33) := ⟨⟨by decide +kernel, by decide +kernel⟩, List.mem_of_getElem? (i := 593) (by decide +kernel), List.mem_of_getElem? (i := 737) (by decide +kernel), List.mem_of_getElem? (i := 738) (by decide +kernel)⟩
theorem lw_p26 : lw_okq (⟨"SeepingRockModel", "isLess", "(II)Z"⟩, 33) := ⟨⟨by decide +kernel, by decide +kernel⟩, List.mem_of_getElem? (i := 593) (by decide +kernel), List.mem_of_getElem? (i := 741) (by decide +kernel), List.mem_of_getElem? (i := 742) (by decide +kernel)⟩
theorem lw_p27 : lw_okq (⟨"SeepingRockModel", "hasRow", "(III)Z"⟩, 33) := ⟨⟨by decide +kernel, by decide +kernel⟩, List.mem_of_getElem? (i := 593) (by decide +kernel), List.mem_of_getElem? (i := 776) (by decide +kernel), List.mem_of_getElem? (i := 777) (by decide +kernel)⟩
theorem lw_p28 : lw_okq (⟨"SeepingRockModel", "wholeOf", "(II)J"⟩, 33) := ⟨⟨by decide +kernel, by decide +kernel⟩, List.mem_of_getElem? (i := 593) (by decide +kernel), List.mem_of_getElem? (i := 789) (by decide +kernel), List.mem_of_getElem? (i := 790) (by decide +kernel)⟩
theorem lw_p29 : lw_okq (⟨"SeepingRockModel", "start", "()V"⟩, 33) := ⟨⟨by decide +kernel, by decide +kernel⟩, List.mem_of_getElem? (i := 593) (by decide +kernel), List.mem_of_getElem? (i := 802) (by decide +kernel), List.mem_of_getElem? (i := 803) (by decide +kernel)⟩
theorem lw_p30 : lw_okq (⟨"SeepingRockModel", "trap", "()V"⟩, 33) := ⟨⟨by decide +kernel, by decide +kernel⟩, List.mem_of_getElem? (i := 593) (by decide +kernel), List.mem_of_getElem? (i := 806) (by decide +kernel), List.mem_of_getElem? (i := 807) (by decide +kernel)⟩
theorem lw_p31 : lw_okq (⟨"SeepingRockModel", "isFilled", "(I)Z"⟩, 33) := ⟨⟨by decide +kernel, by decide +kernel⟩, List.mem_of_getElem? (i := 593) (by decide +kernel), List.mem_of_getElem? (i := 810) (by decide +kernel), List.mem_of_getElem? (i := 811) (by decide +kernel)⟩
def lw_privs_2 : List (MethodName × Nat) := [(⟨"SeepingRock$Flow", "leads", "(II)Z"⟩, 16), (⟨"SeepingRock$Flow", "isPreferred", "(IIZ)Z"⟩, 16), (⟨"SeepingRock", "manyInRun", "(I)I"⟩, 7), (⟨"SeepingRock$Ways", "fillNext", "()Z"⟩, 5), (⟨"SeepingRock$Ways", "fill", "(II)V"⟩, 5), (⟨"SeepingRock$Ways", "stand", "()V"⟩, 5), (⟨"SeepingRock$Ways", "unite", "(I)Z"⟩, 5), (⟨"SeepingRockModel", "isPore", "(I)Z"⟩, 33), (⟨"SeepingRockModel", "isThroat", "(I)Z"⟩, 33), (⟨"SeepingRockModel", "rank", "(I)I"⟩, 33), (⟨"SeepingRockModel", "isLess", "(II)Z"⟩, 33), (⟨"SeepingRockModel", "hasRow", "(III)Z"⟩, 33), (⟨"SeepingRockModel", "wholeOf", "(II)J"⟩, 33), (⟨"SeepingRockModel", "start", "()V"⟩, 33), (⟨"SeepingRockModel", "trap", "()V"⟩, 33), (⟨"SeepingRockModel", "isFilled", "(I)Z"⟩, 33)]
theorem lw_r2 : ∀ q ∈ lw_privs_2, lw_okq q := List.forall_mem_cons.mpr ⟨lw_p16, List.forall_mem_cons.mpr ⟨lw_p17, List.forall_mem_cons.mpr ⟨lw_p18, List.forall_mem_cons.mpr ⟨lw_p19, List.forall_mem_cons.mpr ⟨lw_p20, List.forall_mem_cons.mpr ⟨lw_p21, List.forall_mem_cons.mpr ⟨lw_p22, List.forall_mem_cons.mpr ⟨lw_p23, List.forall_mem_cons.mpr ⟨lw_p24, List.forall_mem_cons.mpr ⟨lw_p25, List.forall_mem_cons.mpr ⟨lw_p26, List.forall_mem_cons.mpr ⟨lw_p27, List.forall_mem_cons.mpr ⟨lw_p28, List.forall_mem_cons.mpr ⟨lw_p29, List.forall_mem_cons.mpr ⟨lw_p30, List.forall_mem_cons.mpr ⟨lw_p31, fun _ h => absurd h List.not_mem_nil⟩⟩⟩⟩⟩⟩⟩⟩⟩⟩⟩⟩⟩⟩⟩⟩
theorem lw_p32 : lw_okq (⟨"SeepingRockModel", "isFree", "(I)Z"⟩, 33) := ⟨⟨by decide +kernel, by decide +kernel⟩, List.mem_of_getElem? (i := 593) (by decide +kernel), List.mem_of_getElem? (i := 814) (by decide +kernel), List.mem_of_getElem? (i := 815) (by decide +kernel)⟩
theorem lw_p33 : lw_okq (⟨"SeepingRockModel", "countPores", "(I)I"⟩, 33) := ⟨⟨by decide +kernel, by decide +kernel⟩, List.mem_of_getElem? (i := 593) (by decide +kernel), List.mem_of_getElem? (i := 822) (by decide +kernel), List.mem_of_getElem? (i := 823) (by decide +kernel)⟩
theorem lw_p34 : lw_okq (⟨"SeepingRockModel", "tellLakes", "()V"⟩, 33) := ⟨⟨by decide +kernel, by decide +kernel⟩, List.mem_of_getElem? (i := 593) (by decide +kernel), List.mem_of_getElem? (i := 826) (by decide +kernel), List.mem_of_getElem? (i := 827) (by decide +kernel)⟩
theorem lw_p35 : lw_okq (⟨"SeepingRockModel", "spreadLake", "(I)V"⟩, 33) := ⟨⟨by decide +kernel, by decide +kernel⟩, List.mem_of_getElem? (i := 593) (by decide +kernel), List.mem_of_getElem? (i := 830) (by decide +kernel), List.mem_of_getElem? (i := 831) (by decide +kernel)⟩
theorem lw_p36 : lw_okq (⟨"SeepingRockModel", "isCandidate", "(I)Z"⟩, 33) := ⟨⟨by decide +kernel, by decide +kernel⟩, List.mem_of_getElem? (i := 593) (by decide +kernel), List.mem_of_getElem? (i := 834) (by decide +kernel), List.mem_of_getElem? (i := 835) (by decide +kernel)⟩
theorem lw_p37 : lw_okq (⟨"SeepingRockModel", "leads", "(II)Z"⟩, 33) := ⟨⟨by decide +kernel, by decide +kernel⟩, List.mem_of_getElem? (i := 593) (by decide +kernel), List.mem_of_getElem? (i := 838) (by decide +kernel), List.mem_of_getElem? (i := 839) (by decide +kernel)⟩
theorem lw_p38 : lw_okq (⟨"SeepingRockModel", "nextThroat", "()I"⟩, 33) := ⟨⟨by decide +kernel, by decide +kernel⟩, List.mem_of_getElem? (i := 593) (by decide +kernel), List.mem_of_getElem? (i := 846) (by decide +kernel), List.mem_of_getElem? (i := 847) (by decide +kernel)⟩
theorem lw_p39 : lw_okq (⟨"SeepingRockModel", "bestAt", "(IZ)I"⟩, 33) := ⟨⟨by decide +kernel, by decide +kernel⟩, List.mem_of_getElem? (i := 593) (by decide +kernel), List.mem_of_getElem? (i := 850) (by decide +kernel), List.mem_of_getElem? (i := 851) (by decide +kernel)⟩
theorem lw_p40 : lw_okq (⟨"SeepingRockModel", "open", "(I)V"⟩, 33) := ⟨⟨by decide +kernel, by decide +kernel⟩, List.mem_of_getElem? (i := 593) (by decide +kernel), List.mem_of_getElem? (i := 854) (by decide +kernel), List.mem_of_getElem? (i := 855) (by decide +kernel)⟩
theorem lw_p41 : lw_okq (⟨"SeepingRockModel", "plainRun", "()V"⟩, 33) := ⟨⟨by decide +kernel, by decide +kernel⟩, List.mem_of_getElem? (i := 593) (by decide +kernel), List.mem_of_getElem? (i := 891) (by decide +kernel), List.mem_of_getElem? (i := 892) (by decide +kernel)⟩
theorem lw_p42 : lw_okq (⟨"SeepingRockModel", "behind", "(I)I"⟩, 33) := ⟨⟨by decide +kernel, by decide +kernel⟩, List.mem_of_getElem? (i := 593) (by decide +kernel), List.mem_of_getElem? (i := 895) (by decide +kernel), List.mem_of_getElem? (i := 896) (by decide +kernel)⟩
theorem lw_p43 : lw_okq (⟨"SeepingRockModel", "apart", "()V"⟩, 33) := ⟨⟨by decide +kernel, by decide +kernel⟩, List.mem_of_getElem? (i := 593) (by decide +kernel), List.mem_of_getElem? (i := 907) (by decide +kernel), List.mem_of_getElem? (i := 908) (by decide +kernel)⟩
theorem lw_p44 : lw_okq (⟨"SeepingRockModel", "tie", "(I)Z"⟩, 33) := ⟨⟨by decide +kernel, by decide +kernel⟩, List.mem_of_getElem? (i := 593) (by decide +kernel), List.mem_of_getElem? (i := 912) (by decide +kernel), List.mem_of_getElem? (i := 913) (by decide +kernel)⟩
theorem lw_p45 : lw_okq (⟨"SeepingRockModel", "keep", "(Z)V"⟩, 33) := ⟨⟨by decide +kernel, by decide +kernel⟩, List.mem_of_getElem? (i := 593) (by decide +kernel), List.mem_of_getElem? (i := 940) (by decide +kernel), List.mem_of_getElem? (i := 941) (by decide +kernel)⟩
def lw_privs_3 : List (MethodName × Nat) := [(⟨"SeepingRockModel", "isFree", "(I)Z"⟩, 33), (⟨"SeepingRockModel", "countPores", "(I)I"⟩, 33), (⟨"SeepingRockModel", "tellLakes", "()V"⟩, 33), (⟨"SeepingRockModel", "spreadLake", "(I)V"⟩, 33), (⟨"SeepingRockModel", "isCandidate", "(I)Z"⟩, 33), (⟨"SeepingRockModel", "leads", "(II)Z"⟩, 33), (⟨"SeepingRockModel", "nextThroat", "()I"⟩, 33), (⟨"SeepingRockModel", "bestAt", "(IZ)I"⟩, 33), (⟨"SeepingRockModel", "open", "(I)V"⟩, 33), (⟨"SeepingRockModel", "plainRun", "()V"⟩, 33), (⟨"SeepingRockModel", "behind", "(I)I"⟩, 33), (⟨"SeepingRockModel", "apart", "()V"⟩, 33), (⟨"SeepingRockModel", "tie", "(I)Z"⟩, 33), (⟨"SeepingRockModel", "keep", "(Z)V"⟩, 33)]
theorem lw_r3 : ∀ q ∈ lw_privs_3, lw_okq q := List.forall_mem_cons.mpr ⟨lw_p32, List.forall_mem_cons.mpr ⟨lw_p33, List.forall_mem_cons.mpr ⟨lw_p34, List.forall_mem_cons.mpr ⟨lw_p35, List.forall_mem_cons.mpr ⟨lw_p36, List.forall_mem_cons.mpr ⟨lw_p37, List.forall_mem_cons.mpr ⟨lw_p38, List.forall_mem_cons.mpr ⟨lw_p39, List.forall_mem_cons.mpr ⟨lw_p40, List.forall_mem_cons.mpr ⟨lw_p41, List.forall_mem_cons.mpr ⟨lw_p42, List.forall_mem_cons.mpr ⟨lw_p43, List.forall_mem_cons.mpr ⟨lw_p44, List.forall_mem_cons.mpr ⟨lw_p45, fun _ h => absurd h List.not_mem_nil⟩⟩⟩⟩⟩⟩⟩⟩⟩⟩⟩⟩⟩⟩
def lw_privs : List (MethodName × Nat) := lw_privs_1 ++ (lw_privs_2 ++ (lw_privs_3))
def lw_tbl : List Cond := k2_sels lw_privs ++ tables_1
theorem lw_privs_ok : ∀ q ∈ lw_privs, lw_okq q := by
  show ∀ q ∈ lw_privs_1 ++ (lw_privs_2 ++ (lw_privs_3)), lw_okq q
  exact List.forall_mem_append.mpr ⟨lw_r1, List.forall_mem_append.mpr ⟨lw_r2, lw_r3⟩⟩
/-- the streams that the claim lets the run draw from -/
abbrev lw_cs : List Choice := [Jvm.Choice.named "NaN.bits"]
theorem lw_bits : nanBits ∈ lw_cs := by first | decide | exact List.mem_cons_self | simp [lw_cs, nanBits]
/-! ===== BEGIN printed: names, fields, word lists, decode rows ===== -/
def RX0 : String := "SeepingRock$Core"
def TX0 : u_T := fun k => match k with
  | 0 => ("SeepingRock$Core", "there", "Z", false)
  | 1 => ("SeepingRock$Core", "kind", "I", false)
  | 2 => ("SeepingRock$Core", "size", "I", false)
  | 3 => ("SeepingRock$Core", "whole", "[J", true)
  | _ => ("SeepingRock$Core", "noNumber", "[B", true)
def tyX0 : Nat → FieldType := fun k => match k with
  | 0 => .boolean
  | 1 => .int
  | 2 => .int
  | 3 => .array .long
  | _ => .array .byte
abbrev wsX00 : List Cond := u_ws RX0 TX0 5
theorem nmX0 : ∀ a, a < 5 → ∀ b, b < 5 → a ≠ b → (TX0 a).2.1 ≠ (TX0 b).2.1 := by decide +kernel
theorem tyX0_ok : ∀ k, k < 5 → parseFieldDescriptor (TX0 k).2.2.1 = some (tyX0 k) := by decide +kernel
abbrev cX0_init : ByteArray := prog_2_method_1_code
def yX0_init : MethodName := ⟨RX0, "<init>", "()V"⟩
abbrev cX0_renew : ByteArray := prog_2_method_2_code
def yX0_renew : MethodName := ⟨RX0, "renew", "(II)V"⟩
abbrev cX0_hasNumber : ByteArray := prog_2_method_3_code
def yX0_hasNumber : MethodName := ⟨RX0, "hasNumber", "(I)Z"⟩
abbrev cX0_isNoNumber : ByteArray := prog_2_method_4_code
def yX0_isNoNumber : MethodName := ⟨RX0, "isNoNumber", "(I)Z"⟩
abbrev cX0_spans : ByteArray := prog_2_method_5_code
def yX0_spans : MethodName := ⟨RX0, "spans", "(II)Z"⟩
abbrev cX0_put : ByteArray := prog_2_method_6_code
def yX0_put : MethodName := ⟨RX0, "put", "(IJI)V"⟩
abbrev cX0_putWild : ByteArray := prog_2_method_7_code
def yX0_putWild : MethodName := ⟨RX0, "putWild", "(II)V"⟩
abbrev cX0_putFrom : ByteArray := prog_2_method_8_code
def yX0_putFrom : MethodName := ⟨RX0, "putFrom", "(ILSeepingRock$Core;II)V"⟩
abbrev cX0_wholeOf : ByteArray := prog_2_method_9_code
def yX0_wholeOf : MethodName := ⟨RX0, "wholeOf", "(JI)J"⟩
def RX1 : String := "SeepingRock$Flow"
def TX1 : u_T := fun k => match k with
  | 0 => ("SeepingRock$Flow", "rock", "LSeepingRock$Rock;", true)
  | 1 => ("SeepingRock$Flow", "on", "Z", false)
  | 2 => ("SeepingRock$Flow", "steps", "I", false)
  | 3 => ("SeepingRock$Flow", "throatOf", "[I", true)
  | 4 => ("SeepingRock$Flow", "poreOf", "[I", true)
  | 5 => ("SeepingRock$Flow", "filledStep", "[I", true)
  | 6 => ("SeepingRock$Flow", "filledBy", "[I", true)
  | 7 => ("SeepingRock$Flow", "cutStep", "[I", true)
  | 8 => ("SeepingRock$Flow", "lakeOf", "[I", true)
  | 9 => ("SeepingRock$Flow", "lakes", "I", false)
  | 10 => ("SeepingRock$Flow", "lakeStep", "[I", true)
  | 11 => ("SeepingRock$Flow", "lakeSize", "[I", true)
  | 12 => ("SeepingRock$Flow", "lakeLeast", "[I", true)
  | 13 => ("SeepingRock$Flow", "lakeLevel", "[I", true)
  | 14 => ("SeepingRock$Flow", "queue", "[I", true)
  | _ => ("SeepingRock$Flow", "reached", "[Z", true)
def tyX1 : Nat → FieldType := fun k => match k with
  | 0 => .object "SeepingRock$Rock"
  | 1 => .boolean
  | 2 => .int
  | 3 => .array .int
  | 4 => .array .int
  | 5 => .array .int
  | 6 => .array .int
  | 7 => .array .int
  | 8 => .array .int
  | 9 => .int
  | 10 => .array .int
  | 11 => .array .int
  | 12 => .array .int
  | 13 => .array .int
  | 14 => .array .int
  | _ => .array .boolean
abbrev wsX10 : List Cond := u_ws RX1 TX1 16
theorem nmX1 : ∀ a, a < 16 → ∀ b, b < 16 → a ≠ b → (TX1 a).2.1 ≠ (TX1 b).2.1 := by decide +kernel
theorem tyX1_ok : ∀ k, k < 16 → parseFieldDescriptor (TX1 k).2.2.1 = some (tyX1 k) := by decide +kernel
abbrev cX1_init : ByteArray := prog_3_method_1_code
def yX1_init : MethodName := ⟨RX1, "<init>", "(LSeepingRock$Rock;)V"⟩
abbrev cX1_start : ByteArray := prog_3_method_2_code
def yX1_start : MethodName := ⟨RX1, "start", "()V"⟩
abbrev cX1_advance : ByteArray := prog_3_method_3_code
def yX1_advance : MethodName := ⟨RX1, "advance", "()I"⟩
abbrev cX1_takeBackTo : ByteArray := prog_3_method_4_code
def yX1_takeBackTo : MethodName := ⟨RX1, "takeBackTo", "(I)V"⟩
abbrev cX1_candidate : ByteArray := prog_3_method_5_code
def yX1_candidate : MethodName := ⟨RX1, "candidate", "(I)I"⟩
abbrev cX1_countCandidates : ByteArray := prog_3_method_6_code
def yX1_countCandidates : MethodName := ⟨RX1, "countCandidates", "()I"⟩
abbrev cX1_countFilled : ByteArray := prog_3_method_7_code
def yX1_countFilled : MethodName := ⟨RX1, "countFilled", "()I"⟩
abbrev cX1_countCut : ByteArray := prog_3_method_8_code
def yX1_countCut : MethodName := ⟨RX1, "countCut", "()I"⟩
abbrev cX1_firstOutletStep : ByteArray := prog_3_method_9_code
def yX1_firstOutletStep : MethodName := ⟨RX1, "firstOutletStep", "()I"⟩
abbrev cX1_nextThroat : ByteArray := prog_3_method_10_code
def yX1_nextThroat : MethodName := ⟨RX1, "nextThroat", "()I"⟩
abbrev cX1_preferredAt : ByteArray := prog_3_method_11_code
def yX1_preferredAt : MethodName := ⟨RX1, "preferredAt", "(I)I"⟩
abbrev cX1_isPreferred : ByteArray := prog_3_method_12_code
def yX1_isPreferred : MethodName := ⟨RX1, "isPreferred", "(IIZ)Z"⟩
abbrev cX1_isCandidate : ByteArray := prog_3_method_13_code
def yX1_isCandidate : MethodName := ⟨RX1, "isCandidate", "(I)Z"⟩
abbrev cX1_leads : ByteArray := prog_3_method_14_code
def yX1_leads : MethodName := ⟨RX1, "leads", "(II)Z"⟩
abbrev cX1_cutOff : ByteArray := prog_3_method_15_code
def yX1_cutOff : MethodName := ⟨RX1, "cutOff", "()V"⟩
abbrev cX1_reachFromOutlets : ByteArray := prog_3_method_16_code
def yX1_reachFromOutlets : MethodName := ⟨RX1, "reachFromOutlets", "()V"⟩
abbrev cX1_reachAround : ByteArray := prog_3_method_17_code
def yX1_reachAround : MethodName := ⟨RX1, "reachAround", "(II)I"⟩
abbrev cX1_addLake : ByteArray := prog_3_method_18_code
def yX1_addLake : MethodName := ⟨RX1, "addLake", "(I)V"⟩
abbrev cX1_drownAround : ByteArray := prog_3_method_19_code
def yX1_drownAround : MethodName := ⟨RX1, "drownAround", "(II)I"⟩
abbrev cX1_greatestRankOpened : ByteArray := prog_3_method_20_code
def yX1_greatestRankOpened : MethodName := ⟨RX1, "greatestRankOpened", "()I"⟩
def RX2 : String := "SeepingRock$Rock"
def TX2 : u_T := fun k => match k with
  | 0 => ("SeepingRock$Rock", "pores", "I", false)
  | 1 => ("SeepingRock$Rock", "kind", "[I", true)
  | 2 => ("SeepingRock$Rock", "inlet", "[Z", true)
  | 3 => ("SeepingRock$Rock", "throats", "I", false)
  | 4 => ("SeepingRock$Rock", "oneEnd", "[I", true)
  | 5 => ("SeepingRock$Rock", "otherEnd", "[I", true)
  | 6 => ("SeepingRock$Rock", "hindrance", "[I", true)
  | 7 => ("SeepingRock$Rock", "rank", "[I", true)
  | 8 => ("SeepingRock$Rock", "byRank", "[I", true)
  | 9 => ("SeepingRock$Rock", "open", "I", false)
  | 10 => ("SeepingRock$Rock", "firstAt", "[I", true)
  | 11 => ("SeepingRock$Rock", "at", "[I", true)
  | _ => ("SeepingRock$Rock", "trapping", "Z", false)
def tyX2 : Nat → FieldType := fun k => match k with
  | 0 => .int
  | 1 => .array .int
  | 2 => .array .boolean
  | 3 => .int
  | 4 => .array .int
  | 5 => .array .int
  | 6 => .array .int
  | 7 => .array .int
  | 8 => .array .int
  | 9 => .int
  | 10 => .array .int
  | 11 => .array .int
  | _ => .boolean
abbrev wsX20 : List Cond := u_ws RX2 TX2 13
theorem nmX2 : ∀ a, a < 13 → ∀ b, b < 13 → a ≠ b → (TX2 a).2.1 ≠ (TX2 b).2.1 := by decide +kernel
theorem tyX2_ok : ∀ k, k < 13 → parseFieldDescriptor (TX2 k).2.2.1 = some (tyX2 k) := by decide +kernel
abbrev cX2_init : ByteArray := prog_4_method_1_code
def yX2_init : MethodName := ⟨RX2, "<init>", "()V"⟩
abbrev cX2_hasPore : ByteArray := prog_4_method_2_code
def yX2_hasPore : MethodName := ⟨RX2, "hasPore", "(I)Z"⟩
abbrev cX2_hasThroat : ByteArray := prog_4_method_3_code
def yX2_hasThroat : MethodName := ⟨RX2, "hasThroat", "(I)Z"⟩
abbrev cX2_isOpen : ByteArray := prog_4_method_4_code
def yX2_isOpen : MethodName := ⟨RX2, "isOpen", "(I)Z"⟩
abbrev cX2_across : ByteArray := prog_4_method_5_code
def yX2_across : MethodName := ⟨RX2, "across", "(II)I"⟩
abbrev cX2_addPore : ByteArray := prog_4_method_6_code
def yX2_addPore : MethodName := ⟨RX2, "addPore", "(I)I"⟩
abbrev cX2_addThroat : ByteArray := prog_4_method_7_code
def yX2_addThroat : MethodName := ⟨RX2, "addThroat", "(II)I"⟩
abbrev cX2_settle : ByteArray := prog_4_method_8_code
def yX2_settle : MethodName := ⟨RX2, "settle", "(IIZ)V"⟩
abbrev cX2_listAt : ByteArray := prog_4_method_9_code
def yX2_listAt : MethodName := ⟨RX2, "listAt", "(II)V"⟩
abbrev cX2_rankOut : ByteArray := prog_4_method_10_code
def yX2_rankOut : MethodName := ⟨RX2, "rankOut", "(I)V"⟩
abbrev cX2_rankIn : ByteArray := prog_4_method_11_code
def yX2_rankIn : MethodName := ⟨RX2, "rankIn", "(I)V"⟩
abbrev cX2_place : ByteArray := prog_4_method_12_code
def yX2_place : MethodName := ⟨RX2, "place", "(II)V"⟩
abbrev cX2_isAhead : ByteArray := prog_4_method_13_code
def yX2_isAhead : MethodName := ⟨RX2, "isAhead", "(II)Z"⟩
def RX3 : String := "SeepingRock$Ways"
def TX3 : u_T := fun k => match k with
  | 0 => ("SeepingRock$Ways", "rock", "LSeepingRock$Rock;", true)
  | 1 => ("SeepingRock$Ways", "length", "[I", true)
  | 2 => ("SeepingRock$Ways", "worstRank", "[I", true)
  | 3 => ("SeepingRock$Ways", "filledBy", "[I", true)
  | _ => ("SeepingRock$Ways", "group", "[I", true)
def tyX3 : Nat → FieldType := fun k => match k with
  | 0 => .object "SeepingRock$Rock"
  | 1 => .array .int
  | 2 => .array .int
  | 3 => .array .int
  | _ => .array .int
abbrev wsX30 : List Cond := u_ws RX3 TX3 5
theorem nmX3 : ∀ a, a < 5 → ∀ b, b < 5 → a ≠ b → (TX3 a).2.1 ≠ (TX3 b).2.1 := by decide +kernel
theorem tyX3_ok : ∀ k, k < 5 → parseFieldDescriptor (TX3 k).2.2.1 = some (tyX3 k) := by decide +kernel
abbrev cX3_init : ByteArray := prog_5_method_1_code
def yX3_init : MethodName := ⟨RX3, "<init>", "(LSeepingRock$Rock;)V"⟩
abbrev cX3_flood : ByteArray := prog_5_method_2_code
def yX3_flood : MethodName := ⟨RX3, "flood", "()V"⟩
abbrev cX3_throatOnWay : ByteArray := prog_5_method_3_code
def yX3_throatOnWay : MethodName := ⟨RX3, "throatOnWay", "(II)I"⟩
abbrev cX3_rankJoining : ByteArray := prog_5_method_4_code
def yX3_rankJoining : MethodName := ⟨RX3, "rankJoining", "(II)I"⟩
abbrev cX3_branch : ByteArray := prog_5_method_5_code
def yX3_branch : MethodName := ⟨RX3, "branch", "(I)I"⟩
abbrev cX3_fillNext : ByteArray := prog_5_method_6_code
def yX3_fillNext : MethodName := ⟨RX3, "fillNext", "()Z"⟩
abbrev cX3_fill : ByteArray := prog_5_method_7_code
def yX3_fill : MethodName := ⟨RX3, "fill", "(II)V"⟩
abbrev cX3_stand : ByteArray := prog_5_method_8_code
def yX3_stand : MethodName := ⟨RX3, "stand", "()V"⟩
abbrev cX3_unite : ByteArray := prog_5_method_9_code
def yX3_unite : MethodName := ⟨RX3, "unite", "(I)Z"⟩
def RX4 : String := "SeepingRock"
def TX4 : u_T := fun k => match k with
  | 0 => ("SeepingRock", "rock", "LSeepingRock$Rock;", true)
  | 1 => ("SeepingRock", "cores", "[LSeepingRock$Core;", true)
  | 2 => ("SeepingRock", "flow", "LSeepingRock$Flow;", true)
  | 3 => ("SeepingRock", "trial", "LSeepingRock$Flow;", true)
  | 4 => ("SeepingRock", "ways", "LSeepingRock$Ways;", true)
  | 5 => ("SeepingRock", "toldRow", "[I", true)
  | _ => ("SeepingRock", "toldCount", "I", false)
def tyX4 : Nat → FieldType := fun k => match k with
  | 0 => .object "SeepingRock$Rock"
  | 1 => .array (.object "SeepingRock$Core")
  | 2 => .object "SeepingRock$Flow"
  | 3 => .object "SeepingRock$Flow"
  | 4 => .object "SeepingRock$Ways"
  | 5 => .array .int
  | _ => .int
abbrev wsX40 : List Cond := u_ws RX4 TX4 7
theorem nmX4 : ∀ a, a < 7 → ∀ b, b < 7 → a ≠ b → (TX4 a).2.1 ≠ (TX4 b).2.1 := by decide +kernel
theorem tyX4_ok : ∀ k, k < 7 → parseFieldDescriptor (TX4 k).2.2.1 = some (tyX4 k) := by decide +kernel
abbrev cX4_init : ByteArray := prog_1_method_1_code
def yX4_init : MethodName := ⟨RX4, "<init>", "()V"⟩
abbrev cX4_pore : ByteArray := prog_1_method_2_code
def yX4_pore : MethodName := ⟨RX4, "pore", "(I)I"⟩
abbrev cX4_throat : ByteArray := prog_1_method_3_code
def yX4_throat : MethodName := ⟨RX4, "throat", "(II)I"⟩
abbrev cX4_hinder : ByteArray := prog_1_method_4_code
def yX4_hinder : MethodName := ⟨RX4, "hinder", "(II)I"⟩
abbrev cX4_shut : ByteArray := prog_1_method_5_code
def yX4_shut : MethodName := ⟨RX4, "shut", "(IZ)I"⟩
abbrev cX4_inlet : ByteArray := prog_1_method_6_code
def yX4_inlet : MethodName := ⟨RX4, "inlet", "(IZ)I"⟩
abbrev cX4_trapping : ByteArray := prog_1_method_7_code
def yX4_trapping : MethodName := ⟨RX4, "trapping", "(Z)I"⟩
abbrev cX4_about : ByteArray := prog_1_method_8_code
def yX4_about : MethodName := ⟨RX4, "about", "(II)I"⟩
abbrev cX4_of : ByteArray := prog_1_method_9_code
def yX4_of : MethodName := ⟨RX4, "of", "(II)I"⟩
abbrev cX4_ranked : ByteArray := prog_1_method_10_code
def yX4_ranked : MethodName := ⟨RX4, "ranked", "(I)I"⟩
abbrev cX4_core : ByteArray := prog_1_method_11_code
def yX4_core : MethodName := ⟨RX4, "core", "(III)I"⟩
abbrev cX4_cell : ByteArray := prog_1_method_12_code
def yX4_cell : MethodName := ⟨RX4, "cell", "(IIJI)I"⟩
abbrev cX4_wild : ByteArray := prog_1_method_13_code
def yX4_wild : MethodName := ⟨RX4, "wild", "(III)I"⟩
abbrev cX4_splice : ByteArray := prog_1_method_14_code
def yX4_splice : MethodName := ⟨RX4, "splice", "(IIIII)I"⟩
abbrev cX4_lose : ByteArray := prog_1_method_15_code
def yX4_lose : MethodName := ⟨RX4, "lose", "(I)I"⟩
abbrev cX4_told : ByteArray := prog_1_method_16_code
def yX4_told : MethodName := ⟨RX4, "told", "(II)J"⟩
abbrev cX4_pour : ByteArray := prog_1_method_17_code
def yX4_pour : MethodName := ⟨RX4, "pour", "(IIII)I"⟩
abbrev cX4_begin : ByteArray := prog_1_method_18_code
def yX4_begin : MethodName := ⟨RX4, "begin", "()I"⟩
abbrev cX4_step : ByteArray := prog_1_method_19_code
def yX4_step : MethodName := ⟨RX4, "step", "()I"⟩
abbrev cX4_run : ByteArray := prog_1_method_20_code
def yX4_run : MethodName := ⟨RX4, "run", "(I)I"⟩
abbrev cX4_undo : ByteArray := prog_1_method_21_code
def yX4_undo : MethodName := ⟨RX4, "undo", "(I)I"⟩
abbrev cX4_many : ByteArray := prog_1_method_22_code
def yX4_many : MethodName := ⟨RX4, "many", "(I)I"⟩
abbrev cX4_opened : ByteArray := prog_1_method_23_code
def yX4_opened : MethodName := ⟨RX4, "opened", "(I)I"⟩
abbrev cX4_now : ByteArray := prog_1_method_24_code
def yX4_now : MethodName := ⟨RX4, "now", "(II)I"⟩
abbrev cX4_front : ByteArray := prog_1_method_25_code
def yX4_front : MethodName := ⟨RX4, "front", "(I)I"⟩
abbrev cX4_lake : ByteArray := prog_1_method_26_code
def yX4_lake : MethodName := ⟨RX4, "lake", "(II)I"⟩
abbrev cX4_through : ByteArray := prog_1_method_27_code
def yX4_through : MethodName := ⟨RX4, "through", "()I"⟩
abbrev cX4_worst : ByteArray := prog_1_method_28_code
def yX4_worst : MethodName := ⟨RX4, "worst", "(I)I"⟩
abbrev cX4_way : ByteArray := prog_1_method_29_code
def yX4_way : MethodName := ⟨RX4, "way", "(II)I"⟩
abbrev cX4_join : ByteArray := prog_1_method_30_code
def yX4_join : MethodName := ⟨RX4, "join", "(II)I"⟩
abbrev cX4_tree : ByteArray := prog_1_method_31_code
def yX4_tree : MethodName := ⟨RX4, "tree", "(I)I"⟩
abbrev cX4_claim : ByteArray := prog_1_method_32_code
def yX4_claim : MethodName := ⟨RX4, "claim", "(I)I"⟩
abbrev cX4_copy : ByteArray := prog_1_method_33_code
def yX4_copy : MethodName := ⟨RX4, "copy", "()I"⟩
abbrev cX4_alter : ByteArray := prog_1_method_34_code
def yX4_alter : MethodName := ⟨RX4, "alter", "(II)I"⟩
abbrev cX4_unclaim : ByteArray := prog_1_method_35_code
def yX4_unclaim : MethodName := ⟨RX4, "unclaim", "()I"⟩
abbrev cX4_check : ByteArray := prog_1_method_36_code
def yX4_check : MethodName := ⟨RX4, "check", "()I"⟩
abbrev cX4_hasPlace : ByteArray := prog_1_method_37_code
def yX4_hasPlace : MethodName := ⟨RX4, "hasPlace", "(I)Z"⟩
abbrev cX4_mayHinder : ByteArray := prog_1_method_38_code
def yX4_mayHinder : MethodName := ⟨RX4, "mayHinder", "(J)Z"⟩
abbrev cX4_pourOne : ByteArray := prog_1_method_39_code
def yX4_pourOne : MethodName := ⟨RX4, "pourOne", "(LSeepingRock$Core;II)V"⟩
abbrev cX4_manyInRun : ByteArray := prog_1_method_40_code
def yX4_manyInRun : MethodName := ⟨RX4, "manyInRun", "(I)I"⟩
def RX5 : String := "SeepingRockModel"
def TX5 : u_T := fun k => match k with
  | 0 => ("SeepingRockModel", "pores", "I", false)
  | 1 => ("SeepingRockModel", "kind", "[I", true)
  | 2 => ("SeepingRockModel", "isInlet", "[Z", true)
  | 3 => ("SeepingRockModel", "throats", "I", false)
  | 4 => ("SeepingRockModel", "from", "[I", true)
  | 5 => ("SeepingRockModel", "to", "[I", true)
  | 6 => ("SeepingRockModel", "hindrance", "[I", true)
  | 7 => ("SeepingRockModel", "isShut", "[Z", true)
  | 8 => ("SeepingRockModel", "isTrapping", "Z", false)
  | 9 => ("SeepingRockModel", "coreKind", "[I", true)
  | 10 => ("SeepingRockModel", "coreSize", "[I", true)
  | 11 => ("SeepingRockModel", "whole", "[J", true)
  | 12 => ("SeepingRockModel", "broken", "[D", true)
  | 13 => ("SeepingRockModel", "isRun", "Z", false)
  | 14 => ("SeepingRockModel", "steps", "I", false)
  | 15 => ("SeepingRockModel", "opened", "[I", true)
  | 16 => ("SeepingRockModel", "filled", "[I", true)
  | 17 => ("SeepingRockModel", "filledBy", "[I", true)
  | 18 => ("SeepingRockModel", "cut", "[I", true)
  | 19 => ("SeepingRockModel", "told", "I", false)
  | 20 => ("SeepingRockModel", "row", "[I", true)
  | 21 => ("SeepingRockModel", "oldWhole", "[J", true)
  | 22 => ("SeepingRockModel", "oldBroken", "[D", true)
  | 23 => ("SeepingRockModel", "drains", "[Z", true)
  | 24 => ("SeepingRockModel", "lakeOf", "[I", true)
  | 25 => ("SeepingRockModel", "lakes", "I", false)
  | 26 => ("SeepingRockModel", "plainBy", "[I", true)
  | 27 => ("SeepingRockModel", "hang", "[I", true)
  | 28 => ("SeepingRockModel", "keptOpened", "[I", true)
  | 29 => ("SeepingRockModel", "keptFilled", "[I", true)
  | 30 => ("SeepingRockModel", "keptBy", "[I", true)
  | 31 => ("SeepingRockModel", "keptCut", "[I", true)
  | _ => ("SeepingRockModel", "keptSteps", "I", false)
def tyX5 : Nat → FieldType := fun k => match k with
  | 0 => .int
  | 1 => .array .int
  | 2 => .array .boolean
  | 3 => .int
  | 4 => .array .int
  | 5 => .array .int
  | 6 => .array .int
  | 7 => .array .boolean
  | 8 => .boolean
  | 9 => .array .int
  | 10 => .array .int
  | 11 => .array .long
  | 12 => .array .double
  | 13 => .boolean
  | 14 => .int
  | 15 => .array .int
  | 16 => .array .int
  | 17 => .array .int
  | 18 => .array .int
  | 19 => .int
  | 20 => .array .int
  | 21 => .array .long
  | 22 => .array .double
  | 23 => .array .boolean
  | 24 => .array .int
  | 25 => .int
  | 26 => .array .int
  | 27 => .array .int
  | 28 => .array .int
  | 29 => .array .int
  | 30 => .array .int
  | 31 => .array .int
  | _ => .int
abbrev wsX50 : List Cond := u_ws RX5 TX5 33
theorem nmX5 : ∀ a, a < 33 → ∀ b, b < 33 → a ≠ b → (TX5 a).2.1 ≠ (TX5 b).2.1 := by decide +kernel
theorem tyX5_ok : ∀ k, k < 33 → parseFieldDescriptor (TX5 k).2.2.1 = some (tyX5 k) := by decide +kernel
abbrev cX5_init : ByteArray := prog_7_method_1_code
def yX5_init : MethodName := ⟨RX5, "<init>", "()V"⟩
abbrev cX5_isPore : ByteArray := prog_7_method_2_code
def yX5_isPore : MethodName := ⟨RX5, "isPore", "(I)Z"⟩
abbrev cX5_isThroat : ByteArray := prog_7_method_3_code
def yX5_isThroat : MethodName := ⟨RX5, "isThroat", "(I)Z"⟩
abbrev cX5_pore : ByteArray := prog_7_method_4_code
def yX5_pore : MethodName := ⟨RX5, "pore", "(I)I"⟩
abbrev cX5_throat : ByteArray := prog_7_method_5_code
def yX5_throat : MethodName := ⟨RX5, "throat", "(II)I"⟩
abbrev cX5_hinder : ByteArray := prog_7_method_6_code
def yX5_hinder : MethodName := ⟨RX5, "hinder", "(II)I"⟩
abbrev cX5_shut : ByteArray := prog_7_method_7_code
def yX5_shut : MethodName := ⟨RX5, "shut", "(IZ)I"⟩
abbrev cX5_inlet : ByteArray := prog_7_method_8_code
def yX5_inlet : MethodName := ⟨RX5, "inlet", "(IZ)I"⟩
abbrev cX5_trapping : ByteArray := prog_7_method_9_code
def yX5_trapping : MethodName := ⟨RX5, "trapping", "(Z)I"⟩
abbrev cX5_isLess : ByteArray := prog_7_method_10_code
def yX5_isLess : MethodName := ⟨RX5, "isLess", "(II)Z"⟩
abbrev cX5_rank : ByteArray := prog_7_method_11_code
def yX5_rank : MethodName := ⟨RX5, "rank", "(I)I"⟩
abbrev cX5_about : ByteArray := prog_7_method_12_code
def yX5_about : MethodName := ⟨RX5, "about", "(II)I"⟩
abbrev cX5_of : ByteArray := prog_7_method_13_code
def yX5_of : MethodName := ⟨RX5, "of", "(II)I"⟩
abbrev cX5_ranked : ByteArray := prog_7_method_14_code
def yX5_ranked : MethodName := ⟨RX5, "ranked", "(I)I"⟩
abbrev cX5_isCore : ByteArray := prog_7_method_15_code
def yX5_isCore : MethodName := ⟨RX5, "isCore", "(I)Z"⟩
abbrev cX5_core : ByteArray := prog_7_method_16_code
def yX5_core : MethodName := ⟨RX5, "core", "(III)I"⟩
abbrev cX5_cell : ByteArray := prog_7_method_17_code
def yX5_cell : MethodName := ⟨RX5, "cell", "(IIJI)I"⟩
abbrev cX5_wild : ByteArray := prog_7_method_18_code
def yX5_wild : MethodName := ⟨RX5, "wild", "(III)I"⟩
abbrev cX5_hasRow : ByteArray := prog_7_method_19_code
def yX5_hasRow : MethodName := ⟨RX5, "hasRow", "(III)Z"⟩
abbrev cX5_splice : ByteArray := prog_7_method_20_code
def yX5_splice : MethodName := ⟨RX5, "splice", "(IIIII)I"⟩
abbrev cX5_lose : ByteArray := prog_7_method_21_code
def yX5_lose : MethodName := ⟨RX5, "lose", "(I)I"⟩
abbrev cX5_wholeOf : ByteArray := prog_7_method_22_code
def yX5_wholeOf : MethodName := ⟨RX5, "wholeOf", "(II)J"⟩
abbrev cX5_told : ByteArray := prog_7_method_23_code
def yX5_told : MethodName := ⟨RX5, "told", "(II)J"⟩
abbrev cX5_pour : ByteArray := prog_7_method_24_code
def yX5_pour : MethodName := ⟨RX5, "pour", "(IIII)I"⟩
abbrev cX5_isFilled : ByteArray := prog_7_method_25_code
def yX5_isFilled : MethodName := ⟨RX5, "isFilled", "(I)Z"⟩
abbrev cX5_isFree : ByteArray := prog_7_method_26_code
def yX5_isFree : MethodName := ⟨RX5, "isFree", "(I)Z"⟩
abbrev cX5_leads : ByteArray := prog_7_method_27_code
def yX5_leads : MethodName := ⟨RX5, "leads", "(II)Z"⟩
abbrev cX5_isCandidate : ByteArray := prog_7_method_28_code
def yX5_isCandidate : MethodName := ⟨RX5, "isCandidate", "(I)Z"⟩
abbrev cX5_trap : ByteArray := prog_7_method_29_code
def yX5_trap : MethodName := ⟨RX5, "trap", "()V"⟩
abbrev cX5_start : ByteArray := prog_7_method_30_code
def yX5_start : MethodName := ⟨RX5, "start", "()V"⟩
abbrev cX5_begin : ByteArray := prog_7_method_31_code
def yX5_begin : MethodName := ⟨RX5, "begin", "()I"⟩
abbrev cX5_bestAt : ByteArray := prog_7_method_32_code
def yX5_bestAt : MethodName := ⟨RX5, "bestAt", "(IZ)I"⟩
abbrev cX5_nextThroat : ByteArray := prog_7_method_33_code
def yX5_nextThroat : MethodName := ⟨RX5, "nextThroat", "()I"⟩
abbrev cX5_open : ByteArray := prog_7_method_34_code
def yX5_open : MethodName := ⟨RX5, "open", "(I)V"⟩
abbrev cX5_step : ByteArray := prog_7_method_35_code
def yX5_step : MethodName := ⟨RX5, "step", "()I"⟩
abbrev cX5_run : ByteArray := prog_7_method_36_code
def yX5_run : MethodName := ⟨RX5, "run", "(I)I"⟩
abbrev cX5_undo : ByteArray := prog_7_method_37_code
def yX5_undo : MethodName := ⟨RX5, "undo", "(I)I"⟩
abbrev cX5_tellLakes : ByteArray := prog_7_method_38_code
def yX5_tellLakes : MethodName := ⟨RX5, "tellLakes", "()V"⟩
abbrev cX5_spreadLake : ByteArray := prog_7_method_39_code
def yX5_spreadLake : MethodName := ⟨RX5, "spreadLake", "(I)V"⟩
abbrev cX5_countPores : ByteArray := prog_7_method_40_code
def yX5_countPores : MethodName := ⟨RX5, "countPores", "(I)I"⟩
abbrev cX5_many : ByteArray := prog_7_method_41_code
def yX5_many : MethodName := ⟨RX5, "many", "(I)I"⟩
abbrev cX5_opened : ByteArray := prog_7_method_42_code
def yX5_opened : MethodName := ⟨RX5, "opened", "(I)I"⟩
abbrev cX5_now : ByteArray := prog_7_method_43_code
def yX5_now : MethodName := ⟨RX5, "now", "(II)I"⟩
abbrev cX5_front : ByteArray := prog_7_method_44_code
def yX5_front : MethodName := ⟨RX5, "front", "(I)I"⟩
abbrev cX5_lake : ByteArray := prog_7_method_45_code
def yX5_lake : MethodName := ⟨RX5, "lake", "(II)I"⟩
abbrev cX5_through : ByteArray := prog_7_method_46_code
def yX5_through : MethodName := ⟨RX5, "through", "()I"⟩
abbrev cX5_plainRun : ByteArray := prog_7_method_47_code
def yX5_plainRun : MethodName := ⟨RX5, "plainRun", "()V"⟩
abbrev cX5_behind : ByteArray := prog_7_method_48_code
def yX5_behind : MethodName := ⟨RX5, "behind", "(I)I"⟩
abbrev cX5_worst : ByteArray := prog_7_method_49_code
def yX5_worst : MethodName := ⟨RX5, "worst", "(I)I"⟩
abbrev cX5_way : ByteArray := prog_7_method_50_code
def yX5_way : MethodName := ⟨RX5, "way", "(II)I"⟩
abbrev cX5_apart : ByteArray := prog_7_method_51_code
def yX5_apart : MethodName := ⟨RX5, "apart", "()V"⟩
abbrev cX5_tie : ByteArray := prog_7_method_52_code
def yX5_tie : MethodName := ⟨RX5, "tie", "(I)Z"⟩
abbrev cX5_join : ByteArray := prog_7_method_53_code
def yX5_join : MethodName := ⟨RX5, "join", "(II)I"⟩
abbrev cX5_tree : ByteArray := prog_7_method_54_code
def yX5_tree : MethodName := ⟨RX5, "tree", "(I)I"⟩
abbrev cX5_claim : ByteArray := prog_7_method_55_code
def yX5_claim : MethodName := ⟨RX5, "claim", "(I)I"⟩
abbrev cX5_copy : ByteArray := prog_7_method_56_code
def yX5_copy : MethodName := ⟨RX5, "copy", "()I"⟩
abbrev cX5_alter : ByteArray := prog_7_method_57_code
def yX5_alter : MethodName := ⟨RX5, "alter", "(II)I"⟩
abbrev cX5_unclaim : ByteArray := prog_7_method_58_code
def yX5_unclaim : MethodName := ⟨RX5, "unclaim", "()I"⟩
abbrev cX5_keep : ByteArray := prog_7_method_59_code
def yX5_keep : MethodName := ⟨RX5, "keep", "(Z)V"⟩
abbrev cX5_check : ByteArray := prog_7_method_60_code
def yX5_check : MethodName := ⟨RX5, "check", "()I"⟩
def RJ9 : String := "java/lang/Math"
def TJ9 : u_T := fun k => match k with
  | _ => ("", "", "", false)
def tyJ9 : Nat → FieldType := fun k => match k with
  | _ => .int
abbrev wsJ90 : List Cond := u_ws RJ9 TJ9 0
theorem nmJ9 : ∀ a, a < 0 → ∀ b, b < 0 → a ≠ b → (TJ9 a).2.1 ≠ (TJ9 b).2.1 := by decide +kernel
theorem tyJ9_ok : ∀ k, k < 0 → parseFieldDescriptor (TJ9 k).2.2.1 = some (tyJ9 k) := by decide +kernel
abbrev cJ9_max_7cf53 : ByteArray := prog_8_method_65_code
def yJ9_max_7cf53 : MethodName := ⟨RJ9, "max", "(II)I"⟩
def RJ10 : String := "java/lang/System"
def TJ10 : u_T := fun k => match k with
  | _ => ("", "", "", false)
def tyJ10 : Nat → FieldType := fun k => match k with
  | _ => .int
abbrev wsJ100 : List Cond := u_ws RJ10 TJ10 0
theorem nmJ10 : ∀ a, a < 0 → ∀ b, b < 0 → a ≠ b → (TJ10 a).2.1 ≠ (TJ10 b).2.1 := by decide +kernel
theorem tyJ10_ok : ∀ k, k < 0 → parseFieldDescriptor (TJ10 k).2.2.1 = some (tyJ10 k) := by decide +kernel
def RL : String := "SeepingRockLaw"
abbrev cL_law : ByteArray := code
def yL_law : MethodName := ⟨RL, "law", "([I)Z"⟩
abbrev vwCl : List vw_C := [(RX0, TX0, 5), (RX1, TX1, 16), (RX2, TX2, 13), (RX3, TX3, 5), (RX4, TX4, 7), (RX5, TX5, 33)]
end
section
/-- the words that a callee may be handed -/
def sr_tbl : List Cond := lw_tbl.filter goodWord
theorem sr_in {w : Cond} (i : Nat) (h : lw_tbl[i]? = some w) (hg : goodWord w = true) : w ∈ sr_tbl := List.mem_filter.mpr ⟨List.mem_of_getElem? h, hg⟩
theorem lw_good : sr_tbl.all goodWord = true := List.all_eq_true.mpr (fun w h => (List.mem_filter.mp h).2)
theorem sr_hts {args : Array Value} {s : State} (h : ∀ w ∈ lw_tbl, w.before args s = true) : ∀ w ∈ sr_tbl, w.before args s = true := fun w hw => h w (List.mem_filter.mp hw).1
set_option maxRecDepth 20000 in
theorem qsX2_listAt : (.selects RX2 yX2_listAt yX2_listAt : Cond) ∈ sr_tbl := sr_in 0 rfl rfl
set_option maxRecDepth 20000 in
theorem qsX2_rankIn : (.selects RX2 yX2_rankIn yX2_rankIn : Cond) ∈ sr_tbl := sr_in 1 rfl rfl
set_option maxRecDepth 20000 in
theorem qsX2_isAhead : (.selects RX2 yX2_isAhead yX2_isAhead : Cond) ∈ sr_tbl := sr_in 2 rfl rfl
set_option maxRecDepth 20000 in
theorem qsX2_place : (.selects RX2 yX2_place yX2_place : Cond) ∈ sr_tbl := sr_in 3 rfl rfl
set_option maxRecDepth 20000 in
theorem qsX2_rankOut : (.selects RX2 yX2_rankOut yX2_rankOut : Cond) ∈ sr_tbl := sr_in 4 rfl rfl
set_option maxRecDepth 20000 in
theorem qsX0_wholeOf : (.selects RX0 yX0_wholeOf yX0_wholeOf : Cond) ∈ sr_tbl := sr_in 5 rfl rfl
set_option maxRecDepth 20000 in
theorem qsX4_pourOne : (.selects RX4 yX4_pourOne yX4_pourOne : Cond) ∈ sr_tbl := sr_in 6 rfl rfl
set_option maxRecDepth 20000 in
theorem qsX1_cutOff : (.selects RX1 yX1_cutOff yX1_cutOff : Cond) ∈ sr_tbl := sr_in 7 rfl rfl
set_option maxRecDepth 20000 in
theorem qsX1_reachFromOutlets : (.selects RX1 yX1_reachFromOutlets yX1_reachFromOutlets : Cond) ∈ sr_tbl := sr_in 8 rfl rfl
set_option maxRecDepth 20000 in
theorem qsX1_reachAround : (.selects RX1 yX1_reachAround yX1_reachAround : Cond) ∈ sr_tbl := sr_in 9 rfl rfl
set_option maxRecDepth 20000 in
theorem qsX1_addLake : (.selects RX1 yX1_addLake yX1_addLake : Cond) ∈ sr_tbl := sr_in 10 rfl rfl
set_option maxRecDepth 20000 in
theorem qsX1_drownAround : (.selects RX1 yX1_drownAround yX1_drownAround : Cond) ∈ sr_tbl := sr_in 11 rfl rfl
set_option maxRecDepth 20000 in
theorem qsX1_greatestRankOpened : (.selects RX1 yX1_greatestRankOpened yX1_greatestRankOpened : Cond) ∈ sr_tbl := sr_in 12 rfl rfl
set_option maxRecDepth 20000 in
theorem qsX1_nextThroat : (.selects RX1 yX1_nextThroat yX1_nextThroat : Cond) ∈ sr_tbl := sr_in 13 rfl rfl
set_option maxRecDepth 20000 in
theorem qsX1_preferredAt : (.selects RX1 yX1_preferredAt yX1_preferredAt : Cond) ∈ sr_tbl := sr_in 14 rfl rfl
set_option maxRecDepth 20000 in
theorem qsX1_isCandidate : (.selects RX1 yX1_isCandidate yX1_isCandidate : Cond) ∈ sr_tbl := sr_in 15 rfl rfl
set_option maxRecDepth 20000 in
theorem qsX1_leads : (.selects RX1 yX1_leads yX1_leads : Cond) ∈ sr_tbl := sr_in 16 rfl rfl
set_option maxRecDepth 20000 in
theorem qsX1_isPreferred : (.selects RX1 yX1_isPreferred yX1_isPreferred : Cond) ∈ sr_tbl := sr_in 17 rfl rfl
set_option maxRecDepth 20000 in
theorem qsX4_manyInRun : (.selects RX4 yX4_manyInRun yX4_manyInRun : Cond) ∈ sr_tbl := sr_in 18 rfl rfl
set_option maxRecDepth 20000 in
theorem qsX3_fillNext : (.selects RX3 yX3_fillNext yX3_fillNext : Cond) ∈ sr_tbl := sr_in 19 rfl rfl
set_option maxRecDepth 20000 in
theorem qsX3_fill : (.selects RX3 yX3_fill yX3_fill : Cond) ∈ sr_tbl := sr_in 20 rfl rfl
set_option maxRecDepth 20000 in
theorem qsX3_stand : (.selects RX3 yX3_stand yX3_stand : Cond) ∈ sr_tbl := sr_in 21 rfl rfl
set_option maxRecDepth 20000 in
theorem qsX3_unite : (.selects RX3 yX3_unite yX3_unite : Cond) ∈ sr_tbl := sr_in 22 rfl rfl
set_option maxRecDepth 20000 in
theorem qsX5_isPore : (.selects RX5 yX5_isPore yX5_isPore : Cond) ∈ sr_tbl := sr_in 23 rfl rfl
set_option maxRecDepth 20000 in
theorem qsX5_isThroat : (.selects RX5 yX5_isThroat yX5_isThroat : Cond) ∈ sr_tbl := sr_in 24 rfl rfl
set_option maxRecDepth 20000 in
theorem qsX5_rank : (.selects RX5 yX5_rank yX5_rank : Cond) ∈ sr_tbl := sr_in 25 rfl rfl
set_option maxRecDepth 20000 in
theorem qsX5_isLess : (.selects RX5 yX5_isLess yX5_isLess : Cond) ∈ sr_tbl := sr_in 26 rfl rfl
set_option maxRecDepth 20000 in
theorem qsX5_hasRow : (.selects RX5 yX5_hasRow yX5_hasRow : Cond) ∈ sr_tbl := sr_in 27 rfl rfl
set_option maxRecDepth 20000 in
theorem qsX5_wholeOf : (.selects RX5 yX5_wholeOf yX5_wholeOf : Cond) ∈ sr_tbl := sr_in 28 rfl rfl
set_option maxRecDepth 20000 in
theorem qsX5_start : (.selects RX5 yX5_start yX5_start : Cond) ∈ sr_tbl := sr_in 29 rfl rfl
set_option maxRecDepth 20000 in
theorem qsX5_trap : (.selects RX5 yX5_trap yX5_trap : Cond) ∈ sr_tbl := sr_in 30 rfl rfl
set_option maxRecDepth 20000 in
theorem qsX5_isFilled : (.selects RX5 yX5_isFilled yX5_isFilled : Cond) ∈ sr_tbl := sr_in 31 rfl rfl
set_option maxRecDepth 20000 in
theorem qsX5_isFree : (.selects RX5 yX5_isFree yX5_isFree : Cond) ∈ sr_tbl := sr_in 32 rfl rfl
set_option maxRecDepth 20000 in
theorem qsX5_countPores : (.selects RX5 yX5_countPores yX5_countPores : Cond) ∈ sr_tbl := sr_in 33 rfl rfl
set_option maxRecDepth 20000 in
theorem qsX5_tellLakes : (.selects RX5 yX5_tellLakes yX5_tellLakes : Cond) ∈ sr_tbl := sr_in 34 rfl rfl
set_option maxRecDepth 20000 in
theorem qsX5_spreadLake : (.selects RX5 yX5_spreadLake yX5_spreadLake : Cond) ∈ sr_tbl := sr_in 35 rfl rfl
set_option maxRecDepth 20000 in
theorem qsX5_isCandidate : (.selects RX5 yX5_isCandidate yX5_isCandidate : Cond) ∈ sr_tbl := sr_in 36 rfl rfl
set_option maxRecDepth 20000 in
theorem qsX5_leads : (.selects RX5 yX5_leads yX5_leads : Cond) ∈ sr_tbl := sr_in 37 rfl rfl
set_option maxRecDepth 20000 in
theorem qsX5_nextThroat : (.selects RX5 yX5_nextThroat yX5_nextThroat : Cond) ∈ sr_tbl := sr_in 38 rfl rfl
set_option maxRecDepth 20000 in
theorem qsX5_bestAt : (.selects RX5 yX5_bestAt yX5_bestAt : Cond) ∈ sr_tbl := sr_in 39 rfl rfl
set_option maxRecDepth 20000 in
theorem qsX5_open : (.selects RX5 yX5_open yX5_open : Cond) ∈ sr_tbl := sr_in 40 rfl rfl
set_option maxRecDepth 20000 in
theorem qsX5_plainRun : (.selects RX5 yX5_plainRun yX5_plainRun : Cond) ∈ sr_tbl := sr_in 41 rfl rfl
set_option maxRecDepth 20000 in
theorem qsX5_behind : (.selects RX5 yX5_behind yX5_behind : Cond) ∈ sr_tbl := sr_in 42 rfl rfl
set_option maxRecDepth 20000 in
theorem qsX5_apart : (.selects RX5 yX5_apart yX5_apart : Cond) ∈ sr_tbl := sr_in 43 rfl rfl
set_option maxRecDepth 20000 in
theorem qsX5_tie : (.selects RX5 yX5_tie yX5_tie : Cond) ∈ sr_tbl := sr_in 44 rfl rfl
set_option maxRecDepth 20000 in
theorem qsX5_keep : (.selects RX5 yX5_keep yX5_keep : Cond) ∈ sr_tbl := sr_in 45 rfl rfl
set_option maxRecDepth 20000 in
theorem qnX4 : (.initialized RX4 : Cond) ∈ sr_tbl := sr_in 47 rfl rfl
set_option maxRecDepth 20000 in
theorem qnX2 : (.initialized RX2 : Cond) ∈ sr_tbl := sr_in 48 rfl rfl
set_option maxRecDepth 20000 in
theorem qnX1 : (.initialized RX1 : Cond) ∈ sr_tbl := sr_in 49 rfl rfl
set_option maxRecDepth 20000 in
theorem qnX3 : (.initialized RX3 : Cond) ∈ sr_tbl := sr_in 50 rfl rfl
set_option maxRecDepth 20000 in
theorem qnX0 : (.initialized RX0 : Cond) ∈ sr_tbl := sr_in 51 rfl rfl
set_option maxRecDepth 20000 in
theorem qnX5 : (.initialized RX5 : Cond) ∈ sr_tbl := sr_in 52 rfl rfl
set_option maxRecDepth 20000 in
theorem qnJ10 : (.initialized RJ10 : Cond) ∈ sr_tbl := sr_in 53 rfl rfl
set_option maxRecDepth 20000 in
theorem qnJ9 : (.initialized RJ9 : Cond) ∈ sr_tbl := sr_in 54 rfl rfl
set_option maxRecDepth 20000 in
theorem qwL_7 : (.classLink RL 7 RX4 : Cond) ∈ sr_tbl := sr_in 55 rfl rfl
set_option maxRecDepth 20000 in
theorem qyX4 : (.instantiable RX4 7 : Cond) ∈ sr_tbl := sr_in 56 rfl rfl
set_option maxRecDepth 20000 in
theorem qmL_9 : (.methodLink RL 9 yX4_init : Cond) ∈ sr_tbl := sr_in 57 rfl rfl
set_option maxRecDepth 20000 in
theorem qiX4_init : (.instanceMethod yX4_init : Cond) ∈ sr_tbl := sr_in 58 rfl rfl
set_option maxRecDepth 20000 in
theorem qcX4_init : (.code yX4_init cX4_init 2 (none) : Cond) ∈ sr_tbl := sr_in 59 rfl rfl
set_option maxRecDepth 20000 in
theorem qwX4_7 : (.classLink RX4 7 RX2 : Cond) ∈ sr_tbl := sr_in 63 rfl rfl
set_option maxRecDepth 20000 in
theorem qyX2 : (.instantiable RX2 13 : Cond) ∈ sr_tbl := sr_in 64 rfl rfl
set_option maxRecDepth 20000 in
theorem qmX4_9 : (.methodLinkNest RX4 9 yX2_init "SeepingRock" : Cond) ∈ lw_tbl := List.mem_of_getElem? (i := 65) rfl
set_option maxRecDepth 20000 in
theorem qiX2_init : (.instanceMethod yX2_init : Cond) ∈ sr_tbl := sr_in 66 rfl rfl
set_option maxRecDepth 20000 in
theorem qcX2_init : (.code yX2_init cX2_init 1 (none) : Cond) ∈ sr_tbl := sr_in 67 rfl rfl
set_option maxRecDepth 20000 in
theorem qfX2_40 : (.fieldLink RX2 40 RX2 (TX2 0).2.1 (TX2 0).2.2.1 : Cond) ∈ sr_tbl := sr_in 69 rfl rfl
set_option maxRecDepth 20000 in
theorem qfX3_28 : (.fieldLink RX3 28 RX2 (TX2 0).2.1 (TX2 0).2.2.1 : Cond) ∈ sr_tbl := sr_in 70 rfl rfl
set_option maxRecDepth 20000 in
theorem qfX4_46 : (.fieldLink RX4 46 RX2 (TX2 0).2.1 (TX2 0).2.2.1 : Cond) ∈ sr_tbl := sr_in 71 rfl rfl
set_option maxRecDepth 20000 in
theorem qfX1_64 : (.fieldLink RX1 64 RX2 (TX2 0).2.1 (TX2 0).2.2.1 : Cond) ∈ sr_tbl := sr_in 72 rfl rfl
set_option maxRecDepth 20000 in
theorem qfX2_9 : (.fieldLink RX2 9 RX2 (TX2 1).2.1 (TX2 1).2.2.1 : Cond) ∈ sr_tbl := sr_in 73 rfl rfl
set_option maxRecDepth 20000 in
theorem qfX1_95 : (.fieldLink RX1 95 RX2 (TX2 1).2.1 (TX2 1).2.2.1 : Cond) ∈ sr_tbl := sr_in 74 rfl rfl
set_option maxRecDepth 20000 in
theorem qfX4_102 : (.fieldLink RX4 102 RX2 (TX2 1).2.1 (TX2 1).2.2.1 : Cond) ∈ sr_tbl := sr_in 75 rfl rfl
set_option maxRecDepth 20000 in
theorem qfX2_15 : (.fieldLink RX2 15 RX2 (TX2 2).2.1 (TX2 2).2.2.1 : Cond) ∈ sr_tbl := sr_in 76 rfl rfl
set_option maxRecDepth 20000 in
theorem qfX3_34 : (.fieldLink RX3 34 RX2 (TX2 2).2.1 (TX2 2).2.2.1 : Cond) ∈ sr_tbl := sr_in 77 rfl rfl
set_option maxRecDepth 20000 in
theorem qfX1_69 : (.fieldLink RX1 69 RX2 (TX2 2).2.1 (TX2 2).2.2.1 : Cond) ∈ sr_tbl := sr_in 78 rfl rfl
set_option maxRecDepth 20000 in
theorem qfX4_86 : (.fieldLink RX4 86 RX2 (TX2 2).2.1 (TX2 2).2.2.1 : Cond) ∈ sr_tbl := sr_in 79 rfl rfl
set_option maxRecDepth 20000 in
theorem qfX2_44 : (.fieldLink RX2 44 RX2 (TX2 3).2.1 (TX2 3).2.2.1 : Cond) ∈ sr_tbl := sr_in 80 rfl rfl
set_option maxRecDepth 20000 in
theorem qfX4_62 : (.fieldLink RX4 62 RX2 (TX2 3).2.1 (TX2 3).2.2.1 : Cond) ∈ sr_tbl := sr_in 81 rfl rfl
set_option maxRecDepth 20000 in
theorem qfX2_19 : (.fieldLink RX2 19 RX2 (TX2 4).2.1 (TX2 4).2.2.1 : Cond) ∈ sr_tbl := sr_in 82 rfl rfl
set_option maxRecDepth 20000 in
theorem qfX1_79 : (.fieldLink RX1 79 RX2 (TX2 4).2.1 (TX2 4).2.2.1 : Cond) ∈ sr_tbl := sr_in 83 rfl rfl
set_option maxRecDepth 20000 in
theorem qfX3_59 : (.fieldLink RX3 59 RX2 (TX2 4).2.1 (TX2 4).2.2.1 : Cond) ∈ sr_tbl := sr_in 84 rfl rfl
set_option maxRecDepth 20000 in
theorem qfX4_93 : (.fieldLink RX4 93 RX2 (TX2 4).2.1 (TX2 4).2.2.1 : Cond) ∈ sr_tbl := sr_in 85 rfl rfl
set_option maxRecDepth 20000 in
theorem qfX2_22 : (.fieldLink RX2 22 RX2 (TX2 5).2.1 (TX2 5).2.2.1 : Cond) ∈ sr_tbl := sr_in 86 rfl rfl
set_option maxRecDepth 20000 in
theorem qfX1_82 : (.fieldLink RX1 82 RX2 (TX2 5).2.1 (TX2 5).2.2.1 : Cond) ∈ sr_tbl := sr_in 87 rfl rfl
set_option maxRecDepth 20000 in
theorem qfX3_62 : (.fieldLink RX3 62 RX2 (TX2 5).2.1 (TX2 5).2.2.1 : Cond) ∈ sr_tbl := sr_in 88 rfl rfl
set_option maxRecDepth 20000 in
theorem qfX4_96 : (.fieldLink RX4 96 RX2 (TX2 5).2.1 (TX2 5).2.2.1 : Cond) ∈ sr_tbl := sr_in 89 rfl rfl
set_option maxRecDepth 20000 in
theorem qfX2_25 : (.fieldLink RX2 25 RX2 (TX2 6).2.1 (TX2 6).2.2.1 : Cond) ∈ sr_tbl := sr_in 90 rfl rfl
set_option maxRecDepth 20000 in
theorem qfX4_83 : (.fieldLink RX4 83 RX2 (TX2 6).2.1 (TX2 6).2.2.1 : Cond) ∈ sr_tbl := sr_in 91 rfl rfl
set_option maxRecDepth 20000 in
theorem qfX2_28 : (.fieldLink RX2 28 RX2 (TX2 7).2.1 (TX2 7).2.2.1 : Cond) ∈ sr_tbl := sr_in 92 rfl rfl
set_option maxRecDepth 20000 in
theorem qfX3_69 : (.fieldLink RX3 69 RX2 (TX2 7).2.1 (TX2 7).2.2.1 : Cond) ∈ sr_tbl := sr_in 93 rfl rfl
set_option maxRecDepth 20000 in
theorem qfX4_99 : (.fieldLink RX4 99 RX2 (TX2 7).2.1 (TX2 7).2.2.1 : Cond) ∈ sr_tbl := sr_in 94 rfl rfl
set_option maxRecDepth 20000 in
theorem qfX1_118 : (.fieldLink RX1 118 RX2 (TX2 7).2.1 (TX2 7).2.2.1 : Cond) ∈ sr_tbl := sr_in 95 rfl rfl
set_option maxRecDepth 20000 in
theorem qfX2_31 : (.fieldLink RX2 31 RX2 (TX2 8).2.1 (TX2 8).2.2.1 : Cond) ∈ sr_tbl := sr_in 96 rfl rfl
set_option maxRecDepth 20000 in
theorem qfX3_52 : (.fieldLink RX3 52 RX2 (TX2 8).2.1 (TX2 8).2.2.1 : Cond) ∈ sr_tbl := sr_in 97 rfl rfl
set_option maxRecDepth 20000 in
theorem qfX1_88 : (.fieldLink RX1 88 RX2 (TX2 8).2.1 (TX2 8).2.2.1 : Cond) ∈ sr_tbl := sr_in 98 rfl rfl
set_option maxRecDepth 20000 in
theorem qfX4_111 : (.fieldLink RX4 111 RX2 (TX2 8).2.1 (TX2 8).2.2.1 : Cond) ∈ sr_tbl := sr_in 99 rfl rfl
set_option maxRecDepth 20000 in
theorem qfX3_49 : (.fieldLink RX3 49 RX2 (TX2 9).2.1 (TX2 9).2.2.1 : Cond) ∈ sr_tbl := sr_in 100 rfl rfl
set_option maxRecDepth 20000 in
theorem qfX1_85 : (.fieldLink RX1 85 RX2 (TX2 9).2.1 (TX2 9).2.2.1 : Cond) ∈ sr_tbl := sr_in 101 rfl rfl
set_option maxRecDepth 20000 in
theorem qfX2_62 : (.fieldLink RX2 62 RX2 (TX2 9).2.1 (TX2 9).2.2.1 : Cond) ∈ sr_tbl := sr_in 102 rfl rfl
set_option maxRecDepth 20000 in
theorem qfX4_108 : (.fieldLink RX4 108 RX2 (TX2 9).2.1 (TX2 9).2.2.1 : Cond) ∈ sr_tbl := sr_in 103 rfl rfl
set_option maxRecDepth 20000 in
theorem qfX2_34 : (.fieldLink RX2 34 RX2 (TX2 10).2.1 (TX2 10).2.2.1 : Cond) ∈ sr_tbl := sr_in 104 rfl rfl
set_option maxRecDepth 20000 in
theorem qfX4_105 : (.fieldLink RX4 105 RX2 (TX2 10).2.1 (TX2 10).2.2.1 : Cond) ∈ sr_tbl := sr_in 105 rfl rfl
set_option maxRecDepth 20000 in
theorem qfX1_105 : (.fieldLink RX1 105 RX2 (TX2 10).2.1 (TX2 10).2.2.1 : Cond) ∈ sr_tbl := sr_in 106 rfl rfl
set_option maxRecDepth 20000 in
theorem qfX2_37 : (.fieldLink RX2 37 RX2 (TX2 11).2.1 (TX2 11).2.2.1 : Cond) ∈ sr_tbl := sr_in 107 rfl rfl
set_option maxRecDepth 20000 in
theorem qfX1_108 : (.fieldLink RX1 108 RX2 (TX2 11).2.1 (TX2 11).2.2.1 : Cond) ∈ sr_tbl := sr_in 108 rfl rfl
set_option maxRecDepth 20000 in
theorem qfX4_90 : (.fieldLink RX4 90 RX2 (TX2 12).2.1 (TX2 12).2.2.1 : Cond) ∈ sr_tbl := sr_in 109 rfl rfl
set_option maxRecDepth 20000 in
theorem qfX1_125 : (.fieldLink RX1 125 RX2 (TX2 12).2.1 (TX2 12).2.2.1 : Cond) ∈ sr_tbl := sr_in 110 rfl rfl
set_option maxRecDepth 20000 in
theorem qa_int : (.arrayClass .int : Cond) ∈ sr_tbl := sr_in 138 rfl rfl
set_option maxRecDepth 20000 in
theorem qa_boolean : (.arrayClass .boolean : Cond) ∈ sr_tbl := sr_in 139 rfl rfl
set_option maxRecDepth 20000 in
theorem qwX4_16 : (.classLink RX4 16 RX0 : Cond) ∈ sr_tbl := sr_in 140 rfl rfl
set_option maxRecDepth 20000 in
theorem qao : (.arrayOver (.object "SeepingRock$Core") : Cond) ∈ lw_tbl := List.mem_of_getElem? (i := 141) rfl
set_option maxRecDepth 20000 in
theorem qwX4_22 : (.classLink RX4 22 RX1 : Cond) ∈ sr_tbl := sr_in 142 rfl rfl
set_option maxRecDepth 20000 in
theorem qyX1 : (.instantiable RX1 16 : Cond) ∈ sr_tbl := sr_in 143 rfl rfl
set_option maxRecDepth 20000 in
theorem qmX4_24 : (.methodLink RX4 24 yX1_init : Cond) ∈ sr_tbl := sr_in 144 rfl rfl
set_option maxRecDepth 20000 in
theorem qiX1_init : (.instanceMethod yX1_init : Cond) ∈ sr_tbl := sr_in 145 rfl rfl
set_option maxRecDepth 20000 in
theorem qcX1_init : (.code yX1_init cX1_init 2 (none) : Cond) ∈ sr_tbl := sr_in 146 rfl rfl
set_option maxRecDepth 20000 in
theorem qfX1_49 : (.fieldLink RX1 49 RX1 (TX1 0).2.1 (TX1 0).2.2.1 : Cond) ∈ sr_tbl := sr_in 148 rfl rfl
set_option maxRecDepth 20000 in
theorem qfX1_53 : (.fieldLink RX1 53 RX1 (TX1 1).2.1 (TX1 1).2.2.1 : Cond) ∈ sr_tbl := sr_in 149 rfl rfl
set_option maxRecDepth 20000 in
theorem qfX4_50 : (.fieldLink RX4 50 RX1 (TX1 1).2.1 (TX1 1).2.2.1 : Cond) ∈ sr_tbl := sr_in 150 rfl rfl
set_option maxRecDepth 20000 in
theorem qfX1_57 : (.fieldLink RX1 57 RX1 (TX1 2).2.1 (TX1 2).2.2.1 : Cond) ∈ sr_tbl := sr_in 151 rfl rfl
set_option maxRecDepth 20000 in
theorem qfX4_164 : (.fieldLink RX4 164 RX1 (TX1 2).2.1 (TX1 2).2.2.1 : Cond) ∈ sr_tbl := sr_in 152 rfl rfl
set_option maxRecDepth 20000 in
theorem qfX1_9 : (.fieldLink RX1 9 RX1 (TX1 3).2.1 (TX1 3).2.2.1 : Cond) ∈ sr_tbl := sr_in 153 rfl rfl
set_option maxRecDepth 20000 in
theorem qfX4_177 : (.fieldLink RX4 177 RX1 (TX1 3).2.1 (TX1 3).2.2.1 : Cond) ∈ sr_tbl := sr_in 154 rfl rfl
set_option maxRecDepth 20000 in
theorem qfX1_15 : (.fieldLink RX1 15 RX1 (TX1 4).2.1 (TX1 4).2.2.1 : Cond) ∈ sr_tbl := sr_in 155 rfl rfl
set_option maxRecDepth 20000 in
theorem qfX1_18 : (.fieldLink RX1 18 RX1 (TX1 5).2.1 (TX1 5).2.2.1 : Cond) ∈ sr_tbl := sr_in 156 rfl rfl
set_option maxRecDepth 20000 in
theorem qfX4_180 : (.fieldLink RX4 180 RX1 (TX1 5).2.1 (TX1 5).2.2.1 : Cond) ∈ sr_tbl := sr_in 157 rfl rfl
set_option maxRecDepth 20000 in
theorem qfX1_21 : (.fieldLink RX1 21 RX1 (TX1 6).2.1 (TX1 6).2.2.1 : Cond) ∈ sr_tbl := sr_in 158 rfl rfl
set_option maxRecDepth 20000 in
theorem qfX4_183 : (.fieldLink RX4 183 RX1 (TX1 6).2.1 (TX1 6).2.2.1 : Cond) ∈ sr_tbl := sr_in 159 rfl rfl
set_option maxRecDepth 20000 in
theorem qfX1_24 : (.fieldLink RX1 24 RX1 (TX1 7).2.1 (TX1 7).2.2.1 : Cond) ∈ sr_tbl := sr_in 160 rfl rfl
set_option maxRecDepth 20000 in
theorem qfX4_186 : (.fieldLink RX4 186 RX1 (TX1 7).2.1 (TX1 7).2.2.1 : Cond) ∈ sr_tbl := sr_in 161 rfl rfl
set_option maxRecDepth 20000 in
theorem qfX1_27 : (.fieldLink RX1 27 RX1 (TX1 8).2.1 (TX1 8).2.2.1 : Cond) ∈ sr_tbl := sr_in 162 rfl rfl
set_option maxRecDepth 20000 in
theorem qfX4_189 : (.fieldLink RX4 189 RX1 (TX1 8).2.1 (TX1 8).2.2.1 : Cond) ∈ sr_tbl := sr_in 163 rfl rfl
set_option maxRecDepth 20000 in
theorem qfX1_61 : (.fieldLink RX1 61 RX1 (TX1 9).2.1 (TX1 9).2.2.1 : Cond) ∈ sr_tbl := sr_in 164 rfl rfl
set_option maxRecDepth 20000 in
theorem qfX4_195 : (.fieldLink RX4 195 RX1 (TX1 9).2.1 (TX1 9).2.2.1 : Cond) ∈ sr_tbl := sr_in 165 rfl rfl
set_option maxRecDepth 20000 in
theorem qfX1_30 : (.fieldLink RX1 30 RX1 (TX1 10).2.1 (TX1 10).2.2.1 : Cond) ∈ sr_tbl := sr_in 166 rfl rfl
set_option maxRecDepth 20000 in
theorem qfX4_198 : (.fieldLink RX4 198 RX1 (TX1 10).2.1 (TX1 10).2.2.1 : Cond) ∈ sr_tbl := sr_in 167 rfl rfl
set_option maxRecDepth 20000 in
theorem qfX1_33 : (.fieldLink RX1 33 RX1 (TX1 11).2.1 (TX1 11).2.2.1 : Cond) ∈ sr_tbl := sr_in 168 rfl rfl
set_option maxRecDepth 20000 in
theorem qfX4_201 : (.fieldLink RX4 201 RX1 (TX1 11).2.1 (TX1 11).2.2.1 : Cond) ∈ sr_tbl := sr_in 169 rfl rfl
set_option maxRecDepth 20000 in
theorem qfX1_36 : (.fieldLink RX1 36 RX1 (TX1 12).2.1 (TX1 12).2.2.1 : Cond) ∈ sr_tbl := sr_in 170 rfl rfl
set_option maxRecDepth 20000 in
theorem qfX4_204 : (.fieldLink RX4 204 RX1 (TX1 12).2.1 (TX1 12).2.2.1 : Cond) ∈ sr_tbl := sr_in 171 rfl rfl
set_option maxRecDepth 20000 in
theorem qfX1_39 : (.fieldLink RX1 39 RX1 (TX1 13).2.1 (TX1 13).2.2.1 : Cond) ∈ sr_tbl := sr_in 172 rfl rfl
set_option maxRecDepth 20000 in
theorem qfX4_207 : (.fieldLink RX4 207 RX1 (TX1 13).2.1 (TX1 13).2.2.1 : Cond) ∈ sr_tbl := sr_in 173 rfl rfl
set_option maxRecDepth 20000 in
theorem qfX1_42 : (.fieldLink RX1 42 RX1 (TX1 14).2.1 (TX1 14).2.2.1 : Cond) ∈ sr_tbl := sr_in 174 rfl rfl
set_option maxRecDepth 20000 in
theorem qfX1_45 : (.fieldLink RX1 45 RX1 (TX1 15).2.1 (TX1 15).2.2.1 : Cond) ∈ sr_tbl := sr_in 175 rfl rfl
set_option maxRecDepth 20000 in
theorem qwX4_34 : (.classLink RX4 34 RX3 : Cond) ∈ sr_tbl := sr_in 209 rfl rfl
set_option maxRecDepth 20000 in
theorem qyX3 : (.instantiable RX3 5 : Cond) ∈ sr_tbl := sr_in 210 rfl rfl
set_option maxRecDepth 20000 in
theorem qmX4_36 : (.methodLink RX4 36 yX3_init : Cond) ∈ sr_tbl := sr_in 211 rfl rfl
set_option maxRecDepth 20000 in
theorem qiX3_init : (.instanceMethod yX3_init : Cond) ∈ sr_tbl := sr_in 212 rfl rfl
set_option maxRecDepth 20000 in
theorem qcX3_init : (.code yX3_init cX3_init 2 (none) : Cond) ∈ sr_tbl := sr_in 213 rfl rfl
set_option maxRecDepth 20000 in
theorem qfX3_24 : (.fieldLink RX3 24 RX3 (TX3 0).2.1 (TX3 0).2.2.1 : Cond) ∈ sr_tbl := sr_in 215 rfl rfl
set_option maxRecDepth 20000 in
theorem qfX3_9 : (.fieldLink RX3 9 RX3 (TX3 1).2.1 (TX3 1).2.2.1 : Cond) ∈ sr_tbl := sr_in 216 rfl rfl
set_option maxRecDepth 20000 in
theorem qfX4_216 : (.fieldLink RX4 216 RX3 (TX3 1).2.1 (TX3 1).2.2.1 : Cond) ∈ sr_tbl := sr_in 217 rfl rfl
set_option maxRecDepth 20000 in
theorem qfX3_15 : (.fieldLink RX3 15 RX3 (TX3 2).2.1 (TX3 2).2.2.1 : Cond) ∈ sr_tbl := sr_in 218 rfl rfl
set_option maxRecDepth 20000 in
theorem qfX4_219 : (.fieldLink RX4 219 RX3 (TX3 2).2.1 (TX3 2).2.2.1 : Cond) ∈ sr_tbl := sr_in 219 rfl rfl
set_option maxRecDepth 20000 in
theorem qfX3_18 : (.fieldLink RX3 18 RX3 (TX3 3).2.1 (TX3 3).2.2.1 : Cond) ∈ sr_tbl := sr_in 220 rfl rfl
set_option maxRecDepth 20000 in
theorem qfX3_21 : (.fieldLink RX3 21 RX3 (TX3 4).2.1 (TX3 4).2.2.1 : Cond) ∈ sr_tbl := sr_in 221 rfl rfl
set_option maxRecDepth 20000 in
theorem qyX0 : (.instantiable RX0 5 : Cond) ∈ sr_tbl := sr_in 233 rfl rfl
set_option maxRecDepth 20000 in
theorem qmX4_45 : (.methodLinkNest RX4 45 yX0_init "SeepingRock" : Cond) ∈ lw_tbl := List.mem_of_getElem? (i := 234) rfl
set_option maxRecDepth 20000 in
theorem qiX0_init : (.instanceMethod yX0_init : Cond) ∈ sr_tbl := sr_in 235 rfl rfl
set_option maxRecDepth 20000 in
theorem qcX0_init : (.code yX0_init cX0_init 1 (none) : Cond) ∈ sr_tbl := sr_in 236 rfl rfl
set_option maxRecDepth 20000 in
theorem qfX0_19 : (.fieldLink RX0 19 RX0 (TX0 0).2.1 (TX0 0).2.2.1 : Cond) ∈ sr_tbl := sr_in 238 rfl rfl
set_option maxRecDepth 20000 in
theorem qfX4_121 : (.fieldLink RX4 121 RX0 (TX0 0).2.1 (TX0 0).2.2.1 : Cond) ∈ sr_tbl := sr_in 239 rfl rfl
set_option maxRecDepth 20000 in
theorem qfX0_23 : (.fieldLink RX0 23 RX0 (TX0 1).2.1 (TX0 1).2.2.1 : Cond) ∈ sr_tbl := sr_in 240 rfl rfl
set_option maxRecDepth 20000 in
theorem qfX4_131 : (.fieldLink RX4 131 RX0 (TX0 1).2.1 (TX0 1).2.2.1 : Cond) ∈ sr_tbl := sr_in 241 rfl rfl
set_option maxRecDepth 20000 in
theorem qfX0_27 : (.fieldLink RX0 27 RX0 (TX0 2).2.1 (TX0 2).2.2.1 : Cond) ∈ sr_tbl := sr_in 242 rfl rfl
set_option maxRecDepth 20000 in
theorem qfX0_9 : (.fieldLink RX0 9 RX0 (TX0 3).2.1 (TX0 3).2.2.1 : Cond) ∈ sr_tbl := sr_in 243 rfl rfl
set_option maxRecDepth 20000 in
theorem qfX4_146 : (.fieldLink RX4 146 RX0 (TX0 3).2.1 (TX0 3).2.2.1 : Cond) ∈ sr_tbl := sr_in 244 rfl rfl
set_option maxRecDepth 20000 in
theorem qfX0_15 : (.fieldLink RX0 15 RX0 (TX0 4).2.1 (TX0 4).2.2.1 : Cond) ∈ sr_tbl := sr_in 245 rfl rfl
set_option maxRecDepth 20000 in
theorem qa_long : (.arrayClass .long : Cond) ∈ sr_tbl := sr_in 257 rfl rfl
set_option maxRecDepth 20000 in
theorem qa_byte : (.arrayClass .byte : Cond) ∈ sr_tbl := sr_in 258 rfl rfl
set_option maxRecDepth 20000 in
theorem qfX4_10 : (.fieldLink RX4 10 RX4 (TX4 0).2.1 (TX4 0).2.2.1 : Cond) ∈ sr_tbl := sr_in 259 rfl rfl
set_option maxRecDepth 20000 in
theorem qfX4_18 : (.fieldLink RX4 18 RX4 (TX4 1).2.1 (TX4 1).2.2.1 : Cond) ∈ sr_tbl := sr_in 260 rfl rfl
set_option maxRecDepth 20000 in
theorem qfX4_27 : (.fieldLink RX4 27 RX4 (TX4 2).2.1 (TX4 2).2.2.1 : Cond) ∈ sr_tbl := sr_in 261 rfl rfl
set_option maxRecDepth 20000 in
theorem qfX4_31 : (.fieldLink RX4 31 RX4 (TX4 3).2.1 (TX4 3).2.2.1 : Cond) ∈ sr_tbl := sr_in 262 rfl rfl
set_option maxRecDepth 20000 in
theorem qfX4_37 : (.fieldLink RX4 37 RX4 (TX4 4).2.1 (TX4 4).2.2.1 : Cond) ∈ sr_tbl := sr_in 263 rfl rfl
set_option maxRecDepth 20000 in
theorem qfX4_41 : (.fieldLink RX4 41 RX4 (TX4 5).2.1 (TX4 5).2.2.1 : Cond) ∈ sr_tbl := sr_in 264 rfl rfl
set_option maxRecDepth 20000 in
theorem qfX4_171 : (.fieldLink RX4 171 RX4 (TX4 6).2.1 (TX4 6).2.2.1 : Cond) ∈ sr_tbl := sr_in 265 rfl rfl
set_option maxRecDepth 20000 in
theorem qmL_13 : (.methodLink RL 13 yX4_pore : Cond) ∈ sr_tbl := sr_in 281 rfl rfl
set_option maxRecDepth 20000 in
theorem qiX4_pore : (.instanceMethod yX4_pore : Cond) ∈ sr_tbl := sr_in 282 rfl rfl
set_option maxRecDepth 20000 in
theorem qsX4_pore : (.selects RX4 yX4_pore yX4_pore : Cond) ∈ sr_tbl := sr_in 283 rfl rfl
set_option maxRecDepth 20000 in
theorem qcX4_pore : (.code yX4_pore cX4_pore 2 (some .int) : Cond) ∈ sr_tbl := sr_in 284 rfl rfl
set_option maxRecDepth 20000 in
theorem qmX4_54 : (.methodLink RX4 54 yX2_addPore : Cond) ∈ sr_tbl := sr_in 285 rfl rfl
set_option maxRecDepth 20000 in
theorem qiX2_addPore : (.instanceMethod yX2_addPore : Cond) ∈ sr_tbl := sr_in 286 rfl rfl
set_option maxRecDepth 20000 in
theorem qsX2_addPore : (.selects RX2 yX2_addPore yX2_addPore : Cond) ∈ sr_tbl := sr_in 287 rfl rfl
set_option maxRecDepth 20000 in
theorem qcX2_addPore : (.code yX2_addPore cX2_addPore 3 (some .int) : Cond) ∈ sr_tbl := sr_in 288 rfl rfl
set_option maxRecDepth 20000 in
theorem qmL_18 : (.methodLink RL 18 yX4_throat : Cond) ∈ sr_tbl := sr_in 289 rfl rfl
set_option maxRecDepth 20000 in
theorem qiX4_throat : (.instanceMethod yX4_throat : Cond) ∈ sr_tbl := sr_in 290 rfl rfl
set_option maxRecDepth 20000 in
theorem qsX4_throat : (.selects RX4 yX4_throat yX4_throat : Cond) ∈ sr_tbl := sr_in 291 rfl rfl
set_option maxRecDepth 20000 in
theorem qcX4_throat : (.code yX4_throat cX4_throat 3 (some .int) : Cond) ∈ sr_tbl := sr_in 292 rfl rfl
set_option maxRecDepth 20000 in
theorem qmX4_58 : (.methodLink RX4 58 yX2_hasPore : Cond) ∈ sr_tbl := sr_in 293 rfl rfl
set_option maxRecDepth 20000 in
theorem qiX2_hasPore : (.instanceMethod yX2_hasPore : Cond) ∈ sr_tbl := sr_in 294 rfl rfl
set_option maxRecDepth 20000 in
theorem qsX2_hasPore : (.selects RX2 yX2_hasPore yX2_hasPore : Cond) ∈ sr_tbl := sr_in 295 rfl rfl
set_option maxRecDepth 20000 in
theorem qcX2_hasPore : (.code yX2_hasPore cX2_hasPore 2 (some .boolean) : Cond) ∈ sr_tbl := sr_in 296 rfl rfl
set_option maxRecDepth 20000 in
theorem qmX4_65 : (.methodLink RX4 65 yX2_addThroat : Cond) ∈ sr_tbl := sr_in 297 rfl rfl
set_option maxRecDepth 20000 in
theorem qiX2_addThroat : (.instanceMethod yX2_addThroat : Cond) ∈ sr_tbl := sr_in 298 rfl rfl
set_option maxRecDepth 20000 in
theorem qsX2_addThroat : (.selects RX2 yX2_addThroat yX2_addThroat : Cond) ∈ sr_tbl := sr_in 299 rfl rfl
set_option maxRecDepth 20000 in
theorem qcX2_addThroat : (.code yX2_addThroat cX2_addThroat 4 (some .int) : Cond) ∈ sr_tbl := sr_in 300 rfl rfl
set_option maxRecDepth 20000 in
theorem qmX2_47 : (.methodLink RX2 47 yX2_listAt : Cond) ∈ sr_tbl := sr_in 301 rfl rfl
set_option maxRecDepth 20000 in
theorem qiX2_listAt : (.instanceMethod yX2_listAt : Cond) ∈ sr_tbl := sr_in 303 rfl rfl
set_option maxRecDepth 20000 in
theorem qcX2_listAt : (.code yX2_listAt cX2_listAt 5 (none) : Cond) ∈ sr_tbl := sr_in 304 rfl rfl
set_option maxRecDepth 20000 in
theorem qmX2_51 : (.methodLink RX2 51 yX2_rankIn : Cond) ∈ sr_tbl := sr_in 305 rfl rfl
set_option maxRecDepth 20000 in
theorem qiX2_rankIn : (.instanceMethod yX2_rankIn : Cond) ∈ sr_tbl := sr_in 307 rfl rfl
set_option maxRecDepth 20000 in
theorem qcX2_rankIn : (.code yX2_rankIn cX2_rankIn 3 (none) : Cond) ∈ sr_tbl := sr_in 308 rfl rfl
set_option maxRecDepth 20000 in
theorem qmX2_68 : (.methodLink RX2 68 yX2_isAhead : Cond) ∈ sr_tbl := sr_in 309 rfl rfl
set_option maxRecDepth 20000 in
theorem qiX2_isAhead : (.instanceMethod yX2_isAhead : Cond) ∈ sr_tbl := sr_in 311 rfl rfl
set_option maxRecDepth 20000 in
theorem qcX2_isAhead : (.code yX2_isAhead cX2_isAhead 3 (some .boolean) : Cond) ∈ sr_tbl := sr_in 312 rfl rfl
set_option maxRecDepth 20000 in
theorem qmX2_65 : (.methodLink RX2 65 yX2_place : Cond) ∈ sr_tbl := sr_in 313 rfl rfl
set_option maxRecDepth 20000 in
theorem qiX2_place : (.instanceMethod yX2_place : Cond) ∈ sr_tbl := sr_in 315 rfl rfl
set_option maxRecDepth 20000 in
theorem qcX2_place : (.code yX2_place cX2_place 3 (none) : Cond) ∈ sr_tbl := sr_in 316 rfl rfl
set_option maxRecDepth 20000 in
theorem qmL_23 : (.methodLink RL 23 yX4_hinder : Cond) ∈ sr_tbl := sr_in 317 rfl rfl
set_option maxRecDepth 20000 in
theorem qiX4_hinder : (.instanceMethod yX4_hinder : Cond) ∈ sr_tbl := sr_in 318 rfl rfl
set_option maxRecDepth 20000 in
theorem qsX4_hinder : (.selects RX4 yX4_hinder yX4_hinder : Cond) ∈ sr_tbl := sr_in 319 rfl rfl
set_option maxRecDepth 20000 in
theorem qcX4_hinder : (.code yX4_hinder cX4_hinder 3 (some .int) : Cond) ∈ sr_tbl := sr_in 320 rfl rfl
set_option maxRecDepth 20000 in
theorem qmX4_69 : (.methodLink RX4 69 yX2_hasThroat : Cond) ∈ sr_tbl := sr_in 321 rfl rfl
set_option maxRecDepth 20000 in
theorem qiX2_hasThroat : (.instanceMethod yX2_hasThroat : Cond) ∈ sr_tbl := sr_in 322 rfl rfl
set_option maxRecDepth 20000 in
theorem qsX2_hasThroat : (.selects RX2 yX2_hasThroat yX2_hasThroat : Cond) ∈ sr_tbl := sr_in 323 rfl rfl
set_option maxRecDepth 20000 in
theorem qcX2_hasThroat : (.code yX2_hasThroat cX2_hasThroat 2 (some .boolean) : Cond) ∈ sr_tbl := sr_in 324 rfl rfl
set_option maxRecDepth 20000 in
theorem qmX4_72 : (.methodLink RX4 72 yX4_mayHinder : Cond) ∈ sr_tbl := sr_in 325 rfl rfl
set_option maxRecDepth 20000 in
theorem qtX4_mayHinder : (.static yX4_mayHinder : Cond) ∈ sr_tbl := sr_in 326 rfl rfl
set_option maxRecDepth 20000 in
theorem qcX4_mayHinder : (.code yX4_mayHinder cX4_mayHinder 2 (some .boolean) : Cond) ∈ sr_tbl := sr_in 327 rfl rfl
set_option maxRecDepth 20000 in
theorem qkX4_231 : (.constantLong RX4 231 (1000000000) : Cond) ∈ sr_tbl := sr_in 328 rfl rfl
set_option maxRecDepth 20000 in
theorem qmX4_76 : (.methodLink RX4 76 yX2_isOpen : Cond) ∈ sr_tbl := sr_in 329 rfl rfl
set_option maxRecDepth 20000 in
theorem qiX2_isOpen : (.instanceMethod yX2_isOpen : Cond) ∈ sr_tbl := sr_in 330 rfl rfl
set_option maxRecDepth 20000 in
theorem qsX2_isOpen : (.selects RX2 yX2_isOpen yX2_isOpen : Cond) ∈ sr_tbl := sr_in 331 rfl rfl
set_option maxRecDepth 20000 in
theorem qcX2_isOpen : (.code yX2_isOpen cX2_isOpen 2 (some .boolean) : Cond) ∈ sr_tbl := sr_in 332 rfl rfl
set_option maxRecDepth 20000 in
theorem qmX4_79 : (.methodLink RX4 79 yX2_settle : Cond) ∈ sr_tbl := sr_in 333 rfl rfl
set_option maxRecDepth 20000 in
theorem qiX2_settle : (.instanceMethod yX2_settle : Cond) ∈ sr_tbl := sr_in 334 rfl rfl
set_option maxRecDepth 20000 in
theorem qsX2_settle : (.selects RX2 yX2_settle yX2_settle : Cond) ∈ sr_tbl := sr_in 335 rfl rfl
set_option maxRecDepth 20000 in
theorem qcX2_settle : (.code yX2_settle cX2_settle 4 (none) : Cond) ∈ sr_tbl := sr_in 336 rfl rfl
set_option maxRecDepth 20000 in
theorem qmX2_55 : (.methodLink RX2 55 yX2_isOpen : Cond) ∈ sr_tbl := sr_in 337 rfl rfl
set_option maxRecDepth 20000 in
theorem qmX2_59 : (.methodLink RX2 59 yX2_rankOut : Cond) ∈ sr_tbl := sr_in 338 rfl rfl
set_option maxRecDepth 20000 in
theorem qiX2_rankOut : (.instanceMethod yX2_rankOut : Cond) ∈ sr_tbl := sr_in 340 rfl rfl
set_option maxRecDepth 20000 in
theorem qcX2_rankOut : (.code yX2_rankOut cX2_rankOut 3 (none) : Cond) ∈ sr_tbl := sr_in 341 rfl rfl
set_option maxRecDepth 20000 in
theorem qmL_27 : (.methodLink RL 27 yX4_shut : Cond) ∈ sr_tbl := sr_in 342 rfl rfl
set_option maxRecDepth 20000 in
theorem qiX4_shut : (.instanceMethod yX4_shut : Cond) ∈ sr_tbl := sr_in 343 rfl rfl
set_option maxRecDepth 20000 in
theorem qsX4_shut : (.selects RX4 yX4_shut yX4_shut : Cond) ∈ sr_tbl := sr_in 344 rfl rfl
set_option maxRecDepth 20000 in
theorem qcX4_shut : (.code yX4_shut cX4_shut 3 (some .int) : Cond) ∈ sr_tbl := sr_in 345 rfl rfl
set_option maxRecDepth 20000 in
theorem qmL_32 : (.methodLink RL 32 yX4_inlet : Cond) ∈ sr_tbl := sr_in 346 rfl rfl
set_option maxRecDepth 20000 in
theorem qiX4_inlet : (.instanceMethod yX4_inlet : Cond) ∈ sr_tbl := sr_in 347 rfl rfl
set_option maxRecDepth 20000 in
theorem qsX4_inlet : (.selects RX4 yX4_inlet yX4_inlet : Cond) ∈ sr_tbl := sr_in 348 rfl rfl
set_option maxRecDepth 20000 in
theorem qcX4_inlet : (.code yX4_inlet cX4_inlet 3 (some .int) : Cond) ∈ sr_tbl := sr_in 349 rfl rfl
set_option maxRecDepth 20000 in
theorem qmL_36 : (.methodLink RL 36 yX4_trapping : Cond) ∈ sr_tbl := sr_in 350 rfl rfl
set_option maxRecDepth 20000 in
theorem qiX4_trapping : (.instanceMethod yX4_trapping : Cond) ∈ sr_tbl := sr_in 351 rfl rfl
set_option maxRecDepth 20000 in
theorem qsX4_trapping : (.selects RX4 yX4_trapping yX4_trapping : Cond) ∈ sr_tbl := sr_in 352 rfl rfl
set_option maxRecDepth 20000 in
theorem qcX4_trapping : (.code yX4_trapping cX4_trapping 2 (some .int) : Cond) ∈ sr_tbl := sr_in 353 rfl rfl
set_option maxRecDepth 20000 in
theorem qmL_41 : (.methodLink RL 41 yX4_about : Cond) ∈ sr_tbl := sr_in 354 rfl rfl
set_option maxRecDepth 20000 in
theorem qiX4_about : (.instanceMethod yX4_about : Cond) ∈ sr_tbl := sr_in 355 rfl rfl
set_option maxRecDepth 20000 in
theorem qsX4_about : (.selects RX4 yX4_about yX4_about : Cond) ∈ sr_tbl := sr_in 356 rfl rfl
set_option maxRecDepth 20000 in
theorem qcX4_about : (.code yX4_about cX4_about 3 (some .int) : Cond) ∈ sr_tbl := sr_in 357 rfl rfl
set_option maxRecDepth 20000 in
theorem qmL_45 : (.methodLink RL 45 yX4_of : Cond) ∈ sr_tbl := sr_in 358 rfl rfl
set_option maxRecDepth 20000 in
theorem qiX4_of : (.instanceMethod yX4_of : Cond) ∈ sr_tbl := sr_in 359 rfl rfl
set_option maxRecDepth 20000 in
theorem qsX4_of : (.selects RX4 yX4_of yX4_of : Cond) ∈ sr_tbl := sr_in 360 rfl rfl
set_option maxRecDepth 20000 in
theorem qcX4_of : (.code yX4_of cX4_of 3 (some .int) : Cond) ∈ sr_tbl := sr_in 361 rfl rfl
set_option maxRecDepth 20000 in
theorem qmL_49 : (.methodLink RL 49 yX4_ranked : Cond) ∈ sr_tbl := sr_in 362 rfl rfl
set_option maxRecDepth 20000 in
theorem qiX4_ranked : (.instanceMethod yX4_ranked : Cond) ∈ sr_tbl := sr_in 363 rfl rfl
set_option maxRecDepth 20000 in
theorem qsX4_ranked : (.selects RX4 yX4_ranked yX4_ranked : Cond) ∈ sr_tbl := sr_in 364 rfl rfl
set_option maxRecDepth 20000 in
theorem qcX4_ranked : (.code yX4_ranked cX4_ranked 2 (some .int) : Cond) ∈ sr_tbl := sr_in 365 rfl rfl
set_option maxRecDepth 20000 in
theorem qmL_53 : (.methodLink RL 53 yX4_core : Cond) ∈ sr_tbl := sr_in 366 rfl rfl
set_option maxRecDepth 20000 in
theorem qiX4_core : (.instanceMethod yX4_core : Cond) ∈ sr_tbl := sr_in 367 rfl rfl
set_option maxRecDepth 20000 in
theorem qsX4_core : (.selects RX4 yX4_core yX4_core : Cond) ∈ sr_tbl := sr_in 368 rfl rfl
set_option maxRecDepth 20000 in
theorem qcX4_core : (.code yX4_core cX4_core 4 (some .int) : Cond) ∈ sr_tbl := sr_in 369 rfl rfl
set_option maxRecDepth 20000 in
theorem qmX4_114 : (.methodLink RX4 114 yX4_hasPlace : Cond) ∈ sr_tbl := sr_in 370 rfl rfl
set_option maxRecDepth 20000 in
theorem qtX4_hasPlace : (.static yX4_hasPlace : Cond) ∈ sr_tbl := sr_in 371 rfl rfl
set_option maxRecDepth 20000 in
theorem qcX4_hasPlace : (.code yX4_hasPlace cX4_hasPlace 1 (some .boolean) : Cond) ∈ sr_tbl := sr_in 372 rfl rfl
set_option maxRecDepth 20000 in
theorem qmX4_117 : (.methodLink RX4 117 yX0_renew : Cond) ∈ sr_tbl := sr_in 373 rfl rfl
set_option maxRecDepth 20000 in
theorem qiX0_renew : (.instanceMethod yX0_renew : Cond) ∈ sr_tbl := sr_in 374 rfl rfl
set_option maxRecDepth 20000 in
theorem qsX0_renew : (.selects RX0 yX0_renew yX0_renew : Cond) ∈ sr_tbl := sr_in 375 rfl rfl
set_option maxRecDepth 20000 in
theorem qcX0_renew : (.code yX0_renew cX0_renew 4 (none) : Cond) ∈ sr_tbl := sr_in 376 rfl rfl
set_option maxRecDepth 20000 in
theorem qmL_60 : (.methodLink RL 60 yX4_cell : Cond) ∈ sr_tbl := sr_in 377 rfl rfl
set_option maxRecDepth 20000 in
theorem qiX4_cell : (.instanceMethod yX4_cell : Cond) ∈ sr_tbl := sr_in 378 rfl rfl
set_option maxRecDepth 20000 in
theorem qsX4_cell : (.selects RX4 yX4_cell yX4_cell : Cond) ∈ sr_tbl := sr_in 379 rfl rfl
set_option maxRecDepth 20000 in
theorem qcX4_cell : (.code yX4_cell cX4_cell 6 (some .int) : Cond) ∈ sr_tbl := sr_in 380 rfl rfl
set_option maxRecDepth 20000 in
theorem qmX4_124 : (.methodLink RX4 124 yX0_hasNumber : Cond) ∈ sr_tbl := sr_in 381 rfl rfl
set_option maxRecDepth 20000 in
theorem qiX0_hasNumber : (.instanceMethod yX0_hasNumber : Cond) ∈ sr_tbl := sr_in 382 rfl rfl
set_option maxRecDepth 20000 in
theorem qsX0_hasNumber : (.selects RX0 yX0_hasNumber yX0_hasNumber : Cond) ∈ sr_tbl := sr_in 383 rfl rfl
set_option maxRecDepth 20000 in
theorem qcX0_hasNumber : (.code yX0_hasNumber cX0_hasNumber 2 (some .boolean) : Cond) ∈ sr_tbl := sr_in 384 rfl rfl
set_option maxRecDepth 20000 in
theorem qmX4_127 : (.methodLink RX4 127 yX0_put : Cond) ∈ sr_tbl := sr_in 385 rfl rfl
set_option maxRecDepth 20000 in
theorem qiX0_put : (.instanceMethod yX0_put : Cond) ∈ sr_tbl := sr_in 386 rfl rfl
set_option maxRecDepth 20000 in
theorem qsX0_put : (.selects RX0 yX0_put yX0_put : Cond) ∈ sr_tbl := sr_in 387 rfl rfl
set_option maxRecDepth 20000 in
theorem qcX0_put : (.code yX0_put cX0_put 5 (none) : Cond) ∈ sr_tbl := sr_in 388 rfl rfl
set_option maxRecDepth 20000 in
theorem qmX0_30 : (.methodLink RX0 30 yX0_wholeOf : Cond) ∈ sr_tbl := sr_in 389 rfl rfl
set_option maxRecDepth 20000 in
theorem qiX0_wholeOf : (.instanceMethod yX0_wholeOf : Cond) ∈ sr_tbl := sr_in 391 rfl rfl
set_option maxRecDepth 20000 in
theorem qcX0_wholeOf : (.code yX0_wholeOf cX0_wholeOf 4 (some .long) : Cond) ∈ sr_tbl := sr_in 392 rfl rfl
set_option maxRecDepth 20000 in
theorem qmL_65 : (.methodLink RL 65 yX4_wild : Cond) ∈ sr_tbl := sr_in 393 rfl rfl
set_option maxRecDepth 20000 in
theorem qiX4_wild : (.instanceMethod yX4_wild : Cond) ∈ sr_tbl := sr_in 394 rfl rfl
set_option maxRecDepth 20000 in
theorem qsX4_wild : (.selects RX4 yX4_wild yX4_wild : Cond) ∈ sr_tbl := sr_in 395 rfl rfl
set_option maxRecDepth 20000 in
theorem qcX4_wild : (.code yX4_wild cX4_wild 4 (some .int) : Cond) ∈ sr_tbl := sr_in 396 rfl rfl
set_option maxRecDepth 20000 in
theorem qmX4_133 : (.methodLink RX4 133 yX0_putWild : Cond) ∈ sr_tbl := sr_in 397 rfl rfl
set_option maxRecDepth 20000 in
theorem qiX0_putWild : (.instanceMethod yX0_putWild : Cond) ∈ sr_tbl := sr_in 398 rfl rfl
set_option maxRecDepth 20000 in
theorem qsX0_putWild : (.selects RX0 yX0_putWild yX0_putWild : Cond) ∈ sr_tbl := sr_in 399 rfl rfl
set_option maxRecDepth 20000 in
theorem qcX0_putWild : (.code yX0_putWild cX0_putWild 3 (none) : Cond) ∈ sr_tbl := sr_in 400 rfl rfl
set_option maxRecDepth 20000 in
theorem qkX0_34 : (.constantLong RX0 34 (9223372036854775807) : Cond) ∈ sr_tbl := sr_in 401 rfl rfl
set_option maxRecDepth 20000 in
theorem qkX0_36 : (.constantLong RX0 36 (-9223372036854775808) : Cond) ∈ sr_tbl := sr_in 402 rfl rfl
set_option maxRecDepth 20000 in
theorem qmL_69 : (.methodLink RL 69 yX4_splice : Cond) ∈ sr_tbl := sr_in 403 rfl rfl
set_option maxRecDepth 20000 in
theorem qiX4_splice : (.instanceMethod yX4_splice : Cond) ∈ sr_tbl := sr_in 404 rfl rfl
set_option maxRecDepth 20000 in
theorem qsX4_splice : (.selects RX4 yX4_splice yX4_splice : Cond) ∈ sr_tbl := sr_in 405 rfl rfl
set_option maxRecDepth 20000 in
theorem qcX4_splice : (.code yX4_splice cX4_splice 6 (some .int) : Cond) ∈ sr_tbl := sr_in 406 rfl rfl
set_option maxRecDepth 20000 in
theorem qmX4_136 : (.methodLink RX4 136 yX0_spans : Cond) ∈ sr_tbl := sr_in 407 rfl rfl
set_option maxRecDepth 20000 in
theorem qiX0_spans : (.instanceMethod yX0_spans : Cond) ∈ sr_tbl := sr_in 408 rfl rfl
set_option maxRecDepth 20000 in
theorem qsX0_spans : (.selects RX0 yX0_spans yX0_spans : Cond) ∈ sr_tbl := sr_in 409 rfl rfl
set_option maxRecDepth 20000 in
theorem qcX0_spans : (.code yX0_spans cX0_spans 3 (some .boolean) : Cond) ∈ sr_tbl := sr_in 410 rfl rfl
set_option maxRecDepth 20000 in
theorem qmX4_140 : (.methodLink RX4 140 yX0_putFrom : Cond) ∈ sr_tbl := sr_in 411 rfl rfl
set_option maxRecDepth 20000 in
theorem qiX0_putFrom : (.instanceMethod yX0_putFrom : Cond) ∈ sr_tbl := sr_in 412 rfl rfl
set_option maxRecDepth 20000 in
theorem qsX0_putFrom : (.selects RX0 yX0_putFrom yX0_putFrom : Cond) ∈ sr_tbl := sr_in 413 rfl rfl
set_option maxRecDepth 20000 in
theorem qcX0_putFrom : (.code yX0_putFrom cX0_putFrom 5 (none) : Cond) ∈ sr_tbl := sr_in 414 rfl rfl
set_option maxRecDepth 20000 in
theorem qmL_74 : (.methodLink RL 74 yX4_lose : Cond) ∈ sr_tbl := sr_in 418 rfl rfl
set_option maxRecDepth 20000 in
theorem qiX4_lose : (.instanceMethod yX4_lose : Cond) ∈ sr_tbl := sr_in 419 rfl rfl
set_option maxRecDepth 20000 in
theorem qsX4_lose : (.selects RX4 yX4_lose yX4_lose : Cond) ∈ sr_tbl := sr_in 420 rfl rfl
set_option maxRecDepth 20000 in
theorem qcX4_lose : (.code yX4_lose cX4_lose 2 (some .int) : Cond) ∈ sr_tbl := sr_in 421 rfl rfl
set_option maxRecDepth 20000 in
theorem qmL_78 : (.methodLink RL 78 yX4_told : Cond) ∈ sr_tbl := sr_in 422 rfl rfl
set_option maxRecDepth 20000 in
theorem qiX4_told : (.instanceMethod yX4_told : Cond) ∈ sr_tbl := sr_in 423 rfl rfl
set_option maxRecDepth 20000 in
theorem qsX4_told : (.selects RX4 yX4_told yX4_told : Cond) ∈ sr_tbl := sr_in 424 rfl rfl
set_option maxRecDepth 20000 in
theorem qcX4_told : (.code yX4_told cX4_told 3 (some .long) : Cond) ∈ sr_tbl := sr_in 425 rfl rfl
set_option maxRecDepth 20000 in
theorem qkX4_144 : (.constantLong RX4 144 (9223372036854775807) : Cond) ∈ sr_tbl := sr_in 426 rfl rfl
set_option maxRecDepth 20000 in
theorem qmL_83 : (.methodLink RL 83 yX4_pour : Cond) ∈ sr_tbl := sr_in 427 rfl rfl
set_option maxRecDepth 20000 in
theorem qiX4_pour : (.instanceMethod yX4_pour : Cond) ∈ sr_tbl := sr_in 428 rfl rfl
set_option maxRecDepth 20000 in
theorem qsX4_pour : (.selects RX4 yX4_pour yX4_pour : Cond) ∈ sr_tbl := sr_in 429 rfl rfl
set_option maxRecDepth 20000 in
theorem qcX4_pour : (.code yX4_pour cX4_pour 6 (some .int) : Cond) ∈ sr_tbl := sr_in 430 rfl rfl
set_option maxRecDepth 20000 in
theorem qmX4_150 : (.methodLink RX4 150 yX4_pourOne : Cond) ∈ sr_tbl := sr_in 431 rfl rfl
set_option maxRecDepth 20000 in
theorem qiX4_pourOne : (.instanceMethod yX4_pourOne : Cond) ∈ sr_tbl := sr_in 433 rfl rfl
set_option maxRecDepth 20000 in
theorem qcX4_pourOne : (.code yX4_pourOne cX4_pourOne 5 (none) : Cond) ∈ sr_tbl := sr_in 434 rfl rfl
set_option maxRecDepth 20000 in
theorem qmX4_233 : (.methodLink RX4 233 yX0_isNoNumber : Cond) ∈ sr_tbl := sr_in 435 rfl rfl
set_option maxRecDepth 20000 in
theorem qiX0_isNoNumber : (.instanceMethod yX0_isNoNumber : Cond) ∈ sr_tbl := sr_in 436 rfl rfl
set_option maxRecDepth 20000 in
theorem qsX0_isNoNumber : (.selects RX0 yX0_isNoNumber yX0_isNoNumber : Cond) ∈ sr_tbl := sr_in 437 rfl rfl
set_option maxRecDepth 20000 in
theorem qcX0_isNoNumber : (.code yX0_isNoNumber cX0_isNoNumber 2 (some .boolean) : Cond) ∈ sr_tbl := sr_in 438 rfl rfl
set_option maxRecDepth 20000 in
theorem qmL_88 : (.methodLink RL 88 yX4_begin : Cond) ∈ sr_tbl := sr_in 439 rfl rfl
set_option maxRecDepth 20000 in
theorem qiX4_begin : (.instanceMethod yX4_begin : Cond) ∈ sr_tbl := sr_in 440 rfl rfl
set_option maxRecDepth 20000 in
theorem qsX4_begin : (.selects RX4 yX4_begin yX4_begin : Cond) ∈ sr_tbl := sr_in 441 rfl rfl
set_option maxRecDepth 20000 in
theorem qcX4_begin : (.code yX4_begin cX4_begin 1 (some .int) : Cond) ∈ sr_tbl := sr_in 442 rfl rfl
set_option maxRecDepth 20000 in
theorem qmX4_154 : (.methodLink RX4 154 yX1_start : Cond) ∈ sr_tbl := sr_in 443 rfl rfl
set_option maxRecDepth 20000 in
theorem qiX1_start : (.instanceMethod yX1_start : Cond) ∈ sr_tbl := sr_in 444 rfl rfl
set_option maxRecDepth 20000 in
theorem qsX1_start : (.selects RX1 yX1_start yX1_start : Cond) ∈ sr_tbl := sr_in 445 rfl rfl
set_option maxRecDepth 20000 in
theorem qcX1_start : (.code yX1_start cX1_start 2 (none) : Cond) ∈ sr_tbl := sr_in 446 rfl rfl
set_option maxRecDepth 20000 in
theorem qmX1_72 : (.methodLink RX1 72 yX1_cutOff : Cond) ∈ sr_tbl := sr_in 447 rfl rfl
set_option maxRecDepth 20000 in
theorem qiX1_cutOff : (.instanceMethod yX1_cutOff : Cond) ∈ sr_tbl := sr_in 449 rfl rfl
set_option maxRecDepth 20000 in
theorem qcX1_cutOff : (.code yX1_cutOff cX1_cutOff 2 (none) : Cond) ∈ sr_tbl := sr_in 450 rfl rfl
set_option maxRecDepth 20000 in
theorem qmX1_128 : (.methodLink RX1 128 yX1_reachFromOutlets : Cond) ∈ sr_tbl := sr_in 451 rfl rfl
set_option maxRecDepth 20000 in
theorem qiX1_reachFromOutlets : (.instanceMethod yX1_reachFromOutlets : Cond) ∈ sr_tbl := sr_in 453 rfl rfl
set_option maxRecDepth 20000 in
theorem qcX1_reachFromOutlets : (.code yX1_reachFromOutlets cX1_reachFromOutlets 3 (none) : Cond) ∈ sr_tbl := sr_in 454 rfl rfl
set_option maxRecDepth 20000 in
theorem qmX1_135 : (.methodLink RX1 135 yX1_reachAround : Cond) ∈ sr_tbl := sr_in 455 rfl rfl
set_option maxRecDepth 20000 in
theorem qiX1_reachAround : (.instanceMethod yX1_reachAround : Cond) ∈ sr_tbl := sr_in 457 rfl rfl
set_option maxRecDepth 20000 in
theorem qcX1_reachAround : (.code yX1_reachAround cX1_reachAround 6 (some .int) : Cond) ∈ sr_tbl := sr_in 458 rfl rfl
set_option maxRecDepth 20000 in
theorem qmX1_139 : (.methodLink RX1 139 yX2_across : Cond) ∈ sr_tbl := sr_in 459 rfl rfl
set_option maxRecDepth 20000 in
theorem qiX2_across : (.instanceMethod yX2_across : Cond) ∈ sr_tbl := sr_in 460 rfl rfl
set_option maxRecDepth 20000 in
theorem qsX2_across : (.selects RX2 yX2_across yX2_across : Cond) ∈ sr_tbl := sr_in 461 rfl rfl
set_option maxRecDepth 20000 in
theorem qcX2_across : (.code yX2_across cX2_across 3 (some .int) : Cond) ∈ sr_tbl := sr_in 462 rfl rfl
set_option maxRecDepth 20000 in
theorem qmX1_111 : (.methodLink RX1 111 yX2_isOpen : Cond) ∈ sr_tbl := sr_in 463 rfl rfl
set_option maxRecDepth 20000 in
theorem qmX1_131 : (.methodLink RX1 131 yX1_addLake : Cond) ∈ sr_tbl := sr_in 464 rfl rfl
set_option maxRecDepth 20000 in
theorem qiX1_addLake : (.instanceMethod yX1_addLake : Cond) ∈ sr_tbl := sr_in 466 rfl rfl
set_option maxRecDepth 20000 in
theorem qcX1_addLake : (.code yX1_addLake cX1_addLake 4 (none) : Cond) ∈ sr_tbl := sr_in 467 rfl rfl
set_option maxRecDepth 20000 in
theorem qmX1_142 : (.methodLink RX1 142 yX1_drownAround : Cond) ∈ sr_tbl := sr_in 468 rfl rfl
set_option maxRecDepth 20000 in
theorem qiX1_drownAround : (.instanceMethod yX1_drownAround : Cond) ∈ sr_tbl := sr_in 470 rfl rfl
set_option maxRecDepth 20000 in
theorem qcX1_drownAround : (.code yX1_drownAround cX1_drownAround 6 (some .int) : Cond) ∈ sr_tbl := sr_in 471 rfl rfl
set_option maxRecDepth 20000 in
theorem qmX1_145 : (.methodLink RX1 145 yX1_greatestRankOpened : Cond) ∈ sr_tbl := sr_in 472 rfl rfl
set_option maxRecDepth 20000 in
theorem qiX1_greatestRankOpened : (.instanceMethod yX1_greatestRankOpened : Cond) ∈ sr_tbl := sr_in 474 rfl rfl
set_option maxRecDepth 20000 in
theorem qcX1_greatestRankOpened : (.code yX1_greatestRankOpened cX1_greatestRankOpened 3 (some .int) : Cond) ∈ sr_tbl := sr_in 475 rfl rfl
set_option maxRecDepth 20000 in
theorem qmX1_148 : (.methodLink RX1 148 yJ9_max_7cf53 : Cond) ∈ sr_tbl := sr_in 476 rfl rfl
set_option maxRecDepth 20000 in
theorem qtJ9_max_7cf53 : (.static yJ9_max_7cf53 : Cond) ∈ sr_tbl := sr_in 477 rfl rfl
set_option maxRecDepth 20000 in
theorem qcJ9_max_7cf53 : (.code yJ9_max_7cf53 cJ9_max_7cf53 2 (some .int) : Cond) ∈ sr_tbl := sr_in 478 rfl rfl
set_option maxRecDepth 20000 in
theorem qmX4_157 : (.methodLink RX4 157 yX1_countFilled : Cond) ∈ sr_tbl := sr_in 479 rfl rfl
set_option maxRecDepth 20000 in
theorem qiX1_countFilled : (.instanceMethod yX1_countFilled : Cond) ∈ sr_tbl := sr_in 480 rfl rfl
set_option maxRecDepth 20000 in
theorem qsX1_countFilled : (.selects RX1 yX1_countFilled yX1_countFilled : Cond) ∈ sr_tbl := sr_in 481 rfl rfl
set_option maxRecDepth 20000 in
theorem qcX1_countFilled : (.code yX1_countFilled cX1_countFilled 3 (some .int) : Cond) ∈ sr_tbl := sr_in 482 rfl rfl
set_option maxRecDepth 20000 in
theorem qmL_93 : (.methodLink RL 93 yX4_step : Cond) ∈ sr_tbl := sr_in 483 rfl rfl
set_option maxRecDepth 20000 in
theorem qiX4_step : (.instanceMethod yX4_step : Cond) ∈ sr_tbl := sr_in 484 rfl rfl
set_option maxRecDepth 20000 in
theorem qsX4_step : (.selects RX4 yX4_step yX4_step : Cond) ∈ sr_tbl := sr_in 485 rfl rfl
set_option maxRecDepth 20000 in
theorem qcX4_step : (.code yX4_step cX4_step 2 (some .int) : Cond) ∈ sr_tbl := sr_in 486 rfl rfl
set_option maxRecDepth 20000 in
theorem qmX4_161 : (.methodLink RX4 161 yX1_advance : Cond) ∈ sr_tbl := sr_in 487 rfl rfl
set_option maxRecDepth 20000 in
theorem qiX1_advance : (.instanceMethod yX1_advance : Cond) ∈ sr_tbl := sr_in 488 rfl rfl
set_option maxRecDepth 20000 in
theorem qsX1_advance : (.selects RX1 yX1_advance yX1_advance : Cond) ∈ sr_tbl := sr_in 489 rfl rfl
set_option maxRecDepth 20000 in
theorem qcX1_advance : (.code yX1_advance cX1_advance 3 (some .int) : Cond) ∈ sr_tbl := sr_in 490 rfl rfl
set_option maxRecDepth 20000 in
theorem qmX1_75 : (.methodLink RX1 75 yX1_nextThroat : Cond) ∈ sr_tbl := sr_in 491 rfl rfl
set_option maxRecDepth 20000 in
theorem qiX1_nextThroat : (.instanceMethod yX1_nextThroat : Cond) ∈ sr_tbl := sr_in 493 rfl rfl
set_option maxRecDepth 20000 in
theorem qcX1_nextThroat : (.code yX1_nextThroat cX1_nextThroat 2 (some .int) : Cond) ∈ sr_tbl := sr_in 494 rfl rfl
set_option maxRecDepth 20000 in
theorem qmX1_98 : (.methodLink RX1 98 yX1_preferredAt : Cond) ∈ sr_tbl := sr_in 495 rfl rfl
set_option maxRecDepth 20000 in
theorem qiX1_preferredAt : (.instanceMethod yX1_preferredAt : Cond) ∈ sr_tbl := sr_in 497 rfl rfl
set_option maxRecDepth 20000 in
theorem qcX1_preferredAt : (.code yX1_preferredAt cX1_preferredAt 6 (some .int) : Cond) ∈ sr_tbl := sr_in 498 rfl rfl
set_option maxRecDepth 20000 in
theorem qmX1_91 : (.methodLink RX1 91 yX1_isCandidate : Cond) ∈ sr_tbl := sr_in 499 rfl rfl
set_option maxRecDepth 20000 in
theorem qiX1_isCandidate : (.instanceMethod yX1_isCandidate : Cond) ∈ sr_tbl := sr_in 501 rfl rfl
set_option maxRecDepth 20000 in
theorem qcX1_isCandidate : (.code yX1_isCandidate cX1_isCandidate 2 (some .boolean) : Cond) ∈ sr_tbl := sr_in 502 rfl rfl
set_option maxRecDepth 20000 in
theorem qmX1_121 : (.methodLink RX1 121 yX1_leads : Cond) ∈ sr_tbl := sr_in 503 rfl rfl
set_option maxRecDepth 20000 in
theorem qiX1_leads : (.instanceMethod yX1_leads : Cond) ∈ sr_tbl := sr_in 505 rfl rfl
set_option maxRecDepth 20000 in
theorem qcX1_leads : (.code yX1_leads cX1_leads 3 (some .boolean) : Cond) ∈ sr_tbl := sr_in 506 rfl rfl
set_option maxRecDepth 20000 in
theorem qmX1_114 : (.methodLink RX1 114 yX1_isPreferred : Cond) ∈ sr_tbl := sr_in 507 rfl rfl
set_option maxRecDepth 20000 in
theorem qiX1_isPreferred : (.instanceMethod yX1_isPreferred : Cond) ∈ sr_tbl := sr_in 509 rfl rfl
set_option maxRecDepth 20000 in
theorem qcX1_isPreferred : (.code yX1_isPreferred cX1_isPreferred 4 (some .boolean) : Cond) ∈ sr_tbl := sr_in 510 rfl rfl
set_option maxRecDepth 20000 in
theorem qmX1_102 : (.methodLink RX1 102 yX1_candidate : Cond) ∈ sr_tbl := sr_in 511 rfl rfl
set_option maxRecDepth 20000 in
theorem qiX1_candidate : (.instanceMethod yX1_candidate : Cond) ∈ sr_tbl := sr_in 512 rfl rfl
set_option maxRecDepth 20000 in
theorem qsX1_candidate : (.selects RX1 yX1_candidate yX1_candidate : Cond) ∈ sr_tbl := sr_in 513 rfl rfl
set_option maxRecDepth 20000 in
theorem qcX1_candidate : (.code yX1_candidate cX1_candidate 4 (some .int) : Cond) ∈ sr_tbl := sr_in 514 rfl rfl
set_option maxRecDepth 20000 in
theorem qmL_97 : (.methodLink RL 97 yX4_run : Cond) ∈ sr_tbl := sr_in 515 rfl rfl
set_option maxRecDepth 20000 in
theorem qiX4_run : (.instanceMethod yX4_run : Cond) ∈ sr_tbl := sr_in 516 rfl rfl
set_option maxRecDepth 20000 in
theorem qsX4_run : (.selects RX4 yX4_run yX4_run : Cond) ∈ sr_tbl := sr_in 517 rfl rfl
set_option maxRecDepth 20000 in
theorem qcX4_run : (.code yX4_run cX4_run 4 (some .int) : Cond) ∈ sr_tbl := sr_in 518 rfl rfl
set_option maxRecDepth 20000 in
theorem qmL_101 : (.methodLink RL 101 yX4_undo : Cond) ∈ sr_tbl := sr_in 519 rfl rfl
set_option maxRecDepth 20000 in
theorem qiX4_undo : (.instanceMethod yX4_undo : Cond) ∈ sr_tbl := sr_in 520 rfl rfl
set_option maxRecDepth 20000 in
theorem qsX4_undo : (.selects RX4 yX4_undo yX4_undo : Cond) ∈ sr_tbl := sr_in 521 rfl rfl
set_option maxRecDepth 20000 in
theorem qcX4_undo : (.code yX4_undo cX4_undo 2 (some .int) : Cond) ∈ sr_tbl := sr_in 522 rfl rfl
set_option maxRecDepth 20000 in
theorem qmX4_167 : (.methodLink RX4 167 yX1_takeBackTo : Cond) ∈ sr_tbl := sr_in 523 rfl rfl
set_option maxRecDepth 20000 in
theorem qiX1_takeBackTo : (.instanceMethod yX1_takeBackTo : Cond) ∈ sr_tbl := sr_in 524 rfl rfl
set_option maxRecDepth 20000 in
theorem qsX1_takeBackTo : (.selects RX1 yX1_takeBackTo yX1_takeBackTo : Cond) ∈ sr_tbl := sr_in 525 rfl rfl
set_option maxRecDepth 20000 in
theorem qcX1_takeBackTo : (.code yX1_takeBackTo cX1_takeBackTo 3 (none) : Cond) ∈ sr_tbl := sr_in 526 rfl rfl
set_option maxRecDepth 20000 in
theorem qmL_105 : (.methodLink RL 105 yX4_many : Cond) ∈ sr_tbl := sr_in 527 rfl rfl
set_option maxRecDepth 20000 in
theorem qiX4_many : (.instanceMethod yX4_many : Cond) ∈ sr_tbl := sr_in 528 rfl rfl
set_option maxRecDepth 20000 in
theorem qsX4_many : (.selects RX4 yX4_many yX4_many : Cond) ∈ sr_tbl := sr_in 529 rfl rfl
set_option maxRecDepth 20000 in
theorem qcX4_many : (.code yX4_many cX4_many 2 (some .int) : Cond) ∈ sr_tbl := sr_in 530 rfl rfl
set_option maxRecDepth 20000 in
theorem qmX4_174 : (.methodLink RX4 174 yX4_manyInRun : Cond) ∈ sr_tbl := sr_in 531 rfl rfl
set_option maxRecDepth 20000 in
theorem qiX4_manyInRun : (.instanceMethod yX4_manyInRun : Cond) ∈ sr_tbl := sr_in 533 rfl rfl
set_option maxRecDepth 20000 in
theorem qcX4_manyInRun : (.code yX4_manyInRun cX4_manyInRun 2 (some .int) : Cond) ∈ sr_tbl := sr_in 534 rfl rfl
set_option maxRecDepth 20000 in
theorem qmX4_236 : (.methodLink RX4 236 yX1_countCut : Cond) ∈ sr_tbl := sr_in 535 rfl rfl
set_option maxRecDepth 20000 in
theorem qiX1_countCut : (.instanceMethod yX1_countCut : Cond) ∈ sr_tbl := sr_in 536 rfl rfl
set_option maxRecDepth 20000 in
theorem qsX1_countCut : (.selects RX1 yX1_countCut yX1_countCut : Cond) ∈ sr_tbl := sr_in 537 rfl rfl
set_option maxRecDepth 20000 in
theorem qcX1_countCut : (.code yX1_countCut cX1_countCut 3 (some .int) : Cond) ∈ sr_tbl := sr_in 538 rfl rfl
set_option maxRecDepth 20000 in
theorem qmX4_239 : (.methodLink RX4 239 yX1_countCandidates : Cond) ∈ sr_tbl := sr_in 539 rfl rfl
set_option maxRecDepth 20000 in
theorem qiX1_countCandidates : (.instanceMethod yX1_countCandidates : Cond) ∈ sr_tbl := sr_in 540 rfl rfl
set_option maxRecDepth 20000 in
theorem qsX1_countCandidates : (.selects RX1 yX1_countCandidates yX1_countCandidates : Cond) ∈ sr_tbl := sr_in 541 rfl rfl
set_option maxRecDepth 20000 in
theorem qcX1_countCandidates : (.code yX1_countCandidates cX1_countCandidates 3 (some .int) : Cond) ∈ sr_tbl := sr_in 542 rfl rfl
set_option maxRecDepth 20000 in
theorem qmL_109 : (.methodLink RL 109 yX4_opened : Cond) ∈ sr_tbl := sr_in 543 rfl rfl
set_option maxRecDepth 20000 in
theorem qiX4_opened : (.instanceMethod yX4_opened : Cond) ∈ sr_tbl := sr_in 544 rfl rfl
set_option maxRecDepth 20000 in
theorem qsX4_opened : (.selects RX4 yX4_opened yX4_opened : Cond) ∈ sr_tbl := sr_in 545 rfl rfl
set_option maxRecDepth 20000 in
theorem qcX4_opened : (.code yX4_opened cX4_opened 2 (some .int) : Cond) ∈ sr_tbl := sr_in 546 rfl rfl
set_option maxRecDepth 20000 in
theorem qmL_113 : (.methodLink RL 113 yX4_now : Cond) ∈ sr_tbl := sr_in 547 rfl rfl
set_option maxRecDepth 20000 in
theorem qiX4_now : (.instanceMethod yX4_now : Cond) ∈ sr_tbl := sr_in 548 rfl rfl
set_option maxRecDepth 20000 in
theorem qsX4_now : (.selects RX4 yX4_now yX4_now : Cond) ∈ sr_tbl := sr_in 549 rfl rfl
set_option maxRecDepth 20000 in
theorem qcX4_now : (.code yX4_now cX4_now 3 (some .int) : Cond) ∈ sr_tbl := sr_in 550 rfl rfl
set_option maxRecDepth 20000 in
theorem qmL_117 : (.methodLink RL 117 yX4_front : Cond) ∈ sr_tbl := sr_in 551 rfl rfl
set_option maxRecDepth 20000 in
theorem qiX4_front : (.instanceMethod yX4_front : Cond) ∈ sr_tbl := sr_in 552 rfl rfl
set_option maxRecDepth 20000 in
theorem qsX4_front : (.selects RX4 yX4_front yX4_front : Cond) ∈ sr_tbl := sr_in 553 rfl rfl
set_option maxRecDepth 20000 in
theorem qcX4_front : (.code yX4_front cX4_front 2 (some .int) : Cond) ∈ sr_tbl := sr_in 554 rfl rfl
set_option maxRecDepth 20000 in
theorem qmX4_192 : (.methodLink RX4 192 yX1_candidate : Cond) ∈ sr_tbl := sr_in 555 rfl rfl
set_option maxRecDepth 20000 in
theorem qmL_121 : (.methodLink RL 121 yX4_lake : Cond) ∈ sr_tbl := sr_in 556 rfl rfl
set_option maxRecDepth 20000 in
theorem qiX4_lake : (.instanceMethod yX4_lake : Cond) ∈ sr_tbl := sr_in 557 rfl rfl
set_option maxRecDepth 20000 in
theorem qsX4_lake : (.selects RX4 yX4_lake yX4_lake : Cond) ∈ sr_tbl := sr_in 558 rfl rfl
set_option maxRecDepth 20000 in
theorem qcX4_lake : (.code yX4_lake cX4_lake 3 (some .int) : Cond) ∈ sr_tbl := sr_in 559 rfl rfl
set_option maxRecDepth 20000 in
theorem qmL_125 : (.methodLink RL 125 yX4_through : Cond) ∈ sr_tbl := sr_in 560 rfl rfl
set_option maxRecDepth 20000 in
theorem qiX4_through : (.instanceMethod yX4_through : Cond) ∈ sr_tbl := sr_in 561 rfl rfl
set_option maxRecDepth 20000 in
theorem qsX4_through : (.selects RX4 yX4_through yX4_through : Cond) ∈ sr_tbl := sr_in 562 rfl rfl
set_option maxRecDepth 20000 in
theorem qcX4_through : (.code yX4_through cX4_through 1 (some .int) : Cond) ∈ sr_tbl := sr_in 563 rfl rfl
set_option maxRecDepth 20000 in
theorem qmX4_210 : (.methodLink RX4 210 yX1_firstOutletStep : Cond) ∈ sr_tbl := sr_in 564 rfl rfl
set_option maxRecDepth 20000 in
theorem qiX1_firstOutletStep : (.instanceMethod yX1_firstOutletStep : Cond) ∈ sr_tbl := sr_in 565 rfl rfl
set_option maxRecDepth 20000 in
theorem qsX1_firstOutletStep : (.selects RX1 yX1_firstOutletStep yX1_firstOutletStep : Cond) ∈ sr_tbl := sr_in 566 rfl rfl
set_option maxRecDepth 20000 in
theorem qcX1_firstOutletStep : (.code yX1_firstOutletStep cX1_firstOutletStep 4 (some .int) : Cond) ∈ sr_tbl := sr_in 567 rfl rfl
set_option maxRecDepth 20000 in
theorem qmL_129 : (.methodLink RL 129 yX4_worst : Cond) ∈ sr_tbl := sr_in 568 rfl rfl
set_option maxRecDepth 20000 in
theorem qiX4_worst : (.instanceMethod yX4_worst : Cond) ∈ sr_tbl := sr_in 569 rfl rfl
set_option maxRecDepth 20000 in
theorem qsX4_worst : (.selects RX4 yX4_worst yX4_worst : Cond) ∈ sr_tbl := sr_in 570 rfl rfl
set_option maxRecDepth 20000 in
theorem qcX4_worst : (.code yX4_worst cX4_worst 2 (some .int) : Cond) ∈ sr_tbl := sr_in 571 rfl rfl
set_option maxRecDepth 20000 in
theorem qmX4_213 : (.methodLink RX4 213 yX3_flood : Cond) ∈ sr_tbl := sr_in 572 rfl rfl
set_option maxRecDepth 20000 in
theorem qiX3_flood : (.instanceMethod yX3_flood : Cond) ∈ sr_tbl := sr_in 573 rfl rfl
set_option maxRecDepth 20000 in
theorem qsX3_flood : (.selects RX3 yX3_flood yX3_flood : Cond) ∈ sr_tbl := sr_in 574 rfl rfl
set_option maxRecDepth 20000 in
theorem qcX3_flood : (.code yX3_flood cX3_flood 2 (none) : Cond) ∈ sr_tbl := sr_in 575 rfl rfl
set_option maxRecDepth 20000 in
theorem qmX3_38 : (.methodLink RX3 38 yX3_fillNext : Cond) ∈ sr_tbl := sr_in 576 rfl rfl
set_option maxRecDepth 20000 in
theorem qiX3_fillNext : (.instanceMethod yX3_fillNext : Cond) ∈ sr_tbl := sr_in 578 rfl rfl
set_option maxRecDepth 20000 in
theorem qcX3_fillNext : (.code yX3_fillNext cX3_fillNext 5 (some .boolean) : Cond) ∈ sr_tbl := sr_in 579 rfl rfl
set_option maxRecDepth 20000 in
theorem qmX3_65 : (.methodLink RX3 65 yX3_fill : Cond) ∈ sr_tbl := sr_in 580 rfl rfl
set_option maxRecDepth 20000 in
theorem qiX3_fill : (.instanceMethod yX3_fill : Cond) ∈ sr_tbl := sr_in 582 rfl rfl
set_option maxRecDepth 20000 in
theorem qcX3_fill : (.code yX3_fill cX3_fill 4 (none) : Cond) ∈ sr_tbl := sr_in 583 rfl rfl
set_option maxRecDepth 20000 in
theorem qmX3_42 : (.methodLink RX3 42 yX2_across : Cond) ∈ sr_tbl := sr_in 584 rfl rfl
set_option maxRecDepth 20000 in
theorem qmX3_72 : (.methodLink RX3 72 yJ9_max_7cf53 : Cond) ∈ sr_tbl := sr_in 585 rfl rfl
set_option maxRecDepth 20000 in
theorem qmL_133 : (.methodLink RL 133 yX4_way : Cond) ∈ sr_tbl := sr_in 586 rfl rfl
set_option maxRecDepth 20000 in
theorem qiX4_way : (.instanceMethod yX4_way : Cond) ∈ sr_tbl := sr_in 587 rfl rfl
set_option maxRecDepth 20000 in
theorem qsX4_way : (.selects RX4 yX4_way yX4_way : Cond) ∈ sr_tbl := sr_in 588 rfl rfl
set_option maxRecDepth 20000 in
theorem qcX4_way : (.code yX4_way cX4_way 3 (some .int) : Cond) ∈ sr_tbl := sr_in 589 rfl rfl
set_option maxRecDepth 20000 in
theorem qmX4_222 : (.methodLink RX4 222 yX3_throatOnWay : Cond) ∈ sr_tbl := sr_in 590 rfl rfl
set_option maxRecDepth 20000 in
theorem qiX3_throatOnWay : (.instanceMethod yX3_throatOnWay : Cond) ∈ sr_tbl := sr_in 591 rfl rfl
set_option maxRecDepth 20000 in
theorem qsX3_throatOnWay : (.selects RX3 yX3_throatOnWay yX3_throatOnWay : Cond) ∈ sr_tbl := sr_in 592 rfl rfl
set_option maxRecDepth 20000 in
theorem qcX3_throatOnWay : (.code yX3_throatOnWay cX3_throatOnWay 5 (some .int) : Cond) ∈ sr_tbl := sr_in 593 rfl rfl
set_option maxRecDepth 20000 in
theorem qmL_137 : (.methodLink RL 137 yX4_join : Cond) ∈ sr_tbl := sr_in 594 rfl rfl
set_option maxRecDepth 20000 in
theorem qiX4_join : (.instanceMethod yX4_join : Cond) ∈ sr_tbl := sr_in 595 rfl rfl
set_option maxRecDepth 20000 in
theorem qsX4_join : (.selects RX4 yX4_join yX4_join : Cond) ∈ sr_tbl := sr_in 596 rfl rfl
set_option maxRecDepth 20000 in
theorem qcX4_join : (.code yX4_join cX4_join 3 (some .int) : Cond) ∈ sr_tbl := sr_in 597 rfl rfl
set_option maxRecDepth 20000 in
theorem qmX4_225 : (.methodLink RX4 225 yX3_rankJoining : Cond) ∈ sr_tbl := sr_in 598 rfl rfl
set_option maxRecDepth 20000 in
theorem qiX3_rankJoining : (.instanceMethod yX3_rankJoining : Cond) ∈ sr_tbl := sr_in 599 rfl rfl
set_option maxRecDepth 20000 in
theorem qsX3_rankJoining : (.selects RX3 yX3_rankJoining yX3_rankJoining : Cond) ∈ sr_tbl := sr_in 600 rfl rfl
set_option maxRecDepth 20000 in
theorem qcX3_rankJoining : (.code yX3_rankJoining cX3_rankJoining 4 (some .int) : Cond) ∈ sr_tbl := sr_in 601 rfl rfl
set_option maxRecDepth 20000 in
theorem qmX3_46 : (.methodLink RX3 46 yX3_stand : Cond) ∈ sr_tbl := sr_in 602 rfl rfl
set_option maxRecDepth 20000 in
theorem qiX3_stand : (.instanceMethod yX3_stand : Cond) ∈ sr_tbl := sr_in 604 rfl rfl
set_option maxRecDepth 20000 in
theorem qcX3_stand : (.code yX3_stand cX3_stand 2 (none) : Cond) ∈ sr_tbl := sr_in 605 rfl rfl
set_option maxRecDepth 20000 in
theorem qmX3_55 : (.methodLink RX3 55 yX3_unite : Cond) ∈ sr_tbl := sr_in 606 rfl rfl
set_option maxRecDepth 20000 in
theorem qiX3_unite : (.instanceMethod yX3_unite : Cond) ∈ sr_tbl := sr_in 608 rfl rfl
set_option maxRecDepth 20000 in
theorem qcX3_unite : (.code yX3_unite cX3_unite 5 (some .boolean) : Cond) ∈ sr_tbl := sr_in 609 rfl rfl
set_option maxRecDepth 20000 in
theorem qmL_141 : (.methodLink RL 141 yX4_tree : Cond) ∈ sr_tbl := sr_in 610 rfl rfl
set_option maxRecDepth 20000 in
theorem qiX4_tree : (.instanceMethod yX4_tree : Cond) ∈ sr_tbl := sr_in 611 rfl rfl
set_option maxRecDepth 20000 in
theorem qsX4_tree : (.selects RX4 yX4_tree yX4_tree : Cond) ∈ sr_tbl := sr_in 612 rfl rfl
set_option maxRecDepth 20000 in
theorem qcX4_tree : (.code yX4_tree cX4_tree 2 (some .int) : Cond) ∈ sr_tbl := sr_in 613 rfl rfl
set_option maxRecDepth 20000 in
theorem qmX4_228 : (.methodLink RX4 228 yX3_branch : Cond) ∈ sr_tbl := sr_in 614 rfl rfl
set_option maxRecDepth 20000 in
theorem qiX3_branch : (.instanceMethod yX3_branch : Cond) ∈ sr_tbl := sr_in 615 rfl rfl
set_option maxRecDepth 20000 in
theorem qsX3_branch : (.selects RX3 yX3_branch yX3_branch : Cond) ∈ sr_tbl := sr_in 616 rfl rfl
set_option maxRecDepth 20000 in
theorem qcX3_branch : (.code yX3_branch cX3_branch 4 (some .int) : Cond) ∈ sr_tbl := sr_in 617 rfl rfl
set_option maxRecDepth 20000 in
theorem qmL_145 : (.methodLink RL 145 yX4_claim : Cond) ∈ sr_tbl := sr_in 618 rfl rfl
set_option maxRecDepth 20000 in
theorem qiX4_claim : (.instanceMethod yX4_claim : Cond) ∈ sr_tbl := sr_in 619 rfl rfl
set_option maxRecDepth 20000 in
theorem qsX4_claim : (.selects RX4 yX4_claim yX4_claim : Cond) ∈ sr_tbl := sr_in 620 rfl rfl
set_option maxRecDepth 20000 in
theorem qcX4_claim : (.code yX4_claim cX4_claim 2 (some .int) : Cond) ∈ sr_tbl := sr_in 621 rfl rfl
set_option maxRecDepth 20000 in
theorem qmL_149 : (.methodLink RL 149 yX4_copy : Cond) ∈ sr_tbl := sr_in 622 rfl rfl
set_option maxRecDepth 20000 in
theorem qiX4_copy : (.instanceMethod yX4_copy : Cond) ∈ sr_tbl := sr_in 623 rfl rfl
set_option maxRecDepth 20000 in
theorem qsX4_copy : (.selects RX4 yX4_copy yX4_copy : Cond) ∈ sr_tbl := sr_in 624 rfl rfl
set_option maxRecDepth 20000 in
theorem qcX4_copy : (.code yX4_copy cX4_copy 2 (some .int) : Cond) ∈ sr_tbl := sr_in 625 rfl rfl
set_option maxRecDepth 20000 in
theorem qmL_153 : (.methodLink RL 153 yX4_alter : Cond) ∈ sr_tbl := sr_in 626 rfl rfl
set_option maxRecDepth 20000 in
theorem qiX4_alter : (.instanceMethod yX4_alter : Cond) ∈ sr_tbl := sr_in 627 rfl rfl
set_option maxRecDepth 20000 in
theorem qsX4_alter : (.selects RX4 yX4_alter yX4_alter : Cond) ∈ sr_tbl := sr_in 628 rfl rfl
set_option maxRecDepth 20000 in
theorem qcX4_alter : (.code yX4_alter cX4_alter 3 (some .int) : Cond) ∈ sr_tbl := sr_in 629 rfl rfl
set_option maxRecDepth 20000 in
theorem qmL_157 : (.methodLink RL 157 yX4_unclaim : Cond) ∈ sr_tbl := sr_in 630 rfl rfl
set_option maxRecDepth 20000 in
theorem qiX4_unclaim : (.instanceMethod yX4_unclaim : Cond) ∈ sr_tbl := sr_in 631 rfl rfl
set_option maxRecDepth 20000 in
theorem qsX4_unclaim : (.selects RX4 yX4_unclaim yX4_unclaim : Cond) ∈ sr_tbl := sr_in 632 rfl rfl
set_option maxRecDepth 20000 in
theorem qcX4_unclaim : (.code yX4_unclaim cX4_unclaim 2 (some .int) : Cond) ∈ sr_tbl := sr_in 633 rfl rfl
set_option maxRecDepth 20000 in
theorem qmL_161 : (.methodLink RL 161 yX4_check : Cond) ∈ sr_tbl := sr_in 634 rfl rfl
set_option maxRecDepth 20000 in
theorem qiX4_check : (.instanceMethod yX4_check : Cond) ∈ sr_tbl := sr_in 635 rfl rfl
set_option maxRecDepth 20000 in
theorem qsX4_check : (.selects RX4 yX4_check yX4_check : Cond) ∈ sr_tbl := sr_in 636 rfl rfl
set_option maxRecDepth 20000 in
theorem qcX4_check : (.code yX4_check cX4_check 2 (some .int) : Cond) ∈ sr_tbl := sr_in 637 rfl rfl
set_option maxRecDepth 20000 in
theorem qwL_10 : (.classLink RL 10 RX5 : Cond) ∈ sr_tbl := sr_in 638 rfl rfl
set_option maxRecDepth 20000 in
theorem qyX5 : (.instantiable RX5 33 : Cond) ∈ sr_tbl := sr_in 639 rfl rfl
set_option maxRecDepth 20000 in
theorem qmL_12 : (.methodLink RL 12 yX5_init : Cond) ∈ sr_tbl := sr_in 640 rfl rfl
set_option maxRecDepth 20000 in
theorem qiX5_init : (.instanceMethod yX5_init : Cond) ∈ sr_tbl := sr_in 641 rfl rfl
set_option maxRecDepth 20000 in
theorem qcX5_init : (.code yX5_init cX5_init 2 (none) : Cond) ∈ sr_tbl := sr_in 642 rfl rfl
set_option maxRecDepth 20000 in
theorem qfX5_88 : (.fieldLink RX5 88 RX5 (TX5 0).2.1 (TX5 0).2.2.1 : Cond) ∈ sr_tbl := sr_in 644 rfl rfl
set_option maxRecDepth 20000 in
theorem qfX5_7 : (.fieldLink RX5 7 RX5 (TX5 1).2.1 (TX5 1).2.2.1 : Cond) ∈ sr_tbl := sr_in 645 rfl rfl
set_option maxRecDepth 20000 in
theorem qfX5_13 : (.fieldLink RX5 13 RX5 (TX5 2).2.1 (TX5 2).2.2.1 : Cond) ∈ sr_tbl := sr_in 646 rfl rfl
set_option maxRecDepth 20000 in
theorem qfX5_92 : (.fieldLink RX5 92 RX5 (TX5 3).2.1 (TX5 3).2.2.1 : Cond) ∈ sr_tbl := sr_in 647 rfl rfl
set_option maxRecDepth 20000 in
theorem qfX5_17 : (.fieldLink RX5 17 RX5 (TX5 4).2.1 (TX5 4).2.2.1 : Cond) ∈ sr_tbl := sr_in 648 rfl rfl
set_option maxRecDepth 20000 in
theorem qfX5_20 : (.fieldLink RX5 20 RX5 (TX5 5).2.1 (TX5 5).2.2.1 : Cond) ∈ sr_tbl := sr_in 649 rfl rfl
set_option maxRecDepth 20000 in
theorem qfX5_23 : (.fieldLink RX5 23 RX5 (TX5 6).2.1 (TX5 6).2.2.1 : Cond) ∈ sr_tbl := sr_in 650 rfl rfl
set_option maxRecDepth 20000 in
theorem qfX5_26 : (.fieldLink RX5 26 RX5 (TX5 7).2.1 (TX5 7).2.2.1 : Cond) ∈ sr_tbl := sr_in 651 rfl rfl
set_option maxRecDepth 20000 in
theorem qfX5_107 : (.fieldLink RX5 107 RX5 (TX5 8).2.1 (TX5 8).2.2.1 : Cond) ∈ sr_tbl := sr_in 652 rfl rfl
set_option maxRecDepth 20000 in
theorem qfX5_29 : (.fieldLink RX5 29 RX5 (TX5 9).2.1 (TX5 9).2.2.1 : Cond) ∈ sr_tbl := sr_in 653 rfl rfl
set_option maxRecDepth 20000 in
theorem qfX5_32 : (.fieldLink RX5 32 RX5 (TX5 10).2.1 (TX5 10).2.2.1 : Cond) ∈ sr_tbl := sr_in 654 rfl rfl
set_option maxRecDepth 20000 in
theorem qfX5_35 : (.fieldLink RX5 35 RX5 (TX5 11).2.1 (TX5 11).2.2.1 : Cond) ∈ sr_tbl := sr_in 655 rfl rfl
set_option maxRecDepth 20000 in
theorem qfX5_39 : (.fieldLink RX5 39 RX5 (TX5 12).2.1 (TX5 12).2.2.1 : Cond) ∈ sr_tbl := sr_in 656 rfl rfl
set_option maxRecDepth 20000 in
theorem qfX5_95 : (.fieldLink RX5 95 RX5 (TX5 13).2.1 (TX5 13).2.2.1 : Cond) ∈ sr_tbl := sr_in 657 rfl rfl
set_option maxRecDepth 20000 in
theorem qfX5_152 : (.fieldLink RX5 152 RX5 (TX5 14).2.1 (TX5 14).2.2.1 : Cond) ∈ sr_tbl := sr_in 658 rfl rfl
set_option maxRecDepth 20000 in
theorem qfX5_43 : (.fieldLink RX5 43 RX5 (TX5 15).2.1 (TX5 15).2.2.1 : Cond) ∈ sr_tbl := sr_in 659 rfl rfl
set_option maxRecDepth 20000 in
theorem qfX5_46 : (.fieldLink RX5 46 RX5 (TX5 16).2.1 (TX5 16).2.2.1 : Cond) ∈ sr_tbl := sr_in 660 rfl rfl
set_option maxRecDepth 20000 in
theorem qfX5_49 : (.fieldLink RX5 49 RX5 (TX5 17).2.1 (TX5 17).2.2.1 : Cond) ∈ sr_tbl := sr_in 661 rfl rfl
set_option maxRecDepth 20000 in
theorem qfX5_52 : (.fieldLink RX5 52 RX5 (TX5 18).2.1 (TX5 18).2.2.1 : Cond) ∈ sr_tbl := sr_in 662 rfl rfl
set_option maxRecDepth 20000 in
theorem qfX5_185 : (.fieldLink RX5 185 RX5 (TX5 19).2.1 (TX5 19).2.2.1 : Cond) ∈ sr_tbl := sr_in 663 rfl rfl
set_option maxRecDepth 20000 in
theorem qfX5_55 : (.fieldLink RX5 55 RX5 (TX5 20).2.1 (TX5 20).2.2.1 : Cond) ∈ sr_tbl := sr_in 664 rfl rfl
set_option maxRecDepth 20000 in
theorem qfX5_58 : (.fieldLink RX5 58 RX5 (TX5 21).2.1 (TX5 21).2.2.1 : Cond) ∈ sr_tbl := sr_in 665 rfl rfl
set_option maxRecDepth 20000 in
theorem qfX5_61 : (.fieldLink RX5 61 RX5 (TX5 22).2.1 (TX5 22).2.2.1 : Cond) ∈ sr_tbl := sr_in 666 rfl rfl
set_option maxRecDepth 20000 in
theorem qfX5_64 : (.fieldLink RX5 64 RX5 (TX5 23).2.1 (TX5 23).2.2.1 : Cond) ∈ sr_tbl := sr_in 667 rfl rfl
set_option maxRecDepth 20000 in
theorem qfX5_67 : (.fieldLink RX5 67 RX5 (TX5 24).2.1 (TX5 24).2.2.1 : Cond) ∈ sr_tbl := sr_in 668 rfl rfl
set_option maxRecDepth 20000 in
theorem qfX5_179 : (.fieldLink RX5 179 RX5 (TX5 25).2.1 (TX5 25).2.2.1 : Cond) ∈ sr_tbl := sr_in 669 rfl rfl
set_option maxRecDepth 20000 in
theorem qfX5_70 : (.fieldLink RX5 70 RX5 (TX5 26).2.1 (TX5 26).2.2.1 : Cond) ∈ sr_tbl := sr_in 670 rfl rfl
set_option maxRecDepth 20000 in
theorem qfX5_73 : (.fieldLink RX5 73 RX5 (TX5 27).2.1 (TX5 27).2.2.1 : Cond) ∈ sr_tbl := sr_in 671 rfl rfl
set_option maxRecDepth 20000 in
theorem qfX5_76 : (.fieldLink RX5 76 RX5 (TX5 28).2.1 (TX5 28).2.2.1 : Cond) ∈ sr_tbl := sr_in 672 rfl rfl
set_option maxRecDepth 20000 in
theorem qfX5_79 : (.fieldLink RX5 79 RX5 (TX5 29).2.1 (TX5 29).2.2.1 : Cond) ∈ sr_tbl := sr_in 673 rfl rfl
set_option maxRecDepth 20000 in
theorem qfX5_82 : (.fieldLink RX5 82 RX5 (TX5 30).2.1 (TX5 30).2.2.1 : Cond) ∈ sr_tbl := sr_in 674 rfl rfl
set_option maxRecDepth 20000 in
theorem qfX5_85 : (.fieldLink RX5 85 RX5 (TX5 31).2.1 (TX5 31).2.2.1 : Cond) ∈ sr_tbl := sr_in 675 rfl rfl
set_option maxRecDepth 20000 in
theorem qfX5_209 : (.fieldLink RX5 209 RX5 (TX5 32).2.1 (TX5 32).2.2.1 : Cond) ∈ sr_tbl := sr_in 676 rfl rfl
set_option maxRecDepth 20000 in
theorem qa_double : (.arrayClass .double : Cond) ∈ sr_tbl := sr_in 744 rfl rfl
set_option maxRecDepth 20000 in
theorem qmL_17 : (.methodLink RL 17 yX5_pore : Cond) ∈ sr_tbl := sr_in 745 rfl rfl
set_option maxRecDepth 20000 in
theorem qiX5_pore : (.instanceMethod yX5_pore : Cond) ∈ sr_tbl := sr_in 746 rfl rfl
set_option maxRecDepth 20000 in
theorem qsX5_pore : (.selects RX5 yX5_pore yX5_pore : Cond) ∈ sr_tbl := sr_in 747 rfl rfl
set_option maxRecDepth 20000 in
theorem qcX5_pore : (.code yX5_pore cX5_pore 2 (some .int) : Cond) ∈ sr_tbl := sr_in 748 rfl rfl
set_option maxRecDepth 20000 in
theorem qmL_22 : (.methodLink RL 22 yX5_throat : Cond) ∈ sr_tbl := sr_in 749 rfl rfl
set_option maxRecDepth 20000 in
theorem qiX5_throat : (.instanceMethod yX5_throat : Cond) ∈ sr_tbl := sr_in 750 rfl rfl
set_option maxRecDepth 20000 in
theorem qsX5_throat : (.selects RX5 yX5_throat yX5_throat : Cond) ∈ sr_tbl := sr_in 751 rfl rfl
set_option maxRecDepth 20000 in
theorem qcX5_throat : (.code yX5_throat cX5_throat 3 (some .int) : Cond) ∈ sr_tbl := sr_in 752 rfl rfl
set_option maxRecDepth 20000 in
theorem qmX5_99 : (.methodLink RX5 99 yX5_isPore : Cond) ∈ sr_tbl := sr_in 753 rfl rfl
set_option maxRecDepth 20000 in
theorem qiX5_isPore : (.instanceMethod yX5_isPore : Cond) ∈ sr_tbl := sr_in 755 rfl rfl
set_option maxRecDepth 20000 in
theorem qcX5_isPore : (.code yX5_isPore cX5_isPore 2 (some .boolean) : Cond) ∈ sr_tbl := sr_in 756 rfl rfl
set_option maxRecDepth 20000 in
theorem qmL_26 : (.methodLink RL 26 yX5_hinder : Cond) ∈ sr_tbl := sr_in 757 rfl rfl
set_option maxRecDepth 20000 in
theorem qiX5_hinder : (.instanceMethod yX5_hinder : Cond) ∈ sr_tbl := sr_in 758 rfl rfl
set_option maxRecDepth 20000 in
theorem qsX5_hinder : (.selects RX5 yX5_hinder yX5_hinder : Cond) ∈ sr_tbl := sr_in 759 rfl rfl
set_option maxRecDepth 20000 in
theorem qcX5_hinder : (.code yX5_hinder cX5_hinder 3 (some .int) : Cond) ∈ sr_tbl := sr_in 760 rfl rfl
set_option maxRecDepth 20000 in
theorem qmX5_103 : (.methodLink RX5 103 yX5_isThroat : Cond) ∈ sr_tbl := sr_in 761 rfl rfl
set_option maxRecDepth 20000 in
theorem qiX5_isThroat : (.instanceMethod yX5_isThroat : Cond) ∈ sr_tbl := sr_in 763 rfl rfl
set_option maxRecDepth 20000 in
theorem qcX5_isThroat : (.code yX5_isThroat cX5_isThroat 2 (some .boolean) : Cond) ∈ sr_tbl := sr_in 764 rfl rfl
set_option maxRecDepth 20000 in
theorem qkX5_106 : (.constant RX5 106 (1000000000) : Cond) ∈ sr_tbl := sr_in 765 rfl rfl
set_option maxRecDepth 20000 in
theorem qmL_31 : (.methodLink RL 31 yX5_shut : Cond) ∈ sr_tbl := sr_in 766 rfl rfl
set_option maxRecDepth 20000 in
theorem qiX5_shut : (.instanceMethod yX5_shut : Cond) ∈ sr_tbl := sr_in 767 rfl rfl
set_option maxRecDepth 20000 in
theorem qsX5_shut : (.selects RX5 yX5_shut yX5_shut : Cond) ∈ sr_tbl := sr_in 768 rfl rfl
set_option maxRecDepth 20000 in
theorem qcX5_shut : (.code yX5_shut cX5_shut 4 (some .int) : Cond) ∈ sr_tbl := sr_in 769 rfl rfl
set_option maxRecDepth 20000 in
theorem qmL_35 : (.methodLink RL 35 yX5_inlet : Cond) ∈ sr_tbl := sr_in 770 rfl rfl
set_option maxRecDepth 20000 in
theorem qiX5_inlet : (.instanceMethod yX5_inlet : Cond) ∈ sr_tbl := sr_in 771 rfl rfl
set_option maxRecDepth 20000 in
theorem qsX5_inlet : (.selects RX5 yX5_inlet yX5_inlet : Cond) ∈ sr_tbl := sr_in 772 rfl rfl
set_option maxRecDepth 20000 in
theorem qcX5_inlet : (.code yX5_inlet cX5_inlet 4 (some .int) : Cond) ∈ sr_tbl := sr_in 773 rfl rfl
set_option maxRecDepth 20000 in
theorem qmL_40 : (.methodLink RL 40 yX5_trapping : Cond) ∈ sr_tbl := sr_in 774 rfl rfl
set_option maxRecDepth 20000 in
theorem qiX5_trapping : (.instanceMethod yX5_trapping : Cond) ∈ sr_tbl := sr_in 775 rfl rfl
set_option maxRecDepth 20000 in
theorem qsX5_trapping : (.selects RX5 yX5_trapping yX5_trapping : Cond) ∈ sr_tbl := sr_in 776 rfl rfl
set_option maxRecDepth 20000 in
theorem qcX5_trapping : (.code yX5_trapping cX5_trapping 3 (some .int) : Cond) ∈ sr_tbl := sr_in 777 rfl rfl
set_option maxRecDepth 20000 in
theorem qmL_44 : (.methodLink RL 44 yX5_about : Cond) ∈ sr_tbl := sr_in 778 rfl rfl
set_option maxRecDepth 20000 in
theorem qiX5_about : (.instanceMethod yX5_about : Cond) ∈ sr_tbl := sr_in 779 rfl rfl
set_option maxRecDepth 20000 in
theorem qsX5_about : (.selects RX5 yX5_about yX5_about : Cond) ∈ sr_tbl := sr_in 780 rfl rfl
set_option maxRecDepth 20000 in
theorem qcX5_about : (.code yX5_about cX5_about 3 (some .int) : Cond) ∈ sr_tbl := sr_in 781 rfl rfl
set_option maxRecDepth 20000 in
theorem qmX5_114 : (.methodLink RX5 114 yX5_rank : Cond) ∈ sr_tbl := sr_in 782 rfl rfl
set_option maxRecDepth 20000 in
theorem qiX5_rank : (.instanceMethod yX5_rank : Cond) ∈ sr_tbl := sr_in 784 rfl rfl
set_option maxRecDepth 20000 in
theorem qcX5_rank : (.code yX5_rank cX5_rank 4 (some .int) : Cond) ∈ sr_tbl := sr_in 785 rfl rfl
set_option maxRecDepth 20000 in
theorem qmX5_110 : (.methodLink RX5 110 yX5_isLess : Cond) ∈ sr_tbl := sr_in 786 rfl rfl
set_option maxRecDepth 20000 in
theorem qiX5_isLess : (.instanceMethod yX5_isLess : Cond) ∈ sr_tbl := sr_in 788 rfl rfl
set_option maxRecDepth 20000 in
theorem qcX5_isLess : (.code yX5_isLess cX5_isLess 3 (some .boolean) : Cond) ∈ sr_tbl := sr_in 789 rfl rfl
set_option maxRecDepth 20000 in
theorem qmL_48 : (.methodLink RL 48 yX5_of : Cond) ∈ sr_tbl := sr_in 790 rfl rfl
set_option maxRecDepth 20000 in
theorem qiX5_of : (.instanceMethod yX5_of : Cond) ∈ sr_tbl := sr_in 791 rfl rfl
set_option maxRecDepth 20000 in
theorem qsX5_of : (.selects RX5 yX5_of yX5_of : Cond) ∈ sr_tbl := sr_in 792 rfl rfl
set_option maxRecDepth 20000 in
theorem qcX5_of : (.code yX5_of cX5_of 5 (some .int) : Cond) ∈ sr_tbl := sr_in 793 rfl rfl
set_option maxRecDepth 20000 in
theorem qmL_52 : (.methodLink RL 52 yX5_ranked : Cond) ∈ sr_tbl := sr_in 794 rfl rfl
set_option maxRecDepth 20000 in
theorem qiX5_ranked : (.instanceMethod yX5_ranked : Cond) ∈ sr_tbl := sr_in 795 rfl rfl
set_option maxRecDepth 20000 in
theorem qsX5_ranked : (.selects RX5 yX5_ranked yX5_ranked : Cond) ∈ sr_tbl := sr_in 796 rfl rfl
set_option maxRecDepth 20000 in
theorem qcX5_ranked : (.code yX5_ranked cX5_ranked 3 (some .int) : Cond) ∈ sr_tbl := sr_in 797 rfl rfl
set_option maxRecDepth 20000 in
theorem qmL_57 : (.methodLink RL 57 yX5_core : Cond) ∈ sr_tbl := sr_in 798 rfl rfl
set_option maxRecDepth 20000 in
theorem qiX5_core : (.instanceMethod yX5_core : Cond) ∈ sr_tbl := sr_in 799 rfl rfl
set_option maxRecDepth 20000 in
theorem qsX5_core : (.selects RX5 yX5_core yX5_core : Cond) ∈ sr_tbl := sr_in 800 rfl rfl
set_option maxRecDepth 20000 in
theorem qcX5_core : (.code yX5_core cX5_core 5 (some .int) : Cond) ∈ sr_tbl := sr_in 801 rfl rfl
set_option maxRecDepth 20000 in
theorem qmX5_118 : (.methodLink RX5 118 yX5_isCore : Cond) ∈ sr_tbl := sr_in 802 rfl rfl
set_option maxRecDepth 20000 in
theorem qtX5_isCore : (.static yX5_isCore : Cond) ∈ sr_tbl := sr_in 803 rfl rfl
set_option maxRecDepth 20000 in
theorem qcX5_isCore : (.code yX5_isCore cX5_isCore 1 (some .boolean) : Cond) ∈ sr_tbl := sr_in 804 rfl rfl
set_option maxRecDepth 20000 in
theorem qmL_64 : (.methodLink RL 64 yX5_cell : Cond) ∈ sr_tbl := sr_in 805 rfl rfl
set_option maxRecDepth 20000 in
theorem qiX5_cell : (.instanceMethod yX5_cell : Cond) ∈ sr_tbl := sr_in 806 rfl rfl
set_option maxRecDepth 20000 in
theorem qsX5_cell : (.selects RX5 yX5_cell yX5_cell : Cond) ∈ sr_tbl := sr_in 807 rfl rfl
set_option maxRecDepth 20000 in
theorem qcX5_cell : (.code yX5_cell cX5_cell 8 (some .int) : Cond) ∈ sr_tbl := sr_in 808 rfl rfl
set_option maxRecDepth 20000 in
theorem qmL_68 : (.methodLink RL 68 yX5_wild : Cond) ∈ sr_tbl := sr_in 809 rfl rfl
set_option maxRecDepth 20000 in
theorem qiX5_wild : (.instanceMethod yX5_wild : Cond) ∈ sr_tbl := sr_in 810 rfl rfl
set_option maxRecDepth 20000 in
theorem qsX5_wild : (.selects RX5 yX5_wild yX5_wild : Cond) ∈ sr_tbl := sr_in 811 rfl rfl
set_option maxRecDepth 20000 in
theorem qcX5_wild : (.code yX5_wild cX5_wild 4 (some .int) : Cond) ∈ sr_tbl := sr_in 812 rfl rfl
set_option maxRecDepth 20000 in
theorem qkX5_123 : (.constantDouble RX5 123 (9221120237041090560) : Cond) ∈ sr_tbl := sr_in 813 rfl rfl
set_option maxRecDepth 20000 in
theorem qkX5_125 : (.constantDouble RX5 125 (9218868437227405312) : Cond) ∈ sr_tbl := sr_in 814 rfl rfl
set_option maxRecDepth 20000 in
theorem qkX5_127 : (.constantDouble RX5 127 (18442240474082181120) : Cond) ∈ sr_tbl := sr_in 815 rfl rfl
set_option maxRecDepth 20000 in
theorem qkX5_129 : (.constantDouble RX5 129 (9223372036854775808) : Cond) ∈ sr_tbl := sr_in 816 rfl rfl
set_option maxRecDepth 20000 in
theorem qmL_73 : (.methodLink RL 73 yX5_splice : Cond) ∈ sr_tbl := sr_in 817 rfl rfl
set_option maxRecDepth 20000 in
theorem qiX5_splice : (.instanceMethod yX5_splice : Cond) ∈ sr_tbl := sr_in 818 rfl rfl
set_option maxRecDepth 20000 in
theorem qsX5_splice : (.selects RX5 yX5_splice yX5_splice : Cond) ∈ sr_tbl := sr_in 819 rfl rfl
set_option maxRecDepth 20000 in
theorem qcX5_splice : (.code yX5_splice cX5_splice 7 (some .int) : Cond) ∈ sr_tbl := sr_in 820 rfl rfl
set_option maxRecDepth 20000 in
theorem qmX5_131 : (.methodLink RX5 131 yX5_hasRow : Cond) ∈ sr_tbl := sr_in 821 rfl rfl
set_option maxRecDepth 20000 in
theorem qiX5_hasRow : (.instanceMethod yX5_hasRow : Cond) ∈ sr_tbl := sr_in 823 rfl rfl
set_option maxRecDepth 20000 in
theorem qcX5_hasRow : (.code yX5_hasRow cX5_hasRow 4 (some .boolean) : Cond) ∈ sr_tbl := sr_in 824 rfl rfl
set_option maxRecDepth 20000 in
theorem qmL_77 : (.methodLink RL 77 yX5_lose : Cond) ∈ sr_tbl := sr_in 825 rfl rfl
set_option maxRecDepth 20000 in
theorem qiX5_lose : (.instanceMethod yX5_lose : Cond) ∈ sr_tbl := sr_in 826 rfl rfl
set_option maxRecDepth 20000 in
theorem qsX5_lose : (.selects RX5 yX5_lose yX5_lose : Cond) ∈ sr_tbl := sr_in 827 rfl rfl
set_option maxRecDepth 20000 in
theorem qcX5_lose : (.code yX5_lose cX5_lose 2 (some .int) : Cond) ∈ sr_tbl := sr_in 828 rfl rfl
set_option maxRecDepth 20000 in
theorem qmL_82 : (.methodLink RL 82 yX5_told : Cond) ∈ sr_tbl := sr_in 829 rfl rfl
set_option maxRecDepth 20000 in
theorem qiX5_told : (.instanceMethod yX5_told : Cond) ∈ sr_tbl := sr_in 830 rfl rfl
set_option maxRecDepth 20000 in
theorem qsX5_told : (.selects RX5 yX5_told yX5_told : Cond) ∈ sr_tbl := sr_in 831 rfl rfl
set_option maxRecDepth 20000 in
theorem qcX5_told : (.code yX5_told cX5_told 3 (some .long) : Cond) ∈ sr_tbl := sr_in 832 rfl rfl
set_option maxRecDepth 20000 in
theorem qkX5_135 : (.constantLong RX5 135 (9223372036854775807) : Cond) ∈ sr_tbl := sr_in 833 rfl rfl
set_option maxRecDepth 20000 in
theorem qmX5_137 : (.methodLink RX5 137 yX5_wholeOf : Cond) ∈ sr_tbl := sr_in 834 rfl rfl
set_option maxRecDepth 20000 in
theorem qiX5_wholeOf : (.instanceMethod yX5_wholeOf : Cond) ∈ sr_tbl := sr_in 836 rfl rfl
set_option maxRecDepth 20000 in
theorem qcX5_wholeOf : (.code yX5_wholeOf cX5_wholeOf 4 (some .long) : Cond) ∈ sr_tbl := sr_in 837 rfl rfl
set_option maxRecDepth 20000 in
theorem qmL_87 : (.methodLink RL 87 yX5_pour : Cond) ∈ sr_tbl := sr_in 838 rfl rfl
set_option maxRecDepth 20000 in
theorem qiX5_pour : (.instanceMethod yX5_pour : Cond) ∈ sr_tbl := sr_in 839 rfl rfl
set_option maxRecDepth 20000 in
theorem qsX5_pour : (.selects RX5 yX5_pour yX5_pour : Cond) ∈ sr_tbl := sr_in 840 rfl rfl
set_option maxRecDepth 20000 in
theorem qcX5_pour : (.code yX5_pour cX5_pour 12 (some .int) : Cond) ∈ sr_tbl := sr_in 841 rfl rfl
set_option maxRecDepth 20000 in
theorem qkX5_141 : (.constantLong RX5 141 (1000000000) : Cond) ∈ sr_tbl := sr_in 842 rfl rfl
set_option maxRecDepth 20000 in
theorem qmL_92 : (.methodLink RL 92 yX5_begin : Cond) ∈ sr_tbl := sr_in 843 rfl rfl
set_option maxRecDepth 20000 in
theorem qiX5_begin : (.instanceMethod yX5_begin : Cond) ∈ sr_tbl := sr_in 844 rfl rfl
set_option maxRecDepth 20000 in
theorem qsX5_begin : (.selects RX5 yX5_begin yX5_begin : Cond) ∈ sr_tbl := sr_in 845 rfl rfl
set_option maxRecDepth 20000 in
theorem qcX5_begin : (.code yX5_begin cX5_begin 1 (some .int) : Cond) ∈ sr_tbl := sr_in 846 rfl rfl
set_option maxRecDepth 20000 in
theorem qmX5_158 : (.methodLink RX5 158 yX5_start : Cond) ∈ sr_tbl := sr_in 847 rfl rfl
set_option maxRecDepth 20000 in
theorem qiX5_start : (.instanceMethod yX5_start : Cond) ∈ sr_tbl := sr_in 849 rfl rfl
set_option maxRecDepth 20000 in
theorem qcX5_start : (.code yX5_start cX5_start 2 (none) : Cond) ∈ sr_tbl := sr_in 850 rfl rfl
set_option maxRecDepth 20000 in
theorem qmX5_155 : (.methodLink RX5 155 yX5_trap : Cond) ∈ sr_tbl := sr_in 851 rfl rfl
set_option maxRecDepth 20000 in
theorem qiX5_trap : (.instanceMethod yX5_trap : Cond) ∈ sr_tbl := sr_in 853 rfl rfl
set_option maxRecDepth 20000 in
theorem qcX5_trap : (.code yX5_trap cX5_trap 4 (none) : Cond) ∈ sr_tbl := sr_in 854 rfl rfl
set_option maxRecDepth 20000 in
theorem qmX5_143 : (.methodLink RX5 143 yX5_isFilled : Cond) ∈ sr_tbl := sr_in 855 rfl rfl
set_option maxRecDepth 20000 in
theorem qiX5_isFilled : (.instanceMethod yX5_isFilled : Cond) ∈ sr_tbl := sr_in 857 rfl rfl
set_option maxRecDepth 20000 in
theorem qcX5_isFilled : (.code yX5_isFilled cX5_isFilled 2 (some .boolean) : Cond) ∈ sr_tbl := sr_in 858 rfl rfl
set_option maxRecDepth 20000 in
theorem qmX5_146 : (.methodLink RX5 146 yX5_isFree : Cond) ∈ sr_tbl := sr_in 859 rfl rfl
set_option maxRecDepth 20000 in
theorem qiX5_isFree : (.instanceMethod yX5_isFree : Cond) ∈ sr_tbl := sr_in 861 rfl rfl
set_option maxRecDepth 20000 in
theorem qcX5_isFree : (.code yX5_isFree cX5_isFree 2 (some .boolean) : Cond) ∈ sr_tbl := sr_in 862 rfl rfl
set_option maxRecDepth 20000 in
theorem qmX5_161 : (.methodLink RX5 161 yX5_many : Cond) ∈ sr_tbl := sr_in 863 rfl rfl
set_option maxRecDepth 20000 in
theorem qiX5_many : (.instanceMethod yX5_many : Cond) ∈ sr_tbl := sr_in 864 rfl rfl
set_option maxRecDepth 20000 in
theorem qsX5_many : (.selects RX5 yX5_many yX5_many : Cond) ∈ sr_tbl := sr_in 865 rfl rfl
set_option maxRecDepth 20000 in
theorem qcX5_many : (.code yX5_many cX5_many 4 (some .int) : Cond) ∈ sr_tbl := sr_in 866 rfl rfl
set_option maxRecDepth 20000 in
theorem qmX5_188 : (.methodLink RX5 188 yX5_countPores : Cond) ∈ sr_tbl := sr_in 867 rfl rfl
set_option maxRecDepth 20000 in
theorem qiX5_countPores : (.instanceMethod yX5_countPores : Cond) ∈ sr_tbl := sr_in 869 rfl rfl
set_option maxRecDepth 20000 in
theorem qcX5_countPores : (.code yX5_countPores cX5_countPores 4 (some .int) : Cond) ∈ sr_tbl := sr_in 870 rfl rfl
set_option maxRecDepth 20000 in
theorem qmX5_191 : (.methodLink RX5 191 yX5_tellLakes : Cond) ∈ sr_tbl := sr_in 871 rfl rfl
set_option maxRecDepth 20000 in
theorem qiX5_tellLakes : (.instanceMethod yX5_tellLakes : Cond) ∈ sr_tbl := sr_in 873 rfl rfl
set_option maxRecDepth 20000 in
theorem qcX5_tellLakes : (.code yX5_tellLakes cX5_tellLakes 3 (none) : Cond) ∈ sr_tbl := sr_in 874 rfl rfl
set_option maxRecDepth 20000 in
theorem qmX5_182 : (.methodLink RX5 182 yX5_spreadLake : Cond) ∈ sr_tbl := sr_in 875 rfl rfl
set_option maxRecDepth 20000 in
theorem qiX5_spreadLake : (.instanceMethod yX5_spreadLake : Cond) ∈ sr_tbl := sr_in 877 rfl rfl
set_option maxRecDepth 20000 in
theorem qcX5_spreadLake : (.code yX5_spreadLake cX5_spreadLake 7 (none) : Cond) ∈ sr_tbl := sr_in 878 rfl rfl
set_option maxRecDepth 20000 in
theorem qmX5_164 : (.methodLink RX5 164 yX5_isCandidate : Cond) ∈ sr_tbl := sr_in 879 rfl rfl
set_option maxRecDepth 20000 in
theorem qiX5_isCandidate : (.instanceMethod yX5_isCandidate : Cond) ∈ sr_tbl := sr_in 881 rfl rfl
set_option maxRecDepth 20000 in
theorem qcX5_isCandidate : (.code yX5_isCandidate cX5_isCandidate 2 (some .boolean) : Cond) ∈ sr_tbl := sr_in 882 rfl rfl
set_option maxRecDepth 20000 in
theorem qmX5_149 : (.methodLink RX5 149 yX5_leads : Cond) ∈ sr_tbl := sr_in 883 rfl rfl
set_option maxRecDepth 20000 in
theorem qiX5_leads : (.instanceMethod yX5_leads : Cond) ∈ sr_tbl := sr_in 885 rfl rfl
set_option maxRecDepth 20000 in
theorem qcX5_leads : (.code yX5_leads cX5_leads 3 (some .boolean) : Cond) ∈ sr_tbl := sr_in 886 rfl rfl
set_option maxRecDepth 20000 in
theorem qmL_96 : (.methodLink RL 96 yX5_step : Cond) ∈ sr_tbl := sr_in 887 rfl rfl
set_option maxRecDepth 20000 in
theorem qiX5_step : (.instanceMethod yX5_step : Cond) ∈ sr_tbl := sr_in 888 rfl rfl
set_option maxRecDepth 20000 in
theorem qsX5_step : (.selects RX5 yX5_step yX5_step : Cond) ∈ sr_tbl := sr_in 889 rfl rfl
set_option maxRecDepth 20000 in
theorem qcX5_step : (.code yX5_step cX5_step 2 (some .int) : Cond) ∈ sr_tbl := sr_in 890 rfl rfl
set_option maxRecDepth 20000 in
theorem qmX5_171 : (.methodLink RX5 171 yX5_nextThroat : Cond) ∈ sr_tbl := sr_in 891 rfl rfl
set_option maxRecDepth 20000 in
theorem qiX5_nextThroat : (.instanceMethod yX5_nextThroat : Cond) ∈ sr_tbl := sr_in 893 rfl rfl
set_option maxRecDepth 20000 in
theorem qcX5_nextThroat : (.code yX5_nextThroat cX5_nextThroat 3 (some .int) : Cond) ∈ sr_tbl := sr_in 894 rfl rfl
set_option maxRecDepth 20000 in
theorem qmX5_167 : (.methodLink RX5 167 yX5_bestAt : Cond) ∈ sr_tbl := sr_in 895 rfl rfl
set_option maxRecDepth 20000 in
theorem qiX5_bestAt : (.instanceMethod yX5_bestAt : Cond) ∈ sr_tbl := sr_in 897 rfl rfl
set_option maxRecDepth 20000 in
theorem qcX5_bestAt : (.code yX5_bestAt cX5_bestAt 6 (some .int) : Cond) ∈ sr_tbl := sr_in 898 rfl rfl
set_option maxRecDepth 20000 in
theorem qmX5_175 : (.methodLink RX5 175 yX5_open : Cond) ∈ sr_tbl := sr_in 899 rfl rfl
set_option maxRecDepth 20000 in
theorem qiX5_open : (.instanceMethod yX5_open : Cond) ∈ sr_tbl := sr_in 901 rfl rfl
set_option maxRecDepth 20000 in
theorem qcX5_open : (.code yX5_open cX5_open 3 (none) : Cond) ∈ sr_tbl := sr_in 902 rfl rfl
set_option maxRecDepth 20000 in
theorem qmL_100 : (.methodLink RL 100 yX5_run : Cond) ∈ sr_tbl := sr_in 903 rfl rfl
set_option maxRecDepth 20000 in
theorem qiX5_run : (.instanceMethod yX5_run : Cond) ∈ sr_tbl := sr_in 904 rfl rfl
set_option maxRecDepth 20000 in
theorem qsX5_run : (.selects RX5 yX5_run yX5_run : Cond) ∈ sr_tbl := sr_in 905 rfl rfl
set_option maxRecDepth 20000 in
theorem qcX5_run : (.code yX5_run cX5_run 4 (some .int) : Cond) ∈ sr_tbl := sr_in 906 rfl rfl
set_option maxRecDepth 20000 in
theorem qmL_104 : (.methodLink RL 104 yX5_undo : Cond) ∈ sr_tbl := sr_in 907 rfl rfl
set_option maxRecDepth 20000 in
theorem qiX5_undo : (.instanceMethod yX5_undo : Cond) ∈ sr_tbl := sr_in 908 rfl rfl
set_option maxRecDepth 20000 in
theorem qsX5_undo : (.selects RX5 yX5_undo yX5_undo : Cond) ∈ sr_tbl := sr_in 909 rfl rfl
set_option maxRecDepth 20000 in
theorem qcX5_undo : (.code yX5_undo cX5_undo 3 (some .int) : Cond) ∈ sr_tbl := sr_in 910 rfl rfl
set_option maxRecDepth 20000 in
theorem qmL_108 : (.methodLink RL 108 yX5_many : Cond) ∈ sr_tbl := sr_in 911 rfl rfl
set_option maxRecDepth 20000 in
theorem qmL_112 : (.methodLink RL 112 yX5_opened : Cond) ∈ sr_tbl := sr_in 912 rfl rfl
set_option maxRecDepth 20000 in
theorem qiX5_opened : (.instanceMethod yX5_opened : Cond) ∈ sr_tbl := sr_in 913 rfl rfl
set_option maxRecDepth 20000 in
theorem qsX5_opened : (.selects RX5 yX5_opened yX5_opened : Cond) ∈ sr_tbl := sr_in 914 rfl rfl
set_option maxRecDepth 20000 in
theorem qcX5_opened : (.code yX5_opened cX5_opened 2 (some .int) : Cond) ∈ sr_tbl := sr_in 915 rfl rfl
set_option maxRecDepth 20000 in
theorem qmL_116 : (.methodLink RL 116 yX5_now : Cond) ∈ sr_tbl := sr_in 916 rfl rfl
set_option maxRecDepth 20000 in
theorem qiX5_now : (.instanceMethod yX5_now : Cond) ∈ sr_tbl := sr_in 917 rfl rfl
set_option maxRecDepth 20000 in
theorem qsX5_now : (.selects RX5 yX5_now yX5_now : Cond) ∈ sr_tbl := sr_in 918 rfl rfl
set_option maxRecDepth 20000 in
theorem qcX5_now : (.code yX5_now cX5_now 3 (some .int) : Cond) ∈ sr_tbl := sr_in 919 rfl rfl
set_option maxRecDepth 20000 in
theorem qmL_120 : (.methodLink RL 120 yX5_front : Cond) ∈ sr_tbl := sr_in 920 rfl rfl
set_option maxRecDepth 20000 in
theorem qiX5_front : (.instanceMethod yX5_front : Cond) ∈ sr_tbl := sr_in 921 rfl rfl
set_option maxRecDepth 20000 in
theorem qsX5_front : (.selects RX5 yX5_front yX5_front : Cond) ∈ sr_tbl := sr_in 922 rfl rfl
set_option maxRecDepth 20000 in
theorem qcX5_front : (.code yX5_front cX5_front 5 (some .int) : Cond) ∈ sr_tbl := sr_in 923 rfl rfl
set_option maxRecDepth 20000 in
theorem qmL_124 : (.methodLink RL 124 yX5_lake : Cond) ∈ sr_tbl := sr_in 924 rfl rfl
set_option maxRecDepth 20000 in
theorem qiX5_lake : (.instanceMethod yX5_lake : Cond) ∈ sr_tbl := sr_in 925 rfl rfl
set_option maxRecDepth 20000 in
theorem qsX5_lake : (.selects RX5 yX5_lake yX5_lake : Cond) ∈ sr_tbl := sr_in 926 rfl rfl
set_option maxRecDepth 20000 in
theorem qcX5_lake : (.code yX5_lake cX5_lake 7 (some .int) : Cond) ∈ sr_tbl := sr_in 927 rfl rfl
set_option maxRecDepth 20000 in
theorem qmL_128 : (.methodLink RL 128 yX5_through : Cond) ∈ sr_tbl := sr_in 928 rfl rfl
set_option maxRecDepth 20000 in
theorem qiX5_through : (.instanceMethod yX5_through : Cond) ∈ sr_tbl := sr_in 929 rfl rfl
set_option maxRecDepth 20000 in
theorem qsX5_through : (.selects RX5 yX5_through yX5_through : Cond) ∈ sr_tbl := sr_in 930 rfl rfl
set_option maxRecDepth 20000 in
theorem qcX5_through : (.code yX5_through cX5_through 3 (some .int) : Cond) ∈ sr_tbl := sr_in 931 rfl rfl
set_option maxRecDepth 20000 in
theorem qmL_132 : (.methodLink RL 132 yX5_worst : Cond) ∈ sr_tbl := sr_in 932 rfl rfl
set_option maxRecDepth 20000 in
theorem qiX5_worst : (.instanceMethod yX5_worst : Cond) ∈ sr_tbl := sr_in 933 rfl rfl
set_option maxRecDepth 20000 in
theorem qsX5_worst : (.selects RX5 yX5_worst yX5_worst : Cond) ∈ sr_tbl := sr_in 934 rfl rfl
set_option maxRecDepth 20000 in
theorem qcX5_worst : (.code yX5_worst cX5_worst 5 (some .int) : Cond) ∈ sr_tbl := sr_in 935 rfl rfl
set_option maxRecDepth 20000 in
theorem qmX5_194 : (.methodLink RX5 194 yX5_plainRun : Cond) ∈ sr_tbl := sr_in 936 rfl rfl
set_option maxRecDepth 20000 in
theorem qiX5_plainRun : (.instanceMethod yX5_plainRun : Cond) ∈ sr_tbl := sr_in 938 rfl rfl
set_option maxRecDepth 20000 in
theorem qcX5_plainRun : (.code yX5_plainRun cX5_plainRun 4 (none) : Cond) ∈ sr_tbl := sr_in 939 rfl rfl
set_option maxRecDepth 20000 in
theorem qmX5_197 : (.methodLink RX5 197 yX5_behind : Cond) ∈ sr_tbl := sr_in 940 rfl rfl
set_option maxRecDepth 20000 in
theorem qiX5_behind : (.instanceMethod yX5_behind : Cond) ∈ sr_tbl := sr_in 942 rfl rfl
set_option maxRecDepth 20000 in
theorem qcX5_behind : (.code yX5_behind cX5_behind 3 (some .int) : Cond) ∈ sr_tbl := sr_in 943 rfl rfl
set_option maxRecDepth 20000 in
theorem qmL_136 : (.methodLink RL 136 yX5_way : Cond) ∈ sr_tbl := sr_in 944 rfl rfl
set_option maxRecDepth 20000 in
theorem qiX5_way : (.instanceMethod yX5_way : Cond) ∈ sr_tbl := sr_in 945 rfl rfl
set_option maxRecDepth 20000 in
theorem qsX5_way : (.selects RX5 yX5_way yX5_way : Cond) ∈ sr_tbl := sr_in 946 rfl rfl
set_option maxRecDepth 20000 in
theorem qcX5_way : (.code yX5_way cX5_way 6 (some .int) : Cond) ∈ sr_tbl := sr_in 947 rfl rfl
set_option maxRecDepth 20000 in
theorem qmL_140 : (.methodLink RL 140 yX5_join : Cond) ∈ sr_tbl := sr_in 948 rfl rfl
set_option maxRecDepth 20000 in
theorem qiX5_join : (.instanceMethod yX5_join : Cond) ∈ sr_tbl := sr_in 949 rfl rfl
set_option maxRecDepth 20000 in
theorem qsX5_join : (.selects RX5 yX5_join yX5_join : Cond) ∈ sr_tbl := sr_in 950 rfl rfl
set_option maxRecDepth 20000 in
theorem qcX5_join : (.code yX5_join cX5_join 5 (some .int) : Cond) ∈ sr_tbl := sr_in 951 rfl rfl
set_option maxRecDepth 20000 in
theorem qmX5_200 : (.methodLink RX5 200 yX5_apart : Cond) ∈ sr_tbl := sr_in 952 rfl rfl
set_option maxRecDepth 20000 in
theorem qiX5_apart : (.instanceMethod yX5_apart : Cond) ∈ sr_tbl := sr_in 954 rfl rfl
set_option maxRecDepth 20000 in
theorem qcX5_apart : (.code yX5_apart cX5_apart 2 (none) : Cond) ∈ sr_tbl := sr_in 955 rfl rfl
set_option maxRecDepth 20000 in
theorem qmX5_203 : (.methodLink RX5 203 yX5_ranked : Cond) ∈ sr_tbl := sr_in 956 rfl rfl
set_option maxRecDepth 20000 in
theorem qmX5_206 : (.methodLink RX5 206 yX5_tie : Cond) ∈ sr_tbl := sr_in 957 rfl rfl
set_option maxRecDepth 20000 in
theorem qiX5_tie : (.instanceMethod yX5_tie : Cond) ∈ sr_tbl := sr_in 959 rfl rfl
set_option maxRecDepth 20000 in
theorem qcX5_tie : (.code yX5_tie cX5_tie 5 (some .boolean) : Cond) ∈ sr_tbl := sr_in 960 rfl rfl
set_option maxRecDepth 20000 in
theorem qmL_144 : (.methodLink RL 144 yX5_tree : Cond) ∈ sr_tbl := sr_in 961 rfl rfl
set_option maxRecDepth 20000 in
theorem qiX5_tree : (.instanceMethod yX5_tree : Cond) ∈ sr_tbl := sr_in 962 rfl rfl
set_option maxRecDepth 20000 in
theorem qsX5_tree : (.selects RX5 yX5_tree yX5_tree : Cond) ∈ sr_tbl := sr_in 963 rfl rfl
set_option maxRecDepth 20000 in
theorem qcX5_tree : (.code yX5_tree cX5_tree 5 (some .int) : Cond) ∈ sr_tbl := sr_in 964 rfl rfl
set_option maxRecDepth 20000 in
theorem qmL_148 : (.methodLink RL 148 yX5_claim : Cond) ∈ sr_tbl := sr_in 965 rfl rfl
set_option maxRecDepth 20000 in
theorem qiX5_claim : (.instanceMethod yX5_claim : Cond) ∈ sr_tbl := sr_in 966 rfl rfl
set_option maxRecDepth 20000 in
theorem qsX5_claim : (.selects RX5 yX5_claim yX5_claim : Cond) ∈ sr_tbl := sr_in 967 rfl rfl
set_option maxRecDepth 20000 in
theorem qcX5_claim : (.code yX5_claim cX5_claim 2 (some .int) : Cond) ∈ sr_tbl := sr_in 968 rfl rfl
set_option maxRecDepth 20000 in
theorem qmL_152 : (.methodLink RL 152 yX5_copy : Cond) ∈ sr_tbl := sr_in 969 rfl rfl
set_option maxRecDepth 20000 in
theorem qiX5_copy : (.instanceMethod yX5_copy : Cond) ∈ sr_tbl := sr_in 970 rfl rfl
set_option maxRecDepth 20000 in
theorem qsX5_copy : (.selects RX5 yX5_copy yX5_copy : Cond) ∈ sr_tbl := sr_in 971 rfl rfl
set_option maxRecDepth 20000 in
theorem qcX5_copy : (.code yX5_copy cX5_copy 2 (some .int) : Cond) ∈ sr_tbl := sr_in 972 rfl rfl
set_option maxRecDepth 20000 in
theorem qmL_156 : (.methodLink RL 156 yX5_alter : Cond) ∈ sr_tbl := sr_in 973 rfl rfl
set_option maxRecDepth 20000 in
theorem qiX5_alter : (.instanceMethod yX5_alter : Cond) ∈ sr_tbl := sr_in 974 rfl rfl
set_option maxRecDepth 20000 in
theorem qsX5_alter : (.selects RX5 yX5_alter yX5_alter : Cond) ∈ sr_tbl := sr_in 975 rfl rfl
set_option maxRecDepth 20000 in
theorem qcX5_alter : (.code yX5_alter cX5_alter 3 (some .int) : Cond) ∈ sr_tbl := sr_in 976 rfl rfl
set_option maxRecDepth 20000 in
theorem qmL_160 : (.methodLink RL 160 yX5_unclaim : Cond) ∈ sr_tbl := sr_in 977 rfl rfl
set_option maxRecDepth 20000 in
theorem qiX5_unclaim : (.instanceMethod yX5_unclaim : Cond) ∈ sr_tbl := sr_in 978 rfl rfl
set_option maxRecDepth 20000 in
theorem qsX5_unclaim : (.selects RX5 yX5_unclaim yX5_unclaim : Cond) ∈ sr_tbl := sr_in 979 rfl rfl
set_option maxRecDepth 20000 in
theorem qcX5_unclaim : (.code yX5_unclaim cX5_unclaim 2 (some .int) : Cond) ∈ sr_tbl := sr_in 980 rfl rfl
set_option maxRecDepth 20000 in
theorem qmL_164 : (.methodLink RL 164 yX5_check : Cond) ∈ sr_tbl := sr_in 981 rfl rfl
set_option maxRecDepth 20000 in
theorem qiX5_check : (.instanceMethod yX5_check : Cond) ∈ sr_tbl := sr_in 982 rfl rfl
set_option maxRecDepth 20000 in
theorem qsX5_check : (.selects RX5 yX5_check yX5_check : Cond) ∈ sr_tbl := sr_in 983 rfl rfl
set_option maxRecDepth 20000 in
theorem qcX5_check : (.code yX5_check cX5_check 4 (some .int) : Cond) ∈ sr_tbl := sr_in 984 rfl rfl
set_option maxRecDepth 20000 in
theorem qmX5_212 : (.methodLink RX5 212 yX5_keep : Cond) ∈ sr_tbl := sr_in 985 rfl rfl
set_option maxRecDepth 20000 in
theorem qiX5_keep : (.instanceMethod yX5_keep : Cond) ∈ sr_tbl := sr_in 987 rfl rfl
set_option maxRecDepth 20000 in
theorem qcX5_keep : (.code yX5_keep cX5_keep 3 (none) : Cond) ∈ sr_tbl := sr_in 988 rfl rfl
set_option maxRecDepth 20000 in
theorem qkL_58 : (.constantLong RL 58 (4294967295) : Cond) ∈ sr_tbl := sr_in 989 rfl rfl
set_option maxRecDepth 20000 in
theorem qzX0 : ∀ w ∈ u_ws RX0 TX0 5, w ∈ sr_tbl := by
  intro w hw
  have hg : goodWord w = true := List.all_eq_true.mp (show (u_ws RX0 TX0 5).all goodWord = true from by decide +kernel) w hw
  rw [show u_ws RX0 TX0 5 = [246, 248, 250, 252, 254].filterMap (fun i => lw_tbl[i]?) from by decide +kernel] at hw
  obtain ⟨i, -, hi⟩ := List.mem_filterMap.mp hw
  exact List.mem_filter.mpr ⟨List.mem_of_getElem? hi, hg⟩
set_option maxRecDepth 20000 in
theorem qzX1 : ∀ w ∈ u_ws RX1 TX1 16, w ∈ sr_tbl := by
  intro w hw
  have hg : goodWord w = true := List.all_eq_true.mp (show (u_ws RX1 TX1 16).all goodWord = true from by decide +kernel) w hw
  rw [show u_ws RX1 TX1 16 = [176, 178, 180, 182, 184, 186, 188, 190, 192, 194, 196, 198, 200, 202, 204, 206].filterMap (fun i => lw_tbl[i]?) from by decide +kernel] at hw
  obtain ⟨i, -, hi⟩ := List.mem_filterMap.mp hw
  exact List.mem_filter.mpr ⟨List.mem_of_getElem? hi, hg⟩
set_option maxRecDepth 20000 in
theorem qzX2 : ∀ w ∈ u_ws RX2 TX2 13, w ∈ sr_tbl := by
  intro w hw
  have hg : goodWord w = true := List.all_eq_true.mp (show (u_ws RX2 TX2 13).all goodWord = true from by decide +kernel) w hw
  rw [show u_ws RX2 TX2 13 = [111, 113, 115, 117, 119, 121, 123, 125, 127, 129, 131, 133, 135].filterMap (fun i => lw_tbl[i]?) from by decide +kernel] at hw
  obtain ⟨i, -, hi⟩ := List.mem_filterMap.mp hw
  exact List.mem_filter.mpr ⟨List.mem_of_getElem? hi, hg⟩
set_option maxRecDepth 20000 in
theorem qzX3 : ∀ w ∈ u_ws RX3 TX3 5, w ∈ sr_tbl := by
  intro w hw
  have hg : goodWord w = true := List.all_eq_true.mp (show (u_ws RX3 TX3 5).all goodWord = true from by decide +kernel) w hw
  rw [show u_ws RX3 TX3 5 = [222, 224, 226, 228, 230].filterMap (fun i => lw_tbl[i]?) from by decide +kernel] at hw
  obtain ⟨i, -, hi⟩ := List.mem_filterMap.mp hw
  exact List.mem_filter.mpr ⟨List.mem_of_getElem? hi, hg⟩
set_option maxRecDepth 20000 in
theorem qzX4 : ∀ w ∈ u_ws RX4 TX4 7, w ∈ sr_tbl := by
  intro w hw
  have hg : goodWord w = true := List.all_eq_true.mp (show (u_ws RX4 TX4 7).all goodWord = true from by decide +kernel) w hw
  rw [show u_ws RX4 TX4 7 = [266, 268, 270, 272, 274, 276, 278].filterMap (fun i => lw_tbl[i]?) from by decide +kernel] at hw
  obtain ⟨i, -, hi⟩ := List.mem_filterMap.mp hw
  exact List.mem_filter.mpr ⟨List.mem_of_getElem? hi, hg⟩
set_option maxRecDepth 20000 in
theorem qzX5 : ∀ w ∈ u_ws RX5 TX5 33, w ∈ sr_tbl := by
  intro w hw
  have hg : goodWord w = true := List.all_eq_true.mp (show (u_ws RX5 TX5 33).all goodWord = true from by decide +kernel) w hw
  rw [show u_ws RX5 TX5 33 = [677, 679, 681, 683, 685, 687, 689, 691, 693, 695, 697, 699, 701, 703, 705, 707, 709, 711, 713, 715, 717, 719, 721, 723, 725, 727, 729, 731, 733, 735, 737, 739, 741].filterMap (fun i => lw_tbl[i]?) from by decide +kernel] at hw
  obtain ⟨i, -, hi⟩ := List.mem_filterMap.mp hw
  exact List.mem_filter.mpr ⟨List.mem_of_getElem? hi, hg⟩
end
section
/-! THE FRAME: a world as a function of a memory; rows that walk the machine in step with a function in Option. -/
abbrev sr_M : Type := (Nat → Nat → Int32) × (Nat → Nat → Int64) × (Nat → Nat → UInt64)
abbrev sr_CF : Type := Nat → (Nat → Int32) → (Nat → Int64) → (Nat → UInt64) → va_E
def sr_w (ad : Nat → Nat) (cf : sr_CF) (N : Nat) (M : sr_M) : va_W := (List.range N).map (fun k => (ad k, cf k (M.1 k) (M.2.1 k) (M.2.2 k)))
def sr_wI (M : sr_M) (k j : Nat) (v : Int32) : sr_M := (va_up M.1 k (upd (M.1 k) j v), M.2.1, M.2.2)
def sr_wJ (M : sr_M) (k j : Nat) (v : Int64) : sr_M := (M.1, va_up M.2.1 k (vp_updL (M.2.1 k) j v), M.2.2)
def sr_wD (M : sr_M) (k j : Nat) (v : UInt64) : sr_M := (M.1, M.2.1, va_up M.2.2 k (vf_upd (M.2.2 k) j v))
def sr_cI (M : sr_M) (k0 k sp dp n : Nat) : sr_M := (va_up M.1 k (va_cpy (M.1 k0) (M.1 k) sp dp n), M.2.1, M.2.2)
def sr_cJ (M : sr_M) (k0 k sp dp n : Nat) : sr_M := (M.1, va_up M.2.1 k (va_cpy (M.2.1 k0) (M.2.1 k) sp dp n), M.2.2)
theorem sr_w_get {ad : Nat → Nat} {cf : sr_CF} {N k : Nat} {M : sr_M} (hk : k < N) : (sr_w ad cf N M)[k]? = some (ad k, cf k (M.1 k) (M.2.1 k) (M.2.2 k)) := by
  simp [sr_w, hk]
theorem sr_w_of {ad : Nat → Nat} {cf : sr_CF} {N k : Nat} {M : sr_M} {q : Nat × va_E} (h : (sr_w ad cf N M)[k]? = some q) : k < N ∧ q = (ad k, cf k (M.1 k) (M.2.1 k) (M.2.2 k)) := by
  have hl := (List.getElem?_eq_some_iff.mp h).1
  have hk : k < N := by simpa [sr_w] using hl
  rw [sr_w_get hk] at h
  exact ⟨hk, (Option.some.inj h).symm⟩
theorem sr_w_set {ad : Nat → Nat} {cf : sr_CF} {N k : Nat} {M M' : sr_M} {e : va_E} (hk : k < N) (h1 : ∀ i, i ≠ k → M'.1 i = M.1 i ∧ M'.2.1 i = M.2.1 i ∧ M'.2.2 i = M.2.2 i) (he : e = cf k (M'.1 k) (M'.2.1 k) (M'.2.2 k)) : (sr_w ad cf N M).set k (ad k, e) = sr_w ad cf N M' := by
  apply List.ext_getElem?
  intro i
  by_cases hi : i = k
  · subst hi
    rw [sr_w_get hk, List.getElem?_set_self (by simpa [sr_w] using hk), he]
  · rw [List.getElem?_set_ne (Ne.symm hi)]
    by_cases h2 : i < N
    · obtain ⟨a, b, c⟩ := h1 i hi
      rw [sr_w_get h2, sr_w_get h2, a, b, c]
    · rw [List.getElem?_eq_none (by simp [sr_w]; omega), List.getElem?_eq_none (by simp [sr_w]; omega)]
def sr_H (D : va_G) (cl : List vw_C) (tys : List (ClassId × FieldType)) (ad : Nat → Nat) (cf : sr_CF) (N : Nat) (A : Nat → Prop) (s : State) (M : sr_M) (H : Heap) (locs : List Loc) : Prop :=
  va_K D cl tys s ∧ va_P D cl (sr_w ad cf N M) H ∧ va_D A (sr_w ad cf N M) ∧ va_S A s.heap H locs
-- the functions' words
noncomputable def sr_grd {ρ : Type} (P : Prop) (x : Option ρ) : Option ρ := @ite _ P (Classical.propDecidable P) x none
def sr_bnd {α β : Type} (x : α) (F : α → β) : β := F x
noncomputable def sr_ld {α ρ : Type} (i : Int32) (n : Nat) (x : Nat → α) (F : α → Option ρ) : Option ρ := sr_grd (vp_in i n) (F (x i.toNatClampNeg))
noncomputable def sr_st {ρ : Type} (i : Int32) (n : Nat) (M : sr_M) (k : Nat) (v : Int32) (F : sr_M → Option ρ) : Option ρ := sr_grd (vp_in i n) (F (sr_wI M k i.toNatClampNeg v))
noncomputable def sr_stB {ρ : Type} (i : Int32) (n : Nat) (M : sr_M) (k : Nat) (v : Int32) (F : sr_M → Option ρ) : Option ρ := sr_grd (vp_in i n ∧ (v = 0 ∨ v = 1)) (F (sr_wI M k i.toNatClampNeg v))
noncomputable def sr_stJ {ρ : Type} (i : Int32) (n : Nat) (M : sr_M) (k : Nat) (v : Int64) (F : sr_M → Option ρ) : Option ρ := sr_grd (vp_in i n) (F (sr_wJ M k i.toNatClampNeg v))
noncomputable def sr_stD {ρ : Type} (i : Int32) (n : Nat) (M : sr_M) (k : Nat) (v : UInt64) (F : sr_M → Option ρ) : Option ρ := sr_grd (vp_in i n) (F (sr_wD M k i.toNatClampNeg v))
def sr_put {ρ : Type} (M : sr_M) (k j : Nat) (v : Int32) (F : sr_M → Option ρ) : Option ρ := F (sr_wI M k j v)
noncomputable def sr_putB {ρ : Type} (M : sr_M) (k j : Nat) (v : Int32) (F : sr_M → Option ρ) : Option ρ := sr_grd (v = 0 ∨ v = 1) (F (sr_wI M k j v))
noncomputable def sr_cpI {ρ : Type} (M : sr_M) (k0 k : Nat) (n0 n1 : Nat) (sp dp n : Int32) (F : sr_M → Option ρ) : Option ρ := sr_grd ((¬ sp < 0 ∧ ¬ dp < 0 ∧ ¬ n < 0) ∧ sp.toNatClampNeg + n.toNatClampNeg ≤ n0 ∧ dp.toNatClampNeg + n.toNatClampNeg ≤ n1 ∧ ∀ i, i < n.toNatClampNeg → (M.1 k0 (sp.toNatClampNeg + i) = 0 ∨ M.1 k0 (sp.toNatClampNeg + i) = 1)) (F (sr_cI M k0 k sp.toNatClampNeg dp.toNatClampNeg n.toNatClampNeg))
noncomputable def sr_cpJ {ρ : Type} (M : sr_M) (k0 k : Nat) (n0 n1 : Nat) (sp dp n : Int32) (F : sr_M → Option ρ) : Option ρ := sr_grd ((¬ sp < 0 ∧ ¬ dp < 0 ∧ ¬ n < 0) ∧ sp.toNatClampNeg + n.toNatClampNeg ≤ n0 ∧ dp.toNatClampNeg + n.toNatClampNeg ≤ n1) (F (sr_cJ M k0 k sp.toNatClampNeg dp.toNatClampNeg n.toNatClampNeg))
def sr_jn {κ ρ : Type} (K : κ) (B : κ → ρ) : ρ := B K
def sr_se {α β ρ : Type} (F : α → ρ) (G : β → ρ) (x : α ⊕ β) : ρ := match x with
  | .inl a => F a
  | .inr b => G b
def sr_it {σ ρ : Type} (b : σ → Option (σ ⊕ ρ)) : Nat → σ → Option ρ
  | 0, _ => none
  | n + 1, s => match b s with
    | none => none
    | some (.inl t) => sr_it b n t
    | some (.inr r) => some r
noncomputable def sr_lp {σ ρ : Type} (b : σ → Option (σ ⊕ ρ)) (s : σ) : Option ρ := @dite _ (∃ r n, sr_it b n s = some r) (Classical.propDecidable _) (fun h => some (Classical.choose h)) (fun _ => none)
theorem sr_grd_some {ρ : Type} {P : Prop} {x : Option ρ} {y : ρ} (h : sr_grd P x = some y) : P ∧ x = some y := by
  unfold sr_grd at h
  by_cases hp : P
  · rw [if_pos hp] at h
    exact ⟨hp, h⟩
  · rw [if_neg hp] at h
    cases h
theorem sr_grd_t {ρ : Type} {P : Prop} {x : Option ρ} (hp : P) : sr_grd P x = x := by
  unfold sr_grd
  exact if_pos hp
theorem sr_it_det {σ ρ : Type} {b : σ → Option (σ ⊕ ρ)} : ∀ (n m : Nat) (s : σ) (x y : ρ), sr_it b n s = some x → sr_it b m s = some y → x = y := by
  intro n
  induction n with
  | zero => intro m s x y h; simp [sr_it] at h
  | succ n ih =>
    intro m s x y h1 h2
    cases m with
    | zero => simp [sr_it] at h2
    | succ m =>
      unfold sr_it at h1 h2
      cases hb : b s with
      | none => rw [hb] at h1; cases h1
      | some w =>
        rw [hb] at h1 h2
        cases w with
        | inl t => exact ih m t x y h1 h2
        | inr r => exact (Option.some.inj h1).symm.trans (Option.some.inj h2)
theorem sr_lp_iff {σ ρ : Type} {b : σ → Option (σ ⊕ ρ)} {s : σ} {x : ρ} : sr_lp b s = some x ↔ ∃ n, sr_it b n s = some x := by
  unfold sr_lp
  by_cases h : ∃ r n, sr_it b n s = some r
  · rw [dif_pos h]
    obtain ⟨n, hn⟩ := Classical.choose_spec h
    constructor
    · intro e
      exact ⟨n, by rw [hn, e]⟩
    · rintro ⟨m, hm⟩
      rw [sr_it_det n m s _ _ hn hm]
  · rw [dif_neg h]
    constructor
    · intro e; cases e
    · rintro ⟨m, hm⟩
      exact absurd ⟨x, m, hm⟩ h
theorem sr_lp_step {σ ρ : Type} {b : σ → Option (σ ⊕ ρ)} {s t : σ} {x : ρ} (h : b s = some (.inl t)) (h2 : sr_lp b t = some x) : sr_lp b s = some x := by
  obtain ⟨n, hn⟩ := sr_lp_iff.mp h2
  exact sr_lp_iff.mpr ⟨n + 1, by unfold sr_it; rw [h]; exact hn⟩
theorem sr_lp_end {σ ρ : Type} {b : σ → Option (σ ⊕ ρ)} {s : σ} {x : ρ} (h : b s = some (.inr x)) : sr_lp b s = some x :=
  sr_lp_iff.mpr ⟨1, by unfold sr_it; rw [h]⟩
theorem sr_lp_rule {σ ρ : Type} {b : σ → Option (σ ⊕ ρ)} {x : ρ} (P : σ → Prop) (hs : ∀ s y, b s = some y → (∀ t, y = .inl t → P t) → (∀ r, y = .inr r → r = x) → P s) {s : σ} (h : sr_lp b s = some x) : P s := by
  obtain ⟨n, hn⟩ := sr_lp_iff.mp h
  clear h
  induction n generalizing s with
  | zero => simp [sr_it] at hn
  | succ n ih =>
    unfold sr_it at hn
    cases hb : b s with
    | none => rw [hb] at hn; cases hn
    | some w =>
      rw [hb] at hn
      refine hs s w hb ?_ ?_
      · intro t e
        subst e
        exact ih hn
      · intro r e
        subst e
        exact Option.some.inj hn
theorem sr_bind {α ρ : Type} {x : Option α} {F : α → Option ρ} {y : ρ} (h : x.bind F = some y) : ∃ a, x = some a ∧ ∀ a', a' = a → F a' = some y := by
  cases x with
  | none => cases h
  | some a => exact ⟨a, rfl, fun a' e => by rw [e]; exact h⟩
theorem sr_jn_rule {κ ρ : Type} {K : κ} {B : κ → Option ρ} {y : ρ} {G : Prop} (T : κ → Prop) (h : sr_jn K B = some y) (hK : T K) (hB : ∀ K', T K' → B K' = some y → G) : G := hB K hK h
theorem sr_ifp {α : Type} {c : Prop} [Decidable c] {A B X : α} (h : ite c A B = X) (hc : c) : A = X := (if_pos hc).symm.trans h
theorem sr_ifn {α : Type} {c : Prop} [Decidable c] {A B X : α} (h : ite c A B = X) (hc : ¬ c) : B = X := (if_neg hc).symm.trans h
-- what a place is
def sr_ia (cf : sr_CF) (tys : List (ClassId × FieldType)) (N k n : Nat) (ty : FieldType) : Prop := k < N ∧ ∃ (cA : ClassId) (t0 : Nat), (∀ R L D, cf k R L D = .inl (cA, n, .inl R)) ∧ tys[t0]? = some (cA, ty)
def sr_ja (cf : sr_CF) (tys : List (ClassId × FieldType)) (N k n : Nat) : Prop := k < N ∧ ∃ (cA : ClassId) (t0 : Nat), (∀ R L D, cf k R L D = .inl (cA, n, .inr (.inl L))) ∧ tys[t0]? = some (cA, .long)
def sr_da (cf : sr_CF) (tys : List (ClassId × FieldType)) (N k n : Nat) : Prop := k < N ∧ ∃ (cA : ClassId) (t0 : Nat), (∀ R L D, cf k R L D = .inl (cA, n, .inr (.inr (.inr (.inl D))))) ∧ tys[t0]? = some (cA, .double)
def sr_qa (cf : sr_CF) (tys : List (ClassId × FieldType)) (N k n : Nat) (C : String) (f : Nat → Option Nat) : Prop := k < N ∧ ∃ (cA : ClassId) (t0 : Nat), (∀ R L D, cf k R L D = .inl (cA, n, .inr (.inr (.inr (.inr f))))) ∧ tys[t0]? = some (cA, .object C)
def sr_ob (cl : List vw_C) (cf : sr_CF) (N k : Nat) (C : String) : Prop := k < N ∧ ∃ (ci : Nat) (q : vw_C) (fs : (Nat → Int32) → List Value), cl[ci]? = some q ∧ q.1 = C ∧ ∀ R L D, cf k R L D = .inr (ci, fs R)
def sr_fi (cl : List vw_C) (cf : sr_CF) (N k : Nat) (C : String) (T : u_T) (N0 j : Nat) : Prop := k < N ∧ j < N0 ∧ (T j).1 = C ∧ ∃ (ci : Nat) (fs : (Nat → Int32) → List Value), cl[ci]? = some (C, T, N0) ∧ (∀ R L D, cf k R L D = .inr (ci, fs R)) ∧ (∀ R, (fs R)[j]? = some (.int (R j))) ∧ ∀ R v, (fs R).set j (.int v) = fs (upd R j v)
def sr_fr (cl : List vw_C) (cf : sr_CF) (N k : Nat) (C : String) (T : u_T) (N0 j a : Nat) : Prop := k < N ∧ j < N0 ∧ (T j).1 = C ∧ ∃ (ci : Nat) (fs : (Nat → Int32) → List Value), cl[ci]? = some (C, T, N0) ∧ (∀ R L D, cf k R L D = .inr (ci, fs R)) ∧ (∀ R, (fs R)[j]? = some (.ref a))
theorem sr_up_self {α : Type} {f : Nat → α} {k : Nat} {v : α} : va_up f k v k = v := by simp [va_up]
theorem sr_up_ne {α : Type} {f : Nat → α} {k i : Nat} {v : α} (h : i ≠ k) : va_up f k v i = f i := by simp [va_up, h]
section SRW
variable {p : Program} {l : Launch} {e : Env} {R : Room} {s : State} {m : MethodId} {args : Array Value} {below : List Frame} {meth : Method} {c : Code} {H : Heap} {locs : List Loc} {Q : State → Prop}
variable {cc : ByteArray} {pc : Nat} {ls : Array Slot} {rest : List Value}
variable {D : va_G} {cl : List vw_C} {tys : List (ClassId × FieldType)} {ad : Nat → Nat} {cf : sr_CF} {N : Nat} {A : Nat → Prop} {M : sr_M} {ρ : Type} {res : ρ}
theorem sr_iald (hx : p.tables.exec = Jvm.exec) (hb : c.code = cc) (hw : sr_H D cl tys ad cf N A s M H locs) {k n : Nat} (hs : sr_ia cf tys N k n .int) {i : Int32} {F : Int32 → Option ρ} (h : sr_ld i n (M.1 k) F = some res) (hdg : decode cc pc = .ok (.iaload, 1))
    (kk : ∀ v : Int32, F v = some res → W p l e R s m args below meth c H locs 0 0 Q (F0 m (pc + 1) ls (.int v :: rest))) : W p l e R s m args below meth c H locs 0 0 Q (F0 m pc ls (.int i :: .ref (ad k) :: rest)) := by
  obtain ⟨hin, h⟩ := sr_grd_some h
  obtain ⟨hk, cA, t0, hs, ht⟩ := hs
  exact va_iald hx hb hw.1 hw.2.1 k t0 (by rw [sr_w_get hk, hs]) ht hin hdg (kk _ h)
theorem sr_zald (hx : p.tables.exec = Jvm.exec) (hb : c.code = cc) (hw : sr_H D cl tys ad cf N A s M H locs) {k n : Nat} (hs : sr_ia cf tys N k n .boolean) {i : Int32} {F : Int32 → Option ρ} (h : sr_ld i n (M.1 k) F = some res) (hdg : decode cc pc = .ok (.baload, 1))
    (kk : ∀ v : Int32, F v = some res → W p l e R s m args below meth c H locs 0 0 Q (F0 m (pc + 1) ls (.int v :: rest))) : W p l e R s m args below meth c H locs 0 0 Q (F0 m pc ls (.int i :: .ref (ad k) :: rest)) := by
  obtain ⟨hin, h⟩ := sr_grd_some h
  obtain ⟨hk, cA, t0, hs, ht⟩ := hs
  exact va_zald hx hb hw.1 hw.2.1 k t0 (by rw [sr_w_get hk, hs]) ht hin hdg (kk _ h)
theorem sr_bald (hx : p.tables.exec = Jvm.exec) (hb : c.code = cc) (hw : sr_H D cl tys ad cf N A s M H locs) {k n : Nat} (hs : sr_ia cf tys N k n .byte) {i : Int32} {F : Int32 → Option ρ} (h : sr_ld i n (M.1 k) F = some res) (hdg : decode cc pc = .ok (.baload, 1))
    (kk : ∀ v : Int32, F v = some res → W p l e R s m args below meth c H locs 0 0 Q (F0 m (pc + 1) ls (.int v :: rest))) : W p l e R s m args below meth c H locs 0 0 Q (F0 m pc ls (.int i :: .ref (ad k) :: rest)) := by
  obtain ⟨hin, h⟩ := sr_grd_some h
  obtain ⟨hk, cA, t0, hs, ht⟩ := hs
  exact va_bald hx hb hw.1 hw.2.1 k t0 (by rw [sr_w_get hk, hs]) ht hin hdg (kk _ h)
theorem sr_lald (hx : p.tables.exec = Jvm.exec) (hb : c.code = cc) (hw : sr_H D cl tys ad cf N A s M H locs) {k n : Nat} (hs : sr_ja cf tys N k n) {i : Int32} {F : Int64 → Option ρ} (h : sr_ld i n (M.2.1 k) F = some res) (hdg : decode cc pc = .ok (.laload, 1))
    (kk : ∀ v : Int64, F v = some res → W p l e R s m args below meth c H locs 0 0 Q (F0 m (pc + 1) ls (.long v :: rest))) : W p l e R s m args below meth c H locs 0 0 Q (F0 m pc ls (.int i :: .ref (ad k) :: rest)) := by
  obtain ⟨hin, h⟩ := sr_grd_some h
  obtain ⟨hk, cA, t0, hs, ht⟩ := hs
  exact va_lald hx hb hw.1 hw.2.1 k t0 (by rw [sr_w_get hk, hs]) ht hin hdg (kk _ h)
theorem sr_dald (hx : p.tables.exec = Jvm.exec) (hb : c.code = cc) (hw : sr_H D cl tys ad cf N A s M H locs) {k n : Nat} (hs : sr_da cf tys N k n) {i : Int32} {F : UInt64 → Option ρ} (h : sr_ld i n (M.2.2 k) F = some res) (hdg : decode cc pc = .ok (.daload, 1))
    (kk : ∀ v : UInt64, F v = some res → W p l e R s m args below meth c H locs 0 0 Q (F0 m (pc + 1) ls (.double v :: rest))) : W p l e R s m args below meth c H locs 0 0 Q (F0 m pc ls (.int i :: .ref (ad k) :: rest)) := by
  obtain ⟨hin, h⟩ := sr_grd_some h
  obtain ⟨hk, cA, t0, hs, ht⟩ := hs
  exact va_dald hx hb hw.1 hw.2.1 k t0 (by rw [sr_w_get hk, hs]) ht hin hdg (kk _ h)
theorem sr_aald (hx : p.tables.exec = Jvm.exec) (hb : c.code = cc) (hw : sr_H D cl tys ad cf N A s M H locs) {k n : Nat} {C : String} {f : Nat → Option Nat} (hs : sr_qa cf tys N k n C f) {i : Int32} {b : Nat} {x : Option ρ} (h : sr_grd (vp_in i n) x = some res) (hf : vp_in i n → f i.toNatClampNeg = some b) (hdg : decode cc pc = .ok (.aaload, 1))
    (kk : vp_in i n → x = some res → W p l e R s m args below meth c H locs 0 0 Q (F0 m (pc + 1) ls (.ref b :: rest))) : W p l e R s m args below meth c H locs 0 0 Q (F0 m pc ls (.int i :: .ref (ad k) :: rest)) := by
  obtain ⟨hin, h⟩ := sr_grd_some h
  obtain ⟨hk, cA, t0, hs, ht⟩ := hs
  refine va_aldq hx hb hw.1 hw.2.1 k t0 (by rw [sr_w_get hk, hs]) ht hin hdg ?_
  rw [hf hin]
  exact kk hin h
theorem sr_H_set (hw : sr_H D cl tys ad cf N A s M H locs) {k : Nat} {M' : sr_M} {e0 : va_E} {H1 : Heap} {locs1 : List Loc} (hk : k < N) (h1 : ∀ i, i ≠ k → M'.1 i = M.1 i ∧ M'.2.1 i = M.2.1 i ∧ M'.2.2 i = M.2.2 i) (he : e0 = cf k (M'.1 k) (M'.2.1 k) (M'.2.2 k)) (hP : va_P D cl ((sr_w ad cf N M).set k (ad k, e0)) H1) (hD : va_D A ((sr_w ad cf N M).set k (ad k, e0))) (hS : va_S A s.heap H1 locs1) : sr_H D cl tys ad cf N A s M' H1 locs1 := by
  rw [sr_w_set hk h1 he] at hP hD
  exact ⟨hw.1, hP, hD, hS⟩
theorem sr_iast (hx : p.tables.exec = Jvm.exec) (hb : c.code = cc) (hw : sr_H D cl tys ad cf N A s M H locs) {k n : Nat} (hs : sr_ia cf tys N k n .int) {i v : Int32} {F : sr_M → Option ρ} (h : sr_st i n M k v F = some res) (hdg : decode cc pc = .ok (.iastore, 1))
    (kk : ∀ (M1 : sr_M) (H1 : Heap) (locs1 : List Loc), F M1 = some res → sr_H D cl tys ad cf N A s M1 H1 locs1 → W p l e R s m args below meth c H1 locs1 0 0 Q (F0 m (pc + 1) ls rest)) : W p l e R s m args below meth c H locs 0 0 Q (F0 m pc ls (.int v :: .int i :: .ref (ad k) :: rest)) := by
  obtain ⟨hin, h⟩ := sr_grd_some h
  obtain ⟨hk, cA, t0, hs, ht⟩ := hs
  refine va_iast hx hb hw.1 hw.2.1 hw.2.2.1 hw.2.2.2 k t0 (by rw [sr_w_get hk, hs]) ht hin hdg (fun H1 locs1 hP hD hS => kk _ H1 locs1 h (sr_H_set hw hk (fun i hi => ⟨sr_up_ne hi, rfl, rfl⟩) ?_ hP hD hS))
  rw [hs]
  simp only [sr_wI, sr_up_self]
theorem sr_zast (hx : p.tables.exec = Jvm.exec) (hb : c.code = cc) (hw : sr_H D cl tys ad cf N A s M H locs) {k n : Nat} (hs : sr_ia cf tys N k n .boolean) {i v : Int32} {F : sr_M → Option ρ} (h : sr_stB i n M k v F = some res) (hdg : decode cc pc = .ok (.bastore, 1))
    (kk : ∀ (M1 : sr_M) (H1 : Heap) (locs1 : List Loc), F M1 = some res → sr_H D cl tys ad cf N A s M1 H1 locs1 → W p l e R s m args below meth c H1 locs1 0 0 Q (F0 m (pc + 1) ls rest)) : W p l e R s m args below meth c H locs 0 0 Q (F0 m pc ls (.int v :: .int i :: .ref (ad k) :: rest)) := by
  obtain ⟨⟨hin, hv⟩, h⟩ := sr_grd_some h
  obtain ⟨hk, cA, t0, hs, ht⟩ := hs
  have hn : vp_nar .boolean v = v := by rcases hv with rfl | rfl <;> rfl
  refine va_zast hx hb hw.1 hw.2.1 hw.2.2.1 hw.2.2.2 k t0 (by rw [sr_w_get hk, hs]) ht hin hdg (fun H1 locs1 hP hD hS => kk _ H1 locs1 h (sr_H_set hw hk (fun i hi => ⟨sr_up_ne hi, rfl, rfl⟩) ?_ hP hD hS))
  rw [hs, hn]
  simp only [sr_wI, sr_up_self]
theorem sr_bast (hx : p.tables.exec = Jvm.exec) (hb : c.code = cc) (hw : sr_H D cl tys ad cf N A s M H locs) {k n : Nat} (hs : sr_ia cf tys N k n .byte) {i v : Int32} {F : sr_M → Option ρ} (h : sr_stB i n M k v F = some res) (hdg : decode cc pc = .ok (.bastore, 1))
    (kk : ∀ (M1 : sr_M) (H1 : Heap) (locs1 : List Loc), F M1 = some res → sr_H D cl tys ad cf N A s M1 H1 locs1 → W p l e R s m args below meth c H1 locs1 0 0 Q (F0 m (pc + 1) ls rest)) : W p l e R s m args below meth c H locs 0 0 Q (F0 m pc ls (.int v :: .int i :: .ref (ad k) :: rest)) := by
  obtain ⟨⟨hin, hv⟩, h⟩ := sr_grd_some h
  obtain ⟨hk, cA, t0, hs, ht⟩ := hs
  have hn : vp_nar .byte v = v := by rcases hv with rfl | rfl <;> rfl
  refine va_bast hx hb hw.1 hw.2.1 hw.2.2.1 hw.2.2.2 k t0 (by rw [sr_w_get hk, hs]) ht hin hdg (fun H1 locs1 hP hD hS => kk _ H1 locs1 h (sr_H_set hw hk (fun i hi => ⟨sr_up_ne hi, rfl, rfl⟩) ?_ hP hD hS))
  rw [hs, hn]
  simp only [sr_wI, sr_up_self]
theorem sr_last (hx : p.tables.exec = Jvm.exec) (hb : c.code = cc) (hw : sr_H D cl tys ad cf N A s M H locs) {k n : Nat} (hs : sr_ja cf tys N k n) {i : Int32} {v : Int64} {F : sr_M → Option ρ} (h : sr_stJ i n M k v F = some res) (hdg : decode cc pc = .ok (.lastore, 1))
    (kk : ∀ (M1 : sr_M) (H1 : Heap) (locs1 : List Loc), F M1 = some res → sr_H D cl tys ad cf N A s M1 H1 locs1 → W p l e R s m args below meth c H1 locs1 0 0 Q (F0 m (pc + 1) ls rest)) : W p l e R s m args below meth c H locs 0 0 Q (F0 m pc ls (.long v :: .int i :: .ref (ad k) :: rest)) := by
  obtain ⟨hin, h⟩ := sr_grd_some h
  obtain ⟨hk, cA, t0, hs, ht⟩ := hs
  refine va_last hx hb hw.1 hw.2.1 hw.2.2.1 hw.2.2.2 k t0 (by rw [sr_w_get hk, hs]) ht hin hdg (fun H1 locs1 hP hD hS => kk _ H1 locs1 h (sr_H_set hw hk (fun i hi => ⟨rfl, sr_up_ne hi, rfl⟩) ?_ hP hD hS))
  rw [hs]
  simp only [sr_wJ, sr_up_self]
theorem sr_dast (hx : p.tables.exec = Jvm.exec) (hb : c.code = cc) (hw : sr_H D cl tys ad cf N A s M H locs) {k n : Nat} (hs : sr_da cf tys N k n) {i : Int32} {v : UInt64} {F : sr_M → Option ρ} (h : sr_stD i n M k v F = some res) (hdg : decode cc pc = .ok (.dastore, 1))
    (kk : ∀ (M1 : sr_M) (H1 : Heap) (locs1 : List Loc), F M1 = some res → sr_H D cl tys ad cf N A s M1 H1 locs1 → W p l e R s m args below meth c H1 locs1 0 0 Q (F0 m (pc + 1) ls rest)) : W p l e R s m args below meth c H locs 0 0 Q (F0 m pc ls (.double v :: .int i :: .ref (ad k) :: rest)) := by
  obtain ⟨hin, h⟩ := sr_grd_some h
  obtain ⟨hk, cA, t0, hs, ht⟩ := hs
  refine va_dast hx hb hw.1 hw.2.1 hw.2.2.1 hw.2.2.2 k t0 (by rw [sr_w_get hk, hs]) ht hin hdg (fun H1 locs1 hP hD hS => kk _ H1 locs1 h (sr_H_set hw hk (fun i hi => ⟨rfl, rfl, sr_up_ne hi⟩) ?_ hP hD hS))
  rw [hs]
  simp only [sr_wD, sr_up_self]
theorem sr_geti (hx : p.tables.exec = Jvm.exec) (hb : c.code = cc) {own C : String} {T : u_T} {N0 index j k : Nat} {Ts : List Cond} (hts : ∀ w ∈ Ts, w.before args s = true) (hin : ∀ w ∈ u_ws C T N0, w ∈ Ts) (hown : s.vm.findClass own = some m.cls) (hw : sr_H D cl tys ad cf N A s M H locs) (hf : sr_fi cl cf N k C T N0 j) (hlink : (Cond.fieldLink own index C (T j).2.1 (T j).2.2.1).before args s = true) {F : Int32 → Option ρ} (h : sr_bnd (M.1 k j) F = some res) (hdg : decode cc pc = .ok (.getfield index, 3))
    (kk : ∀ v : Int32, F v = some res → W p l e R s m args below meth c H locs 0 0 Q (F0 m (pc + 3) ls (.int v :: rest))) : W p l e R s m args below meth c H locs 0 0 Q (F0 m pc ls (.ref (ad k) :: rest)) := by
  obtain ⟨hk, hj, hC, ci, fs, hc, hs, hv, -⟩ := hf
  exact va_get hx hb hts hin hown hw.1 hw.2.1 k (by rw [sr_w_get hk, hs]) hc j hj hlink (fun x hx => by rw [hC] at hx; exact hx) (hv _) hdg (kk _ h)
theorem sr_getr (hx : p.tables.exec = Jvm.exec) (hb : c.code = cc) {own C : String} {T : u_T} {N0 index j k a : Nat} {Ts : List Cond} (hts : ∀ w ∈ Ts, w.before args s = true) (hin : ∀ w ∈ u_ws C T N0, w ∈ Ts) (hown : s.vm.findClass own = some m.cls) (hw : sr_H D cl tys ad cf N A s M H locs) (hf : sr_fr cl cf N k C T N0 j a) (hlink : (Cond.fieldLink own index C (T j).2.1 (T j).2.2.1).before args s = true) (hdg : decode cc pc = .ok (.getfield index, 3))
    (kk : W p l e R s m args below meth c H locs 0 0 Q (F0 m (pc + 3) ls (.ref a :: rest))) : W p l e R s m args below meth c H locs 0 0 Q (F0 m pc ls (.ref (ad k) :: rest)) := by
  obtain ⟨hk, hj, hC, ci, fs, hc, hs, hv⟩ := hf
  exact va_get hx hb hts hin hown hw.1 hw.2.1 k (by rw [sr_w_get hk, hs]) hc j hj hlink (fun x hx => by rw [hC] at hx; exact hx) (hv _) hdg kk
theorem sr_puti (hx : p.tables.exec = Jvm.exec) (hb : c.code = cc) {own C : String} {T : u_T} {N0 index j k : Nat} {Ts : List Cond} (hts : ∀ w ∈ Ts, w.before args s = true) (hin : ∀ w ∈ u_ws C T N0, w ∈ Ts) (ty0 : Nat → FieldType) (hty : ∀ k, k < N0 → parseFieldDescriptor (T k).2.2.1 = some (ty0 k)) (hnm : ∀ a, a < N0 → ∀ b, b < N0 → a ≠ b → (T a).2.1 ≠ (T b).2.1) (hown : s.vm.findClass own = some m.cls) (hw : sr_H D cl tys ad cf N A s M H locs) (hf : sr_fi cl cf N k C T N0 j) (hfin : (T j).2.2.2 = false) (hd : ty0 j = .int) (hlink : (Cond.fieldLink own index C (T j).2.1 (T j).2.2.1).before args s = true) {v : Int32} {F : sr_M → Option ρ} (h : sr_put M k j v F = some res) (hdg : decode cc pc = .ok (.putfield index, 3))
    (kk : ∀ (M1 : sr_M) (H1 : Heap) (locs1 : List Loc), F M1 = some res → sr_H D cl tys ad cf N A s M1 H1 locs1 → W p l e R s m args below meth c H1 locs1 0 0 Q (F0 m (pc + 3) ls rest)) : W p l e R s m args below meth c H locs 0 0 Q (F0 m pc ls (.int v :: .ref (ad k) :: rest)) := by
  obtain ⟨hk, hj, hC, ci, fs, hc, hs, hv, hset⟩ := hf
  refine va_put hx hb hts hin ty0 hty hnm hown hw.1 hw.2.1 hw.2.2.1 hw.2.2.2 k (by rw [sr_w_get hk, hs]) hc j hj hlink (fun x hx => by rw [hC] at hx; exact hx) hfin (by rw [hty j hj, hd]) (ty := .int) (v := .int v) rfl rfl ((List.getElem?_eq_some_iff.mp (hv _)).1) hdg (fun H1 locs1 hP hD hS => kk _ H1 locs1 h (sr_H_set hw hk (fun i hi => ⟨sr_up_ne hi, rfl, rfl⟩) ?_ hP hD hS))
  rw [hs, hset]
  simp only [sr_wI, sr_up_self]
theorem sr_putz (hx : p.tables.exec = Jvm.exec) (hb : c.code = cc) {own C : String} {T : u_T} {N0 index j k : Nat} {Ts : List Cond} (hts : ∀ w ∈ Ts, w.before args s = true) (hin : ∀ w ∈ u_ws C T N0, w ∈ Ts) (ty0 : Nat → FieldType) (hty : ∀ k, k < N0 → parseFieldDescriptor (T k).2.2.1 = some (ty0 k)) (hnm : ∀ a, a < N0 → ∀ b, b < N0 → a ≠ b → (T a).2.1 ≠ (T b).2.1) (hown : s.vm.findClass own = some m.cls) (hw : sr_H D cl tys ad cf N A s M H locs) (hf : sr_fi cl cf N k C T N0 j) (hfin : (T j).2.2.2 = false) (hd : ty0 j = .boolean) (hlink : (Cond.fieldLink own index C (T j).2.1 (T j).2.2.1).before args s = true) {v : Int32} {F : sr_M → Option ρ} (h : sr_putB M k j v F = some res) (hdg : decode cc pc = .ok (.putfield index, 3))
    (kk : ∀ (M1 : sr_M) (H1 : Heap) (locs1 : List Loc), F M1 = some res → sr_H D cl tys ad cf N A s M1 H1 locs1 → W p l e R s m args below meth c H1 locs1 0 0 Q (F0 m (pc + 3) ls rest)) : W p l e R s m args below meth c H locs 0 0 Q (F0 m pc ls (.int v :: .ref (ad k) :: rest)) := by
  obtain ⟨hv1, h⟩ := sr_grd_some h
  obtain ⟨hk, hj, hC, ci, fs, hc, hs, hv, hset⟩ := hf
  refine va_put hx hb hts hin ty0 hty hnm hown hw.1 hw.2.1 hw.2.2.1 hw.2.2.2 k (by rw [sr_w_get hk, hs]) hc j hj hlink (fun x hx => by rw [hC] at hx; exact hx) hfin (by rw [hty j hj, hd]) (ty := .boolean) (v := .int v) (by rcases hv1 with rfl | rfl <;> rfl) (by rcases hv1 with rfl | rfl <;> rfl) ((List.getElem?_eq_some_iff.mp (hv _)).1) hdg (fun H1 locs1 hP hD hS => kk _ H1 locs1 h (sr_H_set hw hk (fun i hi => ⟨sr_up_ne hi, rfl, rfl⟩) ?_ hP hD hS))
  rw [hs, hset]
  simp only [sr_wI, sr_up_self]
end SRW
-- contracts
def sr_Pc (D : va_G) (cl : List vw_C) (tys : List (ClassId × FieldType)) (ad : Nat → Nat) (cf : sr_CF) (N : Nat) (as : List Value) (M : sr_M) (sz : Nat) : Array Value → State → Prop := va_Pc as (fun U => U.heap.size = sz ∧ va_P D cl (sr_w ad cf N M) U.heap ∧ va_K D cl tys U ∧ va_D (fun _ => True) (sr_w ad cf N M))
def sr_B (D : va_G) (cl : List vw_C) (tys : List (ClassId × FieldType)) (ad : Nat → Nat) (cf : sr_CF) (N : Nat) (A : Nat → Prop) (u : sr_M) (t : State) : Prop := va_P D cl (sr_w ad cf N u) t.heap ∧ va_K D cl tys t ∧ va_D A (sr_w ad cf N u)
def sr_Mi (l : Launch) (D : va_G) (cl : List vw_C) (tys : List (ClassId × FieldType)) (ad : Nat → Nat) (cf : sr_CF) (N : Nat) (y : MethodName) (ws : List Cond) (rm : Room) (as : List Value) (M : sr_M) (r : Int32) (M' : sr_M) : Prop :=
  ∀ sz : Nat, Met l y ws rm (sr_Pc D cl tys ad cf N as M sz) (va_Qi (fun (r2 : Int32) (u : sr_M) => r2 = r ∧ u = M') (sr_B D cl tys ad cf N (va_A (sr_w ad cf N M) sz)) (va_A (sr_w ad cf N M) sz)) 0 0 (va_A (sr_w ad cf N M) sz)
def sr_Ml (l : Launch) (D : va_G) (cl : List vw_C) (tys : List (ClassId × FieldType)) (ad : Nat → Nat) (cf : sr_CF) (N : Nat) (y : MethodName) (ws : List Cond) (rm : Room) (as : List Value) (M : sr_M) (r : Int64) (M' : sr_M) : Prop :=
  ∀ sz : Nat, Met l y ws rm (sr_Pc D cl tys ad cf N as M sz) (va_Ql (fun (r2 : Int64) (u : sr_M) => r2 = r ∧ u = M') (sr_B D cl tys ad cf N (va_A (sr_w ad cf N M) sz)) (va_A (sr_w ad cf N M) sz)) 0 0 (va_A (sr_w ad cf N M) sz)
def sr_Mv (l : Launch) (D : va_G) (cl : List vw_C) (tys : List (ClassId × FieldType)) (ad : Nat → Nat) (cf : sr_CF) (N : Nat) (y : MethodName) (ws : List Cond) (rm : Room) (as : List Value) (M : sr_M) (M' : sr_M) : Prop :=
  ∀ sz : Nat, Met l y ws rm (sr_Pc D cl tys ad cf N as M sz) (va_Qv (fun (u : sr_M) => u = M') (sr_B D cl tys ad cf N (va_A (sr_w ad cf N M) sz)) (va_A (sr_w ad cf N M) sz)) 0 0 (va_A (sr_w ad cf N M) sz)
theorem sr_open_i {l : Launch} {D : va_G} {cl : List vw_C} {tys : List (ClassId × FieldType)} {ad : Nat → Nat} {cf : sr_CF} {N : Nat} {y : MethodName} {ws ws' : List Cond} {rm : Room} {cc : ByteArray} {maxL : Nat} {as : List Value} {M M' : sr_M} {r : Int32} {ty : FieldType} (hy : plainName y.cls = true) (hws : ws = .code y cc maxL (some ty) :: ws') (hlen : (lg_sl as).length ≤ maxL)
    (body : ∀ (p : Program) (e : Env) (s : State) (m : MethodId) (args : Array Value) (below : List Frame) (meth : Method) (c : Code) (A : Nat → Prop) (Q : State → Prop) (ls : Array Slot), p.tables.exec = Jvm.exec → c.code = cc → c.maxLocals = maxL → (∀ w ∈ ws, w.before args s = true) → s.vm.findClass y.cls = some m.cls → (∀ q : Nat, s.heap.size ≤ q → A q) → sr_H D cl tys ad cf N A s M s.heap [] → lv_has ls maxL (lv_args 0 as) →
      (∀ (H : Heap) (locs : List Loc) (ls : Array Slot) (pc : Nat), sr_H D cl tys ad cf N A s M' H locs → narrow ty (.int r) = .int r → decode cc pc = .ok (.ireturn, 1) → W p l e rm s m args below meth c H locs 0 0 Q (F0 m pc ls [.int r])) → W p l e rm s m args below meth c s.heap [] 0 0 Q (F0 m 0 ls [])) : sr_Mi l D cl tys ad cf N y ws rm as M r M' := by
  intro sz
  refine Met.ofW (cc := cc) (maxL := maxL) (ret := some ty) hy hws ?_
  intro p e s m args below meth c s₁ B hml hv
  obtain ⟨rfl, hsz, hP, hK, hD0⟩ := hv
  subst hsz
  rw [lg_entry_eq]
  refine body p e s m _ below meth c (va_A (sr_w ad cf N M) s.heap.size) _ _ B.exec B.bytes hml (atoms_spec (ws := ws) B.pre) (findClass_of_methodNamed B.named) (fun q h => Or.inr h) ⟨hK, hP, hD0.self, va_S.rf⟩ (lv_entry as hlen) ?_
  intro H locs ls pc hw hn hdg
  exact W.zret B.exec B.bytes B.returns hn (fun t ht hW => ⟨⟨r, M', rfl, ⟨rfl, rfl⟩, by rw [ht]; exact hw.2.1, va_K.moved hW.alike hw.1, hw.2.2.1⟩, hw.2.2.2.F ht⟩) hw.2.2.2.2.2 hdg B.notSynchronized
theorem sr_open_l {l : Launch} {D : va_G} {cl : List vw_C} {tys : List (ClassId × FieldType)} {ad : Nat → Nat} {cf : sr_CF} {N : Nat} {y : MethodName} {ws ws' : List Cond} {rm : Room} {cc : ByteArray} {maxL : Nat} {as : List Value} {M M' : sr_M} {r : Int64} (hy : plainName y.cls = true) (hws : ws = .code y cc maxL (some .long) :: ws') (hlen : (lg_sl as).length ≤ maxL)
    (body : ∀ (p : Program) (e : Env) (s : State) (m : MethodId) (args : Array Value) (below : List Frame) (meth : Method) (c : Code) (A : Nat → Prop) (Q : State → Prop) (ls : Array Slot), p.tables.exec = Jvm.exec → c.code = cc → c.maxLocals = maxL → (∀ w ∈ ws, w.before args s = true) → s.vm.findClass y.cls = some m.cls → (∀ q : Nat, s.heap.size ≤ q → A q) → sr_H D cl tys ad cf N A s M s.heap [] → lv_has ls maxL (lv_args 0 as) →
      (∀ (H : Heap) (locs : List Loc) (ls : Array Slot) (pc : Nat), sr_H D cl tys ad cf N A s M' H locs → decode cc pc = .ok (.lreturn, 1) → W p l e rm s m args below meth c H locs 0 0 Q (F0 m pc ls [.long r])) → W p l e rm s m args below meth c s.heap [] 0 0 Q (F0 m 0 ls [])) : sr_Ml l D cl tys ad cf N y ws rm as M r M' := by
  intro sz
  refine Met.ofW (cc := cc) (maxL := maxL) (ret := some .long) hy hws ?_
  intro p e s m args below meth c s₁ B hml hv
  obtain ⟨rfl, hsz, hP, hK, hD0⟩ := hv
  subst hsz
  rw [lg_entry_eq]
  refine body p e s m _ below meth c (va_A (sr_w ad cf N M) s.heap.size) _ _ B.exec B.bytes hml (atoms_spec (ws := ws) B.pre) (findClass_of_methodNamed B.named) (fun q h => Or.inr h) ⟨hK, hP, hD0.self, va_S.rf⟩ (lv_entry as hlen) ?_
  intro H locs ls pc hw hdg
  exact W.lret B.exec B.bytes B.returns (fun t ht hW => ⟨⟨r, M', rfl, ⟨rfl, rfl⟩, by rw [ht]; exact hw.2.1, va_K.moved hW.alike hw.1, hw.2.2.1⟩, hw.2.2.2.F ht⟩) hw.2.2.2.2.2 hdg B.notSynchronized
theorem sr_open_v {l : Launch} {D : va_G} {cl : List vw_C} {tys : List (ClassId × FieldType)} {ad : Nat → Nat} {cf : sr_CF} {N : Nat} {y : MethodName} {ws ws' : List Cond} {rm : Room} {cc : ByteArray} {maxL : Nat} {as : List Value} {M M' : sr_M} (hy : plainName y.cls = true) (hws : ws = .code y cc maxL none :: ws') (hlen : (lg_sl as).length ≤ maxL)
    (body : ∀ (p : Program) (e : Env) (s : State) (m : MethodId) (args : Array Value) (below : List Frame) (meth : Method) (c : Code) (A : Nat → Prop) (Q : State → Prop) (ls : Array Slot), p.tables.exec = Jvm.exec → c.code = cc → c.maxLocals = maxL → (∀ w ∈ ws, w.before args s = true) → s.vm.findClass y.cls = some m.cls → (∀ q : Nat, s.heap.size ≤ q → A q) → sr_H D cl tys ad cf N A s M s.heap [] → lv_has ls maxL (lv_args 0 as) →
      (∀ (H : Heap) (locs : List Loc) (ls : Array Slot) (pc : Nat), sr_H D cl tys ad cf N A s M' H locs → decode cc pc = .ok (.return_, 1) → W p l e rm s m args below meth c H locs 0 0 Q (F0 m pc ls [])) → W p l e rm s m args below meth c s.heap [] 0 0 Q (F0 m 0 ls [])) : sr_Mv l D cl tys ad cf N y ws rm as M M' := by
  intro sz
  refine Met.ofW (cc := cc) (maxL := maxL) (ret := none) hy hws ?_
  intro p e s m args below meth c s₁ B hml hv
  obtain ⟨rfl, hsz, hP, hK, hD0⟩ := hv
  subst hsz
  rw [lg_entry_eq]
  refine body p e s m _ below meth c (va_A (sr_w ad cf N M) s.heap.size) _ _ B.exec B.bytes hml (atoms_spec (ws := ws) B.pre) (findClass_of_methodNamed B.named) (fun q h => Or.inr h) ⟨hK, hP, hD0.self, va_S.rf⟩ (lv_entry as hlen) ?_
  intro H locs ls pc hw hdg
  exact W.vret B.exec B.bytes B.returns (fun t ht hW => ⟨⟨M', rfl, rfl, by rw [ht]; exact hw.2.1, va_K.moved hW.alike hw.1, hw.2.2.1⟩, hw.2.2.2.F ht⟩) hw.2.2.2.2.2 hdg B.notSynchronized
theorem sr_blind {D : va_G} {cl : List vw_C} {tys : List (ClassId × FieldType)} {ad : Nat → Nat} {cf : sr_CF} {N : Nat} {as : List Value} {M : sr_M} {sz : Nat} : FrameBlind (sr_Pc D cl tys ad cf N as M sz) := by
  intro a U g mk q
  obtain ⟨q0, q1, qP, qK, qD⟩ := q
  exact ⟨q0, q1, qP, va_K.moved (u := U) (U := U.calling g mk a) (Vm.Alike.refl U.vm) qK, qD⟩
theorem sr_free {ad : Nat → Nat} {cf : sr_CF} {N : Nat} {M : sr_M} {A : Nat → Prop} {H0 H : Heap} {locs : List Loc} (hD : va_D A (sr_w ad cf N M)) (hS : va_S A H0 H locs) (hA : ∀ q : Nat, H0.size ≤ q → A q) : ∀ q, va_A (sr_w ad cf N M) H.size q → A q := by
  intro q h
  rcases h with ⟨k, e, h⟩ | h
  · exact hD.2 k (q, e) h
  · exact hA q (Nat.le_trans hS.1 h)
section SRC
variable {p : Program} {l : Launch} {e : Env} {R : Room} {s : State} {m : MethodId} {args : Array Value} {below : List Frame} {meth : Method} {c : Code} {H : Heap} {locs : List Loc} {Q : State → Prop}
variable {cc : ByteArray} {pc nL : Nat} {ls : Array Slot} {rest st0 : List Value}
variable {D : va_G} {cl : List vw_C} {tys : List (ClassId × FieldType)} {ad : Nat → Nat} {cf : sr_CF} {N : Nat} {A : Nat → Prop} {M M1 : sr_M}
variable {y : MethodName} {bytes : ByteArray} {maxL n index : Nat} {ret : Option FieldType} {ws : List Cond} {rm : Room} {Ts : List Cond} {own C : String} {As : List Value}
theorem sr_cVi {r : Int32} {k : Nat} (S : CallFix p m c cc nL s args Ts own) (hM : sr_Mi l D cl tys ad cf N y ws rm (.ref (ad k) :: As) M r M1) (cw : CallW R s args own C index y bytes maxL ret ws rm 0 0 n) (hw : sr_H D cl tys ad cf N A s M H locs) (hA : ∀ q : Nat, s.heap.size ≤ q → A q) (hob : sr_ob cl cf N k C) (hn : As.length = n) (hls : ls.size = nL) (hst : st0 = As.reverse ++ .ref (ad k) :: rest) (hW : (rest.map fun v => v.category).sum ≤ 8) (hdg : decode cc pc = .ok (.invokevirtual index, 3))
    (kk : ∀ (H1 : Heap) (locs1 : List Loc), sr_H D cl tys ad cf N A s M1 H1 locs1 → W p l e R s m args below meth c H1 locs1 0 0 Q (F0 m (pc + 3) ls (.int r :: rest))) : W p l e R s m args below meth c H locs 0 0 Q (F0 m pc ls st0) := by
  obtain ⟨hk, ci, q, fs, hc, hqC, hs⟩ := hob
  have hF := sr_free hw.2.2.1 hw.2.2.2 hA
  refine va_calli (va_runV (As := As) (rest := rest) S (hM H.size) cw ⟨sr_blind, ?_, fun U hU hW => ⟨rfl, by rw [hU], by rw [hU]; exact hw.2.1, va_K.moved hW.alike hw.1, hw.2.2.1.weaken (fun _ _ _ _ => trivial)⟩⟩ rfl hn hls hst (lv_room hW) hdg ⟨Nat.zero_le _, Nat.zero_le _⟩) hw.2.2.2 (fun q _ h => hF q h) hF (fun r2 u t H1 locs1 ht hvm hr hB hz hk1 hS => ?_)
  · have h := va_recv hw.1 hw.2.1 hc (q0 := k) (by rw [sr_w_get hk, hs])
    rw [hqC] at h
    exact h
  · obtain ⟨rfl, rfl⟩ := hr
    obtain ⟨hP1, hK1, hD1⟩ := hB
    rw [ht] at hP1
    exact kk H1 locs1 ⟨va_K.moved hvm.symm hK1, hP1, hD1.weaken (fun _ q _ h => hF q.1 h), hS⟩
theorem sr_cVl {r : Int64} {k : Nat} (S : CallFix p m c cc nL s args Ts own) (hM : sr_Ml l D cl tys ad cf N y ws rm (.ref (ad k) :: As) M r M1) (cw : CallW R s args own C index y bytes maxL ret ws rm 0 0 n) (hw : sr_H D cl tys ad cf N A s M H locs) (hA : ∀ q : Nat, s.heap.size ≤ q → A q) (hob : sr_ob cl cf N k C) (hn : As.length = n) (hls : ls.size = nL) (hst : st0 = As.reverse ++ .ref (ad k) :: rest) (hW : (rest.map fun v => v.category).sum ≤ 8) (hdg : decode cc pc = .ok (.invokevirtual index, 3))
    (kk : ∀ (H1 : Heap) (locs1 : List Loc), sr_H D cl tys ad cf N A s M1 H1 locs1 → W p l e R s m args below meth c H1 locs1 0 0 Q (F0 m (pc + 3) ls (.long r :: rest))) : W p l e R s m args below meth c H locs 0 0 Q (F0 m pc ls st0) := by
  obtain ⟨hk, ci, q, fs, hc, hqC, hs⟩ := hob
  have hF := sr_free hw.2.2.1 hw.2.2.2 hA
  refine va_calll (va_runV (As := As) (rest := rest) S (hM H.size) cw ⟨sr_blind, ?_, fun U hU hW => ⟨rfl, by rw [hU], by rw [hU]; exact hw.2.1, va_K.moved hW.alike hw.1, hw.2.2.1.weaken (fun _ _ _ _ => trivial)⟩⟩ rfl hn hls hst (lv_room hW) hdg ⟨Nat.zero_le _, Nat.zero_le _⟩) hw.2.2.2 (fun q _ h => hF q h) hF (fun r2 u t H1 locs1 ht hvm hr hB hz hk1 hS => ?_)
  · have h := va_recv hw.1 hw.2.1 hc (q0 := k) (by rw [sr_w_get hk, hs])
    rw [hqC] at h
    exact h
  · obtain ⟨rfl, rfl⟩ := hr
    obtain ⟨hP1, hK1, hD1⟩ := hB
    rw [ht] at hP1
    exact kk H1 locs1 ⟨va_K.moved hvm.symm hK1, hP1, hD1.weaken (fun _ q _ h => hF q.1 h), hS⟩
theorem sr_cVv {k : Nat} (S : CallFix p m c cc nL s args Ts own) (hM : sr_Mv l D cl tys ad cf N y ws rm (.ref (ad k) :: As) M M1) (cw : CallW R s args own C index y bytes maxL ret ws rm 0 0 n) (hw : sr_H D cl tys ad cf N A s M H locs) (hA : ∀ q : Nat, s.heap.size ≤ q → A q) (hob : sr_ob cl cf N k C) (hn : As.length = n) (hls : ls.size = nL) (hst : st0 = As.reverse ++ .ref (ad k) :: rest) (hW : (rest.map fun v => v.category).sum ≤ 8) (hdg : decode cc pc = .ok (.invokevirtual index, 3))
    (kk : ∀ (H1 : Heap) (locs1 : List Loc), sr_H D cl tys ad cf N A s M1 H1 locs1 → W p l e R s m args below meth c H1 locs1 0 0 Q (F0 m (pc + 3) ls rest)) : W p l e R s m args below meth c H locs 0 0 Q (F0 m pc ls st0) := by
  obtain ⟨hk, ci, q, fs, hc, hqC, hs⟩ := hob
  have hF := sr_free hw.2.2.1 hw.2.2.2 hA
  refine va_callv (va_runV (As := As) (rest := rest) S (hM H.size) cw ⟨sr_blind, ?_, fun U hU hW => ⟨rfl, by rw [hU], by rw [hU]; exact hw.2.1, va_K.moved hW.alike hw.1, hw.2.2.1.weaken (fun _ _ _ _ => trivial)⟩⟩ rfl hn hls hst (lv_room hW) hdg ⟨Nat.zero_le _, Nat.zero_le _⟩) hw.2.2.2 (fun q _ h => hF q h) hF (fun u t H1 locs1 ht hvm hr hB hz hk1 hS => ?_)
  · have h := va_recv hw.1 hw.2.1 hc (q0 := k) (by rw [sr_w_get hk, hs])
    rw [hqC] at h
    exact h
  · subst hr
    obtain ⟨hP1, hK1, hD1⟩ := hB
    rw [ht] at hP1
    exact kk H1 locs1 ⟨va_K.moved hvm.symm hK1, hP1, hD1.weaken (fun _ q _ h => hF q.1 h), hS⟩
theorem sr_cSi {r : Int32} (S : CallFix p m c cc nL s args Ts own) (hM : sr_Mi l D cl tys ad cf N y ws rm As M r M1) (cw : CallB R s args own index y bytes maxL ret ws rm 0 0 n ∧ (Cond.static y).before args s = true) (hw : sr_H D cl tys ad cf N A s M H locs) (hA : ∀ q : Nat, s.heap.size ≤ q → A q) (hn : As.length = n) (hls : ls.size = nL) (hst : st0 = As.reverse ++ rest) (hW : (rest.map fun v => v.category).sum ≤ 8) (hdg : decode cc pc = .ok (.invokestatic index, 3))
    (kk : ∀ (H1 : Heap) (locs1 : List Loc), sr_H D cl tys ad cf N A s M1 H1 locs1 → W p l e R s m args below meth c H1 locs1 0 0 Q (F0 m (pc + 3) ls (.int r :: rest))) : W p l e R s m args below meth c H locs 0 0 Q (F0 m pc ls st0) := by
  have hF := sr_free hw.2.2.1 hw.2.2.2 hA
  refine va_calli (va_runS (As := As) (rest := rest) S (hM H.size) cw ⟨sr_blind, fun U hU hW => ⟨rfl, by rw [hU], by rw [hU]; exact hw.2.1, va_K.moved hW.alike hw.1, hw.2.2.1.weaken (fun _ _ _ _ => trivial)⟩⟩ rfl hn hls hst (lv_room hW) hdg ⟨Nat.zero_le _, Nat.zero_le _⟩) hw.2.2.2 (fun q _ h => hF q h) hF (fun r2 u t H1 locs1 ht hvm hr hB hz hk1 hS => ?_)
  obtain ⟨rfl, rfl⟩ := hr
  obtain ⟨hP1, hK1, hD1⟩ := hB
  rw [ht] at hP1
  exact kk H1 locs1 ⟨va_K.moved hvm.symm hK1, hP1, hD1.weaken (fun _ q _ h => hF q.1 h), hS⟩
end SRC
theorem sr_bind1 {α ρ : Type} {x : Option α} {F : α → Option ρ} {y : ρ} (h : x.bind F = some y) : ∃ a, x = some a ∧ F a = some y := by
  cases x with
  | none => cases h
  | some a => exact ⟨a, rfl, h⟩
def sr_bd2 {α β ρ : Type} (x : Option (α × β)) (F : α → β → Option ρ) : Option ρ := x.bind (fun q => F q.1 q.2)
theorem sr_bind2 {α β ρ : Type} {x : Option (α × β)} {F : α → β → Option ρ} {y : ρ} (h : sr_bd2 x F = some y) : ∃ a b, x = some (a, b) ∧ F a b = some y := by
  cases x with
  | none => cases h
  | some a => exact ⟨a.1, a.2, rfl, h⟩
theorem sr_bnde {α ρ : Type} {x : α} {F : α → Option ρ} {y : ρ} (h : sr_bnd x F = some y) (v : α) (e : v = x) : F v = some y := by
  subst e
  exact h
theorem sr_sel {α β ρ : Type} {F : α → ρ} {G : β → ρ} {a : α} {y : ρ} (h : sr_se F G (.inl a) = y) : F a = y := h
theorem sr_ser {α β ρ : Type} {F : α → ρ} {G : β → ρ} {b : β} {y : ρ} (h : sr_se F G (.inr b) = y) : G b = y := h
theorem sr_tout0_4 {x : Int32} (h0 : ¬ x = 0) (h1 : ¬ x = 1) (h2 : ¬ x = 2) (h3 : ¬ x = 3) (h4 : ¬ x = 4) : x.toInt < 0 ∨ 4 < x.toInt := by
  have key : ∀ k : Int, x.toInt = k → x = Int32.ofInt k := fun k e => by rw [← e, Int32.ofInt_toInt]
  rcases Int.lt_or_le x.toInt 0 with q | q
  · exact Or.inl q
  · rcases Int.lt_or_le 4 x.toInt with q2 | q2
    · exact Or.inr q2
    · exfalso
      have h : x.toInt = 0 ∨ x.toInt = 1 ∨ x.toInt = 2 ∨ x.toInt = 3 ∨ x.toInt = 4 := by omega
      rcases h with h | h | h | h | h
      · exact h0 (key _ h)
      · exact h1 (key _ h)
      · exact h2 (key _ h)
      · exact h3 (key _ h)
      · exact h4 (key _ h)
theorem sr_tout0_2 {x : Int32} (h0 : ¬ x = 0) (h1 : ¬ x = 1) (h2 : ¬ x = 2) : x.toInt < 0 ∨ 2 < x.toInt := by
  have key : ∀ k : Int, x.toInt = k → x = Int32.ofInt k := fun k e => by rw [← e, Int32.ofInt_toInt]
  rcases Int.lt_or_le x.toInt 0 with q | q
  · exact Or.inl q
  · rcases Int.lt_or_le 2 x.toInt with q2 | q2
    · exact Or.inr q2
    · exfalso
      have h : x.toInt = 0 ∨ x.toInt = 1 ∨ x.toInt = 2 := by omega
      rcases h with h | h | h
      · exact h0 (key _ h)
      · exact h1 (key _ h)
      · exact h2 (key _ h)
theorem sr_tout0_3 {x : Int32} (h0 : ¬ x = 0) (h1 : ¬ x = 1) (h2 : ¬ x = 2) (h3 : ¬ x = 3) : x.toInt < 0 ∨ 3 < x.toInt := by
  have key : ∀ k : Int, x.toInt = k → x = Int32.ofInt k := fun k e => by rw [← e, Int32.ofInt_toInt]
  rcases Int.lt_or_le x.toInt 0 with q | q
  · exact Or.inl q
  · rcases Int.lt_or_le 3 x.toInt with q2 | q2
    · exact Or.inr q2
    · exfalso
      have h : x.toInt = 0 ∨ x.toInt = 1 ∨ x.toInt = 2 ∨ x.toInt = 3 := by omega
      rcases h with h | h | h | h
      · exact h0 (key _ h)
      · exact h1 (key _ h)
      · exact h2 (key _ h)
      · exact h3 (key _ h)
theorem sr_tout2_6 {x : Int32} (h2 : ¬ x = 2) (h3 : ¬ x = 3) (h4 : ¬ x = 4) (h5 : ¬ x = 5) (h6 : ¬ x = 6) : x.toInt < 2 ∨ 6 < x.toInt := by
  have key : ∀ k : Int, x.toInt = k → x = Int32.ofInt k := fun k e => by rw [← e, Int32.ofInt_toInt]
  rcases Int.lt_or_le x.toInt 2 with q | q
  · exact Or.inl q
  · rcases Int.lt_or_le 6 x.toInt with q2 | q2
    · exact Or.inr q2
    · exfalso
      have h : x.toInt = 2 ∨ x.toInt = 3 ∨ x.toInt = 4 ∨ x.toInt = 5 ∨ x.toInt = 6 := by omega
      rcases h with h | h | h | h | h
      · exact h2 (key _ h)
      · exact h3 (key _ h)
      · exact h4 (key _ h)
      · exact h5 (key _ h)
      · exact h6 (key _ h)
theorem sr_tout0_5 {x : Int32} (h0 : ¬ x = 0) (h1 : ¬ x = 1) (h2 : ¬ x = 2) (h3 : ¬ x = 3) (h4 : ¬ x = 4) (h5 : ¬ x = 5) : x.toInt < 0 ∨ 5 < x.toInt := by
  have key : ∀ k : Int, x.toInt = k → x = Int32.ofInt k := fun k e => by rw [← e, Int32.ofInt_toInt]
  rcases Int.lt_or_le x.toInt 0 with q | q
  · exact Or.inl q
  · rcases Int.lt_or_le 5 x.toInt with q2 | q2
    · exact Or.inr q2
    · exfalso
      have h : x.toInt = 0 ∨ x.toInt = 1 ∨ x.toInt = 2 ∨ x.toInt = 3 ∨ x.toInt = 4 ∨ x.toInt = 5 := by omega
      rcases h with h | h | h | h | h | h
      · exact h0 (key _ h)
      · exact h1 (key _ h)
      · exact h2 (key _ h)
      · exact h3 (key _ h)
      · exact h4 (key _ h)
      · exact h5 (key _ h)
end
section
def xcl (t : Nat → ClassId) (ad : Nat → Nat) (R : Nat → Int32) (L : Nat → Int64) (D : Nat → UInt64) : List va_E :=
  [.inr (4, [.ref (ad 1), .ref (ad 11), .ref (ad 30), .ref (ad 43), .ref (ad 56), .ref (ad 61), .int (R 6)]),
   .inr (2, [.int (R 0), .ref (ad 2), .ref (ad 3), .int (R 3), .ref (ad 4), .ref (ad 5), .ref (ad 6), .ref (ad 7), .ref (ad 8), .int (R 9), .ref (ad 9), .ref (ad 10), .int (R 12)]),
   .inl (t 2, 120, .inl R),
   .inl (t 3, 120, .inl R),
   .inl (t 4, 300, .inl R),
   .inl (t 5, 300, .inl R),
   .inl (t 6, 300, .inl R),
   .inl (t 7, 300, .inl R),
   .inl (t 8, 300, .inl R),
   .inl (t 9, 121, .inl R),
   .inl (t 10, 600, .inl R),
   .inl (t 11, 6, .inr (.inr (.inr (.inr (fun i => if i < 6 then some (ad (12 + 3 * i)) else none))))),
   .inr (0, [.int (R 0), .int (R 1), .int (R 2), .ref (ad 13), .ref (ad 14)]),
   .inl (t 13, 60, .inr (.inl L)),
   .inl (t 14, 60, .inl R),
   .inr (0, [.int (R 0), .int (R 1), .int (R 2), .ref (ad 16), .ref (ad 17)]),
   .inl (t 16, 60, .inr (.inl L)),
   .inl (t 17, 60, .inl R),
   .inr (0, [.int (R 0), .int (R 1), .int (R 2), .ref (ad 19), .ref (ad 20)]),
   .inl (t 19, 60, .inr (.inl L)),
   .inl (t 20, 60, .inl R),
   .inr (0, [.int (R 0), .int (R 1), .int (R 2), .ref (ad 22), .ref (ad 23)]),
   .inl (t 22, 60, .inr (.inl L)),
   .inl (t 23, 60, .inl R),
   .inr (0, [.int (R 0), .int (R 1), .int (R 2), .ref (ad 25), .ref (ad 26)]),
   .inl (t 25, 60, .inr (.inl L)),
   .inl (t 26, 60, .inl R),
   .inr (0, [.int (R 0), .int (R 1), .int (R 2), .ref (ad 28), .ref (ad 29)]),
   .inl (t 28, 60, .inr (.inl L)),
   .inl (t 29, 60, .inl R),
   .inr (1, [.ref (ad 1), .int (R 1), .int (R 2), .ref (ad 31), .ref (ad 32), .ref (ad 33), .ref (ad 34), .ref (ad 35), .ref (ad 36), .int (R 9), .ref (ad 37), .ref (ad 38), .ref (ad 39), .ref (ad 40), .ref (ad 41), .ref (ad 42)]),
   .inl (t 31, 121, .inl R),
   .inl (t 32, 121, .inl R),
   .inl (t 33, 120, .inl R),
   .inl (t 34, 120, .inl R),
   .inl (t 35, 120, .inl R),
   .inl (t 36, 120, .inl R),
   .inl (t 37, 120, .inl R),
   .inl (t 38, 120, .inl R),
   .inl (t 39, 120, .inl R),
   .inl (t 40, 120, .inl R),
   .inl (t 41, 120, .inl R),
   .inl (t 42, 120, .inl R),
   .inr (1, [.ref (ad 1), .int (R 1), .int (R 2), .ref (ad 44), .ref (ad 45), .ref (ad 46), .ref (ad 47), .ref (ad 48), .ref (ad 49), .int (R 9), .ref (ad 50), .ref (ad 51), .ref (ad 52), .ref (ad 53), .ref (ad 54), .ref (ad 55)]),
   .inl (t 44, 121, .inl R),
   .inl (t 45, 121, .inl R),
   .inl (t 46, 120, .inl R),
   .inl (t 47, 120, .inl R),
   .inl (t 48, 120, .inl R),
   .inl (t 49, 120, .inl R),
   .inl (t 50, 120, .inl R),
   .inl (t 51, 120, .inl R),
   .inl (t 52, 120, .inl R),
   .inl (t 53, 120, .inl R),
   .inl (t 54, 120, .inl R),
   .inl (t 55, 120, .inl R),
   .inr (3, [.ref (ad 1), .ref (ad 57), .ref (ad 58), .ref (ad 59), .ref (ad 60)]),
   .inl (t 57, 120, .inl R),
   .inl (t 58, 120, .inl R),
   .inl (t 59, 120, .inl R),
   .inl (t 60, 120, .inl R),
   .inl (t 61, 200, .inl R)]
def xcf (t : Nat → ClassId) (ad : Nat → Nat) : sr_CF := fun k R L D => (xcl t ad R L D).getD k (.inl (t 0, 0, .inl R))
def xty (t : Nat → ClassId) : List (ClassId × FieldType) :=
  [(t 2, .int), (t 3, .boolean), (t 4, .int), (t 5, .int), (t 6, .int), (t 7, .int), (t 8, .int), (t 9, .int), (t 10, .int), (t 11, .object "SeepingRock$Core"), (t 13, .long), (t 14, .byte), (t 16, .long), (t 17, .byte), (t 19, .long), (t 20, .byte), (t 22, .long), (t 23, .byte), (t 25, .long), (t 26, .byte), (t 28, .long), (t 29, .byte), (t 31, .int), (t 32, .int), (t 33, .int), (t 34, .int), (t 35, .int), (t 36, .int), (t 37, .int), (t 38, .int), (t 39, .int), (t 40, .int), (t 41, .int), (t 42, .boolean), (t 44, .int), (t 45, .int), (t 46, .int), (t 47, .int), (t 48, .int), (t 49, .int), (t 50, .int), (t 51, .int), (t 52, .int), (t 53, .int), (t 54, .int), (t 55, .boolean), (t 57, .int), (t 58, .int), (t 59, .int), (t 60, .int), (t 61, .int)]
abbrev xH (D : va_G) (t : Nat → ClassId) (ad : Nat → Nat) (A : Nat → Prop) (s : State) (M : sr_M) (H : Heap) (locs : List Loc) : Prop := sr_H D vwCl (xty t) ad (xcf t ad) 62 A s M H locs
theorem xo_0 (t : Nat → ClassId) (ad : Nat → Nat) : sr_ob vwCl (xcf t ad) 62 0 RX4 := ⟨by decide, 4, (RX4, TX4, 7), fun R => [.ref (ad 1), .ref (ad 11), .ref (ad 30), .ref (ad 43), .ref (ad 56), .ref (ad 61), .int (R 6)], rfl, rfl, fun _ _ _ => rfl⟩
theorem xf_0_0 (t : Nat → ClassId) (ad : Nat → Nat) : sr_fr vwCl (xcf t ad) 62 0 RX4 TX4 7 0 (ad 1) := ⟨by decide, by decide, rfl, 4, fun R => [.ref (ad 1), .ref (ad 11), .ref (ad 30), .ref (ad 43), .ref (ad 56), .ref (ad 61), .int (R 6)], rfl, fun _ _ _ => rfl, fun _ => rfl⟩
theorem xf_0_1 (t : Nat → ClassId) (ad : Nat → Nat) : sr_fr vwCl (xcf t ad) 62 0 RX4 TX4 7 1 (ad 11) := ⟨by decide, by decide, rfl, 4, fun R => [.ref (ad 1), .ref (ad 11), .ref (ad 30), .ref (ad 43), .ref (ad 56), .ref (ad 61), .int (R 6)], rfl, fun _ _ _ => rfl, fun _ => rfl⟩
theorem xf_0_2 (t : Nat → ClassId) (ad : Nat → Nat) : sr_fr vwCl (xcf t ad) 62 0 RX4 TX4 7 2 (ad 30) := ⟨by decide, by decide, rfl, 4, fun R => [.ref (ad 1), .ref (ad 11), .ref (ad 30), .ref (ad 43), .ref (ad 56), .ref (ad 61), .int (R 6)], rfl, fun _ _ _ => rfl, fun _ => rfl⟩
theorem xf_0_3 (t : Nat → ClassId) (ad : Nat → Nat) : sr_fr vwCl (xcf t ad) 62 0 RX4 TX4 7 3 (ad 43) := ⟨by decide, by decide, rfl, 4, fun R => [.ref (ad 1), .ref (ad 11), .ref (ad 30), .ref (ad 43), .ref (ad 56), .ref (ad 61), .int (R 6)], rfl, fun _ _ _ => rfl, fun _ => rfl⟩
theorem xf_0_4 (t : Nat → ClassId) (ad : Nat → Nat) : sr_fr vwCl (xcf t ad) 62 0 RX4 TX4 7 4 (ad 56) := ⟨by decide, by decide, rfl, 4, fun R => [.ref (ad 1), .ref (ad 11), .ref (ad 30), .ref (ad 43), .ref (ad 56), .ref (ad 61), .int (R 6)], rfl, fun _ _ _ => rfl, fun _ => rfl⟩
theorem xf_0_5 (t : Nat → ClassId) (ad : Nat → Nat) : sr_fr vwCl (xcf t ad) 62 0 RX4 TX4 7 5 (ad 61) := ⟨by decide, by decide, rfl, 4, fun R => [.ref (ad 1), .ref (ad 11), .ref (ad 30), .ref (ad 43), .ref (ad 56), .ref (ad 61), .int (R 6)], rfl, fun _ _ _ => rfl, fun _ => rfl⟩
theorem xf_0_6 (t : Nat → ClassId) (ad : Nat → Nat) : sr_fi vwCl (xcf t ad) 62 0 RX4 TX4 7 6 := ⟨by decide, by decide, rfl, 4, fun R => [.ref (ad 1), .ref (ad 11), .ref (ad 30), .ref (ad 43), .ref (ad 56), .ref (ad 61), .int (R 6)], rfl, fun _ _ _ => rfl, fun _ => rfl, fun _ _ => rfl⟩
theorem xo_1 (t : Nat → ClassId) (ad : Nat → Nat) : sr_ob vwCl (xcf t ad) 62 1 RX2 := ⟨by decide, 2, (RX2, TX2, 13), fun R => [.int (R 0), .ref (ad 2), .ref (ad 3), .int (R 3), .ref (ad 4), .ref (ad 5), .ref (ad 6), .ref (ad 7), .ref (ad 8), .int (R 9), .ref (ad 9), .ref (ad 10), .int (R 12)], rfl, rfl, fun _ _ _ => rfl⟩
theorem xf_1_0 (t : Nat → ClassId) (ad : Nat → Nat) : sr_fi vwCl (xcf t ad) 62 1 RX2 TX2 13 0 := ⟨by decide, by decide, rfl, 2, fun R => [.int (R 0), .ref (ad 2), .ref (ad 3), .int (R 3), .ref (ad 4), .ref (ad 5), .ref (ad 6), .ref (ad 7), .ref (ad 8), .int (R 9), .ref (ad 9), .ref (ad 10), .int (R 12)], rfl, fun _ _ _ => rfl, fun _ => rfl, fun _ _ => rfl⟩
theorem xf_1_1 (t : Nat → ClassId) (ad : Nat → Nat) : sr_fr vwCl (xcf t ad) 62 1 RX2 TX2 13 1 (ad 2) := ⟨by decide, by decide, rfl, 2, fun R => [.int (R 0), .ref (ad 2), .ref (ad 3), .int (R 3), .ref (ad 4), .ref (ad 5), .ref (ad 6), .ref (ad 7), .ref (ad 8), .int (R 9), .ref (ad 9), .ref (ad 10), .int (R 12)], rfl, fun _ _ _ => rfl, fun _ => rfl⟩
theorem xf_1_2 (t : Nat → ClassId) (ad : Nat → Nat) : sr_fr vwCl (xcf t ad) 62 1 RX2 TX2 13 2 (ad 3) := ⟨by decide, by decide, rfl, 2, fun R => [.int (R 0), .ref (ad 2), .ref (ad 3), .int (R 3), .ref (ad 4), .ref (ad 5), .ref (ad 6), .ref (ad 7), .ref (ad 8), .int (R 9), .ref (ad 9), .ref (ad 10), .int (R 12)], rfl, fun _ _ _ => rfl, fun _ => rfl⟩
theorem xf_1_3 (t : Nat → ClassId) (ad : Nat → Nat) : sr_fi vwCl (xcf t ad) 62 1 RX2 TX2 13 3 := ⟨by decide, by decide, rfl, 2, fun R => [.int (R 0), .ref (ad 2), .ref (ad 3), .int (R 3), .ref (ad 4), .ref (ad 5), .ref (ad 6), .ref (ad 7), .ref (ad 8), .int (R 9), .ref (ad 9), .ref (ad 10), .int (R 12)], rfl, fun _ _ _ => rfl, fun _ => rfl, fun _ _ => rfl⟩
theorem xf_1_4 (t : Nat → ClassId) (ad : Nat → Nat) : sr_fr vwCl (xcf t ad) 62 1 RX2 TX2 13 4 (ad 4) := ⟨by decide, by decide, rfl, 2, fun R => [.int (R 0), .ref (ad 2), .ref (ad 3), .int (R 3), .ref (ad 4), .ref (ad 5), .ref (ad 6), .ref (ad 7), .ref (ad 8), .int (R 9), .ref (ad 9), .ref (ad 10), .int (R 12)], rfl, fun _ _ _ => rfl, fun _ => rfl⟩
theorem xf_1_5 (t : Nat → ClassId) (ad : Nat → Nat) : sr_fr vwCl (xcf t ad) 62 1 RX2 TX2 13 5 (ad 5) := ⟨by decide, by decide, rfl, 2, fun R => [.int (R 0), .ref (ad 2), .ref (ad 3), .int (R 3), .ref (ad 4), .ref (ad 5), .ref (ad 6), .ref (ad 7), .ref (ad 8), .int (R 9), .ref (ad 9), .ref (ad 10), .int (R 12)], rfl, fun _ _ _ => rfl, fun _ => rfl⟩
theorem xf_1_6 (t : Nat → ClassId) (ad : Nat → Nat) : sr_fr vwCl (xcf t ad) 62 1 RX2 TX2 13 6 (ad 6) := ⟨by decide, by decide, rfl, 2, fun R => [.int (R 0), .ref (ad 2), .ref (ad 3), .int (R 3), .ref (ad 4), .ref (ad 5), .ref (ad 6), .ref (ad 7), .ref (ad 8), .int (R 9), .ref (ad 9), .ref (ad 10), .int (R 12)], rfl, fun _ _ _ => rfl, fun _ => rfl⟩
theorem xf_1_7 (t : Nat → ClassId) (ad : Nat → Nat) : sr_fr vwCl (xcf t ad) 62 1 RX2 TX2 13 7 (ad 7) := ⟨by decide, by decide, rfl, 2, fun R => [.int (R 0), .ref (ad 2), .ref (ad 3), .int (R 3), .ref (ad 4), .ref (ad 5), .ref (ad 6), .ref (ad 7), .ref (ad 8), .int (R 9), .ref (ad 9), .ref (ad 10), .int (R 12)], rfl, fun _ _ _ => rfl, fun _ => rfl⟩
theorem xf_1_8 (t : Nat → ClassId) (ad : Nat → Nat) : sr_fr vwCl (xcf t ad) 62 1 RX2 TX2 13 8 (ad 8) := ⟨by decide, by decide, rfl, 2, fun R => [.int (R 0), .ref (ad 2), .ref (ad 3), .int (R 3), .ref (ad 4), .ref (ad 5), .ref (ad 6), .ref (ad 7), .ref (ad 8), .int (R 9), .ref (ad 9), .ref (ad 10), .int (R 12)], rfl, fun _ _ _ => rfl, fun _ => rfl⟩
theorem xf_1_9 (t : Nat → ClassId) (ad : Nat → Nat) : sr_fi vwCl (xcf t ad) 62 1 RX2 TX2 13 9 := ⟨by decide, by decide, rfl, 2, fun R => [.int (R 0), .ref (ad 2), .ref (ad 3), .int (R 3), .ref (ad 4), .ref (ad 5), .ref (ad 6), .ref (ad 7), .ref (ad 8), .int (R 9), .ref (ad 9), .ref (ad 10), .int (R 12)], rfl, fun _ _ _ => rfl, fun _ => rfl, fun _ _ => rfl⟩
theorem xf_1_10 (t : Nat → ClassId) (ad : Nat → Nat) : sr_fr vwCl (xcf t ad) 62 1 RX2 TX2 13 10 (ad 9) := ⟨by decide, by decide, rfl, 2, fun R => [.int (R 0), .ref (ad 2), .ref (ad 3), .int (R 3), .ref (ad 4), .ref (ad 5), .ref (ad 6), .ref (ad 7), .ref (ad 8), .int (R 9), .ref (ad 9), .ref (ad 10), .int (R 12)], rfl, fun _ _ _ => rfl, fun _ => rfl⟩
theorem xf_1_11 (t : Nat → ClassId) (ad : Nat → Nat) : sr_fr vwCl (xcf t ad) 62 1 RX2 TX2 13 11 (ad 10) := ⟨by decide, by decide, rfl, 2, fun R => [.int (R 0), .ref (ad 2), .ref (ad 3), .int (R 3), .ref (ad 4), .ref (ad 5), .ref (ad 6), .ref (ad 7), .ref (ad 8), .int (R 9), .ref (ad 9), .ref (ad 10), .int (R 12)], rfl, fun _ _ _ => rfl, fun _ => rfl⟩
theorem xf_1_12 (t : Nat → ClassId) (ad : Nat → Nat) : sr_fi vwCl (xcf t ad) 62 1 RX2 TX2 13 12 := ⟨by decide, by decide, rfl, 2, fun R => [.int (R 0), .ref (ad 2), .ref (ad 3), .int (R 3), .ref (ad 4), .ref (ad 5), .ref (ad 6), .ref (ad 7), .ref (ad 8), .int (R 9), .ref (ad 9), .ref (ad 10), .int (R 12)], rfl, fun _ _ _ => rfl, fun _ => rfl, fun _ _ => rfl⟩
theorem xa_2 (t : Nat → ClassId) (ad : Nat → Nat) : sr_ia (xcf t ad) (xty t) 62 2 120 .int := ⟨by decide, t 2, 0, fun _ _ _ => rfl, rfl⟩
theorem xa_3 (t : Nat → ClassId) (ad : Nat → Nat) : sr_ia (xcf t ad) (xty t) 62 3 120 .boolean := ⟨by decide, t 3, 1, fun _ _ _ => rfl, rfl⟩
theorem xa_4 (t : Nat → ClassId) (ad : Nat → Nat) : sr_ia (xcf t ad) (xty t) 62 4 300 .int := ⟨by decide, t 4, 2, fun _ _ _ => rfl, rfl⟩
theorem xa_5 (t : Nat → ClassId) (ad : Nat → Nat) : sr_ia (xcf t ad) (xty t) 62 5 300 .int := ⟨by decide, t 5, 3, fun _ _ _ => rfl, rfl⟩
theorem xa_6 (t : Nat → ClassId) (ad : Nat → Nat) : sr_ia (xcf t ad) (xty t) 62 6 300 .int := ⟨by decide, t 6, 4, fun _ _ _ => rfl, rfl⟩
theorem xa_7 (t : Nat → ClassId) (ad : Nat → Nat) : sr_ia (xcf t ad) (xty t) 62 7 300 .int := ⟨by decide, t 7, 5, fun _ _ _ => rfl, rfl⟩
theorem xa_8 (t : Nat → ClassId) (ad : Nat → Nat) : sr_ia (xcf t ad) (xty t) 62 8 300 .int := ⟨by decide, t 8, 6, fun _ _ _ => rfl, rfl⟩
theorem xa_9 (t : Nat → ClassId) (ad : Nat → Nat) : sr_ia (xcf t ad) (xty t) 62 9 121 .int := ⟨by decide, t 9, 7, fun _ _ _ => rfl, rfl⟩
theorem xa_10 (t : Nat → ClassId) (ad : Nat → Nat) : sr_ia (xcf t ad) (xty t) 62 10 600 .int := ⟨by decide, t 10, 8, fun _ _ _ => rfl, rfl⟩
theorem xq_11 (t : Nat → ClassId) (ad : Nat → Nat) : sr_qa (xcf t ad) (xty t) 62 11 6 "SeepingRock$Core" (fun i => if i < 6 then some (ad (12 + 3 * i)) else none) := ⟨by decide, t 11, 9, fun _ _ _ => rfl, rfl⟩
theorem xo_12 (t : Nat → ClassId) (ad : Nat → Nat) : sr_ob vwCl (xcf t ad) 62 12 RX0 := ⟨by decide, 0, (RX0, TX0, 5), fun R => [.int (R 0), .int (R 1), .int (R 2), .ref (ad 13), .ref (ad 14)], rfl, rfl, fun _ _ _ => rfl⟩
theorem xf_12_0 (t : Nat → ClassId) (ad : Nat → Nat) : sr_fi vwCl (xcf t ad) 62 12 RX0 TX0 5 0 := ⟨by decide, by decide, rfl, 0, fun R => [.int (R 0), .int (R 1), .int (R 2), .ref (ad 13), .ref (ad 14)], rfl, fun _ _ _ => rfl, fun _ => rfl, fun _ _ => rfl⟩
theorem xf_12_1 (t : Nat → ClassId) (ad : Nat → Nat) : sr_fi vwCl (xcf t ad) 62 12 RX0 TX0 5 1 := ⟨by decide, by decide, rfl, 0, fun R => [.int (R 0), .int (R 1), .int (R 2), .ref (ad 13), .ref (ad 14)], rfl, fun _ _ _ => rfl, fun _ => rfl, fun _ _ => rfl⟩
theorem xf_12_2 (t : Nat → ClassId) (ad : Nat → Nat) : sr_fi vwCl (xcf t ad) 62 12 RX0 TX0 5 2 := ⟨by decide, by decide, rfl, 0, fun R => [.int (R 0), .int (R 1), .int (R 2), .ref (ad 13), .ref (ad 14)], rfl, fun _ _ _ => rfl, fun _ => rfl, fun _ _ => rfl⟩
theorem xf_12_3 (t : Nat → ClassId) (ad : Nat → Nat) : sr_fr vwCl (xcf t ad) 62 12 RX0 TX0 5 3 (ad 13) := ⟨by decide, by decide, rfl, 0, fun R => [.int (R 0), .int (R 1), .int (R 2), .ref (ad 13), .ref (ad 14)], rfl, fun _ _ _ => rfl, fun _ => rfl⟩
theorem xf_12_4 (t : Nat → ClassId) (ad : Nat → Nat) : sr_fr vwCl (xcf t ad) 62 12 RX0 TX0 5 4 (ad 14) := ⟨by decide, by decide, rfl, 0, fun R => [.int (R 0), .int (R 1), .int (R 2), .ref (ad 13), .ref (ad 14)], rfl, fun _ _ _ => rfl, fun _ => rfl⟩
theorem xa_13 (t : Nat → ClassId) (ad : Nat → Nat) : sr_ja (xcf t ad) (xty t) 62 13 60 := ⟨by decide, t 13, 10, fun _ _ _ => rfl, rfl⟩
theorem xa_14 (t : Nat → ClassId) (ad : Nat → Nat) : sr_ia (xcf t ad) (xty t) 62 14 60 .byte := ⟨by decide, t 14, 11, fun _ _ _ => rfl, rfl⟩
theorem xo_15 (t : Nat → ClassId) (ad : Nat → Nat) : sr_ob vwCl (xcf t ad) 62 15 RX0 := ⟨by decide, 0, (RX0, TX0, 5), fun R => [.int (R 0), .int (R 1), .int (R 2), .ref (ad 16), .ref (ad 17)], rfl, rfl, fun _ _ _ => rfl⟩
theorem xf_15_0 (t : Nat → ClassId) (ad : Nat → Nat) : sr_fi vwCl (xcf t ad) 62 15 RX0 TX0 5 0 := ⟨by decide, by decide, rfl, 0, fun R => [.int (R 0), .int (R 1), .int (R 2), .ref (ad 16), .ref (ad 17)], rfl, fun _ _ _ => rfl, fun _ => rfl, fun _ _ => rfl⟩
theorem xf_15_1 (t : Nat → ClassId) (ad : Nat → Nat) : sr_fi vwCl (xcf t ad) 62 15 RX0 TX0 5 1 := ⟨by decide, by decide, rfl, 0, fun R => [.int (R 0), .int (R 1), .int (R 2), .ref (ad 16), .ref (ad 17)], rfl, fun _ _ _ => rfl, fun _ => rfl, fun _ _ => rfl⟩
theorem xf_15_2 (t : Nat → ClassId) (ad : Nat → Nat) : sr_fi vwCl (xcf t ad) 62 15 RX0 TX0 5 2 := ⟨by decide, by decide, rfl, 0, fun R => [.int (R 0), .int (R 1), .int (R 2), .ref (ad 16), .ref (ad 17)], rfl, fun _ _ _ => rfl, fun _ => rfl, fun _ _ => rfl⟩
theorem xf_15_3 (t : Nat → ClassId) (ad : Nat → Nat) : sr_fr vwCl (xcf t ad) 62 15 RX0 TX0 5 3 (ad 16) := ⟨by decide, by decide, rfl, 0, fun R => [.int (R 0), .int (R 1), .int (R 2), .ref (ad 16), .ref (ad 17)], rfl, fun _ _ _ => rfl, fun _ => rfl⟩
theorem xf_15_4 (t : Nat → ClassId) (ad : Nat → Nat) : sr_fr vwCl (xcf t ad) 62 15 RX0 TX0 5 4 (ad 17) := ⟨by decide, by decide, rfl, 0, fun R => [.int (R 0), .int (R 1), .int (R 2), .ref (ad 16), .ref (ad 17)], rfl, fun _ _ _ => rfl, fun _ => rfl⟩
theorem xa_16 (t : Nat → ClassId) (ad : Nat → Nat) : sr_ja (xcf t ad) (xty t) 62 16 60 := ⟨by decide, t 16, 12, fun _ _ _ => rfl, rfl⟩
theorem xa_17 (t : Nat → ClassId) (ad : Nat → Nat) : sr_ia (xcf t ad) (xty t) 62 17 60 .byte := ⟨by decide, t 17, 13, fun _ _ _ => rfl, rfl⟩
theorem xo_18 (t : Nat → ClassId) (ad : Nat → Nat) : sr_ob vwCl (xcf t ad) 62 18 RX0 := ⟨by decide, 0, (RX0, TX0, 5), fun R => [.int (R 0), .int (R 1), .int (R 2), .ref (ad 19), .ref (ad 20)], rfl, rfl, fun _ _ _ => rfl⟩
theorem xf_18_0 (t : Nat → ClassId) (ad : Nat → Nat) : sr_fi vwCl (xcf t ad) 62 18 RX0 TX0 5 0 := ⟨by decide, by decide, rfl, 0, fun R => [.int (R 0), .int (R 1), .int (R 2), .ref (ad 19), .ref (ad 20)], rfl, fun _ _ _ => rfl, fun _ => rfl, fun _ _ => rfl⟩
theorem xf_18_1 (t : Nat → ClassId) (ad : Nat → Nat) : sr_fi vwCl (xcf t ad) 62 18 RX0 TX0 5 1 := ⟨by decide, by decide, rfl, 0, fun R => [.int (R 0), .int (R 1), .int (R 2), .ref (ad 19), .ref (ad 20)], rfl, fun _ _ _ => rfl, fun _ => rfl, fun _ _ => rfl⟩
theorem xf_18_2 (t : Nat → ClassId) (ad : Nat → Nat) : sr_fi vwCl (xcf t ad) 62 18 RX0 TX0 5 2 := ⟨by decide, by decide, rfl, 0, fun R => [.int (R 0), .int (R 1), .int (R 2), .ref (ad 19), .ref (ad 20)], rfl, fun _ _ _ => rfl, fun _ => rfl, fun _ _ => rfl⟩
theorem xf_18_3 (t : Nat → ClassId) (ad : Nat → Nat) : sr_fr vwCl (xcf t ad) 62 18 RX0 TX0 5 3 (ad 19) := ⟨by decide, by decide, rfl, 0, fun R => [.int (R 0), .int (R 1), .int (R 2), .ref (ad 19), .ref (ad 20)], rfl, fun _ _ _ => rfl, fun _ => rfl⟩
theorem xf_18_4 (t : Nat → ClassId) (ad : Nat → Nat) : sr_fr vwCl (xcf t ad) 62 18 RX0 TX0 5 4 (ad 20) := ⟨by decide, by decide, rfl, 0, fun R => [.int (R 0), .int (R 1), .int (R 2), .ref (ad 19), .ref (ad 20)], rfl, fun _ _ _ => rfl, fun _ => rfl⟩
theorem xa_19 (t : Nat → ClassId) (ad : Nat → Nat) : sr_ja (xcf t ad) (xty t) 62 19 60 := ⟨by decide, t 19, 14, fun _ _ _ => rfl, rfl⟩
theorem xa_20 (t : Nat → ClassId) (ad : Nat → Nat) : sr_ia (xcf t ad) (xty t) 62 20 60 .byte := ⟨by decide, t 20, 15, fun _ _ _ => rfl, rfl⟩
theorem xo_21 (t : Nat → ClassId) (ad : Nat → Nat) : sr_ob vwCl (xcf t ad) 62 21 RX0 := ⟨by decide, 0, (RX0, TX0, 5), fun R => [.int (R 0), .int (R 1), .int (R 2), .ref (ad 22), .ref (ad 23)], rfl, rfl, fun _ _ _ => rfl⟩
theorem xf_21_0 (t : Nat → ClassId) (ad : Nat → Nat) : sr_fi vwCl (xcf t ad) 62 21 RX0 TX0 5 0 := ⟨by decide, by decide, rfl, 0, fun R => [.int (R 0), .int (R 1), .int (R 2), .ref (ad 22), .ref (ad 23)], rfl, fun _ _ _ => rfl, fun _ => rfl, fun _ _ => rfl⟩
theorem xf_21_1 (t : Nat → ClassId) (ad : Nat → Nat) : sr_fi vwCl (xcf t ad) 62 21 RX0 TX0 5 1 := ⟨by decide, by decide, rfl, 0, fun R => [.int (R 0), .int (R 1), .int (R 2), .ref (ad 22), .ref (ad 23)], rfl, fun _ _ _ => rfl, fun _ => rfl, fun _ _ => rfl⟩
theorem xf_21_2 (t : Nat → ClassId) (ad : Nat → Nat) : sr_fi vwCl (xcf t ad) 62 21 RX0 TX0 5 2 := ⟨by decide, by decide, rfl, 0, fun R => [.int (R 0), .int (R 1), .int (R 2), .ref (ad 22), .ref (ad 23)], rfl, fun _ _ _ => rfl, fun _ => rfl, fun _ _ => rfl⟩
theorem xf_21_3 (t : Nat → ClassId) (ad : Nat → Nat) : sr_fr vwCl (xcf t ad) 62 21 RX0 TX0 5 3 (ad 22) := ⟨by decide, by decide, rfl, 0, fun R => [.int (R 0), .int (R 1), .int (R 2), .ref (ad 22), .ref (ad 23)], rfl, fun _ _ _ => rfl, fun _ => rfl⟩
theorem xf_21_4 (t : Nat → ClassId) (ad : Nat → Nat) : sr_fr vwCl (xcf t ad) 62 21 RX0 TX0 5 4 (ad 23) := ⟨by decide, by decide, rfl, 0, fun R => [.int (R 0), .int (R 1), .int (R 2), .ref (ad 22), .ref (ad 23)], rfl, fun _ _ _ => rfl, fun _ => rfl⟩
theorem xa_22 (t : Nat → ClassId) (ad : Nat → Nat) : sr_ja (xcf t ad) (xty t) 62 22 60 := ⟨by decide, t 22, 16, fun _ _ _ => rfl, rfl⟩
theorem xa_23 (t : Nat → ClassId) (ad : Nat → Nat) : sr_ia (xcf t ad) (xty t) 62 23 60 .byte := ⟨by decide, t 23, 17, fun _ _ _ => rfl, rfl⟩
theorem xo_24 (t : Nat → ClassId) (ad : Nat → Nat) : sr_ob vwCl (xcf t ad) 62 24 RX0 := ⟨by decide, 0, (RX0, TX0, 5), fun R => [.int (R 0), .int (R 1), .int (R 2), .ref (ad 25), .ref (ad 26)], rfl, rfl, fun _ _ _ => rfl⟩
theorem xf_24_0 (t : Nat → ClassId) (ad : Nat → Nat) : sr_fi vwCl (xcf t ad) 62 24 RX0 TX0 5 0 := ⟨by decide, by decide, rfl, 0, fun R => [.int (R 0), .int (R 1), .int (R 2), .ref (ad 25), .ref (ad 26)], rfl, fun _ _ _ => rfl, fun _ => rfl, fun _ _ => rfl⟩
theorem xf_24_1 (t : Nat → ClassId) (ad : Nat → Nat) : sr_fi vwCl (xcf t ad) 62 24 RX0 TX0 5 1 := ⟨by decide, by decide, rfl, 0, fun R => [.int (R 0), .int (R 1), .int (R 2), .ref (ad 25), .ref (ad 26)], rfl, fun _ _ _ => rfl, fun _ => rfl, fun _ _ => rfl⟩
theorem xf_24_2 (t : Nat → ClassId) (ad : Nat → Nat) : sr_fi vwCl (xcf t ad) 62 24 RX0 TX0 5 2 := ⟨by decide, by decide, rfl, 0, fun R => [.int (R 0), .int (R 1), .int (R 2), .ref (ad 25), .ref (ad 26)], rfl, fun _ _ _ => rfl, fun _ => rfl, fun _ _ => rfl⟩
theorem xf_24_3 (t : Nat → ClassId) (ad : Nat → Nat) : sr_fr vwCl (xcf t ad) 62 24 RX0 TX0 5 3 (ad 25) := ⟨by decide, by decide, rfl, 0, fun R => [.int (R 0), .int (R 1), .int (R 2), .ref (ad 25), .ref (ad 26)], rfl, fun _ _ _ => rfl, fun _ => rfl⟩
theorem xf_24_4 (t : Nat → ClassId) (ad : Nat → Nat) : sr_fr vwCl (xcf t ad) 62 24 RX0 TX0 5 4 (ad 26) := ⟨by decide, by decide, rfl, 0, fun R => [.int (R 0), .int (R 1), .int (R 2), .ref (ad 25), .ref (ad 26)], rfl, fun _ _ _ => rfl, fun _ => rfl⟩
theorem xa_25 (t : Nat → ClassId) (ad : Nat → Nat) : sr_ja (xcf t ad) (xty t) 62 25 60 := ⟨by decide, t 25, 18, fun _ _ _ => rfl, rfl⟩
theorem xa_26 (t : Nat → ClassId) (ad : Nat → Nat) : sr_ia (xcf t ad) (xty t) 62 26 60 .byte := ⟨by decide, t 26, 19, fun _ _ _ => rfl, rfl⟩
theorem xo_27 (t : Nat → ClassId) (ad : Nat → Nat) : sr_ob vwCl (xcf t ad) 62 27 RX0 := ⟨by decide, 0, (RX0, TX0, 5), fun R => [.int (R 0), .int (R 1), .int (R 2), .ref (ad 28), .ref (ad 29)], rfl, rfl, fun _ _ _ => rfl⟩
theorem xf_27_0 (t : Nat → ClassId) (ad : Nat → Nat) : sr_fi vwCl (xcf t ad) 62 27 RX0 TX0 5 0 := ⟨by decide, by decide, rfl, 0, fun R => [.int (R 0), .int (R 1), .int (R 2), .ref (ad 28), .ref (ad 29)], rfl, fun _ _ _ => rfl, fun _ => rfl, fun _ _ => rfl⟩
theorem xf_27_1 (t : Nat → ClassId) (ad : Nat → Nat) : sr_fi vwCl (xcf t ad) 62 27 RX0 TX0 5 1 := ⟨by decide, by decide, rfl, 0, fun R => [.int (R 0), .int (R 1), .int (R 2), .ref (ad 28), .ref (ad 29)], rfl, fun _ _ _ => rfl, fun _ => rfl, fun _ _ => rfl⟩
theorem xf_27_2 (t : Nat → ClassId) (ad : Nat → Nat) : sr_fi vwCl (xcf t ad) 62 27 RX0 TX0 5 2 := ⟨by decide, by decide, rfl, 0, fun R => [.int (R 0), .int (R 1), .int (R 2), .ref (ad 28), .ref (ad 29)], rfl, fun _ _ _ => rfl, fun _ => rfl, fun _ _ => rfl⟩
theorem xf_27_3 (t : Nat → ClassId) (ad : Nat → Nat) : sr_fr vwCl (xcf t ad) 62 27 RX0 TX0 5 3 (ad 28) := ⟨by decide, by decide, rfl, 0, fun R => [.int (R 0), .int (R 1), .int (R 2), .ref (ad 28), .ref (ad 29)], rfl, fun _ _ _ => rfl, fun _ => rfl⟩
theorem xf_27_4 (t : Nat → ClassId) (ad : Nat → Nat) : sr_fr vwCl (xcf t ad) 62 27 RX0 TX0 5 4 (ad 29) := ⟨by decide, by decide, rfl, 0, fun R => [.int (R 0), .int (R 1), .int (R 2), .ref (ad 28), .ref (ad 29)], rfl, fun _ _ _ => rfl, fun _ => rfl⟩
theorem xa_28 (t : Nat → ClassId) (ad : Nat → Nat) : sr_ja (xcf t ad) (xty t) 62 28 60 := ⟨by decide, t 28, 20, fun _ _ _ => rfl, rfl⟩
theorem xa_29 (t : Nat → ClassId) (ad : Nat → Nat) : sr_ia (xcf t ad) (xty t) 62 29 60 .byte := ⟨by decide, t 29, 21, fun _ _ _ => rfl, rfl⟩
theorem xo_30 (t : Nat → ClassId) (ad : Nat → Nat) : sr_ob vwCl (xcf t ad) 62 30 RX1 := ⟨by decide, 1, (RX1, TX1, 16), fun R => [.ref (ad 1), .int (R 1), .int (R 2), .ref (ad 31), .ref (ad 32), .ref (ad 33), .ref (ad 34), .ref (ad 35), .ref (ad 36), .int (R 9), .ref (ad 37), .ref (ad 38), .ref (ad 39), .ref (ad 40), .ref (ad 41), .ref (ad 42)], rfl, rfl, fun _ _ _ => rfl⟩
theorem xf_30_0 (t : Nat → ClassId) (ad : Nat → Nat) : sr_fr vwCl (xcf t ad) 62 30 RX1 TX1 16 0 (ad 1) := ⟨by decide, by decide, rfl, 1, fun R => [.ref (ad 1), .int (R 1), .int (R 2), .ref (ad 31), .ref (ad 32), .ref (ad 33), .ref (ad 34), .ref (ad 35), .ref (ad 36), .int (R 9), .ref (ad 37), .ref (ad 38), .ref (ad 39), .ref (ad 40), .ref (ad 41), .ref (ad 42)], rfl, fun _ _ _ => rfl, fun _ => rfl⟩
theorem xf_30_1 (t : Nat → ClassId) (ad : Nat → Nat) : sr_fi vwCl (xcf t ad) 62 30 RX1 TX1 16 1 := ⟨by decide, by decide, rfl, 1, fun R => [.ref (ad 1), .int (R 1), .int (R 2), .ref (ad 31), .ref (ad 32), .ref (ad 33), .ref (ad 34), .ref (ad 35), .ref (ad 36), .int (R 9), .ref (ad 37), .ref (ad 38), .ref (ad 39), .ref (ad 40), .ref (ad 41), .ref (ad 42)], rfl, fun _ _ _ => rfl, fun _ => rfl, fun _ _ => rfl⟩
theorem xf_30_2 (t : Nat → ClassId) (ad : Nat → Nat) : sr_fi vwCl (xcf t ad) 62 30 RX1 TX1 16 2 := ⟨by decide, by decide, rfl, 1, fun R => [.ref (ad 1), .int (R 1), .int (R 2), .ref (ad 31), .ref (ad 32), .ref (ad 33), .ref (ad 34), .ref (ad 35), .ref (ad 36), .int (R 9), .ref (ad 37), .ref (ad 38), .ref (ad 39), .ref (ad 40), .ref (ad 41), .ref (ad 42)], rfl, fun _ _ _ => rfl, fun _ => rfl, fun _ _ => rfl⟩
theorem xf_30_3 (t : Nat → ClassId) (ad : Nat → Nat) : sr_fr vwCl (xcf t ad) 62 30 RX1 TX1 16 3 (ad 31) := ⟨by decide, by decide, rfl, 1, fun R => [.ref (ad 1), .int (R 1), .int (R 2), .ref (ad 31), .ref (ad 32), .ref (ad 33), .ref (ad 34), .ref (ad 35), .ref (ad 36), .int (R 9), .ref (ad 37), .ref (ad 38), .ref (ad 39), .ref (ad 40), .ref (ad 41), .ref (ad 42)], rfl, fun _ _ _ => rfl, fun _ => rfl⟩
theorem xf_30_4 (t : Nat → ClassId) (ad : Nat → Nat) : sr_fr vwCl (xcf t ad) 62 30 RX1 TX1 16 4 (ad 32) := ⟨by decide, by decide, rfl, 1, fun R => [.ref (ad 1), .int (R 1), .int (R 2), .ref (ad 31), .ref (ad 32), .ref (ad 33), .ref (ad 34), .ref (ad 35), .ref (ad 36), .int (R 9), .ref (ad 37), .ref (ad 38), .ref (ad 39), .ref (ad 40), .ref (ad 41), .ref (ad 42)], rfl, fun _ _ _ => rfl, fun _ => rfl⟩
theorem xf_30_5 (t : Nat → ClassId) (ad : Nat → Nat) : sr_fr vwCl (xcf t ad) 62 30 RX1 TX1 16 5 (ad 33) := ⟨by decide, by decide, rfl, 1, fun R => [.ref (ad 1), .int (R 1), .int (R 2), .ref (ad 31), .ref (ad 32), .ref (ad 33), .ref (ad 34), .ref (ad 35), .ref (ad 36), .int (R 9), .ref (ad 37), .ref (ad 38), .ref (ad 39), .ref (ad 40), .ref (ad 41), .ref (ad 42)], rfl, fun _ _ _ => rfl, fun _ => rfl⟩
theorem xf_30_6 (t : Nat → ClassId) (ad : Nat → Nat) : sr_fr vwCl (xcf t ad) 62 30 RX1 TX1 16 6 (ad 34) := ⟨by decide, by decide, rfl, 1, fun R => [.ref (ad 1), .int (R 1), .int (R 2), .ref (ad 31), .ref (ad 32), .ref (ad 33), .ref (ad 34), .ref (ad 35), .ref (ad 36), .int (R 9), .ref (ad 37), .ref (ad 38), .ref (ad 39), .ref (ad 40), .ref (ad 41), .ref (ad 42)], rfl, fun _ _ _ => rfl, fun _ => rfl⟩
theorem xf_30_7 (t : Nat → ClassId) (ad : Nat → Nat) : sr_fr vwCl (xcf t ad) 62 30 RX1 TX1 16 7 (ad 35) := ⟨by decide, by decide, rfl, 1, fun R => [.ref (ad 1), .int (R 1), .int (R 2), .ref (ad 31), .ref (ad 32), .ref (ad 33), .ref (ad 34), .ref (ad 35), .ref (ad 36), .int (R 9), .ref (ad 37), .ref (ad 38), .ref (ad 39), .ref (ad 40), .ref (ad 41), .ref (ad 42)], rfl, fun _ _ _ => rfl, fun _ => rfl⟩
theorem xf_30_8 (t : Nat → ClassId) (ad : Nat → Nat) : sr_fr vwCl (xcf t ad) 62 30 RX1 TX1 16 8 (ad 36) := ⟨by decide, by decide, rfl, 1, fun R => [.ref (ad 1), .int (R 1), .int (R 2), .ref (ad 31), .ref (ad 32), .ref (ad 33), .ref (ad 34), .ref (ad 35), .ref (ad 36), .int (R 9), .ref (ad 37), .ref (ad 38), .ref (ad 39), .ref (ad 40), .ref (ad 41), .ref (ad 42)], rfl, fun _ _ _ => rfl, fun _ => rfl⟩
theorem xf_30_9 (t : Nat → ClassId) (ad : Nat → Nat) : sr_fi vwCl (xcf t ad) 62 30 RX1 TX1 16 9 := ⟨by decide, by decide, rfl, 1, fun R => [.ref (ad 1), .int (R 1), .int (R 2), .ref (ad 31), .ref (ad 32), .ref (ad 33), .ref (ad 34), .ref (ad 35), .ref (ad 36), .int (R 9), .ref (ad 37), .ref (ad 38), .ref (ad 39), .ref (ad 40), .ref (ad 41), .ref (ad 42)], rfl, fun _ _ _ => rfl, fun _ => rfl, fun _ _ => rfl⟩
theorem xf_30_10 (t : Nat → ClassId) (ad : Nat → Nat) : sr_fr vwCl (xcf t ad) 62 30 RX1 TX1 16 10 (ad 37) := ⟨by decide, by decide, rfl, 1, fun R => [.ref (ad 1), .int (R 1), .int (R 2), .ref (ad 31), .ref (ad 32), .ref (ad 33), .ref (ad 34), .ref (ad 35), .ref (ad 36), .int (R 9), .ref (ad 37), .ref (ad 38), .ref (ad 39), .ref (ad 40), .ref (ad 41), .ref (ad 42)], rfl, fun _ _ _ => rfl, fun _ => rfl⟩
theorem xf_30_11 (t : Nat → ClassId) (ad : Nat → Nat) : sr_fr vwCl (xcf t ad) 62 30 RX1 TX1 16 11 (ad 38) := ⟨by decide, by decide, rfl, 1, fun R => [.ref (ad 1), .int (R 1), .int (R 2), .ref (ad 31), .ref (ad 32), .ref (ad 33), .ref (ad 34), .ref (ad 35), .ref (ad 36), .int (R 9), .ref (ad 37), .ref (ad 38), .ref (ad 39), .ref (ad 40), .ref (ad 41), .ref (ad 42)], rfl, fun _ _ _ => rfl, fun _ => rfl⟩
theorem xf_30_12 (t : Nat → ClassId) (ad : Nat → Nat) : sr_fr vwCl (xcf t ad) 62 30 RX1 TX1 16 12 (ad 39) := ⟨by decide, by decide, rfl, 1, fun R => [.ref (ad 1), .int (R 1), .int (R 2), .ref (ad 31), .ref (ad 32), .ref (ad 33), .ref (ad 34), .ref (ad 35), .ref (ad 36), .int (R 9), .ref (ad 37), .ref (ad 38), .ref (ad 39), .ref (ad 40), .ref (ad 41), .ref (ad 42)], rfl, fun _ _ _ => rfl, fun _ => rfl⟩
theorem xf_30_13 (t : Nat → ClassId) (ad : Nat → Nat) : sr_fr vwCl (xcf t ad) 62 30 RX1 TX1 16 13 (ad 40) := ⟨by decide, by decide, rfl, 1, fun R => [.ref (ad 1), .int (R 1), .int (R 2), .ref (ad 31), .ref (ad 32), .ref (ad 33), .ref (ad 34), .ref (ad 35), .ref (ad 36), .int (R 9), .ref (ad 37), .ref (ad 38), .ref (ad 39), .ref (ad 40), .ref (ad 41), .ref (ad 42)], rfl, fun _ _ _ => rfl, fun _ => rfl⟩
theorem xf_30_14 (t : Nat → ClassId) (ad : Nat → Nat) : sr_fr vwCl (xcf t ad) 62 30 RX1 TX1 16 14 (ad 41) := ⟨by decide, by decide, rfl, 1, fun R => [.ref (ad 1), .int (R 1), .int (R 2), .ref (ad 31), .ref (ad 32), .ref (ad 33), .ref (ad 34), .ref (ad 35), .ref (ad 36), .int (R 9), .ref (ad 37), .ref (ad 38), .ref (ad 39), .ref (ad 40), .ref (ad 41), .ref (ad 42)], rfl, fun _ _ _ => rfl, fun _ => rfl⟩
theorem xf_30_15 (t : Nat → ClassId) (ad : Nat → Nat) : sr_fr vwCl (xcf t ad) 62 30 RX1 TX1 16 15 (ad 42) := ⟨by decide, by decide, rfl, 1, fun R => [.ref (ad 1), .int (R 1), .int (R 2), .ref (ad 31), .ref (ad 32), .ref (ad 33), .ref (ad 34), .ref (ad 35), .ref (ad 36), .int (R 9), .ref (ad 37), .ref (ad 38), .ref (ad 39), .ref (ad 40), .ref (ad 41), .ref (ad 42)], rfl, fun _ _ _ => rfl, fun _ => rfl⟩
theorem xa_31 (t : Nat → ClassId) (ad : Nat → Nat) : sr_ia (xcf t ad) (xty t) 62 31 121 .int := ⟨by decide, t 31, 22, fun _ _ _ => rfl, rfl⟩
theorem xa_32 (t : Nat → ClassId) (ad : Nat → Nat) : sr_ia (xcf t ad) (xty t) 62 32 121 .int := ⟨by decide, t 32, 23, fun _ _ _ => rfl, rfl⟩
theorem xa_33 (t : Nat → ClassId) (ad : Nat → Nat) : sr_ia (xcf t ad) (xty t) 62 33 120 .int := ⟨by decide, t 33, 24, fun _ _ _ => rfl, rfl⟩
theorem xa_34 (t : Nat → ClassId) (ad : Nat → Nat) : sr_ia (xcf t ad) (xty t) 62 34 120 .int := ⟨by decide, t 34, 25, fun _ _ _ => rfl, rfl⟩
theorem xa_35 (t : Nat → ClassId) (ad : Nat → Nat) : sr_ia (xcf t ad) (xty t) 62 35 120 .int := ⟨by decide, t 35, 26, fun _ _ _ => rfl, rfl⟩
theorem xa_36 (t : Nat → ClassId) (ad : Nat → Nat) : sr_ia (xcf t ad) (xty t) 62 36 120 .int := ⟨by decide, t 36, 27, fun _ _ _ => rfl, rfl⟩
theorem xa_37 (t : Nat → ClassId) (ad : Nat → Nat) : sr_ia (xcf t ad) (xty t) 62 37 120 .int := ⟨by decide, t 37, 28, fun _ _ _ => rfl, rfl⟩
theorem xa_38 (t : Nat → ClassId) (ad : Nat → Nat) : sr_ia (xcf t ad) (xty t) 62 38 120 .int := ⟨by decide, t 38, 29, fun _ _ _ => rfl, rfl⟩
theorem xa_39 (t : Nat → ClassId) (ad : Nat → Nat) : sr_ia (xcf t ad) (xty t) 62 39 120 .int := ⟨by decide, t 39, 30, fun _ _ _ => rfl, rfl⟩
theorem xa_40 (t : Nat → ClassId) (ad : Nat → Nat) : sr_ia (xcf t ad) (xty t) 62 40 120 .int := ⟨by decide, t 40, 31, fun _ _ _ => rfl, rfl⟩
theorem xa_41 (t : Nat → ClassId) (ad : Nat → Nat) : sr_ia (xcf t ad) (xty t) 62 41 120 .int := ⟨by decide, t 41, 32, fun _ _ _ => rfl, rfl⟩
theorem xa_42 (t : Nat → ClassId) (ad : Nat → Nat) : sr_ia (xcf t ad) (xty t) 62 42 120 .boolean := ⟨by decide, t 42, 33, fun _ _ _ => rfl, rfl⟩
theorem xo_43 (t : Nat → ClassId) (ad : Nat → Nat) : sr_ob vwCl (xcf t ad) 62 43 RX1 := ⟨by decide, 1, (RX1, TX1, 16), fun R => [.ref (ad 1), .int (R 1), .int (R 2), .ref (ad 44), .ref (ad 45), .ref (ad 46), .ref (ad 47), .ref (ad 48), .ref (ad 49), .int (R 9), .ref (ad 50), .ref (ad 51), .ref (ad 52), .ref (ad 53), .ref (ad 54), .ref (ad 55)], rfl, rfl, fun _ _ _ => rfl⟩
theorem xf_43_0 (t : Nat → ClassId) (ad : Nat → Nat) : sr_fr vwCl (xcf t ad) 62 43 RX1 TX1 16 0 (ad 1) := ⟨by decide, by decide, rfl, 1, fun R => [.ref (ad 1), .int (R 1), .int (R 2), .ref (ad 44), .ref (ad 45), .ref (ad 46), .ref (ad 47), .ref (ad 48), .ref (ad 49), .int (R 9), .ref (ad 50), .ref (ad 51), .ref (ad 52), .ref (ad 53), .ref (ad 54), .ref (ad 55)], rfl, fun _ _ _ => rfl, fun _ => rfl⟩
theorem xf_43_1 (t : Nat → ClassId) (ad : Nat → Nat) : sr_fi vwCl (xcf t ad) 62 43 RX1 TX1 16 1 := ⟨by decide, by decide, rfl, 1, fun R => [.ref (ad 1), .int (R 1), .int (R 2), .ref (ad 44), .ref (ad 45), .ref (ad 46), .ref (ad 47), .ref (ad 48), .ref (ad 49), .int (R 9), .ref (ad 50), .ref (ad 51), .ref (ad 52), .ref (ad 53), .ref (ad 54), .ref (ad 55)], rfl, fun _ _ _ => rfl, fun _ => rfl, fun _ _ => rfl⟩
theorem xf_43_2 (t : Nat → ClassId) (ad : Nat → Nat) : sr_fi vwCl (xcf t ad) 62 43 RX1 TX1 16 2 := ⟨by decide, by decide, rfl, 1, fun R => [.ref (ad 1), .int (R 1), .int (R 2), .ref (ad 44), .ref (ad 45), .ref (ad 46), .ref (ad 47), .ref (ad 48), .ref (ad 49), .int (R 9), .ref (ad 50), .ref (ad 51), .ref (ad 52), .ref (ad 53), .ref (ad 54), .ref (ad 55)], rfl, fun _ _ _ => rfl, fun _ => rfl, fun _ _ => rfl⟩
theorem xf_43_3 (t : Nat → ClassId) (ad : Nat → Nat) : sr_fr vwCl (xcf t ad) 62 43 RX1 TX1 16 3 (ad 44) := ⟨by decide, by decide, rfl, 1, fun R => [.ref (ad 1), .int (R 1), .int (R 2), .ref (ad 44), .ref (ad 45), .ref (ad 46), .ref (ad 47), .ref (ad 48), .ref (ad 49), .int (R 9), .ref (ad 50), .ref (ad 51), .ref (ad 52), .ref (ad 53), .ref (ad 54), .ref (ad 55)], rfl, fun _ _ _ => rfl, fun _ => rfl⟩
theorem xf_43_4 (t : Nat → ClassId) (ad : Nat → Nat) : sr_fr vwCl (xcf t ad) 62 43 RX1 TX1 16 4 (ad 45) := ⟨by decide, by decide, rfl, 1, fun R => [.ref (ad 1), .int (R 1), .int (R 2), .ref (ad 44), .ref (ad 45), .ref (ad 46), .ref (ad 47), .ref (ad 48), .ref (ad 49), .int (R 9), .ref (ad 50), .ref (ad 51), .ref (ad 52), .ref (ad 53), .ref (ad 54), .ref (ad 55)], rfl, fun _ _ _ => rfl, fun _ => rfl⟩
theorem xf_43_5 (t : Nat → ClassId) (ad : Nat → Nat) : sr_fr vwCl (xcf t ad) 62 43 RX1 TX1 16 5 (ad 46) := ⟨by decide, by decide, rfl, 1, fun R => [.ref (ad 1), .int (R 1), .int (R 2), .ref (ad 44), .ref (ad 45), .ref (ad 46), .ref (ad 47), .ref (ad 48), .ref (ad 49), .int (R 9), .ref (ad 50), .ref (ad 51), .ref (ad 52), .ref (ad 53), .ref (ad 54), .ref (ad 55)], rfl, fun _ _ _ => rfl, fun _ => rfl⟩
theorem xf_43_6 (t : Nat → ClassId) (ad : Nat → Nat) : sr_fr vwCl (xcf t ad) 62 43 RX1 TX1 16 6 (ad 47) := ⟨by decide, by decide, rfl, 1, fun R => [.ref (ad 1), .int (R 1), .int (R 2), .ref (ad 44), .ref (ad 45), .ref (ad 46), .ref (ad 47), .ref (ad 48), .ref (ad 49), .int (R 9), .ref (ad 50), .ref (ad 51), .ref (ad 52), .ref (ad 53), .ref (ad 54), .ref (ad 55)], rfl, fun _ _ _ => rfl, fun _ => rfl⟩
theorem xf_43_7 (t : Nat → ClassId) (ad : Nat → Nat) : sr_fr vwCl (xcf t ad) 62 43 RX1 TX1 16 7 (ad 48) := ⟨by decide, by decide, rfl, 1, fun R => [.ref (ad 1), .int (R 1), .int (R 2), .ref (ad 44), .ref (ad 45), .ref (ad 46), .ref (ad 47), .ref (ad 48), .ref (ad 49), .int (R 9), .ref (ad 50), .ref (ad 51), .ref (ad 52), .ref (ad 53), .ref (ad 54), .ref (ad 55)], rfl, fun _ _ _ => rfl, fun _ => rfl⟩
theorem xf_43_8 (t : Nat → ClassId) (ad : Nat → Nat) : sr_fr vwCl (xcf t ad) 62 43 RX1 TX1 16 8 (ad 49) := ⟨by decide, by decide, rfl, 1, fun R => [.ref (ad 1), .int (R 1), .int (R 2), .ref (ad 44), .ref (ad 45), .ref (ad 46), .ref (ad 47), .ref (ad 48), .ref (ad 49), .int (R 9), .ref (ad 50), .ref (ad 51), .ref (ad 52), .ref (ad 53), .ref (ad 54), .ref (ad 55)], rfl, fun _ _ _ => rfl, fun _ => rfl⟩
theorem xf_43_9 (t : Nat → ClassId) (ad : Nat → Nat) : sr_fi vwCl (xcf t ad) 62 43 RX1 TX1 16 9 := ⟨by decide, by decide, rfl, 1, fun R => [.ref (ad 1), .int (R 1), .int (R 2), .ref (ad 44), .ref (ad 45), .ref (ad 46), .ref (ad 47), .ref (ad 48), .ref (ad 49), .int (R 9), .ref (ad 50), .ref (ad 51), .ref (ad 52), .ref (ad 53), .ref (ad 54), .ref (ad 55)], rfl, fun _ _ _ => rfl, fun _ => rfl, fun _ _ => rfl⟩
theorem xf_43_10 (t : Nat → ClassId) (ad : Nat → Nat) : sr_fr vwCl (xcf t ad) 62 43 RX1 TX1 16 10 (ad 50) := ⟨by decide, by decide, rfl, 1, fun R => [.ref (ad 1), .int (R 1), .int (R 2), .ref (ad 44), .ref (ad 45), .ref (ad 46), .ref (ad 47), .ref (ad 48), .ref (ad 49), .int (R 9), .ref (ad 50), .ref (ad 51), .ref (ad 52), .ref (ad 53), .ref (ad 54), .ref (ad 55)], rfl, fun _ _ _ => rfl, fun _ => rfl⟩
theorem xf_43_11 (t : Nat → ClassId) (ad : Nat → Nat) : sr_fr vwCl (xcf t ad) 62 43 RX1 TX1 16 11 (ad 51) := ⟨by decide, by decide, rfl, 1, fun R => [.ref (ad 1), .int (R 1), .int (R 2), .ref (ad 44), .ref (ad 45), .ref (ad 46), .ref (ad 47), .ref (ad 48), .ref (ad 49), .int (R 9), .ref (ad 50), .ref (ad 51), .ref (ad 52), .ref (ad 53), .ref (ad 54), .ref (ad 55)], rfl, fun _ _ _ => rfl, fun _ => rfl⟩
theorem xf_43_12 (t : Nat → ClassId) (ad : Nat → Nat) : sr_fr vwCl (xcf t ad) 62 43 RX1 TX1 16 12 (ad 52) := ⟨by decide, by decide, rfl, 1, fun R => [.ref (ad 1), .int (R 1), .int (R 2), .ref (ad 44), .ref (ad 45), .ref (ad 46), .ref (ad 47), .ref (ad 48), .ref (ad 49), .int (R 9), .ref (ad 50), .ref (ad 51), .ref (ad 52), .ref (ad 53), .ref (ad 54), .ref (ad 55)], rfl, fun _ _ _ => rfl, fun _ => rfl⟩
theorem xf_43_13 (t : Nat → ClassId) (ad : Nat → Nat) : sr_fr vwCl (xcf t ad) 62 43 RX1 TX1 16 13 (ad 53) := ⟨by decide, by decide, rfl, 1, fun R => [.ref (ad 1), .int (R 1), .int (R 2), .ref (ad 44), .ref (ad 45), .ref (ad 46), .ref (ad 47), .ref (ad 48), .ref (ad 49), .int (R 9), .ref (ad 50), .ref (ad 51), .ref (ad 52), .ref (ad 53), .ref (ad 54), .ref (ad 55)], rfl, fun _ _ _ => rfl, fun _ => rfl⟩
theorem xf_43_14 (t : Nat → ClassId) (ad : Nat → Nat) : sr_fr vwCl (xcf t ad) 62 43 RX1 TX1 16 14 (ad 54) := ⟨by decide, by decide, rfl, 1, fun R => [.ref (ad 1), .int (R 1), .int (R 2), .ref (ad 44), .ref (ad 45), .ref (ad 46), .ref (ad 47), .ref (ad 48), .ref (ad 49), .int (R 9), .ref (ad 50), .ref (ad 51), .ref (ad 52), .ref (ad 53), .ref (ad 54), .ref (ad 55)], rfl, fun _ _ _ => rfl, fun _ => rfl⟩
theorem xf_43_15 (t : Nat → ClassId) (ad : Nat → Nat) : sr_fr vwCl (xcf t ad) 62 43 RX1 TX1 16 15 (ad 55) := ⟨by decide, by decide, rfl, 1, fun R => [.ref (ad 1), .int (R 1), .int (R 2), .ref (ad 44), .ref (ad 45), .ref (ad 46), .ref (ad 47), .ref (ad 48), .ref (ad 49), .int (R 9), .ref (ad 50), .ref (ad 51), .ref (ad 52), .ref (ad 53), .ref (ad 54), .ref (ad 55)], rfl, fun _ _ _ => rfl, fun _ => rfl⟩
theorem xa_44 (t : Nat → ClassId) (ad : Nat → Nat) : sr_ia (xcf t ad) (xty t) 62 44 121 .int := ⟨by decide, t 44, 34, fun _ _ _ => rfl, rfl⟩
theorem xa_45 (t : Nat → ClassId) (ad : Nat → Nat) : sr_ia (xcf t ad) (xty t) 62 45 121 .int := ⟨by decide, t 45, 35, fun _ _ _ => rfl, rfl⟩
theorem xa_46 (t : Nat → ClassId) (ad : Nat → Nat) : sr_ia (xcf t ad) (xty t) 62 46 120 .int := ⟨by decide, t 46, 36, fun _ _ _ => rfl, rfl⟩
theorem xa_47 (t : Nat → ClassId) (ad : Nat → Nat) : sr_ia (xcf t ad) (xty t) 62 47 120 .int := ⟨by decide, t 47, 37, fun _ _ _ => rfl, rfl⟩
theorem xa_48 (t : Nat → ClassId) (ad : Nat → Nat) : sr_ia (xcf t ad) (xty t) 62 48 120 .int := ⟨by decide, t 48, 38, fun _ _ _ => rfl, rfl⟩
theorem xa_49 (t : Nat → ClassId) (ad : Nat → Nat) : sr_ia (xcf t ad) (xty t) 62 49 120 .int := ⟨by decide, t 49, 39, fun _ _ _ => rfl, rfl⟩
theorem xa_50 (t : Nat → ClassId) (ad : Nat → Nat) : sr_ia (xcf t ad) (xty t) 62 50 120 .int := ⟨by decide, t 50, 40, fun _ _ _ => rfl, rfl⟩
theorem xa_51 (t : Nat → ClassId) (ad : Nat → Nat) : sr_ia (xcf t ad) (xty t) 62 51 120 .int := ⟨by decide, t 51, 41, fun _ _ _ => rfl, rfl⟩
theorem xa_52 (t : Nat → ClassId) (ad : Nat → Nat) : sr_ia (xcf t ad) (xty t) 62 52 120 .int := ⟨by decide, t 52, 42, fun _ _ _ => rfl, rfl⟩
theorem xa_53 (t : Nat → ClassId) (ad : Nat → Nat) : sr_ia (xcf t ad) (xty t) 62 53 120 .int := ⟨by decide, t 53, 43, fun _ _ _ => rfl, rfl⟩
theorem xa_54 (t : Nat → ClassId) (ad : Nat → Nat) : sr_ia (xcf t ad) (xty t) 62 54 120 .int := ⟨by decide, t 54, 44, fun _ _ _ => rfl, rfl⟩
theorem xa_55 (t : Nat → ClassId) (ad : Nat → Nat) : sr_ia (xcf t ad) (xty t) 62 55 120 .boolean := ⟨by decide, t 55, 45, fun _ _ _ => rfl, rfl⟩
theorem xo_56 (t : Nat → ClassId) (ad : Nat → Nat) : sr_ob vwCl (xcf t ad) 62 56 RX3 := ⟨by decide, 3, (RX3, TX3, 5), fun R => [.ref (ad 1), .ref (ad 57), .ref (ad 58), .ref (ad 59), .ref (ad 60)], rfl, rfl, fun _ _ _ => rfl⟩
theorem xf_56_0 (t : Nat → ClassId) (ad : Nat → Nat) : sr_fr vwCl (xcf t ad) 62 56 RX3 TX3 5 0 (ad 1) := ⟨by decide, by decide, rfl, 3, fun R => [.ref (ad 1), .ref (ad 57), .ref (ad 58), .ref (ad 59), .ref (ad 60)], rfl, fun _ _ _ => rfl, fun _ => rfl⟩
theorem xf_56_1 (t : Nat → ClassId) (ad : Nat → Nat) : sr_fr vwCl (xcf t ad) 62 56 RX3 TX3 5 1 (ad 57) := ⟨by decide, by decide, rfl, 3, fun R => [.ref (ad 1), .ref (ad 57), .ref (ad 58), .ref (ad 59), .ref (ad 60)], rfl, fun _ _ _ => rfl, fun _ => rfl⟩
theorem xf_56_2 (t : Nat → ClassId) (ad : Nat → Nat) : sr_fr vwCl (xcf t ad) 62 56 RX3 TX3 5 2 (ad 58) := ⟨by decide, by decide, rfl, 3, fun R => [.ref (ad 1), .ref (ad 57), .ref (ad 58), .ref (ad 59), .ref (ad 60)], rfl, fun _ _ _ => rfl, fun _ => rfl⟩
theorem xf_56_3 (t : Nat → ClassId) (ad : Nat → Nat) : sr_fr vwCl (xcf t ad) 62 56 RX3 TX3 5 3 (ad 59) := ⟨by decide, by decide, rfl, 3, fun R => [.ref (ad 1), .ref (ad 57), .ref (ad 58), .ref (ad 59), .ref (ad 60)], rfl, fun _ _ _ => rfl, fun _ => rfl⟩
theorem xf_56_4 (t : Nat → ClassId) (ad : Nat → Nat) : sr_fr vwCl (xcf t ad) 62 56 RX3 TX3 5 4 (ad 60) := ⟨by decide, by decide, rfl, 3, fun R => [.ref (ad 1), .ref (ad 57), .ref (ad 58), .ref (ad 59), .ref (ad 60)], rfl, fun _ _ _ => rfl, fun _ => rfl⟩
theorem xa_57 (t : Nat → ClassId) (ad : Nat → Nat) : sr_ia (xcf t ad) (xty t) 62 57 120 .int := ⟨by decide, t 57, 46, fun _ _ _ => rfl, rfl⟩
theorem xa_58 (t : Nat → ClassId) (ad : Nat → Nat) : sr_ia (xcf t ad) (xty t) 62 58 120 .int := ⟨by decide, t 58, 47, fun _ _ _ => rfl, rfl⟩
theorem xa_59 (t : Nat → ClassId) (ad : Nat → Nat) : sr_ia (xcf t ad) (xty t) 62 59 120 .int := ⟨by decide, t 59, 48, fun _ _ _ => rfl, rfl⟩
theorem xa_60 (t : Nat → ClassId) (ad : Nat → Nat) : sr_ia (xcf t ad) (xty t) 62 60 120 .int := ⟨by decide, t 60, 49, fun _ _ _ => rfl, rfl⟩
theorem xa_61 (t : Nat → ClassId) (ad : Nat → Nat) : sr_ia (xcf t ad) (xty t) 62 61 200 .int := ⟨by decide, t 61, 50, fun _ _ _ => rfl, rfl⟩
def ycl (t : Nat → ClassId) (ad : Nat → Nat) (R : Nat → Int32) (L : Nat → Int64) (D : Nat → UInt64) : List va_E :=
  [.inr (5, [.int (R 0), .ref (ad 1), .ref (ad 2), .int (R 3), .ref (ad 3), .ref (ad 4), .ref (ad 5), .ref (ad 6), .int (R 8), .ref (ad 7), .ref (ad 8), .ref (ad 9), .ref (ad 10), .int (R 13), .int (R 14), .ref (ad 11), .ref (ad 12), .ref (ad 13), .ref (ad 14), .int (R 19), .ref (ad 15), .ref (ad 16), .ref (ad 17), .ref (ad 18), .ref (ad 19), .int (R 25), .ref (ad 20), .ref (ad 21), .ref (ad 22), .ref (ad 23), .ref (ad 24), .ref (ad 25), .int (R 32)]),
   .inl (t 1, 120, .inl R),
   .inl (t 2, 120, .inl R),
   .inl (t 3, 300, .inl R),
   .inl (t 4, 300, .inl R),
   .inl (t 5, 300, .inl R),
   .inl (t 6, 300, .inl R),
   .inl (t 7, 6, .inl R),
   .inl (t 8, 6, .inl R),
   .inl (t 9, 360, .inr (.inl L)),
   .inl (t 10, 360, .inr (.inr (.inr (.inl D)))),
   .inl (t 11, 121, .inl R),
   .inl (t 12, 120, .inl R),
   .inl (t 13, 120, .inl R),
   .inl (t 14, 120, .inl R),
   .inl (t 15, 200, .inl R),
   .inl (t 16, 60, .inr (.inl L)),
   .inl (t 17, 60, .inr (.inr (.inr (.inl D)))),
   .inl (t 18, 120, .inl R),
   .inl (t 19, 120, .inl R),
   .inl (t 20, 120, .inl R),
   .inl (t 21, 120, .inl R),
   .inl (t 22, 121, .inl R),
   .inl (t 23, 120, .inl R),
   .inl (t 24, 120, .inl R),
   .inl (t 25, 120, .inl R)]
def ycf (t : Nat → ClassId) (ad : Nat → Nat) : sr_CF := fun k R L D => (ycl t ad R L D).getD k (.inl (t 0, 0, .inl R))
def yty (t : Nat → ClassId) : List (ClassId × FieldType) :=
  [(t 1, .int), (t 2, .boolean), (t 3, .int), (t 4, .int), (t 5, .int), (t 6, .boolean), (t 7, .int), (t 8, .int), (t 9, .long), (t 10, .double), (t 11, .int), (t 12, .int), (t 13, .int), (t 14, .int), (t 15, .int), (t 16, .long), (t 17, .double), (t 18, .boolean), (t 19, .int), (t 20, .int), (t 21, .int), (t 22, .int), (t 23, .int), (t 24, .int), (t 25, .int)]
abbrev yH (D : va_G) (t : Nat → ClassId) (ad : Nat → Nat) (A : Nat → Prop) (s : State) (M : sr_M) (H : Heap) (locs : List Loc) : Prop := sr_H D vwCl (yty t) ad (ycf t ad) 26 A s M H locs
theorem yo_0 (t : Nat → ClassId) (ad : Nat → Nat) : sr_ob vwCl (ycf t ad) 26 0 RX5 := ⟨by decide, 5, (RX5, TX5, 33), fun R => [.int (R 0), .ref (ad 1), .ref (ad 2), .int (R 3), .ref (ad 3), .ref (ad 4), .ref (ad 5), .ref (ad 6), .int (R 8), .ref (ad 7), .ref (ad 8), .ref (ad 9), .ref (ad 10), .int (R 13), .int (R 14), .ref (ad 11), .ref (ad 12), .ref (ad 13), .ref (ad 14), .int (R 19), .ref (ad 15), .ref (ad 16), .ref (ad 17), .ref (ad 18), .ref (ad 19), .int (R 25), .ref (ad 20), .ref (ad 21), .ref (ad 22), .ref (ad 23), .ref (ad 24), .ref (ad 25), .int (R 32)], rfl, rfl, fun _ _ _ => rfl⟩
theorem yf_0_0 (t : Nat → ClassId) (ad : Nat → Nat) : sr_fi vwCl (ycf t ad) 26 0 RX5 TX5 33 0 := ⟨by decide, by decide, rfl, 5, fun R => [.int (R 0), .ref (ad 1), .ref (ad 2), .int (R 3), .ref (ad 3), .ref (ad 4), .ref (ad 5), .ref (ad 6), .int (R 8), .ref (ad 7), .ref (ad 8), .ref (ad 9), .ref (ad 10), .int (R 13), .int (R 14), .ref (ad 11), .ref (ad 12), .ref (ad 13), .ref (ad 14), .int (R 19), .ref (ad 15), .ref (ad 16), .ref (ad 17), .ref (ad 18), .ref (ad 19), .int (R 25), .ref (ad 20), .ref (ad 21), .ref (ad 22), .ref (ad 23), .ref (ad 24), .ref (ad 25), .int (R 32)], rfl, fun _ _ _ => rfl, fun _ => rfl, fun _ _ => rfl⟩
theorem yf_0_1 (t : Nat → ClassId) (ad : Nat → Nat) : sr_fr vwCl (ycf t ad) 26 0 RX5 TX5 33 1 (ad 1) := ⟨by decide, by decide, rfl, 5, fun R => [.int (R 0), .ref (ad 1), .ref (ad 2), .int (R 3), .ref (ad 3), .ref (ad 4), .ref (ad 5), .ref (ad 6), .int (R 8), .ref (ad 7), .ref (ad 8), .ref (ad 9), .ref (ad 10), .int (R 13), .int (R 14), .ref (ad 11), .ref (ad 12), .ref (ad 13), .ref (ad 14), .int (R 19), .ref (ad 15), .ref (ad 16), .ref (ad 17), .ref (ad 18), .ref (ad 19), .int (R 25), .ref (ad 20), .ref (ad 21), .ref (ad 22), .ref (ad 23), .ref (ad 24), .ref (ad 25), .int (R 32)], rfl, fun _ _ _ => rfl, fun _ => rfl⟩
theorem yf_0_2 (t : Nat → ClassId) (ad : Nat → Nat) : sr_fr vwCl (ycf t ad) 26 0 RX5 TX5 33 2 (ad 2) := ⟨by decide, by decide, rfl, 5, fun R => [.int (R 0), .ref (ad 1), .ref (ad 2), .int (R 3), .ref (ad 3), .ref (ad 4), .ref (ad 5), .ref (ad 6), .int (R 8), .ref (ad 7), .ref (ad 8), .ref (ad 9), .ref (ad 10), .int (R 13), .int (R 14), .ref (ad 11), .ref (ad 12), .ref (ad 13), .ref (ad 14), .int (R 19), .ref (ad 15), .ref (ad 16), .ref (ad 17), .ref (ad 18), .ref (ad 19), .int (R 25), .ref (ad 20), .ref (ad 21), .ref (ad 22), .ref (ad 23), .ref (ad 24), .ref (ad 25), .int (R 32)], rfl, fun _ _ _ => rfl, fun _ => rfl⟩
theorem yf_0_3 (t : Nat → ClassId) (ad : Nat → Nat) : sr_fi vwCl (ycf t ad) 26 0 RX5 TX5 33 3 := ⟨by decide, by decide, rfl, 5, fun R => [.int (R 0), .ref (ad 1), .ref (ad 2), .int (R 3), .ref (ad 3), .ref (ad 4), .ref (ad 5), .ref (ad 6), .int (R 8), .ref (ad 7), .ref (ad 8), .ref (ad 9), .ref (ad 10), .int (R 13), .int (R 14), .ref (ad 11), .ref (ad 12), .ref (ad 13), .ref (ad 14), .int (R 19), .ref (ad 15), .ref (ad 16), .ref (ad 17), .ref (ad 18), .ref (ad 19), .int (R 25), .ref (ad 20), .ref (ad 21), .ref (ad 22), .ref (ad 23), .ref (ad 24), .ref (ad 25), .int (R 32)], rfl, fun _ _ _ => rfl, fun _ => rfl, fun _ _ => rfl⟩
theorem yf_0_4 (t : Nat → ClassId) (ad : Nat → Nat) : sr_fr vwCl (ycf t ad) 26 0 RX5 TX5 33 4 (ad 3) := ⟨by decide, by decide, rfl, 5, fun R => [.int (R 0), .ref (ad 1), .ref (ad 2), .int (R 3), .ref (ad 3), .ref (ad 4), .ref (ad 5), .ref (ad 6), .int (R 8), .ref (ad 7), .ref (ad 8), .ref (ad 9), .ref (ad 10), .int (R 13), .int (R 14), .ref (ad 11), .ref (ad 12), .ref (ad 13), .ref (ad 14), .int (R 19), .ref (ad 15), .ref (ad 16), .ref (ad 17), .ref (ad 18), .ref (ad 19), .int (R 25), .ref (ad 20), .ref (ad 21), .ref (ad 22), .ref (ad 23), .ref (ad 24), .ref (ad 25), .int (R 32)], rfl, fun _ _ _ => rfl, fun _ => rfl⟩
theorem yf_0_5 (t : Nat → ClassId) (ad : Nat → Nat) : sr_fr vwCl (ycf t ad) 26 0 RX5 TX5 33 5 (ad 4) := ⟨by decide, by decide, rfl, 5, fun R => [.int (R 0), .ref (ad 1), .ref (ad 2), .int (R 3), .ref (ad 3), .ref (ad 4), .ref (ad 5), .ref (ad 6), .int (R 8), .ref (ad 7), .ref (ad 8), .ref (ad 9), .ref (ad 10), .int (R 13), .int (R 14), .ref (ad 11), .ref (ad 12), .ref (ad 13), .ref (ad 14), .int (R 19), .ref (ad 15), .ref (ad 16), .ref (ad 17), .ref (ad 18), .ref (ad 19), .int (R 25), .ref (ad 20), .ref (ad 21), .ref (ad 22), .ref (ad 23), .ref (ad 24), .ref (ad 25), .int (R 32)], rfl, fun _ _ _ => rfl, fun _ => rfl⟩
theorem yf_0_6 (t : Nat → ClassId) (ad : Nat → Nat) : sr_fr vwCl (ycf t ad) 26 0 RX5 TX5 33 6 (ad 5) := ⟨by decide, by decide, rfl, 5, fun R => [.int (R 0), .ref (ad 1), .ref (ad 2), .int (R 3), .ref (ad 3), .ref (ad 4), .ref (ad 5), .ref (ad 6), .int (R 8), .ref (ad 7), .ref (ad 8), .ref (ad 9), .ref (ad 10), .int (R 13), .int (R 14), .ref (ad 11), .ref (ad 12), .ref (ad 13), .ref (ad 14), .int (R 19), .ref (ad 15), .ref (ad 16), .ref (ad 17), .ref (ad 18), .ref (ad 19), .int (R 25), .ref (ad 20), .ref (ad 21), .ref (ad 22), .ref (ad 23), .ref (ad 24), .ref (ad 25), .int (R 32)], rfl, fun _ _ _ => rfl, fun _ => rfl⟩
theorem yf_0_7 (t : Nat → ClassId) (ad : Nat → Nat) : sr_fr vwCl (ycf t ad) 26 0 RX5 TX5 33 7 (ad 6) := ⟨by decide, by decide, rfl, 5, fun R => [.int (R 0), .ref (ad 1), .ref (ad 2), .int (R 3), .ref (ad 3), .ref (ad 4), .ref (ad 5), .ref (ad 6), .int (R 8), .ref (ad 7), .ref (ad 8), .ref (ad 9), .ref (ad 10), .int (R 13), .int (R 14), .ref (ad 11), .ref (ad 12), .ref (ad 13), .ref (ad 14), .int (R 19), .ref (ad 15), .ref (ad 16), .ref (ad 17), .ref (ad 18), .ref (ad 19), .int (R 25), .ref (ad 20), .ref (ad 21), .ref (ad 22), .ref (ad 23), .ref (ad 24), .ref (ad 25), .int (R 32)], rfl, fun _ _ _ => rfl, fun _ => rfl⟩
theorem yf_0_8 (t : Nat → ClassId) (ad : Nat → Nat) : sr_fi vwCl (ycf t ad) 26 0 RX5 TX5 33 8 := ⟨by decide, by decide, rfl, 5, fun R => [.int (R 0), .ref (ad 1), .ref (ad 2), .int (R 3), .ref (ad 3), .ref (ad 4), .ref (ad 5), .ref (ad 6), .int (R 8), .ref (ad 7), .ref (ad 8), .ref (ad 9), .ref (ad 10), .int (R 13), .int (R 14), .ref (ad 11), .ref (ad 12), .ref (ad 13), .ref (ad 14), .int (R 19), .ref (ad 15), .ref (ad 16), .ref (ad 17), .ref (ad 18), .ref (ad 19), .int (R 25), .ref (ad 20), .ref (ad 21), .ref (ad 22), .ref (ad 23), .ref (ad 24), .ref (ad 25), .int (R 32)], rfl, fun _ _ _ => rfl, fun _ => rfl, fun _ _ => rfl⟩
theorem yf_0_9 (t : Nat → ClassId) (ad : Nat → Nat) : sr_fr vwCl (ycf t ad) 26 0 RX5 TX5 33 9 (ad 7) := ⟨by decide, by decide, rfl, 5, fun R => [.int (R 0), .ref (ad 1), .ref (ad 2), .int (R 3), .ref (ad 3), .ref (ad 4), .ref (ad 5), .ref (ad 6), .int (R 8), .ref (ad 7), .ref (ad 8), .ref (ad 9), .ref (ad 10), .int (R 13), .int (R 14), .ref (ad 11), .ref (ad 12), .ref (ad 13), .ref (ad 14), .int (R 19), .ref (ad 15), .ref (ad 16), .ref (ad 17), .ref (ad 18), .ref (ad 19), .int (R 25), .ref (ad 20), .ref (ad 21), .ref (ad 22), .ref (ad 23), .ref (ad 24), .ref (ad 25), .int (R 32)], rfl, fun _ _ _ => rfl, fun _ => rfl⟩
theorem yf_0_10 (t : Nat → ClassId) (ad : Nat → Nat) : sr_fr vwCl (ycf t ad) 26 0 RX5 TX5 33 10 (ad 8) := ⟨by decide, by decide, rfl, 5, fun R => [.int (R 0), .ref (ad 1), .ref (ad 2), .int (R 3), .ref (ad 3), .ref (ad 4), .ref (ad 5), .ref (ad 6), .int (R 8), .ref (ad 7), .ref (ad 8), .ref (ad 9), .ref (ad 10), .int (R 13), .int (R 14), .ref (ad 11), .ref (ad 12), .ref (ad 13), .ref (ad 14), .int (R 19), .ref (ad 15), .ref (ad 16), .ref (ad 17), .ref (ad 18), .ref (ad 19), .int (R 25), .ref (ad 20), .ref (ad 21), .ref (ad 22), .ref (ad 23), .ref (ad 24), .ref (ad 25), .int (R 32)], rfl, fun _ _ _ => rfl, fun _ => rfl⟩
theorem yf_0_11 (t : Nat → ClassId) (ad : Nat → Nat) : sr_fr vwCl (ycf t ad) 26 0 RX5 TX5 33 11 (ad 9) := ⟨by decide, by decide, rfl, 5, fun R => [.int (R 0), .ref (ad 1), .ref (ad 2), .int (R 3), .ref (ad 3), .ref (ad 4), .ref (ad 5), .ref (ad 6), .int (R 8), .ref (ad 7), .ref (ad 8), .ref (ad 9), .ref (ad 10), .int (R 13), .int (R 14), .ref (ad 11), .ref (ad 12), .ref (ad 13), .ref (ad 14), .int (R 19), .ref (ad 15), .ref (ad 16), .ref (ad 17), .ref (ad 18), .ref (ad 19), .int (R 25), .ref (ad 20), .ref (ad 21), .ref (ad 22), .ref (ad 23), .ref (ad 24), .ref (ad 25), .int (R 32)], rfl, fun _ _ _ => rfl, fun _ => rfl⟩
theorem yf_0_12 (t : Nat → ClassId) (ad : Nat → Nat) : sr_fr vwCl (ycf t ad) 26 0 RX5 TX5 33 12 (ad 10) := ⟨by decide, by decide, rfl, 5, fun R => [.int (R 0), .ref (ad 1), .ref (ad 2), .int (R 3), .ref (ad 3), .ref (ad 4), .ref (ad 5), .ref (ad 6), .int (R 8), .ref (ad 7), .ref (ad 8), .ref (ad 9), .ref (ad 10), .int (R 13), .int (R 14), .ref (ad 11), .ref (ad 12), .ref (ad 13), .ref (ad 14), .int (R 19), .ref (ad 15), .ref (ad 16), .ref (ad 17), .ref (ad 18), .ref (ad 19), .int (R 25), .ref (ad 20), .ref (ad 21), .ref (ad 22), .ref (ad 23), .ref (ad 24), .ref (ad 25), .int (R 32)], rfl, fun _ _ _ => rfl, fun _ => rfl⟩
theorem yf_0_13 (t : Nat → ClassId) (ad : Nat → Nat) : sr_fi vwCl (ycf t ad) 26 0 RX5 TX5 33 13 := ⟨by decide, by decide, rfl, 5, fun R => [.int (R 0), .ref (ad 1), .ref (ad 2), .int (R 3), .ref (ad 3), .ref (ad 4), .ref (ad 5), .ref (ad 6), .int (R 8), .ref (ad 7), .ref (ad 8), .ref (ad 9), .ref (ad 10), .int (R 13), .int (R 14), .ref (ad 11), .ref (ad 12), .ref (ad 13), .ref (ad 14), .int (R 19), .ref (ad 15), .ref (ad 16), .ref (ad 17), .ref (ad 18), .ref (ad 19), .int (R 25), .ref (ad 20), .ref (ad 21), .ref (ad 22), .ref (ad 23), .ref (ad 24), .ref (ad 25), .int (R 32)], rfl, fun _ _ _ => rfl, fun _ => rfl, fun _ _ => rfl⟩
theorem yf_0_14 (t : Nat → ClassId) (ad : Nat → Nat) : sr_fi vwCl (ycf t ad) 26 0 RX5 TX5 33 14 := ⟨by decide, by decide, rfl, 5, fun R => [.int (R 0), .ref (ad 1), .ref (ad 2), .int (R 3), .ref (ad 3), .ref (ad 4), .ref (ad 5), .ref (ad 6), .int (R 8), .ref (ad 7), .ref (ad 8), .ref (ad 9), .ref (ad 10), .int (R 13), .int (R 14), .ref (ad 11), .ref (ad 12), .ref (ad 13), .ref (ad 14), .int (R 19), .ref (ad 15), .ref (ad 16), .ref (ad 17), .ref (ad 18), .ref (ad 19), .int (R 25), .ref (ad 20), .ref (ad 21), .ref (ad 22), .ref (ad 23), .ref (ad 24), .ref (ad 25), .int (R 32)], rfl, fun _ _ _ => rfl, fun _ => rfl, fun _ _ => rfl⟩
theorem yf_0_15 (t : Nat → ClassId) (ad : Nat → Nat) : sr_fr vwCl (ycf t ad) 26 0 RX5 TX5 33 15 (ad 11) := ⟨by decide, by decide, rfl, 5, fun R => [.int (R 0), .ref (ad 1), .ref (ad 2), .int (R 3), .ref (ad 3), .ref (ad 4), .ref (ad 5), .ref (ad 6), .int (R 8), .ref (ad 7), .ref (ad 8), .ref (ad 9), .ref (ad 10), .int (R 13), .int (R 14), .ref (ad 11), .ref (ad 12), .ref (ad 13), .ref (ad 14), .int (R 19), .ref (ad 15), .ref (ad 16), .ref (ad 17), .ref (ad 18), .ref (ad 19), .int (R 25), .ref (ad 20), .ref (ad 21), .ref (ad 22), .ref (ad 23), .ref (ad 24), .ref (ad 25), .int (R 32)], rfl, fun _ _ _ => rfl, fun _ => rfl⟩
theorem yf_0_16 (t : Nat → ClassId) (ad : Nat → Nat) : sr_fr vwCl (ycf t ad) 26 0 RX5 TX5 33 16 (ad 12) := ⟨by decide, by decide, rfl, 5, fun R => [.int (R 0), .ref (ad 1), .ref (ad 2), .int (R 3), .ref (ad 3), .ref (ad 4), .ref (ad 5), .ref (ad 6), .int (R 8), .ref (ad 7), .ref (ad 8), .ref (ad 9), .ref (ad 10), .int (R 13), .int (R 14), .ref (ad 11), .ref (ad 12), .ref (ad 13), .ref (ad 14), .int (R 19), .ref (ad 15), .ref (ad 16), .ref (ad 17), .ref (ad 18), .ref (ad 19), .int (R 25), .ref (ad 20), .ref (ad 21), .ref (ad 22), .ref (ad 23), .ref (ad 24), .ref (ad 25), .int (R 32)], rfl, fun _ _ _ => rfl, fun _ => rfl⟩
theorem yf_0_17 (t : Nat → ClassId) (ad : Nat → Nat) : sr_fr vwCl (ycf t ad) 26 0 RX5 TX5 33 17 (ad 13) := ⟨by decide, by decide, rfl, 5, fun R => [.int (R 0), .ref (ad 1), .ref (ad 2), .int (R 3), .ref (ad 3), .ref (ad 4), .ref (ad 5), .ref (ad 6), .int (R 8), .ref (ad 7), .ref (ad 8), .ref (ad 9), .ref (ad 10), .int (R 13), .int (R 14), .ref (ad 11), .ref (ad 12), .ref (ad 13), .ref (ad 14), .int (R 19), .ref (ad 15), .ref (ad 16), .ref (ad 17), .ref (ad 18), .ref (ad 19), .int (R 25), .ref (ad 20), .ref (ad 21), .ref (ad 22), .ref (ad 23), .ref (ad 24), .ref (ad 25), .int (R 32)], rfl, fun _ _ _ => rfl, fun _ => rfl⟩
theorem yf_0_18 (t : Nat → ClassId) (ad : Nat → Nat) : sr_fr vwCl (ycf t ad) 26 0 RX5 TX5 33 18 (ad 14) := ⟨by decide, by decide, rfl, 5, fun R => [.int (R 0), .ref (ad 1), .ref (ad 2), .int (R 3), .ref (ad 3), .ref (ad 4), .ref (ad 5), .ref (ad 6), .int (R 8), .ref (ad 7), .ref (ad 8), .ref (ad 9), .ref (ad 10), .int (R 13), .int (R 14), .ref (ad 11), .ref (ad 12), .ref (ad 13), .ref (ad 14), .int (R 19), .ref (ad 15), .ref (ad 16), .ref (ad 17), .ref (ad 18), .ref (ad 19), .int (R 25), .ref (ad 20), .ref (ad 21), .ref (ad 22), .ref (ad 23), .ref (ad 24), .ref (ad 25), .int (R 32)], rfl, fun _ _ _ => rfl, fun _ => rfl⟩
theorem yf_0_19 (t : Nat → ClassId) (ad : Nat → Nat) : sr_fi vwCl (ycf t ad) 26 0 RX5 TX5 33 19 := ⟨by decide, by decide, rfl, 5, fun R => [.int (R 0), .ref (ad 1), .ref (ad 2), .int (R 3), .ref (ad 3), .ref (ad 4), .ref (ad 5), .ref (ad 6), .int (R 8), .ref (ad 7), .ref (ad 8), .ref (ad 9), .ref (ad 10), .int (R 13), .int (R 14), .ref (ad 11), .ref (ad 12), .ref (ad 13), .ref (ad 14), .int (R 19), .ref (ad 15), .ref (ad 16), .ref (ad 17), .ref (ad 18), .ref (ad 19), .int (R 25), .ref (ad 20), .ref (ad 21), .ref (ad 22), .ref (ad 23), .ref (ad 24), .ref (ad 25), .int (R 32)], rfl, fun _ _ _ => rfl, fun _ => rfl, fun _ _ => rfl⟩
theorem yf_0_20 (t : Nat → ClassId) (ad : Nat → Nat) : sr_fr vwCl (ycf t ad) 26 0 RX5 TX5 33 20 (ad 15) := ⟨by decide, by decide, rfl, 5, fun R => [.int (R 0), .ref (ad 1), .ref (ad 2), .int (R 3), .ref (ad 3), .ref (ad 4), .ref (ad 5), .ref (ad 6), .int (R 8), .ref (ad 7), .ref (ad 8), .ref (ad 9), .ref (ad 10), .int (R 13), .int (R 14), .ref (ad 11), .ref (ad 12), .ref (ad 13), .ref (ad 14), .int (R 19), .ref (ad 15), .ref (ad 16), .ref (ad 17), .ref (ad 18), .ref (ad 19), .int (R 25), .ref (ad 20), .ref (ad 21), .ref (ad 22), .ref (ad 23), .ref (ad 24), .ref (ad 25), .int (R 32)], rfl, fun _ _ _ => rfl, fun _ => rfl⟩
theorem yf_0_21 (t : Nat → ClassId) (ad : Nat → Nat) : sr_fr vwCl (ycf t ad) 26 0 RX5 TX5 33 21 (ad 16) := ⟨by decide, by decide, rfl, 5, fun R => [.int (R 0), .ref (ad 1), .ref (ad 2), .int (R 3), .ref (ad 3), .ref (ad 4), .ref (ad 5), .ref (ad 6), .int (R 8), .ref (ad 7), .ref (ad 8), .ref (ad 9), .ref (ad 10), .int (R 13), .int (R 14), .ref (ad 11), .ref (ad 12), .ref (ad 13), .ref (ad 14), .int (R 19), .ref (ad 15), .ref (ad 16), .ref (ad 17), .ref (ad 18), .ref (ad 19), .int (R 25), .ref (ad 20), .ref (ad 21), .ref (ad 22), .ref (ad 23), .ref (ad 24), .ref (ad 25), .int (R 32)], rfl, fun _ _ _ => rfl, fun _ => rfl⟩
theorem yf_0_22 (t : Nat → ClassId) (ad : Nat → Nat) : sr_fr vwCl (ycf t ad) 26 0 RX5 TX5 33 22 (ad 17) := ⟨by decide, by decide, rfl, 5, fun R => [.int (R 0), .ref (ad 1), .ref (ad 2), .int (R 3), .ref (ad 3), .ref (ad 4), .ref (ad 5), .ref (ad 6), .int (R 8), .ref (ad 7), .ref (ad 8), .ref (ad 9), .ref (ad 10), .int (R 13), .int (R 14), .ref (ad 11), .ref (ad 12), .ref (ad 13), .ref (ad 14), .int (R 19), .ref (ad 15), .ref (ad 16), .ref (ad 17), .ref (ad 18), .ref (ad 19), .int (R 25), .ref (ad 20), .ref (ad 21), .ref (ad 22), .ref (ad 23), .ref (ad 24), .ref (ad 25), .int (R 32)], rfl, fun _ _ _ => rfl, fun _ => rfl⟩
theorem yf_0_23 (t : Nat → ClassId) (ad : Nat → Nat) : sr_fr vwCl (ycf t ad) 26 0 RX5 TX5 33 23 (ad 18) := ⟨by decide, by decide, rfl, 5, fun R => [.int (R 0), .ref (ad 1), .ref (ad 2), .int (R 3), .ref (ad 3), .ref (ad 4), .ref (ad 5), .ref (ad 6), .int (R 8), .ref (ad 7), .ref (ad 8), .ref (ad 9), .ref (ad 10), .int (R 13), .int (R 14), .ref (ad 11), .ref (ad 12), .ref (ad 13), .ref (ad 14), .int (R 19), .ref (ad 15), .ref (ad 16), .ref (ad 17), .ref (ad 18), .ref (ad 19), .int (R 25), .ref (ad 20), .ref (ad 21), .ref (ad 22), .ref (ad 23), .ref (ad 24), .ref (ad 25), .int (R 32)], rfl, fun _ _ _ => rfl, fun _ => rfl⟩
theorem yf_0_24 (t : Nat → ClassId) (ad : Nat → Nat) : sr_fr vwCl (ycf t ad) 26 0 RX5 TX5 33 24 (ad 19) := ⟨by decide, by decide, rfl, 5, fun R => [.int (R 0), .ref (ad 1), .ref (ad 2), .int (R 3), .ref (ad 3), .ref (ad 4), .ref (ad 5), .ref (ad 6), .int (R 8), .ref (ad 7), .ref (ad 8), .ref (ad 9), .ref (ad 10), .int (R 13), .int (R 14), .ref (ad 11), .ref (ad 12), .ref (ad 13), .ref (ad 14), .int (R 19), .ref (ad 15), .ref (ad 16), .ref (ad 17), .ref (ad 18), .ref (ad 19), .int (R 25), .ref (ad 20), .ref (ad 21), .ref (ad 22), .ref (ad 23), .ref (ad 24), .ref (ad 25), .int (R 32)], rfl, fun _ _ _ => rfl, fun _ => rfl⟩
theorem yf_0_25 (t : Nat → ClassId) (ad : Nat → Nat) : sr_fi vwCl (ycf t ad) 26 0 RX5 TX5 33 25 := ⟨by decide, by decide, rfl, 5, fun R => [.int (R 0), .ref (ad 1), .ref (ad 2), .int (R 3), .ref (ad 3), .ref (ad 4), .ref (ad 5), .ref (ad 6), .int (R 8), .ref (ad 7), .ref (ad 8), .ref (ad 9), .ref (ad 10), .int (R 13), .int (R 14), .ref (ad 11), .ref (ad 12), .ref (ad 13), .ref (ad 14), .int (R 19), .ref (ad 15), .ref (ad 16), .ref (ad 17), .ref (ad 18), .ref (ad 19), .int (R 25), .ref (ad 20), .ref (ad 21), .ref (ad 22), .ref (ad 23), .ref (ad 24), .ref (ad 25), .int (R 32)], rfl, fun _ _ _ => rfl, fun _ => rfl, fun _ _ => rfl⟩
theorem yf_0_26 (t : Nat → ClassId) (ad : Nat → Nat) : sr_fr vwCl (ycf t ad) 26 0 RX5 TX5 33 26 (ad 20) := ⟨by decide, by decide, rfl, 5, fun R => [.int (R 0), .ref (ad 1), .ref (ad 2), .int (R 3), .ref (ad 3), .ref (ad 4), .ref (ad 5), .ref (ad 6), .int (R 8), .ref (ad 7), .ref (ad 8), .ref (ad 9), .ref (ad 10), .int (R 13), .int (R 14), .ref (ad 11), .ref (ad 12), .ref (ad 13), .ref (ad 14), .int (R 19), .ref (ad 15), .ref (ad 16), .ref (ad 17), .ref (ad 18), .ref (ad 19), .int (R 25), .ref (ad 20), .ref (ad 21), .ref (ad 22), .ref (ad 23), .ref (ad 24), .ref (ad 25), .int (R 32)], rfl, fun _ _ _ => rfl, fun _ => rfl⟩
theorem yf_0_27 (t : Nat → ClassId) (ad : Nat → Nat) : sr_fr vwCl (ycf t ad) 26 0 RX5 TX5 33 27 (ad 21) := ⟨by decide, by decide, rfl, 5, fun R => [.int (R 0), .ref (ad 1), .ref (ad 2), .int (R 3), .ref (ad 3), .ref (ad 4), .ref (ad 5), .ref (ad 6), .int (R 8), .ref (ad 7), .ref (ad 8), .ref (ad 9), .ref (ad 10), .int (R 13), .int (R 14), .ref (ad 11), .ref (ad 12), .ref (ad 13), .ref (ad 14), .int (R 19), .ref (ad 15), .ref (ad 16), .ref (ad 17), .ref (ad 18), .ref (ad 19), .int (R 25), .ref (ad 20), .ref (ad 21), .ref (ad 22), .ref (ad 23), .ref (ad 24), .ref (ad 25), .int (R 32)], rfl, fun _ _ _ => rfl, fun _ => rfl⟩
theorem yf_0_28 (t : Nat → ClassId) (ad : Nat → Nat) : sr_fr vwCl (ycf t ad) 26 0 RX5 TX5 33 28 (ad 22) := ⟨by decide, by decide, rfl, 5, fun R => [.int (R 0), .ref (ad 1), .ref (ad 2), .int (R 3), .ref (ad 3), .ref (ad 4), .ref (ad 5), .ref (ad 6), .int (R 8), .ref (ad 7), .ref (ad 8), .ref (ad 9), .ref (ad 10), .int (R 13), .int (R 14), .ref (ad 11), .ref (ad 12), .ref (ad 13), .ref (ad 14), .int (R 19), .ref (ad 15), .ref (ad 16), .ref (ad 17), .ref (ad 18), .ref (ad 19), .int (R 25), .ref (ad 20), .ref (ad 21), .ref (ad 22), .ref (ad 23), .ref (ad 24), .ref (ad 25), .int (R 32)], rfl, fun _ _ _ => rfl, fun _ => rfl⟩
theorem yf_0_29 (t : Nat → ClassId) (ad : Nat → Nat) : sr_fr vwCl (ycf t ad) 26 0 RX5 TX5 33 29 (ad 23) := ⟨by decide, by decide, rfl, 5, fun R => [.int (R 0), .ref (ad 1), .ref (ad 2), .int (R 3), .ref (ad 3), .ref (ad 4), .ref (ad 5), .ref (ad 6), .int (R 8), .ref (ad 7), .ref (ad 8), .ref (ad 9), .ref (ad 10), .int (R 13), .int (R 14), .ref (ad 11), .ref (ad 12), .ref (ad 13), .ref (ad 14), .int (R 19), .ref (ad 15), .ref (ad 16), .ref (ad 17), .ref (ad 18), .ref (ad 19), .int (R 25), .ref (ad 20), .ref (ad 21), .ref (ad 22), .ref (ad 23), .ref (ad 24), .ref (ad 25), .int (R 32)], rfl, fun _ _ _ => rfl, fun _ => rfl⟩
theorem yf_0_30 (t : Nat → ClassId) (ad : Nat → Nat) : sr_fr vwCl (ycf t ad) 26 0 RX5 TX5 33 30 (ad 24) := ⟨by decide, by decide, rfl, 5, fun R => [.int (R 0), .ref (ad 1), .ref (ad 2), .int (R 3), .ref (ad 3), .ref (ad 4), .ref (ad 5), .ref (ad 6), .int (R 8), .ref (ad 7), .ref (ad 8), .ref (ad 9), .ref (ad 10), .int (R 13), .int (R 14), .ref (ad 11), .ref (ad 12), .ref (ad 13), .ref (ad 14), .int (R 19), .ref (ad 15), .ref (ad 16), .ref (ad 17), .ref (ad 18), .ref (ad 19), .int (R 25), .ref (ad 20), .ref (ad 21), .ref (ad 22), .ref (ad 23), .ref (ad 24), .ref (ad 25), .int (R 32)], rfl, fun _ _ _ => rfl, fun _ => rfl⟩
theorem yf_0_31 (t : Nat → ClassId) (ad : Nat → Nat) : sr_fr vwCl (ycf t ad) 26 0 RX5 TX5 33 31 (ad 25) := ⟨by decide, by decide, rfl, 5, fun R => [.int (R 0), .ref (ad 1), .ref (ad 2), .int (R 3), .ref (ad 3), .ref (ad 4), .ref (ad 5), .ref (ad 6), .int (R 8), .ref (ad 7), .ref (ad 8), .ref (ad 9), .ref (ad 10), .int (R 13), .int (R 14), .ref (ad 11), .ref (ad 12), .ref (ad 13), .ref (ad 14), .int (R 19), .ref (ad 15), .ref (ad 16), .ref (ad 17), .ref (ad 18), .ref (ad 19), .int (R 25), .ref (ad 20), .ref (ad 21), .ref (ad 22), .ref (ad 23), .ref (ad 24), .ref (ad 25), .int (R 32)], rfl, fun _ _ _ => rfl, fun _ => rfl⟩
theorem yf_0_32 (t : Nat → ClassId) (ad : Nat → Nat) : sr_fi vwCl (ycf t ad) 26 0 RX5 TX5 33 32 := ⟨by decide, by decide, rfl, 5, fun R => [.int (R 0), .ref (ad 1), .ref (ad 2), .int (R 3), .ref (ad 3), .ref (ad 4), .ref (ad 5), .ref (ad 6), .int (R 8), .ref (ad 7), .ref (ad 8), .ref (ad 9), .ref (ad 10), .int (R 13), .int (R 14), .ref (ad 11), .ref (ad 12), .ref (ad 13), .ref (ad 14), .int (R 19), .ref (ad 15), .ref (ad 16), .ref (ad 17), .ref (ad 18), .ref (ad 19), .int (R 25), .ref (ad 20), .ref (ad 21), .ref (ad 22), .ref (ad 23), .ref (ad 24), .ref (ad 25), .int (R 32)], rfl, fun _ _ _ => rfl, fun _ => rfl, fun _ _ => rfl⟩
theorem ya_1 (t : Nat → ClassId) (ad : Nat → Nat) : sr_ia (ycf t ad) (yty t) 26 1 120 .int := ⟨by decide, t 1, 0, fun _ _ _ => rfl, rfl⟩
theorem ya_2 (t : Nat → ClassId) (ad : Nat → Nat) : sr_ia (ycf t ad) (yty t) 26 2 120 .boolean := ⟨by decide, t 2, 1, fun _ _ _ => rfl, rfl⟩
theorem ya_3 (t : Nat → ClassId) (ad : Nat → Nat) : sr_ia (ycf t ad) (yty t) 26 3 300 .int := ⟨by decide, t 3, 2, fun _ _ _ => rfl, rfl⟩
theorem ya_4 (t : Nat → ClassId) (ad : Nat → Nat) : sr_ia (ycf t ad) (yty t) 26 4 300 .int := ⟨by decide, t 4, 3, fun _ _ _ => rfl, rfl⟩
theorem ya_5 (t : Nat → ClassId) (ad : Nat → Nat) : sr_ia (ycf t ad) (yty t) 26 5 300 .int := ⟨by decide, t 5, 4, fun _ _ _ => rfl, rfl⟩
theorem ya_6 (t : Nat → ClassId) (ad : Nat → Nat) : sr_ia (ycf t ad) (yty t) 26 6 300 .boolean := ⟨by decide, t 6, 5, fun _ _ _ => rfl, rfl⟩
theorem ya_7 (t : Nat → ClassId) (ad : Nat → Nat) : sr_ia (ycf t ad) (yty t) 26 7 6 .int := ⟨by decide, t 7, 6, fun _ _ _ => rfl, rfl⟩
theorem ya_8 (t : Nat → ClassId) (ad : Nat → Nat) : sr_ia (ycf t ad) (yty t) 26 8 6 .int := ⟨by decide, t 8, 7, fun _ _ _ => rfl, rfl⟩
theorem ya_9 (t : Nat → ClassId) (ad : Nat → Nat) : sr_ja (ycf t ad) (yty t) 26 9 360 := ⟨by decide, t 9, 8, fun _ _ _ => rfl, rfl⟩
theorem ya_10 (t : Nat → ClassId) (ad : Nat → Nat) : sr_da (ycf t ad) (yty t) 26 10 360 := ⟨by decide, t 10, 9, fun _ _ _ => rfl, rfl⟩
theorem ya_11 (t : Nat → ClassId) (ad : Nat → Nat) : sr_ia (ycf t ad) (yty t) 26 11 121 .int := ⟨by decide, t 11, 10, fun _ _ _ => rfl, rfl⟩
theorem ya_12 (t : Nat → ClassId) (ad : Nat → Nat) : sr_ia (ycf t ad) (yty t) 26 12 120 .int := ⟨by decide, t 12, 11, fun _ _ _ => rfl, rfl⟩
theorem ya_13 (t : Nat → ClassId) (ad : Nat → Nat) : sr_ia (ycf t ad) (yty t) 26 13 120 .int := ⟨by decide, t 13, 12, fun _ _ _ => rfl, rfl⟩
theorem ya_14 (t : Nat → ClassId) (ad : Nat → Nat) : sr_ia (ycf t ad) (yty t) 26 14 120 .int := ⟨by decide, t 14, 13, fun _ _ _ => rfl, rfl⟩
theorem ya_15 (t : Nat → ClassId) (ad : Nat → Nat) : sr_ia (ycf t ad) (yty t) 26 15 200 .int := ⟨by decide, t 15, 14, fun _ _ _ => rfl, rfl⟩
theorem ya_16 (t : Nat → ClassId) (ad : Nat → Nat) : sr_ja (ycf t ad) (yty t) 26 16 60 := ⟨by decide, t 16, 15, fun _ _ _ => rfl, rfl⟩
theorem ya_17 (t : Nat → ClassId) (ad : Nat → Nat) : sr_da (ycf t ad) (yty t) 26 17 60 := ⟨by decide, t 17, 16, fun _ _ _ => rfl, rfl⟩
theorem ya_18 (t : Nat → ClassId) (ad : Nat → Nat) : sr_ia (ycf t ad) (yty t) 26 18 120 .boolean := ⟨by decide, t 18, 17, fun _ _ _ => rfl, rfl⟩
theorem ya_19 (t : Nat → ClassId) (ad : Nat → Nat) : sr_ia (ycf t ad) (yty t) 26 19 120 .int := ⟨by decide, t 19, 18, fun _ _ _ => rfl, rfl⟩
theorem ya_20 (t : Nat → ClassId) (ad : Nat → Nat) : sr_ia (ycf t ad) (yty t) 26 20 120 .int := ⟨by decide, t 20, 19, fun _ _ _ => rfl, rfl⟩
theorem ya_21 (t : Nat → ClassId) (ad : Nat → Nat) : sr_ia (ycf t ad) (yty t) 26 21 120 .int := ⟨by decide, t 21, 20, fun _ _ _ => rfl, rfl⟩
theorem ya_22 (t : Nat → ClassId) (ad : Nat → Nat) : sr_ia (ycf t ad) (yty t) 26 22 121 .int := ⟨by decide, t 22, 21, fun _ _ _ => rfl, rfl⟩
theorem ya_23 (t : Nat → ClassId) (ad : Nat → Nat) : sr_ia (ycf t ad) (yty t) 26 23 120 .int := ⟨by decide, t 23, 22, fun _ _ _ => rfl, rfl⟩
theorem ya_24 (t : Nat → ClassId) (ad : Nat → Nat) : sr_ia (ycf t ad) (yty t) 26 24 120 .int := ⟨by decide, t 24, 23, fun _ _ _ => rfl, rfl⟩
theorem ya_25 (t : Nat → ClassId) (ad : Nat → Nat) : sr_ia (ycf t ad) (yty t) 26 25 120 .int := ⟨by decide, t 25, 24, fun _ _ _ => rfl, rfl⟩
def xoF (o : Nat) : Prop := o = 30 ∨ o = 43
def xoC (o : Nat) : Prop := o = 12 ∨ o = 15 ∨ o = 18 ∨ o = 21 ∨ o = 24 ∨ o = 27
theorem xoC_of {i : Int32} (h : vp_in i 6) : xoC (12 + 3 * i.toNatClampNeg) := by
  have h2 : i.toNatClampNeg < 6 := Nat.not_le.mp fun q => h (Or.inr q)
  unfold xoC
  omega
theorem xq_at {ad : Nat → Nat} {i : Int32} (h : vp_in i 6) : (fun i => if i < 6 then some (ad (12 + 3 * i)) else none) i.toNatClampNeg = some (ad (12 + 3 * i.toNatClampNeg)) := by
  have h2 : i.toNatClampNeg < 6 := Nat.not_le.mp fun q => h (Or.inr q)
  simp [h2]
theorem xoF (t : Nat → ClassId) (ad : Nat → Nat) {o : Nat} (ho : xoF o) : sr_ob vwCl (xcf t ad) 62 o RX1 := by
  rcases ho with rfl | rfl
  exacts [xo_30 t ad, xo_43 t ad]
theorem xfF_0 (t : Nat → ClassId) (ad : Nat → Nat) {o : Nat} (ho : xoF o) : sr_fr vwCl (xcf t ad) 62 o RX1 TX1 16 0 (ad 1) := by
  rcases ho with rfl | rfl
  exacts [xf_30_0 t ad, xf_43_0 t ad]
theorem xfF_1 (t : Nat → ClassId) (ad : Nat → Nat) {o : Nat} (ho : xoF o) : sr_fi vwCl (xcf t ad) 62 o RX1 TX1 16 1 := by
  rcases ho with rfl | rfl
  exacts [xf_30_1 t ad, xf_43_1 t ad]
theorem xfF_2 (t : Nat → ClassId) (ad : Nat → Nat) {o : Nat} (ho : xoF o) : sr_fi vwCl (xcf t ad) 62 o RX1 TX1 16 2 := by
  rcases ho with rfl | rfl
  exacts [xf_30_2 t ad, xf_43_2 t ad]
theorem xfF_3 (t : Nat → ClassId) (ad : Nat → Nat) {o : Nat} (ho : xoF o) : sr_fr vwCl (xcf t ad) 62 o RX1 TX1 16 3 (ad (o + 1)) := by
  rcases ho with rfl | rfl
  exacts [xf_30_3 t ad, xf_43_3 t ad]
theorem xfF_4 (t : Nat → ClassId) (ad : Nat → Nat) {o : Nat} (ho : xoF o) : sr_fr vwCl (xcf t ad) 62 o RX1 TX1 16 4 (ad (o + 2)) := by
  rcases ho with rfl | rfl
  exacts [xf_30_4 t ad, xf_43_4 t ad]
theorem xfF_5 (t : Nat → ClassId) (ad : Nat → Nat) {o : Nat} (ho : xoF o) : sr_fr vwCl (xcf t ad) 62 o RX1 TX1 16 5 (ad (o + 3)) := by
  rcases ho with rfl | rfl
  exacts [xf_30_5 t ad, xf_43_5 t ad]
theorem xfF_6 (t : Nat → ClassId) (ad : Nat → Nat) {o : Nat} (ho : xoF o) : sr_fr vwCl (xcf t ad) 62 o RX1 TX1 16 6 (ad (o + 4)) := by
  rcases ho with rfl | rfl
  exacts [xf_30_6 t ad, xf_43_6 t ad]
theorem xfF_7 (t : Nat → ClassId) (ad : Nat → Nat) {o : Nat} (ho : xoF o) : sr_fr vwCl (xcf t ad) 62 o RX1 TX1 16 7 (ad (o + 5)) := by
  rcases ho with rfl | rfl
  exacts [xf_30_7 t ad, xf_43_7 t ad]
theorem xfF_8 (t : Nat → ClassId) (ad : Nat → Nat) {o : Nat} (ho : xoF o) : sr_fr vwCl (xcf t ad) 62 o RX1 TX1 16 8 (ad (o + 6)) := by
  rcases ho with rfl | rfl
  exacts [xf_30_8 t ad, xf_43_8 t ad]
theorem xfF_9 (t : Nat → ClassId) (ad : Nat → Nat) {o : Nat} (ho : xoF o) : sr_fi vwCl (xcf t ad) 62 o RX1 TX1 16 9 := by
  rcases ho with rfl | rfl
  exacts [xf_30_9 t ad, xf_43_9 t ad]
theorem xfF_10 (t : Nat → ClassId) (ad : Nat → Nat) {o : Nat} (ho : xoF o) : sr_fr vwCl (xcf t ad) 62 o RX1 TX1 16 10 (ad (o + 7)) := by
  rcases ho with rfl | rfl
  exacts [xf_30_10 t ad, xf_43_10 t ad]
theorem xfF_11 (t : Nat → ClassId) (ad : Nat → Nat) {o : Nat} (ho : xoF o) : sr_fr vwCl (xcf t ad) 62 o RX1 TX1 16 11 (ad (o + 8)) := by
  rcases ho with rfl | rfl
  exacts [xf_30_11 t ad, xf_43_11 t ad]
theorem xfF_12 (t : Nat → ClassId) (ad : Nat → Nat) {o : Nat} (ho : xoF o) : sr_fr vwCl (xcf t ad) 62 o RX1 TX1 16 12 (ad (o + 9)) := by
  rcases ho with rfl | rfl
  exacts [xf_30_12 t ad, xf_43_12 t ad]
theorem xfF_13 (t : Nat → ClassId) (ad : Nat → Nat) {o : Nat} (ho : xoF o) : sr_fr vwCl (xcf t ad) 62 o RX1 TX1 16 13 (ad (o + 10)) := by
  rcases ho with rfl | rfl
  exacts [xf_30_13 t ad, xf_43_13 t ad]
theorem xfF_14 (t : Nat → ClassId) (ad : Nat → Nat) {o : Nat} (ho : xoF o) : sr_fr vwCl (xcf t ad) 62 o RX1 TX1 16 14 (ad (o + 11)) := by
  rcases ho with rfl | rfl
  exacts [xf_30_14 t ad, xf_43_14 t ad]
theorem xfF_15 (t : Nat → ClassId) (ad : Nat → Nat) {o : Nat} (ho : xoF o) : sr_fr vwCl (xcf t ad) 62 o RX1 TX1 16 15 (ad (o + 12)) := by
  rcases ho with rfl | rfl
  exacts [xf_30_15 t ad, xf_43_15 t ad]
theorem xaF_1 (t : Nat → ClassId) (ad : Nat → Nat) {o : Nat} (ho : xoF o) : sr_ia (xcf t ad) (xty t) 62 (o + 1) 121 .int := by
  rcases ho with rfl | rfl
  exacts [xa_31 t ad, xa_44 t ad]
theorem xaF_2 (t : Nat → ClassId) (ad : Nat → Nat) {o : Nat} (ho : xoF o) : sr_ia (xcf t ad) (xty t) 62 (o + 2) 121 .int := by
  rcases ho with rfl | rfl
  exacts [xa_32 t ad, xa_45 t ad]
theorem xaF_3 (t : Nat → ClassId) (ad : Nat → Nat) {o : Nat} (ho : xoF o) : sr_ia (xcf t ad) (xty t) 62 (o + 3) 120 .int := by
  rcases ho with rfl | rfl
  exacts [xa_33 t ad, xa_46 t ad]
theorem xaF_4 (t : Nat → ClassId) (ad : Nat → Nat) {o : Nat} (ho : xoF o) : sr_ia (xcf t ad) (xty t) 62 (o + 4) 120 .int := by
  rcases ho with rfl | rfl
  exacts [xa_34 t ad, xa_47 t ad]
theorem xaF_5 (t : Nat → ClassId) (ad : Nat → Nat) {o : Nat} (ho : xoF o) : sr_ia (xcf t ad) (xty t) 62 (o + 5) 120 .int := by
  rcases ho with rfl | rfl
  exacts [xa_35 t ad, xa_48 t ad]
theorem xaF_6 (t : Nat → ClassId) (ad : Nat → Nat) {o : Nat} (ho : xoF o) : sr_ia (xcf t ad) (xty t) 62 (o + 6) 120 .int := by
  rcases ho with rfl | rfl
  exacts [xa_36 t ad, xa_49 t ad]
theorem xaF_7 (t : Nat → ClassId) (ad : Nat → Nat) {o : Nat} (ho : xoF o) : sr_ia (xcf t ad) (xty t) 62 (o + 7) 120 .int := by
  rcases ho with rfl | rfl
  exacts [xa_37 t ad, xa_50 t ad]
theorem xaF_8 (t : Nat → ClassId) (ad : Nat → Nat) {o : Nat} (ho : xoF o) : sr_ia (xcf t ad) (xty t) 62 (o + 8) 120 .int := by
  rcases ho with rfl | rfl
  exacts [xa_38 t ad, xa_51 t ad]
theorem xaF_9 (t : Nat → ClassId) (ad : Nat → Nat) {o : Nat} (ho : xoF o) : sr_ia (xcf t ad) (xty t) 62 (o + 9) 120 .int := by
  rcases ho with rfl | rfl
  exacts [xa_39 t ad, xa_52 t ad]
theorem xaF_10 (t : Nat → ClassId) (ad : Nat → Nat) {o : Nat} (ho : xoF o) : sr_ia (xcf t ad) (xty t) 62 (o + 10) 120 .int := by
  rcases ho with rfl | rfl
  exacts [xa_40 t ad, xa_53 t ad]
theorem xaF_11 (t : Nat → ClassId) (ad : Nat → Nat) {o : Nat} (ho : xoF o) : sr_ia (xcf t ad) (xty t) 62 (o + 11) 120 .int := by
  rcases ho with rfl | rfl
  exacts [xa_41 t ad, xa_54 t ad]
theorem xaF_12 (t : Nat → ClassId) (ad : Nat → Nat) {o : Nat} (ho : xoF o) : sr_ia (xcf t ad) (xty t) 62 (o + 12) 120 .boolean := by
  rcases ho with rfl | rfl
  exacts [xa_42 t ad, xa_55 t ad]
theorem xoC (t : Nat → ClassId) (ad : Nat → Nat) {o : Nat} (ho : xoC o) : sr_ob vwCl (xcf t ad) 62 o RX0 := by
  rcases ho with rfl | rfl | rfl | rfl | rfl | rfl
  exacts [xo_12 t ad, xo_15 t ad, xo_18 t ad, xo_21 t ad, xo_24 t ad, xo_27 t ad]
theorem xfC_0 (t : Nat → ClassId) (ad : Nat → Nat) {o : Nat} (ho : xoC o) : sr_fi vwCl (xcf t ad) 62 o RX0 TX0 5 0 := by
  rcases ho with rfl | rfl | rfl | rfl | rfl | rfl
  exacts [xf_12_0 t ad, xf_15_0 t ad, xf_18_0 t ad, xf_21_0 t ad, xf_24_0 t ad, xf_27_0 t ad]
theorem xfC_1 (t : Nat → ClassId) (ad : Nat → Nat) {o : Nat} (ho : xoC o) : sr_fi vwCl (xcf t ad) 62 o RX0 TX0 5 1 := by
  rcases ho with rfl | rfl | rfl | rfl | rfl | rfl
  exacts [xf_12_1 t ad, xf_15_1 t ad, xf_18_1 t ad, xf_21_1 t ad, xf_24_1 t ad, xf_27_1 t ad]
theorem xfC_2 (t : Nat → ClassId) (ad : Nat → Nat) {o : Nat} (ho : xoC o) : sr_fi vwCl (xcf t ad) 62 o RX0 TX0 5 2 := by
  rcases ho with rfl | rfl | rfl | rfl | rfl | rfl
  exacts [xf_12_2 t ad, xf_15_2 t ad, xf_18_2 t ad, xf_21_2 t ad, xf_24_2 t ad, xf_27_2 t ad]
theorem xfC_3 (t : Nat → ClassId) (ad : Nat → Nat) {o : Nat} (ho : xoC o) : sr_fr vwCl (xcf t ad) 62 o RX0 TX0 5 3 (ad (o + 1)) := by
  rcases ho with rfl | rfl | rfl | rfl | rfl | rfl
  exacts [xf_12_3 t ad, xf_15_3 t ad, xf_18_3 t ad, xf_21_3 t ad, xf_24_3 t ad, xf_27_3 t ad]
theorem xfC_4 (t : Nat → ClassId) (ad : Nat → Nat) {o : Nat} (ho : xoC o) : sr_fr vwCl (xcf t ad) 62 o RX0 TX0 5 4 (ad (o + 2)) := by
  rcases ho with rfl | rfl | rfl | rfl | rfl | rfl
  exacts [xf_12_4 t ad, xf_15_4 t ad, xf_18_4 t ad, xf_21_4 t ad, xf_24_4 t ad, xf_27_4 t ad]
theorem xaC_1 (t : Nat → ClassId) (ad : Nat → Nat) {o : Nat} (ho : xoC o) : sr_ja (xcf t ad) (xty t) 62 (o + 1) 60 := by
  rcases ho with rfl | rfl | rfl | rfl | rfl | rfl
  exacts [xa_13 t ad, xa_16 t ad, xa_19 t ad, xa_22 t ad, xa_25 t ad, xa_28 t ad]
theorem xaC_2 (t : Nat → ClassId) (ad : Nat → Nat) {o : Nat} (ho : xoC o) : sr_ia (xcf t ad) (xty t) 62 (o + 2) 60 .byte := by
  rcases ho with rfl | rfl | rfl | rfl | rfl | rfl
  exacts [xa_14 t ad, xa_17 t ad, xa_20 t ad, xa_23 t ad, xa_26 t ad, xa_29 t ad]
theorem sr_goodV {own : String} {idx : Nat} {C : String} {y : MethodName} {cc : ByteArray} {maxL : Nat} {ret : Option FieldType} (h1 : (.methodLink own idx y : Cond) ∈ sr_tbl) (h2 : (.instanceMethod y : Cond) ∈ sr_tbl) (h3 : (.selects C y y : Cond) ∈ sr_tbl) (h4 : (.initialized C : Cond) ∈ sr_tbl) (h5 : (.code y cc maxL ret : Cond) ∈ sr_tbl) : GoodIn sr_tbl (wsV own idx C y (.code y cc maxL ret :: sr_tbl)) := by
  intro w hw
  have hm : w ∈ sr_tbl := by
    simp only [wsV, List.mem_append, List.mem_cons, List.not_mem_nil, or_false] at hw
    rcases hw with (rfl | rfl | rfl | rfl) | rfl | hw <;> assumption
  exact ⟨hm, good_of_word (List.all_eq_true.mp lw_good w hm)⟩
theorem sr_goodS {own : String} {idx : Nat} {y : MethodName} {cc : ByteArray} {maxL : Nat} {ret : Option FieldType} (h1 : (.methodLink own idx y : Cond) ∈ sr_tbl) (h2 : (.static y : Cond) ∈ sr_tbl) (h4 : (.initialized own : Cond) ∈ sr_tbl) (h5 : (.code y cc maxL ret : Cond) ∈ sr_tbl) : GoodIn sr_tbl (wsS own idx y (.code y cc maxL ret :: sr_tbl)) := by
  intro w hw
  have hm : w ∈ sr_tbl := by
    simp only [wsS, List.mem_append, List.mem_cons, List.not_mem_nil, or_false] at hw
    rcases hw with (rfl | rfl | rfl) | rfl | hw <;> assumption
  exact ⟨hm, good_of_word (List.all_eq_true.mp lw_good w hm)⟩
theorem qdX0_hasNumber : (yX0_hasNumber.cls = RX0 ∧ yX0_hasNumber.cls ≠ "java/lang/invoke/MethodHandle" ∧ yX0_hasNumber.cls ≠ "java/lang/invoke/VarHandle" ∧ (parseMethodDescriptor yX0_hasNumber.desc).map (fun d => d.parameters.length) = some 1) := by decide +kernel
theorem qdX0_isNoNumber : (yX0_isNoNumber.cls = RX0 ∧ yX0_isNoNumber.cls ≠ "java/lang/invoke/MethodHandle" ∧ yX0_isNoNumber.cls ≠ "java/lang/invoke/VarHandle" ∧ (parseMethodDescriptor yX0_isNoNumber.desc).map (fun d => d.parameters.length) = some 1) := by decide +kernel
theorem qdX0_put : (yX0_put.cls = RX0 ∧ yX0_put.cls ≠ "java/lang/invoke/MethodHandle" ∧ yX0_put.cls ≠ "java/lang/invoke/VarHandle" ∧ (parseMethodDescriptor yX0_put.desc).map (fun d => d.parameters.length) = some 3) := by decide +kernel
theorem qdX0_putFrom : (yX0_putFrom.cls = RX0 ∧ yX0_putFrom.cls ≠ "java/lang/invoke/MethodHandle" ∧ yX0_putFrom.cls ≠ "java/lang/invoke/VarHandle" ∧ (parseMethodDescriptor yX0_putFrom.desc).map (fun d => d.parameters.length) = some 4) := by decide +kernel
theorem qdX0_putWild : (yX0_putWild.cls = RX0 ∧ yX0_putWild.cls ≠ "java/lang/invoke/MethodHandle" ∧ yX0_putWild.cls ≠ "java/lang/invoke/VarHandle" ∧ (parseMethodDescriptor yX0_putWild.desc).map (fun d => d.parameters.length) = some 2) := by decide +kernel
theorem qdX0_renew : (yX0_renew.cls = RX0 ∧ yX0_renew.cls ≠ "java/lang/invoke/MethodHandle" ∧ yX0_renew.cls ≠ "java/lang/invoke/VarHandle" ∧ (parseMethodDescriptor yX0_renew.desc).map (fun d => d.parameters.length) = some 2) := by decide +kernel
theorem qdX0_spans : (yX0_spans.cls = RX0 ∧ yX0_spans.cls ≠ "java/lang/invoke/MethodHandle" ∧ yX0_spans.cls ≠ "java/lang/invoke/VarHandle" ∧ (parseMethodDescriptor yX0_spans.desc).map (fun d => d.parameters.length) = some 2) := by decide +kernel
theorem qdX0_wholeOf : (yX0_wholeOf.cls = RX0 ∧ yX0_wholeOf.cls ≠ "java/lang/invoke/MethodHandle" ∧ yX0_wholeOf.cls ≠ "java/lang/invoke/VarHandle" ∧ (parseMethodDescriptor yX0_wholeOf.desc).map (fun d => d.parameters.length) = some 2) := by decide +kernel
theorem qdX1_addLake : (yX1_addLake.cls = RX1 ∧ yX1_addLake.cls ≠ "java/lang/invoke/MethodHandle" ∧ yX1_addLake.cls ≠ "java/lang/invoke/VarHandle" ∧ (parseMethodDescriptor yX1_addLake.desc).map (fun d => d.parameters.length) = some 1) := by decide +kernel
theorem qdX1_advance : (yX1_advance.cls = RX1 ∧ yX1_advance.cls ≠ "java/lang/invoke/MethodHandle" ∧ yX1_advance.cls ≠ "java/lang/invoke/VarHandle" ∧ (parseMethodDescriptor yX1_advance.desc).map (fun d => d.parameters.length) = some 0) := by decide +kernel
theorem qdX1_candidate : (yX1_candidate.cls = RX1 ∧ yX1_candidate.cls ≠ "java/lang/invoke/MethodHandle" ∧ yX1_candidate.cls ≠ "java/lang/invoke/VarHandle" ∧ (parseMethodDescriptor yX1_candidate.desc).map (fun d => d.parameters.length) = some 1) := by decide +kernel
theorem qdX1_countCandidates : (yX1_countCandidates.cls = RX1 ∧ yX1_countCandidates.cls ≠ "java/lang/invoke/MethodHandle" ∧ yX1_countCandidates.cls ≠ "java/lang/invoke/VarHandle" ∧ (parseMethodDescriptor yX1_countCandidates.desc).map (fun d => d.parameters.length) = some 0) := by decide +kernel
theorem qdX1_countCut : (yX1_countCut.cls = RX1 ∧ yX1_countCut.cls ≠ "java/lang/invoke/MethodHandle" ∧ yX1_countCut.cls ≠ "java/lang/invoke/VarHandle" ∧ (parseMethodDescriptor yX1_countCut.desc).map (fun d => d.parameters.length) = some 0) := by decide +kernel
theorem qdX1_countFilled : (yX1_countFilled.cls = RX1 ∧ yX1_countFilled.cls ≠ "java/lang/invoke/MethodHandle" ∧ yX1_countFilled.cls ≠ "java/lang/invoke/VarHandle" ∧ (parseMethodDescriptor yX1_countFilled.desc).map (fun d => d.parameters.length) = some 0) := by decide +kernel
theorem qdX1_cutOff : (yX1_cutOff.cls = RX1 ∧ yX1_cutOff.cls ≠ "java/lang/invoke/MethodHandle" ∧ yX1_cutOff.cls ≠ "java/lang/invoke/VarHandle" ∧ (parseMethodDescriptor yX1_cutOff.desc).map (fun d => d.parameters.length) = some 0) := by decide +kernel
theorem qdX1_drownAround : (yX1_drownAround.cls = RX1 ∧ yX1_drownAround.cls ≠ "java/lang/invoke/MethodHandle" ∧ yX1_drownAround.cls ≠ "java/lang/invoke/VarHandle" ∧ (parseMethodDescriptor yX1_drownAround.desc).map (fun d => d.parameters.length) = some 2) := by decide +kernel
theorem qdX1_firstOutletStep : (yX1_firstOutletStep.cls = RX1 ∧ yX1_firstOutletStep.cls ≠ "java/lang/invoke/MethodHandle" ∧ yX1_firstOutletStep.cls ≠ "java/lang/invoke/VarHandle" ∧ (parseMethodDescriptor yX1_firstOutletStep.desc).map (fun d => d.parameters.length) = some 0) := by decide +kernel
theorem qdX1_greatestRankOpened : (yX1_greatestRankOpened.cls = RX1 ∧ yX1_greatestRankOpened.cls ≠ "java/lang/invoke/MethodHandle" ∧ yX1_greatestRankOpened.cls ≠ "java/lang/invoke/VarHandle" ∧ (parseMethodDescriptor yX1_greatestRankOpened.desc).map (fun d => d.parameters.length) = some 0) := by decide +kernel
theorem qdX1_isCandidate : (yX1_isCandidate.cls = RX1 ∧ yX1_isCandidate.cls ≠ "java/lang/invoke/MethodHandle" ∧ yX1_isCandidate.cls ≠ "java/lang/invoke/VarHandle" ∧ (parseMethodDescriptor yX1_isCandidate.desc).map (fun d => d.parameters.length) = some 1) := by decide +kernel
theorem qdX1_isPreferred : (yX1_isPreferred.cls = RX1 ∧ yX1_isPreferred.cls ≠ "java/lang/invoke/MethodHandle" ∧ yX1_isPreferred.cls ≠ "java/lang/invoke/VarHandle" ∧ (parseMethodDescriptor yX1_isPreferred.desc).map (fun d => d.parameters.length) = some 3) := by decide +kernel
theorem qdX1_leads : (yX1_leads.cls = RX1 ∧ yX1_leads.cls ≠ "java/lang/invoke/MethodHandle" ∧ yX1_leads.cls ≠ "java/lang/invoke/VarHandle" ∧ (parseMethodDescriptor yX1_leads.desc).map (fun d => d.parameters.length) = some 2) := by decide +kernel
theorem qdX1_nextThroat : (yX1_nextThroat.cls = RX1 ∧ yX1_nextThroat.cls ≠ "java/lang/invoke/MethodHandle" ∧ yX1_nextThroat.cls ≠ "java/lang/invoke/VarHandle" ∧ (parseMethodDescriptor yX1_nextThroat.desc).map (fun d => d.parameters.length) = some 0) := by decide +kernel
theorem qdX1_preferredAt : (yX1_preferredAt.cls = RX1 ∧ yX1_preferredAt.cls ≠ "java/lang/invoke/MethodHandle" ∧ yX1_preferredAt.cls ≠ "java/lang/invoke/VarHandle" ∧ (parseMethodDescriptor yX1_preferredAt.desc).map (fun d => d.parameters.length) = some 1) := by decide +kernel
theorem qdX1_reachAround : (yX1_reachAround.cls = RX1 ∧ yX1_reachAround.cls ≠ "java/lang/invoke/MethodHandle" ∧ yX1_reachAround.cls ≠ "java/lang/invoke/VarHandle" ∧ (parseMethodDescriptor yX1_reachAround.desc).map (fun d => d.parameters.length) = some 2) := by decide +kernel
theorem qdX1_reachFromOutlets : (yX1_reachFromOutlets.cls = RX1 ∧ yX1_reachFromOutlets.cls ≠ "java/lang/invoke/MethodHandle" ∧ yX1_reachFromOutlets.cls ≠ "java/lang/invoke/VarHandle" ∧ (parseMethodDescriptor yX1_reachFromOutlets.desc).map (fun d => d.parameters.length) = some 0) := by decide +kernel
theorem qdX1_start : (yX1_start.cls = RX1 ∧ yX1_start.cls ≠ "java/lang/invoke/MethodHandle" ∧ yX1_start.cls ≠ "java/lang/invoke/VarHandle" ∧ (parseMethodDescriptor yX1_start.desc).map (fun d => d.parameters.length) = some 0) := by decide +kernel
theorem qdX1_takeBackTo : (yX1_takeBackTo.cls = RX1 ∧ yX1_takeBackTo.cls ≠ "java/lang/invoke/MethodHandle" ∧ yX1_takeBackTo.cls ≠ "java/lang/invoke/VarHandle" ∧ (parseMethodDescriptor yX1_takeBackTo.desc).map (fun d => d.parameters.length) = some 1) := by decide +kernel
theorem qdX2_across : (yX2_across.cls = RX2 ∧ yX2_across.cls ≠ "java/lang/invoke/MethodHandle" ∧ yX2_across.cls ≠ "java/lang/invoke/VarHandle" ∧ (parseMethodDescriptor yX2_across.desc).map (fun d => d.parameters.length) = some 2) := by decide +kernel
theorem qdX2_addPore : (yX2_addPore.cls = RX2 ∧ yX2_addPore.cls ≠ "java/lang/invoke/MethodHandle" ∧ yX2_addPore.cls ≠ "java/lang/invoke/VarHandle" ∧ (parseMethodDescriptor yX2_addPore.desc).map (fun d => d.parameters.length) = some 1) := by decide +kernel
theorem qdX2_addThroat : (yX2_addThroat.cls = RX2 ∧ yX2_addThroat.cls ≠ "java/lang/invoke/MethodHandle" ∧ yX2_addThroat.cls ≠ "java/lang/invoke/VarHandle" ∧ (parseMethodDescriptor yX2_addThroat.desc).map (fun d => d.parameters.length) = some 2) := by decide +kernel
theorem qdX2_hasPore : (yX2_hasPore.cls = RX2 ∧ yX2_hasPore.cls ≠ "java/lang/invoke/MethodHandle" ∧ yX2_hasPore.cls ≠ "java/lang/invoke/VarHandle" ∧ (parseMethodDescriptor yX2_hasPore.desc).map (fun d => d.parameters.length) = some 1) := by decide +kernel
theorem qdX2_hasThroat : (yX2_hasThroat.cls = RX2 ∧ yX2_hasThroat.cls ≠ "java/lang/invoke/MethodHandle" ∧ yX2_hasThroat.cls ≠ "java/lang/invoke/VarHandle" ∧ (parseMethodDescriptor yX2_hasThroat.desc).map (fun d => d.parameters.length) = some 1) := by decide +kernel
theorem qdX2_isAhead : (yX2_isAhead.cls = RX2 ∧ yX2_isAhead.cls ≠ "java/lang/invoke/MethodHandle" ∧ yX2_isAhead.cls ≠ "java/lang/invoke/VarHandle" ∧ (parseMethodDescriptor yX2_isAhead.desc).map (fun d => d.parameters.length) = some 2) := by decide +kernel
theorem qdX2_isOpen : (yX2_isOpen.cls = RX2 ∧ yX2_isOpen.cls ≠ "java/lang/invoke/MethodHandle" ∧ yX2_isOpen.cls ≠ "java/lang/invoke/VarHandle" ∧ (parseMethodDescriptor yX2_isOpen.desc).map (fun d => d.parameters.length) = some 1) := by decide +kernel
theorem qdX2_listAt : (yX2_listAt.cls = RX2 ∧ yX2_listAt.cls ≠ "java/lang/invoke/MethodHandle" ∧ yX2_listAt.cls ≠ "java/lang/invoke/VarHandle" ∧ (parseMethodDescriptor yX2_listAt.desc).map (fun d => d.parameters.length) = some 2) := by decide +kernel
theorem qdX2_place : (yX2_place.cls = RX2 ∧ yX2_place.cls ≠ "java/lang/invoke/MethodHandle" ∧ yX2_place.cls ≠ "java/lang/invoke/VarHandle" ∧ (parseMethodDescriptor yX2_place.desc).map (fun d => d.parameters.length) = some 2) := by decide +kernel
theorem qdX2_rankIn : (yX2_rankIn.cls = RX2 ∧ yX2_rankIn.cls ≠ "java/lang/invoke/MethodHandle" ∧ yX2_rankIn.cls ≠ "java/lang/invoke/VarHandle" ∧ (parseMethodDescriptor yX2_rankIn.desc).map (fun d => d.parameters.length) = some 1) := by decide +kernel
theorem qdX2_rankOut : (yX2_rankOut.cls = RX2 ∧ yX2_rankOut.cls ≠ "java/lang/invoke/MethodHandle" ∧ yX2_rankOut.cls ≠ "java/lang/invoke/VarHandle" ∧ (parseMethodDescriptor yX2_rankOut.desc).map (fun d => d.parameters.length) = some 1) := by decide +kernel
theorem qdX2_settle : (yX2_settle.cls = RX2 ∧ yX2_settle.cls ≠ "java/lang/invoke/MethodHandle" ∧ yX2_settle.cls ≠ "java/lang/invoke/VarHandle" ∧ (parseMethodDescriptor yX2_settle.desc).map (fun d => d.parameters.length) = some 3) := by decide +kernel
theorem qdX3_branch : (yX3_branch.cls = RX3 ∧ yX3_branch.cls ≠ "java/lang/invoke/MethodHandle" ∧ yX3_branch.cls ≠ "java/lang/invoke/VarHandle" ∧ (parseMethodDescriptor yX3_branch.desc).map (fun d => d.parameters.length) = some 1) := by decide +kernel
theorem qdX3_fill : (yX3_fill.cls = RX3 ∧ yX3_fill.cls ≠ "java/lang/invoke/MethodHandle" ∧ yX3_fill.cls ≠ "java/lang/invoke/VarHandle" ∧ (parseMethodDescriptor yX3_fill.desc).map (fun d => d.parameters.length) = some 2) := by decide +kernel
theorem qdX3_fillNext : (yX3_fillNext.cls = RX3 ∧ yX3_fillNext.cls ≠ "java/lang/invoke/MethodHandle" ∧ yX3_fillNext.cls ≠ "java/lang/invoke/VarHandle" ∧ (parseMethodDescriptor yX3_fillNext.desc).map (fun d => d.parameters.length) = some 0) := by decide +kernel
theorem qdX3_flood : (yX3_flood.cls = RX3 ∧ yX3_flood.cls ≠ "java/lang/invoke/MethodHandle" ∧ yX3_flood.cls ≠ "java/lang/invoke/VarHandle" ∧ (parseMethodDescriptor yX3_flood.desc).map (fun d => d.parameters.length) = some 0) := by decide +kernel
theorem qdX3_rankJoining : (yX3_rankJoining.cls = RX3 ∧ yX3_rankJoining.cls ≠ "java/lang/invoke/MethodHandle" ∧ yX3_rankJoining.cls ≠ "java/lang/invoke/VarHandle" ∧ (parseMethodDescriptor yX3_rankJoining.desc).map (fun d => d.parameters.length) = some 2) := by decide +kernel
theorem qdX3_stand : (yX3_stand.cls = RX3 ∧ yX3_stand.cls ≠ "java/lang/invoke/MethodHandle" ∧ yX3_stand.cls ≠ "java/lang/invoke/VarHandle" ∧ (parseMethodDescriptor yX3_stand.desc).map (fun d => d.parameters.length) = some 0) := by decide +kernel
theorem qdX3_throatOnWay : (yX3_throatOnWay.cls = RX3 ∧ yX3_throatOnWay.cls ≠ "java/lang/invoke/MethodHandle" ∧ yX3_throatOnWay.cls ≠ "java/lang/invoke/VarHandle" ∧ (parseMethodDescriptor yX3_throatOnWay.desc).map (fun d => d.parameters.length) = some 2) := by decide +kernel
theorem qdX3_unite : (yX3_unite.cls = RX3 ∧ yX3_unite.cls ≠ "java/lang/invoke/MethodHandle" ∧ yX3_unite.cls ≠ "java/lang/invoke/VarHandle" ∧ (parseMethodDescriptor yX3_unite.desc).map (fun d => d.parameters.length) = some 1) := by decide +kernel
theorem qdX4_about : (yX4_about.cls = RX4 ∧ yX4_about.cls ≠ "java/lang/invoke/MethodHandle" ∧ yX4_about.cls ≠ "java/lang/invoke/VarHandle" ∧ (parseMethodDescriptor yX4_about.desc).map (fun d => d.parameters.length) = some 2) := by decide +kernel
theorem qdX4_alter : (yX4_alter.cls = RX4 ∧ yX4_alter.cls ≠ "java/lang/invoke/MethodHandle" ∧ yX4_alter.cls ≠ "java/lang/invoke/VarHandle" ∧ (parseMethodDescriptor yX4_alter.desc).map (fun d => d.parameters.length) = some 2) := by decide +kernel
theorem qdX4_begin : (yX4_begin.cls = RX4 ∧ yX4_begin.cls ≠ "java/lang/invoke/MethodHandle" ∧ yX4_begin.cls ≠ "java/lang/invoke/VarHandle" ∧ (parseMethodDescriptor yX4_begin.desc).map (fun d => d.parameters.length) = some 0) := by decide +kernel
theorem qdX4_cell : (yX4_cell.cls = RX4 ∧ yX4_cell.cls ≠ "java/lang/invoke/MethodHandle" ∧ yX4_cell.cls ≠ "java/lang/invoke/VarHandle" ∧ (parseMethodDescriptor yX4_cell.desc).map (fun d => d.parameters.length) = some 4) := by decide +kernel
theorem qdX4_check : (yX4_check.cls = RX4 ∧ yX4_check.cls ≠ "java/lang/invoke/MethodHandle" ∧ yX4_check.cls ≠ "java/lang/invoke/VarHandle" ∧ (parseMethodDescriptor yX4_check.desc).map (fun d => d.parameters.length) = some 0) := by decide +kernel
theorem qdX4_claim : (yX4_claim.cls = RX4 ∧ yX4_claim.cls ≠ "java/lang/invoke/MethodHandle" ∧ yX4_claim.cls ≠ "java/lang/invoke/VarHandle" ∧ (parseMethodDescriptor yX4_claim.desc).map (fun d => d.parameters.length) = some 1) := by decide +kernel
theorem qdX4_copy : (yX4_copy.cls = RX4 ∧ yX4_copy.cls ≠ "java/lang/invoke/MethodHandle" ∧ yX4_copy.cls ≠ "java/lang/invoke/VarHandle" ∧ (parseMethodDescriptor yX4_copy.desc).map (fun d => d.parameters.length) = some 0) := by decide +kernel
theorem qdX4_core : (yX4_core.cls = RX4 ∧ yX4_core.cls ≠ "java/lang/invoke/MethodHandle" ∧ yX4_core.cls ≠ "java/lang/invoke/VarHandle" ∧ (parseMethodDescriptor yX4_core.desc).map (fun d => d.parameters.length) = some 3) := by decide +kernel
theorem qdX4_front : (yX4_front.cls = RX4 ∧ yX4_front.cls ≠ "java/lang/invoke/MethodHandle" ∧ yX4_front.cls ≠ "java/lang/invoke/VarHandle" ∧ (parseMethodDescriptor yX4_front.desc).map (fun d => d.parameters.length) = some 1) := by decide +kernel
theorem qdX4_hasPlace : (yX4_hasPlace.cls = RX4 ∧ yX4_hasPlace.cls ≠ "java/lang/invoke/MethodHandle" ∧ yX4_hasPlace.cls ≠ "java/lang/invoke/VarHandle" ∧ (parseMethodDescriptor yX4_hasPlace.desc).map (fun d => d.parameters.length) = some 1) := by decide +kernel
theorem qdX4_hinder : (yX4_hinder.cls = RX4 ∧ yX4_hinder.cls ≠ "java/lang/invoke/MethodHandle" ∧ yX4_hinder.cls ≠ "java/lang/invoke/VarHandle" ∧ (parseMethodDescriptor yX4_hinder.desc).map (fun d => d.parameters.length) = some 2) := by decide +kernel
theorem qdX4_inlet : (yX4_inlet.cls = RX4 ∧ yX4_inlet.cls ≠ "java/lang/invoke/MethodHandle" ∧ yX4_inlet.cls ≠ "java/lang/invoke/VarHandle" ∧ (parseMethodDescriptor yX4_inlet.desc).map (fun d => d.parameters.length) = some 2) := by decide +kernel
theorem qdX4_join : (yX4_join.cls = RX4 ∧ yX4_join.cls ≠ "java/lang/invoke/MethodHandle" ∧ yX4_join.cls ≠ "java/lang/invoke/VarHandle" ∧ (parseMethodDescriptor yX4_join.desc).map (fun d => d.parameters.length) = some 2) := by decide +kernel
theorem qdX4_lake : (yX4_lake.cls = RX4 ∧ yX4_lake.cls ≠ "java/lang/invoke/MethodHandle" ∧ yX4_lake.cls ≠ "java/lang/invoke/VarHandle" ∧ (parseMethodDescriptor yX4_lake.desc).map (fun d => d.parameters.length) = some 2) := by decide +kernel
theorem qdX4_lose : (yX4_lose.cls = RX4 ∧ yX4_lose.cls ≠ "java/lang/invoke/MethodHandle" ∧ yX4_lose.cls ≠ "java/lang/invoke/VarHandle" ∧ (parseMethodDescriptor yX4_lose.desc).map (fun d => d.parameters.length) = some 1) := by decide +kernel
theorem qdX4_many : (yX4_many.cls = RX4 ∧ yX4_many.cls ≠ "java/lang/invoke/MethodHandle" ∧ yX4_many.cls ≠ "java/lang/invoke/VarHandle" ∧ (parseMethodDescriptor yX4_many.desc).map (fun d => d.parameters.length) = some 1) := by decide +kernel
theorem qdX4_manyInRun : (yX4_manyInRun.cls = RX4 ∧ yX4_manyInRun.cls ≠ "java/lang/invoke/MethodHandle" ∧ yX4_manyInRun.cls ≠ "java/lang/invoke/VarHandle" ∧ (parseMethodDescriptor yX4_manyInRun.desc).map (fun d => d.parameters.length) = some 1) := by decide +kernel
theorem qdX4_mayHinder : (yX4_mayHinder.cls = RX4 ∧ yX4_mayHinder.cls ≠ "java/lang/invoke/MethodHandle" ∧ yX4_mayHinder.cls ≠ "java/lang/invoke/VarHandle" ∧ (parseMethodDescriptor yX4_mayHinder.desc).map (fun d => d.parameters.length) = some 1) := by decide +kernel
theorem qdX4_now : (yX4_now.cls = RX4 ∧ yX4_now.cls ≠ "java/lang/invoke/MethodHandle" ∧ yX4_now.cls ≠ "java/lang/invoke/VarHandle" ∧ (parseMethodDescriptor yX4_now.desc).map (fun d => d.parameters.length) = some 2) := by decide +kernel
theorem qdX4_of : (yX4_of.cls = RX4 ∧ yX4_of.cls ≠ "java/lang/invoke/MethodHandle" ∧ yX4_of.cls ≠ "java/lang/invoke/VarHandle" ∧ (parseMethodDescriptor yX4_of.desc).map (fun d => d.parameters.length) = some 2) := by decide +kernel
theorem qdX4_opened : (yX4_opened.cls = RX4 ∧ yX4_opened.cls ≠ "java/lang/invoke/MethodHandle" ∧ yX4_opened.cls ≠ "java/lang/invoke/VarHandle" ∧ (parseMethodDescriptor yX4_opened.desc).map (fun d => d.parameters.length) = some 1) := by decide +kernel
theorem qdX4_pore : (yX4_pore.cls = RX4 ∧ yX4_pore.cls ≠ "java/lang/invoke/MethodHandle" ∧ yX4_pore.cls ≠ "java/lang/invoke/VarHandle" ∧ (parseMethodDescriptor yX4_pore.desc).map (fun d => d.parameters.length) = some 1) := by decide +kernel
theorem qdX4_pour : (yX4_pour.cls = RX4 ∧ yX4_pour.cls ≠ "java/lang/invoke/MethodHandle" ∧ yX4_pour.cls ≠ "java/lang/invoke/VarHandle" ∧ (parseMethodDescriptor yX4_pour.desc).map (fun d => d.parameters.length) = some 4) := by decide +kernel
theorem qdX4_pourOne : (yX4_pourOne.cls = RX4 ∧ yX4_pourOne.cls ≠ "java/lang/invoke/MethodHandle" ∧ yX4_pourOne.cls ≠ "java/lang/invoke/VarHandle" ∧ (parseMethodDescriptor yX4_pourOne.desc).map (fun d => d.parameters.length) = some 3) := by decide +kernel
theorem qdX4_ranked : (yX4_ranked.cls = RX4 ∧ yX4_ranked.cls ≠ "java/lang/invoke/MethodHandle" ∧ yX4_ranked.cls ≠ "java/lang/invoke/VarHandle" ∧ (parseMethodDescriptor yX4_ranked.desc).map (fun d => d.parameters.length) = some 1) := by decide +kernel
theorem qdX4_run : (yX4_run.cls = RX4 ∧ yX4_run.cls ≠ "java/lang/invoke/MethodHandle" ∧ yX4_run.cls ≠ "java/lang/invoke/VarHandle" ∧ (parseMethodDescriptor yX4_run.desc).map (fun d => d.parameters.length) = some 1) := by decide +kernel
theorem qdX4_shut : (yX4_shut.cls = RX4 ∧ yX4_shut.cls ≠ "java/lang/invoke/MethodHandle" ∧ yX4_shut.cls ≠ "java/lang/invoke/VarHandle" ∧ (parseMethodDescriptor yX4_shut.desc).map (fun d => d.parameters.length) = some 2) := by decide +kernel
theorem qdX4_splice : (yX4_splice.cls = RX4 ∧ yX4_splice.cls ≠ "java/lang/invoke/MethodHandle" ∧ yX4_splice.cls ≠ "java/lang/invoke/VarHandle" ∧ (parseMethodDescriptor yX4_splice.desc).map (fun d => d.parameters.length) = some 5) := by decide +kernel
theorem qdX4_step : (yX4_step.cls = RX4 ∧ yX4_step.cls ≠ "java/lang/invoke/MethodHandle" ∧ yX4_step.cls ≠ "java/lang/invoke/VarHandle" ∧ (parseMethodDescriptor yX4_step.desc).map (fun d => d.parameters.length) = some 0) := by decide +kernel
theorem qdX4_throat : (yX4_throat.cls = RX4 ∧ yX4_throat.cls ≠ "java/lang/invoke/MethodHandle" ∧ yX4_throat.cls ≠ "java/lang/invoke/VarHandle" ∧ (parseMethodDescriptor yX4_throat.desc).map (fun d => d.parameters.length) = some 2) := by decide +kernel
theorem qdX4_through : (yX4_through.cls = RX4 ∧ yX4_through.cls ≠ "java/lang/invoke/MethodHandle" ∧ yX4_through.cls ≠ "java/lang/invoke/VarHandle" ∧ (parseMethodDescriptor yX4_through.desc).map (fun d => d.parameters.length) = some 0) := by decide +kernel
theorem qdX4_told : (yX4_told.cls = RX4 ∧ yX4_told.cls ≠ "java/lang/invoke/MethodHandle" ∧ yX4_told.cls ≠ "java/lang/invoke/VarHandle" ∧ (parseMethodDescriptor yX4_told.desc).map (fun d => d.parameters.length) = some 2) := by decide +kernel
theorem qdX4_trapping : (yX4_trapping.cls = RX4 ∧ yX4_trapping.cls ≠ "java/lang/invoke/MethodHandle" ∧ yX4_trapping.cls ≠ "java/lang/invoke/VarHandle" ∧ (parseMethodDescriptor yX4_trapping.desc).map (fun d => d.parameters.length) = some 1) := by decide +kernel
theorem qdX4_tree : (yX4_tree.cls = RX4 ∧ yX4_tree.cls ≠ "java/lang/invoke/MethodHandle" ∧ yX4_tree.cls ≠ "java/lang/invoke/VarHandle" ∧ (parseMethodDescriptor yX4_tree.desc).map (fun d => d.parameters.length) = some 1) := by decide +kernel
theorem qdX4_unclaim : (yX4_unclaim.cls = RX4 ∧ yX4_unclaim.cls ≠ "java/lang/invoke/MethodHandle" ∧ yX4_unclaim.cls ≠ "java/lang/invoke/VarHandle" ∧ (parseMethodDescriptor yX4_unclaim.desc).map (fun d => d.parameters.length) = some 0) := by decide +kernel
theorem qdX4_undo : (yX4_undo.cls = RX4 ∧ yX4_undo.cls ≠ "java/lang/invoke/MethodHandle" ∧ yX4_undo.cls ≠ "java/lang/invoke/VarHandle" ∧ (parseMethodDescriptor yX4_undo.desc).map (fun d => d.parameters.length) = some 1) := by decide +kernel
theorem qdX4_way : (yX4_way.cls = RX4 ∧ yX4_way.cls ≠ "java/lang/invoke/MethodHandle" ∧ yX4_way.cls ≠ "java/lang/invoke/VarHandle" ∧ (parseMethodDescriptor yX4_way.desc).map (fun d => d.parameters.length) = some 2) := by decide +kernel
theorem qdX4_wild : (yX4_wild.cls = RX4 ∧ yX4_wild.cls ≠ "java/lang/invoke/MethodHandle" ∧ yX4_wild.cls ≠ "java/lang/invoke/VarHandle" ∧ (parseMethodDescriptor yX4_wild.desc).map (fun d => d.parameters.length) = some 3) := by decide +kernel
theorem qdX4_worst : (yX4_worst.cls = RX4 ∧ yX4_worst.cls ≠ "java/lang/invoke/MethodHandle" ∧ yX4_worst.cls ≠ "java/lang/invoke/VarHandle" ∧ (parseMethodDescriptor yX4_worst.desc).map (fun d => d.parameters.length) = some 1) := by decide +kernel
theorem qdX5_about : (yX5_about.cls = RX5 ∧ yX5_about.cls ≠ "java/lang/invoke/MethodHandle" ∧ yX5_about.cls ≠ "java/lang/invoke/VarHandle" ∧ (parseMethodDescriptor yX5_about.desc).map (fun d => d.parameters.length) = some 2) := by decide +kernel
theorem qdX5_alter : (yX5_alter.cls = RX5 ∧ yX5_alter.cls ≠ "java/lang/invoke/MethodHandle" ∧ yX5_alter.cls ≠ "java/lang/invoke/VarHandle" ∧ (parseMethodDescriptor yX5_alter.desc).map (fun d => d.parameters.length) = some 2) := by decide +kernel
theorem qdX5_apart : (yX5_apart.cls = RX5 ∧ yX5_apart.cls ≠ "java/lang/invoke/MethodHandle" ∧ yX5_apart.cls ≠ "java/lang/invoke/VarHandle" ∧ (parseMethodDescriptor yX5_apart.desc).map (fun d => d.parameters.length) = some 0) := by decide +kernel
theorem qdX5_begin : (yX5_begin.cls = RX5 ∧ yX5_begin.cls ≠ "java/lang/invoke/MethodHandle" ∧ yX5_begin.cls ≠ "java/lang/invoke/VarHandle" ∧ (parseMethodDescriptor yX5_begin.desc).map (fun d => d.parameters.length) = some 0) := by decide +kernel
theorem qdX5_behind : (yX5_behind.cls = RX5 ∧ yX5_behind.cls ≠ "java/lang/invoke/MethodHandle" ∧ yX5_behind.cls ≠ "java/lang/invoke/VarHandle" ∧ (parseMethodDescriptor yX5_behind.desc).map (fun d => d.parameters.length) = some 1) := by decide +kernel
theorem qdX5_bestAt : (yX5_bestAt.cls = RX5 ∧ yX5_bestAt.cls ≠ "java/lang/invoke/MethodHandle" ∧ yX5_bestAt.cls ≠ "java/lang/invoke/VarHandle" ∧ (parseMethodDescriptor yX5_bestAt.desc).map (fun d => d.parameters.length) = some 2) := by decide +kernel
theorem qdX5_cell : (yX5_cell.cls = RX5 ∧ yX5_cell.cls ≠ "java/lang/invoke/MethodHandle" ∧ yX5_cell.cls ≠ "java/lang/invoke/VarHandle" ∧ (parseMethodDescriptor yX5_cell.desc).map (fun d => d.parameters.length) = some 4) := by decide +kernel
theorem qdX5_check : (yX5_check.cls = RX5 ∧ yX5_check.cls ≠ "java/lang/invoke/MethodHandle" ∧ yX5_check.cls ≠ "java/lang/invoke/VarHandle" ∧ (parseMethodDescriptor yX5_check.desc).map (fun d => d.parameters.length) = some 0) := by decide +kernel
theorem qdX5_claim : (yX5_claim.cls = RX5 ∧ yX5_claim.cls ≠ "java/lang/invoke/MethodHandle" ∧ yX5_claim.cls ≠ "java/lang/invoke/VarHandle" ∧ (parseMethodDescriptor yX5_claim.desc).map (fun d => d.parameters.length) = some 1) := by decide +kernel
theorem qdX5_copy : (yX5_copy.cls = RX5 ∧ yX5_copy.cls ≠ "java/lang/invoke/MethodHandle" ∧ yX5_copy.cls ≠ "java/lang/invoke/VarHandle" ∧ (parseMethodDescriptor yX5_copy.desc).map (fun d => d.parameters.length) = some 0) := by decide +kernel
theorem qdX5_core : (yX5_core.cls = RX5 ∧ yX5_core.cls ≠ "java/lang/invoke/MethodHandle" ∧ yX5_core.cls ≠ "java/lang/invoke/VarHandle" ∧ (parseMethodDescriptor yX5_core.desc).map (fun d => d.parameters.length) = some 3) := by decide +kernel
theorem qdX5_countPores : (yX5_countPores.cls = RX5 ∧ yX5_countPores.cls ≠ "java/lang/invoke/MethodHandle" ∧ yX5_countPores.cls ≠ "java/lang/invoke/VarHandle" ∧ (parseMethodDescriptor yX5_countPores.desc).map (fun d => d.parameters.length) = some 1) := by decide +kernel
theorem qdX5_front : (yX5_front.cls = RX5 ∧ yX5_front.cls ≠ "java/lang/invoke/MethodHandle" ∧ yX5_front.cls ≠ "java/lang/invoke/VarHandle" ∧ (parseMethodDescriptor yX5_front.desc).map (fun d => d.parameters.length) = some 1) := by decide +kernel
theorem qdX5_hasRow : (yX5_hasRow.cls = RX5 ∧ yX5_hasRow.cls ≠ "java/lang/invoke/MethodHandle" ∧ yX5_hasRow.cls ≠ "java/lang/invoke/VarHandle" ∧ (parseMethodDescriptor yX5_hasRow.desc).map (fun d => d.parameters.length) = some 3) := by decide +kernel
theorem qdX5_hinder : (yX5_hinder.cls = RX5 ∧ yX5_hinder.cls ≠ "java/lang/invoke/MethodHandle" ∧ yX5_hinder.cls ≠ "java/lang/invoke/VarHandle" ∧ (parseMethodDescriptor yX5_hinder.desc).map (fun d => d.parameters.length) = some 2) := by decide +kernel
theorem qdX5_inlet : (yX5_inlet.cls = RX5 ∧ yX5_inlet.cls ≠ "java/lang/invoke/MethodHandle" ∧ yX5_inlet.cls ≠ "java/lang/invoke/VarHandle" ∧ (parseMethodDescriptor yX5_inlet.desc).map (fun d => d.parameters.length) = some 2) := by decide +kernel
theorem qdX5_isCandidate : (yX5_isCandidate.cls = RX5 ∧ yX5_isCandidate.cls ≠ "java/lang/invoke/MethodHandle" ∧ yX5_isCandidate.cls ≠ "java/lang/invoke/VarHandle" ∧ (parseMethodDescriptor yX5_isCandidate.desc).map (fun d => d.parameters.length) = some 1) := by decide +kernel
theorem qdX5_isCore : (yX5_isCore.cls = RX5 ∧ yX5_isCore.cls ≠ "java/lang/invoke/MethodHandle" ∧ yX5_isCore.cls ≠ "java/lang/invoke/VarHandle" ∧ (parseMethodDescriptor yX5_isCore.desc).map (fun d => d.parameters.length) = some 1) := by decide +kernel
theorem qdX5_isFilled : (yX5_isFilled.cls = RX5 ∧ yX5_isFilled.cls ≠ "java/lang/invoke/MethodHandle" ∧ yX5_isFilled.cls ≠ "java/lang/invoke/VarHandle" ∧ (parseMethodDescriptor yX5_isFilled.desc).map (fun d => d.parameters.length) = some 1) := by decide +kernel
theorem qdX5_isFree : (yX5_isFree.cls = RX5 ∧ yX5_isFree.cls ≠ "java/lang/invoke/MethodHandle" ∧ yX5_isFree.cls ≠ "java/lang/invoke/VarHandle" ∧ (parseMethodDescriptor yX5_isFree.desc).map (fun d => d.parameters.length) = some 1) := by decide +kernel
theorem qdX5_isLess : (yX5_isLess.cls = RX5 ∧ yX5_isLess.cls ≠ "java/lang/invoke/MethodHandle" ∧ yX5_isLess.cls ≠ "java/lang/invoke/VarHandle" ∧ (parseMethodDescriptor yX5_isLess.desc).map (fun d => d.parameters.length) = some 2) := by decide +kernel
theorem qdX5_isPore : (yX5_isPore.cls = RX5 ∧ yX5_isPore.cls ≠ "java/lang/invoke/MethodHandle" ∧ yX5_isPore.cls ≠ "java/lang/invoke/VarHandle" ∧ (parseMethodDescriptor yX5_isPore.desc).map (fun d => d.parameters.length) = some 1) := by decide +kernel
theorem qdX5_isThroat : (yX5_isThroat.cls = RX5 ∧ yX5_isThroat.cls ≠ "java/lang/invoke/MethodHandle" ∧ yX5_isThroat.cls ≠ "java/lang/invoke/VarHandle" ∧ (parseMethodDescriptor yX5_isThroat.desc).map (fun d => d.parameters.length) = some 1) := by decide +kernel
theorem qdX5_join : (yX5_join.cls = RX5 ∧ yX5_join.cls ≠ "java/lang/invoke/MethodHandle" ∧ yX5_join.cls ≠ "java/lang/invoke/VarHandle" ∧ (parseMethodDescriptor yX5_join.desc).map (fun d => d.parameters.length) = some 2) := by decide +kernel
theorem qdX5_keep : (yX5_keep.cls = RX5 ∧ yX5_keep.cls ≠ "java/lang/invoke/MethodHandle" ∧ yX5_keep.cls ≠ "java/lang/invoke/VarHandle" ∧ (parseMethodDescriptor yX5_keep.desc).map (fun d => d.parameters.length) = some 1) := by decide +kernel
theorem qdX5_lake : (yX5_lake.cls = RX5 ∧ yX5_lake.cls ≠ "java/lang/invoke/MethodHandle" ∧ yX5_lake.cls ≠ "java/lang/invoke/VarHandle" ∧ (parseMethodDescriptor yX5_lake.desc).map (fun d => d.parameters.length) = some 2) := by decide +kernel
theorem qdX5_leads : (yX5_leads.cls = RX5 ∧ yX5_leads.cls ≠ "java/lang/invoke/MethodHandle" ∧ yX5_leads.cls ≠ "java/lang/invoke/VarHandle" ∧ (parseMethodDescriptor yX5_leads.desc).map (fun d => d.parameters.length) = some 2) := by decide +kernel
theorem qdX5_lose : (yX5_lose.cls = RX5 ∧ yX5_lose.cls ≠ "java/lang/invoke/MethodHandle" ∧ yX5_lose.cls ≠ "java/lang/invoke/VarHandle" ∧ (parseMethodDescriptor yX5_lose.desc).map (fun d => d.parameters.length) = some 1) := by decide +kernel
theorem qdX5_many : (yX5_many.cls = RX5 ∧ yX5_many.cls ≠ "java/lang/invoke/MethodHandle" ∧ yX5_many.cls ≠ "java/lang/invoke/VarHandle" ∧ (parseMethodDescriptor yX5_many.desc).map (fun d => d.parameters.length) = some 1) := by decide +kernel
theorem qdX5_nextThroat : (yX5_nextThroat.cls = RX5 ∧ yX5_nextThroat.cls ≠ "java/lang/invoke/MethodHandle" ∧ yX5_nextThroat.cls ≠ "java/lang/invoke/VarHandle" ∧ (parseMethodDescriptor yX5_nextThroat.desc).map (fun d => d.parameters.length) = some 0) := by decide +kernel
theorem qdX5_now : (yX5_now.cls = RX5 ∧ yX5_now.cls ≠ "java/lang/invoke/MethodHandle" ∧ yX5_now.cls ≠ "java/lang/invoke/VarHandle" ∧ (parseMethodDescriptor yX5_now.desc).map (fun d => d.parameters.length) = some 2) := by decide +kernel
theorem qdX5_of : (yX5_of.cls = RX5 ∧ yX5_of.cls ≠ "java/lang/invoke/MethodHandle" ∧ yX5_of.cls ≠ "java/lang/invoke/VarHandle" ∧ (parseMethodDescriptor yX5_of.desc).map (fun d => d.parameters.length) = some 2) := by decide +kernel
theorem qdX5_open : (yX5_open.cls = RX5 ∧ yX5_open.cls ≠ "java/lang/invoke/MethodHandle" ∧ yX5_open.cls ≠ "java/lang/invoke/VarHandle" ∧ (parseMethodDescriptor yX5_open.desc).map (fun d => d.parameters.length) = some 1) := by decide +kernel
theorem qdX5_opened : (yX5_opened.cls = RX5 ∧ yX5_opened.cls ≠ "java/lang/invoke/MethodHandle" ∧ yX5_opened.cls ≠ "java/lang/invoke/VarHandle" ∧ (parseMethodDescriptor yX5_opened.desc).map (fun d => d.parameters.length) = some 1) := by decide +kernel
theorem qdX5_plainRun : (yX5_plainRun.cls = RX5 ∧ yX5_plainRun.cls ≠ "java/lang/invoke/MethodHandle" ∧ yX5_plainRun.cls ≠ "java/lang/invoke/VarHandle" ∧ (parseMethodDescriptor yX5_plainRun.desc).map (fun d => d.parameters.length) = some 0) := by decide +kernel
theorem qdX5_pore : (yX5_pore.cls = RX5 ∧ yX5_pore.cls ≠ "java/lang/invoke/MethodHandle" ∧ yX5_pore.cls ≠ "java/lang/invoke/VarHandle" ∧ (parseMethodDescriptor yX5_pore.desc).map (fun d => d.parameters.length) = some 1) := by decide +kernel
theorem qdX5_pour : (yX5_pour.cls = RX5 ∧ yX5_pour.cls ≠ "java/lang/invoke/MethodHandle" ∧ yX5_pour.cls ≠ "java/lang/invoke/VarHandle" ∧ (parseMethodDescriptor yX5_pour.desc).map (fun d => d.parameters.length) = some 4) := by decide +kernel
theorem qdX5_rank : (yX5_rank.cls = RX5 ∧ yX5_rank.cls ≠ "java/lang/invoke/MethodHandle" ∧ yX5_rank.cls ≠ "java/lang/invoke/VarHandle" ∧ (parseMethodDescriptor yX5_rank.desc).map (fun d => d.parameters.length) = some 1) := by decide +kernel
theorem qdX5_ranked : (yX5_ranked.cls = RX5 ∧ yX5_ranked.cls ≠ "java/lang/invoke/MethodHandle" ∧ yX5_ranked.cls ≠ "java/lang/invoke/VarHandle" ∧ (parseMethodDescriptor yX5_ranked.desc).map (fun d => d.parameters.length) = some 1) := by decide +kernel
theorem qdX5_run : (yX5_run.cls = RX5 ∧ yX5_run.cls ≠ "java/lang/invoke/MethodHandle" ∧ yX5_run.cls ≠ "java/lang/invoke/VarHandle" ∧ (parseMethodDescriptor yX5_run.desc).map (fun d => d.parameters.length) = some 1) := by decide +kernel
theorem qdX5_shut : (yX5_shut.cls = RX5 ∧ yX5_shut.cls ≠ "java/lang/invoke/MethodHandle" ∧ yX5_shut.cls ≠ "java/lang/invoke/VarHandle" ∧ (parseMethodDescriptor yX5_shut.desc).map (fun d => d.parameters.length) = some 2) := by decide +kernel
theorem qdX5_splice : (yX5_splice.cls = RX5 ∧ yX5_splice.cls ≠ "java/lang/invoke/MethodHandle" ∧ yX5_splice.cls ≠ "java/lang/invoke/VarHandle" ∧ (parseMethodDescriptor yX5_splice.desc).map (fun d => d.parameters.length) = some 5) := by decide +kernel
theorem qdX5_spreadLake : (yX5_spreadLake.cls = RX5 ∧ yX5_spreadLake.cls ≠ "java/lang/invoke/MethodHandle" ∧ yX5_spreadLake.cls ≠ "java/lang/invoke/VarHandle" ∧ (parseMethodDescriptor yX5_spreadLake.desc).map (fun d => d.parameters.length) = some 1) := by decide +kernel
theorem qdX5_start : (yX5_start.cls = RX5 ∧ yX5_start.cls ≠ "java/lang/invoke/MethodHandle" ∧ yX5_start.cls ≠ "java/lang/invoke/VarHandle" ∧ (parseMethodDescriptor yX5_start.desc).map (fun d => d.parameters.length) = some 0) := by decide +kernel
theorem qdX5_step : (yX5_step.cls = RX5 ∧ yX5_step.cls ≠ "java/lang/invoke/MethodHandle" ∧ yX5_step.cls ≠ "java/lang/invoke/VarHandle" ∧ (parseMethodDescriptor yX5_step.desc).map (fun d => d.parameters.length) = some 0) := by decide +kernel
theorem qdX5_tellLakes : (yX5_tellLakes.cls = RX5 ∧ yX5_tellLakes.cls ≠ "java/lang/invoke/MethodHandle" ∧ yX5_tellLakes.cls ≠ "java/lang/invoke/VarHandle" ∧ (parseMethodDescriptor yX5_tellLakes.desc).map (fun d => d.parameters.length) = some 0) := by decide +kernel
theorem qdX5_throat : (yX5_throat.cls = RX5 ∧ yX5_throat.cls ≠ "java/lang/invoke/MethodHandle" ∧ yX5_throat.cls ≠ "java/lang/invoke/VarHandle" ∧ (parseMethodDescriptor yX5_throat.desc).map (fun d => d.parameters.length) = some 2) := by decide +kernel
theorem qdX5_through : (yX5_through.cls = RX5 ∧ yX5_through.cls ≠ "java/lang/invoke/MethodHandle" ∧ yX5_through.cls ≠ "java/lang/invoke/VarHandle" ∧ (parseMethodDescriptor yX5_through.desc).map (fun d => d.parameters.length) = some 0) := by decide +kernel
theorem qdX5_tie : (yX5_tie.cls = RX5 ∧ yX5_tie.cls ≠ "java/lang/invoke/MethodHandle" ∧ yX5_tie.cls ≠ "java/lang/invoke/VarHandle" ∧ (parseMethodDescriptor yX5_tie.desc).map (fun d => d.parameters.length) = some 1) := by decide +kernel
theorem qdX5_told : (yX5_told.cls = RX5 ∧ yX5_told.cls ≠ "java/lang/invoke/MethodHandle" ∧ yX5_told.cls ≠ "java/lang/invoke/VarHandle" ∧ (parseMethodDescriptor yX5_told.desc).map (fun d => d.parameters.length) = some 2) := by decide +kernel
theorem qdX5_trap : (yX5_trap.cls = RX5 ∧ yX5_trap.cls ≠ "java/lang/invoke/MethodHandle" ∧ yX5_trap.cls ≠ "java/lang/invoke/VarHandle" ∧ (parseMethodDescriptor yX5_trap.desc).map (fun d => d.parameters.length) = some 0) := by decide +kernel
theorem qdX5_trapping : (yX5_trapping.cls = RX5 ∧ yX5_trapping.cls ≠ "java/lang/invoke/MethodHandle" ∧ yX5_trapping.cls ≠ "java/lang/invoke/VarHandle" ∧ (parseMethodDescriptor yX5_trapping.desc).map (fun d => d.parameters.length) = some 1) := by decide +kernel
theorem qdX5_tree : (yX5_tree.cls = RX5 ∧ yX5_tree.cls ≠ "java/lang/invoke/MethodHandle" ∧ yX5_tree.cls ≠ "java/lang/invoke/VarHandle" ∧ (parseMethodDescriptor yX5_tree.desc).map (fun d => d.parameters.length) = some 1) := by decide +kernel
theorem qdX5_unclaim : (yX5_unclaim.cls = RX5 ∧ yX5_unclaim.cls ≠ "java/lang/invoke/MethodHandle" ∧ yX5_unclaim.cls ≠ "java/lang/invoke/VarHandle" ∧ (parseMethodDescriptor yX5_unclaim.desc).map (fun d => d.parameters.length) = some 0) := by decide +kernel
theorem qdX5_undo : (yX5_undo.cls = RX5 ∧ yX5_undo.cls ≠ "java/lang/invoke/MethodHandle" ∧ yX5_undo.cls ≠ "java/lang/invoke/VarHandle" ∧ (parseMethodDescriptor yX5_undo.desc).map (fun d => d.parameters.length) = some 1) := by decide +kernel
theorem qdX5_way : (yX5_way.cls = RX5 ∧ yX5_way.cls ≠ "java/lang/invoke/MethodHandle" ∧ yX5_way.cls ≠ "java/lang/invoke/VarHandle" ∧ (parseMethodDescriptor yX5_way.desc).map (fun d => d.parameters.length) = some 2) := by decide +kernel
theorem qdX5_wholeOf : (yX5_wholeOf.cls = RX5 ∧ yX5_wholeOf.cls ≠ "java/lang/invoke/MethodHandle" ∧ yX5_wholeOf.cls ≠ "java/lang/invoke/VarHandle" ∧ (parseMethodDescriptor yX5_wholeOf.desc).map (fun d => d.parameters.length) = some 2) := by decide +kernel
theorem qdX5_wild : (yX5_wild.cls = RX5 ∧ yX5_wild.cls ≠ "java/lang/invoke/MethodHandle" ∧ yX5_wild.cls ≠ "java/lang/invoke/VarHandle" ∧ (parseMethodDescriptor yX5_wild.desc).map (fun d => d.parameters.length) = some 3) := by decide +kernel
theorem qdX5_worst : (yX5_worst.cls = RX5 ∧ yX5_worst.cls ≠ "java/lang/invoke/MethodHandle" ∧ yX5_worst.cls ≠ "java/lang/invoke/VarHandle" ∧ (parseMethodDescriptor yX5_worst.desc).map (fun d => d.parameters.length) = some 1) := by decide +kernel
end
