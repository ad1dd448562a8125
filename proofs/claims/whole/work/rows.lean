section
-- ===== PART A: goes FIRST, ahead of the names: the tables' words, and 'selects' of the private methods out of them =====
/-- a private method of a class that the tables say can be made, by its rows of tables_1 -/
def lw_okq (q : MethodName × Nat) : Prop := (q.1.cls ≠ "java/lang/invoke/MethodHandle" ∧ q.1.cls ≠ "java/lang/invoke/VarHandle") ∧ Cond.instantiable q.1.cls q.2 ∈ tables_1 ∧ Cond.privateMethod q.1 ∈ tables_1 ∧ Cond.instanceMethod q.1 ∈ tables_1
theorem lw_p0 : lw_okq (⟨"SeepingRock$Rock", "listAt", "(II)V"⟩, 13) := ⟨⟨by decide +kernel, by decide +kernel⟩, List.mem_of_getElem? (i := 18) (by decide +kernel), List.mem_of_getElem? (i := 256) (by decide +kernel), List.mem_of_getElem? (i := 257) (by decide +kernel)⟩
theorem lw_p1 : lw_okq (⟨"SeepingRock$Rock", "rankIn", "(I)V"⟩, 13) := ⟨⟨by decide +kernel, by decide +kernel⟩, List.mem_of_getElem? (i := 18) (by decide +kernel), List.mem_of_getElem? (i := 260) (by decide +kernel), List.mem_of_getElem? (i := 261) (by decide +kernel)⟩
theorem lw_p2 : lw_okq (⟨"SeepingRock$Rock", "isAhead", "(II)Z"⟩, 13) := ⟨⟨by decide +kernel, by decide +kernel⟩, List.mem_of_getElem? (i := 18) (by decide +kernel), List.mem_of_getElem? (i := 264) (by decide +kernel), List.mem_of_getElem? (i := 265) (by decide +kernel)⟩
theorem lw_p3 : lw_okq (⟨"SeepingRock$Rock", "place", "(II)V"⟩, 13) := ⟨⟨by decide +kernel, by decide +kernel⟩, List.mem_of_getElem? (i := 18) (by decide +kernel), List.mem_of_getElem? (i := 268) (by decide +kernel), List.mem_of_getElem? (i := 269) (by decide +kernel)⟩
theorem lw_p4 : lw_okq (⟨"SeepingRock$Rock", "rankOut", "(I)V"⟩, 13) := ⟨⟨by decide +kernel, by decide +kernel⟩, List.mem_of_getElem? (i := 18) (by decide +kernel), List.mem_of_getElem? (i := 293) (by decide +kernel), List.mem_of_getElem? (i := 294) (by decide +kernel)⟩
theorem lw_p5 : lw_okq (⟨"SeepingRock$Core", "wholeOf", "(JI)J"⟩, 5) := ⟨⟨by decide +kernel, by decide +kernel⟩, List.mem_of_getElem? (i := 187) (by decide +kernel), List.mem_of_getElem? (i := 344) (by decide +kernel), List.mem_of_getElem? (i := 345) (by decide +kernel)⟩
theorem lw_p6 : lw_okq (⟨"SeepingRock", "pourOne", "(LSeepingRock$Core;II)V"⟩, 7) := ⟨⟨by decide +kernel, by decide +kernel⟩, List.mem_of_getElem? (i := 10) (by decide +kernel), List.mem_of_getElem? (i := 386) (by decide +kernel), List.mem_of_getElem? (i := 387) (by decide +kernel)⟩
theorem lw_p7 : lw_okq (⟨"SeepingRock$Flow", "cutOff", "()V"⟩, 16) := ⟨⟨by decide +kernel, by decide +kernel⟩, List.mem_of_getElem? (i := 97) (by decide +kernel), List.mem_of_getElem? (i := 402) (by decide +kernel), List.mem_of_getElem? (i := 403) (by decide +kernel)⟩
theorem lw_p8 : lw_okq (⟨"SeepingRock$Flow", "reachFromOutlets", "()V"⟩, 16) := ⟨⟨by decide +kernel, by decide +kernel⟩, List.mem_of_getElem? (i := 97) (by decide +kernel), List.mem_of_getElem? (i := 406) (by decide +kernel), List.mem_of_getElem? (i := 407) (by decide +kernel)⟩
theorem lw_p9 : lw_okq (⟨"SeepingRock$Flow", "reachAround", "(II)I"⟩, 16) := ⟨⟨by decide +kernel, by decide +kernel⟩, List.mem_of_getElem? (i := 97) (by decide +kernel), List.mem_of_getElem? (i := 410) (by decide +kernel), List.mem_of_getElem? (i := 411) (by decide +kernel)⟩
theorem lw_p10 : lw_okq (⟨"SeepingRock$Flow", "addLake", "(I)V"⟩, 16) := ⟨⟨by decide +kernel, by decide +kernel⟩, List.mem_of_getElem? (i := 97) (by decide +kernel), List.mem_of_getElem? (i := 419) (by decide +kernel), List.mem_of_getElem? (i := 420) (by decide +kernel)⟩
theorem lw_p11 : lw_okq (⟨"SeepingRock$Flow", "drownAround", "(II)I"⟩, 16) := ⟨⟨by decide +kernel, by decide +kernel⟩, List.mem_of_getElem? (i := 97) (by decide +kernel), List.mem_of_getElem? (i := 423) (by decide +kernel), List.mem_of_getElem? (i := 424) (by decide +kernel)⟩
theorem lw_p12 : lw_okq (⟨"SeepingRock$Flow", "greatestRankOpened", "()I"⟩, 16) := ⟨⟨by decide +kernel, by decide +kernel⟩, List.mem_of_getElem? (i := 97) (by decide +kernel), List.mem_of_getElem? (i := 427) (by decide +kernel), List.mem_of_getElem? (i := 428) (by decide +kernel)⟩
theorem lw_p13 : lw_okq (⟨"SeepingRock$Flow", "nextThroat", "()I"⟩, 16) := ⟨⟨by decide +kernel, by decide +kernel⟩, List.mem_of_getElem? (i := 97) (by decide +kernel), List.mem_of_getElem? (i := 446) (by decide +kernel), List.mem_of_getElem? (i := 447) (by decide +kernel)⟩
theorem lw_p14 : lw_okq (⟨"SeepingRock$Flow", "preferredAt", "(I)I"⟩, 16) := ⟨⟨by decide +kernel, by decide +kernel⟩, List.mem_of_getElem? (i := 97) (by decide +kernel), List.mem_of_getElem? (i := 450) (by decide +kernel), List.mem_of_getElem? (i := 451) (by decide +kernel)⟩
theorem lw_p15 : lw_okq (⟨"SeepingRock$Flow", "isCandidate", "(I)Z"⟩, 16) := ⟨⟨by decide +kernel, by decide +kernel⟩, List.mem_of_getElem? (i := 97) (by decide +kernel), List.mem_of_getElem? (i := 454) (by decide +kernel), List.mem_of_getElem? (i := 455) (by decide +kernel)⟩
def lw_privs_1 : List (MethodName × Nat) := [(⟨"SeepingRock$Rock", "listAt", "(II)V"⟩, 13), (⟨"SeepingRock$Rock", "rankIn", "(I)V"⟩, 13), (⟨"SeepingRock$Rock", "isAhead", "(II)Z"⟩, 13), (⟨"SeepingRock$Rock", "place", "(II)V"⟩, 13), (⟨"SeepingRock$Rock", "rankOut", "(I)V"⟩, 13), (⟨"SeepingRock$Core", "wholeOf", "(JI)J"⟩, 5), (⟨"SeepingRock", "pourOne", "(LSeepingRock$Core;II)V"⟩, 7), (⟨"SeepingRock$Flow", "cutOff", "()V"⟩, 16), (⟨"SeepingRock$Flow", "reachFromOutlets", "()V"⟩, 16), (⟨"SeepingRock$Flow", "reachAround", "(II)I"⟩, 16), (⟨"SeepingRock$Flow", "addLake", "(I)V"⟩, 16), (⟨"SeepingRock$Flow", "drownAround", "(II)I"⟩, 16), (⟨"SeepingRock$Flow", "greatestRankOpened", "()I"⟩, 16), (⟨"SeepingRock$Flow", "nextThroat", "()I"⟩, 16), (⟨"SeepingRock$Flow", "preferredAt", "(I)I"⟩, 16), (⟨"SeepingRock$Flow", "isCandidate", "(I)Z"⟩, 16)]
theorem lw_r1 : ∀ q ∈ lw_privs_1, lw_okq q := List.forall_mem_cons.mpr ⟨lw_p0, List.forall_mem_cons.mpr ⟨lw_p1, List.forall_mem_cons.mpr ⟨lw_p2, List.forall_mem_cons.mpr ⟨lw_p3, List.forall_mem_cons.mpr ⟨lw_p4, List.forall_mem_cons.mpr ⟨lw_p5, List.forall_mem_cons.mpr ⟨lw_p6, List.forall_mem_cons.mpr ⟨lw_p7, List.forall_mem_cons.mpr ⟨lw_p8, List.forall_mem_cons.mpr ⟨lw_p9, List.forall_mem_cons.mpr ⟨lw_p10, List.forall_mem_cons.mpr ⟨lw_p11, List.forall_mem_cons.mpr ⟨lw_p12, List.forall_mem_cons.mpr ⟨lw_p13, List.forall_mem_cons.mpr ⟨lw_p14, List.forall_mem_cons.mpr ⟨lw_p15, fun _ h => absurd h List.not_mem_nil⟩⟩⟩⟩⟩⟩⟩⟩⟩⟩⟩⟩⟩⟩⟩⟩
theorem lw_p16 : lw_okq (⟨"SeepingRock$Flow", "leads", "(II)Z"⟩, 16) := ⟨⟨by decide +kernel, by decide +kernel⟩, List.mem_of_getElem? (i := 97) (by decide +kernel), List.mem_of_getElem? (i := 458) (by decide +kernel), List.mem_of_getElem? (i := 459) (by decide +kernel)⟩
theorem lw_p17 : lw_okq (⟨"SeepingRock$Flow", "isPreferred", "(IIZ)Z"⟩, 16) := ⟨⟨by decide +kernel, by decide +kernel⟩, List.mem_of_getElem? (i := 97) (by decide +kernel), List.mem_of_getElem? (i := 462) (by decide +kernel), List.mem_of_getElem? (i := 463) (by decide +kernel)⟩
theorem lw_p18 : lw_okq (⟨"SeepingRock", "manyInRun", "(I)I"⟩, 7) := ⟨⟨by decide +kernel, by decide +kernel⟩, List.mem_of_getElem? (i := 10) (by decide +kernel), List.mem_of_getElem? (i := 486) (by decide +kernel), List.mem_of_getElem? (i := 487) (by decide +kernel)⟩
theorem lw_p19 : lw_okq (⟨"SeepingRock$Ways", "fillNext", "()Z"⟩, 5) := ⟨⟨by decide +kernel, by decide +kernel⟩, List.mem_of_getElem? (i := 164) (by decide +kernel), List.mem_of_getElem? (i := 531) (by decide +kernel), List.mem_of_getElem? (i := 532) (by decide +kernel)⟩
theorem lw_p20 : lw_okq (⟨"SeepingRock$Ways", "fill", "(II)V"⟩, 5) := ⟨⟨by decide +kernel, by decide +kernel⟩, List.mem_of_getElem? (i := 164) (by decide +kernel), List.mem_of_getElem? (i := 535) (by decide +kernel), List.mem_of_getElem? (i := 536) (by decide +kernel)⟩
theorem lw_p21 : lw_okq (⟨"SeepingRock$Ways", "stand", "()V"⟩, 5) := ⟨⟨by decide +kernel, by decide +kernel⟩, List.mem_of_getElem? (i := 164) (by decide +kernel), List.mem_of_getElem? (i := 557) (by decide +kernel), List.mem_of_getElem? (i := 558) (by decide +kernel)⟩
theorem lw_p22 : lw_okq (⟨"SeepingRock$Ways", "unite", "(I)Z"⟩, 5) := ⟨⟨by decide +kernel, by decide +kernel⟩, List.mem_of_getElem? (i := 164) (by decide +kernel), List.mem_of_getElem? (i := 561) (by decide +kernel), List.mem_of_getElem? (i := 562) (by decide +kernel)⟩
theorem lw_p23 : lw_okq (⟨"SeepingRockModel", "isPore", "(I)Z"⟩, 33) := ⟨⟨by decide +kernel, by decide +kernel⟩, List.mem_of_getElem? (i := 593) (by decide +kernel), List.mem_of_getElem? (i := 708) (by decide +kernel), List.mem_of_getElem? (i := 709) (by decide +kernel)⟩
theorem lw_p24 : lw_okq (⟨"SeepingRockModel", "isThroat", "(I)Z"⟩, 33) := ⟨⟨by decide +kernel, by decide +kernel⟩, List.mem_of_getElem? (i := 593) (by decide +kernel), List.mem_of_getElem? (i := 716) (by decide +kernel), List.mem_of_getElem? (i := 717) (by decide +kernel)⟩
theorem lw_p25 : lw_okq (⟨"SeepingRockModel", "rank", "(I)I"⟩, 33) := ⟨⟨by decide +kernel, by decide +kernel⟩, List.mem_of_getElem? (i := 593) (by decide +kernel), List.mem_of_getElem? (i := 737) (by decide +kernel), List.mem_of_getElem? (i := 738) (by decide +kernel)⟩
theorem lw_p26 : lw_okq (⟨"SeepingRockModel", "isLess", "(II)Z"⟩, 33) := ⟨⟨by decide +kernel, by decide +kernel⟩, List.mem_of_getElem? (i := 593) (by decide +kernel), List.mem_of_getElem? (i := 741) (by decide +kernel), List.mem_of_getElem? (i := 742) (by decide +kernel)⟩
theorem lw_p27 : lw_okq (⟨"SeepingRockModel", "hasRow", "(III)Z"⟩, 33) := ⟨⟨by decide +kernel, by decide +kernel⟩, List.mem_of_getElem? (i := 593) (by decide +kernel), List.mem_of_getElem? (i := 776) (by decide +kernel), List.mem_of_getElem? (i := 777) (by decide +kernel)⟩
theorem lw_p28 : lw_okq (⟨"SeepingRockModel", "wholeOf", "(II)J"⟩, 33) := ⟨⟨by decide +kernel, by decide +kernel⟩, List.mem_of_getElem? (i := 593) (by decide +kernel), List.mem_of_getElem? (i := 789) (by decide +kernel), List.mem_of_getElem? (i := 790) (by decide +kernel)⟩
theorem lw_p29 : lw_okq (⟨"SeepingRockModel", "start", "()V"⟩, 33) := ⟨⟨by decide +kernel, by decide +kernel⟩, List.mem_of_getElem? (i := 593) (by decide +kernel), List.mem_of_getElem? (i := 802) (by decide +kernel), List.mem_of_getElem? (i := 803) (by decide +kernel)⟩
theorem lw_p30 : lw_okq (⟨"SeepingRockModel", "trap", "()V"⟩, 33) := ⟨⟨by decide +kernel, by decide +kernel⟩, List.mem_of_getElem? (i := 593) (by decide +kernel), List.mem_of_getElem? (i := 806) (by decide +kernel), List.mem_of_getElem? (i := 807) (by decide +kernel)⟩
theorem lw_p31 : lw_okq (⟨"SeepingRockModel", "isFilled", "(I)Z"⟩, 33) := ⟨⟨by decide +kernel, by decide +kernel⟩, List.mem_of_getElem? (i := 593) (by decide +kernel), List.mem_of_getElem? (i := 810) (by decide +kernel), List.mem_of_getElem? (i := 811) (by decide +kernel)⟩
def lw_privs_2 : List (MethodName × Nat) := [(⟨"SeepingRock$Flow", "leads", "(II)Z"⟩, 16), (⟨"SeepingRock$Flow", "isPreferred", "(IIZ)Z"⟩, 16), (⟨"SeepingRock", "manyInRun", "(I)I"⟩, 7), (⟨"SeepingRock$Ways", "fillNext", "()Z"⟩, 5), (⟨"SeepingRock$Ways", "fill", "(II)V"⟩, 5), (⟨"SeepingRock$Ways", "stand", "()V"⟩, 5), (⟨"SeepingRock$Ways", "unite", "(I)Z"⟩, 5), (⟨"SeepingRockModel", "isPore", "(I)Z"⟩, 33), (⟨"SeepingRockModel", "isThroat", "(I)Z"⟩, 33), (⟨"SeepingRockModel", "rank", "(I)I"⟩, 33), (⟨"SeepingRockModel", "isLess", "(II)Z"⟩, 33), (⟨"SeepingRockModel", "hasRow", "(III)Z"⟩, 33), (⟨"SeepingRockModel", "wholeOf", "(II)J"⟩, 33), (⟨"SeepingRockModel", "start", "()V"⟩, 33), (⟨"SeepingRockModel", "trap", "()V"⟩, 33), (⟨"SeepingRockModel", "isFilled", "(I)Z"⟩, 33)]
theorem lw_r2 : ∀ q ∈ lw_privs_2, lw_okq q := List.forall_mem_cons.mpr ⟨lw_p16, List.forall_mem_cons.mpr ⟨lw_p17, List.forall_mem_cons.mpr ⟨lw_p18, List.forall_mem_cons.mpr ⟨lw_p19, List.forall_mem_cons.mpr ⟨lw_p20, List.forall_mem_cons.mpr ⟨lw_p21, List.forall_mem_cons.mpr ⟨lw_p22, List.forall_mem_cons.mpr ⟨lw_p23, List.forall_mem_cons.mpr ⟨lw_p24, List.forall_mem_cons.mpr ⟨lw_p25, List.forall_mem_cons.mpr ⟨lw_p26, List.forall_mem_cons.mpr ⟨lw_p27, List.forall_mem_cons.mpr ⟨lw_p28, List.forall_mem_cons.mpr ⟨lw_p29, List.forall_mem_cons.mpr ⟨lw_p30, List.forall_mem_cons.mpr ⟨lw_p31, fun _ h => absurd h List.not_mem_nil⟩⟩⟩⟩⟩⟩⟩⟩⟩⟩⟩⟩⟩⟩⟩⟩
theorem lw_p32 : lw_okq (⟨"SeepingRockModel", "isFree", "(I)Z"⟩, 33) := ⟨⟨by decide +kernel, by decide +kernel⟩, List.mem_of_getElem? (i := 593) (by decide +kernel), List.mem_of_getElem? (i := 814) (by decide +kernel), List.mem_of_getElem? (i := 815) (by decide +kernel)⟩
theorem lw_p33 : lw_okq (⟨"SeepingRockModel", "countPores", "(I)I"⟩, 33) := ⟨⟨by decide +kernel, by decide +kernel⟩, List.mem_of_getElem? (i := 593) (by decide +kernel), List.mem_of_getElem? (i := 822) (by decide +kernel), List.mem_of_getElem? (i := 823) (by decide +kernel)⟩
theorem lw_p34 : lw_okq (⟨"SeepingRockModel", "tellLakes", "()V"⟩, 33) := ⟨⟨by decide +kernel, by decide +kernel⟩, List.mem_of_getElem? (i := 593) (by decide +kernel), List.mem_of_getElem? (i := 826) (by decide +kernel), List.mem_of_getElem? (i := 827) (by decide +kernel)⟩
theorem lw_p35 : lw_okq (⟨"SeepingRockModel", "spreadLake", "(I)V"⟩, 33) := ⟨⟨by decide +kernel, by decide +kernel⟩, List.mem_of_getElem? (i := 593) (by decide +kernel), List.mem_of_getElem? (i := 830) (by decide +kernel), List.mem_of_getElem? (i := 831) (by decide +kernel)⟩
theorem lw_p36 : lw_okq (⟨"SeepingRockModel", "isCandidate", "(I)Z"⟩, 33) := ⟨⟨by decide +kernel, by decide +kernel⟩, List.mem_of_getElem? (i := 593) (by decide +kernel), List.mem_of_getElem? (i := 834) (by decide +kernel), List.mem_of_getElem? (i := 835) (by decide +kernel)⟩
theorem lw_p37 : lw_okq (⟨"SeepingRockModel", "leads", "(II)Z"⟩, 33) := ⟨⟨by decide +kernel, by decide +kernel⟩, List.mem_of_getElem? (i := 593) (by decide +kernel), List.mem_of_getElem? (i := 838) (by decide +kernel), List.mem_of_getElem? (i := 839) (by decide +kernel)⟩
theorem lw_p38 : lw_okq (⟨"SeepingRockModel", "nextThroat", "()I"⟩, 33) := ⟨⟨by decide +kernel, by decide +kernel⟩, List.mem_of_getElem? (i := 593) (by decide +kernel), List.mem_of_getElem? (i := 846) (by decide +kernel), List.mem_of_getElem? (i := 847) (by decide +kernel)⟩
theorem lw_p39 : lw_okq (⟨"SeepingRockModel", "bestAt", "(IZ)I"⟩, 33) := ⟨⟨by decide +kernel, by decide +kernel⟩, List.mem_of_getElem? (i := 593) (by decide +kernel), List.mem_of_getElem? (i := 850) (by decide +kernel), List.mem_of_getElem? (i := 851) (by decide +kernel)⟩
theorem lw_p40 : lw_okq (⟨"SeepingRockModel", "open", "(I)V"⟩, 33) := ⟨⟨by decide +kernel, by decide +kernel⟩, List.mem_of_getElem? (i := 593) (by decide +kernel), List.mem_of_getElem? (i := 854) (by decide +kernel), List.mem_of_getElem? (i := 855) (by decide +kernel)⟩
theorem lw_p41 : lw_okq (⟨"SeepingRockModel", "plainRun", "()V"⟩, 33) := ⟨⟨by decide +kernel, by decide +kernel⟩, List.mem_of_getElem? (i := 593) (by decide +kernel), List.mem_of_getElem? (i := 891) (by decide +kernel), List.mem_of_getElem? (i := 892) (by decide +kernel)⟩
theorem lw_p42 : lw_okq (⟨"SeepingRockModel", "behind", "(I)I"⟩, 33) := ⟨⟨by decide +kernel, by decide +kernel⟩, List.mem_of_getElem? (i := 593) (by decide +kernel), List.mem_of_getElem? (i := 895) (by decide +kernel), List.mem_of_getElem? (i := 896) (by decide +kernel)⟩
theorem lw_p43 : lw_okq (⟨"SeepingRockModel", "apart", "()V"⟩, 33) := ⟨⟨by decide +kernel, by decide +kernel⟩, List.mem_of_getElem? (i := 593) (by decide +kernel), List.mem_of_getElem? (i := 907) (by decide +kernel), List.mem_of_getElem? (i := 908) (by decide +kernel)⟩
theorem lw_p44 : lw_okq (⟨"SeepingRockModel", "tie", "(I)Z"⟩, 33) := ⟨⟨by decide +kernel, by decide +kernel⟩, List.mem_of_getElem? (i := 593) (by decide +kernel), List.mem_of_getElem? (i := 912) (by decide +kernel), List.mem_of_getElem? (i := 913) (by decide +kernel)⟩
theorem lw_p45 : lw_okq (⟨"SeepingRockModel", "keep", "(Z)V"⟩, 33) := ⟨⟨by decide +kernel, by decide +kernel⟩, List.mem_of_getElem? (i := 593) (by decide +kernel), List.mem_of_getElem? (i := 940) (by decide +kernel), List.mem_of_getElem? (i := 941) (by decide +kernel)⟩
def lw_privs_3 : List (MethodName × Nat) := [(⟨"SeepingRockModel", "isFree", "(I)Z"⟩, 33), (⟨"SeepingRockModel", "countPores", "(I)I"⟩, 33), (⟨"SeepingRockModel", "tellLakes", "()V"⟩, 33), (⟨"SeepingRockModel", "spreadLake", "(I)V"⟩, 33), (⟨"SeepingRockModel", "isCandidate", "(I)Z"⟩, 33), (⟨"SeepingRockModel", "leads", "(II)Z"⟩, 33), (⟨"SeepingRockModel", "nextThroat", "()I"⟩, 33), (⟨"SeepingRockModel", "bestAt", "(IZ)I"⟩, 33), (⟨"SeepingRockModel", "open", "(I)V"⟩, 33), (⟨"SeepingRockModel", "plainRun", "()V"⟩, 33), (⟨"SeepingRockModel", "behind", "(I)I"⟩, 33), (⟨"SeepingRockModel", "apart", "()V"⟩, 33), (⟨"SeepingRockModel", "tie", "(I)Z"⟩, 33), (⟨"SeepingRockModel", "keep", "(Z)V"⟩, 33)]
theorem lw_r3 : ∀ q ∈ lw_privs_3, lw_okq q := List.forall_mem_cons.mpr ⟨lw_p32, List.forall_mem_cons.mpr ⟨lw_p33, List.forall_mem_cons.mpr ⟨lw_p34, List.forall_mem_cons.mpr ⟨lw_p35, List.forall_mem_cons.mpr ⟨lw_p36, List.forall_mem_cons.mpr ⟨lw_p37, List.forall_mem_cons.mpr ⟨lw_p38, List.forall_mem_cons.mpr ⟨lw_p39, List.forall_mem_cons.mpr ⟨lw_p40, List.forall_mem_cons.mpr ⟨lw_p41, List.forall_mem_cons.mpr ⟨lw_p42, List.forall_mem_cons.mpr ⟨lw_p43, List.forall_mem_cons.mpr ⟨lw_p44, List.forall_mem_cons.mpr ⟨lw_p45, fun _ h => absurd h List.not_mem_nil⟩⟩⟩⟩⟩⟩⟩⟩⟩⟩⟩⟩⟩⟩
def lw_privs : List (MethodName × Nat) := lw_privs_1 ++ (lw_privs_2 ++ (lw_privs_3))
def lw_tbl : List Cond := k2_sels lw_privs ++ tables_1
theorem lw_privs_ok : ∀ q ∈ lw_privs, lw_okq q := by
  show ∀ q ∈ lw_privs_1 ++ (lw_privs_2 ++ (lw_privs_3)), lw_okq q
  exact List.forall_mem_append.mpr ⟨lw_r1, List.forall_mem_append.mpr ⟨lw_r2, lw_r3⟩⟩
/-- the streams that the claim lets the run draw from -/
abbrev lw_cs : List Choice := [Jvm.Choice.named "NaN.bits"]
theorem lw_bits : nanBits ∈ lw_cs := by first | decide | exact List.mem_cons_self | simp [lw_cs, nanBits]
/-! ===== BEGIN printed: names, fields, word lists, decode rows ===== -/
def RX0 : String := "SeepingRock$Core"
def TX0 : u_T := fun k => match k with
  | 0 => ("SeepingRock$Core", "there", "Z", false)
  | 1 => ("SeepingRock$Core", "kind", "I", false)
  | 2 => ("SeepingRock$Core", "size", "I", false)
  | 3 => ("SeepingRock$Core", "whole", "[J", true)
  | _ => ("SeepingRock$Core", "noNumber", "[B", true)
def tyX0 : Nat → FieldType := fun k => match k with
  | 0 => .boolean
  | 1 => .int
  | 2 => .int
  | 3 => .array .long
  | _ => .array .byte
abbrev wsX00 : List Cond := u_ws RX0 TX0 5
theorem nmX0 : ∀ a, a < 5 → ∀ b, b < 5 → a ≠ b → (TX0 a).2.1 ≠ (TX0 b).2.1 := by decide +kernel
theorem tyX0_ok : ∀ k, k < 5 → parseFieldDescriptor (TX0 k).2.2.1 = some (tyX0 k) := by decide +kernel
abbrev cX0_init : ByteArray := prog_2_method_1_code
def yX0_init : MethodName := ⟨RX0, "<init>", "()V"⟩
abbrev cX0_renew : ByteArray := prog_2_method_2_code
def yX0_renew : MethodName := ⟨RX0, "renew", "(II)V"⟩
abbrev cX0_hasNumber : ByteArray := prog_2_method_3_code
def yX0_hasNumber : MethodName := ⟨RX0, "hasNumber", "(I)Z"⟩
abbrev cX0_isNoNumber : ByteArray := prog_2_method_4_code
def yX0_isNoNumber : MethodName := ⟨RX0, "isNoNumber", "(I)Z"⟩
abbrev cX0_spans : ByteArray := prog_2_method_5_code
def yX0_spans : MethodName := ⟨RX0, "spans", "(II)Z"⟩
abbrev cX0_put : ByteArray := prog_2_method_6_code
def yX0_put : MethodName := ⟨RX0, "put", "(IJI)V"⟩
abbrev cX0_putWild : ByteArray := prog_2_method_7_code
def yX0_putWild : MethodName := ⟨RX0, "putWild", "(II)V"⟩
abbrev cX0_putFrom : ByteArray := prog_2_method_8_code
def yX0_putFrom : MethodName := ⟨RX0, "putFrom", "(ILSeepingRock$Core;II)V"⟩
abbrev cX0_wholeOf : ByteArray := prog_2_method_9_code
def yX0_wholeOf : MethodName := ⟨RX0, "wholeOf", "(JI)J"⟩
def RX1 : String := "SeepingRock$Flow"
def TX1 : u_T := fun k => match k with
  | 0 => ("SeepingRock$Flow", "rock", "LSeepingRock$Rock;", true)
  | 1 => ("SeepingRock$Flow", "on", "Z", false)
  | 2 => ("SeepingRock$Flow", "steps", "I", false)
  | 3 => ("SeepingRock$Flow", "throatOf", "[I", true)
  | 4 => ("SeepingRock$Flow", "poreOf", "[I", true)
  | 5 => ("SeepingRock$Flow", "filledStep", "[I", true)
  | 6 => ("SeepingRock$Flow", "filledBy", "[I", true)
  | 7 => ("SeepingRock$Flow", "cutStep", "[I", true)
  | 8 => ("SeepingRock$Flow", "lakeOf", "[I", true)
  | 9 => ("SeepingRock$Flow", "lakes", "I", false)
  | 10 => ("SeepingRock$Flow", "lakeStep", "[I", true)
  | 11 => ("SeepingRock$Flow", "lakeSize", "[I", true)
  | 12 => ("SeepingRock$Flow", "lakeLeast", "[I", true)
  | 13 => ("SeepingRock$Flow", "lakeLevel", "[I", true)
  | 14 => ("SeepingRock$Flow", "queue", "[I", true)
  | _ => ("SeepingRock$Flow", "reached", "[Z", true)
def tyX1 : Nat → FieldType := fun k => match k with
  | 0 => .object "SeepingRock$Rock"
  | 1 => .boolean
  | 2 => .int
  | 3 => .array .int
  | 4 => .array .int
  | 5 => .array .int
  | 6 => .array .int
  | 7 => .array .int
  | 8 => .array .int
  | 9 => .int
  | 10 => .array .int
  | 11 => .array .int
  | 12 => .array .int
  | 13 => .array .int
  | 14 => .array .int
  | _ => .array .boolean
abbrev wsX10 : List Cond := u_ws RX1 TX1 16
theorem nmX1 : ∀ a, a < 16 → ∀ b, b < 16 → a ≠ b → (TX1 a).2.1 ≠ (TX1 b).2.1 := by decide +kernel
theorem tyX1_ok : ∀ k, k < 16 → parseFieldDescriptor (TX1 k).2.2.1 = some (tyX1 k) := by decide +kernel
abbrev cX1_init : ByteArray := prog_3_method_1_code
def yX1_init : MethodName := ⟨RX1, "<init>", "(LSeepingRock$Rock;)V"⟩
abbrev cX1_start : ByteArray := prog_3_method_2_code
def yX1_start : MethodName := ⟨RX1, "start", "()V"⟩
abbrev cX1_advance : ByteArray := prog_3_method_3_code
def yX1_advance : MethodName := ⟨RX1, "advance", "()I"⟩
abbrev cX1_takeBackTo : ByteArray := prog_3_method_4_code
def yX1_takeBackTo : MethodName := ⟨RX1, "takeBackTo", "(I)V"⟩
abbrev cX1_candidate : ByteArray := prog_3_method_5_code
def yX1_candidate : MethodName := ⟨RX1, "candidate", "(I)I"⟩
abbrev cX1_countCandidates : ByteArray := prog_3_method_6_code
def yX1_countCandidates : MethodName := ⟨RX1, "countCandidates", "()I"⟩
abbrev cX1_countFilled : ByteArray := prog_3_method_7_code
def yX1_countFilled : MethodName := ⟨RX1, "countFilled", "()I"⟩
abbrev cX1_countCut : ByteArray := prog_3_method_8_code
def yX1_countCut : MethodName := ⟨RX1, "countCut", "()I"⟩
abbrev cX1_firstOutletStep : ByteArray := prog_3_method_9_code
def yX1_firstOutletStep : MethodName := ⟨RX1, "firstOutletStep", "()I"⟩
abbrev cX1_nextThroat : ByteArray := prog_3_method_10_code
def yX1_nextThroat : MethodName := ⟨RX1, "nextThroat", "()I"⟩
abbrev cX1_preferredAt : ByteArray := prog_3_method_11_code
def yX1_preferredAt : MethodName := ⟨RX1, "preferredAt", "(I)I"⟩
abbrev cX1_isPreferred : ByteArray := prog_3_method_12_code
def yX1_isPreferred : MethodName := ⟨RX1, "isPreferred", "(IIZ)Z"⟩
abbrev cX1_isCandidate : ByteArray := prog_3_method_13_code
def yX1_isCandidate : MethodName := ⟨RX1, "isCandidate", "(I)Z"⟩
abbrev cX1_leads : ByteArray := prog_3_method_14_code
def yX1_leads : MethodName := ⟨RX1, "leads", "(II)Z"⟩
abbrev cX1_cutOff : ByteArray := prog_3_method_15_code
def yX1_cutOff : MethodName := ⟨RX1, "cutOff", "()V"⟩
abbrev cX1_reachFromOutlets : ByteArray := prog_3_method_16_code
def yX1_reachFromOutlets : MethodName := ⟨RX1, "reachFromOutlets", "()V"⟩
abbrev cX1_reachAround : ByteArray := prog_3_method_17_code
def yX1_reachAround : MethodName := ⟨RX1, "reachAround", "(II)I"⟩
abbrev cX1_addLake : ByteArray := prog_3_method_18_code
def yX1_addLake : MethodName := ⟨RX1, "addLake", "(I)V"⟩
abbrev cX1_drownAround : ByteArray := prog_3_method_19_code
def yX1_drownAround : MethodName := ⟨RX1, "drownAround", "(II)I"⟩
abbrev cX1_greatestRankOpened : ByteArray := prog_3_method_20_code
def yX1_greatestRankOpened : MethodName := ⟨RX1, "greatestRankOpened", "()I"⟩
def RX2 : String := "SeepingRock$Rock"
def TX2 : u_T := fun k => match k with
  | 0 => ("SeepingRock$Rock", "pores", "I", false)
  | 1 => ("SeepingRock$Rock", "kind", "[I", true)
  | 2 => ("SeepingRock$Rock", "inlet", "[Z", true)
  | 3 => ("SeepingRock$Rock", "throats", "I", false)
  | 4 => ("SeepingRock$Rock", "oneEnd", "[I", true)
  | 5 => ("SeepingRock$Rock", "otherEnd", "[I", true)
  | 6 => ("SeepingRock$Rock", "hindrance", "[I", true)
  | 7 => ("SeepingRock$Rock", "rank", "[I", true)
  | 8 => ("SeepingRock$Rock", "byRank", "[I", true)
  | 9 => ("SeepingRock$Rock", "open", "I", false)
  | 10 => ("SeepingRock$Rock", "firstAt", "[I", true)
  | 11 => ("SeepingRock$Rock", "at", "[I", true)
  | _ => ("SeepingRock$Rock", "trapping", "Z", false)
def tyX2 : Nat → FieldType := fun k => match k with
  | 0 => .int
  | 1 => .array .int
  | 2 => .array .boolean
  | 3 => .int
  | 4 => .array .int
  | 5 => .array .int
  | 6 => .array .int
  | 7 => .array .int
  | 8 => .array .int
  | 9 => .int
  | 10 => .array .int
  | 11 => .array .int
  | _ => .boolean
abbrev wsX20 : List Cond := u_ws RX2 TX2 13
theorem nmX2 : ∀ a, a < 13 → ∀ b, b < 13 → a ≠ b → (TX2 a).2.1 ≠ (TX2 b).2.1 := by decide +kernel
theorem tyX2_ok : ∀ k, k < 13 → parseFieldDescriptor (TX2 k).2.2.1 = some (tyX2 k) := by decide +kernel
abbrev cX2_init : ByteArray := prog_4_method_1_code
def yX2_init : MethodName := ⟨RX2, "<init>", "()V"⟩
abbrev cX2_hasPore : ByteArray := prog_4_method_2_code
def yX2_hasPore : MethodName := ⟨RX2, "hasPore", "(I)Z"⟩
abbrev cX2_hasThroat : ByteArray := prog_4_method_3_code
def yX2_hasThroat : MethodName := ⟨RX2, "hasThroat", "(I)Z"⟩
abbrev cX2_isOpen : ByteArray := prog_4_method_4_code
def yX2_isOpen : MethodName := ⟨RX2, "isOpen", "(I)Z"⟩
abbrev cX2_across : ByteArray := prog_4_method_5_code
def yX2_across : MethodName := ⟨RX2, "across", "(II)I"⟩
abbrev cX2_addPore : ByteArray := prog_4_method_6_code
def yX2_addPore : MethodName := ⟨RX2, "addPore", "(I)I"⟩
abbrev cX2_addThroat : ByteArray := prog_4_method_7_code
def yX2_addThroat : MethodName := ⟨RX2, "addThroat", "(II)I"⟩
abbrev cX2_settle : ByteArray := prog_4_method_8_code
def yX2_settle : MethodName := ⟨RX2, "settle", "(IIZ)V"⟩
abbrev cX2_listAt : ByteArray := prog_4_method_9_code
def yX2_listAt : MethodName := ⟨RX2, "listAt", "(II)V"⟩
abbrev cX2_rankOut : ByteArray := prog_4_method_10_code
def yX2_rankOut : MethodName := ⟨RX2, "rankOut", "(I)V"⟩
abbrev cX2_rankIn : ByteArray := prog_4_method_11_code
def yX2_rankIn : MethodName := ⟨RX2, "rankIn", "(I)V"⟩
abbrev cX2_place : ByteArray := prog_4_method_12_code
def yX2_place : MethodName := ⟨RX2, "place", "(II)V"⟩
abbrev cX2_isAhead : ByteArray := prog_4_method_13_code
def yX2_isAhead : MethodName := ⟨RX2, "isAhead", "(II)Z"⟩
def RX3 : String := "SeepingRock$Ways"
def TX3 : u_T := fun k => match k with
  | 0 => ("SeepingRock$Ways", "rock", "LSeepingRock$Rock;", true)
  | 1 => ("SeepingRock$Ways", "length", "[I", true)
  | 2 => ("SeepingRock$Ways", "worstRank", "[I", true)
  | 3 => ("SeepingRock$Ways", "filledBy", "[I", true)
  | _ => ("SeepingRock$Ways", "group", "[I", true)
def tyX3 : Nat → FieldType := fun k => match k with
  | 0 => .object "SeepingRock$Rock"
  | 1 => .array .int
  | 2 => .array .int
  | 3 => .array .int
  | _ => .array .int
abbrev wsX30 : List Cond := u_ws RX3 TX3 5
theorem nmX3 : ∀ a, a < 5 → ∀ b, b < 5 → a ≠ b → (TX3 a).2.1 ≠ (TX3 b).2.1 := by decide +kernel
theorem tyX3_ok : ∀ k, k < 5 → parseFieldDescriptor (TX3 k).2.2.1 = some (tyX3 k) := by decide +kernel
abbrev cX3_init : ByteArray := prog_5_method_1_code
def yX3_init : MethodName := ⟨RX3, "<init>", "(LSeepingRock$Rock;)V"⟩
abbrev cX3_flood : ByteArray := prog_5_method_2_code
def yX3_flood : MethodName := ⟨RX3, "flood", "()V"⟩
abbrev cX3_throatOnWay : ByteArray := prog_5_method_3_code
def yX3_throatOnWay : MethodName := ⟨RX3, "throatOnWay", "(II)I"⟩
abbrev cX3_rankJoining : ByteArray := prog_5_method_4_code
def yX3_rankJoining : MethodName := ⟨RX3, "rankJoining", "(II)I"⟩
abbrev cX3_branch : ByteArray := prog_5_method_5_code
def yX3_branch : MethodName := ⟨RX3, "branch", "(I)I"⟩
abbrev cX3_fillNext : ByteArray := prog_5_method_6_code
def yX3_fillNext : MethodName := ⟨RX3, "fillNext", "()Z"⟩
abbrev cX3_fill : ByteArray := prog_5_method_7_code
def yX3_fill : MethodName := ⟨RX3, "fill", "(II)V"⟩
abbrev cX3_stand : ByteArray := prog_5_method_8_code
def yX3_stand : MethodName := ⟨RX3, "stand", "()V"⟩
abbrev cX3_unite : ByteArray := prog_5_method_9_code
def yX3_unite : MethodName := ⟨RX3, "unite", "(I)Z"⟩
def RX4 : String := "SeepingRock"
def TX4 : u_T := fun k => match k with
  | 0 => ("SeepingRock", "rock", "LSeepingRock$Rock;", true)
  | 1 => ("SeepingRock", "cores", "[LSeepingRock$Core;", true)
  | 2 => ("SeepingRock", "flow", "LSeepingRock$Flow;", true)
  | 3 => ("SeepingRock", "trial", "LSeepingRock$Flow;", true)
  | 4 => ("SeepingRock", "ways", "LSeepingRock$Ways;", true)
  | 5 => ("SeepingRock", "toldRow", "[I", true)
  | _ => ("SeepingRock", "toldCount", "I", false)
def tyX4 : Nat → FieldType := fun k => match k with
  | 0 => .object "SeepingRock$Rock"
  | 1 => .array (.object "SeepingRock$Core")
  | 2 => .object "SeepingRock$Flow"
  | 3 => .object "SeepingRock$Flow"
  | 4 => .object "SeepingRock$Ways"
  | 5 => .array .int
  | _ => .int
abbrev wsX40 : List Cond := u_ws RX4 TX4 7
theorem nmX4 : ∀ a, a < 7 → ∀ b, b < 7 → a ≠ b → (TX4 a).2.1 ≠ (TX4 b).2.1 := by decide +kernel
theorem tyX4_ok : ∀ k, k < 7 → parseFieldDescriptor (TX4 k).2.2.1 = some (tyX4 k) := by decide +kernel
abbrev cX4_init : ByteArray := prog_1_method_1_code
def yX4_init : MethodName := ⟨RX4, "<init>", "()V"⟩
abbrev cX4_pore : ByteArray := prog_1_method_2_code
def yX4_pore : MethodName := ⟨RX4, "pore", "(I)I"⟩
abbrev cX4_throat : ByteArray := prog_1_method_3_code
def yX4_throat : MethodName := ⟨RX4, "throat", "(II)I"⟩
abbrev cX4_hinder : ByteArray := prog_1_method_4_code
def yX4_hinder : MethodName := ⟨RX4, "hinder", "(II)I"⟩
abbrev cX4_shut : ByteArray := prog_1_method_5_code
def yX4_shut : MethodName := ⟨RX4, "shut", "(IZ)I"⟩
abbrev cX4_inlet : ByteArray := prog_1_method_6_code
def yX4_inlet : MethodName := ⟨RX4, "inlet", "(IZ)I"⟩
abbrev cX4_trapping : ByteArray := prog_1_method_7_code
def yX4_trapping : MethodName := ⟨RX4, "trapping", "(Z)I"⟩
abbrev cX4_about : ByteArray := prog_1_method_8_code
def yX4_about : MethodName := ⟨RX4, "about", "(II)I"⟩
abbrev cX4_of : ByteArray := prog_1_method_9_code
def yX4_of : MethodName := ⟨RX4, "of", "(II)I"⟩
abbrev cX4_ranked : ByteArray := prog_1_method_10_code
def yX4_ranked : MethodName := ⟨RX4, "ranked", "(I)I"⟩
abbrev cX4_core : ByteArray := prog_1_method_11_code
def yX4_core : MethodName := ⟨RX4, "core", "(III)I"⟩
abbrev cX4_cell : ByteArray := prog_1_method_12_code
def yX4_cell : MethodName := ⟨RX4, "cell", "(IIJI)I"⟩
abbrev cX4_wild : ByteArray := prog_1_method_13_code
def yX4_wild : MethodName := ⟨RX4, "wild", "(III)I"⟩
abbrev cX4_splice : ByteArray := prog_1_method_14_code
def yX4_splice : MethodName := ⟨RX4, "splice", "(IIIII)I"⟩
abbrev cX4_lose : ByteArray := prog_1_method_15_code
def yX4_lose : MethodName := ⟨RX4, "lose", "(I)I"⟩
abbrev cX4_told : ByteArray := prog_1_method_16_code
def yX4_told : MethodName := ⟨RX4, "told", "(II)J"⟩
abbrev cX4_pour : ByteArray := prog_1_method_17_code
def yX4_pour : MethodName := ⟨RX4, "pour", "(IIII)I"⟩
abbrev cX4_begin : ByteArray := prog_1_method_18_code
def yX4_begin : MethodName := ⟨RX4, "begin", "()I"⟩
abbrev cX4_step : ByteArray := prog_1_method_19_code
def yX4_step : MethodName := ⟨RX4, "step", "()I"⟩
abbrev cX4_run : ByteArray := prog_1_method_20_code
def yX4_run : MethodName := ⟨RX4, "run", "(I)I"⟩
abbrev cX4_undo : ByteArray := prog_1_method_21_code
def yX4_undo : MethodName := ⟨RX4, "undo", "(I)I"⟩
abbrev cX4_many : ByteArray := prog_1_method_22_code
def yX4_many : MethodName := ⟨RX4, "many", "(I)I"⟩
abbrev cX4_opened : ByteArray := prog_1_method_23_code
def yX4_opened : MethodName := ⟨RX4, "opened", "(I)I"⟩
abbrev cX4_now : ByteArray := prog_1_method_24_code
def yX4_now : MethodName := ⟨RX4, "now", "(II)I"⟩
abbrev cX4_front : ByteArray := prog_1_method_25_code
def yX4_front : MethodName := ⟨RX4, "front", "(I)I"⟩
abbrev cX4_lake : ByteArray := prog_1_method_26_code
def yX4_lake : MethodName := ⟨RX4, "lake", "(II)I"⟩
abbrev cX4_through : ByteArray := prog_1_method_27_code
def yX4_through : MethodName := ⟨RX4, "through", "()I"⟩
abbrev cX4_worst : ByteArray := prog_1_method_28_code
def yX4_worst : MethodName := ⟨RX4, "worst", "(I)I"⟩
abbrev cX4_way : ByteArray := prog_1_method_29_code
def yX4_way : MethodName := ⟨RX4, "way", "(II)I"⟩
abbrev cX4_join : ByteArray := prog_1_method_30_code
def yX4_join : MethodName := ⟨RX4, "join", "(II)I"⟩
abbrev cX4_tree : ByteArray := prog_1_method_31_code
def yX4_tree : MethodName := ⟨RX4, "tree", "(I)I"⟩
abbrev cX4_claim : ByteArray := prog_1_method_32_code
def yX4_claim : MethodName := ⟨RX4, "claim", "(I)I"⟩
abbrev cX4_copy : ByteArray := prog_1_method_33_code
def yX4_copy : MethodName := ⟨RX4, "copy", "()I"⟩
abbrev cX4_alter : ByteArray := prog_1_method_34_code
def yX4_alter : MethodName := ⟨RX4, "alter", "(II)I"⟩
abbrev cX4_unclaim : ByteArray := prog_1_method_35_code
def yX4_unclaim : MethodName := ⟨RX4, "unclaim", "()I"⟩
abbrev cX4_check : ByteArray := prog_1_method_36_code
def yX4_check : MethodName := ⟨RX4, "check", "()I"⟩
abbrev cX4_hasPlace : ByteArray := prog_1_method_37_code
def yX4_hasPlace : MethodName := ⟨RX4, "hasPlace", "(I)Z"⟩
abbrev cX4_mayHinder : ByteArray := prog_1_method_38_code
def yX4_mayHinder : MethodName := ⟨RX4, "mayHinder", "(J)Z"⟩
abbrev cX4_pourOne : ByteArray := prog_1_method_39_code
def yX4_pourOne : MethodName := ⟨RX4, "pourOne", "(LSeepingRock$Core;II)V"⟩
abbrev cX4_manyInRun : ByteArray := prog_1_method_40_code
def yX4_manyInRun : MethodName := ⟨RX4, "manyInRun", "(I)I"⟩
def RX5 : String := "SeepingRockModel"
def TX5 : u_T := fun k => match k with
  | 0 => ("SeepingRockModel", "pores", "I", false)
  | 1 => ("SeepingRockModel", "kind", "[I", true)
  | 2 => ("SeepingRockModel", "isInlet", "[Z", true)
  | 3 => ("SeepingRockModel", "throats", "I", false)
  | 4 => ("SeepingRockModel", "from", "[I", true)
  | 5 => ("SeepingRockModel", "to", "[I", true)
  | 6 => ("SeepingRockModel", "hindrance", "[I", true)
  | 7 => ("SeepingRockModel", "isShut", "[Z", true)
  | 8 => ("SeepingRockModel", "isTrapping", "Z", false)
  | 9 => ("SeepingRockModel", "coreKind", "[I", true)
  | 10 => ("SeepingRockModel", "coreSize", "[I", true)
  | 11 => ("SeepingRockModel", "whole", "[J", true)
  | 12 => ("SeepingRockModel", "broken", "[D", true)
  | 13 => ("SeepingRockModel", "isRun", "Z", false)
  | 14 => ("SeepingRockModel", "steps", "I", false)
  | 15 => ("SeepingRockModel", "opened", "[I", true)
  | 16 => ("SeepingRockModel", "filled", "[I", true)
  | 17 => ("SeepingRockModel", "filledBy", "[I", true)
  | 18 => ("SeepingRockModel", "cut", "[I", true)
  | 19 => ("SeepingRockModel", "told", "I", false)
  | 20 => ("SeepingRockModel", "row", "[I", true)
  | 21 => ("SeepingRockModel", "oldWhole", "[J", true)
  | 22 => ("SeepingRockModel", "oldBroken", "[D", true)
  | 23 => ("SeepingRockModel", "drains", "[Z", true)
  | 24 => ("SeepingRockModel", "lakeOf", "[I", true)
  | 25 => ("SeepingRockModel", "lakes", "I", false)
  | 26 => ("SeepingRockModel", "plainBy", "[I", true)
  | 27 => ("SeepingRockModel", "hang", "[I", true)
  | 28 => ("SeepingRockModel", "keptOpened", "[I", true)
  | 29 => ("SeepingRockModel", "keptFilled", "[I", true)
  | 30 => ("SeepingRockModel", "keptBy", "[I", true)
  | 31 => ("SeepingRockModel", "keptCut", "[I", true)
  | _ => ("SeepingRockModel", "keptSteps", "I", false)
def tyX5 : Nat → FieldType := fun k => match k with
  | 0 => .int
  | 1 => .array .int
  | 2 => .array .boolean
  | 3 => .int
  | 4 => .array .int
  | 5 => .array .int
  | 6 => .array .int
  | 7 => .array .boolean
  | 8 => .boolean
  | 9 => .array .int
  | 10 => .array .int
  | 11 => .array .long
  | 12 => .array .double
  | 13 => .boolean
  | 14 => .int
  | 15 => .array .int
  | 16 => .array .int
  | 17 => .array .int
  | 18 => .array .int
  | 19 => .int
  | 20 => .array .int
  | 21 => .array .long
  | 22 => .array .double
  | 23 => .array .boolean
  | 24 => .array .int
  | 25 => .int
  | 26 => .array .int
  | 27 => .array .int
  | 28 => .array .int
  | 29 => .array .int
  | 30 => .array .int
  | 31 => .array .int
  | _ => .int
abbrev wsX50 : List Cond := u_ws RX5 TX5 33
theorem nmX5 : ∀ a, a < 33 → ∀ b, b < 33 → a ≠ b → (TX5 a).2.1 ≠ (TX5 b).2.1 := by decide +kernel
theorem tyX5_ok : ∀ k, k < 33 → parseFieldDescriptor (TX5 k).2.2.1 = some (tyX5 k) := by decide +kernel
abbrev cX5_init : ByteArray := prog_7_method_1_code
def yX5_init : MethodName := ⟨RX5, "<init>", "()V"⟩
abbrev cX5_isPore : ByteArray := prog_7_method_2_code
def yX5_isPore : MethodName := ⟨RX5, "isPore", "(I)Z"⟩
abbrev cX5_isThroat : ByteArray := prog_7_method_3_code
def yX5_isThroat : MethodName := ⟨RX5, "isThroat", "(I)Z"⟩
abbrev cX5_pore : ByteArray := prog_7_method_4_code
def yX5_pore : MethodName := ⟨RX5, "pore", "(I)I"⟩
abbrev cX5_throat : ByteArray := prog_7_method_5_code
def yX5_throat : MethodName := ⟨RX5, "throat", "(II)I"⟩
abbrev cX5_hinder : ByteArray := prog_7_method_6_code
def yX5_hinder : MethodName := ⟨RX5, "hinder", "(II)I"⟩
abbrev cX5_shut : ByteArray := prog_7_method_7_code
def yX5_shut : MethodName := ⟨RX5, "shut", "(IZ)I"⟩
abbrev cX5_inlet : ByteArray := prog_7_method_8_code
def yX5_inlet : MethodName := ⟨RX5, "inlet", "(IZ)I"⟩
abbrev cX5_trapping : ByteArray := prog_7_method_9_code
def yX5_trapping : MethodName := ⟨RX5, "trapping", "(Z)I"⟩
abbrev cX5_isLess : ByteArray := prog_7_method_10_code
def yX5_isLess : MethodName := ⟨RX5, "isLess", "(II)Z"⟩
abbrev cX5_rank : ByteArray := prog_7_method_11_code
def yX5_rank : MethodName := ⟨RX5, "rank", "(I)I"⟩
abbrev cX5_about : ByteArray := prog_7_method_12_code
def yX5_about : MethodName := ⟨RX5, "about", "(II)I"⟩
abbrev cX5_of : ByteArray := prog_7_method_13_code
def yX5_of : MethodName := ⟨RX5, "of", "(II)I"⟩
abbrev cX5_ranked : ByteArray := prog_7_method_14_code
def yX5_ranked : MethodName := ⟨RX5, "ranked", "(I)I"⟩
abbrev cX5_isCore : ByteArray := prog_7_method_15_code
def yX5_isCore : MethodName := ⟨RX5, "isCore", "(I)Z"⟩
abbrev cX5_core : ByteArray := prog_7_method_16_code
def yX5_core : MethodName := ⟨RX5, "core", "(III)I"⟩
abbrev cX5_cell : ByteArray := prog_7_method_17_code
def yX5_cell : MethodName := ⟨RX5, "cell", "(IIJI)I"⟩
abbrev cX5_wild : ByteArray := prog_7_method_18_code
def yX5_wild : MethodName := ⟨RX5, "wild", "(III)I"⟩
abbrev cX5_hasRow : ByteArray := prog_7_method_19_code
def yX5_hasRow : MethodName := ⟨RX5, "hasRow", "(III)Z"⟩
abbrev cX5_splice : ByteArray := prog_7_method_20_code
def yX5_splice : MethodName := ⟨RX5, "splice", "(IIIII)I"⟩
abbrev cX5_lose : ByteArray := prog_7_method_21_code
def yX5_lose : MethodName := ⟨RX5, "lose", "(I)I"⟩
abbrev cX5_wholeOf : ByteArray := prog_7_method_22_code
def yX5_wholeOf : MethodName := ⟨RX5, "wholeOf", "(II)J"⟩
abbrev cX5_told : ByteArray := prog_7_method_23_code
def yX5_told : MethodName := ⟨RX5, "told", "(II)J"⟩
abbrev cX5_pour : ByteArray := prog_7_method_24_code
def yX5_pour : MethodName := ⟨RX5, "pour", "(IIII)I"⟩
abbrev cX5_isFilled : ByteArray := prog_7_method_25_code
def yX5_isFilled : MethodName := ⟨RX5, "isFilled", "(I)Z"⟩
abbrev cX5_isFree : ByteArray := prog_7_method_26_code
def yX5_isFree : MethodName := ⟨RX5, "isFree", "(I)Z"⟩
abbrev cX5_leads : ByteArray := prog_7_method_27_code
def yX5_leads : MethodName := ⟨RX5, "leads", "(II)Z"⟩
abbrev cX5_isCandidate : ByteArray := prog_7_method_28_code
def yX5_isCandidate : MethodName := ⟨RX5, "isCandidate", "(I)Z"⟩
abbrev cX5_trap : ByteArray := prog_7_method_29_code
def yX5_trap : MethodName := ⟨RX5, "trap", "()V"⟩
abbrev cX5_start : ByteArray := prog_7_method_30_code
def yX5_start : MethodName := ⟨RX5, "start", "()V"⟩
abbrev cX5_begin : ByteArray := prog_7_method_31_code
def yX5_begin : MethodName := ⟨RX5, "begin", "()I"⟩
abbrev cX5_bestAt : ByteArray := prog_7_method_32_code
def yX5_bestAt : MethodName := ⟨RX5, "bestAt", "(IZ)I"⟩
abbrev cX5_nextThroat : ByteArray := prog_7_method_33_code
def yX5_nextThroat : MethodName := ⟨RX5, "nextThroat", "()I"⟩
abbrev cX5_open : ByteArray := prog_7_method_34_code
def yX5_open : MethodName := ⟨RX5, "open", "(I)V"⟩
abbrev cX5_step : ByteArray := prog_7_method_35_code
def yX5_step : MethodName := ⟨RX5, "step", "()I"⟩
abbrev cX5_run : ByteArray := prog_7_method_36_code
def yX5_run : MethodName := ⟨RX5, "run", "(I)I"⟩
abbrev cX5_undo : ByteArray := prog_7_method_37_code
def yX5_undo : MethodName := ⟨RX5, "undo", "(I)I"⟩
abbrev cX5_tellLakes : ByteArray := prog_7_method_38_code
def yX5_tellLakes : MethodName := ⟨RX5, "tellLakes", "()V"⟩
abbrev cX5_spreadLake : ByteArray := prog_7_method_39_code
def yX5_spreadLake : MethodName := ⟨RX5, "spreadLake", "(I)V"⟩
abbrev cX5_countPores : ByteArray := prog_7_method_40_code
def yX5_countPores : MethodName := ⟨RX5, "countPores", "(I)I"⟩
abbrev cX5_many : ByteArray := prog_7_method_41_code
def yX5_many : MethodName := ⟨RX5, "many", "(I)I"⟩
abbrev cX5_opened : ByteArray := prog_7_method_42_code
def yX5_opened : MethodName := ⟨RX5, "opened", "(I)I"⟩
abbrev cX5_now : ByteArray := prog_7_method_43_code
def yX5_now : MethodName := ⟨RX5, "now", "(II)I"⟩
abbrev cX5_front : ByteArray := prog_7_method_44_code
def yX5_front : MethodName := ⟨RX5, "front", "(I)I"⟩
abbrev cX5_lake : ByteArray := prog_7_method_45_code
def yX5_lake : MethodName := ⟨RX5, "lake", "(II)I"⟩
abbrev cX5_through : ByteArray := prog_7_method_46_code
def yX5_through : MethodName := ⟨RX5, "through", "()I"⟩
abbrev cX5_plainRun : ByteArray := prog_7_method_47_code
def yX5_plainRun : MethodName := ⟨RX5, "plainRun", "()V"⟩
abbrev cX5_behind : ByteArray := prog_7_method_48_code
def yX5_behind : MethodName := ⟨RX5, "behind", "(I)I"⟩
abbrev cX5_worst : ByteArray := prog_7_method_49_code
def yX5_worst : MethodName := ⟨RX5, "worst", "(I)I"⟩
abbrev cX5_way : ByteArray := prog_7_method_50_code
def yX5_way : MethodName := ⟨RX5, "way", "(II)I"⟩
abbrev cX5_apart : ByteArray := prog_7_method_51_code
def yX5_apart : MethodName := ⟨RX5, "apart", "()V"⟩
abbrev cX5_tie : ByteArray := prog_7_method_52_code
def yX5_tie : MethodName := ⟨RX5, "tie", "(I)Z"⟩
abbrev cX5_join : ByteArray := prog_7_method_53_code
def yX5_join : MethodName := ⟨RX5, "join", "(II)I"⟩
abbrev cX5_tree : ByteArray := prog_7_method_54_code
def yX5_tree : MethodName := ⟨RX5, "tree", "(I)I"⟩
abbrev cX5_claim : ByteArray := prog_7_method_55_code
def yX5_claim : MethodName := ⟨RX5, "claim", "(I)I"⟩
abbrev cX5_copy : ByteArray := prog_7_method_56_code
def yX5_copy : MethodName := ⟨RX5, "copy", "()I"⟩
abbrev cX5_alter : ByteArray := prog_7_method_57_code
def yX5_alter : MethodName := ⟨RX5, "alter", "(II)I"⟩
abbrev cX5_unclaim : ByteArray := prog_7_method_58_code
def yX5_unclaim : MethodName := ⟨RX5, "unclaim", "()I"⟩
abbrev cX5_keep : ByteArray := prog_7_method_59_code
def yX5_keep : MethodName := ⟨RX5, "keep", "(Z)V"⟩
abbrev cX5_check : ByteArray := prog_7_method_60_code
def yX5_check : MethodName := ⟨RX5, "check", "()I"⟩
def RJ9 : String := "java/lang/Math"
def TJ9 : u_T := fun k => match k with
  | _ => ("", "", "", false)
def tyJ9 : Nat → FieldType := fun k => match k with
  | _ => .int
abbrev wsJ90 : List Cond := u_ws RJ9 TJ9 0
theorem nmJ9 : ∀ a, a < 0 → ∀ b, b < 0 → a ≠ b → (TJ9 a).2.1 ≠ (TJ9 b).2.1 := by decide +kernel
theorem tyJ9_ok : ∀ k, k < 0 → parseFieldDescriptor (TJ9 k).2.2.1 = some (tyJ9 k) := by decide +kernel
abbrev cJ9_max_7cf53 : ByteArray := prog_8_method_65_code
def yJ9_max_7cf53 : MethodName := ⟨RJ9, "max", "(II)I"⟩
def RJ10 : String := "java/lang/System"
def TJ10 : u_T := fun k => match k with
  | _ => ("", "", "", false)
def tyJ10 : Nat → FieldType := fun k => match k with
  | _ => .int
abbrev wsJ100 : List Cond := u_ws RJ10 TJ10 0
theorem nmJ10 : ∀ a, a < 0 → ∀ b, b < 0 → a ≠ b → (TJ10 a).2.1 ≠ (TJ10 b).2.1 := by decide +kernel
theorem tyJ10_ok : ∀ k, k < 0 → parseFieldDescriptor (TJ10 k).2.2.1 = some (tyJ10 k) := by decide +kernel
def RL : String := "SeepingRockLaw"
abbrev cL_law : ByteArray := code
def yL_law : MethodName := ⟨RL, "law", "([I)Z"⟩
abbrev vwCl : List vw_C := [(RX0, TX0, 5), (RX1, TX1, 16), (RX2, TX2, 13), (RX3, TX3, 5), (RX4, TX4, 7), (RX5, TX5, 33)]
end
section
/-- the words that a callee may be handed -/
def sr_tbl : List Cond := lw_tbl.filter goodWord
theorem sr_in {w : Cond} (i : Nat) (h : lw_tbl[i]? = some w) (hg : goodWord w = true) : w ∈ sr_tbl := List.mem_filter.mpr ⟨List.mem_of_getElem? h, hg⟩
theorem lw_good : sr_tbl.all goodWord = true := List.all_eq_true.mpr (fun w h => (List.mem_filter.mp h).2)
theorem sr_hts {args : Array Value} {s : State} (h : ∀ w ∈ lw_tbl, w.before args s = true) : ∀ w ∈ sr_tbl, w.before args s = true := fun w hw => h w (List.mem_filter.mp hw).1
set_option maxRecDepth 20000 in
theorem qsX2_listAt : (.selects RX2 yX2_listAt yX2_listAt : Cond) ∈ sr_tbl := sr_in 0 rfl rfl
set_option maxRecDepth 20000 in
theorem qsX2_rankIn : (.selects RX2 yX2_rankIn yX2_rankIn : Cond) ∈ sr_tbl := sr_in 1 rfl rfl
set_option maxRecDepth 20000 in
theorem qsX2_isAhead : (.selects RX2 yX2_isAhead yX2_isAhead : Cond) ∈ sr_tbl := sr_in 2 rfl rfl
set_option maxRecDepth 20000 in
theorem qsX2_place : (.selects RX2 yX2_place yX2_place : Cond) ∈ sr_tbl := sr_in 3 rfl rfl
set_option maxRecDepth 20000 in
theorem qsX2_rankOut : (.selects RX2 yX2_rankOut yX2_rankOut : Cond) ∈ sr_tbl := sr_in 4 rfl rfl
set_option maxRecDepth 20000 in
theorem qsX0_wholeOf : (.selects RX0 yX0_wholeOf yX0_wholeOf : Cond) ∈ sr_tbl := sr_in 5 rfl rfl
set_option maxRecDepth 20000 in
theorem qsX4_pourOne : (.selects RX4 yX4_pourOne yX4_pourOne : Cond) ∈ sr_tbl := sr_in 6 rfl rfl
set_option maxRecDepth 20000 in
theorem qsX1_cutOff : (.selects RX1 yX1_cutOff yX1_cutOff : Cond) ∈ sr_tbl := sr_in 7 rfl rfl
set_option maxRecDepth 20000 in
theorem qsX1_reachFromOutlets : (.selects RX1 yX1_reachFromOutlets yX1_reachFromOutlets : Cond) ∈ sr_tbl := sr_in 8 rfl rfl
set_option maxRecDepth 20000 in
theorem qsX1_reachAround : (.selects RX1 yX1_reachAround yX1_reachAround : Cond) ∈ sr_tbl := sr_in 9 rfl rfl
set_option maxRecDepth 20000 in
theorem qsX1_addLake : (.selects RX1 yX1_addLake yX1_addLake : Cond) ∈ sr_tbl := sr_in 10 rfl rfl
set_option maxRecDepth 20000 in
theorem qsX1_drownAround : (.selects RX1 yX1_drownAround yX1_drownAround : Cond) ∈ sr_tbl := sr_in 11 rfl rfl
set_option maxRecDepth 20000 in
theorem qsX1_greatestRankOpened : (.selects RX1 yX1_greatestRankOpened yX1_greatestRankOpened : Cond) ∈ sr_tbl := sr_in 12 rfl rfl
set_option maxRecDepth 20000 in
theorem qsX1_nextThroat : (.selects RX1 yX1_nextThroat yX1_nextThroat : Cond) ∈ sr_tbl := sr_in 13 rfl rfl
set_option maxRecDepth 20000 in
theorem qsX1_preferredAt : (.selects RX1 yX1_preferredAt yX1_preferredAt : Cond) ∈ sr_tbl := sr_in 14 rfl rfl
set_option maxRecDepth 20000 in
theorem qsX1_isCandidate : (.selects RX1 yX1_isCandidate yX1_isCandidate : Cond) ∈ sr_tbl := sr_in 15 rfl rfl
set_option maxRecDepth 20000 in
theorem qsX1_leads : (.selects RX1 yX1_leads yX1_leads : Cond) ∈ sr_tbl := sr_in 16 rfl rfl
set_option maxRecDepth 20000 in
theorem qsX1_isPreferred : (.selects RX1 yX1_isPreferred yX1_isPreferred : Cond) ∈ sr_tbl := sr_in 17 rfl rfl
set_option maxRecDepth 20000 in
theorem qsX4_manyInRun : (.selects RX4 yX4_manyInRun yX4_manyInRun : Cond) ∈ sr_tbl := sr_in 18 rfl rfl
set_option maxRecDepth 20000 in
theorem qsX3_fillNext : (.selects RX3 yX3_fillNext yX3_fillNext : Cond) ∈ sr_tbl := sr_in 19 rfl rfl
set_option maxRecDepth 20000 in
theorem qsX3_fill : (.selects RX3 yX3_fill yX3_fill : Cond) ∈ sr_tbl := sr_in 20 rfl rfl
set_option maxRecDepth 20000 in
theorem qsX3_stand : (.selects RX3 yX3_stand yX3_stand : Cond) ∈ sr_tbl := sr_in 21 rfl rfl
set_option maxRecDepth 20000 in
theorem qsX3_unite : (.selects RX3 yX3_unite yX3_unite : Cond) ∈ sr_tbl := sr_in 22 rfl rfl
set_option maxRecDepth 20000 in
theorem qsX5_isPore : (.selects RX5 yX5_isPore yX5_isPore : Cond) ∈ sr_tbl := sr_in 23 rfl rfl
set_option maxRecDepth 20000 in
theorem qsX5_isThroat : (.selects RX5 yX5_isThroat yX5_isThroat : Cond) ∈ sr_tbl := sr_in 24 rfl rfl
set_option maxRecDepth 20000 in
theorem qsX5_rank : (.selects RX5 yX5_rank yX5_rank : Cond) ∈ sr_tbl := sr_in 25 rfl rfl
set_option maxRecDepth 20000 in
theorem qsX5_isLess : (.selects RX5 yX5_isLess yX5_isLess : Cond) ∈ sr_tbl := sr_in 26 rfl rfl
set_option maxRecDepth 20000 in
theorem qsX5_hasRow : (.selects RX5 yX5_hasRow yX5_hasRow : Cond) ∈ sr_tbl := sr_in 27 rfl rfl
set_option maxRecDepth 20000 in
theorem qsX5_wholeOf : (.selects RX5 yX5_wholeOf yX5_wholeOf : Cond) ∈ sr_tbl := sr_in 28 rfl rfl
set_option maxRecDepth 20000 in
theorem qsX5_start : (.selects RX5 yX5_start yX5_start : Cond) ∈ sr_tbl := sr_in 29 rfl rfl
set_option maxRecDepth 20000 in
theorem qsX5_trap : (.selects RX5 yX5_trap yX5_trap : Cond) ∈ sr_tbl := sr_in 30 rfl rfl
set_option maxRecDepth 20000 in
theorem qsX5_isFilled : (.selects RX5 yX5_isFilled yX5_isFilled : Cond) ∈ sr_tbl := sr_in 31 rfl rfl
set_option maxRecDepth 20000 in
theorem qsX5_isFree : (.selects RX5 yX5_isFree yX5_isFree : Cond) ∈ sr_tbl := sr_in 32 rfl rfl
set_option maxRecDepth 20000 in
theorem qsX5_countPores : (.selects RX5 yX5_countPores yX5_countPores : Cond) ∈ sr_tbl := sr_in 33 rfl rfl
set_option maxRecDepth 20000 in
theorem qsX5_tellLakes : (.selects RX5 yX5_tellLakes yX5_tellLakes : Cond) ∈ sr_tbl := sr_in 34 rfl rfl
set_option maxRecDepth 20000 in
theorem qsX5_spreadLake : (.selects RX5 yX5_spreadLake yX5_spreadLake : Cond) ∈ sr_tbl := sr_in 35 rfl rfl
set_option maxRecDepth 20000 in
theorem qsX5_isCandidate : (.selects RX5 yX5_isCandidate yX5_isCandidate : Cond) ∈ sr_tbl := sr_in 36 rfl rfl
set_option maxRecDepth 20000 in
theorem qsX5_leads : (.selects RX5 yX5_leads yX5_leads : Cond) ∈ sr_tbl := sr_in 37 rfl rfl
set_option maxRecDepth 20000 in
theorem qsX5_nextThroat : (.selects RX5 yX5_nextThroat yX5_nextThroat : Cond) ∈ sr_tbl := sr_in 38 rfl rfl
set_option maxRecDepth 20000 in
theorem qsX5_bestAt : (.selects RX5 yX5_bestAt yX5_bestAt : Cond) ∈ sr_tbl := sr_in 39 rfl rfl
set_option maxRecDepth 20000 in
theorem qsX5_open : (.selects RX5 yX5_open yX5_open : Cond) ∈ sr_tbl := sr_in 40 rfl rfl
set_option maxRecDepth 20000 in
theorem qsX5_plainRun : (.selects RX5 yX5_plainRun yX5_plainRun : Cond) ∈ sr_tbl := sr_in 41 rfl rfl
set_option maxRecDepth 20000 in
theorem qsX5_behind : (.selects RX5 yX5_behind yX5_behind : Cond) ∈ sr_tbl := sr_in 42 rfl rfl
set_option maxRecDepth 20000 in
theorem qsX5_apart : (.selects RX5 yX5_apart yX5_apart : Cond) ∈ sr_tbl := sr_in 43 rfl rfl
set_option maxRecDepth 20000 in
theorem qsX5_tie : (.selects RX5 yX5_tie yX5_tie : Cond) ∈ sr_tbl := sr_in 44 rfl rfl
set_option maxRecDepth 20000 in
theorem qsX5_keep : (.selects RX5 yX5_keep yX5_keep : Cond) ∈ sr_tbl := sr_in 45 rfl rfl
set_option maxRecDepth 20000 in
theorem qnX4 : (.initialized RX4 : Cond) ∈ sr_tbl := sr_in 47 rfl rfl
set_option maxRecDepth 20000 in
theorem qnX2 : (.initialized RX2 : Cond) ∈ sr_tbl := sr_in 48 rfl rfl
set_option maxRecDepth 20000 in
theorem qnX1 : (.initialized RX1 : Cond) ∈ sr_tbl := sr_in 49 rfl rfl
set_option maxRecDepth 20000 in
theorem qnX3 : (.initialized RX3 : Cond) ∈ sr_tbl := sr_in 50 rfl rfl
set_option maxRecDepth 20000 in
theorem qnX0 : (.initialized RX0 : Cond) ∈ sr_tbl := sr_in 51 rfl rfl
set_option maxRecDepth 20000 in
theorem qnX5 : (.initialized RX5 : Cond) ∈ sr_tbl := sr_in 52 rfl rfl
set_option maxRecDepth 20000 in
theorem qnJ10 : (.initialized RJ10 : Cond) ∈ sr_tbl := sr_in 53 rfl rfl
set_option maxRecDepth 20000 in
theorem qnJ9 : (.initialized RJ9 : Cond) ∈ sr_tbl := sr_in 54 rfl rfl
set_option maxRecDepth 20000 in
theorem qwL_7 : (.classLink RL 7 RX4 : Cond) ∈ sr_tbl := sr_in 55 rfl rfl
set_option maxRecDepth 20000 in
theorem qyX4 : (.instantiable RX4 7 : Cond) ∈ sr_tbl := sr_in 56 rfl rfl
set_option maxRecDepth 20000 in
theorem qmL_9 : (.methodLink RL 9 yX4_init : Cond) ∈ sr_tbl := sr_in 57 rfl rfl
set_option maxRecDepth 20000 in
theorem qiX4_init : (.instanceMethod yX4_init : Cond) ∈ sr_tbl := sr_in 58 rfl rfl
set_option maxRecDepth 20000 in
theorem qcX4_init : (.code yX4_init cX4_init 2 (none) : Cond) ∈ sr_tbl := sr_in 59 rfl rfl
set_option maxRecDepth 20000 in
theorem qwX4_7 : (.classLink RX4 7 RX2 : Cond) ∈ sr_tbl := sr_in 63 rfl rfl
set_option maxRecDepth 20000 in
theorem qyX2 : (.instantiable RX2 13 : Cond) ∈ sr_tbl := sr_in 64 rfl rfl
set_option maxRecDepth 20000 in
theorem qmX4_9 : (.methodLinkNest RX4 9 yX2_init "SeepingRock" : Cond) ∈ lw_tbl := List.mem_of_getElem? (i := 65) rfl
set_option maxRecDepth 20000 in
theorem qiX2_init : (.instanceMethod yX2_init : Cond) ∈ sr_tbl := sr_in 66 rfl rfl
set_option maxRecDepth 20000 in
theorem qcX2_init : (.code yX2_init cX2_init 1 (none) : Cond) ∈ sr_tbl := sr_in 67 rfl rfl
set_option maxRecDepth 20000 in
theorem qfX2_40 : (.fieldLink RX2 40 RX2 (TX2 0).2.1 (TX2 0).2.2.1 : Cond) ∈ sr_tbl := sr_in 69 rfl rfl
set_option maxRecDepth 20000 in
theorem qfX3_28 : (.fieldLink RX3 28 RX2 (TX2 0).2.1 (TX2 0).2.2.1 : Cond) ∈ sr_tbl := sr_in 70 rfl rfl
set_option maxRecDepth 20000 in
theorem qfX4_46 : (.fieldLink RX4 46 RX2 (TX2 0).2.1 (TX2 0).2.2.1 : Cond) ∈ sr_tbl := sr_in 71 rfl rfl
set_option maxRecDepth 20000 in
theorem qfX1_64 : (.fieldLink RX1 64 RX2 (TX2 0).2.1 (TX2 0).2.2.1 : Cond) ∈ sr_tbl := sr_in 72 rfl rfl
set_option maxRecDepth 20000 in
theorem qfX2_9 : (.fieldLink RX2 9 RX2 (TX2 1).2.1 (TX2 1).2.2.1 : Cond) ∈ sr_tbl := sr_in 73 rfl rfl
set_option maxRecDepth 20000 in
theorem qfX1_95 : (.fieldLink RX1 95 RX2 (TX2 1).2.1 (TX2 1).2.2.1 : Cond) ∈ sr_tbl := sr_in 74 rfl rfl
set_option maxRecDepth 20000 in
theorem qfX4_102 : (.fieldLink RX4 102 RX2 (TX2 1).2.1 (TX2 1).2.2.1 : Cond) ∈ sr_tbl := sr_in 75 rfl rfl
set_option maxRecDepth 20000 in
theorem qfX2_15 : (.fieldLink RX2 15 RX2 (TX2 2).2.1 (TX2 2).2.2.1 : Cond) ∈ sr_tbl := sr_in 76 rfl rfl
set_option maxRecDepth 20000 in
theorem qfX3_34 : (.fieldLink RX3 34 RX2 (TX2 2).2.1 (TX2 2).2.2.1 : Cond) ∈ sr_tbl := sr_in 77 rfl rfl
set_option maxRecDepth 20000 in
theorem qfX1_69 : (.fieldLink RX1 69 RX2 (TX2 2).2.1 (TX2 2).2.2.1 : Cond) ∈ sr_tbl := sr_in 78 rfl rfl
set_option maxRecDepth 20000 in
theorem qfX4_86 : (.fieldLink RX4 86 RX2 (TX2 2).2.1 (TX2 2).2.2.1 : Cond) ∈ sr_tbl := sr_in 79 rfl rfl
set_option maxRecDepth 20000 in
theorem qfX2_44 : (.fieldLink RX2 44 RX2 (TX2 3).2.1 (TX2 3).2.2.1 : Cond) ∈ sr_tbl := sr_in 80 rfl rfl
set_option maxRecDepth 20000 in
theorem qfX4_62 : (.fieldLink RX4 62 RX2 (TX2 3).2.1 (TX2 3).2.2.1 : Cond) ∈ sr_tbl := sr_in 81 rfl rfl
set_option maxRecDepth 20000 in
theorem qfX2_19 : (.fieldLink RX2 19 RX2 (TX2 4).2.1 (TX2 4).2.2.1 : Cond) ∈ sr_tbl := sr_in 82 rfl rfl
set_option maxRecDepth 20000 in
theorem qfX1_79 : (.fieldLink RX1 79 RX2 (TX2 4).2.1 (TX2 4).2.2.1 : Cond) ∈ sr_tbl := sr_in 83 rfl rfl
set_option maxRecDepth 20000 in
theorem qfX3_59 : (.fieldLink RX3 59 RX2 (TX2 4).2.1 (TX2 4).2.2.1 : Cond) ∈ sr_tbl := sr_in 84 rfl rfl
set_option maxRecDepth 20000 in
theorem qfX4_93 : (.fieldLink RX4 93 RX2 (TX2 4).2.1 (TX2 4).2.2.1 : Cond) ∈ sr_tbl := sr_in 85 rfl rfl
set_option maxRecDepth 20000 in
theorem qfX2_22 : (.fieldLink RX2 22 RX2 (TX2 5).2.1 (TX2 5).2.2.1 : Cond) ∈ sr_tbl := sr_in 86 rfl rfl
set_option maxRecDepth 20000 in
theorem qfX1_82 : (.fieldLink RX1 82 RX2 (TX2 5).2.1 (TX2 5).2.2.1 : Cond) ∈ sr_tbl := sr_in 87 rfl rfl
set_option maxRecDepth 20000 in
theorem qfX3_62 : (.fieldLink RX3 62 RX2 (TX2 5).2.1 (TX2 5).2.2.1 : Cond) ∈ sr_tbl := sr_in 88 rfl rfl
set_option maxRecDepth 20000 in
theorem qfX4_96 : (.fieldLink RX4 96 RX2 (TX2 5).2.1 (TX2 5).2.2.1 : Cond) ∈ sr_tbl := sr_in 89 rfl rfl
set_option maxRecDepth 20000 in
theorem qfX2_25 : (.fieldLink RX2 25 RX2 (TX2 6).2.1 (TX2 6).2.2.1 : Cond) ∈ sr_tbl := sr_in 90 rfl rfl
set_option maxRecDepth 20000 in
theorem qfX4_83 : (.fieldLink RX4 83 RX2 (TX2 6).2.1 (TX2 6).2.2.1 : Cond) ∈ sr_tbl := sr_in 91 rfl rfl
set_option maxRecDepth 20000 in
theorem qfX2_28 : (.fieldLink RX2 28 RX2 (TX2 7).2.1 (TX2 7).2.2.1 : Cond) ∈ sr_tbl := sr_in 92 rfl rfl
set_option maxRecDepth 20000 in
theorem qfX3_69 : (.fieldLink RX3 69 RX2 (TX2 7).2.1 (TX2 7).2.2.1 : Cond) ∈ sr_tbl := sr_in 93 rfl rfl
set_option maxRecDepth 20000 in
theorem qfX4_99 : (.fieldLink RX4 99 RX2 (TX2 7).2.1 (TX2 7).2.2.1 : Cond) ∈ sr_tbl := sr_in 94 rfl rfl
set_option maxRecDepth 20000 in
theorem qfX1_118 : (.fieldLink RX1 118 RX2 (TX2 7).2.1 (TX2 7).2.2.1 : Cond) ∈ sr_tbl := sr_in 95 rfl rfl
set_option maxRecDepth 20000 in
theorem qfX2_31 : (.fieldLink RX2 31 RX2 (TX2 8).2.1 (TX2 8).2.2.1 : Cond) ∈ sr_tbl := sr_in 96 rfl rfl
set_option maxRecDepth 20000 in
theorem qfX3_52 : (.fieldLink RX3 52 RX2 (TX2 8).2.1 (TX2 8).2.2.1 : Cond) ∈ sr_tbl := sr_in 97 rfl rfl
set_option maxRecDepth 20000 in
theorem qfX1_88 : (.fieldLink RX1 88 RX2 (TX2 8).2.1 (TX2 8).2.2.1 : Cond) ∈ sr_tbl := sr_in 98 rfl rfl
set_option maxRecDepth 20000 in
theorem qfX4_111 : (.fieldLink RX4 111 RX2 (TX2 8).2.1 (TX2 8).2.2.1 : Cond) ∈ sr_tbl := sr_in 99 rfl rfl
set_option maxRecDepth 20000 in
theorem qfX3_49 : (.fieldLink RX3 49 RX2 (TX2 9).2.1 (TX2 9).2.2.1 : Cond) ∈ sr_tbl := sr_in 100 rfl rfl
set_option maxRecDepth 20000 in
theorem qfX1_85 : (.fieldLink RX1 85 RX2 (TX2 9).2.1 (TX2 9).2.2.1 : Cond) ∈ sr_tbl := sr_in 101 rfl rfl
set_option maxRecDepth 20000 in
theorem qfX2_62 : (.fieldLink RX2 62 RX2 (TX2 9).2.1 (TX2 9).2.2.1 : Cond) ∈ sr_tbl := sr_in 102 rfl rfl
set_option maxRecDepth 20000 in
theorem qfX4_108 : (.fieldLink RX4 108 RX2 (TX2 9).2.1 (TX2 9).2.2.1 : Cond) ∈ sr_tbl := sr_in 103 rfl rfl
set_option maxRecDepth 20000 in
theorem qfX2_34 : (.fieldLink RX2 34 RX2 (TX2 10).2.1 (TX2 10).2.2.1 : Cond) ∈ sr_tbl := sr_in 104 rfl rfl
set_option maxRecDepth 20000 in
theorem qfX4_105 : (.fieldLink RX4 105 RX2 (TX2 10).2.1 (TX2 10).2.2.1 : Cond) ∈ sr_tbl := sr_in 105 rfl rfl
set_option maxRecDepth 20000 in
theorem qfX1_105 : (.fieldLink RX1 105 RX2 (TX2 10).2.1 (TX2 10).2.2.1 : Cond) ∈ sr_tbl := sr_in 106 rfl rfl
set_option maxRecDepth 20000 in
theorem qfX2_37 : (.fieldLink RX2 37 RX2 (TX2 11).2.1 (TX2 11).2.2.1 : Cond) ∈ sr_tbl := sr_in 107 rfl rfl
set_option maxRecDepth 20000 in
theorem qfX1_108 : (.fieldLink RX1 108 RX2 (TX2 11).2.1 (TX2 11).2.2.1 : Cond) ∈ sr_tbl := sr_in 108 rfl rfl
set_option maxRecDepth 20000 in
theorem qfX4_90 : (.fieldLink RX4 90 RX2 (TX2 12).2.1 (TX2 12).2.2.1 : Cond) ∈ sr_tbl := sr_in 109 rfl rfl
set_option maxRecDepth 20000 in
theorem qfX1_125 : (.fieldLink RX1 125 RX2 (TX2 12).2.1 (TX2 12).2.2.1 : Cond) ∈ sr_tbl := sr_in 110 rfl rfl
set_option maxRecDepth 20000 in
theorem qa_int : (.arrayClass .int : Cond) ∈ sr_tbl := sr_in 138 rfl rfl
set_option maxRecDepth 20000 in
theorem qa_boolean : (.arrayClass .boolean : Cond) ∈ sr_tbl := sr_in 139 rfl rfl
set_option maxRecDepth 20000 in
theorem qwX4_16 : (.classLink RX4 16 RX0 : Cond) ∈ sr_tbl := sr_in 140 rfl rfl
set_option maxRecDepth 20000 in
theorem qao : (.arrayOver (.object "SeepingRock$Core") : Cond) ∈ lw_tbl := List.mem_of_getElem? (i := 141) rfl
set_option maxRecDepth 20000 in
theorem qwX4_22 : (.classLink RX4 22 RX1 : Cond) ∈ sr_tbl := sr_in 142 rfl rfl
set_option maxRecDepth 20000 in
theorem qyX1 : (.instantiable RX1 16 : Cond) ∈ sr_tbl := sr_in 143 rfl rfl
set_option maxRecDepth 20000 in
theorem qmX4_24 : (.methodLink RX4 24 yX1_init : Cond) ∈ sr_tbl := sr_in 144 rfl rfl
set_option maxRecDepth 20000 in
theorem qiX1_init : (.instanceMethod yX1_init : Cond) ∈ sr_tbl := sr_in 145 rfl rfl
set_option maxRecDepth 20000 in
theorem qcX1_init : (.code yX1_init cX1_init 2 (none) : Cond) ∈ sr_tbl := sr_in 146 rfl rfl
set_option maxRecDepth 20000 in
theorem qfX1_49 : (.fieldLink RX1 49 RX1 (TX1 0).2.1 (TX1 0).2.2.1 : Cond) ∈ sr_tbl := sr_in 148 rfl rfl
set_option maxRecDepth 20000 in
theorem qfX1_53 : (.fieldLink RX1 53 RX1 (TX1 1).2.1 (TX1 1).2.2.1 : Cond) ∈ sr_tbl := sr_in 149 rfl rfl
set_option maxRecDepth 20000 in
theorem qfX4_50 : (.fieldLink RX4 50 RX1 (TX1 1).2.1 (TX1 1).2.2.1 : Cond) ∈ sr_tbl := sr_in 150 rfl rfl
set_option maxRecDepth 20000 in
theorem qfX1_57 : (.fieldLink RX1 57 RX1 (TX1 2).2.1 (TX1 2).2.2.1 : Cond) ∈ sr_tbl := sr_in 151 rfl rfl
set_option maxRecDepth 20000 in
theorem qfX4_164 : (.fieldLink RX4 164 RX1 (TX1 2).2.1 (TX1 2).2.2.1 : Cond) ∈ sr_tbl := sr_in 152 rfl rfl
set_option maxRecDepth 20000 in
theorem qfX1_9 : (.fieldLink RX1 9 RX1 (TX1 3).2.1 (TX1 3).2.2.1 : Cond) ∈ sr_tbl := sr_in 153 rfl rfl
set_option maxRecDepth 20000 in
theorem qfX4_177 : (.fieldLink RX4 177 RX1 (TX1 3).2.1 (TX1 3).2.2.1 : Cond) ∈ sr_tbl := sr_in 154 rfl rfl
set_option maxRecDepth 20000 in
theorem qfX1_15 : (.fieldLink RX1 15 RX1 (TX1 4).2.1 (TX1 4).2.2.1 : Cond) ∈ sr_tbl := sr_in 155 rfl rfl
set_option maxRecDepth 20000 in
theorem qfX1_18 : (.fieldLink RX1 18 RX1 (TX1 5).2.1 (TX1 5).2.2.1 : Cond) ∈ sr_tbl := sr_in 156 rfl rfl
set_option maxRecDepth 20000 in
theorem qfX4_180 : (.fieldLink RX4 180 RX1 (TX1 5).2.1 (TX1 5).2.2.1 : Cond) ∈ sr_tbl := sr_in 157 rfl rfl
set_option maxRecDepth 20000 in
theorem qfX1_21 : (.fieldLink RX1 21 RX1 (TX1 6).2.1 (TX1 6).2.2.1 : Cond) ∈ sr_tbl := sr_in 158 rfl rfl
set_option maxRecDepth 20000 in
theorem qfX4_183 : (.fieldLink RX4 183 RX1 (TX1 6).2.1 (TX1 6).2.2.1 : Cond) ∈ sr_tbl := sr_in 159 rfl rfl
set_option maxRecDepth 20000 in
theorem qfX1_24 : (.fieldLink RX1 24 RX1 (TX1 7).2.1 (TX1 7).2.2.1 : Cond) ∈ sr_tbl := sr_in 160 rfl rfl
set_option maxRecDepth 20000 in
theorem qfX4_186 : (.fieldLink RX4 186 RX1 (TX1 7).2.1 (TX1 7).2.2.1 : Cond) ∈ sr_tbl := sr_in 161 rfl rfl
set_option maxRecDepth 20000 in
theorem qfX1_27 : (.fieldLink RX1 27 RX1 (TX1 8).2.1 (TX1 8).2.2.1 : Cond) ∈ sr_tbl := sr_in 162 rfl rfl
set_option maxRecDepth 20000 in
theorem qfX4_189 : (.fieldLink RX4 189 RX1 (TX1 8).2.1 (TX1 8).2.2.1 : Cond) ∈ sr_tbl := sr_in 163 rfl rfl
set_option maxRecDepth 20000 in
theorem qfX1_61 : (.fieldLink RX1 61 RX1 (TX1 9).2.1 (TX1 9).2.2.1 : Cond) ∈ sr_tbl := sr_in 164 rfl rfl
set_option maxRecDepth 20000 in
theorem qfX4_195 : (.fieldLink RX4 195 RX1 (TX1 9).2.1 (TX1 9).2.2.1 : Cond) ∈ sr_tbl := sr_in 165 rfl rfl
set_option maxRecDepth 20000 in
theorem qfX1_30 : (.fieldLink RX1 30 RX1 (TX1 10).2.1 (TX1 10).2.2.1 : Cond) ∈ sr_tbl := sr_in 166 rfl rfl
set_option maxRecDepth 20000 in
theorem qfX4_198 : (.fieldLink RX4 198 RX1 (TX1 10).2.1 (TX1 10).2.2.1 : Cond) ∈ sr_tbl := sr_in 167 rfl rfl
set_option maxRecDepth 20000 in
theorem qfX1_33 : (.fieldLink RX1 33 RX1 (TX1 11).2.1 (TX1 11).2.2.1 : Cond) ∈ sr_tbl := sr_in 168 rfl rfl
set_option maxRecDepth 20000 in
theorem qfX4_201 : (.fieldLink RX4 201 RX1 (TX1 11).2.1 (TX1 11).2.2.1 : Cond) ∈ sr_tbl := sr_in 169 rfl rfl
set_option maxRecDepth 20000 in
theorem qfX1_36 : (.fieldLink RX1 36 RX1 (TX1 12).2.1 (TX1 12).2.2.1 : Cond) ∈ sr_tbl := sr_in 170 rfl rfl
set_option maxRecDepth 20000 in
theorem qfX4_204 : (.fieldLink RX4 204 RX1 (TX1 12).2.1 (TX1 12).2.2.1 : Cond) ∈ sr_tbl := sr_in 171 rfl rfl
set_option maxRecDepth 20000 in
theorem qfX1_39 : (.fieldLink RX1 39 RX1 (TX1 13).2.1 (TX1 13).2.2.1 : Cond) ∈ sr_tbl := sr_in 172 rfl rfl
set_option maxRecDepth 20000 in
theorem qfX4_207 : (.fieldLink RX4 207 RX1 (TX1 13).2.1 (TX1 13).2.2.1 : Cond) ∈ sr_tbl := sr_in 173 rfl rfl
set_option maxRecDepth 20000 in
theorem qfX1_42 : (.fieldLink RX1 42 RX1 (TX1 14).2.1 (TX1 14).2.2.1 : Cond) ∈ sr_tbl := sr_in 174 rfl rfl
set_option maxRecDepth 20000 in
theorem qfX1_45 : (.fieldLink RX1 45 RX1 (TX1 15).2.1 (TX1 15).2.2.1 : Cond) ∈ sr_tbl := sr_in 175 rfl rfl
set_option maxRecDepth 20000 in
theorem qwX4_34 : (.classLink RX4 34 RX3 : Cond) ∈ sr_tbl := sr_in 209 rfl rfl
set_option maxRecDepth 20000 in
theorem qyX3 : (.instantiable RX3 5 : Cond) ∈ sr_tbl := sr_in 210 rfl rfl
set_option maxRecDepth 20000 in
theorem qmX4_36 : (.methodLink RX4 36 yX3_init : Cond) ∈ sr_tbl := sr_in 211 rfl rfl
set_option maxRecDepth 20000 in
theorem qiX3_init : (.instanceMethod yX3_init : Cond) ∈ sr_tbl := sr_in 212 rfl rfl
set_option maxRecDepth 20000 in
theorem qcX3_init : (.code yX3_init cX3_init 2 (none) : Cond) ∈ sr_tbl := sr_in 213 rfl rfl
set_option maxRecDepth 20000 in
theorem qfX3_24 : (.fieldLink RX3 24 RX3 (TX3 0).2.1 (TX3 0).2.2.1 : Cond) ∈ sr_tbl := sr_in 215 rfl rfl
set_option maxRecDepth 20000 in
theorem qfX3_9 : (.fieldLink RX3 9 RX3 (TX3 1).2.1 (TX3 1).2.2.1 : Cond) ∈ sr_tbl := sr_in 216 rfl rfl
set_option maxRecDepth 20000 in
theorem qfX4_216 : (.fieldLink RX4 216 RX3 (TX3 1).2.1 (TX3 1).2.2.1 : Cond) ∈ sr_tbl := sr_in 217 rfl rfl
set_option maxRecDepth 20000 in
theorem qfX3_15 : (.fieldLink RX3 15 RX3 (TX3 2).2.1 (TX3 2).2.2.1 : Cond) ∈ sr_tbl := sr_in 218 rfl rfl
set_option maxRecDepth 20000 in
theorem qfX4_219 : (.fieldLink RX4 219 RX3 (TX3 2).2.1 (TX3 2).2.2.1 : Cond) ∈ sr_tbl := sr_in 219 rfl rfl
set_option maxRecDepth 20000 in
theorem qfX3_18 : (.fieldLink RX3 18 RX3 (TX3 3).2.1 (TX3 3).2.2.1 : Cond) ∈ sr_tbl := sr_in 220 rfl rfl
set_option maxRecDepth 20000 in
theorem qfX3_21 : (.fieldLink RX3 21 RX3 (TX3 4).2.1 (TX3 4).2.2.1 : Cond) ∈ sr_tbl := sr_in 221 rfl rfl
set_option maxRecDepth 20000 in
theorem qyX0 : (.instantiable RX0 5 : Cond) ∈ sr_tbl := sr_in 233 rfl rfl
set_option maxRecDepth 20000 in
theorem qmX4_45 : (.methodLinkNest RX4 45 yX0_init "SeepingRock" : Cond) ∈ lw_tbl := List.mem_of_getElem? (i := 234) rfl
set_option maxRecDepth 20000 in
theorem qiX0_init : (.instanceMethod yX0_init : Cond) ∈ sr_tbl := sr_in 235 rfl rfl
set_option maxRecDepth 20000 in
theorem qcX0_init : (.code yX0_init cX0_init 1 (none) : Cond) ∈ sr_tbl := sr_in 236 rfl rfl
set_option maxRecDepth 20000 in
theorem qfX0_19 : (.fieldLink RX0 19 RX0 (TX0 0).2.1 (TX0 0).2.2.1 : Cond) ∈ sr_tbl := sr_in 238 rfl rfl
set_option maxRecDepth 20000 in
theorem qfX4_121 : (.fieldLink RX4 121 RX0 (TX0 0).2.1 (TX0 0).2.2.1 : Cond) ∈ sr_tbl := sr_in 239 rfl rfl
set_option maxRecDepth 20000 in
theorem qfX0_23 : (.fieldLink RX0 23 RX0 (TX0 1).2.1 (TX0 1).2.2.1 : Cond) ∈ sr_tbl := sr_in 240 rfl rfl
set_option maxRecDepth 20000 in
theorem qfX4_131 : (.fieldLink RX4 131 RX0 (TX0 1).2.1 (TX0 1).2.2.1 : Cond) ∈ sr_tbl := sr_in 241 rfl rfl
set_option maxRecDepth 20000 in
theorem qfX0_27 : (.fieldLink RX0 27 RX0 (TX0 2).2.1 (TX0 2).2.2.1 : Cond) ∈ sr_tbl := sr_in 242 rfl rfl
set_option maxRecDepth 20000 in
theorem qfX0_9 : (.fieldLink RX0 9 RX0 (TX0 3).2.1 (TX0 3).2.2.1 : Cond) ∈ sr_tbl := sr_in 243 rfl rfl
set_option maxRecDepth 20000 in
theorem qfX4_146 : (.fieldLink RX4 146 RX0 (TX0 3).2.1 (TX0 3).2.2.1 : Cond) ∈ sr_tbl := sr_in 244 rfl rfl
set_option maxRecDepth 20000 in
theorem qfX0_15 : (.fieldLink RX0 15 RX0 (TX0 4).2.1 (TX0 4).2.2.1 : Cond) ∈ sr_tbl := sr_in 245 rfl rfl
set_option maxRecDepth 20000 in
theorem qa_long : (.arrayClass .long : Cond) ∈ sr_tbl := sr_in 257 rfl rfl
set_option maxRecDepth 20000 in
theorem qa_byte : (.arrayClass .byte : Cond) ∈ sr_tbl := sr_in 258 rfl rfl
set_option maxRecDepth 20000 in
theorem qfX4_10 : (.fieldLink RX4 10 RX4 (TX4 0).2.1 (TX4 0).2.2.1 : Cond) ∈ sr_tbl := sr_in 259 rfl rfl
set_option maxRecDepth 20000 in
theorem qfX4_18 : (.fieldLink RX4 18 RX4 (TX4 1).2.1 (TX4 1).2.2.1 : Cond) ∈ sr_tbl := sr_in 260 rfl rfl
set_option maxRecDepth 20000 in
theorem qfX4_27 : (.fieldLink RX4 27 RX4 (TX4 2).2.1 (TX4 2).2.2.1 : Cond) ∈ sr_tbl := sr_in 261 rfl rfl
set_option maxRecDepth 20000 in
theorem qfX4_31 : (.fieldLink RX4 31 RX4 (TX4 3).2.1 (TX4 3).2.2.1 : Cond) ∈ sr_tbl := sr_in 262 rfl rfl
set_option maxRecDepth 20000 in
theorem qfX4_37 : (.fieldLink RX4 37 RX4 (TX4 4).2.1 (TX4 4).2.2.1 : Cond) ∈ sr_tbl := sr_in 263 rfl rfl
set_option maxRecDepth 20000 in
theorem qfX4_41 : (.fieldLink RX4 41 RX4 (TX4 5).2.1 (TX4 5).2.2.1 : Cond) ∈ sr_tbl := sr_in 264 rfl rfl
set_option maxRecDepth 20000 in
theorem qfX4_171 : (.fieldLink RX4 171 RX4 (TX4 6).2.1 (TX4 6).2.2.1 : Cond) ∈ sr_tbl := sr_in 265 rfl rfl
set_option maxRecDepth 20000 in
theorem qmL_13 : (.methodLink RL 13 yX4_pore : Cond) ∈ sr_tbl := sr_in 281 rfl rfl
set_option maxRecDepth 20000 in
theorem qiX4_pore : (.instanceMethod yX4_pore : Cond) ∈ sr_tbl := sr_in 282 rfl rfl
set_option maxRecDepth 20000 in
theorem qsX4_pore : (.selects RX4 yX4_pore yX4_pore : Cond) ∈ sr_tbl := sr_in 283 rfl rfl
set_option maxRecDepth 20000 in
theorem qcX4_pore : (.code yX4_pore cX4_pore 2 (some .int) : Cond) ∈ sr_tbl := sr_in 284 rfl rfl
set_option maxRecDepth 20000 in
theorem qmX4_54 : (.methodLink RX4 54 yX2_addPore : Cond) ∈ sr_tbl := sr_in 285 rfl rfl
set_option maxRecDepth 20000 in
theorem qiX2_addPore : (.instanceMethod yX2_addPore : Cond) ∈ sr_tbl := sr_in 286 rfl rfl
set_option maxRecDepth 20000 in
theorem qsX2_addPore : (.selects RX2 yX2_addPore yX2_addPore : Cond) ∈ sr_tbl := sr_in 287 rfl rfl
set_option maxRecDepth 20000 in
theorem qcX2_addPore : (.code yX2_addPore cX2_addPore 3 (some .int) : Cond) ∈ sr_tbl := sr_in 288 rfl rfl
set_option maxRecDepth 20000 in
theorem qmL_18 : (.methodLink RL 18 yX4_throat : Cond) ∈ sr_tbl := sr_in 289 rfl rfl
set_option maxRecDepth 20000 in
theorem qiX4_throat : (.instanceMethod yX4_throat : Cond) ∈ sr_tbl := sr_in 290 rfl rfl
set_option maxRecDepth 20000 in
theorem qsX4_throat : (.selects RX4 yX4_throat yX4_throat : Cond) ∈ sr_tbl := sr_in 291 rfl rfl
set_option maxRecDepth 20000 in
theorem qcX4_throat : (.code yX4_throat cX4_throat 3 (some .int) : Cond) ∈ sr_tbl := sr_in 292 rfl rfl
set_option maxRecDepth 20000 in
theorem qmX4_58 : (.methodLink RX4 58 yX2_hasPore : Cond) ∈ sr_tbl := sr_in 293 rfl rfl
set_option maxRecDepth 20000 in
theorem qiX2_hasPore : (.instanceMethod yX2_hasPore : Cond) ∈ sr_tbl := sr_in 294 rfl rfl
set_option maxRecDepth 20000 in
theorem qsX2_hasPore : (.selects RX2 yX2_hasPore yX2_hasPore : Cond) ∈ sr_tbl := sr_in 295 rfl rfl
set_option maxRecDepth 20000 in
theorem qcX2_hasPore : (.code yX2_hasPore cX2_hasPore 2 (some .boolean) : Cond) ∈ sr_tbl := sr_in 296 rfl rfl
set_option maxRecDepth 20000 in
theorem qmX4_65 : (.methodLink RX4 65 yX2_addThroat : Cond) ∈ sr_tbl := sr_in 297 rfl rfl
set_option maxRecDepth 20000 in
theorem qiX2_addThroat : (.instanceMethod yX2_addThroat : Cond) ∈ sr_tbl := sr_in 298 rfl rfl
set_option maxRecDepth 20000 in
theorem qsX2_addThroat : (.selects RX2 yX2_addThroat yX2_addThroat : Cond) ∈ sr_tbl := sr_in 299 rfl rfl
set_option maxRecDepth 20000 in
theorem qcX2_addThroat : (.code yX2_addThroat cX2_addThroat 4 (some .int) : Cond) ∈ sr_tbl := sr_in 300 rfl rfl
set_option maxRecDepth 20000 in
theorem qmX2_47 : (.methodLink RX2 47 yX2_listAt : Cond) ∈ sr_tbl := sr_in 301 rfl rfl
set_option maxRecDepth 20000 in
theorem qiX2_listAt : (.instanceMethod yX2_listAt : Cond) ∈ sr_tbl := sr_in 303 rfl rfl
set_option maxRecDepth 20000 in
theorem qcX2_listAt : (.code yX2_listAt cX2_listAt 5 (none) : Cond) ∈ sr_tbl := sr_in 304 rfl rfl
set_option maxRecDepth 20000 in
theorem qmX2_51 : (.methodLink RX2 51 yX2_rankIn : Cond) ∈ sr_tbl := sr_in 305 rfl rfl
set_option maxRecDepth 20000 in
theorem qiX2_rankIn : (.instanceMethod yX2_rankIn : Cond) ∈ sr_tbl := sr_in 307 rfl rfl
set_option maxRecDepth 20000 in
theorem qcX2_rankIn : (.code yX2_rankIn cX2_rankIn 3 (none) : Cond) ∈ sr_tbl := sr_in 308 rfl rfl
set_option maxRecDepth 20000 in
theorem qmX2_68 : (.methodLink RX2 68 yX2_isAhead : Cond) ∈ sr_tbl := sr_in 309 rfl rfl
set_option maxRecDepth 20000 in
theorem qiX2_isAhead : (.instanceMethod yX2_isAhead : Cond) ∈ sr_tbl := sr_in 311 rfl rfl
set_option maxRecDepth 20000 in
theorem qcX2_isAhead : (.code yX2_isAhead cX2_isAhead 3 (some .boolean) : Cond) ∈ sr_tbl := sr_in 312 rfl rfl
set_option maxRecDepth 20000 in
theorem qmX2_65 : (.methodLink RX2 65 yX2_place : Cond) ∈ sr_tbl := sr_in 313 rfl rfl
set_option maxRecDepth 20000 in
theorem qiX2_place : (.instanceMethod yX2_place : Cond) ∈ sr_tbl := sr_in 315 rfl rfl
set_option maxRecDepth 20000 in
theorem qcX2_place : (.code yX2_place cX2_place 3 (none) : Cond) ∈ sr_tbl := sr_in 316 rfl rfl
set_option maxRecDepth 20000 in
theorem qmL_23 : (.methodLink RL 23 yX4_hinder : Cond) ∈ sr_tbl := sr_in 317 rfl rfl
set_option maxRecDepth 20000 in
theorem qiX4_hinder : (.instanceMethod yX4_hinder : Cond) ∈ sr_tbl := sr_in 318 rfl rfl
set_option maxRecDepth 20000 in
theorem qsX4_hinder : (.selects RX4 yX4_hinder yX4_hinder : Cond) ∈ sr_tbl := sr_in 319 rfl rfl
set_option maxRecDepth 20000 in
theorem qcX4_hinder : (.code yX4_hinder cX4_hinder 3 (some .int) : Cond) ∈ sr_tbl := sr_in 320 rfl rfl
set_option maxRecDepth 20000 in
theorem qmX4_69 : (.methodLink RX4 69 yX2_hasThroat : Cond) ∈ sr_tbl := sr_in 321 rfl rfl
set_option maxRecDepth 20000 in
theorem qiX2_hasThroat : (.instanceMethod yX2_hasThroat : Cond) ∈ sr_tbl := sr_in 322 rfl rfl
set_option maxRecDepth 20000 in
theorem qsX2_hasThroat : (.selects RX2 yX2_hasThroat yX2_hasThroat : Cond) ∈ sr_tbl := sr_in 323 rfl rfl
set_option maxRecDepth 20000 in
theorem qcX2_hasThroat : (.code yX2_hasThroat cX2_hasThroat 2 (some .boolean) : Cond) ∈ sr_tbl := sr_in 324 rfl rfl
set_option maxRecDepth 20000 in
theorem qmX4_72 : (.methodLink RX4 72 yX4_mayHinder : Cond) ∈ sr_tbl := sr_in 325 rfl rfl
set_option maxRecDepth 20000 in
theorem qtX4_mayHinder : (.static yX4_mayHinder : Cond) ∈ sr_tbl := sr_in 326 rfl rfl
set_option maxRecDepth 20000 in
theorem qcX4_mayHinder : (.code yX4_mayHinder cX4_mayHinder 2 (some .boolean) : Cond) ∈ sr_tbl := sr_in 327 rfl rfl
set_option maxRecDepth 20000 in
theorem qkX4_231 : (.constantLong RX4 231 (1000000000) : Cond) ∈ sr_tbl := sr_in 328 rfl rfl
set_option maxRecDepth 20000 in
theorem qmX4_76 : (.methodLink RX4 76 yX2_isOpen : Cond) ∈ sr_tbl := sr_in 329 rfl rfl
set_option maxRecDepth 20000 in
theorem qiX2_isOpen : (.instanceMethod yX2_isOpen : Cond) ∈ sr_tbl := sr_in 330 rfl rfl
set_option maxRecDepth 20000 in
theorem qsX2_isOpen : (.selects RX2 yX2_isOpen yX2_isOpen : Cond) ∈ sr_tbl := sr_in 331 rfl rfl
set_option maxRecDepth 20000 in
theorem qcX2_isOpen : (.code yX2_isOpen cX2_isOpen 2 (some .boolean) : Cond) ∈ sr_tbl := sr_in 332 rfl rfl
set_option maxRecDepth 20000 in
theorem qmX4_79 : (.methodLink RX4 79 yX2_settle : Cond) ∈ sr_tbl := sr_in 333 rfl rfl
set_option maxRecDepth 20000 in
theorem qiX2_settle : (.instanceMethod yX2_settle : Cond) ∈ sr_tbl := sr_in 334 rfl rfl
set_option maxRecDepth 20000 in
theorem qsX2_settle : (.selects RX2 yX2_settle yX2_settle : Cond) ∈ sr_tbl := sr_in 335 rfl rfl
set_option maxRecDepth 20000 in
theorem qcX2_settle : (.code yX2_settle cX2_settle 4 (none) : Cond) ∈ sr_tbl := sr_in 336 rfl rfl
set_option maxRecDepth 20000 in
theorem qmX2_55 : (.methodLink RX2 55 yX2_isOpen : Cond) ∈ sr_tbl := sr_in 337 rfl rfl
set_option maxRecDepth 20000 in
theorem qmX2_59 : (.methodLink RX2 59 yX2_rankOut : Cond) ∈ sr_tbl := sr_in 338 rfl rfl
set_option maxRecDepth 20000 in
theorem qiX2_rankOut : (.instanceMethod yX2_rankOut : Cond) ∈ sr_tbl := sr_in 340 rfl rfl
set_option maxRecDepth 20000 in
theorem qcX2_rankOut : (.code yX2_rankOut cX2_rankOut 3 (none) : Cond) ∈ sr_tbl := sr_in 341 rfl rfl
set_option maxRecDepth 20000 in
theorem qmL_27 : (.methodLink RL 27 yX4_shut : Cond) ∈ sr_tbl := sr_in 342 rfl rfl
set_option maxRecDepth 20000 in
theorem qiX4_shut : (.instanceMethod yX4_shut : Cond) ∈ sr_tbl := sr_in 343 rfl rfl
set_option maxRecDepth 20000 in
theorem qsX4_shut : (.selects RX4 yX4_shut yX4_shut : Cond) ∈ sr_tbl := sr_in 344 rfl rfl
set_option maxRecDepth 20000 in
theorem qcX4_shut : (.code yX4_shut cX4_shut 3 (some .int) : Cond) ∈ sr_tbl := sr_in 345 rfl rfl
set_option maxRecDepth 20000 in
theorem qmL_32 : (.methodLink RL 32 yX4_inlet : Cond) ∈ sr_tbl := sr_in 346 rfl rfl
set_option maxRecDepth 20000 in
theorem qiX4_inlet : (.instanceMethod yX4_inlet : Cond) ∈ sr_tbl := sr_in 347 rfl rfl
set_option maxRecDepth 20000 in
theorem qsX4_inlet : (.selects RX4 yX4_inlet yX4_inlet : Cond) ∈ sr_tbl := sr_in 348 rfl rfl
set_option maxRecDepth 20000 in
theorem qcX4_inlet : (.code yX4_inlet cX4_inlet 3 (some .int) : Cond) ∈ sr_tbl := sr_in 349 rfl rfl
set_option maxRecDepth 20000 in
theorem qmL_36 : (.methodLink RL 36 yX4_trapping : Cond) ∈ sr_tbl := sr_in 350 rfl rfl
set_option maxRecDepth 20000 in
theorem qiX4_trapping : (.instanceMethod yX4_trapping : Cond) ∈ sr_tbl := sr_in 351 rfl rfl
set_option maxRecDepth 20000 in
theorem qsX4_trapping : (.selects RX4 yX4_trapping yX4_trapping : Cond) ∈ sr_tbl := sr_in 352 rfl rfl
set_option maxRecDepth 20000 in
theorem qcX4_trapping : (.code yX4_trapping cX4_trapping 2 (some .int) : Cond) ∈ sr_tbl := sr_in 353 rfl rfl
set_option maxRecDepth 20000 in
theorem qmL_41 : (.methodLink RL 41 yX4_about : Cond) ∈ sr_tbl := sr_in 354 rfl rfl
set_option maxRecDepth 20000 in
theorem qiX4_about : (.instanceMethod yX4_about : Cond) ∈ sr_tbl := sr_in 355 rfl rfl
set_option maxRecDepth 20000 in
theorem qsX4_about : (.selects RX4 yX4_about yX4_about : Cond) ∈ sr_tbl := sr_in 356 rfl rfl
set_option maxRecDepth 20000 in
theorem qcX4_about : (.code yX4_about cX4_about 3 (some .int) : Cond) ∈ sr_tbl := sr_in 357 rfl rfl
set_option maxRecDepth 20000 in
theorem qmL_45 : (.methodLink RL 45 yX4_of : Cond) ∈ sr_tbl := sr_in 358 rfl rfl
set_option maxRecDepth 20000 in
theorem qiX4_of : (.instanceMethod yX4_of : Cond) ∈ sr_tbl := sr_in 359 rfl rfl
set_option maxRecDepth 20000 in
theorem qsX4_of : (.selects RX4 yX4_of yX4_of : Cond) ∈ sr_tbl := sr_in 360 rfl rfl
set_option maxRecDepth 20000 in
theorem qcX4_of : (.code yX4_of cX4_of 3 (some .int) : Cond) ∈ sr_tbl := sr_in 361 rfl rfl
set_option maxRecDepth 20000 in
theorem qmL_49 : (.methodLink RL 49 yX4_ranked : Cond) ∈ sr_tbl := sr_in 362 rfl rfl
set_option maxRecDepth 20000 in
theorem qiX4_ranked : (.instanceMethod yX4_ranked : Cond) ∈ sr_tbl := sr_in 363 rfl rfl
set_option maxRecDepth 20000 in
theorem qsX4_ranked : (.selects RX4 yX4_ranked yX4_ranked : Cond) ∈ sr_tbl := sr_in 364 rfl rfl
set_option maxRecDepth 20000 in
theorem qcX4_ranked : (.code yX4_ranked cX4_ranked 2 (some .int) : Cond) ∈ sr_tbl := sr_in 365 rfl rfl
set_option maxRecDepth 20000 in
theorem qmL_53 : (.methodLink RL 53 yX4_core : Cond) ∈ sr_tbl := sr_in 366 rfl rfl
set_option maxRecDepth 20000 in
theorem qiX4_core : (.instanceMethod yX4_core : Cond) ∈ sr_tbl := sr_in 367 rfl rfl
set_option maxRecDepth 20000 in
theorem qsX4_core : (.selects RX4 yX4_core yX4_core : Cond) ∈ sr_tbl := sr_in 368 rfl rfl
set_option maxRecDepth 20000 in
theorem qcX4_core : (.code yX4_core cX4_core 4 (some .int) : Cond) ∈ sr_tbl := sr_in 369 rfl rfl
set_option maxRecDepth 20000 in
theorem qmX4_114 : (.methodLink RX4 114 yX4_hasPlace : Cond) ∈ sr_tbl := sr_in 370 rfl rfl
set_option maxRecDepth 20000 in
theorem qtX4_hasPlace : (.static yX4_hasPlace : Cond) ∈ sr_tbl := sr_in 371 rfl rfl
set_option maxRecDepth 20000 in
theorem qcX4_hasPlace : (.code yX4_hasPlace cX4_hasPlace 1 (some .boolean) : Cond) ∈ sr_tbl := sr_in 372 rfl rfl
set_option maxRecDepth 20000 in
theorem qmX4_117 : (.methodLink RX4 117 yX0_renew : Cond) ∈ sr_tbl := sr_in 373 rfl rfl
set_option maxRecDepth 20000 in
theorem qiX0_renew : (.instanceMethod yX0_renew : Cond) ∈ sr_tbl := sr_in 374 rfl rfl
set_option maxRecDepth 20000 in
theorem qsX0_renew : (.selects RX0 yX0_renew yX0_renew : Cond) ∈ sr_tbl := sr_in 375 rfl rfl
set_option maxRecDepth 20000 in
theorem qcX0_renew : (.code yX0_renew cX0_renew 4 (none) : Cond) ∈ sr_tbl := sr_in 376 rfl rfl
set_option maxRecDepth 20000 in
theorem qmL_60 : (.methodLink RL 60 yX4_cell : Cond) ∈ sr_tbl := sr_in 377 rfl rfl
set_option maxRecDepth 20000 in
theorem qiX4_cell : (.instanceMethod yX4_cell : Cond) ∈ sr_tbl := sr_in 378 rfl rfl
set_option maxRecDepth 20000 in
theorem qsX4_cell : (.selects RX4 yX4_cell yX4_cell : Cond) ∈ sr_tbl := sr_in 379 rfl rfl
set_option maxRecDepth 20000 in
theorem qcX4_cell : (.code yX4_cell cX4_cell 6 (some .int) : Cond) ∈ sr_tbl := sr_in 380 rfl rfl
set_option maxRecDepth 20000 in
theorem qmX4_124 : (.methodLink RX4 124 yX0_hasNumber : Cond) ∈ sr_tbl := sr_in 381 rfl rfl
set_option maxRecDepth 20000 in
theorem qiX0_hasNumber : (.instanceMethod yX0_hasNumber : Cond) ∈ sr_tbl := sr_in 382 rfl rfl
set_option maxRecDepth 20000 in
theorem qsX0_hasNumber : (.selects RX0 yX0_hasNumber yX0_hasNumber : Cond) ∈ sr_tbl := sr_in 383 rfl rfl
set_option maxRecDepth 20000 in
theorem qcX0_hasNumber : (.code yX0_hasNumber cX0_hasNumber 2 (some .boolean) : Cond) ∈ sr_tbl := sr_in 384 rfl rfl
set_option maxRecDepth 20000 in
theorem qmX4_127 : (.methodLink RX4 127 yX0_put : Cond) ∈ sr_tbl := sr_in 385 rfl rfl
set_option maxRecDepth 20000 in
theorem qiX0_put : (.instanceMethod yX0_put : Cond) ∈ sr_tbl := sr_in 386 rfl rfl
set_option maxRecDepth 20000 in
theorem qsX0_put : (.selects RX0 yX0_put yX0_put : Cond) ∈ sr_tbl := sr_in 387 rfl rfl
set_option maxRecDepth 20000 in
theorem qcX0_put : (.code yX0_put cX0_put 5 (none) : Cond) ∈ sr_tbl := sr_in 388 rfl rfl
set_option maxRecDepth 20000 in
theorem qmX0_30 : (.methodLink RX0 30 yX0_wholeOf : Cond) ∈ sr_tbl := sr_in 389 rfl rfl
set_option maxRecDepth 20000 in
theorem qiX0_wholeOf : (.instanceMethod yX0_wholeOf : Cond) ∈ sr_tbl := sr_in 391 rfl rfl
set_option maxRecDepth 20000 in
theorem qcX0_wholeOf : (.code yX0_wholeOf cX0_wholeOf 4 (some .long) : Cond) ∈ sr_tbl := sr_in 392 rfl rfl
set_option maxRecDepth 20000 in
theorem qmL_65 : (.methodLink RL 65 yX4_wild : Cond) ∈ sr_tbl := sr_in 393 rfl rfl
set_option maxRecDepth 20000 in
theorem qiX4_wild : (.instanceMethod yX4_wild : Cond) ∈ sr_tbl := sr_in 394 rfl rfl
set_option maxRecDepth 20000 in
theorem qsX4_wild : (.selects RX4 yX4_wild yX4_wild : Cond) ∈ sr_tbl := sr_in 395 rfl rfl
set_option maxRecDepth 20000 in
theorem qcX4_wild : (.code yX4_wild cX4_wild 4 (some .int) : Cond) ∈ sr_tbl := sr_in 396 rfl rfl
set_option maxRecDepth 20000 in
theorem qmX4_133 : (.methodLink RX4 133 yX0_putWild : Cond) ∈ sr_tbl := sr_in 397 rfl rfl
set_option maxRecDepth 20000 in
theorem qiX0_putWild : (.instanceMethod yX0_putWild : Cond) ∈ sr_tbl := sr_in 398 rfl rfl
set_option maxRecDepth 20000 in
theorem qsX0_putWild : (.selects RX0 yX0_putWild yX0_putWild : Cond) ∈ sr_tbl := sr_in 399 rfl rfl
set_option maxRecDepth 20000 in
theorem qcX0_putWild : (.code yX0_putWild cX0_putWild 3 (none) : Cond) ∈ sr_tbl := sr_in 400 rfl rfl
set_option maxRecDepth 20000 in
theorem qkX0_34 : (.constantLong RX0 34 (9223372036854775807) : Cond) ∈ sr_tbl := sr_in 401 rfl rfl
set_option maxRecDepth 20000 in
theorem qkX0_36 : (.constantLong RX0 36 (-9223372036854775808) : Cond) ∈ sr_tbl := sr_in 402 rfl rfl
set_option maxRecDepth 20000 in
theorem qmL_69 : (.methodLink RL 69 yX4_splice : Cond) ∈ sr_tbl := sr_in 403 rfl rfl
set_option maxRecDepth 20000 in
theorem qiX4_splice : (.instanceMethod yX4_splice : Cond) ∈ sr_tbl := sr_in 404 rfl rfl
set_option maxRecDepth 20000 in
theorem qsX4_splice : (.selects RX4 yX4_splice yX4_splice : Cond) ∈ sr_tbl := sr_in 405 rfl rfl
set_option maxRecDepth 20000 in
theorem qcX4_splice : (.code yX4_splice cX4_splice 6 (some .int) : Cond) ∈ sr_tbl := sr_in 406 rfl rfl
set_option maxRecDepth 20000 in
theorem qmX4_136 : (.methodLink RX4 136 yX0_spans : Cond) ∈ sr_tbl := sr_in 407 rfl rfl
set_option maxRecDepth 20000 in
theorem qiX0_spans : (.instanceMethod yX0_spans : Cond) ∈ sr_tbl := sr_in 408 rfl rfl
set_option maxRecDepth 20000 in
theorem qsX0_spans : (.selects RX0 yX0_spans yX0_spans : Cond) ∈ sr_tbl := sr_in 409 rfl rfl
set_option maxRecDepth 20000 in
theorem qcX0_spans : (.code yX0_spans cX0_spans 3 (some .boolean) : Cond) ∈ sr_tbl := sr_in 410 rfl rfl
set_option maxRecDepth 20000 in
theorem qmX4_140 : (.methodLink RX4 140 yX0_putFrom : Cond) ∈ sr_tbl := sr_in 411 rfl rfl
set_option maxRecDepth 20000 in
theorem qiX0_putFrom : (.instanceMethod yX0_putFrom : Cond) ∈ sr_tbl := sr_in 412 rfl rfl
set_option maxRecDepth 20000 in
theorem qsX0_putFrom : (.selects RX0 yX0_putFrom yX0_putFrom : Cond) ∈ sr_tbl := sr_in 413 rfl rfl
set_option maxRecDepth 20000 in
theorem qcX0_putFrom : (.code yX0_putFrom cX0_putFrom 5 (none) : Cond) ∈ sr_tbl := sr_in 414 rfl rfl
set_option maxRecDepth 20000 in
theorem qmL_74 : (.methodLink RL 74 yX4_lose : Cond) ∈ sr_tbl := sr_in 418 rfl rfl
set_option maxRecDepth 20000 in
theorem qiX4_lose : (.instanceMethod yX4_lose : Cond) ∈ sr_tbl := sr_in 419 rfl rfl
set_option maxRecDepth 20000 in
theorem qsX4_lose : (.selects RX4 yX4_lose yX4_lose : Cond) ∈ sr_tbl := sr_in 420 rfl rfl
set_option maxRecDepth 20000 in
theorem qcX4_lose : (.code yX4_lose cX4_lose 2 (some .int) : Cond) ∈ sr_tbl := sr_in 421 rfl rfl
set_option maxRecDepth 20000 in
theorem qmL_78 : (.methodLink RL 78 yX4_told : Cond) ∈ sr_tbl := sr_in 422 rfl rfl
set_option maxRecDepth 20000 in
theorem qiX4_told : (.instanceMethod yX4_told : Cond) ∈ sr_tbl := sr_in 423 rfl rfl
set_option maxRecDepth 20000 in
theorem qsX4_told : (.selects RX4 yX4_told yX4_told : Cond) ∈ sr_tbl := sr_in 424 rfl rfl
set_option maxRecDepth 20000 in
theorem qcX4_told : (.code yX4_told cX4_told 3 (some .long) : Cond) ∈ sr_tbl := sr_in 425 rfl rfl
set_option maxRecDepth 20000 in
theorem qkX4_144 : (.constantLong RX4 144 (9223372036854775807) : Cond) ∈ sr_tbl := sr_in 426 rfl rfl
set_option maxRecDepth 20000 in
theorem qmL_83 : (.methodLink RL 83 yX4_pour : Cond) ∈ sr_tbl := sr_in 427 rfl rfl
set_option maxRecDepth 20000 in
theorem qiX4_pour : (.instanceMethod yX4_pour : Cond) ∈ sr_tbl := sr_in 428 rfl rfl
set_option maxRecDepth 20000 in
theorem qsX4_pour : (.selects RX4 yX4_pour yX4_pour : Cond) ∈ sr_tbl := sr_in 429 rfl rfl
set_option maxRecDepth 20000 in
theorem qcX4_pour : (.code yX4_pour cX4_pour 6 (some .int) : Cond) ∈ sr_tbl := sr_in 430 rfl rfl
set_option maxRecDepth 20000 in
theorem qmX4_150 : (.methodLink RX4 150 yX4_pourOne : Cond) ∈ sr_tbl := sr_in 431 rfl rfl
set_option maxRecDepth 20000 in
theorem qiX4_pourOne : (.instanceMethod yX4_pourOne : Cond) ∈ sr_tbl := sr_in 433 rfl rfl
set_option maxRecDepth 20000 in
theorem qcX4_pourOne : (.code yX4_pourOne cX4_pourOne 5 (none) : Cond) ∈ sr_tbl := sr_in 434 rfl rfl
set_option maxRecDepth 20000 in
theorem qmX4_233 : (.methodLink RX4 233 yX0_isNoNumber : Cond) ∈ sr_tbl := sr_in 435 rfl rfl
set_option maxRecDepth 20000 in
theorem qiX0_isNoNumber : (.instanceMethod yX0_isNoNumber : Cond) ∈ sr_tbl := sr_in 436 rfl rfl
set_option maxRecDepth 20000 in
theorem qsX0_isNoNumber : (.selects RX0 yX0_isNoNumber yX0_isNoNumber : Cond) ∈ sr_tbl := sr_in 437 rfl rfl
set_option maxRecDepth 20000 in
theorem qcX0_isNoNumber : (.code yX0_isNoNumber cX0_isNoNumber 2 (some .boolean) : Cond) ∈ sr_tbl := sr_in 438 rfl rfl
set_option maxRecDepth 20000 in
theorem qmL_88 : (.methodLink RL 88 yX4_begin : Cond) ∈ sr_tbl := sr_in 439 rfl rfl
set_option maxRecDepth 20000 in
theorem qiX4_begin : (.instanceMethod yX4_begin : Cond) ∈ sr_tbl := sr_in 440 rfl rfl
set_option maxRecDepth 20000 in
theorem qsX4_begin : (.selects RX4 yX4_begin yX4_begin : Cond) ∈ sr_tbl := sr_in 441 rfl rfl
set_option maxRecDepth 20000 in
theorem qcX4_begin : (.code yX4_begin cX4_begin 1 (some .int) : Cond) ∈ sr_tbl := sr_in 442 rfl rfl
set_option maxRecDepth 20000 in
theorem qmX4_154 : (.methodLink RX4 154 yX1_start : Cond) ∈ sr_tbl := sr_in 443 rfl rfl
set_option maxRecDepth 20000 in
theorem qiX1_start : (.instanceMethod yX1_start : Cond) ∈ sr_tbl := sr_in 444 rfl rfl
set_option maxRecDepth 20000 in
theorem qsX1_start : (.selects RX1 yX1_start yX1_start : Cond) ∈ sr_tbl := sr_in 445 rfl rfl
set_option maxRecDepth 20000 in
theorem qcX1_start : (.code yX1_start cX1_start 2 (none) : Cond) ∈ sr_tbl := sr_in 446 rfl rfl
set_option maxRecDepth 20000 in
theorem qmX1_72 : (.methodLink RX1 72 yX1_cutOff : Cond) ∈ sr_tbl := sr_in 447 rfl rfl
set_option maxRecDepth 20000 in
theorem qiX1_cutOff : (.instanceMethod yX1_cutOff : Cond) ∈ sr_tbl := sr_in 449 rfl rfl
set_option maxRecDepth 20000 in
theorem qcX1_cutOff : (.code yX1_cutOff cX1_cutOff 2 (none) : Cond) ∈ sr_tbl := sr_in 450 rfl rfl
set_option maxRecDepth 20000 in
theorem qmX1_128 : (.methodLink RX1 128 yX1_reachFromOutlets : Cond) ∈ sr_tbl := sr_in 451 rfl rfl
set_option maxRecDepth 20000 in
theorem qiX1_reachFromOutlets : (.instanceMethod yX1_reachFromOutlets : Cond) ∈ sr_tbl := sr_in 453 rfl rfl
set_option maxRecDepth 20000 in
theorem qcX1_reachFromOutlets : (.code yX1_reachFromOutlets cX1_reachFromOutlets 3 (none) : Cond) ∈ sr_tbl := sr_in 454 rfl rfl
set_option maxRecDepth 20000 in
theorem qmX1_135 : (.methodLink RX1 135 yX1_reachAround : Cond) ∈ sr_tbl := sr_in 455 rfl rfl
set_option maxRecDepth 20000 in
theorem qiX1_reachAround : (.instanceMethod yX1_reachAround : Cond) ∈ sr_tbl := sr_in 457 rfl rfl
set_option maxRecDepth 20000 in
theorem qcX1_reachAround : (.code yX1_reachAround cX1_reachAround 6 (some .int) : Cond) ∈ sr_tbl := sr_in 458 rfl rfl
set_option maxRecDepth 20000 in
theorem qmX1_139 : (.methodLink RX1 139 yX2_across : Cond) ∈ sr_tbl := sr_in 459 rfl rfl
set_option maxRecDepth 20000 in
theorem qiX2_across : (.instanceMethod yX2_across : Cond) ∈ sr_tbl := sr_in 460 rfl rfl
set_option maxRecDepth 20000 in
theorem qsX2_across : (.selects RX2 yX2_across yX2_across : Cond) ∈ sr_tbl := sr_in 461 rfl rfl
set_option maxRecDepth 20000 in
theorem qcX2_across : (.code yX2_across cX2_across 3 (some .int) : Cond) ∈ sr_tbl := sr_in 462 rfl rfl
set_option maxRecDepth 20000 in
theorem qmX1_111 : (.methodLink RX1 111 yX2_isOpen : Cond) ∈ sr_tbl := sr_in 463 rfl rfl
set_option maxRecDepth 20000 in
theorem qmX1_131 : (.methodLink RX1 131 yX1_addLake : Cond) ∈ sr_tbl := sr_in 464 rfl rfl
set_option maxRecDepth 20000 in
theorem qiX1_addLake : (.instanceMethod yX1_addLake : Cond) ∈ sr_tbl := sr_in 466 rfl rfl
set_option maxRecDepth 20000 in
theorem qcX1_addLake : (.code yX1_addLake cX1_addLake 4 (none) : Cond) ∈ sr_tbl := sr_in 467 rfl rfl
set_option maxRecDepth 20000 in
theorem qmX1_142 : (.methodLink RX1 142 yX1_drownAround : Cond) ∈ sr_tbl := sr_in 468 rfl rfl
set_option maxRecDepth 20000 in
theorem qiX1_drownAround : (.instanceMethod yX1_drownAround : Cond) ∈ sr_tbl := sr_in 470 rfl rfl
set_option maxRecDepth 20000 in
theorem qcX1_drownAround : (.code yX1_drownAround cX1_drownAround 6 (some .int) : Cond) ∈ sr_tbl := sr_in 471 rfl rfl
set_option maxRecDepth 20000 in
theorem qmX1_145 : (.methodLink RX1 145 yX1_greatestRankOpened : Cond) ∈ sr_tbl := sr_in 472 rfl rfl
set_option maxRecDepth 20000 in
theorem qiX1_greatestRankOpened : (.instanceMethod yX1_greatestRankOpened : Cond) ∈ sr_tbl := sr_in 474 rfl rfl
set_option maxRecDepth 20000 in
theorem qcX1_greatestRankOpened : (.code yX1_greatestRankOpened cX1_greatestRankOpened 3 (some .int) : Cond) ∈ sr_tbl := sr_in 475 rfl rfl
set_option maxRecDepth 20000 in
theorem qmX1_148 : (.methodLink RX1 148 yJ9_max_7cf53 : Cond) ∈ sr_tbl := sr_in 476 rfl rfl
set_option maxRecDepth 20000 in
theorem qtJ9_max_7cf53 : (.static yJ9_max_7cf53 : Cond) ∈ sr_tbl := sr_in 477 rfl rfl
set_option maxRecDepth 20000 in
theorem qcJ9_max_7cf53 : (.code yJ9_max_7cf53 cJ9_max_7cf53 2 (some .int) : Cond) ∈ sr_tbl := sr_in 478 rfl rfl
set_option maxRecDepth 20000 in
theorem qmX4_157 : (.methodLink RX4 157 yX1_countFilled : Cond) ∈ sr_tbl := sr_in 479 rfl rfl
set_option maxRecDepth 20000 in
theorem qiX1_countFilled : (.instanceMethod yX1_countFilled : Cond) ∈ sr_tbl := sr_in 480 rfl rfl
set_option maxRecDepth 20000 in
theorem qsX1_countFilled : (.selects RX1 yX1_countFilled yX1_countFilled : Cond) ∈ sr_tbl := sr_in 481 rfl rfl
set_option maxRecDepth 20000 in
theorem qcX1_countFilled : (.code yX1_countFilled cX1_countFilled 3 (some .int) : Cond) ∈ sr_tbl := sr_in 482 rfl rfl
set_option maxRecDepth 20000 in
theorem qmL_93 : (.methodLink RL 93 yX4_step : Cond) ∈ sr_tbl := sr_in 483 rfl rfl
set_option maxRecDepth 20000 in
theorem qiX4_step : (.instanceMethod yX4_step : Cond) ∈ sr_tbl := sr_in 484 rfl rfl
set_option maxRecDepth 20000 in
theorem qsX4_step : (.selects RX4 yX4_step yX4_step : Cond) ∈ sr_tbl := sr_in 485 rfl rfl
set_option maxRecDepth 20000 in
theorem qcX4_step : (.code yX4_step cX4_step 2 (some .int) : Cond) ∈ sr_tbl := sr_in 486 rfl rfl
set_option maxRecDepth 20000 in
theorem qmX4_161 : (.methodLink RX4 161 yX1_advance : Cond) ∈ sr_tbl := sr_in 487 rfl rfl
set_option maxRecDepth 20000 in
theorem qiX1_advance : (.instanceMethod yX1_advance : Cond) ∈ sr_tbl := sr_in 488 rfl rfl
set_option maxRecDepth 20000 in
theorem qsX1_advance : (.selects RX1 yX1_advance yX1_advance : Cond) ∈ sr_tbl := sr_in 489 rfl rfl
set_option maxRecDepth 20000 in
theorem qcX1_advance : (.code yX1_advance cX1_advance 3 (some .int) : Cond) ∈ sr_tbl := sr_in 490 rfl rfl
set_option maxRecDepth 20000 in
theorem qmX1_75 : (.methodLink RX1 75 yX1_nextThroat : Cond) ∈ sr_tbl := sr_in 491 rfl rfl
set_option maxRecDepth 20000 in
theorem qiX1_nextThroat : (.instanceMethod yX1_nextThroat : Cond) ∈ sr_tbl := sr_in 493 rfl rfl
set_option maxRecDepth 20000 in
theorem qcX1_nextThroat : (.code yX1_nextThroat cX1_nextThroat 2 (some .int) : Cond) ∈ sr_tbl := sr_in 494 rfl rfl
set_option maxRecDepth 20000 in
theorem qmX1_98 : (.methodLink RX1 98 yX1_preferredAt : Cond) ∈ sr_tbl := sr_in 495 rfl rfl
set_option maxRecDepth 20000 in
theorem qiX1_preferredAt : (.instanceMethod yX1_preferredAt : Cond) ∈ sr_tbl := sr_in 497 rfl rfl
set_option maxRecDepth 20000 in
theorem qcX1_preferredAt : (.code yX1_preferredAt cX1_preferredAt 6 (some .int) : Cond) ∈ sr_tbl := sr_in 498 rfl rfl
set_option maxRecDepth 20000 in
theorem qmX1_91 : (.methodLink RX1 91 yX1_isCandidate : Cond) ∈ sr_tbl := sr_in 499 rfl rfl
set_option maxRecDepth 20000 in
theorem qiX1_isCandidate : (.instanceMethod yX1_isCandidate : Cond) ∈ sr_tbl := sr_in 501 rfl rfl
set_option maxRecDepth 20000 in
theorem qcX1_isCandidate : (.code yX1_isCandidate cX1_isCandidate 2 (some .boolean) : Cond) ∈ sr_tbl := sr_in 502 rfl rfl
set_option maxRecDepth 20000 in
theorem qmX1_121 : (.methodLink RX1 121 yX1_leads : Cond) ∈ sr_tbl := sr_in 503 rfl rfl
set_option maxRecDepth 20000 in
theorem qiX1_leads : (.instanceMethod yX1_leads : Cond) ∈ sr_tbl := sr_in 505 rfl rfl
set_option maxRecDepth 20000 in
theorem qcX1_leads : (.code yX1_leads cX1_leads 3 (some .boolean) : Cond) ∈ sr_tbl := sr_in 506 rfl rfl
set_option maxRecDepth 20000 in
theorem qmX1_114 : (.methodLink RX1 114 yX1_isPreferred : Cond) ∈ sr_tbl := sr_in 507 rfl rfl
set_option maxRecDepth 20000 in
theorem qiX1_isPreferred : (.instanceMethod yX1_isPreferred : Cond) ∈ sr_tbl := sr_in 509 rfl rfl
set_option maxRecDepth 20000 in
theorem qcX1_isPreferred : (.code yX1_isPreferred cX1_isPreferred 4 (some .boolean) : Cond) ∈ sr_tbl := sr_in 510 rfl rfl
set_option maxRecDepth 20000 in
theorem qmX1_102 : (.methodLink RX1 102 yX1_candidate : Cond) ∈ sr_tbl := sr_in 511 rfl rfl
set_option maxRecDepth 20000 in
theorem qiX1_candidate : (.instanceMethod yX1_candidate : Cond) ∈ sr_tbl := sr_in 512 rfl rfl
set_option maxRecDepth 20000 in
theorem qsX1_candidate : (.selects RX1 yX1_candidate yX1_candidate : Cond) ∈ sr_tbl := sr_in 513 rfl rfl
set_option maxRecDepth 20000 in
theorem qcX1_candidate : (.code yX1_candidate cX1_candidate 4 (some .int) : Cond) ∈ sr_tbl := sr_in 514 rfl rfl
set_option maxRecDepth 20000 in
theorem qmL_97 : (.methodLink RL 97 yX4_run : Cond) ∈ sr_tbl := sr_in 515 rfl rfl
set_option maxRecDepth 20000 in
theorem qiX4_run : (.instanceMethod yX4_run : Cond) ∈ sr_tbl := sr_in 516 rfl rfl
set_option maxRecDepth 20000 in
theorem qsX4_run : (.selects RX4 yX4_run yX4_run : Cond) ∈ sr_tbl := sr_in 517 rfl rfl
set_option maxRecDepth 20000 in
theorem qcX4_run : (.code yX4_run cX4_run 4 (some .int) : Cond) ∈ sr_tbl := sr_in 518 rfl rfl
set_option maxRecDepth 20000 in
theorem qmL_101 : (.methodLink RL 101 yX4_undo : Cond) ∈ sr_tbl := sr_in 519 rfl rfl
set_option maxRecDepth 20000 in
theorem qiX4_undo : (.instanceMethod yX4_undo : Cond) ∈ sr_tbl := sr_in 520 rfl rfl
set_option maxRecDepth 20000 in
theorem qsX4_undo : (.selects RX4 yX4_undo yX4_undo : Cond) ∈ sr_tbl := sr_in 521 rfl rfl
set_option maxRecDepth 20000 in
theorem qcX4_undo : (.code yX4_undo cX4_undo 2 (some .int) : Cond) ∈ sr_tbl := sr_in 522 rfl rfl
set_option maxRecDepth 20000 in
theorem qmX4_167 : (.methodLink RX4 167 yX1_takeBackTo : Cond) ∈ sr_tbl := sr_in 523 rfl rfl
set_option maxRecDepth 20000 in
theorem qiX1_takeBackTo : (.instanceMethod yX1_takeBackTo : Cond) ∈ sr_tbl := sr_in 524 rfl rfl
set_option maxRecDepth 20000 in
theorem qsX1_takeBackTo : (.selects RX1 yX1_takeBackTo yX1_takeBackTo : Cond) ∈ sr_tbl := sr_in 525 rfl rfl
set_option maxRecDepth 20000 in
theorem qcX1_takeBackTo : (.code yX1_takeBackTo cX1_takeBackTo 3 (none) : Cond) ∈ sr_tbl := sr_in 526 rfl rfl
set_option maxRecDepth 20000 in
theorem qmL_105 : (.methodLink RL 105 yX4_many : Cond) ∈ sr_tbl := sr_in 527 rfl rfl
set_option maxRecDepth 20000 in
theorem qiX4_many : (.instanceMethod yX4_many : Cond) ∈ sr_tbl := sr_in 528 rfl rfl
set_option maxRecDepth 20000 in
theorem qsX4_many : (.selects RX4 yX4_many yX4_many : Cond) ∈ sr_tbl := sr_in 529 rfl rfl
set_option maxRecDepth 20000 in
theorem qcX4_many : (.code yX4_many cX4_many 2 (some .int) : Cond) ∈ sr_tbl := sr_in 530 rfl rfl
set_option maxRecDepth 20000 in
theorem qmX4_174 : (.methodLink RX4 174 yX4_manyInRun : Cond) ∈ sr_tbl := sr_in 531 rfl rfl
set_option maxRecDepth 20000 in
theorem qiX4_manyInRun : (.instanceMethod yX4_manyInRun : Cond) ∈ sr_tbl := sr_in 533 rfl rfl
set_option maxRecDepth 20000 in
theorem qcX4_manyInRun : (.code yX4_manyInRun cX4_manyInRun 2 (some .int) : Cond) ∈ sr_tbl := sr_in 534 rfl rfl
set_option maxRecDepth 20000 in
theorem qmX4_236 : (.methodLink RX4 236 yX1_countCut : Cond) ∈ sr_tbl := sr_in 535 rfl rfl
set_option maxRecDepth 20000 in
theorem qiX1_countCut : (.instanceMethod yX1_countCut : Cond) ∈ sr_tbl := sr_in 536 rfl rfl
set_option maxRecDepth 20000 in
theorem qsX1_countCut : (.selects RX1 yX1_countCut yX1_countCut : Cond) ∈ sr_tbl := sr_in 537 rfl rfl
set_option maxRecDepth 20000 in
theorem qcX1_countCut : (.code yX1_countCut cX1_countCut 3 (some .int) : Cond) ∈ sr_tbl := sr_in 538 rfl rfl
set_option maxRecDepth 20000 in
theorem qmX4_239 : (.methodLink RX4 239 yX1_countCandidates : Cond) ∈ sr_tbl := sr_in 539 rfl rfl
set_option maxRecDepth 20000 in
theorem qiX1_countCandidates : (.instanceMethod yX1_countCandidates : Cond) ∈ sr_tbl := sr_in 540 rfl rfl
set_option maxRecDepth 20000 in
theorem qsX1_countCandidates : (.selects RX1 yX1_countCandidates yX1_countCandidates : Cond) ∈ sr_tbl := sr_in 541 rfl rfl
set_option maxRecDepth 20000 in
theorem qcX1_countCandidates : (.code yX1_countCandidates cX1_countCandidates 3 (some .int) : Cond) ∈ sr_tbl := sr_in 542 rfl rfl
set_option maxRecDepth 20000 in
theorem qmL_109 : (.methodLink RL 109 yX4_opened : Cond) ∈ sr_tbl := sr_in 543 rfl rfl
set_option maxRecDepth 20000 in
theorem qiX4_opened : (.instanceMethod yX4_opened : Cond) ∈ sr_tbl := sr_in 544 rfl rfl
set_option maxRecDepth 20000 in
theorem qsX4_opened : (.selects RX4 yX4_opened yX4_opened : Cond) ∈ sr_tbl := sr_in 545 rfl rfl
set_option maxRecDepth 20000 in
theorem qcX4_opened : (.code yX4_opened cX4_opened 2 (some .int) : Cond) ∈ sr_tbl := sr_in 546 rfl rfl
set_option maxRecDepth 20000 in
theorem qmL_113 : (.methodLink RL 113 yX4_now : Cond) ∈ sr_tbl := sr_in 547 rfl rfl
set_option maxRecDepth 20000 in
theorem qiX4_now : (.instanceMethod yX4_now : Cond) ∈ sr_tbl := sr_in 548 rfl rfl
set_option maxRecDepth 20000 in
theorem qsX4_now : (.selects RX4 yX4_now yX4_now : Cond) ∈ sr_tbl := sr_in 549 rfl rfl
set_option maxRecDepth 20000 in
theorem qcX4_now : (.code yX4_now cX4_now 3 (some .int) : Cond) ∈ sr_tbl := sr_in 550 rfl rfl
set_option maxRecDepth 20000 in
theorem qmL_117 : (.methodLink RL 117 yX4_front : Cond) ∈ sr_tbl := sr_in 551 rfl rfl
set_option maxRecDepth 20000 in
theorem qiX4_front : (.instanceMethod yX4_front : Cond) ∈ sr_tbl := sr_in 552 rfl rfl
set_option maxRecDepth 20000 in
theorem qsX4_front : (.selects RX4 yX4_front yX4_front : Cond) ∈ sr_tbl := sr_in 553 rfl rfl
set_option maxRecDepth 20000 in
theorem qcX4_front : (.code yX4_front cX4_front 2 (some .int) : Cond) ∈ sr_tbl := sr_in 554 rfl rfl
set_option maxRecDepth 20000 in
theorem qmX4_192 : (.methodLink RX4 192 yX1_candidate : Cond) ∈ sr_tbl := sr_in 555 rfl rfl
set_option maxRecDepth 20000 in
theorem qmL_121 : (.methodLink RL 121 yX4_lake : Cond) ∈ sr_tbl := sr_in 556 rfl rfl
set_option maxRecDepth 20000 in
theorem qiX4_lake : (.instanceMethod yX4_lake : Cond) ∈ sr_tbl := sr_in 557 rfl rfl
set_option maxRecDepth 20000 in
theorem qsX4_lake : (.selects RX4 yX4_lake yX4_lake : Cond) ∈ sr_tbl := sr_in 558 rfl rfl
set_option maxRecDepth 20000 in
theorem qcX4_lake : (.code yX4_lake cX4_lake 3 (some .int) : Cond) ∈ sr_tbl := sr_in 559 rfl rfl
set_option maxRecDepth 20000 in
theorem qmL_125 : (.methodLink RL 125 yX4_through : Cond) ∈ sr_tbl := sr_in 560 rfl rfl
set_option maxRecDepth 20000 in
theorem qiX4_through : (.instanceMethod yX4_through : Cond) ∈ sr_tbl := sr_in 561 rfl rfl
set_option maxRecDepth 20000 in
theorem qsX4_through : (.selects RX4 yX4_through yX4_through : Cond) ∈ sr_tbl := sr_in 562 rfl rfl
set_option maxRecDepth 20000 in
theorem qcX4_through : (.code yX4_through cX4_through 1 (some .int) : Cond) ∈ sr_tbl := sr_in 563 rfl rfl
set_option maxRecDepth 20000 in
theorem qmX4_210 : (.methodLink RX4 210 yX1_firstOutletStep : Cond) ∈ sr_tbl := sr_in 564 rfl rfl
set_option maxRecDepth 20000 in
theorem qiX1_firstOutletStep : (.instanceMethod yX1_firstOutletStep : Cond) ∈ sr_tbl := sr_in 565 rfl rfl
set_option maxRecDepth 20000 in
theorem qsX1_firstOutletStep : (.selects RX1 yX1_firstOutletStep yX1_firstOutletStep : Cond) ∈ sr_tbl := sr_in 566 rfl rfl
set_option maxRecDepth 20000 in
theorem qcX1_firstOutletStep : (.code yX1_firstOutletStep cX1_firstOutletStep 4 (some .int) : Cond) ∈ sr_tbl := sr_in 567 rfl rfl
set_option maxRecDepth 20000 in
theorem qmL_129 : (.methodLink RL 129 yX4_worst : Cond) ∈ sr_tbl := sr_in 568 rfl rfl
set_option maxRecDepth 20000 in
theorem qiX4_worst : (.instanceMethod yX4_worst : Cond) ∈ sr_tbl := sr_in 569 rfl rfl
set_option maxRecDepth 20000 in
theorem qsX4_worst : (.selects RX4 yX4_worst yX4_worst : Cond) ∈ sr_tbl := sr_in 570 rfl rfl
set_option maxRecDepth 20000 in
theorem qcX4_worst : (.code yX4_worst cX4_worst 2 (some .int) : Cond) ∈ sr_tbl := sr_in 571 rfl rfl
set_option maxRecDepth 20000 in
theorem qmX4_213 : (.methodLink RX4 213 yX3_flood : Cond) ∈ sr_tbl := sr_in 572 rfl rfl
set_option maxRecDepth 20000 in
theorem qiX3_flood : (.instanceMethod yX3_flood : Cond) ∈ sr_tbl := sr_in 573 rfl rfl
set_option maxRecDepth 20000 in
theorem qsX3_flood : (.selects RX3 yX3_flood yX3_flood : Cond) ∈ sr_tbl := sr_in 574 rfl rfl
set_option maxRecDepth 20000 in
theorem qcX3_flood : (.code yX3_flood cX3_flood 2 (none) : Cond) ∈ sr_tbl := sr_in 575 rfl rfl
set_option maxRecDepth 20000 in
theorem qmX3_38 : (.methodLink RX3 38 yX3_fillNext : Cond) ∈ sr_tbl := sr_in 576 rfl rfl
set_option maxRecDepth 20000 in
theorem qiX3_fillNext : (.instanceMethod yX3_fillNext : Cond) ∈ sr_tbl := sr_in 578 rfl rfl
set_option maxRecDepth 20000 in
theorem qcX3_fillNext : (.code yX3_fillNext cX3_fillNext 5 (some .boolean) : Cond) ∈ sr_tbl := sr_in 579 rfl rfl
set_option maxRecDepth 20000 in
theorem qmX3_65 : (.methodLink RX3 65 yX3_fill : Cond) ∈ sr_tbl := sr_in 580 rfl rfl
set_option maxRecDepth 20000 in
theorem qiX3_fill : (.instanceMethod yX3_fill : Cond) ∈ sr_tbl := sr_in 582 rfl rfl
set_option maxRecDepth 20000 in
theorem qcX3_fill : (.code yX3_fill cX3_fill 4 (none) : Cond) ∈ sr_tbl := sr_in 583 rfl rfl
set_option maxRecDepth 20000 in
theorem qmX3_42 : (.methodLink RX3 42 yX2_across : Cond) ∈ sr_tbl := sr_in 584 rfl rfl
set_option maxRecDepth 20000 in
theorem qmX3_72 : (.methodLink RX3 72 yJ9_max_7cf53 : Cond) ∈ sr_tbl := sr_in 585 rfl rfl
set_option maxRecDepth 20000 in
theorem qmL_133 : (.methodLink RL 133 yX4_way : Cond) ∈ sr_tbl := sr_in 586 rfl rfl
set_option maxRecDepth 20000 in
theorem qiX4_way : (.instanceMethod yX4_way : Cond) ∈ sr_tbl := sr_in 587 rfl rfl
set_option maxRecDepth 20000 in
theorem qsX4_way : (.selects RX4 yX4_way yX4_way : Cond) ∈ sr_tbl := sr_in 588 rfl rfl
set_option maxRecDepth 20000 in
theorem qcX4_way : (.code yX4_way cX4_way 3 (some .int) : Cond) ∈ sr_tbl := sr_in 589 rfl rfl
set_option maxRecDepth 20000 in
theorem qmX4_222 : (.methodLink RX4 222 yX3_throatOnWay : Cond) ∈ sr_tbl := sr_in 590 rfl rfl
set_option maxRecDepth 20000 in
theorem qiX3_throatOnWay : (.instanceMethod yX3_throatOnWay : Cond) ∈ sr_tbl := sr_in 591 rfl rfl
set_option maxRecDepth 20000 in
theorem qsX3_throatOnWay : (.selects RX3 yX3_throatOnWay yX3_throatOnWay : Cond) ∈ sr_tbl := sr_in 592 rfl rfl
set_option maxRecDepth 20000 in
theorem qcX3_throatOnWay : (.code yX3_throatOnWay cX3_throatOnWay 5 (some .int) : Cond) ∈ sr_tbl := sr_in 593 rfl rfl
set_option maxRecDepth 20000 in
theorem qmL_137 : (.methodLink RL 137 yX4_join : Cond) ∈ sr_tbl := sr_in 594 rfl rfl
set_option maxRecDepth 20000 in
theorem qiX4_join : (.instanceMethod yX4_join : Cond) ∈ sr_tbl := sr_in 595 rfl rfl
set_option maxRecDepth 20000 in
theorem qsX4_join : (.selects RX4 yX4_join yX4_join : Cond) ∈ sr_tbl := sr_in 596 rfl rfl
set_option maxRecDepth 20000 in
theorem qcX4_join : (.code yX4_join cX4_join 3 (some .int) : Cond) ∈ sr_tbl := sr_in 597 rfl rfl
set_option maxRecDepth 20000 in
theorem qmX4_225 : (.methodLink RX4 225 yX3_rankJoining : Cond) ∈ sr_tbl := sr_in 598 rfl rfl
set_option maxRecDepth 20000 in
theorem qiX3_rankJoining : (.instanceMethod yX3_rankJoining : Cond) ∈ sr_tbl := sr_in 599 rfl rfl
set_option maxRecDepth 20000 in
theorem qsX3_rankJoining : (.selects RX3 yX3_rankJoining yX3_rankJoining : Cond) ∈ sr_tbl := sr_in 600 rfl rfl
set_option maxRecDepth 20000 in
theorem qcX3_rankJoining : (.code yX3_rankJoining cX3_rankJoining 4 (some .int) : Cond) ∈ sr_tbl := sr_in 601 rfl rfl
set_option maxRecDepth 20000 in
theorem qmX3_46 : (.methodLink RX3 46 yX3_stand : Cond) ∈ sr_tbl := sr_in 602 rfl rfl
set_option maxRecDepth 20000 in
theorem qiX3_stand : (.instanceMethod yX3_stand : Cond) ∈ sr_tbl := sr_in 604 rfl rfl
set_option maxRecDepth 20000 in
theorem qcX3_stand : (.code yX3_stand cX3_stand 2 (none) : Cond) ∈ sr_tbl := sr_in 605 rfl rfl
set_option maxRecDepth 20000 in
theorem qmX3_55 : (.methodLink RX3 55 yX3_unite : Cond) ∈ sr_tbl := sr_in 606 rfl rfl
set_option maxRecDepth 20000 in
theorem qiX3_unite : (.instanceMethod yX3_unite : Cond) ∈ sr_tbl := sr_in 608 rfl rfl
set_option maxRecDepth 20000 in
theorem qcX3_unite : (.code yX3_unite cX3_unite 5 (some .boolean) : Cond) ∈ sr_tbl := sr_in 609 rfl rfl
set_option maxRecDepth 20000 in
theorem qmL_141 : (.methodLink RL 141 yX4_tree : Cond) ∈ sr_tbl := sr_in 610 rfl rfl
set_option maxRecDepth 20000 in
theorem qiX4_tree : (.instanceMethod yX4_tree : Cond) ∈ sr_tbl := sr_in 611 rfl rfl
set_option maxRecDepth 20000 in
theorem qsX4_tree : (.selects RX4 yX4_tree yX4_tree : Cond) ∈ sr_tbl := sr_in 612 rfl rfl
set_option maxRecDepth 20000 in
theorem qcX4_tree : (.code yX4_tree cX4_tree 2 (some .int) : Cond) ∈ sr_tbl := sr_in 613 rfl rfl
set_option maxRecDepth 20000 in
theorem qmX4_228 : (.methodLink RX4 228 yX3_branch : Cond) ∈ sr_tbl := sr_in 614 rfl rfl
set_option maxRecDepth 20000 in
theorem qiX3_branch : (.instanceMethod yX3_branch : Cond) ∈ sr_tbl := sr_in 615 rfl rfl
set_option maxRecDepth 20000 in
theorem qsX3_branch : (.selects RX3 yX3_branch yX3_branch : Cond) ∈ sr_tbl := sr_in 616 rfl rfl
set_option maxRecDepth 20000 in
theorem qcX3_branch : (.code yX3_branch cX3_branch 4 (some .int) : Cond) ∈ sr_tbl := sr_in 617 rfl rfl
set_option maxRecDepth 20000 in
theorem qmL_145 : (.methodLink RL 145 yX4_claim : Cond) ∈ sr_tbl := sr_in 618 rfl rfl
set_option maxRecDepth 20000 in
theorem qiX4_claim : (.instanceMethod yX4_claim : Cond) ∈ sr_tbl := sr_in 619 rfl rfl
set_option maxRecDepth 20000 in
theorem qsX4_claim : (.selects RX4 yX4_claim yX4_claim : Cond) ∈ sr_tbl := sr_in 620 rfl rfl
set_option maxRecDepth 20000 in
theorem qcX4_claim : (.code yX4_claim cX4_claim 2 (some .int) : Cond) ∈ sr_tbl := sr_in 621 rfl rfl
set_option maxRecDepth 20000 in
theorem qmL_149 : (.methodLink RL 149 yX4_copy : Cond) ∈ sr_tbl := sr_in 622 rfl rfl
set_option maxRecDepth 20000 in
theorem qiX4_copy : (.instanceMethod yX4_copy : Cond) ∈ sr_tbl := sr_in 623 rfl rfl
set_option maxRecDepth 20000 in
theorem qsX4_copy : (.selects RX4 yX4_copy yX4_copy : Cond) ∈ sr_tbl := sr_in 624 rfl rfl
set_option maxRecDepth 20000 in
theorem qcX4_copy : (.code yX4_copy cX4_copy 2 (some .int) : Cond) ∈ sr_tbl := sr_in 625 rfl rfl
set_option maxRecDepth 20000 in
theorem qmL_153 : (.methodLink RL 153 yX4_alter : Cond) ∈ sr_tbl := sr_in 626 rfl rfl
set_option maxRecDepth 20000 in
theorem qiX4_alter : (.instanceMethod yX4_alter : Cond) ∈ sr_tbl := sr_in 627 rfl rfl
set_option maxRecDepth 20000 in
theorem qsX4_alter : (.selects RX4 yX4_alter yX4_alter : Cond) ∈ sr_tbl := sr_in 628 rfl rfl
set_option maxRecDepth 20000 in
theorem qcX4_alter : (.code yX4_alter cX4_alter 3 (some .int) : Cond) ∈ sr_tbl := sr_in 629 rfl rfl
set_option maxRecDepth 20000 in
theorem qmL_157 : (.methodLink RL 157 yX4_unclaim : Cond) ∈ sr_tbl := sr_in 630 rfl rfl
set_option maxRecDepth 20000 in
theorem qiX4_unclaim : (.instanceMethod yX4_unclaim : Cond) ∈ sr_tbl := sr_in 631 rfl rfl
set_option maxRecDepth 20000 in
theorem qsX4_unclaim : (.selects RX4 yX4_unclaim yX4_unclaim : Cond) ∈ sr_tbl := sr_in 632 rfl rfl
set_option maxRecDepth 20000 in
theorem qcX4_unclaim : (.code yX4_unclaim cX4_unclaim 2 (some .int) : Cond) ∈ sr_tbl := sr_in 633 rfl rfl
set_option maxRecDepth 20000 in
theorem qmL_161 : (.methodLink RL 161 yX4_check : Cond) ∈ sr_tbl := sr_in 634 rfl rfl
set_option maxRecDepth 20000 in
theorem qiX4_check : (.instanceMethod yX4_check : Cond) ∈ sr_tbl := sr_in 635 rfl rfl
set_option maxRecDepth 20000 in
theorem qsX4_check : (.selects RX4 yX4_check yX4_check : Cond) ∈ sr_tbl := sr_in 636 rfl rfl
set_option maxRecDepth 20000 in
theorem qcX4_check : (.code yX4_check cX4_check 2 (some .int) : Cond) ∈ sr_tbl := sr_in 637 rfl rfl
set_option maxRecDepth 20000 in
theorem qwL_10 : (.classLink RL 10 RX5 : Cond) ∈ sr_tbl := sr_in 638 rfl rfl
set_option maxRecDepth 20000 in
theorem qyX5 : (.instantiable RX5 33 : Cond) ∈ sr_tbl := sr_in 639 rfl rfl
set_option maxRecDepth 20000 in
theorem qmL_12 : (.methodLink RL 12 yX5_init : Cond) ∈ sr_tbl := sr_in 640 rfl rfl
set_option maxRecDepth 20000 in
theorem qiX5_init : (.instanceMethod yX5_init : Cond) ∈ sr_tbl := sr_in 641 rfl rfl
set_option maxRecDepth 20000 in
theorem qcX5_init : (.code yX5_init cX5_init 2 (none) : Cond) ∈ sr_tbl := sr_in 642 rfl rfl
set_option maxRecDepth 20000 in
theorem qfX5_88 : (.fieldLink RX5 88 RX5 (TX5 0).2.1 (TX5 0).2.2.1 : Cond) ∈ sr_tbl := sr_in 644 rfl rfl
set_option maxRecDepth 20000 in
theorem qfX5_7 : (.fieldLink RX5 7 RX5 (TX5 1).2.1 (TX5 1).2.2.1 : Cond) ∈ sr_tbl := sr_in 645 rfl rfl
set_option maxRecDepth 20000 in
theorem qfX5_13 : (.fieldLink RX5 13 RX5 (TX5 2).2.1 (TX5 2).2.2.1 : Cond) ∈ sr_tbl := sr_in 646 rfl rfl
set_option maxRecDepth 20000 in
theorem qfX5_92 : (.fieldLink RX5 92 RX5 (TX5 3).2.1 (TX5 3).2.2.1 : Cond) ∈ sr_tbl := sr_in 647 rfl rfl
set_option maxRecDepth 20000 in
theorem qfX5_17 : (.fieldLink RX5 17 RX5 (TX5 4).2.1 (TX5 4).2.2.1 : Cond) ∈ sr_tbl := sr_in 648 rfl rfl
set_option maxRecDepth 20000 in
theorem qfX5_20 : (.fieldLink RX5 20 RX5 (TX5 5).2.1 (TX5 5).2.2.1 : Cond) ∈ sr_tbl := sr_in 649 rfl rfl
set_option maxRecDepth 20000 in
theorem qfX5_23 : (.fieldLink RX5 23 RX5 (TX5 6).2.1 (TX5 6).2.2.1 : Cond) ∈ sr_tbl := sr_in 650 rfl rfl
set_option maxRecDepth 20000 in
theorem qfX5_26 : (.fieldLink RX5 26 RX5 (TX5 7).2.1 (TX5 7).2.2.1 : Cond) ∈ sr_tbl := sr_in 651 rfl rfl
set_option maxRecDepth 20000 in
theorem qfX5_107 : (.fieldLink RX5 107 RX5 (TX5 8).2.1 (TX5 8).2.2.1 : Cond) ∈ sr_tbl := sr_in 652 rfl rfl
set_option maxRecDepth 20000 in
theorem qfX5_29 : (.fieldLink RX5 29 RX5 (TX5 9).2.1 (TX5 9).2.2.1 : Cond) ∈ sr_tbl := sr_in 653 rfl rfl
set_option maxRecDepth 20000 in
theorem qfX5_32 : (.fieldLink RX5 32 RX5 (TX5 10).2.1 (TX5 10).2.2.1 : Cond) ∈ sr_tbl := sr_in 654 rfl rfl
set_option maxRecDepth 20000 in
theorem qfX5_35 : (.fieldLink RX5 35 RX5 (TX5 11).2.1 (TX5 11).2.2.1 : Cond) ∈ sr_tbl := sr_in 655 rfl rfl
set_option maxRecDepth 20000 in
theorem qfX5_39 : (.fieldLink RX5 39 RX5 (TX5 12).2.1 (TX5 12).2.2.1 : Cond) ∈ sr_tbl := sr_in 656 rfl rfl
set_option maxRecDepth 20000 in
theorem qfX5_95 : (.fieldLink RX5 95 RX5 (TX5 13).2.1 (TX5 13).2.2.1 : Cond) ∈ sr_tbl := sr_in 657 rfl rfl
set_option maxRecDepth 20000 in
theorem qfX5_152 : (.fieldLink RX5 152 RX5 (TX5 14).2.1 (TX5 14).2.2.1 : Cond) ∈ sr_tbl := sr_in 658 rfl rfl
set_option maxRecDepth 20000 in
theorem qfX5_43 : (.fieldLink RX5 43 RX5 (TX5 15).2.1 (TX5 15).2.2.1 : Cond) ∈ sr_tbl := sr_in 659 rfl rfl
set_option maxRecDepth 20000 in
theorem qfX5_46 : (.fieldLink RX5 46 RX5 (TX5 16).2.1 (TX5 16).2.2.1 : Cond) ∈ sr_tbl := sr_in 660 rfl rfl
set_option maxRecDepth 20000 in
theorem qfX5_49 : (.fieldLink RX5 49 RX5 (TX5 17).2.1 (TX5 17).2.2.1 : Cond) ∈ sr_tbl := sr_in 661 rfl rfl
set_option maxRecDepth 20000 in
theorem qfX5_52 : (.fieldLink RX5 52 RX5 (TX5 18).2.1 (TX5 18).2.2.1 : Cond) ∈ sr_tbl := sr_in 662 rfl rfl
set_option maxRecDepth 20000 in
theorem qfX5_185 : (.fieldLink RX5 185 RX5 (TX5 19).2.1 (TX5 19).2.2.1 : Cond) ∈ sr_tbl := sr_in 663 rfl rfl
set_option maxRecDepth 20000 in
theorem qfX5_55 : (.fieldLink RX5 55 RX5 (TX5 20).2.1 (TX5 20).2.2.1 : Cond) ∈ sr_tbl := sr_in 664 rfl rfl
set_option maxRecDepth 20000 in
theorem qfX5_58 : (.fieldLink RX5 58 RX5 (TX5 21).2.1 (TX5 21).2.2.1 : Cond) ∈ sr_tbl := sr_in 665 rfl rfl
set_option maxRecDepth 20000 in
theorem qfX5_61 : (.fieldLink RX5 61 RX5 (TX5 22).2.1 (TX5 22).2.2.1 : Cond) ∈ sr_tbl := sr_in 666 rfl rfl
set_option maxRecDepth 20000 in
theorem qfX5_64 : (.fieldLink RX5 64 RX5 (TX5 23).2.1 (TX5 23).2.2.1 : Cond) ∈ sr_tbl := sr_in 667 rfl rfl
set_option maxRecDepth 20000 in
theorem qfX5_67 : (.fieldLink RX5 67 RX5 (TX5 24).2.1 (TX5 24).2.2.1 : Cond) ∈ sr_tbl := sr_in 668 rfl rfl
set_option maxRecDepth 20000 in
theorem qfX5_179 : (.fieldLink RX5 179 RX5 (TX5 25).2.1 (TX5 25).2.2.1 : Cond) ∈ sr_tbl := sr_in 669 rfl rfl
set_option maxRecDepth 20000 in
theorem qfX5_70 : (.fieldLink RX5 70 RX5 (TX5 26).2.1 (TX5 26).2.2.1 : Cond) ∈ sr_tbl := sr_in 670 rfl rfl
set_option maxRecDepth 20000 in
theorem qfX5_73 : (.fieldLink RX5 73 RX5 (TX5 27).2.1 (TX5 27).2.2.1 : Cond) ∈ sr_tbl := sr_in 671 rfl rfl
set_option maxRecDepth 20000 in
theorem qfX5_76 : (.fieldLink RX5 76 RX5 (TX5 28).2.1 (TX5 28).2.2.1 : Cond) ∈ sr_tbl := sr_in 672 rfl rfl
set_option maxRecDepth 20000 in
theorem qfX5_79 : (.fieldLink RX5 79 RX5 (TX5 29).2.1 (TX5 29).2.2.1 : Cond) ∈ sr_tbl := sr_in 673 rfl rfl
set_option maxRecDepth 20000 in
theorem qfX5_82 : (.fieldLink RX5 82 RX5 (TX5 30).2.1 (TX5 30).2.2.1 : Cond) ∈ sr_tbl := sr_in 674 rfl rfl
set_option maxRecDepth 20000 in
theorem qfX5_85 : (.fieldLink RX5 85 RX5 (TX5 31).2.1 (TX5 31).2.2.1 : Cond) ∈ sr_tbl := sr_in 675 rfl rfl
set_option maxRecDepth 20000 in
theorem qfX5_209 : (.fieldLink RX5 209 RX5 (TX5 32).2.1 (TX5 32).2.2.1 : Cond) ∈ sr_tbl := sr_in 676 rfl rfl
set_option maxRecDepth 20000 in
theorem qa_double : (.arrayClass .double : Cond) ∈ sr_tbl := sr_in 744 rfl rfl
set_option maxRecDepth 20000 in
theorem qmL_17 : (.methodLink RL 17 yX5_pore : Cond) ∈ sr_tbl := sr_in 745 rfl rfl
set_option maxRecDepth 20000 in
theorem qiX5_pore : (.instanceMethod yX5_pore : Cond) ∈ sr_tbl := sr_in 746 rfl rfl
set_option maxRecDepth 20000 in
theorem qsX5_pore : (.selects RX5 yX5_pore yX5_pore : Cond) ∈ sr_tbl := sr_in 747 rfl rfl
set_option maxRecDepth 20000 in
theorem qcX5_pore : (.code yX5_pore cX5_pore 2 (some .int) : Cond) ∈ sr_tbl := sr_in 748 rfl rfl
set_option maxRecDepth 20000 in
theorem qmL_22 : (.methodLink RL 22 yX5_throat : Cond) ∈ sr_tbl := sr_in 749 rfl rfl
set_option maxRecDepth 20000 in
theorem qiX5_throat : (.instanceMethod yX5_throat : Cond) ∈ sr_tbl := sr_in 750 rfl rfl
set_option maxRecDepth 20000 in
theorem qsX5_throat : (.selects RX5 yX5_throat yX5_throat : Cond) ∈ sr_tbl := sr_in 751 rfl rfl
set_option maxRecDepth 20000 in
theorem qcX5_throat : (.code yX5_throat cX5_throat 3 (some .int) : Cond) ∈ sr_tbl := sr_in 752 rfl rfl
set_option maxRecDepth 20000 in
theorem qmX5_99 : (.methodLink RX5 99 yX5_isPore : Cond) ∈ sr_tbl := sr_in 753 rfl rfl
set_option maxRecDepth 20000 in
theorem qiX5_isPore : (.instanceMethod yX5_isPore : Cond) ∈ sr_tbl := sr_in 755 rfl rfl
set_option maxRecDepth 20000 in
theorem qcX5_isPore : (.code yX5_isPore cX5_isPore 2 (some .boolean) : Cond) ∈ sr_tbl := sr_in 756 rfl rfl
set_option maxRecDepth 20000 in
theorem qmL_26 : (.methodLink RL 26 yX5_hinder : Cond) ∈ sr_tbl := sr_in 757 rfl rfl
set_option maxRecDepth 20000 in
theorem qiX5_hinder : (.instanceMethod yX5_hinder : Cond) ∈ sr_tbl := sr_in 758 rfl rfl
set_option maxRecDepth 20000 in
theorem qsX5_hinder : (.selects RX5 yX5_hinder yX5_hinder : Cond) ∈ sr_tbl := sr_in 759 rfl rfl
set_option maxRecDepth 20000 in
theorem qcX5_hinder : (.code yX5_hinder cX5_hinder 3 (some .int) : Cond) ∈ sr_tbl := sr_in 760 rfl rfl
set_option maxRecDepth 20000 in
theorem qmX5_103 : (.methodLink RX5 103 yX5_isThroat : Cond) ∈ sr_tbl := sr_in 761 rfl rfl
set_option maxRecDepth 20000 in
theorem qiX5_isThroat : (.instanceMethod yX5_isThroat : Cond) ∈ sr_tbl := sr_in 763 rfl rfl
set_option maxRecDepth 20000 in
theorem qcX5_isThroat : (.code yX5_isThroat cX5_isThroat 2 (some .boolean) : Cond) ∈ sr_tbl := sr_in 764 rfl rfl
set_option maxRecDepth 20000 in
theorem qkX5_106 : (.constant RX5 106 (1000000000) : Cond) ∈ sr_tbl := sr_in 765 rfl rfl
set_option maxRecDepth 20000 in
theorem qmL_31 : (.methodLink RL 31 yX5_shut : Cond) ∈ sr_tbl := sr_in 766 rfl rfl
set_option maxRecDepth 20000 in
theorem qiX5_shut : (.instanceMethod yX5_shut : Cond) ∈ sr_tbl := sr_in 767 rfl rfl
set_option maxRecDepth 20000 in
theorem qsX5_shut : (.selects RX5 yX5_shut yX5_shut : Cond) ∈ sr_tbl := sr_in 768 rfl rfl
set_option maxRecDepth 20000 in
theorem qcX5_shut : (.code yX5_shut cX5_shut 4 (some .int) : Cond) ∈ sr_tbl := sr_in 769 rfl rfl
set_option maxRecDepth 20000 in
theorem qmL_35 : (.methodLink RL 35 yX5_inlet : Cond) ∈ sr_tbl := sr_in 770 rfl rfl
set_option maxRecDepth 20000 in
theorem qiX5_inlet : (.instanceMethod yX5_inlet : Cond) ∈ sr_tbl := sr_in 771 rfl rfl
set_option maxRecDepth 20000 in
theorem qsX5_inlet : (.selects RX5 yX5_inlet yX5_inlet : Cond) ∈ sr_tbl := sr_in 772 rfl rfl
set_option maxRecDepth 20000 in
theorem qcX5_inlet : (.code yX5_inlet cX5_inlet 4 (some .int) : Cond) ∈ sr_tbl := sr_in 773 rfl rfl
set_option maxRecDepth 20000 in
theorem qmL_40 : (.methodLink RL 40 yX5_trapping : Cond) ∈ sr_tbl := sr_in 774 rfl rfl
set_option maxRecDepth 20000 in
theorem qiX5_trapping : (.instanceMethod yX5_trapping : Cond) ∈ sr_tbl := sr_in 775 rfl rfl
set_option maxRecDepth 20000 in
theorem qsX5_trapping : (.selects RX5 yX5_trapping yX5_trapping : Cond) ∈ sr_tbl := sr_in 776 rfl rfl
set_option maxRecDepth 20000 in
theorem qcX5_trapping : (.code yX5_trapping cX5_trapping 3 (some .int) : Cond) ∈ sr_tbl := sr_in 777 rfl rfl
set_option maxRecDepth 20000 in
theorem qmL_44 : (.methodLink RL 44 yX5_about : Cond) ∈ sr_tbl := sr_in 778 rfl rfl
set_option maxRecDepth 20000 in
theorem qiX5_about : (.instanceMethod yX5_about : Cond) ∈ sr_tbl := sr_in 779 rfl rfl
set_option maxRecDepth 20000 in
theorem qsX5_about : (.selects RX5 yX5_about yX5_about : Cond) ∈ sr_tbl := sr_in 780 rfl rfl
set_option maxRecDepth 20000 in
theorem qcX5_about : (.code yX5_about cX5_about 3 (some .int) : Cond) ∈ sr_tbl := sr_in 781 rfl rfl
set_option maxRecDepth 20000 in
theorem qmX5_114 : (.methodLink RX5 114 yX5_rank : Cond) ∈ sr_tbl := sr_in 782 rfl rfl
set_option maxRecDepth 20000 in
theorem qiX5_rank : (.instanceMethod yX5_rank : Cond) ∈ sr_tbl := sr_in 784 rfl rfl
set_option maxRecDepth 20000 in
theorem qcX5_rank : (.code yX5_rank cX5_rank 4 (some .int) : Cond) ∈ sr_tbl := sr_in 785 rfl rfl
set_option maxRecDepth 20000 in
theorem qmX5_110 : (.methodLink RX5 110 yX5_isLess : Cond) ∈ sr_tbl := sr_in 786 rfl rfl
set_option maxRecDepth 20000 in
theorem qiX5_isLess : (.instanceMethod yX5_isLess : Cond) ∈ sr_tbl := sr_in 788 rfl rfl
set_option maxRecDepth 20000 in
theorem qcX5_isLess : (.code yX5_isLess cX5_isLess 3 (some .boolean) : Cond) ∈ sr_tbl := sr_in 789 rfl rfl
set_option maxRecDepth 20000 in
theorem qmL_48 : (.methodLink RL 48 yX5_of : Cond) ∈ sr_tbl := sr_in 790 rfl rfl
set_option maxRecDepth 20000 in
theorem qiX5_of : (.instanceMethod yX5_of : Cond) ∈ sr_tbl := sr_in 791 rfl rfl
set_option maxRecDepth 20000 in
theorem qsX5_of : (.selects RX5 yX5_of yX5_of : Cond) ∈ sr_tbl := sr_in 792 rfl rfl
set_option maxRecDepth 20000 in
theorem qcX5_of : (.code yX5_of cX5_of 5 (some .int) : Cond) ∈ sr_tbl := sr_in 793 rfl rfl
set_option maxRecDepth 20000 in
theorem qmL_52 : (.methodLink RL 52 yX5_ranked : Cond) ∈ sr_tbl := sr_in 794 rfl rfl
set_option maxRecDepth 20000 in
theorem qiX5_ranked : (.instanceMethod yX5_ranked : Cond) ∈ sr_tbl := sr_in 795 rfl rfl
set_option maxRecDepth 20000 in
theorem qsX5_ranked : (.selects RX5 yX5_ranked yX5_ranked : Cond) ∈ sr_tbl := sr_in 796 rfl rfl
set_option maxRecDepth 20000 in
theorem qcX5_ranked : (.code yX5_ranked cX5_ranked 3 (some .int) : Cond) ∈ sr_tbl := sr_in 797 rfl rfl
set_option maxRecDepth 20000 in
theorem qmL_57 : (.methodLink RL 57 yX5_core : Cond) ∈ sr_tbl := sr_in 798 rfl rfl
set_option maxRecDepth 20000 in
theorem qiX5_core : (.instanceMethod yX5_core : Cond) ∈ sr_tbl := sr_in 799 rfl rfl
set_option maxRecDepth 20000 in
theorem qsX5_core : (.selects RX5 yX5_core yX5_core : Cond) ∈ sr_tbl := sr_in 800 rfl rfl
set_option maxRecDepth 20000 in
theorem qcX5_core : (.code yX5_core cX5_core 5 (some .int) : Cond) ∈ sr_tbl := sr_in 801 rfl rfl
set_option maxRecDepth 20000 in
theorem qmX5_118 : (.methodLink RX5 118 yX5_isCore : Cond) ∈ sr_tbl := sr_in 802 rfl rfl
set_option maxRecDepth 20000 in
theorem qtX5_isCore : (.static yX5_isCore : Cond) ∈ sr_tbl := sr_in 803 rfl rfl
set_option maxRecDepth 20000 in
theorem qcX5_isCore : (.code yX5_isCore cX5_isCore 1 (some .boolean) : Cond) ∈ sr_tbl := sr_in 804 rfl rfl
set_option maxRecDepth 20000 in
theorem qmL_64 : (.methodLink RL 64 yX5_cell : Cond) ∈ sr_tbl := sr_in 805 rfl rfl
set_option maxRecDepth 20000 in
theorem qiX5_cell : (.instanceMethod yX5_cell : Cond) ∈ sr_tbl := sr_in 806 rfl rfl
set_option maxRecDepth 20000 in
theorem qsX5_cell : (.selects RX5 yX5_cell yX5_cell : Cond) ∈ sr_tbl := sr_in 807 rfl rfl
set_option maxRecDepth 20000 in
theorem qcX5_cell : (.code yX5_cell cX5_cell 8 (some .int) : Cond) ∈ sr_tbl := sr_in 808 rfl rfl
set_option maxRecDepth 20000 in
theorem qmL_68 : (.methodLink RL 68 yX5_wild : Cond) ∈ sr_tbl := sr_in 809 rfl rfl
set_option maxRecDepth 20000 in
theorem qiX5_wild : (.instanceMethod yX5_wild : Cond) ∈ sr_tbl := sr_in 810 rfl rfl
set_option maxRecDepth 20000 in
theorem qsX5_wild : (.selects RX5 yX5_wild yX5_wild : Cond) ∈ sr_tbl := sr_in 811 rfl rfl
set_option maxRecDepth 20000 in
theorem qcX5_wild : (.code yX5_wild cX5_wild 4 (some .int) : Cond) ∈ sr_tbl := sr_in 812 rfl rfl
set_option maxRecDepth 20000 in
theorem qkX5_123 : (.constantDouble RX5 123 (9221120237041090560) : Cond) ∈ sr_tbl := sr_in 813 rfl rfl
set_option maxRecDepth 20000 in
theorem qkX5_125 : (.constantDouble RX5 125 (9218868437227405312) : Cond) ∈ sr_tbl := sr_in 814 rfl rfl
set_option maxRecDepth 20000 in
theorem qkX5_127 : (.constantDouble RX5 127 (18442240474082181120) : Cond) ∈ sr_tbl := sr_in 815 rfl rfl
set_option maxRecDepth 20000 in
theorem qkX5_129 : (.constantDouble RX5 129 (9223372036854775808) : Cond) ∈ sr_tbl := sr_in 816 rfl rfl
set_option maxRecDepth 20000 in
theorem qmL_73 : (.methodLink RL 73 yX5_splice : Cond) ∈ sr_tbl := sr_in 817 rfl rfl
set_option maxRecDepth 20000 in
theorem qiX5_splice : (.instanceMethod yX5_splice : Cond) ∈ sr_tbl := sr_in 818 rfl rfl
set_option maxRecDepth 20000 in
theorem qsX5_splice : (.selects RX5 yX5_splice yX5_splice : Cond) ∈ sr_tbl := sr_in 819 rfl rfl
set_option maxRecDepth 20000 in
theorem qcX5_splice : (.code yX5_splice cX5_splice 7 (some .int) : Cond) ∈ sr_tbl := sr_in 820 rfl rfl
set_option maxRecDepth 20000 in
theorem qmX5_131 : (.methodLink RX5 131 yX5_hasRow : Cond) ∈ sr_tbl := sr_in 821 rfl rfl
set_option maxRecDepth 20000 in
theorem qiX5_hasRow : (.instanceMethod yX5_hasRow : Cond) ∈ sr_tbl := sr_in 823 rfl rfl
set_option maxRecDepth 20000 in
theorem qcX5_hasRow : (.code yX5_hasRow cX5_hasRow 4 (some .boolean) : Cond) ∈ sr_tbl := sr_in 824 rfl rfl
set_option maxRecDepth 20000 in
theorem qmL_77 : (.methodLink RL 77 yX5_lose : Cond) ∈ sr_tbl := sr_in 825 rfl rfl
set_option maxRecDepth 20000 in
theorem qiX5_lose : (.instanceMethod yX5_lose : Cond) ∈ sr_tbl := sr_in 826 rfl rfl
set_option maxRecDepth 20000 in
theorem qsX5_lose : (.selects RX5 yX5_lose yX5_lose : Cond) ∈ sr_tbl := sr_in 827 rfl rfl
set_option maxRecDepth 20000 in
theorem qcX5_lose : (.code yX5_lose cX5_lose 2 (some .int) : Cond) ∈ sr_tbl := sr_in 828 rfl rfl
set_option maxRecDepth 20000 in
theorem qmL_82 : (.methodLink RL 82 yX5_told : Cond) ∈ sr_tbl := sr_in 829 rfl rfl
set_option maxRecDepth 20000 in
theorem qiX5_told : (.instanceMethod yX5_told : Cond) ∈ sr_tbl := sr_in 830 rfl rfl
set_option maxRecDepth 20000 in
theorem qsX5_told : (.selects RX5 yX5_told yX5_told : Cond) ∈ sr_tbl := sr_in 831 rfl rfl
set_option maxRecDepth 20000 in
theorem qcX5_told : (.code yX5_told cX5_told 3 (some .long) : Cond) ∈ sr_tbl := sr_in 832 rfl rfl
set_option maxRecDepth 20000 in
theorem qkX5_135 : (.constantLong RX5 135 (9223372036854775807) : Cond) ∈ sr_tbl := sr_in 833 rfl rfl
set_option maxRecDepth 20000 in
theorem qmX5_137 : (.methodLink RX5 137 yX5_wholeOf : Cond) ∈ sr_tbl := sr_in 834 rfl rfl
set_option maxRecDepth 20000 in
theorem qiX5_wholeOf : (.instanceMethod yX5_wholeOf : Cond) ∈ sr_tbl := sr_in 836 rfl rfl
set_option maxRecDepth 20000 in
theorem qcX5_wholeOf : (.code yX5_wholeOf cX5_wholeOf 4 (some .long) : Cond) ∈ sr_tbl := sr_in 837 rfl rfl
set_option maxRecDepth 20000 in
theorem qmL_87 : (.methodLink RL 87 yX5_pour : Cond) ∈ sr_tbl := sr_in 838 rfl rfl
set_option maxRecDepth 20000 in
theorem qiX5_pour : (.instanceMethod yX5_pour : Cond) ∈ sr_tbl := sr_in 839 rfl rfl
set_option maxRecDepth 20000 in
theorem qsX5_pour : (.selects RX5 yX5_pour yX5_pour : Cond) ∈ sr_tbl := sr_in 840 rfl rfl
set_option maxRecDepth 20000 in
theorem qcX5_pour : (.code yX5_pour cX5_pour 12 (some .int) : Cond) ∈ sr_tbl := sr_in 841 rfl rfl
set_option maxRecDepth 20000 in
theorem qkX5_141 : (.constantLong RX5 141 (1000000000) : Cond) ∈ sr_tbl := sr_in 842 rfl rfl
set_option maxRecDepth 20000 in
theorem qmL_92 : (.methodLink RL 92 yX5_begin : Cond) ∈ sr_tbl := sr_in 843 rfl rfl
set_option maxRecDepth 20000 in
theorem qiX5_begin : (.instanceMethod yX5_begin : Cond) ∈ sr_tbl := sr_in 844 rfl rfl
set_option maxRecDepth 20000 in
theorem qsX5_begin : (.selects RX5 yX5_begin yX5_begin : Cond) ∈ sr_tbl := sr_in 845 rfl rfl
set_option maxRecDepth 20000 in
theorem qcX5_begin : (.code yX5_begin cX5_begin 1 (some .int) : Cond) ∈ sr_tbl := sr_in 846 rfl rfl
set_option maxRecDepth 20000 in
theorem qmX5_158 : (.methodLink RX5 158 yX5_start : Cond) ∈ sr_tbl := sr_in 847 rfl rfl
set_option maxRecDepth 20000 in
theorem qiX5_start : (.instanceMethod yX5_start : Cond) ∈ sr_tbl := sr_in 849 rfl rfl
set_option maxRecDepth 20000 in
theorem qcX5_start : (.code yX5_start cX5_start 2 (none) : Cond) ∈ sr_tbl := sr_in 850 rfl rfl
set_option maxRecDepth 20000 in
theorem qmX5_155 : (.methodLink RX5 155 yX5_trap : Cond) ∈ sr_tbl := sr_in 851 rfl rfl
set_option maxRecDepth 20000 in
theorem qiX5_trap : (.instanceMethod yX5_trap : Cond) ∈ sr_tbl := sr_in 853 rfl rfl
set_option maxRecDepth 20000 in
theorem qcX5_trap : (.code yX5_trap cX5_trap 4 (none) : Cond) ∈ sr_tbl := sr_in 854 rfl rfl
set_option maxRecDepth 20000 in
theorem qmX5_143 : (.methodLink RX5 143 yX5_isFilled : Cond) ∈ sr_tbl := sr_in 855 rfl rfl
set_option maxRecDepth 20000 in
theorem qiX5_isFilled : (.instanceMethod yX5_isFilled : Cond) ∈ sr_tbl := sr_in 857 rfl rfl
set_option maxRecDepth 20000 in
theorem qcX5_isFilled : (.code yX5_isFilled cX5_isFilled 2 (some .boolean) : Cond) ∈ sr_tbl := sr_in 858 rfl rfl
set_option maxRecDepth 20000 in
theorem qmX5_146 : (.methodLink RX5 146 yX5_isFree : Cond) ∈ sr_tbl := sr_in 859 rfl rfl
set_option maxRecDepth 20000 in
theorem qiX5_isFree : (.instanceMethod yX5_isFree : Cond) ∈ sr_tbl := sr_in 861 rfl rfl
set_option maxRecDepth 20000 in
theorem qcX5_isFree : (.code yX5_isFree cX5_isFree 2 (some .boolean) : Cond) ∈ sr_tbl := sr_in 862 rfl rfl
set_option maxRecDepth 20000 in
theorem qmX5_161 : (.methodLink RX5 161 yX5_many : Cond) ∈ sr_tbl := sr_in 863 rfl rfl
set_option maxRecDepth 20000 in
theorem qiX5_many : (.instanceMethod yX5_many : Cond) ∈ sr_tbl := sr_in 864 rfl rfl
set_option maxRecDepth 20000 in
theorem qsX5_many : (.selects RX5 yX5_many yX5_many : Cond) ∈ sr_tbl := sr_in 865 rfl rfl
set_option maxRecDepth 20000 in
theorem qcX5_many : (.code yX5_many cX5_many 4 (some .int) : Cond) ∈ sr_tbl := sr_in 866 rfl rfl
set_option maxRecDepth 20000 in
theorem qmX5_188 : (.methodLink RX5 188 yX5_countPores : Cond) ∈ sr_tbl := sr_in 867 rfl rfl
set_option maxRecDepth 20000 in
theorem qiX5_countPores : (.instanceMethod yX5_countPores : Cond) ∈ sr_tbl := sr_in 869 rfl rfl
set_option maxRecDepth 20000 in
theorem qcX5_countPores : (.code yX5_countPores cX5_countPores 4 (some .int) : Cond) ∈ sr_tbl := sr_in 870 rfl rfl
set_option maxRecDepth 20000 in
theorem qmX5_191 : (.methodLink RX5 191 yX5_tellLakes : Cond) ∈ sr_tbl := sr_in 871 rfl rfl
set_option maxRecDepth 20000 in
theorem qiX5_tellLakes : (.instanceMethod yX5_tellLakes : Cond) ∈ sr_tbl := sr_in 873 rfl rfl
set_option maxRecDepth 20000 in
theorem qcX5_tellLakes : (.code yX5_tellLakes cX5_tellLakes 3 (none) : Cond) ∈ sr_tbl := sr_in 874 rfl rfl
set_option maxRecDepth 20000 in
theorem qmX5_182 : (.methodLink RX5 182 yX5_spreadLake : Cond) ∈ sr_tbl := sr_in 875 rfl rfl
set_option maxRecDepth 20000 in
theorem qiX5_spreadLake : (.instanceMethod yX5_spreadLake : Cond) ∈ sr_tbl := sr_in 877 rfl rfl
set_option maxRecDepth 20000 in
theorem qcX5_spreadLake : (.code yX5_spreadLake cX5_spreadLake 7 (none) : Cond) ∈ sr_tbl := sr_in 878 rfl rfl
set_option maxRecDepth 20000 in
theorem qmX5_164 : (.methodLink RX5 164 yX5_isCandidate : Cond) ∈ sr_tbl := sr_in 879 rfl rfl
set_option maxRecDepth 20000 in
theorem qiX5_isCandidate : (.instanceMethod yX5_isCandidate : Cond) ∈ sr_tbl := sr_in 881 rfl rfl
set_option maxRecDepth 20000 in
theorem qcX5_isCandidate : (.code yX5_isCandidate cX5_isCandidate 2 (some .boolean) : Cond) ∈ sr_tbl := sr_in 882 rfl rfl
set_option maxRecDepth 20000 in
theorem qmX5_149 : (.methodLink RX5 149 yX5_leads : Cond) ∈ sr_tbl := sr_in 883 rfl rfl
set_option maxRecDepth 20000 in
theorem qiX5_leads : (.instanceMethod yX5_leads : Cond) ∈ sr_tbl := sr_in 885 rfl rfl
set_option maxRecDepth 20000 in
theorem qcX5_leads : (.code yX5_leads cX5_leads 3 (some .boolean) : Cond) ∈ sr_tbl := sr_in 886 rfl rfl
set_option maxRecDepth 20000 in
theorem qmL_96 : (.methodLink RL 96 yX5_step : Cond) ∈ sr_tbl := sr_in 887 rfl rfl
set_option maxRecDepth 20000 in
theorem qiX5_step : (.instanceMethod yX5_step : Cond) ∈ sr_tbl := sr_in 888 rfl rfl
set_option maxRecDepth 20000 in
theorem qsX5_step : (.selects RX5 yX5_step yX5_step : Cond) ∈ sr_tbl := sr_in 889 rfl rfl
set_option maxRecDepth 20000 in
theorem qcX5_step : (.code yX5_step cX5_step 2 (some .int) : Cond) ∈ sr_tbl := sr_in 890 rfl rfl
set_option maxRecDepth 20000 in
theorem qmX5_171 : (.methodLink RX5 171 yX5_nextThroat : Cond) ∈ sr_tbl := sr_in 891 rfl rfl
set_option maxRecDepth 20000 in
theorem qiX5_nextThroat : (.instanceMethod yX5_nextThroat : Cond) ∈ sr_tbl := sr_in 893 rfl rfl
set_option maxRecDepth 20000 in
theorem qcX5_nextThroat : (.code yX5_nextThroat cX5_nextThroat 3 (some .int) : Cond) ∈ sr_tbl := sr_in 894 rfl rfl
set_option maxRecDepth 20000 in
theorem qmX5_167 : (.methodLink RX5 167 yX5_bestAt : Cond) ∈ sr_tbl := sr_in 895 rfl rfl
set_option maxRecDepth 20000 in
theorem qiX5_bestAt : (.instanceMethod yX5_bestAt : Cond) ∈ sr_tbl := sr_in 897 rfl rfl
set_option maxRecDepth 20000 in
theorem qcX5_bestAt : (.code yX5_bestAt cX5_bestAt 6 (some .int) : Cond) ∈ sr_tbl := sr_in 898 rfl rfl
set_option maxRecDepth 20000 in
theorem qmX5_175 : (.methodLink RX5 175 yX5_open : Cond) ∈ sr_tbl := sr_in 899 rfl rfl
set_option maxRecDepth 20000 in
theorem qiX5_open : (.instanceMethod yX5_open : Cond) ∈ sr_tbl := sr_in 901 rfl rfl
set_option maxRecDepth 20000 in
theorem qcX5_open : (.code yX5_open cX5_open 3 (none) : Cond) ∈ sr_tbl := sr_in 902 rfl rfl
set_option maxRecDepth 20000 in
theorem qmL_100 : (.methodLink RL 100 yX5_run : Cond) ∈ sr_tbl := sr_in 903 rfl rfl
set_option maxRecDepth 20000 in
theorem qiX5_run : (.instanceMethod yX5_run : Cond) ∈ sr_tbl := sr_in 904 rfl rfl
set_option maxRecDepth 20000 in
theorem qsX5_run : (.selects RX5 yX5_run yX5_run : Cond) ∈ sr_tbl := sr_in 905 rfl rfl
set_option maxRecDepth 20000 in
theorem qcX5_run : (.code yX5_run cX5_run 4 (some .int) : Cond) ∈ sr_tbl := sr_in 906 rfl rfl
set_option maxRecDepth 20000 in
theorem qmL_104 : (.methodLink RL 104 yX5_undo : Cond) ∈ sr_tbl := sr_in 907 rfl rfl
set_option maxRecDepth 20000 in
theorem qiX5_undo : (.instanceMethod yX5_undo : Cond) ∈ sr_tbl := sr_in 908 rfl rfl
set_option maxRecDepth 20000 in
theorem qsX5_undo : (.selects RX5 yX5_undo yX5_undo : Cond) ∈ sr_tbl := sr_in 909 rfl rfl
set_option maxRecDepth 20000 in
theorem qcX5_undo : (.code yX5_undo cX5_undo 3 (some .int) : Cond) ∈ sr_tbl := sr_in 910 rfl rfl
set_option maxRecDepth 20000 in
theorem qmL_108 : (.methodLink RL 108 yX5_many : Cond) ∈ sr_tbl := sr_in 911 rfl rfl
set_option maxRecDepth 20000 in
theorem qmL_112 : (.methodLink RL 112 yX5_opened : Cond) ∈ sr_tbl := sr_in 912 rfl rfl
set_option maxRecDepth 20000 in
theorem qiX5_opened : (.instanceMethod yX5_opened : Cond) ∈ sr_tbl := sr_in 913 rfl rfl
set_option maxRecDepth 20000 in
theorem qsX5_opened : (.selects RX5 yX5_opened yX5_opened : Cond) ∈ sr_tbl := sr_in 914 rfl rfl
set_option maxRecDepth 20000 in
theorem qcX5_opened : (.code yX5_opened cX5_opened 2 (some .int) : Cond) ∈ sr_tbl := sr_in 915 rfl rfl
set_option maxRecDepth 20000 in
theorem qmL_116 : (.methodLink RL 116 yX5_now : Cond) ∈ sr_tbl := sr_in 916 rfl rfl
set_option maxRecDepth 20000 in
theorem qiX5_now : (.instanceMethod yX5_now : Cond) ∈ sr_tbl := sr_in 917 rfl rfl
set_option maxRecDepth 20000 in
theorem qsX5_now : (.selects RX5 yX5_now yX5_now : Cond) ∈ sr_tbl := sr_in 918 rfl rfl
set_option maxRecDepth 20000 in
theorem qcX5_now : (.code yX5_now cX5_now 3 (some .int) : Cond) ∈ sr_tbl := sr_in 919 rfl rfl
set_option maxRecDepth 20000 in
theorem qmL_120 : (.methodLink RL 120 yX5_front : Cond) ∈ sr_tbl := sr_in 920 rfl rfl
set_option maxRecDepth 20000 in
theorem qiX5_front : (.instanceMethod yX5_front : Cond) ∈ sr_tbl := sr_in 921 rfl rfl
set_option maxRecDepth 20000 in
theorem qsX5_front : (.selects RX5 yX5_front yX5_front : Cond) ∈ sr_tbl := sr_in 922 rfl rfl
set_option maxRecDepth 20000 in
theorem qcX5_front : (.code yX5_front cX5_front 5 (some .int) : Cond) ∈ sr_tbl := sr_in 923 rfl rfl
set_option maxRecDepth 20000 in
theorem qmL_124 : (.methodLink RL 124 yX5_lake : Cond) ∈ sr_tbl := sr_in 924 rfl rfl
set_option maxRecDepth 20000 in
theorem qiX5_lake : (.instanceMethod yX5_lake : Cond) ∈ sr_tbl := sr_in 925 rfl rfl
set_option maxRecDepth 20000 in
theorem qsX5_lake : (.selects RX5 yX5_lake yX5_lake : Cond) ∈ sr_tbl := sr_in 926 rfl rfl
set_option maxRecDepth 20000 in
theorem qcX5_lake : (.code yX5_lake cX5_lake 7 (some .int) : Cond) ∈ sr_tbl := sr_in 927 rfl rfl
set_option maxRecDepth 20000 in
theorem qmL_128 : (.methodLink RL 128 yX5_through : Cond) ∈ sr_tbl := sr_in 928 rfl rfl
set_option maxRecDepth 20000 in
theorem qiX5_through : (.instanceMethod yX5_through : Cond) ∈ sr_tbl := sr_in 929 rfl rfl
set_option maxRecDepth 20000 in
theorem qsX5_through : (.selects RX5 yX5_through yX5_through : Cond) ∈ sr_tbl := sr_in 930 rfl rfl
set_option maxRecDepth 20000 in
theorem qcX5_through : (.code yX5_through cX5_through 3 (some .int) : Cond) ∈ sr_tbl := sr_in 931 rfl rfl
set_option maxRecDepth 20000 in
theorem qmL_132 : (.methodLink RL 132 yX5_worst : Cond) ∈ sr_tbl := sr_in 932 rfl rfl
set_option maxRecDepth 20000 in
theorem qiX5_worst : (.instanceMethod yX5_worst : Cond) ∈ sr_tbl := sr_in 933 rfl rfl
set_option maxRecDepth 20000 in
theorem qsX5_worst : (.selects RX5 yX5_worst yX5_worst : Cond) ∈ sr_tbl := sr_in 934 rfl rfl
set_option maxRecDepth 20000 in
theorem qcX5_worst : (.code yX5_worst cX5_worst 5 (some .int) : Cond) ∈ sr_tbl := sr_in 935 rfl rfl
set_option maxRecDepth 20000 in
theorem qmX5_194 : (.methodLink RX5 194 yX5_plainRun : Cond) ∈ sr_tbl := sr_in 936 rfl rfl
set_option maxRecDepth 20000 in
theorem qiX5_plainRun : (.instanceMethod yX5_plainRun : Cond) ∈ sr_tbl := sr_in 938 rfl rfl
set_option maxRecDepth 20000 in
theorem qcX5_plainRun : (.code yX5_plainRun cX5_plainRun 4 (none) : Cond) ∈ sr_tbl := sr_in 939 rfl rfl
set_option maxRecDepth 20000 in
theorem qmX5_197 : (.methodLink RX5 197 yX5_behind : Cond) ∈ sr_tbl := sr_in 940 rfl rfl
set_option maxRecDepth 20000 in
theorem qiX5_behind : (.instanceMethod yX5_behind : Cond) ∈ sr_tbl := sr_in 942 rfl rfl
set_option maxRecDepth 20000 in
theorem qcX5_behind : (.code yX5_behind cX5_behind 3 (some .int) : Cond) ∈ sr_tbl := sr_in 943 rfl rfl
set_option maxRecDepth 20000 in
theorem qmL_136 : (.methodLink RL 136 yX5_way : Cond) ∈ sr_tbl := sr_in 944 rfl rfl
set_option maxRecDepth 20000 in
theorem qiX5_way : (.instanceMethod yX5_way : Cond) ∈ sr_tbl := sr_in 945 rfl rfl
set_option maxRecDepth 20000 in
theorem qsX5_way : (.selects RX5 yX5_way yX5_way : Cond) ∈ sr_tbl := sr_in 946 rfl rfl
set_option maxRecDepth 20000 in
theorem qcX5_way : (.code yX5_way cX5_way 6 (some .int) : Cond) ∈ sr_tbl := sr_in 947 rfl rfl
set_option maxRecDepth 20000 in
theorem qmL_140 : (.methodLink RL 140 yX5_join : Cond) ∈ sr_tbl := sr_in 948 rfl rfl
set_option maxRecDepth 20000 in
theorem qiX5_join : (.instanceMethod yX5_join : Cond) ∈ sr_tbl := sr_in 949 rfl rfl
set_option maxRecDepth 20000 in
theorem qsX5_join : (.selects RX5 yX5_join yX5_join : Cond) ∈ sr_tbl := sr_in 950 rfl rfl
set_option maxRecDepth 20000 in
theorem qcX5_join : (.code yX5_join cX5_join 5 (some .int) : Cond) ∈ sr_tbl := sr_in 951 rfl rfl
set_option maxRecDepth 20000 in
theorem qmX5_200 : (.methodLink RX5 200 yX5_apart : Cond) ∈ sr_tbl := sr_in 952 rfl rfl
set_option maxRecDepth 20000 in
theorem qiX5_apart : (.instanceMethod yX5_apart : Cond) ∈ sr_tbl := sr_in 954 rfl rfl
set_option maxRecDepth 20000 in
theorem qcX5_apart : (.code yX5_apart cX5_apart 2 (none) : Cond) ∈ sr_tbl := sr_in 955 rfl rfl
set_option maxRecDepth 20000 in
theorem qmX5_203 : (.methodLink RX5 203 yX5_ranked : Cond) ∈ sr_tbl := sr_in 956 rfl rfl
set_option maxRecDepth 20000 in
theorem qmX5_206 : (.methodLink RX5 206 yX5_tie : Cond) ∈ sr_tbl := sr_in 957 rfl rfl
set_option maxRecDepth 20000 in
theorem qiX5_tie : (.instanceMethod yX5_tie : Cond) ∈ sr_tbl := sr_in 959 rfl rfl
set_option maxRecDepth 20000 in
theorem qcX5_tie : (.code yX5_tie cX5_tie 5 (some .boolean) : Cond) ∈ sr_tbl := sr_in 960 rfl rfl
set_option maxRecDepth 20000 in
theorem qmL_144 : (.methodLink RL 144 yX5_tree : Cond) ∈ sr_tbl := sr_in 961 rfl rfl
set_option maxRecDepth 20000 in
theorem qiX5_tree : (.instanceMethod yX5_tree : Cond) ∈ sr_tbl := sr_in 962 rfl rfl
set_option maxRecDepth 20000 in
theorem qsX5_tree : (.selects RX5 yX5_tree yX5_tree : Cond) ∈ sr_tbl := sr_in 963 rfl rfl
set_option maxRecDepth 20000 in
theorem qcX5_tree : (.code yX5_tree cX5_tree 5 (some .int) : Cond) ∈ sr_tbl := sr_in 964 rfl rfl
set_option maxRecDepth 20000 in
theorem qmL_148 : (.methodLink RL 148 yX5_claim : Cond) ∈ sr_tbl := sr_in 965 rfl rfl
set_option maxRecDepth 20000 in
theorem qiX5_claim : (.instanceMethod yX5_claim : Cond) ∈ sr_tbl := sr_in 966 rfl rfl
set_option maxRecDepth 20000 in
theorem qsX5_claim : (.selects RX5 yX5_claim yX5_claim : Cond) ∈ sr_tbl := sr_in 967 rfl rfl
set_option maxRecDepth 20000 in
theorem qcX5_claim : (.code yX5_claim cX5_claim 2 (some .int) : Cond) ∈ sr_tbl := sr_in 968 rfl rfl
set_option maxRecDepth 20000 in
theorem qmL_152 : (.methodLink RL 152 yX5_copy : Cond) ∈ sr_tbl := sr_in 969 rfl rfl
set_option maxRecDepth 20000 in
theorem qiX5_copy : (.instanceMethod yX5_copy : Cond) ∈ sr_tbl := sr_in 970 rfl rfl
set_option maxRecDepth 20000 in
theorem qsX5_copy : (.selects RX5 yX5_copy yX5_copy : Cond) ∈ sr_tbl := sr_in 971 rfl rfl
set_option maxRecDepth 20000 in
theorem qcX5_copy : (.code yX5_copy cX5_copy 2 (some .int) : Cond) ∈ sr_tbl := sr_in 972 rfl rfl
set_option maxRecDepth 20000 in
theorem qmL_156 : (.methodLink RL 156 yX5_alter : Cond) ∈ sr_tbl := sr_in 973 rfl rfl
set_option maxRecDepth 20000 in
theorem qiX5_alter : (.instanceMethod yX5_alter : Cond) ∈ sr_tbl := sr_in 974 rfl rfl
set_option maxRecDepth 20000 in
theorem qsX5_alter : (.selects RX5 yX5_alter yX5_alter : Cond) ∈ sr_tbl := sr_in 975 rfl rfl
set_option maxRecDepth 20000 in
theorem qcX5_alter : (.code yX5_alter cX5_alter 3 (some .int) : Cond) ∈ sr_tbl := sr_in 976 rfl rfl
set_option maxRecDepth 20000 in
theorem qmL_160 : (.methodLink RL 160 yX5_unclaim : Cond) ∈ sr_tbl := sr_in 977 rfl rfl
set_option maxRecDepth 20000 in
theorem qiX5_unclaim : (.instanceMethod yX5_unclaim : Cond) ∈ sr_tbl := sr_in 978 rfl rfl
set_option maxRecDepth 20000 in
theorem qsX5_unclaim : (.selects RX5 yX5_unclaim yX5_unclaim : Cond) ∈ sr_tbl := sr_in 979 rfl rfl
set_option maxRecDepth 20000 in
theorem qcX5_unclaim : (.code yX5_unclaim cX5_unclaim 2 (some .int) : Cond) ∈ sr_tbl := sr_in 980 rfl rfl
set_option maxRecDepth 20000 in
theorem qmL_164 : (.methodLink RL 164 yX5_check : Cond) ∈ sr_tbl := sr_in 981 rfl rfl
set_option maxRecDepth 20000 in
theorem qiX5_check : (.instanceMethod yX5_check : Cond) ∈ sr_tbl := sr_in 982 rfl rfl
set_option maxRecDepth 20000 in
theorem qsX5_check : (.selects RX5 yX5_check yX5_check : Cond) ∈ sr_tbl := sr_in 983 rfl rfl
set_option maxRecDepth 20000 in
theorem qcX5_check : (.code yX5_check cX5_check 4 (some .int) : Cond) ∈ sr_tbl := sr_in 984 rfl rfl
set_option maxRecDepth 20000 in
theorem qmX5_212 : (.methodLink RX5 212 yX5_keep : Cond) ∈ sr_tbl := sr_in 985 rfl rfl
set_option maxRecDepth 20000 in
theorem qiX5_keep : (.instanceMethod yX5_keep : Cond) ∈ sr_tbl := sr_in 987 rfl rfl
set_option maxRecDepth 20000 in
theorem qcX5_keep : (.code yX5_keep cX5_keep 3 (none) : Cond) ∈ sr_tbl := sr_in 988 rfl rfl
set_option maxRecDepth 20000 in
theorem qkL_58 : (.constantLong RL 58 (4294967295) : Cond) ∈ sr_tbl := sr_in 989 rfl rfl
set_option maxRecDepth 20000 in
theorem qzX0 : ∀ w ∈ u_ws RX0 TX0 5, w ∈ sr_tbl := by
  intro w hw
  have hg : goodWord w = true := List.all_eq_true.mp (show (u_ws RX0 TX0 5).all goodWord = true from by decide +kernel) w hw
  rw [show u_ws RX0 TX0 5 = [246, 248, 250, 252, 254].filterMap (fun i => lw_tbl[i]?) from by decide +kernel] at hw
  obtain ⟨i, -, hi⟩ := List.mem_filterMap.mp hw
  exact List.mem_filter.mpr ⟨List.mem_of_getElem? hi, hg⟩
set_option maxRecDepth 20000 in
theorem qzX1 : ∀ w ∈ u_ws RX1 TX1 16, w ∈ sr_tbl := by
  intro w hw
  have hg : goodWord w = true := List.all_eq_true.mp (show (u_ws RX1 TX1 16).all goodWord = true from by decide +kernel) w hw
  rw [show u_ws RX1 TX1 16 = [176, 178, 180, 182, 184, 186, 188, 190, 192, 194, 196, 198, 200, 202, 204, 206].filterMap (fun i => lw_tbl[i]?) from by decide +kernel] at hw
  obtain ⟨i, -, hi⟩ := List.mem_filterMap.mp hw
  exact List.mem_filter.mpr ⟨List.mem_of_getElem? hi, hg⟩
set_option maxRecDepth 20000 in
theorem qzX2 : ∀ w ∈ u_ws RX2 TX2 13, w ∈ sr_tbl := by
  intro w hw
  have hg : goodWord w = true := List.all_eq_true.mp (show (u_ws RX2 TX2 13).all goodWord = true from by decide +kernel) w hw
  rw [show u_ws RX2 TX2 13 = [111, 113, 115, 117, 119, 121, 123, 125, 127, 129, 131, 133, 135].filterMap (fun i => lw_tbl[i]?) from by decide +kernel] at hw
  obtain ⟨i, -, hi⟩ := List.mem_filterMap.mp hw
  exact List.mem_filter.mpr ⟨List.mem_of_getElem? hi, hg⟩
set_option maxRecDepth 20000 in
theorem qzX3 : ∀ w ∈ u_ws RX3 TX3 5, w ∈ sr_tbl := by
  intro w hw
  have hg : goodWord w = true := List.all_eq_true.mp (show (u_ws RX3 TX3 5).all goodWord = true from by decide +kernel) w hw
  rw [show u_ws RX3 TX3 5 = [222, 224, 226, 228, 230].filterMap (fun i => lw_tbl[i]?) from by decide +kernel] at hw
  obtain ⟨i, -, hi⟩ := List.mem_filterMap.mp hw
  exact List.mem_filter.mpr ⟨List.mem_of_getElem? hi, hg⟩
set_option maxRecDepth 20000 in
theorem qzX4 : ∀ w ∈ u_ws RX4 TX4 7, w ∈ sr_tbl := by
  intro w hw
  have hg : goodWord w = true := List.all_eq_true.mp (show (u_ws RX4 TX4 7).all goodWord = true from by decide +kernel) w hw
  rw [show u_ws RX4 TX4 7 = [266, 268, 270, 272, 274, 276, 278].filterMap (fun i => lw_tbl[i]?) from by decide +kernel] at hw
  obtain ⟨i, -, hi⟩ := List.mem_filterMap.mp hw
  exact List.mem_filter.mpr ⟨List.mem_of_getElem? hi, hg⟩
set_option maxRecDepth 20000 in
theorem qzX5 : ∀ w ∈ u_ws RX5 TX5 33, w ∈ sr_tbl := by
  intro w hw
  have hg : goodWord w = true := List.all_eq_true.mp (show (u_ws RX5 TX5 33).all goodWord = true from by decide +kernel) w hw
  rw [show u_ws RX5 TX5 33 = [677, 679, 681, 683, 685, 687, 689, 691, 693, 695, 697, 699, 701, 703, 705, 707, 709, 711, 713, 715, 717, 719, 721, 723, 725, 727, 729, 731, 733, 735, 737, 739, 741].filterMap (fun i => lw_tbl[i]?) from by decide +kernel] at hw
  obtain ⟨i, -, hi⟩ := List.mem_filterMap.mp hw
  exact List.mem_filter.mpr ⟨List.mem_of_getElem? hi, hg⟩
end
section
theorem dX0_init_0 : decode cX0_init 0 = .ok (.aload_n 0, 1) := by decide +kernel
theorem dX0_init_1 : decode cX0_init 1 = .ok (.invokespecial 3, 3) := by decide +kernel
theorem dX0_init_4 : decode cX0_init 4 = .ok (.aload_n 0, 1) := by decide +kernel
theorem dX0_init_5 : decode cX0_init 5 = .ok (.bipush 60, 2) := by decide +kernel
theorem dX0_init_7 : decode cX0_init 7 = .ok (.newarray .long, 2) := by decide +kernel
theorem dX0_init_9 : decode cX0_init 9 = .ok (.putfield 9, 3) := by decide +kernel
theorem dX0_init_12 : decode cX0_init 12 = .ok (.aload_n 0, 1) := by decide +kernel
theorem dX0_init_13 : decode cX0_init 13 = .ok (.bipush 60, 2) := by decide +kernel
theorem dX0_init_15 : decode cX0_init 15 = .ok (.newarray .byte, 2) := by decide +kernel
theorem dX0_init_17 : decode cX0_init 17 = .ok (.putfield 15, 3) := by decide +kernel
theorem dX0_init_20 : decode cX0_init 20 = .ok (.return_, 1) := by decide +kernel
theorem dX0_renew_0 : decode cX0_renew 0 = .ok (.aload_n 0, 1) := by decide +kernel
theorem dX0_renew_1 : decode cX0_renew 1 = .ok (.iconst 1, 1) := by decide +kernel
theorem dX0_renew_2 : decode cX0_renew 2 = .ok (.putfield 19, 3) := by decide +kernel
theorem dX0_renew_5 : decode cX0_renew 5 = .ok (.aload_n 0, 1) := by decide +kernel
theorem dX0_renew_6 : decode cX0_renew 6 = .ok (.iload_n 1, 1) := by decide +kernel
theorem dX0_renew_7 : decode cX0_renew 7 = .ok (.putfield 23, 3) := by decide +kernel
theorem dX0_renew_10 : decode cX0_renew 10 = .ok (.aload_n 0, 1) := by decide +kernel
theorem dX0_renew_11 : decode cX0_renew 11 = .ok (.iload_n 2, 1) := by decide +kernel
theorem dX0_renew_12 : decode cX0_renew 12 = .ok (.putfield 27, 3) := by decide +kernel
theorem dX0_renew_15 : decode cX0_renew 15 = .ok (.iconst 0, 1) := by decide +kernel
theorem dX0_renew_16 : decode cX0_renew 16 = .ok (.istore_n 3, 1) := by decide +kernel
theorem dX0_renew_17 : decode cX0_renew 17 = .ok (.iload_n 3, 1) := by decide +kernel
theorem dX0_renew_18 : decode cX0_renew 18 = .ok (.iload_n 2, 1) := by decide +kernel
theorem dX0_renew_19 : decode cX0_renew 19 = .ok (.if_icmp .ge 23, 3) := by decide +kernel
theorem dX0_renew_22 : decode cX0_renew 22 = .ok (.aload_n 0, 1) := by decide +kernel
theorem dX0_renew_23 : decode cX0_renew 23 = .ok (.getfield 9, 3) := by decide +kernel
theorem dX0_renew_26 : decode cX0_renew 26 = .ok (.iload_n 3, 1) := by decide +kernel
theorem dX0_renew_27 : decode cX0_renew 27 = .ok (.lconst 0, 1) := by decide +kernel
theorem dX0_renew_28 : decode cX0_renew 28 = .ok (.lastore, 1) := by decide +kernel
theorem dX0_renew_29 : decode cX0_renew 29 = .ok (.aload_n 0, 1) := by decide +kernel
theorem dX0_renew_30 : decode cX0_renew 30 = .ok (.getfield 15, 3) := by decide +kernel
theorem dX0_renew_33 : decode cX0_renew 33 = .ok (.iload_n 3, 1) := by decide +kernel
theorem dX0_renew_34 : decode cX0_renew 34 = .ok (.iconst 0, 1) := by decide +kernel
theorem dX0_renew_35 : decode cX0_renew 35 = .ok (.bastore, 1) := by decide +kernel
theorem dX0_renew_36 : decode cX0_renew 36 = .ok (.iinc 3 1, 3) := by decide +kernel
theorem dX0_renew_39 : decode cX0_renew 39 = .ok (.goto (-22), 3) := by decide +kernel
theorem dX0_renew_42 : decode cX0_renew 42 = .ok (.return_, 1) := by decide +kernel
theorem dX0_hasNumber_0 : decode cX0_hasNumber 0 = .ok (.iload_n 1, 1) := by decide +kernel
theorem dX0_hasNumber_1 : decode cX0_hasNumber 1 = .ok (.ifCond .lt 15, 3) := by decide +kernel
theorem dX0_hasNumber_4 : decode cX0_hasNumber 4 = .ok (.iload_n 1, 1) := by decide +kernel
theorem dX0_hasNumber_5 : decode cX0_hasNumber 5 = .ok (.aload_n 0, 1) := by decide +kernel
theorem dX0_hasNumber_6 : decode cX0_hasNumber 6 = .ok (.getfield 27, 3) := by decide +kernel
theorem dX0_hasNumber_9 : decode cX0_hasNumber 9 = .ok (.if_icmp .ge 7, 3) := by decide +kernel
theorem dX0_hasNumber_12 : decode cX0_hasNumber 12 = .ok (.iconst 1, 1) := by decide +kernel
theorem dX0_hasNumber_13 : decode cX0_hasNumber 13 = .ok (.goto 4, 3) := by decide +kernel
theorem dX0_hasNumber_16 : decode cX0_hasNumber 16 = .ok (.iconst 0, 1) := by decide +kernel
theorem dX0_hasNumber_17 : decode cX0_hasNumber 17 = .ok (.ireturn, 1) := by decide +kernel
theorem dX0_isNoNumber_0 : decode cX0_isNoNumber 0 = .ok (.aload_n 0, 1) := by decide +kernel
theorem dX0_isNoNumber_1 : decode cX0_isNoNumber 1 = .ok (.getfield 15, 3) := by decide +kernel
theorem dX0_isNoNumber_4 : decode cX0_isNoNumber 4 = .ok (.iload_n 1, 1) := by decide +kernel
theorem dX0_isNoNumber_5 : decode cX0_isNoNumber 5 = .ok (.baload, 1) := by decide +kernel
theorem dX0_isNoNumber_6 : decode cX0_isNoNumber 6 = .ok (.ifCond .eq 7, 3) := by decide +kernel
theorem dX0_isNoNumber_9 : decode cX0_isNoNumber 9 = .ok (.iconst 1, 1) := by decide +kernel
theorem dX0_isNoNumber_10 : decode cX0_isNoNumber 10 = .ok (.goto 4, 3) := by decide +kernel
theorem dX0_isNoNumber_13 : decode cX0_isNoNumber 13 = .ok (.iconst 0, 1) := by decide +kernel
theorem dX0_isNoNumber_14 : decode cX0_isNoNumber 14 = .ok (.ireturn, 1) := by decide +kernel
theorem dX0_spans_0 : decode cX0_spans 0 = .ok (.iload_n 2, 1) := by decide +kernel
theorem dX0_spans_1 : decode cX0_spans 1 = .ok (.ifCond .lt 29, 3) := by decide +kernel
theorem dX0_spans_4 : decode cX0_spans 4 = .ok (.iload_n 1, 1) := by decide +kernel
theorem dX0_spans_5 : decode cX0_spans 5 = .ok (.ifCond .lt 25, 3) := by decide +kernel
theorem dX0_spans_8 : decode cX0_spans 8 = .ok (.iload_n 1, 1) := by decide +kernel
theorem dX0_spans_9 : decode cX0_spans 9 = .ok (.aload_n 0, 1) := by decide +kernel
theorem dX0_spans_10 : decode cX0_spans 10 = .ok (.getfield 27, 3) := by decide +kernel
theorem dX0_spans_13 : decode cX0_spans 13 = .ok (.if_icmp .gt 17, 3) := by decide +kernel
theorem dX0_spans_16 : decode cX0_spans 16 = .ok (.iload_n 2, 1) := by decide +kernel
theorem dX0_spans_17 : decode cX0_spans 17 = .ok (.aload_n 0, 1) := by decide +kernel
theorem dX0_spans_18 : decode cX0_spans 18 = .ok (.getfield 27, 3) := by decide +kernel
theorem dX0_spans_21 : decode cX0_spans 21 = .ok (.iload_n 1, 1) := by decide +kernel
theorem dX0_spans_22 : decode cX0_spans 22 = .ok (.isub, 1) := by decide +kernel
theorem dX0_spans_23 : decode cX0_spans 23 = .ok (.if_icmp .gt 7, 3) := by decide +kernel
theorem dX0_spans_26 : decode cX0_spans 26 = .ok (.iconst 1, 1) := by decide +kernel
theorem dX0_spans_27 : decode cX0_spans 27 = .ok (.goto 4, 3) := by decide +kernel
theorem dX0_spans_30 : decode cX0_spans 30 = .ok (.iconst 0, 1) := by decide +kernel
theorem dX0_spans_31 : decode cX0_spans 31 = .ok (.ireturn, 1) := by decide +kernel
theorem dX0_put_0 : decode cX0_put 0 = .ok (.aload_n 0, 1) := by decide +kernel
theorem dX0_put_1 : decode cX0_put 1 = .ok (.getfield 9, 3) := by decide +kernel
theorem dX0_put_4 : decode cX0_put 4 = .ok (.iload_n 1, 1) := by decide +kernel
theorem dX0_put_5 : decode cX0_put 5 = .ok (.aload_n 0, 1) := by decide +kernel
theorem dX0_put_6 : decode cX0_put 6 = .ok (.lload_n 2, 1) := by decide +kernel
theorem dX0_put_7 : decode cX0_put 7 = .ok (.iconst 1, 1) := by decide +kernel
theorem dX0_put_8 : decode cX0_put 8 = .ok (.iload 4, 2) := by decide +kernel
theorem dX0_put_10 : decode cX0_put 10 = .ok (.ishl, 1) := by decide +kernel
theorem dX0_put_11 : decode cX0_put 11 = .ok (.invokevirtual 30, 3) := by decide +kernel
theorem dX0_put_14 : decode cX0_put 14 = .ok (.lastore, 1) := by decide +kernel
theorem dX0_put_15 : decode cX0_put 15 = .ok (.aload_n 0, 1) := by decide +kernel
theorem dX0_put_16 : decode cX0_put 16 = .ok (.getfield 15, 3) := by decide +kernel
theorem dX0_put_19 : decode cX0_put 19 = .ok (.iload_n 1, 1) := by decide +kernel
theorem dX0_put_20 : decode cX0_put 20 = .ok (.iconst 0, 1) := by decide +kernel
theorem dX0_put_21 : decode cX0_put 21 = .ok (.bastore, 1) := by decide +kernel
theorem dX0_put_22 : decode cX0_put 22 = .ok (.return_, 1) := by decide +kernel
theorem dX0_putWild_0 : decode cX0_putWild 0 = .ok (.aload_n 0, 1) := by decide +kernel
theorem dX0_putWild_1 : decode cX0_putWild 1 = .ok (.getfield 15, 3) := by decide +kernel
theorem dX0_putWild_4 : decode cX0_putWild 4 = .ok (.iload_n 1, 1) := by decide +kernel
theorem dX0_putWild_5 : decode cX0_putWild 5 = .ok (.iload_n 2, 1) := by decide +kernel
theorem dX0_putWild_6 : decode cX0_putWild 6 = .ok (.ifCond .ne 7, 3) := by decide +kernel
theorem dX0_putWild_9 : decode cX0_putWild 9 = .ok (.iconst 1, 1) := by decide +kernel
theorem dX0_putWild_10 : decode cX0_putWild 10 = .ok (.goto 4, 3) := by decide +kernel
theorem dX0_putWild_13 : decode cX0_putWild 13 = .ok (.iconst 0, 1) := by decide +kernel
theorem dX0_putWild_14 : decode cX0_putWild 14 = .ok (.i2b, 1) := by decide +kernel
theorem dX0_putWild_15 : decode cX0_putWild 15 = .ok (.bastore, 1) := by decide +kernel
theorem dX0_putWild_16 : decode cX0_putWild 16 = .ok (.aload_n 0, 1) := by decide +kernel
theorem dX0_putWild_17 : decode cX0_putWild 17 = .ok (.getfield 9, 3) := by decide +kernel
theorem dX0_putWild_20 : decode cX0_putWild 20 = .ok (.iload_n 1, 1) := by decide +kernel
theorem dX0_putWild_21 : decode cX0_putWild 21 = .ok (.iload_n 2, 1) := by decide +kernel
theorem dX0_putWild_22 : decode cX0_putWild 22 = .ok (.iconst 1, 1) := by decide +kernel
theorem dX0_putWild_23 : decode cX0_putWild 23 = .ok (.if_icmp .ne 9, 3) := by decide +kernel
theorem dX0_putWild_26 : decode cX0_putWild 26 = .ok (.ldc2_w 34, 3) := by decide +kernel
theorem dX0_putWild_29 : decode cX0_putWild 29 = .ok (.goto 15, 3) := by decide +kernel
theorem dX0_putWild_32 : decode cX0_putWild 32 = .ok (.iload_n 2, 1) := by decide +kernel
theorem dX0_putWild_33 : decode cX0_putWild 33 = .ok (.iconst 2, 1) := by decide +kernel
theorem dX0_putWild_34 : decode cX0_putWild 34 = .ok (.if_icmp .ne 9, 3) := by decide +kernel
theorem dX0_putWild_37 : decode cX0_putWild 37 = .ok (.ldc2_w 36, 3) := by decide +kernel
theorem dX0_putWild_40 : decode cX0_putWild 40 = .ok (.goto 4, 3) := by decide +kernel
theorem dX0_putWild_43 : decode cX0_putWild 43 = .ok (.lconst 0, 1) := by decide +kernel
theorem dX0_putWild_44 : decode cX0_putWild 44 = .ok (.lastore, 1) := by decide +kernel
theorem dX0_putWild_45 : decode cX0_putWild 45 = .ok (.return_, 1) := by decide +kernel
theorem dX0_putFrom_0 : decode cX0_putFrom 0 = .ok (.aload_n 2, 1) := by decide +kernel
theorem dX0_putFrom_1 : decode cX0_putFrom 1 = .ok (.getfield 9, 3) := by decide +kernel
theorem dX0_putFrom_4 : decode cX0_putFrom 4 = .ok (.iload_n 3, 1) := by decide +kernel
theorem dX0_putFrom_5 : decode cX0_putFrom 5 = .ok (.aload_n 0, 1) := by decide +kernel
theorem dX0_putFrom_6 : decode cX0_putFrom 6 = .ok (.getfield 9, 3) := by decide +kernel
theorem dX0_putFrom_9 : decode cX0_putFrom 9 = .ok (.iload_n 1, 1) := by decide +kernel
theorem dX0_putFrom_10 : decode cX0_putFrom 10 = .ok (.iload 4, 2) := by decide +kernel
theorem dX0_putFrom_12 : decode cX0_putFrom 12 = .ok (.invokestatic 38, 3) := by decide +kernel
theorem dX0_putFrom_15 : decode cX0_putFrom 15 = .ok (.aload_n 2, 1) := by decide +kernel
theorem dX0_putFrom_16 : decode cX0_putFrom 16 = .ok (.getfield 15, 3) := by decide +kernel
theorem dX0_putFrom_19 : decode cX0_putFrom 19 = .ok (.iload_n 3, 1) := by decide +kernel
theorem dX0_putFrom_20 : decode cX0_putFrom 20 = .ok (.aload_n 0, 1) := by decide +kernel
theorem dX0_putFrom_21 : decode cX0_putFrom 21 = .ok (.getfield 15, 3) := by decide +kernel
theorem dX0_putFrom_24 : decode cX0_putFrom 24 = .ok (.iload_n 1, 1) := by decide +kernel
theorem dX0_putFrom_25 : decode cX0_putFrom 25 = .ok (.iload 4, 2) := by decide +kernel
theorem dX0_putFrom_27 : decode cX0_putFrom 27 = .ok (.invokestatic 38, 3) := by decide +kernel
theorem dX0_putFrom_30 : decode cX0_putFrom 30 = .ok (.return_, 1) := by decide +kernel
theorem dX0_wholeOf_0 : decode cX0_wholeOf 0 = .ok (.aload_n 0, 1) := by decide +kernel
theorem dX0_wholeOf_1 : decode cX0_wholeOf 1 = .ok (.getfield 23, 3) := by decide +kernel
theorem dX0_wholeOf_4 : decode cX0_wholeOf 4 = .ok (.tableswitch 68 0 5 #[40, 45, 50, 68, 54, 61], 40) := by decide +kernel
theorem dX0_wholeOf_44 : decode cX0_wholeOf 44 = .ok (.lload_n 1, 1) := by decide +kernel
theorem dX0_wholeOf_45 : decode cX0_wholeOf 45 = .ok (.l2i, 1) := by decide +kernel
theorem dX0_wholeOf_46 : decode cX0_wholeOf 46 = .ok (.i2b, 1) := by decide +kernel
theorem dX0_wholeOf_47 : decode cX0_wholeOf 47 = .ok (.i2l, 1) := by decide +kernel
theorem dX0_wholeOf_48 : decode cX0_wholeOf 48 = .ok (.lreturn, 1) := by decide +kernel
theorem dX0_wholeOf_49 : decode cX0_wholeOf 49 = .ok (.lload_n 1, 1) := by decide +kernel
theorem dX0_wholeOf_50 : decode cX0_wholeOf 50 = .ok (.l2i, 1) := by decide +kernel
theorem dX0_wholeOf_51 : decode cX0_wholeOf 51 = .ok (.i2s, 1) := by decide +kernel
theorem dX0_wholeOf_52 : decode cX0_wholeOf 52 = .ok (.i2l, 1) := by decide +kernel
theorem dX0_wholeOf_53 : decode cX0_wholeOf 53 = .ok (.lreturn, 1) := by decide +kernel
theorem dX0_wholeOf_54 : decode cX0_wholeOf 54 = .ok (.lload_n 1, 1) := by decide +kernel
theorem dX0_wholeOf_55 : decode cX0_wholeOf 55 = .ok (.l2i, 1) := by decide +kernel
theorem dX0_wholeOf_56 : decode cX0_wholeOf 56 = .ok (.i2l, 1) := by decide +kernel
theorem dX0_wholeOf_57 : decode cX0_wholeOf 57 = .ok (.lreturn, 1) := by decide +kernel
theorem dX0_wholeOf_58 : decode cX0_wholeOf 58 = .ok (.lload_n 1, 1) := by decide +kernel
theorem dX0_wholeOf_59 : decode cX0_wholeOf 59 = .ok (.l2f, 1) := by decide +kernel
theorem dX0_wholeOf_60 : decode cX0_wholeOf 60 = .ok (.iload_n 3, 1) := by decide +kernel
theorem dX0_wholeOf_61 : decode cX0_wholeOf 61 = .ok (.i2f, 1) := by decide +kernel
theorem dX0_wholeOf_62 : decode cX0_wholeOf 62 = .ok (.fdiv, 1) := by decide +kernel
theorem dX0_wholeOf_63 : decode cX0_wholeOf 63 = .ok (.f2l, 1) := by decide +kernel
theorem dX0_wholeOf_64 : decode cX0_wholeOf 64 = .ok (.lreturn, 1) := by decide +kernel
theorem dX0_wholeOf_65 : decode cX0_wholeOf 65 = .ok (.lload_n 1, 1) := by decide +kernel
theorem dX0_wholeOf_66 : decode cX0_wholeOf 66 = .ok (.l2d, 1) := by decide +kernel
theorem dX0_wholeOf_67 : decode cX0_wholeOf 67 = .ok (.iload_n 3, 1) := by decide +kernel
theorem dX0_wholeOf_68 : decode cX0_wholeOf 68 = .ok (.i2d, 1) := by decide +kernel
theorem dX0_wholeOf_69 : decode cX0_wholeOf 69 = .ok (.ddiv, 1) := by decide +kernel
theorem dX0_wholeOf_70 : decode cX0_wholeOf 70 = .ok (.d2l, 1) := by decide +kernel
theorem dX0_wholeOf_71 : decode cX0_wholeOf 71 = .ok (.lreturn, 1) := by decide +kernel
theorem dX0_wholeOf_72 : decode cX0_wholeOf 72 = .ok (.lload_n 1, 1) := by decide +kernel
theorem dX0_wholeOf_73 : decode cX0_wholeOf 73 = .ok (.lreturn, 1) := by decide +kernel
theorem dX1_init_0 : decode cX1_init 0 = .ok (.aload_n 0, 1) := by decide +kernel
theorem dX1_init_1 : decode cX1_init 1 = .ok (.invokespecial 3, 3) := by decide +kernel
theorem dX1_init_4 : decode cX1_init 4 = .ok (.aload_n 0, 1) := by decide +kernel
theorem dX1_init_5 : decode cX1_init 5 = .ok (.bipush 121, 2) := by decide +kernel
theorem dX1_init_7 : decode cX1_init 7 = .ok (.newarray .int, 2) := by decide +kernel
theorem dX1_init_9 : decode cX1_init 9 = .ok (.putfield 9, 3) := by decide +kernel
theorem dX1_init_12 : decode cX1_init 12 = .ok (.aload_n 0, 1) := by decide +kernel
theorem dX1_init_13 : decode cX1_init 13 = .ok (.bipush 121, 2) := by decide +kernel
theorem dX1_init_15 : decode cX1_init 15 = .ok (.newarray .int, 2) := by decide +kernel
theorem dX1_init_17 : decode cX1_init 17 = .ok (.putfield 15, 3) := by decide +kernel
theorem dX1_init_20 : decode cX1_init 20 = .ok (.aload_n 0, 1) := by decide +kernel
theorem dX1_init_21 : decode cX1_init 21 = .ok (.bipush 120, 2) := by decide +kernel
theorem dX1_init_23 : decode cX1_init 23 = .ok (.newarray .int, 2) := by decide +kernel
theorem dX1_init_25 : decode cX1_init 25 = .ok (.putfield 18, 3) := by decide +kernel
theorem dX1_init_28 : decode cX1_init 28 = .ok (.aload_n 0, 1) := by decide +kernel
theorem dX1_init_29 : decode cX1_init 29 = .ok (.bipush 120, 2) := by decide +kernel
theorem dX1_init_31 : decode cX1_init 31 = .ok (.newarray .int, 2) := by decide +kernel
theorem dX1_init_33 : decode cX1_init 33 = .ok (.putfield 21, 3) := by decide +kernel
theorem dX1_init_36 : decode cX1_init 36 = .ok (.aload_n 0, 1) := by decide +kernel
theorem dX1_init_37 : decode cX1_init 37 = .ok (.bipush 120, 2) := by decide +kernel
theorem dX1_init_39 : decode cX1_init 39 = .ok (.newarray .int, 2) := by decide +kernel
theorem dX1_init_41 : decode cX1_init 41 = .ok (.putfield 24, 3) := by decide +kernel
theorem dX1_init_44 : decode cX1_init 44 = .ok (.aload_n 0, 1) := by decide +kernel
theorem dX1_init_45 : decode cX1_init 45 = .ok (.bipush 120, 2) := by decide +kernel
theorem dX1_init_47 : decode cX1_init 47 = .ok (.newarray .int, 2) := by decide +kernel
theorem dX1_init_49 : decode cX1_init 49 = .ok (.putfield 27, 3) := by decide +kernel
theorem dX1_init_52 : decode cX1_init 52 = .ok (.aload_n 0, 1) := by decide +kernel
theorem dX1_init_53 : decode cX1_init 53 = .ok (.bipush 120, 2) := by decide +kernel
theorem dX1_init_55 : decode cX1_init 55 = .ok (.newarray .int, 2) := by decide +kernel
theorem dX1_init_57 : decode cX1_init 57 = .ok (.putfield 30, 3) := by decide +kernel
theorem dX1_init_60 : decode cX1_init 60 = .ok (.aload_n 0, 1) := by decide +kernel
theorem dX1_init_61 : decode cX1_init 61 = .ok (.bipush 120, 2) := by decide +kernel
theorem dX1_init_63 : decode cX1_init 63 = .ok (.newarray .int, 2) := by decide +kernel
theorem dX1_init_65 : decode cX1_init 65 = .ok (.putfield 33, 3) := by decide +kernel
theorem dX1_init_68 : decode cX1_init 68 = .ok (.aload_n 0, 1) := by decide +kernel
theorem dX1_init_69 : decode cX1_init 69 = .ok (.bipush 120, 2) := by decide +kernel
theorem dX1_init_71 : decode cX1_init 71 = .ok (.newarray .int, 2) := by decide +kernel
theorem dX1_init_73 : decode cX1_init 73 = .ok (.putfield 36, 3) := by decide +kernel
theorem dX1_init_76 : decode cX1_init 76 = .ok (.aload_n 0, 1) := by decide +kernel
theorem dX1_init_77 : decode cX1_init 77 = .ok (.bipush 120, 2) := by decide +kernel
theorem dX1_init_79 : decode cX1_init 79 = .ok (.newarray .int, 2) := by decide +kernel
theorem dX1_init_81 : decode cX1_init 81 = .ok (.putfield 39, 3) := by decide +kernel
theorem dX1_init_84 : decode cX1_init 84 = .ok (.aload_n 0, 1) := by decide +kernel
theorem dX1_init_85 : decode cX1_init 85 = .ok (.bipush 120, 2) := by decide +kernel
theorem dX1_init_87 : decode cX1_init 87 = .ok (.newarray .int, 2) := by decide +kernel
theorem dX1_init_89 : decode cX1_init 89 = .ok (.putfield 42, 3) := by decide +kernel
theorem dX1_init_92 : decode cX1_init 92 = .ok (.aload_n 0, 1) := by decide +kernel
theorem dX1_init_93 : decode cX1_init 93 = .ok (.bipush 120, 2) := by decide +kernel
theorem dX1_init_95 : decode cX1_init 95 = .ok (.newarray .boolean, 2) := by decide +kernel
theorem dX1_init_97 : decode cX1_init 97 = .ok (.putfield 45, 3) := by decide +kernel
theorem dX1_init_100 : decode cX1_init 100 = .ok (.aload_n 0, 1) := by decide +kernel
theorem dX1_init_101 : decode cX1_init 101 = .ok (.aload_n 1, 1) := by decide +kernel
theorem dX1_init_102 : decode cX1_init 102 = .ok (.putfield 49, 3) := by decide +kernel
theorem dX1_init_105 : decode cX1_init 105 = .ok (.return_, 1) := by decide +kernel
theorem dX1_start_0 : decode cX1_start 0 = .ok (.aload_n 0, 1) := by decide +kernel
theorem dX1_start_1 : decode cX1_start 1 = .ok (.iconst 1, 1) := by decide +kernel
theorem dX1_start_2 : decode cX1_start 2 = .ok (.putfield 53, 3) := by decide +kernel
theorem dX1_start_5 : decode cX1_start 5 = .ok (.aload_n 0, 1) := by decide +kernel
theorem dX1_start_6 : decode cX1_start 6 = .ok (.iconst 0, 1) := by decide +kernel
theorem dX1_start_7 : decode cX1_start 7 = .ok (.putfield 57, 3) := by decide +kernel
theorem dX1_start_10 : decode cX1_start 10 = .ok (.aload_n 0, 1) := by decide +kernel
theorem dX1_start_11 : decode cX1_start 11 = .ok (.iconst 0, 1) := by decide +kernel
theorem dX1_start_12 : decode cX1_start 12 = .ok (.putfield 61, 3) := by decide +kernel
theorem dX1_start_15 : decode cX1_start 15 = .ok (.iconst 0, 1) := by decide +kernel
theorem dX1_start_16 : decode cX1_start 16 = .ok (.istore_n 1, 1) := by decide +kernel
theorem dX1_start_17 : decode cX1_start 17 = .ok (.iload_n 1, 1) := by decide +kernel
theorem dX1_start_18 : decode cX1_start 18 = .ok (.aload_n 0, 1) := by decide +kernel
theorem dX1_start_19 : decode cX1_start 19 = .ok (.getfield 49, 3) := by decide +kernel
theorem dX1_start_22 : decode cX1_start 22 = .ok (.getfield 64, 3) := by decide +kernel
theorem dX1_start_25 : decode cX1_start 25 = .ok (.if_icmp .ge 53, 3) := by decide +kernel
theorem dX1_start_28 : decode cX1_start 28 = .ok (.aload_n 0, 1) := by decide +kernel
theorem dX1_start_29 : decode cX1_start 29 = .ok (.getfield 18, 3) := by decide +kernel
theorem dX1_start_32 : decode cX1_start 32 = .ok (.iload_n 1, 1) := by decide +kernel
theorem dX1_start_33 : decode cX1_start 33 = .ok (.aload_n 0, 1) := by decide +kernel
theorem dX1_start_34 : decode cX1_start 34 = .ok (.getfield 49, 3) := by decide +kernel
theorem dX1_start_37 : decode cX1_start 37 = .ok (.getfield 69, 3) := by decide +kernel
theorem dX1_start_40 : decode cX1_start 40 = .ok (.iload_n 1, 1) := by decide +kernel
theorem dX1_start_41 : decode cX1_start 41 = .ok (.baload, 1) := by decide +kernel
theorem dX1_start_42 : decode cX1_start 42 = .ok (.ifCond .eq 7, 3) := by decide +kernel
theorem dX1_start_45 : decode cX1_start 45 = .ok (.iconst 0, 1) := by decide +kernel
theorem dX1_start_46 : decode cX1_start 46 = .ok (.goto 4, 3) := by decide +kernel
theorem dX1_start_49 : decode cX1_start 49 = .ok (.iconst (-1), 1) := by decide +kernel
theorem dX1_start_50 : decode cX1_start 50 = .ok (.iastore, 1) := by decide +kernel
theorem dX1_start_51 : decode cX1_start 51 = .ok (.aload_n 0, 1) := by decide +kernel
theorem dX1_start_52 : decode cX1_start 52 = .ok (.getfield 21, 3) := by decide +kernel
theorem dX1_start_55 : decode cX1_start 55 = .ok (.iload_n 1, 1) := by decide +kernel
theorem dX1_start_56 : decode cX1_start 56 = .ok (.iconst (-1), 1) := by decide +kernel
theorem dX1_start_57 : decode cX1_start 57 = .ok (.iastore, 1) := by decide +kernel
theorem dX1_start_58 : decode cX1_start 58 = .ok (.aload_n 0, 1) := by decide +kernel
theorem dX1_start_59 : decode cX1_start 59 = .ok (.getfield 24, 3) := by decide +kernel
theorem dX1_start_62 : decode cX1_start 62 = .ok (.iload_n 1, 1) := by decide +kernel
theorem dX1_start_63 : decode cX1_start 63 = .ok (.iconst (-1), 1) := by decide +kernel
theorem dX1_start_64 : decode cX1_start 64 = .ok (.iastore, 1) := by decide +kernel
theorem dX1_start_65 : decode cX1_start 65 = .ok (.aload_n 0, 1) := by decide +kernel
theorem dX1_start_66 : decode cX1_start 66 = .ok (.getfield 27, 3) := by decide +kernel
theorem dX1_start_69 : decode cX1_start 69 = .ok (.iload_n 1, 1) := by decide +kernel
theorem dX1_start_70 : decode cX1_start 70 = .ok (.iconst (-1), 1) := by decide +kernel
theorem dX1_start_71 : decode cX1_start 71 = .ok (.iastore, 1) := by decide +kernel
theorem dX1_start_72 : decode cX1_start 72 = .ok (.iinc 1 1, 3) := by decide +kernel
theorem dX1_start_75 : decode cX1_start 75 = .ok (.goto (-58), 3) := by decide +kernel
theorem dX1_start_78 : decode cX1_start 78 = .ok (.aload_n 0, 1) := by decide +kernel
theorem dX1_start_79 : decode cX1_start 79 = .ok (.invokevirtual 72, 3) := by decide +kernel
theorem dX1_start_82 : decode cX1_start 82 = .ok (.return_, 1) := by decide +kernel
theorem dX1_advance_0 : decode cX1_advance 0 = .ok (.aload_n 0, 1) := by decide +kernel
theorem dX1_advance_1 : decode cX1_advance 1 = .ok (.invokevirtual 75, 3) := by decide +kernel
theorem dX1_advance_4 : decode cX1_advance 4 = .ok (.istore_n 1, 1) := by decide +kernel
theorem dX1_advance_5 : decode cX1_advance 5 = .ok (.iload_n 1, 1) := by decide +kernel
theorem dX1_advance_6 : decode cX1_advance 6 = .ok (.ifCond .ge 5, 3) := by decide +kernel
theorem dX1_advance_9 : decode cX1_advance 9 = .ok (.iconst (-1), 1) := by decide +kernel
theorem dX1_advance_10 : decode cX1_advance 10 = .ok (.ireturn, 1) := by decide +kernel
theorem dX1_advance_11 : decode cX1_advance 11 = .ok (.aload_n 0, 1) := by decide +kernel
theorem dX1_advance_12 : decode cX1_advance 12 = .ok (.getfield 49, 3) := by decide +kernel
theorem dX1_advance_15 : decode cX1_advance 15 = .ok (.getfield 79, 3) := by decide +kernel
theorem dX1_advance_18 : decode cX1_advance 18 = .ok (.iload_n 1, 1) := by decide +kernel
theorem dX1_advance_19 : decode cX1_advance 19 = .ok (.iaload, 1) := by decide +kernel
theorem dX1_advance_20 : decode cX1_advance 20 = .ok (.istore_n 2, 1) := by decide +kernel
theorem dX1_advance_21 : decode cX1_advance 21 = .ok (.aload_n 0, 1) := by decide +kernel
theorem dX1_advance_22 : decode cX1_advance 22 = .ok (.getfield 18, 3) := by decide +kernel
theorem dX1_advance_25 : decode cX1_advance 25 = .ok (.iload_n 2, 1) := by decide +kernel
theorem dX1_advance_26 : decode cX1_advance 26 = .ok (.iaload, 1) := by decide +kernel
theorem dX1_advance_27 : decode cX1_advance 27 = .ok (.ifCond .lt 13, 3) := by decide +kernel
theorem dX1_advance_30 : decode cX1_advance 30 = .ok (.aload_n 0, 1) := by decide +kernel
theorem dX1_advance_31 : decode cX1_advance 31 = .ok (.getfield 49, 3) := by decide +kernel
theorem dX1_advance_34 : decode cX1_advance 34 = .ok (.getfield 82, 3) := by decide +kernel
theorem dX1_advance_37 : decode cX1_advance 37 = .ok (.iload_n 1, 1) := by decide +kernel
theorem dX1_advance_38 : decode cX1_advance 38 = .ok (.iaload, 1) := by decide +kernel
theorem dX1_advance_39 : decode cX1_advance 39 = .ok (.istore_n 2, 1) := by decide +kernel
theorem dX1_advance_40 : decode cX1_advance 40 = .ok (.aload_n 0, 1) := by decide +kernel
theorem dX1_advance_41 : decode cX1_advance 41 = .ok (.dup, 1) := by decide +kernel
theorem dX1_advance_42 : decode cX1_advance 42 = .ok (.getfield 57, 3) := by decide +kernel
theorem dX1_advance_45 : decode cX1_advance 45 = .ok (.iconst 1, 1) := by decide +kernel
theorem dX1_advance_46 : decode cX1_advance 46 = .ok (.iadd, 1) := by decide +kernel
theorem dX1_advance_47 : decode cX1_advance 47 = .ok (.putfield 57, 3) := by decide +kernel
theorem dX1_advance_50 : decode cX1_advance 50 = .ok (.aload_n 0, 1) := by decide +kernel
theorem dX1_advance_51 : decode cX1_advance 51 = .ok (.getfield 9, 3) := by decide +kernel
theorem dX1_advance_54 : decode cX1_advance 54 = .ok (.aload_n 0, 1) := by decide +kernel
theorem dX1_advance_55 : decode cX1_advance 55 = .ok (.getfield 57, 3) := by decide +kernel
theorem dX1_advance_58 : decode cX1_advance 58 = .ok (.iload_n 1, 1) := by decide +kernel
theorem dX1_advance_59 : decode cX1_advance 59 = .ok (.iastore, 1) := by decide +kernel
theorem dX1_advance_60 : decode cX1_advance 60 = .ok (.aload_n 0, 1) := by decide +kernel
theorem dX1_advance_61 : decode cX1_advance 61 = .ok (.getfield 15, 3) := by decide +kernel
theorem dX1_advance_64 : decode cX1_advance 64 = .ok (.aload_n 0, 1) := by decide +kernel
theorem dX1_advance_65 : decode cX1_advance 65 = .ok (.getfield 57, 3) := by decide +kernel
theorem dX1_advance_68 : decode cX1_advance 68 = .ok (.iload_n 2, 1) := by decide +kernel
theorem dX1_advance_69 : decode cX1_advance 69 = .ok (.iastore, 1) := by decide +kernel
theorem dX1_advance_70 : decode cX1_advance 70 = .ok (.aload_n 0, 1) := by decide +kernel
theorem dX1_advance_71 : decode cX1_advance 71 = .ok (.getfield 18, 3) := by decide +kernel
theorem dX1_advance_74 : decode cX1_advance 74 = .ok (.iload_n 2, 1) := by decide +kernel
theorem dX1_advance_75 : decode cX1_advance 75 = .ok (.aload_n 0, 1) := by decide +kernel
theorem dX1_advance_76 : decode cX1_advance 76 = .ok (.getfield 57, 3) := by decide +kernel
theorem dX1_advance_79 : decode cX1_advance 79 = .ok (.iastore, 1) := by decide +kernel
theorem dX1_advance_80 : decode cX1_advance 80 = .ok (.aload_n 0, 1) := by decide +kernel
theorem dX1_advance_81 : decode cX1_advance 81 = .ok (.getfield 21, 3) := by decide +kernel
theorem dX1_advance_84 : decode cX1_advance 84 = .ok (.iload_n 2, 1) := by decide +kernel
theorem dX1_advance_85 : decode cX1_advance 85 = .ok (.iload_n 1, 1) := by decide +kernel
theorem dX1_advance_86 : decode cX1_advance 86 = .ok (.iastore, 1) := by decide +kernel
theorem dX1_advance_87 : decode cX1_advance 87 = .ok (.aload_n 0, 1) := by decide +kernel
theorem dX1_advance_88 : decode cX1_advance 88 = .ok (.invokevirtual 72, 3) := by decide +kernel
theorem dX1_advance_91 : decode cX1_advance 91 = .ok (.iload_n 1, 1) := by decide +kernel
theorem dX1_advance_92 : decode cX1_advance 92 = .ok (.ireturn, 1) := by decide +kernel
theorem dX1_takeBackTo_0 : decode cX1_takeBackTo 0 = .ok (.aload_n 0, 1) := by decide +kernel
theorem dX1_takeBackTo_1 : decode cX1_takeBackTo 1 = .ok (.iload_n 1, 1) := by decide +kernel
theorem dX1_takeBackTo_2 : decode cX1_takeBackTo 2 = .ok (.putfield 57, 3) := by decide +kernel
theorem dX1_takeBackTo_5 : decode cX1_takeBackTo 5 = .ok (.iconst 0, 1) := by decide +kernel
theorem dX1_takeBackTo_6 : decode cX1_takeBackTo 6 = .ok (.istore_n 2, 1) := by decide +kernel
theorem dX1_takeBackTo_7 : decode cX1_takeBackTo 7 = .ok (.iload_n 2, 1) := by decide +kernel
theorem dX1_takeBackTo_8 : decode cX1_takeBackTo 8 = .ok (.aload_n 0, 1) := by decide +kernel
theorem dX1_takeBackTo_9 : decode cX1_takeBackTo 9 = .ok (.getfield 49, 3) := by decide +kernel
theorem dX1_takeBackTo_12 : decode cX1_takeBackTo 12 = .ok (.getfield 64, 3) := by decide +kernel
theorem dX1_takeBackTo_15 : decode cX1_takeBackTo 15 = .ok (.if_icmp .ge 57, 3) := by decide +kernel
theorem dX1_takeBackTo_18 : decode cX1_takeBackTo 18 = .ok (.aload_n 0, 1) := by decide +kernel
theorem dX1_takeBackTo_19 : decode cX1_takeBackTo 19 = .ok (.getfield 18, 3) := by decide +kernel
theorem dX1_takeBackTo_22 : decode cX1_takeBackTo 22 = .ok (.iload_n 2, 1) := by decide +kernel
theorem dX1_takeBackTo_23 : decode cX1_takeBackTo 23 = .ok (.iaload, 1) := by decide +kernel
theorem dX1_takeBackTo_24 : decode cX1_takeBackTo 24 = .ok (.iload_n 1, 1) := by decide +kernel
theorem dX1_takeBackTo_25 : decode cX1_takeBackTo 25 = .ok (.if_icmp .le 17, 3) := by decide +kernel
theorem dX1_takeBackTo_28 : decode cX1_takeBackTo 28 = .ok (.aload_n 0, 1) := by decide +kernel
theorem dX1_takeBackTo_29 : decode cX1_takeBackTo 29 = .ok (.getfield 18, 3) := by decide +kernel
theorem dX1_takeBackTo_32 : decode cX1_takeBackTo 32 = .ok (.iload_n 2, 1) := by decide +kernel
theorem dX1_takeBackTo_33 : decode cX1_takeBackTo 33 = .ok (.iconst (-1), 1) := by decide +kernel
theorem dX1_takeBackTo_34 : decode cX1_takeBackTo 34 = .ok (.iastore, 1) := by decide +kernel
theorem dX1_takeBackTo_35 : decode cX1_takeBackTo 35 = .ok (.aload_n 0, 1) := by decide +kernel
theorem dX1_takeBackTo_36 : decode cX1_takeBackTo 36 = .ok (.getfield 21, 3) := by decide +kernel
theorem dX1_takeBackTo_39 : decode cX1_takeBackTo 39 = .ok (.iload_n 2, 1) := by decide +kernel
theorem dX1_takeBackTo_40 : decode cX1_takeBackTo 40 = .ok (.iconst (-1), 1) := by decide +kernel
theorem dX1_takeBackTo_41 : decode cX1_takeBackTo 41 = .ok (.iastore, 1) := by decide +kernel
theorem dX1_takeBackTo_42 : decode cX1_takeBackTo 42 = .ok (.aload_n 0, 1) := by decide +kernel
theorem dX1_takeBackTo_43 : decode cX1_takeBackTo 43 = .ok (.getfield 24, 3) := by decide +kernel
theorem dX1_takeBackTo_46 : decode cX1_takeBackTo 46 = .ok (.iload_n 2, 1) := by decide +kernel
theorem dX1_takeBackTo_47 : decode cX1_takeBackTo 47 = .ok (.iaload, 1) := by decide +kernel
theorem dX1_takeBackTo_48 : decode cX1_takeBackTo 48 = .ok (.iload_n 1, 1) := by decide +kernel
theorem dX1_takeBackTo_49 : decode cX1_takeBackTo 49 = .ok (.if_icmp .le 17, 3) := by decide +kernel
theorem dX1_takeBackTo_52 : decode cX1_takeBackTo 52 = .ok (.aload_n 0, 1) := by decide +kernel
theorem dX1_takeBackTo_53 : decode cX1_takeBackTo 53 = .ok (.getfield 24, 3) := by decide +kernel
theorem dX1_takeBackTo_56 : decode cX1_takeBackTo 56 = .ok (.iload_n 2, 1) := by decide +kernel
theorem dX1_takeBackTo_57 : decode cX1_takeBackTo 57 = .ok (.iconst (-1), 1) := by decide +kernel
theorem dX1_takeBackTo_58 : decode cX1_takeBackTo 58 = .ok (.iastore, 1) := by decide +kernel
theorem dX1_takeBackTo_59 : decode cX1_takeBackTo 59 = .ok (.aload_n 0, 1) := by decide +kernel
theorem dX1_takeBackTo_60 : decode cX1_takeBackTo 60 = .ok (.getfield 27, 3) := by decide +kernel
theorem dX1_takeBackTo_63 : decode cX1_takeBackTo 63 = .ok (.iload_n 2, 1) := by decide +kernel
theorem dX1_takeBackTo_64 : decode cX1_takeBackTo 64 = .ok (.iconst (-1), 1) := by decide +kernel
theorem dX1_takeBackTo_65 : decode cX1_takeBackTo 65 = .ok (.iastore, 1) := by decide +kernel
theorem dX1_takeBackTo_66 : decode cX1_takeBackTo 66 = .ok (.iinc 2 1, 3) := by decide +kernel
theorem dX1_takeBackTo_69 : decode cX1_takeBackTo 69 = .ok (.goto (-62), 3) := by decide +kernel
theorem dX1_takeBackTo_72 : decode cX1_takeBackTo 72 = .ok (.aload_n 0, 1) := by decide +kernel
theorem dX1_takeBackTo_73 : decode cX1_takeBackTo 73 = .ok (.getfield 61, 3) := by decide +kernel
theorem dX1_takeBackTo_76 : decode cX1_takeBackTo 76 = .ok (.ifCond .le 31, 3) := by decide +kernel
theorem dX1_takeBackTo_79 : decode cX1_takeBackTo 79 = .ok (.aload_n 0, 1) := by decide +kernel
theorem dX1_takeBackTo_80 : decode cX1_takeBackTo 80 = .ok (.getfield 30, 3) := by decide +kernel
theorem dX1_takeBackTo_83 : decode cX1_takeBackTo 83 = .ok (.aload_n 0, 1) := by decide +kernel
theorem dX1_takeBackTo_84 : decode cX1_takeBackTo 84 = .ok (.getfield 61, 3) := by decide +kernel
theorem dX1_takeBackTo_87 : decode cX1_takeBackTo 87 = .ok (.iconst 1, 1) := by decide +kernel
theorem dX1_takeBackTo_88 : decode cX1_takeBackTo 88 = .ok (.isub, 1) := by decide +kernel
theorem dX1_takeBackTo_89 : decode cX1_takeBackTo 89 = .ok (.iaload, 1) := by decide +kernel
theorem dX1_takeBackTo_90 : decode cX1_takeBackTo 90 = .ok (.iload_n 1, 1) := by decide +kernel
theorem dX1_takeBackTo_91 : decode cX1_takeBackTo 91 = .ok (.if_icmp .le 16, 3) := by decide +kernel
theorem dX1_takeBackTo_94 : decode cX1_takeBackTo 94 = .ok (.aload_n 0, 1) := by decide +kernel
theorem dX1_takeBackTo_95 : decode cX1_takeBackTo 95 = .ok (.dup, 1) := by decide +kernel
theorem dX1_takeBackTo_96 : decode cX1_takeBackTo 96 = .ok (.getfield 61, 3) := by decide +kernel
theorem dX1_takeBackTo_99 : decode cX1_takeBackTo 99 = .ok (.iconst 1, 1) := by decide +kernel
theorem dX1_takeBackTo_100 : decode cX1_takeBackTo 100 = .ok (.isub, 1) := by decide +kernel
theorem dX1_takeBackTo_101 : decode cX1_takeBackTo 101 = .ok (.putfield 61, 3) := by decide +kernel
theorem dX1_takeBackTo_104 : decode cX1_takeBackTo 104 = .ok (.goto (-32), 3) := by decide +kernel
theorem dX1_takeBackTo_107 : decode cX1_takeBackTo 107 = .ok (.return_, 1) := by decide +kernel
theorem dX1_candidate_0 : decode cX1_candidate 0 = .ok (.iconst 0, 1) := by decide +kernel
theorem dX1_candidate_1 : decode cX1_candidate 1 = .ok (.istore_n 2, 1) := by decide +kernel
theorem dX1_candidate_2 : decode cX1_candidate 2 = .ok (.iconst 0, 1) := by decide +kernel
theorem dX1_candidate_3 : decode cX1_candidate 3 = .ok (.istore_n 3, 1) := by decide +kernel
theorem dX1_candidate_4 : decode cX1_candidate 4 = .ok (.iload_n 3, 1) := by decide +kernel
theorem dX1_candidate_5 : decode cX1_candidate 5 = .ok (.aload_n 0, 1) := by decide +kernel
theorem dX1_candidate_6 : decode cX1_candidate 6 = .ok (.getfield 49, 3) := by decide +kernel
theorem dX1_candidate_9 : decode cX1_candidate 9 = .ok (.getfield 85, 3) := by decide +kernel
theorem dX1_candidate_12 : decode cX1_candidate 12 = .ok (.if_icmp .ge 43, 3) := by decide +kernel
theorem dX1_candidate_15 : decode cX1_candidate 15 = .ok (.aload_n 0, 1) := by decide +kernel
theorem dX1_candidate_16 : decode cX1_candidate 16 = .ok (.aload_n 0, 1) := by decide +kernel
theorem dX1_candidate_17 : decode cX1_candidate 17 = .ok (.getfield 49, 3) := by decide +kernel
theorem dX1_candidate_20 : decode cX1_candidate 20 = .ok (.getfield 88, 3) := by decide +kernel
theorem dX1_candidate_23 : decode cX1_candidate 23 = .ok (.iload_n 3, 1) := by decide +kernel
theorem dX1_candidate_24 : decode cX1_candidate 24 = .ok (.iaload, 1) := by decide +kernel
theorem dX1_candidate_25 : decode cX1_candidate 25 = .ok (.invokevirtual 91, 3) := by decide +kernel
theorem dX1_candidate_28 : decode cX1_candidate 28 = .ok (.ifCond .eq 21, 3) := by decide +kernel
theorem dX1_candidate_31 : decode cX1_candidate 31 = .ok (.iload_n 2, 1) := by decide +kernel
theorem dX1_candidate_32 : decode cX1_candidate 32 = .ok (.iload_n 1, 1) := by decide +kernel
theorem dX1_candidate_33 : decode cX1_candidate 33 = .ok (.if_icmp .ne 13, 3) := by decide +kernel
theorem dX1_candidate_36 : decode cX1_candidate 36 = .ok (.aload_n 0, 1) := by decide +kernel
theorem dX1_candidate_37 : decode cX1_candidate 37 = .ok (.getfield 49, 3) := by decide +kernel
theorem dX1_candidate_40 : decode cX1_candidate 40 = .ok (.getfield 88, 3) := by decide +kernel
theorem dX1_candidate_43 : decode cX1_candidate 43 = .ok (.iload_n 3, 1) := by decide +kernel
theorem dX1_candidate_44 : decode cX1_candidate 44 = .ok (.iaload, 1) := by decide +kernel
theorem dX1_candidate_45 : decode cX1_candidate 45 = .ok (.ireturn, 1) := by decide +kernel
theorem dX1_candidate_46 : decode cX1_candidate 46 = .ok (.iinc 2 1, 3) := by decide +kernel
theorem dX1_candidate_49 : decode cX1_candidate 49 = .ok (.iinc 3 1, 3) := by decide +kernel
theorem dX1_candidate_52 : decode cX1_candidate 52 = .ok (.goto (-48), 3) := by decide +kernel
theorem dX1_candidate_55 : decode cX1_candidate 55 = .ok (.iconst (-1), 1) := by decide +kernel
theorem dX1_candidate_56 : decode cX1_candidate 56 = .ok (.ireturn, 1) := by decide +kernel
theorem dX1_countCandidates_0 : decode cX1_countCandidates 0 = .ok (.iconst 0, 1) := by decide +kernel
theorem dX1_countCandidates_1 : decode cX1_countCandidates 1 = .ok (.istore_n 1, 1) := by decide +kernel
theorem dX1_countCandidates_2 : decode cX1_countCandidates 2 = .ok (.iconst 0, 1) := by decide +kernel
theorem dX1_countCandidates_3 : decode cX1_countCandidates 3 = .ok (.istore_n 2, 1) := by decide +kernel
theorem dX1_countCandidates_4 : decode cX1_countCandidates 4 = .ok (.iload_n 2, 1) := by decide +kernel
theorem dX1_countCandidates_5 : decode cX1_countCandidates 5 = .ok (.aload_n 0, 1) := by decide +kernel
theorem dX1_countCandidates_6 : decode cX1_countCandidates 6 = .ok (.getfield 49, 3) := by decide +kernel
theorem dX1_countCandidates_9 : decode cX1_countCandidates 9 = .ok (.getfield 85, 3) := by decide +kernel
theorem dX1_countCandidates_12 : decode cX1_countCandidates 12 = .ok (.if_icmp .ge 33, 3) := by decide +kernel
theorem dX1_countCandidates_15 : decode cX1_countCandidates 15 = .ok (.iload_n 1, 1) := by decide +kernel
theorem dX1_countCandidates_16 : decode cX1_countCandidates 16 = .ok (.aload_n 0, 1) := by decide +kernel
theorem dX1_countCandidates_17 : decode cX1_countCandidates 17 = .ok (.aload_n 0, 1) := by decide +kernel
theorem dX1_countCandidates_18 : decode cX1_countCandidates 18 = .ok (.getfield 49, 3) := by decide +kernel
theorem dX1_countCandidates_21 : decode cX1_countCandidates 21 = .ok (.getfield 88, 3) := by decide +kernel
theorem dX1_countCandidates_24 : decode cX1_countCandidates 24 = .ok (.iload_n 2, 1) := by decide +kernel
theorem dX1_countCandidates_25 : decode cX1_countCandidates 25 = .ok (.iaload, 1) := by decide +kernel
theorem dX1_countCandidates_26 : decode cX1_countCandidates 26 = .ok (.invokevirtual 91, 3) := by decide +kernel
theorem dX1_countCandidates_29 : decode cX1_countCandidates 29 = .ok (.ifCond .eq 7, 3) := by decide +kernel
theorem dX1_countCandidates_32 : decode cX1_countCandidates 32 = .ok (.iconst 1, 1) := by decide +kernel
theorem dX1_countCandidates_33 : decode cX1_countCandidates 33 = .ok (.goto 4, 3) := by decide +kernel
theorem dX1_countCandidates_36 : decode cX1_countCandidates 36 = .ok (.iconst 0, 1) := by decide +kernel
theorem dX1_countCandidates_37 : decode cX1_countCandidates 37 = .ok (.iadd, 1) := by decide +kernel
theorem dX1_countCandidates_38 : decode cX1_countCandidates 38 = .ok (.istore_n 1, 1) := by decide +kernel
theorem dX1_countCandidates_39 : decode cX1_countCandidates 39 = .ok (.iinc 2 1, 3) := by decide +kernel
theorem dX1_countCandidates_42 : decode cX1_countCandidates 42 = .ok (.goto (-38), 3) := by decide +kernel
theorem dX1_countCandidates_45 : decode cX1_countCandidates 45 = .ok (.iload_n 1, 1) := by decide +kernel
theorem dX1_countCandidates_46 : decode cX1_countCandidates 46 = .ok (.ireturn, 1) := by decide +kernel
theorem dX1_countFilled_0 : decode cX1_countFilled 0 = .ok (.iconst 0, 1) := by decide +kernel
theorem dX1_countFilled_1 : decode cX1_countFilled 1 = .ok (.istore_n 1, 1) := by decide +kernel
theorem dX1_countFilled_2 : decode cX1_countFilled 2 = .ok (.iconst 0, 1) := by decide +kernel
theorem dX1_countFilled_3 : decode cX1_countFilled 3 = .ok (.istore_n 2, 1) := by decide +kernel
theorem dX1_countFilled_4 : decode cX1_countFilled 4 = .ok (.iload_n 2, 1) := by decide +kernel
theorem dX1_countFilled_5 : decode cX1_countFilled 5 = .ok (.aload_n 0, 1) := by decide +kernel
theorem dX1_countFilled_6 : decode cX1_countFilled 6 = .ok (.getfield 49, 3) := by decide +kernel
theorem dX1_countFilled_9 : decode cX1_countFilled 9 = .ok (.getfield 64, 3) := by decide +kernel
theorem dX1_countFilled_12 : decode cX1_countFilled 12 = .ok (.if_icmp .ge 26, 3) := by decide +kernel
theorem dX1_countFilled_15 : decode cX1_countFilled 15 = .ok (.iload_n 1, 1) := by decide +kernel
theorem dX1_countFilled_16 : decode cX1_countFilled 16 = .ok (.aload_n 0, 1) := by decide +kernel
theorem dX1_countFilled_17 : decode cX1_countFilled 17 = .ok (.getfield 18, 3) := by decide +kernel
theorem dX1_countFilled_20 : decode cX1_countFilled 20 = .ok (.iload_n 2, 1) := by decide +kernel
theorem dX1_countFilled_21 : decode cX1_countFilled 21 = .ok (.iaload, 1) := by decide +kernel
theorem dX1_countFilled_22 : decode cX1_countFilled 22 = .ok (.ifCond .lt 7, 3) := by decide +kernel
theorem dX1_countFilled_25 : decode cX1_countFilled 25 = .ok (.iconst 1, 1) := by decide +kernel
theorem dX1_countFilled_26 : decode cX1_countFilled 26 = .ok (.goto 4, 3) := by decide +kernel
theorem dX1_countFilled_29 : decode cX1_countFilled 29 = .ok (.iconst 0, 1) := by decide +kernel
theorem dX1_countFilled_30 : decode cX1_countFilled 30 = .ok (.iadd, 1) := by decide +kernel
theorem dX1_countFilled_31 : decode cX1_countFilled 31 = .ok (.istore_n 1, 1) := by decide +kernel
theorem dX1_countFilled_32 : decode cX1_countFilled 32 = .ok (.iinc 2 1, 3) := by decide +kernel
theorem dX1_countFilled_35 : decode cX1_countFilled 35 = .ok (.goto (-31), 3) := by decide +kernel
theorem dX1_countFilled_38 : decode cX1_countFilled 38 = .ok (.iload_n 1, 1) := by decide +kernel
theorem dX1_countFilled_39 : decode cX1_countFilled 39 = .ok (.ireturn, 1) := by decide +kernel
theorem dX1_countCut_0 : decode cX1_countCut 0 = .ok (.iconst 0, 1) := by decide +kernel
theorem dX1_countCut_1 : decode cX1_countCut 1 = .ok (.istore_n 1, 1) := by decide +kernel
theorem dX1_countCut_2 : decode cX1_countCut 2 = .ok (.iconst 0, 1) := by decide +kernel
theorem dX1_countCut_3 : decode cX1_countCut 3 = .ok (.istore_n 2, 1) := by decide +kernel
theorem dX1_countCut_4 : decode cX1_countCut 4 = .ok (.iload_n 2, 1) := by decide +kernel
theorem dX1_countCut_5 : decode cX1_countCut 5 = .ok (.aload_n 0, 1) := by decide +kernel
theorem dX1_countCut_6 : decode cX1_countCut 6 = .ok (.getfield 49, 3) := by decide +kernel
theorem dX1_countCut_9 : decode cX1_countCut 9 = .ok (.getfield 64, 3) := by decide +kernel
theorem dX1_countCut_12 : decode cX1_countCut 12 = .ok (.if_icmp .ge 26, 3) := by decide +kernel
theorem dX1_countCut_15 : decode cX1_countCut 15 = .ok (.iload_n 1, 1) := by decide +kernel
theorem dX1_countCut_16 : decode cX1_countCut 16 = .ok (.aload_n 0, 1) := by decide +kernel
theorem dX1_countCut_17 : decode cX1_countCut 17 = .ok (.getfield 24, 3) := by decide +kernel
theorem dX1_countCut_20 : decode cX1_countCut 20 = .ok (.iload_n 2, 1) := by decide +kernel
theorem dX1_countCut_21 : decode cX1_countCut 21 = .ok (.iaload, 1) := by decide +kernel
theorem dX1_countCut_22 : decode cX1_countCut 22 = .ok (.ifCond .lt 7, 3) := by decide +kernel
theorem dX1_countCut_25 : decode cX1_countCut 25 = .ok (.iconst 1, 1) := by decide +kernel
theorem dX1_countCut_26 : decode cX1_countCut 26 = .ok (.goto 4, 3) := by decide +kernel
theorem dX1_countCut_29 : decode cX1_countCut 29 = .ok (.iconst 0, 1) := by decide +kernel
theorem dX1_countCut_30 : decode cX1_countCut 30 = .ok (.iadd, 1) := by decide +kernel
theorem dX1_countCut_31 : decode cX1_countCut 31 = .ok (.istore_n 1, 1) := by decide +kernel
theorem dX1_countCut_32 : decode cX1_countCut 32 = .ok (.iinc 2 1, 3) := by decide +kernel
theorem dX1_countCut_35 : decode cX1_countCut 35 = .ok (.goto (-31), 3) := by decide +kernel
theorem dX1_countCut_38 : decode cX1_countCut 38 = .ok (.iload_n 1, 1) := by decide +kernel
theorem dX1_countCut_39 : decode cX1_countCut 39 = .ok (.ireturn, 1) := by decide +kernel
theorem dX1_firstOutletStep_0 : decode cX1_firstOutletStep 0 = .ok (.iconst (-1), 1) := by decide +kernel
theorem dX1_firstOutletStep_1 : decode cX1_firstOutletStep 1 = .ok (.istore_n 1, 1) := by decide +kernel
theorem dX1_firstOutletStep_2 : decode cX1_firstOutletStep 2 = .ok (.iconst 0, 1) := by decide +kernel
theorem dX1_firstOutletStep_3 : decode cX1_firstOutletStep 3 = .ok (.istore_n 2, 1) := by decide +kernel
theorem dX1_firstOutletStep_4 : decode cX1_firstOutletStep 4 = .ok (.iload_n 2, 1) := by decide +kernel
theorem dX1_firstOutletStep_5 : decode cX1_firstOutletStep 5 = .ok (.aload_n 0, 1) := by decide +kernel
theorem dX1_firstOutletStep_6 : decode cX1_firstOutletStep 6 = .ok (.getfield 49, 3) := by decide +kernel
theorem dX1_firstOutletStep_9 : decode cX1_firstOutletStep 9 = .ok (.getfield 64, 3) := by decide +kernel
theorem dX1_firstOutletStep_12 : decode cX1_firstOutletStep 12 = .ok (.if_icmp .ge 62, 3) := by decide +kernel
theorem dX1_firstOutletStep_15 : decode cX1_firstOutletStep 15 = .ok (.aload_n 0, 1) := by decide +kernel
theorem dX1_firstOutletStep_16 : decode cX1_firstOutletStep 16 = .ok (.getfield 49, 3) := by decide +kernel
theorem dX1_firstOutletStep_19 : decode cX1_firstOutletStep 19 = .ok (.getfield 95, 3) := by decide +kernel
theorem dX1_firstOutletStep_22 : decode cX1_firstOutletStep 22 = .ok (.iload_n 2, 1) := by decide +kernel
theorem dX1_firstOutletStep_23 : decode cX1_firstOutletStep 23 = .ok (.iaload, 1) := by decide +kernel
theorem dX1_firstOutletStep_24 : decode cX1_firstOutletStep 24 = .ok (.iconst 4, 1) := by decide +kernel
theorem dX1_firstOutletStep_25 : decode cX1_firstOutletStep 25 = .ok (.if_icmp .ne 16, 3) := by decide +kernel
theorem dX1_firstOutletStep_28 : decode cX1_firstOutletStep 28 = .ok (.aload_n 0, 1) := by decide +kernel
theorem dX1_firstOutletStep_29 : decode cX1_firstOutletStep 29 = .ok (.getfield 18, 3) := by decide +kernel
theorem dX1_firstOutletStep_32 : decode cX1_firstOutletStep 32 = .ok (.iload_n 2, 1) := by decide +kernel
theorem dX1_firstOutletStep_33 : decode cX1_firstOutletStep 33 = .ok (.iaload, 1) := by decide +kernel
theorem dX1_firstOutletStep_34 : decode cX1_firstOutletStep 34 = .ok (.ifCond .lt 7, 3) := by decide +kernel
theorem dX1_firstOutletStep_37 : decode cX1_firstOutletStep 37 = .ok (.iconst 1, 1) := by decide +kernel
theorem dX1_firstOutletStep_38 : decode cX1_firstOutletStep 38 = .ok (.goto 4, 3) := by decide +kernel
theorem dX1_firstOutletStep_41 : decode cX1_firstOutletStep 41 = .ok (.iconst 0, 1) := by decide +kernel
theorem dX1_firstOutletStep_42 : decode cX1_firstOutletStep 42 = .ok (.istore_n 3, 1) := by decide +kernel
theorem dX1_firstOutletStep_43 : decode cX1_firstOutletStep 43 = .ok (.iload_n 3, 1) := by decide +kernel
theorem dX1_firstOutletStep_44 : decode cX1_firstOutletStep 44 = .ok (.ifCond .eq 24, 3) := by decide +kernel
theorem dX1_firstOutletStep_47 : decode cX1_firstOutletStep 47 = .ok (.iload_n 1, 1) := by decide +kernel
theorem dX1_firstOutletStep_48 : decode cX1_firstOutletStep 48 = .ok (.ifCond .lt 13, 3) := by decide +kernel
theorem dX1_firstOutletStep_51 : decode cX1_firstOutletStep 51 = .ok (.aload_n 0, 1) := by decide +kernel
theorem dX1_firstOutletStep_52 : decode cX1_firstOutletStep 52 = .ok (.getfield 18, 3) := by decide +kernel
theorem dX1_firstOutletStep_55 : decode cX1_firstOutletStep 55 = .ok (.iload_n 2, 1) := by decide +kernel
theorem dX1_firstOutletStep_56 : decode cX1_firstOutletStep 56 = .ok (.iaload, 1) := by decide +kernel
theorem dX1_firstOutletStep_57 : decode cX1_firstOutletStep 57 = .ok (.iload_n 1, 1) := by decide +kernel
theorem dX1_firstOutletStep_58 : decode cX1_firstOutletStep 58 = .ok (.if_icmp .ge 10, 3) := by decide +kernel
theorem dX1_firstOutletStep_61 : decode cX1_firstOutletStep 61 = .ok (.aload_n 0, 1) := by decide +kernel
theorem dX1_firstOutletStep_62 : decode cX1_firstOutletStep 62 = .ok (.getfield 18, 3) := by decide +kernel
theorem dX1_firstOutletStep_65 : decode cX1_firstOutletStep 65 = .ok (.iload_n 2, 1) := by decide +kernel
theorem dX1_firstOutletStep_66 : decode cX1_firstOutletStep 66 = .ok (.iaload, 1) := by decide +kernel
theorem dX1_firstOutletStep_67 : decode cX1_firstOutletStep 67 = .ok (.istore_n 1, 1) := by decide +kernel
theorem dX1_firstOutletStep_68 : decode cX1_firstOutletStep 68 = .ok (.iinc 2 1, 3) := by decide +kernel
theorem dX1_firstOutletStep_71 : decode cX1_firstOutletStep 71 = .ok (.goto (-67), 3) := by decide +kernel
theorem dX1_firstOutletStep_74 : decode cX1_firstOutletStep 74 = .ok (.iload_n 1, 1) := by decide +kernel
theorem dX1_firstOutletStep_75 : decode cX1_firstOutletStep 75 = .ok (.ireturn, 1) := by decide +kernel
theorem dX1_nextThroat_0 : decode cX1_nextThroat 0 = .ok (.aload_n 0, 1) := by decide +kernel
theorem dX1_nextThroat_1 : decode cX1_nextThroat 1 = .ok (.getfield 57, 3) := by decide +kernel
theorem dX1_nextThroat_4 : decode cX1_nextThroat 4 = .ok (.ifCond .le 19, 3) := by decide +kernel
theorem dX1_nextThroat_7 : decode cX1_nextThroat 7 = .ok (.aload_n 0, 1) := by decide +kernel
theorem dX1_nextThroat_8 : decode cX1_nextThroat 8 = .ok (.aload_n 0, 1) := by decide +kernel
theorem dX1_nextThroat_9 : decode cX1_nextThroat 9 = .ok (.getfield 15, 3) := by decide +kernel
theorem dX1_nextThroat_12 : decode cX1_nextThroat 12 = .ok (.aload_n 0, 1) := by decide +kernel
theorem dX1_nextThroat_13 : decode cX1_nextThroat 13 = .ok (.getfield 57, 3) := by decide +kernel
theorem dX1_nextThroat_16 : decode cX1_nextThroat 16 = .ok (.iaload, 1) := by decide +kernel
theorem dX1_nextThroat_17 : decode cX1_nextThroat 17 = .ok (.invokevirtual 98, 3) := by decide +kernel
theorem dX1_nextThroat_20 : decode cX1_nextThroat 20 = .ok (.goto 4, 3) := by decide +kernel
theorem dX1_nextThroat_23 : decode cX1_nextThroat 23 = .ok (.iconst (-1), 1) := by decide +kernel
theorem dX1_nextThroat_24 : decode cX1_nextThroat 24 = .ok (.istore_n 1, 1) := by decide +kernel
theorem dX1_nextThroat_25 : decode cX1_nextThroat 25 = .ok (.iload_n 1, 1) := by decide +kernel
theorem dX1_nextThroat_26 : decode cX1_nextThroat 26 = .ok (.ifCond .lt 7, 3) := by decide +kernel
theorem dX1_nextThroat_29 : decode cX1_nextThroat 29 = .ok (.iload_n 1, 1) := by decide +kernel
theorem dX1_nextThroat_30 : decode cX1_nextThroat 30 = .ok (.goto 8, 3) := by decide +kernel
theorem dX1_nextThroat_33 : decode cX1_nextThroat 33 = .ok (.aload_n 0, 1) := by decide +kernel
theorem dX1_nextThroat_34 : decode cX1_nextThroat 34 = .ok (.iconst 0, 1) := by decide +kernel
theorem dX1_nextThroat_35 : decode cX1_nextThroat 35 = .ok (.invokevirtual 102, 3) := by decide +kernel
theorem dX1_nextThroat_38 : decode cX1_nextThroat 38 = .ok (.ireturn, 1) := by decide +kernel
theorem dX1_preferredAt_0 : decode cX1_preferredAt 0 = .ok (.aload_n 0, 1) := by decide +kernel
theorem dX1_preferredAt_1 : decode cX1_preferredAt 1 = .ok (.getfield 49, 3) := by decide +kernel
theorem dX1_preferredAt_4 : decode cX1_preferredAt 4 = .ok (.getfield 95, 3) := by decide +kernel
theorem dX1_preferredAt_7 : decode cX1_preferredAt 7 = .ok (.iload_n 1, 1) := by decide +kernel
theorem dX1_preferredAt_8 : decode cX1_preferredAt 8 = .ok (.iaload, 1) := by decide +kernel
theorem dX1_preferredAt_9 : decode cX1_preferredAt 9 = .ok (.iconst 2, 1) := by decide +kernel
theorem dX1_preferredAt_10 : decode cX1_preferredAt 10 = .ok (.if_icmp .ne 7, 3) := by decide +kernel
theorem dX1_preferredAt_13 : decode cX1_preferredAt 13 = .ok (.iconst 1, 1) := by decide +kernel
theorem dX1_preferredAt_14 : decode cX1_preferredAt 14 = .ok (.goto 4, 3) := by decide +kernel
theorem dX1_preferredAt_17 : decode cX1_preferredAt 17 = .ok (.iconst 0, 1) := by decide +kernel
theorem dX1_preferredAt_18 : decode cX1_preferredAt 18 = .ok (.istore_n 2, 1) := by decide +kernel
theorem dX1_preferredAt_19 : decode cX1_preferredAt 19 = .ok (.iload_n 2, 1) := by decide +kernel
theorem dX1_preferredAt_20 : decode cX1_preferredAt 20 = .ok (.ifCond .ne 18, 3) := by decide +kernel
theorem dX1_preferredAt_23 : decode cX1_preferredAt 23 = .ok (.aload_n 0, 1) := by decide +kernel
theorem dX1_preferredAt_24 : decode cX1_preferredAt 24 = .ok (.getfield 49, 3) := by decide +kernel
theorem dX1_preferredAt_27 : decode cX1_preferredAt 27 = .ok (.getfield 95, 3) := by decide +kernel
theorem dX1_preferredAt_30 : decode cX1_preferredAt 30 = .ok (.iload_n 1, 1) := by decide +kernel
theorem dX1_preferredAt_31 : decode cX1_preferredAt 31 = .ok (.iaload, 1) := by decide +kernel
theorem dX1_preferredAt_32 : decode cX1_preferredAt 32 = .ok (.iconst 1, 1) := by decide +kernel
theorem dX1_preferredAt_33 : decode cX1_preferredAt 33 = .ok (.if_icmp .eq 5, 3) := by decide +kernel
theorem dX1_preferredAt_36 : decode cX1_preferredAt 36 = .ok (.iconst (-1), 1) := by decide +kernel
theorem dX1_preferredAt_37 : decode cX1_preferredAt 37 = .ok (.ireturn, 1) := by decide +kernel
theorem dX1_preferredAt_38 : decode cX1_preferredAt 38 = .ok (.iconst (-1), 1) := by decide +kernel
theorem dX1_preferredAt_39 : decode cX1_preferredAt 39 = .ok (.istore_n 3, 1) := by decide +kernel
theorem dX1_preferredAt_40 : decode cX1_preferredAt 40 = .ok (.aload_n 0, 1) := by decide +kernel
theorem dX1_preferredAt_41 : decode cX1_preferredAt 41 = .ok (.getfield 49, 3) := by decide +kernel
theorem dX1_preferredAt_44 : decode cX1_preferredAt 44 = .ok (.getfield 105, 3) := by decide +kernel
theorem dX1_preferredAt_47 : decode cX1_preferredAt 47 = .ok (.iload_n 1, 1) := by decide +kernel
theorem dX1_preferredAt_48 : decode cX1_preferredAt 48 = .ok (.iaload, 1) := by decide +kernel
theorem dX1_preferredAt_49 : decode cX1_preferredAt 49 = .ok (.istore 4, 2) := by decide +kernel
theorem dX1_preferredAt_51 : decode cX1_preferredAt 51 = .ok (.iload 4, 2) := by decide +kernel
theorem dX1_preferredAt_53 : decode cX1_preferredAt 53 = .ok (.aload_n 0, 1) := by decide +kernel
theorem dX1_preferredAt_54 : decode cX1_preferredAt 54 = .ok (.getfield 49, 3) := by decide +kernel
theorem dX1_preferredAt_57 : decode cX1_preferredAt 57 = .ok (.getfield 105, 3) := by decide +kernel
theorem dX1_preferredAt_60 : decode cX1_preferredAt 60 = .ok (.iload_n 1, 1) := by decide +kernel
theorem dX1_preferredAt_61 : decode cX1_preferredAt 61 = .ok (.iconst 1, 1) := by decide +kernel
theorem dX1_preferredAt_62 : decode cX1_preferredAt 62 = .ok (.iadd, 1) := by decide +kernel
theorem dX1_preferredAt_63 : decode cX1_preferredAt 63 = .ok (.iaload, 1) := by decide +kernel
theorem dX1_preferredAt_64 : decode cX1_preferredAt 64 = .ok (.if_icmp .ge 60, 3) := by decide +kernel
theorem dX1_preferredAt_67 : decode cX1_preferredAt 67 = .ok (.aload_n 0, 1) := by decide +kernel
theorem dX1_preferredAt_68 : decode cX1_preferredAt 68 = .ok (.getfield 49, 3) := by decide +kernel
theorem dX1_preferredAt_71 : decode cX1_preferredAt 71 = .ok (.getfield 108, 3) := by decide +kernel
theorem dX1_preferredAt_74 : decode cX1_preferredAt 74 = .ok (.iload 4, 2) := by decide +kernel
theorem dX1_preferredAt_76 : decode cX1_preferredAt 76 = .ok (.iaload, 1) := by decide +kernel
theorem dX1_preferredAt_77 : decode cX1_preferredAt 77 = .ok (.istore 5, 2) := by decide +kernel
theorem dX1_preferredAt_79 : decode cX1_preferredAt 79 = .ok (.aload_n 0, 1) := by decide +kernel
theorem dX1_preferredAt_80 : decode cX1_preferredAt 80 = .ok (.getfield 49, 3) := by decide +kernel
theorem dX1_preferredAt_83 : decode cX1_preferredAt 83 = .ok (.iload 5, 2) := by decide +kernel
theorem dX1_preferredAt_85 : decode cX1_preferredAt 85 = .ok (.invokevirtual 111, 3) := by decide +kernel
theorem dX1_preferredAt_88 : decode cX1_preferredAt 88 = .ok (.ifCond .eq 30, 3) := by decide +kernel
theorem dX1_preferredAt_91 : decode cX1_preferredAt 91 = .ok (.aload_n 0, 1) := by decide +kernel
theorem dX1_preferredAt_92 : decode cX1_preferredAt 92 = .ok (.iload 5, 2) := by decide +kernel
theorem dX1_preferredAt_94 : decode cX1_preferredAt 94 = .ok (.invokevirtual 91, 3) := by decide +kernel
theorem dX1_preferredAt_97 : decode cX1_preferredAt 97 = .ok (.ifCond .eq 21, 3) := by decide +kernel
theorem dX1_preferredAt_100 : decode cX1_preferredAt 100 = .ok (.iload_n 3, 1) := by decide +kernel
theorem dX1_preferredAt_101 : decode cX1_preferredAt 101 = .ok (.ifCond .lt 14, 3) := by decide +kernel
theorem dX1_preferredAt_104 : decode cX1_preferredAt 104 = .ok (.aload_n 0, 1) := by decide +kernel
theorem dX1_preferredAt_105 : decode cX1_preferredAt 105 = .ok (.iload 5, 2) := by decide +kernel
theorem dX1_preferredAt_107 : decode cX1_preferredAt 107 = .ok (.iload_n 3, 1) := by decide +kernel
theorem dX1_preferredAt_108 : decode cX1_preferredAt 108 = .ok (.iload_n 2, 1) := by decide +kernel
theorem dX1_preferredAt_109 : decode cX1_preferredAt 109 = .ok (.invokevirtual 114, 3) := by decide +kernel
theorem dX1_preferredAt_112 : decode cX1_preferredAt 112 = .ok (.ifCond .eq 6, 3) := by decide +kernel
theorem dX1_preferredAt_115 : decode cX1_preferredAt 115 = .ok (.iload 5, 2) := by decide +kernel
theorem dX1_preferredAt_117 : decode cX1_preferredAt 117 = .ok (.istore_n 3, 1) := by decide +kernel
theorem dX1_preferredAt_118 : decode cX1_preferredAt 118 = .ok (.iinc 4 1, 3) := by decide +kernel
theorem dX1_preferredAt_121 : decode cX1_preferredAt 121 = .ok (.goto (-70), 3) := by decide +kernel
theorem dX1_preferredAt_124 : decode cX1_preferredAt 124 = .ok (.iload_n 3, 1) := by decide +kernel
theorem dX1_preferredAt_125 : decode cX1_preferredAt 125 = .ok (.ireturn, 1) := by decide +kernel
theorem dX1_isPreferred_0 : decode cX1_isPreferred 0 = .ok (.iload_n 3, 1) := by decide +kernel
theorem dX1_isPreferred_1 : decode cX1_isPreferred 1 = .ok (.ifCond .eq 32, 3) := by decide +kernel
theorem dX1_isPreferred_4 : decode cX1_isPreferred 4 = .ok (.aload_n 0, 1) := by decide +kernel
theorem dX1_isPreferred_5 : decode cX1_isPreferred 5 = .ok (.getfield 49, 3) := by decide +kernel
theorem dX1_isPreferred_8 : decode cX1_isPreferred 8 = .ok (.getfield 118, 3) := by decide +kernel
theorem dX1_isPreferred_11 : decode cX1_isPreferred 11 = .ok (.iload_n 1, 1) := by decide +kernel
theorem dX1_isPreferred_12 : decode cX1_isPreferred 12 = .ok (.iaload, 1) := by decide +kernel
theorem dX1_isPreferred_13 : decode cX1_isPreferred 13 = .ok (.aload_n 0, 1) := by decide +kernel
theorem dX1_isPreferred_14 : decode cX1_isPreferred 14 = .ok (.getfield 49, 3) := by decide +kernel
theorem dX1_isPreferred_17 : decode cX1_isPreferred 17 = .ok (.getfield 118, 3) := by decide +kernel
theorem dX1_isPreferred_20 : decode cX1_isPreferred 20 = .ok (.iload_n 2, 1) := by decide +kernel
theorem dX1_isPreferred_21 : decode cX1_isPreferred 21 = .ok (.iaload, 1) := by decide +kernel
theorem dX1_isPreferred_22 : decode cX1_isPreferred 22 = .ok (.if_icmp .le 7, 3) := by decide +kernel
theorem dX1_isPreferred_25 : decode cX1_isPreferred 25 = .ok (.iconst 1, 1) := by decide +kernel
theorem dX1_isPreferred_26 : decode cX1_isPreferred 26 = .ok (.goto 33, 3) := by decide +kernel
theorem dX1_isPreferred_29 : decode cX1_isPreferred 29 = .ok (.iconst 0, 1) := by decide +kernel
theorem dX1_isPreferred_30 : decode cX1_isPreferred 30 = .ok (.goto 29, 3) := by decide +kernel
theorem dX1_isPreferred_33 : decode cX1_isPreferred 33 = .ok (.aload_n 0, 1) := by decide +kernel
theorem dX1_isPreferred_34 : decode cX1_isPreferred 34 = .ok (.getfield 49, 3) := by decide +kernel
theorem dX1_isPreferred_37 : decode cX1_isPreferred 37 = .ok (.getfield 118, 3) := by decide +kernel
theorem dX1_isPreferred_40 : decode cX1_isPreferred 40 = .ok (.iload_n 1, 1) := by decide +kernel
theorem dX1_isPreferred_41 : decode cX1_isPreferred 41 = .ok (.iaload, 1) := by decide +kernel
theorem dX1_isPreferred_42 : decode cX1_isPreferred 42 = .ok (.aload_n 0, 1) := by decide +kernel
theorem dX1_isPreferred_43 : decode cX1_isPreferred 43 = .ok (.getfield 49, 3) := by decide +kernel
theorem dX1_isPreferred_46 : decode cX1_isPreferred 46 = .ok (.getfield 118, 3) := by decide +kernel
theorem dX1_isPreferred_49 : decode cX1_isPreferred 49 = .ok (.iload_n 2, 1) := by decide +kernel
theorem dX1_isPreferred_50 : decode cX1_isPreferred 50 = .ok (.iaload, 1) := by decide +kernel
theorem dX1_isPreferred_51 : decode cX1_isPreferred 51 = .ok (.if_icmp .ge 7, 3) := by decide +kernel
theorem dX1_isPreferred_54 : decode cX1_isPreferred 54 = .ok (.iconst 1, 1) := by decide +kernel
theorem dX1_isPreferred_55 : decode cX1_isPreferred 55 = .ok (.goto 4, 3) := by decide +kernel
theorem dX1_isPreferred_58 : decode cX1_isPreferred 58 = .ok (.iconst 0, 1) := by decide +kernel
theorem dX1_isPreferred_59 : decode cX1_isPreferred 59 = .ok (.ireturn, 1) := by decide +kernel
theorem dX1_isCandidate_0 : decode cX1_isCandidate 0 = .ok (.aload_n 0, 1) := by decide +kernel
theorem dX1_isCandidate_1 : decode cX1_isCandidate 1 = .ok (.aload_n 0, 1) := by decide +kernel
theorem dX1_isCandidate_2 : decode cX1_isCandidate 2 = .ok (.getfield 49, 3) := by decide +kernel
theorem dX1_isCandidate_5 : decode cX1_isCandidate 5 = .ok (.getfield 79, 3) := by decide +kernel
theorem dX1_isCandidate_8 : decode cX1_isCandidate 8 = .ok (.iload_n 1, 1) := by decide +kernel
theorem dX1_isCandidate_9 : decode cX1_isCandidate 9 = .ok (.iaload, 1) := by decide +kernel
theorem dX1_isCandidate_10 : decode cX1_isCandidate 10 = .ok (.aload_n 0, 1) := by decide +kernel
theorem dX1_isCandidate_11 : decode cX1_isCandidate 11 = .ok (.getfield 49, 3) := by decide +kernel
theorem dX1_isCandidate_14 : decode cX1_isCandidate 14 = .ok (.getfield 82, 3) := by decide +kernel
theorem dX1_isCandidate_17 : decode cX1_isCandidate 17 = .ok (.iload_n 1, 1) := by decide +kernel
theorem dX1_isCandidate_18 : decode cX1_isCandidate 18 = .ok (.iaload, 1) := by decide +kernel
theorem dX1_isCandidate_19 : decode cX1_isCandidate 19 = .ok (.invokevirtual 121, 3) := by decide +kernel
theorem dX1_isCandidate_22 : decode cX1_isCandidate 22 = .ok (.ifCond .ne 28, 3) := by decide +kernel
theorem dX1_isCandidate_25 : decode cX1_isCandidate 25 = .ok (.aload_n 0, 1) := by decide +kernel
theorem dX1_isCandidate_26 : decode cX1_isCandidate 26 = .ok (.aload_n 0, 1) := by decide +kernel
theorem dX1_isCandidate_27 : decode cX1_isCandidate 27 = .ok (.getfield 49, 3) := by decide +kernel
theorem dX1_isCandidate_30 : decode cX1_isCandidate 30 = .ok (.getfield 82, 3) := by decide +kernel
theorem dX1_isCandidate_33 : decode cX1_isCandidate 33 = .ok (.iload_n 1, 1) := by decide +kernel
theorem dX1_isCandidate_34 : decode cX1_isCandidate 34 = .ok (.iaload, 1) := by decide +kernel
theorem dX1_isCandidate_35 : decode cX1_isCandidate 35 = .ok (.aload_n 0, 1) := by decide +kernel
theorem dX1_isCandidate_36 : decode cX1_isCandidate 36 = .ok (.getfield 49, 3) := by decide +kernel
theorem dX1_isCandidate_39 : decode cX1_isCandidate 39 = .ok (.getfield 79, 3) := by decide +kernel
theorem dX1_isCandidate_42 : decode cX1_isCandidate 42 = .ok (.iload_n 1, 1) := by decide +kernel
theorem dX1_isCandidate_43 : decode cX1_isCandidate 43 = .ok (.iaload, 1) := by decide +kernel
theorem dX1_isCandidate_44 : decode cX1_isCandidate 44 = .ok (.invokevirtual 121, 3) := by decide +kernel
theorem dX1_isCandidate_47 : decode cX1_isCandidate 47 = .ok (.ifCond .eq 7, 3) := by decide +kernel
theorem dX1_isCandidate_50 : decode cX1_isCandidate 50 = .ok (.iconst 1, 1) := by decide +kernel
theorem dX1_isCandidate_51 : decode cX1_isCandidate 51 = .ok (.goto 4, 3) := by decide +kernel
theorem dX1_isCandidate_54 : decode cX1_isCandidate 54 = .ok (.iconst 0, 1) := by decide +kernel
theorem dX1_isCandidate_55 : decode cX1_isCandidate 55 = .ok (.ireturn, 1) := by decide +kernel
theorem dX1_leads_0 : decode cX1_leads 0 = .ok (.aload_n 0, 1) := by decide +kernel
theorem dX1_leads_1 : decode cX1_leads 1 = .ok (.getfield 18, 3) := by decide +kernel
theorem dX1_leads_4 : decode cX1_leads 4 = .ok (.iload_n 1, 1) := by decide +kernel
theorem dX1_leads_5 : decode cX1_leads 5 = .ok (.iaload, 1) := by decide +kernel
theorem dX1_leads_6 : decode cX1_leads 6 = .ok (.ifCond .lt 38, 3) := by decide +kernel
theorem dX1_leads_9 : decode cX1_leads 9 = .ok (.aload_n 0, 1) := by decide +kernel
theorem dX1_leads_10 : decode cX1_leads 10 = .ok (.getfield 49, 3) := by decide +kernel
theorem dX1_leads_13 : decode cX1_leads 13 = .ok (.getfield 95, 3) := by decide +kernel
theorem dX1_leads_16 : decode cX1_leads 16 = .ok (.iload_n 1, 1) := by decide +kernel
theorem dX1_leads_17 : decode cX1_leads 17 = .ok (.iaload, 1) := by decide +kernel
theorem dX1_leads_18 : decode cX1_leads 18 = .ok (.iconst 3, 1) := by decide +kernel
theorem dX1_leads_19 : decode cX1_leads 19 = .ok (.if_icmp .eq 25, 3) := by decide +kernel
theorem dX1_leads_22 : decode cX1_leads 22 = .ok (.aload_n 0, 1) := by decide +kernel
theorem dX1_leads_23 : decode cX1_leads 23 = .ok (.getfield 18, 3) := by decide +kernel
theorem dX1_leads_26 : decode cX1_leads 26 = .ok (.iload_n 2, 1) := by decide +kernel
theorem dX1_leads_27 : decode cX1_leads 27 = .ok (.iaload, 1) := by decide +kernel
theorem dX1_leads_28 : decode cX1_leads 28 = .ok (.ifCond .ge 16, 3) := by decide +kernel
theorem dX1_leads_31 : decode cX1_leads 31 = .ok (.aload_n 0, 1) := by decide +kernel
theorem dX1_leads_32 : decode cX1_leads 32 = .ok (.getfield 24, 3) := by decide +kernel
theorem dX1_leads_35 : decode cX1_leads 35 = .ok (.iload_n 2, 1) := by decide +kernel
theorem dX1_leads_36 : decode cX1_leads 36 = .ok (.iaload, 1) := by decide +kernel
theorem dX1_leads_37 : decode cX1_leads 37 = .ok (.ifCond .ge 7, 3) := by decide +kernel
theorem dX1_leads_40 : decode cX1_leads 40 = .ok (.iconst 1, 1) := by decide +kernel
theorem dX1_leads_41 : decode cX1_leads 41 = .ok (.goto 4, 3) := by decide +kernel
theorem dX1_leads_44 : decode cX1_leads 44 = .ok (.iconst 0, 1) := by decide +kernel
theorem dX1_leads_45 : decode cX1_leads 45 = .ok (.ireturn, 1) := by decide +kernel
theorem dX1_cutOff_0 : decode cX1_cutOff 0 = .ok (.aload_n 0, 1) := by decide +kernel
theorem dX1_cutOff_1 : decode cX1_cutOff 1 = .ok (.getfield 49, 3) := by decide +kernel
theorem dX1_cutOff_4 : decode cX1_cutOff 4 = .ok (.getfield 125, 3) := by decide +kernel
theorem dX1_cutOff_7 : decode cX1_cutOff 7 = .ok (.ifCond .ne 4, 3) := by decide +kernel
theorem dX1_cutOff_10 : decode cX1_cutOff 10 = .ok (.return_, 1) := by decide +kernel
theorem dX1_cutOff_11 : decode cX1_cutOff 11 = .ok (.aload_n 0, 1) := by decide +kernel
theorem dX1_cutOff_12 : decode cX1_cutOff 12 = .ok (.invokevirtual 128, 3) := by decide +kernel
theorem dX1_cutOff_15 : decode cX1_cutOff 15 = .ok (.iconst 0, 1) := by decide +kernel
theorem dX1_cutOff_16 : decode cX1_cutOff 16 = .ok (.istore_n 1, 1) := by decide +kernel
theorem dX1_cutOff_17 : decode cX1_cutOff 17 = .ok (.iload_n 1, 1) := by decide +kernel
theorem dX1_cutOff_18 : decode cX1_cutOff 18 = .ok (.aload_n 0, 1) := by decide +kernel
theorem dX1_cutOff_19 : decode cX1_cutOff 19 = .ok (.getfield 49, 3) := by decide +kernel
theorem dX1_cutOff_22 : decode cX1_cutOff 22 = .ok (.getfield 64, 3) := by decide +kernel
theorem dX1_cutOff_25 : decode cX1_cutOff 25 = .ok (.if_icmp .ge 46, 3) := by decide +kernel
theorem dX1_cutOff_28 : decode cX1_cutOff 28 = .ok (.aload_n 0, 1) := by decide +kernel
theorem dX1_cutOff_29 : decode cX1_cutOff 29 = .ok (.getfield 18, 3) := by decide +kernel
theorem dX1_cutOff_32 : decode cX1_cutOff 32 = .ok (.iload_n 1, 1) := by decide +kernel
theorem dX1_cutOff_33 : decode cX1_cutOff 33 = .ok (.iaload, 1) := by decide +kernel
theorem dX1_cutOff_34 : decode cX1_cutOff 34 = .ok (.ifCond .ge 31, 3) := by decide +kernel
theorem dX1_cutOff_37 : decode cX1_cutOff 37 = .ok (.aload_n 0, 1) := by decide +kernel
theorem dX1_cutOff_38 : decode cX1_cutOff 38 = .ok (.getfield 24, 3) := by decide +kernel
theorem dX1_cutOff_41 : decode cX1_cutOff 41 = .ok (.iload_n 1, 1) := by decide +kernel
theorem dX1_cutOff_42 : decode cX1_cutOff 42 = .ok (.iaload, 1) := by decide +kernel
theorem dX1_cutOff_43 : decode cX1_cutOff 43 = .ok (.ifCond .ge 22, 3) := by decide +kernel
theorem dX1_cutOff_46 : decode cX1_cutOff 46 = .ok (.aload_n 0, 1) := by decide +kernel
theorem dX1_cutOff_47 : decode cX1_cutOff 47 = .ok (.getfield 45, 3) := by decide +kernel
theorem dX1_cutOff_50 : decode cX1_cutOff 50 = .ok (.iload_n 1, 1) := by decide +kernel
theorem dX1_cutOff_51 : decode cX1_cutOff 51 = .ok (.baload, 1) := by decide +kernel
theorem dX1_cutOff_52 : decode cX1_cutOff 52 = .ok (.ifCond .ne 13, 3) := by decide +kernel
theorem dX1_cutOff_55 : decode cX1_cutOff 55 = .ok (.aload_n 0, 1) := by decide +kernel
theorem dX1_cutOff_56 : decode cX1_cutOff 56 = .ok (.getfield 24, 3) := by decide +kernel
theorem dX1_cutOff_59 : decode cX1_cutOff 59 = .ok (.iload_n 1, 1) := by decide +kernel
theorem dX1_cutOff_60 : decode cX1_cutOff 60 = .ok (.aload_n 0, 1) := by decide +kernel
theorem dX1_cutOff_61 : decode cX1_cutOff 61 = .ok (.getfield 57, 3) := by decide +kernel
theorem dX1_cutOff_64 : decode cX1_cutOff 64 = .ok (.iastore, 1) := by decide +kernel
theorem dX1_cutOff_65 : decode cX1_cutOff 65 = .ok (.iinc 1 1, 3) := by decide +kernel
theorem dX1_cutOff_68 : decode cX1_cutOff 68 = .ok (.goto (-51), 3) := by decide +kernel
theorem dX1_cutOff_71 : decode cX1_cutOff 71 = .ok (.iconst 0, 1) := by decide +kernel
theorem dX1_cutOff_72 : decode cX1_cutOff 72 = .ok (.istore_n 1, 1) := by decide +kernel
theorem dX1_cutOff_73 : decode cX1_cutOff 73 = .ok (.iload_n 1, 1) := by decide +kernel
theorem dX1_cutOff_74 : decode cX1_cutOff 74 = .ok (.aload_n 0, 1) := by decide +kernel
theorem dX1_cutOff_75 : decode cX1_cutOff 75 = .ok (.getfield 49, 3) := by decide +kernel
theorem dX1_cutOff_78 : decode cX1_cutOff 78 = .ok (.getfield 64, 3) := by decide +kernel
theorem dX1_cutOff_81 : decode cX1_cutOff 81 = .ok (.if_icmp .ge 36, 3) := by decide +kernel
theorem dX1_cutOff_84 : decode cX1_cutOff 84 = .ok (.aload_n 0, 1) := by decide +kernel
theorem dX1_cutOff_85 : decode cX1_cutOff 85 = .ok (.getfield 24, 3) := by decide +kernel
theorem dX1_cutOff_88 : decode cX1_cutOff 88 = .ok (.iload_n 1, 1) := by decide +kernel
theorem dX1_cutOff_89 : decode cX1_cutOff 89 = .ok (.iaload, 1) := by decide +kernel
theorem dX1_cutOff_90 : decode cX1_cutOff 90 = .ok (.aload_n 0, 1) := by decide +kernel
theorem dX1_cutOff_91 : decode cX1_cutOff 91 = .ok (.getfield 57, 3) := by decide +kernel
theorem dX1_cutOff_94 : decode cX1_cutOff 94 = .ok (.if_icmp .ne 17, 3) := by decide +kernel
theorem dX1_cutOff_97 : decode cX1_cutOff 97 = .ok (.aload_n 0, 1) := by decide +kernel
theorem dX1_cutOff_98 : decode cX1_cutOff 98 = .ok (.getfield 27, 3) := by decide +kernel
theorem dX1_cutOff_101 : decode cX1_cutOff 101 = .ok (.iload_n 1, 1) := by decide +kernel
theorem dX1_cutOff_102 : decode cX1_cutOff 102 = .ok (.iaload, 1) := by decide +kernel
theorem dX1_cutOff_103 : decode cX1_cutOff 103 = .ok (.ifCond .ge 8, 3) := by decide +kernel
theorem dX1_cutOff_106 : decode cX1_cutOff 106 = .ok (.aload_n 0, 1) := by decide +kernel
theorem dX1_cutOff_107 : decode cX1_cutOff 107 = .ok (.iload_n 1, 1) := by decide +kernel
theorem dX1_cutOff_108 : decode cX1_cutOff 108 = .ok (.invokevirtual 131, 3) := by decide +kernel
theorem dX1_cutOff_111 : decode cX1_cutOff 111 = .ok (.iinc 1 1, 3) := by decide +kernel
theorem dX1_cutOff_114 : decode cX1_cutOff 114 = .ok (.goto (-41), 3) := by decide +kernel
theorem dX1_cutOff_117 : decode cX1_cutOff 117 = .ok (.return_, 1) := by decide +kernel
theorem dX1_reachFromOutlets_0 : decode cX1_reachFromOutlets 0 = .ok (.iconst 0, 1) := by decide +kernel
theorem dX1_reachFromOutlets_1 : decode cX1_reachFromOutlets 1 = .ok (.istore_n 1, 1) := by decide +kernel
theorem dX1_reachFromOutlets_2 : decode cX1_reachFromOutlets 2 = .ok (.iconst 0, 1) := by decide +kernel
theorem dX1_reachFromOutlets_3 : decode cX1_reachFromOutlets 3 = .ok (.istore_n 2, 1) := by decide +kernel
theorem dX1_reachFromOutlets_4 : decode cX1_reachFromOutlets 4 = .ok (.iload_n 2, 1) := by decide +kernel
theorem dX1_reachFromOutlets_5 : decode cX1_reachFromOutlets 5 = .ok (.aload_n 0, 1) := by decide +kernel
theorem dX1_reachFromOutlets_6 : decode cX1_reachFromOutlets 6 = .ok (.getfield 49, 3) := by decide +kernel
theorem dX1_reachFromOutlets_9 : decode cX1_reachFromOutlets 9 = .ok (.getfield 64, 3) := by decide +kernel
theorem dX1_reachFromOutlets_12 : decode cX1_reachFromOutlets 12 = .ok (.if_icmp .ge 61, 3) := by decide +kernel
theorem dX1_reachFromOutlets_15 : decode cX1_reachFromOutlets 15 = .ok (.aload_n 0, 1) := by decide +kernel
theorem dX1_reachFromOutlets_16 : decode cX1_reachFromOutlets 16 = .ok (.getfield 45, 3) := by decide +kernel
theorem dX1_reachFromOutlets_19 : decode cX1_reachFromOutlets 19 = .ok (.iload_n 2, 1) := by decide +kernel
theorem dX1_reachFromOutlets_20 : decode cX1_reachFromOutlets 20 = .ok (.aload_n 0, 1) := by decide +kernel
theorem dX1_reachFromOutlets_21 : decode cX1_reachFromOutlets 21 = .ok (.getfield 49, 3) := by decide +kernel
theorem dX1_reachFromOutlets_24 : decode cX1_reachFromOutlets 24 = .ok (.getfield 95, 3) := by decide +kernel
theorem dX1_reachFromOutlets_27 : decode cX1_reachFromOutlets 27 = .ok (.iload_n 2, 1) := by decide +kernel
theorem dX1_reachFromOutlets_28 : decode cX1_reachFromOutlets 28 = .ok (.iaload, 1) := by decide +kernel
theorem dX1_reachFromOutlets_29 : decode cX1_reachFromOutlets 29 = .ok (.iconst 4, 1) := by decide +kernel
theorem dX1_reachFromOutlets_30 : decode cX1_reachFromOutlets 30 = .ok (.if_icmp .ne 16, 3) := by decide +kernel
theorem dX1_reachFromOutlets_33 : decode cX1_reachFromOutlets 33 = .ok (.aload_n 0, 1) := by decide +kernel
theorem dX1_reachFromOutlets_34 : decode cX1_reachFromOutlets 34 = .ok (.getfield 18, 3) := by decide +kernel
theorem dX1_reachFromOutlets_37 : decode cX1_reachFromOutlets 37 = .ok (.iload_n 2, 1) := by decide +kernel
theorem dX1_reachFromOutlets_38 : decode cX1_reachFromOutlets 38 = .ok (.iaload, 1) := by decide +kernel
theorem dX1_reachFromOutlets_39 : decode cX1_reachFromOutlets 39 = .ok (.ifCond .ge 7, 3) := by decide +kernel
theorem dX1_reachFromOutlets_42 : decode cX1_reachFromOutlets 42 = .ok (.iconst 1, 1) := by decide +kernel
theorem dX1_reachFromOutlets_43 : decode cX1_reachFromOutlets 43 = .ok (.goto 4, 3) := by decide +kernel
theorem dX1_reachFromOutlets_46 : decode cX1_reachFromOutlets 46 = .ok (.iconst 0, 1) := by decide +kernel
theorem dX1_reachFromOutlets_47 : decode cX1_reachFromOutlets 47 = .ok (.bastore, 1) := by decide +kernel
theorem dX1_reachFromOutlets_48 : decode cX1_reachFromOutlets 48 = .ok (.aload_n 0, 1) := by decide +kernel
theorem dX1_reachFromOutlets_49 : decode cX1_reachFromOutlets 49 = .ok (.getfield 45, 3) := by decide +kernel
theorem dX1_reachFromOutlets_52 : decode cX1_reachFromOutlets 52 = .ok (.iload_n 2, 1) := by decide +kernel
theorem dX1_reachFromOutlets_53 : decode cX1_reachFromOutlets 53 = .ok (.baload, 1) := by decide +kernel
theorem dX1_reachFromOutlets_54 : decode cX1_reachFromOutlets 54 = .ok (.ifCond .eq 13, 3) := by decide +kernel
theorem dX1_reachFromOutlets_57 : decode cX1_reachFromOutlets 57 = .ok (.aload_n 0, 1) := by decide +kernel
theorem dX1_reachFromOutlets_58 : decode cX1_reachFromOutlets 58 = .ok (.getfield 42, 3) := by decide +kernel
theorem dX1_reachFromOutlets_61 : decode cX1_reachFromOutlets 61 = .ok (.iload_n 1, 1) := by decide +kernel
theorem dX1_reachFromOutlets_62 : decode cX1_reachFromOutlets 62 = .ok (.iload_n 2, 1) := by decide +kernel
theorem dX1_reachFromOutlets_63 : decode cX1_reachFromOutlets 63 = .ok (.iastore, 1) := by decide +kernel
theorem dX1_reachFromOutlets_64 : decode cX1_reachFromOutlets 64 = .ok (.iinc 1 1, 3) := by decide +kernel
theorem dX1_reachFromOutlets_67 : decode cX1_reachFromOutlets 67 = .ok (.iinc 2 1, 3) := by decide +kernel
theorem dX1_reachFromOutlets_70 : decode cX1_reachFromOutlets 70 = .ok (.goto (-66), 3) := by decide +kernel
theorem dX1_reachFromOutlets_73 : decode cX1_reachFromOutlets 73 = .ok (.iconst 0, 1) := by decide +kernel
theorem dX1_reachFromOutlets_74 : decode cX1_reachFromOutlets 74 = .ok (.istore_n 2, 1) := by decide +kernel
theorem dX1_reachFromOutlets_75 : decode cX1_reachFromOutlets 75 = .ok (.iload_n 2, 1) := by decide +kernel
theorem dX1_reachFromOutlets_76 : decode cX1_reachFromOutlets 76 = .ok (.iload_n 1, 1) := by decide +kernel
theorem dX1_reachFromOutlets_77 : decode cX1_reachFromOutlets 77 = .ok (.if_icmp .ge 27, 3) := by decide +kernel
theorem dX1_reachFromOutlets_80 : decode cX1_reachFromOutlets 80 = .ok (.iload_n 2, 1) := by decide +kernel
theorem dX1_reachFromOutlets_81 : decode cX1_reachFromOutlets 81 = .ok (.bipush 120, 2) := by decide +kernel
theorem dX1_reachFromOutlets_83 : decode cX1_reachFromOutlets 83 = .ok (.if_icmp .ge 21, 3) := by decide +kernel
theorem dX1_reachFromOutlets_86 : decode cX1_reachFromOutlets 86 = .ok (.aload_n 0, 1) := by decide +kernel
theorem dX1_reachFromOutlets_87 : decode cX1_reachFromOutlets 87 = .ok (.aload_n 0, 1) := by decide +kernel
theorem dX1_reachFromOutlets_88 : decode cX1_reachFromOutlets 88 = .ok (.getfield 42, 3) := by decide +kernel
theorem dX1_reachFromOutlets_91 : decode cX1_reachFromOutlets 91 = .ok (.iload_n 2, 1) := by decide +kernel
theorem dX1_reachFromOutlets_92 : decode cX1_reachFromOutlets 92 = .ok (.iaload, 1) := by decide +kernel
theorem dX1_reachFromOutlets_93 : decode cX1_reachFromOutlets 93 = .ok (.iload_n 1, 1) := by decide +kernel
theorem dX1_reachFromOutlets_94 : decode cX1_reachFromOutlets 94 = .ok (.invokevirtual 135, 3) := by decide +kernel
theorem dX1_reachFromOutlets_97 : decode cX1_reachFromOutlets 97 = .ok (.istore_n 1, 1) := by decide +kernel
theorem dX1_reachFromOutlets_98 : decode cX1_reachFromOutlets 98 = .ok (.iinc 2 1, 3) := by decide +kernel
theorem dX1_reachFromOutlets_101 : decode cX1_reachFromOutlets 101 = .ok (.goto (-26), 3) := by decide +kernel
theorem dX1_reachFromOutlets_104 : decode cX1_reachFromOutlets 104 = .ok (.return_, 1) := by decide +kernel
theorem dX1_reachAround_0 : decode cX1_reachAround 0 = .ok (.iload_n 2, 1) := by decide +kernel
theorem dX1_reachAround_1 : decode cX1_reachAround 1 = .ok (.istore_n 3, 1) := by decide +kernel
theorem dX1_reachAround_2 : decode cX1_reachAround 2 = .ok (.aload_n 0, 1) := by decide +kernel
theorem dX1_reachAround_3 : decode cX1_reachAround 3 = .ok (.getfield 49, 3) := by decide +kernel
theorem dX1_reachAround_6 : decode cX1_reachAround 6 = .ok (.getfield 105, 3) := by decide +kernel
theorem dX1_reachAround_9 : decode cX1_reachAround 9 = .ok (.iload_n 1, 1) := by decide +kernel
theorem dX1_reachAround_10 : decode cX1_reachAround 10 = .ok (.iaload, 1) := by decide +kernel
theorem dX1_reachAround_11 : decode cX1_reachAround 11 = .ok (.istore 4, 2) := by decide +kernel
theorem dX1_reachAround_13 : decode cX1_reachAround 13 = .ok (.iload 4, 2) := by decide +kernel
theorem dX1_reachAround_15 : decode cX1_reachAround 15 = .ok (.aload_n 0, 1) := by decide +kernel
theorem dX1_reachAround_16 : decode cX1_reachAround 16 = .ok (.getfield 49, 3) := by decide +kernel
theorem dX1_reachAround_19 : decode cX1_reachAround 19 = .ok (.getfield 105, 3) := by decide +kernel
theorem dX1_reachAround_22 : decode cX1_reachAround 22 = .ok (.iload_n 1, 1) := by decide +kernel
theorem dX1_reachAround_23 : decode cX1_reachAround 23 = .ok (.iconst 1, 1) := by decide +kernel
theorem dX1_reachAround_24 : decode cX1_reachAround 24 = .ok (.iadd, 1) := by decide +kernel
theorem dX1_reachAround_25 : decode cX1_reachAround 25 = .ok (.iaload, 1) := by decide +kernel
theorem dX1_reachAround_26 : decode cX1_reachAround 26 = .ok (.if_icmp .ge 88, 3) := by decide +kernel
theorem dX1_reachAround_29 : decode cX1_reachAround 29 = .ok (.aload_n 0, 1) := by decide +kernel
theorem dX1_reachAround_30 : decode cX1_reachAround 30 = .ok (.getfield 49, 3) := by decide +kernel
theorem dX1_reachAround_33 : decode cX1_reachAround 33 = .ok (.aload_n 0, 1) := by decide +kernel
theorem dX1_reachAround_34 : decode cX1_reachAround 34 = .ok (.getfield 49, 3) := by decide +kernel
theorem dX1_reachAround_37 : decode cX1_reachAround 37 = .ok (.getfield 108, 3) := by decide +kernel
theorem dX1_reachAround_40 : decode cX1_reachAround 40 = .ok (.iload 4, 2) := by decide +kernel
theorem dX1_reachAround_42 : decode cX1_reachAround 42 = .ok (.iaload, 1) := by decide +kernel
theorem dX1_reachAround_43 : decode cX1_reachAround 43 = .ok (.iload_n 1, 1) := by decide +kernel
theorem dX1_reachAround_44 : decode cX1_reachAround 44 = .ok (.invokevirtual 139, 3) := by decide +kernel
theorem dX1_reachAround_47 : decode cX1_reachAround 47 = .ok (.istore 5, 2) := by decide +kernel
theorem dX1_reachAround_49 : decode cX1_reachAround 49 = .ok (.aload_n 0, 1) := by decide +kernel
theorem dX1_reachAround_50 : decode cX1_reachAround 50 = .ok (.getfield 49, 3) := by decide +kernel
theorem dX1_reachAround_53 : decode cX1_reachAround 53 = .ok (.aload_n 0, 1) := by decide +kernel
theorem dX1_reachAround_54 : decode cX1_reachAround 54 = .ok (.getfield 49, 3) := by decide +kernel
theorem dX1_reachAround_57 : decode cX1_reachAround 57 = .ok (.getfield 108, 3) := by decide +kernel
theorem dX1_reachAround_60 : decode cX1_reachAround 60 = .ok (.iload 4, 2) := by decide +kernel
theorem dX1_reachAround_62 : decode cX1_reachAround 62 = .ok (.iaload, 1) := by decide +kernel
theorem dX1_reachAround_63 : decode cX1_reachAround 63 = .ok (.invokevirtual 111, 3) := by decide +kernel
theorem dX1_reachAround_66 : decode cX1_reachAround 66 = .ok (.ifCond .eq 42, 3) := by decide +kernel
theorem dX1_reachAround_69 : decode cX1_reachAround 69 = .ok (.aload_n 0, 1) := by decide +kernel
theorem dX1_reachAround_70 : decode cX1_reachAround 70 = .ok (.getfield 18, 3) := by decide +kernel
theorem dX1_reachAround_73 : decode cX1_reachAround 73 = .ok (.iload 5, 2) := by decide +kernel
theorem dX1_reachAround_75 : decode cX1_reachAround 75 = .ok (.iaload, 1) := by decide +kernel
theorem dX1_reachAround_76 : decode cX1_reachAround 76 = .ok (.ifCond .ge 32, 3) := by decide +kernel
theorem dX1_reachAround_79 : decode cX1_reachAround 79 = .ok (.aload_n 0, 1) := by decide +kernel
theorem dX1_reachAround_80 : decode cX1_reachAround 80 = .ok (.getfield 45, 3) := by decide +kernel
theorem dX1_reachAround_83 : decode cX1_reachAround 83 = .ok (.iload 5, 2) := by decide +kernel
theorem dX1_reachAround_85 : decode cX1_reachAround 85 = .ok (.baload, 1) := by decide +kernel
theorem dX1_reachAround_86 : decode cX1_reachAround 86 = .ok (.ifCond .ne 22, 3) := by decide +kernel
theorem dX1_reachAround_89 : decode cX1_reachAround 89 = .ok (.aload_n 0, 1) := by decide +kernel
theorem dX1_reachAround_90 : decode cX1_reachAround 90 = .ok (.getfield 45, 3) := by decide +kernel
theorem dX1_reachAround_93 : decode cX1_reachAround 93 = .ok (.iload 5, 2) := by decide +kernel
theorem dX1_reachAround_95 : decode cX1_reachAround 95 = .ok (.iconst 1, 1) := by decide +kernel
theorem dX1_reachAround_96 : decode cX1_reachAround 96 = .ok (.bastore, 1) := by decide +kernel
theorem dX1_reachAround_97 : decode cX1_reachAround 97 = .ok (.aload_n 0, 1) := by decide +kernel
theorem dX1_reachAround_98 : decode cX1_reachAround 98 = .ok (.getfield 42, 3) := by decide +kernel
theorem dX1_reachAround_101 : decode cX1_reachAround 101 = .ok (.iload_n 3, 1) := by decide +kernel
theorem dX1_reachAround_102 : decode cX1_reachAround 102 = .ok (.iload 5, 2) := by decide +kernel
theorem dX1_reachAround_104 : decode cX1_reachAround 104 = .ok (.iastore, 1) := by decide +kernel
theorem dX1_reachAround_105 : decode cX1_reachAround 105 = .ok (.iinc 3 1, 3) := by decide +kernel
theorem dX1_reachAround_108 : decode cX1_reachAround 108 = .ok (.iinc 4 1, 3) := by decide +kernel
theorem dX1_reachAround_111 : decode cX1_reachAround 111 = .ok (.goto (-98), 3) := by decide +kernel
theorem dX1_reachAround_114 : decode cX1_reachAround 114 = .ok (.iload_n 3, 1) := by decide +kernel
theorem dX1_reachAround_115 : decode cX1_reachAround 115 = .ok (.ireturn, 1) := by decide +kernel
theorem dX1_addLake_0 : decode cX1_addLake 0 = .ok (.aload_n 0, 1) := by decide +kernel
theorem dX1_addLake_1 : decode cX1_addLake 1 = .ok (.getfield 27, 3) := by decide +kernel
theorem dX1_addLake_4 : decode cX1_addLake 4 = .ok (.iload_n 1, 1) := by decide +kernel
theorem dX1_addLake_5 : decode cX1_addLake 5 = .ok (.aload_n 0, 1) := by decide +kernel
theorem dX1_addLake_6 : decode cX1_addLake 6 = .ok (.getfield 61, 3) := by decide +kernel
theorem dX1_addLake_9 : decode cX1_addLake 9 = .ok (.iastore, 1) := by decide +kernel
theorem dX1_addLake_10 : decode cX1_addLake 10 = .ok (.aload_n 0, 1) := by decide +kernel
theorem dX1_addLake_11 : decode cX1_addLake 11 = .ok (.getfield 42, 3) := by decide +kernel
theorem dX1_addLake_14 : decode cX1_addLake 14 = .ok (.iconst 0, 1) := by decide +kernel
theorem dX1_addLake_15 : decode cX1_addLake 15 = .ok (.iload_n 1, 1) := by decide +kernel
theorem dX1_addLake_16 : decode cX1_addLake 16 = .ok (.iastore, 1) := by decide +kernel
theorem dX1_addLake_17 : decode cX1_addLake 17 = .ok (.iconst 1, 1) := by decide +kernel
theorem dX1_addLake_18 : decode cX1_addLake 18 = .ok (.istore_n 2, 1) := by decide +kernel
theorem dX1_addLake_19 : decode cX1_addLake 19 = .ok (.iconst 0, 1) := by decide +kernel
theorem dX1_addLake_20 : decode cX1_addLake 20 = .ok (.istore_n 3, 1) := by decide +kernel
theorem dX1_addLake_21 : decode cX1_addLake 21 = .ok (.iload_n 3, 1) := by decide +kernel
theorem dX1_addLake_22 : decode cX1_addLake 22 = .ok (.iload_n 2, 1) := by decide +kernel
theorem dX1_addLake_23 : decode cX1_addLake 23 = .ok (.if_icmp .ge 27, 3) := by decide +kernel
theorem dX1_addLake_26 : decode cX1_addLake 26 = .ok (.iload_n 3, 1) := by decide +kernel
theorem dX1_addLake_27 : decode cX1_addLake 27 = .ok (.bipush 120, 2) := by decide +kernel
theorem dX1_addLake_29 : decode cX1_addLake 29 = .ok (.if_icmp .ge 21, 3) := by decide +kernel
theorem dX1_addLake_32 : decode cX1_addLake 32 = .ok (.aload_n 0, 1) := by decide +kernel
theorem dX1_addLake_33 : decode cX1_addLake 33 = .ok (.aload_n 0, 1) := by decide +kernel
theorem dX1_addLake_34 : decode cX1_addLake 34 = .ok (.getfield 42, 3) := by decide +kernel
theorem dX1_addLake_37 : decode cX1_addLake 37 = .ok (.iload_n 3, 1) := by decide +kernel
theorem dX1_addLake_38 : decode cX1_addLake 38 = .ok (.iaload, 1) := by decide +kernel
theorem dX1_addLake_39 : decode cX1_addLake 39 = .ok (.iload_n 2, 1) := by decide +kernel
theorem dX1_addLake_40 : decode cX1_addLake 40 = .ok (.invokevirtual 142, 3) := by decide +kernel
theorem dX1_addLake_43 : decode cX1_addLake 43 = .ok (.istore_n 2, 1) := by decide +kernel
theorem dX1_addLake_44 : decode cX1_addLake 44 = .ok (.iinc 3 1, 3) := by decide +kernel
theorem dX1_addLake_47 : decode cX1_addLake 47 = .ok (.goto (-26), 3) := by decide +kernel
theorem dX1_addLake_50 : decode cX1_addLake 50 = .ok (.aload_n 0, 1) := by decide +kernel
theorem dX1_addLake_51 : decode cX1_addLake 51 = .ok (.getfield 30, 3) := by decide +kernel
theorem dX1_addLake_54 : decode cX1_addLake 54 = .ok (.aload_n 0, 1) := by decide +kernel
theorem dX1_addLake_55 : decode cX1_addLake 55 = .ok (.getfield 61, 3) := by decide +kernel
theorem dX1_addLake_58 : decode cX1_addLake 58 = .ok (.aload_n 0, 1) := by decide +kernel
theorem dX1_addLake_59 : decode cX1_addLake 59 = .ok (.getfield 57, 3) := by decide +kernel
theorem dX1_addLake_62 : decode cX1_addLake 62 = .ok (.iastore, 1) := by decide +kernel
theorem dX1_addLake_63 : decode cX1_addLake 63 = .ok (.aload_n 0, 1) := by decide +kernel
theorem dX1_addLake_64 : decode cX1_addLake 64 = .ok (.getfield 33, 3) := by decide +kernel
theorem dX1_addLake_67 : decode cX1_addLake 67 = .ok (.aload_n 0, 1) := by decide +kernel
theorem dX1_addLake_68 : decode cX1_addLake 68 = .ok (.getfield 61, 3) := by decide +kernel
theorem dX1_addLake_71 : decode cX1_addLake 71 = .ok (.iload_n 2, 1) := by decide +kernel
theorem dX1_addLake_72 : decode cX1_addLake 72 = .ok (.iastore, 1) := by decide +kernel
theorem dX1_addLake_73 : decode cX1_addLake 73 = .ok (.aload_n 0, 1) := by decide +kernel
theorem dX1_addLake_74 : decode cX1_addLake 74 = .ok (.getfield 36, 3) := by decide +kernel
theorem dX1_addLake_77 : decode cX1_addLake 77 = .ok (.aload_n 0, 1) := by decide +kernel
theorem dX1_addLake_78 : decode cX1_addLake 78 = .ok (.getfield 61, 3) := by decide +kernel
theorem dX1_addLake_81 : decode cX1_addLake 81 = .ok (.iload_n 1, 1) := by decide +kernel
theorem dX1_addLake_82 : decode cX1_addLake 82 = .ok (.iastore, 1) := by decide +kernel
theorem dX1_addLake_83 : decode cX1_addLake 83 = .ok (.aload_n 0, 1) := by decide +kernel
theorem dX1_addLake_84 : decode cX1_addLake 84 = .ok (.getfield 39, 3) := by decide +kernel
theorem dX1_addLake_87 : decode cX1_addLake 87 = .ok (.aload_n 0, 1) := by decide +kernel
theorem dX1_addLake_88 : decode cX1_addLake 88 = .ok (.getfield 61, 3) := by decide +kernel
theorem dX1_addLake_91 : decode cX1_addLake 91 = .ok (.aload_n 0, 1) := by decide +kernel
theorem dX1_addLake_92 : decode cX1_addLake 92 = .ok (.invokevirtual 145, 3) := by decide +kernel
theorem dX1_addLake_95 : decode cX1_addLake 95 = .ok (.iastore, 1) := by decide +kernel
theorem dX1_addLake_96 : decode cX1_addLake 96 = .ok (.aload_n 0, 1) := by decide +kernel
theorem dX1_addLake_97 : decode cX1_addLake 97 = .ok (.dup, 1) := by decide +kernel
theorem dX1_addLake_98 : decode cX1_addLake 98 = .ok (.getfield 61, 3) := by decide +kernel
theorem dX1_addLake_101 : decode cX1_addLake 101 = .ok (.iconst 1, 1) := by decide +kernel
theorem dX1_addLake_102 : decode cX1_addLake 102 = .ok (.iadd, 1) := by decide +kernel
theorem dX1_addLake_103 : decode cX1_addLake 103 = .ok (.putfield 61, 3) := by decide +kernel
theorem dX1_addLake_106 : decode cX1_addLake 106 = .ok (.return_, 1) := by decide +kernel
theorem dX1_drownAround_0 : decode cX1_drownAround 0 = .ok (.iload_n 2, 1) := by decide +kernel
theorem dX1_drownAround_1 : decode cX1_drownAround 1 = .ok (.istore_n 3, 1) := by decide +kernel
theorem dX1_drownAround_2 : decode cX1_drownAround 2 = .ok (.aload_n 0, 1) := by decide +kernel
theorem dX1_drownAround_3 : decode cX1_drownAround 3 = .ok (.getfield 49, 3) := by decide +kernel
theorem dX1_drownAround_6 : decode cX1_drownAround 6 = .ok (.getfield 105, 3) := by decide +kernel
theorem dX1_drownAround_9 : decode cX1_drownAround 9 = .ok (.iload_n 1, 1) := by decide +kernel
theorem dX1_drownAround_10 : decode cX1_drownAround 10 = .ok (.iaload, 1) := by decide +kernel
theorem dX1_drownAround_11 : decode cX1_drownAround 11 = .ok (.istore 4, 2) := by decide +kernel
theorem dX1_drownAround_13 : decode cX1_drownAround 13 = .ok (.iload 4, 2) := by decide +kernel
theorem dX1_drownAround_15 : decode cX1_drownAround 15 = .ok (.aload_n 0, 1) := by decide +kernel
theorem dX1_drownAround_16 : decode cX1_drownAround 16 = .ok (.getfield 49, 3) := by decide +kernel
theorem dX1_drownAround_19 : decode cX1_drownAround 19 = .ok (.getfield 105, 3) := by decide +kernel
theorem dX1_drownAround_22 : decode cX1_drownAround 22 = .ok (.iload_n 1, 1) := by decide +kernel
theorem dX1_drownAround_23 : decode cX1_drownAround 23 = .ok (.iconst 1, 1) := by decide +kernel
theorem dX1_drownAround_24 : decode cX1_drownAround 24 = .ok (.iadd, 1) := by decide +kernel
theorem dX1_drownAround_25 : decode cX1_drownAround 25 = .ok (.iaload, 1) := by decide +kernel
theorem dX1_drownAround_26 : decode cX1_drownAround 26 = .ok (.if_icmp .ge 95, 3) := by decide +kernel
theorem dX1_drownAround_29 : decode cX1_drownAround 29 = .ok (.aload_n 0, 1) := by decide +kernel
theorem dX1_drownAround_30 : decode cX1_drownAround 30 = .ok (.getfield 49, 3) := by decide +kernel
theorem dX1_drownAround_33 : decode cX1_drownAround 33 = .ok (.aload_n 0, 1) := by decide +kernel
theorem dX1_drownAround_34 : decode cX1_drownAround 34 = .ok (.getfield 49, 3) := by decide +kernel
theorem dX1_drownAround_37 : decode cX1_drownAround 37 = .ok (.getfield 108, 3) := by decide +kernel
theorem dX1_drownAround_40 : decode cX1_drownAround 40 = .ok (.iload 4, 2) := by decide +kernel
theorem dX1_drownAround_42 : decode cX1_drownAround 42 = .ok (.iaload, 1) := by decide +kernel
theorem dX1_drownAround_43 : decode cX1_drownAround 43 = .ok (.iload_n 1, 1) := by decide +kernel
theorem dX1_drownAround_44 : decode cX1_drownAround 44 = .ok (.invokevirtual 139, 3) := by decide +kernel
theorem dX1_drownAround_47 : decode cX1_drownAround 47 = .ok (.istore 5, 2) := by decide +kernel
theorem dX1_drownAround_49 : decode cX1_drownAround 49 = .ok (.aload_n 0, 1) := by decide +kernel
theorem dX1_drownAround_50 : decode cX1_drownAround 50 = .ok (.getfield 49, 3) := by decide +kernel
theorem dX1_drownAround_53 : decode cX1_drownAround 53 = .ok (.aload_n 0, 1) := by decide +kernel
theorem dX1_drownAround_54 : decode cX1_drownAround 54 = .ok (.getfield 49, 3) := by decide +kernel
theorem dX1_drownAround_57 : decode cX1_drownAround 57 = .ok (.getfield 108, 3) := by decide +kernel
theorem dX1_drownAround_60 : decode cX1_drownAround 60 = .ok (.iload 4, 2) := by decide +kernel
theorem dX1_drownAround_62 : decode cX1_drownAround 62 = .ok (.iaload, 1) := by decide +kernel
theorem dX1_drownAround_63 : decode cX1_drownAround 63 = .ok (.invokevirtual 111, 3) := by decide +kernel
theorem dX1_drownAround_66 : decode cX1_drownAround 66 = .ok (.ifCond .eq 49, 3) := by decide +kernel
theorem dX1_drownAround_69 : decode cX1_drownAround 69 = .ok (.aload_n 0, 1) := by decide +kernel
theorem dX1_drownAround_70 : decode cX1_drownAround 70 = .ok (.getfield 24, 3) := by decide +kernel
theorem dX1_drownAround_73 : decode cX1_drownAround 73 = .ok (.iload 5, 2) := by decide +kernel
theorem dX1_drownAround_75 : decode cX1_drownAround 75 = .ok (.iaload, 1) := by decide +kernel
theorem dX1_drownAround_76 : decode cX1_drownAround 76 = .ok (.aload_n 0, 1) := by decide +kernel
theorem dX1_drownAround_77 : decode cX1_drownAround 77 = .ok (.getfield 57, 3) := by decide +kernel
theorem dX1_drownAround_80 : decode cX1_drownAround 80 = .ok (.if_icmp .ne 35, 3) := by decide +kernel
theorem dX1_drownAround_83 : decode cX1_drownAround 83 = .ok (.aload_n 0, 1) := by decide +kernel
theorem dX1_drownAround_84 : decode cX1_drownAround 84 = .ok (.getfield 27, 3) := by decide +kernel
theorem dX1_drownAround_87 : decode cX1_drownAround 87 = .ok (.iload 5, 2) := by decide +kernel
theorem dX1_drownAround_89 : decode cX1_drownAround 89 = .ok (.iaload, 1) := by decide +kernel
theorem dX1_drownAround_90 : decode cX1_drownAround 90 = .ok (.ifCond .ge 25, 3) := by decide +kernel
theorem dX1_drownAround_93 : decode cX1_drownAround 93 = .ok (.aload_n 0, 1) := by decide +kernel
theorem dX1_drownAround_94 : decode cX1_drownAround 94 = .ok (.getfield 27, 3) := by decide +kernel
theorem dX1_drownAround_97 : decode cX1_drownAround 97 = .ok (.iload 5, 2) := by decide +kernel
theorem dX1_drownAround_99 : decode cX1_drownAround 99 = .ok (.aload_n 0, 1) := by decide +kernel
theorem dX1_drownAround_100 : decode cX1_drownAround 100 = .ok (.getfield 61, 3) := by decide +kernel
theorem dX1_drownAround_103 : decode cX1_drownAround 103 = .ok (.iastore, 1) := by decide +kernel
theorem dX1_drownAround_104 : decode cX1_drownAround 104 = .ok (.aload_n 0, 1) := by decide +kernel
theorem dX1_drownAround_105 : decode cX1_drownAround 105 = .ok (.getfield 42, 3) := by decide +kernel
theorem dX1_drownAround_108 : decode cX1_drownAround 108 = .ok (.iload_n 3, 1) := by decide +kernel
theorem dX1_drownAround_109 : decode cX1_drownAround 109 = .ok (.iload 5, 2) := by decide +kernel
theorem dX1_drownAround_111 : decode cX1_drownAround 111 = .ok (.iastore, 1) := by decide +kernel
theorem dX1_drownAround_112 : decode cX1_drownAround 112 = .ok (.iinc 3 1, 3) := by decide +kernel
theorem dX1_drownAround_115 : decode cX1_drownAround 115 = .ok (.iinc 4 1, 3) := by decide +kernel
theorem dX1_drownAround_118 : decode cX1_drownAround 118 = .ok (.goto (-105), 3) := by decide +kernel
theorem dX1_drownAround_121 : decode cX1_drownAround 121 = .ok (.iload_n 3, 1) := by decide +kernel
theorem dX1_drownAround_122 : decode cX1_drownAround 122 = .ok (.ireturn, 1) := by decide +kernel
theorem dX1_greatestRankOpened_0 : decode cX1_greatestRankOpened 0 = .ok (.iconst (-1), 1) := by decide +kernel
theorem dX1_greatestRankOpened_1 : decode cX1_greatestRankOpened 1 = .ok (.istore_n 1, 1) := by decide +kernel
theorem dX1_greatestRankOpened_2 : decode cX1_greatestRankOpened 2 = .ok (.iconst 1, 1) := by decide +kernel
theorem dX1_greatestRankOpened_3 : decode cX1_greatestRankOpened 3 = .ok (.istore_n 2, 1) := by decide +kernel
theorem dX1_greatestRankOpened_4 : decode cX1_greatestRankOpened 4 = .ok (.iload_n 2, 1) := by decide +kernel
theorem dX1_greatestRankOpened_5 : decode cX1_greatestRankOpened 5 = .ok (.aload_n 0, 1) := by decide +kernel
theorem dX1_greatestRankOpened_6 : decode cX1_greatestRankOpened 6 = .ok (.getfield 57, 3) := by decide +kernel
theorem dX1_greatestRankOpened_9 : decode cX1_greatestRankOpened 9 = .ok (.if_icmp .gt 28, 3) := by decide +kernel
theorem dX1_greatestRankOpened_12 : decode cX1_greatestRankOpened 12 = .ok (.iload_n 1, 1) := by decide +kernel
theorem dX1_greatestRankOpened_13 : decode cX1_greatestRankOpened 13 = .ok (.aload_n 0, 1) := by decide +kernel
theorem dX1_greatestRankOpened_14 : decode cX1_greatestRankOpened 14 = .ok (.getfield 49, 3) := by decide +kernel
theorem dX1_greatestRankOpened_17 : decode cX1_greatestRankOpened 17 = .ok (.getfield 118, 3) := by decide +kernel
theorem dX1_greatestRankOpened_20 : decode cX1_greatestRankOpened 20 = .ok (.aload_n 0, 1) := by decide +kernel
theorem dX1_greatestRankOpened_21 : decode cX1_greatestRankOpened 21 = .ok (.getfield 9, 3) := by decide +kernel
theorem dX1_greatestRankOpened_24 : decode cX1_greatestRankOpened 24 = .ok (.iload_n 2, 1) := by decide +kernel
theorem dX1_greatestRankOpened_25 : decode cX1_greatestRankOpened 25 = .ok (.iaload, 1) := by decide +kernel
theorem dX1_greatestRankOpened_26 : decode cX1_greatestRankOpened 26 = .ok (.iaload, 1) := by decide +kernel
theorem dX1_greatestRankOpened_27 : decode cX1_greatestRankOpened 27 = .ok (.invokestatic 148, 3) := by decide +kernel
theorem dX1_greatestRankOpened_30 : decode cX1_greatestRankOpened 30 = .ok (.istore_n 1, 1) := by decide +kernel
theorem dX1_greatestRankOpened_31 : decode cX1_greatestRankOpened 31 = .ok (.iinc 2 1, 3) := by decide +kernel
theorem dX1_greatestRankOpened_34 : decode cX1_greatestRankOpened 34 = .ok (.goto (-30), 3) := by decide +kernel
theorem dX1_greatestRankOpened_37 : decode cX1_greatestRankOpened 37 = .ok (.iload_n 1, 1) := by decide +kernel
theorem dX1_greatestRankOpened_38 : decode cX1_greatestRankOpened 38 = .ok (.ireturn, 1) := by decide +kernel
theorem dX2_init_0 : decode cX2_init 0 = .ok (.aload_n 0, 1) := by decide +kernel
theorem dX2_init_1 : decode cX2_init 1 = .ok (.invokespecial 3, 3) := by decide +kernel
theorem dX2_init_4 : decode cX2_init 4 = .ok (.aload_n 0, 1) := by decide +kernel
theorem dX2_init_5 : decode cX2_init 5 = .ok (.bipush 120, 2) := by decide +kernel
theorem dX2_init_7 : decode cX2_init 7 = .ok (.newarray .int, 2) := by decide +kernel
theorem dX2_init_9 : decode cX2_init 9 = .ok (.putfield 9, 3) := by decide +kernel
theorem dX2_init_12 : decode cX2_init 12 = .ok (.aload_n 0, 1) := by decide +kernel
theorem dX2_init_13 : decode cX2_init 13 = .ok (.bipush 120, 2) := by decide +kernel
end
section
theorem dX2_init_15 : decode cX2_init 15 = .ok (.newarray .boolean, 2) := by decide +kernel
theorem dX2_init_17 : decode cX2_init 17 = .ok (.putfield 15, 3) := by decide +kernel
theorem dX2_init_20 : decode cX2_init 20 = .ok (.aload_n 0, 1) := by decide +kernel
theorem dX2_init_21 : decode cX2_init 21 = .ok (.sipush 300, 3) := by decide +kernel
theorem dX2_init_24 : decode cX2_init 24 = .ok (.newarray .int, 2) := by decide +kernel
theorem dX2_init_26 : decode cX2_init 26 = .ok (.putfield 19, 3) := by decide +kernel
theorem dX2_init_29 : decode cX2_init 29 = .ok (.aload_n 0, 1) := by decide +kernel
theorem dX2_init_30 : decode cX2_init 30 = .ok (.sipush 300, 3) := by decide +kernel
theorem dX2_init_33 : decode cX2_init 33 = .ok (.newarray .int, 2) := by decide +kernel
theorem dX2_init_35 : decode cX2_init 35 = .ok (.putfield 22, 3) := by decide +kernel
theorem dX2_init_38 : decode cX2_init 38 = .ok (.aload_n 0, 1) := by decide +kernel
theorem dX2_init_39 : decode cX2_init 39 = .ok (.sipush 300, 3) := by decide +kernel
theorem dX2_init_42 : decode cX2_init 42 = .ok (.newarray .int, 2) := by decide +kernel
theorem dX2_init_44 : decode cX2_init 44 = .ok (.putfield 25, 3) := by decide +kernel
theorem dX2_init_47 : decode cX2_init 47 = .ok (.aload_n 0, 1) := by decide +kernel
theorem dX2_init_48 : decode cX2_init 48 = .ok (.sipush 300, 3) := by decide +kernel
theorem dX2_init_51 : decode cX2_init 51 = .ok (.newarray .int, 2) := by decide +kernel
theorem dX2_init_53 : decode cX2_init 53 = .ok (.putfield 28, 3) := by decide +kernel
theorem dX2_init_56 : decode cX2_init 56 = .ok (.aload_n 0, 1) := by decide +kernel
theorem dX2_init_57 : decode cX2_init 57 = .ok (.sipush 300, 3) := by decide +kernel
theorem dX2_init_60 : decode cX2_init 60 = .ok (.newarray .int, 2) := by decide +kernel
theorem dX2_init_62 : decode cX2_init 62 = .ok (.putfield 31, 3) := by decide +kernel
theorem dX2_init_65 : decode cX2_init 65 = .ok (.aload_n 0, 1) := by decide +kernel
theorem dX2_init_66 : decode cX2_init 66 = .ok (.bipush 121, 2) := by decide +kernel
theorem dX2_init_68 : decode cX2_init 68 = .ok (.newarray .int, 2) := by decide +kernel
theorem dX2_init_70 : decode cX2_init 70 = .ok (.putfield 34, 3) := by decide +kernel
theorem dX2_init_73 : decode cX2_init 73 = .ok (.aload_n 0, 1) := by decide +kernel
theorem dX2_init_74 : decode cX2_init 74 = .ok (.sipush 600, 3) := by decide +kernel
theorem dX2_init_77 : decode cX2_init 77 = .ok (.newarray .int, 2) := by decide +kernel
theorem dX2_init_79 : decode cX2_init 79 = .ok (.putfield 37, 3) := by decide +kernel
theorem dX2_init_82 : decode cX2_init 82 = .ok (.return_, 1) := by decide +kernel
theorem dX2_hasPore_0 : decode cX2_hasPore 0 = .ok (.iload_n 1, 1) := by decide +kernel
theorem dX2_hasPore_1 : decode cX2_hasPore 1 = .ok (.ifCond .lt 15, 3) := by decide +kernel
theorem dX2_hasPore_4 : decode cX2_hasPore 4 = .ok (.iload_n 1, 1) := by decide +kernel
theorem dX2_hasPore_5 : decode cX2_hasPore 5 = .ok (.aload_n 0, 1) := by decide +kernel
theorem dX2_hasPore_6 : decode cX2_hasPore 6 = .ok (.getfield 40, 3) := by decide +kernel
theorem dX2_hasPore_9 : decode cX2_hasPore 9 = .ok (.if_icmp .ge 7, 3) := by decide +kernel
theorem dX2_hasPore_12 : decode cX2_hasPore 12 = .ok (.iconst 1, 1) := by decide +kernel
theorem dX2_hasPore_13 : decode cX2_hasPore 13 = .ok (.goto 4, 3) := by decide +kernel
theorem dX2_hasPore_16 : decode cX2_hasPore 16 = .ok (.iconst 0, 1) := by decide +kernel
theorem dX2_hasPore_17 : decode cX2_hasPore 17 = .ok (.ireturn, 1) := by decide +kernel
theorem dX2_hasThroat_0 : decode cX2_hasThroat 0 = .ok (.iload_n 1, 1) := by decide +kernel
theorem dX2_hasThroat_1 : decode cX2_hasThroat 1 = .ok (.ifCond .lt 15, 3) := by decide +kernel
theorem dX2_hasThroat_4 : decode cX2_hasThroat 4 = .ok (.iload_n 1, 1) := by decide +kernel
theorem dX2_hasThroat_5 : decode cX2_hasThroat 5 = .ok (.aload_n 0, 1) := by decide +kernel
theorem dX2_hasThroat_6 : decode cX2_hasThroat 6 = .ok (.getfield 44, 3) := by decide +kernel
theorem dX2_hasThroat_9 : decode cX2_hasThroat 9 = .ok (.if_icmp .ge 7, 3) := by decide +kernel
theorem dX2_hasThroat_12 : decode cX2_hasThroat 12 = .ok (.iconst 1, 1) := by decide +kernel
theorem dX2_hasThroat_13 : decode cX2_hasThroat 13 = .ok (.goto 4, 3) := by decide +kernel
theorem dX2_hasThroat_16 : decode cX2_hasThroat 16 = .ok (.iconst 0, 1) := by decide +kernel
theorem dX2_hasThroat_17 : decode cX2_hasThroat 17 = .ok (.ireturn, 1) := by decide +kernel
theorem dX2_isOpen_0 : decode cX2_isOpen 0 = .ok (.aload_n 0, 1) := by decide +kernel
theorem dX2_isOpen_1 : decode cX2_isOpen 1 = .ok (.getfield 28, 3) := by decide +kernel
theorem dX2_isOpen_4 : decode cX2_isOpen 4 = .ok (.iload_n 1, 1) := by decide +kernel
theorem dX2_isOpen_5 : decode cX2_isOpen 5 = .ok (.iaload, 1) := by decide +kernel
theorem dX2_isOpen_6 : decode cX2_isOpen 6 = .ok (.ifCond .lt 7, 3) := by decide +kernel
theorem dX2_isOpen_9 : decode cX2_isOpen 9 = .ok (.iconst 1, 1) := by decide +kernel
theorem dX2_isOpen_10 : decode cX2_isOpen 10 = .ok (.goto 4, 3) := by decide +kernel
theorem dX2_isOpen_13 : decode cX2_isOpen 13 = .ok (.iconst 0, 1) := by decide +kernel
theorem dX2_isOpen_14 : decode cX2_isOpen 14 = .ok (.ireturn, 1) := by decide +kernel
theorem dX2_across_0 : decode cX2_across 0 = .ok (.aload_n 0, 1) := by decide +kernel
theorem dX2_across_1 : decode cX2_across 1 = .ok (.getfield 19, 3) := by decide +kernel
theorem dX2_across_4 : decode cX2_across 4 = .ok (.iload_n 1, 1) := by decide +kernel
theorem dX2_across_5 : decode cX2_across 5 = .ok (.iaload, 1) := by decide +kernel
theorem dX2_across_6 : decode cX2_across 6 = .ok (.iload_n 2, 1) := by decide +kernel
theorem dX2_across_7 : decode cX2_across 7 = .ok (.if_icmp .ne 12, 3) := by decide +kernel
theorem dX2_across_10 : decode cX2_across 10 = .ok (.aload_n 0, 1) := by decide +kernel
theorem dX2_across_11 : decode cX2_across 11 = .ok (.getfield 22, 3) := by decide +kernel
theorem dX2_across_14 : decode cX2_across 14 = .ok (.iload_n 1, 1) := by decide +kernel
theorem dX2_across_15 : decode cX2_across 15 = .ok (.iaload, 1) := by decide +kernel
theorem dX2_across_16 : decode cX2_across 16 = .ok (.goto 9, 3) := by decide +kernel
theorem dX2_across_19 : decode cX2_across 19 = .ok (.aload_n 0, 1) := by decide +kernel
theorem dX2_across_20 : decode cX2_across 20 = .ok (.getfield 19, 3) := by decide +kernel
theorem dX2_across_23 : decode cX2_across 23 = .ok (.iload_n 1, 1) := by decide +kernel
theorem dX2_across_24 : decode cX2_across 24 = .ok (.iaload, 1) := by decide +kernel
theorem dX2_across_25 : decode cX2_across 25 = .ok (.ireturn, 1) := by decide +kernel
theorem dX2_addPore_0 : decode cX2_addPore 0 = .ok (.aload_n 0, 1) := by decide +kernel
theorem dX2_addPore_1 : decode cX2_addPore 1 = .ok (.getfield 40, 3) := by decide +kernel
theorem dX2_addPore_4 : decode cX2_addPore 4 = .ok (.istore_n 2, 1) := by decide +kernel
theorem dX2_addPore_5 : decode cX2_addPore 5 = .ok (.aload_n 0, 1) := by decide +kernel
theorem dX2_addPore_6 : decode cX2_addPore 6 = .ok (.dup, 1) := by decide +kernel
theorem dX2_addPore_7 : decode cX2_addPore 7 = .ok (.getfield 40, 3) := by decide +kernel
theorem dX2_addPore_10 : decode cX2_addPore 10 = .ok (.iconst 1, 1) := by decide +kernel
theorem dX2_addPore_11 : decode cX2_addPore 11 = .ok (.iadd, 1) := by decide +kernel
theorem dX2_addPore_12 : decode cX2_addPore 12 = .ok (.putfield 40, 3) := by decide +kernel
theorem dX2_addPore_15 : decode cX2_addPore 15 = .ok (.aload_n 0, 1) := by decide +kernel
theorem dX2_addPore_16 : decode cX2_addPore 16 = .ok (.getfield 9, 3) := by decide +kernel
theorem dX2_addPore_19 : decode cX2_addPore 19 = .ok (.iload_n 2, 1) := by decide +kernel
theorem dX2_addPore_20 : decode cX2_addPore 20 = .ok (.iload_n 1, 1) := by decide +kernel
theorem dX2_addPore_21 : decode cX2_addPore 21 = .ok (.iastore, 1) := by decide +kernel
theorem dX2_addPore_22 : decode cX2_addPore 22 = .ok (.aload_n 0, 1) := by decide +kernel
theorem dX2_addPore_23 : decode cX2_addPore 23 = .ok (.getfield 34, 3) := by decide +kernel
theorem dX2_addPore_26 : decode cX2_addPore 26 = .ok (.aload_n 0, 1) := by decide +kernel
theorem dX2_addPore_27 : decode cX2_addPore 27 = .ok (.getfield 40, 3) := by decide +kernel
theorem dX2_addPore_30 : decode cX2_addPore 30 = .ok (.aload_n 0, 1) := by decide +kernel
theorem dX2_addPore_31 : decode cX2_addPore 31 = .ok (.getfield 34, 3) := by decide +kernel
theorem dX2_addPore_34 : decode cX2_addPore 34 = .ok (.iload_n 2, 1) := by decide +kernel
theorem dX2_addPore_35 : decode cX2_addPore 35 = .ok (.iaload, 1) := by decide +kernel
theorem dX2_addPore_36 : decode cX2_addPore 36 = .ok (.iastore, 1) := by decide +kernel
theorem dX2_addPore_37 : decode cX2_addPore 37 = .ok (.iload_n 2, 1) := by decide +kernel
theorem dX2_addPore_38 : decode cX2_addPore 38 = .ok (.ireturn, 1) := by decide +kernel
theorem dX2_addThroat_0 : decode cX2_addThroat 0 = .ok (.aload_n 0, 1) := by decide +kernel
theorem dX2_addThroat_1 : decode cX2_addThroat 1 = .ok (.getfield 44, 3) := by decide +kernel
theorem dX2_addThroat_4 : decode cX2_addThroat 4 = .ok (.istore_n 3, 1) := by decide +kernel
theorem dX2_addThroat_5 : decode cX2_addThroat 5 = .ok (.aload_n 0, 1) := by decide +kernel
theorem dX2_addThroat_6 : decode cX2_addThroat 6 = .ok (.dup, 1) := by decide +kernel
theorem dX2_addThroat_7 : decode cX2_addThroat 7 = .ok (.getfield 44, 3) := by decide +kernel
theorem dX2_addThroat_10 : decode cX2_addThroat 10 = .ok (.iconst 1, 1) := by decide +kernel
theorem dX2_addThroat_11 : decode cX2_addThroat 11 = .ok (.iadd, 1) := by decide +kernel
theorem dX2_addThroat_12 : decode cX2_addThroat 12 = .ok (.putfield 44, 3) := by decide +kernel
theorem dX2_addThroat_15 : decode cX2_addThroat 15 = .ok (.aload_n 0, 1) := by decide +kernel
theorem dX2_addThroat_16 : decode cX2_addThroat 16 = .ok (.getfield 19, 3) := by decide +kernel
theorem dX2_addThroat_19 : decode cX2_addThroat 19 = .ok (.iload_n 3, 1) := by decide +kernel
theorem dX2_addThroat_20 : decode cX2_addThroat 20 = .ok (.iload_n 1, 1) := by decide +kernel
theorem dX2_addThroat_21 : decode cX2_addThroat 21 = .ok (.iastore, 1) := by decide +kernel
theorem dX2_addThroat_22 : decode cX2_addThroat 22 = .ok (.aload_n 0, 1) := by decide +kernel
theorem dX2_addThroat_23 : decode cX2_addThroat 23 = .ok (.getfield 22, 3) := by decide +kernel
theorem dX2_addThroat_26 : decode cX2_addThroat 26 = .ok (.iload_n 3, 1) := by decide +kernel
theorem dX2_addThroat_27 : decode cX2_addThroat 27 = .ok (.iload_n 2, 1) := by decide +kernel
theorem dX2_addThroat_28 : decode cX2_addThroat 28 = .ok (.iastore, 1) := by decide +kernel
theorem dX2_addThroat_29 : decode cX2_addThroat 29 = .ok (.aload_n 0, 1) := by decide +kernel
theorem dX2_addThroat_30 : decode cX2_addThroat 30 = .ok (.iload_n 1, 1) := by decide +kernel
theorem dX2_addThroat_31 : decode cX2_addThroat 31 = .ok (.iload_n 3, 1) := by decide +kernel
theorem dX2_addThroat_32 : decode cX2_addThroat 32 = .ok (.invokevirtual 47, 3) := by decide +kernel
theorem dX2_addThroat_35 : decode cX2_addThroat 35 = .ok (.aload_n 0, 1) := by decide +kernel
theorem dX2_addThroat_36 : decode cX2_addThroat 36 = .ok (.iload_n 2, 1) := by decide +kernel
theorem dX2_addThroat_37 : decode cX2_addThroat 37 = .ok (.iload_n 3, 1) := by decide +kernel
theorem dX2_addThroat_38 : decode cX2_addThroat 38 = .ok (.invokevirtual 47, 3) := by decide +kernel
theorem dX2_addThroat_41 : decode cX2_addThroat 41 = .ok (.aload_n 0, 1) := by decide +kernel
theorem dX2_addThroat_42 : decode cX2_addThroat 42 = .ok (.iload_n 3, 1) := by decide +kernel
theorem dX2_addThroat_43 : decode cX2_addThroat 43 = .ok (.invokevirtual 51, 3) := by decide +kernel
theorem dX2_addThroat_46 : decode cX2_addThroat 46 = .ok (.iload_n 3, 1) := by decide +kernel
theorem dX2_addThroat_47 : decode cX2_addThroat 47 = .ok (.ireturn, 1) := by decide +kernel
theorem dX2_settle_0 : decode cX2_settle 0 = .ok (.aload_n 0, 1) := by decide +kernel
theorem dX2_settle_1 : decode cX2_settle 1 = .ok (.iload_n 1, 1) := by decide +kernel
theorem dX2_settle_2 : decode cX2_settle 2 = .ok (.invokevirtual 55, 3) := by decide +kernel
theorem dX2_settle_5 : decode cX2_settle 5 = .ok (.ifCond .eq 8, 3) := by decide +kernel
theorem dX2_settle_8 : decode cX2_settle 8 = .ok (.aload_n 0, 1) := by decide +kernel
theorem dX2_settle_9 : decode cX2_settle 9 = .ok (.iload_n 1, 1) := by decide +kernel
theorem dX2_settle_10 : decode cX2_settle 10 = .ok (.invokevirtual 59, 3) := by decide +kernel
theorem dX2_settle_13 : decode cX2_settle 13 = .ok (.aload_n 0, 1) := by decide +kernel
theorem dX2_settle_14 : decode cX2_settle 14 = .ok (.getfield 25, 3) := by decide +kernel
theorem dX2_settle_17 : decode cX2_settle 17 = .ok (.iload_n 1, 1) := by decide +kernel
theorem dX2_settle_18 : decode cX2_settle 18 = .ok (.iload_n 2, 1) := by decide +kernel
theorem dX2_settle_19 : decode cX2_settle 19 = .ok (.iastore, 1) := by decide +kernel
theorem dX2_settle_20 : decode cX2_settle 20 = .ok (.iload_n 3, 1) := by decide +kernel
theorem dX2_settle_21 : decode cX2_settle 21 = .ok (.ifCond .eq 8, 3) := by decide +kernel
theorem dX2_settle_24 : decode cX2_settle 24 = .ok (.aload_n 0, 1) := by decide +kernel
theorem dX2_settle_25 : decode cX2_settle 25 = .ok (.iload_n 1, 1) := by decide +kernel
theorem dX2_settle_26 : decode cX2_settle 26 = .ok (.invokevirtual 51, 3) := by decide +kernel
theorem dX2_settle_29 : decode cX2_settle 29 = .ok (.return_, 1) := by decide +kernel
theorem dX2_listAt_0 : decode cX2_listAt 0 = .ok (.aload_n 0, 1) := by decide +kernel
theorem dX2_listAt_1 : decode cX2_listAt 1 = .ok (.getfield 34, 3) := by decide +kernel
theorem dX2_listAt_4 : decode cX2_listAt 4 = .ok (.iload_n 1, 1) := by decide +kernel
theorem dX2_listAt_5 : decode cX2_listAt 5 = .ok (.iconst 1, 1) := by decide +kernel
theorem dX2_listAt_6 : decode cX2_listAt 6 = .ok (.iadd, 1) := by decide +kernel
theorem dX2_listAt_7 : decode cX2_listAt 7 = .ok (.iaload, 1) := by decide +kernel
theorem dX2_listAt_8 : decode cX2_listAt 8 = .ok (.istore_n 3, 1) := by decide +kernel
theorem dX2_listAt_9 : decode cX2_listAt 9 = .ok (.aload_n 0, 1) := by decide +kernel
theorem dX2_listAt_10 : decode cX2_listAt 10 = .ok (.getfield 34, 3) := by decide +kernel
theorem dX2_listAt_13 : decode cX2_listAt 13 = .ok (.aload_n 0, 1) := by decide +kernel
theorem dX2_listAt_14 : decode cX2_listAt 14 = .ok (.getfield 40, 3) := by decide +kernel
theorem dX2_listAt_17 : decode cX2_listAt 17 = .ok (.iaload, 1) := by decide +kernel
theorem dX2_listAt_18 : decode cX2_listAt 18 = .ok (.istore 4, 2) := by decide +kernel
theorem dX2_listAt_20 : decode cX2_listAt 20 = .ok (.iload 4, 2) := by decide +kernel
theorem dX2_listAt_22 : decode cX2_listAt 22 = .ok (.iload_n 3, 1) := by decide +kernel
theorem dX2_listAt_23 : decode cX2_listAt 23 = .ok (.if_icmp .le 25, 3) := by decide +kernel
theorem dX2_listAt_26 : decode cX2_listAt 26 = .ok (.aload_n 0, 1) := by decide +kernel
theorem dX2_listAt_27 : decode cX2_listAt 27 = .ok (.getfield 37, 3) := by decide +kernel
theorem dX2_listAt_30 : decode cX2_listAt 30 = .ok (.iload 4, 2) := by decide +kernel
theorem dX2_listAt_32 : decode cX2_listAt 32 = .ok (.aload_n 0, 1) := by decide +kernel
theorem dX2_listAt_33 : decode cX2_listAt 33 = .ok (.getfield 37, 3) := by decide +kernel
theorem dX2_listAt_36 : decode cX2_listAt 36 = .ok (.iload 4, 2) := by decide +kernel
theorem dX2_listAt_38 : decode cX2_listAt 38 = .ok (.iconst 1, 1) := by decide +kernel
theorem dX2_listAt_39 : decode cX2_listAt 39 = .ok (.isub, 1) := by decide +kernel
theorem dX2_listAt_40 : decode cX2_listAt 40 = .ok (.iaload, 1) := by decide +kernel
theorem dX2_listAt_41 : decode cX2_listAt 41 = .ok (.iastore, 1) := by decide +kernel
theorem dX2_listAt_42 : decode cX2_listAt 42 = .ok (.iinc 4 (-1), 3) := by decide +kernel
theorem dX2_listAt_45 : decode cX2_listAt 45 = .ok (.goto (-25), 3) := by decide +kernel
theorem dX2_listAt_48 : decode cX2_listAt 48 = .ok (.aload_n 0, 1) := by decide +kernel
theorem dX2_listAt_49 : decode cX2_listAt 49 = .ok (.getfield 37, 3) := by decide +kernel
theorem dX2_listAt_52 : decode cX2_listAt 52 = .ok (.iload_n 3, 1) := by decide +kernel
theorem dX2_listAt_53 : decode cX2_listAt 53 = .ok (.iload_n 2, 1) := by decide +kernel
theorem dX2_listAt_54 : decode cX2_listAt 54 = .ok (.iastore, 1) := by decide +kernel
theorem dX2_listAt_55 : decode cX2_listAt 55 = .ok (.iload_n 1, 1) := by decide +kernel
theorem dX2_listAt_56 : decode cX2_listAt 56 = .ok (.iconst 1, 1) := by decide +kernel
theorem dX2_listAt_57 : decode cX2_listAt 57 = .ok (.iadd, 1) := by decide +kernel
theorem dX2_listAt_58 : decode cX2_listAt 58 = .ok (.istore 4, 2) := by decide +kernel
theorem dX2_listAt_60 : decode cX2_listAt 60 = .ok (.iload 4, 2) := by decide +kernel
theorem dX2_listAt_62 : decode cX2_listAt 62 = .ok (.aload_n 0, 1) := by decide +kernel
theorem dX2_listAt_63 : decode cX2_listAt 63 = .ok (.getfield 40, 3) := by decide +kernel
theorem dX2_listAt_66 : decode cX2_listAt 66 = .ok (.if_icmp .gt 20, 3) := by decide +kernel
theorem dX2_listAt_69 : decode cX2_listAt 69 = .ok (.aload_n 0, 1) := by decide +kernel
theorem dX2_listAt_70 : decode cX2_listAt 70 = .ok (.getfield 34, 3) := by decide +kernel
theorem dX2_listAt_73 : decode cX2_listAt 73 = .ok (.iload 4, 2) := by decide +kernel
theorem dX2_listAt_75 : decode cX2_listAt 75 = .ok (.dup2, 1) := by decide +kernel
theorem dX2_listAt_76 : decode cX2_listAt 76 = .ok (.iaload, 1) := by decide +kernel
theorem dX2_listAt_77 : decode cX2_listAt 77 = .ok (.iconst 1, 1) := by decide +kernel
theorem dX2_listAt_78 : decode cX2_listAt 78 = .ok (.iadd, 1) := by decide +kernel
theorem dX2_listAt_79 : decode cX2_listAt 79 = .ok (.iastore, 1) := by decide +kernel
theorem dX2_listAt_80 : decode cX2_listAt 80 = .ok (.iinc 4 1, 3) := by decide +kernel
theorem dX2_listAt_83 : decode cX2_listAt 83 = .ok (.goto (-23), 3) := by decide +kernel
theorem dX2_listAt_86 : decode cX2_listAt 86 = .ok (.return_, 1) := by decide +kernel
theorem dX2_rankOut_0 : decode cX2_rankOut 0 = .ok (.aload_n 0, 1) := by decide +kernel
theorem dX2_rankOut_1 : decode cX2_rankOut 1 = .ok (.dup, 1) := by decide +kernel
theorem dX2_rankOut_2 : decode cX2_rankOut 2 = .ok (.getfield 62, 3) := by decide +kernel
theorem dX2_rankOut_5 : decode cX2_rankOut 5 = .ok (.iconst 1, 1) := by decide +kernel
theorem dX2_rankOut_6 : decode cX2_rankOut 6 = .ok (.isub, 1) := by decide +kernel
theorem dX2_rankOut_7 : decode cX2_rankOut 7 = .ok (.putfield 62, 3) := by decide +kernel
theorem dX2_rankOut_10 : decode cX2_rankOut 10 = .ok (.aload_n 0, 1) := by decide +kernel
theorem dX2_rankOut_11 : decode cX2_rankOut 11 = .ok (.getfield 28, 3) := by decide +kernel
theorem dX2_rankOut_14 : decode cX2_rankOut 14 = .ok (.iload_n 1, 1) := by decide +kernel
theorem dX2_rankOut_15 : decode cX2_rankOut 15 = .ok (.iaload, 1) := by decide +kernel
theorem dX2_rankOut_16 : decode cX2_rankOut 16 = .ok (.istore_n 2, 1) := by decide +kernel
theorem dX2_rankOut_17 : decode cX2_rankOut 17 = .ok (.iload_n 2, 1) := by decide +kernel
theorem dX2_rankOut_18 : decode cX2_rankOut 18 = .ok (.aload_n 0, 1) := by decide +kernel
theorem dX2_rankOut_19 : decode cX2_rankOut 19 = .ok (.getfield 62, 3) := by decide +kernel
theorem dX2_rankOut_22 : decode cX2_rankOut 22 = .ok (.if_icmp .ge 22, 3) := by decide +kernel
theorem dX2_rankOut_25 : decode cX2_rankOut 25 = .ok (.aload_n 0, 1) := by decide +kernel
theorem dX2_rankOut_26 : decode cX2_rankOut 26 = .ok (.aload_n 0, 1) := by decide +kernel
theorem dX2_rankOut_27 : decode cX2_rankOut 27 = .ok (.getfield 31, 3) := by decide +kernel
theorem dX2_rankOut_30 : decode cX2_rankOut 30 = .ok (.iload_n 2, 1) := by decide +kernel
theorem dX2_rankOut_31 : decode cX2_rankOut 31 = .ok (.iconst 1, 1) := by decide +kernel
theorem dX2_rankOut_32 : decode cX2_rankOut 32 = .ok (.iadd, 1) := by decide +kernel
theorem dX2_rankOut_33 : decode cX2_rankOut 33 = .ok (.iaload, 1) := by decide +kernel
theorem dX2_rankOut_34 : decode cX2_rankOut 34 = .ok (.iload_n 2, 1) := by decide +kernel
theorem dX2_rankOut_35 : decode cX2_rankOut 35 = .ok (.invokevirtual 65, 3) := by decide +kernel
theorem dX2_rankOut_38 : decode cX2_rankOut 38 = .ok (.iinc 2 1, 3) := by decide +kernel
theorem dX2_rankOut_41 : decode cX2_rankOut 41 = .ok (.goto (-24), 3) := by decide +kernel
theorem dX2_rankOut_44 : decode cX2_rankOut 44 = .ok (.aload_n 0, 1) := by decide +kernel
theorem dX2_rankOut_45 : decode cX2_rankOut 45 = .ok (.getfield 28, 3) := by decide +kernel
theorem dX2_rankOut_48 : decode cX2_rankOut 48 = .ok (.iload_n 1, 1) := by decide +kernel
theorem dX2_rankOut_49 : decode cX2_rankOut 49 = .ok (.bipush (-2), 2) := by decide +kernel
theorem dX2_rankOut_51 : decode cX2_rankOut 51 = .ok (.iastore, 1) := by decide +kernel
theorem dX2_rankOut_52 : decode cX2_rankOut 52 = .ok (.return_, 1) := by decide +kernel
theorem dX2_rankIn_0 : decode cX2_rankIn 0 = .ok (.aload_n 0, 1) := by decide +kernel
theorem dX2_rankIn_1 : decode cX2_rankIn 1 = .ok (.getfield 62, 3) := by decide +kernel
theorem dX2_rankIn_4 : decode cX2_rankIn 4 = .ok (.istore_n 2, 1) := by decide +kernel
theorem dX2_rankIn_5 : decode cX2_rankIn 5 = .ok (.iload_n 2, 1) := by decide +kernel
theorem dX2_rankIn_6 : decode cX2_rankIn 6 = .ok (.ifCond .le 38, 3) := by decide +kernel
theorem dX2_rankIn_9 : decode cX2_rankIn 9 = .ok (.aload_n 0, 1) := by decide +kernel
theorem dX2_rankIn_10 : decode cX2_rankIn 10 = .ok (.iload_n 1, 1) := by decide +kernel
theorem dX2_rankIn_11 : decode cX2_rankIn 11 = .ok (.aload_n 0, 1) := by decide +kernel
theorem dX2_rankIn_12 : decode cX2_rankIn 12 = .ok (.getfield 31, 3) := by decide +kernel
theorem dX2_rankIn_15 : decode cX2_rankIn 15 = .ok (.iload_n 2, 1) := by decide +kernel
theorem dX2_rankIn_16 : decode cX2_rankIn 16 = .ok (.iconst 1, 1) := by decide +kernel
theorem dX2_rankIn_17 : decode cX2_rankIn 17 = .ok (.isub, 1) := by decide +kernel
theorem dX2_rankIn_18 : decode cX2_rankIn 18 = .ok (.iaload, 1) := by decide +kernel
theorem dX2_rankIn_19 : decode cX2_rankIn 19 = .ok (.invokevirtual 68, 3) := by decide +kernel
theorem dX2_rankIn_22 : decode cX2_rankIn 22 = .ok (.ifCond .eq 22, 3) := by decide +kernel
theorem dX2_rankIn_25 : decode cX2_rankIn 25 = .ok (.aload_n 0, 1) := by decide +kernel
theorem dX2_rankIn_26 : decode cX2_rankIn 26 = .ok (.aload_n 0, 1) := by decide +kernel
theorem dX2_rankIn_27 : decode cX2_rankIn 27 = .ok (.getfield 31, 3) := by decide +kernel
theorem dX2_rankIn_30 : decode cX2_rankIn 30 = .ok (.iload_n 2, 1) := by decide +kernel
theorem dX2_rankIn_31 : decode cX2_rankIn 31 = .ok (.iconst 1, 1) := by decide +kernel
theorem dX2_rankIn_32 : decode cX2_rankIn 32 = .ok (.isub, 1) := by decide +kernel
theorem dX2_rankIn_33 : decode cX2_rankIn 33 = .ok (.iaload, 1) := by decide +kernel
theorem dX2_rankIn_34 : decode cX2_rankIn 34 = .ok (.iload_n 2, 1) := by decide +kernel
theorem dX2_rankIn_35 : decode cX2_rankIn 35 = .ok (.invokevirtual 65, 3) := by decide +kernel
theorem dX2_rankIn_38 : decode cX2_rankIn 38 = .ok (.iinc 2 (-1), 3) := by decide +kernel
theorem dX2_rankIn_41 : decode cX2_rankIn 41 = .ok (.goto (-36), 3) := by decide +kernel
theorem dX2_rankIn_44 : decode cX2_rankIn 44 = .ok (.aload_n 0, 1) := by decide +kernel
theorem dX2_rankIn_45 : decode cX2_rankIn 45 = .ok (.iload_n 1, 1) := by decide +kernel
theorem dX2_rankIn_46 : decode cX2_rankIn 46 = .ok (.iload_n 2, 1) := by decide +kernel
theorem dX2_rankIn_47 : decode cX2_rankIn 47 = .ok (.invokevirtual 65, 3) := by decide +kernel
theorem dX2_rankIn_50 : decode cX2_rankIn 50 = .ok (.aload_n 0, 1) := by decide +kernel
theorem dX2_rankIn_51 : decode cX2_rankIn 51 = .ok (.dup, 1) := by decide +kernel
theorem dX2_rankIn_52 : decode cX2_rankIn 52 = .ok (.getfield 62, 3) := by decide +kernel
theorem dX2_rankIn_55 : decode cX2_rankIn 55 = .ok (.iconst 1, 1) := by decide +kernel
theorem dX2_rankIn_56 : decode cX2_rankIn 56 = .ok (.iadd, 1) := by decide +kernel
theorem dX2_rankIn_57 : decode cX2_rankIn 57 = .ok (.putfield 62, 3) := by decide +kernel
theorem dX2_rankIn_60 : decode cX2_rankIn 60 = .ok (.return_, 1) := by decide +kernel
theorem dX2_place_0 : decode cX2_place 0 = .ok (.aload_n 0, 1) := by decide +kernel
theorem dX2_place_1 : decode cX2_place 1 = .ok (.getfield 31, 3) := by decide +kernel
theorem dX2_place_4 : decode cX2_place 4 = .ok (.iload_n 2, 1) := by decide +kernel
theorem dX2_place_5 : decode cX2_place 5 = .ok (.iload_n 1, 1) := by decide +kernel
theorem dX2_place_6 : decode cX2_place 6 = .ok (.iastore, 1) := by decide +kernel
theorem dX2_place_7 : decode cX2_place 7 = .ok (.aload_n 0, 1) := by decide +kernel
theorem dX2_place_8 : decode cX2_place 8 = .ok (.getfield 28, 3) := by decide +kernel
theorem dX2_place_11 : decode cX2_place 11 = .ok (.iload_n 1, 1) := by decide +kernel
theorem dX2_place_12 : decode cX2_place 12 = .ok (.iload_n 2, 1) := by decide +kernel
theorem dX2_place_13 : decode cX2_place 13 = .ok (.iastore, 1) := by decide +kernel
theorem dX2_place_14 : decode cX2_place 14 = .ok (.return_, 1) := by decide +kernel
theorem dX2_isAhead_0 : decode cX2_isAhead 0 = .ok (.aload_n 0, 1) := by decide +kernel
theorem dX2_isAhead_1 : decode cX2_isAhead 1 = .ok (.getfield 25, 3) := by decide +kernel
theorem dX2_isAhead_4 : decode cX2_isAhead 4 = .ok (.iload_n 1, 1) := by decide +kernel
theorem dX2_isAhead_5 : decode cX2_isAhead 5 = .ok (.iaload, 1) := by decide +kernel
theorem dX2_isAhead_6 : decode cX2_isAhead 6 = .ok (.aload_n 0, 1) := by decide +kernel
theorem dX2_isAhead_7 : decode cX2_isAhead 7 = .ok (.getfield 25, 3) := by decide +kernel
theorem dX2_isAhead_10 : decode cX2_isAhead 10 = .ok (.iload_n 2, 1) := by decide +kernel
theorem dX2_isAhead_11 : decode cX2_isAhead 11 = .ok (.iaload, 1) := by decide +kernel
theorem dX2_isAhead_12 : decode cX2_isAhead 12 = .ok (.if_icmp .lt 23, 3) := by decide +kernel
theorem dX2_isAhead_15 : decode cX2_isAhead 15 = .ok (.aload_n 0, 1) := by decide +kernel
theorem dX2_isAhead_16 : decode cX2_isAhead 16 = .ok (.getfield 25, 3) := by decide +kernel
theorem dX2_isAhead_19 : decode cX2_isAhead 19 = .ok (.iload_n 1, 1) := by decide +kernel
theorem dX2_isAhead_20 : decode cX2_isAhead 20 = .ok (.iaload, 1) := by decide +kernel
theorem dX2_isAhead_21 : decode cX2_isAhead 21 = .ok (.aload_n 0, 1) := by decide +kernel
theorem dX2_isAhead_22 : decode cX2_isAhead 22 = .ok (.getfield 25, 3) := by decide +kernel
theorem dX2_isAhead_25 : decode cX2_isAhead 25 = .ok (.iload_n 2, 1) := by decide +kernel
theorem dX2_isAhead_26 : decode cX2_isAhead 26 = .ok (.iaload, 1) := by decide +kernel
theorem dX2_isAhead_27 : decode cX2_isAhead 27 = .ok (.if_icmp .ne 12, 3) := by decide +kernel
theorem dX2_isAhead_30 : decode cX2_isAhead 30 = .ok (.iload_n 1, 1) := by decide +kernel
theorem dX2_isAhead_31 : decode cX2_isAhead 31 = .ok (.iload_n 2, 1) := by decide +kernel
theorem dX2_isAhead_32 : decode cX2_isAhead 32 = .ok (.if_icmp .ge 7, 3) := by decide +kernel
theorem dX2_isAhead_35 : decode cX2_isAhead 35 = .ok (.iconst 1, 1) := by decide +kernel
theorem dX2_isAhead_36 : decode cX2_isAhead 36 = .ok (.goto 4, 3) := by decide +kernel
theorem dX2_isAhead_39 : decode cX2_isAhead 39 = .ok (.iconst 0, 1) := by decide +kernel
theorem dX2_isAhead_40 : decode cX2_isAhead 40 = .ok (.ireturn, 1) := by decide +kernel
theorem dX3_init_0 : decode cX3_init 0 = .ok (.aload_n 0, 1) := by decide +kernel
theorem dX3_init_1 : decode cX3_init 1 = .ok (.invokespecial 3, 3) := by decide +kernel
theorem dX3_init_4 : decode cX3_init 4 = .ok (.aload_n 0, 1) := by decide +kernel
theorem dX3_init_5 : decode cX3_init 5 = .ok (.bipush 120, 2) := by decide +kernel
theorem dX3_init_7 : decode cX3_init 7 = .ok (.newarray .int, 2) := by decide +kernel
theorem dX3_init_9 : decode cX3_init 9 = .ok (.putfield 9, 3) := by decide +kernel
theorem dX3_init_12 : decode cX3_init 12 = .ok (.aload_n 0, 1) := by decide +kernel
theorem dX3_init_13 : decode cX3_init 13 = .ok (.bipush 120, 2) := by decide +kernel
theorem dX3_init_15 : decode cX3_init 15 = .ok (.newarray .int, 2) := by decide +kernel
theorem dX3_init_17 : decode cX3_init 17 = .ok (.putfield 15, 3) := by decide +kernel
theorem dX3_init_20 : decode cX3_init 20 = .ok (.aload_n 0, 1) := by decide +kernel
theorem dX3_init_21 : decode cX3_init 21 = .ok (.bipush 120, 2) := by decide +kernel
theorem dX3_init_23 : decode cX3_init 23 = .ok (.newarray .int, 2) := by decide +kernel
theorem dX3_init_25 : decode cX3_init 25 = .ok (.putfield 18, 3) := by decide +kernel
theorem dX3_init_28 : decode cX3_init 28 = .ok (.aload_n 0, 1) := by decide +kernel
theorem dX3_init_29 : decode cX3_init 29 = .ok (.bipush 120, 2) := by decide +kernel
theorem dX3_init_31 : decode cX3_init 31 = .ok (.newarray .int, 2) := by decide +kernel
theorem dX3_init_33 : decode cX3_init 33 = .ok (.putfield 21, 3) := by decide +kernel
theorem dX3_init_36 : decode cX3_init 36 = .ok (.aload_n 0, 1) := by decide +kernel
theorem dX3_init_37 : decode cX3_init 37 = .ok (.aload_n 1, 1) := by decide +kernel
theorem dX3_init_38 : decode cX3_init 38 = .ok (.putfield 24, 3) := by decide +kernel
theorem dX3_init_41 : decode cX3_init 41 = .ok (.return_, 1) := by decide +kernel
theorem dX3_flood_0 : decode cX3_flood 0 = .ok (.iconst 0, 1) := by decide +kernel
theorem dX3_flood_1 : decode cX3_flood 1 = .ok (.istore_n 1, 1) := by decide +kernel
theorem dX3_flood_2 : decode cX3_flood 2 = .ok (.iload_n 1, 1) := by decide +kernel
theorem dX3_flood_3 : decode cX3_flood 3 = .ok (.aload_n 0, 1) := by decide +kernel
theorem dX3_flood_4 : decode cX3_flood 4 = .ok (.getfield 24, 3) := by decide +kernel
theorem dX3_flood_7 : decode cX3_flood 7 = .ok (.getfield 28, 3) := by decide +kernel
theorem dX3_flood_10 : decode cX3_flood 10 = .ok (.if_icmp .ge 46, 3) := by decide +kernel
theorem dX3_flood_13 : decode cX3_flood 13 = .ok (.aload_n 0, 1) := by decide +kernel
theorem dX3_flood_14 : decode cX3_flood 14 = .ok (.getfield 9, 3) := by decide +kernel
theorem dX3_flood_17 : decode cX3_flood 17 = .ok (.iload_n 1, 1) := by decide +kernel
theorem dX3_flood_18 : decode cX3_flood 18 = .ok (.aload_n 0, 1) := by decide +kernel
theorem dX3_flood_19 : decode cX3_flood 19 = .ok (.getfield 24, 3) := by decide +kernel
theorem dX3_flood_22 : decode cX3_flood 22 = .ok (.getfield 34, 3) := by decide +kernel
theorem dX3_flood_25 : decode cX3_flood 25 = .ok (.iload_n 1, 1) := by decide +kernel
theorem dX3_flood_26 : decode cX3_flood 26 = .ok (.baload, 1) := by decide +kernel
theorem dX3_flood_27 : decode cX3_flood 27 = .ok (.ifCond .eq 7, 3) := by decide +kernel
theorem dX3_flood_30 : decode cX3_flood 30 = .ok (.iconst 0, 1) := by decide +kernel
theorem dX3_flood_31 : decode cX3_flood 31 = .ok (.goto 4, 3) := by decide +kernel
theorem dX3_flood_34 : decode cX3_flood 34 = .ok (.iconst (-1), 1) := by decide +kernel
theorem dX3_flood_35 : decode cX3_flood 35 = .ok (.iastore, 1) := by decide +kernel
theorem dX3_flood_36 : decode cX3_flood 36 = .ok (.aload_n 0, 1) := by decide +kernel
theorem dX3_flood_37 : decode cX3_flood 37 = .ok (.getfield 15, 3) := by decide +kernel
theorem dX3_flood_40 : decode cX3_flood 40 = .ok (.iload_n 1, 1) := by decide +kernel
theorem dX3_flood_41 : decode cX3_flood 41 = .ok (.iconst (-1), 1) := by decide +kernel
theorem dX3_flood_42 : decode cX3_flood 42 = .ok (.iastore, 1) := by decide +kernel
theorem dX3_flood_43 : decode cX3_flood 43 = .ok (.aload_n 0, 1) := by decide +kernel
theorem dX3_flood_44 : decode cX3_flood 44 = .ok (.getfield 18, 3) := by decide +kernel
theorem dX3_flood_47 : decode cX3_flood 47 = .ok (.iload_n 1, 1) := by decide +kernel
theorem dX3_flood_48 : decode cX3_flood 48 = .ok (.iconst (-1), 1) := by decide +kernel
theorem dX3_flood_49 : decode cX3_flood 49 = .ok (.iastore, 1) := by decide +kernel
theorem dX3_flood_50 : decode cX3_flood 50 = .ok (.iinc 1 1, 3) := by decide +kernel
theorem dX3_flood_53 : decode cX3_flood 53 = .ok (.goto (-51), 3) := by decide +kernel
theorem dX3_flood_56 : decode cX3_flood 56 = .ok (.iconst 0, 1) := by decide +kernel
theorem dX3_flood_57 : decode cX3_flood 57 = .ok (.istore_n 1, 1) := by decide +kernel
theorem dX3_flood_58 : decode cX3_flood 58 = .ok (.iload_n 1, 1) := by decide +kernel
theorem dX3_flood_59 : decode cX3_flood 59 = .ok (.aload_n 0, 1) := by decide +kernel
theorem dX3_flood_60 : decode cX3_flood 60 = .ok (.getfield 24, 3) := by decide +kernel
theorem dX3_flood_63 : decode cX3_flood 63 = .ok (.getfield 28, 3) := by decide +kernel
theorem dX3_flood_66 : decode cX3_flood 66 = .ok (.if_icmp .ge 19, 3) := by decide +kernel
theorem dX3_flood_69 : decode cX3_flood 69 = .ok (.aload_n 0, 1) := by decide +kernel
theorem dX3_flood_70 : decode cX3_flood 70 = .ok (.invokevirtual 38, 3) := by decide +kernel
theorem dX3_flood_73 : decode cX3_flood 73 = .ok (.ifCond .ne 6, 3) := by decide +kernel
theorem dX3_flood_76 : decode cX3_flood 76 = .ok (.goto 9, 3) := by decide +kernel
theorem dX3_flood_79 : decode cX3_flood 79 = .ok (.iinc 1 1, 3) := by decide +kernel
theorem dX3_flood_82 : decode cX3_flood 82 = .ok (.goto (-24), 3) := by decide +kernel
theorem dX3_flood_85 : decode cX3_flood 85 = .ok (.return_, 1) := by decide +kernel
theorem dX3_throatOnWay_0 : decode cX3_throatOnWay 0 = .ok (.iload_n 1, 1) := by decide +kernel
theorem dX3_throatOnWay_1 : decode cX3_throatOnWay 1 = .ok (.istore_n 3, 1) := by decide +kernel
theorem dX3_throatOnWay_2 : decode cX3_throatOnWay 2 = .ok (.aload_n 0, 1) := by decide +kernel
theorem dX3_throatOnWay_3 : decode cX3_throatOnWay 3 = .ok (.getfield 9, 3) := by decide +kernel
theorem dX3_throatOnWay_6 : decode cX3_throatOnWay 6 = .ok (.iload_n 1, 1) := by decide +kernel
theorem dX3_throatOnWay_7 : decode cX3_throatOnWay 7 = .ok (.iaload, 1) := by decide +kernel
theorem dX3_throatOnWay_8 : decode cX3_throatOnWay 8 = .ok (.iconst 1, 1) := by decide +kernel
theorem dX3_throatOnWay_9 : decode cX3_throatOnWay 9 = .ok (.isub, 1) := by decide +kernel
theorem dX3_throatOnWay_10 : decode cX3_throatOnWay 10 = .ok (.istore 4, 2) := by decide +kernel
theorem dX3_throatOnWay_12 : decode cX3_throatOnWay 12 = .ok (.iload 4, 2) := by decide +kernel
theorem dX3_throatOnWay_14 : decode cX3_throatOnWay 14 = .ok (.iload_n 2, 1) := by decide +kernel
theorem dX3_throatOnWay_15 : decode cX3_throatOnWay 15 = .ok (.if_icmp .le 24, 3) := by decide +kernel
theorem dX3_throatOnWay_18 : decode cX3_throatOnWay 18 = .ok (.aload_n 0, 1) := by decide +kernel
theorem dX3_throatOnWay_19 : decode cX3_throatOnWay 19 = .ok (.getfield 24, 3) := by decide +kernel
theorem dX3_throatOnWay_22 : decode cX3_throatOnWay 22 = .ok (.aload_n 0, 1) := by decide +kernel
theorem dX3_throatOnWay_23 : decode cX3_throatOnWay 23 = .ok (.getfield 18, 3) := by decide +kernel
theorem dX3_throatOnWay_26 : decode cX3_throatOnWay 26 = .ok (.iload_n 3, 1) := by decide +kernel
theorem dX3_throatOnWay_27 : decode cX3_throatOnWay 27 = .ok (.iaload, 1) := by decide +kernel
theorem dX3_throatOnWay_28 : decode cX3_throatOnWay 28 = .ok (.iload_n 3, 1) := by decide +kernel
theorem dX3_throatOnWay_29 : decode cX3_throatOnWay 29 = .ok (.invokevirtual 42, 3) := by decide +kernel
theorem dX3_throatOnWay_32 : decode cX3_throatOnWay 32 = .ok (.istore_n 3, 1) := by decide +kernel
theorem dX3_throatOnWay_33 : decode cX3_throatOnWay 33 = .ok (.iinc 4 (-1), 3) := by decide +kernel
theorem dX3_throatOnWay_36 : decode cX3_throatOnWay 36 = .ok (.goto (-24), 3) := by decide +kernel
theorem dX3_throatOnWay_39 : decode cX3_throatOnWay 39 = .ok (.aload_n 0, 1) := by decide +kernel
theorem dX3_throatOnWay_40 : decode cX3_throatOnWay 40 = .ok (.getfield 18, 3) := by decide +kernel
theorem dX3_throatOnWay_43 : decode cX3_throatOnWay 43 = .ok (.iload_n 3, 1) := by decide +kernel
theorem dX3_throatOnWay_44 : decode cX3_throatOnWay 44 = .ok (.iaload, 1) := by decide +kernel
theorem dX3_throatOnWay_45 : decode cX3_throatOnWay 45 = .ok (.ireturn, 1) := by decide +kernel
theorem dX3_rankJoining_0 : decode cX3_rankJoining 0 = .ok (.aload_n 0, 1) := by decide +kernel
theorem dX3_rankJoining_1 : decode cX3_rankJoining 1 = .ok (.invokevirtual 46, 3) := by decide +kernel
theorem dX3_rankJoining_4 : decode cX3_rankJoining 4 = .ok (.iconst 0, 1) := by decide +kernel
theorem dX3_rankJoining_5 : decode cX3_rankJoining 5 = .ok (.istore_n 3, 1) := by decide +kernel
theorem dX3_rankJoining_6 : decode cX3_rankJoining 6 = .ok (.iload_n 3, 1) := by decide +kernel
theorem dX3_rankJoining_7 : decode cX3_rankJoining 7 = .ok (.aload_n 0, 1) := by decide +kernel
theorem dX3_rankJoining_8 : decode cX3_rankJoining 8 = .ok (.getfield 24, 3) := by decide +kernel
theorem dX3_rankJoining_11 : decode cX3_rankJoining 11 = .ok (.getfield 49, 3) := by decide +kernel
theorem dX3_rankJoining_14 : decode cX3_rankJoining 14 = .ok (.if_icmp .ge 40, 3) := by decide +kernel
theorem dX3_rankJoining_17 : decode cX3_rankJoining 17 = .ok (.aload_n 0, 1) := by decide +kernel
theorem dX3_rankJoining_18 : decode cX3_rankJoining 18 = .ok (.aload_n 0, 1) := by decide +kernel
theorem dX3_rankJoining_19 : decode cX3_rankJoining 19 = .ok (.getfield 24, 3) := by decide +kernel
theorem dX3_rankJoining_22 : decode cX3_rankJoining 22 = .ok (.getfield 52, 3) := by decide +kernel
theorem dX3_rankJoining_25 : decode cX3_rankJoining 25 = .ok (.iload_n 3, 1) := by decide +kernel
theorem dX3_rankJoining_26 : decode cX3_rankJoining 26 = .ok (.iaload, 1) := by decide +kernel
theorem dX3_rankJoining_27 : decode cX3_rankJoining 27 = .ok (.invokevirtual 55, 3) := by decide +kernel
theorem dX3_rankJoining_30 : decode cX3_rankJoining 30 = .ok (.pop, 1) := by decide +kernel
theorem dX3_rankJoining_31 : decode cX3_rankJoining 31 = .ok (.aload_n 0, 1) := by decide +kernel
theorem dX3_rankJoining_32 : decode cX3_rankJoining 32 = .ok (.getfield 21, 3) := by decide +kernel
theorem dX3_rankJoining_35 : decode cX3_rankJoining 35 = .ok (.iload_n 1, 1) := by decide +kernel
theorem dX3_rankJoining_36 : decode cX3_rankJoining 36 = .ok (.iaload, 1) := by decide +kernel
theorem dX3_rankJoining_37 : decode cX3_rankJoining 37 = .ok (.aload_n 0, 1) := by decide +kernel
theorem dX3_rankJoining_38 : decode cX3_rankJoining 38 = .ok (.getfield 21, 3) := by decide +kernel
theorem dX3_rankJoining_41 : decode cX3_rankJoining 41 = .ok (.iload_n 2, 1) := by decide +kernel
theorem dX3_rankJoining_42 : decode cX3_rankJoining 42 = .ok (.iaload, 1) := by decide +kernel
theorem dX3_rankJoining_43 : decode cX3_rankJoining 43 = .ok (.if_icmp .ne 5, 3) := by decide +kernel
theorem dX3_rankJoining_46 : decode cX3_rankJoining 46 = .ok (.iload_n 3, 1) := by decide +kernel
theorem dX3_rankJoining_47 : decode cX3_rankJoining 47 = .ok (.ireturn, 1) := by decide +kernel
theorem dX3_rankJoining_48 : decode cX3_rankJoining 48 = .ok (.iinc 3 1, 3) := by decide +kernel
theorem dX3_rankJoining_51 : decode cX3_rankJoining 51 = .ok (.goto (-45), 3) := by decide +kernel
theorem dX3_rankJoining_54 : decode cX3_rankJoining 54 = .ok (.bipush (-8), 2) := by decide +kernel
theorem dX3_rankJoining_56 : decode cX3_rankJoining 56 = .ok (.ireturn, 1) := by decide +kernel
theorem dX3_branch_0 : decode cX3_branch 0 = .ok (.aload_n 0, 1) := by decide +kernel
theorem dX3_branch_1 : decode cX3_branch 1 = .ok (.invokevirtual 46, 3) := by decide +kernel
theorem dX3_branch_4 : decode cX3_branch 4 = .ok (.iconst 0, 1) := by decide +kernel
theorem dX3_branch_5 : decode cX3_branch 5 = .ok (.istore_n 2, 1) := by decide +kernel
theorem dX3_branch_6 : decode cX3_branch 6 = .ok (.iconst 0, 1) := by decide +kernel
theorem dX3_branch_7 : decode cX3_branch 7 = .ok (.istore_n 3, 1) := by decide +kernel
theorem dX3_branch_8 : decode cX3_branch 8 = .ok (.iload_n 3, 1) := by decide +kernel
theorem dX3_branch_9 : decode cX3_branch 9 = .ok (.aload_n 0, 1) := by decide +kernel
theorem dX3_branch_10 : decode cX3_branch 10 = .ok (.getfield 24, 3) := by decide +kernel
theorem dX3_branch_13 : decode cX3_branch 13 = .ok (.getfield 49, 3) := by decide +kernel
theorem dX3_branch_16 : decode cX3_branch 16 = .ok (.if_icmp .ge 43, 3) := by decide +kernel
theorem dX3_branch_19 : decode cX3_branch 19 = .ok (.aload_n 0, 1) := by decide +kernel
theorem dX3_branch_20 : decode cX3_branch 20 = .ok (.aload_n 0, 1) := by decide +kernel
theorem dX3_branch_21 : decode cX3_branch 21 = .ok (.getfield 24, 3) := by decide +kernel
theorem dX3_branch_24 : decode cX3_branch 24 = .ok (.getfield 52, 3) := by decide +kernel
theorem dX3_branch_27 : decode cX3_branch 27 = .ok (.iload_n 3, 1) := by decide +kernel
theorem dX3_branch_28 : decode cX3_branch 28 = .ok (.iaload, 1) := by decide +kernel
theorem dX3_branch_29 : decode cX3_branch 29 = .ok (.invokevirtual 55, 3) := by decide +kernel
theorem dX3_branch_32 : decode cX3_branch 32 = .ok (.ifCond .eq 21, 3) := by decide +kernel
theorem dX3_branch_35 : decode cX3_branch 35 = .ok (.iload_n 2, 1) := by decide +kernel
theorem dX3_branch_36 : decode cX3_branch 36 = .ok (.iload_n 1, 1) := by decide +kernel
theorem dX3_branch_37 : decode cX3_branch 37 = .ok (.if_icmp .ne 13, 3) := by decide +kernel
theorem dX3_branch_40 : decode cX3_branch 40 = .ok (.aload_n 0, 1) := by decide +kernel
theorem dX3_branch_41 : decode cX3_branch 41 = .ok (.getfield 24, 3) := by decide +kernel
theorem dX3_branch_44 : decode cX3_branch 44 = .ok (.getfield 52, 3) := by decide +kernel
theorem dX3_branch_47 : decode cX3_branch 47 = .ok (.iload_n 3, 1) := by decide +kernel
theorem dX3_branch_48 : decode cX3_branch 48 = .ok (.iaload, 1) := by decide +kernel
theorem dX3_branch_49 : decode cX3_branch 49 = .ok (.ireturn, 1) := by decide +kernel
theorem dX3_branch_50 : decode cX3_branch 50 = .ok (.iinc 2 1, 3) := by decide +kernel
theorem dX3_branch_53 : decode cX3_branch 53 = .ok (.iinc 3 1, 3) := by decide +kernel
theorem dX3_branch_56 : decode cX3_branch 56 = .ok (.goto (-48), 3) := by decide +kernel
theorem dX3_branch_59 : decode cX3_branch 59 = .ok (.iconst (-1), 1) := by decide +kernel
theorem dX3_branch_60 : decode cX3_branch 60 = .ok (.ireturn, 1) := by decide +kernel
theorem dX3_fillNext_0 : decode cX3_fillNext 0 = .ok (.iconst 0, 1) := by decide +kernel
theorem dX3_fillNext_1 : decode cX3_fillNext 1 = .ok (.istore_n 1, 1) := by decide +kernel
theorem dX3_fillNext_2 : decode cX3_fillNext 2 = .ok (.iload_n 1, 1) := by decide +kernel
theorem dX3_fillNext_3 : decode cX3_fillNext 3 = .ok (.aload_n 0, 1) := by decide +kernel
theorem dX3_fillNext_4 : decode cX3_fillNext 4 = .ok (.getfield 24, 3) := by decide +kernel
theorem dX3_fillNext_7 : decode cX3_fillNext 7 = .ok (.getfield 49, 3) := by decide +kernel
theorem dX3_fillNext_10 : decode cX3_fillNext 10 = .ok (.if_icmp .ge 94, 3) := by decide +kernel
theorem dX3_fillNext_13 : decode cX3_fillNext 13 = .ok (.aload_n 0, 1) := by decide +kernel
theorem dX3_fillNext_14 : decode cX3_fillNext 14 = .ok (.getfield 24, 3) := by decide +kernel
theorem dX3_fillNext_17 : decode cX3_fillNext 17 = .ok (.getfield 52, 3) := by decide +kernel
theorem dX3_fillNext_20 : decode cX3_fillNext 20 = .ok (.iload_n 1, 1) := by decide +kernel
theorem dX3_fillNext_21 : decode cX3_fillNext 21 = .ok (.iaload, 1) := by decide +kernel
theorem dX3_fillNext_22 : decode cX3_fillNext 22 = .ok (.istore_n 2, 1) := by decide +kernel
theorem dX3_fillNext_23 : decode cX3_fillNext 23 = .ok (.aload_n 0, 1) := by decide +kernel
theorem dX3_fillNext_24 : decode cX3_fillNext 24 = .ok (.getfield 24, 3) := by decide +kernel
theorem dX3_fillNext_27 : decode cX3_fillNext 27 = .ok (.getfield 59, 3) := by decide +kernel
theorem dX3_fillNext_30 : decode cX3_fillNext 30 = .ok (.iload_n 2, 1) := by decide +kernel
theorem dX3_fillNext_31 : decode cX3_fillNext 31 = .ok (.iaload, 1) := by decide +kernel
theorem dX3_fillNext_32 : decode cX3_fillNext 32 = .ok (.istore_n 3, 1) := by decide +kernel
theorem dX3_fillNext_33 : decode cX3_fillNext 33 = .ok (.aload_n 0, 1) := by decide +kernel
theorem dX3_fillNext_34 : decode cX3_fillNext 34 = .ok (.getfield 24, 3) := by decide +kernel
theorem dX3_fillNext_37 : decode cX3_fillNext 37 = .ok (.getfield 62, 3) := by decide +kernel
theorem dX3_fillNext_40 : decode cX3_fillNext 40 = .ok (.iload_n 2, 1) := by decide +kernel
theorem dX3_fillNext_41 : decode cX3_fillNext 41 = .ok (.iaload, 1) := by decide +kernel
theorem dX3_fillNext_42 : decode cX3_fillNext 42 = .ok (.istore 4, 2) := by decide +kernel
theorem dX3_fillNext_44 : decode cX3_fillNext 44 = .ok (.aload_n 0, 1) := by decide +kernel
theorem dX3_fillNext_45 : decode cX3_fillNext 45 = .ok (.getfield 9, 3) := by decide +kernel
theorem dX3_fillNext_48 : decode cX3_fillNext 48 = .ok (.iload_n 3, 1) := by decide +kernel
theorem dX3_fillNext_49 : decode cX3_fillNext 49 = .ok (.iaload, 1) := by decide +kernel
theorem dX3_fillNext_50 : decode cX3_fillNext 50 = .ok (.ifCond .lt 7, 3) := by decide +kernel
theorem dX3_fillNext_53 : decode cX3_fillNext 53 = .ok (.iconst 1, 1) := by decide +kernel
theorem dX3_fillNext_54 : decode cX3_fillNext 54 = .ok (.goto 4, 3) := by decide +kernel
theorem dX3_fillNext_57 : decode cX3_fillNext 57 = .ok (.iconst 0, 1) := by decide +kernel
theorem dX3_fillNext_58 : decode cX3_fillNext 58 = .ok (.aload_n 0, 1) := by decide +kernel
theorem dX3_fillNext_59 : decode cX3_fillNext 59 = .ok (.getfield 9, 3) := by decide +kernel
theorem dX3_fillNext_62 : decode cX3_fillNext 62 = .ok (.iload 4, 2) := by decide +kernel
theorem dX3_fillNext_64 : decode cX3_fillNext 64 = .ok (.iaload, 1) := by decide +kernel
theorem dX3_fillNext_65 : decode cX3_fillNext 65 = .ok (.ifCond .lt 7, 3) := by decide +kernel
theorem dX3_fillNext_68 : decode cX3_fillNext 68 = .ok (.iconst 1, 1) := by decide +kernel
theorem dX3_fillNext_69 : decode cX3_fillNext 69 = .ok (.goto 4, 3) := by decide +kernel
theorem dX3_fillNext_72 : decode cX3_fillNext 72 = .ok (.iconst 0, 1) := by decide +kernel
theorem dX3_fillNext_73 : decode cX3_fillNext 73 = .ok (.if_icmp .eq 25, 3) := by decide +kernel
theorem dX3_fillNext_76 : decode cX3_fillNext 76 = .ok (.aload_n 0, 1) := by decide +kernel
theorem dX3_fillNext_77 : decode cX3_fillNext 77 = .ok (.iload_n 2, 1) := by decide +kernel
theorem dX3_fillNext_78 : decode cX3_fillNext 78 = .ok (.aload_n 0, 1) := by decide +kernel
theorem dX3_fillNext_79 : decode cX3_fillNext 79 = .ok (.getfield 9, 3) := by decide +kernel
theorem dX3_fillNext_82 : decode cX3_fillNext 82 = .ok (.iload_n 3, 1) := by decide +kernel
theorem dX3_fillNext_83 : decode cX3_fillNext 83 = .ok (.iaload, 1) := by decide +kernel
theorem dX3_fillNext_84 : decode cX3_fillNext 84 = .ok (.ifCond .lt 7, 3) := by decide +kernel
theorem dX3_fillNext_87 : decode cX3_fillNext 87 = .ok (.iload_n 3, 1) := by decide +kernel
theorem dX3_fillNext_88 : decode cX3_fillNext 88 = .ok (.goto 5, 3) := by decide +kernel
theorem dX3_fillNext_91 : decode cX3_fillNext 91 = .ok (.iload 4, 2) := by decide +kernel
theorem dX3_fillNext_93 : decode cX3_fillNext 93 = .ok (.invokevirtual 65, 3) := by decide +kernel
theorem dX3_fillNext_96 : decode cX3_fillNext 96 = .ok (.iconst 1, 1) := by decide +kernel
theorem dX3_fillNext_97 : decode cX3_fillNext 97 = .ok (.ireturn, 1) := by decide +kernel
theorem dX3_fillNext_98 : decode cX3_fillNext 98 = .ok (.iinc 1 1, 3) := by decide +kernel
theorem dX3_fillNext_101 : decode cX3_fillNext 101 = .ok (.goto (-99), 3) := by decide +kernel
theorem dX3_fillNext_104 : decode cX3_fillNext 104 = .ok (.iconst 0, 1) := by decide +kernel
theorem dX3_fillNext_105 : decode cX3_fillNext 105 = .ok (.ireturn, 1) := by decide +kernel
theorem dX3_fill_0 : decode cX3_fill 0 = .ok (.aload_n 0, 1) := by decide +kernel
theorem dX3_fill_1 : decode cX3_fill 1 = .ok (.getfield 24, 3) := by decide +kernel
theorem dX3_fill_4 : decode cX3_fill 4 = .ok (.iload_n 1, 1) := by decide +kernel
theorem dX3_fill_5 : decode cX3_fill 5 = .ok (.iload_n 2, 1) := by decide +kernel
theorem dX3_fill_6 : decode cX3_fill 6 = .ok (.invokevirtual 42, 3) := by decide +kernel
theorem dX3_fill_9 : decode cX3_fill 9 = .ok (.istore_n 3, 1) := by decide +kernel
theorem dX3_fill_10 : decode cX3_fill 10 = .ok (.aload_n 0, 1) := by decide +kernel
theorem dX3_fill_11 : decode cX3_fill 11 = .ok (.getfield 9, 3) := by decide +kernel
theorem dX3_fill_14 : decode cX3_fill 14 = .ok (.iload_n 3, 1) := by decide +kernel
theorem dX3_fill_15 : decode cX3_fill 15 = .ok (.aload_n 0, 1) := by decide +kernel
theorem dX3_fill_16 : decode cX3_fill 16 = .ok (.getfield 9, 3) := by decide +kernel
theorem dX3_fill_19 : decode cX3_fill 19 = .ok (.iload_n 2, 1) := by decide +kernel
theorem dX3_fill_20 : decode cX3_fill 20 = .ok (.iaload, 1) := by decide +kernel
theorem dX3_fill_21 : decode cX3_fill 21 = .ok (.iconst 1, 1) := by decide +kernel
theorem dX3_fill_22 : decode cX3_fill 22 = .ok (.iadd, 1) := by decide +kernel
theorem dX3_fill_23 : decode cX3_fill 23 = .ok (.iastore, 1) := by decide +kernel
theorem dX3_fill_24 : decode cX3_fill 24 = .ok (.aload_n 0, 1) := by decide +kernel
theorem dX3_fill_25 : decode cX3_fill 25 = .ok (.getfield 15, 3) := by decide +kernel
theorem dX3_fill_28 : decode cX3_fill 28 = .ok (.iload_n 3, 1) := by decide +kernel
theorem dX3_fill_29 : decode cX3_fill 29 = .ok (.aload_n 0, 1) := by decide +kernel
theorem dX3_fill_30 : decode cX3_fill 30 = .ok (.getfield 15, 3) := by decide +kernel
theorem dX3_fill_33 : decode cX3_fill 33 = .ok (.iload_n 2, 1) := by decide +kernel
theorem dX3_fill_34 : decode cX3_fill 34 = .ok (.iaload, 1) := by decide +kernel
theorem dX3_fill_35 : decode cX3_fill 35 = .ok (.aload_n 0, 1) := by decide +kernel
theorem dX3_fill_36 : decode cX3_fill 36 = .ok (.getfield 24, 3) := by decide +kernel
theorem dX3_fill_39 : decode cX3_fill 39 = .ok (.getfield 69, 3) := by decide +kernel
theorem dX3_fill_42 : decode cX3_fill 42 = .ok (.iload_n 1, 1) := by decide +kernel
theorem dX3_fill_43 : decode cX3_fill 43 = .ok (.iaload, 1) := by decide +kernel
theorem dX3_fill_44 : decode cX3_fill 44 = .ok (.invokestatic 72, 3) := by decide +kernel
theorem dX3_fill_47 : decode cX3_fill 47 = .ok (.iastore, 1) := by decide +kernel
theorem dX3_fill_48 : decode cX3_fill 48 = .ok (.aload_n 0, 1) := by decide +kernel
theorem dX3_fill_49 : decode cX3_fill 49 = .ok (.getfield 18, 3) := by decide +kernel
theorem dX3_fill_52 : decode cX3_fill 52 = .ok (.iload_n 3, 1) := by decide +kernel
theorem dX3_fill_53 : decode cX3_fill 53 = .ok (.iload_n 1, 1) := by decide +kernel
theorem dX3_fill_54 : decode cX3_fill 54 = .ok (.iastore, 1) := by decide +kernel
theorem dX3_fill_55 : decode cX3_fill 55 = .ok (.return_, 1) := by decide +kernel
theorem dX3_stand_0 : decode cX3_stand 0 = .ok (.iconst 0, 1) := by decide +kernel
theorem dX3_stand_1 : decode cX3_stand 1 = .ok (.istore_n 1, 1) := by decide +kernel
theorem dX3_stand_2 : decode cX3_stand 2 = .ok (.iload_n 1, 1) := by decide +kernel
theorem dX3_stand_3 : decode cX3_stand 3 = .ok (.aload_n 0, 1) := by decide +kernel
theorem dX3_stand_4 : decode cX3_stand 4 = .ok (.getfield 24, 3) := by decide +kernel
theorem dX3_stand_7 : decode cX3_stand 7 = .ok (.getfield 28, 3) := by decide +kernel
theorem dX3_stand_10 : decode cX3_stand 10 = .ok (.if_icmp .ge 16, 3) := by decide +kernel
theorem dX3_stand_13 : decode cX3_stand 13 = .ok (.aload_n 0, 1) := by decide +kernel
theorem dX3_stand_14 : decode cX3_stand 14 = .ok (.getfield 21, 3) := by decide +kernel
theorem dX3_stand_17 : decode cX3_stand 17 = .ok (.iload_n 1, 1) := by decide +kernel
theorem dX3_stand_18 : decode cX3_stand 18 = .ok (.iload_n 1, 1) := by decide +kernel
theorem dX3_stand_19 : decode cX3_stand 19 = .ok (.iastore, 1) := by decide +kernel
theorem dX3_stand_20 : decode cX3_stand 20 = .ok (.iinc 1 1, 3) := by decide +kernel
theorem dX3_stand_23 : decode cX3_stand 23 = .ok (.goto (-21), 3) := by decide +kernel
theorem dX3_stand_26 : decode cX3_stand 26 = .ok (.return_, 1) := by decide +kernel
theorem dX3_unite_0 : decode cX3_unite 0 = .ok (.aload_n 0, 1) := by decide +kernel
theorem dX3_unite_1 : decode cX3_unite 1 = .ok (.getfield 21, 3) := by decide +kernel
theorem dX3_unite_4 : decode cX3_unite 4 = .ok (.aload_n 0, 1) := by decide +kernel
theorem dX3_unite_5 : decode cX3_unite 5 = .ok (.getfield 24, 3) := by decide +kernel
theorem dX3_unite_8 : decode cX3_unite 8 = .ok (.getfield 59, 3) := by decide +kernel
theorem dX3_unite_11 : decode cX3_unite 11 = .ok (.iload_n 1, 1) := by decide +kernel
theorem dX3_unite_12 : decode cX3_unite 12 = .ok (.iaload, 1) := by decide +kernel
theorem dX3_unite_13 : decode cX3_unite 13 = .ok (.iaload, 1) := by decide +kernel
theorem dX3_unite_14 : decode cX3_unite 14 = .ok (.istore_n 2, 1) := by decide +kernel
theorem dX3_unite_15 : decode cX3_unite 15 = .ok (.aload_n 0, 1) := by decide +kernel
theorem dX3_unite_16 : decode cX3_unite 16 = .ok (.getfield 21, 3) := by decide +kernel
theorem dX3_unite_19 : decode cX3_unite 19 = .ok (.aload_n 0, 1) := by decide +kernel
theorem dX3_unite_20 : decode cX3_unite 20 = .ok (.getfield 24, 3) := by decide +kernel
theorem dX3_unite_23 : decode cX3_unite 23 = .ok (.getfield 62, 3) := by decide +kernel
theorem dX3_unite_26 : decode cX3_unite 26 = .ok (.iload_n 1, 1) := by decide +kernel
theorem dX3_unite_27 : decode cX3_unite 27 = .ok (.iaload, 1) := by decide +kernel
theorem dX3_unite_28 : decode cX3_unite 28 = .ok (.iaload, 1) := by decide +kernel
theorem dX3_unite_29 : decode cX3_unite 29 = .ok (.istore_n 3, 1) := by decide +kernel
theorem dX3_unite_30 : decode cX3_unite 30 = .ok (.iload_n 2, 1) := by decide +kernel
theorem dX3_unite_31 : decode cX3_unite 31 = .ok (.iload_n 3, 1) := by decide +kernel
theorem dX3_unite_32 : decode cX3_unite 32 = .ok (.if_icmp .ne 5, 3) := by decide +kernel
theorem dX3_unite_35 : decode cX3_unite 35 = .ok (.iconst 0, 1) := by decide +kernel
theorem dX3_unite_36 : decode cX3_unite 36 = .ok (.ireturn, 1) := by decide +kernel
theorem dX3_unite_37 : decode cX3_unite 37 = .ok (.iconst 0, 1) := by decide +kernel
theorem dX3_unite_38 : decode cX3_unite 38 = .ok (.istore 4, 2) := by decide +kernel
theorem dX3_unite_40 : decode cX3_unite 40 = .ok (.iload 4, 2) := by decide +kernel
theorem dX3_unite_42 : decode cX3_unite 42 = .ok (.aload_n 0, 1) := by decide +kernel
theorem dX3_unite_43 : decode cX3_unite 43 = .ok (.getfield 24, 3) := by decide +kernel
theorem dX3_unite_46 : decode cX3_unite 46 = .ok (.getfield 28, 3) := by decide +kernel
theorem dX3_unite_49 : decode cX3_unite 49 = .ok (.if_icmp .ge 28, 3) := by decide +kernel
theorem dX3_unite_52 : decode cX3_unite 52 = .ok (.aload_n 0, 1) := by decide +kernel
theorem dX3_unite_53 : decode cX3_unite 53 = .ok (.getfield 21, 3) := by decide +kernel
theorem dX3_unite_56 : decode cX3_unite 56 = .ok (.iload 4, 2) := by decide +kernel
theorem dX3_unite_58 : decode cX3_unite 58 = .ok (.iaload, 1) := by decide +kernel
theorem dX3_unite_59 : decode cX3_unite 59 = .ok (.iload_n 3, 1) := by decide +kernel
theorem dX3_unite_60 : decode cX3_unite 60 = .ok (.if_icmp .ne 11, 3) := by decide +kernel
theorem dX3_unite_63 : decode cX3_unite 63 = .ok (.aload_n 0, 1) := by decide +kernel
theorem dX3_unite_64 : decode cX3_unite 64 = .ok (.getfield 21, 3) := by decide +kernel
theorem dX3_unite_67 : decode cX3_unite 67 = .ok (.iload 4, 2) := by decide +kernel
theorem dX3_unite_69 : decode cX3_unite 69 = .ok (.iload_n 2, 1) := by decide +kernel
theorem dX3_unite_70 : decode cX3_unite 70 = .ok (.iastore, 1) := by decide +kernel
theorem dX3_unite_71 : decode cX3_unite 71 = .ok (.iinc 4 1, 3) := by decide +kernel
theorem dX3_unite_74 : decode cX3_unite 74 = .ok (.goto (-34), 3) := by decide +kernel
theorem dX3_unite_77 : decode cX3_unite 77 = .ok (.iconst 1, 1) := by decide +kernel
theorem dX3_unite_78 : decode cX3_unite 78 = .ok (.ireturn, 1) := by decide +kernel
theorem dX4_init_0 : decode cX4_init 0 = .ok (.aload_n 0, 1) := by decide +kernel
theorem dX4_init_1 : decode cX4_init 1 = .ok (.invokespecial 1, 3) := by decide +kernel
theorem dX4_init_4 : decode cX4_init 4 = .ok (.aload_n 0, 1) := by decide +kernel
theorem dX4_init_5 : decode cX4_init 5 = .ok (.new 7, 3) := by decide +kernel
theorem dX4_init_8 : decode cX4_init 8 = .ok (.dup, 1) := by decide +kernel
theorem dX4_init_9 : decode cX4_init 9 = .ok (.invokespecial 9, 3) := by decide +kernel
theorem dX4_init_12 : decode cX4_init 12 = .ok (.putfield 10, 3) := by decide +kernel
theorem dX4_init_15 : decode cX4_init 15 = .ok (.aload_n 0, 1) := by decide +kernel
theorem dX4_init_16 : decode cX4_init 16 = .ok (.bipush 6, 2) := by decide +kernel
theorem dX4_init_18 : decode cX4_init 18 = .ok (.anewarray 16, 3) := by decide +kernel
theorem dX4_init_21 : decode cX4_init 21 = .ok (.putfield 18, 3) := by decide +kernel
theorem dX4_init_24 : decode cX4_init 24 = .ok (.aload_n 0, 1) := by decide +kernel
theorem dX4_init_25 : decode cX4_init 25 = .ok (.new 22, 3) := by decide +kernel
theorem dX4_init_28 : decode cX4_init 28 = .ok (.dup, 1) := by decide +kernel
theorem dX4_init_29 : decode cX4_init 29 = .ok (.aload_n 0, 1) := by decide +kernel
theorem dX4_init_30 : decode cX4_init 30 = .ok (.getfield 10, 3) := by decide +kernel
theorem dX4_init_33 : decode cX4_init 33 = .ok (.invokespecial 24, 3) := by decide +kernel
theorem dX4_init_36 : decode cX4_init 36 = .ok (.putfield 27, 3) := by decide +kernel
theorem dX4_init_39 : decode cX4_init 39 = .ok (.aload_n 0, 1) := by decide +kernel
theorem dX4_init_40 : decode cX4_init 40 = .ok (.new 22, 3) := by decide +kernel
theorem dX4_init_43 : decode cX4_init 43 = .ok (.dup, 1) := by decide +kernel
theorem dX4_init_44 : decode cX4_init 44 = .ok (.aload_n 0, 1) := by decide +kernel
theorem dX4_init_45 : decode cX4_init 45 = .ok (.getfield 10, 3) := by decide +kernel
theorem dX4_init_48 : decode cX4_init 48 = .ok (.invokespecial 24, 3) := by decide +kernel
theorem dX4_init_51 : decode cX4_init 51 = .ok (.putfield 31, 3) := by decide +kernel
theorem dX4_init_54 : decode cX4_init 54 = .ok (.aload_n 0, 1) := by decide +kernel
theorem dX4_init_55 : decode cX4_init 55 = .ok (.new 34, 3) := by decide +kernel
theorem dX4_init_58 : decode cX4_init 58 = .ok (.dup, 1) := by decide +kernel
theorem dX4_init_59 : decode cX4_init 59 = .ok (.aload_n 0, 1) := by decide +kernel
theorem dX4_init_60 : decode cX4_init 60 = .ok (.getfield 10, 3) := by decide +kernel
theorem dX4_init_63 : decode cX4_init 63 = .ok (.invokespecial 36, 3) := by decide +kernel
theorem dX4_init_66 : decode cX4_init 66 = .ok (.putfield 37, 3) := by decide +kernel
theorem dX4_init_69 : decode cX4_init 69 = .ok (.aload_n 0, 1) := by decide +kernel
theorem dX4_init_70 : decode cX4_init 70 = .ok (.sipush 200, 3) := by decide +kernel
theorem dX4_init_73 : decode cX4_init 73 = .ok (.newarray .int, 2) := by decide +kernel
theorem dX4_init_75 : decode cX4_init 75 = .ok (.putfield 41, 3) := by decide +kernel
theorem dX4_init_78 : decode cX4_init 78 = .ok (.iconst 0, 1) := by decide +kernel
theorem dX4_init_79 : decode cX4_init 79 = .ok (.istore_n 1, 1) := by decide +kernel
theorem dX4_init_80 : decode cX4_init 80 = .ok (.iload_n 1, 1) := by decide +kernel
theorem dX4_init_81 : decode cX4_init 81 = .ok (.bipush 6, 2) := by decide +kernel
theorem dX4_init_83 : decode cX4_init 83 = .ok (.if_icmp .ge 22, 3) := by decide +kernel
theorem dX4_init_86 : decode cX4_init 86 = .ok (.aload_n 0, 1) := by decide +kernel
theorem dX4_init_87 : decode cX4_init 87 = .ok (.getfield 18, 3) := by decide +kernel
theorem dX4_init_90 : decode cX4_init 90 = .ok (.iload_n 1, 1) := by decide +kernel
theorem dX4_init_91 : decode cX4_init 91 = .ok (.new 16, 3) := by decide +kernel
theorem dX4_init_94 : decode cX4_init 94 = .ok (.dup, 1) := by decide +kernel
theorem dX4_init_95 : decode cX4_init 95 = .ok (.invokespecial 45, 3) := by decide +kernel
theorem dX4_init_98 : decode cX4_init 98 = .ok (.aastore, 1) := by decide +kernel
theorem dX4_init_99 : decode cX4_init 99 = .ok (.iinc 1 1, 3) := by decide +kernel
theorem dX4_init_102 : decode cX4_init 102 = .ok (.goto (-22), 3) := by decide +kernel
theorem dX4_init_105 : decode cX4_init 105 = .ok (.return_, 1) := by decide +kernel
theorem dX4_pore_0 : decode cX4_pore 0 = .ok (.iload_n 1, 1) := by decide +kernel
theorem dX4_pore_1 : decode cX4_pore 1 = .ok (.ifCond .lt 8, 3) := by decide +kernel
theorem dX4_pore_4 : decode cX4_pore 4 = .ok (.iload_n 1, 1) := by decide +kernel
theorem dX4_pore_5 : decode cX4_pore 5 = .ok (.iconst 4, 1) := by decide +kernel
theorem dX4_pore_6 : decode cX4_pore 6 = .ok (.if_icmp .le 5, 3) := by decide +kernel
theorem dX4_pore_9 : decode cX4_pore 9 = .ok (.iconst (-1), 1) := by decide +kernel
theorem dX4_pore_10 : decode cX4_pore 10 = .ok (.ireturn, 1) := by decide +kernel
theorem dX4_pore_11 : decode cX4_pore 11 = .ok (.aload_n 0, 1) := by decide +kernel
theorem dX4_pore_12 : decode cX4_pore 12 = .ok (.getfield 10, 3) := by decide +kernel
theorem dX4_pore_15 : decode cX4_pore 15 = .ok (.getfield 46, 3) := by decide +kernel
theorem dX4_pore_18 : decode cX4_pore 18 = .ok (.bipush 120, 2) := by decide +kernel
theorem dX4_pore_20 : decode cX4_pore 20 = .ok (.if_icmp .lt 6, 3) := by decide +kernel
theorem dX4_pore_23 : decode cX4_pore 23 = .ok (.bipush (-2), 2) := by decide +kernel
theorem dX4_pore_25 : decode cX4_pore 25 = .ok (.ireturn, 1) := by decide +kernel
theorem dX4_pore_26 : decode cX4_pore 26 = .ok (.aload_n 0, 1) := by decide +kernel
theorem dX4_pore_27 : decode cX4_pore 27 = .ok (.getfield 27, 3) := by decide +kernel
theorem dX4_pore_30 : decode cX4_pore 30 = .ok (.iconst 0, 1) := by decide +kernel
theorem dX4_pore_31 : decode cX4_pore 31 = .ok (.putfield 50, 3) := by decide +kernel
theorem dX4_pore_34 : decode cX4_pore 34 = .ok (.aload_n 0, 1) := by decide +kernel
theorem dX4_pore_35 : decode cX4_pore 35 = .ok (.getfield 10, 3) := by decide +kernel
theorem dX4_pore_38 : decode cX4_pore 38 = .ok (.iload_n 1, 1) := by decide +kernel
theorem dX4_pore_39 : decode cX4_pore 39 = .ok (.invokevirtual 54, 3) := by decide +kernel
theorem dX4_pore_42 : decode cX4_pore 42 = .ok (.ireturn, 1) := by decide +kernel
theorem dX4_throat_0 : decode cX4_throat 0 = .ok (.aload_n 0, 1) := by decide +kernel
theorem dX4_throat_1 : decode cX4_throat 1 = .ok (.getfield 10, 3) := by decide +kernel
theorem dX4_throat_4 : decode cX4_throat 4 = .ok (.iload_n 1, 1) := by decide +kernel
theorem dX4_throat_5 : decode cX4_throat 5 = .ok (.invokevirtual 58, 3) := by decide +kernel
theorem dX4_throat_8 : decode cX4_throat 8 = .ok (.ifCond .eq 19, 3) := by decide +kernel
theorem dX4_throat_11 : decode cX4_throat 11 = .ok (.aload_n 0, 1) := by decide +kernel
theorem dX4_throat_12 : decode cX4_throat 12 = .ok (.getfield 10, 3) := by decide +kernel
theorem dX4_throat_15 : decode cX4_throat 15 = .ok (.iload_n 2, 1) := by decide +kernel
theorem dX4_throat_16 : decode cX4_throat 16 = .ok (.invokevirtual 58, 3) := by decide +kernel
theorem dX4_throat_19 : decode cX4_throat 19 = .ok (.ifCond .eq 8, 3) := by decide +kernel
theorem dX4_throat_22 : decode cX4_throat 22 = .ok (.iload_n 1, 1) := by decide +kernel
theorem dX4_throat_23 : decode cX4_throat 23 = .ok (.iload_n 2, 1) := by decide +kernel
theorem dX4_throat_24 : decode cX4_throat 24 = .ok (.if_icmp .ne 5, 3) := by decide +kernel
theorem dX4_throat_27 : decode cX4_throat 27 = .ok (.iconst (-1), 1) := by decide +kernel
theorem dX4_throat_28 : decode cX4_throat 28 = .ok (.ireturn, 1) := by decide +kernel
theorem dX4_throat_29 : decode cX4_throat 29 = .ok (.aload_n 0, 1) := by decide +kernel
theorem dX4_throat_30 : decode cX4_throat 30 = .ok (.getfield 10, 3) := by decide +kernel
theorem dX4_throat_33 : decode cX4_throat 33 = .ok (.getfield 62, 3) := by decide +kernel
theorem dX4_throat_36 : decode cX4_throat 36 = .ok (.sipush 300, 3) := by decide +kernel
theorem dX4_throat_39 : decode cX4_throat 39 = .ok (.if_icmp .lt 6, 3) := by decide +kernel
theorem dX4_throat_42 : decode cX4_throat 42 = .ok (.bipush (-2), 2) := by decide +kernel
theorem dX4_throat_44 : decode cX4_throat 44 = .ok (.ireturn, 1) := by decide +kernel
theorem dX4_throat_45 : decode cX4_throat 45 = .ok (.aload_n 0, 1) := by decide +kernel
theorem dX4_throat_46 : decode cX4_throat 46 = .ok (.getfield 27, 3) := by decide +kernel
theorem dX4_throat_49 : decode cX4_throat 49 = .ok (.iconst 0, 1) := by decide +kernel
theorem dX4_throat_50 : decode cX4_throat 50 = .ok (.putfield 50, 3) := by decide +kernel
theorem dX4_throat_53 : decode cX4_throat 53 = .ok (.aload_n 0, 1) := by decide +kernel
theorem dX4_throat_54 : decode cX4_throat 54 = .ok (.getfield 10, 3) := by decide +kernel
theorem dX4_throat_57 : decode cX4_throat 57 = .ok (.iload_n 1, 1) := by decide +kernel
theorem dX4_throat_58 : decode cX4_throat 58 = .ok (.iload_n 2, 1) := by decide +kernel
theorem dX4_throat_59 : decode cX4_throat 59 = .ok (.invokevirtual 65, 3) := by decide +kernel
theorem dX4_throat_62 : decode cX4_throat 62 = .ok (.ireturn, 1) := by decide +kernel
theorem dX4_hinder_0 : decode cX4_hinder 0 = .ok (.aload_n 0, 1) := by decide +kernel
theorem dX4_hinder_1 : decode cX4_hinder 1 = .ok (.getfield 10, 3) := by decide +kernel
theorem dX4_hinder_4 : decode cX4_hinder 4 = .ok (.iload_n 1, 1) := by decide +kernel
theorem dX4_hinder_5 : decode cX4_hinder 5 = .ok (.invokevirtual 69, 3) := by decide +kernel
theorem dX4_hinder_8 : decode cX4_hinder 8 = .ok (.ifCond .eq 11, 3) := by decide +kernel
theorem dX4_hinder_11 : decode cX4_hinder 11 = .ok (.iload_n 2, 1) := by decide +kernel
theorem dX4_hinder_12 : decode cX4_hinder 12 = .ok (.i2l, 1) := by decide +kernel
theorem dX4_hinder_13 : decode cX4_hinder 13 = .ok (.invokestatic 72, 3) := by decide +kernel
theorem dX4_hinder_16 : decode cX4_hinder 16 = .ok (.ifCond .ne 5, 3) := by decide +kernel
theorem dX4_hinder_19 : decode cX4_hinder 19 = .ok (.iconst (-1), 1) := by decide +kernel
theorem dX4_hinder_20 : decode cX4_hinder 20 = .ok (.ireturn, 1) := by decide +kernel
theorem dX4_hinder_21 : decode cX4_hinder 21 = .ok (.aload_n 0, 1) := by decide +kernel
theorem dX4_hinder_22 : decode cX4_hinder 22 = .ok (.getfield 27, 3) := by decide +kernel
theorem dX4_hinder_25 : decode cX4_hinder 25 = .ok (.iconst 0, 1) := by decide +kernel
theorem dX4_hinder_26 : decode cX4_hinder 26 = .ok (.putfield 50, 3) := by decide +kernel
theorem dX4_hinder_29 : decode cX4_hinder 29 = .ok (.aload_n 0, 1) := by decide +kernel
theorem dX4_hinder_30 : decode cX4_hinder 30 = .ok (.getfield 10, 3) := by decide +kernel
theorem dX4_hinder_33 : decode cX4_hinder 33 = .ok (.iload_n 1, 1) := by decide +kernel
theorem dX4_hinder_34 : decode cX4_hinder 34 = .ok (.iload_n 2, 1) := by decide +kernel
theorem dX4_hinder_35 : decode cX4_hinder 35 = .ok (.aload_n 0, 1) := by decide +kernel
theorem dX4_hinder_36 : decode cX4_hinder 36 = .ok (.getfield 10, 3) := by decide +kernel
theorem dX4_hinder_39 : decode cX4_hinder 39 = .ok (.iload_n 1, 1) := by decide +kernel
theorem dX4_hinder_40 : decode cX4_hinder 40 = .ok (.invokevirtual 76, 3) := by decide +kernel
theorem dX4_hinder_43 : decode cX4_hinder 43 = .ok (.invokevirtual 79, 3) := by decide +kernel
theorem dX4_hinder_46 : decode cX4_hinder 46 = .ok (.iconst 1, 1) := by decide +kernel
theorem dX4_hinder_47 : decode cX4_hinder 47 = .ok (.ireturn, 1) := by decide +kernel
theorem dX4_shut_0 : decode cX4_shut 0 = .ok (.aload_n 0, 1) := by decide +kernel
theorem dX4_shut_1 : decode cX4_shut 1 = .ok (.getfield 10, 3) := by decide +kernel
theorem dX4_shut_4 : decode cX4_shut 4 = .ok (.iload_n 1, 1) := by decide +kernel
theorem dX4_shut_5 : decode cX4_shut 5 = .ok (.invokevirtual 69, 3) := by decide +kernel
theorem dX4_shut_8 : decode cX4_shut 8 = .ok (.ifCond .ne 5, 3) := by decide +kernel
theorem dX4_shut_11 : decode cX4_shut 11 = .ok (.iconst (-1), 1) := by decide +kernel
theorem dX4_shut_12 : decode cX4_shut 12 = .ok (.ireturn, 1) := by decide +kernel
theorem dX4_shut_13 : decode cX4_shut 13 = .ok (.aload_n 0, 1) := by decide +kernel
theorem dX4_shut_14 : decode cX4_shut 14 = .ok (.getfield 27, 3) := by decide +kernel
theorem dX4_shut_17 : decode cX4_shut 17 = .ok (.iconst 0, 1) := by decide +kernel
theorem dX4_shut_18 : decode cX4_shut 18 = .ok (.putfield 50, 3) := by decide +kernel
theorem dX4_shut_21 : decode cX4_shut 21 = .ok (.aload_n 0, 1) := by decide +kernel
theorem dX4_shut_22 : decode cX4_shut 22 = .ok (.getfield 10, 3) := by decide +kernel
theorem dX4_shut_25 : decode cX4_shut 25 = .ok (.iload_n 1, 1) := by decide +kernel
theorem dX4_shut_26 : decode cX4_shut 26 = .ok (.invokevirtual 76, 3) := by decide +kernel
theorem dX4_shut_29 : decode cX4_shut 29 = .ok (.iload_n 2, 1) := by decide +kernel
theorem dX4_shut_30 : decode cX4_shut 30 = .ok (.if_icmp .eq 5, 3) := by decide +kernel
theorem dX4_shut_33 : decode cX4_shut 33 = .ok (.iconst 0, 1) := by decide +kernel
theorem dX4_shut_34 : decode cX4_shut 34 = .ok (.ireturn, 1) := by decide +kernel
theorem dX4_shut_35 : decode cX4_shut 35 = .ok (.aload_n 0, 1) := by decide +kernel
theorem dX4_shut_36 : decode cX4_shut 36 = .ok (.getfield 10, 3) := by decide +kernel
theorem dX4_shut_39 : decode cX4_shut 39 = .ok (.iload_n 1, 1) := by decide +kernel
theorem dX4_shut_40 : decode cX4_shut 40 = .ok (.aload_n 0, 1) := by decide +kernel
theorem dX4_shut_41 : decode cX4_shut 41 = .ok (.getfield 10, 3) := by decide +kernel
theorem dX4_shut_44 : decode cX4_shut 44 = .ok (.getfield 83, 3) := by decide +kernel
theorem dX4_shut_47 : decode cX4_shut 47 = .ok (.iload_n 1, 1) := by decide +kernel
theorem dX4_shut_48 : decode cX4_shut 48 = .ok (.iaload, 1) := by decide +kernel
theorem dX4_shut_49 : decode cX4_shut 49 = .ok (.iload_n 2, 1) := by decide +kernel
theorem dX4_shut_50 : decode cX4_shut 50 = .ok (.ifCond .ne 7, 3) := by decide +kernel
theorem dX4_shut_53 : decode cX4_shut 53 = .ok (.iconst 1, 1) := by decide +kernel
theorem dX4_shut_54 : decode cX4_shut 54 = .ok (.goto 4, 3) := by decide +kernel
theorem dX4_shut_57 : decode cX4_shut 57 = .ok (.iconst 0, 1) := by decide +kernel
theorem dX4_shut_58 : decode cX4_shut 58 = .ok (.invokevirtual 79, 3) := by decide +kernel
theorem dX4_shut_61 : decode cX4_shut 61 = .ok (.iconst 1, 1) := by decide +kernel
theorem dX4_shut_62 : decode cX4_shut 62 = .ok (.ireturn, 1) := by decide +kernel
theorem dX4_inlet_0 : decode cX4_inlet 0 = .ok (.aload_n 0, 1) := by decide +kernel
theorem dX4_inlet_1 : decode cX4_inlet 1 = .ok (.getfield 10, 3) := by decide +kernel
theorem dX4_inlet_4 : decode cX4_inlet 4 = .ok (.iload_n 1, 1) := by decide +kernel
theorem dX4_inlet_5 : decode cX4_inlet 5 = .ok (.invokevirtual 58, 3) := by decide +kernel
theorem dX4_inlet_8 : decode cX4_inlet 8 = .ok (.ifCond .ne 5, 3) := by decide +kernel
theorem dX4_inlet_11 : decode cX4_inlet 11 = .ok (.iconst (-1), 1) := by decide +kernel
theorem dX4_inlet_12 : decode cX4_inlet 12 = .ok (.ireturn, 1) := by decide +kernel
theorem dX4_inlet_13 : decode cX4_inlet 13 = .ok (.aload_n 0, 1) := by decide +kernel
theorem dX4_inlet_14 : decode cX4_inlet 14 = .ok (.getfield 27, 3) := by decide +kernel
theorem dX4_inlet_17 : decode cX4_inlet 17 = .ok (.iconst 0, 1) := by decide +kernel
theorem dX4_inlet_18 : decode cX4_inlet 18 = .ok (.putfield 50, 3) := by decide +kernel
theorem dX4_inlet_21 : decode cX4_inlet 21 = .ok (.aload_n 0, 1) := by decide +kernel
theorem dX4_inlet_22 : decode cX4_inlet 22 = .ok (.getfield 10, 3) := by decide +kernel
theorem dX4_inlet_25 : decode cX4_inlet 25 = .ok (.getfield 86, 3) := by decide +kernel
theorem dX4_inlet_28 : decode cX4_inlet 28 = .ok (.iload_n 1, 1) := by decide +kernel
theorem dX4_inlet_29 : decode cX4_inlet 29 = .ok (.baload, 1) := by decide +kernel
theorem dX4_inlet_30 : decode cX4_inlet 30 = .ok (.iload_n 2, 1) := by decide +kernel
theorem dX4_inlet_31 : decode cX4_inlet 31 = .ok (.if_icmp .ne 5, 3) := by decide +kernel
theorem dX4_inlet_34 : decode cX4_inlet 34 = .ok (.iconst 0, 1) := by decide +kernel
theorem dX4_inlet_35 : decode cX4_inlet 35 = .ok (.ireturn, 1) := by decide +kernel
theorem dX4_inlet_36 : decode cX4_inlet 36 = .ok (.aload_n 0, 1) := by decide +kernel
theorem dX4_inlet_37 : decode cX4_inlet 37 = .ok (.getfield 10, 3) := by decide +kernel
theorem dX4_inlet_40 : decode cX4_inlet 40 = .ok (.getfield 86, 3) := by decide +kernel
theorem dX4_inlet_43 : decode cX4_inlet 43 = .ok (.iload_n 1, 1) := by decide +kernel
theorem dX4_inlet_44 : decode cX4_inlet 44 = .ok (.iload_n 2, 1) := by decide +kernel
theorem dX4_inlet_45 : decode cX4_inlet 45 = .ok (.bastore, 1) := by decide +kernel
theorem dX4_inlet_46 : decode cX4_inlet 46 = .ok (.iconst 1, 1) := by decide +kernel
theorem dX4_inlet_47 : decode cX4_inlet 47 = .ok (.ireturn, 1) := by decide +kernel
theorem dX4_trapping_0 : decode cX4_trapping 0 = .ok (.aload_n 0, 1) := by decide +kernel
theorem dX4_trapping_1 : decode cX4_trapping 1 = .ok (.getfield 27, 3) := by decide +kernel
theorem dX4_trapping_4 : decode cX4_trapping 4 = .ok (.iconst 0, 1) := by decide +kernel
theorem dX4_trapping_5 : decode cX4_trapping 5 = .ok (.putfield 50, 3) := by decide +kernel
theorem dX4_trapping_8 : decode cX4_trapping 8 = .ok (.aload_n 0, 1) := by decide +kernel
theorem dX4_trapping_9 : decode cX4_trapping 9 = .ok (.getfield 10, 3) := by decide +kernel
theorem dX4_trapping_12 : decode cX4_trapping 12 = .ok (.getfield 90, 3) := by decide +kernel
theorem dX4_trapping_15 : decode cX4_trapping 15 = .ok (.iload_n 1, 1) := by decide +kernel
theorem dX4_trapping_16 : decode cX4_trapping 16 = .ok (.if_icmp .ne 5, 3) := by decide +kernel
theorem dX4_trapping_19 : decode cX4_trapping 19 = .ok (.iconst 0, 1) := by decide +kernel
theorem dX4_trapping_20 : decode cX4_trapping 20 = .ok (.ireturn, 1) := by decide +kernel
theorem dX4_trapping_21 : decode cX4_trapping 21 = .ok (.aload_n 0, 1) := by decide +kernel
theorem dX4_trapping_22 : decode cX4_trapping 22 = .ok (.getfield 10, 3) := by decide +kernel
theorem dX4_trapping_25 : decode cX4_trapping 25 = .ok (.iload_n 1, 1) := by decide +kernel
theorem dX4_trapping_26 : decode cX4_trapping 26 = .ok (.putfield 90, 3) := by decide +kernel
theorem dX4_trapping_29 : decode cX4_trapping 29 = .ok (.iconst 1, 1) := by decide +kernel
theorem dX4_trapping_30 : decode cX4_trapping 30 = .ok (.ireturn, 1) := by decide +kernel
theorem dX4_about_0 : decode cX4_about 0 = .ok (.aload_n 0, 1) := by decide +kernel
theorem dX4_about_1 : decode cX4_about 1 = .ok (.getfield 10, 3) := by decide +kernel
theorem dX4_about_4 : decode cX4_about 4 = .ok (.iload_n 1, 1) := by decide +kernel
theorem dX4_about_5 : decode cX4_about 5 = .ok (.invokevirtual 69, 3) := by decide +kernel
theorem dX4_about_8 : decode cX4_about 8 = .ok (.ifCond .ne 5, 3) := by decide +kernel
theorem dX4_about_11 : decode cX4_about 11 = .ok (.iconst (-1), 1) := by decide +kernel
theorem dX4_about_12 : decode cX4_about 12 = .ok (.ireturn, 1) := by decide +kernel
theorem dX4_about_13 : decode cX4_about 13 = .ok (.iload_n 2, 1) := by decide +kernel
theorem dX4_about_14 : decode cX4_about 14 = .ok (.tableswitch 91 0 4 #[34, 44, 54, 64, 81], 34) := by decide +kernel
theorem dX4_about_48 : decode cX4_about 48 = .ok (.aload_n 0, 1) := by decide +kernel
theorem dX4_about_49 : decode cX4_about 49 = .ok (.getfield 10, 3) := by decide +kernel
theorem dX4_about_52 : decode cX4_about 52 = .ok (.getfield 93, 3) := by decide +kernel
theorem dX4_about_55 : decode cX4_about 55 = .ok (.iload_n 1, 1) := by decide +kernel
theorem dX4_about_56 : decode cX4_about 56 = .ok (.iaload, 1) := by decide +kernel
theorem dX4_about_57 : decode cX4_about 57 = .ok (.ireturn, 1) := by decide +kernel
theorem dX4_about_58 : decode cX4_about 58 = .ok (.aload_n 0, 1) := by decide +kernel
theorem dX4_about_59 : decode cX4_about 59 = .ok (.getfield 10, 3) := by decide +kernel
theorem dX4_about_62 : decode cX4_about 62 = .ok (.getfield 96, 3) := by decide +kernel
theorem dX4_about_65 : decode cX4_about 65 = .ok (.iload_n 1, 1) := by decide +kernel
theorem dX4_about_66 : decode cX4_about 66 = .ok (.iaload, 1) := by decide +kernel
theorem dX4_about_67 : decode cX4_about 67 = .ok (.ireturn, 1) := by decide +kernel
theorem dX4_about_68 : decode cX4_about 68 = .ok (.aload_n 0, 1) := by decide +kernel
theorem dX4_about_69 : decode cX4_about 69 = .ok (.getfield 10, 3) := by decide +kernel
theorem dX4_about_72 : decode cX4_about 72 = .ok (.getfield 83, 3) := by decide +kernel
theorem dX4_about_75 : decode cX4_about 75 = .ok (.iload_n 1, 1) := by decide +kernel
theorem dX4_about_76 : decode cX4_about 76 = .ok (.iaload, 1) := by decide +kernel
theorem dX4_about_77 : decode cX4_about 77 = .ok (.ireturn, 1) := by decide +kernel
theorem dX4_about_78 : decode cX4_about 78 = .ok (.aload_n 0, 1) := by decide +kernel
theorem dX4_about_79 : decode cX4_about 79 = .ok (.getfield 10, 3) := by decide +kernel
theorem dX4_about_82 : decode cX4_about 82 = .ok (.iload_n 1, 1) := by decide +kernel
theorem dX4_about_83 : decode cX4_about 83 = .ok (.invokevirtual 76, 3) := by decide +kernel
theorem dX4_about_86 : decode cX4_about 86 = .ok (.ifCond .eq 7, 3) := by decide +kernel
theorem dX4_about_89 : decode cX4_about 89 = .ok (.iconst 1, 1) := by decide +kernel
theorem dX4_about_90 : decode cX4_about 90 = .ok (.goto 4, 3) := by decide +kernel
theorem dX4_about_93 : decode cX4_about 93 = .ok (.iconst 0, 1) := by decide +kernel
theorem dX4_about_94 : decode cX4_about 94 = .ok (.ireturn, 1) := by decide +kernel
theorem dX4_about_95 : decode cX4_about 95 = .ok (.aload_n 0, 1) := by decide +kernel
theorem dX4_about_96 : decode cX4_about 96 = .ok (.getfield 10, 3) := by decide +kernel
theorem dX4_about_99 : decode cX4_about 99 = .ok (.getfield 99, 3) := by decide +kernel
theorem dX4_about_102 : decode cX4_about 102 = .ok (.iload_n 1, 1) := by decide +kernel
theorem dX4_about_103 : decode cX4_about 103 = .ok (.iaload, 1) := by decide +kernel
theorem dX4_about_104 : decode cX4_about 104 = .ok (.ireturn, 1) := by decide +kernel
theorem dX4_about_105 : decode cX4_about 105 = .ok (.iconst (-1), 1) := by decide +kernel
theorem dX4_about_106 : decode cX4_about 106 = .ok (.ireturn, 1) := by decide +kernel
theorem dX4_of_0 : decode cX4_of 0 = .ok (.aload_n 0, 1) := by decide +kernel
theorem dX4_of_1 : decode cX4_of 1 = .ok (.getfield 10, 3) := by decide +kernel
theorem dX4_of_4 : decode cX4_of 4 = .ok (.iload_n 1, 1) := by decide +kernel
theorem dX4_of_5 : decode cX4_of 5 = .ok (.invokevirtual 58, 3) := by decide +kernel
theorem dX4_of_8 : decode cX4_of 8 = .ok (.ifCond .ne 5, 3) := by decide +kernel
theorem dX4_of_11 : decode cX4_of 11 = .ok (.iconst (-1), 1) := by decide +kernel
theorem dX4_of_12 : decode cX4_of 12 = .ok (.ireturn, 1) := by decide +kernel
theorem dX4_of_13 : decode cX4_of 13 = .ok (.iload_n 2, 1) := by decide +kernel
theorem dX4_of_14 : decode cX4_of 14 = .ok (.tableswitch 76 0 2 #[26, 36, 54], 26) := by decide +kernel
theorem dX4_of_40 : decode cX4_of 40 = .ok (.aload_n 0, 1) := by decide +kernel
theorem dX4_of_41 : decode cX4_of 41 = .ok (.getfield 10, 3) := by decide +kernel
theorem dX4_of_44 : decode cX4_of 44 = .ok (.getfield 102, 3) := by decide +kernel
theorem dX4_of_47 : decode cX4_of 47 = .ok (.iload_n 1, 1) := by decide +kernel
theorem dX4_of_48 : decode cX4_of 48 = .ok (.iaload, 1) := by decide +kernel
theorem dX4_of_49 : decode cX4_of 49 = .ok (.ireturn, 1) := by decide +kernel
theorem dX4_of_50 : decode cX4_of 50 = .ok (.aload_n 0, 1) := by decide +kernel
theorem dX4_of_51 : decode cX4_of 51 = .ok (.getfield 10, 3) := by decide +kernel
theorem dX4_of_54 : decode cX4_of 54 = .ok (.getfield 86, 3) := by decide +kernel
theorem dX4_of_57 : decode cX4_of 57 = .ok (.iload_n 1, 1) := by decide +kernel
theorem dX4_of_58 : decode cX4_of 58 = .ok (.baload, 1) := by decide +kernel
theorem dX4_of_59 : decode cX4_of 59 = .ok (.ifCond .eq 7, 3) := by decide +kernel
theorem dX4_of_62 : decode cX4_of 62 = .ok (.iconst 1, 1) := by decide +kernel
theorem dX4_of_63 : decode cX4_of 63 = .ok (.goto 4, 3) := by decide +kernel
theorem dX4_of_66 : decode cX4_of 66 = .ok (.iconst 0, 1) := by decide +kernel
theorem dX4_of_67 : decode cX4_of 67 = .ok (.ireturn, 1) := by decide +kernel
theorem dX4_of_68 : decode cX4_of 68 = .ok (.aload_n 0, 1) := by decide +kernel
theorem dX4_of_69 : decode cX4_of 69 = .ok (.getfield 10, 3) := by decide +kernel
theorem dX4_of_72 : decode cX4_of 72 = .ok (.getfield 105, 3) := by decide +kernel
theorem dX4_of_75 : decode cX4_of 75 = .ok (.iload_n 1, 1) := by decide +kernel
theorem dX4_of_76 : decode cX4_of 76 = .ok (.iconst 1, 1) := by decide +kernel
theorem dX4_of_77 : decode cX4_of 77 = .ok (.iadd, 1) := by decide +kernel
theorem dX4_of_78 : decode cX4_of 78 = .ok (.iaload, 1) := by decide +kernel
theorem dX4_of_79 : decode cX4_of 79 = .ok (.aload_n 0, 1) := by decide +kernel
theorem dX4_of_80 : decode cX4_of 80 = .ok (.getfield 10, 3) := by decide +kernel
theorem dX4_of_83 : decode cX4_of 83 = .ok (.getfield 105, 3) := by decide +kernel
theorem dX4_of_86 : decode cX4_of 86 = .ok (.iload_n 1, 1) := by decide +kernel
theorem dX4_of_87 : decode cX4_of 87 = .ok (.iaload, 1) := by decide +kernel
theorem dX4_of_88 : decode cX4_of 88 = .ok (.isub, 1) := by decide +kernel
theorem dX4_of_89 : decode cX4_of 89 = .ok (.ireturn, 1) := by decide +kernel
theorem dX4_of_90 : decode cX4_of 90 = .ok (.iconst (-1), 1) := by decide +kernel
theorem dX4_of_91 : decode cX4_of 91 = .ok (.ireturn, 1) := by decide +kernel
theorem dX4_ranked_0 : decode cX4_ranked 0 = .ok (.iload_n 1, 1) := by decide +kernel
theorem dX4_ranked_1 : decode cX4_ranked 1 = .ok (.ifCond .lt 26, 3) := by decide +kernel
theorem dX4_ranked_4 : decode cX4_ranked 4 = .ok (.iload_n 1, 1) := by decide +kernel
theorem dX4_ranked_5 : decode cX4_ranked 5 = .ok (.aload_n 0, 1) := by decide +kernel
theorem dX4_ranked_6 : decode cX4_ranked 6 = .ok (.getfield 10, 3) := by decide +kernel
theorem dX4_ranked_9 : decode cX4_ranked 9 = .ok (.getfield 108, 3) := by decide +kernel
theorem dX4_ranked_12 : decode cX4_ranked 12 = .ok (.if_icmp .ge 15, 3) := by decide +kernel
theorem dX4_ranked_15 : decode cX4_ranked 15 = .ok (.aload_n 0, 1) := by decide +kernel
theorem dX4_ranked_16 : decode cX4_ranked 16 = .ok (.getfield 10, 3) := by decide +kernel
theorem dX4_ranked_19 : decode cX4_ranked 19 = .ok (.getfield 111, 3) := by decide +kernel
theorem dX4_ranked_22 : decode cX4_ranked 22 = .ok (.iload_n 1, 1) := by decide +kernel
theorem dX4_ranked_23 : decode cX4_ranked 23 = .ok (.iaload, 1) := by decide +kernel
theorem dX4_ranked_24 : decode cX4_ranked 24 = .ok (.goto 4, 3) := by decide +kernel
theorem dX4_ranked_27 : decode cX4_ranked 27 = .ok (.iconst (-1), 1) := by decide +kernel
theorem dX4_ranked_28 : decode cX4_ranked 28 = .ok (.ireturn, 1) := by decide +kernel
theorem dX4_core_0 : decode cX4_core 0 = .ok (.iload_n 1, 1) := by decide +kernel
theorem dX4_core_1 : decode cX4_core 1 = .ok (.invokestatic 114, 3) := by decide +kernel
theorem dX4_core_4 : decode cX4_core 4 = .ok (.ifCond .eq 12, 3) := by decide +kernel
theorem dX4_core_7 : decode cX4_core 7 = .ok (.iload_n 2, 1) := by decide +kernel
theorem dX4_core_8 : decode cX4_core 8 = .ok (.ifCond .lt 8, 3) := by decide +kernel
theorem dX4_core_11 : decode cX4_core 11 = .ok (.iload_n 2, 1) := by decide +kernel
theorem dX4_core_12 : decode cX4_core 12 = .ok (.iconst 5, 1) := by decide +kernel
theorem dX4_core_13 : decode cX4_core 13 = .ok (.if_icmp .le 5, 3) := by decide +kernel
theorem dX4_core_16 : decode cX4_core 16 = .ok (.iconst (-1), 1) := by decide +kernel
theorem dX4_core_17 : decode cX4_core 17 = .ok (.ireturn, 1) := by decide +kernel
theorem dX4_core_18 : decode cX4_core 18 = .ok (.iload_n 3, 1) := by decide +kernel
theorem dX4_core_19 : decode cX4_core 19 = .ok (.ifCond .ge 6, 3) := by decide +kernel
theorem dX4_core_22 : decode cX4_core 22 = .ok (.bipush (-5), 2) := by decide +kernel
theorem dX4_core_24 : decode cX4_core 24 = .ok (.ireturn, 1) := by decide +kernel
theorem dX4_core_25 : decode cX4_core 25 = .ok (.iload_n 3, 1) := by decide +kernel
theorem dX4_core_26 : decode cX4_core 26 = .ok (.bipush 60, 2) := by decide +kernel
theorem dX4_core_28 : decode cX4_core 28 = .ok (.if_icmp .le 5, 3) := by decide +kernel
theorem dX4_core_31 : decode cX4_core 31 = .ok (.iconst (-1), 1) := by decide +kernel
theorem dX4_core_32 : decode cX4_core 32 = .ok (.ireturn, 1) := by decide +kernel
theorem dX4_core_33 : decode cX4_core 33 = .ok (.aload_n 0, 1) := by decide +kernel
theorem dX4_core_34 : decode cX4_core 34 = .ok (.getfield 18, 3) := by decide +kernel
theorem dX4_core_37 : decode cX4_core 37 = .ok (.iload_n 1, 1) := by decide +kernel
theorem dX4_core_38 : decode cX4_core 38 = .ok (.aaload, 1) := by decide +kernel
theorem dX4_core_39 : decode cX4_core 39 = .ok (.iload_n 2, 1) := by decide +kernel
theorem dX4_core_40 : decode cX4_core 40 = .ok (.iload_n 3, 1) := by decide +kernel
theorem dX4_core_41 : decode cX4_core 41 = .ok (.invokevirtual 117, 3) := by decide +kernel
theorem dX4_core_44 : decode cX4_core 44 = .ok (.iconst 1, 1) := by decide +kernel
theorem dX4_core_45 : decode cX4_core 45 = .ok (.ireturn, 1) := by decide +kernel
theorem dX4_cell_0 : decode cX4_cell 0 = .ok (.iload_n 1, 1) := by decide +kernel
theorem dX4_cell_1 : decode cX4_cell 1 = .ok (.invokestatic 114, 3) := by decide +kernel
theorem dX4_cell_4 : decode cX4_cell 4 = .ok (.ifCond .eq 15, 3) := by decide +kernel
theorem dX4_cell_7 : decode cX4_cell 7 = .ok (.iload 5, 2) := by decide +kernel
theorem dX4_cell_9 : decode cX4_cell 9 = .ok (.ifCond .lt 10, 3) := by decide +kernel
theorem dX4_cell_12 : decode cX4_cell 12 = .ok (.iload 5, 2) := by decide +kernel
theorem dX4_cell_14 : decode cX4_cell 14 = .ok (.bipush 30, 2) := by decide +kernel
theorem dX4_cell_16 : decode cX4_cell 16 = .ok (.if_icmp .le 5, 3) := by decide +kernel
theorem dX4_cell_19 : decode cX4_cell 19 = .ok (.iconst (-1), 1) := by decide +kernel
theorem dX4_cell_20 : decode cX4_cell 20 = .ok (.ireturn, 1) := by decide +kernel
theorem dX4_cell_21 : decode cX4_cell 21 = .ok (.aload_n 0, 1) := by decide +kernel
theorem dX4_cell_22 : decode cX4_cell 22 = .ok (.getfield 18, 3) := by decide +kernel
theorem dX4_cell_25 : decode cX4_cell 25 = .ok (.iload_n 1, 1) := by decide +kernel
theorem dX4_cell_26 : decode cX4_cell 26 = .ok (.aaload, 1) := by decide +kernel
theorem dX4_cell_27 : decode cX4_cell 27 = .ok (.getfield 121, 3) := by decide +kernel
theorem dX4_cell_30 : decode cX4_cell 30 = .ok (.ifCond .ne 6, 3) := by decide +kernel
theorem dX4_cell_33 : decode cX4_cell 33 = .ok (.bipush (-3), 2) := by decide +kernel
theorem dX4_cell_35 : decode cX4_cell 35 = .ok (.ireturn, 1) := by decide +kernel
theorem dX4_cell_36 : decode cX4_cell 36 = .ok (.aload_n 0, 1) := by decide +kernel
theorem dX4_cell_37 : decode cX4_cell 37 = .ok (.getfield 18, 3) := by decide +kernel
theorem dX4_cell_40 : decode cX4_cell 40 = .ok (.iload_n 1, 1) := by decide +kernel
theorem dX4_cell_41 : decode cX4_cell 41 = .ok (.aaload, 1) := by decide +kernel
theorem dX4_cell_42 : decode cX4_cell 42 = .ok (.iload_n 2, 1) := by decide +kernel
theorem dX4_cell_43 : decode cX4_cell 43 = .ok (.invokevirtual 124, 3) := by decide +kernel
theorem dX4_cell_46 : decode cX4_cell 46 = .ok (.ifCond .ne 5, 3) := by decide +kernel
theorem dX4_cell_49 : decode cX4_cell 49 = .ok (.iconst (-1), 1) := by decide +kernel
theorem dX4_cell_50 : decode cX4_cell 50 = .ok (.ireturn, 1) := by decide +kernel
theorem dX4_cell_51 : decode cX4_cell 51 = .ok (.aload_n 0, 1) := by decide +kernel
theorem dX4_cell_52 : decode cX4_cell 52 = .ok (.getfield 18, 3) := by decide +kernel
theorem dX4_cell_55 : decode cX4_cell 55 = .ok (.iload_n 1, 1) := by decide +kernel
theorem dX4_cell_56 : decode cX4_cell 56 = .ok (.aaload, 1) := by decide +kernel
theorem dX4_cell_57 : decode cX4_cell 57 = .ok (.iload_n 2, 1) := by decide +kernel
theorem dX4_cell_58 : decode cX4_cell 58 = .ok (.lload_n 3, 1) := by decide +kernel
theorem dX4_cell_59 : decode cX4_cell 59 = .ok (.iload 5, 2) := by decide +kernel
theorem dX4_cell_61 : decode cX4_cell 61 = .ok (.invokevirtual 127, 3) := by decide +kernel
theorem dX4_cell_64 : decode cX4_cell 64 = .ok (.iconst 1, 1) := by decide +kernel
theorem dX4_cell_65 : decode cX4_cell 65 = .ok (.ireturn, 1) := by decide +kernel
theorem dX4_wild_0 : decode cX4_wild 0 = .ok (.iload_n 1, 1) := by decide +kernel
theorem dX4_wild_1 : decode cX4_wild 1 = .ok (.invokestatic 114, 3) := by decide +kernel
theorem dX4_wild_4 : decode cX4_wild 4 = .ok (.ifCond .eq 12, 3) := by decide +kernel
theorem dX4_wild_7 : decode cX4_wild 7 = .ok (.iload_n 3, 1) := by decide +kernel
theorem dX4_wild_8 : decode cX4_wild 8 = .ok (.ifCond .lt 8, 3) := by decide +kernel
theorem dX4_wild_11 : decode cX4_wild 11 = .ok (.iload_n 3, 1) := by decide +kernel
theorem dX4_wild_12 : decode cX4_wild 12 = .ok (.iconst 3, 1) := by decide +kernel
theorem dX4_wild_13 : decode cX4_wild 13 = .ok (.if_icmp .le 5, 3) := by decide +kernel
theorem dX4_wild_16 : decode cX4_wild 16 = .ok (.iconst (-1), 1) := by decide +kernel
theorem dX4_wild_17 : decode cX4_wild 17 = .ok (.ireturn, 1) := by decide +kernel
theorem dX4_wild_18 : decode cX4_wild 18 = .ok (.aload_n 0, 1) := by decide +kernel
theorem dX4_wild_19 : decode cX4_wild 19 = .ok (.getfield 18, 3) := by decide +kernel
theorem dX4_wild_22 : decode cX4_wild 22 = .ok (.iload_n 1, 1) := by decide +kernel
theorem dX4_wild_23 : decode cX4_wild 23 = .ok (.aaload, 1) := by decide +kernel
theorem dX4_wild_24 : decode cX4_wild 24 = .ok (.getfield 121, 3) := by decide +kernel
theorem dX4_wild_27 : decode cX4_wild 27 = .ok (.ifCond .ne 6, 3) := by decide +kernel
theorem dX4_wild_30 : decode cX4_wild 30 = .ok (.bipush (-3), 2) := by decide +kernel
theorem dX4_wild_32 : decode cX4_wild 32 = .ok (.ireturn, 1) := by decide +kernel
theorem dX4_wild_33 : decode cX4_wild 33 = .ok (.aload_n 0, 1) := by decide +kernel
theorem dX4_wild_34 : decode cX4_wild 34 = .ok (.getfield 18, 3) := by decide +kernel
theorem dX4_wild_37 : decode cX4_wild 37 = .ok (.iload_n 1, 1) := by decide +kernel
theorem dX4_wild_38 : decode cX4_wild 38 = .ok (.aaload, 1) := by decide +kernel
theorem dX4_wild_39 : decode cX4_wild 39 = .ok (.getfield 131, 3) := by decide +kernel
theorem dX4_wild_42 : decode cX4_wild 42 = .ok (.iconst 4, 1) := by decide +kernel
theorem dX4_wild_43 : decode cX4_wild 43 = .ok (.if_icmp .eq 19, 3) := by decide +kernel
theorem dX4_wild_46 : decode cX4_wild 46 = .ok (.aload_n 0, 1) := by decide +kernel
theorem dX4_wild_47 : decode cX4_wild 47 = .ok (.getfield 18, 3) := by decide +kernel
theorem dX4_wild_50 : decode cX4_wild 50 = .ok (.iload_n 1, 1) := by decide +kernel
theorem dX4_wild_51 : decode cX4_wild 51 = .ok (.aaload, 1) := by decide +kernel
theorem dX4_wild_52 : decode cX4_wild 52 = .ok (.getfield 131, 3) := by decide +kernel
theorem dX4_wild_55 : decode cX4_wild 55 = .ok (.iconst 5, 1) := by decide +kernel
theorem dX4_wild_56 : decode cX4_wild 56 = .ok (.if_icmp .eq 6, 3) := by decide +kernel
theorem dX4_wild_59 : decode cX4_wild 59 = .ok (.bipush (-4), 2) := by decide +kernel
theorem dX4_wild_61 : decode cX4_wild 61 = .ok (.ireturn, 1) := by decide +kernel
theorem dX4_wild_62 : decode cX4_wild 62 = .ok (.aload_n 0, 1) := by decide +kernel
theorem dX4_wild_63 : decode cX4_wild 63 = .ok (.getfield 18, 3) := by decide +kernel
theorem dX4_wild_66 : decode cX4_wild 66 = .ok (.iload_n 1, 1) := by decide +kernel
theorem dX4_wild_67 : decode cX4_wild 67 = .ok (.aaload, 1) := by decide +kernel
theorem dX4_wild_68 : decode cX4_wild 68 = .ok (.iload_n 2, 1) := by decide +kernel
theorem dX4_wild_69 : decode cX4_wild 69 = .ok (.invokevirtual 124, 3) := by decide +kernel
theorem dX4_wild_72 : decode cX4_wild 72 = .ok (.ifCond .ne 5, 3) := by decide +kernel
theorem dX4_wild_75 : decode cX4_wild 75 = .ok (.iconst (-1), 1) := by decide +kernel
theorem dX4_wild_76 : decode cX4_wild 76 = .ok (.ireturn, 1) := by decide +kernel
theorem dX4_wild_77 : decode cX4_wild 77 = .ok (.aload_n 0, 1) := by decide +kernel
theorem dX4_wild_78 : decode cX4_wild 78 = .ok (.getfield 18, 3) := by decide +kernel
theorem dX4_wild_81 : decode cX4_wild 81 = .ok (.iload_n 1, 1) := by decide +kernel
theorem dX4_wild_82 : decode cX4_wild 82 = .ok (.aaload, 1) := by decide +kernel
theorem dX4_wild_83 : decode cX4_wild 83 = .ok (.iload_n 2, 1) := by decide +kernel
theorem dX4_wild_84 : decode cX4_wild 84 = .ok (.iload_n 3, 1) := by decide +kernel
theorem dX4_wild_85 : decode cX4_wild 85 = .ok (.invokevirtual 133, 3) := by decide +kernel
theorem dX4_wild_88 : decode cX4_wild 88 = .ok (.iconst 1, 1) := by decide +kernel
theorem dX4_wild_89 : decode cX4_wild 89 = .ok (.ireturn, 1) := by decide +kernel
theorem dX4_splice_0 : decode cX4_splice 0 = .ok (.iload_n 1, 1) := by decide +kernel
theorem dX4_splice_1 : decode cX4_splice 1 = .ok (.invokestatic 114, 3) := by decide +kernel
theorem dX4_splice_4 : decode cX4_splice 4 = .ok (.ifCond .eq 10, 3) := by decide +kernel
theorem dX4_splice_7 : decode cX4_splice 7 = .ok (.iload_n 3, 1) := by decide +kernel
theorem dX4_splice_8 : decode cX4_splice 8 = .ok (.invokestatic 114, 3) := by decide +kernel
theorem dX4_splice_11 : decode cX4_splice 11 = .ok (.ifCond .ne 5, 3) := by decide +kernel
theorem dX4_splice_14 : decode cX4_splice 14 = .ok (.iconst (-1), 1) := by decide +kernel
end
section
theorem dX4_splice_15 : decode cX4_splice 15 = .ok (.ireturn, 1) := by decide +kernel
theorem dX4_splice_16 : decode cX4_splice 16 = .ok (.aload_n 0, 1) := by decide +kernel
theorem dX4_splice_17 : decode cX4_splice 17 = .ok (.getfield 18, 3) := by decide +kernel
theorem dX4_splice_20 : decode cX4_splice 20 = .ok (.iload_n 1, 1) := by decide +kernel
theorem dX4_splice_21 : decode cX4_splice 21 = .ok (.aaload, 1) := by decide +kernel
theorem dX4_splice_22 : decode cX4_splice 22 = .ok (.getfield 121, 3) := by decide +kernel
theorem dX4_splice_25 : decode cX4_splice 25 = .ok (.ifCond .eq 15, 3) := by decide +kernel
theorem dX4_splice_28 : decode cX4_splice 28 = .ok (.aload_n 0, 1) := by decide +kernel
theorem dX4_splice_29 : decode cX4_splice 29 = .ok (.getfield 18, 3) := by decide +kernel
theorem dX4_splice_32 : decode cX4_splice 32 = .ok (.iload_n 3, 1) := by decide +kernel
theorem dX4_splice_33 : decode cX4_splice 33 = .ok (.aaload, 1) := by decide +kernel
theorem dX4_splice_34 : decode cX4_splice 34 = .ok (.getfield 121, 3) := by decide +kernel
theorem dX4_splice_37 : decode cX4_splice 37 = .ok (.ifCond .ne 6, 3) := by decide +kernel
theorem dX4_splice_40 : decode cX4_splice 40 = .ok (.bipush (-3), 2) := by decide +kernel
theorem dX4_splice_42 : decode cX4_splice 42 = .ok (.ireturn, 1) := by decide +kernel
theorem dX4_splice_43 : decode cX4_splice 43 = .ok (.aload_n 0, 1) := by decide +kernel
theorem dX4_splice_44 : decode cX4_splice 44 = .ok (.getfield 18, 3) := by decide +kernel
theorem dX4_splice_47 : decode cX4_splice 47 = .ok (.iload_n 1, 1) := by decide +kernel
theorem dX4_splice_48 : decode cX4_splice 48 = .ok (.aaload, 1) := by decide +kernel
theorem dX4_splice_49 : decode cX4_splice 49 = .ok (.getfield 131, 3) := by decide +kernel
theorem dX4_splice_52 : decode cX4_splice 52 = .ok (.aload_n 0, 1) := by decide +kernel
theorem dX4_splice_53 : decode cX4_splice 53 = .ok (.getfield 18, 3) := by decide +kernel
theorem dX4_splice_56 : decode cX4_splice 56 = .ok (.iload_n 3, 1) := by decide +kernel
theorem dX4_splice_57 : decode cX4_splice 57 = .ok (.aaload, 1) := by decide +kernel
theorem dX4_splice_58 : decode cX4_splice 58 = .ok (.getfield 131, 3) := by decide +kernel
theorem dX4_splice_61 : decode cX4_splice 61 = .ok (.if_icmp .eq 6, 3) := by decide +kernel
theorem dX4_splice_64 : decode cX4_splice 64 = .ok (.bipush (-4), 2) := by decide +kernel
theorem dX4_splice_66 : decode cX4_splice 66 = .ok (.ireturn, 1) := by decide +kernel
theorem dX4_splice_67 : decode cX4_splice 67 = .ok (.aload_n 0, 1) := by decide +kernel
theorem dX4_splice_68 : decode cX4_splice 68 = .ok (.getfield 18, 3) := by decide +kernel
theorem dX4_splice_71 : decode cX4_splice 71 = .ok (.iload_n 1, 1) := by decide +kernel
theorem dX4_splice_72 : decode cX4_splice 72 = .ok (.aaload, 1) := by decide +kernel
theorem dX4_splice_73 : decode cX4_splice 73 = .ok (.iload_n 2, 1) := by decide +kernel
theorem dX4_splice_74 : decode cX4_splice 74 = .ok (.iload 5, 2) := by decide +kernel
theorem dX4_splice_76 : decode cX4_splice 76 = .ok (.invokevirtual 136, 3) := by decide +kernel
theorem dX4_splice_79 : decode cX4_splice 79 = .ok (.ifCond .eq 19, 3) := by decide +kernel
theorem dX4_splice_82 : decode cX4_splice 82 = .ok (.aload_n 0, 1) := by decide +kernel
theorem dX4_splice_83 : decode cX4_splice 83 = .ok (.getfield 18, 3) := by decide +kernel
theorem dX4_splice_86 : decode cX4_splice 86 = .ok (.iload_n 3, 1) := by decide +kernel
theorem dX4_splice_87 : decode cX4_splice 87 = .ok (.aaload, 1) := by decide +kernel
theorem dX4_splice_88 : decode cX4_splice 88 = .ok (.iload 4, 2) := by decide +kernel
theorem dX4_splice_90 : decode cX4_splice 90 = .ok (.iload 5, 2) := by decide +kernel
theorem dX4_splice_92 : decode cX4_splice 92 = .ok (.invokevirtual 136, 3) := by decide +kernel
theorem dX4_splice_95 : decode cX4_splice 95 = .ok (.ifCond .ne 5, 3) := by decide +kernel
theorem dX4_splice_98 : decode cX4_splice 98 = .ok (.iconst (-1), 1) := by decide +kernel
theorem dX4_splice_99 : decode cX4_splice 99 = .ok (.ireturn, 1) := by decide +kernel
theorem dX4_splice_100 : decode cX4_splice 100 = .ok (.aload_n 0, 1) := by decide +kernel
theorem dX4_splice_101 : decode cX4_splice 101 = .ok (.getfield 18, 3) := by decide +kernel
theorem dX4_splice_104 : decode cX4_splice 104 = .ok (.iload_n 1, 1) := by decide +kernel
theorem dX4_splice_105 : decode cX4_splice 105 = .ok (.aaload, 1) := by decide +kernel
theorem dX4_splice_106 : decode cX4_splice 106 = .ok (.iload_n 2, 1) := by decide +kernel
theorem dX4_splice_107 : decode cX4_splice 107 = .ok (.aload_n 0, 1) := by decide +kernel
theorem dX4_splice_108 : decode cX4_splice 108 = .ok (.getfield 18, 3) := by decide +kernel
theorem dX4_splice_111 : decode cX4_splice 111 = .ok (.iload_n 3, 1) := by decide +kernel
theorem dX4_splice_112 : decode cX4_splice 112 = .ok (.aaload, 1) := by decide +kernel
theorem dX4_splice_113 : decode cX4_splice 113 = .ok (.iload 4, 2) := by decide +kernel
theorem dX4_splice_115 : decode cX4_splice 115 = .ok (.iload 5, 2) := by decide +kernel
theorem dX4_splice_117 : decode cX4_splice 117 = .ok (.invokevirtual 140, 3) := by decide +kernel
theorem dX4_splice_120 : decode cX4_splice 120 = .ok (.iconst 1, 1) := by decide +kernel
theorem dX4_splice_121 : decode cX4_splice 121 = .ok (.ireturn, 1) := by decide +kernel
theorem dX4_lose_0 : decode cX4_lose 0 = .ok (.iload_n 1, 1) := by decide +kernel
theorem dX4_lose_1 : decode cX4_lose 1 = .ok (.invokestatic 114, 3) := by decide +kernel
theorem dX4_lose_4 : decode cX4_lose 4 = .ok (.ifCond .ne 5, 3) := by decide +kernel
theorem dX4_lose_7 : decode cX4_lose 7 = .ok (.iconst (-1), 1) := by decide +kernel
theorem dX4_lose_8 : decode cX4_lose 8 = .ok (.ireturn, 1) := by decide +kernel
theorem dX4_lose_9 : decode cX4_lose 9 = .ok (.aload_n 0, 1) := by decide +kernel
theorem dX4_lose_10 : decode cX4_lose 10 = .ok (.getfield 18, 3) := by decide +kernel
theorem dX4_lose_13 : decode cX4_lose 13 = .ok (.iload_n 1, 1) := by decide +kernel
theorem dX4_lose_14 : decode cX4_lose 14 = .ok (.aaload, 1) := by decide +kernel
theorem dX4_lose_15 : decode cX4_lose 15 = .ok (.getfield 121, 3) := by decide +kernel
theorem dX4_lose_18 : decode cX4_lose 18 = .ok (.ifCond .ne 6, 3) := by decide +kernel
theorem dX4_lose_21 : decode cX4_lose 21 = .ok (.bipush (-3), 2) := by decide +kernel
theorem dX4_lose_23 : decode cX4_lose 23 = .ok (.ireturn, 1) := by decide +kernel
theorem dX4_lose_24 : decode cX4_lose 24 = .ok (.aload_n 0, 1) := by decide +kernel
theorem dX4_lose_25 : decode cX4_lose 25 = .ok (.getfield 18, 3) := by decide +kernel
theorem dX4_lose_28 : decode cX4_lose 28 = .ok (.iload_n 1, 1) := by decide +kernel
theorem dX4_lose_29 : decode cX4_lose 29 = .ok (.aaload, 1) := by decide +kernel
theorem dX4_lose_30 : decode cX4_lose 30 = .ok (.iconst 0, 1) := by decide +kernel
theorem dX4_lose_31 : decode cX4_lose 31 = .ok (.putfield 121, 3) := by decide +kernel
theorem dX4_lose_34 : decode cX4_lose 34 = .ok (.iconst 1, 1) := by decide +kernel
theorem dX4_lose_35 : decode cX4_lose 35 = .ok (.ireturn, 1) := by decide +kernel
theorem dX4_told_0 : decode cX4_told 0 = .ok (.iload_n 1, 1) := by decide +kernel
theorem dX4_told_1 : decode cX4_told 1 = .ok (.invokestatic 114, 3) := by decide +kernel
theorem dX4_told_4 : decode cX4_told 4 = .ok (.ifCond .eq 28, 3) := by decide +kernel
theorem dX4_told_7 : decode cX4_told 7 = .ok (.aload_n 0, 1) := by decide +kernel
theorem dX4_told_8 : decode cX4_told 8 = .ok (.getfield 18, 3) := by decide +kernel
theorem dX4_told_11 : decode cX4_told 11 = .ok (.iload_n 1, 1) := by decide +kernel
theorem dX4_told_12 : decode cX4_told 12 = .ok (.aaload, 1) := by decide +kernel
theorem dX4_told_13 : decode cX4_told 13 = .ok (.getfield 121, 3) := by decide +kernel
theorem dX4_told_16 : decode cX4_told 16 = .ok (.ifCond .eq 16, 3) := by decide +kernel
theorem dX4_told_19 : decode cX4_told 19 = .ok (.aload_n 0, 1) := by decide +kernel
theorem dX4_told_20 : decode cX4_told 20 = .ok (.getfield 18, 3) := by decide +kernel
theorem dX4_told_23 : decode cX4_told 23 = .ok (.iload_n 1, 1) := by decide +kernel
theorem dX4_told_24 : decode cX4_told 24 = .ok (.aaload, 1) := by decide +kernel
theorem dX4_told_25 : decode cX4_told 25 = .ok (.iload_n 2, 1) := by decide +kernel
theorem dX4_told_26 : decode cX4_told 26 = .ok (.invokevirtual 124, 3) := by decide +kernel
theorem dX4_told_29 : decode cX4_told 29 = .ok (.ifCond .ne 7, 3) := by decide +kernel
theorem dX4_told_32 : decode cX4_told 32 = .ok (.ldc2_w 144, 3) := by decide +kernel
theorem dX4_told_35 : decode cX4_told 35 = .ok (.lreturn, 1) := by decide +kernel
theorem dX4_told_36 : decode cX4_told 36 = .ok (.aload_n 0, 1) := by decide +kernel
theorem dX4_told_37 : decode cX4_told 37 = .ok (.getfield 18, 3) := by decide +kernel
theorem dX4_told_40 : decode cX4_told 40 = .ok (.iload_n 1, 1) := by decide +kernel
theorem dX4_told_41 : decode cX4_told 41 = .ok (.aaload, 1) := by decide +kernel
theorem dX4_told_42 : decode cX4_told 42 = .ok (.getfield 146, 3) := by decide +kernel
theorem dX4_told_45 : decode cX4_told 45 = .ok (.iload_n 2, 1) := by decide +kernel
theorem dX4_told_46 : decode cX4_told 46 = .ok (.laload, 1) := by decide +kernel
theorem dX4_told_47 : decode cX4_told 47 = .ok (.lreturn, 1) := by decide +kernel
theorem dX4_pour_0 : decode cX4_pour 0 = .ok (.iload_n 1, 1) := by decide +kernel
theorem dX4_pour_1 : decode cX4_pour 1 = .ok (.invokestatic 114, 3) := by decide +kernel
theorem dX4_pour_4 : decode cX4_pour 4 = .ok (.ifCond .ne 5, 3) := by decide +kernel
theorem dX4_pour_7 : decode cX4_pour 7 = .ok (.iconst (-1), 1) := by decide +kernel
theorem dX4_pour_8 : decode cX4_pour 8 = .ok (.ireturn, 1) := by decide +kernel
theorem dX4_pour_9 : decode cX4_pour 9 = .ok (.aload_n 0, 1) := by decide +kernel
theorem dX4_pour_10 : decode cX4_pour 10 = .ok (.getfield 18, 3) := by decide +kernel
theorem dX4_pour_13 : decode cX4_pour 13 = .ok (.iload_n 1, 1) := by decide +kernel
theorem dX4_pour_14 : decode cX4_pour 14 = .ok (.aaload, 1) := by decide +kernel
theorem dX4_pour_15 : decode cX4_pour 15 = .ok (.getfield 121, 3) := by decide +kernel
theorem dX4_pour_18 : decode cX4_pour 18 = .ok (.ifCond .ne 6, 3) := by decide +kernel
theorem dX4_pour_21 : decode cX4_pour 21 = .ok (.bipush (-3), 2) := by decide +kernel
theorem dX4_pour_23 : decode cX4_pour 23 = .ok (.ireturn, 1) := by decide +kernel
theorem dX4_pour_24 : decode cX4_pour 24 = .ok (.aload_n 0, 1) := by decide +kernel
theorem dX4_pour_25 : decode cX4_pour 25 = .ok (.getfield 18, 3) := by decide +kernel
theorem dX4_pour_28 : decode cX4_pour 28 = .ok (.iload_n 1, 1) := by decide +kernel
theorem dX4_pour_29 : decode cX4_pour 29 = .ok (.aaload, 1) := by decide +kernel
theorem dX4_pour_30 : decode cX4_pour 30 = .ok (.iload_n 2, 1) := by decide +kernel
theorem dX4_pour_31 : decode cX4_pour 31 = .ok (.iload_n 3, 1) := by decide +kernel
theorem dX4_pour_32 : decode cX4_pour 32 = .ok (.invokevirtual 136, 3) := by decide +kernel
theorem dX4_pour_35 : decode cX4_pour 35 = .ok (.ifCond .eq 34, 3) := by decide +kernel
theorem dX4_pour_38 : decode cX4_pour 38 = .ok (.iload 4, 2) := by decide +kernel
theorem dX4_pour_40 : decode cX4_pour 40 = .ok (.ifCond .lt 29, 3) := by decide +kernel
theorem dX4_pour_43 : decode cX4_pour 43 = .ok (.iload 4, 2) := by decide +kernel
theorem dX4_pour_45 : decode cX4_pour 45 = .ok (.aload_n 0, 1) := by decide +kernel
theorem dX4_pour_46 : decode cX4_pour 46 = .ok (.getfield 10, 3) := by decide +kernel
theorem dX4_pour_49 : decode cX4_pour 49 = .ok (.getfield 62, 3) := by decide +kernel
theorem dX4_pour_52 : decode cX4_pour 52 = .ok (.if_icmp .gt 17, 3) := by decide +kernel
theorem dX4_pour_55 : decode cX4_pour 55 = .ok (.iload_n 3, 1) := by decide +kernel
theorem dX4_pour_56 : decode cX4_pour 56 = .ok (.aload_n 0, 1) := by decide +kernel
theorem dX4_pour_57 : decode cX4_pour 57 = .ok (.getfield 10, 3) := by decide +kernel
theorem dX4_pour_60 : decode cX4_pour 60 = .ok (.getfield 62, 3) := by decide +kernel
theorem dX4_pour_63 : decode cX4_pour 63 = .ok (.iload 4, 2) := by decide +kernel
theorem dX4_pour_65 : decode cX4_pour 65 = .ok (.isub, 1) := by decide +kernel
theorem dX4_pour_66 : decode cX4_pour 66 = .ok (.if_icmp .le 5, 3) := by decide +kernel
theorem dX4_pour_69 : decode cX4_pour 69 = .ok (.iconst (-1), 1) := by decide +kernel
theorem dX4_pour_70 : decode cX4_pour 70 = .ok (.ireturn, 1) := by decide +kernel
theorem dX4_pour_71 : decode cX4_pour 71 = .ok (.aload_n 0, 1) := by decide +kernel
theorem dX4_pour_72 : decode cX4_pour 72 = .ok (.getfield 27, 3) := by decide +kernel
theorem dX4_pour_75 : decode cX4_pour 75 = .ok (.iconst 0, 1) := by decide +kernel
theorem dX4_pour_76 : decode cX4_pour 76 = .ok (.putfield 50, 3) := by decide +kernel
theorem dX4_pour_79 : decode cX4_pour 79 = .ok (.iconst 0, 1) := by decide +kernel
theorem dX4_pour_80 : decode cX4_pour 80 = .ok (.istore 5, 2) := by decide +kernel
theorem dX4_pour_82 : decode cX4_pour 82 = .ok (.iload 5, 2) := by decide +kernel
theorem dX4_pour_84 : decode cX4_pour 84 = .ok (.iload_n 3, 1) := by decide +kernel
theorem dX4_pour_85 : decode cX4_pour 85 = .ok (.if_icmp .ge 28, 3) := by decide +kernel
theorem dX4_pour_88 : decode cX4_pour 88 = .ok (.aload_n 0, 1) := by decide +kernel
theorem dX4_pour_89 : decode cX4_pour 89 = .ok (.aload_n 0, 1) := by decide +kernel
theorem dX4_pour_90 : decode cX4_pour 90 = .ok (.getfield 18, 3) := by decide +kernel
theorem dX4_pour_93 : decode cX4_pour 93 = .ok (.iload_n 1, 1) := by decide +kernel
theorem dX4_pour_94 : decode cX4_pour 94 = .ok (.aaload, 1) := by decide +kernel
theorem dX4_pour_95 : decode cX4_pour 95 = .ok (.iload_n 2, 1) := by decide +kernel
theorem dX4_pour_96 : decode cX4_pour 96 = .ok (.iload 5, 2) := by decide +kernel
theorem dX4_pour_98 : decode cX4_pour 98 = .ok (.iadd, 1) := by decide +kernel
theorem dX4_pour_99 : decode cX4_pour 99 = .ok (.iload 4, 2) := by decide +kernel
theorem dX4_pour_101 : decode cX4_pour 101 = .ok (.iload 5, 2) := by decide +kernel
theorem dX4_pour_103 : decode cX4_pour 103 = .ok (.iadd, 1) := by decide +kernel
theorem dX4_pour_104 : decode cX4_pour 104 = .ok (.invokevirtual 150, 3) := by decide +kernel
theorem dX4_pour_107 : decode cX4_pour 107 = .ok (.iinc 5 1, 3) := by decide +kernel
theorem dX4_pour_110 : decode cX4_pour 110 = .ok (.goto (-28), 3) := by decide +kernel
theorem dX4_pour_113 : decode cX4_pour 113 = .ok (.iconst 1, 1) := by decide +kernel
theorem dX4_pour_114 : decode cX4_pour 114 = .ok (.ireturn, 1) := by decide +kernel
theorem dX4_begin_0 : decode cX4_begin 0 = .ok (.aload_n 0, 1) := by decide +kernel
theorem dX4_begin_1 : decode cX4_begin 1 = .ok (.getfield 27, 3) := by decide +kernel
theorem dX4_begin_4 : decode cX4_begin 4 = .ok (.invokevirtual 154, 3) := by decide +kernel
theorem dX4_begin_7 : decode cX4_begin 7 = .ok (.aload_n 0, 1) := by decide +kernel
theorem dX4_begin_8 : decode cX4_begin 8 = .ok (.getfield 27, 3) := by decide +kernel
theorem dX4_begin_11 : decode cX4_begin 11 = .ok (.invokevirtual 157, 3) := by decide +kernel
theorem dX4_begin_14 : decode cX4_begin 14 = .ok (.ireturn, 1) := by decide +kernel
theorem dX4_step_0 : decode cX4_step 0 = .ok (.aload_n 0, 1) := by decide +kernel
theorem dX4_step_1 : decode cX4_step 1 = .ok (.getfield 27, 3) := by decide +kernel
theorem dX4_step_4 : decode cX4_step 4 = .ok (.getfield 50, 3) := by decide +kernel
theorem dX4_step_7 : decode cX4_step 7 = .ok (.ifCond .ne 6, 3) := by decide +kernel
theorem dX4_step_10 : decode cX4_step 10 = .ok (.bipush (-6), 2) := by decide +kernel
theorem dX4_step_12 : decode cX4_step 12 = .ok (.ireturn, 1) := by decide +kernel
theorem dX4_step_13 : decode cX4_step 13 = .ok (.aload_n 0, 1) := by decide +kernel
theorem dX4_step_14 : decode cX4_step 14 = .ok (.getfield 27, 3) := by decide +kernel
theorem dX4_step_17 : decode cX4_step 17 = .ok (.invokevirtual 161, 3) := by decide +kernel
theorem dX4_step_20 : decode cX4_step 20 = .ok (.istore_n 1, 1) := by decide +kernel
theorem dX4_step_21 : decode cX4_step 21 = .ok (.iload_n 1, 1) := by decide +kernel
theorem dX4_step_22 : decode cX4_step 22 = .ok (.ifCond .ge 8, 3) := by decide +kernel
theorem dX4_step_25 : decode cX4_step 25 = .ok (.bipush (-7), 2) := by decide +kernel
theorem dX4_step_27 : decode cX4_step 27 = .ok (.goto 4, 3) := by decide +kernel
theorem dX4_step_30 : decode cX4_step 30 = .ok (.iload_n 1, 1) := by decide +kernel
theorem dX4_step_31 : decode cX4_step 31 = .ok (.ireturn, 1) := by decide +kernel
theorem dX4_run_0 : decode cX4_run 0 = .ok (.aload_n 0, 1) := by decide +kernel
theorem dX4_run_1 : decode cX4_run 1 = .ok (.getfield 27, 3) := by decide +kernel
theorem dX4_run_4 : decode cX4_run 4 = .ok (.getfield 50, 3) := by decide +kernel
theorem dX4_run_7 : decode cX4_run 7 = .ok (.ifCond .ne 6, 3) := by decide +kernel
theorem dX4_run_10 : decode cX4_run 10 = .ok (.bipush (-6), 2) := by decide +kernel
theorem dX4_run_12 : decode cX4_run 12 = .ok (.ireturn, 1) := by decide +kernel
theorem dX4_run_13 : decode cX4_run 13 = .ok (.iload_n 1, 1) := by decide +kernel
theorem dX4_run_14 : decode cX4_run 14 = .ok (.ifCond .lt 10, 3) := by decide +kernel
theorem dX4_run_17 : decode cX4_run 17 = .ok (.iload_n 1, 1) := by decide +kernel
theorem dX4_run_18 : decode cX4_run 18 = .ok (.sipush 200, 3) := by decide +kernel
theorem dX4_run_21 : decode cX4_run 21 = .ok (.if_icmp .le 5, 3) := by decide +kernel
theorem dX4_run_24 : decode cX4_run 24 = .ok (.iconst (-1), 1) := by decide +kernel
theorem dX4_run_25 : decode cX4_run 25 = .ok (.ireturn, 1) := by decide +kernel
theorem dX4_run_26 : decode cX4_run 26 = .ok (.aload_n 0, 1) := by decide +kernel
theorem dX4_run_27 : decode cX4_run 27 = .ok (.getfield 27, 3) := by decide +kernel
theorem dX4_run_30 : decode cX4_run 30 = .ok (.getfield 164, 3) := by decide +kernel
theorem dX4_run_33 : decode cX4_run 33 = .ok (.istore_n 2, 1) := by decide +kernel
theorem dX4_run_34 : decode cX4_run 34 = .ok (.iconst 0, 1) := by decide +kernel
theorem dX4_run_35 : decode cX4_run 35 = .ok (.istore_n 3, 1) := by decide +kernel
theorem dX4_run_36 : decode cX4_run 36 = .ok (.iload_n 3, 1) := by decide +kernel
theorem dX4_run_37 : decode cX4_run 37 = .ok (.iload_n 1, 1) := by decide +kernel
theorem dX4_run_38 : decode cX4_run 38 = .ok (.if_icmp .ge 22, 3) := by decide +kernel
theorem dX4_run_41 : decode cX4_run 41 = .ok (.aload_n 0, 1) := by decide +kernel
theorem dX4_run_42 : decode cX4_run 42 = .ok (.getfield 27, 3) := by decide +kernel
theorem dX4_run_45 : decode cX4_run 45 = .ok (.invokevirtual 161, 3) := by decide +kernel
theorem dX4_run_48 : decode cX4_run 48 = .ok (.ifCond .ge 6, 3) := by decide +kernel
theorem dX4_run_51 : decode cX4_run 51 = .ok (.goto 9, 3) := by decide +kernel
theorem dX4_run_54 : decode cX4_run 54 = .ok (.iinc 3 1, 3) := by decide +kernel
theorem dX4_run_57 : decode cX4_run 57 = .ok (.goto (-21), 3) := by decide +kernel
theorem dX4_run_60 : decode cX4_run 60 = .ok (.aload_n 0, 1) := by decide +kernel
theorem dX4_run_61 : decode cX4_run 61 = .ok (.getfield 27, 3) := by decide +kernel
theorem dX4_run_64 : decode cX4_run 64 = .ok (.getfield 164, 3) := by decide +kernel
theorem dX4_run_67 : decode cX4_run 67 = .ok (.iload_n 2, 1) := by decide +kernel
theorem dX4_run_68 : decode cX4_run 68 = .ok (.isub, 1) := by decide +kernel
theorem dX4_run_69 : decode cX4_run 69 = .ok (.ireturn, 1) := by decide +kernel
theorem dX4_undo_0 : decode cX4_undo 0 = .ok (.aload_n 0, 1) := by decide +kernel
theorem dX4_undo_1 : decode cX4_undo 1 = .ok (.getfield 27, 3) := by decide +kernel
theorem dX4_undo_4 : decode cX4_undo 4 = .ok (.getfield 50, 3) := by decide +kernel
theorem dX4_undo_7 : decode cX4_undo 7 = .ok (.ifCond .ne 6, 3) := by decide +kernel
theorem dX4_undo_10 : decode cX4_undo 10 = .ok (.bipush (-6), 2) := by decide +kernel
theorem dX4_undo_12 : decode cX4_undo 12 = .ok (.ireturn, 1) := by decide +kernel
theorem dX4_undo_13 : decode cX4_undo 13 = .ok (.iload_n 1, 1) := by decide +kernel
theorem dX4_undo_14 : decode cX4_undo 14 = .ok (.ifCond .lt 14, 3) := by decide +kernel
theorem dX4_undo_17 : decode cX4_undo 17 = .ok (.iload_n 1, 1) := by decide +kernel
theorem dX4_undo_18 : decode cX4_undo 18 = .ok (.aload_n 0, 1) := by decide +kernel
theorem dX4_undo_19 : decode cX4_undo 19 = .ok (.getfield 27, 3) := by decide +kernel
theorem dX4_undo_22 : decode cX4_undo 22 = .ok (.getfield 164, 3) := by decide +kernel
theorem dX4_undo_25 : decode cX4_undo 25 = .ok (.if_icmp .le 5, 3) := by decide +kernel
theorem dX4_undo_28 : decode cX4_undo 28 = .ok (.iconst (-1), 1) := by decide +kernel
theorem dX4_undo_29 : decode cX4_undo 29 = .ok (.ireturn, 1) := by decide +kernel
theorem dX4_undo_30 : decode cX4_undo 30 = .ok (.aload_n 0, 1) := by decide +kernel
theorem dX4_undo_31 : decode cX4_undo 31 = .ok (.getfield 27, 3) := by decide +kernel
theorem dX4_undo_34 : decode cX4_undo 34 = .ok (.aload_n 0, 1) := by decide +kernel
theorem dX4_undo_35 : decode cX4_undo 35 = .ok (.getfield 27, 3) := by decide +kernel
theorem dX4_undo_38 : decode cX4_undo 38 = .ok (.getfield 164, 3) := by decide +kernel
theorem dX4_undo_41 : decode cX4_undo 41 = .ok (.iload_n 1, 1) := by decide +kernel
theorem dX4_undo_42 : decode cX4_undo 42 = .ok (.isub, 1) := by decide +kernel
theorem dX4_undo_43 : decode cX4_undo 43 = .ok (.invokevirtual 167, 3) := by decide +kernel
theorem dX4_undo_46 : decode cX4_undo 46 = .ok (.aload_n 0, 1) := by decide +kernel
theorem dX4_undo_47 : decode cX4_undo 47 = .ok (.getfield 27, 3) := by decide +kernel
theorem dX4_undo_50 : decode cX4_undo 50 = .ok (.getfield 164, 3) := by decide +kernel
theorem dX4_undo_53 : decode cX4_undo 53 = .ok (.ireturn, 1) := by decide +kernel
theorem dX4_many_0 : decode cX4_many 0 = .ok (.iload_n 1, 1) := by decide +kernel
theorem dX4_many_1 : decode cX4_many 1 = .ok (.ifCond .lt 9, 3) := by decide +kernel
theorem dX4_many_4 : decode cX4_many 4 = .ok (.iload_n 1, 1) := by decide +kernel
theorem dX4_many_5 : decode cX4_many 5 = .ok (.bipush 8, 2) := by decide +kernel
theorem dX4_many_7 : decode cX4_many 7 = .ok (.if_icmp .le 5, 3) := by decide +kernel
theorem dX4_many_10 : decode cX4_many 10 = .ok (.iconst (-1), 1) := by decide +kernel
theorem dX4_many_11 : decode cX4_many 11 = .ok (.ireturn, 1) := by decide +kernel
theorem dX4_many_12 : decode cX4_many 12 = .ok (.iload_n 1, 1) := by decide +kernel
theorem dX4_many_13 : decode cX4_many 13 = .ok (.ifCond .ne 11, 3) := by decide +kernel
theorem dX4_many_16 : decode cX4_many 16 = .ok (.aload_n 0, 1) := by decide +kernel
theorem dX4_many_17 : decode cX4_many 17 = .ok (.getfield 10, 3) := by decide +kernel
theorem dX4_many_20 : decode cX4_many 20 = .ok (.getfield 46, 3) := by decide +kernel
theorem dX4_many_23 : decode cX4_many 23 = .ok (.ireturn, 1) := by decide +kernel
theorem dX4_many_24 : decode cX4_many 24 = .ok (.iload_n 1, 1) := by decide +kernel
theorem dX4_many_25 : decode cX4_many 25 = .ok (.iconst 1, 1) := by decide +kernel
theorem dX4_many_26 : decode cX4_many 26 = .ok (.if_icmp .ne 11, 3) := by decide +kernel
theorem dX4_many_29 : decode cX4_many 29 = .ok (.aload_n 0, 1) := by decide +kernel
theorem dX4_many_30 : decode cX4_many 30 = .ok (.getfield 10, 3) := by decide +kernel
theorem dX4_many_33 : decode cX4_many 33 = .ok (.getfield 62, 3) := by decide +kernel
theorem dX4_many_36 : decode cX4_many 36 = .ok (.ireturn, 1) := by decide +kernel
theorem dX4_many_37 : decode cX4_many 37 = .ok (.iload_n 1, 1) := by decide +kernel
theorem dX4_many_38 : decode cX4_many 38 = .ok (.bipush 8, 2) := by decide +kernel
theorem dX4_many_40 : decode cX4_many 40 = .ok (.if_icmp .ne 8, 3) := by decide +kernel
theorem dX4_many_43 : decode cX4_many 43 = .ok (.aload_n 0, 1) := by decide +kernel
theorem dX4_many_44 : decode cX4_many 44 = .ok (.getfield 171, 3) := by decide +kernel
theorem dX4_many_47 : decode cX4_many 47 = .ok (.ireturn, 1) := by decide +kernel
theorem dX4_many_48 : decode cX4_many 48 = .ok (.aload_n 0, 1) := by decide +kernel
theorem dX4_many_49 : decode cX4_many 49 = .ok (.getfield 27, 3) := by decide +kernel
theorem dX4_many_52 : decode cX4_many 52 = .ok (.getfield 50, 3) := by decide +kernel
theorem dX4_many_55 : decode cX4_many 55 = .ok (.ifCond .eq 11, 3) := by decide +kernel
theorem dX4_many_58 : decode cX4_many 58 = .ok (.aload_n 0, 1) := by decide +kernel
theorem dX4_many_59 : decode cX4_many 59 = .ok (.iload_n 1, 1) := by decide +kernel
theorem dX4_many_60 : decode cX4_many 60 = .ok (.invokevirtual 174, 3) := by decide +kernel
theorem dX4_many_63 : decode cX4_many 63 = .ok (.goto 5, 3) := by decide +kernel
theorem dX4_many_66 : decode cX4_many 66 = .ok (.bipush (-6), 2) := by decide +kernel
theorem dX4_many_68 : decode cX4_many 68 = .ok (.ireturn, 1) := by decide +kernel
theorem dX4_opened_0 : decode cX4_opened 0 = .ok (.aload_n 0, 1) := by decide +kernel
theorem dX4_opened_1 : decode cX4_opened 1 = .ok (.getfield 27, 3) := by decide +kernel
theorem dX4_opened_4 : decode cX4_opened 4 = .ok (.getfield 50, 3) := by decide +kernel
theorem dX4_opened_7 : decode cX4_opened 7 = .ok (.ifCond .eq 31, 3) := by decide +kernel
theorem dX4_opened_10 : decode cX4_opened 10 = .ok (.iload_n 1, 1) := by decide +kernel
theorem dX4_opened_11 : decode cX4_opened 11 = .ok (.iconst 1, 1) := by decide +kernel
theorem dX4_opened_12 : decode cX4_opened 12 = .ok (.if_icmp .lt 26, 3) := by decide +kernel
theorem dX4_opened_15 : decode cX4_opened 15 = .ok (.iload_n 1, 1) := by decide +kernel
theorem dX4_opened_16 : decode cX4_opened 16 = .ok (.aload_n 0, 1) := by decide +kernel
theorem dX4_opened_17 : decode cX4_opened 17 = .ok (.getfield 27, 3) := by decide +kernel
theorem dX4_opened_20 : decode cX4_opened 20 = .ok (.getfield 164, 3) := by decide +kernel
theorem dX4_opened_23 : decode cX4_opened 23 = .ok (.if_icmp .gt 15, 3) := by decide +kernel
theorem dX4_opened_26 : decode cX4_opened 26 = .ok (.aload_n 0, 1) := by decide +kernel
theorem dX4_opened_27 : decode cX4_opened 27 = .ok (.getfield 27, 3) := by decide +kernel
theorem dX4_opened_30 : decode cX4_opened 30 = .ok (.getfield 177, 3) := by decide +kernel
theorem dX4_opened_33 : decode cX4_opened 33 = .ok (.iload_n 1, 1) := by decide +kernel
theorem dX4_opened_34 : decode cX4_opened 34 = .ok (.iaload, 1) := by decide +kernel
theorem dX4_opened_35 : decode cX4_opened 35 = .ok (.goto 4, 3) := by decide +kernel
theorem dX4_opened_38 : decode cX4_opened 38 = .ok (.iconst (-1), 1) := by decide +kernel
theorem dX4_opened_39 : decode cX4_opened 39 = .ok (.ireturn, 1) := by decide +kernel
theorem dX4_now_0 : decode cX4_now 0 = .ok (.aload_n 0, 1) := by decide +kernel
theorem dX4_now_1 : decode cX4_now 1 = .ok (.getfield 27, 3) := by decide +kernel
theorem dX4_now_4 : decode cX4_now 4 = .ok (.getfield 50, 3) := by decide +kernel
theorem dX4_now_7 : decode cX4_now 7 = .ok (.ifCond .ne 6, 3) := by decide +kernel
theorem dX4_now_10 : decode cX4_now 10 = .ok (.bipush (-6), 2) := by decide +kernel
theorem dX4_now_12 : decode cX4_now 12 = .ok (.ireturn, 1) := by decide +kernel
theorem dX4_now_13 : decode cX4_now 13 = .ok (.aload_n 0, 1) := by decide +kernel
theorem dX4_now_14 : decode cX4_now 14 = .ok (.getfield 10, 3) := by decide +kernel
theorem dX4_now_17 : decode cX4_now 17 = .ok (.iload_n 1, 1) := by decide +kernel
theorem dX4_now_18 : decode cX4_now 18 = .ok (.invokevirtual 58, 3) := by decide +kernel
theorem dX4_now_21 : decode cX4_now 21 = .ok (.ifCond .ne 6, 3) := by decide +kernel
theorem dX4_now_24 : decode cX4_now 24 = .ok (.bipush (-2), 2) := by decide +kernel
theorem dX4_now_26 : decode cX4_now 26 = .ok (.ireturn, 1) := by decide +kernel
theorem dX4_now_27 : decode cX4_now 27 = .ok (.iload_n 2, 1) := by decide +kernel
theorem dX4_now_28 : decode cX4_now 28 = .ok (.tableswitch 72 0 3 #[32, 42, 52, 62], 32) := by decide +kernel
theorem dX4_now_60 : decode cX4_now 60 = .ok (.aload_n 0, 1) := by decide +kernel
theorem dX4_now_61 : decode cX4_now 61 = .ok (.getfield 27, 3) := by decide +kernel
theorem dX4_now_64 : decode cX4_now 64 = .ok (.getfield 180, 3) := by decide +kernel
theorem dX4_now_67 : decode cX4_now 67 = .ok (.iload_n 1, 1) := by decide +kernel
theorem dX4_now_68 : decode cX4_now 68 = .ok (.iaload, 1) := by decide +kernel
theorem dX4_now_69 : decode cX4_now 69 = .ok (.ireturn, 1) := by decide +kernel
theorem dX4_now_70 : decode cX4_now 70 = .ok (.aload_n 0, 1) := by decide +kernel
theorem dX4_now_71 : decode cX4_now 71 = .ok (.getfield 27, 3) := by decide +kernel
theorem dX4_now_74 : decode cX4_now 74 = .ok (.getfield 183, 3) := by decide +kernel
theorem dX4_now_77 : decode cX4_now 77 = .ok (.iload_n 1, 1) := by decide +kernel
theorem dX4_now_78 : decode cX4_now 78 = .ok (.iaload, 1) := by decide +kernel
theorem dX4_now_79 : decode cX4_now 79 = .ok (.ireturn, 1) := by decide +kernel
theorem dX4_now_80 : decode cX4_now 80 = .ok (.aload_n 0, 1) := by decide +kernel
theorem dX4_now_81 : decode cX4_now 81 = .ok (.getfield 27, 3) := by decide +kernel
theorem dX4_now_84 : decode cX4_now 84 = .ok (.getfield 186, 3) := by decide +kernel
theorem dX4_now_87 : decode cX4_now 87 = .ok (.iload_n 1, 1) := by decide +kernel
theorem dX4_now_88 : decode cX4_now 88 = .ok (.iaload, 1) := by decide +kernel
theorem dX4_now_89 : decode cX4_now 89 = .ok (.ireturn, 1) := by decide +kernel
theorem dX4_now_90 : decode cX4_now 90 = .ok (.aload_n 0, 1) := by decide +kernel
theorem dX4_now_91 : decode cX4_now 91 = .ok (.getfield 27, 3) := by decide +kernel
theorem dX4_now_94 : decode cX4_now 94 = .ok (.getfield 189, 3) := by decide +kernel
theorem dX4_now_97 : decode cX4_now 97 = .ok (.iload_n 1, 1) := by decide +kernel
theorem dX4_now_98 : decode cX4_now 98 = .ok (.iaload, 1) := by decide +kernel
theorem dX4_now_99 : decode cX4_now 99 = .ok (.ireturn, 1) := by decide +kernel
theorem dX4_now_100 : decode cX4_now 100 = .ok (.bipush (-2), 2) := by decide +kernel
theorem dX4_now_102 : decode cX4_now 102 = .ok (.ireturn, 1) := by decide +kernel
theorem dX4_front_0 : decode cX4_front 0 = .ok (.aload_n 0, 1) := by decide +kernel
theorem dX4_front_1 : decode cX4_front 1 = .ok (.getfield 27, 3) := by decide +kernel
theorem dX4_front_4 : decode cX4_front 4 = .ok (.getfield 50, 3) := by decide +kernel
theorem dX4_front_7 : decode cX4_front 7 = .ok (.ifCond .eq 18, 3) := by decide +kernel
theorem dX4_front_10 : decode cX4_front 10 = .ok (.iload_n 1, 1) := by decide +kernel
theorem dX4_front_11 : decode cX4_front 11 = .ok (.ifCond .lt 14, 3) := by decide +kernel
theorem dX4_front_14 : decode cX4_front 14 = .ok (.aload_n 0, 1) := by decide +kernel
theorem dX4_front_15 : decode cX4_front 15 = .ok (.getfield 27, 3) := by decide +kernel
theorem dX4_front_18 : decode cX4_front 18 = .ok (.iload_n 1, 1) := by decide +kernel
theorem dX4_front_19 : decode cX4_front 19 = .ok (.invokevirtual 192, 3) := by decide +kernel
theorem dX4_front_22 : decode cX4_front 22 = .ok (.goto 4, 3) := by decide +kernel
theorem dX4_front_25 : decode cX4_front 25 = .ok (.iconst (-1), 1) := by decide +kernel
theorem dX4_front_26 : decode cX4_front 26 = .ok (.ireturn, 1) := by decide +kernel
theorem dX4_lake_0 : decode cX4_lake 0 = .ok (.aload_n 0, 1) := by decide +kernel
theorem dX4_lake_1 : decode cX4_lake 1 = .ok (.getfield 27, 3) := by decide +kernel
theorem dX4_lake_4 : decode cX4_lake 4 = .ok (.getfield 50, 3) := by decide +kernel
theorem dX4_lake_7 : decode cX4_lake 7 = .ok (.ifCond .ne 6, 3) := by decide +kernel
theorem dX4_lake_10 : decode cX4_lake 10 = .ok (.bipush (-6), 2) := by decide +kernel
theorem dX4_lake_12 : decode cX4_lake 12 = .ok (.ireturn, 1) := by decide +kernel
theorem dX4_lake_13 : decode cX4_lake 13 = .ok (.iload_n 1, 1) := by decide +kernel
theorem dX4_lake_14 : decode cX4_lake 14 = .ok (.ifCond .lt 14, 3) := by decide +kernel
theorem dX4_lake_17 : decode cX4_lake 17 = .ok (.iload_n 1, 1) := by decide +kernel
theorem dX4_lake_18 : decode cX4_lake 18 = .ok (.aload_n 0, 1) := by decide +kernel
theorem dX4_lake_19 : decode cX4_lake 19 = .ok (.getfield 27, 3) := by decide +kernel
theorem dX4_lake_22 : decode cX4_lake 22 = .ok (.getfield 195, 3) := by decide +kernel
theorem dX4_lake_25 : decode cX4_lake 25 = .ok (.if_icmp .lt 6, 3) := by decide +kernel
theorem dX4_lake_28 : decode cX4_lake 28 = .ok (.bipush (-2), 2) := by decide +kernel
theorem dX4_lake_30 : decode cX4_lake 30 = .ok (.ireturn, 1) := by decide +kernel
theorem dX4_lake_31 : decode cX4_lake 31 = .ok (.iload_n 2, 1) := by decide +kernel
theorem dX4_lake_32 : decode cX4_lake 32 = .ok (.tableswitch 72 0 3 #[32, 42, 52, 62], 32) := by decide +kernel
theorem dX4_lake_64 : decode cX4_lake 64 = .ok (.aload_n 0, 1) := by decide +kernel
theorem dX4_lake_65 : decode cX4_lake 65 = .ok (.getfield 27, 3) := by decide +kernel
theorem dX4_lake_68 : decode cX4_lake 68 = .ok (.getfield 198, 3) := by decide +kernel
theorem dX4_lake_71 : decode cX4_lake 71 = .ok (.iload_n 1, 1) := by decide +kernel
theorem dX4_lake_72 : decode cX4_lake 72 = .ok (.iaload, 1) := by decide +kernel
theorem dX4_lake_73 : decode cX4_lake 73 = .ok (.ireturn, 1) := by decide +kernel
theorem dX4_lake_74 : decode cX4_lake 74 = .ok (.aload_n 0, 1) := by decide +kernel
theorem dX4_lake_75 : decode cX4_lake 75 = .ok (.getfield 27, 3) := by decide +kernel
theorem dX4_lake_78 : decode cX4_lake 78 = .ok (.getfield 201, 3) := by decide +kernel
theorem dX4_lake_81 : decode cX4_lake 81 = .ok (.iload_n 1, 1) := by decide +kernel
theorem dX4_lake_82 : decode cX4_lake 82 = .ok (.iaload, 1) := by decide +kernel
theorem dX4_lake_83 : decode cX4_lake 83 = .ok (.ireturn, 1) := by decide +kernel
theorem dX4_lake_84 : decode cX4_lake 84 = .ok (.aload_n 0, 1) := by decide +kernel
theorem dX4_lake_85 : decode cX4_lake 85 = .ok (.getfield 27, 3) := by decide +kernel
theorem dX4_lake_88 : decode cX4_lake 88 = .ok (.getfield 204, 3) := by decide +kernel
theorem dX4_lake_91 : decode cX4_lake 91 = .ok (.iload_n 1, 1) := by decide +kernel
theorem dX4_lake_92 : decode cX4_lake 92 = .ok (.iaload, 1) := by decide +kernel
theorem dX4_lake_93 : decode cX4_lake 93 = .ok (.ireturn, 1) := by decide +kernel
theorem dX4_lake_94 : decode cX4_lake 94 = .ok (.aload_n 0, 1) := by decide +kernel
theorem dX4_lake_95 : decode cX4_lake 95 = .ok (.getfield 27, 3) := by decide +kernel
theorem dX4_lake_98 : decode cX4_lake 98 = .ok (.getfield 207, 3) := by decide +kernel
theorem dX4_lake_101 : decode cX4_lake 101 = .ok (.iload_n 1, 1) := by decide +kernel
theorem dX4_lake_102 : decode cX4_lake 102 = .ok (.iaload, 1) := by decide +kernel
theorem dX4_lake_103 : decode cX4_lake 103 = .ok (.ireturn, 1) := by decide +kernel
theorem dX4_lake_104 : decode cX4_lake 104 = .ok (.bipush (-2), 2) := by decide +kernel
theorem dX4_lake_106 : decode cX4_lake 106 = .ok (.ireturn, 1) := by decide +kernel
theorem dX4_through_0 : decode cX4_through 0 = .ok (.aload_n 0, 1) := by decide +kernel
theorem dX4_through_1 : decode cX4_through 1 = .ok (.getfield 27, 3) := by decide +kernel
theorem dX4_through_4 : decode cX4_through 4 = .ok (.getfield 50, 3) := by decide +kernel
theorem dX4_through_7 : decode cX4_through 7 = .ok (.ifCond .eq 13, 3) := by decide +kernel
theorem dX4_through_10 : decode cX4_through 10 = .ok (.aload_n 0, 1) := by decide +kernel
theorem dX4_through_11 : decode cX4_through 11 = .ok (.getfield 27, 3) := by decide +kernel
theorem dX4_through_14 : decode cX4_through 14 = .ok (.invokevirtual 210, 3) := by decide +kernel
theorem dX4_through_17 : decode cX4_through 17 = .ok (.goto 5, 3) := by decide +kernel
theorem dX4_through_20 : decode cX4_through 20 = .ok (.bipush (-6), 2) := by decide +kernel
theorem dX4_through_22 : decode cX4_through 22 = .ok (.ireturn, 1) := by decide +kernel
theorem dX4_worst_0 : decode cX4_worst 0 = .ok (.aload_n 0, 1) := by decide +kernel
theorem dX4_worst_1 : decode cX4_worst 1 = .ok (.getfield 10, 3) := by decide +kernel
theorem dX4_worst_4 : decode cX4_worst 4 = .ok (.iload_n 1, 1) := by decide +kernel
theorem dX4_worst_5 : decode cX4_worst 5 = .ok (.invokevirtual 58, 3) := by decide +kernel
theorem dX4_worst_8 : decode cX4_worst 8 = .ok (.ifCond .ne 6, 3) := by decide +kernel
theorem dX4_worst_11 : decode cX4_worst 11 = .ok (.bipush (-2), 2) := by decide +kernel
theorem dX4_worst_13 : decode cX4_worst 13 = .ok (.ireturn, 1) := by decide +kernel
theorem dX4_worst_14 : decode cX4_worst 14 = .ok (.aload_n 0, 1) := by decide +kernel
theorem dX4_worst_15 : decode cX4_worst 15 = .ok (.getfield 37, 3) := by decide +kernel
theorem dX4_worst_18 : decode cX4_worst 18 = .ok (.invokevirtual 213, 3) := by decide +kernel
theorem dX4_worst_21 : decode cX4_worst 21 = .ok (.aload_n 0, 1) := by decide +kernel
theorem dX4_worst_22 : decode cX4_worst 22 = .ok (.getfield 37, 3) := by decide +kernel
theorem dX4_worst_25 : decode cX4_worst 25 = .ok (.getfield 216, 3) := by decide +kernel
theorem dX4_worst_28 : decode cX4_worst 28 = .ok (.iload_n 1, 1) := by decide +kernel
theorem dX4_worst_29 : decode cX4_worst 29 = .ok (.iaload, 1) := by decide +kernel
theorem dX4_worst_30 : decode cX4_worst 30 = .ok (.ifCond .ge 8, 3) := by decide +kernel
theorem dX4_worst_33 : decode cX4_worst 33 = .ok (.bipush (-8), 2) := by decide +kernel
theorem dX4_worst_35 : decode cX4_worst 35 = .ok (.goto 12, 3) := by decide +kernel
theorem dX4_worst_38 : decode cX4_worst 38 = .ok (.aload_n 0, 1) := by decide +kernel
theorem dX4_worst_39 : decode cX4_worst 39 = .ok (.getfield 37, 3) := by decide +kernel
theorem dX4_worst_42 : decode cX4_worst 42 = .ok (.getfield 219, 3) := by decide +kernel
theorem dX4_worst_45 : decode cX4_worst 45 = .ok (.iload_n 1, 1) := by decide +kernel
theorem dX4_worst_46 : decode cX4_worst 46 = .ok (.iaload, 1) := by decide +kernel
theorem dX4_worst_47 : decode cX4_worst 47 = .ok (.ireturn, 1) := by decide +kernel
theorem dX4_way_0 : decode cX4_way 0 = .ok (.aload_n 0, 1) := by decide +kernel
theorem dX4_way_1 : decode cX4_way 1 = .ok (.getfield 10, 3) := by decide +kernel
theorem dX4_way_4 : decode cX4_way 4 = .ok (.iload_n 1, 1) := by decide +kernel
theorem dX4_way_5 : decode cX4_way 5 = .ok (.invokevirtual 58, 3) := by decide +kernel
theorem dX4_way_8 : decode cX4_way 8 = .ok (.ifCond .ne 5, 3) := by decide +kernel
theorem dX4_way_11 : decode cX4_way 11 = .ok (.iconst (-1), 1) := by decide +kernel
theorem dX4_way_12 : decode cX4_way 12 = .ok (.ireturn, 1) := by decide +kernel
theorem dX4_way_13 : decode cX4_way 13 = .ok (.aload_n 0, 1) := by decide +kernel
theorem dX4_way_14 : decode cX4_way 14 = .ok (.getfield 37, 3) := by decide +kernel
theorem dX4_way_17 : decode cX4_way 17 = .ok (.invokevirtual 213, 3) := by decide +kernel
theorem dX4_way_20 : decode cX4_way 20 = .ok (.iload_n 2, 1) := by decide +kernel
theorem dX4_way_21 : decode cX4_way 21 = .ok (.ifCond .lt 28, 3) := by decide +kernel
theorem dX4_way_24 : decode cX4_way 24 = .ok (.iload_n 2, 1) := by decide +kernel
theorem dX4_way_25 : decode cX4_way 25 = .ok (.aload_n 0, 1) := by decide +kernel
theorem dX4_way_26 : decode cX4_way 26 = .ok (.getfield 37, 3) := by decide +kernel
theorem dX4_way_29 : decode cX4_way 29 = .ok (.getfield 216, 3) := by decide +kernel
theorem dX4_way_32 : decode cX4_way 32 = .ok (.iload_n 1, 1) := by decide +kernel
theorem dX4_way_33 : decode cX4_way 33 = .ok (.iaload, 1) := by decide +kernel
theorem dX4_way_34 : decode cX4_way 34 = .ok (.if_icmp .ge 15, 3) := by decide +kernel
theorem dX4_way_37 : decode cX4_way 37 = .ok (.aload_n 0, 1) := by decide +kernel
theorem dX4_way_38 : decode cX4_way 38 = .ok (.getfield 37, 3) := by decide +kernel
theorem dX4_way_41 : decode cX4_way 41 = .ok (.iload_n 1, 1) := by decide +kernel
theorem dX4_way_42 : decode cX4_way 42 = .ok (.iload_n 2, 1) := by decide +kernel
theorem dX4_way_43 : decode cX4_way 43 = .ok (.invokevirtual 222, 3) := by decide +kernel
theorem dX4_way_46 : decode cX4_way 46 = .ok (.goto 4, 3) := by decide +kernel
theorem dX4_way_49 : decode cX4_way 49 = .ok (.iconst (-1), 1) := by decide +kernel
theorem dX4_way_50 : decode cX4_way 50 = .ok (.ireturn, 1) := by decide +kernel
theorem dX4_join_0 : decode cX4_join 0 = .ok (.aload_n 0, 1) := by decide +kernel
theorem dX4_join_1 : decode cX4_join 1 = .ok (.getfield 10, 3) := by decide +kernel
theorem dX4_join_4 : decode cX4_join 4 = .ok (.iload_n 1, 1) := by decide +kernel
theorem dX4_join_5 : decode cX4_join 5 = .ok (.invokevirtual 58, 3) := by decide +kernel
theorem dX4_join_8 : decode cX4_join 8 = .ok (.ifCond .eq 14, 3) := by decide +kernel
theorem dX4_join_11 : decode cX4_join 11 = .ok (.aload_n 0, 1) := by decide +kernel
theorem dX4_join_12 : decode cX4_join 12 = .ok (.getfield 10, 3) := by decide +kernel
theorem dX4_join_15 : decode cX4_join 15 = .ok (.iload_n 2, 1) := by decide +kernel
theorem dX4_join_16 : decode cX4_join 16 = .ok (.invokevirtual 58, 3) := by decide +kernel
theorem dX4_join_19 : decode cX4_join 19 = .ok (.ifCond .ne 6, 3) := by decide +kernel
theorem dX4_join_22 : decode cX4_join 22 = .ok (.bipush (-2), 2) := by decide +kernel
theorem dX4_join_24 : decode cX4_join 24 = .ok (.ireturn, 1) := by decide +kernel
theorem dX4_join_25 : decode cX4_join 25 = .ok (.iload_n 1, 1) := by decide +kernel
theorem dX4_join_26 : decode cX4_join 26 = .ok (.iload_n 2, 1) := by decide +kernel
theorem dX4_join_27 : decode cX4_join 27 = .ok (.if_icmp .ne 7, 3) := by decide +kernel
theorem dX4_join_30 : decode cX4_join 30 = .ok (.iconst (-1), 1) := by decide +kernel
theorem dX4_join_31 : decode cX4_join 31 = .ok (.goto 12, 3) := by decide +kernel
theorem dX4_join_34 : decode cX4_join 34 = .ok (.aload_n 0, 1) := by decide +kernel
theorem dX4_join_35 : decode cX4_join 35 = .ok (.getfield 37, 3) := by decide +kernel
theorem dX4_join_38 : decode cX4_join 38 = .ok (.iload_n 1, 1) := by decide +kernel
theorem dX4_join_39 : decode cX4_join 39 = .ok (.iload_n 2, 1) := by decide +kernel
theorem dX4_join_40 : decode cX4_join 40 = .ok (.invokevirtual 225, 3) := by decide +kernel
theorem dX4_join_43 : decode cX4_join 43 = .ok (.ireturn, 1) := by decide +kernel
theorem dX4_tree_0 : decode cX4_tree 0 = .ok (.iload_n 1, 1) := by decide +kernel
theorem dX4_tree_1 : decode cX4_tree 1 = .ok (.ifCond .lt 14, 3) := by decide +kernel
theorem dX4_tree_4 : decode cX4_tree 4 = .ok (.aload_n 0, 1) := by decide +kernel
theorem dX4_tree_5 : decode cX4_tree 5 = .ok (.getfield 37, 3) := by decide +kernel
theorem dX4_tree_8 : decode cX4_tree 8 = .ok (.iload_n 1, 1) := by decide +kernel
theorem dX4_tree_9 : decode cX4_tree 9 = .ok (.invokevirtual 228, 3) := by decide +kernel
theorem dX4_tree_12 : decode cX4_tree 12 = .ok (.goto 4, 3) := by decide +kernel
theorem dX4_tree_15 : decode cX4_tree 15 = .ok (.iconst (-1), 1) := by decide +kernel
theorem dX4_tree_16 : decode cX4_tree 16 = .ok (.ireturn, 1) := by decide +kernel
theorem dX4_claim_0 : decode cX4_claim 0 = .ok (.aload_n 0, 1) := by decide +kernel
theorem dX4_claim_1 : decode cX4_claim 1 = .ok (.getfield 10, 3) := by decide +kernel
theorem dX4_claim_4 : decode cX4_claim 4 = .ok (.iload_n 1, 1) := by decide +kernel
theorem dX4_claim_5 : decode cX4_claim 5 = .ok (.invokevirtual 69, 3) := by decide +kernel
theorem dX4_claim_8 : decode cX4_claim 8 = .ok (.ifCond .ne 5, 3) := by decide +kernel
theorem dX4_claim_11 : decode cX4_claim 11 = .ok (.iconst (-1), 1) := by decide +kernel
theorem dX4_claim_12 : decode cX4_claim 12 = .ok (.ireturn, 1) := by decide +kernel
theorem dX4_claim_13 : decode cX4_claim 13 = .ok (.aload_n 0, 1) := by decide +kernel
theorem dX4_claim_14 : decode cX4_claim 14 = .ok (.getfield 171, 3) := by decide +kernel
theorem dX4_claim_17 : decode cX4_claim 17 = .ok (.sipush 200, 3) := by decide +kernel
theorem dX4_claim_20 : decode cX4_claim 20 = .ok (.if_icmp .lt 6, 3) := by decide +kernel
theorem dX4_claim_23 : decode cX4_claim 23 = .ok (.bipush (-2), 2) := by decide +kernel
theorem dX4_claim_25 : decode cX4_claim 25 = .ok (.ireturn, 1) := by decide +kernel
theorem dX4_claim_26 : decode cX4_claim 26 = .ok (.aload_n 0, 1) := by decide +kernel
theorem dX4_claim_27 : decode cX4_claim 27 = .ok (.getfield 41, 3) := by decide +kernel
theorem dX4_claim_30 : decode cX4_claim 30 = .ok (.aload_n 0, 1) := by decide +kernel
theorem dX4_claim_31 : decode cX4_claim 31 = .ok (.getfield 171, 3) := by decide +kernel
theorem dX4_claim_34 : decode cX4_claim 34 = .ok (.iload_n 1, 1) := by decide +kernel
theorem dX4_claim_35 : decode cX4_claim 35 = .ok (.iastore, 1) := by decide +kernel
theorem dX4_claim_36 : decode cX4_claim 36 = .ok (.aload_n 0, 1) := by decide +kernel
theorem dX4_claim_37 : decode cX4_claim 37 = .ok (.dup, 1) := by decide +kernel
theorem dX4_claim_38 : decode cX4_claim 38 = .ok (.getfield 171, 3) := by decide +kernel
theorem dX4_claim_41 : decode cX4_claim 41 = .ok (.iconst 1, 1) := by decide +kernel
theorem dX4_claim_42 : decode cX4_claim 42 = .ok (.iadd, 1) := by decide +kernel
theorem dX4_claim_43 : decode cX4_claim 43 = .ok (.putfield 171, 3) := by decide +kernel
theorem dX4_claim_46 : decode cX4_claim 46 = .ok (.aload_n 0, 1) := by decide +kernel
theorem dX4_claim_47 : decode cX4_claim 47 = .ok (.getfield 171, 3) := by decide +kernel
theorem dX4_claim_50 : decode cX4_claim 50 = .ok (.ireturn, 1) := by decide +kernel
theorem dX4_copy_0 : decode cX4_copy 0 = .ok (.aload_n 0, 1) := by decide +kernel
theorem dX4_copy_1 : decode cX4_copy 1 = .ok (.getfield 27, 3) := by decide +kernel
theorem dX4_copy_4 : decode cX4_copy 4 = .ok (.getfield 50, 3) := by decide +kernel
theorem dX4_copy_7 : decode cX4_copy 7 = .ok (.ifCond .ne 6, 3) := by decide +kernel
theorem dX4_copy_10 : decode cX4_copy 10 = .ok (.bipush (-6), 2) := by decide +kernel
theorem dX4_copy_12 : decode cX4_copy 12 = .ok (.ireturn, 1) := by decide +kernel
theorem dX4_copy_13 : decode cX4_copy 13 = .ok (.iconst 0, 1) := by decide +kernel
theorem dX4_copy_14 : decode cX4_copy 14 = .ok (.istore_n 1, 1) := by decide +kernel
theorem dX4_copy_15 : decode cX4_copy 15 = .ok (.iload_n 1, 1) := by decide +kernel
theorem dX4_copy_16 : decode cX4_copy 16 = .ok (.aload_n 0, 1) := by decide +kernel
theorem dX4_copy_17 : decode cX4_copy 17 = .ok (.getfield 27, 3) := by decide +kernel
theorem dX4_copy_20 : decode cX4_copy 20 = .ok (.getfield 164, 3) := by decide +kernel
theorem dX4_copy_23 : decode cX4_copy 23 = .ok (.if_icmp .ge 26, 3) := by decide +kernel
theorem dX4_copy_26 : decode cX4_copy 26 = .ok (.aload_n 0, 1) := by decide +kernel
theorem dX4_copy_27 : decode cX4_copy 27 = .ok (.getfield 41, 3) := by decide +kernel
theorem dX4_copy_30 : decode cX4_copy 30 = .ok (.iload_n 1, 1) := by decide +kernel
theorem dX4_copy_31 : decode cX4_copy 31 = .ok (.aload_n 0, 1) := by decide +kernel
theorem dX4_copy_32 : decode cX4_copy 32 = .ok (.getfield 27, 3) := by decide +kernel
theorem dX4_copy_35 : decode cX4_copy 35 = .ok (.getfield 177, 3) := by decide +kernel
theorem dX4_copy_38 : decode cX4_copy 38 = .ok (.iload_n 1, 1) := by decide +kernel
theorem dX4_copy_39 : decode cX4_copy 39 = .ok (.iconst 1, 1) := by decide +kernel
theorem dX4_copy_40 : decode cX4_copy 40 = .ok (.iadd, 1) := by decide +kernel
theorem dX4_copy_41 : decode cX4_copy 41 = .ok (.iaload, 1) := by decide +kernel
theorem dX4_copy_42 : decode cX4_copy 42 = .ok (.iastore, 1) := by decide +kernel
theorem dX4_copy_43 : decode cX4_copy 43 = .ok (.iinc 1 1, 3) := by decide +kernel
theorem dX4_copy_46 : decode cX4_copy 46 = .ok (.goto (-31), 3) := by decide +kernel
theorem dX4_copy_49 : decode cX4_copy 49 = .ok (.aload_n 0, 1) := by decide +kernel
theorem dX4_copy_50 : decode cX4_copy 50 = .ok (.aload_n 0, 1) := by decide +kernel
theorem dX4_copy_51 : decode cX4_copy 51 = .ok (.getfield 27, 3) := by decide +kernel
theorem dX4_copy_54 : decode cX4_copy 54 = .ok (.getfield 164, 3) := by decide +kernel
theorem dX4_copy_57 : decode cX4_copy 57 = .ok (.putfield 171, 3) := by decide +kernel
theorem dX4_copy_60 : decode cX4_copy 60 = .ok (.aload_n 0, 1) := by decide +kernel
theorem dX4_copy_61 : decode cX4_copy 61 = .ok (.getfield 171, 3) := by decide +kernel
theorem dX4_copy_64 : decode cX4_copy 64 = .ok (.ireturn, 1) := by decide +kernel
theorem dX4_alter_0 : decode cX4_alter 0 = .ok (.iload_n 1, 1) := by decide +kernel
theorem dX4_alter_1 : decode cX4_alter 1 = .ok (.ifCond .lt 22, 3) := by decide +kernel
theorem dX4_alter_4 : decode cX4_alter 4 = .ok (.iload_n 1, 1) := by decide +kernel
theorem dX4_alter_5 : decode cX4_alter 5 = .ok (.aload_n 0, 1) := by decide +kernel
theorem dX4_alter_6 : decode cX4_alter 6 = .ok (.getfield 171, 3) := by decide +kernel
theorem dX4_alter_9 : decode cX4_alter 9 = .ok (.if_icmp .ge 14, 3) := by decide +kernel
theorem dX4_alter_12 : decode cX4_alter 12 = .ok (.aload_n 0, 1) := by decide +kernel
theorem dX4_alter_13 : decode cX4_alter 13 = .ok (.getfield 10, 3) := by decide +kernel
theorem dX4_alter_16 : decode cX4_alter 16 = .ok (.iload_n 2, 1) := by decide +kernel
theorem dX4_alter_17 : decode cX4_alter 17 = .ok (.invokevirtual 69, 3) := by decide +kernel
theorem dX4_alter_20 : decode cX4_alter 20 = .ok (.ifCond .ne 5, 3) := by decide +kernel
theorem dX4_alter_23 : decode cX4_alter 23 = .ok (.iconst (-1), 1) := by decide +kernel
theorem dX4_alter_24 : decode cX4_alter 24 = .ok (.ireturn, 1) := by decide +kernel
theorem dX4_alter_25 : decode cX4_alter 25 = .ok (.aload_n 0, 1) := by decide +kernel
theorem dX4_alter_26 : decode cX4_alter 26 = .ok (.getfield 41, 3) := by decide +kernel
theorem dX4_alter_29 : decode cX4_alter 29 = .ok (.iload_n 1, 1) := by decide +kernel
theorem dX4_alter_30 : decode cX4_alter 30 = .ok (.iload_n 2, 1) := by decide +kernel
theorem dX4_alter_31 : decode cX4_alter 31 = .ok (.iastore, 1) := by decide +kernel
theorem dX4_alter_32 : decode cX4_alter 32 = .ok (.iconst 1, 1) := by decide +kernel
theorem dX4_alter_33 : decode cX4_alter 33 = .ok (.ireturn, 1) := by decide +kernel
theorem dX4_unclaim_0 : decode cX4_unclaim 0 = .ok (.aload_n 0, 1) := by decide +kernel
theorem dX4_unclaim_1 : decode cX4_unclaim 1 = .ok (.getfield 171, 3) := by decide +kernel
theorem dX4_unclaim_4 : decode cX4_unclaim 4 = .ok (.istore_n 1, 1) := by decide +kernel
theorem dX4_unclaim_5 : decode cX4_unclaim 5 = .ok (.aload_n 0, 1) := by decide +kernel
theorem dX4_unclaim_6 : decode cX4_unclaim 6 = .ok (.iconst 0, 1) := by decide +kernel
theorem dX4_unclaim_7 : decode cX4_unclaim 7 = .ok (.putfield 171, 3) := by decide +kernel
theorem dX4_unclaim_10 : decode cX4_unclaim 10 = .ok (.iload_n 1, 1) := by decide +kernel
theorem dX4_unclaim_11 : decode cX4_unclaim 11 = .ok (.ireturn, 1) := by decide +kernel
theorem dX4_check_0 : decode cX4_check 0 = .ok (.aload_n 0, 1) := by decide +kernel
theorem dX4_check_1 : decode cX4_check 1 = .ok (.getfield 31, 3) := by decide +kernel
theorem dX4_check_4 : decode cX4_check 4 = .ok (.invokevirtual 154, 3) := by decide +kernel
theorem dX4_check_7 : decode cX4_check 7 = .ok (.iconst 0, 1) := by decide +kernel
theorem dX4_check_8 : decode cX4_check 8 = .ok (.istore_n 1, 1) := by decide +kernel
theorem dX4_check_9 : decode cX4_check 9 = .ok (.iload_n 1, 1) := by decide +kernel
theorem dX4_check_10 : decode cX4_check 10 = .ok (.aload_n 0, 1) := by decide +kernel
theorem dX4_check_11 : decode cX4_check 11 = .ok (.getfield 171, 3) := by decide +kernel
theorem dX4_check_14 : decode cX4_check 14 = .ok (.if_icmp .ge 27, 3) := by decide +kernel
theorem dX4_check_17 : decode cX4_check 17 = .ok (.aload_n 0, 1) := by decide +kernel
theorem dX4_check_18 : decode cX4_check 18 = .ok (.getfield 31, 3) := by decide +kernel
theorem dX4_check_21 : decode cX4_check 21 = .ok (.invokevirtual 161, 3) := by decide +kernel
theorem dX4_check_24 : decode cX4_check 24 = .ok (.aload_n 0, 1) := by decide +kernel
theorem dX4_check_25 : decode cX4_check 25 = .ok (.getfield 41, 3) := by decide +kernel
theorem dX4_check_28 : decode cX4_check 28 = .ok (.iload_n 1, 1) := by decide +kernel
theorem dX4_check_29 : decode cX4_check 29 = .ok (.iaload, 1) := by decide +kernel
theorem dX4_check_30 : decode cX4_check 30 = .ok (.if_icmp .eq 5, 3) := by decide +kernel
theorem dX4_check_33 : decode cX4_check 33 = .ok (.iload_n 1, 1) := by decide +kernel
theorem dX4_check_34 : decode cX4_check 34 = .ok (.ireturn, 1) := by decide +kernel
theorem dX4_check_35 : decode cX4_check 35 = .ok (.iinc 1 1, 3) := by decide +kernel
theorem dX4_check_38 : decode cX4_check 38 = .ok (.goto (-29), 3) := by decide +kernel
theorem dX4_check_41 : decode cX4_check 41 = .ok (.iconst (-1), 1) := by decide +kernel
theorem dX4_check_42 : decode cX4_check 42 = .ok (.ireturn, 1) := by decide +kernel
theorem dX4_hasPlace_0 : decode cX4_hasPlace 0 = .ok (.iload_n 0, 1) := by decide +kernel
theorem dX4_hasPlace_1 : decode cX4_hasPlace 1 = .ok (.ifCond .lt 13, 3) := by decide +kernel
theorem dX4_hasPlace_4 : decode cX4_hasPlace 4 = .ok (.iload_n 0, 1) := by decide +kernel
theorem dX4_hasPlace_5 : decode cX4_hasPlace 5 = .ok (.bipush 6, 2) := by decide +kernel
theorem dX4_hasPlace_7 : decode cX4_hasPlace 7 = .ok (.if_icmp .ge 7, 3) := by decide +kernel
theorem dX4_hasPlace_10 : decode cX4_hasPlace 10 = .ok (.iconst 1, 1) := by decide +kernel
theorem dX4_hasPlace_11 : decode cX4_hasPlace 11 = .ok (.goto 4, 3) := by decide +kernel
theorem dX4_hasPlace_14 : decode cX4_hasPlace 14 = .ok (.iconst 0, 1) := by decide +kernel
theorem dX4_hasPlace_15 : decode cX4_hasPlace 15 = .ok (.ireturn, 1) := by decide +kernel
theorem dX4_mayHinder_0 : decode cX4_mayHinder 0 = .ok (.lload_n 0, 1) := by decide +kernel
theorem dX4_mayHinder_1 : decode cX4_mayHinder 1 = .ok (.lconst 0, 1) := by decide +kernel
theorem dX4_mayHinder_2 : decode cX4_mayHinder 2 = .ok (.lcmp, 1) := by decide +kernel
theorem dX4_mayHinder_3 : decode cX4_mayHinder 3 = .ok (.ifCond .lt 15, 3) := by decide +kernel
theorem dX4_mayHinder_6 : decode cX4_mayHinder 6 = .ok (.lload_n 0, 1) := by decide +kernel
theorem dX4_mayHinder_7 : decode cX4_mayHinder 7 = .ok (.ldc2_w 231, 3) := by decide +kernel
theorem dX4_mayHinder_10 : decode cX4_mayHinder 10 = .ok (.lcmp, 1) := by decide +kernel
theorem dX4_mayHinder_11 : decode cX4_mayHinder 11 = .ok (.ifCond .gt 7, 3) := by decide +kernel
theorem dX4_mayHinder_14 : decode cX4_mayHinder 14 = .ok (.iconst 1, 1) := by decide +kernel
theorem dX4_mayHinder_15 : decode cX4_mayHinder 15 = .ok (.goto 4, 3) := by decide +kernel
theorem dX4_mayHinder_18 : decode cX4_mayHinder 18 = .ok (.iconst 0, 1) := by decide +kernel
theorem dX4_mayHinder_19 : decode cX4_mayHinder 19 = .ok (.ireturn, 1) := by decide +kernel
theorem dX4_pourOne_0 : decode cX4_pourOne 0 = .ok (.aload_n 1, 1) := by decide +kernel
theorem dX4_pourOne_1 : decode cX4_pourOne 1 = .ok (.iload_n 2, 1) := by decide +kernel
theorem dX4_pourOne_2 : decode cX4_pourOne 2 = .ok (.invokevirtual 233, 3) := by decide +kernel
theorem dX4_pourOne_5 : decode cX4_pourOne 5 = .ok (.ifCond .ne 19, 3) := by decide +kernel
theorem dX4_pourOne_8 : decode cX4_pourOne 8 = .ok (.aload_n 1, 1) := by decide +kernel
theorem dX4_pourOne_9 : decode cX4_pourOne 9 = .ok (.getfield 146, 3) := by decide +kernel
theorem dX4_pourOne_12 : decode cX4_pourOne 12 = .ok (.iload_n 2, 1) := by decide +kernel
theorem dX4_pourOne_13 : decode cX4_pourOne 13 = .ok (.laload, 1) := by decide +kernel
theorem dX4_pourOne_14 : decode cX4_pourOne 14 = .ok (.invokestatic 72, 3) := by decide +kernel
theorem dX4_pourOne_17 : decode cX4_pourOne 17 = .ok (.ifCond .eq 7, 3) := by decide +kernel
theorem dX4_pourOne_20 : decode cX4_pourOne 20 = .ok (.iconst 1, 1) := by decide +kernel
theorem dX4_pourOne_21 : decode cX4_pourOne 21 = .ok (.goto 4, 3) := by decide +kernel
theorem dX4_pourOne_24 : decode cX4_pourOne 24 = .ok (.iconst 0, 1) := by decide +kernel
theorem dX4_pourOne_25 : decode cX4_pourOne 25 = .ok (.istore 4, 2) := by decide +kernel
theorem dX4_pourOne_27 : decode cX4_pourOne 27 = .ok (.aload_n 0, 1) := by decide +kernel
theorem dX4_pourOne_28 : decode cX4_pourOne 28 = .ok (.getfield 10, 3) := by decide +kernel
theorem dX4_pourOne_31 : decode cX4_pourOne 31 = .ok (.iload_n 3, 1) := by decide +kernel
theorem dX4_pourOne_32 : decode cX4_pourOne 32 = .ok (.iload 4, 2) := by decide +kernel
theorem dX4_pourOne_34 : decode cX4_pourOne 34 = .ok (.ifCond .eq 13, 3) := by decide +kernel
theorem dX4_pourOne_37 : decode cX4_pourOne 37 = .ok (.aload_n 1, 1) := by decide +kernel
theorem dX4_pourOne_38 : decode cX4_pourOne 38 = .ok (.getfield 146, 3) := by decide +kernel
theorem dX4_pourOne_41 : decode cX4_pourOne 41 = .ok (.iload_n 2, 1) := by decide +kernel
theorem dX4_pourOne_42 : decode cX4_pourOne 42 = .ok (.laload, 1) := by decide +kernel
theorem dX4_pourOne_43 : decode cX4_pourOne 43 = .ok (.l2i, 1) := by decide +kernel
theorem dX4_pourOne_44 : decode cX4_pourOne 44 = .ok (.goto 12, 3) := by decide +kernel
theorem dX4_pourOne_47 : decode cX4_pourOne 47 = .ok (.aload_n 0, 1) := by decide +kernel
theorem dX4_pourOne_48 : decode cX4_pourOne 48 = .ok (.getfield 10, 3) := by decide +kernel
theorem dX4_pourOne_51 : decode cX4_pourOne 51 = .ok (.getfield 83, 3) := by decide +kernel
theorem dX4_pourOne_54 : decode cX4_pourOne 54 = .ok (.iload_n 3, 1) := by decide +kernel
theorem dX4_pourOne_55 : decode cX4_pourOne 55 = .ok (.iaload, 1) := by decide +kernel
theorem dX4_pourOne_56 : decode cX4_pourOne 56 = .ok (.iload 4, 2) := by decide +kernel
theorem dX4_pourOne_58 : decode cX4_pourOne 58 = .ok (.invokevirtual 79, 3) := by decide +kernel
theorem dX4_pourOne_61 : decode cX4_pourOne 61 = .ok (.return_, 1) := by decide +kernel
theorem dX4_manyInRun_0 : decode cX4_manyInRun 0 = .ok (.iload_n 1, 1) := by decide +kernel
theorem dX4_manyInRun_1 : decode cX4_manyInRun 1 = .ok (.tableswitch 91 2 6 #[35, 43, 51, 59, 83], 35) := by decide +kernel
theorem dX4_manyInRun_36 : decode cX4_manyInRun 36 = .ok (.aload_n 0, 1) := by decide +kernel
theorem dX4_manyInRun_37 : decode cX4_manyInRun 37 = .ok (.getfield 27, 3) := by decide +kernel
theorem dX4_manyInRun_40 : decode cX4_manyInRun 40 = .ok (.getfield 164, 3) := by decide +kernel
theorem dX4_manyInRun_43 : decode cX4_manyInRun 43 = .ok (.ireturn, 1) := by decide +kernel
theorem dX4_manyInRun_44 : decode cX4_manyInRun 44 = .ok (.aload_n 0, 1) := by decide +kernel
theorem dX4_manyInRun_45 : decode cX4_manyInRun 45 = .ok (.getfield 27, 3) := by decide +kernel
theorem dX4_manyInRun_48 : decode cX4_manyInRun 48 = .ok (.invokevirtual 157, 3) := by decide +kernel
theorem dX4_manyInRun_51 : decode cX4_manyInRun 51 = .ok (.ireturn, 1) := by decide +kernel
theorem dX4_manyInRun_52 : decode cX4_manyInRun 52 = .ok (.aload_n 0, 1) := by decide +kernel
theorem dX4_manyInRun_53 : decode cX4_manyInRun 53 = .ok (.getfield 27, 3) := by decide +kernel
theorem dX4_manyInRun_56 : decode cX4_manyInRun 56 = .ok (.invokevirtual 236, 3) := by decide +kernel
theorem dX4_manyInRun_59 : decode cX4_manyInRun 59 = .ok (.ireturn, 1) := by decide +kernel
theorem dX4_manyInRun_60 : decode cX4_manyInRun 60 = .ok (.aload_n 0, 1) := by decide +kernel
theorem dX4_manyInRun_61 : decode cX4_manyInRun 61 = .ok (.getfield 10, 3) := by decide +kernel
theorem dX4_manyInRun_64 : decode cX4_manyInRun 64 = .ok (.getfield 46, 3) := by decide +kernel
theorem dX4_manyInRun_67 : decode cX4_manyInRun 67 = .ok (.aload_n 0, 1) := by decide +kernel
theorem dX4_manyInRun_68 : decode cX4_manyInRun 68 = .ok (.getfield 27, 3) := by decide +kernel
theorem dX4_manyInRun_71 : decode cX4_manyInRun 71 = .ok (.invokevirtual 157, 3) := by decide +kernel
theorem dX4_manyInRun_74 : decode cX4_manyInRun 74 = .ok (.isub, 1) := by decide +kernel
theorem dX4_manyInRun_75 : decode cX4_manyInRun 75 = .ok (.aload_n 0, 1) := by decide +kernel
theorem dX4_manyInRun_76 : decode cX4_manyInRun 76 = .ok (.getfield 27, 3) := by decide +kernel
theorem dX4_manyInRun_79 : decode cX4_manyInRun 79 = .ok (.invokevirtual 236, 3) := by decide +kernel
theorem dX4_manyInRun_82 : decode cX4_manyInRun 82 = .ok (.isub, 1) := by decide +kernel
theorem dX4_manyInRun_83 : decode cX4_manyInRun 83 = .ok (.ireturn, 1) := by decide +kernel
theorem dX4_manyInRun_84 : decode cX4_manyInRun 84 = .ok (.aload_n 0, 1) := by decide +kernel
theorem dX4_manyInRun_85 : decode cX4_manyInRun 85 = .ok (.getfield 27, 3) := by decide +kernel
theorem dX4_manyInRun_88 : decode cX4_manyInRun 88 = .ok (.getfield 195, 3) := by decide +kernel
theorem dX4_manyInRun_91 : decode cX4_manyInRun 91 = .ok (.ireturn, 1) := by decide +kernel
theorem dX4_manyInRun_92 : decode cX4_manyInRun 92 = .ok (.aload_n 0, 1) := by decide +kernel
theorem dX4_manyInRun_93 : decode cX4_manyInRun 93 = .ok (.getfield 27, 3) := by decide +kernel
theorem dX4_manyInRun_96 : decode cX4_manyInRun 96 = .ok (.invokevirtual 239, 3) := by decide +kernel
theorem dX4_manyInRun_99 : decode cX4_manyInRun 99 = .ok (.ireturn, 1) := by decide +kernel
theorem dX5_init_0 : decode cX5_init 0 = .ok (.aload_n 0, 1) := by decide +kernel
theorem dX5_init_1 : decode cX5_init 1 = .ok (.invokespecial 1, 3) := by decide +kernel
theorem dX5_init_4 : decode cX5_init 4 = .ok (.aload_n 0, 1) := by decide +kernel
theorem dX5_init_5 : decode cX5_init 5 = .ok (.bipush 120, 2) := by decide +kernel
theorem dX5_init_7 : decode cX5_init 7 = .ok (.newarray .int, 2) := by decide +kernel
theorem dX5_init_9 : decode cX5_init 9 = .ok (.putfield 7, 3) := by decide +kernel
theorem dX5_init_12 : decode cX5_init 12 = .ok (.aload_n 0, 1) := by decide +kernel
theorem dX5_init_13 : decode cX5_init 13 = .ok (.bipush 120, 2) := by decide +kernel
theorem dX5_init_15 : decode cX5_init 15 = .ok (.newarray .boolean, 2) := by decide +kernel
theorem dX5_init_17 : decode cX5_init 17 = .ok (.putfield 13, 3) := by decide +kernel
theorem dX5_init_20 : decode cX5_init 20 = .ok (.aload_n 0, 1) := by decide +kernel
theorem dX5_init_21 : decode cX5_init 21 = .ok (.sipush 300, 3) := by decide +kernel
theorem dX5_init_24 : decode cX5_init 24 = .ok (.newarray .int, 2) := by decide +kernel
theorem dX5_init_26 : decode cX5_init 26 = .ok (.putfield 17, 3) := by decide +kernel
theorem dX5_init_29 : decode cX5_init 29 = .ok (.aload_n 0, 1) := by decide +kernel
theorem dX5_init_30 : decode cX5_init 30 = .ok (.sipush 300, 3) := by decide +kernel
theorem dX5_init_33 : decode cX5_init 33 = .ok (.newarray .int, 2) := by decide +kernel
theorem dX5_init_35 : decode cX5_init 35 = .ok (.putfield 20, 3) := by decide +kernel
theorem dX5_init_38 : decode cX5_init 38 = .ok (.aload_n 0, 1) := by decide +kernel
theorem dX5_init_39 : decode cX5_init 39 = .ok (.sipush 300, 3) := by decide +kernel
theorem dX5_init_42 : decode cX5_init 42 = .ok (.newarray .int, 2) := by decide +kernel
theorem dX5_init_44 : decode cX5_init 44 = .ok (.putfield 23, 3) := by decide +kernel
theorem dX5_init_47 : decode cX5_init 47 = .ok (.aload_n 0, 1) := by decide +kernel
theorem dX5_init_48 : decode cX5_init 48 = .ok (.sipush 300, 3) := by decide +kernel
theorem dX5_init_51 : decode cX5_init 51 = .ok (.newarray .boolean, 2) := by decide +kernel
theorem dX5_init_53 : decode cX5_init 53 = .ok (.putfield 26, 3) := by decide +kernel
theorem dX5_init_56 : decode cX5_init 56 = .ok (.aload_n 0, 1) := by decide +kernel
theorem dX5_init_57 : decode cX5_init 57 = .ok (.bipush 6, 2) := by decide +kernel
theorem dX5_init_59 : decode cX5_init 59 = .ok (.newarray .int, 2) := by decide +kernel
theorem dX5_init_61 : decode cX5_init 61 = .ok (.putfield 29, 3) := by decide +kernel
theorem dX5_init_64 : decode cX5_init 64 = .ok (.aload_n 0, 1) := by decide +kernel
theorem dX5_init_65 : decode cX5_init 65 = .ok (.bipush 6, 2) := by decide +kernel
theorem dX5_init_67 : decode cX5_init 67 = .ok (.newarray .int, 2) := by decide +kernel
theorem dX5_init_69 : decode cX5_init 69 = .ok (.putfield 32, 3) := by decide +kernel
theorem dX5_init_72 : decode cX5_init 72 = .ok (.aload_n 0, 1) := by decide +kernel
theorem dX5_init_73 : decode cX5_init 73 = .ok (.sipush 360, 3) := by decide +kernel
theorem dX5_init_76 : decode cX5_init 76 = .ok (.newarray .long, 2) := by decide +kernel
theorem dX5_init_78 : decode cX5_init 78 = .ok (.putfield 35, 3) := by decide +kernel
theorem dX5_init_81 : decode cX5_init 81 = .ok (.aload_n 0, 1) := by decide +kernel
theorem dX5_init_82 : decode cX5_init 82 = .ok (.sipush 360, 3) := by decide +kernel
theorem dX5_init_85 : decode cX5_init 85 = .ok (.newarray .double, 2) := by decide +kernel
theorem dX5_init_87 : decode cX5_init 87 = .ok (.putfield 39, 3) := by decide +kernel
theorem dX5_init_90 : decode cX5_init 90 = .ok (.aload_n 0, 1) := by decide +kernel
theorem dX5_init_91 : decode cX5_init 91 = .ok (.bipush 121, 2) := by decide +kernel
theorem dX5_init_93 : decode cX5_init 93 = .ok (.newarray .int, 2) := by decide +kernel
theorem dX5_init_95 : decode cX5_init 95 = .ok (.putfield 43, 3) := by decide +kernel
theorem dX5_init_98 : decode cX5_init 98 = .ok (.aload_n 0, 1) := by decide +kernel
theorem dX5_init_99 : decode cX5_init 99 = .ok (.bipush 120, 2) := by decide +kernel
theorem dX5_init_101 : decode cX5_init 101 = .ok (.newarray .int, 2) := by decide +kernel
theorem dX5_init_103 : decode cX5_init 103 = .ok (.putfield 46, 3) := by decide +kernel
theorem dX5_init_106 : decode cX5_init 106 = .ok (.aload_n 0, 1) := by decide +kernel
theorem dX5_init_107 : decode cX5_init 107 = .ok (.bipush 120, 2) := by decide +kernel
theorem dX5_init_109 : decode cX5_init 109 = .ok (.newarray .int, 2) := by decide +kernel
theorem dX5_init_111 : decode cX5_init 111 = .ok (.putfield 49, 3) := by decide +kernel
theorem dX5_init_114 : decode cX5_init 114 = .ok (.aload_n 0, 1) := by decide +kernel
theorem dX5_init_115 : decode cX5_init 115 = .ok (.bipush 120, 2) := by decide +kernel
theorem dX5_init_117 : decode cX5_init 117 = .ok (.newarray .int, 2) := by decide +kernel
theorem dX5_init_119 : decode cX5_init 119 = .ok (.putfield 52, 3) := by decide +kernel
theorem dX5_init_122 : decode cX5_init 122 = .ok (.aload_n 0, 1) := by decide +kernel
theorem dX5_init_123 : decode cX5_init 123 = .ok (.sipush 200, 3) := by decide +kernel
theorem dX5_init_126 : decode cX5_init 126 = .ok (.newarray .int, 2) := by decide +kernel
theorem dX5_init_128 : decode cX5_init 128 = .ok (.putfield 55, 3) := by decide +kernel
theorem dX5_init_131 : decode cX5_init 131 = .ok (.aload_n 0, 1) := by decide +kernel
theorem dX5_init_132 : decode cX5_init 132 = .ok (.bipush 60, 2) := by decide +kernel
theorem dX5_init_134 : decode cX5_init 134 = .ok (.newarray .long, 2) := by decide +kernel
theorem dX5_init_136 : decode cX5_init 136 = .ok (.putfield 58, 3) := by decide +kernel
theorem dX5_init_139 : decode cX5_init 139 = .ok (.aload_n 0, 1) := by decide +kernel
theorem dX5_init_140 : decode cX5_init 140 = .ok (.bipush 60, 2) := by decide +kernel
theorem dX5_init_142 : decode cX5_init 142 = .ok (.newarray .double, 2) := by decide +kernel
theorem dX5_init_144 : decode cX5_init 144 = .ok (.putfield 61, 3) := by decide +kernel
theorem dX5_init_147 : decode cX5_init 147 = .ok (.aload_n 0, 1) := by decide +kernel
theorem dX5_init_148 : decode cX5_init 148 = .ok (.bipush 120, 2) := by decide +kernel
theorem dX5_init_150 : decode cX5_init 150 = .ok (.newarray .boolean, 2) := by decide +kernel
theorem dX5_init_152 : decode cX5_init 152 = .ok (.putfield 64, 3) := by decide +kernel
theorem dX5_init_155 : decode cX5_init 155 = .ok (.aload_n 0, 1) := by decide +kernel
theorem dX5_init_156 : decode cX5_init 156 = .ok (.bipush 120, 2) := by decide +kernel
theorem dX5_init_158 : decode cX5_init 158 = .ok (.newarray .int, 2) := by decide +kernel
theorem dX5_init_160 : decode cX5_init 160 = .ok (.putfield 67, 3) := by decide +kernel
theorem dX5_init_163 : decode cX5_init 163 = .ok (.aload_n 0, 1) := by decide +kernel
theorem dX5_init_164 : decode cX5_init 164 = .ok (.bipush 120, 2) := by decide +kernel
theorem dX5_init_166 : decode cX5_init 166 = .ok (.newarray .int, 2) := by decide +kernel
theorem dX5_init_168 : decode cX5_init 168 = .ok (.putfield 70, 3) := by decide +kernel
theorem dX5_init_171 : decode cX5_init 171 = .ok (.aload_n 0, 1) := by decide +kernel
theorem dX5_init_172 : decode cX5_init 172 = .ok (.bipush 120, 2) := by decide +kernel
theorem dX5_init_174 : decode cX5_init 174 = .ok (.newarray .int, 2) := by decide +kernel
theorem dX5_init_176 : decode cX5_init 176 = .ok (.putfield 73, 3) := by decide +kernel
theorem dX5_init_179 : decode cX5_init 179 = .ok (.aload_n 0, 1) := by decide +kernel
theorem dX5_init_180 : decode cX5_init 180 = .ok (.bipush 121, 2) := by decide +kernel
theorem dX5_init_182 : decode cX5_init 182 = .ok (.newarray .int, 2) := by decide +kernel
theorem dX5_init_184 : decode cX5_init 184 = .ok (.putfield 76, 3) := by decide +kernel
theorem dX5_init_187 : decode cX5_init 187 = .ok (.aload_n 0, 1) := by decide +kernel
theorem dX5_init_188 : decode cX5_init 188 = .ok (.bipush 120, 2) := by decide +kernel
theorem dX5_init_190 : decode cX5_init 190 = .ok (.newarray .int, 2) := by decide +kernel
theorem dX5_init_192 : decode cX5_init 192 = .ok (.putfield 79, 3) := by decide +kernel
theorem dX5_init_195 : decode cX5_init 195 = .ok (.aload_n 0, 1) := by decide +kernel
theorem dX5_init_196 : decode cX5_init 196 = .ok (.bipush 120, 2) := by decide +kernel
theorem dX5_init_198 : decode cX5_init 198 = .ok (.newarray .int, 2) := by decide +kernel
theorem dX5_init_200 : decode cX5_init 200 = .ok (.putfield 82, 3) := by decide +kernel
theorem dX5_init_203 : decode cX5_init 203 = .ok (.aload_n 0, 1) := by decide +kernel
theorem dX5_init_204 : decode cX5_init 204 = .ok (.bipush 120, 2) := by decide +kernel
theorem dX5_init_206 : decode cX5_init 206 = .ok (.newarray .int, 2) := by decide +kernel
theorem dX5_init_208 : decode cX5_init 208 = .ok (.putfield 85, 3) := by decide +kernel
theorem dX5_init_211 : decode cX5_init 211 = .ok (.iconst 0, 1) := by decide +kernel
theorem dX5_init_212 : decode cX5_init 212 = .ok (.istore_n 1, 1) := by decide +kernel
theorem dX5_init_213 : decode cX5_init 213 = .ok (.iload_n 1, 1) := by decide +kernel
theorem dX5_init_214 : decode cX5_init 214 = .ok (.bipush 6, 2) := by decide +kernel
theorem dX5_init_216 : decode cX5_init 216 = .ok (.if_icmp .ge 16, 3) := by decide +kernel
theorem dX5_init_219 : decode cX5_init 219 = .ok (.aload_n 0, 1) := by decide +kernel
theorem dX5_init_220 : decode cX5_init 220 = .ok (.getfield 32, 3) := by decide +kernel
theorem dX5_init_223 : decode cX5_init 223 = .ok (.iload_n 1, 1) := by decide +kernel
theorem dX5_init_224 : decode cX5_init 224 = .ok (.iconst (-1), 1) := by decide +kernel
theorem dX5_init_225 : decode cX5_init 225 = .ok (.iastore, 1) := by decide +kernel
theorem dX5_init_226 : decode cX5_init 226 = .ok (.iinc 1 1, 3) := by decide +kernel
theorem dX5_init_229 : decode cX5_init 229 = .ok (.goto (-16), 3) := by decide +kernel
theorem dX5_init_232 : decode cX5_init 232 = .ok (.return_, 1) := by decide +kernel
theorem dX5_isPore_0 : decode cX5_isPore 0 = .ok (.iload_n 1, 1) := by decide +kernel
theorem dX5_isPore_1 : decode cX5_isPore 1 = .ok (.ifCond .lt 15, 3) := by decide +kernel
theorem dX5_isPore_4 : decode cX5_isPore 4 = .ok (.iload_n 1, 1) := by decide +kernel
theorem dX5_isPore_5 : decode cX5_isPore 5 = .ok (.aload_n 0, 1) := by decide +kernel
theorem dX5_isPore_6 : decode cX5_isPore 6 = .ok (.getfield 88, 3) := by decide +kernel
theorem dX5_isPore_9 : decode cX5_isPore 9 = .ok (.if_icmp .ge 7, 3) := by decide +kernel
theorem dX5_isPore_12 : decode cX5_isPore 12 = .ok (.iconst 1, 1) := by decide +kernel
theorem dX5_isPore_13 : decode cX5_isPore 13 = .ok (.goto 4, 3) := by decide +kernel
theorem dX5_isPore_16 : decode cX5_isPore 16 = .ok (.iconst 0, 1) := by decide +kernel
theorem dX5_isPore_17 : decode cX5_isPore 17 = .ok (.ireturn, 1) := by decide +kernel
theorem dX5_isThroat_0 : decode cX5_isThroat 0 = .ok (.iload_n 1, 1) := by decide +kernel
theorem dX5_isThroat_1 : decode cX5_isThroat 1 = .ok (.ifCond .lt 15, 3) := by decide +kernel
theorem dX5_isThroat_4 : decode cX5_isThroat 4 = .ok (.iload_n 1, 1) := by decide +kernel
theorem dX5_isThroat_5 : decode cX5_isThroat 5 = .ok (.aload_n 0, 1) := by decide +kernel
theorem dX5_isThroat_6 : decode cX5_isThroat 6 = .ok (.getfield 92, 3) := by decide +kernel
theorem dX5_isThroat_9 : decode cX5_isThroat 9 = .ok (.if_icmp .ge 7, 3) := by decide +kernel
theorem dX5_isThroat_12 : decode cX5_isThroat 12 = .ok (.iconst 1, 1) := by decide +kernel
theorem dX5_isThroat_13 : decode cX5_isThroat 13 = .ok (.goto 4, 3) := by decide +kernel
theorem dX5_isThroat_16 : decode cX5_isThroat 16 = .ok (.iconst 0, 1) := by decide +kernel
theorem dX5_isThroat_17 : decode cX5_isThroat 17 = .ok (.ireturn, 1) := by decide +kernel
theorem dX5_pore_0 : decode cX5_pore 0 = .ok (.iload_n 1, 1) := by decide +kernel
theorem dX5_pore_1 : decode cX5_pore 1 = .ok (.ifCond .lt 8, 3) := by decide +kernel
theorem dX5_pore_4 : decode cX5_pore 4 = .ok (.iload_n 1, 1) := by decide +kernel
theorem dX5_pore_5 : decode cX5_pore 5 = .ok (.iconst 4, 1) := by decide +kernel
theorem dX5_pore_6 : decode cX5_pore 6 = .ok (.if_icmp .le 5, 3) := by decide +kernel
theorem dX5_pore_9 : decode cX5_pore 9 = .ok (.iconst (-1), 1) := by decide +kernel
theorem dX5_pore_10 : decode cX5_pore 10 = .ok (.ireturn, 1) := by decide +kernel
theorem dX5_pore_11 : decode cX5_pore 11 = .ok (.aload_n 0, 1) := by decide +kernel
theorem dX5_pore_12 : decode cX5_pore 12 = .ok (.getfield 88, 3) := by decide +kernel
theorem dX5_pore_15 : decode cX5_pore 15 = .ok (.bipush 120, 2) := by decide +kernel
theorem dX5_pore_17 : decode cX5_pore 17 = .ok (.if_icmp .ne 6, 3) := by decide +kernel
theorem dX5_pore_20 : decode cX5_pore 20 = .ok (.bipush (-2), 2) := by decide +kernel
theorem dX5_pore_22 : decode cX5_pore 22 = .ok (.ireturn, 1) := by decide +kernel
theorem dX5_pore_23 : decode cX5_pore 23 = .ok (.aload_n 0, 1) := by decide +kernel
theorem dX5_pore_24 : decode cX5_pore 24 = .ok (.getfield 7, 3) := by decide +kernel
theorem dX5_pore_27 : decode cX5_pore 27 = .ok (.aload_n 0, 1) := by decide +kernel
theorem dX5_pore_28 : decode cX5_pore 28 = .ok (.getfield 88, 3) := by decide +kernel
theorem dX5_pore_31 : decode cX5_pore 31 = .ok (.iload_n 1, 1) := by decide +kernel
theorem dX5_pore_32 : decode cX5_pore 32 = .ok (.iastore, 1) := by decide +kernel
theorem dX5_pore_33 : decode cX5_pore 33 = .ok (.aload_n 0, 1) := by decide +kernel
theorem dX5_pore_34 : decode cX5_pore 34 = .ok (.getfield 13, 3) := by decide +kernel
theorem dX5_pore_37 : decode cX5_pore 37 = .ok (.aload_n 0, 1) := by decide +kernel
theorem dX5_pore_38 : decode cX5_pore 38 = .ok (.getfield 88, 3) := by decide +kernel
theorem dX5_pore_41 : decode cX5_pore 41 = .ok (.iconst 0, 1) := by decide +kernel
theorem dX5_pore_42 : decode cX5_pore 42 = .ok (.bastore, 1) := by decide +kernel
theorem dX5_pore_43 : decode cX5_pore 43 = .ok (.aload_n 0, 1) := by decide +kernel
theorem dX5_pore_44 : decode cX5_pore 44 = .ok (.dup, 1) := by decide +kernel
theorem dX5_pore_45 : decode cX5_pore 45 = .ok (.getfield 88, 3) := by decide +kernel
theorem dX5_pore_48 : decode cX5_pore 48 = .ok (.iconst 1, 1) := by decide +kernel
theorem dX5_pore_49 : decode cX5_pore 49 = .ok (.iadd, 1) := by decide +kernel
theorem dX5_pore_50 : decode cX5_pore 50 = .ok (.putfield 88, 3) := by decide +kernel
theorem dX5_pore_53 : decode cX5_pore 53 = .ok (.aload_n 0, 1) := by decide +kernel
theorem dX5_pore_54 : decode cX5_pore 54 = .ok (.iconst 0, 1) := by decide +kernel
theorem dX5_pore_55 : decode cX5_pore 55 = .ok (.putfield 95, 3) := by decide +kernel
theorem dX5_pore_58 : decode cX5_pore 58 = .ok (.aload_n 0, 1) := by decide +kernel
theorem dX5_pore_59 : decode cX5_pore 59 = .ok (.getfield 88, 3) := by decide +kernel
theorem dX5_pore_62 : decode cX5_pore 62 = .ok (.iconst 1, 1) := by decide +kernel
theorem dX5_pore_63 : decode cX5_pore 63 = .ok (.isub, 1) := by decide +kernel
theorem dX5_pore_64 : decode cX5_pore 64 = .ok (.ireturn, 1) := by decide +kernel
theorem dX5_throat_0 : decode cX5_throat 0 = .ok (.aload_n 0, 1) := by decide +kernel
theorem dX5_throat_1 : decode cX5_throat 1 = .ok (.iload_n 1, 1) := by decide +kernel
theorem dX5_throat_2 : decode cX5_throat 2 = .ok (.invokevirtual 99, 3) := by decide +kernel
theorem dX5_throat_5 : decode cX5_throat 5 = .ok (.ifCond .eq 16, 3) := by decide +kernel
theorem dX5_throat_8 : decode cX5_throat 8 = .ok (.aload_n 0, 1) := by decide +kernel
theorem dX5_throat_9 : decode cX5_throat 9 = .ok (.iload_n 2, 1) := by decide +kernel
theorem dX5_throat_10 : decode cX5_throat 10 = .ok (.invokevirtual 99, 3) := by decide +kernel
theorem dX5_throat_13 : decode cX5_throat 13 = .ok (.ifCond .eq 8, 3) := by decide +kernel
theorem dX5_throat_16 : decode cX5_throat 16 = .ok (.iload_n 1, 1) := by decide +kernel
theorem dX5_throat_17 : decode cX5_throat 17 = .ok (.iload_n 2, 1) := by decide +kernel
theorem dX5_throat_18 : decode cX5_throat 18 = .ok (.if_icmp .ne 5, 3) := by decide +kernel
theorem dX5_throat_21 : decode cX5_throat 21 = .ok (.iconst (-1), 1) := by decide +kernel
theorem dX5_throat_22 : decode cX5_throat 22 = .ok (.ireturn, 1) := by decide +kernel
theorem dX5_throat_23 : decode cX5_throat 23 = .ok (.aload_n 0, 1) := by decide +kernel
theorem dX5_throat_24 : decode cX5_throat 24 = .ok (.getfield 92, 3) := by decide +kernel
theorem dX5_throat_27 : decode cX5_throat 27 = .ok (.sipush 300, 3) := by decide +kernel
theorem dX5_throat_30 : decode cX5_throat 30 = .ok (.if_icmp .ne 6, 3) := by decide +kernel
theorem dX5_throat_33 : decode cX5_throat 33 = .ok (.bipush (-2), 2) := by decide +kernel
theorem dX5_throat_35 : decode cX5_throat 35 = .ok (.ireturn, 1) := by decide +kernel
theorem dX5_throat_36 : decode cX5_throat 36 = .ok (.aload_n 0, 1) := by decide +kernel
theorem dX5_throat_37 : decode cX5_throat 37 = .ok (.getfield 17, 3) := by decide +kernel
theorem dX5_throat_40 : decode cX5_throat 40 = .ok (.aload_n 0, 1) := by decide +kernel
theorem dX5_throat_41 : decode cX5_throat 41 = .ok (.getfield 92, 3) := by decide +kernel
theorem dX5_throat_44 : decode cX5_throat 44 = .ok (.iload_n 1, 1) := by decide +kernel
theorem dX5_throat_45 : decode cX5_throat 45 = .ok (.iastore, 1) := by decide +kernel
theorem dX5_throat_46 : decode cX5_throat 46 = .ok (.aload_n 0, 1) := by decide +kernel
theorem dX5_throat_47 : decode cX5_throat 47 = .ok (.getfield 20, 3) := by decide +kernel
theorem dX5_throat_50 : decode cX5_throat 50 = .ok (.aload_n 0, 1) := by decide +kernel
theorem dX5_throat_51 : decode cX5_throat 51 = .ok (.getfield 92, 3) := by decide +kernel
theorem dX5_throat_54 : decode cX5_throat 54 = .ok (.iload_n 2, 1) := by decide +kernel
theorem dX5_throat_55 : decode cX5_throat 55 = .ok (.iastore, 1) := by decide +kernel
theorem dX5_throat_56 : decode cX5_throat 56 = .ok (.aload_n 0, 1) := by decide +kernel
theorem dX5_throat_57 : decode cX5_throat 57 = .ok (.getfield 23, 3) := by decide +kernel
theorem dX5_throat_60 : decode cX5_throat 60 = .ok (.aload_n 0, 1) := by decide +kernel
theorem dX5_throat_61 : decode cX5_throat 61 = .ok (.getfield 92, 3) := by decide +kernel
theorem dX5_throat_64 : decode cX5_throat 64 = .ok (.iconst 0, 1) := by decide +kernel
theorem dX5_throat_65 : decode cX5_throat 65 = .ok (.iastore, 1) := by decide +kernel
theorem dX5_throat_66 : decode cX5_throat 66 = .ok (.aload_n 0, 1) := by decide +kernel
theorem dX5_throat_67 : decode cX5_throat 67 = .ok (.getfield 26, 3) := by decide +kernel
theorem dX5_throat_70 : decode cX5_throat 70 = .ok (.aload_n 0, 1) := by decide +kernel
theorem dX5_throat_71 : decode cX5_throat 71 = .ok (.getfield 92, 3) := by decide +kernel
theorem dX5_throat_74 : decode cX5_throat 74 = .ok (.iconst 0, 1) := by decide +kernel
theorem dX5_throat_75 : decode cX5_throat 75 = .ok (.bastore, 1) := by decide +kernel
theorem dX5_throat_76 : decode cX5_throat 76 = .ok (.aload_n 0, 1) := by decide +kernel
theorem dX5_throat_77 : decode cX5_throat 77 = .ok (.dup, 1) := by decide +kernel
theorem dX5_throat_78 : decode cX5_throat 78 = .ok (.getfield 92, 3) := by decide +kernel
theorem dX5_throat_81 : decode cX5_throat 81 = .ok (.iconst 1, 1) := by decide +kernel
theorem dX5_throat_82 : decode cX5_throat 82 = .ok (.iadd, 1) := by decide +kernel
theorem dX5_throat_83 : decode cX5_throat 83 = .ok (.putfield 92, 3) := by decide +kernel
theorem dX5_throat_86 : decode cX5_throat 86 = .ok (.aload_n 0, 1) := by decide +kernel
theorem dX5_throat_87 : decode cX5_throat 87 = .ok (.iconst 0, 1) := by decide +kernel
theorem dX5_throat_88 : decode cX5_throat 88 = .ok (.putfield 95, 3) := by decide +kernel
theorem dX5_throat_91 : decode cX5_throat 91 = .ok (.aload_n 0, 1) := by decide +kernel
theorem dX5_throat_92 : decode cX5_throat 92 = .ok (.getfield 92, 3) := by decide +kernel
theorem dX5_throat_95 : decode cX5_throat 95 = .ok (.iconst 1, 1) := by decide +kernel
theorem dX5_throat_96 : decode cX5_throat 96 = .ok (.isub, 1) := by decide +kernel
theorem dX5_throat_97 : decode cX5_throat 97 = .ok (.ireturn, 1) := by decide +kernel
theorem dX5_hinder_0 : decode cX5_hinder 0 = .ok (.aload_n 0, 1) := by decide +kernel
theorem dX5_hinder_1 : decode cX5_hinder 1 = .ok (.iload_n 1, 1) := by decide +kernel
theorem dX5_hinder_2 : decode cX5_hinder 2 = .ok (.invokevirtual 103, 3) := by decide +kernel
theorem dX5_hinder_5 : decode cX5_hinder 5 = .ok (.ifCond .eq 13, 3) := by decide +kernel
theorem dX5_hinder_8 : decode cX5_hinder 8 = .ok (.iload_n 2, 1) := by decide +kernel
theorem dX5_hinder_9 : decode cX5_hinder 9 = .ok (.ifCond .lt 9, 3) := by decide +kernel
theorem dX5_hinder_12 : decode cX5_hinder 12 = .ok (.iload_n 2, 1) := by decide +kernel
theorem dX5_hinder_13 : decode cX5_hinder 13 = .ok (.ldc 106, 2) := by decide +kernel
theorem dX5_hinder_15 : decode cX5_hinder 15 = .ok (.if_icmp .le 5, 3) := by decide +kernel
theorem dX5_hinder_18 : decode cX5_hinder 18 = .ok (.iconst (-1), 1) := by decide +kernel
theorem dX5_hinder_19 : decode cX5_hinder 19 = .ok (.ireturn, 1) := by decide +kernel
theorem dX5_hinder_20 : decode cX5_hinder 20 = .ok (.aload_n 0, 1) := by decide +kernel
theorem dX5_hinder_21 : decode cX5_hinder 21 = .ok (.getfield 23, 3) := by decide +kernel
theorem dX5_hinder_24 : decode cX5_hinder 24 = .ok (.iload_n 1, 1) := by decide +kernel
theorem dX5_hinder_25 : decode cX5_hinder 25 = .ok (.iload_n 2, 1) := by decide +kernel
theorem dX5_hinder_26 : decode cX5_hinder 26 = .ok (.iastore, 1) := by decide +kernel
theorem dX5_hinder_27 : decode cX5_hinder 27 = .ok (.aload_n 0, 1) := by decide +kernel
theorem dX5_hinder_28 : decode cX5_hinder 28 = .ok (.iconst 0, 1) := by decide +kernel
theorem dX5_hinder_29 : decode cX5_hinder 29 = .ok (.putfield 95, 3) := by decide +kernel
theorem dX5_hinder_32 : decode cX5_hinder 32 = .ok (.iconst 1, 1) := by decide +kernel
theorem dX5_hinder_33 : decode cX5_hinder 33 = .ok (.ireturn, 1) := by decide +kernel
theorem dX5_shut_0 : decode cX5_shut 0 = .ok (.aload_n 0, 1) := by decide +kernel
theorem dX5_shut_1 : decode cX5_shut 1 = .ok (.iload_n 1, 1) := by decide +kernel
theorem dX5_shut_2 : decode cX5_shut 2 = .ok (.invokevirtual 103, 3) := by decide +kernel
theorem dX5_shut_5 : decode cX5_shut 5 = .ok (.ifCond .ne 5, 3) := by decide +kernel
theorem dX5_shut_8 : decode cX5_shut 8 = .ok (.iconst (-1), 1) := by decide +kernel
theorem dX5_shut_9 : decode cX5_shut 9 = .ok (.ireturn, 1) := by decide +kernel
theorem dX5_shut_10 : decode cX5_shut 10 = .ok (.aload_n 0, 1) := by decide +kernel
theorem dX5_shut_11 : decode cX5_shut 11 = .ok (.getfield 26, 3) := by decide +kernel
theorem dX5_shut_14 : decode cX5_shut 14 = .ok (.iload_n 1, 1) := by decide +kernel
theorem dX5_shut_15 : decode cX5_shut 15 = .ok (.baload, 1) := by decide +kernel
theorem dX5_shut_16 : decode cX5_shut 16 = .ok (.iload_n 2, 1) := by decide +kernel
theorem dX5_shut_17 : decode cX5_shut 17 = .ok (.if_icmp .ne 7, 3) := by decide +kernel
theorem dX5_shut_20 : decode cX5_shut 20 = .ok (.iconst 0, 1) := by decide +kernel
theorem dX5_shut_21 : decode cX5_shut 21 = .ok (.goto 4, 3) := by decide +kernel
theorem dX5_shut_24 : decode cX5_shut 24 = .ok (.iconst 1, 1) := by decide +kernel
theorem dX5_shut_25 : decode cX5_shut 25 = .ok (.istore_n 3, 1) := by decide +kernel
theorem dX5_shut_26 : decode cX5_shut 26 = .ok (.aload_n 0, 1) := by decide +kernel
theorem dX5_shut_27 : decode cX5_shut 27 = .ok (.getfield 26, 3) := by decide +kernel
theorem dX5_shut_30 : decode cX5_shut 30 = .ok (.iload_n 1, 1) := by decide +kernel
theorem dX5_shut_31 : decode cX5_shut 31 = .ok (.iload_n 2, 1) := by decide +kernel
theorem dX5_shut_32 : decode cX5_shut 32 = .ok (.bastore, 1) := by decide +kernel
theorem dX5_shut_33 : decode cX5_shut 33 = .ok (.aload_n 0, 1) := by decide +kernel
theorem dX5_shut_34 : decode cX5_shut 34 = .ok (.iconst 0, 1) := by decide +kernel
theorem dX5_shut_35 : decode cX5_shut 35 = .ok (.putfield 95, 3) := by decide +kernel
theorem dX5_shut_38 : decode cX5_shut 38 = .ok (.iload_n 3, 1) := by decide +kernel
theorem dX5_shut_39 : decode cX5_shut 39 = .ok (.ireturn, 1) := by decide +kernel
theorem dX5_inlet_0 : decode cX5_inlet 0 = .ok (.aload_n 0, 1) := by decide +kernel
theorem dX5_inlet_1 : decode cX5_inlet 1 = .ok (.iload_n 1, 1) := by decide +kernel
theorem dX5_inlet_2 : decode cX5_inlet 2 = .ok (.invokevirtual 99, 3) := by decide +kernel
theorem dX5_inlet_5 : decode cX5_inlet 5 = .ok (.ifCond .ne 5, 3) := by decide +kernel
theorem dX5_inlet_8 : decode cX5_inlet 8 = .ok (.iconst (-1), 1) := by decide +kernel
theorem dX5_inlet_9 : decode cX5_inlet 9 = .ok (.ireturn, 1) := by decide +kernel
theorem dX5_inlet_10 : decode cX5_inlet 10 = .ok (.aload_n 0, 1) := by decide +kernel
theorem dX5_inlet_11 : decode cX5_inlet 11 = .ok (.getfield 13, 3) := by decide +kernel
theorem dX5_inlet_14 : decode cX5_inlet 14 = .ok (.iload_n 1, 1) := by decide +kernel
theorem dX5_inlet_15 : decode cX5_inlet 15 = .ok (.baload, 1) := by decide +kernel
theorem dX5_inlet_16 : decode cX5_inlet 16 = .ok (.iload_n 2, 1) := by decide +kernel
theorem dX5_inlet_17 : decode cX5_inlet 17 = .ok (.if_icmp .ne 7, 3) := by decide +kernel
theorem dX5_inlet_20 : decode cX5_inlet 20 = .ok (.iconst 0, 1) := by decide +kernel
theorem dX5_inlet_21 : decode cX5_inlet 21 = .ok (.goto 4, 3) := by decide +kernel
theorem dX5_inlet_24 : decode cX5_inlet 24 = .ok (.iconst 1, 1) := by decide +kernel
theorem dX5_inlet_25 : decode cX5_inlet 25 = .ok (.istore_n 3, 1) := by decide +kernel
theorem dX5_inlet_26 : decode cX5_inlet 26 = .ok (.aload_n 0, 1) := by decide +kernel
theorem dX5_inlet_27 : decode cX5_inlet 27 = .ok (.getfield 13, 3) := by decide +kernel
theorem dX5_inlet_30 : decode cX5_inlet 30 = .ok (.iload_n 1, 1) := by decide +kernel
theorem dX5_inlet_31 : decode cX5_inlet 31 = .ok (.iload_n 2, 1) := by decide +kernel
theorem dX5_inlet_32 : decode cX5_inlet 32 = .ok (.bastore, 1) := by decide +kernel
theorem dX5_inlet_33 : decode cX5_inlet 33 = .ok (.aload_n 0, 1) := by decide +kernel
theorem dX5_inlet_34 : decode cX5_inlet 34 = .ok (.iconst 0, 1) := by decide +kernel
theorem dX5_inlet_35 : decode cX5_inlet 35 = .ok (.putfield 95, 3) := by decide +kernel
theorem dX5_inlet_38 : decode cX5_inlet 38 = .ok (.iload_n 3, 1) := by decide +kernel
theorem dX5_inlet_39 : decode cX5_inlet 39 = .ok (.ireturn, 1) := by decide +kernel
theorem dX5_trapping_0 : decode cX5_trapping 0 = .ok (.aload_n 0, 1) := by decide +kernel
theorem dX5_trapping_1 : decode cX5_trapping 1 = .ok (.getfield 107, 3) := by decide +kernel
theorem dX5_trapping_4 : decode cX5_trapping 4 = .ok (.iload_n 1, 1) := by decide +kernel
theorem dX5_trapping_5 : decode cX5_trapping 5 = .ok (.if_icmp .ne 7, 3) := by decide +kernel
theorem dX5_trapping_8 : decode cX5_trapping 8 = .ok (.iconst 0, 1) := by decide +kernel
theorem dX5_trapping_9 : decode cX5_trapping 9 = .ok (.goto 4, 3) := by decide +kernel
theorem dX5_trapping_12 : decode cX5_trapping 12 = .ok (.iconst 1, 1) := by decide +kernel
theorem dX5_trapping_13 : decode cX5_trapping 13 = .ok (.istore_n 2, 1) := by decide +kernel
theorem dX5_trapping_14 : decode cX5_trapping 14 = .ok (.aload_n 0, 1) := by decide +kernel
theorem dX5_trapping_15 : decode cX5_trapping 15 = .ok (.iload_n 1, 1) := by decide +kernel
theorem dX5_trapping_16 : decode cX5_trapping 16 = .ok (.putfield 107, 3) := by decide +kernel
theorem dX5_trapping_19 : decode cX5_trapping 19 = .ok (.aload_n 0, 1) := by decide +kernel
theorem dX5_trapping_20 : decode cX5_trapping 20 = .ok (.iconst 0, 1) := by decide +kernel
theorem dX5_trapping_21 : decode cX5_trapping 21 = .ok (.putfield 95, 3) := by decide +kernel
theorem dX5_trapping_24 : decode cX5_trapping 24 = .ok (.iload_n 2, 1) := by decide +kernel
theorem dX5_trapping_25 : decode cX5_trapping 25 = .ok (.ireturn, 1) := by decide +kernel
theorem dX5_isLess_0 : decode cX5_isLess 0 = .ok (.aload_n 0, 1) := by decide +kernel
theorem dX5_isLess_1 : decode cX5_isLess 1 = .ok (.getfield 23, 3) := by decide +kernel
theorem dX5_isLess_4 : decode cX5_isLess 4 = .ok (.iload_n 1, 1) := by decide +kernel
theorem dX5_isLess_5 : decode cX5_isLess 5 = .ok (.iaload, 1) := by decide +kernel
theorem dX5_isLess_6 : decode cX5_isLess 6 = .ok (.aload_n 0, 1) := by decide +kernel
theorem dX5_isLess_7 : decode cX5_isLess 7 = .ok (.getfield 23, 3) := by decide +kernel
theorem dX5_isLess_10 : decode cX5_isLess 10 = .ok (.iload_n 2, 1) := by decide +kernel
theorem dX5_isLess_11 : decode cX5_isLess 11 = .ok (.iaload, 1) := by decide +kernel
theorem dX5_isLess_12 : decode cX5_isLess 12 = .ok (.if_icmp .lt 23, 3) := by decide +kernel
theorem dX5_isLess_15 : decode cX5_isLess 15 = .ok (.aload_n 0, 1) := by decide +kernel
theorem dX5_isLess_16 : decode cX5_isLess 16 = .ok (.getfield 23, 3) := by decide +kernel
theorem dX5_isLess_19 : decode cX5_isLess 19 = .ok (.iload_n 1, 1) := by decide +kernel
theorem dX5_isLess_20 : decode cX5_isLess 20 = .ok (.iaload, 1) := by decide +kernel
theorem dX5_isLess_21 : decode cX5_isLess 21 = .ok (.aload_n 0, 1) := by decide +kernel
theorem dX5_isLess_22 : decode cX5_isLess 22 = .ok (.getfield 23, 3) := by decide +kernel
theorem dX5_isLess_25 : decode cX5_isLess 25 = .ok (.iload_n 2, 1) := by decide +kernel
theorem dX5_isLess_26 : decode cX5_isLess 26 = .ok (.iaload, 1) := by decide +kernel
theorem dX5_isLess_27 : decode cX5_isLess 27 = .ok (.if_icmp .ne 12, 3) := by decide +kernel
theorem dX5_isLess_30 : decode cX5_isLess 30 = .ok (.iload_n 1, 1) := by decide +kernel
theorem dX5_isLess_31 : decode cX5_isLess 31 = .ok (.iload_n 2, 1) := by decide +kernel
theorem dX5_isLess_32 : decode cX5_isLess 32 = .ok (.if_icmp .ge 7, 3) := by decide +kernel
theorem dX5_isLess_35 : decode cX5_isLess 35 = .ok (.iconst 1, 1) := by decide +kernel
theorem dX5_isLess_36 : decode cX5_isLess 36 = .ok (.goto 4, 3) := by decide +kernel
theorem dX5_isLess_39 : decode cX5_isLess 39 = .ok (.iconst 0, 1) := by decide +kernel
theorem dX5_isLess_40 : decode cX5_isLess 40 = .ok (.ireturn, 1) := by decide +kernel
theorem dX5_rank_0 : decode cX5_rank 0 = .ok (.iconst 0, 1) := by decide +kernel
theorem dX5_rank_1 : decode cX5_rank 1 = .ok (.istore_n 2, 1) := by decide +kernel
theorem dX5_rank_2 : decode cX5_rank 2 = .ok (.iconst 0, 1) := by decide +kernel
theorem dX5_rank_3 : decode cX5_rank 3 = .ok (.istore_n 3, 1) := by decide +kernel
theorem dX5_rank_4 : decode cX5_rank 4 = .ok (.iload_n 3, 1) := by decide +kernel
theorem dX5_rank_5 : decode cX5_rank 5 = .ok (.aload_n 0, 1) := by decide +kernel
theorem dX5_rank_6 : decode cX5_rank 6 = .ok (.getfield 92, 3) := by decide +kernel
theorem dX5_rank_9 : decode cX5_rank 9 = .ok (.if_icmp .ge 35, 3) := by decide +kernel
theorem dX5_rank_12 : decode cX5_rank 12 = .ok (.iload_n 2, 1) := by decide +kernel
theorem dX5_rank_13 : decode cX5_rank 13 = .ok (.aload_n 0, 1) := by decide +kernel
theorem dX5_rank_14 : decode cX5_rank 14 = .ok (.getfield 26, 3) := by decide +kernel
theorem dX5_rank_17 : decode cX5_rank 17 = .ok (.iload_n 3, 1) := by decide +kernel
theorem dX5_rank_18 : decode cX5_rank 18 = .ok (.baload, 1) := by decide +kernel
theorem dX5_rank_19 : decode cX5_rank 19 = .ok (.ifCond .ne 16, 3) := by decide +kernel
end
section
theorem dX5_rank_22 : decode cX5_rank 22 = .ok (.aload_n 0, 1) := by decide +kernel
theorem dX5_rank_23 : decode cX5_rank 23 = .ok (.iload_n 3, 1) := by decide +kernel
theorem dX5_rank_24 : decode cX5_rank 24 = .ok (.iload_n 1, 1) := by decide +kernel
theorem dX5_rank_25 : decode cX5_rank 25 = .ok (.invokevirtual 110, 3) := by decide +kernel
theorem dX5_rank_28 : decode cX5_rank 28 = .ok (.ifCond .eq 7, 3) := by decide +kernel
theorem dX5_rank_31 : decode cX5_rank 31 = .ok (.iconst 1, 1) := by decide +kernel
theorem dX5_rank_32 : decode cX5_rank 32 = .ok (.goto 4, 3) := by decide +kernel
theorem dX5_rank_35 : decode cX5_rank 35 = .ok (.iconst 0, 1) := by decide +kernel
theorem dX5_rank_36 : decode cX5_rank 36 = .ok (.iadd, 1) := by decide +kernel
theorem dX5_rank_37 : decode cX5_rank 37 = .ok (.istore_n 2, 1) := by decide +kernel
theorem dX5_rank_38 : decode cX5_rank 38 = .ok (.iinc 3 1, 3) := by decide +kernel
theorem dX5_rank_41 : decode cX5_rank 41 = .ok (.goto (-37), 3) := by decide +kernel
theorem dX5_rank_44 : decode cX5_rank 44 = .ok (.iload_n 2, 1) := by decide +kernel
theorem dX5_rank_45 : decode cX5_rank 45 = .ok (.ireturn, 1) := by decide +kernel
theorem dX5_about_0 : decode cX5_about 0 = .ok (.aload_n 0, 1) := by decide +kernel
theorem dX5_about_1 : decode cX5_about 1 = .ok (.iload_n 1, 1) := by decide +kernel
theorem dX5_about_2 : decode cX5_about 2 = .ok (.invokevirtual 103, 3) := by decide +kernel
theorem dX5_about_5 : decode cX5_about 5 = .ok (.ifCond .ne 5, 3) := by decide +kernel
theorem dX5_about_8 : decode cX5_about 8 = .ok (.iconst (-1), 1) := by decide +kernel
theorem dX5_about_9 : decode cX5_about 9 = .ok (.ireturn, 1) := by decide +kernel
theorem dX5_about_10 : decode cX5_about 10 = .ok (.iload_n 2, 1) := by decide +kernel
theorem dX5_about_11 : decode cX5_about 11 = .ok (.tableswitch 89 0 4 #[33, 40, 47, 54, 69], 33) := by decide +kernel
theorem dX5_about_44 : decode cX5_about 44 = .ok (.aload_n 0, 1) := by decide +kernel
theorem dX5_about_45 : decode cX5_about 45 = .ok (.getfield 17, 3) := by decide +kernel
theorem dX5_about_48 : decode cX5_about 48 = .ok (.iload_n 1, 1) := by decide +kernel
theorem dX5_about_49 : decode cX5_about 49 = .ok (.iaload, 1) := by decide +kernel
theorem dX5_about_50 : decode cX5_about 50 = .ok (.ireturn, 1) := by decide +kernel
theorem dX5_about_51 : decode cX5_about 51 = .ok (.aload_n 0, 1) := by decide +kernel
theorem dX5_about_52 : decode cX5_about 52 = .ok (.getfield 20, 3) := by decide +kernel
theorem dX5_about_55 : decode cX5_about 55 = .ok (.iload_n 1, 1) := by decide +kernel
theorem dX5_about_56 : decode cX5_about 56 = .ok (.iaload, 1) := by decide +kernel
theorem dX5_about_57 : decode cX5_about 57 = .ok (.ireturn, 1) := by decide +kernel
theorem dX5_about_58 : decode cX5_about 58 = .ok (.aload_n 0, 1) := by decide +kernel
theorem dX5_about_59 : decode cX5_about 59 = .ok (.getfield 23, 3) := by decide +kernel
theorem dX5_about_62 : decode cX5_about 62 = .ok (.iload_n 1, 1) := by decide +kernel
theorem dX5_about_63 : decode cX5_about 63 = .ok (.iaload, 1) := by decide +kernel
theorem dX5_about_64 : decode cX5_about 64 = .ok (.ireturn, 1) := by decide +kernel
theorem dX5_about_65 : decode cX5_about 65 = .ok (.aload_n 0, 1) := by decide +kernel
theorem dX5_about_66 : decode cX5_about 66 = .ok (.getfield 26, 3) := by decide +kernel
theorem dX5_about_69 : decode cX5_about 69 = .ok (.iload_n 1, 1) := by decide +kernel
theorem dX5_about_70 : decode cX5_about 70 = .ok (.baload, 1) := by decide +kernel
theorem dX5_about_71 : decode cX5_about 71 = .ok (.ifCond .eq 7, 3) := by decide +kernel
theorem dX5_about_74 : decode cX5_about 74 = .ok (.iconst 0, 1) := by decide +kernel
theorem dX5_about_75 : decode cX5_about 75 = .ok (.goto 4, 3) := by decide +kernel
theorem dX5_about_78 : decode cX5_about 78 = .ok (.iconst 1, 1) := by decide +kernel
theorem dX5_about_79 : decode cX5_about 79 = .ok (.ireturn, 1) := by decide +kernel
theorem dX5_about_80 : decode cX5_about 80 = .ok (.aload_n 0, 1) := by decide +kernel
theorem dX5_about_81 : decode cX5_about 81 = .ok (.getfield 26, 3) := by decide +kernel
theorem dX5_about_84 : decode cX5_about 84 = .ok (.iload_n 1, 1) := by decide +kernel
theorem dX5_about_85 : decode cX5_about 85 = .ok (.baload, 1) := by decide +kernel
theorem dX5_about_86 : decode cX5_about 86 = .ok (.ifCond .eq 8, 3) := by decide +kernel
theorem dX5_about_89 : decode cX5_about 89 = .ok (.bipush (-2), 2) := by decide +kernel
theorem dX5_about_91 : decode cX5_about 91 = .ok (.goto 8, 3) := by decide +kernel
theorem dX5_about_94 : decode cX5_about 94 = .ok (.aload_n 0, 1) := by decide +kernel
theorem dX5_about_95 : decode cX5_about 95 = .ok (.iload_n 1, 1) := by decide +kernel
theorem dX5_about_96 : decode cX5_about 96 = .ok (.invokevirtual 114, 3) := by decide +kernel
theorem dX5_about_99 : decode cX5_about 99 = .ok (.ireturn, 1) := by decide +kernel
theorem dX5_about_100 : decode cX5_about 100 = .ok (.iconst (-1), 1) := by decide +kernel
theorem dX5_about_101 : decode cX5_about 101 = .ok (.ireturn, 1) := by decide +kernel
theorem dX5_of_0 : decode cX5_of 0 = .ok (.aload_n 0, 1) := by decide +kernel
theorem dX5_of_1 : decode cX5_of 1 = .ok (.iload_n 1, 1) := by decide +kernel
theorem dX5_of_2 : decode cX5_of 2 = .ok (.invokevirtual 99, 3) := by decide +kernel
theorem dX5_of_5 : decode cX5_of 5 = .ok (.ifCond .ne 5, 3) := by decide +kernel
theorem dX5_of_8 : decode cX5_of 8 = .ok (.iconst (-1), 1) := by decide +kernel
theorem dX5_of_9 : decode cX5_of 9 = .ok (.ireturn, 1) := by decide +kernel
theorem dX5_of_10 : decode cX5_of 10 = .ok (.iconst 0, 1) := by decide +kernel
theorem dX5_of_11 : decode cX5_of 11 = .ok (.istore_n 3, 1) := by decide +kernel
theorem dX5_of_12 : decode cX5_of 12 = .ok (.iconst 0, 1) := by decide +kernel
theorem dX5_of_13 : decode cX5_of 13 = .ok (.istore 4, 2) := by decide +kernel
theorem dX5_of_15 : decode cX5_of 15 = .ok (.iload 4, 2) := by decide +kernel
theorem dX5_of_17 : decode cX5_of 17 = .ok (.aload_n 0, 1) := by decide +kernel
theorem dX5_of_18 : decode cX5_of 18 = .ok (.getfield 92, 3) := by decide +kernel
theorem dX5_of_21 : decode cX5_of 21 = .ok (.if_icmp .ge 39, 3) := by decide +kernel
theorem dX5_of_24 : decode cX5_of 24 = .ok (.iload_n 3, 1) := by decide +kernel
theorem dX5_of_25 : decode cX5_of 25 = .ok (.aload_n 0, 1) := by decide +kernel
theorem dX5_of_26 : decode cX5_of 26 = .ok (.getfield 17, 3) := by decide +kernel
theorem dX5_of_29 : decode cX5_of 29 = .ok (.iload 4, 2) := by decide +kernel
theorem dX5_of_31 : decode cX5_of 31 = .ok (.iaload, 1) := by decide +kernel
theorem dX5_of_32 : decode cX5_of 32 = .ok (.iload_n 1, 1) := by decide +kernel
theorem dX5_of_33 : decode cX5_of 33 = .ok (.if_icmp .eq 14, 3) := by decide +kernel
theorem dX5_of_36 : decode cX5_of 36 = .ok (.aload_n 0, 1) := by decide +kernel
theorem dX5_of_37 : decode cX5_of 37 = .ok (.getfield 20, 3) := by decide +kernel
theorem dX5_of_40 : decode cX5_of 40 = .ok (.iload 4, 2) := by decide +kernel
theorem dX5_of_42 : decode cX5_of 42 = .ok (.iaload, 1) := by decide +kernel
theorem dX5_of_43 : decode cX5_of 43 = .ok (.iload_n 1, 1) := by decide +kernel
theorem dX5_of_44 : decode cX5_of 44 = .ok (.if_icmp .ne 7, 3) := by decide +kernel
theorem dX5_of_47 : decode cX5_of 47 = .ok (.iconst 1, 1) := by decide +kernel
theorem dX5_of_48 : decode cX5_of 48 = .ok (.goto 4, 3) := by decide +kernel
theorem dX5_of_51 : decode cX5_of 51 = .ok (.iconst 0, 1) := by decide +kernel
theorem dX5_of_52 : decode cX5_of 52 = .ok (.iadd, 1) := by decide +kernel
theorem dX5_of_53 : decode cX5_of 53 = .ok (.istore_n 3, 1) := by decide +kernel
theorem dX5_of_54 : decode cX5_of 54 = .ok (.iinc 4 1, 3) := by decide +kernel
theorem dX5_of_57 : decode cX5_of 57 = .ok (.goto (-42), 3) := by decide +kernel
theorem dX5_of_60 : decode cX5_of 60 = .ok (.iload_n 2, 1) := by decide +kernel
theorem dX5_of_61 : decode cX5_of 61 = .ok (.ifCond .ne 12, 3) := by decide +kernel
theorem dX5_of_64 : decode cX5_of 64 = .ok (.aload_n 0, 1) := by decide +kernel
theorem dX5_of_65 : decode cX5_of 65 = .ok (.getfield 7, 3) := by decide +kernel
theorem dX5_of_68 : decode cX5_of 68 = .ok (.iload_n 1, 1) := by decide +kernel
theorem dX5_of_69 : decode cX5_of 69 = .ok (.iaload, 1) := by decide +kernel
theorem dX5_of_70 : decode cX5_of 70 = .ok (.goto 35, 3) := by decide +kernel
theorem dX5_of_73 : decode cX5_of 73 = .ok (.iload_n 2, 1) := by decide +kernel
theorem dX5_of_74 : decode cX5_of 74 = .ok (.iconst 1, 1) := by decide +kernel
theorem dX5_of_75 : decode cX5_of 75 = .ok (.if_icmp .ne 20, 3) := by decide +kernel
theorem dX5_of_78 : decode cX5_of 78 = .ok (.aload_n 0, 1) := by decide +kernel
theorem dX5_of_79 : decode cX5_of 79 = .ok (.getfield 13, 3) := by decide +kernel
theorem dX5_of_82 : decode cX5_of 82 = .ok (.iload_n 1, 1) := by decide +kernel
theorem dX5_of_83 : decode cX5_of 83 = .ok (.baload, 1) := by decide +kernel
theorem dX5_of_84 : decode cX5_of 84 = .ok (.ifCond .eq 7, 3) := by decide +kernel
theorem dX5_of_87 : decode cX5_of 87 = .ok (.iconst 1, 1) := by decide +kernel
theorem dX5_of_88 : decode cX5_of 88 = .ok (.goto 17, 3) := by decide +kernel
theorem dX5_of_91 : decode cX5_of 91 = .ok (.iconst 0, 1) := by decide +kernel
theorem dX5_of_92 : decode cX5_of 92 = .ok (.goto 13, 3) := by decide +kernel
theorem dX5_of_95 : decode cX5_of 95 = .ok (.iload_n 2, 1) := by decide +kernel
theorem dX5_of_96 : decode cX5_of 96 = .ok (.iconst 2, 1) := by decide +kernel
theorem dX5_of_97 : decode cX5_of 97 = .ok (.if_icmp .ne 7, 3) := by decide +kernel
theorem dX5_of_100 : decode cX5_of 100 = .ok (.iload_n 3, 1) := by decide +kernel
theorem dX5_of_101 : decode cX5_of 101 = .ok (.goto 4, 3) := by decide +kernel
theorem dX5_of_104 : decode cX5_of 104 = .ok (.iconst (-1), 1) := by decide +kernel
theorem dX5_of_105 : decode cX5_of 105 = .ok (.ireturn, 1) := by decide +kernel
theorem dX5_ranked_0 : decode cX5_ranked 0 = .ok (.iconst 0, 1) := by decide +kernel
theorem dX5_ranked_1 : decode cX5_ranked 1 = .ok (.istore_n 2, 1) := by decide +kernel
theorem dX5_ranked_2 : decode cX5_ranked 2 = .ok (.iload_n 2, 1) := by decide +kernel
theorem dX5_ranked_3 : decode cX5_ranked 3 = .ok (.aload_n 0, 1) := by decide +kernel
theorem dX5_ranked_4 : decode cX5_ranked 4 = .ok (.getfield 92, 3) := by decide +kernel
theorem dX5_ranked_7 : decode cX5_ranked 7 = .ok (.if_icmp .ge 29, 3) := by decide +kernel
theorem dX5_ranked_10 : decode cX5_ranked 10 = .ok (.aload_n 0, 1) := by decide +kernel
theorem dX5_ranked_11 : decode cX5_ranked 11 = .ok (.getfield 26, 3) := by decide +kernel
theorem dX5_ranked_14 : decode cX5_ranked 14 = .ok (.iload_n 2, 1) := by decide +kernel
theorem dX5_ranked_15 : decode cX5_ranked 15 = .ok (.baload, 1) := by decide +kernel
theorem dX5_ranked_16 : decode cX5_ranked 16 = .ok (.ifCond .ne 14, 3) := by decide +kernel
theorem dX5_ranked_19 : decode cX5_ranked 19 = .ok (.aload_n 0, 1) := by decide +kernel
theorem dX5_ranked_20 : decode cX5_ranked 20 = .ok (.iload_n 2, 1) := by decide +kernel
theorem dX5_ranked_21 : decode cX5_ranked 21 = .ok (.invokevirtual 114, 3) := by decide +kernel
theorem dX5_ranked_24 : decode cX5_ranked 24 = .ok (.iload_n 1, 1) := by decide +kernel
theorem dX5_ranked_25 : decode cX5_ranked 25 = .ok (.if_icmp .ne 5, 3) := by decide +kernel
theorem dX5_ranked_28 : decode cX5_ranked 28 = .ok (.iload_n 2, 1) := by decide +kernel
theorem dX5_ranked_29 : decode cX5_ranked 29 = .ok (.ireturn, 1) := by decide +kernel
theorem dX5_ranked_30 : decode cX5_ranked 30 = .ok (.iinc 2 1, 3) := by decide +kernel
theorem dX5_ranked_33 : decode cX5_ranked 33 = .ok (.goto (-31), 3) := by decide +kernel
theorem dX5_ranked_36 : decode cX5_ranked 36 = .ok (.iconst (-1), 1) := by decide +kernel
theorem dX5_ranked_37 : decode cX5_ranked 37 = .ok (.ireturn, 1) := by decide +kernel
theorem dX5_isCore_0 : decode cX5_isCore 0 = .ok (.iload_n 0, 1) := by decide +kernel
theorem dX5_isCore_1 : decode cX5_isCore 1 = .ok (.ifCond .lt 13, 3) := by decide +kernel
theorem dX5_isCore_4 : decode cX5_isCore 4 = .ok (.iload_n 0, 1) := by decide +kernel
theorem dX5_isCore_5 : decode cX5_isCore 5 = .ok (.bipush 6, 2) := by decide +kernel
theorem dX5_isCore_7 : decode cX5_isCore 7 = .ok (.if_icmp .ge 7, 3) := by decide +kernel
theorem dX5_isCore_10 : decode cX5_isCore 10 = .ok (.iconst 1, 1) := by decide +kernel
theorem dX5_isCore_11 : decode cX5_isCore 11 = .ok (.goto 4, 3) := by decide +kernel
theorem dX5_isCore_14 : decode cX5_isCore 14 = .ok (.iconst 0, 1) := by decide +kernel
theorem dX5_isCore_15 : decode cX5_isCore 15 = .ok (.ireturn, 1) := by decide +kernel
theorem dX5_core_0 : decode cX5_core 0 = .ok (.iload_n 1, 1) := by decide +kernel
theorem dX5_core_1 : decode cX5_core 1 = .ok (.invokestatic 118, 3) := by decide +kernel
theorem dX5_core_4 : decode cX5_core 4 = .ok (.ifCond .eq 12, 3) := by decide +kernel
theorem dX5_core_7 : decode cX5_core 7 = .ok (.iload_n 2, 1) := by decide +kernel
theorem dX5_core_8 : decode cX5_core 8 = .ok (.ifCond .lt 8, 3) := by decide +kernel
theorem dX5_core_11 : decode cX5_core 11 = .ok (.iload_n 2, 1) := by decide +kernel
theorem dX5_core_12 : decode cX5_core 12 = .ok (.iconst 5, 1) := by decide +kernel
theorem dX5_core_13 : decode cX5_core 13 = .ok (.if_icmp .le 5, 3) := by decide +kernel
theorem dX5_core_16 : decode cX5_core 16 = .ok (.iconst (-1), 1) := by decide +kernel
theorem dX5_core_17 : decode cX5_core 17 = .ok (.ireturn, 1) := by decide +kernel
theorem dX5_core_18 : decode cX5_core 18 = .ok (.iload_n 3, 1) := by decide +kernel
theorem dX5_core_19 : decode cX5_core 19 = .ok (.ifCond .ge 6, 3) := by decide +kernel
theorem dX5_core_22 : decode cX5_core 22 = .ok (.bipush (-5), 2) := by decide +kernel
theorem dX5_core_24 : decode cX5_core 24 = .ok (.ireturn, 1) := by decide +kernel
theorem dX5_core_25 : decode cX5_core 25 = .ok (.iload_n 3, 1) := by decide +kernel
theorem dX5_core_26 : decode cX5_core 26 = .ok (.bipush 60, 2) := by decide +kernel
theorem dX5_core_28 : decode cX5_core 28 = .ok (.if_icmp .le 5, 3) := by decide +kernel
theorem dX5_core_31 : decode cX5_core 31 = .ok (.iconst (-1), 1) := by decide +kernel
theorem dX5_core_32 : decode cX5_core 32 = .ok (.ireturn, 1) := by decide +kernel
theorem dX5_core_33 : decode cX5_core 33 = .ok (.aload_n 0, 1) := by decide +kernel
theorem dX5_core_34 : decode cX5_core 34 = .ok (.getfield 29, 3) := by decide +kernel
theorem dX5_core_37 : decode cX5_core 37 = .ok (.iload_n 1, 1) := by decide +kernel
theorem dX5_core_38 : decode cX5_core 38 = .ok (.iload_n 2, 1) := by decide +kernel
theorem dX5_core_39 : decode cX5_core 39 = .ok (.iastore, 1) := by decide +kernel
theorem dX5_core_40 : decode cX5_core 40 = .ok (.aload_n 0, 1) := by decide +kernel
theorem dX5_core_41 : decode cX5_core 41 = .ok (.getfield 32, 3) := by decide +kernel
theorem dX5_core_44 : decode cX5_core 44 = .ok (.iload_n 1, 1) := by decide +kernel
theorem dX5_core_45 : decode cX5_core 45 = .ok (.iload_n 3, 1) := by decide +kernel
theorem dX5_core_46 : decode cX5_core 46 = .ok (.iastore, 1) := by decide +kernel
theorem dX5_core_47 : decode cX5_core 47 = .ok (.iconst 0, 1) := by decide +kernel
theorem dX5_core_48 : decode cX5_core 48 = .ok (.istore 4, 2) := by decide +kernel
theorem dX5_core_50 : decode cX5_core 50 = .ok (.iload 4, 2) := by decide +kernel
theorem dX5_core_52 : decode cX5_core 52 = .ok (.iload_n 3, 1) := by decide +kernel
theorem dX5_core_53 : decode cX5_core 53 = .ok (.if_icmp .ge 35, 3) := by decide +kernel
theorem dX5_core_56 : decode cX5_core 56 = .ok (.aload_n 0, 1) := by decide +kernel
theorem dX5_core_57 : decode cX5_core 57 = .ok (.getfield 35, 3) := by decide +kernel
theorem dX5_core_60 : decode cX5_core 60 = .ok (.bipush 60, 2) := by decide +kernel
theorem dX5_core_62 : decode cX5_core 62 = .ok (.iload_n 1, 1) := by decide +kernel
theorem dX5_core_63 : decode cX5_core 63 = .ok (.imul, 1) := by decide +kernel
theorem dX5_core_64 : decode cX5_core 64 = .ok (.iload 4, 2) := by decide +kernel
theorem dX5_core_66 : decode cX5_core 66 = .ok (.iadd, 1) := by decide +kernel
theorem dX5_core_67 : decode cX5_core 67 = .ok (.lconst 0, 1) := by decide +kernel
theorem dX5_core_68 : decode cX5_core 68 = .ok (.lastore, 1) := by decide +kernel
theorem dX5_core_69 : decode cX5_core 69 = .ok (.aload_n 0, 1) := by decide +kernel
theorem dX5_core_70 : decode cX5_core 70 = .ok (.getfield 39, 3) := by decide +kernel
theorem dX5_core_73 : decode cX5_core 73 = .ok (.bipush 60, 2) := by decide +kernel
theorem dX5_core_75 : decode cX5_core 75 = .ok (.iload_n 1, 1) := by decide +kernel
theorem dX5_core_76 : decode cX5_core 76 = .ok (.imul, 1) := by decide +kernel
theorem dX5_core_77 : decode cX5_core 77 = .ok (.iload 4, 2) := by decide +kernel
theorem dX5_core_79 : decode cX5_core 79 = .ok (.iadd, 1) := by decide +kernel
theorem dX5_core_80 : decode cX5_core 80 = .ok (.dconst 0, 1) := by decide +kernel
theorem dX5_core_81 : decode cX5_core 81 = .ok (.dastore, 1) := by decide +kernel
theorem dX5_core_82 : decode cX5_core 82 = .ok (.iinc 4 1, 3) := by decide +kernel
theorem dX5_core_85 : decode cX5_core 85 = .ok (.goto (-35), 3) := by decide +kernel
theorem dX5_core_88 : decode cX5_core 88 = .ok (.iconst 1, 1) := by decide +kernel
theorem dX5_core_89 : decode cX5_core 89 = .ok (.ireturn, 1) := by decide +kernel
theorem dX5_cell_0 : decode cX5_cell 0 = .ok (.iload_n 1, 1) := by decide +kernel
theorem dX5_cell_1 : decode cX5_cell 1 = .ok (.invokestatic 118, 3) := by decide +kernel
theorem dX5_cell_4 : decode cX5_cell 4 = .ok (.ifCond .eq 15, 3) := by decide +kernel
theorem dX5_cell_7 : decode cX5_cell 7 = .ok (.iload 5, 2) := by decide +kernel
theorem dX5_cell_9 : decode cX5_cell 9 = .ok (.ifCond .lt 10, 3) := by decide +kernel
theorem dX5_cell_12 : decode cX5_cell 12 = .ok (.iload 5, 2) := by decide +kernel
theorem dX5_cell_14 : decode cX5_cell 14 = .ok (.bipush 30, 2) := by decide +kernel
theorem dX5_cell_16 : decode cX5_cell 16 = .ok (.if_icmp .le 5, 3) := by decide +kernel
theorem dX5_cell_19 : decode cX5_cell 19 = .ok (.iconst (-1), 1) := by decide +kernel
theorem dX5_cell_20 : decode cX5_cell 20 = .ok (.ireturn, 1) := by decide +kernel
theorem dX5_cell_21 : decode cX5_cell 21 = .ok (.aload_n 0, 1) := by decide +kernel
theorem dX5_cell_22 : decode cX5_cell 22 = .ok (.getfield 32, 3) := by decide +kernel
theorem dX5_cell_25 : decode cX5_cell 25 = .ok (.iload_n 1, 1) := by decide +kernel
theorem dX5_cell_26 : decode cX5_cell 26 = .ok (.iaload, 1) := by decide +kernel
theorem dX5_cell_27 : decode cX5_cell 27 = .ok (.ifCond .ge 6, 3) := by decide +kernel
theorem dX5_cell_30 : decode cX5_cell 30 = .ok (.bipush (-3), 2) := by decide +kernel
theorem dX5_cell_32 : decode cX5_cell 32 = .ok (.ireturn, 1) := by decide +kernel
theorem dX5_cell_33 : decode cX5_cell 33 = .ok (.iload_n 2, 1) := by decide +kernel
theorem dX5_cell_34 : decode cX5_cell 34 = .ok (.ifCond .lt 13, 3) := by decide +kernel
theorem dX5_cell_37 : decode cX5_cell 37 = .ok (.iload_n 2, 1) := by decide +kernel
theorem dX5_cell_38 : decode cX5_cell 38 = .ok (.aload_n 0, 1) := by decide +kernel
theorem dX5_cell_39 : decode cX5_cell 39 = .ok (.getfield 32, 3) := by decide +kernel
theorem dX5_cell_42 : decode cX5_cell 42 = .ok (.iload_n 1, 1) := by decide +kernel
theorem dX5_cell_43 : decode cX5_cell 43 = .ok (.iaload, 1) := by decide +kernel
theorem dX5_cell_44 : decode cX5_cell 44 = .ok (.if_icmp .lt 5, 3) := by decide +kernel
theorem dX5_cell_47 : decode cX5_cell 47 = .ok (.iconst (-1), 1) := by decide +kernel
theorem dX5_cell_48 : decode cX5_cell 48 = .ok (.ireturn, 1) := by decide +kernel
theorem dX5_cell_49 : decode cX5_cell 49 = .ok (.bipush 60, 2) := by decide +kernel
theorem dX5_cell_51 : decode cX5_cell 51 = .ok (.iload_n 1, 1) := by decide +kernel
theorem dX5_cell_52 : decode cX5_cell 52 = .ok (.imul, 1) := by decide +kernel
theorem dX5_cell_53 : decode cX5_cell 53 = .ok (.iload_n 2, 1) := by decide +kernel
theorem dX5_cell_54 : decode cX5_cell 54 = .ok (.iadd, 1) := by decide +kernel
theorem dX5_cell_55 : decode cX5_cell 55 = .ok (.istore 6, 2) := by decide +kernel
theorem dX5_cell_57 : decode cX5_cell 57 = .ok (.aload_n 0, 1) := by decide +kernel
theorem dX5_cell_58 : decode cX5_cell 58 = .ok (.getfield 29, 3) := by decide +kernel
theorem dX5_cell_61 : decode cX5_cell 61 = .ok (.iload_n 1, 1) := by decide +kernel
theorem dX5_cell_62 : decode cX5_cell 62 = .ok (.iaload, 1) := by decide +kernel
theorem dX5_cell_63 : decode cX5_cell 63 = .ok (.istore 7, 2) := by decide +kernel
theorem dX5_cell_65 : decode cX5_cell 65 = .ok (.aload_n 0, 1) := by decide +kernel
theorem dX5_cell_66 : decode cX5_cell 66 = .ok (.getfield 35, 3) := by decide +kernel
theorem dX5_cell_69 : decode cX5_cell 69 = .ok (.iload 6, 2) := by decide +kernel
theorem dX5_cell_71 : decode cX5_cell 71 = .ok (.iload 7, 2) := by decide +kernel
theorem dX5_cell_73 : decode cX5_cell 73 = .ok (.ifCond .ne 10, 3) := by decide +kernel
theorem dX5_cell_76 : decode cX5_cell 76 = .ok (.lload_n 3, 1) := by decide +kernel
theorem dX5_cell_77 : decode cX5_cell 77 = .ok (.l2i, 1) := by decide +kernel
theorem dX5_cell_78 : decode cX5_cell 78 = .ok (.i2b, 1) := by decide +kernel
theorem dX5_cell_79 : decode cX5_cell 79 = .ok (.i2l, 1) := by decide +kernel
theorem dX5_cell_80 : decode cX5_cell 80 = .ok (.goto 29, 3) := by decide +kernel
theorem dX5_cell_83 : decode cX5_cell 83 = .ok (.iload 7, 2) := by decide +kernel
theorem dX5_cell_85 : decode cX5_cell 85 = .ok (.iconst 1, 1) := by decide +kernel
theorem dX5_cell_86 : decode cX5_cell 86 = .ok (.if_icmp .ne 10, 3) := by decide +kernel
theorem dX5_cell_89 : decode cX5_cell 89 = .ok (.lload_n 3, 1) := by decide +kernel
theorem dX5_cell_90 : decode cX5_cell 90 = .ok (.l2i, 1) := by decide +kernel
theorem dX5_cell_91 : decode cX5_cell 91 = .ok (.i2s, 1) := by decide +kernel
theorem dX5_cell_92 : decode cX5_cell 92 = .ok (.i2l, 1) := by decide +kernel
theorem dX5_cell_93 : decode cX5_cell 93 = .ok (.goto 16, 3) := by decide +kernel
theorem dX5_cell_96 : decode cX5_cell 96 = .ok (.iload 7, 2) := by decide +kernel
theorem dX5_cell_98 : decode cX5_cell 98 = .ok (.iconst 2, 1) := by decide +kernel
theorem dX5_cell_99 : decode cX5_cell 99 = .ok (.if_icmp .ne 9, 3) := by decide +kernel
theorem dX5_cell_102 : decode cX5_cell 102 = .ok (.lload_n 3, 1) := by decide +kernel
theorem dX5_cell_103 : decode cX5_cell 103 = .ok (.l2i, 1) := by decide +kernel
theorem dX5_cell_104 : decode cX5_cell 104 = .ok (.i2l, 1) := by decide +kernel
theorem dX5_cell_105 : decode cX5_cell 105 = .ok (.goto 4, 3) := by decide +kernel
theorem dX5_cell_108 : decode cX5_cell 108 = .ok (.lload_n 3, 1) := by decide +kernel
theorem dX5_cell_109 : decode cX5_cell 109 = .ok (.lastore, 1) := by decide +kernel
theorem dX5_cell_110 : decode cX5_cell 110 = .ok (.aload_n 0, 1) := by decide +kernel
theorem dX5_cell_111 : decode cX5_cell 111 = .ok (.getfield 39, 3) := by decide +kernel
theorem dX5_cell_114 : decode cX5_cell 114 = .ok (.iload 6, 2) := by decide +kernel
theorem dX5_cell_116 : decode cX5_cell 116 = .ok (.iload 7, 2) := by decide +kernel
theorem dX5_cell_118 : decode cX5_cell 118 = .ok (.iconst 4, 1) := by decide +kernel
theorem dX5_cell_119 : decode cX5_cell 119 = .ok (.if_icmp .ne 15, 3) := by decide +kernel
theorem dX5_cell_122 : decode cX5_cell 122 = .ok (.lload_n 3, 1) := by decide +kernel
theorem dX5_cell_123 : decode cX5_cell 123 = .ok (.l2f, 1) := by decide +kernel
theorem dX5_cell_124 : decode cX5_cell 124 = .ok (.iconst 1, 1) := by decide +kernel
theorem dX5_cell_125 : decode cX5_cell 125 = .ok (.iload 5, 2) := by decide +kernel
theorem dX5_cell_127 : decode cX5_cell 127 = .ok (.ishl, 1) := by decide +kernel
theorem dX5_cell_128 : decode cX5_cell 128 = .ok (.i2f, 1) := by decide +kernel
theorem dX5_cell_129 : decode cX5_cell 129 = .ok (.fdiv, 1) := by decide +kernel
theorem dX5_cell_130 : decode cX5_cell 130 = .ok (.f2d, 1) := by decide +kernel
theorem dX5_cell_131 : decode cX5_cell 131 = .ok (.goto 11, 3) := by decide +kernel
theorem dX5_cell_134 : decode cX5_cell 134 = .ok (.lload_n 3, 1) := by decide +kernel
theorem dX5_cell_135 : decode cX5_cell 135 = .ok (.l2d, 1) := by decide +kernel
theorem dX5_cell_136 : decode cX5_cell 136 = .ok (.iconst 1, 1) := by decide +kernel
theorem dX5_cell_137 : decode cX5_cell 137 = .ok (.iload 5, 2) := by decide +kernel
theorem dX5_cell_139 : decode cX5_cell 139 = .ok (.ishl, 1) := by decide +kernel
theorem dX5_cell_140 : decode cX5_cell 140 = .ok (.i2d, 1) := by decide +kernel
theorem dX5_cell_141 : decode cX5_cell 141 = .ok (.ddiv, 1) := by decide +kernel
theorem dX5_cell_142 : decode cX5_cell 142 = .ok (.dastore, 1) := by decide +kernel
theorem dX5_cell_143 : decode cX5_cell 143 = .ok (.iconst 1, 1) := by decide +kernel
theorem dX5_cell_144 : decode cX5_cell 144 = .ok (.ireturn, 1) := by decide +kernel
theorem dX5_wild_0 : decode cX5_wild 0 = .ok (.iload_n 1, 1) := by decide +kernel
theorem dX5_wild_1 : decode cX5_wild 1 = .ok (.invokestatic 118, 3) := by decide +kernel
theorem dX5_wild_4 : decode cX5_wild 4 = .ok (.ifCond .eq 12, 3) := by decide +kernel
theorem dX5_wild_7 : decode cX5_wild 7 = .ok (.iload_n 3, 1) := by decide +kernel
theorem dX5_wild_8 : decode cX5_wild 8 = .ok (.ifCond .lt 8, 3) := by decide +kernel
theorem dX5_wild_11 : decode cX5_wild 11 = .ok (.iload_n 3, 1) := by decide +kernel
theorem dX5_wild_12 : decode cX5_wild 12 = .ok (.iconst 3, 1) := by decide +kernel
theorem dX5_wild_13 : decode cX5_wild 13 = .ok (.if_icmp .le 5, 3) := by decide +kernel
theorem dX5_wild_16 : decode cX5_wild 16 = .ok (.iconst (-1), 1) := by decide +kernel
theorem dX5_wild_17 : decode cX5_wild 17 = .ok (.ireturn, 1) := by decide +kernel
theorem dX5_wild_18 : decode cX5_wild 18 = .ok (.aload_n 0, 1) := by decide +kernel
theorem dX5_wild_19 : decode cX5_wild 19 = .ok (.getfield 32, 3) := by decide +kernel
theorem dX5_wild_22 : decode cX5_wild 22 = .ok (.iload_n 1, 1) := by decide +kernel
theorem dX5_wild_23 : decode cX5_wild 23 = .ok (.iaload, 1) := by decide +kernel
theorem dX5_wild_24 : decode cX5_wild 24 = .ok (.ifCond .ge 6, 3) := by decide +kernel
theorem dX5_wild_27 : decode cX5_wild 27 = .ok (.bipush (-3), 2) := by decide +kernel
theorem dX5_wild_29 : decode cX5_wild 29 = .ok (.ireturn, 1) := by decide +kernel
theorem dX5_wild_30 : decode cX5_wild 30 = .ok (.aload_n 0, 1) := by decide +kernel
theorem dX5_wild_31 : decode cX5_wild 31 = .ok (.getfield 29, 3) := by decide +kernel
theorem dX5_wild_34 : decode cX5_wild 34 = .ok (.iload_n 1, 1) := by decide +kernel
theorem dX5_wild_35 : decode cX5_wild 35 = .ok (.iaload, 1) := by decide +kernel
theorem dX5_wild_36 : decode cX5_wild 36 = .ok (.iconst 4, 1) := by decide +kernel
theorem dX5_wild_37 : decode cX5_wild 37 = .ok (.if_icmp .ge 6, 3) := by decide +kernel
theorem dX5_wild_40 : decode cX5_wild 40 = .ok (.bipush (-4), 2) := by decide +kernel
theorem dX5_wild_42 : decode cX5_wild 42 = .ok (.ireturn, 1) := by decide +kernel
theorem dX5_wild_43 : decode cX5_wild 43 = .ok (.iload_n 2, 1) := by decide +kernel
theorem dX5_wild_44 : decode cX5_wild 44 = .ok (.ifCond .lt 13, 3) := by decide +kernel
theorem dX5_wild_47 : decode cX5_wild 47 = .ok (.iload_n 2, 1) := by decide +kernel
theorem dX5_wild_48 : decode cX5_wild 48 = .ok (.aload_n 0, 1) := by decide +kernel
theorem dX5_wild_49 : decode cX5_wild 49 = .ok (.getfield 32, 3) := by decide +kernel
theorem dX5_wild_52 : decode cX5_wild 52 = .ok (.iload_n 1, 1) := by decide +kernel
theorem dX5_wild_53 : decode cX5_wild 53 = .ok (.iaload, 1) := by decide +kernel
theorem dX5_wild_54 : decode cX5_wild 54 = .ok (.if_icmp .lt 5, 3) := by decide +kernel
theorem dX5_wild_57 : decode cX5_wild 57 = .ok (.iconst (-1), 1) := by decide +kernel
theorem dX5_wild_58 : decode cX5_wild 58 = .ok (.ireturn, 1) := by decide +kernel
theorem dX5_wild_59 : decode cX5_wild 59 = .ok (.aload_n 0, 1) := by decide +kernel
theorem dX5_wild_60 : decode cX5_wild 60 = .ok (.getfield 39, 3) := by decide +kernel
theorem dX5_wild_63 : decode cX5_wild 63 = .ok (.bipush 60, 2) := by decide +kernel
theorem dX5_wild_65 : decode cX5_wild 65 = .ok (.iload_n 1, 1) := by decide +kernel
theorem dX5_wild_66 : decode cX5_wild 66 = .ok (.imul, 1) := by decide +kernel
theorem dX5_wild_67 : decode cX5_wild 67 = .ok (.iload_n 2, 1) := by decide +kernel
theorem dX5_wild_68 : decode cX5_wild 68 = .ok (.iadd, 1) := by decide +kernel
theorem dX5_wild_69 : decode cX5_wild 69 = .ok (.iload_n 3, 1) := by decide +kernel
theorem dX5_wild_70 : decode cX5_wild 70 = .ok (.ifCond .ne 9, 3) := by decide +kernel
theorem dX5_wild_73 : decode cX5_wild 73 = .ok (.ldc2_w 123, 3) := by decide +kernel
theorem dX5_wild_76 : decode cX5_wild 76 = .ok (.goto 28, 3) := by decide +kernel
theorem dX5_wild_79 : decode cX5_wild 79 = .ok (.iload_n 3, 1) := by decide +kernel
theorem dX5_wild_80 : decode cX5_wild 80 = .ok (.iconst 1, 1) := by decide +kernel
theorem dX5_wild_81 : decode cX5_wild 81 = .ok (.if_icmp .ne 9, 3) := by decide +kernel
theorem dX5_wild_84 : decode cX5_wild 84 = .ok (.ldc2_w 125, 3) := by decide +kernel
theorem dX5_wild_87 : decode cX5_wild 87 = .ok (.goto 17, 3) := by decide +kernel
theorem dX5_wild_90 : decode cX5_wild 90 = .ok (.iload_n 3, 1) := by decide +kernel
theorem dX5_wild_91 : decode cX5_wild 91 = .ok (.iconst 2, 1) := by decide +kernel
theorem dX5_wild_92 : decode cX5_wild 92 = .ok (.if_icmp .ne 9, 3) := by decide +kernel
theorem dX5_wild_95 : decode cX5_wild 95 = .ok (.ldc2_w 127, 3) := by decide +kernel
theorem dX5_wild_98 : decode cX5_wild 98 = .ok (.goto 6, 3) := by decide +kernel
theorem dX5_wild_101 : decode cX5_wild 101 = .ok (.ldc2_w 129, 3) := by decide +kernel
theorem dX5_wild_104 : decode cX5_wild 104 = .ok (.dastore, 1) := by decide +kernel
theorem dX5_wild_105 : decode cX5_wild 105 = .ok (.iconst 1, 1) := by decide +kernel
theorem dX5_wild_106 : decode cX5_wild 106 = .ok (.ireturn, 1) := by decide +kernel
theorem dX5_hasRow_0 : decode cX5_hasRow 0 = .ok (.iload_n 3, 1) := by decide +kernel
theorem dX5_hasRow_1 : decode cX5_hasRow 1 = .ok (.ifCond .lt 33, 3) := by decide +kernel
theorem dX5_hasRow_4 : decode cX5_hasRow 4 = .ok (.iload_n 2, 1) := by decide +kernel
theorem dX5_hasRow_5 : decode cX5_hasRow 5 = .ok (.ifCond .lt 29, 3) := by decide +kernel
theorem dX5_hasRow_8 : decode cX5_hasRow 8 = .ok (.iload_n 3, 1) := by decide +kernel
theorem dX5_hasRow_9 : decode cX5_hasRow 9 = .ok (.aload_n 0, 1) := by decide +kernel
theorem dX5_hasRow_10 : decode cX5_hasRow 10 = .ok (.getfield 32, 3) := by decide +kernel
theorem dX5_hasRow_13 : decode cX5_hasRow 13 = .ok (.iload_n 1, 1) := by decide +kernel
theorem dX5_hasRow_14 : decode cX5_hasRow 14 = .ok (.iaload, 1) := by decide +kernel
theorem dX5_hasRow_15 : decode cX5_hasRow 15 = .ok (.if_icmp .gt 19, 3) := by decide +kernel
theorem dX5_hasRow_18 : decode cX5_hasRow 18 = .ok (.iload_n 2, 1) := by decide +kernel
theorem dX5_hasRow_19 : decode cX5_hasRow 19 = .ok (.aload_n 0, 1) := by decide +kernel
theorem dX5_hasRow_20 : decode cX5_hasRow 20 = .ok (.getfield 32, 3) := by decide +kernel
theorem dX5_hasRow_23 : decode cX5_hasRow 23 = .ok (.iload_n 1, 1) := by decide +kernel
theorem dX5_hasRow_24 : decode cX5_hasRow 24 = .ok (.iaload, 1) := by decide +kernel
theorem dX5_hasRow_25 : decode cX5_hasRow 25 = .ok (.iload_n 3, 1) := by decide +kernel
theorem dX5_hasRow_26 : decode cX5_hasRow 26 = .ok (.isub, 1) := by decide +kernel
theorem dX5_hasRow_27 : decode cX5_hasRow 27 = .ok (.if_icmp .gt 7, 3) := by decide +kernel
theorem dX5_hasRow_30 : decode cX5_hasRow 30 = .ok (.iconst 1, 1) := by decide +kernel
theorem dX5_hasRow_31 : decode cX5_hasRow 31 = .ok (.goto 4, 3) := by decide +kernel
theorem dX5_hasRow_34 : decode cX5_hasRow 34 = .ok (.iconst 0, 1) := by decide +kernel
theorem dX5_hasRow_35 : decode cX5_hasRow 35 = .ok (.ireturn, 1) := by decide +kernel
theorem dX5_splice_0 : decode cX5_splice 0 = .ok (.iload_n 1, 1) := by decide +kernel
theorem dX5_splice_1 : decode cX5_splice 1 = .ok (.invokestatic 118, 3) := by decide +kernel
theorem dX5_splice_4 : decode cX5_splice 4 = .ok (.ifCond .eq 10, 3) := by decide +kernel
theorem dX5_splice_7 : decode cX5_splice 7 = .ok (.iload_n 3, 1) := by decide +kernel
theorem dX5_splice_8 : decode cX5_splice 8 = .ok (.invokestatic 118, 3) := by decide +kernel
theorem dX5_splice_11 : decode cX5_splice 11 = .ok (.ifCond .ne 5, 3) := by decide +kernel
theorem dX5_splice_14 : decode cX5_splice 14 = .ok (.iconst (-1), 1) := by decide +kernel
theorem dX5_splice_15 : decode cX5_splice 15 = .ok (.ireturn, 1) := by decide +kernel
theorem dX5_splice_16 : decode cX5_splice 16 = .ok (.aload_n 0, 1) := by decide +kernel
theorem dX5_splice_17 : decode cX5_splice 17 = .ok (.getfield 32, 3) := by decide +kernel
theorem dX5_splice_20 : decode cX5_splice 20 = .ok (.iload_n 1, 1) := by decide +kernel
theorem dX5_splice_21 : decode cX5_splice 21 = .ok (.iaload, 1) := by decide +kernel
theorem dX5_splice_22 : decode cX5_splice 22 = .ok (.ifCond .lt 12, 3) := by decide +kernel
theorem dX5_splice_25 : decode cX5_splice 25 = .ok (.aload_n 0, 1) := by decide +kernel
theorem dX5_splice_26 : decode cX5_splice 26 = .ok (.getfield 32, 3) := by decide +kernel
theorem dX5_splice_29 : decode cX5_splice 29 = .ok (.iload_n 3, 1) := by decide +kernel
theorem dX5_splice_30 : decode cX5_splice 30 = .ok (.iaload, 1) := by decide +kernel
theorem dX5_splice_31 : decode cX5_splice 31 = .ok (.ifCond .ge 6, 3) := by decide +kernel
theorem dX5_splice_34 : decode cX5_splice 34 = .ok (.bipush (-3), 2) := by decide +kernel
theorem dX5_splice_36 : decode cX5_splice 36 = .ok (.ireturn, 1) := by decide +kernel
theorem dX5_splice_37 : decode cX5_splice 37 = .ok (.aload_n 0, 1) := by decide +kernel
theorem dX5_splice_38 : decode cX5_splice 38 = .ok (.getfield 29, 3) := by decide +kernel
theorem dX5_splice_41 : decode cX5_splice 41 = .ok (.iload_n 1, 1) := by decide +kernel
theorem dX5_splice_42 : decode cX5_splice 42 = .ok (.iaload, 1) := by decide +kernel
theorem dX5_splice_43 : decode cX5_splice 43 = .ok (.aload_n 0, 1) := by decide +kernel
theorem dX5_splice_44 : decode cX5_splice 44 = .ok (.getfield 29, 3) := by decide +kernel
theorem dX5_splice_47 : decode cX5_splice 47 = .ok (.iload_n 3, 1) := by decide +kernel
theorem dX5_splice_48 : decode cX5_splice 48 = .ok (.iaload, 1) := by decide +kernel
theorem dX5_splice_49 : decode cX5_splice 49 = .ok (.if_icmp .eq 6, 3) := by decide +kernel
theorem dX5_splice_52 : decode cX5_splice 52 = .ok (.bipush (-4), 2) := by decide +kernel
theorem dX5_splice_54 : decode cX5_splice 54 = .ok (.ireturn, 1) := by decide +kernel
theorem dX5_splice_55 : decode cX5_splice 55 = .ok (.aload_n 0, 1) := by decide +kernel
theorem dX5_splice_56 : decode cX5_splice 56 = .ok (.iload_n 1, 1) := by decide +kernel
theorem dX5_splice_57 : decode cX5_splice 57 = .ok (.iload_n 2, 1) := by decide +kernel
theorem dX5_splice_58 : decode cX5_splice 58 = .ok (.iload 5, 2) := by decide +kernel
theorem dX5_splice_60 : decode cX5_splice 60 = .ok (.invokevirtual 131, 3) := by decide +kernel
theorem dX5_splice_63 : decode cX5_splice 63 = .ok (.ifCond .eq 15, 3) := by decide +kernel
theorem dX5_splice_66 : decode cX5_splice 66 = .ok (.aload_n 0, 1) := by decide +kernel
theorem dX5_splice_67 : decode cX5_splice 67 = .ok (.iload_n 3, 1) := by decide +kernel
theorem dX5_splice_68 : decode cX5_splice 68 = .ok (.iload 4, 2) := by decide +kernel
theorem dX5_splice_70 : decode cX5_splice 70 = .ok (.iload 5, 2) := by decide +kernel
theorem dX5_splice_72 : decode cX5_splice 72 = .ok (.invokevirtual 131, 3) := by decide +kernel
theorem dX5_splice_75 : decode cX5_splice 75 = .ok (.ifCond .ne 5, 3) := by decide +kernel
theorem dX5_splice_78 : decode cX5_splice 78 = .ok (.iconst (-1), 1) := by decide +kernel
theorem dX5_splice_79 : decode cX5_splice 79 = .ok (.ireturn, 1) := by decide +kernel
theorem dX5_splice_80 : decode cX5_splice 80 = .ok (.iconst 0, 1) := by decide +kernel
theorem dX5_splice_81 : decode cX5_splice 81 = .ok (.istore 6, 2) := by decide +kernel
theorem dX5_splice_83 : decode cX5_splice 83 = .ok (.iload 6, 2) := by decide +kernel
theorem dX5_splice_85 : decode cX5_splice 85 = .ok (.iload 5, 2) := by decide +kernel
theorem dX5_splice_87 : decode cX5_splice 87 = .ok (.if_icmp .ge 53, 3) := by decide +kernel
theorem dX5_splice_90 : decode cX5_splice 90 = .ok (.aload_n 0, 1) := by decide +kernel
theorem dX5_splice_91 : decode cX5_splice 91 = .ok (.getfield 58, 3) := by decide +kernel
theorem dX5_splice_94 : decode cX5_splice 94 = .ok (.iload 6, 2) := by decide +kernel
theorem dX5_splice_96 : decode cX5_splice 96 = .ok (.aload_n 0, 1) := by decide +kernel
theorem dX5_splice_97 : decode cX5_splice 97 = .ok (.getfield 35, 3) := by decide +kernel
theorem dX5_splice_100 : decode cX5_splice 100 = .ok (.bipush 60, 2) := by decide +kernel
theorem dX5_splice_102 : decode cX5_splice 102 = .ok (.iload_n 3, 1) := by decide +kernel
theorem dX5_splice_103 : decode cX5_splice 103 = .ok (.imul, 1) := by decide +kernel
theorem dX5_splice_104 : decode cX5_splice 104 = .ok (.iload 4, 2) := by decide +kernel
theorem dX5_splice_106 : decode cX5_splice 106 = .ok (.iadd, 1) := by decide +kernel
theorem dX5_splice_107 : decode cX5_splice 107 = .ok (.iload 6, 2) := by decide +kernel
theorem dX5_splice_109 : decode cX5_splice 109 = .ok (.iadd, 1) := by decide +kernel
theorem dX5_splice_110 : decode cX5_splice 110 = .ok (.laload, 1) := by decide +kernel
theorem dX5_splice_111 : decode cX5_splice 111 = .ok (.lastore, 1) := by decide +kernel
theorem dX5_splice_112 : decode cX5_splice 112 = .ok (.aload_n 0, 1) := by decide +kernel
theorem dX5_splice_113 : decode cX5_splice 113 = .ok (.getfield 61, 3) := by decide +kernel
theorem dX5_splice_116 : decode cX5_splice 116 = .ok (.iload 6, 2) := by decide +kernel
theorem dX5_splice_118 : decode cX5_splice 118 = .ok (.aload_n 0, 1) := by decide +kernel
theorem dX5_splice_119 : decode cX5_splice 119 = .ok (.getfield 39, 3) := by decide +kernel
theorem dX5_splice_122 : decode cX5_splice 122 = .ok (.bipush 60, 2) := by decide +kernel
theorem dX5_splice_124 : decode cX5_splice 124 = .ok (.iload_n 3, 1) := by decide +kernel
theorem dX5_splice_125 : decode cX5_splice 125 = .ok (.imul, 1) := by decide +kernel
theorem dX5_splice_126 : decode cX5_splice 126 = .ok (.iload 4, 2) := by decide +kernel
theorem dX5_splice_128 : decode cX5_splice 128 = .ok (.iadd, 1) := by decide +kernel
theorem dX5_splice_129 : decode cX5_splice 129 = .ok (.iload 6, 2) := by decide +kernel
theorem dX5_splice_131 : decode cX5_splice 131 = .ok (.iadd, 1) := by decide +kernel
theorem dX5_splice_132 : decode cX5_splice 132 = .ok (.daload, 1) := by decide +kernel
theorem dX5_splice_133 : decode cX5_splice 133 = .ok (.dastore, 1) := by decide +kernel
theorem dX5_splice_134 : decode cX5_splice 134 = .ok (.iinc 6 1, 3) := by decide +kernel
theorem dX5_splice_137 : decode cX5_splice 137 = .ok (.goto (-54), 3) := by decide +kernel
theorem dX5_splice_140 : decode cX5_splice 140 = .ok (.iconst 0, 1) := by decide +kernel
theorem dX5_splice_141 : decode cX5_splice 141 = .ok (.istore 6, 2) := by decide +kernel
theorem dX5_splice_143 : decode cX5_splice 143 = .ok (.iload 6, 2) := by decide +kernel
theorem dX5_splice_145 : decode cX5_splice 145 = .ok (.iload 5, 2) := by decide +kernel
theorem dX5_splice_147 : decode cX5_splice 147 = .ok (.if_icmp .ge 51, 3) := by decide +kernel
theorem dX5_splice_150 : decode cX5_splice 150 = .ok (.aload_n 0, 1) := by decide +kernel
theorem dX5_splice_151 : decode cX5_splice 151 = .ok (.getfield 35, 3) := by decide +kernel
theorem dX5_splice_154 : decode cX5_splice 154 = .ok (.bipush 60, 2) := by decide +kernel
theorem dX5_splice_156 : decode cX5_splice 156 = .ok (.iload_n 1, 1) := by decide +kernel
theorem dX5_splice_157 : decode cX5_splice 157 = .ok (.imul, 1) := by decide +kernel
theorem dX5_splice_158 : decode cX5_splice 158 = .ok (.iload_n 2, 1) := by decide +kernel
theorem dX5_splice_159 : decode cX5_splice 159 = .ok (.iadd, 1) := by decide +kernel
theorem dX5_splice_160 : decode cX5_splice 160 = .ok (.iload 6, 2) := by decide +kernel
theorem dX5_splice_162 : decode cX5_splice 162 = .ok (.iadd, 1) := by decide +kernel
theorem dX5_splice_163 : decode cX5_splice 163 = .ok (.aload_n 0, 1) := by decide +kernel
theorem dX5_splice_164 : decode cX5_splice 164 = .ok (.getfield 58, 3) := by decide +kernel
theorem dX5_splice_167 : decode cX5_splice 167 = .ok (.iload 6, 2) := by decide +kernel
theorem dX5_splice_169 : decode cX5_splice 169 = .ok (.laload, 1) := by decide +kernel
theorem dX5_splice_170 : decode cX5_splice 170 = .ok (.lastore, 1) := by decide +kernel
theorem dX5_splice_171 : decode cX5_splice 171 = .ok (.aload_n 0, 1) := by decide +kernel
theorem dX5_splice_172 : decode cX5_splice 172 = .ok (.getfield 39, 3) := by decide +kernel
theorem dX5_splice_175 : decode cX5_splice 175 = .ok (.bipush 60, 2) := by decide +kernel
theorem dX5_splice_177 : decode cX5_splice 177 = .ok (.iload_n 1, 1) := by decide +kernel
theorem dX5_splice_178 : decode cX5_splice 178 = .ok (.imul, 1) := by decide +kernel
theorem dX5_splice_179 : decode cX5_splice 179 = .ok (.iload_n 2, 1) := by decide +kernel
theorem dX5_splice_180 : decode cX5_splice 180 = .ok (.iadd, 1) := by decide +kernel
theorem dX5_splice_181 : decode cX5_splice 181 = .ok (.iload 6, 2) := by decide +kernel
theorem dX5_splice_183 : decode cX5_splice 183 = .ok (.iadd, 1) := by decide +kernel
theorem dX5_splice_184 : decode cX5_splice 184 = .ok (.aload_n 0, 1) := by decide +kernel
theorem dX5_splice_185 : decode cX5_splice 185 = .ok (.getfield 61, 3) := by decide +kernel
theorem dX5_splice_188 : decode cX5_splice 188 = .ok (.iload 6, 2) := by decide +kernel
theorem dX5_splice_190 : decode cX5_splice 190 = .ok (.daload, 1) := by decide +kernel
theorem dX5_splice_191 : decode cX5_splice 191 = .ok (.dastore, 1) := by decide +kernel
theorem dX5_splice_192 : decode cX5_splice 192 = .ok (.iinc 6 1, 3) := by decide +kernel
theorem dX5_splice_195 : decode cX5_splice 195 = .ok (.goto (-52), 3) := by decide +kernel
theorem dX5_splice_198 : decode cX5_splice 198 = .ok (.iconst 1, 1) := by decide +kernel
theorem dX5_splice_199 : decode cX5_splice 199 = .ok (.ireturn, 1) := by decide +kernel
theorem dX5_lose_0 : decode cX5_lose 0 = .ok (.iload_n 1, 1) := by decide +kernel
theorem dX5_lose_1 : decode cX5_lose 1 = .ok (.invokestatic 118, 3) := by decide +kernel
theorem dX5_lose_4 : decode cX5_lose 4 = .ok (.ifCond .ne 5, 3) := by decide +kernel
theorem dX5_lose_7 : decode cX5_lose 7 = .ok (.iconst (-1), 1) := by decide +kernel
theorem dX5_lose_8 : decode cX5_lose 8 = .ok (.ireturn, 1) := by decide +kernel
theorem dX5_lose_9 : decode cX5_lose 9 = .ok (.aload_n 0, 1) := by decide +kernel
theorem dX5_lose_10 : decode cX5_lose 10 = .ok (.getfield 32, 3) := by decide +kernel
theorem dX5_lose_13 : decode cX5_lose 13 = .ok (.iload_n 1, 1) := by decide +kernel
theorem dX5_lose_14 : decode cX5_lose 14 = .ok (.iaload, 1) := by decide +kernel
theorem dX5_lose_15 : decode cX5_lose 15 = .ok (.ifCond .ge 6, 3) := by decide +kernel
theorem dX5_lose_18 : decode cX5_lose 18 = .ok (.bipush (-3), 2) := by decide +kernel
theorem dX5_lose_20 : decode cX5_lose 20 = .ok (.ireturn, 1) := by decide +kernel
theorem dX5_lose_21 : decode cX5_lose 21 = .ok (.aload_n 0, 1) := by decide +kernel
theorem dX5_lose_22 : decode cX5_lose 22 = .ok (.getfield 32, 3) := by decide +kernel
theorem dX5_lose_25 : decode cX5_lose 25 = .ok (.iload_n 1, 1) := by decide +kernel
theorem dX5_lose_26 : decode cX5_lose 26 = .ok (.iconst (-1), 1) := by decide +kernel
theorem dX5_lose_27 : decode cX5_lose 27 = .ok (.iastore, 1) := by decide +kernel
theorem dX5_lose_28 : decode cX5_lose 28 = .ok (.iconst 1, 1) := by decide +kernel
theorem dX5_lose_29 : decode cX5_lose 29 = .ok (.ireturn, 1) := by decide +kernel
theorem dX5_wholeOf_0 : decode cX5_wholeOf 0 = .ok (.bipush 60, 2) := by decide +kernel
theorem dX5_wholeOf_2 : decode cX5_wholeOf 2 = .ok (.iload_n 1, 1) := by decide +kernel
theorem dX5_wholeOf_3 : decode cX5_wholeOf 3 = .ok (.imul, 1) := by decide +kernel
theorem dX5_wholeOf_4 : decode cX5_wholeOf 4 = .ok (.iload_n 2, 1) := by decide +kernel
theorem dX5_wholeOf_5 : decode cX5_wholeOf 5 = .ok (.iadd, 1) := by decide +kernel
theorem dX5_wholeOf_6 : decode cX5_wholeOf 6 = .ok (.istore_n 3, 1) := by decide +kernel
theorem dX5_wholeOf_7 : decode cX5_wholeOf 7 = .ok (.aload_n 0, 1) := by decide +kernel
theorem dX5_wholeOf_8 : decode cX5_wholeOf 8 = .ok (.getfield 29, 3) := by decide +kernel
theorem dX5_wholeOf_11 : decode cX5_wholeOf 11 = .ok (.iload_n 1, 1) := by decide +kernel
theorem dX5_wholeOf_12 : decode cX5_wholeOf 12 = .ok (.iaload, 1) := by decide +kernel
theorem dX5_wholeOf_13 : decode cX5_wholeOf 13 = .ok (.iconst 4, 1) := by decide +kernel
theorem dX5_wholeOf_14 : decode cX5_wholeOf 14 = .ok (.if_icmp .ge 12, 3) := by decide +kernel
theorem dX5_wholeOf_17 : decode cX5_wholeOf 17 = .ok (.aload_n 0, 1) := by decide +kernel
theorem dX5_wholeOf_18 : decode cX5_wholeOf 18 = .ok (.getfield 35, 3) := by decide +kernel
theorem dX5_wholeOf_21 : decode cX5_wholeOf 21 = .ok (.iload_n 3, 1) := by decide +kernel
theorem dX5_wholeOf_22 : decode cX5_wholeOf 22 = .ok (.laload, 1) := by decide +kernel
theorem dX5_wholeOf_23 : decode cX5_wholeOf 23 = .ok (.goto 10, 3) := by decide +kernel
theorem dX5_wholeOf_26 : decode cX5_wholeOf 26 = .ok (.aload_n 0, 1) := by decide +kernel
theorem dX5_wholeOf_27 : decode cX5_wholeOf 27 = .ok (.getfield 39, 3) := by decide +kernel
theorem dX5_wholeOf_30 : decode cX5_wholeOf 30 = .ok (.iload_n 3, 1) := by decide +kernel
theorem dX5_wholeOf_31 : decode cX5_wholeOf 31 = .ok (.daload, 1) := by decide +kernel
theorem dX5_wholeOf_32 : decode cX5_wholeOf 32 = .ok (.d2l, 1) := by decide +kernel
theorem dX5_wholeOf_33 : decode cX5_wholeOf 33 = .ok (.lreturn, 1) := by decide +kernel
theorem dX5_told_0 : decode cX5_told 0 = .ok (.iload_n 1, 1) := by decide +kernel
theorem dX5_told_1 : decode cX5_told 1 = .ok (.invokestatic 118, 3) := by decide +kernel
theorem dX5_told_4 : decode cX5_told 4 = .ok (.ifCond .eq 17, 3) := by decide +kernel
theorem dX5_told_7 : decode cX5_told 7 = .ok (.iload_n 2, 1) := by decide +kernel
theorem dX5_told_8 : decode cX5_told 8 = .ok (.ifCond .lt 13, 3) := by decide +kernel
theorem dX5_told_11 : decode cX5_told 11 = .ok (.iload_n 2, 1) := by decide +kernel
theorem dX5_told_12 : decode cX5_told 12 = .ok (.aload_n 0, 1) := by decide +kernel
theorem dX5_told_13 : decode cX5_told 13 = .ok (.getfield 32, 3) := by decide +kernel
theorem dX5_told_16 : decode cX5_told 16 = .ok (.iload_n 1, 1) := by decide +kernel
theorem dX5_told_17 : decode cX5_told 17 = .ok (.iaload, 1) := by decide +kernel
theorem dX5_told_18 : decode cX5_told 18 = .ok (.if_icmp .lt 9, 3) := by decide +kernel
theorem dX5_told_21 : decode cX5_told 21 = .ok (.ldc2_w 135, 3) := by decide +kernel
theorem dX5_told_24 : decode cX5_told 24 = .ok (.goto 9, 3) := by decide +kernel
theorem dX5_told_27 : decode cX5_told 27 = .ok (.aload_n 0, 1) := by decide +kernel
theorem dX5_told_28 : decode cX5_told 28 = .ok (.iload_n 1, 1) := by decide +kernel
theorem dX5_told_29 : decode cX5_told 29 = .ok (.iload_n 2, 1) := by decide +kernel
theorem dX5_told_30 : decode cX5_told 30 = .ok (.invokevirtual 137, 3) := by decide +kernel
theorem dX5_told_33 : decode cX5_told 33 = .ok (.lreturn, 1) := by decide +kernel
theorem dX5_pour_0 : decode cX5_pour 0 = .ok (.iload_n 1, 1) := by decide +kernel
theorem dX5_pour_1 : decode cX5_pour 1 = .ok (.invokestatic 118, 3) := by decide +kernel
theorem dX5_pour_4 : decode cX5_pour 4 = .ok (.ifCond .ne 5, 3) := by decide +kernel
theorem dX5_pour_7 : decode cX5_pour 7 = .ok (.iconst (-1), 1) := by decide +kernel
theorem dX5_pour_8 : decode cX5_pour 8 = .ok (.ireturn, 1) := by decide +kernel
theorem dX5_pour_9 : decode cX5_pour 9 = .ok (.aload_n 0, 1) := by decide +kernel
theorem dX5_pour_10 : decode cX5_pour 10 = .ok (.getfield 32, 3) := by decide +kernel
theorem dX5_pour_13 : decode cX5_pour 13 = .ok (.iload_n 1, 1) := by decide +kernel
theorem dX5_pour_14 : decode cX5_pour 14 = .ok (.iaload, 1) := by decide +kernel
theorem dX5_pour_15 : decode cX5_pour 15 = .ok (.ifCond .ge 6, 3) := by decide +kernel
theorem dX5_pour_18 : decode cX5_pour 18 = .ok (.bipush (-3), 2) := by decide +kernel
theorem dX5_pour_20 : decode cX5_pour 20 = .ok (.ireturn, 1) := by decide +kernel
theorem dX5_pour_21 : decode cX5_pour 21 = .ok (.aload_n 0, 1) := by decide +kernel
theorem dX5_pour_22 : decode cX5_pour 22 = .ok (.iload_n 1, 1) := by decide +kernel
theorem dX5_pour_23 : decode cX5_pour 23 = .ok (.iload_n 2, 1) := by decide +kernel
theorem dX5_pour_24 : decode cX5_pour 24 = .ok (.iload_n 3, 1) := by decide +kernel
theorem dX5_pour_25 : decode cX5_pour 25 = .ok (.invokevirtual 131, 3) := by decide +kernel
theorem dX5_pour_28 : decode cX5_pour 28 = .ok (.ifCond .eq 27, 3) := by decide +kernel
theorem dX5_pour_31 : decode cX5_pour 31 = .ok (.iload 4, 2) := by decide +kernel
theorem dX5_pour_33 : decode cX5_pour 33 = .ok (.ifCond .lt 22, 3) := by decide +kernel
theorem dX5_pour_36 : decode cX5_pour 36 = .ok (.iload_n 3, 1) := by decide +kernel
theorem dX5_pour_37 : decode cX5_pour 37 = .ok (.aload_n 0, 1) := by decide +kernel
theorem dX5_pour_38 : decode cX5_pour 38 = .ok (.getfield 92, 3) := by decide +kernel
theorem dX5_pour_41 : decode cX5_pour 41 = .ok (.if_icmp .gt 14, 3) := by decide +kernel
theorem dX5_pour_44 : decode cX5_pour 44 = .ok (.iload 4, 2) := by decide +kernel
theorem dX5_pour_46 : decode cX5_pour 46 = .ok (.aload_n 0, 1) := by decide +kernel
theorem dX5_pour_47 : decode cX5_pour 47 = .ok (.getfield 92, 3) := by decide +kernel
theorem dX5_pour_50 : decode cX5_pour 50 = .ok (.iload_n 3, 1) := by decide +kernel
theorem dX5_pour_51 : decode cX5_pour 51 = .ok (.isub, 1) := by decide +kernel
theorem dX5_pour_52 : decode cX5_pour 52 = .ok (.if_icmp .le 5, 3) := by decide +kernel
theorem dX5_pour_55 : decode cX5_pour 55 = .ok (.iconst (-1), 1) := by decide +kernel
theorem dX5_pour_56 : decode cX5_pour 56 = .ok (.ireturn, 1) := by decide +kernel
theorem dX5_pour_57 : decode cX5_pour 57 = .ok (.iconst 0, 1) := by decide +kernel
theorem dX5_pour_58 : decode cX5_pour 58 = .ok (.istore 5, 2) := by decide +kernel
theorem dX5_pour_60 : decode cX5_pour 60 = .ok (.iload 5, 2) := by decide +kernel
theorem dX5_pour_62 : decode cX5_pour 62 = .ok (.iload_n 3, 1) := by decide +kernel
theorem dX5_pour_63 : decode cX5_pour 63 = .ok (.if_icmp .ge 140, 3) := by decide +kernel
theorem dX5_pour_66 : decode cX5_pour 66 = .ok (.aload_n 0, 1) := by decide +kernel
theorem dX5_pour_67 : decode cX5_pour 67 = .ok (.iload_n 1, 1) := by decide +kernel
theorem dX5_pour_68 : decode cX5_pour 68 = .ok (.iload_n 2, 1) := by decide +kernel
theorem dX5_pour_69 : decode cX5_pour 69 = .ok (.iload 5, 2) := by decide +kernel
theorem dX5_pour_71 : decode cX5_pour 71 = .ok (.iadd, 1) := by decide +kernel
theorem dX5_pour_72 : decode cX5_pour 72 = .ok (.invokevirtual 137, 3) := by decide +kernel
theorem dX5_pour_75 : decode cX5_pour 75 = .ok (.lstore 6, 2) := by decide +kernel
theorem dX5_pour_77 : decode cX5_pour 77 = .ok (.aload_n 0, 1) := by decide +kernel
theorem dX5_pour_78 : decode cX5_pour 78 = .ok (.getfield 39, 3) := by decide +kernel
theorem dX5_pour_81 : decode cX5_pour 81 = .ok (.bipush 60, 2) := by decide +kernel
theorem dX5_pour_83 : decode cX5_pour 83 = .ok (.iload_n 1, 1) := by decide +kernel
theorem dX5_pour_84 : decode cX5_pour 84 = .ok (.imul, 1) := by decide +kernel
theorem dX5_pour_85 : decode cX5_pour 85 = .ok (.iload_n 2, 1) := by decide +kernel
theorem dX5_pour_86 : decode cX5_pour 86 = .ok (.iadd, 1) := by decide +kernel
theorem dX5_pour_87 : decode cX5_pour 87 = .ok (.iload 5, 2) := by decide +kernel
theorem dX5_pour_89 : decode cX5_pour 89 = .ok (.iadd, 1) := by decide +kernel
theorem dX5_pour_90 : decode cX5_pour 90 = .ok (.daload, 1) := by decide +kernel
theorem dX5_pour_91 : decode cX5_pour 91 = .ok (.dstore 8, 2) := by decide +kernel
theorem dX5_pour_93 : decode cX5_pour 93 = .ok (.aload_n 0, 1) := by decide +kernel
theorem dX5_pour_94 : decode cX5_pour 94 = .ok (.getfield 29, 3) := by decide +kernel
theorem dX5_pour_97 : decode cX5_pour 97 = .ok (.iload_n 1, 1) := by decide +kernel
theorem dX5_pour_98 : decode cX5_pour 98 = .ok (.iaload, 1) := by decide +kernel
theorem dX5_pour_99 : decode cX5_pour 99 = .ok (.iconst 4, 1) := by decide +kernel
theorem dX5_pour_100 : decode cX5_pour 100 = .ok (.if_icmp .lt 15, 3) := by decide +kernel
theorem dX5_pour_103 : decode cX5_pour 103 = .ok (.dload 8, 2) := by decide +kernel
theorem dX5_pour_105 : decode cX5_pour 105 = .ok (.dload 8, 2) := by decide +kernel
theorem dX5_pour_107 : decode cX5_pour 107 = .ok (.dcmp .l, 1) := by decide +kernel
theorem dX5_pour_108 : decode cX5_pour 108 = .ok (.ifCond .eq 7, 3) := by decide +kernel
theorem dX5_pour_111 : decode cX5_pour 111 = .ok (.iconst 1, 1) := by decide +kernel
theorem dX5_pour_112 : decode cX5_pour 112 = .ok (.goto 4, 3) := by decide +kernel
theorem dX5_pour_115 : decode cX5_pour 115 = .ok (.iconst 0, 1) := by decide +kernel
theorem dX5_pour_116 : decode cX5_pour 116 = .ok (.istore 10, 2) := by decide +kernel
theorem dX5_pour_118 : decode cX5_pour 118 = .ok (.iload 10, 2) := by decide +kernel
theorem dX5_pour_120 : decode cX5_pour 120 = .ok (.ifCond .ne 23, 3) := by decide +kernel
theorem dX5_pour_123 : decode cX5_pour 123 = .ok (.lload 6, 2) := by decide +kernel
theorem dX5_pour_125 : decode cX5_pour 125 = .ok (.lconst 0, 1) := by decide +kernel
theorem dX5_pour_126 : decode cX5_pour 126 = .ok (.lcmp, 1) := by decide +kernel
theorem dX5_pour_127 : decode cX5_pour 127 = .ok (.ifCond .lt 16, 3) := by decide +kernel
theorem dX5_pour_130 : decode cX5_pour 130 = .ok (.lload 6, 2) := by decide +kernel
theorem dX5_pour_132 : decode cX5_pour 132 = .ok (.ldc2_w 141, 3) := by decide +kernel
theorem dX5_pour_135 : decode cX5_pour 135 = .ok (.lcmp, 1) := by decide +kernel
theorem dX5_pour_136 : decode cX5_pour 136 = .ok (.ifCond .gt 7, 3) := by decide +kernel
theorem dX5_pour_139 : decode cX5_pour 139 = .ok (.iconst 1, 1) := by decide +kernel
theorem dX5_pour_140 : decode cX5_pour 140 = .ok (.goto 4, 3) := by decide +kernel
theorem dX5_pour_143 : decode cX5_pour 143 = .ok (.iconst 0, 1) := by decide +kernel
theorem dX5_pour_144 : decode cX5_pour 144 = .ok (.istore 11, 2) := by decide +kernel
theorem dX5_pour_146 : decode cX5_pour 146 = .ok (.aload_n 0, 1) := by decide +kernel
theorem dX5_pour_147 : decode cX5_pour 147 = .ok (.getfield 26, 3) := by decide +kernel
theorem dX5_pour_150 : decode cX5_pour 150 = .ok (.iload 4, 2) := by decide +kernel
theorem dX5_pour_152 : decode cX5_pour 152 = .ok (.iload 5, 2) := by decide +kernel
theorem dX5_pour_154 : decode cX5_pour 154 = .ok (.iadd, 1) := by decide +kernel
theorem dX5_pour_155 : decode cX5_pour 155 = .ok (.iload 11, 2) := by decide +kernel
theorem dX5_pour_157 : decode cX5_pour 157 = .ok (.ifCond .ne 7, 3) := by decide +kernel
theorem dX5_pour_160 : decode cX5_pour 160 = .ok (.iconst 1, 1) := by decide +kernel
theorem dX5_pour_161 : decode cX5_pour 161 = .ok (.goto 4, 3) := by decide +kernel
theorem dX5_pour_164 : decode cX5_pour 164 = .ok (.iconst 0, 1) := by decide +kernel
theorem dX5_pour_165 : decode cX5_pour 165 = .ok (.bastore, 1) := by decide +kernel
theorem dX5_pour_166 : decode cX5_pour 166 = .ok (.aload_n 0, 1) := by decide +kernel
theorem dX5_pour_167 : decode cX5_pour 167 = .ok (.getfield 23, 3) := by decide +kernel
theorem dX5_pour_170 : decode cX5_pour 170 = .ok (.iload 4, 2) := by decide +kernel
theorem dX5_pour_172 : decode cX5_pour 172 = .ok (.iload 5, 2) := by decide +kernel
theorem dX5_pour_174 : decode cX5_pour 174 = .ok (.iadd, 1) := by decide +kernel
theorem dX5_pour_175 : decode cX5_pour 175 = .ok (.iload 11, 2) := by decide +kernel
theorem dX5_pour_177 : decode cX5_pour 177 = .ok (.ifCond .eq 9, 3) := by decide +kernel
theorem dX5_pour_180 : decode cX5_pour 180 = .ok (.lload 6, 2) := by decide +kernel
theorem dX5_pour_182 : decode cX5_pour 182 = .ok (.l2i, 1) := by decide +kernel
theorem dX5_pour_183 : decode cX5_pour 183 = .ok (.goto 13, 3) := by decide +kernel
theorem dX5_pour_186 : decode cX5_pour 186 = .ok (.aload_n 0, 1) := by decide +kernel
theorem dX5_pour_187 : decode cX5_pour 187 = .ok (.getfield 23, 3) := by decide +kernel
theorem dX5_pour_190 : decode cX5_pour 190 = .ok (.iload 4, 2) := by decide +kernel
theorem dX5_pour_192 : decode cX5_pour 192 = .ok (.iload 5, 2) := by decide +kernel
theorem dX5_pour_194 : decode cX5_pour 194 = .ok (.iadd, 1) := by decide +kernel
theorem dX5_pour_195 : decode cX5_pour 195 = .ok (.iaload, 1) := by decide +kernel
theorem dX5_pour_196 : decode cX5_pour 196 = .ok (.iastore, 1) := by decide +kernel
theorem dX5_pour_197 : decode cX5_pour 197 = .ok (.iinc 5 1, 3) := by decide +kernel
theorem dX5_pour_200 : decode cX5_pour 200 = .ok (.goto (-140), 3) := by decide +kernel
theorem dX5_pour_203 : decode cX5_pour 203 = .ok (.aload_n 0, 1) := by decide +kernel
theorem dX5_pour_204 : decode cX5_pour 204 = .ok (.iconst 0, 1) := by decide +kernel
theorem dX5_pour_205 : decode cX5_pour 205 = .ok (.putfield 95, 3) := by decide +kernel
theorem dX5_pour_208 : decode cX5_pour 208 = .ok (.iconst 1, 1) := by decide +kernel
theorem dX5_pour_209 : decode cX5_pour 209 = .ok (.ireturn, 1) := by decide +kernel
theorem dX5_isFilled_0 : decode cX5_isFilled 0 = .ok (.aload_n 0, 1) := by decide +kernel
theorem dX5_isFilled_1 : decode cX5_isFilled 1 = .ok (.getfield 46, 3) := by decide +kernel
theorem dX5_isFilled_4 : decode cX5_isFilled 4 = .ok (.iload_n 1, 1) := by decide +kernel
theorem dX5_isFilled_5 : decode cX5_isFilled 5 = .ok (.iaload, 1) := by decide +kernel
theorem dX5_isFilled_6 : decode cX5_isFilled 6 = .ok (.ifCond .lt 7, 3) := by decide +kernel
theorem dX5_isFilled_9 : decode cX5_isFilled 9 = .ok (.iconst 1, 1) := by decide +kernel
theorem dX5_isFilled_10 : decode cX5_isFilled 10 = .ok (.goto 4, 3) := by decide +kernel
theorem dX5_isFilled_13 : decode cX5_isFilled 13 = .ok (.iconst 0, 1) := by decide +kernel
theorem dX5_isFilled_14 : decode cX5_isFilled 14 = .ok (.ireturn, 1) := by decide +kernel
theorem dX5_isFree_0 : decode cX5_isFree 0 = .ok (.aload_n 0, 1) := by decide +kernel
theorem dX5_isFree_1 : decode cX5_isFree 1 = .ok (.getfield 46, 3) := by decide +kernel
theorem dX5_isFree_4 : decode cX5_isFree 4 = .ok (.iload_n 1, 1) := by decide +kernel
theorem dX5_isFree_5 : decode cX5_isFree 5 = .ok (.iaload, 1) := by decide +kernel
theorem dX5_isFree_6 : decode cX5_isFree 6 = .ok (.ifCond .ge 16, 3) := by decide +kernel
theorem dX5_isFree_9 : decode cX5_isFree 9 = .ok (.aload_n 0, 1) := by decide +kernel
theorem dX5_isFree_10 : decode cX5_isFree 10 = .ok (.getfield 52, 3) := by decide +kernel
theorem dX5_isFree_13 : decode cX5_isFree 13 = .ok (.iload_n 1, 1) := by decide +kernel
theorem dX5_isFree_14 : decode cX5_isFree 14 = .ok (.iaload, 1) := by decide +kernel
theorem dX5_isFree_15 : decode cX5_isFree 15 = .ok (.ifCond .ge 7, 3) := by decide +kernel
theorem dX5_isFree_18 : decode cX5_isFree 18 = .ok (.iconst 1, 1) := by decide +kernel
theorem dX5_isFree_19 : decode cX5_isFree 19 = .ok (.goto 4, 3) := by decide +kernel
theorem dX5_isFree_22 : decode cX5_isFree 22 = .ok (.iconst 0, 1) := by decide +kernel
theorem dX5_isFree_23 : decode cX5_isFree 23 = .ok (.ireturn, 1) := by decide +kernel
theorem dX5_leads_0 : decode cX5_leads 0 = .ok (.aload_n 0, 1) := by decide +kernel
theorem dX5_leads_1 : decode cX5_leads 1 = .ok (.iload_n 1, 1) := by decide +kernel
theorem dX5_leads_2 : decode cX5_leads 2 = .ok (.invokevirtual 143, 3) := by decide +kernel
theorem dX5_leads_5 : decode cX5_leads 5 = .ok (.ifCond .eq 25, 3) := by decide +kernel
theorem dX5_leads_8 : decode cX5_leads 8 = .ok (.aload_n 0, 1) := by decide +kernel
theorem dX5_leads_9 : decode cX5_leads 9 = .ok (.getfield 7, 3) := by decide +kernel
theorem dX5_leads_12 : decode cX5_leads 12 = .ok (.iload_n 1, 1) := by decide +kernel
theorem dX5_leads_13 : decode cX5_leads 13 = .ok (.iaload, 1) := by decide +kernel
theorem dX5_leads_14 : decode cX5_leads 14 = .ok (.iconst 3, 1) := by decide +kernel
theorem dX5_leads_15 : decode cX5_leads 15 = .ok (.if_icmp .eq 15, 3) := by decide +kernel
theorem dX5_leads_18 : decode cX5_leads 18 = .ok (.aload_n 0, 1) := by decide +kernel
theorem dX5_leads_19 : decode cX5_leads 19 = .ok (.iload_n 2, 1) := by decide +kernel
theorem dX5_leads_20 : decode cX5_leads 20 = .ok (.invokevirtual 146, 3) := by decide +kernel
theorem dX5_leads_23 : decode cX5_leads 23 = .ok (.ifCond .eq 7, 3) := by decide +kernel
theorem dX5_leads_26 : decode cX5_leads 26 = .ok (.iconst 1, 1) := by decide +kernel
theorem dX5_leads_27 : decode cX5_leads 27 = .ok (.goto 4, 3) := by decide +kernel
theorem dX5_leads_30 : decode cX5_leads 30 = .ok (.iconst 0, 1) := by decide +kernel
theorem dX5_leads_31 : decode cX5_leads 31 = .ok (.ireturn, 1) := by decide +kernel
theorem dX5_isCandidate_0 : decode cX5_isCandidate 0 = .ok (.aload_n 0, 1) := by decide +kernel
theorem dX5_isCandidate_1 : decode cX5_isCandidate 1 = .ok (.getfield 26, 3) := by decide +kernel
theorem dX5_isCandidate_4 : decode cX5_isCandidate 4 = .ok (.iload_n 1, 1) := by decide +kernel
theorem dX5_isCandidate_5 : decode cX5_isCandidate 5 = .ok (.baload, 1) := by decide +kernel
theorem dX5_isCandidate_6 : decode cX5_isCandidate 6 = .ok (.ifCond .ne 45, 3) := by decide +kernel
theorem dX5_isCandidate_9 : decode cX5_isCandidate 9 = .ok (.aload_n 0, 1) := by decide +kernel
theorem dX5_isCandidate_10 : decode cX5_isCandidate 10 = .ok (.aload_n 0, 1) := by decide +kernel
theorem dX5_isCandidate_11 : decode cX5_isCandidate 11 = .ok (.getfield 17, 3) := by decide +kernel
theorem dX5_isCandidate_14 : decode cX5_isCandidate 14 = .ok (.iload_n 1, 1) := by decide +kernel
theorem dX5_isCandidate_15 : decode cX5_isCandidate 15 = .ok (.iaload, 1) := by decide +kernel
theorem dX5_isCandidate_16 : decode cX5_isCandidate 16 = .ok (.aload_n 0, 1) := by decide +kernel
theorem dX5_isCandidate_17 : decode cX5_isCandidate 17 = .ok (.getfield 20, 3) := by decide +kernel
theorem dX5_isCandidate_20 : decode cX5_isCandidate 20 = .ok (.iload_n 1, 1) := by decide +kernel
theorem dX5_isCandidate_21 : decode cX5_isCandidate 21 = .ok (.iaload, 1) := by decide +kernel
theorem dX5_isCandidate_22 : decode cX5_isCandidate 22 = .ok (.invokevirtual 149, 3) := by decide +kernel
theorem dX5_isCandidate_25 : decode cX5_isCandidate 25 = .ok (.ifCond .ne 22, 3) := by decide +kernel
theorem dX5_isCandidate_28 : decode cX5_isCandidate 28 = .ok (.aload_n 0, 1) := by decide +kernel
theorem dX5_isCandidate_29 : decode cX5_isCandidate 29 = .ok (.aload_n 0, 1) := by decide +kernel
theorem dX5_isCandidate_30 : decode cX5_isCandidate 30 = .ok (.getfield 20, 3) := by decide +kernel
theorem dX5_isCandidate_33 : decode cX5_isCandidate 33 = .ok (.iload_n 1, 1) := by decide +kernel
theorem dX5_isCandidate_34 : decode cX5_isCandidate 34 = .ok (.iaload, 1) := by decide +kernel
theorem dX5_isCandidate_35 : decode cX5_isCandidate 35 = .ok (.aload_n 0, 1) := by decide +kernel
theorem dX5_isCandidate_36 : decode cX5_isCandidate 36 = .ok (.getfield 17, 3) := by decide +kernel
theorem dX5_isCandidate_39 : decode cX5_isCandidate 39 = .ok (.iload_n 1, 1) := by decide +kernel
theorem dX5_isCandidate_40 : decode cX5_isCandidate 40 = .ok (.iaload, 1) := by decide +kernel
theorem dX5_isCandidate_41 : decode cX5_isCandidate 41 = .ok (.invokevirtual 149, 3) := by decide +kernel
theorem dX5_isCandidate_44 : decode cX5_isCandidate 44 = .ok (.ifCond .eq 7, 3) := by decide +kernel
theorem dX5_isCandidate_47 : decode cX5_isCandidate 47 = .ok (.iconst 1, 1) := by decide +kernel
theorem dX5_isCandidate_48 : decode cX5_isCandidate 48 = .ok (.goto 4, 3) := by decide +kernel
theorem dX5_isCandidate_51 : decode cX5_isCandidate 51 = .ok (.iconst 0, 1) := by decide +kernel
theorem dX5_isCandidate_52 : decode cX5_isCandidate 52 = .ok (.ireturn, 1) := by decide +kernel
theorem dX5_trap_0 : decode cX5_trap 0 = .ok (.aload_n 0, 1) := by decide +kernel
theorem dX5_trap_1 : decode cX5_trap 1 = .ok (.getfield 107, 3) := by decide +kernel
theorem dX5_trap_4 : decode cX5_trap 4 = .ok (.ifCond .ne 4, 3) := by decide +kernel
theorem dX5_trap_7 : decode cX5_trap 7 = .ok (.return_, 1) := by decide +kernel
theorem dX5_trap_8 : decode cX5_trap 8 = .ok (.iconst 0, 1) := by decide +kernel
theorem dX5_trap_9 : decode cX5_trap 9 = .ok (.istore_n 1, 1) := by decide +kernel
theorem dX5_trap_10 : decode cX5_trap 10 = .ok (.iload_n 1, 1) := by decide +kernel
theorem dX5_trap_11 : decode cX5_trap 11 = .ok (.aload_n 0, 1) := by decide +kernel
theorem dX5_trap_12 : decode cX5_trap 12 = .ok (.getfield 88, 3) := by decide +kernel
theorem dX5_trap_15 : decode cX5_trap 15 = .ok (.if_icmp .ge 38, 3) := by decide +kernel
theorem dX5_trap_18 : decode cX5_trap 18 = .ok (.aload_n 0, 1) := by decide +kernel
theorem dX5_trap_19 : decode cX5_trap 19 = .ok (.getfield 64, 3) := by decide +kernel
theorem dX5_trap_22 : decode cX5_trap 22 = .ok (.iload_n 1, 1) := by decide +kernel
theorem dX5_trap_23 : decode cX5_trap 23 = .ok (.aload_n 0, 1) := by decide +kernel
theorem dX5_trap_24 : decode cX5_trap 24 = .ok (.getfield 7, 3) := by decide +kernel
theorem dX5_trap_27 : decode cX5_trap 27 = .ok (.iload_n 1, 1) := by decide +kernel
theorem dX5_trap_28 : decode cX5_trap 28 = .ok (.iaload, 1) := by decide +kernel
theorem dX5_trap_29 : decode cX5_trap 29 = .ok (.iconst 4, 1) := by decide +kernel
theorem dX5_trap_30 : decode cX5_trap 30 = .ok (.if_icmp .ne 15, 3) := by decide +kernel
theorem dX5_trap_33 : decode cX5_trap 33 = .ok (.aload_n 0, 1) := by decide +kernel
theorem dX5_trap_34 : decode cX5_trap 34 = .ok (.iload_n 1, 1) := by decide +kernel
theorem dX5_trap_35 : decode cX5_trap 35 = .ok (.invokevirtual 143, 3) := by decide +kernel
theorem dX5_trap_38 : decode cX5_trap 38 = .ok (.ifCond .ne 7, 3) := by decide +kernel
theorem dX5_trap_41 : decode cX5_trap 41 = .ok (.iconst 1, 1) := by decide +kernel
theorem dX5_trap_42 : decode cX5_trap 42 = .ok (.goto 4, 3) := by decide +kernel
theorem dX5_trap_45 : decode cX5_trap 45 = .ok (.iconst 0, 1) := by decide +kernel
theorem dX5_trap_46 : decode cX5_trap 46 = .ok (.bastore, 1) := by decide +kernel
theorem dX5_trap_47 : decode cX5_trap 47 = .ok (.iinc 1 1, 3) := by decide +kernel
theorem dX5_trap_50 : decode cX5_trap 50 = .ok (.goto (-40), 3) := by decide +kernel
theorem dX5_trap_53 : decode cX5_trap 53 = .ok (.iconst 1, 1) := by decide +kernel
theorem dX5_trap_54 : decode cX5_trap 54 = .ok (.istore_n 1, 1) := by decide +kernel
theorem dX5_trap_55 : decode cX5_trap 55 = .ok (.iload_n 1, 1) := by decide +kernel
theorem dX5_trap_56 : decode cX5_trap 56 = .ok (.ifCond .eq 120, 3) := by decide +kernel
theorem dX5_trap_59 : decode cX5_trap 59 = .ok (.iconst 0, 1) := by decide +kernel
theorem dX5_trap_60 : decode cX5_trap 60 = .ok (.istore_n 1, 1) := by decide +kernel
theorem dX5_trap_61 : decode cX5_trap 61 = .ok (.iconst 0, 1) := by decide +kernel
theorem dX5_trap_62 : decode cX5_trap 62 = .ok (.istore_n 2, 1) := by decide +kernel
theorem dX5_trap_63 : decode cX5_trap 63 = .ok (.iload_n 2, 1) := by decide +kernel
theorem dX5_trap_64 : decode cX5_trap 64 = .ok (.aload_n 0, 1) := by decide +kernel
theorem dX5_trap_65 : decode cX5_trap 65 = .ok (.getfield 92, 3) := by decide +kernel
theorem dX5_trap_68 : decode cX5_trap 68 = .ok (.if_icmp .ge 105, 3) := by decide +kernel
theorem dX5_trap_71 : decode cX5_trap 71 = .ok (.aload_n 0, 1) := by decide +kernel
theorem dX5_trap_72 : decode cX5_trap 72 = .ok (.getfield 26, 3) := by decide +kernel
theorem dX5_trap_75 : decode cX5_trap 75 = .ok (.iload_n 2, 1) := by decide +kernel
theorem dX5_trap_76 : decode cX5_trap 76 = .ok (.baload, 1) := by decide +kernel
theorem dX5_trap_77 : decode cX5_trap 77 = .ok (.ifCond .ne 33, 3) := by decide +kernel
theorem dX5_trap_80 : decode cX5_trap 80 = .ok (.aload_n 0, 1) := by decide +kernel
theorem dX5_trap_81 : decode cX5_trap 81 = .ok (.aload_n 0, 1) := by decide +kernel
theorem dX5_trap_82 : decode cX5_trap 82 = .ok (.getfield 17, 3) := by decide +kernel
theorem dX5_trap_85 : decode cX5_trap 85 = .ok (.iload_n 2, 1) := by decide +kernel
theorem dX5_trap_86 : decode cX5_trap 86 = .ok (.iaload, 1) := by decide +kernel
theorem dX5_trap_87 : decode cX5_trap 87 = .ok (.invokevirtual 143, 3) := by decide +kernel
theorem dX5_trap_90 : decode cX5_trap 90 = .ok (.ifCond .ne 20, 3) := by decide +kernel
theorem dX5_trap_93 : decode cX5_trap 93 = .ok (.aload_n 0, 1) := by decide +kernel
theorem dX5_trap_94 : decode cX5_trap 94 = .ok (.aload_n 0, 1) := by decide +kernel
theorem dX5_trap_95 : decode cX5_trap 95 = .ok (.getfield 20, 3) := by decide +kernel
theorem dX5_trap_98 : decode cX5_trap 98 = .ok (.iload_n 2, 1) := by decide +kernel
theorem dX5_trap_99 : decode cX5_trap 99 = .ok (.iaload, 1) := by decide +kernel
theorem dX5_trap_100 : decode cX5_trap 100 = .ok (.invokevirtual 143, 3) := by decide +kernel
theorem dX5_trap_103 : decode cX5_trap 103 = .ok (.ifCond .ne 7, 3) := by decide +kernel
theorem dX5_trap_106 : decode cX5_trap 106 = .ok (.iconst 1, 1) := by decide +kernel
theorem dX5_trap_107 : decode cX5_trap 107 = .ok (.goto 4, 3) := by decide +kernel
theorem dX5_trap_110 : decode cX5_trap 110 = .ok (.iconst 0, 1) := by decide +kernel
theorem dX5_trap_111 : decode cX5_trap 111 = .ok (.istore_n 3, 1) := by decide +kernel
theorem dX5_trap_112 : decode cX5_trap 112 = .ok (.iload_n 3, 1) := by decide +kernel
theorem dX5_trap_113 : decode cX5_trap 113 = .ok (.ifCond .eq 54, 3) := by decide +kernel
theorem dX5_trap_116 : decode cX5_trap 116 = .ok (.aload_n 0, 1) := by decide +kernel
theorem dX5_trap_117 : decode cX5_trap 117 = .ok (.getfield 64, 3) := by decide +kernel
theorem dX5_trap_120 : decode cX5_trap 120 = .ok (.aload_n 0, 1) := by decide +kernel
theorem dX5_trap_121 : decode cX5_trap 121 = .ok (.getfield 17, 3) := by decide +kernel
theorem dX5_trap_124 : decode cX5_trap 124 = .ok (.iload_n 2, 1) := by decide +kernel
theorem dX5_trap_125 : decode cX5_trap 125 = .ok (.iaload, 1) := by decide +kernel
theorem dX5_trap_126 : decode cX5_trap 126 = .ok (.baload, 1) := by decide +kernel
theorem dX5_trap_127 : decode cX5_trap 127 = .ok (.aload_n 0, 1) := by decide +kernel
theorem dX5_trap_128 : decode cX5_trap 128 = .ok (.getfield 64, 3) := by decide +kernel
theorem dX5_trap_131 : decode cX5_trap 131 = .ok (.aload_n 0, 1) := by decide +kernel
theorem dX5_trap_132 : decode cX5_trap 132 = .ok (.getfield 20, 3) := by decide +kernel
theorem dX5_trap_135 : decode cX5_trap 135 = .ok (.iload_n 2, 1) := by decide +kernel
theorem dX5_trap_136 : decode cX5_trap 136 = .ok (.iaload, 1) := by decide +kernel
theorem dX5_trap_137 : decode cX5_trap 137 = .ok (.baload, 1) := by decide +kernel
theorem dX5_trap_138 : decode cX5_trap 138 = .ok (.if_icmp .eq 29, 3) := by decide +kernel
theorem dX5_trap_141 : decode cX5_trap 141 = .ok (.aload_n 0, 1) := by decide +kernel
theorem dX5_trap_142 : decode cX5_trap 142 = .ok (.getfield 64, 3) := by decide +kernel
theorem dX5_trap_145 : decode cX5_trap 145 = .ok (.aload_n 0, 1) := by decide +kernel
theorem dX5_trap_146 : decode cX5_trap 146 = .ok (.getfield 17, 3) := by decide +kernel
theorem dX5_trap_149 : decode cX5_trap 149 = .ok (.iload_n 2, 1) := by decide +kernel
theorem dX5_trap_150 : decode cX5_trap 150 = .ok (.iaload, 1) := by decide +kernel
theorem dX5_trap_151 : decode cX5_trap 151 = .ok (.iconst 1, 1) := by decide +kernel
theorem dX5_trap_152 : decode cX5_trap 152 = .ok (.bastore, 1) := by decide +kernel
theorem dX5_trap_153 : decode cX5_trap 153 = .ok (.aload_n 0, 1) := by decide +kernel
theorem dX5_trap_154 : decode cX5_trap 154 = .ok (.getfield 64, 3) := by decide +kernel
theorem dX5_trap_157 : decode cX5_trap 157 = .ok (.aload_n 0, 1) := by decide +kernel
theorem dX5_trap_158 : decode cX5_trap 158 = .ok (.getfield 20, 3) := by decide +kernel
theorem dX5_trap_161 : decode cX5_trap 161 = .ok (.iload_n 2, 1) := by decide +kernel
theorem dX5_trap_162 : decode cX5_trap 162 = .ok (.iaload, 1) := by decide +kernel
theorem dX5_trap_163 : decode cX5_trap 163 = .ok (.iconst 1, 1) := by decide +kernel
theorem dX5_trap_164 : decode cX5_trap 164 = .ok (.bastore, 1) := by decide +kernel
theorem dX5_trap_165 : decode cX5_trap 165 = .ok (.iconst 1, 1) := by decide +kernel
theorem dX5_trap_166 : decode cX5_trap 166 = .ok (.istore_n 1, 1) := by decide +kernel
theorem dX5_trap_167 : decode cX5_trap 167 = .ok (.iinc 2 1, 3) := by decide +kernel
theorem dX5_trap_170 : decode cX5_trap 170 = .ok (.goto (-107), 3) := by decide +kernel
theorem dX5_trap_173 : decode cX5_trap 173 = .ok (.goto (-118), 3) := by decide +kernel
theorem dX5_trap_176 : decode cX5_trap 176 = .ok (.iconst 0, 1) := by decide +kernel
theorem dX5_trap_177 : decode cX5_trap 177 = .ok (.istore_n 2, 1) := by decide +kernel
theorem dX5_trap_178 : decode cX5_trap 178 = .ok (.iload_n 2, 1) := by decide +kernel
theorem dX5_trap_179 : decode cX5_trap 179 = .ok (.aload_n 0, 1) := by decide +kernel
theorem dX5_trap_180 : decode cX5_trap 180 = .ok (.getfield 88, 3) := by decide +kernel
theorem dX5_trap_183 : decode cX5_trap 183 = .ok (.if_icmp .ge 45, 3) := by decide +kernel
theorem dX5_trap_186 : decode cX5_trap 186 = .ok (.aload_n 0, 1) := by decide +kernel
theorem dX5_trap_187 : decode cX5_trap 187 = .ok (.getfield 52, 3) := by decide +kernel
theorem dX5_trap_190 : decode cX5_trap 190 = .ok (.iload_n 2, 1) := by decide +kernel
theorem dX5_trap_191 : decode cX5_trap 191 = .ok (.aload_n 0, 1) := by decide +kernel
theorem dX5_trap_192 : decode cX5_trap 192 = .ok (.iload_n 2, 1) := by decide +kernel
theorem dX5_trap_193 : decode cX5_trap 193 = .ok (.invokevirtual 146, 3) := by decide +kernel
theorem dX5_trap_196 : decode cX5_trap 196 = .ok (.ifCond .eq 19, 3) := by decide +kernel
theorem dX5_trap_199 : decode cX5_trap 199 = .ok (.aload_n 0, 1) := by decide +kernel
theorem dX5_trap_200 : decode cX5_trap 200 = .ok (.getfield 64, 3) := by decide +kernel
theorem dX5_trap_203 : decode cX5_trap 203 = .ok (.iload_n 2, 1) := by decide +kernel
theorem dX5_trap_204 : decode cX5_trap 204 = .ok (.baload, 1) := by decide +kernel
theorem dX5_trap_205 : decode cX5_trap 205 = .ok (.ifCond .ne 10, 3) := by decide +kernel
theorem dX5_trap_208 : decode cX5_trap 208 = .ok (.aload_n 0, 1) := by decide +kernel
theorem dX5_trap_209 : decode cX5_trap 209 = .ok (.getfield 152, 3) := by decide +kernel
theorem dX5_trap_212 : decode cX5_trap 212 = .ok (.goto 9, 3) := by decide +kernel
theorem dX5_trap_215 : decode cX5_trap 215 = .ok (.aload_n 0, 1) := by decide +kernel
theorem dX5_trap_216 : decode cX5_trap 216 = .ok (.getfield 52, 3) := by decide +kernel
theorem dX5_trap_219 : decode cX5_trap 219 = .ok (.iload_n 2, 1) := by decide +kernel
theorem dX5_trap_220 : decode cX5_trap 220 = .ok (.iaload, 1) := by decide +kernel
theorem dX5_trap_221 : decode cX5_trap 221 = .ok (.iastore, 1) := by decide +kernel
theorem dX5_trap_222 : decode cX5_trap 222 = .ok (.iinc 2 1, 3) := by decide +kernel
theorem dX5_trap_225 : decode cX5_trap 225 = .ok (.goto (-47), 3) := by decide +kernel
theorem dX5_trap_228 : decode cX5_trap 228 = .ok (.return_, 1) := by decide +kernel
theorem dX5_start_0 : decode cX5_start 0 = .ok (.aload_n 0, 1) := by decide +kernel
theorem dX5_start_1 : decode cX5_start 1 = .ok (.iconst 0, 1) := by decide +kernel
theorem dX5_start_2 : decode cX5_start 2 = .ok (.putfield 152, 3) := by decide +kernel
theorem dX5_start_5 : decode cX5_start 5 = .ok (.iconst 0, 1) := by decide +kernel
theorem dX5_start_6 : decode cX5_start 6 = .ok (.istore_n 1, 1) := by decide +kernel
theorem dX5_start_7 : decode cX5_start 7 = .ok (.iload_n 1, 1) := by decide +kernel
theorem dX5_start_8 : decode cX5_start 8 = .ok (.aload_n 0, 1) := by decide +kernel
theorem dX5_start_9 : decode cX5_start 9 = .ok (.getfield 88, 3) := by decide +kernel
theorem dX5_start_12 : decode cX5_start 12 = .ok (.if_icmp .ge 43, 3) := by decide +kernel
theorem dX5_start_15 : decode cX5_start 15 = .ok (.aload_n 0, 1) := by decide +kernel
theorem dX5_start_16 : decode cX5_start 16 = .ok (.getfield 46, 3) := by decide +kernel
theorem dX5_start_19 : decode cX5_start 19 = .ok (.iload_n 1, 1) := by decide +kernel
theorem dX5_start_20 : decode cX5_start 20 = .ok (.aload_n 0, 1) := by decide +kernel
theorem dX5_start_21 : decode cX5_start 21 = .ok (.getfield 13, 3) := by decide +kernel
theorem dX5_start_24 : decode cX5_start 24 = .ok (.iload_n 1, 1) := by decide +kernel
theorem dX5_start_25 : decode cX5_start 25 = .ok (.baload, 1) := by decide +kernel
theorem dX5_start_26 : decode cX5_start 26 = .ok (.ifCond .eq 7, 3) := by decide +kernel
theorem dX5_start_29 : decode cX5_start 29 = .ok (.iconst 0, 1) := by decide +kernel
theorem dX5_start_30 : decode cX5_start 30 = .ok (.goto 4, 3) := by decide +kernel
theorem dX5_start_33 : decode cX5_start 33 = .ok (.iconst (-1), 1) := by decide +kernel
theorem dX5_start_34 : decode cX5_start 34 = .ok (.iastore, 1) := by decide +kernel
theorem dX5_start_35 : decode cX5_start 35 = .ok (.aload_n 0, 1) := by decide +kernel
theorem dX5_start_36 : decode cX5_start 36 = .ok (.getfield 49, 3) := by decide +kernel
theorem dX5_start_39 : decode cX5_start 39 = .ok (.iload_n 1, 1) := by decide +kernel
theorem dX5_start_40 : decode cX5_start 40 = .ok (.iconst (-1), 1) := by decide +kernel
theorem dX5_start_41 : decode cX5_start 41 = .ok (.iastore, 1) := by decide +kernel
theorem dX5_start_42 : decode cX5_start 42 = .ok (.aload_n 0, 1) := by decide +kernel
theorem dX5_start_43 : decode cX5_start 43 = .ok (.getfield 52, 3) := by decide +kernel
theorem dX5_start_46 : decode cX5_start 46 = .ok (.iload_n 1, 1) := by decide +kernel
theorem dX5_start_47 : decode cX5_start 47 = .ok (.iconst (-1), 1) := by decide +kernel
theorem dX5_start_48 : decode cX5_start 48 = .ok (.iastore, 1) := by decide +kernel
theorem dX5_start_49 : decode cX5_start 49 = .ok (.iinc 1 1, 3) := by decide +kernel
theorem dX5_start_52 : decode cX5_start 52 = .ok (.goto (-45), 3) := by decide +kernel
theorem dX5_start_55 : decode cX5_start 55 = .ok (.aload_n 0, 1) := by decide +kernel
theorem dX5_start_56 : decode cX5_start 56 = .ok (.invokevirtual 155, 3) := by decide +kernel
theorem dX5_start_59 : decode cX5_start 59 = .ok (.return_, 1) := by decide +kernel
theorem dX5_begin_0 : decode cX5_begin 0 = .ok (.aload_n 0, 1) := by decide +kernel
theorem dX5_begin_1 : decode cX5_begin 1 = .ok (.iconst 1, 1) := by decide +kernel
theorem dX5_begin_2 : decode cX5_begin 2 = .ok (.putfield 95, 3) := by decide +kernel
theorem dX5_begin_5 : decode cX5_begin 5 = .ok (.aload_n 0, 1) := by decide +kernel
theorem dX5_begin_6 : decode cX5_begin 6 = .ok (.invokevirtual 158, 3) := by decide +kernel
theorem dX5_begin_9 : decode cX5_begin 9 = .ok (.aload_n 0, 1) := by decide +kernel
theorem dX5_begin_10 : decode cX5_begin 10 = .ok (.iconst 3, 1) := by decide +kernel
theorem dX5_begin_11 : decode cX5_begin 11 = .ok (.invokevirtual 161, 3) := by decide +kernel
theorem dX5_begin_14 : decode cX5_begin 14 = .ok (.ireturn, 1) := by decide +kernel
theorem dX5_bestAt_0 : decode cX5_bestAt 0 = .ok (.iconst (-1), 1) := by decide +kernel
theorem dX5_bestAt_1 : decode cX5_bestAt 1 = .ok (.istore_n 3, 1) := by decide +kernel
theorem dX5_bestAt_2 : decode cX5_bestAt 2 = .ok (.iconst 0, 1) := by decide +kernel
theorem dX5_bestAt_3 : decode cX5_bestAt 3 = .ok (.istore 4, 2) := by decide +kernel
theorem dX5_bestAt_5 : decode cX5_bestAt 5 = .ok (.iload 4, 2) := by decide +kernel
theorem dX5_bestAt_7 : decode cX5_bestAt 7 = .ok (.aload_n 0, 1) := by decide +kernel
theorem dX5_bestAt_8 : decode cX5_bestAt 8 = .ok (.getfield 92, 3) := by decide +kernel
theorem dX5_bestAt_11 : decode cX5_bestAt 11 = .ok (.if_icmp .ge 74, 3) := by decide +kernel
theorem dX5_bestAt_14 : decode cX5_bestAt 14 = .ok (.iload_n 1, 1) := by decide +kernel
theorem dX5_bestAt_15 : decode cX5_bestAt 15 = .ok (.ifCond .lt 25, 3) := by decide +kernel
theorem dX5_bestAt_18 : decode cX5_bestAt 18 = .ok (.aload_n 0, 1) := by decide +kernel
theorem dX5_bestAt_19 : decode cX5_bestAt 19 = .ok (.getfield 17, 3) := by decide +kernel
theorem dX5_bestAt_22 : decode cX5_bestAt 22 = .ok (.iload 4, 2) := by decide +kernel
theorem dX5_bestAt_24 : decode cX5_bestAt 24 = .ok (.iaload, 1) := by decide +kernel
theorem dX5_bestAt_25 : decode cX5_bestAt 25 = .ok (.iload_n 1, 1) := by decide +kernel
theorem dX5_bestAt_26 : decode cX5_bestAt 26 = .ok (.if_icmp .eq 14, 3) := by decide +kernel
theorem dX5_bestAt_29 : decode cX5_bestAt 29 = .ok (.aload_n 0, 1) := by decide +kernel
theorem dX5_bestAt_30 : decode cX5_bestAt 30 = .ok (.getfield 20, 3) := by decide +kernel
theorem dX5_bestAt_33 : decode cX5_bestAt 33 = .ok (.iload 4, 2) := by decide +kernel
theorem dX5_bestAt_35 : decode cX5_bestAt 35 = .ok (.iaload, 1) := by decide +kernel
theorem dX5_bestAt_36 : decode cX5_bestAt 36 = .ok (.iload_n 1, 1) := by decide +kernel
theorem dX5_bestAt_37 : decode cX5_bestAt 37 = .ok (.if_icmp .ne 7, 3) := by decide +kernel
theorem dX5_bestAt_40 : decode cX5_bestAt 40 = .ok (.iconst 1, 1) := by decide +kernel
theorem dX5_bestAt_41 : decode cX5_bestAt 41 = .ok (.goto 4, 3) := by decide +kernel
theorem dX5_bestAt_44 : decode cX5_bestAt 44 = .ok (.iconst 0, 1) := by decide +kernel
theorem dX5_bestAt_45 : decode cX5_bestAt 45 = .ok (.istore 5, 2) := by decide +kernel
theorem dX5_bestAt_47 : decode cX5_bestAt 47 = .ok (.iload 5, 2) := by decide +kernel
theorem dX5_bestAt_49 : decode cX5_bestAt 49 = .ok (.ifCond .eq 30, 3) := by decide +kernel
theorem dX5_bestAt_52 : decode cX5_bestAt 52 = .ok (.aload_n 0, 1) := by decide +kernel
theorem dX5_bestAt_53 : decode cX5_bestAt 53 = .ok (.iload 4, 2) := by decide +kernel
theorem dX5_bestAt_55 : decode cX5_bestAt 55 = .ok (.invokevirtual 164, 3) := by decide +kernel
theorem dX5_bestAt_58 : decode cX5_bestAt 58 = .ok (.ifCond .eq 21, 3) := by decide +kernel
theorem dX5_bestAt_61 : decode cX5_bestAt 61 = .ok (.iload_n 3, 1) := by decide +kernel
theorem dX5_bestAt_62 : decode cX5_bestAt 62 = .ok (.ifCond .lt 14, 3) := by decide +kernel
theorem dX5_bestAt_65 : decode cX5_bestAt 65 = .ok (.aload_n 0, 1) := by decide +kernel
theorem dX5_bestAt_66 : decode cX5_bestAt 66 = .ok (.iload 4, 2) := by decide +kernel
theorem dX5_bestAt_68 : decode cX5_bestAt 68 = .ok (.iload_n 3, 1) := by decide +kernel
theorem dX5_bestAt_69 : decode cX5_bestAt 69 = .ok (.invokevirtual 110, 3) := by decide +kernel
theorem dX5_bestAt_72 : decode cX5_bestAt 72 = .ok (.iload_n 2, 1) := by decide +kernel
theorem dX5_bestAt_73 : decode cX5_bestAt 73 = .ok (.if_icmp .eq 6, 3) := by decide +kernel
theorem dX5_bestAt_76 : decode cX5_bestAt 76 = .ok (.iload 4, 2) := by decide +kernel
theorem dX5_bestAt_78 : decode cX5_bestAt 78 = .ok (.istore_n 3, 1) := by decide +kernel
theorem dX5_bestAt_79 : decode cX5_bestAt 79 = .ok (.iinc 4 1, 3) := by decide +kernel
theorem dX5_bestAt_82 : decode cX5_bestAt 82 = .ok (.goto (-77), 3) := by decide +kernel
theorem dX5_bestAt_85 : decode cX5_bestAt 85 = .ok (.iload_n 3, 1) := by decide +kernel
theorem dX5_bestAt_86 : decode cX5_bestAt 86 = .ok (.ireturn, 1) := by decide +kernel
theorem dX5_nextThroat_0 : decode cX5_nextThroat 0 = .ok (.iconst (-1), 1) := by decide +kernel
theorem dX5_nextThroat_1 : decode cX5_nextThroat 1 = .ok (.istore_n 1, 1) := by decide +kernel
theorem dX5_nextThroat_2 : decode cX5_nextThroat 2 = .ok (.iconst 0, 1) := by decide +kernel
theorem dX5_nextThroat_3 : decode cX5_nextThroat 3 = .ok (.istore_n 2, 1) := by decide +kernel
theorem dX5_nextThroat_4 : decode cX5_nextThroat 4 = .ok (.iload_n 2, 1) := by decide +kernel
theorem dX5_nextThroat_5 : decode cX5_nextThroat 5 = .ok (.aload_n 0, 1) := by decide +kernel
theorem dX5_nextThroat_6 : decode cX5_nextThroat 6 = .ok (.getfield 88, 3) := by decide +kernel
theorem dX5_nextThroat_9 : decode cX5_nextThroat 9 = .ok (.if_icmp .ge 35, 3) := by decide +kernel
theorem dX5_nextThroat_12 : decode cX5_nextThroat 12 = .ok (.aload_n 0, 1) := by decide +kernel
theorem dX5_nextThroat_13 : decode cX5_nextThroat 13 = .ok (.getfield 152, 3) := by decide +kernel
theorem dX5_nextThroat_16 : decode cX5_nextThroat 16 = .ok (.ifCond .le 20, 3) := by decide +kernel
theorem dX5_nextThroat_19 : decode cX5_nextThroat 19 = .ok (.aload_n 0, 1) := by decide +kernel
theorem dX5_nextThroat_20 : decode cX5_nextThroat 20 = .ok (.getfield 46, 3) := by decide +kernel
theorem dX5_nextThroat_23 : decode cX5_nextThroat 23 = .ok (.iload_n 2, 1) := by decide +kernel
theorem dX5_nextThroat_24 : decode cX5_nextThroat 24 = .ok (.iaload, 1) := by decide +kernel
theorem dX5_nextThroat_25 : decode cX5_nextThroat 25 = .ok (.aload_n 0, 1) := by decide +kernel
theorem dX5_nextThroat_26 : decode cX5_nextThroat 26 = .ok (.getfield 152, 3) := by decide +kernel
theorem dX5_nextThroat_29 : decode cX5_nextThroat 29 = .ok (.if_icmp .ne 7, 3) := by decide +kernel
theorem dX5_nextThroat_32 : decode cX5_nextThroat 32 = .ok (.iload_n 2, 1) := by decide +kernel
theorem dX5_nextThroat_33 : decode cX5_nextThroat 33 = .ok (.goto 4, 3) := by decide +kernel
theorem dX5_nextThroat_36 : decode cX5_nextThroat 36 = .ok (.iload_n 1, 1) := by decide +kernel
theorem dX5_nextThroat_37 : decode cX5_nextThroat 37 = .ok (.istore_n 1, 1) := by decide +kernel
theorem dX5_nextThroat_38 : decode cX5_nextThroat 38 = .ok (.iinc 2 1, 3) := by decide +kernel
theorem dX5_nextThroat_41 : decode cX5_nextThroat 41 = .ok (.goto (-37), 3) := by decide +kernel
theorem dX5_nextThroat_44 : decode cX5_nextThroat 44 = .ok (.iconst (-1), 1) := by decide +kernel
theorem dX5_nextThroat_45 : decode cX5_nextThroat 45 = .ok (.istore_n 2, 1) := by decide +kernel
theorem dX5_nextThroat_46 : decode cX5_nextThroat 46 = .ok (.iload_n 1, 1) := by decide +kernel
theorem dX5_nextThroat_47 : decode cX5_nextThroat 47 = .ok (.ifCond .lt 44, 3) := by decide +kernel
theorem dX5_nextThroat_50 : decode cX5_nextThroat 50 = .ok (.aload_n 0, 1) := by decide +kernel
theorem dX5_nextThroat_51 : decode cX5_nextThroat 51 = .ok (.getfield 7, 3) := by decide +kernel
theorem dX5_nextThroat_54 : decode cX5_nextThroat 54 = .ok (.iload_n 1, 1) := by decide +kernel
theorem dX5_nextThroat_55 : decode cX5_nextThroat 55 = .ok (.iaload, 1) := by decide +kernel
theorem dX5_nextThroat_56 : decode cX5_nextThroat 56 = .ok (.iconst 1, 1) := by decide +kernel
theorem dX5_nextThroat_57 : decode cX5_nextThroat 57 = .ok (.if_icmp .eq 13, 3) := by decide +kernel
theorem dX5_nextThroat_60 : decode cX5_nextThroat 60 = .ok (.aload_n 0, 1) := by decide +kernel
theorem dX5_nextThroat_61 : decode cX5_nextThroat 61 = .ok (.getfield 7, 3) := by decide +kernel
theorem dX5_nextThroat_64 : decode cX5_nextThroat 64 = .ok (.iload_n 1, 1) := by decide +kernel
theorem dX5_nextThroat_65 : decode cX5_nextThroat 65 = .ok (.iaload, 1) := by decide +kernel
theorem dX5_nextThroat_66 : decode cX5_nextThroat 66 = .ok (.iconst 2, 1) := by decide +kernel
theorem dX5_nextThroat_67 : decode cX5_nextThroat 67 = .ok (.if_icmp .ne 24, 3) := by decide +kernel
theorem dX5_nextThroat_70 : decode cX5_nextThroat 70 = .ok (.aload_n 0, 1) := by decide +kernel
theorem dX5_nextThroat_71 : decode cX5_nextThroat 71 = .ok (.iload_n 1, 1) := by decide +kernel
theorem dX5_nextThroat_72 : decode cX5_nextThroat 72 = .ok (.aload_n 0, 1) := by decide +kernel
theorem dX5_nextThroat_73 : decode cX5_nextThroat 73 = .ok (.getfield 7, 3) := by decide +kernel
theorem dX5_nextThroat_76 : decode cX5_nextThroat 76 = .ok (.iload_n 1, 1) := by decide +kernel
theorem dX5_nextThroat_77 : decode cX5_nextThroat 77 = .ok (.iaload, 1) := by decide +kernel
theorem dX5_nextThroat_78 : decode cX5_nextThroat 78 = .ok (.iconst 2, 1) := by decide +kernel
theorem dX5_nextThroat_79 : decode cX5_nextThroat 79 = .ok (.if_icmp .ne 7, 3) := by decide +kernel
theorem dX5_nextThroat_82 : decode cX5_nextThroat 82 = .ok (.iconst 1, 1) := by decide +kernel
theorem dX5_nextThroat_83 : decode cX5_nextThroat 83 = .ok (.goto 4, 3) := by decide +kernel
theorem dX5_nextThroat_86 : decode cX5_nextThroat 86 = .ok (.iconst 0, 1) := by decide +kernel
theorem dX5_nextThroat_87 : decode cX5_nextThroat 87 = .ok (.invokevirtual 167, 3) := by decide +kernel
theorem dX5_nextThroat_90 : decode cX5_nextThroat 90 = .ok (.istore_n 2, 1) := by decide +kernel
theorem dX5_nextThroat_91 : decode cX5_nextThroat 91 = .ok (.iload_n 2, 1) := by decide +kernel
theorem dX5_nextThroat_92 : decode cX5_nextThroat 92 = .ok (.ifCond .lt 7, 3) := by decide +kernel
theorem dX5_nextThroat_95 : decode cX5_nextThroat 95 = .ok (.iload_n 2, 1) := by decide +kernel
theorem dX5_nextThroat_96 : decode cX5_nextThroat 96 = .ok (.goto 9, 3) := by decide +kernel
theorem dX5_nextThroat_99 : decode cX5_nextThroat 99 = .ok (.aload_n 0, 1) := by decide +kernel
theorem dX5_nextThroat_100 : decode cX5_nextThroat 100 = .ok (.iconst (-1), 1) := by decide +kernel
theorem dX5_nextThroat_101 : decode cX5_nextThroat 101 = .ok (.iconst 0, 1) := by decide +kernel
theorem dX5_nextThroat_102 : decode cX5_nextThroat 102 = .ok (.invokevirtual 167, 3) := by decide +kernel
theorem dX5_nextThroat_105 : decode cX5_nextThroat 105 = .ok (.ireturn, 1) := by decide +kernel
theorem dX5_open_0 : decode cX5_open 0 = .ok (.aload_n 0, 1) := by decide +kernel
theorem dX5_open_1 : decode cX5_open 1 = .ok (.aload_n 0, 1) := by decide +kernel
theorem dX5_open_2 : decode cX5_open 2 = .ok (.getfield 17, 3) := by decide +kernel
theorem dX5_open_5 : decode cX5_open 5 = .ok (.iload_n 1, 1) := by decide +kernel
theorem dX5_open_6 : decode cX5_open 6 = .ok (.iaload, 1) := by decide +kernel
theorem dX5_open_7 : decode cX5_open 7 = .ok (.invokevirtual 143, 3) := by decide +kernel
theorem dX5_open_10 : decode cX5_open 10 = .ok (.ifCond .eq 12, 3) := by decide +kernel
theorem dX5_open_13 : decode cX5_open 13 = .ok (.aload_n 0, 1) := by decide +kernel
theorem dX5_open_14 : decode cX5_open 14 = .ok (.getfield 20, 3) := by decide +kernel
theorem dX5_open_17 : decode cX5_open 17 = .ok (.iload_n 1, 1) := by decide +kernel
theorem dX5_open_18 : decode cX5_open 18 = .ok (.iaload, 1) := by decide +kernel
theorem dX5_open_19 : decode cX5_open 19 = .ok (.goto 9, 3) := by decide +kernel
theorem dX5_open_22 : decode cX5_open 22 = .ok (.aload_n 0, 1) := by decide +kernel
theorem dX5_open_23 : decode cX5_open 23 = .ok (.getfield 17, 3) := by decide +kernel
theorem dX5_open_26 : decode cX5_open 26 = .ok (.iload_n 1, 1) := by decide +kernel
theorem dX5_open_27 : decode cX5_open 27 = .ok (.iaload, 1) := by decide +kernel
theorem dX5_open_28 : decode cX5_open 28 = .ok (.istore_n 2, 1) := by decide +kernel
theorem dX5_open_29 : decode cX5_open 29 = .ok (.aload_n 0, 1) := by decide +kernel
theorem dX5_open_30 : decode cX5_open 30 = .ok (.dup, 1) := by decide +kernel
theorem dX5_open_31 : decode cX5_open 31 = .ok (.getfield 152, 3) := by decide +kernel
theorem dX5_open_34 : decode cX5_open 34 = .ok (.iconst 1, 1) := by decide +kernel
theorem dX5_open_35 : decode cX5_open 35 = .ok (.iadd, 1) := by decide +kernel
theorem dX5_open_36 : decode cX5_open 36 = .ok (.putfield 152, 3) := by decide +kernel
theorem dX5_open_39 : decode cX5_open 39 = .ok (.aload_n 0, 1) := by decide +kernel
theorem dX5_open_40 : decode cX5_open 40 = .ok (.getfield 43, 3) := by decide +kernel
theorem dX5_open_43 : decode cX5_open 43 = .ok (.aload_n 0, 1) := by decide +kernel
theorem dX5_open_44 : decode cX5_open 44 = .ok (.getfield 152, 3) := by decide +kernel
theorem dX5_open_47 : decode cX5_open 47 = .ok (.iload_n 1, 1) := by decide +kernel
theorem dX5_open_48 : decode cX5_open 48 = .ok (.iastore, 1) := by decide +kernel
theorem dX5_open_49 : decode cX5_open 49 = .ok (.aload_n 0, 1) := by decide +kernel
theorem dX5_open_50 : decode cX5_open 50 = .ok (.getfield 46, 3) := by decide +kernel
end
section
theorem dX5_open_53 : decode cX5_open 53 = .ok (.iload_n 2, 1) := by decide +kernel
theorem dX5_open_54 : decode cX5_open 54 = .ok (.aload_n 0, 1) := by decide +kernel
theorem dX5_open_55 : decode cX5_open 55 = .ok (.getfield 152, 3) := by decide +kernel
theorem dX5_open_58 : decode cX5_open 58 = .ok (.iastore, 1) := by decide +kernel
theorem dX5_open_59 : decode cX5_open 59 = .ok (.aload_n 0, 1) := by decide +kernel
theorem dX5_open_60 : decode cX5_open 60 = .ok (.getfield 49, 3) := by decide +kernel
theorem dX5_open_63 : decode cX5_open 63 = .ok (.iload_n 2, 1) := by decide +kernel
theorem dX5_open_64 : decode cX5_open 64 = .ok (.iload_n 1, 1) := by decide +kernel
theorem dX5_open_65 : decode cX5_open 65 = .ok (.iastore, 1) := by decide +kernel
theorem dX5_open_66 : decode cX5_open 66 = .ok (.aload_n 0, 1) := by decide +kernel
theorem dX5_open_67 : decode cX5_open 67 = .ok (.invokevirtual 155, 3) := by decide +kernel
theorem dX5_open_70 : decode cX5_open 70 = .ok (.return_, 1) := by decide +kernel
theorem dX5_step_0 : decode cX5_step 0 = .ok (.aload_n 0, 1) := by decide +kernel
theorem dX5_step_1 : decode cX5_step 1 = .ok (.getfield 95, 3) := by decide +kernel
theorem dX5_step_4 : decode cX5_step 4 = .ok (.ifCond .ne 6, 3) := by decide +kernel
theorem dX5_step_7 : decode cX5_step 7 = .ok (.bipush (-6), 2) := by decide +kernel
theorem dX5_step_9 : decode cX5_step 9 = .ok (.ireturn, 1) := by decide +kernel
theorem dX5_step_10 : decode cX5_step 10 = .ok (.aload_n 0, 1) := by decide +kernel
theorem dX5_step_11 : decode cX5_step 11 = .ok (.invokevirtual 171, 3) := by decide +kernel
theorem dX5_step_14 : decode cX5_step 14 = .ok (.istore_n 1, 1) := by decide +kernel
theorem dX5_step_15 : decode cX5_step 15 = .ok (.iload_n 1, 1) := by decide +kernel
theorem dX5_step_16 : decode cX5_step 16 = .ok (.ifCond .ge 6, 3) := by decide +kernel
theorem dX5_step_19 : decode cX5_step 19 = .ok (.bipush (-7), 2) := by decide +kernel
theorem dX5_step_21 : decode cX5_step 21 = .ok (.ireturn, 1) := by decide +kernel
theorem dX5_step_22 : decode cX5_step 22 = .ok (.aload_n 0, 1) := by decide +kernel
theorem dX5_step_23 : decode cX5_step 23 = .ok (.iload_n 1, 1) := by decide +kernel
theorem dX5_step_24 : decode cX5_step 24 = .ok (.invokevirtual 175, 3) := by decide +kernel
theorem dX5_step_27 : decode cX5_step 27 = .ok (.iload_n 1, 1) := by decide +kernel
theorem dX5_step_28 : decode cX5_step 28 = .ok (.ireturn, 1) := by decide +kernel
theorem dX5_run_0 : decode cX5_run 0 = .ok (.aload_n 0, 1) := by decide +kernel
theorem dX5_run_1 : decode cX5_run 1 = .ok (.getfield 95, 3) := by decide +kernel
theorem dX5_run_4 : decode cX5_run 4 = .ok (.ifCond .ne 6, 3) := by decide +kernel
theorem dX5_run_7 : decode cX5_run 7 = .ok (.bipush (-6), 2) := by decide +kernel
theorem dX5_run_9 : decode cX5_run 9 = .ok (.ireturn, 1) := by decide +kernel
theorem dX5_run_10 : decode cX5_run 10 = .ok (.iload_n 1, 1) := by decide +kernel
theorem dX5_run_11 : decode cX5_run 11 = .ok (.ifCond .lt 10, 3) := by decide +kernel
theorem dX5_run_14 : decode cX5_run 14 = .ok (.iload_n 1, 1) := by decide +kernel
theorem dX5_run_15 : decode cX5_run 15 = .ok (.sipush 200, 3) := by decide +kernel
theorem dX5_run_18 : decode cX5_run 18 = .ok (.if_icmp .le 5, 3) := by decide +kernel
theorem dX5_run_21 : decode cX5_run 21 = .ok (.iconst (-1), 1) := by decide +kernel
theorem dX5_run_22 : decode cX5_run 22 = .ok (.ireturn, 1) := by decide +kernel
theorem dX5_run_23 : decode cX5_run 23 = .ok (.iconst 0, 1) := by decide +kernel
theorem dX5_run_24 : decode cX5_run 24 = .ok (.istore_n 2, 1) := by decide +kernel
theorem dX5_run_25 : decode cX5_run 25 = .ok (.aload_n 0, 1) := by decide +kernel
theorem dX5_run_26 : decode cX5_run 26 = .ok (.invokevirtual 171, 3) := by decide +kernel
theorem dX5_run_29 : decode cX5_run 29 = .ok (.istore_n 3, 1) := by decide +kernel
theorem dX5_run_30 : decode cX5_run 30 = .ok (.iload_n 2, 1) := by decide +kernel
theorem dX5_run_31 : decode cX5_run 31 = .ok (.iload_n 1, 1) := by decide +kernel
theorem dX5_run_32 : decode cX5_run 32 = .ok (.if_icmp .ge 23, 3) := by decide +kernel
theorem dX5_run_35 : decode cX5_run 35 = .ok (.iload_n 3, 1) := by decide +kernel
theorem dX5_run_36 : decode cX5_run 36 = .ok (.ifCond .lt 19, 3) := by decide +kernel
theorem dX5_run_39 : decode cX5_run 39 = .ok (.aload_n 0, 1) := by decide +kernel
theorem dX5_run_40 : decode cX5_run 40 = .ok (.iload_n 3, 1) := by decide +kernel
theorem dX5_run_41 : decode cX5_run 41 = .ok (.invokevirtual 175, 3) := by decide +kernel
theorem dX5_run_44 : decode cX5_run 44 = .ok (.iinc 2 1, 3) := by decide +kernel
theorem dX5_run_47 : decode cX5_run 47 = .ok (.aload_n 0, 1) := by decide +kernel
theorem dX5_run_48 : decode cX5_run 48 = .ok (.invokevirtual 171, 3) := by decide +kernel
theorem dX5_run_51 : decode cX5_run 51 = .ok (.istore_n 3, 1) := by decide +kernel
theorem dX5_run_52 : decode cX5_run 52 = .ok (.goto (-22), 3) := by decide +kernel
theorem dX5_run_55 : decode cX5_run 55 = .ok (.iload_n 2, 1) := by decide +kernel
theorem dX5_run_56 : decode cX5_run 56 = .ok (.ireturn, 1) := by decide +kernel
theorem dX5_undo_0 : decode cX5_undo 0 = .ok (.aload_n 0, 1) := by decide +kernel
theorem dX5_undo_1 : decode cX5_undo 1 = .ok (.getfield 95, 3) := by decide +kernel
theorem dX5_undo_4 : decode cX5_undo 4 = .ok (.ifCond .ne 6, 3) := by decide +kernel
theorem dX5_undo_7 : decode cX5_undo 7 = .ok (.bipush (-6), 2) := by decide +kernel
theorem dX5_undo_9 : decode cX5_undo 9 = .ok (.ireturn, 1) := by decide +kernel
theorem dX5_undo_10 : decode cX5_undo 10 = .ok (.iload_n 1, 1) := by decide +kernel
theorem dX5_undo_11 : decode cX5_undo 11 = .ok (.ifCond .lt 11, 3) := by decide +kernel
theorem dX5_undo_14 : decode cX5_undo 14 = .ok (.iload_n 1, 1) := by decide +kernel
theorem dX5_undo_15 : decode cX5_undo 15 = .ok (.aload_n 0, 1) := by decide +kernel
theorem dX5_undo_16 : decode cX5_undo 16 = .ok (.getfield 152, 3) := by decide +kernel
theorem dX5_undo_19 : decode cX5_undo 19 = .ok (.if_icmp .le 5, 3) := by decide +kernel
theorem dX5_undo_22 : decode cX5_undo 22 = .ok (.iconst (-1), 1) := by decide +kernel
theorem dX5_undo_23 : decode cX5_undo 23 = .ok (.ireturn, 1) := by decide +kernel
theorem dX5_undo_24 : decode cX5_undo 24 = .ok (.aload_n 0, 1) := by decide +kernel
theorem dX5_undo_25 : decode cX5_undo 25 = .ok (.dup, 1) := by decide +kernel
theorem dX5_undo_26 : decode cX5_undo 26 = .ok (.getfield 152, 3) := by decide +kernel
theorem dX5_undo_29 : decode cX5_undo 29 = .ok (.iload_n 1, 1) := by decide +kernel
theorem dX5_undo_30 : decode cX5_undo 30 = .ok (.isub, 1) := by decide +kernel
theorem dX5_undo_31 : decode cX5_undo 31 = .ok (.putfield 152, 3) := by decide +kernel
theorem dX5_undo_34 : decode cX5_undo 34 = .ok (.iconst 0, 1) := by decide +kernel
theorem dX5_undo_35 : decode cX5_undo 35 = .ok (.istore_n 2, 1) := by decide +kernel
theorem dX5_undo_36 : decode cX5_undo 36 = .ok (.iload_n 2, 1) := by decide +kernel
theorem dX5_undo_37 : decode cX5_undo 37 = .ok (.aload_n 0, 1) := by decide +kernel
theorem dX5_undo_38 : decode cX5_undo 38 = .ok (.getfield 88, 3) := by decide +kernel
theorem dX5_undo_41 : decode cX5_undo 41 = .ok (.if_icmp .ge 65, 3) := by decide +kernel
theorem dX5_undo_44 : decode cX5_undo 44 = .ok (.aload_n 0, 1) := by decide +kernel
theorem dX5_undo_45 : decode cX5_undo 45 = .ok (.getfield 46, 3) := by decide +kernel
theorem dX5_undo_48 : decode cX5_undo 48 = .ok (.iload_n 2, 1) := by decide +kernel
theorem dX5_undo_49 : decode cX5_undo 49 = .ok (.iaload, 1) := by decide +kernel
theorem dX5_undo_50 : decode cX5_undo 50 = .ok (.aload_n 0, 1) := by decide +kernel
theorem dX5_undo_51 : decode cX5_undo 51 = .ok (.getfield 152, 3) := by decide +kernel
theorem dX5_undo_54 : decode cX5_undo 54 = .ok (.if_icmp .le 17, 3) := by decide +kernel
theorem dX5_undo_57 : decode cX5_undo 57 = .ok (.aload_n 0, 1) := by decide +kernel
theorem dX5_undo_58 : decode cX5_undo 58 = .ok (.getfield 46, 3) := by decide +kernel
theorem dX5_undo_61 : decode cX5_undo 61 = .ok (.iload_n 2, 1) := by decide +kernel
theorem dX5_undo_62 : decode cX5_undo 62 = .ok (.iconst (-1), 1) := by decide +kernel
theorem dX5_undo_63 : decode cX5_undo 63 = .ok (.iastore, 1) := by decide +kernel
theorem dX5_undo_64 : decode cX5_undo 64 = .ok (.aload_n 0, 1) := by decide +kernel
theorem dX5_undo_65 : decode cX5_undo 65 = .ok (.getfield 49, 3) := by decide +kernel
theorem dX5_undo_68 : decode cX5_undo 68 = .ok (.iload_n 2, 1) := by decide +kernel
theorem dX5_undo_69 : decode cX5_undo 69 = .ok (.iconst (-1), 1) := by decide +kernel
theorem dX5_undo_70 : decode cX5_undo 70 = .ok (.iastore, 1) := by decide +kernel
theorem dX5_undo_71 : decode cX5_undo 71 = .ok (.aload_n 0, 1) := by decide +kernel
theorem dX5_undo_72 : decode cX5_undo 72 = .ok (.getfield 52, 3) := by decide +kernel
theorem dX5_undo_75 : decode cX5_undo 75 = .ok (.iload_n 2, 1) := by decide +kernel
theorem dX5_undo_76 : decode cX5_undo 76 = .ok (.aload_n 0, 1) := by decide +kernel
theorem dX5_undo_77 : decode cX5_undo 77 = .ok (.getfield 52, 3) := by decide +kernel
theorem dX5_undo_80 : decode cX5_undo 80 = .ok (.iload_n 2, 1) := by decide +kernel
theorem dX5_undo_81 : decode cX5_undo 81 = .ok (.iaload, 1) := by decide +kernel
theorem dX5_undo_82 : decode cX5_undo 82 = .ok (.aload_n 0, 1) := by decide +kernel
theorem dX5_undo_83 : decode cX5_undo 83 = .ok (.getfield 152, 3) := by decide +kernel
theorem dX5_undo_86 : decode cX5_undo 86 = .ok (.if_icmp .le 7, 3) := by decide +kernel
theorem dX5_undo_89 : decode cX5_undo 89 = .ok (.iconst (-1), 1) := by decide +kernel
theorem dX5_undo_90 : decode cX5_undo 90 = .ok (.goto 9, 3) := by decide +kernel
theorem dX5_undo_93 : decode cX5_undo 93 = .ok (.aload_n 0, 1) := by decide +kernel
theorem dX5_undo_94 : decode cX5_undo 94 = .ok (.getfield 52, 3) := by decide +kernel
theorem dX5_undo_97 : decode cX5_undo 97 = .ok (.iload_n 2, 1) := by decide +kernel
theorem dX5_undo_98 : decode cX5_undo 98 = .ok (.iaload, 1) := by decide +kernel
theorem dX5_undo_99 : decode cX5_undo 99 = .ok (.iastore, 1) := by decide +kernel
theorem dX5_undo_100 : decode cX5_undo 100 = .ok (.iinc 2 1, 3) := by decide +kernel
theorem dX5_undo_103 : decode cX5_undo 103 = .ok (.goto (-67), 3) := by decide +kernel
theorem dX5_undo_106 : decode cX5_undo 106 = .ok (.aload_n 0, 1) := by decide +kernel
theorem dX5_undo_107 : decode cX5_undo 107 = .ok (.getfield 152, 3) := by decide +kernel
theorem dX5_undo_110 : decode cX5_undo 110 = .ok (.ireturn, 1) := by decide +kernel
theorem dX5_tellLakes_0 : decode cX5_tellLakes 0 = .ok (.aload_n 0, 1) := by decide +kernel
theorem dX5_tellLakes_1 : decode cX5_tellLakes 1 = .ok (.iconst 0, 1) := by decide +kernel
theorem dX5_tellLakes_2 : decode cX5_tellLakes 2 = .ok (.putfield 179, 3) := by decide +kernel
theorem dX5_tellLakes_5 : decode cX5_tellLakes 5 = .ok (.iconst 0, 1) := by decide +kernel
theorem dX5_tellLakes_6 : decode cX5_tellLakes 6 = .ok (.istore_n 1, 1) := by decide +kernel
theorem dX5_tellLakes_7 : decode cX5_tellLakes 7 = .ok (.iload_n 1, 1) := by decide +kernel
theorem dX5_tellLakes_8 : decode cX5_tellLakes 8 = .ok (.aload_n 0, 1) := by decide +kernel
theorem dX5_tellLakes_9 : decode cX5_tellLakes 9 = .ok (.getfield 88, 3) := by decide +kernel
theorem dX5_tellLakes_12 : decode cX5_tellLakes 12 = .ok (.if_icmp .ge 16, 3) := by decide +kernel
theorem dX5_tellLakes_15 : decode cX5_tellLakes 15 = .ok (.aload_n 0, 1) := by decide +kernel
theorem dX5_tellLakes_16 : decode cX5_tellLakes 16 = .ok (.getfield 67, 3) := by decide +kernel
theorem dX5_tellLakes_19 : decode cX5_tellLakes 19 = .ok (.iload_n 1, 1) := by decide +kernel
theorem dX5_tellLakes_20 : decode cX5_tellLakes 20 = .ok (.iconst (-1), 1) := by decide +kernel
theorem dX5_tellLakes_21 : decode cX5_tellLakes 21 = .ok (.iastore, 1) := by decide +kernel
theorem dX5_tellLakes_22 : decode cX5_tellLakes 22 = .ok (.iinc 1 1, 3) := by decide +kernel
theorem dX5_tellLakes_25 : decode cX5_tellLakes 25 = .ok (.goto (-18), 3) := by decide +kernel
theorem dX5_tellLakes_28 : decode cX5_tellLakes 28 = .ok (.iconst 0, 1) := by decide +kernel
theorem dX5_tellLakes_29 : decode cX5_tellLakes 29 = .ok (.istore_n 1, 1) := by decide +kernel
theorem dX5_tellLakes_30 : decode cX5_tellLakes 30 = .ok (.iload_n 1, 1) := by decide +kernel
theorem dX5_tellLakes_31 : decode cX5_tellLakes 31 = .ok (.aload_n 0, 1) := by decide +kernel
theorem dX5_tellLakes_32 : decode cX5_tellLakes 32 = .ok (.getfield 152, 3) := by decide +kernel
theorem dX5_tellLakes_35 : decode cX5_tellLakes 35 = .ok (.if_icmp .gt 69, 3) := by decide +kernel
theorem dX5_tellLakes_38 : decode cX5_tellLakes 38 = .ok (.iconst 0, 1) := by decide +kernel
theorem dX5_tellLakes_39 : decode cX5_tellLakes 39 = .ok (.istore_n 2, 1) := by decide +kernel
theorem dX5_tellLakes_40 : decode cX5_tellLakes 40 = .ok (.iload_n 2, 1) := by decide +kernel
theorem dX5_tellLakes_41 : decode cX5_tellLakes 41 = .ok (.aload_n 0, 1) := by decide +kernel
theorem dX5_tellLakes_42 : decode cX5_tellLakes 42 = .ok (.getfield 88, 3) := by decide +kernel
theorem dX5_tellLakes_45 : decode cX5_tellLakes 45 = .ok (.if_icmp .ge 53, 3) := by decide +kernel
theorem dX5_tellLakes_48 : decode cX5_tellLakes 48 = .ok (.aload_n 0, 1) := by decide +kernel
theorem dX5_tellLakes_49 : decode cX5_tellLakes 49 = .ok (.getfield 52, 3) := by decide +kernel
theorem dX5_tellLakes_52 : decode cX5_tellLakes 52 = .ok (.iload_n 2, 1) := by decide +kernel
theorem dX5_tellLakes_53 : decode cX5_tellLakes 53 = .ok (.iaload, 1) := by decide +kernel
theorem dX5_tellLakes_54 : decode cX5_tellLakes 54 = .ok (.iload_n 1, 1) := by decide +kernel
theorem dX5_tellLakes_55 : decode cX5_tellLakes 55 = .ok (.if_icmp .ne 37, 3) := by decide +kernel
theorem dX5_tellLakes_58 : decode cX5_tellLakes 58 = .ok (.aload_n 0, 1) := by decide +kernel
theorem dX5_tellLakes_59 : decode cX5_tellLakes 59 = .ok (.getfield 67, 3) := by decide +kernel
theorem dX5_tellLakes_62 : decode cX5_tellLakes 62 = .ok (.iload_n 2, 1) := by decide +kernel
theorem dX5_tellLakes_63 : decode cX5_tellLakes 63 = .ok (.iaload, 1) := by decide +kernel
theorem dX5_tellLakes_64 : decode cX5_tellLakes 64 = .ok (.ifCond .ge 28, 3) := by decide +kernel
theorem dX5_tellLakes_67 : decode cX5_tellLakes 67 = .ok (.aload_n 0, 1) := by decide +kernel
theorem dX5_tellLakes_68 : decode cX5_tellLakes 68 = .ok (.getfield 67, 3) := by decide +kernel
theorem dX5_tellLakes_71 : decode cX5_tellLakes 71 = .ok (.iload_n 2, 1) := by decide +kernel
theorem dX5_tellLakes_72 : decode cX5_tellLakes 72 = .ok (.aload_n 0, 1) := by decide +kernel
theorem dX5_tellLakes_73 : decode cX5_tellLakes 73 = .ok (.getfield 179, 3) := by decide +kernel
theorem dX5_tellLakes_76 : decode cX5_tellLakes 76 = .ok (.iastore, 1) := by decide +kernel
theorem dX5_tellLakes_77 : decode cX5_tellLakes 77 = .ok (.aload_n 0, 1) := by decide +kernel
theorem dX5_tellLakes_78 : decode cX5_tellLakes 78 = .ok (.iload_n 1, 1) := by decide +kernel
theorem dX5_tellLakes_79 : decode cX5_tellLakes 79 = .ok (.invokevirtual 182, 3) := by decide +kernel
theorem dX5_tellLakes_82 : decode cX5_tellLakes 82 = .ok (.aload_n 0, 1) := by decide +kernel
theorem dX5_tellLakes_83 : decode cX5_tellLakes 83 = .ok (.dup, 1) := by decide +kernel
theorem dX5_tellLakes_84 : decode cX5_tellLakes 84 = .ok (.getfield 179, 3) := by decide +kernel
theorem dX5_tellLakes_87 : decode cX5_tellLakes 87 = .ok (.iconst 1, 1) := by decide +kernel
theorem dX5_tellLakes_88 : decode cX5_tellLakes 88 = .ok (.iadd, 1) := by decide +kernel
theorem dX5_tellLakes_89 : decode cX5_tellLakes 89 = .ok (.putfield 179, 3) := by decide +kernel
theorem dX5_tellLakes_92 : decode cX5_tellLakes 92 = .ok (.iinc 2 1, 3) := by decide +kernel
theorem dX5_tellLakes_95 : decode cX5_tellLakes 95 = .ok (.goto (-55), 3) := by decide +kernel
theorem dX5_tellLakes_98 : decode cX5_tellLakes 98 = .ok (.iinc 1 1, 3) := by decide +kernel
theorem dX5_tellLakes_101 : decode cX5_tellLakes 101 = .ok (.goto (-71), 3) := by decide +kernel
theorem dX5_tellLakes_104 : decode cX5_tellLakes 104 = .ok (.return_, 1) := by decide +kernel
theorem dX5_spreadLake_0 : decode cX5_spreadLake 0 = .ok (.iconst 1, 1) := by decide +kernel
theorem dX5_spreadLake_1 : decode cX5_spreadLake 1 = .ok (.istore_n 2, 1) := by decide +kernel
theorem dX5_spreadLake_2 : decode cX5_spreadLake 2 = .ok (.iload_n 2, 1) := by decide +kernel
theorem dX5_spreadLake_3 : decode cX5_spreadLake 3 = .ok (.ifCond .eq 148, 3) := by decide +kernel
theorem dX5_spreadLake_6 : decode cX5_spreadLake 6 = .ok (.iconst 0, 1) := by decide +kernel
theorem dX5_spreadLake_7 : decode cX5_spreadLake 7 = .ok (.istore_n 2, 1) := by decide +kernel
theorem dX5_spreadLake_8 : decode cX5_spreadLake 8 = .ok (.iconst 0, 1) := by decide +kernel
theorem dX5_spreadLake_9 : decode cX5_spreadLake 9 = .ok (.istore_n 3, 1) := by decide +kernel
theorem dX5_spreadLake_10 : decode cX5_spreadLake 10 = .ok (.iload_n 3, 1) := by decide +kernel
theorem dX5_spreadLake_11 : decode cX5_spreadLake 11 = .ok (.aload_n 0, 1) := by decide +kernel
theorem dX5_spreadLake_12 : decode cX5_spreadLake 12 = .ok (.getfield 92, 3) := by decide +kernel
theorem dX5_spreadLake_15 : decode cX5_spreadLake 15 = .ok (.if_icmp .ge 133, 3) := by decide +kernel
theorem dX5_spreadLake_18 : decode cX5_spreadLake 18 = .ok (.aload_n 0, 1) := by decide +kernel
theorem dX5_spreadLake_19 : decode cX5_spreadLake 19 = .ok (.getfield 17, 3) := by decide +kernel
theorem dX5_spreadLake_22 : decode cX5_spreadLake 22 = .ok (.iload_n 3, 1) := by decide +kernel
theorem dX5_spreadLake_23 : decode cX5_spreadLake 23 = .ok (.iaload, 1) := by decide +kernel
theorem dX5_spreadLake_24 : decode cX5_spreadLake 24 = .ok (.istore 4, 2) := by decide +kernel
theorem dX5_spreadLake_26 : decode cX5_spreadLake 26 = .ok (.aload_n 0, 1) := by decide +kernel
theorem dX5_spreadLake_27 : decode cX5_spreadLake 27 = .ok (.getfield 20, 3) := by decide +kernel
theorem dX5_spreadLake_30 : decode cX5_spreadLake 30 = .ok (.iload_n 3, 1) := by decide +kernel
theorem dX5_spreadLake_31 : decode cX5_spreadLake 31 = .ok (.iaload, 1) := by decide +kernel
theorem dX5_spreadLake_32 : decode cX5_spreadLake 32 = .ok (.istore 5, 2) := by decide +kernel
theorem dX5_spreadLake_34 : decode cX5_spreadLake 34 = .ok (.aload_n 0, 1) := by decide +kernel
theorem dX5_spreadLake_35 : decode cX5_spreadLake 35 = .ok (.getfield 26, 3) := by decide +kernel
theorem dX5_spreadLake_38 : decode cX5_spreadLake 38 = .ok (.iload_n 3, 1) := by decide +kernel
theorem dX5_spreadLake_39 : decode cX5_spreadLake 39 = .ok (.baload, 1) := by decide +kernel
theorem dX5_spreadLake_40 : decode cX5_spreadLake 40 = .ok (.ifCond .ne 29, 3) := by decide +kernel
theorem dX5_spreadLake_43 : decode cX5_spreadLake 43 = .ok (.aload_n 0, 1) := by decide +kernel
theorem dX5_spreadLake_44 : decode cX5_spreadLake 44 = .ok (.getfield 52, 3) := by decide +kernel
theorem dX5_spreadLake_47 : decode cX5_spreadLake 47 = .ok (.iload 4, 2) := by decide +kernel
theorem dX5_spreadLake_49 : decode cX5_spreadLake 49 = .ok (.iaload, 1) := by decide +kernel
theorem dX5_spreadLake_50 : decode cX5_spreadLake 50 = .ok (.iload_n 1, 1) := by decide +kernel
theorem dX5_spreadLake_51 : decode cX5_spreadLake 51 = .ok (.if_icmp .ne 18, 3) := by decide +kernel
theorem dX5_spreadLake_54 : decode cX5_spreadLake 54 = .ok (.aload_n 0, 1) := by decide +kernel
theorem dX5_spreadLake_55 : decode cX5_spreadLake 55 = .ok (.getfield 52, 3) := by decide +kernel
theorem dX5_spreadLake_58 : decode cX5_spreadLake 58 = .ok (.iload 5, 2) := by decide +kernel
theorem dX5_spreadLake_60 : decode cX5_spreadLake 60 = .ok (.iaload, 1) := by decide +kernel
theorem dX5_spreadLake_61 : decode cX5_spreadLake 61 = .ok (.iload_n 1, 1) := by decide +kernel
theorem dX5_spreadLake_62 : decode cX5_spreadLake 62 = .ok (.if_icmp .ne 7, 3) := by decide +kernel
theorem dX5_spreadLake_65 : decode cX5_spreadLake 65 = .ok (.iconst 1, 1) := by decide +kernel
theorem dX5_spreadLake_66 : decode cX5_spreadLake 66 = .ok (.goto 4, 3) := by decide +kernel
theorem dX5_spreadLake_69 : decode cX5_spreadLake 69 = .ok (.iconst 0, 1) := by decide +kernel
theorem dX5_spreadLake_70 : decode cX5_spreadLake 70 = .ok (.istore 6, 2) := by decide +kernel
theorem dX5_spreadLake_72 : decode cX5_spreadLake 72 = .ok (.iload 6, 2) := by decide +kernel
theorem dX5_spreadLake_74 : decode cX5_spreadLake 74 = .ok (.ifCond .eq 68, 3) := by decide +kernel
theorem dX5_spreadLake_77 : decode cX5_spreadLake 77 = .ok (.aload_n 0, 1) := by decide +kernel
theorem dX5_spreadLake_78 : decode cX5_spreadLake 78 = .ok (.getfield 67, 3) := by decide +kernel
theorem dX5_spreadLake_81 : decode cX5_spreadLake 81 = .ok (.iload 4, 2) := by decide +kernel
theorem dX5_spreadLake_83 : decode cX5_spreadLake 83 = .ok (.iaload, 1) := by decide +kernel
theorem dX5_spreadLake_84 : decode cX5_spreadLake 84 = .ok (.aload_n 0, 1) := by decide +kernel
theorem dX5_spreadLake_85 : decode cX5_spreadLake 85 = .ok (.getfield 179, 3) := by decide +kernel
theorem dX5_spreadLake_88 : decode cX5_spreadLake 88 = .ok (.if_icmp .ne 7, 3) := by decide +kernel
theorem dX5_spreadLake_91 : decode cX5_spreadLake 91 = .ok (.iconst 1, 1) := by decide +kernel
theorem dX5_spreadLake_92 : decode cX5_spreadLake 92 = .ok (.goto 4, 3) := by decide +kernel
theorem dX5_spreadLake_95 : decode cX5_spreadLake 95 = .ok (.iconst 0, 1) := by decide +kernel
theorem dX5_spreadLake_96 : decode cX5_spreadLake 96 = .ok (.aload_n 0, 1) := by decide +kernel
theorem dX5_spreadLake_97 : decode cX5_spreadLake 97 = .ok (.getfield 67, 3) := by decide +kernel
theorem dX5_spreadLake_100 : decode cX5_spreadLake 100 = .ok (.iload 5, 2) := by decide +kernel
theorem dX5_spreadLake_102 : decode cX5_spreadLake 102 = .ok (.iaload, 1) := by decide +kernel
theorem dX5_spreadLake_103 : decode cX5_spreadLake 103 = .ok (.aload_n 0, 1) := by decide +kernel
theorem dX5_spreadLake_104 : decode cX5_spreadLake 104 = .ok (.getfield 179, 3) := by decide +kernel
theorem dX5_spreadLake_107 : decode cX5_spreadLake 107 = .ok (.if_icmp .ne 7, 3) := by decide +kernel
theorem dX5_spreadLake_110 : decode cX5_spreadLake 110 = .ok (.iconst 1, 1) := by decide +kernel
theorem dX5_spreadLake_111 : decode cX5_spreadLake 111 = .ok (.goto 4, 3) := by decide +kernel
theorem dX5_spreadLake_114 : decode cX5_spreadLake 114 = .ok (.iconst 0, 1) := by decide +kernel
theorem dX5_spreadLake_115 : decode cX5_spreadLake 115 = .ok (.if_icmp .eq 27, 3) := by decide +kernel
theorem dX5_spreadLake_118 : decode cX5_spreadLake 118 = .ok (.aload_n 0, 1) := by decide +kernel
theorem dX5_spreadLake_119 : decode cX5_spreadLake 119 = .ok (.getfield 67, 3) := by decide +kernel
theorem dX5_spreadLake_122 : decode cX5_spreadLake 122 = .ok (.iload 4, 2) := by decide +kernel
theorem dX5_spreadLake_124 : decode cX5_spreadLake 124 = .ok (.aload_n 0, 1) := by decide +kernel
theorem dX5_spreadLake_125 : decode cX5_spreadLake 125 = .ok (.getfield 179, 3) := by decide +kernel
theorem dX5_spreadLake_128 : decode cX5_spreadLake 128 = .ok (.iastore, 1) := by decide +kernel
theorem dX5_spreadLake_129 : decode cX5_spreadLake 129 = .ok (.aload_n 0, 1) := by decide +kernel
theorem dX5_spreadLake_130 : decode cX5_spreadLake 130 = .ok (.getfield 67, 3) := by decide +kernel
theorem dX5_spreadLake_133 : decode cX5_spreadLake 133 = .ok (.iload 5, 2) := by decide +kernel
theorem dX5_spreadLake_135 : decode cX5_spreadLake 135 = .ok (.aload_n 0, 1) := by decide +kernel
theorem dX5_spreadLake_136 : decode cX5_spreadLake 136 = .ok (.getfield 179, 3) := by decide +kernel
theorem dX5_spreadLake_139 : decode cX5_spreadLake 139 = .ok (.iastore, 1) := by decide +kernel
theorem dX5_spreadLake_140 : decode cX5_spreadLake 140 = .ok (.iconst 1, 1) := by decide +kernel
theorem dX5_spreadLake_141 : decode cX5_spreadLake 141 = .ok (.istore_n 2, 1) := by decide +kernel
theorem dX5_spreadLake_142 : decode cX5_spreadLake 142 = .ok (.iinc 3 1, 3) := by decide +kernel
theorem dX5_spreadLake_145 : decode cX5_spreadLake 145 = .ok (.goto (-135), 3) := by decide +kernel
theorem dX5_spreadLake_148 : decode cX5_spreadLake 148 = .ok (.goto (-146), 3) := by decide +kernel
theorem dX5_spreadLake_151 : decode cX5_spreadLake 151 = .ok (.return_, 1) := by decide +kernel
theorem dX5_countPores_0 : decode cX5_countPores 0 = .ok (.iconst 0, 1) := by decide +kernel
theorem dX5_countPores_1 : decode cX5_countPores 1 = .ok (.istore_n 2, 1) := by decide +kernel
theorem dX5_countPores_2 : decode cX5_countPores 2 = .ok (.iconst 0, 1) := by decide +kernel
theorem dX5_countPores_3 : decode cX5_countPores 3 = .ok (.istore_n 3, 1) := by decide +kernel
theorem dX5_countPores_4 : decode cX5_countPores 4 = .ok (.iload_n 3, 1) := by decide +kernel
theorem dX5_countPores_5 : decode cX5_countPores 5 = .ok (.aload_n 0, 1) := by decide +kernel
theorem dX5_countPores_6 : decode cX5_countPores 6 = .ok (.getfield 88, 3) := by decide +kernel
theorem dX5_countPores_9 : decode cX5_countPores 9 = .ok (.if_icmp .ge 68, 3) := by decide +kernel
theorem dX5_countPores_12 : decode cX5_countPores 12 = .ok (.iload_n 2, 1) := by decide +kernel
theorem dX5_countPores_13 : decode cX5_countPores 13 = .ok (.iload_n 1, 1) := by decide +kernel
theorem dX5_countPores_14 : decode cX5_countPores 14 = .ok (.iconst 3, 1) := by decide +kernel
theorem dX5_countPores_15 : decode cX5_countPores 15 = .ok (.if_icmp .ne 19, 3) := by decide +kernel
theorem dX5_countPores_18 : decode cX5_countPores 18 = .ok (.aload_n 0, 1) := by decide +kernel
theorem dX5_countPores_19 : decode cX5_countPores 19 = .ok (.iload_n 3, 1) := by decide +kernel
theorem dX5_countPores_20 : decode cX5_countPores 20 = .ok (.invokevirtual 143, 3) := by decide +kernel
theorem dX5_countPores_23 : decode cX5_countPores 23 = .ok (.ifCond .eq 7, 3) := by decide +kernel
theorem dX5_countPores_26 : decode cX5_countPores 26 = .ok (.iconst 1, 1) := by decide +kernel
theorem dX5_countPores_27 : decode cX5_countPores 27 = .ok (.goto 42, 3) := by decide +kernel
theorem dX5_countPores_30 : decode cX5_countPores 30 = .ok (.iconst 0, 1) := by decide +kernel
theorem dX5_countPores_31 : decode cX5_countPores 31 = .ok (.goto 38, 3) := by decide +kernel
theorem dX5_countPores_34 : decode cX5_countPores 34 = .ok (.iload_n 1, 1) := by decide +kernel
theorem dX5_countPores_35 : decode cX5_countPores 35 = .ok (.iconst 4, 1) := by decide +kernel
theorem dX5_countPores_36 : decode cX5_countPores 36 = .ok (.if_icmp .ne 20, 3) := by decide +kernel
theorem dX5_countPores_39 : decode cX5_countPores 39 = .ok (.aload_n 0, 1) := by decide +kernel
theorem dX5_countPores_40 : decode cX5_countPores 40 = .ok (.getfield 52, 3) := by decide +kernel
theorem dX5_countPores_43 : decode cX5_countPores 43 = .ok (.iload_n 3, 1) := by decide +kernel
theorem dX5_countPores_44 : decode cX5_countPores 44 = .ok (.iaload, 1) := by decide +kernel
theorem dX5_countPores_45 : decode cX5_countPores 45 = .ok (.ifCond .lt 7, 3) := by decide +kernel
theorem dX5_countPores_48 : decode cX5_countPores 48 = .ok (.iconst 1, 1) := by decide +kernel
theorem dX5_countPores_49 : decode cX5_countPores 49 = .ok (.goto 20, 3) := by decide +kernel
theorem dX5_countPores_52 : decode cX5_countPores 52 = .ok (.iconst 0, 1) := by decide +kernel
theorem dX5_countPores_53 : decode cX5_countPores 53 = .ok (.goto 16, 3) := by decide +kernel
theorem dX5_countPores_56 : decode cX5_countPores 56 = .ok (.aload_n 0, 1) := by decide +kernel
theorem dX5_countPores_57 : decode cX5_countPores 57 = .ok (.iload_n 3, 1) := by decide +kernel
theorem dX5_countPores_58 : decode cX5_countPores 58 = .ok (.invokevirtual 146, 3) := by decide +kernel
theorem dX5_countPores_61 : decode cX5_countPores 61 = .ok (.ifCond .eq 7, 3) := by decide +kernel
theorem dX5_countPores_64 : decode cX5_countPores 64 = .ok (.iconst 1, 1) := by decide +kernel
theorem dX5_countPores_65 : decode cX5_countPores 65 = .ok (.goto 4, 3) := by decide +kernel
theorem dX5_countPores_68 : decode cX5_countPores 68 = .ok (.iconst 0, 1) := by decide +kernel
theorem dX5_countPores_69 : decode cX5_countPores 69 = .ok (.iadd, 1) := by decide +kernel
theorem dX5_countPores_70 : decode cX5_countPores 70 = .ok (.istore_n 2, 1) := by decide +kernel
theorem dX5_countPores_71 : decode cX5_countPores 71 = .ok (.iinc 3 1, 3) := by decide +kernel
theorem dX5_countPores_74 : decode cX5_countPores 74 = .ok (.goto (-70), 3) := by decide +kernel
theorem dX5_countPores_77 : decode cX5_countPores 77 = .ok (.iload_n 2, 1) := by decide +kernel
theorem dX5_countPores_78 : decode cX5_countPores 78 = .ok (.ireturn, 1) := by decide +kernel
theorem dX5_many_0 : decode cX5_many 0 = .ok (.iload_n 1, 1) := by decide +kernel
theorem dX5_many_1 : decode cX5_many 1 = .ok (.ifCond .lt 9, 3) := by decide +kernel
theorem dX5_many_4 : decode cX5_many 4 = .ok (.iload_n 1, 1) := by decide +kernel
theorem dX5_many_5 : decode cX5_many 5 = .ok (.bipush 8, 2) := by decide +kernel
theorem dX5_many_7 : decode cX5_many 7 = .ok (.if_icmp .le 5, 3) := by decide +kernel
theorem dX5_many_10 : decode cX5_many 10 = .ok (.iconst (-1), 1) := by decide +kernel
theorem dX5_many_11 : decode cX5_many 11 = .ok (.ireturn, 1) := by decide +kernel
theorem dX5_many_12 : decode cX5_many 12 = .ok (.iload_n 1, 1) := by decide +kernel
theorem dX5_many_13 : decode cX5_many 13 = .ok (.iconst 1, 1) := by decide +kernel
theorem dX5_many_14 : decode cX5_many 14 = .ok (.if_icmp .le 9, 3) := by decide +kernel
theorem dX5_many_17 : decode cX5_many 17 = .ok (.iload_n 1, 1) := by decide +kernel
theorem dX5_many_18 : decode cX5_many 18 = .ok (.bipush 8, 2) := by decide +kernel
theorem dX5_many_20 : decode cX5_many 20 = .ok (.if_icmp .ne 31, 3) := by decide +kernel
theorem dX5_many_23 : decode cX5_many 23 = .ok (.iload_n 1, 1) := by decide +kernel
theorem dX5_many_24 : decode cX5_many 24 = .ok (.ifCond .ne 10, 3) := by decide +kernel
theorem dX5_many_27 : decode cX5_many 27 = .ok (.aload_n 0, 1) := by decide +kernel
theorem dX5_many_28 : decode cX5_many 28 = .ok (.getfield 88, 3) := by decide +kernel
theorem dX5_many_31 : decode cX5_many 31 = .ok (.goto 19, 3) := by decide +kernel
theorem dX5_many_34 : decode cX5_many 34 = .ok (.iload_n 1, 1) := by decide +kernel
theorem dX5_many_35 : decode cX5_many 35 = .ok (.iconst 1, 1) := by decide +kernel
theorem dX5_many_36 : decode cX5_many 36 = .ok (.if_icmp .ne 10, 3) := by decide +kernel
theorem dX5_many_39 : decode cX5_many 39 = .ok (.aload_n 0, 1) := by decide +kernel
theorem dX5_many_40 : decode cX5_many 40 = .ok (.getfield 92, 3) := by decide +kernel
theorem dX5_many_43 : decode cX5_many 43 = .ok (.goto 7, 3) := by decide +kernel
theorem dX5_many_46 : decode cX5_many 46 = .ok (.aload_n 0, 1) := by decide +kernel
theorem dX5_many_47 : decode cX5_many 47 = .ok (.getfield 185, 3) := by decide +kernel
theorem dX5_many_50 : decode cX5_many 50 = .ok (.ireturn, 1) := by decide +kernel
theorem dX5_many_51 : decode cX5_many 51 = .ok (.aload_n 0, 1) := by decide +kernel
theorem dX5_many_52 : decode cX5_many 52 = .ok (.getfield 95, 3) := by decide +kernel
theorem dX5_many_55 : decode cX5_many 55 = .ok (.ifCond .ne 6, 3) := by decide +kernel
theorem dX5_many_58 : decode cX5_many 58 = .ok (.bipush (-6), 2) := by decide +kernel
theorem dX5_many_60 : decode cX5_many 60 = .ok (.ireturn, 1) := by decide +kernel
theorem dX5_many_61 : decode cX5_many 61 = .ok (.iload_n 1, 1) := by decide +kernel
theorem dX5_many_62 : decode cX5_many 62 = .ok (.iconst 2, 1) := by decide +kernel
theorem dX5_many_63 : decode cX5_many 63 = .ok (.if_icmp .ne 8, 3) := by decide +kernel
theorem dX5_many_66 : decode cX5_many 66 = .ok (.aload_n 0, 1) := by decide +kernel
theorem dX5_many_67 : decode cX5_many 67 = .ok (.getfield 152, 3) := by decide +kernel
theorem dX5_many_70 : decode cX5_many 70 = .ok (.ireturn, 1) := by decide +kernel
theorem dX5_many_71 : decode cX5_many 71 = .ok (.iload_n 1, 1) := by decide +kernel
theorem dX5_many_72 : decode cX5_many 72 = .ok (.iconst 5, 1) := by decide +kernel
theorem dX5_many_73 : decode cX5_many 73 = .ok (.if_icmp .gt 9, 3) := by decide +kernel
theorem dX5_many_76 : decode cX5_many 76 = .ok (.aload_n 0, 1) := by decide +kernel
theorem dX5_many_77 : decode cX5_many 77 = .ok (.iload_n 1, 1) := by decide +kernel
theorem dX5_many_78 : decode cX5_many 78 = .ok (.invokevirtual 188, 3) := by decide +kernel
theorem dX5_many_81 : decode cX5_many 81 = .ok (.ireturn, 1) := by decide +kernel
theorem dX5_many_82 : decode cX5_many 82 = .ok (.iload_n 1, 1) := by decide +kernel
theorem dX5_many_83 : decode cX5_many 83 = .ok (.bipush 6, 2) := by decide +kernel
theorem dX5_many_85 : decode cX5_many 85 = .ok (.if_icmp .ne 12, 3) := by decide +kernel
theorem dX5_many_88 : decode cX5_many 88 = .ok (.aload_n 0, 1) := by decide +kernel
theorem dX5_many_89 : decode cX5_many 89 = .ok (.invokevirtual 191, 3) := by decide +kernel
theorem dX5_many_92 : decode cX5_many 92 = .ok (.aload_n 0, 1) := by decide +kernel
theorem dX5_many_93 : decode cX5_many 93 = .ok (.getfield 179, 3) := by decide +kernel
theorem dX5_many_96 : decode cX5_many 96 = .ok (.ireturn, 1) := by decide +kernel
theorem dX5_many_97 : decode cX5_many 97 = .ok (.iconst 0, 1) := by decide +kernel
theorem dX5_many_98 : decode cX5_many 98 = .ok (.istore_n 2, 1) := by decide +kernel
theorem dX5_many_99 : decode cX5_many 99 = .ok (.iconst 0, 1) := by decide +kernel
theorem dX5_many_100 : decode cX5_many 100 = .ok (.istore_n 3, 1) := by decide +kernel
theorem dX5_many_101 : decode cX5_many 101 = .ok (.iload_n 3, 1) := by decide +kernel
theorem dX5_many_102 : decode cX5_many 102 = .ok (.aload_n 0, 1) := by decide +kernel
theorem dX5_many_103 : decode cX5_many 103 = .ok (.getfield 92, 3) := by decide +kernel
theorem dX5_many_106 : decode cX5_many 106 = .ok (.if_icmp .ge 25, 3) := by decide +kernel
theorem dX5_many_109 : decode cX5_many 109 = .ok (.iload_n 2, 1) := by decide +kernel
theorem dX5_many_110 : decode cX5_many 110 = .ok (.aload_n 0, 1) := by decide +kernel
theorem dX5_many_111 : decode cX5_many 111 = .ok (.iload_n 3, 1) := by decide +kernel
theorem dX5_many_112 : decode cX5_many 112 = .ok (.invokevirtual 164, 3) := by decide +kernel
theorem dX5_many_115 : decode cX5_many 115 = .ok (.ifCond .eq 7, 3) := by decide +kernel
theorem dX5_many_118 : decode cX5_many 118 = .ok (.iconst 1, 1) := by decide +kernel
theorem dX5_many_119 : decode cX5_many 119 = .ok (.goto 4, 3) := by decide +kernel
theorem dX5_many_122 : decode cX5_many 122 = .ok (.iconst 0, 1) := by decide +kernel
theorem dX5_many_123 : decode cX5_many 123 = .ok (.iadd, 1) := by decide +kernel
theorem dX5_many_124 : decode cX5_many 124 = .ok (.istore_n 2, 1) := by decide +kernel
theorem dX5_many_125 : decode cX5_many 125 = .ok (.iinc 3 1, 3) := by decide +kernel
theorem dX5_many_128 : decode cX5_many 128 = .ok (.goto (-27), 3) := by decide +kernel
theorem dX5_many_131 : decode cX5_many 131 = .ok (.iload_n 2, 1) := by decide +kernel
theorem dX5_many_132 : decode cX5_many 132 = .ok (.ireturn, 1) := by decide +kernel
theorem dX5_opened_0 : decode cX5_opened 0 = .ok (.aload_n 0, 1) := by decide +kernel
theorem dX5_opened_1 : decode cX5_opened 1 = .ok (.getfield 95, 3) := by decide +kernel
theorem dX5_opened_4 : decode cX5_opened 4 = .ok (.ifCond .eq 16, 3) := by decide +kernel
theorem dX5_opened_7 : decode cX5_opened 7 = .ok (.iload_n 1, 1) := by decide +kernel
theorem dX5_opened_8 : decode cX5_opened 8 = .ok (.iconst 1, 1) := by decide +kernel
theorem dX5_opened_9 : decode cX5_opened 9 = .ok (.if_icmp .lt 11, 3) := by decide +kernel
theorem dX5_opened_12 : decode cX5_opened 12 = .ok (.iload_n 1, 1) := by decide +kernel
theorem dX5_opened_13 : decode cX5_opened 13 = .ok (.aload_n 0, 1) := by decide +kernel
theorem dX5_opened_14 : decode cX5_opened 14 = .ok (.getfield 152, 3) := by decide +kernel
theorem dX5_opened_17 : decode cX5_opened 17 = .ok (.if_icmp .le 7, 3) := by decide +kernel
theorem dX5_opened_20 : decode cX5_opened 20 = .ok (.iconst (-1), 1) := by decide +kernel
theorem dX5_opened_21 : decode cX5_opened 21 = .ok (.goto 9, 3) := by decide +kernel
theorem dX5_opened_24 : decode cX5_opened 24 = .ok (.aload_n 0, 1) := by decide +kernel
theorem dX5_opened_25 : decode cX5_opened 25 = .ok (.getfield 43, 3) := by decide +kernel
theorem dX5_opened_28 : decode cX5_opened 28 = .ok (.iload_n 1, 1) := by decide +kernel
theorem dX5_opened_29 : decode cX5_opened 29 = .ok (.iaload, 1) := by decide +kernel
theorem dX5_opened_30 : decode cX5_opened 30 = .ok (.ireturn, 1) := by decide +kernel
theorem dX5_now_0 : decode cX5_now 0 = .ok (.aload_n 0, 1) := by decide +kernel
theorem dX5_now_1 : decode cX5_now 1 = .ok (.getfield 95, 3) := by decide +kernel
theorem dX5_now_4 : decode cX5_now 4 = .ok (.ifCond .ne 6, 3) := by decide +kernel
theorem dX5_now_7 : decode cX5_now 7 = .ok (.bipush (-6), 2) := by decide +kernel
theorem dX5_now_9 : decode cX5_now 9 = .ok (.ireturn, 1) := by decide +kernel
theorem dX5_now_10 : decode cX5_now 10 = .ok (.aload_n 0, 1) := by decide +kernel
theorem dX5_now_11 : decode cX5_now 11 = .ok (.iload_n 1, 1) := by decide +kernel
theorem dX5_now_12 : decode cX5_now 12 = .ok (.invokevirtual 99, 3) := by decide +kernel
theorem dX5_now_15 : decode cX5_now 15 = .ok (.ifCond .eq 12, 3) := by decide +kernel
theorem dX5_now_18 : decode cX5_now 18 = .ok (.iload_n 2, 1) := by decide +kernel
theorem dX5_now_19 : decode cX5_now 19 = .ok (.ifCond .lt 8, 3) := by decide +kernel
theorem dX5_now_22 : decode cX5_now 22 = .ok (.iload_n 2, 1) := by decide +kernel
theorem dX5_now_23 : decode cX5_now 23 = .ok (.iconst 3, 1) := by decide +kernel
theorem dX5_now_24 : decode cX5_now 24 = .ok (.if_icmp .le 6, 3) := by decide +kernel
theorem dX5_now_27 : decode cX5_now 27 = .ok (.bipush (-2), 2) := by decide +kernel
theorem dX5_now_29 : decode cX5_now 29 = .ok (.ireturn, 1) := by decide +kernel
theorem dX5_now_30 : decode cX5_now 30 = .ok (.aload_n 0, 1) := by decide +kernel
theorem dX5_now_31 : decode cX5_now 31 = .ok (.invokevirtual 191, 3) := by decide +kernel
theorem dX5_now_34 : decode cX5_now 34 = .ok (.iload_n 2, 1) := by decide +kernel
theorem dX5_now_35 : decode cX5_now 35 = .ok (.ifCond .ne 12, 3) := by decide +kernel
theorem dX5_now_38 : decode cX5_now 38 = .ok (.aload_n 0, 1) := by decide +kernel
theorem dX5_now_39 : decode cX5_now 39 = .ok (.getfield 46, 3) := by decide +kernel
theorem dX5_now_42 : decode cX5_now 42 = .ok (.iload_n 1, 1) := by decide +kernel
theorem dX5_now_43 : decode cX5_now 43 = .ok (.iaload, 1) := by decide +kernel
theorem dX5_now_44 : decode cX5_now 44 = .ok (.goto 37, 3) := by decide +kernel
theorem dX5_now_47 : decode cX5_now 47 = .ok (.iload_n 2, 1) := by decide +kernel
theorem dX5_now_48 : decode cX5_now 48 = .ok (.iconst 1, 1) := by decide +kernel
theorem dX5_now_49 : decode cX5_now 49 = .ok (.if_icmp .ne 12, 3) := by decide +kernel
theorem dX5_now_52 : decode cX5_now 52 = .ok (.aload_n 0, 1) := by decide +kernel
theorem dX5_now_53 : decode cX5_now 53 = .ok (.getfield 49, 3) := by decide +kernel
theorem dX5_now_56 : decode cX5_now 56 = .ok (.iload_n 1, 1) := by decide +kernel
theorem dX5_now_57 : decode cX5_now 57 = .ok (.iaload, 1) := by decide +kernel
theorem dX5_now_58 : decode cX5_now 58 = .ok (.goto 23, 3) := by decide +kernel
theorem dX5_now_61 : decode cX5_now 61 = .ok (.iload_n 2, 1) := by decide +kernel
theorem dX5_now_62 : decode cX5_now 62 = .ok (.iconst 2, 1) := by decide +kernel
theorem dX5_now_63 : decode cX5_now 63 = .ok (.if_icmp .ne 12, 3) := by decide +kernel
theorem dX5_now_66 : decode cX5_now 66 = .ok (.aload_n 0, 1) := by decide +kernel
theorem dX5_now_67 : decode cX5_now 67 = .ok (.getfield 52, 3) := by decide +kernel
theorem dX5_now_70 : decode cX5_now 70 = .ok (.iload_n 1, 1) := by decide +kernel
theorem dX5_now_71 : decode cX5_now 71 = .ok (.iaload, 1) := by decide +kernel
theorem dX5_now_72 : decode cX5_now 72 = .ok (.goto 9, 3) := by decide +kernel
theorem dX5_now_75 : decode cX5_now 75 = .ok (.aload_n 0, 1) := by decide +kernel
theorem dX5_now_76 : decode cX5_now 76 = .ok (.getfield 67, 3) := by decide +kernel
theorem dX5_now_79 : decode cX5_now 79 = .ok (.iload_n 1, 1) := by decide +kernel
theorem dX5_now_80 : decode cX5_now 80 = .ok (.iaload, 1) := by decide +kernel
theorem dX5_now_81 : decode cX5_now 81 = .ok (.ireturn, 1) := by decide +kernel
theorem dX5_front_0 : decode cX5_front 0 = .ok (.aload_n 0, 1) := by decide +kernel
theorem dX5_front_1 : decode cX5_front 1 = .ok (.getfield 95, 3) := by decide +kernel
theorem dX5_front_4 : decode cX5_front 4 = .ok (.ifCond .eq 7, 3) := by decide +kernel
theorem dX5_front_7 : decode cX5_front 7 = .ok (.iload_n 1, 1) := by decide +kernel
theorem dX5_front_8 : decode cX5_front 8 = .ok (.ifCond .ge 5, 3) := by decide +kernel
theorem dX5_front_11 : decode cX5_front 11 = .ok (.iconst (-1), 1) := by decide +kernel
theorem dX5_front_12 : decode cX5_front 12 = .ok (.ireturn, 1) := by decide +kernel
theorem dX5_front_13 : decode cX5_front 13 = .ok (.iconst 0, 1) := by decide +kernel
theorem dX5_front_14 : decode cX5_front 14 = .ok (.istore_n 2, 1) := by decide +kernel
theorem dX5_front_15 : decode cX5_front 15 = .ok (.iload_n 2, 1) := by decide +kernel
theorem dX5_front_16 : decode cX5_front 16 = .ok (.aload_n 0, 1) := by decide +kernel
theorem dX5_front_17 : decode cX5_front 17 = .ok (.getfield 92, 3) := by decide +kernel
theorem dX5_front_20 : decode cX5_front 20 = .ok (.if_icmp .ge 71, 3) := by decide +kernel
theorem dX5_front_23 : decode cX5_front 23 = .ok (.iconst 0, 1) := by decide +kernel
theorem dX5_front_24 : decode cX5_front 24 = .ok (.istore_n 3, 1) := by decide +kernel
theorem dX5_front_25 : decode cX5_front 25 = .ok (.iconst 0, 1) := by decide +kernel
theorem dX5_front_26 : decode cX5_front 26 = .ok (.istore 4, 2) := by decide +kernel
theorem dX5_front_28 : decode cX5_front 28 = .ok (.iload 4, 2) := by decide +kernel
theorem dX5_front_30 : decode cX5_front 30 = .ok (.aload_n 0, 1) := by decide +kernel
theorem dX5_front_31 : decode cX5_front 31 = .ok (.getfield 92, 3) := by decide +kernel
theorem dX5_front_34 : decode cX5_front 34 = .ok (.if_icmp .ge 36, 3) := by decide +kernel
theorem dX5_front_37 : decode cX5_front 37 = .ok (.iload_n 3, 1) := by decide +kernel
theorem dX5_front_38 : decode cX5_front 38 = .ok (.aload_n 0, 1) := by decide +kernel
theorem dX5_front_39 : decode cX5_front 39 = .ok (.iload 4, 2) := by decide +kernel
theorem dX5_front_41 : decode cX5_front 41 = .ok (.invokevirtual 164, 3) := by decide +kernel
theorem dX5_front_44 : decode cX5_front 44 = .ok (.ifCond .eq 17, 3) := by decide +kernel
theorem dX5_front_47 : decode cX5_front 47 = .ok (.aload_n 0, 1) := by decide +kernel
theorem dX5_front_48 : decode cX5_front 48 = .ok (.iload 4, 2) := by decide +kernel
theorem dX5_front_50 : decode cX5_front 50 = .ok (.iload_n 2, 1) := by decide +kernel
theorem dX5_front_51 : decode cX5_front 51 = .ok (.invokevirtual 110, 3) := by decide +kernel
theorem dX5_front_54 : decode cX5_front 54 = .ok (.ifCond .eq 7, 3) := by decide +kernel
theorem dX5_front_57 : decode cX5_front 57 = .ok (.iconst 1, 1) := by decide +kernel
theorem dX5_front_58 : decode cX5_front 58 = .ok (.goto 4, 3) := by decide +kernel
theorem dX5_front_61 : decode cX5_front 61 = .ok (.iconst 0, 1) := by decide +kernel
theorem dX5_front_62 : decode cX5_front 62 = .ok (.iadd, 1) := by decide +kernel
theorem dX5_front_63 : decode cX5_front 63 = .ok (.istore_n 3, 1) := by decide +kernel
theorem dX5_front_64 : decode cX5_front 64 = .ok (.iinc 4 1, 3) := by decide +kernel
theorem dX5_front_67 : decode cX5_front 67 = .ok (.goto (-39), 3) := by decide +kernel
theorem dX5_front_70 : decode cX5_front 70 = .ok (.aload_n 0, 1) := by decide +kernel
theorem dX5_front_71 : decode cX5_front 71 = .ok (.iload_n 2, 1) := by decide +kernel
theorem dX5_front_72 : decode cX5_front 72 = .ok (.invokevirtual 164, 3) := by decide +kernel
theorem dX5_front_75 : decode cX5_front 75 = .ok (.ifCond .eq 10, 3) := by decide +kernel
theorem dX5_front_78 : decode cX5_front 78 = .ok (.iload_n 3, 1) := by decide +kernel
theorem dX5_front_79 : decode cX5_front 79 = .ok (.iload_n 1, 1) := by decide +kernel
theorem dX5_front_80 : decode cX5_front 80 = .ok (.if_icmp .ne 5, 3) := by decide +kernel
theorem dX5_front_83 : decode cX5_front 83 = .ok (.iload_n 2, 1) := by decide +kernel
theorem dX5_front_84 : decode cX5_front 84 = .ok (.ireturn, 1) := by decide +kernel
theorem dX5_front_85 : decode cX5_front 85 = .ok (.iinc 2 1, 3) := by decide +kernel
theorem dX5_front_88 : decode cX5_front 88 = .ok (.goto (-73), 3) := by decide +kernel
theorem dX5_front_91 : decode cX5_front 91 = .ok (.iconst (-1), 1) := by decide +kernel
theorem dX5_front_92 : decode cX5_front 92 = .ok (.ireturn, 1) := by decide +kernel
theorem dX5_lake_0 : decode cX5_lake 0 = .ok (.aload_n 0, 1) := by decide +kernel
theorem dX5_lake_1 : decode cX5_lake 1 = .ok (.getfield 95, 3) := by decide +kernel
theorem dX5_lake_4 : decode cX5_lake 4 = .ok (.ifCond .ne 6, 3) := by decide +kernel
theorem dX5_lake_7 : decode cX5_lake 7 = .ok (.bipush (-6), 2) := by decide +kernel
theorem dX5_lake_9 : decode cX5_lake 9 = .ok (.ireturn, 1) := by decide +kernel
theorem dX5_lake_10 : decode cX5_lake 10 = .ok (.aload_n 0, 1) := by decide +kernel
theorem dX5_lake_11 : decode cX5_lake 11 = .ok (.invokevirtual 191, 3) := by decide +kernel
theorem dX5_lake_14 : decode cX5_lake 14 = .ok (.iload_n 1, 1) := by decide +kernel
theorem dX5_lake_15 : decode cX5_lake 15 = .ok (.ifCond .lt 20, 3) := by decide +kernel
theorem dX5_lake_18 : decode cX5_lake 18 = .ok (.iload_n 1, 1) := by decide +kernel
theorem dX5_lake_19 : decode cX5_lake 19 = .ok (.aload_n 0, 1) := by decide +kernel
theorem dX5_lake_20 : decode cX5_lake 20 = .ok (.getfield 179, 3) := by decide +kernel
theorem dX5_lake_23 : decode cX5_lake 23 = .ok (.if_icmp .ge 12, 3) := by decide +kernel
theorem dX5_lake_26 : decode cX5_lake 26 = .ok (.iload_n 2, 1) := by decide +kernel
theorem dX5_lake_27 : decode cX5_lake 27 = .ok (.ifCond .lt 8, 3) := by decide +kernel
theorem dX5_lake_30 : decode cX5_lake 30 = .ok (.iload_n 2, 1) := by decide +kernel
theorem dX5_lake_31 : decode cX5_lake 31 = .ok (.iconst 3, 1) := by decide +kernel
theorem dX5_lake_32 : decode cX5_lake 32 = .ok (.if_icmp .le 6, 3) := by decide +kernel
theorem dX5_lake_35 : decode cX5_lake 35 = .ok (.bipush (-2), 2) := by decide +kernel
theorem dX5_lake_37 : decode cX5_lake 37 = .ok (.ireturn, 1) := by decide +kernel
theorem dX5_lake_38 : decode cX5_lake 38 = .ok (.iconst 0, 1) := by decide +kernel
theorem dX5_lake_39 : decode cX5_lake 39 = .ok (.istore_n 3, 1) := by decide +kernel
theorem dX5_lake_40 : decode cX5_lake 40 = .ok (.iconst (-1), 1) := by decide +kernel
theorem dX5_lake_41 : decode cX5_lake 41 = .ok (.istore 4, 2) := by decide +kernel
theorem dX5_lake_43 : decode cX5_lake 43 = .ok (.aload_n 0, 1) := by decide +kernel
theorem dX5_lake_44 : decode cX5_lake 44 = .ok (.getfield 88, 3) := by decide +kernel
theorem dX5_lake_47 : decode cX5_lake 47 = .ok (.iconst 1, 1) := by decide +kernel
theorem dX5_lake_48 : decode cX5_lake 48 = .ok (.isub, 1) := by decide +kernel
theorem dX5_lake_49 : decode cX5_lake 49 = .ok (.istore 5, 2) := by decide +kernel
theorem dX5_lake_51 : decode cX5_lake 51 = .ok (.iload 5, 2) := by decide +kernel
theorem dX5_lake_53 : decode cX5_lake 53 = .ok (.ifCond .lt 48, 3) := by decide +kernel
theorem dX5_lake_56 : decode cX5_lake 56 = .ok (.iload_n 3, 1) := by decide +kernel
theorem dX5_lake_57 : decode cX5_lake 57 = .ok (.aload_n 0, 1) := by decide +kernel
theorem dX5_lake_58 : decode cX5_lake 58 = .ok (.getfield 67, 3) := by decide +kernel
theorem dX5_lake_61 : decode cX5_lake 61 = .ok (.iload 5, 2) := by decide +kernel
theorem dX5_lake_63 : decode cX5_lake 63 = .ok (.iaload, 1) := by decide +kernel
theorem dX5_lake_64 : decode cX5_lake 64 = .ok (.iload_n 1, 1) := by decide +kernel
theorem dX5_lake_65 : decode cX5_lake 65 = .ok (.if_icmp .ne 7, 3) := by decide +kernel
theorem dX5_lake_68 : decode cX5_lake 68 = .ok (.iconst 1, 1) := by decide +kernel
theorem dX5_lake_69 : decode cX5_lake 69 = .ok (.goto 4, 3) := by decide +kernel
theorem dX5_lake_72 : decode cX5_lake 72 = .ok (.iconst 0, 1) := by decide +kernel
theorem dX5_lake_73 : decode cX5_lake 73 = .ok (.iadd, 1) := by decide +kernel
theorem dX5_lake_74 : decode cX5_lake 74 = .ok (.istore_n 3, 1) := by decide +kernel
theorem dX5_lake_75 : decode cX5_lake 75 = .ok (.aload_n 0, 1) := by decide +kernel
theorem dX5_lake_76 : decode cX5_lake 76 = .ok (.getfield 67, 3) := by decide +kernel
theorem dX5_lake_79 : decode cX5_lake 79 = .ok (.iload 5, 2) := by decide +kernel
theorem dX5_lake_81 : decode cX5_lake 81 = .ok (.iaload, 1) := by decide +kernel
theorem dX5_lake_82 : decode cX5_lake 82 = .ok (.iload_n 1, 1) := by decide +kernel
theorem dX5_lake_83 : decode cX5_lake 83 = .ok (.if_icmp .ne 8, 3) := by decide +kernel
theorem dX5_lake_86 : decode cX5_lake 86 = .ok (.iload 5, 2) := by decide +kernel
theorem dX5_lake_88 : decode cX5_lake 88 = .ok (.goto 5, 3) := by decide +kernel
theorem dX5_lake_91 : decode cX5_lake 91 = .ok (.iload 4, 2) := by decide +kernel
theorem dX5_lake_93 : decode cX5_lake 93 = .ok (.istore 4, 2) := by decide +kernel
theorem dX5_lake_95 : decode cX5_lake 95 = .ok (.iinc 5 (-1), 3) := by decide +kernel
theorem dX5_lake_98 : decode cX5_lake 98 = .ok (.goto (-47), 3) := by decide +kernel
theorem dX5_lake_101 : decode cX5_lake 101 = .ok (.iconst (-1), 1) := by decide +kernel
theorem dX5_lake_102 : decode cX5_lake 102 = .ok (.istore 5, 2) := by decide +kernel
theorem dX5_lake_104 : decode cX5_lake 104 = .ok (.iconst 1, 1) := by decide +kernel
theorem dX5_lake_105 : decode cX5_lake 105 = .ok (.istore 6, 2) := by decide +kernel
theorem dX5_lake_107 : decode cX5_lake 107 = .ok (.iload 6, 2) := by decide +kernel
theorem dX5_lake_109 : decode cX5_lake 109 = .ok (.aload_n 0, 1) := by decide +kernel
theorem dX5_lake_110 : decode cX5_lake 110 = .ok (.getfield 52, 3) := by decide +kernel
theorem dX5_lake_113 : decode cX5_lake 113 = .ok (.iload 4, 2) := by decide +kernel
theorem dX5_lake_115 : decode cX5_lake 115 = .ok (.iaload, 1) := by decide +kernel
theorem dX5_lake_116 : decode cX5_lake 116 = .ok (.if_icmp .gt 43, 3) := by decide +kernel
theorem dX5_lake_119 : decode cX5_lake 119 = .ok (.aload_n 0, 1) := by decide +kernel
theorem dX5_lake_120 : decode cX5_lake 120 = .ok (.aload_n 0, 1) := by decide +kernel
theorem dX5_lake_121 : decode cX5_lake 121 = .ok (.getfield 43, 3) := by decide +kernel
theorem dX5_lake_124 : decode cX5_lake 124 = .ok (.iload 6, 2) := by decide +kernel
theorem dX5_lake_126 : decode cX5_lake 126 = .ok (.iaload, 1) := by decide +kernel
theorem dX5_lake_127 : decode cX5_lake 127 = .ok (.invokevirtual 114, 3) := by decide +kernel
theorem dX5_lake_130 : decode cX5_lake 130 = .ok (.iload 5, 2) := by decide +kernel
theorem dX5_lake_132 : decode cX5_lake 132 = .ok (.if_icmp .le 17, 3) := by decide +kernel
theorem dX5_lake_135 : decode cX5_lake 135 = .ok (.aload_n 0, 1) := by decide +kernel
theorem dX5_lake_136 : decode cX5_lake 136 = .ok (.aload_n 0, 1) := by decide +kernel
theorem dX5_lake_137 : decode cX5_lake 137 = .ok (.getfield 43, 3) := by decide +kernel
theorem dX5_lake_140 : decode cX5_lake 140 = .ok (.iload 6, 2) := by decide +kernel
theorem dX5_lake_142 : decode cX5_lake 142 = .ok (.iaload, 1) := by decide +kernel
theorem dX5_lake_143 : decode cX5_lake 143 = .ok (.invokevirtual 114, 3) := by decide +kernel
theorem dX5_lake_146 : decode cX5_lake 146 = .ok (.goto 5, 3) := by decide +kernel
theorem dX5_lake_149 : decode cX5_lake 149 = .ok (.iload 5, 2) := by decide +kernel
theorem dX5_lake_151 : decode cX5_lake 151 = .ok (.istore 5, 2) := by decide +kernel
theorem dX5_lake_153 : decode cX5_lake 153 = .ok (.iinc 6 1, 3) := by decide +kernel
theorem dX5_lake_156 : decode cX5_lake 156 = .ok (.goto (-49), 3) := by decide +kernel
theorem dX5_lake_159 : decode cX5_lake 159 = .ok (.iload_n 2, 1) := by decide +kernel
theorem dX5_lake_160 : decode cX5_lake 160 = .ok (.ifCond .ne 13, 3) := by decide +kernel
theorem dX5_lake_163 : decode cX5_lake 163 = .ok (.aload_n 0, 1) := by decide +kernel
theorem dX5_lake_164 : decode cX5_lake 164 = .ok (.getfield 52, 3) := by decide +kernel
theorem dX5_lake_167 : decode cX5_lake 167 = .ok (.iload 4, 2) := by decide +kernel
theorem dX5_lake_169 : decode cX5_lake 169 = .ok (.iaload, 1) := by decide +kernel
theorem dX5_lake_170 : decode cX5_lake 170 = .ok (.goto 24, 3) := by decide +kernel
theorem dX5_lake_173 : decode cX5_lake 173 = .ok (.iload_n 2, 1) := by decide +kernel
theorem dX5_lake_174 : decode cX5_lake 174 = .ok (.iconst 1, 1) := by decide +kernel
theorem dX5_lake_175 : decode cX5_lake 175 = .ok (.if_icmp .ne 7, 3) := by decide +kernel
theorem dX5_lake_178 : decode cX5_lake 178 = .ok (.iload_n 3, 1) := by decide +kernel
theorem dX5_lake_179 : decode cX5_lake 179 = .ok (.goto 15, 3) := by decide +kernel
theorem dX5_lake_182 : decode cX5_lake 182 = .ok (.iload_n 2, 1) := by decide +kernel
theorem dX5_lake_183 : decode cX5_lake 183 = .ok (.iconst 2, 1) := by decide +kernel
theorem dX5_lake_184 : decode cX5_lake 184 = .ok (.if_icmp .ne 8, 3) := by decide +kernel
theorem dX5_lake_187 : decode cX5_lake 187 = .ok (.iload 4, 2) := by decide +kernel
theorem dX5_lake_189 : decode cX5_lake 189 = .ok (.goto 5, 3) := by decide +kernel
theorem dX5_lake_192 : decode cX5_lake 192 = .ok (.iload 5, 2) := by decide +kernel
theorem dX5_lake_194 : decode cX5_lake 194 = .ok (.ireturn, 1) := by decide +kernel
theorem dX5_through_0 : decode cX5_through 0 = .ok (.aload_n 0, 1) := by decide +kernel
theorem dX5_through_1 : decode cX5_through 1 = .ok (.getfield 95, 3) := by decide +kernel
theorem dX5_through_4 : decode cX5_through 4 = .ok (.ifCond .ne 6, 3) := by decide +kernel
theorem dX5_through_7 : decode cX5_through 7 = .ok (.bipush (-6), 2) := by decide +kernel
theorem dX5_through_9 : decode cX5_through 9 = .ok (.ireturn, 1) := by decide +kernel
theorem dX5_through_10 : decode cX5_through 10 = .ok (.iconst (-1), 1) := by decide +kernel
theorem dX5_through_11 : decode cX5_through 11 = .ok (.istore_n 1, 1) := by decide +kernel
theorem dX5_through_12 : decode cX5_through 12 = .ok (.iconst 0, 1) := by decide +kernel
theorem dX5_through_13 : decode cX5_through 13 = .ok (.istore_n 2, 1) := by decide +kernel
theorem dX5_through_14 : decode cX5_through 14 = .ok (.iload_n 2, 1) := by decide +kernel
theorem dX5_through_15 : decode cX5_through 15 = .ok (.aload_n 0, 1) := by decide +kernel
theorem dX5_through_16 : decode cX5_through 16 = .ok (.getfield 88, 3) := by decide +kernel
theorem dX5_through_19 : decode cX5_through 19 = .ok (.if_icmp .ge 48, 3) := by decide +kernel
theorem dX5_through_22 : decode cX5_through 22 = .ok (.aload_n 0, 1) := by decide +kernel
theorem dX5_through_23 : decode cX5_through 23 = .ok (.getfield 7, 3) := by decide +kernel
theorem dX5_through_26 : decode cX5_through 26 = .ok (.iload_n 2, 1) := by decide +kernel
theorem dX5_through_27 : decode cX5_through 27 = .ok (.iaload, 1) := by decide +kernel
theorem dX5_through_28 : decode cX5_through 28 = .ok (.iconst 4, 1) := by decide +kernel
theorem dX5_through_29 : decode cX5_through 29 = .ok (.if_icmp .ne 32, 3) := by decide +kernel
theorem dX5_through_32 : decode cX5_through 32 = .ok (.aload_n 0, 1) := by decide +kernel
theorem dX5_through_33 : decode cX5_through 33 = .ok (.iload_n 2, 1) := by decide +kernel
theorem dX5_through_34 : decode cX5_through 34 = .ok (.invokevirtual 143, 3) := by decide +kernel
theorem dX5_through_37 : decode cX5_through 37 = .ok (.ifCond .eq 24, 3) := by decide +kernel
theorem dX5_through_40 : decode cX5_through 40 = .ok (.iload_n 1, 1) := by decide +kernel
theorem dX5_through_41 : decode cX5_through 41 = .ok (.ifCond .lt 13, 3) := by decide +kernel
theorem dX5_through_44 : decode cX5_through 44 = .ok (.aload_n 0, 1) := by decide +kernel
theorem dX5_through_45 : decode cX5_through 45 = .ok (.getfield 46, 3) := by decide +kernel
theorem dX5_through_48 : decode cX5_through 48 = .ok (.iload_n 2, 1) := by decide +kernel
theorem dX5_through_49 : decode cX5_through 49 = .ok (.iaload, 1) := by decide +kernel
theorem dX5_through_50 : decode cX5_through 50 = .ok (.iload_n 1, 1) := by decide +kernel
theorem dX5_through_51 : decode cX5_through 51 = .ok (.if_icmp .ge 10, 3) := by decide +kernel
theorem dX5_through_54 : decode cX5_through 54 = .ok (.aload_n 0, 1) := by decide +kernel
theorem dX5_through_55 : decode cX5_through 55 = .ok (.getfield 46, 3) := by decide +kernel
theorem dX5_through_58 : decode cX5_through 58 = .ok (.iload_n 2, 1) := by decide +kernel
theorem dX5_through_59 : decode cX5_through 59 = .ok (.iaload, 1) := by decide +kernel
theorem dX5_through_60 : decode cX5_through 60 = .ok (.istore_n 1, 1) := by decide +kernel
theorem dX5_through_61 : decode cX5_through 61 = .ok (.iinc 2 1, 3) := by decide +kernel
theorem dX5_through_64 : decode cX5_through 64 = .ok (.goto (-50), 3) := by decide +kernel
theorem dX5_through_67 : decode cX5_through 67 = .ok (.iload_n 1, 1) := by decide +kernel
theorem dX5_through_68 : decode cX5_through 68 = .ok (.ireturn, 1) := by decide +kernel
theorem dX5_plainRun_0 : decode cX5_plainRun 0 = .ok (.iconst 0, 1) := by decide +kernel
theorem dX5_plainRun_1 : decode cX5_plainRun 1 = .ok (.istore_n 1, 1) := by decide +kernel
theorem dX5_plainRun_2 : decode cX5_plainRun 2 = .ok (.iload_n 1, 1) := by decide +kernel
theorem dX5_plainRun_3 : decode cX5_plainRun 3 = .ok (.aload_n 0, 1) := by decide +kernel
theorem dX5_plainRun_4 : decode cX5_plainRun 4 = .ok (.getfield 88, 3) := by decide +kernel
theorem dX5_plainRun_7 : decode cX5_plainRun 7 = .ok (.if_icmp .ge 30, 3) := by decide +kernel
theorem dX5_plainRun_10 : decode cX5_plainRun 10 = .ok (.aload_n 0, 1) := by decide +kernel
theorem dX5_plainRun_11 : decode cX5_plainRun 11 = .ok (.getfield 70, 3) := by decide +kernel
theorem dX5_plainRun_14 : decode cX5_plainRun 14 = .ok (.iload_n 1, 1) := by decide +kernel
theorem dX5_plainRun_15 : decode cX5_plainRun 15 = .ok (.aload_n 0, 1) := by decide +kernel
theorem dX5_plainRun_16 : decode cX5_plainRun 16 = .ok (.getfield 13, 3) := by decide +kernel
theorem dX5_plainRun_19 : decode cX5_plainRun 19 = .ok (.iload_n 1, 1) := by decide +kernel
theorem dX5_plainRun_20 : decode cX5_plainRun 20 = .ok (.baload, 1) := by decide +kernel
theorem dX5_plainRun_21 : decode cX5_plainRun 21 = .ok (.ifCond .eq 7, 3) := by decide +kernel
theorem dX5_plainRun_24 : decode cX5_plainRun 24 = .ok (.iconst (-1), 1) := by decide +kernel
theorem dX5_plainRun_25 : decode cX5_plainRun 25 = .ok (.goto 5, 3) := by decide +kernel
theorem dX5_plainRun_28 : decode cX5_plainRun 28 = .ok (.bipush (-2), 2) := by decide +kernel
theorem dX5_plainRun_30 : decode cX5_plainRun 30 = .ok (.iastore, 1) := by decide +kernel
theorem dX5_plainRun_31 : decode cX5_plainRun 31 = .ok (.iinc 1 1, 3) := by decide +kernel
theorem dX5_plainRun_34 : decode cX5_plainRun 34 = .ok (.goto (-32), 3) := by decide +kernel
theorem dX5_plainRun_37 : decode cX5_plainRun 37 = .ok (.iconst 0, 1) := by decide +kernel
theorem dX5_plainRun_38 : decode cX5_plainRun 38 = .ok (.istore_n 1, 1) := by decide +kernel
theorem dX5_plainRun_39 : decode cX5_plainRun 39 = .ok (.iload_n 1, 1) := by decide +kernel
theorem dX5_plainRun_40 : decode cX5_plainRun 40 = .ok (.ifCond .lt 148, 3) := by decide +kernel
theorem dX5_plainRun_43 : decode cX5_plainRun 43 = .ok (.iconst (-1), 1) := by decide +kernel
theorem dX5_plainRun_44 : decode cX5_plainRun 44 = .ok (.istore_n 1, 1) := by decide +kernel
theorem dX5_plainRun_45 : decode cX5_plainRun 45 = .ok (.iconst 0, 1) := by decide +kernel
theorem dX5_plainRun_46 : decode cX5_plainRun 46 = .ok (.istore_n 2, 1) := by decide +kernel
theorem dX5_plainRun_47 : decode cX5_plainRun 47 = .ok (.iload_n 2, 1) := by decide +kernel
theorem dX5_plainRun_48 : decode cX5_plainRun 48 = .ok (.aload_n 0, 1) := by decide +kernel
theorem dX5_plainRun_49 : decode cX5_plainRun 49 = .ok (.getfield 92, 3) := by decide +kernel
theorem dX5_plainRun_52 : decode cX5_plainRun 52 = .ok (.if_icmp .ge 92, 3) := by decide +kernel
theorem dX5_plainRun_55 : decode cX5_plainRun 55 = .ok (.aload_n 0, 1) := by decide +kernel
theorem dX5_plainRun_56 : decode cX5_plainRun 56 = .ok (.getfield 26, 3) := by decide +kernel
theorem dX5_plainRun_59 : decode cX5_plainRun 59 = .ok (.iload_n 2, 1) := by decide +kernel
theorem dX5_plainRun_60 : decode cX5_plainRun 60 = .ok (.baload, 1) := by decide +kernel
theorem dX5_plainRun_61 : decode cX5_plainRun 61 = .ok (.ifCond .ne 52, 3) := by decide +kernel
theorem dX5_plainRun_64 : decode cX5_plainRun 64 = .ok (.aload_n 0, 1) := by decide +kernel
theorem dX5_plainRun_65 : decode cX5_plainRun 65 = .ok (.getfield 70, 3) := by decide +kernel
theorem dX5_plainRun_68 : decode cX5_plainRun 68 = .ok (.aload_n 0, 1) := by decide +kernel
theorem dX5_plainRun_69 : decode cX5_plainRun 69 = .ok (.getfield 17, 3) := by decide +kernel
theorem dX5_plainRun_72 : decode cX5_plainRun 72 = .ok (.iload_n 2, 1) := by decide +kernel
theorem dX5_plainRun_73 : decode cX5_plainRun 73 = .ok (.iaload, 1) := by decide +kernel
theorem dX5_plainRun_74 : decode cX5_plainRun 74 = .ok (.iaload, 1) := by decide +kernel
theorem dX5_plainRun_75 : decode cX5_plainRun 75 = .ok (.bipush (-2), 2) := by decide +kernel
theorem dX5_plainRun_77 : decode cX5_plainRun 77 = .ok (.if_icmp .ne 7, 3) := by decide +kernel
theorem dX5_plainRun_80 : decode cX5_plainRun 80 = .ok (.iconst 1, 1) := by decide +kernel
theorem dX5_plainRun_81 : decode cX5_plainRun 81 = .ok (.goto 4, 3) := by decide +kernel
theorem dX5_plainRun_84 : decode cX5_plainRun 84 = .ok (.iconst 0, 1) := by decide +kernel
theorem dX5_plainRun_85 : decode cX5_plainRun 85 = .ok (.aload_n 0, 1) := by decide +kernel
theorem dX5_plainRun_86 : decode cX5_plainRun 86 = .ok (.getfield 70, 3) := by decide +kernel
theorem dX5_plainRun_89 : decode cX5_plainRun 89 = .ok (.aload_n 0, 1) := by decide +kernel
theorem dX5_plainRun_90 : decode cX5_plainRun 90 = .ok (.getfield 20, 3) := by decide +kernel
theorem dX5_plainRun_93 : decode cX5_plainRun 93 = .ok (.iload_n 2, 1) := by decide +kernel
theorem dX5_plainRun_94 : decode cX5_plainRun 94 = .ok (.iaload, 1) := by decide +kernel
theorem dX5_plainRun_95 : decode cX5_plainRun 95 = .ok (.iaload, 1) := by decide +kernel
theorem dX5_plainRun_96 : decode cX5_plainRun 96 = .ok (.bipush (-2), 2) := by decide +kernel
theorem dX5_plainRun_98 : decode cX5_plainRun 98 = .ok (.if_icmp .ne 7, 3) := by decide +kernel
theorem dX5_plainRun_101 : decode cX5_plainRun 101 = .ok (.iconst 1, 1) := by decide +kernel
theorem dX5_plainRun_102 : decode cX5_plainRun 102 = .ok (.goto 4, 3) := by decide +kernel
theorem dX5_plainRun_105 : decode cX5_plainRun 105 = .ok (.iconst 0, 1) := by decide +kernel
theorem dX5_plainRun_106 : decode cX5_plainRun 106 = .ok (.if_icmp .eq 7, 3) := by decide +kernel
theorem dX5_plainRun_109 : decode cX5_plainRun 109 = .ok (.iconst 1, 1) := by decide +kernel
theorem dX5_plainRun_110 : decode cX5_plainRun 110 = .ok (.goto 4, 3) := by decide +kernel
theorem dX5_plainRun_113 : decode cX5_plainRun 113 = .ok (.iconst 0, 1) := by decide +kernel
theorem dX5_plainRun_114 : decode cX5_plainRun 114 = .ok (.istore_n 3, 1) := by decide +kernel
theorem dX5_plainRun_115 : decode cX5_plainRun 115 = .ok (.iload_n 3, 1) := by decide +kernel
theorem dX5_plainRun_116 : decode cX5_plainRun 116 = .ok (.ifCond .eq 20, 3) := by decide +kernel
theorem dX5_plainRun_119 : decode cX5_plainRun 119 = .ok (.iload_n 1, 1) := by decide +kernel
theorem dX5_plainRun_120 : decode cX5_plainRun 120 = .ok (.ifCond .lt 12, 3) := by decide +kernel
theorem dX5_plainRun_123 : decode cX5_plainRun 123 = .ok (.aload_n 0, 1) := by decide +kernel
theorem dX5_plainRun_124 : decode cX5_plainRun 124 = .ok (.iload_n 2, 1) := by decide +kernel
theorem dX5_plainRun_125 : decode cX5_plainRun 125 = .ok (.iload_n 1, 1) := by decide +kernel
theorem dX5_plainRun_126 : decode cX5_plainRun 126 = .ok (.invokevirtual 110, 3) := by decide +kernel
theorem dX5_plainRun_129 : decode cX5_plainRun 129 = .ok (.ifCond .eq 7, 3) := by decide +kernel
theorem dX5_plainRun_132 : decode cX5_plainRun 132 = .ok (.iload_n 2, 1) := by decide +kernel
theorem dX5_plainRun_133 : decode cX5_plainRun 133 = .ok (.goto 4, 3) := by decide +kernel
theorem dX5_plainRun_136 : decode cX5_plainRun 136 = .ok (.iload_n 1, 1) := by decide +kernel
theorem dX5_plainRun_137 : decode cX5_plainRun 137 = .ok (.istore_n 1, 1) := by decide +kernel
theorem dX5_plainRun_138 : decode cX5_plainRun 138 = .ok (.iinc 2 1, 3) := by decide +kernel
theorem dX5_plainRun_141 : decode cX5_plainRun 141 = .ok (.goto (-94), 3) := by decide +kernel
theorem dX5_plainRun_144 : decode cX5_plainRun 144 = .ok (.iload_n 1, 1) := by decide +kernel
theorem dX5_plainRun_145 : decode cX5_plainRun 145 = .ok (.ifCond .lt (-106), 3) := by decide +kernel
theorem dX5_plainRun_148 : decode cX5_plainRun 148 = .ok (.aload_n 0, 1) := by decide +kernel
theorem dX5_plainRun_149 : decode cX5_plainRun 149 = .ok (.getfield 70, 3) := by decide +kernel
theorem dX5_plainRun_152 : decode cX5_plainRun 152 = .ok (.aload_n 0, 1) := by decide +kernel
theorem dX5_plainRun_153 : decode cX5_plainRun 153 = .ok (.getfield 70, 3) := by decide +kernel
theorem dX5_plainRun_156 : decode cX5_plainRun 156 = .ok (.aload_n 0, 1) := by decide +kernel
theorem dX5_plainRun_157 : decode cX5_plainRun 157 = .ok (.getfield 17, 3) := by decide +kernel
theorem dX5_plainRun_160 : decode cX5_plainRun 160 = .ok (.iload_n 1, 1) := by decide +kernel
theorem dX5_plainRun_161 : decode cX5_plainRun 161 = .ok (.iaload, 1) := by decide +kernel
theorem dX5_plainRun_162 : decode cX5_plainRun 162 = .ok (.iaload, 1) := by decide +kernel
theorem dX5_plainRun_163 : decode cX5_plainRun 163 = .ok (.bipush (-2), 2) := by decide +kernel
theorem dX5_plainRun_165 : decode cX5_plainRun 165 = .ok (.if_icmp .ne 12, 3) := by decide +kernel
theorem dX5_plainRun_168 : decode cX5_plainRun 168 = .ok (.aload_n 0, 1) := by decide +kernel
theorem dX5_plainRun_169 : decode cX5_plainRun 169 = .ok (.getfield 17, 3) := by decide +kernel
theorem dX5_plainRun_172 : decode cX5_plainRun 172 = .ok (.iload_n 1, 1) := by decide +kernel
theorem dX5_plainRun_173 : decode cX5_plainRun 173 = .ok (.iaload, 1) := by decide +kernel
theorem dX5_plainRun_174 : decode cX5_plainRun 174 = .ok (.goto 9, 3) := by decide +kernel
theorem dX5_plainRun_177 : decode cX5_plainRun 177 = .ok (.aload_n 0, 1) := by decide +kernel
theorem dX5_plainRun_178 : decode cX5_plainRun 178 = .ok (.getfield 20, 3) := by decide +kernel
theorem dX5_plainRun_181 : decode cX5_plainRun 181 = .ok (.iload_n 1, 1) := by decide +kernel
theorem dX5_plainRun_182 : decode cX5_plainRun 182 = .ok (.iaload, 1) := by decide +kernel
theorem dX5_plainRun_183 : decode cX5_plainRun 183 = .ok (.iload_n 1, 1) := by decide +kernel
theorem dX5_plainRun_184 : decode cX5_plainRun 184 = .ok (.iastore, 1) := by decide +kernel
theorem dX5_plainRun_185 : decode cX5_plainRun 185 = .ok (.goto (-146), 3) := by decide +kernel
theorem dX5_plainRun_188 : decode cX5_plainRun 188 = .ok (.return_, 1) := by decide +kernel
theorem dX5_behind_0 : decode cX5_behind 0 = .ok (.aload_n 0, 1) := by decide +kernel
theorem dX5_behind_1 : decode cX5_behind 1 = .ok (.getfield 70, 3) := by decide +kernel
theorem dX5_behind_4 : decode cX5_behind 4 = .ok (.iload_n 1, 1) := by decide +kernel
theorem dX5_behind_5 : decode cX5_behind 5 = .ok (.iaload, 1) := by decide +kernel
theorem dX5_behind_6 : decode cX5_behind 6 = .ok (.istore_n 2, 1) := by decide +kernel
theorem dX5_behind_7 : decode cX5_behind 7 = .ok (.aload_n 0, 1) := by decide +kernel
theorem dX5_behind_8 : decode cX5_behind 8 = .ok (.getfield 17, 3) := by decide +kernel
theorem dX5_behind_11 : decode cX5_behind 11 = .ok (.iload_n 2, 1) := by decide +kernel
theorem dX5_behind_12 : decode cX5_behind 12 = .ok (.iaload, 1) := by decide +kernel
theorem dX5_behind_13 : decode cX5_behind 13 = .ok (.iload_n 1, 1) := by decide +kernel
theorem dX5_behind_14 : decode cX5_behind 14 = .ok (.if_icmp .ne 12, 3) := by decide +kernel
theorem dX5_behind_17 : decode cX5_behind 17 = .ok (.aload_n 0, 1) := by decide +kernel
theorem dX5_behind_18 : decode cX5_behind 18 = .ok (.getfield 20, 3) := by decide +kernel
theorem dX5_behind_21 : decode cX5_behind 21 = .ok (.iload_n 2, 1) := by decide +kernel
theorem dX5_behind_22 : decode cX5_behind 22 = .ok (.iaload, 1) := by decide +kernel
theorem dX5_behind_23 : decode cX5_behind 23 = .ok (.goto 9, 3) := by decide +kernel
theorem dX5_behind_26 : decode cX5_behind 26 = .ok (.aload_n 0, 1) := by decide +kernel
theorem dX5_behind_27 : decode cX5_behind 27 = .ok (.getfield 17, 3) := by decide +kernel
theorem dX5_behind_30 : decode cX5_behind 30 = .ok (.iload_n 2, 1) := by decide +kernel
theorem dX5_behind_31 : decode cX5_behind 31 = .ok (.iaload, 1) := by decide +kernel
theorem dX5_behind_32 : decode cX5_behind 32 = .ok (.ireturn, 1) := by decide +kernel
theorem dX5_worst_0 : decode cX5_worst 0 = .ok (.aload_n 0, 1) := by decide +kernel
theorem dX5_worst_1 : decode cX5_worst 1 = .ok (.iload_n 1, 1) := by decide +kernel
theorem dX5_worst_2 : decode cX5_worst 2 = .ok (.invokevirtual 99, 3) := by decide +kernel
theorem dX5_worst_5 : decode cX5_worst 5 = .ok (.ifCond .ne 6, 3) := by decide +kernel
theorem dX5_worst_8 : decode cX5_worst 8 = .ok (.bipush (-2), 2) := by decide +kernel
theorem dX5_worst_10 : decode cX5_worst 10 = .ok (.ireturn, 1) := by decide +kernel
theorem dX5_worst_11 : decode cX5_worst 11 = .ok (.aload_n 0, 1) := by decide +kernel
theorem dX5_worst_12 : decode cX5_worst 12 = .ok (.invokevirtual 194, 3) := by decide +kernel
theorem dX5_worst_15 : decode cX5_worst 15 = .ok (.aload_n 0, 1) := by decide +kernel
theorem dX5_worst_16 : decode cX5_worst 16 = .ok (.getfield 70, 3) := by decide +kernel
theorem dX5_worst_19 : decode cX5_worst 19 = .ok (.iload_n 1, 1) := by decide +kernel
theorem dX5_worst_20 : decode cX5_worst 20 = .ok (.iaload, 1) := by decide +kernel
theorem dX5_worst_21 : decode cX5_worst 21 = .ok (.bipush (-2), 2) := by decide +kernel
theorem dX5_worst_23 : decode cX5_worst 23 = .ok (.if_icmp .ne 6, 3) := by decide +kernel
theorem dX5_worst_26 : decode cX5_worst 26 = .ok (.bipush (-8), 2) := by decide +kernel
theorem dX5_worst_28 : decode cX5_worst 28 = .ok (.ireturn, 1) := by decide +kernel
theorem dX5_worst_29 : decode cX5_worst 29 = .ok (.iconst (-1), 1) := by decide +kernel
theorem dX5_worst_30 : decode cX5_worst 30 = .ok (.istore_n 2, 1) := by decide +kernel
theorem dX5_worst_31 : decode cX5_worst 31 = .ok (.iload_n 1, 1) := by decide +kernel
theorem dX5_worst_32 : decode cX5_worst 32 = .ok (.istore_n 3, 1) := by decide +kernel
theorem dX5_worst_33 : decode cX5_worst 33 = .ok (.aload_n 0, 1) := by decide +kernel
theorem dX5_worst_34 : decode cX5_worst 34 = .ok (.getfield 70, 3) := by decide +kernel
theorem dX5_worst_37 : decode cX5_worst 37 = .ok (.iload_n 3, 1) := by decide +kernel
theorem dX5_worst_38 : decode cX5_worst 38 = .ok (.iaload, 1) := by decide +kernel
theorem dX5_worst_39 : decode cX5_worst 39 = .ok (.ifCond .lt 37, 3) := by decide +kernel
theorem dX5_worst_42 : decode cX5_worst 42 = .ok (.aload_n 0, 1) := by decide +kernel
theorem dX5_worst_43 : decode cX5_worst 43 = .ok (.aload_n 0, 1) := by decide +kernel
theorem dX5_worst_44 : decode cX5_worst 44 = .ok (.getfield 70, 3) := by decide +kernel
theorem dX5_worst_47 : decode cX5_worst 47 = .ok (.iload_n 3, 1) := by decide +kernel
theorem dX5_worst_48 : decode cX5_worst 48 = .ok (.iaload, 1) := by decide +kernel
theorem dX5_worst_49 : decode cX5_worst 49 = .ok (.invokevirtual 114, 3) := by decide +kernel
theorem dX5_worst_52 : decode cX5_worst 52 = .ok (.istore 4, 2) := by decide +kernel
theorem dX5_worst_54 : decode cX5_worst 54 = .ok (.iload 4, 2) := by decide +kernel
theorem dX5_worst_56 : decode cX5_worst 56 = .ok (.iload_n 2, 1) := by decide +kernel
theorem dX5_worst_57 : decode cX5_worst 57 = .ok (.if_icmp .le 8, 3) := by decide +kernel
theorem dX5_worst_60 : decode cX5_worst 60 = .ok (.iload 4, 2) := by decide +kernel
theorem dX5_worst_62 : decode cX5_worst 62 = .ok (.goto 4, 3) := by decide +kernel
theorem dX5_worst_65 : decode cX5_worst 65 = .ok (.iload_n 2, 1) := by decide +kernel
theorem dX5_worst_66 : decode cX5_worst 66 = .ok (.istore_n 2, 1) := by decide +kernel
theorem dX5_worst_67 : decode cX5_worst 67 = .ok (.aload_n 0, 1) := by decide +kernel
theorem dX5_worst_68 : decode cX5_worst 68 = .ok (.iload_n 3, 1) := by decide +kernel
theorem dX5_worst_69 : decode cX5_worst 69 = .ok (.invokevirtual 197, 3) := by decide +kernel
theorem dX5_worst_72 : decode cX5_worst 72 = .ok (.istore_n 3, 1) := by decide +kernel
theorem dX5_worst_73 : decode cX5_worst 73 = .ok (.goto (-40), 3) := by decide +kernel
theorem dX5_worst_76 : decode cX5_worst 76 = .ok (.iload_n 2, 1) := by decide +kernel
theorem dX5_worst_77 : decode cX5_worst 77 = .ok (.ireturn, 1) := by decide +kernel
theorem dX5_way_0 : decode cX5_way 0 = .ok (.aload_n 0, 1) := by decide +kernel
theorem dX5_way_1 : decode cX5_way 1 = .ok (.iload_n 1, 1) := by decide +kernel
theorem dX5_way_2 : decode cX5_way 2 = .ok (.invokevirtual 99, 3) := by decide +kernel
theorem dX5_way_5 : decode cX5_way 5 = .ok (.ifCond .eq 7, 3) := by decide +kernel
theorem dX5_way_8 : decode cX5_way 8 = .ok (.iload_n 2, 1) := by decide +kernel
theorem dX5_way_9 : decode cX5_way 9 = .ok (.ifCond .ge 5, 3) := by decide +kernel
theorem dX5_way_12 : decode cX5_way 12 = .ok (.iconst (-1), 1) := by decide +kernel
theorem dX5_way_13 : decode cX5_way 13 = .ok (.ireturn, 1) := by decide +kernel
theorem dX5_way_14 : decode cX5_way 14 = .ok (.aload_n 0, 1) := by decide +kernel
theorem dX5_way_15 : decode cX5_way 15 = .ok (.invokevirtual 194, 3) := by decide +kernel
theorem dX5_way_18 : decode cX5_way 18 = .ok (.iconst 0, 1) := by decide +kernel
theorem dX5_way_19 : decode cX5_way 19 = .ok (.istore_n 3, 1) := by decide +kernel
theorem dX5_way_20 : decode cX5_way 20 = .ok (.iload_n 1, 1) := by decide +kernel
theorem dX5_way_21 : decode cX5_way 21 = .ok (.istore 4, 2) := by decide +kernel
theorem dX5_way_23 : decode cX5_way 23 = .ok (.aload_n 0, 1) := by decide +kernel
theorem dX5_way_24 : decode cX5_way 24 = .ok (.getfield 70, 3) := by decide +kernel
theorem dX5_way_27 : decode cX5_way 27 = .ok (.iload 4, 2) := by decide +kernel
theorem dX5_way_29 : decode cX5_way 29 = .ok (.iaload, 1) := by decide +kernel
theorem dX5_way_30 : decode cX5_way 30 = .ok (.ifCond .lt 17, 3) := by decide +kernel
theorem dX5_way_33 : decode cX5_way 33 = .ok (.iinc 3 1, 3) := by decide +kernel
theorem dX5_way_36 : decode cX5_way 36 = .ok (.aload_n 0, 1) := by decide +kernel
theorem dX5_way_37 : decode cX5_way 37 = .ok (.iload 4, 2) := by decide +kernel
theorem dX5_way_39 : decode cX5_way 39 = .ok (.invokevirtual 197, 3) := by decide +kernel
theorem dX5_way_42 : decode cX5_way 42 = .ok (.istore 4, 2) := by decide +kernel
theorem dX5_way_44 : decode cX5_way 44 = .ok (.goto (-21), 3) := by decide +kernel
theorem dX5_way_47 : decode cX5_way 47 = .ok (.iload_n 2, 1) := by decide +kernel
theorem dX5_way_48 : decode cX5_way 48 = .ok (.iload_n 3, 1) := by decide +kernel
theorem dX5_way_49 : decode cX5_way 49 = .ok (.if_icmp .lt 5, 3) := by decide +kernel
theorem dX5_way_52 : decode cX5_way 52 = .ok (.iconst (-1), 1) := by decide +kernel
theorem dX5_way_53 : decode cX5_way 53 = .ok (.ireturn, 1) := by decide +kernel
theorem dX5_way_54 : decode cX5_way 54 = .ok (.iload_n 1, 1) := by decide +kernel
theorem dX5_way_55 : decode cX5_way 55 = .ok (.istore 4, 2) := by decide +kernel
theorem dX5_way_57 : decode cX5_way 57 = .ok (.iload_n 3, 1) := by decide +kernel
theorem dX5_way_58 : decode cX5_way 58 = .ok (.iconst 1, 1) := by decide +kernel
theorem dX5_way_59 : decode cX5_way 59 = .ok (.isub, 1) := by decide +kernel
theorem dX5_way_60 : decode cX5_way 60 = .ok (.istore 5, 2) := by decide +kernel
theorem dX5_way_62 : decode cX5_way 62 = .ok (.iload 5, 2) := by decide +kernel
theorem dX5_way_64 : decode cX5_way 64 = .ok (.iload_n 2, 1) := by decide +kernel
theorem dX5_way_65 : decode cX5_way 65 = .ok (.if_icmp .le 17, 3) := by decide +kernel
theorem dX5_way_68 : decode cX5_way 68 = .ok (.aload_n 0, 1) := by decide +kernel
theorem dX5_way_69 : decode cX5_way 69 = .ok (.iload 4, 2) := by decide +kernel
theorem dX5_way_71 : decode cX5_way 71 = .ok (.invokevirtual 197, 3) := by decide +kernel
theorem dX5_way_74 : decode cX5_way 74 = .ok (.istore 4, 2) := by decide +kernel
theorem dX5_way_76 : decode cX5_way 76 = .ok (.iinc 5 (-1), 3) := by decide +kernel
theorem dX5_way_79 : decode cX5_way 79 = .ok (.goto (-17), 3) := by decide +kernel
theorem dX5_way_82 : decode cX5_way 82 = .ok (.aload_n 0, 1) := by decide +kernel
theorem dX5_way_83 : decode cX5_way 83 = .ok (.getfield 70, 3) := by decide +kernel
theorem dX5_way_86 : decode cX5_way 86 = .ok (.iload 4, 2) := by decide +kernel
theorem dX5_way_88 : decode cX5_way 88 = .ok (.iaload, 1) := by decide +kernel
theorem dX5_way_89 : decode cX5_way 89 = .ok (.ireturn, 1) := by decide +kernel
theorem dX5_apart_0 : decode cX5_apart 0 = .ok (.iconst 0, 1) := by decide +kernel
theorem dX5_apart_1 : decode cX5_apart 1 = .ok (.istore_n 1, 1) := by decide +kernel
theorem dX5_apart_2 : decode cX5_apart 2 = .ok (.iload_n 1, 1) := by decide +kernel
theorem dX5_apart_3 : decode cX5_apart 3 = .ok (.aload_n 0, 1) := by decide +kernel
theorem dX5_apart_4 : decode cX5_apart 4 = .ok (.getfield 88, 3) := by decide +kernel
theorem dX5_apart_7 : decode cX5_apart 7 = .ok (.if_icmp .ge 16, 3) := by decide +kernel
theorem dX5_apart_10 : decode cX5_apart 10 = .ok (.aload_n 0, 1) := by decide +kernel
theorem dX5_apart_11 : decode cX5_apart 11 = .ok (.getfield 73, 3) := by decide +kernel
theorem dX5_apart_14 : decode cX5_apart 14 = .ok (.iload_n 1, 1) := by decide +kernel
theorem dX5_apart_15 : decode cX5_apart 15 = .ok (.iload_n 1, 1) := by decide +kernel
theorem dX5_apart_16 : decode cX5_apart 16 = .ok (.iastore, 1) := by decide +kernel
theorem dX5_apart_17 : decode cX5_apart 17 = .ok (.iinc 1 1, 3) := by decide +kernel
theorem dX5_apart_20 : decode cX5_apart 20 = .ok (.goto (-18), 3) := by decide +kernel
theorem dX5_apart_23 : decode cX5_apart 23 = .ok (.return_, 1) := by decide +kernel
theorem dX5_tie_0 : decode cX5_tie 0 = .ok (.aload_n 0, 1) := by decide +kernel
theorem dX5_tie_1 : decode cX5_tie 1 = .ok (.getfield 73, 3) := by decide +kernel
theorem dX5_tie_4 : decode cX5_tie 4 = .ok (.aload_n 0, 1) := by decide +kernel
theorem dX5_tie_5 : decode cX5_tie 5 = .ok (.getfield 17, 3) := by decide +kernel
theorem dX5_tie_8 : decode cX5_tie 8 = .ok (.iload_n 1, 1) := by decide +kernel
theorem dX5_tie_9 : decode cX5_tie 9 = .ok (.iaload, 1) := by decide +kernel
theorem dX5_tie_10 : decode cX5_tie 10 = .ok (.iaload, 1) := by decide +kernel
theorem dX5_tie_11 : decode cX5_tie 11 = .ok (.istore_n 2, 1) := by decide +kernel
theorem dX5_tie_12 : decode cX5_tie 12 = .ok (.aload_n 0, 1) := by decide +kernel
theorem dX5_tie_13 : decode cX5_tie 13 = .ok (.getfield 73, 3) := by decide +kernel
theorem dX5_tie_16 : decode cX5_tie 16 = .ok (.aload_n 0, 1) := by decide +kernel
theorem dX5_tie_17 : decode cX5_tie 17 = .ok (.getfield 20, 3) := by decide +kernel
theorem dX5_tie_20 : decode cX5_tie 20 = .ok (.iload_n 1, 1) := by decide +kernel
theorem dX5_tie_21 : decode cX5_tie 21 = .ok (.iaload, 1) := by decide +kernel
theorem dX5_tie_22 : decode cX5_tie 22 = .ok (.iaload, 1) := by decide +kernel
theorem dX5_tie_23 : decode cX5_tie 23 = .ok (.istore_n 3, 1) := by decide +kernel
theorem dX5_tie_24 : decode cX5_tie 24 = .ok (.iconst 0, 1) := by decide +kernel
theorem dX5_tie_25 : decode cX5_tie 25 = .ok (.istore 4, 2) := by decide +kernel
theorem dX5_tie_27 : decode cX5_tie 27 = .ok (.iload 4, 2) := by decide +kernel
theorem dX5_tie_29 : decode cX5_tie 29 = .ok (.aload_n 0, 1) := by decide +kernel
theorem dX5_tie_30 : decode cX5_tie 30 = .ok (.getfield 88, 3) := by decide +kernel
theorem dX5_tie_33 : decode cX5_tie 33 = .ok (.if_icmp .ge 38, 3) := by decide +kernel
theorem dX5_tie_36 : decode cX5_tie 36 = .ok (.aload_n 0, 1) := by decide +kernel
theorem dX5_tie_37 : decode cX5_tie 37 = .ok (.getfield 73, 3) := by decide +kernel
theorem dX5_tie_40 : decode cX5_tie 40 = .ok (.iload 4, 2) := by decide +kernel
theorem dX5_tie_42 : decode cX5_tie 42 = .ok (.aload_n 0, 1) := by decide +kernel
theorem dX5_tie_43 : decode cX5_tie 43 = .ok (.getfield 73, 3) := by decide +kernel
theorem dX5_tie_46 : decode cX5_tie 46 = .ok (.iload 4, 2) := by decide +kernel
theorem dX5_tie_48 : decode cX5_tie 48 = .ok (.iaload, 1) := by decide +kernel
theorem dX5_tie_49 : decode cX5_tie 49 = .ok (.iload_n 2, 1) := by decide +kernel
theorem dX5_tie_50 : decode cX5_tie 50 = .ok (.if_icmp .ne 7, 3) := by decide +kernel
theorem dX5_tie_53 : decode cX5_tie 53 = .ok (.iload_n 3, 1) := by decide +kernel
theorem dX5_tie_54 : decode cX5_tie 54 = .ok (.goto 10, 3) := by decide +kernel
theorem dX5_tie_57 : decode cX5_tie 57 = .ok (.aload_n 0, 1) := by decide +kernel
theorem dX5_tie_58 : decode cX5_tie 58 = .ok (.getfield 73, 3) := by decide +kernel
theorem dX5_tie_61 : decode cX5_tie 61 = .ok (.iload 4, 2) := by decide +kernel
theorem dX5_tie_63 : decode cX5_tie 63 = .ok (.iaload, 1) := by decide +kernel
theorem dX5_tie_64 : decode cX5_tie 64 = .ok (.iastore, 1) := by decide +kernel
theorem dX5_tie_65 : decode cX5_tie 65 = .ok (.iinc 4 1, 3) := by decide +kernel
theorem dX5_tie_68 : decode cX5_tie 68 = .ok (.goto (-41), 3) := by decide +kernel
theorem dX5_tie_71 : decode cX5_tie 71 = .ok (.iload_n 2, 1) := by decide +kernel
theorem dX5_tie_72 : decode cX5_tie 72 = .ok (.iload_n 3, 1) := by decide +kernel
theorem dX5_tie_73 : decode cX5_tie 73 = .ok (.if_icmp .eq 7, 3) := by decide +kernel
theorem dX5_tie_76 : decode cX5_tie 76 = .ok (.iconst 1, 1) := by decide +kernel
theorem dX5_tie_77 : decode cX5_tie 77 = .ok (.goto 4, 3) := by decide +kernel
theorem dX5_tie_80 : decode cX5_tie 80 = .ok (.iconst 0, 1) := by decide +kernel
theorem dX5_tie_81 : decode cX5_tie 81 = .ok (.ireturn, 1) := by decide +kernel
theorem dX5_join_0 : decode cX5_join 0 = .ok (.aload_n 0, 1) := by decide +kernel
theorem dX5_join_1 : decode cX5_join 1 = .ok (.iload_n 1, 1) := by decide +kernel
theorem dX5_join_2 : decode cX5_join 2 = .ok (.invokevirtual 99, 3) := by decide +kernel
theorem dX5_join_5 : decode cX5_join 5 = .ok (.ifCond .eq 11, 3) := by decide +kernel
theorem dX5_join_8 : decode cX5_join 8 = .ok (.aload_n 0, 1) := by decide +kernel
theorem dX5_join_9 : decode cX5_join 9 = .ok (.iload_n 2, 1) := by decide +kernel
theorem dX5_join_10 : decode cX5_join 10 = .ok (.invokevirtual 99, 3) := by decide +kernel
theorem dX5_join_13 : decode cX5_join 13 = .ok (.ifCond .ne 6, 3) := by decide +kernel
theorem dX5_join_16 : decode cX5_join 16 = .ok (.bipush (-2), 2) := by decide +kernel
theorem dX5_join_18 : decode cX5_join 18 = .ok (.ireturn, 1) := by decide +kernel
theorem dX5_join_19 : decode cX5_join 19 = .ok (.iload_n 1, 1) := by decide +kernel
theorem dX5_join_20 : decode cX5_join 20 = .ok (.iload_n 2, 1) := by decide +kernel
theorem dX5_join_21 : decode cX5_join 21 = .ok (.if_icmp .ne 5, 3) := by decide +kernel
theorem dX5_join_24 : decode cX5_join 24 = .ok (.iconst (-1), 1) := by decide +kernel
theorem dX5_join_25 : decode cX5_join 25 = .ok (.ireturn, 1) := by decide +kernel
theorem dX5_join_26 : decode cX5_join 26 = .ok (.aload_n 0, 1) := by decide +kernel
theorem dX5_join_27 : decode cX5_join 27 = .ok (.invokevirtual 200, 3) := by decide +kernel
theorem dX5_join_30 : decode cX5_join 30 = .ok (.iconst 0, 1) := by decide +kernel
theorem dX5_join_31 : decode cX5_join 31 = .ok (.istore_n 3, 1) := by decide +kernel
theorem dX5_join_32 : decode cX5_join 32 = .ok (.iload_n 3, 1) := by decide +kernel
theorem dX5_join_33 : decode cX5_join 33 = .ok (.aload_n 0, 1) := by decide +kernel
theorem dX5_join_34 : decode cX5_join 34 = .ok (.getfield 92, 3) := by decide +kernel
theorem dX5_join_37 : decode cX5_join 37 = .ok (.if_icmp .ge 47, 3) := by decide +kernel
theorem dX5_join_40 : decode cX5_join 40 = .ok (.aload_n 0, 1) := by decide +kernel
theorem dX5_join_41 : decode cX5_join 41 = .ok (.iload_n 3, 1) := by decide +kernel
theorem dX5_join_42 : decode cX5_join 42 = .ok (.invokevirtual 203, 3) := by decide +kernel
theorem dX5_join_45 : decode cX5_join 45 = .ok (.istore 4, 2) := by decide +kernel
theorem dX5_join_47 : decode cX5_join 47 = .ok (.iload 4, 2) := by decide +kernel
theorem dX5_join_49 : decode cX5_join 49 = .ok (.ifCond .lt 29, 3) := by decide +kernel
theorem dX5_join_52 : decode cX5_join 52 = .ok (.aload_n 0, 1) := by decide +kernel
theorem dX5_join_53 : decode cX5_join 53 = .ok (.iload 4, 2) := by decide +kernel
theorem dX5_join_55 : decode cX5_join 55 = .ok (.invokevirtual 206, 3) := by decide +kernel
theorem dX5_join_58 : decode cX5_join 58 = .ok (.ifCond .eq 20, 3) := by decide +kernel
theorem dX5_join_61 : decode cX5_join 61 = .ok (.aload_n 0, 1) := by decide +kernel
theorem dX5_join_62 : decode cX5_join 62 = .ok (.getfield 73, 3) := by decide +kernel
theorem dX5_join_65 : decode cX5_join 65 = .ok (.iload_n 1, 1) := by decide +kernel
theorem dX5_join_66 : decode cX5_join 66 = .ok (.iaload, 1) := by decide +kernel
theorem dX5_join_67 : decode cX5_join 67 = .ok (.aload_n 0, 1) := by decide +kernel
theorem dX5_join_68 : decode cX5_join 68 = .ok (.getfield 73, 3) := by decide +kernel
theorem dX5_join_71 : decode cX5_join 71 = .ok (.iload_n 2, 1) := by decide +kernel
theorem dX5_join_72 : decode cX5_join 72 = .ok (.iaload, 1) := by decide +kernel
theorem dX5_join_73 : decode cX5_join 73 = .ok (.if_icmp .ne 5, 3) := by decide +kernel
theorem dX5_join_76 : decode cX5_join 76 = .ok (.iload_n 3, 1) := by decide +kernel
theorem dX5_join_77 : decode cX5_join 77 = .ok (.ireturn, 1) := by decide +kernel
theorem dX5_join_78 : decode cX5_join 78 = .ok (.iinc 3 1, 3) := by decide +kernel
theorem dX5_join_81 : decode cX5_join 81 = .ok (.goto (-49), 3) := by decide +kernel
theorem dX5_join_84 : decode cX5_join 84 = .ok (.bipush (-8), 2) := by decide +kernel
theorem dX5_join_86 : decode cX5_join 86 = .ok (.ireturn, 1) := by decide +kernel
theorem dX5_tree_0 : decode cX5_tree 0 = .ok (.aload_n 0, 1) := by decide +kernel
theorem dX5_tree_1 : decode cX5_tree 1 = .ok (.invokevirtual 200, 3) := by decide +kernel
theorem dX5_tree_4 : decode cX5_tree 4 = .ok (.iconst 0, 1) := by decide +kernel
theorem dX5_tree_5 : decode cX5_tree 5 = .ok (.istore_n 2, 1) := by decide +kernel
theorem dX5_tree_6 : decode cX5_tree 6 = .ok (.iconst 0, 1) := by decide +kernel
theorem dX5_tree_7 : decode cX5_tree 7 = .ok (.istore_n 3, 1) := by decide +kernel
theorem dX5_tree_8 : decode cX5_tree 8 = .ok (.iload_n 3, 1) := by decide +kernel
theorem dX5_tree_9 : decode cX5_tree 9 = .ok (.aload_n 0, 1) := by decide +kernel
theorem dX5_tree_10 : decode cX5_tree 10 = .ok (.getfield 92, 3) := by decide +kernel
theorem dX5_tree_13 : decode cX5_tree 13 = .ok (.if_icmp .ge 41, 3) := by decide +kernel
theorem dX5_tree_16 : decode cX5_tree 16 = .ok (.aload_n 0, 1) := by decide +kernel
theorem dX5_tree_17 : decode cX5_tree 17 = .ok (.iload_n 3, 1) := by decide +kernel
theorem dX5_tree_18 : decode cX5_tree 18 = .ok (.invokevirtual 203, 3) := by decide +kernel
theorem dX5_tree_21 : decode cX5_tree 21 = .ok (.istore 4, 2) := by decide +kernel
theorem dX5_tree_23 : decode cX5_tree 23 = .ok (.iload 4, 2) := by decide +kernel
theorem dX5_tree_25 : decode cX5_tree 25 = .ok (.ifCond .lt 23, 3) := by decide +kernel
theorem dX5_tree_28 : decode cX5_tree 28 = .ok (.aload_n 0, 1) := by decide +kernel
theorem dX5_tree_29 : decode cX5_tree 29 = .ok (.iload 4, 2) := by decide +kernel
theorem dX5_tree_31 : decode cX5_tree 31 = .ok (.invokevirtual 206, 3) := by decide +kernel
theorem dX5_tree_34 : decode cX5_tree 34 = .ok (.ifCond .eq 14, 3) := by decide +kernel
theorem dX5_tree_37 : decode cX5_tree 37 = .ok (.iload_n 2, 1) := by decide +kernel
theorem dX5_tree_38 : decode cX5_tree 38 = .ok (.iload_n 1, 1) := by decide +kernel
theorem dX5_tree_39 : decode cX5_tree 39 = .ok (.if_icmp .ne 6, 3) := by decide +kernel
theorem dX5_tree_42 : decode cX5_tree 42 = .ok (.iload 4, 2) := by decide +kernel
theorem dX5_tree_44 : decode cX5_tree 44 = .ok (.ireturn, 1) := by decide +kernel
theorem dX5_tree_45 : decode cX5_tree 45 = .ok (.iinc 2 1, 3) := by decide +kernel
theorem dX5_tree_48 : decode cX5_tree 48 = .ok (.iinc 3 1, 3) := by decide +kernel
theorem dX5_tree_51 : decode cX5_tree 51 = .ok (.goto (-43), 3) := by decide +kernel
theorem dX5_tree_54 : decode cX5_tree 54 = .ok (.iconst (-1), 1) := by decide +kernel
theorem dX5_tree_55 : decode cX5_tree 55 = .ok (.ireturn, 1) := by decide +kernel
theorem dX5_claim_0 : decode cX5_claim 0 = .ok (.aload_n 0, 1) := by decide +kernel
theorem dX5_claim_1 : decode cX5_claim 1 = .ok (.iload_n 1, 1) := by decide +kernel
theorem dX5_claim_2 : decode cX5_claim 2 = .ok (.invokevirtual 103, 3) := by decide +kernel
theorem dX5_claim_5 : decode cX5_claim 5 = .ok (.ifCond .ne 5, 3) := by decide +kernel
theorem dX5_claim_8 : decode cX5_claim 8 = .ok (.iconst (-1), 1) := by decide +kernel
theorem dX5_claim_9 : decode cX5_claim 9 = .ok (.ireturn, 1) := by decide +kernel
theorem dX5_claim_10 : decode cX5_claim 10 = .ok (.aload_n 0, 1) := by decide +kernel
theorem dX5_claim_11 : decode cX5_claim 11 = .ok (.getfield 185, 3) := by decide +kernel
theorem dX5_claim_14 : decode cX5_claim 14 = .ok (.sipush 200, 3) := by decide +kernel
theorem dX5_claim_17 : decode cX5_claim 17 = .ok (.if_icmp .ne 6, 3) := by decide +kernel
theorem dX5_claim_20 : decode cX5_claim 20 = .ok (.bipush (-2), 2) := by decide +kernel
theorem dX5_claim_22 : decode cX5_claim 22 = .ok (.ireturn, 1) := by decide +kernel
theorem dX5_claim_23 : decode cX5_claim 23 = .ok (.aload_n 0, 1) := by decide +kernel
theorem dX5_claim_24 : decode cX5_claim 24 = .ok (.getfield 55, 3) := by decide +kernel
theorem dX5_claim_27 : decode cX5_claim 27 = .ok (.aload_n 0, 1) := by decide +kernel
theorem dX5_claim_28 : decode cX5_claim 28 = .ok (.getfield 185, 3) := by decide +kernel
theorem dX5_claim_31 : decode cX5_claim 31 = .ok (.iload_n 1, 1) := by decide +kernel
theorem dX5_claim_32 : decode cX5_claim 32 = .ok (.iastore, 1) := by decide +kernel
theorem dX5_claim_33 : decode cX5_claim 33 = .ok (.aload_n 0, 1) := by decide +kernel
theorem dX5_claim_34 : decode cX5_claim 34 = .ok (.dup, 1) := by decide +kernel
theorem dX5_claim_35 : decode cX5_claim 35 = .ok (.getfield 185, 3) := by decide +kernel
theorem dX5_claim_38 : decode cX5_claim 38 = .ok (.iconst 1, 1) := by decide +kernel
theorem dX5_claim_39 : decode cX5_claim 39 = .ok (.iadd, 1) := by decide +kernel
theorem dX5_claim_40 : decode cX5_claim 40 = .ok (.putfield 185, 3) := by decide +kernel
theorem dX5_claim_43 : decode cX5_claim 43 = .ok (.aload_n 0, 1) := by decide +kernel
theorem dX5_claim_44 : decode cX5_claim 44 = .ok (.getfield 185, 3) := by decide +kernel
theorem dX5_claim_47 : decode cX5_claim 47 = .ok (.ireturn, 1) := by decide +kernel
theorem dX5_copy_0 : decode cX5_copy 0 = .ok (.aload_n 0, 1) := by decide +kernel
theorem dX5_copy_1 : decode cX5_copy 1 = .ok (.getfield 95, 3) := by decide +kernel
theorem dX5_copy_4 : decode cX5_copy 4 = .ok (.ifCond .ne 6, 3) := by decide +kernel
theorem dX5_copy_7 : decode cX5_copy 7 = .ok (.bipush (-6), 2) := by decide +kernel
theorem dX5_copy_9 : decode cX5_copy 9 = .ok (.ireturn, 1) := by decide +kernel
theorem dX5_copy_10 : decode cX5_copy 10 = .ok (.aload_n 0, 1) := by decide +kernel
theorem dX5_copy_11 : decode cX5_copy 11 = .ok (.aload_n 0, 1) := by decide +kernel
theorem dX5_copy_12 : decode cX5_copy 12 = .ok (.getfield 152, 3) := by decide +kernel
theorem dX5_copy_15 : decode cX5_copy 15 = .ok (.putfield 185, 3) := by decide +kernel
theorem dX5_copy_18 : decode cX5_copy 18 = .ok (.iconst 0, 1) := by decide +kernel
theorem dX5_copy_19 : decode cX5_copy 19 = .ok (.istore_n 1, 1) := by decide +kernel
theorem dX5_copy_20 : decode cX5_copy 20 = .ok (.iload_n 1, 1) := by decide +kernel
theorem dX5_copy_21 : decode cX5_copy 21 = .ok (.aload_n 0, 1) := by decide +kernel
theorem dX5_copy_22 : decode cX5_copy 22 = .ok (.getfield 152, 3) := by decide +kernel
theorem dX5_copy_25 : decode cX5_copy 25 = .ok (.if_icmp .ge 23, 3) := by decide +kernel
theorem dX5_copy_28 : decode cX5_copy 28 = .ok (.aload_n 0, 1) := by decide +kernel
theorem dX5_copy_29 : decode cX5_copy 29 = .ok (.getfield 55, 3) := by decide +kernel
theorem dX5_copy_32 : decode cX5_copy 32 = .ok (.iload_n 1, 1) := by decide +kernel
theorem dX5_copy_33 : decode cX5_copy 33 = .ok (.aload_n 0, 1) := by decide +kernel
theorem dX5_copy_34 : decode cX5_copy 34 = .ok (.getfield 43, 3) := by decide +kernel
theorem dX5_copy_37 : decode cX5_copy 37 = .ok (.iload_n 1, 1) := by decide +kernel
theorem dX5_copy_38 : decode cX5_copy 38 = .ok (.iconst 1, 1) := by decide +kernel
theorem dX5_copy_39 : decode cX5_copy 39 = .ok (.iadd, 1) := by decide +kernel
theorem dX5_copy_40 : decode cX5_copy 40 = .ok (.iaload, 1) := by decide +kernel
theorem dX5_copy_41 : decode cX5_copy 41 = .ok (.iastore, 1) := by decide +kernel
end
section
theorem dX5_copy_42 : decode cX5_copy 42 = .ok (.iinc 1 1, 3) := by decide +kernel
theorem dX5_copy_45 : decode cX5_copy 45 = .ok (.goto (-25), 3) := by decide +kernel
theorem dX5_copy_48 : decode cX5_copy 48 = .ok (.aload_n 0, 1) := by decide +kernel
theorem dX5_copy_49 : decode cX5_copy 49 = .ok (.getfield 185, 3) := by decide +kernel
theorem dX5_copy_52 : decode cX5_copy 52 = .ok (.ireturn, 1) := by decide +kernel
theorem dX5_alter_0 : decode cX5_alter 0 = .ok (.iload_n 1, 1) := by decide +kernel
theorem dX5_alter_1 : decode cX5_alter 1 = .ok (.ifCond .lt 19, 3) := by decide +kernel
theorem dX5_alter_4 : decode cX5_alter 4 = .ok (.iload_n 1, 1) := by decide +kernel
theorem dX5_alter_5 : decode cX5_alter 5 = .ok (.aload_n 0, 1) := by decide +kernel
theorem dX5_alter_6 : decode cX5_alter 6 = .ok (.getfield 185, 3) := by decide +kernel
theorem dX5_alter_9 : decode cX5_alter 9 = .ok (.if_icmp .ge 11, 3) := by decide +kernel
theorem dX5_alter_12 : decode cX5_alter 12 = .ok (.aload_n 0, 1) := by decide +kernel
theorem dX5_alter_13 : decode cX5_alter 13 = .ok (.iload_n 2, 1) := by decide +kernel
theorem dX5_alter_14 : decode cX5_alter 14 = .ok (.invokevirtual 103, 3) := by decide +kernel
theorem dX5_alter_17 : decode cX5_alter 17 = .ok (.ifCond .ne 5, 3) := by decide +kernel
theorem dX5_alter_20 : decode cX5_alter 20 = .ok (.iconst (-1), 1) := by decide +kernel
theorem dX5_alter_21 : decode cX5_alter 21 = .ok (.ireturn, 1) := by decide +kernel
theorem dX5_alter_22 : decode cX5_alter 22 = .ok (.aload_n 0, 1) := by decide +kernel
theorem dX5_alter_23 : decode cX5_alter 23 = .ok (.getfield 55, 3) := by decide +kernel
theorem dX5_alter_26 : decode cX5_alter 26 = .ok (.iload_n 1, 1) := by decide +kernel
theorem dX5_alter_27 : decode cX5_alter 27 = .ok (.iload_n 2, 1) := by decide +kernel
theorem dX5_alter_28 : decode cX5_alter 28 = .ok (.iastore, 1) := by decide +kernel
theorem dX5_alter_29 : decode cX5_alter 29 = .ok (.iconst 1, 1) := by decide +kernel
theorem dX5_alter_30 : decode cX5_alter 30 = .ok (.ireturn, 1) := by decide +kernel
theorem dX5_unclaim_0 : decode cX5_unclaim 0 = .ok (.aload_n 0, 1) := by decide +kernel
theorem dX5_unclaim_1 : decode cX5_unclaim 1 = .ok (.getfield 185, 3) := by decide +kernel
theorem dX5_unclaim_4 : decode cX5_unclaim 4 = .ok (.istore_n 1, 1) := by decide +kernel
theorem dX5_unclaim_5 : decode cX5_unclaim 5 = .ok (.aload_n 0, 1) := by decide +kernel
theorem dX5_unclaim_6 : decode cX5_unclaim 6 = .ok (.iconst 0, 1) := by decide +kernel
theorem dX5_unclaim_7 : decode cX5_unclaim 7 = .ok (.putfield 185, 3) := by decide +kernel
theorem dX5_unclaim_10 : decode cX5_unclaim 10 = .ok (.iload_n 1, 1) := by decide +kernel
theorem dX5_unclaim_11 : decode cX5_unclaim 11 = .ok (.ireturn, 1) := by decide +kernel
theorem dX5_keep_0 : decode cX5_keep 0 = .ok (.iload_n 1, 1) := by decide +kernel
theorem dX5_keep_1 : decode cX5_keep 1 = .ok (.ifCond .eq 14, 3) := by decide +kernel
theorem dX5_keep_4 : decode cX5_keep 4 = .ok (.aload_n 0, 1) := by decide +kernel
theorem dX5_keep_5 : decode cX5_keep 5 = .ok (.aload_n 0, 1) := by decide +kernel
theorem dX5_keep_6 : decode cX5_keep 6 = .ok (.getfield 209, 3) := by decide +kernel
theorem dX5_keep_9 : decode cX5_keep 9 = .ok (.putfield 152, 3) := by decide +kernel
theorem dX5_keep_12 : decode cX5_keep 12 = .ok (.goto 11, 3) := by decide +kernel
theorem dX5_keep_15 : decode cX5_keep 15 = .ok (.aload_n 0, 1) := by decide +kernel
theorem dX5_keep_16 : decode cX5_keep 16 = .ok (.aload_n 0, 1) := by decide +kernel
theorem dX5_keep_17 : decode cX5_keep 17 = .ok (.getfield 152, 3) := by decide +kernel
theorem dX5_keep_20 : decode cX5_keep 20 = .ok (.putfield 209, 3) := by decide +kernel
theorem dX5_keep_23 : decode cX5_keep 23 = .ok (.iconst 0, 1) := by decide +kernel
theorem dX5_keep_24 : decode cX5_keep 24 = .ok (.istore_n 2, 1) := by decide +kernel
theorem dX5_keep_25 : decode cX5_keep 25 = .ok (.iload_n 2, 1) := by decide +kernel
theorem dX5_keep_26 : decode cX5_keep 26 = .ok (.bipush 120, 2) := by decide +kernel
theorem dX5_keep_28 : decode cX5_keep 28 = .ok (.if_icmp .ge 120, 3) := by decide +kernel
theorem dX5_keep_31 : decode cX5_keep 31 = .ok (.iload_n 1, 1) := by decide +kernel
theorem dX5_keep_32 : decode cX5_keep 32 = .ok (.ifCond .eq 58, 3) := by decide +kernel
theorem dX5_keep_35 : decode cX5_keep 35 = .ok (.aload_n 0, 1) := by decide +kernel
theorem dX5_keep_36 : decode cX5_keep 36 = .ok (.getfield 46, 3) := by decide +kernel
theorem dX5_keep_39 : decode cX5_keep 39 = .ok (.iload_n 2, 1) := by decide +kernel
theorem dX5_keep_40 : decode cX5_keep 40 = .ok (.aload_n 0, 1) := by decide +kernel
theorem dX5_keep_41 : decode cX5_keep 41 = .ok (.getfield 79, 3) := by decide +kernel
theorem dX5_keep_44 : decode cX5_keep 44 = .ok (.iload_n 2, 1) := by decide +kernel
theorem dX5_keep_45 : decode cX5_keep 45 = .ok (.iaload, 1) := by decide +kernel
theorem dX5_keep_46 : decode cX5_keep 46 = .ok (.iastore, 1) := by decide +kernel
theorem dX5_keep_47 : decode cX5_keep 47 = .ok (.aload_n 0, 1) := by decide +kernel
theorem dX5_keep_48 : decode cX5_keep 48 = .ok (.getfield 49, 3) := by decide +kernel
theorem dX5_keep_51 : decode cX5_keep 51 = .ok (.iload_n 2, 1) := by decide +kernel
theorem dX5_keep_52 : decode cX5_keep 52 = .ok (.aload_n 0, 1) := by decide +kernel
theorem dX5_keep_53 : decode cX5_keep 53 = .ok (.getfield 82, 3) := by decide +kernel
theorem dX5_keep_56 : decode cX5_keep 56 = .ok (.iload_n 2, 1) := by decide +kernel
theorem dX5_keep_57 : decode cX5_keep 57 = .ok (.iaload, 1) := by decide +kernel
theorem dX5_keep_58 : decode cX5_keep 58 = .ok (.iastore, 1) := by decide +kernel
theorem dX5_keep_59 : decode cX5_keep 59 = .ok (.aload_n 0, 1) := by decide +kernel
theorem dX5_keep_60 : decode cX5_keep 60 = .ok (.getfield 52, 3) := by decide +kernel
theorem dX5_keep_63 : decode cX5_keep 63 = .ok (.iload_n 2, 1) := by decide +kernel
theorem dX5_keep_64 : decode cX5_keep 64 = .ok (.aload_n 0, 1) := by decide +kernel
theorem dX5_keep_65 : decode cX5_keep 65 = .ok (.getfield 85, 3) := by decide +kernel
theorem dX5_keep_68 : decode cX5_keep 68 = .ok (.iload_n 2, 1) := by decide +kernel
theorem dX5_keep_69 : decode cX5_keep 69 = .ok (.iaload, 1) := by decide +kernel
theorem dX5_keep_70 : decode cX5_keep 70 = .ok (.iastore, 1) := by decide +kernel
theorem dX5_keep_71 : decode cX5_keep 71 = .ok (.aload_n 0, 1) := by decide +kernel
theorem dX5_keep_72 : decode cX5_keep 72 = .ok (.getfield 43, 3) := by decide +kernel
theorem dX5_keep_75 : decode cX5_keep 75 = .ok (.iload_n 2, 1) := by decide +kernel
theorem dX5_keep_76 : decode cX5_keep 76 = .ok (.iconst 1, 1) := by decide +kernel
theorem dX5_keep_77 : decode cX5_keep 77 = .ok (.iadd, 1) := by decide +kernel
theorem dX5_keep_78 : decode cX5_keep 78 = .ok (.aload_n 0, 1) := by decide +kernel
theorem dX5_keep_79 : decode cX5_keep 79 = .ok (.getfield 76, 3) := by decide +kernel
theorem dX5_keep_82 : decode cX5_keep 82 = .ok (.iload_n 2, 1) := by decide +kernel
theorem dX5_keep_83 : decode cX5_keep 83 = .ok (.iconst 1, 1) := by decide +kernel
theorem dX5_keep_84 : decode cX5_keep 84 = .ok (.iadd, 1) := by decide +kernel
theorem dX5_keep_85 : decode cX5_keep 85 = .ok (.iaload, 1) := by decide +kernel
theorem dX5_keep_86 : decode cX5_keep 86 = .ok (.iastore, 1) := by decide +kernel
theorem dX5_keep_87 : decode cX5_keep 87 = .ok (.goto 55, 3) := by decide +kernel
theorem dX5_keep_90 : decode cX5_keep 90 = .ok (.aload_n 0, 1) := by decide +kernel
theorem dX5_keep_91 : decode cX5_keep 91 = .ok (.getfield 79, 3) := by decide +kernel
theorem dX5_keep_94 : decode cX5_keep 94 = .ok (.iload_n 2, 1) := by decide +kernel
theorem dX5_keep_95 : decode cX5_keep 95 = .ok (.aload_n 0, 1) := by decide +kernel
theorem dX5_keep_96 : decode cX5_keep 96 = .ok (.getfield 46, 3) := by decide +kernel
theorem dX5_keep_99 : decode cX5_keep 99 = .ok (.iload_n 2, 1) := by decide +kernel
theorem dX5_keep_100 : decode cX5_keep 100 = .ok (.iaload, 1) := by decide +kernel
theorem dX5_keep_101 : decode cX5_keep 101 = .ok (.iastore, 1) := by decide +kernel
theorem dX5_keep_102 : decode cX5_keep 102 = .ok (.aload_n 0, 1) := by decide +kernel
theorem dX5_keep_103 : decode cX5_keep 103 = .ok (.getfield 82, 3) := by decide +kernel
theorem dX5_keep_106 : decode cX5_keep 106 = .ok (.iload_n 2, 1) := by decide +kernel
theorem dX5_keep_107 : decode cX5_keep 107 = .ok (.aload_n 0, 1) := by decide +kernel
theorem dX5_keep_108 : decode cX5_keep 108 = .ok (.getfield 49, 3) := by decide +kernel
theorem dX5_keep_111 : decode cX5_keep 111 = .ok (.iload_n 2, 1) := by decide +kernel
theorem dX5_keep_112 : decode cX5_keep 112 = .ok (.iaload, 1) := by decide +kernel
theorem dX5_keep_113 : decode cX5_keep 113 = .ok (.iastore, 1) := by decide +kernel
theorem dX5_keep_114 : decode cX5_keep 114 = .ok (.aload_n 0, 1) := by decide +kernel
theorem dX5_keep_115 : decode cX5_keep 115 = .ok (.getfield 85, 3) := by decide +kernel
theorem dX5_keep_118 : decode cX5_keep 118 = .ok (.iload_n 2, 1) := by decide +kernel
theorem dX5_keep_119 : decode cX5_keep 119 = .ok (.aload_n 0, 1) := by decide +kernel
theorem dX5_keep_120 : decode cX5_keep 120 = .ok (.getfield 52, 3) := by decide +kernel
theorem dX5_keep_123 : decode cX5_keep 123 = .ok (.iload_n 2, 1) := by decide +kernel
theorem dX5_keep_124 : decode cX5_keep 124 = .ok (.iaload, 1) := by decide +kernel
theorem dX5_keep_125 : decode cX5_keep 125 = .ok (.iastore, 1) := by decide +kernel
theorem dX5_keep_126 : decode cX5_keep 126 = .ok (.aload_n 0, 1) := by decide +kernel
theorem dX5_keep_127 : decode cX5_keep 127 = .ok (.getfield 76, 3) := by decide +kernel
theorem dX5_keep_130 : decode cX5_keep 130 = .ok (.iload_n 2, 1) := by decide +kernel
theorem dX5_keep_131 : decode cX5_keep 131 = .ok (.iconst 1, 1) := by decide +kernel
theorem dX5_keep_132 : decode cX5_keep 132 = .ok (.iadd, 1) := by decide +kernel
theorem dX5_keep_133 : decode cX5_keep 133 = .ok (.aload_n 0, 1) := by decide +kernel
theorem dX5_keep_134 : decode cX5_keep 134 = .ok (.getfield 43, 3) := by decide +kernel
theorem dX5_keep_137 : decode cX5_keep 137 = .ok (.iload_n 2, 1) := by decide +kernel
theorem dX5_keep_138 : decode cX5_keep 138 = .ok (.iconst 1, 1) := by decide +kernel
theorem dX5_keep_139 : decode cX5_keep 139 = .ok (.iadd, 1) := by decide +kernel
theorem dX5_keep_140 : decode cX5_keep 140 = .ok (.iaload, 1) := by decide +kernel
theorem dX5_keep_141 : decode cX5_keep 141 = .ok (.iastore, 1) := by decide +kernel
theorem dX5_keep_142 : decode cX5_keep 142 = .ok (.iinc 2 1, 3) := by decide +kernel
theorem dX5_keep_145 : decode cX5_keep 145 = .ok (.goto (-120), 3) := by decide +kernel
theorem dX5_keep_148 : decode cX5_keep 148 = .ok (.return_, 1) := by decide +kernel
theorem dX5_check_0 : decode cX5_check 0 = .ok (.aload_n 0, 1) := by decide +kernel
theorem dX5_check_1 : decode cX5_check 1 = .ok (.iconst 0, 1) := by decide +kernel
theorem dX5_check_2 : decode cX5_check 2 = .ok (.invokevirtual 212, 3) := by decide +kernel
theorem dX5_check_5 : decode cX5_check 5 = .ok (.aload_n 0, 1) := by decide +kernel
theorem dX5_check_6 : decode cX5_check 6 = .ok (.invokevirtual 158, 3) := by decide +kernel
theorem dX5_check_9 : decode cX5_check 9 = .ok (.iconst 0, 1) := by decide +kernel
theorem dX5_check_10 : decode cX5_check 10 = .ok (.istore_n 1, 1) := by decide +kernel
theorem dX5_check_11 : decode cX5_check 11 = .ok (.iconst 1, 1) := by decide +kernel
theorem dX5_check_12 : decode cX5_check 12 = .ok (.istore_n 2, 1) := by decide +kernel
theorem dX5_check_13 : decode cX5_check 13 = .ok (.iload_n 2, 1) := by decide +kernel
theorem dX5_check_14 : decode cX5_check 14 = .ok (.ifCond .eq 47, 3) := by decide +kernel
theorem dX5_check_17 : decode cX5_check 17 = .ok (.iload_n 1, 1) := by decide +kernel
theorem dX5_check_18 : decode cX5_check 18 = .ok (.aload_n 0, 1) := by decide +kernel
theorem dX5_check_19 : decode cX5_check 19 = .ok (.getfield 185, 3) := by decide +kernel
theorem dX5_check_22 : decode cX5_check 22 = .ok (.if_icmp .ge 39, 3) := by decide +kernel
theorem dX5_check_25 : decode cX5_check 25 = .ok (.aload_n 0, 1) := by decide +kernel
theorem dX5_check_26 : decode cX5_check 26 = .ok (.invokevirtual 171, 3) := by decide +kernel
theorem dX5_check_29 : decode cX5_check 29 = .ok (.istore_n 3, 1) := by decide +kernel
theorem dX5_check_30 : decode cX5_check 30 = .ok (.iload_n 3, 1) := by decide +kernel
theorem dX5_check_31 : decode cX5_check 31 = .ok (.aload_n 0, 1) := by decide +kernel
theorem dX5_check_32 : decode cX5_check 32 = .ok (.getfield 55, 3) := by decide +kernel
theorem dX5_check_35 : decode cX5_check 35 = .ok (.iload_n 1, 1) := by decide +kernel
theorem dX5_check_36 : decode cX5_check 36 = .ok (.iaload, 1) := by decide +kernel
theorem dX5_check_37 : decode cX5_check 37 = .ok (.if_icmp .ne 7, 3) := by decide +kernel
theorem dX5_check_40 : decode cX5_check 40 = .ok (.iconst 1, 1) := by decide +kernel
theorem dX5_check_41 : decode cX5_check 41 = .ok (.goto 4, 3) := by decide +kernel
theorem dX5_check_44 : decode cX5_check 44 = .ok (.iconst 0, 1) := by decide +kernel
theorem dX5_check_45 : decode cX5_check 45 = .ok (.istore_n 2, 1) := by decide +kernel
theorem dX5_check_46 : decode cX5_check 46 = .ok (.iload_n 2, 1) := by decide +kernel
theorem dX5_check_47 : decode cX5_check 47 = .ok (.ifCond .eq 11, 3) := by decide +kernel
theorem dX5_check_50 : decode cX5_check 50 = .ok (.aload_n 0, 1) := by decide +kernel
theorem dX5_check_51 : decode cX5_check 51 = .ok (.iload_n 3, 1) := by decide +kernel
theorem dX5_check_52 : decode cX5_check 52 = .ok (.invokevirtual 175, 3) := by decide +kernel
theorem dX5_check_55 : decode cX5_check 55 = .ok (.iinc 1 1, 3) := by decide +kernel
theorem dX5_check_58 : decode cX5_check 58 = .ok (.goto (-45), 3) := by decide +kernel
theorem dX5_check_61 : decode cX5_check 61 = .ok (.aload_n 0, 1) := by decide +kernel
theorem dX5_check_62 : decode cX5_check 62 = .ok (.iconst 1, 1) := by decide +kernel
theorem dX5_check_63 : decode cX5_check 63 = .ok (.invokevirtual 212, 3) := by decide +kernel
theorem dX5_check_66 : decode cX5_check 66 = .ok (.iload_n 2, 1) := by decide +kernel
theorem dX5_check_67 : decode cX5_check 67 = .ok (.ifCond .eq 7, 3) := by decide +kernel
theorem dX5_check_70 : decode cX5_check 70 = .ok (.iconst (-1), 1) := by decide +kernel
theorem dX5_check_71 : decode cX5_check 71 = .ok (.goto 4, 3) := by decide +kernel
theorem dX5_check_74 : decode cX5_check 74 = .ok (.iload_n 1, 1) := by decide +kernel
theorem dX5_check_75 : decode cX5_check 75 = .ok (.ireturn, 1) := by decide +kernel
theorem dJ9_max_7cf53_0 : decode cJ9_max_7cf53 0 = .ok (.iload_n 0, 1) := by decide +kernel
theorem dJ9_max_7cf53_1 : decode cJ9_max_7cf53 1 = .ok (.iload_n 1, 1) := by decide +kernel
theorem dJ9_max_7cf53_2 : decode cJ9_max_7cf53 2 = .ok (.if_icmp .lt 7, 3) := by decide +kernel
theorem dJ9_max_7cf53_5 : decode cJ9_max_7cf53 5 = .ok (.iload_n 0, 1) := by decide +kernel
theorem dJ9_max_7cf53_6 : decode cJ9_max_7cf53 6 = .ok (.goto 4, 3) := by decide +kernel
theorem dJ9_max_7cf53_9 : decode cJ9_max_7cf53 9 = .ok (.iload_n 1, 1) := by decide +kernel
theorem dJ9_max_7cf53_10 : decode cJ9_max_7cf53 10 = .ok (.ireturn, 1) := by decide +kernel
theorem dL_law_0 : decode cL_law 0 = .ok (.new 7, 3) := by decide +kernel
theorem dL_law_3 : decode cL_law 3 = .ok (.dup, 1) := by decide +kernel
theorem dL_law_4 : decode cL_law 4 = .ok (.invokespecial 9, 3) := by decide +kernel
theorem dL_law_7 : decode cL_law 7 = .ok (.astore_n 1, 1) := by decide +kernel
theorem dL_law_8 : decode cL_law 8 = .ok (.new 10, 3) := by decide +kernel
theorem dL_law_11 : decode cL_law 11 = .ok (.dup, 1) := by decide +kernel
theorem dL_law_12 : decode cL_law 12 = .ok (.invokespecial 12, 3) := by decide +kernel
theorem dL_law_15 : decode cL_law 15 = .ok (.astore_n 2, 1) := by decide +kernel
theorem dL_law_16 : decode cL_law 16 = .ok (.iconst 0, 1) := by decide +kernel
theorem dL_law_17 : decode cL_law 17 = .ok (.istore_n 3, 1) := by decide +kernel
theorem dL_law_18 : decode cL_law 18 = .ok (.iload_n 3, 1) := by decide +kernel
theorem dL_law_19 : decode cL_law 19 = .ok (.aload_n 0, 1) := by decide +kernel
theorem dL_law_20 : decode cL_law 20 = .ok (.arraylength, 1) := by decide +kernel
theorem dL_law_21 : decode cL_law 21 = .ok (.bipush 6, 2) := by decide +kernel
theorem dL_law_23 : decode cL_law 23 = .ok (.isub, 1) := by decide +kernel
theorem dL_law_24 : decode cL_law 24 = .ok (.if_icmp .gt 1254, 3) := by decide +kernel
theorem dL_law_27 : decode cL_law 27 = .ok (.aload_n 0, 1) := by decide +kernel
theorem dL_law_28 : decode cL_law 28 = .ok (.iload_n 3, 1) := by decide +kernel
theorem dL_law_29 : decode cL_law 29 = .ok (.iaload, 1) := by decide +kernel
theorem dL_law_30 : decode cL_law 30 = .ok (.bipush 63, 2) := by decide +kernel
theorem dL_law_32 : decode cL_law 32 = .ok (.iand, 1) := by decide +kernel
theorem dL_law_33 : decode cL_law 33 = .ok (.tableswitch 1239 0 34 #[155, 178, 211, 244, 293, 342, 381, 414, 447, 470, 513, 596, 639, 702, 725, 759, 812, 825, 838, 861, 884, 907, 930, 963, 986, 1019, 1032, 1055, 1088, 1121, 1144, 1167, 1180, 1213, 1226], 155) := by decide +kernel
theorem dL_law_188 : decode cL_law 188 = .ok (.aload_n 1, 1) := by decide +kernel
theorem dL_law_189 : decode cL_law 189 = .ok (.aload_n 0, 1) := by decide +kernel
theorem dL_law_190 : decode cL_law 190 = .ok (.iload_n 3, 1) := by decide +kernel
theorem dL_law_191 : decode cL_law 191 = .ok (.iconst 1, 1) := by decide +kernel
theorem dL_law_192 : decode cL_law 192 = .ok (.iadd, 1) := by decide +kernel
theorem dL_law_193 : decode cL_law 193 = .ok (.iaload, 1) := by decide +kernel
theorem dL_law_194 : decode cL_law 194 = .ok (.invokevirtual 13, 3) := by decide +kernel
theorem dL_law_197 : decode cL_law 197 = .ok (.aload_n 2, 1) := by decide +kernel
theorem dL_law_198 : decode cL_law 198 = .ok (.aload_n 0, 1) := by decide +kernel
theorem dL_law_199 : decode cL_law 199 = .ok (.iload_n 3, 1) := by decide +kernel
theorem dL_law_200 : decode cL_law 200 = .ok (.iconst 1, 1) := by decide +kernel
theorem dL_law_201 : decode cL_law 201 = .ok (.iadd, 1) := by decide +kernel
theorem dL_law_202 : decode cL_law 202 = .ok (.iaload, 1) := by decide +kernel
theorem dL_law_203 : decode cL_law 203 = .ok (.invokevirtual 17, 3) := by decide +kernel
theorem dL_law_206 : decode cL_law 206 = .ok (.if_icmp .eq 1066, 3) := by decide +kernel
theorem dL_law_209 : decode cL_law 209 = .ok (.iconst 0, 1) := by decide +kernel
theorem dL_law_210 : decode cL_law 210 = .ok (.ireturn, 1) := by decide +kernel
theorem dL_law_211 : decode cL_law 211 = .ok (.aload_n 1, 1) := by decide +kernel
theorem dL_law_212 : decode cL_law 212 = .ok (.aload_n 0, 1) := by decide +kernel
theorem dL_law_213 : decode cL_law 213 = .ok (.iload_n 3, 1) := by decide +kernel
theorem dL_law_214 : decode cL_law 214 = .ok (.iconst 1, 1) := by decide +kernel
theorem dL_law_215 : decode cL_law 215 = .ok (.iadd, 1) := by decide +kernel
theorem dL_law_216 : decode cL_law 216 = .ok (.iaload, 1) := by decide +kernel
theorem dL_law_217 : decode cL_law 217 = .ok (.aload_n 0, 1) := by decide +kernel
theorem dL_law_218 : decode cL_law 218 = .ok (.iload_n 3, 1) := by decide +kernel
theorem dL_law_219 : decode cL_law 219 = .ok (.iconst 2, 1) := by decide +kernel
theorem dL_law_220 : decode cL_law 220 = .ok (.iadd, 1) := by decide +kernel
theorem dL_law_221 : decode cL_law 221 = .ok (.iaload, 1) := by decide +kernel
theorem dL_law_222 : decode cL_law 222 = .ok (.invokevirtual 18, 3) := by decide +kernel
theorem dL_law_225 : decode cL_law 225 = .ok (.aload_n 2, 1) := by decide +kernel
theorem dL_law_226 : decode cL_law 226 = .ok (.aload_n 0, 1) := by decide +kernel
theorem dL_law_227 : decode cL_law 227 = .ok (.iload_n 3, 1) := by decide +kernel
theorem dL_law_228 : decode cL_law 228 = .ok (.iconst 1, 1) := by decide +kernel
theorem dL_law_229 : decode cL_law 229 = .ok (.iadd, 1) := by decide +kernel
theorem dL_law_230 : decode cL_law 230 = .ok (.iaload, 1) := by decide +kernel
theorem dL_law_231 : decode cL_law 231 = .ok (.aload_n 0, 1) := by decide +kernel
theorem dL_law_232 : decode cL_law 232 = .ok (.iload_n 3, 1) := by decide +kernel
theorem dL_law_233 : decode cL_law 233 = .ok (.iconst 2, 1) := by decide +kernel
theorem dL_law_234 : decode cL_law 234 = .ok (.iadd, 1) := by decide +kernel
theorem dL_law_235 : decode cL_law 235 = .ok (.iaload, 1) := by decide +kernel
theorem dL_law_236 : decode cL_law 236 = .ok (.invokevirtual 22, 3) := by decide +kernel
theorem dL_law_239 : decode cL_law 239 = .ok (.if_icmp .eq 1033, 3) := by decide +kernel
theorem dL_law_242 : decode cL_law 242 = .ok (.iconst 0, 1) := by decide +kernel
theorem dL_law_243 : decode cL_law 243 = .ok (.ireturn, 1) := by decide +kernel
theorem dL_law_244 : decode cL_law 244 = .ok (.aload_n 1, 1) := by decide +kernel
theorem dL_law_245 : decode cL_law 245 = .ok (.aload_n 0, 1) := by decide +kernel
theorem dL_law_246 : decode cL_law 246 = .ok (.iload_n 3, 1) := by decide +kernel
theorem dL_law_247 : decode cL_law 247 = .ok (.iconst 1, 1) := by decide +kernel
theorem dL_law_248 : decode cL_law 248 = .ok (.iadd, 1) := by decide +kernel
theorem dL_law_249 : decode cL_law 249 = .ok (.iaload, 1) := by decide +kernel
theorem dL_law_250 : decode cL_law 250 = .ok (.aload_n 0, 1) := by decide +kernel
theorem dL_law_251 : decode cL_law 251 = .ok (.iload_n 3, 1) := by decide +kernel
theorem dL_law_252 : decode cL_law 252 = .ok (.iconst 2, 1) := by decide +kernel
theorem dL_law_253 : decode cL_law 253 = .ok (.iadd, 1) := by decide +kernel
theorem dL_law_254 : decode cL_law 254 = .ok (.iaload, 1) := by decide +kernel
theorem dL_law_255 : decode cL_law 255 = .ok (.invokevirtual 23, 3) := by decide +kernel
theorem dL_law_258 : decode cL_law 258 = .ok (.aload_n 2, 1) := by decide +kernel
theorem dL_law_259 : decode cL_law 259 = .ok (.aload_n 0, 1) := by decide +kernel
theorem dL_law_260 : decode cL_law 260 = .ok (.iload_n 3, 1) := by decide +kernel
theorem dL_law_261 : decode cL_law 261 = .ok (.iconst 1, 1) := by decide +kernel
theorem dL_law_262 : decode cL_law 262 = .ok (.iadd, 1) := by decide +kernel
theorem dL_law_263 : decode cL_law 263 = .ok (.iaload, 1) := by decide +kernel
theorem dL_law_264 : decode cL_law 264 = .ok (.aload_n 0, 1) := by decide +kernel
theorem dL_law_265 : decode cL_law 265 = .ok (.iload_n 3, 1) := by decide +kernel
theorem dL_law_266 : decode cL_law 266 = .ok (.iconst 2, 1) := by decide +kernel
theorem dL_law_267 : decode cL_law 267 = .ok (.iadd, 1) := by decide +kernel
theorem dL_law_268 : decode cL_law 268 = .ok (.iaload, 1) := by decide +kernel
theorem dL_law_269 : decode cL_law 269 = .ok (.invokevirtual 26, 3) := by decide +kernel
theorem dL_law_272 : decode cL_law 272 = .ok (.if_icmp .eq 1000, 3) := by decide +kernel
theorem dL_law_275 : decode cL_law 275 = .ok (.iconst 0, 1) := by decide +kernel
theorem dL_law_276 : decode cL_law 276 = .ok (.ireturn, 1) := by decide +kernel
theorem dL_law_277 : decode cL_law 277 = .ok (.aload_n 1, 1) := by decide +kernel
theorem dL_law_278 : decode cL_law 278 = .ok (.aload_n 0, 1) := by decide +kernel
theorem dL_law_279 : decode cL_law 279 = .ok (.iload_n 3, 1) := by decide +kernel
theorem dL_law_280 : decode cL_law 280 = .ok (.iconst 1, 1) := by decide +kernel
theorem dL_law_281 : decode cL_law 281 = .ok (.iadd, 1) := by decide +kernel
theorem dL_law_282 : decode cL_law 282 = .ok (.iaload, 1) := by decide +kernel
theorem dL_law_283 : decode cL_law 283 = .ok (.aload_n 0, 1) := by decide +kernel
theorem dL_law_284 : decode cL_law 284 = .ok (.iload_n 3, 1) := by decide +kernel
theorem dL_law_285 : decode cL_law 285 = .ok (.iconst 2, 1) := by decide +kernel
theorem dL_law_286 : decode cL_law 286 = .ok (.iadd, 1) := by decide +kernel
theorem dL_law_287 : decode cL_law 287 = .ok (.iaload, 1) := by decide +kernel
theorem dL_law_288 : decode cL_law 288 = .ok (.ifCond .eq 7, 3) := by decide +kernel
theorem dL_law_291 : decode cL_law 291 = .ok (.iconst 1, 1) := by decide +kernel
theorem dL_law_292 : decode cL_law 292 = .ok (.goto 4, 3) := by decide +kernel
theorem dL_law_295 : decode cL_law 295 = .ok (.iconst 0, 1) := by decide +kernel
theorem dL_law_296 : decode cL_law 296 = .ok (.invokevirtual 27, 3) := by decide +kernel
theorem dL_law_299 : decode cL_law 299 = .ok (.aload_n 2, 1) := by decide +kernel
theorem dL_law_300 : decode cL_law 300 = .ok (.aload_n 0, 1) := by decide +kernel
theorem dL_law_301 : decode cL_law 301 = .ok (.iload_n 3, 1) := by decide +kernel
theorem dL_law_302 : decode cL_law 302 = .ok (.iconst 1, 1) := by decide +kernel
theorem dL_law_303 : decode cL_law 303 = .ok (.iadd, 1) := by decide +kernel
theorem dL_law_304 : decode cL_law 304 = .ok (.iaload, 1) := by decide +kernel
theorem dL_law_305 : decode cL_law 305 = .ok (.aload_n 0, 1) := by decide +kernel
theorem dL_law_306 : decode cL_law 306 = .ok (.iload_n 3, 1) := by decide +kernel
theorem dL_law_307 : decode cL_law 307 = .ok (.iconst 2, 1) := by decide +kernel
theorem dL_law_308 : decode cL_law 308 = .ok (.iadd, 1) := by decide +kernel
theorem dL_law_309 : decode cL_law 309 = .ok (.iaload, 1) := by decide +kernel
theorem dL_law_310 : decode cL_law 310 = .ok (.ifCond .eq 7, 3) := by decide +kernel
theorem dL_law_313 : decode cL_law 313 = .ok (.iconst 1, 1) := by decide +kernel
theorem dL_law_314 : decode cL_law 314 = .ok (.goto 4, 3) := by decide +kernel
theorem dL_law_317 : decode cL_law 317 = .ok (.iconst 0, 1) := by decide +kernel
theorem dL_law_318 : decode cL_law 318 = .ok (.invokevirtual 31, 3) := by decide +kernel
theorem dL_law_321 : decode cL_law 321 = .ok (.if_icmp .eq 951, 3) := by decide +kernel
theorem dL_law_324 : decode cL_law 324 = .ok (.iconst 0, 1) := by decide +kernel
theorem dL_law_325 : decode cL_law 325 = .ok (.ireturn, 1) := by decide +kernel
theorem dL_law_326 : decode cL_law 326 = .ok (.aload_n 1, 1) := by decide +kernel
theorem dL_law_327 : decode cL_law 327 = .ok (.aload_n 0, 1) := by decide +kernel
theorem dL_law_328 : decode cL_law 328 = .ok (.iload_n 3, 1) := by decide +kernel
theorem dL_law_329 : decode cL_law 329 = .ok (.iconst 1, 1) := by decide +kernel
theorem dL_law_330 : decode cL_law 330 = .ok (.iadd, 1) := by decide +kernel
theorem dL_law_331 : decode cL_law 331 = .ok (.iaload, 1) := by decide +kernel
theorem dL_law_332 : decode cL_law 332 = .ok (.aload_n 0, 1) := by decide +kernel
theorem dL_law_333 : decode cL_law 333 = .ok (.iload_n 3, 1) := by decide +kernel
theorem dL_law_334 : decode cL_law 334 = .ok (.iconst 2, 1) := by decide +kernel
theorem dL_law_335 : decode cL_law 335 = .ok (.iadd, 1) := by decide +kernel
theorem dL_law_336 : decode cL_law 336 = .ok (.iaload, 1) := by decide +kernel
theorem dL_law_337 : decode cL_law 337 = .ok (.ifCond .eq 7, 3) := by decide +kernel
theorem dL_law_340 : decode cL_law 340 = .ok (.iconst 1, 1) := by decide +kernel
theorem dL_law_341 : decode cL_law 341 = .ok (.goto 4, 3) := by decide +kernel
theorem dL_law_344 : decode cL_law 344 = .ok (.iconst 0, 1) := by decide +kernel
theorem dL_law_345 : decode cL_law 345 = .ok (.invokevirtual 32, 3) := by decide +kernel
theorem dL_law_348 : decode cL_law 348 = .ok (.aload_n 2, 1) := by decide +kernel
theorem dL_law_349 : decode cL_law 349 = .ok (.aload_n 0, 1) := by decide +kernel
theorem dL_law_350 : decode cL_law 350 = .ok (.iload_n 3, 1) := by decide +kernel
theorem dL_law_351 : decode cL_law 351 = .ok (.iconst 1, 1) := by decide +kernel
theorem dL_law_352 : decode cL_law 352 = .ok (.iadd, 1) := by decide +kernel
theorem dL_law_353 : decode cL_law 353 = .ok (.iaload, 1) := by decide +kernel
theorem dL_law_354 : decode cL_law 354 = .ok (.aload_n 0, 1) := by decide +kernel
theorem dL_law_355 : decode cL_law 355 = .ok (.iload_n 3, 1) := by decide +kernel
theorem dL_law_356 : decode cL_law 356 = .ok (.iconst 2, 1) := by decide +kernel
theorem dL_law_357 : decode cL_law 357 = .ok (.iadd, 1) := by decide +kernel
theorem dL_law_358 : decode cL_law 358 = .ok (.iaload, 1) := by decide +kernel
theorem dL_law_359 : decode cL_law 359 = .ok (.ifCond .eq 7, 3) := by decide +kernel
theorem dL_law_362 : decode cL_law 362 = .ok (.iconst 1, 1) := by decide +kernel
theorem dL_law_363 : decode cL_law 363 = .ok (.goto 4, 3) := by decide +kernel
theorem dL_law_366 : decode cL_law 366 = .ok (.iconst 0, 1) := by decide +kernel
theorem dL_law_367 : decode cL_law 367 = .ok (.invokevirtual 35, 3) := by decide +kernel
theorem dL_law_370 : decode cL_law 370 = .ok (.if_icmp .eq 902, 3) := by decide +kernel
theorem dL_law_373 : decode cL_law 373 = .ok (.iconst 0, 1) := by decide +kernel
theorem dL_law_374 : decode cL_law 374 = .ok (.ireturn, 1) := by decide +kernel
theorem dL_law_375 : decode cL_law 375 = .ok (.aload_n 1, 1) := by decide +kernel
theorem dL_law_376 : decode cL_law 376 = .ok (.aload_n 0, 1) := by decide +kernel
theorem dL_law_377 : decode cL_law 377 = .ok (.iload_n 3, 1) := by decide +kernel
theorem dL_law_378 : decode cL_law 378 = .ok (.iconst 1, 1) := by decide +kernel
theorem dL_law_379 : decode cL_law 379 = .ok (.iadd, 1) := by decide +kernel
theorem dL_law_380 : decode cL_law 380 = .ok (.iaload, 1) := by decide +kernel
theorem dL_law_381 : decode cL_law 381 = .ok (.ifCond .eq 7, 3) := by decide +kernel
theorem dL_law_384 : decode cL_law 384 = .ok (.iconst 1, 1) := by decide +kernel
theorem dL_law_385 : decode cL_law 385 = .ok (.goto 4, 3) := by decide +kernel
theorem dL_law_388 : decode cL_law 388 = .ok (.iconst 0, 1) := by decide +kernel
theorem dL_law_389 : decode cL_law 389 = .ok (.invokevirtual 36, 3) := by decide +kernel
theorem dL_law_392 : decode cL_law 392 = .ok (.aload_n 2, 1) := by decide +kernel
theorem dL_law_393 : decode cL_law 393 = .ok (.aload_n 0, 1) := by decide +kernel
theorem dL_law_394 : decode cL_law 394 = .ok (.iload_n 3, 1) := by decide +kernel
theorem dL_law_395 : decode cL_law 395 = .ok (.iconst 1, 1) := by decide +kernel
theorem dL_law_396 : decode cL_law 396 = .ok (.iadd, 1) := by decide +kernel
theorem dL_law_397 : decode cL_law 397 = .ok (.iaload, 1) := by decide +kernel
theorem dL_law_398 : decode cL_law 398 = .ok (.ifCond .eq 7, 3) := by decide +kernel
theorem dL_law_401 : decode cL_law 401 = .ok (.iconst 1, 1) := by decide +kernel
theorem dL_law_402 : decode cL_law 402 = .ok (.goto 4, 3) := by decide +kernel
theorem dL_law_405 : decode cL_law 405 = .ok (.iconst 0, 1) := by decide +kernel
theorem dL_law_406 : decode cL_law 406 = .ok (.invokevirtual 40, 3) := by decide +kernel
theorem dL_law_409 : decode cL_law 409 = .ok (.if_icmp .eq 863, 3) := by decide +kernel
theorem dL_law_412 : decode cL_law 412 = .ok (.iconst 0, 1) := by decide +kernel
theorem dL_law_413 : decode cL_law 413 = .ok (.ireturn, 1) := by decide +kernel
theorem dL_law_414 : decode cL_law 414 = .ok (.aload_n 1, 1) := by decide +kernel
theorem dL_law_415 : decode cL_law 415 = .ok (.aload_n 0, 1) := by decide +kernel
theorem dL_law_416 : decode cL_law 416 = .ok (.iload_n 3, 1) := by decide +kernel
theorem dL_law_417 : decode cL_law 417 = .ok (.iconst 1, 1) := by decide +kernel
theorem dL_law_418 : decode cL_law 418 = .ok (.iadd, 1) := by decide +kernel
theorem dL_law_419 : decode cL_law 419 = .ok (.iaload, 1) := by decide +kernel
theorem dL_law_420 : decode cL_law 420 = .ok (.aload_n 0, 1) := by decide +kernel
theorem dL_law_421 : decode cL_law 421 = .ok (.iload_n 3, 1) := by decide +kernel
theorem dL_law_422 : decode cL_law 422 = .ok (.iconst 2, 1) := by decide +kernel
theorem dL_law_423 : decode cL_law 423 = .ok (.iadd, 1) := by decide +kernel
theorem dL_law_424 : decode cL_law 424 = .ok (.iaload, 1) := by decide +kernel
theorem dL_law_425 : decode cL_law 425 = .ok (.invokevirtual 41, 3) := by decide +kernel
theorem dL_law_428 : decode cL_law 428 = .ok (.aload_n 2, 1) := by decide +kernel
theorem dL_law_429 : decode cL_law 429 = .ok (.aload_n 0, 1) := by decide +kernel
theorem dL_law_430 : decode cL_law 430 = .ok (.iload_n 3, 1) := by decide +kernel
theorem dL_law_431 : decode cL_law 431 = .ok (.iconst 1, 1) := by decide +kernel
theorem dL_law_432 : decode cL_law 432 = .ok (.iadd, 1) := by decide +kernel
theorem dL_law_433 : decode cL_law 433 = .ok (.iaload, 1) := by decide +kernel
theorem dL_law_434 : decode cL_law 434 = .ok (.aload_n 0, 1) := by decide +kernel
theorem dL_law_435 : decode cL_law 435 = .ok (.iload_n 3, 1) := by decide +kernel
theorem dL_law_436 : decode cL_law 436 = .ok (.iconst 2, 1) := by decide +kernel
theorem dL_law_437 : decode cL_law 437 = .ok (.iadd, 1) := by decide +kernel
theorem dL_law_438 : decode cL_law 438 = .ok (.iaload, 1) := by decide +kernel
theorem dL_law_439 : decode cL_law 439 = .ok (.invokevirtual 44, 3) := by decide +kernel
theorem dL_law_442 : decode cL_law 442 = .ok (.if_icmp .eq 830, 3) := by decide +kernel
theorem dL_law_445 : decode cL_law 445 = .ok (.iconst 0, 1) := by decide +kernel
theorem dL_law_446 : decode cL_law 446 = .ok (.ireturn, 1) := by decide +kernel
theorem dL_law_447 : decode cL_law 447 = .ok (.aload_n 1, 1) := by decide +kernel
theorem dL_law_448 : decode cL_law 448 = .ok (.aload_n 0, 1) := by decide +kernel
theorem dL_law_449 : decode cL_law 449 = .ok (.iload_n 3, 1) := by decide +kernel
theorem dL_law_450 : decode cL_law 450 = .ok (.iconst 1, 1) := by decide +kernel
theorem dL_law_451 : decode cL_law 451 = .ok (.iadd, 1) := by decide +kernel
theorem dL_law_452 : decode cL_law 452 = .ok (.iaload, 1) := by decide +kernel
theorem dL_law_453 : decode cL_law 453 = .ok (.aload_n 0, 1) := by decide +kernel
theorem dL_law_454 : decode cL_law 454 = .ok (.iload_n 3, 1) := by decide +kernel
theorem dL_law_455 : decode cL_law 455 = .ok (.iconst 2, 1) := by decide +kernel
theorem dL_law_456 : decode cL_law 456 = .ok (.iadd, 1) := by decide +kernel
theorem dL_law_457 : decode cL_law 457 = .ok (.iaload, 1) := by decide +kernel
theorem dL_law_458 : decode cL_law 458 = .ok (.invokevirtual 45, 3) := by decide +kernel
theorem dL_law_461 : decode cL_law 461 = .ok (.aload_n 2, 1) := by decide +kernel
theorem dL_law_462 : decode cL_law 462 = .ok (.aload_n 0, 1) := by decide +kernel
theorem dL_law_463 : decode cL_law 463 = .ok (.iload_n 3, 1) := by decide +kernel
theorem dL_law_464 : decode cL_law 464 = .ok (.iconst 1, 1) := by decide +kernel
theorem dL_law_465 : decode cL_law 465 = .ok (.iadd, 1) := by decide +kernel
theorem dL_law_466 : decode cL_law 466 = .ok (.iaload, 1) := by decide +kernel
theorem dL_law_467 : decode cL_law 467 = .ok (.aload_n 0, 1) := by decide +kernel
theorem dL_law_468 : decode cL_law 468 = .ok (.iload_n 3, 1) := by decide +kernel
theorem dL_law_469 : decode cL_law 469 = .ok (.iconst 2, 1) := by decide +kernel
theorem dL_law_470 : decode cL_law 470 = .ok (.iadd, 1) := by decide +kernel
theorem dL_law_471 : decode cL_law 471 = .ok (.iaload, 1) := by decide +kernel
theorem dL_law_472 : decode cL_law 472 = .ok (.invokevirtual 48, 3) := by decide +kernel
theorem dL_law_475 : decode cL_law 475 = .ok (.if_icmp .eq 797, 3) := by decide +kernel
theorem dL_law_478 : decode cL_law 478 = .ok (.iconst 0, 1) := by decide +kernel
theorem dL_law_479 : decode cL_law 479 = .ok (.ireturn, 1) := by decide +kernel
theorem dL_law_480 : decode cL_law 480 = .ok (.aload_n 1, 1) := by decide +kernel
theorem dL_law_481 : decode cL_law 481 = .ok (.aload_n 0, 1) := by decide +kernel
theorem dL_law_482 : decode cL_law 482 = .ok (.iload_n 3, 1) := by decide +kernel
theorem dL_law_483 : decode cL_law 483 = .ok (.iconst 1, 1) := by decide +kernel
theorem dL_law_484 : decode cL_law 484 = .ok (.iadd, 1) := by decide +kernel
theorem dL_law_485 : decode cL_law 485 = .ok (.iaload, 1) := by decide +kernel
theorem dL_law_486 : decode cL_law 486 = .ok (.invokevirtual 49, 3) := by decide +kernel
theorem dL_law_489 : decode cL_law 489 = .ok (.aload_n 2, 1) := by decide +kernel
theorem dL_law_490 : decode cL_law 490 = .ok (.aload_n 0, 1) := by decide +kernel
theorem dL_law_491 : decode cL_law 491 = .ok (.iload_n 3, 1) := by decide +kernel
theorem dL_law_492 : decode cL_law 492 = .ok (.iconst 1, 1) := by decide +kernel
theorem dL_law_493 : decode cL_law 493 = .ok (.iadd, 1) := by decide +kernel
theorem dL_law_494 : decode cL_law 494 = .ok (.iaload, 1) := by decide +kernel
theorem dL_law_495 : decode cL_law 495 = .ok (.invokevirtual 52, 3) := by decide +kernel
theorem dL_law_498 : decode cL_law 498 = .ok (.if_icmp .eq 774, 3) := by decide +kernel
theorem dL_law_501 : decode cL_law 501 = .ok (.iconst 0, 1) := by decide +kernel
theorem dL_law_502 : decode cL_law 502 = .ok (.ireturn, 1) := by decide +kernel
theorem dL_law_503 : decode cL_law 503 = .ok (.aload_n 1, 1) := by decide +kernel
theorem dL_law_504 : decode cL_law 504 = .ok (.aload_n 0, 1) := by decide +kernel
theorem dL_law_505 : decode cL_law 505 = .ok (.iload_n 3, 1) := by decide +kernel
theorem dL_law_506 : decode cL_law 506 = .ok (.iconst 1, 1) := by decide +kernel
theorem dL_law_507 : decode cL_law 507 = .ok (.iadd, 1) := by decide +kernel
theorem dL_law_508 : decode cL_law 508 = .ok (.iaload, 1) := by decide +kernel
theorem dL_law_509 : decode cL_law 509 = .ok (.aload_n 0, 1) := by decide +kernel
theorem dL_law_510 : decode cL_law 510 = .ok (.iload_n 3, 1) := by decide +kernel
theorem dL_law_511 : decode cL_law 511 = .ok (.iconst 2, 1) := by decide +kernel
theorem dL_law_512 : decode cL_law 512 = .ok (.iadd, 1) := by decide +kernel
theorem dL_law_513 : decode cL_law 513 = .ok (.iaload, 1) := by decide +kernel
theorem dL_law_514 : decode cL_law 514 = .ok (.aload_n 0, 1) := by decide +kernel
theorem dL_law_515 : decode cL_law 515 = .ok (.iload_n 3, 1) := by decide +kernel
theorem dL_law_516 : decode cL_law 516 = .ok (.iconst 3, 1) := by decide +kernel
theorem dL_law_517 : decode cL_law 517 = .ok (.iadd, 1) := by decide +kernel
theorem dL_law_518 : decode cL_law 518 = .ok (.iaload, 1) := by decide +kernel
theorem dL_law_519 : decode cL_law 519 = .ok (.invokevirtual 53, 3) := by decide +kernel
theorem dL_law_522 : decode cL_law 522 = .ok (.aload_n 2, 1) := by decide +kernel
theorem dL_law_523 : decode cL_law 523 = .ok (.aload_n 0, 1) := by decide +kernel
theorem dL_law_524 : decode cL_law 524 = .ok (.iload_n 3, 1) := by decide +kernel
theorem dL_law_525 : decode cL_law 525 = .ok (.iconst 1, 1) := by decide +kernel
theorem dL_law_526 : decode cL_law 526 = .ok (.iadd, 1) := by decide +kernel
theorem dL_law_527 : decode cL_law 527 = .ok (.iaload, 1) := by decide +kernel
theorem dL_law_528 : decode cL_law 528 = .ok (.aload_n 0, 1) := by decide +kernel
theorem dL_law_529 : decode cL_law 529 = .ok (.iload_n 3, 1) := by decide +kernel
theorem dL_law_530 : decode cL_law 530 = .ok (.iconst 2, 1) := by decide +kernel
theorem dL_law_531 : decode cL_law 531 = .ok (.iadd, 1) := by decide +kernel
theorem dL_law_532 : decode cL_law 532 = .ok (.iaload, 1) := by decide +kernel
theorem dL_law_533 : decode cL_law 533 = .ok (.aload_n 0, 1) := by decide +kernel
theorem dL_law_534 : decode cL_law 534 = .ok (.iload_n 3, 1) := by decide +kernel
theorem dL_law_535 : decode cL_law 535 = .ok (.iconst 3, 1) := by decide +kernel
theorem dL_law_536 : decode cL_law 536 = .ok (.iadd, 1) := by decide +kernel
theorem dL_law_537 : decode cL_law 537 = .ok (.iaload, 1) := by decide +kernel
theorem dL_law_538 : decode cL_law 538 = .ok (.invokevirtual 57, 3) := by decide +kernel
theorem dL_law_541 : decode cL_law 541 = .ok (.if_icmp .eq 731, 3) := by decide +kernel
theorem dL_law_544 : decode cL_law 544 = .ok (.iconst 0, 1) := by decide +kernel
theorem dL_law_545 : decode cL_law 545 = .ok (.ireturn, 1) := by decide +kernel
theorem dL_law_546 : decode cL_law 546 = .ok (.aload_n 1, 1) := by decide +kernel
theorem dL_law_547 : decode cL_law 547 = .ok (.aload_n 0, 1) := by decide +kernel
theorem dL_law_548 : decode cL_law 548 = .ok (.iload_n 3, 1) := by decide +kernel
theorem dL_law_549 : decode cL_law 549 = .ok (.iconst 1, 1) := by decide +kernel
theorem dL_law_550 : decode cL_law 550 = .ok (.iadd, 1) := by decide +kernel
theorem dL_law_551 : decode cL_law 551 = .ok (.iaload, 1) := by decide +kernel
theorem dL_law_552 : decode cL_law 552 = .ok (.aload_n 0, 1) := by decide +kernel
theorem dL_law_553 : decode cL_law 553 = .ok (.iload_n 3, 1) := by decide +kernel
theorem dL_law_554 : decode cL_law 554 = .ok (.iconst 2, 1) := by decide +kernel
theorem dL_law_555 : decode cL_law 555 = .ok (.iadd, 1) := by decide +kernel
theorem dL_law_556 : decode cL_law 556 = .ok (.iaload, 1) := by decide +kernel
theorem dL_law_557 : decode cL_law 557 = .ok (.aload_n 0, 1) := by decide +kernel
theorem dL_law_558 : decode cL_law 558 = .ok (.iload_n 3, 1) := by decide +kernel
theorem dL_law_559 : decode cL_law 559 = .ok (.iconst 3, 1) := by decide +kernel
theorem dL_law_560 : decode cL_law 560 = .ok (.iadd, 1) := by decide +kernel
theorem dL_law_561 : decode cL_law 561 = .ok (.iaload, 1) := by decide +kernel
theorem dL_law_562 : decode cL_law 562 = .ok (.i2l, 1) := by decide +kernel
theorem dL_law_563 : decode cL_law 563 = .ok (.bipush 32, 2) := by decide +kernel
theorem dL_law_565 : decode cL_law 565 = .ok (.lshl, 1) := by decide +kernel
theorem dL_law_566 : decode cL_law 566 = .ok (.aload_n 0, 1) := by decide +kernel
theorem dL_law_567 : decode cL_law 567 = .ok (.iload_n 3, 1) := by decide +kernel
theorem dL_law_568 : decode cL_law 568 = .ok (.iconst 4, 1) := by decide +kernel
theorem dL_law_569 : decode cL_law 569 = .ok (.iadd, 1) := by decide +kernel
theorem dL_law_570 : decode cL_law 570 = .ok (.iaload, 1) := by decide +kernel
theorem dL_law_571 : decode cL_law 571 = .ok (.i2l, 1) := by decide +kernel
theorem dL_law_572 : decode cL_law 572 = .ok (.ldc2_w 58, 3) := by decide +kernel
theorem dL_law_575 : decode cL_law 575 = .ok (.land, 1) := by decide +kernel
theorem dL_law_576 : decode cL_law 576 = .ok (.lor, 1) := by decide +kernel
theorem dL_law_577 : decode cL_law 577 = .ok (.aload_n 0, 1) := by decide +kernel
theorem dL_law_578 : decode cL_law 578 = .ok (.iload_n 3, 1) := by decide +kernel
theorem dL_law_579 : decode cL_law 579 = .ok (.iconst 5, 1) := by decide +kernel
theorem dL_law_580 : decode cL_law 580 = .ok (.iadd, 1) := by decide +kernel
theorem dL_law_581 : decode cL_law 581 = .ok (.iaload, 1) := by decide +kernel
theorem dL_law_582 : decode cL_law 582 = .ok (.invokevirtual 60, 3) := by decide +kernel
theorem dL_law_585 : decode cL_law 585 = .ok (.aload_n 2, 1) := by decide +kernel
theorem dL_law_586 : decode cL_law 586 = .ok (.aload_n 0, 1) := by decide +kernel
theorem dL_law_587 : decode cL_law 587 = .ok (.iload_n 3, 1) := by decide +kernel
theorem dL_law_588 : decode cL_law 588 = .ok (.iconst 1, 1) := by decide +kernel
theorem dL_law_589 : decode cL_law 589 = .ok (.iadd, 1) := by decide +kernel
theorem dL_law_590 : decode cL_law 590 = .ok (.iaload, 1) := by decide +kernel
theorem dL_law_591 : decode cL_law 591 = .ok (.aload_n 0, 1) := by decide +kernel
theorem dL_law_592 : decode cL_law 592 = .ok (.iload_n 3, 1) := by decide +kernel
theorem dL_law_593 : decode cL_law 593 = .ok (.iconst 2, 1) := by decide +kernel
theorem dL_law_594 : decode cL_law 594 = .ok (.iadd, 1) := by decide +kernel
theorem dL_law_595 : decode cL_law 595 = .ok (.iaload, 1) := by decide +kernel
theorem dL_law_596 : decode cL_law 596 = .ok (.aload_n 0, 1) := by decide +kernel
theorem dL_law_597 : decode cL_law 597 = .ok (.iload_n 3, 1) := by decide +kernel
theorem dL_law_598 : decode cL_law 598 = .ok (.iconst 3, 1) := by decide +kernel
theorem dL_law_599 : decode cL_law 599 = .ok (.iadd, 1) := by decide +kernel
theorem dL_law_600 : decode cL_law 600 = .ok (.iaload, 1) := by decide +kernel
theorem dL_law_601 : decode cL_law 601 = .ok (.i2l, 1) := by decide +kernel
theorem dL_law_602 : decode cL_law 602 = .ok (.bipush 32, 2) := by decide +kernel
theorem dL_law_604 : decode cL_law 604 = .ok (.lshl, 1) := by decide +kernel
theorem dL_law_605 : decode cL_law 605 = .ok (.aload_n 0, 1) := by decide +kernel
theorem dL_law_606 : decode cL_law 606 = .ok (.iload_n 3, 1) := by decide +kernel
theorem dL_law_607 : decode cL_law 607 = .ok (.iconst 4, 1) := by decide +kernel
theorem dL_law_608 : decode cL_law 608 = .ok (.iadd, 1) := by decide +kernel
theorem dL_law_609 : decode cL_law 609 = .ok (.iaload, 1) := by decide +kernel
theorem dL_law_610 : decode cL_law 610 = .ok (.i2l, 1) := by decide +kernel
theorem dL_law_611 : decode cL_law 611 = .ok (.ldc2_w 58, 3) := by decide +kernel
theorem dL_law_614 : decode cL_law 614 = .ok (.land, 1) := by decide +kernel
theorem dL_law_615 : decode cL_law 615 = .ok (.lor, 1) := by decide +kernel
theorem dL_law_616 : decode cL_law 616 = .ok (.aload_n 0, 1) := by decide +kernel
theorem dL_law_617 : decode cL_law 617 = .ok (.iload_n 3, 1) := by decide +kernel
theorem dL_law_618 : decode cL_law 618 = .ok (.iconst 5, 1) := by decide +kernel
theorem dL_law_619 : decode cL_law 619 = .ok (.iadd, 1) := by decide +kernel
theorem dL_law_620 : decode cL_law 620 = .ok (.iaload, 1) := by decide +kernel
theorem dL_law_621 : decode cL_law 621 = .ok (.invokevirtual 64, 3) := by decide +kernel
theorem dL_law_624 : decode cL_law 624 = .ok (.if_icmp .eq 648, 3) := by decide +kernel
theorem dL_law_627 : decode cL_law 627 = .ok (.iconst 0, 1) := by decide +kernel
theorem dL_law_628 : decode cL_law 628 = .ok (.ireturn, 1) := by decide +kernel
theorem dL_law_629 : decode cL_law 629 = .ok (.aload_n 1, 1) := by decide +kernel
theorem dL_law_630 : decode cL_law 630 = .ok (.aload_n 0, 1) := by decide +kernel
theorem dL_law_631 : decode cL_law 631 = .ok (.iload_n 3, 1) := by decide +kernel
theorem dL_law_632 : decode cL_law 632 = .ok (.iconst 1, 1) := by decide +kernel
theorem dL_law_633 : decode cL_law 633 = .ok (.iadd, 1) := by decide +kernel
theorem dL_law_634 : decode cL_law 634 = .ok (.iaload, 1) := by decide +kernel
theorem dL_law_635 : decode cL_law 635 = .ok (.aload_n 0, 1) := by decide +kernel
theorem dL_law_636 : decode cL_law 636 = .ok (.iload_n 3, 1) := by decide +kernel
theorem dL_law_637 : decode cL_law 637 = .ok (.iconst 2, 1) := by decide +kernel
theorem dL_law_638 : decode cL_law 638 = .ok (.iadd, 1) := by decide +kernel
theorem dL_law_639 : decode cL_law 639 = .ok (.iaload, 1) := by decide +kernel
theorem dL_law_640 : decode cL_law 640 = .ok (.aload_n 0, 1) := by decide +kernel
theorem dL_law_641 : decode cL_law 641 = .ok (.iload_n 3, 1) := by decide +kernel
theorem dL_law_642 : decode cL_law 642 = .ok (.iconst 3, 1) := by decide +kernel
theorem dL_law_643 : decode cL_law 643 = .ok (.iadd, 1) := by decide +kernel
theorem dL_law_644 : decode cL_law 644 = .ok (.iaload, 1) := by decide +kernel
theorem dL_law_645 : decode cL_law 645 = .ok (.invokevirtual 65, 3) := by decide +kernel
theorem dL_law_648 : decode cL_law 648 = .ok (.aload_n 2, 1) := by decide +kernel
theorem dL_law_649 : decode cL_law 649 = .ok (.aload_n 0, 1) := by decide +kernel
theorem dL_law_650 : decode cL_law 650 = .ok (.iload_n 3, 1) := by decide +kernel
theorem dL_law_651 : decode cL_law 651 = .ok (.iconst 1, 1) := by decide +kernel
theorem dL_law_652 : decode cL_law 652 = .ok (.iadd, 1) := by decide +kernel
theorem dL_law_653 : decode cL_law 653 = .ok (.iaload, 1) := by decide +kernel
theorem dL_law_654 : decode cL_law 654 = .ok (.aload_n 0, 1) := by decide +kernel
theorem dL_law_655 : decode cL_law 655 = .ok (.iload_n 3, 1) := by decide +kernel
theorem dL_law_656 : decode cL_law 656 = .ok (.iconst 2, 1) := by decide +kernel
theorem dL_law_657 : decode cL_law 657 = .ok (.iadd, 1) := by decide +kernel
theorem dL_law_658 : decode cL_law 658 = .ok (.iaload, 1) := by decide +kernel
theorem dL_law_659 : decode cL_law 659 = .ok (.aload_n 0, 1) := by decide +kernel
theorem dL_law_660 : decode cL_law 660 = .ok (.iload_n 3, 1) := by decide +kernel
theorem dL_law_661 : decode cL_law 661 = .ok (.iconst 3, 1) := by decide +kernel
theorem dL_law_662 : decode cL_law 662 = .ok (.iadd, 1) := by decide +kernel
theorem dL_law_663 : decode cL_law 663 = .ok (.iaload, 1) := by decide +kernel
theorem dL_law_664 : decode cL_law 664 = .ok (.invokevirtual 68, 3) := by decide +kernel
theorem dL_law_667 : decode cL_law 667 = .ok (.if_icmp .eq 605, 3) := by decide +kernel
theorem dL_law_670 : decode cL_law 670 = .ok (.iconst 0, 1) := by decide +kernel
theorem dL_law_671 : decode cL_law 671 = .ok (.ireturn, 1) := by decide +kernel
theorem dL_law_672 : decode cL_law 672 = .ok (.aload_n 1, 1) := by decide +kernel
theorem dL_law_673 : decode cL_law 673 = .ok (.aload_n 0, 1) := by decide +kernel
theorem dL_law_674 : decode cL_law 674 = .ok (.iload_n 3, 1) := by decide +kernel
theorem dL_law_675 : decode cL_law 675 = .ok (.iconst 1, 1) := by decide +kernel
theorem dL_law_676 : decode cL_law 676 = .ok (.iadd, 1) := by decide +kernel
theorem dL_law_677 : decode cL_law 677 = .ok (.iaload, 1) := by decide +kernel
theorem dL_law_678 : decode cL_law 678 = .ok (.aload_n 0, 1) := by decide +kernel
theorem dL_law_679 : decode cL_law 679 = .ok (.iload_n 3, 1) := by decide +kernel
theorem dL_law_680 : decode cL_law 680 = .ok (.iconst 2, 1) := by decide +kernel
theorem dL_law_681 : decode cL_law 681 = .ok (.iadd, 1) := by decide +kernel
theorem dL_law_682 : decode cL_law 682 = .ok (.iaload, 1) := by decide +kernel
theorem dL_law_683 : decode cL_law 683 = .ok (.aload_n 0, 1) := by decide +kernel
theorem dL_law_684 : decode cL_law 684 = .ok (.iload_n 3, 1) := by decide +kernel
theorem dL_law_685 : decode cL_law 685 = .ok (.iconst 3, 1) := by decide +kernel
theorem dL_law_686 : decode cL_law 686 = .ok (.iadd, 1) := by decide +kernel
theorem dL_law_687 : decode cL_law 687 = .ok (.iaload, 1) := by decide +kernel
theorem dL_law_688 : decode cL_law 688 = .ok (.aload_n 0, 1) := by decide +kernel
theorem dL_law_689 : decode cL_law 689 = .ok (.iload_n 3, 1) := by decide +kernel
theorem dL_law_690 : decode cL_law 690 = .ok (.iconst 4, 1) := by decide +kernel
theorem dL_law_691 : decode cL_law 691 = .ok (.iadd, 1) := by decide +kernel
theorem dL_law_692 : decode cL_law 692 = .ok (.iaload, 1) := by decide +kernel
theorem dL_law_693 : decode cL_law 693 = .ok (.aload_n 0, 1) := by decide +kernel
theorem dL_law_694 : decode cL_law 694 = .ok (.iload_n 3, 1) := by decide +kernel
theorem dL_law_695 : decode cL_law 695 = .ok (.iconst 5, 1) := by decide +kernel
theorem dL_law_696 : decode cL_law 696 = .ok (.iadd, 1) := by decide +kernel
theorem dL_law_697 : decode cL_law 697 = .ok (.iaload, 1) := by decide +kernel
theorem dL_law_698 : decode cL_law 698 = .ok (.invokevirtual 69, 3) := by decide +kernel
theorem dL_law_701 : decode cL_law 701 = .ok (.aload_n 2, 1) := by decide +kernel
theorem dL_law_702 : decode cL_law 702 = .ok (.aload_n 0, 1) := by decide +kernel
theorem dL_law_703 : decode cL_law 703 = .ok (.iload_n 3, 1) := by decide +kernel
theorem dL_law_704 : decode cL_law 704 = .ok (.iconst 1, 1) := by decide +kernel
theorem dL_law_705 : decode cL_law 705 = .ok (.iadd, 1) := by decide +kernel
theorem dL_law_706 : decode cL_law 706 = .ok (.iaload, 1) := by decide +kernel
theorem dL_law_707 : decode cL_law 707 = .ok (.aload_n 0, 1) := by decide +kernel
theorem dL_law_708 : decode cL_law 708 = .ok (.iload_n 3, 1) := by decide +kernel
theorem dL_law_709 : decode cL_law 709 = .ok (.iconst 2, 1) := by decide +kernel
theorem dL_law_710 : decode cL_law 710 = .ok (.iadd, 1) := by decide +kernel
theorem dL_law_711 : decode cL_law 711 = .ok (.iaload, 1) := by decide +kernel
theorem dL_law_712 : decode cL_law 712 = .ok (.aload_n 0, 1) := by decide +kernel
theorem dL_law_713 : decode cL_law 713 = .ok (.iload_n 3, 1) := by decide +kernel
theorem dL_law_714 : decode cL_law 714 = .ok (.iconst 3, 1) := by decide +kernel
theorem dL_law_715 : decode cL_law 715 = .ok (.iadd, 1) := by decide +kernel
theorem dL_law_716 : decode cL_law 716 = .ok (.iaload, 1) := by decide +kernel
theorem dL_law_717 : decode cL_law 717 = .ok (.aload_n 0, 1) := by decide +kernel
theorem dL_law_718 : decode cL_law 718 = .ok (.iload_n 3, 1) := by decide +kernel
theorem dL_law_719 : decode cL_law 719 = .ok (.iconst 4, 1) := by decide +kernel
theorem dL_law_720 : decode cL_law 720 = .ok (.iadd, 1) := by decide +kernel
theorem dL_law_721 : decode cL_law 721 = .ok (.iaload, 1) := by decide +kernel
theorem dL_law_722 : decode cL_law 722 = .ok (.aload_n 0, 1) := by decide +kernel
theorem dL_law_723 : decode cL_law 723 = .ok (.iload_n 3, 1) := by decide +kernel
theorem dL_law_724 : decode cL_law 724 = .ok (.iconst 5, 1) := by decide +kernel
theorem dL_law_725 : decode cL_law 725 = .ok (.iadd, 1) := by decide +kernel
theorem dL_law_726 : decode cL_law 726 = .ok (.iaload, 1) := by decide +kernel
theorem dL_law_727 : decode cL_law 727 = .ok (.invokevirtual 73, 3) := by decide +kernel
theorem dL_law_730 : decode cL_law 730 = .ok (.if_icmp .eq 542, 3) := by decide +kernel
theorem dL_law_733 : decode cL_law 733 = .ok (.iconst 0, 1) := by decide +kernel
theorem dL_law_734 : decode cL_law 734 = .ok (.ireturn, 1) := by decide +kernel
theorem dL_law_735 : decode cL_law 735 = .ok (.aload_n 1, 1) := by decide +kernel
theorem dL_law_736 : decode cL_law 736 = .ok (.aload_n 0, 1) := by decide +kernel
theorem dL_law_737 : decode cL_law 737 = .ok (.iload_n 3, 1) := by decide +kernel
theorem dL_law_738 : decode cL_law 738 = .ok (.iconst 1, 1) := by decide +kernel
theorem dL_law_739 : decode cL_law 739 = .ok (.iadd, 1) := by decide +kernel
theorem dL_law_740 : decode cL_law 740 = .ok (.iaload, 1) := by decide +kernel
theorem dL_law_741 : decode cL_law 741 = .ok (.invokevirtual 74, 3) := by decide +kernel
theorem dL_law_744 : decode cL_law 744 = .ok (.aload_n 2, 1) := by decide +kernel
theorem dL_law_745 : decode cL_law 745 = .ok (.aload_n 0, 1) := by decide +kernel
theorem dL_law_746 : decode cL_law 746 = .ok (.iload_n 3, 1) := by decide +kernel
theorem dL_law_747 : decode cL_law 747 = .ok (.iconst 1, 1) := by decide +kernel
theorem dL_law_748 : decode cL_law 748 = .ok (.iadd, 1) := by decide +kernel
theorem dL_law_749 : decode cL_law 749 = .ok (.iaload, 1) := by decide +kernel
theorem dL_law_750 : decode cL_law 750 = .ok (.invokevirtual 77, 3) := by decide +kernel
theorem dL_law_753 : decode cL_law 753 = .ok (.if_icmp .eq 519, 3) := by decide +kernel
theorem dL_law_756 : decode cL_law 756 = .ok (.iconst 0, 1) := by decide +kernel
theorem dL_law_757 : decode cL_law 757 = .ok (.ireturn, 1) := by decide +kernel
theorem dL_law_758 : decode cL_law 758 = .ok (.aload_n 1, 1) := by decide +kernel
theorem dL_law_759 : decode cL_law 759 = .ok (.aload_n 0, 1) := by decide +kernel
theorem dL_law_760 : decode cL_law 760 = .ok (.iload_n 3, 1) := by decide +kernel
theorem dL_law_761 : decode cL_law 761 = .ok (.iconst 1, 1) := by decide +kernel
theorem dL_law_762 : decode cL_law 762 = .ok (.iadd, 1) := by decide +kernel
theorem dL_law_763 : decode cL_law 763 = .ok (.iaload, 1) := by decide +kernel
theorem dL_law_764 : decode cL_law 764 = .ok (.aload_n 0, 1) := by decide +kernel
theorem dL_law_765 : decode cL_law 765 = .ok (.iload_n 3, 1) := by decide +kernel
theorem dL_law_766 : decode cL_law 766 = .ok (.iconst 2, 1) := by decide +kernel
theorem dL_law_767 : decode cL_law 767 = .ok (.iadd, 1) := by decide +kernel
theorem dL_law_768 : decode cL_law 768 = .ok (.iaload, 1) := by decide +kernel
theorem dL_law_769 : decode cL_law 769 = .ok (.invokevirtual 78, 3) := by decide +kernel
theorem dL_law_772 : decode cL_law 772 = .ok (.aload_n 2, 1) := by decide +kernel
theorem dL_law_773 : decode cL_law 773 = .ok (.aload_n 0, 1) := by decide +kernel
theorem dL_law_774 : decode cL_law 774 = .ok (.iload_n 3, 1) := by decide +kernel
theorem dL_law_775 : decode cL_law 775 = .ok (.iconst 1, 1) := by decide +kernel
theorem dL_law_776 : decode cL_law 776 = .ok (.iadd, 1) := by decide +kernel
theorem dL_law_777 : decode cL_law 777 = .ok (.iaload, 1) := by decide +kernel
theorem dL_law_778 : decode cL_law 778 = .ok (.aload_n 0, 1) := by decide +kernel
theorem dL_law_779 : decode cL_law 779 = .ok (.iload_n 3, 1) := by decide +kernel
theorem dL_law_780 : decode cL_law 780 = .ok (.iconst 2, 1) := by decide +kernel
theorem dL_law_781 : decode cL_law 781 = .ok (.iadd, 1) := by decide +kernel
theorem dL_law_782 : decode cL_law 782 = .ok (.iaload, 1) := by decide +kernel
theorem dL_law_783 : decode cL_law 783 = .ok (.invokevirtual 82, 3) := by decide +kernel
theorem dL_law_786 : decode cL_law 786 = .ok (.lcmp, 1) := by decide +kernel
theorem dL_law_787 : decode cL_law 787 = .ok (.ifCond .eq 485, 3) := by decide +kernel
theorem dL_law_790 : decode cL_law 790 = .ok (.iconst 0, 1) := by decide +kernel
theorem dL_law_791 : decode cL_law 791 = .ok (.ireturn, 1) := by decide +kernel
theorem dL_law_792 : decode cL_law 792 = .ok (.aload_n 1, 1) := by decide +kernel
theorem dL_law_793 : decode cL_law 793 = .ok (.aload_n 0, 1) := by decide +kernel
theorem dL_law_794 : decode cL_law 794 = .ok (.iload_n 3, 1) := by decide +kernel
theorem dL_law_795 : decode cL_law 795 = .ok (.iconst 1, 1) := by decide +kernel
theorem dL_law_796 : decode cL_law 796 = .ok (.iadd, 1) := by decide +kernel
theorem dL_law_797 : decode cL_law 797 = .ok (.iaload, 1) := by decide +kernel
theorem dL_law_798 : decode cL_law 798 = .ok (.aload_n 0, 1) := by decide +kernel
theorem dL_law_799 : decode cL_law 799 = .ok (.iload_n 3, 1) := by decide +kernel
theorem dL_law_800 : decode cL_law 800 = .ok (.iconst 2, 1) := by decide +kernel
theorem dL_law_801 : decode cL_law 801 = .ok (.iadd, 1) := by decide +kernel
theorem dL_law_802 : decode cL_law 802 = .ok (.iaload, 1) := by decide +kernel
theorem dL_law_803 : decode cL_law 803 = .ok (.aload_n 0, 1) := by decide +kernel
theorem dL_law_804 : decode cL_law 804 = .ok (.iload_n 3, 1) := by decide +kernel
theorem dL_law_805 : decode cL_law 805 = .ok (.iconst 3, 1) := by decide +kernel
theorem dL_law_806 : decode cL_law 806 = .ok (.iadd, 1) := by decide +kernel
theorem dL_law_807 : decode cL_law 807 = .ok (.iaload, 1) := by decide +kernel
theorem dL_law_808 : decode cL_law 808 = .ok (.aload_n 0, 1) := by decide +kernel
theorem dL_law_809 : decode cL_law 809 = .ok (.iload_n 3, 1) := by decide +kernel
theorem dL_law_810 : decode cL_law 810 = .ok (.iconst 4, 1) := by decide +kernel
theorem dL_law_811 : decode cL_law 811 = .ok (.iadd, 1) := by decide +kernel
theorem dL_law_812 : decode cL_law 812 = .ok (.iaload, 1) := by decide +kernel
theorem dL_law_813 : decode cL_law 813 = .ok (.invokevirtual 83, 3) := by decide +kernel
theorem dL_law_816 : decode cL_law 816 = .ok (.aload_n 2, 1) := by decide +kernel
theorem dL_law_817 : decode cL_law 817 = .ok (.aload_n 0, 1) := by decide +kernel
theorem dL_law_818 : decode cL_law 818 = .ok (.iload_n 3, 1) := by decide +kernel
theorem dL_law_819 : decode cL_law 819 = .ok (.iconst 1, 1) := by decide +kernel
theorem dL_law_820 : decode cL_law 820 = .ok (.iadd, 1) := by decide +kernel
theorem dL_law_821 : decode cL_law 821 = .ok (.iaload, 1) := by decide +kernel
theorem dL_law_822 : decode cL_law 822 = .ok (.aload_n 0, 1) := by decide +kernel
theorem dL_law_823 : decode cL_law 823 = .ok (.iload_n 3, 1) := by decide +kernel
theorem dL_law_824 : decode cL_law 824 = .ok (.iconst 2, 1) := by decide +kernel
theorem dL_law_825 : decode cL_law 825 = .ok (.iadd, 1) := by decide +kernel
theorem dL_law_826 : decode cL_law 826 = .ok (.iaload, 1) := by decide +kernel
theorem dL_law_827 : decode cL_law 827 = .ok (.aload_n 0, 1) := by decide +kernel
theorem dL_law_828 : decode cL_law 828 = .ok (.iload_n 3, 1) := by decide +kernel
theorem dL_law_829 : decode cL_law 829 = .ok (.iconst 3, 1) := by decide +kernel
theorem dL_law_830 : decode cL_law 830 = .ok (.iadd, 1) := by decide +kernel
theorem dL_law_831 : decode cL_law 831 = .ok (.iaload, 1) := by decide +kernel
theorem dL_law_832 : decode cL_law 832 = .ok (.aload_n 0, 1) := by decide +kernel
theorem dL_law_833 : decode cL_law 833 = .ok (.iload_n 3, 1) := by decide +kernel
theorem dL_law_834 : decode cL_law 834 = .ok (.iconst 4, 1) := by decide +kernel
theorem dL_law_835 : decode cL_law 835 = .ok (.iadd, 1) := by decide +kernel
theorem dL_law_836 : decode cL_law 836 = .ok (.iaload, 1) := by decide +kernel
theorem dL_law_837 : decode cL_law 837 = .ok (.invokevirtual 87, 3) := by decide +kernel
theorem dL_law_840 : decode cL_law 840 = .ok (.if_icmp .eq 432, 3) := by decide +kernel
theorem dL_law_843 : decode cL_law 843 = .ok (.iconst 0, 1) := by decide +kernel
theorem dL_law_844 : decode cL_law 844 = .ok (.ireturn, 1) := by decide +kernel
theorem dL_law_845 : decode cL_law 845 = .ok (.aload_n 1, 1) := by decide +kernel
theorem dL_law_846 : decode cL_law 846 = .ok (.invokevirtual 88, 3) := by decide +kernel
theorem dL_law_849 : decode cL_law 849 = .ok (.aload_n 2, 1) := by decide +kernel
theorem dL_law_850 : decode cL_law 850 = .ok (.invokevirtual 92, 3) := by decide +kernel
theorem dL_law_853 : decode cL_law 853 = .ok (.if_icmp .eq 419, 3) := by decide +kernel
theorem dL_law_856 : decode cL_law 856 = .ok (.iconst 0, 1) := by decide +kernel
theorem dL_law_857 : decode cL_law 857 = .ok (.ireturn, 1) := by decide +kernel
theorem dL_law_858 : decode cL_law 858 = .ok (.aload_n 1, 1) := by decide +kernel
theorem dL_law_859 : decode cL_law 859 = .ok (.invokevirtual 93, 3) := by decide +kernel
theorem dL_law_862 : decode cL_law 862 = .ok (.aload_n 2, 1) := by decide +kernel
theorem dL_law_863 : decode cL_law 863 = .ok (.invokevirtual 96, 3) := by decide +kernel
theorem dL_law_866 : decode cL_law 866 = .ok (.if_icmp .eq 406, 3) := by decide +kernel
theorem dL_law_869 : decode cL_law 869 = .ok (.iconst 0, 1) := by decide +kernel
theorem dL_law_870 : decode cL_law 870 = .ok (.ireturn, 1) := by decide +kernel
theorem dL_law_871 : decode cL_law 871 = .ok (.aload_n 1, 1) := by decide +kernel
theorem dL_law_872 : decode cL_law 872 = .ok (.aload_n 0, 1) := by decide +kernel
theorem dL_law_873 : decode cL_law 873 = .ok (.iload_n 3, 1) := by decide +kernel
theorem dL_law_874 : decode cL_law 874 = .ok (.iconst 1, 1) := by decide +kernel
theorem dL_law_875 : decode cL_law 875 = .ok (.iadd, 1) := by decide +kernel
theorem dL_law_876 : decode cL_law 876 = .ok (.iaload, 1) := by decide +kernel
theorem dL_law_877 : decode cL_law 877 = .ok (.invokevirtual 97, 3) := by decide +kernel
theorem dL_law_880 : decode cL_law 880 = .ok (.aload_n 2, 1) := by decide +kernel
theorem dL_law_881 : decode cL_law 881 = .ok (.aload_n 0, 1) := by decide +kernel
theorem dL_law_882 : decode cL_law 882 = .ok (.iload_n 3, 1) := by decide +kernel
theorem dL_law_883 : decode cL_law 883 = .ok (.iconst 1, 1) := by decide +kernel
theorem dL_law_884 : decode cL_law 884 = .ok (.iadd, 1) := by decide +kernel
theorem dL_law_885 : decode cL_law 885 = .ok (.iaload, 1) := by decide +kernel
theorem dL_law_886 : decode cL_law 886 = .ok (.invokevirtual 100, 3) := by decide +kernel
theorem dL_law_889 : decode cL_law 889 = .ok (.if_icmp .eq 383, 3) := by decide +kernel
theorem dL_law_892 : decode cL_law 892 = .ok (.iconst 0, 1) := by decide +kernel
theorem dL_law_893 : decode cL_law 893 = .ok (.ireturn, 1) := by decide +kernel
theorem dL_law_894 : decode cL_law 894 = .ok (.aload_n 1, 1) := by decide +kernel
theorem dL_law_895 : decode cL_law 895 = .ok (.aload_n 0, 1) := by decide +kernel
theorem dL_law_896 : decode cL_law 896 = .ok (.iload_n 3, 1) := by decide +kernel
theorem dL_law_897 : decode cL_law 897 = .ok (.iconst 1, 1) := by decide +kernel
theorem dL_law_898 : decode cL_law 898 = .ok (.iadd, 1) := by decide +kernel
theorem dL_law_899 : decode cL_law 899 = .ok (.iaload, 1) := by decide +kernel
theorem dL_law_900 : decode cL_law 900 = .ok (.invokevirtual 101, 3) := by decide +kernel
theorem dL_law_903 : decode cL_law 903 = .ok (.aload_n 2, 1) := by decide +kernel
theorem dL_law_904 : decode cL_law 904 = .ok (.aload_n 0, 1) := by decide +kernel
theorem dL_law_905 : decode cL_law 905 = .ok (.iload_n 3, 1) := by decide +kernel
theorem dL_law_906 : decode cL_law 906 = .ok (.iconst 1, 1) := by decide +kernel
theorem dL_law_907 : decode cL_law 907 = .ok (.iadd, 1) := by decide +kernel
theorem dL_law_908 : decode cL_law 908 = .ok (.iaload, 1) := by decide +kernel
theorem dL_law_909 : decode cL_law 909 = .ok (.invokevirtual 104, 3) := by decide +kernel
theorem dL_law_912 : decode cL_law 912 = .ok (.if_icmp .eq 360, 3) := by decide +kernel
theorem dL_law_915 : decode cL_law 915 = .ok (.iconst 0, 1) := by decide +kernel
theorem dL_law_916 : decode cL_law 916 = .ok (.ireturn, 1) := by decide +kernel
theorem dL_law_917 : decode cL_law 917 = .ok (.aload_n 1, 1) := by decide +kernel
theorem dL_law_918 : decode cL_law 918 = .ok (.aload_n 0, 1) := by decide +kernel
theorem dL_law_919 : decode cL_law 919 = .ok (.iload_n 3, 1) := by decide +kernel
theorem dL_law_920 : decode cL_law 920 = .ok (.iconst 1, 1) := by decide +kernel
theorem dL_law_921 : decode cL_law 921 = .ok (.iadd, 1) := by decide +kernel
theorem dL_law_922 : decode cL_law 922 = .ok (.iaload, 1) := by decide +kernel
theorem dL_law_923 : decode cL_law 923 = .ok (.invokevirtual 105, 3) := by decide +kernel
theorem dL_law_926 : decode cL_law 926 = .ok (.aload_n 2, 1) := by decide +kernel
theorem dL_law_927 : decode cL_law 927 = .ok (.aload_n 0, 1) := by decide +kernel
theorem dL_law_928 : decode cL_law 928 = .ok (.iload_n 3, 1) := by decide +kernel
theorem dL_law_929 : decode cL_law 929 = .ok (.iconst 1, 1) := by decide +kernel
theorem dL_law_930 : decode cL_law 930 = .ok (.iadd, 1) := by decide +kernel
theorem dL_law_931 : decode cL_law 931 = .ok (.iaload, 1) := by decide +kernel
theorem dL_law_932 : decode cL_law 932 = .ok (.invokevirtual 108, 3) := by decide +kernel
theorem dL_law_935 : decode cL_law 935 = .ok (.if_icmp .eq 337, 3) := by decide +kernel
theorem dL_law_938 : decode cL_law 938 = .ok (.iconst 0, 1) := by decide +kernel
theorem dL_law_939 : decode cL_law 939 = .ok (.ireturn, 1) := by decide +kernel
theorem dL_law_940 : decode cL_law 940 = .ok (.aload_n 1, 1) := by decide +kernel
theorem dL_law_941 : decode cL_law 941 = .ok (.aload_n 0, 1) := by decide +kernel
theorem dL_law_942 : decode cL_law 942 = .ok (.iload_n 3, 1) := by decide +kernel
theorem dL_law_943 : decode cL_law 943 = .ok (.iconst 1, 1) := by decide +kernel
theorem dL_law_944 : decode cL_law 944 = .ok (.iadd, 1) := by decide +kernel
theorem dL_law_945 : decode cL_law 945 = .ok (.iaload, 1) := by decide +kernel
theorem dL_law_946 : decode cL_law 946 = .ok (.invokevirtual 109, 3) := by decide +kernel
theorem dL_law_949 : decode cL_law 949 = .ok (.aload_n 2, 1) := by decide +kernel
theorem dL_law_950 : decode cL_law 950 = .ok (.aload_n 0, 1) := by decide +kernel
theorem dL_law_951 : decode cL_law 951 = .ok (.iload_n 3, 1) := by decide +kernel
theorem dL_law_952 : decode cL_law 952 = .ok (.iconst 1, 1) := by decide +kernel
theorem dL_law_953 : decode cL_law 953 = .ok (.iadd, 1) := by decide +kernel
theorem dL_law_954 : decode cL_law 954 = .ok (.iaload, 1) := by decide +kernel
theorem dL_law_955 : decode cL_law 955 = .ok (.invokevirtual 112, 3) := by decide +kernel
theorem dL_law_958 : decode cL_law 958 = .ok (.if_icmp .eq 314, 3) := by decide +kernel
theorem dL_law_961 : decode cL_law 961 = .ok (.iconst 0, 1) := by decide +kernel
theorem dL_law_962 : decode cL_law 962 = .ok (.ireturn, 1) := by decide +kernel
theorem dL_law_963 : decode cL_law 963 = .ok (.aload_n 1, 1) := by decide +kernel
theorem dL_law_964 : decode cL_law 964 = .ok (.aload_n 0, 1) := by decide +kernel
theorem dL_law_965 : decode cL_law 965 = .ok (.iload_n 3, 1) := by decide +kernel
theorem dL_law_966 : decode cL_law 966 = .ok (.iconst 1, 1) := by decide +kernel
theorem dL_law_967 : decode cL_law 967 = .ok (.iadd, 1) := by decide +kernel
theorem dL_law_968 : decode cL_law 968 = .ok (.iaload, 1) := by decide +kernel
theorem dL_law_969 : decode cL_law 969 = .ok (.aload_n 0, 1) := by decide +kernel
theorem dL_law_970 : decode cL_law 970 = .ok (.iload_n 3, 1) := by decide +kernel
theorem dL_law_971 : decode cL_law 971 = .ok (.iconst 2, 1) := by decide +kernel
theorem dL_law_972 : decode cL_law 972 = .ok (.iadd, 1) := by decide +kernel
theorem dL_law_973 : decode cL_law 973 = .ok (.iaload, 1) := by decide +kernel
theorem dL_law_974 : decode cL_law 974 = .ok (.invokevirtual 113, 3) := by decide +kernel
theorem dL_law_977 : decode cL_law 977 = .ok (.aload_n 2, 1) := by decide +kernel
theorem dL_law_978 : decode cL_law 978 = .ok (.aload_n 0, 1) := by decide +kernel
theorem dL_law_979 : decode cL_law 979 = .ok (.iload_n 3, 1) := by decide +kernel
theorem dL_law_980 : decode cL_law 980 = .ok (.iconst 1, 1) := by decide +kernel
theorem dL_law_981 : decode cL_law 981 = .ok (.iadd, 1) := by decide +kernel
theorem dL_law_982 : decode cL_law 982 = .ok (.iaload, 1) := by decide +kernel
theorem dL_law_983 : decode cL_law 983 = .ok (.aload_n 0, 1) := by decide +kernel
theorem dL_law_984 : decode cL_law 984 = .ok (.iload_n 3, 1) := by decide +kernel
theorem dL_law_985 : decode cL_law 985 = .ok (.iconst 2, 1) := by decide +kernel
theorem dL_law_986 : decode cL_law 986 = .ok (.iadd, 1) := by decide +kernel
theorem dL_law_987 : decode cL_law 987 = .ok (.iaload, 1) := by decide +kernel
theorem dL_law_988 : decode cL_law 988 = .ok (.invokevirtual 116, 3) := by decide +kernel
theorem dL_law_991 : decode cL_law 991 = .ok (.if_icmp .eq 281, 3) := by decide +kernel
theorem dL_law_994 : decode cL_law 994 = .ok (.iconst 0, 1) := by decide +kernel
theorem dL_law_995 : decode cL_law 995 = .ok (.ireturn, 1) := by decide +kernel
theorem dL_law_996 : decode cL_law 996 = .ok (.aload_n 1, 1) := by decide +kernel
theorem dL_law_997 : decode cL_law 997 = .ok (.aload_n 0, 1) := by decide +kernel
theorem dL_law_998 : decode cL_law 998 = .ok (.iload_n 3, 1) := by decide +kernel
theorem dL_law_999 : decode cL_law 999 = .ok (.iconst 1, 1) := by decide +kernel
theorem dL_law_1000 : decode cL_law 1000 = .ok (.iadd, 1) := by decide +kernel
theorem dL_law_1001 : decode cL_law 1001 = .ok (.iaload, 1) := by decide +kernel
theorem dL_law_1002 : decode cL_law 1002 = .ok (.invokevirtual 117, 3) := by decide +kernel
theorem dL_law_1005 : decode cL_law 1005 = .ok (.aload_n 2, 1) := by decide +kernel
theorem dL_law_1006 : decode cL_law 1006 = .ok (.aload_n 0, 1) := by decide +kernel
theorem dL_law_1007 : decode cL_law 1007 = .ok (.iload_n 3, 1) := by decide +kernel
theorem dL_law_1008 : decode cL_law 1008 = .ok (.iconst 1, 1) := by decide +kernel
theorem dL_law_1009 : decode cL_law 1009 = .ok (.iadd, 1) := by decide +kernel
theorem dL_law_1010 : decode cL_law 1010 = .ok (.iaload, 1) := by decide +kernel
theorem dL_law_1011 : decode cL_law 1011 = .ok (.invokevirtual 120, 3) := by decide +kernel
theorem dL_law_1014 : decode cL_law 1014 = .ok (.if_icmp .eq 258, 3) := by decide +kernel
theorem dL_law_1017 : decode cL_law 1017 = .ok (.iconst 0, 1) := by decide +kernel
theorem dL_law_1018 : decode cL_law 1018 = .ok (.ireturn, 1) := by decide +kernel
theorem dL_law_1019 : decode cL_law 1019 = .ok (.aload_n 1, 1) := by decide +kernel
theorem dL_law_1020 : decode cL_law 1020 = .ok (.aload_n 0, 1) := by decide +kernel
theorem dL_law_1021 : decode cL_law 1021 = .ok (.iload_n 3, 1) := by decide +kernel
theorem dL_law_1022 : decode cL_law 1022 = .ok (.iconst 1, 1) := by decide +kernel
theorem dL_law_1023 : decode cL_law 1023 = .ok (.iadd, 1) := by decide +kernel
theorem dL_law_1024 : decode cL_law 1024 = .ok (.iaload, 1) := by decide +kernel
theorem dL_law_1025 : decode cL_law 1025 = .ok (.aload_n 0, 1) := by decide +kernel
theorem dL_law_1026 : decode cL_law 1026 = .ok (.iload_n 3, 1) := by decide +kernel
theorem dL_law_1027 : decode cL_law 1027 = .ok (.iconst 2, 1) := by decide +kernel
theorem dL_law_1028 : decode cL_law 1028 = .ok (.iadd, 1) := by decide +kernel
theorem dL_law_1029 : decode cL_law 1029 = .ok (.iaload, 1) := by decide +kernel
theorem dL_law_1030 : decode cL_law 1030 = .ok (.invokevirtual 121, 3) := by decide +kernel
theorem dL_law_1033 : decode cL_law 1033 = .ok (.aload_n 2, 1) := by decide +kernel
theorem dL_law_1034 : decode cL_law 1034 = .ok (.aload_n 0, 1) := by decide +kernel
theorem dL_law_1035 : decode cL_law 1035 = .ok (.iload_n 3, 1) := by decide +kernel
theorem dL_law_1036 : decode cL_law 1036 = .ok (.iconst 1, 1) := by decide +kernel
theorem dL_law_1037 : decode cL_law 1037 = .ok (.iadd, 1) := by decide +kernel
theorem dL_law_1038 : decode cL_law 1038 = .ok (.iaload, 1) := by decide +kernel
theorem dL_law_1039 : decode cL_law 1039 = .ok (.aload_n 0, 1) := by decide +kernel
theorem dL_law_1040 : decode cL_law 1040 = .ok (.iload_n 3, 1) := by decide +kernel
theorem dL_law_1041 : decode cL_law 1041 = .ok (.iconst 2, 1) := by decide +kernel
theorem dL_law_1042 : decode cL_law 1042 = .ok (.iadd, 1) := by decide +kernel
theorem dL_law_1043 : decode cL_law 1043 = .ok (.iaload, 1) := by decide +kernel
theorem dL_law_1044 : decode cL_law 1044 = .ok (.invokevirtual 124, 3) := by decide +kernel
theorem dL_law_1047 : decode cL_law 1047 = .ok (.if_icmp .eq 225, 3) := by decide +kernel
theorem dL_law_1050 : decode cL_law 1050 = .ok (.iconst 0, 1) := by decide +kernel
theorem dL_law_1051 : decode cL_law 1051 = .ok (.ireturn, 1) := by decide +kernel
theorem dL_law_1052 : decode cL_law 1052 = .ok (.aload_n 1, 1) := by decide +kernel
theorem dL_law_1053 : decode cL_law 1053 = .ok (.invokevirtual 125, 3) := by decide +kernel
theorem dL_law_1056 : decode cL_law 1056 = .ok (.aload_n 2, 1) := by decide +kernel
theorem dL_law_1057 : decode cL_law 1057 = .ok (.invokevirtual 128, 3) := by decide +kernel
theorem dL_law_1060 : decode cL_law 1060 = .ok (.if_icmp .eq 212, 3) := by decide +kernel
theorem dL_law_1063 : decode cL_law 1063 = .ok (.iconst 0, 1) := by decide +kernel
theorem dL_law_1064 : decode cL_law 1064 = .ok (.ireturn, 1) := by decide +kernel
theorem dL_law_1065 : decode cL_law 1065 = .ok (.aload_n 1, 1) := by decide +kernel
theorem dL_law_1066 : decode cL_law 1066 = .ok (.aload_n 0, 1) := by decide +kernel
theorem dL_law_1067 : decode cL_law 1067 = .ok (.iload_n 3, 1) := by decide +kernel
theorem dL_law_1068 : decode cL_law 1068 = .ok (.iconst 1, 1) := by decide +kernel
theorem dL_law_1069 : decode cL_law 1069 = .ok (.iadd, 1) := by decide +kernel
theorem dL_law_1070 : decode cL_law 1070 = .ok (.iaload, 1) := by decide +kernel
theorem dL_law_1071 : decode cL_law 1071 = .ok (.invokevirtual 129, 3) := by decide +kernel
theorem dL_law_1074 : decode cL_law 1074 = .ok (.aload_n 2, 1) := by decide +kernel
theorem dL_law_1075 : decode cL_law 1075 = .ok (.aload_n 0, 1) := by decide +kernel
theorem dL_law_1076 : decode cL_law 1076 = .ok (.iload_n 3, 1) := by decide +kernel
theorem dL_law_1077 : decode cL_law 1077 = .ok (.iconst 1, 1) := by decide +kernel
theorem dL_law_1078 : decode cL_law 1078 = .ok (.iadd, 1) := by decide +kernel
theorem dL_law_1079 : decode cL_law 1079 = .ok (.iaload, 1) := by decide +kernel
theorem dL_law_1080 : decode cL_law 1080 = .ok (.invokevirtual 132, 3) := by decide +kernel
theorem dL_law_1083 : decode cL_law 1083 = .ok (.if_icmp .eq 189, 3) := by decide +kernel
theorem dL_law_1086 : decode cL_law 1086 = .ok (.iconst 0, 1) := by decide +kernel
theorem dL_law_1087 : decode cL_law 1087 = .ok (.ireturn, 1) := by decide +kernel
theorem dL_law_1088 : decode cL_law 1088 = .ok (.aload_n 1, 1) := by decide +kernel
theorem dL_law_1089 : decode cL_law 1089 = .ok (.aload_n 0, 1) := by decide +kernel
theorem dL_law_1090 : decode cL_law 1090 = .ok (.iload_n 3, 1) := by decide +kernel
theorem dL_law_1091 : decode cL_law 1091 = .ok (.iconst 1, 1) := by decide +kernel
theorem dL_law_1092 : decode cL_law 1092 = .ok (.iadd, 1) := by decide +kernel
theorem dL_law_1093 : decode cL_law 1093 = .ok (.iaload, 1) := by decide +kernel
theorem dL_law_1094 : decode cL_law 1094 = .ok (.aload_n 0, 1) := by decide +kernel
theorem dL_law_1095 : decode cL_law 1095 = .ok (.iload_n 3, 1) := by decide +kernel
theorem dL_law_1096 : decode cL_law 1096 = .ok (.iconst 2, 1) := by decide +kernel
theorem dL_law_1097 : decode cL_law 1097 = .ok (.iadd, 1) := by decide +kernel
theorem dL_law_1098 : decode cL_law 1098 = .ok (.iaload, 1) := by decide +kernel
theorem dL_law_1099 : decode cL_law 1099 = .ok (.invokevirtual 133, 3) := by decide +kernel
theorem dL_law_1102 : decode cL_law 1102 = .ok (.aload_n 2, 1) := by decide +kernel
theorem dL_law_1103 : decode cL_law 1103 = .ok (.aload_n 0, 1) := by decide +kernel
theorem dL_law_1104 : decode cL_law 1104 = .ok (.iload_n 3, 1) := by decide +kernel
theorem dL_law_1105 : decode cL_law 1105 = .ok (.iconst 1, 1) := by decide +kernel
theorem dL_law_1106 : decode cL_law 1106 = .ok (.iadd, 1) := by decide +kernel
theorem dL_law_1107 : decode cL_law 1107 = .ok (.iaload, 1) := by decide +kernel
theorem dL_law_1108 : decode cL_law 1108 = .ok (.aload_n 0, 1) := by decide +kernel
theorem dL_law_1109 : decode cL_law 1109 = .ok (.iload_n 3, 1) := by decide +kernel
theorem dL_law_1110 : decode cL_law 1110 = .ok (.iconst 2, 1) := by decide +kernel
theorem dL_law_1111 : decode cL_law 1111 = .ok (.iadd, 1) := by decide +kernel
theorem dL_law_1112 : decode cL_law 1112 = .ok (.iaload, 1) := by decide +kernel
theorem dL_law_1113 : decode cL_law 1113 = .ok (.invokevirtual 136, 3) := by decide +kernel
theorem dL_law_1116 : decode cL_law 1116 = .ok (.if_icmp .eq 156, 3) := by decide +kernel
theorem dL_law_1119 : decode cL_law 1119 = .ok (.iconst 0, 1) := by decide +kernel
theorem dL_law_1120 : decode cL_law 1120 = .ok (.ireturn, 1) := by decide +kernel
theorem dL_law_1121 : decode cL_law 1121 = .ok (.aload_n 1, 1) := by decide +kernel
theorem dL_law_1122 : decode cL_law 1122 = .ok (.aload_n 0, 1) := by decide +kernel
theorem dL_law_1123 : decode cL_law 1123 = .ok (.iload_n 3, 1) := by decide +kernel
theorem dL_law_1124 : decode cL_law 1124 = .ok (.iconst 1, 1) := by decide +kernel
theorem dL_law_1125 : decode cL_law 1125 = .ok (.iadd, 1) := by decide +kernel
theorem dL_law_1126 : decode cL_law 1126 = .ok (.iaload, 1) := by decide +kernel
theorem dL_law_1127 : decode cL_law 1127 = .ok (.aload_n 0, 1) := by decide +kernel
theorem dL_law_1128 : decode cL_law 1128 = .ok (.iload_n 3, 1) := by decide +kernel
theorem dL_law_1129 : decode cL_law 1129 = .ok (.iconst 2, 1) := by decide +kernel
theorem dL_law_1130 : decode cL_law 1130 = .ok (.iadd, 1) := by decide +kernel
theorem dL_law_1131 : decode cL_law 1131 = .ok (.iaload, 1) := by decide +kernel
theorem dL_law_1132 : decode cL_law 1132 = .ok (.invokevirtual 137, 3) := by decide +kernel
theorem dL_law_1135 : decode cL_law 1135 = .ok (.aload_n 2, 1) := by decide +kernel
theorem dL_law_1136 : decode cL_law 1136 = .ok (.aload_n 0, 1) := by decide +kernel
theorem dL_law_1137 : decode cL_law 1137 = .ok (.iload_n 3, 1) := by decide +kernel
theorem dL_law_1138 : decode cL_law 1138 = .ok (.iconst 1, 1) := by decide +kernel
theorem dL_law_1139 : decode cL_law 1139 = .ok (.iadd, 1) := by decide +kernel
theorem dL_law_1140 : decode cL_law 1140 = .ok (.iaload, 1) := by decide +kernel
theorem dL_law_1141 : decode cL_law 1141 = .ok (.aload_n 0, 1) := by decide +kernel
theorem dL_law_1142 : decode cL_law 1142 = .ok (.iload_n 3, 1) := by decide +kernel
theorem dL_law_1143 : decode cL_law 1143 = .ok (.iconst 2, 1) := by decide +kernel
theorem dL_law_1144 : decode cL_law 1144 = .ok (.iadd, 1) := by decide +kernel
theorem dL_law_1145 : decode cL_law 1145 = .ok (.iaload, 1) := by decide +kernel
theorem dL_law_1146 : decode cL_law 1146 = .ok (.invokevirtual 140, 3) := by decide +kernel
theorem dL_law_1149 : decode cL_law 1149 = .ok (.if_icmp .eq 123, 3) := by decide +kernel
theorem dL_law_1152 : decode cL_law 1152 = .ok (.iconst 0, 1) := by decide +kernel
theorem dL_law_1153 : decode cL_law 1153 = .ok (.ireturn, 1) := by decide +kernel
theorem dL_law_1154 : decode cL_law 1154 = .ok (.aload_n 1, 1) := by decide +kernel
theorem dL_law_1155 : decode cL_law 1155 = .ok (.aload_n 0, 1) := by decide +kernel
theorem dL_law_1156 : decode cL_law 1156 = .ok (.iload_n 3, 1) := by decide +kernel
theorem dL_law_1157 : decode cL_law 1157 = .ok (.iconst 1, 1) := by decide +kernel
theorem dL_law_1158 : decode cL_law 1158 = .ok (.iadd, 1) := by decide +kernel
theorem dL_law_1159 : decode cL_law 1159 = .ok (.iaload, 1) := by decide +kernel
theorem dL_law_1160 : decode cL_law 1160 = .ok (.invokevirtual 141, 3) := by decide +kernel
theorem dL_law_1163 : decode cL_law 1163 = .ok (.aload_n 2, 1) := by decide +kernel
theorem dL_law_1164 : decode cL_law 1164 = .ok (.aload_n 0, 1) := by decide +kernel
theorem dL_law_1165 : decode cL_law 1165 = .ok (.iload_n 3, 1) := by decide +kernel
theorem dL_law_1166 : decode cL_law 1166 = .ok (.iconst 1, 1) := by decide +kernel
theorem dL_law_1167 : decode cL_law 1167 = .ok (.iadd, 1) := by decide +kernel
theorem dL_law_1168 : decode cL_law 1168 = .ok (.iaload, 1) := by decide +kernel
theorem dL_law_1169 : decode cL_law 1169 = .ok (.invokevirtual 144, 3) := by decide +kernel
theorem dL_law_1172 : decode cL_law 1172 = .ok (.if_icmp .eq 100, 3) := by decide +kernel
theorem dL_law_1175 : decode cL_law 1175 = .ok (.iconst 0, 1) := by decide +kernel
theorem dL_law_1176 : decode cL_law 1176 = .ok (.ireturn, 1) := by decide +kernel
theorem dL_law_1177 : decode cL_law 1177 = .ok (.aload_n 1, 1) := by decide +kernel
theorem dL_law_1178 : decode cL_law 1178 = .ok (.aload_n 0, 1) := by decide +kernel
theorem dL_law_1179 : decode cL_law 1179 = .ok (.iload_n 3, 1) := by decide +kernel
theorem dL_law_1180 : decode cL_law 1180 = .ok (.iconst 1, 1) := by decide +kernel
theorem dL_law_1181 : decode cL_law 1181 = .ok (.iadd, 1) := by decide +kernel
theorem dL_law_1182 : decode cL_law 1182 = .ok (.iaload, 1) := by decide +kernel
theorem dL_law_1183 : decode cL_law 1183 = .ok (.invokevirtual 145, 3) := by decide +kernel
theorem dL_law_1186 : decode cL_law 1186 = .ok (.aload_n 2, 1) := by decide +kernel
theorem dL_law_1187 : decode cL_law 1187 = .ok (.aload_n 0, 1) := by decide +kernel
theorem dL_law_1188 : decode cL_law 1188 = .ok (.iload_n 3, 1) := by decide +kernel
theorem dL_law_1189 : decode cL_law 1189 = .ok (.iconst 1, 1) := by decide +kernel
theorem dL_law_1190 : decode cL_law 1190 = .ok (.iadd, 1) := by decide +kernel
theorem dL_law_1191 : decode cL_law 1191 = .ok (.iaload, 1) := by decide +kernel
theorem dL_law_1192 : decode cL_law 1192 = .ok (.invokevirtual 148, 3) := by decide +kernel
theorem dL_law_1195 : decode cL_law 1195 = .ok (.if_icmp .eq 77, 3) := by decide +kernel
theorem dL_law_1198 : decode cL_law 1198 = .ok (.iconst 0, 1) := by decide +kernel
theorem dL_law_1199 : decode cL_law 1199 = .ok (.ireturn, 1) := by decide +kernel
theorem dL_law_1200 : decode cL_law 1200 = .ok (.aload_n 1, 1) := by decide +kernel
theorem dL_law_1201 : decode cL_law 1201 = .ok (.invokevirtual 149, 3) := by decide +kernel
theorem dL_law_1204 : decode cL_law 1204 = .ok (.aload_n 2, 1) := by decide +kernel
theorem dL_law_1205 : decode cL_law 1205 = .ok (.invokevirtual 152, 3) := by decide +kernel
theorem dL_law_1208 : decode cL_law 1208 = .ok (.if_icmp .eq 64, 3) := by decide +kernel
theorem dL_law_1211 : decode cL_law 1211 = .ok (.iconst 0, 1) := by decide +kernel
theorem dL_law_1212 : decode cL_law 1212 = .ok (.ireturn, 1) := by decide +kernel
theorem dL_law_1213 : decode cL_law 1213 = .ok (.aload_n 1, 1) := by decide +kernel
theorem dL_law_1214 : decode cL_law 1214 = .ok (.aload_n 0, 1) := by decide +kernel
theorem dL_law_1215 : decode cL_law 1215 = .ok (.iload_n 3, 1) := by decide +kernel
theorem dL_law_1216 : decode cL_law 1216 = .ok (.iconst 1, 1) := by decide +kernel
theorem dL_law_1217 : decode cL_law 1217 = .ok (.iadd, 1) := by decide +kernel
theorem dL_law_1218 : decode cL_law 1218 = .ok (.iaload, 1) := by decide +kernel
theorem dL_law_1219 : decode cL_law 1219 = .ok (.aload_n 0, 1) := by decide +kernel
theorem dL_law_1220 : decode cL_law 1220 = .ok (.iload_n 3, 1) := by decide +kernel
theorem dL_law_1221 : decode cL_law 1221 = .ok (.iconst 2, 1) := by decide +kernel
theorem dL_law_1222 : decode cL_law 1222 = .ok (.iadd, 1) := by decide +kernel
theorem dL_law_1223 : decode cL_law 1223 = .ok (.iaload, 1) := by decide +kernel
theorem dL_law_1224 : decode cL_law 1224 = .ok (.invokevirtual 153, 3) := by decide +kernel
theorem dL_law_1227 : decode cL_law 1227 = .ok (.aload_n 2, 1) := by decide +kernel
theorem dL_law_1228 : decode cL_law 1228 = .ok (.aload_n 0, 1) := by decide +kernel
theorem dL_law_1229 : decode cL_law 1229 = .ok (.iload_n 3, 1) := by decide +kernel
theorem dL_law_1230 : decode cL_law 1230 = .ok (.iconst 1, 1) := by decide +kernel
theorem dL_law_1231 : decode cL_law 1231 = .ok (.iadd, 1) := by decide +kernel
theorem dL_law_1232 : decode cL_law 1232 = .ok (.iaload, 1) := by decide +kernel
theorem dL_law_1233 : decode cL_law 1233 = .ok (.aload_n 0, 1) := by decide +kernel
theorem dL_law_1234 : decode cL_law 1234 = .ok (.iload_n 3, 1) := by decide +kernel
theorem dL_law_1235 : decode cL_law 1235 = .ok (.iconst 2, 1) := by decide +kernel
theorem dL_law_1236 : decode cL_law 1236 = .ok (.iadd, 1) := by decide +kernel
theorem dL_law_1237 : decode cL_law 1237 = .ok (.iaload, 1) := by decide +kernel
theorem dL_law_1238 : decode cL_law 1238 = .ok (.invokevirtual 156, 3) := by decide +kernel
theorem dL_law_1241 : decode cL_law 1241 = .ok (.if_icmp .eq 31, 3) := by decide +kernel
theorem dL_law_1244 : decode cL_law 1244 = .ok (.iconst 0, 1) := by decide +kernel
theorem dL_law_1245 : decode cL_law 1245 = .ok (.ireturn, 1) := by decide +kernel
theorem dL_law_1246 : decode cL_law 1246 = .ok (.aload_n 1, 1) := by decide +kernel
theorem dL_law_1247 : decode cL_law 1247 = .ok (.invokevirtual 157, 3) := by decide +kernel
theorem dL_law_1250 : decode cL_law 1250 = .ok (.aload_n 2, 1) := by decide +kernel
theorem dL_law_1251 : decode cL_law 1251 = .ok (.invokevirtual 160, 3) := by decide +kernel
theorem dL_law_1254 : decode cL_law 1254 = .ok (.if_icmp .eq 18, 3) := by decide +kernel
theorem dL_law_1257 : decode cL_law 1257 = .ok (.iconst 0, 1) := by decide +kernel
theorem dL_law_1258 : decode cL_law 1258 = .ok (.ireturn, 1) := by decide +kernel
theorem dL_law_1259 : decode cL_law 1259 = .ok (.aload_n 1, 1) := by decide +kernel
theorem dL_law_1260 : decode cL_law 1260 = .ok (.invokevirtual 161, 3) := by decide +kernel
theorem dL_law_1263 : decode cL_law 1263 = .ok (.aload_n 2, 1) := by decide +kernel
theorem dL_law_1264 : decode cL_law 1264 = .ok (.invokevirtual 164, 3) := by decide +kernel
theorem dL_law_1267 : decode cL_law 1267 = .ok (.if_icmp .eq 5, 3) := by decide +kernel
theorem dL_law_1270 : decode cL_law 1270 = .ok (.iconst 0, 1) := by decide +kernel
theorem dL_law_1271 : decode cL_law 1271 = .ok (.ireturn, 1) := by decide +kernel
theorem dL_law_1272 : decode cL_law 1272 = .ok (.iinc 3 6, 3) := by decide +kernel
theorem dL_law_1275 : decode cL_law 1275 = .ok (.goto (-1257), 3) := by decide +kernel
theorem dL_law_1278 : decode cL_law 1278 = .ok (.iconst 1, 1) := by decide +kernel
theorem dL_law_1279 : decode cL_law 1279 = .ok (.ireturn, 1) := by decide +kernel
end
section
/-! THE FRAME: a world as a function of a memory; rows that walk the machine in step with a function in Option. -/
abbrev sr_M : Type := (Nat → Nat → Int32) × (Nat → Nat → Int64) × (Nat → Nat → UInt64)
abbrev sr_CF : Type := Nat → (Nat → Int32) → (Nat → Int64) → (Nat → UInt64) → va_E
def sr_w (ad : Nat → Nat) (cf : sr_CF) (N : Nat) (M : sr_M) : va_W := (List.range N).map (fun k => (ad k, cf k (M.1 k) (M.2.1 k) (M.2.2 k)))
def sr_wI (M : sr_M) (k j : Nat) (v : Int32) : sr_M := (va_up M.1 k (upd (M.1 k) j v), M.2.1, M.2.2)
def sr_wJ (M : sr_M) (k j : Nat) (v : Int64) : sr_M := (M.1, va_up M.2.1 k (vp_updL (M.2.1 k) j v), M.2.2)
def sr_wD (M : sr_M) (k j : Nat) (v : UInt64) : sr_M := (M.1, M.2.1, va_up M.2.2 k (vf_upd (M.2.2 k) j v))
def sr_cI (M : sr_M) (k0 k sp dp n : Nat) : sr_M := (va_up M.1 k (va_cpy (M.1 k0) (M.1 k) sp dp n), M.2.1, M.2.2)
def sr_cJ (M : sr_M) (k0 k sp dp n : Nat) : sr_M := (M.1, va_up M.2.1 k (va_cpy (M.2.1 k0) (M.2.1 k) sp dp n), M.2.2)
theorem sr_w_get {ad : Nat → Nat} {cf : sr_CF} {N k : Nat} {M : sr_M} (hk : k < N) : (sr_w ad cf N M)[k]? = some (ad k, cf k (M.1 k) (M.2.1 k) (M.2.2 k)) := by
  simp [sr_w, hk]
theorem sr_w_of {ad : Nat → Nat} {cf : sr_CF} {N k : Nat} {M : sr_M} {q : Nat × va_E} (h : (sr_w ad cf N M)[k]? = some q) : k < N ∧ q = (ad k, cf k (M.1 k) (M.2.1 k) (M.2.2 k)) := by
  have hl := (List.getElem?_eq_some_iff.mp h).1
  have hk : k < N := by simpa [sr_w] using hl
  rw [sr_w_get hk] at h
  exact ⟨hk, (Option.some.inj h).symm⟩
theorem sr_w_set {ad : Nat → Nat} {cf : sr_CF} {N k : Nat} {M M' : sr_M} {e : va_E} (hk : k < N) (h1 : ∀ i, i ≠ k → M'.1 i = M.1 i ∧ M'.2.1 i = M.2.1 i ∧ M'.2.2 i = M.2.2 i) (he : e = cf k (M'.1 k) (M'.2.1 k) (M'.2.2 k)) : (sr_w ad cf N M).set k (ad k, e) = sr_w ad cf N M' := by
  apply List.ext_getElem?
  intro i
  by_cases hi : i = k
  · subst hi
    rw [sr_w_get hk, List.getElem?_set_self (by simpa [sr_w] using hk), he]
  · rw [List.getElem?_set_ne (Ne.symm hi)]
    by_cases h2 : i < N
    · obtain ⟨a, b, c⟩ := h1 i hi
      rw [sr_w_get h2, sr_w_get h2, a, b, c]
    · rw [List.getElem?_eq_none (by simp [sr_w]; omega), List.getElem?_eq_none (by simp [sr_w]; omega)]
def sr_H (D : va_G) (cl : List vw_C) (tys : List (ClassId × FieldType)) (ad : Nat → Nat) (cf : sr_CF) (N : Nat) (A : Nat → Prop) (s : State) (M : sr_M) (H : Heap) (locs : List Loc) : Prop :=
  va_K D cl tys s ∧ va_P D cl (sr_w ad cf N M) H ∧ va_D A (sr_w ad cf N M) ∧ va_S A s.heap H locs
-- the functions' words
noncomputable def sr_grd {ρ : Type} (P : Prop) (x : Option ρ) : Option ρ := @ite _ P (Classical.propDecidable P) x none
def sr_bnd {α β : Type} (x : α) (F : α → β) : β := F x
noncomputable def sr_ld {α ρ : Type} (i : Int32) (n : Nat) (x : Nat → α) (F : α → Option ρ) : Option ρ := sr_grd (vp_in i n) (F (x i.toNatClampNeg))
noncomputable def sr_st {ρ : Type} (i : Int32) (n : Nat) (M : sr_M) (k : Nat) (v : Int32) (F : sr_M → Option ρ) : Option ρ := sr_grd (vp_in i n) (F (sr_wI M k i.toNatClampNeg v))
noncomputable def sr_stB {ρ : Type} (i : Int32) (n : Nat) (M : sr_M) (k : Nat) (v : Int32) (F : sr_M → Option ρ) : Option ρ := sr_grd (vp_in i n ∧ (v = 0 ∨ v = 1)) (F (sr_wI M k i.toNatClampNeg v))
noncomputable def sr_stJ {ρ : Type} (i : Int32) (n : Nat) (M : sr_M) (k : Nat) (v : Int64) (F : sr_M → Option ρ) : Option ρ := sr_grd (vp_in i n) (F (sr_wJ M k i.toNatClampNeg v))
noncomputable def sr_stD {ρ : Type} (i : Int32) (n : Nat) (M : sr_M) (k : Nat) (v : UInt64) (F : sr_M → Option ρ) : Option ρ := sr_grd (vp_in i n) (F (sr_wD M k i.toNatClampNeg v))
def sr_put {ρ : Type} (M : sr_M) (k j : Nat) (v : Int32) (F : sr_M → Option ρ) : Option ρ := F (sr_wI M k j v)
noncomputable def sr_putB {ρ : Type} (M : sr_M) (k j : Nat) (v : Int32) (F : sr_M → Option ρ) : Option ρ := sr_grd (v = 0 ∨ v = 1) (F (sr_wI M k j v))
noncomputable def sr_cpI {ρ : Type} (M : sr_M) (k0 k : Nat) (n0 n1 : Nat) (sp dp n : Int32) (F : sr_M → Option ρ) : Option ρ := sr_grd ((¬ sp < 0 ∧ ¬ dp < 0 ∧ ¬ n < 0) ∧ sp.toNatClampNeg + n.toNatClampNeg ≤ n0 ∧ dp.toNatClampNeg + n.toNatClampNeg ≤ n1 ∧ ∀ i, i < n.toNatClampNeg → (M.1 k0 (sp.toNatClampNeg + i) = 0 ∨ M.1 k0 (sp.toNatClampNeg + i) = 1)) (F (sr_cI M k0 k sp.toNatClampNeg dp.toNatClampNeg n.toNatClampNeg))
noncomputable def sr_cpJ {ρ : Type} (M : sr_M) (k0 k : Nat) (n0 n1 : Nat) (sp dp n : Int32) (F : sr_M → Option ρ) : Option ρ := sr_grd ((¬ sp < 0 ∧ ¬ dp < 0 ∧ ¬ n < 0) ∧ sp.toNatClampNeg + n.toNatClampNeg ≤ n0 ∧ dp.toNatClampNeg + n.toNatClampNeg ≤ n1) (F (sr_cJ M k0 k sp.toNatClampNeg dp.toNatClampNeg n.toNatClampNeg))
def sr_jn {κ ρ : Type} (K : κ) (B : κ → ρ) : ρ := B K
def sr_se {α β ρ : Type} (F : α → ρ) (G : β → ρ) (x : α ⊕ β) : ρ := match x with
  | .inl a => F a
  | .inr b => G b
def sr_it {σ ρ : Type} (b : σ → Option (σ ⊕ ρ)) : Nat → σ → Option ρ
  | 0, _ => none
  | n + 1, s => match b s with
    | none => none
    | some (.inl t) => sr_it b n t
    | some (.inr r) => some r
noncomputable def sr_lp {σ ρ : Type} (b : σ → Option (σ ⊕ ρ)) (s : σ) : Option ρ := @dite _ (∃ r n, sr_it b n s = some r) (Classical.propDecidable _) (fun h => some (Classical.choose h)) (fun _ => none)
theorem sr_grd_some {ρ : Type} {P : Prop} {x : Option ρ} {y : ρ} (h : sr_grd P x = some y) : P ∧ x = some y := by
  unfold sr_grd at h
  by_cases hp : P
  · rw [if_pos hp] at h
    exact ⟨hp, h⟩
  · rw [if_neg hp] at h
    cases h
theorem sr_grd_t {ρ : Type} {P : Prop} {x : Option ρ} (hp : P) : sr_grd P x = x := by
  unfold sr_grd
  exact if_pos hp
theorem sr_it_det {σ ρ : Type} {b : σ → Option (σ ⊕ ρ)} : ∀ (n m : Nat) (s : σ) (x y : ρ), sr_it b n s = some x → sr_it b m s = some y → x = y := by
  intro n
  induction n with
  | zero => intro m s x y h; simp [sr_it] at h
  | succ n ih =>
    intro m s x y h1 h2
    cases m with
    | zero => simp [sr_it] at h2
    | succ m =>
      unfold sr_it at h1 h2
      cases hb : b s with
      | none => rw [hb] at h1; cases h1
      | some w =>
        rw [hb] at h1 h2
        cases w with
        | inl t => exact ih m t x y h1 h2
        | inr r => exact (Option.some.inj h1).symm.trans (Option.some.inj h2)
theorem sr_lp_iff {σ ρ : Type} {b : σ → Option (σ ⊕ ρ)} {s : σ} {x : ρ} : sr_lp b s = some x ↔ ∃ n, sr_it b n s = some x := by
  unfold sr_lp
  by_cases h : ∃ r n, sr_it b n s = some r
  · rw [dif_pos h]
    obtain ⟨n, hn⟩ := Classical.choose_spec h
    constructor
    · intro e
      exact ⟨n, by rw [hn, e]⟩
    · rintro ⟨m, hm⟩
      rw [sr_it_det n m s _ _ hn hm]
  · rw [dif_neg h]
    constructor
    · intro e; cases e
    · rintro ⟨m, hm⟩
      exact absurd ⟨x, m, hm⟩ h
theorem sr_lp_step {σ ρ : Type} {b : σ → Option (σ ⊕ ρ)} {s t : σ} {x : ρ} (h : b s = some (.inl t)) (h2 : sr_lp b t = some x) : sr_lp b s = some x := by
  obtain ⟨n, hn⟩ := sr_lp_iff.mp h2
  exact sr_lp_iff.mpr ⟨n + 1, by unfold sr_it; rw [h]; exact hn⟩
theorem sr_lp_end {σ ρ : Type} {b : σ → Option (σ ⊕ ρ)} {s : σ} {x : ρ} (h : b s = some (.inr x)) : sr_lp b s = some x :=
  sr_lp_iff.mpr ⟨1, by unfold sr_it; rw [h]⟩
theorem sr_lp_rule {σ ρ : Type} {b : σ → Option (σ ⊕ ρ)} {x : ρ} (P : σ → Prop) (hs : ∀ s y, b s = some y → (∀ t, y = .inl t → P t) → (∀ r, y = .inr r → r = x) → P s) {s : σ} (h : sr_lp b s = some x) : P s := by
  obtain ⟨n, hn⟩ := sr_lp_iff.mp h
  clear h
  induction n generalizing s with
  | zero => simp [sr_it] at hn
  | succ n ih =>
    unfold sr_it at hn
    cases hb : b s with
    | none => rw [hb] at hn; cases hn
    | some w =>
      rw [hb] at hn
      refine hs s w hb ?_ ?_
      · intro t e
        subst e
        exact ih hn
      · intro r e
        subst e
        exact Option.some.inj hn
theorem sr_bind {α ρ : Type} {x : Option α} {F : α → Option ρ} {y : ρ} (h : x.bind F = some y) : ∃ a, x = some a ∧ ∀ a', a' = a → F a' = some y := by
  cases x with
  | none => cases h
  | some a => exact ⟨a, rfl, fun a' e => by rw [e]; exact h⟩
theorem sr_jn_rule {κ ρ : Type} {K : κ} {B : κ → Option ρ} {y : ρ} {G : Prop} (T : κ → Prop) (h : sr_jn K B = some y) (hK : T K) (hB : ∀ K', T K' → B K' = some y → G) : G := hB K hK h
theorem sr_ifp {α : Type} {c : Prop} [Decidable c] {A B X : α} (h : ite c A B = X) (hc : c) : A = X := (if_pos hc).symm.trans h
theorem sr_ifn {α : Type} {c : Prop} [Decidable c] {A B X : α} (h : ite c A B = X) (hc : ¬ c) : B = X := (if_neg hc).symm.trans h
-- what a place is
def sr_ia (cf : sr_CF) (tys : List (ClassId × FieldType)) (N k n : Nat) (ty : FieldType) : Prop := k < N ∧ ∃ (cA : ClassId) (t0 : Nat), (∀ R L D, cf k R L D = .inl (cA, n, .inl R)) ∧ tys[t0]? = some (cA, ty)
def sr_ja (cf : sr_CF) (tys : List (ClassId × FieldType)) (N k n : Nat) : Prop := k < N ∧ ∃ (cA : ClassId) (t0 : Nat), (∀ R L D, cf k R L D = .inl (cA, n, .inr (.inl L))) ∧ tys[t0]? = some (cA, .long)
def sr_da (cf : sr_CF) (tys : List (ClassId × FieldType)) (N k n : Nat) : Prop := k < N ∧ ∃ (cA : ClassId) (t0 : Nat), (∀ R L D, cf k R L D = .inl (cA, n, .inr (.inr (.inr (.inl D))))) ∧ tys[t0]? = some (cA, .double)
def sr_qa (cf : sr_CF) (tys : List (ClassId × FieldType)) (N k n : Nat) (C : String) (f : Nat → Option Nat) : Prop := k < N ∧ ∃ (cA : ClassId) (t0 : Nat), (∀ R L D, cf k R L D = .inl (cA, n, .inr (.inr (.inr (.inr f))))) ∧ tys[t0]? = some (cA, .object C)
def sr_ob (cl : List vw_C) (cf : sr_CF) (N k : Nat) (C : String) : Prop := k < N ∧ ∃ (ci : Nat) (q : vw_C) (fs : (Nat → Int32) → List Value), cl[ci]? = some q ∧ q.1 = C ∧ ∀ R L D, cf k R L D = .inr (ci, fs R)
def sr_fi (cl : List vw_C) (cf : sr_CF) (N k : Nat) (C : String) (T : u_T) (N0 j : Nat) : Prop := k < N ∧ j < N0 ∧ (T j).1 = C ∧ ∃ (ci : Nat) (fs : (Nat → Int32) → List Value), cl[ci]? = some (C, T, N0) ∧ (∀ R L D, cf k R L D = .inr (ci, fs R)) ∧ (∀ R, (fs R)[j]? = some (.int (R j))) ∧ ∀ R v, (fs R).set j (.int v) = fs (upd R j v)
def sr_fr (cl : List vw_C) (cf : sr_CF) (N k : Nat) (C : String) (T : u_T) (N0 j a : Nat) : Prop := k < N ∧ j < N0 ∧ (T j).1 = C ∧ ∃ (ci : Nat) (fs : (Nat → Int32) → List Value), cl[ci]? = some (C, T, N0) ∧ (∀ R L D, cf k R L D = .inr (ci, fs R)) ∧ (∀ R, (fs R)[j]? = some (.ref a))
theorem sr_up_self {α : Type} {f : Nat → α} {k : Nat} {v : α} : va_up f k v k = v := by simp [va_up]
theorem sr_up_ne {α : Type} {f : Nat → α} {k i : Nat} {v : α} (h : i ≠ k) : va_up f k v i = f i := by simp [va_up, h]
section SRW
variable {p : Program} {l : Launch} {e : Env} {R : Room} {s : State} {m : MethodId} {args : Array Value} {below : List Frame} {meth : Method} {c : Code} {H : Heap} {locs : List Loc} {Q : State → Prop}
variable {cc : ByteArray} {pc : Nat} {ls : Array Slot} {rest : List Value}
variable {D : va_G} {cl : List vw_C} {tys : List (ClassId × FieldType)} {ad : Nat → Nat} {cf : sr_CF} {N : Nat} {A : Nat → Prop} {M : sr_M} {ρ : Type} {res : ρ}
theorem sr_iald (hx : p.tables.exec = Jvm.exec) (hb : c.code = cc) (hw : sr_H D cl tys ad cf N A s M H locs) {k n : Nat} (hs : sr_ia cf tys N k n .int) {i : Int32} {F : Int32 → Option ρ} (h : sr_ld i n (M.1 k) F = some res) (hdg : decode cc pc = .ok (.iaload, 1))
    (kk : ∀ v : Int32, F v = some res → W p l e R s m args below meth c H locs 0 0 Q (F0 m (pc + 1) ls (.int v :: rest))) : W p l e R s m args below meth c H locs 0 0 Q (F0 m pc ls (.int i :: .ref (ad k) :: rest)) := by
  obtain ⟨hin, h⟩ := sr_grd_some h
  obtain ⟨hk, cA, t0, hs, ht⟩ := hs
  exact va_iald hx hb hw.1 hw.2.1 k t0 (by rw [sr_w_get hk, hs]) ht hin hdg (kk _ h)
theorem sr_zald (hx : p.tables.exec = Jvm.exec) (hb : c.code = cc) (hw : sr_H D cl tys ad cf N A s M H locs) {k n : Nat} (hs : sr_ia cf tys N k n .boolean) {i : Int32} {F : Int32 → Option ρ} (h : sr_ld i n (M.1 k) F = some res) (hdg : decode cc pc = .ok (.baload, 1))
    (kk : ∀ v : Int32, F v = some res → W p l e R s m args below meth c H locs 0 0 Q (F0 m (pc + 1) ls (.int v :: rest))) : W p l e R s m args below meth c H locs 0 0 Q (F0 m pc ls (.int i :: .ref (ad k) :: rest)) := by
  obtain ⟨hin, h⟩ := sr_grd_some h
  obtain ⟨hk, cA, t0, hs, ht⟩ := hs
  exact va_zald hx hb hw.1 hw.2.1 k t0 (by rw [sr_w_get hk, hs]) ht hin hdg (kk _ h)
theorem sr_bald (hx : p.tables.exec = Jvm.exec) (hb : c.code = cc) (hw : sr_H D cl tys ad cf N A s M H locs) {k n : Nat} (hs : sr_ia cf tys N k n .byte) {i : Int32} {F : Int32 → Option ρ} (h : sr_ld i n (M.1 k) F = some res) (hdg : decode cc pc = .ok (.baload, 1))
    (kk : ∀ v : Int32, F v = some res → W p l e R s m args below meth c H locs 0 0 Q (F0 m (pc + 1) ls (.int v :: rest))) : W p l e R s m args below meth c H locs 0 0 Q (F0 m pc ls (.int i :: .ref (ad k) :: rest)) := by
  obtain ⟨hin, h⟩ := sr_grd_some h
  obtain ⟨hk, cA, t0, hs, ht⟩ := hs
  exact va_bald hx hb hw.1 hw.2.1 k t0 (by rw [sr_w_get hk, hs]) ht hin hdg (kk _ h)
theorem sr_lald (hx : p.tables.exec = Jvm.exec) (hb : c.code = cc) (hw : sr_H D cl tys ad cf N A s M H locs) {k n : Nat} (hs : sr_ja cf tys N k n) {i : Int32} {F : Int64 → Option ρ} (h : sr_ld i n (M.2.1 k) F = some res) (hdg : decode cc pc = .ok (.laload, 1))
    (kk : ∀ v : Int64, F v = some res → W p l e R s m args below meth c H locs 0 0 Q (F0 m (pc + 1) ls (.long v :: rest))) : W p l e R s m args below meth c H locs 0 0 Q (F0 m pc ls (.int i :: .ref (ad k) :: rest)) := by
  obtain ⟨hin, h⟩ := sr_grd_some h
  obtain ⟨hk, cA, t0, hs, ht⟩ := hs
  exact va_lald hx hb hw.1 hw.2.1 k t0 (by rw [sr_w_get hk, hs]) ht hin hdg (kk _ h)
theorem sr_dald (hx : p.tables.exec = Jvm.exec) (hb : c.code = cc) (hw : sr_H D cl tys ad cf N A s M H locs) {k n : Nat} (hs : sr_da cf tys N k n) {i : Int32} {F : UInt64 → Option ρ} (h : sr_ld i n (M.2.2 k) F = some res) (hdg : decode cc pc = .ok (.daload, 1))
    (kk : ∀ v : UInt64, F v = some res → W p l e R s m args below meth c H locs 0 0 Q (F0 m (pc + 1) ls (.double v :: rest))) : W p l e R s m args below meth c H locs 0 0 Q (F0 m pc ls (.int i :: .ref (ad k) :: rest)) := by
  obtain ⟨hin, h⟩ := sr_grd_some h
  obtain ⟨hk, cA, t0, hs, ht⟩ := hs
  exact va_dald hx hb hw.1 hw.2.1 k t0 (by rw [sr_w_get hk, hs]) ht hin hdg (kk _ h)
theorem sr_aald (hx : p.tables.exec = Jvm.exec) (hb : c.code = cc) (hw : sr_H D cl tys ad cf N A s M H locs) {k n : Nat} {C : String} {f : Nat → Option Nat} (hs : sr_qa cf tys N k n C f) {i : Int32} {b : Nat} {x : Option ρ} (h : sr_grd (vp_in i n) x = some res) (hf : vp_in i n → f i.toNatClampNeg = some b) (hdg : decode cc pc = .ok (.aaload, 1))
    (kk : vp_in i n → x = some res → W p l e R s m args below meth c H locs 0 0 Q (F0 m (pc + 1) ls (.ref b :: rest))) : W p l e R s m args below meth c H locs 0 0 Q (F0 m pc ls (.int i :: .ref (ad k) :: rest)) := by
  obtain ⟨hin, h⟩ := sr_grd_some h
  obtain ⟨hk, cA, t0, hs, ht⟩ := hs
  refine va_aldq hx hb hw.1 hw.2.1 k t0 (by rw [sr_w_get hk, hs]) ht hin hdg ?_
  rw [hf hin]
  exact kk hin h
theorem sr_H_set (hw : sr_H D cl tys ad cf N A s M H locs) {k : Nat} {M' : sr_M} {e0 : va_E} {H1 : Heap} {locs1 : List Loc} (hk : k < N) (h1 : ∀ i, i ≠ k → M'.1 i = M.1 i ∧ M'.2.1 i = M.2.1 i ∧ M'.2.2 i = M.2.2 i) (he : e0 = cf k (M'.1 k) (M'.2.1 k) (M'.2.2 k)) (hP : va_P D cl ((sr_w ad cf N M).set k (ad k, e0)) H1) (hD : va_D A ((sr_w ad cf N M).set k (ad k, e0))) (hS : va_S A s.heap H1 locs1) : sr_H D cl tys ad cf N A s M' H1 locs1 := by
  rw [sr_w_set hk h1 he] at hP hD
  exact ⟨hw.1, hP, hD, hS⟩
theorem sr_iast (hx : p.tables.exec = Jvm.exec) (hb : c.code = cc) (hw : sr_H D cl tys ad cf N A s M H locs) {k n : Nat} (hs : sr_ia cf tys N k n .int) {i v : Int32} {F : sr_M → Option ρ} (h : sr_st i n M k v F = some res) (hdg : decode cc pc = .ok (.iastore, 1))
    (kk : ∀ (M1 : sr_M) (H1 : Heap) (locs1 : List Loc), F M1 = some res → sr_H D cl tys ad cf N A s M1 H1 locs1 → W p l e R s m args below meth c H1 locs1 0 0 Q (F0 m (pc + 1) ls rest)) : W p l e R s m args below meth c H locs 0 0 Q (F0 m pc ls (.int v :: .int i :: .ref (ad k) :: rest)) := by
  obtain ⟨hin, h⟩ := sr_grd_some h
  obtain ⟨hk, cA, t0, hs, ht⟩ := hs
  refine va_iast hx hb hw.1 hw.2.1 hw.2.2.1 hw.2.2.2 k t0 (by rw [sr_w_get hk, hs]) ht hin hdg (fun H1 locs1 hP hD hS => kk _ H1 locs1 h (sr_H_set hw hk (fun i hi => ⟨sr_up_ne hi, rfl, rfl⟩) ?_ hP hD hS))
  rw [hs]
  simp only [sr_wI, sr_up_self]
theorem sr_zast (hx : p.tables.exec = Jvm.exec) (hb : c.code = cc) (hw : sr_H D cl tys ad cf N A s M H locs) {k n : Nat} (hs : sr_ia cf tys N k n .boolean) {i v : Int32} {F : sr_M → Option ρ} (h : sr_stB i n M k v F = some res) (hdg : decode cc pc = .ok (.bastore, 1))
    (kk : ∀ (M1 : sr_M) (H1 : Heap) (locs1 : List Loc), F M1 = some res → sr_H D cl tys ad cf N A s M1 H1 locs1 → W p l e R s m args below meth c H1 locs1 0 0 Q (F0 m (pc + 1) ls rest)) : W p l e R s m args below meth c H locs 0 0 Q (F0 m pc ls (.int v :: .int i :: .ref (ad k) :: rest)) := by
  obtain ⟨⟨hin, hv⟩, h⟩ := sr_grd_some h
  obtain ⟨hk, cA, t0, hs, ht⟩ := hs
  have hn : vp_nar .boolean v = v := by rcases hv with rfl | rfl <;> rfl
  refine va_zast hx hb hw.1 hw.2.1 hw.2.2.1 hw.2.2.2 k t0 (by rw [sr_w_get hk, hs]) ht hin hdg (fun H1 locs1 hP hD hS => kk _ H1 locs1 h (sr_H_set hw hk (fun i hi => ⟨sr_up_ne hi, rfl, rfl⟩) ?_ hP hD hS))
  rw [hs, hn]
  simp only [sr_wI, sr_up_self]
theorem sr_bast (hx : p.tables.exec = Jvm.exec) (hb : c.code = cc) (hw : sr_H D cl tys ad cf N A s M H locs) {k n : Nat} (hs : sr_ia cf tys N k n .byte) {i v : Int32} {F : sr_M → Option ρ} (h : sr_stB i n M k v F = some res) (hdg : decode cc pc = .ok (.bastore, 1))
    (kk : ∀ (M1 : sr_M) (H1 : Heap) (locs1 : List Loc), F M1 = some res → sr_H D cl tys ad cf N A s M1 H1 locs1 → W p l e R s m args below meth c H1 locs1 0 0 Q (F0 m (pc + 1) ls rest)) : W p l e R s m args below meth c H locs 0 0 Q (F0 m pc ls (.int v :: .int i :: .ref (ad k) :: rest)) := by
  obtain ⟨⟨hin, hv⟩, h⟩ := sr_grd_some h
  obtain ⟨hk, cA, t0, hs, ht⟩ := hs
  have hn : vp_nar .byte v = v := by rcases hv with rfl | rfl <;> rfl
  refine va_bast hx hb hw.1 hw.2.1 hw.2.2.1 hw.2.2.2 k t0 (by rw [sr_w_get hk, hs]) ht hin hdg (fun H1 locs1 hP hD hS => kk _ H1 locs1 h (sr_H_set hw hk (fun i hi => ⟨sr_up_ne hi, rfl, rfl⟩) ?_ hP hD hS))
  rw [hs, hn]
  simp only [sr_wI, sr_up_self]
theorem sr_last (hx : p.tables.exec = Jvm.exec) (hb : c.code = cc) (hw : sr_H D cl tys ad cf N A s M H locs) {k n : Nat} (hs : sr_ja cf tys N k n) {i : Int32} {v : Int64} {F : sr_M → Option ρ} (h : sr_stJ i n M k v F = some res) (hdg : decode cc pc = .ok (.lastore, 1))
    (kk : ∀ (M1 : sr_M) (H1 : Heap) (locs1 : List Loc), F M1 = some res → sr_H D cl tys ad cf N A s M1 H1 locs1 → W p l e R s m args below meth c H1 locs1 0 0 Q (F0 m (pc + 1) ls rest)) : W p l e R s m args below meth c H locs 0 0 Q (F0 m pc ls (.long v :: .int i :: .ref (ad k) :: rest)) := by
  obtain ⟨hin, h⟩ := sr_grd_some h
  obtain ⟨hk, cA, t0, hs, ht⟩ := hs
  refine va_last hx hb hw.1 hw.2.1 hw.2.2.1 hw.2.2.2 k t0 (by rw [sr_w_get hk, hs]) ht hin hdg (fun H1 locs1 hP hD hS => kk _ H1 locs1 h (sr_H_set hw hk (fun i hi => ⟨rfl, sr_up_ne hi, rfl⟩) ?_ hP hD hS))
  rw [hs]
  simp only [sr_wJ, sr_up_self]
theorem sr_dast (hx : p.tables.exec = Jvm.exec) (hb : c.code = cc) (hw : sr_H D cl tys ad cf N A s M H locs) {k n : Nat} (hs : sr_da cf tys N k n) {i : Int32} {v : UInt64} {F : sr_M → Option ρ} (h : sr_stD i n M k v F = some res) (hdg : decode cc pc = .ok (.dastore, 1))
    (kk : ∀ (M1 : sr_M) (H1 : Heap) (locs1 : List Loc), F M1 = some res → sr_H D cl tys ad cf N A s M1 H1 locs1 → W p l e R s m args below meth c H1 locs1 0 0 Q (F0 m (pc + 1) ls rest)) : W p l e R s m args below meth c H locs 0 0 Q (F0 m pc ls (.double v :: .int i :: .ref (ad k) :: rest)) := by
  obtain ⟨hin, h⟩ := sr_grd_some h
  obtain ⟨hk, cA, t0, hs, ht⟩ := hs
  refine va_dast hx hb hw.1 hw.2.1 hw.2.2.1 hw.2.2.2 k t0 (by rw [sr_w_get hk, hs]) ht hin hdg (fun H1 locs1 hP hD hS => kk _ H1 locs1 h (sr_H_set hw hk (fun i hi => ⟨rfl, rfl, sr_up_ne hi⟩) ?_ hP hD hS))
  rw [hs]
  simp only [sr_wD, sr_up_self]
theorem sr_geti (hx : p.tables.exec = Jvm.exec) (hb : c.code = cc) {own C : String} {T : u_T} {N0 index j k : Nat} {Ts : List Cond} (hts : ∀ w ∈ Ts, w.before args s = true) (hin : ∀ w ∈ u_ws C T N0, w ∈ Ts) (hown : s.vm.findClass own = some m.cls) (hw : sr_H D cl tys ad cf N A s M H locs) (hf : sr_fi cl cf N k C T N0 j) (hlink : (Cond.fieldLink own index C (T j).2.1 (T j).2.2.1).before args s = true) {F : Int32 → Option ρ} (h : sr_bnd (M.1 k j) F = some res) (hdg : decode cc pc = .ok (.getfield index, 3))
    (kk : ∀ v : Int32, F v = some res → W p l e R s m args below meth c H locs 0 0 Q (F0 m (pc + 3) ls (.int v :: rest))) : W p l e R s m args below meth c H locs 0 0 Q (F0 m pc ls (.ref (ad k) :: rest)) := by
  obtain ⟨hk, hj, hC, ci, fs, hc, hs, hv, -⟩ := hf
  exact va_get hx hb hts hin hown hw.1 hw.2.1 k (by rw [sr_w_get hk, hs]) hc j hj hlink (fun x hx => by rw [hC] at hx; exact hx) (hv _) hdg (kk _ h)
theorem sr_getr (hx : p.tables.exec = Jvm.exec) (hb : c.code = cc) {own C : String} {T : u_T} {N0 index j k a : Nat} {Ts : List Cond} (hts : ∀ w ∈ Ts, w.before args s = true) (hin : ∀ w ∈ u_ws C T N0, w ∈ Ts) (hown : s.vm.findClass own = some m.cls) (hw : sr_H D cl tys ad cf N A s M H locs) (hf : sr_fr cl cf N k C T N0 j a) (hlink : (Cond.fieldLink own index C (T j).2.1 (T j).2.2.1).before args s = true) (hdg : decode cc pc = .ok (.getfield index, 3))
    (kk : W p l e R s m args below meth c H locs 0 0 Q (F0 m (pc + 3) ls (.ref a :: rest))) : W p l e R s m args below meth c H locs 0 0 Q (F0 m pc ls (.ref (ad k) :: rest)) := by
  obtain ⟨hk, hj, hC, ci, fs, hc, hs, hv⟩ := hf
  exact va_get hx hb hts hin hown hw.1 hw.2.1 k (by rw [sr_w_get hk, hs]) hc j hj hlink (fun x hx => by rw [hC] at hx; exact hx) (hv _) hdg kk
theorem sr_puti (hx : p.tables.exec = Jvm.exec) (hb : c.code = cc) {own C : String} {T : u_T} {N0 index j k : Nat} {Ts : List Cond} (hts : ∀ w ∈ Ts, w.before args s = true) (hin : ∀ w ∈ u_ws C T N0, w ∈ Ts) (ty0 : Nat → FieldType) (hty : ∀ k, k < N0 → parseFieldDescriptor (T k).2.2.1 = some (ty0 k)) (hnm : ∀ a, a < N0 → ∀ b, b < N0 → a ≠ b → (T a).2.1 ≠ (T b).2.1) (hown : s.vm.findClass own = some m.cls) (hw : sr_H D cl tys ad cf N A s M H locs) (hf : sr_fi cl cf N k C T N0 j) (hfin : (T j).2.2.2 = false) (hd : ty0 j = .int) (hlink : (Cond.fieldLink own index C (T j).2.1 (T j).2.2.1).before args s = true) {v : Int32} {F : sr_M → Option ρ} (h : sr_put M k j v F = some res) (hdg : decode cc pc = .ok (.putfield index, 3))
    (kk : ∀ (M1 : sr_M) (H1 : Heap) (locs1 : List Loc), F M1 = some res → sr_H D cl tys ad cf N A s M1 H1 locs1 → W p l e R s m args below meth c H1 locs1 0 0 Q (F0 m (pc + 3) ls rest)) : W p l e R s m args below meth c H locs 0 0 Q (F0 m pc ls (.int v :: .ref (ad k) :: rest)) := by
  obtain ⟨hk, hj, hC, ci, fs, hc, hs, hv, hset⟩ := hf
  refine va_put hx hb hts hin ty0 hty hnm hown hw.1 hw.2.1 hw.2.2.1 hw.2.2.2 k (by rw [sr_w_get hk, hs]) hc j hj hlink (fun x hx => by rw [hC] at hx; exact hx) hfin (by rw [hty j hj, hd]) (ty := .int) (v := .int v) rfl rfl ((List.getElem?_eq_some_iff.mp (hv _)).1) hdg (fun H1 locs1 hP hD hS => kk _ H1 locs1 h (sr_H_set hw hk (fun i hi => ⟨sr_up_ne hi, rfl, rfl⟩) ?_ hP hD hS))
  rw [hs, hset]
  simp only [sr_wI, sr_up_self]
theorem sr_putz (hx : p.tables.exec = Jvm.exec) (hb : c.code = cc) {own C : String} {T : u_T} {N0 index j k : Nat} {Ts : List Cond} (hts : ∀ w ∈ Ts, w.before args s = true) (hin : ∀ w ∈ u_ws C T N0, w ∈ Ts) (ty0 : Nat → FieldType) (hty : ∀ k, k < N0 → parseFieldDescriptor (T k).2.2.1 = some (ty0 k)) (hnm : ∀ a, a < N0 → ∀ b, b < N0 → a ≠ b → (T a).2.1 ≠ (T b).2.1) (hown : s.vm.findClass own = some m.cls) (hw : sr_H D cl tys ad cf N A s M H locs) (hf : sr_fi cl cf N k C T N0 j) (hfin : (T j).2.2.2 = false) (hd : ty0 j = .boolean) (hlink : (Cond.fieldLink own index C (T j).2.1 (T j).2.2.1).before args s = true) {v : Int32} {F : sr_M → Option ρ} (h : sr_putB M k j v F = some res) (hdg : decode cc pc = .ok (.putfield index, 3))
    (kk : ∀ (M1 : sr_M) (H1 : Heap) (locs1 : List Loc), F M1 = some res → sr_H D cl tys ad cf N A s M1 H1 locs1 → W p l e R s m args below meth c H1 locs1 0 0 Q (F0 m (pc + 3) ls rest)) : W p l e R s m args below meth c H locs 0 0 Q (F0 m pc ls (.int v :: .ref (ad k) :: rest)) := by
  obtain ⟨hv1, h⟩ := sr_grd_some h
  obtain ⟨hk, hj, hC, ci, fs, hc, hs, hv, hset⟩ := hf
  refine va_put hx hb hts hin ty0 hty hnm hown hw.1 hw.2.1 hw.2.2.1 hw.2.2.2 k (by rw [sr_w_get hk, hs]) hc j hj hlink (fun x hx => by rw [hC] at hx; exact hx) hfin (by rw [hty j hj, hd]) (ty := .boolean) (v := .int v) (by rcases hv1 with rfl | rfl <;> rfl) (by rcases hv1 with rfl | rfl <;> rfl) ((List.getElem?_eq_some_iff.mp (hv _)).1) hdg (fun H1 locs1 hP hD hS => kk _ H1 locs1 h (sr_H_set hw hk (fun i hi => ⟨sr_up_ne hi, rfl, rfl⟩) ?_ hP hD hS))
  rw [hs, hset]
  simp only [sr_wI, sr_up_self]
end SRW
-- contracts
def sr_Pc (D : va_G) (cl : List vw_C) (tys : List (ClassId × FieldType)) (ad : Nat → Nat) (cf : sr_CF) (N : Nat) (as : List Value) (M : sr_M) (sz : Nat) : Array Value → State → Prop := va_Pc as (fun U => U.heap.size = sz ∧ va_P D cl (sr_w ad cf N M) U.heap ∧ va_K D cl tys U ∧ va_D (fun _ => True) (sr_w ad cf N M))
def sr_B (D : va_G) (cl : List vw_C) (tys : List (ClassId × FieldType)) (ad : Nat → Nat) (cf : sr_CF) (N : Nat) (A : Nat → Prop) (u : sr_M) (t : State) : Prop := va_P D cl (sr_w ad cf N u) t.heap ∧ va_K D cl tys t ∧ va_D A (sr_w ad cf N u)
def sr_Mi (l : Launch) (D : va_G) (cl : List vw_C) (tys : List (ClassId × FieldType)) (ad : Nat → Nat) (cf : sr_CF) (N : Nat) (y : MethodName) (ws : List Cond) (rm : Room) (as : List Value) (M : sr_M) (r : Int32) (M' : sr_M) : Prop :=
  ∀ sz : Nat, Met l y ws rm (sr_Pc D cl tys ad cf N as M sz) (va_Qi (fun (r2 : Int32) (u : sr_M) => r2 = r ∧ u = M') (sr_B D cl tys ad cf N (va_A (sr_w ad cf N M) sz)) (va_A (sr_w ad cf N M) sz)) 0 0 (va_A (sr_w ad cf N M) sz)
def sr_Ml (l : Launch) (D : va_G) (cl : List vw_C) (tys : List (ClassId × FieldType)) (ad : Nat → Nat) (cf : sr_CF) (N : Nat) (y : MethodName) (ws : List Cond) (rm : Room) (as : List Value) (M : sr_M) (r : Int64) (M' : sr_M) : Prop :=
  ∀ sz : Nat, Met l y ws rm (sr_Pc D cl tys ad cf N as M sz) (va_Ql (fun (r2 : Int64) (u : sr_M) => r2 = r ∧ u = M') (sr_B D cl tys ad cf N (va_A (sr_w ad cf N M) sz)) (va_A (sr_w ad cf N M) sz)) 0 0 (va_A (sr_w ad cf N M) sz)
def sr_Mv (l : Launch) (D : va_G) (cl : List vw_C) (tys : List (ClassId × FieldType)) (ad : Nat → Nat) (cf : sr_CF) (N : Nat) (y : MethodName) (ws : List Cond) (rm : Room) (as : List Value) (M : sr_M) (M' : sr_M) : Prop :=
  ∀ sz : Nat, Met l y ws rm (sr_Pc D cl tys ad cf N as M sz) (va_Qv (fun (u : sr_M) => u = M') (sr_B D cl tys ad cf N (va_A (sr_w ad cf N M) sz)) (va_A (sr_w ad cf N M) sz)) 0 0 (va_A (sr_w ad cf N M) sz)
theorem sr_open_i {l : Launch} {D : va_G} {cl : List vw_C} {tys : List (ClassId × FieldType)} {ad : Nat → Nat} {cf : sr_CF} {N : Nat} {y : MethodName} {ws ws' : List Cond} {rm : Room} {cc : ByteArray} {maxL : Nat} {as : List Value} {M M' : sr_M} {r : Int32} {ty : FieldType} (hy : plainName y.cls = true) (hws : ws = .code y cc maxL (some ty) :: ws') (hlen : (lg_sl as).length ≤ maxL)
    (body : ∀ (p : Program) (e : Env) (s : State) (m : MethodId) (args : Array Value) (below : List Frame) (meth : Method) (c : Code) (A : Nat → Prop) (Q : State → Prop) (ls : Array Slot), p.tables.exec = Jvm.exec → c.code = cc → c.maxLocals = maxL → (∀ w ∈ ws, w.before args s = true) → s.vm.findClass y.cls = some m.cls → (∀ q : Nat, s.heap.size ≤ q → A q) → sr_H D cl tys ad cf N A s M s.heap [] → lv_has ls maxL (lv_args 0 as) →
      (∀ (H : Heap) (locs : List Loc) (ls : Array Slot) (pc : Nat), sr_H D cl tys ad cf N A s M' H locs → narrow ty (.int r) = .int r → decode cc pc = .ok (.ireturn, 1) → W p l e rm s m args below meth c H locs 0 0 Q (F0 m pc ls [.int r])) → W p l e rm s m args below meth c s.heap [] 0 0 Q (F0 m 0 ls [])) : sr_Mi l D cl tys ad cf N y ws rm as M r M' := by
  intro sz
  refine Met.ofW (cc := cc) (maxL := maxL) (ret := some ty) hy hws ?_
  intro p e s m args below meth c s₁ B hml hv
  obtain ⟨rfl, hsz, hP, hK, hD0⟩ := hv
  subst hsz
  rw [lg_entry_eq]
  refine body p e s m _ below meth c (va_A (sr_w ad cf N M) s.heap.size) _ _ B.exec B.bytes hml (atoms_spec (ws := ws) B.pre) (findClass_of_methodNamed B.named) (fun q h => Or.inr h) ⟨hK, hP, hD0.self, va_S.rf⟩ (lv_entry as hlen) ?_
  intro H locs ls pc hw hn hdg
  exact W.zret B.exec B.bytes B.returns hn (fun t ht hW => ⟨⟨r, M', rfl, ⟨rfl, rfl⟩, by rw [ht]; exact hw.2.1, va_K.moved hW.alike hw.1, hw.2.2.1⟩, hw.2.2.2.F ht⟩) hw.2.2.2.2.2 hdg B.notSynchronized
theorem sr_open_l {l : Launch} {D : va_G} {cl : List vw_C} {tys : List (ClassId × FieldType)} {ad : Nat → Nat} {cf : sr_CF} {N : Nat} {y : MethodName} {ws ws' : List Cond} {rm : Room} {cc : ByteArray} {maxL : Nat} {as : List Value} {M M' : sr_M} {r : Int64} (hy : plainName y.cls = true) (hws : ws = .code y cc maxL (some .long) :: ws') (hlen : (lg_sl as).length ≤ maxL)
    (body : ∀ (p : Program) (e : Env) (s : State) (m : MethodId) (args : Array Value) (below : List Frame) (meth : Method) (c : Code) (A : Nat → Prop) (Q : State → Prop) (ls : Array Slot), p.tables.exec = Jvm.exec → c.code = cc → c.maxLocals = maxL → (∀ w ∈ ws, w.before args s = true) → s.vm.findClass y.cls = some m.cls → (∀ q : Nat, s.heap.size ≤ q → A q) → sr_H D cl tys ad cf N A s M s.heap [] → lv_has ls maxL (lv_args 0 as) →
      (∀ (H : Heap) (locs : List Loc) (ls : Array Slot) (pc : Nat), sr_H D cl tys ad cf N A s M' H locs → decode cc pc = .ok (.lreturn, 1) → W p l e rm s m args below meth c H locs 0 0 Q (F0 m pc ls [.long r])) → W p l e rm s m args below meth c s.heap [] 0 0 Q (F0 m 0 ls [])) : sr_Ml l D cl tys ad cf N y ws rm as M r M' := by
  intro sz
  refine Met.ofW (cc := cc) (maxL := maxL) (ret := some .long) hy hws ?_
  intro p e s m args below meth c s₁ B hml hv
  obtain ⟨rfl, hsz, hP, hK, hD0⟩ := hv
  subst hsz
  rw [lg_entry_eq]
  refine body p e s m _ below meth c (va_A (sr_w ad cf N M) s.heap.size) _ _ B.exec B.bytes hml (atoms_spec (ws := ws) B.pre) (findClass_of_methodNamed B.named) (fun q h => Or.inr h) ⟨hK, hP, hD0.self, va_S.rf⟩ (lv_entry as hlen) ?_
  intro H locs ls pc hw hdg
  exact W.lret B.exec B.bytes B.returns (fun t ht hW => ⟨⟨r, M', rfl, ⟨rfl, rfl⟩, by rw [ht]; exact hw.2.1, va_K.moved hW.alike hw.1, hw.2.2.1⟩, hw.2.2.2.F ht⟩) hw.2.2.2.2.2 hdg B.notSynchronized
theorem sr_open_v {l : Launch} {D : va_G} {cl : List vw_C} {tys : List (ClassId × FieldType)} {ad : Nat → Nat} {cf : sr_CF} {N : Nat} {y : MethodName} {ws ws' : List Cond} {rm : Room} {cc : ByteArray} {maxL : Nat} {as : List Value} {M M' : sr_M} (hy : plainName y.cls = true) (hws : ws = .code y cc maxL none :: ws') (hlen : (lg_sl as).length ≤ maxL)
    (body : ∀ (p : Program) (e : Env) (s : State) (m : MethodId) (args : Array Value) (below : List Frame) (meth : Method) (c : Code) (A : Nat → Prop) (Q : State → Prop) (ls : Array Slot), p.tables.exec = Jvm.exec → c.code = cc → c.maxLocals = maxL → (∀ w ∈ ws, w.before args s = true) → s.vm.findClass y.cls = some m.cls → (∀ q : Nat, s.heap.size ≤ q → A q) → sr_H D cl tys ad cf N A s M s.heap [] → lv_has ls maxL (lv_args 0 as) →
      (∀ (H : Heap) (locs : List Loc) (ls : Array Slot) (pc : Nat), sr_H D cl tys ad cf N A s M' H locs → decode cc pc = .ok (.return_, 1) → W p l e rm s m args below meth c H locs 0 0 Q (F0 m pc ls [])) → W p l e rm s m args below meth c s.heap [] 0 0 Q (F0 m 0 ls [])) : sr_Mv l D cl tys ad cf N y ws rm as M M' := by
  intro sz
  refine Met.ofW (cc := cc) (maxL := maxL) (ret := none) hy hws ?_
  intro p e s m args below meth c s₁ B hml hv
  obtain ⟨rfl, hsz, hP, hK, hD0⟩ := hv
  subst hsz
  rw [lg_entry_eq]
  refine body p e s m _ below meth c (va_A (sr_w ad cf N M) s.heap.size) _ _ B.exec B.bytes hml (atoms_spec (ws := ws) B.pre) (findClass_of_methodNamed B.named) (fun q h => Or.inr h) ⟨hK, hP, hD0.self, va_S.rf⟩ (lv_entry as hlen) ?_
  intro H locs ls pc hw hdg
  exact W.vret B.exec B.bytes B.returns (fun t ht hW => ⟨⟨M', rfl, rfl, by rw [ht]; exact hw.2.1, va_K.moved hW.alike hw.1, hw.2.2.1⟩, hw.2.2.2.F ht⟩) hw.2.2.2.2.2 hdg B.notSynchronized
theorem sr_blind {D : va_G} {cl : List vw_C} {tys : List (ClassId × FieldType)} {ad : Nat → Nat} {cf : sr_CF} {N : Nat} {as : List Value} {M : sr_M} {sz : Nat} : FrameBlind (sr_Pc D cl tys ad cf N as M sz) := by
  intro a U g mk q
  obtain ⟨q0, q1, qP, qK, qD⟩ := q
  exact ⟨q0, q1, qP, va_K.moved (u := U) (U := U.calling g mk a) (Vm.Alike.refl U.vm) qK, qD⟩
theorem sr_free {ad : Nat → Nat} {cf : sr_CF} {N : Nat} {M : sr_M} {A : Nat → Prop} {H0 H : Heap} {locs : List Loc} (hD : va_D A (sr_w ad cf N M)) (hS : va_S A H0 H locs) (hA : ∀ q : Nat, H0.size ≤ q → A q) : ∀ q, va_A (sr_w ad cf N M) H.size q → A q := by
  intro q h
  rcases h with ⟨k, e, h⟩ | h
  · exact hD.2 k (q, e) h
  · exact hA q (Nat.le_trans hS.1 h)
section SRC
variable {p : Program} {l : Launch} {e : Env} {R : Room} {s : State} {m : MethodId} {args : Array Value} {below : List Frame} {meth : Method} {c : Code} {H : Heap} {locs : List Loc} {Q : State → Prop}
variable {cc : ByteArray} {pc nL : Nat} {ls : Array Slot} {rest st0 : List Value}
variable {D : va_G} {cl : List vw_C} {tys : List (ClassId × FieldType)} {ad : Nat → Nat} {cf : sr_CF} {N : Nat} {A : Nat → Prop} {M M1 : sr_M}
variable {y : MethodName} {bytes : ByteArray} {maxL n index : Nat} {ret : Option FieldType} {ws : List Cond} {rm : Room} {Ts : List Cond} {own C : String} {As : List Value}
theorem sr_cVi {r : Int32} {k : Nat} (S : CallFix p m c cc nL s args Ts own) (hM : sr_Mi l D cl tys ad cf N y ws rm (.ref (ad k) :: As) M r M1) (cw : CallW R s args own C index y bytes maxL ret ws rm 0 0 n) (hw : sr_H D cl tys ad cf N A s M H locs) (hA : ∀ q : Nat, s.heap.size ≤ q → A q) (hob : sr_ob cl cf N k C) (hn : As.length = n) (hls : ls.size = nL) (hst : st0 = As.reverse ++ .ref (ad k) :: rest) (hW : (rest.map fun v => v.category).sum ≤ 8) (hdg : decode cc pc = .ok (.invokevirtual index, 3))
    (kk : ∀ (H1 : Heap) (locs1 : List Loc), sr_H D cl tys ad cf N A s M1 H1 locs1 → W p l e R s m args below meth c H1 locs1 0 0 Q (F0 m (pc + 3) ls (.int r :: rest))) : W p l e R s m args below meth c H locs 0 0 Q (F0 m pc ls st0) := by
  obtain ⟨hk, ci, q, fs, hc, hqC, hs⟩ := hob
  have hF := sr_free hw.2.2.1 hw.2.2.2 hA
  refine va_calli (va_runV (As := As) (rest := rest) S (hM H.size) cw ⟨sr_blind, ?_, fun U hU hW => ⟨rfl, by rw [hU], by rw [hU]; exact hw.2.1, va_K.moved hW.alike hw.1, hw.2.2.1.weaken (fun _ _ _ _ => trivial)⟩⟩ rfl hn hls hst (lv_room hW) hdg ⟨Nat.zero_le _, Nat.zero_le _⟩) hw.2.2.2 (fun q _ h => hF q h) hF (fun r2 u t H1 locs1 ht hvm hr hB hz hk1 hS => ?_)
  · have h := va_recv hw.1 hw.2.1 hc (q0 := k) (by rw [sr_w_get hk, hs])
    rw [hqC] at h
    exact h
  · obtain ⟨rfl, rfl⟩ := hr
    obtain ⟨hP1, hK1, hD1⟩ := hB
    rw [ht] at hP1
    exact kk H1 locs1 ⟨va_K.moved hvm.symm hK1, hP1, hD1.weaken (fun _ q _ h => hF q.1 h), hS⟩
theorem sr_cVl {r : Int64} {k : Nat} (S : CallFix p m c cc nL s args Ts own) (hM : sr_Ml l D cl tys ad cf N y ws rm (.ref (ad k) :: As) M r M1) (cw : CallW R s args own C index y bytes maxL ret ws rm 0 0 n) (hw : sr_H D cl tys ad cf N A s M H locs) (hA : ∀ q : Nat, s.heap.size ≤ q → A q) (hob : sr_ob cl cf N k C) (hn : As.length = n) (hls : ls.size = nL) (hst : st0 = As.reverse ++ .ref (ad k) :: rest) (hW : (rest.map fun v => v.category).sum ≤ 8) (hdg : decode cc pc = .ok (.invokevirtual index, 3))
    (kk : ∀ (H1 : Heap) (locs1 : List Loc), sr_H D cl tys ad cf N A s M1 H1 locs1 → W p l e R s m args below meth c H1 locs1 0 0 Q (F0 m (pc + 3) ls (.long r :: rest))) : W p l e R s m args below meth c H locs 0 0 Q (F0 m pc ls st0) := by
  obtain ⟨hk, ci, q, fs, hc, hqC, hs⟩ := hob
  have hF := sr_free hw.2.2.1 hw.2.2.2 hA
  refine va_calll (va_runV (As := As) (rest := rest) S (hM H.size) cw ⟨sr_blind, ?_, fun U hU hW => ⟨rfl, by rw [hU], by rw [hU]; exact hw.2.1, va_K.moved hW.alike hw.1, hw.2.2.1.weaken (fun _ _ _ _ => trivial)⟩⟩ rfl hn hls hst (lv_room hW) hdg ⟨Nat.zero_le _, Nat.zero_le _⟩) hw.2.2.2 (fun q _ h => hF q h) hF (fun r2 u t H1 locs1 ht hvm hr hB hz hk1 hS => ?_)
  · have h := va_recv hw.1 hw.2.1 hc (q0 := k) (by rw [sr_w_get hk, hs])
    rw [hqC] at h
    exact h
  · obtain ⟨rfl, rfl⟩ := hr
    obtain ⟨hP1, hK1, hD1⟩ := hB
    rw [ht] at hP1
    exact kk H1 locs1 ⟨va_K.moved hvm.symm hK1, hP1, hD1.weaken (fun _ q _ h => hF q.1 h), hS⟩
theorem sr_cVv {k : Nat} (S : CallFix p m c cc nL s args Ts own) (hM : sr_Mv l D cl tys ad cf N y ws rm (.ref (ad k) :: As) M M1) (cw : CallW R s args own C index y bytes maxL ret ws rm 0 0 n) (hw : sr_H D cl tys ad cf N A s M H locs) (hA : ∀ q : Nat, s.heap.size ≤ q → A q) (hob : sr_ob cl cf N k C) (hn : As.length = n) (hls : ls.size = nL) (hst : st0 = As.reverse ++ .ref (ad k) :: rest) (hW : (rest.map fun v => v.category).sum ≤ 8) (hdg : decode cc pc = .ok (.invokevirtual index, 3))
    (kk : ∀ (H1 : Heap) (locs1 : List Loc), sr_H D cl tys ad cf N A s M1 H1 locs1 → W p l e R s m args below meth c H1 locs1 0 0 Q (F0 m (pc + 3) ls rest)) : W p l e R s m args below meth c H locs 0 0 Q (F0 m pc ls st0) := by
  obtain ⟨hk, ci, q, fs, hc, hqC, hs⟩ := hob
  have hF := sr_free hw.2.2.1 hw.2.2.2 hA
  refine va_callv (va_runV (As := As) (rest := rest) S (hM H.size) cw ⟨sr_blind, ?_, fun U hU hW => ⟨rfl, by rw [hU], by rw [hU]; exact hw.2.1, va_K.moved hW.alike hw.1, hw.2.2.1.weaken (fun _ _ _ _ => trivial)⟩⟩ rfl hn hls hst (lv_room hW) hdg ⟨Nat.zero_le _, Nat.zero_le _⟩) hw.2.2.2 (fun q _ h => hF q h) hF (fun u t H1 locs1 ht hvm hr hB hz hk1 hS => ?_)
  · have h := va_recv hw.1 hw.2.1 hc (q0 := k) (by rw [sr_w_get hk, hs])
    rw [hqC] at h
    exact h
  · subst hr
    obtain ⟨hP1, hK1, hD1⟩ := hB
    rw [ht] at hP1
    exact kk H1 locs1 ⟨va_K.moved hvm.symm hK1, hP1, hD1.weaken (fun _ q _ h => hF q.1 h), hS⟩
theorem sr_cSi {r : Int32} (S : CallFix p m c cc nL s args Ts own) (hM : sr_Mi l D cl tys ad cf N y ws rm As M r M1) (cw : CallB R s args own index y bytes maxL ret ws rm 0 0 n ∧ (Cond.static y).before args s = true) (hw : sr_H D cl tys ad cf N A s M H locs) (hA : ∀ q : Nat, s.heap.size ≤ q → A q) (hn : As.length = n) (hls : ls.size = nL) (hst : st0 = As.reverse ++ rest) (hW : (rest.map fun v => v.category).sum ≤ 8) (hdg : decode cc pc = .ok (.invokestatic index, 3))
    (kk : ∀ (H1 : Heap) (locs1 : List Loc), sr_H D cl tys ad cf N A s M1 H1 locs1 → W p l e R s m args below meth c H1 locs1 0 0 Q (F0 m (pc + 3) ls (.int r :: rest))) : W p l e R s m args below meth c H locs 0 0 Q (F0 m pc ls st0) := by
  have hF := sr_free hw.2.2.1 hw.2.2.2 hA
  refine va_calli (va_runS (As := As) (rest := rest) S (hM H.size) cw ⟨sr_blind, fun U hU hW => ⟨rfl, by rw [hU], by rw [hU]; exact hw.2.1, va_K.moved hW.alike hw.1, hw.2.2.1.weaken (fun _ _ _ _ => trivial)⟩⟩ rfl hn hls hst (lv_room hW) hdg ⟨Nat.zero_le _, Nat.zero_le _⟩) hw.2.2.2 (fun q _ h => hF q h) hF (fun r2 u t H1 locs1 ht hvm hr hB hz hk1 hS => ?_)
  obtain ⟨rfl, rfl⟩ := hr
  obtain ⟨hP1, hK1, hD1⟩ := hB
  rw [ht] at hP1
  exact kk H1 locs1 ⟨va_K.moved hvm.symm hK1, hP1, hD1.weaken (fun _ q _ h => hF q.1 h), hS⟩
end SRC
theorem sr_bind1 {α ρ : Type} {x : Option α} {F : α → Option ρ} {y : ρ} (h : x.bind F = some y) : ∃ a, x = some a ∧ F a = some y := by
  cases x with
  | none => cases h
  | some a => exact ⟨a, rfl, h⟩
def sr_bd2 {α β ρ : Type} (x : Option (α × β)) (F : α → β → Option ρ) : Option ρ := x.bind (fun q => F q.1 q.2)
theorem sr_bind2 {α β ρ : Type} {x : Option (α × β)} {F : α → β → Option ρ} {y : ρ} (h : sr_bd2 x F = some y) : ∃ a b, x = some (a, b) ∧ F a b = some y := by
  cases x with
  | none => cases h
  | some a => exact ⟨a.1, a.2, rfl, h⟩
theorem sr_bnde {α ρ : Type} {x : α} {F : α → Option ρ} {y : ρ} (h : sr_bnd x F = some y) (v : α) (e : v = x) : F v = some y := by
  subst e
  exact h
theorem sr_sel {α β ρ : Type} {F : α → ρ} {G : β → ρ} {a : α} {y : ρ} (h : sr_se F G (.inl a) = y) : F a = y := h
theorem sr_ser {α β ρ : Type} {F : α → ρ} {G : β → ρ} {b : β} {y : ρ} (h : sr_se F G (.inr b) = y) : G b = y := h
theorem sr_tout0_4 {x : Int32} (h0 : ¬ x = 0) (h1 : ¬ x = 1) (h2 : ¬ x = 2) (h3 : ¬ x = 3) (h4 : ¬ x = 4) : x.toInt < 0 ∨ 4 < x.toInt := by
  have key : ∀ k : Int, x.toInt = k → x = Int32.ofInt k := fun k e => by rw [← e, Int32.ofInt_toInt]
  rcases Int.lt_or_le x.toInt 0 with q | q
  · exact Or.inl q
  · rcases Int.lt_or_le 4 x.toInt with q2 | q2
    · exact Or.inr q2
    · exfalso
      have h : x.toInt = 0 ∨ x.toInt = 1 ∨ x.toInt = 2 ∨ x.toInt = 3 ∨ x.toInt = 4 := by omega
      rcases h with h | h | h | h | h
      · exact h0 (key _ h)
      · exact h1 (key _ h)
      · exact h2 (key _ h)
      · exact h3 (key _ h)
      · exact h4 (key _ h)
theorem sr_tout0_2 {x : Int32} (h0 : ¬ x = 0) (h1 : ¬ x = 1) (h2 : ¬ x = 2) : x.toInt < 0 ∨ 2 < x.toInt := by
  have key : ∀ k : Int, x.toInt = k → x = Int32.ofInt k := fun k e => by rw [← e, Int32.ofInt_toInt]
  rcases Int.lt_or_le x.toInt 0 with q | q
  · exact Or.inl q
  · rcases Int.lt_or_le 2 x.toInt with q2 | q2
    · exact Or.inr q2
    · exfalso
      have h : x.toInt = 0 ∨ x.toInt = 1 ∨ x.toInt = 2 := by omega
      rcases h with h | h | h
      · exact h0 (key _ h)
      · exact h1 (key _ h)
      · exact h2 (key _ h)
theorem sr_tout0_3 {x : Int32} (h0 : ¬ x = 0) (h1 : ¬ x = 1) (h2 : ¬ x = 2) (h3 : ¬ x = 3) : x.toInt < 0 ∨ 3 < x.toInt := by
  have key : ∀ k : Int, x.toInt = k → x = Int32.ofInt k := fun k e => by rw [← e, Int32.ofInt_toInt]
  rcases Int.lt_or_le x.toInt 0 with q | q
  · exact Or.inl q
  · rcases Int.lt_or_le 3 x.toInt with q2 | q2
    · exact Or.inr q2
    · exfalso
      have h : x.toInt = 0 ∨ x.toInt = 1 ∨ x.toInt = 2 ∨ x.toInt = 3 := by omega
      rcases h with h | h | h | h
      · exact h0 (key _ h)
      · exact h1 (key _ h)
      · exact h2 (key _ h)
      · exact h3 (key _ h)
theorem sr_tout2_6 {x : Int32} (h2 : ¬ x = 2) (h3 : ¬ x = 3) (h4 : ¬ x = 4) (h5 : ¬ x = 5) (h6 : ¬ x = 6) : x.toInt < 2 ∨ 6 < x.toInt := by
  have key : ∀ k : Int, x.toInt = k → x = Int32.ofInt k := fun k e => by rw [← e, Int32.ofInt_toInt]
  rcases Int.lt_or_le x.toInt 2 with q | q
  · exact Or.inl q
  · rcases Int.lt_or_le 6 x.toInt with q2 | q2
    · exact Or.inr q2
    · exfalso
      have h : x.toInt = 2 ∨ x.toInt = 3 ∨ x.toInt = 4 ∨ x.toInt = 5 ∨ x.toInt = 6 := by omega
      rcases h with h | h | h | h | h
      · exact h2 (key _ h)
      · exact h3 (key _ h)
      · exact h4 (key _ h)
      · exact h5 (key _ h)
      · exact h6 (key _ h)
theorem sr_tout0_5 {x : Int32} (h0 : ¬ x = 0) (h1 : ¬ x = 1) (h2 : ¬ x = 2) (h3 : ¬ x = 3) (h4 : ¬ x = 4) (h5 : ¬ x = 5) : x.toInt < 0 ∨ 5 < x.toInt := by
  have key : ∀ k : Int, x.toInt = k → x = Int32.ofInt k := fun k e => by rw [← e, Int32.ofInt_toInt]
  rcases Int.lt_or_le x.toInt 0 with q | q
  · exact Or.inl q
  · rcases Int.lt_or_le 5 x.toInt with q2 | q2
    · exact Or.inr q2
    · exfalso
      have h : x.toInt = 0 ∨ x.toInt = 1 ∨ x.toInt = 2 ∨ x.toInt = 3 ∨ x.toInt = 4 ∨ x.toInt = 5 := by omega
      rcases h with h | h | h | h | h | h
      · exact h0 (key _ h)
      · exact h1 (key _ h)
      · exact h2 (key _ h)
      · exact h3 (key _ h)
      · exact h4 (key _ h)
      · exact h5 (key _ h)
end
section
def xcl (t : Nat → ClassId) (ad : Nat → Nat) (R : Nat → Int32) (L : Nat → Int64) (D : Nat → UInt64) : List va_E :=
  [.inr (4, [.ref (ad 1), .ref (ad 11), .ref (ad 30), .ref (ad 43), .ref (ad 56), .ref (ad 61), .int (R 6)]),
   .inr (2, [.int (R 0), .ref (ad 2), .ref (ad 3), .int (R 3), .ref (ad 4), .ref (ad 5), .ref (ad 6), .ref (ad 7), .ref (ad 8), .int (R 9), .ref (ad 9), .ref (ad 10), .int (R 12)]),
   .inl (t 2, 120, .inl R),
   .inl (t 3, 120, .inl R),
   .inl (t 4, 300, .inl R),
   .inl (t 5, 300, .inl R),
   .inl (t 6, 300, .inl R),
   .inl (t 7, 300, .inl R),
   .inl (t 8, 300, .inl R),
   .inl (t 9, 121, .inl R),
   .inl (t 10, 600, .inl R),
   .inl (t 11, 6, .inr (.inr (.inr (.inr (fun i => if i < 6 then some (ad (12 + 3 * i)) else none))))),
   .inr (0, [.int (R 0), .int (R 1), .int (R 2), .ref (ad 13), .ref (ad 14)]),
   .inl (t 13, 60, .inr (.inl L)),
   .inl (t 14, 60, .inl R),
   .inr (0, [.int (R 0), .int (R 1), .int (R 2), .ref (ad 16), .ref (ad 17)]),
   .inl (t 16, 60, .inr (.inl L)),
   .inl (t 17, 60, .inl R),
   .inr (0, [.int (R 0), .int (R 1), .int (R 2), .ref (ad 19), .ref (ad 20)]),
   .inl (t 19, 60, .inr (.inl L)),
   .inl (t 20, 60, .inl R),
   .inr (0, [.int (R 0), .int (R 1), .int (R 2), .ref (ad 22), .ref (ad 23)]),
   .inl (t 22, 60, .inr (.inl L)),
   .inl (t 23, 60, .inl R),
   .inr (0, [.int (R 0), .int (R 1), .int (R 2), .ref (ad 25), .ref (ad 26)]),
   .inl (t 25, 60, .inr (.inl L)),
   .inl (t 26, 60, .inl R),
   .inr (0, [.int (R 0), .int (R 1), .int (R 2), .ref (ad 28), .ref (ad 29)]),
   .inl (t 28, 60, .inr (.inl L)),
   .inl (t 29, 60, .inl R),
   .inr (1, [.ref (ad 1), .int (R 1), .int (R 2), .ref (ad 31), .ref (ad 32), .ref (ad 33), .ref (ad 34), .ref (ad 35), .ref (ad 36), .int (R 9), .ref (ad 37), .ref (ad 38), .ref (ad 39), .ref (ad 40), .ref (ad 41), .ref (ad 42)]),
   .inl (t 31, 121, .inl R),
   .inl (t 32, 121, .inl R),
   .inl (t 33, 120, .inl R),
   .inl (t 34, 120, .inl R),
   .inl (t 35, 120, .inl R),
   .inl (t 36, 120, .inl R),
   .inl (t 37, 120, .inl R),
   .inl (t 38, 120, .inl R),
   .inl (t 39, 120, .inl R),
   .inl (t 40, 120, .inl R),
   .inl (t 41, 120, .inl R),
   .inl (t 42, 120, .inl R),
   .inr (1, [.ref (ad 1), .int (R 1), .int (R 2), .ref (ad 44), .ref (ad 45), .ref (ad 46), .ref (ad 47), .ref (ad 48), .ref (ad 49), .int (R 9), .ref (ad 50), .ref (ad 51), .ref (ad 52), .ref (ad 53), .ref (ad 54), .ref (ad 55)]),
   .inl (t 44, 121, .inl R),
   .inl (t 45, 121, .inl R),
   .inl (t 46, 120, .inl R),
   .inl (t 47, 120, .inl R),
   .inl (t 48, 120, .inl R),
   .inl (t 49, 120, .inl R),
   .inl (t 50, 120, .inl R),
   .inl (t 51, 120, .inl R),
   .inl (t 52, 120, .inl R),
   .inl (t 53, 120, .inl R),
   .inl (t 54, 120, .inl R),
   .inl (t 55, 120, .inl R),
   .inr (3, [.ref (ad 1), .ref (ad 57), .ref (ad 58), .ref (ad 59), .ref (ad 60)]),
   .inl (t 57, 120, .inl R),
   .inl (t 58, 120, .inl R),
   .inl (t 59, 120, .inl R),
   .inl (t 60, 120, .inl R),
   .inl (t 61, 200, .inl R)]
def xcf (t : Nat → ClassId) (ad : Nat → Nat) : sr_CF := fun k R L D => (xcl t ad R L D).getD k (.inl (t 0, 0, .inl R))
def xty (t : Nat → ClassId) : List (ClassId × FieldType) :=
  [(t 2, .int), (t 3, .boolean), (t 4, .int), (t 5, .int), (t 6, .int), (t 7, .int), (t 8, .int), (t 9, .int), (t 10, .int), (t 11, .object "SeepingRock$Core"), (t 13, .long), (t 14, .byte), (t 16, .long), (t 17, .byte), (t 19, .long), (t 20, .byte), (t 22, .long), (t 23, .byte), (t 25, .long), (t 26, .byte), (t 28, .long), (t 29, .byte), (t 31, .int), (t 32, .int), (t 33, .int), (t 34, .int), (t 35, .int), (t 36, .int), (t 37, .int), (t 38, .int), (t 39, .int), (t 40, .int), (t 41, .int), (t 42, .boolean), (t 44, .int), (t 45, .int), (t 46, .int), (t 47, .int), (t 48, .int), (t 49, .int), (t 50, .int), (t 51, .int), (t 52, .int), (t 53, .int), (t 54, .int), (t 55, .boolean), (t 57, .int), (t 58, .int), (t 59, .int), (t 60, .int), (t 61, .int)]
abbrev xH (D : va_G) (t : Nat → ClassId) (ad : Nat → Nat) (A : Nat → Prop) (s : State) (M : sr_M) (H : Heap) (locs : List Loc) : Prop := sr_H D vwCl (xty t) ad (xcf t ad) 62 A s M H locs
theorem xo_0 (t : Nat → ClassId) (ad : Nat → Nat) : sr_ob vwCl (xcf t ad) 62 0 RX4 := ⟨by decide, 4, (RX4, TX4, 7), fun R => [.ref (ad 1), .ref (ad 11), .ref (ad 30), .ref (ad 43), .ref (ad 56), .ref (ad 61), .int (R 6)], rfl, rfl, fun _ _ _ => rfl⟩
theorem xf_0_0 (t : Nat → ClassId) (ad : Nat → Nat) : sr_fr vwCl (xcf t ad) 62 0 RX4 TX4 7 0 (ad 1) := ⟨by decide, by decide, rfl, 4, fun R => [.ref (ad 1), .ref (ad 11), .ref (ad 30), .ref (ad 43), .ref (ad 56), .ref (ad 61), .int (R 6)], rfl, fun _ _ _ => rfl, fun _ => rfl⟩
theorem xf_0_1 (t : Nat → ClassId) (ad : Nat → Nat) : sr_fr vwCl (xcf t ad) 62 0 RX4 TX4 7 1 (ad 11) := ⟨by decide, by decide, rfl, 4, fun R => [.ref (ad 1), .ref (ad 11), .ref (ad 30), .ref (ad 43), .ref (ad 56), .ref (ad 61), .int (R 6)], rfl, fun _ _ _ => rfl, fun _ => rfl⟩
theorem xf_0_2 (t : Nat → ClassId) (ad : Nat → Nat) : sr_fr vwCl (xcf t ad) 62 0 RX4 TX4 7 2 (ad 30) := ⟨by decide, by decide, rfl, 4, fun R => [.ref (ad 1), .ref (ad 11), .ref (ad 30), .ref (ad 43), .ref (ad 56), .ref (ad 61), .int (R 6)], rfl, fun _ _ _ => rfl, fun _ => rfl⟩
theorem xf_0_3 (t : Nat → ClassId) (ad : Nat → Nat) : sr_fr vwCl (xcf t ad) 62 0 RX4 TX4 7 3 (ad 43) := ⟨by decide, by decide, rfl, 4, fun R => [.ref (ad 1), .ref (ad 11), .ref (ad 30), .ref (ad 43), .ref (ad 56), .ref (ad 61), .int (R 6)], rfl, fun _ _ _ => rfl, fun _ => rfl⟩
theorem xf_0_4 (t : Nat → ClassId) (ad : Nat → Nat) : sr_fr vwCl (xcf t ad) 62 0 RX4 TX4 7 4 (ad 56) := ⟨by decide, by decide, rfl, 4, fun R => [.ref (ad 1), .ref (ad 11), .ref (ad 30), .ref (ad 43), .ref (ad 56), .ref (ad 61), .int (R 6)], rfl, fun _ _ _ => rfl, fun _ => rfl⟩
theorem xf_0_5 (t : Nat → ClassId) (ad : Nat → Nat) : sr_fr vwCl (xcf t ad) 62 0 RX4 TX4 7 5 (ad 61) := ⟨by decide, by decide, rfl, 4, fun R => [.ref (ad 1), .ref (ad 11), .ref (ad 30), .ref (ad 43), .ref (ad 56), .ref (ad 61), .int (R 6)], rfl, fun _ _ _ => rfl, fun _ => rfl⟩
theorem xf_0_6 (t : Nat → ClassId) (ad : Nat → Nat) : sr_fi vwCl (xcf t ad) 62 0 RX4 TX4 7 6 := ⟨by decide, by decide, rfl, 4, fun R => [.ref (ad 1), .ref (ad 11), .ref (ad 30), .ref (ad 43), .ref (ad 56), .ref (ad 61), .int (R 6)], rfl, fun _ _ _ => rfl, fun _ => rfl, fun _ _ => rfl⟩
theorem xo_1 (t : Nat → ClassId) (ad : Nat → Nat) : sr_ob vwCl (xcf t ad) 62 1 RX2 := ⟨by decide, 2, (RX2, TX2, 13), fun R => [.int (R 0), .ref (ad 2), .ref (ad 3), .int (R 3), .ref (ad 4), .ref (ad 5), .ref (ad 6), .ref (ad 7), .ref (ad 8), .int (R 9), .ref (ad 9), .ref (ad 10), .int (R 12)], rfl, rfl, fun _ _ _ => rfl⟩
theorem xf_1_0 (t : Nat → ClassId) (ad : Nat → Nat) : sr_fi vwCl (xcf t ad) 62 1 RX2 TX2 13 0 := ⟨by decide, by decide, rfl, 2, fun R => [.int (R 0), .ref (ad 2), .ref (ad 3), .int (R 3), .ref (ad 4), .ref (ad 5), .ref (ad 6), .ref (ad 7), .ref (ad 8), .int (R 9), .ref (ad 9), .ref (ad 10), .int (R 12)], rfl, fun _ _ _ => rfl, fun _ => rfl, fun _ _ => rfl⟩
theorem xf_1_1 (t : Nat → ClassId) (ad : Nat → Nat) : sr_fr vwCl (xcf t ad) 62 1 RX2 TX2 13 1 (ad 2) := ⟨by decide, by decide, rfl, 2, fun R => [.int (R 0), .ref (ad 2), .ref (ad 3), .int (R 3), .ref (ad 4), .ref (ad 5), .ref (ad 6), .ref (ad 7), .ref (ad 8), .int (R 9), .ref (ad 9), .ref (ad 10), .int (R 12)], rfl, fun _ _ _ => rfl, fun _ => rfl⟩
theorem xf_1_2 (t : Nat → ClassId) (ad : Nat → Nat) : sr_fr vwCl (xcf t ad) 62 1 RX2 TX2 13 2 (ad 3) := ⟨by decide, by decide, rfl, 2, fun R => [.int (R 0), .ref (ad 2), .ref (ad 3), .int (R 3), .ref (ad 4), .ref (ad 5), .ref (ad 6), .ref (ad 7), .ref (ad 8), .int (R 9), .ref (ad 9), .ref (ad 10), .int (R 12)], rfl, fun _ _ _ => rfl, fun _ => rfl⟩
theorem xf_1_3 (t : Nat → ClassId) (ad : Nat → Nat) : sr_fi vwCl (xcf t ad) 62 1 RX2 TX2 13 3 := ⟨by decide, by decide, rfl, 2, fun R => [.int (R 0), .ref (ad 2), .ref (ad 3), .int (R 3), .ref (ad 4), .ref (ad 5), .ref (ad 6), .ref (ad 7), .ref (ad 8), .int (R 9), .ref (ad 9), .ref (ad 10), .int (R 12)], rfl, fun _ _ _ => rfl, fun _ => rfl, fun _ _ => rfl⟩
theorem xf_1_4 (t : Nat → ClassId) (ad : Nat → Nat) : sr_fr vwCl (xcf t ad) 62 1 RX2 TX2 13 4 (ad 4) := ⟨by decide, by decide, rfl, 2, fun R => [.int (R 0), .ref (ad 2), .ref (ad 3), .int (R 3), .ref (ad 4), .ref (ad 5), .ref (ad 6), .ref (ad 7), .ref (ad 8), .int (R 9), .ref (ad 9), .ref (ad 10), .int (R 12)], rfl, fun _ _ _ => rfl, fun _ => rfl⟩
theorem xf_1_5 (t : Nat → ClassId) (ad : Nat → Nat) : sr_fr vwCl (xcf t ad) 62 1 RX2 TX2 13 5 (ad 5) := ⟨by decide, by decide, rfl, 2, fun R => [.int (R 0), .ref (ad 2), .ref (ad 3), .int (R 3), .ref (ad 4), .ref (ad 5), .ref (ad 6), .ref (ad 7), .ref (ad 8), .int (R 9), .ref (ad 9), .ref (ad 10), .int (R 12)], rfl, fun _ _ _ => rfl, fun _ => rfl⟩
theorem xf_1_6 (t : Nat → ClassId) (ad : Nat → Nat) : sr_fr vwCl (xcf t ad) 62 1 RX2 TX2 13 6 (ad 6) := ⟨by decide, by decide, rfl, 2, fun R => [.int (R 0), .ref (ad 2), .ref (ad 3), .int (R 3), .ref (ad 4), .ref (ad 5), .ref (ad 6), .ref (ad 7), .ref (ad 8), .int (R 9), .ref (ad 9), .ref (ad 10), .int (R 12)], rfl, fun _ _ _ => rfl, fun _ => rfl⟩
theorem xf_1_7 (t : Nat → ClassId) (ad : Nat → Nat) : sr_fr vwCl (xcf t ad) 62 1 RX2 TX2 13 7 (ad 7) := ⟨by decide, by decide, rfl, 2, fun R => [.int (R 0), .ref (ad 2), .ref (ad 3), .int (R 3), .ref (ad 4), .ref (ad 5), .ref (ad 6), .ref (ad 7), .ref (ad 8), .int (R 9), .ref (ad 9), .ref (ad 10), .int (R 12)], rfl, fun _ _ _ => rfl, fun _ => rfl⟩
theorem xf_1_8 (t : Nat → ClassId) (ad : Nat → Nat) : sr_fr vwCl (xcf t ad) 62 1 RX2 TX2 13 8 (ad 8) := ⟨by decide, by decide, rfl, 2, fun R => [.int (R 0), .ref (ad 2), .ref (ad 3), .int (R 3), .ref (ad 4), .ref (ad 5), .ref (ad 6), .ref (ad 7), .ref (ad 8), .int (R 9), .ref (ad 9), .ref (ad 10), .int (R 12)], rfl, fun _ _ _ => rfl, fun _ => rfl⟩
theorem xf_1_9 (t : Nat → ClassId) (ad : Nat → Nat) : sr_fi vwCl (xcf t ad) 62 1 RX2 TX2 13 9 := ⟨by decide, by decide, rfl, 2, fun R => [.int (R 0), .ref (ad 2), .ref (ad 3), .int (R 3), .ref (ad 4), .ref (ad 5), .ref (ad 6), .ref (ad 7), .ref (ad 8), .int (R 9), .ref (ad 9), .ref (ad 10), .int (R 12)], rfl, fun _ _ _ => rfl, fun _ => rfl, fun _ _ => rfl⟩
theorem xf_1_10 (t : Nat → ClassId) (ad : Nat → Nat) : sr_fr vwCl (xcf t ad) 62 1 RX2 TX2 13 10 (ad 9) := ⟨by decide, by decide, rfl, 2, fun R => [.int (R 0), .ref (ad 2), .ref (ad 3), .int (R 3), .ref (ad 4), .ref (ad 5), .ref (ad 6), .ref (ad 7), .ref (ad 8), .int (R 9), .ref (ad 9), .ref (ad 10), .int (R 12)], rfl, fun _ _ _ => rfl, fun _ => rfl⟩
theorem xf_1_11 (t : Nat → ClassId) (ad : Nat → Nat) : sr_fr vwCl (xcf t ad) 62 1 RX2 TX2 13 11 (ad 10) := ⟨by decide, by decide, rfl, 2, fun R => [.int (R 0), .ref (ad 2), .ref (ad 3), .int (R 3), .ref (ad 4), .ref (ad 5), .ref (ad 6), .ref (ad 7), .ref (ad 8), .int (R 9), .ref (ad 9), .ref (ad 10), .int (R 12)], rfl, fun _ _ _ => rfl, fun _ => rfl⟩
theorem xf_1_12 (t : Nat → ClassId) (ad : Nat → Nat) : sr_fi vwCl (xcf t ad) 62 1 RX2 TX2 13 12 := ⟨by decide, by decide, rfl, 2, fun R => [.int (R 0), .ref (ad 2), .ref (ad 3), .int (R 3), .ref (ad 4), .ref (ad 5), .ref (ad 6), .ref (ad 7), .ref (ad 8), .int (R 9), .ref (ad 9), .ref (ad 10), .int (R 12)], rfl, fun _ _ _ => rfl, fun _ => rfl, fun _ _ => rfl⟩
theorem xa_2 (t : Nat → ClassId) (ad : Nat → Nat) : sr_ia (xcf t ad) (xty t) 62 2 120 .int := ⟨by decide, t 2, 0, fun _ _ _ => rfl, rfl⟩
theorem xa_3 (t : Nat → ClassId) (ad : Nat → Nat) : sr_ia (xcf t ad) (xty t) 62 3 120 .boolean := ⟨by decide, t 3, 1, fun _ _ _ => rfl, rfl⟩
theorem xa_4 (t : Nat → ClassId) (ad : Nat → Nat) : sr_ia (xcf t ad) (xty t) 62 4 300 .int := ⟨by decide, t 4, 2, fun _ _ _ => rfl, rfl⟩
theorem xa_5 (t : Nat → ClassId) (ad : Nat → Nat) : sr_ia (xcf t ad) (xty t) 62 5 300 .int := ⟨by decide, t 5, 3, fun _ _ _ => rfl, rfl⟩
theorem xa_6 (t : Nat → ClassId) (ad : Nat → Nat) : sr_ia (xcf t ad) (xty t) 62 6 300 .int := ⟨by decide, t 6, 4, fun _ _ _ => rfl, rfl⟩
theorem xa_7 (t : Nat → ClassId) (ad : Nat → Nat) : sr_ia (xcf t ad) (xty t) 62 7 300 .int := ⟨by decide, t 7, 5, fun _ _ _ => rfl, rfl⟩
theorem xa_8 (t : Nat → ClassId) (ad : Nat → Nat) : sr_ia (xcf t ad) (xty t) 62 8 300 .int := ⟨by decide, t 8, 6, fun _ _ _ => rfl, rfl⟩
theorem xa_9 (t : Nat → ClassId) (ad : Nat → Nat) : sr_ia (xcf t ad) (xty t) 62 9 121 .int := ⟨by decide, t 9, 7, fun _ _ _ => rfl, rfl⟩
theorem xa_10 (t : Nat → ClassId) (ad : Nat → Nat) : sr_ia (xcf t ad) (xty t) 62 10 600 .int := ⟨by decide, t 10, 8, fun _ _ _ => rfl, rfl⟩
theorem xq_11 (t : Nat → ClassId) (ad : Nat → Nat) : sr_qa (xcf t ad) (xty t) 62 11 6 "SeepingRock$Core" (fun i => if i < 6 then some (ad (12 + 3 * i)) else none) := ⟨by decide, t 11, 9, fun _ _ _ => rfl, rfl⟩
theorem xo_12 (t : Nat → ClassId) (ad : Nat → Nat) : sr_ob vwCl (xcf t ad) 62 12 RX0 := ⟨by decide, 0, (RX0, TX0, 5), fun R => [.int (R 0), .int (R 1), .int (R 2), .ref (ad 13), .ref (ad 14)], rfl, rfl, fun _ _ _ => rfl⟩
theorem xf_12_0 (t : Nat → ClassId) (ad : Nat → Nat) : sr_fi vwCl (xcf t ad) 62 12 RX0 TX0 5 0 := ⟨by decide, by decide, rfl, 0, fun R => [.int (R 0), .int (R 1), .int (R 2), .ref (ad 13), .ref (ad 14)], rfl, fun _ _ _ => rfl, fun _ => rfl, fun _ _ => rfl⟩
theorem xf_12_1 (t : Nat → ClassId) (ad : Nat → Nat) : sr_fi vwCl (xcf t ad) 62 12 RX0 TX0 5 1 := ⟨by decide, by decide, rfl, 0, fun R => [.int (R 0), .int (R 1), .int (R 2), .ref (ad 13), .ref (ad 14)], rfl, fun _ _ _ => rfl, fun _ => rfl, fun _ _ => rfl⟩
theorem xf_12_2 (t : Nat → ClassId) (ad : Nat → Nat) : sr_fi vwCl (xcf t ad) 62 12 RX0 TX0 5 2 := ⟨by decide, by decide, rfl, 0, fun R => [.int (R 0), .int (R 1), .int (R 2), .ref (ad 13), .ref (ad 14)], rfl, fun _ _ _ => rfl, fun _ => rfl, fun _ _ => rfl⟩
theorem xf_12_3 (t : Nat → ClassId) (ad : Nat → Nat) : sr_fr vwCl (xcf t ad) 62 12 RX0 TX0 5 3 (ad 13) := ⟨by decide, by decide, rfl, 0, fun R => [.int (R 0), .int (R 1), .int (R 2), .ref (ad 13), .ref (ad 14)], rfl, fun _ _ _ => rfl, fun _ => rfl⟩
theorem xf_12_4 (t : Nat → ClassId) (ad : Nat → Nat) : sr_fr vwCl (xcf t ad) 62 12 RX0 TX0 5 4 (ad 14) := ⟨by decide, by decide, rfl, 0, fun R => [.int (R 0), .int (R 1), .int (R 2), .ref (ad 13), .ref (ad 14)], rfl, fun _ _ _ => rfl, fun _ => rfl⟩
theorem xa_13 (t : Nat → ClassId) (ad : Nat → Nat) : sr_ja (xcf t ad) (xty t) 62 13 60 := ⟨by decide, t 13, 10, fun _ _ _ => rfl, rfl⟩
theorem xa_14 (t : Nat → ClassId) (ad : Nat → Nat) : sr_ia (xcf t ad) (xty t) 62 14 60 .byte := ⟨by decide, t 14, 11, fun _ _ _ => rfl, rfl⟩
theorem xo_15 (t : Nat → ClassId) (ad : Nat → Nat) : sr_ob vwCl (xcf t ad) 62 15 RX0 := ⟨by decide, 0, (RX0, TX0, 5), fun R => [.int (R 0), .int (R 1), .int (R 2), .ref (ad 16), .ref (ad 17)], rfl, rfl, fun _ _ _ => rfl⟩
theorem xf_15_0 (t : Nat → ClassId) (ad : Nat → Nat) : sr_fi vwCl (xcf t ad) 62 15 RX0 TX0 5 0 := ⟨by decide, by decide, rfl, 0, fun R => [.int (R 0), .int (R 1), .int (R 2), .ref (ad 16), .ref (ad 17)], rfl, fun _ _ _ => rfl, fun _ => rfl, fun _ _ => rfl⟩
theorem xf_15_1 (t : Nat → ClassId) (ad : Nat → Nat) : sr_fi vwCl (xcf t ad) 62 15 RX0 TX0 5 1 := ⟨by decide, by decide, rfl, 0, fun R => [.int (R 0), .int (R 1), .int (R 2), .ref (ad 16), .ref (ad 17)], rfl, fun _ _ _ => rfl, fun _ => rfl, fun _ _ => rfl⟩
theorem xf_15_2 (t : Nat → ClassId) (ad : Nat → Nat) : sr_fi vwCl (xcf t ad) 62 15 RX0 TX0 5 2 := ⟨by decide, by decide, rfl, 0, fun R => [.int (R 0), .int (R 1), .int (R 2), .ref (ad 16), .ref (ad 17)], rfl, fun _ _ _ => rfl, fun _ => rfl, fun _ _ => rfl⟩
theorem xf_15_3 (t : Nat → ClassId) (ad : Nat → Nat) : sr_fr vwCl (xcf t ad) 62 15 RX0 TX0 5 3 (ad 16) := ⟨by decide, by decide, rfl, 0, fun R => [.int (R 0), .int (R 1), .int (R 2), .ref (ad 16), .ref (ad 17)], rfl, fun _ _ _ => rfl, fun _ => rfl⟩
theorem xf_15_4 (t : Nat → ClassId) (ad : Nat → Nat) : sr_fr vwCl (xcf t ad) 62 15 RX0 TX0 5 4 (ad 17) := ⟨by decide, by decide, rfl, 0, fun R => [.int (R 0), .int (R 1), .int (R 2), .ref (ad 16), .ref (ad 17)], rfl, fun _ _ _ => rfl, fun _ => rfl⟩
theorem xa_16 (t : Nat → ClassId) (ad : Nat → Nat) : sr_ja (xcf t ad) (xty t) 62 16 60 := ⟨by decide, t 16, 12, fun _ _ _ => rfl, rfl⟩
theorem xa_17 (t : Nat → ClassId) (ad : Nat → Nat) : sr_ia (xcf t ad) (xty t) 62 17 60 .byte := ⟨by decide, t 17, 13, fun _ _ _ => rfl, rfl⟩
theorem xo_18 (t : Nat → ClassId) (ad : Nat → Nat) : sr_ob vwCl (xcf t ad) 62 18 RX0 := ⟨by decide, 0, (RX0, TX0, 5), fun R => [.int (R 0), .int (R 1), .int (R 2), .ref (ad 19), .ref (ad 20)], rfl, rfl, fun _ _ _ => rfl⟩
theorem xf_18_0 (t : Nat → ClassId) (ad : Nat → Nat) : sr_fi vwCl (xcf t ad) 62 18 RX0 TX0 5 0 := ⟨by decide, by decide, rfl, 0, fun R => [.int (R 0), .int (R 1), .int (R 2), .ref (ad 19), .ref (ad 20)], rfl, fun _ _ _ => rfl, fun _ => rfl, fun _ _ => rfl⟩
theorem xf_18_1 (t : Nat → ClassId) (ad : Nat → Nat) : sr_fi vwCl (xcf t ad) 62 18 RX0 TX0 5 1 := ⟨by decide, by decide, rfl, 0, fun R => [.int (R 0), .int (R 1), .int (R 2), .ref (ad 19), .ref (ad 20)], rfl, fun _ _ _ => rfl, fun _ => rfl, fun _ _ => rfl⟩
theorem xf_18_2 (t : Nat → ClassId) (ad : Nat → Nat) : sr_fi vwCl (xcf t ad) 62 18 RX0 TX0 5 2 := ⟨by decide, by decide, rfl, 0, fun R => [.int (R 0), .int (R 1), .int (R 2), .ref (ad 19), .ref (ad 20)], rfl, fun _ _ _ => rfl, fun _ => rfl, fun _ _ => rfl⟩
theorem xf_18_3 (t : Nat → ClassId) (ad : Nat → Nat) : sr_fr vwCl (xcf t ad) 62 18 RX0 TX0 5 3 (ad 19) := ⟨by decide, by decide, rfl, 0, fun R => [.int (R 0), .int (R 1), .int (R 2), .ref (ad 19), .ref (ad 20)], rfl, fun _ _ _ => rfl, fun _ => rfl⟩
theorem xf_18_4 (t : Nat → ClassId) (ad : Nat → Nat) : sr_fr vwCl (xcf t ad) 62 18 RX0 TX0 5 4 (ad 20) := ⟨by decide, by decide, rfl, 0, fun R => [.int (R 0), .int (R 1), .int (R 2), .ref (ad 19), .ref (ad 20)], rfl, fun _ _ _ => rfl, fun _ => rfl⟩
theorem xa_19 (t : Nat → ClassId) (ad : Nat → Nat) : sr_ja (xcf t ad) (xty t) 62 19 60 := ⟨by decide, t 19, 14, fun _ _ _ => rfl, rfl⟩
theorem xa_20 (t : Nat → ClassId) (ad : Nat → Nat) : sr_ia (xcf t ad) (xty t) 62 20 60 .byte := ⟨by decide, t 20, 15, fun _ _ _ => rfl, rfl⟩
theorem xo_21 (t : Nat → ClassId) (ad : Nat → Nat) : sr_ob vwCl (xcf t ad) 62 21 RX0 := ⟨by decide, 0, (RX0, TX0, 5), fun R => [.int (R 0), .int (R 1), .int (R 2), .ref (ad 22), .ref (ad 23)], rfl, rfl, fun _ _ _ => rfl⟩
theorem xf_21_0 (t : Nat → ClassId) (ad : Nat → Nat) : sr_fi vwCl (xcf t ad) 62 21 RX0 TX0 5 0 := ⟨by decide, by decide, rfl, 0, fun R => [.int (R 0), .int (R 1), .int (R 2), .ref (ad 22), .ref (ad 23)], rfl, fun _ _ _ => rfl, fun _ => rfl, fun _ _ => rfl⟩
theorem xf_21_1 (t : Nat → ClassId) (ad : Nat → Nat) : sr_fi vwCl (xcf t ad) 62 21 RX0 TX0 5 1 := ⟨by decide, by decide, rfl, 0, fun R => [.int (R 0), .int (R 1), .int (R 2), .ref (ad 22), .ref (ad 23)], rfl, fun _ _ _ => rfl, fun _ => rfl, fun _ _ => rfl⟩
theorem xf_21_2 (t : Nat → ClassId) (ad : Nat → Nat) : sr_fi vwCl (xcf t ad) 62 21 RX0 TX0 5 2 := ⟨by decide, by decide, rfl, 0, fun R => [.int (R 0), .int (R 1), .int (R 2), .ref (ad 22), .ref (ad 23)], rfl, fun _ _ _ => rfl, fun _ => rfl, fun _ _ => rfl⟩
theorem xf_21_3 (t : Nat → ClassId) (ad : Nat → Nat) : sr_fr vwCl (xcf t ad) 62 21 RX0 TX0 5 3 (ad 22) := ⟨by decide, by decide, rfl, 0, fun R => [.int (R 0), .int (R 1), .int (R 2), .ref (ad 22), .ref (ad 23)], rfl, fun _ _ _ => rfl, fun _ => rfl⟩
theorem xf_21_4 (t : Nat → ClassId) (ad : Nat → Nat) : sr_fr vwCl (xcf t ad) 62 21 RX0 TX0 5 4 (ad 23) := ⟨by decide, by decide, rfl, 0, fun R => [.int (R 0), .int (R 1), .int (R 2), .ref (ad 22), .ref (ad 23)], rfl, fun _ _ _ => rfl, fun _ => rfl⟩
theorem xa_22 (t : Nat → ClassId) (ad : Nat → Nat) : sr_ja (xcf t ad) (xty t) 62 22 60 := ⟨by decide, t 22, 16, fun _ _ _ => rfl, rfl⟩
theorem xa_23 (t : Nat → ClassId) (ad : Nat → Nat) : sr_ia (xcf t ad) (xty t) 62 23 60 .byte := ⟨by decide, t 23, 17, fun _ _ _ => rfl, rfl⟩
theorem xo_24 (t : Nat → ClassId) (ad : Nat → Nat) : sr_ob vwCl (xcf t ad) 62 24 RX0 := ⟨by decide, 0, (RX0, TX0, 5), fun R => [.int (R 0), .int (R 1), .int (R 2), .ref (ad 25), .ref (ad 26)], rfl, rfl, fun _ _ _ => rfl⟩
theorem xf_24_0 (t : Nat → ClassId) (ad : Nat → Nat) : sr_fi vwCl (xcf t ad) 62 24 RX0 TX0 5 0 := ⟨by decide, by decide, rfl, 0, fun R => [.int (R 0), .int (R 1), .int (R 2), .ref (ad 25), .ref (ad 26)], rfl, fun _ _ _ => rfl, fun _ => rfl, fun _ _ => rfl⟩
theorem xf_24_1 (t : Nat → ClassId) (ad : Nat → Nat) : sr_fi vwCl (xcf t ad) 62 24 RX0 TX0 5 1 := ⟨by decide, by decide, rfl, 0, fun R => [.int (R 0), .int (R 1), .int (R 2), .ref (ad 25), .ref (ad 26)], rfl, fun _ _ _ => rfl, fun _ => rfl, fun _ _ => rfl⟩
theorem xf_24_2 (t : Nat → ClassId) (ad : Nat → Nat) : sr_fi vwCl (xcf t ad) 62 24 RX0 TX0 5 2 := ⟨by decide, by decide, rfl, 0, fun R => [.int (R 0), .int (R 1), .int (R 2), .ref (ad 25), .ref (ad 26)], rfl, fun _ _ _ => rfl, fun _ => rfl, fun _ _ => rfl⟩
theorem xf_24_3 (t : Nat → ClassId) (ad : Nat → Nat) : sr_fr vwCl (xcf t ad) 62 24 RX0 TX0 5 3 (ad 25) := ⟨by decide, by decide, rfl, 0, fun R => [.int (R 0), .int (R 1), .int (R 2), .ref (ad 25), .ref (ad 26)], rfl, fun _ _ _ => rfl, fun _ => rfl⟩
theorem xf_24_4 (t : Nat → ClassId) (ad : Nat → Nat) : sr_fr vwCl (xcf t ad) 62 24 RX0 TX0 5 4 (ad 26) := ⟨by decide, by decide, rfl, 0, fun R => [.int (R 0), .int (R 1), .int (R 2), .ref (ad 25), .ref (ad 26)], rfl, fun _ _ _ => rfl, fun _ => rfl⟩
theorem xa_25 (t : Nat → ClassId) (ad : Nat → Nat) : sr_ja (xcf t ad) (xty t) 62 25 60 := ⟨by decide, t 25, 18, fun _ _ _ => rfl, rfl⟩
theorem xa_26 (t : Nat → ClassId) (ad : Nat → Nat) : sr_ia (xcf t ad) (xty t) 62 26 60 .byte := ⟨by decide, t 26, 19, fun _ _ _ => rfl, rfl⟩
theorem xo_27 (t : Nat → ClassId) (ad : Nat → Nat) : sr_ob vwCl (xcf t ad) 62 27 RX0 := ⟨by decide, 0, (RX0, TX0, 5), fun R => [.int (R 0), .int (R 1), .int (R 2), .ref (ad 28), .ref (ad 29)], rfl, rfl, fun _ _ _ => rfl⟩
theorem xf_27_0 (t : Nat → ClassId) (ad : Nat → Nat) : sr_fi vwCl (xcf t ad) 62 27 RX0 TX0 5 0 := ⟨by decide, by decide, rfl, 0, fun R => [.int (R 0), .int (R 1), .int (R 2), .ref (ad 28), .ref (ad 29)], rfl, fun _ _ _ => rfl, fun _ => rfl, fun _ _ => rfl⟩
theorem xf_27_1 (t : Nat → ClassId) (ad : Nat → Nat) : sr_fi vwCl (xcf t ad) 62 27 RX0 TX0 5 1 := ⟨by decide, by decide, rfl, 0, fun R => [.int (R 0), .int (R 1), .int (R 2), .ref (ad 28), .ref (ad 29)], rfl, fun _ _ _ => rfl, fun _ => rfl, fun _ _ => rfl⟩
theorem xf_27_2 (t : Nat → ClassId) (ad : Nat → Nat) : sr_fi vwCl (xcf t ad) 62 27 RX0 TX0 5 2 := ⟨by decide, by decide, rfl, 0, fun R => [.int (R 0), .int (R 1), .int (R 2), .ref (ad 28), .ref (ad 29)], rfl, fun _ _ _ => rfl, fun _ => rfl, fun _ _ => rfl⟩
theorem xf_27_3 (t : Nat → ClassId) (ad : Nat → Nat) : sr_fr vwCl (xcf t ad) 62 27 RX0 TX0 5 3 (ad 28) := ⟨by decide, by decide, rfl, 0, fun R => [.int (R 0), .int (R 1), .int (R 2), .ref (ad 28), .ref (ad 29)], rfl, fun _ _ _ => rfl, fun _ => rfl⟩
theorem xf_27_4 (t : Nat → ClassId) (ad : Nat → Nat) : sr_fr vwCl (xcf t ad) 62 27 RX0 TX0 5 4 (ad 29) := ⟨by decide, by decide, rfl, 0, fun R => [.int (R 0), .int (R 1), .int (R 2), .ref (ad 28), .ref (ad 29)], rfl, fun _ _ _ => rfl, fun _ => rfl⟩
theorem xa_28 (t : Nat → ClassId) (ad : Nat → Nat) : sr_ja (xcf t ad) (xty t) 62 28 60 := ⟨by decide, t 28, 20, fun _ _ _ => rfl, rfl⟩
theorem xa_29 (t : Nat → ClassId) (ad : Nat → Nat) : sr_ia (xcf t ad) (xty t) 62 29 60 .byte := ⟨by decide, t 29, 21, fun _ _ _ => rfl, rfl⟩
theorem xo_30 (t : Nat → ClassId) (ad : Nat → Nat) : sr_ob vwCl (xcf t ad) 62 30 RX1 := ⟨by decide, 1, (RX1, TX1, 16), fun R => [.ref (ad 1), .int (R 1), .int (R 2), .ref (ad 31), .ref (ad 32), .ref (ad 33), .ref (ad 34), .ref (ad 35), .ref (ad 36), .int (R 9), .ref (ad 37), .ref (ad 38), .ref (ad 39), .ref (ad 40), .ref (ad 41), .ref (ad 42)], rfl, rfl, fun _ _ _ => rfl⟩
theorem xf_30_0 (t : Nat → ClassId) (ad : Nat → Nat) : sr_fr vwCl (xcf t ad) 62 30 RX1 TX1 16 0 (ad 1) := ⟨by decide, by decide, rfl, 1, fun R => [.ref (ad 1), .int (R 1), .int (R 2), .ref (ad 31), .ref (ad 32), .ref (ad 33), .ref (ad 34), .ref (ad 35), .ref (ad 36), .int (R 9), .ref (ad 37), .ref (ad 38), .ref (ad 39), .ref (ad 40), .ref (ad 41), .ref (ad 42)], rfl, fun _ _ _ => rfl, fun _ => rfl⟩
theorem xf_30_1 (t : Nat → ClassId) (ad : Nat → Nat) : sr_fi vwCl (xcf t ad) 62 30 RX1 TX1 16 1 := ⟨by decide, by decide, rfl, 1, fun R => [.ref (ad 1), .int (R 1), .int (R 2), .ref (ad 31), .ref (ad 32), .ref (ad 33), .ref (ad 34), .ref (ad 35), .ref (ad 36), .int (R 9), .ref (ad 37), .ref (ad 38), .ref (ad 39), .ref (ad 40), .ref (ad 41), .ref (ad 42)], rfl, fun _ _ _ => rfl, fun _ => rfl, fun _ _ => rfl⟩
theorem xf_30_2 (t : Nat → ClassId) (ad : Nat → Nat) : sr_fi vwCl (xcf t ad) 62 30 RX1 TX1 16 2 := ⟨by decide, by decide, rfl, 1, fun R => [.ref (ad 1), .int (R 1), .int (R 2), .ref (ad 31), .ref (ad 32), .ref (ad 33), .ref (ad 34), .ref (ad 35), .ref (ad 36), .int (R 9), .ref (ad 37), .ref (ad 38), .ref (ad 39), .ref (ad 40), .ref (ad 41), .ref (ad 42)], rfl, fun _ _ _ => rfl, fun _ => rfl, fun _ _ => rfl⟩
theorem xf_30_3 (t : Nat → ClassId) (ad : Nat → Nat) : sr_fr vwCl (xcf t ad) 62 30 RX1 TX1 16 3 (ad 31) := ⟨by decide, by decide, rfl, 1, fun R => [.ref (ad 1), .int (R 1), .int (R 2), .ref (ad 31), .ref (ad 32), .ref (ad 33), .ref (ad 34), .ref (ad 35), .ref (ad 36), .int (R 9), .ref (ad 37), .ref (ad 38), .ref (ad 39), .ref (ad 40), .ref (ad 41), .ref (ad 42)], rfl, fun _ _ _ => rfl, fun _ => rfl⟩
theorem xf_30_4 (t : Nat → ClassId) (ad : Nat → Nat) : sr_fr vwCl (xcf t ad) 62 30 RX1 TX1 16 4 (ad 32) := ⟨by decide, by decide, rfl, 1, fun R => [.ref (ad 1), .int (R 1), .int (R 2), .ref (ad 31), .ref (ad 32), .ref (ad 33), .ref (ad 34), .ref (ad 35), .ref (ad 36), .int (R 9), .ref (ad 37), .ref (ad 38), .ref (ad 39), .ref (ad 40), .ref (ad 41), .ref (ad 42)], rfl, fun _ _ _ => rfl, fun _ => rfl⟩
theorem xf_30_5 (t : Nat → ClassId) (ad : Nat → Nat) : sr_fr vwCl (xcf t ad) 62 30 RX1 TX1 16 5 (ad 33) := ⟨by decide, by decide, rfl, 1, fun R => [.ref (ad 1), .int (R 1), .int (R 2), .ref (ad 31), .ref (ad 32), .ref (ad 33), .ref (ad 34), .ref (ad 35), .ref (ad 36), .int (R 9), .ref (ad 37), .ref (ad 38), .ref (ad 39), .ref (ad 40), .ref (ad 41), .ref (ad 42)], rfl, fun _ _ _ => rfl, fun _ => rfl⟩
theorem xf_30_6 (t : Nat → ClassId) (ad : Nat → Nat) : sr_fr vwCl (xcf t ad) 62 30 RX1 TX1 16 6 (ad 34) := ⟨by decide, by decide, rfl, 1, fun R => [.ref (ad 1), .int (R 1), .int (R 2), .ref (ad 31), .ref (ad 32), .ref (ad 33), .ref (ad 34), .ref (ad 35), .ref (ad 36), .int (R 9), .ref (ad 37), .ref (ad 38), .ref (ad 39), .ref (ad 40), .ref (ad 41), .ref (ad 42)], rfl, fun _ _ _ => rfl, fun _ => rfl⟩
theorem xf_30_7 (t : Nat → ClassId) (ad : Nat → Nat) : sr_fr vwCl (xcf t ad) 62 30 RX1 TX1 16 7 (ad 35) := ⟨by decide, by decide, rfl, 1, fun R => [.ref (ad 1), .int (R 1), .int (R 2), .ref (ad 31), .ref (ad 32), .ref (ad 33), .ref (ad 34), .ref (ad 35), .ref (ad 36), .int (R 9), .ref (ad 37), .ref (ad 38), .ref (ad 39), .ref (ad 40), .ref (ad 41), .ref (ad 42)], rfl, fun _ _ _ => rfl, fun _ => rfl⟩
theorem xf_30_8 (t : Nat → ClassId) (ad : Nat → Nat) : sr_fr vwCl (xcf t ad) 62 30 RX1 TX1 16 8 (ad 36) := ⟨by decide, by decide, rfl, 1, fun R => [.ref (ad 1), .int (R 1), .int (R 2), .ref (ad 31), .ref (ad 32), .ref (ad 33), .ref (ad 34), .ref (ad 35), .ref (ad 36), .int (R 9), .ref (ad 37), .ref (ad 38), .ref (ad 39), .ref (ad 40), .ref (ad 41), .ref (ad 42)], rfl, fun _ _ _ => rfl, fun _ => rfl⟩
theorem xf_30_9 (t : Nat → ClassId) (ad : Nat → Nat) : sr_fi vwCl (xcf t ad) 62 30 RX1 TX1 16 9 := ⟨by decide, by decide, rfl, 1, fun R => [.ref (ad 1), .int (R 1), .int (R 2), .ref (ad 31), .ref (ad 32), .ref (ad 33), .ref (ad 34), .ref (ad 35), .ref (ad 36), .int (R 9), .ref (ad 37), .ref (ad 38), .ref (ad 39), .ref (ad 40), .ref (ad 41), .ref (ad 42)], rfl, fun _ _ _ => rfl, fun _ => rfl, fun _ _ => rfl⟩
theorem xf_30_10 (t : Nat → ClassId) (ad : Nat → Nat) : sr_fr vwCl (xcf t ad) 62 30 RX1 TX1 16 10 (ad 37) := ⟨by decide, by decide, rfl, 1, fun R => [.ref (ad 1), .int (R 1), .int (R 2), .ref (ad 31), .ref (ad 32), .ref (ad 33), .ref (ad 34), .ref (ad 35), .ref (ad 36), .int (R 9), .ref (ad 37), .ref (ad 38), .ref (ad 39), .ref (ad 40), .ref (ad 41), .ref (ad 42)], rfl, fun _ _ _ => rfl, fun _ => rfl⟩
theorem xf_30_11 (t : Nat → ClassId) (ad : Nat → Nat) : sr_fr vwCl (xcf t ad) 62 30 RX1 TX1 16 11 (ad 38) := ⟨by decide, by decide, rfl, 1, fun R => [.ref (ad 1), .int (R 1), .int (R 2), .ref (ad 31), .ref (ad 32), .ref (ad 33), .ref (ad 34), .ref (ad 35), .ref (ad 36), .int (R 9), .ref (ad 37), .ref (ad 38), .ref (ad 39), .ref (ad 40), .ref (ad 41), .ref (ad 42)], rfl, fun _ _ _ => rfl, fun _ => rfl⟩
theorem xf_30_12 (t : Nat → ClassId) (ad : Nat → Nat) : sr_fr vwCl (xcf t ad) 62 30 RX1 TX1 16 12 (ad 39) := ⟨by decide, by decide, rfl, 1, fun R => [.ref (ad 1), .int (R 1), .int (R 2), .ref (ad 31), .ref (ad 32), .ref (ad 33), .ref (ad 34), .ref (ad 35), .ref (ad 36), .int (R 9), .ref (ad 37), .ref (ad 38), .ref (ad 39), .ref (ad 40), .ref (ad 41), .ref (ad 42)], rfl, fun _ _ _ => rfl, fun _ => rfl⟩
theorem xf_30_13 (t : Nat → ClassId) (ad : Nat → Nat) : sr_fr vwCl (xcf t ad) 62 30 RX1 TX1 16 13 (ad 40) := ⟨by decide, by decide, rfl, 1, fun R => [.ref (ad 1), .int (R 1), .int (R 2), .ref (ad 31), .ref (ad 32), .ref (ad 33), .ref (ad 34), .ref (ad 35), .ref (ad 36), .int (R 9), .ref (ad 37), .ref (ad 38), .ref (ad 39), .ref (ad 40), .ref (ad 41), .ref (ad 42)], rfl, fun _ _ _ => rfl, fun _ => rfl⟩
theorem xf_30_14 (t : Nat → ClassId) (ad : Nat → Nat) : sr_fr vwCl (xcf t ad) 62 30 RX1 TX1 16 14 (ad 41) := ⟨by decide, by decide, rfl, 1, fun R => [.ref (ad 1), .int (R 1), .int (R 2), .ref (ad 31), .ref (ad 32), .ref (ad 33), .ref (ad 34), .ref (ad 35), .ref (ad 36), .int (R 9), .ref (ad 37), .ref (ad 38), .ref (ad 39), .ref (ad 40), .ref (ad 41), .ref (ad 42)], rfl, fun _ _ _ => rfl, fun _ => rfl⟩
theorem xf_30_15 (t : Nat → ClassId) (ad : Nat → Nat) : sr_fr vwCl (xcf t ad) 62 30 RX1 TX1 16 15 (ad 42) := ⟨by decide, by decide, rfl, 1, fun R => [.ref (ad 1), .int (R 1), .int (R 2), .ref (ad 31), .ref (ad 32), .ref (ad 33), .ref (ad 34), .ref (ad 35), .ref (ad 36), .int (R 9), .ref (ad 37), .ref (ad 38), .ref (ad 39), .ref (ad 40), .ref (ad 41), .ref (ad 42)], rfl, fun _ _ _ => rfl, fun _ => rfl⟩
theorem xa_31 (t : Nat → ClassId) (ad : Nat → Nat) : sr_ia (xcf t ad) (xty t) 62 31 121 .int := ⟨by decide, t 31, 22, fun _ _ _ => rfl, rfl⟩
theorem xa_32 (t : Nat → ClassId) (ad : Nat → Nat) : sr_ia (xcf t ad) (xty t) 62 32 121 .int := ⟨by decide, t 32, 23, fun _ _ _ => rfl, rfl⟩
theorem xa_33 (t : Nat → ClassId) (ad : Nat → Nat) : sr_ia (xcf t ad) (xty t) 62 33 120 .int := ⟨by decide, t 33, 24, fun _ _ _ => rfl, rfl⟩
theorem xa_34 (t : Nat → ClassId) (ad : Nat → Nat) : sr_ia (xcf t ad) (xty t) 62 34 120 .int := ⟨by decide, t 34, 25, fun _ _ _ => rfl, rfl⟩
theorem xa_35 (t : Nat → ClassId) (ad : Nat → Nat) : sr_ia (xcf t ad) (xty t) 62 35 120 .int := ⟨by decide, t 35, 26, fun _ _ _ => rfl, rfl⟩
theorem xa_36 (t : Nat → ClassId) (ad : Nat → Nat) : sr_ia (xcf t ad) (xty t) 62 36 120 .int := ⟨by decide, t 36, 27, fun _ _ _ => rfl, rfl⟩
theorem xa_37 (t : Nat → ClassId) (ad : Nat → Nat) : sr_ia (xcf t ad) (xty t) 62 37 120 .int := ⟨by decide, t 37, 28, fun _ _ _ => rfl, rfl⟩
theorem xa_38 (t : Nat → ClassId) (ad : Nat → Nat) : sr_ia (xcf t ad) (xty t) 62 38 120 .int := ⟨by decide, t 38, 29, fun _ _ _ => rfl, rfl⟩
theorem xa_39 (t : Nat → ClassId) (ad : Nat → Nat) : sr_ia (xcf t ad) (xty t) 62 39 120 .int := ⟨by decide, t 39, 30, fun _ _ _ => rfl, rfl⟩
theorem xa_40 (t : Nat → ClassId) (ad : Nat → Nat) : sr_ia (xcf t ad) (xty t) 62 40 120 .int := ⟨by decide, t 40, 31, fun _ _ _ => rfl, rfl⟩
theorem xa_41 (t : Nat → ClassId) (ad : Nat → Nat) : sr_ia (xcf t ad) (xty t) 62 41 120 .int := ⟨by decide, t 41, 32, fun _ _ _ => rfl, rfl⟩
theorem xa_42 (t : Nat → ClassId) (ad : Nat → Nat) : sr_ia (xcf t ad) (xty t) 62 42 120 .boolean := ⟨by decide, t 42, 33, fun _ _ _ => rfl, rfl⟩
theorem xo_43 (t : Nat → ClassId) (ad : Nat → Nat) : sr_ob vwCl (xcf t ad) 62 43 RX1 := ⟨by decide, 1, (RX1, TX1, 16), fun R => [.ref (ad 1), .int (R 1), .int (R 2), .ref (ad 44), .ref (ad 45), .ref (ad 46), .ref (ad 47), .ref (ad 48), .ref (ad 49), .int (R 9), .ref (ad 50), .ref (ad 51), .ref (ad 52), .ref (ad 53), .ref (ad 54), .ref (ad 55)], rfl, rfl, fun _ _ _ => rfl⟩
theorem xf_43_0 (t : Nat → ClassId) (ad : Nat → Nat) : sr_fr vwCl (xcf t ad) 62 43 RX1 TX1 16 0 (ad 1) := ⟨by decide, by decide, rfl, 1, fun R => [.ref (ad 1), .int (R 1), .int (R 2), .ref (ad 44), .ref (ad 45), .ref (ad 46), .ref (ad 47), .ref (ad 48), .ref (ad 49), .int (R 9), .ref (ad 50), .ref (ad 51), .ref (ad 52), .ref (ad 53), .ref (ad 54), .ref (ad 55)], rfl, fun _ _ _ => rfl, fun _ => rfl⟩
theorem xf_43_1 (t : Nat → ClassId) (ad : Nat → Nat) : sr_fi vwCl (xcf t ad) 62 43 RX1 TX1 16 1 := ⟨by decide, by decide, rfl, 1, fun R => [.ref (ad 1), .int (R 1), .int (R 2), .ref (ad 44), .ref (ad 45), .ref (ad 46), .ref (ad 47), .ref (ad 48), .ref (ad 49), .int (R 9), .ref (ad 50), .ref (ad 51), .ref (ad 52), .ref (ad 53), .ref (ad 54), .ref (ad 55)], rfl, fun _ _ _ => rfl, fun _ => rfl, fun _ _ => rfl⟩
theorem xf_43_2 (t : Nat → ClassId) (ad : Nat → Nat) : sr_fi vwCl (xcf t ad) 62 43 RX1 TX1 16 2 := ⟨by decide, by decide, rfl, 1, fun R => [.ref (ad 1), .int (R 1), .int (R 2), .ref (ad 44), .ref (ad 45), .ref (ad 46), .ref (ad 47), .ref (ad 48), .ref (ad 49), .int (R 9), .ref (ad 50), .ref (ad 51), .ref (ad 52), .ref (ad 53), .ref (ad 54), .ref (ad 55)], rfl, fun _ _ _ => rfl, fun _ => rfl, fun _ _ => rfl⟩
theorem xf_43_3 (t : Nat → ClassId) (ad : Nat → Nat) : sr_fr vwCl (xcf t ad) 62 43 RX1 TX1 16 3 (ad 44) := ⟨by decide, by decide, rfl, 1, fun R => [.ref (ad 1), .int (R 1), .int (R 2), .ref (ad 44), .ref (ad 45), .ref (ad 46), .ref (ad 47), .ref (ad 48), .ref (ad 49), .int (R 9), .ref (ad 50), .ref (ad 51), .ref (ad 52), .ref (ad 53), .ref (ad 54), .ref (ad 55)], rfl, fun _ _ _ => rfl, fun _ => rfl⟩
theorem xf_43_4 (t : Nat → ClassId) (ad : Nat → Nat) : sr_fr vwCl (xcf t ad) 62 43 RX1 TX1 16 4 (ad 45) := ⟨by decide, by decide, rfl, 1, fun R => [.ref (ad 1), .int (R 1), .int (R 2), .ref (ad 44), .ref (ad 45), .ref (ad 46), .ref (ad 47), .ref (ad 48), .ref (ad 49), .int (R 9), .ref (ad 50), .ref (ad 51), .ref (ad 52), .ref (ad 53), .ref (ad 54), .ref (ad 55)], rfl, fun _ _ _ => rfl, fun _ => rfl⟩
theorem xf_43_5 (t : Nat → ClassId) (ad : Nat → Nat) : sr_fr vwCl (xcf t ad) 62 43 RX1 TX1 16 5 (ad 46) := ⟨by decide, by decide, rfl, 1, fun R => [.ref (ad 1), .int (R 1), .int (R 2), .ref (ad 44), .ref (ad 45), .ref (ad 46), .ref (ad 47), .ref (ad 48), .ref (ad 49), .int (R 9), .ref (ad 50), .ref (ad 51), .ref (ad 52), .ref (ad 53), .ref (ad 54), .ref (ad 55)], rfl, fun _ _ _ => rfl, fun _ => rfl⟩
theorem xf_43_6 (t : Nat → ClassId) (ad : Nat → Nat) : sr_fr vwCl (xcf t ad) 62 43 RX1 TX1 16 6 (ad 47) := ⟨by decide, by decide, rfl, 1, fun R => [.ref (ad 1), .int (R 1), .int (R 2), .ref (ad 44), .ref (ad 45), .ref (ad 46), .ref (ad 47), .ref (ad 48), .ref (ad 49), .int (R 9), .ref (ad 50), .ref (ad 51), .ref (ad 52), .ref (ad 53), .ref (ad 54), .ref (ad 55)], rfl, fun _ _ _ => rfl, fun _ => rfl⟩
theorem xf_43_7 (t : Nat → ClassId) (ad : Nat → Nat) : sr_fr vwCl (xcf t ad) 62 43 RX1 TX1 16 7 (ad 48) := ⟨by decide, by decide, rfl, 1, fun R => [.ref (ad 1), .int (R 1), .int (R 2), .ref (ad 44), .ref (ad 45), .ref (ad 46), .ref (ad 47), .ref (ad 48), .ref (ad 49), .int (R 9), .ref (ad 50), .ref (ad 51), .ref (ad 52), .ref (ad 53), .ref (ad 54), .ref (ad 55)], rfl, fun _ _ _ => rfl, fun _ => rfl⟩
theorem xf_43_8 (t : Nat → ClassId) (ad : Nat → Nat) : sr_fr vwCl (xcf t ad) 62 43 RX1 TX1 16 8 (ad 49) := ⟨by decide, by decide, rfl, 1, fun R => [.ref (ad 1), .int (R 1), .int (R 2), .ref (ad 44), .ref (ad 45), .ref (ad 46), .ref (ad 47), .ref (ad 48), .ref (ad 49), .int (R 9), .ref (ad 50), .ref (ad 51), .ref (ad 52), .ref (ad 53), .ref (ad 54), .ref (ad 55)], rfl, fun _ _ _ => rfl, fun _ => rfl⟩
theorem xf_43_9 (t : Nat → ClassId) (ad : Nat → Nat) : sr_fi vwCl (xcf t ad) 62 43 RX1 TX1 16 9 := ⟨by decide, by decide, rfl, 1, fun R => [.ref (ad 1), .int (R 1), .int (R 2), .ref (ad 44), .ref (ad 45), .ref (ad 46), .ref (ad 47), .ref (ad 48), .ref (ad 49), .int (R 9), .ref (ad 50), .ref (ad 51), .ref (ad 52), .ref (ad 53), .ref (ad 54), .ref (ad 55)], rfl, fun _ _ _ => rfl, fun _ => rfl, fun _ _ => rfl⟩
theorem xf_43_10 (t : Nat → ClassId) (ad : Nat → Nat) : sr_fr vwCl (xcf t ad) 62 43 RX1 TX1 16 10 (ad 50) := ⟨by decide, by decide, rfl, 1, fun R => [.ref (ad 1), .int (R 1), .int (R 2), .ref (ad 44), .ref (ad 45), .ref (ad 46), .ref (ad 47), .ref (ad 48), .ref (ad 49), .int (R 9), .ref (ad 50), .ref (ad 51), .ref (ad 52), .ref (ad 53), .ref (ad 54), .ref (ad 55)], rfl, fun _ _ _ => rfl, fun _ => rfl⟩
theorem xf_43_11 (t : Nat → ClassId) (ad : Nat → Nat) : sr_fr vwCl (xcf t ad) 62 43 RX1 TX1 16 11 (ad 51) := ⟨by decide, by decide, rfl, 1, fun R => [.ref (ad 1), .int (R 1), .int (R 2), .ref (ad 44), .ref (ad 45), .ref (ad 46), .ref (ad 47), .ref (ad 48), .ref (ad 49), .int (R 9), .ref (ad 50), .ref (ad 51), .ref (ad 52), .ref (ad 53), .ref (ad 54), .ref (ad 55)], rfl, fun _ _ _ => rfl, fun _ => rfl⟩
theorem xf_43_12 (t : Nat → ClassId) (ad : Nat → Nat) : sr_fr vwCl (xcf t ad) 62 43 RX1 TX1 16 12 (ad 52) := ⟨by decide, by decide, rfl, 1, fun R => [.ref (ad 1), .int (R 1), .int (R 2), .ref (ad 44), .ref (ad 45), .ref (ad 46), .ref (ad 47), .ref (ad 48), .ref (ad 49), .int (R 9), .ref (ad 50), .ref (ad 51), .ref (ad 52), .ref (ad 53), .ref (ad 54), .ref (ad 55)], rfl, fun _ _ _ => rfl, fun _ => rfl⟩
theorem xf_43_13 (t : Nat → ClassId) (ad : Nat → Nat) : sr_fr vwCl (xcf t ad) 62 43 RX1 TX1 16 13 (ad 53) := ⟨by decide, by decide, rfl, 1, fun R => [.ref (ad 1), .int (R 1), .int (R 2), .ref (ad 44), .ref (ad 45), .ref (ad 46), .ref (ad 47), .ref (ad 48), .ref (ad 49), .int (R 9), .ref (ad 50), .ref (ad 51), .ref (ad 52), .ref (ad 53), .ref (ad 54), .ref (ad 55)], rfl, fun _ _ _ => rfl, fun _ => rfl⟩
theorem xf_43_14 (t : Nat → ClassId) (ad : Nat → Nat) : sr_fr vwCl (xcf t ad) 62 43 RX1 TX1 16 14 (ad 54) := ⟨by decide, by decide, rfl, 1, fun R => [.ref (ad 1), .int (R 1), .int (R 2), .ref (ad 44), .ref (ad 45), .ref (ad 46), .ref (ad 47), .ref (ad 48), .ref (ad 49), .int (R 9), .ref (ad 50), .ref (ad 51), .ref (ad 52), .ref (ad 53), .ref (ad 54), .ref (ad 55)], rfl, fun _ _ _ => rfl, fun _ => rfl⟩
theorem xf_43_15 (t : Nat → ClassId) (ad : Nat → Nat) : sr_fr vwCl (xcf t ad) 62 43 RX1 TX1 16 15 (ad 55) := ⟨by decide, by decide, rfl, 1, fun R => [.ref (ad 1), .int (R 1), .int (R 2), .ref (ad 44), .ref (ad 45), .ref (ad 46), .ref (ad 47), .ref (ad 48), .ref (ad 49), .int (R 9), .ref (ad 50), .ref (ad 51), .ref (ad 52), .ref (ad 53), .ref (ad 54), .ref (ad 55)], rfl, fun _ _ _ => rfl, fun _ => rfl⟩
theorem xa_44 (t : Nat → ClassId) (ad : Nat → Nat) : sr_ia (xcf t ad) (xty t) 62 44 121 .int := ⟨by decide, t 44, 34, fun _ _ _ => rfl, rfl⟩
theorem xa_45 (t : Nat → ClassId) (ad : Nat → Nat) : sr_ia (xcf t ad) (xty t) 62 45 121 .int := ⟨by decide, t 45, 35, fun _ _ _ => rfl, rfl⟩
theorem xa_46 (t : Nat → ClassId) (ad : Nat → Nat) : sr_ia (xcf t ad) (xty t) 62 46 120 .int := ⟨by decide, t 46, 36, fun _ _ _ => rfl, rfl⟩
theorem xa_47 (t : Nat → ClassId) (ad : Nat → Nat) : sr_ia (xcf t ad) (xty t) 62 47 120 .int := ⟨by decide, t 47, 37, fun _ _ _ => rfl, rfl⟩
theorem xa_48 (t : Nat → ClassId) (ad : Nat → Nat) : sr_ia (xcf t ad) (xty t) 62 48 120 .int := ⟨by decide, t 48, 38, fun _ _ _ => rfl, rfl⟩
theorem xa_49 (t : Nat → ClassId) (ad : Nat → Nat) : sr_ia (xcf t ad) (xty t) 62 49 120 .int := ⟨by decide, t 49, 39, fun _ _ _ => rfl, rfl⟩
theorem xa_50 (t : Nat → ClassId) (ad : Nat → Nat) : sr_ia (xcf t ad) (xty t) 62 50 120 .int := ⟨by decide, t 50, 40, fun _ _ _ => rfl, rfl⟩
theorem xa_51 (t : Nat → ClassId) (ad : Nat → Nat) : sr_ia (xcf t ad) (xty t) 62 51 120 .int := ⟨by decide, t 51, 41, fun _ _ _ => rfl, rfl⟩
theorem xa_52 (t : Nat → ClassId) (ad : Nat → Nat) : sr_ia (xcf t ad) (xty t) 62 52 120 .int := ⟨by decide, t 52, 42, fun _ _ _ => rfl, rfl⟩
theorem xa_53 (t : Nat → ClassId) (ad : Nat → Nat) : sr_ia (xcf t ad) (xty t) 62 53 120 .int := ⟨by decide, t 53, 43, fun _ _ _ => rfl, rfl⟩
theorem xa_54 (t : Nat → ClassId) (ad : Nat → Nat) : sr_ia (xcf t ad) (xty t) 62 54 120 .int := ⟨by decide, t 54, 44, fun _ _ _ => rfl, rfl⟩
theorem xa_55 (t : Nat → ClassId) (ad : Nat → Nat) : sr_ia (xcf t ad) (xty t) 62 55 120 .boolean := ⟨by decide, t 55, 45, fun _ _ _ => rfl, rfl⟩
theorem xo_56 (t : Nat → ClassId) (ad : Nat → Nat) : sr_ob vwCl (xcf t ad) 62 56 RX3 := ⟨by decide, 3, (RX3, TX3, 5), fun R => [.ref (ad 1), .ref (ad 57), .ref (ad 58), .ref (ad 59), .ref (ad 60)], rfl, rfl, fun _ _ _ => rfl⟩
theorem xf_56_0 (t : Nat → ClassId) (ad : Nat → Nat) : sr_fr vwCl (xcf t ad) 62 56 RX3 TX3 5 0 (ad 1) := ⟨by decide, by decide, rfl, 3, fun R => [.ref (ad 1), .ref (ad 57), .ref (ad 58), .ref (ad 59), .ref (ad 60)], rfl, fun _ _ _ => rfl, fun _ => rfl⟩
theorem xf_56_1 (t : Nat → ClassId) (ad : Nat → Nat) : sr_fr vwCl (xcf t ad) 62 56 RX3 TX3 5 1 (ad 57) := ⟨by decide, by decide, rfl, 3, fun R => [.ref (ad 1), .ref (ad 57), .ref (ad 58), .ref (ad 59), .ref (ad 60)], rfl, fun _ _ _ => rfl, fun _ => rfl⟩
theorem xf_56_2 (t : Nat → ClassId) (ad : Nat → Nat) : sr_fr vwCl (xcf t ad) 62 56 RX3 TX3 5 2 (ad 58) := ⟨by decide, by decide, rfl, 3, fun R => [.ref (ad 1), .ref (ad 57), .ref (ad 58), .ref (ad 59), .ref (ad 60)], rfl, fun _ _ _ => rfl, fun _ => rfl⟩
theorem xf_56_3 (t : Nat → ClassId) (ad : Nat → Nat) : sr_fr vwCl (xcf t ad) 62 56 RX3 TX3 5 3 (ad 59) := ⟨by decide, by decide, rfl, 3, fun R => [.ref (ad 1), .ref (ad 57), .ref (ad 58), .ref (ad 59), .ref (ad 60)], rfl, fun _ _ _ => rfl, fun _ => rfl⟩
theorem xf_56_4 (t : Nat → ClassId) (ad : Nat → Nat) : sr_fr vwCl (xcf t ad) 62 56 RX3 TX3 5 4 (ad 60) := ⟨by decide, by decide, rfl, 3, fun R => [.ref (ad 1), .ref (ad 57), .ref (ad 58), .ref (ad 59), .ref (ad 60)], rfl, fun _ _ _ => rfl, fun _ => rfl⟩
theorem xa_57 (t : Nat → ClassId) (ad : Nat → Nat) : sr_ia (xcf t ad) (xty t) 62 57 120 .int := ⟨by decide, t 57, 46, fun _ _ _ => rfl, rfl⟩
theorem xa_58 (t : Nat → ClassId) (ad : Nat → Nat) : sr_ia (xcf t ad) (xty t) 62 58 120 .int := ⟨by decide, t 58, 47, fun _ _ _ => rfl, rfl⟩
theorem xa_59 (t : Nat → ClassId) (ad : Nat → Nat) : sr_ia (xcf t ad) (xty t) 62 59 120 .int := ⟨by decide, t 59, 48, fun _ _ _ => rfl, rfl⟩
theorem xa_60 (t : Nat → ClassId) (ad : Nat → Nat) : sr_ia (xcf t ad) (xty t) 62 60 120 .int := ⟨by decide, t 60, 49, fun _ _ _ => rfl, rfl⟩
theorem xa_61 (t : Nat → ClassId) (ad : Nat → Nat) : sr_ia (xcf t ad) (xty t) 62 61 200 .int := ⟨by decide, t 61, 50, fun _ _ _ => rfl, rfl⟩
def ycl (t : Nat → ClassId) (ad : Nat → Nat) (R : Nat → Int32) (L : Nat → Int64) (D : Nat → UInt64) : List va_E :=
  [.inr (5, [.int (R 0), .ref (ad 1), .ref (ad 2), .int (R 3), .ref (ad 3), .ref (ad 4), .ref (ad 5), .ref (ad 6), .int (R 8), .ref (ad 7), .ref (ad 8), .ref (ad 9), .ref (ad 10), .int (R 13), .int (R 14), .ref (ad 11), .ref (ad 12), .ref (ad 13), .ref (ad 14), .int (R 19), .ref (ad 15), .ref (ad 16), .ref (ad 17), .ref (ad 18), .ref (ad 19), .int (R 25), .ref (ad 20), .ref (ad 21), .ref (ad 22), .ref (ad 23), .ref (ad 24), .ref (ad 25), .int (R 32)]),
   .inl (t 1, 120, .inl R),
   .inl (t 2, 120, .inl R),
   .inl (t 3, 300, .inl R),
   .inl (t 4, 300, .inl R),
   .inl (t 5, 300, .inl R),
   .inl (t 6, 300, .inl R),
   .inl (t 7, 6, .inl R),
   .inl (t 8, 6, .inl R),
   .inl (t 9, 360, .inr (.inl L)),
   .inl (t 10, 360, .inr (.inr (.inr (.inl D)))),
   .inl (t 11, 121, .inl R),
   .inl (t 12, 120, .inl R),
   .inl (t 13, 120, .inl R),
   .inl (t 14, 120, .inl R),
   .inl (t 15, 200, .inl R),
   .inl (t 16, 60, .inr (.inl L)),
   .inl (t 17, 60, .inr (.inr (.inr (.inl D)))),
   .inl (t 18, 120, .inl R),
   .inl (t 19, 120, .inl R),
   .inl (t 20, 120, .inl R),
   .inl (t 21, 120, .inl R),
   .inl (t 22, 121, .inl R),
   .inl (t 23, 120, .inl R),
   .inl (t 24, 120, .inl R),
   .inl (t 25, 120, .inl R)]
def ycf (t : Nat → ClassId) (ad : Nat → Nat) : sr_CF := fun k R L D => (ycl t ad R L D).getD k (.inl (t 0, 0, .inl R))
def yty (t : Nat → ClassId) : List (ClassId × FieldType) :=
  [(t 1, .int), (t 2, .boolean), (t 3, .int), (t 4, .int), (t 5, .int), (t 6, .boolean), (t 7, .int), (t 8, .int), (t 9, .long), (t 10, .double), (t 11, .int), (t 12, .int), (t 13, .int), (t 14, .int), (t 15, .int), (t 16, .long), (t 17, .double), (t 18, .boolean), (t 19, .int), (t 20, .int), (t 21, .int), (t 22, .int), (t 23, .int), (t 24, .int), (t 25, .int)]
abbrev yH (D : va_G) (t : Nat → ClassId) (ad : Nat → Nat) (A : Nat → Prop) (s : State) (M : sr_M) (H : Heap) (locs : List Loc) : Prop := sr_H D vwCl (yty t) ad (ycf t ad) 26 A s M H locs
theorem yo_0 (t : Nat → ClassId) (ad : Nat → Nat) : sr_ob vwCl (ycf t ad) 26 0 RX5 := ⟨by decide, 5, (RX5, TX5, 33), fun R => [.int (R 0), .ref (ad 1), .ref (ad 2), .int (R 3), .ref (ad 3), .ref (ad 4), .ref (ad 5), .ref (ad 6), .int (R 8), .ref (ad 7), .ref (ad 8), .ref (ad 9), .ref (ad 10), .int (R 13), .int (R 14), .ref (ad 11), .ref (ad 12), .ref (ad 13), .ref (ad 14), .int (R 19), .ref (ad 15), .ref (ad 16), .ref (ad 17), .ref (ad 18), .ref (ad 19), .int (R 25), .ref (ad 20), .ref (ad 21), .ref (ad 22), .ref (ad 23), .ref (ad 24), .ref (ad 25), .int (R 32)], rfl, rfl, fun _ _ _ => rfl⟩
theorem yf_0_0 (t : Nat → ClassId) (ad : Nat → Nat) : sr_fi vwCl (ycf t ad) 26 0 RX5 TX5 33 0 := ⟨by decide, by decide, rfl, 5, fun R => [.int (R 0), .ref (ad 1), .ref (ad 2), .int (R 3), .ref (ad 3), .ref (ad 4), .ref (ad 5), .ref (ad 6), .int (R 8), .ref (ad 7), .ref (ad 8), .ref (ad 9), .ref (ad 10), .int (R 13), .int (R 14), .ref (ad 11), .ref (ad 12), .ref (ad 13), .ref (ad 14), .int (R 19), .ref (ad 15), .ref (ad 16), .ref (ad 17), .ref (ad 18), .ref (ad 19), .int (R 25), .ref (ad 20), .ref (ad 21), .ref (ad 22), .ref (ad 23), .ref (ad 24), .ref (ad 25), .int (R 32)], rfl, fun _ _ _ => rfl, fun _ => rfl, fun _ _ => rfl⟩
theorem yf_0_1 (t : Nat → ClassId) (ad : Nat → Nat) : sr_fr vwCl (ycf t ad) 26 0 RX5 TX5 33 1 (ad 1) := ⟨by decide, by decide, rfl, 5, fun R => [.int (R 0), .ref (ad 1), .ref (ad 2), .int (R 3), .ref (ad 3), .ref (ad 4), .ref (ad 5), .ref (ad 6), .int (R 8), .ref (ad 7), .ref (ad 8), .ref (ad 9), .ref (ad 10), .int (R 13), .int (R 14), .ref (ad 11), .ref (ad 12), .ref (ad 13), .ref (ad 14), .int (R 19), .ref (ad 15), .ref (ad 16), .ref (ad 17), .ref (ad 18), .ref (ad 19), .int (R 25), .ref (ad 20), .ref (ad 21), .ref (ad 22), .ref (ad 23), .ref (ad 24), .ref (ad 25), .int (R 32)], rfl, fun _ _ _ => rfl, fun _ => rfl⟩
theorem yf_0_2 (t : Nat → ClassId) (ad : Nat → Nat) : sr_fr vwCl (ycf t ad) 26 0 RX5 TX5 33 2 (ad 2) := ⟨by decide, by decide, rfl, 5, fun R => [.int (R 0), .ref (ad 1), .ref (ad 2), .int (R 3), .ref (ad 3), .ref (ad 4), .ref (ad 5), .ref (ad 6), .int (R 8), .ref (ad 7), .ref (ad 8), .ref (ad 9), .ref (ad 10), .int (R 13), .int (R 14), .ref (ad 11), .ref (ad 12), .ref (ad 13), .ref (ad 14), .int (R 19), .ref (ad 15), .ref (ad 16), .ref (ad 17), .ref (ad 18), .ref (ad 19), .int (R 25), .ref (ad 20), .ref (ad 21), .ref (ad 22), .ref (ad 23), .ref (ad 24), .ref (ad 25), .int (R 32)], rfl, fun _ _ _ => rfl, fun _ => rfl⟩
theorem yf_0_3 (t : Nat → ClassId) (ad : Nat → Nat) : sr_fi vwCl (ycf t ad) 26 0 RX5 TX5 33 3 := ⟨by decide, by decide, rfl, 5, fun R => [.int (R 0), .ref (ad 1), .ref (ad 2), .int (R 3), .ref (ad 3), .ref (ad 4), .ref (ad 5), .ref (ad 6), .int (R 8), .ref (ad 7), .ref (ad 8), .ref (ad 9), .ref (ad 10), .int (R 13), .int (R 14), .ref (ad 11), .ref (ad 12), .ref (ad 13), .ref (ad 14), .int (R 19), .ref (ad 15), .ref (ad 16), .ref (ad 17), .ref (ad 18), .ref (ad 19), .int (R 25), .ref (ad 20), .ref (ad 21), .ref (ad 22), .ref (ad 23), .ref (ad 24), .ref (ad 25), .int (R 32)], rfl, fun _ _ _ => rfl, fun _ => rfl, fun _ _ => rfl⟩
theorem yf_0_4 (t : Nat → ClassId) (ad : Nat → Nat) : sr_fr vwCl (ycf t ad) 26 0 RX5 TX5 33 4 (ad 3) := ⟨by decide, by decide, rfl, 5, fun R => [.int (R 0), .ref (ad 1), .ref (ad 2), .int (R 3), .ref (ad 3), .ref (ad 4), .ref (ad 5), .ref (ad 6), .int (R 8), .ref (ad 7), .ref (ad 8), .ref (ad 9), .ref (ad 10), .int (R 13), .int (R 14), .ref (ad 11), .ref (ad 12), .ref (ad 13), .ref (ad 14), .int (R 19), .ref (ad 15), .ref (ad 16), .ref (ad 17), .ref (ad 18), .ref (ad 19), .int (R 25), .ref (ad 20), .ref (ad 21), .ref (ad 22), .ref (ad 23), .ref (ad 24), .ref (ad 25), .int (R 32)], rfl, fun _ _ _ => rfl, fun _ => rfl⟩
theorem yf_0_5 (t : Nat → ClassId) (ad : Nat → Nat) : sr_fr vwCl (ycf t ad) 26 0 RX5 TX5 33 5 (ad 4) := ⟨by decide, by decide, rfl, 5, fun R => [.int (R 0), .ref (ad 1), .ref (ad 2), .int (R 3), .ref (ad 3), .ref (ad 4), .ref (ad 5), .ref (ad 6), .int (R 8), .ref (ad 7), .ref (ad 8), .ref (ad 9), .ref (ad 10), .int (R 13), .int (R 14), .ref (ad 11), .ref (ad 12), .ref (ad 13), .ref (ad 14), .int (R 19), .ref (ad 15), .ref (ad 16), .ref (ad 17), .ref (ad 18), .ref (ad 19), .int (R 25), .ref (ad 20), .ref (ad 21), .ref (ad 22), .ref (ad 23), .ref (ad 24), .ref (ad 25), .int (R 32)], rfl, fun _ _ _ => rfl, fun _ => rfl⟩
theorem yf_0_6 (t : Nat → ClassId) (ad : Nat → Nat) : sr_fr vwCl (ycf t ad) 26 0 RX5 TX5 33 6 (ad 5) := ⟨by decide, by decide, rfl, 5, fun R => [.int (R 0), .ref (ad 1), .ref (ad 2), .int (R 3), .ref (ad 3), .ref (ad 4), .ref (ad 5), .ref (ad 6), .int (R 8), .ref (ad 7), .ref (ad 8), .ref (ad 9), .ref (ad 10), .int (R 13), .int (R 14), .ref (ad 11), .ref (ad 12), .ref (ad 13), .ref (ad 14), .int (R 19), .ref (ad 15), .ref (ad 16), .ref (ad 17), .ref (ad 18), .ref (ad 19), .int (R 25), .ref (ad 20), .ref (ad 21), .ref (ad 22), .ref (ad 23), .ref (ad 24), .ref (ad 25), .int (R 32)], rfl, fun _ _ _ => rfl, fun _ => rfl⟩
theorem yf_0_7 (t : Nat → ClassId) (ad : Nat → Nat) : sr_fr vwCl (ycf t ad) 26 0 RX5 TX5 33 7 (ad 6) := ⟨by decide, by decide, rfl, 5, fun R => [.int (R 0), .ref (ad 1), .ref (ad 2), .int (R 3), .ref (ad 3), .ref (ad 4), .ref (ad 5), .ref (ad 6), .int (R 8), .ref (ad 7), .ref (ad 8), .ref (ad 9), .ref (ad 10), .int (R 13), .int (R 14), .ref (ad 11), .ref (ad 12), .ref (ad 13), .ref (ad 14), .int (R 19), .ref (ad 15), .ref (ad 16), .ref (ad 17), .ref (ad 18), .ref (ad 19), .int (R 25), .ref (ad 20), .ref (ad 21), .ref (ad 22), .ref (ad 23), .ref (ad 24), .ref (ad 25), .int (R 32)], rfl, fun _ _ _ => rfl, fun _ => rfl⟩
theorem yf_0_8 (t : Nat → ClassId) (ad : Nat → Nat) : sr_fi vwCl (ycf t ad) 26 0 RX5 TX5 33 8 := ⟨by decide, by decide, rfl, 5, fun R => [.int (R 0), .ref (ad 1), .ref (ad 2), .int (R 3), .ref (ad 3), .ref (ad 4), .ref (ad 5), .ref (ad 6), .int (R 8), .ref (ad 7), .ref (ad 8), .ref (ad 9), .ref (ad 10), .int (R 13), .int (R 14), .ref (ad 11), .ref (ad 12), .ref (ad 13), .ref (ad 14), .int (R 19), .ref (ad 15), .ref (ad 16), .ref (ad 17), .ref (ad 18), .ref (ad 19), .int (R 25), .ref (ad 20), .ref (ad 21), .ref (ad 22), .ref (ad 23), .ref (ad 24), .ref (ad 25), .int (R 32)], rfl, fun _ _ _ => rfl, fun _ => rfl, fun _ _ => rfl⟩
theorem yf_0_9 (t : Nat → ClassId) (ad : Nat → Nat) : sr_fr vwCl (ycf t ad) 26 0 RX5 TX5 33 9 (ad 7) := ⟨by decide, by decide, rfl, 5, fun R => [.int (R 0), .ref (ad 1), .ref (ad 2), .int (R 3), .ref (ad 3), .ref (ad 4), .ref (ad 5), .ref (ad 6), .int (R 8), .ref (ad 7), .ref (ad 8), .ref (ad 9), .ref (ad 10), .int (R 13), .int (R 14), .ref (ad 11), .ref (ad 12), .ref (ad 13), .ref (ad 14), .int (R 19), .ref (ad 15), .ref (ad 16), .ref (ad 17), .ref (ad 18), .ref (ad 19), .int (R 25), .ref (ad 20), .ref (ad 21), .ref (ad 22), .ref (ad 23), .ref (ad 24), .ref (ad 25), .int (R 32)], rfl, fun _ _ _ => rfl, fun _ => rfl⟩
theorem yf_0_10 (t : Nat → ClassId) (ad : Nat → Nat) : sr_fr vwCl (ycf t ad) 26 0 RX5 TX5 33 10 (ad 8) := ⟨by decide, by decide, rfl, 5, fun R => [.int (R 0), .ref (ad 1), .ref (ad 2), .int (R 3), .ref (ad 3), .ref (ad 4), .ref (ad 5), .ref (ad 6), .int (R 8), .ref (ad 7), .ref (ad 8), .ref (ad 9), .ref (ad 10), .int (R 13), .int (R 14), .ref (ad 11), .ref (ad 12), .ref (ad 13), .ref (ad 14), .int (R 19), .ref (ad 15), .ref (ad 16), .ref (ad 17), .ref (ad 18), .ref (ad 19), .int (R 25), .ref (ad 20), .ref (ad 21), .ref (ad 22), .ref (ad 23), .ref (ad 24), .ref (ad 25), .int (R 32)], rfl, fun _ _ _ => rfl, fun _ => rfl⟩
theorem yf_0_11 (t : Nat → ClassId) (ad : Nat → Nat) : sr_fr vwCl (ycf t ad) 26 0 RX5 TX5 33 11 (ad 9) := ⟨by decide, by decide, rfl, 5, fun R => [.int (R 0), .ref (ad 1), .ref (ad 2), .int (R 3), .ref (ad 3), .ref (ad 4), .ref (ad 5), .ref (ad 6), .int (R 8), .ref (ad 7), .ref (ad 8), .ref (ad 9), .ref (ad 10), .int (R 13), .int (R 14), .ref (ad 11), .ref (ad 12), .ref (ad 13), .ref (ad 14), .int (R 19), .ref (ad 15), .ref (ad 16), .ref (ad 17), .ref (ad 18), .ref (ad 19), .int (R 25), .ref (ad 20), .ref (ad 21), .ref (ad 22), .ref (ad 23), .ref (ad 24), .ref (ad 25), .int (R 32)], rfl, fun _ _ _ => rfl, fun _ => rfl⟩
theorem yf_0_12 (t : Nat → ClassId) (ad : Nat → Nat) : sr_fr vwCl (ycf t ad) 26 0 RX5 TX5 33 12 (ad 10) := ⟨by decide, by decide, rfl, 5, fun R => [.int (R 0), .ref (ad 1), .ref (ad 2), .int (R 3), .ref (ad 3), .ref (ad 4), .ref (ad 5), .ref (ad 6), .int (R 8), .ref (ad 7), .ref (ad 8), .ref (ad 9), .ref (ad 10), .int (R 13), .int (R 14), .ref (ad 11), .ref (ad 12), .ref (ad 13), .ref (ad 14), .int (R 19), .ref (ad 15), .ref (ad 16), .ref (ad 17), .ref (ad 18), .ref (ad 19), .int (R 25), .ref (ad 20), .ref (ad 21), .ref (ad 22), .ref (ad 23), .ref (ad 24), .ref (ad 25), .int (R 32)], rfl, fun _ _ _ => rfl, fun _ => rfl⟩
theorem yf_0_13 (t : Nat → ClassId) (ad : Nat → Nat) : sr_fi vwCl (ycf t ad) 26 0 RX5 TX5 33 13 := ⟨by decide, by decide, rfl, 5, fun R => [.int (R 0), .ref (ad 1), .ref (ad 2), .int (R 3), .ref (ad 3), .ref (ad 4), .ref (ad 5), .ref (ad 6), .int (R 8), .ref (ad 7), .ref (ad 8), .ref (ad 9), .ref (ad 10), .int (R 13), .int (R 14), .ref (ad 11), .ref (ad 12), .ref (ad 13), .ref (ad 14), .int (R 19), .ref (ad 15), .ref (ad 16), .ref (ad 17), .ref (ad 18), .ref (ad 19), .int (R 25), .ref (ad 20), .ref (ad 21), .ref (ad 22), .ref (ad 23), .ref (ad 24), .ref (ad 25), .int (R 32)], rfl, fun _ _ _ => rfl, fun _ => rfl, fun _ _ => rfl⟩
theorem yf_0_14 (t : Nat → ClassId) (ad : Nat → Nat) : sr_fi vwCl (ycf t ad) 26 0 RX5 TX5 33 14 := ⟨by decide, by decide, rfl, 5, fun R => [.int (R 0), .ref (ad 1), .ref (ad 2), .int (R 3), .ref (ad 3), .ref (ad 4), .ref (ad 5), .ref (ad 6), .int (R 8), .ref (ad 7), .ref (ad 8), .ref (ad 9), .ref (ad 10), .int (R 13), .int (R 14), .ref (ad 11), .ref (ad 12), .ref (ad 13), .ref (ad 14), .int (R 19), .ref (ad 15), .ref (ad 16), .ref (ad 17), .ref (ad 18), .ref (ad 19), .int (R 25), .ref (ad 20), .ref (ad 21), .ref (ad 22), .ref (ad 23), .ref (ad 24), .ref (ad 25), .int (R 32)], rfl, fun _ _ _ => rfl, fun _ => rfl, fun _ _ => rfl⟩
theorem yf_0_15 (t : Nat → ClassId) (ad : Nat → Nat) : sr_fr vwCl (ycf t ad) 26 0 RX5 TX5 33 15 (ad 11) := ⟨by decide, by decide, rfl, 5, fun R => [.int (R 0), .ref (ad 1), .ref (ad 2), .int (R 3), .ref (ad 3), .ref (ad 4), .ref (ad 5), .ref (ad 6), .int (R 8), .ref (ad 7), .ref (ad 8), .ref (ad 9), .ref (ad 10), .int (R 13), .int (R 14), .ref (ad 11), .ref (ad 12), .ref (ad 13), .ref (ad 14), .int (R 19), .ref (ad 15), .ref (ad 16), .ref (ad 17), .ref (ad 18), .ref (ad 19), .int (R 25), .ref (ad 20), .ref (ad 21), .ref (ad 22), .ref (ad 23), .ref (ad 24), .ref (ad 25), .int (R 32)], rfl, fun _ _ _ => rfl, fun _ => rfl⟩
theorem yf_0_16 (t : Nat → ClassId) (ad : Nat → Nat) : sr_fr vwCl (ycf t ad) 26 0 RX5 TX5 33 16 (ad 12) := ⟨by decide, by decide, rfl, 5, fun R => [.int (R 0), .ref (ad 1), .ref (ad 2), .int (R 3), .ref (ad 3), .ref (ad 4), .ref (ad 5), .ref (ad 6), .int (R 8), .ref (ad 7), .ref (ad 8), .ref (ad 9), .ref (ad 10), .int (R 13), .int (R 14), .ref (ad 11), .ref (ad 12), .ref (ad 13), .ref (ad 14), .int (R 19), .ref (ad 15), .ref (ad 16), .ref (ad 17), .ref (ad 18), .ref (ad 19), .int (R 25), .ref (ad 20), .ref (ad 21), .ref (ad 22), .ref (ad 23), .ref (ad 24), .ref (ad 25), .int (R 32)], rfl, fun _ _ _ => rfl, fun _ => rfl⟩
theorem yf_0_17 (t : Nat → ClassId) (ad : Nat → Nat) : sr_fr vwCl (ycf t ad) 26 0 RX5 TX5 33 17 (ad 13) := ⟨by decide, by decide, rfl, 5, fun R => [.int (R 0), .ref (ad 1), .ref (ad 2), .int (R 3), .ref (ad 3), .ref (ad 4), .ref (ad 5), .ref (ad 6), .int (R 8), .ref (ad 7), .ref (ad 8), .ref (ad 9), .ref (ad 10), .int (R 13), .int (R 14), .ref (ad 11), .ref (ad 12), .ref (ad 13), .ref (ad 14), .int (R 19), .ref (ad 15), .ref (ad 16), .ref (ad 17), .ref (ad 18), .ref (ad 19), .int (R 25), .ref (ad 20), .ref (ad 21), .ref (ad 22), .ref (ad 23), .ref (ad 24), .ref (ad 25), .int (R 32)], rfl, fun _ _ _ => rfl, fun _ => rfl⟩
theorem yf_0_18 (t : Nat → ClassId) (ad : Nat → Nat) : sr_fr vwCl (ycf t ad) 26 0 RX5 TX5 33 18 (ad 14) := ⟨by decide, by decide, rfl, 5, fun R => [.int (R 0), .ref (ad 1), .ref (ad 2), .int (R 3), .ref (ad 3), .ref (ad 4), .ref (ad 5), .ref (ad 6), .int (R 8), .ref (ad 7), .ref (ad 8), .ref (ad 9), .ref (ad 10), .int (R 13), .int (R 14), .ref (ad 11), .ref (ad 12), .ref (ad 13), .ref (ad 14), .int (R 19), .ref (ad 15), .ref (ad 16), .ref (ad 17), .ref (ad 18), .ref (ad 19), .int (R 25), .ref (ad 20), .ref (ad 21), .ref (ad 22), .ref (ad 23), .ref (ad 24), .ref (ad 25), .int (R 32)], rfl, fun _ _ _ => rfl, fun _ => rfl⟩
theorem yf_0_19 (t : Nat → ClassId) (ad : Nat → Nat) : sr_fi vwCl (ycf t ad) 26 0 RX5 TX5 33 19 := ⟨by decide, by decide, rfl, 5, fun R => [.int (R 0), .ref (ad 1), .ref (ad 2), .int (R 3), .ref (ad 3), .ref (ad 4), .ref (ad 5), .ref (ad 6), .int (R 8), .ref (ad 7), .ref (ad 8), .ref (ad 9), .ref (ad 10), .int (R 13), .int (R 14), .ref (ad 11), .ref (ad 12), .ref (ad 13), .ref (ad 14), .int (R 19), .ref (ad 15), .ref (ad 16), .ref (ad 17), .ref (ad 18), .ref (ad 19), .int (R 25), .ref (ad 20), .ref (ad 21), .ref (ad 22), .ref (ad 23), .ref (ad 24), .ref (ad 25), .int (R 32)], rfl, fun _ _ _ => rfl, fun _ => rfl, fun _ _ => rfl⟩
theorem yf_0_20 (t : Nat → ClassId) (ad : Nat → Nat) : sr_fr vwCl (ycf t ad) 26 0 RX5 TX5 33 20 (ad 15) := ⟨by decide, by decide, rfl, 5, fun R => [.int (R 0), .ref (ad 1), .ref (ad 2), .int (R 3), .ref (ad 3), .ref (ad 4), .ref (ad 5), .ref (ad 6), .int (R 8), .ref (ad 7), .ref (ad 8), .ref (ad 9), .ref (ad 10), .int (R 13), .int (R 14), .ref (ad 11), .ref (ad 12), .ref (ad 13), .ref (ad 14), .int (R 19), .ref (ad 15), .ref (ad 16), .ref (ad 17), .ref (ad 18), .ref (ad 19), .int (R 25), .ref (ad 20), .ref (ad 21), .ref (ad 22), .ref (ad 23), .ref (ad 24), .ref (ad 25), .int (R 32)], rfl, fun _ _ _ => rfl, fun _ => rfl⟩
theorem yf_0_21 (t : Nat → ClassId) (ad : Nat → Nat) : sr_fr vwCl (ycf t ad) 26 0 RX5 TX5 33 21 (ad 16) := ⟨by decide, by decide, rfl, 5, fun R => [.int (R 0), .ref (ad 1), .ref (ad 2), .int (R 3), .ref (ad 3), .ref (ad 4), .ref (ad 5), .ref (ad 6), .int (R 8), .ref (ad 7), .ref (ad 8), .ref (ad 9), .ref (ad 10), .int (R 13), .int (R 14), .ref (ad 11), .ref (ad 12), .ref (ad 13), .ref (ad 14), .int (R 19), .ref (ad 15), .ref (ad 16), .ref (ad 17), .ref (ad 18), .ref (ad 19), .int (R 25), .ref (ad 20), .ref (ad 21), .ref (ad 22), .ref (ad 23), .ref (ad 24), .ref (ad 25), .int (R 32)], rfl, fun _ _ _ => rfl, fun _ => rfl⟩
theorem yf_0_22 (t : Nat → ClassId) (ad : Nat → Nat) : sr_fr vwCl (ycf t ad) 26 0 RX5 TX5 33 22 (ad 17) := ⟨by decide, by decide, rfl, 5, fun R => [.int (R 0), .ref (ad 1), .ref (ad 2), .int (R 3), .ref (ad 3), .ref (ad 4), .ref (ad 5), .ref (ad 6), .int (R 8), .ref (ad 7), .ref (ad 8), .ref (ad 9), .ref (ad 10), .int (R 13), .int (R 14), .ref (ad 11), .ref (ad 12), .ref (ad 13), .ref (ad 14), .int (R 19), .ref (ad 15), .ref (ad 16), .ref (ad 17), .ref (ad 18), .ref (ad 19), .int (R 25), .ref (ad 20), .ref (ad 21), .ref (ad 22), .ref (ad 23), .ref (ad 24), .ref (ad 25), .int (R 32)], rfl, fun _ _ _ => rfl, fun _ => rfl⟩
theorem yf_0_23 (t : Nat → ClassId) (ad : Nat → Nat) : sr_fr vwCl (ycf t ad) 26 0 RX5 TX5 33 23 (ad 18) := ⟨by decide, by decide, rfl, 5, fun R => [.int (R 0), .ref (ad 1), .ref (ad 2), .int (R 3), .ref (ad 3), .ref (ad 4), .ref (ad 5), .ref (ad 6), .int (R 8), .ref (ad 7), .ref (ad 8), .ref (ad 9), .ref (ad 10), .int (R 13), .int (R 14), .ref (ad 11), .ref (ad 12), .ref (ad 13), .ref (ad 14), .int (R 19), .ref (ad 15), .ref (ad 16), .ref (ad 17), .ref (ad 18), .ref (ad 19), .int (R 25), .ref (ad 20), .ref (ad 21), .ref (ad 22), .ref (ad 23), .ref (ad 24), .ref (ad 25), .int (R 32)], rfl, fun _ _ _ => rfl, fun _ => rfl⟩
theorem yf_0_24 (t : Nat → ClassId) (ad : Nat → Nat) : sr_fr vwCl (ycf t ad) 26 0 RX5 TX5 33 24 (ad 19) := ⟨by decide, by decide, rfl, 5, fun R => [.int (R 0), .ref (ad 1), .ref (ad 2), .int (R 3), .ref (ad 3), .ref (ad 4), .ref (ad 5), .ref (ad 6), .int (R 8), .ref (ad 7), .ref (ad 8), .ref (ad 9), .ref (ad 10), .int (R 13), .int (R 14), .ref (ad 11), .ref (ad 12), .ref (ad 13), .ref (ad 14), .int (R 19), .ref (ad 15), .ref (ad 16), .ref (ad 17), .ref (ad 18), .ref (ad 19), .int (R 25), .ref (ad 20), .ref (ad 21), .ref (ad 22), .ref (ad 23), .ref (ad 24), .ref (ad 25), .int (R 32)], rfl, fun _ _ _ => rfl, fun _ => rfl⟩
theorem yf_0_25 (t : Nat → ClassId) (ad : Nat → Nat) : sr_fi vwCl (ycf t ad) 26 0 RX5 TX5 33 25 := ⟨by decide, by decide, rfl, 5, fun R => [.int (R 0), .ref (ad 1), .ref (ad 2), .int (R 3), .ref (ad 3), .ref (ad 4), .ref (ad 5), .ref (ad 6), .int (R 8), .ref (ad 7), .ref (ad 8), .ref (ad 9), .ref (ad 10), .int (R 13), .int (R 14), .ref (ad 11), .ref (ad 12), .ref (ad 13), .ref (ad 14), .int (R 19), .ref (ad 15), .ref (ad 16), .ref (ad 17), .ref (ad 18), .ref (ad 19), .int (R 25), .ref (ad 20), .ref (ad 21), .ref (ad 22), .ref (ad 23), .ref (ad 24), .ref (ad 25), .int (R 32)], rfl, fun _ _ _ => rfl, fun _ => rfl, fun _ _ => rfl⟩
theorem yf_0_26 (t : Nat → ClassId) (ad : Nat → Nat) : sr_fr vwCl (ycf t ad) 26 0 RX5 TX5 33 26 (ad 20) := ⟨by decide, by decide, rfl, 5, fun R => [.int (R 0), .ref (ad 1), .ref (ad 2), .int (R 3), .ref (ad 3), .ref (ad 4), .ref (ad 5), .ref (ad 6), .int (R 8), .ref (ad 7), .ref (ad 8), .ref (ad 9), .ref (ad 10), .int (R 13), .int (R 14), .ref (ad 11), .ref (ad 12), .ref (ad 13), .ref (ad 14), .int (R 19), .ref (ad 15), .ref (ad 16), .ref (ad 17), .ref (ad 18), .ref (ad 19), .int (R 25), .ref (ad 20), .ref (ad 21), .ref (ad 22), .ref (ad 23), .ref (ad 24), .ref (ad 25), .int (R 32)], rfl, fun _ _ _ => rfl, fun _ => rfl⟩
theorem yf_0_27 (t : Nat → ClassId) (ad : Nat → Nat) : sr_fr vwCl (ycf t ad) 26 0 RX5 TX5 33 27 (ad 21) := ⟨by decide, by decide, rfl, 5, fun R => [.int (R 0), .ref (ad 1), .ref (ad 2), .int (R 3), .ref (ad 3), .ref (ad 4), .ref (ad 5), .ref (ad 6), .int (R 8), .ref (ad 7), .ref (ad 8), .ref (ad 9), .ref (ad 10), .int (R 13), .int (R 14), .ref (ad 11), .ref (ad 12), .ref (ad 13), .ref (ad 14), .int (R 19), .ref (ad 15), .ref (ad 16), .ref (ad 17), .ref (ad 18), .ref (ad 19), .int (R 25), .ref (ad 20), .ref (ad 21), .ref (ad 22), .ref (ad 23), .ref (ad 24), .ref (ad 25), .int (R 32)], rfl, fun _ _ _ => rfl, fun _ => rfl⟩
theorem yf_0_28 (t : Nat → ClassId) (ad : Nat → Nat) : sr_fr vwCl (ycf t ad) 26 0 RX5 TX5 33 28 (ad 22) := ⟨by decide, by decide, rfl, 5, fun R => [.int (R 0), .ref (ad 1), .ref (ad 2), .int (R 3), .ref (ad 3), .ref (ad 4), .ref (ad 5), .ref (ad 6), .int (R 8), .ref (ad 7), .ref (ad 8), .ref (ad 9), .ref (ad 10), .int (R 13), .int (R 14), .ref (ad 11), .ref (ad 12), .ref (ad 13), .ref (ad 14), .int (R 19), .ref (ad 15), .ref (ad 16), .ref (ad 17), .ref (ad 18), .ref (ad 19), .int (R 25), .ref (ad 20), .ref (ad 21), .ref (ad 22), .ref (ad 23), .ref (ad 24), .ref (ad 25), .int (R 32)], rfl, fun _ _ _ => rfl, fun _ => rfl⟩
theorem yf_0_29 (t : Nat → ClassId) (ad : Nat → Nat) : sr_fr vwCl (ycf t ad) 26 0 RX5 TX5 33 29 (ad 23) := ⟨by decide, by decide, rfl, 5, fun R => [.int (R 0), .ref (ad 1), .ref (ad 2), .int (R 3), .ref (ad 3), .ref (ad 4), .ref (ad 5), .ref (ad 6), .int (R 8), .ref (ad 7), .ref (ad 8), .ref (ad 9), .ref (ad 10), .int (R 13), .int (R 14), .ref (ad 11), .ref (ad 12), .ref (ad 13), .ref (ad 14), .int (R 19), .ref (ad 15), .ref (ad 16), .ref (ad 17), .ref (ad 18), .ref (ad 19), .int (R 25), .ref (ad 20), .ref (ad 21), .ref (ad 22), .ref (ad 23), .ref (ad 24), .ref (ad 25), .int (R 32)], rfl, fun _ _ _ => rfl, fun _ => rfl⟩
theorem yf_0_30 (t : Nat → ClassId) (ad : Nat → Nat) : sr_fr vwCl (ycf t ad) 26 0 RX5 TX5 33 30 (ad 24) := ⟨by decide, by decide, rfl, 5, fun R => [.int (R 0), .ref (ad 1), .ref (ad 2), .int (R 3), .ref (ad 3), .ref (ad 4), .ref (ad 5), .ref (ad 6), .int (R 8), .ref (ad 7), .ref (ad 8), .ref (ad 9), .ref (ad 10), .int (R 13), .int (R 14), .ref (ad 11), .ref (ad 12), .ref (ad 13), .ref (ad 14), .int (R 19), .ref (ad 15), .ref (ad 16), .ref (ad 17), .ref (ad 18), .ref (ad 19), .int (R 25), .ref (ad 20), .ref (ad 21), .ref (ad 22), .ref (ad 23), .ref (ad 24), .ref (ad 25), .int (R 32)], rfl, fun _ _ _ => rfl, fun _ => rfl⟩
theorem yf_0_31 (t : Nat → ClassId) (ad : Nat → Nat) : sr_fr vwCl (ycf t ad) 26 0 RX5 TX5 33 31 (ad 25) := ⟨by decide, by decide, rfl, 5, fun R => [.int (R 0), .ref (ad 1), .ref (ad 2), .int (R 3), .ref (ad 3), .ref (ad 4), .ref (ad 5), .ref (ad 6), .int (R 8), .ref (ad 7), .ref (ad 8), .ref (ad 9), .ref (ad 10), .int (R 13), .int (R 14), .ref (ad 11), .ref (ad 12), .ref (ad 13), .ref (ad 14), .int (R 19), .ref (ad 15), .ref (ad 16), .ref (ad 17), .ref (ad 18), .ref (ad 19), .int (R 25), .ref (ad 20), .ref (ad 21), .ref (ad 22), .ref (ad 23), .ref (ad 24), .ref (ad 25), .int (R 32)], rfl, fun _ _ _ => rfl, fun _ => rfl⟩
theorem yf_0_32 (t : Nat → ClassId) (ad : Nat → Nat) : sr_fi vwCl (ycf t ad) 26 0 RX5 TX5 33 32 := ⟨by decide, by decide, rfl, 5, fun R => [.int (R 0), .ref (ad 1), .ref (ad 2), .int (R 3), .ref (ad 3), .ref (ad 4), .ref (ad 5), .ref (ad 6), .int (R 8), .ref (ad 7), .ref (ad 8), .ref (ad 9), .ref (ad 10), .int (R 13), .int (R 14), .ref (ad 11), .ref (ad 12), .ref (ad 13), .ref (ad 14), .int (R 19), .ref (ad 15), .ref (ad 16), .ref (ad 17), .ref (ad 18), .ref (ad 19), .int (R 25), .ref (ad 20), .ref (ad 21), .ref (ad 22), .ref (ad 23), .ref (ad 24), .ref (ad 25), .int (R 32)], rfl, fun _ _ _ => rfl, fun _ => rfl, fun _ _ => rfl⟩
theorem ya_1 (t : Nat → ClassId) (ad : Nat → Nat) : sr_ia (ycf t ad) (yty t) 26 1 120 .int := ⟨by decide, t 1, 0, fun _ _ _ => rfl, rfl⟩
theorem ya_2 (t : Nat → ClassId) (ad : Nat → Nat) : sr_ia (ycf t ad) (yty t) 26 2 120 .boolean := ⟨by decide, t 2, 1, fun _ _ _ => rfl, rfl⟩
theorem ya_3 (t : Nat → ClassId) (ad : Nat → Nat) : sr_ia (ycf t ad) (yty t) 26 3 300 .int := ⟨by decide, t 3, 2, fun _ _ _ => rfl, rfl⟩
theorem ya_4 (t : Nat → ClassId) (ad : Nat → Nat) : sr_ia (ycf t ad) (yty t) 26 4 300 .int := ⟨by decide, t 4, 3, fun _ _ _ => rfl, rfl⟩
theorem ya_5 (t : Nat → ClassId) (ad : Nat → Nat) : sr_ia (ycf t ad) (yty t) 26 5 300 .int := ⟨by decide, t 5, 4, fun _ _ _ => rfl, rfl⟩
theorem ya_6 (t : Nat → ClassId) (ad : Nat → Nat) : sr_ia (ycf t ad) (yty t) 26 6 300 .boolean := ⟨by decide, t 6, 5, fun _ _ _ => rfl, rfl⟩
theorem ya_7 (t : Nat → ClassId) (ad : Nat → Nat) : sr_ia (ycf t ad) (yty t) 26 7 6 .int := ⟨by decide, t 7, 6, fun _ _ _ => rfl, rfl⟩
theorem ya_8 (t : Nat → ClassId) (ad : Nat → Nat) : sr_ia (ycf t ad) (yty t) 26 8 6 .int := ⟨by decide, t 8, 7, fun _ _ _ => rfl, rfl⟩
theorem ya_9 (t : Nat → ClassId) (ad : Nat → Nat) : sr_ja (ycf t ad) (yty t) 26 9 360 := ⟨by decide, t 9, 8, fun _ _ _ => rfl, rfl⟩
theorem ya_10 (t : Nat → ClassId) (ad : Nat → Nat) : sr_da (ycf t ad) (yty t) 26 10 360 := ⟨by decide, t 10, 9, fun _ _ _ => rfl, rfl⟩
theorem ya_11 (t : Nat → ClassId) (ad : Nat → Nat) : sr_ia (ycf t ad) (yty t) 26 11 121 .int := ⟨by decide, t 11, 10, fun _ _ _ => rfl, rfl⟩
theorem ya_12 (t : Nat → ClassId) (ad : Nat → Nat) : sr_ia (ycf t ad) (yty t) 26 12 120 .int := ⟨by decide, t 12, 11, fun _ _ _ => rfl, rfl⟩
theorem ya_13 (t : Nat → ClassId) (ad : Nat → Nat) : sr_ia (ycf t ad) (yty t) 26 13 120 .int := ⟨by decide, t 13, 12, fun _ _ _ => rfl, rfl⟩
theorem ya_14 (t : Nat → ClassId) (ad : Nat → Nat) : sr_ia (ycf t ad) (yty t) 26 14 120 .int := ⟨by decide, t 14, 13, fun _ _ _ => rfl, rfl⟩
theorem ya_15 (t : Nat → ClassId) (ad : Nat → Nat) : sr_ia (ycf t ad) (yty t) 26 15 200 .int := ⟨by decide, t 15, 14, fun _ _ _ => rfl, rfl⟩
theorem ya_16 (t : Nat → ClassId) (ad : Nat → Nat) : sr_ja (ycf t ad) (yty t) 26 16 60 := ⟨by decide, t 16, 15, fun _ _ _ => rfl, rfl⟩
theorem ya_17 (t : Nat → ClassId) (ad : Nat → Nat) : sr_da (ycf t ad) (yty t) 26 17 60 := ⟨by decide, t 17, 16, fun _ _ _ => rfl, rfl⟩
theorem ya_18 (t : Nat → ClassId) (ad : Nat → Nat) : sr_ia (ycf t ad) (yty t) 26 18 120 .boolean := ⟨by decide, t 18, 17, fun _ _ _ => rfl, rfl⟩
theorem ya_19 (t : Nat → ClassId) (ad : Nat → Nat) : sr_ia (ycf t ad) (yty t) 26 19 120 .int := ⟨by decide, t 19, 18, fun _ _ _ => rfl, rfl⟩
theorem ya_20 (t : Nat → ClassId) (ad : Nat → Nat) : sr_ia (ycf t ad) (yty t) 26 20 120 .int := ⟨by decide, t 20, 19, fun _ _ _ => rfl, rfl⟩
theorem ya_21 (t : Nat → ClassId) (ad : Nat → Nat) : sr_ia (ycf t ad) (yty t) 26 21 120 .int := ⟨by decide, t 21, 20, fun _ _ _ => rfl, rfl⟩
theorem ya_22 (t : Nat → ClassId) (ad : Nat → Nat) : sr_ia (ycf t ad) (yty t) 26 22 121 .int := ⟨by decide, t 22, 21, fun _ _ _ => rfl, rfl⟩
theorem ya_23 (t : Nat → ClassId) (ad : Nat → Nat) : sr_ia (ycf t ad) (yty t) 26 23 120 .int := ⟨by decide, t 23, 22, fun _ _ _ => rfl, rfl⟩
theorem ya_24 (t : Nat → ClassId) (ad : Nat → Nat) : sr_ia (ycf t ad) (yty t) 26 24 120 .int := ⟨by decide, t 24, 23, fun _ _ _ => rfl, rfl⟩
theorem ya_25 (t : Nat → ClassId) (ad : Nat → Nat) : sr_ia (ycf t ad) (yty t) 26 25 120 .int := ⟨by decide, t 25, 24, fun _ _ _ => rfl, rfl⟩
def xoF (o : Nat) : Prop := o = 30 ∨ o = 43
def xoC (o : Nat) : Prop := o = 12 ∨ o = 15 ∨ o = 18 ∨ o = 21 ∨ o = 24 ∨ o = 27
theorem xoC_of {i : Int32} (h : vp_in i 6) : xoC (12 + 3 * i.toNatClampNeg) := by
  have h2 : i.toNatClampNeg < 6 := Nat.not_le.mp fun q => h (Or.inr q)
  unfold xoC
  omega
theorem xq_at {ad : Nat → Nat} {i : Int32} (h : vp_in i 6) : (fun i => if i < 6 then some (ad (12 + 3 * i)) else none) i.toNatClampNeg = some (ad (12 + 3 * i.toNatClampNeg)) := by
  have h2 : i.toNatClampNeg < 6 := Nat.not_le.mp fun q => h (Or.inr q)
  simp [h2]
theorem xobF (t : Nat → ClassId) (ad : Nat → Nat) {o : Nat} (ho : xoF o) : sr_ob vwCl (xcf t ad) 62 o RX1 := by
  rcases ho with rfl | rfl
  · exact xo_30 t ad
  · exact xo_43 t ad
theorem xfF_0 (t : Nat → ClassId) (ad : Nat → Nat) {o : Nat} (ho : xoF o) : sr_fr vwCl (xcf t ad) 62 o RX1 TX1 16 0 (ad 1) := by
  rcases ho with rfl | rfl
  · exact xf_30_0 t ad
  · exact xf_43_0 t ad
theorem xfF_1 (t : Nat → ClassId) (ad : Nat → Nat) {o : Nat} (ho : xoF o) : sr_fi vwCl (xcf t ad) 62 o RX1 TX1 16 1 := by
  rcases ho with rfl | rfl
  · exact xf_30_1 t ad
  · exact xf_43_1 t ad
theorem xfF_2 (t : Nat → ClassId) (ad : Nat → Nat) {o : Nat} (ho : xoF o) : sr_fi vwCl (xcf t ad) 62 o RX1 TX1 16 2 := by
  rcases ho with rfl | rfl
  · exact xf_30_2 t ad
  · exact xf_43_2 t ad
theorem xfF_3 (t : Nat → ClassId) (ad : Nat → Nat) {o : Nat} (ho : xoF o) : sr_fr vwCl (xcf t ad) 62 o RX1 TX1 16 3 (ad (o + 1)) := by
  rcases ho with rfl | rfl
  · exact xf_30_3 t ad
  · exact xf_43_3 t ad
theorem xfF_4 (t : Nat → ClassId) (ad : Nat → Nat) {o : Nat} (ho : xoF o) : sr_fr vwCl (xcf t ad) 62 o RX1 TX1 16 4 (ad (o + 2)) := by
  rcases ho with rfl | rfl
  · exact xf_30_4 t ad
  · exact xf_43_4 t ad
theorem xfF_5 (t : Nat → ClassId) (ad : Nat → Nat) {o : Nat} (ho : xoF o) : sr_fr vwCl (xcf t ad) 62 o RX1 TX1 16 5 (ad (o + 3)) := by
  rcases ho with rfl | rfl
  · exact xf_30_5 t ad
  · exact xf_43_5 t ad
theorem xfF_6 (t : Nat → ClassId) (ad : Nat → Nat) {o : Nat} (ho : xoF o) : sr_fr vwCl (xcf t ad) 62 o RX1 TX1 16 6 (ad (o + 4)) := by
  rcases ho with rfl | rfl
  · exact xf_30_6 t ad
  · exact xf_43_6 t ad
theorem xfF_7 (t : Nat → ClassId) (ad : Nat → Nat) {o : Nat} (ho : xoF o) : sr_fr vwCl (xcf t ad) 62 o RX1 TX1 16 7 (ad (o + 5)) := by
  rcases ho with rfl | rfl
  · exact xf_30_7 t ad
  · exact xf_43_7 t ad
theorem xfF_8 (t : Nat → ClassId) (ad : Nat → Nat) {o : Nat} (ho : xoF o) : sr_fr vwCl (xcf t ad) 62 o RX1 TX1 16 8 (ad (o + 6)) := by
  rcases ho with rfl | rfl
  · exact xf_30_8 t ad
  · exact xf_43_8 t ad
theorem xfF_9 (t : Nat → ClassId) (ad : Nat → Nat) {o : Nat} (ho : xoF o) : sr_fi vwCl (xcf t ad) 62 o RX1 TX1 16 9 := by
  rcases ho with rfl | rfl
  · exact xf_30_9 t ad
  · exact xf_43_9 t ad
theorem xfF_10 (t : Nat → ClassId) (ad : Nat → Nat) {o : Nat} (ho : xoF o) : sr_fr vwCl (xcf t ad) 62 o RX1 TX1 16 10 (ad (o + 7)) := by
  rcases ho with rfl | rfl
  · exact xf_30_10 t ad
  · exact xf_43_10 t ad
theorem xfF_11 (t : Nat → ClassId) (ad : Nat → Nat) {o : Nat} (ho : xoF o) : sr_fr vwCl (xcf t ad) 62 o RX1 TX1 16 11 (ad (o + 8)) := by
  rcases ho with rfl | rfl
  · exact xf_30_11 t ad
  · exact xf_43_11 t ad
theorem xfF_12 (t : Nat → ClassId) (ad : Nat → Nat) {o : Nat} (ho : xoF o) : sr_fr vwCl (xcf t ad) 62 o RX1 TX1 16 12 (ad (o + 9)) := by
  rcases ho with rfl | rfl
  · exact xf_30_12 t ad
  · exact xf_43_12 t ad
theorem xfF_13 (t : Nat → ClassId) (ad : Nat → Nat) {o : Nat} (ho : xoF o) : sr_fr vwCl (xcf t ad) 62 o RX1 TX1 16 13 (ad (o + 10)) := by
  rcases ho with rfl | rfl
  · exact xf_30_13 t ad
  · exact xf_43_13 t ad
theorem xfF_14 (t : Nat → ClassId) (ad : Nat → Nat) {o : Nat} (ho : xoF o) : sr_fr vwCl (xcf t ad) 62 o RX1 TX1 16 14 (ad (o + 11)) := by
  rcases ho with rfl | rfl
  · exact xf_30_14 t ad
  · exact xf_43_14 t ad
theorem xfF_15 (t : Nat → ClassId) (ad : Nat → Nat) {o : Nat} (ho : xoF o) : sr_fr vwCl (xcf t ad) 62 o RX1 TX1 16 15 (ad (o + 12)) := by
  rcases ho with rfl | rfl
  · exact xf_30_15 t ad
  · exact xf_43_15 t ad
theorem xaF_1 (t : Nat → ClassId) (ad : Nat → Nat) {o : Nat} (ho : xoF o) : sr_ia (xcf t ad) (xty t) 62 (o + 1) 121 .int := by
  rcases ho with rfl | rfl
  · exact xa_31 t ad
  · exact xa_44 t ad
theorem xaF_2 (t : Nat → ClassId) (ad : Nat → Nat) {o : Nat} (ho : xoF o) : sr_ia (xcf t ad) (xty t) 62 (o + 2) 121 .int := by
  rcases ho with rfl | rfl
  · exact xa_32 t ad
  · exact xa_45 t ad
theorem xaF_3 (t : Nat → ClassId) (ad : Nat → Nat) {o : Nat} (ho : xoF o) : sr_ia (xcf t ad) (xty t) 62 (o + 3) 120 .int := by
  rcases ho with rfl | rfl
  · exact xa_33 t ad
  · exact xa_46 t ad
theorem xaF_4 (t : Nat → ClassId) (ad : Nat → Nat) {o : Nat} (ho : xoF o) : sr_ia (xcf t ad) (xty t) 62 (o + 4) 120 .int := by
  rcases ho with rfl | rfl
  · exact xa_34 t ad
  · exact xa_47 t ad
theorem xaF_5 (t : Nat → ClassId) (ad : Nat → Nat) {o : Nat} (ho : xoF o) : sr_ia (xcf t ad) (xty t) 62 (o + 5) 120 .int := by
  rcases ho with rfl | rfl
  · exact xa_35 t ad
  · exact xa_48 t ad
theorem xaF_6 (t : Nat → ClassId) (ad : Nat → Nat) {o : Nat} (ho : xoF o) : sr_ia (xcf t ad) (xty t) 62 (o + 6) 120 .int := by
  rcases ho with rfl | rfl
  · exact xa_36 t ad
  · exact xa_49 t ad
theorem xaF_7 (t : Nat → ClassId) (ad : Nat → Nat) {o : Nat} (ho : xoF o) : sr_ia (xcf t ad) (xty t) 62 (o + 7) 120 .int := by
  rcases ho with rfl | rfl
  · exact xa_37 t ad
  · exact xa_50 t ad
theorem xaF_8 (t : Nat → ClassId) (ad : Nat → Nat) {o : Nat} (ho : xoF o) : sr_ia (xcf t ad) (xty t) 62 (o + 8) 120 .int := by
  rcases ho with rfl | rfl
  · exact xa_38 t ad
  · exact xa_51 t ad
theorem xaF_9 (t : Nat → ClassId) (ad : Nat → Nat) {o : Nat} (ho : xoF o) : sr_ia (xcf t ad) (xty t) 62 (o + 9) 120 .int := by
  rcases ho with rfl | rfl
  · exact xa_39 t ad
  · exact xa_52 t ad
theorem xaF_10 (t : Nat → ClassId) (ad : Nat → Nat) {o : Nat} (ho : xoF o) : sr_ia (xcf t ad) (xty t) 62 (o + 10) 120 .int := by
  rcases ho with rfl | rfl
  · exact xa_40 t ad
  · exact xa_53 t ad
theorem xaF_11 (t : Nat → ClassId) (ad : Nat → Nat) {o : Nat} (ho : xoF o) : sr_ia (xcf t ad) (xty t) 62 (o + 11) 120 .int := by
  rcases ho with rfl | rfl
  · exact xa_41 t ad
  · exact xa_54 t ad
theorem xaF_12 (t : Nat → ClassId) (ad : Nat → Nat) {o : Nat} (ho : xoF o) : sr_ia (xcf t ad) (xty t) 62 (o + 12) 120 .boolean := by
  rcases ho with rfl | rfl
  · exact xa_42 t ad
  · exact xa_55 t ad
theorem xobC (t : Nat → ClassId) (ad : Nat → Nat) {o : Nat} (ho : xoC o) : sr_ob vwCl (xcf t ad) 62 o RX0 := by
  rcases ho with rfl | rfl | rfl | rfl | rfl | rfl
  · exact xo_12 t ad
  · exact xo_15 t ad
  · exact xo_18 t ad
  · exact xo_21 t ad
  · exact xo_24 t ad
  · exact xo_27 t ad
theorem xfC_0 (t : Nat → ClassId) (ad : Nat → Nat) {o : Nat} (ho : xoC o) : sr_fi vwCl (xcf t ad) 62 o RX0 TX0 5 0 := by
  rcases ho with rfl | rfl | rfl | rfl | rfl | rfl
  · exact xf_12_0 t ad
  · exact xf_15_0 t ad
  · exact xf_18_0 t ad
  · exact xf_21_0 t ad
  · exact xf_24_0 t ad
  · exact xf_27_0 t ad
theorem xfC_1 (t : Nat → ClassId) (ad : Nat → Nat) {o : Nat} (ho : xoC o) : sr_fi vwCl (xcf t ad) 62 o RX0 TX0 5 1 := by
  rcases ho with rfl | rfl | rfl | rfl | rfl | rfl
  · exact xf_12_1 t ad
  · exact xf_15_1 t ad
  · exact xf_18_1 t ad
  · exact xf_21_1 t ad
  · exact xf_24_1 t ad
  · exact xf_27_1 t ad
theorem xfC_2 (t : Nat → ClassId) (ad : Nat → Nat) {o : Nat} (ho : xoC o) : sr_fi vwCl (xcf t ad) 62 o RX0 TX0 5 2 := by
  rcases ho with rfl | rfl | rfl | rfl | rfl | rfl
  · exact xf_12_2 t ad
  · exact xf_15_2 t ad
  · exact xf_18_2 t ad
  · exact xf_21_2 t ad
  · exact xf_24_2 t ad
  · exact xf_27_2 t ad
theorem xfC_3 (t : Nat → ClassId) (ad : Nat → Nat) {o : Nat} (ho : xoC o) : sr_fr vwCl (xcf t ad) 62 o RX0 TX0 5 3 (ad (o + 1)) := by
  rcases ho with rfl | rfl | rfl | rfl | rfl | rfl
  · exact xf_12_3 t ad
  · exact xf_15_3 t ad
  · exact xf_18_3 t ad
  · exact xf_21_3 t ad
  · exact xf_24_3 t ad
  · exact xf_27_3 t ad
theorem xfC_4 (t : Nat → ClassId) (ad : Nat → Nat) {o : Nat} (ho : xoC o) : sr_fr vwCl (xcf t ad) 62 o RX0 TX0 5 4 (ad (o + 2)) := by
  rcases ho with rfl | rfl | rfl | rfl | rfl | rfl
  · exact xf_12_4 t ad
  · exact xf_15_4 t ad
  · exact xf_18_4 t ad
  · exact xf_21_4 t ad
  · exact xf_24_4 t ad
  · exact xf_27_4 t ad
theorem xaC_1 (t : Nat → ClassId) (ad : Nat → Nat) {o : Nat} (ho : xoC o) : sr_ja (xcf t ad) (xty t) 62 (o + 1) 60 := by
  rcases ho with rfl | rfl | rfl | rfl | rfl | rfl
  · exact xa_13 t ad
  · exact xa_16 t ad
  · exact xa_19 t ad
  · exact xa_22 t ad
  · exact xa_25 t ad
  · exact xa_28 t ad
theorem xaC_2 (t : Nat → ClassId) (ad : Nat → Nat) {o : Nat} (ho : xoC o) : sr_ia (xcf t ad) (xty t) 62 (o + 2) 60 .byte := by
  rcases ho with rfl | rfl | rfl | rfl | rfl | rfl
  · exact xa_14 t ad
  · exact xa_17 t ad
  · exact xa_20 t ad
  · exact xa_23 t ad
  · exact xa_26 t ad
  · exact xa_29 t ad
theorem sr_goodV {own : String} {idx : Nat} {C : String} {y : MethodName} {cc : ByteArray} {maxL : Nat} {ret : Option FieldType} (h1 : (.methodLink own idx y : Cond) ∈ sr_tbl) (h2 : (.instanceMethod y : Cond) ∈ sr_tbl) (h3 : (.selects C y y : Cond) ∈ sr_tbl) (h4 : (.initialized C : Cond) ∈ sr_tbl) (h5 : (.code y cc maxL ret : Cond) ∈ sr_tbl) : GoodIn sr_tbl (wsV own idx C y (.code y cc maxL ret :: sr_tbl)) := by
  intro w hw
  have hm : w ∈ sr_tbl := by
    simp only [wsV, List.mem_append, List.mem_cons, List.not_mem_nil, or_false] at hw
    rcases hw with (rfl | rfl | rfl | rfl) | rfl | hw <;> assumption
  exact ⟨hm, good_of_word (List.all_eq_true.mp lw_good w hm)⟩
theorem sr_goodS {own : String} {idx : Nat} {y : MethodName} {cc : ByteArray} {maxL : Nat} {ret : Option FieldType} (h1 : (.methodLink own idx y : Cond) ∈ sr_tbl) (h2 : (.static y : Cond) ∈ sr_tbl) (h4 : (.initialized own : Cond) ∈ sr_tbl) (h5 : (.code y cc maxL ret : Cond) ∈ sr_tbl) : GoodIn sr_tbl (wsS own idx y (.code y cc maxL ret :: sr_tbl)) := by
  intro w hw
  have hm : w ∈ sr_tbl := by
    simp only [wsS, List.mem_append, List.mem_cons, List.not_mem_nil, or_false] at hw
    rcases hw with (rfl | rfl | rfl) | rfl | hw <;> assumption
  exact ⟨hm, good_of_word (List.all_eq_true.mp lw_good w hm)⟩
theorem qdX0_hasNumber : (yX0_hasNumber.cls = RX0 ∧ yX0_hasNumber.cls ≠ "java/lang/invoke/MethodHandle" ∧ yX0_hasNumber.cls ≠ "java/lang/invoke/VarHandle" ∧ (parseMethodDescriptor yX0_hasNumber.desc).map (fun d => d.parameters.length) = some 1) := by decide +kernel
theorem qdX0_isNoNumber : (yX0_isNoNumber.cls = RX0 ∧ yX0_isNoNumber.cls ≠ "java/lang/invoke/MethodHandle" ∧ yX0_isNoNumber.cls ≠ "java/lang/invoke/VarHandle" ∧ (parseMethodDescriptor yX0_isNoNumber.desc).map (fun d => d.parameters.length) = some 1) := by decide +kernel
theorem qdX0_put : (yX0_put.cls = RX0 ∧ yX0_put.cls ≠ "java/lang/invoke/MethodHandle" ∧ yX0_put.cls ≠ "java/lang/invoke/VarHandle" ∧ (parseMethodDescriptor yX0_put.desc).map (fun d => d.parameters.length) = some 3) := by decide +kernel
theorem qdX0_putFrom : (yX0_putFrom.cls = RX0 ∧ yX0_putFrom.cls ≠ "java/lang/invoke/MethodHandle" ∧ yX0_putFrom.cls ≠ "java/lang/invoke/VarHandle" ∧ (parseMethodDescriptor yX0_putFrom.desc).map (fun d => d.parameters.length) = some 4) := by decide +kernel
theorem qdX0_putWild : (yX0_putWild.cls = RX0 ∧ yX0_putWild.cls ≠ "java/lang/invoke/MethodHandle" ∧ yX0_putWild.cls ≠ "java/lang/invoke/VarHandle" ∧ (parseMethodDescriptor yX0_putWild.desc).map (fun d => d.parameters.length) = some 2) := by decide +kernel
theorem qdX0_renew : (yX0_renew.cls = RX0 ∧ yX0_renew.cls ≠ "java/lang/invoke/MethodHandle" ∧ yX0_renew.cls ≠ "java/lang/invoke/VarHandle" ∧ (parseMethodDescriptor yX0_renew.desc).map (fun d => d.parameters.length) = some 2) := by decide +kernel
theorem qdX0_spans : (yX0_spans.cls = RX0 ∧ yX0_spans.cls ≠ "java/lang/invoke/MethodHandle" ∧ yX0_spans.cls ≠ "java/lang/invoke/VarHandle" ∧ (parseMethodDescriptor yX0_spans.desc).map (fun d => d.parameters.length) = some 2) := by decide +kernel
theorem qdX0_wholeOf : (yX0_wholeOf.cls = RX0 ∧ yX0_wholeOf.cls ≠ "java/lang/invoke/MethodHandle" ∧ yX0_wholeOf.cls ≠ "java/lang/invoke/VarHandle" ∧ (parseMethodDescriptor yX0_wholeOf.desc).map (fun d => d.parameters.length) = some 2) := by decide +kernel
theorem qdX1_addLake : (yX1_addLake.cls = RX1 ∧ yX1_addLake.cls ≠ "java/lang/invoke/MethodHandle" ∧ yX1_addLake.cls ≠ "java/lang/invoke/VarHandle" ∧ (parseMethodDescriptor yX1_addLake.desc).map (fun d => d.parameters.length) = some 1) := by decide +kernel
theorem qdX1_advance : (yX1_advance.cls = RX1 ∧ yX1_advance.cls ≠ "java/lang/invoke/MethodHandle" ∧ yX1_advance.cls ≠ "java/lang/invoke/VarHandle" ∧ (parseMethodDescriptor yX1_advance.desc).map (fun d => d.parameters.length) = some 0) := by decide +kernel
theorem qdX1_candidate : (yX1_candidate.cls = RX1 ∧ yX1_candidate.cls ≠ "java/lang/invoke/MethodHandle" ∧ yX1_candidate.cls ≠ "java/lang/invoke/VarHandle" ∧ (parseMethodDescriptor yX1_candidate.desc).map (fun d => d.parameters.length) = some 1) := by decide +kernel
theorem qdX1_countCandidates : (yX1_countCandidates.cls = RX1 ∧ yX1_countCandidates.cls ≠ "java/lang/invoke/MethodHandle" ∧ yX1_countCandidates.cls ≠ "java/lang/invoke/VarHandle" ∧ (parseMethodDescriptor yX1_countCandidates.desc).map (fun d => d.parameters.length) = some 0) := by decide +kernel
theorem qdX1_countCut : (yX1_countCut.cls = RX1 ∧ yX1_countCut.cls ≠ "java/lang/invoke/MethodHandle" ∧ yX1_countCut.cls ≠ "java/lang/invoke/VarHandle" ∧ (parseMethodDescriptor yX1_countCut.desc).map (fun d => d.parameters.length) = some 0) := by decide +kernel
theorem qdX1_countFilled : (yX1_countFilled.cls = RX1 ∧ yX1_countFilled.cls ≠ "java/lang/invoke/MethodHandle" ∧ yX1_countFilled.cls ≠ "java/lang/invoke/VarHandle" ∧ (parseMethodDescriptor yX1_countFilled.desc).map (fun d => d.parameters.length) = some 0) := by decide +kernel
theorem qdX1_cutOff : (yX1_cutOff.cls = RX1 ∧ yX1_cutOff.cls ≠ "java/lang/invoke/MethodHandle" ∧ yX1_cutOff.cls ≠ "java/lang/invoke/VarHandle" ∧ (parseMethodDescriptor yX1_cutOff.desc).map (fun d => d.parameters.length) = some 0) := by decide +kernel
theorem qdX1_drownAround : (yX1_drownAround.cls = RX1 ∧ yX1_drownAround.cls ≠ "java/lang/invoke/MethodHandle" ∧ yX1_drownAround.cls ≠ "java/lang/invoke/VarHandle" ∧ (parseMethodDescriptor yX1_drownAround.desc).map (fun d => d.parameters.length) = some 2) := by decide +kernel
theorem qdX1_firstOutletStep : (yX1_firstOutletStep.cls = RX1 ∧ yX1_firstOutletStep.cls ≠ "java/lang/invoke/MethodHandle" ∧ yX1_firstOutletStep.cls ≠ "java/lang/invoke/VarHandle" ∧ (parseMethodDescriptor yX1_firstOutletStep.desc).map (fun d => d.parameters.length) = some 0) := by decide +kernel
theorem qdX1_greatestRankOpened : (yX1_greatestRankOpened.cls = RX1 ∧ yX1_greatestRankOpened.cls ≠ "java/lang/invoke/MethodHandle" ∧ yX1_greatestRankOpened.cls ≠ "java/lang/invoke/VarHandle" ∧ (parseMethodDescriptor yX1_greatestRankOpened.desc).map (fun d => d.parameters.length) = some 0) := by decide +kernel
theorem qdX1_isCandidate : (yX1_isCandidate.cls = RX1 ∧ yX1_isCandidate.cls ≠ "java/lang/invoke/MethodHandle" ∧ yX1_isCandidate.cls ≠ "java/lang/invoke/VarHandle" ∧ (parseMethodDescriptor yX1_isCandidate.desc).map (fun d => d.parameters.length) = some 1) := by decide +kernel
theorem qdX1_isPreferred : (yX1_isPreferred.cls = RX1 ∧ yX1_isPreferred.cls ≠ "java/lang/invoke/MethodHandle" ∧ yX1_isPreferred.cls ≠ "java/lang/invoke/VarHandle" ∧ (parseMethodDescriptor yX1_isPreferred.desc).map (fun d => d.parameters.length) = some 3) := by decide +kernel
theorem qdX1_leads : (yX1_leads.cls = RX1 ∧ yX1_leads.cls ≠ "java/lang/invoke/MethodHandle" ∧ yX1_leads.cls ≠ "java/lang/invoke/VarHandle" ∧ (parseMethodDescriptor yX1_leads.desc).map (fun d => d.parameters.length) = some 2) := by decide +kernel
theorem qdX1_nextThroat : (yX1_nextThroat.cls = RX1 ∧ yX1_nextThroat.cls ≠ "java/lang/invoke/MethodHandle" ∧ yX1_nextThroat.cls ≠ "java/lang/invoke/VarHandle" ∧ (parseMethodDescriptor yX1_nextThroat.desc).map (fun d => d.parameters.length) = some 0) := by decide +kernel
theorem qdX1_preferredAt : (yX1_preferredAt.cls = RX1 ∧ yX1_preferredAt.cls ≠ "java/lang/invoke/MethodHandle" ∧ yX1_preferredAt.cls ≠ "java/lang/invoke/VarHandle" ∧ (parseMethodDescriptor yX1_preferredAt.desc).map (fun d => d.parameters.length) = some 1) := by decide +kernel
theorem qdX1_reachAround : (yX1_reachAround.cls = RX1 ∧ yX1_reachAround.cls ≠ "java/lang/invoke/MethodHandle" ∧ yX1_reachAround.cls ≠ "java/lang/invoke/VarHandle" ∧ (parseMethodDescriptor yX1_reachAround.desc).map (fun d => d.parameters.length) = some 2) := by decide +kernel
theorem qdX1_reachFromOutlets : (yX1_reachFromOutlets.cls = RX1 ∧ yX1_reachFromOutlets.cls ≠ "java/lang/invoke/MethodHandle" ∧ yX1_reachFromOutlets.cls ≠ "java/lang/invoke/VarHandle" ∧ (parseMethodDescriptor yX1_reachFromOutlets.desc).map (fun d => d.parameters.length) = some 0) := by decide +kernel
theorem qdX1_start : (yX1_start.cls = RX1 ∧ yX1_start.cls ≠ "java/lang/invoke/MethodHandle" ∧ yX1_start.cls ≠ "java/lang/invoke/VarHandle" ∧ (parseMethodDescriptor yX1_start.desc).map (fun d => d.parameters.length) = some 0) := by decide +kernel
theorem qdX1_takeBackTo : (yX1_takeBackTo.cls = RX1 ∧ yX1_takeBackTo.cls ≠ "java/lang/invoke/MethodHandle" ∧ yX1_takeBackTo.cls ≠ "java/lang/invoke/VarHandle" ∧ (parseMethodDescriptor yX1_takeBackTo.desc).map (fun d => d.parameters.length) = some 1) := by decide +kernel
theorem qdX2_across : (yX2_across.cls = RX2 ∧ yX2_across.cls ≠ "java/lang/invoke/MethodHandle" ∧ yX2_across.cls ≠ "java/lang/invoke/VarHandle" ∧ (parseMethodDescriptor yX2_across.desc).map (fun d => d.parameters.length) = some 2) := by decide +kernel
theorem qdX2_addPore : (yX2_addPore.cls = RX2 ∧ yX2_addPore.cls ≠ "java/lang/invoke/MethodHandle" ∧ yX2_addPore.cls ≠ "java/lang/invoke/VarHandle" ∧ (parseMethodDescriptor yX2_addPore.desc).map (fun d => d.parameters.length) = some 1) := by decide +kernel
theorem qdX2_addThroat : (yX2_addThroat.cls = RX2 ∧ yX2_addThroat.cls ≠ "java/lang/invoke/MethodHandle" ∧ yX2_addThroat.cls ≠ "java/lang/invoke/VarHandle" ∧ (parseMethodDescriptor yX2_addThroat.desc).map (fun d => d.parameters.length) = some 2) := by decide +kernel
theorem qdX2_hasPore : (yX2_hasPore.cls = RX2 ∧ yX2_hasPore.cls ≠ "java/lang/invoke/MethodHandle" ∧ yX2_hasPore.cls ≠ "java/lang/invoke/VarHandle" ∧ (parseMethodDescriptor yX2_hasPore.desc).map (fun d => d.parameters.length) = some 1) := by decide +kernel
theorem qdX2_hasThroat : (yX2_hasThroat.cls = RX2 ∧ yX2_hasThroat.cls ≠ "java/lang/invoke/MethodHandle" ∧ yX2_hasThroat.cls ≠ "java/lang/invoke/VarHandle" ∧ (parseMethodDescriptor yX2_hasThroat.desc).map (fun d => d.parameters.length) = some 1) := by decide +kernel
theorem qdX2_isAhead : (yX2_isAhead.cls = RX2 ∧ yX2_isAhead.cls ≠ "java/lang/invoke/MethodHandle" ∧ yX2_isAhead.cls ≠ "java/lang/invoke/VarHandle" ∧ (parseMethodDescriptor yX2_isAhead.desc).map (fun d => d.parameters.length) = some 2) := by decide +kernel
theorem qdX2_isOpen : (yX2_isOpen.cls = RX2 ∧ yX2_isOpen.cls ≠ "java/lang/invoke/MethodHandle" ∧ yX2_isOpen.cls ≠ "java/lang/invoke/VarHandle" ∧ (parseMethodDescriptor yX2_isOpen.desc).map (fun d => d.parameters.length) = some 1) := by decide +kernel
theorem qdX2_listAt : (yX2_listAt.cls = RX2 ∧ yX2_listAt.cls ≠ "java/lang/invoke/MethodHandle" ∧ yX2_listAt.cls ≠ "java/lang/invoke/VarHandle" ∧ (parseMethodDescriptor yX2_listAt.desc).map (fun d => d.parameters.length) = some 2) := by decide +kernel
theorem qdX2_place : (yX2_place.cls = RX2 ∧ yX2_place.cls ≠ "java/lang/invoke/MethodHandle" ∧ yX2_place.cls ≠ "java/lang/invoke/VarHandle" ∧ (parseMethodDescriptor yX2_place.desc).map (fun d => d.parameters.length) = some 2) := by decide +kernel
theorem qdX2_rankIn : (yX2_rankIn.cls = RX2 ∧ yX2_rankIn.cls ≠ "java/lang/invoke/MethodHandle" ∧ yX2_rankIn.cls ≠ "java/lang/invoke/VarHandle" ∧ (parseMethodDescriptor yX2_rankIn.desc).map (fun d => d.parameters.length) = some 1) := by decide +kernel
theorem qdX2_rankOut : (yX2_rankOut.cls = RX2 ∧ yX2_rankOut.cls ≠ "java/lang/invoke/MethodHandle" ∧ yX2_rankOut.cls ≠ "java/lang/invoke/VarHandle" ∧ (parseMethodDescriptor yX2_rankOut.desc).map (fun d => d.parameters.length) = some 1) := by decide +kernel
theorem qdX2_settle : (yX2_settle.cls = RX2 ∧ yX2_settle.cls ≠ "java/lang/invoke/MethodHandle" ∧ yX2_settle.cls ≠ "java/lang/invoke/VarHandle" ∧ (parseMethodDescriptor yX2_settle.desc).map (fun d => d.parameters.length) = some 3) := by decide +kernel
theorem qdX3_branch : (yX3_branch.cls = RX3 ∧ yX3_branch.cls ≠ "java/lang/invoke/MethodHandle" ∧ yX3_branch.cls ≠ "java/lang/invoke/VarHandle" ∧ (parseMethodDescriptor yX3_branch.desc).map (fun d => d.parameters.length) = some 1) := by decide +kernel
theorem qdX3_fill : (yX3_fill.cls = RX3 ∧ yX3_fill.cls ≠ "java/lang/invoke/MethodHandle" ∧ yX3_fill.cls ≠ "java/lang/invoke/VarHandle" ∧ (parseMethodDescriptor yX3_fill.desc).map (fun d => d.parameters.length) = some 2) := by decide +kernel
theorem qdX3_fillNext : (yX3_fillNext.cls = RX3 ∧ yX3_fillNext.cls ≠ "java/lang/invoke/MethodHandle" ∧ yX3_fillNext.cls ≠ "java/lang/invoke/VarHandle" ∧ (parseMethodDescriptor yX3_fillNext.desc).map (fun d => d.parameters.length) = some 0) := by decide +kernel
theorem qdX3_flood : (yX3_flood.cls = RX3 ∧ yX3_flood.cls ≠ "java/lang/invoke/MethodHandle" ∧ yX3_flood.cls ≠ "java/lang/invoke/VarHandle" ∧ (parseMethodDescriptor yX3_flood.desc).map (fun d => d.parameters.length) = some 0) := by decide +kernel
theorem qdX3_rankJoining : (yX3_rankJoining.cls = RX3 ∧ yX3_rankJoining.cls ≠ "java/lang/invoke/MethodHandle" ∧ yX3_rankJoining.cls ≠ "java/lang/invoke/VarHandle" ∧ (parseMethodDescriptor yX3_rankJoining.desc).map (fun d => d.parameters.length) = some 2) := by decide +kernel
theorem qdX3_stand : (yX3_stand.cls = RX3 ∧ yX3_stand.cls ≠ "java/lang/invoke/MethodHandle" ∧ yX3_stand.cls ≠ "java/lang/invoke/VarHandle" ∧ (parseMethodDescriptor yX3_stand.desc).map (fun d => d.parameters.length) = some 0) := by decide +kernel
theorem qdX3_throatOnWay : (yX3_throatOnWay.cls = RX3 ∧ yX3_throatOnWay.cls ≠ "java/lang/invoke/MethodHandle" ∧ yX3_throatOnWay.cls ≠ "java/lang/invoke/VarHandle" ∧ (parseMethodDescriptor yX3_throatOnWay.desc).map (fun d => d.parameters.length) = some 2) := by decide +kernel
theorem qdX3_unite : (yX3_unite.cls = RX3 ∧ yX3_unite.cls ≠ "java/lang/invoke/MethodHandle" ∧ yX3_unite.cls ≠ "java/lang/invoke/VarHandle" ∧ (parseMethodDescriptor yX3_unite.desc).map (fun d => d.parameters.length) = some 1) := by decide +kernel
theorem qdX4_about : (yX4_about.cls = RX4 ∧ yX4_about.cls ≠ "java/lang/invoke/MethodHandle" ∧ yX4_about.cls ≠ "java/lang/invoke/VarHandle" ∧ (parseMethodDescriptor yX4_about.desc).map (fun d => d.parameters.length) = some 2) := by decide +kernel
theorem qdX4_alter : (yX4_alter.cls = RX4 ∧ yX4_alter.cls ≠ "java/lang/invoke/MethodHandle" ∧ yX4_alter.cls ≠ "java/lang/invoke/VarHandle" ∧ (parseMethodDescriptor yX4_alter.desc).map (fun d => d.parameters.length) = some 2) := by decide +kernel
theorem qdX4_begin : (yX4_begin.cls = RX4 ∧ yX4_begin.cls ≠ "java/lang/invoke/MethodHandle" ∧ yX4_begin.cls ≠ "java/lang/invoke/VarHandle" ∧ (parseMethodDescriptor yX4_begin.desc).map (fun d => d.parameters.length) = some 0) := by decide +kernel
theorem qdX4_cell : (yX4_cell.cls = RX4 ∧ yX4_cell.cls ≠ "java/lang/invoke/MethodHandle" ∧ yX4_cell.cls ≠ "java/lang/invoke/VarHandle" ∧ (parseMethodDescriptor yX4_cell.desc).map (fun d => d.parameters.length) = some 4) := by decide +kernel
theorem qdX4_check : (yX4_check.cls = RX4 ∧ yX4_check.cls ≠ "java/lang/invoke/MethodHandle" ∧ yX4_check.cls ≠ "java/lang/invoke/VarHandle" ∧ (parseMethodDescriptor yX4_check.desc).map (fun d => d.parameters.length) = some 0) := by decide +kernel
theorem qdX4_claim : (yX4_claim.cls = RX4 ∧ yX4_claim.cls ≠ "java/lang/invoke/MethodHandle" ∧ yX4_claim.cls ≠ "java/lang/invoke/VarHandle" ∧ (parseMethodDescriptor yX4_claim.desc).map (fun d => d.parameters.length) = some 1) := by decide +kernel
theorem qdX4_copy : (yX4_copy.cls = RX4 ∧ yX4_copy.cls ≠ "java/lang/invoke/MethodHandle" ∧ yX4_copy.cls ≠ "java/lang/invoke/VarHandle" ∧ (parseMethodDescriptor yX4_copy.desc).map (fun d => d.parameters.length) = some 0) := by decide +kernel
theorem qdX4_core : (yX4_core.cls = RX4 ∧ yX4_core.cls ≠ "java/lang/invoke/MethodHandle" ∧ yX4_core.cls ≠ "java/lang/invoke/VarHandle" ∧ (parseMethodDescriptor yX4_core.desc).map (fun d => d.parameters.length) = some 3) := by decide +kernel
theorem qdX4_front : (yX4_front.cls = RX4 ∧ yX4_front.cls ≠ "java/lang/invoke/MethodHandle" ∧ yX4_front.cls ≠ "java/lang/invoke/VarHandle" ∧ (parseMethodDescriptor yX4_front.desc).map (fun d => d.parameters.length) = some 1) := by decide +kernel
theorem qdX4_hasPlace : (yX4_hasPlace.cls = RX4 ∧ yX4_hasPlace.cls ≠ "java/lang/invoke/MethodHandle" ∧ yX4_hasPlace.cls ≠ "java/lang/invoke/VarHandle" ∧ (parseMethodDescriptor yX4_hasPlace.desc).map (fun d => d.parameters.length) = some 1) := by decide +kernel
theorem qdX4_hinder : (yX4_hinder.cls = RX4 ∧ yX4_hinder.cls ≠ "java/lang/invoke/MethodHandle" ∧ yX4_hinder.cls ≠ "java/lang/invoke/VarHandle" ∧ (parseMethodDescriptor yX4_hinder.desc).map (fun d => d.parameters.length) = some 2) := by decide +kernel
theorem qdX4_inlet : (yX4_inlet.cls = RX4 ∧ yX4_inlet.cls ≠ "java/lang/invoke/MethodHandle" ∧ yX4_inlet.cls ≠ "java/lang/invoke/VarHandle" ∧ (parseMethodDescriptor yX4_inlet.desc).map (fun d => d.parameters.length) = some 2) := by decide +kernel
theorem qdX4_join : (yX4_join.cls = RX4 ∧ yX4_join.cls ≠ "java/lang/invoke/MethodHandle" ∧ yX4_join.cls ≠ "java/lang/invoke/VarHandle" ∧ (parseMethodDescriptor yX4_join.desc).map (fun d => d.parameters.length) = some 2) := by decide +kernel
theorem qdX4_lake : (yX4_lake.cls = RX4 ∧ yX4_lake.cls ≠ "java/lang/invoke/MethodHandle" ∧ yX4_lake.cls ≠ "java/lang/invoke/VarHandle" ∧ (parseMethodDescriptor yX4_lake.desc).map (fun d => d.parameters.length) = some 2) := by decide +kernel
theorem qdX4_lose : (yX4_lose.cls = RX4 ∧ yX4_lose.cls ≠ "java/lang/invoke/MethodHandle" ∧ yX4_lose.cls ≠ "java/lang/invoke/VarHandle" ∧ (parseMethodDescriptor yX4_lose.desc).map (fun d => d.parameters.length) = some 1) := by decide +kernel
theorem qdX4_many : (yX4_many.cls = RX4 ∧ yX4_many.cls ≠ "java/lang/invoke/MethodHandle" ∧ yX4_many.cls ≠ "java/lang/invoke/VarHandle" ∧ (parseMethodDescriptor yX4_many.desc).map (fun d => d.parameters.length) = some 1) := by decide +kernel
theorem qdX4_manyInRun : (yX4_manyInRun.cls = RX4 ∧ yX4_manyInRun.cls ≠ "java/lang/invoke/MethodHandle" ∧ yX4_manyInRun.cls ≠ "java/lang/invoke/VarHandle" ∧ (parseMethodDescriptor yX4_manyInRun.desc).map (fun d => d.parameters.length) = some 1) := by decide +kernel
theorem qdX4_mayHinder : (yX4_mayHinder.cls = RX4 ∧ yX4_mayHinder.cls ≠ "java/lang/invoke/MethodHandle" ∧ yX4_mayHinder.cls ≠ "java/lang/invoke/VarHandle" ∧ (parseMethodDescriptor yX4_mayHinder.desc).map (fun d => d.parameters.length) = some 1) := by decide +kernel
theorem qdX4_now : (yX4_now.cls = RX4 ∧ yX4_now.cls ≠ "java/lang/invoke/MethodHandle" ∧ yX4_now.cls ≠ "java/lang/invoke/VarHandle" ∧ (parseMethodDescriptor yX4_now.desc).map (fun d => d.parameters.length) = some 2) := by decide +kernel
theorem qdX4_of : (yX4_of.cls = RX4 ∧ yX4_of.cls ≠ "java/lang/invoke/MethodHandle" ∧ yX4_of.cls ≠ "java/lang/invoke/VarHandle" ∧ (parseMethodDescriptor yX4_of.desc).map (fun d => d.parameters.length) = some 2) := by decide +kernel
theorem qdX4_opened : (yX4_opened.cls = RX4 ∧ yX4_opened.cls ≠ "java/lang/invoke/MethodHandle" ∧ yX4_opened.cls ≠ "java/lang/invoke/VarHandle" ∧ (parseMethodDescriptor yX4_opened.desc).map (fun d => d.parameters.length) = some 1) := by decide +kernel
theorem qdX4_pore : (yX4_pore.cls = RX4 ∧ yX4_pore.cls ≠ "java/lang/invoke/MethodHandle" ∧ yX4_pore.cls ≠ "java/lang/invoke/VarHandle" ∧ (parseMethodDescriptor yX4_pore.desc).map (fun d => d.parameters.length) = some 1) := by decide +kernel
theorem qdX4_pour : (yX4_pour.cls = RX4 ∧ yX4_pour.cls ≠ "java/lang/invoke/MethodHandle" ∧ yX4_pour.cls ≠ "java/lang/invoke/VarHandle" ∧ (parseMethodDescriptor yX4_pour.desc).map (fun d => d.parameters.length) = some 4) := by decide +kernel
theorem qdX4_pourOne : (yX4_pourOne.cls = RX4 ∧ yX4_pourOne.cls ≠ "java/lang/invoke/MethodHandle" ∧ yX4_pourOne.cls ≠ "java/lang/invoke/VarHandle" ∧ (parseMethodDescriptor yX4_pourOne.desc).map (fun d => d.parameters.length) = some 3) := by decide +kernel
theorem qdX4_ranked : (yX4_ranked.cls = RX4 ∧ yX4_ranked.cls ≠ "java/lang/invoke/MethodHandle" ∧ yX4_ranked.cls ≠ "java/lang/invoke/VarHandle" ∧ (parseMethodDescriptor yX4_ranked.desc).map (fun d => d.parameters.length) = some 1) := by decide +kernel
theorem qdX4_run : (yX4_run.cls = RX4 ∧ yX4_run.cls ≠ "java/lang/invoke/MethodHandle" ∧ yX4_run.cls ≠ "java/lang/invoke/VarHandle" ∧ (parseMethodDescriptor yX4_run.desc).map (fun d => d.parameters.length) = some 1) := by decide +kernel
theorem qdX4_shut : (yX4_shut.cls = RX4 ∧ yX4_shut.cls ≠ "java/lang/invoke/MethodHandle" ∧ yX4_shut.cls ≠ "java/lang/invoke/VarHandle" ∧ (parseMethodDescriptor yX4_shut.desc).map (fun d => d.parameters.length) = some 2) := by decide +kernel
theorem qdX4_splice : (yX4_splice.cls = RX4 ∧ yX4_splice.cls ≠ "java/lang/invoke/MethodHandle" ∧ yX4_splice.cls ≠ "java/lang/invoke/VarHandle" ∧ (parseMethodDescriptor yX4_splice.desc).map (fun d => d.parameters.length) = some 5) := by decide +kernel
theorem qdX4_step : (yX4_step.cls = RX4 ∧ yX4_step.cls ≠ "java/lang/invoke/MethodHandle" ∧ yX4_step.cls ≠ "java/lang/invoke/VarHandle" ∧ (parseMethodDescriptor yX4_step.desc).map (fun d => d.parameters.length) = some 0) := by decide +kernel
theorem qdX4_throat : (yX4_throat.cls = RX4 ∧ yX4_throat.cls ≠ "java/lang/invoke/MethodHandle" ∧ yX4_throat.cls ≠ "java/lang/invoke/VarHandle" ∧ (parseMethodDescriptor yX4_throat.desc).map (fun d => d.parameters.length) = some 2) := by decide +kernel
theorem qdX4_through : (yX4_through.cls = RX4 ∧ yX4_through.cls ≠ "java/lang/invoke/MethodHandle" ∧ yX4_through.cls ≠ "java/lang/invoke/VarHandle" ∧ (parseMethodDescriptor yX4_through.desc).map (fun d => d.parameters.length) = some 0) := by decide +kernel
theorem qdX4_told : (yX4_told.cls = RX4 ∧ yX4_told.cls ≠ "java/lang/invoke/MethodHandle" ∧ yX4_told.cls ≠ "java/lang/invoke/VarHandle" ∧ (parseMethodDescriptor yX4_told.desc).map (fun d => d.parameters.length) = some 2) := by decide +kernel
theorem qdX4_trapping : (yX4_trapping.cls = RX4 ∧ yX4_trapping.cls ≠ "java/lang/invoke/MethodHandle" ∧ yX4_trapping.cls ≠ "java/lang/invoke/VarHandle" ∧ (parseMethodDescriptor yX4_trapping.desc).map (fun d => d.parameters.length) = some 1) := by decide +kernel
theorem qdX4_tree : (yX4_tree.cls = RX4 ∧ yX4_tree.cls ≠ "java/lang/invoke/MethodHandle" ∧ yX4_tree.cls ≠ "java/lang/invoke/VarHandle" ∧ (parseMethodDescriptor yX4_tree.desc).map (fun d => d.parameters.length) = some 1) := by decide +kernel
theorem qdX4_unclaim : (yX4_unclaim.cls = RX4 ∧ yX4_unclaim.cls ≠ "java/lang/invoke/MethodHandle" ∧ yX4_unclaim.cls ≠ "java/lang/invoke/VarHandle" ∧ (parseMethodDescriptor yX4_unclaim.desc).map (fun d => d.parameters.length) = some 0) := by decide +kernel
theorem qdX4_undo : (yX4_undo.cls = RX4 ∧ yX4_undo.cls ≠ "java/lang/invoke/MethodHandle" ∧ yX4_undo.cls ≠ "java/lang/invoke/VarHandle" ∧ (parseMethodDescriptor yX4_undo.desc).map (fun d => d.parameters.length) = some 1) := by decide +kernel
theorem qdX4_way : (yX4_way.cls = RX4 ∧ yX4_way.cls ≠ "java/lang/invoke/MethodHandle" ∧ yX4_way.cls ≠ "java/lang/invoke/VarHandle" ∧ (parseMethodDescriptor yX4_way.desc).map (fun d => d.parameters.length) = some 2) := by decide +kernel
theorem qdX4_wild : (yX4_wild.cls = RX4 ∧ yX4_wild.cls ≠ "java/lang/invoke/MethodHandle" ∧ yX4_wild.cls ≠ "java/lang/invoke/VarHandle" ∧ (parseMethodDescriptor yX4_wild.desc).map (fun d => d.parameters.length) = some 3) := by decide +kernel
theorem qdX4_worst : (yX4_worst.cls = RX4 ∧ yX4_worst.cls ≠ "java/lang/invoke/MethodHandle" ∧ yX4_worst.cls ≠ "java/lang/invoke/VarHandle" ∧ (parseMethodDescriptor yX4_worst.desc).map (fun d => d.parameters.length) = some 1) := by decide +kernel
theorem qdX5_about : (yX5_about.cls = RX5 ∧ yX5_about.cls ≠ "java/lang/invoke/MethodHandle" ∧ yX5_about.cls ≠ "java/lang/invoke/VarHandle" ∧ (parseMethodDescriptor yX5_about.desc).map (fun d => d.parameters.length) = some 2) := by decide +kernel
theorem qdX5_alter : (yX5_alter.cls = RX5 ∧ yX5_alter.cls ≠ "java/lang/invoke/MethodHandle" ∧ yX5_alter.cls ≠ "java/lang/invoke/VarHandle" ∧ (parseMethodDescriptor yX5_alter.desc).map (fun d => d.parameters.length) = some 2) := by decide +kernel
theorem qdX5_apart : (yX5_apart.cls = RX5 ∧ yX5_apart.cls ≠ "java/lang/invoke/MethodHandle" ∧ yX5_apart.cls ≠ "java/lang/invoke/VarHandle" ∧ (parseMethodDescriptor yX5_apart.desc).map (fun d => d.parameters.length) = some 0) := by decide +kernel
theorem qdX5_begin : (yX5_begin.cls = RX5 ∧ yX5_begin.cls ≠ "java/lang/invoke/MethodHandle" ∧ yX5_begin.cls ≠ "java/lang/invoke/VarHandle" ∧ (parseMethodDescriptor yX5_begin.desc).map (fun d => d.parameters.length) = some 0) := by decide +kernel
theorem qdX5_behind : (yX5_behind.cls = RX5 ∧ yX5_behind.cls ≠ "java/lang/invoke/MethodHandle" ∧ yX5_behind.cls ≠ "java/lang/invoke/VarHandle" ∧ (parseMethodDescriptor yX5_behind.desc).map (fun d => d.parameters.length) = some 1) := by decide +kernel
theorem qdX5_bestAt : (yX5_bestAt.cls = RX5 ∧ yX5_bestAt.cls ≠ "java/lang/invoke/MethodHandle" ∧ yX5_bestAt.cls ≠ "java/lang/invoke/VarHandle" ∧ (parseMethodDescriptor yX5_bestAt.desc).map (fun d => d.parameters.length) = some 2) := by decide +kernel
theorem qdX5_cell : (yX5_cell.cls = RX5 ∧ yX5_cell.cls ≠ "java/lang/invoke/MethodHandle" ∧ yX5_cell.cls ≠ "java/lang/invoke/VarHandle" ∧ (parseMethodDescriptor yX5_cell.desc).map (fun d => d.parameters.length) = some 4) := by decide +kernel
theorem qdX5_check : (yX5_check.cls = RX5 ∧ yX5_check.cls ≠ "java/lang/invoke/MethodHandle" ∧ yX5_check.cls ≠ "java/lang/invoke/VarHandle" ∧ (parseMethodDescriptor yX5_check.desc).map (fun d => d.parameters.length) = some 0) := by decide +kernel
theorem qdX5_claim : (yX5_claim.cls = RX5 ∧ yX5_claim.cls ≠ "java/lang/invoke/MethodHandle" ∧ yX5_claim.cls ≠ "java/lang/invoke/VarHandle" ∧ (parseMethodDescriptor yX5_claim.desc).map (fun d => d.parameters.length) = some 1) := by decide +kernel
theorem qdX5_copy : (yX5_copy.cls = RX5 ∧ yX5_copy.cls ≠ "java/lang/invoke/MethodHandle" ∧ yX5_copy.cls ≠ "java/lang/invoke/VarHandle" ∧ (parseMethodDescriptor yX5_copy.desc).map (fun d => d.parameters.length) = some 0) := by decide +kernel
theorem qdX5_core : (yX5_core.cls = RX5 ∧ yX5_core.cls ≠ "java/lang/invoke/MethodHandle" ∧ yX5_core.cls ≠ "java/lang/invoke/VarHandle" ∧ (parseMethodDescriptor yX5_core.desc).map (fun d => d.parameters.length) = some 3) := by decide +kernel
theorem qdX5_countPores : (yX5_countPores.cls = RX5 ∧ yX5_countPores.cls ≠ "java/lang/invoke/MethodHandle" ∧ yX5_countPores.cls ≠ "java/lang/invoke/VarHandle" ∧ (parseMethodDescriptor yX5_countPores.desc).map (fun d => d.parameters.length) = some 1) := by decide +kernel
theorem qdX5_front : (yX5_front.cls = RX5 ∧ yX5_front.cls ≠ "java/lang/invoke/MethodHandle" ∧ yX5_front.cls ≠ "java/lang/invoke/VarHandle" ∧ (parseMethodDescriptor yX5_front.desc).map (fun d => d.parameters.length) = some 1) := by decide +kernel
theorem qdX5_hasRow : (yX5_hasRow.cls = RX5 ∧ yX5_hasRow.cls ≠ "java/lang/invoke/MethodHandle" ∧ yX5_hasRow.cls ≠ "java/lang/invoke/VarHandle" ∧ (parseMethodDescriptor yX5_hasRow.desc).map (fun d => d.parameters.length) = some 3) := by decide +kernel
theorem qdX5_hinder : (yX5_hinder.cls = RX5 ∧ yX5_hinder.cls ≠ "java/lang/invoke/MethodHandle" ∧ yX5_hinder.cls ≠ "java/lang/invoke/VarHandle" ∧ (parseMethodDescriptor yX5_hinder.desc).map (fun d => d.parameters.length) = some 2) := by decide +kernel
theorem qdX5_inlet : (yX5_inlet.cls = RX5 ∧ yX5_inlet.cls ≠ "java/lang/invoke/MethodHandle" ∧ yX5_inlet.cls ≠ "java/lang/invoke/VarHandle" ∧ (parseMethodDescriptor yX5_inlet.desc).map (fun d => d.parameters.length) = some 2) := by decide +kernel
theorem qdX5_isCandidate : (yX5_isCandidate.cls = RX5 ∧ yX5_isCandidate.cls ≠ "java/lang/invoke/MethodHandle" ∧ yX5_isCandidate.cls ≠ "java/lang/invoke/VarHandle" ∧ (parseMethodDescriptor yX5_isCandidate.desc).map (fun d => d.parameters.length) = some 1) := by decide +kernel
theorem qdX5_isCore : (yX5_isCore.cls = RX5 ∧ yX5_isCore.cls ≠ "java/lang/invoke/MethodHandle" ∧ yX5_isCore.cls ≠ "java/lang/invoke/VarHandle" ∧ (parseMethodDescriptor yX5_isCore.desc).map (fun d => d.parameters.length) = some 1) := by decide +kernel
theorem qdX5_isFilled : (yX5_isFilled.cls = RX5 ∧ yX5_isFilled.cls ≠ "java/lang/invoke/MethodHandle" ∧ yX5_isFilled.cls ≠ "java/lang/invoke/VarHandle" ∧ (parseMethodDescriptor yX5_isFilled.desc).map (fun d => d.parameters.length) = some 1) := by decide +kernel
theorem qdX5_isFree : (yX5_isFree.cls = RX5 ∧ yX5_isFree.cls ≠ "java/lang/invoke/MethodHandle" ∧ yX5_isFree.cls ≠ "java/lang/invoke/VarHandle" ∧ (parseMethodDescriptor yX5_isFree.desc).map (fun d => d.parameters.length) = some 1) := by decide +kernel
theorem qdX5_isLess : (yX5_isLess.cls = RX5 ∧ yX5_isLess.cls ≠ "java/lang/invoke/MethodHandle" ∧ yX5_isLess.cls ≠ "java/lang/invoke/VarHandle" ∧ (parseMethodDescriptor yX5_isLess.desc).map (fun d => d.parameters.length) = some 2) := by decide +kernel
theorem qdX5_isPore : (yX5_isPore.cls = RX5 ∧ yX5_isPore.cls ≠ "java/lang/invoke/MethodHandle" ∧ yX5_isPore.cls ≠ "java/lang/invoke/VarHandle" ∧ (parseMethodDescriptor yX5_isPore.desc).map (fun d => d.parameters.length) = some 1) := by decide +kernel
theorem qdX5_isThroat : (yX5_isThroat.cls = RX5 ∧ yX5_isThroat.cls ≠ "java/lang/invoke/MethodHandle" ∧ yX5_isThroat.cls ≠ "java/lang/invoke/VarHandle" ∧ (parseMethodDescriptor yX5_isThroat.desc).map (fun d => d.parameters.length) = some 1) := by decide +kernel
theorem qdX5_join : (yX5_join.cls = RX5 ∧ yX5_join.cls ≠ "java/lang/invoke/MethodHandle" ∧ yX5_join.cls ≠ "java/lang/invoke/VarHandle" ∧ (parseMethodDescriptor yX5_join.desc).map (fun d => d.parameters.length) = some 2) := by decide +kernel
theorem qdX5_keep : (yX5_keep.cls = RX5 ∧ yX5_keep.cls ≠ "java/lang/invoke/MethodHandle" ∧ yX5_keep.cls ≠ "java/lang/invoke/VarHandle" ∧ (parseMethodDescriptor yX5_keep.desc).map (fun d => d.parameters.length) = some 1) := by decide +kernel
theorem qdX5_lake : (yX5_lake.cls = RX5 ∧ yX5_lake.cls ≠ "java/lang/invoke/MethodHandle" ∧ yX5_lake.cls ≠ "java/lang/invoke/VarHandle" ∧ (parseMethodDescriptor yX5_lake.desc).map (fun d => d.parameters.length) = some 2) := by decide +kernel
theorem qdX5_leads : (yX5_leads.cls = RX5 ∧ yX5_leads.cls ≠ "java/lang/invoke/MethodHandle" ∧ yX5_leads.cls ≠ "java/lang/invoke/VarHandle" ∧ (parseMethodDescriptor yX5_leads.desc).map (fun d => d.parameters.length) = some 2) := by decide +kernel
theorem qdX5_lose : (yX5_lose.cls = RX5 ∧ yX5_lose.cls ≠ "java/lang/invoke/MethodHandle" ∧ yX5_lose.cls ≠ "java/lang/invoke/VarHandle" ∧ (parseMethodDescriptor yX5_lose.desc).map (fun d => d.parameters.length) = some 1) := by decide +kernel
theorem qdX5_many : (yX5_many.cls = RX5 ∧ yX5_many.cls ≠ "java/lang/invoke/MethodHandle" ∧ yX5_many.cls ≠ "java/lang/invoke/VarHandle" ∧ (parseMethodDescriptor yX5_many.desc).map (fun d => d.parameters.length) = some 1) := by decide +kernel
theorem qdX5_nextThroat : (yX5_nextThroat.cls = RX5 ∧ yX5_nextThroat.cls ≠ "java/lang/invoke/MethodHandle" ∧ yX5_nextThroat.cls ≠ "java/lang/invoke/VarHandle" ∧ (parseMethodDescriptor yX5_nextThroat.desc).map (fun d => d.parameters.length) = some 0) := by decide +kernel
theorem qdX5_now : (yX5_now.cls = RX5 ∧ yX5_now.cls ≠ "java/lang/invoke/MethodHandle" ∧ yX5_now.cls ≠ "java/lang/invoke/VarHandle" ∧ (parseMethodDescriptor yX5_now.desc).map (fun d => d.parameters.length) = some 2) := by decide +kernel
theorem qdX5_of : (yX5_of.cls = RX5 ∧ yX5_of.cls ≠ "java/lang/invoke/MethodHandle" ∧ yX5_of.cls ≠ "java/lang/invoke/VarHandle" ∧ (parseMethodDescriptor yX5_of.desc).map (fun d => d.parameters.length) = some 2) := by decide +kernel
theorem qdX5_open : (yX5_open.cls = RX5 ∧ yX5_open.cls ≠ "java/lang/invoke/MethodHandle" ∧ yX5_open.cls ≠ "java/lang/invoke/VarHandle" ∧ (parseMethodDescriptor yX5_open.desc).map (fun d => d.parameters.length) = some 1) := by decide +kernel
theorem qdX5_opened : (yX5_opened.cls = RX5 ∧ yX5_opened.cls ≠ "java/lang/invoke/MethodHandle" ∧ yX5_opened.cls ≠ "java/lang/invoke/VarHandle" ∧ (parseMethodDescriptor yX5_opened.desc).map (fun d => d.parameters.length) = some 1) := by decide +kernel
theorem qdX5_plainRun : (yX5_plainRun.cls = RX5 ∧ yX5_plainRun.cls ≠ "java/lang/invoke/MethodHandle" ∧ yX5_plainRun.cls ≠ "java/lang/invoke/VarHandle" ∧ (parseMethodDescriptor yX5_plainRun.desc).map (fun d => d.parameters.length) = some 0) := by decide +kernel
theorem qdX5_pore : (yX5_pore.cls = RX5 ∧ yX5_pore.cls ≠ "java/lang/invoke/MethodHandle" ∧ yX5_pore.cls ≠ "java/lang/invoke/VarHandle" ∧ (parseMethodDescriptor yX5_pore.desc).map (fun d => d.parameters.length) = some 1) := by decide +kernel
theorem qdX5_pour : (yX5_pour.cls = RX5 ∧ yX5_pour.cls ≠ "java/lang/invoke/MethodHandle" ∧ yX5_pour.cls ≠ "java/lang/invoke/VarHandle" ∧ (parseMethodDescriptor yX5_pour.desc).map (fun d => d.parameters.length) = some 4) := by decide +kernel
theorem qdX5_rank : (yX5_rank.cls = RX5 ∧ yX5_rank.cls ≠ "java/lang/invoke/MethodHandle" ∧ yX5_rank.cls ≠ "java/lang/invoke/VarHandle" ∧ (parseMethodDescriptor yX5_rank.desc).map (fun d => d.parameters.length) = some 1) := by decide +kernel
theorem qdX5_ranked : (yX5_ranked.cls = RX5 ∧ yX5_ranked.cls ≠ "java/lang/invoke/MethodHandle" ∧ yX5_ranked.cls ≠ "java/lang/invoke/VarHandle" ∧ (parseMethodDescriptor yX5_ranked.desc).map (fun d => d.parameters.length) = some 1) := by decide +kernel
theorem qdX5_run : (yX5_run.cls = RX5 ∧ yX5_run.cls ≠ "java/lang/invoke/MethodHandle" ∧ yX5_run.cls ≠ "java/lang/invoke/VarHandle" ∧ (parseMethodDescriptor yX5_run.desc).map (fun d => d.parameters.length) = some 1) := by decide +kernel
theorem qdX5_shut : (yX5_shut.cls = RX5 ∧ yX5_shut.cls ≠ "java/lang/invoke/MethodHandle" ∧ yX5_shut.cls ≠ "java/lang/invoke/VarHandle" ∧ (parseMethodDescriptor yX5_shut.desc).map (fun d => d.parameters.length) = some 2) := by decide +kernel
theorem qdX5_splice : (yX5_splice.cls = RX5 ∧ yX5_splice.cls ≠ "java/lang/invoke/MethodHandle" ∧ yX5_splice.cls ≠ "java/lang/invoke/VarHandle" ∧ (parseMethodDescriptor yX5_splice.desc).map (fun d => d.parameters.length) = some 5) := by decide +kernel
theorem qdX5_spreadLake : (yX5_spreadLake.cls = RX5 ∧ yX5_spreadLake.cls ≠ "java/lang/invoke/MethodHandle" ∧ yX5_spreadLake.cls ≠ "java/lang/invoke/VarHandle" ∧ (parseMethodDescriptor yX5_spreadLake.desc).map (fun d => d.parameters.length) = some 1) := by decide +kernel
theorem qdX5_start : (yX5_start.cls = RX5 ∧ yX5_start.cls ≠ "java/lang/invoke/MethodHandle" ∧ yX5_start.cls ≠ "java/lang/invoke/VarHandle" ∧ (parseMethodDescriptor yX5_start.desc).map (fun d => d.parameters.length) = some 0) := by decide +kernel
theorem qdX5_step : (yX5_step.cls = RX5 ∧ yX5_step.cls ≠ "java/lang/invoke/MethodHandle" ∧ yX5_step.cls ≠ "java/lang/invoke/VarHandle" ∧ (parseMethodDescriptor yX5_step.desc).map (fun d => d.parameters.length) = some 0) := by decide +kernel
theorem qdX5_tellLakes : (yX5_tellLakes.cls = RX5 ∧ yX5_tellLakes.cls ≠ "java/lang/invoke/MethodHandle" ∧ yX5_tellLakes.cls ≠ "java/lang/invoke/VarHandle" ∧ (parseMethodDescriptor yX5_tellLakes.desc).map (fun d => d.parameters.length) = some 0) := by decide +kernel
theorem qdX5_throat : (yX5_throat.cls = RX5 ∧ yX5_throat.cls ≠ "java/lang/invoke/MethodHandle" ∧ yX5_throat.cls ≠ "java/lang/invoke/VarHandle" ∧ (parseMethodDescriptor yX5_throat.desc).map (fun d => d.parameters.length) = some 2) := by decide +kernel
theorem qdX5_through : (yX5_through.cls = RX5 ∧ yX5_through.cls ≠ "java/lang/invoke/MethodHandle" ∧ yX5_through.cls ≠ "java/lang/invoke/VarHandle" ∧ (parseMethodDescriptor yX5_through.desc).map (fun d => d.parameters.length) = some 0) := by decide +kernel
theorem qdX5_tie : (yX5_tie.cls = RX5 ∧ yX5_tie.cls ≠ "java/lang/invoke/MethodHandle" ∧ yX5_tie.cls ≠ "java/lang/invoke/VarHandle" ∧ (parseMethodDescriptor yX5_tie.desc).map (fun d => d.parameters.length) = some 1) := by decide +kernel
theorem qdX5_told : (yX5_told.cls = RX5 ∧ yX5_told.cls ≠ "java/lang/invoke/MethodHandle" ∧ yX5_told.cls ≠ "java/lang/invoke/VarHandle" ∧ (parseMethodDescriptor yX5_told.desc).map (fun d => d.parameters.length) = some 2) := by decide +kernel
theorem qdX5_trap : (yX5_trap.cls = RX5 ∧ yX5_trap.cls ≠ "java/lang/invoke/MethodHandle" ∧ yX5_trap.cls ≠ "java/lang/invoke/VarHandle" ∧ (parseMethodDescriptor yX5_trap.desc).map (fun d => d.parameters.length) = some 0) := by decide +kernel
theorem qdX5_trapping : (yX5_trapping.cls = RX5 ∧ yX5_trapping.cls ≠ "java/lang/invoke/MethodHandle" ∧ yX5_trapping.cls ≠ "java/lang/invoke/VarHandle" ∧ (parseMethodDescriptor yX5_trapping.desc).map (fun d => d.parameters.length) = some 1) := by decide +kernel
theorem qdX5_tree : (yX5_tree.cls = RX5 ∧ yX5_tree.cls ≠ "java/lang/invoke/MethodHandle" ∧ yX5_tree.cls ≠ "java/lang/invoke/VarHandle" ∧ (parseMethodDescriptor yX5_tree.desc).map (fun d => d.parameters.length) = some 1) := by decide +kernel
theorem qdX5_unclaim : (yX5_unclaim.cls = RX5 ∧ yX5_unclaim.cls ≠ "java/lang/invoke/MethodHandle" ∧ yX5_unclaim.cls ≠ "java/lang/invoke/VarHandle" ∧ (parseMethodDescriptor yX5_unclaim.desc).map (fun d => d.parameters.length) = some 0) := by decide +kernel
theorem qdX5_undo : (yX5_undo.cls = RX5 ∧ yX5_undo.cls ≠ "java/lang/invoke/MethodHandle" ∧ yX5_undo.cls ≠ "java/lang/invoke/VarHandle" ∧ (parseMethodDescriptor yX5_undo.desc).map (fun d => d.parameters.length) = some 1) := by decide +kernel
theorem qdX5_way : (yX5_way.cls = RX5 ∧ yX5_way.cls ≠ "java/lang/invoke/MethodHandle" ∧ yX5_way.cls ≠ "java/lang/invoke/VarHandle" ∧ (parseMethodDescriptor yX5_way.desc).map (fun d => d.parameters.length) = some 2) := by decide +kernel
theorem qdX5_wholeOf : (yX5_wholeOf.cls = RX5 ∧ yX5_wholeOf.cls ≠ "java/lang/invoke/MethodHandle" ∧ yX5_wholeOf.cls ≠ "java/lang/invoke/VarHandle" ∧ (parseMethodDescriptor yX5_wholeOf.desc).map (fun d => d.parameters.length) = some 2) := by decide +kernel
theorem qdX5_wild : (yX5_wild.cls = RX5 ∧ yX5_wild.cls ≠ "java/lang/invoke/MethodHandle" ∧ yX5_wild.cls ≠ "java/lang/invoke/VarHandle" ∧ (parseMethodDescriptor yX5_wild.desc).map (fun d => d.parameters.length) = some 3) := by decide +kernel
theorem qdX5_worst : (yX5_worst.cls = RX5 ∧ yX5_worst.cls ≠ "java/lang/invoke/MethodHandle" ∧ yX5_worst.cls ≠ "java/lang/invoke/VarHandle" ∧ (parseMethodDescriptor yX5_worst.desc).map (fun d => d.parameters.length) = some 1) := by decide +kernel
end
section
noncomputable def f2_hasPore (a1 : Int32) (M : sr_M) : Option (Int32) :=
if a1 < 0 then
(some 0)
else
(sr_bnd (M.1 1 0) fun v1 =>
if v1 ≤ a1 then
(some 0)
else
(some 1))
set_option maxHeartbeats 4000000 in
set_option maxRecDepth 100000 in
theorem k2_hasPore (l : Launch) (D : va_G) (t : Nat → ClassId) (ad : Nat → Nat) (a1 : Int32) (M : sr_M) (r : Int32) (h : f2_hasPore a1 M = some r) : sr_Mi l D vwCl (xty t) ad (xcf t ad) 62 yX2_hasPore (.code yX2_hasPore cX2_hasPore 2 (some .boolean) :: sr_tbl) ({ frames := 0, cells := 0, slots := 0, locals := 0 }) [.ref (ad 1), .int a1] M r M := by
  refine sr_open_i (cc := cX2_hasPore) (maxL := 2) (by decide) rfl (Nat.le_of_ble_eq_true rfl) ?_
  intro p e s m args below meth c A Q ls hx hb hml hts0 hown hA hw hl ret
  have hts : ∀ w ∈ sr_tbl, w.before args s = true := fun w hw => hts0 w (List.mem_cons_of_mem _ hw)
  have hown : s.vm.findClass RX2 = some m.cls := hown
  have hl : lv_has ls 2 [(0, .ref (ad 1)), (1, .int a1)] := hl
  have hw : xH D t ad A s M s.heap [] := hw
  unfold f2_hasPore at h
  refine lv_iload_n hx hb dX2_hasPore_0 rfl (lv_at hl 1 rfl) ?_
  refine lv_if_lt (tgt := 16) hx hb dX2_hasPore_1 (by decide) (fun hc => ?_) (fun hc => ?_)
  · have h := sr_ifp h hc
    refine lv_iconst (v := 0) hx hb dX2_hasPore_16 (by decide) ?_
    obtain rfl := Option.some.inj h
    exact ret _ _ _ _ hw rfl dX2_hasPore_17
  · have h := sr_ifn h hc
    refine lv_iload_n hx hb dX2_hasPore_4 rfl (lv_at hl 1 rfl) ?_
    refine lv_aload_n hx hb dX2_hasPore_5 rfl (lv_at hl 0 rfl) ?_
    refine sr_geti hx hb hts qzX2 hown hw (xf_1_0 t ad) (hts _ qfX2_40) h dX2_hasPore_6 (fun v1 h => ?_)
    refine lv_icmp_ge (tgt := 16) hx hb dX2_hasPore_9 (by decide) (fun hc => ?_) (fun hc => ?_)
    · have h := sr_ifp h hc
      refine lv_iconst (v := 0) hx hb dX2_hasPore_16 (by decide) ?_
      obtain rfl := Option.some.inj h
      exact ret _ _ _ _ hw rfl dX2_hasPore_17
    · have h := sr_ifn h hc
      refine lv_iconst (v := 1) hx hb dX2_hasPore_12 (by decide) ?_
      refine lv_goto (tgt := 17) hx hb dX2_hasPore_13 (by decide) ?_
      obtain rfl := Option.some.inj h
      exact ret _ _ _ _ hw rfl dX2_hasPore_17

noncomputable def f2_hasThroat (a1 : Int32) (M : sr_M) : Option (Int32) :=
if a1 < 0 then
(some 0)
else
(sr_bnd (M.1 1 3) fun v1 =>
if v1 ≤ a1 then
(some 0)
else
(some 1))
set_option maxHeartbeats 4000000 in
set_option maxRecDepth 100000 in
theorem k2_hasThroat (l : Launch) (D : va_G) (t : Nat → ClassId) (ad : Nat → Nat) (a1 : Int32) (M : sr_M) (r : Int32) (h : f2_hasThroat a1 M = some r) : sr_Mi l D vwCl (xty t) ad (xcf t ad) 62 yX2_hasThroat (.code yX2_hasThroat cX2_hasThroat 2 (some .boolean) :: sr_tbl) ({ frames := 0, cells := 0, slots := 0, locals := 0 }) [.ref (ad 1), .int a1] M r M := by
  refine sr_open_i (cc := cX2_hasThroat) (maxL := 2) (by decide) rfl (Nat.le_of_ble_eq_true rfl) ?_
  intro p e s m args below meth c A Q ls hx hb hml hts0 hown hA hw hl ret
  have hts : ∀ w ∈ sr_tbl, w.before args s = true := fun w hw => hts0 w (List.mem_cons_of_mem _ hw)
  have hown : s.vm.findClass RX2 = some m.cls := hown
  have hl : lv_has ls 2 [(0, .ref (ad 1)), (1, .int a1)] := hl
  have hw : xH D t ad A s M s.heap [] := hw
  unfold f2_hasThroat at h
  refine lv_iload_n hx hb dX2_hasThroat_0 rfl (lv_at hl 1 rfl) ?_
  refine lv_if_lt (tgt := 16) hx hb dX2_hasThroat_1 (by decide) (fun hc => ?_) (fun hc => ?_)
  · have h := sr_ifp h hc
    refine lv_iconst (v := 0) hx hb dX2_hasThroat_16 (by decide) ?_
    obtain rfl := Option.some.inj h
    exact ret _ _ _ _ hw rfl dX2_hasThroat_17
  · have h := sr_ifn h hc
    refine lv_iload_n hx hb dX2_hasThroat_4 rfl (lv_at hl 1 rfl) ?_
    refine lv_aload_n hx hb dX2_hasThroat_5 rfl (lv_at hl 0 rfl) ?_
    refine sr_geti hx hb hts qzX2 hown hw (xf_1_3 t ad) (hts _ qfX2_44) h dX2_hasThroat_6 (fun v1 h => ?_)
    refine lv_icmp_ge (tgt := 16) hx hb dX2_hasThroat_9 (by decide) (fun hc => ?_) (fun hc => ?_)
    · have h := sr_ifp h hc
      refine lv_iconst (v := 0) hx hb dX2_hasThroat_16 (by decide) ?_
      obtain rfl := Option.some.inj h
      exact ret _ _ _ _ hw rfl dX2_hasThroat_17
    · have h := sr_ifn h hc
      refine lv_iconst (v := 1) hx hb dX2_hasThroat_12 (by decide) ?_
      refine lv_goto (tgt := 17) hx hb dX2_hasThroat_13 (by decide) ?_
      obtain rfl := Option.some.inj h
      exact ret _ _ _ _ hw rfl dX2_hasThroat_17

noncomputable def f2_isOpen (a1 : Int32) (M : sr_M) : Option (Int32) :=
sr_ld a1 300 (M.1 7) fun v1 =>
if v1 < 0 then
(some 0)
else
(some 1)
set_option maxHeartbeats 4000000 in
set_option maxRecDepth 100000 in
theorem k2_isOpen (l : Launch) (D : va_G) (t : Nat → ClassId) (ad : Nat → Nat) (a1 : Int32) (M : sr_M) (r : Int32) (h : f2_isOpen a1 M = some r) : sr_Mi l D vwCl (xty t) ad (xcf t ad) 62 yX2_isOpen (.code yX2_isOpen cX2_isOpen 2 (some .boolean) :: sr_tbl) ({ frames := 0, cells := 0, slots := 0, locals := 0 }) [.ref (ad 1), .int a1] M r M := by
  refine sr_open_i (cc := cX2_isOpen) (maxL := 2) (by decide) rfl (Nat.le_of_ble_eq_true rfl) ?_
  intro p e s m args below meth c A Q ls hx hb hml hts0 hown hA hw hl ret
  have hts : ∀ w ∈ sr_tbl, w.before args s = true := fun w hw => hts0 w (List.mem_cons_of_mem _ hw)
  have hown : s.vm.findClass RX2 = some m.cls := hown
  have hl : lv_has ls 2 [(0, .ref (ad 1)), (1, .int a1)] := hl
  have hw : xH D t ad A s M s.heap [] := hw
  unfold f2_isOpen at h
  refine lv_aload_n hx hb dX2_isOpen_0 rfl (lv_at hl 0 rfl) ?_
  refine sr_getr hx hb hts qzX2 hown hw (xf_1_7 t ad) (hts _ qfX2_28) dX2_isOpen_1 ?_
  refine lv_iload_n hx hb dX2_isOpen_4 rfl (lv_at hl 1 rfl) ?_
  refine sr_iald hx hb hw (xa_7 t ad) h dX2_isOpen_5 (fun v1 h => ?_)
  refine lv_if_lt (tgt := 13) hx hb dX2_isOpen_6 (by decide) (fun hc => ?_) (fun hc => ?_)
  · have h := sr_ifp h hc
    refine lv_iconst (v := 0) hx hb dX2_isOpen_13 (by decide) ?_
    obtain rfl := Option.some.inj h
    exact ret _ _ _ _ hw rfl dX2_isOpen_14
  · have h := sr_ifn h hc
    refine lv_iconst (v := 1) hx hb dX2_isOpen_9 (by decide) ?_
    refine lv_goto (tgt := 14) hx hb dX2_isOpen_10 (by decide) ?_
    obtain rfl := Option.some.inj h
    exact ret _ _ _ _ hw rfl dX2_isOpen_14

noncomputable def f2_across (a1 : Int32) (a2 : Int32) (M : sr_M) : Option (Int32) :=
sr_ld a1 300 (M.1 4) fun v1 =>
if v1 = a2 then
(sr_ld a1 300 (M.1 5) fun v3 =>
some v3)
else
(sr_ld a1 300 (M.1 4) fun v2 =>
some v2)
set_option maxHeartbeats 4000000 in
set_option maxRecDepth 100000 in
theorem k2_across (l : Launch) (D : va_G) (t : Nat → ClassId) (ad : Nat → Nat) (a1 : Int32) (a2 : Int32) (M : sr_M) (r : Int32) (h : f2_across a1 a2 M = some r) : sr_Mi l D vwCl (xty t) ad (xcf t ad) 62 yX2_across (.code yX2_across cX2_across 3 (some .int) :: sr_tbl) ({ frames := 0, cells := 0, slots := 0, locals := 0 }) [.ref (ad 1), .int a1, .int a2] M r M := by
  refine sr_open_i (cc := cX2_across) (maxL := 3) (by decide) rfl (Nat.le_of_ble_eq_true rfl) ?_
  intro p e s m args below meth c A Q ls hx hb hml hts0 hown hA hw hl ret
  have hts : ∀ w ∈ sr_tbl, w.before args s = true := fun w hw => hts0 w (List.mem_cons_of_mem _ hw)
  have hown : s.vm.findClass RX2 = some m.cls := hown
  have hl : lv_has ls 3 [(0, .ref (ad 1)), (1, .int a1), (2, .int a2)] := hl
  have hw : xH D t ad A s M s.heap [] := hw
  unfold f2_across at h
  refine lv_aload_n hx hb dX2_across_0 rfl (lv_at hl 0 rfl) ?_
  refine sr_getr hx hb hts qzX2 hown hw (xf_1_4 t ad) (hts _ qfX2_19) dX2_across_1 ?_
  refine lv_iload_n hx hb dX2_across_4 rfl (lv_at hl 1 rfl) ?_
  refine sr_iald hx hb hw (xa_4 t ad) h dX2_across_5 (fun v1 h => ?_)
  refine lv_iload_n hx hb dX2_across_6 rfl (lv_at hl 2 rfl) ?_
  refine lv_icmp_ne (tgt := 19) hx hb dX2_across_7 (by decide) (fun hc => ?_) (fun hc => ?_)
  · have h := sr_ifn h hc
    refine lv_aload_n hx hb dX2_across_19 rfl (lv_at hl 0 rfl) ?_
    refine sr_getr hx hb hts qzX2 hown hw (xf_1_4 t ad) (hts _ qfX2_19) dX2_across_20 ?_
    refine lv_iload_n hx hb dX2_across_23 rfl (lv_at hl 1 rfl) ?_
    refine sr_iald hx hb hw (xa_4 t ad) h dX2_across_24 (fun v2 h => ?_)
    obtain rfl := Option.some.inj h
    exact ret _ _ _ _ hw rfl dX2_across_25
  · have h := sr_ifp h hc
    refine lv_aload_n hx hb dX2_across_10 rfl (lv_at hl 0 rfl) ?_
    refine sr_getr hx hb hts qzX2 hown hw (xf_1_5 t ad) (hts _ qfX2_22) dX2_across_11 ?_
    refine lv_iload_n hx hb dX2_across_14 rfl (lv_at hl 1 rfl) ?_
    refine sr_iald hx hb hw (xa_5 t ad) h dX2_across_15 (fun v3 h => ?_)
    refine lv_goto (tgt := 25) hx hb dX2_across_16 (by decide) ?_
    obtain rfl := Option.some.inj h
    exact ret _ _ _ _ hw rfl dX2_across_25

noncomputable def f2_addPore (a1 : Int32) (M : sr_M) : Option (Int32 × sr_M) :=
sr_bnd (M.1 1 0) fun v1 =>
sr_bnd (M.1 1 0) fun v2 =>
sr_put M 1 0 (v2 + 1) fun M3 =>
sr_st v1 120 M3 2 a1 fun M4 =>
sr_bnd (M4.1 1 0) fun v5 =>
sr_ld v1 121 (M4.1 9) fun v6 =>
sr_st v5 121 M4 9 v6 fun M7 =>
some (v1, M7)
set_option maxHeartbeats 4000000 in
set_option maxRecDepth 100000 in
theorem k2_addPore (l : Launch) (D : va_G) (t : Nat → ClassId) (ad : Nat → Nat) (a1 : Int32) (M : sr_M) (r : Int32) (M' : sr_M) (h : f2_addPore a1 M = some (r, M')) : sr_Mi l D vwCl (xty t) ad (xcf t ad) 62 yX2_addPore (.code yX2_addPore cX2_addPore 3 (some .int) :: sr_tbl) ({ frames := 0, cells := 0, slots := 0, locals := 0 }) [.ref (ad 1), .int a1] M r M' := by
  refine sr_open_i (cc := cX2_addPore) (maxL := 3) (by decide) rfl (Nat.le_of_ble_eq_true rfl) ?_
  intro p e s m args below meth c A Q ls hx hb hml hts0 hown hA hw hl ret
  have hts : ∀ w ∈ sr_tbl, w.before args s = true := fun w hw => hts0 w (List.mem_cons_of_mem _ hw)
  have hown : s.vm.findClass RX2 = some m.cls := hown
  have hl : lv_has ls 3 [(0, .ref (ad 1)), (1, .int a1)] := hl
  have hw : xH D t ad A s M s.heap [] := hw
  unfold f2_addPore at h
  refine lv_aload_n hx hb dX2_addPore_0 rfl (lv_at hl 0 rfl) ?_
  refine sr_geti hx hb hts qzX2 hown hw (xf_1_0 t ad) (hts _ qfX2_40) h dX2_addPore_1 (fun v1 h => ?_)
  refine lv_istore_n (lv' := [(2, .int v1), (0, .ref (ad 1)), (1, .int a1)]) hx hb dX2_addPore_4 rfl hl (by decide) rfl (fun ls hl => ?_)
  refine lv_aload_n hx hb dX2_addPore_5 rfl (lv_at hl 1 rfl) ?_
  refine lv_dup hx hb dX2_addPore_6 rfl ?_
  refine sr_geti hx hb hts qzX2 hown hw (xf_1_0 t ad) (hts _ qfX2_40) h dX2_addPore_7 (fun v2 h => ?_)
  refine lv_iconst (v := 1) hx hb dX2_addPore_10 (by decide) ?_
  refine lv_iadd hx hb dX2_addPore_11 ?_
  refine sr_puti hx hb hts qzX2 tyX2 tyX2_ok nmX2 hown hw (xf_1_0 t ad) rfl rfl (hts _ qfX2_40) h dX2_addPore_12 (fun M3 H locs h hw => ?_)
  refine lv_aload_n hx hb dX2_addPore_15 rfl (lv_at hl 1 rfl) ?_
  refine sr_getr hx hb hts qzX2 hown hw (xf_1_1 t ad) (hts _ qfX2_9) dX2_addPore_16 ?_
  refine lv_iload_n hx hb dX2_addPore_19 rfl (lv_at hl 0 rfl) ?_
  refine lv_iload_n hx hb dX2_addPore_20 rfl (lv_at hl 2 rfl) ?_
  refine sr_iast hx hb hw (xa_2 t ad) h dX2_addPore_21 (fun M4 H locs h hw => ?_)
  refine lv_aload_n hx hb dX2_addPore_22 rfl (lv_at hl 1 rfl) ?_
  refine sr_getr hx hb hts qzX2 hown hw (xf_1_10 t ad) (hts _ qfX2_34) dX2_addPore_23 ?_
  refine lv_aload_n hx hb dX2_addPore_26 rfl (lv_at hl 1 rfl) ?_
  refine sr_geti hx hb hts qzX2 hown hw (xf_1_0 t ad) (hts _ qfX2_40) h dX2_addPore_27 (fun v5 h => ?_)
  refine lv_aload_n hx hb dX2_addPore_30 rfl (lv_at hl 1 rfl) ?_
  refine sr_getr hx hb hts qzX2 hown hw (xf_1_10 t ad) (hts _ qfX2_34) dX2_addPore_31 ?_
  refine lv_iload_n hx hb dX2_addPore_34 rfl (lv_at hl 0 rfl) ?_
  refine sr_iald hx hb hw (xa_9 t ad) h dX2_addPore_35 (fun v6 h => ?_)
  refine sr_iast hx hb hw (xa_9 t ad) h dX2_addPore_36 (fun M7 H locs h hw => ?_)
  refine lv_iload_n hx hb dX2_addPore_37 rfl (lv_at hl 0 rfl) ?_
  obtain ⟨rfl, rfl⟩ := Prod.mk.inj (Option.some.inj h)
  exact ret _ _ _ _ hw rfl dX2_addPore_38

noncomputable def f2_listAt_L20 (v1 : Int32) (v5 : Int32) (M6 : sr_M) : Option ((Int32 × sr_M) ⊕ (sr_M)) :=
if v5 ≤ v1 then
(some (.inr M6))
else
(sr_ld (v5 - 1) 600 (M6.1 10) fun v7 =>
sr_st v5 600 M6 10 v7 fun M8 =>
some (.inl ((v5 + (-1)), M8)))
noncomputable def f2_listAt_L60 (v12 : Int32) (M13 : sr_M) : Option ((Int32 × sr_M) ⊕ (sr_M)) :=
sr_bnd (M13.1 1 0) fun v14 =>
if v14 < v12 then
(some (.inr M13))
else
(sr_ld v12 121 (M13.1 9) fun v15 =>
sr_st v12 121 M13 9 (v15 + 1) fun M16 =>
some (.inl ((v12 + 1), M16)))
noncomputable def f2_listAt (a1 : Int32) (a2 : Int32) (M : sr_M) : Option (sr_M) :=
sr_ld (a1 + 1) 121 (M.1 9) fun v1 =>
sr_bnd (M.1 1 0) fun v2 =>
sr_ld v2 121 (M.1 9) fun v3 =>
(sr_lp (fun z4 : Int32 × sr_M => f2_listAt_L20 v1 z4.1 z4.2) (v3, M)).bind fun w4 =>
sr_st v1 600 w4 10 a2 fun M10 =>
(sr_lp (fun z11 : Int32 × sr_M => f2_listAt_L60 z11.1 z11.2) ((a1 + 1), M10)).bind fun w11 =>
some w11
set_option maxHeartbeats 4000000 in
set_option maxRecDepth 100000 in
theorem k2_listAt (l : Launch) (D : va_G) (t : Nat → ClassId) (ad : Nat → Nat) (a1 : Int32) (a2 : Int32) (M : sr_M) (M' : sr_M) (h : f2_listAt a1 a2 M = some M') : sr_Mv l D vwCl (xty t) ad (xcf t ad) 62 yX2_listAt (.code yX2_listAt cX2_listAt 5 (none) :: sr_tbl) ({ frames := 0, cells := 0, slots := 0, locals := 0 }) [.ref (ad 1), .int a1, .int a2] M M' := by
  refine sr_open_v (cc := cX2_listAt) (maxL := 5) (by decide) rfl (Nat.le_of_ble_eq_true rfl) ?_
  intro p e s m args below meth c A Q ls hx hb hml hts0 hown hA hw hl ret
  have hts : ∀ w ∈ sr_tbl, w.before args s = true := fun w hw => hts0 w (List.mem_cons_of_mem _ hw)
  have hown : s.vm.findClass RX2 = some m.cls := hown
  have hl : lv_has ls 5 [(0, .ref (ad 1)), (1, .int a1), (2, .int a2)] := hl
  have hw : xH D t ad A s M s.heap [] := hw
  unfold f2_listAt at h
  refine lv_aload_n hx hb dX2_listAt_0 rfl (lv_at hl 0 rfl) ?_
  refine sr_getr hx hb hts qzX2 hown hw (xf_1_10 t ad) (hts _ qfX2_34) dX2_listAt_1 ?_
  refine lv_iload_n hx hb dX2_listAt_4 rfl (lv_at hl 1 rfl) ?_
  refine lv_iconst (v := 1) hx hb dX2_listAt_5 (by decide) ?_
  refine lv_iadd hx hb dX2_listAt_6 ?_
  refine sr_iald hx hb hw (xa_9 t ad) h dX2_listAt_7 (fun v1 h => ?_)
  refine lv_istore_n (lv' := [(3, .int v1), (0, .ref (ad 1)), (1, .int a1), (2, .int a2)]) hx hb dX2_listAt_8 rfl hl (by decide) rfl (fun ls hl => ?_)
  refine lv_aload_n hx hb dX2_listAt_9 rfl (lv_at hl 1 rfl) ?_
  refine sr_getr hx hb hts qzX2 hown hw (xf_1_10 t ad) (hts _ qfX2_34) dX2_listAt_10 ?_
  refine lv_aload_n hx hb dX2_listAt_13 rfl (lv_at hl 1 rfl) ?_
  refine sr_geti hx hb hts qzX2 hown hw (xf_1_0 t ad) (hts _ qfX2_40) h dX2_listAt_14 (fun v2 h => ?_)
  refine sr_iald hx hb hw (xa_9 t ad) h dX2_listAt_17 (fun v3 h => ?_)
  refine lv_istore (lv' := [(4, .int v3), (3, .int v1), (0, .ref (ad 1)), (1, .int a1), (2, .int a2)]) hx hb dX2_listAt_18 hl (by decide) rfl (fun ls hl => ?_)
  obtain ⟨x4, hlp, hE4⟩ := sr_bind h
  have hX4 : ∀ (M9 : sr_M), M9 = x4 → ∀ (H : Heap) (locs : List Loc) (ls : Array Slot), xH D t ad A s M9 H locs → lv_has ls 5 [(0, .ref (ad 1)), (1, .int a1), (2, .int a2), (3, .int v1)] → W p l e ({ frames := 0, cells := 0, slots := 0, locals := 0 }) s m args below meth c H locs 0 0 Q (F0 m 48 ls []) := by
    intro M9 ex H locs ls hw hl
    have h := hE4 _ ex
    try dsimp only at h
    refine lv_aload_n hx hb dX2_listAt_48 rfl (lv_at hl 0 rfl) ?_
    refine sr_getr hx hb hts qzX2 hown hw (xf_1_11 t ad) (hts _ qfX2_37) dX2_listAt_49 ?_
    refine lv_iload_n hx hb dX2_listAt_52 rfl (lv_at hl 3 rfl) ?_
    refine lv_iload_n hx hb dX2_listAt_53 rfl (lv_at hl 2 rfl) ?_
    refine sr_iast hx hb hw (xa_10 t ad) h dX2_listAt_54 (fun M10 H locs h hw => ?_)
    refine lv_iload_n hx hb dX2_listAt_55 rfl (lv_at hl 1 rfl) ?_
    refine lv_iconst (v := 1) hx hb dX2_listAt_56 (by decide) ?_
    refine lv_iadd hx hb dX2_listAt_57 ?_
    refine lv_istore (lv' := [(4, .int (a1 + 1)), (0, .ref (ad 1)), (1, .int a1), (2, .int a2), (3, .int v1)]) hx hb dX2_listAt_58 hl (by decide) rfl (fun ls hl => ?_)
    obtain ⟨x11, hlp, hE11⟩ := sr_bind h
    have hX11 : ∀ (M17 : sr_M), M17 = x11 → ∀ (H : Heap) (locs : List Loc) (ls : Array Slot), xH D t ad A s M17 H locs → lv_has ls 5 [] → W p l e ({ frames := 0, cells := 0, slots := 0, locals := 0 }) s m args below meth c H locs 0 0 Q (F0 m 86 ls []) := by
      intro M17 ex H locs ls hw hl
      have h := hE11 _ ex
      try dsimp only at h
      obtain rfl := Option.some.inj h
      exact ret _ _ _ _ hw dX2_listAt_86
    refine sr_lp_rule (fun (z11 : Int32 × sr_M) => ∀ (H : Heap) (locs : List Loc) (ls : Array Slot), xH D t ad A s z11.2 H locs → lv_has ls 5 [(0, .ref (ad 1)), (4, .int z11.1)] → W p l e ({ frames := 0, cells := 0, slots := 0, locals := 0 }) s m args below meth c H locs 0 0 Q (F0 m 60 ls [])) ?_ hlp _ _ _ hw (lv_sub hl [1, 0] rfl)
    rintro ⟨v12, M13⟩ y11 h hi11 he11 H locs ls hw hl
    have h : f2_listAt_L60 v12 M13 = some y11 := h
    have hw : xH D t ad A s M13 H locs := hw
    have hl : lv_has ls 5 [(0, .ref (ad 1)), (4, .int v12)] := hl
    unfold f2_listAt_L60 at h
    refine lv_iload hx hb dX2_listAt_60 (lv_at hl 1 rfl) ?_
    refine lv_aload_n hx hb dX2_listAt_62 rfl (lv_at hl 0 rfl) ?_
    refine sr_geti hx hb hts qzX2 hown hw (xf_1_0 t ad) (hts _ qfX2_40) h dX2_listAt_63 (fun v14 h => ?_)
    refine lv_icmp_gt (tgt := 86) hx hb dX2_listAt_66 (by decide) (fun hc => ?_) (fun hc => ?_)
    · have h := sr_ifp h hc
      exact hX11  M13 (he11 _ (Option.some.inj h).symm) _ _ _ hw (lv_sub hl [] rfl)
    · have h := sr_ifn h hc
      refine lv_aload_n hx hb dX2_listAt_69 rfl (lv_at hl 0 rfl) ?_
      refine sr_getr hx hb hts qzX2 hown hw (xf_1_10 t ad) (hts _ qfX2_34) dX2_listAt_70 ?_
      refine lv_iload hx hb dX2_listAt_73 (lv_at hl 1 rfl) ?_
      refine lv_dup2_11 hx hb dX2_listAt_75 rfl rfl ?_
      refine sr_iald hx hb hw (xa_9 t ad) h dX2_listAt_76 (fun v15 h => ?_)
      refine lv_iconst (v := 1) hx hb dX2_listAt_77 (by decide) ?_
      refine lv_iadd hx hb dX2_listAt_78 ?_
      refine sr_iast hx hb hw (xa_9 t ad) h dX2_listAt_79 (fun M16 H locs h hw => ?_)
      refine lv_iinc (v := (v12 + 1)) (lv' := [(4, .int (v12 + 1)), (0, .ref (ad 1))]) hx hb dX2_listAt_80 hl (k := 1) rfl rfl (by decide) rfl (fun ls hl => ?_)
      refine lv_goto (tgt := 60) hx hb dX2_listAt_83 (by decide) ?_
      exact hi11 ((v12 + 1), M16) (Option.some.inj h).symm _ _ _ hw (lv_sub hl [1, 0] rfl)
  refine sr_lp_rule (fun (z4 : Int32 × sr_M) => ∀ (H : Heap) (locs : List Loc) (ls : Array Slot), xH D t ad A s z4.2 H locs → lv_has ls 5 [(0, .ref (ad 1)), (1, .int a1), (2, .int a2), (3, .int v1), (4, .int z4.1)] → W p l e ({ frames := 0, cells := 0, slots := 0, locals := 0 }) s m args below meth c H locs 0 0 Q (F0 m 20 ls [])) ?_ hlp _ _ _ hw (lv_sub hl [2, 3, 4, 1, 0] rfl)
  rintro ⟨v5, M6⟩ y4 h hi4 he4 H locs ls hw hl
  have h : f2_listAt_L20 v1 v5 M6 = some y4 := h
  have hw : xH D t ad A s M6 H locs := hw
  have hl : lv_has ls 5 [(0, .ref (ad 1)), (1, .int a1), (2, .int a2), (3, .int v1), (4, .int v5)] := hl
  unfold f2_listAt_L20 at h
  refine lv_iload hx hb dX2_listAt_20 (lv_at hl 4 rfl) ?_
  refine lv_iload_n hx hb dX2_listAt_22 rfl (lv_at hl 3 rfl) ?_
  refine lv_icmp_le (tgt := 48) hx hb dX2_listAt_23 (by decide) (fun hc => ?_) (fun hc => ?_)
  · have h := sr_ifp h hc
    exact hX4  M6 (he4 _ (Option.some.inj h).symm) _ _ _ hw (lv_sub hl [0, 1, 2, 3] rfl)
  · have h := sr_ifn h hc
    refine lv_aload_n hx hb dX2_listAt_26 rfl (lv_at hl 0 rfl) ?_
    refine sr_getr hx hb hts qzX2 hown hw (xf_1_11 t ad) (hts _ qfX2_37) dX2_listAt_27 ?_
    refine lv_iload hx hb dX2_listAt_30 (lv_at hl 4 rfl) ?_
    refine lv_aload_n hx hb dX2_listAt_32 rfl (lv_at hl 0 rfl) ?_
    refine sr_getr hx hb hts qzX2 hown hw (xf_1_11 t ad) (hts _ qfX2_37) dX2_listAt_33 ?_
    refine lv_iload hx hb dX2_listAt_36 (lv_at hl 4 rfl) ?_
    refine lv_iconst (v := 1) hx hb dX2_listAt_38 (by decide) ?_
    refine lv_isub hx hb dX2_listAt_39 ?_
    refine sr_iald hx hb hw (xa_10 t ad) h dX2_listAt_40 (fun v7 h => ?_)
    refine sr_iast hx hb hw (xa_10 t ad) h dX2_listAt_41 (fun M8 H locs h hw => ?_)
    refine lv_iinc (v := (v5 + (-1))) (lv' := [(4, .int (v5 + (-1))), (0, .ref (ad 1)), (1, .int a1), (2, .int a2), (3, .int v1)]) hx hb dX2_listAt_42 hl (k := 4) rfl rfl (by decide) rfl (fun ls hl => ?_)
    refine lv_goto (tgt := 20) hx hb dX2_listAt_45 (by decide) ?_
    exact hi4 ((v5 + (-1)), M8) (Option.some.inj h).symm _ _ _ hw (lv_sub hl [1, 2, 3, 4, 0] rfl)

noncomputable def f2_isAhead (a1 : Int32) (a2 : Int32) (M : sr_M) : Option (Int32) :=
sr_ld a1 300 (M.1 6) fun v1 =>
sr_ld a2 300 (M.1 6) fun v2 =>
if v1 < v2 then
(some 1)
else
(sr_ld a1 300 (M.1 6) fun v3 =>
sr_ld a2 300 (M.1 6) fun v4 =>
if v3 = v4 then
(if a2 ≤ a1 then
(some 0)
else
(some 1))
else
(some 0))
set_option maxHeartbeats 4000000 in
set_option maxRecDepth 100000 in
theorem k2_isAhead (l : Launch) (D : va_G) (t : Nat → ClassId) (ad : Nat → Nat) (a1 : Int32) (a2 : Int32) (M : sr_M) (r : Int32) (h : f2_isAhead a1 a2 M = some r) : sr_Mi l D vwCl (xty t) ad (xcf t ad) 62 yX2_isAhead (.code yX2_isAhead cX2_isAhead 3 (some .boolean) :: sr_tbl) ({ frames := 0, cells := 0, slots := 0, locals := 0 }) [.ref (ad 1), .int a1, .int a2] M r M := by
  refine sr_open_i (cc := cX2_isAhead) (maxL := 3) (by decide) rfl (Nat.le_of_ble_eq_true rfl) ?_
  intro p e s m args below meth c A Q ls hx hb hml hts0 hown hA hw hl ret
  have hts : ∀ w ∈ sr_tbl, w.before args s = true := fun w hw => hts0 w (List.mem_cons_of_mem _ hw)
  have hown : s.vm.findClass RX2 = some m.cls := hown
  have hl : lv_has ls 3 [(0, .ref (ad 1)), (1, .int a1), (2, .int a2)] := hl
  have hw : xH D t ad A s M s.heap [] := hw
  unfold f2_isAhead at h
  refine lv_aload_n hx hb dX2_isAhead_0 rfl (lv_at hl 0 rfl) ?_
  refine sr_getr hx hb hts qzX2 hown hw (xf_1_6 t ad) (hts _ qfX2_25) dX2_isAhead_1 ?_
  refine lv_iload_n hx hb dX2_isAhead_4 rfl (lv_at hl 1 rfl) ?_
  refine sr_iald hx hb hw (xa_6 t ad) h dX2_isAhead_5 (fun v1 h => ?_)
  refine lv_aload_n hx hb dX2_isAhead_6 rfl (lv_at hl 0 rfl) ?_
  refine sr_getr hx hb hts qzX2 hown hw (xf_1_6 t ad) (hts _ qfX2_25) dX2_isAhead_7 ?_
  refine lv_iload_n hx hb dX2_isAhead_10 rfl (lv_at hl 2 rfl) ?_
  refine sr_iald hx hb hw (xa_6 t ad) h dX2_isAhead_11 (fun v2 h => ?_)
  refine lv_icmp_lt (tgt := 35) hx hb dX2_isAhead_12 (by decide) (fun hc => ?_) (fun hc => ?_)
  · have h := sr_ifp h hc
    refine lv_iconst (v := 1) hx hb dX2_isAhead_35 (by decide) ?_
    refine lv_goto (tgt := 40) hx hb dX2_isAhead_36 (by decide) ?_
    obtain rfl := Option.some.inj h
    exact ret _ _ _ _ hw rfl dX2_isAhead_40
  · have h := sr_ifn h hc
    refine lv_aload_n hx hb dX2_isAhead_15 rfl (lv_at hl 0 rfl) ?_
    refine sr_getr hx hb hts qzX2 hown hw (xf_1_6 t ad) (hts _ qfX2_25) dX2_isAhead_16 ?_
    refine lv_iload_n hx hb dX2_isAhead_19 rfl (lv_at hl 1 rfl) ?_
    refine sr_iald hx hb hw (xa_6 t ad) h dX2_isAhead_20 (fun v3 h => ?_)
    refine lv_aload_n hx hb dX2_isAhead_21 rfl (lv_at hl 0 rfl) ?_
    refine sr_getr hx hb hts qzX2 hown hw (xf_1_6 t ad) (hts _ qfX2_25) dX2_isAhead_22 ?_
    refine lv_iload_n hx hb dX2_isAhead_25 rfl (lv_at hl 2 rfl) ?_
    refine sr_iald hx hb hw (xa_6 t ad) h dX2_isAhead_26 (fun v4 h => ?_)
    refine lv_icmp_ne (tgt := 39) hx hb dX2_isAhead_27 (by decide) (fun hc => ?_) (fun hc => ?_)
    · have h := sr_ifn h hc
      refine lv_iconst (v := 0) hx hb dX2_isAhead_39 (by decide) ?_
      obtain rfl := Option.some.inj h
      exact ret _ _ _ _ hw rfl dX2_isAhead_40
    · have h := sr_ifp h hc
      refine lv_iload_n hx hb dX2_isAhead_30 rfl (lv_at hl 1 rfl) ?_
      refine lv_iload_n hx hb dX2_isAhead_31 rfl (lv_at hl 2 rfl) ?_
      refine lv_icmp_ge (tgt := 39) hx hb dX2_isAhead_32 (by decide) (fun hc => ?_) (fun hc => ?_)
      · have h := sr_ifp h hc
        refine lv_iconst (v := 0) hx hb dX2_isAhead_39 (by decide) ?_
        obtain rfl := Option.some.inj h
        exact ret _ _ _ _ hw rfl dX2_isAhead_40
      · have h := sr_ifn h hc
        refine lv_iconst (v := 1) hx hb dX2_isAhead_35 (by decide) ?_
        refine lv_goto (tgt := 40) hx hb dX2_isAhead_36 (by decide) ?_
        obtain rfl := Option.some.inj h
        exact ret _ _ _ _ hw rfl dX2_isAhead_40

noncomputable def f2_place (a1 : Int32) (a2 : Int32) (M : sr_M) : Option (sr_M) :=
sr_st a2 300 M 8 a1 fun M1 =>
sr_st a1 300 M1 7 a2 fun M2 =>
some M2
set_option maxHeartbeats 4000000 in
set_option maxRecDepth 100000 in
theorem k2_place (l : Launch) (D : va_G) (t : Nat → ClassId) (ad : Nat → Nat) (a1 : Int32) (a2 : Int32) (M : sr_M) (M' : sr_M) (h : f2_place a1 a2 M = some M') : sr_Mv l D vwCl (xty t) ad (xcf t ad) 62 yX2_place (.code yX2_place cX2_place 3 (none) :: sr_tbl) ({ frames := 0, cells := 0, slots := 0, locals := 0 }) [.ref (ad 1), .int a1, .int a2] M M' := by
  refine sr_open_v (cc := cX2_place) (maxL := 3) (by decide) rfl (Nat.le_of_ble_eq_true rfl) ?_
  intro p e s m args below meth c A Q ls hx hb hml hts0 hown hA hw hl ret
  have hts : ∀ w ∈ sr_tbl, w.before args s = true := fun w hw => hts0 w (List.mem_cons_of_mem _ hw)
  have hown : s.vm.findClass RX2 = some m.cls := hown
  have hl : lv_has ls 3 [(0, .ref (ad 1)), (1, .int a1), (2, .int a2)] := hl
  have hw : xH D t ad A s M s.heap [] := hw
  unfold f2_place at h
  refine lv_aload_n hx hb dX2_place_0 rfl (lv_at hl 0 rfl) ?_
  refine sr_getr hx hb hts qzX2 hown hw (xf_1_8 t ad) (hts _ qfX2_31) dX2_place_1 ?_
  refine lv_iload_n hx hb dX2_place_4 rfl (lv_at hl 2 rfl) ?_
  refine lv_iload_n hx hb dX2_place_5 rfl (lv_at hl 1 rfl) ?_
  refine sr_iast hx hb hw (xa_8 t ad) h dX2_place_6 (fun M1 H locs h hw => ?_)
  refine lv_aload_n hx hb dX2_place_7 rfl (lv_at hl 0 rfl) ?_
  refine sr_getr hx hb hts qzX2 hown hw (xf_1_7 t ad) (hts _ qfX2_28) dX2_place_8 ?_
  refine lv_iload_n hx hb dX2_place_11 rfl (lv_at hl 1 rfl) ?_
  refine lv_iload_n hx hb dX2_place_12 rfl (lv_at hl 2 rfl) ?_
  refine sr_iast hx hb hw (xa_7 t ad) h dX2_place_13 (fun M2 H locs h hw => ?_)
  obtain rfl := Option.some.inj h
  exact ret _ _ _ _ hw dX2_place_14

noncomputable def f2_rankIn_L5 (a1 : Int32) (v3 : Int32) (M4 : sr_M) : Option ((Int32 × sr_M) ⊕ (Int32 × sr_M)) :=
if v3 ≤ 0 then
(some (.inr (v3, M4)))
else
(sr_ld (v3 - 1) 300 (M4.1 8) fun v5 =>
(f2_isAhead a1 v5 M4).bind fun v6 =>
if v6 = 0 then
(some (.inr (v3, M4)))
else
(sr_ld (v3 - 1) 300 (M4.1 8) fun v7 =>
(f2_place v7 v3 M4).bind fun M8 =>
some (.inl ((v3 + (-1)), M8))))
noncomputable def f2_rankIn (a1 : Int32) (M : sr_M) : Option (sr_M) :=
sr_bnd (M.1 1 9) fun v1 =>
(sr_lp (fun z2 : Int32 × sr_M => f2_rankIn_L5 a1 z2.1 z2.2) (v1, M)).bind fun w2 =>
(f2_place a1 w2.1 w2.2).bind fun M11 =>
sr_bnd (M11.1 1 9) fun v12 =>
sr_put M11 1 9 (v12 + 1) fun M13 =>
some M13
set_option maxHeartbeats 4000000 in
set_option maxRecDepth 100000 in
theorem k2_rankIn (l : Launch) (D : va_G) (t : Nat → ClassId) (ad : Nat → Nat) (a1 : Int32) (M : sr_M) (M' : sr_M) (h : f2_rankIn a1 M = some M') : sr_Mv l D vwCl (xty t) ad (xcf t ad) 62 yX2_rankIn (.code yX2_rankIn cX2_rankIn 3 (none) :: sr_tbl) ({ frames := 1, cells := 0, slots := 0, locals := 22 }) [.ref (ad 1), .int a1] M M' := by
  refine sr_open_v (cc := cX2_rankIn) (maxL := 3) (by decide) rfl (Nat.le_of_ble_eq_true rfl) ?_
  intro p e s m args below meth c A Q ls hx hb hml hts0 hown hA hw hl ret
  have hts : ∀ w ∈ sr_tbl, w.before args s = true := fun w hw => hts0 w (List.mem_cons_of_mem _ hw)
  have hown : s.vm.findClass RX2 = some m.cls := hown
  have hl : lv_has ls 3 [(0, .ref (ad 1)), (1, .int a1)] := hl
  have hw : xH D t ad A s M s.heap [] := hw
  unfold f2_rankIn at h
  refine lv_aload_n hx hb dX2_rankIn_0 rfl (lv_at hl 0 rfl) ?_
  refine sr_geti hx hb hts qzX2 hown hw (xf_1_9 t ad) (hts _ qfX2_62) h dX2_rankIn_1 (fun v1 h => ?_)
  refine lv_istore_n (lv' := [(2, .int v1), (0, .ref (ad 1)), (1, .int a1)]) hx hb dX2_rankIn_4 rfl hl (by decide) rfl (fun ls hl => ?_)
  obtain ⟨x2, hlp, hE2⟩ := sr_bind h
  have hX2 : ∀ (v9 : Int32) (M10 : sr_M), (v9, M10) = x2 → ∀ (H : Heap) (locs : List Loc) (ls : Array Slot), xH D t ad A s M10 H locs → lv_has ls 3 [(0, .ref (ad 1)), (1, .int a1), (2, .int v9)] → W p l e ({ frames := 1, cells := 0, slots := 0, locals := 22 }) s m args below meth c H locs 0 0 Q (F0 m 44 ls []) := by
    intro v9 M10 ex H locs ls hw hl
    have h := hE2 _ ex
    try dsimp only at h
    refine lv_aload_n hx hb dX2_rankIn_44 rfl (lv_at hl 0 rfl) ?_
    refine lv_iload_n hx hb dX2_rankIn_45 rfl (lv_at hl 1 rfl) ?_
    refine lv_iload_n hx hb dX2_rankIn_46 rfl (lv_at hl 2 rfl) ?_
    obtain ⟨M11, hc, h⟩ := sr_bind1 h
    refine sr_cVv (As := [.int a1, .int v9]) (rest := []) ⟨hx, hb, hml, hown, hts⟩ (k2_place l D t ad a1 v9 M10 _ hc) (cwV 2 hts (sr_goodV qmX2_65 qiX2_place qsX2_place qnX2 qcX2_place) rfl rfl rfl qdX2_place ⟨Nat.le_of_ble_eq_true rfl, Nat.le_of_ble_eq_true rfl⟩) hw hA (xo_1 t ad) rfl hl.1 rfl (Nat.le_of_ble_eq_true rfl) dX2_rankIn_47 (fun H locs hw => ?_)
    refine lv_aload_n hx hb dX2_rankIn_50 rfl (lv_at hl 0 rfl) ?_
    refine lv_dup hx hb dX2_rankIn_51 rfl ?_
    refine sr_geti hx hb hts qzX2 hown hw (xf_1_9 t ad) (hts _ qfX2_62) h dX2_rankIn_52 (fun v12 h => ?_)
    refine lv_iconst (v := 1) hx hb dX2_rankIn_55 (by decide) ?_
    refine lv_iadd hx hb dX2_rankIn_56 ?_
    refine sr_puti hx hb hts qzX2 tyX2 tyX2_ok nmX2 hown hw (xf_1_9 t ad) rfl rfl (hts _ qfX2_62) h dX2_rankIn_57 (fun M13 H locs h hw => ?_)
    obtain rfl := Option.some.inj h
    exact ret _ _ _ _ hw dX2_rankIn_60
  refine sr_lp_rule (fun (z2 : Int32 × sr_M) => ∀ (H : Heap) (locs : List Loc) (ls : Array Slot), xH D t ad A s z2.2 H locs → lv_has ls 3 [(0, .ref (ad 1)), (1, .int a1), (2, .int z2.1)] → W p l e ({ frames := 1, cells := 0, slots := 0, locals := 22 }) s m args below meth c H locs 0 0 Q (F0 m 5 ls [])) ?_ hlp _ _ _ hw (lv_sub hl [1, 2, 0] rfl)
  rintro ⟨v3, M4⟩ y2 h hi2 he2 H locs ls hw hl
  have h : f2_rankIn_L5 a1 v3 M4 = some y2 := h
  have hw : xH D t ad A s M4 H locs := hw
  have hl : lv_has ls 3 [(0, .ref (ad 1)), (1, .int a1), (2, .int v3)] := hl
  unfold f2_rankIn_L5 at h
  refine lv_iload_n hx hb dX2_rankIn_5 rfl (lv_at hl 2 rfl) ?_
  refine lv_if_le (tgt := 44) hx hb dX2_rankIn_6 (by decide) (fun hc => ?_) (fun hc => ?_)
  · have h := sr_ifp h hc
    exact hX2 v3 M4 (he2 _ (Option.some.inj h).symm) _ _ _ hw (lv_sub hl [0, 1, 2] rfl)
  · have h := sr_ifn h hc
    refine lv_aload_n hx hb dX2_rankIn_9 rfl (lv_at hl 0 rfl) ?_
    refine lv_iload_n hx hb dX2_rankIn_10 rfl (lv_at hl 1 rfl) ?_
    refine lv_aload_n hx hb dX2_rankIn_11 rfl (lv_at hl 0 rfl) ?_
    refine sr_getr hx hb hts qzX2 hown hw (xf_1_8 t ad) (hts _ qfX2_31) dX2_rankIn_12 ?_
    refine lv_iload_n hx hb dX2_rankIn_15 rfl (lv_at hl 2 rfl) ?_
    refine lv_iconst (v := 1) hx hb dX2_rankIn_16 (by decide) ?_
    refine lv_isub hx hb dX2_rankIn_17 ?_
    refine sr_iald hx hb hw (xa_8 t ad) h dX2_rankIn_18 (fun v5 h => ?_)
    obtain ⟨v6, hc, h⟩ := sr_bind1 h
    refine sr_cVi (As := [.int a1, .int v5]) (rest := []) ⟨hx, hb, hml, hown, hts⟩ (k2_isAhead l D t ad a1 v5 M4 _ hc) (cwV 2 hts (sr_goodV qmX2_68 qiX2_isAhead qsX2_isAhead qnX2 qcX2_isAhead) rfl rfl rfl qdX2_isAhead ⟨Nat.le_of_ble_eq_true rfl, Nat.le_of_ble_eq_true rfl⟩) hw hA (xo_1 t ad) rfl hl.1 rfl (Nat.le_of_ble_eq_true rfl) dX2_rankIn_19 (fun H locs hw => ?_)
    refine lv_if_eq (tgt := 44) hx hb dX2_rankIn_22 (by decide) (fun hc => ?_) (fun hc => ?_)
    · have h := sr_ifp h hc
      exact hX2 v3 M4 (he2 _ (Option.some.inj h).symm) _ _ _ hw (lv_sub hl [0, 1, 2] rfl)
    · have h := sr_ifn h hc
      refine lv_aload_n hx hb dX2_rankIn_25 rfl (lv_at hl 0 rfl) ?_
      refine lv_aload_n hx hb dX2_rankIn_26 rfl (lv_at hl 0 rfl) ?_
      refine sr_getr hx hb hts qzX2 hown hw (xf_1_8 t ad) (hts _ qfX2_31) dX2_rankIn_27 ?_
      refine lv_iload_n hx hb dX2_rankIn_30 rfl (lv_at hl 2 rfl) ?_
      refine lv_iconst (v := 1) hx hb dX2_rankIn_31 (by decide) ?_
      refine lv_isub hx hb dX2_rankIn_32 ?_
      refine sr_iald hx hb hw (xa_8 t ad) h dX2_rankIn_33 (fun v7 h => ?_)
      refine lv_iload_n hx hb dX2_rankIn_34 rfl (lv_at hl 2 rfl) ?_
      obtain ⟨M8, hc, h⟩ := sr_bind1 h
      refine sr_cVv (As := [.int v7, .int v3]) (rest := []) ⟨hx, hb, hml, hown, hts⟩ (k2_place l D t ad v7 v3 M4 _ hc) (cwV 2 hts (sr_goodV qmX2_65 qiX2_place qsX2_place qnX2 qcX2_place) rfl rfl rfl qdX2_place ⟨Nat.le_of_ble_eq_true rfl, Nat.le_of_ble_eq_true rfl⟩) hw hA (xo_1 t ad) rfl hl.1 rfl (Nat.le_of_ble_eq_true rfl) dX2_rankIn_35 (fun H locs hw => ?_)
      refine lv_iinc (v := (v3 + (-1))) (lv' := [(2, .int (v3 + (-1))), (0, .ref (ad 1)), (1, .int a1)]) hx hb dX2_rankIn_38 hl (k := 2) rfl rfl (by decide) rfl (fun ls hl => ?_)
      refine lv_goto (tgt := 5) hx hb dX2_rankIn_41 (by decide) ?_
      exact hi2 ((v3 + (-1)), M8) (Option.some.inj h).symm _ _ _ hw (lv_sub hl [1, 2, 0] rfl)

noncomputable def f2_addThroat (a1 : Int32) (a2 : Int32) (M : sr_M) : Option (Int32 × sr_M) :=
sr_bnd (M.1 1 3) fun v1 =>
sr_bnd (M.1 1 3) fun v2 =>
sr_put M 1 3 (v2 + 1) fun M3 =>
sr_st v1 300 M3 4 a1 fun M4 =>
sr_st v1 300 M4 5 a2 fun M5 =>
(f2_listAt a1 v1 M5).bind fun M6 =>
(f2_listAt a2 v1 M6).bind fun M7 =>
(f2_rankIn v1 M7).bind fun M8 =>
some (v1, M8)
set_option maxHeartbeats 4000000 in
set_option maxRecDepth 100000 in
theorem k2_addThroat (l : Launch) (D : va_G) (t : Nat → ClassId) (ad : Nat → Nat) (a1 : Int32) (a2 : Int32) (M : sr_M) (r : Int32) (M' : sr_M) (h : f2_addThroat a1 a2 M = some (r, M')) : sr_Mi l D vwCl (xty t) ad (xcf t ad) 62 yX2_addThroat (.code yX2_addThroat cX2_addThroat 4 (some .int) :: sr_tbl) ({ frames := 2, cells := 0, slots := 0, locals := 44 }) [.ref (ad 1), .int a1, .int a2] M r M' := by
  refine sr_open_i (cc := cX2_addThroat) (maxL := 4) (by decide) rfl (Nat.le_of_ble_eq_true rfl) ?_
  intro p e s m args below meth c A Q ls hx hb hml hts0 hown hA hw hl ret
  have hts : ∀ w ∈ sr_tbl, w.before args s = true := fun w hw => hts0 w (List.mem_cons_of_mem _ hw)
  have hown : s.vm.findClass RX2 = some m.cls := hown
  have hl : lv_has ls 4 [(0, .ref (ad 1)), (1, .int a1), (2, .int a2)] := hl
  have hw : xH D t ad A s M s.heap [] := hw
  unfold f2_addThroat at h
  refine lv_aload_n hx hb dX2_addThroat_0 rfl (lv_at hl 0 rfl) ?_
  refine sr_geti hx hb hts qzX2 hown hw (xf_1_3 t ad) (hts _ qfX2_44) h dX2_addThroat_1 (fun v1 h => ?_)
  refine lv_istore_n (lv' := [(3, .int v1), (0, .ref (ad 1)), (1, .int a1), (2, .int a2)]) hx hb dX2_addThroat_4 rfl hl (by decide) rfl (fun ls hl => ?_)
  refine lv_aload_n hx hb dX2_addThroat_5 rfl (lv_at hl 1 rfl) ?_
  refine lv_dup hx hb dX2_addThroat_6 rfl ?_
  refine sr_geti hx hb hts qzX2 hown hw (xf_1_3 t ad) (hts _ qfX2_44) h dX2_addThroat_7 (fun v2 h => ?_)
  refine lv_iconst (v := 1) hx hb dX2_addThroat_10 (by decide) ?_
  refine lv_iadd hx hb dX2_addThroat_11 ?_
  refine sr_puti hx hb hts qzX2 tyX2 tyX2_ok nmX2 hown hw (xf_1_3 t ad) rfl rfl (hts _ qfX2_44) h dX2_addThroat_12 (fun M3 H locs h hw => ?_)
  refine lv_aload_n hx hb dX2_addThroat_15 rfl (lv_at hl 1 rfl) ?_
  refine sr_getr hx hb hts qzX2 hown hw (xf_1_4 t ad) (hts _ qfX2_19) dX2_addThroat_16 ?_
  refine lv_iload_n hx hb dX2_addThroat_19 rfl (lv_at hl 0 rfl) ?_
  refine lv_iload_n hx hb dX2_addThroat_20 rfl (lv_at hl 2 rfl) ?_
  refine sr_iast hx hb hw (xa_4 t ad) h dX2_addThroat_21 (fun M4 H locs h hw => ?_)
  refine lv_aload_n hx hb dX2_addThroat_22 rfl (lv_at hl 1 rfl) ?_
  refine sr_getr hx hb hts qzX2 hown hw (xf_1_5 t ad) (hts _ qfX2_22) dX2_addThroat_23 ?_
  refine lv_iload_n hx hb dX2_addThroat_26 rfl (lv_at hl 0 rfl) ?_
  refine lv_iload_n hx hb dX2_addThroat_27 rfl (lv_at hl 3 rfl) ?_
  refine sr_iast hx hb hw (xa_5 t ad) h dX2_addThroat_28 (fun M5 H locs h hw => ?_)
  refine lv_aload_n hx hb dX2_addThroat_29 rfl (lv_at hl 1 rfl) ?_
  refine lv_iload_n hx hb dX2_addThroat_30 rfl (lv_at hl 2 rfl) ?_
  refine lv_iload_n hx hb dX2_addThroat_31 rfl (lv_at hl 0 rfl) ?_
  obtain ⟨M6, hc, h⟩ := sr_bind1 h
  refine sr_cVv (As := [.int a1, .int v1]) (rest := []) ⟨hx, hb, hml, hown, hts⟩ (k2_listAt l D t ad a1 v1 M5 _ hc) (cwV 2 hts (sr_goodV qmX2_47 qiX2_listAt qsX2_listAt qnX2 qcX2_listAt) rfl rfl rfl qdX2_listAt ⟨Nat.le_of_ble_eq_true rfl, Nat.le_of_ble_eq_true rfl⟩) hw hA (xo_1 t ad) rfl hl.1 rfl (Nat.le_of_ble_eq_true rfl) dX2_addThroat_32 (fun H locs hw => ?_)
  refine lv_aload_n hx hb dX2_addThroat_35 rfl (lv_at hl 1 rfl) ?_
  refine lv_iload_n hx hb dX2_addThroat_36 rfl (lv_at hl 3 rfl) ?_
  refine lv_iload_n hx hb dX2_addThroat_37 rfl (lv_at hl 0 rfl) ?_
  obtain ⟨M7, hc, h⟩ := sr_bind1 h
  refine sr_cVv (As := [.int a2, .int v1]) (rest := []) ⟨hx, hb, hml, hown, hts⟩ (k2_listAt l D t ad a2 v1 M6 _ hc) (cwV 2 hts (sr_goodV qmX2_47 qiX2_listAt qsX2_listAt qnX2 qcX2_listAt) rfl rfl rfl qdX2_listAt ⟨Nat.le_of_ble_eq_true rfl, Nat.le_of_ble_eq_true rfl⟩) hw hA (xo_1 t ad) rfl hl.1 rfl (Nat.le_of_ble_eq_true rfl) dX2_addThroat_38 (fun H locs hw => ?_)
  refine lv_aload_n hx hb dX2_addThroat_41 rfl (lv_at hl 1 rfl) ?_
  refine lv_iload_n hx hb dX2_addThroat_42 rfl (lv_at hl 0 rfl) ?_
  obtain ⟨M8, hc, h⟩ := sr_bind1 h
  refine sr_cVv (As := [.int v1]) (rest := []) ⟨hx, hb, hml, hown, hts⟩ (k2_rankIn l D t ad v1 M7 _ hc) (cwV 1 hts (sr_goodV qmX2_51 qiX2_rankIn qsX2_rankIn qnX2 qcX2_rankIn) rfl rfl rfl qdX2_rankIn ⟨Nat.le_of_ble_eq_true rfl, Nat.le_of_ble_eq_true rfl⟩) hw hA (xo_1 t ad) rfl hl.1 rfl (Nat.le_of_ble_eq_true rfl) dX2_addThroat_43 (fun H locs hw => ?_)
  refine lv_iload_n hx hb dX2_addThroat_46 rfl (lv_at hl 0 rfl) ?_
  obtain ⟨rfl, rfl⟩ := Prod.mk.inj (Option.some.inj h)
  exact ret _ _ _ _ hw rfl dX2_addThroat_47

noncomputable def f2_rankOut_L17 (v5 : Int32) (M6 : sr_M) : Option ((Int32 × sr_M) ⊕ (sr_M)) :=
sr_bnd (M6.1 1 9) fun v7 =>
if v7 ≤ v5 then
(some (.inr M6))
else
(sr_ld (v5 + 1) 300 (M6.1 8) fun v8 =>
(f2_place v8 v5 M6).bind fun M9 =>
some (.inl ((v5 + 1), M9)))
noncomputable def f2_rankOut (a1 : Int32) (M : sr_M) : Option (sr_M) :=
sr_bnd (M.1 1 9) fun v1 =>
sr_put M 1 9 (v1 - 1) fun M2 =>
sr_ld a1 300 (M2.1 7) fun v3 =>
(sr_lp (fun z4 : Int32 × sr_M => f2_rankOut_L17 z4.1 z4.2) (v3, M2)).bind fun w4 =>
sr_st a1 300 w4 7 (-2) fun M11 =>
some M11
set_option maxHeartbeats 4000000 in
set_option maxRecDepth 100000 in
theorem k2_rankOut (l : Launch) (D : va_G) (t : Nat → ClassId) (ad : Nat → Nat) (a1 : Int32) (M : sr_M) (M' : sr_M) (h : f2_rankOut a1 M = some M') : sr_Mv l D vwCl (xty t) ad (xcf t ad) 62 yX2_rankOut (.code yX2_rankOut cX2_rankOut 3 (none) :: sr_tbl) ({ frames := 1, cells := 0, slots := 0, locals := 22 }) [.ref (ad 1), .int a1] M M' := by
  refine sr_open_v (cc := cX2_rankOut) (maxL := 3) (by decide) rfl (Nat.le_of_ble_eq_true rfl) ?_
  intro p e s m args below meth c A Q ls hx hb hml hts0 hown hA hw hl ret
  have hts : ∀ w ∈ sr_tbl, w.before args s = true := fun w hw => hts0 w (List.mem_cons_of_mem _ hw)
  have hown : s.vm.findClass RX2 = some m.cls := hown
  have hl : lv_has ls 3 [(0, .ref (ad 1)), (1, .int a1)] := hl
  have hw : xH D t ad A s M s.heap [] := hw
  unfold f2_rankOut at h
  refine lv_aload_n hx hb dX2_rankOut_0 rfl (lv_at hl 0 rfl) ?_
  refine lv_dup hx hb dX2_rankOut_1 rfl ?_
  refine sr_geti hx hb hts qzX2 hown hw (xf_1_9 t ad) (hts _ qfX2_62) h dX2_rankOut_2 (fun v1 h => ?_)
  refine lv_iconst (v := 1) hx hb dX2_rankOut_5 (by decide) ?_
  refine lv_isub hx hb dX2_rankOut_6 ?_
  refine sr_puti hx hb hts qzX2 tyX2 tyX2_ok nmX2 hown hw (xf_1_9 t ad) rfl rfl (hts _ qfX2_62) h dX2_rankOut_7 (fun M2 H locs h hw => ?_)
  refine lv_aload_n hx hb dX2_rankOut_10 rfl (lv_at hl 0 rfl) ?_
  refine sr_getr hx hb hts qzX2 hown hw (xf_1_7 t ad) (hts _ qfX2_28) dX2_rankOut_11 ?_
  refine lv_iload_n hx hb dX2_rankOut_14 rfl (lv_at hl 1 rfl) ?_
  refine sr_iald hx hb hw (xa_7 t ad) h dX2_rankOut_15 (fun v3 h => ?_)
  refine lv_istore_n (lv' := [(2, .int v3), (0, .ref (ad 1)), (1, .int a1)]) hx hb dX2_rankOut_16 rfl hl (by decide) rfl (fun ls hl => ?_)
  obtain ⟨x4, hlp, hE4⟩ := sr_bind h
  have hX4 : ∀ (M10 : sr_M), M10 = x4 → ∀ (H : Heap) (locs : List Loc) (ls : Array Slot), xH D t ad A s M10 H locs → lv_has ls 3 [(0, .ref (ad 1)), (1, .int a1)] → W p l e ({ frames := 1, cells := 0, slots := 0, locals := 22 }) s m args below meth c H locs 0 0 Q (F0 m 44 ls []) := by
    intro M10 ex H locs ls hw hl
    have h := hE4 _ ex
    try dsimp only at h
    refine lv_aload_n hx hb dX2_rankOut_44 rfl (lv_at hl 0 rfl) ?_
    refine sr_getr hx hb hts qzX2 hown hw (xf_1_7 t ad) (hts _ qfX2_28) dX2_rankOut_45 ?_
    refine lv_iload_n hx hb dX2_rankOut_48 rfl (lv_at hl 1 rfl) ?_
    refine lv_bipush (v := (-2)) hx hb dX2_rankOut_49 (by decide) ?_
    refine sr_iast hx hb hw (xa_7 t ad) h dX2_rankOut_51 (fun M11 H locs h hw => ?_)
    obtain rfl := Option.some.inj h
    exact ret _ _ _ _ hw dX2_rankOut_52
  refine sr_lp_rule (fun (z4 : Int32 × sr_M) => ∀ (H : Heap) (locs : List Loc) (ls : Array Slot), xH D t ad A s z4.2 H locs → lv_has ls 3 [(0, .ref (ad 1)), (1, .int a1), (2, .int z4.1)] → W p l e ({ frames := 1, cells := 0, slots := 0, locals := 22 }) s m args below meth c H locs 0 0 Q (F0 m 17 ls [])) ?_ hlp _ _ _ hw (lv_sub hl [1, 2, 0] rfl)
  rintro ⟨v5, M6⟩ y4 h hi4 he4 H locs ls hw hl
  have h : f2_rankOut_L17 v5 M6 = some y4 := h
  have hw : xH D t ad A s M6 H locs := hw
  have hl : lv_has ls 3 [(0, .ref (ad 1)), (1, .int a1), (2, .int v5)] := hl
  unfold f2_rankOut_L17 at h
  refine lv_iload_n hx hb dX2_rankOut_17 rfl (lv_at hl 2 rfl) ?_
  refine lv_aload_n hx hb dX2_rankOut_18 rfl (lv_at hl 0 rfl) ?_
  refine sr_geti hx hb hts qzX2 hown hw (xf_1_9 t ad) (hts _ qfX2_62) h dX2_rankOut_19 (fun v7 h => ?_)
  refine lv_icmp_ge (tgt := 44) hx hb dX2_rankOut_22 (by decide) (fun hc => ?_) (fun hc => ?_)
  · have h := sr_ifp h hc
    exact hX4  M6 (he4 _ (Option.some.inj h).symm) _ _ _ hw (lv_sub hl [0, 1] rfl)
  · have h := sr_ifn h hc
    refine lv_aload_n hx hb dX2_rankOut_25 rfl (lv_at hl 0 rfl) ?_
    refine lv_aload_n hx hb dX2_rankOut_26 rfl (lv_at hl 0 rfl) ?_
    refine sr_getr hx hb hts qzX2 hown hw (xf_1_8 t ad) (hts _ qfX2_31) dX2_rankOut_27 ?_
    refine lv_iload_n hx hb dX2_rankOut_30 rfl (lv_at hl 2 rfl) ?_
    refine lv_iconst (v := 1) hx hb dX2_rankOut_31 (by decide) ?_
    refine lv_iadd hx hb dX2_rankOut_32 ?_
    refine sr_iald hx hb hw (xa_8 t ad) h dX2_rankOut_33 (fun v8 h => ?_)
    refine lv_iload_n hx hb dX2_rankOut_34 rfl (lv_at hl 2 rfl) ?_
    obtain ⟨M9, hc, h⟩ := sr_bind1 h
    refine sr_cVv (As := [.int v8, .int v5]) (rest := []) ⟨hx, hb, hml, hown, hts⟩ (k2_place l D t ad v8 v5 M6 _ hc) (cwV 2 hts (sr_goodV qmX2_65 qiX2_place qsX2_place qnX2 qcX2_place) rfl rfl rfl qdX2_place ⟨Nat.le_of_ble_eq_true rfl, Nat.le_of_ble_eq_true rfl⟩) hw hA (xo_1 t ad) rfl hl.1 rfl (Nat.le_of_ble_eq_true rfl) dX2_rankOut_35 (fun H locs hw => ?_)
    refine lv_iinc (v := (v5 + 1)) (lv' := [(2, .int (v5 + 1)), (0, .ref (ad 1)), (1, .int a1)]) hx hb dX2_rankOut_38 hl (k := 2) rfl rfl (by decide) rfl (fun ls hl => ?_)
    refine lv_goto (tgt := 17) hx hb dX2_rankOut_41 (by decide) ?_
    exact hi4 ((v5 + 1), M9) (Option.some.inj h).symm _ _ _ hw (lv_sub hl [1, 2, 0] rfl)

noncomputable def f2_settle (a1 : Int32) (a2 : Int32) (a3 : Int32) (M : sr_M) : Option (sr_M) :=
(f2_isOpen a1 M).bind fun v1 =>
sr_jn (fun (M3 : sr_M) =>
sr_st a1 300 M3 6 a2 fun M4 =>
if a3 = 0 then
(some M4)
else
((f2_rankIn a1 M4).bind fun M5 =>
some M5)) fun (K2 : sr_M → Option (sr_M)) =>
if v1 = 0 then
(K2 M)
else
((f2_rankOut a1 M).bind fun M6 =>
K2 M6)
set_option maxHeartbeats 4000000 in
set_option maxRecDepth 100000 in
theorem k2_settle (l : Launch) (D : va_G) (t : Nat → ClassId) (ad : Nat → Nat) (a1 : Int32) (a2 : Int32) (a3 : Int32) (M : sr_M) (M' : sr_M) (h : f2_settle a1 a2 a3 M = some M') : sr_Mv l D vwCl (xty t) ad (xcf t ad) 62 yX2_settle (.code yX2_settle cX2_settle 4 (none) :: sr_tbl) ({ frames := 2, cells := 0, slots := 0, locals := 44 }) [.ref (ad 1), .int a1, .int a2, .int a3] M M' := by
  refine sr_open_v (cc := cX2_settle) (maxL := 4) (by decide) rfl (Nat.le_of_ble_eq_true rfl) ?_
  intro p e s m args below meth c A Q ls hx hb hml hts0 hown hA hw hl ret
  have hts : ∀ w ∈ sr_tbl, w.before args s = true := fun w hw => hts0 w (List.mem_cons_of_mem _ hw)
  have hown : s.vm.findClass RX2 = some m.cls := hown
  have hl : lv_has ls 4 [(0, .ref (ad 1)), (1, .int a1), (2, .int a2), (3, .int a3)] := hl
  have hw : xH D t ad A s M s.heap [] := hw
  unfold f2_settle at h
  refine lv_aload_n hx hb dX2_settle_0 rfl (lv_at hl 0 rfl) ?_
  refine lv_iload_n hx hb dX2_settle_1 rfl (lv_at hl 1 rfl) ?_
  obtain ⟨v1, hc, h⟩ := sr_bind1 h
  refine sr_cVi (As := [.int a1]) (rest := []) ⟨hx, hb, hml, hown, hts⟩ (k2_isOpen l D t ad a1 M _ hc) (cwV 1 hts (sr_goodV qmX2_55 qiX2_isOpen qsX2_isOpen qnX2 qcX2_isOpen) rfl rfl rfl qdX2_isOpen ⟨Nat.le_of_ble_eq_true rfl, Nat.le_of_ble_eq_true rfl⟩) hw hA (xo_1 t ad) rfl hl.1 rfl (Nat.le_of_ble_eq_true rfl) dX2_settle_2 (fun H locs hw => ?_)
  refine sr_jn_rule (fun (K2 : sr_M → Option (sr_M)) => ∀ (M3 : sr_M), K2 M3 = some M' → ∀ (H : Heap) (locs : List Loc) (ls : Array Slot), xH D t ad A s M3 H locs → lv_has ls 4 [(0, .ref (ad 1)), (1, .int a1), (2, .int a2), (3, .int a3)] → W p l e ({ frames := 2, cells := 0, slots := 0, locals := 44 }) s m args below meth c H locs 0 0 Q (F0 m 13 ls [])) h ?_ (fun K2 hK2 h => ?_)
  · intro M3 h H locs ls hw hl
    refine lv_aload_n hx hb dX2_settle_13 rfl (lv_at hl 0 rfl) ?_
    refine sr_getr hx hb hts qzX2 hown hw (xf_1_6 t ad) (hts _ qfX2_25) dX2_settle_14 ?_
    refine lv_iload_n hx hb dX2_settle_17 rfl (lv_at hl 1 rfl) ?_
    refine lv_iload_n hx hb dX2_settle_18 rfl (lv_at hl 2 rfl) ?_
    refine sr_iast hx hb hw (xa_6 t ad) h dX2_settle_19 (fun M4 H locs h hw => ?_)
    refine lv_iload_n hx hb dX2_settle_20 rfl (lv_at hl 3 rfl) ?_
    refine lv_if_eq (tgt := 29) hx hb dX2_settle_21 (by decide) (fun hc => ?_) (fun hc => ?_)
    · have h := sr_ifp h hc
      obtain rfl := Option.some.inj h
      exact ret _ _ _ _ hw dX2_settle_29
    · have h := sr_ifn h hc
      refine lv_aload_n hx hb dX2_settle_24 rfl (lv_at hl 0 rfl) ?_
      refine lv_iload_n hx hb dX2_settle_25 rfl (lv_at hl 1 rfl) ?_
      obtain ⟨M5, hc, h⟩ := sr_bind1 h
      refine sr_cVv (As := [.int a1]) (rest := []) ⟨hx, hb, hml, hown, hts⟩ (k2_rankIn l D t ad a1 M4 _ hc) (cwV 1 hts (sr_goodV qmX2_51 qiX2_rankIn qsX2_rankIn qnX2 qcX2_rankIn) rfl rfl rfl qdX2_rankIn ⟨Nat.le_of_ble_eq_true rfl, Nat.le_of_ble_eq_true rfl⟩) hw hA (xo_1 t ad) rfl hl.1 rfl (Nat.le_of_ble_eq_true rfl) dX2_settle_26 (fun H locs hw => ?_)
      obtain rfl := Option.some.inj h
      exact ret _ _ _ _ hw dX2_settle_29
  · refine lv_if_eq (tgt := 13) hx hb dX2_settle_5 (by decide) (fun hc => ?_) (fun hc => ?_)
    · have h := sr_ifp h hc
      exact hK2 M h _ _ _ hw (lv_sub hl [0, 1, 2, 3] rfl)
    · have h := sr_ifn h hc
      refine lv_aload_n hx hb dX2_settle_8 rfl (lv_at hl 0 rfl) ?_
      refine lv_iload_n hx hb dX2_settle_9 rfl (lv_at hl 1 rfl) ?_
      obtain ⟨M6, hc, h⟩ := sr_bind1 h
      refine sr_cVv (As := [.int a1]) (rest := []) ⟨hx, hb, hml, hown, hts⟩ (k2_rankOut l D t ad a1 M _ hc) (cwV 1 hts (sr_goodV qmX2_59 qiX2_rankOut qsX2_rankOut qnX2 qcX2_rankOut) rfl rfl rfl qdX2_rankOut ⟨Nat.le_of_ble_eq_true rfl, Nat.le_of_ble_eq_true rfl⟩) hw hA (xo_1 t ad) rfl hl.1 rfl (Nat.le_of_ble_eq_true rfl) dX2_settle_10 (fun H locs hw => ?_)
      exact hK2 M6 h _ _ _ hw (lv_sub hl [0, 1, 2, 3] rfl)
end
