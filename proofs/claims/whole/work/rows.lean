section
-- ===== PART A: goes FIRST, ahead of the names: the tables' words, and 'selects' of the private methods out of them =====
/-- a private method of a class that the tables say can be made, by its rows of tables_1 -/
def lw_okq (q : MethodName × Nat) : Prop := (q.1.cls ≠ "java/lang/invoke/MethodHandle" ∧ q.1.cls ≠ "java/lang/invoke/VarHandle") ∧ Cond.instantiable q.1.cls q.2 ∈ tables_1 ∧ Cond.privateMethod q.1 ∈ tables_1 ∧ Cond.instanceMethod q.1 ∈ tables_1
theorem lw_p0 : lw_okq (⟨"BladeDesk$FormReader", "start", "(I)V"⟩, 6) := ⟨⟨by decide +kernel, by decide +kernel⟩, List.mem_of_getElem? (i := 108) (by decide +kernel), List.mem_of_getElem? (i := 180) (by decide +kernel), List.mem_of_getElem? (i := 181) (by decide +kernel)⟩
theorem lw_p1 : lw_okq (⟨"BladeDesk$FormReader", "startTerm", "(Z)V"⟩, 6) := ⟨⟨by decide +kernel, by decide +kernel⟩, List.mem_of_getElem? (i := 108) (by decide +kernel), List.mem_of_getElem? (i := 184) (by decide +kernel), List.mem_of_getElem? (i := 185) (by decide +kernel)⟩
theorem lw_p2 : lw_okq (⟨"BladeDesk$FormReader", "accepts", "(I)Z"⟩, 6) := ⟨⟨by decide +kernel, by decide +kernel⟩, List.mem_of_getElem? (i := 108) (by decide +kernel), List.mem_of_getElem? (i := 188) (by decide +kernel), List.mem_of_getElem? (i := 189) (by decide +kernel)⟩
theorem lw_p3 : lw_okq (⟨"BladeDesk$FormReader", "acceptsSign", "(Z)Z"⟩, 6) := ⟨⟨by decide +kernel, by decide +kernel⟩, List.mem_of_getElem? (i := 108) (by decide +kernel), List.mem_of_getElem? (i := 192) (by decide +kernel), List.mem_of_getElem? (i := 193) (by decide +kernel)⟩
theorem lw_p4 : lw_okq (⟨"BladeDesk$FormReader", "addTerm", "()V"⟩, 6) := ⟨⟨by decide +kernel, by decide +kernel⟩, List.mem_of_getElem? (i := 108) (by decide +kernel), List.mem_of_getElem? (i := 196) (by decide +kernel), List.mem_of_getElem? (i := 197) (by decide +kernel)⟩
theorem lw_p5 : lw_okq (⟨"BladeDesk$FormReader", "acceptsLetter", "()Z"⟩, 6) := ⟨⟨by decide +kernel, by decide +kernel⟩, List.mem_of_getElem? (i := 108) (by decide +kernel), List.mem_of_getElem? (i := 200) (by decide +kernel), List.mem_of_getElem? (i := 201) (by decide +kernel)⟩
theorem lw_p6 : lw_okq (⟨"BladeDesk$FormReader", "acceptsDigit", "(I)Z"⟩, 6) := ⟨⟨by decide +kernel, by decide +kernel⟩, List.mem_of_getElem? (i := 108) (by decide +kernel), List.mem_of_getElem? (i := 204) (by decide +kernel), List.mem_of_getElem? (i := 205) (by decide +kernel)⟩
theorem lw_p7 : lw_okq (⟨"BladeDesk$FormReader", "acceptsFirstDigit", "(I)Z"⟩, 6) := ⟨⟨by decide +kernel, by decide +kernel⟩, List.mem_of_getElem? (i := 108) (by decide +kernel), List.mem_of_getElem? (i := 208) (by decide +kernel), List.mem_of_getElem? (i := 209) (by decide +kernel)⟩
theorem lw_p8 : lw_okq (⟨"BladeDesk$FormReader", "acceptsDirection", "(I)Z"⟩, 6) := ⟨⟨by decide +kernel, by decide +kernel⟩, List.mem_of_getElem? (i := 108) (by decide +kernel), List.mem_of_getElem? (i := 212) (by decide +kernel), List.mem_of_getElem? (i := 213) (by decide +kernel)⟩
theorem lw_p9 : lw_okq (⟨"BladeDesk", "hashCounts", "(J)J"⟩, 11) := ⟨⟨by decide +kernel, by decide +kernel⟩, List.mem_of_getElem? (i := 22) (by decide +kernel), List.mem_of_getElem? (i := 221) (by decide +kernel), List.mem_of_getElem? (i := 222) (by decide +kernel)⟩
theorem lw_p10 : lw_okq (⟨"BladeDesk", "signOrZero", "(I)I"⟩, 11) := ⟨⟨by decide +kernel, by decide +kernel⟩, List.mem_of_getElem? (i := 22) (by decide +kernel), List.mem_of_getElem? (i := 230) (by decide +kernel), List.mem_of_getElem? (i := 231) (by decide +kernel)⟩
theorem lw_p11 : lw_okq (⟨"BladeDesk", "countTaken", "()I"⟩, 11) := ⟨⟨by decide +kernel, by decide +kernel⟩, List.mem_of_getElem? (i := 22) (by decide +kernel), List.mem_of_getElem? (i := 269) (by decide +kernel), List.mem_of_getElem? (i := 270) (by decide +kernel)⟩
theorem lw_p12 : lw_okq (⟨"java/lang/Throwable", "fillInStackTrace", "(I)Ljava/lang/Throwable;"⟩, 6) := ⟨⟨by decide +kernel, by decide +kernel⟩, List.mem_of_getElem? (i := 311) (by decide +kernel), List.mem_of_getElem? (i := 309) (by decide +kernel), List.mem_of_getElem? (i := 310) (by decide +kernel)⟩
theorem lw_p13 : lw_okq (⟨"BladeDesk", "hashMatrix", "(J)J"⟩, 11) := ⟨⟨by decide +kernel, by decide +kernel⟩, List.mem_of_getElem? (i := 22) (by decide +kernel), List.mem_of_getElem? (i := 341) (by decide +kernel), List.mem_of_getElem? (i := 342) (by decide +kernel)⟩
theorem lw_p14 : lw_okq (⟨"BladeDesk", "hashSlot", "(JI)J"⟩, 11) := ⟨⟨by decide +kernel, by decide +kernel⟩, List.mem_of_getElem? (i := 22) (by decide +kernel), List.mem_of_getElem? (i := 345) (by decide +kernel), List.mem_of_getElem? (i := 346) (by decide +kernel)⟩
theorem lw_p15 : lw_okq (⟨"BladeDesk", "decomposableAsTold", "(I)I"⟩, 11) := ⟨⟨by decide +kernel, by decide +kernel⟩, List.mem_of_getElem? (i := 22) (by decide +kernel), List.mem_of_getElem? (i := 381) (by decide +kernel), List.mem_of_getElem? (i := 382) (by decide +kernel)⟩
def lw_privs_1 : List (MethodName × Nat) := [(⟨"BladeDesk$FormReader", "start", "(I)V"⟩, 6), (⟨"BladeDesk$FormReader", "startTerm", "(Z)V"⟩, 6), (⟨"BladeDesk$FormReader", "accepts", "(I)Z"⟩, 6), (⟨"BladeDesk$FormReader", "acceptsSign", "(Z)Z"⟩, 6), (⟨"BladeDesk$FormReader", "addTerm", "()V"⟩, 6), (⟨"BladeDesk$FormReader", "acceptsLetter", "()Z"⟩, 6), (⟨"BladeDesk$FormReader", "acceptsDigit", "(I)Z"⟩, 6), (⟨"BladeDesk$FormReader", "acceptsFirstDigit", "(I)Z"⟩, 6), (⟨"BladeDesk$FormReader", "acceptsDirection", "(I)Z"⟩, 6), (⟨"BladeDesk", "hashCounts", "(J)J"⟩, 11), (⟨"BladeDesk", "signOrZero", "(I)I"⟩, 11), (⟨"BladeDesk", "countTaken", "()I"⟩, 11), (⟨"java/lang/Throwable", "fillInStackTrace", "(I)Ljava/lang/Throwable;"⟩, 6), (⟨"BladeDesk", "hashMatrix", "(J)J"⟩, 11), (⟨"BladeDesk", "hashSlot", "(JI)J"⟩, 11), (⟨"BladeDesk", "decomposableAsTold", "(I)I"⟩, 11)]
theorem lw_r1 : ∀ q ∈ lw_privs_1, lw_okq q := List.forall_mem_cons.mpr ⟨lw_p0, List.forall_mem_cons.mpr ⟨lw_p1, List.forall_mem_cons.mpr ⟨lw_p2, List.forall_mem_cons.mpr ⟨lw_p3, List.forall_mem_cons.mpr ⟨lw_p4, List.forall_mem_cons.mpr ⟨lw_p5, List.forall_mem_cons.mpr ⟨lw_p6, List.forall_mem_cons.mpr ⟨lw_p7, List.forall_mem_cons.mpr ⟨lw_p8, List.forall_mem_cons.mpr ⟨lw_p9, List.forall_mem_cons.mpr ⟨lw_p10, List.forall_mem_cons.mpr ⟨lw_p11, List.forall_mem_cons.mpr ⟨lw_p12, List.forall_mem_cons.mpr ⟨lw_p13, List.forall_mem_cons.mpr ⟨lw_p14, List.forall_mem_cons.mpr ⟨lw_p15, fun _ h => absurd h List.not_mem_nil⟩⟩⟩⟩⟩⟩⟩⟩⟩⟩⟩⟩⟩⟩⟩⟩
theorem lw_p16 : lw_okq (⟨"BladeDesk", "wedgeWithPartnerIsZero", "([II)Z"⟩, 11) := ⟨⟨by decide +kernel, by decide +kernel⟩, List.mem_of_getElem? (i := 22) (by decide +kernel), List.mem_of_getElem? (i := 388) (by decide +kernel), List.mem_of_getElem? (i := 389) (by decide +kernel)⟩
theorem lw_p17 : lw_okq (⟨"BladeDesk", "resultIsZero", "()Z"⟩, 11) := ⟨⟨by decide +kernel, by decide +kernel⟩, List.mem_of_getElem? (i := 22) (by decide +kernel), List.mem_of_getElem? (i := 402) (by decide +kernel), List.mem_of_getElem? (i := 403) (by decide +kernel)⟩
theorem lw_p18 : lw_okq (⟨"BladeDesk", "decomposableByAnnihilator", "(I)I"⟩, 11) := ⟨⟨by decide +kernel, by decide +kernel⟩, List.mem_of_getElem? (i := 22) (by decide +kernel), List.mem_of_getElem? (i := 406) (by decide +kernel), List.mem_of_getElem? (i := 407) (by decide +kernel)⟩
theorem lw_p19 : lw_okq (⟨"BladeDesk$Kernel", "startWithAll", "(I)V"⟩, 3) := ⟨⟨by decide +kernel, by decide +kernel⟩, List.mem_of_getElem? (i := 88) (by decide +kernel), List.mem_of_getElem? (i := 416) (by decide +kernel), List.mem_of_getElem? (i := 417) (by decide +kernel)⟩
theorem lw_p20 : lw_okq (⟨"BladeDesk$Kernel", "cut", "([III)V"⟩, 3) := ⟨⟨by decide +kernel, by decide +kernel⟩, List.mem_of_getElem? (i := 88) (by decide +kernel), List.mem_of_getElem? (i := 420) (by decide +kernel), List.mem_of_getElem? (i := 421) (by decide +kernel)⟩
theorem lw_p21 : lw_okq (⟨"BladeDesk$Kernel", "clearWith", "(III)V"⟩, 3) := ⟨⟨by decide +kernel, by decide +kernel⟩, List.mem_of_getElem? (i := 88) (by decide +kernel), List.mem_of_getElem? (i := 428) (by decide +kernel), List.mem_of_getElem? (i := 429) (by decide +kernel)⟩
theorem lw_p22 : lw_okq (⟨"BladeDesk$Kernel", "removeVector", "(II)V"⟩, 3) := ⟨⟨by decide +kernel, by decide +kernel⟩, List.mem_of_getElem? (i := 88) (by decide +kernel), List.mem_of_getElem? (i := 438) (by decide +kernel), List.mem_of_getElem? (i := 439) (by decide +kernel)⟩
theorem lw_p23 : lw_okq (⟨"BladeDesk", "hashAnnihilator", "(J[I)J"⟩, 11) := ⟨⟨by decide +kernel, by decide +kernel⟩, List.mem_of_getElem? (i := 22) (by decide +kernel), List.mem_of_getElem? (i := 445) (by decide +kernel), List.mem_of_getElem? (i := 446) (by decide +kernel)⟩
theorem lw_p24 : lw_okq (⟨"BladeDesk", "hashFactors", "(J[I)J"⟩, 11) := ⟨⟨by decide +kernel, by decide +kernel⟩, List.mem_of_getElem? (i := 22) (by decide +kernel), List.mem_of_getElem? (i := 453) (by decide +kernel), List.mem_of_getElem? (i := 454) (by decide +kernel)⟩
theorem lw_p25 : lw_okq (⟨"BladeDesk", "requireGrade", "(I)V"⟩, 11) := ⟨⟨by decide +kernel, by decide +kernel⟩, List.mem_of_getElem? (i := 22) (by decide +kernel), List.mem_of_getElem? (i := 513) (by decide +kernel), List.mem_of_getElem? (i := 514) (by decide +kernel)⟩
theorem lw_p26 : lw_okq (⟨"BladeDesk", "firstTooLarge", "()I"⟩, 11) := ⟨⟨by decide +kernel, by decide +kernel⟩, List.mem_of_getElem? (i := 22) (by decide +kernel), List.mem_of_getElem? (i := 541) (by decide +kernel), List.mem_of_getElem? (i := 542) (by decide +kernel)⟩
theorem lw_p27 : lw_okq (⟨"BladeDesk", "requireDirection", "(I)V"⟩, 11) := ⟨⟨by decide +kernel, by decide +kernel⟩, List.mem_of_getElem? (i := 22) (by decide +kernel), List.mem_of_getElem? (i := 578) (by decide +kernel), List.mem_of_getElem? (i := 579) (by decide +kernel)⟩
theorem lw_p28 : lw_okq (⟨"BladeDesk", "requireBlade", "(I)V"⟩, 11) := ⟨⟨by decide +kernel, by decide +kernel⟩, List.mem_of_getElem? (i := 22) (by decide +kernel), List.mem_of_getElem? (i := 602) (by decide +kernel), List.mem_of_getElem? (i := 603) (by decide +kernel)⟩
theorem lw_p29 : lw_okq (⟨"BladeDesk", "requireFits", "()V"⟩, 11) := ⟨⟨by decide +kernel, by decide +kernel⟩, List.mem_of_getElem? (i := 22) (by decide +kernel), List.mem_of_getElem? (i := 619) (by decide +kernel), List.mem_of_getElem? (i := 620) (by decide +kernel)⟩
theorem lw_p30 : lw_okq (⟨"BladeDesk", "storeResult", "(II)I"⟩, 11) := ⟨⟨by decide +kernel, by decide +kernel⟩, List.mem_of_getElem? (i := 22) (by decide +kernel), List.mem_of_getElem? (i := 639) (by decide +kernel), List.mem_of_getElem? (i := 640) (by decide +kernel)⟩
theorem lw_p31 : lw_okq (⟨"BladeDesk", "countFactors", "(I)I"⟩, 11) := ⟨⟨by decide +kernel, by decide +kernel⟩, List.mem_of_getElem? (i := 22) (by decide +kernel), List.mem_of_getElem? (i := 797) (by decide +kernel), List.mem_of_getElem? (i := 798) (by decide +kernel)⟩
def lw_privs_2 : List (MethodName × Nat) := [(⟨"BladeDesk", "wedgeWithPartnerIsZero", "([II)Z"⟩, 11), (⟨"BladeDesk", "resultIsZero", "()Z"⟩, 11), (⟨"BladeDesk", "decomposableByAnnihilator", "(I)I"⟩, 11), (⟨"BladeDesk$Kernel", "startWithAll", "(I)V"⟩, 3), (⟨"BladeDesk$Kernel", "cut", "([III)V"⟩, 3), (⟨"BladeDesk$Kernel", "clearWith", "(III)V"⟩, 3), (⟨"BladeDesk$Kernel", "removeVector", "(II)V"⟩, 3), (⟨"BladeDesk", "hashAnnihilator", "(J[I)J"⟩, 11), (⟨"BladeDesk", "hashFactors", "(J[I)J"⟩, 11), (⟨"BladeDesk", "requireGrade", "(I)V"⟩, 11), (⟨"BladeDesk", "firstTooLarge", "()I"⟩, 11), (⟨"BladeDesk", "requireDirection", "(I)V"⟩, 11), (⟨"BladeDesk", "requireBlade", "(I)V"⟩, 11), (⟨"BladeDesk", "requireFits", "()V"⟩, 11), (⟨"BladeDesk", "storeResult", "(II)I"⟩, 11), (⟨"BladeDesk", "countFactors", "(I)I"⟩, 11)]
theorem lw_r2 : ∀ q ∈ lw_privs_2, lw_okq q := List.forall_mem_cons.mpr ⟨lw_p16, List.forall_mem_cons.mpr ⟨lw_p17, List.forall_mem_cons.mpr ⟨lw_p18, List.forall_mem_cons.mpr ⟨lw_p19, List.forall_mem_cons.mpr ⟨lw_p20, List.forall_mem_cons.mpr ⟨lw_p21, List.forall_mem_cons.mpr ⟨lw_p22, List.forall_mem_cons.mpr ⟨lw_p23, List.forall_mem_cons.mpr ⟨lw_p24, List.forall_mem_cons.mpr ⟨lw_p25, List.forall_mem_cons.mpr ⟨lw_p26, List.forall_mem_cons.mpr ⟨lw_p27, List.forall_mem_cons.mpr ⟨lw_p28, List.forall_mem_cons.mpr ⟨lw_p29, List.forall_mem_cons.mpr ⟨lw_p30, List.forall_mem_cons.mpr ⟨lw_p31, fun _ h => absurd h List.not_mem_nil⟩⟩⟩⟩⟩⟩⟩⟩⟩⟩⟩⟩⟩⟩⟩⟩
theorem lw_p32 : lw_okq (⟨"BladeDeskModel", "layPlain", "()V"⟩, 24) := ⟨⟨by decide +kernel, by decide +kernel⟩, List.mem_of_getElem? (i := 842) (by decide +kernel), List.mem_of_getElem? (i := 848) (by decide +kernel), List.mem_of_getElem? (i := 849) (by decide +kernel)⟩
theorem lw_p33 : lw_okq (⟨"BladeDeskModel", "fails", "(I)I"⟩, 24) := ⟨⟨by decide +kernel, by decide +kernel⟩, List.mem_of_getElem? (i := 842) (by decide +kernel), List.mem_of_getElem? (i := 936) (by decide +kernel), List.mem_of_getElem? (i := 937) (by decide +kernel)⟩
theorem lw_p34 : lw_okq (⟨"BladeDeskModel", "save", "()V"⟩, 24) := ⟨⟨by decide +kernel, by decide +kernel⟩, List.mem_of_getElem? (i := 842) (by decide +kernel), List.mem_of_getElem? (i := 940) (by decide +kernel), List.mem_of_getElem? (i := 941) (by decide +kernel)⟩
theorem lw_p35 : lw_okq (⟨"BladeDeskModel", "isDirection", "(I)Z"⟩, 24) := ⟨⟨by decide +kernel, by decide +kernel⟩, List.mem_of_getElem? (i := 842) (by decide +kernel), List.mem_of_getElem? (i := 948) (by decide +kernel), List.mem_of_getElem? (i := 949) (by decide +kernel)⟩
theorem lw_p36 : lw_okq (⟨"BladeDeskModel", "isBlade", "(I)Z"⟩, 24) := ⟨⟨by decide +kernel, by decide +kernel⟩, List.mem_of_getElem? (i := 842) (by decide +kernel), List.mem_of_getElem? (i := 963) (by decide +kernel), List.mem_of_getElem? (i := 964) (by decide +kernel)⟩
theorem lw_p37 : lw_okq (⟨"BladeDeskModel", "blades", "()I"⟩, 24) := ⟨⟨by decide +kernel, by decide +kernel⟩, List.mem_of_getElem? (i := 842) (by decide +kernel), List.mem_of_getElem? (i := 967) (by decide +kernel), List.mem_of_getElem? (i := 968) (by decide +kernel)⟩
theorem lw_p38 : lw_okq (⟨"BladeDeskModel", "at", "(II)I"⟩, 24) := ⟨⟨by decide +kernel, by decide +kernel⟩, List.mem_of_getElem? (i := 842) (by decide +kernel), List.mem_of_getElem? (i := 973) (by decide +kernel), List.mem_of_getElem? (i := 974) (by decide +kernel)⟩
theorem lw_p39 : lw_okq (⟨"BladeDeskModel", "layBy", "(III)V"⟩, 24) := ⟨⟨by decide +kernel, by decide +kernel⟩, List.mem_of_getElem? (i := 842) (by decide +kernel), List.mem_of_getElem? (i := 981) (by decide +kernel), List.mem_of_getElem? (i := 982) (by decide +kernel)⟩
theorem lw_p40 : lw_okq (⟨"BladeDeskModel", "laySlots", "(II)V"⟩, 24) := ⟨⟨by decide +kernel, by decide +kernel⟩, List.mem_of_getElem? (i := 842) (by decide +kernel), List.mem_of_getElem? (i := 985) (by decide +kernel), List.mem_of_getElem? (i := 986) (by decide +kernel)⟩
theorem lw_p41 : lw_okq (⟨"BladeDeskModel", "layWedge", "()V"⟩, 24) := ⟨⟨by decide +kernel, by decide +kernel⟩, List.mem_of_getElem? (i := 842) (by decide +kernel), List.mem_of_getElem? (i := 989) (by decide +kernel), List.mem_of_getElem? (i := 990) (by decide +kernel)⟩
theorem lw_p42 : lw_okq (⟨"BladeDeskModel", "layContraction", "()V"⟩, 24) := ⟨⟨by decide +kernel, by decide +kernel⟩, List.mem_of_getElem? (i := 842) (by decide +kernel), List.mem_of_getElem? (i := 1002) (by decide +kernel), List.mem_of_getElem? (i := 1003) (by decide +kernel)⟩
theorem lw_p43 : lw_okq (⟨"BladeDeskModel", "signOf", "(I)I"⟩, 24) := ⟨⟨by decide +kernel, by decide +kernel⟩, List.mem_of_getElem? (i := 842) (by decide +kernel), List.mem_of_getElem? (i := 1006) (by decide +kernel), List.mem_of_getElem? (i := 1007) (by decide +kernel)⟩
theorem lw_p44 : lw_okq (⟨"BladeDeskModel", "layPush", "()V"⟩, 24) := ⟨⟨by decide +kernel, by decide +kernel⟩, List.mem_of_getElem? (i := 842) (by decide +kernel), List.mem_of_getElem? (i := 1010) (by decide +kernel), List.mem_of_getElem? (i := 1011) (by decide +kernel)⟩
theorem lw_p45 : lw_okq (⟨"BladeDeskModel", "layGrown", "(I)V"⟩, 24) := ⟨⟨by decide +kernel, by decide +kernel⟩, List.mem_of_getElem? (i := 842) (by decide +kernel), List.mem_of_getElem? (i := 1014) (by decide +kernel), List.mem_of_getElem? (i := 1015) (by decide +kernel)⟩
theorem lw_p46 : lw_okq (⟨"BladeDeskModel", "growBy", "(I)V"⟩, 24) := ⟨⟨by decide +kernel, by decide +kernel⟩, List.mem_of_getElem? (i := 842) (by decide +kernel), List.mem_of_getElem? (i := 1018) (by decide +kernel), List.mem_of_getElem? (i := 1019) (by decide +kernel)⟩
theorem lw_p47 : lw_okq (⟨"BladeDeskModel", "keepOr", "(III)I"⟩, 24) := ⟨⟨by decide +kernel, by decide +kernel⟩, List.mem_of_getElem? (i := 842) (by decide +kernel), List.mem_of_getElem? (i := 1022) (by decide +kernel), List.mem_of_getElem? (i := 1023) (by decide +kernel)⟩
def lw_privs_3 : List (MethodName × Nat) := [(⟨"BladeDeskModel", "layPlain", "()V"⟩, 24), (⟨"BladeDeskModel", "fails", "(I)I"⟩, 24), (⟨"BladeDeskModel", "save", "()V"⟩, 24), (⟨"BladeDeskModel", "isDirection", "(I)Z"⟩, 24), (⟨"BladeDeskModel", "isBlade", "(I)Z"⟩, 24), (⟨"BladeDeskModel", "blades", "()I"⟩, 24), (⟨"BladeDeskModel", "at", "(II)I"⟩, 24), (⟨"BladeDeskModel", "layBy", "(III)V"⟩, 24), (⟨"BladeDeskModel", "laySlots", "(II)V"⟩, 24), (⟨"BladeDeskModel", "layWedge", "()V"⟩, 24), (⟨"BladeDeskModel", "layContraction", "()V"⟩, 24), (⟨"BladeDeskModel", "signOf", "(I)I"⟩, 24), (⟨"BladeDeskModel", "layPush", "()V"⟩, 24), (⟨"BladeDeskModel", "layGrown", "(I)V"⟩, 24), (⟨"BladeDeskModel", "growBy", "(I)V"⟩, 24), (⟨"BladeDeskModel", "keepOr", "(III)I"⟩, 24)]
theorem lw_r3 : ∀ q ∈ lw_privs_3, lw_okq q := List.forall_mem_cons.mpr ⟨lw_p32, List.forall_mem_cons.mpr ⟨lw_p33, List.forall_mem_cons.mpr ⟨lw_p34, List.forall_mem_cons.mpr ⟨lw_p35, List.forall_mem_cons.mpr ⟨lw_p36, List.forall_mem_cons.mpr ⟨lw_p37, List.forall_mem_cons.mpr ⟨lw_p38, List.forall_mem_cons.mpr ⟨lw_p39, List.forall_mem_cons.mpr ⟨lw_p40, List.forall_mem_cons.mpr ⟨lw_p41, List.forall_mem_cons.mpr ⟨lw_p42, List.forall_mem_cons.mpr ⟨lw_p43, List.forall_mem_cons.mpr ⟨lw_p44, List.forall_mem_cons.mpr ⟨lw_p45, List.forall_mem_cons.mpr ⟨lw_p46, List.forall_mem_cons.mpr ⟨lw_p47, fun _ h => absurd h List.not_mem_nil⟩⟩⟩⟩⟩⟩⟩⟩⟩⟩⟩⟩⟩⟩⟩⟩
theorem lw_p48 : lw_okq (⟨"BladeDeskModel", "beyond", "()I"⟩, 24) := ⟨⟨by decide +kernel, by decide +kernel⟩, List.mem_of_getElem? (i := 842) (by decide +kernel), List.mem_of_getElem? (i := 1026) (by decide +kernel), List.mem_of_getElem? (i := 1027) (by decide +kernel)⟩
theorem lw_p49 : lw_okq (⟨"BladeDeskModel", "keep", "(II)I"⟩, 24) := ⟨⟨by decide +kernel, by decide +kernel⟩, List.mem_of_getElem? (i := 842) (by decide +kernel), List.mem_of_getElem? (i := 1033) (by decide +kernel), List.mem_of_getElem? (i := 1034) (by decide +kernel)⟩
theorem lw_p50 : lw_okq (⟨"BladeDeskModel", "many", "(I)I"⟩, 24) := ⟨⟨by decide +kernel, by decide +kernel⟩, List.mem_of_getElem? (i := 842) (by decide +kernel), List.mem_of_getElem? (i := 1037) (by decide +kernel), List.mem_of_getElem? (i := 1038) (by decide +kernel)⟩
theorem lw_p51 : lw_okq (⟨"BladeDeskModel", "read", "()V"⟩, 24) := ⟨⟨by decide +kernel, by decide +kernel⟩, List.mem_of_getElem? (i := 842) (by decide +kernel), List.mem_of_getElem? (i := 1081) (by decide +kernel), List.mem_of_getElem? (i := 1082) (by decide +kernel)⟩
theorem lw_p52 : lw_okq (⟨"BladeDeskModel", "nextState", "(II)I"⟩, 24) := ⟨⟨by decide +kernel, by decide +kernel⟩, List.mem_of_getElem? (i := 842) (by decide +kernel), List.mem_of_getElem? (i := 1085) (by decide +kernel), List.mem_of_getElem? (i := 1086) (by decide +kernel)⟩
theorem lw_p53 : lw_okq (⟨"BladeDeskModel", "beginTerm", "(I)I"⟩, 24) := ⟨⟨by decide +kernel, by decide +kernel⟩, List.mem_of_getElem? (i := 842) (by decide +kernel), List.mem_of_getElem? (i := 1089) (by decide +kernel), List.mem_of_getElem? (i := 1090) (by decide +kernel)⟩
theorem lw_p54 : lw_okq (⟨"BladeDeskModel", "endTerm", "(I)I"⟩, 24) := ⟨⟨by decide +kernel, by decide +kernel⟩, List.mem_of_getElem? (i := 842) (by decide +kernel), List.mem_of_getElem? (i := 1093) (by decide +kernel), List.mem_of_getElem? (i := 1094) (by decide +kernel)⟩
theorem lw_p55 : lw_okq (⟨"BladeDeskModel", "addTerm", "()V"⟩, 24) := ⟨⟨by decide +kernel, by decide +kernel⟩, List.mem_of_getElem? (i := 842) (by decide +kernel), List.mem_of_getElem? (i := 1097) (by decide +kernel), List.mem_of_getElem? (i := 1098) (by decide +kernel)⟩
theorem lw_p56 : lw_okq (⟨"BladeDeskModel", "forms", "()I"⟩, 24) := ⟨⟨by decide +kernel, by decide +kernel⟩, List.mem_of_getElem? (i := 842) (by decide +kernel), List.mem_of_getElem? (i := 1112) (by decide +kernel), List.mem_of_getElem? (i := 1113) (by decide +kernel)⟩
theorem lw_p57 : lw_okq (⟨"BladeDeskModel", "formOf", "(II)I"⟩, 24) := ⟨⟨by decide +kernel, by decide +kernel⟩, List.mem_of_getElem? (i := 842) (by decide +kernel), List.mem_of_getElem? (i := 1132) (by decide +kernel), List.mem_of_getElem? (i := 1133) (by decide +kernel)⟩
theorem lw_p58 : lw_okq (⟨"BladeDeskModel", "gradeOf", "(I)I"⟩, 24) := ⟨⟨by decide +kernel, by decide +kernel⟩, List.mem_of_getElem? (i := 842) (by decide +kernel), List.mem_of_getElem? (i := 1136) (by decide +kernel), List.mem_of_getElem? (i := 1137) (by decide +kernel)⟩
theorem lw_p59 : lw_okq (⟨"BladeDeskModel", "lowest", "(I)I"⟩, 24) := ⟨⟨by decide +kernel, by decide +kernel⟩, List.mem_of_getElem? (i := 842) (by decide +kernel), List.mem_of_getElem? (i := 1140) (by decide +kernel), List.mem_of_getElem? (i := 1141) (by decide +kernel)⟩
theorem lw_p60 : lw_okq (⟨"BladeDeskModel", "highest", "(I)I"⟩, 24) := ⟨⟨by decide +kernel, by decide +kernel⟩, List.mem_of_getElem? (i := 842) (by decide +kernel), List.mem_of_getElem? (i := 1144) (by decide +kernel), List.mem_of_getElem? (i := 1145) (by decide +kernel)⟩
theorem lw_p61 : lw_okq (⟨"BladeDeskModel", "greatest", "(I)I"⟩, 24) := ⟨⟨by decide +kernel, by decide +kernel⟩, List.mem_of_getElem? (i := 842) (by decide +kernel), List.mem_of_getElem? (i := 1148) (by decide +kernel), List.mem_of_getElem? (i := 1149) (by decide +kernel)⟩
theorem lw_p62 : lw_okq (⟨"BladeDeskModel", "lead", "(I)I"⟩, 24) := ⟨⟨by decide +kernel, by decide +kernel⟩, List.mem_of_getElem? (i := 842) (by decide +kernel), List.mem_of_getElem? (i := 1152) (by decide +kernel), List.mem_of_getElem? (i := 1153) (by decide +kernel)⟩
theorem lw_p63 : lw_okq (⟨"BladeDeskModel", "directions", "(I)I"⟩, 24) := ⟨⟨by decide +kernel, by decide +kernel⟩, List.mem_of_getElem? (i := 842) (by decide +kernel), List.mem_of_getElem? (i := 1156) (by decide +kernel), List.mem_of_getElem? (i := 1157) (by decide +kernel)⟩
def lw_privs_4 : List (MethodName × Nat) := [(⟨"BladeDeskModel", "beyond", "()I"⟩, 24), (⟨"BladeDeskModel", "keep", "(II)I"⟩, 24), (⟨"BladeDeskModel", "many", "(I)I"⟩, 24), (⟨"BladeDeskModel", "read", "()V"⟩, 24), (⟨"BladeDeskModel", "nextState", "(II)I"⟩, 24), (⟨"BladeDeskModel", "beginTerm", "(I)I"⟩, 24), (⟨"BladeDeskModel", "endTerm", "(I)I"⟩, 24), (⟨"BladeDeskModel", "addTerm", "()V"⟩, 24), (⟨"BladeDeskModel", "forms", "()I"⟩, 24), (⟨"BladeDeskModel", "formOf", "(II)I"⟩, 24), (⟨"BladeDeskModel", "gradeOf", "(I)I"⟩, 24), (⟨"BladeDeskModel", "lowest", "(I)I"⟩, 24), (⟨"BladeDeskModel", "highest", "(I)I"⟩, 24), (⟨"BladeDeskModel", "greatest", "(I)I"⟩, 24), (⟨"BladeDeskModel", "lead", "(I)I"⟩, 24), (⟨"BladeDeskModel", "directions", "(I)I"⟩, 24)]
theorem lw_r4 : ∀ q ∈ lw_privs_4, lw_okq q := List.forall_mem_cons.mpr ⟨lw_p48, List.forall_mem_cons.mpr ⟨lw_p49, List.forall_mem_cons.mpr ⟨lw_p50, List.forall_mem_cons.mpr ⟨lw_p51, List.forall_mem_cons.mpr ⟨lw_p52, List.forall_mem_cons.mpr ⟨lw_p53, List.forall_mem_cons.mpr ⟨lw_p54, List.forall_mem_cons.mpr ⟨lw_p55, List.forall_mem_cons.mpr ⟨lw_p56, List.forall_mem_cons.mpr ⟨lw_p57, List.forall_mem_cons.mpr ⟨lw_p58, List.forall_mem_cons.mpr ⟨lw_p59, List.forall_mem_cons.mpr ⟨lw_p60, List.forall_mem_cons.mpr ⟨lw_p61, List.forall_mem_cons.mpr ⟨lw_p62, List.forall_mem_cons.mpr ⟨lw_p63, fun _ h => absurd h List.not_mem_nil⟩⟩⟩⟩⟩⟩⟩⟩⟩⟩⟩⟩⟩⟩⟩⟩
theorem lw_p64 : lw_okq (⟨"BladeDeskModel", "innerOf", "(II)J"⟩, 24) := ⟨⟨by decide +kernel, by decide +kernel⟩, List.mem_of_getElem? (i := 842) (by decide +kernel), List.mem_of_getElem? (i := 1164) (by decide +kernel), List.mem_of_getElem? (i := 1165) (by decide +kernel)⟩
theorem lw_p65 : lw_okq (⟨"BladeDeskModel", "decomposableOf", "(II)I"⟩, 24) := ⟨⟨by decide +kernel, by decide +kernel⟩, List.mem_of_getElem? (i := 842) (by decide +kernel), List.mem_of_getElem? (i := 1172) (by decide +kernel), List.mem_of_getElem? (i := 1173) (by decide +kernel)⟩
theorem lw_p66 : lw_okq (⟨"BladeDeskModel", "isPure", "(II)Z"⟩, 24) := ⟨⟨by decide +kernel, by decide +kernel⟩, List.mem_of_getElem? (i := 842) (by decide +kernel), List.mem_of_getElem? (i := 1176) (by decide +kernel), List.mem_of_getElem? (i := 1177) (by decide +kernel)⟩
theorem lw_p67 : lw_okq (⟨"BladeDeskModel", "vector", "(III)J"⟩, 24) := ⟨⟨by decide +kernel, by decide +kernel⟩, List.mem_of_getElem? (i := 842) (by decide +kernel), List.mem_of_getElem? (i := 1180) (by decide +kernel), List.mem_of_getElem? (i := 1181) (by decide +kernel)⟩
theorem lw_p68 : lw_okq (⟨"BladeDeskModel", "isResultEmpty", "()Z"⟩, 24) := ⟨⟨by decide +kernel, by decide +kernel⟩, List.mem_of_getElem? (i := 842) (by decide +kernel), List.mem_of_getElem? (i := 1184) (by decide +kernel), List.mem_of_getElem? (i := 1185) (by decide +kernel)⟩
theorem lw_p69 : lw_okq (⟨"BladeDeskModel", "annihilatorOf", "(I)I"⟩, 24) := ⟨⟨by decide +kernel, by decide +kernel⟩, List.mem_of_getElem? (i := 842) (by decide +kernel), List.mem_of_getElem? (i := 1188) (by decide +kernel), List.mem_of_getElem? (i := 1189) (by decide +kernel)⟩
theorem lw_p70 : lw_okq (⟨"BladeDeskModel", "isAnnihilatorTold", "(I)Z"⟩, 24) := ⟨⟨by decide +kernel, by decide +kernel⟩, List.mem_of_getElem? (i := 842) (by decide +kernel), List.mem_of_getElem? (i := 1192) (by decide +kernel), List.mem_of_getElem? (i := 1193) (by decide +kernel)⟩
theorem lw_p71 : lw_okq (⟨"BladeDeskModel", "solve", "(I)V"⟩, 24) := ⟨⟨by decide +kernel, by decide +kernel⟩, List.mem_of_getElem? (i := 842) (by decide +kernel), List.mem_of_getElem? (i := 1196) (by decide +kernel), List.mem_of_getElem? (i := 1197) (by decide +kernel)⟩
theorem lw_p72 : lw_okq (⟨"BladeDeskModel", "layLines", "(I)V"⟩, 24) := ⟨⟨by decide +kernel, by decide +kernel⟩, List.mem_of_getElem? (i := 842) (by decide +kernel), List.mem_of_getElem? (i := 1200) (by decide +kernel), List.mem_of_getElem? (i := 1201) (by decide +kernel)⟩
theorem lw_p73 : lw_okq (⟨"BladeDeskModel", "exchange", "(II)V"⟩, 24) := ⟨⟨by decide +kernel, by decide +kernel⟩, List.mem_of_getElem? (i := 842) (by decide +kernel), List.mem_of_getElem? (i := 1204) (by decide +kernel), List.mem_of_getElem? (i := 1205) (by decide +kernel)⟩
theorem lw_p74 : lw_okq (⟨"BladeDeskModel", "clearColumn", "(IJ)V"⟩, 24) := ⟨⟨by decide +kernel, by decide +kernel⟩, List.mem_of_getElem? (i := 842) (by decide +kernel), List.mem_of_getElem? (i := 1208) (by decide +kernel), List.mem_of_getElem? (i := 1209) (by decide +kernel)⟩
theorem lw_p75 : lw_okq (⟨"BladeDeskModel", "factors", "(I)I"⟩, 24) := ⟨⟨by decide +kernel, by decide +kernel⟩, List.mem_of_getElem? (i := 842) (by decide +kernel), List.mem_of_getElem? (i := 1216) (by decide +kernel), List.mem_of_getElem? (i := 1217) (by decide +kernel)⟩
theorem lw_p76 : lw_okq (⟨"BladeDeskModel", "factorOf", "(III)I"⟩, 24) := ⟨⟨by decide +kernel, by decide +kernel⟩, List.mem_of_getElem? (i := 842) (by decide +kernel), List.mem_of_getElem? (i := 1220) (by decide +kernel), List.mem_of_getElem? (i := 1221) (by decide +kernel)⟩
theorem lw_p77 : lw_okq (⟨"BladeDeskModel", "basisOf", "(II)I"⟩, 24) := ⟨⟨by decide +kernel, by decide +kernel⟩, List.mem_of_getElem? (i := 842) (by decide +kernel), List.mem_of_getElem? (i := 1232) (by decide +kernel), List.mem_of_getElem? (i := 1233) (by decide +kernel)⟩
theorem lw_p78 : lw_okq (⟨"BladeDeskModel", "headOf", "(I)I"⟩, 24) := ⟨⟨by decide +kernel, by decide +kernel⟩, List.mem_of_getElem? (i := 842) (by decide +kernel), List.mem_of_getElem? (i := 1236) (by decide +kernel), List.mem_of_getElem? (i := 1237) (by decide +kernel)⟩
theorem lw_p79 : lw_okq (⟨"BladeDeskModel", "rawOf", "(II)J"⟩, 24) := ⟨⟨by decide +kernel, by decide +kernel⟩, List.mem_of_getElem? (i := 842) (by decide +kernel), List.mem_of_getElem? (i := 1240) (by decide +kernel), List.mem_of_getElem? (i := 1241) (by decide +kernel)⟩
def lw_privs_5 : List (MethodName × Nat) := [(⟨"BladeDeskModel", "innerOf", "(II)J"⟩, 24), (⟨"BladeDeskModel", "decomposableOf", "(II)I"⟩, 24), (⟨"BladeDeskModel", "isPure", "(II)Z"⟩, 24), (⟨"BladeDeskModel", "vector", "(III)J"⟩, 24), (⟨"BladeDeskModel", "isResultEmpty", "()Z"⟩, 24), (⟨"BladeDeskModel", "annihilatorOf", "(I)I"⟩, 24), (⟨"BladeDeskModel", "isAnnihilatorTold", "(I)Z"⟩, 24), (⟨"BladeDeskModel", "solve", "(I)V"⟩, 24), (⟨"BladeDeskModel", "layLines", "(I)V"⟩, 24), (⟨"BladeDeskModel", "exchange", "(II)V"⟩, 24), (⟨"BladeDeskModel", "clearColumn", "(IJ)V"⟩, 24), (⟨"BladeDeskModel", "factors", "(I)I"⟩, 24), (⟨"BladeDeskModel", "factorOf", "(III)I"⟩, 24), (⟨"BladeDeskModel", "basisOf", "(II)I"⟩, 24), (⟨"BladeDeskModel", "headOf", "(I)I"⟩, 24), (⟨"BladeDeskModel", "rawOf", "(II)J"⟩, 24)]
theorem lw_r5 : ∀ q ∈ lw_privs_5, lw_okq q := List.forall_mem_cons.mpr ⟨lw_p64, List.forall_mem_cons.mpr ⟨lw_p65, List.forall_mem_cons.mpr ⟨lw_p66, List.forall_mem_cons.mpr ⟨lw_p67, List.forall_mem_cons.mpr ⟨lw_p68, List.forall_mem_cons.mpr ⟨lw_p69, List.forall_mem_cons.mpr ⟨lw_p70, List.forall_mem_cons.mpr ⟨lw_p71, List.forall_mem_cons.mpr ⟨lw_p72, List.forall_mem_cons.mpr ⟨lw_p73, List.forall_mem_cons.mpr ⟨lw_p74, List.forall_mem_cons.mpr ⟨lw_p75, List.forall_mem_cons.mpr ⟨lw_p76, List.forall_mem_cons.mpr ⟨lw_p77, List.forall_mem_cons.mpr ⟨lw_p78, List.forall_mem_cons.mpr ⟨lw_p79, fun _ h => absurd h List.not_mem_nil⟩⟩⟩⟩⟩⟩⟩⟩⟩⟩⟩⟩⟩⟩⟩⟩
theorem lw_p80 : lw_okq (⟨"BladeDeskModel", "refusedOf", "(III)I"⟩, 24) := ⟨⟨by decide +kernel, by decide +kernel⟩, List.mem_of_getElem? (i := 842) (by decide +kernel), List.mem_of_getElem? (i := 1251) (by decide +kernel), List.mem_of_getElem? (i := 1252) (by decide +kernel)⟩
theorem lw_p81 : lw_okq (⟨"BladeDeskModel", "compareOf", "(II)I"⟩, 24) := ⟨⟨by decide +kernel, by decide +kernel⟩, List.mem_of_getElem? (i := 842) (by decide +kernel), List.mem_of_getElem? (i := 1259) (by decide +kernel), List.mem_of_getElem? (i := 1260) (by decide +kernel)⟩
theorem lw_p82 : lw_okq (⟨"BladeDeskModel", "counted", "(I)I"⟩, 24) := ⟨⟨by decide +kernel, by decide +kernel⟩, List.mem_of_getElem? (i := 842) (by decide +kernel), List.mem_of_getElem? (i := 1267) (by decide +kernel), List.mem_of_getElem? (i := 1268) (by decide +kernel)⟩
theorem lw_p83 : lw_okq (⟨"BladeDeskModel", "densityOf", "(I)F"⟩, 24) := ⟨⟨by decide +kernel, by decide +kernel⟩, List.mem_of_getElem? (i := 842) (by decide +kernel), List.mem_of_getElem? (i := 1279) (by decide +kernel), List.mem_of_getElem? (i := 1280) (by decide +kernel)⟩
theorem lw_p84 : lw_okq (⟨"BladeDeskModel", "shareOf", "(II)D"⟩, 24) := ⟨⟨by decide +kernel, by decide +kernel⟩, List.mem_of_getElem? (i := 842) (by decide +kernel), List.mem_of_getElem? (i := 1287) (by decide +kernel), List.mem_of_getElem? (i := 1288) (by decide +kernel)⟩
theorem lw_p85 : lw_okq (⟨"BladeDeskModel", "mix", "(J)V"⟩, 24) := ⟨⟨by decide +kernel, by decide +kernel⟩, List.mem_of_getElem? (i := 842) (by decide +kernel), List.mem_of_getElem? (i := 1296) (by decide +kernel), List.mem_of_getElem? (i := 1297) (by decide +kernel)⟩
theorem lw_p86 : lw_okq (⟨"BladeDeskModel", "mixSlot", "(I)V"⟩, 24) := ⟨⟨by decide +kernel, by decide +kernel⟩, List.mem_of_getElem? (i := 842) (by decide +kernel), List.mem_of_getElem? (i := 1301) (by decide +kernel), List.mem_of_getElem? (i := 1302) (by decide +kernel)⟩
def lw_privs_6 : List (MethodName × Nat) := [(⟨"BladeDeskModel", "refusedOf", "(III)I"⟩, 24), (⟨"BladeDeskModel", "compareOf", "(II)I"⟩, 24), (⟨"BladeDeskModel", "counted", "(I)I"⟩, 24), (⟨"BladeDeskModel", "densityOf", "(I)F"⟩, 24), (⟨"BladeDeskModel", "shareOf", "(II)D"⟩, 24), (⟨"BladeDeskModel", "mix", "(J)V"⟩, 24), (⟨"BladeDeskModel", "mixSlot", "(I)V"⟩, 24)]
theorem lw_r6 : ∀ q ∈ lw_privs_6, lw_okq q := List.forall_mem_cons.mpr ⟨lw_p80, List.forall_mem_cons.mpr ⟨lw_p81, List.forall_mem_cons.mpr ⟨lw_p82, List.forall_mem_cons.mpr ⟨lw_p83, List.forall_mem_cons.mpr ⟨lw_p84, List.forall_mem_cons.mpr ⟨lw_p85, List.forall_mem_cons.mpr ⟨lw_p86, fun _ h => absurd h List.not_mem_nil⟩⟩⟩⟩⟩⟩⟩
def lw_privs : List (MethodName × Nat) := lw_privs_1 ++ (lw_privs_2 ++ (lw_privs_3 ++ (lw_privs_4 ++ (lw_privs_5 ++ (lw_privs_6)))))
def lw_tbl : List Cond := k2_sels lw_privs ++ tables_1
theorem lw_privs_ok : ∀ q ∈ lw_privs, lw_okq q := by
  show ∀ q ∈ lw_privs_1 ++ (lw_privs_2 ++ (lw_privs_3 ++ (lw_privs_4 ++ (lw_privs_5 ++ (lw_privs_6))))), lw_okq q
  exact List.forall_mem_append.mpr ⟨lw_r1, List.forall_mem_append.mpr ⟨lw_r2, List.forall_mem_append.mpr ⟨lw_r3, List.forall_mem_append.mpr ⟨lw_r4, List.forall_mem_append.mpr ⟨lw_r5, lw_r6⟩⟩⟩⟩⟩
/-- the streams that the claim lets the run draw from -/
abbrev lw_cs : List Choice := [Jvm.Choice.named "NaN.bits"]
theorem lw_bits : nanBits ∈ lw_cs := by first | decide | exact List.mem_cons_self | simp [lw_cs, nanBits]
-- ===== end of PART A; then your names; then what follows =====
end
section
/-! ===== BEGIN words of one list among another's, by their places ===== -/
theorem goodIn_r {big : List Cond} (ws : List Cond) (ps : List Nat) (hp : ws = ps.filterMap (fun i => big[i]?)) (h : ws.all goodWord = true) : GoodIn big ws := by
  intro w hw
  have h1 := List.all_eq_true.mp h w hw
  rw [hp] at hw
  obtain ⟨i, -, hi⟩ := List.mem_filterMap.mp hw
  have hm : w ∈ big := by first | exact List.mem_of_getElem? hi | exact List.getElem?_mem hi
  exact ⟨hm, good_of_word h1⟩
theorem goodIn_app {big a b : List Cond} (ha : GoodIn big a) (hb : GoodIn big b) : GoodIn big (a ++ b) := fun w h => (List.mem_append.mp h).elim (ha w) (hb w)
theorem goodIn_ca {big a b : List Cond} {c : Cond} (ha : GoodIn big (c :: a)) (hb : GoodIn big b) : GoodIn big (c :: (a ++ b)) := fun w h => (List.mem_cons.mp h).elim (fun e => ha w (List.mem_cons.mpr (Or.inl e))) (fun h => (List.mem_append.mp h).elim (fun h => ha w (List.mem_cons.mpr (Or.inr h))) (hb w))
theorem goodIn_sub {big ws : List Cond} (hm : ∀ w ∈ ws, w ∈ big) (h : ws.all goodWord = true) : GoodIn big ws := fun w hw => ⟨hm w hw, good_of_word (List.all_eq_true.mp h w hw)⟩
/-! ===== END ===== -/

/-! ===== BEGIN new T[n][m]: the outer array a place, the inner ones among the pooled ===== -/
/-- f, but v at every address of l -/
def vr_up {α : Type} (f : Nat → α) (l : List Nat) (v : α) : Nat → α := fun a => if a ∈ l then v else f a
theorem vr_up_in {α : Type} {f : Nat → α} {l : List Nat} {v : α} {a : Nat} (h : a ∈ l) : vr_up f l v a = v := if_pos h
theorem vr_up_ne {α : Type} {f : Nat → α} {l : List Nat} {v : α} {a : Nat} (h : a ∉ l) : vr_up f l v a = f a := if_neg h
theorem vr_rows {L l : List Nat} {f : Nat → va_E} {e : va_E} (h : ∀ a, a ∈ l → a ∉ L) : va_pl L f ++ l.map (fun a => (a, e)) = va_pl (L ++ l) (vr_up f l e) := by
  unfold va_pl
  rw [List.map_append]
  congr 1
  · apply List.map_congr_left
    intro a ha
    rw [vr_up_ne (fun q => h a q ha)]
  · apply List.map_congr_left
    intro a ha
    rw [vr_up_in ha]
theorem vr_lay {X rows : va_W} {x : Nat × va_E} {pl : va_W} {D : va_G} {cl : List vw_C} {H : Heap} (hP : va_P D cl (((X ++ pl) ++ [x]) ++ rows) H) : va_P D cl ((X ++ [x]) ++ (pl ++ rows)) H := by
  rw [List.append_assoc (X ++ pl)] at hP
  have h := va_P.swap hP
  rw [← List.append_assoc X] at h
  have h2 := va_P.swap h
  rw [List.append_assoc (X ++ [x])] at h2
  exact h2
theorem vr_layD {X rows : va_W} {x : Nat × va_E} {pl : va_W} {A : Nat → Prop} (hD : va_D A (((X ++ pl) ++ [x]) ++ rows)) : va_D A ((X ++ [x]) ++ (pl ++ rows)) := by
  rw [List.append_assoc (X ++ pl)] at hD
  have h := va_D.swap hD
  rw [← List.append_assoc X] at h
  have h2 := va_D.swap h
  rw [List.append_assoc (X ++ [x])] at h2
  exact h2
theorem vr_outer (c : ClassId) (N h0 : Nat) : ∀ i : Nat, Jvm.Free.Multi.outerC c N h0 i = arrV c N (fun j => va_rf (if j < i then some (h0 + 1 + j) else none))
  | 0 => by
    show ({ cls := c, slots := Array.replicate N .null, vm := .none } : Cell) = _
    rw [arrV_new]
    refine congrArg (arrV c N) (funext fun j => ?_)
    simp [va_rf]
  | i + 1 => by
    show (Jvm.Free.Multi.outerC c N h0 i).setSlot i (.ref (h0 + 1 + i)) = _
    rw [vr_outer c N h0 i, arrV_store]
    refine congrArg (arrV c N) (funext fun j => ?_)
    by_cases e : j = i
    · subst e
      simp [updV, va_rf]
    · by_cases h : j < i
      · simp [updV, e, h, Nat.lt_succ_of_lt h]
      · simp [updV, e, h, show ¬ j < i + 1 by omega]
def va_AOA (ty : FieldType) (U : State) : Prop := (Cond.arrayOver (.array ty)).before #[] U = true
theorem va_AOA.use {ty : FieldType} {A : Array Value} {U : State} (h : va_AOA ty U) : (Cond.arrayOver (.array ty)).before A U = true := h
theorem va_AOA.of {ty : FieldType} {A : Array Value} {U : State} (h : (Cond.arrayOver (.array ty)).before A U = true) : va_AOA ty U := h
section VGM
variable {p : Program} {l : Launch} {e : Env} {R : Room} {s : State} {m : MethodId} {args : Array Value} {below : List Frame} {meth : Method} {c : Code} {H : Heap} {locs : List Loc} {cells slots : Nat} {Q : State → Prop}
variable {cc : ByteArray} {pc : Nat} {ls : Array Slot} {rest : List Value} {D : va_G} {cl : List vw_C} {A : Nat → Prop} {a : Nat} {tys : List (ClassId × FieldType)} {ws : va_W} {H0 : Heap}
theorem va_mna {X : va_W} {L : List Nat} {f : Nat → va_E} {cc : ByteArray} (hexec : p.tables.exec = Jvm.exec) (hb : c.code = cc) {own : String} {index : Nat} {ty : FieldType} {cy : ClassId} (hown : s.vm.findClass own = some m.cls) (hclink : (Cond.classLink own index ("[" ++ (FieldType.array ty).toString)).before args s = true) (hover : va_AOA ty s) (harr : (Cond.arrayClass ty).before args s = true) (hcy : s.vm.findClass (FieldType.array ty).toString = some cy)
    (hK : va_K D cl tys s) (hP : va_P D cl (X ++ va_pl L f) H) (hD : va_D A (X ++ va_pl L f)) (hS : va_S A H0 H locs) (hA : ∀ q, H0.size ≤ q → A q) {n k : Int32} {N' K' : Nat} {z : vp_A} (hn : ¬ n < 0) (hk : ¬ k < 0) (hN : n.toNatClampNeg = N') (hM : k.toNatClampNeg = K')
    (hb1 : N' * 4 ≤ 536870912) (hb2 : K' * componentBytes ty ≤ 536870912) (hb3 : K' ≤ 536870912) (hdf : fits ty (defaultValue ty) = true) (hdd : (defaultValue ty).isDefault = true) (hcells : cells + (1 + N') ≤ R.cells) (hslots : slots + (N' + N' * K') ≤ R.slots) (hz : ∀ c : ClassId, Jvm.Free.Multi.innerC c K' (defaultValue ty) = vp_cell c z) (hdg : decode cc pc = .ok (.multianewarray index 2, 4))
    (kk : ∀ (q : Nat) (r : Nat → Nat) (cA : ClassId) (H1 : Heap), (∀ i j : Nat, i < N' → j < N' → r i = r j → i = j) → (∀ i : Nat, i < N' → r i ∉ L) → va_K D cl (tys ++ [(cA, .array ty)]) s →
      va_P D cl ((X ++ [(q, .inl (cA, N', .inr (.inr (.inr (.inr (fun i => if i < N' then some (r i) else none))))))]) ++ va_pl (L ++ (List.range N').map r) (vr_up f ((List.range N').map r) (.inl (cy, z)))) H1 → va_D A ((X ++ [(q, .inl (cA, N', .inr (.inr (.inr (.inr (fun i => if i < N' then some (r i) else none))))))]) ++ va_pl (L ++ (List.range N').map r) (vr_up f ((List.range N').map r) (.inl (cy, z)))) → va_S A H0 H1 locs →
      W p l e R s m args below meth c H1 locs (cells + 1 + N') (slots + N' + N' * K') Q (F0 m (pc + 4) ls (.ref q :: rest))) : W p l e R s m args below meth c H locs cells slots Q (F0 m pc ls (.int k :: .int n :: rest)) := by
  subst hN
  subst hM
  intro T hT Xs
  obtain ⟨vm₁, cA, comp, -, fA, fC, hO, -, X', step⟩ := Xs.multianewarray2F hexec hown hclink (va_AOA.use hover) harr (g := F0 m pc ls (.int k :: .int n :: rest)) rfl (by rw [hb]; exact hdg) rfl hn hk hb1 hb2 hb3 hdf hdd hcells hslots
  have ec : some cy = some comp := hcy.symm.trans fC
  cases ec
  generalize hF : Jvm.Free.Multi.fill (T.setVm vm₁) cA cy n.toNatClampNeg k.toNatClampNeg (defaultValue ty) n.toNatClampNeg = F at X' step
  have hTh : (T.setVm vm₁).heap = H := hT
  obtain ⟨f1, f2, -, -⟩ := Jvm.Free.Multi.fill_facts (T.setVm vm₁) cA cy n.toNatClampNeg k.toNatClampNeg (defaultValue ty) n.toNatClampNeg
  rw [hF, hTh] at f1 f2
  have hold : ∀ x : Nat, x < H.size → F.heap[x]? = H[x]? := fun x hx => by
    have := Jvm.Free.Multi.fill_old (T.setVm vm₁) cA cy n.toNatClampNeg k.toNatClampNeg (defaultValue ty) (a := x) (by rw [hTh]; exact hx) n.toNatClampNeg
    rw [hF, hTh] at this
    exact this
  have hrow : ∀ j : Nat, j < n.toNatClampNeg → F.heap[H.size + 1 + j]? = some (vp_cell cy z) := fun j hj => by
    have := Jvm.Free.Multi.fill_inner (T.setVm vm₁) cA cy n.toNatClampNeg k.toNatClampNeg (defaultValue ty) n.toNatClampNeg j hj
    rw [hF, hTh, hz] at this
    exact this
  have hout : Jvm.Free.Multi.outerC cA n.toNatClampNeg H.size n.toNatClampNeg = vp_cell cA (n.toNatClampNeg, .inr (.inr (.inr (.inr (fun i => if i < n.toNatClampNeg then some (H.size + 1 + i) else none))))) := by
    rw [vp_cell_q]
    exact vr_outer cA n.toNatClampNeg H.size n.toNatClampNeg
  rw [hout] at f2
  have hlt : ∀ a, a ∈ L → a < H.size := fun a ha => by
    obtain ⟨k9, hk9⟩ := va_pl_get (X := X) (f := f) ha
    exact (hP k9 _ hk9).lt
  have hnl : ∀ i : Nat, i < n.toNatClampNeg → H.size + 1 + i ∉ L := fun i _ h => by
    have := hlt _ h
    omega
  have hnm : ∀ a, a ∈ (List.range n.toNatClampNeg).map (fun i => H.size + 1 + i) → a ∉ L := fun a ha h => by
    obtain ⟨i, -, rfl⟩ := List.mem_map.mp ha
    have := hlt _ h
    omega
  have hP0 : va_P D cl (X ++ va_pl L f) F.heap := hP.kept (fun k9 x hx => hold x.1 ((hP k9 x hx).lt))
  have hP1 : va_P D cl ((X ++ va_pl L f) ++ [(H.size, .inl (cA, n.toNatClampNeg, .inr (.inr (.inr (.inr (fun i => if i < n.toNatClampNeg then some (H.size + 1 + i) else none))))))]) F.heap := hP0.app (fun k9 x hx => by
    have h0 : k9 < 1 := (List.getElem?_eq_some_iff.mp hx).1
    rw [show k9 = 0 by omega] at hx
    cases hx
    exact f2)
  have hP2 : va_P D cl (((X ++ va_pl L f) ++ [(H.size, .inl (cA, n.toNatClampNeg, .inr (.inr (.inr (.inr (fun i => if i < n.toNatClampNeg then some (H.size + 1 + i) else none))))))]) ++ ((List.range n.toNatClampNeg).map (fun i => H.size + 1 + i)).map (fun a => (a, .inl (cy, z)))) F.heap := hP1.app (fun k9 x hx => by
    obtain ⟨a, ha, rfl⟩ := List.mem_map.mp (List.mem_of_getElem? hx)
    obtain ⟨i, hi, rfl⟩ := List.mem_map.mp ha
    exact hrow i (List.mem_range.mp hi))
  have hD2 : va_D A (((X ++ va_pl L f) ++ [(H.size, .inl (cA, n.toNatClampNeg, .inr (.inr (.inr (.inr (fun i => if i < n.toNatClampNeg then some (H.size + 1 + i) else none))))))]) ++ ((List.range n.toNatClampNeg).map (fun i => H.size + 1 + i)).map (fun a => (a, .inl (cy, z)))) := by
    have hD1 := hD.push (e := .inl (cA, n.toNatClampNeg, .inr (.inr (.inr (.inr (fun i => if i < n.toNatClampNeg then some (H.size + 1 + i) else none)))))) hP rfl (hA _ hS.1)
    generalize hW1 : (X ++ va_pl L f) ++ [(H.size, .inl (cA, n.toNatClampNeg, .inr (.inr (.inr (.inr (fun i => if i < n.toNatClampNeg then some (H.size + 1 + i) else none))))))] = W1 at hD1 hP1 ⊢
    have hle : ∀ (k9 : Nat) (x : Nat × va_E), W1[k9]? = some x → x.1 ≤ H.size := fun k9 x hx => by
      rw [← hW1] at hx
      by_cases hl : k9 < (X ++ va_pl L f).length
      · rw [List.getElem?_append_left hl] at hx
        exact Nat.le_of_lt ((hP k9 x hx).lt)
      · rw [List.getElem?_append_right (by omega)] at hx
        have h0 : k9 - (X ++ va_pl L f).length < 1 := (List.getElem?_eq_some_iff.mp hx).1
        rw [show k9 - (X ++ va_pl L f).length = 0 by omega] at hx
        cases hx
        exact Nat.le_refl _
    have hr : ∀ (k9 : Nat) (x : Nat × va_E), (((List.range n.toNatClampNeg).map (fun i => H.size + 1 + i)).map (fun a => ((a, .inl (cy, z)) : Nat × va_E)))[k9]? = some x → x.1 = H.size + 1 + k9 := fun k9 x hx => by
      rw [List.getElem?_map, List.getElem?_map] at hx
      by_cases h9 : k9 < n.toNatClampNeg
      · rw [List.getElem?_range h9] at hx
        cases hx
        rfl
      · have hn0 : (List.range n.toNatClampNeg)[k9]? = none := List.getElem?_eq_none (by rw [List.length_range]; omega)
        rw [hn0] at hx
        cases hx
    refine ⟨fun i j x y hi hj hxy => ?_, fun k9 x hx => ?_⟩
    · by_cases h1 : i < W1.length <;> by_cases h2 : j < W1.length
      · rw [List.getElem?_append_left h1] at hi
        rw [List.getElem?_append_left h2] at hj
        exact hD1.1 i j x y hi hj hxy
      · rw [List.getElem?_append_left h1] at hi
        rw [List.getElem?_append_right (by omega)] at hj
        have := hle _ _ hi
        have := hr _ _ hj
        omega
      · rw [List.getElem?_append_right (by omega)] at hi
        rw [List.getElem?_append_left h2] at hj
        have := hle _ _ hj
        have := hr _ _ hi
        omega
      · rw [List.getElem?_append_right (by omega)] at hi hj
        have := hr _ _ hi
        have := hr _ _ hj
        omega
    · by_cases h1 : k9 < W1.length
      · rw [List.getElem?_append_left h1] at hx
        exact hD1.2 k9 x hx
      · rw [List.getElem?_append_right (by omega)] at hx
        have := hr _ _ hx
        exact hA _ (by have := hS.1; omega)
  have hAr : ArrOfT s cA (.array ty) := fun N9 z9 => by
    obtain ⟨-, k9, hk9, cm9, hkk9⟩ := (hO 0 0 0).1
    exact ⟨(fun q hq => by cases hq), k9, hk9, cm9, hkk9⟩
  have hK2 : va_K D cl (tys ++ [(cA, .array ty)]) s := ⟨hK.1, fun k9 x hx => by
    by_cases hl : k9 < tys.length
    · rw [List.getElem?_append_left hl] at hx
      exact hK.2 k9 x hx
    · rw [List.getElem?_append_right (by omega)] at hx
      have h0 : k9 - tys.length < 1 := (List.getElem?_eq_some_iff.mp hx).1
      rw [show k9 - tys.length = 0 by omega] at hx
      cases hx
      exact ⟨hAr, fA⟩⟩
  obtain ⟨t, a1, b1⟩ := kk H.size (fun i => H.size + 1 + i) cA F.heap (fun i j _ _ h => by have h9 : H.size + 1 + i = H.size + 1 + j := h; omega) hnl hK2 (by rw [← vr_rows hnm]; exact vr_lay hP2) (by rw [← vr_rows hnm]; exact vr_layD hD2) ⟨by rw [f1]; have := hS.1; omega, fun x h1 h2 => (hold x (Nat.lt_of_lt_of_le h1 hS.1)).trans (hS.2.1 x h1 h2), hS.2.2⟩ F rfl X'
  refine ⟨t, step t ?_, b1⟩
  have e : T.heap.size = H.size := by rw [hT]
  rw [e]
  exact a1
end VGM
/-! ===== END ===== -/

/-! ===== BEGIN exceptions that leave a method, and their catching by the caller (launches without stack traces) ===== -/
section VXA
/-! The laws vx_back, vx_callV, vx_callS, vx_callSW, vx_throw0, vx_throwS follow proofs of the library, with one case more: JvmDerived/Free/Laws.lean (Back.of_free), Shelf42/LK1.lean (callV, callS), Shelf/KitTraced.lean (throwNew0V, throwNewS). -/
/-- where a method has thrown q: the class by its name, the cell, what was written, the world -/
def vx_T (XC : String → State → State → Prop) (st : State) (q : Addr) (t : State) (mc ms : Nat) (free : Addr → Prop) : Prop :=
  ∃ (E : String) (ce : Cell) (L : List Loc), XC E st t ∧ t.heap[q]? = some ce ∧ ce.vm = .none ∧ st.vm.findClass E = some ce.cls ∧ st.WarmedH t.vm ∧ st.sameButNew ({ t with vm := st.vm } : State) L mc ms ∧ ∀ z ∈ L, free z.base
def vx_Q (Qc : Array Value → State → Outcome → State → Prop) (XC : String → State → State → Prop) (mc ms : Nat) (free : Addr → Prop) : Array Value → State → Outcome → State → Prop := fun a st o t =>
  (Qc a st o t ∧ ∃ L, FrameEnd st o t L mc ms ∧ ∀ q ∈ L, free q.base) ∨ ∃ q, o = .threw q ∧ vx_T XC st q t mc ms free
/-- a callee that returns or throws -/
def vx_Met (l : Launch) (y : MethodName) (ws : List Cond) (rm : Room) (Pc : Array Value → State → Prop) (Qc : Array Value → State → Outcome → State → Prop) (XC : String → State → State → Prop) (mc ms : Nat) (free : Addr → Prop) : Prop :=
  MetFree l y (headSpec ws rm) Pc (fun _ _ _ _ _ => True) (vx_Q Qc XC mc ms free)
def vx_Post (XC : String → State → State → Prop) (mc ms : Nat) (free : Addr → Prop) : Pt → Array Value → Addr → Pt → Prop := fun A a q B =>
  ∃ (g : JFrame) (mk : MethodId) (t : State) (L : List Loc) (E : String) (ce : Cell), B.U.heap = t.heap ∧ B.U.vm = t.vm ∧ XC E (A.U.calling g mk a) t ∧ t.heap[q]? = some ce ∧ ce.vm = .none ∧ A.U.vm.findClass E = some ce.cls ∧ B.locs = A.locs ++ L ∧ (∀ z ∈ L, free z.base) ∧ B.cells = A.cells + mc ∧ B.slots = A.slots + ms
def vx_Back (l : Launch) (R : Room) (p : Program) (e : Env) (below : List Frame) (s : State) (sargs : Array Value) (y : MethodName) (len W9 : Nat)
    (Pre : Pt → Array Value → Prop) (Post : Pt → Array Value → Option Value → Pt → Prop) (PostX : Pt → Array Value → Addr → Pt → Prop) : Prop :=
  ∀ (m : MethodId) (meth : Method) (c : Code) (A : Pt) (g : JFrame) (ig : Instr) (mk : MethodId) (a : Array Value),
    Stand p l e R s m sargs below meth c A.U A.locs A.cells A.slots → g.method = m → g.locals.size = c.maxLocals → decode c.code g.pc = .ok (ig, len) →
    2 * g.monitorRoom + (g.stack.map fun v => v.category).sum ≤ W9 → A.U.methodNamed? y = some mk → Pre A a →
    (∃ (v : Option Value) (B : Pt), Stand p l e R s m sargs below meth c B.U B.locs B.cells B.slots ∧ Post A a v B ∧
      Steps p.tables e below (doInvoke e (A.U.setTop g) [] mk a).1 (B.U.setTop { g with pc := g.pc + len, stack := v.toList ++ g.stack })) ∨
    (∃ (q : Addr) (B : Pt), Stand p l e R s m sargs below meth c B.U B.locs B.cells B.slots ∧ PostX A a q B ∧
      Steps p.tables e below (doInvoke e (A.U.setTop g) [] mk a).1 ((B.U.setTop g).pushFrame (.throwing q)))
section Payer
variable {l : Launch} {R : Room} {p : Program} {e : Env} {below : List Frame} {s : State} {sargs : Array Value} {y : MethodName} {len W9 : Nat}
theorem vx_back {ws : List Cond} {rm : Room} {Pc : Array Value → State → Prop} {Qc : Array Value → State → Outcome → State → Prop} {XC : String → State → State → Prop} {mc ms : Nat} {free : Addr → Prop} {bytes : ByteArray} {maxL : Nat} {ret : Option FieldType}
    (hM : vx_Met l y ws rm Pc Qc XC mc ms free) (hblind : FrameBlind Pc) (hrc : rm.cells = mc) (hrs : rm.slots = ms)
    (hframes : rm.frames + 1 ≤ R.frames) (hlocals : W9 + (maxL + 11) + rm.locals ≤ R.locals)
    (hws : ∀ w ∈ ws, ∀ a' U, s.WarmedH U.vm → w.before a' U = true) (hcode : Cond.code y bytes maxL ret ∈ ws) (hinit : ∀ a' U, s.WarmedH U.vm → (Cond.initialized y.cls).before a' U = true) :
    vx_Back l R p e below s sargs y len W9 (PreOf R mc ms Pc) (PostOf Qc mc ms free) (vx_Post XC mc ms free) := by
  intro m meth c A g ig mk a X hg hsize hdg hW hn hp
  have h1 : (headSpec ws rm).pre.before a A.U = true := atoms_intro fun w hw => hws w hw _ _ X.warmed
  have h2 : (Cond.code y bytes maxL ret).before a A.U = true := hws _ hcode _ _ X.warmed
  have h3 : (Cond.initialized y.cls).before a A.U = true := hinit _ _ X.warmed
  have h4 : A.cells + (headSpec ws rm).room.cells ≤ R.cells := by rw [show (headSpec ws rm).room.cells = mc from hrc]; exact hp.1
  have h5 : A.slots + (headSpec ws rm).room.slots ≤ R.slots := by rw [show (headSpec ws rm).room.slots = ms from hrs]; exact hp.2.1
  have hPc : Pc a (A.U.calling g mk a) := hblind _ _ _ _ hp.2.2
  obtain ⟨U, Ls, c0, s0⟩ := A
  dsimp only [Pt.U, Pt.locs, Pt.cells, Pt.slots] at h1 h2 h3 h4 h5 X hn hPc ⊢
  obtain ⟨methY, cY, hmY, hcY, -, hlY, -, -, -, -⟩ := Cond.code_spec hn h2
  obtain ⟨kY, hkY, -⟩ := className_of_methodNamed hn
  have hinitY : kY.init = .initialized := Cond.initialized_spec (findClass_of_methodNamed hn) hkY h3
  have h : At U g.method c below := by rw [hg]; exact X.here
  have hlocals9 : W9 + (maxL + 11) + (headSpec ws rm).room.locals ≤ R.locals := hlocals
  have happ : (headSpec ws rm).appliesLoose y e.platform (U.calling g mk a) = true :=
    Spec.appliesLoose_calling (g := g) h hdg hn hkY hinitY
      (X.room_calling (g := g) (R' := (headSpec ws rm).room) hsize hmY hcY hframes (by rw [hlY]; omega) h4 h5) h1
  obtain ⟨mid, hmid⟩ := h.above
  have hfr : (U.setTop g).frames = (.java g :: mid) ++ below := by rw [State.frames_setTop' g h.top, hmid]; rfl
  obtain ⟨o, s₂, hsteps, -, hend, hq⟩ := Steps.callFree hM p X.admits X.cas X.clock (acts := []) hfr happ hPc trivial
  have hq' : vx_Q Qc XC mc ms free a (U.calling g mk a) o s₂ := hq
  rw [State.frames_setTop' g h.top] at hend
  obtain ⟨g₀, hg0⟩ := Option.isSome_iff_exists.mp h.top
  obtain ⟨r, hr⟩ := State.topJava?_eq_some.mp hg0
  have hr' : (({ U with heap := s₂.heap, slotsUsed := s₂.slotsUsed } : State).setVm s₂.vm).frames = .java g₀ :: r := hr
  rcases hq' with ⟨hqc, L, hfe, hL⟩ | ⟨q, rfl, E, ce, L, hx, hce, hcv, hcl, hW₂, hsm, hL⟩
  · obtain ⟨⟨v, rfl⟩, hW₂, e2, q2, q3, q4, q5, q6⟩ := id hfe
    have e3 : s₂ = ({ (U.calling g mk a).setFrames s₂.frames with heap := s₂.heap, slotsUsed := s₂.slotsUsed } : State).setVm s₂.vm := by
      have : s₂ = ({ s₂ with vm := (U.calling g mk a).vm } : State).setVm s₂.vm := rfl
      rw [e2] at this
      exact this
    obtain ⟨c₂, i₂, len₂, hc₂, hd₂, hf₂⟩ := hend
    have hW' : U.WarmedH s₂.vm := hW₂
    have hcc : c₂ = c := by
      have h1 : s₂.code? g.method = U.code? g.method := by
        rw [State.code?_eq, State.code?_eq, hW'.alike.method?]
      exact Option.some.inj (hc₂.symm.trans (h1.trans h.code))
    subst hcc
    have hlen : len₂ = len := by rw [hdg] at hd₂; cases hd₂; rfl
    subst hlen
    have hs₂ : s₂ = (({ U with heap := s₂.heap, slotsUsed := s₂.slotsUsed } : State).setVm s₂.vm).setTop { g with pc := g.pc + len₂, stack := v.toList ++ g.stack } := by
      refine e3.trans ?_
      rw [hf₂, State.calling_eq h.top, State.setFrames_setFrames, State.setTop_of_frames _ hr', hr]
      rfl
    have hsame : U.sameButNew ({ U with heap := s₂.heap, slotsUsed := s₂.slotsUsed } : State) L mc ms := by
      refine ⟨?_, q2, q3, q4, q5, q6⟩
      obtain ⟨t, ht, -⟩ := State.frames_cons hr
      show ({ U with heap := s₂.heap, slotsUsed := s₂.slotsUsed } : State) = { U.setFrames U.frames with heap := s₂.heap, slotsUsed := s₂.slotsUsed }
      rw [State.setFrames_self ht]
    subst hg
    refine Or.inl ⟨v, ⟨(({ U with heap := s₂.heap, slotsUsed := s₂.slotsUsed } : State).setVm s₂.vm), Ls ++ L, c0 + mc, s0 + ms⟩,
      ⟨X.admits, X.cas, X.clock, X.frames, X.room, X.hears, X.method, X.code, (X.here.setHeapUsed s₂.heap s₂.slotsUsed).setVm hW'.alike, X.tail, State.WarmedH.trans X.warmed hW', X.limits, X.bytes, X.same.trans (hsame.setVm s.vm)⟩,
      ⟨g, mk, s₂, L, rfl, rfl, hqc, rfl, hL, rfl, rfl⟩, ?_⟩
    show Steps p.tables e below _ ((({ U with heap := s₂.heap, slotsUsed := s₂.slotsUsed } : State).setVm s₂.vm).setTop { g with pc := g.pc + len₂, stack := v.toList ++ g.stack })
    rw [← hs₂]
    exact hsteps
  · obtain ⟨e2, q2, q3, q4, q5, q6⟩ := id hsm
    have e3 : s₂ = ({ (U.calling g mk a).setFrames s₂.frames with heap := s₂.heap, slotsUsed := s₂.slotsUsed } : State).setVm s₂.vm := by
      have : s₂ = ({ s₂ with vm := (U.calling g mk a).vm } : State).setVm s₂.vm := rfl
      rw [e2] at this
      exact this
    have hf₂ : s₂.frames = .throwing q :: .java g :: U.frames.tail := hend
    have hW' : U.WarmedH s₂.vm := hW₂
    have hs₂ : s₂ = ((({ U with heap := s₂.heap, slotsUsed := s₂.slotsUsed } : State).setVm s₂.vm).setTop g).pushFrame (.throwing q) := by
      refine e3.trans ?_
      rw [hf₂, State.calling_eq h.top, State.setFrames_setFrames, State.pushFrame, State.frames_setTop _ hr', State.setTop_of_frames _ hr', State.setFrames_setFrames, hr]
      rfl
    have hsame : U.sameButNew ({ U with heap := s₂.heap, slotsUsed := s₂.slotsUsed } : State) L mc ms := by
      refine ⟨?_, q2, q3, q4, q5, q6⟩
      obtain ⟨t, ht, -⟩ := State.frames_cons hr
      show ({ U with heap := s₂.heap, slotsUsed := s₂.slotsUsed } : State) = { U.setFrames U.frames with heap := s₂.heap, slotsUsed := s₂.slotsUsed }
      rw [State.setFrames_self ht]
    subst hg
    refine Or.inr ⟨q, ⟨(({ U with heap := s₂.heap, slotsUsed := s₂.slotsUsed } : State).setVm s₂.vm), Ls ++ L, c0 + mc, s0 + ms⟩,
      ⟨X.admits, X.cas, X.clock, X.frames, X.room, X.hears, X.method, X.code, (X.here.setHeapUsed s₂.heap s₂.slotsUsed).setVm hW'.alike, X.tail, State.WarmedH.trans X.warmed hW', X.limits, X.bytes, X.same.trans (hsame.setVm s.vm)⟩,
      ⟨g, mk, s₂, L, E, ce, rfl, rfl, hx, hce, hcv, hcl, rfl, hL, rfl, rfl⟩, ?_⟩
    show Steps p.tables e below _ (((({ U with heap := s₂.heap, slotsUsed := s₂.slotsUsed } : State).setVm s₂.vm).setTop g).pushFrame (.throwing q))
    rw [← hs₂]
    exact hsteps
end Payer
section Calls
variable {p : Program} {l : Launch} {e : Env} {R : Room} {s : State} {m : MethodId} {args : Array Value} {below : List Frame} {meth : Method} {c : Code} {T : State} {locs : List Loc} {cells slots : Nat}
theorem vx_callV (X : Stand p l e R s m args below meth c T locs cells slots) (hexec : p.tables.exec = Jvm.exec) {own C : String} {index : Nat} {y : MethodName} {bytes : ByteArray} {maxL : Nat} {ret : Option FieldType}
    (hown : s.vm.findClass own = some m.cls) (hlink : (Cond.methodLink own index y).before args s = true) (hinst : (Cond.instanceMethod y).before args s = true) (hsel : (Cond.selects C y y).before args s = true)
    (hcode : (Cond.code y bytes maxL ret).before args s = true) (hy : y.cls ≠ "java/lang/invoke/MethodHandle" ∧ y.cls ≠ "java/lang/invoke/VarHandle")
    {W9 : Nat} {Pre : Pt → Array Value → Prop} {Post : Pt → Array Value → Option Value → Pt → Prop} {PostX : Pt → Array Value → Addr → Pt → Prop} (hK : vx_Back l R p e below s args y 3 W9 Pre Post PostX)
    {b : Addr} {cellB : Cell} (hcell : T.heap[b]? = some cellB) (hobj : cellB.vm.isStatics = false) (hcls : s.vm.findClass C = some cellB.cls)
    {g : JFrame} (hg : g.method = m) (hsize : g.locals.size = c.maxLocals) {argsL rest : List Value} (hlen : ∀ sig, parseMethodDescriptor y.desc = some sig → argsL.length = sig.parameters.length)
    (hstack : g.stack = argsL.reverse ++ .ref b :: rest) (hW : 2 * g.monitorRoom + (rest.map fun v => v.category).sum ≤ W9) (hdg : decode c.code g.pc = .ok (.invokevirtual index, 3))
    (hpre : ∀ vm₁, s.WarmedH vm₁ → Pre ⟨T.setVm vm₁, locs, cells, slots⟩ (Value.ref b :: argsL).toArray) :
    (∃ (v : Option Value) (vm₁ : Vm) (B : Pt), s.WarmedH vm₁ ∧ Stand p l e R s m args below meth c B.U B.locs B.cells B.slots ∧ Post ⟨T.setVm vm₁, locs, cells, slots⟩ (Value.ref b :: argsL).toArray v B ∧
      ∀ target, Steps p.tables e below (B.U.setTop { g with pc := g.pc + 3, stack := v.toList ++ rest }) target → Steps p.tables e below (T.setTop g) target) ∨
    (∃ (q : Addr) (vm₁ : Vm) (B : Pt), s.WarmedH vm₁ ∧ Stand p l e R s m args below meth c B.U B.locs B.cells B.slots ∧ PostX ⟨T.setVm vm₁, locs, cells, slots⟩ (Value.ref b :: argsL).toArray q B ∧
      Steps p.tables e below (T.setTop g) ((B.U.setTop { g with stack := rest }).pushFrame (.throwing q))) := by
  obtain ⟨mk, methM, hnamed, hmethM, hstM, habM⟩ := Cond.instanceMethod_spec hinst
  obtain ⟨methM', cM, hmethM', -, -, -, -, -, -, hsigM⟩ := Cond.code_spec hnamed hcode
  cases hmethM.symm.trans hmethM'
  obtain ⟨c2, r2, m2, q1, q2, q3, q4, kP, hkP, hkPi⟩ := Cond.selects_spec hsel
  cases hcls.symm.trans q1
  cases (State.methodFound?_of_named hnamed hy).symm.trans q2
  cases hnamed.symm.trans q3
  have hselP : selectMethod e.platform s.vm cellB.cls mk = .method mk := by rw [Launch.admits_selectMethod X.admits]; exact q4
  obtain ⟨vm₁, X₁, hstep₁⟩ := X.invokevirtual hexec hown hlink hnamed hmethM hstM hkP hkPi hy (a := b) (cell := cellB) hcell
    (fun z h => by rw [h] at hobj; cases hobj) hselP hmethM habM hkP hkPi (g := g) hg (argsL := argsL) (rest := rest) (hlen _ hsigM) hstack hdg
  rcases hK m meth c ⟨T.setVm vm₁, locs, cells, slots⟩ { g with stack := rest } (.invokevirtual index) mk (Value.ref b :: argsL).toArray X₁ hg hsize hdg hW (X₁.named hnamed) (hpre vm₁ X₁.warmed) with ⟨v, B, X', hpost, hsteps⟩ | ⟨q, B, X', hpost, hsteps⟩
  · exact Or.inl ⟨v, vm₁, B, X₁.warmed, X', hpost, fun target h => hstep₁ _ fun acts => by rw [doInvoke_state]; exact hsteps.trans h⟩
  · exact Or.inr ⟨q, vm₁, B, X₁.warmed, X', hpost, hstep₁ _ fun acts => by rw [doInvoke_state]; exact hsteps⟩
theorem vx_callS (X : Stand p l e R s m args below meth c T locs cells slots) (hexec : p.tables.exec = Jvm.exec) {own : String} {index : Nat} {y : MethodName} {bytes : ByteArray} {maxL : Nat} {ret : Option FieldType}
    (hown : s.vm.findClass own = some m.cls) (hlink : (Cond.methodLink own index y).before args s = true) (hstat : (Cond.static y).before args s = true) (hinit : (Cond.initialized y.cls).before args s = true)
    (hcode : (Cond.code y bytes maxL ret).before args s = true) (hy : y.cls ≠ "java/lang/invoke/MethodHandle" ∧ y.cls ≠ "java/lang/invoke/VarHandle")
    {W9 : Nat} {Pre : Pt → Array Value → Prop} {Post : Pt → Array Value → Option Value → Pt → Prop} {PostX : Pt → Array Value → Addr → Pt → Prop} (hK : vx_Back l R p e below s args y 3 W9 Pre Post PostX)
    {g : JFrame} (hg : g.method = m) (hsize : g.locals.size = c.maxLocals) {argsL rest : List Value} (hlen : ∀ sig, parseMethodDescriptor y.desc = some sig → argsL.length = sig.parameters.length)
    (hstack : g.stack = argsL.reverse ++ rest) (hW : 2 * g.monitorRoom + (rest.map fun v => v.category).sum ≤ W9) (hdg : decode c.code g.pc = .ok (.invokestatic index, 3))
    (hpre : ∀ vm₁, s.WarmedH vm₁ → Pre ⟨T.setVm vm₁, locs, cells, slots⟩ argsL.toArray) :
    (∃ (v : Option Value) (vm₁ : Vm) (B : Pt), s.WarmedH vm₁ ∧ Stand p l e R s m args below meth c B.U B.locs B.cells B.slots ∧ Post ⟨T.setVm vm₁, locs, cells, slots⟩ argsL.toArray v B ∧
      ∀ target, Steps p.tables e below (B.U.setTop { g with pc := g.pc + 3, stack := v.toList ++ rest }) target → Steps p.tables e below (T.setTop g) target) ∨
    (∃ (q : Addr) (vm₁ : Vm) (B : Pt), s.WarmedH vm₁ ∧ Stand p l e R s m args below meth c B.U B.locs B.cells B.slots ∧ PostX ⟨T.setVm vm₁, locs, cells, slots⟩ argsL.toArray q B ∧
      Steps p.tables e below (T.setTop g) ((B.U.setTop { g with stack := rest }).pushFrame (.throwing q))) := by
  obtain ⟨mk, hnamed⟩ := Cond.code_named hcode
  obtain ⟨methM, cM, hmethM, -, -, -, -, -, -, hsigM⟩ := Cond.code_spec hnamed hcode
  have hstatic : methM.isStatic = true := Cond.static_spec hnamed hmethM hstat
  obtain ⟨kP, hkP, -⟩ := className_of_methodNamed hnamed
  have hinitP : kP.init = .initialized := Cond.initialized_spec (findClass_of_methodNamed hnamed) hkP hinit
  obtain ⟨vm₁, X₁, hstep₁⟩ := X.invokestatic hexec hown hlink hnamed hmethM hstatic hkP hinitP hy (g := g) hg (argsL := argsL) (rest := rest) (hlen _ hsigM) hstack hdg
  rcases hK m meth c ⟨T.setVm vm₁, locs, cells, slots⟩ { g with stack := rest } (.invokestatic index) mk argsL.toArray X₁ hg hsize hdg hW (X₁.named hnamed) (hpre vm₁ X₁.warmed) with ⟨v, B, X', hpost, hsteps⟩ | ⟨q, B, X', hpost, hsteps⟩
  · exact Or.inl ⟨v, vm₁, B, X₁.warmed, X', hpost, fun target h => hstep₁ _ fun acts => by rw [doInvoke_state]; exact hsteps.trans h⟩
  · exact Or.inr ⟨q, vm₁, B, X₁.warmed, X', hpost, hstep₁ _ fun acts => by rw [doInvoke_state]; exact hsteps⟩
end Calls
theorem vx_cls {s : State} {T : State} {vm₁ : Vm} {E : String} {k : ClassId} (hW : s.WarmedH vm₁) (h : (T.setVm vm₁).vm.findClass E = some k) : s.vm.findClass E = some k := by
  have h1 : vm₁.findClass E = some k := h
  rw [hW.alike.findClass] at h1
  exact h1
/-- the method's frame g, with q thrown over it -/
def vx_W (p : Program) (l : Launch) (e : Env) (R : Room) (s : State) (m : MethodId) (args : Array Value) (below : List Frame) (meth : Method) (c : Code) (H : Heap) (locs : List Loc) (cells slots : Nat) (Q : State → Prop) (g : JFrame) (q : Addr) : Prop :=
  ∀ T : State, T.heap = H → Stand p l e R s m args below meth c T locs cells slots → ∃ t, Steps p.tables e below ((T.setTop g).pushFrame (.throwing q)) t ∧ Q t
def vx_Run (p : Program) (l : Launch) (e : Env) (R : Room) (s : State) (m : MethodId) (args : Array Value) (below : List Frame) (meth : Method) (c : Code) (H : Heap) (locs : List Loc) (cells slots mc ms : Nat) (g : JFrame) (rest : List Value) (Qa : State → Outcome → State → Prop) (XC : String → State → State → Prop) (free : Addr → Prop) : Prop :=
  ∀ T : State, T.heap = H → Stand p l e R s m args below meth c T locs cells slots →
    (∃ (v : Option Value) (st₀ t T' : State) (L : List Loc), st₀.heap = H ∧ Stand p l e R s m args below meth c T' (locs ++ L) (cells + mc) (slots + ms) ∧ (∀ q ∈ L, free q.base) ∧ T'.heap = t.heap ∧ T'.vm = t.vm ∧ Qa st₀ (.returned v) t ∧
      Goes p e below T g T' { g with pc := g.pc + 3, stack := v.toList ++ rest }) ∨
    (∃ (q : Addr) (st₀ t T' : State) (L : List Loc) (E : String) (ce : Cell), st₀.heap = H ∧ Stand p l e R s m args below meth c T' (locs ++ L) (cells + mc) (slots + ms) ∧ (∀ z ∈ L, free z.base) ∧ T'.heap = t.heap ∧ T'.vm = t.vm ∧ XC E st₀ t ∧ t.heap[q]? = some ce ∧ ce.vm = .none ∧ s.vm.findClass E = some ce.cls ∧
      Steps p.tables e below (T.setTop g) ((T'.setTop { g with stack := rest }).pushFrame (.throwing q)))
def vx_X {S : Type} (px : S → Prop) (B : String → S → State → Prop) (A : Nat → Prop) : String → State → State → Prop := fun E st t => ∃ u : S, px u ∧ B E u t ∧ va_F A st t
section Runs
variable {p : Program} {l : Launch} {e : Env} {R : Room} {s : State} {m : MethodId} {args : Array Value} {below : List Frame} {meth : Method} {c : Code} {H : Heap} {locs : List Loc} {cells slots : Nat}
variable {y : MethodName} {bytes cc : ByteArray} {maxL nL mc ms n index : Nat} {ret : Option FieldType} {ws : List Cond} {rm : Room} {Pc : Array Value → State → Prop} {Qc : Array Value → State → Outcome → State → Prop} {XC : String → State → State → Prop} {free : Addr → Prop} {Ts : List Cond} {own C : String} {b : Addr} {As rest : List Value} {g : JFrame}
theorem vx_callBack (cb : CallB R s args own index y bytes maxL ret ws rm mc ms n) (hM : vx_Met l y ws rm Pc Qc XC mc ms free) (hbl : FrameBlind Pc) : vx_Back l R p e below s args y 3 8 (PreOf R mc ms Pc) (PostOf Qc mc ms free) (vx_Post XC mc ms free) := by
  obtain ⟨hrc, hrs, hfr, hlo, hws, hcw, -, hini, -⟩ := cb
  exact vx_back (bytes := bytes) (maxL := maxL) (ret := ret) hM hbl hrc hrs hfr hlo hws hcw (fun a' U hW => word_at hW (Or.inl (by first | rfl | simp [Cond.onTables, Cond.keeps, Cond.steady])) hini)
theorem vx_runV (S : CallFix p m c cc nL s args Ts own) (hM : vx_Met l y ws rm Pc Qc XC mc ms free) (cw : CallW R s args own C index y bytes maxL ret ws rm mc ms n) (hp : PreV s H C b Pc As)
    (hg : g.method = m) (hn : As.length = n) (hsize : g.locals.size = nL) (hstack : g.stack = As.reverse ++ .ref b :: rest) (hW : 2 * g.monitorRoom + (rest.map fun v => v.category).sum ≤ 8) (hdg : decode cc g.pc = .ok (.invokevirtual index, 3)) (hf : cells + mc ≤ R.cells ∧ slots + ms ≤ R.slots) :
    vx_Run p l e R s m args below meth c H locs cells slots mc ms g rest (Qc (Value.ref b :: As).toArray) XC free := by
  have hK : vx_Back l R p e below s args y 3 8 (PreOf R mc ms Pc) (PostOf Qc mc ms free) (vx_Post XC mc ms free) := vx_callBack cw.1 hM hp.1
  obtain ⟨⟨-, -, -, -, -, -, hcode, -, hy, hlen, hl⟩, hin, hse⟩ := cw
  obtain ⟨hx, hb, hml, ho, -⟩ := S
  obtain ⟨-, ⟨cellB, hcB, hoB, hclB⟩, hPc⟩ := hp
  intro T hT X
  rcases vx_callV X hx (C := C) (bytes := bytes) (maxL := maxL) (ret := ret) ho hl hin hse hcode hy hK (by rw [hT]; exact hcB) hoB hclB hg (hsize.trans hml.symm) (argsL := As) (rest := rest) (fun sig h => hn.trans (hlen sig h)) hstack hW (by rw [hb]; exact hdg)
    (fun vm₁ hW₁ => ⟨hf.1, hf.2, hPc (T.setVm vm₁) hT hW₁⟩) with ⟨v, vm₁, ⟨U', l2, c2, s2⟩, hW₁, X', ⟨g', mk, t, L, e1, e2, hq, h1, hL, h2, h3⟩, st⟩ | ⟨q, vm₁, ⟨U', l2, c2, s2⟩, hW₁, X', ⟨g', mk, t, L, E, ce, e1, e2, hq, hce, hcv, hcl, h1, hL, h2, h3⟩, st⟩
  · dsimp only [Pt.U, Pt.locs, Pt.cells, Pt.slots] at X' e1 e2 h1 h2 h3 st
    subst h1; subst h2; subst h3
    exact Or.inl ⟨v, (T.setVm vm₁).calling g' mk (Value.ref b :: As).toArray, t, U', L, hT, X', hL, e1, e2, hq, st⟩
  · dsimp only [Pt.U, Pt.locs, Pt.cells, Pt.slots] at X' e1 e2 h1 h2 h3 st hcl
    subst h1; subst h2; subst h3
    exact Or.inr ⟨q, (T.setVm vm₁).calling g' mk (Value.ref b :: As).toArray, t, U', L, E, ce, hT, X', hL, e1, e2, hq, hce, hcv, vx_cls hW₁ hcl, st⟩
theorem vx_runS (S : CallFix p m c cc nL s args Ts own) (hM : vx_Met l y ws rm Pc Qc XC mc ms free) (cw : CallB R s args own index y bytes maxL ret ws rm mc ms n ∧ (Cond.static y).before args s = true) (hp : PreS s H Pc As)
    (hg : g.method = m) (hn : As.length = n) (hsize : g.locals.size = nL) (hstack : g.stack = As.reverse ++ rest) (hW : 2 * g.monitorRoom + (rest.map fun v => v.category).sum ≤ 8) (hdg : decode cc g.pc = .ok (.invokestatic index, 3)) (hf : cells + mc ≤ R.cells ∧ slots + ms ≤ R.slots) :
    vx_Run p l e R s m args below meth c H locs cells slots mc ms g rest (Qc As.toArray) XC free := by
  have hK : vx_Back l R p e below s args y 3 8 (PreOf R mc ms Pc) (PostOf Qc mc ms free) (vx_Post XC mc ms free) := vx_callBack cw.1 hM hp.1
  obtain ⟨⟨-, -, -, -, -, -, hcode, hini, hy, hlen, hl⟩, hstt⟩ := cw
  obtain ⟨hx, hb, hml, ho, -⟩ := S
  intro T hT X
  rcases vx_callS X hx (bytes := bytes) (maxL := maxL) (ret := ret) ho hl hstt hini hcode hy hK hg (hsize.trans hml.symm) (argsL := As) (rest := rest) (fun sig h => hn.trans (hlen sig h)) hstack hW (by rw [hb]; exact hdg)
    (fun vm₁ hW₁ => ⟨hf.1, hf.2, hp.2 (T.setVm vm₁) hT hW₁⟩) with ⟨v, vm₁, ⟨U', l2, c2, s2⟩, hW₁, X', ⟨g', mk, t, L, e1, e2, hq, h1, hL, h2, h3⟩, st⟩ | ⟨q, vm₁, ⟨U', l2, c2, s2⟩, hW₁, X', ⟨g', mk, t, L, E, ce, e1, e2, hq, hce, hcv, hcl, h1, hL, h2, h3⟩, st⟩
  · dsimp only [Pt.U, Pt.locs, Pt.cells, Pt.slots] at X' e1 e2 h1 h2 h3 st
    subst h1; subst h2; subst h3
    exact Or.inl ⟨v, (T.setVm vm₁).calling g' mk As.toArray, t, U', L, hT, X', hL, e1, e2, hq, st⟩
  · dsimp only [Pt.U, Pt.locs, Pt.cells, Pt.slots] at X' e1 e2 h1 h2 h3 st hcl
    subst h1; subst h2; subst h3
    exact Or.inr ⟨q, (T.setVm vm₁).calling g' mk As.toArray, t, U', L, E, ce, hT, X', hL, e1, e2, hq, hce, hcv, vx_cls hW₁ hcl, st⟩
end Runs
section Rows
variable {p : Program} {l : Launch} {e : Env} {R : Room} {s : State} {m : MethodId} {args : Array Value} {below : List Frame} {meth : Method} {c : Code} {H : Heap} {locs : List Loc} {cells slots : Nat} {Q : State → Prop}
variable {mc ms : Nat} {free : Addr → Prop} {A0 A1 : Nat → Prop} {H0 : Heap} {a : Array Value} {pc : Nat} {ls : Array Slot} {st0 rest : List Value}
theorem vx_keep {st₀ t T' : State} {L : List Loc} (h0 : st₀.heap = H) (e1 : T'.heap = t.heap) (hS : va_S A0 H0 H locs) (hA : ∀ q, q < H.size → A1 q → A0 q) (hf : ∀ q, free q → A0 q) (hL : ∀ q ∈ L, free q.base) (hF : va_F A1 st₀ t) :
    H.size ≤ T'.heap.size ∧ (∀ q : Nat, q < H.size → ¬ A1 q → T'.heap[q]? = H[q]?) ∧ va_S A0 H0 T'.heap (locs ++ L) := by
  obtain ⟨hz, hk⟩ := hF
  rw [h0] at hz hk
  exact ⟨by rw [e1]; exact hz, fun q h1 h2 => by rw [e1]; exact hk q h1 h2,
    ⟨Nat.le_trans hS.1 (by rw [e1]; exact hz), fun q h1 h2 => by rw [e1, hk q (Nat.lt_of_lt_of_le h1 hS.1) (fun z => h2 (hA q (Nat.lt_of_lt_of_le h1 hS.1) z))]; exact hS.2.1 q h1 h2, fun q hq => by
      rcases List.mem_append.mp hq with h | h
      · exact hS.2.2 q h
      · exact hf _ (hL q h)⟩⟩
theorem vx_calli {S SX : Type} {post : Int32 → S → Prop} {px : SX → Prop} {B : S → State → Prop} {BX : String → SX → State → Prop} {AX : Nat → Prop} (hr : vx_Run p l e R s m args below meth c H locs cells slots mc ms (F0 m pc ls st0) rest (va_Qi post B A1 a) (vx_X px BX AX) free) (hS : va_S A0 H0 H locs) (hA : ∀ q, q < H.size → A1 q → A0 q) (hf : ∀ q, free q → A0 q) (hAX : ∀ q, q < H.size → AX q → A0 q)
    (kx : ∀ (E : String) (ce : Cell) (q9 : Addr) (u : SX) (t : State) (H1 : Heap) (locs1 : List Loc), t.heap = H1 → s.vm.Alike t.vm → px u → BX E u t → H.size ≤ H1.size → (∀ q : Nat, q < H.size → ¬ AX q → H1[q]? = H[q]?) → va_S A0 H0 H1 locs1 → H1[q9]? = some ce → ce.vm = .none → s.vm.findClass E = some ce.cls → vx_W p l e R s m args below meth c H1 locs1 (cells + mc) (slots + ms) Q (F0 m pc ls rest) q9)
    (kk : ∀ (r : Int32) (u : S) (t : State) (H1 : Heap) (locs1 : List Loc), t.heap = H1 → s.vm.Alike t.vm → post r u → B u t → H.size ≤ H1.size → (∀ q : Nat, q < H.size → ¬ A1 q → H1[q]? = H[q]?) → va_S A0 H0 H1 locs1 → W p l e R s m args below meth c H1 locs1 (cells + mc) (slots + ms) Q (F0 m (pc + 3) ls (.int r :: rest))) : W p l e R s m args below meth c H locs cells slots Q (F0 m pc ls st0) := by
  intro T hT X
  rcases hr T hT X with ⟨v, st₀, t, T', L, h0, X', hL, e1, e2, ⟨⟨r, u, hv, hp, hb⟩, hF⟩, st⟩ | ⟨q, st₀, t, T', L, E, ce, h0, X', hL, e1, e2, ⟨u, hp, hb, hF⟩, hce, hcv, hcl, st⟩
  · cases hv
    obtain ⟨k1, k2, k3⟩ := vx_keep h0 e1 hS hA hf hL hF
    obtain ⟨t2, a1, b1⟩ := kk r u t T'.heap (locs ++ L) e1.symm (by rw [← e2]; exact X'.warmed.alike) hp hb k1 k2 k3 T' rfl X'
    exact ⟨t2, st t2 a1, b1⟩
  · obtain ⟨k1, k2, k3⟩ := vx_keep h0 e1 hS hAX hf hL hF
    obtain ⟨t2, a1, b1⟩ := kx E ce q u t T'.heap (locs ++ L) e1.symm (by rw [← e2]; exact X'.warmed.alike) hp hb k1 k2 k3 (by rw [e1]; exact hce) hcv hcl T' rfl X'
    exact ⟨t2, st.trans a1, b1⟩
theorem vx_calll {S SX : Type} {post : Int64 → S → Prop} {px : SX → Prop} {B : S → State → Prop} {BX : String → SX → State → Prop} {AX : Nat → Prop} (hr : vx_Run p l e R s m args below meth c H locs cells slots mc ms (F0 m pc ls st0) rest (va_Ql post B A1 a) (vx_X px BX AX) free) (hS : va_S A0 H0 H locs) (hA : ∀ q, q < H.size → A1 q → A0 q) (hf : ∀ q, free q → A0 q) (hAX : ∀ q, q < H.size → AX q → A0 q)
    (kx : ∀ (E : String) (ce : Cell) (q9 : Addr) (u : SX) (t : State) (H1 : Heap) (locs1 : List Loc), t.heap = H1 → s.vm.Alike t.vm → px u → BX E u t → H.size ≤ H1.size → (∀ q : Nat, q < H.size → ¬ AX q → H1[q]? = H[q]?) → va_S A0 H0 H1 locs1 → H1[q9]? = some ce → ce.vm = .none → s.vm.findClass E = some ce.cls → vx_W p l e R s m args below meth c H1 locs1 (cells + mc) (slots + ms) Q (F0 m pc ls rest) q9)
    (kk : ∀ (r : Int64) (u : S) (t : State) (H1 : Heap) (locs1 : List Loc), t.heap = H1 → s.vm.Alike t.vm → post r u → B u t → H.size ≤ H1.size → (∀ q : Nat, q < H.size → ¬ A1 q → H1[q]? = H[q]?) → va_S A0 H0 H1 locs1 → W p l e R s m args below meth c H1 locs1 (cells + mc) (slots + ms) Q (F0 m (pc + 3) ls (.long r :: rest))) : W p l e R s m args below meth c H locs cells slots Q (F0 m pc ls st0) := by
  intro T hT X
  rcases hr T hT X with ⟨v, st₀, t, T', L, h0, X', hL, e1, e2, ⟨⟨r, u, hv, hp, hb⟩, hF⟩, st⟩ | ⟨q, st₀, t, T', L, E, ce, h0, X', hL, e1, e2, ⟨u, hp, hb, hF⟩, hce, hcv, hcl, st⟩
  · cases hv
    obtain ⟨k1, k2, k3⟩ := vx_keep h0 e1 hS hA hf hL hF
    obtain ⟨t2, a1, b1⟩ := kk r u t T'.heap (locs ++ L) e1.symm (by rw [← e2]; exact X'.warmed.alike) hp hb k1 k2 k3 T' rfl X'
    exact ⟨t2, st t2 a1, b1⟩
  · obtain ⟨k1, k2, k3⟩ := vx_keep h0 e1 hS hAX hf hL hF
    obtain ⟨t2, a1, b1⟩ := kx E ce q u t T'.heap (locs ++ L) e1.symm (by rw [← e2]; exact X'.warmed.alike) hp hb k1 k2 k3 (by rw [e1]; exact hce) hcv hcl T' rfl X'
    exact ⟨t2, st.trans a1, b1⟩
theorem vx_callf {S SX : Type} {post : UInt32 → S → Prop} {px : SX → Prop} {B : S → State → Prop} {BX : String → SX → State → Prop} {AX : Nat → Prop} (hr : vx_Run p l e R s m args below meth c H locs cells slots mc ms (F0 m pc ls st0) rest (va_Qf post B A1 a) (vx_X px BX AX) free) (hS : va_S A0 H0 H locs) (hA : ∀ q, q < H.size → A1 q → A0 q) (hf : ∀ q, free q → A0 q) (hAX : ∀ q, q < H.size → AX q → A0 q)
    (kx : ∀ (E : String) (ce : Cell) (q9 : Addr) (u : SX) (t : State) (H1 : Heap) (locs1 : List Loc), t.heap = H1 → s.vm.Alike t.vm → px u → BX E u t → H.size ≤ H1.size → (∀ q : Nat, q < H.size → ¬ AX q → H1[q]? = H[q]?) → va_S A0 H0 H1 locs1 → H1[q9]? = some ce → ce.vm = .none → s.vm.findClass E = some ce.cls → vx_W p l e R s m args below meth c H1 locs1 (cells + mc) (slots + ms) Q (F0 m pc ls rest) q9)
    (kk : ∀ (r : UInt32) (u : S) (t : State) (H1 : Heap) (locs1 : List Loc), t.heap = H1 → s.vm.Alike t.vm → post r u → B u t → H.size ≤ H1.size → (∀ q : Nat, q < H.size → ¬ A1 q → H1[q]? = H[q]?) → va_S A0 H0 H1 locs1 → W p l e R s m args below meth c H1 locs1 (cells + mc) (slots + ms) Q (F0 m (pc + 3) ls (.float r :: rest))) : W p l e R s m args below meth c H locs cells slots Q (F0 m pc ls st0) := by
  intro T hT X
  rcases hr T hT X with ⟨v, st₀, t, T', L, h0, X', hL, e1, e2, ⟨⟨r, u, hv, hp, hb⟩, hF⟩, st⟩ | ⟨q, st₀, t, T', L, E, ce, h0, X', hL, e1, e2, ⟨u, hp, hb, hF⟩, hce, hcv, hcl, st⟩
  · cases hv
    obtain ⟨k1, k2, k3⟩ := vx_keep h0 e1 hS hA hf hL hF
    obtain ⟨t2, a1, b1⟩ := kk r u t T'.heap (locs ++ L) e1.symm (by rw [← e2]; exact X'.warmed.alike) hp hb k1 k2 k3 T' rfl X'
    exact ⟨t2, st t2 a1, b1⟩
  · obtain ⟨k1, k2, k3⟩ := vx_keep h0 e1 hS hAX hf hL hF
    obtain ⟨t2, a1, b1⟩ := kx E ce q u t T'.heap (locs ++ L) e1.symm (by rw [← e2]; exact X'.warmed.alike) hp hb k1 k2 k3 (by rw [e1]; exact hce) hcv hcl T' rfl X'
    exact ⟨t2, st.trans a1, b1⟩
theorem vx_calld {S SX : Type} {post : UInt64 → S → Prop} {px : SX → Prop} {B : S → State → Prop} {BX : String → SX → State → Prop} {AX : Nat → Prop} (hr : vx_Run p l e R s m args below meth c H locs cells slots mc ms (F0 m pc ls st0) rest (va_Qd post B A1 a) (vx_X px BX AX) free) (hS : va_S A0 H0 H locs) (hA : ∀ q, q < H.size → A1 q → A0 q) (hf : ∀ q, free q → A0 q) (hAX : ∀ q, q < H.size → AX q → A0 q)
    (kx : ∀ (E : String) (ce : Cell) (q9 : Addr) (u : SX) (t : State) (H1 : Heap) (locs1 : List Loc), t.heap = H1 → s.vm.Alike t.vm → px u → BX E u t → H.size ≤ H1.size → (∀ q : Nat, q < H.size → ¬ AX q → H1[q]? = H[q]?) → va_S A0 H0 H1 locs1 → H1[q9]? = some ce → ce.vm = .none → s.vm.findClass E = some ce.cls → vx_W p l e R s m args below meth c H1 locs1 (cells + mc) (slots + ms) Q (F0 m pc ls rest) q9)
    (kk : ∀ (r : UInt64) (u : S) (t : State) (H1 : Heap) (locs1 : List Loc), t.heap = H1 → s.vm.Alike t.vm → post r u → B u t → H.size ≤ H1.size → (∀ q : Nat, q < H.size → ¬ A1 q → H1[q]? = H[q]?) → va_S A0 H0 H1 locs1 → W p l e R s m args below meth c H1 locs1 (cells + mc) (slots + ms) Q (F0 m (pc + 3) ls (.double r :: rest))) : W p l e R s m args below meth c H locs cells slots Q (F0 m pc ls st0) := by
  intro T hT X
  rcases hr T hT X with ⟨v, st₀, t, T', L, h0, X', hL, e1, e2, ⟨⟨r, u, hv, hp, hb⟩, hF⟩, st⟩ | ⟨q, st₀, t, T', L, E, ce, h0, X', hL, e1, e2, ⟨u, hp, hb, hF⟩, hce, hcv, hcl, st⟩
  · cases hv
    obtain ⟨k1, k2, k3⟩ := vx_keep h0 e1 hS hA hf hL hF
    obtain ⟨t2, a1, b1⟩ := kk r u t T'.heap (locs ++ L) e1.symm (by rw [← e2]; exact X'.warmed.alike) hp hb k1 k2 k3 T' rfl X'
    exact ⟨t2, st t2 a1, b1⟩
  · obtain ⟨k1, k2, k3⟩ := vx_keep h0 e1 hS hAX hf hL hF
    obtain ⟨t2, a1, b1⟩ := kx E ce q u t T'.heap (locs ++ L) e1.symm (by rw [← e2]; exact X'.warmed.alike) hp hb k1 k2 k3 (by rw [e1]; exact hce) hcv hcl T' rfl X'
    exact ⟨t2, st.trans a1, b1⟩
theorem vx_callv {S SX : Type} {post : S → Prop} {px : SX → Prop} {B : S → State → Prop} {BX : String → SX → State → Prop} {AX : Nat → Prop} (hr : vx_Run p l e R s m args below meth c H locs cells slots mc ms (F0 m pc ls st0) rest (va_Qv post B A1 a) (vx_X px BX AX) free) (hS : va_S A0 H0 H locs) (hA : ∀ q, q < H.size → A1 q → A0 q) (hf : ∀ q, free q → A0 q) (hAX : ∀ q, q < H.size → AX q → A0 q)
    (kx : ∀ (E : String) (ce : Cell) (q9 : Addr) (u : SX) (t : State) (H1 : Heap) (locs1 : List Loc), t.heap = H1 → s.vm.Alike t.vm → px u → BX E u t → H.size ≤ H1.size → (∀ q : Nat, q < H.size → ¬ AX q → H1[q]? = H[q]?) → va_S A0 H0 H1 locs1 → H1[q9]? = some ce → ce.vm = .none → s.vm.findClass E = some ce.cls → vx_W p l e R s m args below meth c H1 locs1 (cells + mc) (slots + ms) Q (F0 m pc ls rest) q9)
    (kk : ∀ (u : S) (t : State) (H1 : Heap) (locs1 : List Loc), t.heap = H1 → s.vm.Alike t.vm → post u → B u t → H.size ≤ H1.size → (∀ q : Nat, q < H.size → ¬ A1 q → H1[q]? = H[q]?) → va_S A0 H0 H1 locs1 → W p l e R s m args below meth c H1 locs1 (cells + mc) (slots + ms) Q (F0 m (pc + 3) ls (rest))) : W p l e R s m args below meth c H locs cells slots Q (F0 m pc ls st0) := by
  intro T hT X
  rcases hr T hT X with ⟨v, st₀, t, T', L, h0, X', hL, e1, e2, ⟨⟨u, hv, hp, hb⟩, hF⟩, st⟩ | ⟨q, st₀, t, T', L, E, ce, h0, X', hL, e1, e2, ⟨u, hp, hb, hF⟩, hce, hcv, hcl, st⟩
  · cases hv
    obtain ⟨k1, k2, k3⟩ := vx_keep h0 e1 hS hA hf hL hF
    obtain ⟨t2, a1, b1⟩ := kk u t T'.heap (locs ++ L) e1.symm (by rw [← e2]; exact X'.warmed.alike) hp hb k1 k2 k3 T' rfl X'
    exact ⟨t2, st t2 a1, b1⟩
  · obtain ⟨k1, k2, k3⟩ := vx_keep h0 e1 hS hAX hf hL hF
    obtain ⟨t2, a1, b1⟩ := kx E ce q u t T'.heap (locs ++ L) e1.symm (by rw [← e2]; exact X'.warmed.alike) hp hb k1 k2 k3 (by rw [e1]; exact hce) hcv hcl T' rfl X'
    exact ⟨t2, st.trans a1, b1⟩
/-- caught by the row x of this method's table; the rows ahead don't take it -/
theorem vx_catch {own name : String} {E : String} {ce : Cell} {q : Addr} (hown : s.vm.findClass own = some m.cls) (pre : List ExceptionTableEntry) (x : ExceptionTableEntry) (suf : List ExceptionTableEntry) (hsplit : c.exceptionTable.toList = pre ++ x :: suf)
    (hpass : ∀ z ∈ pre, covers z pc = false ∨ (z.catchType ≠ 0 ∧ ∃ nm : String, (Cond.classLink own z.catchType nm).before args s = true ∧ va_Nc E nm s)) (hx : covers x pc = true) (h0 : x.catchType ≠ 0)
    (hlink : (Cond.classLink own x.catchType name).before args s = true) (hcast : (Cond.castable E name).before args s = true) (hcell : H[q]? = some ce) (hv : ce.vm = .none) (hcl : s.vm.findClass E = some ce.cls)
    (kk : W p l e R s m args below meth c H locs cells slots Q (F0 m x.handlerPc ls [.ref q])) : vx_W p l e R s m args below meth c H locs cells slots Q (F0 m pc ls rest) q := by
  intro T hT X
  have hpl : e.platform.magicAccessors = ({} : Platform).magicAccessors := by rw [X.admits.platform]
  obtain ⟨c3, c4, hc3, hc4, hasg⟩ := Cond.castable_spec hcast
  cases Option.some.inj (hc3.symm.trans hcl)
  obtain ⟨c5, hc5, hcl5⟩ := Cond.classLink_spec hown hlink e.platform hpl
  cases Option.some.inj (hc4.symm.trans hc5)
  obtain ⟨vm', X', st⟩ := X.thenCaughtThrough q (g := F0 m pc ls rest) rfl (Steps.refl _) (by rw [hT]; exact hcell) (by rw [hv]; rfl) (by obtain ⟨k9, h9, -⟩ := Vm.findClass_spec hcl; exact ⟨k9, h9⟩) pre x suf hsplit
    (fun z hz => by
      rcases hpass z hz with h | ⟨hz0, nm, hl1, hn1⟩
      · exact Or.inl h
      · obtain ⟨c6, hc6, hcl6⟩ := Cond.classLink_spec hown hl1 e.platform hpl
        obtain ⟨a8, b8, h1, h2, h3⟩ := hn1
        cases Option.some.inj (h1.symm.trans hcl)
        cases Option.some.inj (h2.symm.trans hc6)
        exact Or.inr ⟨hz0, _, hcl6, h3⟩) hx (Or.inr ⟨h0, c4, hcl5, hasg⟩)
  obtain ⟨t, a1, b1⟩ := kk (T.setVm vm') hT X'
  exact ⟨t, st.trans a1, b1⟩
end Rows
section Ends
variable {p : Program} {l : Launch} {e : Env} {R : Room} {s : State} {m : MethodId} {args : Array Value} {below : List Frame} {meth : Method} {c : Code} {H : Heap} {locs : List Loc} {cells slots : Nat} {Q : State → Prop}
variable {mc ms : Nat} {free : Addr → Prop} {A0 A1 : Nat → Prop} {H0 : Heap} {a : Array Value} {ls : Array Slot} {st0 rest : List Value}
variable {Qc : Array Value → State → Outcome → State → Prop} {XC : String → State → State → Prop}
/-- what a body that may throw owes at its end -/
def vx_MQ (below : List Frame) (Qc : Array Value → State → Outcome → State → Prop) (XC : String → State → State → Prop) (a : Array Value) (s : State) (mc ms : Nat) (free : Addr → Prop) : State → Prop := fun t =>
  ∃ o, t.status = .running ∧ Ended t below o ∧ vx_Q Qc XC mc ms free a s o t
theorem vx_ret {g : JFrame} {mc ms : Nat} (k : W p l e R s m args below meth c H locs cells slots (MQ below Qc args s mc ms free) g) : W p l e R s m args below meth c H locs cells slots (vx_MQ below Qc XC args s mc ms free) g := by
  intro T hT X
  obtain ⟨t, a1, o, b1, b2, b3, b4⟩ := k T hT X
  exact ⟨t, a1, o, b1, b2, Or.inl ⟨b3, b4⟩⟩
/-- not caught here: it goes on to the caller -/
theorem vx_widen {g : JFrame} {q : Addr} {k n : Nat} (h1 : cells ≤ k) (h2 : slots ≤ n) (kk : vx_W p l e R s m args below meth c H locs k n Q g q) : vx_W p l e R s m args below meth c H locs cells slots Q g q := fun T hT X => kk T hT (stand_widen X h1 h2)
theorem vx_out {pc : Nat} {E : String} {ce : Cell} {q : Addr} {mc ms : Nat} (hout : ∀ x ∈ c.exceptionTable.toList, covers x pc = false) (hlocks : meth.locks = false) (hcell : H[q]? = some ce) (hv : ce.vm = .none) (hcl : s.vm.findClass E = some ce.cls)
    (hx : ∀ t : State, t.heap = H → s.vm.Alike t.vm → XC E s t) (hf : ∀ z ∈ locs, free z.base) (hc : cells ≤ mc) (hs : slots ≤ ms) :
    vx_W p l e R s m args below meth c H locs cells slots (vx_MQ below Qc XC args s mc ms free) (F0 m pc ls rest) q := by
  intro T hT X
  obtain ⟨st1, hrun, hend, hW, hsm⟩ := X.leaveThrown q (g := F0 m pc ls rest) rfl rfl rfl hout hlocks
  have hcell9 : (T.setFrames (.throwing q :: below)).heap[q]? = some ce := by
    show T.heap[q]? = some ce
    rw [hT]; exact hcell
  exact ⟨_, st1, .threw q, hrun, hend, Or.inr ⟨q, rfl, E, ce, locs, hx _ hT hW.alike, hcell9, hv, hcl, hW, hsm.mono hc hs, hf⟩⟩
theorem vx_frame {U : State} {k n : Nat} (h : s.sameButNew ({ U with vm := s.vm } : State) locs k n) : s.heap.size ≤ U.heap.size ∧ ∀ q : Nat, q < s.heap.size → (∀ z ∈ locs, z.base ≠ q) → U.heap[q]? = s.heap[q]? := by
  obtain ⟨-, h2, -, -, -, h6⟩ := h
  refine ⟨h2, fun q hq hz => ?_⟩
  obtain ⟨c9, e1, e2, e3, e4⟩ := h6 q _ (Array.getElem?_eq_getElem hq)
  have hs : c9.slots = (s.heap[q]).slots := Array.ext_getElem? fun i => e4 i fun hm => hz _ hm rfl
  have h9 : c9 = s.heap[q] := by
    rw [hs] at e2
    exact e2
  have e5 : U.heap[q]? = some c9 := e1
  rw [e5, h9, Array.getElem?_eq_getElem hq]
/-- the words of a throw but the four that speak of the heap -/
def vx_no (w : Cond) : Bool := decide (w ≠ .isRef (.static Bundle.tN "UNASSIGNED_STACK" Bundle.steD)) && decide (w ≠ .isRef (.static Bundle.tN "SUPPRESSED_SENTINEL" Bundle.listD)) && decide (w ≠ .laysStatic Bundle.tN "UNASSIGNED_STACK" Bundle.steD) && decide (w ≠ .laysStatic Bundle.tN "SUPPRESSED_SENTINEL" Bundle.listD)
def vx_at0 (own : String) (ic : Nat) (X : String) (names : List String) : List Cond := (Bundle.ownAtoms0 own ic X names).filter vx_no
def vx_atS (own : String) (ic : Nat) (X : String) (names : List String) : List Cond := (Bundle.ownAtoms own ic X names).filter vx_no
/-- a word that the tables alone decide, or a good one -/
def vx_ot (w : Cond) : Bool := w.onTables || goodWord w
theorem vx_ot_at {args a' : Array Value} {s U : State} {w : Cond} (hW : s.WarmedH U.vm) (hvm : s.vm = U.vm) (hg : vx_ot w = true) (h : w.before args s = true) : w.before a' U = true := by
  simp only [vx_ot, Bool.or_eq_true] at hg
  rcases hg with hg | hg
  · exact va_tabs hg hvm h
  · exact word_at hW (good_of_word hg) h
/-- a list's words: the good ones out of the method's own list, the others by premises of their own -/
theorem vx_hat {args : Array Value} {s : State} {L B : List Cond} (h1 : ∀ w ∈ L.filter goodWord, w.before args s = true) (h2 : ∀ w ∈ L.filter (fun w => !goodWord w), w ∈ B) (h3 : ∀ w ∈ B, w.before args s = true) : ∀ w ∈ L, w.before args s = true := by
  intro w hw
  by_cases g : goodWord w = true
  · exact h1 w (List.mem_filter.mpr ⟨hw, g⟩)
  · refine h3 w (h2 w (List.mem_filter.mpr ⟨hw, ?_⟩))
    show (!goodWord w) = true
    cases hgw : goodWord w
    · rfl
    · exact absurd hgw g
theorem vx_c {args : Array Value} {s : State} {w : Cond} {B : List Cond} (h : w.before args s = true) (t : ∀ w ∈ B, w.before args s = true) : ∀ w' ∈ w :: B, w'.before args s = true := fun w' h' => (List.mem_cons.mp h').elim (fun e => by rw [e]; exact h) (t w')
theorem vx_n {args : Array Value} {s : State} : ∀ w ∈ ([] : List Cond), w.before args s = true := fun _ h => nomatch h
theorem vx_own {args : Array Value} {s : State} {L : List Cond} (h1 : ∀ w ∈ L.filter vx_no, w.before args s = true)
    (hU : (Cond.isRef (.static Bundle.tN "UNASSIGNED_STACK" Bundle.steD)).before args s = true) (hN : (Cond.isRef (.static Bundle.tN "SUPPRESSED_SENTINEL" Bundle.listD)).before args s = true)
    (lU : (Cond.laysStatic Bundle.tN "UNASSIGNED_STACK" Bundle.steD).before args s = true) (lN : (Cond.laysStatic Bundle.tN "SUPPRESSED_SENTINEL" Bundle.listD).before args s = true) : ∀ w ∈ L, w.before args s = true := by
  intro w hw
  by_cases e1 : w = .isRef (.static Bundle.tN "UNASSIGNED_STACK" Bundle.steD)
  · rw [e1]; exact hU
  · by_cases e2 : w = .isRef (.static Bundle.tN "SUPPRESSED_SENTINEL" Bundle.listD)
    · rw [e2]; exact hN
    · by_cases e3 : w = .laysStatic Bundle.tN "UNASSIGNED_STACK" Bundle.steD
      · rw [e3]; exact lU
      · by_cases e4 : w = .laysStatic Bundle.tN "SUPPRESSED_SENTINEL" Bundle.listD
        · rw [e4]; exact lN
        · exact h1 w (List.mem_filter.mpr ⟨hw, by unfold vx_no; rw [decide_eq_true e1, decide_eq_true e2, decide_eq_true e3, decide_eq_true e4]; rfl⟩)
/-- where a static field lies, its class's statics cell in H -/
def vx_L (C n d : String) (A : Nat → Prop) (U : State) (H : Heap) : Prop := ∃ (c : ClassId) (k : Class) (i : Nat) (f : Field) (a : Nat) (cell : Cell), U.vm.findClass C = some c ∧ U.fieldFound? C n d = some (c, k, i, f) ∧ f.isStatic = true ∧ k.statics = some a ∧ H[a]? = some cell ∧ cell.vm.isStatics = true ∧ cell.cls = c ∧ f.slot < cell.slots.size ∧ k.staticTypes[f.slot]? = some f.type ∧ ¬ A a
theorem vx_L.moved {C n d : String} {A : Nat → Prop} {u U : State} {H : Heap} (hvm : u.vm.Alike U.vm) (h : vx_L C n d A u H) : vx_L C n d A U H := by
  obtain ⟨c, k, i, f, a, cell, h1, h2, h3, h4, h5, h6, h7, h8, h9, h10⟩ := h
  obtain ⟨k', hi', he⟩ := State.fieldFound?_setVm hvm h2
  exact ⟨c, k', i, f, a, cell, by rw [hvm.findClass]; exact h1, hi', h3, by rw [he]; exact h4, h5, h6, h7, h8, by rw [he]; exact h9, h10⟩
theorem vx_L.kept {C n d : String} {A : Nat → Prop} {U : State} {H H1 : Heap} (h : vx_L C n d A U H) (hq : ∀ a : Nat, a < H.size → ¬ A a → H1[a]? = H[a]?) : vx_L C n d A U H1 := by
  obtain ⟨c, k, i, f, a, cell, h1, h2, h3, h4, h5, h6, h7, h8, h9, h10⟩ := h
  exact ⟨c, k, i, f, a, cell, h1, h2, h3, h4, by rw [hq a (Array.getElem?_eq_some_iff.mp h5).1 h10]; exact h5, h6, h7, h8, h9, h10⟩
theorem vx_L.narrow {C n d : String} {A B : Nat → Prop} {U : State} {H : Heap} (h : vx_L C n d A U H) (hAB : ∀ q, B q → A q) : vx_L C n d B U H := by
  obtain ⟨c, k, i, f, a, cell, h1, h2, h3, h4, h5, h6, h7, h8, h9, h10⟩ := h
  exact ⟨c, k, i, f, a, cell, h1, h2, h3, h4, h5, h6, h7, h8, h9, fun z => h10 (hAB _ z)⟩
theorem vx_L.word {C n d : String} {A : Nat → Prop} {s : State} {args : Array Value} (h : vx_L C n d A s s.heap) : (Cond.laysStatic C n d).before args s = true := by
  obtain ⟨c, k, i, f, a, cell, h1, h2, h3, h4, h5, h6, h7, h8, h9, -⟩ := h
  show (Cond.laysStatic C n d).holds args s none s [] = true
  exact Cond.laysStatic_of h1 h2 h3 h4 h5 h6 h7 h8 h9
/-- .. and what it holds: null or some reference -/
def vx_Zq (C n d : String) (A : Nat → Prop) (U : State) (H : Heap) : Prop := va_Zq C n d A U H ∧ vx_L C n d A U H
theorem vx_Zq.moved {C n d : String} {A : Nat → Prop} {u U : State} {H : Heap} (hvm : u.vm.Alike U.vm) (h : vx_Zq C n d A u H) : vx_Zq C n d A U H := ⟨va_Zq.moved hvm h.1, vx_L.moved hvm h.2⟩
theorem vx_Zq.kept {C n d : String} {A : Nat → Prop} {U : State} {H H1 : Heap} (h : vx_Zq C n d A U H) (hq : ∀ a : Nat, a < H.size → ¬ A a → H1[a]? = H[a]?) : vx_Zq C n d A U H1 := ⟨va_Zq.kept h.1 hq, vx_L.kept h.2 hq⟩
theorem vx_Zq.narrow {C n d : String} {A B : Nat → Prop} {U : State} {H : Heap} (h : vx_Zq C n d A U H) (hAB : ∀ q, B q → A q) : vx_Zq C n d B U H := ⟨va_Zq.narrow h.1 hAB, vx_L.narrow h.2 hAB⟩
theorem vx_Zqof {args : Array Value} {s : State} {C n d : String} {A : Nat → Prop} (hl : (Cond.laysStatic C n d).before args s = true) (hini : (Cond.initialized C).before args s = true) (h : (Cond.isRef (.static C n d)).before args s = true) (hA : ∀ a : Nat, a < s.heap.size → ¬ A a) : vx_Zq C n d A s s.heap := by
  refine ⟨va_Zqof hl hini h hA, ?_⟩
  obtain ⟨c, k, i, f, a, cell, h1, h2, h3, h4, h5, h6, h7, h8, h9⟩ := Cond.laysStatic_spec hl
  exact ⟨c, k, i, f, a, cell, h1, h2, h3, h4, h5, h6, h7, h8, h9, hA a (Array.getElem?_eq_some_iff.mp h5).1⟩
theorem vx_isRef {C n d : String} {v : Value} {A : Nat → Prop} {s : State} {args : Array Value} (h : va_Z C n d v A s s.heap) (hv : v.isRef = true) : (Cond.isRef (.static C n d)).before args s = true := by
  obtain ⟨cf, kf, fi, f, a, cell, h1, h2, h3, h4, h5, h6, h7, -⟩ := h
  have he : (Term.static C n d).eval args s none [] s = some v := by
    simp [Term.eval, State.fieldNamed?, h1, h2, h4, h5, h6, h7]
  simp only [Cond.before, Cond.holds, Cond.value, he]
  cases v <;> simp_all [Value.isRef]
theorem vx_isRefq {C n d : String} {A : Nat → Prop} {s : State} {args : Array Value} (h : va_Zq C n d A s s.heap) : (Cond.isRef (.static C n d)).before args s = true := by
  rcases h with h | ⟨t, h⟩
  · exact vx_isRef h rfl
  · exact vx_isRef h rfl
/-- the same frame, seen from here: as if the method were called anew in this heap -/
theorem vx_rebase {T : State} (X : Stand p l e R s m args below meth c T locs cells slots) {R' : Room} (hf : R'.frames ≤ R.frames) (hl : R'.locals ≤ R.locals) (hc : cells + R'.cells ≤ R.cells) (hs : slots + R'.slots ≤ R.slots) :
    Stand p l e R' ((T.setVm s.vm).setFrames (.invoking m args :: below)) m args below meth c T [] 0 0 := by
  have htop : (T.setVm s.vm).topJava?.isSome := X.here.top
  have hF : ((T.setVm s.vm).setFrames (.invoking m args :: below)).frames = .invoking m args :: below := State.frames_setFrames _ (State.cur_lt_of_top htop)
  obtain ⟨g₀, hg0⟩ := Option.isSome_iff_exists.mp htop
  obtain ⟨r, hr⟩ := State.topJava?_eq_some.mp hg0
  have hl9 : e.platform.stackLimits (T.setVm s.vm).me = e.platform.stackLimits s.me := X.limits
  have hb9 : (T.setVm s.vm).me.stackBytes = s.me.stackBytes := X.bytes
  refine ⟨X.admits, X.cas, X.clock, hF, ?_, X.hears, X.method, X.code, X.here, X.tail, X.warmed, ?_, ?_, ?_⟩
  · have h := X.room
    have hU : ((T.setVm s.vm).setFrames (.invoking m args :: below)).localsInUse = s.localsInUse := by
      rw [State.localsInUse_invoking hF (meth := meth) (c := c) X.method X.code, State.localsInUse_invoking X.frames X.method X.code]
    simp only [State.hasRoom, Bool.and_eq_true, decide_eq_true_eq] at h ⊢
    obtain ⟨⟨⟨⟨h1, h2, h3, h4, h5, h6⟩, h7⟩, h8⟩, h9⟩ := h
    rw [X.frames, List.length_cons] at h2 h3
    have q1 := X.heapSize
    have q2 := X.used
    simp only [hF, hU, List.length_cons, State.stackLimits_setFrames, State.stackBytes_setFrames, hl9, hb9]
    refine ⟨⟨⟨⟨by omega, by omega, by omega, by omega, by omega, h6⟩, ?_⟩, ?_⟩, X.book⟩
    · show T.heap.size + R'.cells ≤ e.platform.maxCells
      omega
    · show T.slotsUsed + R'.slots ≤ e.platform.maxSlots
      omega
  · rw [State.stackLimits_setFrames]; rfl
  · rw [State.stackBytes_setFrames]; rfl
  · refine ⟨?_, Nat.le_refl _, Nat.le_refl _, ?_, ?_, fun a c9 h9 => ⟨c9, h9, rfl, rfl, fun _ _ => rfl⟩⟩
    · obtain ⟨t, ht, -⟩ := State.frames_cons hr
      show T.setVm s.vm = { ((T.setVm s.vm).setFrames (.invoking m args :: below)).setFrames (T.setVm s.vm).frames with heap := T.heap, slotsUsed := T.slotsUsed }
      rw [State.setFrames_setFrames, State.setFrames_self ht]
      rfl
    · show T.slotsUsed = T.slotsUsed + ((T.heap.toList.drop T.heap.size).map (·.slots.size)).sum
      rw [List.drop_eq_nil_of_le (Nat.le_of_eq Array.length_toList)]
      rfl
    · show ((T.heap.toList.drop T.heap.size).map (·.slots.size)).sum ≤ 0
      rw [List.drop_eq_nil_of_le (Nat.le_of_eq Array.length_toList)]
      exact Nat.le_refl _
/-- 'throw new E()': new; dup; invokespecial; athrow -/
theorem vx_throw0 {cc : ByteArray} {pc : Nat} (hexec : p.tables.exec = Jvm.exec) (hb : c.code = cc) (hl : l.stackTraces = false) {own cls : String} {names : List String} {ik ic mc ms : Nat} {A : Nat → Prop}
    (hown : s.vm.findClass own = some m.cls) (hcls : Bundle.fit cls = true) (hnames : ∀ n ∈ names, Bundle.fit n = true)
    (hk : (Cond.classLink own ik cls).before args s = true) (hini : (Cond.initialized cls).before args s = true) (hat : ∀ w ∈ vx_at0 own ic cls names, w.before args s = true)
    (hgood : ∀ w ∈ Cond.classLink own ik cls :: Cond.initialized cls :: vx_at0 own ic cls names, vx_ot w = true)
    (hU : vx_Zq Bundle.tN "UNASSIGNED_STACK" Bundle.steD A s s.heap) (hN : vx_Zq Bundle.tN "SUPPRESSED_SENTINEL" Bundle.listD A s s.heap) (hS : va_S A s.heap H locs) (hsize : ls.size = c.maxLocals)
    (d0 : decode cc pc = .ok (.new ik, 3)) (d3 : decode cc (pc + 3) = .ok (.dup, 1)) (d4 : decode cc (pc + 4) = .ok (.invokespecial ic, 3)) (d7 : decode cc (pc + 7) = .ok (.athrow, 1))
    (hout : ∀ x ∈ c.exceptionTable.toList, covers x (pc + 7) = false)
    (hRframes : names.length + 3 < R.frames) (hRlocals : (rest.map fun v => v.category).sum + (13 * (names.length + 1) + 42) ≤ R.locals) (hRcells : cells + 1 ≤ R.cells) (hRslots : slots + 6 ≤ R.slots) (hlocks : meth.locks = false)
    (hx : ∀ t : State, s.vm.Alike t.vm → H.size ≤ t.heap.size → (∀ q : Nat, q < H.size → t.heap[q]? = H[q]?) → XC cls s t)
    (hf : ∀ z ∈ locs, free z.base) (hc : cells + 1 ≤ mc) (hs : slots + 6 ≤ ms) :
    W p l e R s m args below meth c H locs cells slots (vx_MQ below Qc XC args s mc ms free) (F0 m pc ls rest) := by
  intro T hT X
  have htr : e.platform.stackTraces = false := (show e.platform.stackTraces = l.stackTraces by rw [X.admits.platform]).trans hl
  have Y := vx_rebase X (R' := { frames := R.frames, locals := R.locals, cells := 1, slots := 6 }) (Nat.le_refl _) (Nat.le_refl _) hRcells hRslots
  obtain ⟨s', hA⟩ : ∃ z, z = (T.setVm s.vm).setFrames (.invoking m args :: below) := ⟨_, rfl⟩
  rw [← hA] at Y
  have hvm : s'.vm = s.vm := by rw [hA]; rfl
  have hhp : s'.heap = H := by rw [hA]; exact hT
  have hW0 : s.WarmedH s'.vm := by rw [hvm]; exact State.WarmedH.refl s
  have hat' : ∀ w ∈ vx_at0 own ic cls names, w.before args s' = true := fun w hw => vx_ot_at hW0 hvm.symm (hgood w (List.mem_cons_of_mem _ (List.mem_cons_of_mem _ hw))) (hat w hw)
  have hk' : (Cond.classLink own ik cls).before args s' = true := vx_ot_at hW0 hvm.symm (hgood _ List.mem_cons_self) hk
  have hini' : (Cond.initialized cls).before args s' = true := vx_ot_at hW0 hvm.symm (hgood _ (List.mem_cons_of_mem _ List.mem_cons_self)) hini
  have hU' : vx_Zq Bundle.tN "UNASSIGNED_STACK" Bundle.steD A s' s'.heap := by rw [hhp]; exact vx_Zq.moved hW0.alike (hU.kept hS.2.1)
  have hN' : vx_Zq Bundle.tN "SUPPRESSED_SENTINEL" Bundle.listD A s' s'.heap := by rw [hhp]; exact vx_Zq.moved hW0.alike (hN.kept hS.2.1)
  have h : ∀ w ∈ Bundle.ownAtoms0 own ic cls names, w.before args s' = true := vx_own hat' (vx_isRefq hU'.1) (vx_isRefq hN'.1) hU'.2.word hN'.2.word
  have hown' : s'.vm.findClass own = some m.cls := by rw [hvm]; exact hown
  have hins : (Cond.instantiable cls 6).before args s' = true := h _ (by simp [Bundle.ownAtoms0])
  obtain ⟨vm₁, cX, kX, hfX, hkX, -, -, X₁, st1⟩ := Y.newCold hexec (own := own) (C := cls) (index := ik) (n := 6) hown' hk' hins hini'
    (g := F0 m pc ls rest) rfl (by rw [hb]; exact d0) (Nat.le_refl _) (Nat.le_refl _)
  generalize hT1 : (T.setVm vm₁).pushCell { cls := cX, slots := kX.instanceTypes.map defaultValue, vm := .none } = T1 at X₁ st1
  have hcat : (Value.ref T.heap.size).category = 1 := rfl
  have hcellA : T1.heap[T.heap.size]? = some (freshCell cX kX) := by rw [← hT1]; exact State.heap_pushCell_size _ _
  have d3' : decode c.code (pc + 3) = .ok (.dup, 1) := by rw [hb]; exact d3
  obtain ⟨U, hsteps, hrun, hend, hW, hsame, ce, hce, hO⟩ := X₁.ctorThrow0 hexec htr (own := own) (cls := cls) (names := names) (ic := ic) hown' hcls hnames h (fun x hx => nomatch hx) hfX hkX hcellA (by rw [hhp, hT]; exact Nat.le_refl _)
    (g := { method := m, pc := pc + 4, locals := ls, stack := .ref T.heap.size :: .ref T.heap.size :: rest, locked := none }) rfl hsize rfl rfl (rest := rest) rfl
    (by rw [hb]; exact d4) (by rw [hb]; exact d7) hout hRframes (by simp only [List.map_cons, List.sum_cons, hcat]; omega) hlocks
  obtain ⟨f1, f2⟩ := vx_frame hsame
  rw [hhp] at f1 f2
  have hWs : s.WarmedH U.vm := State.WarmedH.trans hW0 hW
  have hcl : s.vm.findClass cls = some ce.cls := by
    have h9 := hO.cls
    rw [hvm] at h9
    exact h9
  have hall : s.sameButNew ({ U with vm := s.vm } : State) locs mc ms := by
    subst hA
    obtain ⟨e1, e2⟩ := hsame
    rw [State.setFrames_setFrames] at e1
    have h2 : (T.setVm s.vm).sameButNew ({ U with vm := s.vm } : State) [] (0 + 1) (0 + 6) := ⟨e1, e2⟩
    have h3 := X.same.trans h2
    rw [List.append_nil] at h3
    exact h3.mono hc hs
  refine ⟨U, ?_, .threw T.heap.size, hrun, hend, Or.inr ⟨T.heap.size, rfl, cls, ce, locs, hx U hWs.alike f1 (fun q hq => f2 q hq (fun z hz => nomatch hz)), hce, hO.vm, hcl, hWs, hall, hf⟩⟩
  refine st1 _ ?_
  show Steps p.tables e below (T1.setTop { method := m, pc := pc + 3, locals := ls, stack := .ref T.heap.size :: rest, locked := none }) _
  jvm_step X₁.here [X₁.here.top, hexec, d3', Value.category]
  exact hsteps
/-- 'throw new E("text")': new; dup; ldc; invokespecial; athrow -/
theorem vx_throwS {cc : ByteArray} {pc : Nat} (hexec : p.tables.exec = Jvm.exec) (hb : c.code = cc) (hl : l.stackTraces = false) {own cls text : String} {names : List String} {ik is ic mc ms sa : Nat} {A : Nat → Prop}
    (hown : s.vm.findClass own = some m.cls) (hcls : Bundle.fit cls = true) (hnames : ∀ n ∈ names, Bundle.fit n = true)
    (hk : (Cond.classLink own ik cls).before args s = true) (hini : (Cond.initialized cls).before args s = true) (hstr : vk_R own is text sa s) (hat : ∀ w ∈ vx_atS own ic cls names, w.before args s = true)
    (hgood : ∀ w ∈ Cond.classLink own ik cls :: Cond.initialized cls :: vx_atS own ic cls names, vx_ot w = true)
    (hU : vx_Zq Bundle.tN "UNASSIGNED_STACK" Bundle.steD A s s.heap) (hN : vx_Zq Bundle.tN "SUPPRESSED_SENTINEL" Bundle.listD A s s.heap) (hS : va_S A s.heap H locs) (hsize : ls.size = c.maxLocals)
    (d0 : decode cc pc = .ok (.new ik, 3)) (d3 : decode cc (pc + 3) = .ok (.dup, 1)) (d4 : decode cc (pc + 4) = .ok (.ldc is, 2)) (d6 : decode cc (pc + 6) = .ok (.invokespecial ic, 3)) (d9 : decode cc (pc + 9) = .ok (.athrow, 1))
    (hout : ∀ x ∈ c.exceptionTable.toList, covers x (pc + 9) = false)
    (hRframes : names.length + 3 < R.frames) (hRlocals : (rest.map fun v => v.category).sum + (13 * (names.length + 1) + 43) ≤ R.locals) (hRcells : cells + 1 ≤ R.cells) (hRslots : slots + 6 ≤ R.slots) (hlocks : meth.locks = false)
    (hx : ∀ t : State, s.vm.Alike t.vm → H.size ≤ t.heap.size → (∀ q : Nat, q < H.size → t.heap[q]? = H[q]?) → XC cls s t)
    (hf : ∀ z ∈ locs, free z.base) (hc : cells + 1 ≤ mc) (hs : slots + 6 ≤ ms) :
    W p l e R s m args below meth c H locs cells slots (vx_MQ below Qc XC args s mc ms free) (F0 m pc ls rest) := by
  intro T hT X
  have htr : e.platform.stackTraces = false := (show e.platform.stackTraces = l.stackTraces by rw [X.admits.platform]).trans hl
  have Y := vx_rebase X (R' := { frames := R.frames, locals := R.locals, cells := 1, slots := 6 }) (Nat.le_refl _) (Nat.le_refl _) hRcells hRslots
  obtain ⟨s', hA⟩ : ∃ z, z = (T.setVm s.vm).setFrames (.invoking m args :: below) := ⟨_, rfl⟩
  rw [← hA] at Y
  have hvm : s'.vm = s.vm := by rw [hA]; rfl
  have hhp : s'.heap = H := by rw [hA]; exact hT
  have hW0 : s.WarmedH s'.vm := by rw [hvm]; exact State.WarmedH.refl s
  have hat' : ∀ w ∈ vx_atS own ic cls names, w.before args s' = true := fun w hw => vx_ot_at hW0 hvm.symm (hgood w (List.mem_cons_of_mem _ (List.mem_cons_of_mem _ hw))) (hat w hw)
  have hk' : (Cond.classLink own ik cls).before args s' = true := vx_ot_at hW0 hvm.symm (hgood _ List.mem_cons_self) hk
  have hini' : (Cond.initialized cls).before args s' = true := vx_ot_at hW0 hvm.symm (hgood _ (List.mem_cons_of_mem _ List.mem_cons_self)) hini
  have hU' : vx_Zq Bundle.tN "UNASSIGNED_STACK" Bundle.steD A s' s'.heap := by rw [hhp]; exact vx_Zq.moved hW0.alike (hU.kept hS.2.1)
  have hN' : vx_Zq Bundle.tN "SUPPRESSED_SENTINEL" Bundle.listD A s' s'.heap := by rw [hhp]; exact vx_Zq.moved hW0.alike (hN.kept hS.2.1)
  have h : ∀ w ∈ Bundle.ownAtoms own ic cls names, w.before args s' = true := vx_own hat' (vx_isRefq hU'.1) (vx_isRefq hN'.1) hU'.2.word hN'.2.word
  have hown' : s'.vm.findClass own = some m.cls := by rw [hvm]; exact hown
  have hins : (Cond.instantiable cls 6).before args s' = true := h _ (by simp [Bundle.ownAtoms])
  obtain ⟨vm₁, cX, kX, hfX, hkX, -, -, X₁, st1⟩ := Y.newCold hexec (own := own) (C := cls) (index := ik) (n := 6) hown' hk' hins hini'
    (g := F0 m pc ls rest) rfl (by rw [hb]; exact d0) (Nat.le_refl _) (Nat.le_refl _)
  generalize hT1 : (T.setVm vm₁).pushCell { cls := cX, slots := kX.instanceTypes.map defaultValue, vm := .none } = T1 at X₁ st1
  have hcat : (Value.ref T.heap.size).category = 1 := rfl
  have hcellA : T1.heap[T.heap.size]? = some (freshCell cX kX) := by rw [← hT1]; exact State.heap_pushCell_size _ _
  have d3' : decode c.code (pc + 3) = .ok (.dup, 1) := by rw [hb]; exact d3
  have d4' : decode c.code (pc + 4) = .ok (.ldc is, 2) := by rw [hb]; exact d4
  have hstr' : vk_R own is text sa s' := vk_R.warm hW0 hstr
  obtain ⟨U, hsteps, hrun, hend, hW, hsame, ce, hce, hO⟩ := X₁.ctorThrowS hexec htr (own := own) (cls := cls) (names := names) (ic := ic) hown' hcls hnames h (fun x hx => nomatch hx) hfX hkX hcellA (by rw [hhp, hT]; exact Nat.le_refl _) (msg := .ref sa) rfl
    (g := { method := m, pc := pc + 6, locals := ls, stack := .ref sa :: .ref T.heap.size :: .ref T.heap.size :: rest, locked := none }) rfl hsize rfl rfl (rest := rest) rfl
    (by rw [hb]; exact d6) (by rw [hb]; exact d9) hout hRframes (by simp only [List.map_cons, List.sum_cons, hcat]; omega) hlocks
  obtain ⟨f1, f2⟩ := vx_frame hsame
  rw [hhp] at f1 f2
  have hWs : s.WarmedH U.vm := State.WarmedH.trans hW0 hW
  have hcl : s.vm.findClass cls = some ce.cls := by
    have h9 := hO.cls
    rw [hvm] at h9
    exact h9
  have hall : s.sameButNew ({ U with vm := s.vm } : State) locs mc ms := by
    subst hA
    obtain ⟨e1, e2⟩ := hsame
    rw [State.setFrames_setFrames] at e1
    have h2 : (T.setVm s.vm).sameButNew ({ U with vm := s.vm } : State) [] (0 + 1) (0 + 6) := ⟨e1, e2⟩
    have h3 := X.same.trans h2
    rw [List.append_nil] at h3
    exact h3.mono hc hs
  refine ⟨U, ?_, .threw T.heap.size, hrun, hend, Or.inr ⟨T.heap.size, rfl, cls, ce, locs, hx U hWs.alike f1 (fun q hq => f2 q hq (fun z hz => nomatch hz)), hce, hO.vm, hcl, hWs, hall, hf⟩⟩
  refine st1 _ ?_
  show Steps p.tables e below (T1.setTop { method := m, pc := pc + 3, locals := ls, stack := .ref T.heap.size :: rest, locked := none }) _
  jvm_step X₁.here [X₁.here.top, hexec, d3', Value.category]
  exact X₁.ldcString hexec (own := own) (text := text) (index := is) (a := sa) hown' hstr'.1 hstr'.2
    (g := { method := m, pc := pc + 4, locals := ls, stack := .ref T.heap.size :: .ref T.heap.size :: rest, locked := none }) rfl d4' _ hsteps
/-- 'throw new E("text")', the text by a wide index -/
theorem vx_throwSW {cc : ByteArray} {pc : Nat} (hexec : p.tables.exec = Jvm.exec) (hb : c.code = cc) (hl : l.stackTraces = false) {own cls text : String} {names : List String} {ik is ic mc ms sa : Nat} {A : Nat → Prop}
    (hown : s.vm.findClass own = some m.cls) (hcls : Bundle.fit cls = true) (hnames : ∀ n ∈ names, Bundle.fit n = true)
    (hk : (Cond.classLink own ik cls).before args s = true) (hini : (Cond.initialized cls).before args s = true) (hstr : vk_R own is text sa s) (hat : ∀ w ∈ vx_atS own ic cls names, w.before args s = true)
    (hgood : ∀ w ∈ Cond.classLink own ik cls :: Cond.initialized cls :: vx_atS own ic cls names, vx_ot w = true)
    (hU : vx_Zq Bundle.tN "UNASSIGNED_STACK" Bundle.steD A s s.heap) (hN : vx_Zq Bundle.tN "SUPPRESSED_SENTINEL" Bundle.listD A s s.heap) (hS : va_S A s.heap H locs) (hsize : ls.size = c.maxLocals)
    (d0 : decode cc pc = .ok (.new ik, 3)) (d3 : decode cc (pc + 3) = .ok (.dup, 1)) (d4 : decode cc (pc + 4) = .ok (.ldc_w is, 3)) (d7 : decode cc (pc + 7) = .ok (.invokespecial ic, 3)) (d10 : decode cc (pc + 10) = .ok (.athrow, 1))
    (hout : ∀ x ∈ c.exceptionTable.toList, covers x (pc + 10) = false)
    (hRframes : names.length + 3 < R.frames) (hRlocals : (rest.map fun v => v.category).sum + (13 * (names.length + 1) + 43) ≤ R.locals) (hRcells : cells + 1 ≤ R.cells) (hRslots : slots + 6 ≤ R.slots) (hlocks : meth.locks = false)
    (hx : ∀ t : State, s.vm.Alike t.vm → H.size ≤ t.heap.size → (∀ q : Nat, q < H.size → t.heap[q]? = H[q]?) → XC cls s t)
    (hf : ∀ z ∈ locs, free z.base) (hc : cells + 1 ≤ mc) (hs : slots + 6 ≤ ms) :
    W p l e R s m args below meth c H locs cells slots (vx_MQ below Qc XC args s mc ms free) (F0 m pc ls rest) := by
  intro T hT X
  have htr : e.platform.stackTraces = false := (show e.platform.stackTraces = l.stackTraces by rw [X.admits.platform]).trans hl
  have Y := vx_rebase X (R' := { frames := R.frames, locals := R.locals, cells := 1, slots := 6 }) (Nat.le_refl _) (Nat.le_refl _) hRcells hRslots
  obtain ⟨s', hA⟩ : ∃ z, z = (T.setVm s.vm).setFrames (.invoking m args :: below) := ⟨_, rfl⟩
  rw [← hA] at Y
  have hvm : s'.vm = s.vm := by rw [hA]; rfl
  have hhp : s'.heap = H := by rw [hA]; exact hT
  have hW0 : s.WarmedH s'.vm := by rw [hvm]; exact State.WarmedH.refl s
  have hat' : ∀ w ∈ vx_atS own ic cls names, w.before args s' = true := fun w hw => vx_ot_at hW0 hvm.symm (hgood w (List.mem_cons_of_mem _ (List.mem_cons_of_mem _ hw))) (hat w hw)
  have hk' : (Cond.classLink own ik cls).before args s' = true := vx_ot_at hW0 hvm.symm (hgood _ List.mem_cons_self) hk
  have hini' : (Cond.initialized cls).before args s' = true := vx_ot_at hW0 hvm.symm (hgood _ (List.mem_cons_of_mem _ List.mem_cons_self)) hini
  have hU' : vx_Zq Bundle.tN "UNASSIGNED_STACK" Bundle.steD A s' s'.heap := by rw [hhp]; exact vx_Zq.moved hW0.alike (hU.kept hS.2.1)
  have hN' : vx_Zq Bundle.tN "SUPPRESSED_SENTINEL" Bundle.listD A s' s'.heap := by rw [hhp]; exact vx_Zq.moved hW0.alike (hN.kept hS.2.1)
  have h : ∀ w ∈ Bundle.ownAtoms own ic cls names, w.before args s' = true := vx_own hat' (vx_isRefq hU'.1) (vx_isRefq hN'.1) hU'.2.word hN'.2.word
  have hown' : s'.vm.findClass own = some m.cls := by rw [hvm]; exact hown
  have hins : (Cond.instantiable cls 6).before args s' = true := h _ (by simp [Bundle.ownAtoms])
  obtain ⟨vm₁, cX, kX, hfX, hkX, -, -, X₁, st1⟩ := Y.newCold hexec (own := own) (C := cls) (index := ik) (n := 6) hown' hk' hins hini'
    (g := F0 m pc ls rest) rfl (by rw [hb]; exact d0) (Nat.le_refl _) (Nat.le_refl _)
  generalize hT1 : (T.setVm vm₁).pushCell { cls := cX, slots := kX.instanceTypes.map defaultValue, vm := .none } = T1 at X₁ st1
  have hcat : (Value.ref T.heap.size).category = 1 := rfl
  have hcellA : T1.heap[T.heap.size]? = some (freshCell cX kX) := by rw [← hT1]; exact State.heap_pushCell_size _ _
  have d3' : decode c.code (pc + 3) = .ok (.dup, 1) := by rw [hb]; exact d3
  have d4' : decode c.code (pc + 4) = .ok (.ldc_w is, 3) := by rw [hb]; exact d4
  have hstr' : vk_R own is text sa s' := vk_R.warm hW0 hstr
  obtain ⟨U, hsteps, hrun, hend, hW, hsame, ce, hce, hO⟩ := X₁.ctorThrowS hexec htr (own := own) (cls := cls) (names := names) (ic := ic) hown' hcls hnames h (fun x hx => nomatch hx) hfX hkX hcellA (by rw [hhp, hT]; exact Nat.le_refl _) (msg := .ref sa) rfl
    (g := { method := m, pc := pc + 7, locals := ls, stack := .ref sa :: .ref T.heap.size :: .ref T.heap.size :: rest, locked := none }) rfl hsize rfl rfl (rest := rest) rfl
    (by rw [hb]; exact d7) (by rw [hb]; exact d10) hout hRframes (by simp only [List.map_cons, List.sum_cons, hcat]; omega) hlocks
  obtain ⟨f1, f2⟩ := vx_frame hsame
  rw [hhp] at f1 f2
  have hWs : s.WarmedH U.vm := State.WarmedH.trans hW0 hW
  have hcl : s.vm.findClass cls = some ce.cls := by
    have h9 := hO.cls
    rw [hvm] at h9
    exact h9
  have hall : s.sameButNew ({ U with vm := s.vm } : State) locs mc ms := by
    subst hA
    obtain ⟨e1, e2⟩ := hsame
    rw [State.setFrames_setFrames] at e1
    have h2 : (T.setVm s.vm).sameButNew ({ U with vm := s.vm } : State) [] (0 + 1) (0 + 6) := ⟨e1, e2⟩
    have h3 := X.same.trans h2
    rw [List.append_nil] at h3
    exact h3.mono hc hs
  refine ⟨U, ?_, .threw T.heap.size, hrun, hend, Or.inr ⟨T.heap.size, rfl, cls, ce, locs, hx U hWs.alike f1 (fun q hq => f2 q hq (fun z hz => nomatch hz)), hce, hO.vm, hcl, hWs, hall, hf⟩⟩
  refine st1 _ ?_
  show Steps p.tables e below (T1.setTop { method := m, pc := pc + 3, locals := ls, stack := .ref T.heap.size :: rest, locked := none }) _
  jvm_step X₁.here [X₁.here.top, hexec, d3', Value.category]
  exact X₁.ldcStringW hexec (own := own) (text := text) (index := is) (a := sa) hown' hstr'.1 hstr'.2
    (g := { method := m, pc := pc + 4, locals := ls, stack := .ref T.heap.size :: .ref T.heap.size :: rest, locked := none }) rfl d4' _ hsteps
end Ends
section Bodies
variable {l : Launch}
theorem vx_ofW {y : MethodName} {ws ws' : List Cond} {rm : Room} {Pc : Array Value → State → Prop} {Qc : Array Value → State → Outcome → State → Prop} {XC : String → State → State → Prop} {mc ms : Nat} {free : Addr → Prop} {cc : ByteArray} {maxL : Nat} {ret : Option FieldType}
    (hy : plainName y.cls = true) (hw : ws = Cond.code y cc maxL ret :: ws')
    (body : ∀ p e s m args below meth c s₁, BodyLoose p l y (headSpec ws rm) cc maxL ret e s m args below meth c s₁ → c.maxLocals = maxL → (∀ x ∈ c.exceptionTable.toList, False) → Pc args s →
      W p l e (headSpec ws rm).room s m args below meth c s.heap [] 0 0 (vx_MQ below Qc XC args s mc ms free) (entryFrame m args maxL)) : vx_Met l y ws rm Pc Qc XC mc ms free := by
  refine MetFree.of_bodyS (code := cc) (maxLocals := maxL) (ret := ret) hy ?_ ?_
  · intro args s m h hn
    obtain ⟨meth, c, h1, h2, h3, h4, h5, h6, -, -⟩ := Cond.code_spec hn (atoms_spec (ws := ws) h _ (by rw [hw]; exact List.mem_cons_self))
    exact ⟨meth, c, h1, h2, h3, h4, h5, h6⟩
  · intro p e s m args below meth c s₁ B hml hP _
    have hh0 : s₁.heap = s.heap := by rw [B.state]; rfl
    have ht : ∀ x ∈ c.exceptionTable.toList, False := by
      obtain ⟨meth9, c9, h1, h2, -, -, -, -, h7, -⟩ := Cond.code_spec B.named (atoms_spec (ws := ws) B.pre _ (by rw [hw]; exact List.mem_cons_self))
      cases Option.some.inj (h1.symm.trans B.method)
      cases Option.some.inj (h2.symm.trans (Stand.of_body B).code)
      intro x hx
      rw [Array.isEmpty_iff.mp h7] at hx
      cases hx
    obtain ⟨t, a1, o, b1, b2, b3⟩ := body p e s m args below meth c s₁ B hml ht hP s₁ hh0 (Stand.of_body B)
    exact ⟨t, o, a1, b1, b2, b3⟩
/-- the table of a body with handlers -/
theorem vx_table {p : Program} {x y : MethodName} {S : Spec} {cc bytes : ByteArray} {maxL maxL' : Nat} {ret ret' : Option FieldType} {e : Env} {s s₁ : State} {m : MethodId} {args : Array Value} {below : List Frame} {meth : Method} {c : Code} {hh : List (Nat × Nat × Nat × Nat)}
    (B : BodyLoose p l y S cc maxL ret e s m args below meth c s₁) (h : (Cond.codeWith y bytes maxL' ret' hh).before args s = true) : c.exceptionTable.toList = tableOf hh := by
  obtain ⟨m9, meth9, c9, hn9, h1, h2, -, -, h6, -⟩ := Cond.codeWith_spec h
  cases Option.some.inj (hn9.symm.trans B.named)
  cases Option.some.inj (h1.symm.trans B.method)
  cases Option.some.inj (h2.symm.trans (Stand.of_body B).code)
  rw [← h6, table_eq]
end Bodies
end VXA
/-! ===== END ===== -/
/-! ===== BEGIN a static call of a method with an exception table ===== -/
section VXS
variable {p : Program} {l : Launch} {e : Env} {R : Room} {s : State} {m : MethodId} {args : Array Value} {below : List Frame} {meth : Method} {c : Code} {T : State} {H : Heap} {locs : List Loc} {cells slots : Nat}
abbrev vx_CSW (R : Room) (s : State) (args : Array Value) (own : String) (index : Nat) (y : MethodName) (bytes : ByteArray) (maxL : Nat) (ret : Option FieldType) (hh : List (Nat × Nat × Nat × Nat)) (ws : List Cond) (rm : Room) (mc ms n : Nat) : Prop :=
  (rm.cells = mc ∧ rm.slots = ms ∧ rm.frames + 1 ≤ R.frames ∧ 8 + (maxL + 11) + rm.locals ≤ R.locals ∧ (∀ w ∈ ws, ∀ (a' : Array Value) (U : State), s.WarmedH U.vm → w.before a' U = true) ∧ Cond.codeWith y bytes maxL ret hh ∈ ws) ∧
  (Cond.codeWith y bytes maxL ret hh).before args s = true ∧ (Cond.initialized y.cls).before args s = true ∧ (y.cls ≠ "java/lang/invoke/MethodHandle" ∧ y.cls ≠ "java/lang/invoke/VarHandle") ∧
  (∀ sig, parseMethodDescriptor y.desc = some sig → n = sig.parameters.length) ∧ (Cond.methodLink own index y).before args s = true ∧ (Cond.static y).before args s = true
theorem vx_cwSW {own : String} {index maxL mc ms : Nat} {y : MethodName} {bytes : ByteArray} {ret : Option FieldType} {hh : List (Nat × Nat × Nat × Nat)} {Ts ws ws' : List Cond} {rm : Room} (n : Nat) (ht : ∀ w ∈ Ts, w.before args s = true) (hT : GoodIn Ts (va_wsS own index y ws)) (hw : ws = Cond.codeWith y bytes maxL ret hh :: ws') (hrc : rm.cells = mc) (hrs : rm.slots = ms)
    (hd : y.cls ≠ "java/lang/invoke/MethodHandle" ∧ y.cls ≠ "java/lang/invoke/VarHandle" ∧ (parseMethodDescriptor y.desc).map (fun d => d.parameters.length) = some n) (hR : rm.frames + 1 ≤ R.frames ∧ 8 + (maxL + 11) + rm.locals ≤ R.locals) :
    vx_CSW R s args own index y bytes maxL ret hh ws rm mc ms n := by
  have ok : ∀ w ∈ va_wsS own index y ws, w.before args s = true := fun w h => ht w (hT w h).1
  have hG : GoodIn Ts ws := fun w h => hT w (by unfold va_wsS; exact List.mem_append_right _ h)
  have hc : Cond.codeWith y bytes maxL ret hh ∈ ws := by rw [hw]; exact List.mem_cons_self
  refine ⟨⟨hrc, hrs, hR.1, hR.2, pay_in ht hG, hc⟩, ht _ (hG _ hc).1, ok _ (by simp [va_wsS]), ⟨hd.1, hd.2.1⟩, fun sig h => ?_, ok _ (by simp [va_wsS]), ok _ (by simp [va_wsS])⟩
  have h2 := hd.2.2
  rw [h] at h2
  exact (Option.some.inj h2).symm
theorem vx_callSW (X : Stand p l e R s m args below meth c T locs cells slots) (hexec : p.tables.exec = Jvm.exec) {own : String} {index : Nat} {y : MethodName} {bytes : ByteArray} {maxL : Nat} {ret : Option FieldType} {hh : List (Nat × Nat × Nat × Nat)}
    (hown : s.vm.findClass own = some m.cls) (hlink : (Cond.methodLink own index y).before args s = true) (hstat : (Cond.static y).before args s = true) (hinit : (Cond.initialized y.cls).before args s = true)
    (hcode : (Cond.codeWith y bytes maxL ret hh).before args s = true) (hy : y.cls ≠ "java/lang/invoke/MethodHandle" ∧ y.cls ≠ "java/lang/invoke/VarHandle")
    {W9 : Nat} {Pre : Pt → Array Value → Prop} {Post : Pt → Array Value → Option Value → Pt → Prop} (hK : Back l R p e below s args y 3 W9 Pre Post)
    {g : JFrame} (hg : g.method = m) (hsize : g.locals.size = c.maxLocals) {argsL rest : List Value} (hlen : ∀ sig, parseMethodDescriptor y.desc = some sig → argsL.length = sig.parameters.length)
    (hstack : g.stack = argsL.reverse ++ rest) (hW : 2 * g.monitorRoom + (rest.map fun v => v.category).sum ≤ W9) (hdg : decode c.code g.pc = .ok (.invokestatic index, 3))
    (hpre : ∀ vm₁, s.WarmedH vm₁ → Pre ⟨T.setVm vm₁, locs, cells, slots⟩ argsL.toArray) :
    ∃ (v : Option Value) (vm₁ : Vm) (B : Pt), s.WarmedH vm₁ ∧ Stand p l e R s m args below meth c B.U B.locs B.cells B.slots ∧ Post ⟨T.setVm vm₁, locs, cells, slots⟩ argsL.toArray v B ∧
      ∀ target, Steps p.tables e below (B.U.setTop { g with pc := g.pc + 3, stack := v.toList ++ rest }) target → Steps p.tables e below (T.setTop g) target := by
  obtain ⟨mk, methM, cM, hnamed, hmethM, -, -, -, -, -, -, hsigM⟩ := Cond.codeWith_spec hcode
  have hstatic : methM.isStatic = true := Cond.static_spec hnamed hmethM hstat
  obtain ⟨kP, hkP, -⟩ := className_of_methodNamed hnamed
  have hinitP : kP.init = .initialized := Cond.initialized_spec (findClass_of_methodNamed hnamed) hkP hinit
  obtain ⟨vm₁, X₁, hstep₁⟩ := X.invokestatic hexec hown hlink hnamed hmethM hstatic hkP hinitP hy (g := g) hg (argsL := argsL) (rest := rest) (hlen _ hsigM) hstack hdg
  obtain ⟨v, B, X', hpost, hsteps⟩ := hK m meth c ⟨T.setVm vm₁, locs, cells, slots⟩ { g with stack := rest } (.invokestatic index) mk argsL.toArray X₁ hg hsize hdg hW (X₁.named hnamed) (hpre vm₁ X₁.warmed)
  exact ⟨v, vm₁, B, X₁.warmed, X', hpost, fun target h => hstep₁ _ fun acts => by rw [doInvoke_state]; exact hsteps.trans h⟩
theorem vx_runSW {y : MethodName} {bytes cc : ByteArray} {maxL nL mc ms n index : Nat} {ret : Option FieldType} {hh : List (Nat × Nat × Nat × Nat)} {ws : List Cond} {rm : Room} {Pc : Array Value → State → Prop} {Qc : Array Value → State → Outcome → State → Prop} {free : Addr → Prop} {Ts : List Cond} {own : String} {As rest : List Value} {g : JFrame}
    (S : CallFix p m c cc nL s args Ts own) (hM : Met l y ws rm Pc Qc mc ms free) (cw : vx_CSW R s args own index y bytes maxL ret hh ws rm mc ms n) (hp : PreS s H Pc As)
    (hg : g.method = m) (hn : As.length = n) (hsize : g.locals.size = nL) (hstack : g.stack = As.reverse ++ rest) (hW : 2 * g.monitorRoom + (rest.map fun v => v.category).sum ≤ 8) (hdg : decode cc g.pc = .ok (.invokestatic index, 3)) (hf : cells + mc ≤ R.cells ∧ slots + ms ≤ R.slots) :
    va_Run p l e R s m args below meth c H locs cells slots mc ms g rest (Qc As.toArray) (free) := by
  obtain ⟨⟨hrc, hrs, hfr, hlo, hws, hcw⟩, hcode, hini, hy, hlen, hl, hstt⟩ := cw
  have hK : Back l R p e below s args y 3 8 (PreOf R mc ms Pc) (PostOf Qc mc ms free) := va_backW (hh := hh) (bytes := bytes) (maxL := maxL) (ret := ret) hM hp.1 hrc hrs hfr hlo hws hcw (fun a' U hW => word_at hW (Or.inl (by first | rfl | simp [Cond.onTables, Cond.keeps, Cond.steady])) hini)
  obtain ⟨hx, hb, hml, ho, -⟩ := S
  intro T hT X
  obtain ⟨v, vm₁, ⟨U', l2, c2, s2⟩, hW₁, X', ⟨g', mk, t, L, e1, e2, hq, h1, hL, h2, h3⟩, st⟩ := vx_callSW X hx (hh := hh) (bytes := bytes) (maxL := maxL) (ret := ret) ho hl hstt hini hcode hy hK hg (hsize.trans hml.symm) (argsL := As) (rest := rest) (fun sig h => hn.trans (hlen sig h)) hstack hW (by rw [hb]; exact hdg)
    (fun vm₁ hW₁ => ⟨hf.1, hf.2, hp.2 (T.setVm vm₁) hT hW₁⟩)
  dsimp only [Pt.U, Pt.locs, Pt.cells, Pt.slots] at X' e1 e2 h1 h2 h3 st
  subst h1; subst h2; subst h3
  exact ⟨v, (T.setVm vm₁).calling g' mk As.toArray, t, U', L, hT, X', hL, e1, e2, hq, st⟩
/-- not caught here, past rows that name other classes: it goes on to the caller -/
theorem vx_outP {p : Program} {l : Launch} {e : Env} {R : Room} {s : State} {m : MethodId} {args : Array Value} {below : List Frame} {meth : Method} {c : Code} {H : Heap} {locs : List Loc} {cells slots : Nat} {free : Addr → Prop} {ls : Array Slot} {rest : List Value} {Qc : Array Value → State → Outcome → State → Prop} {XC : String → State → State → Prop}
    {pc : Nat} {own E : String} {ce : Cell} {q : Addr} {mc ms : Nat} (hown : s.vm.findClass own = some m.cls) (hlocks : meth.locks = false)
    (hpass : ∀ z ∈ c.exceptionTable.toList, covers z pc = false ∨ (z.catchType ≠ 0 ∧ ∃ nm : String, (Cond.classLink own z.catchType nm).before args s = true ∧ va_Nc E nm s)) (hcell : H[q]? = some ce) (hv : ce.vm = .none) (hcl : s.vm.findClass E = some ce.cls)
    (hx : ∀ t : State, t.heap = H → s.vm.Alike t.vm → XC E s t) (hf : ∀ z ∈ locs, free z.base) (hc : cells ≤ mc) (hs : slots ≤ ms) :
    vx_W p l e R s m args below meth c H locs cells slots (vx_MQ below Qc XC args s mc ms free) (F0 m pc ls rest) q := by
  intro T hT X
  have hpl : e.platform.magicAccessors = ({} : Platform).magicAccessors := by rw [X.admits.platform]
  obtain ⟨vm', hW', X', st⟩ := X.outThrough hlocks q (g := F0 m pc ls rest) rfl rfl rfl (cell := ce) (by rw [hT]; exact hcell) (by rw [hv]; rfl)
    (by obtain ⟨k9, h9, -⟩ := Vm.findClass_spec hcl; exact ⟨k9, h9⟩) (fun z hz => by
      rcases hpass z hz with h | ⟨hz0, nm, hl1, hn1⟩
      · exact Or.inl h
      · obtain ⟨c6, hc6, hcl6⟩ := Cond.classLink_spec hown hl1 e.platform hpl
        obtain ⟨a8, b8, h1, h2, h3⟩ := hn1
        cases Option.some.inj (h1.symm.trans hcl)
        cases Option.some.inj (h2.symm.trans hc6)
        exact Or.inr ⟨hz0, _, hcl6, h3⟩)
  obtain ⟨g₀, hfr⟩ := X'.frames_eq
  have hcell9 : ((T.setVm vm').setFrames (.throwing q :: below)).heap[q]? = some ce := by
    show T.heap[q]? = some ce
    rw [hT]; exact hcell
  have hend : Ended ((T.setVm vm').setFrames (.throwing q :: below)) below (.threw q) := State.frames_setFrames _ (State.cur_lt_of_frames hfr)
  refine ⟨(T.setVm vm').setFrames (.throwing q :: below), ?_, .threw q, X'.here.running, hend, Or.inr ⟨q, rfl, E, ce, locs, hx _ hT (X'.ends _).1.alike, hcell9, hv, hcl, (X'.ends _).1, (X'.ends _).2.mono hc hs, hf⟩⟩
  rw [X.pushThrowing_eq]
  exact st
/-- a thing of a world lies in the heap -/
theorem vx_lt {D : va_G} {cl : List vw_C} {ws : va_W} {H1 : Heap} (h : va_P D cl ws H1) {k : Nat} {q : Nat × va_E} (hk : ws[k]? = some q) : q.1 < H1.size := (h k q hk).lt
end VXS
/-! ===== END ===== -/
/-! ===== BEGIN methods with a table of their own: called by a name, returning or throwing ===== -/
section VXH
/-! vx_backW, vx_callVX, vx_callSX, vx_callVW, vx_runVW, vx_runVX, vx_runSX, vx_ofWH follow the same proofs as their sisters above (Free/Laws.lean, Shelf42/LK1.lean); vx_outP calls Shelf42/NT130.lean (outThrough). -/
section
variable {l : Launch} {R : Room} {p : Program} {e : Env} {below : List Frame} {s : State} {sargs : Array Value} {y : MethodName} {len W9 : Nat}
theorem vx_backW {ws : List Cond} {rm : Room} {Pc : Array Value → State → Prop} {Qc : Array Value → State → Outcome → State → Prop} {XC : String → State → State → Prop} {mc ms : Nat} {free : Addr → Prop} {bytes : ByteArray} {maxL : Nat} {ret : Option FieldType} {hh : List (Nat × Nat × Nat × Nat)}
    (hM : vx_Met l y ws rm Pc Qc XC mc ms free) (hblind : FrameBlind Pc) (hrc : rm.cells = mc) (hrs : rm.slots = ms)
    (hframes : rm.frames + 1 ≤ R.frames) (hlocals : W9 + (maxL + 11) + rm.locals ≤ R.locals)
    (hws : ∀ w ∈ ws, ∀ a' U, s.WarmedH U.vm → w.before a' U = true) (hcode : Cond.codeWith y bytes maxL ret hh ∈ ws) (hinit : ∀ a' U, s.WarmedH U.vm → (Cond.initialized y.cls).before a' U = true) :
    vx_Back l R p e below s sargs y len W9 (PreOf R mc ms Pc) (PostOf Qc mc ms free) (vx_Post XC mc ms free) := by
  intro m meth c A g ig mk a X hg hsize hdg hW hn hp
  have h1 : (headSpec ws rm).pre.before a A.U = true := atoms_intro fun w hw => hws w hw _ _ X.warmed
  have h2 : (Cond.codeWith y bytes maxL ret hh).before a A.U = true := hws _ hcode _ _ X.warmed
  have h3 : (Cond.initialized y.cls).before a A.U = true := hinit _ _ X.warmed
  have h4 : A.cells + (headSpec ws rm).room.cells ≤ R.cells := by rw [show (headSpec ws rm).room.cells = mc from hrc]; exact hp.1
  have h5 : A.slots + (headSpec ws rm).room.slots ≤ R.slots := by rw [show (headSpec ws rm).room.slots = ms from hrs]; exact hp.2.1
  have hPc : Pc a (A.U.calling g mk a) := hblind _ _ _ _ hp.2.2
  obtain ⟨U, Ls, c0, s0⟩ := A
  dsimp only [Pt.U, Pt.locs, Pt.cells, Pt.slots] at h1 h2 h3 h4 h5 X hn hPc ⊢
  obtain ⟨m9, methY, cY, hn9, hmY, hcY, -, hlY, -⟩ := Cond.codeWith_spec h2
  cases Option.some.inj (hn9.symm.trans hn)
  obtain ⟨kY, hkY, -⟩ := className_of_methodNamed hn
  have hinitY : kY.init = .initialized := Cond.initialized_spec (findClass_of_methodNamed hn) hkY h3
  have h : At U g.method c below := by rw [hg]; exact X.here
  have hlocals9 : W9 + (maxL + 11) + (headSpec ws rm).room.locals ≤ R.locals := hlocals
  have happ : (headSpec ws rm).appliesLoose y e.platform (U.calling g mk a) = true :=
    Spec.appliesLoose_calling (g := g) h hdg hn hkY hinitY
      (X.room_calling (g := g) (R' := (headSpec ws rm).room) hsize hmY hcY hframes (by rw [hlY]; omega) h4 h5) h1
  obtain ⟨mid, hmid⟩ := h.above
  have hfr : (U.setTop g).frames = (.java g :: mid) ++ below := by rw [State.frames_setTop' g h.top, hmid]; rfl
  obtain ⟨o, s₂, hsteps, -, hend, hq⟩ := Steps.callFree hM p X.admits X.cas X.clock (acts := []) hfr happ hPc trivial
  have hq' : vx_Q Qc XC mc ms free a (U.calling g mk a) o s₂ := hq
  rw [State.frames_setTop' g h.top] at hend
  obtain ⟨g₀, hg0⟩ := Option.isSome_iff_exists.mp h.top
  obtain ⟨r, hr⟩ := State.topJava?_eq_some.mp hg0
  have hr' : (({ U with heap := s₂.heap, slotsUsed := s₂.slotsUsed } : State).setVm s₂.vm).frames = .java g₀ :: r := hr
  rcases hq' with ⟨hqc, L, hfe, hL⟩ | ⟨q, rfl, E, ce, L, hx, hce, hcv, hcl, hW₂, hsm, hL⟩
  · obtain ⟨⟨v, rfl⟩, hW₂, e2, q2, q3, q4, q5, q6⟩ := id hfe
    have e3 : s₂ = ({ (U.calling g mk a).setFrames s₂.frames with heap := s₂.heap, slotsUsed := s₂.slotsUsed } : State).setVm s₂.vm := by
      have : s₂ = ({ s₂ with vm := (U.calling g mk a).vm } : State).setVm s₂.vm := rfl
      rw [e2] at this
      exact this
    obtain ⟨c₂, i₂, len₂, hc₂, hd₂, hf₂⟩ := hend
    have hW' : U.WarmedH s₂.vm := hW₂
    have hcc : c₂ = c := by
      have h1 : s₂.code? g.method = U.code? g.method := by
        rw [State.code?_eq, State.code?_eq, hW'.alike.method?]
      exact Option.some.inj (hc₂.symm.trans (h1.trans h.code))
    subst hcc
    have hlen : len₂ = len := by rw [hdg] at hd₂; cases hd₂; rfl
    subst hlen
    have hs₂ : s₂ = (({ U with heap := s₂.heap, slotsUsed := s₂.slotsUsed } : State).setVm s₂.vm).setTop { g with pc := g.pc + len₂, stack := v.toList ++ g.stack } := by
      refine e3.trans ?_
      rw [hf₂, State.calling_eq h.top, State.setFrames_setFrames, State.setTop_of_frames _ hr', hr]
      rfl
    have hsame : U.sameButNew ({ U with heap := s₂.heap, slotsUsed := s₂.slotsUsed } : State) L mc ms := by
      refine ⟨?_, q2, q3, q4, q5, q6⟩
      obtain ⟨t, ht, -⟩ := State.frames_cons hr
      show ({ U with heap := s₂.heap, slotsUsed := s₂.slotsUsed } : State) = { U.setFrames U.frames with heap := s₂.heap, slotsUsed := s₂.slotsUsed }
      rw [State.setFrames_self ht]
    subst hg
    refine Or.inl ⟨v, ⟨(({ U with heap := s₂.heap, slotsUsed := s₂.slotsUsed } : State).setVm s₂.vm), Ls ++ L, c0 + mc, s0 + ms⟩,
      ⟨X.admits, X.cas, X.clock, X.frames, X.room, X.hears, X.method, X.code, (X.here.setHeapUsed s₂.heap s₂.slotsUsed).setVm hW'.alike, X.tail, State.WarmedH.trans X.warmed hW', X.limits, X.bytes, X.same.trans (hsame.setVm s.vm)⟩,
      ⟨g, mk, s₂, L, rfl, rfl, hqc, rfl, hL, rfl, rfl⟩, ?_⟩
    show Steps p.tables e below _ ((({ U with heap := s₂.heap, slotsUsed := s₂.slotsUsed } : State).setVm s₂.vm).setTop { g with pc := g.pc + len₂, stack := v.toList ++ g.stack })
    rw [← hs₂]
    exact hsteps
  · obtain ⟨e2, q2, q3, q4, q5, q6⟩ := id hsm
    have e3 : s₂ = ({ (U.calling g mk a).setFrames s₂.frames with heap := s₂.heap, slotsUsed := s₂.slotsUsed } : State).setVm s₂.vm := by
      have : s₂ = ({ s₂ with vm := (U.calling g mk a).vm } : State).setVm s₂.vm := rfl
      rw [e2] at this
      exact this
    have hf₂ : s₂.frames = .throwing q :: .java g :: U.frames.tail := hend
    have hW' : U.WarmedH s₂.vm := hW₂
    have hs₂ : s₂ = ((({ U with heap := s₂.heap, slotsUsed := s₂.slotsUsed } : State).setVm s₂.vm).setTop g).pushFrame (.throwing q) := by
      refine e3.trans ?_
      rw [hf₂, State.calling_eq h.top, State.setFrames_setFrames, State.pushFrame, State.frames_setTop _ hr', State.setTop_of_frames _ hr', State.setFrames_setFrames, hr]
      rfl
    have hsame : U.sameButNew ({ U with heap := s₂.heap, slotsUsed := s₂.slotsUsed } : State) L mc ms := by
      refine ⟨?_, q2, q3, q4, q5, q6⟩
      obtain ⟨t, ht, -⟩ := State.frames_cons hr
      show ({ U with heap := s₂.heap, slotsUsed := s₂.slotsUsed } : State) = { U.setFrames U.frames with heap := s₂.heap, slotsUsed := s₂.slotsUsed }
      rw [State.setFrames_self ht]
    subst hg
    refine Or.inr ⟨q, ⟨(({ U with heap := s₂.heap, slotsUsed := s₂.slotsUsed } : State).setVm s₂.vm), Ls ++ L, c0 + mc, s0 + ms⟩,
      ⟨X.admits, X.cas, X.clock, X.frames, X.room, X.hears, X.method, X.code, (X.here.setHeapUsed s₂.heap s₂.slotsUsed).setVm hW'.alike, X.tail, State.WarmedH.trans X.warmed hW', X.limits, X.bytes, X.same.trans (hsame.setVm s.vm)⟩,
      ⟨g, mk, s₂, L, E, ce, rfl, rfl, hx, hce, hcv, hcl, rfl, hL, rfl, rfl⟩, ?_⟩
    show Steps p.tables e below _ (((({ U with heap := s₂.heap, slotsUsed := s₂.slotsUsed } : State).setVm s₂.vm).setTop g).pushFrame (.throwing q))
    rw [← hs₂]
    exact hsteps
end
variable {p : Program} {l : Launch} {e : Env} {R : Room} {s : State} {m : MethodId} {args : Array Value} {below : List Frame} {meth : Method} {c : Code} {T : State} {H : Heap} {locs : List Loc} {cells slots : Nat}
theorem vx_callVX (X : Stand p l e R s m args below meth c T locs cells slots) (hexec : p.tables.exec = Jvm.exec) {own C : String} {index : Nat} {y : MethodName} {bytes : ByteArray} {maxL : Nat} {ret : Option FieldType} {hh : List (Nat × Nat × Nat × Nat)}
    (hown : s.vm.findClass own = some m.cls) (hlink : (Cond.methodLink own index y).before args s = true) (hinst : (Cond.instanceMethod y).before args s = true) (hsel : (Cond.selects C y y).before args s = true)
    (hcode : (Cond.codeWith y bytes maxL ret hh).before args s = true) (hy : y.cls ≠ "java/lang/invoke/MethodHandle" ∧ y.cls ≠ "java/lang/invoke/VarHandle")
    {W9 : Nat} {Pre : Pt → Array Value → Prop} {Post : Pt → Array Value → Option Value → Pt → Prop} {PostX : Pt → Array Value → Addr → Pt → Prop} (hK : vx_Back l R p e below s args y 3 W9 Pre Post PostX)
    {b : Addr} {cellB : Cell} (hcell : T.heap[b]? = some cellB) (hobj : cellB.vm.isStatics = false) (hcls : s.vm.findClass C = some cellB.cls)
    {g : JFrame} (hg : g.method = m) (hsize : g.locals.size = c.maxLocals) {argsL rest : List Value} (hlen : ∀ sig, parseMethodDescriptor y.desc = some sig → argsL.length = sig.parameters.length)
    (hstack : g.stack = argsL.reverse ++ .ref b :: rest) (hW : 2 * g.monitorRoom + (rest.map fun v => v.category).sum ≤ W9) (hdg : decode c.code g.pc = .ok (.invokevirtual index, 3))
    (hpre : ∀ vm₁, s.WarmedH vm₁ → Pre ⟨T.setVm vm₁, locs, cells, slots⟩ (Value.ref b :: argsL).toArray) :
    (∃ (v : Option Value) (vm₁ : Vm) (B : Pt), s.WarmedH vm₁ ∧ Stand p l e R s m args below meth c B.U B.locs B.cells B.slots ∧ Post ⟨T.setVm vm₁, locs, cells, slots⟩ (Value.ref b :: argsL).toArray v B ∧
      ∀ target, Steps p.tables e below (B.U.setTop { g with pc := g.pc + 3, stack := v.toList ++ rest }) target → Steps p.tables e below (T.setTop g) target) ∨
    (∃ (q : Addr) (vm₁ : Vm) (B : Pt), s.WarmedH vm₁ ∧ Stand p l e R s m args below meth c B.U B.locs B.cells B.slots ∧ PostX ⟨T.setVm vm₁, locs, cells, slots⟩ (Value.ref b :: argsL).toArray q B ∧
      Steps p.tables e below (T.setTop g) ((B.U.setTop { g with stack := rest }).pushFrame (.throwing q))) := by
  obtain ⟨mk, methM, hnamed, hmethM, hstM, habM⟩ := Cond.instanceMethod_spec hinst
  obtain ⟨m8, methM', cM, hn8, hmethM', -, -, -, -, -, -, hsigM⟩ := Cond.codeWith_spec hcode
  cases Option.some.inj (hn8.symm.trans hnamed)
  cases hmethM.symm.trans hmethM'
  obtain ⟨c2, r2, m2, q1, q2, q3, q4, kP, hkP, hkPi⟩ := Cond.selects_spec hsel
  cases hcls.symm.trans q1
  cases (State.methodFound?_of_named hnamed hy).symm.trans q2
  cases hnamed.symm.trans q3
  have hselP : selectMethod e.platform s.vm cellB.cls mk = .method mk := by rw [Launch.admits_selectMethod X.admits]; exact q4
  obtain ⟨vm₁, X₁, hstep₁⟩ := X.invokevirtual hexec hown hlink hnamed hmethM hstM hkP hkPi hy (a := b) (cell := cellB) hcell
    (fun z h => by rw [h] at hobj; cases hobj) hselP hmethM habM hkP hkPi (g := g) hg (argsL := argsL) (rest := rest) (hlen _ hsigM) hstack hdg
  rcases hK m meth c ⟨T.setVm vm₁, locs, cells, slots⟩ { g with stack := rest } (.invokevirtual index) mk (Value.ref b :: argsL).toArray X₁ hg hsize hdg hW (X₁.named hnamed) (hpre vm₁ X₁.warmed) with ⟨v, B, X', hpost, hsteps⟩ | ⟨q, B, X', hpost, hsteps⟩
  · exact Or.inl ⟨v, vm₁, B, X₁.warmed, X', hpost, fun target h => hstep₁ _ fun acts => by rw [doInvoke_state]; exact hsteps.trans h⟩
  · exact Or.inr ⟨q, vm₁, B, X₁.warmed, X', hpost, hstep₁ _ fun acts => by rw [doInvoke_state]; exact hsteps⟩
theorem vx_callSX (X : Stand p l e R s m args below meth c T locs cells slots) (hexec : p.tables.exec = Jvm.exec) {own : String} {index : Nat} {y : MethodName} {bytes : ByteArray} {maxL : Nat} {ret : Option FieldType} {hh : List (Nat × Nat × Nat × Nat)}
    (hown : s.vm.findClass own = some m.cls) (hlink : (Cond.methodLink own index y).before args s = true) (hstat : (Cond.static y).before args s = true) (hinit : (Cond.initialized y.cls).before args s = true)
    (hcode : (Cond.codeWith y bytes maxL ret hh).before args s = true) (hy : y.cls ≠ "java/lang/invoke/MethodHandle" ∧ y.cls ≠ "java/lang/invoke/VarHandle")
    {W9 : Nat} {Pre : Pt → Array Value → Prop} {Post : Pt → Array Value → Option Value → Pt → Prop} {PostX : Pt → Array Value → Addr → Pt → Prop} (hK : vx_Back l R p e below s args y 3 W9 Pre Post PostX)
    {g : JFrame} (hg : g.method = m) (hsize : g.locals.size = c.maxLocals) {argsL rest : List Value} (hlen : ∀ sig, parseMethodDescriptor y.desc = some sig → argsL.length = sig.parameters.length)
    (hstack : g.stack = argsL.reverse ++ rest) (hW : 2 * g.monitorRoom + (rest.map fun v => v.category).sum ≤ W9) (hdg : decode c.code g.pc = .ok (.invokestatic index, 3))
    (hpre : ∀ vm₁, s.WarmedH vm₁ → Pre ⟨T.setVm vm₁, locs, cells, slots⟩ argsL.toArray) :
    (∃ (v : Option Value) (vm₁ : Vm) (B : Pt), s.WarmedH vm₁ ∧ Stand p l e R s m args below meth c B.U B.locs B.cells B.slots ∧ Post ⟨T.setVm vm₁, locs, cells, slots⟩ argsL.toArray v B ∧
      ∀ target, Steps p.tables e below (B.U.setTop { g with pc := g.pc + 3, stack := v.toList ++ rest }) target → Steps p.tables e below (T.setTop g) target) ∨
    (∃ (q : Addr) (vm₁ : Vm) (B : Pt), s.WarmedH vm₁ ∧ Stand p l e R s m args below meth c B.U B.locs B.cells B.slots ∧ PostX ⟨T.setVm vm₁, locs, cells, slots⟩ argsL.toArray q B ∧
      Steps p.tables e below (T.setTop g) ((B.U.setTop { g with stack := rest }).pushFrame (.throwing q))) := by
  obtain ⟨mk, methM, cM, hnamed, hmethM, -, -, -, -, -, -, hsigM⟩ := Cond.codeWith_spec hcode
  have hstatic : methM.isStatic = true := Cond.static_spec hnamed hmethM hstat
  obtain ⟨kP, hkP, -⟩ := className_of_methodNamed hnamed
  have hinitP : kP.init = .initialized := Cond.initialized_spec (findClass_of_methodNamed hnamed) hkP hinit
  obtain ⟨vm₁, X₁, hstep₁⟩ := X.invokestatic hexec hown hlink hnamed hmethM hstatic hkP hinitP hy (g := g) hg (argsL := argsL) (rest := rest) (hlen _ hsigM) hstack hdg
  rcases hK m meth c ⟨T.setVm vm₁, locs, cells, slots⟩ { g with stack := rest } (.invokestatic index) mk argsL.toArray X₁ hg hsize hdg hW (X₁.named hnamed) (hpre vm₁ X₁.warmed) with ⟨v, B, X', hpost, hsteps⟩ | ⟨q, B, X', hpost, hsteps⟩
  · exact Or.inl ⟨v, vm₁, B, X₁.warmed, X', hpost, fun target h => hstep₁ _ fun acts => by rw [doInvoke_state]; exact hsteps.trans h⟩
  · exact Or.inr ⟨q, vm₁, B, X₁.warmed, X', hpost, hstep₁ _ fun acts => by rw [doInvoke_state]; exact hsteps⟩
theorem vx_callVW (X : Stand p l e R s m args below meth c T locs cells slots) (hexec : p.tables.exec = Jvm.exec) {own C : String} {index : Nat} {y : MethodName} {bytes : ByteArray} {maxL : Nat} {ret : Option FieldType} {hh : List (Nat × Nat × Nat × Nat)}
    (hown : s.vm.findClass own = some m.cls) (hlink : (Cond.methodLink own index y).before args s = true) (hinst : (Cond.instanceMethod y).before args s = true) (hsel : (Cond.selects C y y).before args s = true)
    (hcode : (Cond.codeWith y bytes maxL ret hh).before args s = true) (hy : y.cls ≠ "java/lang/invoke/MethodHandle" ∧ y.cls ≠ "java/lang/invoke/VarHandle")
    {W9 : Nat} {Pre : Pt → Array Value → Prop} {Post : Pt → Array Value → Option Value → Pt → Prop} (hK : Back l R p e below s args y 3 W9 Pre Post)
    {b : Addr} {cellB : Cell} (hcell : T.heap[b]? = some cellB) (hobj : cellB.vm.isStatics = false) (hcls : s.vm.findClass C = some cellB.cls)
    {g : JFrame} (hg : g.method = m) (hsize : g.locals.size = c.maxLocals) {argsL rest : List Value} (hlen : ∀ sig, parseMethodDescriptor y.desc = some sig → argsL.length = sig.parameters.length)
    (hstack : g.stack = argsL.reverse ++ .ref b :: rest) (hW : 2 * g.monitorRoom + (rest.map fun v => v.category).sum ≤ W9) (hdg : decode c.code g.pc = .ok (.invokevirtual index, 3))
    (hpre : ∀ vm₁, s.WarmedH vm₁ → Pre ⟨T.setVm vm₁, locs, cells, slots⟩ (Value.ref b :: argsL).toArray) :
    ∃ (v : Option Value) (vm₁ : Vm) (B : Pt), s.WarmedH vm₁ ∧ Stand p l e R s m args below meth c B.U B.locs B.cells B.slots ∧ Post ⟨T.setVm vm₁, locs, cells, slots⟩ (Value.ref b :: argsL).toArray v B ∧
      ∀ target, Steps p.tables e below (B.U.setTop { g with pc := g.pc + 3, stack := v.toList ++ rest }) target → Steps p.tables e below (T.setTop g) target := by
  obtain ⟨mk, methM, hnamed, hmethM, hstM, habM⟩ := Cond.instanceMethod_spec hinst
  obtain ⟨m8, methM', cM, hn8, hmethM', -, -, -, -, -, -, hsigM⟩ := Cond.codeWith_spec hcode
  cases Option.some.inj (hn8.symm.trans hnamed)
  cases hmethM.symm.trans hmethM'
  obtain ⟨c2, r2, m2, q1, q2, q3, q4, kP, hkP, hkPi⟩ := Cond.selects_spec hsel
  cases hcls.symm.trans q1
  cases (State.methodFound?_of_named hnamed hy).symm.trans q2
  cases hnamed.symm.trans q3
  have hselP : selectMethod e.platform s.vm cellB.cls mk = .method mk := by rw [Launch.admits_selectMethod X.admits]; exact q4
  obtain ⟨vm₁, X₁, hstep₁⟩ := X.invokevirtual hexec hown hlink hnamed hmethM hstM hkP hkPi hy (a := b) (cell := cellB) hcell
    (fun z h => by rw [h] at hobj; cases hobj) hselP hmethM habM hkP hkPi (g := g) hg (argsL := argsL) (rest := rest) (hlen _ hsigM) hstack hdg
  obtain ⟨v, B, X', hpost, hsteps⟩ := hK m meth c ⟨T.setVm vm₁, locs, cells, slots⟩ { g with stack := rest } (.invokevirtual index) mk (Value.ref b :: argsL).toArray X₁ hg hsize hdg hW (X₁.named hnamed) (hpre vm₁ X₁.warmed)
  exact ⟨v, vm₁, B, X₁.warmed, X', hpost, fun target h => hstep₁ _ fun acts => by rw [doInvoke_state]; exact hsteps.trans h⟩
abbrev vx_CVW (R : Room) (s : State) (args : Array Value) (own C : String) (index : Nat) (y : MethodName) (bytes : ByteArray) (maxL : Nat) (ret : Option FieldType) (hh : List (Nat × Nat × Nat × Nat)) (ws : List Cond) (rm : Room) (mc ms n : Nat) : Prop :=
  (rm.cells = mc ∧ rm.slots = ms ∧ rm.frames + 1 ≤ R.frames ∧ 8 + (maxL + 11) + rm.locals ≤ R.locals ∧ (∀ w ∈ ws, ∀ (a' : Array Value) (U : State), s.WarmedH U.vm → w.before a' U = true) ∧ Cond.codeWith y bytes maxL ret hh ∈ ws) ∧
  (Cond.codeWith y bytes maxL ret hh).before args s = true ∧ (Cond.initialized y.cls).before args s = true ∧ (y.cls ≠ "java/lang/invoke/MethodHandle" ∧ y.cls ≠ "java/lang/invoke/VarHandle") ∧
  (∀ sig, parseMethodDescriptor y.desc = some sig → n = sig.parameters.length) ∧ (Cond.methodLink own index y).before args s = true ∧ (Cond.instanceMethod y).before args s = true ∧ (Cond.selects C y y).before args s = true
theorem vx_cwVW {own C : String} {index maxL mc ms : Nat} {y : MethodName} {bytes : ByteArray} {ret : Option FieldType} {hh : List (Nat × Nat × Nat × Nat)} {Ts ws ws' : List Cond} {rm : Room} (n : Nat) (ht : ∀ w ∈ Ts, w.before args s = true) (hT : GoodIn Ts (wsV own index C y ws)) (hw : ws = Cond.codeWith y bytes maxL ret hh :: ws') (hrc : rm.cells = mc) (hrs : rm.slots = ms)
    (hd : y.cls = C ∧ y.cls ≠ "java/lang/invoke/MethodHandle" ∧ y.cls ≠ "java/lang/invoke/VarHandle" ∧ (parseMethodDescriptor y.desc).map (fun d => d.parameters.length) = some n) (hR : rm.frames + 1 ≤ R.frames ∧ 8 + (maxL + 11) + rm.locals ≤ R.locals) :
    vx_CVW R s args own C index y bytes maxL ret hh ws rm mc ms n := by
  obtain ⟨hC, hd⟩ := hd
  subst hC
  have ok : ∀ w ∈ wsV own index y.cls y ws, w.before args s = true := fun w h => ht w (hT w h).1
  have hG : GoodIn Ts ws := fun w h => hT w (by unfold wsV; exact List.mem_append_right _ h)
  have hc : Cond.codeWith y bytes maxL ret hh ∈ ws := by rw [hw]; exact List.mem_cons_self
  refine ⟨⟨hrc, hrs, hR.1, hR.2, pay_in ht hG, hc⟩, ht _ (hG _ hc).1, ok _ (by simp [wsV]), ⟨hd.1, hd.2.1⟩, fun sig h => ?_, ok _ (by simp [wsV]), ok _ (by simp [wsV]), ok _ (by simp [wsV])⟩
  have h2 := hd.2.2
  rw [h] at h2
  exact (Option.some.inj h2).symm
theorem vx_runVW {y : MethodName} {bytes cc : ByteArray} {maxL nL mc ms n index : Nat} {ret : Option FieldType} {hh : List (Nat × Nat × Nat × Nat)} {ws : List Cond} {rm : Room} {Pc : Array Value → State → Prop} {Qc : Array Value → State → Outcome → State → Prop} {free : Addr → Prop} {Ts : List Cond} {own C : String} {b : Addr} {As rest : List Value} {g : JFrame}
    (S : CallFix p m c cc nL s args Ts own) (hM : Met l y ws rm Pc Qc mc ms free) (cw : vx_CVW R s args own C index y bytes maxL ret hh ws rm mc ms n) (hp : PreV s H C b Pc As)
    (hg : g.method = m) (hn : As.length = n) (hsize : g.locals.size = nL) (hstack : g.stack = As.reverse ++ .ref b :: rest) (hW : 2 * g.monitorRoom + (rest.map fun v => v.category).sum ≤ 8) (hdg : decode cc g.pc = .ok (.invokevirtual index, 3)) (hf : cells + mc ≤ R.cells ∧ slots + ms ≤ R.slots) :
    va_Run p l e R s m args below meth c H locs cells slots mc ms g rest (Qc (Value.ref b :: As).toArray) free := by
  obtain ⟨⟨hrc, hrs, hfr, hlo, hws, hcw⟩, hcode, hini, hy, hlen, hl, hin, hse⟩ := cw
  have hK : Back l R p e below s args y 3 8 (PreOf R mc ms Pc) (PostOf Qc mc ms free) := va_backW (hh := hh) (bytes := bytes) (maxL := maxL) (ret := ret) hM hp.1 hrc hrs hfr hlo hws hcw (fun a' U hW => word_at hW (Or.inl (by first | rfl | simp [Cond.onTables, Cond.keeps, Cond.steady])) hini)
  obtain ⟨hx, hb, hml, ho, -⟩ := S
  obtain ⟨-, ⟨cellB, hcB, hoB, hclB⟩, hPc⟩ := hp
  intro T hT X
  obtain ⟨v, vm₁, ⟨U', l2, c2, s2⟩, hW₁, X', ⟨g', mk, t, L, e1, e2, hq, h1, hL, h2, h3⟩, st⟩ := vx_callVW X hx (C := C) (hh := hh) (bytes := bytes) (maxL := maxL) (ret := ret) ho hl hin hse hcode hy hK (by rw [hT]; exact hcB) hoB hclB hg (hsize.trans hml.symm) (argsL := As) (rest := rest) (fun sig h => hn.trans (hlen sig h)) hstack hW (by rw [hb]; exact hdg)
    (fun vm₁ hW₁ => ⟨hf.1, hf.2, hPc (T.setVm vm₁) hT hW₁⟩)
  dsimp only [Pt.U, Pt.locs, Pt.cells, Pt.slots] at X' e1 e2 h1 h2 h3 st
  subst h1; subst h2; subst h3
  exact ⟨v, (T.setVm vm₁).calling g' mk (Value.ref b :: As).toArray, t, U', L, hT, X', hL, e1, e2, hq, st⟩
section
variable {y : MethodName} {bytes cc : ByteArray} {maxL nL mc ms n index : Nat} {ret : Option FieldType} {ws : List Cond} {rm : Room} {Pc : Array Value → State → Prop} {Qc : Array Value → State → Outcome → State → Prop} {XC : String → State → State → Prop} {free : Addr → Prop} {Ts : List Cond} {own C : String} {b : Addr} {As rest : List Value} {g : JFrame}
theorem vx_runVX {hh : List (Nat × Nat × Nat × Nat)} (S : CallFix p m c cc nL s args Ts own) (hM : vx_Met l y ws rm Pc Qc XC mc ms free) (cw : vx_CVW R s args own C index y bytes maxL ret hh ws rm mc ms n) (hp : PreV s H C b Pc As)
    (hg : g.method = m) (hn : As.length = n) (hsize : g.locals.size = nL) (hstack : g.stack = As.reverse ++ .ref b :: rest) (hW : 2 * g.monitorRoom + (rest.map fun v => v.category).sum ≤ 8) (hdg : decode cc g.pc = .ok (.invokevirtual index, 3)) (hf : cells + mc ≤ R.cells ∧ slots + ms ≤ R.slots) :
    vx_Run p l e R s m args below meth c H locs cells slots mc ms g rest (Qc (Value.ref b :: As).toArray) XC free := by
  obtain ⟨⟨hrc, hrs, hfr, hlo, hws, hcw⟩, hcode, hini, hy, hlen, hl, hin, hse⟩ := cw
  have hK : vx_Back l R p e below s args y 3 8 (PreOf R mc ms Pc) (PostOf Qc mc ms free) (vx_Post XC mc ms free) := vx_backW (hh := hh) (bytes := bytes) (maxL := maxL) (ret := ret) hM hp.1 hrc hrs hfr hlo hws hcw (fun a' U hW => word_at hW (Or.inl (by first | rfl | simp [Cond.onTables, Cond.keeps, Cond.steady])) hini)
  obtain ⟨hx, hb, hml, ho, -⟩ := S
  obtain ⟨-, ⟨cellB, hcB, hoB, hclB⟩, hPc⟩ := hp
  intro T hT X
  rcases vx_callVX X hx (C := C) (hh := hh) (bytes := bytes) (maxL := maxL) (ret := ret) ho hl hin hse hcode hy hK (by rw [hT]; exact hcB) hoB hclB hg (hsize.trans hml.symm) (argsL := As) (rest := rest) (fun sig h => hn.trans (hlen sig h)) hstack hW (by rw [hb]; exact hdg)
    (fun vm₁ hW₁ => ⟨hf.1, hf.2, hPc (T.setVm vm₁) hT hW₁⟩) with ⟨v, vm₁, ⟨U', l2, c2, s2⟩, hW₁, X', ⟨g', mk, t, L, e1, e2, hq, h1, hL, h2, h3⟩, st⟩ | ⟨q, vm₁, ⟨U', l2, c2, s2⟩, hW₁, X', ⟨g', mk, t, L, E, ce, e1, e2, hq, hce, hcv, hcl, h1, hL, h2, h3⟩, st⟩
  · dsimp only [Pt.U, Pt.locs, Pt.cells, Pt.slots] at X' e1 e2 h1 h2 h3 st
    subst h1; subst h2; subst h3
    exact Or.inl ⟨v, (T.setVm vm₁).calling g' mk (Value.ref b :: As).toArray, t, U', L, hT, X', hL, e1, e2, hq, st⟩
  · dsimp only [Pt.U, Pt.locs, Pt.cells, Pt.slots] at X' e1 e2 h1 h2 h3 st hcl
    subst h1; subst h2; subst h3
    exact Or.inr ⟨q, (T.setVm vm₁).calling g' mk (Value.ref b :: As).toArray, t, U', L, E, ce, hT, X', hL, e1, e2, hq, hce, hcv, vx_cls hW₁ hcl, st⟩
theorem vx_runSX {hh : List (Nat × Nat × Nat × Nat)} (S : CallFix p m c cc nL s args Ts own) (hM : vx_Met l y ws rm Pc Qc XC mc ms free) (cw : vx_CSW R s args own index y bytes maxL ret hh ws rm mc ms n) (hp : PreS s H Pc As)
    (hg : g.method = m) (hn : As.length = n) (hsize : g.locals.size = nL) (hstack : g.stack = As.reverse ++ rest) (hW : 2 * g.monitorRoom + (rest.map fun v => v.category).sum ≤ 8) (hdg : decode cc g.pc = .ok (.invokestatic index, 3)) (hf : cells + mc ≤ R.cells ∧ slots + ms ≤ R.slots) :
    vx_Run p l e R s m args below meth c H locs cells slots mc ms g rest (Qc As.toArray) XC free := by
  obtain ⟨⟨hrc, hrs, hfr, hlo, hws, hcw⟩, hcode, hini, hy, hlen, hl, hstt⟩ := cw
  have hK : vx_Back l R p e below s args y 3 8 (PreOf R mc ms Pc) (PostOf Qc mc ms free) (vx_Post XC mc ms free) := vx_backW (hh := hh) (bytes := bytes) (maxL := maxL) (ret := ret) hM hp.1 hrc hrs hfr hlo hws hcw (fun a' U hW => word_at hW (Or.inl (by first | rfl | simp [Cond.onTables, Cond.keeps, Cond.steady])) hini)
  obtain ⟨hx, hb, hml, ho, -⟩ := S
  intro T hT X
  rcases vx_callSX X hx (hh := hh) (bytes := bytes) (maxL := maxL) (ret := ret) ho hl hstt hini hcode hy hK hg (hsize.trans hml.symm) (argsL := As) (rest := rest) (fun sig h => hn.trans (hlen sig h)) hstack hW (by rw [hb]; exact hdg)
    (fun vm₁ hW₁ => ⟨hf.1, hf.2, hp.2 (T.setVm vm₁) hT hW₁⟩) with ⟨v, vm₁, ⟨U', l2, c2, s2⟩, hW₁, X', ⟨g', mk, t, L, e1, e2, hq, h1, hL, h2, h3⟩, st⟩ | ⟨q, vm₁, ⟨U', l2, c2, s2⟩, hW₁, X', ⟨g', mk, t, L, E, ce, e1, e2, hq, hce, hcv, hcl, h1, hL, h2, h3⟩, st⟩
  · dsimp only [Pt.U, Pt.locs, Pt.cells, Pt.slots] at X' e1 e2 h1 h2 h3 st
    subst h1; subst h2; subst h3
    exact Or.inl ⟨v, (T.setVm vm₁).calling g' mk As.toArray, t, U', L, hT, X', hL, e1, e2, hq, st⟩
  · dsimp only [Pt.U, Pt.locs, Pt.cells, Pt.slots] at X' e1 e2 h1 h2 h3 st hcl
    subst h1; subst h2; subst h3
    exact Or.inr ⟨q, (T.setVm vm₁).calling g' mk As.toArray, t, U', L, E, ce, hT, X', hL, e1, e2, hq, hce, hcv, vx_cls hW₁ hcl, st⟩
end
end VXH
theorem vx_ofWH {l : Launch} {y : MethodName} {ws ws' : List Cond} {rm : Room} {Pc : Array Value → State → Prop} {Qc : Array Value → State → Outcome → State → Prop} {XC : String → State → State → Prop} {mc ms : Nat} {free : Addr → Prop} {cc : ByteArray} {maxL : Nat} {ret : Option FieldType} {hh : List (Nat × Nat × Nat × Nat)}
    (hy : plainName y.cls = true) (hw : ws = Cond.codeWith y cc maxL ret hh :: ws')
    (body : ∀ p e s m args below meth c s₁, BodyLoose p l y (headSpec ws rm) cc maxL ret e s m args below meth c s₁ → c.maxLocals = maxL → Pc args s →
      W p l e (headSpec ws rm).room s m args below meth c s.heap [] 0 0 (vx_MQ below Qc XC args s mc ms free) (entryFrame m args maxL)) : vx_Met l y ws rm Pc Qc XC mc ms free := by
  refine MetFree.of_bodyS (code := cc) (maxLocals := maxL) (ret := ret) hy ?_ ?_
  · intro args s m h hn
    obtain ⟨m9, meth, c, hn9, h1, h2, h3, h4, -, h5, h6, -⟩ := Cond.codeWith_spec (atoms_spec (ws := ws) h _ (by rw [hw]; exact List.mem_cons_self))
    cases hn.symm.trans hn9
    exact ⟨meth, c, h1, h2, h3, h4, h5, h6⟩
  · intro p e s m args below meth c s₁ B hml hP _
    have hh0 : s₁.heap = s.heap := by rw [B.state]; rfl
    obtain ⟨t, a1, o, b1, b2, b3⟩ := body p e s m args below meth c s₁ B hml hP s₁ hh0 (Stand.of_body B)
    exact ⟨t, o, a1, b1, b2, b3⟩
/-! ===== END ===== -/
end
section
def RX0 : String := "BladeDesk$Bits"
def TX0 : u_T := fun k => match k with
  | _ => ("", "", "", false)
def tyX0 : Nat → FieldType := fun k => match k with
  | _ => .int
theorem nmX0 : ∀ a, a < 0 → ∀ b, b < 0 → a ≠ b → (TX0 a).2.1 ≠ (TX0 b).2.1 := by decide +kernel
theorem tyX0_ok : ∀ k, k < 0 → parseFieldDescriptor (TX0 k).2.2.1 = some (tyX0 k) := by decide +kernel
abbrev cX0_ofFloat : ByteArray := prog_2_method_2_code
def yX0_ofFloat : MethodName := ⟨RX0, "ofFloat", "(F)I"⟩
abbrev cX0_ofDouble : ByteArray := prog_2_method_3_code
def yX0_ofDouble : MethodName := ⟨RX0, "ofDouble", "(D)J"⟩
def RX1 : String := "BladeDesk$FormReader"
def TX1 : u_T := fun k => match k with
  | 0 => ("BladeDesk$FormReader", "coefficients", "[I", true)
  | 1 => ("BladeDesk$FormReader", "dimension", "I", false)
  | 2 => ("BladeDesk$FormReader", "mode", "I", false)
  | 3 => ("BladeDesk$FormReader", "negative", "Z", false)
  | 4 => ("BladeDesk$FormReader", "number", "I", false)
  | _ => ("BladeDesk$FormReader", "blade", "I", false)
def tyX1 : Nat → FieldType := fun k => match k with
  | 0 => .array .int
  | 1 => .int
  | 2 => .int
  | 3 => .boolean
  | 4 => .int
  | _ => .int
theorem nmX1 : ∀ a, a < 6 → ∀ b, b < 6 → a ≠ b → (TX1 a).2.1 ≠ (TX1 b).2.1 := by decide +kernel
theorem tyX1_ok : ∀ k, k < 6 → parseFieldDescriptor (TX1 k).2.2.1 = some (tyX1 k) := by decide +kernel
abbrev cX1_init : ByteArray := prog_3_method_1_code
def yX1_init : MethodName := ⟨RX1, "<init>", "()V"⟩
abbrev cX1_read : ByteArray := prog_3_method_2_code
def yX1_read : MethodName := ⟨RX1, "read", "([III)I"⟩
abbrev cX1_isComplete : ByteArray := prog_3_method_3_code
def yX1_isComplete : MethodName := ⟨RX1, "isComplete", "()Z"⟩
abbrev cX1_start : ByteArray := prog_3_method_4_code
def yX1_start : MethodName := ⟨RX1, "start", "(I)V"⟩
abbrev cX1_startTerm : ByteArray := prog_3_method_5_code
def yX1_startTerm : MethodName := ⟨RX1, "startTerm", "(Z)V"⟩
abbrev cX1_addTerm : ByteArray := prog_3_method_6_code
def yX1_addTerm : MethodName := ⟨RX1, "addTerm", "()V"⟩
abbrev cX1_accepts : ByteArray := prog_3_method_7_code
def yX1_accepts : MethodName := ⟨RX1, "accepts", "(I)Z"⟩
abbrev cX1_acceptsSign : ByteArray := prog_3_method_8_code
def yX1_acceptsSign : MethodName := ⟨RX1, "acceptsSign", "(Z)Z"⟩
abbrev cX1_acceptsLetter : ByteArray := prog_3_method_9_code
def yX1_acceptsLetter : MethodName := ⟨RX1, "acceptsLetter", "()Z"⟩
abbrev cX1_acceptsDigit : ByteArray := prog_3_method_10_code
def yX1_acceptsDigit : MethodName := ⟨RX1, "acceptsDigit", "(I)Z"⟩
abbrev cX1_acceptsFirstDigit : ByteArray := prog_3_method_11_code
def yX1_acceptsFirstDigit : MethodName := ⟨RX1, "acceptsFirstDigit", "(I)Z"⟩
abbrev cX1_acceptsDirection : ByteArray := prog_3_method_12_code
def yX1_acceptsDirection : MethodName := ⟨RX1, "acceptsDirection", "(I)Z"⟩
def RX2 : String := "BladeDesk$Forms"
def TX2 : u_T := fun k => match k with
  | _ => ("", "", "", false)
def tyX2 : Nat → FieldType := fun k => match k with
  | _ => .int
theorem nmX2 : ∀ a, a < 0 → ∀ b, b < 0 → a ≠ b → (TX2 a).2.1 ≠ (TX2 b).2.1 := by decide +kernel
theorem tyX2_ok : ∀ k, k < 0 → parseFieldDescriptor (TX2 k).2.2.1 = some (tyX2 k) := by decide +kernel
abbrev cX2_property : ByteArray := prog_4_method_2_code
def yX2_property : MethodName := ⟨RX2, "property", "([II)I"⟩
abbrev cX2_countNonzero : ByteArray := prog_4_method_3_code
def yX2_countNonzero : MethodName := ⟨RX2, "countNonzero", "([I)I"⟩
abbrev cX2_gradeOf : ByteArray := prog_4_method_4_code
def yX2_gradeOf : MethodName := ⟨RX2, "gradeOf", "([I)I"⟩
abbrev cX2_lowestGrade : ByteArray := prog_4_method_5_code
def yX2_lowestGrade : MethodName := ⟨RX2, "lowestGrade", "([I)I"⟩
abbrev cX2_highestGrade : ByteArray := prog_4_method_6_code
def yX2_highestGrade : MethodName := ⟨RX2, "highestGrade", "([I)I"⟩
abbrev cX2_greatestSize : ByteArray := prog_4_method_7_code
def yX2_greatestSize : MethodName := ⟨RX2, "greatestSize", "([I)I"⟩
abbrev cX2_leadOf : ByteArray := prog_4_method_8_code
def yX2_leadOf : MethodName := ⟨RX2, "leadOf", "([I)I"⟩
abbrev cX2_leadCoefficient : ByteArray := prog_4_method_9_code
def yX2_leadCoefficient : MethodName := ⟨RX2, "leadCoefficient", "([I)I"⟩
abbrev cX2_directionsOf : ByteArray := prog_4_method_10_code
def yX2_directionsOf : MethodName := ⟨RX2, "directionsOf", "([I)I"⟩
abbrev cX2_areSame : ByteArray := prog_4_method_11_code
def yX2_areSame : MethodName := ⟨RX2, "areSame", "([I[I)Z"⟩
abbrev cX2_areProportional : ByteArray := prog_4_method_12_code
def yX2_areProportional : MethodName := ⟨RX2, "areProportional", "([I[I)Z"⟩
abbrev cX2_partnerNumber : ByteArray := prog_4_method_13_code
def yX2_partnerNumber : MethodName := ⟨RX2, "partnerNumber", "([III)I"⟩
abbrev cX2_factorNumber : ByteArray := prog_4_method_14_code
def yX2_factorNumber : MethodName := ⟨RX2, "factorNumber", "([III)I"⟩
abbrev cX2_densityOf : ByteArray := prog_4_method_15_code
def yX2_densityOf : MethodName := ⟨RX2, "densityOf", "([II)F"⟩
abbrev cX2_shareOf : ByteArray := prog_4_method_16_code
def yX2_shareOf : MethodName := ⟨RX2, "shareOf", "([II)D"⟩
def RX3 : String := "BladeDesk$History"
def TX3 : u_T := fun k => match k with
  | 0 => ("BladeDesk$History", "states", "[LBladeDesk$State;", true)
  | 1 => ("BladeDesk$History", "oldest", "I", false)
  | _ => ("BladeDesk$History", "size", "I", false)
def tyX3 : Nat → FieldType := fun k => match k with
  | 0 => .array (.object "BladeDesk$State")
  | 1 => .int
  | _ => .int
theorem nmX3 : ∀ a, a < 3 → ∀ b, b < 3 → a ≠ b → (TX3 a).2.1 ≠ (TX3 b).2.1 := by decide +kernel
theorem tyX3_ok : ∀ k, k < 3 → parseFieldDescriptor (TX3 k).2.2.1 = some (tyX3 k) := by decide +kernel
abbrev cX3_init : ByteArray := prog_5_method_1_code
def yX3_init : MethodName := ⟨RX3, "<init>", "()V"⟩
abbrev cX3_save : ByteArray := prog_5_method_2_code
def yX3_save : MethodName := ⟨RX3, "save", "(LBladeDesk$State;)V"⟩
abbrev cX3_dropInto : ByteArray := prog_5_method_3_code
def yX3_dropInto : MethodName := ⟨RX3, "dropInto", "(LBladeDesk$State;)V"⟩
def RX4 : String := "BladeDesk$Kernel"
def TX4 : u_T := fun k => match k with
  | 0 => ("BladeDesk$Kernel", "vectors", "[[J", true)
  | 1 => ("BladeDesk$Kernel", "values", "[J", true)
  | _ => ("BladeDesk$Kernel", "size", "I", false)
def tyX4 : Nat → FieldType := fun k => match k with
  | 0 => .array (.array .long)
  | 1 => .array .long
  | _ => .int
theorem nmX4 : ∀ a, a < 3 → ∀ b, b < 3 → a ≠ b → (TX4 a).2.1 ≠ (TX4 b).2.1 := by decide +kernel
theorem tyX4_ok : ∀ k, k < 3 → parseFieldDescriptor (TX4 k).2.2.1 = some (tyX4 k) := by decide +kernel
abbrev cX4_init : ByteArray := prog_6_method_1_code
def yX4_init : MethodName := ⟨RX4, "<init>", "()V"⟩
abbrev cX4_find : ByteArray := prog_6_method_2_code
def yX4_find : MethodName := ⟨RX4, "find", "([II)I"⟩
abbrev cX4_number : ByteArray := prog_6_method_3_code
def yX4_number : MethodName := ⟨RX4, "number", "(II)I"⟩
abbrev cX4_startWithAll : ByteArray := prog_6_method_4_code
def yX4_startWithAll : MethodName := ⟨RX4, "startWithAll", "(I)V"⟩
abbrev cX4_cut : ByteArray := prog_6_method_5_code
def yX4_cut : MethodName := ⟨RX4, "cut", "([III)V"⟩
abbrev cX4_valueAt : ByteArray := prog_6_method_6_code
def yX4_valueAt : MethodName := ⟨RX4, "valueAt", "([II[JI)J"⟩
abbrev cX4_clearWith : ByteArray := prog_6_method_7_code
def yX4_clearWith : MethodName := ⟨RX4, "clearWith", "(III)V"⟩
abbrev cX4_removeVector : ByteArray := prog_6_method_8_code
def yX4_removeVector : MethodName := ⟨RX4, "removeVector", "(II)V"⟩
abbrev cX4_commonDivisor : ByteArray := prog_6_method_9_code
def yX4_commonDivisor : MethodName := ⟨RX4, "commonDivisor", "(JJ)J"⟩
def RX5 : String := "BladeDesk$Products"
def TX5 : u_T := fun k => match k with
  | _ => ("", "", "", false)
def tyX5 : Nat → FieldType := fun k => match k with
  | _ => .int
theorem nmX5 : ∀ a, a < 0 → ∀ b, b < 0 → a ≠ b → (TX5 a).2.1 ≠ (TX5 b).2.1 := by decide +kernel
theorem tyX5_ok : ∀ k, k < 0 → parseFieldDescriptor (TX5 k).2.2.1 = some (tyX5 k) := by decide +kernel
abbrev cX5_oddTurns : ByteArray := prog_7_method_2_code
def yX5_oddTurns : MethodName := ⟨RX5, "oddTurns", "(II)Z"⟩
abbrev cX5_signOfBlade : ByteArray := prog_7_method_3_code
def yX5_signOfBlade : MethodName := ⟨RX5, "signOfBlade", "([II)I"⟩
abbrev cX5_clear : ByteArray := prog_7_method_4_code
def yX5_clear : MethodName := ⟨RX5, "clear", "([J)V"⟩
abbrev cX5_addForms : ByteArray := prog_7_method_5_code
def yX5_addForms : MethodName := ⟨RX5, "addForms", "(LBladeDesk$State;II[J)V"⟩
abbrev cX5_multiplyForm : ByteArray := prog_7_method_6_code
def yX5_multiplyForm : MethodName := ⟨RX5, "multiplyForm", "(LBladeDesk$State;II[J)V"⟩
abbrev cX5_wedgeForms : ByteArray := prog_7_method_7_code
def yX5_wedgeForms : MethodName := ⟨RX5, "wedgeForms", "([I[II[J)V"⟩
abbrev cX5_contractForms : ByteArray := prog_7_method_8_code
def yX5_contractForms : MethodName := ⟨RX5, "contractForms", "(LBladeDesk$State;II[J)V"⟩
abbrev cX5_starForm : ByteArray := prog_7_method_9_code
def yX5_starForm : MethodName := ⟨RX5, "starForm", "(LBladeDesk$State;I[J)V"⟩
abbrev cX5_partOfForm : ByteArray := prog_7_method_10_code
def yX5_partOfForm : MethodName := ⟨RX5, "partOfForm", "(LBladeDesk$State;II[J)V"⟩
abbrev cX5_reverseForm : ByteArray := prog_7_method_11_code
def yX5_reverseForm : MethodName := ⟨RX5, "reverseForm", "(LBladeDesk$State;I[J)V"⟩
abbrev cX5_pushForm : ByteArray := prog_7_method_12_code
def yX5_pushForm : MethodName := ⟨RX5, "pushForm", "(LBladeDesk$State;I[J[J)V"⟩
abbrev cX5_pushBlade : ByteArray := prog_7_method_13_code
def yX5_pushBlade : MethodName := ⟨RX5, "pushBlade", "(LBladeDesk$State;I[J)V"⟩
abbrev cX5_wedgeWithColumn : ByteArray := prog_7_method_14_code
def yX5_wedgeWithColumn : MethodName := ⟨RX5, "wedgeWithColumn", "(LBladeDesk$State;II[J)J"⟩
abbrev cX5_determinant : ByteArray := prog_7_method_15_code
def yX5_determinant : MethodName := ⟨RX5, "determinant", "(LBladeDesk$State;[J)I"⟩
abbrev cX5_innerOfForms : ByteArray := prog_7_method_16_code
def yX5_innerOfForms : MethodName := ⟨RX5, "innerOfForms", "(LBladeDesk$State;II)J"⟩
def RX6 : String := "BladeDesk$State"
def TX6 : u_T := fun k => match k with
  | 0 => ("BladeDesk$State", "dimension", "I", false)
  | 1 => ("BladeDesk$State", "forms", "[[I", true)
  | 2 => ("BladeDesk$State", "signs", "[I", true)
  | 3 => ("BladeDesk$State", "matrix", "[[I", true)
  | _ => ("BladeDesk$State", "tallies", "[I", true)
def tyX6 : Nat → FieldType := fun k => match k with
  | 0 => .int
  | 1 => .array (.array .int)
  | 2 => .array .int
  | 3 => .array (.array .int)
  | _ => .array .int
theorem nmX6 : ∀ a, a < 5 → ∀ b, b < 5 → a ≠ b → (TX6 a).2.1 ≠ (TX6 b).2.1 := by decide +kernel
theorem tyX6_ok : ∀ k, k < 5 → parseFieldDescriptor (TX6 k).2.2.1 = some (tyX6 k) := by decide +kernel
abbrev cX6_init : ByteArray := prog_8_method_1_code
def yX6_init : MethodName := ⟨RX6, "<init>", "()V"⟩
abbrev cX6_blades : ByteArray := prog_8_method_2_code
def yX6_blades : MethodName := ⟨RX6, "blades", "()I"⟩
abbrev cX6_startWith : ByteArray := prog_8_method_3_code
def yX6_startWith : MethodName := ⟨RX6, "startWith", "(I)V"⟩
abbrev cX6_copyScene : ByteArray := prog_8_method_4_code
def yX6_copyScene : MethodName := ⟨RX6, "copyScene", "(LBladeDesk$State;)V"⟩
abbrev cX6_copyAll : ByteArray := prog_8_method_5_code
def yX6_copyAll : MethodName := ⟨RX6, "copyAll", "(LBladeDesk$State;)V"⟩
abbrev cX6_countForms : ByteArray := prog_8_method_6_code
def yX6_countForms : MethodName := ⟨RX6, "countForms", "()I"⟩
def RX7 : String := "BladeDesk"
def TX7 : u_T := fun k => match k with
  | 0 => ("BladeDesk", "state", "LBladeDesk$State;", true)
  | 1 => ("BladeDesk", "history", "LBladeDesk$History;", true)
  | 2 => ("BladeDesk", "snapshots", "[LBladeDesk$State;", true)
  | 3 => ("BladeDesk", "taken", "[Z", true)
  | 4 => ("BladeDesk", "buffer", "[I", true)
  | 5 => ("BladeDesk", "bufferLength", "I", false)
  | 6 => ("BladeDesk", "result", "[J", true)
  | 7 => ("BladeDesk", "image", "[J", true)
  | 8 => ("BladeDesk", "vector", "[I", true)
  | 9 => ("BladeDesk", "kernel", "LBladeDesk$Kernel;", true)
  | _ => ("BladeDesk", "reader", "LBladeDesk$FormReader;", true)
def tyX7 : Nat → FieldType := fun k => match k with
  | 0 => .object "BladeDesk$State"
  | 1 => .object "BladeDesk$History"
  | 2 => .array (.object "BladeDesk$State")
  | 3 => .array .boolean
  | 4 => .array .int
  | 5 => .int
  | 6 => .array .long
  | 7 => .array .long
  | 8 => .array .int
  | 9 => .object "BladeDesk$Kernel"
  | _ => .object "BladeDesk$FormReader"
theorem nmX7 : ∀ a, a < 11 → ∀ b, b < 11 → a ≠ b → (TX7 a).2.1 ≠ (TX7 b).2.1 := by decide +kernel
theorem tyX7_ok : ∀ k, k < 11 → parseFieldDescriptor (TX7 k).2.2.1 = some (tyX7 k) := by decide +kernel
abbrev cX7_init : ByteArray := prog_1_method_1_code
def yX7_init : MethodName := ⟨RX7, "<init>", "()V"⟩
abbrev cX7_begin : ByteArray := prog_1_method_2_code
def yX7_begin : MethodName := ⟨RX7, "begin", "(I)I"⟩
abbrev cX7_sign : ByteArray := prog_1_method_3_code
def yX7_sign : MethodName := ⟨RX7, "sign", "(II)I"⟩
abbrev cX7_matrix : ByteArray := prog_1_method_4_code
def yX7_matrix : MethodName := ⟨RX7, "matrix", "(III)I"⟩
abbrev cX7_set : ByteArray := prog_1_method_5_code
def yX7_set : MethodName := ⟨RX7, "set", "(III)I"⟩
abbrev cX7_sum : ByteArray := prog_1_method_6_code
def yX7_sum : MethodName := ⟨RX7, "sum", "(III)I"⟩
abbrev cX7_scale : ByteArray := prog_1_method_7_code
def yX7_scale : MethodName := ⟨RX7, "scale", "(III)I"⟩
abbrev cX7_wedge : ByteArray := prog_1_method_8_code
def yX7_wedge : MethodName := ⟨RX7, "wedge", "(III)I"⟩
abbrev cX7_contract : ByteArray := prog_1_method_9_code
def yX7_contract : MethodName := ⟨RX7, "contract", "(III)I"⟩
abbrev cX7_star : ByteArray := prog_1_method_10_code
def yX7_star : MethodName := ⟨RX7, "star", "(II)I"⟩
abbrev cX7_part : ByteArray := prog_1_method_11_code
def yX7_part : MethodName := ⟨RX7, "part", "(III)I"⟩
abbrev cX7_reverse : ByteArray := prog_1_method_12_code
def yX7_reverse : MethodName := ⟨RX7, "reverse", "(II)I"⟩
abbrev cX7_push : ByteArray := prog_1_method_13_code
def yX7_push : MethodName := ⟨RX7, "push", "(II)I"⟩
abbrev cX7_append : ByteArray := prog_1_method_14_code
def yX7_append : MethodName := ⟨RX7, "append", "(I)I"⟩
abbrev cX7_clearBuffer : ByteArray := prog_1_method_15_code
def yX7_clearBuffer : MethodName := ⟨RX7, "clearBuffer", "()I"⟩
abbrev cX7_firstError : ByteArray := prog_1_method_16_code
def yX7_firstError : MethodName := ⟨RX7, "firstError", "()I"⟩
abbrev cX7_put : ByteArray := prog_1_method_17_code
def yX7_put : MethodName := ⟨RX7, "put", "(I)I"⟩
abbrev cX7_take : ByteArray := prog_1_method_18_code
def yX7_take : MethodName := ⟨RX7, "take", "(I)I"⟩
abbrev cX7_restore : ByteArray := prog_1_method_19_code
def yX7_restore : MethodName := ⟨RX7, "restore", "(I)I"⟩
abbrev cX7_undo : ByteArray := prog_1_method_20_code
def yX7_undo : MethodName := ⟨RX7, "undo", "()I"⟩
abbrev cX7_coefficient : ByteArray := prog_1_method_21_code
def yX7_coefficient : MethodName := ⟨RX7, "coefficient", "(II)I"⟩
abbrev cX7_form : ByteArray := prog_1_method_22_code
def yX7_form : MethodName := ⟨RX7, "form", "(II)I"⟩
abbrev cX7_inner : ByteArray := prog_1_method_23_code
def yX7_inner : MethodName := ⟨RX7, "inner", "(II)J"⟩
abbrev cX7_decomposable : ByteArray := prog_1_method_24_code
def yX7_decomposable : MethodName := ⟨RX7, "decomposable", "(II)I"⟩
abbrev cX7_factor : ByteArray := prog_1_method_25_code
def yX7_factor : MethodName := ⟨RX7, "factor", "(III)I"⟩
abbrev cX7_annihilator : ByteArray := prog_1_method_26_code
def yX7_annihilator : MethodName := ⟨RX7, "annihilator", "(I)I"⟩
abbrev cX7_basis : ByteArray := prog_1_method_27_code
def yX7_basis : MethodName := ⟨RX7, "basis", "(III)I"⟩
abbrev cX7_refused : ByteArray := prog_1_method_28_code
def yX7_refused : MethodName := ⟨RX7, "refused", "(III)I"⟩
abbrev cX7_compare : ByteArray := prog_1_method_29_code
def yX7_compare : MethodName := ⟨RX7, "compare", "(II)I"⟩
abbrev cX7_count : ByteArray := prog_1_method_30_code
def yX7_count : MethodName := ⟨RX7, "count", "(I)I"⟩
abbrev cX7_matrixAt : ByteArray := prog_1_method_31_code
def yX7_matrixAt : MethodName := ⟨RX7, "matrixAt", "(II)I"⟩
abbrev cX7_density : ByteArray := prog_1_method_32_code
def yX7_density : MethodName := ⟨RX7, "density", "(I)F"⟩
abbrev cX7_share : ByteArray := prog_1_method_33_code
def yX7_share : MethodName := ⟨RX7, "share", "(II)D"⟩
abbrev cX7_digest : ByteArray := prog_1_method_34_code
def yX7_digest : MethodName := ⟨RX7, "digest", "()J"⟩
abbrev cX7_requireSlot : ByteArray := prog_1_method_35_code
def yX7_requireSlot : MethodName := ⟨RX7, "requireSlot", "(I)V"⟩
abbrev cX7_requireSlots : ByteArray := prog_1_method_36_code
def yX7_requireSlots : MethodName := ⟨RX7, "requireSlots", "(III)V"⟩
abbrev cX7_requireBlade : ByteArray := prog_1_method_37_code
def yX7_requireBlade : MethodName := ⟨RX7, "requireBlade", "(I)V"⟩
abbrev cX7_requireDirection : ByteArray := prog_1_method_38_code
def yX7_requireDirection : MethodName := ⟨RX7, "requireDirection", "(I)V"⟩
abbrev cX7_requireSnapshot : ByteArray := prog_1_method_39_code
def yX7_requireSnapshot : MethodName := ⟨RX7, "requireSnapshot", "(I)V"⟩
abbrev cX7_requireGrade : ByteArray := prog_1_method_40_code
def yX7_requireGrade : MethodName := ⟨RX7, "requireGrade", "(I)V"⟩
abbrev cX7_requirePlace : ByteArray := prog_1_method_41_code
def yX7_requirePlace : MethodName := ⟨RX7, "requirePlace", "(I)V"⟩
abbrev cX7_requireSize : ByteArray := prog_1_method_42_code
def yX7_requireSize : MethodName := ⟨RX7, "requireSize", "(II)V"⟩
abbrev cX7_firstTooLarge : ByteArray := prog_1_method_43_code
def yX7_firstTooLarge : MethodName := ⟨RX7, "firstTooLarge", "()I"⟩
abbrev cX7_requireFits : ByteArray := prog_1_method_44_code
def yX7_requireFits : MethodName := ⟨RX7, "requireFits", "()V"⟩
abbrev cX7_resultIsZero : ByteArray := prog_1_method_45_code
def yX7_resultIsZero : MethodName := ⟨RX7, "resultIsZero", "()Z"⟩
abbrev cX7_storeResult : ByteArray := prog_1_method_46_code
def yX7_storeResult : MethodName := ⟨RX7, "storeResult", "(II)I"⟩
abbrev cX7_decomposableAsTold : ByteArray := prog_1_method_47_code
def yX7_decomposableAsTold : MethodName := ⟨RX7, "decomposableAsTold", "(I)I"⟩
abbrev cX7_wedgeWithPartnerIsZero : ByteArray := prog_1_method_48_code
def yX7_wedgeWithPartnerIsZero : MethodName := ⟨RX7, "wedgeWithPartnerIsZero", "([II)Z"⟩
abbrev cX7_decomposableByAnnihilator : ByteArray := prog_1_method_49_code
def yX7_decomposableByAnnihilator : MethodName := ⟨RX7, "decomposableByAnnihilator", "(I)I"⟩
abbrev cX7_countFactors : ByteArray := prog_1_method_50_code
def yX7_countFactors : MethodName := ⟨RX7, "countFactors", "(I)I"⟩
abbrev cX7_signOrZero : ByteArray := prog_1_method_51_code
def yX7_signOrZero : MethodName := ⟨RX7, "signOrZero", "(I)I"⟩
abbrev cX7_countTaken : ByteArray := prog_1_method_52_code
def yX7_countTaken : MethodName := ⟨RX7, "countTaken", "()I"⟩
abbrev cX7_hashCounts : ByteArray := prog_1_method_53_code
def yX7_hashCounts : MethodName := ⟨RX7, "hashCounts", "(J)J"⟩
abbrev cX7_hashMatrix : ByteArray := prog_1_method_54_code
def yX7_hashMatrix : MethodName := ⟨RX7, "hashMatrix", "(J)J"⟩
abbrev cX7_hashSlot : ByteArray := prog_1_method_55_code
def yX7_hashSlot : MethodName := ⟨RX7, "hashSlot", "(JI)J"⟩
abbrev cX7_hashAnnihilator : ByteArray := prog_1_method_56_code
def yX7_hashAnnihilator : MethodName := ⟨RX7, "hashAnnihilator", "(J[I)J"⟩
abbrev cX7_hashFactors : ByteArray := prog_1_method_57_code
def yX7_hashFactors : MethodName := ⟨RX7, "hashFactors", "(J[I)J"⟩
def RX8 : String := "BladeDeskModel"
def TX8 : u_T := fun k => match k with
  | 0 => ("BladeDeskModel", "z", "[I", true)
  | 1 => ("BladeDeskModel", "rows", "[I", true)
  | 2 => ("BladeDeskModel", "savedMany", "I", false)
  | 3 => ("BladeDeskModel", "shots", "[I", true)
  | 4 => ("BladeDeskModel", "isTaken", "[I", true)
  | 5 => ("BladeDeskModel", "buffer", "[I", true)
  | 6 => ("BladeDeskModel", "bufferMany", "I", false)
  | 7 => ("BladeDeskModel", "thrown", "I", false)
  | 8 => ("BladeDeskModel", "first", "[J", true)
  | 9 => ("BladeDeskModel", "second", "[J", true)
  | 10 => ("BladeDeskModel", "result", "[J", true)
  | 11 => ("BladeDeskModel", "grown", "[J", true)
  | 12 => ("BladeDeskModel", "errorAt", "I", false)
  | 13 => ("BladeDeskModel", "isWhole", "Z", false)
  | 14 => ("BladeDeskModel", "figures", "I", false)
  | 15 => ("BladeDeskModel", "number", "I", false)
  | 16 => ("BladeDeskModel", "blade", "I", false)
  | 17 => ("BladeDeskModel", "lastDigit", "I", false)
  | 18 => ("BladeDeskModel", "isMinus", "I", false)
  | 19 => ("BladeDeskModel", "lines", "[J", true)
  | 20 => ("BladeDeskModel", "pivotOf", "[I", true)
  | 21 => ("BladeDeskModel", "pivots", "I", false)
  | 22 => ("BladeDeskModel", "pivot", "J", false)
  | _ => ("BladeDeskModel", "h", "J", false)
def tyX8 : Nat → FieldType := fun k => match k with
  | 0 => .array .int
  | 1 => .array .int
  | 2 => .int
  | 3 => .array .int
  | 4 => .array .int
  | 5 => .array .int
  | 6 => .int
  | 7 => .int
  | 8 => .array .long
  | 9 => .array .long
  | 10 => .array .long
  | 11 => .array .long
  | 12 => .int
  | 13 => .boolean
  | 14 => .int
  | 15 => .int
  | 16 => .int
  | 17 => .int
  | 18 => .int
  | 19 => .array .long
  | 20 => .array .int
  | 21 => .int
  | 22 => .long
  | _ => .long
theorem nmX8 : ∀ a, a < 24 → ∀ b, b < 24 → a ≠ b → (TX8 a).2.1 ≠ (TX8 b).2.1 := by decide +kernel
theorem tyX8_ok : ∀ k, k < 24 → parseFieldDescriptor (TX8 k).2.2.1 = some (tyX8 k) := by decide +kernel
abbrev cX8_init : ByteArray := prog_10_method_1_code
def yX8_init : MethodName := ⟨RX8, "<init>", "()V"⟩
abbrev cX8_thrown : ByteArray := prog_10_method_2_code
def yX8_thrown : MethodName := ⟨RX8, "thrown", "()I"⟩
abbrev cX8_fails : ByteArray := prog_10_method_3_code
def yX8_fails : MethodName := ⟨RX8, "fails", "(I)I"⟩
abbrev cX8_in : ByteArray := prog_10_method_4_code
def yX8_in : MethodName := ⟨RX8, "in", "(III)Z"⟩
abbrev cX8_layPlain : ByteArray := prog_10_method_5_code
def yX8_layPlain : MethodName := ⟨RX8, "layPlain", "()V"⟩
abbrev cX8_save : ByteArray := prog_10_method_6_code
def yX8_save : MethodName := ⟨RX8, "save", "()V"⟩
abbrev cX8_blades : ByteArray := prog_10_method_7_code
def yX8_blades : MethodName := ⟨RX8, "blades", "()I"⟩
abbrev cX8_isSlot : ByteArray := prog_10_method_8_code
def yX8_isSlot : MethodName := ⟨RX8, "isSlot", "(I)Z"⟩
abbrev cX8_isDirection : ByteArray := prog_10_method_9_code
def yX8_isDirection : MethodName := ⟨RX8, "isDirection", "(I)Z"⟩
abbrev cX8_isBlade : ByteArray := prog_10_method_10_code
def yX8_isBlade : MethodName := ⟨RX8, "isBlade", "(I)Z"⟩
abbrev cX8_at : ByteArray := prog_10_method_11_code
def yX8_at : MethodName := ⟨RX8, "at", "(II)I"⟩
abbrev cX8_grade : ByteArray := prog_10_method_12_code
def yX8_grade : MethodName := ⟨RX8, "grade", "(I)I"⟩
abbrev cX8_turns : ByteArray := prog_10_method_13_code
def yX8_turns : MethodName := ⟨RX8, "turns", "(II)I"⟩
abbrev cX8_way : ByteArray := prog_10_method_14_code
def yX8_way : MethodName := ⟨RX8, "way", "(II)I"⟩
abbrev cX8_signOf : ByteArray := prog_10_method_15_code
def yX8_signOf : MethodName := ⟨RX8, "signOf", "(I)I"⟩
abbrev cX8_begin : ByteArray := prog_10_method_16_code
def yX8_begin : MethodName := ⟨RX8, "begin", "(I)I"⟩
abbrev cX8_sign : ByteArray := prog_10_method_17_code
def yX8_sign : MethodName := ⟨RX8, "sign", "(II)I"⟩
abbrev cX8_matrix : ByteArray := prog_10_method_18_code
def yX8_matrix : MethodName := ⟨RX8, "matrix", "(III)I"⟩
abbrev cX8_set : ByteArray := prog_10_method_19_code
def yX8_set : MethodName := ⟨RX8, "set", "(III)I"⟩
abbrev cX8_laySlots : ByteArray := prog_10_method_20_code
def yX8_laySlots : MethodName := ⟨RX8, "laySlots", "(II)V"⟩
abbrev cX8_layWedge : ByteArray := prog_10_method_21_code
def yX8_layWedge : MethodName := ⟨RX8, "layWedge", "()V"⟩
abbrev cX8_layContraction : ByteArray := prog_10_method_22_code
def yX8_layContraction : MethodName := ⟨RX8, "layContraction", "()V"⟩
abbrev cX8_growBy : ByteArray := prog_10_method_23_code
def yX8_growBy : MethodName := ⟨RX8, "growBy", "(I)V"⟩
abbrev cX8_layGrown : ByteArray := prog_10_method_24_code
def yX8_layGrown : MethodName := ⟨RX8, "layGrown", "(I)V"⟩
abbrev cX8_layPush : ByteArray := prog_10_method_25_code
def yX8_layPush : MethodName := ⟨RX8, "layPush", "()V"⟩
abbrev cX8_layBy : ByteArray := prog_10_method_26_code
def yX8_layBy : MethodName := ⟨RX8, "layBy", "(III)V"⟩
abbrev cX8_beyond : ByteArray := prog_10_method_27_code
def yX8_beyond : MethodName := ⟨RX8, "beyond", "()I"⟩
abbrev cX8_many : ByteArray := prog_10_method_28_code
def yX8_many : MethodName := ⟨RX8, "many", "(I)I"⟩
abbrev cX8_keep : ByteArray := prog_10_method_29_code
def yX8_keep : MethodName := ⟨RX8, "keep", "(II)I"⟩
abbrev cX8_keepOr : ByteArray := prog_10_method_30_code
def yX8_keepOr : MethodName := ⟨RX8, "keepOr", "(III)I"⟩
abbrev cX8_sum : ByteArray := prog_10_method_31_code
def yX8_sum : MethodName := ⟨RX8, "sum", "(III)I"⟩
abbrev cX8_scale : ByteArray := prog_10_method_32_code
def yX8_scale : MethodName := ⟨RX8, "scale", "(III)I"⟩
abbrev cX8_wedge : ByteArray := prog_10_method_33_code
def yX8_wedge : MethodName := ⟨RX8, "wedge", "(III)I"⟩
abbrev cX8_contract : ByteArray := prog_10_method_34_code
def yX8_contract : MethodName := ⟨RX8, "contract", "(III)I"⟩
abbrev cX8_star : ByteArray := prog_10_method_35_code
def yX8_star : MethodName := ⟨RX8, "star", "(II)I"⟩
abbrev cX8_part : ByteArray := prog_10_method_36_code
def yX8_part : MethodName := ⟨RX8, "part", "(III)I"⟩
abbrev cX8_reverse : ByteArray := prog_10_method_37_code
def yX8_reverse : MethodName := ⟨RX8, "reverse", "(II)I"⟩
abbrev cX8_push : ByteArray := prog_10_method_38_code
def yX8_push : MethodName := ⟨RX8, "push", "(II)I"⟩
abbrev cX8_append : ByteArray := prog_10_method_39_code
def yX8_append : MethodName := ⟨RX8, "append", "(I)I"⟩
abbrev cX8_clearBuffer : ByteArray := prog_10_method_40_code
def yX8_clearBuffer : MethodName := ⟨RX8, "clearBuffer", "()I"⟩
abbrev cX8_addTerm : ByteArray := prog_10_method_41_code
def yX8_addTerm : MethodName := ⟨RX8, "addTerm", "()V"⟩
abbrev cX8_beginTerm : ByteArray := prog_10_method_42_code
def yX8_beginTerm : MethodName := ⟨RX8, "beginTerm", "(I)I"⟩
abbrev cX8_endTerm : ByteArray := prog_10_method_43_code
def yX8_endTerm : MethodName := ⟨RX8, "endTerm", "(I)I"⟩
abbrev cX8_nextState : ByteArray := prog_10_method_44_code
def yX8_nextState : MethodName := ⟨RX8, "nextState", "(II)I"⟩
abbrev cX8_read : ByteArray := prog_10_method_45_code
def yX8_read : MethodName := ⟨RX8, "read", "()V"⟩
abbrev cX8_firstError : ByteArray := prog_10_method_46_code
def yX8_firstError : MethodName := ⟨RX8, "firstError", "()I"⟩
abbrev cX8_put : ByteArray := prog_10_method_47_code
def yX8_put : MethodName := ⟨RX8, "put", "(I)I"⟩
abbrev cX8_forms : ByteArray := prog_10_method_48_code
def yX8_forms : MethodName := ⟨RX8, "forms", "()I"⟩
abbrev cX8_kept : ByteArray := prog_10_method_49_code
def yX8_kept : MethodName := ⟨RX8, "kept", "(I)I"⟩
abbrev cX8_take : ByteArray := prog_10_method_50_code
def yX8_take : MethodName := ⟨RX8, "take", "(I)I"⟩
abbrev cX8_restore : ByteArray := prog_10_method_51_code
def yX8_restore : MethodName := ⟨RX8, "restore", "(I)I"⟩
abbrev cX8_undo : ByteArray := prog_10_method_52_code
def yX8_undo : MethodName := ⟨RX8, "undo", "()I"⟩
abbrev cX8_coefficient : ByteArray := prog_10_method_53_code
def yX8_coefficient : MethodName := ⟨RX8, "coefficient", "(II)I"⟩
abbrev cX8_lowest : ByteArray := prog_10_method_54_code
def yX8_lowest : MethodName := ⟨RX8, "lowest", "(I)I"⟩
abbrev cX8_highest : ByteArray := prog_10_method_55_code
def yX8_highest : MethodName := ⟨RX8, "highest", "(I)I"⟩
abbrev cX8_gradeOf : ByteArray := prog_10_method_56_code
def yX8_gradeOf : MethodName := ⟨RX8, "gradeOf", "(I)I"⟩
abbrev cX8_greatest : ByteArray := prog_10_method_57_code
def yX8_greatest : MethodName := ⟨RX8, "greatest", "(I)I"⟩
abbrev cX8_lead : ByteArray := prog_10_method_58_code
def yX8_lead : MethodName := ⟨RX8, "lead", "(I)I"⟩
abbrev cX8_directions : ByteArray := prog_10_method_59_code
def yX8_directions : MethodName := ⟨RX8, "directions", "(I)I"⟩
abbrev cX8_formOf : ByteArray := prog_10_method_60_code
def yX8_formOf : MethodName := ⟨RX8, "formOf", "(II)I"⟩
abbrev cX8_form : ByteArray := prog_10_method_61_code
def yX8_form : MethodName := ⟨RX8, "form", "(II)I"⟩
abbrev cX8_innerOf : ByteArray := prog_10_method_62_code
def yX8_innerOf : MethodName := ⟨RX8, "innerOf", "(II)J"⟩
abbrev cX8_inner : ByteArray := prog_10_method_63_code
def yX8_inner : MethodName := ⟨RX8, "inner", "(II)J"⟩
abbrev cX8_vector : ByteArray := prog_10_method_64_code
def yX8_vector : MethodName := ⟨RX8, "vector", "(III)J"⟩
abbrev cX8_isResultEmpty : ByteArray := prog_10_method_65_code
def yX8_isResultEmpty : MethodName := ⟨RX8, "isResultEmpty", "()Z"⟩
abbrev cX8_isPure : ByteArray := prog_10_method_66_code
def yX8_isPure : MethodName := ⟨RX8, "isPure", "(II)Z"⟩
abbrev cX8_layLines : ByteArray := prog_10_method_67_code
def yX8_layLines : MethodName := ⟨RX8, "layLines", "(I)V"⟩
abbrev cX8_exchange : ByteArray := prog_10_method_68_code
def yX8_exchange : MethodName := ⟨RX8, "exchange", "(II)V"⟩
abbrev cX8_clearColumn : ByteArray := prog_10_method_69_code
def yX8_clearColumn : MethodName := ⟨RX8, "clearColumn", "(IJ)V"⟩
abbrev cX8_solve : ByteArray := prog_10_method_70_code
def yX8_solve : MethodName := ⟨RX8, "solve", "(I)V"⟩
abbrev cX8_isAnnihilatorTold : ByteArray := prog_10_method_71_code
def yX8_isAnnihilatorTold : MethodName := ⟨RX8, "isAnnihilatorTold", "(I)Z"⟩
abbrev cX8_annihilatorOf : ByteArray := prog_10_method_72_code
def yX8_annihilatorOf : MethodName := ⟨RX8, "annihilatorOf", "(I)I"⟩
abbrev cX8_divisor : ByteArray := prog_10_method_73_code
def yX8_divisor : MethodName := ⟨RX8, "divisor", "(JJ)J"⟩
abbrev cX8_headOf : ByteArray := prog_10_method_74_code
def yX8_headOf : MethodName := ⟨RX8, "headOf", "(I)I"⟩
abbrev cX8_rawOf : ByteArray := prog_10_method_75_code
def yX8_rawOf : MethodName := ⟨RX8, "rawOf", "(II)J"⟩
abbrev cX8_basisOf : ByteArray := prog_10_method_76_code
def yX8_basisOf : MethodName := ⟨RX8, "basisOf", "(II)I"⟩
abbrev cX8_decomposableOf : ByteArray := prog_10_method_77_code
def yX8_decomposableOf : MethodName := ⟨RX8, "decomposableOf", "(II)I"⟩
abbrev cX8_decomposable : ByteArray := prog_10_method_78_code
def yX8_decomposable : MethodName := ⟨RX8, "decomposable", "(II)I"⟩
abbrev cX8_factors : ByteArray := prog_10_method_79_code
def yX8_factors : MethodName := ⟨RX8, "factors", "(I)I"⟩
abbrev cX8_factorOf : ByteArray := prog_10_method_80_code
def yX8_factorOf : MethodName := ⟨RX8, "factorOf", "(III)I"⟩
abbrev cX8_factor : ByteArray := prog_10_method_81_code
def yX8_factor : MethodName := ⟨RX8, "factor", "(III)I"⟩
abbrev cX8_annihilator : ByteArray := prog_10_method_82_code
def yX8_annihilator : MethodName := ⟨RX8, "annihilator", "(I)I"⟩
abbrev cX8_basis : ByteArray := prog_10_method_83_code
def yX8_basis : MethodName := ⟨RX8, "basis", "(III)I"⟩
abbrev cX8_refusedOf : ByteArray := prog_10_method_84_code
def yX8_refusedOf : MethodName := ⟨RX8, "refusedOf", "(III)I"⟩
abbrev cX8_refused : ByteArray := prog_10_method_85_code
def yX8_refused : MethodName := ⟨RX8, "refused", "(III)I"⟩
abbrev cX8_compareOf : ByteArray := prog_10_method_86_code
def yX8_compareOf : MethodName := ⟨RX8, "compareOf", "(II)I"⟩
abbrev cX8_compare : ByteArray := prog_10_method_87_code
def yX8_compare : MethodName := ⟨RX8, "compare", "(II)I"⟩
abbrev cX8_counted : ByteArray := prog_10_method_88_code
def yX8_counted : MethodName := ⟨RX8, "counted", "(I)I"⟩
abbrev cX8_count : ByteArray := prog_10_method_89_code
def yX8_count : MethodName := ⟨RX8, "count", "(I)I"⟩
abbrev cX8_matrixAt : ByteArray := prog_10_method_90_code
def yX8_matrixAt : MethodName := ⟨RX8, "matrixAt", "(II)I"⟩
abbrev cX8_densityOf : ByteArray := prog_10_method_91_code
def yX8_densityOf : MethodName := ⟨RX8, "densityOf", "(I)F"⟩
abbrev cX8_density : ByteArray := prog_10_method_92_code
def yX8_density : MethodName := ⟨RX8, "density", "(I)F"⟩
abbrev cX8_shareOf : ByteArray := prog_10_method_93_code
def yX8_shareOf : MethodName := ⟨RX8, "shareOf", "(II)D"⟩
abbrev cX8_share : ByteArray := prog_10_method_94_code
def yX8_share : MethodName := ⟨RX8, "share", "(II)D"⟩
abbrev cX8_mix : ByteArray := prog_10_method_95_code
def yX8_mix : MethodName := ⟨RX8, "mix", "(J)V"⟩
abbrev cX8_mixSlot : ByteArray := prog_10_method_96_code
def yX8_mixSlot : MethodName := ⟨RX8, "mixSlot", "(I)V"⟩
abbrev cX8_digest : ByteArray := prog_10_method_97_code
def yX8_digest : MethodName := ⟨RX8, "digest", "()J"⟩
def RJxe99ae : String := "java/lang/Double"
def TJxe99ae : u_T := fun k => match k with
  | _ => ("", "", "", false)
def tyJxe99ae : Nat → FieldType := fun k => match k with
  | _ => .int
theorem nmJxe99ae : ∀ a, a < 0 → ∀ b, b < 0 → a ≠ b → (TJxe99ae a).2.1 ≠ (TJxe99ae b).2.1 := by decide +kernel
theorem tyJxe99ae_ok : ∀ k, k < 0 → parseFieldDescriptor (TJxe99ae k).2.2.1 = some (tyJxe99ae k) := by decide +kernel
abbrev cJxe99ae_isNaN_b9ae7 : ByteArray := prog_11_method_6_code
def yJxe99ae_isNaN_b9ae7 : MethodName := ⟨RJxe99ae, "isNaN", "(D)Z"⟩
abbrev cJxe99ae_doubleToLongBits_ccdee : ByteArray := prog_11_method_23_code
def yJxe99ae_doubleToLongBits_ccdee : MethodName := ⟨RJxe99ae, "doubleToLongBits", "(D)J"⟩
def RJxf58ca : String := "java/lang/Float"
def TJxf58ca : u_T := fun k => match k with
  | _ => ("", "", "", false)
def tyJxf58ca : Nat → FieldType := fun k => match k with
  | _ => .int
theorem nmJxf58ca : ∀ a, a < 0 → ∀ b, b < 0 → a ≠ b → (TJxf58ca a).2.1 ≠ (TJxf58ca b).2.1 := by decide +kernel
theorem tyJxf58ca_ok : ∀ k, k < 0 → parseFieldDescriptor (TJxf58ca k).2.2.1 = some (tyJxf58ca k) := by decide +kernel
abbrev cJxf58ca_isNaN_12338 : ByteArray := prog_13_method_6_code
def yJxf58ca_isNaN_12338 : MethodName := ⟨RJxf58ca, "isNaN", "(F)Z"⟩
abbrev cJxf58ca_floatToIntBits_5c35a : ByteArray := prog_13_method_24_code
def yJxf58ca_floatToIntBits_5c35a : MethodName := ⟨RJxf58ca, "floatToIntBits", "(F)I"⟩
def RJ6 : String := "java/lang/Integer"
def TJ6 : u_T := fun k => match k with
  | _ => ("", "", "", false)
def tyJ6 : Nat → FieldType := fun k => match k with
  | _ => .int
theorem nmJ6 : ∀ a, a < 0 → ∀ b, b < 0 → a ≠ b → (TJ6 a).2.1 ≠ (TJ6 b).2.1 := by decide +kernel
theorem tyJ6_ok : ∀ k, k < 0 → parseFieldDescriptor (TJ6 k).2.2.1 = some (tyJ6 k) := by decide +kernel
abbrev cJ6_bitCount_0f7a4 : ByteArray := prog_17_method_49_code
def yJ6_bitCount_0f7a4 : MethodName := ⟨RJ6, "bitCount", "(I)I"⟩
def RJ9 : String := "java/lang/Math"
def TJ9 : u_T := fun k => match k with
  | _ => ("", "", "", false)
def tyJ9 : Nat → FieldType := fun k => match k with
  | _ => .int
theorem nmJ9 : ∀ a, a < 0 → ∀ b, b < 0 → a ≠ b → (TJ9 a).2.1 ≠ (TJ9 b).2.1 := by decide +kernel
theorem tyJ9_ok : ∀ k, k < 0 → parseFieldDescriptor (TJ9 k).2.2.1 = some (tyJ9 k) := by decide +kernel
abbrev cJ9_abs_0f7a4 : ByteArray := prog_18_method_59_code
def yJ9_abs_0f7a4 : MethodName := ⟨RJ9, "abs", "(I)I"⟩
abbrev cJ9_abs_067f4 : ByteArray := prog_18_method_61_code
def yJ9_abs_067f4 : MethodName := ⟨RJ9, "abs", "(J)J"⟩
abbrev cJ9_max_7cf53 : ByteArray := prog_18_method_65_code
def yJ9_max_7cf53 : MethodName := ⟨RJ9, "max", "(II)I"⟩
def RJ0 : String := "java/lang/String"
def TJ0 : u_T := fun k => match k with
  | _ => ("", "", "", false)
def tyJ0 : Nat → FieldType := fun k => match k with
  | _ => .int
theorem nmJ0 : ∀ a, a < 0 → ∀ b, b < 0 → a ≠ b → (TJ0 a).2.1 ≠ (TJ0 b).2.1 := by decide +kernel
theorem tyJ0_ok : ∀ k, k < 0 → parseFieldDescriptor (TJ0 k).2.2.1 = some (tyJ0 k) := by decide +kernel
def RJ10 : String := "java/lang/System"
def TJ10 : u_T := fun k => match k with
  | _ => ("", "", "", false)
def tyJ10 : Nat → FieldType := fun k => match k with
  | _ => .int
theorem nmJ10 : ∀ a, a < 0 → ∀ b, b < 0 → a ≠ b → (TJ10 a).2.1 ≠ (TJ10 b).2.1 := by decide +kernel
theorem tyJ10_ok : ∀ k, k < 0 → parseFieldDescriptor (TJ10 k).2.2.1 = some (tyJ10 k) := by decide +kernel
def RL : String := "BladeDeskLaw"
abbrev cL_begin : ByteArray := method_3_code
def yL_begin : MethodName := ⟨RL, "begin", "(LBladeDesk;I[J)I"⟩
abbrev cL_sign : ByteArray := method_4_code
def yL_sign : MethodName := ⟨RL, "sign", "(LBladeDesk;II[J)I"⟩
abbrev cL_matrix : ByteArray := method_5_code
def yL_matrix : MethodName := ⟨RL, "matrix", "(LBladeDesk;III[J)I"⟩
abbrev cL_set : ByteArray := method_6_code
def yL_set : MethodName := ⟨RL, "set", "(LBladeDesk;III[J)I"⟩
abbrev cL_sum : ByteArray := method_7_code
def yL_sum : MethodName := ⟨RL, "sum", "(LBladeDesk;III[J)I"⟩
abbrev cL_scale : ByteArray := method_8_code
def yL_scale : MethodName := ⟨RL, "scale", "(LBladeDesk;III[J)I"⟩
abbrev cL_wedge : ByteArray := method_9_code
def yL_wedge : MethodName := ⟨RL, "wedge", "(LBladeDesk;III[J)I"⟩
abbrev cL_contract : ByteArray := method_10_code
def yL_contract : MethodName := ⟨RL, "contract", "(LBladeDesk;III[J)I"⟩
abbrev cL_star : ByteArray := method_11_code
def yL_star : MethodName := ⟨RL, "star", "(LBladeDesk;II[J)I"⟩
abbrev cL_part : ByteArray := method_12_code
def yL_part : MethodName := ⟨RL, "part", "(LBladeDesk;III[J)I"⟩
abbrev cL_reverse : ByteArray := method_13_code
def yL_reverse : MethodName := ⟨RL, "reverse", "(LBladeDesk;II[J)I"⟩
abbrev cL_push : ByteArray := method_14_code
def yL_push : MethodName := ⟨RL, "push", "(LBladeDesk;II[J)I"⟩
abbrev cL_append : ByteArray := method_15_code
def yL_append : MethodName := ⟨RL, "append", "(LBladeDesk;I[J)I"⟩
abbrev cL_put : ByteArray := method_16_code
def yL_put : MethodName := ⟨RL, "put", "(LBladeDesk;I[J)I"⟩
abbrev cL_take : ByteArray := method_17_code
def yL_take : MethodName := ⟨RL, "take", "(LBladeDesk;I[J)I"⟩
abbrev cL_restore : ByteArray := method_18_code
def yL_restore : MethodName := ⟨RL, "restore", "(LBladeDesk;I[J)I"⟩
abbrev cL_undo : ByteArray := method_19_code
def yL_undo : MethodName := ⟨RL, "undo", "(LBladeDesk;[J)I"⟩
abbrev cL_coefficient : ByteArray := method_20_code
def yL_coefficient : MethodName := ⟨RL, "coefficient", "(LBladeDesk;II[J)I"⟩
abbrev cL_form : ByteArray := method_21_code
def yL_form : MethodName := ⟨RL, "form", "(LBladeDesk;II[J)I"⟩
abbrev cL_inner : ByteArray := method_22_code
def yL_inner : MethodName := ⟨RL, "inner", "(LBladeDesk;II[J)I"⟩
abbrev cL_decomposable : ByteArray := method_23_code
def yL_decomposable : MethodName := ⟨RL, "decomposable", "(LBladeDesk;II[J)I"⟩
abbrev cL_factor : ByteArray := method_24_code
def yL_factor : MethodName := ⟨RL, "factor", "(LBladeDesk;III[J)I"⟩
abbrev cL_annihilator : ByteArray := method_25_code
def yL_annihilator : MethodName := ⟨RL, "annihilator", "(LBladeDesk;I[J)I"⟩
abbrev cL_basis : ByteArray := method_26_code
def yL_basis : MethodName := ⟨RL, "basis", "(LBladeDesk;III[J)I"⟩
abbrev cL_refused : ByteArray := method_27_code
def yL_refused : MethodName := ⟨RL, "refused", "(LBladeDesk;III[J)I"⟩
abbrev cL_compare : ByteArray := method_28_code
def yL_compare : MethodName := ⟨RL, "compare", "(LBladeDesk;II[J)I"⟩
abbrev cL_count : ByteArray := method_29_code
def yL_count : MethodName := ⟨RL, "count", "(LBladeDesk;I[J)I"⟩
abbrev cL_matrixAt : ByteArray := method_30_code
def yL_matrixAt : MethodName := ⟨RL, "matrixAt", "(LBladeDesk;II[J)I"⟩
abbrev cL_density : ByteArray := method_31_code
def yL_density : MethodName := ⟨RL, "density", "(LBladeDesk;I[D)I"⟩
abbrev cL_share : ByteArray := method_32_code
def yL_share : MethodName := ⟨RL, "share", "(LBladeDesk;II[D)I"⟩
abbrev cL_law : ByteArray := code
def yL_law : MethodName := ⟨RL, "law", "([I)Z"⟩
abbrev vwCl : List vw_C := [(RX1, TX1, 6), (RX3, TX3, 3), (RX4, TX4, 3), (RX6, TX6, 5), (RX7, TX7, 11), (RX8, TX8, 24)]
end
section
/-! THE SMALL MACHINE: a run of plain instructions over numbered cells, and that the machine itself follows it -/
def WB : List Cond := lw_tbl.filter goodWord
abbrev IM : Type := Nat → Nat → Int32
abbrev LM : Type := Nat → Nat → Int64
abbrev LV : Type := List (Nat × Value)
abbrev Rs : Type := Prop × Nat × LV × List Value × IM × LM
abbrev Kt : Type := List (Nat × Nat) → Prop → Nat → LV → List Value → IM → LM → Rs
abbrev En : Type := Nat × Instr × Nat × Nat × Value
abbrev Ft : Type := Nat → Option (Nat × Nat × Nat × Nat)
abbrev KdT : Type := Nat → Nat × Nat × Nat
/-- one place of a memory changed -/
def mu {α : Type} (f : Nat → Nat → α) (c j : Nat) (v : α) : Nat → Nat → α := fun a b => if a = c ∧ b = j then v else f a b
def gl : LV → Nat → Option Value
  | [], _ => none
  | (j, v) :: t, i => bif Nat.beq j i then some v else gl t i
def fil1 (i : Nat) : LV → (LV → Rs) → Rs
  | [], k => k []
  | (j, w) :: t, k => bif Nat.beq j i || (Nat.beq (j + 1) i && Nat.beq w.category 2) then fil1 i t k else fil1 i t (fun t' => k ((j, w) :: t'))
def sl1 (i : Nat) (v : Value) : LV → (LV → Rs) → Rs
  | [], k => k [(i, v)]
  | (j, w) :: t, k => bif Nat.ble i j then fil1 i ((j, w) :: t) (fun t' => k ((i, v) :: t')) else bif Nat.beq (j + 1) i && Nat.beq w.category 2 then sl1 i v t k else sl1 i v t (fun t' => k ((j, w) :: t'))
def fil2 (i : Nat) : LV → (LV → Rs) → Rs
  | [], k => k []
  | (j, w) :: t, k => bif Nat.beq j i || (Nat.beq j (i + 1) || (Nat.beq (j + 1) i && Nat.beq w.category 2)) then fil2 i t k else fil2 i t (fun t' => k ((j, w) :: t'))
def sl2 (i : Nat) (v : Value) : LV → (LV → Rs) → Rs
  | [], k => k [(i, v)]
  | (j, w) :: t, k => bif Nat.ble i j then fil2 i ((j, w) :: t) (fun t' => k ((i, v) :: t')) else bif Nat.beq (j + 1) i && Nat.beq w.category 2 then sl2 i v t k else sl2 i v t (fun t' => k ((j, w) :: t'))
def lk : List En → Nat → Option (Instr × Nat × Nat × Value)
  | [], _ => none
  | (q, r) :: t, pc => bif Nat.beq q pc then some r else lk t pc
/-- a branch, taken as the list of choices says -/
def brr (k : Kt) (P : Prop) (np tg : Nat) (ds : List (Nat × Nat)) (O : Prop) (pc : Nat) (lv : LV) (st0 st : List Value) (I : IM) (L : LM) : Rs :=
  match ds with
  | (1, _) :: ds' => k ds' (O ∧ P) tg lv st I L
  | (0, _) :: ds' => k ds' (O ∧ ¬ P) np lv st I L
  | _ => (O, pc, lv, st0, I, L)
def RET : Nat := 100000
/-- one instruction -/
def stp (kd : KdT) (F : Ft) (k : Kt) (ins : Instr) (np tg : Nat) (cv : Value) (ds : List (Nat × Nat)) (O : Prop) (pc : Nat) (lv : LV) (st : List Value) (I : IM) (L : LM) : Rs :=
  match ins with
  | .iconst _ => k ds O np lv (cv :: st) I L
  | .bipush _ => k ds O np lv (cv :: st) I L
  | .sipush _ => k ds O np lv (cv :: st) I L
  | .lconst _ => k ds O np lv (cv :: st) I L
  | .fconst _ => k ds O np lv (cv :: st) I L
  | .dconst _ => k ds O np lv (cv :: st) I L
  | .ldc _ => k ds O np lv (cv :: st) I L
  | .ldc_w _ => k ds O np lv (cv :: st) I L
  | .ldc2_w _ => k ds O np lv (cv :: st) I L
  | .iload i => match gl lv i with
    | some (.int x) => k ds O np lv (.int x :: st) I L
    | _ => (O, pc, lv, st, I, L)
  | .iload_n i => match gl lv i.val with
    | some (.int x) => k ds O np lv (.int x :: st) I L
    | _ => (O, pc, lv, st, I, L)
  | .lload i => match gl lv i with
    | some (.long x) => k ds O np lv (.long x :: st) I L
    | _ => (O, pc, lv, st, I, L)
  | .lload_n i => match gl lv i.val with
    | some (.long x) => k ds O np lv (.long x :: st) I L
    | _ => (O, pc, lv, st, I, L)
  | .fload_n i => match gl lv i.val with
    | some (.float x) => k ds O np lv (.float x :: st) I L
    | _ => (O, pc, lv, st, I, L)
  | .dload_n i => match gl lv i.val with
    | some (.double x) => k ds O np lv (.double x :: st) I L
    | _ => (O, pc, lv, st, I, L)
  | .aload i => match gl lv i with
    | some (.ref x) => k ds O np lv (.ref x :: st) I L
    | _ => (O, pc, lv, st, I, L)
  | .aload_n i => match gl lv i.val with
    | some (.ref x) => k ds O np lv (.ref x :: st) I L
    | _ => (O, pc, lv, st, I, L)
  | .istore i => match st with
    | .int x :: r => sl1 i (.int x) lv (fun lv' => k ds O np lv' r I L)
    | _ => (O, pc, lv, st, I, L)
  | .istore_n i => match st with
    | .int x :: r => sl1 i.val (.int x) lv (fun lv' => k ds O np lv' r I L)
    | _ => (O, pc, lv, st, I, L)
  | .astore i => match st with
    | .ref x :: r => sl1 i (.ref x) lv (fun lv' => k ds O np lv' r I L)
    | _ => (O, pc, lv, st, I, L)
  | .astore_n i => match st with
    | .ref x :: r => sl1 i.val (.ref x) lv (fun lv' => k ds O np lv' r I L)
    | _ => (O, pc, lv, st, I, L)
  | .fstore_n i => match st with
    | .float x :: r => sl1 i.val (.float x) lv (fun lv' => k ds O np lv' r I L)
    | _ => (O, pc, lv, st, I, L)
  | .lstore i => match st with
    | .long x :: r => sl2 i (.long x) lv (fun lv' => k ds O np lv' r I L)
    | _ => (O, pc, lv, st, I, L)
  | .lstore_n i => match st with
    | .long x :: r => sl2 i.val (.long x) lv (fun lv' => k ds O np lv' r I L)
    | _ => (O, pc, lv, st, I, L)
  | .dstore_n i => match st with
    | .double x :: r => sl2 i.val (.double x) lv (fun lv' => k ds O np lv' r I L)
    | _ => (O, pc, lv, st, I, L)
  | .iinc i _ => match gl lv i with
    | some (.int x) => match cv with
      | .int y => sl1 i (.int (x + y)) lv (fun lv' => k ds O np lv' st I L)
      | _ => (O, pc, lv, st, I, L)
    | _ => (O, pc, lv, st, I, L)
  | .iadd => match st with
    | .int y :: .int x :: r => k ds O np lv (.int (x + y) :: r) I L
    | _ => (O, pc, lv, st, I, L)
  | .isub => match st with
    | .int y :: .int x :: r => k ds O np lv (.int (x - y) :: r) I L
    | _ => (O, pc, lv, st, I, L)
  | .imul => match st with
    | .int y :: .int x :: r => k ds O np lv (.int (x * y) :: r) I L
    | _ => (O, pc, lv, st, I, L)
  | .idiv => match st with
    | .int y :: .int x :: r => k ds (O ∧ ¬ y = 0) np lv (.int (x / y) :: r) I L
    | _ => (O, pc, lv, st, I, L)
  | .irem => match st with
    | .int y :: .int x :: r => k ds (O ∧ ¬ y = 0) np lv (.int (x - x / y * y) :: r) I L
    | _ => (O, pc, lv, st, I, L)
  | .iand => match st with
    | .int y :: .int x :: r => k ds O np lv (.int (x &&& y) :: r) I L
    | _ => (O, pc, lv, st, I, L)
  | .ior => match st with
    | .int y :: .int x :: r => k ds O np lv (.int (x ||| y) :: r) I L
    | _ => (O, pc, lv, st, I, L)
  | .ixor => match st with
    | .int y :: .int x :: r => k ds O np lv (.int (x ^^^ y) :: r) I L
    | _ => (O, pc, lv, st, I, L)
  | .ishl => match st with
    | .int y :: .int x :: r => k ds O np lv (.int (x <<< (y &&& 31)) :: r) I L
    | _ => (O, pc, lv, st, I, L)
  | .ishr => match st with
    | .int y :: .int x :: r => k ds O np lv (.int (x >>> (y &&& 31)) :: r) I L
    | _ => (O, pc, lv, st, I, L)
  | .iushr => match st with
    | .int y :: .int x :: r => k ds O np lv (.int (x.toUInt32 >>> (y.toUInt32 &&& Int32.toUInt32 31)).toInt32 :: r) I L
    | _ => (O, pc, lv, st, I, L)
  | .ineg => match st with
    | .int x :: r => k ds O np lv (.int (-x) :: r) I L
    | _ => (O, pc, lv, st, I, L)
  | .ladd => match st with
    | .long y :: .long x :: r => k ds O np lv (.long (x + y) :: r) I L
    | _ => (O, pc, lv, st, I, L)
  | .lsub => match st with
    | .long y :: .long x :: r => k ds O np lv (.long (x - y) :: r) I L
    | _ => (O, pc, lv, st, I, L)
  | .lmul => match st with
    | .long y :: .long x :: r => k ds O np lv (.long (x * y) :: r) I L
    | _ => (O, pc, lv, st, I, L)
  | .ldiv => match st with
    | .long y :: .long x :: r => k ds (O ∧ ¬ y = 0) np lv (.long (x / y) :: r) I L
    | _ => (O, pc, lv, st, I, L)
  | .lrem => match st with
    | .long y :: .long x :: r => k ds (O ∧ ¬ y = 0) np lv (.long (x - x / y * y) :: r) I L
    | _ => (O, pc, lv, st, I, L)
  | .lneg => match st with
    | .long x :: r => k ds O np lv (.long (-x) :: r) I L
    | _ => (O, pc, lv, st, I, L)
  | .lshl => match st with
    | .int y :: .long x :: r => k ds O np lv (.long (x <<< (y.toInt64 &&& 63)) :: r) I L
    | _ => (O, pc, lv, st, I, L)
  | .lcmp => match st with
    | .long y :: .long x :: r => k ds O np lv (.int (lg_cmp x y) :: r) I L
    | _ => (O, pc, lv, st, I, L)
  | .i2l => match st with
    | .int x :: r => k ds O np lv (.long x.toInt64 :: r) I L
    | _ => (O, pc, lv, st, I, L)
  | .l2i => match st with
    | .long x :: r => k ds O np lv (.int x.toInt32 :: r) I L
    | _ => (O, pc, lv, st, I, L)
  | .i2f => match st with
    | .int x :: r => k ds O np lv (.float (FP.i2f x) :: r) I L
    | _ => (O, pc, lv, st, I, L)
  | .i2d => match st with
    | .int x :: r => k ds O np lv (.double (FP.i2d x) :: r) I L
    | _ => (O, pc, lv, st, I, L)
  | .l2d => match st with
    | .long x :: r => k ds O np lv (.double (FP.l2d x) :: r) I L
    | _ => (O, pc, lv, st, I, L)
  | .f2i => match st with
    | .float x :: r => k ds O np lv (.int (FP.f2i x) :: r) I L
    | _ => (O, pc, lv, st, I, L)
  | .d2l => match st with
    | .double x :: r => k ds O np lv (.long (FP.d2l x) :: r) I L
    | _ => (O, pc, lv, st, I, L)
  | .fsub => match st with
    | .float y :: .float x :: r => k ds (O ∧ vf_n32 (FP.fsub x y)) np lv (.float (FP.fsub x y) :: r) I L
    | _ => (O, pc, lv, st, I, L)
  | .fmul => match st with
    | .float y :: .float x :: r => k ds (O ∧ vf_n32 (FP.fmul x y)) np lv (.float (FP.fmul x y) :: r) I L
    | _ => (O, pc, lv, st, I, L)
  | .fdiv => match st with
    | .float y :: .float x :: r => k ds (O ∧ vf_n32 (FP.fdiv x y)) np lv (.float (FP.fdiv x y) :: r) I L
    | _ => (O, pc, lv, st, I, L)
  | .fcmp op => match st with
    | .float y :: .float x :: r => k ds O np lv (.int (Op.cmpValue (FP.fcmp x y) op) :: r) I L
    | _ => (O, pc, lv, st, I, L)
  | .dsub => match st with
    | .double y :: .double x :: r => k ds (O ∧ vf_n64 (FP.dsub x y)) np lv (.double (FP.dsub x y) :: r) I L
    | _ => (O, pc, lv, st, I, L)
  | .dmul => match st with
    | .double y :: .double x :: r => k ds (O ∧ vf_n64 (FP.dmul x y)) np lv (.double (FP.dmul x y) :: r) I L
    | _ => (O, pc, lv, st, I, L)
  | .ddiv => match st with
    | .double y :: .double x :: r => k ds (O ∧ vf_n64 (FP.ddiv x y)) np lv (.double (FP.ddiv x y) :: r) I L
    | _ => (O, pc, lv, st, I, L)
  | .dcmp op => match st with
    | .double y :: .double x :: r => k ds O np lv (.int (Op.cmpValue (FP.dcmp x y) op) :: r) I L
    | _ => (O, pc, lv, st, I, L)
  | .dup => match st with
    | .int x :: r => k ds O np lv (.int x :: .int x :: r) I L
    | .ref x :: r => k ds O np lv (.ref x :: .ref x :: r) I L
    | _ => (O, pc, lv, st, I, L)
  | .dup2 => match st with
    | .int y :: .ref x :: r => k ds O np lv (.int y :: .ref x :: .int y :: .ref x :: r) I L
    | _ => (O, pc, lv, st, I, L)
  | .goto _ => k ds O tg lv st I L
  | .ifCond .eq _ => match st with
    | .int x :: r => brr k (x = 0) np tg ds O pc lv st r I L
    | _ => (O, pc, lv, st, I, L)
  | .ifCond .ne _ => match st with
    | .int x :: r => brr k (x ≠ 0) np tg ds O pc lv st r I L
    | _ => (O, pc, lv, st, I, L)
  | .ifCond .lt _ => match st with
    | .int x :: r => brr k (x < 0) np tg ds O pc lv st r I L
    | _ => (O, pc, lv, st, I, L)
  | .ifCond .ge _ => match st with
    | .int x :: r => brr k (0 ≤ x) np tg ds O pc lv st r I L
    | _ => (O, pc, lv, st, I, L)
  | .ifCond .gt _ => match st with
    | .int x :: r => brr k (0 < x) np tg ds O pc lv st r I L
    | _ => (O, pc, lv, st, I, L)
  | .ifCond .le _ => match st with
    | .int x :: r => brr k (x ≤ 0) np tg ds O pc lv st r I L
    | _ => (O, pc, lv, st, I, L)
  | .if_icmp .eq _ => match st with
    | .int y :: .int x :: r => brr k (x = y) np tg ds O pc lv st r I L
    | _ => (O, pc, lv, st, I, L)
  | .if_icmp .ne _ => match st with
    | .int y :: .int x :: r => brr k (x ≠ y) np tg ds O pc lv st r I L
    | _ => (O, pc, lv, st, I, L)
  | .if_icmp .lt _ => match st with
    | .int y :: .int x :: r => brr k (x < y) np tg ds O pc lv st r I L
    | _ => (O, pc, lv, st, I, L)
  | .if_icmp .ge _ => match st with
    | .int y :: .int x :: r => brr k (y ≤ x) np tg ds O pc lv st r I L
    | _ => (O, pc, lv, st, I, L)
  | .if_icmp .gt _ => match st with
    | .int y :: .int x :: r => brr k (y < x) np tg ds O pc lv st r I L
    | _ => (O, pc, lv, st, I, L)
  | .if_icmp .le _ => match st with
    | .int y :: .int x :: r => brr k (x ≤ y) np tg ds O pc lv st r I L
    | _ => (O, pc, lv, st, I, L)
  | .getfield ix => match st with
    | .ref c :: r => match F ix with
      | some (ci, j, 0, _) => k ds (O ∧ kd c = (0, ci, 0)) np lv (.int (I c j) :: r) I L
      | some (ci, j, 1, _) => k ds (O ∧ kd c = (0, ci, 0)) np lv (.long (L c j) :: r) I L
      | some (ci, _, 2, off) => match ds with
        | (q, _) :: ds' => k ds' (O ∧ (kd c = (0, ci, 0) ∧ q = c + off)) np lv (.ref q :: r) I L
        | _ => (O, pc, lv, st, I, L)
      | some (ci, j, 3, _) => k ds (O ∧ kd c = (0, ci, 0)) np lv (.int (I c j) :: r) I L
      | _ => (O, pc, lv, st, I, L)
    | _ => (O, pc, lv, st, I, L)
  | .putfield ix => match st with
    | .int v :: .ref c :: r => match F ix with
      | some (ci, j, 0, _) => k ds (O ∧ kd c = (0, ci, 0)) np lv r (mu I c j v) L
      | some (ci, j, 3, _) => k ds (O ∧ (kd c = (0, ci, 0) ∧ (v = 0 ∨ v = 1))) np lv r (mu I c j v) L
      | _ => (O, pc, lv, st, I, L)
    | .long v :: .ref c :: r => match F ix with
      | some (ci, j, 1, _) => k ds (O ∧ kd c = (0, ci, 0)) np lv r I (mu L c j v)
      | _ => (O, pc, lv, st, I, L)
    | _ => (O, pc, lv, st, I, L)
  | .iaload => match st with
    | .int x :: .ref c :: r => match ds with
      | (j, n) :: ds' => k ds' (O ∧ (kd c = (1, n, 0) ∧ x = nI j ∧ j < n)) np lv (.int (I c j) :: r) I L
      | _ => (O, pc, lv, st, I, L)
    | _ => (O, pc, lv, st, I, L)
  | .laload => match st with
    | .int x :: .ref c :: r => match ds with
      | (j, n) :: ds' => k ds' (O ∧ (kd c = (2, n, 0) ∧ x = nI j ∧ j < n)) np lv (.long (L c j) :: r) I L
      | _ => (O, pc, lv, st, I, L)
    | _ => (O, pc, lv, st, I, L)
  | .baload => match st with
    | .int x :: .ref c :: r => match ds with
      | (j, n) :: ds' => k ds' (O ∧ (kd c = (3, n, 0) ∧ x = nI j ∧ j < n)) np lv (.int (I c j) :: r) I L
      | _ => (O, pc, lv, st, I, L)
    | _ => (O, pc, lv, st, I, L)
  | .aaload => match st with
    | .int x :: .ref c :: r => match ds with
      | (j, n) :: (q, t) :: ds' => k ds' (O ∧ ((∃ w, kd c = (t, n, w) ∧ q = c + 1 + j * w) ∧ 4 ≤ t ∧ t ≤ 6 ∧ x = nI j ∧ j < n)) np lv (.ref q :: r) I L
      | _ => (O, pc, lv, st, I, L)
    | _ => (O, pc, lv, st, I, L)
  | .iastore => match st with
    | .int v :: .int x :: .ref c :: r => match ds with
      | (j, n) :: ds' => k ds' (O ∧ (kd c = (1, n, 0) ∧ x = nI j ∧ j < n)) np lv r (mu I c j v) L
      | _ => (O, pc, lv, st, I, L)
    | _ => (O, pc, lv, st, I, L)
  | .lastore => match st with
    | .long v :: .int x :: .ref c :: r => match ds with
      | (j, n) :: ds' => k ds' (O ∧ (kd c = (2, n, 0) ∧ x = nI j ∧ j < n)) np lv r I (mu L c j v)
      | _ => (O, pc, lv, st, I, L)
    | _ => (O, pc, lv, st, I, L)
  | .bastore => match st with
    | .int v :: .int x :: .ref c :: r => match ds with
      | (j, n) :: ds' => k ds' (O ∧ (kd c = (3, n, 0) ∧ x = nI j ∧ j < n ∧ (v = 0 ∨ v = 1))) np lv r (mu I c j v) L
      | _ => (O, pc, lv, st, I, L)
    | _ => (O, pc, lv, st, I, L)
  | .ireturn => match st with
    | [.int x] => (O, RET, lv, [.int x], I, L)
    | _ => (O, pc, lv, st, I, L)
  | .lreturn => match st with
    | [.long x] => (O, RET, lv, [.long x], I, L)
    | _ => (O, pc, lv, st, I, L)
  | .freturn => match st with
    | [.float x] => (O, RET, lv, [.float x], I, L)
    | _ => (O, pc, lv, st, I, L)
  | .dreturn => match st with
    | [.double x] => (O, RET, lv, [.double x], I, L)
    | _ => (O, pc, lv, st, I, L)
  | .return_ => match st with
    | [] => (O, RET, lv, [], I, L)
    | _ => (O, pc, lv, st, I, L)
  | _ => (O, pc, lv, st, I, L)
def run (kd : KdT) (F : Ft) (P : List En) : Nat → Kt
  | 0 => fun _ O pc lv st I L => (O, pc, lv, st, I, L)
  | n + 1 => fun ds O pc lv st I L => match lk P pc with
    | some (ins, np, tg, cv) => stp kd F (run kd F P n) ins np tg cv ds O pc lv st I L
    | none => (O, pc, lv, st, I, L)
end
section
/-! THE WORLD of numbered cells over the heap -/
def cz (ad : Nat → Nat) : Value → Value
  | .ref i => .ref (ad i)
  | v => v
theorem cz_cat (ad : Nat → Nat) (v : Value) : (cz ad v).category = v.category := by cases v <;> rfl
/-- the fields of an object: kind 0 and 3 whole numbers, 1 long ones, 2 a reference that many cells further -/
def fdv (ad : Nat → Nat) (I : IM) (L : LM) (i : Nat) : Nat → List (Nat × Nat) → List Value
  | _, [] => []
  | k, (t, o) :: r => (if t = 1 then .long (L i k) else if t = 2 then .ref (ad (i + o)) else .int (I i k)) :: fdv ad I L i (k + 1) r
/-- the classes' fields, by the numbers of vwCl: kind, and how many cells further a reference lies -/
def FD (ci : Nat) : List (Nat × Nat) :=
  if ci = 0 then [(2, 1), (0, 0), (0, 0), (3, 0), (0, 0), (0, 0)]
  else if ci = 1 then [(2, 1), (0, 0), (0, 0)]
  else if ci = 2 then [(2, 1), (2, 7), (0, 0)]
  else if ci = 3 then [(0, 0), (2, 1), (2, 10), (2, 11), (2, 17)]
  else if ci = 4 then [(2, 1), (2, 19), (2, 129), (2, 166), (2, 167), (0, 0), (2, 168), (2, 169), (2, 170), (2, 171), (2, 179)]
  else [(2, 1), (2, 2), (0, 0), (2, 3), (2, 4), (2, 5), (0, 0), (0, 0), (2, 6), (2, 7), (2, 8), (2, 9), (0, 0), (3, 0), (0, 0), (0, 0), (0, 0), (0, 0), (0, 0), (2, 10), (2, 11), (0, 0), (1, 0), (1, 0)]
def ctn (cy : Nat → ClassId) (kd : KdT) (ad : Nat → Nat) (I : IM) (L : LM) (i : Nat) : va_E :=
  if (kd i).1 = 0 then .inr ((kd i).2.1, fdv ad I L i 0 (FD (kd i).2.1))
  else if (kd i).1 = 1 then .inl (cy 0, (kd i).2.1, .inl (I i))
  else if (kd i).1 = 2 then .inl (cy 1, (kd i).2.1, .inr (.inl (L i)))
  else if (kd i).1 = 3 then .inl (cy 2, (kd i).2.1, .inl (I i))
  else .inl (cy ((kd i).1 - 1), (kd i).2.1, .inr (.inr (.inr (.inr (fun j => if j < (kd i).2.1 then some (ad (i + 1 + j * (kd i).2.2)) else none)))))
/-- the world: N cells -/
def wd (D : va_G) (cy : Nat → ClassId) (kd : KdT) (ad : Nat → Nat) (N : Nat) (I : IM) (L : LM) (H : Heap) : Prop := ∀ i, i < N → va_at D vwCl (ad i, ctn cy kd ad I L i) H
def AA (ad : Nat → Nat) (N : Nat) : Nat → Prop := fun q => ∃ i, i < N ∧ q = ad i
def inj (ad : Nat → Nat) (N : Nat) : Prop := ∀ i j, i < N → j < N → ad i = ad j → i = j
/-- the table of kinds is a good one: kinds 0 to 6, and what is named lies within; no array is too long -/
def kdOK (kd : KdT) (N : Nat) : Prop := (∀ i, (kd i).1 ≤ 6 → i < N) ∧ (∀ i, (kd i).2.1 < 2147483648)
def tysC (cy : Nat → ClassId) : List (ClassId × FieldType) := [(cy 0, .int), (cy 1, .long), (cy 2, .boolean), (cy 3, .object "BladeDesk$State"), (cy 4, .array .int), (cy 5, .array .long), (cy 6, .double)]
theorem mu_self {α : Type} (f : Nat → Nat → α) (c j : Nat) (v : α) : mu f c j v c j = v := by simp [mu]
theorem mu_row {α : Type} (f : Nat → Nat → α) (c j : Nat) (v : α) : mu f c j v c = fun b => if b = j then v else f c b := by funext b; simp [mu]
theorem mu_ne {α : Type} (f : Nat → Nat → α) {c j a : Nat} (v : α) (h : a ≠ c) : mu f c j v a = f a := by funext b; simp [mu, h]
theorem fdv_get (ad : Nat → Nat) (I : IM) (L : LM) (i : Nat) : ∀ (l : List (Nat × Nat)) (k0 k : Nat) (t o : Nat), l[k]? = some (t, o) → (fdv ad I L i k0 l)[k]? = some (if t = 1 then .long (L i (k0 + k)) else if t = 2 then .ref (ad (i + o)) else .int (I i (k0 + k)))
  | [], _, _, _, _, h => by simp at h
  | (t1, o1) :: r, k0, 0, t, o, h => by
    simp at h
    obtain ⟨rfl, rfl⟩ := h
    simp [fdv]
  | (t1, o1) :: r, k0, k + 1, t, o, h => by
    rw [List.getElem?_cons_succ] at h
    have := fdv_get ad I L i r (k0 + 1) k t o h
    rw [show fdv ad I L i k0 ((t1, o1) :: r) = (if t1 = 1 then .long (L i k0) else if t1 = 2 then .ref (ad (i + o1)) else .int (I i k0)) :: fdv ad I L i (k0 + 1) r from rfl, List.getElem?_cons_succ, this]
    simp only [show k0 + 1 + k = k0 + (k + 1) by omega]
theorem fdv_len (ad : Nat → Nat) (I : IM) (L : LM) (i : Nat) : ∀ (l : List (Nat × Nat)) (k0 : Nat), (fdv ad I L i k0 l).length = l.length
  | [], _ => rfl
  | (t, o) :: r, k0 => by simp [fdv, fdv_len ad I L i r (k0 + 1)]
theorem fdv_other (ad : Nat → Nat) (I I2 : IM) (L L2 : LM) (i : Nat) (h1 : I2 i = I i) (h2 : L2 i = L i) : ∀ (l : List (Nat × Nat)) (k0 : Nat), fdv ad I2 L2 i k0 l = fdv ad I L i k0 l
  | [], _ => rfl
  | (t, o) :: r, k0 => by simp [fdv, h1, h2, fdv_other ad I I2 L L2 i h1 h2 r (k0 + 1)]
theorem fdv_tail (ad : Nat → Nat) (I : IM) (L : LM) (i j : Nat) (v : Int32) : ∀ (l : List (Nat × Nat)) (k0 : Nat), j < k0 → fdv ad (mu I i j v) L i k0 l = fdv ad I L i k0 l
  | [], _, _ => rfl
  | (t, o) :: r, k0, h => by
    have hne : ¬ k0 = j := by omega
    simp [fdv, mu, hne, fdv_tail ad I L i j v r (k0 + 1) (by omega)]
theorem fdv_setI (ad : Nat → Nat) (I : IM) (L : LM) (i j : Nat) (v : Int32) : ∀ (l : List (Nat × Nat)) (k0 k : Nat) (t o : Nat), l[k]? = some (t, o) → t ≠ 1 → t ≠ 2 → j = k0 + k → fdv ad (mu I i j v) L i k0 l = (fdv ad I L i k0 l).set k (.int v)
  | [], _, _, _, _, h, _, _, _ => by simp at h
  | (t1, o1) :: r, k0, 0, t, o, h, n1, n2, hj => by
    simp at h
    obtain ⟨rfl, rfl⟩ := h
    have hj : k0 = j := by omega
    subst hj
    have e : fdv ad (mu I i k0 v) L i (k0 + 1) r = fdv ad I L i (k0 + 1) r := fdv_tail ad I L i k0 v r (k0 + 1) (by omega)
    simp only [fdv, if_neg n1, if_neg n2, List.set_cons_zero, e]
    simp [mu]
  | (t1, o1) :: r, k0, k + 1, t, o, h, n1, n2, hj => by
    rw [List.getElem?_cons_succ] at h
    have := fdv_setI ad I L i j v r (k0 + 1) k t o h n1 n2 (by omega)
    simp only [fdv, List.set_cons_succ, this]
    have hne : ¬ k0 = j := by omega
    simp [mu, hne]
theorem fdv_tailL (ad : Nat → Nat) (I : IM) (L : LM) (i j : Nat) (v : Int64) : ∀ (l : List (Nat × Nat)) (k0 : Nat), j < k0 → fdv ad I (mu L i j v) i k0 l = fdv ad I L i k0 l
  | [], _, _ => rfl
  | (t, o) :: r, k0, h => by
    have hne : ¬ k0 = j := by omega
    simp [fdv, mu, hne, fdv_tailL ad I L i j v r (k0 + 1) (by omega)]
theorem fdv_setL (ad : Nat → Nat) (I : IM) (L : LM) (i j : Nat) (v : Int64) : ∀ (l : List (Nat × Nat)) (k0 k : Nat) (o : Nat), l[k]? = some (1, o) → j = k0 + k → fdv ad I (mu L i j v) i k0 l = (fdv ad I L i k0 l).set k (.long v)
  | [], _, _, _, h, _ => by simp at h
  | (t1, o1) :: r, k0, 0, o, h, hj => by
    simp at h
    obtain ⟨rfl, rfl⟩ := h
    have hj : k0 = j := by omega
    subst hj
    have e : fdv ad I (mu L i k0 v) i (k0 + 1) r = fdv ad I L i (k0 + 1) r := fdv_tailL ad I L i k0 v r (k0 + 1) (by omega)
    simp only [fdv, if_true, List.set_cons_zero, e]
    simp [mu]
  | (t1, o1) :: r, k0, k + 1, o, h, hj => by
    rw [List.getElem?_cons_succ] at h
    have := fdv_setL ad I L i j v r (k0 + 1) k o h (by omega)
    simp only [fdv, List.set_cons_succ, this]
    have hne : ¬ k0 = j := by omega
    simp [mu, hne]
/-- a world behind a change of one cell -/
theorem wd_put {D : va_G} {cy : Nat → ClassId} {kd : KdT} {ad : Nat → Nat} {N : Nat} {I I2 : IM} {L L2 : LM} {H H1 : Heap} (hinj : inj ad N) (h : wd D cy kd ad N I L H) {c : Nat} (hc : c < N) (he : va_at D vwCl (ad c, ctn cy kd ad I2 L2 c) H1) (oq : ∀ q : Nat, q ≠ ad c → H1[q]? = H[q]?) (h1 : ∀ i, i ≠ c → I2 i = I i) (h2 : ∀ i, i ≠ c → L2 i = L i) : wd D cy kd ad N I2 L2 H1 := by
  intro i hi
  by_cases e : i = c
  · subst e; exact he
  · have : ctn cy kd ad I2 L2 i = ctn cy kd ad I L i := by
      unfold ctn
      rw [h1 i e, h2 i e, fdv_other ad I I2 L L2 i (h1 i e) (h2 i e)]
    rw [this]
    exact (h i hi).kept (oq (ad i) (fun z => e (hinj i c hi hc z)))
theorem wd_kept {D : va_G} {cy : Nat → ClassId} {kd : KdT} {ad : Nat → Nat} {N : Nat} {I : IM} {L : LM} {H H1 : Heap} (h : wd D cy kd ad N I L H) (oq : ∀ i, i < N → H1[ad i]? = H[ad i]?) : wd D cy kd ad N I L H1 := fun i hi => (h i hi).kept (oq i hi)
end
section
/-! SOUNDNESS of the small machine -/
def ilen : Instr → Nat
  | .bipush _ => 2
  | .sipush _ => 3
  | .ldc _ => 2
  | .ldc_w _ => 3
  | .ldc2_w _ => 3
  | .iload _ => 2
  | .lload _ => 2
  | .fload _ => 2
  | .dload _ => 2
  | .aload _ => 2
  | .istore _ => 2
  | .lstore _ => 2
  | .fstore _ => 2
  | .dstore _ => 2
  | .astore _ => 2
  | .iinc _ _ => 3
  | .goto _ => 3
  | .ifCond _ _ => 3
  | .if_icmp _ _ => 3
  | .getfield _ => 3
  | .putfield _ => 3
  | .invokevirtual _ => 3
  | .invokestatic _ => 3
  | .invokespecial _ => 3
  | .new _ => 3
  | .newarray _ => 2
  | .anewarray _ => 3
  | .multianewarray _ _ => 4
  | _ => 1
def btB (ins : Instr) (pc tg : Nat) : Bool := match ins with
  | .goto off => decide ((pc : Int) + off = (tg : Int))
  | .ifCond _ off => decide ((pc : Int) + off = (tg : Int))
  | .if_icmp _ off => decide ((pc : Int) + off = (tg : Int))
  | _ => true
def cvB (own : String) (ins : Instr) (cv : Value) : Bool := match ins with
  | .iconst n => decide (cv = .int (Int32.ofInt n))
  | .bipush n => decide (cv = .int (Int8.ofInt n).toInt32)
  | .sipush n => decide (cv = .int (Int16.ofInt n).toInt32)
  | .lconst n => decide (cv = .long (Int64.ofNat n.val))
  | .fconst n => (decide (n = 0 ∧ cv = .float 0) || decide (n = 1 ∧ cv = .float 1065353216)) || decide (n = 2 ∧ cv = .float 1073741824)
  | .dconst n => decide (n = 0 ∧ cv = .double 0) || decide (n = 1 ∧ cv = .double 4607182418800017408)
  | .iinc _ n => decide (cv = .int (Int32.ofInt n))
  | .ldc ix => (match cv with
    | .int v => decide (Cond.constant own ix v ∈ WB)
    | .float v => decide (Cond.constantFloat own ix v ∈ WB)
    | _ => false)
  | .ldc_w ix => (match cv with
    | .int v => decide (Cond.constant own ix v ∈ WB)
    | _ => false)
  | .ldc2_w ix => (match cv with
    | .long v => decide (Cond.constantLong own ix v ∈ WB)
    | .double v => decide (Cond.constantDouble own ix v ∈ WB)
    | _ => false)
  | _ => true
def okE (cc : ByteArray) (own : String) (q : En) : Bool := decide (decode cc q.1 = .ok (q.2.1, ilen q.2.1)) && Nat.beq q.2.2.1 (q.1 + ilen q.2.1) && btB q.2.1 q.1 q.2.2.2.1 && cvB own q.2.1 q.2.2.2.2 && (Nat.ble q.1 65535 && (Nat.ble q.2.2.1 65535 && Nat.ble q.2.2.2.1 65535))
def okP (cc : ByteArray) (own : String) (P : List En) : Bool := P.all (okE cc own)
theorem lk_mem : ∀ (P : List En) {pc : Nat} {r : Instr × Nat × Nat × Value}, lk P pc = some r → (pc, r) ∈ P
  | [], pc, r, h => by simp [lk] at h
  | (q, z) :: t, pc, r, h => by
    simp only [lk] at h
    cases hq : Nat.beq q pc with
    | true =>
      rw [hq] at h
      simp only [cond_true, Option.some.injEq] at h
      rw [Nat.eq_of_beq_eq_true hq, h]
      exact List.mem_cons_self
    | false =>
      rw [hq] at h
      simp only [cond_false] at h
      exact List.mem_cons_of_mem _ (lk_mem t h)
/-- what is known of an instruction that the table names -/
def InsOK (cc : ByteArray) (own : String) (pc : Nat) (ins : Instr) (np tg : Nat) (cv : Value) : Prop := decode cc pc = .ok (ins, ilen ins) ∧ np = pc + ilen ins ∧ btB ins pc tg = true ∧ cvB own ins cv = true ∧ pc < RET ∧ np < RET ∧ tg < RET
theorem insOK_of {cc : ByteArray} {own : String} {P : List En} (h : okP cc own P = true) {pc : Nat} {ins : Instr} {np tg : Nat} {cv : Value} (hl : lk P pc = some (ins, np, tg, cv)) : InsOK cc own pc ins np tg cv := by
  have h1 := List.all_eq_true.mp h _ (lk_mem P hl)
  simp only [okE, Bool.and_eq_true, decide_eq_true_eq, Nat.ble_eq] at h1
  obtain ⟨⟨⟨⟨a, b⟩, c⟩, d⟩, e1, e2, e3⟩ := h1
  exact ⟨a, Nat.eq_of_beq_eq_true b, c, d, by unfold RET; omega, by unfold RET; omega, by unfold RET; omega⟩
/-- what is known of a field that the table names -/
def FOK (own : String) (F : Ft) : Prop := ∀ ix ci j t off, F ix = some (ci, j, t, off) → ∃ (C : String) (T : u_T) (NF : Nat) (ty0 : Nat → FieldType), vwCl[ci]? = some (C, T, NF) ∧ j < NF ∧ (∀ w ∈ u_ws C T NF, w ∈ WB) ∧ Cond.fieldLink own ix C (T j).2.1 (T j).2.2.1 ∈ WB ∧ (T j).1 = C ∧ (FD ci)[j]? = some (t, off) ∧ (FD ci).length = NF ∧ (∀ k, k < NF → parseFieldDescriptor (T k).2.2.1 = some (ty0 k)) ∧ (∀ a, a < NF → ∀ b, b < NF → a ≠ b → (T a).2.1 ≠ (T b).2.1) ∧ (t ≠ 2 → (T j).2.2.2 = false) ∧ (t = 0 → ty0 j = .int) ∧ (t = 1 → ty0 j = .long) ∧ (t = 3 → ty0 j = .boolean)
/-- the fixed part of a walk -/
def Cx (p : Program) (s : State) (m : MethodId) (args : Array Value) (c : Code) (cc : ByteArray) (nL : Nat) (own : String) (D : va_G) (cy : Nat → ClassId) (kd : KdT) (ad : Nat → Nat) (N : Nat) : Prop :=
  p.tables.exec = Jvm.exec ∧ c.code = cc ∧ c.maxLocals = nL ∧ s.vm.findClass own = some m.cls ∧ (∀ w ∈ WB, w.before args s = true) ∧ va_K D vwCl (tysC cy) s ∧ inj ad N ∧ kdOK kd N
def VV (p : Program) (l : Launch) (e : Env) (R : Room) (s : State) (m : MethodId) (args : Array Value) (below : List Frame) (meth : Method) (c : Code) (Q : State → Prop) (nL : Nat) (D : va_G) (cy : Nat → ClassId) (kd : KdT) (ad : Nat → Nat) (N : Nat) (pc : Nat) (lv : LV) (st : List Value) (I : IM) (L : LM) : Prop :=
  ∀ (H : Heap) (locs : List Loc) (ls : Array Slot), wd D cy kd ad N I L H → va_S (AA ad N) s.heap H locs → lv_has ls nL (lv.map fun q => (q.1, cz ad q.2)) → W p l e R s m args below meth c H locs 0 0 Q (F0 m pc ls (st.map (cz ad)))
/-- at the end: what is to hold of the answer and the memory -/
def VR (V : Nat → LV → List Value → IM → LM → Prop) (E : List Value → IM → LM → Prop) (r : Rs) : Prop := if r.2.1 = RET then E r.2.2.2.1 r.2.2.2.2.1 r.2.2.2.2.2 else V r.2.1 r.2.2.1 r.2.2.2.1 r.2.2.2.2.1 r.2.2.2.2.2
def Res (V : Nat → LV → List Value → IM → LM → Prop) (E : List Value → IM → LM → Prop) (O : Prop) (r : Rs) (G : Prop) : Prop := (r.1 → O) ∧ (r.1 → VR V E r → G)
section RES
variable {V : Nat → LV → List Value → IM → LM → Prop} {E : List Value → IM → LM → Prop} {O ob G G' : Prop} {r : Rs}
theorem res_pl (h : Res V E O r G') (g : G' → G) : Res V E O r G := ⟨h.1, fun a b => g (h.2 a b)⟩
theorem res_ob (h : Res V E (O ∧ ob) r G') (g : ob → G' → G) : Res V E O r G := ⟨fun a => (h.1 a).1, fun a b => g (h.1 a).2 (h.2 a b)⟩
theorem res_stuck {pc : Nat} {lv : LV} {st : List Value} {I : IM} {L : LM} (h : pc < RET) : Res V E O (O, pc, lv, st, I, L) (V pc lv st I L) := ⟨id, fun _ b => by simpa [VR, Nat.ne_of_lt h] using b⟩
theorem res_ret {lv : LV} {st : List Value} {I : IM} {L : LM} (g : E st I L → G) : Res V E O (O, RET, lv, st, I, L) G := ⟨id, fun _ b => g (by simpa [VR] using b)⟩
theorem res_br {k : Kt} {P : Prop} {np tg : Nat} {ds : List (Nat × Nat)} {pc : Nat} {lv : LV} {st0 st : List Value} {I : IM} {L : LM} (hpc : pc < RET) (hk : ∀ ds O pc, pc < RET → Res V E O (k ds O pc lv st I L) (V pc lv st I L)) (hn : np < RET) (ht : tg < RET) (gt : P → V tg lv st I L → V pc lv st0 I L) (gf : ¬ P → V np lv st I L → V pc lv st0 I L) : Res V E O (brr k P np tg ds O pc lv st0 st I L) (V pc lv st0 I L) := by
  unfold brr
  split
  · exact res_ob (hk _ _ _ ht) gt
  · exact res_ob (hk _ _ _ hn) gf
  · exact res_stuck hpc
end RES
theorem gl_get {ls : Array Slot} {nL : Nat} {ad : Nat → Nat} : ∀ {lv : LV} {i : Nat} {v : Value}, gl lv i = some v → (∀ q ∈ lv.map (fun q => (q.1, cz ad q.2)), ls[q.1]? = some (.val q.2)) → ls[i]? = some (.val (cz ad v))
  | [], _, _, h, _ => by simp [gl] at h
  | (j, w) :: t, i, v, h, hl => by
    simp only [gl] at h
    cases hq : Nat.beq j i with
    | true =>
      rw [hq] at h
      simp only [cond_true, Option.some.injEq] at h
      have := hl (j, cz ad w) (by simp)
      rw [← Nat.eq_of_beq_eq_true hq, ← h]
      exact this
    | false =>
      rw [hq] at h
      simp only [cond_false] at h
      exact gl_get (nL := nL) h (fun q hq2 => hl q (by rw [List.map_cons]; exact List.mem_cons_of_mem _ hq2))
/-- the list behind a store, told by its members -/
def lvOK1 (i : Nat) (v : Value) (lv lv' : LV) : Prop := ∀ q ∈ lv', q = (i, v) ∨ (q ∈ lv ∧ q.1 ≠ i ∧ ¬ (q.1 + 1 = i ∧ q.2.category = 2))
def lvOK2 (i : Nat) (v : Value) (lv lv' : LV) : Prop := ∀ q ∈ lv', q = (i, v) ∨ (q ∈ lv ∧ q.1 ≠ i ∧ q.1 ≠ i + 1 ∧ ¬ (q.1 + 1 = i ∧ q.2.category = 2))
theorem fil1_ok (i : Nat) : ∀ (lv : LV) (k : LV → Rs), ∃ lv', fil1 i lv k = k lv' ∧ ∀ q ∈ lv', q ∈ lv ∧ q.1 ≠ i ∧ ¬ (q.1 + 1 = i ∧ q.2.category = 2)
  | [], k => ⟨[], rfl, fun q h => by cases h⟩
  | (j, w) :: t, k => by
    simp only [fil1]
    cases hq : (Nat.beq j i || (Nat.beq (j + 1) i && Nat.beq w.category 2)) with
    | true =>
      obtain ⟨lv', h1, h2⟩ := fil1_ok i t k
      exact ⟨lv', h1, fun q h => ⟨List.mem_cons_of_mem _ (h2 q h).1, (h2 q h).2⟩⟩
    | false =>
      obtain ⟨lv', h1, h2⟩ := fil1_ok i t (fun t' => k ((j, w) :: t'))
      refine ⟨(j, w) :: lv', h1, fun q h => ?_⟩
      rcases List.mem_cons.mp h with rfl | h
      · simp only [Bool.or_eq_false_iff, Bool.and_eq_false_iff] at hq
        refine ⟨List.mem_cons_self, fun z => ?_, fun z => ?_⟩
        · simp at z
          rw [z] at hq
          simp at hq
        · obtain ⟨z1, z2⟩ := z
          simp at z1 z2
          rw [z1, z2] at hq
          simp at hq
      · exact ⟨List.mem_cons_of_mem _ (h2 q h).1, (h2 q h).2⟩
theorem sl1_ok (i : Nat) (v : Value) : ∀ (lv : LV) (k : LV → Rs), ∃ lv', sl1 i v lv k = k lv' ∧ lvOK1 i v lv lv'
  | [], k => ⟨[(i, v)], rfl, fun q h => Or.inl (List.mem_singleton.mp h)⟩
  | (j, w) :: t, k => by
    simp only [sl1]
    cases hq : Nat.ble i j with
    | true =>
      obtain ⟨lv', h1, h2⟩ := fil1_ok i ((j, w) :: t) (fun t' => k ((i, v) :: t'))
      refine ⟨(i, v) :: lv', h1, fun q h => ?_⟩
      rcases List.mem_cons.mp h with rfl | h
      · exact Or.inl rfl
      · exact Or.inr (h2 q h)
    | false =>
      simp only [cond_false]
      have hji : j < i := by
        rcases Nat.lt_or_ge j i with h | h
        · exact h
        · rw [Nat.ble_eq.mpr h] at hq; cases hq
      cases hq2 : (Nat.beq (j + 1) i && Nat.beq w.category 2) with
      | true =>
        obtain ⟨lv', h1, h2⟩ := sl1_ok i v t k
        refine ⟨lv', h1, fun q h => ?_⟩
        rcases h2 q h with h | h
        · exact Or.inl h
        · exact Or.inr ⟨List.mem_cons_of_mem _ h.1, h.2⟩
      | false =>
        obtain ⟨lv', h1, h2⟩ := sl1_ok i v t (fun t' => k ((j, w) :: t'))
        refine ⟨(j, w) :: lv', h1, fun q h => ?_⟩
        rcases List.mem_cons.mp h with rfl | h
        · refine Or.inr ⟨List.mem_cons_self, Nat.ne_of_lt hji, fun z => ?_⟩
          obtain ⟨z1, z2⟩ := z
          simp at z1 z2
          rw [z1, z2] at hq2
          simp at hq2
        · rcases h2 q h with h | h
          · exact Or.inl h
          · exact Or.inr ⟨List.mem_cons_of_mem _ h.1, h.2⟩
theorem fil2_ok (i : Nat) : ∀ (lv : LV) (k : LV → Rs), ∃ lv', fil2 i lv k = k lv' ∧ ∀ q ∈ lv', q ∈ lv ∧ q.1 ≠ i ∧ q.1 ≠ i + 1 ∧ ¬ (q.1 + 1 = i ∧ q.2.category = 2)
  | [], k => ⟨[], rfl, fun q h => by cases h⟩
  | (j, w) :: t, k => by
    simp only [fil2]
    cases hq : (Nat.beq j i || (Nat.beq j (i + 1) || (Nat.beq (j + 1) i && Nat.beq w.category 2))) with
    | true =>
      obtain ⟨lv', h1, h2⟩ := fil2_ok i t k
      exact ⟨lv', h1, fun q h => ⟨List.mem_cons_of_mem _ (h2 q h).1, (h2 q h).2⟩⟩
    | false =>
      obtain ⟨lv', h1, h2⟩ := fil2_ok i t (fun t' => k ((j, w) :: t'))
      refine ⟨(j, w) :: lv', h1, fun q h => ?_⟩
      rcases List.mem_cons.mp h with rfl | h
      · refine ⟨List.mem_cons_self, fun z => ?_, fun z => ?_, fun z => ?_⟩
        · simp at z
          rw [z] at hq
          simp at hq
        · simp at z
          rw [z] at hq
          simp at hq
        · obtain ⟨z1, z2⟩ := z
          simp at z1 z2
          rw [z1, z2] at hq
          simp at hq
      · exact ⟨List.mem_cons_of_mem _ (h2 q h).1, (h2 q h).2⟩
theorem sl2_ok (i : Nat) (v : Value) : ∀ (lv : LV) (k : LV → Rs), ∃ lv', sl2 i v lv k = k lv' ∧ lvOK2 i v lv lv'
  | [], k => ⟨[(i, v)], rfl, fun q h => Or.inl (List.mem_singleton.mp h)⟩
  | (j, w) :: t, k => by
    simp only [sl2]
    cases hq : Nat.ble i j with
    | true =>
      obtain ⟨lv', h1, h2⟩ := fil2_ok i ((j, w) :: t) (fun t' => k ((i, v) :: t'))
      refine ⟨(i, v) :: lv', h1, fun q h => ?_⟩
      rcases List.mem_cons.mp h with rfl | h
      · exact Or.inl rfl
      · exact Or.inr (h2 q h)
    | false =>
      simp only [cond_false]
      have hji : j < i := by
        rcases Nat.lt_or_ge j i with h | h
        · exact h
        · rw [Nat.ble_eq.mpr h] at hq; cases hq
      cases hq2 : (Nat.beq (j + 1) i && Nat.beq w.category 2) with
      | true =>
        obtain ⟨lv', h1, h2⟩ := sl2_ok i v t k
        refine ⟨lv', h1, fun q h => ?_⟩
        rcases h2 q h with h | h
        · exact Or.inl h
        · exact Or.inr ⟨List.mem_cons_of_mem _ h.1, h.2⟩
      | false =>
        obtain ⟨lv', h1, h2⟩ := sl2_ok i v t (fun t' => k ((j, w) :: t'))
        refine ⟨(j, w) :: lv', h1, fun q h => ?_⟩
        rcases List.mem_cons.mp h with rfl | h
        · refine Or.inr ⟨List.mem_cons_self, Nat.ne_of_lt hji, fun z => ?_, fun z => ?_⟩
          · simp at z
            omega
          · obtain ⟨z1, z2⟩ := z
            simp at z1 z2
            rw [z1, z2] at hq2
            simp at hq2
        · rcases h2 q h with h | h
          · exact Or.inl h
          · exact Or.inr ⟨List.mem_cons_of_mem _ h.1, h.2⟩
theorem lvOK1_has {ls : Array Slot} {nL i : Nat} {v : Value} {lv lv' : LV} {ad : Nat → Nat} (h : lvOK1 i v lv lv') (hl : lv_has ls nL ((i, cz ad v) :: (lv.map fun q => (q.1, cz ad q.2)).filter (fun q => !(q.1 == i) && !(q.1 + 1 == i && q.2.category == 2)))) : lv_has ls nL (lv'.map fun q => (q.1, cz ad q.2)) := by
  refine ⟨hl.1, hl.2.1, fun q hq => hl.2.2 q ?_⟩
  obtain ⟨z, hz, rfl⟩ := List.mem_map.mp hq
  rcases h z hz with rfl | ⟨h1, h2, h3⟩
  · exact List.mem_cons_self
  · refine List.mem_cons_of_mem _ (List.mem_filter.mpr ⟨List.mem_map.mpr ⟨z, h1, rfl⟩, ?_⟩)
    simp only [cz_cat]
    simp
    exact ⟨h2, Classical.not_and_iff_not_or_not.mp h3⟩
theorem lvOK2_has {ls : Array Slot} {nL i : Nat} {v : Value} {lv lv' : LV} {ad : Nat → Nat} (h : lvOK2 i v lv lv') (hl : lv_has ls nL ((i, cz ad v) :: (lv.map fun q => (q.1, cz ad q.2)).filter (fun q => !(q.1 == i) && (!(q.1 == i + 1) && !(q.1 + 1 == i && q.2.category == 2))))) : lv_has ls nL (lv'.map fun q => (q.1, cz ad q.2)) := by
  refine ⟨hl.1, hl.2.1, fun q hq => hl.2.2 q ?_⟩
  obtain ⟨z, hz, rfl⟩ := List.mem_map.mp hq
  rcases h z hz with rfl | ⟨h1, h2, h3, h4⟩
  · exact List.mem_cons_self
  · refine List.mem_cons_of_mem _ (List.mem_filter.mpr ⟨List.mem_map.mpr ⟨z, h1, rfl⟩, ?_⟩)
    simp only [cz_cat]
    simp
    exact ⟨h2, h3, Classical.not_and_iff_not_or_not.mp h4⟩
end
section
def retB (ret : Option FieldType) (ins : Instr) : Bool := match ins with
  | .ireturn => decide (ret = some .int) || decide (ret = some .boolean)
  | .lreturn => decide (ret = some .long)
  | .freturn => decide (ret = some .float)
  | .dreturn => decide (ret = some .double)
  | .return_ => decide (ret = none)
  | _ => true
def locB (nL : Nat) (ins : Instr) : Bool := match ins with
  | .istore i => Nat.blt i nL
  | .astore i => Nat.blt i nL
  | .istore_n i => Nat.blt i.val nL
  | .astore_n i => Nat.blt i.val nL
  | .fstore_n i => Nat.blt i.val nL
  | .lstore i => Nat.blt (i + 1) nL
  | .lstore_n i => Nat.blt (i.val + 1) nL
  | .dstore_n i => Nat.blt (i.val + 1) nL
  | .iinc i _ => Nat.blt i nL
  | _ => true
section SND
variable {p : Program} {l : Launch} {e : Env} {R : Room} {s : State} {m : MethodId} {args : Array Value} {below : List Frame} {meth : Method} {c : Code} {Q : State → Prop} {cc : ByteArray} {nL : Nat} {own : String} {D : va_G} {cy : Nat → ClassId} {kd : KdT} {ad : Nat → Nat} {N : Nat} {E : List Value → IM → LM → Prop}
/-- the world's part of a read -/
theorem wd_obj {i ci a b : Nat} {I : IM} {L : LM} {H : Heap} (hC : Cx p s m args c cc nL own D cy kd ad N) (hW : wd D cy kd ad N I L H) (hk : kd i = (0, a, b)) : i < N ∧ va_P D vwCl [(ad i, .inr (a, fdv ad I L i 0 (FD a)))] H := by
  obtain ⟨-, -, -, -, -, -, -, hkd⟩ := hC
  have hi : i < N := hkd.1 i (by rw [hk]; exact Nat.zero_le 6)
  refine ⟨hi, fun k q hq => ?_⟩
  cases k with
  | zero =>
    cases hq
    have h := hW i hi
    unfold ctn at h
    rw [hk] at h
    simpa using h
  | succ k => simp at hq
theorem wd_arrI {i n b : Nat} {I : IM} {L : LM} {H : Heap} (hC : Cx p s m args c cc nL own D cy kd ad N) (hW : wd D cy kd ad N I L H) (hk : kd i = (1, n, b)) : i < N ∧ va_P D vwCl [(ad i, .inl (cy 0, n, .inl (I i)))] H := by
  obtain ⟨-, -, -, -, -, -, -, hkd⟩ := hC
  have hi : i < N := hkd.1 i (by rw [hk]; exact Nat.le_of_ble_eq_true rfl)
  refine ⟨hi, fun k q hq => ?_⟩
  cases k with
  | zero =>
    cases hq
    have h := hW i hi
    unfold ctn at h
    rw [hk] at h
    simpa using h
  | succ k => simp at hq
theorem wd_arrL {i n b : Nat} {I : IM} {L : LM} {H : Heap} (hC : Cx p s m args c cc nL own D cy kd ad N) (hW : wd D cy kd ad N I L H) (hk : kd i = (2, n, b)) : i < N ∧ va_P D vwCl [(ad i, .inl (cy 1, n, .inr (.inl (L i))))] H := by
  obtain ⟨-, -, -, -, -, -, -, hkd⟩ := hC
  have hi : i < N := hkd.1 i (by rw [hk]; exact Nat.le_of_ble_eq_true rfl)
  refine ⟨hi, fun k q hq => ?_⟩
  cases k with
  | zero =>
    cases hq
    have h := hW i hi
    unfold ctn at h
    rw [hk] at h
    simpa using h
  | succ k => simp at hq
theorem wd_arrZ {i n b : Nat} {I : IM} {L : LM} {H : Heap} (hC : Cx p s m args c cc nL own D cy kd ad N) (hW : wd D cy kd ad N I L H) (hk : kd i = (3, n, b)) : i < N ∧ va_P D vwCl [(ad i, .inl (cy 2, n, .inl (I i)))] H := by
  obtain ⟨-, -, -, -, -, -, -, hkd⟩ := hC
  have hi : i < N := hkd.1 i (by rw [hk]; exact Nat.le_of_ble_eq_true rfl)
  refine ⟨hi, fun k q hq => ?_⟩
  cases k with
  | zero =>
    cases hq
    have h := hW i hi
    unfold ctn at h
    rw [hk] at h
    simpa using h
  | succ k => simp at hq
theorem wd_arrQ {i t n b : Nat} {I : IM} {L : LM} {H : Heap} (hC : Cx p s m args c cc nL own D cy kd ad N) (hW : wd D cy kd ad N I L H) (h4 : 4 ≤ t) (h6 : t ≤ 6) (hk : kd i = (t, n, b)) : i < N ∧ H[ad i]? = some (arrV (cy (t - 1)) n (fun j => va_rf (if j < n then some (ad (i + 1 + j * b)) else none))) := by
  obtain ⟨-, -, -, -, -, -, -, hkd⟩ := hC
  have hi : i < N := hkd.1 i (by rw [hk]; exact h6)
  refine ⟨hi, ?_⟩
  have h := hW i hi
  unfold ctn at h
  rw [hk] at h
  simp only [show ¬ t = 0 by omega, show ¬ t = 1 by omega, show ¬ t = 2 by omega, show ¬ t = 3 by omega, if_false] at h
  exact h
theorem nI_vp {j n : Nat} (h : j < n) (hn : n < 2147483648) : vp_in (nI j) n := vp_in_nI h hn
theorem s_put {A : Nat → Prop} {H0 H H1 : Heap} {locs : List Loc} {a i : Nat} (h : va_S A H0 H locs) (z : H1.size = H.size) (oq : ∀ q : Nat, q ≠ a → H1[q]? = H[q]?) (ha : A a) : va_S A H0 H1 (locs ++ [⟨a, i⟩]) := h.put z oq ha


theorem iinc_row {H : Heap} {locs : List Loc} {cells slots : Nat} {pc : Nat} {ls : Array Slot} {rest : List Value} (hexec : p.tables.exec = Jvm.exec) (hb : c.code = cc) {i : Nat} {n : Int} {x : Int32} {lv : List (Nat × Value)} (hdg : decode cc pc = .ok (.iinc i n, 3)) (h : lv_has ls nL lv) (hg : ls[i]? = some (.val (.int x))) (hn : i < nL)
    (kk : ∀ ls' : Array Slot, lv_has ls' nL ((i, Value.int (x + Int32.ofInt n)) :: lv.filter (fun q => !(q.1 == i) && !(q.1 + 1 == i && q.2.category == 2))) → W p l e R s m args below meth c H locs cells slots Q (F0 m (pc + 3) ls' rest)) : W p l e R s m args below meth c H locs cells slots Q (F0 m pc ls rest) := by
  have h2 : lv_has ls nL ((i, .int x) :: lv) := ⟨h.1, h.2.1, fun q hq => by
    rcases List.mem_cons.mp hq with rfl | hq
    · exact hg
    · exact h.2.2 q hq⟩
  refine lv_iinc (k := 0) hexec hb hdg h2 rfl rfl hn rfl (fun ls1 hl1 => kk ls1 ?_)
  simpa using hl1
theorem aald_row {H : Heap} {locs : List Loc} {cells slots : Nat} {pc : Nat} {ls : Array Slot} {rest : List Value} {i t n b j : Nat} (hexec : p.tables.exec = Jvm.exec) (hb : c.code = cc) (hK : va_K D vwCl (tysC cy) s) (h4 : 4 ≤ t) (h6 : t ≤ 6) (hP : H[ad i]? = some (arrV (cy (t - 1)) n (fun j => va_rf (if j < n then some (ad (i + 1 + j * b)) else none)))) (hj : j < n) (hk2 : ∀ i, (kd i).2.1 < 2147483648) (hkd1 : kd i = (t, n, b)) (hdg : decode cc pc = .ok (.aaload, 1))
    (kk : W p l e R s m args below meth c H locs cells slots Q (F0 m (pc + 1) ls (.ref (ad (i + 1 + j * b)) :: rest))) : W p l e R s m args below meth c H locs cells slots Q (F0 m pc ls (.int (nI j) :: .ref (ad i) :: rest)) := by
  have hn := hk2 i
  rw [hkd1] at hn
  have hin := nI_vp hj hn
  have hcl : (nI j).toNatClampNeg = j := nI_clamp (Nat.lt_trans hj hn)
  obtain ⟨ty, hty, hr⟩ : ∃ ty : FieldType, (tysC cy)[t - 1]? = some (cy (t - 1), ty) ∧ ty.isReference = true := by
    rcases (show t = 4 ∨ t = 5 ∨ t = 6 by omega) with rfl | rfl | rfl <;> exact ⟨_, rfl, rfl⟩
  refine W.aald (v := .ref (ad (i + 1 + j * b))) hexec hb hP ((hK.2 (t - 1) _ hty).1 n _) hr (fun q => by cases q) (by show ¬ (nI j < 0 ∨ (arrV _ _ _).slots.size ≤ _); rw [arrV_size]; exact hin) (by show (arrV _ _ _).slots[_]? = _; rw [hcl, arrV_read _ _ hj, if_pos hj]; rfl) rfl rfl hdg kk
theorem aldI_row {H : Heap} {locs : List Loc} {cells slots : Nat} {pc : Nat} {ls : Array Slot} {rest : List Value} {I : IM} {L : LM} {i n b j : Nat} (hC : Cx p s m args c cc nL own D cy kd ad N) (hkd1 : kd i = (1, n, b)) (hj : j < n) (hW : wd D cy kd ad N I L H) (hdg : decode cc pc = .ok (.iaload, 1))
    (kk : W p l e R s m args below meth c H locs cells slots Q (F0 m (pc + 1) ls (.int (I i j) :: rest))) : W p l e R s m args below meth c H locs cells slots Q (F0 m pc ls (.int (nI j) :: .ref (ad i) :: rest)) := by
  obtain ⟨hlt, hP⟩ := wd_arrI hC hW hkd1
  have hn := hC.2.2.2.2.2.2.2.2 i
  rw [hkd1] at hn
  have hcl : (nI j).toNatClampNeg = j := nI_clamp (Nat.lt_trans hj hn)
  exact va_iald hC.1 hC.2.1 hC.2.2.2.2.2.1 hP 0 0 rfl rfl (nI_vp hj hn) hdg (by rw [hcl]; exact kk)
theorem aldL_row {H : Heap} {locs : List Loc} {cells slots : Nat} {pc : Nat} {ls : Array Slot} {rest : List Value} {I : IM} {L : LM} {i n b j : Nat} (hC : Cx p s m args c cc nL own D cy kd ad N) (hkd1 : kd i = (2, n, b)) (hj : j < n) (hW : wd D cy kd ad N I L H) (hdg : decode cc pc = .ok (.laload, 1))
    (kk : W p l e R s m args below meth c H locs cells slots Q (F0 m (pc + 1) ls (.long (L i j) :: rest))) : W p l e R s m args below meth c H locs cells slots Q (F0 m pc ls (.int (nI j) :: .ref (ad i) :: rest)) := by
  obtain ⟨hlt, hP⟩ := wd_arrL hC hW hkd1
  have hn := hC.2.2.2.2.2.2.2.2 i
  rw [hkd1] at hn
  have hcl : (nI j).toNatClampNeg = j := nI_clamp (Nat.lt_trans hj hn)
  exact va_lald hC.1 hC.2.1 hC.2.2.2.2.2.1 hP 0 1 rfl rfl (nI_vp hj hn) hdg (by rw [hcl]; exact kk)
theorem aldZ_row {H : Heap} {locs : List Loc} {cells slots : Nat} {pc : Nat} {ls : Array Slot} {rest : List Value} {I : IM} {L : LM} {i n b j : Nat} (hC : Cx p s m args c cc nL own D cy kd ad N) (hkd1 : kd i = (3, n, b)) (hj : j < n) (hW : wd D cy kd ad N I L H) (hdg : decode cc pc = .ok (.baload, 1))
    (kk : W p l e R s m args below meth c H locs cells slots Q (F0 m (pc + 1) ls (.int (I i j) :: rest))) : W p l e R s m args below meth c H locs cells slots Q (F0 m pc ls (.int (nI j) :: .ref (ad i) :: rest)) := by
  obtain ⟨hlt, hP⟩ := wd_arrZ hC hW hkd1
  have hn := hC.2.2.2.2.2.2.2.2 i
  rw [hkd1] at hn
  have hcl : (nI j).toNatClampNeg = j := nI_clamp (Nat.lt_trans hj hn)
  exact va_zald hC.1 hC.2.1 hC.2.2.2.2.2.1 hP 0 2 rfl rfl (nI_vp hj hn) hdg (by rw [hcl]; exact kk)
theorem astI_row {H : Heap} {locs : List Loc} {cells slots : Nat} {pc : Nat} {ls : Array Slot} {rest : List Value} {I : IM} {L : LM} {i n b j : Nat} {x : Int32} (hC : Cx p s m args c cc nL own D cy kd ad N) (hkd1 : kd i = (1, n, b)) (hj : j < n) (hW : wd D cy kd ad N I L H) (hS : va_S (AA ad N) s.heap H locs) (hdg : decode cc pc = .ok (.iastore, 1))
    (kk : ∀ H1 locs1, wd D cy kd ad N (mu I i j x) L H1 → va_S (AA ad N) s.heap H1 locs1 → W p l e R s m args below meth c H1 locs1 cells slots Q (F0 m (pc + 1) ls rest)) : W p l e R s m args below meth c H locs cells slots Q (F0 m pc ls (.int x :: .int (nI j) :: .ref (ad i) :: rest)) := by
  obtain ⟨hlt, hP⟩ := wd_arrI hC hW hkd1
  have hn := hC.2.2.2.2.2.2.2.2 i
  rw [hkd1] at hn
  have hin := nI_vp hj hn
  have hcl : (nI j).toNatClampNeg = j := nI_clamp (Nat.lt_trans hj hn)
  refine W.iast hC.1 hC.2.1 (hP 0 _ rfl) ((hC.2.2.2.2.2.1.2 0 _ rfl).1 n (fun j => .int (I i j))) (fun q => by cases q) (by show ¬ (nI j < 0 ∨ (arrV _ _ _).slots.size ≤ _); rw [arrV_size]; exact hin) rfl rfl hdg fun H1 e z oq => ?_
  refine kk H1 _ (wd_put hC.2.2.2.2.2.2.1 hW hlt ?_ oq (fun q hq => mu_ne _ _ hq) (fun _ _ => rfl)) (s_put hS z oq ⟨i, hlt, rfl⟩)
  have hct : ctn cy kd ad (mu I i j x) L i = .inl (cy 0, n, .inl (mu I i j x i)) := by
    unfold ctn
    rw [hkd1]
    rfl
  rw [hct]
  show H1[ad i]? = some (vp_cell _ _)
  rw [e, hcl]
  show some ((vp_cell (cy 0) (n, .inl (I i))).setSlot j (.int x)) = some (vp_cell (cy 0) (n, .inl (mu I i j x i)))
  rw [vp_cell_i, vp_cell_i, arrV_store]
  congr 2
  funext q
  by_cases hq : q = j
  · subst hq
    simp [updV, mu]
  · simp [updV, mu, hq]
theorem astL_row {H : Heap} {locs : List Loc} {cells slots : Nat} {pc : Nat} {ls : Array Slot} {rest : List Value} {I : IM} {L : LM} {i n b j : Nat} {x : Int64} (hC : Cx p s m args c cc nL own D cy kd ad N) (hkd1 : kd i = (2, n, b)) (hj : j < n) (hW : wd D cy kd ad N I L H) (hS : va_S (AA ad N) s.heap H locs) (hdg : decode cc pc = .ok (.lastore, 1))
    (kk : ∀ H1 locs1, wd D cy kd ad N I (mu L i j x) H1 → va_S (AA ad N) s.heap H1 locs1 → W p l e R s m args below meth c H1 locs1 cells slots Q (F0 m (pc + 1) ls rest)) : W p l e R s m args below meth c H locs cells slots Q (F0 m pc ls (.long x :: .int (nI j) :: .ref (ad i) :: rest)) := by
  obtain ⟨hlt, hP⟩ := wd_arrL hC hW hkd1
  have hn := hC.2.2.2.2.2.2.2.2 i
  rw [hkd1] at hn
  have hin := nI_vp hj hn
  have hcl : (nI j).toNatClampNeg = j := nI_clamp (Nat.lt_trans hj hn)
  refine W.last hC.1 hC.2.1 (hP 0 _ rfl) ((hC.2.2.2.2.2.1.2 1 _ rfl).1 n (fun j => .long (L i j))) (fun q => by cases q) (by show ¬ (nI j < 0 ∨ (arrV _ _ _).slots.size ≤ _); rw [arrV_size]; exact hin) rfl rfl hdg fun H1 e z oq => ?_
  refine kk H1 _ (wd_put hC.2.2.2.2.2.2.1 hW hlt ?_ oq (fun _ _ => rfl) (fun q hq => mu_ne _ _ hq)) (s_put hS z oq ⟨i, hlt, rfl⟩)
  have hct : ctn cy kd ad I (mu L i j x) i = .inl (cy 1, n, .inr (.inl (mu L i j x i))) := by
    unfold ctn
    rw [hkd1]
    rfl
  rw [hct]
  show H1[ad i]? = some (vp_cell _ _)
  rw [e, hcl]
  show some ((vp_cell (cy 1) (n, .inr (.inl (L i)))).setSlot j (.long x)) = some (vp_cell (cy 1) (n, .inr (.inl (mu L i j x i))))
  rw [vp_cell_l, vp_cell_l, arrV_store]
  congr 2
  funext q
  by_cases hq : q = j
  · subst hq
    simp [updV, mu]
  · simp [updV, mu, hq]
theorem astZ_row {H : Heap} {locs : List Loc} {cells slots : Nat} {pc : Nat} {ls : Array Slot} {rest : List Value} {I : IM} {L : LM} {i n b j : Nat} {x : Int32} (hC : Cx p s m args c cc nL own D cy kd ad N) (hkd1 : kd i = (3, n, b)) (hj : j < n) (h01 : x = 0 ∨ x = 1) (hW : wd D cy kd ad N I L H) (hS : va_S (AA ad N) s.heap H locs) (hdg : decode cc pc = .ok (.bastore, 1))
    (kk : ∀ H1 locs1, wd D cy kd ad N (mu I i j x) L H1 → va_S (AA ad N) s.heap H1 locs1 → W p l e R s m args below meth c H1 locs1 cells slots Q (F0 m (pc + 1) ls rest)) : W p l e R s m args below meth c H locs cells slots Q (F0 m pc ls (.int x :: .int (nI j) :: .ref (ad i) :: rest)) := by
  obtain ⟨hlt, hP⟩ := wd_arrZ hC hW hkd1
  have hn := hC.2.2.2.2.2.2.2.2 i
  rw [hkd1] at hn
  have hin := nI_vp hj hn
  have hcl : (nI j).toNatClampNeg = j := nI_clamp (Nat.lt_trans hj hn)
  have hnar : vp_nar .boolean x = x := by rcases h01 with rfl | rfl <;> decide
  refine W.zast hC.1 hC.2.1 (hP 0 _ rfl) ((hC.2.2.2.2.2.1.2 2 _ rfl).1 n (fun j => .int (I i j))) (fun q => by cases q) (by show ¬ (nI j < 0 ∨ (arrV _ _ _).slots.size ≤ _); rw [arrV_size]; exact hin) rfl rfl hdg fun H1 e z oq => ?_
  refine kk H1 _ (wd_put hC.2.2.2.2.2.2.1 hW hlt ?_ oq (fun q hq => mu_ne _ _ hq) (fun _ _ => rfl)) (s_put hS z oq ⟨i, hlt, rfl⟩)
  have hct : ctn cy kd ad (mu I i j x) L i = .inl (cy 2, n, .inl (mu I i j x i)) := by
    unfold ctn
    rw [hkd1]
    rfl
  rw [hct]
  show H1[ad i]? = some (vp_cell _ _)
  rw [e, hcl]
  have hnar2 : narrow .boolean (.int x) = .int x := by rcases h01 with rfl | rfl <;> decide
  show some ((vp_cell (cy 2) (n, .inl (I i))).setSlot j _) = some (vp_cell (cy 2) (n, .inl (mu I i j x i)))
  rw [hnar2, vp_cell_i, vp_cell_i, arrV_store]
  congr 2
  funext q
  by_cases hq : q = j
  · subst hq
    simp [updV, mu]
  · simp [updV, mu, hq]
theorem putI_row {F : Ft} {H : Heap} {locs : List Loc} {cells slots : Nat} {pc : Nat} {ls : Array Slot} {rest : List Value} {I : IM} {L : LM} {i ix ci j t off b : Nat} {x : Int32} (hC : Cx p s m args c cc nL own D cy kd ad N) (hF : FOK own F) (hf : F ix = some (ci, j, t, off)) (hkd1 : kd i = (0, ci, b)) (ht : (t = 0 ∧ x = x) ∨ (t = 3 ∧ (x = 0 ∨ x = 1))) (hW : wd D cy kd ad N I L H) (hS : va_S (AA ad N) s.heap H locs) (hdg : decode cc pc = .ok (.putfield ix, 3))
    (kk : ∀ H1 locs1, wd D cy kd ad N (mu I i j x) L H1 → va_S (AA ad N) s.heap H1 locs1 → W p l e R s m args below meth c H1 locs1 cells slots Q (F0 m (pc + 3) ls rest)) : W p l e R s m args below meth c H locs cells slots Q (F0 m pc ls (.int x :: .ref (ad i) :: rest)) := by
  obtain ⟨hlt, hP⟩ := wd_obj (ci := 0) hC hW hkd1
  obtain ⟨Cn, T, NF, ty0, f1, f2, f3, f4, f5, f6, f7, f8, f9, f10, f11, f12, f13⟩ := hF _ _ _ _ _ hf
  have hx := hC.1
  have hb := hC.2.1
  have hown := hC.2.2.2.1
  have hts := hC.2.2.2.2.1
  have hK := hC.2.2.2.2.2.1
  have hinj := hC.2.2.2.2.2.2.1
  have ht2 : t ≠ 1 ∧ t ≠ 2 := by rcases ht with ⟨rfl, -⟩ | ⟨rfl, -⟩ <;> decide
  have hnf : narrow (ty0 j) (.int x) = .int x ∧ fits (ty0 j) (.int x) = true := by
    rcases ht with ⟨rfl, -⟩ | ⟨rfl, h01⟩
    · rw [f11 rfl]; exact ⟨rfl, rfl⟩
    · rw [f13 rfl]; rcases h01 with rfl | rfl <;> exact ⟨by decide, by decide⟩
  have hap := va_apart (own := own) hts f3 ty0 f8 f9 hK f1
  obtain ⟨r, h1, cell, q1, q2, q3, q4⟩ := hP 0 _ rfl
  have hr : r = (Cn, T, NF) := Option.some.inj (h1.symm.trans f1)
  subst hr
  obtain ⟨hSl, hfc, kC, hkC, hkind⟩ := hK.1 ci _ f1
  obtain ⟨cf, kf, fi, f, hi, hsl⟩ := hSl j f2
  have hlay := hts _ (f3 _ (u_in_lay f2))
  unfold u_lay at hlay
  rw [if_neg (by rw [f10 ht2.2]; decide)] at hlay
  have hst := (u_facts hfc hkC (u_lays hts f3 f2) hi).1
  have h6 := u_store hfc hkC hkind hlay hi (f8 j f2) hnf.1 hnf.2
  refine W.putK hx hb (f := f) ⟨hown, hts _ f4, ⟨_, _, _, (by rw [← f5]; exact hi)⟩, hst⟩ (by rw [q2]; exact h6) q1 q3 (by rw [hsl]; exact k2_hasslot (q4 j f2)) rfl rfl hdg fun H1 e1 e2 e3 => ?_
  rw [hsl] at e1 ⊢
  refine kk H1 _ (wd_put hinj hW hlt ?_ e3 (fun q hq => mu_ne _ _ hq) (fun _ _ => rfl)) (s_put hS e2 e3 ⟨i, hlt, rfl⟩)
  have hset := fdv_setI ad I L i j x (FD ci) 0 j t off f6 ht2.1 ht2.2 (by omega)
  unfold ctn
  rw [hkd1]
  simp only [if_true]
  rw [hset]
  exact ⟨_, f1, t_OB.to (V := updV (vp_V (fdv ad I L i 0 (FD ci))) j (.int x)) ⟨_, e1, q2, q3, t_set q4 hap f2 (.int x)⟩ (fun j2 _ => vp_updV_set (by rw [fdv_len, f7]; exact f2) (.int x) j2)⟩
theorem putL_row {F : Ft} {H : Heap} {locs : List Loc} {cells slots : Nat} {pc : Nat} {ls : Array Slot} {rest : List Value} {I : IM} {L : LM} {i ix ci j off b : Nat} {x : Int64} (hC : Cx p s m args c cc nL own D cy kd ad N) (hF : FOK own F) (hf : F ix = some (ci, j, 1, off)) (hkd1 : kd i = (0, ci, b)) (hW : wd D cy kd ad N I L H) (hS : va_S (AA ad N) s.heap H locs) (hdg : decode cc pc = .ok (.putfield ix, 3))
    (kk : ∀ H1 locs1, wd D cy kd ad N I (mu L i j x) H1 → va_S (AA ad N) s.heap H1 locs1 → W p l e R s m args below meth c H1 locs1 cells slots Q (F0 m (pc + 3) ls rest)) : W p l e R s m args below meth c H locs cells slots Q (F0 m pc ls (.long x :: .ref (ad i) :: rest)) := by
  obtain ⟨hlt, hP⟩ := wd_obj (ci := 0) hC hW hkd1
  obtain ⟨Cn, T, NF, ty0, f1, f2, f3, f4, f5, f6, f7, f8, f9, f10, f11, f12, f13⟩ := hF _ _ _ _ _ hf
  have hx := hC.1
  have hb := hC.2.1
  have hown := hC.2.2.2.1
  have hts := hC.2.2.2.2.1
  have hK := hC.2.2.2.2.2.1
  have hinj := hC.2.2.2.2.2.2.1
  have hnf : narrow (ty0 j) (.long x) = .long x ∧ fits (ty0 j) (.long x) = true := by
    rw [f12 rfl]; exact ⟨rfl, rfl⟩
  have hap := va_apart (own := own) hts f3 ty0 f8 f9 hK f1
  obtain ⟨r, h1, cell, q1, q2, q3, q4⟩ := hP 0 _ rfl
  have hr : r = (Cn, T, NF) := Option.some.inj (h1.symm.trans f1)
  subst hr
  obtain ⟨hSl, hfc, kC, hkC, hkind⟩ := hK.1 ci _ f1
  obtain ⟨cf, kf, fi, f, hi, hsl⟩ := hSl j f2
  have hlay := hts _ (f3 _ (u_in_lay f2))
  unfold u_lay at hlay
  rw [if_neg (by rw [f10 (by decide)]; decide)] at hlay
  have hst := (u_facts hfc hkC (u_lays hts f3 f2) hi).1
  have h6 := u_store hfc hkC hkind hlay hi (f8 j f2) hnf.1 hnf.2
  refine W.putK hx hb (f := f) ⟨hown, hts _ f4, ⟨_, _, _, (by rw [← f5]; exact hi)⟩, hst⟩ (by rw [q2]; exact h6) q1 q3 (by rw [hsl]; exact k2_hasslot (q4 j f2)) rfl rfl hdg fun H1 e1 e2 e3 => ?_
  rw [hsl] at e1 ⊢
  refine kk H1 _ (wd_put hinj hW hlt ?_ e3 (fun _ _ => rfl) (fun q hq => mu_ne _ _ hq)) (s_put hS e2 e3 ⟨i, hlt, rfl⟩)
  have hset := fdv_setL ad I L i j x (FD ci) 0 j off f6 (by omega)
  unfold ctn
  rw [hkd1]
  simp only [if_true]
  rw [hset]
  exact ⟨_, f1, t_OB.to (V := updV (vp_V (fdv ad I L i 0 (FD ci))) j (.long x)) ⟨_, e1, q2, q3, t_set q4 hap f2 (.long x)⟩ (fun j2 _ => vp_updV_set (by rw [fdv_len, f7]; exact f2) (.long x) j2)⟩
set_option maxHeartbeats 4000000 in
theorem stp_ok {F : Ft} {k : Kt} (hC : Cx p s m args c cc nL own D cy kd ad N) (hF : FOK own F)
    {ret : Option FieldType} (hret : ∀ (pc : Nat) (ins : Instr) (lv : LV) (st : List Value) (I : IM) (L : LM), decode cc pc = .ok (ins, 1) → retB ret ins = true → ((ins = .ireturn ∧ ∃ x, st = [.int x]) ∨ (ins = .lreturn ∧ ∃ x, st = [.long x]) ∨ (ins = .freturn ∧ ∃ x, st = [.float x]) ∨ (ins = .dreturn ∧ ∃ x, st = [.double x]) ∨ (ins = .return_ ∧ st = [])) → E st I L → VV p l e R s m args below meth c Q nL D cy kd ad N pc lv st I L)
    (hk : ∀ ds O pc lv st I L, pc < RET → Res (VV p l e R s m args below meth c Q nL D cy kd ad N) E O (k ds O pc lv st I L) (VV p l e R s m args below meth c Q nL D cy kd ad N pc lv st I L))
    {ins : Instr} {pc np tg : Nat} {cv : Value} (hi : InsOK cc own pc ins np tg cv) (hloc : locB nL ins = true) (hrb : retB ret ins = true) (ds : List (Nat × Nat)) (O : Prop) (lv : LV) (st : List Value) (I : IM) (L : LM) :
    Res (VV p l e R s m args below meth c Q nL D cy kd ad N) E O (stp kd F k ins np tg cv ds O pc lv st I L) (VV p l e R s m args below meth c Q nL D cy kd ad N pc lv st I L) := by
  obtain ⟨hd, hnp, hbt, hcv, hpc, hnr, htr⟩ := hi
  have hx := hC.1
  have hb := hC.2.1
  have hown := hC.2.2.2.1
  have hts := hC.2.2.2.2.1
  have hK := hC.2.2.2.2.2.1
  have hinj := hC.2.2.2.2.2.2.1
  have hkd := hC.2.2.2.2.2.2.2
  cases ins with
  | iconst n =>
    simp only [cvB, decide_eq_true_eq] at hcv
    subst hnp
    subst hcv
    exact res_pl (hk _ _ _ _ _ _ _ hnr) (fun hv H locs ls hW hS hl => lv_iconst hx hb hd rfl (hv H locs ls hW hS hl))
  | bipush n =>
    simp only [cvB, decide_eq_true_eq] at hcv
    subst hnp
    subst hcv
    exact res_pl (hk _ _ _ _ _ _ _ hnr) (fun hv H locs ls hW hS hl => lv_bipush hx hb hd rfl (hv H locs ls hW hS hl))
  | sipush n =>
    simp only [cvB, decide_eq_true_eq] at hcv
    subst hnp
    subst hcv
    exact res_pl (hk _ _ _ _ _ _ _ hnr) (fun hv H locs ls hW hS hl => lv_sipush hx hb hd rfl (hv H locs ls hW hS hl))
  | lconst n =>
    simp only [cvB, decide_eq_true_eq] at hcv
    subst hnp
    subst hcv
    exact res_pl (hk _ _ _ _ _ _ _ hnr) (fun hv H locs ls hW hS hl => lv_lconst hx hb hd rfl (hv H locs ls hW hS hl))
  | fconst n =>
    simp only [cvB, Bool.or_eq_true, decide_eq_true_eq] at hcv
    subst hnp
    rcases hcv with (⟨rfl, rfl⟩ | ⟨rfl, rfl⟩) | ⟨rfl, rfl⟩
    · exact res_pl (hk _ _ _ _ _ _ _ hnr) (fun hv H locs ls hW hS hl => lv_fconst0 hx hb hd (hv H locs ls hW hS hl))
    · exact res_pl (hk _ _ _ _ _ _ _ hnr) (fun hv H locs ls hW hS hl => lv_fconst1 hx hb hd (hv H locs ls hW hS hl))
    · exact res_pl (hk _ _ _ _ _ _ _ hnr) (fun hv H locs ls hW hS hl => lv_fconst2 hx hb hd (hv H locs ls hW hS hl))
  | dconst n =>
    simp only [cvB, Bool.or_eq_true, decide_eq_true_eq] at hcv
    subst hnp
    rcases hcv with ⟨rfl, rfl⟩ | ⟨rfl, rfl⟩
    · exact res_pl (hk _ _ _ _ _ _ _ hnr) (fun hv H locs ls hW hS hl => lv_dconst0 hx hb hd (hv H locs ls hW hS hl))
    · exact res_pl (hk _ _ _ _ _ _ _ hnr) (fun hv H locs ls hW hS hl => lv_dconst1 hx hb hd (hv H locs ls hW hS hl))
  | ldc ix =>
    subst hnp
    cases cv with
    | int v =>
      simp only [cvB, decide_eq_true_eq] at hcv
      exact res_pl (hk _ _ _ _ _ _ _ hnr) (fun hv H locs ls hW hS hl => lv_ldc hx hb hown (hts _ hcv) hd (hv H locs ls hW hS hl))
    | float v =>
      simp only [cvB, decide_eq_true_eq] at hcv
      exact res_pl (hk _ _ _ _ _ _ _ hnr) (fun hv H locs ls hW hS hl => lv_ldcf hx hb hown (hts _ hcv) hd (hv H locs ls hW hS hl))
    | _ => simp [cvB] at hcv
  | ldc_w ix =>
    subst hnp
    cases cv with
    | int v =>
      simp only [cvB, decide_eq_true_eq] at hcv
      exact res_pl (hk _ _ _ _ _ _ _ hnr) (fun hv H locs ls hW hS hl => lv_ldcw hx hb hown (hts _ hcv) hd (hv H locs ls hW hS hl))
    | _ => simp [cvB] at hcv
  | ldc2_w ix =>
    subst hnp
    cases cv with
    | long v =>
      simp only [cvB, decide_eq_true_eq] at hcv
      exact res_pl (hk _ _ _ _ _ _ _ hnr) (fun hv H locs ls hW hS hl => lv_ldc2 hx hb hown (hts _ hcv) hd (hv H locs ls hW hS hl))
    | double v =>
      simp only [cvB, decide_eq_true_eq] at hcv
      exact res_pl (hk _ _ _ _ _ _ _ hnr) (fun hv H locs ls hW hS hl => lv_ldc2d hx hb hown (hts _ hcv) hd (hv H locs ls hW hS hl))
    | _ => simp [cvB] at hcv
  | iload i =>
    subst hnp
    simp only [stp]
    split
    · next x hg => exact res_pl (hk _ _ _ _ _ _ _ hnr) (fun hv H locs ls hW hS hl => lv_iload hx hb hd (gl_get (nL := nL) hg hl.2.2) (hv H locs ls hW hS hl))
    · exact res_stuck hpc
  | lload i =>
    subst hnp
    simp only [stp]
    split
    · next x hg => exact res_pl (hk _ _ _ _ _ _ _ hnr) (fun hv H locs ls hW hS hl => lv_lload hx hb hd (gl_get (nL := nL) hg hl.2.2) (hv H locs ls hW hS hl))
    · exact res_stuck hpc
  | aload i =>
    subst hnp
    simp only [stp]
    split
    · next x hg => exact res_pl (hk _ _ _ _ _ _ _ hnr) (fun hv H locs ls hW hS hl => lv_aload hx hb hd (gl_get (nL := nL) hg hl.2.2) (hv H locs ls hW hS hl))
    · exact res_stuck hpc
  | iload_n i =>
    subst hnp
    simp only [stp]
    split
    · next x hg => exact res_pl (hk _ _ _ _ _ _ _ hnr) (fun hv H locs ls hW hS hl => lv_iload_n hx hb hd rfl (gl_get (nL := nL) hg hl.2.2) (hv H locs ls hW hS hl))
    · exact res_stuck hpc
  | lload_n i =>
    subst hnp
    simp only [stp]
    split
    · next x hg => exact res_pl (hk _ _ _ _ _ _ _ hnr) (fun hv H locs ls hW hS hl => lv_lload_n hx hb hd rfl (gl_get (nL := nL) hg hl.2.2) (hv H locs ls hW hS hl))
    · exact res_stuck hpc
  | fload_n i =>
    subst hnp
    simp only [stp]
    split
    · next x hg => exact res_pl (hk _ _ _ _ _ _ _ hnr) (fun hv H locs ls hW hS hl => lv_fload_n hx hb hd rfl (gl_get (nL := nL) hg hl.2.2) (hv H locs ls hW hS hl))
    · exact res_stuck hpc
  | dload_n i =>
    subst hnp
    simp only [stp]
    split
    · next x hg => exact res_pl (hk _ _ _ _ _ _ _ hnr) (fun hv H locs ls hW hS hl => lv_dload_n hx hb hd rfl (gl_get (nL := nL) hg hl.2.2) (hv H locs ls hW hS hl))
    · exact res_stuck hpc
  | aload_n i =>
    subst hnp
    simp only [stp]
    split
    · next x hg => exact res_pl (hk _ _ _ _ _ _ _ hnr) (fun hv H locs ls hW hS hl => lv_aload_n hx hb hd rfl (gl_get (nL := nL) hg hl.2.2) (hv H locs ls hW hS hl))
    · exact res_stuck hpc
  | istore i =>
    subst hnp
    simp only [stp]
    split
    · obtain ⟨lv1, e1, e2⟩ := sl1_ok _ _ lv _
      rw [e1]
      refine res_pl (hk _ _ _ _ _ _ _ hnr) (fun hv H locs ls hW hS hl => lv_istore hx hb hd hl (by simpa [locB] using hloc) rfl (fun ls1 hl1 => hv H locs ls1 hW hS (lvOK1_has (ad := ad) e2 hl1)))
    · exact res_stuck hpc
  | astore i =>
    subst hnp
    simp only [stp]
    split
    · obtain ⟨lv1, e1, e2⟩ := sl1_ok _ _ lv _
      rw [e1]
      refine res_pl (hk _ _ _ _ _ _ _ hnr) (fun hv H locs ls hW hS hl => lv_astore hx hb hd hl (by simpa [locB] using hloc) rfl (fun ls1 hl1 => hv H locs ls1 hW hS (lvOK1_has (ad := ad) e2 hl1)))
    · exact res_stuck hpc
  | istore_n i =>
    subst hnp
    simp only [stp]
    split
    · obtain ⟨lv1, e1, e2⟩ := sl1_ok _ _ lv _
      rw [e1]
      refine res_pl (hk _ _ _ _ _ _ _ hnr) (fun hv H locs ls hW hS hl => lv_istore_n hx hb hd rfl hl (by simpa [locB] using hloc) rfl (fun ls1 hl1 => hv H locs ls1 hW hS (lvOK1_has (ad := ad) e2 hl1)))
    · exact res_stuck hpc
  | astore_n i =>
    subst hnp
    simp only [stp]
    split
    · obtain ⟨lv1, e1, e2⟩ := sl1_ok _ _ lv _
      rw [e1]
      refine res_pl (hk _ _ _ _ _ _ _ hnr) (fun hv H locs ls hW hS hl => lv_astore_n hx hb hd rfl hl (by simpa [locB] using hloc) rfl (fun ls1 hl1 => hv H locs ls1 hW hS (lvOK1_has (ad := ad) e2 hl1)))
    · exact res_stuck hpc
  | fstore_n i =>
    subst hnp
    simp only [stp]
    split
    · obtain ⟨lv1, e1, e2⟩ := sl1_ok _ _ lv _
      rw [e1]
      refine res_pl (hk _ _ _ _ _ _ _ hnr) (fun hv H locs ls hW hS hl => lv_fstore_n hx hb hd rfl hl (by simpa [locB] using hloc) rfl (fun ls1 hl1 => hv H locs ls1 hW hS (lvOK1_has (ad := ad) e2 hl1)))
    · exact res_stuck hpc
  | lstore i =>
    subst hnp
    simp only [stp]
    split
    · obtain ⟨lv1, e1, e2⟩ := sl2_ok _ _ lv _
      rw [e1]
      refine res_pl (hk _ _ _ _ _ _ _ hnr) (fun hv H locs ls hW hS hl => lv_lstore hx hb hd hl (by simpa [locB] using hloc) rfl (fun ls1 hl1 => hv H locs ls1 hW hS (lvOK2_has (ad := ad) e2 hl1)))
    · exact res_stuck hpc
  | lstore_n i =>
    subst hnp
    simp only [stp]
    split
    · obtain ⟨lv1, e1, e2⟩ := sl2_ok _ _ lv _
      rw [e1]
      refine res_pl (hk _ _ _ _ _ _ _ hnr) (fun hv H locs ls hW hS hl => lv_lstore_n hx hb hd rfl hl (by simpa [locB] using hloc) rfl (fun ls1 hl1 => hv H locs ls1 hW hS (lvOK2_has (ad := ad) e2 hl1)))
    · exact res_stuck hpc
  | dstore_n i =>
    subst hnp
    simp only [stp]
    split
    · obtain ⟨lv1, e1, e2⟩ := sl2_ok _ _ lv _
      rw [e1]
      refine res_pl (hk _ _ _ _ _ _ _ hnr) (fun hv H locs ls hW hS hl => lv_dstore_n hx hb hd rfl hl (by simpa [locB] using hloc) rfl (fun ls1 hl1 => hv H locs ls1 hW hS (lvOK2_has (ad := ad) e2 hl1)))
    · exact res_stuck hpc
  | iinc i n =>
    subst hnp
    simp only [cvB, decide_eq_true_eq] at hcv
    subst hcv
    simp only [stp]
    split
    · next x hg =>
      obtain ⟨lv1, e1, e2⟩ := sl1_ok i (.int (x + Int32.ofInt n)) lv (fun lv1 => k ds O (pc + ilen (.iinc i n)) lv1 st I L)
      rw [e1]
      refine res_pl (hk _ _ _ _ _ _ _ hnr) (fun hv H locs ls hW hS hl => iinc_row hx hb hd hl (gl_get (nL := nL) hg hl.2.2) (by simpa [locB] using hloc) (fun ls1 hl1 => hv H locs ls1 hW hS (lvOK1_has (ad := ad) e2 hl1)))
    · exact res_stuck hpc
  | iadd =>
    subst hnp
    simp only [stp]
    split
    · exact res_pl (hk _ _ _ _ _ _ _ hnr) (fun hv H locs ls hW hS hl => lv_iadd hx hb hd (hv H locs ls hW hS hl))
    · exact res_stuck hpc
  | isub =>
    subst hnp
    simp only [stp]
    split
    · exact res_pl (hk _ _ _ _ _ _ _ hnr) (fun hv H locs ls hW hS hl => lv_isub hx hb hd (hv H locs ls hW hS hl))
    · exact res_stuck hpc
  | imul =>
    subst hnp
    simp only [stp]
    split
    · exact res_pl (hk _ _ _ _ _ _ _ hnr) (fun hv H locs ls hW hS hl => lv_imul hx hb hd (hv H locs ls hW hS hl))
    · exact res_stuck hpc
  | iand =>
    subst hnp
    simp only [stp]
    split
    · exact res_pl (hk _ _ _ _ _ _ _ hnr) (fun hv H locs ls hW hS hl => lv_iand hx hb hd (hv H locs ls hW hS hl))
    · exact res_stuck hpc
  | ior =>
    subst hnp
    simp only [stp]
    split
    · exact res_pl (hk _ _ _ _ _ _ _ hnr) (fun hv H locs ls hW hS hl => lv_ior hx hb hd (hv H locs ls hW hS hl))
    · exact res_stuck hpc
  | ixor =>
    subst hnp
    simp only [stp]
    split
    · exact res_pl (hk _ _ _ _ _ _ _ hnr) (fun hv H locs ls hW hS hl => lv_ixor hx hb hd (hv H locs ls hW hS hl))
    · exact res_stuck hpc
  | ishl =>
    subst hnp
    simp only [stp]
    split
    · exact res_pl (hk _ _ _ _ _ _ _ hnr) (fun hv H locs ls hW hS hl => lv_ishl hx hb hd (hv H locs ls hW hS hl))
    · exact res_stuck hpc
  | ishr =>
    subst hnp
    simp only [stp]
    split
    · exact res_pl (hk _ _ _ _ _ _ _ hnr) (fun hv H locs ls hW hS hl => lv_ishr hx hb hd (hv H locs ls hW hS hl))
    · exact res_stuck hpc
  | ineg =>
    subst hnp
    simp only [stp]
    split
    · exact res_pl (hk _ _ _ _ _ _ _ hnr) (fun hv H locs ls hW hS hl => lv_ineg hx hb hd (hv H locs ls hW hS hl))
    · exact res_stuck hpc
  | ladd =>
    subst hnp
    simp only [stp]
    split
    · exact res_pl (hk _ _ _ _ _ _ _ hnr) (fun hv H locs ls hW hS hl => lv_ladd hx hb hd (hv H locs ls hW hS hl))
    · exact res_stuck hpc
  | lsub =>
    subst hnp
    simp only [stp]
    split
    · exact res_pl (hk _ _ _ _ _ _ _ hnr) (fun hv H locs ls hW hS hl => lv_lsub hx hb hd (hv H locs ls hW hS hl))
    · exact res_stuck hpc
  | lmul =>
    subst hnp
    simp only [stp]
    split
    · exact res_pl (hk _ _ _ _ _ _ _ hnr) (fun hv H locs ls hW hS hl => lv_lmul hx hb hd (hv H locs ls hW hS hl))
    · exact res_stuck hpc
  | lneg =>
    subst hnp
    simp only [stp]
    split
    · exact res_pl (hk _ _ _ _ _ _ _ hnr) (fun hv H locs ls hW hS hl => lv_lneg hx hb hd (hv H locs ls hW hS hl))
    · exact res_stuck hpc
  | i2f =>
    subst hnp
    simp only [stp]
    split
    · exact res_pl (hk _ _ _ _ _ _ _ hnr) (fun hv H locs ls hW hS hl => lv_i2f hx hb hd (hv H locs ls hW hS hl))
    · exact res_stuck hpc
  | i2d =>
    subst hnp
    simp only [stp]
    split
    · exact res_pl (hk _ _ _ _ _ _ _ hnr) (fun hv H locs ls hW hS hl => lv_i2d hx hb hd (hv H locs ls hW hS hl))
    · exact res_stuck hpc
  | l2d =>
    subst hnp
    simp only [stp]
    split
    · exact res_pl (hk _ _ _ _ _ _ _ hnr) (fun hv H locs ls hW hS hl => lv_l2d hx hb hd (hv H locs ls hW hS hl))
    · exact res_stuck hpc
  | f2i =>
    subst hnp
    simp only [stp]
    split
    · exact res_pl (hk _ _ _ _ _ _ _ hnr) (fun hv H locs ls hW hS hl => lv_f2i hx hb hd (hv H locs ls hW hS hl))
    · exact res_stuck hpc
  | d2l =>
    subst hnp
    simp only [stp]
    split
    · exact res_pl (hk _ _ _ _ _ _ _ hnr) (fun hv H locs ls hW hS hl => lv_d2l hx hb hd (hv H locs ls hW hS hl))
    · exact res_stuck hpc
  | iushr =>
    subst hnp
    simp only [stp]
    split
    · exact res_pl (hk _ _ _ _ _ _ _ hnr) (fun hv H locs ls hW hS hl => lv_iushr hx hb hd rfl (hv H locs ls hW hS hl))
    · exact res_stuck hpc
  | lshl =>
    subst hnp
    simp only [stp]
    split
    · exact res_pl (hk _ _ _ _ _ _ _ hnr) (fun hv H locs ls hW hS hl => lv_lshl hx hb hd rfl (hv H locs ls hW hS hl))
    · exact res_stuck hpc
  | i2l =>
    subst hnp
    simp only [stp]
    split
    · exact res_pl (hk _ _ _ _ _ _ _ hnr) (fun hv H locs ls hW hS hl => lv_i2l hx hb hd rfl (hv H locs ls hW hS hl))
    · exact res_stuck hpc
  | l2i =>
    subst hnp
    simp only [stp]
    split
    · exact res_pl (hk _ _ _ _ _ _ _ hnr) (fun hv H locs ls hW hS hl => lv_l2i hx hb hd rfl (hv H locs ls hW hS hl))
    · exact res_stuck hpc
  | idiv =>
    subst hnp
    simp only [stp]
    split
    · exact res_ob (hk _ _ _ _ _ _ _ hnr) (fun ho hv H locs ls hW hS hl => lv_idiv hx hb hd ho (hv H locs ls hW hS hl))
    · exact res_stuck hpc
  | irem =>
    subst hnp
    simp only [stp]
    split
    · exact res_ob (hk _ _ _ _ _ _ _ hnr) (fun ho hv H locs ls hW hS hl => lv_irem hx hb hd ho (hv H locs ls hW hS hl))
    · exact res_stuck hpc
  | ldiv =>
    subst hnp
    simp only [stp]
    split
    · exact res_ob (hk _ _ _ _ _ _ _ hnr) (fun ho hv H locs ls hW hS hl => lv_ldiv hx hb hd ho (hv H locs ls hW hS hl))
    · exact res_stuck hpc
  | lrem =>
    subst hnp
    simp only [stp]
    split
    · exact res_ob (hk _ _ _ _ _ _ _ hnr) (fun ho hv H locs ls hW hS hl => lv_lrem hx hb hd ho (hv H locs ls hW hS hl))
    · exact res_stuck hpc
  | fsub =>
    subst hnp
    simp only [stp]
    split
    · exact res_ob (hk _ _ _ _ _ _ _ hnr) (fun ho hv H locs ls hW hS hl => lv_fsub hx hb hd ho (hv H locs ls hW hS hl))
    · exact res_stuck hpc
  | fmul =>
    subst hnp
    simp only [stp]
    split
    · exact res_ob (hk _ _ _ _ _ _ _ hnr) (fun ho hv H locs ls hW hS hl => lv_fmul hx hb hd ho (hv H locs ls hW hS hl))
    · exact res_stuck hpc
  | fdiv =>
    subst hnp
    simp only [stp]
    split
    · exact res_ob (hk _ _ _ _ _ _ _ hnr) (fun ho hv H locs ls hW hS hl => lv_fdiv hx hb hd ho (hv H locs ls hW hS hl))
    · exact res_stuck hpc
  | dsub =>
    subst hnp
    simp only [stp]
    split
    · exact res_ob (hk _ _ _ _ _ _ _ hnr) (fun ho hv H locs ls hW hS hl => lv_dsub hx hb hd ho (hv H locs ls hW hS hl))
    · exact res_stuck hpc
  | dmul =>
    subst hnp
    simp only [stp]
    split
    · exact res_ob (hk _ _ _ _ _ _ _ hnr) (fun ho hv H locs ls hW hS hl => lv_dmul hx hb hd ho (hv H locs ls hW hS hl))
    · exact res_stuck hpc
  | ddiv =>
    subst hnp
    simp only [stp]
    split
    · exact res_ob (hk _ _ _ _ _ _ _ hnr) (fun ho hv H locs ls hW hS hl => lv_ddiv hx hb hd ho (hv H locs ls hW hS hl))
    · exact res_stuck hpc
  | lcmp =>
    subst hnp
    simp only [stp]
    split
    · exact res_pl (hk _ _ _ _ _ _ _ hnr) (fun hv H locs ls hW hS hl => W.lcmp hx hb hd (hv H locs ls hW hS hl))
    · exact res_stuck hpc
  | fcmp op =>
    subst hnp
    simp only [stp]
    split
    · exact res_pl (hk _ _ _ _ _ _ _ hnr) (fun hv H locs ls hW hS hl => lv_fcmp hx hb hd (hv H locs ls hW hS hl))
    · exact res_stuck hpc
  | dcmp op =>
    subst hnp
    simp only [stp]
    split
    · exact res_pl (hk _ _ _ _ _ _ _ hnr) (fun hv H locs ls hW hS hl => lv_dcmp hx hb hd (hv H locs ls hW hS hl))
    · exact res_stuck hpc
  | dup =>
    subst hnp
    simp only [stp]
    split
    · exact res_pl (hk _ _ _ _ _ _ _ hnr) (fun hv H locs ls hW hS hl => lv_dup hx hb hd rfl (hv H locs ls hW hS hl))
    · exact res_pl (hk _ _ _ _ _ _ _ hnr) (fun hv H locs ls hW hS hl => lv_dup hx hb hd rfl (hv H locs ls hW hS hl))
    · exact res_stuck hpc
  | dup2 =>
    subst hnp
    simp only [stp]
    split
    · exact res_pl (hk _ _ _ _ _ _ _ hnr) (fun hv H locs ls hW hS hl => lv_dup2_11 hx hb hd rfl rfl (hv H locs ls hW hS hl))
    · exact res_stuck hpc
  | goto off =>
    simp only [btB, decide_eq_true_eq] at hbt
    exact res_pl (hk _ _ _ _ _ _ _ htr) (fun hv H locs ls hW hS hl => lv_goto hx hb hd hbt (hv H locs ls hW hS hl))
  | ifCond cond off =>
    subst hnp
    simp only [btB, decide_eq_true_eq] at hbt
    cases cond with
    | eq =>
      simp only [stp]
      split
      · exact res_br hpc (fun ds O pc h => hk _ _ _ _ _ _ _ h) hnr htr (fun ho hv H locs ls hW hS hl => lv_if_eq hx hb hd hbt (fun _ => hv H locs ls hW hS hl) (fun hn => absurd ho hn)) (fun ho hv H locs ls hW hS hl => lv_if_eq hx hb hd hbt (fun hn => absurd hn ho) (fun _ => hv H locs ls hW hS hl))
      · exact res_stuck hpc
    | ne =>
      simp only [stp]
      split
      · exact res_br hpc (fun ds O pc h => hk _ _ _ _ _ _ _ h) hnr htr (fun ho hv H locs ls hW hS hl => lv_if_ne hx hb hd hbt (fun _ => hv H locs ls hW hS hl) (fun hn => absurd hn ho)) (fun ho hv H locs ls hW hS hl => lv_if_ne hx hb hd hbt (fun hn => absurd hn ho) (fun _ => hv H locs ls hW hS hl))
      · exact res_stuck hpc
    | lt =>
      simp only [stp]
      split
      · exact res_br hpc (fun ds O pc h => hk _ _ _ _ _ _ _ h) hnr htr (fun ho hv H locs ls hW hS hl => lv_if_lt hx hb hd hbt (fun _ => hv H locs ls hW hS hl) (fun hn => absurd ho hn)) (fun ho hv H locs ls hW hS hl => lv_if_lt hx hb hd hbt (fun hn => absurd hn ho) (fun _ => hv H locs ls hW hS hl))
      · exact res_stuck hpc
    | ge =>
      simp only [stp]
      split
      · exact res_br hpc (fun ds O pc h => hk _ _ _ _ _ _ _ h) hnr htr (fun ho hv H locs ls hW hS hl => lv_if_ge hx hb hd hbt (fun _ => hv H locs ls hW hS hl) (fun hn => absurd ho hn)) (fun ho hv H locs ls hW hS hl => lv_if_ge hx hb hd hbt (fun hn => absurd hn ho) (fun _ => hv H locs ls hW hS hl))
      · exact res_stuck hpc
    | gt =>
      simp only [stp]
      split
      · exact res_br hpc (fun ds O pc h => hk _ _ _ _ _ _ _ h) hnr htr (fun ho hv H locs ls hW hS hl => lv_if_gt hx hb hd hbt (fun _ => hv H locs ls hW hS hl) (fun hn => absurd ho hn)) (fun ho hv H locs ls hW hS hl => lv_if_gt hx hb hd hbt (fun hn => absurd hn ho) (fun _ => hv H locs ls hW hS hl))
      · exact res_stuck hpc
    | le =>
      simp only [stp]
      split
      · exact res_br hpc (fun ds O pc h => hk _ _ _ _ _ _ _ h) hnr htr (fun ho hv H locs ls hW hS hl => lv_if_le hx hb hd hbt (fun _ => hv H locs ls hW hS hl) (fun hn => absurd ho hn)) (fun ho hv H locs ls hW hS hl => lv_if_le hx hb hd hbt (fun hn => absurd hn ho) (fun _ => hv H locs ls hW hS hl))
      · exact res_stuck hpc
  | if_icmp cond off =>
    subst hnp
    simp only [btB, decide_eq_true_eq] at hbt
    cases cond with
    | eq =>
      simp only [stp]
      split
      · exact res_br hpc (fun ds O pc h => hk _ _ _ _ _ _ _ h) hnr htr (fun ho hv H locs ls hW hS hl => lv_icmp_eq hx hb hd hbt (fun _ => hv H locs ls hW hS hl) (fun hn => absurd ho hn)) (fun ho hv H locs ls hW hS hl => lv_icmp_eq hx hb hd hbt (fun hn => absurd hn ho) (fun _ => hv H locs ls hW hS hl))
      · exact res_stuck hpc
    | ne =>
      simp only [stp]
      split
      · exact res_br hpc (fun ds O pc h => hk _ _ _ _ _ _ _ h) hnr htr (fun ho hv H locs ls hW hS hl => lv_icmp_ne hx hb hd hbt (fun _ => hv H locs ls hW hS hl) (fun hn => absurd hn ho)) (fun ho hv H locs ls hW hS hl => lv_icmp_ne hx hb hd hbt (fun hn => absurd hn ho) (fun _ => hv H locs ls hW hS hl))
      · exact res_stuck hpc
    | lt =>
      simp only [stp]
      split
      · exact res_br hpc (fun ds O pc h => hk _ _ _ _ _ _ _ h) hnr htr (fun ho hv H locs ls hW hS hl => lv_icmp_lt hx hb hd hbt (fun _ => hv H locs ls hW hS hl) (fun hn => absurd ho hn)) (fun ho hv H locs ls hW hS hl => lv_icmp_lt hx hb hd hbt (fun hn => absurd hn ho) (fun _ => hv H locs ls hW hS hl))
      · exact res_stuck hpc
    | ge =>
      simp only [stp]
      split
      · exact res_br hpc (fun ds O pc h => hk _ _ _ _ _ _ _ h) hnr htr (fun ho hv H locs ls hW hS hl => lv_icmp_ge hx hb hd hbt (fun _ => hv H locs ls hW hS hl) (fun hn => absurd ho hn)) (fun ho hv H locs ls hW hS hl => lv_icmp_ge hx hb hd hbt (fun hn => absurd hn ho) (fun _ => hv H locs ls hW hS hl))
      · exact res_stuck hpc
    | gt =>
      simp only [stp]
      split
      · exact res_br hpc (fun ds O pc h => hk _ _ _ _ _ _ _ h) hnr htr (fun ho hv H locs ls hW hS hl => lv_icmp_gt hx hb hd hbt (fun _ => hv H locs ls hW hS hl) (fun hn => absurd ho hn)) (fun ho hv H locs ls hW hS hl => lv_icmp_gt hx hb hd hbt (fun hn => absurd hn ho) (fun _ => hv H locs ls hW hS hl))
      · exact res_stuck hpc
    | le =>
      simp only [stp]
      split
      · exact res_br hpc (fun ds O pc h => hk _ _ _ _ _ _ _ h) hnr htr (fun ho hv H locs ls hW hS hl => lv_icmp_le hx hb hd hbt (fun _ => hv H locs ls hW hS hl) (fun hn => absurd ho hn)) (fun ho hv H locs ls hW hS hl => lv_icmp_le hx hb hd hbt (fun hn => absurd hn ho) (fun _ => hv H locs ls hW hS hl))
      · exact res_stuck hpc
  | getfield ix =>
    subst hnp
    simp only [stp]
    split
    · split
      · next hf =>
        refine res_ob (hk _ _ _ _ _ _ _ hnr) (fun ho hv H locs ls hW hS hl => ?_)
        obtain ⟨hlt, hP⟩ := wd_obj (ci := 0) hC hW ho
        obtain ⟨Cn, T, NF, ty0, f1, f2, f3, f4, f5, f6, f7, f8, f9, f10, f11, f12, f13⟩ := hF _ _ _ _ _ hf
        exact va_get (D := D) (ref := Cn) (C := Cn) (T := T) (N := NF) hx hb hts f3 hown hK hP 0 rfl f1 _ f2 (hts _ f4) (fun x h => by rw [← f5]; exact h) ((fdv_get ad I L _ _ 0 _ _ _ f6).trans (by simp [cz])) hd (hv H locs ls hW hS hl)
      · next hf =>
        refine res_ob (hk _ _ _ _ _ _ _ hnr) (fun ho hv H locs ls hW hS hl => ?_)
        obtain ⟨hlt, hP⟩ := wd_obj (ci := 0) hC hW ho
        obtain ⟨Cn, T, NF, ty0, f1, f2, f3, f4, f5, f6, f7, f8, f9, f10, f11, f12, f13⟩ := hF _ _ _ _ _ hf
        exact va_get (D := D) (ref := Cn) (C := Cn) (T := T) (N := NF) hx hb hts f3 hown hK hP 0 rfl f1 _ f2 (hts _ f4) (fun x h => by rw [← f5]; exact h) ((fdv_get ad I L _ _ 0 _ _ _ f6).trans (by simp [cz])) hd (hv H locs ls hW hS hl)
      · next hf =>
        split
        · refine res_ob (hk _ _ _ _ _ _ _ hnr) (fun ho hv H locs ls hW hS hl => ?_)
          obtain ⟨ho, rfl⟩ := ho
          obtain ⟨hlt, hP⟩ := wd_obj (ci := 0) hC hW ho
          obtain ⟨Cn, T, NF, ty0, f1, f2, f3, f4, f5, f6, f7, f8, f9, f10, f11, f12, f13⟩ := hF _ _ _ _ _ hf
          exact va_get (D := D) (ref := Cn) (C := Cn) (T := T) (N := NF) hx hb hts f3 hown hK hP 0 rfl f1 _ f2 (hts _ f4) (fun x h => by rw [← f5]; exact h) ((fdv_get ad I L _ _ 0 _ _ _ f6).trans (by simp [cz])) hd (hv H locs ls hW hS hl)
        · exact res_stuck hpc
      · next hf =>
        refine res_ob (hk _ _ _ _ _ _ _ hnr) (fun ho hv H locs ls hW hS hl => ?_)
        obtain ⟨hlt, hP⟩ := wd_obj (ci := 0) hC hW ho
        obtain ⟨Cn, T, NF, ty0, f1, f2, f3, f4, f5, f6, f7, f8, f9, f10, f11, f12, f13⟩ := hF _ _ _ _ _ hf
        exact va_get (D := D) (ref := Cn) (C := Cn) (T := T) (N := NF) hx hb hts f3 hown hK hP 0 rfl f1 _ f2 (hts _ f4) (fun x h => by rw [← f5]; exact h) ((fdv_get ad I L _ _ 0 _ _ _ f6).trans (by simp [cz])) hd (hv H locs ls hW hS hl)
      · exact res_stuck hpc
    · exact res_stuck hpc
  | putfield ix =>
    subst hnp
    simp only [stp]
    split
    · split
      · next hf => exact res_ob (hk _ _ _ _ _ _ _ hnr) (fun ho hv H locs ls hW hS hl => putI_row hC hF hf ho (Or.inl ⟨rfl, rfl⟩) hW hS hd (fun H1 locs1 hW1 hS1 => hv H1 locs1 ls hW1 hS1 hl))
      · next hf => exact res_ob (hk _ _ _ _ _ _ _ hnr) (fun ho hv H locs ls hW hS hl => putI_row hC hF hf ho.1 (Or.inr ⟨rfl, ho.2⟩) hW hS hd (fun H1 locs1 hW1 hS1 => hv H1 locs1 ls hW1 hS1 hl))
      · exact res_stuck hpc
    · split
      · next hf => exact res_ob (hk _ _ _ _ _ _ _ hnr) (fun ho hv H locs ls hW hS hl => putL_row hC hF hf ho hW hS hd (fun H1 locs1 hW1 hS1 => hv H1 locs1 ls hW1 hS1 hl))
      · exact res_stuck hpc
    · exact res_stuck hpc
  | iaload =>
    subst hnp
    simp only [stp]
    split
    · split
      · refine res_ob (hk _ _ _ _ _ _ _ hnr) (fun ho hv H locs ls hW hS hl => ?_)
        obtain ⟨hkd1, rfl, hj⟩ := ho
        exact aldI_row hC hkd1 hj hW hd (hv H locs ls hW hS hl)
      · exact res_stuck hpc
    · exact res_stuck hpc
  | laload =>
    subst hnp
    simp only [stp]
    split
    · split
      · refine res_ob (hk _ _ _ _ _ _ _ hnr) (fun ho hv H locs ls hW hS hl => ?_)
        obtain ⟨hkd1, rfl, hj⟩ := ho
        exact aldL_row hC hkd1 hj hW hd (hv H locs ls hW hS hl)
      · exact res_stuck hpc
    · exact res_stuck hpc
  | baload =>
    subst hnp
    simp only [stp]
    split
    · split
      · refine res_ob (hk _ _ _ _ _ _ _ hnr) (fun ho hv H locs ls hW hS hl => ?_)
        obtain ⟨hkd1, rfl, hj⟩ := ho
        exact aldZ_row hC hkd1 hj hW hd (hv H locs ls hW hS hl)
      · exact res_stuck hpc
    · exact res_stuck hpc
  | aaload =>
    subst hnp
    simp only [stp]
    split
    · split
      · refine res_ob (hk _ _ _ _ _ _ _ hnr) (fun ho hv H locs ls hW hS hl => ?_)
        obtain ⟨⟨w, hkd1, rfl⟩, h4, h6, rfl, hj⟩ := ho
        obtain ⟨hlt, hP⟩ := wd_arrQ hC hW h4 h6 hkd1
        exact aald_row hx hb hK h4 h6 hP hj hkd.2 hkd1 hd (hv H locs ls hW hS hl)
      · exact res_stuck hpc
    · exact res_stuck hpc
  | iastore =>
    subst hnp
    simp only [stp]
    split
    · split
      · refine res_ob (hk _ _ _ _ _ _ _ hnr) (fun ho hv H locs ls hW hS hl => ?_)
        obtain ⟨hkd1, rfl, hj⟩ := ho
        exact astI_row hC hkd1 hj hW hS hd (fun H1 locs1 hW1 hS1 => hv H1 locs1 ls hW1 hS1 hl)
      · exact res_stuck hpc
    · exact res_stuck hpc
  | lastore =>
    subst hnp
    simp only [stp]
    split
    · split
      · refine res_ob (hk _ _ _ _ _ _ _ hnr) (fun ho hv H locs ls hW hS hl => ?_)
        obtain ⟨hkd1, rfl, hj⟩ := ho
        exact astL_row hC hkd1 hj hW hS hd (fun H1 locs1 hW1 hS1 => hv H1 locs1 ls hW1 hS1 hl)
      · exact res_stuck hpc
    · exact res_stuck hpc
  | bastore =>
    subst hnp
    simp only [stp]
    split
    · split
      · refine res_ob (hk _ _ _ _ _ _ _ hnr) (fun ho hv H locs ls hW hS hl => ?_)
        obtain ⟨hkd1, rfl, hj, h01⟩ := ho
        exact astZ_row hC hkd1 hj h01 hW hS hd (fun H1 locs1 hW1 hS1 => hv H1 locs1 ls hW1 hS1 hl)
      · exact res_stuck hpc
    · exact res_stuck hpc
  | ireturn =>
    simp only [stp]
    split
    · exact res_ret (fun he => hret _ _ _ _ _ _ hd hrb (Or.inl ⟨rfl, _, rfl⟩) he)
    · exact res_stuck hpc
  | lreturn =>
    simp only [stp]
    split
    · exact res_ret (fun he => hret _ _ _ _ _ _ hd hrb (Or.inr (Or.inl ⟨rfl, _, rfl⟩)) he)
    · exact res_stuck hpc
  | freturn =>
    simp only [stp]
    split
    · exact res_ret (fun he => hret _ _ _ _ _ _ hd hrb (Or.inr (Or.inr (Or.inl ⟨rfl, _, rfl⟩))) he)
    · exact res_stuck hpc
  | dreturn =>
    simp only [stp]
    split
    · exact res_ret (fun he => hret _ _ _ _ _ _ hd hrb (Or.inr (Or.inr (Or.inr (Or.inl ⟨rfl, _, rfl⟩)))) he)
    · exact res_stuck hpc
  | return_ =>
    simp only [stp]
    split
    · exact res_ret (fun he => hret _ _ _ _ _ _ hd hrb (Or.inr (Or.inr (Or.inr (Or.inr ⟨rfl, rfl⟩)))) he)
    · exact res_stuck hpc
  | _ => exact res_stuck hpc
end SND
end
section
/-! THE RULES of a walk, and contracts -/
section RUN
variable {p : Program} {l : Launch} {e : Env} {R : Room} {s : State} {m : MethodId} {args : Array Value} {below : List Frame} {meth : Method} {c : Code} {Q : State → Prop} {cc : ByteArray} {nL : Nat} {own : String} {D : va_G} {cy : Nat → ClassId} {kd : KdT} {ad : Nat → Nat} {N : Nat} {E : List Value → IM → LM → Prop}
theorem run_ok {F : Ft} {P : List En} {ret : Option FieldType} (hC : Cx p s m args c cc nL own D cy kd ad N) (hF : FOK own F) (hP : okP cc own P = true) (hloc : P.all (fun q => locB nL q.2.1) = true) (hrb : P.all (fun q => retB ret q.2.1) = true)
    (hret : ∀ (pc : Nat) (ins : Instr) (lv : LV) (st : List Value) (I : IM) (L : LM), decode cc pc = .ok (ins, 1) → retB ret ins = true → ((ins = .ireturn ∧ ∃ x, st = [.int x]) ∨ (ins = .lreturn ∧ ∃ x, st = [.long x]) ∨ (ins = .freturn ∧ ∃ x, st = [.float x]) ∨ (ins = .dreturn ∧ ∃ x, st = [.double x]) ∨ (ins = .return_ ∧ st = [])) → E st I L → VV p l e R s m args below meth c Q nL D cy kd ad N pc lv st I L) :
    ∀ n ds O pc lv st I L, pc < RET → Res (VV p l e R s m args below meth c Q nL D cy kd ad N) E O (run kd F P n ds O pc lv st I L) (VV p l e R s m args below meth c Q nL D cy kd ad N pc lv st I L) := by
  intro n
  induction n with
  | zero => intro ds O pc lv st I L h; exact res_stuck h
  | succ n ih =>
    intro ds O pc lv st I L h
    simp only [run]
    split
    · next hl =>
      have hm := lk_mem P hl
      exact stp_ok hC hF hret ih (insOK_of hP hl) (List.all_eq_true.mp hloc _ hm) (List.all_eq_true.mp hrb _ hm) ds O lv st I L
    · exact res_stuck h
end RUN
theorem WB_good {w : Cond} (h : w ∈ WB) : w ∈ WB ∧ ((w.onTables && w.keeps) = true ∨ ∃ ty, w = .arrayClass ty) := ⟨h, good_of_word (List.mem_filter.mp h).2⟩
theorem gIn {ws : List Cond} (h : ∀ w ∈ ws, w ∈ WB) : GoodIn WB ws := fun w hw => WB_good (h w hw)
/-- a method's words: its code, then all of them -/
abbrev wsY (y : MethodName) (bytes : ByteArray) (maxL : Nat) (ret : Option FieldType) : List Cond := .code y bytes maxL ret :: WB
/-- THE CONTRACT: over the world of I and L, with these arguments, it returns r and leaves the world of I2 and L2 -/
def CR (l : Launch) (kd : KdT) (N : Nat) (y : MethodName) (bytes : ByteArray) (maxL : Nat) (ret : Option FieldType) (rm : Room) (av : List Value) (I : IM) (L : LM) (r : Option Value) (I2 : IM) (L2 : LM) : Prop :=
  ∀ (D : va_G) (cy : Nat → ClassId) (ad : Nat → Nat), inj ad N → Met l y (wsY y bytes maxL ret) rm (va_Pc (av.map (cz ad)) (fun U => wd D cy kd ad N I L U.heap ∧ va_K D vwCl (tysC cy) U)) (fun _ st oc t => (oc = .returned (r.map (cz ad)) ∧ wd D cy kd ad N I2 L2 t.heap) ∧ va_F (AA ad N) st t) 0 0 (AA ad N)
/-- what a call's words say -/
def SitS (own : String) (ix : Nat) (y : MethodName) (bytes : ByteArray) (maxL : Nat) (ret : Option FieldType) (n : Nat) : Prop := (Cond.methodLink own ix y ∈ WB ∧ Cond.static y ∈ WB ∧ Cond.initialized y.cls ∈ WB ∧ Cond.code y bytes maxL ret ∈ WB) ∧ (y.cls ≠ "java/lang/invoke/MethodHandle" ∧ y.cls ≠ "java/lang/invoke/VarHandle" ∧ (parseMethodDescriptor y.desc).map (fun d => d.parameters.length) = some n)
def SitV (own : String) (ix : Nat) (y : MethodName) (bytes : ByteArray) (maxL : Nat) (ret : Option FieldType) (n : Nat) : Prop := (Cond.methodLink own ix y ∈ WB ∧ Cond.instanceMethod y ∈ WB ∧ Cond.selects y.cls y y ∈ WB ∧ Cond.initialized y.cls ∈ WB ∧ Cond.code y bytes maxL ret ∈ WB) ∧ (y.cls = y.cls ∧ y.cls ≠ "java/lang/invoke/MethodHandle" ∧ y.cls ≠ "java/lang/invoke/VarHandle" ∧ (parseMethodDescriptor y.desc).map (fun d => d.parameters.length) = some n)
def RmOK (rm R : Room) (maxL : Nat) : Bool := Nat.beq rm.cells 0 && (Nat.beq rm.slots 0 && (Nat.ble (rm.frames + 1) R.frames && Nat.ble (8 + (maxL + 11) + rm.locals) R.locals))
theorem rmOK_of {rm R : Room} {maxL : Nat} (h : RmOK rm R maxL = true) : rm.cells = 0 ∧ rm.slots = 0 ∧ rm.frames + 1 ≤ R.frames ∧ 8 + (maxL + 11) + rm.locals ≤ R.locals := by
  simp only [RmOK, Bool.and_eq_true, Nat.ble_eq, Nat.beq_eq] at h
  exact h
theorem cz_sum (ad : Nat → Nat) (l : List Value) : ((l.map (cz ad)).map fun v => v.category).sum = (l.map fun v => v.category).sum := by
  induction l with
  | nil => rfl
  | cons v t ih => simp only [List.map_cons, List.sum_cons, cz_cat, ih]
section CALL
variable {p : Program} {l : Launch} {e : Env} {R : Room} {s : State} {m : MethodId} {args : Array Value} {below : List Frame} {meth : Method} {c : Code} {Q : State → Prop} {cc : ByteArray} {nL : Nat} {own : String} {D : va_G} {cy : Nat → ClassId} {kd : KdT} {ad : Nat → Nat} {N : Nat}
/-- behind a call -/
theorem vv_back {pc : Nat} {lv : LV} {rest : List Value} {I2 : IM} {L2 : LM} {r : Option Value} {H : Heap} {locs : List Loc} {ls : Array Slot} {st0 : List Value} {a : Array Value}
    (hr : va_Run p l e R s m args below meth c H locs 0 0 0 0 (F0 m pc ls st0) (rest.map (cz ad)) ((fun _ st oc t => (oc = .returned (r.map (cz ad)) ∧ wd D cy kd ad N I2 L2 t.heap) ∧ va_F (AA ad N) st t) a) (AA ad N))
    (hS : va_S (AA ad N) s.heap H locs) (hl : lv_has ls nL (lv.map fun q => (q.1, cz ad q.2))) (hv : VV p l e R s m args below meth c Q nL D cy kd ad N (pc + 3) lv (r.toList ++ rest) I2 L2) :
    W p l e R s m args below meth c H locs 0 0 Q (F0 m pc ls st0) := by
  intro T hT X
  obtain ⟨v, st₀, t, T', Lx, h0, X', hL, e1, e2, ⟨⟨hv1, hwd⟩, hz, hk⟩, st⟩ := hr T hT X
  have hv2 : v = r.map (cz ad) := by cases hv1; rfl
  rw [h0] at hz hk
  have key := hv T'.heap (locs ++ Lx) ls (by rw [e1]; exact hwd) ⟨Nat.le_trans hS.1 (by rw [e1]; exact hz), fun q h1 h2 => by rw [e1, hk q (Nat.lt_of_lt_of_le h1 hS.1) h2]; exact hS.2.1 q h1 h2, fun q hq => by
      rcases List.mem_append.mp hq with h | h
      · exact hS.2.2 q h
      · exact hL q h⟩ hl
  obtain ⟨t2, a1, b1⟩ := key T' rfl X'
  refine ⟨t2, st t2 ?_, b1⟩
  rw [hv2]
  have e3 : (Option.map (cz ad) r).toList ++ rest.map (cz ad) = (r.toList ++ rest).map (cz ad) := by
    cases r <;> simp
  rw [e3]
  exact a1
theorem vv_callS {pc ix : Nat} {y : MethodName} {bytes : ByteArray} {maxL : Nat} {ret : Option FieldType} {rm : Room} {av rest : List Value} {lv : LV} {I I2 : IM} {L L2 : LM} {r : Option Value} (hC : Cx p s m args c cc nL own D cy kd ad N) (hdg : decode cc pc = .ok (.invokestatic ix, 3)) (hs : SitS own ix y bytes maxL ret av.length) (hrm : RmOK rm R maxL = true) (hM : CR l kd N y bytes maxL ret rm av I L r I2 L2) (hcat : (rest.map fun v => v.category).sum ≤ 8) (hv : VV p l e R s m args below meth c Q nL D cy kd ad N (pc + 3) lv (r.toList ++ rest) I2 L2) : VV p l e R s m args below meth c Q nL D cy kd ad N pc lv (av.reverse ++ rest) I L := by
  intro H locs ls hW hS hl
  obtain ⟨hx, hb, hml, hown, hts, hK, hinj, hkd⟩ := hC
  obtain ⟨⟨h1, h2, h3, h4⟩, hd⟩ := hs
  obtain ⟨r1, r2, r3, r4⟩ := rmOK_of hrm
  refine vv_back (a := (av.map (cz ad)).toArray) ?_ hS hl hv
  refine va_runS (n := av.length) ⟨hx, hb, hml, hown, hts⟩ (hM D cy ad hinj) (va_cwS av.length hts (gIn (fun w hw => ?_)) rfl r1 r2 hd ⟨r3, r4⟩) ⟨fun a U g mk q => ?_, fun U hU hWm => ⟨rfl, by rw [hU]; exact hW, va_K.moved hWm.alike hK⟩⟩ rfl (by simp) hl.1 (by simp) (lv_room (by rw [cz_sum]; exact hcat)) hdg ⟨Nat.zero_le _, Nat.zero_le _⟩
  · rcases List.mem_append.mp hw with h | h
    · simp only [List.mem_cons, List.not_mem_nil, or_false] at h
      rcases h with rfl | rfl | rfl
      · exact h1
      · exact h2
      · exact h3
    · rcases List.mem_cons.mp h with rfl | h
      · exact h4
      · exact h
  · obtain ⟨q0, qW, qK⟩ := q
    exact ⟨q0, qW, va_K.moved (u := U) (U := U.calling g mk a) (Vm.Alike.refl U.vm) qK⟩
theorem vv_callV {pc ix i ci b : Nat} {T : u_T} {NF : Nat} {y : MethodName} {bytes : ByteArray} {maxL : Nat} {ret : Option FieldType} {rm : Room} {av rest : List Value} {lv : LV} {I I2 : IM} {L L2 : LM} {r : Option Value} (hC : Cx p s m args c cc nL own D cy kd ad N) (hdg : decode cc pc = .ok (.invokevirtual ix, 3)) (hs : SitV own ix y bytes maxL ret av.length) (hrm : RmOK rm R maxL = true) (hkd1 : kd i = (0, ci, b)) (hcl : vwCl[ci]? = some (y.cls, T, NF)) (hM : CR l kd N y bytes maxL ret rm (.ref i :: av) I L r I2 L2) (hcat : (rest.map fun v => v.category).sum ≤ 8) (hv : VV p l e R s m args below meth c Q nL D cy kd ad N (pc + 3) lv (r.toList ++ rest) I2 L2) : VV p l e R s m args below meth c Q nL D cy kd ad N pc lv (av.reverse ++ .ref i :: rest) I L := by
  intro H locs ls hW hS hl
  obtain ⟨hlt, hP⟩ := wd_obj (ci := 0) hC hW hkd1
  obtain ⟨hx, hb, hml, hown, hts, hK, hinj, hkd⟩ := hC
  obtain ⟨⟨h1, h2, h3, h4, h5⟩, hd⟩ := hs
  obtain ⟨r1, r2, r3, r4⟩ := rmOK_of hrm
  refine vv_back (a := (Value.ref (ad i) :: av.map (cz ad)).toArray) ?_ hS hl hv
  refine va_runV (n := av.length) (b := ad i) (C := y.cls) ⟨hx, hb, hml, hown, hts⟩ (hM D cy ad hinj) (cwV av.length hts (gIn (fun w hw => ?_)) rfl r1 r2 hd ⟨r3, r4⟩) ⟨fun a U g mk q => ?_, va_recv hK hP (ci := ci) (q0 := 0) hcl rfl, fun U hU hWm => ⟨rfl, by rw [hU]; exact hW, va_K.moved hWm.alike hK⟩⟩ rfl (by simp) hl.1 (by simp [cz]) (lv_room (by rw [cz_sum]; exact hcat)) hdg ⟨Nat.zero_le _, Nat.zero_le _⟩
  · rcases List.mem_append.mp hw with h | h
    · simp only [List.mem_cons, List.not_mem_nil, or_false] at h
      rcases h with rfl | rfl | rfl | rfl
      · exact h1
      · exact h2
      · exact h3
      · exact h4
    · rcases List.mem_cons.mp h with rfl | h
      · exact h5
      · exact h
  · obtain ⟨q0, qW, qK⟩ := q
    exact ⟨q0, qW, va_K.moved (u := U) (U := U.calling g mk a) (Vm.Alike.refl U.vm) qK⟩
end CALL
/-- the first n places of a row taken from another -/
def cp0 {α : Type} (f g : Nat → α) (n : Nat) : Nat → α := fun j => if j < n then f j else g j
/-- a row laid anew -/
def mrow {α : Type} (I : Nat → Nat → α) (i : Nat) (f : Nat → α) : Nat → Nat → α := fun a => if a = i then f else I a
def SitN (own : String) (ix : Nat) (y : MethodName) : Prop := Cond.methodLink own ix y ∈ WB ∧ Cond.native y ∈ WB ∧ Cond.static y ∈ WB ∧ Cond.initialized y.cls ∈ WB
section CPY
variable {p : Program} {l : Launch} {e : Env} {R : Room} {s : State} {m : MethodId} {args : Array Value} {below : List Frame} {meth : Method} {c : Code} {Q : State → Prop} {cc : ByteArray} {nL : Nat} {own : String} {D : va_G} {cy : Nat → ClassId} {kd : KdT} {ad : Nat → Nat} {N : Nat}
theorem cpyI_row {H : Heap} {locs : List Loc} {cells slots : Nat} {pc ix : Nat} {ls : Array Slot} {rest : List Value} {I : IM} {L : LM} {i0 i1 n0 n1 n : Nat} (hC : Cx p s m args c cc nL own D cy kd ad N) (hls : ls.size = nL) (hs : SitN own ix arraycopyName) (hk0 : kd i0 = (1, n0, 0)) (hk1 : kd i1 = (1, n1, 0)) (h4 : n ≤ n0) (h5 : n ≤ n1) (hW : wd D cy kd ad N I L H) (hS : va_S (AA ad N) s.heap H locs)
    (hframes : 1 ≤ R.frames) (hlocals : (rest.map fun v => v.category).sum + (nativeFrameWords "java/lang/System" "arraycopy" 5 + 11) ≤ R.locals) (hdg : decode cc pc = .ok (.invokestatic ix, 3))
    (kk : ∀ (H1 : Heap) (locs1 : List Loc), wd D cy kd ad N (mrow I i1 (cp0 (I i0) (I i1) n)) L H1 → va_S (AA ad N) s.heap H1 locs1 → W p l e R s m args below meth c H1 locs1 cells slots Q (F0 m (pc + 3) ls rest)) : W p l e R s m args below meth c H locs cells slots Q (F0 m pc ls (.int (nI n) :: .int 0 :: .ref (ad i1) :: .int 0 :: .ref (ad i0) :: rest)) := by
  obtain ⟨hlt0, hP0⟩ := wd_arrI hC hW hk0
  obtain ⟨hlt1, hP1⟩ := wd_arrI hC hW hk1
  have hn0 := hC.2.2.2.2.2.2.2.2 i0
  rw [hk0] at hn0
  obtain ⟨hexec, hb, hml, hown, hts, hK, hinj, hkd⟩ := hC
  obtain ⟨w1, w2, w3, w4⟩ := hs
  have hnn : n < 2 ^ 31 := Nat.lt_of_le_of_lt h4 hn0
  have h3 : ¬ nI n < 0 := nI_pos hnn
  have hcl : (nI n).toNatClampNeg = n := nI_clamp hnn
  have hti : (nI n).toInt = (n : Int) := nI_toInt hnn
  intro T hT X
  have hc0 : H[ad i0]? = some (vp_cell (cy 0) (n0, .inl (I i0))) := hP0 0 _ rfl
  have hc1 : H[ad i1]? = some (vp_cell (cy 0) (n1, .inl (I i1))) := hP1 0 _ rfl
  obtain ⟨-, k0, hkk0, cm0, hkkk0⟩ := (hK.2 0 _ rfl).1 n0 (fun j => .int (I i0 j))
  obtain ⟨-, k1, hkk1, cm1, hkkk1⟩ := (hK.2 0 _ rfl).1 n1 (fun j => .int (I i1 j))
  obtain ⟨vm', X', step⟩ := X.arraycopy hexec hown (hts _ w1) (hts _ w2) (hts _ w3) (hts _ w4) (src := ad i0) (dst := ad i1) (cs := vp_cell (cy 0) (n0, .inl (I i0))) (cd := vp_cell (cy 0) (n1, .inl (I i1))) (srcPos := 0) (destPos := 0) (n := nI n) (by rw [hT]; exact hc0) (by rw [hT]; exact hc1)
    (fun _ h => by cases h) (fun _ h => by cases h) (fun h => by cases h) (fun h => by cases h) hkk0 hkk1 hkkk0 hkkk1 (by simp [show refKind FieldType.int = false from rfl]) (by decide) (by decide) h3
    (by rw [hti]; show ¬ _ > ((arrV (cy 0) n0 (fun j => .int (I i0 j))).slots.size : Int); rw [arrV_size]; have : (0 : Int32).toInt = 0 := rfl; omega)
    (by rw [hti]; show ¬ _ > ((arrV (cy 0) n1 (fun j => .int (I i1 j))).slots.size : Int); rw [arrV_size]; have : (0 : Int32).toInt = 0 := rfl; omega)
    (fun vm₁ _ i hi => by
      rw [hcl] at hi
      have e : (vp_cell (cy 0) (n0, .inl (I i0))).slots.getD ((0 : Int32).toNatClampNeg + i) .null = .int (I i0 i) := by
        show (arrV (cy 0) n0 (fun j => .int (I i0 j))).slots.getD _ _ = _
        rw [show (0 : Int32).toNatClampNeg + i = i from Nat.zero_add i, Array.getD_eq_getD_getElem?, arrV_read _ _ (by omega)]
        rfl
      refine ⟨?_, ?_⟩
      · rw [e]
        rfl
      · rw [e]
        exact trivial)
    (g := F0 m pc ls (.int (nI n) :: .int 0 :: .ref (ad i1) :: .int 0 :: .ref (ad i0) :: rest)) rfl (by rw [hml]; exact hls) (rest := rest) rfl (by rw [hb]; exact hdg) hframes (by show 2 * 0 + _ + _ ≤ _; omega)
  have e1 : copied (vp_cell (cy 0) (n0, .inl (I i0))) (vp_cell (cy 0) (n1, .inl (I i1))) 0 0 (nI n) = vp_cell (cy 0) (n1, .inl (va_cpy (I i0) (I i1) (0 : Int32).toNatClampNeg (0 : Int32).toNatClampNeg (nI n).toNatClampNeg)) := va_copied (fun z => .int z) (cy 0) (cy 0) (I i0) (I i1) (by rw [hcl]; show 0 + n ≤ n0; omega)
  have e2 : va_cpy (I i0) (I i1) (0 : Int32).toNatClampNeg (0 : Int32).toNatClampNeg (nI n).toNatClampNeg = cp0 (I i0) (I i1) n := by
    rw [hcl]
    funext k
    show (if 0 ≤ k ∧ k < 0 + n then _ else _) = _
    simp [va_cpy, cp0]
  rw [e1, e2] at X' step
  generalize hcell : vp_cell (cy 0) (n1, .inl (cp0 (I i0) (I i1) n)) = cell at X' step
  have hl : ad i1 < H.size := (Array.getElem?_eq_some_iff.mp hc1).1
  have hheap : ((T.setVm vm').setCell (ad i1) cell).heap = H.setIfInBounds (ad i1) cell := by rw [← hT]; rfl
  have oq : ∀ q : Nat, q ≠ ad i1 → (H.setIfInBounds (ad i1) cell)[q]? = H[q]? := fun q hq => by simp [Array.getElem?_setIfInBounds, Ne.symm hq]
  have hct : ctn cy kd ad (mrow I i1 (cp0 (I i0) (I i1) n)) L i1 = .inl (cy 0, n1, .inl (cp0 (I i0) (I i1) n)) := by
    unfold ctn
    rw [hk1]
    simp only [mrow, if_true]
    rfl
  obtain ⟨t, a1, b1⟩ := kk _ _ (wd_put hinj hW hlt1 (by rw [hct]; show (H.setIfInBounds (ad i1) cell)[ad i1]? = some (vp_cell _ _); rw [hcell]; simp [Array.getElem?_setIfInBounds, hl]) oq (fun q hq => by simp [mrow, hq]) (fun _ _ => rfl)) ⟨by simp; exact hS.1, fun q g1 g2 => by
      rw [oq q (fun e => g2 ⟨i1, hlt1, e⟩)]
      exact hS.2.1 q g1 g2, fun q hq => by
      rcases List.mem_append.mp hq with h | h
      · exact hS.2.2 q h
      · obtain ⟨z, -, hz⟩ := List.mem_map.mp h
        rw [← hz]
        exact ⟨i1, hlt1, rfl⟩⟩ _ hheap X'
  exact ⟨t, step t a1, b1⟩
theorem cpyL_row {H : Heap} {locs : List Loc} {cells slots : Nat} {pc ix : Nat} {ls : Array Slot} {rest : List Value} {I : IM} {L : LM} {i0 i1 n0 n1 n : Nat} (hC : Cx p s m args c cc nL own D cy kd ad N) (hls : ls.size = nL) (hs : SitN own ix arraycopyName) (hk0 : kd i0 = (2, n0, 0)) (hk1 : kd i1 = (2, n1, 0)) (h4 : n ≤ n0) (h5 : n ≤ n1) (hW : wd D cy kd ad N I L H) (hS : va_S (AA ad N) s.heap H locs)
    (hframes : 1 ≤ R.frames) (hlocals : (rest.map fun v => v.category).sum + (nativeFrameWords "java/lang/System" "arraycopy" 5 + 11) ≤ R.locals) (hdg : decode cc pc = .ok (.invokestatic ix, 3))
    (kk : ∀ (H1 : Heap) (locs1 : List Loc), wd D cy kd ad N I (mrow L i1 (cp0 (L i0) (L i1) n)) H1 → va_S (AA ad N) s.heap H1 locs1 → W p l e R s m args below meth c H1 locs1 cells slots Q (F0 m (pc + 3) ls rest)) : W p l e R s m args below meth c H locs cells slots Q (F0 m pc ls (.int (nI n) :: .int 0 :: .ref (ad i1) :: .int 0 :: .ref (ad i0) :: rest)) := by
  obtain ⟨hlt0, hP0⟩ := wd_arrL hC hW hk0
  obtain ⟨hlt1, hP1⟩ := wd_arrL hC hW hk1
  have hn0 := hC.2.2.2.2.2.2.2.2 i0
  rw [hk0] at hn0
  obtain ⟨hexec, hb, hml, hown, hts, hK, hinj, hkd⟩ := hC
  obtain ⟨w1, w2, w3, w4⟩ := hs
  have hnn : n < 2 ^ 31 := Nat.lt_of_le_of_lt h4 hn0
  have h3 : ¬ nI n < 0 := nI_pos hnn
  have hcl : (nI n).toNatClampNeg = n := nI_clamp hnn
  have hti : (nI n).toInt = (n : Int) := nI_toInt hnn
  intro T hT X
  have hc0 : H[ad i0]? = some (vp_cell (cy 1) (n0, .inr (.inl (L i0)))) := hP0 0 _ rfl
  have hc1 : H[ad i1]? = some (vp_cell (cy 1) (n1, .inr (.inl (L i1)))) := hP1 0 _ rfl
  obtain ⟨-, k0, hkk0, cm0, hkkk0⟩ := (hK.2 1 _ rfl).1 n0 (fun j => .long (L i0 j))
  obtain ⟨-, k1, hkk1, cm1, hkkk1⟩ := (hK.2 1 _ rfl).1 n1 (fun j => .long (L i1 j))
  obtain ⟨vm', X', step⟩ := X.arraycopy hexec hown (hts _ w1) (hts _ w2) (hts _ w3) (hts _ w4) (src := ad i0) (dst := ad i1) (cs := vp_cell (cy 1) (n0, .inr (.inl (L i0)))) (cd := vp_cell (cy 1) (n1, .inr (.inl (L i1)))) (srcPos := 0) (destPos := 0) (n := nI n) (by rw [hT]; exact hc0) (by rw [hT]; exact hc1)
    (fun _ h => by cases h) (fun _ h => by cases h) (fun h => by cases h) (fun h => by cases h) hkk0 hkk1 hkkk0 hkkk1 (by simp [show refKind FieldType.long = false from rfl]) (by decide) (by decide) h3
    (by rw [hti]; show ¬ _ > ((arrV (cy 1) n0 (fun j => .long (L i0 j))).slots.size : Int); rw [arrV_size]; have : (0 : Int32).toInt = 0 := rfl; omega)
    (by rw [hti]; show ¬ _ > ((arrV (cy 1) n1 (fun j => .long (L i1 j))).slots.size : Int); rw [arrV_size]; have : (0 : Int32).toInt = 0 := rfl; omega)
    (fun vm₁ _ i hi => by
      rw [hcl] at hi
      have e : (vp_cell (cy 1) (n0, .inr (.inl (L i0)))).slots.getD ((0 : Int32).toNatClampNeg + i) .null = .long (L i0 i) := by
        show (arrV (cy 1) n0 (fun j => .long (L i0 j))).slots.getD _ _ = _
        rw [show (0 : Int32).toNatClampNeg + i = i from Nat.zero_add i, Array.getD_eq_getD_getElem?, arrV_read _ _ (by omega)]
        rfl
      refine ⟨?_, ?_⟩
      · rw [e]
        rfl
      · rw [e]
        exact trivial)
    (g := F0 m pc ls (.int (nI n) :: .int 0 :: .ref (ad i1) :: .int 0 :: .ref (ad i0) :: rest)) rfl (by rw [hml]; exact hls) (rest := rest) rfl (by rw [hb]; exact hdg) hframes (by show 2 * 0 + _ + _ ≤ _; omega)
  have e1 : copied (vp_cell (cy 1) (n0, .inr (.inl (L i0)))) (vp_cell (cy 1) (n1, .inr (.inl (L i1)))) 0 0 (nI n) = vp_cell (cy 1) (n1, .inr (.inl (va_cpy (L i0) (L i1) (0 : Int32).toNatClampNeg (0 : Int32).toNatClampNeg (nI n).toNatClampNeg))) := va_copied (fun z => .long z) (cy 1) (cy 1) (L i0) (L i1) (by rw [hcl]; show 0 + n ≤ n0; omega)
  have e2 : va_cpy (L i0) (L i1) (0 : Int32).toNatClampNeg (0 : Int32).toNatClampNeg (nI n).toNatClampNeg = cp0 (L i0) (L i1) n := by
    rw [hcl]
    funext k
    show (if 0 ≤ k ∧ k < 0 + n then _ else _) = _
    simp [va_cpy, cp0]
  rw [e1, e2] at X' step
  generalize hcell : vp_cell (cy 1) (n1, .inr (.inl (cp0 (L i0) (L i1) n))) = cell at X' step
  have hl : ad i1 < H.size := (Array.getElem?_eq_some_iff.mp hc1).1
  have hheap : ((T.setVm vm').setCell (ad i1) cell).heap = H.setIfInBounds (ad i1) cell := by rw [← hT]; rfl
  have oq : ∀ q : Nat, q ≠ ad i1 → (H.setIfInBounds (ad i1) cell)[q]? = H[q]? := fun q hq => by simp [Array.getElem?_setIfInBounds, Ne.symm hq]
  have hct : ctn cy kd ad I (mrow L i1 (cp0 (L i0) (L i1) n)) i1 = .inl (cy 1, n1, .inr (.inl (cp0 (L i0) (L i1) n))) := by
    unfold ctn
    rw [hk1]
    simp only [mrow, if_true]
    rfl
  obtain ⟨t, a1, b1⟩ := kk _ _ (wd_put hinj hW hlt1 (by rw [hct]; show (H.setIfInBounds (ad i1) cell)[ad i1]? = some (vp_cell _ _); rw [hcell]; simp [Array.getElem?_setIfInBounds, hl]) oq (fun _ _ => rfl) (fun q hq => by simp [mrow, hq])) ⟨by simp; exact hS.1, fun q g1 g2 => by
      rw [oq q (fun e => g2 ⟨i1, hlt1, e⟩)]
      exact hS.2.1 q g1 g2, fun q hq => by
      rcases List.mem_append.mp hq with h | h
      · exact hS.2.2 q h
      · obtain ⟨z, -, hz⟩ := List.mem_map.mp h
        rw [← hz]
        exact ⟨i1, hlt1, rfl⟩⟩ _ hheap X'
  exact ⟨t, step t a1, b1⟩
end CPY
/-- the rules that a walk may use: a run, its end, calls, fewer locals -/
def Ru (l : Launch) (kd : KdT) (N : Nat) (own : String) (cc : ByteArray) (R : Room) (F : Ft) (P : List En) (V : Nat → LV → List Value → IM → LM → Prop) (E : List Value → IM → LM → Prop) : Prop :=
  (∀ n ds pc lv st I L O2 pc2 lv2 st2 I2 L2, run kd F P n ds True pc lv st I L = (O2, pc2, lv2, st2, I2, L2) → pc < RET → O2 → (if pc2 = RET then E st2 I2 L2 else V pc2 lv2 st2 I2 L2) → V pc lv st I L) ∧
  (∀ pc ix np tg cv y bytes maxL ret rm av rest lv I L r I2 L2, lk P pc = some (.invokestatic ix, np, tg, cv) → SitS own ix y bytes maxL ret av.length → RmOK rm R maxL = true → CR l kd N y bytes maxL ret rm av I L r I2 L2 → (rest.map fun v => v.category).sum ≤ 8 → V np lv (r.toList ++ rest) I2 L2 → V pc lv (av.reverse ++ rest) I L) ∧
  (∀ pc ix np tg cv y bytes maxL ret rm av rest lv I L r I2 L2 i ci b T NF, lk P pc = some (.invokevirtual ix, np, tg, cv) → SitV own ix y bytes maxL ret av.length → RmOK rm R maxL = true → kd i = (0, ci, b) → vwCl[ci]? = some (y.cls, T, NF) → CR l kd N y bytes maxL ret rm (.ref i :: av) I L r I2 L2 → (rest.map fun v => v.category).sum ≤ 8 → V np lv (r.toList ++ rest) I2 L2 → V pc lv (av.reverse ++ .ref i :: rest) I L) ∧
  (∀ pc lv lv2 st I L, (∀ q ∈ lv2, q ∈ lv) → V pc lv2 st I L → V pc lv st I L) ∧
  (∀ (pc : Nat) (dflt lo hi : Int) (offs : Array Int) (len tgt : Nat) (x : Int32) (rest : List Value) (lv : LV) (I : IM) (L : LM), decode cc pc = .ok (.tableswitch dflt lo hi offs, len) → ((x.toInt < lo ∨ hi < x.toInt) → (pc : Int) + dflt = (tgt : Int)) → (¬ x.toInt < lo → ¬ hi < x.toInt → ∃ off, offs[(x.toInt - lo).toNat]? = some off ∧ (pc : Int) + off = (tgt : Int)) → V tgt lv rest I L → V pc lv (.int x :: rest) I L) ∧
  (∀ (pc ix np tg : Nat) (cv : Value) (n i0 i1 n0 n1 : Nat) (rest : List Value) (lv : LV) (I : IM) (L : LM), lk P pc = some (.invokestatic ix, np, tg, cv) → SitN own ix arraycopyName → kd i0 = (1, n0, 0) → kd i1 = (1, n1, 0) → n ≤ n0 → n ≤ n1 → 1 ≤ R.frames → (rest.map fun v => v.category).sum + (nativeFrameWords "java/lang/System" "arraycopy" 5 + 11) ≤ R.locals → V np lv rest (mrow I i1 (cp0 (I i0) (I i1) n)) L → V pc lv (.int (nI n) :: .int 0 :: .ref i1 :: .int 0 :: .ref i0 :: rest) I L) ∧
  (∀ (pc ix np tg : Nat) (cv : Value) (n i0 i1 n0 n1 : Nat) (rest : List Value) (lv : LV) (I : IM) (L : LM), lk P pc = some (.invokestatic ix, np, tg, cv) → SitN own ix arraycopyName → kd i0 = (2, n0, 0) → kd i1 = (2, n1, 0) → n ≤ n0 → n ≤ n1 → 1 ≤ R.frames → (rest.map fun v => v.category).sum + (nativeFrameWords "java/lang/System" "arraycopy" 5 + 11) ≤ R.locals → V np lv rest I (mrow L i1 (cp0 (L i0) (L i1) n)) → V pc lv (.int (nI n) :: .int 0 :: .ref i1 :: .int 0 :: .ref i0 :: rest) I L) ∧
  (∀ (pc ix np tg : Nat) (cv : Value) (b : UInt64) (rest : List Value) (lv : LV) (I : IM) (L : LM), lk P pc = some (.invokestatic ix, np, tg, cv) → SitN own ix ⟨"java/lang/Double", "doubleToRawLongBits", "(D)J"⟩ → 1 ≤ R.frames → (rest.map fun v => v.category).sum + 15 ≤ R.locals → V np lv (.long b.toInt64 :: rest) I L → V pc lv (.double b :: rest) I L) ∧
  (∀ (pc ix np tg : Nat) (cv : Value) (b : UInt32) (rest : List Value) (lv : LV) (I : IM) (L : LM), lk P pc = some (.invokestatic ix, np, tg, cv) → SitN own ix ⟨"java/lang/Float", "floatToRawIntBits", "(F)I"⟩ → 1 ≤ R.frames → (rest.map fun v => v.category).sum + 15 ≤ R.locals → V np lv (.int b.toInt32 :: rest) I L → V pc lv (.float b :: rest) I L)
theorem lvargs_map (ad : Nat → Nat) : ∀ (i : Nat) (vs : List Value), lv_args i (vs.map (cz ad)) = (lv_args i vs).map fun q => (q.1, cz ad q.2)
  | _, [] => rfl
  | i, v :: vs => by simp only [List.map_cons, lv_args, cz_cat, lvargs_map ad _ vs]
theorem lgsl_map (ad : Nat → Nat) : ∀ (vs : List Value), (lg_sl (vs.map (cz ad))).length = (lg_sl vs).length
  | [] => rfl
  | v :: vs => by
    have := lgsl_map ad vs
    simp only [lg_sl, List.map_cons, List.flatMap_cons, List.length_append, cz_cat] at this ⊢
    rw [this]
    by_cases h : v.category = 2 <;> simp [h]
theorem met_ofWF {l : Launch} {y : MethodName} {ws ws' : List Cond} {rm : Room} {Pc : Array Value → State → Prop} {Qc : Array Value → State → Outcome → State → Prop} {mc ms : Nat} {free : Addr → Prop} {cc : ByteArray} {maxL : Nat} {ret : Option FieldType}
    (hy : plainFor y = true) (hw : ws = Cond.code y cc maxL ret :: ws')
    (body : ∀ p e s m args below meth c s₁, BodyLoose p l y (headSpec ws rm) cc maxL ret e s m args below meth c s₁ → c.maxLocals = maxL → Pc args s →
      W p l e (headSpec ws rm).room s m args below meth c s.heap [] 0 0 (MQ below Qc args s mc ms free) (entryFrame m args maxL)) : Met l y ws rm Pc Qc mc ms free := by
  refine MetFree.of_bodySF (code := cc) (maxLocals := maxL) (ret := ret) hy ?_ ?_
  · intro args s m h hn
    obtain ⟨meth, c, h1, h2, h3, h4, h5, h6, -, -⟩ := Cond.code_spec hn (atoms_spec (ws := ws) h _ (by rw [hw]; exact List.mem_cons_self))
    exact ⟨meth, c, h1, h2, h3, h4, h5, h6⟩
  · intro p e s m args below meth c s₁ B hml hP _
    have hh0 : s₁.heap = s.heap := by rw [B.state]; rfl
    obtain ⟨t, a1, o, b1, b2, b3⟩ := body p e s m args below meth c s₁ B hml hP s₁ hh0 (Stand.of_body B)
    exact ⟨t, o, a1, b1, b2, ⟨b3.1, b3.2⟩⟩
theorem ru_of {p : Program} {l : Launch} {e : Env} {R : Room} {s : State} {m : MethodId} {args : Array Value} {below : List Frame} {meth : Method} {c : Code} {Q : State → Prop} {cc : ByteArray} {nL : Nat} {own : String} {D : va_G} {cy : Nat → ClassId} {kd : KdT} {ad : Nat → Nat} {N : Nat} {E : List Value → IM → LM → Prop} {F : Ft} {P : List En} {ret : Option FieldType} (hC : Cx p s m args c cc nL own D cy kd ad N) (hF : FOK own F) (hP : okP cc own P = true) (hloc : P.all (fun q => locB nL q.2.1) = true) (hrb : P.all (fun q => retB ret q.2.1) = true)
    (hret : ∀ (pc : Nat) (ins : Instr) (lv : LV) (st : List Value) (I : IM) (L : LM), decode cc pc = .ok (ins, 1) → retB ret ins = true → ((ins = .ireturn ∧ ∃ x, st = [.int x]) ∨ (ins = .lreturn ∧ ∃ x, st = [.long x]) ∨ (ins = .freturn ∧ ∃ x, st = [.float x]) ∨ (ins = .dreturn ∧ ∃ x, st = [.double x]) ∨ (ins = .return_ ∧ st = [])) → E st I L → VV p l e R s m args below meth c Q nL D cy kd ad N pc lv st I L) :
    Ru l kd N own cc R F P (VV p l e R s m args below meth c Q nL D cy kd ad N) E := by
  have hx := hC.1
  have hb := hC.2.1
  have hml := hC.2.2.1
  have hnm := hC.2.2.2.1
  have hts := hC.2.2.2.2.1
  refine ⟨?_, ?_, ?_, ?_, ?_, ?_, ?_, ?_, ?_⟩
  · intro n ds pc lv st J K O2 pc2 lv2 st2 J2 K2 hrun hpc hO hV
    have h := run_ok hC hF hP hloc hrb hret n ds True pc lv st J K hpc
    rw [hrun] at h
    exact h.2 hO hV
  · intro pc ix np tg cv y2 bytes2 maxL2 ret2 rm2 av2 rest lv J K r2 J2 K2 hl2 hs hrm hM hcat hV
    obtain ⟨hd, hnp, -⟩ := insOK_of hP hl2
    subst hnp
    exact vv_callS hC hd hs hrm hM hcat hV
  · intro pc ix np tg cv y2 bytes2 maxL2 ret2 rm2 av2 rest lv J K r2 J2 K2 i ci b T NF hl2 hs hrm hk1 hk2 hM hcat hV
    obtain ⟨hd, hnp, -⟩ := insOK_of hP hl2
    subst hnp
    exact vv_callV hC hd hs hrm hk1 hk2 hM hcat hV
  · intro pc lv lv2 st J K hsub hV H locs ls hW hS hl
    exact hV H locs ls hW hS ⟨hl.1, hl.2.1, fun q hq => by
      obtain ⟨z, hz, rfl⟩ := List.mem_map.mp hq
      exact hl.2.2 _ (List.mem_map.mpr ⟨z, hsub z hz, rfl⟩)⟩
  · intro pc dflt lo hi offs len tgt x rest lv J K hdg h1 h2 hV H locs ls hW hS hl
    by_cases a : x.toInt < lo
    · exact lv_tableOut hx hb hdg (Or.inl a) (h1 (Or.inl a)) (hV H locs ls hW hS hl)
    · by_cases b : hi < x.toInt
      · exact lv_tableOut hx hb hdg (Or.inr b) (h1 (Or.inr b)) (hV H locs ls hW hS hl)
      · obtain ⟨off, o1, o2⟩ := h2 a b
        exact lv_tableIn hx hb hdg a b o1 o2 (hV H locs ls hW hS hl)
  · intro pc ix np tg cv n i0 i1 n0 n1 rest lv J K hl2 hs hk0 hk1 h4 h5 hfr hlo hV H locs ls hW hS hl
    obtain ⟨hd, hnp, -⟩ := insOK_of hP hl2
    subst hnp
    exact cpyI_row hC hl.1 hs hk0 hk1 h4 h5 hW hS hfr (by rw [cz_sum]; exact hlo) hd (fun H1 locs1 hW1 hS1 => hV H1 locs1 ls hW1 hS1 hl)
  · intro pc ix np tg cv n i0 i1 n0 n1 rest lv J K hl2 hs hk0 hk1 h4 h5 hfr hlo hV H locs ls hW hS hl
    obtain ⟨hd, hnp, -⟩ := insOK_of hP hl2
    subst hnp
    exact cpyL_row hC hl.1 hs hk0 hk1 h4 h5 hW hS hfr (by rw [cz_sum]; exact hlo) hd (fun H1 locs1 hW1 hS1 => hV H1 locs1 ls hW1 hS1 hl)
  · intro pc ix np tg cv b rest lv J K hl2 hs hfr hlo hV H locs ls hW hS hl
    obtain ⟨hd, hnp, -⟩ := insOK_of hP hl2
    subst hnp
    obtain ⟨w1, w2, w3, w4⟩ := hs
    exact vn_d2l hx hb (hml.trans hl.1.symm) hnm (hts _ w1) (hts _ w2) (hts _ w3) (hts _ w4) hfr (by rw [cz_sum]; exact hlo) hd (hV H locs ls hW hS hl)
  · intro pc ix np tg cv b rest lv J K hl2 hs hfr hlo hV H locs ls hW hS hl
    obtain ⟨hd, hnp, -⟩ := insOK_of hP hl2
    subst hnp
    obtain ⟨w1, w2, w3, w4⟩ := hs
    exact vn_f2i hx hb (hml.trans hl.1.symm) hnm (hts _ w1) (hts _ w2) (hts _ w3) (hts _ w4) hfr (by rw [cz_sum]; exact hlo) hd (hV H locs ls hW hS hl)
/-- A CONTRACT OUT OF A WALK by the rules -/
theorem cr_of {l : Launch} {kd : KdT} {N : Nat} {y : MethodName} {cc : ByteArray} {nL : Nat} {ret : Option FieldType} {rm : Room} {own : String} {F : Ft} {P : List En} (hy : plainFor y = true) (hown : own = y.cls) (hkd : kdOK kd N) (hF : FOK own F) (hP : okP cc own P = true) (hloc : P.all (fun q => locB nL q.2.1) = true) (hrb : P.all (fun q => retB ret q.2.1) = true) {av : List Value} {I I2 : IM} {L L2 : LM} {r : Option Value} (hlen : Nat.ble (lg_sl av).length nL = true) (hz : ret = some .boolean → ∀ x, r = some (.int x) → x = 0 ∨ x = 1)
    (body : ∀ V : Nat → LV → List Value → IM → LM → Prop, Ru l kd N own cc rm F P V (fun st J K => st = r.toList ∧ J = I2 ∧ K = L2) → V 0 (lv_args 0 av) [] I L) : CR l kd N y cc nL ret rm av I L r I2 L2 := by
  intro D cy ad hinj
  refine met_ofWF (cc := cc) (maxL := nL) (ret := ret) hy rfl ?_
  intro p e s m args below meth c s₁ B hml hv
  obtain ⟨rfl, hW, hK⟩ := hv
  have hts : ∀ w ∈ WB, w.before (av.map (cz ad)).toArray s = true := fun w hw => atoms_spec (ws := wsY y cc nL ret) B.pre w (List.mem_cons_of_mem _ hw)
  have hnm : s.vm.findClass own = some m.cls := by rw [hown]; exact findClass_of_methodNamed B.named
  have hlocks := B.notSynchronized
  have hr := B.returns
  have hx := B.exec
  have hb := B.bytes
  have hC : Cx p s m (av.map (cz ad)).toArray c cc nL own D cy kd ad N := ⟨hx, hb, hml, hnm, hts, hK, hinj, hkd⟩
  have hl := lv_entry (av.map (cz ad)) (n := nL) (by rw [lgsl_map]; exact Nat.ble_eq.mp hlen)
  rw [lg_entry_eq]
  generalize (lg_sl (av.map (cz ad)) ++ List.replicate (nL - (lg_sl (av.map (cz ad))).length) Slot.unset).toArray = ls at hl ⊢
  rw [lvargs_map] at hl
  have hret : ∀ (pc : Nat) (ins : Instr) (lv : LV) (st : List Value) (J : IM) (K : LM), decode cc pc = .ok (ins, 1) → retB ret ins = true → ((ins = .ireturn ∧ ∃ x, st = [.int x]) ∨ (ins = .lreturn ∧ ∃ x, st = [.long x]) ∨ (ins = .freturn ∧ ∃ x, st = [.float x]) ∨ (ins = .dreturn ∧ ∃ x, st = [.double x]) ∨ (ins = .return_ ∧ st = [])) → (st = r.toList ∧ J = I2 ∧ K = L2) → VV p l e rm s m (av.map (cz ad)).toArray below meth c (MQ below (fun _ st oc t => (oc = .returned (r.map (cz ad)) ∧ wd D cy kd ad N I2 L2 t.heap) ∧ va_F (AA ad N) st t) (av.map (cz ad)).toArray s 0 0 (AA ad N)) nL D cy kd ad N pc lv st J K := by
    intro pc ins lv st J K hdg hrb1 hcase hE H locs ls hW hS hl
    obtain ⟨hst, rfl, rfl⟩ := hE
    rcases hcase with ⟨rfl, x, rfl⟩ | ⟨rfl, x, rfl⟩ | ⟨rfl, x, rfl⟩ | ⟨rfl, x, rfl⟩ | ⟨rfl, rfl⟩
    · have hrr : r = some (.int x) := by cases r <;> simp at hst; rw [hst]
      simp only [retB, Bool.or_eq_true, decide_eq_true_eq] at hrb1
      subst hrr
      rcases hrb1 with h | h
      · exact W.iret (v := x) hx hb (hr.trans h) (fun t ht hWm => ⟨⟨rfl, by rw [ht]; exact hW⟩, hS.F ht⟩) hS.2.2 hdg
      · exact W.zret (v := x) hx hb (hr.trans h) (by rcases hz h x rfl with rfl | rfl <;> decide) (fun t ht hWm => ⟨⟨rfl, by rw [ht]; exact hW⟩, hS.F ht⟩) hS.2.2 hdg
    · have hrr : r = some (.long x) := by cases r <;> simp at hst; rw [hst]
      simp only [retB, decide_eq_true_eq] at hrb1
      subst hrr
      exact W.lret (v := x) hx hb (hr.trans hrb1) (fun t ht hWm => ⟨⟨rfl, by rw [ht]; exact hW⟩, hS.F ht⟩) hS.2.2 hdg
    · have hrr : r = some (.float x) := by cases r <;> simp at hst; rw [hst]
      simp only [retB, decide_eq_true_eq] at hrb1
      subst hrr
      exact W.fret (v := x) hx hb (hr.trans hrb1) (fun t ht hWm => ⟨⟨rfl, by rw [ht]; exact hW⟩, hS.F ht⟩) hS.2.2 hdg
    · have hrr : r = some (.double x) := by cases r <;> simp at hst; rw [hst]
      simp only [retB, decide_eq_true_eq] at hrb1
      subst hrr
      exact W.dret (v := x) hx hb (hr.trans hrb1) (fun t ht hWm => ⟨⟨rfl, by rw [ht]; exact hW⟩, hS.F ht⟩) hS.2.2 hdg
    · have hrr : r = none := by cases r <;> simp at hst; rfl
      simp only [retB, decide_eq_true_eq] at hrb1
      subst hrr
      exact W.vret hx hb (hr.trans hrb1) (fun t ht hWm => ⟨⟨rfl, by rw [ht]; exact hW⟩, hS.F ht⟩) hS.2.2 hdg
  refine body (VV p l e rm s m (av.map (cz ad)).toArray below meth c (MQ below (fun _ st oc t => (oc = .returned (r.map (cz ad)) ∧ wd D cy kd ad N I2 L2 t.heap) ∧ va_F (AA ad N) st t) (av.map (cz ad)).toArray s 0 0 (AA ad N)) nL D cy kd ad N) (ru_of hC hF hP hloc hrb hret) s.heap [] ls hW va_S.rf hl
end
section
/-! METHODS THAT THROW -/
/-- the class's texts -/
def txts : List (Nat × String) := [(65, "n is not 2 to 5"), (84, "the sign is neither 1 nor -1"), (155, "the code is not 33 to 126"), (159, "the buffer is full"), (170, "the buffer is not a complete form"), (196, "the snapshot was not taken"), (201, "there is no saved state"), (206, "there is no such property"), (216, "the way is not 0 or 1"), (241, "there is no such result"), (272, "there is no such number"), (303, "there is no such slot"), (306, "there is no such blade"), (308, "there is no such direction"), (310, "there is no such snapshot"), (312, "the grade is out of range"), (314, "the place is out of range"), (316, "the number is out of range"), (322, "the result is refused")]
def exN : List String := ["java/lang/RuntimeException", "java/lang/Exception"]
/-- what a throw needs of the start: two statics of Throwable, and the texts -/
def EX (A : Nat → Prop) (U : State) : Prop := vx_Zq Bundle.tN "UNASSIGNED_STACK" Bundle.steD A U U.heap ∧ vx_Zq Bundle.tN "SUPPRESSED_SENTINEL" Bundle.listD A U U.heap ∧ ∀ q ∈ txts, ∃ sa, vk_R "BladeDesk" q.1 q.2 sa U
theorem EX.moved {A : Nat → Prop} {s U : State} (h : EX A s) (hW : s.WarmedH U.vm) (hq : ∀ a : Nat, a < s.heap.size → ¬ A a → U.heap[a]? = s.heap[a]?) : EX A U :=
  ⟨(vx_Zq.kept h.1 hq).moved hW.alike, (vx_Zq.kept h.2.1 hq).moved hW.alike, fun q hqm => by
    obtain ⟨sa, h1⟩ := h.2.2 q hqm
    exact ⟨sa, h1.warm hW⟩⟩
/-- THE CONTRACT of a throw: over the world of I and L, with these arguments, it throws E0 and leaves the world of I2 and L2 -/
def CX (l : Launch) (kd : KdT) (N : Nat) (y : MethodName) (bytes : ByteArray) (maxL : Nat) (ret : Option FieldType) (rm : Room) (av : List Value) (I : IM) (L : LM) (E0 : String) (I2 : IM) (L2 : LM) : Prop :=
  ∀ (D : va_G) (cy : Nat → ClassId) (ad : Nat → Nat), inj ad N → vx_Met l y (wsY y bytes maxL ret) rm (va_Pc (av.map (cz ad)) (fun U => wd D cy kd ad N I L U.heap ∧ va_K D vwCl (tysC cy) U ∧ EX (AA ad N) U)) (fun _ _ _ _ => False) (fun E st t => E = E0 ∧ wd D cy kd ad N I2 L2 t.heap ∧ va_F (AA ad N) st t) 1 6 (AA ad N)
def RmX (rm R : Room) (maxL : Nat) : Bool := Nat.beq rm.cells 1 && (Nat.beq rm.slots 6 && (Nat.ble (rm.frames + 1) R.frames && (Nat.ble (8 + (maxL + 11) + rm.locals) R.locals && (Nat.ble 1 R.cells && Nat.ble 6 R.slots))))
theorem rmX_of {rm R : Room} {maxL : Nat} (h : RmX rm R maxL = true) : rm.cells = 1 ∧ rm.slots = 6 ∧ rm.frames + 1 ≤ R.frames ∧ 8 + (maxL + 11) + rm.locals ≤ R.locals ∧ 1 ≤ R.cells ∧ 6 ≤ R.slots := by
  simp only [RmX, Bool.and_eq_true, Nat.ble_eq, Nat.beq_eq] at h
  exact h
/-- where a throw stands: new, dup, ldc, invokespecial, athrow -/
def ThrS (cc : ByteArray) (pc ik is ic : Nat) : Prop := decode cc pc = .ok (.new ik, 3) ∧ decode cc (pc + 3) = .ok (.dup, 1) ∧ decode cc (pc + 4) = .ok (.ldc is, 2) ∧ decode cc (pc + 6) = .ok (.invokespecial ic, 3) ∧ decode cc (pc + 9) = .ok (.athrow, 1)
def ThrW (cc : ByteArray) (pc ik is ic : Nat) : Prop := decode cc pc = .ok (.new ik, 3) ∧ decode cc (pc + 3) = .ok (.dup, 1) ∧ decode cc (pc + 4) = .ok (.ldc_w is, 3) ∧ decode cc (pc + 7) = .ok (.invokespecial ic, 3) ∧ decode cc (pc + 10) = .ok (.athrow, 1)
/-- the words of an exception -/
def ExcOK (ik ic : Nat) (cls : String) : Prop := Bundle.fit cls = true ∧ Cond.classLink "BladeDesk" ik cls ∈ WB ∧ Cond.initialized cls ∈ WB ∧ ∀ w ∈ vx_atS "BladeDesk" ic cls exN, w ∈ WB
theorem WB_ot {w : Cond} (h : w ∈ WB) : vx_ot w = true := by
  have := (List.mem_filter.mp h).2
  unfold vx_ot
  rw [this, Bool.or_true]
/-- the rules of a walk that comes to a throw -/
def Rx (l : Launch) (kd : KdT) (N : Nat) (own : String) (cc : ByteArray) (R : Room) (F : Ft) (P : List En) (V : Nat → LV → List Value → IM → LM → Prop) (E0 : String) (I2 : IM) (L2 : LM) : Prop :=
  Ru l kd N own cc R F P V (fun _ _ _ => False) ∧
  (∀ (pc ik is ic : Nat) (cls tx : String) (rest : List Value) (lv : LV) (I : IM) (L : LM), ThrS cc pc ik is ic → (is, tx) ∈ txts → ExcOK ik ic cls → exN.length + 3 < R.frames → (rest.map fun v => v.category).sum + (13 * (exN.length + 1) + 43) ≤ R.locals → 1 ≤ R.cells → 6 ≤ R.slots → (cls = E0 ∧ I = I2 ∧ L = L2) → V pc lv rest I L) ∧
  (∀ (pc ik is ic : Nat) (cls tx : String) (rest : List Value) (lv : LV) (I : IM) (L : LM), ThrW cc pc ik is ic → (is, tx) ∈ txts → ExcOK ik ic cls → exN.length + 3 < R.frames → (rest.map fun v => v.category).sum + (13 * (exN.length + 1) + 43) ≤ R.locals → 1 ≤ R.cells → 6 ≤ R.slots → (cls = E0 ∧ I = I2 ∧ L = L2) → V pc lv rest I L) ∧
  (∀ (pc ix np tg : Nat) (cv : Value) (y : MethodName) (bytes : ByteArray) (maxL : Nat) (ret : Option FieldType) (rm : Room) (av rest : List Value) (lv : LV) (I : IM) (L : LM), lk P pc = some (.invokestatic ix, np, tg, cv) → SitS own ix y bytes maxL ret av.length → RmX rm R maxL = true → CX l kd N y bytes maxL ret rm av I L E0 I2 L2 → (rest.map fun v => v.category).sum ≤ 8 → V pc lv (av.reverse ++ rest) I L) ∧
  (∀ (pc ix np tg : Nat) (cv : Value) (y : MethodName) (bytes : ByteArray) (maxL : Nat) (ret : Option FieldType) (rm : Room) (av rest : List Value) (lv : LV) (I : IM) (L : LM) (i ci b : Nat) (T : u_T) (NF : Nat), lk P pc = some (.invokevirtual ix, np, tg, cv) → SitV own ix y bytes maxL ret av.length → RmX rm R maxL = true → kd i = (0, ci, b) → vwCl[ci]? = some (y.cls, T, NF) → CX l kd N y bytes maxL ret rm (.ref i :: av) I L E0 I2 L2 → (rest.map fun v => v.category).sum ≤ 8 → V pc lv (av.reverse ++ .ref i :: rest) I L)
/-- a callee's throw goes on out of the caller -/
theorem vx_outw {p : Program} {l : Launch} {e : Env} {R : Room} {s : State} {m : MethodId} {args : Array Value} {below : List Frame} {meth : Method} {c : Code} {D : va_G} {cy : Nat → ClassId} {kd : KdT} {ad : Nat → Nat} {N : Nat} {H : Heap} {locs : List Loc} {ls : Array Slot} {pc : Nat} {st0 rest : List Value} {E0 : String} {I2 : IM} {L2 : LM} {Qn : State → Outcome → State → Prop} (hQ : ∀ a b c, ¬ Qn a b c)
    (hr : vx_Run p l e R s m args below meth c H locs 0 0 1 6 (F0 m pc ls st0) rest Qn (fun E st t => E = E0 ∧ wd D cy kd ad N I2 L2 t.heap ∧ va_F (AA ad N) st t) (AA ad N)) (hno : ∀ x ∈ c.exceptionTable.toList, False) (hlocks : meth.locks = false) (hS : va_S (AA ad N) s.heap H locs) :
    W p l e R s m args below meth c H locs 0 0 (vx_MQ below (fun _ _ _ _ => False) (fun E st t => E = E0 ∧ wd D cy kd ad N I2 L2 t.heap ∧ va_F (AA ad N) st t) args s 1 6 (AA ad N)) (F0 m pc ls st0) := by
  intro T hT X
  rcases hr T hT X with ⟨v, st₀, t, T', Lx, h0, X', hL, e1, e2, hq, st⟩ | ⟨q, st₀, t, T', Lx, E, ce, h0, X', hL, e1, e2, ⟨rfl, hwd, hz, hk⟩, hce, hcv, hcl, st⟩
  · exact absurd hq (hQ _ _ _)
  · rw [h0] at hz hk
    have hF : ∀ U : State, U.heap = T'.heap → va_F (AA ad N) s U := fun U hU => ⟨Nat.le_trans hS.1 (by rw [hU, e1]; exact hz), fun q h1 h2 => by rw [hU, e1, hk q (Nat.lt_of_lt_of_le h1 hS.1) h2]; exact hS.2.1 q h1 h2⟩
    obtain ⟨t2, a1, b1⟩ := vx_out (p := p) (l := l) (e := e) (R := R) (s := s) (m := m) (args := args) (below := below) (meth := meth) (c := c) (H := T'.heap) (locs := locs ++ Lx) (cells := 0 + 1) (slots := 0 + 6) (ls := ls) (rest := rest) (Qc := fun _ _ _ _ => False) (XC := fun E' st t => E' = E ∧ wd D cy kd ad N I2 L2 t.heap ∧ va_F (AA ad N) st t) (free := AA ad N) (pc := pc) (E := E) (ce := ce) (q := q) (mc := 1) (ms := 6) (fun x hx => (hno x hx).elim) hlocks (by rw [e1]; exact hce) hcv hcl (fun U hU _ => ⟨rfl, by rw [hU, e1]; exact hwd, hF U hU⟩) (fun z hz => by
      rcases List.mem_append.mp hz with h | h
      · exact hS.2.2 z h
      · exact hL z h) (Nat.le_of_ble_eq_true rfl) (Nat.le_of_ble_eq_true rfl) T' rfl X'
    exact ⟨t2, st.trans a1, b1⟩
theorem cx_of {l : Launch} (hlt : l.stackTraces = false) {kd : KdT} {N : Nat} {y : MethodName} {cc : ByteArray} {nL : Nat} {ret : Option FieldType} {rm : Room} {own : String} {F : Ft} {P : List En} (hy : plainName y.cls = true) (hown : own = y.cls) (hob : own = "BladeDesk") (hkd : kdOK kd N) (hF : FOK own F) (hP : okP cc own P = true) (hloc : P.all (fun q => locB nL q.2.1) = true) (hrb : P.all (fun q => retB ret q.2.1) = true) {av : List Value} {I I2 : IM} {L L2 : LM} {E0 : String} (hlen : Nat.ble (lg_sl av).length nL = true)
    (body : ∀ V : Nat → LV → List Value → IM → LM → Prop, Rx l kd N own cc rm F P V E0 I2 L2 → V 0 (lv_args 0 av) [] I L) : CX l kd N y cc nL ret rm av I L E0 I2 L2 := by
  intro D cy ad hinj
  refine vx_ofW (cc := cc) (maxL := nL) (ret := ret) hy rfl ?_
  intro p e s m args below meth c s₁ B hml hno hv
  obtain ⟨rfl, hW, hK, hEX⟩ := hv
  have hts : ∀ w ∈ WB, w.before (av.map (cz ad)).toArray s = true := fun w hw => atoms_spec (ws := wsY y cc nL ret) B.pre w (List.mem_cons_of_mem _ hw)
  have hnm : s.vm.findClass own = some m.cls := by rw [hown]; exact findClass_of_methodNamed B.named
  have hlocks := B.notSynchronized
  have hx := B.exec
  have hb := B.bytes
  have hC : Cx p s m (av.map (cz ad)).toArray c cc nL own D cy kd ad N := ⟨hx, hb, hml, hnm, hts, hK, hinj, hkd⟩
  have hl := lv_entry (av.map (cz ad)) (n := nL) (by rw [lgsl_map]; exact Nat.ble_eq.mp hlen)
  rw [lg_entry_eq]
  generalize (lg_sl (av.map (cz ad)) ++ List.replicate (nL - (lg_sl (av.map (cz ad))).length) Slot.unset).toArray = ls at hl ⊢
  rw [lvargs_map] at hl
  refine body (VV p l e rm s m (av.map (cz ad)).toArray below meth c (vx_MQ below (fun _ _ _ _ => False) (fun E st t => E = E0 ∧ wd D cy kd ad N I2 L2 t.heap ∧ va_F (AA ad N) st t) (av.map (cz ad)).toArray s 1 6 (AA ad N)) nL D cy kd ad N) ⟨ru_of hC hF hP hloc hrb (fun _ _ _ _ _ _ _ _ _ h => h.elim), ?_, ?_, ?_, ?_⟩ s.heap [] ls hW va_S.rf hl
  · intro pc ik is ic cls tx rest lv J K ⟨d0, d3, d4, d6, d9⟩ htx ⟨x0, x1, x2, x3⟩ hfr hlo hce hsl ⟨rfl, rfl, rfl⟩ H locs ls hW hS hl
    obtain ⟨sa, hsa⟩ := hEX.2.2 _ htx
    subst hob
    exact vx_throwS (names := exN) (sa := sa) (A := AA ad N) hx hb hlt hnm x0 (by decide +kernel) (hts _ x1) (hts _ x2) hsa (fun w hw => hts w (x3 w hw)) (fun w hw => by
      rcases List.mem_cons.mp hw with rfl | hw
      · exact WB_ot x1
      · rcases List.mem_cons.mp hw with rfl | hw
        · exact WB_ot x2
        · exact WB_ot (x3 w hw)) hEX.1 hEX.2.1 hS (hl.1.trans hml.symm) d0 d3 d4 d6 d9 (fun x hx => (hno x hx).elim) hfr (by rw [cz_sum]; exact hlo) (by rw [Nat.zero_add]; exact hce) (by rw [Nat.zero_add]; exact hsl) hlocks (fun t hA hz hk => ⟨rfl, wd_kept hW (fun i hi => hk _ (by
          have := (hW i hi).lt
          exact this)), Nat.le_trans hS.1 hz, fun q h1 h2 => (hk q (Nat.lt_of_lt_of_le h1 hS.1)).trans (hS.2.1 q h1 h2)⟩) hS.2.2 (Nat.le_of_ble_eq_true rfl) (Nat.le_of_ble_eq_true rfl)
  · intro pc ik is ic cls tx rest lv J K ⟨d0, d3, d4, d6, d9⟩ htx ⟨x0, x1, x2, x3⟩ hfr hlo hce hsl ⟨rfl, rfl, rfl⟩ H locs ls hW hS hl
    obtain ⟨sa, hsa⟩ := hEX.2.2 _ htx
    subst hob
    exact vx_throwSW (names := exN) (sa := sa) (A := AA ad N) hx hb hlt hnm x0 (by decide +kernel) (hts _ x1) (hts _ x2) hsa (fun w hw => hts w (x3 w hw)) (fun w hw => by
      rcases List.mem_cons.mp hw with rfl | hw
      · exact WB_ot x1
      · rcases List.mem_cons.mp hw with rfl | hw
        · exact WB_ot x2
        · exact WB_ot (x3 w hw)) hEX.1 hEX.2.1 hS (hl.1.trans hml.symm) d0 d3 d4 d6 d9 (fun x hx => (hno x hx).elim) hfr (by rw [cz_sum]; exact hlo) (by rw [Nat.zero_add]; exact hce) (by rw [Nat.zero_add]; exact hsl) hlocks (fun t hA hz hk => ⟨rfl, wd_kept hW (fun i hi => hk _ (by
          have := (hW i hi).lt
          exact this)), Nat.le_trans hS.1 hz, fun q h1 h2 => (hk q (Nat.lt_of_lt_of_le h1 hS.1)).trans (hS.2.1 q h1 h2)⟩) hS.2.2 (Nat.le_of_ble_eq_true rfl) (Nat.le_of_ble_eq_true rfl)
  · intro pc ix np tg cv y2 bytes2 maxL2 ret2 rm2 av2 rest lv J K hl2 hs hrm hM hcat H locs ls hW hS hl
    obtain ⟨hd, hnp, -⟩ := insOK_of hP hl2
    obtain ⟨⟨h1, h2, h3, h4⟩, hdd⟩ := hs
    obtain ⟨r1, r2, r3, r4, r5, r6⟩ := rmX_of hrm
    refine vx_outw (rest := rest.map (cz ad)) (Qn := fun _ _ _ => False) (fun _ _ _ h => h) ?_ hno hlocks hS
    refine vx_runS (n := av2.length) ⟨hx, hb, hml, hnm, hts⟩ (hM D cy ad hinj) (va_cwS av2.length hts (gIn (fun w hw => ?_)) rfl r1 r2 hdd ⟨r3, r4⟩) ⟨fun a U g mk q => ?_, fun U hU hWm => ⟨rfl, by rw [hU]; exact hW, va_K.moved hWm.alike hK, hEX.moved hWm (fun a h1 h2 => by rw [hU]; exact hS.2.1 a h1 h2)⟩⟩ rfl (by simp) hl.1 (by simp) (lv_room (by rw [cz_sum]; exact hcat)) hd ⟨by rw [Nat.zero_add]; exact r5, by rw [Nat.zero_add]; exact r6⟩
    · rcases List.mem_append.mp hw with h | h
      · simp only [List.mem_cons, List.not_mem_nil, or_false] at h
        rcases h with rfl | rfl | rfl
        · exact h1
        · exact h2
        · exact h3
      · rcases List.mem_cons.mp h with rfl | h
        · exact h4
        · exact h
    · obtain ⟨q0, qW, qK, qE⟩ := q
      exact ⟨q0, qW, va_K.moved (u := U) (U := U.calling g mk a) (Vm.Alike.refl U.vm) qK, ⟨qE.1.moved (U := U.calling g mk a) (Vm.Alike.refl U.vm), qE.2.1.moved (U := U.calling g mk a) (Vm.Alike.refl U.vm), fun z hz => by
        obtain ⟨sa, h1⟩ := qE.2.2 z hz
        exact ⟨sa, h1.same rfl⟩⟩⟩
  · intro pc ix np tg cv y2 bytes2 maxL2 ret2 rm2 av2 rest lv J K i ci b T NF hl2 hs hrm hk1 hcl hM hcat H locs ls hW hS hl
    obtain ⟨hd, hnp, -⟩ := insOK_of hP hl2
    obtain ⟨hlt2, hPo⟩ := wd_obj (ci := 0) hC hW hk1
    obtain ⟨⟨h1, h2, h3, h4, h5⟩, hdd⟩ := hs
    obtain ⟨r1, r2, r3, r4, r5, r6⟩ := rmX_of hrm
    refine vx_outw (rest := rest.map (cz ad)) (Qn := fun _ _ _ => False) (fun _ _ _ h => h) ?_ hno hlocks hS
    refine vx_runV (n := av2.length) (b := ad i) (C := y2.cls) ⟨hx, hb, hml, hnm, hts⟩ (hM D cy ad hinj) (cwV av2.length hts (gIn (fun w hw => ?_)) rfl r1 r2 hdd ⟨r3, r4⟩) ⟨fun a U g mk q => ?_, va_recv hK hPo (ci := ci) (q0 := 0) hcl rfl, fun U hU hWm => ⟨rfl, by rw [hU]; exact hW, va_K.moved hWm.alike hK, hEX.moved hWm (fun a h1 h2 => by rw [hU]; exact hS.2.1 a h1 h2)⟩⟩ rfl (by simp) hl.1 (by simp [cz]) (lv_room (by rw [cz_sum]; exact hcat)) hd ⟨by rw [Nat.zero_add]; exact r5, by rw [Nat.zero_add]; exact r6⟩
    · rcases List.mem_append.mp hw with h | h
      · simp only [List.mem_cons, List.not_mem_nil, or_false] at h
        rcases h with rfl | rfl | rfl | rfl
        · exact h1
        · exact h2
        · exact h3
        · exact h4
      · rcases List.mem_cons.mp h with rfl | h
        · exact h5
        · exact h
    · obtain ⟨q0, qW, qK, qE⟩ := q
      exact ⟨q0, qW, va_K.moved (u := U) (U := U.calling g mk a) (Vm.Alike.refl U.vm) qK, ⟨qE.1.moved (U := U.calling g mk a) (Vm.Alike.refl U.vm), qE.2.1.moved (U := U.calling g mk a) (Vm.Alike.refl U.vm), fun z hz => by
        obtain ⟨sa, h1⟩ := qE.2.2 z hz
        exact ⟨sa, h1.same rfl⟩⟩⟩
end
